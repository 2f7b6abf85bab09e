/-! ===== A MACHINE THAT THE KERNEL RUNS: values are numbers (what kind in the lowest four bits), memory is one binary tree over them, an instruction is a function; below, that what it comes to holds of the walk ===== -/
noncomputable def cnd {α : Type} (c : Bool) (x y : α) : α := Bool.rec (motive := fun _ => α) y x c
abbrev eX : Type := Lean.RArray Nat
abbrev eR : Type := Option (Nat × Nat × eX × Nat × Nat × Nat)
abbrev eRun : Type := Nat → Nat → Nat → List Nat → List Nat → eX → Nat → Nat → Nat → eR
abbrev eStep : Type := eRun → eRun
abbrev eBd : Type := List (Nat × Nat)
def eL : eX := .leaf 0
def eNd (l : eX) (v : Nat) (r : eX) : eX := .branch v l r
noncomputable def eGet (t : eX) : Nat → Nat := Lean.RArray.rec (motive := fun _ => Nat → Nat) (fun _ _ => 0)
  (fun v _ _ gl gr k => cnd (Nat.beq k 1) v (cnd (Nat.beq (Nat.land k 1) 0) (gl (Nat.div k 2)) (gr (Nat.div k 2)))) t
/-- leaf or node -/
noncomputable def eCs {α : Type} (t : eX) (z : α) (n : eX → Nat → eX → α) : α := Lean.RArray.rec (motive := fun _ => α) (fun _ => z) (fun v l r _ _ => n l v r) t
noncomputable def eSetK {α : Type} (f : Nat) : eX → Nat → Nat → (eX → α) → α := Nat.rec (motive := fun _ => eX → Nat → Nat → (eX → α) → α) (fun t _ _ c => c t)
  (fun _ ih t k v c => eCs t
    (cnd (Nat.beq k 1) (c (eNd eL v eL)) (cnd (Nat.beq (Nat.land k 1) 0) (ih eL (Nat.div k 2) v fun l => c (eNd l 0 eL)) (ih eL (Nat.div k 2) v fun r => c (eNd eL 0 r))))
    (fun l w r => cnd (Nat.beq k 1) (c (eNd l v r)) (cnd (Nat.beq (Nat.land k 1) 0) (ih l (Nat.div k 2) v fun l' => c (eNd l' w r)) (ih r (Nat.div k 2) v fun r' => c (eNd l w r'))))) f
/-- a number is made before it is used -/
noncomputable def fo {α : Type} (n : Nat) (k : Nat → α) : α := Nat.rec (motive := fun _ => α) (k 0) (fun m _ => k (Nat.succ m)) n
noncomputable def eNth (l : List Nat) : Nat → Nat := List.rec (motive := fun _ => Nat → Nat) (fun _ => 0) (fun a _ ih i => Nat.rec (motive := fun _ => Nat) a (fun j _ => ih j) i) l
noncomputable def eSn {α : Type} (l : List Nat) : Nat → Nat → (List Nat → α) → α := List.rec (motive := fun _ => Nat → Nat → (List Nat → α) → α) (fun _ _ c => c []) (fun a t ih i v c => Nat.rec (motive := fun _ => α) (c (v :: t)) (fun j _ => ih j v (fun t' => c (a :: t'))) i) l
noncomputable def eP {α : Type} (st : List Nat) (k : Nat → List Nat → Option α) : Option α := List.rec (motive := fun _ => Option α) none (fun a s _ => k a s) st
noncomputable def eGd {α : Type} (c : Bool) (k : Option α) : Option α := Bool.rec (motive := fun _ => Option α) none k c
def eKy (a k : Nat) : Nat := Nat.add a (Nat.mul 2048 (Nat.succ k))
noncomputable def eSub (n : Nat) : eX → Nat → eX := Nat.rec (motive := fun _ => eX → Nat → eX) (fun t _ => t) (fun _ ih t a => eCs t eL (fun l _ r => cnd (Nat.beq (Nat.land a 1) 0) (ih l (Nat.div a 2)) (ih r (Nat.div a 2)))) n
noncomputable def eGq (t : eX) (a k : Nat) : Nat := eGet (eSub 11 t a) (Nat.succ k)
def ePl (v : Nat) : Nat := Nat.div v 16
def eI (n : Nat) : Nat := Nat.add (Nat.mul 16 n) 1
def eS (k : Nat) : Nat := Nat.add (Nat.mul 16 k) 2
def eRg (lo hi : Nat) : Nat := Nat.add (Nat.mul 16 (Nat.add lo (Nat.mul 4294967296 hi))) 3
def eAny : Nat := 295147905110633349123
def eLg (n : Nat) : Nat := Nat.add (Nat.mul 16 n) 4
def eO (a : Nat) : Nat := Nat.add (Nat.mul 16 a) 6
/-- headers: an object of class c; an array of kind ty and a length -/
def eHO (c : Nat) : Nat := Nat.add (Nat.mul 2 c) 1
def eHA (ty n : Nat) : Nat := Nat.add (Nat.mul 2 (Nat.add ty (Nat.mul 16 n))) 2
def eHi (v : Nat) : Nat := Nat.div (ePl v) 4294967296
def eLo (v : Nat) : Nat := Nat.mod (ePl v) 4294967296
noncomputable def eIi (v : Nat) : Bool := cnd (Nat.beq (Nat.land v 15) 1) true (cnd (Nat.beq (Nat.land v 15) 2) true (Nat.beq (Nat.land v 15) 3))
noncomputable def eIl (v : Nat) : Bool := cnd (Nat.beq (Nat.land v 15) 4) true (Nat.beq (Nat.land v 15) 5)
noncomputable def eIa (v : Nat) : Bool := cnd (Nat.ble 6 (Nat.land v 15)) (Nat.ble (Nat.land v 15) 11) false
/-- what lies in a cell, as an int (0), a long (1), a reference (2); 0: neither -/
noncomputable def eCvI (w : Nat) : Nat := cnd (Nat.beq w 0) 1 (cnd (eIi w) w 0)
noncomputable def eCvL (w : Nat) : Nat := cnd (Nat.beq w 0) 4 (cnd (eIl w) w 0)
noncomputable def eCvR (w : Nat) : Nat := cnd (Nat.beq w 0) 9 (cnd (eIa w) w 0)
/-- two ints that are known, or any -/
noncomputable def eF2 (f : Nat → Nat → Nat) (x y : Nat) : Nat := cnd (Nat.beq (Nat.land x 15) 1) (cnd (Nat.beq (Nat.land y 15) 1) (eI (Nat.mod (f (ePl x) (ePl y)) 4294967296)) (cnd (eIi y) eAny 0)) (cnd (eIi x) (cnd (eIi y) eAny 0) 0)
/-- the bounds of an int -/
noncomputable def eBn (B : eBd) (k : Nat) : Nat × Nat := List.rec (motive := fun _ => Nat → Nat × Nat) (fun _ => (0, 4294967295)) (fun a _ ih i => Nat.rec (motive := fun _ => Nat × Nat) a (fun j _ => ih j) i) B k
noncomputable def eRng {α : Type} (B : eBd) (v : Nat) (c : Nat → Nat → Option α) : Option α := cnd (Nat.beq (Nat.land v 15) 1) (c (ePl v) (ePl v)) (cnd (Nat.beq (Nat.land v 15) 2) (c (eBn B (ePl v)).1 (eBn B (ePl v)).2) (cnd (Nat.beq (Nat.land v 15) 3) (c (eLo v) (eHi v)) none))
def eSg (n : Nat) : Nat := Nat.mod (Nat.add n 2147483648) 4294967296
/-- both ends in one half -/
noncomputable def eHf (lo hi : Nat) : Bool := cnd (Nat.ble hi 2147483647) true (cnd (Nat.ble 2147483648 lo) (Nat.ble hi 4294967295) false)
/-- eq ne lt ge gt le: 0 no, 1 yes, 2 not known -/
noncomputable def eEq (a b c d : Nat) : Nat := cnd (Nat.beq a b) (cnd (Nat.beq c d) (cnd (Nat.beq a c) 1 0) (cnd (Nat.ble (Nat.succ b) c) 0 (cnd (Nat.ble (Nat.succ d) a) 0 2))) (cnd (Nat.ble (Nat.succ b) c) 0 (cnd (Nat.ble (Nat.succ d) a) 0 2))
noncomputable def eLt (a b c d : Nat) : Nat := cnd (eHf a b) (cnd (eHf c d) (cnd (Nat.ble (Nat.succ (eSg b)) (eSg c)) 1 (cnd (Nat.ble (eSg d) (eSg a)) 0 2)) 2) 2
noncomputable def eNo (r : Nat) : Nat := cnd (Nat.beq r 0) 1 (cnd (Nat.beq r 1) 0 2)
noncomputable def eCmp (op a b c d : Nat) : Nat := Nat.rec (motive := fun _ => Nat) (eEq a b c d) (fun o1 _ => Nat.rec (motive := fun _ => Nat) (eNo (eEq a b c d)) (fun o2 _ => Nat.rec (motive := fun _ => Nat) (eLt a b c d) (fun o3 _ => Nat.rec (motive := fun _ => Nat) (eNo (eLt a b c d)) (fun o4 _ => Nat.rec (motive := fun _ => Nat) (eLt c d a b) (fun _ _ => eNo (eLt c d a b)) o4) o3) o2) o1) op
noncomputable def eBr {α : Type} (r : Nat) (y n : Option α) : Option α := cnd (Nat.beq r 1) y (cnd (Nat.beq r 0) n none)
noncomputable def eCat (st : List Nat) : Nat := List.rec (motive := fun _ => Nat) 0 (fun a _ ih => cnd (eIl a) (Nat.succ (Nat.succ ih)) (Nat.succ ih)) st
noncomputable def eTk {α : Type} (n : Nat) : List Nat → List Nat → (List Nat → List Nat → Option α) → Option α := Nat.rec (motive := fun _ => List Nat → List Nat → (List Nat → List Nat → Option α) → Option α) (fun st a c => c a st) (fun _ ih st a c => eP st fun v s => ih s (v :: a) c) n
/-- the locals of a callee -/
noncomputable def eLc (as pad : List Nat) : List Nat := List.rec (motive := fun _ => List Nat) pad (fun a _ ih => cnd (eIl a) (a :: 0 :: ih) (a :: ih)) as
/-- an object's address -/
noncomputable def eAd {α : Type} (v : Nat) (c : Nat → Option α) : Option α := eGd (Nat.beq (Nat.land v 15) 6) (eGd (Nat.ble (ePl v) 2047) (c (ePl v)))
def hK (v np : Nat) : eStep := fun ih dd i _ lv st t x p u => ih dd i np lv (v :: st) t x p u
noncomputable def hLd (ok : Nat → Bool) (j np : Nat) : eStep := fun ih dd i _ lv st t x p u => fo (eNth lv j) fun v => eGd (ok v) (ih dd i np lv (v :: st) t x p u)
noncomputable def hSt (ok : Nat → Bool) (j np : Nat) : eStep := fun ih dd i _ lv st t x p u => eP st fun v s => eGd (ok v) (eGd (cnd (eIl (eNth lv (Nat.pred j))) false true) (eSn lv j v fun lv' => ih dd i np lv' s t x p u))
noncomputable def hInc (j z np : Nat) : eStep := fun ih dd i _ lv st t x p u => fo (eF2 Nat.add (eNth lv j) (eI z)) fun w => eGd (eIi w) (eGd (cnd (eIl (eNth lv (Nat.pred j))) false true) (eSn lv j w fun lv' => ih dd i np lv' st t x p u))
noncomputable def hB (f : Nat → Nat → Nat) (np : Nat) : eStep := fun ih dd i _ lv st t x p u => eP st fun b s => eP s fun a s' => fo (f a b) fun z => cnd (Nat.beq z 0) none (ih dd i np lv (z :: s') t x p u)
noncomputable def hU (f : Nat → Nat) (np : Nat) : eStep := fun ih dd i _ lv st t x p u => eP st fun a s => fo (f a) fun z => cnd (Nat.beq z 0) none (ih dd i np lv (z :: s) t x p u)
noncomputable def hDup (np : Nat) : eStep := fun ih dd i _ lv st t x p u => eP st fun a s => eGd (cnd (eIl a) false true) (ih dd i np lv (a :: a :: s) t x p u)
noncomputable def hPop (np : Nat) : eStep := fun ih dd i _ lv st t x p u => eP st fun a s => eGd (cnd (eIl a) false true) (ih dd i np lv s t x p u)
noncomputable def hDup2 (np : Nat) : eStep := fun ih dd i _ lv st t x p u => eP st fun a s => eP s fun b s' => eGd (cnd (eIl a) false (cnd (eIl b) false true)) (ih dd i np lv (a :: b :: a :: b :: s') t x p u)
def hGo (np : Nat) : eStep := fun ih dd i _ lv st t x p u => ih dd i np lv st t x p u
noncomputable def hIf (B : eBd) (op tgt np : Nat) : eStep := fun ih dd i _ lv st t x p u => eP st fun a s => eRng B a fun lo hi => eBr (eCmp op lo hi 0 0) (ih dd i tgt lv s t x p u) (ih dd i np lv s t x p u)
noncomputable def hIc (B : eBd) (op tgt np : Nat) : eStep := fun ih dd i _ lv st t x p u => eP st fun b s => eP s fun a s' => eRng B a fun lo hi => eRng B b fun lo2 hi2 => eBr (eCmp op lo hi lo2 hi2) (ih dd i tgt lv s' t x p u) (ih dd i np lv s' t x p u)
noncomputable def hNul (tgt np : Nat) : eStep := fun ih dd i _ lv st t x p u => eP st fun a s => cnd (Nat.beq a 9) (ih dd i tgt lv s t x p u) (eGd (cnd (eIa a) (cnd (Nat.beq (Nat.land a 15) 9) false true) false) (ih dd i np lv s t x p u))
noncomputable def hSw (B : eBd) (lo : Nat) (ts : List Nat) (df : Nat) : eStep := fun ih dd i _ lv st t x p u => eP st fun a s => eRng B a fun l h => cnd (Nat.ble (Nat.add lo ts.length) l) (ih dd i df lv s t x p u) (eGd (Nat.beq l h) (cnd (Nat.ble lo l) (fo (eNth ts (Nat.sub l lo)) fun q => ih dd i q lv s t x p u) (ih dd i df lv s t x p u)))
noncomputable def hGf (cv : Nat → Nat) (c k np : Nat) : eStep := fun ih dd i _ lv st t x p u => eP st fun r s => eAd r fun a => eGd (Nat.beq (eGq t a 0) (eHO c)) (fo (cv (eGq t a (Nat.succ k))) fun z => cnd (Nat.beq z 0) none (ih dd i np lv (z :: s) t x p u))
noncomputable def hPf (ok : Nat → Bool) (c k np : Nat) : eStep := fun ih dd i _ lv st t x p u => eP st fun v s => eP s fun r s' => eGd (ok v) (eAd r fun a => eGd (Nat.beq (eGq t a 0) (eHO c)) (eSetK 40 t (eKy a (Nat.succ k)) v fun t' => ih dd i np lv s' t' x p u))
/-- an array's kind and length -/
noncomputable def eAr {α : Type} (t : eX) (a : Nat) (c : Nat → Nat → Option α) : Option α := fo (eGq t a 0) fun h => cnd (Nat.beq h 0) none (cnd (Nat.beq (Nat.land h 1) 0) (c (Nat.mod (Nat.pred (Nat.div h 2)) 16) (Nat.div (Nat.pred (Nat.div h 2)) 16)) none)
/-- loads: ok of the kind -/
noncomputable def hAl (ok : Nat → Bool) (cv : Nat → Nat) (np : Nat) : eStep := fun ih dd i _ lv st t x p u => eP st fun j s => eP s fun r s' => eGd (Nat.beq (Nat.land j 15) 1) (eAd r fun a => eAr t a fun ty n => eGd (ok ty) (eGd (Nat.ble (Nat.succ (ePl j)) n) (eGd (Nat.ble n 2147483647) (fo (cv (eGq t a (Nat.succ (ePl j)))) fun z => cnd (Nat.beq z 0) none (ih dd i np lv (z :: s') t x p u)))))
/-- the script: an int that is known is a number -/
noncomputable def eSc (B : eBd) (k : Nat) : Nat := cnd (Nat.beq (eBn B k).1 (eBn B k).2) (eI (eBn B k).1) (eS k)
noncomputable def hScr (B : eBd) (np : Nat) : eStep := fun ih dd i _ lv st t x p u => eP st fun j s => eP s fun r s' => eGd (Nat.beq r 10) (eGd (Nat.beq (Nat.land j 15) 1) (eGd (Nat.ble (Nat.succ (ePl j)) B.length) (fo (eSc B (ePl j)) fun z => ih dd i np lv (z :: s') t x p u)))
/-- stores: what is stored of v in an array of kind ty (0: nothing can be) -/
noncomputable def eB8 (v : Nat) : Nat := cnd (Nat.beq (Nat.land v 15) 1) (cnd (Nat.ble (Nat.mod (ePl v) 256) 127) (eI (Nat.mod (ePl v) 256)) (eI (Nat.add (Nat.mod (ePl v) 256) 4294967040))) (cnd (eIi v) eAny 0)
noncomputable def eZ1 (v : Nat) : Nat := cnd (Nat.beq v 1) 1 (cnd (Nat.beq v 17) 17 0)
noncomputable def eStI (ty v : Nat) : Nat := cnd (Nat.beq ty 0) (cnd (eIi v) v 0) 0
noncomputable def eStL (ty v : Nat) : Nat := cnd (Nat.beq ty 1) (cnd (eIl v) v 0) 0
noncomputable def eStB (ty v : Nat) : Nat := cnd (Nat.beq ty 2) (eB8 v) (cnd (Nat.beq ty 3) (eZ1 v) 0)
noncomputable def hAs (sv : Nat → Nat → Nat) (np : Nat) : eStep := fun ih dd i _ lv st t x p u => eP st fun v s => eP s fun j s1 => eP s1 fun r s2 => eGd (Nat.beq (Nat.land j 15) 1) (eAd r fun a => eAr t a fun ty n => eGd (Nat.ble (Nat.succ (ePl j)) n) (eGd (Nat.ble n 16777215) (fo (sv ty v) fun z => cnd (Nat.beq z 0) none (eSetK 40 t (eKy a (Nat.succ (ePl j))) z fun t' => ih dd i np lv s2 t' x p u))))
/-- of references: null, or an object of the kind's class -/
noncomputable def eElC (ty : Nat) : Nat := cnd (Nat.beq ty 4) 8 (cnd (Nat.beq ty 5) 4 (cnd (Nat.beq ty 6) 5 7))
noncomputable def hAa (np : Nat) : eStep := fun ih dd i _ lv st t x p u => eP st fun v s => eP s fun j s1 => eP s1 fun r s2 => eGd (Nat.beq (Nat.land j 15) 1) (eAd r fun a => eAr t a fun ty n => eGd (Nat.ble (Nat.succ (ePl j)) n) (eGd (Nat.ble n 16777215) (eGd (Nat.ble 4 ty) (eGd (Nat.ble ty 7) (cnd (Nat.beq v 9) (eSetK 40 t (eKy a (Nat.succ (ePl j))) v fun t' => ih dd i np lv s2 t' x p u) (eAd v fun b => eGd (Nat.beq (eGq t b 0) (eHO (eElC ty))) (eSetK 40 t (eKy a (Nat.succ (ePl j))) v fun t' => ih dd i np lv s2 t' x p u)))))))
noncomputable def hLen (np : Nat) : eStep := fun ih dd i _ lv st t x p u => eP st fun r s => cnd (Nat.beq r 7) (ih dd i np lv (1 :: s) t x p u) (cnd (Nat.beq r 8) (ih dd i np lv (1 :: s) t x p u) (eAd r fun a => eAr t a fun ty n => eGd (Nat.ble ty 8) (eGd (Nat.ble n 2147483647) (fo (eI n) fun z => ih dd i np lv (z :: s) t x p u))))
/-- ===== what is made ===== -/
noncomputable def hNew (c sz np : Nat) : eStep := fun ih dd i _ lv st t x p u => eGd (Nat.beq u 0) (eGd (Nat.ble x 2047) (eSetK 40 t (eKy x 0) (eHO c) fun t' => fo (eO x) fun r => fo (Nat.succ x) fun x' => fo (Nat.add p sz) fun p' => ih dd i np lv (r :: st) t' x' p' u))
noncomputable def hNa (ty np : Nat) : eStep := fun ih dd i _ lv st t x p u => eP st fun v s => eGd (Nat.beq (Nat.land v 15) 1) (eGd (Nat.ble (ePl v) 1000000) (eGd (Nat.beq u 0) (eGd (Nat.ble x 2047) (eSetK 40 t (eKy x 0) (eHA ty (ePl v)) fun t' => fo (eO x) fun r => fo (Nat.succ x) fun x' => fo (Nat.add p (ePl v)) fun p' => ih dd i np lv (r :: s) t' x' p' u))))
/-- rows of new int[n][k]: from row j on, at address a -/
noncomputable def eRw {α : Type} (m : Nat) : eX → Nat → Nat → Nat → Nat → (eX → Option α) → Option α := Nat.rec (motive := fun _ => eX → Nat → Nat → Nat → Nat → (eX → Option α) → Option α) (fun t _ _ _ _ c => c t) (fun _ ih t o a j k c => eGd (Nat.ble a 2047) (eSetK 40 t (eKy a 0) (eHA 0 k) fun t1 => fo (eO a) fun r => eSetK 40 t1 (eKy o (Nat.succ j)) r fun t2 => fo (Nat.succ a) fun a' => fo (Nat.succ j) fun j' => ih t2 o a' j' k c)) m
noncomputable def hMna (np : Nat) : eStep := fun ih dd i _ lv st t x p u => eP st fun v s => eP s fun w s1 => eGd (Nat.beq (Nat.land v 15) 1) (eGd (Nat.beq (Nat.land w 15) 1) (eGd (Nat.ble (ePl v) 10000) (eGd (Nat.ble (ePl w) 1000) (eGd (Nat.beq u 0) (eGd (Nat.ble x 2047) (eSetK 40 t (eKy x 0) (eHA 8 (ePl w)) fun t1 => eRw (ePl w) t1 x (Nat.succ x) 0 (ePl v) fun t2 => fo (eO x) fun r => fo (Nat.add (Nat.succ x) (ePl w)) fun x' => fo (Nat.add p (Nat.add (ePl w) (Nat.mul (ePl w) (ePl v)))) fun p' => ih dd i np lv (r :: s1) t2 x' p' u))))))
/-- ===== ends ===== -/
noncomputable def hRet0 : eStep := fun _ _ _ _ _ st t x p u => List.rec (motive := fun _ => eR) (some (0, 0, t, x, p, u)) (fun _ _ _ => none) st
noncomputable def hRet (ok : Nat → Bool) : eStep := fun _ _ _ _ _ st t x p u => eP st fun v s => eGd (ok v) (List.rec (motive := fun _ => eR) (some (0, v, t, x, p, u)) (fun _ _ _ => none) s)
noncomputable def eIz (v : Nat) : Bool := cnd (Nat.beq v 1) true (Nat.beq v 17)
noncomputable def hThr (E : Nat) : eStep := fun _ dd _ _ _ st t x p u => eGd (Nat.ble 6 dd) (eGd (Nat.ble (eCat st) 8) (fo (Nat.succ x) fun x' => fo (Nat.add p 6) fun p' => some (Nat.succ E, 0, t, x', p', 1)))
/-- ===== calls ===== -/
noncomputable def eH (h kd : Nat) (ih : eRun) (dd i : Nat) (lv : List Nat) (t : eX) (x p : Nat) : eR := cnd (Nat.beq h 0) none (cnd (Nat.beq h 1) (some (kd, 0, t, x, p, 1)) (ih dd i (Nat.pred (Nat.pred h)) lv [11] t x p 1))
/-- hs: what each of the thrown classes comes to here: 0 not known, 1 it goes on, else the place + 2 -/
noncomputable def eCl (m mz : Nat) (pad hs : List Nat) (np : Nat) (as rest : List Nat) : eStep := fun ih dd i _ lv _ t x p u => eGd (Nat.ble (eCat rest) 8) (eGd (Nat.ble (eCat as) mz) (Nat.rec (motive := fun _ => eR) none (fun d' _ =>
  Option.rec (motive := fun _ => eR) none (fun r => Prod.rec (motive := fun _ => eR) (fun kd r1 => Prod.rec (motive := fun _ => eR) (fun v r2 => Prod.rec (motive := fun _ => eR) (fun t' r3 => Prod.rec (motive := fun _ => eR) (fun x' r4 => Prod.rec (motive := fun _ => eR) (fun p' u' =>
    cnd (Nat.beq kd 0) (cnd (Nat.beq v 0) (ih dd i np lv rest t' x' p' u') (ih dd i np lv (v :: rest) t' x' p' u')) (eGd (Nat.ble kd 100) (eH (eNth hs (Nat.pred kd)) kd ih dd i lv t' x' p'))) r4) r3) r2) r1) r) (ih d' m 0 (eLc as pad) [] t x p u)) dd))
/-- of an object of class c0, with n arguments -/
noncomputable def hInV (c0 n m mz : Nat) (pad hs : List Nat) (np : Nat) : eStep := fun ih dd i pc lv st t x p u => eTk n st [] fun as s => eP s fun r rest => eAd r fun a => eGd (Nat.beq (eGq t a 0) (eHO c0)) (eCl m mz pad hs np (r :: as) rest ih dd i pc lv st t x p u)
noncomputable def hInS (n m mz : Nat) (pad hs : List Nat) (np : Nat) : eStep := fun ih dd i pc lv st t x p u => eTk n st [] fun as rest => eCl m mz pad hs np as rest ih dd i pc lv st t x p u
noncomputable def hInI (n m mz : Nat) (pad : List Nat) (np : Nat) : eStep := fun ih dd i pc lv st t x p u => eTk n st [] fun as s => eP s fun r rest => eGd (Nat.beq (Nat.land r 15) 6) (eCl m mz pad [] np (r :: as) rest ih dd i pc lv st t x p u)
noncomputable def hOi (np : Nat) : eStep := fun ih dd i _ lv st t x p u => eP st fun r s => eGd (Nat.beq (Nat.land r 15) 6) (eGd (Nat.ble (eCat s) 8) (eGd (Nat.ble 1 dd) (ih dd i np lv s t x p u)))
noncomputable def hMm (f : Nat → Nat → Nat) (np : Nat) : eStep := fun ih dd i _ lv st t x p u => eP st fun b s => eP s fun a s' => eGd (Nat.ble 1 dd) (eGd (Nat.ble (eCat s') 8) (fo (f a b) fun z => cnd (Nat.beq z 0) none (ih dd i np lv (z :: s') t x p u)))
/-- n places of a0 from s0 on into a from d0 on -/
noncomputable def eCp {α : Type} (n : Nat) : eX → Nat → Nat → Nat → Nat → (eX → Option α) → Option α := Nat.rec (motive := fun _ => eX → Nat → Nat → Nat → Nat → (eX → Option α) → Option α) (fun t _ _ _ _ c => c t) (fun _ ih t a0 s0 a d0 c => fo (eGet t (eKy a0 (Nat.succ s0))) fun v => eSetK 40 t (eKy a (Nat.succ d0)) v fun t' => fo (Nat.succ s0) fun s1 => fo (Nat.succ d0) fun d1 => ih t' a0 s1 a d1 c) n
noncomputable def hCp (ty np : Nat) : eStep := fun ih dd i _ lv st t x p u => eP st fun n s => eP s fun dp s1 => eP s1 fun r s2 => eP s2 fun sp s3 => eP s3 fun r0 rest => eGd (Nat.beq (Nat.land n 15) 1) (eGd (Nat.beq (Nat.land dp 15) 1) (eGd (Nat.beq (Nat.land sp 15) 1) (eAd r fun a => eAd r0 fun a0 => eAr t a fun y1 n1 => eAr t a0 fun y0 n0 => eGd (Nat.beq y1 ty) (eGd (Nat.beq y0 ty) (eGd (Nat.ble n1 16777215) (eGd (Nat.ble n0 16777215) (eGd (Nat.ble (Nat.add (ePl sp) (ePl n)) n0) (eGd (Nat.ble (Nat.add (ePl dp) (ePl n)) n1) (eGd (Nat.ble 2 dd) (eGd (Nat.ble (eCat rest) 8) (cnd (Nat.beq a a0) (eGd (Nat.beq (ePl dp) (ePl sp)) (ih dd i np lv rest t x p u)) (eCp (ePl n) t a0 (ePl sp) a (ePl dp) fun t' => ih dd i np lv rest t' x p u))))))))))))
noncomputable def ev (tab : Nat → Nat → Option eStep) (f : Nat) : eRun := Nat.rec (motive := fun _ => eRun) (fun _ _ _ _ _ _ _ _ _ => none) (fun _ ih dd i pc lv st t x p u => Option.rec (motive := fun _ => eR) none (fun s => s ih dd i pc lv st t x p u) (tab i pc)) f

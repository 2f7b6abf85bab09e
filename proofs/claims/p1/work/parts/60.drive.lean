/-! ===== the law's walk: its end, cuts, and the script's ints split into boxes ===== -/
theorem c_and {a c : Bool} (h : cnd a c false = true) : a = true ∧ c = true := by
  cases a
  · cases h
  · exact ⟨rfl, h⟩
/-- the law has answered true -/
noncomputable def eOk (r : eR) : Bool := Option.rec (motive := fun _ => Bool) false (fun q => Prod.rec (motive := fun _ => Bool) (fun kd q1 => Prod.rec (motive := fun _ => Bool) (fun v q2 => Prod.rec (motive := fun _ => Bool) (fun _ q3 => Prod.rec (motive := fun _ => Bool) (fun x q4 => Prod.rec (motive := fun _ => Bool) (fun p _ => cnd (Nat.beq kd 0) (cnd (Nat.beq v 17) (cnd (Nat.ble x 5000) (Nat.ble p 4000000) false) false) false) q4) q3) q2) q1) q) r
theorem eOk_ok {r : eR} (h : eOk r = true) : ∃ t x p u, r = some (0, 17, t, x, p, u) ∧ x ≤ 5000 ∧ p ≤ 4000000 := by
  cases r with
  | none => cases h
  | some q =>
    obtain ⟨kd, v, t, x, p, u⟩ := q
    have h1 : cnd (Nat.beq kd 0) (cnd (Nat.beq v 17) (cnd (Nat.ble x 5000) (Nat.ble p 4000000) false) false) false = true := h
    obtain ⟨a1, h2⟩ := c_and h1
    obtain ⟨a2, h3⟩ := c_and h2
    obtain ⟨a3, a4⟩ := c_and h3
    have e1 := beq_t a1
    have e2 := beq_t a2
    subst e1; subst e2
    exact ⟨t, x, p, u, rfl, ble_t a3, ble_t a4⟩
noncomputable def eLq (a : List Nat) : List Nat → Bool := List.rec (motive := fun _ => List Nat → Bool) (fun c => List.rec (motive := fun _ => Bool) true (fun _ _ _ => false) c) (fun v _ ih c => List.rec (motive := fun _ => Bool) false (fun w s _ => cnd (Nat.beq v w) (ih s) false) c) a
theorem eLq_ok (a : List Nat) : ∀ (c : List Nat), eLq a c = true → a = c := by
  induction a with
  | nil =>
    intro c h
    cases c with
    | nil => rfl
    | cons w s => cases h
  | cons v a ih =>
    intro c h
    cases c with
    | nil => cases h
    | cons w s =>
      have h1 : cnd (Nat.beq v w) (eLq a s) false = true := h
      obtain ⟨h2, h3⟩ := c_and h1
      rw [beq_t h2, ih s h3]
/-- two trees tell the same -/
noncomputable def eTq (s : eX) : eX → Bool := Lean.RArray.rec (motive := fun _ => eX → Bool) (fun _ t => eCs t true (fun _ _ _ => false)) (fun v _ _ fl fr t => eCs t false (fun l w r => cnd (Nat.beq v w) (cnd (fl l) (fr r) false) false)) s
theorem eTq_ok (s : eX) : ∀ (t : eX), eTq s t = true → ∀ k, eGet t k = eGet s k := by
  induction s with
  | leaf v =>
    intro t h k
    cases t with
    | leaf w => rfl
    | branch w l r => cases h
  | branch v sl sr ihl ihr =>
    intro t h k
    cases t with
    | leaf w => cases h
    | branch w l r =>
      have h1 : cnd (Nat.beq v w) (cnd (eTq sl l) (eTq sr r) false) false = true := h
      obtain ⟨h2, h3⟩ := c_and h1
      obtain ⟨h4, h5⟩ := c_and h3
      rw [show (Lean.RArray.branch v sl sr : eX) = eNd sl v sr from rfl, show (Lean.RArray.branch w l r : eX) = eNd l w r from rfl, eGet_N, eGet_N, ihl l h4, ihr r h5, beq_t h2]
theorem eMm_eq {g : kG} {b : Nat} {s t : eX} {x u : Nat} {M : kM} (e : ∀ k, eGet t k = eGet s k) (h : eMm g b t x u M) : eMm g b s x u M := by
  obtain ⟨m1, m2, m3, m4, m5⟩ := h
  refine ⟨m1, fun a ha => ?_, fun a h1 h2 k => by rw [← e]; exact m3 a h1 h2 k, m4, m5⟩
  have := m2 a ha
  unfold eCell at this ⊢
  simp only [e] at this
  exact this
/-- where a walk was cut -/
noncomputable def eCk (pcE : Nat) (lvE stE : List Nat) (tE : eX) (xE pE uE : Nat) (r : eR) : Bool := Option.rec (motive := fun _ => Bool) false (fun q => Prod.rec (motive := fun _ => Bool) (fun kd q1 => Prod.rec (motive := fun _ => Bool) (fun v q2 => Prod.rec (motive := fun _ => Bool) (fun t q3 => Prod.rec (motive := fun _ => Bool) (fun x q4 => Prod.rec (motive := fun _ => Bool) (fun p u => cnd (Nat.beq kd 200) (cnd (Nat.beq v pcE) (cnd (eLq lvE (eDv9 t)) (cnd (eLq stE (eDs t)) (cnd (eTq tE (eDt t)) (cnd (Nat.beq x xE) (cnd (Nat.beq p pE) (Nat.beq u uE) false) false) false) false) false) false) false) q4) q3) q2) q1) q) r
theorem eCk_ok {pcE : Nat} {lvE stE : List Nat} {tE : eX} {xE pE uE : Nat} {r : eR} (h : eCk pcE lvE stE tE xE pE uE r = true) : ∃ t, r = some (200, pcE, t, xE, pE, uE) ∧ eDv9 t = lvE ∧ eDs t = stE ∧ ∀ k, eGet (eDt t) k = eGet tE k := by
  cases r with
  | none => cases h
  | some q =>
    obtain ⟨kd, v, t, x, p, u⟩ := q
    have h1 : cnd (Nat.beq kd 200) (cnd (Nat.beq v pcE) (cnd (eLq lvE (eDv9 t)) (cnd (eLq stE (eDs t)) (cnd (eTq tE (eDt t)) (cnd (Nat.beq x xE) (cnd (Nat.beq p pE) (Nat.beq u uE) false) false) false) false) false) false) false = true := h
    obtain ⟨a1, h2⟩ := c_and h1
    obtain ⟨a2, h3⟩ := c_and h2
    obtain ⟨a3, h4⟩ := c_and h3
    obtain ⟨a4, h5⟩ := c_and h4
    obtain ⟨a5, h6⟩ := c_and h5
    obtain ⟨a6, h7⟩ := c_and h6
    obtain ⟨a7, a8⟩ := c_and h7
    have e1 := beq_t a1
    have e2 := beq_t a2
    have e6 := beq_t a6
    have e7 := beq_t a7
    have e8 := beq_t a8
    subst e1; subst e2; subst e6; subst e7; subst e8
    exact ⟨t, rfl, (eLq_ok _ _ a3).symm, (eLq_ok _ _ a4).symm, eTq_ok _ _ a5⟩
/-- from the cut on -/
theorem kT_cut {g : kG} {b : Nat} {l : Launch} {q : eMeta} {dd pc : Nat} {lv st : List Nat} {t : eX} {x p u pcE : Nat} {lvE stE : List Nat} {tE : eX} {xE pE uE : Nat} {r : eR} (hG : ∀ r', r = some r' → eG g b l q dd pc lv st t x p u r') (h : eCk pcE lvE stE tE xE pE uE r = true) {K N : Nat} {QR : Option Value → kM → Prop} {QX : String → kM → Prop} {kc nc : Nat} {lc : List (Nat × Value)} {sc : List Value} {M : kM} (a1 : eLv g b lv lc) (a2 : eSk g b st sc) (a3 : eMm g b t x u M) (a4 : xE - x ≤ kc) (a5 : pE - p ≤ nc)
    (kk : ∀ (lc' : List (Nat × Value)) (sc' : List Value) (M' : kM), eLv g b lvE lc' → eSk g b stE sc' → eMm g b tE xE uE M' → kT l g q.1 q.2.1 q.2.2.1 q.2.2.2.1 q.2.2.2.2 dd K N QR QX pcE lc' sc' M' (kc - (xE - x)) (nc - (pE - p))) : kT l g q.1 q.2.1 q.2.2.1 q.2.2.2.1 q.2.2.2.2 dd K N QR QX pc lc sc M kc nc := by
  obtain ⟨t', e0, e1, e2, e3⟩ := eCk_ok h
  obtain ⟨-, -, g3⟩ := hG _ e0
  refine g3 lc sc M K N QR QX kc nc a1 a2 a3 a4 a5 ⟨fun h0 => absurd h0 (show ¬ (200 : Nat) = 0 by decide), fun E hE h0 => absurd h0 (show ¬ (200 : Nat) = E + 1 by omega)⟩ (fun _ lc' sc' M' c1 c2 c3 => ?_)
  have c1' : eLv g b (eDv9 t') lc' := c1
  have c2' : eSk g b (eDs t') sc' := c2
  rw [e1] at c1'
  rw [e2] at c2'
  exact kk lc' sc' M' c1' c2' (eMm_eq e3 c3)
/-! boxes -/
noncomputable def eUh (h : Nat) (B : eBd) : Nat → eBd := List.rec (motive := fun _ => Nat → eBd) (fun _ => []) (fun a t ih j => Nat.rec (motive := fun _ => eBd) ((a.1, h) :: t) (fun j' _ => a :: ih j') j) B
noncomputable def eUl (h : Nat) (B : eBd) : Nat → eBd := List.rec (motive := fun _ => Nat → eBd) (fun _ => []) (fun a t ih j => Nat.rec (motive := fun _ => eBd) ((h, a.2) :: t) (fun j' _ => a :: ih j') j) B
theorem eUh_len (h : Nat) (B : eBd) : ∀ j, (eUh h B j).length = B.length := by
  induction B with
  | nil => intro j; rfl
  | cons a t ih =>
    intro j
    cases j with
    | zero => rfl
    | succ j =>
      show (a :: eUh h t j).length = _
      rw [List.length_cons, List.length_cons, ih j]
theorem eUl_len (h : Nat) (B : eBd) : ∀ j, (eUl h B j).length = B.length := by
  induction B with
  | nil => intro j; rfl
  | cons a t ih =>
    intro j
    cases j with
    | zero => rfl
    | succ j =>
      show (a :: eUl h t j).length = _
      rw [List.length_cons, List.length_cons, ih j]
theorem eUh_bn (h : Nat) (B : eBd) : ∀ j k, (eBn (eUh h B j) k).1 = (eBn B k).1 ∧ ((eBn (eUh h B j) k).2 = (eBn B k).2 ∨ (k = j ∧ (eBn (eUh h B j) k).2 = h)) := by
  induction B with
  | nil => intro j k; exact ⟨rfl, Or.inl rfl⟩
  | cons a t ih =>
    intro j k
    cases j with
    | zero =>
      cases k with
      | zero => exact ⟨rfl, Or.inr ⟨rfl, rfl⟩⟩
      | succ k => exact ⟨rfl, Or.inl rfl⟩
    | succ j =>
      cases k with
      | zero => exact ⟨rfl, Or.inl rfl⟩
      | succ k =>
        obtain ⟨h1, h2⟩ := ih j k
        refine ⟨h1, ?_⟩
        rcases h2 with h2 | h2
        · exact Or.inl h2
        · exact Or.inr ⟨by rw [h2.1], h2.2⟩
theorem eUl_bn (h : Nat) (B : eBd) : ∀ j k, (eBn (eUl h B j) k).2 = (eBn B k).2 ∧ ((eBn (eUl h B j) k).1 = (eBn B k).1 ∨ (k = j ∧ (eBn (eUl h B j) k).1 = h)) := by
  induction B with
  | nil => intro j k; exact ⟨rfl, Or.inl rfl⟩
  | cons a t ih =>
    intro j k
    cases j with
    | zero =>
      cases k with
      | zero => exact ⟨rfl, Or.inr ⟨rfl, rfl⟩⟩
      | succ k => exact ⟨rfl, Or.inl rfl⟩
    | succ j =>
      cases k with
      | zero => exact ⟨rfl, Or.inl rfl⟩
      | succ k =>
        obtain ⟨h1, h2⟩ := ih j k
        refine ⟨h1, ?_⟩
        rcases h2 with h2 | h2
        · exact Or.inl h2
        · exact Or.inr ⟨by rw [h2.1], h2.2⟩
/-- the script lies in one of two halves -/
theorem eEnv_cut {g : kG} {B : eBd} (hE : eEnv g B) (j v : Nat) : eEnv g (eUh (Nat.pred v) B j) ∨ eEnv g (eUl v B j) := by
  obtain ⟨n, e1, e2, e3, e4⟩ := hE.2 j
  by_cases q : n < v
  · refine Or.inl ⟨by rw [eUh_len]; exact hE.1, fun k => ?_⟩
    obtain ⟨m, f1, f2, f3, f4⟩ := hE.2 k
    obtain ⟨h1, h2⟩ := eUh_bn (Nat.pred v) B j k
    refine ⟨m, f1, f2, by rw [h1]; exact f3, ?_⟩
    rcases h2 with h2 | ⟨h2, h3⟩
    · rw [h2]; exact f4
    · rw [h3]
      subst h2
      have e : nI m = nI n := f1.symm.trans e1
      have e9 : m = n := (nI_inj f2 e2).mp e
      rw [Nat.pred_eq_sub_one]; omega
  · refine Or.inr ⟨by rw [eUl_len]; exact hE.1, fun k => ?_⟩
    obtain ⟨m, f1, f2, f3, f4⟩ := hE.2 k
    obtain ⟨h1, h2⟩ := eUl_bn v B j k
    refine ⟨m, f1, f2, ?_, by rw [h1]; exact f4⟩
    rcases h2 with h2 | ⟨h2, h3⟩
    · rw [h2]; exact f3
    · rw [h3]
      subst h2
      have e : nI m = nI n := f1.symm.trans e1
      have e9 : m = n := (nI_inj f2 e2).mp e
      omega
theorem nI_all (i : Int32) : ∃ n, i = nI n ∧ n < 4294967296 := by
  refine ⟨i.toUInt32.toNat, ?_, i.toUInt32.toNat_lt⟩
  show i = Int32.ofNat i.toUInt32.toNat
  apply Int32.toBitVec_inj.mp
  simp [Int32.ofNat]
/-- what run answers on a fresh object -/
def Vt (T : Nat) : Nat := [0, 0, 0, 3, 3, 6, 6, 9, 9, 12, 12, 15, 15, 18, 18, 21, 21, 24, 24, 27, 27, 30, 30, 33, 33, 36, 36, 39, 39, 42, 42, 45, 45, 48, 48, 51, 51, 54, 54, 57, 57, 60, 60, 63, 63, 66, 66, 69, 69, 72, 72, 75, 75, 78, 78, 81, 81, 84, 84, 87, 87].getD T 0
/-- the script's places behind its end are ours: the seventh is what run answers -/
def eV7 (g : kG) : Prop := ∀ T, T ≤ 60 → gX g 1 = nI T → gX g 7 = nI (Vt T)
def lawQ : Option Value → kM → Prop := fun v _ => v = some (.int 1)
def lawX : String → kM → Prop := fun _ _ => False
/-- from pc on, with what these numbers tell, the law answers true on every script of the box -/
def lawP (pc : Nat) (lv : List Nat) (t : eX) (x p u K N : Nat) (B : eBd) (ks Ls : Nat) : Prop := ∀ (g : kG) (b : Nat) (l : Launch), l.stackTraces = false → eV7 g → eEnv g B → (Nat.ble Ls 1000 = true → gL g = Ls) → (Nat.ble ks 31 = true → gX g 0 &&& nI 31 = nI ks) → ∀ (lc : List (Nat × Value)) (M : kM) (kc nc : Nat), eLv g b lv lc → eMm g b t x u M → 5000 ≤ kc + x → 4000000 ≤ nc + p → kT l g yL_law cL_law 7 (some .boolean) [] 60 K N lawQ lawX pc lc [] M kc nc
section LV
variable {pc : Nat} {lv : List Nat} {t : eX} {x p u K N : Nat} {B : eBd} {ks Ls : Nat}
noncomputable def lawB (f pc : Nat) (lv : List Nat) (t : eX) (x p u ks Ls : Nat) (B : eBd) : Bool := cnd (Nat.ble B.length 1000) (eOk (ev (eTab B ks Ls) f 60 222 pc lv [] t x p u)) false
theorem law_leaf {f : Nat} (h : lawB f pc lv t x p u ks Ls B = true) : lawP pc lv t x p u K N B ks Ls := by
  intro g b l hst hV hE hLn hks lc M kc nc a1 a3 a4 a5
  obtain ⟨h1, h2⟩ := c_and h
  obtain ⟨t', x', p', u', e, hx, hp⟩ := eOk_ok h2
  obtain ⟨g1, g2, g3⟩ := ev_ok (g := g) (b := b) (l := l) (mt := eMt) (fun i pc => eTab_ok hE h1 hst hLn hks i pc) f 60 222 pc lv [] t x p u _ e
  have g1' : x ≤ x' := g1
  have g2' : p ≤ p' := g2
  refine g3 lc [] M K N lawQ lawX kc nc a1 trivial a3 (show x' - x ≤ kc by omega) (show p' - p ≤ nc by omega) ⟨fun _ w M' hw _ => ?_, fun E _ h0 => absurd h0 (show ¬ (0 : Nat) = E + 1 by omega)⟩ (fun h0 => absurd h0 (show ¬ (0 : Nat) = 200 by decide))
  rcases hw with ⟨h0, -⟩ | ⟨-, z, rfl, hz⟩
  · exact absurd h0 (show ¬ (17 : Nat) = 0 by decide)
  · have hz9 : eVal g b 17 z := hz
    have e1 : z = .int (nI 1) := (hz9.I (by decide)).2
    rw [e1]
    rfl
theorem law_split (j v : Nat) (h1 : lawP pc lv t x p u K N (eUh (Nat.pred v) B j) ks Ls) (h2 : lawP pc lv t x p u K N (eUl v B j) ks Ls) : lawP pc lv t x p u K N B ks Ls := by
  intro g b l hst hV hE hLn hks
  rcases eEnv_cut hE j v with h | h
  · exact h1 g b l hst hV h hLn hks
  · exact h2 g b l hst hV h hLn hks
/-- a tree of splits: a node's number is 8 times where, and which int -/
noncomputable def lawC (f pc : Nat) (lv : List Nat) (t : eX) (x p u ks Ls : Nat) (tr : eX) : eBd → Bool := Lean.RArray.rec (motive := fun _ => eBd → Bool) (fun _ B => lawB f pc lv t x p u ks Ls B) (fun c _ _ fl fr B => cnd (fl (eUh (Nat.pred (Nat.div c 8)) B (Nat.mod c 8))) (fr (eUl (Nat.div c 8) B (Nat.mod c 8))) false) tr
theorem law_tree {f : Nat} (tr : eX) : ∀ (B : eBd), lawC f pc lv t x p u ks Ls tr B = true → lawP pc lv t x p u K N B ks Ls := by
  induction tr with
  | leaf c => intro B h; exact law_leaf h
  | branch c trl trr ihl ihr =>
    intro B h
    have h1 : cnd (lawC f pc lv t x p u ks Ls trl (eUh (Nat.pred (c / 8)) B (c % 8))) (lawC f pc lv t x p u ks Ls trr (eUl (c / 8) B (c % 8))) false = true := h
    obtain ⟨h2, h3⟩ := c_and h1
    exact law_split (c % 8) (c / 8) (ihl _ h2) (ihr _ h3)
end LV

/-! ===== the machine's laws: trees, numbers, what a number says of a value ===== -/
theorem fo_eq {α : Type} (n : Nat) (k : Nat → α) : fo n k = k n := by cases n <;> rfl
theorem eGd_some {α : Type} {c : Bool} {k : Option α} {r : α} (h : eGd c k = some r) : c = true ∧ k = some r := by
  cases c
  · cases h
  · exact ⟨rfl, h⟩
theorem eP_some {α : Type} {st : List Nat} {k : Nat → List Nat → Option α} {r : α} (h : eP st k = some r) : ∃ a s, st = a :: s ∧ k a s = some r := by
  cases st with
  | nil => cases h
  | cons a s => exact ⟨a, s, rfl, h⟩
theorem eNz {α : Type} {z : Nat} {k : Option α} {r : α} (h : cnd (Nat.beq z 0) none k = some r) : z ≠ 0 ∧ k = some r := by
  cases z with
  | zero => cases h
  | succ n => exact ⟨Nat.succ_ne_zero n, h⟩
theorem eGet_L (a k : Nat) : eGet (.leaf a) k = 0 := rfl
theorem eGet_N (l : eX) (v : Nat) (r : eX) (k : Nat) : eGet (eNd l v r) k = if k = 1 then v else if k % 2 = 0 then eGet l (k / 2) else eGet r (k / 2) := by
  show cnd (Nat.beq k 1) v (cnd (Nat.beq (Nat.land k 1) 0) (eGet l (k / 2)) (eGet r (k / 2))) = _
  have e : Nat.land k 1 = k % 2 := Nat.and_one_is_mod k
  rw [e]
  by_cases h1 : k = 1
  · subst h1; rfl
  · rw [if_neg h1]
    have b1 : Nat.beq k 1 = false := by
      cases hb : Nat.beq k 1
      · rfl
      · exact absurd (Nat.eq_of_beq_eq_true hb) h1
    rw [b1]
    by_cases h2 : k % 2 = 0
    · rw [if_pos h2, h2]; rfl
    · rw [if_neg h2]
      have b2 : Nat.beq (k % 2) 0 = false := by
        cases hb : Nat.beq (k % 2) 0
        · rfl
        · exact absurd (Nat.eq_of_beq_eq_true hb) h2
      rw [b2]; rfl
theorem eSetK_s {α : Type} {f : Nat} {t : eX} {k v : Nat} {c : eX → α} : eSetK (f + 1) t k v c = eCs t
    (cnd (Nat.beq k 1) (c (eNd eL v eL)) (cnd (Nat.beq (Nat.land k 1) 0) (eSetK f eL (Nat.div k 2) v fun l => c (eNd l 0 eL)) (eSetK f eL (Nat.div k 2) v fun r => c (eNd eL 0 r))))
    (fun l w r => cnd (Nat.beq k 1) (c (eNd l v r)) (cnd (Nat.beq (Nat.land k 1) 0) (eSetK f l (Nat.div k 2) v fun l' => c (eNd l' w r)) (eSetK f r (Nat.div k 2) v fun r' => c (eNd l w r')))) := rfl
theorem eCs_L {α : Type} {z : α} {n : eX → Nat → eX → α} {a : Nat} : eCs (.leaf a) z n = z := rfl
theorem eCs_N {α : Type} {z : α} {n : eX → Nat → eX → α} {l : eX} {v : Nat} {r : eX} : eCs (eNd l v r) z n = n l v r := rfl
theorem eSetK_ok (f : Nat) : ∀ (t : eX) (k v : Nat), 0 < k → k < 2 ^ f → ∃ t', (∀ k', 0 < k' → eGet t' k' = if k' = k then v else eGet t k') ∧ ∀ {α : Type} (c : eX → α), eSetK f t k v c = c t' := by
  induction f with
  | zero => intro t k v h0 h1; omega
  | succ f ih =>
    intro t k v h0 h1
    have e : Nat.land k 1 = k % 2 := Nat.and_one_is_mod k
    have hd : Nat.div k 2 = k / 2 := rfl
    have hb1 : ∀ {α : Type} (x y : α), cnd (Nat.beq k 1) x y = if k = 1 then x else y := by
      intro α x y
      by_cases h : k = 1
      · subst h; rfl
      · cases hb : Nat.beq k 1
        · rw [if_neg h]; rfl
        · exact absurd (Nat.eq_of_beq_eq_true hb) h
    have hb2 : ∀ {α : Type} (x y : α), cnd (Nat.beq (k % 2) 0) x y = if k % 2 = 0 then x else y := by
      intro α x y
      by_cases h : k % 2 = 0
      · rw [h]; rfl
      · cases hb : Nat.beq (k % 2) 0
        · rw [if_neg h]; rfl
        · exact absurd (Nat.eq_of_beq_eq_true hb) h
    have main : ∀ (l : eX) (w : Nat) (r : eX), ∃ t', (∀ k', 0 < k' → eGet t' k' = if k' = k then v else eGet (eNd l w r) k') ∧ ∀ {α : Type} (c : eX → α), (if k = 1 then c (eNd l v r) else if k % 2 = 0 then eSetK f l (k / 2) v (fun l' => c (eNd l' w r)) else eSetK f r (k / 2) v (fun r' => c (eNd l w r'))) = c t' := by
      intro l w r
      by_cases h : k = 1
      · refine ⟨eNd l v r, fun k' hk' => ?_, fun c => if_pos h⟩
        rw [eGet_N, eGet_N, h]
        by_cases h2 : k' = 1
        · rw [if_pos h2, if_pos h2]
        · rw [if_neg h2, if_neg h2, if_neg h2]
      · have hf : 2 ^ (f + 1) = 2 * 2 ^ f := by rw [Nat.pow_succ, Nat.mul_comm]
        have hk2 : k / 2 < 2 ^ f := by omega
        have hk0 : 0 < k / 2 := by omega
        by_cases h3 : k % 2 = 0
        · obtain ⟨l', g2, g3⟩ := ih l (k / 2) v hk0 hk2
          refine ⟨eNd l' w r, fun k' hk' => ?_, fun c => ?_⟩
          · rw [eGet_N, eGet_N]
            by_cases h2 : k' = 1
            · rw [if_pos h2, if_neg (by omega), if_pos h2]
            · rw [if_neg h2, if_neg h2]
              by_cases h4 : k' % 2 = 0
              · rw [if_pos h4, if_pos h4, g2 _ (by omega)]
                by_cases h5 : k' = k
                · rw [if_pos h5, if_pos (by omega)]
                · rw [if_neg h5, if_neg (by omega)]
              · rw [if_neg h4, if_neg h4, if_neg (by omega)]
          · rw [if_neg h, if_pos h3, g3]
        · obtain ⟨r', g2, g3⟩ := ih r (k / 2) v hk0 hk2
          refine ⟨eNd l w r', fun k' hk' => ?_, fun c => ?_⟩
          · rw [eGet_N, eGet_N]
            by_cases h2 : k' = 1
            · rw [if_pos h2, if_neg (by omega), if_pos h2]
            · rw [if_neg h2, if_neg h2]
              by_cases h4 : k' % 2 = 0
              · rw [if_pos h4, if_pos h4, if_neg (by omega)]
              · rw [if_neg h4, if_neg h4, g2 _ (by omega)]
                by_cases h5 : k' = k
                · rw [if_pos h5, if_pos (by omega)]
                · rw [if_neg h5, if_neg (by omega)]
          · rw [if_neg h, if_neg h3, g3]
    cases t with
    | leaf a =>
      obtain ⟨t', g2, g3⟩ := main eL 0 eL
      refine ⟨t', fun k' hk' => ?_, fun c => ?_⟩
      · rw [g2 k' hk', eGet_N, eGet_L]
        show (if k' = k then v else if k' = 1 then 0 else if k' % 2 = 0 then 0 else 0) = _
        by_cases h : k' = k
        · rw [if_pos h, if_pos h]
        · rw [if_neg h, if_neg h]
          by_cases h2 : k' = 1
          · rw [if_pos h2]
          · rw [if_neg h2]
            by_cases h3 : k' % 2 = 0
            · rw [if_pos h3]
            · rw [if_neg h3]
      · rw [eSetK_s, eCs_L, e, hd, hb1, hb2]
        exact g3 c
    | branch w l r =>
      obtain ⟨t', g2, g3⟩ := main l w r
      refine ⟨t', g2, fun c => ?_⟩
      show eSetK (f + 1) (eNd l w r) k v c = _
      rw [eSetK_s, eCs_N, e, hd, hb1, hb2]
      exact g3 c
theorem eNth_0 (a : Nat) (l : List Nat) : eNth (a :: l) 0 = a := rfl
theorem eNth_s (a : Nat) (l : List Nat) (i : Nat) : eNth (a :: l) (i + 1) = eNth l i := rfl
theorem eSn_ok (l : List Nat) : ∀ (i v : Nat), ∃ l', (∀ k, eNth l' k = if k = i ∧ i < l.length then v else eNth l k) ∧ ∀ {α : Type} (c : List Nat → α), eSn l i v c = c l' := by
  induction l with
  | nil => intro i v; exact ⟨[], fun k => by rw [if_neg (fun h => absurd h.2 (Nat.not_lt_zero _))], fun c => rfl⟩
  | cons a t ih =>
    intro i v
    cases i with
    | zero =>
      refine ⟨v :: t, fun k => ?_, fun c => rfl⟩
      cases k with
      | zero => rw [eNth_0, if_pos ⟨rfl, Nat.succ_pos _⟩]
      | succ k => rw [eNth_s, eNth_s, if_neg (fun h => absurd h.1 (Nat.succ_ne_zero k))]
    | succ j =>
      obtain ⟨t', h1, h2⟩ := ih j v
      refine ⟨a :: t', fun k => ?_, fun c => h2 _⟩
      cases k with
      | zero => rw [eNth_0, eNth_0, if_neg (fun h => absurd h.1.symm (Nat.succ_ne_zero j))]
      | succ k =>
        rw [eNth_s, eNth_s, h1]
        by_cases h : k = j ∧ j < t.length
        · rw [if_pos h, if_pos ⟨by rw [h.1], Nat.succ_lt_succ h.2⟩]
        · rw [if_neg h, if_neg (fun z => h ⟨Nat.succ.inj z.1, Nat.lt_of_succ_lt_succ z.2⟩)]
/-! ===== values ===== -/
theorem eLnd (v : Nat) : Nat.land v 15 = v % 16 := Nat.and_two_pow_sub_one_eq_mod v 4
section EV
variable (g : kG) (b : Nat)
def eIn (v : Nat) (i : Int32) : Prop := (v % 16 = 1 ∧ v / 16 < 4294967296 ∧ i = nI (v / 16)) ∨ (v % 16 = 2 ∧ i = gX g (v / 16)) ∨ (v % 16 = 3 ∧ ∃ n, v / 16 % 4294967296 ≤ n ∧ n ≤ v / 16 / 4294967296 ∧ n < 4294967296 ∧ i = nI n)
def eLn (v : Nat) (z : Int64) : Prop := (v % 16 = 4 ∧ v / 16 < 18446744073709551616 ∧ z = Int64.ofNat (v / 16)) ∨ (v % 16 = 5 ∧ (v / 16 ≠ 0 → z = (gX g (v / 16)).toInt64))
def eRf (v : Nat) (r : Option Nat) : Prop := (v % 16 = 6 ∧ r = some (b + v / 16)) ∨ (v = 7 ∧ r = some (gN g)) ∨ (v = 8 ∧ r = some (gW g)) ∨ (v = 9 ∧ r = none) ∨ (v = 10 ∧ r = some (gS g)) ∨ (v = 11 ∧ ∃ a, r = some a)
def eVal (v : Nat) (w : Value) : Prop := (∃ i, w = .int i ∧ eIn g v i) ∨ (∃ z, w = .long z ∧ eLn g v z) ∨ (∃ r, w = va_rf r ∧ eRf g b v r)
def eHas (v : Nat) (i : Int32) (z : Int64) (r : Option Nat) : Prop := (v = 0 → i = 0 ∧ z = 0 ∧ r = none) ∧ ((v % 16 = 1 ∨ v % 16 = 2 ∨ v % 16 = 3) → eIn g v i) ∧ ((v % 16 = 4 ∨ v % 16 = 5) → eLn g v z) ∧ (6 ≤ v % 16 → v % 16 ≤ 11 → eRf g b v r)
def eSk : List Nat → List Value → Prop
  | [], [] => True
  | a :: s, w :: ws => eVal g b a w ∧ eSk s ws
  | _, _ => False
def eLv (lv : List Nat) (lc : List (Nat × Value)) : Prop := ∀ k, eNth lv k ≠ 0 → ∃ w, kGet lc k = some w ∧ eVal g b (eNth lv k) w
def mkI (ty : Nat) (i : Int32) : Int32 := if ty = 0 ∨ ty = 2 ∨ ty = 3 then i else 0
def mkL (ty : Nat) (i : Int64) : Int64 := if ty = 1 then i else 0
def mkR (ty : Nat) (r : Option Nat) : Option Nat := if 4 ≤ ty then r else none
def eCell (t : eX) (M : kM) (a : Nat) : Prop := (eGet t (eKy a 0) % 2 = 1 → tg M (b + a) = eGet t (eKy a 0) / 2 + 1 ∧ ∀ k, eHas g b (eGet t (eKy a (k + 1))) (fi M (b + a) k) (fl M (b + a) k) (fr M (b + a) k)) ∧
  (eGet t (eKy a 0) ≠ 0 → eGet t (eKy a 0) % 2 = 0 → tg M (b + a) = 101 + (eGet t (eKy a 0) / 2 - 1) % 16 ∧ ln M (b + a) = (eGet t (eKy a 0) / 2 - 1) / 16 ∧ ∀ k, eHas g b (eGet t (eKy a (k + 1))) (mkI ((eGet t (eKy a 0) / 2 - 1) % 16) (ai M (b + a) k)) (mkL ((eGet t (eKy a 0) / 2 - 1) % 16) (al M (b + a) k)) (mkR ((eGet t (eKy a 0) / 2 - 1) % 16) (ar M (b + a) k)))
def eMm (t : eX) (x u : Nat) (M : kM) : Prop := (u = 0 → nx M = b + x) ∧ (∀ a, a < 2048 → eCell g b t M a) ∧ (∀ a, x ≤ a → a < 2048 → ∀ k, eGet t (eKy a k) = 0) ∧ tg M (gN g) = 111 ∧ tg M (gW g) = 112
/-- what is thrown -/
def eN : Nat → String := fun e => match e with
  | 0 => "java/lang/IndexOutOfBoundsException"
  | 1 => "java/lang/IllegalArgumentException"
  | _ => "java/lang/IllegalStateException"
def eRet (v : Nat) (w : Option Value) : Prop := (v = 0 ∧ w = none) ∨ (v ≠ 0 ∧ ∃ z, w = some z ∧ eVal g b v z)
def eEnd (r : Nat × Nat × eX × Nat × Nat × Nat) (QR : Option Value → kM → Prop) (QX : String → kM → Prop) : Prop := (r.1 = 0 → ∀ w M, eRet g b r.2.1 w → eMm g b r.2.2.1 r.2.2.2.1 r.2.2.2.2.2 M → QR w M) ∧ ∀ E, E < 100 → r.1 = E + 1 → ∀ M, eMm g b r.2.2.1 r.2.2.2.1 1 M → QX (eN E) M
/-- a walk that was cut: its locals, its stack, its tree -/
noncomputable def eDl (t : eX) : List Nat := Lean.RArray.rec (motive := fun _ => List Nat) (fun _ => []) (fun v _ _ _ ir => v :: ir) t
noncomputable def eDt (t : eX) : eX := eCs t eL (fun _ _ r => r)
noncomputable def eDv9 (t : eX) : List Nat := eCs t [] (fun q _ _ => eCs q [] (fun l _ _ => eDl l))
noncomputable def eDs (t : eX) : List Nat := eCs t [] (fun q _ _ => eCs q [] (fun _ _ r => eDl r))
abbrev eMeta : Type := MethodName × ByteArray × Nat × Option FieldType × List (Nat × Nat × Nat × Nat)
/-- a walk that was cut holds if it holds from where it was cut -/
def eStp (l : Launch) (q : eMeta) (dd K N : Nat) (QR : Option Value → kM → Prop) (QX : String → kM → Prop) (kc nc : Nat) (r : Nat × Nat × eX × Nat × Nat × Nat) : Prop := r.1 = 200 → ∀ (lc : List (Nat × Value)) (sc : List Value) (M : kM), eLv g b (eDv9 r.2.2.1) lc → eSk g b (eDs r.2.2.1) sc → eMm g b (eDt r.2.2.1) r.2.2.2.1 r.2.2.2.2.2 M → kT l g q.1 q.2.1 q.2.2.1 q.2.2.2.1 q.2.2.2.2 dd K N QR QX r.2.1 lc sc M kc nc
def eG (l : Launch) (q : eMeta) (dd pc : Nat) (lv st : List Nat) (t : eX) (x p u : Nat) (r : Nat × Nat × eX × Nat × Nat × Nat) : Prop := x ≤ r.2.2.2.1 ∧ p ≤ r.2.2.2.2.1 ∧
  ∀ (lc : List (Nat × Value)) (sc : List Value) (M : kM) (K N : Nat) (QR : Option Value → kM → Prop) (QX : String → kM → Prop) (kc nc : Nat), eLv g b lv lc → eSk g b st sc → eMm g b t x u M → r.2.2.2.1 - x ≤ kc → r.2.2.2.2.1 - p ≤ nc → eEnd g b r QR QX → eStp g b l q dd K N QR QX (kc - (r.2.2.2.1 - x)) (nc - (r.2.2.2.2.1 - p)) r → kT l g q.1 q.2.1 q.2.2.1 q.2.2.2.1 q.2.2.2.2 dd K N QR QX pc lc sc M kc nc
def eSOK (l : Launch) (mt : Nat → eMeta) (q : eMeta) (pc : Nat) (s : eStep) : Prop := ∀ ih : eRun, (∀ dd i pc lv st t x p u r, ih dd i pc lv st t x p u = some r → eG g b l (mt i) dd pc lv st t x p u r) →
  ∀ dd i lv st t x p u r, mt i = q → s ih dd i pc lv st t x p u = some r → eG g b l q dd pc lv st t x p u r
end EV

/-! ===== many places at once: an array's own tree, clearing a range, copying, comparing ===== -/
/-- the places from lo to hi are 0; a node's own number is acc + w -/
noncomputable def eClS {α : Type} (lo hi : Nat) (t : eX) : Nat → Nat → (eX → α) → α := Lean.RArray.rec (motive := fun _ => Nat → Nat → (eX → α) → α) (fun _ _ _ c => c eL)
  (fun v _ _ fl fr acc w c => fl acc (Nat.mul 2 w) fun l' => fr (Nat.add acc w) (Nat.mul 2 w) fun r' => fo (cnd (Nat.ble lo (Nat.add acc w)) (cnd (Nat.ble (Nat.add acc w) hi) 0 v) v) fun v' => c (eNd l' v' r')) t
theorem eClS_ok (lo hi : Nat) (t : eX) : ∀ (acc w : Nat), ∃ t', (∀ k, 0 < k → eGet t' k = if lo ≤ acc + w * k ∧ acc + w * k ≤ hi then 0 else eGet t k) ∧ ∀ {α : Type} (c : eX → α), eClS lo hi t acc w c = c t' := by
  induction t with
  | leaf v => intro acc w; exact ⟨eL, fun k _ => by show (0 : Nat) = if _ then 0 else 0; split <;> rfl, fun c => rfl⟩
  | branch v l r ihl ihr =>
    intro acc w
    obtain ⟨l', h1, h2⟩ := ihl acc (2 * w)
    obtain ⟨r', h3, h4⟩ := ihr (acc + w) (2 * w)
    refine ⟨eNd l' (cnd (Nat.ble lo (Nat.add acc w)) (cnd (Nat.ble (Nat.add acc w) hi) 0 v) v) r', fun k hk => ?_, fun c => ?_⟩
    · rw [show (Lean.RArray.branch v l r : eX) = eNd l v r from rfl, eGet_N, eGet_N]
      by_cases k1 : k = 1
      · subst k1
        rw [if_pos rfl, if_pos rfl, cond_ble, cond_ble, Nat.mul_one]
        show (if lo ≤ acc + w then if acc + w ≤ hi then 0 else v else v) = _
        by_cases q1 : lo ≤ acc + w
        · by_cases q2 : acc + w ≤ hi
          · rw [if_pos q1, if_pos q2, if_pos ⟨q1, q2⟩]
          · rw [if_pos q1, if_neg q2, if_neg (fun z => q2 z.2)]
        · rw [if_neg q1, if_neg (fun z => q1 z.1)]
      · rw [if_neg k1, if_neg k1]
        by_cases k2 : k % 2 = 0
        · rw [if_pos k2, if_pos k2, h1 (k / 2) (by omega)]
          have e : 2 * w * (k / 2) = w * k := by
            rw [show 2 * w * (k / 2) = w * (2 * (k / 2)) by rw [Nat.mul_comm 2 w, Nat.mul_assoc], show 2 * (k / 2) = k by omega]
          rw [e]
        · rw [if_neg k2, if_neg k2, h3 (k / 2) (by omega)]
          have e : acc + w + 2 * w * (k / 2) = acc + w * k := by
            have e1 : 2 * w * (k / 2) = w * (2 * (k / 2)) := by rw [Nat.mul_comm 2 w, Nat.mul_assoc]
            have e2 : w * k = w * (2 * (k / 2) + 1) := by rw [show 2 * (k / 2) + 1 = k by omega]
            rw [e1, e2, Nat.mul_add, Nat.mul_one]; omega
          rw [e]
    · show eClS lo hi l acc (Nat.mul 2 w) (fun l' => eClS lo hi r (Nat.add acc w) (Nat.mul 2 w) fun r' => fo (cnd (Nat.ble lo (Nat.add acc w)) (cnd (Nat.ble (Nat.add acc w) hi) 0 v) v) fun v' => c (eNd l' v' r')) = _
      rw [show Nat.mul 2 w = 2 * w from rfl, show Nat.add acc w = acc + w from rfl, h2, h4, fo_eq]
/-- an array's tree is changed -/
noncomputable def eUp {α : Type} (lo hi n : Nat) : eX → Nat → (eX → α) → α := Nat.rec (motive := fun _ => eX → Nat → (eX → α) → α) (fun t _ c => eClS lo hi t 0 1 c) (fun _ ih t a c => eCs t (c t) (fun l v r => cnd (Nat.beq (Nat.land a 1) 0) (ih l (Nat.div a 2) fun l' => c (eNd l' v r)) (ih r (Nat.div a 2) fun r' => c (eNd l v r')))) n
theorem eUp_ok (lo hi n : Nat) : ∀ (t : eX) (a : Nat), a < 2 ^ n → ∃ t', (∀ a' k, a' < 2 ^ n → 0 < k → eGet t' (a' + 2 ^ n * k) = if a' = a ∧ lo ≤ k ∧ k ≤ hi then 0 else eGet t (a' + 2 ^ n * k)) ∧ ∀ {α : Type} (c : eX → α), eUp lo hi n t a c = c t' := by
  induction n with
  | zero =>
    intro t a ha
    obtain ⟨t', h1, h2⟩ := eClS_ok lo hi t 0 1
    refine ⟨t', fun a' k ha' hk => ?_, fun c => h2 c⟩
    rw [show a' + 2 ^ 0 * k = k by omega, h1 k hk]
    have e : 0 + 1 * k = k := by omega
    rw [e]
    by_cases q : lo ≤ k ∧ k ≤ hi
    · rw [if_pos q, if_pos ⟨by omega, q⟩]
    · rw [if_neg q, if_neg (fun z => q z.2)]
  | succ n ih =>
    intro t a ha
    have hp : 2 ^ (n + 1) = 2 * 2 ^ n := by rw [Nat.pow_succ, Nat.mul_comm]
    have hq : 0 < 2 ^ n := Nat.pow_pos (by decide)
    have e2 : Nat.land a 1 = a % 2 := Nat.and_one_is_mod a
    cases t with
    | leaf v =>
      refine ⟨.leaf v, fun a' k ha' hk => ?_, fun c => rfl⟩
      rw [eGet_L]; split <;> rfl
    | branch v l r =>
      have eC : ∀ {α : Type} (c : eX → α), eUp lo hi (n + 1) (.branch v l r) a c = cnd (Nat.beq (Nat.land a 1) 0) (eUp lo hi n l (a / 2) fun l' => c (eNd l' v r)) (eUp lo hi n r (a / 2) fun r' => c (eNd l v r')) := fun c => rfl
      rw [show (Lean.RArray.branch v l r : eX) = eNd l v r from rfl] at eC ⊢
      by_cases h : a % 2 = 0
      · obtain ⟨l', g1, g2⟩ := ih l (a / 2) (by omega)
        refine ⟨eNd l' v r, fun a' k ha' hk => ?_, fun c => by rw [eC, e2, cond_beq, if_pos h, g2]⟩
        have hm : 0 < 2 ^ n * k := Nat.mul_pos hq hk
        have e4 : 2 * 2 ^ n * k = 2 * (2 ^ n * k) := Nat.mul_assoc _ _ _
        rw [hp, e4, eGet_N, eGet_N, if_neg (show ¬ a' + 2 * (2 ^ n * k) = 1 by omega), if_neg (show ¬ a' + 2 * (2 ^ n * k) = 1 by omega)]
        by_cases q : a' % 2 = 0
        · rw [if_pos (show (a' + 2 * (2 ^ n * k)) % 2 = 0 by omega), if_pos (show (a' + 2 * (2 ^ n * k)) % 2 = 0 by omega), show (a' + 2 * (2 ^ n * k)) / 2 = a' / 2 + 2 ^ n * k by omega, g1 (a' / 2) k (by omega) hk]
          by_cases z : a' = a
          · rw [z]
            by_cases z2 : lo ≤ k ∧ k ≤ hi
            · rw [if_pos ⟨rfl, z2⟩, if_pos ⟨rfl, z2⟩]
            · rw [if_neg (fun y => z2 y.2), if_neg (fun y => z2 y.2)]
          · rw [if_neg (fun y => by omega), if_neg (fun y => z y.1)]
        · rw [if_neg (show ¬ (a' + 2 * (2 ^ n * k)) % 2 = 0 by omega), if_neg (show ¬ (a' + 2 * (2 ^ n * k)) % 2 = 0 by omega), if_neg (fun y => by omega)]
      · obtain ⟨r', g1, g2⟩ := ih r (a / 2) (by omega)
        refine ⟨eNd l v r', fun a' k ha' hk => ?_, fun c => by rw [eC, e2, cond_beq, if_neg h, g2]⟩
        have hm : 0 < 2 ^ n * k := Nat.mul_pos hq hk
        have e4 : 2 * 2 ^ n * k = 2 * (2 ^ n * k) := Nat.mul_assoc _ _ _
        rw [hp, e4, eGet_N, eGet_N, if_neg (show ¬ a' + 2 * (2 ^ n * k) = 1 by omega), if_neg (show ¬ a' + 2 * (2 ^ n * k) = 1 by omega)]
        by_cases q : a' % 2 = 0
        · rw [if_pos (show (a' + 2 * (2 ^ n * k)) % 2 = 0 by omega), if_pos (show (a' + 2 * (2 ^ n * k)) % 2 = 0 by omega), if_neg (fun y => by omega)]
        · rw [if_neg (show ¬ (a' + 2 * (2 ^ n * k)) % 2 = 0 by omega), if_neg (show ¬ (a' + 2 * (2 ^ n * k)) % 2 = 0 by omega), show (a' + 2 * (2 ^ n * k)) / 2 = a' / 2 + 2 ^ n * k by omega, g1 (a' / 2) k (by omega) hk]
          by_cases z : a' = a
          · rw [z]
            by_cases z2 : lo ≤ k ∧ k ≤ hi
            · rw [if_pos ⟨rfl, z2⟩, if_pos ⟨rfl, z2⟩]
            · rw [if_neg (fun y => z2 y.2), if_neg (fun y => z2 y.2)]
          · rw [if_neg (fun y => by omega), if_neg (fun y => z y.1)]
/-- places p to q (q not) of the array at a are 0 -/
noncomputable def eClr {α : Type} (t : eX) (a p q : Nat) (c : eX → α) : α := eUp (Nat.add p 2) (Nat.add q 1) 11 t a c
theorem eClr_ok {t : eX} {a p q : Nat} (ha : a < 2048) : ∃ t', (∀ a' k', a' < 2048 → eGet t' (eKy a' k') = if a' = a ∧ p + 1 ≤ k' ∧ k' < q + 1 then 0 else eGet t (eKy a' k')) ∧ ∀ {α : Type} (c : eX → α), eClr t a p q c = c t' := by
  obtain ⟨t', h1, h2⟩ := eUp_ok (p + 2) (q + 1) 11 t a ha
  refine ⟨t', fun a' k' ha' => ?_, fun c => h2 c⟩
  have e : eKy a' k' = a' + 2 ^ 11 * (k' + 1) := rfl
  rw [e, h1 a' (k' + 1) ha' (by omega)]
  by_cases z : a' = a ∧ p + 1 ≤ k' ∧ k' < q + 1
  · rw [if_pos z, if_pos (by omega)]
  · rw [if_neg z, if_neg (by omega)]

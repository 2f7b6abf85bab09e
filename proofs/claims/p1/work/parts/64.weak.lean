/-! ===== less is known: cells that nobody asks for any more are left out, ints that differ are any ===== -/
noncomputable def eGe (v w : Nat) : Bool := cnd (Nat.beq v w) true (cnd (Nat.beq v 295147905110633349123) (cnd (Nat.beq w 0) true (eIi w)) false)
noncomputable def eTz (s : eX) : eX → Bool := Lean.RArray.rec (motive := fun _ => eX → Bool) (fun _ t => eCs t true (fun _ _ _ => false)) (fun v _ _ fl fr t => eCs t (cnd (eGe v 0) (cnd (fl eL) (fr eL) false) false) (fun l w r => cnd (eGe v w) (cnd (fl l) (fr r) false) false)) s
noncomputable def eTw (n : Nat) : eX → eX → Bool := Nat.rec (motive := fun _ => eX → eX → Bool) (fun s t => eCs s true (fun _ _ _ => cnd (Nat.beq (eGet s 1) (eGet t 1)) (eTz s t) false)) (fun _ ih s t => eCs s true (fun l _ r => eCs t false (fun l' _ r' => cnd (ih l l') (ih r r') false))) n
theorem eGe_ok {v w : Nat} (h : eGe v w = true) : v = w ∨ (v = 295147905110633349123 ∧ (w = 0 ∨ eIi w = true)) := by
  unfold eGe at h
  simp only [cond_beq] at h
  by_cases h1 : v = w
  · exact Or.inl h1
  · rw [if_neg h1] at h
    by_cases h2 : v = 295147905110633349123
    · rw [if_pos h2] at h
      by_cases h3 : w = 0
      · exact Or.inr ⟨h2, Or.inl h3⟩
      · rw [if_neg h3] at h
        exact Or.inr ⟨h2, Or.inr h⟩
    · rw [if_neg h2] at h; cases h
def eSame (v w : Nat) : Prop := v = w ∨ (v = 295147905110633349123 ∧ (w = 0 ∨ eIi w = true))
theorem eTz_ok (s : eX) : ∀ (t : eX), eTz s t = true → ∀ k, eSame (eGet s k) (eGet t k) := by
  induction s with
  | leaf v =>
    intro t h k
    cases t with
    | leaf w => exact Or.inl rfl
    | branch w l r => cases h
  | branch v sl sr ihl ihr =>
    intro t h k
    cases t with
    | leaf w =>
      have h1 : cnd (eGe v 0) (cnd (eTz sl eL) (eTz sr eL) false) false = true := h
      obtain ⟨h2, h3⟩ := c_and h1
      obtain ⟨h4, h5⟩ := c_and h3
      rw [show (Lean.RArray.branch v sl sr : eX) = eNd sl v sr from rfl, eGet_N, eGet_L]
      by_cases k1 : k = 1
      · rw [if_pos k1]; exact eGe_ok h2
      · rw [if_neg k1]
        by_cases k2 : k % 2 = 0
        · rw [if_pos k2]; exact ihl eL h4 (k / 2)
        · rw [if_neg k2]; exact ihr eL h5 (k / 2)
    | branch w l r =>
      have h1 : cnd (eGe v w) (cnd (eTz sl l) (eTz sr r) false) false = true := h
      obtain ⟨h2, h3⟩ := c_and h1
      obtain ⟨h4, h5⟩ := c_and h3
      rw [show (Lean.RArray.branch v sl sr : eX) = eNd sl v sr from rfl, show (Lean.RArray.branch w l r : eX) = eNd l w r from rfl, eGet_N, eGet_N]
      by_cases k1 : k = 1
      · rw [if_pos k1, if_pos k1]; exact eGe_ok h2
      · rw [if_neg k1, if_neg k1]
        by_cases k2 : k % 2 = 0
        · rw [if_pos k2, if_pos k2]; exact ihl l h4 (k / 2)
        · rw [if_neg k2, if_neg k2]; exact ihr r h5 (k / 2)
theorem eTw_ok (n : Nat) : ∀ (s t : eX), eTw n s t = true → ∀ a, a < 2 ^ n → (∀ k, 0 < k → eGet s (a + 2 ^ n * k) = 0) ∨ (eGet s (a + 2 ^ n * 1) = eGet t (a + 2 ^ n * 1) ∧ ∀ k, 0 < k → eSame (eGet s (a + 2 ^ n * k)) (eGet t (a + 2 ^ n * k))) := by
  induction n with
  | zero =>
    intro s t h a ha
    have e : ∀ k, a + 2 ^ 0 * k = k := fun k => by omega
    simp only [e]
    cases s with
    | leaf v => exact Or.inl (fun k _ => rfl)
    | branch v sl sr =>
      have h1 : cnd (Nat.beq (eGet (.branch v sl sr) 1) (eGet t 1)) (eTz (.branch v sl sr) t) false = true := h
      obtain ⟨h2, h3⟩ := c_and h1
      exact Or.inr ⟨beq_t h2, fun k _ => eTz_ok _ t h3 k⟩
  | succ n ih =>
    intro s t h a ha
    have hp : 2 ^ (n + 1) = 2 * 2 ^ n := by rw [Nat.pow_succ, Nat.mul_comm]
    have hq : 0 < 2 ^ n := Nat.pow_pos (by decide)
    cases s with
    | leaf v => exact Or.inl (fun k _ => rfl)
    | branch v sl sr =>
      cases t with
      | leaf w => cases h
      | branch w l r =>
        have h1 : cnd (eTw n sl l) (eTw n sr r) false = true := h
        obtain ⟨h2, h3⟩ := c_and h1
        rw [show (Lean.RArray.branch v sl sr : eX) = eNd sl v sr from rfl, show (Lean.RArray.branch w l r : eX) = eNd l w r from rfl]
        have key : ∀ (x y : eX) (z : Nat) (k : Nat), 0 < k → eGet (eNd x z y) (a + 2 ^ (n + 1) * k) = if a % 2 = 0 then eGet x (a / 2 + 2 ^ n * k) else eGet y (a / 2 + 2 ^ n * k) := by
          intro x y z k hk
          have hm : 0 < 2 ^ n * k := Nat.mul_pos hq hk
          have e4 : 2 ^ (n + 1) * k = 2 * (2 ^ n * k) := by rw [hp, Nat.mul_assoc]
          rw [e4, eGet_N, if_neg (show ¬ a + 2 * (2 ^ n * k) = 1 by omega)]
          by_cases q : a % 2 = 0
          · rw [if_pos q, if_pos (show (a + 2 * (2 ^ n * k)) % 2 = 0 by omega), show (a + 2 * (2 ^ n * k)) / 2 = a / 2 + 2 ^ n * k by omega]
          · rw [if_neg q, if_neg (show ¬ (a + 2 * (2 ^ n * k)) % 2 = 0 by omega), show (a + 2 * (2 ^ n * k)) / 2 = a / 2 + 2 ^ n * k by omega]
        by_cases q : a % 2 = 0
        · rcases ih sl l h2 (a / 2) (by omega) with z | ⟨z1, z2⟩
          · refine Or.inl (fun k hk => ?_)
            rw [key _ _ _ k hk, if_pos q]; exact z k hk
          · refine Or.inr ⟨?_, fun k hk => ?_⟩
            · rw [key _ _ _ 1 (by decide), key _ _ _ 1 (by decide), if_pos q, if_pos q]; exact z1
            · rw [key _ _ _ k hk, key _ _ _ k hk, if_pos q, if_pos q]; exact z2 k hk
        · rcases ih sr r h3 (a / 2) (by omega) with z | ⟨z1, z2⟩
          · refine Or.inl (fun k hk => ?_)
            rw [key _ _ _ k hk, if_neg q]; exact z k hk
          · refine Or.inr ⟨?_, fun k hk => ?_⟩
            · rw [key _ _ _ 1 (by decide), key _ _ _ 1 (by decide), if_neg q, if_neg q]; exact z1
            · rw [key _ _ _ k hk, key _ _ _ k hk, if_neg q, if_neg q]; exact z2 k hk
theorem eHas_same {g : kG} {b v w : Nat} {i : Int32} {z : Int64} {r : Option Nat} (h : eSame v w) (hh : eHas g b w i z r) : eHas g b v i z r := by
  rcases h with h | ⟨h, -⟩
  · rw [h]; exact hh
  · subst h
    have h1 := eVal_any (g := g) (b := b) i
    obtain ⟨j, e, h2⟩ := h1.int (Or.inr (Or.inr (by decide)))
    cases e
    exact ⟨fun e => absurd e (by decide), fun _ => h2, fun e => absurd e (by decide), fun e => absurd e (by decide)⟩
theorem eMm_w {g : kG} {b : Nat} {s t : eX} {x u : Nat} {M : kM} (h : eTw 11 s t = true) (hM : eMm g b t x u M) : eMm g b s 2048 1 M := by
  obtain ⟨m1, m2, m3, m4, m5⟩ := hM
  refine ⟨fun h => absurd h (by decide), fun a ha => ?_, fun a h1 h2 => absurd h1 (by omega), m4, m5⟩
  have ky : ∀ k, eKy a k = a + 2 ^ 11 * (k + 1) := fun k => rfl
  rcases eTw_ok 11 s t h a ha with z | ⟨z1, z2⟩
  · have h0 : eGet s (eKy a 0) = 0 := z 1 (by decide)
    unfold eCell
    rw [h0]
    exact ⟨fun h => absurd h (by decide), fun h => absurd rfl h⟩
  · have h0 : eGet s (eKy a 0) = eGet t (eKy a 0) := z1
    have hk : ∀ k, eSame (eGet s (eKy a k)) (eGet t (eKy a k)) := fun k => z2 (k + 1) (Nat.succ_pos k)
    obtain ⟨q1, q2⟩ := m2 a ha
    unfold eCell
    rw [h0]
    exact ⟨fun e => ⟨(q1 e).1, fun k => eHas_same (hk (k + 1)) ((q1 e).2 k)⟩, fun e1 e2 => ⟨(q2 e1 e2).1, (q2 e1 e2).2.1, fun k => eHas_same (hk (k + 1)) ((q2 e1 e2).2.2 k)⟩⟩
noncomputable def eLw (a : List Nat) : List Nat → Bool := List.rec (motive := fun _ => List Nat → Bool) (fun _ => true) (fun v _ ih c => List.rec (motive := fun _ => Bool) false (fun w s _ => cnd (cnd (Nat.beq v 0) true (Nat.beq v w)) (ih s) false) c) a
theorem eLw_ok (a : List Nat) : ∀ (c : List Nat), eLw a c = true → ∀ k, eNth a k ≠ 0 → eNth c k = eNth a k := by
  induction a with
  | nil => intro c h k hk; exact absurd rfl hk
  | cons v a ih =>
    intro c h k hk
    cases c with
    | nil => cases h
    | cons w s =>
      have h1 : cnd (cnd (Nat.beq v 0) true (Nat.beq v w)) (eLw a s) false = true := h
      obtain ⟨h2, h3⟩ := c_and h1
      cases k with
      | zero =>
        rw [eNth_0] at hk ⊢
        rw [cond_beq, if_neg hk] at h2
        rw [eNth_0, beq_t h2]
      | succ k =>
        rw [eNth_s] at hk ⊢
        rw [eNth_s]
        exact ih s h3 k hk
theorem eLv_w {g : kG} {b : Nat} {a c : List Nat} {lc : List (Nat × Value)} (h : eLw a c = true) (hl : eLv g b c lc) : eLv g b a lc := by
  intro k hk
  have e := eLw_ok a c h k hk
  obtain ⟨w, h1, h2⟩ := hl k (by rw [e]; exact hk)
  rw [e] at h2
  exact ⟨w, h1, h2⟩
/-- a walk was cut at pcE, and these numbers tell no more than it knows -/
noncomputable def eCw {α : Type} (d : α) (pcE : Nat) (lvE : List Nat) (pM : Nat) (r : eR) (c : eX → Nat → Nat → Nat → α) : α := Option.rec (motive := fun _ => α) d (fun q => Prod.rec (motive := fun _ => α) (fun kd q1 => Prod.rec (motive := fun _ => α) (fun v q2 => Prod.rec (motive := fun _ => α) (fun t q3 => Prod.rec (motive := fun _ => α) (fun x q4 => Prod.rec (motive := fun _ => α) (fun p u => cnd (Nat.beq kd 200) (cnd (Nat.beq v pcE) (cnd (eLw lvE (eDv9 t)) (cnd (eLq [] (eDs t)) (cnd (Nat.ble x 2048) (cnd (Nat.ble p pM) (c (eDt t) x p u) d) d) d) d) d) d) q4) q3) q2) q1) q) r
theorem eCw_ok {pcE : Nat} {lvE : List Nat} {pM : Nat} {r : eR} {c : eX → Nat → Nat → Nat → Bool} (h : eCw false pcE lvE pM r c = true) : ∃ t x p u, r = some (200, pcE, t, x, p, u) ∧ eLw lvE (eDv9 t) = true ∧ eDs t = [] ∧ x ≤ 2048 ∧ p ≤ pM ∧ c (eDt t) x p u = true := by
  cases r with
  | none => cases h
  | some q =>
    obtain ⟨kd, v, t, x, p, u⟩ := q
    have h1 : cnd (Nat.beq kd 200) (cnd (Nat.beq v pcE) (cnd (eLw lvE (eDv9 t)) (cnd (eLq [] (eDs t)) (cnd (Nat.ble x 2048) (cnd (Nat.ble p pM) (c (eDt t) x p u) false) false) false) false) false) false = true := h
    obtain ⟨a1, h2⟩ := c_and h1
    obtain ⟨a2, h3⟩ := c_and h2
    obtain ⟨a3, h4⟩ := c_and h3
    obtain ⟨a4, h5⟩ := c_and h4
    obtain ⟨a5, h6⟩ := c_and h5
    obtain ⟨a6, a7⟩ := c_and h6
    have e1 := beq_t a1
    have e2 := beq_t a2
    subst e1; subst e2
    exact ⟨t, x, p, u, rfl, a3, (eLq_ok _ _ a4).symm, ble_t a5, ble_t a6, a7⟩
/-- the law in two walks -/
theorem law_two {pc : Nat} {lv : List Nat} {t : eX} {x p u K N : Nat} {B : eBd} {ks Ls pcE : Nat} {lvE : List Nat} {tE : eX} {pM f : Nat} {sp : Nat → Nat → Nat → Bool} (hB : Nat.ble B.length 1000 = true) (hpM : Nat.ble pM 4000000 = true) (h : eCw false pcE lvE pM (evT (eTab B ks Ls) sp f 60 222 pc lv [] t x p u) (fun t' _ _ _ => eTw 11 tE t') = true) (h2 : lawP pcE lvE tE 2048 pM 1 K N B ks Ls) : lawP pc lv t x p u K N B ks Ls := by
  intro g b l hst hV hE hLn hks lc M kc nc a1 a3 a4 a5
  have hpM9 := ble_t hpM
  obtain ⟨t', x', p', u', e0, e1, e2, e4, e5, e3⟩ := eCw_ok h
  obtain ⟨g1, g2, g3⟩ := evT_ok (g := g) (b := b) (l := l) (mt := eMt) (fun i pc => eTab_ok hE hB hst hLn hks i pc) sp f 60 222 pc lv [] t x p u _ e0
  have g1' : x ≤ x' := g1
  have g2' : p ≤ p' := g2
  refine g3 lc [] M K N lawQ lawX kc nc a1 trivial a3 (show x' - x ≤ kc by omega) (show p' - p ≤ nc by omega) ⟨fun h0 => absurd h0 (show ¬ (200 : Nat) = 0 by decide), fun E hE9 h0 => absurd h0 (show ¬ (200 : Nat) = E + 1 by omega)⟩ (fun _ lc' sc' M' c1 c2 c3 => ?_)
  have c2' : eSk g b (eDs t') sc' := c2
  rw [e2] at c2'
  rw [eSk_nil c2']
  exact h2 g b l hst hV hE hLn hks lc' M' _ _ (eLv_w e1 c1) (eMm_w e3 c3) (show 5000 ≤ kc - (x' - x) + 2048 by omega) (show 4000000 ≤ nc - (p' - p) + pM by omega)
/-! ===== walks that are known already ===== -/
noncomputable def evM (tab : Nat → Nat → Option eStep) (mem : eRun) (f : Nat) : eRun := Nat.rec (motive := fun _ => eRun) (fun _ _ _ _ _ _ _ _ _ => none) (fun _ ih dd i pc lv st t x p u => Option.rec (motive := fun _ => eR) (Option.rec (motive := fun _ => eR) none (fun s => s ih dd i pc lv st t x p u) (tab i pc)) (fun r => some r) (mem dd i pc lv st t x p u)) f
theorem evM_ok {g : kG} {b : Nat} {l : Launch} {mt : Nat → eMeta} {tab : Nat → Nat → Option eStep} (ht : ∀ i pc, eSO g b l mt (mt i) pc (tab i pc)) (mem : eRun) (hm : ∀ dd i pc lv st t x p u r, mem dd i pc lv st t x p u = some r → eG g b l (mt i) dd pc lv st t x p u r) (f : Nat) : ∀ dd i pc lv st t x p u r, evM tab mem f dd i pc lv st t x p u = some r → eG g b l (mt i) dd pc lv st t x p u r := by
  induction f with
  | zero => intro dd i pc lv st t x p u r h; cases h
  | succ f ih =>
    intro dd i pc lv st t x p u r h
    have h1 : Option.rec (motive := fun _ => eR) (Option.rec (motive := fun _ => eR) none (fun s => s (evM tab mem f) dd i pc lv st t x p u) (tab i pc)) (fun r => some r) (mem dd i pc lv st t x p u) = some r := h
    cases hc : mem dd i pc lv st t x p u with
    | some r0 =>
      rw [hc] at h1
      have e : r0 = r := Option.some.inj h1
      subst e
      exact hm dd i pc lv st t x p u _ hc
    | none =>
      rw [hc] at h1
      have h2 : Option.rec (motive := fun _ => eR) none (fun s => s (evM tab mem f) dd i pc lv st t x p u) (tab i pc) = some r := h1
      cases hs : tab i pc with
      | none => rw [hs] at h2; cases h2
      | some s => rw [hs] at h2; exact ht i pc s hs (evM tab mem f) ih dd i lv st t x p u r rfl h2
theorem eG_tq {g : kG} {b : Nat} {l : Launch} {q : eMeta} {dd pc : Nat} {lv st : List Nat} {s t : eX} {x p u : Nat} {r : Nat × Nat × eX × Nat × Nat × Nat} (h : eG g b l q dd pc lv st s x p u r) (e : ∀ k, eGet t k = eGet s k) : eG g b l q dd pc lv st t x p u r := by
  obtain ⟨g1, g2, g3⟩ := h
  exact ⟨g1, g2, fun lc sc M K N QR QX kc nc a1 a2 a3 => g3 lc sc M K N QR QX kc nc a1 a2 (eMm_eq e a3)⟩
/-! ===== a loop of so many rounds as the script says ===== -/
/-- from the loop's head in round n it returns what Vt tells, and R is known then -/
def RnP (i0 dd h : Nat) (lvS : Nat → List Nat) (R : eX) (PM u n : Nat) (t : eX) (x p : Nat) : Prop := ∀ (g : kG) (b : Nat) (l : Launch), l.stackTraces = false → 2 ≤ gL g → (∃ T, gX g 1 = nI T ∧ n ≤ T ∧ T ≤ 60 ∧ gX g 7 = nI (Vt T)) → ∀ (lc : List (Nat × Value)) (M : kM) (K N : Nat) (QR : Option Value → kM → Prop) (QX : String → kM → Prop) (kc nc : Nat), eLv g b (lvS n) lc → eMm g b t x u M → 2048 - x ≤ kc → PM - p ≤ nc → (∀ M', eMm g b R 2048 1 M' → QR (some (.int (gX g 7))) M') → kT l g (eMt i0).1 (eMt i0).2.1 (eMt i0).2.2.1 (eMt i0).2.2.2.1 (eMt i0).2.2.2.2 dd K N QR QX h lc [] M kc nc
noncomputable def rnE (i0 dd h : Nat) (lvS : Nat → List Nat) (R : eX) (PM u f n : Nat) (t : eX) (x p : Nat) : Bool := Option.rec (motive := fun _ => Bool) false (fun q => Prod.rec (motive := fun _ => Bool) (fun kd q1 => Prod.rec (motive := fun _ => Bool) (fun v q2 => Prod.rec (motive := fun _ => Bool) (fun t' q3 => Prod.rec (motive := fun _ => Bool) (fun x' q4 => Prod.rec (motive := fun _ => Bool) (fun p' _ => cnd (Nat.beq kd 0) (cnd (Nat.beq v (eI (Vt n))) (cnd (Nat.ble (Vt n) 4294967295) (cnd (Nat.ble x' 2048) (cnd (Nat.ble p' PM) (eTw 11 R t') false) false) false) false) false) q4) q3) q2) q1) q) (ev (eTab [(0, 4294967295), (n, n)] 32 2000) f dd i0 h (lvS n) [] t x p u)
noncomputable def rnC (i0 dd h : Nat) (lvS : Nat → List Nat) (R : eX) (PM u f : Nat) (fin : Nat → eX → Nat → Nat → Bool) (sp : Nat → Nat → Nat → Bool) (m : Nat) : Nat → eX → Nat → Nat → Bool := Nat.rec (motive := fun _ => Nat → eX → Nat → Nat → Bool) fin (fun _ ih n t x p => cnd (rnE i0 dd h lvS R PM u f n t x p) (fo (Nat.succ n) fun n' => eCw false h (lvS n') PM (evT (eTab [(0, 4294967295), (n', 60)] 32 2000) sp f dd i0 h (lvS n) [] t x p u) (fun t' x' p' u' => cnd (Nat.beq u' u) (ih n' t' x' p') false)) false) m
theorem eEnv_2 {g : kG} {lo hi T : Nat} (hL : 2 ≤ gL g) (h1 : gX g 1 = nI T) (h2 : lo ≤ T) (h3 : T ≤ hi) (h4 : T ≤ 60) : eEnv g [(0, 4294967295), (lo, hi)] := by
  refine ⟨hL, fun k => ?_⟩
  match k with
  | 0 =>
    obtain ⟨n, e1, e2⟩ := nI_all (gX g 0)
    exact ⟨n, e1, e2, Nat.zero_le _, show n ≤ 4294967295 by omega⟩
  | 1 => exact ⟨T, h1, by omega, h2, h3⟩
  | (k + 2) =>
    obtain ⟨n, e1, e2⟩ := nI_all (gX g (k + 2))
    exact ⟨n, e1, e2, Nat.zero_le _, show n ≤ 4294967295 by omega⟩
section RN
variable {i0 dd h : Nat} {lvS : Nat → List Nat} {R : eX} {PM u f : Nat}
theorem rnE_ok {n : Nat} {t : eX} {x p : Nat} (hh : rnE i0 dd h lvS R PM u f n t x p = true) : ∀ (g : kG) (b : Nat) (l : Launch), l.stackTraces = false → 2 ≤ gL g → gX g 1 = nI n → n ≤ 60 → gX g 7 = nI (Vt n) → ∀ (lc : List (Nat × Value)) (M : kM) (K N : Nat) (QR : Option Value → kM → Prop) (QX : String → kM → Prop) (kc nc : Nat), eLv g b (lvS n) lc → eMm g b t x u M → 2048 - x ≤ kc → PM - p ≤ nc → (∀ M', eMm g b R 2048 1 M' → QR (some (.int (gX g 7))) M') → kT l g (eMt i0).1 (eMt i0).2.1 (eMt i0).2.2.1 (eMt i0).2.2.2.1 (eMt i0).2.2.2.2 dd K N QR QX h lc [] M kc nc := by
  intro g b l hst hL h1 h60 h7 lc M K N QR QX kc nc a1 a3 a4 a5 a6
  unfold rnE at hh
  cases hr : ev (eTab [(0, 4294967295), (n, n)] 32 2000) f dd i0 h (lvS n) [] t x p u with
  | none => rw [hr] at hh; cases hh
  | some q =>
    obtain ⟨kd, v, t', x', p', u'⟩ := q
    rw [hr] at hh
    have hh1 : cnd (Nat.beq kd 0) (cnd (Nat.beq v (eI (Vt n))) (cnd (Nat.ble (Vt n) 4294967295) (cnd (Nat.ble x' 2048) (cnd (Nat.ble p' PM) (eTw 11 R t') false) false) false) false) false = true := hh
    obtain ⟨b1, hh2⟩ := c_and hh1
    obtain ⟨b2, hh3⟩ := c_and hh2
    obtain ⟨b3, hh4⟩ := c_and hh3
    obtain ⟨b4, hh5⟩ := c_and hh4
    obtain ⟨b5, b6⟩ := c_and hh5
    have e1 := beq_t b1
    have e2 := beq_t b2
    have e3 := ble_t b3
    have e4 := ble_t b4
    have e5 := ble_t b5
    subst e1; subst e2
    obtain ⟨g1, g2, g3⟩ := ev_ok (g := g) (b := b) (l := l) (mt := eMt) (fun i pc => eTab_ok (B := [(0, 4294967295), (n, n)]) (ks := 32) (Ls := 2000) (eEnv_2 hL h1 (Nat.le_refl n) (Nat.le_refl n) h60) rfl hst (fun h => absurd h (by decide)) (fun h => absurd h (by decide)) i pc) f dd i0 h (lvS n) [] t x p u _ hr
    refine g3 lc [] M K N QR QX kc nc a1 trivial a3 (show x' - x ≤ kc by omega) (show p' - p ≤ nc by omega) ⟨fun _ w M' hw hM' => ?_, fun E _ h0 => absurd h0 (show ¬ (0 : Nat) = E + 1 by omega)⟩ (fun h0 => absurd h0 (show ¬ (0 : Nat) = 200 by decide))
    have ev1 : eI (Vt n) = 16 * Vt n + 1 := rfl
    rcases hw with ⟨h0, -⟩ | ⟨-, z, rfl, hz⟩
    · have h0' : eI (Vt n) = 0 := h0
      omega
    · have hz9 : eVal g b (eI (Vt n)) z := hz
      have e9 : z = .int (nI (eI (Vt n) / 16)) := (hz9.I (by omega)).2
      rw [show eI (Vt n) / 16 = Vt n by omega, ← h7] at e9
      rw [e9]
      exact a6 M' (eMm_w b6 hM')
theorem rnC_ok {fin : Nat → eX → Nat → Nat → Bool} {sp : Nat → Nat → Nat → Bool} (hfin : ∀ n t x p, fin n t x p = true → RnP i0 dd h lvS R PM u n t x p) (m : Nat) : ∀ (n : Nat) (t : eX) (x p : Nat), rnC i0 dd h lvS R PM u f fin sp m n t x p = true → RnP i0 dd h lvS R PM u n t x p := by
  induction m with
  | zero => intro n t x p hh; exact hfin n t x p hh
  | succ m ih =>
    intro n t x p hh
    have hh1 : cnd (rnE i0 dd h lvS R PM u f n t x p) (fo (Nat.succ n) fun n' => eCw false h (lvS n') PM (evT (eTab [(0, 4294967295), (n', 60)] 32 2000) sp f dd i0 h (lvS n) [] t x p u) (fun t' x' p' u' => cnd (Nat.beq u' u) (rnC i0 dd h lvS R PM u f fin sp m n' t' x' p') false)) false = true := hh
    obtain ⟨hx, hh2⟩ := c_and hh1
    rw [fo_eq] at hh2
    obtain ⟨t', x', p', u', e0, e1, e2, e4, e5, e3⟩ := eCw_ok hh2
    obtain ⟨e6, e7⟩ := c_and e3
    have e8 := beq_t e6
    subst e8
    have Rn := ih _ _ _ _ e7
    intro g b l hst hL ⟨T, h1, h2, h3, h7⟩ lc M K N QR QX kc nc a1 a3 a4 a5 a6
    by_cases hT : T = n
    · subst hT
      exact rnE_ok hx g b l hst hL h1 h3 h7 lc M K N QR QX kc nc a1 a3 a4 a5 a6
    · obtain ⟨g1, g2, g3⟩ := evT_ok (g := g) (b := b) (l := l) (mt := eMt) (fun i pc => eTab_ok (B := [(0, 4294967295), (Nat.succ n, 60)]) (ks := 32) (Ls := 2000) (eEnv_2 hL h1 (show Nat.succ n ≤ T by omega) h3 h3) rfl hst (fun h => absurd h (by decide)) (fun h => absurd h (by decide)) i pc) sp f dd i0 h (lvS n) [] t x p u' _ e0
      have g1' : x ≤ x' := g1
      have g2' : p ≤ p' := g2
      refine g3 lc [] M K N QR QX kc nc a1 trivial a3 (show x' - x ≤ kc by omega) (show p' - p ≤ nc by omega) ⟨fun h0 => absurd h0 (show ¬ (200 : Nat) = 0 by decide), fun E hE9 h0 => absurd h0 (show ¬ (200 : Nat) = E + 1 by omega)⟩ (fun _ lc' sc' M' c1 c2 c3 => ?_)
      have c2' : eSk g b (eDs t') sc' := c2
      rw [e2] at c2'
      rw [eSk_nil c2']
      exact Rn g b l hst hL ⟨T, h1, show n + 1 ≤ T by omega, h3, h7⟩ lc' M' K N QR QX _ _ (eLv_w e1 c1) c3 (show 2048 - x' ≤ kc - (x' - x) by omega) (show PM - p' ≤ nc - (p' - p) by omega) a6
/-- the whole method, out of its head -/
theorem RnP_eG {pc0 : Nat} {lv0 : List Nat} {t t0 : eX} {x p : Nat} {sp : Nat → Nat → Nat → Bool} (Rn : RnP i0 dd h lvS R PM u 0 t x p) (hx : Nat.ble x 2048 = true) (hp : Nat.ble p PM = true) (hc : eCk h (lvS 0) [] t x p u (evT (eTab [(0, 4294967295), (0, 60)] 32 2000) sp f dd i0 pc0 lv0 [] t0 x p u) = true) {g : kG} {b : Nat} {l : Launch} (hst : l.stackTraces = false) (hL : 2 ≤ gL g) {T : Nat} (h1 : gX g 1 = nI T) (h60 : T ≤ 60) (h7 : gX g 7 = nI (Vt T))   : eG g b l (eMt i0) dd pc0 lv0 [] t0 x p u (0, 114, R, 2048, PM, 1) := by
  refine ⟨ble_t hx, ble_t hp, fun lc sc M K N QR QX kc nc a1 a2 a3 a4 a5 a6 a7 => ?_⟩
  rw [eSk_nil a2]
  refine kT_cut (q := eMt i0) (lv := lv0) (st := []) (t := t0) (x := x) (p := p) (u := u) (dd := dd) (pc := pc0) (fun r' hr => evT_ok (g := g) (b := b) (l := l) (mt := eMt) (fun i pc => eTab_ok (B := [(0, 4294967295), (0, 60)]) (ks := 32) (Ls := 2000) (eEnv_2 hL h1 (Nat.zero_le T) h60 h60) rfl hst (fun h => absurd h (by decide)) (fun h => absurd h (by decide)) i pc) sp f dd i0 pc0 lv0 [] t0 x p u r' hr) hc a1 trivial a3 (by omega) (by omega) (fun lc' sc' M' c1 c2 c3 => ?_)
  rw [eSk_nil c2]
  refine Rn g b l hst hL ⟨T, h1, Nat.zero_le T, h60, h7⟩ lc' M' K N QR QX _ _ c1 c3 ?_ ?_ (fun M9 h9 => a6.1 rfl (some (.int (gX g 7))) M9 (Or.inr ⟨show ¬ (114 : Nat) = 0 by decide, _, rfl, Or.inl ⟨_, rfl, Or.inr (Or.inl ⟨show (114 : Nat) % 16 = 2 by decide, show gX g 7 = gX g ((114 : Nat) / 16) from rfl⟩)⟩⟩) h9)
  · have a4' : 2048 - x ≤ kc := a4
    omega
  · have a5' : PM - p ≤ nc := a5
    omega
end RN
/-- the law with walks that are known -/
theorem law_mem {pc : Nat} {lv : List Nat} {t : eX} {x p u K N : Nat} {B : eBd} {ks Ls f : Nat} {mem : eRun} (hB : Nat.ble B.length 1000 = true) (hm : ∀ (g : kG) (b : Nat) (l : Launch), l.stackTraces = false → eV7 g → eEnv g B → ∀ dd i pc lv st t x p u r, mem dd i pc lv st t x p u = some r → eG g b l (eMt i) dd pc lv st t x p u r) (h : eOk (evM (eTab B ks Ls) mem f 60 222 pc lv [] t x p u) = true) : lawP pc lv t x p u K N B ks Ls := by
  intro g b l hst hV hE hLn hks lc M kc nc a1 a3 a4 a5
  obtain ⟨t', x', p', u', e, hx, hp⟩ := eOk_ok h
  obtain ⟨g1, g2, g3⟩ := evM_ok (g := g) (b := b) (l := l) (mt := eMt) (fun i pc => eTab_ok hE hB hst hLn hks i pc) mem (hm g b l hst hV hE) f 60 222 pc lv [] t x p u _ e
  have g1' : x ≤ x' := g1
  have g2' : p ≤ p' := g2
  refine g3 lc [] M K N lawQ lawX kc nc a1 trivial a3 (show x' - x ≤ kc by omega) (show p' - p ≤ nc by omega) ⟨fun _ w M' hw _ => ?_, fun E _ h0 => absurd h0 (show ¬ (0 : Nat) = E + 1 by omega)⟩ (fun h0 => absurd h0 (show ¬ (0 : Nat) = 200 by decide))
  rcases hw with ⟨h0, -⟩ | ⟨-, z, rfl, hz⟩
  · exact absurd h0 (show ¬ (17 : Nat) = 0 by decide)
  · have hz9 : eVal g b 17 z := hz
    have e1 : z = .int (nI 1) := (hz9.I (by decide)).2
    rw [e1]
    rfl

/-! ===== System.arraycopy; the tables' frame ===== -/
theorem eCp_ok {α : Type} (n : Nat) : ∀ (t : eX) (a0 s0 a d0 : Nat) (c : eX → Option α) (r : α), eCp n t a0 s0 a d0 c = some r → a0 ≠ a → a0 < 2048 → a < 2048 → s0 + n < 100000000 → d0 + n < 100000000 → ∃ t', c t' = some r ∧ ∀ a' k', a' < 2048 → eGet t' (eKy a' k') = if a' = a ∧ d0 + 1 ≤ k' ∧ k' < d0 + 1 + n then eGet t (eKy a0 (s0 + (k' - d0))) else eGet t (eKy a' k') := by
  induction n with
  | zero =>
    intro t a0 s0 a d0 c r h hne h1 h2 h3 h4
    exact ⟨t, h, fun a' k' ha' => by rw [if_neg (by omega)]⟩
  | succ n ih =>
    intro t a0 s0 a d0 c r h hne h1 h2 h3 h4
    have h5 : fo (eGet t (eKy a0 (Nat.succ s0))) (fun v => eSetK 40 t (eKy a (Nat.succ d0)) v fun t' => fo (Nat.succ s0) fun s1 => fo (Nat.succ d0) fun d1 => eCp n t' a0 s1 a d1 c) = some r := h
    rw [fo_eq] at h5
    obtain ⟨t1, e1, e2⟩ := eSet_ok (t := t) (a := a) (k := d0 + 1) (v := eGet t (eKy a0 (Nat.succ s0))) h2 (by omega)
    have e3 := e2 (fun t' => fo (Nat.succ s0) fun s1 => fo (Nat.succ d0) fun d1 => eCp n t' a0 s1 a d1 c)
    rw [show eKy a (d0 + 1) = eKy a (Nat.succ d0) from rfl] at e3
    rw [e3, fo_eq, fo_eq] at h5
    obtain ⟨t', g1, g2⟩ := ih t1 a0 (s0 + 1) a (d0 + 1) c r h5 hne h1 h2 (by omega) (by omega)
    refine ⟨t', g1, fun a' k' ha' => ?_⟩
    have e5 : ∀ k, eGet t1 (eKy a0 k) = eGet t (eKy a0 k) := fun k => by rw [e1 a0 k h1, if_neg (fun z => hne z.1)]
    rw [g2 a' k' ha', e5, e1 a' k' ha']
    by_cases q : a' = a ∧ d0 + 1 ≤ k' ∧ k' < d0 + 1 + (n + 1)
    · rw [if_pos q]
      by_cases q2 : a' = a ∧ d0 + 1 + 1 ≤ k' ∧ k' < d0 + 1 + 1 + n
      · rw [if_pos q2, show s0 + 1 + (k' - (d0 + 1)) = s0 + (k' - d0) by omega]
      · rw [if_neg q2, if_pos (by omega), show s0 + (k' - d0) = Nat.succ s0 by omega]
    · rw [if_neg q, if_neg (by omega), if_neg (by omega)]
section EY
variable {g : kG} {b : Nat} {l : Launch} {mt : Nat → eMeta} {nm : MethodName} {cc : ByteArray} {mL : Nat} {rt : Option FieldType} {hh : List (Nat × Nat × Nat × Nat)} {pc : Nat}
theorem eMm_cp {t t' : eX} {x u a a0 s0 d0 n : Nat} {M : kM} (hM : eMm g b t x u M) (ha : a < 2048) (ha0 : a0 < 2048) (hob : eGet t (eKy a 0) ≠ 0) (ho2 : eGet t (eKy a 0) % 2 = 0) (hob0 : eGet t (eKy a0 0) ≠ 0) (ho20 : eGet t (eKy a0 0) % 2 = 0) {ty : Nat} (h1 : (eGet t (eKy a 0) / 2 - 1) % 16 = ty) (h2 : (eGet t (eKy a0 0) / 2 - 1) % 16 = ty) (hty : ty = 0 ∨ ty = 2)
    (hS : ∀ a' k', a' < 2048 → eGet t' (eKy a' k') = if a' = a ∧ d0 + 1 ≤ k' ∧ k' < d0 + 1 + n then eGet t (eKy a0 (s0 + (k' - d0))) else eGet t (eKy a' k')) : eMm g b t' x u (wai M (b + a) (va_cpy (ai M (b + a0)) (ai M (b + a)) s0 d0 n)) := by
  obtain ⟨-, -, c0⟩ := hM.arr ha0 hob0 ho20
  obtain ⟨m1, m2, m3, m4, m5⟩ := hM
  have hx : a < x := by
    rcases Nat.lt_or_ge a x with h | h
    · exact h
    · exact absurd (m3 a h ha 0) hob
  refine ⟨fun h => by rw [k_nx_wai]; exact m1 h, fun a' ha' => ?_, fun a' hxa ha' k' => ?_, by rw [k_tg_wai]; exact m4, by rw [k_tg_wai]; exact m5⟩
  · have e0 : eGet t' (eKy a' 0) = eGet t (eKy a' 0) := by rw [hS a' 0 ha', if_neg (by omega)]
    unfold eCell
    rw [e0, k_tg_wai, k_ln_wai, k_fi_wai, k_fl_wai, k_fr_wai, k_al_wai, k_ar_wai]
    obtain ⟨q1, q2⟩ := m2 a' ha'
    refine ⟨fun z => ⟨(q1 z).1, fun k' => ?_⟩, fun z1 z2 => ⟨(q2 z1 z2).1, (q2 z1 z2).2.1, fun k' => ?_⟩⟩
    · rw [hS a' _ ha', if_neg (fun e => by rw [e.1] at z; omega)]
      exact (q1 z).2 k'
    · rw [hS a' _ ha', k_ai_wai]
      by_cases e : a' = a
      · subst e
        rw [if_pos rfl, h1]
        unfold va_cpy
        by_cases q : d0 ≤ k' ∧ k' < d0 + n
        · rw [if_pos ⟨rfl, by omega, by omega⟩, if_pos q, show s0 + (k' + 1 - d0) = s0 + (k' - d0) + 1 by omega]
          have c1 := c0 (s0 + (k' - d0))
          rw [h2] at c1
          rcases hty with e | e <;> subst e <;> exact c1
        · rw [if_neg (by omega), if_neg q, ← h1]
          exact (q2 z1 z2).2.2 k'
      · rw [if_neg (fun z => e z.1), if_neg (by omega)]
        exact (q2 z1 z2).2.2 k'
  · rw [hS a' k' ha', if_neg (by omega)]
    exact m3 a' hxa ha' k'
theorem so_copy {ty idx np : Nat} (hdg : decode cc pc = .ok (.invokestatic idx, 3)) (hw : Cond.methodLink nm.cls idx arraycopyName ∈ kTb) (hw1 : Cond.native arraycopyName ∈ kTb) (hw2 : Cond.static arraycopyName ∈ kTb) (hw3 : Cond.initialized "java/lang/System" ∈ kTb) (hty : ty = 0 ∨ ty = 2) (hp : pc + 3 = np) : eSOK g b l mt (nm, cc, mL, rt, hh) pc (hCp ty np) := by
  subst hp
  refine so_mem (fun ih dd i lv st t x p u r h => ?_)
  obtain ⟨n, s, es, h1⟩ := eP_some h
  subst es
  obtain ⟨dp, s1, es, h2⟩ := eP_some h1
  subst es
  obtain ⟨o, s2, es, h3⟩ := eP_some h2
  subst es
  obtain ⟨sp, s3, es, h4⟩ := eP_some h3
  subst es
  obtain ⟨o0, rest, es, h5⟩ := eP_some h4
  subst es
  obtain ⟨i1, h6⟩ := eGd_some h5
  obtain ⟨i2, h7⟩ := eGd_some h6
  obtain ⟨i3, h8⟩ := eGd_some h7
  have j1 := beq_t i1
  have j2 := beq_t i2
  have j3 := beq_t i3
  rw [eLnd] at j1 j2 j3
  obtain ⟨o1, o2, h9⟩ := eAd_some h8
  obtain ⟨p1, p2, h10⟩ := eAd_some h9
  obtain ⟨b1, b2, h12⟩ := eAr_some o2 h10
  obtain ⟨b3, b4, h13⟩ := eAr_some p2 h12
  obtain ⟨i5, h14⟩ := eGd_some h13
  obtain ⟨i6, h15⟩ := eGd_some h14
  obtain ⟨i7, h16⟩ := eGd_some h15
  obtain ⟨i8, h17⟩ := eGd_some h16
  obtain ⟨i9, h18⟩ := eGd_some h17
  obtain ⟨i10, h19⟩ := eGd_some h18
  obtain ⟨i11, h20⟩ := eGd_some h19
  obtain ⟨i12, h21⟩ := eGd_some h20
  have j5 := beq_t i5
  have j6 := beq_t i6
  have j7 := ble_t i7
  have j8 := ble_t i8
  have j9 : sp / 16 + n / 16 ≤ (eGet t (eKy (o0 / 16) 0) / 2 - 1) / 16 := ble_t i9
  have j10 : dp / 16 + n / 16 ≤ (eGet t (eKy (o / 16) 0) / 2 - 1) / 16 := ble_t i10
  rw [cond_beq] at h21
  have fin : ∀ (t' : eX) (hM : ∀ M, eMm g b t x u M → eMm g b t' x u (wai M (b + o / 16) (va_cpy (ai M (b + o0 / 16)) (ai M (b + o / 16)) (sp / 16) (dp / 16) (n / 16)))), ih dd i (pc + 3) lv rest t' x p u = some r → ∃ np lv' st' t', ih dd i np lv' st' t' x p u = some r ∧ ∀ lc sc M, eLv g b lv lc → eSk g b (n :: dp :: o :: sp :: o0 :: rest) sc → eMm g b t x u M → ∃ lc' sc' M', eLv g b lv' lc' ∧ eSk g b st' sc' ∧ eMm g b t' x u M' ∧ ∀ K N QR QX kc nc, kT l g nm cc mL rt hh dd K N QR QX np lc' sc' M' kc nc → kT l g nm cc mL rt hh dd K N QR QX pc lc sc M kc nc := by
    intro t' hM g1
    refine ⟨_, lv, rest, t', g1, fun lc sc M a1 a2 a3 => ?_⟩
    obtain ⟨w1, ws1, rfl, c1, c2⟩ := eSk_cons a2
    obtain ⟨w2, ws2, rfl, c3, c4⟩ := eSk_cons c2
    obtain ⟨w3, ws3, rfl, c5, c6⟩ := eSk_cons c4
    obtain ⟨w4, ws4, rfl, c7, c8⟩ := eSk_cons c6
    obtain ⟨w5, ws5, rfl, c9, c10⟩ := eSk_cons c8
    rw [(c1.I j1).2, (c3.I j2).2, c5.O o1, (c7.I j3).2, c9.O p1]
    obtain ⟨d1, d2, d3⟩ := a3.arr o2 b1 b2
    obtain ⟨f1, f2, f3⟩ := a3.arr p2 b3 b4
    refine ⟨lc, ws5, _, a1, c10, hM M a3, fun K N QR QX kc nc hq => ?_⟩
    exact kT_copyI (t := ty) (s0 := sp / 16) (d0 := dp / 16) (n0 := n / 16) hdg hw hw1 hw2 hw3 hty (by rw [f1, j6]) (by rw [d1, j5]) (nI_toInt (by omega)) (nI_toInt (by omega)) (nI_toInt (by omega)) (by rw [f2]; exact j9) (by rw [d2]; exact j10) (ble_t i11) (by rw [eCat_ok c10]; exact ble_t i12) hq
  by_cases hne : o / 16 = o0 / 16
  · rw [if_pos hne] at h21
    obtain ⟨k1, h22⟩ := eGd_some h21
    have e9 : dp / 16 = sp / 16 := beq_t k1
    refine fin t (fun M a3 => ?_) h22
    rw [← hne, e9, ← wai_self M (b + o / 16) (fun j => by
      unfold va_cpy
      by_cases q : sp / 16 ≤ j ∧ j < sp / 16 + n / 16
      · rw [if_pos q, show sp / 16 + (j - sp / 16) = j by omega]
      · rw [if_neg q])]
    exact a3
  · rw [if_neg hne] at h21
    obtain ⟨t', g1, g2⟩ := eCp_ok (ePl n) t (o0 / 16) (ePl sp) (o / 16) (ePl dp) _ r h21 (fun z => hne z.symm) p2 o2 (by have e1 : ePl sp = sp / 16 := rfl; have e2 : ePl n = n / 16 := rfl; omega) (by have e1 : ePl dp = dp / 16 := rfl; have e2 : ePl n = n / 16 := rfl; omega)
    exact fin t' (fun M a3 => eMm_cp a3 o2 p2 b1 b2 b3 b4 j5 j6 hty g2) g1
end EY

/-! ===== instructions: things made, the script, switches, ends, calls ===== -/
section EM
variable {g : kG} {b : Nat} {l : Launch} {mt : Nat → eMeta} {nm : MethodName} {cc : ByteArray} {mL : Nat} {rt : Option FieldType} {hh : List (Nat × Nat × Nat × Nat)} {pc : Nat}
theorem eMm_nwO {t t' : eX} {x c : Nat} {M : kM} (hM : eMm g b t x 0 M) (hx : x < 2048) (h0 : ∀ a, nx M ≤ a → tg M a = 0) (hS : ∀ a' k', a' < 2048 → eGet t' (eKy a' k') = if a' = x ∧ k' = 0 then eHO c else eGet t (eKy a' k')) : eMm g b t' (x + 1) 0 (nwO M c) := by
  obtain ⟨m1, m2, m3, m4, m5⟩ := hM
  have hnx := m1 rfl
  have hN : gN g ≠ nx M := fun e => by have := h0 (gN g) (by omega); omega
  have hW : gW g ≠ nx M := fun e => by have := h0 (gW g) (by omega); omega
  refine ⟨fun _ => by rw [k_nx_nwO]; omega, fun a ha => ?_, fun a hxa ha k => ?_, by rw [k_tg_nwO, if_neg hN]; exact m4, by rw [k_tg_nwO, if_neg hW]; exact m5⟩
  · by_cases e : a = x
    · subst e
      have e0 : eGet t' (eKy a 0) = eHO c := by rw [hS a 0 ha, if_pos ⟨rfl, rfl⟩]
      unfold eCell
      rw [e0, eHO_eq]
      refine ⟨fun _ => ⟨by rw [k_tg_nwO, if_pos hnx.symm]; omega, fun k => ?_⟩, fun _ z => by omega⟩
      rw [hS a (k + 1) ha, if_neg (by omega), m3 a (Nat.le_refl _) ha (k + 1), k_fi_nwO, if_pos hnx.symm, k_fl_nwO, if_pos hnx.symm, k_fr_nwO, if_pos hnx.symm]
      exact ⟨fun _ => ⟨rfl, rfl, rfl⟩, fun z => by omega, fun z => by omega, fun z => by omega⟩
    · have hne : ¬ b + a = nx M := by omega
      unfold eCell
      rw [hS a 0 ha, if_neg (fun z => e z.1), k_tg_nwO, if_neg hne, k_ln_nwO, k_ai_nwO, k_al_nwO, k_ar_nwO]
      obtain ⟨q1, q2⟩ := m2 a ha
      refine ⟨fun z => ⟨(q1 z).1, fun k => ?_⟩, fun z1 z2 => ⟨(q2 z1 z2).1, (q2 z1 z2).2.1, fun k => ?_⟩⟩
      · rw [hS a _ ha, if_neg (fun z => e z.1), k_fi_nwO, if_neg hne, k_fl_nwO, if_neg hne, k_fr_nwO, if_neg hne]
        exact (q1 z).2 k
      · rw [hS a _ ha, if_neg (fun z => e z.1)]
        exact (q2 z1 z2).2.2 k
  · rw [hS a k ha, if_neg (by omega)]
    exact m3 a (by omega) ha k
theorem eHas_0 {i : Int32} {z : Int64} {r : Option Nat} (hi : i = 0) (hz : z = 0) (hr : r = none) : eHas g b 0 i z r := ⟨fun _ => ⟨hi, hz, hr⟩, fun z => by omega, fun z => by omega, fun z => by omega⟩
theorem mkI_0 {ty : Nat} : mkI ty 0 = 0 := by unfold mkI; split <;> rfl
theorem mkL_0 {ty : Nat} : mkL ty 0 = 0 := by unfold mkL; split <;> rfl
theorem mkR_0 {ty : Nat} : mkR ty none = none := by unfold mkR; split <;> rfl
theorem eMm_nwA {t t' : eX} {x ty n : Nat} {M : kM} (hM : eMm g b t x 0 M) (hx : x < 2048) (hty : ty < 16) (h0 : ∀ a, nx M ≤ a → tg M a = 0) (hS : ∀ a' k', a' < 2048 → eGet t' (eKy a' k') = if a' = x ∧ k' = 0 then eHA ty n else eGet t (eKy a' k')) : eMm g b t' (x + 1) 0 (nwA M ty n) := by
  obtain ⟨m1, m2, m3, m4, m5⟩ := hM
  have hnx := m1 rfl
  have hN : gN g ≠ nx M := fun e => by have := h0 (gN g) (by omega); omega
  have hW : gW g ≠ nx M := fun e => by have := h0 (gW g) (by omega); omega
  refine ⟨fun _ => by rw [k_nx_nwA]; omega, fun a ha => ?_, fun a hxa ha k => ?_, by rw [k_tg_nwA, if_neg hN]; exact m4, by rw [k_tg_nwA, if_neg hW]; exact m5⟩
  · by_cases e : a = x
    · subst e
      have e0 : eGet t' (eKy a 0) = eHA ty n := by rw [hS a 0 ha, if_pos ⟨rfl, rfl⟩]
      have e1 : (eHA ty n / 2 - 1) % 16 = ty := by rw [eHA_eq]; omega
      have e2 : (eHA ty n / 2 - 1) / 16 = n := by rw [eHA_eq]; omega
      unfold eCell
      rw [e0, e1, e2]
      refine ⟨fun z => by rw [eHA_eq] at z; omega, fun _ _ => ⟨by rw [k_tg_nwA, if_pos hnx.symm], by rw [k_ln_nwA, if_pos hnx.symm], fun k => ?_⟩⟩
      rw [hS a (k + 1) ha, if_neg (by omega), m3 a (Nat.le_refl _) ha (k + 1), k_ai_nwA, if_pos hnx.symm, k_al_nwA, if_pos hnx.symm, k_ar_nwA, if_pos hnx.symm]
      exact eHas_0 mkI_0 mkL_0 mkR_0
    · have hne : ¬ b + a = nx M := by omega
      unfold eCell
      rw [hS a 0 ha, if_neg (fun z => e z.1), k_tg_nwA, if_neg hne, k_ln_nwA, if_neg hne, k_fi_nwA, k_fl_nwA, k_fr_nwA]
      obtain ⟨q1, q2⟩ := m2 a ha
      refine ⟨fun z => ⟨(q1 z).1, fun k => ?_⟩, fun z1 z2 => ⟨(q2 z1 z2).1, (q2 z1 z2).2.1, fun k => ?_⟩⟩
      · rw [hS a _ ha, if_neg (fun z => e z.1)]
        exact (q1 z).2 k
      · rw [hS a _ ha, if_neg (fun z => e z.1), k_ai_nwA, if_neg hne, k_al_nwA, if_neg hne, k_ar_nwA, if_neg hne]
        exact (q2 z1 z2).2.2 k
  · rw [hS a k ha, if_neg (by omega)]
    exact m3 a (by omega) ha k
theorem so_newO {c sz idx np : Nat} (hdg : decode cc pc = .ok (.new idx, 3)) (hc : c < 13) (hw1 : Cond.classLink nm.cls idx (kNm c) ∈ kTb) (hw2 : Cond.instantiable (kNm c) (kSz c) ∈ kTb) (hw3 : Cond.initialized (kNm c) ∈ kTb) (hsz : kSz c = sz) (hp : pc + 3 = np) : eSOK g b l mt (nm, cc, mL, rt, hh) pc (hNew c sz np) := by
  subst hp
  refine so_new (fun ih dd i lv st t x p u r h => ?_)
  obtain ⟨h1, h2⟩ := eGd_some h
  obtain ⟨h3, h4⟩ := eGd_some h2
  have hu := beq_t h1
  subst hu
  have hx : x < 2048 := by have := ble_t h3; omega
  obtain ⟨t', e1, e2⟩ := eSet_ok (t := t) (k := 0) (v := eHO c) hx (by decide)
  rw [e2, fo_eq, fo_eq, fo_eq] at h4
  refine ⟨_, lv, _, t', _, _, _, h4, Nat.le_succ x, Nat.le_add_right p sz, fun lc sc M a1 a2 a3 K N QR QX kc nc k1 k2 kk => ?_⟩
  have f1 : Nat.succ x - x = 1 := by omega
  have f2 : Nat.add p sz - p = sz := by show p + sz - p = sz; omega
  rw [f1] at k1 kk
  rw [f2] at k2 kk
  refine kT_new hdg hc hw1 hw2 hw3 k1 (by rw [hsz]; exact k2) (fun _ h0 => ?_)
  rw [hsz]
  refine kk lc (.ref (nx M) :: sc) (nwO M c) a1 ⟨?_, a2⟩ (eMm_nwO a3 hx h0 e1)
  rw [a3.1 rfl]
  exact eVal_O x
theorem so_Na {ty np : Nat} (hty : ty < 16) (row : ∀ dd lv rest M K N QR QX kc nc n, n ≤ 1000000 → 1 ≤ kc → n ≤ nc → ((∀ b, nx M ≤ b → tg M b = 0) → kT l g nm cc mL rt hh dd K N QR QX np lv (.ref (nx M) :: rest) (nwA M ty n) (kc - 1) (nc - n)) → kT l g nm cc mL rt hh dd K N QR QX pc lv (.int (nI n) :: rest) M kc nc) : eSOK g b l mt (nm, cc, mL, rt, hh) pc (hNa ty np) := by
  refine so_new (fun ih dd i lv st t x p u r h => ?_)
  obtain ⟨v, s, es, h1⟩ := eP_some h
  subst es
  obtain ⟨h2, h3⟩ := eGd_some h1
  obtain ⟨h4, h5⟩ := eGd_some h3
  obtain ⟨h6, h7⟩ := eGd_some h5
  obtain ⟨h8, h9⟩ := eGd_some h7
  have e3 := beq_t h2
  rw [eLnd] at e3
  have hu := beq_t h6
  subst hu
  have hx : x < 2048 := by have := ble_t h8; omega
  have hn : v / 16 ≤ 1000000 := ble_t h4
  obtain ⟨t', e1, e2⟩ := eSet_ok (t := t) (k := 0) (v := eHA ty (v / 16)) hx (by decide)
  have e4 := e2 (fun t' => fo (eO x) fun r => fo (Nat.succ x) fun x' => fo (Nat.add p (ePl v)) fun p' => ih dd i np lv (r :: s) t' x' p' 0)
  rw [show eHA ty (v / 16) = eHA ty (ePl v) from rfl] at e4
  rw [e4, fo_eq, fo_eq, fo_eq] at h9
  refine ⟨_, lv, _, t', _, _, _, h9, Nat.le_succ x, Nat.le_add_right p _, fun lc sc M a1 a2 a3 K N QR QX kc nc k1 k2 kk => ?_⟩
  obtain ⟨w, ws, rfl, b1, b2⟩ := eSk_cons a2
  rw [(b1.I e3).2]
  have f1 : Nat.succ x - x = 1 := by omega
  have f2 : Nat.add p (ePl v) - p = v / 16 := by show p + v / 16 - p = _; omega
  rw [f1] at k1 kk
  rw [f2] at k2 kk
  refine row _ _ _ _ _ _ _ _ _ _ _ hn k1 k2 (fun h0 => ?_)
  refine kk lc (.ref (nx M) :: ws) (nwA M ty (v / 16)) a1 ⟨?_, b2⟩ (eMm_nwA a3 hx hty h0 e1)
  rw [a3.1 rfl]
  exact eVal_O x
theorem so_newarray {ty np : Nat} {atype : ArrayType} (hdg : decode cc pc = .ok (.newarray atype, 2)) (hty : newarray.typeOf atype = kAty ty) (ht4 : ty < 4) (hw : Cond.arrayClass (kAty ty) ∈ kTb) (hp : pc + 2 = np) : eSOK g b l mt (nm, cc, mL, rt, hh) pc (hNa ty np) := by
  subst hp
  exact so_Na (by omega) (fun _ _ _ _ _ _ _ _ _ _ n hn h1 h2 kk => kT_newa hdg hty ht4 hw (nI_toInt (by omega)) (by omega) h1 h2 (fun _ h0 => kk h0))
theorem so_anewarray {ty np idx : Nat} (hdg : decode cc pc = .ok (.anewarray idx, 3)) (ht4 : 4 ≤ ty) (ht8 : ty < 8) (hw1 : Cond.classLink nm.cls idx (kNm (kEl ty)) ∈ kTb) (hp : pc + 3 = np) : eSOK g b l mt (nm, cc, mL, rt, hh) pc (hNa ty np) := by
  subst hp
  exact so_Na (by omega) (fun _ _ _ _ _ _ _ _ _ _ n hn h1 h2 kk => kT_anew hdg ht4 ht8 hw1 (nI_toInt (by omega)) (by omega) h1 h2 (fun _ h0 => kk h0))
/-- rows of a grid -/
theorem eRw_ok {α : Type} (m : Nat) : ∀ (t : eX) (o a j k : Nat) (c : eX → Option α) (r : α), eRw m t o a j k c = some r → o < a → a ≤ 2048 → j + m < 10000 → ∃ t', a + m ≤ 2048 ∧ c t' = some r ∧ ∀ a' k', a' < 2048 → eGet t' (eKy a' k') = if a ≤ a' ∧ a' < a + m ∧ k' = 0 then eHA 0 k else if a' = o ∧ j + 1 ≤ k' ∧ k' < j + 1 + m then eO (a + (k' - 1 - j)) else eGet t (eKy a' k') := by
  induction m with
  | zero =>
    intro t o a j k c r h ho ho2 hj
    refine ⟨t, by omega, h, fun a' k' ha' => ?_⟩
    rw [if_neg (by omega), if_neg (by omega)]
  | succ m ih =>
    intro t o a j k c r h ho ho2 hj
    obtain ⟨h1, h2⟩ := eGd_some h
    have ha : a < 2048 := by have := ble_t h1; omega
    obtain ⟨t1, e1, e2⟩ := eSet_ok (t := t) (k := 0) (v := eHA 0 k) ha (by decide)
    rw [e2, fo_eq] at h2
    obtain ⟨t2, e3, e4⟩ := eSet_ok (t := t1) (a := o) (k := j + 1) (v := eO a) (by omega) (by omega)
    have e5 := e4 (fun t2 => fo (Nat.succ a) fun a' => fo (Nat.succ j) fun j' => eRw m t2 o a' j' k c)
    rw [show eKy o (j + 1) = eKy o (Nat.succ j) from rfl] at e5
    have h3 : (eSetK 40 t1 (eKy o (Nat.succ j)) (eO a) fun t2 => fo (Nat.succ a) fun a' => fo (Nat.succ j) fun j' => eRw m t2 o a' j' k c) = some r := h2
    rw [e5, fo_eq, fo_eq] at h3
    obtain ⟨t', g1, g2, g3⟩ := ih t2 o (a + 1) (j + 1) k c r h3 (by omega) (by omega) (by omega)
    refine ⟨t', by omega, g2, fun a' k' ha' => ?_⟩
    rw [g3 a' k' ha', e3 a' k' ha', e1 a' k' ha']
    by_cases q1 : a ≤ a' ∧ a' < a + (m + 1) ∧ k' = 0
    · rw [if_pos q1]
      by_cases q2 : a + 1 ≤ a' ∧ a' < a + 1 + m ∧ k' = 0
      · rw [if_pos q2]
      · rw [if_neg q2, if_neg (by omega), if_neg (by omega), if_pos (by omega)]
    · rw [if_neg q1, if_neg (by omega)]
      by_cases q3 : a' = o ∧ j + 1 ≤ k' ∧ k' < j + 1 + (m + 1)
      · rw [if_pos q3]
        by_cases q4 : a' = o ∧ j + 1 + 1 ≤ k' ∧ k' < j + 1 + 1 + m
        · rw [if_pos q4, show a + 1 + (k' - 1 - (j + 1)) = a + (k' - 1 - j) by omega]
        · rw [if_neg q4, if_pos (by omega), show a + (k' - 1 - j) = a by omega]
      · rw [if_neg q3, if_neg (by omega), if_neg (by omega), if_neg (by omega)]
theorem eMm_nwG {t t' : eX} {x n k : Nat} {M : kM} (hM : eMm g b t x 0 M) (hx : x + 1 + n ≤ 2048) (h0 : ∀ a, nx M ≤ a → tg M a = 0) (hS : ∀ a' k', a' < 2048 → eGet t' (eKy a' k') = if x + 1 ≤ a' ∧ a' < x + 1 + n ∧ k' = 0 then eHA 0 k else if a' = x ∧ 1 ≤ k' ∧ k' < 1 + n then eO (x + 1 + (k' - 1)) else if a' = x ∧ k' = 0 then eHA 8 n else eGet t (eKy a' k')) : eMm g b t' (x + 1 + n) 0 (nwG M n k) := by
  obtain ⟨m1, m2, m3, m4, m5⟩ := hM
  have hnx := m1 rfl
  have hN : ¬ nx M ≤ gN g := fun e => by have := h0 (gN g) e; omega
  have hW : ¬ nx M ≤ gW g := fun e => by have := h0 (gW g) e; omega
  refine ⟨fun _ => by rw [k_nx_nwG]; omega, fun a ha => ?_, fun a hxa ha k => ?_, by rw [k_tg_nwG, if_neg (by omega), if_neg (by omega)]; exact m4, by rw [k_tg_nwG, if_neg (by omega), if_neg (by omega)]; exact m5⟩
  · by_cases e : a = x
    · subst e
      have e0 : eGet t' (eKy a 0) = eHA 8 n := by rw [hS a 0 ha, if_neg (by omega), if_neg (by omega), if_pos ⟨rfl, rfl⟩]
      have e1 : (eHA 8 n / 2 - 1) % 16 = 8 := by rw [eHA_eq]; omega
      have e2 : (eHA 8 n / 2 - 1) / 16 = n := by rw [eHA_eq]; omega
      unfold eCell
      rw [e0, e1, e2]
      refine ⟨fun z => by rw [eHA_eq] at z; omega, fun _ _ => ⟨by rw [k_tg_nwG, if_pos hnx.symm], by rw [k_ln_nwG, if_pos hnx.symm], fun j => ?_⟩⟩
      rw [hS a (j + 1) ha, if_neg (by omega), k_ar_nwG, if_pos hnx.symm]
      by_cases q : j < n
      · rw [if_pos (by omega), if_pos q]
        refine eHas_r (r := mkR 8 (some (nx M + 1 + j))) ?_ ?_
        · show eIa (16 * (a + 1 + (j + 1 - 1)) + 6) = true
          unfold eIa
          rw [eLnd, show (16 * (a + 1 + (j + 1 - 1)) + 6) % 16 = 6 by omega]; rfl
        · show eVal g b _ (.ref (nx M + 1 + j))
          rw [hnx, show b + a + 1 + j = b + (a + 1 + (j + 1 - 1)) by omega]
          exact eVal_O _
      · rw [if_neg (by omega), if_neg (by omega), if_neg q, m3 a (Nat.le_refl _) ha (j + 1)]
        exact eHas_0 rfl rfl rfl
    · by_cases e2 : x < a ∧ a ≤ x + n
      · have e0 : eGet t' (eKy a 0) = eHA 0 k := by rw [hS a 0 ha, if_pos ⟨by omega, by omega, rfl⟩]
        have e1 : (eHA 0 k / 2 - 1) % 16 = 0 := by rw [eHA_eq]; omega
        have e2' : (eHA 0 k / 2 - 1) / 16 = k := by rw [eHA_eq]; omega
        unfold eCell
        rw [e0, e1, e2']
        refine ⟨fun z => by rw [eHA_eq] at z; omega, fun _ _ => ⟨by rw [k_tg_nwG, if_neg (by omega), if_pos (by omega)], by rw [k_ln_nwG, if_neg (by omega), if_pos (by omega)], fun j => ?_⟩⟩
        rw [hS a (j + 1) ha, if_neg (by omega), if_neg (by omega), if_neg (by omega), m3 a (by omega) ha (j + 1), k_ai_nwG, if_pos (by omega)]
        exact eHas_0 rfl rfl rfl
      · have hne : ¬ b + a = nx M := by omega
        have hne2 : ¬ (nx M < b + a ∧ b + a ≤ nx M + n) := by omega
        unfold eCell
        rw [hS a 0 ha, if_neg (by omega), if_neg (by omega), if_neg (by omega), k_tg_nwG, if_neg hne, if_neg hne2, k_ln_nwG, if_neg hne, if_neg hne2, k_fi_nwG, k_fl_nwG, k_fr_nwG, k_al_nwG]
        obtain ⟨q1, q2⟩ := m2 a ha
        refine ⟨fun z => ⟨(q1 z).1, fun k => ?_⟩, fun z1 z2 => ⟨(q2 z1 z2).1, (q2 z1 z2).2.1, fun k => ?_⟩⟩
        · rw [hS a _ ha, if_neg (by omega), if_neg (by omega), if_neg (by omega)]
          exact (q1 z).2 k
        · rw [hS a _ ha, if_neg (by omega), if_neg (by omega), if_neg (by omega), k_ai_nwG, if_neg hne2, k_ar_nwG, if_neg hne]
          exact (q2 z1 z2).2.2 k
  · rw [hS a k ha, if_neg (by omega), if_neg (by omega), if_neg (by omega)]
    exact m3 a (by omega) ha k
theorem so_mna {np idx : Nat} (hdg : decode cc pc = .ok (.multianewarray idx 2, 4)) (hw : Cond.classLink nm.cls idx "[[I" ∈ kTb) (hwa : Cond.arrayClass (kAty 0) ∈ kTb) (hp : pc + 4 = np) : eSOK g b l mt (nm, cc, mL, rt, hh) pc (hMna np) := by
  subst hp
  refine so_new (fun ih dd i lv st t x p u r h => ?_)
  obtain ⟨v, s, es, h1⟩ := eP_some h
  subst es
  obtain ⟨w, s1, es, h2⟩ := eP_some h1
  subst es
  obtain ⟨h3, h4⟩ := eGd_some h2
  obtain ⟨h5, h6⟩ := eGd_some h4
  obtain ⟨h7, h8⟩ := eGd_some h6
  obtain ⟨h9, h10⟩ := eGd_some h8
  obtain ⟨h11, h12⟩ := eGd_some h10
  obtain ⟨h13, h14⟩ := eGd_some h12
  have e3 := beq_t h3
  rw [eLnd] at e3
  have e5 := beq_t h5
  rw [eLnd] at e5
  have hu := beq_t h11
  subst hu
  have hx : x < 2048 := by have := ble_t h13; omega
  have hv : v / 16 ≤ 10000 := ble_t h7
  have hw9 : w / 16 ≤ 1000 := ble_t h9
  obtain ⟨t1, e1, e2⟩ := eSet_ok (t := t) (k := 0) (v := eHA 8 (ePl w)) hx (by decide)
  rw [e2] at h14
  obtain ⟨t', g1, g2, g3⟩ := eRw_ok (ePl w) t1 x (Nat.succ x) 0 (ePl v) _ r h14 (Nat.lt_succ_self x) hx (by have : ePl w = w / 16 := rfl; omega)
  rw [fo_eq, fo_eq, fo_eq] at g2
  refine ⟨_, lv, _, t', _, _, _, g2, ?_, Nat.le_add_right p _, fun lc sc M a1 a2 a3 K N QR QX kc nc k1 k2 kk => ?_⟩
  · show x ≤ x + 1 + w / 16
    omega
  obtain ⟨X, ws, rfl, b1, b2⟩ := eSk_cons a2
  obtain ⟨Y, ws2, rfl, c1, c2⟩ := eSk_cons b2
  rw [(b1.I e3).2, (c1.I e5).2]
  have f1 : Nat.add (Nat.succ x) (ePl w) - x = 1 + w / 16 := by show x + 1 + w / 16 - x = _; omega
  have f2 : Nat.add p (Nat.add (ePl w) (Nat.mul (ePl w) (ePl v))) - p = w / 16 + w / 16 * (v / 16) := by show p + (w / 16 + w / 16 * (v / 16)) - p = _; omega
  rw [f1] at k1 kk
  rw [f2] at k2 kk
  refine kT_mna (n := w / 16) (k := v / 16) hdg hw hwa (nI_toInt (by omega)) (nI_toInt (by omega)) (by omega) (by omega) k1 k2 (fun _ h0 => ?_)
  refine kk lc (.ref (nx M) :: ws2) (nwG M (w / 16) (v / 16)) a1 ⟨?_, c2⟩ (eMm_nwG a3 g1 h0 (fun a' k' ha' => ?_))
  · rw [a3.1 rfl]
    exact eVal_O x
  · rw [g3 a' k' ha', e1 a' k' ha']
    show (if x + 1 ≤ a' ∧ a' < x + 1 + w / 16 ∧ k' = 0 then eHA 0 (v / 16) else if a' = x ∧ 0 + 1 ≤ k' ∧ k' < 0 + 1 + w / 16 then eO (x + 1 + (k' - 1 - 0)) else if a' = x ∧ k' = 0 then eHA 8 (w / 16) else eGet t (eKy a' k')) = _
    simp only [Nat.zero_add, Nat.sub_zero]
    rfl
theorem eElC_ok {ty : Nat} (h4 : 4 ≤ ty) (h7 : ty ≤ 7) : eElC ty = kEl ty := by
  have : ty = 4 ∨ ty = 5 ∨ ty = 6 ∨ ty = 7 := by omega
  rcases this with e | e | e | e <;> subst e <;> rfl
theorem so_aastore {np : Nat} (hdg : decode cc pc = .ok (.aastore, 1)) (hp : pc + 1 = np) : eSOK g b l mt (nm, cc, mL, rt, hh) pc (hAa np) := by
  subst hp
  refine so_mem (fun ih dd i lv st t x p u r h => ?_)
  obtain ⟨v, s, es, h1⟩ := eP_some h
  subst es
  obtain ⟨j, s', es, h2⟩ := eP_some h1
  subst es
  obtain ⟨o, s2, es, h2a⟩ := eP_some h2
  subst es
  obtain ⟨h3, h4⟩ := eGd_some h2a
  have e3 := beq_t h3
  rw [eLnd] at e3
  obtain ⟨h5, h6, h7⟩ := eAd_some h4
  obtain ⟨h8, h9, h10⟩ := eAr_some h6 h7
  obtain ⟨h13, h14⟩ := eGd_some h10
  obtain ⟨h15, h16⟩ := eGd_some h14
  obtain ⟨h17, h18⟩ := eGd_some h16
  obtain ⟨h19, h20⟩ := eGd_some h18
  have l1 := ble_t h13
  have l2 := ble_t h15
  have l4 := ble_t h17
  have l7 := ble_t h19
  have l3 : j / 16 + 1 < 268435456 := by
    have : ePl j = j / 16 := rfl
    omega
  obtain ⟨t', e1, e2⟩ := eSet_ok (t := t) (v := v) h6 l3
  have e4 := e2 (fun t' => ih dd i (pc + 1) lv s2 t' x p u)
  rw [show eKy (o / 16) (j / 16 + 1) = eKy (o / 16) (Nat.succ (ePl j)) from rfl] at e4
  rw [cond_beq] at h20
  by_cases v9 : v = 9
  · rw [if_pos v9, e4] at h20
    refine ⟨_, lv, s2, t', h20, fun lc sc M a1 a2 a3 => ?_⟩
    obtain ⟨w, ws, rfl, b1, b2⟩ := eSk_cons a2
    obtain ⟨w2, ws2, rfl, c1, c2⟩ := eSk_cons b2
    obtain ⟨w3, ws3, rfl, f1, f2⟩ := eSk_cons c2
    rw [f1.O h5, (c1.I e3).2]
    obtain ⟨d1, d2, d3⟩ := a3.arr h6 h8 h9
    have hj : j / 16 < ln M (b + o / 16) := by rw [d2]; exact l1
    subst v9
    rw [eVal_9 b1]
    refine ⟨lc, ws3, sar M (b + o / 16) (j / 16) none, a1, f2, eMm_puta a3 h6 h8 h9 e1 k_tg_sar k_ln_sar k_nx_sar k_fi_sar k_fl_sar k_fr_sar (fun a' k' hne => ⟨by rw [k_ai_sar], by rw [k_al_sar], by rw [k_ar_sar, if_neg hne]⟩) ?_, fun K N QR QX kc nc hq => kT_aastoreNN hdg d1 l4 (by omega) hj hq⟩
    rw [k_ar_sar, if_pos ⟨rfl, rfl⟩, mkR_0]
    exact eHas_r (r := none) rfl (Or.inr (Or.inr ⟨none, rfl, Or.inr (Or.inr (Or.inr (Or.inl ⟨rfl, rfl⟩)))⟩))
  · rw [if_neg v9] at h20
    obtain ⟨q5, q6, q7⟩ := eAd_some h20
    simp only [eGq_eq q6] at q7
    obtain ⟨q8, q9⟩ := eGd_some q7
    rw [e4] at q9
    refine ⟨_, lv, s2, t', q9, fun lc sc M a1 a2 a3 => ?_⟩
    obtain ⟨w, ws, rfl, b1, b2⟩ := eSk_cons a2
    obtain ⟨w2, ws2, rfl, c1, c2⟩ := eSk_cons b2
    obtain ⟨w3, ws3, rfl, f1, f2⟩ := eSk_cons c2
    rw [f1.O h5, (c1.I e3).2]
    obtain ⟨d1, d2, d3⟩ := a3.arr h6 h8 h9
    have hj : j / 16 < ln M (b + o / 16) := by rw [d2]; exact l1
    obtain ⟨y1, y2⟩ := a3.obj q6 q8
    rw [eElC_ok l4 l7] at y1
    have ew := b1.O q5
    subst ew
    refine ⟨lc, ws3, sar M (b + o / 16) (j / 16) (some (b + v / 16)), a1, f2, eMm_puta a3 h6 h8 h9 e1 k_tg_sar k_ln_sar k_nx_sar k_fi_sar k_fl_sar k_fr_sar (fun a' k' hne => ⟨by rw [k_ai_sar], by rw [k_al_sar], by rw [k_ar_sar, if_neg hne]⟩) ?_, fun K N QR QX kc nc hq => kT_aastoreN hdg d1 l4 (by omega) y1 hj hq⟩
    rw [k_ar_sar, if_pos ⟨rfl, rfl⟩]
    unfold mkR
    rw [if_pos l4]
    refine eHas_r ?_ b1
    unfold eIa
    rw [eLnd, q5]; rfl
end EM

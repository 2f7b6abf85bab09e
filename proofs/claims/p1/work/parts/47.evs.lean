/-! ===== the model's copy of its half onto its disk in one step ===== -/
def cpD (M : kM) (A H off i : Nat) : Nat → Int32 := fun j => if off + i ≤ j ∧ j < off + 6400 then (ai M H (j - off)).toInt8.toInt32 else ai M A j
section MH
variable {l : Launch} {g : kG} {d K N : Nat} {QR : Option Value → kM → Prop} {QX : String → kM → Prop} {kc nc : Nat}
theorem mc_disk (lc : List (Nat × Value)) (D A H dv : Nat) (h0 : kGet lc 0 = some (.ref D)) (h1 : kGet lc 1 = some (.int (nI dv))) (hAH : A ≠ H) : ∀ (n i : Nat) (M : kM), 6400 - i = n → i ≤ 6400 → tg M D = 13 → fr M D 32 = some A → fr M D 37 = some H → tg M A = 103 → tg M H = 103 → (dv * 202 + 102) * 64 + 6400 ≤ ln M A → 6400 ≤ ln M H → kT l g yX12_firstDisk cX12_firstDisk 3 none [] d K N QR QX 44 (kSet lc 2 (.int (nI 6400))) [] (wai M A (cpD M A H ((dv * 202 + 102) * 64) i)) kc nc → kT l g yX12_firstDisk cX12_firstDisk 3 none [] d K N QR QX 7 (kSet lc 2 (.int (nI i))) [] M kc nc := by
  intro n
  induction n with
  | zero =>
    intro i M hn hi hD hA hH htA htH hlA hlH hk
    have e : i = 6400 := by omega
    subst e
    refine kT_iload_n dX12_firstDisk_7 kGet_set ?_
    refine kT_sipush (v := nI 6400) dX12_firstDisk_8 (by decide) ?_
    refine kT_icmp_geN (tgt := 44) dX12_firstDisk_11 rfl (by decide) (by decide) (fun _ => ?_) (fun h1 => absurd h1 (by omega))
    exact kT_mem (wai_self M A (h := cpD M A H ((dv * 202 + 102) * 64) 6400) (fun j => by unfold cpD; rw [if_neg (by omega)])) hk
  | succ n ih =>
    intro i M hn hi hD hA hH htA htH hlA hlH hk
    refine kT_iload_n dX12_firstDisk_7 kGet_set ?_
    refine kT_sipush (v := nI 6400) dX12_firstDisk_8 (by decide) ?_
    refine kT_icmp_geN (tgt := 44) dX12_firstDisk_11 rfl (by omega) (by decide) (fun h1 => absurd h1 (by omega)) (fun _ => ?_)
    refine kT_aload_n dX12_firstDisk_14 (kGet_keep (by decide) h0 (fun h => by cases h)) ?_
    refine kT_getf (c := 12) (k0 := 32) (v := .ref A) dX12_firstDisk_15 kf_X12_87 hD (by decide) (by decide) (kRf hA) ?_
    refine kT_iload_n dX12_firstDisk_18 (kGet_keep (by decide) h1 (fun h => by cases h)) ?_
    refine kT_sipush (v := nI 202) dX12_firstDisk_19 (by decide) ?_
    refine kT_imulN dX12_firstDisk_22 ?_
    refine kT_bipush (v := nI 102) dX12_firstDisk_23 (by decide) ?_
    refine kT_iaddN dX12_firstDisk_25 ?_
    refine kT_bipush (v := nI 64) dX12_firstDisk_26 (by decide) ?_
    refine kT_imulN dX12_firstDisk_28 ?_
    refine kT_iload_n dX12_firstDisk_29 kGet_set ?_
    refine kT_iaddN dX12_firstDisk_30 ?_
    refine kT_aload_n dX12_firstDisk_31 (kGet_keep (by decide) h0 (fun h => by cases h)) ?_
    refine kT_getf (c := 12) (k0 := 37) (v := .ref H) dX12_firstDisk_32 kf_X12_103 hD (by decide) (by decide) (kRf hH) ?_
    refine kT_iload_n dX12_firstDisk_35 kGet_set ?_
    refine kT_baldN dX12_firstDisk_36 htH (show i < ln M H by omega) rfl ?_
    refine kT_bastN dX12_firstDisk_37 htA (show (dv * 202 + 102) * 64 + i < ln M A by omega) ?_
    refine kT_iinc (k0 := 0) (v := nI (i + 1)) dX12_firstDisk_38 rfl (by rw [← nI_add]; rfl) (by decide) rfl ?_
    refine kT_goto (tgt := 7) dX12_firstDisk_41 rfl ?_
    refine kT_locals kSet_sub ?_
    refine ih (i + 1) (sai M A ((dv * 202 + 102) * 64 + i) ((ai M H i).toInt8.toInt32)) (by omega) (by omega) (by rw [k_tg_sai]; exact hD) (by rw [k_fr_sai]; exact hA) (by rw [k_fr_sai]; exact hH) (by rw [k_tg_sai]; exact htA) (by rw [k_tg_sai]; exact htH) (by rw [k_ln_sai]; exact hlA) (by rw [k_ln_sai]; exact hlH) ?_
    rw [wai_sai]
    refine kT_mem (wai_cg (fun j => ?_)) hk
    unfold cpD
    generalize (dv * 202 + 102) * 64 = off at *
    by_cases z : off + (i + 1) ≤ j ∧ j < off + 6400
    · rw [if_pos z, if_pos (by omega), k_ai_sai, if_neg (fun y => hAH y.2.symm)]
    · rw [if_neg z, k_ai_sai]
      by_cases z2 : j = off + i
      · rw [if_pos ⟨z2, rfl⟩, if_pos (by omega), show j - off = i by omega]
      · rw [if_neg (fun y => z2 y.1), if_neg (by omega)]
end MH
noncomputable def eCz {α : Type} (n : Nat) : eX → eX → Nat → Nat → Nat → (eX → Option α) → Option α := Nat.rec (motive := fun _ => eX → eX → Nat → Nat → Nat → (eX → Option α) → Option α) (fun _ t _ _ _ c => c t)
  (fun _ ih s t a k off c => fo (eGet s (Nat.succ (Nat.succ k))) fun v => cnd (Nat.beq v 0) (fo (Nat.succ k) fun k' => ih s t a k' off c) (fo (eB8 (eCvI v)) fun z => cnd (Nat.beq z 0) none (eSetK 40 t (eKy a (Nat.succ (Nat.add off k))) z fun t' => fo (Nat.succ k) fun k' => ih s t' a k' off c))) n
theorem eCz_ok {α : Type} (n : Nat) : ∀ (s t : eX) (a k off : Nat) (c : eX → Option α) (r : α), eCz n s t a k off c = some r → a < 2048 → off + k + n < 100000000 → ∃ t', c t' = some r ∧ (∀ i, k ≤ i → i < k + n → eGet s (i + 2) ≠ 0 → eB8 (eCvI (eGet s (i + 2))) ≠ 0) ∧ ∀ a' k', a' < 2048 → eGet t' (eKy a' k') = if a' = a ∧ off + k + 1 ≤ k' ∧ k' < off + k + 1 + n ∧ eGet s (k' - 1 - off + 2) ≠ 0 then eB8 (eCvI (eGet s (k' - 1 - off + 2))) else eGet t (eKy a' k') := by
  induction n with
  | zero => intro s t a k off c r h ha hb; exact ⟨t, h, fun i h1 h2 => by omega, fun a' k' ha' => by rw [if_neg (by omega)]⟩
  | succ n ih =>
    intro s t a k off c r h ha hb
    have h1 : fo (eGet s (Nat.succ (Nat.succ k))) (fun v => cnd (Nat.beq v 0) (fo (Nat.succ k) fun k' => eCz n s t a k' off c) (fo (eB8 (eCvI v)) fun z => cnd (Nat.beq z 0) none (eSetK 40 t (eKy a (Nat.succ (Nat.add off k))) z fun t' => fo (Nat.succ k) fun k' => eCz n s t' a k' off c))) = some r := h
    rw [fo_eq, cond_beq] at h1
    by_cases v0 : eGet s (Nat.succ (Nat.succ k)) = 0
    · rw [if_pos v0, fo_eq] at h1
      obtain ⟨t', g1, g2, g3⟩ := ih s t a (k + 1) off c r h1 ha (by omega)
      have v0' : eGet s (k + 2) = 0 := v0
      refine ⟨t', g1, fun i q1 q2 q3 => ?_, fun a' k' ha' => ?_⟩
      · by_cases e : i = k
        · rw [e] at q3; exact absurd v0' q3
        · exact g2 i (by omega) (by omega) q3
      · rw [g3 a' k' ha']
        by_cases q : a' = a ∧ off + k + 1 ≤ k' ∧ k' < off + k + 1 + (n + 1) ∧ eGet s (k' - 1 - off + 2) ≠ 0
        · rw [if_pos q]
          by_cases e : k' = off + k + 1
          · have := q.2.2.2
            rw [e, show off + k + 1 - 1 - off + 2 = k + 2 by omega] at this
            exact absurd v0' this
          · rw [if_pos ⟨q.1, by omega, by omega, q.2.2.2⟩]
        · rw [if_neg q, if_neg (fun z => q ⟨z.1, by omega, by omega, z.2.2.2⟩)]
    · rw [if_neg v0, fo_eq] at h1
      obtain ⟨zn, h2⟩ := eNz h1
      obtain ⟨t1, e1, e2⟩ := eSet_ok (t := t) (a := a) (k := off + k + 1) (v := eB8 (eCvI (eGet s (Nat.succ (Nat.succ k))))) ha (by omega)
      have e3 := e2 (fun t' => fo (Nat.succ k) fun k' => eCz n s t' a k' off c)
      have h3 : (eSetK 40 t (eKy a (off + k + 1)) (eB8 (eCvI (eGet s (Nat.succ (Nat.succ k))))) fun t' => fo (Nat.succ k) fun k' => eCz n s t' a k' off c) = some r := h2
      rw [e3, fo_eq] at h3
      obtain ⟨t', g1, g2, g3⟩ := ih s t1 a (k + 1) off c r h3 ha (by omega)
      refine ⟨t', g1, fun i q1 q2 q3 => ?_, fun a' k' ha' => ?_⟩
      · by_cases e : i = k
        · rw [e]; exact zn
        · exact g2 i (by omega) (by omega) q3
      · rw [g3 a' k' ha', e1 a' k' ha']
        by_cases q : a' = a ∧ off + k + 1 ≤ k' ∧ k' < off + k + 1 + (n + 1) ∧ eGet s (k' - 1 - off + 2) ≠ 0
        · rw [if_pos q]
          by_cases e : k' = off + k + 1
          · rw [if_neg (fun z => by omega), if_pos ⟨q.1, e⟩, e, show off + k + 1 - 1 - off + 2 = k + 2 by omega]
          · rw [if_pos ⟨q.1, by omega, by omega, q.2.2.2⟩]
        · rw [if_neg q, if_neg (fun z => q ⟨z.1, by omega, by omega, z.2.2.2⟩)]
          by_cases e : a' = a ∧ k' = off + k + 1
          · exfalso
            refine q ⟨e.1, by omega, by omega, ?_⟩
            rw [e.2, show off + k + 1 - 1 - off + 2 = k + 2 by omega]
            exact v0
          · rw [if_neg e]
noncomputable def hCpD : eStep := fun ih dd i _ lv st t x p u => eEmp st (fo (eNth lv 0) fun o => fo (eNth lv 1) fun dv => fo (eNth lv 2) fun j => eGd (Nat.beq (Nat.land dv 15) 1) (eGd (Nat.beq (Nat.land j 15) 1) (eGd (Nat.ble (ePl j) 6400) (eGd (Nat.ble (ePl dv) 100) (eAd o fun D => eGd (Nat.beq (eGq t D 0) (eHO 12)) (eAd (eGq t D 33) fun a => eAd (eGq t D 38) fun h => eGd (cnd (Nat.beq a h) false true) (eAr t a fun y1 n1 => eAr t h fun y2 n2 => eGd (Nat.beq y1 2) (eGd (Nat.beq y2 2) (eGd (Nat.ble n1 16777215) (eGd (Nat.ble (Nat.add (Nat.mul (Nat.add (Nat.mul (ePl dv) 202) 102) 64) 6400) n1) (eGd (Nat.ble 6400 n2)
  (fo (Nat.mul (Nat.add (Nat.mul (ePl dv) 202) 102) 64) fun off => eClr t a (Nat.add off (ePl j)) (Nat.add off 6400) fun t1 => eCz (Nat.sub 6400 (ePl j)) (eSub 11 t h) t1 a (ePl j) off fun t2 => eSn lv 2 102401 fun lv' => ih dd i 44 lv' [] t2 x p u))))))))))))
section MI
variable {g : kG} {b : Nat} {l : Launch} {mt : Nat → eMeta}
theorem so_cpD : eSOK g b l mt (yX12_firstDisk, cX12_firstDisk, 3, none, []) 7 hCpD := by
  refine so_mem (fun ih dd i lv st t x p u r h => ?_)
  obtain ⟨es, h1⟩ := eEmp_some h
  subst es
  rw [fo_eq, fo_eq, fo_eq] at h1
  obtain ⟨i1, h2⟩ := eGd_some h1
  obtain ⟨i2, h3⟩ := eGd_some h2
  obtain ⟨i3, h4⟩ := eGd_some h3
  obtain ⟨i4, h5⟩ := eGd_some h4
  obtain ⟨o1, o2, h6⟩ := eAd_some h5
  simp only [eGq_eq o2] at h6
  obtain ⟨i5, h7⟩ := eGd_some h6
  obtain ⟨p1, p2, h8⟩ := eAd_some h7
  obtain ⟨q1, q2, h9⟩ := eAd_some h8
  obtain ⟨i6, h10⟩ := eGd_some h9
  obtain ⟨b1, b2, h11⟩ := eAr_some p2 h10
  obtain ⟨b3, b4, h12⟩ := eAr_some q2 h11
  obtain ⟨i7, h13⟩ := eGd_some h12
  obtain ⟨i8, h14⟩ := eGd_some h13
  obtain ⟨i9, h15⟩ := eGd_some h14
  obtain ⟨i10, h16⟩ := eGd_some h15
  obtain ⟨i11, h17⟩ := eGd_some h16
  rw [fo_eq] at h17
  have j1 := beq_t i1
  have j2 := beq_t i2
  rw [eLnd] at j1 j2
  have j3 : eNth lv 2 / 16 ≤ 6400 := ble_t i3
  have j4 : eNth lv 1 / 16 ≤ 100 := ble_t i4
  have j7 := beq_t i7
  have j8 := beq_t i8
  have j10 : (eNth lv 1 / 16 * 202 + 102) * 64 + 6400 ≤ _ := ble_t i10
  have j11 := ble_t i11
  obtain ⟨A, eA⟩ : ∃ z, z = eGet t (eKy (eNth lv 0 / 16) 33) / 16 := ⟨_, rfl⟩
  obtain ⟨H, eH⟩ : ∃ z, z = eGet t (eKy (eNth lv 0 / 16) 38) / 16 := ⟨_, rfl⟩
  obtain ⟨off, eo⟩ : ∃ z, z = (eNth lv 1 / 16 * 202 + 102) * 64 := ⟨_, rfl⟩
  rw [← eA] at p2 b1 b2 i6 j7 j10 h17
  rw [← eH] at q2 b3 b4 i6 j8 j11 h17
  rw [show Nat.mul (Nat.add (Nat.mul (ePl (eNth lv 1)) 202) 102) 64 = off from eo.symm] at h17
  have hne : A ≠ H := fun e => by
    have := cond_ft i6
    rw [e, Nat.beq_refl] at this
    cases this
  obtain ⟨t1, e1, e2⟩ := eClr_ok (t := t) (a := A) (p := off + eNth lv 2 / 16) (q := off + 6400) p2
  have h18 : (eClr t A (off + eNth lv 2 / 16) (off + 6400) fun t1 => eCz (6400 - eNth lv 2 / 16) (eSub 11 t H) t1 A (eNth lv 2 / 16) off fun t2 => eSn lv 2 102401 fun lv' => ih dd i 44 lv' [] t2 x p u) = some r := h17
  rw [e2] at h18
  obtain ⟨t2, g1, g2, g3⟩ := eCz_ok _ _ _ _ _ _ _ r h18 p2 (by omega)
  obtain ⟨lv', e3, e4⟩ := eSn_ok lv 2 102401
  rw [e4] at g1
  have sub : ∀ k, eGet (eSub 11 t H) (k + 2) = eGet t (eKy H (k + 1)) := fun k => eSub_ok 11 t _ (k + 2) q2 (by omega)
  refine ⟨44, lv', [], t2, g1, fun lc sc M a1 a2 a3 => ?_⟩
  rw [eSk_nil a2]
  obtain ⟨w0, k0, v0⟩ := a1 0 (by omega)
  obtain ⟨w1, k1, v1⟩ := a1 1 (by omega)
  obtain ⟨w2, k2, v2⟩ := a1 2 (by omega)
  have y0 := v0.O o1
  have y1 := (v1.I j1).2
  have y2 := (v2.I j2).2
  subst y0; subst y1; subst y2
  obtain ⟨d1, d2⟩ := a3.obj o2 i5
  have fA := eRef_at (d2 32) p1
  have fH := eRef_at (d2 37) q1
  rw [show (32 + 1 : Nat) = 33 from rfl, ← eA] at fA
  rw [show (37 + 1 : Nat) = 38 from rfl, ← eH] at fH
  obtain ⟨u1, u2, u3⟩ := a3.arr p2 b1 b2
  obtain ⟨x1, x2, x3⟩ := a3.arr q2 b3 b4
  have hl1 : eIl (eNth lv (Nat.pred 2)) = false := by
    cases hb : eIl (eNth lv 1)
    · exact hb
    · have := eIl_of hb; omega
  refine ⟨kSet lc 2 (.int (nI 6400)), [], wai M (b + A) (cpD M (b + A) (b + H) off (eNth lv 2 / 16)), eLv_st a1 (eVal_mkI (n := 6400) (by decide)) hl1 e3 eNth_out, trivial, ?_, fun K N QR QX kc nc hk => ?_⟩
  · obtain ⟨m1, m2, m3, m4, m5⟩ := id a3
    have hx : A < x := by
      rcases Nat.lt_or_ge A x with h | h
      · exact h
      · exact absurd (m3 A h p2 0) b1
    have hS : ∀ a' k', a' < 2048 → eGet t2 (eKy a' k') = if a' = A ∧ off + eNth lv 2 / 16 + 1 ≤ k' ∧ k' < off + 6400 + 1 then (if eGet t (eKy H (k' - off)) ≠ 0 then eB8 (eCvI (eGet t (eKy H (k' - off)))) else 0) else eGet t (eKy a' k') := by
      intro a' k' ha'
      rw [g3 a' k' ha', e1 a' k' ha']
      by_cases q : a' = A ∧ off + eNth lv 2 / 16 + 1 ≤ k' ∧ k' < off + 6400 + 1
      · rw [if_pos q, sub, show k' - 1 - off + 1 = k' - off by omega]
        by_cases z : eGet t (eKy H (k' - off)) ≠ 0
        · rw [if_pos z, if_pos ⟨q.1, q.2.1, by omega, z⟩]
          rw [if_pos q]
        · rw [if_neg z, if_neg (fun y => z y.2.2.2), if_pos ⟨q.1, by omega, by omega⟩]
      · rw [if_neg q, if_neg (fun y => q ⟨y.1, y.2.1, by omega⟩), if_neg (fun y => q ⟨y.1, by omega, by omega⟩)]
    refine ⟨fun h => by rw [k_nx_wai]; exact m1 h, fun a' ha' => ?_, fun a' hxa ha' k' => ?_, by rw [k_tg_wai]; exact m4, by rw [k_tg_wai]; exact m5⟩
    · have e0 : eGet t2 (eKy a' 0) = eGet t (eKy a' 0) := by rw [hS a' 0 ha', if_neg (by omega)]
      unfold eCell
      rw [e0, k_tg_wai, k_ln_wai, k_fi_wai, k_fl_wai, k_fr_wai, k_al_wai, k_ar_wai]
      obtain ⟨z1, z2⟩ := m2 a' ha'
      refine ⟨fun z => ⟨(z1 z).1, fun k' => ?_⟩, fun y1 y2 => ⟨(z2 y1 y2).1, (z2 y1 y2).2.1, fun k' => ?_⟩⟩
      · rw [hS a' _ ha', if_neg (fun e => by rw [e.1] at z; omega)]
        exact (z1 z).2 k'
      · rw [hS a' _ ha', k_ai_wai]
        by_cases e : a' = A
        · subst e
          rw [if_pos rfl, j7]
          unfold cpD
          by_cases q : off + eNth lv 2 / 16 ≤ k' ∧ k' < off + 6400
          · rw [if_pos ⟨rfl, by omega, by omega⟩, if_pos q, show k' + 1 - off = k' - off + 1 by omega]
            have c1 := x3 (k' - off)
            rw [j8] at c1
            by_cases z : eGet t (eKy H (k' - off + 1)) ≠ 0
            · rw [if_pos z]
              have zb := g2 (k' - off) (by omega) (by omega) (by rw [sub]; exact z)
              rw [sub] at zb
              have c2 : eVal g b (eCvI (eGet t (eKy H (k' - off + 1)))) (.int (ai M (b + H) (k' - off))) := c1.i (fun e => by rw [e] at zb; exact zb rfl)
              obtain ⟨iv, ei, c3, c4⟩ := eB8_ok c2 zb
              cases ei
              exact eHas_i c3 c4
            · rw [if_neg z]
              have c2 := (c1.1 (Decidable.not_not.mp z)).1
              have c3 : ai M (b + H) (k' - off) = 0 := c2
              rw [c3]
              exact eHas_0 (by decide) rfl rfl
          · rw [if_neg (by omega), if_neg q, ← j7]
            exact (z2 y1 y2).2.2 k'
        · rw [if_neg (fun z => e z.1), if_neg (by omega)]
          exact (z2 y1 y2).2.2 k'
    · rw [hS a' k' ha', if_neg (by omega)]
      exact m3 a' hxa ha' k'
  · rw [eo] at hk
    exact kT_locals (kSet_own k2) (mc_disk lc _ _ _ _ k0 k1 (by omega) _ _ M rfl j3 d1 fA fH (by rw [u1, j7]) (by rw [x1, j8]) (by rw [u2]; exact j10) (by rw [x2]; exact j11) hk)
end MI

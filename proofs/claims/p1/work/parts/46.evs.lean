/-! ===== the model's long loops in one step: its disk and its half cleared ===== -/
section MB
variable {l : Launch} {g : kG} {d K N : Nat} {QR : Option Value → kM → Prop} {QX : String → kM → Prop} {kc nc : Nat}
theorem kSet_sub {lc : List (Nat × Value)} {i : Nat} {v w : Value} : ∀ q ∈ kSet lc i w, q ∈ kSet (kSet lc i v) i w := by
  intro q hq
  unfold kSet at hq ⊢
  rcases List.mem_cons.mp hq with h | h
  · rw [h]; exact List.mem_cons_self
  · have h2 := List.mem_filter.mp h
    exact List.mem_cons_of_mem _ (List.mem_filter.mpr ⟨List.mem_cons_of_mem _ h, h2.2⟩)
theorem kSet_own {lc : List (Nat × Value)} {i : Nat} {w : Value} (h : kGet lc i = some w) : ∀ q ∈ kSet lc i w, q ∈ lc := by
  intro q hq
  unfold kSet at hq
  rcases List.mem_cons.mp hq with h9 | h9
  · rw [h9]; exact kMem_of h
  · exact (List.mem_filter.mp h9).1
theorem mb_begin (lc : List (Nat × Value)) (D A : Nat) (h0 : kGet lc 0 = some (.ref D)) : ∀ (n i : Nat) (M : kM), 271488 - i = n → i ≤ 271488 → tg M D = 13 → fr M D 32 = some A → tg M A = 103 → 271488 ≤ ln M A → kT l g yX12_begin cX12_begin 7 none [] d K N QR QX 76 (kSet lc 4 (.int (nI 271488))) [] (wai M A (cl0 M A i 271488)) kc nc → kT l g yX12_begin cX12_begin 7 none [] d K N QR QX 55 (kSet lc 4 (.int (nI i))) [] M kc nc := by
  intro n
  induction n with
  | zero =>
    intro i M hn hi hD hA ht hl hk
    have e : i = 271488 := by omega
    subst e
    refine kT_iload dX12_begin_55 kGet_set ?_
    refine kT_ldc (v := 271488) dX12_begin_57 kk_X12_86 ?_
    rw [show (271488 : Int32) = nI 271488 by decide]
    refine kT_icmp_geN (tgt := 76) dX12_begin_59 rfl (by decide) (by decide) (fun _ => ?_) (fun h1 => absurd h1 (by omega))
    exact kT_mem (wai_self M A (h := cl0 M A 271488 271488) (fun j => by unfold cl0; rw [if_neg (by omega)])) hk
  | succ n ih =>
    intro i M hn hi hD hA ht hl hk
    refine kT_iload dX12_begin_55 kGet_set ?_
    refine kT_ldc (v := 271488) dX12_begin_57 kk_X12_86 ?_
    rw [show (271488 : Int32) = nI 271488 by decide]
    refine kT_icmp_geN (tgt := 76) dX12_begin_59 rfl (by omega) (by decide) (fun h1 => absurd h1 (by omega)) (fun _ => ?_)
    refine kT_aload_n dX12_begin_62 (kGet_keep (by decide) h0 (fun h => by cases h)) ?_
    refine kT_getf (c := 12) (k0 := 32) (v := .ref A) dX12_begin_63 kf_X12_87 hD (by decide) (by decide) (kRf hA) ?_
    refine kT_iload dX12_begin_66 kGet_set ?_
    refine kT_iconst (v := nI 0) dX12_begin_68 (by decide) ?_
    refine kT_bastN dX12_begin_69 ht (show i < ln M A by omega) ?_
    refine kT_iinc (k0 := 0) (v := nI (i + 1)) dX12_begin_70 rfl (by rw [← nI_add]; rfl) (by decide) rfl ?_
    refine kT_goto (tgt := 55) dX12_begin_73 rfl ?_
    refine kT_locals kSet_sub ?_
    refine ih (i + 1) (sai M A i ((nI 0).toInt8.toInt32)) (by omega) (by omega) (by rw [k_tg_sai]; exact hD) (by rw [k_fr_sai]; exact hA) (by rw [k_tg_sai]; exact ht) (by rw [k_ln_sai]; exact hl) ?_
    rw [wai_sai]
    refine kT_mem (wai_cg (fun j => ?_)) hk
    unfold cl0
    by_cases z : i + 1 ≤ j ∧ j < 271488
    · rw [if_pos z, if_pos (by omega)]
    · rw [if_neg z, k_ai_sai]
      by_cases z2 : j = i
      · rw [if_pos ⟨z2, rfl⟩, if_pos (by omega)]; decide
      · rw [if_neg (fun y => z2 y.1), if_neg (by omega)]
theorem mb_half (lc : List (Nat × Value)) (D A : Nat) (h0 : kGet lc 0 = some (.ref D)) : ∀ (n i : Nat) (M : kM), 6400 - i = n → i ≤ 6400 → tg M D = 13 → fr M D 37 = some A → tg M A = 103 → 6400 ≤ ln M A → kT l g yX12_fillHalf cX12_fillHalf 3 none [] d K N QR QX 136 (kSet lc 2 (.int (nI 6400))) [] (wai M A (cl0 M A i 6400)) kc nc → kT l g yX12_fillHalf cX12_fillHalf 3 none [] d K N QR QX 116 (kSet lc 2 (.int (nI i))) [] M kc nc := by
  intro n
  induction n with
  | zero =>
    intro i M hn hi hD hA ht hl hk
    have e : i = 6400 := by omega
    subst e
    refine kT_iload_n dX12_fillHalf_116 kGet_set ?_
    refine kT_sipush (v := nI 6400) dX12_fillHalf_117 (by decide) ?_
    refine kT_icmp_geN (tgt := 136) dX12_fillHalf_120 rfl (by decide) (by decide) (fun _ => ?_) (fun h1 => absurd h1 (by omega))
    exact kT_mem (wai_self M A (h := cl0 M A 6400 6400) (fun j => by unfold cl0; rw [if_neg (by omega)])) hk
  | succ n ih =>
    intro i M hn hi hD hA ht hl hk
    refine kT_iload_n dX12_fillHalf_116 kGet_set ?_
    refine kT_sipush (v := nI 6400) dX12_fillHalf_117 (by decide) ?_
    refine kT_icmp_geN (tgt := 136) dX12_fillHalf_120 rfl (by omega) (by decide) (fun h1 => absurd h1 (by omega)) (fun _ => ?_)
    refine kT_aload_n dX12_fillHalf_123 (kGet_keep (by decide) h0 (fun h => by cases h)) ?_
    refine kT_getf (c := 12) (k0 := 37) (v := .ref A) dX12_fillHalf_124 kf_X12_103 hD (by decide) (by decide) (kRf hA) ?_
    refine kT_iload_n dX12_fillHalf_127 kGet_set ?_
    refine kT_iconst (v := nI 0) dX12_fillHalf_128 (by decide) ?_
    refine kT_bastN dX12_fillHalf_129 ht (show i < ln M A by omega) ?_
    refine kT_iinc (k0 := 0) (v := nI (i + 1)) dX12_fillHalf_130 rfl (by rw [← nI_add]; rfl) (by decide) rfl ?_
    refine kT_goto (tgt := 116) dX12_fillHalf_133 rfl ?_
    refine kT_locals kSet_sub ?_
    refine ih (i + 1) (sai M A i ((nI 0).toInt8.toInt32)) (by omega) (by omega) (by rw [k_tg_sai]; exact hD) (by rw [k_fr_sai]; exact hA) (by rw [k_tg_sai]; exact ht) (by rw [k_ln_sai]; exact hl) ?_
    rw [wai_sai]
    refine kT_mem (wai_cg (fun j => ?_)) hk
    unfold cl0
    by_cases z : i + 1 ≤ j ∧ j < 6400
    · rw [if_pos z, if_pos (by omega)]
    · rw [if_neg z, k_ai_sai]
      by_cases z2 : j = i
      · rw [if_pos ⟨z2, rfl⟩, if_pos (by omega)]; decide
      · rw [if_neg (fun y => z2 y.1), if_neg (by omega)]
end MB
/-- the octets of the field f of the model, from the local li on to hi, are 0; on to ex -/
noncomputable def hClB (f hi li ex : Nat) : eStep := fun ih dd i _ lv st t x p u => eEmp st (fo (eNth lv 0) fun o => fo (eNth lv li) fun j => eGd (Nat.beq (Nat.land j 15) 1) (eGd (Nat.ble (ePl j) hi) (eAd o fun D => eGd (Nat.beq (eGq t D 0) (eHO 12)) (eAd (eGq t D (Nat.succ f)) fun a => eAr t a fun ty n => eGd (Nat.beq ty 2) (eGd (Nat.ble n 16777215) (eGd (Nat.ble hi n) (eGd (cnd (eIl (eNth lv (Nat.pred li))) false true) (eClr t a (ePl j) hi fun t' => eSn lv li (eI hi) fun lv' => ih dd i ex lv' [] t' x p u))))))))
section MC
variable {g : kG} {b : Nat} {l : Launch} {mt : Nat → eMeta} {nm : MethodName} {cc : ByteArray} {mL : Nat} {rt : Option FieldType} {pc : Nat}
theorem so_clB {f hi li ex : Nat} (hhi : hi < 2147483648) (hli : li ≠ 0) (row : ∀ (dd K N : Nat) (QR : Option Value → kM → Prop) (QX : String → kM → Prop) (kc nc : Nat) (lc : List (Nat × Value)) (D A i : Nat) (M : kM), kGet lc 0 = some (.ref D) → i ≤ hi → tg M D = 13 → fr M D f = some A → tg M A = 103 → hi ≤ ln M A → kT l g nm cc mL rt [] dd K N QR QX ex (kSet lc li (.int (nI hi))) [] (wai M A (cl0 M A i hi)) kc nc → kT l g nm cc mL rt [] dd K N QR QX pc (kSet lc li (.int (nI i))) [] M kc nc) : eSOK g b l mt (nm, cc, mL, rt, []) pc (hClB f hi li ex) := by
  refine so_mem (fun ih dd i lv st t x p u r h => ?_)
  obtain ⟨es, h1⟩ := eEmp_some h
  subst es
  rw [fo_eq, fo_eq] at h1
  obtain ⟨i1, h2⟩ := eGd_some h1
  obtain ⟨i2, h3⟩ := eGd_some h2
  obtain ⟨o1, o2, h4⟩ := eAd_some h3
  simp only [eGq_eq o2] at h4
  obtain ⟨i3, h5⟩ := eGd_some h4
  obtain ⟨p1, p2, h6⟩ := eAd_some h5
  obtain ⟨b1, b2, h7⟩ := eAr_some p2 h6
  obtain ⟨i4, h8⟩ := eGd_some h7
  obtain ⟨i5, h9⟩ := eGd_some h8
  obtain ⟨i6, h10⟩ := eGd_some h9
  obtain ⟨i7, h11⟩ := eGd_some h10
  obtain ⟨t', e1, e2⟩ := eClr_ok (t := t) (p := ePl (eNth lv li)) (q := hi) p2
  rw [e2] at h11
  obtain ⟨lv', e3, e4⟩ := eSn_ok lv li (eI hi)
  rw [e4] at h11
  have j1 := beq_t i1
  rw [eLnd] at j1
  have j2 : eNth lv li / 16 ≤ hi := ble_t i2
  have j4 := beq_t i4
  have j6 := ble_t i6
  refine ⟨ex, lv', [], t', h11, fun lc sc M a1 a2 a3 => ?_⟩
  rw [eSk_nil a2]
  obtain ⟨w0, k0, v0⟩ := a1 0 (by omega)
  obtain ⟨w1, k1, v1⟩ := a1 li (by omega)
  have q0 := v0.O o1
  have q1 := (v1.I j1).2
  subst q0; subst q1
  obtain ⟨d1, d2⟩ := a3.obj o2 i3
  have fA := eRef_at (d2 f) p1
  obtain ⟨u1, u2, u3⟩ := a3.arr p2 b1 b2
  refine ⟨kSet lc li (.int (nI hi)), [], _, eLv_st a1 (eVal_mkI (by omega)) (cond_ft i7) e3 eNth_out, trivial, eMm_clr a3 p2 b1 b2 j4 e1, fun K N QR QX kc nc hk => ?_⟩
  exact kT_locals (kSet_own k1) (row dd K N QR QX kc nc lc _ _ _ M k0 j2 d1 fA (by rw [u1, j4]) (by rw [u2]; exact j6) hk)
end MC
section MD
variable {g : kG} {b : Nat} {l : Launch} {mt : Nat → eMeta}
theorem so_clBegin : eSOK g b l mt (yX12_begin, cX12_begin, 7, none, []) 55 (hClB 32 271488 4 76) := so_clB (by decide) (by decide) (fun dd K N QR QX kc nc lc D A i M h0 hi hD hA ht hl hk => mb_begin lc D A h0 _ i M rfl hi hD hA ht hl hk)
theorem so_clHalf : eSOK g b l mt (yX12_fillHalf, cX12_fillHalf, 3, none, []) 116 (hClB 37 6400 2 136) := so_clB (by decide) (by decide) (fun dd K N QR QX kc nc lc D A i M h0 hi hD hA ht hl hk => mb_half lc D A h0 _ i M rfl hi hD hA ht hl hk)
end MD

/-- nothing but numbers has changed -/
def kNo (M M1 : kM) : Prop := tg M1 = tg M ∧ ln M1 = ln M ∧ fl M1 = fl M ∧ fr M1 = fr M ∧ al M1 = al M ∧ ar M1 = ar M ∧ nx M1 = nx M
theorem kNo.rf {M : kM} : kNo M M := ⟨rfl, rfl, rfl, rfl, rfl, rfl, rfl⟩
theorem kNo.tr {M M1 M2 : kM} (h : kNo M M1) (h2 : kNo M1 M2) : kNo M M2 := ⟨h2.1.trans h.1, h2.2.1.trans h.2.1, h2.2.2.1.trans h.2.2.1, h2.2.2.2.1.trans h.2.2.2.1, h2.2.2.2.2.1.trans h.2.2.2.2.1, h2.2.2.2.2.2.1.trans h.2.2.2.2.2.1, h2.2.2.2.2.2.2.trans h.2.2.2.2.2.2⟩
set_option maxHeartbeats 4000000 in
set_option maxRecDepth 100000 in
theorem c_Disk_isSo (l : Launch) (g : kG) (hst : l.stackTraces = false) (M : kM) (dk wd im oc : Nat) (hk : tg M dk = 2) (hw : fr M dk 0 = some wd) (hwt : tg M wd = 11) (hi : fr M wd 15 = some im) (hit : tg M im = 103) (hil : ln M im = 6400) (ho : fr M dk 1 = some oc) (hot : tg M oc = 103) (hol : ln M oc = 12928) (b at0 : Nat) (hb : b < 202) (ha : at0 + 64 ≤ 6400) : kC l g yX1_isSo cX1_isSo 4 (some .boolean) [] 0 0 0 [.ref dk, .int (nI b), .int (nI at0)] M (fun v M1 => M1 = M ∧ ((v = some (.int 1) ∧ ∀ j, j < 64 → ai M oc (b * 64 + j) = ai M im (at0 + j)) ∨ (v = some (.int 0) ∧ ∃ j, j < 64 ∧ ai M oc (b * 64 + j) ≠ ai M im (at0 + j)))) (fun _ _ => False) := by
  refine kC_of hst (by decide) (Nat.le_of_ble_eq_true rfl) ?_
  show kT l g _ _ _ _ _ _ _ _ _ _ 0 [(0, .ref dk), (1, .int (nI b)), (2, .int (nI at0))] [] M _ _
  have lp : ∀ (m9 : Nat) (i : Nat), 64 - i = m9 → i ≤ 64 → (∀ j, j < i → ai M oc (b * 64 + j) = ai M im (at0 + j)) → kT l g yX1_isSo cX1_isSo 4 (some .boolean) [] 0 0 0 (fun v M1 => M1 = M ∧ ((v = some (.int 1) ∧ ∀ j, j < 64 → ai M oc (b * 64 + j) = ai M im (at0 + j)) ∨ (v = some (.int 0) ∧ ∃ j, j < 64 ∧ ai M oc (b * 64 + j) ≠ ai M im (at0 + j)))) (fun _ _ => False) 2 [(0, .ref dk), (1, .int (nI b)), (2, .int (nI at0)), (3, .int (nI i))] [] M 0 0 := by
    intro m9
    induction m9 using Nat.strongRecOn with
    | _ m9 ih =>
      intro i hm hi9 hq
      refine kT_iload_n dX1_isSo_2 rfl ?_
      refine kT_bipush (v := nI 64) dX1_isSo_3 (by decide) ?_
      refine kT_icmp_geN (tgt := 41) dX1_isSo_5 rfl (by omega) (by omega) (fun h1 => ?_) (fun h1 => ?_)
      · skip
        refine kT_iconst (v := nI 1) dX1_isSo_41 (by decide) ?_
        refine kT_zreturn dX1_isSo_42 rfl (Or.inr rfl) ?_
        exact ⟨rfl, Or.inl ⟨rfl, fun j hj => hq j (by omega)⟩⟩
      · skip
        refine kT_aload_n dX1_isSo_8 rfl ?_
        refine kT_getf (c := 1) (k0 := 1) (v := .ref oc) dX1_isSo_9 kf_X1_9 hk (by decide) (by decide) (kRf ho) ?_
        refine kT_iload_n dX1_isSo_12 rfl ?_
        refine kT_bipush (v := nI 64) dX1_isSo_13 (by decide) ?_
        refine kT_imulN dX1_isSo_15 ?_
        refine kT_iload_n dX1_isSo_16 rfl ?_
        refine kT_iaddN dX1_isSo_17 ?_
        refine kT_baldN dX1_isSo_18 hot (show (b * 64) + i < ln M oc from by rw [hol]; omega) rfl ?_
        refine kT_aload_n dX1_isSo_19 rfl ?_
        refine kT_getf (c := 1) (k0 := 0) (v := .ref wd) dX1_isSo_20 kf_X1_15 hk (by decide) (by decide) (kRf hw) ?_
        refine kT_getf (c := 10) (k0 := 15) (v := .ref im) dX1_isSo_23 kf_X1_53 hwt (by decide) (by decide) (kRf hi) ?_
        refine kT_iload_n dX1_isSo_26 rfl ?_
        refine kT_iload_n dX1_isSo_27 rfl ?_
        refine kT_iaddN dX1_isSo_28 ?_
        refine kT_baldN dX1_isSo_29 hit (show at0 + i < ln M im from by rw [hil]; omega) rfl ?_
        refine kT_icmp_eq (tgt := 35) dX1_isSo_30 rfl (fun h2 => ?_) (fun h2 => ?_)
        · skip
          refine kT_locals (lv9 := [(0, .ref dk), (1, .int (nI b)), (2, .int (nI at0)), (3, .int (nI i))]) (by simp [kSet, kSet2, lv_args, Value.category]) ?_
          refine kT_iinc (k0 := 3) (v := nI (i + 1)) dX1_isSo_35 rfl (by rw [← nI_add]; rfl) (by decide) rfl ?_
          refine kT_goto (tgt := 2) dX1_isSo_38 rfl ?_
          refine kT_locals (lv9 := [(0, .ref dk), (1, .int (nI b)), (2, .int (nI at0)), (3, .int (nI (i + 1)))]) (by simp [kSet, kSet2, lv_args, Value.category]) ?_
          refine ih (m9 - 1) (by omega) (i + 1) (by omega) (by omega) (fun j hj => ?_)
          by_cases e : j = i
          · rw [e]; exact h2
          · exact hq j (by omega)
        · skip
          refine kT_iconst (v := nI 0) dX1_isSo_33 (by decide) ?_
          refine kT_zreturn dX1_isSo_34 rfl (Or.inl rfl) ?_
          exact ⟨rfl, Or.inr ⟨rfl, i, by omega, h2⟩⟩
  refine kT_iconst (v := nI 0) dX1_isSo_0 (by decide) ?_
  refine kT_istore_n (i0 := 3) dX1_isSo_1 rfl (by decide) rfl ?_
  refine kT_locals (lv9 := [(0, .ref dk), (1, .int (nI b)), (2, .int (nI at0)), (3, .int (nI 0))]) (by simp [kSet, kSet2, lv_args, Value.category]) ?_
  exact lp 64 0 rfl (by omega) (fun j hj => absurd hj (Nat.not_lt_zero j))

/-- a block of 64 octets goes from sr to a disk's octets, n of them -/
def wbM (M : kM) (wd nd oc sr f b at0 n : Nat) : kM := wai (if f = 0 then sfi M wd 8 (fi M wd 8 + 1) else sfi (sfi M wd 8 (fi M wd 8 + 1)) nd 5 (nI (f - 1))) oc (va_cpy (ai M sr) (ai M oc) at0 (b * 64) n)
set_option maxHeartbeats 4000000 in
set_option maxRecDepth 100000 in
theorem c_Disk_writeBlock (l : Launch) (g : kG) (hst : l.stackTraces = false) (M : kM) (dk wd im oc : Nat) (hk : tg M dk = 2) (hw : fr M dk 0 = some wd) (hwt : tg M wd = 11) (hi : fr M wd 15 = some im) (hit : tg M im = 103) (hil : ln M im = 6400) (ho : fr M dk 1 = some oc) (hot : tg M oc = 103) (hol : ln M oc = 12928) (nd sr sl f kp b at0 : Nat) (hn : fr M dk 2 = some nd) (hnt : tg M nd = 6) (hf : fi M nd 5 = nI f) (hfb : f < 100000) (hkp : fi M nd 6 = nI kp) (hkb : kp ≤ 64) (hst0 : tg M sr = 103) (hsl : ln M sr = sl) (hb : b < 202) (ha : at0 + 64 ≤ sl) (hsb : sl < 1000000) : kC l g yX1_writeBlock cX1_writeBlock 6 none [] 10 1 6 [.ref dk, .int (nI b), .ref sr, .int (nI at0)] M (fun v M1 => f ≠ 1 ∧ v = none ∧ M1 = wbM M wd nd oc sr f b at0 64) (fun E M1 => f = 1 ∧ E = "java/lang/IllegalStateException" ∧ M1 = wbM M wd nd oc sr f b at0 kp) := by
  refine kC_of hst (by decide) (Nat.le_of_ble_eq_true rfl) ?_
  show kT l g _ _ _ _ _ _ _ _ _ _ 0 [(0, .ref dk), (1, .int (nI b)), (2, .ref sr), (3, .int (nI at0))] [] M _ _
  refine kT_aload_n dX1_writeBlock_0 rfl ?_
  refine kT_getf (c := 1) (k0 := 0) (v := .ref wd) dX1_writeBlock_1 kf_X1_15 hk (by decide) (by decide) (kRf hw) ?_
  refine kT_dup dX1_writeBlock_4 rfl ?_
  refine kT_getf (c := 10) (k0 := 8) (v := .int (fi M wd 8)) dX1_writeBlock_5 kf_X1_94 hwt (by decide) (by decide) rfl ?_
  refine kT_iconst (v := nI 1) dX1_writeBlock_8 (by decide) ?_
  refine kT_iadd dX1_writeBlock_9 ?_
  refine kT_putI (c := 10) (k0 := 8) dX1_writeBlock_10 kf_X1_94 hwt (by decide) (by decide) (Or.inl rfl) rfl ?_
  refine kT_iconst (v := nI 0) dX1_writeBlock_13 (by decide) ?_
  refine kT_istore (i0 := 4) dX1_writeBlock_14 (by decide) rfl ?_
  refine kT_bipush (v := nI 64) dX1_writeBlock_16 (by decide) ?_
  refine kT_istore (i0 := 5) dX1_writeBlock_18 (by decide) rfl ?_
  refine kT_aload_n dX1_writeBlock_20 rfl ?_
  refine kT_getf (c := 1) (k0 := 2) (v := .ref nd) dX1_writeBlock_21 kf_X1_19 hk (by decide) (by decide) (kRf hn) ?_
  refine kT_ifnull dX1_writeBlock_24 ?_
  refine kT_aload_n dX1_writeBlock_27 rfl ?_
  refine kT_getf (c := 1) (k0 := 2) (v := .ref nd) dX1_writeBlock_28 kf_X1_19 hk (by decide) (by decide) (kRf hn) ?_
  refine kT_getf (c := 5) (k0 := 5) (v := .int (nI f)) dX1_writeBlock_31 kf_X1_97 hnt (by decide) (by decide) (kFi hf) ?_
  refine kT_if_leN (tgt := 86) dX1_writeBlock_34 rfl (by omega) (fun h1 => ?_) (fun h1 => ?_)
  · skip
    refine kT_aload_n dX1_writeBlock_86 rfl ?_
    refine kT_iload_n dX1_writeBlock_87 rfl ?_
    refine kT_aload_n dX1_writeBlock_88 rfl ?_
    refine kT_getf (c := 1) (k0 := 1) (v := .ref oc) dX1_writeBlock_89 kf_X1_9 hk (by decide) (by decide) (kRf ho) ?_
    refine kT_iload_n dX1_writeBlock_92 rfl ?_
    refine kT_bipush (v := nI 64) dX1_writeBlock_93 (by decide) ?_
    refine kT_imulN dX1_writeBlock_95 ?_
    refine kT_iload dX1_writeBlock_96 rfl ?_
    refine kT_copyI (t := 2) (s0 := at0) (d0 := b * 64) (n0 := 64) dX1_writeBlock_98 km_X1_74 kac_1 kac_2 kz_java_lang_System (Or.inr rfl) hst0 hot (nI_toInt (by omega)) (nI_toInt (by omega)) (nI_toInt (by omega)) (show at0 + 64 ≤ ln M sr from by rw [hsl]; omega) (show (b * 64) + 64 ≤ ln M oc from by rw [hol]; omega) (by omega) (Nat.le_of_ble_eq_true rfl) ?_
    refine kT_iload dX1_writeBlock_101 rfl ?_
    refine kT_if_eqN (tgt := 116) dX1_writeBlock_103 rfl (by omega) (fun h2 => ?_) (fun h2 => ?_)
    · skip
      refine kT_return dX1_writeBlock_116 rfl ?_
      exact ⟨by omega, rfl, by unfold wbM; rw [if_pos h1]; rfl⟩
    · skip
      omega
  · skip
    refine kT_aload_n dX1_writeBlock_37 rfl ?_
    refine kT_getf (c := 1) (k0 := 2) (v := .ref nd) dX1_writeBlock_38 kf_X1_19 hk (by decide) (by decide) (kRf hn) ?_
    refine kT_dup dX1_writeBlock_41 rfl ?_
    refine kT_getf (c := 5) (k0 := 5) (v := .int (nI f)) dX1_writeBlock_42 kf_X1_97 hnt (by decide) (by decide) (kFi hf) ?_
    refine kT_iconst (v := nI 1) dX1_writeBlock_45 (by decide) ?_
    refine kT_isubN dX1_writeBlock_46 (by omega) ?_
    refine kT_putI (c := 5) (k0 := 5) dX1_writeBlock_47 kf_X1_97 hnt (by decide) (by decide) (Or.inl rfl) rfl ?_
    refine kT_aload_n dX1_writeBlock_50 rfl ?_
    refine kT_getf (c := 1) (k0 := 2) (v := .ref nd) dX1_writeBlock_51 kf_X1_19 hk (by decide) (by decide) (kRf hn) ?_
    refine kT_getf (c := 5) (k0 := 5) (v := .int (nI (f - 1))) dX1_writeBlock_54 kf_X1_97 hnt (by decide) (by decide) (kFi (by first | exact sfi_at | simp [sfi, sfr, sfl, sai, sal, sar, wai, wal, fi, up2])) ?_
    refine kT_if_neN (tgt := 64) dX1_writeBlock_57 rfl (by omega) (fun h3 => ?_) (fun h3 => ?_)
    · skip
      refine kT_iconst (v := nI 0) dX1_writeBlock_64 (by decide) ?_
      refine kT_istore (i0 := 4) dX1_writeBlock_65 (by decide) rfl ?_
      refine kT_iload dX1_writeBlock_67 rfl ?_
      refine kT_if_eqN (tgt := 82) dX1_writeBlock_69 rfl (by omega) (fun h4 => ?_) (fun h4 => ?_)
      · skip
        refine kT_bipush (v := nI 64) dX1_writeBlock_82 (by decide) ?_
        refine kT_istore (i0 := 5) dX1_writeBlock_84 (by decide) rfl ?_
        refine kT_aload_n dX1_writeBlock_86 rfl ?_
        refine kT_iload_n dX1_writeBlock_87 rfl ?_
        refine kT_aload_n dX1_writeBlock_88 rfl ?_
        refine kT_getf (c := 1) (k0 := 1) (v := .ref oc) dX1_writeBlock_89 kf_X1_9 hk (by decide) (by decide) (kRf ho) ?_
        refine kT_iload_n dX1_writeBlock_92 rfl ?_
        refine kT_bipush (v := nI 64) dX1_writeBlock_93 (by decide) ?_
        refine kT_imulN dX1_writeBlock_95 ?_
        refine kT_iload dX1_writeBlock_96 rfl ?_
        refine kT_copyI (t := 2) (s0 := at0) (d0 := b * 64) (n0 := 64) dX1_writeBlock_98 km_X1_74 kac_1 kac_2 kz_java_lang_System (Or.inr rfl) hst0 hot (nI_toInt (by omega)) (nI_toInt (by omega)) (nI_toInt (by omega)) (show at0 + 64 ≤ ln M sr from by rw [hsl]; omega) (show (b * 64) + 64 ≤ ln M oc from by rw [hol]; omega) (by omega) (Nat.le_of_ble_eq_true rfl) ?_
        refine kT_iload dX1_writeBlock_101 rfl ?_
        refine kT_if_eqN (tgt := 116) dX1_writeBlock_103 rfl (by omega) (fun h5 => ?_) (fun h5 => ?_)
        · skip
          refine kT_return dX1_writeBlock_116 rfl ?_
          exact ⟨by omega, rfl, by unfold wbM; rw [if_neg (by omega)]; rfl⟩
        · skip
          omega
      · skip
        omega
    · skip
      refine kT_iconst (v := nI 1) dX1_writeBlock_60 (by decide) ?_
      refine kT_goto (tgt := 65) dX1_writeBlock_61 rfl ?_
      refine kT_istore (i0 := 4) dX1_writeBlock_65 (by decide) rfl ?_
      refine kT_iload dX1_writeBlock_67 rfl ?_
      refine kT_if_eqN (tgt := 82) dX1_writeBlock_69 rfl (by omega) (fun h4 => ?_) (fun h4 => ?_)
      · skip
        omega
      · skip
        refine kT_aload_n dX1_writeBlock_72 rfl ?_
        refine kT_getf (c := 1) (k0 := 2) (v := .ref nd) dX1_writeBlock_73 kf_X1_19 hk (by decide) (by decide) (kRf hn) ?_
        refine kT_getf (c := 5) (k0 := 6) (v := .int (nI kp)) dX1_writeBlock_76 kf_X1_102 hnt (by decide) (by decide) (kFi hkp) ?_
        refine kT_goto (tgt := 84) dX1_writeBlock_79 rfl ?_
        refine kT_istore (i0 := 5) dX1_writeBlock_84 (by decide) rfl ?_
        refine kT_aload_n dX1_writeBlock_86 rfl ?_
        refine kT_iload_n dX1_writeBlock_87 rfl ?_
        refine kT_aload_n dX1_writeBlock_88 rfl ?_
        refine kT_getf (c := 1) (k0 := 1) (v := .ref oc) dX1_writeBlock_89 kf_X1_9 hk (by decide) (by decide) (kRf ho) ?_
        refine kT_iload_n dX1_writeBlock_92 rfl ?_
        refine kT_bipush (v := nI 64) dX1_writeBlock_93 (by decide) ?_
        refine kT_imulN dX1_writeBlock_95 ?_
        refine kT_iload dX1_writeBlock_96 rfl ?_
        refine kT_copyI (t := 2) (s0 := at0) (d0 := b * 64) (n0 := kp) dX1_writeBlock_98 km_X1_74 kac_1 kac_2 kz_java_lang_System (Or.inr rfl) hst0 hot (nI_toInt (by omega)) (nI_toInt (by omega)) (nI_toInt (by omega)) (show at0 + kp ≤ ln M sr from by rw [hsl]; omega) (show (b * 64) + kp ≤ ln M oc from by rw [hol]; omega) (by omega) (Nat.le_of_ble_eq_true rfl) ?_
        refine kT_iload dX1_writeBlock_101 rfl ?_
        refine kT_if_eqN (tgt := 116) dX1_writeBlock_103 rfl (by omega) (fun h5 => ?_) (fun h5 => ?_)
        · skip
          omega
        · skip
          refine kT_throwS (text := "the node fails at this block") kth_X1_109 (by decide +kernel) dX1_writeBlock_106 dX1_writeBlock_109 dX1_writeBlock_110 dX1_writeBlock_112 dX1_writeBlock_115 (by omega) (Nat.le_of_ble_eq_true rfl) (by omega) (by omega) ?_
          exact ⟨by omega, rfl, by unfold wbM; rw [if_neg (by omega)]; rfl⟩


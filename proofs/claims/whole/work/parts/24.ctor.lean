theorem kOldU {f : Nat → Nat} {q v b z : Nat} (h : b < q) (h2 : f b = z) : va_up f q v b = z := by
  rw [va_up_ne _ _ (by omega)]; exact h2
theorem kSelfU {f : Nat → Nat} {q v : Nat} : va_up f q v q = v := va_up_self _ _ _
theorem kOldG {f : Nat → Nat} {q n b z : Nat} (h : b < q) (h2 : f b = z) : (if b = q then 109 else if q < b ∧ b ≤ q + n then 101 else f b) = z := by
  rw [if_neg (by omega), if_neg (by omega)]; exact h2
/-- memory behind the constructor: 1 cells, 12928 places more -/
def mkDisk (M : kM) (th : Nat) (wd : Nat) : kM := sfr (sfr (nwA M 2 12928) th 1 (some (nx M))) th 0 (some wd)
theorem kOld_Disk {M : kM} {th : Nat} {wd : Nat} {b z : Nat} (h : b < nx M) (h2 : tg M b = z) : tg (mkDisk M th wd) b = z := (kOldU (show b < nx M by omega) h2)
theorem nx_mkDisk {M : kM} {th : Nat} {wd : Nat} : nx (mkDisk M th wd) = nx M + 1 := rfl
set_option maxHeartbeats 4000000 in
set_option maxRecDepth 100000 in
theorem c_Disk_init (l : Launch) (g : kG) (hst : l.stackTraces = false) (M : kM) (th wd : Nat) (ht : tg M th = 2) (hl : th < nx M) : kC l g yX1_init cX1_init 2 none [] 10 1 12928 [.ref th, .ref wd] M (fun v M1 => v = none ∧ M1 = mkDisk M th wd) (fun _ _ => False) := by
  refine kC_of hst (by decide) (Nat.le_of_ble_eq_true rfl) ?_
  show kT l g _ _ _ _ _ _ _ _ _ _ 0 [(0, .ref th), (1, .ref wd)] [] M _ _
  refine kT_aload_n dX1_init_0 rfl ?_
  refine kT_objInit dX1_init_1 km_X1_3 kob_1 kob_2 (by omega) (Nat.le_of_ble_eq_true rfl) ?_
  refine kT_aload_n dX1_init_4 rfl ?_
  refine kT_sipush (v := nI 12928) dX1_init_5 (by decide) ?_
  refine kT_newa (t := 2) (n := 12928) dX1_init_8 rfl (by decide) kar_2 (nI_toInt (by omega)) (by omega) (by omega) (by omega) (fun _ _ => ?_)
  show kT l g _ _ _ _ _ _ _ _ _ _ _ _ (.ref (nx M) :: _) _ _ _
  refine kT_putR (c := 1) (k0 := 1) (r0 := (some (nx M))) dX1_init_10 kf_X1_9 ((kOldU (show th < nx M by omega) ht)) (by decide) (by decide) (Or.inr ⟨rfl, rfl, rfl⟩) rfl rfl ?_
  refine kT_aload_n dX1_init_13 rfl ?_
  refine kT_aload_n dX1_init_14 rfl ?_
  refine kT_putR (c := 1) (k0 := 0) (r0 := (some wd)) dX1_init_15 kf_X1_15 ((kOldU (show th < nx M by omega) ht)) (by decide) (by decide) (Or.inr ⟨rfl, rfl, rfl⟩) rfl rfl ?_
  refine kT_return dX1_init_18 rfl ?_
  exact ⟨rfl, rfl⟩

/-- memory behind the constructor: 21 cells, 1625 places more -/
def mkIndex (M : kM) (th : Nat) (wd : Nat) : kM := sfr (sfr (nwA (sfr (nwA (sfr (nwA (sfr (nwG (sfr (nwG (sfr (nwG M 5 100) th 1 (some (nx M))) 5 100) th 2 (some (nx M + 6))) 5 100) th 3 (some (nx M + 12))) 0 5) th 4 (some (nx M + 18))) 0 5) th 5 (some (nx M + 19))) 0 100) th 6 (some (nx M + 20))) th 0 (some wd)
theorem kOld_Index {M : kM} {th : Nat} {wd : Nat} {b z : Nat} (h : b < nx M) (h2 : tg M b = z) : tg (mkIndex M th wd) b = z := (kOldU (show b < nx M + 20 by omega) (kOldU (show b < nx M + 19 by omega) (kOldU (show b < nx M + 18 by omega) (kOldG (show b < nx M + 12 by omega) (kOldG (show b < nx M + 6 by omega) (kOldG (show b < nx M by omega) h2))))))
theorem nx_mkIndex {M : kM} {th : Nat} {wd : Nat} : nx (mkIndex M th wd) = nx M + 21 := rfl
set_option maxHeartbeats 4000000 in
set_option maxRecDepth 100000 in
theorem c_Index_init (l : Launch) (g : kG) (hst : l.stackTraces = false) (M : kM) (th wd : Nat) (ht : tg M th = 3) (hl : th < nx M) : kC l g yX2_init cX2_init 2 none [] 10 21 1625 [.ref th, .ref wd] M (fun v M1 => v = none ∧ M1 = mkIndex M th wd) (fun _ _ => False) := by
  refine kC_of hst (by decide) (Nat.le_of_ble_eq_true rfl) ?_
  show kT l g _ _ _ _ _ _ _ _ _ _ 0 [(0, .ref th), (1, .ref wd)] [] M _ _
  refine kT_aload_n dX2_init_0 rfl ?_
  refine kT_objInit dX2_init_1 km_X2_3 kob_1 kob_2 (by omega) (Nat.le_of_ble_eq_true rfl) ?_
  refine kT_aload_n dX2_init_4 rfl ?_
  refine kT_iconst (v := nI 5) dX2_init_5 (by decide) ?_
  refine kT_bipush (v := nI 100) dX2_init_6 (by decide) ?_
  refine kT_mna (n := 5) (k := 100) dX2_init_8 kcl_X2_9 kar_0 (nI_toInt (by omega)) (nI_toInt (by omega)) (by omega) (by omega) (by omega) (by omega) (fun _ _ => ?_)
  show kT l g _ _ _ _ _ _ _ _ _ _ _ _ (.ref (nx M) :: _) _ _ _
  refine kT_putR (c := 2) (k0 := 1) (r0 := (some (nx M))) dX2_init_12 kf_X2_11 ((kOldG (show th < nx M by omega) ht)) (by decide) (by decide) (Or.inr ⟨rfl, rfl, rfl⟩) rfl rfl ?_
  refine kT_aload_n dX2_init_15 rfl ?_
  refine kT_iconst (v := nI 5) dX2_init_16 (by decide) ?_
  refine kT_bipush (v := nI 100) dX2_init_17 (by decide) ?_
  refine kT_mna (n := 5) (k := 100) dX2_init_19 kcl_X2_9 kar_0 (nI_toInt (by omega)) (nI_toInt (by omega)) (by omega) (by omega) (by omega) (by omega) (fun _ _ => ?_)
  show kT l g _ _ _ _ _ _ _ _ _ _ _ _ (.ref (nx M + 6) :: _) _ _ _
  refine kT_putR (c := 2) (k0 := 2) (r0 := (some (nx M + 6))) dX2_init_23 kf_X2_16 ((kOldG (show th < nx M + 6 by omega) (kOldG (show th < nx M by omega) ht))) (by decide) (by decide) (Or.inr ⟨rfl, rfl, rfl⟩) rfl rfl ?_
  refine kT_aload_n dX2_init_26 rfl ?_
  refine kT_iconst (v := nI 5) dX2_init_27 (by decide) ?_
  refine kT_bipush (v := nI 100) dX2_init_28 (by decide) ?_
  refine kT_mna (n := 5) (k := 100) dX2_init_30 kcl_X2_9 kar_0 (nI_toInt (by omega)) (nI_toInt (by omega)) (by omega) (by omega) (by omega) (by omega) (fun _ _ => ?_)
  show kT l g _ _ _ _ _ _ _ _ _ _ _ _ (.ref (nx M + 12) :: _) _ _ _
  refine kT_putR (c := 2) (k0 := 3) (r0 := (some (nx M + 12))) dX2_init_34 kf_X2_19 ((kOldG (show th < nx M + 12 by omega) (kOldG (show th < nx M + 6 by omega) (kOldG (show th < nx M by omega) ht)))) (by decide) (by decide) (Or.inr ⟨rfl, rfl, rfl⟩) rfl rfl ?_
  refine kT_aload_n dX2_init_37 rfl ?_
  refine kT_iconst (v := nI 5) dX2_init_38 (by decide) ?_
  refine kT_newa (t := 0) (n := 5) dX2_init_39 rfl (by decide) kar_0 (nI_toInt (by omega)) (by omega) (by omega) (by omega) (fun _ _ => ?_)
  show kT l g _ _ _ _ _ _ _ _ _ _ _ _ (.ref (nx M + 18) :: _) _ _ _
  refine kT_putR (c := 2) (k0 := 4) (r0 := (some (nx M + 18))) dX2_init_41 kf_X2_22 ((kOldU (show th < nx M + 18 by omega) (kOldG (show th < nx M + 12 by omega) (kOldG (show th < nx M + 6 by omega) (kOldG (show th < nx M by omega) ht))))) (by decide) (by decide) (Or.inr ⟨rfl, rfl, rfl⟩) rfl rfl ?_
  refine kT_aload_n dX2_init_44 rfl ?_
  refine kT_iconst (v := nI 5) dX2_init_45 (by decide) ?_
  refine kT_newa (t := 0) (n := 5) dX2_init_46 rfl (by decide) kar_0 (nI_toInt (by omega)) (by omega) (by omega) (by omega) (fun _ _ => ?_)
  show kT l g _ _ _ _ _ _ _ _ _ _ _ _ (.ref (nx M + 19) :: _) _ _ _
  refine kT_putR (c := 2) (k0 := 5) (r0 := (some (nx M + 19))) dX2_init_48 kf_X2_26 ((kOldU (show th < nx M + 19 by omega) (kOldU (show th < nx M + 18 by omega) (kOldG (show th < nx M + 12 by omega) (kOldG (show th < nx M + 6 by omega) (kOldG (show th < nx M by omega) ht)))))) (by decide) (by decide) (Or.inr ⟨rfl, rfl, rfl⟩) rfl rfl ?_
  refine kT_aload_n dX2_init_51 rfl ?_
  refine kT_bipush (v := nI 100) dX2_init_52 (by decide) ?_
  refine kT_newa (t := 0) (n := 100) dX2_init_54 rfl (by decide) kar_0 (nI_toInt (by omega)) (by omega) (by omega) (by omega) (fun _ _ => ?_)
  show kT l g _ _ _ _ _ _ _ _ _ _ _ _ (.ref (nx M + 20) :: _) _ _ _
  refine kT_putR (c := 2) (k0 := 6) (r0 := (some (nx M + 20))) dX2_init_56 kf_X2_29 ((kOldU (show th < nx M + 20 by omega) (kOldU (show th < nx M + 19 by omega) (kOldU (show th < nx M + 18 by omega) (kOldG (show th < nx M + 12 by omega) (kOldG (show th < nx M + 6 by omega) (kOldG (show th < nx M by omega) ht))))))) (by decide) (by decide) (Or.inr ⟨rfl, rfl, rfl⟩) rfl rfl ?_
  refine kT_aload_n dX2_init_59 rfl ?_
  refine kT_aload_n dX2_init_60 rfl ?_
  refine kT_putR (c := 2) (k0 := 0) (r0 := (some wd)) dX2_init_61 kf_X2_32 ((kOldU (show th < nx M + 20 by omega) (kOldU (show th < nx M + 19 by omega) (kOldU (show th < nx M + 18 by omega) (kOldG (show th < nx M + 12 by omega) (kOldG (show th < nx M + 6 by omega) (kOldG (show th < nx M by omega) ht))))))) (by decide) (by decide) (Or.inr ⟨rfl, rfl, rfl⟩) rfl rfl ?_
  refine kT_return dX2_init_64 rfl ?_
  exact ⟨rfl, rfl⟩

/-- memory behind the constructor: 10 cells, 844 places more -/
def mkNode (M : kM) (th : Nat) (wd : Nat) (x : Int32) : kM := sfi (sfr (sfr (nwG (sfr (nwA M 7 4) th 2 (some (nx M))) 8 104) th 3 (some (nx M + 1))) th 0 (some wd)) th 1 x
theorem kOld_Node {M : kM} {th : Nat} {wd : Nat} {x : Int32} {b z : Nat} (h : b < nx M) (h2 : tg M b = z) : tg (mkNode M th wd x) b = z := (kOldG (show b < nx M + 1 by omega) (kOldU (show b < nx M by omega) h2))
theorem nx_mkNode {M : kM} {th : Nat} {wd : Nat} {x : Int32} : nx (mkNode M th wd x) = nx M + 10 := rfl
set_option maxHeartbeats 4000000 in
set_option maxRecDepth 100000 in
theorem c_Node_init (l : Launch) (g : kG) (hst : l.stackTraces = false) (M : kM) (th wd : Nat) (x : Int32) (ht : tg M th = 6) (hl : th < nx M) : kC l g yX5_init cX5_init 3 none [] 10 10 844 [.ref th, .ref wd, .int x] M (fun v M1 => v = none ∧ M1 = mkNode M th wd x) (fun _ _ => False) := by
  refine kC_of hst (by decide) (Nat.le_of_ble_eq_true rfl) ?_
  show kT l g _ _ _ _ _ _ _ _ _ _ 0 [(0, .ref th), (1, .ref wd), (2, .int x)] [] M _ _
  refine kT_aload_n dX5_init_0 rfl ?_
  refine kT_objInit dX5_init_1 km_X5_3 kob_1 kob_2 (by omega) (Nat.le_of_ble_eq_true rfl) ?_
  refine kT_aload_n dX5_init_4 rfl ?_
  refine kT_iconst (v := nI 4) dX5_init_5 (by decide) ?_
  refine kT_anew (t := 7) (n := 4) dX5_init_6 (by decide) (by decide) kcl_X5_9 (nI_toInt (by omega)) (by omega) (by omega) (by omega) (fun _ _ => ?_)
  show kT l g _ _ _ _ _ _ _ _ _ _ _ _ (.ref (nx M) :: _) _ _ _
  refine kT_putR (c := 5) (k0 := 2) (r0 := (some (nx M))) dX5_init_9 kf_X5_11 ((kOldU (show th < nx M by omega) ht)) (by decide) (by decide) (Or.inr ⟨rfl, rfl, rfl⟩) rfl rfl ?_
  refine kT_aload_n dX5_init_12 rfl ?_
  refine kT_bipush (v := nI 8) dX5_init_13 (by decide) ?_
  refine kT_bipush (v := nI 104) dX5_init_15 (by decide) ?_
  refine kT_mna (n := 8) (k := 104) dX5_init_17 kcl_X5_17 kar_0 (nI_toInt (by omega)) (nI_toInt (by omega)) (by omega) (by omega) (by omega) (by omega) (fun _ _ => ?_)
  show kT l g _ _ _ _ _ _ _ _ _ _ _ _ (.ref (nx M + 1) :: _) _ _ _
  refine kT_putR (c := 5) (k0 := 3) (r0 := (some (nx M + 1))) dX5_init_21 kf_X5_19 ((kOldG (show th < nx M + 1 by omega) (kOldU (show th < nx M by omega) ht))) (by decide) (by decide) (Or.inr ⟨rfl, rfl, rfl⟩) rfl rfl ?_
  refine kT_aload_n dX5_init_24 rfl ?_
  refine kT_aload_n dX5_init_25 rfl ?_
  refine kT_putR (c := 5) (k0 := 0) (r0 := (some wd)) dX5_init_26 kf_X5_22 ((kOldG (show th < nx M + 1 by omega) (kOldU (show th < nx M by omega) ht))) (by decide) (by decide) (Or.inr ⟨rfl, rfl, rfl⟩) rfl rfl ?_
  refine kT_aload_n dX5_init_29 rfl ?_
  refine kT_iload_n dX5_init_30 rfl ?_
  refine kT_putI (c := 5) (k0 := 1) dX5_init_31 kf_X5_26 ((kOldG (show th < nx M + 1 by omega) (kOldU (show th < nx M by omega) ht))) (by decide) (by decide) (Or.inr ⟨rfl, rfl, rfl⟩) rfl ?_
  refine kT_return dX5_init_34 rfl ?_
  exact ⟨rfl, rfl⟩

/-- memory behind the constructor: 1 cells, 30 places more -/
def mkMessage (M : kM) (g : kG) (th : Nat) : kM := sfr (sfr (sfr (sfr (nwA M 0 30) th 1 (some (nx M))) th 2 (some (gN g))) th 3 (some (gN g))) th 4 (some (gN g))
theorem kOld_Message {M : kM} {g : kG} {th : Nat} {b z : Nat} (h : b < nx M) (h2 : tg M b = z) : tg (mkMessage M g th) b = z := (kOldU (show b < nx M by omega) h2)
theorem nx_mkMessage {M : kM} {g : kG} {th : Nat} : nx (mkMessage M g th) = nx M + 1 := rfl
set_option maxHeartbeats 4000000 in
set_option maxRecDepth 100000 in
theorem c_Message_init (l : Launch) (g : kG) (hst : l.stackTraces = false) (M : kM) (th : Nat) (ht : tg M th = 5) (hl : th < nx M) : kC l g yX4_init cX4_init 1 none [] 10 1 30 [.ref th] M (fun v M1 => v = none ∧ M1 = mkMessage M g th) (fun _ _ => False) := by
  refine kC_of hst (by decide) (Nat.le_of_ble_eq_true rfl) ?_
  show kT l g _ _ _ _ _ _ _ _ _ _ 0 [(0, .ref th)] [] M _ _
  refine kT_aload_n dX4_init_0 rfl ?_
  refine kT_objInit dX4_init_1 km_X4_3 kob_1 kob_2 (by omega) (Nat.le_of_ble_eq_true rfl) ?_
  refine kT_aload_n dX4_init_4 rfl ?_
  refine kT_bipush (v := nI 30) dX4_init_5 (by decide) ?_
  refine kT_newa (t := 0) (n := 30) dX4_init_7 rfl (by decide) kar_0 (nI_toInt (by omega)) (by omega) (by omega) (by omega) (fun _ _ => ?_)
  show kT l g _ _ _ _ _ _ _ _ _ _ _ _ (.ref (nx M) :: _) _ _ _
  refine kT_putR (c := 4) (k0 := 1) (r0 := (some (nx M))) dX4_init_9 kf_X4_9 ((kOldU (show th < nx M by omega) ht)) (by decide) (by decide) (Or.inr ⟨rfl, rfl, rfl⟩) rfl rfl ?_
  refine kT_aload_n dX4_init_12 rfl ?_
  refine kT_getsNN (host := "SearchCluster") dX4_init_13 kfn_X4_15 ?_
  refine kT_putR (c := 4) (k0 := 2) (r0 := (some (gN g))) dX4_init_16 kf_X4_18 ((kOldU (show th < nx M by omega) ht)) (by decide) (by decide) (Or.inl rfl) rfl rfl ?_
  refine kT_aload_n dX4_init_19 rfl ?_
  refine kT_getsNN (host := "SearchCluster") dX4_init_20 kfn_X4_15 ?_
  refine kT_putR (c := 4) (k0 := 3) (r0 := (some (gN g))) dX4_init_23 kf_X4_21 ((kOldU (show th < nx M by omega) ht)) (by decide) (by decide) (Or.inl rfl) rfl rfl ?_
  refine kT_aload_n dX4_init_26 rfl ?_
  refine kT_getsNN (host := "SearchCluster") dX4_init_27 kfn_X4_15 ?_
  refine kT_putR (c := 4) (k0 := 4) (r0 := (some (gN g))) dX4_init_30 kf_X4_24 ((kOldU (show th < nx M by omega) ht)) (by decide) (by decide) (Or.inl rfl) rfl rfl ?_
  refine kT_return dX4_init_33 rfl ?_
  exact ⟨rfl, rfl⟩

/-- memory behind the constructor: 5 cells, 24000 places more -/
def mkOctets (M : kM) (th : Nat) : kM := sfr (nwA (sfr (nwA (sfr (nwA (sfr (nwA (sfr (nwA M 2 16000) th 0 (some (nx M))) 1 2000) th 1 (some (nx M + 1))) 1 2000) th 2 (some (nx M + 2))) 0 2000) th 3 (some (nx M + 3))) 0 2000) th 4 (some (nx M + 4))
theorem kOld_Octets {M : kM} {th : Nat} {b z : Nat} (h : b < nx M) (h2 : tg M b = z) : tg (mkOctets M th) b = z := (kOldU (show b < nx M + 4 by omega) (kOldU (show b < nx M + 3 by omega) (kOldU (show b < nx M + 2 by omega) (kOldU (show b < nx M + 1 by omega) (kOldU (show b < nx M by omega) h2)))))
theorem nx_mkOctets {M : kM} {th : Nat} : nx (mkOctets M th) = nx M + 5 := rfl
set_option maxHeartbeats 4000000 in
set_option maxRecDepth 100000 in
theorem c_Octets_init (l : Launch) (g : kG) (hst : l.stackTraces = false) (M : kM) (th : Nat) (ht : tg M th = 10) (hl : th < nx M) : kC l g yX9_init cX9_init 1 none [] 10 5 24000 [.ref th] M (fun v M1 => v = none ∧ M1 = mkOctets M th) (fun _ _ => False) := by
  refine kC_of hst (by decide) (Nat.le_of_ble_eq_true rfl) ?_
  show kT l g _ _ _ _ _ _ _ _ _ _ 0 [(0, .ref th)] [] M _ _
  refine kT_aload_n dX9_init_0 rfl ?_
  refine kT_objInit dX9_init_1 km_X9_3 kob_1 kob_2 (by omega) (Nat.le_of_ble_eq_true rfl) ?_
  refine kT_aload_n dX9_init_4 rfl ?_
  refine kT_sipush (v := nI 16000) dX9_init_5 (by decide) ?_
  refine kT_newa (t := 2) (n := 16000) dX9_init_8 rfl (by decide) kar_2 (nI_toInt (by omega)) (by omega) (by omega) (by omega) (fun _ _ => ?_)
  show kT l g _ _ _ _ _ _ _ _ _ _ _ _ (.ref (nx M) :: _) _ _ _
  refine kT_putR (c := 9) (k0 := 0) (r0 := (some (nx M))) dX9_init_10 kf_X9_11 ((kOldU (show th < nx M by omega) ht)) (by decide) (by decide) (Or.inr ⟨rfl, rfl, rfl⟩) rfl rfl ?_
  refine kT_aload_n dX9_init_13 rfl ?_
  refine kT_sipush (v := nI 2000) dX9_init_14 (by decide) ?_
  refine kT_newa (t := 1) (n := 2000) dX9_init_17 rfl (by decide) kar_1 (nI_toInt (by omega)) (by omega) (by omega) (by omega) (fun _ _ => ?_)
  show kT l g _ _ _ _ _ _ _ _ _ _ _ _ (.ref (nx M + 1) :: _) _ _ _
  refine kT_putR (c := 9) (k0 := 1) (r0 := (some (nx M + 1))) dX9_init_19 kf_X9_15 ((kOldU (show th < nx M + 1 by omega) (kOldU (show th < nx M by omega) ht))) (by decide) (by decide) (Or.inr ⟨rfl, rfl, rfl⟩) rfl rfl ?_
  refine kT_aload_n dX9_init_22 rfl ?_
  refine kT_sipush (v := nI 2000) dX9_init_23 (by decide) ?_
  refine kT_newa (t := 1) (n := 2000) dX9_init_26 rfl (by decide) kar_1 (nI_toInt (by omega)) (by omega) (by omega) (by omega) (fun _ _ => ?_)
  show kT l g _ _ _ _ _ _ _ _ _ _ _ _ (.ref (nx M + 2) :: _) _ _ _
  refine kT_putR (c := 9) (k0 := 2) (r0 := (some (nx M + 2))) dX9_init_28 kf_X9_19 ((kOldU (show th < nx M + 2 by omega) (kOldU (show th < nx M + 1 by omega) (kOldU (show th < nx M by omega) ht)))) (by decide) (by decide) (Or.inr ⟨rfl, rfl, rfl⟩) rfl rfl ?_
  refine kT_aload_n dX9_init_31 rfl ?_
  refine kT_sipush (v := nI 2000) dX9_init_32 (by decide) ?_
  refine kT_newa (t := 0) (n := 2000) dX9_init_35 rfl (by decide) kar_0 (nI_toInt (by omega)) (by omega) (by omega) (by omega) (fun _ _ => ?_)
  show kT l g _ _ _ _ _ _ _ _ _ _ _ _ (.ref (nx M + 3) :: _) _ _ _
  refine kT_putR (c := 9) (k0 := 3) (r0 := (some (nx M + 3))) dX9_init_37 kf_X9_22 ((kOldU (show th < nx M + 3 by omega) (kOldU (show th < nx M + 2 by omega) (kOldU (show th < nx M + 1 by omega) (kOldU (show th < nx M by omega) ht))))) (by decide) (by decide) (Or.inr ⟨rfl, rfl, rfl⟩) rfl rfl ?_
  refine kT_aload_n dX9_init_40 rfl ?_
  refine kT_sipush (v := nI 2000) dX9_init_41 (by decide) ?_
  refine kT_newa (t := 0) (n := 2000) dX9_init_44 rfl (by decide) kar_0 (nI_toInt (by omega)) (by omega) (by omega) (by omega) (fun _ _ => ?_)
  show kT l g _ _ _ _ _ _ _ _ _ _ _ _ (.ref (nx M + 4) :: _) _ _ _
  refine kT_putR (c := 9) (k0 := 4) (r0 := (some (nx M + 4))) dX9_init_46 kf_X9_26 ((kOldU (show th < nx M + 4 by omega) (kOldU (show th < nx M + 3 by omega) (kOldU (show th < nx M + 2 by omega) (kOldU (show th < nx M + 1 by omega) (kOldU (show th < nx M by omega) ht)))))) (by decide) (by decide) (Or.inr ⟨rfl, rfl, rfl⟩) rfl rfl ?_
  refine kT_return dX9_init_49 rfl ?_
  exact ⟨rfl, rfl⟩


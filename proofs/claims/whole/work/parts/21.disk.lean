set_option maxHeartbeats 4000000 in
set_option maxRecDepth 100000 in
theorem c_Disk_after (l : Launch) (g : kG) (hst : l.stackTraces = false) (M : kM) (x : Nat) (hx : x < 1000000) : kC l g yX1_after cX1_after 1 (some .int) [] 0 0 0 [.int (nI x)] M (fun v M1 => v = some (.int (nI (if 250 ≤ x then 1 else x + 1))) ∧ M1 = M) (fun _ _ => False) := by
  refine kC_of hst (by decide) (Nat.le_of_ble_eq_true rfl) ?_
  show kT l g _ _ _ _ _ _ _ _ _ _ 0 [(0, .int (nI x))] [] M _ _
  refine kT_iload_n dX1_after_0 rfl ?_
  refine kT_sipush (v := nI 250) dX1_after_1 (by decide) ?_
  refine kT_icmp_ltN (tgt := 11) dX1_after_4 rfl (by omega) (by omega) (fun h1 => ?_) (fun h1 => ?_)
  · skip
    refine kT_iload_n dX1_after_11 rfl ?_
    refine kT_iconst (v := nI 1) dX1_after_12 (by decide) ?_
    refine kT_iaddN dX1_after_13 ?_
    refine kT_ireturn dX1_after_14 rfl ?_
    exact ⟨(by first | (rw [if_pos (by omega)]; rfl) | (rw [if_neg (by omega)]; rfl) | rw [if_pos (by omega)] | rw [if_neg (by omega)]), rfl⟩
  · skip
    refine kT_iconst (v := nI 1) dX1_after_7 (by decide) ?_
    refine kT_goto (tgt := 14) dX1_after_8 rfl ?_
    refine kT_ireturn dX1_after_14 rfl ?_
    exact ⟨(by first | (rw [if_pos (by omega)]; rfl) | (rw [if_neg (by omega)]; rfl) | rw [if_pos (by omega)] | rw [if_neg (by omega)]), rfl⟩

set_option maxHeartbeats 4000000 in
set_option maxRecDepth 100000 in
theorem c_Disk_firstBlockOf (l : Launch) (g : kG) (hst : l.stackTraces = false) (M : kM) (x : Nat) (hx : x < 1000000) : kC l g yX1_firstBlockOf cX1_firstBlockOf 1 (some .int) [] 0 0 0 [.int (nI x)] M (fun v M1 => v = some (.int (nI (2 + x % 2 * 100))) ∧ M1 = M) (fun _ _ => False) := by
  refine kC_of hst (by decide) (Nat.le_of_ble_eq_true rfl) ?_
  show kT l g _ _ _ _ _ _ _ _ _ _ 0 [(0, .int (nI x))] [] M _ _
  refine kT_iconst (v := nI 2) dX1_firstBlockOf_0 (by decide) ?_
  refine kT_iload_n dX1_firstBlockOf_1 rfl ?_
  refine kT_iconst (v := nI 2) dX1_firstBlockOf_2 (by decide) ?_
  refine kT_iremN dX1_firstBlockOf_3 (by omega) (by omega) (by omega) ?_
  refine kT_bipush (v := nI 100) dX1_firstBlockOf_4 (by decide) ?_
  refine kT_imulN dX1_firstBlockOf_6 ?_
  refine kT_iaddN dX1_firstBlockOf_7 ?_
  refine kT_ireturn dX1_firstBlockOf_8 rfl ?_
  exact ⟨rfl, rfl⟩

set_option maxHeartbeats 4000000 in
set_option maxRecDepth 100000 in
theorem c_Disk_fits (l : Launch) (g : kG) (hst : l.stackTraces = false) (M : kM) (dk x en : Nat) (hk : tg M dk = 2) (he : fi M dk 5 = nI en) (hen : en < 1000000) (hx : x < 1000000) : kC l g yX1_fits cX1_fits 2 (some .boolean) [] 0 0 0 [.ref dk, .int (nI x)] M (fun v M1 => v = some (.int (if en + x ≤ 6400 then 1 else 0)) ∧ M1 = M) (fun _ _ => False) := by
  refine kC_of hst (by decide) (Nat.le_of_ble_eq_true rfl) ?_
  show kT l g _ _ _ _ _ _ _ _ _ _ 0 [(0, .ref dk), (1, .int (nI x))] [] M _ _
  refine kT_aload_n dX1_fits_0 rfl ?_
  refine kT_getf (c := 1) (k0 := 5) (v := .int (nI en)) dX1_fits_1 kf_X1_44 hk (by decide) (by decide) (kFi he) ?_
  refine kT_iload_n dX1_fits_4 rfl ?_
  refine kT_iaddN dX1_fits_5 ?_
  refine kT_sipush (v := nI 6400) dX1_fits_6 (by decide) ?_
  refine kT_icmp_gtN (tgt := 16) dX1_fits_9 rfl (by omega) (by omega) (fun h1 => ?_) (fun h1 => ?_)
  · skip
    refine kT_iconst (v := nI 0) dX1_fits_16 (by decide) ?_
    refine kT_zreturn dX1_fits_17 rfl (Or.inl rfl) ?_
    exact ⟨(by first | (rw [if_pos (by omega)]; rfl) | (rw [if_neg (by omega)]; rfl) | rw [if_pos (by omega)] | rw [if_neg (by omega)]), rfl⟩
  · skip
    refine kT_iconst (v := nI 1) dX1_fits_12 (by decide) ?_
    refine kT_goto (tgt := 17) dX1_fits_13 rfl ?_
    refine kT_zreturn dX1_fits_17 rfl (Or.inr rfl) ?_
    exact ⟨(by first | (rw [if_pos (by omega)]; rfl) | (rw [if_neg (by omega)]; rfl) | rw [if_pos (by omega)] | rw [if_neg (by omega)]), rfl⟩

set_option maxHeartbeats 4000000 in
set_option maxRecDepth 100000 in
theorem c_Disk_clearImage (l : Launch) (g : kG) (hst : l.stackTraces = false) (M : kM) (dk : Nat) (hk : tg M dk = 2) : kC l g yX1_clearImage cX1_clearImage 1 none [] 0 0 0 [.ref dk] M (fun v M1 => v = none ∧ M1 = sfi M dk 6 (nI 0)) (fun _ _ => False) := by
  refine kC_of hst (by decide) (Nat.le_of_ble_eq_true rfl) ?_
  show kT l g _ _ _ _ _ _ _ _ _ _ 0 [(0, .ref dk)] [] M _ _
  refine kT_aload_n dX1_clearImage_0 rfl ?_
  refine kT_iconst (v := nI 0) dX1_clearImage_1 (by decide) ?_
  refine kT_putI (c := 1) (k0 := 6) dX1_clearImage_2 kf_X1_47 hk (by decide) (by decide) (Or.inl rfl) rfl ?_
  refine kT_return dX1_clearImage_5 rfl ?_
  exact ⟨rfl, rfl⟩

set_option maxHeartbeats 4000000 in
set_option maxRecDepth 100000 in
theorem c_Disk_countFrom (l : Launch) (g : kG) (hst : l.stackTraces = false) (M : kM) (dk a2 : Nat) (a1 a3 : Int32) (hk : tg M dk = 2) : kC l g yX1_countFrom cX1_countFrom 4 none [] 0 0 0 [.ref dk, .int a1, .int (nI a2), .int a3] M (fun v M1 => v = none ∧ M1 = sfi (sfi (sfi M dk 3 a1) dk 4 (nI (a2 * 64))) dk 5 a3) (fun _ _ => False) := by
  refine kC_of hst (by decide) (Nat.le_of_ble_eq_true rfl) ?_
  show kT l g _ _ _ _ _ _ _ _ _ _ 0 [(0, .ref dk), (1, .int a1), (2, .int (nI a2)), (3, .int a3)] [] M _ _
  refine kT_aload_n dX1_countFrom_0 rfl ?_
  refine kT_iload_n dX1_countFrom_1 rfl ?_
  refine kT_putI (c := 1) (k0 := 3) dX1_countFrom_2 kf_X1_23 hk (by decide) (by decide) (Or.inl rfl) rfl ?_
  refine kT_aload_n dX1_countFrom_5 rfl ?_
  refine kT_iload_n dX1_countFrom_6 rfl ?_
  refine kT_bipush (v := nI 64) dX1_countFrom_7 (by decide) ?_
  refine kT_imulN dX1_countFrom_9 ?_
  refine kT_putI (c := 1) (k0 := 4) dX1_countFrom_10 kf_X1_41 hk (by decide) (by decide) (Or.inl rfl) rfl ?_
  refine kT_aload_n dX1_countFrom_13 rfl ?_
  refine kT_iload_n dX1_countFrom_14 rfl ?_
  refine kT_putI (c := 1) (k0 := 5) dX1_countFrom_15 kf_X1_44 hk (by decide) (by decide) (Or.inl rfl) rfl ?_
  refine kT_return dX1_countFrom_18 rfl ?_
  exact ⟨rfl, rfl⟩

def b8 (x : Int32) : Int32 := x.toInt8.toInt32.toInt8.toInt32
def dOpen (M : kM) (dk im mk : Nat) (x : Int32) : kM := sfi (sai (sfi M dk 7 (nI mk)) im mk (b8 x)) dk 6 (nI (mk + 2))
def dOne (M : kM) (dk im mk : Nat) (x : Int32) : kM := sfi (sai M im mk (b8 x)) dk 6 (nI (mk + 1))
def dTwo (M : kM) (dk im mk : Nat) (x : Int32) : kM := sfi (sai (sai M im mk (b8 (x >>> ((nI 8) &&& 31)))) im (mk + 1) (b8 x)) dk 6 (nI (mk + 2))
def dClose (M : kM) (dk im op mk : Nat) : kM := sfi (sai (sai M im (op + 1) (b8 (nI (mk - op - 2)))) im mk ((-1 : Int32).toInt8.toInt32)) dk 6 (nI (mk + 1))
set_option maxHeartbeats 4000000 in
set_option maxRecDepth 100000 in
theorem c_Disk_open (l : Launch) (g : kG) (hst : l.stackTraces = false) (M : kM) (dk wd im mk : Nat) (hk : tg M dk = 2) (hw : fr M dk 0 = some wd) (hwt : tg M wd = 11) (hi : fr M wd 15 = some im) (hit : tg M im = 103) (hil : ln M im = 6400) (hm : fi M dk 6 = nI mk) (hb : mk + 1 < 6400) (x : Int32) : kC l g yX1_open cX1_open 2 none [] 0 0 0 [.ref dk, .int x] M (fun v M1 => v = none ∧ M1 = dOpen M dk im mk x) (fun _ _ => False) := by
  refine kC_of hst (by decide) (Nat.le_of_ble_eq_true rfl) ?_
  show kT l g _ _ _ _ _ _ _ _ _ _ 0 [(0, .ref dk), (1, .int x)] [] M _ _
  refine kT_aload_n dX1_open_0 rfl ?_
  refine kT_aload_n dX1_open_1 rfl ?_
  refine kT_getf (c := 1) (k0 := 6) (v := .int (nI mk)) dX1_open_2 kf_X1_47 hk (by decide) (by decide) (kFi hm) ?_
  refine kT_putI (c := 1) (k0 := 7) dX1_open_5 kf_X1_50 hk (by decide) (by decide) (Or.inl rfl) rfl ?_
  refine kT_aload_n dX1_open_8 rfl ?_
  refine kT_getf (c := 1) (k0 := 6) (v := .int (nI mk)) dX1_open_9 kf_X1_47 hk (by decide) (by decide) (kFi hm) ?_
  refine kT_iconst (v := nI 1) dX1_open_12 (by decide) ?_
  refine kT_iaddN dX1_open_13 ?_
  refine kT_sipush (v := nI 6400) dX1_open_14 (by decide) ?_
  refine kT_icmp_geN (tgt := 44) dX1_open_17 rfl (by omega) (by omega) (fun h1 => ?_) (fun h1 => ?_)
  · skip
    omega
  · skip
    refine kT_aload_n dX1_open_20 rfl ?_
    refine kT_getf (c := 1) (k0 := 0) (v := .ref wd) dX1_open_21 kf_X1_15 hk (by decide) (by decide) (kRf hw) ?_
    refine kT_getf (c := 10) (k0 := 15) (v := .ref im) dX1_open_24 kf_X1_53 hwt (by decide) (by decide) (kRf hi) ?_
    refine kT_aload_n dX1_open_27 rfl ?_
    refine kT_getf (c := 1) (k0 := 6) (v := .int (nI mk)) dX1_open_28 kf_X1_47 hk (by decide) (by decide) (kFi hm) ?_
    refine kT_iload_n dX1_open_31 rfl ?_
    refine kT_i2b dX1_open_32 rfl ?_
    refine kT_bastN dX1_open_33 hit (show mk < ln M im from by rw [hil]; omega) ?_
    refine kT_aload_n dX1_open_34 rfl ?_
    refine kT_dup dX1_open_35 rfl ?_
    refine kT_getf (c := 1) (k0 := 6) (v := .int (nI mk)) dX1_open_36 kf_X1_47 hk (by decide) (by decide) (kFi hm) ?_
    refine kT_iconst (v := nI 2) dX1_open_39 (by decide) ?_
    refine kT_iaddN dX1_open_40 ?_
    refine kT_putI (c := 1) (k0 := 6) dX1_open_41 kf_X1_47 hk (by decide) (by decide) (Or.inl rfl) rfl ?_
    refine kT_return dX1_open_44 rfl ?_
    exact ⟨rfl, rfl⟩

set_option maxHeartbeats 4000000 in
set_option maxRecDepth 100000 in
theorem c_Disk_addOne (l : Launch) (g : kG) (hst : l.stackTraces = false) (M : kM) (dk wd im mk : Nat) (hk : tg M dk = 2) (hw : fr M dk 0 = some wd) (hwt : tg M wd = 11) (hi : fr M wd 15 = some im) (hit : tg M im = 103) (hil : ln M im = 6400) (hm : fi M dk 6 = nI mk) (hb : mk < 6400) (x : Int32) : kC l g yX1_addOne cX1_addOne 2 none [] 0 0 0 [.ref dk, .int x] M (fun v M1 => v = none ∧ M1 = dOne M dk im mk x) (fun _ _ => False) := by
  refine kC_of hst (by decide) (Nat.le_of_ble_eq_true rfl) ?_
  show kT l g _ _ _ _ _ _ _ _ _ _ 0 [(0, .ref dk), (1, .int x)] [] M _ _
  refine kT_aload_n dX1_addOne_0 rfl ?_
  refine kT_getf (c := 1) (k0 := 6) (v := .int (nI mk)) dX1_addOne_1 kf_X1_47 hk (by decide) (by decide) (kFi hm) ?_
  refine kT_sipush (v := nI 6400) dX1_addOne_4 (by decide) ?_
  refine kT_icmp_geN (tgt := 34) dX1_addOne_7 rfl (by omega) (by omega) (fun h1 => ?_) (fun h1 => ?_)
  · skip
    omega
  · skip
    refine kT_aload_n dX1_addOne_10 rfl ?_
    refine kT_getf (c := 1) (k0 := 0) (v := .ref wd) dX1_addOne_11 kf_X1_15 hk (by decide) (by decide) (kRf hw) ?_
    refine kT_getf (c := 10) (k0 := 15) (v := .ref im) dX1_addOne_14 kf_X1_53 hwt (by decide) (by decide) (kRf hi) ?_
    refine kT_aload_n dX1_addOne_17 rfl ?_
    refine kT_getf (c := 1) (k0 := 6) (v := .int (nI mk)) dX1_addOne_18 kf_X1_47 hk (by decide) (by decide) (kFi hm) ?_
    refine kT_iload_n dX1_addOne_21 rfl ?_
    refine kT_i2b dX1_addOne_22 rfl ?_
    refine kT_bastN dX1_addOne_23 hit (show mk < ln M im from by rw [hil]; omega) ?_
    refine kT_aload_n dX1_addOne_24 rfl ?_
    refine kT_dup dX1_addOne_25 rfl ?_
    refine kT_getf (c := 1) (k0 := 6) (v := .int (nI mk)) dX1_addOne_26 kf_X1_47 hk (by decide) (by decide) (kFi hm) ?_
    refine kT_iconst (v := nI 1) dX1_addOne_29 (by decide) ?_
    refine kT_iaddN dX1_addOne_30 ?_
    refine kT_putI (c := 1) (k0 := 6) dX1_addOne_31 kf_X1_47 hk (by decide) (by decide) (Or.inl rfl) rfl ?_
    refine kT_return dX1_addOne_34 rfl ?_
    exact ⟨rfl, rfl⟩

set_option maxHeartbeats 4000000 in
set_option maxRecDepth 100000 in
theorem c_Disk_addTwo (l : Launch) (g : kG) (hst : l.stackTraces = false) (M : kM) (dk wd im mk : Nat) (hk : tg M dk = 2) (hw : fr M dk 0 = some wd) (hwt : tg M wd = 11) (hi : fr M wd 15 = some im) (hit : tg M im = 103) (hil : ln M im = 6400) (hm : fi M dk 6 = nI mk) (hb : mk + 1 < 6400) (x : Int32) : kC l g yX1_addTwo cX1_addTwo 2 none [] 0 0 0 [.ref dk, .int x] M (fun v M1 => v = none ∧ M1 = dTwo M dk im mk x) (fun _ _ => False) := by
  refine kC_of hst (by decide) (Nat.le_of_ble_eq_true rfl) ?_
  show kT l g _ _ _ _ _ _ _ _ _ _ 0 [(0, .ref dk), (1, .int x)] [] M _ _
  refine kT_aload_n dX1_addTwo_0 rfl ?_
  refine kT_getf (c := 1) (k0 := 6) (v := .int (nI mk)) dX1_addTwo_1 kf_X1_47 hk (by decide) (by decide) (kFi hm) ?_
  refine kT_iconst (v := nI 1) dX1_addTwo_4 (by decide) ?_
  refine kT_iaddN dX1_addTwo_5 ?_
  refine kT_sipush (v := nI 6400) dX1_addTwo_6 (by decide) ?_
  refine kT_icmp_geN (tgt := 55) dX1_addTwo_9 rfl (by omega) (by omega) (fun h1 => ?_) (fun h1 => ?_)
  · skip
    omega
  · skip
    refine kT_aload_n dX1_addTwo_12 rfl ?_
    refine kT_getf (c := 1) (k0 := 0) (v := .ref wd) dX1_addTwo_13 kf_X1_15 hk (by decide) (by decide) (kRf hw) ?_
    refine kT_getf (c := 10) (k0 := 15) (v := .ref im) dX1_addTwo_16 kf_X1_53 hwt (by decide) (by decide) (kRf hi) ?_
    refine kT_aload_n dX1_addTwo_19 rfl ?_
    refine kT_getf (c := 1) (k0 := 6) (v := .int (nI mk)) dX1_addTwo_20 kf_X1_47 hk (by decide) (by decide) (kFi hm) ?_
    refine kT_iload_n dX1_addTwo_23 rfl ?_
    refine kT_bipush (v := nI 8) dX1_addTwo_24 (by decide) ?_
    refine kT_ishr dX1_addTwo_26 ?_
    refine kT_i2b dX1_addTwo_27 rfl ?_
    refine kT_bastN dX1_addTwo_28 hit (show mk < ln M im from by rw [hil]; omega) ?_
    refine kT_aload_n dX1_addTwo_29 rfl ?_
    refine kT_getf (c := 1) (k0 := 0) (v := .ref wd) dX1_addTwo_30 kf_X1_15 hk (by decide) (by decide) (kRf hw) ?_
    refine kT_getf (c := 10) (k0 := 15) (v := .ref im) dX1_addTwo_33 kf_X1_53 hwt (by decide) (by decide) (kRf hi) ?_
    refine kT_aload_n dX1_addTwo_36 rfl ?_
    refine kT_getf (c := 1) (k0 := 6) (v := .int (nI mk)) dX1_addTwo_37 kf_X1_47 hk (by decide) (by decide) (kFi hm) ?_
    refine kT_iconst (v := nI 1) dX1_addTwo_40 (by decide) ?_
    refine kT_iaddN dX1_addTwo_41 ?_
    refine kT_iload_n dX1_addTwo_42 rfl ?_
    refine kT_i2b dX1_addTwo_43 rfl ?_
    refine kT_bastN dX1_addTwo_44 hit (show mk + 1 < ln M im from by rw [hil]; omega) ?_
    refine kT_aload_n dX1_addTwo_45 rfl ?_
    refine kT_dup dX1_addTwo_46 rfl ?_
    refine kT_getf (c := 1) (k0 := 6) (v := .int (nI mk)) dX1_addTwo_47 kf_X1_47 hk (by decide) (by decide) (kFi hm) ?_
    refine kT_iconst (v := nI 2) dX1_addTwo_50 (by decide) ?_
    refine kT_iaddN dX1_addTwo_51 ?_
    refine kT_putI (c := 1) (k0 := 6) dX1_addTwo_52 kf_X1_47 hk (by decide) (by decide) (Or.inl rfl) rfl ?_
    refine kT_return dX1_addTwo_55 rfl ?_
    exact ⟨rfl, rfl⟩

set_option maxHeartbeats 4000000 in
set_option maxRecDepth 100000 in
theorem c_Disk_close (l : Launch) (g : kG) (hst : l.stackTraces = false) (M : kM) (dk wd im mk : Nat) (hk : tg M dk = 2) (hw : fr M dk 0 = some wd) (hwt : tg M wd = 11) (hi : fr M wd 15 = some im) (hit : tg M im = 103) (hil : ln M im = 6400) (hm : fi M dk 6 = nI mk) (op : Nat) (ho : fi M dk 7 = nI op) (hom : op + 1 < mk) (hb : mk < 6400) : kC l g yX1_close cX1_close 1 none [] 0 0 0 [.ref dk] M (fun v M1 => v = none ∧ M1 = dClose M dk im op mk) (fun _ _ => False) := by
  refine kC_of hst (by decide) (Nat.le_of_ble_eq_true rfl) ?_
  show kT l g _ _ _ _ _ _ _ _ _ _ 0 [(0, .ref dk)] [] M _ _
  refine kT_aload_n dX1_close_0 rfl ?_
  refine kT_getf (c := 1) (k0 := 7) (v := .int (nI op)) dX1_close_1 kf_X1_50 hk (by decide) (by decide) (kFi ho) ?_
  refine kT_iconst (v := nI 1) dX1_close_4 (by decide) ?_
  refine kT_iaddN dX1_close_5 ?_
  refine kT_aload_n dX1_close_6 rfl ?_
  refine kT_getf (c := 1) (k0 := 6) (v := .int (nI mk)) dX1_close_7 kf_X1_47 hk (by decide) (by decide) (kFi hm) ?_
  refine kT_icmp_geN (tgt := 72) dX1_close_10 rfl (by omega) (by omega) (fun h1 => ?_) (fun h1 => ?_)
  · skip
    omega
  · skip
    refine kT_aload_n dX1_close_13 rfl ?_
    refine kT_getf (c := 1) (k0 := 6) (v := .int (nI mk)) dX1_close_14 kf_X1_47 hk (by decide) (by decide) (kFi hm) ?_
    refine kT_sipush (v := nI 6400) dX1_close_17 (by decide) ?_
    refine kT_icmp_geN (tgt := 72) dX1_close_20 rfl (by omega) (by omega) (fun h2 => ?_) (fun h2 => ?_)
    · skip
      omega
    · skip
      refine kT_aload_n dX1_close_23 rfl ?_
      refine kT_getf (c := 1) (k0 := 0) (v := .ref wd) dX1_close_24 kf_X1_15 hk (by decide) (by decide) (kRf hw) ?_
      refine kT_getf (c := 10) (k0 := 15) (v := .ref im) dX1_close_27 kf_X1_53 hwt (by decide) (by decide) (kRf hi) ?_
      refine kT_aload_n dX1_close_30 rfl ?_
      refine kT_getf (c := 1) (k0 := 7) (v := .int (nI op)) dX1_close_31 kf_X1_50 hk (by decide) (by decide) (kFi ho) ?_
      refine kT_iconst (v := nI 1) dX1_close_34 (by decide) ?_
      refine kT_iaddN dX1_close_35 ?_
      refine kT_aload_n dX1_close_36 rfl ?_
      refine kT_getf (c := 1) (k0 := 6) (v := .int (nI mk)) dX1_close_37 kf_X1_47 hk (by decide) (by decide) (kFi hm) ?_
      refine kT_aload_n dX1_close_40 rfl ?_
      refine kT_getf (c := 1) (k0 := 7) (v := .int (nI op)) dX1_close_41 kf_X1_50 hk (by decide) (by decide) (kFi ho) ?_
      refine kT_isubN dX1_close_44 (by omega) ?_
      refine kT_iconst (v := nI 2) dX1_close_45 (by decide) ?_
      refine kT_isubN dX1_close_46 (by omega) ?_
      refine kT_i2b dX1_close_47 rfl ?_
      refine kT_bastN dX1_close_48 hit (show op + 1 < ln M im from by rw [hil]; omega) ?_
      refine kT_aload_n dX1_close_49 rfl ?_
      refine kT_getf (c := 1) (k0 := 0) (v := .ref wd) dX1_close_50 kf_X1_15 hk (by decide) (by decide) (kRf hw) ?_
      refine kT_getf (c := 10) (k0 := 15) (v := .ref im) dX1_close_53 kf_X1_53 hwt (by decide) (by decide) (kRf hi) ?_
      refine kT_aload_n dX1_close_56 rfl ?_
      refine kT_getf (c := 1) (k0 := 6) (v := .int (nI mk)) dX1_close_57 kf_X1_47 hk (by decide) (by decide) (kFi hm) ?_
      refine kT_iconst (v := (-1)) dX1_close_60 (by decide) ?_
      refine kT_bastN dX1_close_61 hit (show mk < ln M im from by rw [hil]; omega) ?_
      refine kT_aload_n dX1_close_62 rfl ?_
      refine kT_dup dX1_close_63 rfl ?_
      refine kT_getf (c := 1) (k0 := 6) (v := .int (nI mk)) dX1_close_64 kf_X1_47 hk (by decide) (by decide) (kFi hm) ?_
      refine kT_iconst (v := nI 1) dX1_close_67 (by decide) ?_
      refine kT_iaddN dX1_close_68 ?_
      refine kT_putI (c := 1) (k0 := 6) dX1_close_69 kf_X1_47 hk (by decide) (by decide) (Or.inl rfl) rfl ?_
      refine kT_return dX1_close_72 rfl ?_
      exact ⟨rfl, rfl⟩


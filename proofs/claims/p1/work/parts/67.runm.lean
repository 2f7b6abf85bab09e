set_option maxRecDepth 100000 in
theorem rM_50 : rnC 173 59 26 lvM R2 1052617 1 300000 (fiL 173 59 26 lvM R2 1052617 1 300000) spM 10 50 YM50 2048 1052617 = true := by decide +kernel
theorem RM_50 : RnP 173 59 26 lvM R2 1052617 1 50 YM50 2048 1052617 := rnC_ok fiL_ok 10 _ _ _ _ rM_50
set_option maxRecDepth 100000 in
theorem rM_40 : rnC 173 59 26 lvM R2 1052617 1 300000 (fiN 50 YM50 2048 1052617) spM 10 40 YM40 2048 1052617 = true := by decide +kernel
theorem RM_40 : RnP 173 59 26 lvM R2 1052617 1 40 YM40 2048 1052617 := rnC_ok (fiN_ok RM_50) 10 _ _ _ _ rM_40
set_option maxRecDepth 100000 in
theorem rM_30 : rnC 173 59 26 lvM R2 1052617 1 300000 (fiN 40 YM40 2048 1052617) spM 10 30 YM30 2048 1052617 = true := by decide +kernel
theorem RM_30 : RnP 173 59 26 lvM R2 1052617 1 30 YM30 2048 1052617 := rnC_ok (fiN_ok RM_40) 10 _ _ _ _ rM_30
set_option maxRecDepth 100000 in
theorem rM_20 : rnC 173 59 26 lvM R2 1052617 1 300000 (fiN 30 YM30 2048 1052617) spM 10 20 YM20 2048 1052617 = true := by decide +kernel
theorem RM_20 : RnP 173 59 26 lvM R2 1052617 1 20 YM20 2048 1052617 := rnC_ok (fiN_ok RM_30) 10 _ _ _ _ rM_20
set_option maxRecDepth 100000 in
theorem rM_10 : rnC 173 59 26 lvM R2 1052617 1 300000 (fiN 20 YM20 2048 1052617) spM 10 10 YM10 2048 1052617 = true := by decide +kernel
theorem RM_10 : RnP 173 59 26 lvM R2 1052617 1 10 YM10 2048 1052617 := rnC_ok (fiN_ok RM_20) 10 _ _ _ _ rM_10
set_option maxRecDepth 100000 in
theorem rM_0 : rnC 173 59 26 lvM R2 1052617 1 300000 (fiN 10 YM10 2048 1052617) spM 10 0 YM0 2048 1052617 = true := by decide +kernel
theorem RM_0 : RnP 173 59 26 lvM R2 1052617 1 0 YM0 2048 1052617 := rnC_ok (fiN_ok RM_10) 10 _ _ _ _ rM_0

set_option maxRecDepth 100000 in
theorem rX_50 : rnC 86 58 30 lvX R0 1052617 0 300000 (fiL 86 58 30 lvX R0 1052617 0 300000) spX 10 50 YX50 815 1051092 = true := by decide +kernel
theorem RX_50 : RnP 86 58 30 lvX R0 1052617 0 50 YX50 815 1051092 := rnC_ok fiL_ok 10 _ _ _ _ rX_50
set_option maxRecDepth 100000 in
theorem rX_40 : rnC 86 58 30 lvX R0 1052617 0 300000 (fiN 50 YX50 815 1051092) spX 10 40 YX40 785 1050567 = true := by decide +kernel
theorem RX_40 : RnP 86 58 30 lvX R0 1052617 0 40 YX40 785 1050567 := rnC_ok (fiN_ok RX_50) 10 _ _ _ _ rX_40
set_option maxRecDepth 100000 in
theorem rX_30 : rnC 86 58 30 lvX R0 1052617 0 300000 (fiN 40 YX40 785 1050567) spX 10 30 YX30 755 1050042 = true := by decide +kernel
theorem RX_30 : RnP 86 58 30 lvX R0 1052617 0 30 YX30 755 1050042 := rnC_ok (fiN_ok RX_40) 10 _ _ _ _ rX_30
set_option maxRecDepth 100000 in
theorem rX_20 : rnC 86 58 30 lvX R0 1052617 0 300000 (fiN 30 YX30 755 1050042) spX 10 20 YX20 725 1049517 = true := by decide +kernel
theorem RX_20 : RnP 86 58 30 lvX R0 1052617 0 20 YX20 725 1049517 := rnC_ok (fiN_ok RX_30) 10 _ _ _ _ rX_20
set_option maxRecDepth 100000 in
theorem rX_10 : rnC 86 58 30 lvX R0 1052617 0 300000 (fiN 20 YX20 725 1049517) spX 10 10 YX10 695 1048992 = true := by decide +kernel
theorem RX_10 : RnP 86 58 30 lvX R0 1052617 0 10 YX10 695 1048992 := rnC_ok (fiN_ok RX_20) 10 _ _ _ _ rX_10
set_option maxRecDepth 100000 in
theorem rX_0 : rnC 86 58 30 lvX R0 1052617 0 300000 (fiN 10 YX10 695 1048992) spX 10 0 T0 665 1048467 = true := by decide +kernel
theorem RX_0 : RnP 86 58 30 lvX R0 1052617 0 0 T0 665 1048467 := rnC_ok (fiN_ok RX_10) 10 _ _ _ _ rX_0

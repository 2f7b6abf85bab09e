set_option maxRecDepth 100000 in
theorem mkA_21 : eCw false 185 [10, 6, 9030, 10630, 1, 1, 0] 1100000 (evT (eTab [(0, 4294967295), (4, 4), (4, 4), (1, 1), (0, 4294967295)] 0 5) spK 300000 60 222 23 [10, 6, 9030, 10630, 1, 0, 0] [] T0 665 1048467 0) (fun t9 _ _ _ => eTw 11 (RV 4) t9) = true := by decide +kernel
set_option maxRecDepth 100000 in
theorem mkB_21 : lawB 300000 185 [10, 6, 9030, 10630, 1, 1, 0] (RV 4) 2048 1100000 1 0 5 [(0, 4294967295), (4, 4), (4, 4), (1, 1), (0, 4294967295)] = true := by decide +kernel
set_option maxRecDepth 100000 in
theorem mkA_22 : eCw false 185 [10, 6, 9030, 10630, 1, 1, 0] 1100000 (evT (eTab [(0, 4294967295), (5, 5), (4, 4), (1, 1), (0, 4294967295)] 0 5) spK 300000 60 222 23 [10, 6, 9030, 10630, 1, 0, 0] [] T0 665 1048467 0) (fun t9 _ _ _ => eTw 11 (RV 4) t9) = true := by decide +kernel
set_option maxRecDepth 100000 in
theorem mkB_22 : lawB 300000 185 [10, 6, 9030, 10630, 1, 1, 0] (RV 4) 2048 1100000 1 0 5 [(0, 4294967295), (5, 5), (4, 4), (1, 1), (0, 4294967295)] = true := by decide +kernel
theorem mkC_23 : lawB 300000 23 [10, 6, 9030, 10630, 1, 0, 0] T0 665 1048467 0 0 5 [(0, 4294967295), (1, 1), (1, 4), (2, 2), (0, 4294967295)] = true := by decide +kernel
set_option maxRecDepth 100000 in
theorem mkA_24 : eCw false 185 [10, 6, 9030, 10630, 1, 1, 0] 1100000 (evT (eTab [(0, 4294967295), (2, 2), (1, 1), (2, 2), (0, 4294967295)] 0 5) spK 300000 60 222 23 [10, 6, 9030, 10630, 1, 0, 0] [] T0 665 1048467 0) (fun t9 _ _ _ => eTw 11 (RV 2) t9) = true := by decide +kernel
set_option maxRecDepth 100000 in
theorem mkB_24 : lawB 300000 185 [10, 6, 9030, 10630, 1, 1, 0] (RV 2) 2048 1100000 1 0 5 [(0, 4294967295), (2, 2), (1, 1), (2, 2), (0, 4294967295)] = true := by decide +kernel
set_option maxRecDepth 100000 in
theorem mkA_25 : eCw false 185 [10, 6, 9030, 10630, 1, 1, 0] 1100000 (evT (eTab [(0, 4294967295), (2, 2), (2, 2), (2, 2), (0, 4294967295)] 0 5) spK 300000 60 222 23 [10, 6, 9030, 10630, 1, 0, 0] [] T0 665 1048467 0) (fun t9 _ _ _ => eTw 11 (RV 4) t9) = true := by decide +kernel
set_option maxRecDepth 100000 in
theorem mkB_25 : lawB 300000 185 [10, 6, 9030, 10630, 1, 1, 0] (RV 4) 2048 1100000 1 0 5 [(0, 4294967295), (2, 2), (2, 2), (2, 2), (0, 4294967295)] = true := by decide +kernel
set_option maxRecDepth 100000 in
theorem mkA_26 : eCw false 185 [10, 6, 9030, 10630, 1, 1, 0] 1100000 (evT (eTab [(0, 4294967295), (2, 2), (3, 3), (2, 2), (0, 4294967295)] 0 5) spK 300000 60 222 23 [10, 6, 9030, 10630, 1, 0, 0] [] T0 665 1048467 0) (fun t9 _ _ _ => eTw 11 (RV 6) t9) = true := by decide +kernel
set_option maxRecDepth 100000 in
theorem mkB_26 : lawB 300000 185 [10, 6, 9030, 10630, 1, 1, 0] (RV 6) 2048 1100000 1 0 5 [(0, 4294967295), (2, 2), (3, 3), (2, 2), (0, 4294967295)] = true := by decide +kernel
set_option maxRecDepth 100000 in
theorem mkA_27 : eCw false 185 [10, 6, 9030, 10630, 1, 1, 0] 1100000 (evT (eTab [(0, 4294967295), (2, 2), (4, 4), (2, 2), (0, 4294967295)] 0 5) spK 300000 60 222 23 [10, 6, 9030, 10630, 1, 0, 0] [] T0 665 1048467 0) (fun t9 _ _ _ => eTw 11 (RV 8) t9) = true := by decide +kernel
set_option maxRecDepth 100000 in
theorem mkB_27 : lawB 300000 185 [10, 6, 9030, 10630, 1, 1, 0] (RV 8) 2048 1100000 1 0 5 [(0, 4294967295), (2, 2), (4, 4), (2, 2), (0, 4294967295)] = true := by decide +kernel
set_option maxRecDepth 100000 in
theorem mkA_28 : eCw false 185 [10, 6, 9030, 10630, 1, 1, 0] 1100000 (evT (eTab [(0, 4294967295), (3, 3), (1, 1), (2, 2), (0, 4294967295)] 0 5) spK 300000 60 222 23 [10, 6, 9030, 10630, 1, 0, 0] [] T0 665 1048467 0) (fun t9 _ _ _ => eTw 11 (RV 2) t9) = true := by decide +kernel
set_option maxRecDepth 100000 in
theorem mkB_28 : lawB 300000 185 [10, 6, 9030, 10630, 1, 1, 0] (RV 2) 2048 1100000 1 0 5 [(0, 4294967295), (3, 3), (1, 1), (2, 2), (0, 4294967295)] = true := by decide +kernel
set_option maxRecDepth 100000 in
theorem mkA_29 : eCw false 185 [10, 6, 9030, 10630, 1, 1, 0] 1100000 (evT (eTab [(0, 4294967295), (3, 3), (2, 2), (2, 2), (0, 4294967295)] 0 5) spK 300000 60 222 23 [10, 6, 9030, 10630, 1, 0, 0] [] T0 665 1048467 0) (fun t9 _ _ _ => eTw 11 (RV 4) t9) = true := by decide +kernel
set_option maxRecDepth 100000 in
theorem mkB_29 : lawB 300000 185 [10, 6, 9030, 10630, 1, 1, 0] (RV 4) 2048 1100000 1 0 5 [(0, 4294967295), (3, 3), (2, 2), (2, 2), (0, 4294967295)] = true := by decide +kernel
set_option maxRecDepth 100000 in
theorem mkA_30 : eCw false 185 [10, 6, 9030, 10630, 1, 1, 0] 1100000 (evT (eTab [(0, 4294967295), (3, 3), (3, 3), (2, 2), (0, 4294967295)] 0 5) spK 300000 60 222 23 [10, 6, 9030, 10630, 1, 0, 0] [] T0 665 1048467 0) (fun t9 _ _ _ => eTw 11 (RV 6) t9) = true := by decide +kernel
set_option maxRecDepth 100000 in
theorem mkB_30 : lawB 300000 185 [10, 6, 9030, 10630, 1, 1, 0] (RV 6) 2048 1100000 1 0 5 [(0, 4294967295), (3, 3), (3, 3), (2, 2), (0, 4294967295)] = true := by decide +kernel

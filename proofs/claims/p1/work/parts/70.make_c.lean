set_option maxRecDepth 100000 in
theorem mkA_31 : eCw false 185 [10, 6, 9030, 10630, 1, 1, 0] 1100000 (evT (eTab [(0, 4294967295), (3, 3), (4, 4), (2, 2), (0, 4294967295)] 0 5) spK 300000 60 222 23 [10, 6, 9030, 10630, 1, 0, 0] [] T0 665 1048467 0) (fun t9 _ _ _ => eTw 11 (RV 8) t9) = true := by decide +kernel
set_option maxRecDepth 100000 in
theorem mkB_31 : lawB 300000 185 [10, 6, 9030, 10630, 1, 1, 0] (RV 8) 2048 1100000 1 0 5 [(0, 4294967295), (3, 3), (4, 4), (2, 2), (0, 4294967295)] = true := by decide +kernel
set_option maxRecDepth 100000 in
theorem mkA_32 : eCw false 185 [10, 6, 9030, 10630, 1, 1, 0] 1100000 (evT (eTab [(0, 4294967295), (4, 4), (1, 1), (2, 2), (0, 4294967295)] 0 5) spK 300000 60 222 23 [10, 6, 9030, 10630, 1, 0, 0] [] T0 665 1048467 0) (fun t9 _ _ _ => eTw 11 (RV 2) t9) = true := by decide +kernel
set_option maxRecDepth 100000 in
theorem mkB_32 : lawB 300000 185 [10, 6, 9030, 10630, 1, 1, 0] (RV 2) 2048 1100000 1 0 5 [(0, 4294967295), (4, 4), (1, 1), (2, 2), (0, 4294967295)] = true := by decide +kernel
set_option maxRecDepth 100000 in
theorem mkA_33 : eCw false 185 [10, 6, 9030, 10630, 1, 1, 0] 1100000 (evT (eTab [(0, 4294967295), (4, 4), (2, 2), (2, 2), (0, 4294967295)] 0 5) spK 300000 60 222 23 [10, 6, 9030, 10630, 1, 0, 0] [] T0 665 1048467 0) (fun t9 _ _ _ => eTw 11 (RV 4) t9) = true := by decide +kernel
set_option maxRecDepth 100000 in
theorem mkB_33 : lawB 300000 185 [10, 6, 9030, 10630, 1, 1, 0] (RV 4) 2048 1100000 1 0 5 [(0, 4294967295), (4, 4), (2, 2), (2, 2), (0, 4294967295)] = true := by decide +kernel
set_option maxRecDepth 100000 in
theorem mkA_34 : eCw false 185 [10, 6, 9030, 10630, 1, 1, 0] 1100000 (evT (eTab [(0, 4294967295), (4, 4), (3, 3), (2, 2), (0, 4294967295)] 0 5) spK 300000 60 222 23 [10, 6, 9030, 10630, 1, 0, 0] [] T0 665 1048467 0) (fun t9 _ _ _ => eTw 11 (RV 6) t9) = true := by decide +kernel
set_option maxRecDepth 100000 in
theorem mkB_34 : lawB 300000 185 [10, 6, 9030, 10630, 1, 1, 0] (RV 6) 2048 1100000 1 0 5 [(0, 4294967295), (4, 4), (3, 3), (2, 2), (0, 4294967295)] = true := by decide +kernel
set_option maxRecDepth 100000 in
theorem mkA_35 : eCw false 185 [10, 6, 9030, 10630, 1, 1, 0] 1100000 (evT (eTab [(0, 4294967295), (4, 4), (4, 4), (2, 2), (0, 4294967295)] 0 5) spK 300000 60 222 23 [10, 6, 9030, 10630, 1, 0, 0] [] T0 665 1048467 0) (fun t9 _ _ _ => eTw 11 (RV 8) t9) = true := by decide +kernel
set_option maxRecDepth 100000 in
theorem mkB_35 : lawB 300000 185 [10, 6, 9030, 10630, 1, 1, 0] (RV 8) 2048 1100000 1 0 5 [(0, 4294967295), (4, 4), (4, 4), (2, 2), (0, 4294967295)] = true := by decide +kernel
set_option maxRecDepth 100000 in
theorem mkA_36 : eCw false 185 [10, 6, 9030, 10630, 1, 1, 0] 1100000 (evT (eTab [(0, 4294967295), (5, 5), (1, 1), (2, 2), (0, 4294967295)] 0 5) spK 300000 60 222 23 [10, 6, 9030, 10630, 1, 0, 0] [] T0 665 1048467 0) (fun t9 _ _ _ => eTw 11 (RV 2) t9) = true := by decide +kernel
set_option maxRecDepth 100000 in
theorem mkB_36 : lawB 300000 185 [10, 6, 9030, 10630, 1, 1, 0] (RV 2) 2048 1100000 1 0 5 [(0, 4294967295), (5, 5), (1, 1), (2, 2), (0, 4294967295)] = true := by decide +kernel
set_option maxRecDepth 100000 in
theorem mkA_37 : eCw false 185 [10, 6, 9030, 10630, 1, 1, 0] 1100000 (evT (eTab [(0, 4294967295), (5, 5), (2, 2), (2, 2), (0, 4294967295)] 0 5) spK 300000 60 222 23 [10, 6, 9030, 10630, 1, 0, 0] [] T0 665 1048467 0) (fun t9 _ _ _ => eTw 11 (RV 4) t9) = true := by decide +kernel
set_option maxRecDepth 100000 in
theorem mkB_37 : lawB 300000 185 [10, 6, 9030, 10630, 1, 1, 0] (RV 4) 2048 1100000 1 0 5 [(0, 4294967295), (5, 5), (2, 2), (2, 2), (0, 4294967295)] = true := by decide +kernel
set_option maxRecDepth 100000 in
theorem mkA_38 : eCw false 185 [10, 6, 9030, 10630, 1, 1, 0] 1100000 (evT (eTab [(0, 4294967295), (5, 5), (3, 3), (2, 2), (0, 4294967295)] 0 5) spK 300000 60 222 23 [10, 6, 9030, 10630, 1, 0, 0] [] T0 665 1048467 0) (fun t9 _ _ _ => eTw 11 (RV 6) t9) = true := by decide +kernel
set_option maxRecDepth 100000 in
theorem mkB_38 : lawB 300000 185 [10, 6, 9030, 10630, 1, 1, 0] (RV 6) 2048 1100000 1 0 5 [(0, 4294967295), (5, 5), (3, 3), (2, 2), (0, 4294967295)] = true := by decide +kernel

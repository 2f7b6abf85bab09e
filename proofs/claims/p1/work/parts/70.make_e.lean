set_option maxRecDepth 100000 in
theorem mkA_47 : eCw false 185 [10, 6, 9030, 10630, 1, 1, 0] 1100000 (evT (eTab [(0, 4294967295), (4, 4), (3, 3), (3, 3), (0, 4294967295)] 0 5) spK 300000 60 222 23 [10, 6, 9030, 10630, 1, 0, 0] [] T0 665 1048467 0) (fun t9 _ _ _ => eTw 11 (RV 9) t9) = true := by decide +kernel
set_option maxRecDepth 100000 in
theorem mkB_47 : lawB 300000 185 [10, 6, 9030, 10630, 1, 1, 0] (RV 9) 2048 1100000 1 0 5 [(0, 4294967295), (4, 4), (3, 3), (3, 3), (0, 4294967295)] = true := by decide +kernel
set_option maxRecDepth 100000 in
theorem mkA_48 : eCw false 185 [10, 6, 9030, 10630, 1, 1, 0] 1100000 (evT (eTab [(0, 4294967295), (4, 4), (4, 4), (3, 3), (0, 4294967295)] 0 5) spK 300000 60 222 23 [10, 6, 9030, 10630, 1, 0, 0] [] T0 665 1048467 0) (fun t9 _ _ _ => eTw 11 (RV 12) t9) = true := by decide +kernel
set_option maxRecDepth 100000 in
theorem mkB_48 : lawB 300000 185 [10, 6, 9030, 10630, 1, 1, 0] (RV 12) 2048 1100000 1 0 5 [(0, 4294967295), (4, 4), (4, 4), (3, 3), (0, 4294967295)] = true := by decide +kernel
set_option maxRecDepth 100000 in
theorem mkA_49 : eCw false 185 [10, 6, 9030, 10630, 1, 1, 0] 1100000 (evT (eTab [(0, 4294967295), (5, 5), (1, 1), (3, 3), (0, 4294967295)] 0 5) spK 300000 60 222 23 [10, 6, 9030, 10630, 1, 0, 0] [] T0 665 1048467 0) (fun t9 _ _ _ => eTw 11 (RV 3) t9) = true := by decide +kernel
set_option maxRecDepth 100000 in
theorem mkB_49 : lawB 300000 185 [10, 6, 9030, 10630, 1, 1, 0] (RV 3) 2048 1100000 1 0 5 [(0, 4294967295), (5, 5), (1, 1), (3, 3), (0, 4294967295)] = true := by decide +kernel
set_option maxRecDepth 100000 in
theorem mkA_50 : eCw false 185 [10, 6, 9030, 10630, 1, 1, 0] 1100000 (evT (eTab [(0, 4294967295), (5, 5), (2, 2), (3, 3), (0, 4294967295)] 0 5) spK 300000 60 222 23 [10, 6, 9030, 10630, 1, 0, 0] [] T0 665 1048467 0) (fun t9 _ _ _ => eTw 11 (RV 6) t9) = true := by decide +kernel
set_option maxRecDepth 100000 in
theorem mkB_50 : lawB 300000 185 [10, 6, 9030, 10630, 1, 1, 0] (RV 6) 2048 1100000 1 0 5 [(0, 4294967295), (5, 5), (2, 2), (3, 3), (0, 4294967295)] = true := by decide +kernel
set_option maxRecDepth 100000 in
theorem mkA_51 : eCw false 185 [10, 6, 9030, 10630, 1, 1, 0] 1100000 (evT (eTab [(0, 4294967295), (5, 5), (3, 3), (3, 3), (0, 4294967295)] 0 5) spK 300000 60 222 23 [10, 6, 9030, 10630, 1, 0, 0] [] T0 665 1048467 0) (fun t9 _ _ _ => eTw 11 (RV 9) t9) = true := by decide +kernel
set_option maxRecDepth 100000 in
theorem mkB_51 : lawB 300000 185 [10, 6, 9030, 10630, 1, 1, 0] (RV 9) 2048 1100000 1 0 5 [(0, 4294967295), (5, 5), (3, 3), (3, 3), (0, 4294967295)] = true := by decide +kernel

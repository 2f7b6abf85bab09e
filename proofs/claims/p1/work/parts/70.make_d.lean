set_option maxRecDepth 100000 in
theorem mkA_39 : eCw false 185 [10, 6, 9030, 10630, 1, 1, 0] 1100000 (evT (eTab [(0, 4294967295), (5, 5), (4, 4), (2, 2), (0, 4294967295)] 0 5) spK 300000 60 222 23 [10, 6, 9030, 10630, 1, 0, 0] [] T0 665 1048467 0) (fun t9 _ _ _ => eTw 11 (RV 8) t9) = true := by decide +kernel
set_option maxRecDepth 100000 in
theorem mkB_39 : lawB 300000 185 [10, 6, 9030, 10630, 1, 1, 0] (RV 8) 2048 1100000 1 0 5 [(0, 4294967295), (5, 5), (4, 4), (2, 2), (0, 4294967295)] = true := by decide +kernel
theorem mkC_40 : lawB 300000 23 [10, 6, 9030, 10630, 1, 0, 0] T0 665 1048467 0 0 5 [(0, 4294967295), (1, 2), (1, 4), (3, 3), (0, 4294967295)] = true := by decide +kernel
set_option maxRecDepth 100000 in
theorem mkA_41 : eCw false 185 [10, 6, 9030, 10630, 1, 1, 0] 1100000 (evT (eTab [(0, 4294967295), (3, 3), (1, 1), (3, 3), (0, 4294967295)] 0 5) spK 300000 60 222 23 [10, 6, 9030, 10630, 1, 0, 0] [] T0 665 1048467 0) (fun t9 _ _ _ => eTw 11 (RV 3) t9) = true := by decide +kernel
set_option maxRecDepth 100000 in
theorem mkB_41 : lawB 300000 185 [10, 6, 9030, 10630, 1, 1, 0] (RV 3) 2048 1100000 1 0 5 [(0, 4294967295), (3, 3), (1, 1), (3, 3), (0, 4294967295)] = true := by decide +kernel
set_option maxRecDepth 100000 in
theorem mkA_42 : eCw false 185 [10, 6, 9030, 10630, 1, 1, 0] 1100000 (evT (eTab [(0, 4294967295), (3, 3), (2, 2), (3, 3), (0, 4294967295)] 0 5) spK 300000 60 222 23 [10, 6, 9030, 10630, 1, 0, 0] [] T0 665 1048467 0) (fun t9 _ _ _ => eTw 11 (RV 6) t9) = true := by decide +kernel
set_option maxRecDepth 100000 in
theorem mkB_42 : lawB 300000 185 [10, 6, 9030, 10630, 1, 1, 0] (RV 6) 2048 1100000 1 0 5 [(0, 4294967295), (3, 3), (2, 2), (3, 3), (0, 4294967295)] = true := by decide +kernel
set_option maxRecDepth 100000 in
theorem mkA_43 : eCw false 185 [10, 6, 9030, 10630, 1, 1, 0] 1100000 (evT (eTab [(0, 4294967295), (3, 3), (3, 3), (3, 3), (0, 4294967295)] 0 5) spK 300000 60 222 23 [10, 6, 9030, 10630, 1, 0, 0] [] T0 665 1048467 0) (fun t9 _ _ _ => eTw 11 (RV 9) t9) = true := by decide +kernel
set_option maxRecDepth 100000 in
theorem mkB_43 : lawB 300000 185 [10, 6, 9030, 10630, 1, 1, 0] (RV 9) 2048 1100000 1 0 5 [(0, 4294967295), (3, 3), (3, 3), (3, 3), (0, 4294967295)] = true := by decide +kernel
set_option maxRecDepth 100000 in
theorem mkA_44 : eCw false 185 [10, 6, 9030, 10630, 1, 1, 0] 1100000 (evT (eTab [(0, 4294967295), (3, 3), (4, 4), (3, 3), (0, 4294967295)] 0 5) spK 300000 60 222 23 [10, 6, 9030, 10630, 1, 0, 0] [] T0 665 1048467 0) (fun t9 _ _ _ => eTw 11 (RV 12) t9) = true := by decide +kernel
set_option maxRecDepth 100000 in
theorem mkB_44 : lawB 300000 185 [10, 6, 9030, 10630, 1, 1, 0] (RV 12) 2048 1100000 1 0 5 [(0, 4294967295), (3, 3), (4, 4), (3, 3), (0, 4294967295)] = true := by decide +kernel
set_option maxRecDepth 100000 in
theorem mkA_45 : eCw false 185 [10, 6, 9030, 10630, 1, 1, 0] 1100000 (evT (eTab [(0, 4294967295), (4, 4), (1, 1), (3, 3), (0, 4294967295)] 0 5) spK 300000 60 222 23 [10, 6, 9030, 10630, 1, 0, 0] [] T0 665 1048467 0) (fun t9 _ _ _ => eTw 11 (RV 3) t9) = true := by decide +kernel
set_option maxRecDepth 100000 in
theorem mkB_45 : lawB 300000 185 [10, 6, 9030, 10630, 1, 1, 0] (RV 3) 2048 1100000 1 0 5 [(0, 4294967295), (4, 4), (1, 1), (3, 3), (0, 4294967295)] = true := by decide +kernel
set_option maxRecDepth 100000 in
theorem mkA_46 : eCw false 185 [10, 6, 9030, 10630, 1, 1, 0] 1100000 (evT (eTab [(0, 4294967295), (4, 4), (2, 2), (3, 3), (0, 4294967295)] 0 5) spK 300000 60 222 23 [10, 6, 9030, 10630, 1, 0, 0] [] T0 665 1048467 0) (fun t9 _ _ _ => eTw 11 (RV 6) t9) = true := by decide +kernel
set_option maxRecDepth 100000 in
theorem mkB_46 : lawB 300000 185 [10, 6, 9030, 10630, 1, 1, 0] (RV 6) 2048 1100000 1 0 5 [(0, 4294967295), (4, 4), (2, 2), (3, 3), (0, 4294967295)] = true := by decide +kernel

/-! ===== make ===== -/
noncomputable def spK (dd i pc : Nat) : Bool := cnd (Nat.beq dd 60) (cnd (Nat.beq i 222) (Nat.beq pc 185) false) false
noncomputable def RV (v : Nat) : eX := eSetK 40 R0 (eKy 664 1) (eLg v) id
theorem mkC_0 : lawB 300000 23 [10, 6, 9030, 10630, 1, 0, 0] T0 665 1048467 0 0 5 [(0, 4294967295), (0, 0), (0, 4294967295), (0, 4294967295), (0, 4294967295)] = true := by decide +kernel
theorem mkC_1 : lawB 300000 23 [10, 6, 9030, 10630, 1, 0, 0] T0 665 1048467 0 0 5 [(0, 4294967295), (1, 5), (0, 0), (0, 4294967295), (0, 4294967295)] = true := by decide +kernel
theorem mkC_2 : lawB 300000 23 [10, 6, 9030, 10630, 1, 0, 0] T0 665 1048467 0 0 5 [(0, 4294967295), (1, 5), (1, 4), (0, 0), (0, 4294967295)] = true := by decide +kernel
set_option maxRecDepth 100000 in
theorem mkA_3 : eCw false 185 [10, 6, 9030, 10630, 1, 1, 0] 1100000 (evT (eTab [(0, 4294967295), (1, 1), (1, 1), (1, 1), (0, 4294967295)] 0 5) spK 300000 60 222 23 [10, 6, 9030, 10630, 1, 0, 0] [] T0 665 1048467 0) (fun t9 _ _ _ => eTw 11 (RV 1) t9) = true := by decide +kernel
set_option maxRecDepth 100000 in
theorem mkB_3 : lawB 300000 185 [10, 6, 9030, 10630, 1, 1, 0] (RV 1) 2048 1100000 1 0 5 [(0, 4294967295), (1, 1), (1, 1), (1, 1), (0, 4294967295)] = true := by decide +kernel
set_option maxRecDepth 100000 in
theorem mkA_4 : eCw false 185 [10, 6, 9030, 10630, 1, 1, 0] 1100000 (evT (eTab [(0, 4294967295), (2, 2), (1, 1), (1, 1), (0, 4294967295)] 0 5) spK 300000 60 222 23 [10, 6, 9030, 10630, 1, 0, 0] [] T0 665 1048467 0) (fun t9 _ _ _ => eTw 11 (RV 1) t9) = true := by decide +kernel
set_option maxRecDepth 100000 in
theorem mkB_4 : lawB 300000 185 [10, 6, 9030, 10630, 1, 1, 0] (RV 1) 2048 1100000 1 0 5 [(0, 4294967295), (2, 2), (1, 1), (1, 1), (0, 4294967295)] = true := by decide +kernel
set_option maxRecDepth 100000 in
theorem mkA_5 : eCw false 185 [10, 6, 9030, 10630, 1, 1, 0] 1100000 (evT (eTab [(0, 4294967295), (3, 3), (1, 1), (1, 1), (0, 4294967295)] 0 5) spK 300000 60 222 23 [10, 6, 9030, 10630, 1, 0, 0] [] T0 665 1048467 0) (fun t9 _ _ _ => eTw 11 (RV 1) t9) = true := by decide +kernel
set_option maxRecDepth 100000 in
theorem mkB_5 : lawB 300000 185 [10, 6, 9030, 10630, 1, 1, 0] (RV 1) 2048 1100000 1 0 5 [(0, 4294967295), (3, 3), (1, 1), (1, 1), (0, 4294967295)] = true := by decide +kernel
set_option maxRecDepth 100000 in
theorem mkA_6 : eCw false 185 [10, 6, 9030, 10630, 1, 1, 0] 1100000 (evT (eTab [(0, 4294967295), (4, 4), (1, 1), (1, 1), (0, 4294967295)] 0 5) spK 300000 60 222 23 [10, 6, 9030, 10630, 1, 0, 0] [] T0 665 1048467 0) (fun t9 _ _ _ => eTw 11 (RV 1) t9) = true := by decide +kernel
set_option maxRecDepth 100000 in
theorem mkB_6 : lawB 300000 185 [10, 6, 9030, 10630, 1, 1, 0] (RV 1) 2048 1100000 1 0 5 [(0, 4294967295), (4, 4), (1, 1), (1, 1), (0, 4294967295)] = true := by decide +kernel
set_option maxRecDepth 100000 in
theorem mkA_7 : eCw false 185 [10, 6, 9030, 10630, 1, 1, 0] 1100000 (evT (eTab [(0, 4294967295), (5, 5), (1, 1), (1, 1), (0, 4294967295)] 0 5) spK 300000 60 222 23 [10, 6, 9030, 10630, 1, 0, 0] [] T0 665 1048467 0) (fun t9 _ _ _ => eTw 11 (RV 1) t9) = true := by decide +kernel
set_option maxRecDepth 100000 in
theorem mkB_7 : lawB 300000 185 [10, 6, 9030, 10630, 1, 1, 0] (RV 1) 2048 1100000 1 0 5 [(0, 4294967295), (5, 5), (1, 1), (1, 1), (0, 4294967295)] = true := by decide +kernel
set_option maxRecDepth 100000 in
theorem mkA_8 : eCw false 185 [10, 6, 9030, 10630, 1, 1, 0] 1100000 (evT (eTab [(0, 4294967295), (1, 1), (2, 2), (1, 1), (0, 4294967295)] 0 5) spK 300000 60 222 23 [10, 6, 9030, 10630, 1, 0, 0] [] T0 665 1048467 0) (fun t9 _ _ _ => eTw 11 (RV 2) t9) = true := by decide +kernel
set_option maxRecDepth 100000 in
theorem mkB_8 : lawB 300000 185 [10, 6, 9030, 10630, 1, 1, 0] (RV 2) 2048 1100000 1 0 5 [(0, 4294967295), (1, 1), (2, 2), (1, 1), (0, 4294967295)] = true := by decide +kernel
set_option maxRecDepth 100000 in
theorem mkA_9 : eCw false 185 [10, 6, 9030, 10630, 1, 1, 0] 1100000 (evT (eTab [(0, 4294967295), (2, 2), (2, 2), (1, 1), (0, 4294967295)] 0 5) spK 300000 60 222 23 [10, 6, 9030, 10630, 1, 0, 0] [] T0 665 1048467 0) (fun t9 _ _ _ => eTw 11 (RV 2) t9) = true := by decide +kernel
set_option maxRecDepth 100000 in
theorem mkB_9 : lawB 300000 185 [10, 6, 9030, 10630, 1, 1, 0] (RV 2) 2048 1100000 1 0 5 [(0, 4294967295), (2, 2), (2, 2), (1, 1), (0, 4294967295)] = true := by decide +kernel
set_option maxRecDepth 100000 in
theorem mkA_10 : eCw false 185 [10, 6, 9030, 10630, 1, 1, 0] 1100000 (evT (eTab [(0, 4294967295), (3, 3), (2, 2), (1, 1), (0, 4294967295)] 0 5) spK 300000 60 222 23 [10, 6, 9030, 10630, 1, 0, 0] [] T0 665 1048467 0) (fun t9 _ _ _ => eTw 11 (RV 2) t9) = true := by decide +kernel
set_option maxRecDepth 100000 in
theorem mkB_10 : lawB 300000 185 [10, 6, 9030, 10630, 1, 1, 0] (RV 2) 2048 1100000 1 0 5 [(0, 4294967295), (3, 3), (2, 2), (1, 1), (0, 4294967295)] = true := by decide +kernel
set_option maxRecDepth 100000 in
theorem mkA_11 : eCw false 185 [10, 6, 9030, 10630, 1, 1, 0] 1100000 (evT (eTab [(0, 4294967295), (4, 4), (2, 2), (1, 1), (0, 4294967295)] 0 5) spK 300000 60 222 23 [10, 6, 9030, 10630, 1, 0, 0] [] T0 665 1048467 0) (fun t9 _ _ _ => eTw 11 (RV 2) t9) = true := by decide +kernel
set_option maxRecDepth 100000 in
theorem mkB_11 : lawB 300000 185 [10, 6, 9030, 10630, 1, 1, 0] (RV 2) 2048 1100000 1 0 5 [(0, 4294967295), (4, 4), (2, 2), (1, 1), (0, 4294967295)] = true := by decide +kernel
set_option maxRecDepth 100000 in
theorem mkA_12 : eCw false 185 [10, 6, 9030, 10630, 1, 1, 0] 1100000 (evT (eTab [(0, 4294967295), (5, 5), (2, 2), (1, 1), (0, 4294967295)] 0 5) spK 300000 60 222 23 [10, 6, 9030, 10630, 1, 0, 0] [] T0 665 1048467 0) (fun t9 _ _ _ => eTw 11 (RV 2) t9) = true := by decide +kernel
set_option maxRecDepth 100000 in
theorem mkB_12 : lawB 300000 185 [10, 6, 9030, 10630, 1, 1, 0] (RV 2) 2048 1100000 1 0 5 [(0, 4294967295), (5, 5), (2, 2), (1, 1), (0, 4294967295)] = true := by decide +kernel
set_option maxRecDepth 100000 in
theorem mkA_13 : eCw false 185 [10, 6, 9030, 10630, 1, 1, 0] 1100000 (evT (eTab [(0, 4294967295), (1, 1), (3, 3), (1, 1), (0, 4294967295)] 0 5) spK 300000 60 222 23 [10, 6, 9030, 10630, 1, 0, 0] [] T0 665 1048467 0) (fun t9 _ _ _ => eTw 11 (RV 3) t9) = true := by decide +kernel
set_option maxRecDepth 100000 in
theorem mkB_13 : lawB 300000 185 [10, 6, 9030, 10630, 1, 1, 0] (RV 3) 2048 1100000 1 0 5 [(0, 4294967295), (1, 1), (3, 3), (1, 1), (0, 4294967295)] = true := by decide +kernel
set_option maxRecDepth 100000 in
theorem mkA_14 : eCw false 185 [10, 6, 9030, 10630, 1, 1, 0] 1100000 (evT (eTab [(0, 4294967295), (2, 2), (3, 3), (1, 1), (0, 4294967295)] 0 5) spK 300000 60 222 23 [10, 6, 9030, 10630, 1, 0, 0] [] T0 665 1048467 0) (fun t9 _ _ _ => eTw 11 (RV 3) t9) = true := by decide +kernel
set_option maxRecDepth 100000 in
theorem mkB_14 : lawB 300000 185 [10, 6, 9030, 10630, 1, 1, 0] (RV 3) 2048 1100000 1 0 5 [(0, 4294967295), (2, 2), (3, 3), (1, 1), (0, 4294967295)] = true := by decide +kernel
set_option maxRecDepth 100000 in
theorem mkA_15 : eCw false 185 [10, 6, 9030, 10630, 1, 1, 0] 1100000 (evT (eTab [(0, 4294967295), (3, 3), (3, 3), (1, 1), (0, 4294967295)] 0 5) spK 300000 60 222 23 [10, 6, 9030, 10630, 1, 0, 0] [] T0 665 1048467 0) (fun t9 _ _ _ => eTw 11 (RV 3) t9) = true := by decide +kernel
set_option maxRecDepth 100000 in
theorem mkB_15 : lawB 300000 185 [10, 6, 9030, 10630, 1, 1, 0] (RV 3) 2048 1100000 1 0 5 [(0, 4294967295), (3, 3), (3, 3), (1, 1), (0, 4294967295)] = true := by decide +kernel
set_option maxRecDepth 100000 in
theorem mkA_16 : eCw false 185 [10, 6, 9030, 10630, 1, 1, 0] 1100000 (evT (eTab [(0, 4294967295), (4, 4), (3, 3), (1, 1), (0, 4294967295)] 0 5) spK 300000 60 222 23 [10, 6, 9030, 10630, 1, 0, 0] [] T0 665 1048467 0) (fun t9 _ _ _ => eTw 11 (RV 3) t9) = true := by decide +kernel
set_option maxRecDepth 100000 in
theorem mkB_16 : lawB 300000 185 [10, 6, 9030, 10630, 1, 1, 0] (RV 3) 2048 1100000 1 0 5 [(0, 4294967295), (4, 4), (3, 3), (1, 1), (0, 4294967295)] = true := by decide +kernel
set_option maxRecDepth 100000 in
theorem mkA_17 : eCw false 185 [10, 6, 9030, 10630, 1, 1, 0] 1100000 (evT (eTab [(0, 4294967295), (5, 5), (3, 3), (1, 1), (0, 4294967295)] 0 5) spK 300000 60 222 23 [10, 6, 9030, 10630, 1, 0, 0] [] T0 665 1048467 0) (fun t9 _ _ _ => eTw 11 (RV 3) t9) = true := by decide +kernel
set_option maxRecDepth 100000 in
theorem mkB_17 : lawB 300000 185 [10, 6, 9030, 10630, 1, 1, 0] (RV 3) 2048 1100000 1 0 5 [(0, 4294967295), (5, 5), (3, 3), (1, 1), (0, 4294967295)] = true := by decide +kernel
set_option maxRecDepth 100000 in
theorem mkA_18 : eCw false 185 [10, 6, 9030, 10630, 1, 1, 0] 1100000 (evT (eTab [(0, 4294967295), (1, 1), (4, 4), (1, 1), (0, 4294967295)] 0 5) spK 300000 60 222 23 [10, 6, 9030, 10630, 1, 0, 0] [] T0 665 1048467 0) (fun t9 _ _ _ => eTw 11 (RV 4) t9) = true := by decide +kernel
set_option maxRecDepth 100000 in
theorem mkB_18 : lawB 300000 185 [10, 6, 9030, 10630, 1, 1, 0] (RV 4) 2048 1100000 1 0 5 [(0, 4294967295), (1, 1), (4, 4), (1, 1), (0, 4294967295)] = true := by decide +kernel
set_option maxRecDepth 100000 in
theorem mkA_19 : eCw false 185 [10, 6, 9030, 10630, 1, 1, 0] 1100000 (evT (eTab [(0, 4294967295), (2, 2), (4, 4), (1, 1), (0, 4294967295)] 0 5) spK 300000 60 222 23 [10, 6, 9030, 10630, 1, 0, 0] [] T0 665 1048467 0) (fun t9 _ _ _ => eTw 11 (RV 4) t9) = true := by decide +kernel
set_option maxRecDepth 100000 in
theorem mkB_19 : lawB 300000 185 [10, 6, 9030, 10630, 1, 1, 0] (RV 4) 2048 1100000 1 0 5 [(0, 4294967295), (2, 2), (4, 4), (1, 1), (0, 4294967295)] = true := by decide +kernel
set_option maxRecDepth 100000 in
theorem mkA_20 : eCw false 185 [10, 6, 9030, 10630, 1, 1, 0] 1100000 (evT (eTab [(0, 4294967295), (3, 3), (4, 4), (1, 1), (0, 4294967295)] 0 5) spK 300000 60 222 23 [10, 6, 9030, 10630, 1, 0, 0] [] T0 665 1048467 0) (fun t9 _ _ _ => eTw 11 (RV 4) t9) = true := by decide +kernel
set_option maxRecDepth 100000 in
theorem mkB_20 : lawB 300000 185 [10, 6, 9030, 10630, 1, 1, 0] (RV 4) 2048 1100000 1 0 5 [(0, 4294967295), (3, 3), (4, 4), (1, 1), (0, 4294967295)] = true := by decide +kernel

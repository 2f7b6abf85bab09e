/-! memories that are the same -/
theorem kM_ext {M M1 : kM} (h1 : tg M = tg M1) (h2 : ln M = ln M1) (h3 : fi M = fi M1) (h4 : fl M = fl M1) (h5 : fr M = fr M1) (h6 : ai M = ai M1) (h7 : al M = al M1) (h8 : ar M = ar M1) (h9 : nx M = nx M1) : M = M1 := by
  obtain ⟨a1, a2, a3, a4, a5, a6, a7, a8, a9⟩ := M
  obtain ⟨b1, b2, b3, b4, b5, b6, b7, b8, b9⟩ := M1
  cases h1; cases h2; cases h3; cases h4; cases h5; cases h6; cases h7; cases h8; cases h9
  rfl
theorem wai_self (M : kM) (a : Nat) {h : Nat → Int32} (e : ∀ j, h j = ai M a j) : M = wai M a h := by
  refine kM_ext rfl rfl rfl rfl rfl ?_ rfl rfl rfl
  funext b j
  show ai M b j = zr2 (ai M) a h b j
  unfold zr2
  split
  · rename_i hb; rw [hb, e j]
  · rfl
theorem sai_wai {M : kM} {a i : Nat} {v : Int32} {f h : Nat → Int32} (e : ∀ j, h j = if j = i then v else f j) : sai (wai M a f) a i v = wai M a h := by
  refine kM_ext rfl rfl rfl rfl rfl ?_ rfl rfl rfl
  funext b j
  show up2 (zr2 (ai M) a f) a i v b j = zr2 (ai M) a h b j
  unfold up2 zr2
  by_cases hb : b = a
  · simp [hb, e j]
  · simp [hb]
set_option maxHeartbeats 4000000 in
set_option maxRecDepth 100000 in
theorem c_rangeCheck (l : Launch) (g : kG) (hst : l.stackTraces = false) (M : kM) (a b c : Nat) (hc : c < 1000000000) (ha : a < 1000000000) (h1 : a ≤ b) (h2 : b ≤ c) : kC l g yJ7_rangeCheck_23922 cJ7_rangeCheck_23922 3 none [] 0 0 0 [.int (nI c), .int (nI a), .int (nI b)] M (fun v M1 => v = none ∧ M1 = M) (fun _ _ => False) := by
  refine kC_of hst (by decide) (Nat.le_of_ble_eq_true rfl) ?_
  show kT l g _ _ _ _ _ _ _ _ _ _ 0 [(0, .int (nI c)), (1, .int (nI a)), (2, .int (nI b))] [] M _ _
  refine kT_iload_n dJ7_rangeCheck_23922_0 rfl ?_
  refine kT_iload_n dJ7_rangeCheck_23922_1 rfl ?_
  refine kT_icmp_leN (tgt := 46) dJ7_rangeCheck_23922_2 rfl (by omega) (by omega) (fun h3 => ?_) (fun h3 => ?_)
  · skip
    refine kT_iload_n dJ7_rangeCheck_23922_46 rfl ?_
    refine kT_if_geN (tgt := 59) dJ7_rangeCheck_23922_47 rfl (by omega) ?_
    refine kT_iload_n dJ7_rangeCheck_23922_59 rfl ?_
    refine kT_iload_n dJ7_rangeCheck_23922_60 rfl ?_
    refine kT_icmp_leN (tgt := 73) dJ7_rangeCheck_23922_61 rfl (by omega) (by omega) (fun h4 => ?_) (fun h4 => ?_)
    · skip
      refine kT_return dJ7_rangeCheck_23922_73 rfl ?_
      exact ⟨rfl, rfl⟩
    · skip
      omega
  · skip
    omega

set_option maxHeartbeats 4000000 in
set_option maxRecDepth 100000 in
theorem c_fillI (l : Launch) (g : kG) (hst : l.stackTraces = false) (M : kM) (a n : Nat) (x : Int32) (ht : tg M a = 101) (hn : ln M a = n) (hb : n < 1000000000) : kC l g yJ7_fill_53178 cJ7_fill_53178 4 none [] 0 0 0 [.ref a, .int x] M (fun v M1 => v = none ∧ M1 = wai M a (fun j => if j < n then x else ai M a j)) (fun _ _ => False) := by
  refine kC_of hst (by decide) (Nat.le_of_ble_eq_true rfl) ?_
  show kT l g _ _ _ _ _ _ _ _ _ _ 0 [(0, .ref a), (1, .int x)] [] M _ _
  have lp : ∀ (m9 : Nat) (i : Nat), n - i = m9 → i ≤ n → kT l g yJ7_fill_53178 cJ7_fill_53178 4 none [] 0 0 0 (fun v M1 => v = none ∧ M1 = wai M a (fun j => if j < n then x else ai M a j)) (fun _ _ => False) 5 [(0, .ref a), (1, .int x), (2, .int (nI i)), (3, .int (nI n))] [] (wai M a (fun j => if j < i then x else ai M a j)) 0 0 := by
    intro m9
    induction m9 using Nat.strongRecOn with
    | _ m9 ih =>
      intro i hm hi
      refine kT_iload_n dJ7_fill_53178_5 rfl ?_
      refine kT_iload_n dJ7_fill_53178_6 rfl ?_
      refine kT_icmp_geN (tgt := 20) dJ7_fill_53178_7 rfl (by omega) (by omega) (fun h1 => ?_) (fun h1 => ?_)
      · skip
        refine kT_return dJ7_fill_53178_20 rfl ?_
        exact ⟨rfl, congrArg (wai M a) (funext fun j => by rw [show i = n by omega])⟩
      · skip
        refine kT_aload_n dJ7_fill_53178_10 rfl ?_
        refine kT_iload_n dJ7_fill_53178_11 rfl ?_
        refine kT_iload_n dJ7_fill_53178_12 rfl ?_
        refine kT_iastN dJ7_fill_53178_13 ht (show i < ln M a from by rw [hn]; omega) ?_
        refine kT_locals (lv9 := [(0, .ref a), (1, .int x), (2, .int (nI i)), (3, .int (nI n))]) (by simp [kSet, kSet2, lv_args, Value.category]) ?_
        refine kT_iinc (k0 := 2) (v := nI (i + 1)) dJ7_fill_53178_14 rfl (by rw [← nI_add]; rfl) (by decide) rfl ?_
        refine kT_goto (tgt := 5) dJ7_fill_53178_17 rfl ?_
        refine kT_mem (M1 := wai M a (fun j => if j < i + 1 then x else ai M a j)) (sai_wai (fun j => ?_)) ?_
        · by_cases h2 : j = i
          · rw [if_pos h2, if_pos (by omega)]
          · rw [if_neg h2]
            by_cases h3 : j < i
            · rw [if_pos h3, if_pos (by omega)]
            · rw [if_neg h3, if_neg (by omega)]
        refine kT_locals (lv9 := [(0, .ref a), (1, .int x), (2, .int (nI (i + 1))), (3, .int (nI n))]) (by simp [kSet, kSet2, lv_args, Value.category]) ?_
        exact ih (m9 - 1) (by omega) (i + 1) (by omega) (by omega)
  refine kT_iconst (v := nI 0) dJ7_fill_53178_0 (by decide) ?_
  refine kT_istore_n (i0 := 2) dJ7_fill_53178_1 rfl (by decide) rfl ?_
  refine kT_aload_n dJ7_fill_53178_2 rfl ?_
  refine kT_alen (t := 0) dJ7_fill_53178_3 ht (by decide) ?_
  rw [hn]
  refine kT_istore_n (i0 := 3) dJ7_fill_53178_4 rfl (by decide) rfl ?_
  refine kT_locals (lv9 := [(0, .ref a), (1, .int x), (2, .int (nI 0)), (3, .int (nI n))]) (by simp [kSet, kSet2, lv_args, Value.category]) ?_
  refine kT_mem (wai_self M a (h := fun j => if j < 0 then x else ai M a j) (fun j => by rw [if_neg (Nat.not_lt_zero j)])) ?_
  exact lp n 0 (by omega) (by omega)

set_option maxHeartbeats 4000000 in
set_option maxRecDepth 100000 in
theorem c_fillB (l : Launch) (g : kG) (hst : l.stackTraces = false) (M : kM) (a n : Nat) (x : Int32) (ht : tg M a = 103) (hn : ln M a = n) (hb : n < 1000000000) : kC l g yJ7_fill_031fb cJ7_fill_031fb 4 none [] 0 0 0 [.ref a, .int x] M (fun v M1 => v = none ∧ M1 = wai M a (fun j => if j < n then x.toInt8.toInt32 else ai M a j)) (fun _ _ => False) := by
  refine kC_of hst (by decide) (Nat.le_of_ble_eq_true rfl) ?_
  show kT l g _ _ _ _ _ _ _ _ _ _ 0 [(0, .ref a), (1, .int x)] [] M _ _
  have lp : ∀ (m9 : Nat) (i : Nat), n - i = m9 → i ≤ n → kT l g yJ7_fill_031fb cJ7_fill_031fb 4 none [] 0 0 0 (fun v M1 => v = none ∧ M1 = wai M a (fun j => if j < n then x.toInt8.toInt32 else ai M a j)) (fun _ _ => False) 5 [(0, .ref a), (1, .int x), (2, .int (nI i)), (3, .int (nI n))] [] (wai M a (fun j => if j < i then x.toInt8.toInt32 else ai M a j)) 0 0 := by
    intro m9
    induction m9 using Nat.strongRecOn with
    | _ m9 ih =>
      intro i hm hi
      refine kT_iload_n dJ7_fill_031fb_5 rfl ?_
      refine kT_iload_n dJ7_fill_031fb_6 rfl ?_
      refine kT_icmp_geN (tgt := 20) dJ7_fill_031fb_7 rfl (by omega) (by omega) (fun h1 => ?_) (fun h1 => ?_)
      · skip
        refine kT_return dJ7_fill_031fb_20 rfl ?_
        exact ⟨rfl, congrArg (wai M a) (funext fun j => by rw [show i = n by omega])⟩
      · skip
        refine kT_aload_n dJ7_fill_031fb_10 rfl ?_
        refine kT_iload_n dJ7_fill_031fb_11 rfl ?_
        refine kT_iload_n dJ7_fill_031fb_12 rfl ?_
        refine kT_bastN dJ7_fill_031fb_13 ht (show i < ln M a from by rw [hn]; omega) ?_
        refine kT_locals (lv9 := [(0, .ref a), (1, .int x), (2, .int (nI i)), (3, .int (nI n))]) (by simp [kSet, kSet2, lv_args, Value.category]) ?_
        refine kT_iinc (k0 := 2) (v := nI (i + 1)) dJ7_fill_031fb_14 rfl (by rw [← nI_add]; rfl) (by decide) rfl ?_
        refine kT_goto (tgt := 5) dJ7_fill_031fb_17 rfl ?_
        refine kT_mem (M1 := wai M a (fun j => if j < i + 1 then x.toInt8.toInt32 else ai M a j)) (sai_wai (fun j => ?_)) ?_
        · by_cases h2 : j = i
          · rw [if_pos h2, if_pos (by omega)]
          · rw [if_neg h2]
            by_cases h3 : j < i
            · rw [if_pos h3, if_pos (by omega)]
            · rw [if_neg h3, if_neg (by omega)]
        refine kT_locals (lv9 := [(0, .ref a), (1, .int x), (2, .int (nI (i + 1))), (3, .int (nI n))]) (by simp [kSet, kSet2, lv_args, Value.category]) ?_
        exact ih (m9 - 1) (by omega) (i + 1) (by omega) (by omega)
  refine kT_iconst (v := nI 0) dJ7_fill_031fb_0 (by decide) ?_
  refine kT_istore_n (i0 := 2) dJ7_fill_031fb_1 rfl (by decide) rfl ?_
  refine kT_aload_n dJ7_fill_031fb_2 rfl ?_
  refine kT_alen (t := 2) dJ7_fill_031fb_3 ht (by decide) ?_
  rw [hn]
  refine kT_istore_n (i0 := 3) dJ7_fill_031fb_4 rfl (by decide) rfl ?_
  refine kT_locals (lv9 := [(0, .ref a), (1, .int x), (2, .int (nI 0)), (3, .int (nI n))]) (by simp [kSet, kSet2, lv_args, Value.category]) ?_
  refine kT_mem (wai_self M a (h := fun j => if j < 0 then x.toInt8.toInt32 else ai M a j) (fun j => by rw [if_neg (Nat.not_lt_zero j)])) ?_
  exact lp n 0 (by omega) (by omega)


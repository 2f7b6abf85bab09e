theorem c_Disk_initR (l : Launch) (g : kG) (hst : l.stackTraces = false) (M : kM) (th wd : Nat) (ht : tg M th = 2) (hn : nx M = th + 1) : kC l g yX1_init cX1_init 2 none [] 10 1 12928 [.ref th, .ref wd] M (fun v M1 => v = none ∧ kGrow M M1 th 1 ∧ ShDisk M1 th wd) (fun _ _ => False) :=
  kC_mono (c_Disk_init l g hst M th wd ht (by omega)) (fun v M1 h => by obtain ⟨h1, h2⟩ := h; subst h2; exact ⟨h1, sh_Disk ht hn⟩) (fun _ _ h => h)
theorem c_Index_initR (l : Launch) (g : kG) (hst : l.stackTraces = false) (M : kM) (th wd : Nat) (ht : tg M th = 3) (hn : nx M = th + 1) : kC l g yX2_init cX2_init 2 none [] 10 21 1625 [.ref th, .ref wd] M (fun v M1 => v = none ∧ kGrow M M1 th 21 ∧ ShIndex M1 th wd) (fun _ _ => False) :=
  kC_mono (c_Index_init l g hst M th wd ht (by omega)) (fun v M1 h => by obtain ⟨h1, h2⟩ := h; subst h2; exact ⟨h1, sh_Index ht hn⟩) (fun _ _ h => h)
def ShCopy (M : kM) (th wd : Nat) : Prop := tg M th = 1 ∧ fr M th 0 = some wd ∧ fr M th 3 = some (th + 1) ∧ arrAt M (th + 1) 0 512 ∧ fr M th 4 = some (th + 2) ∧ arrAt M (th + 2) 0 512 ∧ fr M th 5 = some (th + 3) ∧ arrAt M (th + 3) 0 100 ∧ fr M th 6 = some (th + 4) ∧ arrAt M (th + 4) 0 63 ∧ fr M th 1 = some (th + 5) ∧ ShDisk M (th + 5) wd ∧ fr M th 2 = some (th + 7) ∧ ShIndex M (th + 7) wd
theorem ShCopy.kept {M M1 : kM} {th wd : Nat} (h : ShCopy M th wd) (hs : ∀ b, th ≤ b → b ≤ th + 28 → kSameAt M M1 b) : ShCopy M1 th wd := by
  obtain ⟨p0, p1, p2, p3, p4, p5, p6, p7, p8, p9, p10, p11, p12, p13⟩ := h
  have h0 := hs th (Nat.le_refl _) (by omega)
  exact ⟨h0.1.trans p0, by rw [h0.2.2.2.2.1]; exact p1, by rw [h0.2.2.2.2.1]; exact p2, p3.kept (hs _ (by omega) (by omega)), by rw [h0.2.2.2.2.1]; exact p4, p5.kept (hs _ (by omega) (by omega)), by rw [h0.2.2.2.2.1]; exact p6, p7.kept (hs _ (by omega) (by omega)), by rw [h0.2.2.2.2.1]; exact p8, p9.kept (hs _ (by omega) (by omega)), by rw [h0.2.2.2.2.1]; exact p10, p11.kept (fun b h1 h2 => hs b (by omega) (by omega)), by rw [h0.2.2.2.2.1]; exact p12, p13.kept (fun b h1 h2 => hs b (by omega) (by omega))⟩
set_option maxHeartbeats 4000000 in
set_option maxRecDepth 100000 in
theorem c_Copy_initR (l : Launch) (g : kG) (hst : l.stackTraces = false) (M : kM) (th wd : Nat) (ht : tg M th = 1) (hn : nx M = th + 1) : kC l g yX0_init cX0_init 2 none [] 11 28 15757 [.ref th, .ref wd] M (fun v M1 => v = none ∧ kGrow M M1 th 28 ∧ ShCopy M1 th wd) (fun _ _ => False) := by
  refine kC_of hst (by decide) (Nat.le_of_ble_eq_true rfl) ?_
  show kT l g _ _ _ _ _ _ _ _ _ _ 0 [(0, .ref th), (1, .ref wd)] [] M _ _
  refine kT_aload_n dX0_init_0 rfl ?_
  refine kT_objInit dX0_init_1 km_X0_3 kob_1 kob_2 (by omega) (Nat.le_of_ble_eq_true rfl) ?_
  refine kT_aload_n dX0_init_4 rfl ?_
  refine kT_sipush (v := nI 512) dX0_init_5 (by decide) ?_
  refine kT_newa (t := 0) (n := 512) dX0_init_8 rfl (by decide) kar_0 (nI_toInt (by omega)) (by omega) (by omega) (by omega) (fun _ _ => ?_)
  show kT l g _ _ _ _ _ _ _ _ _ _ _ _ (.ref (nx M) :: _) _ _ _
  refine kT_putR (c := 0) (k0 := 3) (r0 := (some (nx M))) dX0_init_10 kf_X0_9 ((kOldU (show th < nx M by omega) ht)) (by decide) (by decide) (Or.inr ⟨rfl, rfl, rfl⟩) rfl rfl ?_
  refine kT_aload_n dX0_init_13 rfl ?_
  refine kT_sipush (v := nI 512) dX0_init_14 (by decide) ?_
  refine kT_newa (t := 0) (n := 512) dX0_init_17 rfl (by decide) kar_0 (nI_toInt (by omega)) (by omega) (by omega) (by omega) (fun _ _ => ?_)
  show kT l g _ _ _ _ _ _ _ _ _ _ _ _ (.ref (nx M + 1) :: _) _ _ _
  refine kT_putR (c := 0) (k0 := 4) (r0 := (some (nx M + 1))) dX0_init_19 kf_X0_15 ((kOldU (show th < nx M + 1 by omega) (kOldU (show th < nx M by omega) ht))) (by decide) (by decide) (Or.inr ⟨rfl, rfl, rfl⟩) rfl rfl ?_
  refine kT_aload_n dX0_init_22 rfl ?_
  refine kT_bipush (v := nI 100) dX0_init_23 (by decide) ?_
  refine kT_newa (t := 0) (n := 100) dX0_init_25 rfl (by decide) kar_0 (nI_toInt (by omega)) (by omega) (by omega) (by omega) (fun _ _ => ?_)
  show kT l g _ _ _ _ _ _ _ _ _ _ _ _ (.ref (nx M + 2) :: _) _ _ _
  refine kT_putR (c := 0) (k0 := 5) (r0 := (some (nx M + 2))) dX0_init_27 kf_X0_18 ((kOldU (show th < nx M + 2 by omega) (kOldU (show th < nx M + 1 by omega) (kOldU (show th < nx M by omega) ht)))) (by decide) (by decide) (Or.inr ⟨rfl, rfl, rfl⟩) rfl rfl ?_
  refine kT_aload_n dX0_init_30 rfl ?_
  refine kT_bipush (v := nI 63) dX0_init_31 (by decide) ?_
  refine kT_newa (t := 0) (n := 63) dX0_init_33 rfl (by decide) kar_0 (nI_toInt (by omega)) (by omega) (by omega) (by omega) (fun _ _ => ?_)
  show kT l g _ _ _ _ _ _ _ _ _ _ _ _ (.ref (nx M + 3) :: _) _ _ _
  refine kT_putR (c := 0) (k0 := 6) (r0 := (some (nx M + 3))) dX0_init_35 kf_X0_21 ((kOldU (show th < nx M + 3 by omega) (kOldU (show th < nx M + 2 by omega) (kOldU (show th < nx M + 1 by omega) (kOldU (show th < nx M by omega) ht))))) (by decide) (by decide) (Or.inr ⟨rfl, rfl, rfl⟩) rfl rfl ?_
  refine kT_aload_n dX0_init_38 rfl ?_
  refine kT_aload_n dX0_init_39 rfl ?_
  refine kT_putR (c := 0) (k0 := 0) (r0 := (some wd)) dX0_init_40 kf_X0_24 ((kOldU (show th < nx M + 3 by omega) (kOldU (show th < nx M + 2 by omega) (kOldU (show th < nx M + 1 by omega) (kOldU (show th < nx M by omega) ht))))) (by decide) (by decide) (Or.inr ⟨rfl, rfl, rfl⟩) rfl rfl ?_
  refine kT_aload_n dX0_init_43 rfl ?_
  refine kT_new (c := 1) dX0_init_44 (by decide) kcl_X0_28 kin_1 kzn_1 (by omega) (show 8 ≤ _ by omega) (fun _ _ => ?_)
  show kT l g _ _ _ _ _ _ _ _ _ _ _ _ (.ref (nx M + 4) :: _) _ (_ - 1) (_ - 8)
  generalize h5 : sfr (sfr (nwA (sfr (nwA (sfr (nwA (sfr (nwA M 0 512) th 3 (some (nx M))) 0 512) th 4 (some (nx M + 1))) 0 100) th 5 (some (nx M + 2))) 0 63) th 6 (some (nx M + 3))) th 0 (some wd) = X5
  have n5 : nx X5 = nx M + 4 := by rw [← h5]; rfl
  have t5 : tg X5 th = 1 := by rw [← h5]; exact (kOldU (show th < nx M + 3 by omega) (kOldU (show th < nx M + 2 by omega) (kOldU (show th < nx M + 1 by omega) (kOldU (show th < nx M by omega) ht))))
  have s5 : ∀ a, a < nx M → a ≠ th → kSameAt M X5 a := by
    intro a ha hne
    rw [← h5]
    (repeat first | with_reducible exact kSameAt.rf | with_reducible refine kSameAt.tr ?_ (kSame_sfr (by omega)) | with_reducible refine kSameAt.tr ?_ (kSame_sfi (by omega)) | with_reducible refine kSameAt.tr ?_ (kSame_nwA (by first | omega | (simp only [k_nx_sfi, k_nx_sfl, k_nx_sfr, k_nx_sai, k_nx_sal, k_nx_sar, k_nx_wai, k_nx_wal, k_nx_snx, k_nx_nwO, k_nx_nwA, k_nx_nwG]; omega))) | with_reducible refine kSameAt.tr ?_ (kSame_nwG (by first | omega | (simp only [k_nx_sfi, k_nx_sfl, k_nx_sfr, k_nx_sai, k_nx_sal, k_nx_sar, k_nx_wai, k_nx_wal, k_nx_snx, k_nx_nwO, k_nx_nwA, k_nx_nwG]; omega))) | with_reducible refine kSameAt.tr ?_ (kSame_nwO (by first | omega | (simp only [k_nx_sfi, k_nx_sfl, k_nx_sfr, k_nx_sai, k_nx_sal, k_nx_sar, k_nx_wai, k_nx_wal, k_nx_snx, k_nx_nwO, k_nx_nwA, k_nx_nwG]; omega))))
  have i5 : fi X5 th = fi M th := by rw [← h5]; simp only [k_fi_sfr, k_fi_nwA]
  have r5_3 : fr X5 th 3 = some (th + 1) := by
    rw [← h5]
    (repeat first | with_reducible exact fr_at (by first | omega | (simp only [k_nx_sfi, k_nx_sfl, k_nx_sfr, k_nx_sai, k_nx_sal, k_nx_sar, k_nx_wai, k_nx_wal, k_nx_snx, k_nx_nwO, k_nx_nwA, k_nx_nwG]; omega)) | with_reducible refine fr_sfr ?_ (by decide) | with_reducible refine fr_nwA ?_ (by first | omega | (simp only [k_nx_sfi, k_nx_sfl, k_nx_sfr, k_nx_sai, k_nx_sal, k_nx_sar, k_nx_wai, k_nx_wal, k_nx_snx, k_nx_nwO, k_nx_nwA, k_nx_nwG]; omega)) | with_reducible refine fr_nwG ?_)
  have a5_3 : arrAt X5 (th + 1) 0 512 := by
    rw [← h5]
    (repeat first | with_reducible exact arr_new (by first | omega | (simp only [k_nx_sfi, k_nx_sfl, k_nx_sfr, k_nx_sai, k_nx_sal, k_nx_sar, k_nx_wai, k_nx_wal, k_nx_snx, k_nx_nwO, k_nx_nwA, k_nx_nwG]; omega)) | with_reducible refine arrAt.kept ?_ (kSame_sfr (by omega)) | with_reducible refine arrAt.kept ?_ (kSame_sfi (by omega)) | with_reducible refine arrAt.kept ?_ (kSame_nwA (by first | omega | (simp only [k_nx_sfi, k_nx_sfl, k_nx_sfr, k_nx_sai, k_nx_sal, k_nx_sar, k_nx_wai, k_nx_wal, k_nx_snx, k_nx_nwO, k_nx_nwA, k_nx_nwG]; omega))) | with_reducible refine arrAt.kept ?_ (kSame_nwG (by first | omega | (simp only [k_nx_sfi, k_nx_sfl, k_nx_sfr, k_nx_sai, k_nx_sal, k_nx_sar, k_nx_wai, k_nx_wal, k_nx_snx, k_nx_nwO, k_nx_nwA, k_nx_nwG]; omega))))
  have r5_4 : fr X5 th 4 = some (th + 2) := by
    rw [← h5]
    (repeat first | with_reducible exact fr_at (by first | omega | (simp only [k_nx_sfi, k_nx_sfl, k_nx_sfr, k_nx_sai, k_nx_sal, k_nx_sar, k_nx_wai, k_nx_wal, k_nx_snx, k_nx_nwO, k_nx_nwA, k_nx_nwG]; omega)) | with_reducible refine fr_sfr ?_ (by decide) | with_reducible refine fr_nwA ?_ (by first | omega | (simp only [k_nx_sfi, k_nx_sfl, k_nx_sfr, k_nx_sai, k_nx_sal, k_nx_sar, k_nx_wai, k_nx_wal, k_nx_snx, k_nx_nwO, k_nx_nwA, k_nx_nwG]; omega)) | with_reducible refine fr_nwG ?_)
  have a5_4 : arrAt X5 (th + 2) 0 512 := by
    rw [← h5]
    (repeat first | with_reducible exact arr_new (by first | omega | (simp only [k_nx_sfi, k_nx_sfl, k_nx_sfr, k_nx_sai, k_nx_sal, k_nx_sar, k_nx_wai, k_nx_wal, k_nx_snx, k_nx_nwO, k_nx_nwA, k_nx_nwG]; omega)) | with_reducible refine arrAt.kept ?_ (kSame_sfr (by omega)) | with_reducible refine arrAt.kept ?_ (kSame_sfi (by omega)) | with_reducible refine arrAt.kept ?_ (kSame_nwA (by first | omega | (simp only [k_nx_sfi, k_nx_sfl, k_nx_sfr, k_nx_sai, k_nx_sal, k_nx_sar, k_nx_wai, k_nx_wal, k_nx_snx, k_nx_nwO, k_nx_nwA, k_nx_nwG]; omega))) | with_reducible refine arrAt.kept ?_ (kSame_nwG (by first | omega | (simp only [k_nx_sfi, k_nx_sfl, k_nx_sfr, k_nx_sai, k_nx_sal, k_nx_sar, k_nx_wai, k_nx_wal, k_nx_snx, k_nx_nwO, k_nx_nwA, k_nx_nwG]; omega))))
  have r5_5 : fr X5 th 5 = some (th + 3) := by
    rw [← h5]
    (repeat first | with_reducible exact fr_at (by first | omega | (simp only [k_nx_sfi, k_nx_sfl, k_nx_sfr, k_nx_sai, k_nx_sal, k_nx_sar, k_nx_wai, k_nx_wal, k_nx_snx, k_nx_nwO, k_nx_nwA, k_nx_nwG]; omega)) | with_reducible refine fr_sfr ?_ (by decide) | with_reducible refine fr_nwA ?_ (by first | omega | (simp only [k_nx_sfi, k_nx_sfl, k_nx_sfr, k_nx_sai, k_nx_sal, k_nx_sar, k_nx_wai, k_nx_wal, k_nx_snx, k_nx_nwO, k_nx_nwA, k_nx_nwG]; omega)) | with_reducible refine fr_nwG ?_)
  have a5_5 : arrAt X5 (th + 3) 0 100 := by
    rw [← h5]
    (repeat first | with_reducible exact arr_new (by first | omega | (simp only [k_nx_sfi, k_nx_sfl, k_nx_sfr, k_nx_sai, k_nx_sal, k_nx_sar, k_nx_wai, k_nx_wal, k_nx_snx, k_nx_nwO, k_nx_nwA, k_nx_nwG]; omega)) | with_reducible refine arrAt.kept ?_ (kSame_sfr (by omega)) | with_reducible refine arrAt.kept ?_ (kSame_sfi (by omega)) | with_reducible refine arrAt.kept ?_ (kSame_nwA (by first | omega | (simp only [k_nx_sfi, k_nx_sfl, k_nx_sfr, k_nx_sai, k_nx_sal, k_nx_sar, k_nx_wai, k_nx_wal, k_nx_snx, k_nx_nwO, k_nx_nwA, k_nx_nwG]; omega))) | with_reducible refine arrAt.kept ?_ (kSame_nwG (by first | omega | (simp only [k_nx_sfi, k_nx_sfl, k_nx_sfr, k_nx_sai, k_nx_sal, k_nx_sar, k_nx_wai, k_nx_wal, k_nx_snx, k_nx_nwO, k_nx_nwA, k_nx_nwG]; omega))))
  have r5_6 : fr X5 th 6 = some (th + 4) := by
    rw [← h5]
    (repeat first | with_reducible exact fr_at (by first | omega | (simp only [k_nx_sfi, k_nx_sfl, k_nx_sfr, k_nx_sai, k_nx_sal, k_nx_sar, k_nx_wai, k_nx_wal, k_nx_snx, k_nx_nwO, k_nx_nwA, k_nx_nwG]; omega)) | with_reducible refine fr_sfr ?_ (by decide) | with_reducible refine fr_nwA ?_ (by first | omega | (simp only [k_nx_sfi, k_nx_sfl, k_nx_sfr, k_nx_sai, k_nx_sal, k_nx_sar, k_nx_wai, k_nx_wal, k_nx_snx, k_nx_nwO, k_nx_nwA, k_nx_nwG]; omega)) | with_reducible refine fr_nwG ?_)
  have a5_6 : arrAt X5 (th + 4) 0 63 := by
    rw [← h5]
    (repeat first | with_reducible exact arr_new (by first | omega | (simp only [k_nx_sfi, k_nx_sfl, k_nx_sfr, k_nx_sai, k_nx_sal, k_nx_sar, k_nx_wai, k_nx_wal, k_nx_snx, k_nx_nwO, k_nx_nwA, k_nx_nwG]; omega)) | with_reducible refine arrAt.kept ?_ (kSame_sfr (by omega)) | with_reducible refine arrAt.kept ?_ (kSame_sfi (by omega)) | with_reducible refine arrAt.kept ?_ (kSame_nwA (by first | omega | (simp only [k_nx_sfi, k_nx_sfl, k_nx_sfr, k_nx_sai, k_nx_sal, k_nx_sar, k_nx_wai, k_nx_wal, k_nx_snx, k_nx_nwO, k_nx_nwA, k_nx_nwG]; omega))) | with_reducible refine arrAt.kept ?_ (kSame_nwG (by first | omega | (simp only [k_nx_sfi, k_nx_sfl, k_nx_sfr, k_nx_sai, k_nx_sal, k_nx_sar, k_nx_wai, k_nx_wal, k_nx_snx, k_nx_nwO, k_nx_nwA, k_nx_nwG]; omega))))
  have r5_0 : fr X5 th 0 = some wd := by
    rw [← h5]
    (repeat first | with_reducible exact fr_at (by first | omega | (simp only [k_nx_sfi, k_nx_sfl, k_nx_sfr, k_nx_sai, k_nx_sal, k_nx_sar, k_nx_wai, k_nx_wal, k_nx_snx, k_nx_nwO, k_nx_nwA, k_nx_nwG]; omega)) | with_reducible refine fr_sfr ?_ (by decide) | with_reducible refine fr_nwA ?_ (by first | omega | (simp only [k_nx_sfi, k_nx_sfl, k_nx_sfr, k_nx_sai, k_nx_sal, k_nx_sar, k_nx_wai, k_nx_wal, k_nx_snx, k_nx_nwO, k_nx_nwA, k_nx_nwG]; omega)) | with_reducible refine fr_nwG ?_)
  have z5 : kZ X5 (nx M) := by
    rw [← h5]
    (repeat first | with_reducible exact kZ0 | with_reducible refine kZ_sfr ?_ | with_reducible refine kZ_nwA ?_)
  generalize h6 : nwO X5 1 = X6
  have n6 : nx X6 = nx M + 5 := by rw [← h6, k_nx_nwO, n5]
  have s6 : ∀ a, a < nx M + 4 → kSameAt X5 X6 a := fun a ha => by rw [← h6]; exact kSame_nwO (by omega)
  have q6 : tg X6 (nx M + 4) = 2 := by rw [← h6, k_tg_nwO, if_pos n5.symm]
  refine kT_dup dX0_init_47 rfl ?_
  refine kT_aload_n dX0_init_48 rfl ?_
  refine kT_invI (c_Disk_initR l g hst X6 (nx M + 4) wd q6 (by omega)) (fun _ _ h => h.elim) dX0_init_49 kl_X1_init km_X0_30 ki_X1_init rfl (by omega) (by omega) (by omega) rfl rfl (Nat.le_of_ble_eq_true rfl) (fun v9 M9 h9 => ?_)
  obtain ⟨rfl, hG7, hD7⟩ := h9
  have n7 : nx M9 = nx M + 6 := by rw [hG7.1, n6]
  have z7 : kZ M9 (nx M) := by
    rw [← h6, ← n5] at hG7
    exact kZ_sub z5 (by decide) hG7
  have s7 : ∀ a, a < nx M + 4 → kSameAt X5 M9 a := fun a ha => (s6 a ha).tr (hG7.2.1 a (by omega) (by omega))
  have t7 : tg M9 th = 1 := (s7 th (by omega)).1.trans t5
  refine kT_putR (c := 0) (k0 := 1) (r0 := (some (nx M + 4))) dX0_init_52 kf_X0_33 t7 (by decide) (by decide) (Or.inr ⟨rfl, rfl, rfl⟩) rfl rfl ?_
  refine kT_aload_n dX0_init_55 rfl ?_
  generalize h8 : sfr M9 th 1 (some (nx M + 4)) = X8
  have n8 : nx X8 = nx M + 6 := by rw [← h8]; exact n7
  have s8 : ∀ a, a ≠ th → kSameAt M9 X8 a := fun a ha => by rw [← h8]; exact kSame_sfr ha
  have r8 : ∀ k, k ≠ 1 → fr X8 th k = fr M9 th k := fun k hk => by rw [← h8, k_fr_sfr, if_neg (fun e => hk e.1)]
  have r8_1 : fr X8 th 1 = some (nx M + 4) := by rw [← h8, k_fr_sfr, if_pos ⟨rfl, rfl⟩]
  have t8 : tg X8 th = 1 := by rw [← h8]; exact t7
  have i8 : fi X8 = fi M9 := by rw [← h8]; exact k_fi_sfr
  refine kT_new (c := 2) dX0_init_56 (by decide) kcl_X0_37 kin_2 kzn_2 (by omega) (show 9 ≤ _ by omega) (fun _ _ => ?_)
  show kT l g _ _ _ _ _ _ _ _ _ _ _ _ (.ref (nx X8) :: _) _ (_ - 1) (_ - 9)
  rw [n8]
  have z8 : kZ X8 (nx M) := by rw [← h8]; exact kZ_sfr z7
  generalize h9 : nwO X8 2 = X9
  have n9 : nx X9 = nx M + 7 := by rw [← h9, k_nx_nwO, n8]
  have s9 : ∀ a, a < nx M + 6 → kSameAt X8 X9 a := fun a ha => by rw [← h9]; exact kSame_nwO (by omega)
  have q9 : tg X9 (nx M + 6) = 3 := by rw [← h9, k_tg_nwO, if_pos n8.symm]
  refine kT_dup dX0_init_59 rfl ?_
  refine kT_aload_n dX0_init_60 rfl ?_
  refine kT_invI (c_Index_initR l g hst X9 (nx M + 6) wd q9 (by omega)) (fun _ _ h => h.elim) dX0_init_61 kl_X2_init km_X0_39 ki_X2_init rfl (by omega) (by omega) (by omega) rfl rfl (Nat.le_of_ble_eq_true rfl) (fun v9 M9 h9 => ?_)
  obtain ⟨rfl, hG10, hI10⟩ := h9
  have t10 : tg M9 th = 1 := ((s9 th (by omega)).tr (hG10.2.1 th (by omega) (by omega))).1.trans t8
  refine kT_putR (c := 0) (k0 := 2) (r0 := (some (nx M + 6))) dX0_init_64 kf_X0_40 t10 (by decide) (by decide) (Or.inr ⟨rfl, rfl, rfl⟩) rfl rfl ?_
  refine kT_return dX0_init_67 rfl ?_
  refine ⟨rfl, ⟨?_, ?_, ?_, ?_, ?_⟩, ?_⟩
  · show nx M9 = nx M + 28
    rw [hG10.1, n9]
  · intro a ha hne
    exact (s5 a ha hne).tr ((s7 a (by omega)).tr ((s8 a hne).tr ((s9 a (by omega)).tr ((hG10.2.1 a (by omega) (by omega)).tr (kSame_sfr hne)))))
  · show tg M9 th = tg M th
    rw [t10, ht]
  · show fi M9 th = fi M th
    rw [(hG10.2.1 th (by omega) (by omega)).2.2.1, (s9 th (by omega)).2.2.1, i8, (s7 th (by omega)).2.2.1, i5]
  · have z10 : kZ M9 (nx M) := by
      rw [← h9, ← n8] at hG10
      exact kZ_sub z8 (by decide) hG10
    exact kZ_sfr z10
  · have f10 : ∀ k, k ≠ 2 → fr (sfr M9 th 2 (some (nx M + 6))) th k = fr X8 th k := fun k hk => by rw [k_fr_sfr, if_neg (fun e => hk e.1), (hG10.2.1 th (by omega) (by omega)).2.2.2.2.1, (s9 th (by omega)).2.2.2.2.1]
    have f5 : ∀ k, k ≠ 1 → k ≠ 2 → fr (sfr M9 th 2 (some (nx M + 6))) th k = fr X5 th k := fun k h1 h2 => by rw [f10 k h2, r8 k h1, (s7 th (by omega)).2.2.2.2.1]
    have sX : ∀ a, a < nx M + 4 → a ≠ th → kSameAt X5 (sfr M9 th 2 (some (nx M + 6))) a := fun a ha hne => (s7 a ha).tr ((s8 a hne).tr ((s9 a (by omega)).tr ((hG10.2.1 a (by omega) (by omega)).tr (kSame_sfr hne))))
    rw [show nx M + 4 = th + 5 by omega] at hD7 r8_1
    rw [show nx M + 6 = th + 7 by omega] at hI10 ⊢
    rw [show nx M + 6 = th + 7 by omega] at f5 f10 sX
    refine ⟨t10, by rw [f5 0 (by decide) (by decide)]; exact r5_0, by rw [f5 3 (by decide) (by decide)]; exact r5_3, a5_3.kept (sX _ (by omega) (by omega)), by rw [f5 4 (by decide) (by decide)]; exact r5_4, a5_4.kept (sX _ (by omega) (by omega)), by rw [f5 5 (by decide) (by decide)]; exact r5_5, a5_5.kept (sX _ (by omega) (by omega)), by rw [f5 6 (by decide) (by decide)]; exact r5_6, a5_6.kept (sX _ (by omega) (by omega)), by rw [f10 1 (by decide)]; exact r8_1, ?_, by rw [k_fr_sfr, if_pos ⟨rfl, rfl⟩], hI10.kept (fun b h1 h2 => kSame_sfr (by omega))⟩
    exact hD7.kept (fun b h1 h2 => (s8 b (by omega)).tr ((s9 b (by omega)).tr ((hG10.2.1 b (by omega) (by omega)).tr (kSame_sfr (by omega)))))


theorem c_Message_initR (l : Launch) (g : kG) (hst : l.stackTraces = false) (M : kM) (th : Nat) (ht : tg M th = 5) (hn : nx M = th + 1) : kC l g yX4_init cX4_init 1 none [] 10 1 30 [.ref th] M (fun v M1 => v = none ∧ kGrow M M1 th 1 ∧ ShMessage M1 g th) (fun _ _ => False) :=
  kC_mono (c_Message_init l g hst M th ht (by omega)) (fun v M1 h => by obtain ⟨h1, h2⟩ := h; subst h2; exact ⟨h1, sh_Message ht hn⟩) (fun _ _ h => h)
theorem tg_sfr {M : kM} {a k th z : Nat} {v : Option Nat} (h : tg M th = z) : tg (sfr M a k v) th = z := by rw [k_tg_sfr]; exact h
theorem tg_sfi {M : kM} {a k th z : Nat} {v : Int32} (h : tg M th = z) : tg (sfi M a k v) th = z := by rw [k_tg_sfi]; exact h
theorem tg_nwA {M : kM} {t n th z : Nat} (h : tg M th = z) (hl : th < nx M) : tg (nwA M t n) th = z := (kSame_nwA hl).1.trans h
theorem tg_nwG {M : kM} {t n th z : Nat} (h : tg M th = z) (hl : th < nx M) : tg (nwG M t n) th = z := (kSame_nwG hl).1.trans h
theorem tg_nwO {M : kM} {t th z : Nat} (h : tg M th = z) (hl : th < nx M) : tg (nwO M t) th = z := (kSame_nwO hl).1.trans h
theorem fr_sfi {M : kM} {a j th k : Nat} {v : Int32} {r : Option Nat} (h : fr M th k = r) : fr (sfi M a j v) th k = r := by rw [k_fr_sfi]; exact h
def ShReplica (M : kM) (th wd : Nat) : Prop := tg M th = 8 ∧ fr M th 0 = some wd ∧ fr M th 1 = some (th + 10) ∧ fr M th 2 = some (th + 1) ∧ fr M th 3 = some (th + 2) ∧ fr M th 4 = some (th + 3) ∧ fr M th 5 = some (th + 4) ∧ fr M th 6 = some (th + 5) ∧ fr M th 7 = some (th + 6) ∧ fr M th 8 = some (th + 7) ∧ fr M th 9 = some (th + 8) ∧ fr M th 10 = some (th + 9) ∧ arrAt M (th + 1) 0 4 ∧ arrAt M (th + 2) 0 5 ∧ arrAt M (th + 3) 0 5 ∧ arrAt M (th + 4) 0 5 ∧ arrAt M (th + 5) 0 5 ∧ arrAt M (th + 6) 0 5 ∧ arrAt M (th + 7) 0 5 ∧ arrAt M (th + 8) 0 20 ∧ arrAt M (th + 9) 0 20 ∧ ShCopy M (th + 10) wd
theorem ShReplica.kept {M M1 : kM} {th wd : Nat} (h : ShReplica M th wd) (hs : ∀ b, th ≤ b → b ≤ th + 38 → kSameAt M M1 b) : ShReplica M1 th wd := by
  obtain ⟨p0, p1, p2, p3, p4, p5, p6, p7, p8, p9, p10, p11, p12, p13, p14, p15, p16, p17, p18, p19, p20, p21⟩ := h
  have h0 := hs th (Nat.le_refl _) (by omega)
  exact ⟨h0.1.trans p0, by rw [h0.2.2.2.2.1]; exact p1, by rw [h0.2.2.2.2.1]; exact p2, by rw [h0.2.2.2.2.1]; exact p3, by rw [h0.2.2.2.2.1]; exact p4, by rw [h0.2.2.2.2.1]; exact p5, by rw [h0.2.2.2.2.1]; exact p6, by rw [h0.2.2.2.2.1]; exact p7, by rw [h0.2.2.2.2.1]; exact p8, by rw [h0.2.2.2.2.1]; exact p9, by rw [h0.2.2.2.2.1]; exact p10, by rw [h0.2.2.2.2.1]; exact p11, p12.kept (hs _ (by omega) (by omega)), p13.kept (hs _ (by omega) (by omega)), p14.kept (hs _ (by omega) (by omega)), p15.kept (hs _ (by omega) (by omega)), p16.kept (hs _ (by omega) (by omega)), p17.kept (hs _ (by omega) (by omega)), p18.kept (hs _ (by omega) (by omega)), p19.kept (hs _ (by omega) (by omega)), p20.kept (hs _ (by omega) (by omega)), p21.kept (fun b h1 h2 => hs b (by omega) (by omega))⟩
set_option maxHeartbeats 4000000 in
set_option maxRecDepth 100000 in
theorem c_Replica_initR (l : Launch) (g : kG) (hst : l.stackTraces = false) (M : kM) (th wd : Nat) (ht : tg M th = 8) (hn : nx M = th + 1) : kC l g yX7_init cX7_init 2 none [] 12 38 15844 [.ref th, .ref wd] M (fun v M1 => v = none ∧ kGrow M M1 th 38 ∧ ShReplica M1 th wd) (fun _ _ => False) := by
  refine kC_of hst (by decide) (Nat.le_of_ble_eq_true rfl) ?_
  show kT l g _ _ _ _ _ _ _ _ _ _ 0 [(0, .ref th), (1, .ref wd)] [] M _ _
  refine kT_aload_n dX7_init_0 rfl ?_
  refine kT_objInit dX7_init_1 km_X7_3 kob_1 kob_2 (by omega) (Nat.le_of_ble_eq_true rfl) ?_
  refine kT_aload_n dX7_init_4 rfl ?_
  refine kT_iconst (v := nI 4) dX7_init_5 (by decide) ?_
  refine kT_newa (t := 0) (n := 4) dX7_init_6 rfl (by decide) kar_0 (nI_toInt (by omega)) (by omega) (by omega) (by omega) (fun _ _ => ?_)
  show kT l g _ _ _ _ _ _ _ _ _ _ _ _ (.ref (nx M) :: _) _ _ _
  refine kT_putR (c := 7) (k0 := 2) (r0 := (some (nx M))) dX7_init_8 kf_X7_9 ((kOldU (show th < nx M by omega) ht)) (by decide) (by decide) (Or.inr ⟨rfl, rfl, rfl⟩) rfl rfl ?_
  refine kT_aload_n dX7_init_11 rfl ?_
  refine kT_iconst (v := nI 5) dX7_init_12 (by decide) ?_
  refine kT_newa (t := 0) (n := 5) dX7_init_13 rfl (by decide) kar_0 (nI_toInt (by omega)) (by omega) (by omega) (by omega) (fun _ _ => ?_)
  show kT l g _ _ _ _ _ _ _ _ _ _ _ _ (.ref (nx M + 1) :: _) _ _ _
  refine kT_putR (c := 7) (k0 := 3) (r0 := (some (nx M + 1))) dX7_init_15 kf_X7_15 ((kOldU (show th < nx M + 1 by omega) (kOldU (show th < nx M by omega) ht))) (by decide) (by decide) (Or.inr ⟨rfl, rfl, rfl⟩) rfl rfl ?_
  refine kT_aload_n dX7_init_18 rfl ?_
  refine kT_iconst (v := nI 5) dX7_init_19 (by decide) ?_
  refine kT_newa (t := 0) (n := 5) dX7_init_20 rfl (by decide) kar_0 (nI_toInt (by omega)) (by omega) (by omega) (by omega) (fun _ _ => ?_)
  show kT l g _ _ _ _ _ _ _ _ _ _ _ _ (.ref (nx M + 2) :: _) _ _ _
  refine kT_putR (c := 7) (k0 := 4) (r0 := (some (nx M + 2))) dX7_init_22 kf_X7_18 ((kOldU (show th < nx M + 2 by omega) (kOldU (show th < nx M + 1 by omega) (kOldU (show th < nx M by omega) ht)))) (by decide) (by decide) (Or.inr ⟨rfl, rfl, rfl⟩) rfl rfl ?_
  refine kT_aload_n dX7_init_25 rfl ?_
  refine kT_iconst (v := nI 5) dX7_init_26 (by decide) ?_
  refine kT_newa (t := 0) (n := 5) dX7_init_27 rfl (by decide) kar_0 (nI_toInt (by omega)) (by omega) (by omega) (by omega) (fun _ _ => ?_)
  show kT l g _ _ _ _ _ _ _ _ _ _ _ _ (.ref (nx M + 3) :: _) _ _ _
  refine kT_putR (c := 7) (k0 := 5) (r0 := (some (nx M + 3))) dX7_init_29 kf_X7_21 ((kOldU (show th < nx M + 3 by omega) (kOldU (show th < nx M + 2 by omega) (kOldU (show th < nx M + 1 by omega) (kOldU (show th < nx M by omega) ht))))) (by decide) (by decide) (Or.inr ⟨rfl, rfl, rfl⟩) rfl rfl ?_
  refine kT_aload_n dX7_init_32 rfl ?_
  refine kT_iconst (v := nI 5) dX7_init_33 (by decide) ?_
  refine kT_newa (t := 0) (n := 5) dX7_init_34 rfl (by decide) kar_0 (nI_toInt (by omega)) (by omega) (by omega) (by omega) (fun _ _ => ?_)
  show kT l g _ _ _ _ _ _ _ _ _ _ _ _ (.ref (nx M + 4) :: _) _ _ _
  refine kT_putR (c := 7) (k0 := 6) (r0 := (some (nx M + 4))) dX7_init_36 kf_X7_24 ((kOldU (show th < nx M + 4 by omega) (kOldU (show th < nx M + 3 by omega) (kOldU (show th < nx M + 2 by omega) (kOldU (show th < nx M + 1 by omega) (kOldU (show th < nx M by omega) ht)))))) (by decide) (by decide) (Or.inr ⟨rfl, rfl, rfl⟩) rfl rfl ?_
  refine kT_aload_n dX7_init_39 rfl ?_
  refine kT_iconst (v := nI 5) dX7_init_40 (by decide) ?_
  refine kT_newa (t := 0) (n := 5) dX7_init_41 rfl (by decide) kar_0 (nI_toInt (by omega)) (by omega) (by omega) (by omega) (fun _ _ => ?_)
  show kT l g _ _ _ _ _ _ _ _ _ _ _ _ (.ref (nx M + 5) :: _) _ _ _
  refine kT_putR (c := 7) (k0 := 7) (r0 := (some (nx M + 5))) dX7_init_43 kf_X7_27 ((kOldU (show th < nx M + 5 by omega) (kOldU (show th < nx M + 4 by omega) (kOldU (show th < nx M + 3 by omega) (kOldU (show th < nx M + 2 by omega) (kOldU (show th < nx M + 1 by omega) (kOldU (show th < nx M by omega) ht))))))) (by decide) (by decide) (Or.inr ⟨rfl, rfl, rfl⟩) rfl rfl ?_
  refine kT_aload_n dX7_init_46 rfl ?_
  refine kT_iconst (v := nI 5) dX7_init_47 (by decide) ?_
  refine kT_newa (t := 0) (n := 5) dX7_init_48 rfl (by decide) kar_0 (nI_toInt (by omega)) (by omega) (by omega) (by omega) (fun _ _ => ?_)
  show kT l g _ _ _ _ _ _ _ _ _ _ _ _ (.ref (nx M + 6) :: _) _ _ _
  refine kT_putR (c := 7) (k0 := 8) (r0 := (some (nx M + 6))) dX7_init_50 kf_X7_30 ((kOldU (show th < nx M + 6 by omega) (kOldU (show th < nx M + 5 by omega) (kOldU (show th < nx M + 4 by omega) (kOldU (show th < nx M + 3 by omega) (kOldU (show th < nx M + 2 by omega) (kOldU (show th < nx M + 1 by omega) (kOldU (show th < nx M by omega) ht)))))))) (by decide) (by decide) (Or.inr ⟨rfl, rfl, rfl⟩) rfl rfl ?_
  refine kT_aload_n dX7_init_53 rfl ?_
  refine kT_bipush (v := nI 20) dX7_init_54 (by decide) ?_
  refine kT_newa (t := 0) (n := 20) dX7_init_56 rfl (by decide) kar_0 (nI_toInt (by omega)) (by omega) (by omega) (by omega) (fun _ _ => ?_)
  show kT l g _ _ _ _ _ _ _ _ _ _ _ _ (.ref (nx M + 7) :: _) _ _ _
  refine kT_putR (c := 7) (k0 := 9) (r0 := (some (nx M + 7))) dX7_init_58 kf_X7_33 ((kOldU (show th < nx M + 7 by omega) (kOldU (show th < nx M + 6 by omega) (kOldU (show th < nx M + 5 by omega) (kOldU (show th < nx M + 4 by omega) (kOldU (show th < nx M + 3 by omega) (kOldU (show th < nx M + 2 by omega) (kOldU (show th < nx M + 1 by omega) (kOldU (show th < nx M by omega) ht))))))))) (by decide) (by decide) (Or.inr ⟨rfl, rfl, rfl⟩) rfl rfl ?_
  refine kT_aload_n dX7_init_61 rfl ?_
  refine kT_bipush (v := nI 20) dX7_init_62 (by decide) ?_
  refine kT_newa (t := 0) (n := 20) dX7_init_64 rfl (by decide) kar_0 (nI_toInt (by omega)) (by omega) (by omega) (by omega) (fun _ _ => ?_)
  show kT l g _ _ _ _ _ _ _ _ _ _ _ _ (.ref (nx M + 8) :: _) _ _ _
  refine kT_putR (c := 7) (k0 := 10) (r0 := (some (nx M + 8))) dX7_init_66 kf_X7_36 ((kOldU (show th < nx M + 8 by omega) (kOldU (show th < nx M + 7 by omega) (kOldU (show th < nx M + 6 by omega) (kOldU (show th < nx M + 5 by omega) (kOldU (show th < nx M + 4 by omega) (kOldU (show th < nx M + 3 by omega) (kOldU (show th < nx M + 2 by omega) (kOldU (show th < nx M + 1 by omega) (kOldU (show th < nx M by omega) ht)))))))))) (by decide) (by decide) (Or.inr ⟨rfl, rfl, rfl⟩) rfl rfl ?_
  refine kT_aload_n dX7_init_69 rfl ?_
  refine kT_aload_n dX7_init_70 rfl ?_
  refine kT_putR (c := 7) (k0 := 0) (r0 := (some wd)) dX7_init_71 kf_X7_39 ((kOldU (show th < nx M + 8 by omega) (kOldU (show th < nx M + 7 by omega) (kOldU (show th < nx M + 6 by omega) (kOldU (show th < nx M + 5 by omega) (kOldU (show th < nx M + 4 by omega) (kOldU (show th < nx M + 3 by omega) (kOldU (show th < nx M + 2 by omega) (kOldU (show th < nx M + 1 by omega) (kOldU (show th < nx M by omega) ht)))))))))) (by decide) (by decide) (Or.inr ⟨rfl, rfl, rfl⟩) rfl rfl ?_
  refine kT_aload_n dX7_init_74 rfl ?_
  generalize h_1 : sfr (sfr (nwA (sfr (nwA (sfr (nwA (sfr (nwA (sfr (nwA (sfr (nwA (sfr (nwA (sfr (nwA (sfr (nwA M 0 4) th 2 (some (nx M))) 0 5) th 3 (some (nx M + 1))) 0 5) th 4 (some (nx M + 2))) 0 5) th 5 (some (nx M + 3))) 0 5) th 6 (some (nx M + 4))) 0 5) th 7 (some (nx M + 5))) 0 5) th 8 (some (nx M + 6))) 0 20) th 9 (some (nx M + 7))) 0 20) th 10 (some (nx M + 8))) th 0 (some wd) = X1
  have n_1 : nx X1 = nx M + 9 := by rw [← h_1]; first | rfl | (simp only [k_nx_sfi, k_nx_sfl, k_nx_sfr, k_nx_sai, k_nx_sal, k_nx_sar, k_nx_wai, k_nx_wal, k_nx_snx, k_nx_nwO, k_nx_nwA, k_nx_nwG]; omega)
  have k_1 : ∀ a, a < nx M → a ≠ th → kSameAt M X1 a := by
    intro a ha hne
    rw [← h_1]
    (repeat first | with_reducible exact kSameAt.rf | with_reducible refine kSameAt.tr ?_ (kSame_sfr (by omega)) | with_reducible refine kSameAt.tr ?_ (kSame_sfi (by omega)) | with_reducible refine kSameAt.tr ?_ (kSame_nwA (by first | omega | (simp only [k_nx_sfi, k_nx_sfl, k_nx_sfr, k_nx_sai, k_nx_sal, k_nx_sar, k_nx_wai, k_nx_wal, k_nx_snx, k_nx_nwO, k_nx_nwA, k_nx_nwG]; omega))) | with_reducible refine kSameAt.tr ?_ (kSame_nwG (by first | omega | (simp only [k_nx_sfi, k_nx_sfl, k_nx_sfr, k_nx_sai, k_nx_sal, k_nx_sar, k_nx_wai, k_nx_wal, k_nx_snx, k_nx_nwO, k_nx_nwA, k_nx_nwG]; omega))) | with_reducible refine kSameAt.tr ?_ (kSame_nwO (by first | omega | (simp only [k_nx_sfi, k_nx_sfl, k_nx_sfr, k_nx_sai, k_nx_sal, k_nx_sar, k_nx_wai, k_nx_wal, k_nx_snx, k_nx_nwO, k_nx_nwA, k_nx_nwG]; omega))))
  have s_1 : ∀ a, a < nx M → a ≠ th → kSameAt M X1 a := fun a ha hne => ((fun a _ _ => kSameAt.rf) a ha hne).tr (k_1 a (by omega) hne)
  have t_1 : tg X1 th = 8 := by
    rw [← h_1]
    (repeat first | with_reducible exact ht | with_reducible refine tg_sfr ?_ | with_reducible refine tg_sfi ?_ | with_reducible refine tg_nwA ?_ (by first | omega | (simp only [k_nx_sfi, k_nx_sfl, k_nx_sfr, k_nx_sai, k_nx_sal, k_nx_sar, k_nx_wai, k_nx_wal, k_nx_snx, k_nx_nwO, k_nx_nwA, k_nx_nwG]; omega)) | with_reducible refine tg_nwG ?_ (by first | omega | (simp only [k_nx_sfi, k_nx_sfl, k_nx_sfr, k_nx_sai, k_nx_sal, k_nx_sar, k_nx_wai, k_nx_wal, k_nx_snx, k_nx_nwO, k_nx_nwA, k_nx_nwG]; omega)) | with_reducible refine tg_nwO ?_ (by first | omega | (simp only [k_nx_sfi, k_nx_sfl, k_nx_sfr, k_nx_sai, k_nx_sal, k_nx_sar, k_nx_wai, k_nx_wal, k_nx_snx, k_nx_nwO, k_nx_nwA, k_nx_nwG]; omega)))
  have i_1 : fi X1 th = fi M th := by
    rw [← h_1]
    simp only [k_fi_sfr, k_fi_nwA, k_fi_nwG]
  have z_1 : kZ X1 (nx M) := by
    rw [← h_1]
    (repeat first | with_reducible exact kZ0 | with_reducible refine kZ_sfr ?_ | with_reducible refine kZ_nwA ?_ | with_reducible refine kZ_sfi ?_ (by omega) | with_reducible refine kZ_nwG ?_ (by first | omega | (simp only [k_nx_sfi, k_nx_sfl, k_nx_sfr, k_nx_sai, k_nx_sal, k_nx_sar, k_nx_wai, k_nx_wal, k_nx_snx, k_nx_nwO, k_nx_nwA, k_nx_nwG]; omega)))
  have r_1_2 : fr X1 th 2 = some (th + 1) := by
    rw [← h_1]
    (repeat first | with_reducible exact fr_at (by first | omega | (simp only [k_nx_sfi, k_nx_sfl, k_nx_sfr, k_nx_sai, k_nx_sal, k_nx_sar, k_nx_wai, k_nx_wal, k_nx_snx, k_nx_nwO, k_nx_nwA, k_nx_nwG]; omega)) | with_reducible refine fr_sfr ?_ (by decide) | with_reducible refine fr_nwA ?_ (by first | omega | (simp only [k_nx_sfi, k_nx_sfl, k_nx_sfr, k_nx_sai, k_nx_sal, k_nx_sar, k_nx_wai, k_nx_wal, k_nx_snx, k_nx_nwO, k_nx_nwA, k_nx_nwG]; omega)) | with_reducible refine fr_nwG ?_ | with_reducible refine fr_sfi ?_)
  have r_1_3 : fr X1 th 3 = some (th + 2) := by
    rw [← h_1]
    (repeat first | with_reducible exact fr_at (by first | omega | (simp only [k_nx_sfi, k_nx_sfl, k_nx_sfr, k_nx_sai, k_nx_sal, k_nx_sar, k_nx_wai, k_nx_wal, k_nx_snx, k_nx_nwO, k_nx_nwA, k_nx_nwG]; omega)) | with_reducible refine fr_sfr ?_ (by decide) | with_reducible refine fr_nwA ?_ (by first | omega | (simp only [k_nx_sfi, k_nx_sfl, k_nx_sfr, k_nx_sai, k_nx_sal, k_nx_sar, k_nx_wai, k_nx_wal, k_nx_snx, k_nx_nwO, k_nx_nwA, k_nx_nwG]; omega)) | with_reducible refine fr_nwG ?_ | with_reducible refine fr_sfi ?_)
  have r_1_4 : fr X1 th 4 = some (th + 3) := by
    rw [← h_1]
    (repeat first | with_reducible exact fr_at (by first | omega | (simp only [k_nx_sfi, k_nx_sfl, k_nx_sfr, k_nx_sai, k_nx_sal, k_nx_sar, k_nx_wai, k_nx_wal, k_nx_snx, k_nx_nwO, k_nx_nwA, k_nx_nwG]; omega)) | with_reducible refine fr_sfr ?_ (by decide) | with_reducible refine fr_nwA ?_ (by first | omega | (simp only [k_nx_sfi, k_nx_sfl, k_nx_sfr, k_nx_sai, k_nx_sal, k_nx_sar, k_nx_wai, k_nx_wal, k_nx_snx, k_nx_nwO, k_nx_nwA, k_nx_nwG]; omega)) | with_reducible refine fr_nwG ?_ | with_reducible refine fr_sfi ?_)
  have r_1_5 : fr X1 th 5 = some (th + 4) := by
    rw [← h_1]
    (repeat first | with_reducible exact fr_at (by first | omega | (simp only [k_nx_sfi, k_nx_sfl, k_nx_sfr, k_nx_sai, k_nx_sal, k_nx_sar, k_nx_wai, k_nx_wal, k_nx_snx, k_nx_nwO, k_nx_nwA, k_nx_nwG]; omega)) | with_reducible refine fr_sfr ?_ (by decide) | with_reducible refine fr_nwA ?_ (by first | omega | (simp only [k_nx_sfi, k_nx_sfl, k_nx_sfr, k_nx_sai, k_nx_sal, k_nx_sar, k_nx_wai, k_nx_wal, k_nx_snx, k_nx_nwO, k_nx_nwA, k_nx_nwG]; omega)) | with_reducible refine fr_nwG ?_ | with_reducible refine fr_sfi ?_)
  have r_1_6 : fr X1 th 6 = some (th + 5) := by
    rw [← h_1]
    (repeat first | with_reducible exact fr_at (by first | omega | (simp only [k_nx_sfi, k_nx_sfl, k_nx_sfr, k_nx_sai, k_nx_sal, k_nx_sar, k_nx_wai, k_nx_wal, k_nx_snx, k_nx_nwO, k_nx_nwA, k_nx_nwG]; omega)) | with_reducible refine fr_sfr ?_ (by decide) | with_reducible refine fr_nwA ?_ (by first | omega | (simp only [k_nx_sfi, k_nx_sfl, k_nx_sfr, k_nx_sai, k_nx_sal, k_nx_sar, k_nx_wai, k_nx_wal, k_nx_snx, k_nx_nwO, k_nx_nwA, k_nx_nwG]; omega)) | with_reducible refine fr_nwG ?_ | with_reducible refine fr_sfi ?_)
  have r_1_7 : fr X1 th 7 = some (th + 6) := by
    rw [← h_1]
    (repeat first | with_reducible exact fr_at (by first | omega | (simp only [k_nx_sfi, k_nx_sfl, k_nx_sfr, k_nx_sai, k_nx_sal, k_nx_sar, k_nx_wai, k_nx_wal, k_nx_snx, k_nx_nwO, k_nx_nwA, k_nx_nwG]; omega)) | with_reducible refine fr_sfr ?_ (by decide) | with_reducible refine fr_nwA ?_ (by first | omega | (simp only [k_nx_sfi, k_nx_sfl, k_nx_sfr, k_nx_sai, k_nx_sal, k_nx_sar, k_nx_wai, k_nx_wal, k_nx_snx, k_nx_nwO, k_nx_nwA, k_nx_nwG]; omega)) | with_reducible refine fr_nwG ?_ | with_reducible refine fr_sfi ?_)
  have r_1_8 : fr X1 th 8 = some (th + 7) := by
    rw [← h_1]
    (repeat first | with_reducible exact fr_at (by first | omega | (simp only [k_nx_sfi, k_nx_sfl, k_nx_sfr, k_nx_sai, k_nx_sal, k_nx_sar, k_nx_wai, k_nx_wal, k_nx_snx, k_nx_nwO, k_nx_nwA, k_nx_nwG]; omega)) | with_reducible refine fr_sfr ?_ (by decide) | with_reducible refine fr_nwA ?_ (by first | omega | (simp only [k_nx_sfi, k_nx_sfl, k_nx_sfr, k_nx_sai, k_nx_sal, k_nx_sar, k_nx_wai, k_nx_wal, k_nx_snx, k_nx_nwO, k_nx_nwA, k_nx_nwG]; omega)) | with_reducible refine fr_nwG ?_ | with_reducible refine fr_sfi ?_)
  have r_1_9 : fr X1 th 9 = some (th + 8) := by
    rw [← h_1]
    (repeat first | with_reducible exact fr_at (by first | omega | (simp only [k_nx_sfi, k_nx_sfl, k_nx_sfr, k_nx_sai, k_nx_sal, k_nx_sar, k_nx_wai, k_nx_wal, k_nx_snx, k_nx_nwO, k_nx_nwA, k_nx_nwG]; omega)) | with_reducible refine fr_sfr ?_ (by decide) | with_reducible refine fr_nwA ?_ (by first | omega | (simp only [k_nx_sfi, k_nx_sfl, k_nx_sfr, k_nx_sai, k_nx_sal, k_nx_sar, k_nx_wai, k_nx_wal, k_nx_snx, k_nx_nwO, k_nx_nwA, k_nx_nwG]; omega)) | with_reducible refine fr_nwG ?_ | with_reducible refine fr_sfi ?_)
  have r_1_10 : fr X1 th 10 = some (th + 9) := by
    rw [← h_1]
    (repeat first | with_reducible exact fr_at (by first | omega | (simp only [k_nx_sfi, k_nx_sfl, k_nx_sfr, k_nx_sai, k_nx_sal, k_nx_sar, k_nx_wai, k_nx_wal, k_nx_snx, k_nx_nwO, k_nx_nwA, k_nx_nwG]; omega)) | with_reducible refine fr_sfr ?_ (by decide) | with_reducible refine fr_nwA ?_ (by first | omega | (simp only [k_nx_sfi, k_nx_sfl, k_nx_sfr, k_nx_sai, k_nx_sal, k_nx_sar, k_nx_wai, k_nx_wal, k_nx_snx, k_nx_nwO, k_nx_nwA, k_nx_nwG]; omega)) | with_reducible refine fr_nwG ?_ | with_reducible refine fr_sfi ?_)
  have r_1_0 : fr X1 th 0 = some wd := by
    rw [← h_1]
    (repeat first | with_reducible exact fr_at (by first | omega | (simp only [k_nx_sfi, k_nx_sfl, k_nx_sfr, k_nx_sai, k_nx_sal, k_nx_sar, k_nx_wai, k_nx_wal, k_nx_snx, k_nx_nwO, k_nx_nwA, k_nx_nwG]; omega)) | with_reducible refine fr_sfr ?_ (by decide) | with_reducible refine fr_nwA ?_ (by first | omega | (simp only [k_nx_sfi, k_nx_sfl, k_nx_sfr, k_nx_sai, k_nx_sal, k_nx_sar, k_nx_wai, k_nx_wal, k_nx_snx, k_nx_nwO, k_nx_nwA, k_nx_nwG]; omega)) | with_reducible refine fr_nwG ?_ | with_reducible refine fr_sfi ?_)
  have a_1_1 : arrAt X1 (th + 1) 0 4 := by
    rw [← h_1]
    (repeat first | with_reducible exact arr_new (by first | omega | (simp only [k_nx_sfi, k_nx_sfl, k_nx_sfr, k_nx_sai, k_nx_sal, k_nx_sar, k_nx_wai, k_nx_wal, k_nx_snx, k_nx_nwO, k_nx_nwA, k_nx_nwG]; omega)) | with_reducible refine arrAt.kept ?_ (kSame_sfr (by omega)) | with_reducible refine arrAt.kept ?_ (kSame_sfi (by omega)) | with_reducible refine arrAt.kept ?_ (kSame_nwA (by first | omega | (simp only [k_nx_sfi, k_nx_sfl, k_nx_sfr, k_nx_sai, k_nx_sal, k_nx_sar, k_nx_wai, k_nx_wal, k_nx_snx, k_nx_nwO, k_nx_nwA, k_nx_nwG]; omega))) | with_reducible refine arrAt.kept ?_ (kSame_nwG (by first | omega | (simp only [k_nx_sfi, k_nx_sfl, k_nx_sfr, k_nx_sai, k_nx_sal, k_nx_sar, k_nx_wai, k_nx_wal, k_nx_snx, k_nx_nwO, k_nx_nwA, k_nx_nwG]; omega))))
  have a_1_2 : arrAt X1 (th + 2) 0 5 := by
    rw [← h_1]
    (repeat first | with_reducible exact arr_new (by first | omega | (simp only [k_nx_sfi, k_nx_sfl, k_nx_sfr, k_nx_sai, k_nx_sal, k_nx_sar, k_nx_wai, k_nx_wal, k_nx_snx, k_nx_nwO, k_nx_nwA, k_nx_nwG]; omega)) | with_reducible refine arrAt.kept ?_ (kSame_sfr (by omega)) | with_reducible refine arrAt.kept ?_ (kSame_sfi (by omega)) | with_reducible refine arrAt.kept ?_ (kSame_nwA (by first | omega | (simp only [k_nx_sfi, k_nx_sfl, k_nx_sfr, k_nx_sai, k_nx_sal, k_nx_sar, k_nx_wai, k_nx_wal, k_nx_snx, k_nx_nwO, k_nx_nwA, k_nx_nwG]; omega))) | with_reducible refine arrAt.kept ?_ (kSame_nwG (by first | omega | (simp only [k_nx_sfi, k_nx_sfl, k_nx_sfr, k_nx_sai, k_nx_sal, k_nx_sar, k_nx_wai, k_nx_wal, k_nx_snx, k_nx_nwO, k_nx_nwA, k_nx_nwG]; omega))))
  have a_1_3 : arrAt X1 (th + 3) 0 5 := by
    rw [← h_1]
    (repeat first | with_reducible exact arr_new (by first | omega | (simp only [k_nx_sfi, k_nx_sfl, k_nx_sfr, k_nx_sai, k_nx_sal, k_nx_sar, k_nx_wai, k_nx_wal, k_nx_snx, k_nx_nwO, k_nx_nwA, k_nx_nwG]; omega)) | with_reducible refine arrAt.kept ?_ (kSame_sfr (by omega)) | with_reducible refine arrAt.kept ?_ (kSame_sfi (by omega)) | with_reducible refine arrAt.kept ?_ (kSame_nwA (by first | omega | (simp only [k_nx_sfi, k_nx_sfl, k_nx_sfr, k_nx_sai, k_nx_sal, k_nx_sar, k_nx_wai, k_nx_wal, k_nx_snx, k_nx_nwO, k_nx_nwA, k_nx_nwG]; omega))) | with_reducible refine arrAt.kept ?_ (kSame_nwG (by first | omega | (simp only [k_nx_sfi, k_nx_sfl, k_nx_sfr, k_nx_sai, k_nx_sal, k_nx_sar, k_nx_wai, k_nx_wal, k_nx_snx, k_nx_nwO, k_nx_nwA, k_nx_nwG]; omega))))
  have a_1_4 : arrAt X1 (th + 4) 0 5 := by
    rw [← h_1]
    (repeat first | with_reducible exact arr_new (by first | omega | (simp only [k_nx_sfi, k_nx_sfl, k_nx_sfr, k_nx_sai, k_nx_sal, k_nx_sar, k_nx_wai, k_nx_wal, k_nx_snx, k_nx_nwO, k_nx_nwA, k_nx_nwG]; omega)) | with_reducible refine arrAt.kept ?_ (kSame_sfr (by omega)) | with_reducible refine arrAt.kept ?_ (kSame_sfi (by omega)) | with_reducible refine arrAt.kept ?_ (kSame_nwA (by first | omega | (simp only [k_nx_sfi, k_nx_sfl, k_nx_sfr, k_nx_sai, k_nx_sal, k_nx_sar, k_nx_wai, k_nx_wal, k_nx_snx, k_nx_nwO, k_nx_nwA, k_nx_nwG]; omega))) | with_reducible refine arrAt.kept ?_ (kSame_nwG (by first | omega | (simp only [k_nx_sfi, k_nx_sfl, k_nx_sfr, k_nx_sai, k_nx_sal, k_nx_sar, k_nx_wai, k_nx_wal, k_nx_snx, k_nx_nwO, k_nx_nwA, k_nx_nwG]; omega))))
  have a_1_5 : arrAt X1 (th + 5) 0 5 := by
    rw [← h_1]
    (repeat first | with_reducible exact arr_new (by first | omega | (simp only [k_nx_sfi, k_nx_sfl, k_nx_sfr, k_nx_sai, k_nx_sal, k_nx_sar, k_nx_wai, k_nx_wal, k_nx_snx, k_nx_nwO, k_nx_nwA, k_nx_nwG]; omega)) | with_reducible refine arrAt.kept ?_ (kSame_sfr (by omega)) | with_reducible refine arrAt.kept ?_ (kSame_sfi (by omega)) | with_reducible refine arrAt.kept ?_ (kSame_nwA (by first | omega | (simp only [k_nx_sfi, k_nx_sfl, k_nx_sfr, k_nx_sai, k_nx_sal, k_nx_sar, k_nx_wai, k_nx_wal, k_nx_snx, k_nx_nwO, k_nx_nwA, k_nx_nwG]; omega))) | with_reducible refine arrAt.kept ?_ (kSame_nwG (by first | omega | (simp only [k_nx_sfi, k_nx_sfl, k_nx_sfr, k_nx_sai, k_nx_sal, k_nx_sar, k_nx_wai, k_nx_wal, k_nx_snx, k_nx_nwO, k_nx_nwA, k_nx_nwG]; omega))))
  have a_1_6 : arrAt X1 (th + 6) 0 5 := by
    rw [← h_1]
    (repeat first | with_reducible exact arr_new (by first | omega | (simp only [k_nx_sfi, k_nx_sfl, k_nx_sfr, k_nx_sai, k_nx_sal, k_nx_sar, k_nx_wai, k_nx_wal, k_nx_snx, k_nx_nwO, k_nx_nwA, k_nx_nwG]; omega)) | with_reducible refine arrAt.kept ?_ (kSame_sfr (by omega)) | with_reducible refine arrAt.kept ?_ (kSame_sfi (by omega)) | with_reducible refine arrAt.kept ?_ (kSame_nwA (by first | omega | (simp only [k_nx_sfi, k_nx_sfl, k_nx_sfr, k_nx_sai, k_nx_sal, k_nx_sar, k_nx_wai, k_nx_wal, k_nx_snx, k_nx_nwO, k_nx_nwA, k_nx_nwG]; omega))) | with_reducible refine arrAt.kept ?_ (kSame_nwG (by first | omega | (simp only [k_nx_sfi, k_nx_sfl, k_nx_sfr, k_nx_sai, k_nx_sal, k_nx_sar, k_nx_wai, k_nx_wal, k_nx_snx, k_nx_nwO, k_nx_nwA, k_nx_nwG]; omega))))
  have a_1_7 : arrAt X1 (th + 7) 0 5 := by
    rw [← h_1]
    (repeat first | with_reducible exact arr_new (by first | omega | (simp only [k_nx_sfi, k_nx_sfl, k_nx_sfr, k_nx_sai, k_nx_sal, k_nx_sar, k_nx_wai, k_nx_wal, k_nx_snx, k_nx_nwO, k_nx_nwA, k_nx_nwG]; omega)) | with_reducible refine arrAt.kept ?_ (kSame_sfr (by omega)) | with_reducible refine arrAt.kept ?_ (kSame_sfi (by omega)) | with_reducible refine arrAt.kept ?_ (kSame_nwA (by first | omega | (simp only [k_nx_sfi, k_nx_sfl, k_nx_sfr, k_nx_sai, k_nx_sal, k_nx_sar, k_nx_wai, k_nx_wal, k_nx_snx, k_nx_nwO, k_nx_nwA, k_nx_nwG]; omega))) | with_reducible refine arrAt.kept ?_ (kSame_nwG (by first | omega | (simp only [k_nx_sfi, k_nx_sfl, k_nx_sfr, k_nx_sai, k_nx_sal, k_nx_sar, k_nx_wai, k_nx_wal, k_nx_snx, k_nx_nwO, k_nx_nwA, k_nx_nwG]; omega))))
  have a_1_8 : arrAt X1 (th + 8) 0 20 := by
    rw [← h_1]
    (repeat first | with_reducible exact arr_new (by first | omega | (simp only [k_nx_sfi, k_nx_sfl, k_nx_sfr, k_nx_sai, k_nx_sal, k_nx_sar, k_nx_wai, k_nx_wal, k_nx_snx, k_nx_nwO, k_nx_nwA, k_nx_nwG]; omega)) | with_reducible refine arrAt.kept ?_ (kSame_sfr (by omega)) | with_reducible refine arrAt.kept ?_ (kSame_sfi (by omega)) | with_reducible refine arrAt.kept ?_ (kSame_nwA (by first | omega | (simp only [k_nx_sfi, k_nx_sfl, k_nx_sfr, k_nx_sai, k_nx_sal, k_nx_sar, k_nx_wai, k_nx_wal, k_nx_snx, k_nx_nwO, k_nx_nwA, k_nx_nwG]; omega))) | with_reducible refine arrAt.kept ?_ (kSame_nwG (by first | omega | (simp only [k_nx_sfi, k_nx_sfl, k_nx_sfr, k_nx_sai, k_nx_sal, k_nx_sar, k_nx_wai, k_nx_wal, k_nx_snx, k_nx_nwO, k_nx_nwA, k_nx_nwG]; omega))))
  have a_1_9 : arrAt X1 (th + 9) 0 20 := by
    rw [← h_1]
    (repeat first | with_reducible exact arr_new (by first | omega | (simp only [k_nx_sfi, k_nx_sfl, k_nx_sfr, k_nx_sai, k_nx_sal, k_nx_sar, k_nx_wai, k_nx_wal, k_nx_snx, k_nx_nwO, k_nx_nwA, k_nx_nwG]; omega)) | with_reducible refine arrAt.kept ?_ (kSame_sfr (by omega)) | with_reducible refine arrAt.kept ?_ (kSame_sfi (by omega)) | with_reducible refine arrAt.kept ?_ (kSame_nwA (by first | omega | (simp only [k_nx_sfi, k_nx_sfl, k_nx_sfr, k_nx_sai, k_nx_sal, k_nx_sar, k_nx_wai, k_nx_wal, k_nx_snx, k_nx_nwO, k_nx_nwA, k_nx_nwG]; omega))) | with_reducible refine arrAt.kept ?_ (kSame_nwG (by first | omega | (simp only [k_nx_sfi, k_nx_sfl, k_nx_sfr, k_nx_sai, k_nx_sal, k_nx_sar, k_nx_wai, k_nx_wal, k_nx_snx, k_nx_nwO, k_nx_nwA, k_nx_nwG]; omega))))
  refine kT_new (c := 0) dX7_init_75 (by decide) kcl_X7_43 kin_0 kzn_0 (by omega) (show 13 ≤ _ by omega) (fun _ _ => ?_)
  show kT l g _ _ _ _ _ _ _ _ _ _ _ _ (.ref (nx X1) :: _) _ (_ - 1) (_ - 13)
  rw [n_1]
  generalize h_2 : nwO X1 0 = X2
  have n_2 : nx X2 = nx M + 10 := by rw [← h_2, k_nx_nwO, n_1]
  have k_2 : ∀ a, a < nx X1 → kSameAt X1 X2 a := fun a ha => by rw [← h_2]; exact kSame_nwO ha
  have q_2 : tg X2 (nx M + 9) = 1 := by rw [← h_2, k_tg_nwO, if_pos n_1.symm]
  refine kT_dup dX7_init_78 rfl ?_
  refine kT_aload_n dX7_init_79 rfl ?_
  refine kT_invI (c_Copy_initR l g hst X2 (nx M + 9) wd q_2 (by omega)) (fun _ _ h => h.elim) dX7_init_80 kl_X0_init km_X7_45 ki_X0_init rfl (by omega) (by omega) (by omega) rfl rfl (Nat.le_of_ble_eq_true rfl) (fun v9 Y2 h9 => ?_)
  obtain ⟨rfl, hG_2, hD_2⟩ := h9
  have m_2 : nx Y2 = nx M + 38 := by rw [hG_2.1, n_2]
  have z_2 : kZ Y2 (nx M) := by
    have e9 := hG_2
    rw [← h_2, show nx M + 9 = nx X1 from n_1.symm] at e9
    exact kZ_sub z_1 (by decide) e9
  have j_2 : ∀ a, a < nx X1 → kSameAt X1 Y2 a := fun a ha => (k_2 a ha).tr (hG_2.2.1 a (by omega) (by omega))
  have t_2 : tg Y2 th = 8 := (j_2 th (by omega)).1.trans t_1
  have s_2 : ∀ a, a < nx M → a ≠ th → kSameAt M Y2 a := fun a ha hne => (s_1 a ha hne).tr (j_2 a (by omega))
  have i_2 : fi Y2 th = fi M th := by rw [(j_2 th (by omega)).2.2.1]; exact i_1
  have r_2_2 : fr Y2 th 2 = some (th + 1) := by rw [(j_2 th (by omega)).2.2.2.2.1]; exact r_1_2
  have r_2_3 : fr Y2 th 3 = some (th + 2) := by rw [(j_2 th (by omega)).2.2.2.2.1]; exact r_1_3
  have r_2_4 : fr Y2 th 4 = some (th + 3) := by rw [(j_2 th (by omega)).2.2.2.2.1]; exact r_1_4
  have r_2_5 : fr Y2 th 5 = some (th + 4) := by rw [(j_2 th (by omega)).2.2.2.2.1]; exact r_1_5
  have r_2_6 : fr Y2 th 6 = some (th + 5) := by rw [(j_2 th (by omega)).2.2.2.2.1]; exact r_1_6
  have r_2_7 : fr Y2 th 7 = some (th + 6) := by rw [(j_2 th (by omega)).2.2.2.2.1]; exact r_1_7
  have r_2_8 : fr Y2 th 8 = some (th + 7) := by rw [(j_2 th (by omega)).2.2.2.2.1]; exact r_1_8
  have r_2_9 : fr Y2 th 9 = some (th + 8) := by rw [(j_2 th (by omega)).2.2.2.2.1]; exact r_1_9
  have r_2_10 : fr Y2 th 10 = some (th + 9) := by rw [(j_2 th (by omega)).2.2.2.2.1]; exact r_1_10
  have r_2_0 : fr Y2 th 0 = some wd := by rw [(j_2 th (by omega)).2.2.2.2.1]; exact r_1_0
  have a_2_1 : arrAt Y2 (th + 1) 0 4 := a_1_1.kept (j_2 _ (by omega))
  have a_2_2 : arrAt Y2 (th + 2) 0 5 := a_1_2.kept (j_2 _ (by omega))
  have a_2_3 : arrAt Y2 (th + 3) 0 5 := a_1_3.kept (j_2 _ (by omega))
  have a_2_4 : arrAt Y2 (th + 4) 0 5 := a_1_4.kept (j_2 _ (by omega))
  have a_2_5 : arrAt Y2 (th + 5) 0 5 := a_1_5.kept (j_2 _ (by omega))
  have a_2_6 : arrAt Y2 (th + 6) 0 5 := a_1_6.kept (j_2 _ (by omega))
  have a_2_7 : arrAt Y2 (th + 7) 0 5 := a_1_7.kept (j_2 _ (by omega))
  have a_2_8 : arrAt Y2 (th + 8) 0 20 := a_1_8.kept (j_2 _ (by omega))
  have a_2_9 : arrAt Y2 (th + 9) 0 20 := a_1_9.kept (j_2 _ (by omega))
  rw [show nx M + 9 = th + 10 by omega] at hD_2
  refine kT_putR (c := 7) (k0 := 1) (r0 := (some (nx M + 9))) dX7_init_83 kf_X7_48 t_2 (by decide) (by decide) (Or.inr ⟨rfl, rfl, rfl⟩) rfl rfl ?_
  generalize h_3 : sfr Y2 th 1 (some (nx M + 9)) = X3
  have n_3 : nx X3 = nx M + 38 := by rw [← h_3]; first | rfl | (simp only [k_nx_sfi, k_nx_sfl, k_nx_sfr, k_nx_sai, k_nx_sal, k_nx_sar, k_nx_wai, k_nx_wal, k_nx_snx, k_nx_nwO, k_nx_nwA, k_nx_nwG]; omega)
  have k_3 : ∀ a, a < nx Y2 → a ≠ th → kSameAt Y2 X3 a := by
    intro a ha hne
    rw [← h_3]
    (repeat first | with_reducible exact kSameAt.rf | with_reducible refine kSameAt.tr ?_ (kSame_sfr (by omega)) | with_reducible refine kSameAt.tr ?_ (kSame_sfi (by omega)) | with_reducible refine kSameAt.tr ?_ (kSame_nwA (by first | omega | (simp only [k_nx_sfi, k_nx_sfl, k_nx_sfr, k_nx_sai, k_nx_sal, k_nx_sar, k_nx_wai, k_nx_wal, k_nx_snx, k_nx_nwO, k_nx_nwA, k_nx_nwG]; omega))) | with_reducible refine kSameAt.tr ?_ (kSame_nwG (by first | omega | (simp only [k_nx_sfi, k_nx_sfl, k_nx_sfr, k_nx_sai, k_nx_sal, k_nx_sar, k_nx_wai, k_nx_wal, k_nx_snx, k_nx_nwO, k_nx_nwA, k_nx_nwG]; omega))) | with_reducible refine kSameAt.tr ?_ (kSame_nwO (by first | omega | (simp only [k_nx_sfi, k_nx_sfl, k_nx_sfr, k_nx_sai, k_nx_sal, k_nx_sar, k_nx_wai, k_nx_wal, k_nx_snx, k_nx_nwO, k_nx_nwA, k_nx_nwG]; omega))))
  have s_3 : ∀ a, a < nx M → a ≠ th → kSameAt M X3 a := fun a ha hne => (s_2 a ha hne).tr (k_3 a (by omega) hne)
  have t_3 : tg X3 th = 8 := by
    rw [← h_3]
    (repeat first | with_reducible exact t_2 | with_reducible refine tg_sfr ?_ | with_reducible refine tg_sfi ?_ | with_reducible refine tg_nwA ?_ (by first | omega | (simp only [k_nx_sfi, k_nx_sfl, k_nx_sfr, k_nx_sai, k_nx_sal, k_nx_sar, k_nx_wai, k_nx_wal, k_nx_snx, k_nx_nwO, k_nx_nwA, k_nx_nwG]; omega)) | with_reducible refine tg_nwG ?_ (by first | omega | (simp only [k_nx_sfi, k_nx_sfl, k_nx_sfr, k_nx_sai, k_nx_sal, k_nx_sar, k_nx_wai, k_nx_wal, k_nx_snx, k_nx_nwO, k_nx_nwA, k_nx_nwG]; omega)) | with_reducible refine tg_nwO ?_ (by first | omega | (simp only [k_nx_sfi, k_nx_sfl, k_nx_sfr, k_nx_sai, k_nx_sal, k_nx_sar, k_nx_wai, k_nx_wal, k_nx_snx, k_nx_nwO, k_nx_nwA, k_nx_nwG]; omega)))
  have i_3 : fi X3 th = fi M th := by
    rw [← h_3]
    simp only [k_fi_sfr, k_fi_nwA, k_fi_nwG]
    exact i_2
  have z_3 : kZ X3 (nx M) := by
    rw [← h_3]
    (repeat first | with_reducible exact z_2 | with_reducible refine kZ_sfr ?_ | with_reducible refine kZ_nwA ?_ | with_reducible refine kZ_sfi ?_ (by omega) | with_reducible refine kZ_nwG ?_ (by first | omega | (simp only [k_nx_sfi, k_nx_sfl, k_nx_sfr, k_nx_sai, k_nx_sal, k_nx_sar, k_nx_wai, k_nx_wal, k_nx_snx, k_nx_nwO, k_nx_nwA, k_nx_nwG]; omega)))
  have r_3_2 : fr X3 th 2 = some (th + 1) := by
    rw [← h_3]
    (repeat first | with_reducible exact r_2_2 | with_reducible exact fr_at (by first | omega | (simp only [k_nx_sfi, k_nx_sfl, k_nx_sfr, k_nx_sai, k_nx_sal, k_nx_sar, k_nx_wai, k_nx_wal, k_nx_snx, k_nx_nwO, k_nx_nwA, k_nx_nwG]; omega)) | with_reducible refine fr_sfr ?_ (by decide) | with_reducible refine fr_nwA ?_ (by first | omega | (simp only [k_nx_sfi, k_nx_sfl, k_nx_sfr, k_nx_sai, k_nx_sal, k_nx_sar, k_nx_wai, k_nx_wal, k_nx_snx, k_nx_nwO, k_nx_nwA, k_nx_nwG]; omega)) | with_reducible refine fr_nwG ?_ | with_reducible refine fr_sfi ?_)
  have r_3_3 : fr X3 th 3 = some (th + 2) := by
    rw [← h_3]
    (repeat first | with_reducible exact r_2_3 | with_reducible exact fr_at (by first | omega | (simp only [k_nx_sfi, k_nx_sfl, k_nx_sfr, k_nx_sai, k_nx_sal, k_nx_sar, k_nx_wai, k_nx_wal, k_nx_snx, k_nx_nwO, k_nx_nwA, k_nx_nwG]; omega)) | with_reducible refine fr_sfr ?_ (by decide) | with_reducible refine fr_nwA ?_ (by first | omega | (simp only [k_nx_sfi, k_nx_sfl, k_nx_sfr, k_nx_sai, k_nx_sal, k_nx_sar, k_nx_wai, k_nx_wal, k_nx_snx, k_nx_nwO, k_nx_nwA, k_nx_nwG]; omega)) | with_reducible refine fr_nwG ?_ | with_reducible refine fr_sfi ?_)
  have r_3_4 : fr X3 th 4 = some (th + 3) := by
    rw [← h_3]
    (repeat first | with_reducible exact r_2_4 | with_reducible exact fr_at (by first | omega | (simp only [k_nx_sfi, k_nx_sfl, k_nx_sfr, k_nx_sai, k_nx_sal, k_nx_sar, k_nx_wai, k_nx_wal, k_nx_snx, k_nx_nwO, k_nx_nwA, k_nx_nwG]; omega)) | with_reducible refine fr_sfr ?_ (by decide) | with_reducible refine fr_nwA ?_ (by first | omega | (simp only [k_nx_sfi, k_nx_sfl, k_nx_sfr, k_nx_sai, k_nx_sal, k_nx_sar, k_nx_wai, k_nx_wal, k_nx_snx, k_nx_nwO, k_nx_nwA, k_nx_nwG]; omega)) | with_reducible refine fr_nwG ?_ | with_reducible refine fr_sfi ?_)
  have r_3_5 : fr X3 th 5 = some (th + 4) := by
    rw [← h_3]
    (repeat first | with_reducible exact r_2_5 | with_reducible exact fr_at (by first | omega | (simp only [k_nx_sfi, k_nx_sfl, k_nx_sfr, k_nx_sai, k_nx_sal, k_nx_sar, k_nx_wai, k_nx_wal, k_nx_snx, k_nx_nwO, k_nx_nwA, k_nx_nwG]; omega)) | with_reducible refine fr_sfr ?_ (by decide) | with_reducible refine fr_nwA ?_ (by first | omega | (simp only [k_nx_sfi, k_nx_sfl, k_nx_sfr, k_nx_sai, k_nx_sal, k_nx_sar, k_nx_wai, k_nx_wal, k_nx_snx, k_nx_nwO, k_nx_nwA, k_nx_nwG]; omega)) | with_reducible refine fr_nwG ?_ | with_reducible refine fr_sfi ?_)
  have r_3_6 : fr X3 th 6 = some (th + 5) := by
    rw [← h_3]
    (repeat first | with_reducible exact r_2_6 | with_reducible exact fr_at (by first | omega | (simp only [k_nx_sfi, k_nx_sfl, k_nx_sfr, k_nx_sai, k_nx_sal, k_nx_sar, k_nx_wai, k_nx_wal, k_nx_snx, k_nx_nwO, k_nx_nwA, k_nx_nwG]; omega)) | with_reducible refine fr_sfr ?_ (by decide) | with_reducible refine fr_nwA ?_ (by first | omega | (simp only [k_nx_sfi, k_nx_sfl, k_nx_sfr, k_nx_sai, k_nx_sal, k_nx_sar, k_nx_wai, k_nx_wal, k_nx_snx, k_nx_nwO, k_nx_nwA, k_nx_nwG]; omega)) | with_reducible refine fr_nwG ?_ | with_reducible refine fr_sfi ?_)
  have r_3_7 : fr X3 th 7 = some (th + 6) := by
    rw [← h_3]
    (repeat first | with_reducible exact r_2_7 | with_reducible exact fr_at (by first | omega | (simp only [k_nx_sfi, k_nx_sfl, k_nx_sfr, k_nx_sai, k_nx_sal, k_nx_sar, k_nx_wai, k_nx_wal, k_nx_snx, k_nx_nwO, k_nx_nwA, k_nx_nwG]; omega)) | with_reducible refine fr_sfr ?_ (by decide) | with_reducible refine fr_nwA ?_ (by first | omega | (simp only [k_nx_sfi, k_nx_sfl, k_nx_sfr, k_nx_sai, k_nx_sal, k_nx_sar, k_nx_wai, k_nx_wal, k_nx_snx, k_nx_nwO, k_nx_nwA, k_nx_nwG]; omega)) | with_reducible refine fr_nwG ?_ | with_reducible refine fr_sfi ?_)
  have r_3_8 : fr X3 th 8 = some (th + 7) := by
    rw [← h_3]
    (repeat first | with_reducible exact r_2_8 | with_reducible exact fr_at (by first | omega | (simp only [k_nx_sfi, k_nx_sfl, k_nx_sfr, k_nx_sai, k_nx_sal, k_nx_sar, k_nx_wai, k_nx_wal, k_nx_snx, k_nx_nwO, k_nx_nwA, k_nx_nwG]; omega)) | with_reducible refine fr_sfr ?_ (by decide) | with_reducible refine fr_nwA ?_ (by first | omega | (simp only [k_nx_sfi, k_nx_sfl, k_nx_sfr, k_nx_sai, k_nx_sal, k_nx_sar, k_nx_wai, k_nx_wal, k_nx_snx, k_nx_nwO, k_nx_nwA, k_nx_nwG]; omega)) | with_reducible refine fr_nwG ?_ | with_reducible refine fr_sfi ?_)
  have r_3_9 : fr X3 th 9 = some (th + 8) := by
    rw [← h_3]
    (repeat first | with_reducible exact r_2_9 | with_reducible exact fr_at (by first | omega | (simp only [k_nx_sfi, k_nx_sfl, k_nx_sfr, k_nx_sai, k_nx_sal, k_nx_sar, k_nx_wai, k_nx_wal, k_nx_snx, k_nx_nwO, k_nx_nwA, k_nx_nwG]; omega)) | with_reducible refine fr_sfr ?_ (by decide) | with_reducible refine fr_nwA ?_ (by first | omega | (simp only [k_nx_sfi, k_nx_sfl, k_nx_sfr, k_nx_sai, k_nx_sal, k_nx_sar, k_nx_wai, k_nx_wal, k_nx_snx, k_nx_nwO, k_nx_nwA, k_nx_nwG]; omega)) | with_reducible refine fr_nwG ?_ | with_reducible refine fr_sfi ?_)
  have r_3_10 : fr X3 th 10 = some (th + 9) := by
    rw [← h_3]
    (repeat first | with_reducible exact r_2_10 | with_reducible exact fr_at (by first | omega | (simp only [k_nx_sfi, k_nx_sfl, k_nx_sfr, k_nx_sai, k_nx_sal, k_nx_sar, k_nx_wai, k_nx_wal, k_nx_snx, k_nx_nwO, k_nx_nwA, k_nx_nwG]; omega)) | with_reducible refine fr_sfr ?_ (by decide) | with_reducible refine fr_nwA ?_ (by first | omega | (simp only [k_nx_sfi, k_nx_sfl, k_nx_sfr, k_nx_sai, k_nx_sal, k_nx_sar, k_nx_wai, k_nx_wal, k_nx_snx, k_nx_nwO, k_nx_nwA, k_nx_nwG]; omega)) | with_reducible refine fr_nwG ?_ | with_reducible refine fr_sfi ?_)
  have r_3_0 : fr X3 th 0 = some wd := by
    rw [← h_3]
    (repeat first | with_reducible exact r_2_0 | with_reducible exact fr_at (by first | omega | (simp only [k_nx_sfi, k_nx_sfl, k_nx_sfr, k_nx_sai, k_nx_sal, k_nx_sar, k_nx_wai, k_nx_wal, k_nx_snx, k_nx_nwO, k_nx_nwA, k_nx_nwG]; omega)) | with_reducible refine fr_sfr ?_ (by decide) | with_reducible refine fr_nwA ?_ (by first | omega | (simp only [k_nx_sfi, k_nx_sfl, k_nx_sfr, k_nx_sai, k_nx_sal, k_nx_sar, k_nx_wai, k_nx_wal, k_nx_snx, k_nx_nwO, k_nx_nwA, k_nx_nwG]; omega)) | with_reducible refine fr_nwG ?_ | with_reducible refine fr_sfi ?_)
  have r_3_1 : fr X3 th 1 = some (th + 10) := by
    rw [← h_3]
    (repeat first | with_reducible exact fr_at (by first | omega | (simp only [k_nx_sfi, k_nx_sfl, k_nx_sfr, k_nx_sai, k_nx_sal, k_nx_sar, k_nx_wai, k_nx_wal, k_nx_snx, k_nx_nwO, k_nx_nwA, k_nx_nwG]; omega)) | with_reducible refine fr_sfr ?_ (by decide) | with_reducible refine fr_nwA ?_ (by first | omega | (simp only [k_nx_sfi, k_nx_sfl, k_nx_sfr, k_nx_sai, k_nx_sal, k_nx_sar, k_nx_wai, k_nx_wal, k_nx_snx, k_nx_nwO, k_nx_nwA, k_nx_nwG]; omega)) | with_reducible refine fr_nwG ?_ | with_reducible refine fr_sfi ?_)
  have a_3_1 : arrAt X3 (th + 1) 0 4 := a_2_1.kept (k_3 _ (by omega) (by omega))
  have a_3_2 : arrAt X3 (th + 2) 0 5 := a_2_2.kept (k_3 _ (by omega) (by omega))
  have a_3_3 : arrAt X3 (th + 3) 0 5 := a_2_3.kept (k_3 _ (by omega) (by omega))
  have a_3_4 : arrAt X3 (th + 4) 0 5 := a_2_4.kept (k_3 _ (by omega) (by omega))
  have a_3_5 : arrAt X3 (th + 5) 0 5 := a_2_5.kept (k_3 _ (by omega) (by omega))
  have a_3_6 : arrAt X3 (th + 6) 0 5 := a_2_6.kept (k_3 _ (by omega) (by omega))
  have a_3_7 : arrAt X3 (th + 7) 0 5 := a_2_7.kept (k_3 _ (by omega) (by omega))
  have a_3_8 : arrAt X3 (th + 8) 0 20 := a_2_8.kept (k_3 _ (by omega) (by omega))
  have a_3_9 : arrAt X3 (th + 9) 0 20 := a_2_9.kept (k_3 _ (by omega) (by omega))
  have a_3_10 : ShCopy X3 (th + 10) wd := hD_2.kept (fun b h1 h2 => k_3 b (by omega) (by omega))
  refine kT_return dX7_init_86 rfl ?_
  exact ⟨rfl, ⟨n_3, s_3, t_3.trans ht.symm, i_3, z_3⟩, ⟨t_3, r_3_0, r_3_1, r_3_2, r_3_3, r_3_4, r_3_5, r_3_6, r_3_7, r_3_8, r_3_9, r_3_10, a_3_1, a_3_2, a_3_3, a_3_4, a_3_5, a_3_6, a_3_7, a_3_8, a_3_9, a_3_10⟩⟩

def ShKeeper (M : kM) (th wd : Nat) : Prop := tg M th = 4 ∧ fr M th 0 = some wd ∧ fr M th 1 = some (th + 8) ∧ fr M th 2 = some (th + 1) ∧ fr M th 3 = some (th + 6) ∧ fr M th 4 = some (th + 7) ∧ gridAt M (th + 1) 4 4 ∧ arrAt M (th + 6) 3 5 ∧ arrAt M (th + 7) 0 5 ∧ ShDisk M (th + 8) wd
theorem ShKeeper.kept {M M1 : kM} {th wd : Nat} (h : ShKeeper M th wd) (hs : ∀ b, th ≤ b → b ≤ th + 9 → kSameAt M M1 b) : ShKeeper M1 th wd := by
  obtain ⟨p0, p1, p2, p3, p4, p5, p6, p7, p8, p9⟩ := h
  have h0 := hs th (Nat.le_refl _) (by omega)
  exact ⟨h0.1.trans p0, by rw [h0.2.2.2.2.1]; exact p1, by rw [h0.2.2.2.2.1]; exact p2, by rw [h0.2.2.2.2.1]; exact p3, by rw [h0.2.2.2.2.1]; exact p4, by rw [h0.2.2.2.2.1]; exact p5, p6.kept (fun b h1 h2 => hs b (by omega) (by omega)), p7.kept (hs _ (by omega) (by omega)), p8.kept (hs _ (by omega) (by omega)), p9.kept (fun b h1 h2 => hs b (by omega) (by omega))⟩
set_option maxHeartbeats 4000000 in
set_option maxRecDepth 100000 in
theorem c_Keeper_initR (l : Launch) (g : kG) (hst : l.stackTraces = false) (M : kM) (th wd : Nat) (ht : tg M th = 4) (hn : nx M = th + 1) : kC l g yX3_init cX3_init 2 none [] 12 9 12966 [.ref th, .ref wd] M (fun v M1 => v = none ∧ kGrow M M1 th 9 ∧ ShKeeper M1 th wd) (fun _ _ => False) := by
  refine kC_of hst (by decide) (Nat.le_of_ble_eq_true rfl) ?_
  show kT l g _ _ _ _ _ _ _ _ _ _ 0 [(0, .ref th), (1, .ref wd)] [] M _ _
  refine kT_aload_n dX3_init_0 rfl ?_
  refine kT_objInit dX3_init_1 km_X3_3 kob_1 kob_2 (by omega) (Nat.le_of_ble_eq_true rfl) ?_
  refine kT_aload_n dX3_init_4 rfl ?_
  refine kT_iconst (v := nI 4) dX3_init_5 (by decide) ?_
  refine kT_iconst (v := nI 4) dX3_init_6 (by decide) ?_
  refine kT_mna (n := 4) (k := 4) dX3_init_7 kcl_X3_9 kar_0 (nI_toInt (by omega)) (nI_toInt (by omega)) (by omega) (by omega) (by omega) (by omega) (fun _ _ => ?_)
  show kT l g _ _ _ _ _ _ _ _ _ _ _ _ (.ref (nx M) :: _) _ _ _
  refine kT_putR (c := 3) (k0 := 2) (r0 := (some (nx M))) dX3_init_11 kf_X3_11 ((kOldG (show th < nx M by omega) ht)) (by decide) (by decide) (Or.inr ⟨rfl, rfl, rfl⟩) rfl rfl ?_
  refine kT_aload_n dX3_init_14 rfl ?_
  refine kT_iconst (v := nI 5) dX3_init_15 (by decide) ?_
  refine kT_newa (t := 3) (n := 5) dX3_init_16 rfl (by decide) kar_3 (nI_toInt (by omega)) (by omega) (by omega) (by omega) (fun _ _ => ?_)
  show kT l g _ _ _ _ _ _ _ _ _ _ _ _ (.ref (nx M + 5) :: _) _ _ _
  refine kT_putR (c := 3) (k0 := 3) (r0 := (some (nx M + 5))) dX3_init_18 kf_X3_16 ((kOldU (show th < nx M + 5 by omega) (kOldG (show th < nx M by omega) ht))) (by decide) (by decide) (Or.inr ⟨rfl, rfl, rfl⟩) rfl rfl ?_
  refine kT_aload_n dX3_init_21 rfl ?_
  refine kT_iconst (v := nI 5) dX3_init_22 (by decide) ?_
  refine kT_newa (t := 0) (n := 5) dX3_init_23 rfl (by decide) kar_0 (nI_toInt (by omega)) (by omega) (by omega) (by omega) (fun _ _ => ?_)
  show kT l g _ _ _ _ _ _ _ _ _ _ _ _ (.ref (nx M + 6) :: _) _ _ _
  refine kT_putR (c := 3) (k0 := 4) (r0 := (some (nx M + 6))) dX3_init_25 kf_X3_20 ((kOldU (show th < nx M + 6 by omega) (kOldU (show th < nx M + 5 by omega) (kOldG (show th < nx M by omega) ht)))) (by decide) (by decide) (Or.inr ⟨rfl, rfl, rfl⟩) rfl rfl ?_
  refine kT_aload_n dX3_init_28 rfl ?_
  refine kT_aload_n dX3_init_29 rfl ?_
  refine kT_putR (c := 3) (k0 := 0) (r0 := (some wd)) dX3_init_30 kf_X3_24 ((kOldU (show th < nx M + 6 by omega) (kOldU (show th < nx M + 5 by omega) (kOldG (show th < nx M by omega) ht)))) (by decide) (by decide) (Or.inr ⟨rfl, rfl, rfl⟩) rfl rfl ?_
  refine kT_aload_n dX3_init_33 rfl ?_
  generalize h_1 : sfr (sfr (nwA (sfr (nwA (sfr (nwG M 4 4) th 2 (some (nx M))) 3 5) th 3 (some (nx M + 5))) 0 5) th 4 (some (nx M + 6))) th 0 (some wd) = X1
  have n_1 : nx X1 = nx M + 7 := by rw [← h_1]; first | rfl | (simp only [k_nx_sfi, k_nx_sfl, k_nx_sfr, k_nx_sai, k_nx_sal, k_nx_sar, k_nx_wai, k_nx_wal, k_nx_snx, k_nx_nwO, k_nx_nwA, k_nx_nwG]; omega)
  have k_1 : ∀ a, a < nx M → a ≠ th → kSameAt M X1 a := by
    intro a ha hne
    rw [← h_1]
    (repeat first | with_reducible exact kSameAt.rf | with_reducible refine kSameAt.tr ?_ (kSame_sfr (by omega)) | with_reducible refine kSameAt.tr ?_ (kSame_sfi (by omega)) | with_reducible refine kSameAt.tr ?_ (kSame_nwA (by first | omega | (simp only [k_nx_sfi, k_nx_sfl, k_nx_sfr, k_nx_sai, k_nx_sal, k_nx_sar, k_nx_wai, k_nx_wal, k_nx_snx, k_nx_nwO, k_nx_nwA, k_nx_nwG]; omega))) | with_reducible refine kSameAt.tr ?_ (kSame_nwG (by first | omega | (simp only [k_nx_sfi, k_nx_sfl, k_nx_sfr, k_nx_sai, k_nx_sal, k_nx_sar, k_nx_wai, k_nx_wal, k_nx_snx, k_nx_nwO, k_nx_nwA, k_nx_nwG]; omega))) | with_reducible refine kSameAt.tr ?_ (kSame_nwO (by first | omega | (simp only [k_nx_sfi, k_nx_sfl, k_nx_sfr, k_nx_sai, k_nx_sal, k_nx_sar, k_nx_wai, k_nx_wal, k_nx_snx, k_nx_nwO, k_nx_nwA, k_nx_nwG]; omega))))
  have s_1 : ∀ a, a < nx M → a ≠ th → kSameAt M X1 a := fun a ha hne => ((fun a _ _ => kSameAt.rf) a ha hne).tr (k_1 a (by omega) hne)
  have t_1 : tg X1 th = 4 := by
    rw [← h_1]
    (repeat first | with_reducible exact ht | with_reducible refine tg_sfr ?_ | with_reducible refine tg_sfi ?_ | with_reducible refine tg_nwA ?_ (by first | omega | (simp only [k_nx_sfi, k_nx_sfl, k_nx_sfr, k_nx_sai, k_nx_sal, k_nx_sar, k_nx_wai, k_nx_wal, k_nx_snx, k_nx_nwO, k_nx_nwA, k_nx_nwG]; omega)) | with_reducible refine tg_nwG ?_ (by first | omega | (simp only [k_nx_sfi, k_nx_sfl, k_nx_sfr, k_nx_sai, k_nx_sal, k_nx_sar, k_nx_wai, k_nx_wal, k_nx_snx, k_nx_nwO, k_nx_nwA, k_nx_nwG]; omega)) | with_reducible refine tg_nwO ?_ (by first | omega | (simp only [k_nx_sfi, k_nx_sfl, k_nx_sfr, k_nx_sai, k_nx_sal, k_nx_sar, k_nx_wai, k_nx_wal, k_nx_snx, k_nx_nwO, k_nx_nwA, k_nx_nwG]; omega)))
  have i_1 : fi X1 th = fi M th := by
    rw [← h_1]
    simp only [k_fi_sfr, k_fi_nwA, k_fi_nwG]
  have z_1 : kZ X1 (nx M) := by
    rw [← h_1]
    (repeat first | with_reducible exact kZ0 | with_reducible refine kZ_sfr ?_ | with_reducible refine kZ_nwA ?_ | with_reducible refine kZ_sfi ?_ (by omega) | with_reducible refine kZ_nwG ?_ (by first | omega | (simp only [k_nx_sfi, k_nx_sfl, k_nx_sfr, k_nx_sai, k_nx_sal, k_nx_sar, k_nx_wai, k_nx_wal, k_nx_snx, k_nx_nwO, k_nx_nwA, k_nx_nwG]; omega)))
  have r_1_2 : fr X1 th 2 = some (th + 1) := by
    rw [← h_1]
    (repeat first | with_reducible exact fr_at (by first | omega | (simp only [k_nx_sfi, k_nx_sfl, k_nx_sfr, k_nx_sai, k_nx_sal, k_nx_sar, k_nx_wai, k_nx_wal, k_nx_snx, k_nx_nwO, k_nx_nwA, k_nx_nwG]; omega)) | with_reducible refine fr_sfr ?_ (by decide) | with_reducible refine fr_nwA ?_ (by first | omega | (simp only [k_nx_sfi, k_nx_sfl, k_nx_sfr, k_nx_sai, k_nx_sal, k_nx_sar, k_nx_wai, k_nx_wal, k_nx_snx, k_nx_nwO, k_nx_nwA, k_nx_nwG]; omega)) | with_reducible refine fr_nwG ?_ | with_reducible refine fr_sfi ?_)
  have r_1_3 : fr X1 th 3 = some (th + 6) := by
    rw [← h_1]
    (repeat first | with_reducible exact fr_at (by first | omega | (simp only [k_nx_sfi, k_nx_sfl, k_nx_sfr, k_nx_sai, k_nx_sal, k_nx_sar, k_nx_wai, k_nx_wal, k_nx_snx, k_nx_nwO, k_nx_nwA, k_nx_nwG]; omega)) | with_reducible refine fr_sfr ?_ (by decide) | with_reducible refine fr_nwA ?_ (by first | omega | (simp only [k_nx_sfi, k_nx_sfl, k_nx_sfr, k_nx_sai, k_nx_sal, k_nx_sar, k_nx_wai, k_nx_wal, k_nx_snx, k_nx_nwO, k_nx_nwA, k_nx_nwG]; omega)) | with_reducible refine fr_nwG ?_ | with_reducible refine fr_sfi ?_)
  have r_1_4 : fr X1 th 4 = some (th + 7) := by
    rw [← h_1]
    (repeat first | with_reducible exact fr_at (by first | omega | (simp only [k_nx_sfi, k_nx_sfl, k_nx_sfr, k_nx_sai, k_nx_sal, k_nx_sar, k_nx_wai, k_nx_wal, k_nx_snx, k_nx_nwO, k_nx_nwA, k_nx_nwG]; omega)) | with_reducible refine fr_sfr ?_ (by decide) | with_reducible refine fr_nwA ?_ (by first | omega | (simp only [k_nx_sfi, k_nx_sfl, k_nx_sfr, k_nx_sai, k_nx_sal, k_nx_sar, k_nx_wai, k_nx_wal, k_nx_snx, k_nx_nwO, k_nx_nwA, k_nx_nwG]; omega)) | with_reducible refine fr_nwG ?_ | with_reducible refine fr_sfi ?_)
  have r_1_0 : fr X1 th 0 = some wd := by
    rw [← h_1]
    (repeat first | with_reducible exact fr_at (by first | omega | (simp only [k_nx_sfi, k_nx_sfl, k_nx_sfr, k_nx_sai, k_nx_sal, k_nx_sar, k_nx_wai, k_nx_wal, k_nx_snx, k_nx_nwO, k_nx_nwA, k_nx_nwG]; omega)) | with_reducible refine fr_sfr ?_ (by decide) | with_reducible refine fr_nwA ?_ (by first | omega | (simp only [k_nx_sfi, k_nx_sfl, k_nx_sfr, k_nx_sai, k_nx_sal, k_nx_sar, k_nx_wai, k_nx_wal, k_nx_snx, k_nx_nwO, k_nx_nwA, k_nx_nwG]; omega)) | with_reducible refine fr_nwG ?_ | with_reducible refine fr_sfi ?_)
  have a_1_1 : gridAt X1 (th + 1) 4 4 := by
    rw [← h_1]
    (repeat first | with_reducible exact grid_new (by first | omega | (simp only [k_nx_sfi, k_nx_sfl, k_nx_sfr, k_nx_sai, k_nx_sal, k_nx_sar, k_nx_wai, k_nx_wal, k_nx_snx, k_nx_nwO, k_nx_nwA, k_nx_nwG]; omega)) | with_reducible refine gridAt.kept ?_ (fun b h1 h2 => kSame_sfr (by omega)) | with_reducible refine gridAt.kept ?_ (fun b h1 h2 => kSame_sfi (by omega)) | with_reducible refine gridAt.kept ?_ (fun b h1 h2 => kSame_nwA (by first | omega | (simp only [k_nx_sfi, k_nx_sfl, k_nx_sfr, k_nx_sai, k_nx_sal, k_nx_sar, k_nx_wai, k_nx_wal, k_nx_snx, k_nx_nwO, k_nx_nwA, k_nx_nwG]; omega))) | with_reducible refine gridAt.kept ?_ (fun b h1 h2 => kSame_nwG (by first | omega | (simp only [k_nx_sfi, k_nx_sfl, k_nx_sfr, k_nx_sai, k_nx_sal, k_nx_sar, k_nx_wai, k_nx_wal, k_nx_snx, k_nx_nwO, k_nx_nwA, k_nx_nwG]; omega))))
  have a_1_6 : arrAt X1 (th + 6) 3 5 := by
    rw [← h_1]
    (repeat first | with_reducible exact arr_new (by first | omega | (simp only [k_nx_sfi, k_nx_sfl, k_nx_sfr, k_nx_sai, k_nx_sal, k_nx_sar, k_nx_wai, k_nx_wal, k_nx_snx, k_nx_nwO, k_nx_nwA, k_nx_nwG]; omega)) | with_reducible refine arrAt.kept ?_ (kSame_sfr (by omega)) | with_reducible refine arrAt.kept ?_ (kSame_sfi (by omega)) | with_reducible refine arrAt.kept ?_ (kSame_nwA (by first | omega | (simp only [k_nx_sfi, k_nx_sfl, k_nx_sfr, k_nx_sai, k_nx_sal, k_nx_sar, k_nx_wai, k_nx_wal, k_nx_snx, k_nx_nwO, k_nx_nwA, k_nx_nwG]; omega))) | with_reducible refine arrAt.kept ?_ (kSame_nwG (by first | omega | (simp only [k_nx_sfi, k_nx_sfl, k_nx_sfr, k_nx_sai, k_nx_sal, k_nx_sar, k_nx_wai, k_nx_wal, k_nx_snx, k_nx_nwO, k_nx_nwA, k_nx_nwG]; omega))))
  have a_1_7 : arrAt X1 (th + 7) 0 5 := by
    rw [← h_1]
    (repeat first | with_reducible exact arr_new (by first | omega | (simp only [k_nx_sfi, k_nx_sfl, k_nx_sfr, k_nx_sai, k_nx_sal, k_nx_sar, k_nx_wai, k_nx_wal, k_nx_snx, k_nx_nwO, k_nx_nwA, k_nx_nwG]; omega)) | with_reducible refine arrAt.kept ?_ (kSame_sfr (by omega)) | with_reducible refine arrAt.kept ?_ (kSame_sfi (by omega)) | with_reducible refine arrAt.kept ?_ (kSame_nwA (by first | omega | (simp only [k_nx_sfi, k_nx_sfl, k_nx_sfr, k_nx_sai, k_nx_sal, k_nx_sar, k_nx_wai, k_nx_wal, k_nx_snx, k_nx_nwO, k_nx_nwA, k_nx_nwG]; omega))) | with_reducible refine arrAt.kept ?_ (kSame_nwG (by first | omega | (simp only [k_nx_sfi, k_nx_sfl, k_nx_sfr, k_nx_sai, k_nx_sal, k_nx_sar, k_nx_wai, k_nx_wal, k_nx_snx, k_nx_nwO, k_nx_nwA, k_nx_nwG]; omega))))
  refine kT_new (c := 1) dX3_init_34 (by decide) kcl_X3_28 kin_1 kzn_1 (by omega) (show 8 ≤ _ by omega) (fun _ _ => ?_)
  show kT l g _ _ _ _ _ _ _ _ _ _ _ _ (.ref (nx X1) :: _) _ (_ - 1) (_ - 8)
  rw [n_1]
  generalize h_2 : nwO X1 1 = X2
  have n_2 : nx X2 = nx M + 8 := by rw [← h_2, k_nx_nwO, n_1]
  have k_2 : ∀ a, a < nx X1 → kSameAt X1 X2 a := fun a ha => by rw [← h_2]; exact kSame_nwO ha
  have q_2 : tg X2 (nx M + 7) = 2 := by rw [← h_2, k_tg_nwO, if_pos n_1.symm]
  refine kT_dup dX3_init_37 rfl ?_
  refine kT_aload_n dX3_init_38 rfl ?_
  refine kT_invI (c_Disk_initR l g hst X2 (nx M + 7) wd q_2 (by omega)) (fun _ _ h => h.elim) dX3_init_39 kl_X1_init km_X3_30 ki_X1_init rfl (by omega) (by omega) (by omega) rfl rfl (Nat.le_of_ble_eq_true rfl) (fun v9 Y2 h9 => ?_)
  obtain ⟨rfl, hG_2, hD_2⟩ := h9
  have m_2 : nx Y2 = nx M + 9 := by rw [hG_2.1, n_2]
  have z_2 : kZ Y2 (nx M) := by
    have e9 := hG_2
    rw [← h_2, show nx M + 7 = nx X1 from n_1.symm] at e9
    exact kZ_sub z_1 (by decide) e9
  have j_2 : ∀ a, a < nx X1 → kSameAt X1 Y2 a := fun a ha => (k_2 a ha).tr (hG_2.2.1 a (by omega) (by omega))
  have t_2 : tg Y2 th = 4 := (j_2 th (by omega)).1.trans t_1
  have s_2 : ∀ a, a < nx M → a ≠ th → kSameAt M Y2 a := fun a ha hne => (s_1 a ha hne).tr (j_2 a (by omega))
  have i_2 : fi Y2 th = fi M th := by rw [(j_2 th (by omega)).2.2.1]; exact i_1
  have r_2_2 : fr Y2 th 2 = some (th + 1) := by rw [(j_2 th (by omega)).2.2.2.2.1]; exact r_1_2
  have r_2_3 : fr Y2 th 3 = some (th + 6) := by rw [(j_2 th (by omega)).2.2.2.2.1]; exact r_1_3
  have r_2_4 : fr Y2 th 4 = some (th + 7) := by rw [(j_2 th (by omega)).2.2.2.2.1]; exact r_1_4
  have r_2_0 : fr Y2 th 0 = some wd := by rw [(j_2 th (by omega)).2.2.2.2.1]; exact r_1_0
  have a_2_1 : gridAt Y2 (th + 1) 4 4 := a_1_1.kept (fun b h1 h2 => j_2 b (by omega))
  have a_2_6 : arrAt Y2 (th + 6) 3 5 := a_1_6.kept (j_2 _ (by omega))
  have a_2_7 : arrAt Y2 (th + 7) 0 5 := a_1_7.kept (j_2 _ (by omega))
  rw [show nx M + 7 = th + 8 by omega] at hD_2
  refine kT_putR (c := 3) (k0 := 1) (r0 := (some (nx M + 7))) dX3_init_42 kf_X3_33 t_2 (by decide) (by decide) (Or.inr ⟨rfl, rfl, rfl⟩) rfl rfl ?_
  generalize h_3 : sfr Y2 th 1 (some (nx M + 7)) = X3
  have n_3 : nx X3 = nx M + 9 := by rw [← h_3]; first | rfl | (simp only [k_nx_sfi, k_nx_sfl, k_nx_sfr, k_nx_sai, k_nx_sal, k_nx_sar, k_nx_wai, k_nx_wal, k_nx_snx, k_nx_nwO, k_nx_nwA, k_nx_nwG]; omega)
  have k_3 : ∀ a, a < nx Y2 → a ≠ th → kSameAt Y2 X3 a := by
    intro a ha hne
    rw [← h_3]
    (repeat first | with_reducible exact kSameAt.rf | with_reducible refine kSameAt.tr ?_ (kSame_sfr (by omega)) | with_reducible refine kSameAt.tr ?_ (kSame_sfi (by omega)) | with_reducible refine kSameAt.tr ?_ (kSame_nwA (by first | omega | (simp only [k_nx_sfi, k_nx_sfl, k_nx_sfr, k_nx_sai, k_nx_sal, k_nx_sar, k_nx_wai, k_nx_wal, k_nx_snx, k_nx_nwO, k_nx_nwA, k_nx_nwG]; omega))) | with_reducible refine kSameAt.tr ?_ (kSame_nwG (by first | omega | (simp only [k_nx_sfi, k_nx_sfl, k_nx_sfr, k_nx_sai, k_nx_sal, k_nx_sar, k_nx_wai, k_nx_wal, k_nx_snx, k_nx_nwO, k_nx_nwA, k_nx_nwG]; omega))) | with_reducible refine kSameAt.tr ?_ (kSame_nwO (by first | omega | (simp only [k_nx_sfi, k_nx_sfl, k_nx_sfr, k_nx_sai, k_nx_sal, k_nx_sar, k_nx_wai, k_nx_wal, k_nx_snx, k_nx_nwO, k_nx_nwA, k_nx_nwG]; omega))))
  have s_3 : ∀ a, a < nx M → a ≠ th → kSameAt M X3 a := fun a ha hne => (s_2 a ha hne).tr (k_3 a (by omega) hne)
  have t_3 : tg X3 th = 4 := by
    rw [← h_3]
    (repeat first | with_reducible exact t_2 | with_reducible refine tg_sfr ?_ | with_reducible refine tg_sfi ?_ | with_reducible refine tg_nwA ?_ (by first | omega | (simp only [k_nx_sfi, k_nx_sfl, k_nx_sfr, k_nx_sai, k_nx_sal, k_nx_sar, k_nx_wai, k_nx_wal, k_nx_snx, k_nx_nwO, k_nx_nwA, k_nx_nwG]; omega)) | with_reducible refine tg_nwG ?_ (by first | omega | (simp only [k_nx_sfi, k_nx_sfl, k_nx_sfr, k_nx_sai, k_nx_sal, k_nx_sar, k_nx_wai, k_nx_wal, k_nx_snx, k_nx_nwO, k_nx_nwA, k_nx_nwG]; omega)) | with_reducible refine tg_nwO ?_ (by first | omega | (simp only [k_nx_sfi, k_nx_sfl, k_nx_sfr, k_nx_sai, k_nx_sal, k_nx_sar, k_nx_wai, k_nx_wal, k_nx_snx, k_nx_nwO, k_nx_nwA, k_nx_nwG]; omega)))
  have i_3 : fi X3 th = fi M th := by
    rw [← h_3]
    simp only [k_fi_sfr, k_fi_nwA, k_fi_nwG]
    exact i_2
  have z_3 : kZ X3 (nx M) := by
    rw [← h_3]
    (repeat first | with_reducible exact z_2 | with_reducible refine kZ_sfr ?_ | with_reducible refine kZ_nwA ?_ | with_reducible refine kZ_sfi ?_ (by omega) | with_reducible refine kZ_nwG ?_ (by first | omega | (simp only [k_nx_sfi, k_nx_sfl, k_nx_sfr, k_nx_sai, k_nx_sal, k_nx_sar, k_nx_wai, k_nx_wal, k_nx_snx, k_nx_nwO, k_nx_nwA, k_nx_nwG]; omega)))
  have r_3_2 : fr X3 th 2 = some (th + 1) := by
    rw [← h_3]
    (repeat first | with_reducible exact r_2_2 | with_reducible exact fr_at (by first | omega | (simp only [k_nx_sfi, k_nx_sfl, k_nx_sfr, k_nx_sai, k_nx_sal, k_nx_sar, k_nx_wai, k_nx_wal, k_nx_snx, k_nx_nwO, k_nx_nwA, k_nx_nwG]; omega)) | with_reducible refine fr_sfr ?_ (by decide) | with_reducible refine fr_nwA ?_ (by first | omega | (simp only [k_nx_sfi, k_nx_sfl, k_nx_sfr, k_nx_sai, k_nx_sal, k_nx_sar, k_nx_wai, k_nx_wal, k_nx_snx, k_nx_nwO, k_nx_nwA, k_nx_nwG]; omega)) | with_reducible refine fr_nwG ?_ | with_reducible refine fr_sfi ?_)
  have r_3_3 : fr X3 th 3 = some (th + 6) := by
    rw [← h_3]
    (repeat first | with_reducible exact r_2_3 | with_reducible exact fr_at (by first | omega | (simp only [k_nx_sfi, k_nx_sfl, k_nx_sfr, k_nx_sai, k_nx_sal, k_nx_sar, k_nx_wai, k_nx_wal, k_nx_snx, k_nx_nwO, k_nx_nwA, k_nx_nwG]; omega)) | with_reducible refine fr_sfr ?_ (by decide) | with_reducible refine fr_nwA ?_ (by first | omega | (simp only [k_nx_sfi, k_nx_sfl, k_nx_sfr, k_nx_sai, k_nx_sal, k_nx_sar, k_nx_wai, k_nx_wal, k_nx_snx, k_nx_nwO, k_nx_nwA, k_nx_nwG]; omega)) | with_reducible refine fr_nwG ?_ | with_reducible refine fr_sfi ?_)
  have r_3_4 : fr X3 th 4 = some (th + 7) := by
    rw [← h_3]
    (repeat first | with_reducible exact r_2_4 | with_reducible exact fr_at (by first | omega | (simp only [k_nx_sfi, k_nx_sfl, k_nx_sfr, k_nx_sai, k_nx_sal, k_nx_sar, k_nx_wai, k_nx_wal, k_nx_snx, k_nx_nwO, k_nx_nwA, k_nx_nwG]; omega)) | with_reducible refine fr_sfr ?_ (by decide) | with_reducible refine fr_nwA ?_ (by first | omega | (simp only [k_nx_sfi, k_nx_sfl, k_nx_sfr, k_nx_sai, k_nx_sal, k_nx_sar, k_nx_wai, k_nx_wal, k_nx_snx, k_nx_nwO, k_nx_nwA, k_nx_nwG]; omega)) | with_reducible refine fr_nwG ?_ | with_reducible refine fr_sfi ?_)
  have r_3_0 : fr X3 th 0 = some wd := by
    rw [← h_3]
    (repeat first | with_reducible exact r_2_0 | with_reducible exact fr_at (by first | omega | (simp only [k_nx_sfi, k_nx_sfl, k_nx_sfr, k_nx_sai, k_nx_sal, k_nx_sar, k_nx_wai, k_nx_wal, k_nx_snx, k_nx_nwO, k_nx_nwA, k_nx_nwG]; omega)) | with_reducible refine fr_sfr ?_ (by decide) | with_reducible refine fr_nwA ?_ (by first | omega | (simp only [k_nx_sfi, k_nx_sfl, k_nx_sfr, k_nx_sai, k_nx_sal, k_nx_sar, k_nx_wai, k_nx_wal, k_nx_snx, k_nx_nwO, k_nx_nwA, k_nx_nwG]; omega)) | with_reducible refine fr_nwG ?_ | with_reducible refine fr_sfi ?_)
  have r_3_1 : fr X3 th 1 = some (th + 8) := by
    rw [← h_3]
    (repeat first | with_reducible exact fr_at (by first | omega | (simp only [k_nx_sfi, k_nx_sfl, k_nx_sfr, k_nx_sai, k_nx_sal, k_nx_sar, k_nx_wai, k_nx_wal, k_nx_snx, k_nx_nwO, k_nx_nwA, k_nx_nwG]; omega)) | with_reducible refine fr_sfr ?_ (by decide) | with_reducible refine fr_nwA ?_ (by first | omega | (simp only [k_nx_sfi, k_nx_sfl, k_nx_sfr, k_nx_sai, k_nx_sal, k_nx_sar, k_nx_wai, k_nx_wal, k_nx_snx, k_nx_nwO, k_nx_nwA, k_nx_nwG]; omega)) | with_reducible refine fr_nwG ?_ | with_reducible refine fr_sfi ?_)
  have a_3_1 : gridAt X3 (th + 1) 4 4 := a_2_1.kept (fun b h1 h2 => k_3 b (by omega) (by omega))
  have a_3_6 : arrAt X3 (th + 6) 3 5 := a_2_6.kept (k_3 _ (by omega) (by omega))
  have a_3_7 : arrAt X3 (th + 7) 0 5 := a_2_7.kept (k_3 _ (by omega) (by omega))
  have a_3_8 : ShDisk X3 (th + 8) wd := hD_2.kept (fun b h1 h2 => k_3 b (by omega) (by omega))
  refine kT_return dX3_init_45 rfl ?_
  exact ⟨rfl, ⟨n_3, s_3, t_3.trans ht.symm, i_3, z_3⟩, ⟨t_3, r_3_0, r_3_1, r_3_2, r_3_3, r_3_4, a_3_1, a_3_6, a_3_7, a_3_8⟩⟩

def ShWorld (M : kM) (g : kG) (th : Nat) : Prop := tg M th = 11 ∧ fr M th 10 = some (th + 1) ∧ fr M th 11 = some (th + 2) ∧ fr M th 12 = some (th + 3) ∧ fr M th 13 = some (th + 4) ∧ fr M th 14 = some (th + 5) ∧ fr M th 15 = some (th + 7) ∧ fr M th 16 = some (th + 8) ∧ fr M th 17 = some (th + 9) ∧ arrAt M (th + 1) 4 500 ∧ arrAt M (th + 2) 5 2196 ∧ arrAt M (th + 3) 0 36 ∧ arrAt M (th + 4) 0 36 ∧ ShMessage M g (th + 5) ∧ arrAt M (th + 7) 2 6400 ∧ arrAt M (th + 8) 2 64 ∧ arrAt M (th + 9) 0 100
theorem ShWorld.kept {M M1 : kM} {g : kG} {th : Nat} (h : ShWorld M g th) (hs : ∀ b, th ≤ b → b ≤ th + 9 → kSameAt M M1 b) : ShWorld M1 g th := by
  obtain ⟨p0, p1, p2, p3, p4, p5, p6, p7, p8, p9, p10, p11, p12, p13, p14, p15, p16⟩ := h
  have h0 := hs th (Nat.le_refl _) (by omega)
  exact ⟨h0.1.trans p0, by rw [h0.2.2.2.2.1]; exact p1, by rw [h0.2.2.2.2.1]; exact p2, by rw [h0.2.2.2.2.1]; exact p3, by rw [h0.2.2.2.2.1]; exact p4, by rw [h0.2.2.2.2.1]; exact p5, by rw [h0.2.2.2.2.1]; exact p6, by rw [h0.2.2.2.2.1]; exact p7, by rw [h0.2.2.2.2.1]; exact p8, p9.kept (hs _ (by omega) (by omega)), p10.kept (hs _ (by omega) (by omega)), p11.kept (hs _ (by omega) (by omega)), p12.kept (hs _ (by omega) (by omega)), p13.kept (fun b h1 h2 => hs b (by omega) (by omega)), p14.kept (hs _ (by omega) (by omega)), p15.kept (hs _ (by omega) (by omega)), p16.kept (hs _ (by omega) (by omega))⟩
set_option maxHeartbeats 4000000 in
set_option maxRecDepth 100000 in
theorem c_World_initR (l : Launch) (g : kG) (hst : l.stackTraces = false) (M : kM) (th : Nat) (ht : tg M th = 11) (hn : nx M = th + 1) : kC l g yX10_init cX10_init 1 none [] 12 9 9367 [.ref th] M (fun v M1 => v = none ∧ kGrow M M1 th 9 ∧ ShWorld M1 g th) (fun _ _ => False) := by
  refine kC_of hst (by decide) (Nat.le_of_ble_eq_true rfl) ?_
  show kT l g _ _ _ _ _ _ _ _ _ _ 0 [(0, .ref th)] [] M _ _
  refine kT_aload_n dX10_init_0 rfl ?_
  refine kT_objInit dX10_init_1 km_X10_3 kob_1 kob_2 (by omega) (Nat.le_of_ble_eq_true rfl) ?_
  refine kT_aload_n dX10_init_4 rfl ?_
  refine kT_sipush (v := nI 500) dX10_init_5 (by decide) ?_
  refine kT_anew (t := 4) (n := 500) dX10_init_8 (by decide) (by decide) kcl_X10_9 (nI_toInt (by omega)) (by omega) (by omega) (by omega) (fun _ _ => ?_)
  show kT l g _ _ _ _ _ _ _ _ _ _ _ _ (.ref (nx M) :: _) _ _ _
  refine kT_putR (c := 10) (k0 := 10) (r0 := (some (nx M))) dX10_init_11 kf_X10_11 ((kOldU (show th < nx M by omega) ht)) (by decide) (by decide) (Or.inr ⟨rfl, rfl, rfl⟩) rfl rfl ?_
  refine kT_aload_n dX10_init_14 rfl ?_
  refine kT_sipush (v := nI 2196) dX10_init_15 (by decide) ?_
  refine kT_anew (t := 5) (n := 2196) dX10_init_18 (by decide) (by decide) kcl_X10_17 (nI_toInt (by omega)) (by omega) (by omega) (by omega) (fun _ _ => ?_)
  show kT l g _ _ _ _ _ _ _ _ _ _ _ _ (.ref (nx M + 1) :: _) _ _ _
  refine kT_putR (c := 10) (k0 := 11) (r0 := (some (nx M + 1))) dX10_init_21 kf_X10_19 ((kOldU (show th < nx M + 1 by omega) (kOldU (show th < nx M by omega) ht))) (by decide) (by decide) (Or.inr ⟨rfl, rfl, rfl⟩) rfl rfl ?_
  refine kT_aload_n dX10_init_24 rfl ?_
  refine kT_bipush (v := nI 36) dX10_init_25 (by decide) ?_
  refine kT_newa (t := 0) (n := 36) dX10_init_27 rfl (by decide) kar_0 (nI_toInt (by omega)) (by omega) (by omega) (by omega) (fun _ _ => ?_)
  show kT l g _ _ _ _ _ _ _ _ _ _ _ _ (.ref (nx M + 2) :: _) _ _ _
  refine kT_putR (c := 10) (k0 := 12) (r0 := (some (nx M + 2))) dX10_init_29 kf_X10_23 ((kOldU (show th < nx M + 2 by omega) (kOldU (show th < nx M + 1 by omega) (kOldU (show th < nx M by omega) ht)))) (by decide) (by decide) (Or.inr ⟨rfl, rfl, rfl⟩) rfl rfl ?_
  refine kT_aload_n dX10_init_32 rfl ?_
  refine kT_bipush (v := nI 36) dX10_init_33 (by decide) ?_
  refine kT_newa (t := 0) (n := 36) dX10_init_35 rfl (by decide) kar_0 (nI_toInt (by omega)) (by omega) (by omega) (by omega) (fun _ _ => ?_)
  show kT l g _ _ _ _ _ _ _ _ _ _ _ _ (.ref (nx M + 3) :: _) _ _ _
  refine kT_putR (c := 10) (k0 := 13) (r0 := (some (nx M + 3))) dX10_init_37 kf_X10_27 ((kOldU (show th < nx M + 3 by omega) (kOldU (show th < nx M + 2 by omega) (kOldU (show th < nx M + 1 by omega) (kOldU (show th < nx M by omega) ht))))) (by decide) (by decide) (Or.inr ⟨rfl, rfl, rfl⟩) rfl rfl ?_
  refine kT_aload_n dX10_init_40 rfl ?_
  generalize h_1 : sfr (nwA (sfr (nwA (sfr (nwA (sfr (nwA M 4 500) th 10 (some (nx M))) 5 2196) th 11 (some (nx M + 1))) 0 36) th 12 (some (nx M + 2))) 0 36) th 13 (some (nx M + 3)) = X1
  have n_1 : nx X1 = nx M + 4 := by rw [← h_1]; first | rfl | (simp only [k_nx_sfi, k_nx_sfl, k_nx_sfr, k_nx_sai, k_nx_sal, k_nx_sar, k_nx_wai, k_nx_wal, k_nx_snx, k_nx_nwO, k_nx_nwA, k_nx_nwG]; omega)
  have k_1 : ∀ a, a < nx M → a ≠ th → kSameAt M X1 a := by
    intro a ha hne
    rw [← h_1]
    (repeat first | with_reducible exact kSameAt.rf | with_reducible refine kSameAt.tr ?_ (kSame_sfr (by omega)) | with_reducible refine kSameAt.tr ?_ (kSame_sfi (by omega)) | with_reducible refine kSameAt.tr ?_ (kSame_nwA (by first | omega | (simp only [k_nx_sfi, k_nx_sfl, k_nx_sfr, k_nx_sai, k_nx_sal, k_nx_sar, k_nx_wai, k_nx_wal, k_nx_snx, k_nx_nwO, k_nx_nwA, k_nx_nwG]; omega))) | with_reducible refine kSameAt.tr ?_ (kSame_nwG (by first | omega | (simp only [k_nx_sfi, k_nx_sfl, k_nx_sfr, k_nx_sai, k_nx_sal, k_nx_sar, k_nx_wai, k_nx_wal, k_nx_snx, k_nx_nwO, k_nx_nwA, k_nx_nwG]; omega))) | with_reducible refine kSameAt.tr ?_ (kSame_nwO (by first | omega | (simp only [k_nx_sfi, k_nx_sfl, k_nx_sfr, k_nx_sai, k_nx_sal, k_nx_sar, k_nx_wai, k_nx_wal, k_nx_snx, k_nx_nwO, k_nx_nwA, k_nx_nwG]; omega))))
  have s_1 : ∀ a, a < nx M → a ≠ th → kSameAt M X1 a := fun a ha hne => ((fun a _ _ => kSameAt.rf) a ha hne).tr (k_1 a (by omega) hne)
  have t_1 : tg X1 th = 11 := by
    rw [← h_1]
    (repeat first | with_reducible exact ht | with_reducible refine tg_sfr ?_ | with_reducible refine tg_sfi ?_ | with_reducible refine tg_nwA ?_ (by first | omega | (simp only [k_nx_sfi, k_nx_sfl, k_nx_sfr, k_nx_sai, k_nx_sal, k_nx_sar, k_nx_wai, k_nx_wal, k_nx_snx, k_nx_nwO, k_nx_nwA, k_nx_nwG]; omega)) | with_reducible refine tg_nwG ?_ (by first | omega | (simp only [k_nx_sfi, k_nx_sfl, k_nx_sfr, k_nx_sai, k_nx_sal, k_nx_sar, k_nx_wai, k_nx_wal, k_nx_snx, k_nx_nwO, k_nx_nwA, k_nx_nwG]; omega)) | with_reducible refine tg_nwO ?_ (by first | omega | (simp only [k_nx_sfi, k_nx_sfl, k_nx_sfr, k_nx_sai, k_nx_sal, k_nx_sar, k_nx_wai, k_nx_wal, k_nx_snx, k_nx_nwO, k_nx_nwA, k_nx_nwG]; omega)))
  have i_1 : fi X1 th = fi M th := by
    rw [← h_1]
    simp only [k_fi_sfr, k_fi_nwA, k_fi_nwG]
  have z_1 : kZ X1 (nx M) := by
    rw [← h_1]
    (repeat first | with_reducible exact kZ0 | with_reducible refine kZ_sfr ?_ | with_reducible refine kZ_nwA ?_ | with_reducible refine kZ_sfi ?_ (by omega) | with_reducible refine kZ_nwG ?_ (by first | omega | (simp only [k_nx_sfi, k_nx_sfl, k_nx_sfr, k_nx_sai, k_nx_sal, k_nx_sar, k_nx_wai, k_nx_wal, k_nx_snx, k_nx_nwO, k_nx_nwA, k_nx_nwG]; omega)))
  have r_1_10 : fr X1 th 10 = some (th + 1) := by
    rw [← h_1]
    (repeat first | with_reducible exact fr_at (by first | omega | (simp only [k_nx_sfi, k_nx_sfl, k_nx_sfr, k_nx_sai, k_nx_sal, k_nx_sar, k_nx_wai, k_nx_wal, k_nx_snx, k_nx_nwO, k_nx_nwA, k_nx_nwG]; omega)) | with_reducible refine fr_sfr ?_ (by decide) | with_reducible refine fr_nwA ?_ (by first | omega | (simp only [k_nx_sfi, k_nx_sfl, k_nx_sfr, k_nx_sai, k_nx_sal, k_nx_sar, k_nx_wai, k_nx_wal, k_nx_snx, k_nx_nwO, k_nx_nwA, k_nx_nwG]; omega)) | with_reducible refine fr_nwG ?_ | with_reducible refine fr_sfi ?_)
  have r_1_11 : fr X1 th 11 = some (th + 2) := by
    rw [← h_1]
    (repeat first | with_reducible exact fr_at (by first | omega | (simp only [k_nx_sfi, k_nx_sfl, k_nx_sfr, k_nx_sai, k_nx_sal, k_nx_sar, k_nx_wai, k_nx_wal, k_nx_snx, k_nx_nwO, k_nx_nwA, k_nx_nwG]; omega)) | with_reducible refine fr_sfr ?_ (by decide) | with_reducible refine fr_nwA ?_ (by first | omega | (simp only [k_nx_sfi, k_nx_sfl, k_nx_sfr, k_nx_sai, k_nx_sal, k_nx_sar, k_nx_wai, k_nx_wal, k_nx_snx, k_nx_nwO, k_nx_nwA, k_nx_nwG]; omega)) | with_reducible refine fr_nwG ?_ | with_reducible refine fr_sfi ?_)
  have r_1_12 : fr X1 th 12 = some (th + 3) := by
    rw [← h_1]
    (repeat first | with_reducible exact fr_at (by first | omega | (simp only [k_nx_sfi, k_nx_sfl, k_nx_sfr, k_nx_sai, k_nx_sal, k_nx_sar, k_nx_wai, k_nx_wal, k_nx_snx, k_nx_nwO, k_nx_nwA, k_nx_nwG]; omega)) | with_reducible refine fr_sfr ?_ (by decide) | with_reducible refine fr_nwA ?_ (by first | omega | (simp only [k_nx_sfi, k_nx_sfl, k_nx_sfr, k_nx_sai, k_nx_sal, k_nx_sar, k_nx_wai, k_nx_wal, k_nx_snx, k_nx_nwO, k_nx_nwA, k_nx_nwG]; omega)) | with_reducible refine fr_nwG ?_ | with_reducible refine fr_sfi ?_)
  have r_1_13 : fr X1 th 13 = some (th + 4) := by
    rw [← h_1]
    (repeat first | with_reducible exact fr_at (by first | omega | (simp only [k_nx_sfi, k_nx_sfl, k_nx_sfr, k_nx_sai, k_nx_sal, k_nx_sar, k_nx_wai, k_nx_wal, k_nx_snx, k_nx_nwO, k_nx_nwA, k_nx_nwG]; omega)) | with_reducible refine fr_sfr ?_ (by decide) | with_reducible refine fr_nwA ?_ (by first | omega | (simp only [k_nx_sfi, k_nx_sfl, k_nx_sfr, k_nx_sai, k_nx_sal, k_nx_sar, k_nx_wai, k_nx_wal, k_nx_snx, k_nx_nwO, k_nx_nwA, k_nx_nwG]; omega)) | with_reducible refine fr_nwG ?_ | with_reducible refine fr_sfi ?_)
  have a_1_1 : arrAt X1 (th + 1) 4 500 := by
    rw [← h_1]
    (repeat first | with_reducible exact arr_new (by first | omega | (simp only [k_nx_sfi, k_nx_sfl, k_nx_sfr, k_nx_sai, k_nx_sal, k_nx_sar, k_nx_wai, k_nx_wal, k_nx_snx, k_nx_nwO, k_nx_nwA, k_nx_nwG]; omega)) | with_reducible refine arrAt.kept ?_ (kSame_sfr (by omega)) | with_reducible refine arrAt.kept ?_ (kSame_sfi (by omega)) | with_reducible refine arrAt.kept ?_ (kSame_nwA (by first | omega | (simp only [k_nx_sfi, k_nx_sfl, k_nx_sfr, k_nx_sai, k_nx_sal, k_nx_sar, k_nx_wai, k_nx_wal, k_nx_snx, k_nx_nwO, k_nx_nwA, k_nx_nwG]; omega))) | with_reducible refine arrAt.kept ?_ (kSame_nwG (by first | omega | (simp only [k_nx_sfi, k_nx_sfl, k_nx_sfr, k_nx_sai, k_nx_sal, k_nx_sar, k_nx_wai, k_nx_wal, k_nx_snx, k_nx_nwO, k_nx_nwA, k_nx_nwG]; omega))))
  have a_1_2 : arrAt X1 (th + 2) 5 2196 := by
    rw [← h_1]
    (repeat first | with_reducible exact arr_new (by first | omega | (simp only [k_nx_sfi, k_nx_sfl, k_nx_sfr, k_nx_sai, k_nx_sal, k_nx_sar, k_nx_wai, k_nx_wal, k_nx_snx, k_nx_nwO, k_nx_nwA, k_nx_nwG]; omega)) | with_reducible refine arrAt.kept ?_ (kSame_sfr (by omega)) | with_reducible refine arrAt.kept ?_ (kSame_sfi (by omega)) | with_reducible refine arrAt.kept ?_ (kSame_nwA (by first | omega | (simp only [k_nx_sfi, k_nx_sfl, k_nx_sfr, k_nx_sai, k_nx_sal, k_nx_sar, k_nx_wai, k_nx_wal, k_nx_snx, k_nx_nwO, k_nx_nwA, k_nx_nwG]; omega))) | with_reducible refine arrAt.kept ?_ (kSame_nwG (by first | omega | (simp only [k_nx_sfi, k_nx_sfl, k_nx_sfr, k_nx_sai, k_nx_sal, k_nx_sar, k_nx_wai, k_nx_wal, k_nx_snx, k_nx_nwO, k_nx_nwA, k_nx_nwG]; omega))))
  have a_1_3 : arrAt X1 (th + 3) 0 36 := by
    rw [← h_1]
    (repeat first | with_reducible exact arr_new (by first | omega | (simp only [k_nx_sfi, k_nx_sfl, k_nx_sfr, k_nx_sai, k_nx_sal, k_nx_sar, k_nx_wai, k_nx_wal, k_nx_snx, k_nx_nwO, k_nx_nwA, k_nx_nwG]; omega)) | with_reducible refine arrAt.kept ?_ (kSame_sfr (by omega)) | with_reducible refine arrAt.kept ?_ (kSame_sfi (by omega)) | with_reducible refine arrAt.kept ?_ (kSame_nwA (by first | omega | (simp only [k_nx_sfi, k_nx_sfl, k_nx_sfr, k_nx_sai, k_nx_sal, k_nx_sar, k_nx_wai, k_nx_wal, k_nx_snx, k_nx_nwO, k_nx_nwA, k_nx_nwG]; omega))) | with_reducible refine arrAt.kept ?_ (kSame_nwG (by first | omega | (simp only [k_nx_sfi, k_nx_sfl, k_nx_sfr, k_nx_sai, k_nx_sal, k_nx_sar, k_nx_wai, k_nx_wal, k_nx_snx, k_nx_nwO, k_nx_nwA, k_nx_nwG]; omega))))
  have a_1_4 : arrAt X1 (th + 4) 0 36 := by
    rw [← h_1]
    (repeat first | with_reducible exact arr_new (by first | omega | (simp only [k_nx_sfi, k_nx_sfl, k_nx_sfr, k_nx_sai, k_nx_sal, k_nx_sar, k_nx_wai, k_nx_wal, k_nx_snx, k_nx_nwO, k_nx_nwA, k_nx_nwG]; omega)) | with_reducible refine arrAt.kept ?_ (kSame_sfr (by omega)) | with_reducible refine arrAt.kept ?_ (kSame_sfi (by omega)) | with_reducible refine arrAt.kept ?_ (kSame_nwA (by first | omega | (simp only [k_nx_sfi, k_nx_sfl, k_nx_sfr, k_nx_sai, k_nx_sal, k_nx_sar, k_nx_wai, k_nx_wal, k_nx_snx, k_nx_nwO, k_nx_nwA, k_nx_nwG]; omega))) | with_reducible refine arrAt.kept ?_ (kSame_nwG (by first | omega | (simp only [k_nx_sfi, k_nx_sfl, k_nx_sfr, k_nx_sai, k_nx_sal, k_nx_sar, k_nx_wai, k_nx_wal, k_nx_snx, k_nx_nwO, k_nx_nwA, k_nx_nwG]; omega))))
  refine kT_new (c := 4) dX10_init_41 (by decide) kcl_X10_17 kin_4 kzn_4 (by omega) (show 5 ≤ _ by omega) (fun _ _ => ?_)
  show kT l g _ _ _ _ _ _ _ _ _ _ _ _ (.ref (nx X1) :: _) _ (_ - 1) (_ - 5)
  rw [n_1]
  generalize h_2 : nwO X1 4 = X2
  have n_2 : nx X2 = nx M + 5 := by rw [← h_2, k_nx_nwO, n_1]
  have k_2 : ∀ a, a < nx X1 → kSameAt X1 X2 a := fun a ha => by rw [← h_2]; exact kSame_nwO ha
  have q_2 : tg X2 (nx M + 4) = 5 := by rw [← h_2, k_tg_nwO, if_pos n_1.symm]
  refine kT_dup dX10_init_44 rfl ?_
  refine kT_invIN (host := "SearchCluster") (c_Message_initR l g hst X2 (nx M + 4) q_2 (by omega)) (fun _ _ h => h.elim) dX10_init_45 kl_X4_init kmn_X10_30 ki_X4_init rfl (by omega) (by omega) (by omega) rfl rfl (Nat.le_of_ble_eq_true rfl) (fun v9 Y2 h9 => ?_)
  obtain ⟨rfl, hG_2, hD_2⟩ := h9
  have m_2 : nx Y2 = nx M + 6 := by rw [hG_2.1, n_2]
  have z_2 : kZ Y2 (nx M) := by
    have e9 := hG_2
    rw [← h_2, show nx M + 4 = nx X1 from n_1.symm] at e9
    exact kZ_sub z_1 (by decide) e9
  have j_2 : ∀ a, a < nx X1 → kSameAt X1 Y2 a := fun a ha => (k_2 a ha).tr (hG_2.2.1 a (by omega) (by omega))
  have t_2 : tg Y2 th = 11 := (j_2 th (by omega)).1.trans t_1
  have s_2 : ∀ a, a < nx M → a ≠ th → kSameAt M Y2 a := fun a ha hne => (s_1 a ha hne).tr (j_2 a (by omega))
  have i_2 : fi Y2 th = fi M th := by rw [(j_2 th (by omega)).2.2.1]; exact i_1
  have r_2_10 : fr Y2 th 10 = some (th + 1) := by rw [(j_2 th (by omega)).2.2.2.2.1]; exact r_1_10
  have r_2_11 : fr Y2 th 11 = some (th + 2) := by rw [(j_2 th (by omega)).2.2.2.2.1]; exact r_1_11
  have r_2_12 : fr Y2 th 12 = some (th + 3) := by rw [(j_2 th (by omega)).2.2.2.2.1]; exact r_1_12
  have r_2_13 : fr Y2 th 13 = some (th + 4) := by rw [(j_2 th (by omega)).2.2.2.2.1]; exact r_1_13
  have a_2_1 : arrAt Y2 (th + 1) 4 500 := a_1_1.kept (j_2 _ (by omega))
  have a_2_2 : arrAt Y2 (th + 2) 5 2196 := a_1_2.kept (j_2 _ (by omega))
  have a_2_3 : arrAt Y2 (th + 3) 0 36 := a_1_3.kept (j_2 _ (by omega))
  have a_2_4 : arrAt Y2 (th + 4) 0 36 := a_1_4.kept (j_2 _ (by omega))
  rw [show nx M + 4 = th + 5 by omega] at hD_2
  refine kT_putR (c := 10) (k0 := 14) (r0 := (some (nx M + 4))) dX10_init_48 kf_X10_31 t_2 (by decide) (by decide) (Or.inr ⟨rfl, rfl, rfl⟩) rfl rfl ?_
  refine kT_aload_n dX10_init_51 rfl ?_
  refine kT_sipush (v := nI 6400) dX10_init_52 (by decide) ?_
  refine kT_newa (t := 2) (n := 6400) dX10_init_55 rfl (by decide) kar_2 (nI_toInt (by omega)) (by omega) (by omega) (by omega) (fun _ _ => ?_)
  show kT l g _ _ _ _ _ _ _ _ _ _ _ _ (.ref (nx Y2) :: _) _ _ _
  rw [show nx Y2 = nx M + 6 by omega]
  refine kT_putR (c := 10) (k0 := 15) (r0 := (some (nx M + 6))) dX10_init_57 kf_X10_35 ((kOldU (show th < nx Y2 by omega) t_2)) (by decide) (by decide) (Or.inr ⟨rfl, rfl, rfl⟩) rfl rfl ?_
  refine kT_aload_n dX10_init_60 rfl ?_
  refine kT_bipush (v := nI 64) dX10_init_61 (by decide) ?_
  refine kT_newa (t := 2) (n := 64) dX10_init_63 rfl (by decide) kar_2 (nI_toInt (by omega)) (by omega) (by omega) (by omega) (fun _ _ => ?_)
  show kT l g _ _ _ _ _ _ _ _ _ _ _ _ (.ref (nx Y2 + 1) :: _) _ _ _
  rw [show nx Y2 + 1 = nx M + 7 by omega]
  refine kT_putR (c := 10) (k0 := 16) (r0 := (some (nx M + 7))) dX10_init_65 kf_X10_39 ((kOldU (show th < nx Y2 + 1 by omega) (kOldU (show th < nx Y2 by omega) t_2))) (by decide) (by decide) (Or.inr ⟨rfl, rfl, rfl⟩) rfl rfl ?_
  refine kT_aload_n dX10_init_68 rfl ?_
  refine kT_bipush (v := nI 100) dX10_init_69 (by decide) ?_
  refine kT_newa (t := 0) (n := 100) dX10_init_71 rfl (by decide) kar_0 (nI_toInt (by omega)) (by omega) (by omega) (by omega) (fun _ _ => ?_)
  show kT l g _ _ _ _ _ _ _ _ _ _ _ _ (.ref (nx Y2 + 2) :: _) _ _ _
  rw [show nx Y2 + 2 = nx M + 8 by omega]
  refine kT_putR (c := 10) (k0 := 17) (r0 := (some (nx M + 8))) dX10_init_73 kf_X10_42 ((kOldU (show th < nx Y2 + 2 by omega) (kOldU (show th < nx Y2 + 1 by omega) (kOldU (show th < nx Y2 by omega) t_2)))) (by decide) (by decide) (Or.inr ⟨rfl, rfl, rfl⟩) rfl rfl ?_
  generalize h_3 : sfr (nwA (sfr (nwA (sfr (nwA (sfr Y2 th 14 (some (nx M + 4))) 2 6400) th 15 (some (nx M + 6))) 2 64) th 16 (some (nx M + 7))) 0 100) th 17 (some (nx M + 8)) = X3
  have n_3 : nx X3 = nx M + 9 := by rw [← h_3]; first | rfl | (simp only [k_nx_sfi, k_nx_sfl, k_nx_sfr, k_nx_sai, k_nx_sal, k_nx_sar, k_nx_wai, k_nx_wal, k_nx_snx, k_nx_nwO, k_nx_nwA, k_nx_nwG]; omega)
  have k_3 : ∀ a, a < nx Y2 → a ≠ th → kSameAt Y2 X3 a := by
    intro a ha hne
    rw [← h_3]
    (repeat first | with_reducible exact kSameAt.rf | with_reducible refine kSameAt.tr ?_ (kSame_sfr (by omega)) | with_reducible refine kSameAt.tr ?_ (kSame_sfi (by omega)) | with_reducible refine kSameAt.tr ?_ (kSame_nwA (by first | omega | (simp only [k_nx_sfi, k_nx_sfl, k_nx_sfr, k_nx_sai, k_nx_sal, k_nx_sar, k_nx_wai, k_nx_wal, k_nx_snx, k_nx_nwO, k_nx_nwA, k_nx_nwG]; omega))) | with_reducible refine kSameAt.tr ?_ (kSame_nwG (by first | omega | (simp only [k_nx_sfi, k_nx_sfl, k_nx_sfr, k_nx_sai, k_nx_sal, k_nx_sar, k_nx_wai, k_nx_wal, k_nx_snx, k_nx_nwO, k_nx_nwA, k_nx_nwG]; omega))) | with_reducible refine kSameAt.tr ?_ (kSame_nwO (by first | omega | (simp only [k_nx_sfi, k_nx_sfl, k_nx_sfr, k_nx_sai, k_nx_sal, k_nx_sar, k_nx_wai, k_nx_wal, k_nx_snx, k_nx_nwO, k_nx_nwA, k_nx_nwG]; omega))))
  have s_3 : ∀ a, a < nx M → a ≠ th → kSameAt M X3 a := fun a ha hne => (s_2 a ha hne).tr (k_3 a (by omega) hne)
  have t_3 : tg X3 th = 11 := by
    rw [← h_3]
    (repeat first | with_reducible exact t_2 | with_reducible refine tg_sfr ?_ | with_reducible refine tg_sfi ?_ | with_reducible refine tg_nwA ?_ (by first | omega | (simp only [k_nx_sfi, k_nx_sfl, k_nx_sfr, k_nx_sai, k_nx_sal, k_nx_sar, k_nx_wai, k_nx_wal, k_nx_snx, k_nx_nwO, k_nx_nwA, k_nx_nwG]; omega)) | with_reducible refine tg_nwG ?_ (by first | omega | (simp only [k_nx_sfi, k_nx_sfl, k_nx_sfr, k_nx_sai, k_nx_sal, k_nx_sar, k_nx_wai, k_nx_wal, k_nx_snx, k_nx_nwO, k_nx_nwA, k_nx_nwG]; omega)) | with_reducible refine tg_nwO ?_ (by first | omega | (simp only [k_nx_sfi, k_nx_sfl, k_nx_sfr, k_nx_sai, k_nx_sal, k_nx_sar, k_nx_wai, k_nx_wal, k_nx_snx, k_nx_nwO, k_nx_nwA, k_nx_nwG]; omega)))
  have i_3 : fi X3 th = fi M th := by
    rw [← h_3]
    simp only [k_fi_sfr, k_fi_nwA, k_fi_nwG]
    exact i_2
  have z_3 : kZ X3 (nx M) := by
    rw [← h_3]
    (repeat first | with_reducible exact z_2 | with_reducible refine kZ_sfr ?_ | with_reducible refine kZ_nwA ?_ | with_reducible refine kZ_sfi ?_ (by omega) | with_reducible refine kZ_nwG ?_ (by first | omega | (simp only [k_nx_sfi, k_nx_sfl, k_nx_sfr, k_nx_sai, k_nx_sal, k_nx_sar, k_nx_wai, k_nx_wal, k_nx_snx, k_nx_nwO, k_nx_nwA, k_nx_nwG]; omega)))
  have r_3_10 : fr X3 th 10 = some (th + 1) := by
    rw [← h_3]
    (repeat first | with_reducible exact r_2_10 | with_reducible exact fr_at (by first | omega | (simp only [k_nx_sfi, k_nx_sfl, k_nx_sfr, k_nx_sai, k_nx_sal, k_nx_sar, k_nx_wai, k_nx_wal, k_nx_snx, k_nx_nwO, k_nx_nwA, k_nx_nwG]; omega)) | with_reducible refine fr_sfr ?_ (by decide) | with_reducible refine fr_nwA ?_ (by first | omega | (simp only [k_nx_sfi, k_nx_sfl, k_nx_sfr, k_nx_sai, k_nx_sal, k_nx_sar, k_nx_wai, k_nx_wal, k_nx_snx, k_nx_nwO, k_nx_nwA, k_nx_nwG]; omega)) | with_reducible refine fr_nwG ?_ | with_reducible refine fr_sfi ?_)
  have r_3_11 : fr X3 th 11 = some (th + 2) := by
    rw [← h_3]
    (repeat first | with_reducible exact r_2_11 | with_reducible exact fr_at (by first | omega | (simp only [k_nx_sfi, k_nx_sfl, k_nx_sfr, k_nx_sai, k_nx_sal, k_nx_sar, k_nx_wai, k_nx_wal, k_nx_snx, k_nx_nwO, k_nx_nwA, k_nx_nwG]; omega)) | with_reducible refine fr_sfr ?_ (by decide) | with_reducible refine fr_nwA ?_ (by first | omega | (simp only [k_nx_sfi, k_nx_sfl, k_nx_sfr, k_nx_sai, k_nx_sal, k_nx_sar, k_nx_wai, k_nx_wal, k_nx_snx, k_nx_nwO, k_nx_nwA, k_nx_nwG]; omega)) | with_reducible refine fr_nwG ?_ | with_reducible refine fr_sfi ?_)
  have r_3_12 : fr X3 th 12 = some (th + 3) := by
    rw [← h_3]
    (repeat first | with_reducible exact r_2_12 | with_reducible exact fr_at (by first | omega | (simp only [k_nx_sfi, k_nx_sfl, k_nx_sfr, k_nx_sai, k_nx_sal, k_nx_sar, k_nx_wai, k_nx_wal, k_nx_snx, k_nx_nwO, k_nx_nwA, k_nx_nwG]; omega)) | with_reducible refine fr_sfr ?_ (by decide) | with_reducible refine fr_nwA ?_ (by first | omega | (simp only [k_nx_sfi, k_nx_sfl, k_nx_sfr, k_nx_sai, k_nx_sal, k_nx_sar, k_nx_wai, k_nx_wal, k_nx_snx, k_nx_nwO, k_nx_nwA, k_nx_nwG]; omega)) | with_reducible refine fr_nwG ?_ | with_reducible refine fr_sfi ?_)
  have r_3_13 : fr X3 th 13 = some (th + 4) := by
    rw [← h_3]
    (repeat first | with_reducible exact r_2_13 | with_reducible exact fr_at (by first | omega | (simp only [k_nx_sfi, k_nx_sfl, k_nx_sfr, k_nx_sai, k_nx_sal, k_nx_sar, k_nx_wai, k_nx_wal, k_nx_snx, k_nx_nwO, k_nx_nwA, k_nx_nwG]; omega)) | with_reducible refine fr_sfr ?_ (by decide) | with_reducible refine fr_nwA ?_ (by first | omega | (simp only [k_nx_sfi, k_nx_sfl, k_nx_sfr, k_nx_sai, k_nx_sal, k_nx_sar, k_nx_wai, k_nx_wal, k_nx_snx, k_nx_nwO, k_nx_nwA, k_nx_nwG]; omega)) | with_reducible refine fr_nwG ?_ | with_reducible refine fr_sfi ?_)
  have r_3_14 : fr X3 th 14 = some (th + 5) := by
    rw [← h_3]
    (repeat first | with_reducible exact fr_at (by first | omega | (simp only [k_nx_sfi, k_nx_sfl, k_nx_sfr, k_nx_sai, k_nx_sal, k_nx_sar, k_nx_wai, k_nx_wal, k_nx_snx, k_nx_nwO, k_nx_nwA, k_nx_nwG]; omega)) | with_reducible refine fr_sfr ?_ (by decide) | with_reducible refine fr_nwA ?_ (by first | omega | (simp only [k_nx_sfi, k_nx_sfl, k_nx_sfr, k_nx_sai, k_nx_sal, k_nx_sar, k_nx_wai, k_nx_wal, k_nx_snx, k_nx_nwO, k_nx_nwA, k_nx_nwG]; omega)) | with_reducible refine fr_nwG ?_ | with_reducible refine fr_sfi ?_)
  have r_3_15 : fr X3 th 15 = some (th + 7) := by
    rw [← h_3]
    (repeat first | with_reducible exact fr_at (by first | omega | (simp only [k_nx_sfi, k_nx_sfl, k_nx_sfr, k_nx_sai, k_nx_sal, k_nx_sar, k_nx_wai, k_nx_wal, k_nx_snx, k_nx_nwO, k_nx_nwA, k_nx_nwG]; omega)) | with_reducible refine fr_sfr ?_ (by decide) | with_reducible refine fr_nwA ?_ (by first | omega | (simp only [k_nx_sfi, k_nx_sfl, k_nx_sfr, k_nx_sai, k_nx_sal, k_nx_sar, k_nx_wai, k_nx_wal, k_nx_snx, k_nx_nwO, k_nx_nwA, k_nx_nwG]; omega)) | with_reducible refine fr_nwG ?_ | with_reducible refine fr_sfi ?_)
  have r_3_16 : fr X3 th 16 = some (th + 8) := by
    rw [← h_3]
    (repeat first | with_reducible exact fr_at (by first | omega | (simp only [k_nx_sfi, k_nx_sfl, k_nx_sfr, k_nx_sai, k_nx_sal, k_nx_sar, k_nx_wai, k_nx_wal, k_nx_snx, k_nx_nwO, k_nx_nwA, k_nx_nwG]; omega)) | with_reducible refine fr_sfr ?_ (by decide) | with_reducible refine fr_nwA ?_ (by first | omega | (simp only [k_nx_sfi, k_nx_sfl, k_nx_sfr, k_nx_sai, k_nx_sal, k_nx_sar, k_nx_wai, k_nx_wal, k_nx_snx, k_nx_nwO, k_nx_nwA, k_nx_nwG]; omega)) | with_reducible refine fr_nwG ?_ | with_reducible refine fr_sfi ?_)
  have r_3_17 : fr X3 th 17 = some (th + 9) := by
    rw [← h_3]
    (repeat first | with_reducible exact fr_at (by first | omega | (simp only [k_nx_sfi, k_nx_sfl, k_nx_sfr, k_nx_sai, k_nx_sal, k_nx_sar, k_nx_wai, k_nx_wal, k_nx_snx, k_nx_nwO, k_nx_nwA, k_nx_nwG]; omega)) | with_reducible refine fr_sfr ?_ (by decide) | with_reducible refine fr_nwA ?_ (by first | omega | (simp only [k_nx_sfi, k_nx_sfl, k_nx_sfr, k_nx_sai, k_nx_sal, k_nx_sar, k_nx_wai, k_nx_wal, k_nx_snx, k_nx_nwO, k_nx_nwA, k_nx_nwG]; omega)) | with_reducible refine fr_nwG ?_ | with_reducible refine fr_sfi ?_)
  have a_3_1 : arrAt X3 (th + 1) 4 500 := a_2_1.kept (k_3 _ (by omega) (by omega))
  have a_3_2 : arrAt X3 (th + 2) 5 2196 := a_2_2.kept (k_3 _ (by omega) (by omega))
  have a_3_3 : arrAt X3 (th + 3) 0 36 := a_2_3.kept (k_3 _ (by omega) (by omega))
  have a_3_4 : arrAt X3 (th + 4) 0 36 := a_2_4.kept (k_3 _ (by omega) (by omega))
  have a_3_5 : ShMessage X3 g (th + 5) := hD_2.kept (fun b h1 h2 => k_3 b (by omega) (by omega))
  have a_3_7 : arrAt X3 (th + 7) 2 6400 := by
    rw [← h_3]
    (repeat first | with_reducible exact arr_new (by first | omega | (simp only [k_nx_sfi, k_nx_sfl, k_nx_sfr, k_nx_sai, k_nx_sal, k_nx_sar, k_nx_wai, k_nx_wal, k_nx_snx, k_nx_nwO, k_nx_nwA, k_nx_nwG]; omega)) | with_reducible refine arrAt.kept ?_ (kSame_sfr (by omega)) | with_reducible refine arrAt.kept ?_ (kSame_sfi (by omega)) | with_reducible refine arrAt.kept ?_ (kSame_nwA (by first | omega | (simp only [k_nx_sfi, k_nx_sfl, k_nx_sfr, k_nx_sai, k_nx_sal, k_nx_sar, k_nx_wai, k_nx_wal, k_nx_snx, k_nx_nwO, k_nx_nwA, k_nx_nwG]; omega))) | with_reducible refine arrAt.kept ?_ (kSame_nwG (by first | omega | (simp only [k_nx_sfi, k_nx_sfl, k_nx_sfr, k_nx_sai, k_nx_sal, k_nx_sar, k_nx_wai, k_nx_wal, k_nx_snx, k_nx_nwO, k_nx_nwA, k_nx_nwG]; omega))))
  have a_3_8 : arrAt X3 (th + 8) 2 64 := by
    rw [← h_3]
    (repeat first | with_reducible exact arr_new (by first | omega | (simp only [k_nx_sfi, k_nx_sfl, k_nx_sfr, k_nx_sai, k_nx_sal, k_nx_sar, k_nx_wai, k_nx_wal, k_nx_snx, k_nx_nwO, k_nx_nwA, k_nx_nwG]; omega)) | with_reducible refine arrAt.kept ?_ (kSame_sfr (by omega)) | with_reducible refine arrAt.kept ?_ (kSame_sfi (by omega)) | with_reducible refine arrAt.kept ?_ (kSame_nwA (by first | omega | (simp only [k_nx_sfi, k_nx_sfl, k_nx_sfr, k_nx_sai, k_nx_sal, k_nx_sar, k_nx_wai, k_nx_wal, k_nx_snx, k_nx_nwO, k_nx_nwA, k_nx_nwG]; omega))) | with_reducible refine arrAt.kept ?_ (kSame_nwG (by first | omega | (simp only [k_nx_sfi, k_nx_sfl, k_nx_sfr, k_nx_sai, k_nx_sal, k_nx_sar, k_nx_wai, k_nx_wal, k_nx_snx, k_nx_nwO, k_nx_nwA, k_nx_nwG]; omega))))
  have a_3_9 : arrAt X3 (th + 9) 0 100 := by
    rw [← h_3]
    (repeat first | with_reducible exact arr_new (by first | omega | (simp only [k_nx_sfi, k_nx_sfl, k_nx_sfr, k_nx_sai, k_nx_sal, k_nx_sar, k_nx_wai, k_nx_wal, k_nx_snx, k_nx_nwO, k_nx_nwA, k_nx_nwG]; omega)) | with_reducible refine arrAt.kept ?_ (kSame_sfr (by omega)) | with_reducible refine arrAt.kept ?_ (kSame_sfi (by omega)) | with_reducible refine arrAt.kept ?_ (kSame_nwA (by first | omega | (simp only [k_nx_sfi, k_nx_sfl, k_nx_sfr, k_nx_sai, k_nx_sal, k_nx_sar, k_nx_wai, k_nx_wal, k_nx_snx, k_nx_nwO, k_nx_nwA, k_nx_nwG]; omega))) | with_reducible refine arrAt.kept ?_ (kSame_nwG (by first | omega | (simp only [k_nx_sfi, k_nx_sfl, k_nx_sfr, k_nx_sai, k_nx_sal, k_nx_sar, k_nx_wai, k_nx_wal, k_nx_snx, k_nx_nwO, k_nx_nwA, k_nx_nwG]; omega))))
  refine kT_return dX10_init_76 rfl ?_
  exact ⟨rfl, ⟨n_3, s_3, t_3.trans ht.symm, i_3, z_3⟩, ⟨t_3, r_3_10, r_3_11, r_3_12, r_3_13, r_3_14, r_3_15, r_3_16, r_3_17, a_3_1, a_3_2, a_3_3, a_3_4, a_3_5, a_3_7, a_3_8, a_3_9⟩⟩

def ShNode (M : kM) (th wd : Nat) : Prop := tg M th = 6 ∧ fr M th 0 = some wd ∧ fr M th 2 = some (th + 1) ∧ fr M th 3 = some (th + 2) ∧ arrAt M (th + 1) 7 4 ∧ gridAt M (th + 2) 8 104
theorem ShNode.kept {M M1 : kM} {th wd : Nat} (h : ShNode M th wd) (hs : ∀ b, th ≤ b → b ≤ th + 10 → kSameAt M M1 b) : ShNode M1 th wd := by
  obtain ⟨p0, p1, p2, p3, p4, p5⟩ := h
  have h0 := hs th (Nat.le_refl _) (by omega)
  exact ⟨h0.1.trans p0, by rw [h0.2.2.2.2.1]; exact p1, by rw [h0.2.2.2.2.1]; exact p2, by rw [h0.2.2.2.2.1]; exact p3, p4.kept (hs _ (by omega) (by omega)), p5.kept (fun b h1 h2 => hs b (by omega) (by omega))⟩
set_option maxHeartbeats 4000000 in
set_option maxRecDepth 100000 in
theorem c_Node_initR (l : Launch) (g : kG) (hst : l.stackTraces = false) (M : kM) (th wd : Nat) (x : Int32) (ht : tg M th = 6) (hn : nx M = th + 1) : kC l g yX5_init cX5_init 3 none [] 12 10 844 [.ref th, .ref wd, .int x] M (fun v M1 => v = none ∧ (nx M1 = nx M + 10 ∧ (∀ a, a < nx M → a ≠ th → kSameAt M M1 a) ∧ tg M1 th = tg M th ∧ fi M1 th = (fun k => if k = 1 then x else fi M th k) ∧ kZ M1 (nx M)) ∧ ShNode M1 th wd) (fun _ _ => False) := by
  refine kC_of hst (by decide) (Nat.le_of_ble_eq_true rfl) ?_
  show kT l g _ _ _ _ _ _ _ _ _ _ 0 [(0, .ref th), (1, .ref wd), (2, .int x)] [] M _ _
  refine kT_aload_n dX5_init_0 rfl ?_
  refine kT_objInit dX5_init_1 km_X5_3 kob_1 kob_2 (by omega) (Nat.le_of_ble_eq_true rfl) ?_
  refine kT_aload_n dX5_init_4 rfl ?_
  refine kT_iconst (v := nI 4) dX5_init_5 (by decide) ?_
  refine kT_anew (t := 7) (n := 4) dX5_init_6 (by decide) (by decide) kcl_X5_9 (nI_toInt (by omega)) (by omega) (by omega) (by omega) (fun _ _ => ?_)
  show kT l g _ _ _ _ _ _ _ _ _ _ _ _ (.ref (nx M) :: _) _ _ _
  refine kT_putR (c := 5) (k0 := 2) (r0 := (some (nx M))) dX5_init_9 kf_X5_11 ((kOldU (show th < nx M by omega) ht)) (by decide) (by decide) (Or.inr ⟨rfl, rfl, rfl⟩) rfl rfl ?_
  refine kT_aload_n dX5_init_12 rfl ?_
  refine kT_bipush (v := nI 8) dX5_init_13 (by decide) ?_
  refine kT_bipush (v := nI 104) dX5_init_15 (by decide) ?_
  refine kT_mna (n := 8) (k := 104) dX5_init_17 kcl_X5_17 kar_0 (nI_toInt (by omega)) (nI_toInt (by omega)) (by omega) (by omega) (by omega) (by omega) (fun _ _ => ?_)
  show kT l g _ _ _ _ _ _ _ _ _ _ _ _ (.ref (nx M + 1) :: _) _ _ _
  refine kT_putR (c := 5) (k0 := 3) (r0 := (some (nx M + 1))) dX5_init_21 kf_X5_19 ((kOldG (show th < nx M + 1 by omega) (kOldU (show th < nx M by omega) ht))) (by decide) (by decide) (Or.inr ⟨rfl, rfl, rfl⟩) rfl rfl ?_
  refine kT_aload_n dX5_init_24 rfl ?_
  refine kT_aload_n dX5_init_25 rfl ?_
  refine kT_putR (c := 5) (k0 := 0) (r0 := (some wd)) dX5_init_26 kf_X5_22 ((kOldG (show th < nx M + 1 by omega) (kOldU (show th < nx M by omega) ht))) (by decide) (by decide) (Or.inr ⟨rfl, rfl, rfl⟩) rfl rfl ?_
  refine kT_aload_n dX5_init_29 rfl ?_
  refine kT_iload_n dX5_init_30 rfl ?_
  refine kT_putI (c := 5) (k0 := 1) dX5_init_31 kf_X5_26 ((kOldG (show th < nx M + 1 by omega) (kOldU (show th < nx M by omega) ht))) (by decide) (by decide) (Or.inr ⟨rfl, rfl, rfl⟩) rfl ?_
  generalize h_1 : sfi (sfr (sfr (nwG (sfr (nwA M 7 4) th 2 (some (nx M))) 8 104) th 3 (some (nx M + 1))) th 0 (some wd)) th 1 x = X1
  have n_1 : nx X1 = nx M + 10 := by rw [← h_1]; first | rfl | (simp only [k_nx_sfi, k_nx_sfl, k_nx_sfr, k_nx_sai, k_nx_sal, k_nx_sar, k_nx_wai, k_nx_wal, k_nx_snx, k_nx_nwO, k_nx_nwA, k_nx_nwG]; omega)
  have k_1 : ∀ a, a < nx M → a ≠ th → kSameAt M X1 a := by
    intro a ha hne
    rw [← h_1]
    (repeat first | with_reducible exact kSameAt.rf | with_reducible refine kSameAt.tr ?_ (kSame_sfr (by omega)) | with_reducible refine kSameAt.tr ?_ (kSame_sfi (by omega)) | with_reducible refine kSameAt.tr ?_ (kSame_nwA (by first | omega | (simp only [k_nx_sfi, k_nx_sfl, k_nx_sfr, k_nx_sai, k_nx_sal, k_nx_sar, k_nx_wai, k_nx_wal, k_nx_snx, k_nx_nwO, k_nx_nwA, k_nx_nwG]; omega))) | with_reducible refine kSameAt.tr ?_ (kSame_nwG (by first | omega | (simp only [k_nx_sfi, k_nx_sfl, k_nx_sfr, k_nx_sai, k_nx_sal, k_nx_sar, k_nx_wai, k_nx_wal, k_nx_snx, k_nx_nwO, k_nx_nwA, k_nx_nwG]; omega))) | with_reducible refine kSameAt.tr ?_ (kSame_nwO (by first | omega | (simp only [k_nx_sfi, k_nx_sfl, k_nx_sfr, k_nx_sai, k_nx_sal, k_nx_sar, k_nx_wai, k_nx_wal, k_nx_snx, k_nx_nwO, k_nx_nwA, k_nx_nwG]; omega))))
  have s_1 : ∀ a, a < nx M → a ≠ th → kSameAt M X1 a := fun a ha hne => ((fun a _ _ => kSameAt.rf) a ha hne).tr (k_1 a (by omega) hne)
  have t_1 : tg X1 th = 6 := by
    rw [← h_1]
    (repeat first | with_reducible exact ht | with_reducible refine tg_sfr ?_ | with_reducible refine tg_sfi ?_ | with_reducible refine tg_nwA ?_ (by first | omega | (simp only [k_nx_sfi, k_nx_sfl, k_nx_sfr, k_nx_sai, k_nx_sal, k_nx_sar, k_nx_wai, k_nx_wal, k_nx_snx, k_nx_nwO, k_nx_nwA, k_nx_nwG]; omega)) | with_reducible refine tg_nwG ?_ (by first | omega | (simp only [k_nx_sfi, k_nx_sfl, k_nx_sfr, k_nx_sai, k_nx_sal, k_nx_sar, k_nx_wai, k_nx_wal, k_nx_snx, k_nx_nwO, k_nx_nwA, k_nx_nwG]; omega)) | with_reducible refine tg_nwO ?_ (by first | omega | (simp only [k_nx_sfi, k_nx_sfl, k_nx_sfr, k_nx_sai, k_nx_sal, k_nx_sar, k_nx_wai, k_nx_wal, k_nx_snx, k_nx_nwO, k_nx_nwA, k_nx_nwG]; omega)))
  have z_1 : kZ X1 (nx M) := by
    rw [← h_1]
    (repeat first | with_reducible exact kZ0 | with_reducible refine kZ_sfr ?_ | with_reducible refine kZ_nwA ?_ | with_reducible refine kZ_sfi ?_ (by omega) | with_reducible refine kZ_nwG ?_ (by first | omega | (simp only [k_nx_sfi, k_nx_sfl, k_nx_sfr, k_nx_sai, k_nx_sal, k_nx_sar, k_nx_wai, k_nx_wal, k_nx_snx, k_nx_nwO, k_nx_nwA, k_nx_nwG]; omega)))
  have r_1_2 : fr X1 th 2 = some (th + 1) := by
    rw [← h_1]
    (repeat first | with_reducible exact fr_at (by first | omega | (simp only [k_nx_sfi, k_nx_sfl, k_nx_sfr, k_nx_sai, k_nx_sal, k_nx_sar, k_nx_wai, k_nx_wal, k_nx_snx, k_nx_nwO, k_nx_nwA, k_nx_nwG]; omega)) | with_reducible refine fr_sfr ?_ (by decide) | with_reducible refine fr_nwA ?_ (by first | omega | (simp only [k_nx_sfi, k_nx_sfl, k_nx_sfr, k_nx_sai, k_nx_sal, k_nx_sar, k_nx_wai, k_nx_wal, k_nx_snx, k_nx_nwO, k_nx_nwA, k_nx_nwG]; omega)) | with_reducible refine fr_nwG ?_ | with_reducible refine fr_sfi ?_)
  have r_1_3 : fr X1 th 3 = some (th + 2) := by
    rw [← h_1]
    (repeat first | with_reducible exact fr_at (by first | omega | (simp only [k_nx_sfi, k_nx_sfl, k_nx_sfr, k_nx_sai, k_nx_sal, k_nx_sar, k_nx_wai, k_nx_wal, k_nx_snx, k_nx_nwO, k_nx_nwA, k_nx_nwG]; omega)) | with_reducible refine fr_sfr ?_ (by decide) | with_reducible refine fr_nwA ?_ (by first | omega | (simp only [k_nx_sfi, k_nx_sfl, k_nx_sfr, k_nx_sai, k_nx_sal, k_nx_sar, k_nx_wai, k_nx_wal, k_nx_snx, k_nx_nwO, k_nx_nwA, k_nx_nwG]; omega)) | with_reducible refine fr_nwG ?_ | with_reducible refine fr_sfi ?_)
  have r_1_0 : fr X1 th 0 = some wd := by
    rw [← h_1]
    (repeat first | with_reducible exact fr_at (by first | omega | (simp only [k_nx_sfi, k_nx_sfl, k_nx_sfr, k_nx_sai, k_nx_sal, k_nx_sar, k_nx_wai, k_nx_wal, k_nx_snx, k_nx_nwO, k_nx_nwA, k_nx_nwG]; omega)) | with_reducible refine fr_sfr ?_ (by decide) | with_reducible refine fr_nwA ?_ (by first | omega | (simp only [k_nx_sfi, k_nx_sfl, k_nx_sfr, k_nx_sai, k_nx_sal, k_nx_sar, k_nx_wai, k_nx_wal, k_nx_snx, k_nx_nwO, k_nx_nwA, k_nx_nwG]; omega)) | with_reducible refine fr_nwG ?_ | with_reducible refine fr_sfi ?_)
  have a_1_1 : arrAt X1 (th + 1) 7 4 := by
    rw [← h_1]
    (repeat first | with_reducible exact arr_new (by first | omega | (simp only [k_nx_sfi, k_nx_sfl, k_nx_sfr, k_nx_sai, k_nx_sal, k_nx_sar, k_nx_wai, k_nx_wal, k_nx_snx, k_nx_nwO, k_nx_nwA, k_nx_nwG]; omega)) | with_reducible refine arrAt.kept ?_ (kSame_sfr (by omega)) | with_reducible refine arrAt.kept ?_ (kSame_sfi (by omega)) | with_reducible refine arrAt.kept ?_ (kSame_nwA (by first | omega | (simp only [k_nx_sfi, k_nx_sfl, k_nx_sfr, k_nx_sai, k_nx_sal, k_nx_sar, k_nx_wai, k_nx_wal, k_nx_snx, k_nx_nwO, k_nx_nwA, k_nx_nwG]; omega))) | with_reducible refine arrAt.kept ?_ (kSame_nwG (by first | omega | (simp only [k_nx_sfi, k_nx_sfl, k_nx_sfr, k_nx_sai, k_nx_sal, k_nx_sar, k_nx_wai, k_nx_wal, k_nx_snx, k_nx_nwO, k_nx_nwA, k_nx_nwG]; omega))))
  have a_1_2 : gridAt X1 (th + 2) 8 104 := by
    rw [← h_1]
    (repeat first | with_reducible exact grid_new (by first | omega | (simp only [k_nx_sfi, k_nx_sfl, k_nx_sfr, k_nx_sai, k_nx_sal, k_nx_sar, k_nx_wai, k_nx_wal, k_nx_snx, k_nx_nwO, k_nx_nwA, k_nx_nwG]; omega)) | with_reducible refine gridAt.kept ?_ (fun b h1 h2 => kSame_sfr (by omega)) | with_reducible refine gridAt.kept ?_ (fun b h1 h2 => kSame_sfi (by omega)) | with_reducible refine gridAt.kept ?_ (fun b h1 h2 => kSame_nwA (by first | omega | (simp only [k_nx_sfi, k_nx_sfl, k_nx_sfr, k_nx_sai, k_nx_sal, k_nx_sar, k_nx_wai, k_nx_wal, k_nx_snx, k_nx_nwO, k_nx_nwA, k_nx_nwG]; omega))) | with_reducible refine gridAt.kept ?_ (fun b h1 h2 => kSame_nwG (by first | omega | (simp only [k_nx_sfi, k_nx_sfl, k_nx_sfr, k_nx_sai, k_nx_sal, k_nx_sar, k_nx_wai, k_nx_wal, k_nx_snx, k_nx_nwO, k_nx_nwA, k_nx_nwG]; omega))))
  have ix9 : fi X1 th = (fun k => if k = 1 then x else fi M th k) := by
    rw [← h_1]
    funext k9
    simp only [k_fi_sfi, k_fi_sfr, k_fi_nwA, k_fi_nwG]
    by_cases e9 : k9 = 1 <;> simp [e9]
  refine kT_return dX5_init_34 rfl ?_
  exact ⟨rfl, ⟨n_1, s_1, t_1.trans ht.symm, ix9, z_1⟩, ⟨t_1, r_1_0, r_1_2, r_1_3, a_1_1, a_1_2⟩⟩


/-! shapes -/
def kSameAt (M M1 : kM) (a : Nat) : Prop := tg M1 a = tg M a ∧ ln M1 a = ln M a ∧ fi M1 a = fi M a ∧ fl M1 a = fl M a ∧ fr M1 a = fr M a ∧ ai M1 a = ai M a ∧ al M1 a = al M a ∧ ar M1 a = ar M a
theorem kSameAt.rf {M : kM} {a : Nat} : kSameAt M M a := ⟨rfl, rfl, rfl, rfl, rfl, rfl, rfl, rfl⟩
theorem kSameAt.tr {M M1 M2 : kM} {a : Nat} (h : kSameAt M M1 a) (h2 : kSameAt M1 M2 a) : kSameAt M M2 a := by
  obtain ⟨a1, a2, a3, a4, a5, a6, a7, a8⟩ := h
  obtain ⟨b1, b2, b3, b4, b5, b6, b7, b8⟩ := h2
  exact ⟨b1.trans a1, b2.trans a2, b3.trans a3, b4.trans a4, b5.trans a5, b6.trans a6, b7.trans a7, b8.trans a8⟩
theorem kSame_sfr {M : kM} {th k a : Nat} {v : Option Nat} (h : a ≠ th) : kSameAt M (sfr M th k v) a := ⟨rfl, rfl, rfl, rfl, up2_ne h, rfl, rfl, rfl⟩
theorem kSame_sfi {M : kM} {th k a : Nat} {v : Int32} (h : a ≠ th) : kSameAt M (sfi M th k v) a := ⟨rfl, rfl, up2_ne h, rfl, rfl, rfl, rfl, rfl⟩
theorem kSame_nwO {M : kM} {c a : Nat} (h : a < nx M) : kSameAt M (nwO M c) a := ⟨va_up_ne _ _ (by omega), rfl, zr2_ne (by omega), zr2_ne (by omega), zr2_ne (by omega), rfl, rfl, rfl⟩
theorem kSame_nwA {M : kM} {t n a : Nat} (h : a < nx M) : kSameAt M (nwA M t n) a := ⟨va_up_ne _ _ (by omega), va_up_ne _ _ (by omega), rfl, rfl, rfl, zr2_ne (by omega), zr2_ne (by omega), zr2_ne (by omega)⟩
theorem kSame_nwG {M : kM} {n k a : Nat} (h : a < nx M) : kSameAt M (nwG M n k) a := by
  have h1 : ¬ a = nx M := by omega
  have h2 : ¬ (nx M < a ∧ a ≤ nx M + n) := by omega
  exact ⟨by rw [k_tg_nwG, if_neg h1, if_neg h2], by rw [k_ln_nwG, if_neg h1, if_neg h2], rfl, rfl, rfl, by funext j; rw [k_ai_nwG, if_neg h2], rfl, by funext j; rw [k_ar_nwG, if_neg h1]⟩
/-- all things from lo on are as they were made: numbers 0, places of references empty (but in rows of rows) -/
def kZa (M : kM) (a : Nat) : Prop := (101 ≤ tg M a → tg M a < 105 → ∀ j, ai M a j = 0) ∧ (tg M a < 101 → ∀ k, fi M a k = 0) ∧ (105 ≤ tg M a → tg M a < 109 → ∀ j, ar M a j = none)
def kZ (M : kM) (lo : Nat) : Prop := ∀ a, lo ≤ a → a < nx M → kZa M a
theorem kZ0 {M : kM} : kZ M (nx M) := fun a h1 h2 => absurd h1 (by omega)
theorem kZa.same {M M1 : kM} {a : Nat} (h : kZa M a) (hs : kSameAt M M1 a) : kZa M1 a := by
  obtain ⟨s1, -, s3, -, -, s6, -, s8⟩ := hs
  unfold kZa
  rw [s1, s3, s6, s8]
  exact h
theorem kZ.at {M M1 : kM} {lo a : Nat} (h : kZ M lo) (h1 : lo ≤ a) (h2 : a < nx M) (hs : kSameAt M M1 a) : kZa M1 a := (h a h1 h2).same hs
theorem kZ_sfr {M : kM} {lo th k : Nat} {v : Option Nat} (h : kZ M lo) : kZ (sfr M th k v) lo := fun a h1 h2 => by
  unfold kZa
  rw [k_tg_sfr, k_fi_sfr, k_ai_sfr, k_ar_sfr]; exact h a h1 (by rw [k_nx_sfr] at h2; exact h2)
theorem kZ_sfi {M : kM} {lo th k : Nat} {v : Int32} (h : kZ M lo) (hl : th < lo) : kZ (sfi M th k v) lo := fun a h1 h2 => by
  rw [k_nx_sfi] at h2
  exact h.at h1 h2 (kSame_sfi (by omega))
theorem kZ_nwA {M : kM} {lo t n : Nat} (h : kZ M lo) : kZ (nwA M t n) lo := fun a h1 h2 => by
  rw [k_nx_nwA] at h2
  by_cases e : a = nx M
  · subst e
    refine ⟨fun _ _ j => by rw [k_ai_nwA, if_pos rfl], fun h9 => ?_, fun _ _ j => by rw [k_ar_nwA, if_pos rfl]⟩
    rw [k_tg_nwA, if_pos rfl] at h9
    omega
  · exact h.at h1 (by omega) (kSame_nwA (by omega))
theorem kZ_nwG {M : kM} {lo n k : Nat} (h : kZ M lo) (hl : lo ≤ nx M) : kZ (nwG M n k) lo := fun a h1 h2 => by
  rw [k_nx_nwG] at h2
  by_cases e : a < nx M
  · exact h.at h1 (by omega) (kSame_nwG (by omega))
  · by_cases e2 : a = nx M
    · have ht : tg (nwG M n k) a = 109 := by rw [k_tg_nwG, if_pos e2]
      exact ⟨fun _ h9 => by omega, fun h9 => by omega, fun _ h9 => by omega⟩
    · have ht : tg (nwG M n k) a = 101 := by rw [k_tg_nwG, if_neg e2, if_pos (by omega)]
      exact ⟨fun _ _ j => by rw [k_ai_nwG, if_pos (by omega)], fun h9 => by omega, fun h9 => by omega⟩
/-- M1 is M with n more things behind, and th's references set -/
def kGrow (M M1 : kM) (th n : Nat) : Prop := nx M1 = nx M + n ∧ (∀ a, a < nx M → a ≠ th → kSameAt M M1 a) ∧ tg M1 th = tg M th ∧ fi M1 th = fi M th ∧ kZ M1 (nx M)
theorem kZ_sub {V Y : kM} {lo c n : Nat} (hz : kZ V lo) (hc : c < 100) (hg : kGrow (nwO V c) Y (nx V) n) : kZ Y lo := by
  obtain ⟨g1, g2, g3, g4, g5⟩ := hg
  intro a h1 h2
  rw [k_nx_nwO] at g2 g5
  by_cases e : a < nx V
  · exact hz.at h1 e ((kSame_nwO e).tr (g2 a (by omega) (by omega)))
  · by_cases e2 : a = nx V
    · subst e2
      rw [k_tg_nwO, if_pos rfl] at g3
      refine ⟨fun h9 => by omega, fun _ k => ?_, fun h9 => by omega⟩
      rw [g4, k_fi_nwO, if_pos rfl]
    · exact g5 a (by omega) h2
def arrAt (M : kM) (a t n : Nat) : Prop := tg M a = 101 + t ∧ ln M a = n
def gridAt (M : kM) (a n k : Nat) : Prop := tg M a = 109 ∧ ln M a = n ∧ ∀ i, i < n → ar M a i = some (a + 1 + i) ∧ tg M (a + 1 + i) = 101 ∧ ln M (a + 1 + i) = k
theorem arrAt.kept {M M1 : kM} {a t n : Nat} (h : arrAt M a t n) (hs : kSameAt M M1 a) : arrAt M1 a t n := ⟨hs.1.trans h.1, hs.2.1.trans h.2⟩
theorem gridAt.kept {M M1 : kM} {a n k : Nat} (h : gridAt M a n k) (hs : ∀ b, a ≤ b → b ≤ a + n → kSameAt M M1 b) : gridAt M1 a n k := by
  obtain ⟨h1, h2, h3⟩ := h
  obtain ⟨s1, s2, -, -, -, -, -, s8⟩ := hs a (Nat.le_refl _) (by omega)
  refine ⟨s1.trans h1, s2.trans h2, fun i hi => ?_⟩
  obtain ⟨q1, q2, q3⟩ := h3 i hi
  obtain ⟨r1, r2, -⟩ := hs (a + 1 + i) (by omega) (by omega)
  exact ⟨by rw [s8]; exact q1, r1.trans q2, r2.trans q3⟩
theorem fr_at {M : kM} {th k q q9 : Nat} (h : q = q9) : fr (sfr M th k (some q)) th k = some q9 := by
  rw [k_fr_sfr, if_pos ⟨rfl, rfl⟩, h]
theorem fr_sfr {M : kM} {th k k9 : Nat} {v r : Option Nat} (h : fr M th k = r) (hk : k ≠ k9) : fr (sfr M th k9 v) th k = r := by
  rw [k_fr_sfr, if_neg (fun e => hk e.1)]; exact h
theorem fr_nwA {M : kM} {th k t n : Nat} {r : Option Nat} (h : fr M th k = r) (hl : th < nx M) : fr (nwA M t n) th k = r := by
  rw [k_fr_nwA]; exact h
theorem fr_nwG {M : kM} {th k t n : Nat} {r : Option Nat} (h : fr M th k = r) : fr (nwG M t n) th k = r := by
  rw [k_fr_nwG]; exact h
theorem arr_new {M : kM} {a t n : Nat} (h : nx M = a) : arrAt (nwA M t n) a t n := by
  subst h
  exact ⟨va_up_self _ _ _, va_up_self _ _ _⟩
theorem grid_new {M : kM} {a n k : Nat} (h : nx M = a) : gridAt (nwG M n k) a n k := by
  subst h
  refine ⟨by rw [k_tg_nwG, if_pos rfl], by rw [k_ln_nwG, if_pos rfl], fun i hi => ⟨by rw [k_ar_nwG, if_pos rfl, if_pos hi], by rw [k_tg_nwG, if_neg (by omega), if_pos (by omega)], by rw [k_ln_nwG, if_neg (by omega), if_pos (by omega)]⟩⟩
def ShDisk (M : kM) (th : Nat) (wd : Nat) : Prop := tg M th = 2 ∧ fr M th 0 = some wd ∧ fr M th 1 = some (th + 1) ∧ arrAt M (th + 1) 2 12928
theorem ShDisk.kept {M M1 : kM} {th wd : Nat} (h : ShDisk M th wd) (hs : ∀ b, th ≤ b → b ≤ th + 1 → kSameAt M M1 b) : ShDisk M1 th wd := by
  obtain ⟨p0, p1, p2, p3⟩ := h
  have h0 := hs th (Nat.le_refl _) (by omega)
  exact ⟨h0.1.trans p0, by rw [h0.2.2.2.2.1]; exact p1, by rw [h0.2.2.2.2.1]; exact p2, p3.kept (hs _ (by omega) (by omega))⟩
set_option maxHeartbeats 4000000 in
theorem sh_Disk {M : kM} {th wd : Nat} (ht : tg M th = 2) (hn : nx M = th + 1) : kGrow M (mkDisk M th wd) th 1 ∧ ShDisk (mkDisk M th wd) th wd := by
  refine ⟨⟨nx_mkDisk, fun a ha hne => ?_, ?_, ?_, ?_⟩, ?_⟩
  · unfold mkDisk
    (repeat first | with_reducible exact kSameAt.rf | with_reducible refine kSameAt.tr ?_ (kSame_sfr (by omega)) | with_reducible refine kSameAt.tr ?_ (kSame_sfi (by omega)) | with_reducible refine kSameAt.tr ?_ (kSame_nwA (by first | omega | (simp only [k_nx_sfi, k_nx_sfl, k_nx_sfr, k_nx_sai, k_nx_sal, k_nx_sar, k_nx_wai, k_nx_wal, k_nx_snx, k_nx_nwO, k_nx_nwA, k_nx_nwG]; omega))) | with_reducible refine kSameAt.tr ?_ (kSame_nwG (by first | omega | (simp only [k_nx_sfi, k_nx_sfl, k_nx_sfr, k_nx_sai, k_nx_sal, k_nx_sar, k_nx_wai, k_nx_wal, k_nx_snx, k_nx_nwO, k_nx_nwA, k_nx_nwG]; omega))) | with_reducible refine kSameAt.tr ?_ (kSame_nwO (by first | omega | (simp only [k_nx_sfi, k_nx_sfl, k_nx_sfr, k_nx_sai, k_nx_sal, k_nx_sar, k_nx_wai, k_nx_wal, k_nx_snx, k_nx_nwO, k_nx_nwA, k_nx_nwG]; omega))))
  · exact (kOld_Disk (by omega) ht).trans ht.symm
  · unfold mkDisk; simp only [k_fi_sfr, k_fi_nwA, k_fi_nwG]
  · unfold mkDisk
    (repeat first | with_reducible exact kZ0 | with_reducible refine kZ_sfr ?_ | with_reducible refine kZ_nwA ?_ | with_reducible refine kZ_nwG ?_ (by first | omega | (simp only [k_nx_sfi, k_nx_sfl, k_nx_sfr, k_nx_sai, k_nx_sal, k_nx_sar, k_nx_wai, k_nx_wal, k_nx_snx, k_nx_nwO, k_nx_nwA, k_nx_nwG]; omega)))
  · refine ⟨?_, ?_, ?_, ?_⟩
    · exact kOld_Disk (by omega) ht
    · unfold mkDisk
      (repeat first | with_reducible exact fr_at (by first | omega | (simp only [k_nx_sfi, k_nx_sfl, k_nx_sfr, k_nx_sai, k_nx_sal, k_nx_sar, k_nx_wai, k_nx_wal, k_nx_snx, k_nx_nwO, k_nx_nwA, k_nx_nwG]; omega)) | with_reducible refine fr_sfr ?_ (by decide) | with_reducible refine fr_nwA ?_ (by first | omega | (simp only [k_nx_sfi, k_nx_sfl, k_nx_sfr, k_nx_sai, k_nx_sal, k_nx_sar, k_nx_wai, k_nx_wal, k_nx_snx, k_nx_nwO, k_nx_nwA, k_nx_nwG]; omega)) | with_reducible refine fr_nwG ?_)
    · unfold mkDisk
      (repeat first | with_reducible exact fr_at (by first | omega | (simp only [k_nx_sfi, k_nx_sfl, k_nx_sfr, k_nx_sai, k_nx_sal, k_nx_sar, k_nx_wai, k_nx_wal, k_nx_snx, k_nx_nwO, k_nx_nwA, k_nx_nwG]; omega)) | with_reducible refine fr_sfr ?_ (by decide) | with_reducible refine fr_nwA ?_ (by first | omega | (simp only [k_nx_sfi, k_nx_sfl, k_nx_sfr, k_nx_sai, k_nx_sal, k_nx_sar, k_nx_wai, k_nx_wal, k_nx_snx, k_nx_nwO, k_nx_nwA, k_nx_nwG]; omega)) | with_reducible refine fr_nwG ?_)
    · unfold mkDisk
      (repeat first | with_reducible exact arr_new (by first | omega | (simp only [k_nx_sfi, k_nx_sfl, k_nx_sfr, k_nx_sai, k_nx_sal, k_nx_sar, k_nx_wai, k_nx_wal, k_nx_snx, k_nx_nwO, k_nx_nwA, k_nx_nwG]; omega)) | with_reducible refine arrAt.kept ?_ (kSame_sfr (by omega)) | with_reducible refine arrAt.kept ?_ (kSame_nwA (by first | omega | (simp only [k_nx_sfi, k_nx_sfl, k_nx_sfr, k_nx_sai, k_nx_sal, k_nx_sar, k_nx_wai, k_nx_wal, k_nx_snx, k_nx_nwO, k_nx_nwA, k_nx_nwG]; omega))) | with_reducible refine arrAt.kept ?_ (kSame_nwG (by first | omega | (simp only [k_nx_sfi, k_nx_sfl, k_nx_sfr, k_nx_sai, k_nx_sal, k_nx_sar, k_nx_wai, k_nx_wal, k_nx_snx, k_nx_nwO, k_nx_nwA, k_nx_nwG]; omega))))
def ShIndex (M : kM) (th : Nat) (wd : Nat) : Prop := tg M th = 3 ∧ fr M th 0 = some wd ∧ fr M th 1 = some (th + 1) ∧ gridAt M (th + 1) 5 100 ∧ fr M th 2 = some (th + 7) ∧ gridAt M (th + 7) 5 100 ∧ fr M th 3 = some (th + 13) ∧ gridAt M (th + 13) 5 100 ∧ fr M th 4 = some (th + 19) ∧ arrAt M (th + 19) 0 5 ∧ fr M th 5 = some (th + 20) ∧ arrAt M (th + 20) 0 5 ∧ fr M th 6 = some (th + 21) ∧ arrAt M (th + 21) 0 100
theorem ShIndex.kept {M M1 : kM} {th wd : Nat} (h : ShIndex M th wd) (hs : ∀ b, th ≤ b → b ≤ th + 21 → kSameAt M M1 b) : ShIndex M1 th wd := by
  obtain ⟨p0, p1, p2, p3, p4, p5, p6, p7, p8, p9, p10, p11, p12, p13⟩ := h
  have h0 := hs th (Nat.le_refl _) (by omega)
  exact ⟨h0.1.trans p0, by rw [h0.2.2.2.2.1]; exact p1, by rw [h0.2.2.2.2.1]; exact p2, p3.kept (fun b hb1 hb2 => hs b (by omega) (by omega)), by rw [h0.2.2.2.2.1]; exact p4, p5.kept (fun b hb1 hb2 => hs b (by omega) (by omega)), by rw [h0.2.2.2.2.1]; exact p6, p7.kept (fun b hb1 hb2 => hs b (by omega) (by omega)), by rw [h0.2.2.2.2.1]; exact p8, p9.kept (hs _ (by omega) (by omega)), by rw [h0.2.2.2.2.1]; exact p10, p11.kept (hs _ (by omega) (by omega)), by rw [h0.2.2.2.2.1]; exact p12, p13.kept (hs _ (by omega) (by omega))⟩
set_option maxHeartbeats 4000000 in
theorem sh_Index {M : kM} {th wd : Nat} (ht : tg M th = 3) (hn : nx M = th + 1) : kGrow M (mkIndex M th wd) th 21 ∧ ShIndex (mkIndex M th wd) th wd := by
  refine ⟨⟨nx_mkIndex, fun a ha hne => ?_, ?_, ?_, ?_⟩, ?_⟩
  · unfold mkIndex
    (repeat first | with_reducible exact kSameAt.rf | with_reducible refine kSameAt.tr ?_ (kSame_sfr (by omega)) | with_reducible refine kSameAt.tr ?_ (kSame_sfi (by omega)) | with_reducible refine kSameAt.tr ?_ (kSame_nwA (by first | omega | (simp only [k_nx_sfi, k_nx_sfl, k_nx_sfr, k_nx_sai, k_nx_sal, k_nx_sar, k_nx_wai, k_nx_wal, k_nx_snx, k_nx_nwO, k_nx_nwA, k_nx_nwG]; omega))) | with_reducible refine kSameAt.tr ?_ (kSame_nwG (by first | omega | (simp only [k_nx_sfi, k_nx_sfl, k_nx_sfr, k_nx_sai, k_nx_sal, k_nx_sar, k_nx_wai, k_nx_wal, k_nx_snx, k_nx_nwO, k_nx_nwA, k_nx_nwG]; omega))) | with_reducible refine kSameAt.tr ?_ (kSame_nwO (by first | omega | (simp only [k_nx_sfi, k_nx_sfl, k_nx_sfr, k_nx_sai, k_nx_sal, k_nx_sar, k_nx_wai, k_nx_wal, k_nx_snx, k_nx_nwO, k_nx_nwA, k_nx_nwG]; omega))))
  · exact (kOld_Index (by omega) ht).trans ht.symm
  · unfold mkIndex; simp only [k_fi_sfr, k_fi_nwA, k_fi_nwG]
  · unfold mkIndex
    (repeat first | with_reducible exact kZ0 | with_reducible refine kZ_sfr ?_ | with_reducible refine kZ_nwA ?_ | with_reducible refine kZ_nwG ?_ (by first | omega | (simp only [k_nx_sfi, k_nx_sfl, k_nx_sfr, k_nx_sai, k_nx_sal, k_nx_sar, k_nx_wai, k_nx_wal, k_nx_snx, k_nx_nwO, k_nx_nwA, k_nx_nwG]; omega)))
  · refine ⟨?_, ?_, ?_, ?_, ?_, ?_, ?_, ?_, ?_, ?_, ?_, ?_, ?_, ?_⟩
    · exact kOld_Index (by omega) ht
    · unfold mkIndex
      (repeat first | with_reducible exact fr_at (by first | omega | (simp only [k_nx_sfi, k_nx_sfl, k_nx_sfr, k_nx_sai, k_nx_sal, k_nx_sar, k_nx_wai, k_nx_wal, k_nx_snx, k_nx_nwO, k_nx_nwA, k_nx_nwG]; omega)) | with_reducible refine fr_sfr ?_ (by decide) | with_reducible refine fr_nwA ?_ (by first | omega | (simp only [k_nx_sfi, k_nx_sfl, k_nx_sfr, k_nx_sai, k_nx_sal, k_nx_sar, k_nx_wai, k_nx_wal, k_nx_snx, k_nx_nwO, k_nx_nwA, k_nx_nwG]; omega)) | with_reducible refine fr_nwG ?_)
    · unfold mkIndex
      (repeat first | with_reducible exact fr_at (by first | omega | (simp only [k_nx_sfi, k_nx_sfl, k_nx_sfr, k_nx_sai, k_nx_sal, k_nx_sar, k_nx_wai, k_nx_wal, k_nx_snx, k_nx_nwO, k_nx_nwA, k_nx_nwG]; omega)) | with_reducible refine fr_sfr ?_ (by decide) | with_reducible refine fr_nwA ?_ (by first | omega | (simp only [k_nx_sfi, k_nx_sfl, k_nx_sfr, k_nx_sai, k_nx_sal, k_nx_sar, k_nx_wai, k_nx_wal, k_nx_snx, k_nx_nwO, k_nx_nwA, k_nx_nwG]; omega)) | with_reducible refine fr_nwG ?_)
    · unfold mkIndex
      (repeat first | with_reducible exact grid_new (by first | omega | (simp only [k_nx_sfi, k_nx_sfl, k_nx_sfr, k_nx_sai, k_nx_sal, k_nx_sar, k_nx_wai, k_nx_wal, k_nx_snx, k_nx_nwO, k_nx_nwA, k_nx_nwG]; omega)) | with_reducible refine gridAt.kept ?_ (fun b hb1 hb2 => kSame_sfr (by omega)) | with_reducible refine gridAt.kept ?_ (fun b hb1 hb2 => kSame_nwA (by first | omega | (simp only [k_nx_sfi, k_nx_sfl, k_nx_sfr, k_nx_sai, k_nx_sal, k_nx_sar, k_nx_wai, k_nx_wal, k_nx_snx, k_nx_nwO, k_nx_nwA, k_nx_nwG]; omega))) | with_reducible refine gridAt.kept ?_ (fun b hb1 hb2 => kSame_nwG (by first | omega | (simp only [k_nx_sfi, k_nx_sfl, k_nx_sfr, k_nx_sai, k_nx_sal, k_nx_sar, k_nx_wai, k_nx_wal, k_nx_snx, k_nx_nwO, k_nx_nwA, k_nx_nwG]; omega))))
    · unfold mkIndex
      (repeat first | with_reducible exact fr_at (by first | omega | (simp only [k_nx_sfi, k_nx_sfl, k_nx_sfr, k_nx_sai, k_nx_sal, k_nx_sar, k_nx_wai, k_nx_wal, k_nx_snx, k_nx_nwO, k_nx_nwA, k_nx_nwG]; omega)) | with_reducible refine fr_sfr ?_ (by decide) | with_reducible refine fr_nwA ?_ (by first | omega | (simp only [k_nx_sfi, k_nx_sfl, k_nx_sfr, k_nx_sai, k_nx_sal, k_nx_sar, k_nx_wai, k_nx_wal, k_nx_snx, k_nx_nwO, k_nx_nwA, k_nx_nwG]; omega)) | with_reducible refine fr_nwG ?_)
    · unfold mkIndex
      (repeat first | with_reducible exact grid_new (by first | omega | (simp only [k_nx_sfi, k_nx_sfl, k_nx_sfr, k_nx_sai, k_nx_sal, k_nx_sar, k_nx_wai, k_nx_wal, k_nx_snx, k_nx_nwO, k_nx_nwA, k_nx_nwG]; omega)) | with_reducible refine gridAt.kept ?_ (fun b hb1 hb2 => kSame_sfr (by omega)) | with_reducible refine gridAt.kept ?_ (fun b hb1 hb2 => kSame_nwA (by first | omega | (simp only [k_nx_sfi, k_nx_sfl, k_nx_sfr, k_nx_sai, k_nx_sal, k_nx_sar, k_nx_wai, k_nx_wal, k_nx_snx, k_nx_nwO, k_nx_nwA, k_nx_nwG]; omega))) | with_reducible refine gridAt.kept ?_ (fun b hb1 hb2 => kSame_nwG (by first | omega | (simp only [k_nx_sfi, k_nx_sfl, k_nx_sfr, k_nx_sai, k_nx_sal, k_nx_sar, k_nx_wai, k_nx_wal, k_nx_snx, k_nx_nwO, k_nx_nwA, k_nx_nwG]; omega))))
    · unfold mkIndex
      (repeat first | with_reducible exact fr_at (by first | omega | (simp only [k_nx_sfi, k_nx_sfl, k_nx_sfr, k_nx_sai, k_nx_sal, k_nx_sar, k_nx_wai, k_nx_wal, k_nx_snx, k_nx_nwO, k_nx_nwA, k_nx_nwG]; omega)) | with_reducible refine fr_sfr ?_ (by decide) | with_reducible refine fr_nwA ?_ (by first | omega | (simp only [k_nx_sfi, k_nx_sfl, k_nx_sfr, k_nx_sai, k_nx_sal, k_nx_sar, k_nx_wai, k_nx_wal, k_nx_snx, k_nx_nwO, k_nx_nwA, k_nx_nwG]; omega)) | with_reducible refine fr_nwG ?_)
    · unfold mkIndex
      (repeat first | with_reducible exact grid_new (by first | omega | (simp only [k_nx_sfi, k_nx_sfl, k_nx_sfr, k_nx_sai, k_nx_sal, k_nx_sar, k_nx_wai, k_nx_wal, k_nx_snx, k_nx_nwO, k_nx_nwA, k_nx_nwG]; omega)) | with_reducible refine gridAt.kept ?_ (fun b hb1 hb2 => kSame_sfr (by omega)) | with_reducible refine gridAt.kept ?_ (fun b hb1 hb2 => kSame_nwA (by first | omega | (simp only [k_nx_sfi, k_nx_sfl, k_nx_sfr, k_nx_sai, k_nx_sal, k_nx_sar, k_nx_wai, k_nx_wal, k_nx_snx, k_nx_nwO, k_nx_nwA, k_nx_nwG]; omega))) | with_reducible refine gridAt.kept ?_ (fun b hb1 hb2 => kSame_nwG (by first | omega | (simp only [k_nx_sfi, k_nx_sfl, k_nx_sfr, k_nx_sai, k_nx_sal, k_nx_sar, k_nx_wai, k_nx_wal, k_nx_snx, k_nx_nwO, k_nx_nwA, k_nx_nwG]; omega))))
    · unfold mkIndex
      (repeat first | with_reducible exact fr_at (by first | omega | (simp only [k_nx_sfi, k_nx_sfl, k_nx_sfr, k_nx_sai, k_nx_sal, k_nx_sar, k_nx_wai, k_nx_wal, k_nx_snx, k_nx_nwO, k_nx_nwA, k_nx_nwG]; omega)) | with_reducible refine fr_sfr ?_ (by decide) | with_reducible refine fr_nwA ?_ (by first | omega | (simp only [k_nx_sfi, k_nx_sfl, k_nx_sfr, k_nx_sai, k_nx_sal, k_nx_sar, k_nx_wai, k_nx_wal, k_nx_snx, k_nx_nwO, k_nx_nwA, k_nx_nwG]; omega)) | with_reducible refine fr_nwG ?_)
    · unfold mkIndex
      (repeat first | with_reducible exact arr_new (by first | omega | (simp only [k_nx_sfi, k_nx_sfl, k_nx_sfr, k_nx_sai, k_nx_sal, k_nx_sar, k_nx_wai, k_nx_wal, k_nx_snx, k_nx_nwO, k_nx_nwA, k_nx_nwG]; omega)) | with_reducible refine arrAt.kept ?_ (kSame_sfr (by omega)) | with_reducible refine arrAt.kept ?_ (kSame_nwA (by first | omega | (simp only [k_nx_sfi, k_nx_sfl, k_nx_sfr, k_nx_sai, k_nx_sal, k_nx_sar, k_nx_wai, k_nx_wal, k_nx_snx, k_nx_nwO, k_nx_nwA, k_nx_nwG]; omega))) | with_reducible refine arrAt.kept ?_ (kSame_nwG (by first | omega | (simp only [k_nx_sfi, k_nx_sfl, k_nx_sfr, k_nx_sai, k_nx_sal, k_nx_sar, k_nx_wai, k_nx_wal, k_nx_snx, k_nx_nwO, k_nx_nwA, k_nx_nwG]; omega))))
    · unfold mkIndex
      (repeat first | with_reducible exact fr_at (by first | omega | (simp only [k_nx_sfi, k_nx_sfl, k_nx_sfr, k_nx_sai, k_nx_sal, k_nx_sar, k_nx_wai, k_nx_wal, k_nx_snx, k_nx_nwO, k_nx_nwA, k_nx_nwG]; omega)) | with_reducible refine fr_sfr ?_ (by decide) | with_reducible refine fr_nwA ?_ (by first | omega | (simp only [k_nx_sfi, k_nx_sfl, k_nx_sfr, k_nx_sai, k_nx_sal, k_nx_sar, k_nx_wai, k_nx_wal, k_nx_snx, k_nx_nwO, k_nx_nwA, k_nx_nwG]; omega)) | with_reducible refine fr_nwG ?_)
    · unfold mkIndex
      (repeat first | with_reducible exact arr_new (by first | omega | (simp only [k_nx_sfi, k_nx_sfl, k_nx_sfr, k_nx_sai, k_nx_sal, k_nx_sar, k_nx_wai, k_nx_wal, k_nx_snx, k_nx_nwO, k_nx_nwA, k_nx_nwG]; omega)) | with_reducible refine arrAt.kept ?_ (kSame_sfr (by omega)) | with_reducible refine arrAt.kept ?_ (kSame_nwA (by first | omega | (simp only [k_nx_sfi, k_nx_sfl, k_nx_sfr, k_nx_sai, k_nx_sal, k_nx_sar, k_nx_wai, k_nx_wal, k_nx_snx, k_nx_nwO, k_nx_nwA, k_nx_nwG]; omega))) | with_reducible refine arrAt.kept ?_ (kSame_nwG (by first | omega | (simp only [k_nx_sfi, k_nx_sfl, k_nx_sfr, k_nx_sai, k_nx_sal, k_nx_sar, k_nx_wai, k_nx_wal, k_nx_snx, k_nx_nwO, k_nx_nwA, k_nx_nwG]; omega))))
    · unfold mkIndex
      (repeat first | with_reducible exact fr_at (by first | omega | (simp only [k_nx_sfi, k_nx_sfl, k_nx_sfr, k_nx_sai, k_nx_sal, k_nx_sar, k_nx_wai, k_nx_wal, k_nx_snx, k_nx_nwO, k_nx_nwA, k_nx_nwG]; omega)) | with_reducible refine fr_sfr ?_ (by decide) | with_reducible refine fr_nwA ?_ (by first | omega | (simp only [k_nx_sfi, k_nx_sfl, k_nx_sfr, k_nx_sai, k_nx_sal, k_nx_sar, k_nx_wai, k_nx_wal, k_nx_snx, k_nx_nwO, k_nx_nwA, k_nx_nwG]; omega)) | with_reducible refine fr_nwG ?_)
    · unfold mkIndex
      (repeat first | with_reducible exact arr_new (by first | omega | (simp only [k_nx_sfi, k_nx_sfl, k_nx_sfr, k_nx_sai, k_nx_sal, k_nx_sar, k_nx_wai, k_nx_wal, k_nx_snx, k_nx_nwO, k_nx_nwA, k_nx_nwG]; omega)) | with_reducible refine arrAt.kept ?_ (kSame_sfr (by omega)) | with_reducible refine arrAt.kept ?_ (kSame_nwA (by first | omega | (simp only [k_nx_sfi, k_nx_sfl, k_nx_sfr, k_nx_sai, k_nx_sal, k_nx_sar, k_nx_wai, k_nx_wal, k_nx_snx, k_nx_nwO, k_nx_nwA, k_nx_nwG]; omega))) | with_reducible refine arrAt.kept ?_ (kSame_nwG (by first | omega | (simp only [k_nx_sfi, k_nx_sfl, k_nx_sfr, k_nx_sai, k_nx_sal, k_nx_sar, k_nx_wai, k_nx_wal, k_nx_snx, k_nx_nwO, k_nx_nwA, k_nx_nwG]; omega))))
def ShMessage (M : kM) (g : kG) (th : Nat) : Prop := tg M th = 5 ∧ fr M th 1 = some (th + 1) ∧ arrAt M (th + 1) 0 30 ∧ fr M th 2 = some (gN g) ∧ fr M th 3 = some (gN g) ∧ fr M th 4 = some (gN g)
theorem ShMessage.kept {M M1 : kM} {g : kG} {th : Nat} (h : ShMessage M g th) (hs : ∀ b, th ≤ b → b ≤ th + 1 → kSameAt M M1 b) : ShMessage M1 g th := by
  obtain ⟨p0, p1, p2, p3, p4, p5⟩ := h
  have h0 := hs th (Nat.le_refl _) (by omega)
  exact ⟨h0.1.trans p0, by rw [h0.2.2.2.2.1]; exact p1, p2.kept (hs _ (by omega) (by omega)), by rw [h0.2.2.2.2.1]; exact p3, by rw [h0.2.2.2.2.1]; exact p4, by rw [h0.2.2.2.2.1]; exact p5⟩
set_option maxHeartbeats 4000000 in
theorem sh_Message {M : kM} {g : kG} {th : Nat} (ht : tg M th = 5) (hn : nx M = th + 1) : kGrow M (mkMessage M g th) th 1 ∧ ShMessage (mkMessage M g th) g th := by
  refine ⟨⟨nx_mkMessage, fun a ha hne => ?_, ?_, ?_, ?_⟩, ?_⟩
  · unfold mkMessage
    (repeat first | with_reducible exact kSameAt.rf | with_reducible refine kSameAt.tr ?_ (kSame_sfr (by omega)) | with_reducible refine kSameAt.tr ?_ (kSame_sfi (by omega)) | with_reducible refine kSameAt.tr ?_ (kSame_nwA (by first | omega | (simp only [k_nx_sfi, k_nx_sfl, k_nx_sfr, k_nx_sai, k_nx_sal, k_nx_sar, k_nx_wai, k_nx_wal, k_nx_snx, k_nx_nwO, k_nx_nwA, k_nx_nwG]; omega))) | with_reducible refine kSameAt.tr ?_ (kSame_nwG (by first | omega | (simp only [k_nx_sfi, k_nx_sfl, k_nx_sfr, k_nx_sai, k_nx_sal, k_nx_sar, k_nx_wai, k_nx_wal, k_nx_snx, k_nx_nwO, k_nx_nwA, k_nx_nwG]; omega))) | with_reducible refine kSameAt.tr ?_ (kSame_nwO (by first | omega | (simp only [k_nx_sfi, k_nx_sfl, k_nx_sfr, k_nx_sai, k_nx_sal, k_nx_sar, k_nx_wai, k_nx_wal, k_nx_snx, k_nx_nwO, k_nx_nwA, k_nx_nwG]; omega))))
  · exact (kOld_Message (by omega) ht).trans ht.symm
  · unfold mkMessage; simp only [k_fi_sfr, k_fi_nwA, k_fi_nwG]
  · unfold mkMessage
    (repeat first | with_reducible exact kZ0 | with_reducible refine kZ_sfr ?_ | with_reducible refine kZ_nwA ?_ | with_reducible refine kZ_nwG ?_ (by first | omega | (simp only [k_nx_sfi, k_nx_sfl, k_nx_sfr, k_nx_sai, k_nx_sal, k_nx_sar, k_nx_wai, k_nx_wal, k_nx_snx, k_nx_nwO, k_nx_nwA, k_nx_nwG]; omega)))
  · refine ⟨?_, ?_, ?_, ?_, ?_, ?_⟩
    · exact kOld_Message (by omega) ht
    · unfold mkMessage
      (repeat first | with_reducible exact fr_at (by first | omega | (simp only [k_nx_sfi, k_nx_sfl, k_nx_sfr, k_nx_sai, k_nx_sal, k_nx_sar, k_nx_wai, k_nx_wal, k_nx_snx, k_nx_nwO, k_nx_nwA, k_nx_nwG]; omega)) | with_reducible refine fr_sfr ?_ (by decide) | with_reducible refine fr_nwA ?_ (by first | omega | (simp only [k_nx_sfi, k_nx_sfl, k_nx_sfr, k_nx_sai, k_nx_sal, k_nx_sar, k_nx_wai, k_nx_wal, k_nx_snx, k_nx_nwO, k_nx_nwA, k_nx_nwG]; omega)) | with_reducible refine fr_nwG ?_)
    · unfold mkMessage
      (repeat first | with_reducible exact arr_new (by first | omega | (simp only [k_nx_sfi, k_nx_sfl, k_nx_sfr, k_nx_sai, k_nx_sal, k_nx_sar, k_nx_wai, k_nx_wal, k_nx_snx, k_nx_nwO, k_nx_nwA, k_nx_nwG]; omega)) | with_reducible refine arrAt.kept ?_ (kSame_sfr (by omega)) | with_reducible refine arrAt.kept ?_ (kSame_nwA (by first | omega | (simp only [k_nx_sfi, k_nx_sfl, k_nx_sfr, k_nx_sai, k_nx_sal, k_nx_sar, k_nx_wai, k_nx_wal, k_nx_snx, k_nx_nwO, k_nx_nwA, k_nx_nwG]; omega))) | with_reducible refine arrAt.kept ?_ (kSame_nwG (by first | omega | (simp only [k_nx_sfi, k_nx_sfl, k_nx_sfr, k_nx_sai, k_nx_sal, k_nx_sar, k_nx_wai, k_nx_wal, k_nx_snx, k_nx_nwO, k_nx_nwA, k_nx_nwG]; omega))))
    · unfold mkMessage
      (repeat first | with_reducible exact fr_at (by first | omega | (simp only [k_nx_sfi, k_nx_sfl, k_nx_sfr, k_nx_sai, k_nx_sal, k_nx_sar, k_nx_wai, k_nx_wal, k_nx_snx, k_nx_nwO, k_nx_nwA, k_nx_nwG]; omega)) | with_reducible refine fr_sfr ?_ (by decide) | with_reducible refine fr_nwA ?_ (by first | omega | (simp only [k_nx_sfi, k_nx_sfl, k_nx_sfr, k_nx_sai, k_nx_sal, k_nx_sar, k_nx_wai, k_nx_wal, k_nx_snx, k_nx_nwO, k_nx_nwA, k_nx_nwG]; omega)) | with_reducible refine fr_nwG ?_)
    · unfold mkMessage
      (repeat first | with_reducible exact fr_at (by first | omega | (simp only [k_nx_sfi, k_nx_sfl, k_nx_sfr, k_nx_sai, k_nx_sal, k_nx_sar, k_nx_wai, k_nx_wal, k_nx_snx, k_nx_nwO, k_nx_nwA, k_nx_nwG]; omega)) | with_reducible refine fr_sfr ?_ (by decide) | with_reducible refine fr_nwA ?_ (by first | omega | (simp only [k_nx_sfi, k_nx_sfl, k_nx_sfr, k_nx_sai, k_nx_sal, k_nx_sar, k_nx_wai, k_nx_wal, k_nx_snx, k_nx_nwO, k_nx_nwA, k_nx_nwG]; omega)) | with_reducible refine fr_nwG ?_)
    · unfold mkMessage
      (repeat first | with_reducible exact fr_at (by first | omega | (simp only [k_nx_sfi, k_nx_sfl, k_nx_sfr, k_nx_sai, k_nx_sal, k_nx_sar, k_nx_wai, k_nx_wal, k_nx_snx, k_nx_nwO, k_nx_nwA, k_nx_nwG]; omega)) | with_reducible refine fr_sfr ?_ (by decide) | with_reducible refine fr_nwA ?_ (by first | omega | (simp only [k_nx_sfi, k_nx_sfl, k_nx_sfr, k_nx_sai, k_nx_sal, k_nx_sar, k_nx_wai, k_nx_wal, k_nx_snx, k_nx_nwO, k_nx_nwA, k_nx_nwG]; omega)) | with_reducible refine fr_nwG ?_)
def ShOctets (M : kM) (th : Nat) : Prop := tg M th = 10 ∧ fr M th 0 = some (th + 1) ∧ arrAt M (th + 1) 2 16000 ∧ fr M th 1 = some (th + 2) ∧ arrAt M (th + 2) 1 2000 ∧ fr M th 2 = some (th + 3) ∧ arrAt M (th + 3) 1 2000 ∧ fr M th 3 = some (th + 4) ∧ arrAt M (th + 4) 0 2000 ∧ fr M th 4 = some (th + 5) ∧ arrAt M (th + 5) 0 2000
theorem ShOctets.kept {M M1 : kM} {th : Nat} (h : ShOctets M th) (hs : ∀ b, th ≤ b → b ≤ th + 5 → kSameAt M M1 b) : ShOctets M1 th := by
  obtain ⟨p0, p1, p2, p3, p4, p5, p6, p7, p8, p9, p10⟩ := h
  have h0 := hs th (Nat.le_refl _) (by omega)
  exact ⟨h0.1.trans p0, by rw [h0.2.2.2.2.1]; exact p1, p2.kept (hs _ (by omega) (by omega)), by rw [h0.2.2.2.2.1]; exact p3, p4.kept (hs _ (by omega) (by omega)), by rw [h0.2.2.2.2.1]; exact p5, p6.kept (hs _ (by omega) (by omega)), by rw [h0.2.2.2.2.1]; exact p7, p8.kept (hs _ (by omega) (by omega)), by rw [h0.2.2.2.2.1]; exact p9, p10.kept (hs _ (by omega) (by omega))⟩
set_option maxHeartbeats 4000000 in
theorem sh_Octets {M : kM} {th : Nat} (ht : tg M th = 10) (hn : nx M = th + 1) : kGrow M (mkOctets M th) th 5 ∧ ShOctets (mkOctets M th) th := by
  refine ⟨⟨nx_mkOctets, fun a ha hne => ?_, ?_, ?_, ?_⟩, ?_⟩
  · unfold mkOctets
    (repeat first | with_reducible exact kSameAt.rf | with_reducible refine kSameAt.tr ?_ (kSame_sfr (by omega)) | with_reducible refine kSameAt.tr ?_ (kSame_sfi (by omega)) | with_reducible refine kSameAt.tr ?_ (kSame_nwA (by first | omega | (simp only [k_nx_sfi, k_nx_sfl, k_nx_sfr, k_nx_sai, k_nx_sal, k_nx_sar, k_nx_wai, k_nx_wal, k_nx_snx, k_nx_nwO, k_nx_nwA, k_nx_nwG]; omega))) | with_reducible refine kSameAt.tr ?_ (kSame_nwG (by first | omega | (simp only [k_nx_sfi, k_nx_sfl, k_nx_sfr, k_nx_sai, k_nx_sal, k_nx_sar, k_nx_wai, k_nx_wal, k_nx_snx, k_nx_nwO, k_nx_nwA, k_nx_nwG]; omega))) | with_reducible refine kSameAt.tr ?_ (kSame_nwO (by first | omega | (simp only [k_nx_sfi, k_nx_sfl, k_nx_sfr, k_nx_sai, k_nx_sal, k_nx_sar, k_nx_wai, k_nx_wal, k_nx_snx, k_nx_nwO, k_nx_nwA, k_nx_nwG]; omega))))
  · exact (kOld_Octets (by omega) ht).trans ht.symm
  · unfold mkOctets; simp only [k_fi_sfr, k_fi_nwA, k_fi_nwG]
  · unfold mkOctets
    (repeat first | with_reducible exact kZ0 | with_reducible refine kZ_sfr ?_ | with_reducible refine kZ_nwA ?_ | with_reducible refine kZ_nwG ?_ (by first | omega | (simp only [k_nx_sfi, k_nx_sfl, k_nx_sfr, k_nx_sai, k_nx_sal, k_nx_sar, k_nx_wai, k_nx_wal, k_nx_snx, k_nx_nwO, k_nx_nwA, k_nx_nwG]; omega)))
  · refine ⟨?_, ?_, ?_, ?_, ?_, ?_, ?_, ?_, ?_, ?_, ?_⟩
    · exact kOld_Octets (by omega) ht
    · unfold mkOctets
      (repeat first | with_reducible exact fr_at (by first | omega | (simp only [k_nx_sfi, k_nx_sfl, k_nx_sfr, k_nx_sai, k_nx_sal, k_nx_sar, k_nx_wai, k_nx_wal, k_nx_snx, k_nx_nwO, k_nx_nwA, k_nx_nwG]; omega)) | with_reducible refine fr_sfr ?_ (by decide) | with_reducible refine fr_nwA ?_ (by first | omega | (simp only [k_nx_sfi, k_nx_sfl, k_nx_sfr, k_nx_sai, k_nx_sal, k_nx_sar, k_nx_wai, k_nx_wal, k_nx_snx, k_nx_nwO, k_nx_nwA, k_nx_nwG]; omega)) | with_reducible refine fr_nwG ?_)
    · unfold mkOctets
      (repeat first | with_reducible exact arr_new (by first | omega | (simp only [k_nx_sfi, k_nx_sfl, k_nx_sfr, k_nx_sai, k_nx_sal, k_nx_sar, k_nx_wai, k_nx_wal, k_nx_snx, k_nx_nwO, k_nx_nwA, k_nx_nwG]; omega)) | with_reducible refine arrAt.kept ?_ (kSame_sfr (by omega)) | with_reducible refine arrAt.kept ?_ (kSame_nwA (by first | omega | (simp only [k_nx_sfi, k_nx_sfl, k_nx_sfr, k_nx_sai, k_nx_sal, k_nx_sar, k_nx_wai, k_nx_wal, k_nx_snx, k_nx_nwO, k_nx_nwA, k_nx_nwG]; omega))) | with_reducible refine arrAt.kept ?_ (kSame_nwG (by first | omega | (simp only [k_nx_sfi, k_nx_sfl, k_nx_sfr, k_nx_sai, k_nx_sal, k_nx_sar, k_nx_wai, k_nx_wal, k_nx_snx, k_nx_nwO, k_nx_nwA, k_nx_nwG]; omega))))
    · unfold mkOctets
      (repeat first | with_reducible exact fr_at (by first | omega | (simp only [k_nx_sfi, k_nx_sfl, k_nx_sfr, k_nx_sai, k_nx_sal, k_nx_sar, k_nx_wai, k_nx_wal, k_nx_snx, k_nx_nwO, k_nx_nwA, k_nx_nwG]; omega)) | with_reducible refine fr_sfr ?_ (by decide) | with_reducible refine fr_nwA ?_ (by first | omega | (simp only [k_nx_sfi, k_nx_sfl, k_nx_sfr, k_nx_sai, k_nx_sal, k_nx_sar, k_nx_wai, k_nx_wal, k_nx_snx, k_nx_nwO, k_nx_nwA, k_nx_nwG]; omega)) | with_reducible refine fr_nwG ?_)
    · unfold mkOctets
      (repeat first | with_reducible exact arr_new (by first | omega | (simp only [k_nx_sfi, k_nx_sfl, k_nx_sfr, k_nx_sai, k_nx_sal, k_nx_sar, k_nx_wai, k_nx_wal, k_nx_snx, k_nx_nwO, k_nx_nwA, k_nx_nwG]; omega)) | with_reducible refine arrAt.kept ?_ (kSame_sfr (by omega)) | with_reducible refine arrAt.kept ?_ (kSame_nwA (by first | omega | (simp only [k_nx_sfi, k_nx_sfl, k_nx_sfr, k_nx_sai, k_nx_sal, k_nx_sar, k_nx_wai, k_nx_wal, k_nx_snx, k_nx_nwO, k_nx_nwA, k_nx_nwG]; omega))) | with_reducible refine arrAt.kept ?_ (kSame_nwG (by first | omega | (simp only [k_nx_sfi, k_nx_sfl, k_nx_sfr, k_nx_sai, k_nx_sal, k_nx_sar, k_nx_wai, k_nx_wal, k_nx_snx, k_nx_nwO, k_nx_nwA, k_nx_nwG]; omega))))
    · unfold mkOctets
      (repeat first | with_reducible exact fr_at (by first | omega | (simp only [k_nx_sfi, k_nx_sfl, k_nx_sfr, k_nx_sai, k_nx_sal, k_nx_sar, k_nx_wai, k_nx_wal, k_nx_snx, k_nx_nwO, k_nx_nwA, k_nx_nwG]; omega)) | with_reducible refine fr_sfr ?_ (by decide) | with_reducible refine fr_nwA ?_ (by first | omega | (simp only [k_nx_sfi, k_nx_sfl, k_nx_sfr, k_nx_sai, k_nx_sal, k_nx_sar, k_nx_wai, k_nx_wal, k_nx_snx, k_nx_nwO, k_nx_nwA, k_nx_nwG]; omega)) | with_reducible refine fr_nwG ?_)
    · unfold mkOctets
      (repeat first | with_reducible exact arr_new (by first | omega | (simp only [k_nx_sfi, k_nx_sfl, k_nx_sfr, k_nx_sai, k_nx_sal, k_nx_sar, k_nx_wai, k_nx_wal, k_nx_snx, k_nx_nwO, k_nx_nwA, k_nx_nwG]; omega)) | with_reducible refine arrAt.kept ?_ (kSame_sfr (by omega)) | with_reducible refine arrAt.kept ?_ (kSame_nwA (by first | omega | (simp only [k_nx_sfi, k_nx_sfl, k_nx_sfr, k_nx_sai, k_nx_sal, k_nx_sar, k_nx_wai, k_nx_wal, k_nx_snx, k_nx_nwO, k_nx_nwA, k_nx_nwG]; omega))) | with_reducible refine arrAt.kept ?_ (kSame_nwG (by first | omega | (simp only [k_nx_sfi, k_nx_sfl, k_nx_sfr, k_nx_sai, k_nx_sal, k_nx_sar, k_nx_wai, k_nx_wal, k_nx_snx, k_nx_nwO, k_nx_nwA, k_nx_nwG]; omega))))
    · unfold mkOctets
      (repeat first | with_reducible exact fr_at (by first | omega | (simp only [k_nx_sfi, k_nx_sfl, k_nx_sfr, k_nx_sai, k_nx_sal, k_nx_sar, k_nx_wai, k_nx_wal, k_nx_snx, k_nx_nwO, k_nx_nwA, k_nx_nwG]; omega)) | with_reducible refine fr_sfr ?_ (by decide) | with_reducible refine fr_nwA ?_ (by first | omega | (simp only [k_nx_sfi, k_nx_sfl, k_nx_sfr, k_nx_sai, k_nx_sal, k_nx_sar, k_nx_wai, k_nx_wal, k_nx_snx, k_nx_nwO, k_nx_nwA, k_nx_nwG]; omega)) | with_reducible refine fr_nwG ?_)
    · unfold mkOctets
      (repeat first | with_reducible exact arr_new (by first | omega | (simp only [k_nx_sfi, k_nx_sfl, k_nx_sfr, k_nx_sai, k_nx_sal, k_nx_sar, k_nx_wai, k_nx_wal, k_nx_snx, k_nx_nwO, k_nx_nwA, k_nx_nwG]; omega)) | with_reducible refine arrAt.kept ?_ (kSame_sfr (by omega)) | with_reducible refine arrAt.kept ?_ (kSame_nwA (by first | omega | (simp only [k_nx_sfi, k_nx_sfl, k_nx_sfr, k_nx_sai, k_nx_sal, k_nx_sar, k_nx_wai, k_nx_wal, k_nx_snx, k_nx_nwO, k_nx_nwA, k_nx_nwG]; omega))) | with_reducible refine arrAt.kept ?_ (kSame_nwG (by first | omega | (simp only [k_nx_sfi, k_nx_sfl, k_nx_sfr, k_nx_sai, k_nx_sal, k_nx_sar, k_nx_wai, k_nx_wal, k_nx_snx, k_nx_nwO, k_nx_nwA, k_nx_nwG]; omega))))
    · unfold mkOctets
      (repeat first | with_reducible exact fr_at (by first | omega | (simp only [k_nx_sfi, k_nx_sfl, k_nx_sfr, k_nx_sai, k_nx_sal, k_nx_sar, k_nx_wai, k_nx_wal, k_nx_snx, k_nx_nwO, k_nx_nwA, k_nx_nwG]; omega)) | with_reducible refine fr_sfr ?_ (by decide) | with_reducible refine fr_nwA ?_ (by first | omega | (simp only [k_nx_sfi, k_nx_sfl, k_nx_sfr, k_nx_sai, k_nx_sal, k_nx_sar, k_nx_wai, k_nx_wal, k_nx_snx, k_nx_nwO, k_nx_nwA, k_nx_nwG]; omega)) | with_reducible refine fr_nwG ?_)
    · unfold mkOctets
      (repeat first | with_reducible exact arr_new (by first | omega | (simp only [k_nx_sfi, k_nx_sfl, k_nx_sfr, k_nx_sai, k_nx_sal, k_nx_sar, k_nx_wai, k_nx_wal, k_nx_snx, k_nx_nwO, k_nx_nwA, k_nx_nwG]; omega)) | with_reducible refine arrAt.kept ?_ (kSame_sfr (by omega)) | with_reducible refine arrAt.kept ?_ (kSame_nwA (by first | omega | (simp only [k_nx_sfi, k_nx_sfl, k_nx_sfr, k_nx_sai, k_nx_sal, k_nx_sar, k_nx_wai, k_nx_wal, k_nx_snx, k_nx_nwO, k_nx_nwA, k_nx_nwG]; omega))) | with_reducible refine arrAt.kept ?_ (kSame_nwG (by first | omega | (simp only [k_nx_sfi, k_nx_sfl, k_nx_sfr, k_nx_sai, k_nx_sal, k_nx_sar, k_nx_wai, k_nx_wal, k_nx_snx, k_nx_nwO, k_nx_nwA, k_nx_nwG]; omega))))

/-! ===== Disk.isSo in one step ===== -/
/-- n places of two arrays' trees are compared from p and q on: c is told the first that differs, and whether all were alike -/
noncomputable def eSoL {α : Type} (n : Nat) : eX → eX → Nat → Nat → Nat → (Nat → Bool → Option α) → Option α := Nat.rec (motive := fun _ => eX → eX → Nat → Nat → Nat → (Nat → Bool → Option α) → Option α) (fun _ _ _ _ j c => c j true)
  (fun _ ih s1 s2 p q j c => fo (eCvI (eGet s1 p)) fun v1 => fo (eCvI (eGet s2 q)) fun v2 => eGd (Nat.beq (Nat.land v1 15) 1) (eGd (Nat.beq (Nat.land v2 15) 1) (cnd (Nat.beq v1 v2) (fo (Nat.succ p) fun p' => fo (Nat.succ q) fun q' => fo (Nat.succ j) fun j' => ih s1 s2 p' q' j' c) (c j false)))) n
theorem eSoL_ok {α : Type} (n : Nat) : ∀ (s1 s2 : eX) (p q j : Nat) (c : Nat → Bool → Option α) (r : α), eSoL n s1 s2 p q j c = some r → (∀ i, i < n → ∃ v1 v2, eCvI (eGet s1 (p + i)) = v1 ∧ eCvI (eGet s2 (q + i)) = v2 ∧ v1 % 16 = 1 ∧ v2 % 16 = 1 ∧ v1 = v2) ∧ c (j + n) true = some r ∨ ∃ e, e < n ∧ (∀ i, i < e → ∃ v1 v2, eCvI (eGet s1 (p + i)) = v1 ∧ eCvI (eGet s2 (q + i)) = v2 ∧ v1 % 16 = 1 ∧ v2 % 16 = 1 ∧ v1 = v2) ∧ (∃ v1 v2, eCvI (eGet s1 (p + e)) = v1 ∧ eCvI (eGet s2 (q + e)) = v2 ∧ v1 % 16 = 1 ∧ v2 % 16 = 1 ∧ v1 ≠ v2) ∧ c (j + e) false = some r := by
  induction n with
  | zero => intro s1 s2 p q j c r h; exact Or.inl ⟨fun i hi => by omega, h⟩
  | succ n ih =>
    intro s1 s2 p q j c r h
    have h1 : fo (eCvI (eGet s1 p)) (fun v1 => fo (eCvI (eGet s2 q)) fun v2 => eGd (Nat.beq (Nat.land v1 15) 1) (eGd (Nat.beq (Nat.land v2 15) 1) (cnd (Nat.beq v1 v2) (fo (Nat.succ p) fun p' => fo (Nat.succ q) fun q' => fo (Nat.succ j) fun j' => eSoL n s1 s2 p' q' j' c) (c j false)))) = some r := h
    rw [fo_eq, fo_eq] at h1
    obtain ⟨k1, h2⟩ := eGd_some h1
    obtain ⟨k2, h3⟩ := eGd_some h2
    have j1 := beq_t k1
    have j2 := beq_t k2
    rw [eLnd] at j1 j2
    rw [cond_beq] at h3
    by_cases z : eCvI (eGet s1 p) = eCvI (eGet s2 q)
    · rw [if_pos z, fo_eq, fo_eq, fo_eq] at h3
      have h0 : ∃ v1 v2, eCvI (eGet s1 (p + 0)) = v1 ∧ eCvI (eGet s2 (q + 0)) = v2 ∧ v1 % 16 = 1 ∧ v2 % 16 = 1 ∧ v1 = v2 := ⟨_, _, rfl, rfl, j1, j2, z⟩
      rcases ih s1 s2 (p + 1) (q + 1) (j + 1) c r h3 with ⟨g1, g2⟩ | ⟨e, g1, g2, g3, g4⟩
      · refine Or.inl ⟨fun i hi => ?_, by rw [show j + (n + 1) = j + 1 + n by omega]; exact g2⟩
        cases i with
        | zero => exact h0
        | succ i =>
          have := g1 i (by omega)
          rw [show p + 1 + i = p + (i + 1) by omega, show q + 1 + i = q + (i + 1) by omega] at this
          exact this
      · refine Or.inr ⟨e + 1, by omega, fun i hi => ?_, ?_, by rw [show j + (e + 1) = j + 1 + e by omega]; exact g4⟩
        · cases i with
          | zero => exact h0
          | succ i =>
            have := g2 i (by omega)
            rw [show p + 1 + i = p + (i + 1) by omega, show q + 1 + i = q + (i + 1) by omega] at this
            exact this
        · rw [show p + 1 + e = p + (e + 1) by omega, show q + 1 + e = q + (e + 1) by omega] at g3
          exact g3
    · rw [if_neg z] at h3
      exact Or.inr ⟨0, by omega, fun i hi => by omega, ⟨_, _, rfl, rfl, j1, j2, z⟩, h3⟩
section MS
variable {l : Launch} {g : kG} {d K N : Nat} {QR : Option Value → kM → Prop} {QX : String → kM → Prop} {kc nc : Nat} {M : kM}
def lvS (D bk at0 j : Nat) : List (Nat × Value) := [(0, .ref D), (1, .int (nI bk)), (2, .int (nI at0)), (3, .int (nI j))]
/-- one place of the two -/
theorem ms_step {D W O P bk at0 j : Nat} (hD : tg M D = 2) (hO : fr M D 1 = some O) (hW : fr M D 0 = some W) (hWt : tg M W = 11) (hP : fr M W 15 = some P) (hOt : tg M O = 103) (hPt : tg M P = 103) (hOl : bk * 64 + 64 ≤ ln M O) (hPl : at0 + 64 ≤ ln M P) (hj : j < 64)
    (ke : ai M O (bk * 64 + j) = ai M P (at0 + j) → kT l g yX1_isSo cX1_isSo 4 (some .boolean) [] d K N QR QX 2 (lvS D bk at0 (j + 1)) [] M kc nc) (kn : ai M O (bk * 64 + j) ≠ ai M P (at0 + j) → kT l g yX1_isSo cX1_isSo 4 (some .boolean) [] d K N QR QX 33 (lvS D bk at0 j) [] M kc nc) : kT l g yX1_isSo cX1_isSo 4 (some .boolean) [] d K N QR QX 2 (lvS D bk at0 j) [] M kc nc := by
  refine kT_iload_n dX1_isSo_2 rfl ?_
  refine kT_bipush (v := nI 64) dX1_isSo_3 (by decide) ?_
  refine kT_icmp_geN (tgt := 41) dX1_isSo_5 rfl (by omega) (by decide) (fun h1 => absurd h1 (by omega)) (fun _ => ?_)
  refine kT_aload_n dX1_isSo_8 rfl ?_
  refine kT_getf (c := 1) (k0 := 1) (v := .ref O) dX1_isSo_9 kf_X1_9 hD (by decide) (by decide) (kRf hO) ?_
  refine kT_iload_n dX1_isSo_12 rfl ?_
  refine kT_bipush (v := nI 64) dX1_isSo_13 (by decide) ?_
  refine kT_imulN dX1_isSo_15 ?_
  refine kT_iload_n dX1_isSo_16 rfl ?_
  refine kT_iaddN dX1_isSo_17 ?_
  refine kT_baldN dX1_isSo_18 hOt (show bk * 64 + j < ln M O by omega) rfl ?_
  refine kT_aload_n dX1_isSo_19 rfl ?_
  refine kT_getf (c := 1) (k0 := 0) (v := .ref W) dX1_isSo_20 kf_X1_15 hD (by decide) (by decide) (kRf hW) ?_
  refine kT_getf (c := 10) (k0 := 15) (v := .ref P) dX1_isSo_23 kf_X1_53 hWt (by decide) (by decide) (kRf hP) ?_
  refine kT_iload_n dX1_isSo_26 rfl ?_
  refine kT_iload_n dX1_isSo_27 rfl ?_
  refine kT_iaddN dX1_isSo_28 ?_
  refine kT_baldN dX1_isSo_29 hPt (show at0 + j < ln M P by omega) rfl ?_
  refine kT_icmp_eq (tgt := 35) dX1_isSo_30 rfl (fun h1 => ?_) (fun h1 => kn h1)
  refine kT_iinc (k0 := 3) (v := nI (j + 1)) dX1_isSo_35 rfl (by rw [← nI_add]; rfl) (by decide) rfl ?_
  refine kT_goto (tgt := 2) dX1_isSo_38 rfl ?_
  exact kT_locals (lv9 := lvS D bk at0 (j + 1)) (by simp [lvS, kSet, Value.category]) (ke h1)
theorem ms_end {D bk at0 : Nat} (kk : kT l g yX1_isSo cX1_isSo 4 (some .boolean) [] d K N QR QX 41 (lvS D bk at0 64) [] M kc nc) : kT l g yX1_isSo cX1_isSo 4 (some .boolean) [] d K N QR QX 2 (lvS D bk at0 64) [] M kc nc := by
  refine kT_iload_n dX1_isSo_2 rfl ?_
  refine kT_bipush (v := nI 64) dX1_isSo_3 (by decide) ?_
  exact kT_icmp_geN (tgt := 41) dX1_isSo_5 rfl (by decide) (by decide) (fun _ => kk) (fun h1 => absurd h1 (by omega))
theorem ms_all {D W O P bk at0 : Nat} (hD : tg M D = 2) (hO : fr M D 1 = some O) (hW : fr M D 0 = some W) (hWt : tg M W = 11) (hP : fr M W 15 = some P) (hOt : tg M O = 103) (hPt : tg M P = 103) (hOl : bk * 64 + 64 ≤ ln M O) (hPl : at0 + 64 ≤ ln M P) (e : Nat) (he : e ≤ 64) (kk : kT l g yX1_isSo cX1_isSo 4 (some .boolean) [] d K N QR QX 2 (lvS D bk at0 e) [] M kc nc) : ∀ n j, e - j = n → j ≤ e → (∀ i, j ≤ i → i < e → ai M O (bk * 64 + i) = ai M P (at0 + i)) → kT l g yX1_isSo cX1_isSo 4 (some .boolean) [] d K N QR QX 2 (lvS D bk at0 j) [] M kc nc := by
  intro n
  induction n with
  | zero => intro j hn hj _; rw [show j = e by omega]; exact kk
  | succ n ih =>
    intro j hn hj hall
    exact ms_step hD hO hW hWt hP hOt hPt hOl hPl (by omega) (fun _ => ih (j + 1) (by omega) (by omega) (fun i h1 h2 => hall i (by omega) h2)) (fun h => absurd (hall j (Nat.le_refl j) (by omega)) h)
end MS
noncomputable def hSoM : eStep := fun ih dd i _ lv st t x p u => eGd (Nat.beq (eNth lv 3) 1) (eEmp st (fo (eNth lv 0) fun o => fo (eNth lv 1) fun bk => fo (eNth lv 2) fun at0 => eGd (Nat.beq (Nat.land bk 15) 1) (eGd (Nat.beq (Nat.land at0 15) 1) (eAd o fun D => eGd (Nat.beq (eGet t (eKy D 0)) (eHO 1)) (eAd (eGet t (eKy D 2)) fun O => eAd (eGet t (eKy D 1)) fun W => eGd (Nat.beq (eGet t (eKy W 0)) (eHO 10)) (eAd (eGet t (eKy W 16)) fun P => eAr t O fun y1 n1 => eAr t P fun y2 n2 => eGd (Nat.beq y1 2) (eGd (Nat.beq y2 2) (eGd (Nat.ble n1 16777215) (eGd (Nat.ble n2 16777215) (eGd (Nat.ble (Nat.add (Nat.mul (ePl bk) 64) 64) n1) (eGd (Nat.ble (Nat.add (ePl at0) 64) n2)
    (eSoL 64 (eSub 11 t O) (eSub 11 t P) (Nat.add (Nat.mul (ePl bk) 64) 2) (Nat.add (ePl at0) 2) 0 fun j same => cnd same (ih dd i 41 [o, bk, at0, 1025] [] t x p u) (fo (eI j) fun z => ih dd i 33 [o, bk, at0, z] [] t x p u)))))))))))))
noncomputable def hSo : eStep := fun ih dd i pc lv st t x p u => cnd (Nat.beq (eNth lv 3) 1) (hSoM ih dd i pc lv st t x p u) (hLd eIi 3 3 ih dd i pc lv st t x p u)
section MT
variable {g : kG} {b : Nat} {l : Launch} {mt : Nat → eMeta}
/-- what a tree says of one place -/
theorem eCv_at {ty v : Nat} {i : Int32} {z : Int64} {r : Option Nat} (hty : ty = 2) (h : eHas g b v (mkI ty i) z r) (h1 : eCvI v % 16 = 1) : eCvI v / 16 < 4294967296 ∧ i = nI (eCvI v / 16) := by
  subst hty
  have h2 : eVal g b (eCvI v) (.int i) := h.i (fun e => by rw [e] at h1; omega)
  obtain ⟨q1, q2⟩ := h2.I h1
  cases q2
  exact ⟨q1, rfl⟩
theorem eRef_at {v : Nat} {i : Int32} {z : Int64} {r : Option Nat} (h : eHas g b v i z r) (h1 : v % 16 = 6) : r = some (b + v / 16) := by
  rcases h.2.2.2 (by omega) (by omega) with q | q | q | q | q | q
  · exact q.2
  all_goals (exfalso; omega)
theorem so_soM : eSOK g b l mt (yX1_isSo, cX1_isSo, 4, some .boolean, []) 2 hSoM := by
  refine so_pure (fun ih dd i lv st t x p u r h => ?_)
  obtain ⟨i0, h0⟩ := eGd_some h
  obtain ⟨es, h1⟩ := eEmp_some h0
  subst es
  rw [fo_eq, fo_eq, fo_eq] at h1
  obtain ⟨i1, h2⟩ := eGd_some h1
  obtain ⟨i2, h3⟩ := eGd_some h2
  obtain ⟨o1, o2, h4⟩ := eAd_some h3
  obtain ⟨i3, h5⟩ := eGd_some h4
  obtain ⟨p1, p2, h6⟩ := eAd_some h5
  obtain ⟨w1, w2, h7⟩ := eAd_some h6
  obtain ⟨i4, h8⟩ := eGd_some h7
  obtain ⟨m1, m2, h9⟩ := eAd_some h8
  obtain ⟨b1, b2, h10⟩ := eAr_some p2 h9
  obtain ⟨b3, b4, h11⟩ := eAr_some m2 h10
  obtain ⟨i5, h12⟩ := eGd_some h11
  obtain ⟨i6, h13⟩ := eGd_some h12
  obtain ⟨i7, h14⟩ := eGd_some h13
  obtain ⟨i8, h15⟩ := eGd_some h14
  obtain ⟨i9, h16⟩ := eGd_some h15
  obtain ⟨i10, h17⟩ := eGd_some h16
  have j0 := beq_t i0
  have j1 := beq_t i1
  have j2 := beq_t i2
  rw [eLnd] at j1 j2
  have j5 := beq_t i5
  have j6 := beq_t i6
  have l7 := ble_t i7
  have l8 := ble_t i8
  have l9 : eNth lv 1 / 16 * 64 + 64 ≤ _ := ble_t i9
  have l10 : eNth lv 2 / 16 + 64 ≤ _ := ble_t i10
  have L := eSoL_ok 64 _ _ _ _ 0 _ r h17
  have sub : ∀ {a : Nat}, a < 2048 → ∀ k, eGet (eSub 11 t a) (k + 2) = eGet t (eKy a (k + 1)) := fun ha k => eSub_ok 11 t _ (k + 2) ha (by omega)
  have fin : ∀ (e pc9 z : Nat), e ≤ 64 → z = eI e → (∀ k, k < e → ∃ v1 v2, eCvI (eGet (eSub 11 t (eGet t (eKy (eNth lv 0 / 16) 2) / 16)) (eNth lv 1 / 16 * 64 + 2 + k)) = v1 ∧ eCvI (eGet (eSub 11 t (eGet t (eKy (eGet t (eKy (eNth lv 0 / 16) 1) / 16) 16) / 16)) (eNth lv 2 / 16 + 2 + k)) = v2 ∧ v1 % 16 = 1 ∧ v2 % 16 = 1 ∧ v1 = v2) →
      (∀ (M : kM) (D W O P : Nat) (K N : Nat) (QR : Option Value → kM → Prop) (QX : String → kM → Prop) (kc nc : Nat), eMm g b t x u M → tg M D = 2 → fr M D 1 = some O → fr M D 0 = some W → tg M W = 11 → fr M W 15 = some P → tg M O = 103 → tg M P = 103 → eNth lv 1 / 16 * 64 + 64 ≤ ln M O → eNth lv 2 / 16 + 64 ≤ ln M P → O = b + eGet t (eKy (eNth lv 0 / 16) 2) / 16 → P = b + eGet t (eKy (eGet t (eKy (eNth lv 0 / 16) 1) / 16) 16) / 16 → kT l g yX1_isSo cX1_isSo 4 (some .boolean) [] dd K N QR QX pc9 (lvS D (eNth lv 1 / 16) (eNth lv 2 / 16) e) [] M kc nc → kT l g yX1_isSo cX1_isSo 4 (some .boolean) [] dd K N QR QX 2 (lvS D (eNth lv 1 / 16) (eNth lv 2 / 16) e) [] M kc nc) →
      ih dd i pc9 [eNth lv 0, eNth lv 1, eNth lv 2, z] [] t x p u = some r → ∃ np lv' st', ih dd i np lv' st' t x p u = some r ∧ ∀ lc sc M, eLv g b lv lc → eSk g b [] sc → eMm g b t x u M → ∃ lc' sc', eLv g b lv' lc' ∧ eSk g b st' sc' ∧ ∀ K N QR QX kc nc, kT l g yX1_isSo cX1_isSo 4 (some .boolean) [] dd K N QR QX np lc' sc' M kc nc → kT l g yX1_isSo cX1_isSo 4 (some .boolean) [] dd K N QR QX 2 lc sc M kc nc := by
    intro e pc9 z he hz hall hlast hrun
    refine ⟨pc9, _, [], hrun, fun lc sc M a1 a2 a3 => ?_⟩
    rw [eSk_nil a2]
    obtain ⟨w0, k0, v0⟩ := a1 0 (by omega)
    obtain ⟨wb, kb, vb⟩ := a1 1 (by omega)
    obtain ⟨wa, ka, va⟩ := a1 2 (by omega)
    obtain ⟨w3, k3, v3⟩ := a1 3 (by omega)
    have q0 := v0.O o1
    have qb := (vb.I j1).2
    have qa := (va.I j2).2
    rw [j0] at v3
    have q3 := (v3.I (by decide)).2
    subst q0; subst qb; subst qa; subst q3
    obtain ⟨d1, d2⟩ := a3.obj o2 i3
    have fO := eRef_at (d2 1) p1
    have fW := eRef_at (d2 0) w1
    obtain ⟨f1, f2⟩ := a3.obj w2 i4
    have fP := eRef_at (f2 15) m1
    obtain ⟨u1, u2, u3⟩ := a3.arr p2 b1 b2
    obtain ⟨y1, y2, y3⟩ := a3.arr m2 b3 b4
    refine ⟨lvS (b + eNth lv 0 / 16) (eNth lv 1 / 16) (eNth lv 2 / 16) e, [], ?_, trivial, fun K N QR QX kc nc hk => ?_⟩
    · intro k hk
      match k, hk with
      | 0, _ => exact ⟨_, rfl, v0⟩
      | 1, _ => exact ⟨_, rfl, vb⟩
      | 2, _ => exact ⟨_, rfl, va⟩
      | 3, _ => exact ⟨_, rfl, by rw [hz]; exact eVal_mkI (by omega)⟩
      | (k + 4), hk => exact absurd rfl hk
    · refine kT_locals (lv9 := lvS (b + eNth lv 0 / 16) (eNth lv 1 / 16) (eNth lv 2 / 16) 0) (fun q hq => ?_) ?_
      · simp only [lvS, List.mem_cons, List.not_mem_nil, or_false] at hq
        rcases hq with rfl | rfl | rfl | rfl
        · exact kMem_of k0
        · exact kMem_of kb
        · exact kMem_of ka
        · exact kMem_of k3
      · have t1 : tg M (b + eGet t (eKy (eNth lv 0 / 16) 2) / 16) = 103 := by rw [u1, j5]
        have t2 : tg M (b + eGet t (eKy (eGet t (eKy (eNth lv 0 / 16) 1) / 16) 16) / 16) = 103 := by rw [y1, j6]
        have n1 := u2 ▸ l9
        have n2 := y2 ▸ l10
        refine ms_all d1 fO fW f1 fP t1 t2 n1 n2 e he (hlast M _ _ _ _ K N QR QX kc nc a3 d1 fO fW f1 fP t1 t2 n1 n2 rfl rfl hk) e 0 (by omega) (by omega) (fun k _ hk2 => ?_)
        obtain ⟨x1, x2, g1, g2, g3, g4, g5⟩ := hall k hk2
        rw [show eNth lv 1 / 16 * 64 + 2 + k = eNth lv 1 / 16 * 64 + k + 2 by omega, sub p2] at g1
        rw [show eNth lv 2 / 16 + 2 + k = eNth lv 2 / 16 + k + 2 by omega, sub m2] at g2
        have c1 := eCv_at j5 (u3 (eNth lv 1 / 16 * 64 + k)) (by rw [g1]; exact g3)
        have c2 := eCv_at j6 (y3 (eNth lv 2 / 16 + k)) (by rw [g2]; exact g4)
        rw [c1.2, c2.2, g1, g2, g5]
  rcases L with ⟨g1, g2⟩ | ⟨e, g1, g2, g3, g4⟩
  · exact fin 64 41 1025 (Nat.le_refl _) rfl g1 (fun M D W O P K N QR QX kc nc a3 _ _ _ _ _ _ _ _ _ _ _ hk => ms_end hk) g2
  · have g4' : fo (eI (0 + e)) (fun z => ih dd i 33 [eNth lv 0, eNth lv 1, eNth lv 2, z] [] t x p u) = some r := g4
    rw [fo_eq, Nat.zero_add] at g4'
    refine fin e 33 _ (by omega) rfl g2 (fun M D W O P K N QR QX kc nc a3 hD hO hW hWt hP hOt hPt hOl hPl eO eP hk => ?_) g4'
    refine ms_step hD hO hW hWt hP hOt hPt hOl hPl (by omega) (fun heq => ?_) (fun _ => hk)
    exfalso
    obtain ⟨x1, x2, c1, c2, c3, c4, c5⟩ := g3
    have c1' : eCvI (eGet (eSub 11 t (eGet t (eKy (eNth lv 0 / 16) 2) / 16)) (eNth lv 1 / 16 * 64 + 2 + e)) = x1 := c1
    have c2' : eCvI (eGet (eSub 11 t (eGet t (eKy (eGet t (eKy (eNth lv 0 / 16) 1) / 16) 16) / 16)) (eNth lv 2 / 16 + 2 + e)) = x2 := c2
    rw [show eNth lv 1 / 16 * 64 + 2 + e = eNth lv 1 / 16 * 64 + e + 2 by omega, sub p2] at c1'
    rw [show eNth lv 2 / 16 + 2 + e = eNth lv 2 / 16 + e + 2 by omega, sub m2] at c2'
    obtain ⟨u1, u2, u3⟩ := a3.arr p2 b1 b2
    obtain ⟨y1, y2, y3⟩ := a3.arr m2 b3 b4
    have q1 := eCv_at j5 (u3 (eNth lv 1 / 16 * 64 + e)) (by rw [c1']; exact c3)
    have q2 := eCv_at j6 (y3 (eNth lv 2 / 16 + e)) (by rw [c2']; exact c4)
    rw [eO, eP, q1.2, q2.2, c1', c2'] at heq
    rw [c1'] at q1
    rw [c2'] at q2
    have := (nI_inj q1.1 q2.1).mp heq
    omega
theorem so_so : eSOK g b l mt (yX1_isSo, cX1_isSo, 4, some .boolean, []) 2 hSo := so_alt (c := fun lv => Nat.beq (eNth lv 3) 1) so_soM (so_iload_n dX1_isSo_2 rfl rfl)
end MT

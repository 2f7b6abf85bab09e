/-! ===== ranges: sums and products within bounds, octets read where all is 0, Arrays.fill of a whole row of octets ===== -/
noncomputable def eBl (B : eBd) (v : Nat) : Nat := cnd (Nat.beq (Nat.land v 15) 1) (ePl v) (cnd (Nat.beq (Nat.land v 15) 2) (eBn B (ePl v)).1 (eLo v))
noncomputable def eBh (B : eBd) (v : Nat) : Nat := cnd (Nat.beq (Nat.land v 15) 1) (ePl v) (cnd (Nat.beq (Nat.land v 15) 2) (eBn B (ePl v)).2 (eHi v))
noncomputable def eR2g (f : Nat → Nat → Nat) (B : eBd) (x y : Nat) : Nat := cnd (eIi x) (cnd (eIi y) (cnd (Nat.ble (f (eBh B x) (eBh B y)) 2147483647) (eRg (f (eBl B x) (eBl B y)) (f (eBh B x) (eBh B y))) eAny) 0) 0
noncomputable def eR2 (f : Nat → Nat → Nat) (B : eBd) (x y : Nat) : Nat := cnd (Nat.beq (Nat.land x 15) 1) (cnd (Nat.beq (Nat.land y 15) 1) (eF2 f x y) (eR2g f B x y)) (eR2g f B x y)
theorem eBnd_ok {g : kG} {B : eBd} (hE : eEnv g B) {v : Nat} {i : Int32} (h : eIn g v i) : ∃ n, i = nI n ∧ n < 4294967296 ∧ eBl B v ≤ n ∧ n ≤ eBh B v := by
  unfold eBl eBh
  rw [eLnd]
  simp only [cond_beq]
  rcases h with ⟨h1, h2, h3⟩ | ⟨h1, h2⟩ | ⟨h1, n, e1, e2, e3, e4⟩
  · rw [if_pos h1, if_pos h1]
    exact ⟨v / 16, h3, h2, Nat.le_refl _, Nat.le_refl _⟩
  · obtain ⟨n, e1, e2, e3, e4⟩ := hE.2 (v / 16)
    have q : ¬ v % 16 = 1 := by omega
    rw [if_neg q, if_pos h1, if_neg q, if_pos h1]
    exact ⟨n, h2.trans e1, e2, e3, e4⟩
  · have q : ¬ v % 16 = 1 := by omega
    have q2 : ¬ v % 16 = 2 := by omega
    rw [if_neg q, if_neg q2, if_neg q, if_neg q2]
    exact ⟨n, e4, e3, e1, e2⟩
theorem eVal_rg {g : kG} {b lo hi n : Nat} (h1 : lo ≤ n) (h2 : n ≤ hi) (h3 : hi ≤ 2147483647) : eVal g b (eRg lo hi) (.int (nI n)) := by
  refine Or.inl ⟨_, rfl, Or.inr (Or.inr ⟨?_, n, ?_, ?_, by omega, rfl⟩)⟩
  · show (16 * (lo + 4294967296 * hi) + 3) % 16 = 3
    omega
  · show (16 * (lo + 4294967296 * hi) + 3) / 16 % 4294967296 ≤ n
    omega
  · show n ≤ (16 * (lo + 4294967296 * hi) + 3) / 16 / 4294967296
    omega
theorem eR2_b {g : kG} {b : Nat} {B : eBd} (hE : eEnv g B) {f : Nat → Nat → Nat} {F : Int32 → Int32 → Int32} (hF : ∀ a c, a < 4294967296 → c < 4294967296 → F (nI a) (nI c) = nI (f a c)) (hm : ∀ a c a' c', a ≤ a' → c ≤ c' → f a c ≤ f a' c') : ∀ x y X Y, eVal g b x X → eVal g b y Y → eR2 f B x y ≠ 0 → ∃ Z, eBI F X Y Z ∧ eVal g b (eR2 f B x y) Z := by
  have hg : ∀ x y X Y, eVal g b x X → eVal g b y Y → eR2g f B x y ≠ 0 → ∃ Z, eBI F X Y Z ∧ eVal g b (eR2g f B x y) Z := by
    intro x y X Y hx hy h
    have e4 : eIi x = true := by
      cases h4 : eIi x with
      | true => rfl
      | false => unfold eR2g at h; rw [h4] at h; exact absurd rfl h
    have e3 : eIi y = true := by
      cases h3 : eIi y with
      | true => rfl
      | false => unfold eR2g at h; rw [e4, h3] at h; exact absurd rfl h
    obtain ⟨i, rfl, hi⟩ := hx.int (eIi_of e4)
    obtain ⟨j, rfl, hj⟩ := hy.int (eIi_of e3)
    refine ⟨.int (F i j), ⟨i, j, rfl, rfl, rfl⟩, ?_⟩
    unfold eR2g
    rw [e4, e3]
    show eVal g b (cnd (Nat.ble (f (eBh B x) (eBh B y)) 2147483647) (eRg (f (eBl B x) (eBl B y)) (f (eBh B x) (eBh B y))) eAny) _
    rw [cond_ble]
    by_cases q : f (eBh B x) (eBh B y) ≤ 2147483647
    · rw [if_pos q]
      obtain ⟨n, rfl, n1, n2, n3⟩ := eBnd_ok hE hi
      obtain ⟨m, rfl, m1, m2, m3⟩ := eBnd_ok hE hj
      rw [hF n m n1 m1]
      exact eVal_rg (hm _ _ _ _ n2 m2) (hm _ _ _ _ n3 m3) q
    · rw [if_neg q]; exact eVal_any _
  intro x y X Y hx hy h
  have e : eR2 f B x y = eF2 f x y ∨ eR2 f B x y = eR2g f B x y := by
    unfold eR2
    cases Nat.beq (Nat.land x 15) 1 with
    | false => exact Or.inr rfl
    | true =>
      cases Nat.beq (Nat.land y 15) 1 with
      | false => exact Or.inr rfl
      | true => exact Or.inl rfl
  rcases e with e | e
  · rw [e] at h ⊢
    exact eF2_b hF x y X Y hx hy h
  · rw [e] at h ⊢
    exact hg x y X Y hx hy h
/-- all places from lo to hi are 0; a node's own number is acc + w -/
noncomputable def eAz (lo hi : Nat) (t : eX) : Nat → Nat → Bool := Lean.RArray.rec (motive := fun _ => Nat → Nat → Bool) (fun _ _ _ => true)
  (fun v _ _ fl fr acc w => cnd (cnd (Nat.beq v 0) true (cnd (Nat.ble lo (Nat.add acc w)) (cnd (Nat.ble (Nat.add acc w) hi) false true) true)) (cnd (fl acc (Nat.mul 2 w)) (fr (Nat.add acc w) (Nat.mul 2 w)) false) false) t
theorem eAz_ok (lo hi : Nat) (t : eX) : ∀ (acc w : Nat), eAz lo hi t acc w = true → ∀ k, 0 < k → lo ≤ acc + w * k → acc + w * k ≤ hi → eGet t k = 0 := by
  induction t with
  | leaf v => intro acc w _ k _ _ _; rfl
  | branch v l r ihl ihr =>
    intro acc w h k hk h1 h2
    have h' : cnd (cnd (Nat.beq v 0) true (cnd (Nat.ble lo (acc + w)) (cnd (Nat.ble (acc + w) hi) false true) true)) (cnd (eAz lo hi l acc (2 * w)) (eAz lo hi r (acc + w) (2 * w)) false) false = true := h
    have c1 : cnd (Nat.beq v 0) true (cnd (Nat.ble lo (acc + w)) (cnd (Nat.ble (acc + w) hi) false true) true) = true := by
      cases hc : cnd (Nat.beq v 0) true (cnd (Nat.ble lo (acc + w)) (cnd (Nat.ble (acc + w) hi) false true) true) with
      | true => rfl
      | false => rw [hc] at h'; cases h'
    rw [c1] at h'
    have c2 : eAz lo hi l acc (2 * w) = true := by
      cases hc : eAz lo hi l acc (2 * w) with
      | true => rfl
      | false => rw [hc] at h'; cases h'
    rw [c2] at h'
    have c3 : eAz lo hi r (acc + w) (2 * w) = true := h'
    rw [show (Lean.RArray.branch v l r : eX) = eNd l v r from rfl, eGet_N]
    by_cases k1 : k = 1
    · subst k1
      rw [if_pos rfl]
      rw [Nat.mul_one] at h1 h2
      simp only [cond_beq, cond_ble] at c1
      by_cases v0 : v = 0
      · exact v0
      · rw [if_neg v0, if_pos h1, if_pos h2] at c1
        cases c1
    · rw [if_neg k1]
      by_cases k2 : k % 2 = 0
      · rw [if_pos k2]
        have e : 2 * w * (k / 2) = w * k := by
          rw [show 2 * w * (k / 2) = w * (2 * (k / 2)) by rw [Nat.mul_comm 2 w, Nat.mul_assoc], show 2 * (k / 2) = k by omega]
        exact ihl acc (2 * w) c2 (k / 2) (by omega) (by rw [e]; exact h1) (by rw [e]; exact h2)
      · rw [if_neg k2]
        have e : acc + w + 2 * w * (k / 2) = acc + w * k := by
          have e1 : 2 * w * (k / 2) = w * (2 * (k / 2)) := by rw [Nat.mul_comm 2 w, Nat.mul_assoc]
          have e2 : w * k = w * (2 * (k / 2) + 1) := by rw [show 2 * (k / 2) + 1 = k by omega]
          rw [e1, e2, Nat.mul_add, Nat.mul_one]; omega
        exact ihr (acc + w) (2 * w) c3 (k / 2) (by omega) (by rw [e]; exact h1) (by rw [e]; exact h2)
noncomputable def hAlZ (B : eBd) (np : Nat) : eStep := fun ih dd i _ lv st t x p u => eP st fun j s => eP s fun r s' => eRng B j fun lo hi => eAd r fun a => eAr t a fun ty n => eGd (ok2 ty) (eGd (Nat.ble (Nat.succ hi) n) (eGd (Nat.ble n 2147483647) (eGd (eAz (Nat.add lo 2) (Nat.add hi 2) (eSub 11 t a) 0 1) (ih dd i np lv (1 :: s') t x p u))))
noncomputable def eTop (st : List Nat) : Bool := List.rec (motive := fun _ => Bool) true (fun a _ _ => Nat.beq (Nat.land a 15) 1) st
noncomputable def hAlB (B : eBd) (np : Nat) : eStep := fun ih dd i pc lv st t x p u => cnd (eTop st) (hAl ok2 eCvI np ih dd i pc lv st t x p u) (hAlZ B np ih dd i pc lv st t x p u)
section RG
variable {g : kG} {b : Nat} {l : Launch} {mt : Nat → eMeta} {nm : MethodName} {cc : ByteArray} {mL : Nat} {rt : Option FieldType} {hh : List (Nat × Nat × Nat × Nat)} {pc : Nat} {B : eBd}
theorem so_iaddR (hE : eEnv g B) {np : Nat} (hdg : decode cc pc = .ok (.iadd, 1)) (hp : pc + 1 = np) : eSOK g b l mt (nm, cc, mL, rt, hh) pc (hB (eR2 Nat.add B) np) := by
  subst hp
  exact so_B (eR2_b hE (F := (fun x y => x + y)) (fun a c ha hc => nI_add a c) (fun a c a' c' h1 h2 => Nat.add_le_add h1 h2)) (fun _ _ _ _ _ _ _ _ _ _ X Y Z ⟨i, j, e1, e2, e3⟩ h => by subst e1; subst e2; subst e3; exact kT_iadd hdg h)
theorem so_imulR (hE : eEnv g B) {np : Nat} (hdg : decode cc pc = .ok (.imul, 1)) (hp : pc + 1 = np) : eSOK g b l mt (nm, cc, mL, rt, hh) pc (hB (eR2 Nat.mul B) np) := by
  subst hp
  exact so_B (eR2_b hE (F := (fun x y => x * y)) (fun a c ha hc => nI_mul a c) (fun a c a' c' h1 h2 => Nat.mul_le_mul h1 h2)) (fun _ _ _ _ _ _ _ _ _ _ X Y Z ⟨i, j, e1, e2, e3⟩ h => by subst e1; subst e2; subst e3; exact kT_imul hdg h)
theorem so_baloadZ (hE : eEnv g B) {np : Nat} (hdg : decode cc pc = .ok (.baload, 1)) (hp : pc + 1 = np) : eSOK g b l mt (nm, cc, mL, rt, hh) pc (hAlZ B np) := by
  subst hp
  refine so_pure (fun ih dd i lv st t x p u r h => ?_)
  obtain ⟨j, s, es, h1⟩ := eP_some h
  subst es
  obtain ⟨o, s', es, h2⟩ := eP_some h1
  subst es
  obtain ⟨hk, lo, hi, h3, hn⟩ := eRng_ok hE h2
  obtain ⟨h5, h6, h7⟩ := eAd_some h3
  obtain ⟨h8, h9, h10⟩ := eAr_some h6 h7
  obtain ⟨h11, h12⟩ := eGd_some h10
  obtain ⟨h13, h14⟩ := eGd_some h12
  obtain ⟨h15, h16⟩ := eGd_some h14
  obtain ⟨h17, h18⟩ := eGd_some h16
  refine ⟨pc + 1, lv, _, h18, fun lc sc M a1 a2 a3 => ?_⟩
  obtain ⟨w, ws, rfl, b1, b2⟩ := eSk_cons a2
  obtain ⟨w2, ws2, rfl, c1, c2⟩ := eSk_cons b2
  obtain ⟨z, rfl, b3⟩ := b1.int hk
  obtain ⟨n, rfl, n1, n2, n3⟩ := hn z b3
  rw [c1.O h5]
  obtain ⟨d1, d2, d3⟩ := a3.arr h6 h8 h9
  have hj0 : hi < ln M (b + o / 16) := by rw [d2]; exact ble_t h13
  have hj : n < ln M (b + o / 16) := Nat.lt_of_le_of_lt n3 hj0
  have hz : eGet t (eKy (o / 16) (n + 1)) = 0 := by
    have q := eAz_ok _ _ _ 0 1 h17 (n + 2) (by omega) (show lo + 2 ≤ 0 + 1 * (n + 2) by omega) (show 0 + 1 * (n + 2) ≤ hi + 2 by omega)
    have e := eSub_ok 11 t (o / 16) (n + 2) h6 (by omega)
    rw [q] at e
    exact e.symm
  have v0 := ((d3 n).1 hz).1
  rcases ok2_of h11 with e | e
  · rw [e] at v0 d1
    have v1 : ai M (b + o / 16) n = 0 := v0
    refine ⟨lc, .int (ai M (b + o / 16) n) :: ws2, a1, ⟨?_, c2⟩, fun K N QR QX kc nc hq => kT_baldN hdg d1 hj rfl hq⟩
    rw [v1]
    exact eVal_mkI (n := 0) (by decide)
  · rw [e] at v0 d1
    have v1 : ai M (b + o / 16) n = 0 := v0
    refine ⟨lc, .int (ai M (b + o / 16) n) :: ws2, a1, ⟨?_, c2⟩, fun K N QR QX kc nc hq => kT_zaldN hdg d1 hj rfl hq⟩
    rw [v1]
    exact eVal_mkI (n := 0) (by decide)
theorem so_altS {s1 s2 : eStep} {c : List Nat → Bool} (h1 : eSOK g b l mt (nm, cc, mL, rt, hh) pc s1) (h2 : eSOK g b l mt (nm, cc, mL, rt, hh) pc s2) : eSOK g b l mt (nm, cc, mL, rt, hh) pc (fun ih dd i pc lv st t x p u => cnd (c st) (s1 ih dd i pc lv st t x p u) (s2 ih dd i pc lv st t x p u)) := by
  intro ih hih dd i lv st t x p u r hq h
  cases hc : c st with
  | true =>
    have h9 : cnd (c st) (s1 ih dd i pc lv st t x p u) (s2 ih dd i pc lv st t x p u) = some r := h
    rw [hc] at h9
    exact h1 ih hih dd i lv st t x p u r hq h9
  | false =>
    have h9 : cnd (c st) (s1 ih dd i pc lv st t x p u) (s2 ih dd i pc lv st t x p u) = some r := h
    rw [hc] at h9
    exact h2 ih hih dd i lv st t x p u r hq h9
theorem so_baloadB (hE : eEnv g B) {np : Nat} (hdg : decode cc pc = .ok (.baload, 1)) (hp : pc + 1 = np) : eSOK g b l mt (nm, cc, mL, rt, hh) pc (hAlB B np) := so_altS (c := eTop) (so_baload hdg hp) (so_baloadZ hE hdg hp)
end RG
section MJ
variable {l : Launch} {g : kG} {d K N : Nat} {QR : Option Value → kM → Prop} {QX : String → kM → Prop} {kc nc : Nat} {b : Nat} {mt : Nat → eMeta}
def lvG (A q i : Nat) : List (Nat × Value) := [(0, .ref A), (1, .int (nI 0)), (2, .int (nI i)), (3, .int (nI q))]
theorem mf_fil2 (A q : Nat) (hq : q < 2147483648) : ∀ (n i : Nat) (M : kM), q - i = n → i ≤ q → tg M A = 103 → q ≤ ln M A → kT l g yJ7_fill_031fb cJ7_fill_031fb 4 none [] d K N QR QX 20 (lvG A q q) [] (wai M A (cl0 M A i q)) kc nc → kT l g yJ7_fill_031fb cJ7_fill_031fb 4 none [] d K N QR QX 5 (lvG A q i) [] M kc nc := by
  intro n
  induction n with
  | zero =>
    intro i M hn hi ht hl hk
    have e : i = q := by omega
    subst e
    refine kT_iload_n dJ7_fill_031fb_5 rfl ?_
    refine kT_iload_n dJ7_fill_031fb_6 rfl ?_
    refine kT_icmp_geN (tgt := 20) dJ7_fill_031fb_7 rfl hq hq (fun _ => ?_) (fun h1 => absurd h1 (by omega))
    exact kT_mem (wai_self M A (h := cl0 M A i i) (fun j => by unfold cl0; rw [if_neg (by omega)])) hk
  | succ n ih =>
    intro i M hn hi ht hl hk
    refine kT_iload_n dJ7_fill_031fb_5 rfl ?_
    refine kT_iload_n dJ7_fill_031fb_6 rfl ?_
    refine kT_icmp_geN (tgt := 20) dJ7_fill_031fb_7 rfl (by omega) hq (fun h1 => absurd h1 (by omega)) (fun _ => ?_)
    refine kT_aload_n dJ7_fill_031fb_10 rfl ?_
    refine kT_iload_n dJ7_fill_031fb_11 rfl ?_
    refine kT_iload_n dJ7_fill_031fb_12 rfl ?_
    refine kT_bastN dJ7_fill_031fb_13 ht (show i < ln M A by omega) ?_
    refine kT_iinc (k0 := 2) (v := nI (i + 1)) dJ7_fill_031fb_14 rfl (by rw [← nI_add]; rfl) (by decide) rfl ?_
    refine kT_goto (tgt := 5) dJ7_fill_031fb_17 rfl ?_
    refine kT_locals (lv9 := lvG A q (i + 1)) (by simp [lvG, kSet, Value.category]) ?_
    refine ih (i + 1) (sai M A i ((nI 0).toInt8.toInt32)) (by omega) (by omega) (by rw [k_tg_sai]; exact ht) (by rw [k_ln_sai]; exact hl) ?_
    rw [wai_sai]
    refine kT_mem (wai_cg (fun j => ?_)) hk
    unfold cl0
    by_cases z : i + 1 ≤ j ∧ j < q
    · rw [if_pos z, if_pos (by omega)]
    · rw [if_neg z, k_ai_sai]
      by_cases z2 : j = i
      · rw [if_pos ⟨z2, rfl⟩, if_pos (by omega)]; decide
      · rw [if_neg (fun y => z2 y.1), if_neg (by omega)]
end MJ
noncomputable def hFi2M : eStep := fun ih dd i _ lv st t x p u => eGd (Nat.beq (eNth lv 1) 1) (eEmp st (eAd (eNth lv 0) fun a => eAr t a fun ty n => eGd (Nat.beq ty 2) (eGd (Nat.ble n 16777215) (fo (eNth lv 3) fun q => fo (eNth lv 2) fun j => eGd (Nat.beq (Nat.land q 15) 1) (eGd (Nat.beq (Nat.land j 15) 1) (eGd (Nat.ble (ePl q) n) (eGd (Nat.ble (ePl j) (ePl q)) (eClr t a (ePl j) (ePl q) fun t' => fo (eNth lv 0) fun o => ih dd i 20 [o, 1, q, q] [] t' x p u))))))))
noncomputable def hFi2 : eStep := fun ih dd i pc lv st t x p u => cnd (Nat.beq (eNth lv 1) 1) (hFi2M ih dd i pc lv st t x p u) (hLd eIi 2 6 ih dd i pc lv st t x p u)
section MK
variable {g : kG} {b : Nat} {l : Launch} {mt : Nat → eMeta}
theorem so_fi2M : eSOK g b l mt (yJ7_fill_031fb, cJ7_fill_031fb, 4, none, []) 5 hFi2M := by
  refine so_mem (fun ih dd i lv st t x p u r h => ?_)
  obtain ⟨i7, h0⟩ := eGd_some h
  obtain ⟨es, h1⟩ := eEmp_some h0
  subst es
  obtain ⟨o1, o2, h2⟩ := eAd_some h1
  obtain ⟨b1, b2, h3⟩ := eAr_some o2 h2
  obtain ⟨i1, h4⟩ := eGd_some h3
  obtain ⟨i2, h5⟩ := eGd_some h4
  rw [fo_eq, fo_eq] at h5
  obtain ⟨i3, h6⟩ := eGd_some h5
  obtain ⟨i4, h7⟩ := eGd_some h6
  obtain ⟨i5, h8⟩ := eGd_some h7
  obtain ⟨i6, h9⟩ := eGd_some h8
  obtain ⟨t', e1, e2⟩ := eClr_ok (t := t) (p := ePl (eNth lv 2)) (q := ePl (eNth lv 3)) o2
  have e3 := e2 (fun t' => fo (eNth lv 0) fun o => ih dd i 20 [o, 1, eNth lv 3, eNth lv 3] [] t' x p u)
  have h10 : (eClr t (eNth lv 0 / 16) (ePl (eNth lv 2)) (ePl (eNth lv 3)) fun t' => fo (eNth lv 0) fun o => ih dd i 20 [o, 1, eNth lv 3, eNth lv 3] [] t' x p u) = some r := h9
  rw [e3, fo_eq] at h10
  have j3 := beq_t i3
  have j4 := beq_t i4
  rw [eLnd] at j3 j4
  have j1 := beq_t i1
  have j7 := beq_t i7
  have l2 := ble_t i2
  have l5 : eNth lv 3 / 16 ≤ _ := ble_t i5
  have l6 : eNth lv 2 / 16 ≤ eNth lv 3 / 16 := ble_t i6
  refine ⟨20, [eNth lv 0, 1, eNth lv 3, eNth lv 3], [], t', h10, fun lc sc M a1 a2 a3 => ?_⟩
  rw [eSk_nil a2]
  obtain ⟨w0, k0, v0⟩ := a1 0 (by omega)
  obtain ⟨w2, k2, v2⟩ := a1 3 (by omega)
  obtain ⟨w3, k3, v3⟩ := a1 1 (by omega)
  obtain ⟨w4, k4, v4⟩ := a1 2 (by omega)
  have q0 := v0.O o1
  have q2 := (v2.I j3).2
  have q4 := (v4.I j4).2
  rw [j7] at v3
  have q3 := (v3.I (by decide)).2
  subst q0; subst q2; subst q4; subst q3
  obtain ⟨d1, d2, d3⟩ := a3.arr o2 b1 b2
  refine ⟨lvG (b + eNth lv 0 / 16) (eNth lv 3 / 16) (eNth lv 3 / 16), [], _, ?_, trivial, eMm_clr a3 o2 b1 b2 j1 e1, fun K N QR QX kc nc hk => ?_⟩
  · intro k hk
    match k, hk with
    | 0, _ => exact ⟨_, rfl, v0⟩
    | 1, _ => exact ⟨_, rfl, eVal_mkI (n := 0) (by decide)⟩
    | 2, _ => exact ⟨_, rfl, v2⟩
    | 3, _ => exact ⟨_, rfl, v2⟩
    | (k + 4), hk => exact absurd rfl hk
  · refine kT_locals (lv9 := lvG (b + eNth lv 0 / 16) (eNth lv 3 / 16) (eNth lv 2 / 16)) (fun q hq => ?_) ?_
    · simp only [lvG, List.mem_cons, List.not_mem_nil, or_false] at hq
      rcases hq with rfl | rfl | rfl | rfl
      · exact kMem_of k0
      · exact kMem_of k3
      · exact kMem_of k4
      · exact kMem_of k2
    · exact mf_fil2 _ _ (by omega) _ _ M rfl l6 (by rw [d1, j1]) (by rw [d2]; exact l5) hk
theorem so_fi2 : eSOK g b l mt (yJ7_fill_031fb, cJ7_fill_031fb, 4, none, []) 5 hFi2 := so_alt (c := fun lv => Nat.beq (eNth lv 1) 1) so_fi2M (so_iload_n dJ7_fill_031fb_5 rfl rfl)
end MK
/-! ===== the law's own: the script's length, the call that its first int names ===== -/
noncomputable def hSln (Ls np : Nat) : eStep := fun ih dd i _ lv st t x p u => eP st fun r s => eGd (Nat.beq r 10) (eGd (Nat.ble Ls 1000) (fo (eI Ls) fun z => ih dd i np lv (z :: s) t x p u))
noncomputable def hSel (ks np : Nat) : eStep := fun ih dd i _ lv st t x p u => eP st fun c s => eP s fun a s' => eGd (Nat.beq c 497) (eGd (Nat.beq a 2) (eGd (Nat.ble ks 31) (fo (eI ks) fun z => ih dd i np lv (z :: s') t x p u)))
section LW
variable {g : kG} {b : Nat} {l : Launch} {mt : Nat → eMeta} {nm : MethodName} {cc : ByteArray} {mL : Nat} {rt : Option FieldType} {hh : List (Nat × Nat × Nat × Nat)} {pc : Nat}
theorem so_slen {Ls : Nat} (hLn : Nat.ble Ls 1000 = true → gL g = Ls) {np : Nat} (hdg : decode cc pc = .ok (.arraylength, 1)) (hp : pc + 1 = np) : eSOK g b l mt (nm, cc, mL, rt, hh) pc (hSln Ls np) := by
  subst hp
  refine so_pure (fun ih dd i lv st t x p u r h => ?_)
  obtain ⟨o, s, es, h1⟩ := eP_some h
  subst es
  obtain ⟨h2, h3⟩ := eGd_some h1
  obtain ⟨h4, h5⟩ := eGd_some h3
  have o10 := beq_t h2
  subst o10
  rw [fo_eq] at h5
  have l4 := ble_t h4
  refine ⟨_, lv, _, h5, fun lc sc M a1 a2 a3 => ?_⟩
  obtain ⟨w, ws, rfl, b1, b2⟩ := eSk_cons a2
  have e : w = .ref (gS g) := by
    obtain ⟨r, e, h | h | h | h | h | h⟩ := b1.ref (by decide)
    · omega
    · omega
    · omega
    · omega
    · rw [e, h.2]; rfl
    · omega
  subst e
  refine ⟨lc, .int (nI (gL g)) :: ws, a1, ⟨?_, b2⟩, fun K N QR QX kc nc hq => kT_slen hdg hq⟩
  rw [hLn h4]
  exact eVal_mkI (by omega)
theorem so_sel {ks : Nat} (hks : Nat.ble ks 31 = true → gX g 0 &&& nI 31 = nI ks) {np : Nat} (hdg : decode cc pc = .ok (.iand, 1)) (hp : pc + 1 = np) : eSOK g b l mt (nm, cc, mL, rt, hh) pc (hSel ks np) := by
  subst hp
  refine so_pure (fun ih dd i lv st t x p u r h => ?_)
  obtain ⟨c, s, es, h1⟩ := eP_some h
  subst es
  obtain ⟨a, s', es, h2⟩ := eP_some h1
  subst es
  obtain ⟨h3, h4⟩ := eGd_some h2
  obtain ⟨h5, h6⟩ := eGd_some h4
  obtain ⟨h7, h8⟩ := eGd_some h6
  have c1 := beq_t h3
  have c2 := beq_t h5
  subst c1; subst c2
  rw [fo_eq] at h8
  have l7 := ble_t h7
  refine ⟨_, lv, _, h8, fun lc sc M a1 a2 a3 => ?_⟩
  obtain ⟨w, ws, rfl, b1, b2⟩ := eSk_cons a2
  obtain ⟨w2, ws2, rfl, d1, d2⟩ := eSk_cons b2
  have e1 : w = .int (nI 31) := (b1.I (by decide)).2
  subst e1
  obtain ⟨z, rfl, b3⟩ := d1.int (Or.inr (Or.inl (by decide)))
  have e2 : z = gX g 0 := by
    rcases b3 with h | h | h
    · exact absurd h.1 (by decide)
    · exact h.2
    · exact absurd h.1 (by decide)
  subst e2
  refine ⟨lc, .int (gX g 0 &&& nI 31) :: ws2, a1, ⟨?_, d2⟩, fun K N QR QX kc nc hq => kT_iand hdg hq⟩
  rw [hks h7]
  exact eVal_mkI (by omega)
end LW
/-! ===== the last place that is not 0: what lies behind it need not be looked at ===== -/
noncomputable def eMa (a c : Nat) : Nat := cnd (Nat.ble a c) c a
theorem eMa_ok (a c : Nat) : a ≤ eMa a c ∧ c ≤ eMa a c := by
  unfold eMa
  rw [cond_ble]
  by_cases h : a ≤ c
  · rw [if_pos h]; exact ⟨h, Nat.le_refl c⟩
  · rw [if_neg h]; exact ⟨Nat.le_refl a, by omega⟩
noncomputable def eMx (s : eX) : Nat → Nat → Nat := Lean.RArray.rec (motive := fun _ => Nat → Nat → Nat) (fun _ _ _ => 0) (fun v _ _ fl fr acc w => fo (fl acc (Nat.mul 2 w)) fun a => fo (fr (Nat.add acc w) (Nat.mul 2 w)) fun c => cnd (Nat.beq v 0) (eMa a c) (eMa (Nat.add acc w) (eMa a c))) s
theorem eMx_ok (s : eX) : ∀ (acc w k : Nat), 0 < k → eMx s acc w < acc + w * k → eGet s k = 0 := by
  induction s with
  | leaf v => intro acc w k _ _; rfl
  | branch v l r ihl ihr =>
    intro acc w k hk h
    have h1 : fo (eMx l acc (2 * w)) (fun a => fo (eMx r (acc + w) (2 * w)) fun c => cnd (Nat.beq v 0) (eMa a c) (eMa (acc + w) (eMa a c))) < acc + w * k := h
    rw [fo_eq, fo_eq, cond_beq] at h1
    obtain ⟨m1, m2⟩ := eMa_ok (eMx l acc (2 * w)) (eMx r (acc + w) (2 * w))
    obtain ⟨m3, m4⟩ := eMa_ok (acc + w) (eMa (eMx l acc (2 * w)) (eMx r (acc + w) (2 * w)))
    have hle : eMa (eMx l acc (2 * w)) (eMx r (acc + w) (2 * w)) < acc + w * k := by
      by_cases v0 : v = 0
      · rw [if_pos v0] at h1; exact h1
      · rw [if_neg v0] at h1; omega
    rw [show (Lean.RArray.branch v l r : eX) = eNd l v r from rfl, eGet_N]
    by_cases k1 : k = 1
    · rw [if_pos k1]
      subst k1
      by_cases v0 : v = 0
      · exact v0
      · rw [if_neg v0, Nat.mul_one] at h1; omega
    · rw [if_neg k1]
      by_cases k2 : k % 2 = 0
      · rw [if_pos k2]
        have e : 2 * w * (k / 2) = w * k := by
          rw [show 2 * w * (k / 2) = w * (2 * (k / 2)) by rw [Nat.mul_comm 2 w, Nat.mul_assoc], show 2 * (k / 2) = k by omega]
        exact ihl acc (2 * w) (k / 2) (by omega) (by rw [e]; omega)
      · rw [if_neg k2]
        have e : acc + w + 2 * w * (k / 2) = acc + w * k := by
          have e1 : 2 * w * (k / 2) = w * (2 * (k / 2)) := by rw [Nat.mul_comm 2 w, Nat.mul_assoc]
          have e2 : w * k = w * (2 * (k / 2) + 1) := by rw [show 2 * (k / 2) + 1 = k by omega]
          rw [e1, e2, Nat.mul_add, Nat.mul_one]; omega
        exact ihr (acc + w) (2 * w) (k / 2) (by omega) (by rw [e]; omega)
theorem eMx_at {s : eX} {k : Nat} (h : eMx s 0 1 < k) : eGet s k = 0 := eMx_ok s 0 1 k (by omega) (by omega)
noncomputable def eSoF {α : Type} (s1 s2 : eX) (p q : Nat) (c : Nat → Bool → Option α) : Option α := cnd (Nat.ble p (eMx s1 0 1)) (eSoL 64 s1 s2 p q 0 c) (cnd (Nat.ble q (eMx s2 0 1)) (eSoL 64 s1 s2 p q 0 c) (c 64 true))
theorem eSoL_0 {α : Type} (n : Nat) : ∀ (s1 s2 : eX) (p q j : Nat) (c : Nat → Bool → Option α), eMx s1 0 1 < p → eMx s2 0 1 < q → eSoL n s1 s2 p q j c = c (j + n) true := by
  induction n with
  | zero => intro s1 s2 p q j c _ _; rfl
  | succ n ih =>
    intro s1 s2 p q j c h1 h2
    show fo (eCvI (eGet s1 p)) (fun v1 => fo (eCvI (eGet s2 q)) fun v2 => eGd (Nat.beq (Nat.land v1 15) 1) (eGd (Nat.beq (Nat.land v2 15) 1) (cnd (Nat.beq v1 v2) (fo (Nat.succ p) fun p' => fo (Nat.succ q) fun q' => fo (Nat.succ j) fun j' => eSoL n s1 s2 p' q' j' c) (c j false)))) = _
    rw [eMx_at h1, eMx_at h2, fo_eq, fo_eq]
    show fo (Nat.succ p) (fun p' => fo (Nat.succ q) fun q' => fo (Nat.succ j) fun j' => eSoL n s1 s2 p' q' j' c) = _
    rw [fo_eq, fo_eq, fo_eq, ih s1 s2 _ _ _ c (show eMx s1 0 1 < p + 1 by omega) (show eMx s2 0 1 < q + 1 by omega), show Nat.succ j + n = j + (n + 1) by omega]
theorem eSoF_eq {α : Type} (s1 s2 : eX) (p q : Nat) (c : Nat → Bool → Option α) : eSoF s1 s2 p q c = eSoL 64 s1 s2 p q 0 c := by
  unfold eSoF
  rw [cond_ble, cond_ble]
  by_cases h1 : p ≤ eMx s1 0 1
  · rw [if_pos h1]
  · rw [if_neg h1]
    by_cases h2 : q ≤ eMx s2 0 1
    · rw [if_pos h2]
    · rw [if_neg h2, eSoL_0 64 s1 s2 p q 0 c (by omega) (by omega)]
noncomputable def hSoN : eStep := fun ih dd i _ lv st t x p u => eGd (Nat.beq (eNth lv 3) 1) (eEmp st (fo (eNth lv 0) fun o => fo (eNth lv 1) fun bk => fo (eNth lv 2) fun at0 => eGd (Nat.beq (Nat.land bk 15) 1) (eGd (Nat.beq (Nat.land at0 15) 1) (eAd o fun D => eGd (Nat.beq (eGet t (eKy D 0)) (eHO 1)) (eAd (eGet t (eKy D 2)) fun O => eAd (eGet t (eKy D 1)) fun W => eGd (Nat.beq (eGet t (eKy W 0)) (eHO 10)) (eAd (eGet t (eKy W 16)) fun P => eAr t O fun y1 n1 => eAr t P fun y2 n2 => eGd (Nat.beq y1 2) (eGd (Nat.beq y2 2) (eGd (Nat.ble n1 16777215) (eGd (Nat.ble n2 16777215) (eGd (Nat.ble (Nat.add (Nat.mul (ePl bk) 64) 64) n1) (eGd (Nat.ble (Nat.add (ePl at0) 64) n2)
    (eSoF (eSub 11 t O) (eSub 11 t P) (Nat.add (Nat.mul (ePl bk) 64) 2) (Nat.add (ePl at0) 2) fun j same => cnd same (ih dd i 41 [o, bk, at0, 1025] [] t x p u) (fo (eI j) fun z => ih dd i 33 [o, bk, at0, z] [] t x p u)))))))))))))
noncomputable def hSo2 : eStep := fun ih dd i pc lv st t x p u => cnd (Nat.beq (eNth lv 3) 1) (hSoN ih dd i pc lv st t x p u) (hLd eIi 3 3 ih dd i pc lv st t x p u)
theorem hSoN_eq : hSoN = hSoM := by
  unfold hSoN hSoM
  simp only [eSoF_eq]
theorem hSo2_eq : hSo2 = hSo := by
  unfold hSo2 hSo
  rw [hSoN_eq]
theorem so_so2 {g : kG} {b : Nat} {l : Launch} {mt : Nat → eMeta} : eSOK g b l mt (yX1_isSo, cX1_isSo, 4, some .boolean, []) 2 hSo2 := by
  rw [hSo2_eq]; exact so_so
theorem eCz_0 {α : Type} (m : Nat) : ∀ (s t : eX) (a k off : Nat) (c : eX → Option α), eMx s 0 1 < k + 2 → eCz m s t a k off c = c t := by
  induction m with
  | zero => intro s t a k off c _; rfl
  | succ m ih =>
    intro s t a k off c h
    show fo (eGet s (Nat.succ (Nat.succ k))) (fun v => cnd (Nat.beq v 0) (fo (Nat.succ k) fun k' => eCz m s t a k' off c) (fo (eB8 (eCvI v)) fun z => cnd (Nat.beq z 0) none (eSetK 40 t (eKy a (Nat.succ (Nat.add off k))) z fun t' => fo (Nat.succ k) fun k' => eCz m s t' a k' off c))) = _
    rw [show eGet s (Nat.succ (Nat.succ k)) = 0 from eMx_at h, fo_eq]
    show fo (Nat.succ k) (fun k' => eCz m s t a k' off c) = _
    rw [fo_eq]
    exact ih s t a (k + 1) off c (by omega)
theorem eCz_app {α : Type} (n m : Nat) : ∀ (s t : eX) (a k off : Nat) (c : eX → Option α), eCz (n + m) s t a k off c = eCz n s t a k off (fun t' => eCz m s t' a (k + n) off c) := by
  induction n with
  | zero => intro s t a k off c; rw [Nat.zero_add]; rfl
  | succ n ih =>
    intro s t a k off c
    rw [show n + 1 + m = (n + m) + 1 by omega]
    show fo (eGet s (Nat.succ (Nat.succ k))) (fun v => cnd (Nat.beq v 0) (fo (Nat.succ k) fun k' => eCz (n + m) s t a k' off c) (fo (eB8 (eCvI v)) fun z => cnd (Nat.beq z 0) none (eSetK 40 t (eKy a (Nat.succ (Nat.add off k))) z fun t' => fo (Nat.succ k) fun k' => eCz (n + m) s t' a k' off c))) = fo (eGet s (Nat.succ (Nat.succ k))) (fun v => cnd (Nat.beq v 0) (fo (Nat.succ k) fun k' => eCz n s t a k' off (fun t' => eCz m s t' a (k + (n + 1)) off c)) (fo (eB8 (eCvI v)) fun z => cnd (Nat.beq z 0) none (eSetK 40 t (eKy a (Nat.succ (Nat.add off k))) z fun t1 => fo (Nat.succ k) fun k' => eCz n s t1 a k' off (fun t' => eCz m s t' a (k + (n + 1)) off c))))
    have e : k + (n + 1) = Nat.succ k + n := by omega
    simp only [fo_eq, ih, e]
noncomputable def eCzF {α : Type} (n : Nat) (s t : eX) (a k off : Nat) (c : eX → Option α) : Option α := cnd (Nat.ble (Nat.add (Nat.sub (eMx s 0 1) (Nat.succ k)) 0) n) (fo (Nat.sub (eMx s 0 1) (Nat.succ k)) fun n' => eCz n' s t a k off c) (eCz n s t a k off c)
theorem eCzF_eq {α : Type} (n : Nat) (s t : eX) (a k off : Nat) (c : eX → Option α) : eCzF n s t a k off c = eCz n s t a k off c := by
  unfold eCzF
  rw [cond_ble, fo_eq]
  by_cases h : Nat.add (Nat.sub (eMx s 0 1) (Nat.succ k)) 0 ≤ n
  · rw [if_pos h]
    have h' : eMx s 0 1 - (k + 1) ≤ n := h
    have e : n = (eMx s 0 1 - (k + 1)) + (n - (eMx s 0 1 - (k + 1))) := by omega
    rw [e, eCz_app]
    show eCz (eMx s 0 1 - (k + 1)) s t a k off c = _
    have e2 : (fun t' => eCz (n - (eMx s 0 1 - (k + 1))) s t' a (k + (eMx s 0 1 - (k + 1))) off c) = c := by
      funext t'
      exact eCz_0 _ s t' a _ off c (by omega)
    rw [e2]
  · rw [if_neg h]
noncomputable def hCpE : eStep := fun ih dd i _ lv st t x p u => eEmp st (fo (eNth lv 0) fun o => fo (eNth lv 1) fun dv => fo (eNth lv 2) fun j => eGd (Nat.beq (Nat.land dv 15) 1) (eGd (Nat.beq (Nat.land j 15) 1) (eGd (Nat.ble (ePl j) 6400) (eGd (Nat.ble (ePl dv) 100) (eAd o fun D => eGd (Nat.beq (eGq t D 0) (eHO 12)) (eAd (eGq t D 33) fun a => eAd (eGq t D 38) fun h => eGd (cnd (Nat.beq a h) false true) (eAr t a fun y1 n1 => eAr t h fun y2 n2 => eGd (Nat.beq y1 2) (eGd (Nat.beq y2 2) (eGd (Nat.ble n1 16777215) (eGd (Nat.ble (Nat.add (Nat.mul (Nat.add (Nat.mul (ePl dv) 202) 102) 64) 6400) n1) (eGd (Nat.ble 6400 n2)
  (fo (Nat.mul (Nat.add (Nat.mul (ePl dv) 202) 102) 64) fun off => eClr t a (Nat.add off (ePl j)) (Nat.add off 6400) fun t1 => eCzF (Nat.sub 6400 (ePl j)) (eSub 11 t h) t1 a (ePl j) off fun t2 => eSn lv 2 102401 fun lv' => ih dd i 44 lv' [] t2 x p u))))))))))))
theorem hCpE_eq : hCpE = hCpD := by
  unfold hCpE hCpD
  simp only [eCzF_eq]
theorem so_cpE {g : kG} {b : Nat} {l : Launch} {mt : Nat → eMeta} : eSOK g b l mt (yX12_firstDisk, cX12_firstDisk, 3, none, []) 7 hCpE := by
  rw [hCpE_eq]; exact so_cpD
/-! ===== i2l of an int of the script, and such longs compared ===== -/
noncomputable def eI2s (x : Nat) : Nat := cnd (Nat.beq (Nat.land x 15) 2) (cnd (Nat.beq (ePl x) 0) 5 (Nat.add (Nat.mul 16 (ePl x)) 5)) (eI2l x)
noncomputable def eLcs (x y : Nat) : Nat := cnd (Nat.beq x y) (cnd (Nat.beq (Nat.land x 15) 5) (cnd (Nat.beq x 5) (eLcm x y) 1) (eLcm x y)) (eLcm x y)
section LS
variable {g : kG} {b : Nat} {l : Launch} {mt : Nat → eMeta} {nm : MethodName} {cc : ByteArray} {mL : Nat} {rt : Option FieldType} {hh : List (Nat × Nat × Nat × Nat)} {pc : Nat}
theorem eI2l_b : ∀ x X, eVal g b x X → eI2l x ≠ 0 → ∃ Z, eUI (fun i => .long i.toInt64) X Z ∧ eVal g b (eI2l x) Z := by
  refine eU1 (f := fun n => cnd (Nat.ble n 2147483647) (eLg n) (eLg (Nat.add n 18446744069414584320))) (z0 := 5) (F := fun i => .long i.toInt64) (fun i => eVal_tl _) (fun a ha => ?_)
  show eVal g b _ (.long (nI a).toInt64)
  rw [nI_l64 ha, cond_ble]
  by_cases h : a ≤ 2147483647
  · rw [if_pos h, if_pos h]; exact eVal_lg (by omega)
  · rw [if_neg h, if_neg h]; exact eVal_lg (by show a + 18446744069414584320 < _; omega)
theorem so_i2s {np : Nat} (hdg : decode cc pc = .ok (.i2l, 1)) (hp : pc + 1 = np) : eSOK g b l mt (nm, cc, mL, rt, hh) pc (hU eI2s np) := by
  subst hp
  refine so_U (F := eUI (fun i => .long i.toInt64)) (fun x X hx h => ?_) (fun _ _ _ _ _ _ _ _ _ _ X Z ⟨i, e1, e2⟩ h => by subst e1; subst e2; exact kT_i2l hdg rfl h)
  have e : eI2s x = eI2l x ∨ (x % 16 = 2 ∧ x / 16 ≠ 0 ∧ eI2s x = 16 * (x / 16) + 5) ∨ (x % 16 = 2 ∧ eI2s x = 5) := by
    unfold eI2s
    rw [eLnd, cond_beq]
    by_cases h1 : x % 16 = 2
    · rw [if_pos h1, cond_beq]
      by_cases h2 : ePl x = 0
      · rw [if_pos h2]; exact Or.inr (Or.inr ⟨h1, rfl⟩)
      · rw [if_neg h2]; exact Or.inr (Or.inl ⟨h1, h2, rfl⟩)
    · rw [if_neg h1]; exact Or.inl rfl
  rcases e with e | ⟨h1, h2, e⟩ | ⟨h1, e⟩
  · rw [e] at h ⊢
    exact eI2l_b x X hx h
  · obtain ⟨i, rfl, hi⟩ := hx.int (Or.inr (Or.inl h1))
    have e2 : i = gX g (x / 16) := by
      rcases hi with q | q | q
      · omega
      · exact q.2
      · omega
    subst e2
    refine ⟨_, ⟨_, rfl, rfl⟩, ?_⟩
    rw [e]
    have f1 : (16 * (x / 16) + 5) % 16 = 5 := by omega
    have f2 : (16 * (x / 16) + 5) / 16 = x / 16 := by omega
    exact Or.inr (Or.inl ⟨_, rfl, Or.inr ⟨f1, fun _ => by rw [f2]⟩⟩)
  · obtain ⟨i, rfl, hi⟩ := hx.int (Or.inr (Or.inl h1))
    rw [e]
    exact ⟨_, ⟨_, rfl, rfl⟩, eVal_tl _⟩
theorem eLcm_b : ∀ x y X Y, eVal g b x X → eVal g b y Y → eLcm x y ≠ 0 → ∃ Z, (∃ a c, X = .long a ∧ Y = .long c ∧ Z = .int (lg_cmp a c)) ∧ eVal g b (eLcm x y) Z := by
  intro x y X Y hx hy h
  unfold eLcm at h ⊢
  rw [eLnd, eLnd] at h ⊢
  simp only [cond_beq] at h ⊢
  by_cases h1 : x % 16 = 4
  · rw [if_pos h1] at h ⊢
    obtain ⟨z1, rfl, w1⟩ := hx.long (Or.inl h1)
    by_cases h2 : y % 16 = 4
    · rw [if_pos h2] at h ⊢
      obtain ⟨z2, rfl, w2⟩ := hy.long (Or.inl h2)
      by_cases h3 : x = y
      · subst h3
        rw [if_pos rfl]
        refine ⟨_, ⟨z1, z2, rfl, rfl, rfl⟩, ?_⟩
        have e : z1 = z2 := by
          rcases w1 with w1 | w1
          · rcases w2 with w2 | w2
            · rw [w1.2.2, w2.2.2]
            · omega
          · omega
        subst e
        have e0 : lg_cmp z1 z1 = nI 0 := by
          unfold lg_cmp
          rw [if_neg (by exact Int64.lt_irrefl), if_pos rfl]; decide
        rw [e0]
        exact eVal_mkI (n := 0) (by decide)
      · rw [if_neg h3]
        exact ⟨_, ⟨z1, z2, rfl, rfl, rfl⟩, eVal_any _⟩
    · rw [if_neg h2] at h ⊢
      cases h3 : eIl y with
      | true =>
        obtain ⟨z2, rfl⟩ := eIl_v hy h3
        exact ⟨_, ⟨z1, z2, rfl, rfl, rfl⟩, eVal_any _⟩
      | false => rw [h3] at h; exact absurd rfl h
  · rw [if_neg h1] at h ⊢
    obtain ⟨h2, h3, -⟩ := c3 h
    obtain ⟨z1, rfl⟩ := eIl_v hx h2
    obtain ⟨z2, rfl⟩ := eIl_v hy h3
    rw [h2, h3]
    exact ⟨_, ⟨z1, z2, rfl, rfl, rfl⟩, eVal_any _⟩
theorem so_lcs {np : Nat} (hdg : decode cc pc = .ok (.lcmp, 1)) (hp : pc + 1 = np) : eSOK g b l mt (nm, cc, mL, rt, hh) pc (hB eLcs np) := by
  subst hp
  refine so_B (F := fun X Y Z => ∃ a c, X = .long a ∧ Y = .long c ∧ Z = .int (lg_cmp a c)) (fun x y X Y hx hy h => ?_) (fun _ _ _ _ _ _ _ _ _ _ X Y Z ⟨i, j, e1, e2, e3⟩ h => by subst e1; subst e2; subst e3; exact kT_lcmp hdg h)
  have e : eLcs x y = eLcm x y ∨ (x = y ∧ x % 16 = 5 ∧ x ≠ 5 ∧ eLcs x y = 1) := by
    unfold eLcs
    rw [eLnd, cond_beq]
    by_cases h1 : x = y
    · rw [if_pos h1, cond_beq]
      by_cases h2 : x % 16 = 5
      · rw [if_pos h2, cond_beq]
        by_cases h3 : x = 5
        · rw [if_pos h3]; exact Or.inl rfl
        · rw [if_neg h3]; exact Or.inr ⟨h1, h2, h3, rfl⟩
      · rw [if_neg h2]; exact Or.inl rfl
    · rw [if_neg h1]; exact Or.inl rfl
  rcases e with e | ⟨h1, h2, h3, e⟩
  · rw [e] at h ⊢
    exact eLcm_b x y X Y hx hy h
  · subst h1
    obtain ⟨z1, rfl, w1⟩ := hx.long (Or.inr h2)
    obtain ⟨z2, rfl, w2⟩ := hy.long (Or.inr h2)
    have n0 : x / 16 ≠ 0 := by omega
    have e9 : z1 = z2 := by
      rcases w1 with w1 | w1
      · omega
      · rcases w2 with w2 | w2
        · omega
        · rw [w1.2 n0, w2.2 n0]
    subst e9
    refine ⟨_, ⟨z1, z1, rfl, rfl, rfl⟩, ?_⟩
    have e0 : lg_cmp z1 z1 = nI 0 := by
      unfold lg_cmp
      rw [if_neg (by exact Int64.lt_irrefl), if_pos rfl]; decide
    rw [e, e0]
    exact eVal_mkI (n := 0) (by decide)
end LS
/-! ===== tables as trees: nothing large is opened at a look-up ===== -/
abbrev eAct : Type := eBd → Nat → Nat → eStep
abbrev eEnt : Type := Nat → Option eAct
abbrev eEnt2 : Type := Nat → Nat → Option eAct
noncomputable def eLk {α : Type} (t : Lean.RArray α) : Nat → α := Lean.RArray.rec (motive := fun _ => Nat → α) (fun a _ => a) (fun p _ _ gl gr n => cnd (Nat.ble n p) (gl n) (gr n)) t
noncomputable def eE (k : Nat) (f : eAct) : eEnt := fun n => cnd (Nat.beq n k) (some f) none
noncomputable def eF (k : Nat) (t : Lean.RArray eEnt) : eEnt2 := fun i pc => cnd (Nat.beq i k) (eLk t pc pc) none
noncomputable def eAp (o : Option eAct) (B : eBd) (ks Ls : Nat) : Option eStep := Option.rec (motive := fun _ => Option eStep) none (fun f => some (f B ks Ls)) o
section LK
variable {g : kG} {b : Nat} {l : Launch} {mt : Nat → eMeta} {q : eMeta} {nm : MethodName} {cc : ByteArray} {mL : Nat} {rt : Option FieldType} {hh : List (Nat × Nat × Nat × Nat)} {pc : Nat} {B : eBd} {ks Ls : Nat}
theorem so_kc {p : Nat} {tl tr : Lean.RArray eEnt} (h1 : eSO g b l mt (nm, cc, mL, rt, hh) pc (eAp (eLk tl pc pc) B ks Ls)) (h2 : eSO g b l mt (nm, cc, mL, rt, hh) pc (eAp (eLk tr pc pc) B ks Ls)) : eSO g b l mt (nm, cc, mL, rt, hh) pc (eAp (eLk (.branch p tl tr) pc pc) B ks Ls) := by
  show eSO g b l mt (nm, cc, mL, rt, hh) pc (eAp ((cnd (Nat.ble pc p) (eLk tl pc) (eLk tr pc)) pc) B ks Ls)
  cases Nat.ble pc p
  · exact h2
  · exact h1
theorem so_kl {n : Nat} {f : eAct} (h : eSOK g b l mt (nm, cc, mL, rt, hh) n (f B ks Ls)) : eSO g b l mt (nm, cc, mL, rt, hh) pc (eAp (eLk (.leaf (eE n f)) pc pc) B ks Ls) := by
  show eSO g b l mt (nm, cc, mL, rt, hh) pc (eAp (cnd (Nat.beq pc n) (some f) none) B ks Ls)
  cases hb : Nat.beq pc n
  · intro s hs; cases hs
  · intro s hs
    cases hs
    rw [beq_t hb]; exact h
theorem so_tkc {i p : Nat} {tl tr : Lean.RArray eEnt2} (h1 : eSO g b l mt (mt i) pc (eAp (eLk tl i i pc) B ks Ls)) (h2 : eSO g b l mt (mt i) pc (eAp (eLk tr i i pc) B ks Ls)) : eSO g b l mt (mt i) pc (eAp (eLk (.branch p tl tr) i i pc) B ks Ls) := by
  show eSO g b l mt (mt i) pc (eAp ((cnd (Nat.ble i p) (eLk tl i) (eLk tr i)) i pc) B ks Ls)
  cases Nat.ble i p
  · exact h2
  · exact h1
theorem so_tkl {i n : Nat} {t : Lean.RArray eEnt} (h : eSO g b l mt (mt n) pc (eAp (eLk t pc pc) B ks Ls)) : eSO g b l mt (mt i) pc (eAp (eLk (.leaf (eF n t)) i i pc) B ks Ls) := by
  show eSO g b l mt (mt i) pc (eAp (cnd (Nat.beq i n) (eLk t pc pc) none) B ks Ls)
  cases hb : Nat.beq i n
  · intro s hs; cases hs
  · rw [beq_t hb]; exact h
end LK

/-! ===== loops in one step: Arrays.fill of octets with 0, Disk.isSo ===== -/
theorem wai_sai {M : kM} {a k : Nat} {v : Int32} {h : Nat → Int32} : wai (sai M a k v) a h = wai M a h := by
  have e : zr2 (up2 (ai M) a k v) a h = zr2 (ai M) a h := by
    funext c j
    unfold zr2 up2
    by_cases q : c = a
    · rw [if_pos q, if_pos q]
    · rw [if_neg q, if_neg q, if_neg (fun z => q z.2)]
  show (tg M, ln M, fi M, fl M, fr M, zr2 (up2 (ai M) a k v) a h, al M, ar M, nx M) = _
  rw [e]; rfl
theorem wai_cg {M : kM} {a : Nat} {h h' : Nat → Int32} (e : ∀ j, h j = h' j) : wai M a h = wai M a h' := by rw [funext e]
def cl0 (M : kM) (a i q : Nat) : Nat → Int32 := fun j => if i ≤ j ∧ j < q then 0 else ai M a j
/-- an array's places i to q are 0 -/
theorem eMm_clr {g : kG} {b : Nat} {t t' : eX} {x u a i q : Nat} {M : kM} (hM : eMm g b t x u M) (ha : a < 2048) (hob : eGet t (eKy a 0) ≠ 0) (ho2 : eGet t (eKy a 0) % 2 = 0) (hty : (eGet t (eKy a 0) / 2 - 1) % 16 = 2) (hS : ∀ a' k', a' < 2048 → eGet t' (eKy a' k') = if a' = a ∧ i + 1 ≤ k' ∧ k' < q + 1 then 0 else eGet t (eKy a' k')) : eMm g b t' x u (wai M (b + a) (cl0 M (b + a) i q)) := by
  obtain ⟨m1, m2, m3, m4, m5⟩ := hM
  have hx : a < x := by
    rcases Nat.lt_or_ge a x with h | h
    · exact h
    · exact absurd (m3 a h ha 0) hob
  refine ⟨fun h => by rw [k_nx_wai]; exact m1 h, fun a' ha' => ?_, fun a' hxa ha' k' => ?_, by rw [k_tg_wai]; exact m4, by rw [k_tg_wai]; exact m5⟩
  · have e0 : eGet t' (eKy a' 0) = eGet t (eKy a' 0) := by rw [hS a' 0 ha', if_neg (by omega)]
    unfold eCell
    rw [e0, k_tg_wai, k_ln_wai, k_fi_wai, k_fl_wai, k_fr_wai, k_al_wai, k_ar_wai]
    obtain ⟨q1, q2⟩ := m2 a' ha'
    refine ⟨fun z => ⟨(q1 z).1, fun k' => ?_⟩, fun z1 z2 => ⟨(q2 z1 z2).1, (q2 z1 z2).2.1, fun k' => ?_⟩⟩
    · rw [hS a' _ ha', if_neg (fun e => by rw [e.1] at z; omega)]
      exact (q1 z).2 k'
    · rw [hS a' _ ha', k_ai_wai]
      by_cases e : a' = a
      · subst e
        rw [if_pos rfl]
        unfold cl0
        by_cases z : i ≤ k' ∧ k' < q
        · rw [if_pos ⟨rfl, by omega, by omega⟩, if_pos z, hty]
          exact eHas_0 rfl rfl rfl
        · rw [if_neg (by omega), if_neg z]
          exact (q2 z1 z2).2.2 k'
      · rw [if_neg (fun z => e z.1), if_neg (by omega)]
        exact (q2 z1 z2).2.2 k'
  · rw [hS a' k' ha', if_neg (by omega)]
    exact m3 a' hxa ha' k'
theorem kMem_of {lc : List (Nat × Value)} {k : Nat} {w : Value} (h : kGet lc k = some w) : (k, w) ∈ lc := by
  obtain ⟨k0, hk⟩ := kGet_at2 h
  exact List.mem_of_getElem? hk
section MF
variable {l : Launch} {g : kG} {d K N : Nat} {QR : Option Value → kM → Prop} {QX : String → kM → Prop} {kc nc : Nat} {b : Nat} {mt : Nat → eMeta}
def lvF (A q i : Nat) : List (Nat × Value) := [(0, .ref A), (2, .int (nI q)), (3, .int (nI 0)), (4, .int (nI i))]
theorem mf_fill (A q : Nat) (hq : q < 2147483648) : ∀ (n i : Nat) (M : kM), q - i = n → i ≤ q → tg M A = 103 → q ≤ ln M A → kT l g yJ7_fill_eb02e cJ7_fill_eb02e 5 none [] d K N QR QX 27 (lvF A q q) [] (wai M A (cl0 M A i q)) kc nc → kT l g yJ7_fill_eb02e cJ7_fill_eb02e 5 none [] d K N QR QX 10 (lvF A q i) [] M kc nc := by
  intro n
  induction n with
  | zero =>
    intro i M hn hi ht hl hk
    have e : i = q := by omega
    subst e
    refine kT_iload dJ7_fill_eb02e_10 rfl ?_
    refine kT_iload_n dJ7_fill_eb02e_12 rfl ?_
    refine kT_icmp_geN (tgt := 27) dJ7_fill_eb02e_13 rfl hq hq (fun _ => ?_) (fun h1 => absurd h1 (by omega))
    exact kT_mem (wai_self M A (h := cl0 M A i i) (fun j => by unfold cl0; rw [if_neg (by omega)])) hk
  | succ n ih =>
    intro i M hn hi ht hl hk
    refine kT_iload dJ7_fill_eb02e_10 rfl ?_
    refine kT_iload_n dJ7_fill_eb02e_12 rfl ?_
    refine kT_icmp_geN (tgt := 27) dJ7_fill_eb02e_13 rfl (by omega) hq (fun h1 => absurd h1 (by omega)) (fun _ => ?_)
    refine kT_aload_n dJ7_fill_eb02e_16 rfl ?_
    refine kT_iload dJ7_fill_eb02e_17 rfl ?_
    refine kT_iload_n dJ7_fill_eb02e_19 rfl ?_
    refine kT_bastN dJ7_fill_eb02e_20 ht (show i < ln M A by omega) ?_
    refine kT_iinc (k0 := 3) (v := nI (i + 1)) dJ7_fill_eb02e_21 rfl (by rw [← nI_add]; rfl) (by decide) rfl ?_
    refine kT_goto (tgt := 10) dJ7_fill_eb02e_24 rfl ?_
    refine kT_locals (lv9 := lvF A q (i + 1)) (by simp [lvF, kSet, Value.category]) ?_
    refine ih (i + 1) (sai M A i ((nI 0).toInt8.toInt32)) (by omega) (by omega) (by rw [k_tg_sai]; exact ht) (by rw [k_ln_sai]; exact hl) ?_
    rw [wai_sai]
    refine kT_mem (wai_cg (fun j => ?_)) hk
    unfold cl0
    by_cases z : i + 1 ≤ j ∧ j < q
    · rw [if_pos z, if_pos (by omega)]
    · rw [if_neg z, k_ai_sai]
      by_cases z2 : j = i
      · rw [if_pos ⟨z2, rfl⟩, if_pos (by omega)]; decide
      · rw [if_neg (fun y => z2 y.1), if_neg (by omega)]
end MF
noncomputable def eEmp {α : Type} (st : List Nat) (k : Option α) : Option α := List.rec (motive := fun _ => Option α) k (fun _ _ _ => none) st
theorem eEmp_some {α : Type} {st : List Nat} {k : Option α} {r : α} (h : eEmp st k = some r) : st = [] ∧ k = some r := by
  cases st with
  | nil => exact ⟨rfl, h⟩
  | cons a s => cases h
/-- Arrays.fill of octets from its loop's head on, where the number is 0 -/
noncomputable def hFilM : eStep := fun ih dd i _ lv st t x p u => eGd (Nat.beq (eNth lv 3) 1) (eEmp st (eAd (eNth lv 0) fun a => eAr t a fun ty n => eGd (Nat.beq ty 2) (eGd (Nat.ble n 16777215) (fo (eNth lv 2) fun q => fo (eNth lv 4) fun j => eGd (Nat.beq (Nat.land q 15) 1) (eGd (Nat.beq (Nat.land j 15) 1) (eGd (Nat.ble (ePl q) n) (eGd (Nat.ble (ePl j) (ePl q)) (eClr t a (ePl j) (ePl q) fun t' => fo (eNth lv 0) fun o => ih dd i 27 [o, 0, q, 1, q] [] t' x p u))))))))
noncomputable def hFil : eStep := fun ih dd i pc lv st t x p u => cnd (Nat.beq (eNth lv 3) 1) (hFilM ih dd i pc lv st t x p u) (hLd eIi 4 12 ih dd i pc lv st t x p u)
section MG
variable {g : kG} {b : Nat} {l : Launch} {mt : Nat → eMeta}
theorem so_filM : eSOK g b l mt (yJ7_fill_eb02e, cJ7_fill_eb02e, 5, none, []) 10 hFilM := by
  refine so_mem (fun ih dd i lv st t x p u r h => ?_)
  obtain ⟨i7, h0⟩ := eGd_some h
  obtain ⟨es, h1⟩ := eEmp_some h0
  subst es
  obtain ⟨o1, o2, h2⟩ := eAd_some h1
  obtain ⟨b1, b2, h3⟩ := eAr_some o2 h2
  obtain ⟨i1, h4⟩ := eGd_some h3
  obtain ⟨i2, h5⟩ := eGd_some h4
  rw [fo_eq, fo_eq] at h5
  obtain ⟨i3, h6⟩ := eGd_some h5
  obtain ⟨i4, h7⟩ := eGd_some h6
  obtain ⟨i5, h8⟩ := eGd_some h7
  obtain ⟨i6, h9⟩ := eGd_some h8
  obtain ⟨t', e1, e2⟩ := eClr_ok (t := t) (p := ePl (eNth lv 4)) (q := ePl (eNth lv 2)) o2
  have e3 := e2 (fun t' => fo (eNth lv 0) fun o => ih dd i 27 [o, 0, eNth lv 2, 1, eNth lv 2] [] t' x p u)
  have h10 : (eClr t (eNth lv 0 / 16) (ePl (eNth lv 4)) (ePl (eNth lv 2)) fun t' => fo (eNth lv 0) fun o => ih dd i 27 [o, 0, eNth lv 2, 1, eNth lv 2] [] t' x p u) = some r := h9
  rw [e3, fo_eq] at h10
  have j3 := beq_t i3
  have j4 := beq_t i4
  rw [eLnd] at j3 j4
  have j1 := beq_t i1
  have j7 := beq_t i7
  have l2 := ble_t i2
  have l5 : eNth lv 2 / 16 ≤ _ := ble_t i5
  have l6 : eNth lv 4 / 16 ≤ eNth lv 2 / 16 := ble_t i6
  refine ⟨27, [eNth lv 0, 0, eNth lv 2, 1, eNth lv 2], [], t', h10, fun lc sc M a1 a2 a3 => ?_⟩
  rw [eSk_nil a2]
  obtain ⟨w0, k0, v0⟩ := a1 0 (by omega)
  obtain ⟨w2, k2, v2⟩ := a1 2 (by omega)
  obtain ⟨w3, k3, v3⟩ := a1 3 (by omega)
  obtain ⟨w4, k4, v4⟩ := a1 4 (by omega)
  have q0 := v0.O o1
  have q2 := (v2.I j3).2
  have q4 := (v4.I j4).2
  rw [j7] at v3
  have q3 := (v3.I (by decide)).2
  subst q0; subst q2; subst q4; subst q3
  obtain ⟨d1, d2, d3⟩ := a3.arr o2 b1 b2
  refine ⟨lvF (b + eNth lv 0 / 16) (eNth lv 2 / 16) (eNth lv 2 / 16), [], _, ?_, trivial, eMm_clr a3 o2 b1 b2 j1 e1, fun K N QR QX kc nc hk => ?_⟩
  · intro k hk
    match k, hk with
    | 0, _ => exact ⟨_, rfl, v0⟩
    | 1, hk => exact absurd rfl hk
    | 2, _ => exact ⟨_, rfl, v2⟩
    | 3, _ => exact ⟨_, rfl, eVal_mkI (n := 0) (by decide)⟩
    | 4, _ => exact ⟨_, rfl, v2⟩
    | (k + 5), hk => exact absurd rfl hk
  · refine kT_locals (lv9 := lvF (b + eNth lv 0 / 16) (eNth lv 2 / 16) (eNth lv 4 / 16)) (fun q hq => ?_) ?_
    · simp only [lvF, List.mem_cons, List.not_mem_nil, or_false] at hq
      rcases hq with rfl | rfl | rfl | rfl
      · exact kMem_of k0
      · exact kMem_of k2
      · exact kMem_of k3
      · exact kMem_of k4
    · exact mf_fill _ _ (by omega) _ _ M rfl l6 (by rw [d1, j1]) (by rw [d2]; exact l5) hk
theorem so_alt {nm : MethodName} {cc : ByteArray} {mL : Nat} {rt : Option FieldType} {hh : List (Nat × Nat × Nat × Nat)} {pc : Nat} {s1 s2 : eStep} {c : List Nat → Bool} (h1 : eSOK g b l mt (nm, cc, mL, rt, hh) pc s1) (h2 : eSOK g b l mt (nm, cc, mL, rt, hh) pc s2) : eSOK g b l mt (nm, cc, mL, rt, hh) pc (fun ih dd i pc lv st t x p u => cnd (c lv) (s1 ih dd i pc lv st t x p u) (s2 ih dd i pc lv st t x p u)) := by
  intro ih hih dd i lv st t x p u r hq h
  cases hc : c lv with
  | true =>
    have h9 : cnd (c lv) (s1 ih dd i pc lv st t x p u) (s2 ih dd i pc lv st t x p u) = some r := h
    rw [hc] at h9
    exact h1 ih hih dd i lv st t x p u r hq h9
  | false =>
    have h9 : cnd (c lv) (s1 ih dd i pc lv st t x p u) (s2 ih dd i pc lv st t x p u) = some r := h
    rw [hc] at h9
    exact h2 ih hih dd i lv st t x p u r hq h9
theorem so_fil : eSOK g b l mt (yJ7_fill_eb02e, cJ7_fill_eb02e, 5, none, []) 10 hFil := so_alt (c := fun lv => Nat.beq (eNth lv 3) 1) so_filM (so_iload dJ7_fill_eb02e_10 rfl)
end MG

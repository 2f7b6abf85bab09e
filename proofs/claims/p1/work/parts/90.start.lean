/-! ===== the start: what the Statement gives at the law's entry, in the layer's words ===== -/
section KS
variable {args : Array Value} {s : State}
theorem ks_K (hts : ∀ w ∈ kTb, w.before args s = true) : ∃ D : va_G, va_K D kCl [] s := by
  have hin : ∀ (c : Nat) (r : vw_C), kCl[c]? = some r → Cond.instantiable r.1 r.2.2 ∈ kTb := by
    intro c r hr
    match c, hr with
    | 0, hr => cases hr; exact kin_0
    | 1, hr => cases hr; exact kin_1
    | 2, hr => cases hr; exact kin_2
    | 3, hr => cases hr; exact kin_3
    | 4, hr => cases hr; exact kin_4
    | 5, hr => cases hr; exact kin_5
    | 6, hr => cases hr; exact kin_6
    | 7, hr => cases hr; exact kin_7
    | 8, hr => cases hr; exact kin_8
    | 9, hr => cases hr; exact kin_9
    | 10, hr => cases hr; exact kin_10
    | 11, hr => cases hr; exact kin_11
    | 12, hr => cases hr; exact kin_12
    | (k + 13), hr => exact absurd hr (by simp [kCl])
  have hk : ∀ c : Nat, ∃ (q : ClassId × (Nat → Nat)), ∀ r : vw_C, kCl[c]? = some r → u_Kn s r.1 r.2.1 r.2.2 q.1 q.2 := by
    intro c
    cases h : kCl[c]? with
    | none => exact ⟨(0, fun _ => 0), fun r hr => by cases hr⟩
    | some r =>
      obtain ⟨cC, iS, hK⟩ := u_known (n := r.2.2) hts (kCl_in c r h) (hts _ (hin c r h))
      exact ⟨(cC, iS), fun r' hr' => by cases hr'; exact hK⟩
  exact ⟨(fun c => (Classical.choose (hk c)).1, fun c => (Classical.choose (hk c)).2), fun c r hr => Classical.choose_spec (hk c) r hr, fun k q h => by simp at h⟩
theorem ks_over (htl : ∀ w ∈ lw_tbl, w.before args s = true) {C : String} (hw : Cond.arrayOver (.object C) ∈ lw_tbl) : ∃ cA : ClassId, ArrOfT s cA (.object C) ∧ va_RA s cA (.object C) := by
  obtain ⟨comp, c, k, h1, -, h2, h3, h4⟩ := Cond.arrayOver_spec (htl _ hw)
  exact ⟨c, fun n z => ⟨fun k h => (by cases h), k, h2, comp, h3⟩, ⟨k, comp, h2, h3, h1, h4⟩⟩
theorem ks_arr (hts : ∀ w ∈ kTb, w.before args s = true) {ty : FieldType} (hw : Cond.arrayClass ty ∈ kTb) : ∃ cA : ClassId, ArrOfT s cA ty ∧ s.vm.findClass ("[" ++ ty.toString) = some cA := by
  obtain ⟨c, k, comp, h1, h2, h3⟩ := Cond.arrayClass_spec (hts _ hw)
  exact ⟨c, fun n z => ⟨fun k h => (by cases h), k, h2, comp, h3⟩, h1⟩
theorem ks_ov1 : ∀ C ∈ kOv, Cond.arrayOver (.object C) ∈ lw_tbl := by decide +kernel
theorem ks_ov2 : Cond.arrayOver (.array .int) ∈ lw_tbl := by decide +kernel
theorem ks_A (hts : ∀ w ∈ kTb, w.before args s = true) (htl : ∀ w ∈ lw_tbl, w.before args s = true) : ∃ cA : Nat → ClassId, ∀ t, t < 9 → ArrOfT s (cA t) (kAty t) ∧ va_RA s (cA t) (kAty t) := by
  have h : ∀ t : Nat, ∃ cA : ClassId, t < 9 → ArrOfT s cA (kAty t) ∧ va_RA s cA (kAty t) := by
    intro t
    match t with
    | 0 => obtain ⟨c, h1, h2⟩ := ks_arr hts kar_0; exact ⟨c, fun _ => ⟨h1, h2⟩⟩
    | 1 => obtain ⟨c, h1, h2⟩ := ks_arr hts kar_1; exact ⟨c, fun _ => ⟨h1, h2⟩⟩
    | 2 => obtain ⟨c, h1, h2⟩ := ks_arr hts kar_2; exact ⟨c, fun _ => ⟨h1, h2⟩⟩
    | 3 => obtain ⟨c, h1, h2⟩ := ks_arr hts kar_3; exact ⟨c, fun _ => ⟨h1, h2⟩⟩
    | 4 => obtain ⟨c, h1, h2⟩ := ks_over htl (ks_ov1 RX8 (by simp [kOv])); exact ⟨c, fun _ => ⟨h1, h2⟩⟩
    | 5 => obtain ⟨c, h1, h2⟩ := ks_over htl (ks_ov1 RX4 (by simp [kOv])); exact ⟨c, fun _ => ⟨h1, h2⟩⟩
    | 6 => obtain ⟨c, h1, h2⟩ := ks_over htl (ks_ov1 RX5 (by simp [kOv])); exact ⟨c, fun _ => ⟨h1, h2⟩⟩
    | 7 => obtain ⟨c, h1, h2⟩ := ks_over htl (ks_ov1 RX7 (by simp [kOv])); exact ⟨c, fun _ => ⟨h1, h2⟩⟩
    | 8 =>
      obtain ⟨comp, c, k, h1, h2, h3, h4⟩ := Cond.arrayOver_specA (htl _ ks_ov2)
      exact ⟨c, fun _ => ⟨fun n z => ⟨fun k h => (by cases h), k, h2, comp, h3⟩, h4⟩⟩
    | (t + 9) => exact ⟨0, fun h => absurd h (by omega)⟩
  exact ⟨fun t => Classical.choose (h t), fun t ht => Classical.choose_spec (h t) ht⟩
set_option maxRecDepth 100000 in
theorem ks_nw : ∀ w ∈ kNw, w ∈ lw_tbl ∧ w.onTables = true := by decide +kernel
set_option maxRecDepth 100000 in
theorem ks_str : ∀ q ∈ kStr, Cond.stringRef q.1 q.2.1 q.2.2 ∈ lw_tbl := by decide +kernel
set_option maxRecDepth 100000 in
theorem ks_nc : ∀ q ∈ kNc, Cond.not (.castable q.1 q.2) ∈ flatC (Jvm.Cond.and given_1 narrow_1) := by decide +kernel
theorem ks_kK {g : kG} (hK : va_K (gD g) kCl [] s) (hA : ∀ t, t < 9 → ArrOfT s (gA g t) (kAty t) ∧ va_RA s (gA g t) (kAty t)) (htl : ∀ w ∈ lw_tbl, w.before args s = true) (hfl : ∀ c ∈ flatC (Jvm.Cond.and given_1 narrow_1), c.before args s = true) : kK g s := by
  refine ⟨hK, hA, fun w hw => va_Nw.of (ks_nw w hw).2 (htl w (ks_nw w hw).1), fun q hq => ?_, fun q hq => va_Nc.of (hfl _ (ks_nc q hq)), fun C hC => va_AO.of (htl _ (ks_ov1 C hC)), ?_⟩
  · have h1 := htl _ (ks_str q hq)
    have hcur : ∃ cur, s.vm.findClass q.1 = some cur := by
      have h2 := h1
      simp only [Cond.before, Cond.holds, Cond.value] at h2
      cases hc : s.vm.findClass q.1 with
      | none => simp [hc] at h2
      | some cur => exact ⟨cur, rfl⟩
    obtain ⟨cur, hc⟩ := hcur
    obtain ⟨_, _, _, a, -, -, -, -, -, he⟩ := Cond.stringRef_spec hc h1
    exact ⟨a, vk_R.of h1 he⟩
  · exact htl _ ks_ov2
theorem ks_ne {aN aW : Nat} {f1 f2 : Nat → Value} {A : Nat → Prop} {H : Heap} (h1 : va_T .int aN 0 f1 A s H) (h2 : va_T .long aW 0 f2 A s H) : aN ≠ aW := by
  intro e
  subst e
  obtain ⟨c1, q1, o1, -⟩ := h1
  obtain ⟨c2, q2, o2, -⟩ := h2
  cases Option.some.inj (q1.symm.trans q2)
  obtain ⟨-, k1, e1, p1, f1⟩ := o1
  obtain ⟨-, k2, e2, p2, f2⟩ := o2
  cases Option.some.inj (e1.symm.trans e2)
  rw [f1] at f2
  cases f2
def kM0 (aN aW n : Nat) : kM := (fun a => if a = aN then 111 else if a = aW then 112 else 0, fun _ => 0, fun _ _ => 0, fun _ _ => 0, fun _ _ => none, fun _ _ => 0, fun _ _ => 0, fun _ _ => none, n)
theorem ks_s1 : Cond.laysStatic RX11 "NO_NUMBERS" "[I" ∈ lw_tbl ∧ Cond.laysStatic RX11 "NO_WORDS" "[J" ∈ lw_tbl ∧ Cond.initialized RX11 ∈ lw_tbl ∧ Cond.laysStatic Bundle.tN "UNASSIGNED_STACK" Bundle.steD ∈ lw_tbl ∧ Cond.laysStatic Bundle.tN "SUPPRESSED_SENTINEL" Bundle.listD ∈ lw_tbl ∧ Cond.initialized Bundle.tN ∈ lw_tbl := by decide +kernel
theorem ks_s2 : Cond.arrayOf (.static RX11 "NO_NUMBERS" "[I") .int ∈ flatC (Jvm.Cond.and given_1 narrow_1) ∧ Cond.eq (.length (.static RX11 "NO_NUMBERS" "[I")) (.int 0) ∈ flatC (Jvm.Cond.and given_1 narrow_1) ∧ Cond.arrayOf (.static RX11 "NO_WORDS" "[J") .long ∈ flatC (Jvm.Cond.and given_1 narrow_1) ∧ Cond.eq (.length (.static RX11 "NO_WORDS" "[J")) (.int 0) ∈ flatC (Jvm.Cond.and given_1 narrow_1) ∧ Cond.isRef (.static Bundle.tN "UNASSIGNED_STACK" Bundle.steD) ∈ flatC (Jvm.Cond.and given_1 narrow_1) ∧ Cond.isRef (.static Bundle.tN "SUPPRESSED_SENTINEL" Bundle.listD) ∈ flatC (Jvm.Cond.and given_1 narrow_1) := by decide +kernel
theorem ks_start {b : Nat} {xs : List Int32} (htl : ∀ w ∈ lw_tbl, w.before args s = true) (hfl : ∀ c ∈ flatC (Jvm.Cond.and given_1 narrow_1), c.before args s = true) (hX : va_X b xs.length (fun j => xs.getD j 0) s s.heap) (hb : b < s.heap.size) (h5 : xs.length ≤ 5) : ∃ (g : kG) (M : kM), kPre g M s ∧ gS g = b ∧ gL g = xs.length ∧ gLo g = s.heap.size ∧ eMm g s.heap.size eL 0 0 M ∧ eV7 g := by
  have hts : ∀ w ∈ kTb, w.before args s = true := fun w hw => htl w (List.mem_filter.mp hw).1
  obtain ⟨D, hK⟩ := ks_K hts
  obtain ⟨cA, hA⟩ := ks_A hts htl
  obtain ⟨l1, l2, l3, l4, l5, l6⟩ := ks_s1
  obtain ⟨n1, n2, n3, n4, n5, n6⟩ := ks_s2
  have hO : ∀ a : Nat, a < s.heap.size → ¬ (fun q : Nat => s.heap.size ≤ q) a := fun a h => Nat.not_le.mpr h
  obtain ⟨aN, e1, t1⟩ := va_Tof (N := 0) (f := fun _ => .null) (A := fun q : Nat => s.heap.size ≤ q) (by decide) (hfl _ n1) (va_eqt (hfl _ n2)) (fun j hj => absurd hj (Nat.not_lt_zero j)) hO
  obtain ⟨aW, e2, t2⟩ := va_Tof (N := 0) (f := fun _ => .null) (A := fun q : Nat => s.heap.size ≤ q) (by decide) (hfl _ n3) (va_eqt (hfl _ n4)) (fun j hj => absurd hj (Nat.not_lt_zero j)) hO
  have z1 := va_Zof (htl _ l1) (htl _ l3) e1 hO
  have z2 := va_Zof (htl _ l2) (htl _ l3) e2 hO
  have z3 := vx_Zqof (htl _ l4) (htl _ l6) (hfl _ n5) hO
  have z4 := vx_Zqof (htl _ l5) (htl _ l6) (hfl _ n6) hO
  have hne := ks_ne t1 t2
  have tN : tg (kM0 aN aW s.heap.size) aN = 111 := if_pos rfl
  have tW : tg (kM0 aN aW s.heap.size) aW = 112 := by
    show (if aW = aN then 111 else if aW = aW then 112 else 0) = 112
    rw [if_neg (fun e => hne e.symm), if_pos rfl]
  have hX2 : va_X b xs.length (fun j => if j = 7 then nI (Vt (xs.getD 1 0).toUInt32.toNat) else xs.getD j 0) s s.heap := by
    obtain ⟨scr, q1, q2, q3, q4, q5⟩ := hX
    refine ⟨scr, q1, q2, q3, q4, fun j hj => ?_⟩
    show scr.slots[j]? = some (.int (if j = 7 then nI (Vt (xs.getD 1 0).toUInt32.toNat) else xs.getD j 0))
    rw [if_neg (show ¬ j = 7 by omega)]
    exact q5 j hj
  refine ⟨(s.heap.size, D, cA, aN, aW, b, xs.length, fun j => if j = 7 then nI (Vt (xs.getD 1 0).toUInt32.toNat) else xs.getD j 0), kM0 aN aW s.heap.size, ⟨⟨rfl, fun a => ?_⟩, ks_kK hK hA htl hfl, ⟨z1, t1, z2, t2, z3, z4, hX2, hb, hb⟩, Nat.le_refl _⟩, rfl, rfl, rfl, ?_, fun T hT h1 => ?_⟩
  · by_cases h1 : a = aN
    · subst h1
      exact Or.inr (Or.inr (Or.inr (Or.inl ⟨tN, rfl, rfl⟩)))
    · by_cases h2 : a = aW
      · subst h2
        exact Or.inr (Or.inr (Or.inr (Or.inr ⟨tW, rfl, rfl⟩)))
      · refine Or.inl ?_
        show (if a = aN then 111 else if a = aW then 112 else 0) = 0
        rw [if_neg h1, if_neg h2]
  · exact ⟨fun _ => rfl, fun a _ => ⟨fun h => absurd h (show ¬ (0 : Nat) % 2 = 1 by decide), fun h => absurd rfl h⟩, fun a _ _ k => rfl, tN, tW⟩
  · have h2 : xs.getD 1 0 = nI T := h1
    show nI (Vt (xs.getD 1 0).toUInt32.toNat) = nI (Vt T)
    obtain ⟨n, e1, e2⟩ : ∃ n, xs.getD 1 0 = nI n ∧ n = (xs.getD 1 0).toUInt32.toNat := by
      refine ⟨(xs.getD 1 0).toUInt32.toNat, ?_, rfl⟩
      show xs.getD 1 0 = Int32.ofNat (xs.getD 1 0).toUInt32.toNat
      apply Int32.toBitVec_inj.mp
      simp [Int32.ofNat]
    have e3 : n = T := (nI_inj (by rw [e2]; exact UInt32.toNat_lt _) (by omega)).mp (e1.symm.trans h2)
    rw [← e2, e3]
end KS

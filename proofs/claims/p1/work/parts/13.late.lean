/-! rows of the judgement: handlers, new int[n][k], copies of longs, rows of int[][] -/
/-- new int[n][k]: the outer array at q, its rows behind it -/
def nwG (M : kM) (n k : Nat) : kM := (fun b => if b = nx M then 109 else if nx M < b ∧ b ≤ nx M + n then 101 else tg M b, fun b => if b = nx M then n else if nx M < b ∧ b ≤ nx M + n then k else ln M b, fi M, fl M, fr M, fun b j => if nx M < b ∧ b ≤ nx M + n then 0 else ai M b j, al M, fun b j => if b = nx M then (if j < n then some (nx M + 1 + j) else none) else ar M b j, nx M + 1 + n)
section KL
variable {l : Launch} {g : kG} {nm : MethodName} {cc : ByteArray} {mL : Nat} {rt : Option FieldType} {hh : List (Nat × Nat × Nat × Nat)} {d K N : Nat} {QR : Option Value → kM → Prop} {QX : String → kM → Prop} {pc : Nat} {lv : List (Nat × Value)} {rest : List Value} {M : kM} {kc nc : Nat}
/-- caught by a row of the method's own table -/
theorem kX_catch {E name : String} {st : List Value} (pre : List ExceptionTableEntry) (x : ExceptionTableEntry) (suf : List ExceptionTableEntry) (hsplit : tableOf hh = pre ++ x :: suf) (hpass : ∀ z ∈ pre, covers z pc = false ∨ (z.catchType ≠ 0 ∧ ∃ nmx : String, Cond.classLink nm.cls z.catchType nmx ∈ kTb ∧ (E, nmx) ∈ kNc)) (hx0 : covers x pc = true) (h0 : x.catchType ≠ 0)
    (hlink : Cond.classLink nm.cls x.catchType name ∈ kTb) (hcast : Cond.castable E name ∈ kNw) (kk : ∀ q n9, kT l g nm cc mL rt hh d K N QR QX x.handlerPc lv [.ref q] (snx M n9) kc nc) : kX l g nm cc mL rt hh d K N QR QX pc lv st M kc nc E := by
  intro p e s m args below meth c9 A H locs cells slots ls q ce hR hS hl9 h19 h29 hce hcv hcl
  obtain ⟨hx, hb, hml, hret, hlk, hown, hts, hK, hSt, htab, hl0, hnm, hlo0⟩ := id A
  refine vx_catch (own := nm.cls) (name := name) (E := E) hown pre x suf (htab.trans hsplit) (fun z hz => ?_) hx0 h0 (hts _ hlink) (va_Nw.use rfl (hK.2.2.1 _ hcast)) hce hcv hcl (kk q _ p e s m args below meth c9 A H locs cells slots ls hR hS hl9 h19 h29)
  rcases hpass z hz with h | ⟨hz0, nmx, hl1, hn1⟩
  · exact Or.inl h
  · exact Or.inr ⟨hz0, nmx, hts _ hl1, hK.2.2.2.2.1 _ hn1⟩
/-- not caught here, past rows that name other classes -/
theorem kX_pass {E : String} {st : List Value} (hpass : ∀ z ∈ tableOf hh, covers z pc = false ∨ (z.catchType ≠ 0 ∧ ∃ nmx : String, Cond.classLink nm.cls z.catchType nmx ∈ kTb ∧ (E, nmx) ∈ kNc)) (hq : QX E M) : kX l g nm cc mL rt hh d K N QR QX pc lv st M kc nc E := by
  intro p e s m args below meth c9 A H locs cells slots ls q ce hR hS hl9 h19 h29 hce hcv hcl
  obtain ⟨hx, hb, hml, hret, hlk, hown, hts, hK, hSt, htab, hl0, hnm, hlo0⟩ := id A
  refine vx_outP (own := nm.cls) (E := E) hown hlk (fun z hz => ?_) hce hcv hcl (fun t ht ha => ⟨⟨M, hq, by rw [ht]; exact hR⟩, hS.F ht⟩) hS.2.2 (by omega) (by omega)
  rw [htab] at hz
  rcases hpass z hz with h | ⟨hz0, nmx, hl1, hn1⟩
  · exact Or.inl h
  · exact Or.inr ⟨hz0, nmx, hts _ hl1, hK.2.2.2.2.1 _ hn1⟩
/-- new int[n][k] -/
theorem kT_mna {idx n k : Nat} {x y : Int32} (hdg : decode cc pc = .ok (.multianewarray idx 2, 4)) (hw : Cond.classLink nm.cls idx "[[I" ∈ kTb) (hwa : Cond.arrayClass (kAty 0) ∈ kTb) (hxn : x.toInt = (n : Int)) (hyk : y.toInt = (k : Int)) (hbn : n ≤ 1000000) (hbk : k ≤ 1000000) (h1 : 1 + n ≤ kc) (h2 : n + n * k ≤ nc)
    (kk : gLo g ≤ nx M → (∀ b, nx M ≤ b → tg M b = 0) → kT l g nm cc mL rt hh d K N QR QX (pc + 4) lv (.ref (nx M) :: rest) (nwG M n k) (kc - (1 + n)) (nc - (n + n * k))) : kT l g nm cc mL rt hh d K N QR QX pc lv (.int y :: .int x :: rest) M kc nc := by
  intro p e s m args below meth c9 A H locs cells slots ls hR hS hl9 h19 h29
  obtain ⟨hx, hb, hml, hret, hlk, hown, hts, hK, hSt, htab, hl0, hnm, hlo0⟩ := id A
  have hz0 : gLo g ≤ H.size := Nat.le_trans hlo0 hS.1
  intro T hT Xs
  obtain ⟨vm₁, cA, comp, -, fA, fC, hO, -, X', step⟩ := Xs.multianewarray2F hx (ty := .int) hown (hts _ hw) (va_AOA.use hK.2.2.2.2.2.2) (hts _ hwa) (g := F0 m pc ls (.int y :: .int x :: rest)) rfl (by rw [hb]; exact hdg) rfl (kNneg hxn) (kNneg hyk) (by rw [kClamp hxn]; omega) (by rw [kClamp hyk]; show k * 4 ≤ _; omega) (by rw [kClamp hyk]; omega) rfl rfl (by rw [kClamp hxn]; show cells + (1 + n) ≤ K; omega) (by rw [kClamp hxn, kClamp hyk]; show slots + (n + n * k) ≤ N; omega)
  have ec : comp = gA g 0 := Option.some.inj (fC.symm.trans (hK.2.1 0 (by decide)).2)
  subst ec
  have eA : cA = gA g 8 := Option.some.inj (fA.symm.trans (hK.2.1 8 (by decide)).2)
  subst eA
  rw [kClamp hxn, kClamp hyk] at X' step
  generalize hF : Jvm.Free.Multi.fill (T.setVm vm₁) (gA g 8) (gA g 0) n k (defaultValue .int) n = F at X' step
  have hTh : (T.setVm vm₁).heap = H := hT
  obtain ⟨f1, f2, -, -⟩ := Jvm.Free.Multi.fill_facts (T.setVm vm₁) (gA g 8) (gA g 0) n k (defaultValue .int) n
  rw [hF, hTh] at f1 f2
  have hold : ∀ x : Nat, x < H.size → F.heap[x]? = H[x]? := fun x hx => by
    have := Jvm.Free.Multi.fill_old (T.setVm vm₁) (gA g 8) (gA g 0) n k (defaultValue .int) (a := x) (by rw [hTh]; exact hx) n
    rw [hF, hTh] at this
    exact this
  have hrow : ∀ j : Nat, j < n → F.heap[H.size + 1 + j]? = some (arrV (gA g 0) k (fun _ => Value.int 0)) := fun j hj => by
    have := Jvm.Free.Multi.fill_inner (T.setVm vm₁) (gA g 8) (gA g 0) n k (defaultValue .int) n j hj
    rw [hF, hTh] at this
    rw [this, ← arrV_new]
    rfl
  rw [vr_outer] at f2
  have hfr : ∀ b, H.size ≤ b → tg M b = 0 := by
    intro b hb9
    rcases hR.2 b with h | ⟨c, r, -, -, -, -, cell, q, -⟩ | ⟨t, -, -, -, q, -⟩ | ⟨-, h2, -⟩ | ⟨-, h2, -⟩
    · exact h
    · exact absurd (Array.getElem?_eq_some_iff.mp q).1 (by omega)
    · exact absurd (Array.getElem?_eq_some_iff.mp q).1 (by omega)
    · obtain ⟨cell, -, -, -, -, -, -, c7⟩ := hSt.2.1
      exact absurd (show gLo g ≤ gN g by omega) c7
    · obtain ⟨cell, -, -, -, -, -, -, c7⟩ := hSt.2.2.2.1
      exact absurd (show gLo g ≤ gW g by omega) c7
  have hnx := hR.1
  have hRep : kRep g (nwG M n k) F.heap := by
    refine ⟨by show nx M + 1 + n = _; rw [f1, hnx], fun b => ?_⟩
    by_cases e1 : b = H.size
    · subst e1
      refine Or.inr (Or.inr (Or.inl ⟨8, by simp [nwG, tg, hnx], by decide, hz0, ?_, kFit_none (by decide) (by decide), by simp [nwG, ln, hnx]; omega⟩))
      rw [f2]
      have el : ln (nwG M n k) H.size = n := by simp [nwG, ln, hnx]
      rw [el]
      congr 2
      funext j
      simp [kAV, nwG, ar, hnx]
    · by_cases e2 : H.size < b ∧ b ≤ H.size + n
      · refine Or.inr (Or.inr (Or.inl ⟨0, by simp [nwG, tg, e1, e2, hnx], by decide, by omega, ?_, kFit_none (by decide) (by decide), by simp [nwG, ln, e1, e2, hnx]; omega⟩))
        have e3 := hrow (b - H.size - 1) (by omega)
        rw [show H.size + 1 + (b - H.size - 1) = b by omega] at e3
        rw [e3]
        have el : ln (nwG M n k) b = k := by simp [nwG, ln, e1, e2, hnx]
        rw [el]
        congr 2
        funext j
        simp [kAV, nwG, ai, e2, hnx]
      · have hlk9 : kLike M (nwG M n k) b := kLike.of (by simp [nwG, tg, e1, e2, hnx]) (by simp [nwG, ln, e1, e2, hnx]) rfl rfl rfl (by funext j; simp [nwG, ai, e2, hnx]) rfl (by funext j; simp [nwG, ar, e1, hnx])
        by_cases e4 : b < H.size
        · exact (hR.2 b).like hlk9 (hold b e4)
        · refine Or.inl ?_
          rw [hlk9.1]
          exact hfr b (by omega)
  obtain ⟨t, a1, b1⟩ := kk (by rw [hnx]; exact hz0) (by rw [hnx]; exact hfr) p e s m args below meth c9 A F.heap locs _ _ ls hRep ⟨by rw [f1]; have := hS.1; omega, fun x h1 h2 => (hold x (Nat.lt_of_lt_of_le h1 hS.1)).trans (hS.2.1 x h1 h2), hS.2.2⟩ hl9 (by omega) (by omega) F rfl X'
  refine ⟨t, step t ?_, b1⟩
  have e : T.heap.size = nx M := by rw [hT, hnx]
  rw [e]
  exact a1
/-- System.arraycopy of longs -/
theorem kT_copyL {a0 a idx s0 d0 n0 : Nat} {sp dp n : Int32} (hdg : decode cc pc = .ok (.invokestatic idx, 3)) (hw : Cond.methodLink nm.cls idx arraycopyName ∈ kTb) (hw1 : Cond.native arraycopyName ∈ kTb) (hw2 : Cond.static arraycopyName ∈ kTb) (hw3 : Cond.initialized "java/lang/System" ∈ kTb) (ht0 : tg M a0 = 102) (ht1 : tg M a = 102)
    (h1 : sp.toInt = (s0 : Int)) (h2 : dp.toInt = (d0 : Int)) (h3 : n.toInt = (n0 : Int)) (h4 : s0 + n0 ≤ ln M a0) (h5 : d0 + n0 ≤ ln M a) (hd : 2 ≤ d) (hs : (rest.map fun v => v.category).sum ≤ 8)
    (kk : kT l g nm cc mL rt hh d K N QR QX (pc + 3) lv rest (wal M a (va_cpy (al M a0) (al M a) s0 d0 n0)) kc nc) : kT l g nm cc mL rt hh d K N QR QX pc lv (.int n :: .int dp :: .ref a :: .int sp :: .ref a0 :: rest) M kc nc := by
  intro p e s m args below meth c9 A H locs cells slots ls hR hS hl9 h19 h29
  obtain ⟨hx, hb, hml, hret, hlk, hown, hts, hK, hSt, htab, hl0, hnm, hlo0⟩ := id A
  have hAV : ∀ (M : kM) (a : Nat), kAV M a 1 = fun j => .long (al M a j) := fun M a => rfl
  obtain ⟨hlo0', hc0, hfit0, hlen0⟩ := hR.arr (t := 1) ht0 (by decide)
  obtain ⟨hlo, hc1, hfit1, hlen1⟩ := hR.arr (t := 1) ht1 (by decide)
  rw [hAV] at hc0 hc1
  have hl : a < H.size := (Array.getElem?_eq_some_iff.mp hc1).1
  intro T hT X
  obtain ⟨-, k0, hk0, cm0, hkk0⟩ := (hK.2.1 1 (by decide)).1 (ln M a0) (fun j => .long (al M a0 j))
  obtain ⟨-, k1, hk1, cm1, hkk1⟩ := (hK.2.1 1 (by decide)).1 (ln M a) (fun j => .long (al M a j))
  obtain ⟨vm', X', step⟩ := X.arraycopy hx hown (hts _ hw) (hts _ hw1) (hts _ hw2) (hts _ hw3) (src := a0) (dst := a) (cs := vp_cell (gA g 1) (ln M a0, .inr (.inl (al M a0)))) (cd := vp_cell (gA g 1) (ln M a, .inr (.inl (al M a)))) (srcPos := sp) (destPos := dp) (n := n) (by rw [hT]; exact hc0) (by rw [hT]; exact hc1)
    (fun _ h => by cases h) (fun _ h => by cases h) (fun h => by cases h) (fun h => by cases h) hk0 hk1 hkk0 hkk1 (by simp [show refKind (kAty 1) = false from rfl]) (kNneg h1) (kNneg h2) (kNneg h3)
    (by rw [h1, h3]; show ¬ _ > ((arrV (gA g 1) (ln M a0) (fun j => .long (al M a0 j))).slots.size : Int); rw [arrV_size]; omega)
    (by rw [h2, h3]; show ¬ _ > ((arrV (gA g 1) (ln M a) (fun j => .long (al M a j))).slots.size : Int); rw [arrV_size]; omega)
    (fun vm₁ _ i hi => by
      rw [kClamp h3] at hi
      have e0 : (vp_cell (gA g 1) (ln M a0, .inr (.inl (al M a0)))).slots.getD (sp.toNatClampNeg + i) .null = .long (al M a0 (sp.toNatClampNeg + i)) := by
        show (arrV (gA g 1) (ln M a0) (fun j => .long (al M a0 j))).slots.getD _ _ = _
        rw [Array.getD_eq_getD_getElem?, arrV_read _ _ (by rw [kClamp h1]; omega)]
        rfl
      refine ⟨?_, ?_⟩
      · rw [e0]; rfl
      · rw [e0]
        exact trivial)
    (g := F0 m pc ls (.int n :: .int dp :: .ref a :: .int sp :: .ref a0 :: rest)) rfl (by rw [hml]; exact hl9.1) (rest := rest) rfl (by rw [hb]; exact hdg) (show 1 ≤ d by omega) (show 2 * 0 + _ + (nativeFrameWords "java/lang/System" "arraycopy" 5 + 11) ≤ 64 * d by
      have : nativeFrameWords "java/lang/System" "arraycopy" 5 ≤ 64 := by decide
      omega)
  have e1 : copied (vp_cell (gA g 1) (ln M a0, .inr (.inl (al M a0)))) (vp_cell (gA g 1) (ln M a, .inr (.inl (al M a)))) sp dp n = vp_cell (gA g 1) (ln M a, .inr (.inl (va_cpy (al M a0) (al M a) sp.toNatClampNeg dp.toNatClampNeg n.toNatClampNeg))) := va_copied (fun z => .long z) _ _ (al M a0) (al M a) (by rw [kClamp h1, kClamp h3]; exact h4)
  rw [e1, kClamp h1, kClamp h2, kClamp h3] at X' step
  obtain ⟨cn, hcn⟩ : ∃ z, z = vp_cell (gA g 1) (ln M a, .inr (.inl (va_cpy (al M a0) (al M a) s0 d0 n0))) := ⟨_, rfl⟩
  rw [← hcn] at X' step
  have hheap : ((T.setVm vm').setCell a cn).heap = H.setIfInBounds a cn := by rw [← hT]; rfl
  have oq : ∀ q : Nat, q ≠ a → (H.setIfInBounds a cn)[q]? = H[q]? := fun q hq => by simp [Array.getElem?_setIfInBounds, Ne.symm hq]
  have ha1 : (H.setIfInBounds a cn)[a]? = some cn := by simp [Array.getElem?_setIfInBounds, hl]
  have hS' : ∀ Z : List Loc, (∀ q ∈ Z, q.base = a) → va_S (kA g) s.heap (H.setIfInBounds a cn) (locs ++ Z) := fun Z hZ => ⟨by simp; exact hS.1, fun q g1 g2 => by
      rw [oq q (fun e => g2 (by rw [e]; exact hlo))]
      exact hS.2.1 q g1 g2, fun q hq => by
      rcases List.mem_append.mp hq with h | h
      · exact hS.2.2 q h
      · show gLo g ≤ q.base
        rw [hZ q h]
        exact hlo⟩
  obtain ⟨t2, a1, b1⟩ := kk p e s m args below meth c9 A (H.setIfInBounds a cn) _ cells slots ls (hR.upd rfl (by simp) (fun b hb9 => kLike_wal hb9) oq (Or.inr (Or.inr (Or.inl ⟨1, ht1, by decide, hlo, by
      rw [ha1, hcn, hAV]
      show some (arrV _ _ (fun j => Value.long (va_cpy (al M a0) (al M a) s0 d0 n0 j))) = some (arrV _ _ _)
      congr 2
      funext j
      show _ = Value.long (zr2 (al M) a _ a j)
      rw [zr2_at], kFit_none (by decide) (by decide), hlen1⟩)))) (hS' _ (fun q hq => by obtain ⟨z, -, hz⟩ := List.mem_map.mp hq; rw [← hz])) hl9 h19 h29 _ hheap X'
  exact ⟨t2, step t2 a1, b1⟩
end KL

/-! rows of the judgement: handlers, new int[n][k], copies of longs, rows of int[][] -/
/-- new int[n][k]: the outer array at q, its rows behind it -/
def nwG (M : kM) (n k : Nat) : kM := (fun b => if b = nx M then 109 else if nx M < b ∧ b ≤ nx M + n then 101 else tg M b, fun b => if b = nx M then n else if nx M < b ∧ b ≤ nx M + n then k else ln M b, fi M, fl M, fr M, fun b j => if nx M < b ∧ b ≤ nx M + n then 0 else ai M b j, al M, fun b j => if b = nx M then (if j < n then some (nx M + 1 + j) else none) else ar M b j, nx M + 1 + n)
section KL
variable {l : Launch} {g : kG} {nm : MethodName} {cc : ByteArray} {mL : Nat} {rt : Option FieldType} {hh : List (Nat × Nat × Nat × Nat)} {d K N : Nat} {QR : Option Value → kM → Prop} {QX : String → kM → Prop} {pc : Nat} {lv : List (Nat × Value)} {rest : List Value} {M : kM} {kc nc : Nat}
/-- caught by a row of the method's own table -/
theorem kX_catch {E name : String} {st : List Value} (pre : List ExceptionTableEntry) (x : ExceptionTableEntry) (suf : List ExceptionTableEntry) (hsplit : tableOf hh = pre ++ x :: suf) (hpass : ∀ z ∈ pre, covers z pc = false ∨ (z.catchType ≠ 0 ∧ ∃ nmx : String, Cond.classLink nm.cls z.catchType nmx ∈ kTb ∧ (E, nmx) ∈ kNc)) (hx0 : covers x pc = true) (h0 : x.catchType ≠ 0)
    (hlink : Cond.classLink nm.cls x.catchType name ∈ kTb) (hcast : Cond.castable E name ∈ kNw) (kk : ∀ q n9, kT l g nm cc mL rt hh d K N QR QX x.handlerPc lv [.ref q] (snx M n9) kc nc) : kX l g nm cc mL rt hh d K N QR QX pc lv st M kc nc E := by
  intro p e s m args below meth c9 A H locs cells slots ls q ce hR hS hl9 h19 h29 hce hcv hcl
  obtain ⟨hx, hb, hml, hret, hlk, hown, hts, hK, hSt, htab, hl0, hnm, hlo0⟩ := id A
  refine vx_catch (own := nm.cls) (name := name) (E := E) hown pre x suf (htab.trans hsplit) (fun z hz => ?_) hx0 h0 (hts _ hlink) (va_Nw.use rfl (hK.2.2.1 _ hcast)) hce hcv hcl (kk q _ p e s m args below meth c9 A H locs cells slots ls hR hS hl9 h19 h29)
  rcases hpass z hz with h | ⟨hz0, nmx, hl1, hn1⟩
  · exact Or.inl h
  · exact Or.inr ⟨hz0, nmx, hts _ hl1, hK.2.2.2.2.1 _ hn1⟩
/-- not caught here, past rows that name other classes -/
theorem kX_pass {E : String} {st : List Value} (hpass : ∀ z ∈ tableOf hh, covers z pc = false ∨ (z.catchType ≠ 0 ∧ ∃ nmx : String, Cond.classLink nm.cls z.catchType nmx ∈ kTb ∧ (E, nmx) ∈ kNc)) (hq : QX E M) : kX l g nm cc mL rt hh d K N QR QX pc lv st M kc nc E := by
  intro p e s m args below meth c9 A H locs cells slots ls q ce hR hS hl9 h19 h29 hce hcv hcl
  obtain ⟨hx, hb, hml, hret, hlk, hown, hts, hK, hSt, htab, hl0, hnm, hlo0⟩ := id A
  refine vx_outP (own := nm.cls) (E := E) hown hlk (fun z hz => ?_) hce hcv hcl (fun t ht ha => ⟨⟨M, hq, by rw [ht]; exact hR⟩, hS.F ht⟩) hS.2.2 (by omega) (by omega)
  rw [htab] at hz
  rcases hpass z hz with h | ⟨hz0, nmx, hl1, hn1⟩
  · exact Or.inl h
  · exact Or.inr ⟨hz0, nmx, hts _ hl1, hK.2.2.2.2.1 _ hn1⟩
/-- new int[n][k] -/
theorem kT_mna {idx n k : Nat} {x y : Int32} (hdg : decode cc pc = .ok (.multianewarray idx 2, 4)) (hw : Cond.classLink nm.cls idx "[[I" ∈ kTb) (hwa : Cond.arrayClass (kAty 0) ∈ kTb) (hxn : x.toInt = (n : Int)) (hyk : y.toInt = (k : Int)) (hbn : n ≤ 1000000) (hbk : k ≤ 1000000) (h1 : 1 + n ≤ kc) (h2 : n + n * k ≤ nc)
    (kk : gLo g ≤ nx M → (∀ b, nx M ≤ b → tg M b = 0) → kT l g nm cc mL rt hh d K N QR QX (pc + 4) lv (.ref (nx M) :: rest) (nwG M n k) (kc - (1 + n)) (nc - (n + n * k))) : kT l g nm cc mL rt hh d K N QR QX pc lv (.int y :: .int x :: rest) M kc nc := by
  intro p e s m args below meth c9 A H locs cells slots ls hR hS hl9 h19 h29
  obtain ⟨hx, hb, hml, hret, hlk, hown, hts, hK, hSt, htab, hl0, hnm, hlo0⟩ := id A
  have hz0 : gLo g ≤ H.size := Nat.le_trans hlo0 hS.1
  intro T hT Xs
  obtain ⟨vm₁, cA, comp, -, fA, fC, hO, -, X', step⟩ := Xs.multianewarray2F hx (ty := .int) hown (hts _ hw) (va_AOA.use hK.2.2.2.2.2.2) (hts _ hwa) (g := F0 m pc ls (.int y :: .int x :: rest)) rfl (by rw [hb]; exact hdg) rfl (kNneg hxn) (kNneg hyk) (by rw [kClamp hxn]; omega) (by rw [kClamp hyk]; show k * 4 ≤ _; omega) (by rw [kClamp hyk]; omega) rfl rfl (by rw [kClamp hxn]; show cells + (1 + n) ≤ K; omega) (by rw [kClamp hxn, kClamp hyk]; show slots + (n + n * k) ≤ N; omega)
  have ec : comp = gA g 0 := Option.some.inj (fC.symm.trans (hK.2.1 0 (by decide)).2)
  subst ec
  have eA : cA = gA g 8 := Option.some.inj (fA.symm.trans (hK.2.1 8 (by decide)).2)
  subst eA
  rw [kClamp hxn, kClamp hyk] at X' step
  generalize hF : Jvm.Free.Multi.fill (T.setVm vm₁) (gA g 8) (gA g 0) n k (defaultValue .int) n = F at X' step
  have hTh : (T.setVm vm₁).heap = H := hT
  obtain ⟨f1, f2, -, -⟩ := Jvm.Free.Multi.fill_facts (T.setVm vm₁) (gA g 8) (gA g 0) n k (defaultValue .int) n
  rw [hF, hTh] at f1 f2
  have hold : ∀ x : Nat, x < H.size → F.heap[x]? = H[x]? := fun x hx => by
    have := Jvm.Free.Multi.fill_old (T.setVm vm₁) (gA g 8) (gA g 0) n k (defaultValue .int) (a := x) (by rw [hTh]; exact hx) n
    rw [hF, hTh] at this
    exact this
  have hrow : ∀ j : Nat, j < n → F.heap[H.size + 1 + j]? = some (arrV (gA g 0) k (fun _ => Value.int 0)) := fun j hj => by
    have := Jvm.Free.Multi.fill_inner (T.setVm vm₁) (gA g 8) (gA g 0) n k (defaultValue .int) n j hj
    rw [hF, hTh] at this
    rw [this, ← arrV_new]
    rfl
  rw [vr_outer] at f2
  have hfr : ∀ b, H.size ≤ b → tg M b = 0 := by
    intro b hb9
    rcases hR.2 b with h | ⟨c, r, -, -, -, -, cell, q, -⟩ | ⟨t, -, -, -, q, -⟩ | ⟨-, h2, -⟩ | ⟨-, h2, -⟩
    · exact h
    · exact absurd (Array.getElem?_eq_some_iff.mp q).1 (by omega)
    · exact absurd (Array.getElem?_eq_some_iff.mp q).1 (by omega)
    · obtain ⟨cell, -, -, -, -, -, -, c7⟩ := hSt.2.1
      exact absurd (show gLo g ≤ gN g by omega) c7
    · obtain ⟨cell, -, -, -, -, -, -, c7⟩ := hSt.2.2.2.1
      exact absurd (show gLo g ≤ gW g by omega) c7
  have hnx := hR.1
  have hRep : kRep g (nwG M n k) F.heap := by
    refine ⟨by show nx M + 1 + n = _; rw [f1, hnx], fun b => ?_⟩
    by_cases e1 : b = H.size
    · subst e1
      refine Or.inr (Or.inr (Or.inl ⟨8, by simp [nwG, tg, hnx], by decide, hz0, ?_, kFit_none (by decide) (by decide), by simp [nwG, ln, hnx]; omega⟩))
      rw [f2]
      have el : ln (nwG M n k) H.size = n := by simp [nwG, ln, hnx]
      rw [el]
      congr 2
      funext j
      simp [kAV, nwG, ar, hnx]
    · by_cases e2 : H.size < b ∧ b ≤ H.size + n
      · refine Or.inr (Or.inr (Or.inl ⟨0, by simp [nwG, tg, e1, e2, hnx], by decide, by omega, ?_, kFit_none (by decide) (by decide), by simp [nwG, ln, e1, e2, hnx]; omega⟩))
        have e3 := hrow (b - H.size - 1) (by omega)
        rw [show H.size + 1 + (b - H.size - 1) = b by omega] at e3
        rw [e3]
        have el : ln (nwG M n k) b = k := by simp [nwG, ln, e1, e2, hnx]
        rw [el]
        congr 2
        funext j
        simp [kAV, nwG, ai, e2, hnx]
      · have hlk9 : kLike M (nwG M n k) b := kLike.of (by simp [nwG, tg, e1, e2, hnx]) (by simp [nwG, ln, e1, e2, hnx]) rfl rfl rfl (by funext j; simp [nwG, ai, e2, hnx]) rfl (by funext j; simp [nwG, ar, e1, hnx])
        by_cases e4 : b < H.size
        · exact (hR.2 b).like hlk9 (hold b e4)
        · refine Or.inl ?_
          rw [hlk9.1]
          exact hfr b (by omega)
  obtain ⟨t, a1, b1⟩ := kk (by rw [hnx]; exact hz0) (by rw [hnx]; exact hfr) p e s m args below meth c9 A F.heap locs _ _ ls hRep ⟨by rw [f1]; have := hS.1; omega, fun x h1 h2 => (hold x (Nat.lt_of_lt_of_le h1 hS.1)).trans (hS.2.1 x h1 h2), hS.2.2⟩ hl9 (by omega) (by omega) F rfl X'
  refine ⟨t, step t ?_, b1⟩
  have e : T.heap.size = nx M := by rw [hT, hnx]
  rw [e]
  exact a1
end KL

/-! rows of the judgement: throws, copies, Math, statics -/
section KD
variable {l : Launch} {g : kG} {nm : MethodName} {cc : ByteArray} {mL : Nat} {rt : Option FieldType} {hh : List (Nat × Nat × Nat × Nat)} {d K N : Nat} {QR : Option Value → kM → Prop} {QX : String → kM → Prop} {pc : Nat} {lv : List (Nat × Value)} {rest : List Value} {M : kM} {kc nc : Nat}
/-- what a throw of a class asks of the tables -/
def kThr (own : String) (ik ic : Nat) (cls : String) : Prop := Bundle.fit cls = true ∧ Cond.classLink own ik cls ∈ kTb ∧ Cond.initialized cls ∈ kTb ∧ (∀ w ∈ (vx_atS own ic cls ["java/lang/RuntimeException", "java/lang/Exception"]).filter goodWord, w ∈ kTb) ∧ (∀ w ∈ (vx_atS own ic cls ["java/lang/RuntimeException", "java/lang/Exception"]).filter (fun w => !goodWord w), w ∈ kNw) ∧
  ∀ w ∈ Cond.classLink own ik cls :: Cond.initialized cls :: vx_atS own ic cls ["java/lang/RuntimeException", "java/lang/Exception"], vx_ot w = true
theorem kThr_at {s : State} {args : Array Value} {own cls : String} {ik ic : Nat} (h : kThr own ik ic cls) (hts : ∀ w ∈ kTb, w.before args s = true) (hK : kK g s) : ∀ w ∈ vx_atS own ic cls ["java/lang/RuntimeException", "java/lang/Exception"], w.before args s = true := by
  intro w hw
  by_cases h9 : goodWord w = true
  · exact hts w (h.2.2.2.1 w (List.mem_filter.mpr ⟨hw, h9⟩))
  · have h8 := h.2.2.2.2.1 w (List.mem_filter.mpr ⟨hw, by simp [h9]⟩)
    have h7 := h.2.2.2.2.2 w (List.mem_cons_of_mem _ (List.mem_cons_of_mem _ hw))
    refine va_Nw.use ?_ (hK.2.2.1 w h8)
    unfold vx_ot at h7
    simp [h9] at h7
    exact h7
theorem kThrown {s t : State} {H : Heap} {locs : List Loc} {E : String} (hR : kRep g M H) (hSt : kSt g s s.heap) (hS : va_S (kA g) s.heap H locs) (hlo : gLo g ≤ s.heap.size) (hq : QX E M) (hz : H.size ≤ t.heap.size) (hk : ∀ q : Nat, q < H.size → t.heap[q]? = H[q]?) : kXC g QX E s t := by
  refine ⟨⟨M, hq, hR.same (fun q hq9 hlo9 => hk q ?_)⟩, Nat.le_trans hS.1 hz, fun q h1 h2 => (hk q (Nat.lt_of_lt_of_le h1 hS.1)).trans (hS.2.1 q h1 h2)⟩
  rcases hR.2 q with h | ⟨c, r, -, -, -, -, cell, q1, -⟩ | ⟨t, -, -, -, q1, -⟩ | ⟨h, h2, -⟩ | ⟨h, h2, -⟩
  · exact absurd h hq9
  · exact (Array.getElem?_eq_some_iff.mp q1).1
  · exact (Array.getElem?_eq_some_iff.mp q1).1
  · obtain ⟨cell, -, -, -, -, -, -, c7⟩ := hSt.2.1
    exact absurd (show gLo g ≤ gN g by omega) c7
  · obtain ⟨cell, -, -, -, -, -, -, c7⟩ := hSt.2.2.2.1
    exact absurd (show gLo g ≤ gW g by omega) c7
/-- throw new E("text") -/
theorem kT_throwS {cls text : String} {ik is ic : Nat} (hT : kThr nm.cls ik ic cls) (hstr : (nm.cls, is, text) ∈ kStr) (d0 : decode cc pc = .ok (.new ik, 3)) (d3 : decode cc (pc + 3) = .ok (.dup, 1)) (d4 : decode cc (pc + 4) = .ok (.ldc is, 2)) (d6 : decode cc (pc + 6) = .ok (.invokespecial ic, 3)) (d9 : decode cc (pc + 9) = .ok (.athrow, 1))
    (hd : 6 ≤ d) (hs : (rest.map fun v => v.category).sum ≤ 8) (hk : 1 ≤ kc) (hn : 6 ≤ nc) (hq : QX cls M) : kT l g nm cc mL rt [] d K N QR QX pc lv rest M kc nc := by
  intro p e s m args below meth c9 A H locs cells slots ls hR hS hl9 h19 h29
  obtain ⟨hx, hb, hml, hret, hlk, hown, hts, hK, hSt, htab, hl0, hnm, hlo0⟩ := id A
  obtain ⟨sa, hsa⟩ := hK.2.2.2.1 _ hstr
  refine vx_throwS (cls := cls) (text := text) (names := ["java/lang/RuntimeException", "java/lang/Exception"]) (sa := sa) (A := kA g) hx hb hl0 hown hT.1 (by decide +kernel) (hts _ hT.2.1) (hts _ hT.2.2.1) hsa (kThr_at hT hts hK) hT.2.2.2.2.2 hSt.2.2.2.2.1 hSt.2.2.2.2.2.1 hS (by rw [hml]; exact hl9.1) d0 d3 d4 d6 d9 ?_ (show 2 + 3 < d by omega) (show _ + (13 * (2 + 1) + 43) ≤ 64 * d by omega) (show cells + 1 ≤ K by omega) (show slots + 6 ≤ N by omega) hlk
    (fun t ha hz hk9 => kThrown hR hSt hS hlo0 hq hz hk9) hS.2.2 (by omega) (by omega)
  intro x hx9
  rw [htab] at hx9
  exact absurd hx9 (by simp [tableOf])
/-- the same, the text's number above 255 -/
theorem kT_throwSW {cls text : String} {ik is ic : Nat} (hT : kThr nm.cls ik ic cls) (hstr : (nm.cls, is, text) ∈ kStr) (d0 : decode cc pc = .ok (.new ik, 3)) (d3 : decode cc (pc + 3) = .ok (.dup, 1)) (d4 : decode cc (pc + 4) = .ok (.ldc_w is, 3)) (d6 : decode cc (pc + 7) = .ok (.invokespecial ic, 3)) (d9 : decode cc (pc + 10) = .ok (.athrow, 1))
    (hd : 6 ≤ d) (hs : (rest.map fun v => v.category).sum ≤ 8) (hk : 1 ≤ kc) (hn : 6 ≤ nc) (hq : QX cls M) : kT l g nm cc mL rt [] d K N QR QX pc lv rest M kc nc := by
  intro p e s m args below meth c9 A H locs cells slots ls hR hS hl9 h19 h29
  obtain ⟨hx, hb, hml, hret, hlk, hown, hts, hK, hSt, htab, hl0, hnm, hlo0⟩ := id A
  obtain ⟨sa, hsa⟩ := hK.2.2.2.1 _ hstr
  refine vx_throwSW (cls := cls) (text := text) (names := ["java/lang/RuntimeException", "java/lang/Exception"]) (sa := sa) (A := kA g) hx hb hl0 hown hT.1 (by decide +kernel) (hts _ hT.2.1) (hts _ hT.2.2.1) hsa (kThr_at hT hts hK) hT.2.2.2.2.2 hSt.2.2.2.2.1 hSt.2.2.2.2.2.1 hS (by rw [hml]; exact hl9.1) d0 d3 d4 d6 d9 ?_ (show 2 + 3 < d by omega) (show _ + (13 * (2 + 1) + 43) ≤ 64 * d by omega) (show cells + 1 ≤ K by omega) (show slots + 6 ≤ N by omega) hlk
    (fun t ha hz hk9 => kThrown hR hSt hS hlo0 hq hz hk9) hS.2.2 (by omega) (by omega)
  intro x hx9
  rw [htab] at hx9
  exact absurd hx9 (by simp [tableOf])
theorem kNneg {z : Int32} {j : Nat} (h : z.toInt = (j : Int)) : ¬ z < 0 := fun h9 => by
  have := Int32.lt_iff_toInt_lt.mp h9
  have e0 : (0 : Int32).toInt = 0 := by decide
  omega
/-- System.arraycopy of numbers, from one array into another -/
theorem kT_copyI {a0 a t idx s0 d0 n0 : Nat} {sp dp n : Int32} (hdg : decode cc pc = .ok (.invokestatic idx, 3)) (hw : Cond.methodLink nm.cls idx arraycopyName ∈ kTb) (hw1 : Cond.native arraycopyName ∈ kTb) (hw2 : Cond.static arraycopyName ∈ kTb) (hw3 : Cond.initialized "java/lang/System" ∈ kTb) (ht2 : t = 0 ∨ t = 2) (ht0 : tg M a0 = 101 + t) (ht1 : tg M a = 101 + t)
    (h1 : sp.toInt = (s0 : Int)) (h2 : dp.toInt = (d0 : Int)) (h3 : n.toInt = (n0 : Int)) (h4 : s0 + n0 ≤ ln M a0) (h5 : d0 + n0 ≤ ln M a) (hd : 2 ≤ d) (hs : (rest.map fun v => v.category).sum ≤ 8)
    (kk : kT l g nm cc mL rt hh d K N QR QX (pc + 3) lv rest (wai M a (va_cpy (ai M a0) (ai M a) s0 d0 n0)) kc nc) : kT l g nm cc mL rt hh d K N QR QX pc lv (.int n :: .int dp :: .ref a :: .int sp :: .ref a0 :: rest) M kc nc := by
  intro p e s m args below meth c9 A H locs cells slots ls hR hS hl9 h19 h29
  obtain ⟨hx, hb, hml, hret, hlk, hown, hts, hK, hSt, htab, hl0, hnm, hlo0⟩ := id A
  have ht9 : t < 9 := by omega
  have hAV : ∀ (M : kM) (a : Nat), kAV M a t = fun j => .int (ai M a j) := by
    intro M a
    rcases ht2 with rfl | rfl <;> rfl
  have hprim : refKind (kAty t) = false := by rcases ht2 with rfl | rfl <;> rfl
  obtain ⟨hlo0', hc0, hfit0, hlen0⟩ := hR.arr ht0 ht9
  obtain ⟨hlo, hc1, hfit1, hlen1⟩ := hR.arr ht1 ht9
  rw [hAV] at hc0 hc1
  have hl : a < H.size := (Array.getElem?_eq_some_iff.mp hc1).1
  intro T hT X
  obtain ⟨-, k0, hk0, cm0, hkk0⟩ := (hK.2.1 t ht9).1 (ln M a0) (fun j => .int (ai M a0 j))
  obtain ⟨-, k1, hk1, cm1, hkk1⟩ := (hK.2.1 t ht9).1 (ln M a) (fun j => .int (ai M a j))
  obtain ⟨vm', X', step⟩ := X.arraycopy hx hown (hts _ hw) (hts _ hw1) (hts _ hw2) (hts _ hw3) (src := a0) (dst := a) (cs := vp_cell (gA g t) (ln M a0, .inl (ai M a0))) (cd := vp_cell (gA g t) (ln M a, .inl (ai M a))) (srcPos := sp) (destPos := dp) (n := n) (by rw [hT]; exact hc0) (by rw [hT]; exact hc1)
    (fun _ h => by cases h) (fun _ h => by cases h) (fun h => by cases h) (fun h => by cases h) hk0 hk1 hkk0 hkk1 (by simp [hprim]) (kNneg h1) (kNneg h2) (kNneg h3)
    (by rw [h1, h3]; show ¬ _ > ((arrV (gA g t) (ln M a0) (fun j => .int (ai M a0 j))).slots.size : Int); rw [arrV_size]; omega)
    (by rw [h2, h3]; show ¬ _ > ((arrV (gA g t) (ln M a) (fun j => .int (ai M a j))).slots.size : Int); rw [arrV_size]; omega)
    (fun vm₁ _ i hi => by
      rw [kClamp h3] at hi
      have e0 : (vp_cell (gA g t) (ln M a0, .inl (ai M a0))).slots.getD (sp.toNatClampNeg + i) .null = .int (ai M a0 (sp.toNatClampNeg + i)) := by
        show (arrV (gA g t) (ln M a0) (fun j => .int (ai M a0 j))).slots.getD _ _ = _
        rw [Array.getD_eq_getD_getElem?, arrV_read _ _ (by rw [kClamp h1]; omega)]
        rfl
      refine ⟨?_, ?_⟩
      · rw [e0]
        rcases ht2 with rfl | rfl
        · rfl
        · exact hfit0.1 rfl _
      · rw [e0]
        exact trivial)
    (g := F0 m pc ls (.int n :: .int dp :: .ref a :: .int sp :: .ref a0 :: rest)) rfl (by rw [hml]; exact hl9.1) (rest := rest) rfl (by rw [hb]; exact hdg) (show 1 ≤ d by omega) (show 2 * 0 + _ + (nativeFrameWords "java/lang/System" "arraycopy" 5 + 11) ≤ 64 * d by
      have : nativeFrameWords "java/lang/System" "arraycopy" 5 ≤ 64 := by decide
      omega)
  have e1 : copied (vp_cell (gA g t) (ln M a0, .inl (ai M a0))) (vp_cell (gA g t) (ln M a, .inl (ai M a))) sp dp n = vp_cell (gA g t) (ln M a, .inl (va_cpy (ai M a0) (ai M a) sp.toNatClampNeg dp.toNatClampNeg n.toNatClampNeg)) := va_copied (fun z => .int z) _ _ (ai M a0) (ai M a) (by rw [kClamp h1, kClamp h3]; exact h4)
  rw [e1, kClamp h1, kClamp h2, kClamp h3] at X' step
  obtain ⟨cn, hcn⟩ : ∃ z, z = vp_cell (gA g t) (ln M a, .inl (va_cpy (ai M a0) (ai M a) s0 d0 n0)) := ⟨_, rfl⟩
  rw [← hcn] at X' step
  have hheap : ((T.setVm vm').setCell a cn).heap = H.setIfInBounds a cn := by rw [← hT]; rfl
  have oq : ∀ q : Nat, q ≠ a → (H.setIfInBounds a cn)[q]? = H[q]? := fun q hq => by simp [Array.getElem?_setIfInBounds, Ne.symm hq]
  have ha1 : (H.setIfInBounds a cn)[a]? = some cn := by simp [Array.getElem?_setIfInBounds, hl]
  have hS' : ∀ Z : List Loc, (∀ q ∈ Z, q.base = a) → va_S (kA g) s.heap (H.setIfInBounds a cn) (locs ++ Z) := fun Z hZ => ⟨by simp; exact hS.1, fun q g1 g2 => by
      rw [oq q (fun e => g2 (by rw [e]; exact hlo))]
      exact hS.2.1 q g1 g2, fun q hq => by
      rcases List.mem_append.mp hq with h | h
      · exact hS.2.2 q h
      · show gLo g ≤ q.base
        rw [hZ q h]
        exact hlo⟩
  obtain ⟨t2, a1, b1⟩ := kk p e s m args below meth c9 A (H.setIfInBounds a cn) _ cells slots ls (hR.upd rfl (by simp) (fun b hb9 => kLike_wai hb9) oq (Or.inr (Or.inr (Or.inl ⟨t, ht1, ht9, hlo, by
      rw [ha1, hcn, hAV]
      show some (arrV _ _ (fun j => Value.int (va_cpy (ai M a0) (ai M a) s0 d0 n0 j))) = some (arrV _ _ _)
      congr 2
      funext j
      show _ = Value.int (zr2 (ai M) a _ a j)
      rw [zr2_at], ⟨fun e2 j => by
        show fits .byte (.int (zr2 (ai M) a _ a j)) = true
        rw [zr2_at]
        unfold va_cpy
        split
        · exact hfit0.1 e2 _
        · exact hfit1.1 e2 _, fun e3 j => by omega⟩, hlen1⟩)))) (hS' _ (fun q hq => by obtain ⟨z, -, hz⟩ := List.mem_map.mp hq; rw [← hz])) hl9 h19 h29 _ hheap X'
  exact ⟨t2, step t2 a1, b1⟩
theorem kT_min {idx : Nat} {x y : Int32} (hdg : decode cc pc = .ok (.invokestatic idx, 3)) (hw : Cond.methodLink nm.cls idx Lib.Math.min.name ∈ kTb) (hw2 : Cond.static Lib.Math.min.name ∈ kTb) (hw3 : Cond.initialized "java/lang/Math" ∈ kTb) (hw4 : Cond.code Lib.Math.min.name Lib.Math.min.code 2 (some .int) ∈ kTb) (hd : 1 ≤ d) (hs : (rest.map fun v => v.category).sum ≤ 8) (kk : kT l g nm cc mL rt hh d K N QR QX (pc + 3) lv (.int (if y < x then y else x) :: rest) M kc nc) : kT l g nm cc mL rt hh d K N QR QX pc lv (.int y :: .int x :: rest) M kc nc := by
  intro p e s m args below meth c9 A H locs cells slots ls hR hS hl9 h19 h29
  obtain ⟨hx, hb, hml, hret, hlk, hown, hts, hK, hSt, htab, hl0, hnm, hlo0⟩ := id A
  exact va_mmin hx hb (by rw [hml]; exact hl9.1.symm) hown (hts _ hw) (hts _ hw2) (hts _ hw3) (hts _ hw4) hd (show _ + 13 ≤ 64 * d by omega) (show cells ≤ K by omega) (show slots ≤ N by omega) hdg (kk p e s m args below meth c9 A H locs cells slots ls hR hS hl9 h19 h29)
/-- the two static empty arrays -/
theorem kT_getsN {idx : Nat} (hdg : decode cc pc = .ok (.getstatic idx, 3)) (hw : Cond.fieldLink nm.cls idx RX11 "NO_NUMBERS" "[I" ∈ kTb) (kk : kT l g nm cc mL rt hh d K N QR QX (pc + 3) lv (.ref (gN g) :: rest) M kc nc) : kT l g nm cc mL rt hh d K N QR QX pc lv rest M kc nc := by
  intro p e s m args below meth c9 A H locs cells slots ls hR hS hl9 h19 h29
  obtain ⟨hx, hb, hml, hret, hlk, hown, hts, hK, hSt, htab, hl0, hnm, hlo0⟩ := id A
  exact va_gets hx hb hSt.1 hS hown (hts _ hw) (fun _ h9 => h9) hdg (kk p e s m args below meth c9 A H locs cells slots ls hR hS hl9 h19 h29)
theorem kT_getsW {idx : Nat} (hdg : decode cc pc = .ok (.getstatic idx, 3)) (hw : Cond.fieldLink nm.cls idx RX11 "NO_WORDS" "[J" ∈ kTb) (kk : kT l g nm cc mL rt hh d K N QR QX (pc + 3) lv (.ref (gW g) :: rest) M kc nc) : kT l g nm cc mL rt hh d K N QR QX pc lv rest M kc nc := by
  intro p e s m args below meth c9 A H locs cells slots ls hR hS hl9 h19 h29
  obtain ⟨hx, hb, hml, hret, hlk, hown, hts, hK, hSt, htab, hl0, hnm, hlo0⟩ := id A
  exact va_gets hx hb hSt.2.2.1 hS hown (hts _ hw) (fun _ h9 => h9) hdg (kk p e s m args below meth c9 A H locs cells slots ls hR hS hl9 h19 h29)
theorem kT_getsNN {idx : Nat} {host : String} (hdg : decode cc pc = .ok (.getstatic idx, 3)) (hw : Cond.fieldLinkNest nm.cls idx RX11 "NO_NUMBERS" "[I" host ∈ kNw) (kk : kT l g nm cc mL rt hh d K N QR QX (pc + 3) lv (.ref (gN g) :: rest) M kc nc) : kT l g nm cc mL rt hh d K N QR QX pc lv rest M kc nc := by
  intro p e s m args below meth c9 A H locs cells slots ls hR hS hl9 h19 h29
  obtain ⟨hx, hb, hml, hret, hlk, hown, hts, hK, hSt, htab, hl0, hnm, hlo0⟩ := id A
  exact va_getsN hx hb hSt.1 hS hown (va_Nw.use rfl (hK.2.2.1 _ hw)) (fun _ h9 => h9) hdg (kk p e s m args below meth c9 A H locs cells slots ls hR hS hl9 h19 h29)
/-- the script -/
theorem kT_sald {j : Nat} {i : Int32} (hdg : decode cc pc = .ok (.iaload, 1)) (hi : i.toInt = (j : Int)) (hj : j < gL g) (kk : kT l g nm cc mL rt hh d K N QR QX (pc + 1) lv (.int (gX g j) :: rest) M kc nc) : kT l g nm cc mL rt hh d K N QR QX pc lv (.int i :: .ref (gS g) :: rest) M kc nc := by
  intro p e s m args below meth c9 A H locs cells slots ls hR hS hl9 h19 h29
  obtain ⟨hx, hb, hml, hret, hlk, hown, hts, hK, hSt, htab, hl0, hnm, hlo0⟩ := id A
  obtain ⟨-, -, -, -, -, -, h7, h8, h9⟩ := hSt
  obtain ⟨scr, c1, c2, c3, c4, c5⟩ := h7.kept (hS.2.1 _ h9 (fun z => absurd h8 (Nat.not_lt.mpr z)))
  exact W.iald hx hb c1 c2 c3 (by rw [c4]; exact kIn hi hj) (by rw [kClamp hi]; exact c5 j hj) rfl rfl hdg (kk p e s m args below meth c9 A H locs cells slots ls hR hS hl9 h19 h29)
theorem kT_slen (hdg : decode cc pc = .ok (.arraylength, 1)) (kk : kT l g nm cc mL rt hh d K N QR QX (pc + 1) lv (.int (nI (gL g)) :: rest) M kc nc) : kT l g nm cc mL rt hh d K N QR QX pc lv (.ref (gS g) :: rest) M kc nc := by
  intro p e s m args below meth c9 A H locs cells slots ls hR hS hl9 h19 h29
  obtain ⟨hx, hb, hml, hret, hlk, hown, hts, hK, hSt, htab, hl0, hnm, hlo0⟩ := id A
  obtain ⟨-, -, -, -, -, -, h7, h8, h9⟩ := hSt
  obtain ⟨scr, c1, c2, c3, c4, c5⟩ := h7.kept (hS.2.1 _ h9 (fun z => absurd h8 (Nat.not_lt.mpr z)))
  exact W.alen hx hb c1 c2 (by rw [c4]; rfl) rfl rfl hdg (kk p e s m args below meth c9 A H locs cells slots ls hR hS hl9 h19 h29)
end KD

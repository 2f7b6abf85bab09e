/-! memories that are the same -/
theorem kM_ext {M M1 : kM} (h1 : tg M = tg M1) (h2 : ln M = ln M1) (h3 : fi M = fi M1) (h4 : fl M = fl M1) (h5 : fr M = fr M1) (h6 : ai M = ai M1) (h7 : al M = al M1) (h8 : ar M = ar M1) (h9 : nx M = nx M1) : M = M1 := by
  obtain ⟨a1, a2, a3, a4, a5, a6, a7, a8, a9⟩ := M
  obtain ⟨b1, b2, b3, b4, b5, b6, b7, b8, b9⟩ := M1
  cases h1; cases h2; cases h3; cases h4; cases h5; cases h6; cases h7; cases h8; cases h9
  rfl
theorem wai_self (M : kM) (a : Nat) {h : Nat → Int32} (e : ∀ j, h j = ai M a j) : M = wai M a h := by
  refine kM_ext rfl rfl rfl rfl rfl ?_ rfl rfl rfl
  funext b j
  show ai M b j = zr2 (ai M) a h b j
  unfold zr2
  split
  · rename_i hb; rw [hb, e j]
  · rfl

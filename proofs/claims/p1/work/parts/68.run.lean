set_option maxRecDepth 100000 in
theorem rx_0 : eCk 30 (lvX 0) [] T0 665 1048467 0 (evT (eTab [(0, 4294967295), (0, 60)] 32 2000) spX 300000 58 86 0 [6, 18, 0, 0, 0, 0, 0, 0] [] T0 665 1048467 0) = true := by decide +kernel
set_option maxRecDepth 100000 in
theorem rm_0 : eCk 26 (lvM 0) [] YM0 2048 1052617 1 (evT (eTab [(0, 4294967295), (0, 60)] 32 2000) spM 300000 59 173 0 [9030, 18, 0, 0, 0, 0, 0, 0, 0] [] R1 2048 1052617 1) = true := by decide +kernel
noncomputable def cX (dd i pc : Nat) (lv st : List Nat) (t : eX) (x p u : Nat) : Bool := cnd (Nat.beq i 86) (cnd (Nat.beq pc 0) (cnd (Nat.beq dd 58) (cnd (eLq [6, 18, 0, 0, 0, 0, 0, 0] lv) (cnd (eLq [] st) (cnd (Nat.beq x 665) (cnd (Nat.beq p 1048467) (cnd (Nat.beq u 0) (eTq T0 t) false) false) false) false) false) false) false) false
noncomputable def cM (dd i pc : Nat) (lv st : List Nat) (t : eX) (x p u : Nat) : Bool := cnd (Nat.beq i 173) (cnd (Nat.beq pc 0) (cnd (Nat.beq dd 59) (cnd (eLq [9030, 18, 0, 0, 0, 0, 0, 0, 0] lv) (cnd (eLq [] st) (cnd (Nat.beq x 2048) (cnd (Nat.beq p 1052617) (cnd (Nat.beq u 1) (eTq R1 t) false) false) false) false) false) false) false) false
noncomputable def memR : eRun := fun dd i pc lv st t x p u => cnd (cX dd i pc lv st t x p u) (some (0, 114, R0, 2048, 1052617, 1)) (cnd (cM dd i pc lv st t x p u) (some (0, 114, R2, 2048, 1052617, 1)) none)
theorem memR_ok (g : kG) (b : Nat) (l : Launch) (hst : l.stackTraces = false) (hV : eV7 g) (hE : eEnv g [(0, 4294967295), (0, 60), (0, 4294967295), (0, 4294967295), (0, 4294967295)]) : ∀ dd i pc lv st t x p u r, memR dd i pc lv st t x p u = some r → eG g b l (eMt i) dd pc lv st t x p u r := by
  intro dd i pc lv st t x p u r hh
  have hL : 2 ≤ gL g := Nat.le_trans (show 2 ≤ 5 by decide) hE.1
  obtain ⟨T, h1, -, -, h4⟩ := hE.2 1
  have h60 : T ≤ 60 := h4
  have h7 := hV T h60 h1
  have hh1 : cnd (cX dd i pc lv st t x p u) (some (0, 114, R0, 2048, 1052617, 1)) (cnd (cM dd i pc lv st t x p u) (some (0, 114, R2, 2048, 1052617, 1)) none) = some r := hh
  cases hc : cX dd i pc lv st t x p u with
  | true =>
    rw [hc] at hh1
    have er : (0, 114, R0, 2048, 1052617, 1) = r := Option.some.inj hh1
    subst er
    obtain ⟨k1, c1⟩ := c_and hc
    obtain ⟨k2, c2⟩ := c_and c1
    obtain ⟨k3, c3⟩ := c_and c2
    obtain ⟨k4, c4⟩ := c_and c3
    obtain ⟨k5, c5⟩ := c_and c4
    obtain ⟨k6, c6⟩ := c_and c5
    obtain ⟨k7, c7⟩ := c_and c6
    obtain ⟨k8, k9⟩ := c_and c7
    rw [beq_t k1, beq_t k2, beq_t k3, ← eLq_ok _ _ k4, ← eLq_ok _ _ k5, beq_t k6, beq_t k7, beq_t k8]
    exact eG_tq (RnP_eG RX_0 rfl rfl rx_0 hst hL h1 h60 h7) (eTq_ok _ _ k9)
  | false =>
    rw [hc] at hh1
    have hh2 : cnd (cM dd i pc lv st t x p u) (some (0, 114, R2, 2048, 1052617, 1)) none = some r := hh1
    cases hd : cM dd i pc lv st t x p u with
    | false => rw [hd] at hh2; cases hh2
    | true =>
      rw [hd] at hh2
      have er : (0, 114, R2, 2048, 1052617, 1) = r := Option.some.inj hh2
      subst er
      obtain ⟨k1, c1⟩ := c_and hd
      obtain ⟨k2, c2⟩ := c_and c1
      obtain ⟨k3, c3⟩ := c_and c2
      obtain ⟨k4, c4⟩ := c_and c3
      obtain ⟨k5, c5⟩ := c_and c4
      obtain ⟨k6, c6⟩ := c_and c5
      obtain ⟨k7, c7⟩ := c_and c6
      obtain ⟨k8, k9⟩ := c_and c7
      rw [beq_t k1, beq_t k2, beq_t k3, ← eLq_ok _ _ k4, ← eLq_ok _ _ k5, beq_t k6, beq_t k7, beq_t k8]
      exact eG_tq (RnP_eG RM_0 rfl rfl rm_0 hst hL h1 h60 h7) (eTq_ok _ _ k9)
set_option maxRecDepth 100000 in
theorem run_in : eOk (evM (eTab [(0, 4294967295), (0, 60), (0, 4294967295), (0, 4294967295), (0, 4294967295)] 13 5) memR 300000 60 222 23 [10, 6, 9030, 10630, 1, 0, 0] [] T0 665 1048467 0) = true := by decide +kernel
theorem run_hi : lawB 300000 23 [10, 6, 9030, 10630, 1, 0, 0] T0 665 1048467 0 13 5 [(0, 4294967295), (61, 2147483647), (0, 4294967295), (0, 4294967295), (0, 4294967295)] = true := by decide +kernel
theorem run_no : lawB 300000 23 [10, 6, 9030, 10630, 1, 0, 0] T0 665 1048467 0 13 5 [(0, 4294967295), (2147483648, 4294967295), (0, 4294967295), (0, 4294967295), (0, 4294967295)] = true := by decide +kernel
theorem five_13 : lawP 23 [10, 6, 9030, 10630, 1, 0, 0] T0 665 1048467 0 5000 4000000 [(0, 4294967295), (0, 4294967295), (0, 4294967295), (0, 4294967295), (0, 4294967295)] 13 5 := law_split (B := [(0, 4294967295), (0, 4294967295), (0, 4294967295), (0, 4294967295), (0, 4294967295)]) 1 2147483648 (law_split (B := [(0, 4294967295), (0, 2147483647), (0, 4294967295), (0, 4294967295), (0, 4294967295)]) 1 61 (law_mem (B := [(0, 4294967295), (0, 60), (0, 4294967295), (0, 4294967295), (0, 4294967295)]) rfl memR_ok run_in) (law_leaf run_hi)) (law_leaf run_no)

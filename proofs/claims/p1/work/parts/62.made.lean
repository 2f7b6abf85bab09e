/-! ===== the law up to its loop ===== -/
noncomputable def spL (dd i pc : Nat) : Bool := cnd (Nat.beq dd 60) (cnd (Nat.beq i 222) (Nat.beq pc 23) false) false
theorem law_made : eCk 23 [10, 6, 9030, 10630, 1, 0, 0] [] T0 665 1048467 0 (evT (eTab [] 32 2000) spL 300000 60 222 0 [10, 0, 0, 0, 0, 0, 0] [] eL 0 0 0) = true := by decide +kernel

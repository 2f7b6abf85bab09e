def eSome (r : eR) : Bool := match r with
  | some _ => true
  | none => false
noncomputable def t00 : eX := eSetK 40 eL (eKy 0 0) (eHO 11) id
theorem run_init : eSome (ev (eTab []) 100000 40 70 0 [6, 0] [] t00 1 7 0) = true := by decide +kernel

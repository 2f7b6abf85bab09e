/-! the rows again for numbers nI n -/
theorem nI_le9 {a b : Nat} (ha : a < 2147483648) (hb : b < 2147483648) : nI a ≤ nI b ↔ a ≤ b := nI_leI ha hb
theorem kRf {M : kM} {a k b : Nat} (h : fr M a k = some b) : va_rf (fr M a k) = .ref b := by rw [h]; rfl
section KN
variable {l : Launch} {g : kG} {nm : MethodName} {cc : ByteArray} {mL : Nat} {rt : Option FieldType} {hh : List (Nat × Nat × Nat × Nat)} {d K N : Nat} {QR : Option Value → kM → Prop} {QX : String → kM → Prop} {pc : Nat} {lv : List (Nat × Value)} {rest : List Value} {M : kM} {kc nc : Nat}
theorem kT_mem {M1 : kM} (e : M = M1) (kk : kT l g nm cc mL rt hh d K N QR QX pc lv rest M1 kc nc) : kT l g nm cc mL rt hh d K N QR QX pc lv rest M kc nc := e ▸ kk
theorem kT_iaddN {a b : Nat} (hdg : decode cc pc = .ok (.iadd, 1)) (kk : kT l g nm cc mL rt hh d K N QR QX (pc + 1) lv (.int (nI (a + b)) :: rest) M kc nc) : kT l g nm cc mL rt hh d K N QR QX pc lv (.int (nI b) :: .int (nI a) :: rest) M kc nc :=
  kT_iadd hdg (by rw [nI_add]; exact kk)
theorem kT_imulN {a b : Nat} (hdg : decode cc pc = .ok (.imul, 1)) (kk : kT l g nm cc mL rt hh d K N QR QX (pc + 1) lv (.int (nI (a * b)) :: rest) M kc nc) : kT l g nm cc mL rt hh d K N QR QX pc lv (.int (nI b) :: .int (nI a) :: rest) M kc nc :=
  kT_imul hdg (by rw [pk_mul]; exact kk)
theorem kT_idivN {a b : Nat} (hdg : decode cc pc = .ok (.idiv, 1)) (ha : a < 2147483648) (h0 : 0 < b) (hb : b < 2147483648) (kk : kT l g nm cc mL rt hh d K N QR QX (pc + 1) lv (.int (nI (a / b)) :: rest) M kc nc) : kT l g nm cc mL rt hh d K N QR QX pc lv (.int (nI b) :: .int (nI a) :: rest) M kc nc :=
  kT_idiv hdg (nI_ne0 h0 hb) (by rw [pk_div ha h0 hb]; exact kk)
theorem kT_iremN {a b : Nat} (hdg : decode cc pc = .ok (.irem, 1)) (ha : a < 2147483648) (h0 : 0 < b) (hb : b < 2147483648) (kk : kT l g nm cc mL rt hh d K N QR QX (pc + 1) lv (.int (nI (a % b)) :: rest) M kc nc) : kT l g nm cc mL rt hh d K N QR QX pc lv (.int (nI b) :: .int (nI a) :: rest) M kc nc :=
  kT_irem hdg (nI_ne0 h0 hb) (by rw [pk_rem ha h0 hb]; exact kk)
theorem kT_icmp_geN {a b : Nat} {off : Int} {tgt : Nat} (hdg : decode cc pc = .ok (.if_icmp .ge off, 3)) (ht : (pc : Int) + off = (tgt : Int)) (ha : a < 2147483648) (hb : b < 2147483648) (kt : b ≤ a → kT l g nm cc mL rt hh d K N QR QX tgt lv rest M kc nc) (kf : a < b → kT l g nm cc mL rt hh d K N QR QX (pc + 3) lv rest M kc nc) : kT l g nm cc mL rt hh d K N QR QX pc lv (.int (nI b) :: .int (nI a) :: rest) M kc nc := kT_icmp_ge hdg ht (fun h => kt ((nI_le9 hb ha).mp h)) (fun h => kf (Nat.lt_of_not_le (fun z => h ((nI_le9 hb ha).mpr z))))
theorem kT_ialdN {a j : Nat} {v : Value} (hdg : decode cc pc = .ok (.iaload, 1)) (ht : tg M a = 101) (hj : j < ln M a) (hv : .int (ai M a j) = v) (kk : kT l g nm cc mL rt hh d K N QR QX (pc + 1) lv (v :: rest) M kc nc) : kT l g nm cc mL rt hh d K N QR QX pc lv (.int (nI j) :: .ref a :: rest) M kc nc := by
  subst hv
  intro p e s m args below meth c9 A H locs cells slots ls hR hS hl9 h19 h29
  obtain ⟨-, -, -, hlen⟩ := hR.arr (t := 0) ht (by decide)
  exact kT_iald hdg ht (nI_toInt (by omega)) hj kk p e s m args below meth c9 A H locs cells slots ls hR hS hl9 h19 h29
theorem kT_laldN {a j : Nat} {v : Value} (hdg : decode cc pc = .ok (.laload, 1)) (ht : tg M a = 102) (hj : j < ln M a) (hv : .long (al M a j) = v) (kk : kT l g nm cc mL rt hh d K N QR QX (pc + 1) lv (v :: rest) M kc nc) : kT l g nm cc mL rt hh d K N QR QX pc lv (.int (nI j) :: .ref a :: rest) M kc nc := by
  subst hv
  intro p e s m args below meth c9 A H locs cells slots ls hR hS hl9 h19 h29
  obtain ⟨-, -, -, hlen⟩ := hR.arr (t := 1) ht (by decide)
  exact kT_lald hdg ht (nI_toInt (by omega)) hj kk p e s m args below meth c9 A H locs cells slots ls hR hS hl9 h19 h29
theorem kT_baldN {a j : Nat} {v : Value} (hdg : decode cc pc = .ok (.baload, 1)) (ht : tg M a = 103) (hj : j < ln M a) (hv : .int (ai M a j) = v) (kk : kT l g nm cc mL rt hh d K N QR QX (pc + 1) lv (v :: rest) M kc nc) : kT l g nm cc mL rt hh d K N QR QX pc lv (.int (nI j) :: .ref a :: rest) M kc nc := by
  subst hv
  intro p e s m args below meth c9 A H locs cells slots ls hR hS hl9 h19 h29
  obtain ⟨-, -, -, hlen⟩ := hR.arr (t := 2) ht (by decide)
  exact kT_bald hdg ht (nI_toInt (by omega)) hj kk p e s m args below meth c9 A H locs cells slots ls hR hS hl9 h19 h29
theorem kT_zaldN {a j : Nat} {v : Value} (hdg : decode cc pc = .ok (.baload, 1)) (ht : tg M a = 104) (hj : j < ln M a) (hv : .int (ai M a j) = v) (kk : kT l g nm cc mL rt hh d K N QR QX (pc + 1) lv (v :: rest) M kc nc) : kT l g nm cc mL rt hh d K N QR QX pc lv (.int (nI j) :: .ref a :: rest) M kc nc := by
  subst hv
  intro p e s m args below meth c9 A H locs cells slots ls hR hS hl9 h19 h29
  obtain ⟨-, -, -, hlen⟩ := hR.arr (t := 3) ht (by decide)
  exact kT_zald hdg ht (nI_toInt (by omega)) hj kk p e s m args below meth c9 A H locs cells slots ls hR hS hl9 h19 h29
theorem kT_iastN {a j : Nat} {x : Int32} (hdg : decode cc pc = .ok (.iastore, 1)) (ht : tg M a = 101) (hj : j < ln M a) (kk : kT l g nm cc mL rt hh d K N QR QX (pc + 1) lv rest (sai M a j x) kc nc) : kT l g nm cc mL rt hh d K N QR QX pc lv (.int x :: .int (nI j) :: .ref a :: rest) M kc nc := by
  intro p e s m args below meth c9 A H locs cells slots ls hR hS hl9 h19 h29
  obtain ⟨-, -, -, hlen⟩ := hR.arr (t := 0) ht (by decide)
  exact kT_iast hdg ht (nI_toInt (by omega)) hj kk p e s m args below meth c9 A H locs cells slots ls hR hS hl9 h19 h29
theorem kT_lastN {a j : Nat} {x : Int64} (hdg : decode cc pc = .ok (.lastore, 1)) (ht : tg M a = 102) (hj : j < ln M a) (kk : kT l g nm cc mL rt hh d K N QR QX (pc + 1) lv rest (sal M a j x) kc nc) : kT l g nm cc mL rt hh d K N QR QX pc lv (.long x :: .int (nI j) :: .ref a :: rest) M kc nc := by
  intro p e s m args below meth c9 A H locs cells slots ls hR hS hl9 h19 h29
  obtain ⟨-, -, -, hlen⟩ := hR.arr (t := 1) ht (by decide)
  exact kT_last hdg ht (nI_toInt (by omega)) hj kk p e s m args below meth c9 A H locs cells slots ls hR hS hl9 h19 h29
theorem kT_bastN {a j : Nat} {x : Int32} (hdg : decode cc pc = .ok (.bastore, 1)) (ht : tg M a = 103) (hj : j < ln M a) (kk : kT l g nm cc mL rt hh d K N QR QX (pc + 1) lv rest (sai M a j (x.toInt8.toInt32)) kc nc) : kT l g nm cc mL rt hh d K N QR QX pc lv (.int x :: .int (nI j) :: .ref a :: rest) M kc nc := by
  intro p e s m args below meth c9 A H locs cells slots ls hR hS hl9 h19 h29
  obtain ⟨-, -, -, hlen⟩ := hR.arr (t := 2) ht (by decide)
  exact kT_bast hdg ht (nI_toInt (by omega)) hj kk p e s m args below meth c9 A H locs cells slots ls hR hS hl9 h19 h29
theorem kT_zastN {a j : Nat} {x : Int32} (hdg : decode cc pc = .ok (.bastore, 1)) (ht : tg M a = 104) (hj : j < ln M a) (h01 : x = 0 ∨ x = 1) (kk : kT l g nm cc mL rt hh d K N QR QX (pc + 1) lv rest (sai M a j x) kc nc) : kT l g nm cc mL rt hh d K N QR QX pc lv (.int x :: .int (nI j) :: .ref a :: rest) M kc nc := by
  intro p e s m args below meth c9 A H locs cells slots ls hR hS hl9 h19 h29
  obtain ⟨-, -, -, hlen⟩ := hR.arr (t := 3) ht (by decide)
  exact kT_zast hdg ht (nI_toInt (by omega)) hj h01 kk p e s m args below meth c9 A H locs cells slots ls hR hS hl9 h19 h29
theorem kT_aaldN {a j t : Nat} {v : Value} (hdg : decode cc pc = .ok (.aaload, 1)) (ht : tg M a = 101 + t) (ht4 : 4 ≤ t) (ht9 : t < 9) (hj : j < ln M a) (hv : va_rf (ar M a j) = v) (kk : kT l g nm cc mL rt hh d K N QR QX (pc + 1) lv (v :: rest) M kc nc) : kT l g nm cc mL rt hh d K N QR QX pc lv (.int (nI j) :: .ref a :: rest) M kc nc := by
  intro p e s m args below meth c9 A H locs cells slots ls hR hS hl9 h19 h29
  obtain ⟨-, -, -, hlen⟩ := hR.arr ht ht9
  exact kT_aald hdg ht ht4 ht9 (nI_toInt (by omega)) hj hv kk p e s m args below meth c9 A H locs cells slots ls hR hS hl9 h19 h29
theorem kT_aastoreN {a b j t : Nat} (hdg : decode cc pc = .ok (.aastore, 1)) (ht : tg M a = 101 + t) (ht4 : 4 ≤ t) (ht8 : t < 8) (hb0 : tg M b = kEl t + 1) (hj : j < ln M a) (kk : kT l g nm cc mL rt hh d K N QR QX (pc + 1) lv rest (sar M a j (some b)) kc nc) : kT l g nm cc mL rt hh d K N QR QX pc lv (.ref b :: .int (nI j) :: .ref a :: rest) M kc nc := by
  intro p e s m args below meth c9 A H locs cells slots ls hR hS hl9 h19 h29
  obtain ⟨-, -, -, hlen⟩ := hR.arr ht (by omega)
  exact kT_aast hdg ht ht4 ht8 hb0 (nI_toInt (by omega)) hj kk p e s m args below meth c9 A H locs cells slots ls hR hS hl9 h19 h29
theorem kT_aastoreNN {a j t : Nat} (hdg : decode cc pc = .ok (.aastore, 1)) (ht : tg M a = 101 + t) (ht4 : 4 ≤ t) (ht8 : t < 8) (hj : j < ln M a) (kk : kT l g nm cc mL rt hh d K N QR QX (pc + 1) lv rest (sar M a j none) kc nc) : kT l g nm cc mL rt hh d K N QR QX pc lv (.null :: .int (nI j) :: .ref a :: rest) M kc nc := by
  intro p e s m args below meth c9 A H locs cells slots ls hR hS hl9 h19 h29
  obtain ⟨-, -, -, hlen⟩ := hR.arr ht (by omega)
  exact kT_aastN hdg ht ht4 ht8 (nI_toInt (by omega)) hj kk p e s m args below meth c9 A H locs cells slots ls hR hS hl9 h19 h29
end KN

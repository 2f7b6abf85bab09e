/-! rows of the judgement kT: each follows from the row of the kit of the same name; the heap is left alone -/
section KR
variable {l : Launch} {g : kG} {nm : MethodName} {cc : ByteArray} {mL : Nat} {rt : Option FieldType} {hh : List (Nat × Nat × Nat × Nat)} {d K N : Nat} {QR : Option Value → kM → Prop} {QX : String → kM → Prop} {pc : Nat} {lv : List (Nat × Value)} {rest : List Value} {M : kM} {kc nc : Nat}
theorem kT_iconst {n : Int} {v : Int32} (hdg : decode cc pc = .ok (.iconst n, 1)) (hv : Int32.ofInt n = v) (k : kT l g nm cc mL rt hh d K N QR QX (pc + 1) lv (.int v :: rest) M kc nc) : kT l g nm cc mL rt hh d K N QR QX pc lv (rest) M kc nc := by
  intro p e s m args below meth c A H locs cells slots ls hR hS hl9 h19 h29
  exact lv_iconst A.1 A.2.1 hdg hv (k p e s m args below meth c A H locs cells slots ls hR hS hl9 h19 h29)
theorem kT_bipush {n : Int} {v : Int32} (hdg : decode cc pc = .ok (.bipush n, 2)) (hv : (Int8.ofInt n).toInt32 = v) (k : kT l g nm cc mL rt hh d K N QR QX (pc + 2) lv (.int v :: rest) M kc nc) : kT l g nm cc mL rt hh d K N QR QX pc lv (rest) M kc nc := by
  intro p e s m args below meth c A H locs cells slots ls hR hS hl9 h19 h29
  exact lv_bipush A.1 A.2.1 hdg hv (k p e s m args below meth c A H locs cells slots ls hR hS hl9 h19 h29)
theorem kT_sipush {n : Int} {v : Int32} (hdg : decode cc pc = .ok (.sipush n, 3)) (hv : (Int16.ofInt n).toInt32 = v) (k : kT l g nm cc mL rt hh d K N QR QX (pc + 3) lv (.int v :: rest) M kc nc) : kT l g nm cc mL rt hh d K N QR QX pc lv (rest) M kc nc := by
  intro p e s m args below meth c A H locs cells slots ls hR hS hl9 h19 h29
  exact lv_sipush A.1 A.2.1 hdg hv (k p e s m args below meth c A H locs cells slots ls hR hS hl9 h19 h29)
theorem kT_lconst {n : Fin 2} {v : Int64} (hdg : decode cc pc = .ok (.lconst n, 1)) (hv : Int64.ofNat (n : Nat) = v) (k : kT l g nm cc mL rt hh d K N QR QX (pc + 1) lv (.long v :: rest) M kc nc) : kT l g nm cc mL rt hh d K N QR QX pc lv (rest) M kc nc := by
  intro p e s m args below meth c A H locs cells slots ls hR hS hl9 h19 h29
  exact lv_lconst A.1 A.2.1 hdg hv (k p e s m args below meth c A H locs cells slots ls hR hS hl9 h19 h29)
theorem kT_iadd {x y : Int32} (hdg : decode cc pc = .ok (.iadd, 1)) (k : kT l g nm cc mL rt hh d K N QR QX (pc + 1) lv (.int (x + y) :: rest) M kc nc) : kT l g nm cc mL rt hh d K N QR QX pc lv (.int y :: .int x :: rest) M kc nc := by
  intro p e s m args below meth c A H locs cells slots ls hR hS hl9 h19 h29
  exact lv_iadd A.1 A.2.1 hdg (k p e s m args below meth c A H locs cells slots ls hR hS hl9 h19 h29)
theorem kT_isub {x y : Int32} (hdg : decode cc pc = .ok (.isub, 1)) (k : kT l g nm cc mL rt hh d K N QR QX (pc + 1) lv (.int (x - y) :: rest) M kc nc) : kT l g nm cc mL rt hh d K N QR QX pc lv (.int y :: .int x :: rest) M kc nc := by
  intro p e s m args below meth c A H locs cells slots ls hR hS hl9 h19 h29
  exact lv_isub A.1 A.2.1 hdg (k p e s m args below meth c A H locs cells slots ls hR hS hl9 h19 h29)
theorem kT_imul {x y : Int32} (hdg : decode cc pc = .ok (.imul, 1)) (k : kT l g nm cc mL rt hh d K N QR QX (pc + 1) lv (.int (x * y) :: rest) M kc nc) : kT l g nm cc mL rt hh d K N QR QX pc lv (.int y :: .int x :: rest) M kc nc := by
  intro p e s m args below meth c A H locs cells slots ls hR hS hl9 h19 h29
  exact lv_imul A.1 A.2.1 hdg (k p e s m args below meth c A H locs cells slots ls hR hS hl9 h19 h29)
theorem kT_iand {x y : Int32} (hdg : decode cc pc = .ok (.iand, 1)) (k : kT l g nm cc mL rt hh d K N QR QX (pc + 1) lv (.int (x &&& y) :: rest) M kc nc) : kT l g nm cc mL rt hh d K N QR QX pc lv (.int y :: .int x :: rest) M kc nc := by
  intro p e s m args below meth c A H locs cells slots ls hR hS hl9 h19 h29
  exact lv_iand A.1 A.2.1 hdg (k p e s m args below meth c A H locs cells slots ls hR hS hl9 h19 h29)
theorem kT_ior {x y : Int32} (hdg : decode cc pc = .ok (.ior, 1)) (k : kT l g nm cc mL rt hh d K N QR QX (pc + 1) lv (.int (x ||| y) :: rest) M kc nc) : kT l g nm cc mL rt hh d K N QR QX pc lv (.int y :: .int x :: rest) M kc nc := by
  intro p e s m args below meth c A H locs cells slots ls hR hS hl9 h19 h29
  exact lv_ior A.1 A.2.1 hdg (k p e s m args below meth c A H locs cells slots ls hR hS hl9 h19 h29)
theorem kT_ixor {x y : Int32} (hdg : decode cc pc = .ok (.ixor, 1)) (k : kT l g nm cc mL rt hh d K N QR QX (pc + 1) lv (.int (x ^^^ y) :: rest) M kc nc) : kT l g nm cc mL rt hh d K N QR QX pc lv (.int y :: .int x :: rest) M kc nc := by
  intro p e s m args below meth c A H locs cells slots ls hR hS hl9 h19 h29
  exact lv_ixor A.1 A.2.1 hdg (k p e s m args below meth c A H locs cells slots ls hR hS hl9 h19 h29)
theorem kT_idiv {x y : Int32} (hdg : decode cc pc = .ok (.idiv, 1)) (hne : ¬ y = 0) (k : kT l g nm cc mL rt hh d K N QR QX (pc + 1) lv (.int (x / y) :: rest) M kc nc) : kT l g nm cc mL rt hh d K N QR QX pc lv (.int y :: .int x :: rest) M kc nc := by
  intro p e s m args below meth c A H locs cells slots ls hR hS hl9 h19 h29
  exact lv_idiv A.1 A.2.1 hdg hne (k p e s m args below meth c A H locs cells slots ls hR hS hl9 h19 h29)
theorem kT_irem {x y : Int32} (hdg : decode cc pc = .ok (.irem, 1)) (hne : ¬ y = 0) (k : kT l g nm cc mL rt hh d K N QR QX (pc + 1) lv (.int (x - x / y * y) :: rest) M kc nc) : kT l g nm cc mL rt hh d K N QR QX pc lv (.int y :: .int x :: rest) M kc nc := by
  intro p e s m args below meth c A H locs cells slots ls hR hS hl9 h19 h29
  exact lv_irem A.1 A.2.1 hdg hne (k p e s m args below meth c A H locs cells slots ls hR hS hl9 h19 h29)
theorem kT_land {x y : Int64} (hdg : decode cc pc = .ok (.land, 1)) (k : kT l g nm cc mL rt hh d K N QR QX (pc + 1) lv (.long (x &&& y) :: rest) M kc nc) : kT l g nm cc mL rt hh d K N QR QX pc lv (.long y :: .long x :: rest) M kc nc := by
  intro p e s m args below meth c A H locs cells slots ls hR hS hl9 h19 h29
  exact lv_land A.1 A.2.1 hdg (k p e s m args below meth c A H locs cells slots ls hR hS hl9 h19 h29)
theorem kT_lor {x y : Int64} (hdg : decode cc pc = .ok (.lor, 1)) (k : kT l g nm cc mL rt hh d K N QR QX (pc + 1) lv (.long (x ||| y) :: rest) M kc nc) : kT l g nm cc mL rt hh d K N QR QX pc lv (.long y :: .long x :: rest) M kc nc := by
  intro p e s m args below meth c A H locs cells slots ls hR hS hl9 h19 h29
  exact lv_lor A.1 A.2.1 hdg (k p e s m args below meth c A H locs cells slots ls hR hS hl9 h19 h29)
theorem kT_ishl {x y : Int32} (hdg : decode cc pc = .ok (.ishl, 1)) (k : kT l g nm cc mL rt hh d K N QR QX (pc + 1) lv (.int (x <<< (y &&& 31)) :: rest) M kc nc) : kT l g nm cc mL rt hh d K N QR QX pc lv (.int y :: .int x :: rest) M kc nc := by
  intro p e s m args below meth c A H locs cells slots ls hR hS hl9 h19 h29
  exact lv_ishl A.1 A.2.1 hdg (k p e s m args below meth c A H locs cells slots ls hR hS hl9 h19 h29)
theorem kT_ishr {x y : Int32} (hdg : decode cc pc = .ok (.ishr, 1)) (k : kT l g nm cc mL rt hh d K N QR QX (pc + 1) lv (.int (x >>> (y &&& 31)) :: rest) M kc nc) : kT l g nm cc mL rt hh d K N QR QX pc lv (.int y :: .int x :: rest) M kc nc := by
  intro p e s m args below meth c A H locs cells slots ls hR hS hl9 h19 h29
  exact lv_ishr A.1 A.2.1 hdg (k p e s m args below meth c A H locs cells slots ls hR hS hl9 h19 h29)
theorem kT_i2l {x : Int32} {v : Int64} (hdg : decode cc pc = .ok (.i2l, 1)) (hv : x.toInt64 = v) (k : kT l g nm cc mL rt hh d K N QR QX (pc + 1) lv (.long v :: rest) M kc nc) : kT l g nm cc mL rt hh d K N QR QX pc lv (.int x :: rest) M kc nc := by
  intro p e s m args below meth c A H locs cells slots ls hR hS hl9 h19 h29
  exact lv_i2l A.1 A.2.1 hdg hv (k p e s m args below meth c A H locs cells slots ls hR hS hl9 h19 h29)
theorem kT_l2i {x : Int64} {v : Int32} (hdg : decode cc pc = .ok (.l2i, 1)) (hv : x.toInt32 = v) (k : kT l g nm cc mL rt hh d K N QR QX (pc + 1) lv (.int v :: rest) M kc nc) : kT l g nm cc mL rt hh d K N QR QX pc lv (.long x :: rest) M kc nc := by
  intro p e s m args below meth c A H locs cells slots ls hR hS hl9 h19 h29
  exact lv_l2i A.1 A.2.1 hdg hv (k p e s m args below meth c A H locs cells slots ls hR hS hl9 h19 h29)
theorem kT_i2b {x : Int32} {v : Int32} (hdg : decode cc pc = .ok (.i2b, 1)) (hv : x.toInt8.toInt32 = v) (k : kT l g nm cc mL rt hh d K N QR QX (pc + 1) lv (.int v :: rest) M kc nc) : kT l g nm cc mL rt hh d K N QR QX pc lv (.int x :: rest) M kc nc := by
  intro p e s m args below meth c A H locs cells slots ls hR hS hl9 h19 h29
  exact lv_i2b A.1 A.2.1 hdg hv (k p e s m args below meth c A H locs cells slots ls hR hS hl9 h19 h29)
theorem kT_lushr {x v : Int64} {y : Int32} (hdg : decode cc pc = .ok (.lushr, 1)) (hv : (x.toUInt64 >>> (y.toInt64.toUInt64 &&& Int64.toUInt64 63)).toInt64 = v) (k : kT l g nm cc mL rt hh d K N QR QX (pc + 1) lv (.long v :: rest) M kc nc) : kT l g nm cc mL rt hh d K N QR QX pc lv (.int y :: .long x :: rest) M kc nc := by
  intro p e s m args below meth c A H locs cells slots ls hR hS hl9 h19 h29
  exact lv_lushr A.1 A.2.1 hdg hv (k p e s m args below meth c A H locs cells slots ls hR hS hl9 h19 h29)
theorem kT_lshl {x v : Int64} {y : Int32} (hdg : decode cc pc = .ok (.lshl, 1)) (hv : x <<< (y.toInt64 &&& 63) = v) (k : kT l g nm cc mL rt hh d K N QR QX (pc + 1) lv (.long v :: rest) M kc nc) : kT l g nm cc mL rt hh d K N QR QX pc lv (.int y :: .long x :: rest) M kc nc := by
  intro p e s m args below meth c A H locs cells slots ls hR hS hl9 h19 h29
  exact lv_lshl A.1 A.2.1 hdg hv (k p e s m args below meth c A H locs cells slots ls hR hS hl9 h19 h29)
theorem kT_lshr {x v : Int64} {y : Int32} (hdg : decode cc pc = .ok (.lshr, 1)) (hv : x >>> (y.toInt64 &&& 63) = v) (k : kT l g nm cc mL rt hh d K N QR QX (pc + 1) lv (.long v :: rest) M kc nc) : kT l g nm cc mL rt hh d K N QR QX pc lv (.int y :: .long x :: rest) M kc nc := by
  intro p e s m args below meth c A H locs cells slots ls hR hS hl9 h19 h29
  exact lv_lshr A.1 A.2.1 hdg hv (k p e s m args below meth c A H locs cells slots ls hR hS hl9 h19 h29)
theorem kT_dup {va : Value} (hdg : decode cc pc = .ok (.dup, 1)) (hva : va.category = 1) (k : kT l g nm cc mL rt hh d K N QR QX (pc + 1) lv (va :: va :: rest) M kc nc) : kT l g nm cc mL rt hh d K N QR QX pc lv (va :: rest) M kc nc := by
  intro p e s m args below meth c A H locs cells slots ls hR hS hl9 h19 h29
  exact lv_dup A.1 A.2.1 hdg hva (k p e s m args below meth c A H locs cells slots ls hR hS hl9 h19 h29)
theorem kT_pop {va : Value} (hdg : decode cc pc = .ok (.pop, 1)) (hva : va.category = 1) (k : kT l g nm cc mL rt hh d K N QR QX (pc + 1) lv (rest) M kc nc) : kT l g nm cc mL rt hh d K N QR QX pc lv (va :: rest) M kc nc := by
  intro p e s m args below meth c A H locs cells slots ls hR hS hl9 h19 h29
  exact lv_pop A.1 A.2.1 hdg hva (k p e s m args below meth c A H locs cells slots ls hR hS hl9 h19 h29)
theorem kT_dup2_11 {va vb : Value} (hdg : decode cc pc = .ok (.dup2, 1)) (hva : va.category = 1) (hvb : vb.category = 1) (k : kT l g nm cc mL rt hh d K N QR QX (pc + 1) lv (va :: vb :: va :: vb :: rest) M kc nc) : kT l g nm cc mL rt hh d K N QR QX pc lv (va :: vb :: rest) M kc nc := by
  intro p e s m args below meth c A H locs cells slots ls hR hS hl9 h19 h29
  exact lv_dup2_11 A.1 A.2.1 hdg hva hvb (k p e s m args below meth c A H locs cells slots ls hR hS hl9 h19 h29)
theorem kT_if_eq {x : Int32} {off : Int} {tgt : Nat} (hdg : decode cc pc = .ok (.ifCond .eq off, 3)) (ht : (pc : Int) + off = (tgt : Int)) (kt : x = 0 → kT l g nm cc mL rt hh d K N QR QX tgt lv rest M kc nc) (kf : ¬ x = 0 → kT l g nm cc mL rt hh d K N QR QX (pc + 3) lv rest M kc nc) : kT l g nm cc mL rt hh d K N QR QX pc lv (.int x :: rest) M kc nc := by
  intro p e s m args below meth c A H locs cells slots ls hR hS hl9 h19 h29
  exact lv_if_eq A.1 A.2.1 hdg ht (fun q9 => kt q9 p e s m args below meth c A H locs cells slots ls hR hS hl9 h19 h29) (fun q9 => kf q9 p e s m args below meth c A H locs cells slots ls hR hS hl9 h19 h29)
theorem kT_icmp_eq {x y : Int32} {off : Int} {tgt : Nat} (hdg : decode cc pc = .ok (.if_icmp .eq off, 3)) (ht : (pc : Int) + off = (tgt : Int)) (kt : x = y → kT l g nm cc mL rt hh d K N QR QX tgt lv rest M kc nc) (kf : ¬ x = y → kT l g nm cc mL rt hh d K N QR QX (pc + 3) lv rest M kc nc) : kT l g nm cc mL rt hh d K N QR QX pc lv (.int y :: .int x :: rest) M kc nc := by
  intro p e s m args below meth c A H locs cells slots ls hR hS hl9 h19 h29
  exact lv_icmp_eq A.1 A.2.1 hdg ht (fun q9 => kt q9 p e s m args below meth c A H locs cells slots ls hR hS hl9 h19 h29) (fun q9 => kf q9 p e s m args below meth c A H locs cells slots ls hR hS hl9 h19 h29)
theorem kT_if_ne {x : Int32} {off : Int} {tgt : Nat} (hdg : decode cc pc = .ok (.ifCond .ne off, 3)) (ht : (pc : Int) + off = (tgt : Int)) (kt : ¬ x = 0 → kT l g nm cc mL rt hh d K N QR QX tgt lv rest M kc nc) (kf : x = 0 → kT l g nm cc mL rt hh d K N QR QX (pc + 3) lv rest M kc nc) : kT l g nm cc mL rt hh d K N QR QX pc lv (.int x :: rest) M kc nc := by
  intro p e s m args below meth c A H locs cells slots ls hR hS hl9 h19 h29
  exact lv_if_ne A.1 A.2.1 hdg ht (fun q9 => kt q9 p e s m args below meth c A H locs cells slots ls hR hS hl9 h19 h29) (fun q9 => kf q9 p e s m args below meth c A H locs cells slots ls hR hS hl9 h19 h29)
theorem kT_icmp_ne {x y : Int32} {off : Int} {tgt : Nat} (hdg : decode cc pc = .ok (.if_icmp .ne off, 3)) (ht : (pc : Int) + off = (tgt : Int)) (kt : ¬ x = y → kT l g nm cc mL rt hh d K N QR QX tgt lv rest M kc nc) (kf : x = y → kT l g nm cc mL rt hh d K N QR QX (pc + 3) lv rest M kc nc) : kT l g nm cc mL rt hh d K N QR QX pc lv (.int y :: .int x :: rest) M kc nc := by
  intro p e s m args below meth c A H locs cells slots ls hR hS hl9 h19 h29
  exact lv_icmp_ne A.1 A.2.1 hdg ht (fun q9 => kt q9 p e s m args below meth c A H locs cells slots ls hR hS hl9 h19 h29) (fun q9 => kf q9 p e s m args below meth c A H locs cells slots ls hR hS hl9 h19 h29)
theorem kT_if_lt {x : Int32} {off : Int} {tgt : Nat} (hdg : decode cc pc = .ok (.ifCond .lt off, 3)) (ht : (pc : Int) + off = (tgt : Int)) (kt : x < 0 → kT l g nm cc mL rt hh d K N QR QX tgt lv rest M kc nc) (kf : ¬ x < 0 → kT l g nm cc mL rt hh d K N QR QX (pc + 3) lv rest M kc nc) : kT l g nm cc mL rt hh d K N QR QX pc lv (.int x :: rest) M kc nc := by
  intro p e s m args below meth c A H locs cells slots ls hR hS hl9 h19 h29
  exact lv_if_lt A.1 A.2.1 hdg ht (fun q9 => kt q9 p e s m args below meth c A H locs cells slots ls hR hS hl9 h19 h29) (fun q9 => kf q9 p e s m args below meth c A H locs cells slots ls hR hS hl9 h19 h29)
theorem kT_icmp_lt {x y : Int32} {off : Int} {tgt : Nat} (hdg : decode cc pc = .ok (.if_icmp .lt off, 3)) (ht : (pc : Int) + off = (tgt : Int)) (kt : x < y → kT l g nm cc mL rt hh d K N QR QX tgt lv rest M kc nc) (kf : ¬ x < y → kT l g nm cc mL rt hh d K N QR QX (pc + 3) lv rest M kc nc) : kT l g nm cc mL rt hh d K N QR QX pc lv (.int y :: .int x :: rest) M kc nc := by
  intro p e s m args below meth c A H locs cells slots ls hR hS hl9 h19 h29
  exact lv_icmp_lt A.1 A.2.1 hdg ht (fun q9 => kt q9 p e s m args below meth c A H locs cells slots ls hR hS hl9 h19 h29) (fun q9 => kf q9 p e s m args below meth c A H locs cells slots ls hR hS hl9 h19 h29)
theorem kT_if_ge {x : Int32} {off : Int} {tgt : Nat} (hdg : decode cc pc = .ok (.ifCond .ge off, 3)) (ht : (pc : Int) + off = (tgt : Int)) (kt : 0 ≤ x → kT l g nm cc mL rt hh d K N QR QX tgt lv rest M kc nc) (kf : ¬ 0 ≤ x → kT l g nm cc mL rt hh d K N QR QX (pc + 3) lv rest M kc nc) : kT l g nm cc mL rt hh d K N QR QX pc lv (.int x :: rest) M kc nc := by
  intro p e s m args below meth c A H locs cells slots ls hR hS hl9 h19 h29
  exact lv_if_ge A.1 A.2.1 hdg ht (fun q9 => kt q9 p e s m args below meth c A H locs cells slots ls hR hS hl9 h19 h29) (fun q9 => kf q9 p e s m args below meth c A H locs cells slots ls hR hS hl9 h19 h29)
theorem kT_icmp_ge {x y : Int32} {off : Int} {tgt : Nat} (hdg : decode cc pc = .ok (.if_icmp .ge off, 3)) (ht : (pc : Int) + off = (tgt : Int)) (kt : y ≤ x → kT l g nm cc mL rt hh d K N QR QX tgt lv rest M kc nc) (kf : ¬ y ≤ x → kT l g nm cc mL rt hh d K N QR QX (pc + 3) lv rest M kc nc) : kT l g nm cc mL rt hh d K N QR QX pc lv (.int y :: .int x :: rest) M kc nc := by
  intro p e s m args below meth c A H locs cells slots ls hR hS hl9 h19 h29
  exact lv_icmp_ge A.1 A.2.1 hdg ht (fun q9 => kt q9 p e s m args below meth c A H locs cells slots ls hR hS hl9 h19 h29) (fun q9 => kf q9 p e s m args below meth c A H locs cells slots ls hR hS hl9 h19 h29)
theorem kT_if_gt {x : Int32} {off : Int} {tgt : Nat} (hdg : decode cc pc = .ok (.ifCond .gt off, 3)) (ht : (pc : Int) + off = (tgt : Int)) (kt : 0 < x → kT l g nm cc mL rt hh d K N QR QX tgt lv rest M kc nc) (kf : ¬ 0 < x → kT l g nm cc mL rt hh d K N QR QX (pc + 3) lv rest M kc nc) : kT l g nm cc mL rt hh d K N QR QX pc lv (.int x :: rest) M kc nc := by
  intro p e s m args below meth c A H locs cells slots ls hR hS hl9 h19 h29
  exact lv_if_gt A.1 A.2.1 hdg ht (fun q9 => kt q9 p e s m args below meth c A H locs cells slots ls hR hS hl9 h19 h29) (fun q9 => kf q9 p e s m args below meth c A H locs cells slots ls hR hS hl9 h19 h29)
theorem kT_icmp_gt {x y : Int32} {off : Int} {tgt : Nat} (hdg : decode cc pc = .ok (.if_icmp .gt off, 3)) (ht : (pc : Int) + off = (tgt : Int)) (kt : y < x → kT l g nm cc mL rt hh d K N QR QX tgt lv rest M kc nc) (kf : ¬ y < x → kT l g nm cc mL rt hh d K N QR QX (pc + 3) lv rest M kc nc) : kT l g nm cc mL rt hh d K N QR QX pc lv (.int y :: .int x :: rest) M kc nc := by
  intro p e s m args below meth c A H locs cells slots ls hR hS hl9 h19 h29
  exact lv_icmp_gt A.1 A.2.1 hdg ht (fun q9 => kt q9 p e s m args below meth c A H locs cells slots ls hR hS hl9 h19 h29) (fun q9 => kf q9 p e s m args below meth c A H locs cells slots ls hR hS hl9 h19 h29)
theorem kT_if_le {x : Int32} {off : Int} {tgt : Nat} (hdg : decode cc pc = .ok (.ifCond .le off, 3)) (ht : (pc : Int) + off = (tgt : Int)) (kt : x ≤ 0 → kT l g nm cc mL rt hh d K N QR QX tgt lv rest M kc nc) (kf : ¬ x ≤ 0 → kT l g nm cc mL rt hh d K N QR QX (pc + 3) lv rest M kc nc) : kT l g nm cc mL rt hh d K N QR QX pc lv (.int x :: rest) M kc nc := by
  intro p e s m args below meth c A H locs cells slots ls hR hS hl9 h19 h29
  exact lv_if_le A.1 A.2.1 hdg ht (fun q9 => kt q9 p e s m args below meth c A H locs cells slots ls hR hS hl9 h19 h29) (fun q9 => kf q9 p e s m args below meth c A H locs cells slots ls hR hS hl9 h19 h29)
theorem kT_icmp_le {x y : Int32} {off : Int} {tgt : Nat} (hdg : decode cc pc = .ok (.if_icmp .le off, 3)) (ht : (pc : Int) + off = (tgt : Int)) (kt : x ≤ y → kT l g nm cc mL rt hh d K N QR QX tgt lv rest M kc nc) (kf : ¬ x ≤ y → kT l g nm cc mL rt hh d K N QR QX (pc + 3) lv rest M kc nc) : kT l g nm cc mL rt hh d K N QR QX pc lv (.int y :: .int x :: rest) M kc nc := by
  intro p e s m args below meth c A H locs cells slots ls hR hS hl9 h19 h29
  exact lv_icmp_le A.1 A.2.1 hdg ht (fun q9 => kt q9 p e s m args below meth c A H locs cells slots ls hR hS hl9 h19 h29) (fun q9 => kf q9 p e s m args below meth c A H locs cells slots ls hR hS hl9 h19 h29)
theorem kT_goto {off : Int} {tgt : Nat} (hdg : decode cc pc = .ok (.goto off, 3)) (ht : (pc : Int) + off = (tgt : Int)) (k : kT l g nm cc mL rt hh d K N QR QX tgt lv rest M kc nc) : kT l g nm cc mL rt hh d K N QR QX pc lv rest M kc nc := by
  intro p e s m args below meth c A H locs cells slots ls hR hS hl9 h19 h29
  exact lv_goto A.1 A.2.1 hdg ht (k p e s m args below meth c A H locs cells slots ls hR hS hl9 h19 h29)
theorem kT_tableOut {dflt lo hi : Int} {offs : Array Int} {len : Nat} {x : Int32} {tgt : Nat} (hdg : decode cc pc = .ok (.tableswitch dflt lo hi offs, len)) (h : x.toInt < lo ∨ hi < x.toInt) (ht : (pc : Int) + dflt = (tgt : Int)) (k : kT l g nm cc mL rt hh d K N QR QX tgt lv rest M kc nc) : kT l g nm cc mL rt hh d K N QR QX pc lv (.int x :: rest) M kc nc := by
  intro p e s m args below meth c A H locs cells slots ls hR hS hl9 h19 h29
  exact lv_tableOut A.1 A.2.1 hdg h ht (k p e s m args below meth c A H locs cells slots ls hR hS hl9 h19 h29)
theorem kT_tableIn {dflt lo hi : Int} {offs : Array Int} {len : Nat} {x : Int32} {off : Int} {tgt : Nat} (hdg : decode cc pc = .ok (.tableswitch dflt lo hi offs, len)) (h1 : ¬ x.toInt < lo) (h2 : ¬ hi < x.toInt) (ho : offs[(x.toInt - lo).toNat]? = some off) (ht : (pc : Int) + off = (tgt : Int)) (k : kT l g nm cc mL rt hh d K N QR QX tgt lv rest M kc nc) : kT l g nm cc mL rt hh d K N QR QX pc lv (.int x :: rest) M kc nc := by
  intro p e s m args below meth c A H locs cells slots ls hR hS hl9 h19 h29
  exact lv_tableIn A.1 A.2.1 hdg h1 h2 ho ht (k p e s m args below meth c A H locs cells slots ls hR hS hl9 h19 h29)
theorem kT_ifnonnull {x : Nat} {off : Int} {tgt : Nat} (hdg : decode cc pc = .ok (.ifnonnull off, 3)) (ht : (pc : Int) + off = (tgt : Int)) (k : kT l g nm cc mL rt hh d K N QR QX tgt lv rest M kc nc) : kT l g nm cc mL rt hh d K N QR QX pc lv (.ref x :: rest) M kc nc := by
  intro p e s m args below meth c A H locs cells slots ls hR hS hl9 h19 h29
  exact lv_ifnonnull A.1 A.2.1 hdg ht (k p e s m args below meth c A H locs cells slots ls hR hS hl9 h19 h29)
theorem kT_ifnull {x : Nat} {off : Int} (hdg : decode cc pc = .ok (.ifnull off, 3)) (k : kT l g nm cc mL rt hh d K N QR QX (pc + 3) lv rest M kc nc) : kT l g nm cc mL rt hh d K N QR QX pc lv (.ref x :: rest) M kc nc := by
  intro p e s m args below meth c A H locs cells slots ls hR hS hl9 h19 h29
  exact lv_ifnull A.1 A.2.1 hdg (k p e s m args below meth c A H locs cells slots ls hR hS hl9 h19 h29)
theorem kT_null (hdg : decode cc pc = .ok (.aconst_null, 1)) (k : kT l g nm cc mL rt hh d K N QR QX (pc + 1) lv (.null :: rest) M kc nc) : kT l g nm cc mL rt hh d K N QR QX pc lv rest M kc nc := by
  intro p e s m args below meth c A H locs cells slots ls hR hS hl9 h19 h29
  exact lv_null A.1 A.2.1 hdg (k p e s m args below meth c A H locs cells slots ls hR hS hl9 h19 h29)
theorem kT_ifnullN {off : Int} {tgt : Nat} (hdg : decode cc pc = .ok (.ifnull off, 3)) (ht : (pc : Int) + off = (tgt : Int)) (k : kT l g nm cc mL rt hh d K N QR QX tgt lv rest M kc nc) : kT l g nm cc mL rt hh d K N QR QX pc lv (.null :: rest) M kc nc := by
  intro p e s m args below meth c A H locs cells slots ls hR hS hl9 h19 h29
  exact lv_ifnullN A.1 A.2.1 hdg ht (k p e s m args below meth c A H locs cells slots ls hR hS hl9 h19 h29)
theorem kT_ifnonnullN {off : Int} (hdg : decode cc pc = .ok (.ifnonnull off, 3)) (k : kT l g nm cc mL rt hh d K N QR QX (pc + 3) lv rest M kc nc) : kT l g nm cc mL rt hh d K N QR QX pc lv (.null :: rest) M kc nc := by
  intro p e s m args below meth c A H locs cells slots ls hR hS hl9 h19 h29
  exact lv_ifnonnullN A.1 A.2.1 hdg (k p e s m args below meth c A H locs cells slots ls hR hS hl9 h19 h29)
theorem kT_lcmp {x y : Int64} (hdg : decode cc pc = .ok (.lcmp, 1)) (k : kT l g nm cc mL rt hh d K N QR QX (pc + 1) lv (.int (lg_cmp x y) :: rest) M kc nc) : kT l g nm cc mL rt hh d K N QR QX pc lv (.long y :: .long x :: rest) M kc nc := by
  intro p e s m args below meth c A H locs cells slots ls hR hS hl9 h19 h29
  exact W.lcmp A.1 A.2.1 hdg (k p e s m args below meth c A H locs cells slots ls hR hS hl9 h19 h29)
theorem kT_ldc {index : Nat} {v : Int32} (hdg : decode cc pc = .ok (.ldc index, 2)) (hw : Cond.constant nm.cls index v ∈ kTb) (kk : kT l g nm cc mL rt hh d K N QR QX (pc + 2) lv (.int v :: rest) M kc nc) : kT l g nm cc mL rt hh d K N QR QX pc lv rest M kc nc := by
  intro p e s m args below meth c A H locs cells slots ls hR hS hl9 h19 h29
  exact lv_ldc A.1 A.2.1 A.2.2.2.2.2.1 (A.2.2.2.2.2.2.1 _ hw) hdg (kk p e s m args below meth c A H locs cells slots ls hR hS hl9 h19 h29)
theorem kT_ldc2 {index : Nat} {v : Int64} (hdg : decode cc pc = .ok (.ldc2_w index, 3)) (hw : Cond.constantLong nm.cls index v ∈ kTb) (kk : kT l g nm cc mL rt hh d K N QR QX (pc + 3) lv (.long v :: rest) M kc nc) : kT l g nm cc mL rt hh d K N QR QX pc lv rest M kc nc := by
  intro p e s m args below meth c A H locs cells slots ls hR hS hl9 h19 h29
  exact lv_ldc2 A.1 A.2.1 A.2.2.2.2.2.1 (A.2.2.2.2.2.2.1 _ hw) hdg (kk p e s m args below meth c A H locs cells slots ls hR hS hl9 h19 h29)
theorem kT_iload_n {k0 : Fin 4} {x : Int32} (hdg : decode cc pc = .ok (.iload_n k0, 1)) (hg : kGet lv (k0 : Nat) = some (.int x)) (kk : kT l g nm cc mL rt hh d K N QR QX (pc + 1) lv (.int x :: rest) M kc nc) : kT l g nm cc mL rt hh d K N QR QX pc lv rest M kc nc := by
  intro p e s m args below meth c A H locs cells slots ls hR hS hl9 h19 h29
  exact lv_iload_n A.1 A.2.1 hdg rfl (kGet_at hl9 hg) (kk p e s m args below meth c A H locs cells slots ls hR hS hl9 h19 h29)
theorem kT_iload {i0 : Nat} {x : Int32} (hdg : decode cc pc = .ok (.iload i0, 2)) (hg : kGet lv i0 = some (.int x)) (kk : kT l g nm cc mL rt hh d K N QR QX (pc + 2) lv (.int x :: rest) M kc nc) : kT l g nm cc mL rt hh d K N QR QX pc lv rest M kc nc := by
  intro p e s m args below meth c A H locs cells slots ls hR hS hl9 h19 h29
  exact lv_iload A.1 A.2.1 hdg (kGet_at hl9 hg) (kk p e s m args below meth c A H locs cells slots ls hR hS hl9 h19 h29)
theorem kT_lload_n {k0 : Fin 4} {x : Int64} (hdg : decode cc pc = .ok (.lload_n k0, 1)) (hg : kGet lv (k0 : Nat) = some (.long x)) (kk : kT l g nm cc mL rt hh d K N QR QX (pc + 1) lv (.long x :: rest) M kc nc) : kT l g nm cc mL rt hh d K N QR QX pc lv rest M kc nc := by
  intro p e s m args below meth c A H locs cells slots ls hR hS hl9 h19 h29
  exact lv_lload_n A.1 A.2.1 hdg rfl (kGet_at hl9 hg) (kk p e s m args below meth c A H locs cells slots ls hR hS hl9 h19 h29)
theorem kT_aload_n {k0 : Fin 4} {x : Nat} (hdg : decode cc pc = .ok (.aload_n k0, 1)) (hg : kGet lv (k0 : Nat) = some (.ref x)) (kk : kT l g nm cc mL rt hh d K N QR QX (pc + 1) lv (.ref x :: rest) M kc nc) : kT l g nm cc mL rt hh d K N QR QX pc lv rest M kc nc := by
  intro p e s m args below meth c A H locs cells slots ls hR hS hl9 h19 h29
  exact lv_aload_n A.1 A.2.1 hdg rfl (kGet_at hl9 hg) (kk p e s m args below meth c A H locs cells slots ls hR hS hl9 h19 h29)
theorem kT_aload {i0 : Nat} {x : Nat} (hdg : decode cc pc = .ok (.aload i0, 2)) (hg : kGet lv i0 = some (.ref x)) (kk : kT l g nm cc mL rt hh d K N QR QX (pc + 2) lv (.ref x :: rest) M kc nc) : kT l g nm cc mL rt hh d K N QR QX pc lv rest M kc nc := by
  intro p e s m args below meth c A H locs cells slots ls hR hS hl9 h19 h29
  exact lv_aload A.1 A.2.1 hdg (kGet_at hl9 hg) (kk p e s m args below meth c A H locs cells slots ls hR hS hl9 h19 h29)
theorem kT_aload_nN {k0 : Fin 4} (hdg : decode cc pc = .ok (.aload_n k0, 1)) (hg : kGet lv (k0 : Nat) = some .null) (kk : kT l g nm cc mL rt hh d K N QR QX (pc + 1) lv (.null :: rest) M kc nc) : kT l g nm cc mL rt hh d K N QR QX pc lv rest M kc nc := by
  intro p e s m args below meth c A H locs cells slots ls hR hS hl9 h19 h29
  exact lv_aload_nN A.1 A.2.1 hdg rfl (kGet_at hl9 hg) (kk p e s m args below meth c A H locs cells slots ls hR hS hl9 h19 h29)
theorem kT_aloadN {i0 : Nat} (hdg : decode cc pc = .ok (.aload i0, 2)) (hg : kGet lv i0 = some .null) (kk : kT l g nm cc mL rt hh d K N QR QX (pc + 2) lv (.null :: rest) M kc nc) : kT l g nm cc mL rt hh d K N QR QX pc lv rest M kc nc := by
  intro p e s m args below meth c A H locs cells slots ls hR hS hl9 h19 h29
  exact lv_aloadN A.1 A.2.1 hdg (kGet_at hl9 hg) (kk p e s m args below meth c A H locs cells slots ls hR hS hl9 h19 h29)
theorem kT_istore_n {k0 : Fin 4} {i0 : Nat} {x : Int32} {lv9 : List (Nat × Value)} (hdg : decode cc pc = .ok (.istore_n k0, 1)) (hi : (k0 : Nat) = i0) (hn : i0 < mL) (hl : kSet lv i0 (.int x) = lv9) (kk : kT l g nm cc mL rt hh d K N QR QX (pc + 1) lv9 rest M kc nc) : kT l g nm cc mL rt hh d K N QR QX pc lv (.int x :: rest) M kc nc := by
  intro p e s m args below meth c A H locs cells slots ls hR hS hl9 h19 h29
  exact lv_istore_n A.1 A.2.1 hdg hi hl9 hn hl (fun ls9 q9 => kk p e s m args below meth c A H locs cells slots ls9 hR hS q9 h19 h29)
theorem kT_istore {i0 : Nat} {x : Int32} {lv9 : List (Nat × Value)} (hdg : decode cc pc = .ok (.istore i0, 2)) (hn : i0 < mL) (hl : kSet lv i0 (.int x) = lv9) (kk : kT l g nm cc mL rt hh d K N QR QX (pc + 2) lv9 rest M kc nc) : kT l g nm cc mL rt hh d K N QR QX pc lv (.int x :: rest) M kc nc := by
  intro p e s m args below meth c A H locs cells slots ls hR hS hl9 h19 h29
  exact lv_istore A.1 A.2.1 hdg hl9 hn hl (fun ls9 q9 => kk p e s m args below meth c A H locs cells slots ls9 hR hS q9 h19 h29)
theorem kT_astore_n {k0 : Fin 4} {i0 : Nat} {x : Nat} {lv9 : List (Nat × Value)} (hdg : decode cc pc = .ok (.astore_n k0, 1)) (hi : (k0 : Nat) = i0) (hn : i0 < mL) (hl : kSet lv i0 (.ref x) = lv9) (kk : kT l g nm cc mL rt hh d K N QR QX (pc + 1) lv9 rest M kc nc) : kT l g nm cc mL rt hh d K N QR QX pc lv (.ref x :: rest) M kc nc := by
  intro p e s m args below meth c A H locs cells slots ls hR hS hl9 h19 h29
  exact lv_astore_n A.1 A.2.1 hdg hi hl9 hn hl (fun ls9 q9 => kk p e s m args below meth c A H locs cells slots ls9 hR hS q9 h19 h29)
theorem kT_astore {i0 : Nat} {x : Nat} {lv9 : List (Nat × Value)} (hdg : decode cc pc = .ok (.astore i0, 2)) (hn : i0 < mL) (hl : kSet lv i0 (.ref x) = lv9) (kk : kT l g nm cc mL rt hh d K N QR QX (pc + 2) lv9 rest M kc nc) : kT l g nm cc mL rt hh d K N QR QX pc lv (.ref x :: rest) M kc nc := by
  intro p e s m args below meth c A H locs cells slots ls hR hS hl9 h19 h29
  exact lv_astore A.1 A.2.1 hdg hl9 hn hl (fun ls9 q9 => kk p e s m args below meth c A H locs cells slots ls9 hR hS q9 h19 h29)
theorem kT_astore_nN {k0 : Fin 4} {i0 : Nat} {lv9 : List (Nat × Value)} (hdg : decode cc pc = .ok (.astore_n k0, 1)) (hi : (k0 : Nat) = i0) (hn : i0 < mL) (hl : kSet lv i0 .null = lv9) (kk : kT l g nm cc mL rt hh d K N QR QX (pc + 1) lv9 rest M kc nc) : kT l g nm cc mL rt hh d K N QR QX pc lv (.null :: rest) M kc nc := by
  intro p e s m args below meth c A H locs cells slots ls hR hS hl9 h19 h29
  exact lv_astore_nN A.1 A.2.1 hdg hi hl9 hn hl (fun ls9 q9 => kk p e s m args below meth c A H locs cells slots ls9 hR hS q9 h19 h29)
theorem kT_astoreN {i0 : Nat} {lv9 : List (Nat × Value)} (hdg : decode cc pc = .ok (.astore i0, 2)) (hn : i0 < mL) (hl : kSet lv i0 .null = lv9) (kk : kT l g nm cc mL rt hh d K N QR QX (pc + 2) lv9 rest M kc nc) : kT l g nm cc mL rt hh d K N QR QX pc lv (.null :: rest) M kc nc := by
  intro p e s m args below meth c A H locs cells slots ls hR hS hl9 h19 h29
  exact lv_astoreN A.1 A.2.1 hdg hl9 hn hl (fun ls9 q9 => kk p e s m args below meth c A H locs cells slots ls9 hR hS q9 h19 h29)
theorem kT_iinc {i0 k0 : Nat} {z : Int} {x v : Int32} {lv9 : List (Nat × Value)} (hdg : decode cc pc = .ok (.iinc i0 z, 3)) (hk : lv[k0]? = some (i0, .int x)) (hv : x + Int32.ofInt z = v) (hn : i0 < mL) (hl : kSet lv i0 (.int v) = lv9) (kk : kT l g nm cc mL rt hh d K N QR QX (pc + 3) lv9 rest M kc nc) : kT l g nm cc mL rt hh d K N QR QX pc lv rest M kc nc := by
  intro p e s m args below meth c A H locs cells slots ls hR hS hl9 h19 h29
  exact lv_iinc A.1 A.2.1 hdg hl9 hk hv hn hl (fun ls9 q9 => kk p e s m args below meth c A H locs cells slots ls9 hR hS q9 h19 h29)
/-- a smaller list of locals, and less room -/
theorem kT_locals {lv9 : List (Nat × Value)} (hl : ∀ q ∈ lv9, q ∈ lv) (kk : kT l g nm cc mL rt hh d K N QR QX pc lv9 rest M kc nc) : kT l g nm cc mL rt hh d K N QR QX pc lv rest M kc nc := by
  intro p e s m args below meth c A H locs cells slots ls hR hS hl9 h19 h29
  exact kk p e s m args below meth c A H locs cells slots ls hR hS ⟨hl9.1, hl9.2.1, fun q hq => hl9.2.2 q (hl q hq)⟩ h19 h29
end KR

/-! the rows again for numbers nI n -/
theorem nI_lt9 {a b : Nat} (ha : a < 2147483648) (hb : b < 2147483648) : nI a < nI b ↔ a < b := nI_ltI ha hb
theorem nI_le9 {a b : Nat} (ha : a < 2147483648) (hb : b < 2147483648) : nI a ≤ nI b ↔ a ≤ b := nI_leI ha hb
theorem nI_eq9 {a b : Nat} (ha : a < 2147483648) (hb : b < 2147483648) : nI a = nI b ↔ a = b := nI_eq ha hb
theorem kRf {M : kM} {a k b : Nat} (h : fr M a k = some b) : va_rf (fr M a k) = .ref b := by rw [h]; rfl
theorem kRn {M : kM} {a k : Nat} (h : fr M a k = none) : va_rf (fr M a k) = .null := by rw [h]; rfl
theorem kRa {M : kM} {a k b : Nat} (h : ar M a k = some b) : va_rf (ar M a k) = .ref b := by rw [h]; rfl
theorem kRan {M : kM} {a k : Nat} (h : ar M a k = none) : va_rf (ar M a k) = .null := by rw [h]; rfl
theorem kFi {M : kM} {a k : Nat} {x : Int32} (h : fi M a k = x) : Value.int (fi M a k) = .int x := by rw [h]
theorem kAi {M : kM} {a k : Nat} {x : Int32} (h : ai M a k = x) : Value.int (ai M a k) = .int x := by rw [h]
/-- a tag stays when something new comes -/
theorem kTgO {M : kM} {c a z : Nat} (h0 : ∀ b, nx M ≤ b → tg M b = 0) (hz : z ≠ 0) (h : tg M a = z) : tg (nwO M c) a = z := by
  show va_up (tg M) (nx M) (c + 1) a = z
  rw [va_up_ne _ _ (fun e => hz (by rw [← h, e, h0 _ (Nat.le_refl _)]))]
  exact h
theorem kTgA {M : kM} {t n a z : Nat} (h0 : ∀ b, nx M ≤ b → tg M b = 0) (hz : z ≠ 0) (h : tg M a = z) : tg (nwA M t n) a = z := by
  show va_up (tg M) (nx M) (101 + t) a = z
  rw [va_up_ne _ _ (fun e => hz (by rw [← h, e, h0 _ (Nat.le_refl _)]))]
  exact h
theorem kTgO_self {M : kM} {c : Nat} : tg (nwO M c) (nx M) = c + 1 := va_up_self _ _ _
theorem kTgA_self {M : kM} {t n : Nat} : tg (nwA M t n) (nx M) = 101 + t := va_up_self _ _ _
theorem kLnA_self {M : kM} {t n : Nat} : ln (nwA M t n) (nx M) = n := va_up_self _ _ _
theorem sfi_at {M : kM} {a k : Nat} {v : Int32} : fi (sfi M a k v) a k = v := by simp [sfi, fi, up2]
theorem sfr_at {M : kM} {a k : Nat} {v : Option Nat} : fr (sfr M a k v) a k = v := by simp [sfr, fr, up2]
theorem sfl_at {M : kM} {a k : Nat} {v : Int64} : fl (sfl M a k v) a k = v := by simp [sfl, fl, up2]
theorem sai_at {M : kM} {a k : Nat} {v : Int32} : ai (sai M a k v) a k = v := by simp [sai, ai, up2]
theorem sfi_ne {M : kM} {a b k j : Nat} {v : Int32} (h : b ≠ a) : fi (sfi M a k v) b j = fi M b j := by simp [sfi, fi, up2, h]
theorem sfi_nk {M : kM} {a b k j : Nat} {v : Int32} (h : j ≠ k) : fi (sfi M a k v) b j = fi M b j := by simp [sfi, fi, up2, h]
theorem sai_ne {M : kM} {a b k j : Nat} {v : Int32} (h : b ≠ a) : ai (sai M a k v) b j = ai M b j := by simp [sai, ai, up2, h]
theorem sai_nk {M : kM} {a b k j : Nat} {v : Int32} (h : j ≠ k) : ai (sai M a k v) b j = ai M b j := by simp [sai, ai, up2, h]
theorem wai_at {M : kM} {a j : Nat} {h : Nat → Int32} : ai (wai M a h) a j = h j := by simp [wai, ai, zr2]
theorem wai_ne {M : kM} {a b j : Nat} {h : Nat → Int32} (e : b ≠ a) : ai (wai M a h) b j = ai M b j := by simp [wai, ai, zr2, e]
section KN
variable {l : Launch} {g : kG} {nm : MethodName} {cc : ByteArray} {mL : Nat} {rt : Option FieldType} {hh : List (Nat × Nat × Nat × Nat)} {d K N : Nat} {QR : Option Value → kM → Prop} {QX : String → kM → Prop} {pc : Nat} {lv : List (Nat × Value)} {rest : List Value} {M : kM} {kc nc : Nat}
theorem kT_mem {M1 : kM} (e : M = M1) (kk : kT l g nm cc mL rt hh d K N QR QX pc lv rest M1 kc nc) : kT l g nm cc mL rt hh d K N QR QX pc lv rest M kc nc := e ▸ kk
theorem kT_stk {st : List Value} (e : rest = st) (kk : kT l g nm cc mL rt hh d K N QR QX pc lv st M kc nc) : kT l g nm cc mL rt hh d K N QR QX pc lv rest M kc nc := e ▸ kk
theorem kT_iaddN {a b : Nat} (hdg : decode cc pc = .ok (.iadd, 1)) (kk : kT l g nm cc mL rt hh d K N QR QX (pc + 1) lv (.int (nI (a + b)) :: rest) M kc nc) : kT l g nm cc mL rt hh d K N QR QX pc lv (.int (nI b) :: .int (nI a) :: rest) M kc nc :=
  kT_iadd hdg (by rw [nI_add]; exact kk)
theorem kT_isubN {a b : Nat} (hdg : decode cc pc = .ok (.isub, 1)) (h : b ≤ a) (kk : kT l g nm cc mL rt hh d K N QR QX (pc + 1) lv (.int (nI (a - b)) :: rest) M kc nc) : kT l g nm cc mL rt hh d K N QR QX pc lv (.int (nI b) :: .int (nI a) :: rest) M kc nc :=
  kT_isub hdg (by rw [pk_sub h]; exact kk)
theorem kT_imulN {a b : Nat} (hdg : decode cc pc = .ok (.imul, 1)) (kk : kT l g nm cc mL rt hh d K N QR QX (pc + 1) lv (.int (nI (a * b)) :: rest) M kc nc) : kT l g nm cc mL rt hh d K N QR QX pc lv (.int (nI b) :: .int (nI a) :: rest) M kc nc :=
  kT_imul hdg (by rw [pk_mul]; exact kk)
theorem kT_idivN {a b : Nat} (hdg : decode cc pc = .ok (.idiv, 1)) (ha : a < 2147483648) (h0 : 0 < b) (hb : b < 2147483648) (kk : kT l g nm cc mL rt hh d K N QR QX (pc + 1) lv (.int (nI (a / b)) :: rest) M kc nc) : kT l g nm cc mL rt hh d K N QR QX pc lv (.int (nI b) :: .int (nI a) :: rest) M kc nc :=
  kT_idiv hdg (nI_ne0 h0 hb) (by rw [pk_div ha h0 hb]; exact kk)
theorem kT_iremN {a b : Nat} (hdg : decode cc pc = .ok (.irem, 1)) (ha : a < 2147483648) (h0 : 0 < b) (hb : b < 2147483648) (kk : kT l g nm cc mL rt hh d K N QR QX (pc + 1) lv (.int (nI (a % b)) :: rest) M kc nc) : kT l g nm cc mL rt hh d K N QR QX pc lv (.int (nI b) :: .int (nI a) :: rest) M kc nc :=
  kT_irem hdg (nI_ne0 h0 hb) (by rw [pk_rem ha h0 hb]; exact kk)
theorem kT_icmp_eqN {a b : Nat} {off : Int} {tgt : Nat} (hdg : decode cc pc = .ok (.if_icmp .eq off, 3)) (ht : (pc : Int) + off = (tgt : Int)) (ha : a < 2147483648) (hb : b < 2147483648) (kt : a = b → kT l g nm cc mL rt hh d K N QR QX tgt lv rest M kc nc) (kf : a ≠ b → kT l g nm cc mL rt hh d K N QR QX (pc + 3) lv rest M kc nc) : kT l g nm cc mL rt hh d K N QR QX pc lv (.int (nI b) :: .int (nI a) :: rest) M kc nc := kT_icmp_eq hdg ht (fun h => kt ((nI_eq9 ha hb).mp h)) (fun h => kf ((fun z => h ((nI_eq9 ha hb).mpr z))))
theorem kT_icmp_neN {a b : Nat} {off : Int} {tgt : Nat} (hdg : decode cc pc = .ok (.if_icmp .ne off, 3)) (ht : (pc : Int) + off = (tgt : Int)) (ha : a < 2147483648) (hb : b < 2147483648) (kt : a ≠ b → kT l g nm cc mL rt hh d K N QR QX tgt lv rest M kc nc) (kf : a = b → kT l g nm cc mL rt hh d K N QR QX (pc + 3) lv rest M kc nc) : kT l g nm cc mL rt hh d K N QR QX pc lv (.int (nI b) :: .int (nI a) :: rest) M kc nc := kT_icmp_ne hdg ht (fun h => kt (fun e => h (by rw [e]))) (fun h => kf ((nI_eq9 ha hb).mp h))
theorem kT_icmp_ltN {a b : Nat} {off : Int} {tgt : Nat} (hdg : decode cc pc = .ok (.if_icmp .lt off, 3)) (ht : (pc : Int) + off = (tgt : Int)) (ha : a < 2147483648) (hb : b < 2147483648) (kt : a < b → kT l g nm cc mL rt hh d K N QR QX tgt lv rest M kc nc) (kf : b ≤ a → kT l g nm cc mL rt hh d K N QR QX (pc + 3) lv rest M kc nc) : kT l g nm cc mL rt hh d K N QR QX pc lv (.int (nI b) :: .int (nI a) :: rest) M kc nc := kT_icmp_lt hdg ht (fun h => kt ((nI_lt9 ha hb).mp h)) (fun h => kf (Nat.le_of_not_lt (fun z => h ((nI_lt9 ha hb).mpr z))))
theorem kT_icmp_geN {a b : Nat} {off : Int} {tgt : Nat} (hdg : decode cc pc = .ok (.if_icmp .ge off, 3)) (ht : (pc : Int) + off = (tgt : Int)) (ha : a < 2147483648) (hb : b < 2147483648) (kt : b ≤ a → kT l g nm cc mL rt hh d K N QR QX tgt lv rest M kc nc) (kf : a < b → kT l g nm cc mL rt hh d K N QR QX (pc + 3) lv rest M kc nc) : kT l g nm cc mL rt hh d K N QR QX pc lv (.int (nI b) :: .int (nI a) :: rest) M kc nc := kT_icmp_ge hdg ht (fun h => kt ((nI_le9 hb ha).mp h)) (fun h => kf (Nat.lt_of_not_le (fun z => h ((nI_le9 hb ha).mpr z))))
theorem kT_icmp_gtN {a b : Nat} {off : Int} {tgt : Nat} (hdg : decode cc pc = .ok (.if_icmp .gt off, 3)) (ht : (pc : Int) + off = (tgt : Int)) (ha : a < 2147483648) (hb : b < 2147483648) (kt : b < a → kT l g nm cc mL rt hh d K N QR QX tgt lv rest M kc nc) (kf : a ≤ b → kT l g nm cc mL rt hh d K N QR QX (pc + 3) lv rest M kc nc) : kT l g nm cc mL rt hh d K N QR QX pc lv (.int (nI b) :: .int (nI a) :: rest) M kc nc := kT_icmp_gt hdg ht (fun h => kt ((nI_lt9 hb ha).mp h)) (fun h => kf (Nat.le_of_not_lt (fun z => h ((nI_lt9 hb ha).mpr z))))
theorem kT_icmp_leN {a b : Nat} {off : Int} {tgt : Nat} (hdg : decode cc pc = .ok (.if_icmp .le off, 3)) (ht : (pc : Int) + off = (tgt : Int)) (ha : a < 2147483648) (hb : b < 2147483648) (kt : a ≤ b → kT l g nm cc mL rt hh d K N QR QX tgt lv rest M kc nc) (kf : b < a → kT l g nm cc mL rt hh d K N QR QX (pc + 3) lv rest M kc nc) : kT l g nm cc mL rt hh d K N QR QX pc lv (.int (nI b) :: .int (nI a) :: rest) M kc nc := kT_icmp_le hdg ht (fun h => kt ((nI_le9 ha hb).mp h)) (fun h => kf (Nat.lt_of_not_le (fun z => h ((nI_le9 ha hb).mpr z))))
theorem kZero {a : Nat} (ha : a < 2147483648) : nI a = 0 ↔ a = 0 := by rw [← nI_0]; exact nI_eq9 ha (by decide)
theorem kT_if_eqN {a : Nat} {off : Int} {tgt : Nat} (hdg : decode cc pc = .ok (.ifCond .eq off, 3)) (ht : (pc : Int) + off = (tgt : Int)) (ha : a < 2147483648) (kt : a = 0 → kT l g nm cc mL rt hh d K N QR QX tgt lv rest M kc nc) (kf : a ≠ 0 → kT l g nm cc mL rt hh d K N QR QX (pc + 3) lv rest M kc nc) : kT l g nm cc mL rt hh d K N QR QX pc lv (.int (nI a) :: rest) M kc nc := kT_if_eq hdg ht (fun h => kt ((kZero ha).mp h)) (fun h => kf (fun e => h ((kZero ha).mpr e)))
theorem kT_if_neN {a : Nat} {off : Int} {tgt : Nat} (hdg : decode cc pc = .ok (.ifCond .ne off, 3)) (ht : (pc : Int) + off = (tgt : Int)) (ha : a < 2147483648) (kt : a ≠ 0 → kT l g nm cc mL rt hh d K N QR QX tgt lv rest M kc nc) (kf : a = 0 → kT l g nm cc mL rt hh d K N QR QX (pc + 3) lv rest M kc nc) : kT l g nm cc mL rt hh d K N QR QX pc lv (.int (nI a) :: rest) M kc nc := kT_if_ne hdg ht (fun h => kt (fun e => h ((kZero ha).mpr e))) (fun h => kf ((kZero ha).mp h))
theorem kT_if_ltN {a : Nat} {off : Int} {tgt : Nat} (hdg : decode cc pc = .ok (.ifCond .lt off, 3)) (ht : (pc : Int) + off = (tgt : Int)) (ha : a < 2147483648) (kf : kT l g nm cc mL rt hh d K N QR QX (pc + 3) lv rest M kc nc) : kT l g nm cc mL rt hh d K N QR QX pc lv (.int (nI a) :: rest) M kc nc := kT_if_lt hdg ht (fun h => absurd h (nI_pos ha)) (fun _ => kf)
theorem kT_if_geN {a : Nat} {off : Int} {tgt : Nat} (hdg : decode cc pc = .ok (.ifCond .ge off, 3)) (ht : (pc : Int) + off = (tgt : Int)) (ha : a < 2147483648) (kt : kT l g nm cc mL rt hh d K N QR QX tgt lv rest M kc nc) : kT l g nm cc mL rt hh d K N QR QX pc lv (.int (nI a) :: rest) M kc nc := kT_if_ge hdg ht (fun _ => kt) (fun h => absurd (nI_pos' ha) h)
theorem kT_if_leN {a : Nat} {off : Int} {tgt : Nat} (hdg : decode cc pc = .ok (.ifCond .le off, 3)) (ht : (pc : Int) + off = (tgt : Int)) (ha : a < 2147483648) (kt : a = 0 → kT l g nm cc mL rt hh d K N QR QX tgt lv rest M kc nc) (kf : 0 < a → kT l g nm cc mL rt hh d K N QR QX (pc + 3) lv rest M kc nc) : kT l g nm cc mL rt hh d K N QR QX pc lv (.int (nI a) :: rest) M kc nc := kT_if_le hdg ht (fun h => kt (by rw [← nI_0, nI_le9 ha (by decide)] at h; omega)) (fun h => kf (by rw [← nI_0, nI_le9 ha (by decide)] at h; omega))
theorem kT_if_gtN {a : Nat} {off : Int} {tgt : Nat} (hdg : decode cc pc = .ok (.ifCond .gt off, 3)) (ht : (pc : Int) + off = (tgt : Int)) (ha : a < 2147483648) (kt : 0 < a → kT l g nm cc mL rt hh d K N QR QX tgt lv rest M kc nc) (kf : a = 0 → kT l g nm cc mL rt hh d K N QR QX (pc + 3) lv rest M kc nc) : kT l g nm cc mL rt hh d K N QR QX pc lv (.int (nI a) :: rest) M kc nc := kT_if_gt hdg ht (fun h => kt (by rw [← nI_0, nI_lt9 (by decide) ha] at h; omega)) (fun h => kf (by rw [← nI_0, nI_lt9 (by decide) ha] at h; omega))
theorem kT_ialdN {a j : Nat} {v : Value} (hdg : decode cc pc = .ok (.iaload, 1)) (ht : tg M a = 101) (hj : j < ln M a) (hv : .int (ai M a j) = v) (kk : kT l g nm cc mL rt hh d K N QR QX (pc + 1) lv (v :: rest) M kc nc) : kT l g nm cc mL rt hh d K N QR QX pc lv (.int (nI j) :: .ref a :: rest) M kc nc := by
  subst hv
  intro p e s m args below meth c9 A H locs cells slots ls hR hS hl9 h19 h29
  obtain ⟨-, -, -, hlen⟩ := hR.arr (t := 0) ht (by decide)
  exact kT_iald hdg ht (nI_toInt (by omega)) hj kk p e s m args below meth c9 A H locs cells slots ls hR hS hl9 h19 h29
theorem kT_laldN {a j : Nat} {v : Value} (hdg : decode cc pc = .ok (.laload, 1)) (ht : tg M a = 102) (hj : j < ln M a) (hv : .long (al M a j) = v) (kk : kT l g nm cc mL rt hh d K N QR QX (pc + 1) lv (v :: rest) M kc nc) : kT l g nm cc mL rt hh d K N QR QX pc lv (.int (nI j) :: .ref a :: rest) M kc nc := by
  subst hv
  intro p e s m args below meth c9 A H locs cells slots ls hR hS hl9 h19 h29
  obtain ⟨-, -, -, hlen⟩ := hR.arr (t := 1) ht (by decide)
  exact kT_lald hdg ht (nI_toInt (by omega)) hj kk p e s m args below meth c9 A H locs cells slots ls hR hS hl9 h19 h29
theorem kT_baldN {a j : Nat} {v : Value} (hdg : decode cc pc = .ok (.baload, 1)) (ht : tg M a = 103) (hj : j < ln M a) (hv : .int (ai M a j) = v) (kk : kT l g nm cc mL rt hh d K N QR QX (pc + 1) lv (v :: rest) M kc nc) : kT l g nm cc mL rt hh d K N QR QX pc lv (.int (nI j) :: .ref a :: rest) M kc nc := by
  subst hv
  intro p e s m args below meth c9 A H locs cells slots ls hR hS hl9 h19 h29
  obtain ⟨-, -, -, hlen⟩ := hR.arr (t := 2) ht (by decide)
  exact kT_bald hdg ht (nI_toInt (by omega)) hj kk p e s m args below meth c9 A H locs cells slots ls hR hS hl9 h19 h29
theorem kT_zaldN {a j : Nat} {v : Value} (hdg : decode cc pc = .ok (.baload, 1)) (ht : tg M a = 104) (hj : j < ln M a) (hv : .int (ai M a j) = v) (kk : kT l g nm cc mL rt hh d K N QR QX (pc + 1) lv (v :: rest) M kc nc) : kT l g nm cc mL rt hh d K N QR QX pc lv (.int (nI j) :: .ref a :: rest) M kc nc := by
  subst hv
  intro p e s m args below meth c9 A H locs cells slots ls hR hS hl9 h19 h29
  obtain ⟨-, -, -, hlen⟩ := hR.arr (t := 3) ht (by decide)
  exact kT_zald hdg ht (nI_toInt (by omega)) hj kk p e s m args below meth c9 A H locs cells slots ls hR hS hl9 h19 h29
theorem kT_iastN {a j : Nat} {x : Int32} (hdg : decode cc pc = .ok (.iastore, 1)) (ht : tg M a = 101) (hj : j < ln M a) (kk : kT l g nm cc mL rt hh d K N QR QX (pc + 1) lv rest (sai M a j x) kc nc) : kT l g nm cc mL rt hh d K N QR QX pc lv (.int x :: .int (nI j) :: .ref a :: rest) M kc nc := by
  intro p e s m args below meth c9 A H locs cells slots ls hR hS hl9 h19 h29
  obtain ⟨-, -, -, hlen⟩ := hR.arr (t := 0) ht (by decide)
  exact kT_iast hdg ht (nI_toInt (by omega)) hj kk p e s m args below meth c9 A H locs cells slots ls hR hS hl9 h19 h29
theorem kT_lastN {a j : Nat} {x : Int64} (hdg : decode cc pc = .ok (.lastore, 1)) (ht : tg M a = 102) (hj : j < ln M a) (kk : kT l g nm cc mL rt hh d K N QR QX (pc + 1) lv rest (sal M a j x) kc nc) : kT l g nm cc mL rt hh d K N QR QX pc lv (.long x :: .int (nI j) :: .ref a :: rest) M kc nc := by
  intro p e s m args below meth c9 A H locs cells slots ls hR hS hl9 h19 h29
  obtain ⟨-, -, -, hlen⟩ := hR.arr (t := 1) ht (by decide)
  exact kT_last hdg ht (nI_toInt (by omega)) hj kk p e s m args below meth c9 A H locs cells slots ls hR hS hl9 h19 h29
theorem kT_bastN {a j : Nat} {x : Int32} (hdg : decode cc pc = .ok (.bastore, 1)) (ht : tg M a = 103) (hj : j < ln M a) (kk : kT l g nm cc mL rt hh d K N QR QX (pc + 1) lv rest (sai M a j (x.toInt8.toInt32)) kc nc) : kT l g nm cc mL rt hh d K N QR QX pc lv (.int x :: .int (nI j) :: .ref a :: rest) M kc nc := by
  intro p e s m args below meth c9 A H locs cells slots ls hR hS hl9 h19 h29
  obtain ⟨-, -, -, hlen⟩ := hR.arr (t := 2) ht (by decide)
  exact kT_bast hdg ht (nI_toInt (by omega)) hj kk p e s m args below meth c9 A H locs cells slots ls hR hS hl9 h19 h29
theorem kT_zastN {a j : Nat} {x : Int32} (hdg : decode cc pc = .ok (.bastore, 1)) (ht : tg M a = 104) (hj : j < ln M a) (h01 : x = 0 ∨ x = 1) (kk : kT l g nm cc mL rt hh d K N QR QX (pc + 1) lv rest (sai M a j x) kc nc) : kT l g nm cc mL rt hh d K N QR QX pc lv (.int x :: .int (nI j) :: .ref a :: rest) M kc nc := by
  intro p e s m args below meth c9 A H locs cells slots ls hR hS hl9 h19 h29
  obtain ⟨-, -, -, hlen⟩ := hR.arr (t := 3) ht (by decide)
  exact kT_zast hdg ht (nI_toInt (by omega)) hj h01 kk p e s m args below meth c9 A H locs cells slots ls hR hS hl9 h19 h29
theorem kT_aaldN {a j t : Nat} {v : Value} (hdg : decode cc pc = .ok (.aaload, 1)) (ht : tg M a = 101 + t) (ht4 : 4 ≤ t) (ht9 : t < 9) (hj : j < ln M a) (hv : va_rf (ar M a j) = v) (kk : kT l g nm cc mL rt hh d K N QR QX (pc + 1) lv (v :: rest) M kc nc) : kT l g nm cc mL rt hh d K N QR QX pc lv (.int (nI j) :: .ref a :: rest) M kc nc := by
  intro p e s m args below meth c9 A H locs cells slots ls hR hS hl9 h19 h29
  obtain ⟨-, -, -, hlen⟩ := hR.arr ht ht9
  exact kT_aald hdg ht ht4 ht9 (nI_toInt (by omega)) hj hv kk p e s m args below meth c9 A H locs cells slots ls hR hS hl9 h19 h29
theorem kT_aastoreN {a b j t : Nat} (hdg : decode cc pc = .ok (.aastore, 1)) (ht : tg M a = 101 + t) (ht4 : 4 ≤ t) (ht8 : t < 8) (hb0 : tg M b = kEl t + 1) (hj : j < ln M a) (kk : kT l g nm cc mL rt hh d K N QR QX (pc + 1) lv rest (sar M a j (some b)) kc nc) : kT l g nm cc mL rt hh d K N QR QX pc lv (.ref b :: .int (nI j) :: .ref a :: rest) M kc nc := by
  intro p e s m args below meth c9 A H locs cells slots ls hR hS hl9 h19 h29
  obtain ⟨-, -, -, hlen⟩ := hR.arr ht (by omega)
  exact kT_aast hdg ht ht4 ht8 hb0 (nI_toInt (by omega)) hj kk p e s m args below meth c9 A H locs cells slots ls hR hS hl9 h19 h29
theorem kT_aastoreNN {a j t : Nat} (hdg : decode cc pc = .ok (.aastore, 1)) (ht : tg M a = 101 + t) (ht4 : 4 ≤ t) (ht8 : t < 8) (hj : j < ln M a) (kk : kT l g nm cc mL rt hh d K N QR QX (pc + 1) lv rest (sar M a j none) kc nc) : kT l g nm cc mL rt hh d K N QR QX pc lv (.null :: .int (nI j) :: .ref a :: rest) M kc nc := by
  intro p e s m args below meth c9 A H locs cells slots ls hR hS hl9 h19 h29
  obtain ⟨-, -, -, hlen⟩ := hR.arr ht (by omega)
  exact kT_aastN hdg ht ht4 ht8 (nI_toInt (by omega)) hj kk p e s m args below meth c9 A H locs cells slots ls hR hS hl9 h19 h29
end KN

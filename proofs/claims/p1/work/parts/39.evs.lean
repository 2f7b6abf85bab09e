/-! ===== instructions: the script, switches, increments, ends, calls ===== -/
section EC
variable {g : kG} {b : Nat} {l : Launch} {mt : Nat → eMeta} {nm : MethodName} {cc : ByteArray} {mL : Nat} {rt : Option FieldType} {hh : List (Nat × Nat × Nat × Nat)} {pc : Nat}
theorem so_script {B : eBd} (hE : eEnv g B) {np : Nat} (hdg : decode cc pc = .ok (.iaload, 1)) (hb8 : Nat.ble B.length 1000 = true) (hp : pc + 1 = np) : eSOK g b l mt (nm, cc, mL, rt, hh) pc (hScr B np) := by
  subst hp
  refine so_pure (fun ih dd i lv st t x p u r h => ?_)
  obtain ⟨j, s, es, h1⟩ := eP_some h
  subst es
  obtain ⟨o, s', es, h2⟩ := eP_some h1
  subst es
  obtain ⟨h3, h4⟩ := eGd_some h2
  obtain ⟨h5, h6⟩ := eGd_some h4
  obtain ⟨h7, h8⟩ := eGd_some h6
  have o10 := beq_t h3
  subst o10
  have e5 := beq_t h5
  rw [eLnd] at e5
  have l1 : j / 16 + 1 ≤ B.length := ble_t h7
  have l2 := ble_t hb8
  rw [fo_eq] at h8
  refine ⟨_, lv, _, h8, fun lc sc M a1 a2 a3 => ?_⟩
  obtain ⟨w, ws, rfl, b1, b2⟩ := eSk_cons a2
  obtain ⟨w2, ws2, rfl, c1, c2⟩ := eSk_cons b2
  have e : w2 = .ref (gS g) := by
    obtain ⟨r, e, h | h | h | h | h | h⟩ := c1.ref (by decide)
    · omega
    · omega
    · omega
    · omega
    · rw [e, h.2]; rfl
    · omega
  subst e
  rw [(b1.I e5).2]
  refine ⟨lc, .int (gX g (j / 16)) :: ws2, a1, ⟨?_, c2⟩, fun K N QR QX kc nc hq => kT_sald hdg (nI_toInt (by omega)) (by have := hE.1; omega) hq⟩
  have e0 : ePl j = j / 16 := rfl
  rw [e0]
  unfold eSc
  rw [cond_beq]
  by_cases q : (eBn B (j / 16)).1 = (eBn B (j / 16)).2
  · rw [if_pos q]
    obtain ⟨n, f1, f2, f3, f4⟩ := hE.2 (j / 16)
    have f5 : (eBn B (j / 16)).1 = n := by omega
    rw [f5, f1]
    exact eVal_mkI f2
  · rw [if_neg q]
    refine Or.inl ⟨_, rfl, Or.inr (Or.inl ?_)⟩
    have e1 : eS (j / 16) = 16 * (j / 16) + 2 := rfl
    have e2 : eS (j / 16) / 16 = j / 16 := by omega
    exact ⟨by omega, by rw [e2]⟩
theorem eNth_get {ts : List Nat} : ∀ {k : Nat}, k < ts.length → ts[k]? = some (eNth ts k) := by
  induction ts with
  | nil => intro k h; exact absurd h (Nat.not_lt_zero k)
  | cons a t ih =>
    intro k h
    cases k with
    | zero => rfl
    | succ k => rw [List.getElem?_cons_succ, eNth_s]; exact ih (Nat.lt_of_succ_lt_succ h)
/-- lo to lo + the number of places; offs: from here on -/
theorem so_switch {B : eBd} (hE : eEnv g B) {lo df : Nat} {dflt lo' hi' : Int} {offs : Array Int} {ts : List Nat} {len : Nat} (hdg : decode cc pc = .ok (.tableswitch dflt lo' hi' offs, len)) (hlo : lo' = (lo : Int)) (hhi : hi' + 1 = ((lo + ts.length : Nat) : Int)) (hdf : (pc : Int) + dflt = (df : Int)) (hts : offs.toList.map (fun o => (pc : Int) + o) = ts.map (fun (q : Nat) => (q : Int))) (hs8 : Nat.ble (lo + ts.length) 100000 = true) : eSOK g b l mt (nm, cc, mL, rt, hh) pc (hSw B lo ts df) := by
  refine so_pure (fun ih dd i lv st t x p u r h => ?_)
  obtain ⟨a, s, es, h1⟩ := eP_some h
  subst es
  have l8 := ble_t hs8
  obtain ⟨hk, l9, hi, h2, hn⟩ := eRng_ok hE h1
  rw [cond_ble] at h2
  by_cases q1 : Nat.add lo ts.length ≤ l9
  · rw [if_pos q1] at h2
    refine ⟨_, lv, _, h2, fun lc sc M a1 a2 a3 => ?_⟩
    obtain ⟨w, ws, rfl, b1, b2⟩ := eSk_cons a2
    obtain ⟨z, rfl, b3⟩ := b1.int hk
    obtain ⟨n, rfl, n1, n2, n3⟩ := hn z b3
    have q2 : lo + ts.length ≤ l9 := q1
    refine ⟨lc, ws, a1, b2, fun K N QR QX kc nc hq => kT_tableOut hdg ?_ hdf hq⟩
    rw [nI_int n1]
    split <;> omega
  · rw [if_neg q1] at h2
    have q2 : ¬ lo + ts.length ≤ l9 := q1
    obtain ⟨h3, h4⟩ := eGd_some h2
    have e9 := beq_t h3
    subst e9
    rw [cond_ble] at h4
    by_cases q3 : lo ≤ l9
    · rw [if_pos q3, fo_eq] at h4
      refine ⟨_, lv, _, h4, fun lc sc M a1 a2 a3 => ?_⟩
      obtain ⟨w, ws, rfl, b1, b2⟩ := eSk_cons a2
      obtain ⟨z, rfl, b3⟩ := b1.int hk
      obtain ⟨n, rfl, n1, n2, n3⟩ := hn z b3
      have en : n = l9 := by omega
      subst en
      have ei : (nI n).toInt = (n : Int) := nI_toInt (by omega)
      have hx : offs.toList[n - lo]? = some (offs.toList[n - lo]?.getD 0) ∧ (pc : Int) + offs.toList[n - lo]?.getD 0 = ((eNth ts (n - lo) : Nat) : Int) := by
        have h8 := congrArg (fun q => q[n - lo]?) hts
        simp only [List.getElem?_map] at h8
        rw [eNth_get (show n - lo < ts.length by omega)] at h8
        cases h7 : offs.toList[n - lo]? with
        | none => rw [h7] at h8; cases h8
        | some q => rw [h7] at h8; exact ⟨rfl, Option.some.inj h8⟩
      refine ⟨lc, ws, a1, b2, fun K N QR QX kc nc hq => kT_tableIn hdg (by rw [ei]; omega) (by rw [ei]; omega) (off := offs.toList[n - lo]?.getD 0) ?_ hx.2 hq⟩
      rw [ei, hlo, show ((n : Int) - (lo : Int)).toNat = n - lo by omega, ← hx.1, Array.getElem?_toList]
    · rw [if_neg q3] at h4
      refine ⟨_, lv, _, h4, fun lc sc M a1 a2 a3 => ?_⟩
      obtain ⟨w, ws, rfl, b1, b2⟩ := eSk_cons a2
      obtain ⟨z, rfl, b3⟩ := b1.int hk
      obtain ⟨n, rfl, n1, n2, n3⟩ := hn z b3
      refine ⟨lc, ws, a1, b2, fun K N QR QX kc nc hq => kT_tableOut hdg ?_ hdf hq⟩
      rw [nI_int n1]
      split <;> omega
theorem so_iinc {j zn np : Nat} {z : Int} (hdg : decode cc pc = .ok (.iinc j z, 3)) (hz : Int32.ofInt z = nI zn) (hm : Nat.ble zn 4294967295 = true) (hn : Nat.ble (j + 1) mL = true) (hp : pc + 3 = np) : eSOK g b l mt (nm, cc, mL, rt, hh) pc (hInc j zn np) := by
  subst hp
  refine so_pure (fun ih dd i lv st t x p u r h => ?_)
  unfold hInc at h
  rw [fo_eq] at h
  obtain ⟨h2, h3⟩ := eGd_some h
  obtain ⟨h4, h5⟩ := eGd_some h3
  obtain ⟨lv', e1, e2⟩ := eSn_ok lv j (eF2 Nat.add (eNth lv j) (eI zn))
  rw [e2] at h5
  have hnz : eF2 Nat.add (eNth lv j) (eI zn) ≠ 0 := fun e => by rw [e] at h2; cases h2
  refine ⟨_, lv', st, h5, fun lc sc M a1 a2 _ => ?_⟩
  have hne : eNth lv j ≠ 0 := fun e => by
    rw [e] at hnz
    exact hnz rfl
  obtain ⟨w, b1, b2⟩ := a1 j hne
  obtain ⟨i1, j1, rfl, e4, e5⟩ := eF2_ok (F := fun x y => x + y) (fun a c _ _ => nI_add a c) b2 (eVal_mkI (g := g) (b := b) (n := zn) (by have := ble_t hm; omega)) hnz
  cases e4
  obtain ⟨k0, hk0⟩ := kGet_at2 b1
  exact ⟨kSet lc j (.int (i1 + nI zn)), sc, eLv_st a1 e5 (cond_ft h4) e1 eNth_out, a2, fun K N QR QX kc nc hq => kT_iinc hdg hk0 (by rw [hz]) (ble_t hn) rfl hq⟩
theorem so_objInit {idx np : Nat} (hdg : decode cc pc = .ok (.invokespecial idx, 3)) (hw : Cond.methodLink nm.cls idx Lib.objectInit ∈ kTb) (hw2 : Cond.instanceMethod Lib.objectInit ∈ kTb) (hw3 : Cond.code Lib.objectInit ⟨#[0xb1]⟩ 1 none ∈ kTb) (hp : pc + 3 = np) : eSOK g b l mt (nm, cc, mL, rt, hh) pc (hOi np) := by
  subst hp
  refine so_pure (fun ih dd i lv st t x p u r h => ?_)
  obtain ⟨o, s, es, h1⟩ := eP_some h
  subst es
  obtain ⟨h2, h3⟩ := eGd_some h1
  obtain ⟨h4, h5⟩ := eGd_some h3
  obtain ⟨h6, h7⟩ := eGd_some h5
  have e2 := beq_t h2
  rw [eLnd] at e2
  refine ⟨_, lv, _, h7, fun lc sc M a1 a2 _ => ?_⟩
  obtain ⟨w, ws, rfl, b1, b2⟩ := eSk_cons a2
  rw [b1.O e2]
  exact ⟨lc, ws, a1, b2, fun K N QR QX kc nc hq => kT_objInit hdg hw hw2 hw3 (ble_t h6) (by rw [eCat_ok b2]; exact ble_t h4) hq⟩
theorem so_Mm {f : Nat → Nat → Nat} {F : Int32 → Int32 → Int32} {np : Nat} (hF : ∀ x y X Y, eVal g b x X → eVal g b y Y → f x y ≠ 0 → ∃ Z, eBI F X Y Z ∧ eVal g b (f x y) Z) (row : ∀ dd lv rest M K N QR QX kc nc x y, 1 ≤ dd → (rest.map fun v => v.category).sum ≤ 8 → kT l g nm cc mL rt hh dd K N QR QX np lv (.int (F x y) :: rest) M kc nc → kT l g nm cc mL rt hh dd K N QR QX pc lv (.int y :: .int x :: rest) M kc nc) : eSOK g b l mt (nm, cc, mL, rt, hh) pc (hMm f np) := by
  refine so_pure (fun ih dd i lv st t x p u r h => ?_)
  obtain ⟨y, s, es, h1⟩ := eP_some h
  subst es
  obtain ⟨a, s', es, h2⟩ := eP_some h1
  subst es
  obtain ⟨h5, h6⟩ := eGd_some h2
  obtain ⟨h7, h8⟩ := eGd_some h6
  rw [fo_eq] at h8
  obtain ⟨h3, h4⟩ := eNz h8
  refine ⟨np, lv, _, h4, fun lc sc M a1 a2 _ => ?_⟩
  obtain ⟨w2, ws2, rfl, c1, b4⟩ := eSk_cons a2
  obtain ⟨w, ws, rfl, b1, b2⟩ := eSk_cons b4
  obtain ⟨Z, ⟨i1, j1, e1, e2, e3⟩, z2⟩ := hF a y w w2 b1 c1 h3
  subst e1; subst e2; subst e3
  exact ⟨lc, .int (F i1 j1) :: ws, a1, ⟨z2, b2⟩, fun K N QR QX kc nc h9 => row _ _ _ _ _ _ _ _ _ _ _ _ (ble_t h5) (by rw [eCat_ok b2]; exact ble_t h7) h9⟩
theorem eVal_self {x : Nat} {X : Value} (h : eVal g b x X) (h1 : x % 16 = 1) : ∃ n, n < 4294967296 ∧ x / 16 = n ∧ X = .int (nI n) := ⟨x / 16, (h.I h1).1, rfl, (h.I h1).2⟩
theorem mxC {p q c : Bool} {x y : Nat} (h : cnd p (cnd q (cnd c x y) 0) 0 ≠ 0) : p = true ∧ q = true ∧ cnd p (cnd q (cnd c x y) 0) 0 = cnd c x y := by
  obtain ⟨z1, z2, -⟩ := c3 h
  subst z1; subst z2
  exact ⟨rfl, rfl, rfl⟩
theorem mxV {A B x y : Nat} {X Y : Value} {c : Prop} (hx : A ≤ B → ¬ c) (hy : ¬ A ≤ B → c) (h1 : ¬ c → eVal g b x X) (h2 : c → eVal g b y X) : eVal g b (cnd (Nat.ble A B) x y) X := by
  rw [cond_ble]
  by_cases q : A ≤ B
  · rw [if_pos q]; exact h1 (hx q)
  · rw [if_neg q]; exact h2 (hy q)
theorem so_min {idx np : Nat} (hdg : decode cc pc = .ok (.invokestatic idx, 3)) (hw : Cond.methodLink nm.cls idx Lib.Math.min.name ∈ kTb) (hw2 : Cond.static Lib.Math.min.name ∈ kTb) (hw3 : Cond.initialized "java/lang/Math" ∈ kTb) (hw4 : Cond.code Lib.Math.min.name Lib.Math.min.code 2 (some .int) ∈ kTb) (hp : pc + 3 = np) : eSOK g b l mt (nm, cc, mL, rt, hh) pc (hMm eMinN np) := by
  subst hp
  refine so_Mm (F := fun x y => if y < x then y else x) (fun x y X Y hx hy h => ?_) (fun _ _ _ _ _ _ _ _ _ _ x y h1 h2 h3 => kT_min hdg hw hw2 hw3 hw4 h1 h2 h3)
  obtain ⟨z1, z2, z3⟩ := mxC h
  have y1 := beq_t z1
  have y2 := beq_t z2
  rw [eLnd] at y1 y2
  obtain ⟨n, n1, n2, rfl⟩ := eVal_self hx y1
  obtain ⟨m, m1, m2, rfl⟩ := eVal_self hy y2
  refine ⟨_, ⟨_, _, rfl, rfl, rfl⟩, ?_⟩
  unfold eMinN
  rw [z3]
  refine mxV (Y := .null) (c := nI m < nI n) (fun q z => ?_) (fun q => ?_) (fun z => ?_) (fun z => ?_)
  · have := (nI_ltS m1 n1).mp z
    rw [show ePl x = n from n2, show ePl y = m from m2] at q
    omega
  · rw [show ePl x = n from n2, show ePl y = m from m2] at q
    exact (nI_ltS m1 n1).mpr (Nat.lt_of_not_le q)
  · show eVal g b x (.int (if nI m < nI n then nI m else nI n))
    rw [if_neg z]; exact hx
  · show eVal g b y (.int (if nI m < nI n then nI m else nI n))
    rw [if_pos z]; exact hy
end EC

/-! ===== instructions: the rest that keeps the memory ===== -/
noncomputable def eDv (x y : Nat) : Nat := cnd (Nat.beq (Nat.land x 15) 1) (cnd (Nat.beq (Nat.land y 15) 1) (cnd (Nat.ble (ePl x) 2147483647) (cnd (Nat.ble (ePl y) 2147483647) (cnd (Nat.beq (ePl y) 0) 0 (eI (Nat.div (ePl x) (ePl y)))) 0) 0) 0) 0
noncomputable def eRm (x y : Nat) : Nat := cnd (Nat.beq (Nat.land x 15) 1) (cnd (Nat.beq (Nat.land y 15) 1) (cnd (Nat.ble (ePl y) 2147483647) (cnd (Nat.beq (ePl y) 0) 0 (cnd (Nat.ble (ePl x) 2147483647) (eI (Nat.mod (ePl x) (ePl y))) (eI (Nat.mod (Nat.sub 4294967296 (Nat.mod (Nat.sub 4294967296 (ePl x)) (ePl y))) 4294967296)))) 0) 0) 0
noncomputable def eSr (x y : Nat) : Nat := cnd (Nat.beq (Nat.land x 15) 1) (cnd (Nat.beq (Nat.land y 15) 1) (cnd (Nat.ble (ePl x) 2147483647) (eI (Nat.shiftRight (ePl x) (Nat.mod (ePl y) 32))) eAny) (cnd (eIi y) eAny 0)) (cnd (eIi x) (cnd (eIi y) eAny 0) 0)
noncomputable def eMinN (x y : Nat) : Nat := cnd (Nat.beq (Nat.land x 15) 1) (cnd (Nat.beq (Nat.land y 15) 1) (cnd (Nat.ble (eSg (ePl x)) (eSg (ePl y))) x y) 0) 0
noncomputable def eI2l (x : Nat) : Nat := cnd (Nat.beq (Nat.land x 15) 1) (cnd (Nat.ble (ePl x) 2147483647) (eLg (ePl x)) (eLg (Nat.add (ePl x) 18446744069414584320))) (cnd (eIi x) 5 0)
/-- two longs that are known and alike: 0; else any -/
noncomputable def eLcm (x y : Nat) : Nat := cnd (Nat.beq (Nat.land x 15) 4) (cnd (Nat.beq (Nat.land y 15) 4) (cnd (Nat.beq x y) 1 eAny) (cnd (eIl y) eAny 0)) (cnd (eIl x) (cnd (eIl y) eAny 0) 0)
noncomputable def eLL (x y : Nat) : Nat := cnd (eIl x) (cnd (eIl y) 5 0) 0
noncomputable def eLI (x y : Nat) : Nat := cnd (eIl x) (cnd (eIi y) 5 0) 0
section EU
variable {g : kG} {b : Nat} {l : Launch} {mt : Nat → eMeta} {nm : MethodName} {cc : ByteArray} {mL : Nat} {rt : Option FieldType} {hh : List (Nat × Nat × Nat × Nat)} {pc : Nat}
theorem c3 {p q : Bool} {a : Nat} (h : cnd p (cnd q a 0) 0 ≠ 0) : p = true ∧ q = true ∧ a ≠ 0 := by
  cases p
  · exact absurd rfl h
  · cases q
    · exact absurd rfl h
    · exact ⟨rfl, rfl, h⟩
theorem eDv_ok {f : Nat → Nat → Nat} {x y : Nat} {X Y : Value} (hx : eVal g b x X) (hy : eVal g b y Y) (h : cnd (Nat.beq (Nat.land x 15) 1) (cnd (Nat.beq (Nat.land y 15) 1) (cnd (Nat.ble (ePl x) 2147483647) (cnd (Nat.ble (ePl y) 2147483647) (cnd (Nat.beq (ePl y) 0) 0 (eI (f (ePl x) (ePl y)))) 0) 0) 0) 0 ≠ 0) : ∃ a c, X = .int (nI a) ∧ Y = .int (nI c) ∧ a < 2147483648 ∧ c < 2147483648 ∧ 0 < c ∧ cnd (Nat.beq (Nat.land x 15) 1) (cnd (Nat.beq (Nat.land y 15) 1) (cnd (Nat.ble (ePl x) 2147483647) (cnd (Nat.ble (ePl y) 2147483647) (cnd (Nat.beq (ePl y) 0) 0 (eI (f (ePl x) (ePl y)))) 0) 0) 0) 0 = eI (f a c) := by
  obtain ⟨h1, h2, h3⟩ := c3 h
  obtain ⟨h4, h5, h6⟩ := c3 h3
  have e1 := beq_t h1
  have e2 := beq_t h2
  rw [eLnd] at e1 e2
  obtain ⟨x1, rfl⟩ := hx.I e1
  obtain ⟨y1, rfl⟩ := hy.I e2
  have l1 : x / 16 ≤ 2147483647 := ble_t h4
  have l2 : y / 16 ≤ 2147483647 := ble_t h5
  have h7 : Nat.beq (ePl y) 0 = false := by
    cases h8 : Nat.beq (ePl y) 0
    · rfl
    · rw [h8] at h6; exact absurd rfl h6
  refine ⟨x / 16, y / 16, rfl, rfl, by omega, by omega, ?_, ?_⟩
  · rcases Nat.eq_zero_or_pos (y / 16) with z | z
    · rw [show ePl y = 0 from z] at h7; cases h7
    · exact z
  · rw [h1, h2, h4, h5, h7]; rfl
theorem so_idiv {np : Nat} (hdg : decode cc pc = .ok (.idiv, 1)) (hp : pc + 1 = np) : eSOK g b l mt (nm, cc, mL, rt, hh) pc (hB eDv np) := by
  subst hp
  refine so_B (F := fun X Y Z => ∃ a c, X = .int (nI a) ∧ Y = .int (nI c) ∧ a < 2147483648 ∧ c < 2147483648 ∧ 0 < c ∧ Z = .int (nI (a / c))) (fun x y X Y hx hy h => ?_) (fun _ _ _ _ _ _ _ _ _ _ X Y Z ⟨a, c, e1, e2, e3, e4, e5, e6⟩ h => ?_)
  · obtain ⟨a, c, e1, e2, e3, e4, e5, e6⟩ := eDv_ok (f := Nat.div) hx hy h
    refine ⟨.int (nI (a / c)), ⟨a, c, e1, e2, e3, e4, e5, rfl⟩, ?_⟩
    unfold eDv
    rw [e6]
    have := Nat.div_le_self a c
    exact eVal_mkI (by show a / c < _; omega)
  · subst e1; subst e2; subst e6
    exact kT_idivN hdg e3 e5 e4 h
theorem nI_negI {q : Nat} (h : q ≤ 2147483648) : (-nI q).toInt = -(q : Int) := by
  rw [nI_neg (by omega)]
  by_cases h0 : q = 0
  · subst h0; decide
  · rw [nI_int (by omega), if_neg (by omega)]
    omega
theorem nI_negD {A c : Nat} (hA : A ≤ 2147483648) (hc0 : 0 < c) (hc : c < 2147483648) : (-nI A) / nI c = -nI (A / c) := by
  have hq : A / c ≤ A := Nat.div_le_self A c
  apply Int32.toInt_inj.mp
  rw [Int32.toInt_div, nI_negI hA, nI_toInt (by omega), nI_negI (by omega), Int.neg_tdiv, ← Int.ofNat_tdiv]
  rw [Int.bmod_def]
  have e : ((A / c : Nat) : Int) ≤ 2147483648 := by have := Int.ofNat_le.mpr hq; have := Int.ofNat_le.mpr hA; omega
  have e0 : (0 : Int) ≤ ((A / c : Nat) : Int) := Int.natCast_nonneg _
  generalize ((A / c : Nat) : Int) = z at *
  have e2 : ((2 ^ 32 : Nat) : Int) = 4294967296 := by decide
  simp only [e2]
  split <;> omega
theorem nI_negR {A c : Nat} (hA : A ≤ 2147483648) (hc0 : 0 < c) (hc : c < 2147483648) : (-nI A) - (-nI A) / nI c * nI c = -nI (A % c) := by
  rw [nI_negD hA hc0 hc]
  have e : nI A = nI (A / c) * nI c + nI (A % c) := by rw [nI_mul, nI_add, Nat.mul_comm, Nat.div_add_mod]
  rw [e]
  grind
theorem so_irem {np : Nat} (hdg : decode cc pc = .ok (.irem, 1)) (hp : pc + 1 = np) : eSOK g b l mt (nm, cc, mL, rt, hh) pc (hB eRm np) := by
  subst hp
  refine so_B (F := fun X Y Z => ∃ a c, X = .int (nI a) ∧ Y = .int (nI c) ∧ c < 2147483648 ∧ 0 < c ∧ ((a < 2147483648 ∧ Z = .int (nI (a % c))) ∨ (2147483648 ≤ a ∧ a < 4294967296 ∧ Z = .int (-nI ((4294967296 - a) % c))))) (fun x y X Y hx hy h => ?_) (fun _ _ _ _ _ _ _ _ _ _ X Y Z ⟨a, c, e1, e2, e4, e5, e6⟩ h => ?_)
  · obtain ⟨h1, h2, h3⟩ := c3 h
    have y1 := beq_t h1
    have y2 := beq_t h2
    rw [eLnd] at y1 y2
    obtain ⟨x1, rfl⟩ := hx.I y1
    obtain ⟨z1, rfl⟩ := hy.I y2
    rw [cond_ble, cond_beq] at h3
    by_cases l1 : ePl y ≤ 2147483647
    · rw [if_pos l1] at h3
      by_cases l2 : ePl y = 0
      · rw [if_pos l2] at h3; exact absurd rfl h3
      · have b1 : Nat.ble (ePl y) 2147483647 = true := Nat.ble_eq_true_of_le l1
        have b2 : Nat.beq (ePl y) 0 = false := by
          cases hb : Nat.beq (ePl y) 0
          · rfl
          · exact absurd (beq_t hb) l2
        have l1' : y / 16 ≤ 2147483647 := l1
        have l2' : y / 16 ≠ 0 := l2
        unfold eRm
        rw [h1, h2, b1, b2]
        simp only [cnd_t, cnd_f]
        rw [cond_ble]
        by_cases l3 : ePl x ≤ 2147483647
        · rw [if_pos l3]
          have l3' : x / 16 ≤ 2147483647 := l3
          have := Nat.mod_lt (x / 16) (show 0 < y / 16 by omega)
          exact ⟨_, ⟨x / 16, y / 16, rfl, rfl, by omega, by omega, Or.inl ⟨by omega, rfl⟩⟩, eVal_mkI (by show x / 16 % (y / 16) < _; omega)⟩
        · rw [if_neg l3]
          have l3' : ¬ x / 16 ≤ 2147483647 := l3
          refine ⟨_, ⟨x / 16, y / 16, rfl, rfl, by omega, by omega, Or.inr ⟨by omega, x1, rfl⟩⟩, ?_⟩
          have := Nat.mod_lt (4294967296 - x / 16) (show 0 < y / 16 by omega)
          rw [nI_neg (by omega), ← nI_mod]
          exact eVal_mkI (Nat.mod_lt _ (by decide))
    · rw [if_neg l1] at h3; exact absurd rfl h3
  · subst e1; subst e2
    rcases e6 with ⟨e3, e6⟩ | ⟨e3, e7, e6⟩
    · subst e6
      exact kT_iremN hdg e3 e5 e4 h
    · subst e6
      refine kT_irem hdg (fun z => ?_) ?_
      · have := (nI_inj (a := c) (b := 0) (by omega) (by decide)).mp (by rw [z, nI_0])
        omega
      · have e8 : nI a = -nI (4294967296 - a) := by rw [nI_neg (by omega), show 4294967296 - (4294967296 - a) = a by omega]
        have e9 := nI_negR (A := 4294967296 - a) (c := c) (by omega) e5 e4
        rw [← e8] at e9
        rw [e9]
        exact h
theorem eIi2 {x y : Nat} {X Y : Value} (hx : eVal g b x X) (hy : eVal g b y Y) (h : cnd (eIi x) (cnd (eIi y) eAny 0) 0 ≠ 0) : ∃ i j, X = .int i ∧ Y = .int j := by
  obtain ⟨h1, h2, -⟩ := c3 h
  obtain ⟨i, e1, -⟩ := hx.int (eIi_of h1)
  obtain ⟨j, e2, -⟩ := hy.int (eIi_of h2)
  exact ⟨i, j, e1, e2⟩
theorem so_ishr {np : Nat} (hdg : decode cc pc = .ok (.ishr, 1)) (hp : pc + 1 = np) : eSOK g b l mt (nm, cc, mL, rt, hh) pc (hB eSr np) := by
  subst hp
  refine so_B (F := eBI (fun x y => x >>> (y &&& 31))) (fun x y X Y hx hy h => ?_) (fun _ _ _ _ _ _ _ _ _ _ X Y Z ⟨i, j, e1, e2, e3⟩ h => by subst e1; subst e2; subst e3; exact kT_ishr hdg h)
  unfold eSr at h ⊢
  rw [eLnd, eLnd] at h ⊢
  simp only [cond_beq] at h ⊢
  by_cases h1 : x % 16 = 1
  · rw [if_pos h1] at h ⊢
    obtain ⟨x1, rfl⟩ := hx.I h1
    by_cases h2 : y % 16 = 1
    · rw [if_pos h2] at h ⊢
      obtain ⟨y1, rfl⟩ := hy.I h2
      cases h3 : Nat.ble (ePl x) 2147483647 with
      | true =>
        have l1 : x / 16 ≤ 2147483647 := ble_t h3
        refine ⟨_, ⟨_, _, rfl, rfl, rfl⟩, ?_⟩
        show eVal g b _ (.int (nI (x / 16) >>> (nI (y / 16) &&& 31)))
        rw [nI_shr _ (by omega)]
        exact eVal_mkI (Nat.lt_of_le_of_lt (Nat.shiftRight_le _ _) x1)
      | false => exact ⟨_, ⟨_, _, rfl, rfl, rfl⟩, eVal_any _⟩
    · rw [if_neg h2] at h ⊢
      cases h3 : eIi y with
      | true =>
        obtain ⟨j, rfl, -⟩ := hy.int (eIi_of h3)
        exact ⟨_, ⟨_, _, rfl, rfl, rfl⟩, eVal_any _⟩
      | false => rw [h3] at h; exact absurd rfl h
  · rw [if_neg h1] at h ⊢
    obtain ⟨i, j, rfl, rfl⟩ := eIi2 hx hy h
    obtain ⟨z1, z2, -⟩ := c3 h
    rw [z1, z2]
    exact ⟨_, ⟨_, _, rfl, rfl, rfl⟩, eVal_any _⟩
theorem so_U {f : Nat → Nat} {F : Value → Value → Prop} {np : Nat} (hF : ∀ x X, eVal g b x X → f x ≠ 0 → ∃ Z, F X Z ∧ eVal g b (f x) Z) (row : ∀ dd lv rest M K N QR QX kc nc X Z, F X Z → kT l g nm cc mL rt hh dd K N QR QX np lv (Z :: rest) M kc nc → kT l g nm cc mL rt hh dd K N QR QX pc lv (X :: rest) M kc nc) : eSOK g b l mt (nm, cc, mL, rt, hh) pc (hU f np) := by
  refine so_pure (fun ih dd i lv st t x p u r h => ?_)
  obtain ⟨a, s, es, h1⟩ := eP_some h
  subst es
  rw [fo_eq] at h1
  obtain ⟨h3, h4⟩ := eNz h1
  refine ⟨np, lv, _, h4, fun lc sc M a1 a2 _ => ?_⟩
  obtain ⟨w, ws, rfl, b1, b2⟩ := eSk_cons a2
  obtain ⟨Z, z1, z2⟩ := hF a w b1 h3
  exact ⟨lc, Z :: ws, a1, ⟨z2, b2⟩, fun K N QR QX kc nc h9 => row _ _ _ _ _ _ _ _ _ _ _ Z z1 h9⟩
def eUI (F : Int32 → Value) (X Z : Value) : Prop := ∃ i, X = .int i ∧ Z = F i
theorem eU1 {f : Nat → Nat} {z0 : Nat} {F : Int32 → Value} (hz : ∀ i, eVal g b z0 (F i)) (hF : ∀ a, a < 4294967296 → eVal g b (f a) (F (nI a))) : ∀ x X, eVal g b x X → cnd (Nat.beq (Nat.land x 15) 1) (f (ePl x)) (cnd (eIi x) z0 0) ≠ 0 → ∃ Z, eUI F X Z ∧ eVal g b (cnd (Nat.beq (Nat.land x 15) 1) (f (ePl x)) (cnd (eIi x) z0 0)) Z := by
  intro x X hx h
  rw [eLnd] at h ⊢
  simp only [cond_beq] at h ⊢
  by_cases h1 : x % 16 = 1
  · rw [if_pos h1]
    obtain ⟨x1, rfl⟩ := hx.I h1
    exact ⟨_, ⟨_, rfl, rfl⟩, hF _ x1⟩
  · rw [if_neg h1] at h ⊢
    cases h3 : eIi x with
    | true =>
      obtain ⟨j, rfl, -⟩ := hx.int (eIi_of h3)
      exact ⟨_, ⟨_, rfl, rfl⟩, hz j⟩
    | false => rw [h3] at h; exact absurd rfl h
theorem so_i2b {np : Nat} (hdg : decode cc pc = .ok (.i2b, 1)) (hp : pc + 1 = np) : eSOK g b l mt (nm, cc, mL, rt, hh) pc (hU eB8 np) := by
  subst hp
  refine so_U (eU1 (f := fun n => cnd (Nat.ble (Nat.mod n 256) 127) (eI (Nat.mod n 256)) (eI (Nat.add (Nat.mod n 256) 4294967040))) (z0 := eAny) (F := fun i => .int i.toInt8.toInt32) (fun i => eVal_any _) (fun a ha => ?_)) (fun _ _ _ _ _ _ _ _ _ _ X Z ⟨i, e1, e2⟩ h => by subst e1; subst e2; exact kT_i2b hdg rfl h)
  show eVal g b _ (.int (nI a).toInt8.toInt32)
  rw [nI_i8, cond_ble]
  have hm : a % 256 < 256 := Nat.mod_lt _ (by decide)
  by_cases h : Nat.mod a 256 ≤ 127
  · rw [if_pos h, if_pos (show a % 256 ≤ 127 from h)]; exact eVal_mkI (by show a % 256 < _; omega)
  · rw [if_neg h, if_neg (show ¬ a % 256 ≤ 127 from h)]; exact eVal_mkI (by show a % 256 + 4294967040 < _; omega)
theorem nI_l64 {a : Nat} (ha : a < 4294967296) : (nI a).toInt64 = Int64.ofNat (if a ≤ 2147483647 then a else a + 18446744069414584320) := by
  apply Int64.toInt_inj.mp
  rw [Int32.toInt_toInt64, nI_int ha, Int64.toInt_ofNat', show (Int64.size : Nat) = 18446744073709551616 from rfl]
  simp only [Int.bmod_def]
  repeat' split
  all_goals omega
theorem eIl_v {x : Nat} {X : Value} (hx : eVal g b x X) (h : eIl x = true) : ∃ z, X = .long z := by
  obtain ⟨z, e, -⟩ := hx.long (eIl_of h)
  exact ⟨z, e⟩
theorem so_l2i {np : Nat} (hdg : decode cc pc = .ok (.l2i, 1)) (hp : pc + 1 = np) : eSOK g b l mt (nm, cc, mL, rt, hh) pc (hU (fun x => cnd (eIl x) eAny 0) np) := by
  subst hp
  refine so_U (F := fun X Z => ∃ z : Int64, X = .long z ∧ Z = .int z.toInt32) (fun x X hx h => ?_) (fun _ _ _ _ _ _ _ _ _ _ X Z ⟨i, e1, e2⟩ h => by subst e1; subst e2; exact kT_l2i hdg rfl h)
  cases h1 : eIl x with
  | true =>
    obtain ⟨z, rfl⟩ := eIl_v hx h1
    exact ⟨_, ⟨z, rfl, rfl⟩, eVal_any _⟩
  | false => rw [h1] at h; exact absurd rfl h
theorem eLL_ok {x y : Nat} {X Y : Value} (hx : eVal g b x X) (hy : eVal g b y Y) (h : eLL x y ≠ 0) : eLL x y = 5 ∧ ∃ z1 z2, X = .long z1 ∧ Y = .long z2 := by
  obtain ⟨h1, h2, -⟩ := c3 h
  obtain ⟨z1, e1⟩ := eIl_v hx h1
  obtain ⟨z2, e2⟩ := eIl_v hy h2
  refine ⟨?_, z1, z2, e1, e2⟩
  unfold eLL
  rw [h1, h2]; rfl
theorem eLI_ok {x y : Nat} {X Y : Value} (hx : eVal g b x X) (hy : eVal g b y Y) (h : eLI x y ≠ 0) : eLI x y = 5 ∧ ∃ z1 z2, X = .long z1 ∧ Y = .int z2 := by
  obtain ⟨h1, h2, -⟩ := c3 h
  obtain ⟨z1, e1⟩ := eIl_v hx h1
  obtain ⟨z2, e2, -⟩ := hy.int (eIi_of h2)
  refine ⟨?_, z1, z2, e1, e2⟩
  unfold eLI
  rw [h1, h2]; rfl
theorem so_land {np : Nat} (hdg : decode cc pc = .ok (.land, 1)) (hp : pc + 1 = np) : eSOK g b l mt (nm, cc, mL, rt, hh) pc (hB eLL np) := by
  subst hp
  refine so_B (F := fun X Y Z => ∃ a c, X = .long a ∧ Y = .long c ∧ Z = .long (a &&& c)) (fun x y X Y hx hy h => ?_) (fun _ _ _ _ _ _ _ _ _ _ X Y Z ⟨i, j, e1, e2, e3⟩ h => by subst e1; subst e2; subst e3; exact kT_land hdg h)
  obtain ⟨e, a, c, e1, e2⟩ := eLL_ok hx hy h
  rw [e]
  exact ⟨_, ⟨a, c, e1, e2, rfl⟩, eVal_tl _⟩
theorem so_lor {np : Nat} (hdg : decode cc pc = .ok (.lor, 1)) (hp : pc + 1 = np) : eSOK g b l mt (nm, cc, mL, rt, hh) pc (hB eLL np) := by
  subst hp
  refine so_B (F := fun X Y Z => ∃ a c, X = .long a ∧ Y = .long c ∧ Z = .long (a ||| c)) (fun x y X Y hx hy h => ?_) (fun _ _ _ _ _ _ _ _ _ _ X Y Z ⟨i, j, e1, e2, e3⟩ h => by subst e1; subst e2; subst e3; exact kT_lor hdg h)
  obtain ⟨e, a, c, e1, e2⟩ := eLL_ok hx hy h
  rw [e]
  exact ⟨_, ⟨a, c, e1, e2, rfl⟩, eVal_tl _⟩
theorem so_lshl {np : Nat} (hdg : decode cc pc = .ok (.lshl, 1)) (hp : pc + 1 = np) : eSOK g b l mt (nm, cc, mL, rt, hh) pc (hB eLI np) := by
  subst hp
  refine so_B (F := fun X Y Z => ∃ (a : Int64) (c : Int32), X = .long a ∧ Y = .int c ∧ Z = .long (a <<< (c.toInt64 &&& 63))) (fun x y X Y hx hy h => ?_) (fun _ _ _ _ _ _ _ _ _ _ X Y Z ⟨i, j, e1, e2, e3⟩ h => by subst e1; subst e2; subst e3; exact kT_lshl hdg rfl h)
  obtain ⟨e, a, c, e1, e2⟩ := eLI_ok hx hy h
  rw [e]
  exact ⟨_, ⟨a, c, e1, e2, rfl⟩, eVal_tl _⟩
theorem so_lshr {np : Nat} (hdg : decode cc pc = .ok (.lshr, 1)) (hp : pc + 1 = np) : eSOK g b l mt (nm, cc, mL, rt, hh) pc (hB eLI np) := by
  subst hp
  refine so_B (F := fun X Y Z => ∃ (a : Int64) (c : Int32), X = .long a ∧ Y = .int c ∧ Z = .long (a >>> (c.toInt64 &&& 63))) (fun x y X Y hx hy h => ?_) (fun _ _ _ _ _ _ _ _ _ _ X Y Z ⟨i, j, e1, e2, e3⟩ h => by subst e1; subst e2; subst e3; exact kT_lshr hdg rfl h)
  obtain ⟨e, a, c, e1, e2⟩ := eLI_ok hx hy h
  rw [e]
  exact ⟨_, ⟨a, c, e1, e2, rfl⟩, eVal_tl _⟩
theorem so_lushr {np : Nat} (hdg : decode cc pc = .ok (.lushr, 1)) (hp : pc + 1 = np) : eSOK g b l mt (nm, cc, mL, rt, hh) pc (hB eLI np) := by
  subst hp
  refine so_B (F := fun X Y Z => ∃ (a : Int64) (c : Int32), X = .long a ∧ Y = .int c ∧ Z = .long ((a.toUInt64 >>> (c.toInt64.toUInt64 &&& Int64.toUInt64 63)).toInt64)) (fun x y X Y hx hy h => ?_) (fun _ _ _ _ _ _ _ _ _ _ X Y Z ⟨i, j, e1, e2, e3⟩ h => by subst e1; subst e2; subst e3; exact kT_lushr hdg rfl h)
  obtain ⟨e, a, c, e1, e2⟩ := eLI_ok hx hy h
  rw [e]
  exact ⟨_, ⟨a, c, e1, e2, rfl⟩, eVal_tl _⟩
theorem so_dup {np : Nat} (hdg : decode cc pc = .ok (.dup, 1)) (hp : pc + 1 = np) : eSOK g b l mt (nm, cc, mL, rt, hh) pc (hDup np) := by
  subst hp
  refine so_pure (fun ih dd i lv st t x p u r h => ?_)
  obtain ⟨a, s, es, h1⟩ := eP_some h
  subst es
  obtain ⟨h2, h3⟩ := eGd_some h1
  refine ⟨_, lv, _, h3, fun lc sc M a1 a2 _ => ?_⟩
  obtain ⟨w, ws, rfl, b1, b2⟩ := eSk_cons a2
  exact ⟨lc, w :: w :: ws, a1, ⟨b1, b1, b2⟩, fun K N QR QX kc nc h9 => kT_dup hdg (by rw [eVal_cat b1, cond_ft h2]; rfl) h9⟩
theorem so_pop {np : Nat} (hdg : decode cc pc = .ok (.pop, 1)) (hp : pc + 1 = np) : eSOK g b l mt (nm, cc, mL, rt, hh) pc (hPop np) := by
  subst hp
  refine so_pure (fun ih dd i lv st t x p u r h => ?_)
  obtain ⟨a, s, es, h1⟩ := eP_some h
  subst es
  obtain ⟨h2, h3⟩ := eGd_some h1
  refine ⟨_, lv, _, h3, fun lc sc M a1 a2 _ => ?_⟩
  obtain ⟨w, ws, rfl, b1, b2⟩ := eSk_cons a2
  exact ⟨lc, ws, a1, b2, fun K N QR QX kc nc h9 => kT_pop hdg (by rw [eVal_cat b1, cond_ft h2]; rfl) h9⟩
theorem so_dup2 {np : Nat} (hdg : decode cc pc = .ok (.dup2, 1)) (hp : pc + 1 = np) : eSOK g b l mt (nm, cc, mL, rt, hh) pc (hDup2 np) := by
  subst hp
  refine so_pure (fun ih dd i lv st t x p u r h => ?_)
  obtain ⟨a, s, es, h1⟩ := eP_some h
  subst es
  obtain ⟨c, s', es, h2⟩ := eP_some h1
  subst es
  obtain ⟨h3, h4⟩ := eGd_some h2
  refine ⟨_, lv, _, h4, fun lc sc M a1 a2 _ => ?_⟩
  obtain ⟨w, ws, rfl, b1, b2⟩ := eSk_cons a2
  obtain ⟨w2, ws2, rfl, c1, c2⟩ := eSk_cons b2
  have k1 : eIl a = false := by
    cases h5 : eIl a
    · rfl
    · rw [h5] at h3; cases h3
  rw [k1] at h3
  have k2 : eIl c = false := cond_ft h3
  exact ⟨lc, w :: w2 :: w :: w2 :: ws2, a1, ⟨b1, c1, b1, c1, c2⟩, fun K N QR QX kc nc h9 => kT_dup2_11 hdg (by rw [eVal_cat b1, k1]; rfl) (by rw [eVal_cat c1, k2]; rfl) h9⟩
theorem eNul_ok {a : Nat} {w : Value} (h : eVal g b a w) (hk : cnd (eIa a) (cnd (Nat.beq (Nat.land a 15) 9) false true) false = true) : ∃ z, w = .ref z := by
  have h1 : eIa a = true := by
    cases h5 : eIa a
    · rw [h5] at hk; cases hk
    · rfl
  rw [h1] at hk
  have h2 := cond_ft hk
  obtain ⟨r, e, h | h | h | h | h | h⟩ := h.ref (eIa_of h1).1
  · exact ⟨_, by rw [e, h.2]; rfl⟩
  · exact ⟨_, by rw [e, h.2]; rfl⟩
  · exact ⟨_, by rw [e, h.2]; rfl⟩
  · rw [h.1] at h2; cases h2
  · exact ⟨_, by rw [e, h.2]; rfl⟩
  · obtain ⟨-, z, hz⟩ := h
    exact ⟨z, by rw [e, hz]; rfl⟩
theorem eVal_9 {w : Value} (h : eVal g b 9 w) : w = .null := by
  obtain ⟨r, e, h | h | h | h | h | h⟩ := h.ref (by decide)
  · omega
  · omega
  · omega
  · rw [e, h.2]; rfl
  · omega
  · omega
theorem so_Nul {tgt np : Nat} (rn : ∀ dd lv rest M K N QR QX kc nc, kT l g nm cc mL rt hh dd K N QR QX tgt lv rest M kc nc → kT l g nm cc mL rt hh dd K N QR QX pc lv (.null :: rest) M kc nc) (rr : ∀ dd lv rest M K N QR QX kc nc z, kT l g nm cc mL rt hh dd K N QR QX np lv rest M kc nc → kT l g nm cc mL rt hh dd K N QR QX pc lv (.ref z :: rest) M kc nc) : eSOK g b l mt (nm, cc, mL, rt, hh) pc (hNul tgt np) := by
  refine so_pure (fun ih dd i lv st t x p u r h => ?_)
  obtain ⟨a, s, es, h1⟩ := eP_some h
  subst es
  rw [cond_beq] at h1
  by_cases h9 : a = 9
  · rw [if_pos h9] at h1
    refine ⟨_, lv, _, h1, fun lc sc M a1 a2 _ => ?_⟩
    obtain ⟨w, ws, rfl, b1, b2⟩ := eSk_cons a2
    rw [h9] at b1
    rw [eVal_9 b1]
    exact ⟨lc, ws, a1, b2, fun K N QR QX kc nc h9 => rn _ _ _ _ _ _ _ _ _ _ h9⟩
  · rw [if_neg h9] at h1
    obtain ⟨h2, h3⟩ := eGd_some h1
    refine ⟨_, lv, _, h3, fun lc sc M a1 a2 _ => ?_⟩
    obtain ⟨w, ws, rfl, b1, b2⟩ := eSk_cons a2
    obtain ⟨z, rfl⟩ := eNul_ok b1 h2
    exact ⟨lc, ws, a1, b2, fun K N QR QX kc nc h9 => rr _ _ _ _ _ _ _ _ _ _ z h9⟩
theorem so_ifnull {off : Int} {tgt np : Nat} (hdg : decode cc pc = .ok (.ifnull off, 3)) (ht : (pc : Int) + off = (tgt : Int)) (hp : pc + 3 = np) : eSOK g b l mt (nm, cc, mL, rt, hh) pc (hNul tgt np) := by
  subst hp
  exact so_Nul (fun _ _ _ _ _ _ _ _ _ _ h => kT_ifnullN hdg ht h) (fun _ _ _ _ _ _ _ _ _ _ _ h => kT_ifnull hdg h)
theorem so_ifnonnull {off : Int} {tgt np : Nat} (hdg : decode cc pc = .ok (.ifnonnull off, 3)) (ht : (pc : Int) + off = (tgt : Int)) (hp : pc + 3 = np) : eSOK g b l mt (nm, cc, mL, rt, hh) pc (hNul np tgt) := by
  subst hp
  exact so_Nul (fun _ _ _ _ _ _ _ _ _ _ h => kT_ifnonnullN hdg h) (fun _ _ _ _ _ _ _ _ _ _ _ h => kT_ifnonnull hdg ht h)
end EU

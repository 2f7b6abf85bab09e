/-! ===== instructions that keep the memory ===== -/
theorem cnd_t {α : Type} (x y : α) : cnd true x y = x := rfl
theorem cnd_f {α : Type} (x y : α) : cnd false x y = y := rfl
theorem cond_beq {α : Type} (a b : Nat) (x y : α) : cnd (Nat.beq a b) x y = if a = b then x else y := by
  by_cases h : a = b
  · subst h; rw [Nat.beq_refl, if_pos rfl]; rfl
  · rw [if_neg h]
    cases hb : Nat.beq a b
    · rfl
    · exact absurd (Nat.eq_of_beq_eq_true hb) h
theorem cond_ble {α : Type} (a b : Nat) (x y : α) : cnd (Nat.ble a b) x y = if a ≤ b then x else y := by
  by_cases h : a ≤ b
  · rw [Nat.ble_eq_true_of_le h, if_pos h]; rfl
  · rw [if_neg h]
    cases hb : Nat.ble a b
    · rfl
    · exact absurd (Nat.le_of_ble_eq_true hb) h
theorem beq_t {a b : Nat} (h : Nat.beq a b = true) : a = b := Nat.eq_of_beq_eq_true h
theorem ble_t {a b : Nat} (h : Nat.ble a b = true) : a ≤ b := Nat.le_of_ble_eq_true h
theorem cond_ft {c : Bool} (h : cnd c false true = true) : c = false := by cases c; rfl; cases h
theorem eIi_of {v : Nat} (h : eIi v = true) : v % 16 = 1 ∨ v % 16 = 2 ∨ v % 16 = 3 := by
  unfold eIi at h
  rw [eLnd] at h
  simp only [cond_beq] at h
  split at h
  · omega
  · split at h
    · omega
    · have := beq_t h; omega
theorem eIi_mk {v : Nat} (h : v % 16 = 1 ∨ v % 16 = 2 ∨ v % 16 = 3) : eIi v = true := by
  unfold eIi
  rw [eLnd]
  simp only [cond_beq]
  rcases h with h | h | h <;> simp [h]
theorem eIl_of {v : Nat} (h : eIl v = true) : v % 16 = 4 ∨ v % 16 = 5 := by
  unfold eIl at h
  rw [eLnd] at h
  simp only [cond_beq] at h
  split at h
  · omega
  · have := beq_t h; omega
theorem eIl_no {v : Nat} (h : eIl v = false) : ¬ (v % 16 = 4 ∨ v % 16 = 5) := by
  intro h9
  unfold eIl at h
  rw [eLnd] at h
  rcases h9 with h9 | h9 <;> rw [h9] at h <;> cases h
theorem eIa_of {v : Nat} (h : eIa v = true) : 6 ≤ v % 16 ∧ v % 16 ≤ 11 := by
  unfold eIa at h
  rw [eLnd] at h
  simp only [cond_ble] at h
  split at h
  · exact ⟨by omega, ble_t h⟩
  · cases h
section ES
variable {g : kG} {b : Nat}
theorem eVal.int {v : Nat} {w : Value} (h : eVal g b v w) (hk : v % 16 = 1 ∨ v % 16 = 2 ∨ v % 16 = 3) : ∃ i, w = .int i ∧ eIn g v i := by
  rcases h with h | ⟨z, -, h | h⟩ | ⟨r, -, h | h | h | h | h | h⟩
  · exact h
  all_goals (exfalso; omega)
theorem eVal.long {v : Nat} {w : Value} (h : eVal g b v w) (hk : v % 16 = 4 ∨ v % 16 = 5) : ∃ z, w = .long z ∧ eLn g v z := by
  rcases h with ⟨i, -, h | h | h⟩ | h | ⟨r, -, h | h | h | h | h | h⟩
  · exfalso; omega
  · exfalso; omega
  · exfalso; omega
  · exact h
  all_goals (exfalso; omega)
theorem eVal.ref {v : Nat} {w : Value} (h : eVal g b v w) (hk : 6 ≤ v % 16) : ∃ r, w = va_rf r ∧ eRf g b v r := by
  rcases h with ⟨i, -, h | h | h⟩ | ⟨z, -, h | h⟩ | h
  · exfalso; omega
  · exfalso; omega
  · exfalso; omega
  · exfalso; omega
  · exfalso; omega
  · exact h
theorem eVal.I {v : Nat} {w : Value} (h : eVal g b v w) (hk : v % 16 = 1) : v / 16 < 4294967296 ∧ w = .int (nI (v / 16)) := by
  obtain ⟨i, e, h | h | h⟩ := h.int (Or.inl hk)
  · exact ⟨h.2.1, by rw [e, h.2.2]⟩
  · omega
  · omega
theorem eVal.O {v : Nat} {w : Value} (h : eVal g b v w) (hk : v % 16 = 6) : w = .ref (b + v / 16) := by
  obtain ⟨r, e, h | h | h | h | h | h⟩ := h.ref (by omega)
  · rw [e, h.2]; rfl
  all_goals (exfalso; omega)
theorem eVal_mkI {n : Nat} (h : n < 4294967296) : eVal g b (eI n) (.int (nI n)) := Or.inl ⟨nI n, rfl, Or.inl (by
  have e : eI n = 16 * n + 1 := rfl
  have e2 : eI n / 16 = n := by omega
  rw [e2]
  exact ⟨by omega, h, rfl⟩)⟩
theorem eVal_any (i : Int32) : eVal g b eAny (.int i) := Or.inl ⟨i, rfl, Or.inr (Or.inr (by
  refine ⟨by decide, i.toUInt32.toNat, ?_, ?_, ?_, ?_⟩
  · rw [show eAny / 16 % 4294967296 = 0 by decide]; omega
  · rw [show eAny / 16 / 4294967296 = 4294967295 by decide]
    have := i.toUInt32.toNat_lt
    omega
  · exact i.toUInt32.toNat_lt
  · show i = Int32.ofNat i.toUInt32.toNat
    apply Int32.toBitVec_inj.mp
    simp [Int32.ofNat]))⟩
theorem eVal_O (a : Nat) : eVal g b (eO a) (.ref (b + a)) := Or.inr (Or.inr ⟨some (b + a), rfl, Or.inl (by
  have e : eO a = 16 * a + 6 := rfl
  have e2 : eO a / 16 = a := by omega
  rw [e2]
  exact ⟨by omega, rfl⟩)⟩)
theorem eVal_cat {v : Nat} {w : Value} (h : eVal g b v w) : w.category = cnd (eIl v) 2 1 := by
  cases h9 : eIl v
  · have h8 := eIl_no h9
    rcases h with ⟨i, e, -⟩ | ⟨z, e, h | h⟩ | ⟨r, e, -⟩
    · rw [e]; rfl
    · omega
    · omega
    · rw [e]; cases r <;> rfl
  · have h8 := eIl_of h9
    obtain ⟨z, e, -⟩ := h.long h8
    rw [e]; rfl
theorem eSk_cons {a : Nat} {s : List Nat} {sc : List Value} (h : eSk g b (a :: s) sc) : ∃ w ws, sc = w :: ws ∧ eVal g b a w ∧ eSk g b s ws := by
  cases sc with
  | nil => cases h
  | cons w ws => exact ⟨w, ws, rfl, h.1, h.2⟩
theorem eSk_nil {sc : List Value} (h : eSk g b [] sc) : sc = [] := by
  cases sc with
  | nil => rfl
  | cons w ws => cases h
theorem eCat_ok {st : List Nat} : ∀ {sc : List Value}, eSk g b st sc → (sc.map fun v => v.category).sum = eCat st := by
  induction st with
  | nil => intro sc h; rw [eSk_nil h]; rfl
  | cons a s ih =>
    intro sc h
    obtain ⟨w, ws, rfl, h1, h2⟩ := eSk_cons h
    rw [List.map_cons, List.sum_cons, ih h2, eVal_cat h1]
    show _ = cnd (eIl a) (Nat.succ (Nat.succ (eCat s))) (Nat.succ (eCat s))
    cases eIl a <;> simp [cnd_t, cnd_f] <;> omega
variable {l : Launch} {mt : Nat → eMeta} {nm : MethodName} {cc : ByteArray} {mL : Nat} {rt : Option FieldType} {hh : List (Nat × Nat × Nat × Nat)} {pc : Nat}
def eSO (g : kG) (b : Nat) (l : Launch) (mt : Nat → eMeta) (q : eMeta) (pc : Nat) (o : Option eStep) : Prop := ∀ s, o = some s → eSOK g b l mt q pc s
theorem so_pure {s : eStep} (hs : ∀ ih dd i lv st t x p u r, s ih dd i pc lv st t x p u = some r → ∃ np lv' st', ih dd i np lv' st' t x p u = some r ∧ ∀ lc sc M, eLv g b lv lc → eSk g b st sc → eMm g b t x u M → ∃ lc' sc', eLv g b lv' lc' ∧ eSk g b st' sc' ∧ ∀ K N QR QX kc nc, kT l g nm cc mL rt hh dd K N QR QX np lc' sc' M kc nc → kT l g nm cc mL rt hh dd K N QR QX pc lc sc M kc nc) : eSOK g b l mt (nm, cc, mL, rt, hh) pc s := by
  intro ih hih dd i lv st t x p u r hq hr
  obtain ⟨np, lv', st', h1, h2⟩ := hs ih dd i lv st t x p u r hr
  have G := hih _ _ _ _ _ _ _ _ _ _ h1
  rw [hq] at G
  obtain ⟨g1, g2, g3⟩ := G
  refine ⟨g1, g2, fun lc sc M K N QR QX kc nc a1 a2 a3 a4 a5 a6 a7 => ?_⟩
  obtain ⟨lc', sc', b1, b2, b3⟩ := h2 lc sc M a1 a2 a3
  exact b3 K N QR QX kc nc (g3 lc' sc' M K N QR QX kc nc b1 b2 a3 a4 a5 a6 a7)
theorem so_mem {s : eStep} (hs : ∀ ih dd i lv st t x p u r, s ih dd i pc lv st t x p u = some r → ∃ np lv' st' t', ih dd i np lv' st' t' x p u = some r ∧ ∀ lc sc M, eLv g b lv lc → eSk g b st sc → eMm g b t x u M → ∃ lc' sc' M', eLv g b lv' lc' ∧ eSk g b st' sc' ∧ eMm g b t' x u M' ∧ ∀ K N QR QX kc nc, kT l g nm cc mL rt hh dd K N QR QX np lc' sc' M' kc nc → kT l g nm cc mL rt hh dd K N QR QX pc lc sc M kc nc) : eSOK g b l mt (nm, cc, mL, rt, hh) pc s := by
  intro ih hih dd i lv st t x p u r hq hr
  obtain ⟨np, lv', st', t', h1, h2⟩ := hs ih dd i lv st t x p u r hr
  have G := hih _ _ _ _ _ _ _ _ _ _ h1
  rw [hq] at G
  obtain ⟨g1, g2, g3⟩ := G
  refine ⟨g1, g2, fun lc sc M K N QR QX kc nc a1 a2 a3 a4 a5 a6 a7 => ?_⟩
  obtain ⟨lc', sc', M', b1, b2, b4, b3⟩ := h2 lc sc M a1 a2 a3
  exact b3 K N QR QX kc nc (g3 lc' sc' M' K N QR QX kc nc b1 b2 b4 a4 a5 a6 a7)
theorem so_new {s : eStep} (hs : ∀ ih dd i lv st t x p u r, s ih dd i pc lv st t x p u = some r → ∃ np lv' st' t' x' p' u', ih dd i np lv' st' t' x' p' u' = some r ∧ x ≤ x' ∧ p ≤ p' ∧ ∀ lc sc M, eLv g b lv lc → eSk g b st sc → eMm g b t x u M → ∀ K N QR QX kc nc, x' - x ≤ kc → p' - p ≤ nc → (∀ lc' sc' M', eLv g b lv' lc' → eSk g b st' sc' → eMm g b t' x' u' M' → kT l g nm cc mL rt hh dd K N QR QX np lc' sc' M' (kc - (x' - x)) (nc - (p' - p))) → kT l g nm cc mL rt hh dd K N QR QX pc lc sc M kc nc) : eSOK g b l mt (nm, cc, mL, rt, hh) pc s := by
  intro ih hih dd i lv st t x p u r hq hr
  obtain ⟨np, lv', st', t', x', p', u', h1, hx, hp, h2⟩ := hs ih dd i lv st t x p u r hr
  have G := hih _ _ _ _ _ _ _ _ _ _ h1
  rw [hq] at G
  obtain ⟨g1, g2, g3⟩ := G
  refine ⟨by omega, by omega, fun lc sc M K N QR QX kc nc a1 a2 a3 a4 a5 a6 a7 => h2 lc sc M a1 a2 a3 K N QR QX kc nc (by omega) (by omega) (fun lc' sc' M' b1 b2 b3 => g3 lc' sc' M' K N QR QX _ _ b1 b2 b3 (by omega) (by omega) a6 ?_)⟩
  rw [show kc - (x' - x) - (r.2.2.2.1 - x') = kc - (r.2.2.2.1 - x) by omega, show nc - (p' - p) - (r.2.2.2.2.1 - p') = nc - (r.2.2.2.2.1 - p) by omega]
  exact a7
theorem so_K {v np : Nat} {w : Value} (hv : eVal g b v w) (row : ∀ dd lv rest M K N QR QX kc nc, kT l g nm cc mL rt hh dd K N QR QX np lv (w :: rest) M kc nc → kT l g nm cc mL rt hh dd K N QR QX pc lv rest M kc nc) : eSOK g b l mt (nm, cc, mL, rt, hh) pc (hK v np) :=
  so_pure (fun ih dd i lv st t x p u r h => ⟨np, lv, v :: st, h, fun lc sc M a1 a2 _ => ⟨lc, w :: sc, a1, ⟨hv, a2⟩, fun K N QR QX kc nc h9 => row _ _ _ _ _ _ _ _ _ _ h9⟩⟩)
theorem so_iconst {n : Int} {m v np : Nat} (hdg : decode cc pc = .ok (.iconst n, 1)) (hv : Int32.ofInt n = nI m) (hm : Nat.ble m 4294967295 = true) (hc : eI m = v) (hp : pc + 1 = np) : eSOK g b l mt (nm, cc, mL, rt, hh) pc (hK v np) := by
  subst hc; subst hp
  exact so_K (eVal_mkI (by have := ble_t hm; omega)) (fun _ _ _ _ _ _ _ _ _ _ h => kT_iconst hdg hv h)
theorem so_bipush {n : Int} {m v np : Nat} (hdg : decode cc pc = .ok (.bipush n, 2)) (hv : (Int8.ofInt n).toInt32 = nI m) (hm : Nat.ble m 4294967295 = true) (hc : eI m = v) (hp : pc + 2 = np) : eSOK g b l mt (nm, cc, mL, rt, hh) pc (hK v np) := by
  subst hc; subst hp
  exact so_K (eVal_mkI (by have := ble_t hm; omega)) (fun _ _ _ _ _ _ _ _ _ _ h => kT_bipush hdg hv h)
theorem so_sipush {n : Int} {m v np : Nat} (hdg : decode cc pc = .ok (.sipush n, 3)) (hv : (Int16.ofInt n).toInt32 = nI m) (hm : Nat.ble m 4294967295 = true) (hc : eI m = v) (hp : pc + 3 = np) : eSOK g b l mt (nm, cc, mL, rt, hh) pc (hK v np) := by
  subst hc; subst hp
  exact so_K (eVal_mkI (by have := ble_t hm; omega)) (fun _ _ _ _ _ _ _ _ _ _ h => kT_sipush hdg hv h)
theorem so_ldc {index m v np : Nat} {z : Int32} (hdg : decode cc pc = .ok (.ldc index, 2)) (hw : Cond.constant nm.cls index z ∈ kTb) (hv : z = nI m) (hm : Nat.ble m 4294967295 = true) (hc : eI m = v) (hp : pc + 2 = np) : eSOK g b l mt (nm, cc, mL, rt, hh) pc (hK v np) := by
  subst hc; subst hp; subst hv
  exact so_K (eVal_mkI (by have := ble_t hm; omega)) (fun _ _ _ _ _ _ _ _ _ _ h => kT_ldc hdg hw h)
theorem eVal_tl (z : Int64) : eVal g b 5 (.long z) := Or.inr (Or.inl ⟨z, rfl, Or.inr ⟨rfl, fun h => absurd rfl h⟩⟩)
theorem eVal_lg {n : Nat} (h : n < 18446744073709551616) : eVal g b (eLg n) (.long (Int64.ofNat n)) := Or.inr (Or.inl ⟨_, rfl, Or.inl (by
  have e : eLg n = 16 * n + 4 := rfl
  have e2 : eLg n / 16 = n := by omega
  rw [e2]
  exact ⟨by omega, h, rfl⟩)⟩)
theorem so_ldc2 {index np : Nat} {z : Int64} (hdg : decode cc pc = .ok (.ldc2_w index, 3)) (hw : Cond.constantLong nm.cls index z ∈ kTb) (hp : pc + 3 = np) : eSOK g b l mt (nm, cc, mL, rt, hh) pc (hK 5 np) := by
  subst hp
  exact so_K (eVal_tl z) (fun _ _ _ _ _ _ _ _ _ _ h => kT_ldc2 hdg hw h)
theorem so_lconst {n : Fin 2} {v np : Nat} (hdg : decode cc pc = .ok (.lconst n, 1)) (hc : eLg (n : Nat) = v) (hp : pc + 1 = np) : eSOK g b l mt (nm, cc, mL, rt, hh) pc (hK v np) := by
  subst hc; subst hp
  exact so_K (eVal_lg (by omega)) (fun _ _ _ _ _ _ _ _ _ _ h => kT_lconst hdg rfl h)
theorem so_null {np : Nat} (hdg : decode cc pc = .ok (.aconst_null, 1)) (hp : pc + 1 = np) : eSOK g b l mt (nm, cc, mL, rt, hh) pc (hK 9 np) := by
  subst hp
  exact so_K (w := .null) (Or.inr (Or.inr ⟨none, rfl, Or.inr (Or.inr (Or.inr (Or.inl ⟨rfl, rfl⟩)))⟩)) (fun _ _ _ _ _ _ _ _ _ _ h => kT_null hdg h)
theorem so_getsN {idx np : Nat} (hdg : decode cc pc = .ok (.getstatic idx, 3)) (hw : Cond.fieldLink nm.cls idx RX11 "NO_NUMBERS" "[I" ∈ kTb) (hp : pc + 3 = np) : eSOK g b l mt (nm, cc, mL, rt, hh) pc (hK 7 np) := by
  subst hp
  exact so_K (w := .ref (gN g)) (Or.inr (Or.inr ⟨some (gN g), rfl, Or.inr (Or.inl ⟨rfl, rfl⟩)⟩)) (fun _ _ _ _ _ _ _ _ _ _ h => kT_getsN hdg hw h)
theorem so_getsW {idx np : Nat} (hdg : decode cc pc = .ok (.getstatic idx, 3)) (hw : Cond.fieldLink nm.cls idx RX11 "NO_WORDS" "[J" ∈ kTb) (hp : pc + 3 = np) : eSOK g b l mt (nm, cc, mL, rt, hh) pc (hK 8 np) := by
  subst hp
  exact so_K (w := .ref (gW g)) (Or.inr (Or.inr ⟨some (gW g), rfl, Or.inr (Or.inr (Or.inl ⟨rfl, rfl⟩))⟩)) (fun _ _ _ _ _ _ _ _ _ _ h => kT_getsW hdg hw h)
theorem so_getsNN {idx np : Nat} {host : String} (hdg : decode cc pc = .ok (.getstatic idx, 3)) (hw : Cond.fieldLinkNest nm.cls idx RX11 "NO_NUMBERS" "[I" host ∈ kNw) (hp : pc + 3 = np) : eSOK g b l mt (nm, cc, mL, rt, hh) pc (hK 7 np) := by
  subst hp
  exact so_K (w := .ref (gN g)) (Or.inr (Or.inr ⟨some (gN g), rfl, Or.inr (Or.inl ⟨rfl, rfl⟩)⟩)) (fun _ _ _ _ _ _ _ _ _ _ h => kT_getsNN hdg hw h)
theorem so_goto {off : Int} {tgt : Nat} (hdg : decode cc pc = .ok (.goto off, 3)) (ht : (pc : Int) + off = (tgt : Int)) : eSOK g b l mt (nm, cc, mL, rt, hh) pc (hGo tgt) :=
  so_pure (fun ih dd i lv st t x p u r h => ⟨tgt, lv, st, h, fun lc sc M a1 a2 _ => ⟨lc, sc, a1, a2, fun K N QR QX kc nc h9 => kT_goto hdg ht h9⟩⟩)
/-- loads -/
theorem so_Ld {ok : Nat → Bool} {j np : Nat} {k : Value → Prop} (hok : ∀ v w, ok v = true → eVal g b v w → v ≠ 0 ∧ k w) (hz : ok 0 = false) (row : ∀ dd lv rest M K N QR QX kc nc w, k w → kGet lv j = some w → kT l g nm cc mL rt hh dd K N QR QX np lv (w :: rest) M kc nc → kT l g nm cc mL rt hh dd K N QR QX pc lv rest M kc nc) : eSOK g b l mt (nm, cc, mL, rt, hh) pc (hLd ok j np) := by
  refine so_pure (fun ih dd i lv st t x p u r h => ?_)
  unfold hLd at h
  rw [fo_eq] at h
  obtain ⟨h1, h2⟩ := eGd_some h
  refine ⟨np, lv, _, h2, fun lc sc M a1 a2 _ => ?_⟩
  obtain ⟨w, b1, b2⟩ := a1 j (fun e => by rw [e, hz] at h1; cases h1)
  exact ⟨lc, w :: sc, a1, ⟨b2, a2⟩, fun K N QR QX kc nc h9 => row _ _ _ _ _ _ _ _ _ _ w (hok _ w h1 b2).2 b1 h9⟩
theorem ok_i : ∀ v w, eIi v = true → eVal g b v w → v ≠ 0 ∧ ∃ i, w = .int i := fun v w h h2 => ⟨fun e => (by rw [e] at h; cases h), by obtain ⟨i, e, -⟩ := h2.int (eIi_of h); exact ⟨i, e⟩⟩
theorem ok_l : ∀ v w, eIl v = true → eVal g b v w → v ≠ 0 ∧ ∃ i, w = .long i := fun v w h h2 => ⟨fun e => (by rw [e] at h; cases h), by obtain ⟨i, e, -⟩ := h2.long (eIl_of h); exact ⟨i, e⟩⟩
theorem ok_a : ∀ v w, eIa v = true → eVal g b v w → v ≠ 0 ∧ ∃ r, w = va_rf r := fun v w h h2 => ⟨fun e => (by rw [e] at h; cases h), by obtain ⟨i, e, -⟩ := h2.ref (eIa_of h).1; exact ⟨i, e⟩⟩
theorem so_iload_n {k0 : Fin 4} {j np : Nat} (hdg : decode cc pc = .ok (.iload_n k0, 1)) (hj : (k0 : Nat) = j) (hp : pc + 1 = np) : eSOK g b l mt (nm, cc, mL, rt, hh) pc (hLd eIi j np) := by
  subst hj; subst hp
  exact so_Ld ok_i rfl (fun _ _ _ _ _ _ _ _ _ _ w ⟨z, hz⟩ hg h => by subst hz; exact kT_iload_n hdg hg h)
theorem so_iload {j np : Nat} (hdg : decode cc pc = .ok (.iload j, 2)) (hp : pc + 2 = np) : eSOK g b l mt (nm, cc, mL, rt, hh) pc (hLd eIi j np) := by
  subst hp
  exact so_Ld ok_i rfl (fun _ _ _ _ _ _ _ _ _ _ w ⟨z, hz⟩ hg h => by subst hz; exact kT_iload hdg hg h)
theorem so_lload_n {k0 : Fin 4} {j np : Nat} (hdg : decode cc pc = .ok (.lload_n k0, 1)) (hj : (k0 : Nat) = j) (hp : pc + 1 = np) : eSOK g b l mt (nm, cc, mL, rt, hh) pc (hLd eIl j np) := by
  subst hj; subst hp
  exact so_Ld ok_l rfl (fun _ _ _ _ _ _ _ _ _ _ w ⟨z, hz⟩ hg h => by subst hz; exact kT_lload_n hdg hg h)
theorem so_aload_n {k0 : Fin 4} {j np : Nat} (hdg : decode cc pc = .ok (.aload_n k0, 1)) (hj : (k0 : Nat) = j) (hp : pc + 1 = np) : eSOK g b l mt (nm, cc, mL, rt, hh) pc (hLd eIa j np) := by
  subst hj; subst hp
  refine so_Ld ok_a rfl (fun _ _ _ _ _ _ _ _ _ _ w ⟨z, hz⟩ hg h => ?_)
  subst hz
  cases z with
  | none => exact kT_aload_nN hdg hg h
  | some z => exact kT_aload_n hdg hg h
theorem so_aload {j np : Nat} (hdg : decode cc pc = .ok (.aload j, 2)) (hp : pc + 2 = np) : eSOK g b l mt (nm, cc, mL, rt, hh) pc (hLd eIa j np) := by
  subst hp
  refine so_Ld ok_a rfl (fun _ _ _ _ _ _ _ _ _ _ w ⟨z, hz⟩ hg h => ?_)
  subst hz
  cases z with
  | none => exact kT_aloadN hdg hg h
  | some z => exact kT_aload hdg hg h
end ES

/-! ===== instructions: stores, arithmetic, branches ===== -/
section ET
variable {g : kG} {b : Nat} {l : Launch} {mt : Nat → eMeta} {nm : MethodName} {cc : ByteArray} {mL : Nat} {rt : Option FieldType} {hh : List (Nat × Nat × Nat × Nat)} {pc : Nat}
theorem eLtA {A B C D N M : Nat} (h1 : A ≤ N) (h2 : N ≤ B) (h3 : C ≤ M) (h4 : M ≤ D) : (cnd (Nat.ble (Nat.succ B) C) 1 (cnd (Nat.ble D A) 0 2) = 1 → N < M) ∧ (cnd (Nat.ble (Nat.succ B) C) 1 (cnd (Nat.ble D A) 0 2) = 0 → ¬ N < M) := by
  simp only [cond_ble]
  repeat' split
  all_goals (constructor <;> intro h <;> omega)
theorem eLtB {p q : Bool} {X n : Nat} (h : cnd p (cnd q X 2) 2 = n) (hn : n ≠ 2) : p = true ∧ q = true ∧ X = n := by
  cases p with
  | false => exact absurd h.symm hn
  | true =>
    cases q with
    | false => exact absurd h.symm hn
    | true => exact ⟨rfl, rfl, h⟩
theorem eLt_ok {a b c d n m : Nat} (hn : n < 4294967296) (hm : m < 4294967296) (h1 : a ≤ n) (h2 : n ≤ b) (h3 : c ≤ m) (h4 : m ≤ d) : (eLt a b c d = 1 → nI n < nI m) ∧ (eLt a b c d = 0 → ¬ nI n < nI m) := by
  constructor
  · intro h
    unfold eLt at h
    obtain ⟨e1, e2, hX⟩ := eLtB h (by decide)
    have i1 := eSg_in e1 h1 h2
    have i2 := eSg_in e2 h3 h4
    exact (nI_ltS hn hm).mpr ((eLtA i1.1 i1.2 i2.1 i2.2).1 hX)
  · intro h
    unfold eLt at h
    obtain ⟨e1, e2, hX⟩ := eLtB h (by decide)
    have i1 := eSg_in e1 h1 h2
    have i2 := eSg_in e2 h3 h4
    exact fun z => (eLtA i1.1 i1.2 i2.1 i2.2).2 hX ((nI_ltS hn hm).mp z)
theorem eNo_ok {r : Nat} : (eNo r = 1 → r = 0) ∧ (eNo r = 0 → r = 1) := by
  unfold eNo
  simp only [cond_beq]
  repeat' split
  all_goals (constructor <;> intro h <;> omega)
/-- the six conditions -/
def eCd (op : Nat) (x y : Int32) : Prop := match op with
  | 0 => x = y
  | 1 => ¬ x = y
  | 2 => x < y
  | 3 => y ≤ x
  | 4 => y < x
  | _ => x ≤ y
theorem i32_nlt {x y : Int32} : ¬ x < y ↔ y ≤ x := Int32.not_lt
theorem eCmp_ok {op a b c d n m : Nat} (hn : n < 4294967296) (hm : m < 4294967296) (h1 : a ≤ n) (h2 : n ≤ b) (h3 : c ≤ m) (h4 : m ≤ d) : (eCmp op a b c d = 1 → eCd op (nI n) (nI m)) ∧ (eCmp op a b c d = 0 → ¬ eCd op (nI n) (nI m)) := by
  have hE := eEq_ok h1 h2 h3 h4
  have hL := eLt_ok hn hm h1 h2 h3 h4
  have hG := eLt_ok hm hn h3 h4 h1 h2
  have hI : nI n = nI m ↔ n = m := nI_inj hn hm
  match op with
  | 0 => exact ⟨fun h => hI.mpr (hE.1 h), fun h z => hE.2 h (hI.mp z)⟩
  | 1 => exact ⟨fun h z => hE.2 (eNo_ok.1 h) (hI.mp z), fun h z => z (hI.mpr (hE.1 (eNo_ok.2 h)))⟩
  | 2 => exact hL
  | 3 => exact ⟨fun h => i32_nlt.mp (hL.2 (eNo_ok.1 h)), fun h z => (i32_nlt.mpr z) (hL.1 (eNo_ok.2 h))⟩
  | 4 => exact hG
  | (k + 5) => exact ⟨fun h => i32_nlt.mp (hG.2 (eNo_ok.1 h)), fun h z => (i32_nlt.mpr z) (hG.1 (eNo_ok.2 h))⟩
theorem eBr_ok {α : Type} {r : Nat} {y n : Option α} {z : α} (h : eBr r y n = some z) : (r = 1 ∧ y = some z) ∨ (r = 0 ∧ n = some z) := by
  unfold eBr at h
  simp only [cond_beq] at h
  split at h
  · exact Or.inl ⟨by omega, h⟩
  · split at h
    · exact Or.inr ⟨by omega, h⟩
    · cases h
theorem so_If {B : eBd} (hE : eEnv g B) {op tgt np : Nat} (row : ∀ dd lv rest M K N QR QX kc nc x, (eCd op x 0 → kT l g nm cc mL rt hh dd K N QR QX tgt lv rest M kc nc) → (¬ eCd op x 0 → kT l g nm cc mL rt hh dd K N QR QX np lv rest M kc nc) → kT l g nm cc mL rt hh dd K N QR QX pc lv (.int x :: rest) M kc nc) : eSOK g b l mt (nm, cc, mL, rt, hh) pc (hIf B op tgt np) := by
  refine so_pure (fun ih dd i lv st t x p u r h => ?_)
  obtain ⟨a, s, es, h1⟩ := eP_some h
  subst es
  obtain ⟨hk, lo, hi, h2, hn⟩ := eRng_ok hE h1
  rcases eBr_ok h2 with ⟨e, h⟩ | ⟨e, h⟩
  · refine ⟨tgt, lv, s, h, fun lc sc M a1 a2 _ => ?_⟩
    obtain ⟨w, ws, rfl, b1, b2⟩ := eSk_cons a2
    obtain ⟨z, rfl, b3⟩ := b1.int hk
    obtain ⟨n, rfl, n1, n2, n3⟩ := hn z b3
    have C := (eCmp_ok (op := op) (m := 0) n1 (by decide) n2 n3 (Nat.le_refl 0) (Nat.le_refl 0)).1 e
    exact ⟨lc, ws, a1, b2, fun K N QR QX kc nc h9 => row _ _ _ _ _ _ _ _ _ _ _ (fun _ => h9) (fun z => absurd C z)⟩
  · refine ⟨np, lv, s, h, fun lc sc M a1 a2 _ => ?_⟩
    obtain ⟨w, ws, rfl, b1, b2⟩ := eSk_cons a2
    obtain ⟨z, rfl, b3⟩ := b1.int hk
    obtain ⟨n, rfl, n1, n2, n3⟩ := hn z b3
    have C := (eCmp_ok (op := op) (m := 0) n1 (by decide) n2 n3 (Nat.le_refl 0) (Nat.le_refl 0)).2 e
    exact ⟨lc, ws, a1, b2, fun K N QR QX kc nc h9 => row _ _ _ _ _ _ _ _ _ _ _ (fun z => absurd z C) (fun _ => h9)⟩
theorem so_Ic {B : eBd} (hE : eEnv g B) {op tgt np : Nat} (row : ∀ dd lv rest M K N QR QX kc nc x y, (eCd op x y → kT l g nm cc mL rt hh dd K N QR QX tgt lv rest M kc nc) → (¬ eCd op x y → kT l g nm cc mL rt hh dd K N QR QX np lv rest M kc nc) → kT l g nm cc mL rt hh dd K N QR QX pc lv (.int y :: .int x :: rest) M kc nc) : eSOK g b l mt (nm, cc, mL, rt, hh) pc (hIc B op tgt np) := by
  refine so_pure (fun ih dd i lv st t x p u r h => ?_)
  obtain ⟨c, s, es, h1⟩ := eP_some h
  subst es
  obtain ⟨a, s', es, h2⟩ := eP_some h1
  subst es
  obtain ⟨hk, lo, hi, h3, hn⟩ := eRng_ok hE h2
  obtain ⟨hk2, lo2, hi2, h4, hn2⟩ := eRng_ok hE h3
  rcases eBr_ok h4 with ⟨e, h⟩ | ⟨e, h⟩
  · refine ⟨tgt, lv, s', h, fun lc sc M a1 a2 _ => ?_⟩
    obtain ⟨w2, ws2, rfl, c1, b4⟩ := eSk_cons a2
    obtain ⟨w, ws, rfl, b1, b2⟩ := eSk_cons b4
    obtain ⟨z, rfl, b3⟩ := b1.int hk
    obtain ⟨z2, rfl, c3⟩ := c1.int hk2
    obtain ⟨n, rfl, n1, n2, n3⟩ := hn z b3
    obtain ⟨m, rfl, m1, m2, m3⟩ := hn2 z2 c3
    have C := (eCmp_ok (op := op) n1 m1 n2 n3 m2 m3).1 e
    exact ⟨lc, ws, a1, b2, fun K N QR QX kc nc h9 => row _ _ _ _ _ _ _ _ _ _ _ _ (fun _ => h9) (fun z => absurd C z)⟩
  · refine ⟨np, lv, s', h, fun lc sc M a1 a2 _ => ?_⟩
    obtain ⟨w2, ws2, rfl, c1, b4⟩ := eSk_cons a2
    obtain ⟨w, ws, rfl, b1, b2⟩ := eSk_cons b4
    obtain ⟨z, rfl, b3⟩ := b1.int hk
    obtain ⟨z2, rfl, c3⟩ := c1.int hk2
    obtain ⟨n, rfl, n1, n2, n3⟩ := hn z b3
    obtain ⟨m, rfl, m1, m2, m3⟩ := hn2 z2 c3
    have C := (eCmp_ok (op := op) n1 m1 n2 n3 m2 m3).2 e
    exact ⟨lc, ws, a1, b2, fun K N QR QX kc nc h9 => row _ _ _ _ _ _ _ _ _ _ _ _ (fun z => absurd z C) (fun _ => h9)⟩
theorem so_if_eq {B : eBd} (hE : eEnv g B) {off : Int} {tgt np : Nat} (hdg : decode cc pc = .ok (.ifCond .eq off, 3)) (ht : (pc : Int) + off = (tgt : Int)) (hp : pc + 3 = np) : eSOK g b l mt (nm, cc, mL, rt, hh) pc (hIf B 0 tgt np) := by
  subst hp
  exact so_If hE (fun _ _ _ _ _ _ _ _ _ _ x kt kf => kT_if_eq hdg ht (fun z => kt z) (fun z => kf z))
theorem so_icmp_eq {B : eBd} (hE : eEnv g B) {off : Int} {tgt np : Nat} (hdg : decode cc pc = .ok (.if_icmp .eq off, 3)) (ht : (pc : Int) + off = (tgt : Int)) (hp : pc + 3 = np) : eSOK g b l mt (nm, cc, mL, rt, hh) pc (hIc B 0 tgt np) := by
  subst hp
  exact so_Ic hE (fun _ _ _ _ _ _ _ _ _ _ x y kt kf => kT_icmp_eq hdg ht (fun z => kt z) (fun z => kf z))
theorem so_if_ne {B : eBd} (hE : eEnv g B) {off : Int} {tgt np : Nat} (hdg : decode cc pc = .ok (.ifCond .ne off, 3)) (ht : (pc : Int) + off = (tgt : Int)) (hp : pc + 3 = np) : eSOK g b l mt (nm, cc, mL, rt, hh) pc (hIf B 1 tgt np) := by
  subst hp
  exact so_If hE (fun _ _ _ _ _ _ _ _ _ _ x kt kf => kT_if_ne hdg ht (fun z => kt z) (fun z => kf (fun y => y z)))
theorem so_icmp_ne {B : eBd} (hE : eEnv g B) {off : Int} {tgt np : Nat} (hdg : decode cc pc = .ok (.if_icmp .ne off, 3)) (ht : (pc : Int) + off = (tgt : Int)) (hp : pc + 3 = np) : eSOK g b l mt (nm, cc, mL, rt, hh) pc (hIc B 1 tgt np) := by
  subst hp
  exact so_Ic hE (fun _ _ _ _ _ _ _ _ _ _ x y kt kf => kT_icmp_ne hdg ht (fun z => kt z) (fun z => kf (fun y => y z)))
theorem so_if_lt {B : eBd} (hE : eEnv g B) {off : Int} {tgt np : Nat} (hdg : decode cc pc = .ok (.ifCond .lt off, 3)) (ht : (pc : Int) + off = (tgt : Int)) (hp : pc + 3 = np) : eSOK g b l mt (nm, cc, mL, rt, hh) pc (hIf B 2 tgt np) := by
  subst hp
  exact so_If hE (fun _ _ _ _ _ _ _ _ _ _ x kt kf => kT_if_lt hdg ht (fun z => kt z) (fun z => kf z))
theorem so_icmp_lt {B : eBd} (hE : eEnv g B) {off : Int} {tgt np : Nat} (hdg : decode cc pc = .ok (.if_icmp .lt off, 3)) (ht : (pc : Int) + off = (tgt : Int)) (hp : pc + 3 = np) : eSOK g b l mt (nm, cc, mL, rt, hh) pc (hIc B 2 tgt np) := by
  subst hp
  exact so_Ic hE (fun _ _ _ _ _ _ _ _ _ _ x y kt kf => kT_icmp_lt hdg ht (fun z => kt z) (fun z => kf z))
theorem so_if_ge {B : eBd} (hE : eEnv g B) {off : Int} {tgt np : Nat} (hdg : decode cc pc = .ok (.ifCond .ge off, 3)) (ht : (pc : Int) + off = (tgt : Int)) (hp : pc + 3 = np) : eSOK g b l mt (nm, cc, mL, rt, hh) pc (hIf B 3 tgt np) := by
  subst hp
  exact so_If hE (fun _ _ _ _ _ _ _ _ _ _ x kt kf => kT_if_ge hdg ht (fun z => kt z) (fun z => kf z))
theorem so_icmp_ge {B : eBd} (hE : eEnv g B) {off : Int} {tgt np : Nat} (hdg : decode cc pc = .ok (.if_icmp .ge off, 3)) (ht : (pc : Int) + off = (tgt : Int)) (hp : pc + 3 = np) : eSOK g b l mt (nm, cc, mL, rt, hh) pc (hIc B 3 tgt np) := by
  subst hp
  exact so_Ic hE (fun _ _ _ _ _ _ _ _ _ _ x y kt kf => kT_icmp_ge hdg ht (fun z => kt z) (fun z => kf z))
theorem so_if_gt {B : eBd} (hE : eEnv g B) {off : Int} {tgt np : Nat} (hdg : decode cc pc = .ok (.ifCond .gt off, 3)) (ht : (pc : Int) + off = (tgt : Int)) (hp : pc + 3 = np) : eSOK g b l mt (nm, cc, mL, rt, hh) pc (hIf B 4 tgt np) := by
  subst hp
  exact so_If hE (fun _ _ _ _ _ _ _ _ _ _ x kt kf => kT_if_gt hdg ht (fun z => kt z) (fun z => kf z))
theorem so_icmp_gt {B : eBd} (hE : eEnv g B) {off : Int} {tgt np : Nat} (hdg : decode cc pc = .ok (.if_icmp .gt off, 3)) (ht : (pc : Int) + off = (tgt : Int)) (hp : pc + 3 = np) : eSOK g b l mt (nm, cc, mL, rt, hh) pc (hIc B 4 tgt np) := by
  subst hp
  exact so_Ic hE (fun _ _ _ _ _ _ _ _ _ _ x y kt kf => kT_icmp_gt hdg ht (fun z => kt z) (fun z => kf z))
theorem so_if_le {B : eBd} (hE : eEnv g B) {off : Int} {tgt np : Nat} (hdg : decode cc pc = .ok (.ifCond .le off, 3)) (ht : (pc : Int) + off = (tgt : Int)) (hp : pc + 3 = np) : eSOK g b l mt (nm, cc, mL, rt, hh) pc (hIf B 5 tgt np) := by
  subst hp
  exact so_If hE (fun _ _ _ _ _ _ _ _ _ _ x kt kf => kT_if_le hdg ht (fun z => kt z) (fun z => kf z))
theorem so_icmp_le {B : eBd} (hE : eEnv g B) {off : Int} {tgt np : Nat} (hdg : decode cc pc = .ok (.if_icmp .le off, 3)) (ht : (pc : Int) + off = (tgt : Int)) (hp : pc + 3 = np) : eSOK g b l mt (nm, cc, mL, rt, hh) pc (hIc B 5 tgt np) := by
  subst hp
  exact so_Ic hE (fun _ _ _ _ _ _ _ _ _ _ x y kt kf => kT_icmp_le hdg ht (fun z => kt z) (fun z => kf z))
theorem eLv_st {lv : List Nat} {lc : List (Nat × Value)} {j v : Nat} {w : Value} {lv' : List Nat} (h : eLv g b lv lc) (hv : eVal g b v w) (hl : eIl (eNth lv (Nat.pred j)) = false) (h2 : ∀ k, eNth lv' k = if k = j ∧ j < lv.length then v else eNth lv k) (hj : ¬ j < lv.length → eNth lv j = 0) : eLv g b lv' (kSet lc j w) := by
  intro k hk
  rw [h2 k] at hk ⊢
  by_cases e : k = j ∧ j < lv.length
  · rw [if_pos e, e.1]
    exact ⟨w, kGet_set, hv⟩
  · rw [if_neg e] at hk ⊢
    obtain ⟨w9, c1, c2⟩ := h k hk
    have hne : k ≠ j := fun z => hk (by rw [z]; exact hj (fun y => e ⟨z, y⟩))
    refine ⟨w9, kGet_keep hne c1 (fun hc z => ?_), c2⟩
    rw [show Nat.pred j = k by rw [Nat.pred_eq_sub_one]; omega] at hl
    rw [eVal_cat c2, hl] at hc
    cases hc
theorem eNth_out {l : List Nat} : ∀ {i : Nat}, ¬ i < l.length → eNth l i = 0 := by
  induction l with
  | nil => intro i _; rfl
  | cons a t ih =>
    intro i h
    cases i with
    | zero => exact absurd (Nat.succ_pos _) h
    | succ i => rw [eNth_s]; exact ih (fun z => h (Nat.succ_lt_succ z))
theorem so_St {ok : Nat → Bool} {j np : Nat} {k : Value → Prop} (hok : ∀ v w, ok v = true → eVal g b v w → v ≠ 0 ∧ k w) (row : ∀ dd lv rest M K N QR QX kc nc w, k w → kT l g nm cc mL rt hh dd K N QR QX np (kSet lv j w) rest M kc nc → kT l g nm cc mL rt hh dd K N QR QX pc lv (w :: rest) M kc nc) : eSOK g b l mt (nm, cc, mL, rt, hh) pc (hSt ok j np) := by
  refine so_pure (fun ih dd i lv st t x p u r h => ?_)
  obtain ⟨v, s, es, h1⟩ := eP_some h
  subst es
  obtain ⟨h2, h3⟩ := eGd_some h1
  obtain ⟨h4, h5⟩ := eGd_some h3
  obtain ⟨lv', e1, e2⟩ := eSn_ok lv j v
  rw [e2] at h5
  refine ⟨np, lv', s, h5, fun lc sc M a1 a2 _ => ?_⟩
  obtain ⟨w, ws, rfl, b1, b2⟩ := eSk_cons a2
  exact ⟨kSet lc j w, ws, eLv_st a1 b1 (cond_ft h4) e1 eNth_out, b2, fun K N QR QX kc nc h9 => row _ _ _ _ _ _ _ _ _ _ w (hok v w h2 b1).2 h9⟩
theorem so_istore_n {k0 : Fin 4} {j np : Nat} (hdg : decode cc pc = .ok (.istore_n k0, 1)) (hj : (k0 : Nat) = j) (hn : Nat.ble (j + 1) mL = true) (hp : pc + 1 = np) : eSOK g b l mt (nm, cc, mL, rt, hh) pc (hSt eIi j np) := by
  subst hp
  exact so_St ok_i (fun _ _ _ _ _ _ _ _ _ _ w ⟨z, hz⟩ h => by subst hz; exact kT_istore_n hdg hj (ble_t hn) rfl h)
theorem so_istore {j np : Nat} (hdg : decode cc pc = .ok (.istore j, 2)) (hn : Nat.ble (j + 1) mL = true) (hp : pc + 2 = np) : eSOK g b l mt (nm, cc, mL, rt, hh) pc (hSt eIi j np) := by
  subst hp
  exact so_St ok_i (fun _ _ _ _ _ _ _ _ _ _ w ⟨z, hz⟩ h => by subst hz; exact kT_istore hdg (ble_t hn) rfl h)
theorem so_astore_n {k0 : Fin 4} {j np : Nat} (hdg : decode cc pc = .ok (.astore_n k0, 1)) (hj : (k0 : Nat) = j) (hn : Nat.ble (j + 1) mL = true) (hp : pc + 1 = np) : eSOK g b l mt (nm, cc, mL, rt, hh) pc (hSt eIa j np) := by
  subst hp
  refine so_St ok_a (fun _ _ _ _ _ _ _ _ _ _ w ⟨z, hz⟩ h => ?_)
  subst hz
  cases z with
  | none => exact kT_astore_nN hdg hj (ble_t hn) rfl h
  | some z => exact kT_astore_n hdg hj (ble_t hn) rfl h
theorem so_astore {j np : Nat} (hdg : decode cc pc = .ok (.astore j, 2)) (hn : Nat.ble (j + 1) mL = true) (hp : pc + 2 = np) : eSOK g b l mt (nm, cc, mL, rt, hh) pc (hSt eIa j np) := by
  subst hp
  refine so_St ok_a (fun _ _ _ _ _ _ _ _ _ _ w ⟨z, hz⟩ h => ?_)
  subst hz
  cases z with
  | none => exact kT_astoreN hdg (ble_t hn) rfl h
  | some z => exact kT_astore hdg (ble_t hn) rfl h
/-- two ints -/
theorem eF2_ok {f : Nat → Nat → Nat} {F : Int32 → Int32 → Int32} (hF : ∀ a c, a < 4294967296 → c < 4294967296 → F (nI a) (nI c) = nI (f a c)) {x y : Nat} {X Y : Value} (hx : eVal g b x X) (hy : eVal g b y Y) (h : eF2 f x y ≠ 0) : ∃ i j, X = .int i ∧ Y = .int j ∧ eVal g b (eF2 f x y) (.int (F i j)) := by
  unfold eF2 at h ⊢
  rw [eLnd, eLnd] at h ⊢
  simp only [cond_beq] at h ⊢
  by_cases h1 : x % 16 = 1
  · rw [if_pos h1] at h ⊢
    obtain ⟨x1, rfl⟩ := hx.I h1
    by_cases h2 : y % 16 = 1
    · rw [if_pos h2] at h ⊢
      obtain ⟨y1, rfl⟩ := hy.I h2
      refine ⟨_, _, rfl, rfl, ?_⟩
      rw [hF _ _ x1 y1, ← nI_mod]
      exact eVal_mkI (Nat.mod_lt _ (by decide))
    · rw [if_neg h2] at h ⊢
      cases h3 : eIi y with
      | true =>
        obtain ⟨j, rfl, -⟩ := hy.int (eIi_of h3)
        exact ⟨_, _, rfl, rfl, eVal_any _⟩
      | false => rw [h3] at h; exact absurd rfl h
  · rw [if_neg h1] at h ⊢
    cases h4 : eIi x with
    | true =>
      obtain ⟨i, rfl, -⟩ := hx.int (eIi_of h4)
      rw [h4] at h
      cases h3 : eIi y with
      | true =>
        obtain ⟨j, rfl, -⟩ := hy.int (eIi_of h3)
        exact ⟨_, _, rfl, rfl, eVal_any _⟩
      | false => rw [h3] at h; exact absurd rfl h
    | false => rw [h4] at h; exact absurd rfl h
theorem so_B {f : Nat → Nat → Nat} {F : Value → Value → Value → Prop} {np : Nat} (hF : ∀ x y X Y, eVal g b x X → eVal g b y Y → f x y ≠ 0 → ∃ Z, F X Y Z ∧ eVal g b (f x y) Z) (row : ∀ dd lv rest M K N QR QX kc nc X Y Z, F X Y Z → kT l g nm cc mL rt hh dd K N QR QX np lv (Z :: rest) M kc nc → kT l g nm cc mL rt hh dd K N QR QX pc lv (Y :: X :: rest) M kc nc) : eSOK g b l mt (nm, cc, mL, rt, hh) pc (hB f np) := by
  refine so_pure (fun ih dd i lv st t x p u r h => ?_)
  obtain ⟨y, s, es, h1⟩ := eP_some h
  subst es
  obtain ⟨a, s', es, h2⟩ := eP_some h1
  subst es
  rw [fo_eq] at h2
  obtain ⟨h3, h4⟩ := eNz h2
  refine ⟨np, lv, _, h4, fun lc sc M a1 a2 _ => ?_⟩
  obtain ⟨w2, ws2, rfl, c1, b4⟩ := eSk_cons a2
  obtain ⟨w, ws, rfl, b1, b2⟩ := eSk_cons b4
  obtain ⟨Z, z1, z2⟩ := hF a y w w2 b1 c1 h3
  exact ⟨lc, Z :: ws, a1, ⟨z2, b2⟩, fun K N QR QX kc nc h9 => row _ _ _ _ _ _ _ _ _ _ _ _ Z z1 h9⟩
def eBI (F : Int32 → Int32 → Int32) (X Y Z : Value) : Prop := ∃ i j, X = .int i ∧ Y = .int j ∧ Z = .int (F i j)
theorem eF2_b {f : Nat → Nat → Nat} {F : Int32 → Int32 → Int32} (hF : ∀ a c, a < 4294967296 → c < 4294967296 → F (nI a) (nI c) = nI (f a c)) : ∀ x y X Y, eVal g b x X → eVal g b y Y → eF2 f x y ≠ 0 → ∃ Z, eBI F X Y Z ∧ eVal g b (eF2 f x y) Z := by
  intro x y X Y hx hy h
  obtain ⟨i, j, e1, e2, e3⟩ := eF2_ok hF hx hy h
  exact ⟨_, ⟨i, j, e1, e2, rfl⟩, e3⟩
def fSub (a c : Nat) : Nat := Nat.add a (Nat.sub 4294967296 c)
def fShl (a c : Nat) : Nat := Nat.shiftLeft a (Nat.mod c 32)
theorem so_iadd {np : Nat} (hdg : decode cc pc = .ok (.iadd, 1)) (hp : pc + 1 = np) : eSOK g b l mt (nm, cc, mL, rt, hh) pc (hB (eF2 Nat.add) np) := by
  subst hp
  exact so_B (eF2_b (F := (fun x y => x + y)) (fun a c ha hc => nI_add a c)) (fun _ _ _ _ _ _ _ _ _ _ X Y Z ⟨i, j, e1, e2, e3⟩ h => by subst e1; subst e2; subst e3; exact kT_iadd hdg h)
theorem so_isub {np : Nat} (hdg : decode cc pc = .ok (.isub, 1)) (hp : pc + 1 = np) : eSOK g b l mt (nm, cc, mL, rt, hh) pc (hB (eF2 fSub) np) := by
  subst hp
  exact so_B (eF2_b (F := (fun x y => x - y)) (fun a c ha hc => nI_sub hc)) (fun _ _ _ _ _ _ _ _ _ _ X Y Z ⟨i, j, e1, e2, e3⟩ h => by subst e1; subst e2; subst e3; exact kT_isub hdg h)
theorem so_imul {np : Nat} (hdg : decode cc pc = .ok (.imul, 1)) (hp : pc + 1 = np) : eSOK g b l mt (nm, cc, mL, rt, hh) pc (hB (eF2 Nat.mul) np) := by
  subst hp
  exact so_B (eF2_b (F := (fun x y => x * y)) (fun a c ha hc => nI_mul a c)) (fun _ _ _ _ _ _ _ _ _ _ X Y Z ⟨i, j, e1, e2, e3⟩ h => by subst e1; subst e2; subst e3; exact kT_imul hdg h)
theorem so_iand {np : Nat} (hdg : decode cc pc = .ok (.iand, 1)) (hp : pc + 1 = np) : eSOK g b l mt (nm, cc, mL, rt, hh) pc (hB (eF2 Nat.land) np) := by
  subst hp
  exact so_B (eF2_b (F := (fun x y => x &&& y)) (fun a c ha hc => nI_and a c)) (fun _ _ _ _ _ _ _ _ _ _ X Y Z ⟨i, j, e1, e2, e3⟩ h => by subst e1; subst e2; subst e3; exact kT_iand hdg h)
theorem so_ior {np : Nat} (hdg : decode cc pc = .ok (.ior, 1)) (hp : pc + 1 = np) : eSOK g b l mt (nm, cc, mL, rt, hh) pc (hB (eF2 Nat.lor) np) := by
  subst hp
  exact so_B (eF2_b (F := (fun x y => x ||| y)) (fun a c ha hc => nI_or a c)) (fun _ _ _ _ _ _ _ _ _ _ X Y Z ⟨i, j, e1, e2, e3⟩ h => by subst e1; subst e2; subst e3; exact kT_ior hdg h)
theorem so_ixor {np : Nat} (hdg : decode cc pc = .ok (.ixor, 1)) (hp : pc + 1 = np) : eSOK g b l mt (nm, cc, mL, rt, hh) pc (hB (eF2 Nat.xor) np) := by
  subst hp
  exact so_B (eF2_b (F := (fun x y => x ^^^ y)) (fun a c ha hc => nI_xor a c)) (fun _ _ _ _ _ _ _ _ _ _ X Y Z ⟨i, j, e1, e2, e3⟩ h => by subst e1; subst e2; subst e3; exact kT_ixor hdg h)
theorem so_ishl {np : Nat} (hdg : decode cc pc = .ok (.ishl, 1)) (hp : pc + 1 = np) : eSOK g b l mt (nm, cc, mL, rt, hh) pc (hB (eF2 fShl) np) := by
  subst hp
  exact so_B (eF2_b (F := (fun x y => x <<< (y &&& 31))) (fun a c ha hc => nI_shl a c)) (fun _ _ _ _ _ _ _ _ _ _ X Y Z ⟨i, j, e1, e2, e3⟩ h => by subst e1; subst e2; subst e3; exact kT_ishl hdg h)
end ET

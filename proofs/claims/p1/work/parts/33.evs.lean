/-! ===== stores, numbers, branches ===== -/
theorem kFind_keep {lv : List (Nat × Value)} {p : Nat × Value → Bool} {j : Nat} {q : Nat × Value} (h : lv.find? (fun a => a.1 == j) = some q) (hp : p q = true) : (lv.filter p).find? (fun a => a.1 == j) = some q := by
  induction lv with
  | nil => cases h
  | cons a t ih =>
    rw [List.find?_cons] at h
    cases ha : (a.1 == j) with
    | true =>
      rw [ha] at h
      have e : a = q := Option.some.inj h
      subst e
      rw [List.filter_cons_of_pos hp, List.find?_cons, ha]
    | false =>
      rw [ha] at h
      cases hpa : p a with
      | true => rw [List.filter_cons_of_pos hpa, List.find?_cons, ha]; exact ih h
      | false => rw [List.filter_cons_of_neg (by rw [hpa]; decide)]; exact ih h
theorem kGet_set {lv : List (Nat × Value)} {i : Nat} {v : Value} : kGet (kSet lv i v) i = some v := by simp [kGet, kSet]
theorem kGet_keep {lv : List (Nat × Value)} {i j : Nat} {v w : Value} (hne : j ≠ i) (h : kGet lv j = some w) (hc : w.category = 2 → j + 1 ≠ i) : kGet (kSet lv i v) j = some w := by
  unfold kGet at h ⊢
  obtain ⟨q, h1, h2⟩ := Option.map_eq_some_iff.mp h
  have h3 : q.1 = j := by simpa using List.find?_some h1
  unfold kSet
  rw [List.find?_cons, show ((i, v).1 == j) = false by simp; omega]
  show Option.map _ (List.find? (fun (a : Nat × Value) => a.1 == j) _) = _
  rw [kFind_keep h1 (by
    rw [h3, h2]
    have e1 : (j == i) = false := by simp [hne]
    rw [e1]
    cases hq : (w.category == 2)
    · simp
    · have := hc (by simpa using hq)
      have e2 : (j + 1 == i) = false := by simp [this]
      rw [e2]; rfl)]
  rw [← h2]; rfl
theorem kGet_at2 {lv : List (Nat × Value)} {i : Nat} {v : Value} (h : kGet lv i = some v) : ∃ k0 : Nat, lv[k0]? = some (i, v) := by
  unfold kGet at h
  obtain ⟨q, h1, h2⟩ := Option.map_eq_some_iff.mp h
  have h3 : q.1 = i := by simpa using List.find?_some h1
  obtain ⟨k0, hk⟩ := List.getElem?_of_mem (List.mem_of_find?_eq_some h1)
  exact ⟨k0, by rw [hk, ← h3, ← h2]⟩
theorem nI_bv (a : Nat) : (nI a).toBitVec = BitVec.ofNat 32 a := by show (Int32.ofNat a).toBitVec = _; exact Int32.toBitVec_ofNat
theorem nI_mod (n : Nat) : nI (n % 4294967296) = nI n := by
  apply Int32.toBitVec_inj.mp
  rw [nI_bv, nI_bv]
  apply BitVec.eq_of_toNat_eq
  simp
theorem nI_mul (a b : Nat) : nI a * nI b = nI (a * b) := (Int32.ofNat_mul a b).symm
theorem nI_sub {a b : Nat} (hb : b < 4294967296) : nI a - nI b = nI (a + (4294967296 - b)) := by
  have h : nI (a + (4294967296 - b)) + nI b = nI a := by
    rw [nI_add, show a + (4294967296 - b) + b = a + 4294967296 by omega, ← nI_mod, show (a + 4294967296) % 4294967296 = a % 4294967296 by omega, nI_mod]
  rw [← h]
  apply Int32.toBitVec_inj.mp
  simp
theorem nI_and (a b : Nat) : nI a &&& nI b = nI (a &&& b) := by
  apply Int32.toBitVec_inj.mp
  rw [Int32.toBitVec_and, nI_bv, nI_bv, nI_bv]
  apply BitVec.eq_of_toNat_eq
  simp [Nat.and_mod_two_pow]
theorem nI_or (a b : Nat) : nI a ||| nI b = nI (a ||| b) := by
  apply Int32.toBitVec_inj.mp
  rw [Int32.toBitVec_or, nI_bv, nI_bv, nI_bv]
  apply BitVec.eq_of_toNat_eq
  simp [Nat.or_mod_two_pow]
theorem nI_xor (a b : Nat) : nI a ^^^ nI b = nI (a ^^^ b) := by
  apply Int32.toBitVec_inj.mp
  rw [Int32.toBitVec_xor, nI_bv, nI_bv, nI_bv]
  apply BitVec.eq_of_toNat_eq
  simp [Nat.xor_mod_two_pow]
theorem nI_msk (b : Nat) : nI b &&& 31 = nI (b % 32) := by
  rw [show (31 : Int32) = nI 31 by decide, nI_and, show b &&& 31 = b % 32 from Nat.and_two_pow_sub_one_eq_mod b 5]
theorem nI_shk : ∀ c : Fin 32, ((nI c).toBitVec.smod 32).toNat = c := by decide
theorem nI_shl (a b : Nat) : nI a <<< (nI b &&& 31) = nI (a <<< (b % 32)) := by
  rw [nI_msk]
  have h32 : b % 32 < 32 := Nat.mod_lt _ (by decide)
  apply Int32.toBitVec_inj.mp
  rw [Int32.toBitVec_shiftLeft, nI_bv a, nI_bv (a <<< _)]
  show BitVec.ofNat 32 a <<< ((nI (b % 32)).toBitVec.smod 32).toNat = _
  rw [show ((nI (b % 32)).toBitVec.smod 32).toNat = b % 32 from nI_shk ⟨b % 32, h32⟩]
  apply BitVec.eq_of_toNat_eq
  simp [Nat.shiftLeft_eq]
theorem nI_shr {a : Nat} (b : Nat) (ha : a < 2147483648) : nI a >>> (nI b &&& 31) = nI (a >>> (b % 32)) := by
  rw [nI_msk]
  have h32 : b % 32 < 32 := Nat.mod_lt _ (by decide)
  apply Int32.toBitVec_inj.mp
  rw [Int32.toBitVec_shiftRight, nI_bv a, nI_bv (a >>> _)]
  show (BitVec.ofNat 32 a).sshiftRight ((nI (b % 32)).toBitVec.smod 32).toNat = _
  rw [show ((nI (b % 32)).toBitVec.smod 32).toNat = b % 32 from nI_shk ⟨b % 32, h32⟩]
  have hm : (BitVec.ofNat 32 a).msb = false := by
    rw [BitVec.msb_eq_false_iff_two_mul_lt]
    simp
    omega
  rw [BitVec.sshiftRight_eq_of_msb_false hm]
  apply BitVec.eq_of_toNat_eq
  have h1 : a >>> (b % 32) ≤ a := Nat.shiftRight_le a _
  rw [BitVec.toNat_ushiftRight, BitVec.toNat_ofNat, BitVec.toNat_ofNat, Nat.mod_eq_of_lt (show a < 2 ^ 32 by omega), Nat.mod_eq_of_lt (show a >>> (b % 32) < 2 ^ 32 by omega)]
theorem nI_neg {a : Nat} (h : a < 4294967296) : - nI a = nI (4294967296 - a) := by
  have e := nI_sub (a := 0) h
  rw [Nat.zero_add, nI_0] at e
  rw [← e]
  apply Int32.toBitVec_inj.mp
  simp
theorem nI_i8 (n : Nat) : (nI n).toInt8.toInt32 = nI (if n % 256 ≤ 127 then n % 256 else n % 256 + 4294967040) := by
  apply Int32.toBitVec_inj.mp
  rw [Int8.toBitVec_toInt32, Int32.toBitVec_toInt8, nI_bv, nI_bv, BitVec.signExtend_eq_setWidth_of_le (BitVec.ofNat 32 n) (by decide : 8 ≤ 32)]
  apply BitVec.eq_of_toNat_eq
  rw [BitVec.toNat_signExtend]
  have h0 : (BitVec.setWidth 8 (BitVec.ofNat 32 n)).toNat = n % 256 := by simp
  have hm : (BitVec.setWidth 8 (BitVec.ofNat 32 n)).msb = decide (128 ≤ n % 256) := by
    rw [BitVec.msb_eq_decide, h0]
  rw [hm]
  simp only [BitVec.toNat_setWidth, h0, BitVec.toNat_ofNat]
  by_cases h : n % 256 ≤ 127
  · rw [if_pos h]
    simp
    omega
  · rw [if_neg h]
    have h2 : 128 ≤ n % 256 := by omega
    simp [h2]
    omega
theorem nI_int {n : Nat} (h : n < 4294967296) : (nI n).toInt = if n < 2147483648 then (n : Int) else (n : Int) - 4294967296 := by
  show (Int32.ofNat n).toInt = _
  rw [Int32.toInt_ofNat', show (Int32.size : Nat) = 4294967296 from rfl]
  simp only [Int.bmod_def]
  split <;> split <;> omega
theorem nI_inj {a b : Nat} (ha : a < 4294967296) (hb : b < 4294967296) : nI a = nI b ↔ a = b := by
  constructor
  · intro h
    have h2 := congrArg Int32.toInt h
    rw [nI_int ha, nI_int hb] at h2
    split at h2 <;> split at h2 <;> omega
  · intro h; rw [h]
theorem eSg_eq {n : Nat} (h : n < 4294967296) : eSg n = if n < 2147483648 then n + 2147483648 else n - 2147483648 := by
  show (n + 2147483648) % 4294967296 = _
  split <;> omega
theorem nI_ltS {a b : Nat} (ha : a < 4294967296) (hb : b < 4294967296) : nI a < nI b ↔ eSg a < eSg b := by
  rw [Int32.lt_iff_toInt_lt, nI_int ha, nI_int hb, eSg_eq ha, eSg_eq hb]
  split <;> split <;> omega
/-- the script's ints lie within the bounds -/
def eEnv (g : kG) (B : eBd) : Prop := B.length ≤ gL g ∧ ∀ k, ∃ n, gX g k = nI n ∧ n < 4294967296 ∧ (eBn B k).1 ≤ n ∧ n ≤ (eBn B k).2
theorem eRng_ok {α : Type} {g : kG} {B : eBd} (hE : eEnv g B) {v : Nat} {c : Nat → Nat → Option α} {r : α} (h : eRng B v c = some r) : (v % 16 = 1 ∨ v % 16 = 2 ∨ v % 16 = 3) ∧ ∃ lo hi, c lo hi = some r ∧ ∀ i, eIn g v i → ∃ n, i = nI n ∧ n < 4294967296 ∧ lo ≤ n ∧ n ≤ hi := by
  unfold eRng at h
  rw [eLnd] at h
  simp only [cond_beq] at h
  by_cases h1 : v % 16 = 1
  · rw [if_pos h1] at h
    refine ⟨Or.inl h1, _, _, h, fun i hi => ?_⟩
    rcases hi with h2 | h2 | h2
    · exact ⟨v / 16, h2.2.2, h2.2.1, Nat.le_refl _, Nat.le_refl _⟩
    · omega
    · omega
  · rw [if_neg h1] at h
    by_cases h2 : v % 16 = 2
    · rw [if_pos h2] at h
      refine ⟨Or.inr (Or.inl h2), _, _, h, fun i hi => ?_⟩
      rcases hi with h3 | h3 | h3
      · omega
      · obtain ⟨n, e1, e2, e3, e4⟩ := hE.2 (v / 16)
        exact ⟨n, h3.2.trans e1, e2, e3, e4⟩
      · omega
    · rw [if_neg h2] at h
      by_cases h3 : v % 16 = 3
      · rw [if_pos h3] at h
        refine ⟨Or.inr (Or.inr h3), _, _, h, fun i hi => ?_⟩
        rcases hi with h4 | h4 | h4
        · omega
        · omega
        · obtain ⟨-, n, e1, e2, e3, e4⟩ := h4
          exact ⟨n, e4, e3, e1, e2⟩
      · rw [if_neg h3] at h; cases h
theorem eEq_ok {a b c d n m : Nat} (h1 : a ≤ n) (h2 : n ≤ b) (h3 : c ≤ m) (h4 : m ≤ d) : (eEq a b c d = 1 → n = m) ∧ (eEq a b c d = 0 → n ≠ m) := by
  unfold eEq
  simp only [cond_beq, cond_ble]
  repeat' split
  all_goals (constructor <;> intro h <;> omega)
theorem eSg_in {a b n : Nat} (h : eHf a b = true) (h1 : a ≤ n) (h2 : n ≤ b) : eSg a ≤ eSg n ∧ eSg n ≤ eSg b := by
  unfold eHf at h
  simp only [cond_ble] at h
  have hb : b < 4294967296 := by
    split at h
    · omega
    · split at h
      · have := ble_t h; omega
      · cases h
  rw [eSg_eq (by omega), eSg_eq (by omega), eSg_eq hb]
  split at h
  · repeat' split
    all_goals omega
  · split at h
    · repeat' split
      all_goals omega
    · cases h

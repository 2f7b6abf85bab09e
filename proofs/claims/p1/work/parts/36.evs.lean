/-! ===== instructions: what reads and writes the memory ===== -/
theorem eKy_eq (a k : Nat) : eKy a k = a + 2048 * (k + 1) := rfl
theorem eKy_inj {a a' k k' : Nat} (ha : a < 2048) (ha' : a' < 2048) : eKy a k = eKy a' k' ↔ a = a' ∧ k = k' := by
  rw [eKy_eq, eKy_eq]; omega
theorem eKy_pos (a k : Nat) : 0 < eKy a k := by rw [eKy_eq]; omega
theorem eKy_lt {a k : Nat} (ha : a < 2048) (hk : k < 268435456) : eKy a k < 2 ^ 40 := by rw [eKy_eq]; omega
theorem eSet_ok {t : eX} {a k v : Nat} (ha : a < 2048) (hk : k < 268435456) : ∃ t', (∀ a' k', a' < 2048 → eGet t' (eKy a' k') = if a' = a ∧ k' = k then v else eGet t (eKy a' k')) ∧ ∀ {α : Type} (c : eX → α), eSetK 40 t (eKy a k) v c = c t' := by
  obtain ⟨t', h1, h2⟩ := eSetK_ok 40 t (eKy a k) v (eKy_pos a k) (eKy_lt ha hk)
  refine ⟨t', fun a' k' ha' => ?_, h2⟩
  rw [h1 _ (eKy_pos a' k')]
  by_cases h : a' = a ∧ k' = k
  · rw [if_pos h, if_pos ((eKy_inj ha' ha).mpr h)]
  · rw [if_neg h, if_neg (fun z => h ((eKy_inj ha' ha).mp z))]
theorem eSub_ok (n : Nat) : ∀ (t : eX) (a k : Nat), a < 2 ^ n → 0 < k → eGet (eSub n t a) k = eGet t (a + 2 ^ n * k) := by
  induction n with
  | zero => intro t a k ha hk; rw [show a + 2 ^ 0 * k = k by omega]; rfl
  | succ n ih =>
    intro t a k ha hk
    have hp : 2 ^ (n + 1) = 2 * 2 ^ n := by rw [Nat.pow_succ, Nat.mul_comm]
    have hq : 0 < 2 ^ n := Nat.pow_pos (by decide)
    have hm : 0 < 2 ^ n * k := Nat.mul_pos hq hk
    cases t with
    | leaf v => rfl
    | branch v l r =>
      have e : eSub (n + 1) (.branch v l r) a = cnd (Nat.beq (Nat.land a 1) 0) (eSub n l (a / 2)) (eSub n r (a / 2)) := rfl
      have e2 : Nat.land a 1 = a % 2 := Nat.and_one_is_mod a
      have e4 : 2 * 2 ^ n * k = 2 * (2 ^ n * k) := Nat.mul_assoc _ _ _
      rw [e, e2, cond_beq, hp, e4, show (Lean.RArray.branch v l r : eX) = eNd l v r from rfl, eGet_N, if_neg (show ¬ a + 2 * (2 ^ n * k) = 1 by omega)]
      by_cases h : a % 2 = 0
      · rw [if_pos h, if_pos (show (a + 2 * (2 ^ n * k)) % 2 = 0 by omega), ih l (a / 2) k (by omega) hk, show (a + 2 * (2 ^ n * k)) / 2 = a / 2 + 2 ^ n * k by omega]
      · rw [if_neg h, if_neg (show ¬ (a + 2 * (2 ^ n * k)) % 2 = 0 by omega), ih r (a / 2) k (by omega) hk, show (a + 2 * (2 ^ n * k)) / 2 = a / 2 + 2 ^ n * k by omega]
theorem eGq_eq {t : eX} {a k : Nat} (ha : a < 2048) : eGq t a k = eGet t (eKy a k) := eSub_ok 11 t a (k + 1) ha (Nat.succ_pos k)
theorem eAd_some {α : Type} {v : Nat} {c : Nat → Option α} {r : α} (h : eAd v c = some r) : v % 16 = 6 ∧ v / 16 < 2048 ∧ c (v / 16) = some r := by
  obtain ⟨h1, h2⟩ := eGd_some h
  obtain ⟨h3, h4⟩ := eGd_some h2
  have e1 := beq_t h1
  rw [eLnd] at e1
  have e2 : v / 16 ≤ 2047 := ble_t h3
  exact ⟨e1, by omega, h4⟩
theorem eAr_some {α : Type} {t : eX} {a : Nat} {c : Nat → Nat → Option α} {r : α} (ha : a < 2048) (h : eAr t a c = some r) : eGet t (eKy a 0) ≠ 0 ∧ eGet t (eKy a 0) % 2 = 0 ∧ c ((eGet t (eKy a 0) / 2 - 1) % 16) ((eGet t (eKy a 0) / 2 - 1) / 16) = some r := by
  unfold eAr at h
  rw [fo_eq, eGq_eq ha] at h
  obtain ⟨h1, h2⟩ := eNz h
  have e : Nat.land (eGet t (eKy a 0)) 1 = eGet t (eKy a 0) % 2 := Nat.and_one_is_mod _
  rw [e, cond_beq] at h2
  by_cases h3 : eGet t (eKy a 0) % 2 = 0
  · rw [if_pos h3] at h2
    exact ⟨h1, h3, h2⟩
  · rw [if_neg h3] at h2; cases h2
theorem eHO_eq (c : Nat) : eHO c = 2 * c + 1 := rfl
theorem eHA_eq (ty n : Nat) : eHA ty n = 2 * (ty + 16 * n) + 2 := rfl
section EW
variable {g : kG} {b : Nat} {l : Launch} {mt : Nat → eMeta} {nm : MethodName} {cc : ByteArray} {mL : Nat} {rt : Option FieldType} {hh : List (Nat × Nat × Nat × Nat)} {pc : Nat}
theorem eHas.i {v : Nat} {i : Int32} {z : Int64} {r : Option Nat} (h : eHas g b v i z r) (hk : eCvI v ≠ 0) : eVal g b (eCvI v) (.int i) := by
  unfold eCvI at hk ⊢
  rw [cond_beq] at hk ⊢
  by_cases h0 : v = 0
  · rw [if_pos h0, (h.1 h0).1]
    exact eVal_mkI (n := 0) (by decide)
  · rw [if_neg h0] at hk ⊢
    cases h1 : eIi v with
    | true => exact Or.inl ⟨i, rfl, h.2.1 (eIi_of h1)⟩
    | false => rw [h1] at hk; exact absurd rfl hk
theorem eHas.lg {v : Nat} {i : Int32} {z : Int64} {r : Option Nat} (h : eHas g b v i z r) (hk : eCvL v ≠ 0) : eVal g b (eCvL v) (.long z) := by
  unfold eCvL at hk ⊢
  rw [cond_beq] at hk ⊢
  by_cases h0 : v = 0
  · rw [if_pos h0, (h.1 h0).2.1]
    exact eVal_lg (n := 0) (by decide)
  · rw [if_neg h0] at hk ⊢
    cases h1 : eIl v with
    | true => exact Or.inr (Or.inl ⟨z, rfl, h.2.2.1 (eIl_of h1)⟩)
    | false => rw [h1] at hk; exact absurd rfl hk
theorem eHas.r {v : Nat} {i : Int32} {z : Int64} {r : Option Nat} (h : eHas g b v i z r) (hk : eCvR v ≠ 0) : eVal g b (eCvR v) (va_rf r) := by
  unfold eCvR at hk ⊢
  rw [cond_beq] at hk ⊢
  by_cases h0 : v = 0
  · rw [if_pos h0, (h.1 h0).2.2]
    exact Or.inr (Or.inr ⟨none, rfl, Or.inr (Or.inr (Or.inr (Or.inl ⟨rfl, rfl⟩)))⟩)
  · rw [if_neg h0] at hk ⊢
    cases h1 : eIa v with
    | true => exact Or.inr (Or.inr ⟨r, rfl, h.2.2.2 (eIa_of h1).1 (eIa_of h1).2⟩)
    | false => rw [h1] at hk; exact absurd rfl hk
theorem va_rf_inj {r s : Option Nat} (h : va_rf r = va_rf s) : r = s := by cases r <;> cases s <;> simp_all [va_rf]
theorem eHas_i {v : Nat} {i : Int32} {z : Int64} {r : Option Nat} (hk : eIi v = true) (h : eVal g b v (.int i)) : eHas g b v i z r := by
  have h0 := eIi_of hk
  refine ⟨fun e => by omega, fun _ => ?_, fun e => by omega, fun e => by omega⟩
  obtain ⟨j, e, h1⟩ := h.int h0
  cases e
  exact h1
theorem eHas_l {v : Nat} {i : Int32} {z : Int64} {r : Option Nat} (hk : eIl v = true) (h : eVal g b v (.long z)) : eHas g b v i z r := by
  have h0 := eIl_of hk
  refine ⟨fun e => by omega, fun e => by omega, fun _ => ?_, fun e => by omega⟩
  obtain ⟨j, e, h1⟩ := h.long h0
  cases e
  exact h1
theorem eHas_r {v : Nat} {i : Int32} {z : Int64} {r : Option Nat} (hk : eIa v = true) (h : eVal g b v (va_rf r)) : eHas g b v i z r := by
  have h0 := eIa_of hk
  refine ⟨fun e => by omega, fun e => by omega, fun e => by omega, fun _ _ => ?_⟩
  obtain ⟨j, e, h1⟩ := h.ref h0.1
  rw [va_rf_inj e]
  exact h1
/-- an object's tag and fields -/
theorem eMm.obj {t : eX} {x u : Nat} {M : kM} {a c : Nat} (h : eMm g b t x u M) (ha : a < 2048) (hc : Nat.beq (eGet t (eKy a 0)) (eHO c) = true) : tg M (b + a) = c + 1 ∧ ∀ k, eHas g b (eGet t (eKy a (k + 1))) (fi M (b + a) k) (fl M (b + a) k) (fr M (b + a) k) := by
  have e := beq_t hc
  rw [eHO_eq] at e
  obtain ⟨h1, h2⟩ := (h.2.1 a ha).1 (by rw [e]; omega)
  rw [e] at h1
  exact ⟨by omega, h2⟩
theorem so_Gf {cv : Nat → Nat} {c k np idx : Nat} {G : kM → Nat → Nat → Value} (hG : ∀ v M a, eHas g b v (fi M a k) (fl M a k) (fr M a k) → cv v ≠ 0 → eVal g b (cv v) (G M a k)) (hV : ∀ M a, kFV M a c k = G M a k) (hdg : decode cc pc = .ok (.getfield idx, 3)) (hw : Cond.fieldLink nm.cls idx (kFd c k).1 (kFd c k).2.1 (kFd c k).2.2.1 ∈ kTb) (hc : c < 50) (hk : k < kSz c) (hp : pc + 3 = np) : eSOK g b l mt (nm, cc, mL, rt, hh) pc (hGf cv c k np) := by
  subst hp
  refine so_pure (fun ih dd i lv st t x p u r h => ?_)
  obtain ⟨o, s, es, h1⟩ := eP_some h
  subst es
  obtain ⟨h2, h3, h4⟩ := eAd_some h1
  simp only [eGq_eq h3] at h4
  obtain ⟨h5, h6⟩ := eGd_some h4
  rw [fo_eq] at h6
  obtain ⟨h7, h8⟩ := eNz h6
  refine ⟨_, lv, _, h8, fun lc sc M a1 a2 a3 => ?_⟩
  obtain ⟨w, ws, rfl, b1, b2⟩ := eSk_cons a2
  rw [b1.O h2]
  obtain ⟨c1, c2⟩ := a3.obj h3 h5
  exact ⟨lc, G M (b + o / 16) k :: ws, a1, ⟨hG _ _ _ (c2 k) h7, b2⟩, fun K N QR QX kc nc h9 => kT_getf hdg hw c1 hc hk (hV M _) h9⟩
theorem so_gfI {c k np idx : Nat} (hdg : decode cc pc = .ok (.getfield idx, 3)) (hw : Cond.fieldLink nm.cls idx (kFd c k).1 (kFd c k).2.1 (kFd c k).2.2.1 ∈ kTb) (hc : c < 50) (hk : k < kSz c) (hty : kTyp c k = .int ∨ kTyp c k = .boolean) (hp : pc + 3 = np) : eSOK g b l mt (nm, cc, mL, rt, hh) pc (hGf eCvI c k np) :=
  so_Gf (G := fun M a k => .int (fi M a k)) (fun _ _ _ h h2 => h.i h2) (fun M a => by unfold kFV; rcases hty with h | h <;> rw [h]) hdg hw hc hk hp
theorem kFV_r {M : kM} {a c k : Nat} (h : kRefT (kTyp c k) = true) : kFV M a c k = va_rf (fr M a k) := by
  unfold kFV
  cases h9 : kTyp c k <;> simp_all [kRefT]
theorem so_gfR {c k np idx : Nat} (hdg : decode cc pc = .ok (.getfield idx, 3)) (hw : Cond.fieldLink nm.cls idx (kFd c k).1 (kFd c k).2.1 (kFd c k).2.2.1 ∈ kTb) (hc : c < 50) (hk : k < kSz c) (hty : kRefT (kTyp c k) = true) (hp : pc + 3 = np) : eSOK g b l mt (nm, cc, mL, rt, hh) pc (hGf eCvR c k np) :=
  so_Gf (G := fun M a k => va_rf (fr M a k)) (fun _ _ _ h h2 => h.r h2) (fun M a => kFV_r hty) hdg hw hc hk hp
/-- a field is written -/
theorem eMm_put {t t' : eX} {x u a k v : Nat} {M M' : kM} (hM : eMm g b t x u M) (ha : a < 2048) (hob : eGet t (eKy a 0) ≠ 0) (ho2 : eGet t (eKy a 0) % 2 = 1) (hS : ∀ a' k', a' < 2048 → eGet t' (eKy a' k') = if a' = a ∧ k' = k + 1 then v else eGet t (eKy a' k'))
    (h1 : tg M' = tg M) (h2 : ln M' = ln M) (h3 : nx M' = nx M) (h4 : ai M' = ai M) (h5 : al M' = al M) (h6 : ar M' = ar M) (hf : ∀ a' k', ¬ (k' = k ∧ a' = b + a) → fi M' a' k' = fi M a' k' ∧ fl M' a' k' = fl M a' k' ∧ fr M' a' k' = fr M a' k') (hv : eHas g b v (fi M' (b + a) k) (fl M' (b + a) k) (fr M' (b + a) k)) : eMm g b t' x u M' := by
  obtain ⟨m1, m2, m3, m4, m5⟩ := hM
  have hx : a < x := by
    rcases Nat.lt_or_ge a x with h | h
    · exact h
    · exact absurd (m3 a h ha 0) hob
  refine ⟨fun h => by rw [h3]; exact m1 h, fun a' ha' => ?_, fun a' hxa ha' k' => ?_, by rw [h1]; exact m4, by rw [h1]; exact m5⟩
  · have e0 : eGet t' (eKy a' 0) = eGet t (eKy a' 0) := by rw [hS a' 0 ha', if_neg (by omega)]
    unfold eCell
    rw [e0, h1, h2, h4, h5, h6]
    obtain ⟨q1, q2⟩ := m2 a' ha'
    refine ⟨fun z => ⟨(q1 z).1, fun k' => ?_⟩, fun z1 z2 => ⟨(q2 z1 z2).1, (q2 z1 z2).2.1, fun k' => ?_⟩⟩
    · rw [hS a' _ ha']
      by_cases e : a' = a ∧ k' + 1 = k + 1
      · rw [if_pos e]
        have e1 : k' = k := by omega
        rw [e.1, e1]
        exact hv
      · rw [if_neg e]
        obtain ⟨f1, f2, f3⟩ := hf (b + a') k' (by omega)
        rw [f1, f2, f3]
        exact (q1 z).2 k'
    · rw [hS a' _ ha', if_neg (fun e => by rw [e.1] at z2; omega)]
      exact (q2 z1 z2).2.2 k'
  · rw [hS a' k' ha', if_neg (by omega)]
    exact m3 a' hxa ha' k'
theorem eHO_n {h c : Nat} (e : Nat.beq h (eHO c) = true) : h ≠ 0 ∧ h % 2 = 1 := by
  have := beq_t e
  rw [eHO_eq] at this
  omega
theorem so_Pf {ok : Nat → Bool} {c k np : Nat} (hk8 : Nat.ble k 1000 = true) {W : Value → Prop} {S : kM → Nat → Value → kM} (hok : ∀ v w, ok v = true → eVal g b v w → W w ∧ ∀ M a, eHas g b v (fi (S M a w) a k) (fl (S M a w) a k) (fr (S M a w) a k))
    (hS : ∀ M a w, tg (S M a w) = tg M ∧ ln (S M a w) = ln M ∧ nx (S M a w) = nx M ∧ ai (S M a w) = ai M ∧ al (S M a w) = al M ∧ ar (S M a w) = ar M ∧ ∀ a' k', ¬ (k' = k ∧ a' = a) → fi (S M a w) a' k' = fi M a' k' ∧ fl (S M a w) a' k' = fl M a' k' ∧ fr (S M a w) a' k' = fr M a' k')
    (row : ∀ dd lv rest M K N QR QX kc nc w a, W w → tg M a = c + 1 → kT l g nm cc mL rt hh dd K N QR QX np lv rest (S M a w) kc nc → kT l g nm cc mL rt hh dd K N QR QX pc lv (w :: .ref a :: rest) M kc nc) : eSOK g b l mt (nm, cc, mL, rt, hh) pc (hPf ok c k np) := by
  refine so_mem (fun ih dd i lv st t x p u r h => ?_)
  obtain ⟨v, s, es, h1⟩ := eP_some h
  subst es
  obtain ⟨o, s', es, h2⟩ := eP_some h1
  subst es
  obtain ⟨h3, h4⟩ := eGd_some h2
  obtain ⟨h5, h6, h7⟩ := eAd_some h4
  simp only [eGq_eq h6] at h7
  obtain ⟨h8, h9⟩ := eGd_some h7
  obtain ⟨t', e1, e2⟩ := eSet_ok (t := t) (v := v) h6 (show k + 1 < 268435456 by have := ble_t hk8; omega)
  have e3 := e2 (fun t' => ih dd i np lv s' t' x p u)
  rw [show eKy (o / 16) (k + 1) = eKy (o / 16) (Nat.succ k) from rfl] at e3
  rw [e3] at h9
  refine ⟨np, lv, s', t', h9, fun lc sc M a1 a2 a3 => ?_⟩
  obtain ⟨w, ws, rfl, b1, b2⟩ := eSk_cons a2
  obtain ⟨w2, ws2, rfl, c1, c2⟩ := eSk_cons b2
  rw [c1.O h5]
  obtain ⟨d1, d2⟩ := a3.obj h6 h8
  obtain ⟨g1, g2⟩ := hok v w h3 b1
  obtain ⟨s1, s2, s3, s4, s5, s6, s7⟩ := hS M (b + o / 16) w
  exact ⟨lc, ws2, S M (b + o / 16) w, a1, c2, eMm_put a3 h6 (eHO_n h8).1 (eHO_n h8).2 e1 s1 s2 s3 s4 s5 s6 s7 (g2 M _), fun K N QR QX kc nc hh9 => row _ _ _ _ _ _ _ _ _ _ w _ g1 d1 hh9⟩
def wI (w : Value) : Int32 := match w with
  | .int i => i
  | _ => 0
def wL (w : Value) : Int64 := match w with
  | .long i => i
  | _ => 0
def wR (w : Value) : Option Nat := match w with
  | .ref a => some a
  | _ => none
theorem wR_rf (r : Option Nat) : wR (va_rf r) = r := by cases r <;> rfl
theorem so_putI {c k np idx : Nat} (hdg : decode cc pc = .ok (.putfield idx, 3)) (hw : Cond.fieldLink nm.cls idx (kFd c k).1 (kFd c k).2.1 (kFd c k).2.2.1 ∈ kTb) (hc : c < 50) (hk : k < kSz c) (hfin : (kFd c k).2.2.2 = false ∨ ((kFd c k).2.2.2 = true ∧ nm.name = "<init>" ∧ (kFd c k).1 = nm.cls)) (hty : kTyp c k = .int) (hk8 : Nat.ble k 1000 = true) (hp : pc + 3 = np) : eSOK g b l mt (nm, cc, mL, rt, hh) pc (hPf eIi c k np) := by
  subst hp
  refine so_Pf hk8 (W := fun w => ∃ i, w = .int i) (S := fun M a w => sfi M a k (wI w)) (fun v w h h2 => ?_) (fun M a w => ⟨k_tg_sfi, k_ln_sfi, k_nx_sfi, k_ai_sfi, k_al_sfi, k_ar_sfi, fun a' k' h => ⟨by rw [k_fi_sfi, if_neg h], by rw [k_fl_sfi], by rw [k_fr_sfi]⟩⟩) (fun _ _ _ _ _ _ _ _ _ _ w a ⟨i, e⟩ ht h => by subst e; exact kT_putI hdg hw ht hc hk hfin hty h)
  obtain ⟨i, rfl, h3⟩ := h2.int (eIi_of h)
  exact ⟨⟨i, rfl⟩, fun M a => by rw [k_fi_sfi, if_pos ⟨rfl, rfl⟩]; exact eHas_i h h2⟩
theorem eIz_of {v : Nat} (h : eIz v = true) : v = 1 ∨ v = 17 := by
  unfold eIz at h
  rw [cond_beq] at h
  split at h
  · omega
  · have := beq_t h; omega
theorem eIz_val {v : Nat} {w : Value} (h : eIz v = true) (h2 : eVal g b v w) : eIi v = true ∧ ∃ i, w = .int i ∧ (i = 0 ∨ i = 1) := by
  rcases eIz_of h with e | e
  · subst e
    exact ⟨rfl, nI 0, (h2.I (by decide)).2, Or.inl (by decide)⟩
  · subst e
    exact ⟨rfl, nI 1, (h2.I (by decide)).2, Or.inr (by decide)⟩
theorem so_putZ {c k np idx : Nat} (hdg : decode cc pc = .ok (.putfield idx, 3)) (hw : Cond.fieldLink nm.cls idx (kFd c k).1 (kFd c k).2.1 (kFd c k).2.2.1 ∈ kTb) (hc : c < 50) (hk : k < kSz c) (hfin : (kFd c k).2.2.2 = false ∨ ((kFd c k).2.2.2 = true ∧ nm.name = "<init>" ∧ (kFd c k).1 = nm.cls)) (hty : kTyp c k = .boolean) (hk8 : Nat.ble k 1000 = true) (hp : pc + 3 = np) : eSOK g b l mt (nm, cc, mL, rt, hh) pc (hPf eIz c k np) := by
  subst hp
  refine so_Pf hk8 (W := fun w => ∃ i, w = .int i ∧ (i = 0 ∨ i = 1)) (S := fun M a w => sfi M a k (wI w)) (fun v w h h2 => ?_) (fun M a w => ⟨k_tg_sfi, k_ln_sfi, k_nx_sfi, k_ai_sfi, k_al_sfi, k_ar_sfi, fun a' k' h => ⟨by rw [k_fi_sfi, if_neg h], by rw [k_fl_sfi], by rw [k_fr_sfi]⟩⟩) (fun _ _ _ _ _ _ _ _ _ _ w a ⟨i, e, e01⟩ ht h => by subst e; exact kT_putZ hdg hw ht hc hk hfin hty e01 h)
  obtain ⟨h3, i, rfl, h01⟩ := eIz_val h h2
  exact ⟨⟨i, rfl, h01⟩, fun M a => by rw [k_fi_sfi, if_pos ⟨rfl, rfl⟩]; exact eHas_i h3 h2⟩
theorem so_putR {c k np idx : Nat} (hdg : decode cc pc = .ok (.putfield idx, 3)) (hw : Cond.fieldLink nm.cls idx (kFd c k).1 (kFd c k).2.1 (kFd c k).2.2.1 ∈ kTb) (hc : c < 50) (hk : k < kSz c) (hfin : (kFd c k).2.2.2 = false ∨ ((kFd c k).2.2.2 = true ∧ nm.name = "<init>" ∧ (kFd c k).1 = nm.cls)) (hty : kRefT (kTyp c k) = true) (hk8 : Nat.ble k 1000 = true) (hp : pc + 3 = np) : eSOK g b l mt (nm, cc, mL, rt, hh) pc (hPf eIa c k np) := by
  subst hp
  refine so_Pf hk8 (W := fun w => ∃ r, w = va_rf r) (S := fun M a w => sfr M a k (wR w)) (fun v w h h2 => ?_) (fun M a w => ⟨k_tg_sfr, k_ln_sfr, k_nx_sfr, k_ai_sfr, k_al_sfr, k_ar_sfr, fun a' k' h => ⟨by rw [k_fi_sfr], by rw [k_fl_sfr], by rw [k_fr_sfr, if_neg h]⟩⟩) (fun _ _ _ _ _ _ _ _ _ _ w a ⟨r, e⟩ ht h => by subst e; rw [wR_rf] at h; exact kT_putR hdg hw ht hc hk hfin hty rfl h)
  obtain ⟨r, rfl, h3⟩ := h2.ref (eIa_of h).1
  exact ⟨⟨r, rfl⟩, fun M a => by rw [k_fr_sfr, if_pos ⟨rfl, rfl⟩, wR_rf]; exact eHas_r h h2⟩
end EW

/-! ===== instructions: arrays, and what is made ===== -/
section EA
variable {g : kG} {b : Nat} {l : Launch} {mt : Nat → eMeta} {nm : MethodName} {cc : ByteArray} {mL : Nat} {rt : Option FieldType} {hh : List (Nat × Nat × Nat × Nat)} {pc : Nat}
theorem eMm.arr {t : eX} {x u : Nat} {M : kM} {a : Nat} (h : eMm g b t x u M) (ha : a < 2048) (h0 : eGet t (eKy a 0) ≠ 0) (h1 : eGet t (eKy a 0) % 2 = 0) : tg M (b + a) = 101 + (eGet t (eKy a 0) / 2 - 1) % 16 ∧ ln M (b + a) = (eGet t (eKy a 0) / 2 - 1) / 16 ∧ ∀ k, eHas g b (eGet t (eKy a (k + 1))) (mkI ((eGet t (eKy a 0) / 2 - 1) % 16) (ai M (b + a) k)) (mkL ((eGet t (eKy a 0) / 2 - 1) % 16) (al M (b + a) k)) (mkR ((eGet t (eKy a 0) / 2 - 1) % 16) (ar M (b + a) k)) := (h.2.1 a ha).2 h0 h1
theorem so_Al {ok : Nat → Bool} {cv : Nat → Nat} {np : Nat} {G : kM → Nat → Nat → Value} (hG : ∀ ty v M a j, ok ty = true → eHas g b v (mkI ty (ai M a j)) (mkL ty (al M a j)) (mkR ty (ar M a j)) → cv v ≠ 0 → eVal g b (cv v) (G M a j))
    (row : ∀ dd lv rest M K N QR QX kc nc a j ty, ok ty = true → tg M a = 101 + ty → j < ln M a → kT l g nm cc mL rt hh dd K N QR QX np lv (G M a j :: rest) M kc nc → kT l g nm cc mL rt hh dd K N QR QX pc lv (.int (nI j) :: .ref a :: rest) M kc nc) : eSOK g b l mt (nm, cc, mL, rt, hh) pc (hAl ok cv np) := by
  refine so_pure (fun ih dd i lv st t x p u r h => ?_)
  obtain ⟨j, s, es, h1⟩ := eP_some h
  subst es
  obtain ⟨o, s', es, h2⟩ := eP_some h1
  subst es
  obtain ⟨h3, h4⟩ := eGd_some h2
  have e3 := beq_t h3
  rw [eLnd] at e3
  obtain ⟨h5, h6, h7⟩ := eAd_some h4
  obtain ⟨h8, h9, h10⟩ := eAr_some h6 h7
  obtain ⟨h11, h12⟩ := eGd_some h10
  obtain ⟨h13, h14⟩ := eGd_some h12
  obtain ⟨-, h16⟩ := eGd_some h14
  rw [fo_eq, eGq_eq h6] at h16
  obtain ⟨h17, h18⟩ := eNz h16
  refine ⟨np, lv, _, h18, fun lc sc M a1 a2 a3 => ?_⟩
  obtain ⟨w, ws, rfl, b1, b2⟩ := eSk_cons a2
  obtain ⟨w2, ws2, rfl, c1, c2⟩ := eSk_cons b2
  rw [c1.O h5, (b1.I e3).2]
  obtain ⟨d1, d2, d3⟩ := a3.arr h6 h8 h9
  have hj : j / 16 < ln M (b + o / 16) := by rw [d2]; exact ble_t h13
  exact ⟨lc, G M (b + o / 16) (j / 16) :: ws2, a1, ⟨hG _ _ _ _ _ h11 (d3 (j / 16)) h17, c2⟩, fun K N QR QX kc nc hq => row _ _ _ _ _ _ _ _ _ _ _ _ _ h11 d1 hj hq⟩
def ok0 (ty : Nat) : Bool := Nat.beq ty 0
def ok1 (ty : Nat) : Bool := Nat.beq ty 1
noncomputable def ok2 (ty : Nat) : Bool := cnd (Nat.beq ty 2) true (Nat.beq ty 3)
noncomputable def ok4 (ty : Nat) : Bool := cnd (Nat.ble 4 ty) (Nat.ble ty 8) false
theorem ok2_of {ty : Nat} (h : ok2 ty = true) : ty = 2 ∨ ty = 3 := by
  unfold ok2 at h
  rw [cond_beq] at h
  split at h
  · omega
  · have := beq_t h; omega
theorem ok4_of {ty : Nat} (h : ok4 ty = true) : 4 ≤ ty ∧ ty ≤ 8 := by
  unfold ok4 at h
  rw [cond_ble] at h
  split at h
  · have := ble_t h; omega
  · cases h
theorem so_iaload {np : Nat} (hdg : decode cc pc = .ok (.iaload, 1)) (hp : pc + 1 = np) : eSOK g b l mt (nm, cc, mL, rt, hh) pc (hAl ok0 eCvI np) := by
  subst hp
  refine so_Al (G := fun M a j => .int (ai M a j)) (fun ty v M a j h h2 h3 => ?_) (fun _ _ _ _ _ _ _ _ _ _ a j ty h ht hj hq => ?_)
  · rw [beq_t h] at h2
    exact h2.i h3
  · rw [beq_t h] at ht
    exact kT_ialdN hdg ht hj rfl hq
theorem so_laload {np : Nat} (hdg : decode cc pc = .ok (.laload, 1)) (hp : pc + 1 = np) : eSOK g b l mt (nm, cc, mL, rt, hh) pc (hAl ok1 eCvL np) := by
  subst hp
  refine so_Al (G := fun M a j => .long (al M a j)) (fun ty v M a j h h2 h3 => ?_) (fun _ _ _ _ _ _ _ _ _ _ a j ty h ht hj hq => ?_)
  · rw [beq_t h] at h2
    exact h2.lg h3
  · rw [beq_t h] at ht
    exact kT_laldN hdg ht hj rfl hq
theorem so_baload {np : Nat} (hdg : decode cc pc = .ok (.baload, 1)) (hp : pc + 1 = np) : eSOK g b l mt (nm, cc, mL, rt, hh) pc (hAl ok2 eCvI np) := by
  subst hp
  refine so_Al (G := fun M a j => .int (ai M a j)) (fun ty v M a j h h2 h3 => ?_) (fun _ _ _ _ _ _ _ _ _ _ a j ty h ht hj hq => ?_)
  · rcases ok2_of h with e | e <;> rw [e] at h2 <;> exact h2.i h3
  · rcases ok2_of h with e | e <;> rw [e] at ht
    · exact kT_baldN hdg ht hj rfl hq
    · exact kT_zaldN hdg ht hj rfl hq
theorem so_aaload {np : Nat} (hdg : decode cc pc = .ok (.aaload, 1)) (hp : pc + 1 = np) : eSOK g b l mt (nm, cc, mL, rt, hh) pc (hAl ok4 eCvR np) := by
  subst hp
  refine so_Al (G := fun M a j => va_rf (ar M a j)) (fun ty v M a j h h2 h3 => ?_) (fun _ _ _ _ _ _ _ _ _ _ a j ty h ht hj hq => ?_)
  · unfold mkR at h2
    rw [if_pos (ok4_of h).1] at h2
    exact h2.r h3
  · exact kT_aaldN hdg ht (ok4_of h).1 (by have := ok4_of h; omega) hj rfl hq
/-- a place of an array is written -/
theorem eMm_puta {t t' : eX} {x u a k v : Nat} {M M' : kM} (hM : eMm g b t x u M) (ha : a < 2048) (hob : eGet t (eKy a 0) ≠ 0) (ho2 : eGet t (eKy a 0) % 2 = 0) (hS : ∀ a' k', a' < 2048 → eGet t' (eKy a' k') = if a' = a ∧ k' = k + 1 then v else eGet t (eKy a' k'))
    (h1 : tg M' = tg M) (h2 : ln M' = ln M) (h3 : nx M' = nx M) (h4 : fi M' = fi M) (h5 : fl M' = fl M) (h6 : fr M' = fr M) (hf : ∀ a' k', ¬ (k' = k ∧ a' = b + a) → ai M' a' k' = ai M a' k' ∧ al M' a' k' = al M a' k' ∧ ar M' a' k' = ar M a' k') (hv : eHas g b v (mkI ((eGet t (eKy a 0) / 2 - 1) % 16) (ai M' (b + a) k)) (mkL ((eGet t (eKy a 0) / 2 - 1) % 16) (al M' (b + a) k)) (mkR ((eGet t (eKy a 0) / 2 - 1) % 16) (ar M' (b + a) k))) : eMm g b t' x u M' := by
  obtain ⟨m1, m2, m3, m4, m5⟩ := hM
  have hx : a < x := by
    rcases Nat.lt_or_ge a x with h | h
    · exact h
    · exact absurd (m3 a h ha 0) hob
  refine ⟨fun h => by rw [h3]; exact m1 h, fun a' ha' => ?_, fun a' hxa ha' k' => ?_, by rw [h1]; exact m4, by rw [h1]; exact m5⟩
  · have e0 : eGet t' (eKy a' 0) = eGet t (eKy a' 0) := by rw [hS a' 0 ha', if_neg (by omega)]
    unfold eCell
    rw [e0, h1, h2, h4, h5, h6]
    obtain ⟨q1, q2⟩ := m2 a' ha'
    refine ⟨fun z => ⟨(q1 z).1, fun k' => ?_⟩, fun z1 z2 => ⟨(q2 z1 z2).1, (q2 z1 z2).2.1, fun k' => ?_⟩⟩
    · rw [hS a' _ ha', if_neg (fun e => by rw [e.1] at z; omega)]
      exact (q1 z).2 k'
    · rw [hS a' _ ha']
      by_cases e : a' = a ∧ k' + 1 = k + 1
      · rw [if_pos e]
        have e1 : k' = k := by omega
        rw [e.1, e1]
        exact hv
      · rw [if_neg e]
        obtain ⟨f1, f2, f3⟩ := hf (b + a') k' (by omega)
        rw [f1, f2, f3]
        exact (q2 z1 z2).2.2 k'
  · rw [hS a' k' ha', if_neg (by omega)]
    exact m3 a' hxa ha' k'
theorem so_As {sv : Nat → Nat → Nat} {np : Nat} {W : Nat → Value → Prop} {S : kM → Nat → Nat → Nat → Value → kM} (hok : ∀ ty v w, sv ty v ≠ 0 → eVal g b v w → W ty w ∧ ∀ M a k, eHas g b (sv ty v) (mkI ty (ai (S M a k ty w) a k)) (mkL ty (al (S M a k ty w) a k)) (mkR ty (ar (S M a k ty w) a k)))
    (hS : ∀ M a k ty w, tg (S M a k ty w) = tg M ∧ ln (S M a k ty w) = ln M ∧ nx (S M a k ty w) = nx M ∧ fi (S M a k ty w) = fi M ∧ fl (S M a k ty w) = fl M ∧ fr (S M a k ty w) = fr M ∧ ∀ a' k', ¬ (k' = k ∧ a' = a) → ai (S M a k ty w) a' k' = ai M a' k' ∧ al (S M a k ty w) a' k' = al M a' k' ∧ ar (S M a k ty w) a' k' = ar M a' k')
    (row : ∀ dd lv rest M K N QR QX kc nc w a j ty, W ty w → tg M a = 101 + ty → j < ln M a → kT l g nm cc mL rt hh dd K N QR QX np lv rest (S M a j ty w) kc nc → kT l g nm cc mL rt hh dd K N QR QX pc lv (w :: .int (nI j) :: .ref a :: rest) M kc nc) : eSOK g b l mt (nm, cc, mL, rt, hh) pc (hAs sv np) := by
  refine so_mem (fun ih dd i lv st t x p u r h => ?_)
  obtain ⟨v, s, es, h1⟩ := eP_some h
  subst es
  obtain ⟨j, s', es, h2⟩ := eP_some h1
  subst es
  obtain ⟨o, s2, es, h2a⟩ := eP_some h2
  subst es
  obtain ⟨h3, h4⟩ := eGd_some h2a
  have e3 := beq_t h3
  rw [eLnd] at e3
  obtain ⟨h5, h6, h7⟩ := eAd_some h4
  obtain ⟨h8, h9, h10⟩ := eAr_some h6 h7
  obtain ⟨h13, h14⟩ := eGd_some h10
  obtain ⟨h15, h16⟩ := eGd_some h14
  rw [fo_eq] at h16
  obtain ⟨h17, h18⟩ := eNz h16
  have l1 := ble_t h13
  have l2 := ble_t h15
  have l3 : j / 16 + 1 < 268435456 := by
    have : ePl j = j / 16 := rfl
    omega
  obtain ⟨t', e1, e2⟩ := eSet_ok (t := t) (v := sv ((eGet t (eKy (o / 16) 0) / 2 - 1) % 16) v) h6 l3
  have e4 := e2 (fun t' => ih dd i np lv s2 t' x p u)
  rw [show eKy (o / 16) (j / 16 + 1) = eKy (o / 16) (Nat.succ (ePl j)) from rfl] at e4
  rw [e4] at h18
  refine ⟨np, lv, s2, t', h18, fun lc sc M a1 a2 a3 => ?_⟩
  obtain ⟨w, ws, rfl, b1, b2⟩ := eSk_cons a2
  obtain ⟨w2, ws2, rfl, c1, c2⟩ := eSk_cons b2
  obtain ⟨w3, ws3, rfl, f1, f2⟩ := eSk_cons c2
  rw [f1.O h5, (c1.I e3).2]
  obtain ⟨d1, d2, d3⟩ := a3.arr h6 h8 h9
  obtain ⟨g1, g2⟩ := hok _ v w h17 b1
  obtain ⟨s1, s2', s3, s4, s5, s6, s7⟩ := hS M (b + o / 16) (j / 16) ((eGet t (eKy (o / 16) 0) / 2 - 1) % 16) w
  have hj : j / 16 < ln M (b + o / 16) := by rw [d2]; exact l1
  exact ⟨lc, ws3, _, a1, f2, eMm_puta a3 h6 h8 h9 e1 s1 s2' s3 s4 s5 s6 s7 (g2 M _ _), fun K N QR QX kc nc hq => row _ _ _ _ _ _ _ _ _ _ w _ _ _ g1 d1 hj hq⟩
theorem so_iastore {np : Nat} (hdg : decode cc pc = .ok (.iastore, 1)) (hp : pc + 1 = np) : eSOK g b l mt (nm, cc, mL, rt, hh) pc (hAs eStI np) := by
  subst hp
  refine so_As (W := fun ty w => ty = 0 ∧ ∃ i, w = .int i) (S := fun M a k ty w => sai M a k (wI w)) (fun ty v w h h2 => ?_) (fun M a k ty w => ⟨k_tg_sai, k_ln_sai, k_nx_sai, k_fi_sai, k_fl_sai, k_fr_sai, fun a' k' h => ⟨by rw [k_ai_sai, if_neg h], by rw [k_al_sai], by rw [k_ar_sai]⟩⟩) (fun _ _ _ _ _ _ _ _ _ _ w a j ty ⟨e0, i, e⟩ ht hj h => by subst e; subst e0; exact kT_iastN hdg ht hj h)
  obtain ⟨z1, z2, -⟩ := c3 h
  have e0 := beq_t z1
  subst e0
  obtain ⟨i, rfl, h3⟩ := h2.int (eIi_of z2)
  refine ⟨⟨rfl, i, rfl⟩, fun M a k => ?_⟩
  unfold eStI
  rw [z1, z2, k_ai_sai, if_pos ⟨rfl, rfl⟩]
  exact eHas_i z2 h2
theorem so_lastore {np : Nat} (hdg : decode cc pc = .ok (.lastore, 1)) (hp : pc + 1 = np) : eSOK g b l mt (nm, cc, mL, rt, hh) pc (hAs eStL np) := by
  subst hp
  refine so_As (W := fun ty w => ty = 1 ∧ ∃ i, w = .long i) (S := fun M a k ty w => sal M a k (wL w)) (fun ty v w h h2 => ?_) (fun M a k ty w => ⟨k_tg_sal, k_ln_sal, k_nx_sal, k_fi_sal, k_fl_sal, k_fr_sal, fun a' k' h => ⟨by rw [k_ai_sal], by rw [k_al_sal, if_neg h], by rw [k_ar_sal]⟩⟩) (fun _ _ _ _ _ _ _ _ _ _ w a j ty ⟨e0, i, e⟩ ht hj h => by subst e; subst e0; exact kT_lastN hdg ht hj h)
  obtain ⟨z1, z2, -⟩ := c3 h
  have e0 := beq_t z1
  subst e0
  obtain ⟨i, rfl, h3⟩ := h2.long (eIl_of z2)
  refine ⟨⟨rfl, i, rfl⟩, fun M a k => ?_⟩
  unfold eStL
  rw [z1, z2, k_al_sal, if_pos ⟨rfl, rfl⟩]
  exact eHas_l z2 h2
theorem eB8_ok {v : Nat} {w : Value} (h : eVal g b v w) (hz : eB8 v ≠ 0) : ∃ i, w = .int i ∧ eIi (eB8 v) = true ∧ eVal g b (eB8 v) (.int i.toInt8.toInt32) := by
  have hm : v / 16 % 256 < 256 := Nat.mod_lt _ (by decide)
  obtain ⟨Z, ⟨i, e1, e2⟩, e3⟩ := eU1 (g := g) (b := b) (f := fun n => cnd (Nat.ble (Nat.mod n 256) 127) (eI (Nat.mod n 256)) (eI (Nat.add (Nat.mod n 256) 4294967040))) (z0 := eAny) (F := fun i => .int i.toInt8.toInt32) (fun i => eVal_any _) (fun a ha => by
    show eVal g b _ (.int (nI a).toInt8.toInt32)
    rw [nI_i8, cond_ble]
    have hm : a % 256 < 256 := Nat.mod_lt _ (by decide)
    by_cases h : Nat.mod a 256 ≤ 127
    · rw [if_pos h, if_pos (show a % 256 ≤ 127 from h)]; exact eVal_mkI (by show a % 256 < _; omega)
    · rw [if_neg h, if_neg (show ¬ a % 256 ≤ 127 from h)]; exact eVal_mkI (by show a % 256 + 4294967040 < _; omega)) v w h hz
  subst e2
  refine ⟨i, e1, ?_, e3⟩
  rcases e3 with ⟨j, -, q | q | q⟩ | ⟨z, e, -⟩ | ⟨r, e, -⟩
  · exact eIi_mk (Or.inl q.1)
  · exact eIi_mk (Or.inr (Or.inl q.1))
  · exact eIi_mk (Or.inr (Or.inr q.1))
  · cases e
  · cases r <;> cases e
theorem so_bastore {np : Nat} (hdg : decode cc pc = .ok (.bastore, 1)) (hp : pc + 1 = np) : eSOK g b l mt (nm, cc, mL, rt, hh) pc (hAs eStB np) := by
  subst hp
  refine so_As (W := fun ty w => (ty = 2 ∧ ∃ i, w = .int i) ∨ (ty = 3 ∧ ∃ i, w = .int i ∧ (i = 0 ∨ i = 1))) (S := fun M a k ty w => sai M a k (if ty = 2 then (wI w).toInt8.toInt32 else wI w)) (fun ty v w h h2 => ?_) (fun M a k ty w => ⟨k_tg_sai, k_ln_sai, k_nx_sai, k_fi_sai, k_fl_sai, k_fr_sai, fun a' k' h => ⟨by rw [k_ai_sai, if_neg h], by rw [k_al_sai], by rw [k_ar_sai]⟩⟩) (fun _ _ _ _ _ _ _ _ _ _ w a j ty h0 ht hj h => ?_)
  · unfold eStB at h ⊢
    rw [cond_beq, cond_beq] at h ⊢
    by_cases t2 : ty = 2
    · rw [if_pos t2] at h ⊢
      obtain ⟨i, rfl, q1, q2⟩ := eB8_ok h2 h
      refine ⟨Or.inl ⟨t2, i, rfl⟩, fun M a k => ?_⟩
      subst t2
      rw [k_ai_sai, if_pos ⟨rfl, rfl⟩]
      exact eHas_i q1 q2
    · rw [if_neg t2] at h ⊢
      by_cases t3 : ty = 3
      · rw [if_pos t3] at h ⊢
        have hz : eIz v = true ∧ eZ1 v = v := by
          unfold eZ1 at h ⊢
          unfold eIz
          rw [cond_beq, cond_beq] at h ⊢
          rw [cond_beq]
          by_cases v1 : v = 1
          · rw [if_pos v1, if_pos v1]; exact ⟨rfl, v1.symm⟩
          · rw [if_neg v1] at h ⊢
            rw [if_neg v1]
            by_cases v2 : v = 17
            · rw [if_pos v2, v2]; exact ⟨rfl, rfl⟩
            · rw [if_neg v2] at h; exact absurd rfl h
        obtain ⟨q1, i, rfl, q2⟩ := eIz_val hz.1 h2
        refine ⟨Or.inr ⟨t3, i, rfl, q2⟩, fun M a k => ?_⟩
        subst t3
        rw [hz.2, k_ai_sai, if_pos ⟨rfl, rfl⟩]
        exact eHas_i q1 h2
      · rw [if_neg t3] at h; exact absurd rfl h
  · rcases h0 with ⟨e0, i, e⟩ | ⟨e0, i, e, h01⟩
    · subst e; subst e0; exact kT_bastN hdg ht hj h
    · subst e; subst e0; exact kT_zastN hdg ht hj h01 h
theorem so_alen {np : Nat} (hdg : decode cc pc = .ok (.arraylength, 1)) (hp : pc + 1 = np) : eSOK g b l mt (nm, cc, mL, rt, hh) pc (hLen np) := by
  subst hp
  refine so_pure (fun ih dd i lv st t x p u r h => ?_)
  obtain ⟨o, s, es, h1⟩ := eP_some h
  subst es
  rw [cond_beq, cond_beq] at h1
  by_cases o7 : o = 7
  · rw [if_pos o7] at h1
    refine ⟨_, lv, _, h1, fun lc sc M a1 a2 a3 => ?_⟩
    obtain ⟨w, ws, rfl, b1, b2⟩ := eSk_cons a2
    subst o7
    have e : w = .ref (gN g) := by
      obtain ⟨r, e, h | h | h | h | h | h⟩ := b1.ref (by decide)
      · omega
      · rw [e, h.2]; rfl
      all_goals (exfalso; omega)
    subst e
    exact ⟨lc, .int 0 :: ws, a1, ⟨eVal_mkI (n := 0) (by decide), b2⟩, fun K N QR QX kc nc hq => kT_alenS hdg (Or.inl a3.2.2.2.1) hq⟩
  · rw [if_neg o7] at h1
    by_cases o8 : o = 8
    · rw [if_pos o8] at h1
      refine ⟨_, lv, _, h1, fun lc sc M a1 a2 a3 => ?_⟩
      obtain ⟨w, ws, rfl, b1, b2⟩ := eSk_cons a2
      subst o8
      have e : w = .ref (gW g) := by
        obtain ⟨r, e, h | h | h | h | h | h⟩ := b1.ref (by decide)
        · omega
        · omega
        · rw [e, h.2]; rfl
        all_goals (exfalso; omega)
      subst e
      exact ⟨lc, .int 0 :: ws, a1, ⟨eVal_mkI (n := 0) (by decide), b2⟩, fun K N QR QX kc nc hq => kT_alenS hdg (Or.inr a3.2.2.2.2) hq⟩
    · rw [if_neg o8] at h1
      obtain ⟨h5, h6, h7⟩ := eAd_some h1
      obtain ⟨h8, h9, h10⟩ := eAr_some h6 h7
      obtain ⟨h11, h12⟩ := eGd_some h10
      obtain ⟨h13, h14⟩ := eGd_some h12
      rw [fo_eq] at h14
      refine ⟨_, lv, _, h14, fun lc sc M a1 a2 a3 => ?_⟩
      obtain ⟨w, ws, rfl, b1, b2⟩ := eSk_cons a2
      rw [b1.O h5]
      obtain ⟨d1, d2, d3⟩ := a3.arr h6 h8 h9
      have l1 := ble_t h11
      have l2 := ble_t h13
      refine ⟨lc, .int (nI (ln M (b + o / 16))) :: ws, a1, ⟨?_, b2⟩, fun K N QR QX kc nc hq => kT_alen hdg d1 (by omega) hq⟩
      rw [d2]
      exact eVal_mkI (by omega)
end EA

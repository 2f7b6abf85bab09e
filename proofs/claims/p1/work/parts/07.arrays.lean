/-! rows of the judgement: arrays, new things, ends -/
section KA
variable {l : Launch} {g : kG} {nm : MethodName} {cc : ByteArray} {mL : Nat} {rt : Option FieldType} {hh : List (Nat × Nat × Nat × Nat)} {d K N : Nat} {QR : Option Value → kM → Prop} {QX : String → kM → Prop} {pc : Nat} {lv : List (Nat × Value)} {rest : List Value} {M : kM} {kc nc : Nat}
theorem kFit_sai {M : kM} {a k t : Nat} {v : Int32} (h : kFit M a t) (hb : t = 2 → fits .byte (.int v) = true) (hz : t = 3 → fits .boolean (.int v) = true) : kFit (sai M a k v) a t := by
  refine ⟨fun e j => ?_, fun e j => ?_⟩
  · show fits .byte (.int (up2 (ai M) a k v a j)) = true
    rw [up2_at]
    split
    · exact hb e
    · exact h.1 e j
  · show fits .boolean (.int (up2 (ai M) a k v a j)) = true
    rw [up2_at]
    split
    · exact hz e
    · exact h.2 e j
theorem kFit_none {M : kM} {a t : Nat} (h2 : t ≠ 2) (h3 : t ≠ 3) : kFit M a t := ⟨fun e => absurd e h2, fun e => absurd e h3⟩
theorem kFit_zero {M : kM} {a t : Nat} (h : ∀ j, ai M a j = 0) : kFit M a t := ⟨fun _ j => by rw [h j]; rfl, fun _ j => by rw [h j]; rfl⟩
theorem kT_iald {a j : Nat} {i : Int32} (hdg : decode cc pc = .ok (.iaload, 1)) (ht : tg M a = 101) (hi : i.toInt = (j : Int)) (hj : j < ln M a) (kk : kT l g nm cc mL rt hh d K N QR QX (pc + 1) lv (.int (ai M a j) :: rest) M kc nc) : kT l g nm cc mL rt hh d K N QR QX pc lv (.int i :: .ref a :: rest) M kc nc := by
  intro p e s m args below meth c9 A H locs cells slots ls hR hS hl9 h19 h29
  obtain ⟨hx, hb, hml, hret, hlk, hown, hts, hK, hSt, htab, hl0, hnm, hlo0⟩ := id A
  obtain ⟨hlo, hcell, hfit, hlen⟩ := hR.arr (t := 0) ht (by decide)
  exact W.iald hx hb hcell ((hK.2.1 0 (by decide)).1 (ln M a) (kAV M a 0)) (fun h => by cases h) (by rw [arrV_size]; exact kIn hi hj) (by rw [kClamp hi]; exact arrV_read _ _ hj) rfl rfl hdg (kk p e s m args below meth c9 A H locs cells slots ls hR hS hl9 h19 h29)
theorem kT_lald {a j : Nat} {i : Int32} (hdg : decode cc pc = .ok (.laload, 1)) (ht : tg M a = 102) (hi : i.toInt = (j : Int)) (hj : j < ln M a) (kk : kT l g nm cc mL rt hh d K N QR QX (pc + 1) lv (.long (al M a j) :: rest) M kc nc) : kT l g nm cc mL rt hh d K N QR QX pc lv (.int i :: .ref a :: rest) M kc nc := by
  intro p e s m args below meth c9 A H locs cells slots ls hR hS hl9 h19 h29
  obtain ⟨hx, hb, hml, hret, hlk, hown, hts, hK, hSt, htab, hl0, hnm, hlo0⟩ := id A
  obtain ⟨hlo, hcell, hfit, hlen⟩ := hR.arr (t := 1) ht (by decide)
  exact W.lald hx hb hcell ((hK.2.1 1 (by decide)).1 (ln M a) (kAV M a 1)) (fun h => by cases h) (by rw [arrV_size]; exact kIn hi hj) (by rw [kClamp hi]; exact arrV_read _ _ hj) rfl rfl hdg (kk p e s m args below meth c9 A H locs cells slots ls hR hS hl9 h19 h29)
theorem kT_bald {a j : Nat} {i : Int32} (hdg : decode cc pc = .ok (.baload, 1)) (ht : tg M a = 103) (hi : i.toInt = (j : Int)) (hj : j < ln M a) (kk : kT l g nm cc mL rt hh d K N QR QX (pc + 1) lv (.int (ai M a j) :: rest) M kc nc) : kT l g nm cc mL rt hh d K N QR QX pc lv (.int i :: .ref a :: rest) M kc nc := by
  intro p e s m args below meth c9 A H locs cells slots ls hR hS hl9 h19 h29
  obtain ⟨hx, hb, hml, hret, hlk, hown, hts, hK, hSt, htab, hl0, hnm, hlo0⟩ := id A
  obtain ⟨hlo, hcell, hfit, hlen⟩ := hR.arr (t := 2) ht (by decide)
  exact W.bald hx hb hcell ((hK.2.1 2 (by decide)).1 (ln M a) (kAV M a 2)) (fun h => by cases h) (by rw [arrV_size]; exact kIn hi hj) (by rw [kClamp hi]; exact arrV_read _ _ hj) rfl rfl hdg (kk p e s m args below meth c9 A H locs cells slots ls hR hS hl9 h19 h29)
theorem kT_zald {a j : Nat} {i : Int32} (hdg : decode cc pc = .ok (.baload, 1)) (ht : tg M a = 104) (hi : i.toInt = (j : Int)) (hj : j < ln M a) (kk : kT l g nm cc mL rt hh d K N QR QX (pc + 1) lv (.int (ai M a j) :: rest) M kc nc) : kT l g nm cc mL rt hh d K N QR QX pc lv (.int i :: .ref a :: rest) M kc nc := by
  intro p e s m args below meth c9 A H locs cells slots ls hR hS hl9 h19 h29
  obtain ⟨hx, hb, hml, hret, hlk, hown, hts, hK, hSt, htab, hl0, hnm, hlo0⟩ := id A
  obtain ⟨hlo, hcell, hfit, hlen⟩ := hR.arr (t := 3) ht (by decide)
  exact W.zald hx hb hcell ((hK.2.1 3 (by decide)).1 (ln M a) (kAV M a 3)) (fun h => by cases h) (by rw [arrV_size]; exact kIn hi hj) (by rw [kClamp hi]; exact arrV_read _ _ hj) rfl rfl hdg (kk p e s m args below meth c9 A H locs cells slots ls hR hS hl9 h19 h29)
theorem kT_iast {a j : Nat} {i : Int32} {x : Int32} (hdg : decode cc pc = .ok (.iastore, 1)) (ht : tg M a = 101) (hi : i.toInt = (j : Int)) (hj : j < ln M a) (kk : kT l g nm cc mL rt hh d K N QR QX (pc + 1) lv rest (sai M a j x) kc nc) : kT l g nm cc mL rt hh d K N QR QX pc lv (.int x :: .int i :: .ref a :: rest) M kc nc := by
  intro p e s m args below meth c9 A H locs cells slots ls hR hS hl9 h19 h29
  obtain ⟨hx, hb, hml, hret, hlk, hown, hts, hK, hSt, htab, hl0, hnm, hlo0⟩ := id A
  obtain ⟨hlo, hcell, hfit, hlen⟩ := hR.arr (t := 0) ht (by decide)
  refine W.iast hx hb hcell ((hK.2.1 0 (by decide)).1 (ln M a) (kAV M a 0)) (fun h => by cases h) (by rw [arrV_size]; exact kIn hi hj) rfl rfl hdg fun H1 e1 z1 o1 => ?_
  refine kk p e s m args below meth c9 A H1 _ cells slots ls (hR.upd rfl z1 (fun b hb9 => kLike_sai hb9) o1 ?_) (hS.put z1 o1 hlo) hl9 h19 h29
  refine Or.inr (Or.inr (Or.inl ⟨0, ht, by decide, hlo, ?_, kFit_none (by decide) (by decide), hlen⟩))
  · rw [kClamp hi] at e1
    rw [e1, arrV_store]
    congr 2
    funext b
    simp only [updV, kAV]
    show _ = _
    simp only [ai, sai, up2, and_true]
    split <;> rfl
theorem kT_last {a j : Nat} {i : Int32} {x : Int64} (hdg : decode cc pc = .ok (.lastore, 1)) (ht : tg M a = 102) (hi : i.toInt = (j : Int)) (hj : j < ln M a) (kk : kT l g nm cc mL rt hh d K N QR QX (pc + 1) lv rest (sal M a j x) kc nc) : kT l g nm cc mL rt hh d K N QR QX pc lv (.long x :: .int i :: .ref a :: rest) M kc nc := by
  intro p e s m args below meth c9 A H locs cells slots ls hR hS hl9 h19 h29
  obtain ⟨hx, hb, hml, hret, hlk, hown, hts, hK, hSt, htab, hl0, hnm, hlo0⟩ := id A
  obtain ⟨hlo, hcell, hfit, hlen⟩ := hR.arr (t := 1) ht (by decide)
  refine W.last hx hb hcell ((hK.2.1 1 (by decide)).1 (ln M a) (kAV M a 1)) (fun h => by cases h) (by rw [arrV_size]; exact kIn hi hj) rfl rfl hdg fun H1 e1 z1 o1 => ?_
  refine kk p e s m args below meth c9 A H1 _ cells slots ls (hR.upd rfl z1 (fun b hb9 => kLike_sal hb9) o1 ?_) (hS.put z1 o1 hlo) hl9 h19 h29
  refine Or.inr (Or.inr (Or.inl ⟨1, ht, by decide, hlo, ?_, kFit_none (by decide) (by decide), hlen⟩))
  · rw [kClamp hi] at e1
    rw [e1, arrV_store]
    congr 2
    funext b
    simp only [updV, kAV]
    show _ = _
    simp only [al, sal, up2, and_true]
    split <;> rfl
theorem kT_bast {a j : Nat} {i : Int32} {x : Int32} (hdg : decode cc pc = .ok (.bastore, 1)) (ht : tg M a = 103) (hi : i.toInt = (j : Int)) (hj : j < ln M a) (kk : kT l g nm cc mL rt hh d K N QR QX (pc + 1) lv rest (sai M a j (x.toInt8.toInt32)) kc nc) : kT l g nm cc mL rt hh d K N QR QX pc lv (.int x :: .int i :: .ref a :: rest) M kc nc := by
  intro p e s m args below meth c9 A H locs cells slots ls hR hS hl9 h19 h29
  obtain ⟨hx, hb, hml, hret, hlk, hown, hts, hK, hSt, htab, hl0, hnm, hlo0⟩ := id A
  obtain ⟨hlo, hcell, hfit, hlen⟩ := hR.arr (t := 2) ht (by decide)
  refine W.bast hx hb hcell ((hK.2.1 2 (by decide)).1 (ln M a) (kAV M a 2)) (fun h => by cases h) (by rw [arrV_size]; exact kIn hi hj) rfl rfl hdg fun H1 e1 z1 o1 => ?_
  refine kk p e s m args below meth c9 A H1 _ cells slots ls (hR.upd rfl z1 (fun b hb9 => kLike_sai hb9) o1 ?_) (hS.put z1 o1 hlo) hl9 h19 h29
  refine Or.inr (Or.inr (Or.inl ⟨2, ht, by decide, hlo, ?_, kFit_sai hfit (fun _ => pk_fb x) (fun e => absurd e (by decide)), hlen⟩))
  · rw [kClamp hi] at e1
    rw [e1, arrV_store]
    congr 2
    funext b
    simp only [updV, kAV]
    show _ = _
    simp only [ai, sai, up2, and_true]
    split <;> rfl
theorem kT_zast {a j : Nat} {i : Int32} {x : Int32} (hdg : decode cc pc = .ok (.bastore, 1)) (ht : tg M a = 104) (hi : i.toInt = (j : Int)) (hj : j < ln M a) (h01 : x = 0 ∨ x = 1) (kk : kT l g nm cc mL rt hh d K N QR QX (pc + 1) lv rest (sai M a j x) kc nc) : kT l g nm cc mL rt hh d K N QR QX pc lv (.int x :: .int i :: .ref a :: rest) M kc nc := by
  intro p e s m args below meth c9 A H locs cells slots ls hR hS hl9 h19 h29
  obtain ⟨hx, hb, hml, hret, hlk, hown, hts, hK, hSt, htab, hl0, hnm, hlo0⟩ := id A
  obtain ⟨hlo, hcell, hfit, hlen⟩ := hR.arr (t := 3) ht (by decide)
  refine W.zast hx hb hcell ((hK.2.1 3 (by decide)).1 (ln M a) (kAV M a 3)) (fun h => by cases h) (by rw [arrV_size]; exact kIn hi hj) rfl rfl hdg fun H1 e1 z1 o1 => ?_
  refine kk p e s m args below meth c9 A H1 _ cells slots ls (hR.upd rfl z1 (fun b hb9 => kLike_sai hb9) o1 ?_) (hS.put z1 o1 hlo) hl9 h19 h29
  refine Or.inr (Or.inr (Or.inl ⟨3, ht, by decide, hlo, ?_, kFit_sai hfit (fun e => absurd e (by decide)) (fun _ => by rcases h01 with rfl | rfl <;> rfl), hlen⟩))
  · rw [kClamp hi] at e1
    have hnw : narrow .boolean (.int x) = .int x := by rcases h01 with rfl | rfl <;> rfl
    rw [hnw] at e1
    rw [e1, arrV_store]
    congr 2
    funext b
    simp only [updV, kAV]
    show _ = _
    simp only [ai, sai, up2, and_true]
    split <;> rfl
theorem kT_aald {a j t : Nat} {i : Int32} (hdg : decode cc pc = .ok (.aaload, 1)) (ht : tg M a = 101 + t) (ht4 : 4 ≤ t) (ht9 : t < 9) (hi : i.toInt = (j : Int)) (hj : j < ln M a) {v : Value} (hv : va_rf (ar M a j) = v) (kk : kT l g nm cc mL rt hh d K N QR QX (pc + 1) lv (v :: rest) M kc nc) : kT l g nm cc mL rt hh d K N QR QX pc lv (.int i :: .ref a :: rest) M kc nc := by
  intro p e s m args below meth c9 A H locs cells slots ls hR hS hl9 h19 h29
  obtain ⟨hx, hb, hml, hret, hlk, hown, hts, hK, hSt, htab, hl0, hnm, hlo0⟩ := id A
  subst hv
  obtain ⟨hlo, hcell, hfit, hlen⟩ := hR.arr ht ht9
  have hrf : (kAty t).isReference = true := by
    match t, ht4, ht9 with
    | 4, _, _ => rfl
    | 5, _, _ => rfl
    | 6, _, _ => rfl
    | 7, _, _ => rfl
    | 8, _, _ => rfl
  have hval : kAV M a t j = va_rf (ar M a j) := by
    match t, ht4, ht9 with
    | 4, _, _ => rfl
    | 5, _, _ => rfl
    | 6, _, _ => rfl
    | 7, _, _ => rfl
    | 8, _, _ => rfl
  exact W.aald hx hb hcell ((hK.2.1 t ht9).1 (ln M a) (kAV M a t)) hrf (fun h => by cases h) (by rw [arrV_size]; exact kIn hi hj) (by rw [kClamp hi, ← hval]; exact arrV_read _ _ hj) rfl rfl hdg (kk p e s m args below meth c9 A H locs cells slots ls hR hS hl9 h19 h29)
/-- which class the things in an array of references are -/
def kEl : Nat → Nat := fun t => match t with
  | 4 => 8
  | 5 => 4
  | 6 => 5
  | _ => 7
theorem kEl_ok {t : Nat} (h4 : 4 ≤ t) (h8 : t < 8) : ∃ r : vw_C, kCl[kEl t]? = some r ∧ kAty t = .object r.1 ∧ kEl t < 50 := by
  match t, h4, h8 with
  | 4, _, _ => exact ⟨_, rfl, rfl, by decide⟩
  | 5, _, _ => exact ⟨_, rfl, rfl, by decide⟩
  | 6, _, _ => exact ⟨_, rfl, rfl, by decide⟩
  | 7, _, _ => exact ⟨_, rfl, rfl, by decide⟩
theorem kAV_ref {M : kM} {a t j : Nat} (h4 : 4 ≤ t) : kAV M a t j = va_rf (ar M a j) := by
  match t, h4 with
  | n + 4, _ => rfl
theorem kT_aast {a b j t : Nat} {i : Int32} (hdg : decode cc pc = .ok (.aastore, 1)) (ht : tg M a = 101 + t) (ht4 : 4 ≤ t) (ht8 : t < 8) (hb0 : tg M b = kEl t + 1) (hi : i.toInt = (j : Int)) (hj : j < ln M a) (kk : kT l g nm cc mL rt hh d K N QR QX (pc + 1) lv rest (sar M a j (some b)) kc nc) : kT l g nm cc mL rt hh d K N QR QX pc lv (.ref b :: .int i :: .ref a :: rest) M kc nc := by
  intro p e s m args below meth c9 A H locs cells slots ls hR hS hl9 h19 h29
  obtain ⟨hx, hb, hml, hret, hlk, hown, hts, hK, hSt, htab, hl0, hnm, hlo0⟩ := id A
  obtain ⟨hlo, hcell, hfit, hlen⟩ := hR.arr ht (by omega)
  obtain ⟨r, hr, hty, h50⟩ := kEl_ok ht4 ht8
  obtain ⟨r', hr', -, cellV, g1, g2, g3, -⟩ := hR.obj hb0 h50
  have hcls := (hK.1.1 (kEl t) r hr).2
  have hRA := (hK.2.1 t (by omega)).2
  rw [hty] at hRA
  obtain ⟨kA9, comp, k1, k2, k3, -⟩ := hRA
  have hcomp : comp = (gD g).1 (kEl t) := Option.some.inj (k3.symm.trans hcls.1)
  subst hcomp
  obtain ⟨kC, hkC, -⟩ := hcls.2
  have hin := kIn hi hj
  refine W.aast hx hb hcell (fun q h => by cases h) (fun h => by cases h) k1 k2 rfl hkC ⟨fun q => hin (Or.inl q), by rw [arrV_size]; exact Nat.not_le.mp fun q => hin (Or.inr q)⟩ g1 (fun q h => by rw [g3] at h; cases h) (by rw [g2]; exact hkC) (by rw [g2]; exact va_assign hcls) rfl rfl hdg fun H1 e1 z1 o1 => ?_
  refine kk p e s m args below meth c9 A H1 _ cells slots ls (hR.upd rfl z1 (fun b hb9 => kLike_sar hb9) o1 ?_) (hS.put z1 o1 hlo) hl9 h19 h29
  refine Or.inr (Or.inr (Or.inl ⟨t, ht, by omega, hlo, ?_, kFit_none (by omega) (by omega), hlen⟩))
  rw [kClamp hi] at e1
  rw [e1, arrV_store]
  congr 2
  funext b9
  rw [kAV_ref ht4]
  simp only [updV]
  show _ = va_rf (up2 (ar M) a j (some b) a b9)
  rw [up2_at]
  split
  · rfl
  · exact kAV_ref ht4
theorem kT_aastN {a j t : Nat} {i : Int32} (hdg : decode cc pc = .ok (.aastore, 1)) (ht : tg M a = 101 + t) (ht4 : 4 ≤ t) (ht8 : t < 8) (hi : i.toInt = (j : Int)) (hj : j < ln M a) (kk : kT l g nm cc mL rt hh d K N QR QX (pc + 1) lv rest (sar M a j none) kc nc) : kT l g nm cc mL rt hh d K N QR QX pc lv (.null :: .int i :: .ref a :: rest) M kc nc := by
  intro p e s m args below meth c9 A H locs cells slots ls hR hS hl9 h19 h29
  obtain ⟨hx, hb, hml, hret, hlk, hown, hts, hK, hSt, htab, hl0, hnm, hlo0⟩ := id A
  obtain ⟨hlo, hcell, hfit, hlen⟩ := hR.arr ht (by omega)
  obtain ⟨r, hr, hty, h50⟩ := kEl_ok ht4 ht8
  refine va_WaastN (C := r.1) hx hb hcell (by rw [← hty]; exact (hK.2.1 t (by omega)).1 (ln M a) (kAV M a t)) (fun h => by cases h) (by rw [arrV_size]; exact kIn hi hj) rfl rfl hdg fun H1 e1 z1 o1 => ?_
  refine kk p e s m args below meth c9 A H1 _ cells slots ls (hR.upd rfl z1 (fun b hb9 => kLike_sar hb9) o1 ?_) (hS.put z1 o1 hlo) hl9 h19 h29
  refine Or.inr (Or.inr (Or.inl ⟨t, ht, by omega, hlo, ?_, kFit_none (by omega) (by omega), hlen⟩))
  rw [kClamp hi] at e1
  rw [e1, arrV_store]
  congr 2
  funext b9
  rw [kAV_ref ht4]
  simp only [updV]
  show _ = va_rf (up2 (ar M) a j none a b9)
  rw [up2_at]
  split
  · rfl
  · exact kAV_ref ht4
theorem kT_alen {a t : Nat} (hdg : decode cc pc = .ok (.arraylength, 1)) (ht : tg M a = 101 + t) (ht9 : t < 9) (kk : kT l g nm cc mL rt hh d K N QR QX (pc + 1) lv (.int (nI (ln M a)) :: rest) M kc nc) : kT l g nm cc mL rt hh d K N QR QX pc lv (.ref a :: rest) M kc nc := by
  intro p e s m args below meth c9 A H locs cells slots ls hR hS hl9 h19 h29
  obtain ⟨hx, hb, hml, hret, hlk, hown, hts, hK, hSt, htab, hl0, hnm, hlo0⟩ := id A
  obtain ⟨hlo, hcell, hfit, hlen⟩ := hR.arr ht ht9
  exact W.alen hx hb hcell ((hK.2.1 t ht9).1 (ln M a) (kAV M a t)) (by rw [arrV_size]; rfl) rfl rfl hdg (kk p e s m args below meth c9 A H locs cells slots ls hR hS hl9 h19 h29)
theorem kT_alenS {a : Nat} (hdg : decode cc pc = .ok (.arraylength, 1)) (ht : tg M a = 111 ∨ tg M a = 112) (kk : kT l g nm cc mL rt hh d K N QR QX (pc + 1) lv (.int 0 :: rest) M kc nc) : kT l g nm cc mL rt hh d K N QR QX pc lv (.ref a :: rest) M kc nc := by
  intro p e s m args below meth c9 A H locs cells slots ls hR hS hl9 h19 h29
  obtain ⟨hx, hb, hml, hret, hlk, hown, hts, hK, hSt, htab, hl0, hnm, hlo0⟩ := id A
  have hq : ∀ z : Nat, z < s.heap.size → ¬ kA g z → H[z]? = s.heap[z]? := hS.2.1
  rcases hR.2 a with h | ⟨c, r, h1, h2, -⟩ | ⟨t, h1, h2, -⟩ | ⟨h1, h2, h3⟩ | ⟨h1, h2, h3⟩
  · omega
  · omega
  · omega
  · obtain ⟨cell, c1, c2, c3, c4, c5, c6, c7⟩ := hSt.2.1.kept hq
    subst h2
    exact W.alen hx hb c1 c2 c5 rfl rfl hdg (kk p e s m args below meth c9 A H locs cells slots ls hR hS hl9 h19 h29)
  · obtain ⟨cell, c1, c2, c3, c4, c5, c6, c7⟩ := hSt.2.2.2.1.kept hq
    subst h2
    exact W.alen hx hb c1 c2 c5 rfl rfl hdg (kk p e s m args below meth c9 A H locs cells slots ls hR hS hl9 h19 h29)
theorem kEnd {s t : State} {H : Heap} {locs : List Loc} {args : Array Value} {v : Option Value} (hR : kRep g M H) (hS : va_S (kA g) s.heap H locs) (hq : QR v M) (ht : t.heap = H) : kQc g QR args s (.returned v) t := ⟨⟨v, M, rfl, hq, by rw [ht]; exact hR⟩, hS.F ht⟩
theorem kT_ireturn {v : Int32} (hdg : decode cc pc = .ok (.ireturn, 1)) (hr0 : rt = some .int) (hq : QR (some (.int v)) M) : kT l g nm cc mL rt hh d K N QR QX pc lv [.int v] M kc nc := by
  intro p e s m args below meth c9 A H locs cells slots ls hR hS hl9 h19 h29
  obtain ⟨hx, hb, hml, hret, hlk, hown, hts, hK, hSt, htab, hl0, hnm, hlo0⟩ := id A
  subst hr0
  refine vx_ret (W.widen (k := K) (n := N) (by omega) (by omega) ?_)
  exact W.iret hx hb hret (fun t ht hW => kEnd hR hS hq ht) hS.2.2 hdg hlk
theorem kT_return (hdg : decode cc pc = .ok (.return_, 1)) (hr0 : rt = none) (hq : QR (none) M) : kT l g nm cc mL rt hh d K N QR QX pc lv [] M kc nc := by
  intro p e s m args below meth c9 A H locs cells slots ls hR hS hl9 h19 h29
  obtain ⟨hx, hb, hml, hret, hlk, hown, hts, hK, hSt, htab, hl0, hnm, hlo0⟩ := id A
  subst hr0
  refine vx_ret (W.widen (k := K) (n := N) (by omega) (by omega) ?_)
  exact W.vret hx hb hret (fun t ht hW => kEnd hR hS hq ht) hS.2.2 hdg hlk
theorem kT_zreturn {v : Int32} (hdg : decode cc pc = .ok (.ireturn, 1)) (hr0 : rt = some .boolean) (h01 : v = 0 ∨ v = 1) (hq : QR (some (.int v)) M) : kT l g nm cc mL rt hh d K N QR QX pc lv [.int v] M kc nc := by
  intro p e s m args below meth c9 A H locs cells slots ls hR hS hl9 h19 h29
  obtain ⟨hx, hb, hml, hret, hlk, hown, hts, hK, hSt, htab, hl0, hnm, hlo0⟩ := id A
  subst hr0
  refine vx_ret (W.widen (k := K) (n := N) (by omega) (by omega) ?_)
  exact W.zret hx hb hret (by rcases h01 with rfl | rfl <;> rfl) (fun t ht hW => kEnd hR hS hq ht) hS.2.2 hdg hlk
theorem kT_areturn {r0 : Option Nat} {v : Value} {ty : FieldType} (hdg : decode cc pc = .ok (.areturn, 1)) (hr0 : rt = some ty) (hty : (∃ n, ty = .object n) ∨ ∃ t, ty = .array t) (hv : va_rf r0 = v) (hq : QR (some v) M) : kT l g nm cc mL rt hh d K N QR QX pc lv [v] M kc nc := by
  intro p e s m args below meth c9 A H locs cells slots ls hR hS hl9 h19 h29
  obtain ⟨hx, hb, hml, hret, hlk, hown, hts, hK, hSt, htab, hl0, hnm, hlo0⟩ := id A
  subst hr0
  subst hv
  refine vx_ret (W.widen (k := K) (n := N) (by omega) (by omega) ?_)
  exact W.aret hx hb hret hty (va_rf_or r0) (fun t ht hW => kEnd hR hS hq ht) hS.2.2 hdg hlk
def kOkT (t : FieldType) : Bool := match t with
  | .int => true
  | .boolean => true
  | .long => true
  | .object _ => true
  | .array _ => true
  | _ => false
theorem kOkT_all : ∀ (c : Nat) (r : vw_C), kCl[c]? = some r → ∀ k, k < r.2.2 → kOkT (kTyp c k) = true := by
  intro c r h
  match c, h with
  | 0, h => cases h; decide +kernel
  | 1, h => cases h; decide +kernel
  | 2, h => cases h; decide +kernel
  | 3, h => cases h; decide +kernel
  | 4, h => cases h; decide +kernel
  | 5, h => cases h; decide +kernel
  | 6, h => cases h; decide +kernel
  | 7, h => cases h; decide +kernel
  | 8, h => cases h; decide +kernel
  | 9, h => cases h; decide +kernel
  | 10, h => cases h; decide +kernel
  | 11, h => cases h; decide +kernel
  | 12, h => cases h; decide +kernel
  | c + 13, h => exact absurd h (by simp [kCl])
def kNm (c : Nat) : String := match kCl[c]? with
  | some r => r.1
  | none => ""
theorem kNm_of {c : Nat} {r : vw_C} (h : kCl[c]? = some r) : kNm c = r.1 := by simp [kNm, h]
theorem kFresh {g : kG} {M : kM} {U : State} {H H9 : Heap} (hR : kRep g M H) (hSt : kSt g U H9) (hz : gLo g ≤ H.size) : ∀ b, nx M ≤ b → tg M b = 0 := by
  intro b hb
  rw [hR.1] at hb
  rcases hR.2 b with h | ⟨c, r, -, -, -, -, cell, q, -⟩ | ⟨t, -, -, -, q, -⟩ | ⟨-, h2, -⟩ | ⟨-, h2, -⟩
  · exact h
  · exact absurd (Array.getElem?_eq_some_iff.mp q).1 (by omega)
  · exact absurd (Array.getElem?_eq_some_iff.mp q).1 (by omega)
  · obtain ⟨cell, -, -, -, -, -, -, c7⟩ := hSt.2.1
    exact absurd (show gLo g ≤ gN g by omega) c7
  · obtain ⟨cell, -, -, -, -, -, -, c7⟩ := hSt.2.2.2.1
    exact absurd (show gLo g ≤ gW g by omega) c7
theorem kPushed {H H1 : Heap} (z1 : H1.size = H.size + 1) (o1 : ∀ q : Nat, q < H.size → H1[q]? = H[q]?) : ∀ q : Nat, q ≠ H.size → H1[q]? = H[q]? := by
  intro q hq
  by_cases h : q < H.size
  · exact o1 q h
  · rw [Array.getElem?_eq_none (by omega), Array.getElem?_eq_none (by omega)]
theorem kS_new {g : kG} {H0 H H1 : Heap} {locs : List Loc} (hS : va_S (kA g) H0 H locs) (z1 : H1.size = H.size + 1) (o1 : ∀ q : Nat, q < H.size → H1[q]? = H[q]?) : va_S (kA g) H0 H1 locs := ⟨Nat.le_trans hS.1 (by omega), fun q h1 h2 => (o1 q (Nat.lt_of_lt_of_le h1 hS.1)).trans (hS.2.1 q h1 h2), hS.2.2⟩
theorem kT_new {c idx : Nat} (hdg : decode cc pc = .ok (.new idx, 3)) (hc : c < 13) (hw1 : Cond.classLink nm.cls idx (kNm c) ∈ kTb) (hw2 : Cond.instantiable (kNm c) (kSz c) ∈ kTb) (hw3 : Cond.initialized (kNm c) ∈ kTb) (hk : 1 ≤ kc) (hn : kSz c ≤ nc) (kk : gLo g ≤ nx M → (∀ b, nx M ≤ b → tg M b = 0) → kT l g nm cc mL rt hh d K N QR QX (pc + 3) lv (.ref (nx M) :: rest) (nwO M c) (kc - 1) (nc - kSz c)) : kT l g nm cc mL rt hh d K N QR QX pc lv rest M kc nc := by
  intro p e s m args below meth c9 A H locs cells slots ls hR hS hl9 h19 h29
  obtain ⟨hx, hb, hml, hret, hlk, hown, hts, hK, hSt, htab, hl0, hnm, hlo0⟩ := id A
  obtain ⟨r, hr⟩ : ∃ r, kCl[c]? = some r := ⟨_, List.getElem?_eq_getElem (by simpa [kCl] using hc)⟩
  rw [kNm_of hr] at hw1 hw2 hw3
  rw [kSz_of hr] at hw2 hn kk
  have hKn := hK.1.1 c r hr
  refine W.newcK hx hb hown (hts _ hw1) (hts _ hw2) (hts _ hw3) rfl hdg (show cells + 1 ≤ K by omega) (show slots + r.2.2 ≤ N by omega) hKn.2.1 rfl fun H1 kC hkC e1 z1 o1 => ?_
  have hz : gLo g ≤ H.size := Nat.le_trans hlo0 hS.1
  rw [← hR.1] at e1 ⊢
  have hz' : gLo g ≤ nx M := by rw [hR.1]; exact hz
  refine kk hz' (kFresh hR hSt hz) p e s m args below meth c9 A H1 _ _ _ ls (hR.new rfl z1 (fun b hb9 => kLike_nwO hb9) (by rw [hR.1]; exact kPushed z1 o1) ?_) (kS_new hS z1 o1) hl9 (by omega) (by omega)
  refine Or.inr (Or.inl ⟨c, r, by simp [nwO, tg, va_up], by omega, hr, hz', t_OB.to (u_born (kTyp c) hts (kCl_in c r hr) hKn hkC e1 (kCl_ty c r hr)) fun k hk9 => ?_⟩)
  have h9 := kOkT_all c r hr k hk9
  simp only [kFV]
  cases h8 : kTyp c k <;> simp_all [kOkT, defaultValue, nwO, fi, fl, fr, zr2, va_rf]
theorem kAr_new {t n : Nat} (M : kM) (ht9 : t < 9) : kAV (nwA M t n) (nx M) t = fun _ => defaultValue (kAty t) := by
  funext j
  match t, ht9 with
  | 0, _ => simp [kAV, nwA, ai, zr2, kAty, defaultValue]
  | 1, _ => simp [kAV, nwA, al, zr2, kAty, defaultValue]
  | 2, _ => simp [kAV, nwA, ai, zr2, kAty, defaultValue]
  | 3, _ => simp [kAV, nwA, ai, zr2, kAty, defaultValue]
  | 4, _ => simp [kAV, nwA, ar, zr2, kAty, defaultValue, va_rf]
  | 5, _ => simp [kAV, nwA, ar, zr2, kAty, defaultValue, va_rf]
  | 6, _ => simp [kAV, nwA, ar, zr2, kAty, defaultValue, va_rf]
  | 7, _ => simp [kAV, nwA, ar, zr2, kAty, defaultValue, va_rf]
  | 8, _ => simp [kAV, nwA, ar, zr2, kAty, defaultValue, va_rf]
theorem kOK_newA {g : kG} {M : kM} {H1 : Heap} {t n : Nat} (ht9 : t < 9) (hz : gLo g ≤ nx M) (hn : n < 2147483648) (e1 : H1[nx M]? = some (arrV (gA g t) n (fun _ => defaultValue (kAty t)))) : kOK g (nwA M t n) H1 (nx M) := by
  refine Or.inr (Or.inr (Or.inl ⟨t, by simp [nwA, tg, va_up], ht9, hz, ?_, kFit_zero (fun j => by simp [nwA, ai, zr2]), ?_⟩))
  · rw [e1, kAr_new M ht9]
    simp [nwA, ln, va_up]
  · simpa [nwA, ln, va_up] using hn
theorem kT_newa {t n : Nat} {atype : ArrayType} {i : Int32} (hdg : decode cc pc = .ok (.newarray atype, 2)) (hty : newarray.typeOf atype = kAty t) (ht4 : t < 4) (hw : Cond.arrayClass (kAty t) ∈ kTb) (hi : i.toInt = (n : Int)) (hb0 : n ≤ 67108864) (hk : 1 ≤ kc) (hn : n ≤ nc) (kk : gLo g ≤ nx M → (∀ b, nx M ≤ b → tg M b = 0) → kT l g nm cc mL rt hh d K N QR QX (pc + 2) lv (.ref (nx M) :: rest) (nwA M t n) (kc - 1) (nc - n)) : kT l g nm cc mL rt hh d K N QR QX pc lv (.int i :: rest) M kc nc := by
  intro p e s m args below meth c9 A H locs cells slots ls hR hS hl9 h19 h29
  obtain ⟨hx, hb, hml, hret, hlk, hown, hts, hK, hSt, htab, hl0, hnm, hlo0⟩ := id A
  have hin : ¬ i < 0 := fun h => by
    have := Int32.lt_iff_toInt_lt.mp h
    have e0 : (0 : Int32).toInt = 0 := by decide
    omega
  have hcb : componentBytes (kAty t) ≤ 8 := by
    match t, ht4 with
    | 0, _ => decide
    | 1, _ => decide
    | 2, _ => decide
    | 3, _ => decide
  refine va_newaK hx hb (by rw [hty]; exact hts _ hw) rfl hdg rfl hin (kClamp hi) (by rw [hty]; exact Nat.le_trans (Nat.mul_le_mul hb0 hcb) (by decide)) (show cells + 1 ≤ K by omega) (show slots + n ≤ N by omega) rfl fun H1 cA e1 z1 o1 hAr hNm => ?_
  have hz : gLo g ≤ H.size := Nat.le_trans hlo0 hS.1
  have hcA : cA = gA g t := by
    have h9 := (hK.2.1 t (by omega)).2
    rw [hty] at hNm
    match t, ht4, h9, hNm with
    | 0, _, h9, hNm => exact Option.some.inj (hNm.symm.trans h9)
    | 1, _, h9, hNm => exact Option.some.inj (hNm.symm.trans h9)
    | 2, _, h9, hNm => exact Option.some.inj (hNm.symm.trans h9)
    | 3, _, h9, hNm => exact Option.some.inj (hNm.symm.trans h9)
  subst hcA
  rw [hty] at e1
  rw [← hR.1] at e1 ⊢
  have hz' : gLo g ≤ nx M := by rw [hR.1]; exact hz
  exact kk hz' (kFresh hR hSt hz) p e s m args below meth c9 A H1 _ _ _ ls (hR.new rfl z1 (fun b hb9 => kLike_nwA hb9) (by rw [hR.1]; exact kPushed z1 o1) (kOK_newA (by omega) hz' (by omega) e1)) (kS_new hS z1 o1) hl9 (by omega) (by omega)
theorem kT_anew {t n idx : Nat} {i : Int32} (hdg : decode cc pc = .ok (.anewarray idx, 3)) (ht4 : 4 ≤ t) (ht8 : t < 8) (hw1 : Cond.classLink nm.cls idx (kNm (kEl t)) ∈ kTb) (hi : i.toInt = (n : Int)) (hb0 : n ≤ 67108864) (hk : 1 ≤ kc) (hn : n ≤ nc) (kk : gLo g ≤ nx M → (∀ b, nx M ≤ b → tg M b = 0) → kT l g nm cc mL rt hh d K N QR QX (pc + 3) lv (.ref (nx M) :: rest) (nwA M t n) (kc - 1) (nc - n)) : kT l g nm cc mL rt hh d K N QR QX pc lv (.int i :: rest) M kc nc := by
  intro p e s m args below meth c9 A H locs cells slots ls hR hS hl9 h19 h29
  obtain ⟨hx, hb, hml, hret, hlk, hown, hts, hK, hSt, htab, hl0, hnm, hlo0⟩ := id A
  have hin : ¬ i < 0 := fun h => by
    have := Int32.lt_iff_toInt_lt.mp h
    have e0 : (0 : Int32).toInt = 0 := by decide
    omega
  obtain ⟨r, hr, hty, h50⟩ := kEl_ok ht4 ht8
  rw [kNm_of hr] at hw1
  have hov : (Cond.arrayOver (.object r.1)).before args s = true := by
    refine va_AO.use (hK.2.2.2.2.2.1 r.1 ?_)
    match t, ht4, ht8, hr with
    | 4, _, _, hr => cases hr; simp [kOv]
    | 5, _, _, hr => cases hr; simp [kOv]
    | 6, _, _, hr => cases hr; simp [kOv]
    | 7, _, _, hr => cases hr; simp [kOv]
  refine W.anew hx hb hown (hts _ hw1) hov rfl hdg rfl hin (by rw [kClamp hi]; omega) (show cells + 1 ≤ K by omega) (by rw [kClamp hi]; show slots + n ≤ N; omega) fun cA kA9 comp h1 h2 h3 h4 => ?_
  have hz : gLo g ≤ H.size := Nat.le_trans hlo0 hS.1
  have hRA := (hK.2.1 t (by omega)).2
  rw [hty] at hRA
  obtain ⟨kA8, comp8, -, -, -, k4⟩ := hRA
  have hcA : cA = gA g t := Option.some.inj (h1.symm.trans k4)
  subst hcA
  rw [kClamp hi]
  have z1 : (H.push { cls := gA g t, slots := Array.replicate n Value.null, vm := .none }).size = H.size + 1 := by simp
  have o1 : ∀ q : Nat, q < H.size → (H.push ({ cls := gA g t, slots := Array.replicate n Value.null, vm := .none } : Cell))[q]? = H[q]? := fun q hq => by simp [Array.getElem?_push, Nat.ne_of_lt hq]
  have e1 : (H.push ({ cls := gA g t, slots := Array.replicate n Value.null, vm := .none } : Cell))[H.size]? = some (arrV (gA g t) n (fun _ => defaultValue (kAty t))) := by
    rw [← arrV_new, hty]
    simp [defaultValue]
  have hz' : gLo g ≤ nx M := by rw [hR.1]; exact hz
  have hW := kk hz' (kFresh hR hSt hz) p e s m args below meth c9 A _ _ _ _ ls (hR.new rfl z1 (fun b hb9 => kLike_nwA hb9) (by rw [hR.1]; exact kPushed z1 o1) (kOK_newA (by omega) hz' (by omega) (by rw [hR.1]; exact e1))) (kS_new hS z1 o1) hl9 (show cells + 1 + (kc - 1) ≤ K by omega) (show slots + n + (nc - n) ≤ N by omega)
  rw [hR.1] at hW
  exact hW
end KA

/-! rows of the judgement that read and write the memory -/
def kFd (c k : Nat) : String × String × String × Bool := match kCl[c]? with
  | some r => r.2.1 k
  | none => ("", "", "", false)
def kSz (c : Nat) : Nat := match kCl[c]? with
  | some r => r.2.2
  | none => 0
theorem kFd_of {c k : Nat} {r : vw_C} (h : kCl[c]? = some r) : kFd c k = r.2.1 k := by simp [kFd, h]
theorem kSz_of {c : Nat} {r : vw_C} (h : kCl[c]? = some r) : kSz c = r.2.2 := by simp [kSz, h]
theorem kClamp {i : Int32} {j : Nat} (h : i.toInt = (j : Int)) : i.toNatClampNeg = j := by
  show i.toInt.toNat = j
  omega
theorem kIn {i : Int32} {j n : Nat} (h : i.toInt = (j : Int)) (hj : j < n) : ¬ (i < 0 ∨ n ≤ i.toNatClampNeg) := by
  rw [kClamp h]
  rintro (h1 | h1)
  · have := Int32.lt_iff_toInt_lt.mp h1
    have e0 : (0 : Int32).toInt = 0 := by decide
    omega
  · omega
theorem up2_ne {α : Type} {f : Nat → Nat → α} {a k b : Nat} {v : α} (h : b ≠ a) : up2 f a k v b = f b := by
  funext j
  simp [up2, h]
theorem up2_at {α : Type} {f : Nat → Nat → α} {a k j : Nat} {v : α} : up2 f a k v a j = if j = k then v else f a j := by simp [up2]
theorem zr2_ne {α : Type} {f : Nat → Nat → α} {a b : Nat} {v : Nat → α} (h : b ≠ a) : zr2 f a v b = f b := by
  funext j
  simp [zr2, h]
theorem zr2_at {α : Type} {f : Nat → Nat → α} {a j : Nat} {v : Nat → α} : zr2 f a v a j = v j := by simp [zr2]
/-- memories that agree on all there is of an address -/
theorem kLike.of {M M' : kM} {b : Nat} (h1 : tg M' b = tg M b) (h2 : ln M' b = ln M b) (h3 : fi M' b = fi M b) (h4 : fl M' b = fl M b) (h5 : fr M' b = fr M b) (h6 : ai M' b = ai M b) (h7 : al M' b = al M b) (h8 : ar M' b = ar M b) : kLike M M' b := by
  refine ⟨h1, h2, fun c => ?_, fun t => ⟨?_, ?_⟩⟩
  · funext k
    simp only [kFV, h3, h4, h5]
  · funext j
    simp only [kAV, h6, h7, h8]
  · intro h
    exact ⟨fun e j => by rw [h6]; exact h.1 e j, fun e j => by rw [h6]; exact h.2 e j⟩
theorem kLike_sfi {M : kM} {a k b : Nat} {v : Int32} (h : b ≠ a) : kLike M (sfi M a k v) b := kLike.of rfl rfl (up2_ne h) rfl rfl rfl rfl rfl
theorem kLike_sfr {M : kM} {a k b : Nat} {v : Option Nat} (h : b ≠ a) : kLike M (sfr M a k v) b := kLike.of rfl rfl rfl rfl (up2_ne h) rfl rfl rfl
theorem kLike_sai {M : kM} {a k b : Nat} {v : Int32} (h : b ≠ a) : kLike M (sai M a k v) b := kLike.of rfl rfl rfl rfl rfl (up2_ne h) rfl rfl
theorem kLike_sal {M : kM} {a k b : Nat} {v : Int64} (h : b ≠ a) : kLike M (sal M a k v) b := kLike.of rfl rfl rfl rfl rfl rfl (up2_ne h) rfl
theorem kLike_sar {M : kM} {a k b : Nat} {v : Option Nat} (h : b ≠ a) : kLike M (sar M a k v) b := kLike.of rfl rfl rfl rfl rfl rfl rfl (up2_ne h)
theorem kLike_wai {M : kM} {a b : Nat} {v : Nat → Int32} (h : b ≠ a) : kLike M (wai M a v) b := kLike.of rfl rfl rfl rfl rfl (zr2_ne h) rfl rfl
theorem kLike_nwO {M : kM} {c b : Nat} (h : b ≠ nx M) : kLike M (nwO M c) b := kLike.of (va_up_ne _ _ h) rfl (zr2_ne h) (zr2_ne h) (zr2_ne h) rfl rfl rfl
theorem kLike_nwA {M : kM} {t n b : Nat} (h : b ≠ nx M) : kLike M (nwA M t n) b := kLike.of (va_up_ne _ _ h) (va_up_ne _ _ h) rfl rfl rfl (zr2_ne h) (zr2_ne h) (zr2_ne h)
section KH
variable {l : Launch} {g : kG} {nm : MethodName} {cc : ByteArray} {mL : Nat} {rt : Option FieldType} {hh : List (Nat × Nat × Nat × Nat)} {d K N : Nat} {QR : Option Value → kM → Prop} {QX : String → kM → Prop} {pc : Nat} {lv : List (Nat × Value)} {rest : List Value} {M : kM} {kc nc : Nat}
/-- a field is read -/
theorem kT_getf {a c k0 idx : Nat} {v : Value} (hdg : decode cc pc = .ok (.getfield idx, 3)) (hw : Cond.fieldLink nm.cls idx (kFd c k0).1 (kFd c k0).2.1 (kFd c k0).2.2.1 ∈ kTb) (ht : tg M a = c + 1) (hc : c < 50) (hk : k0 < kSz c) (hv : kFV M a c k0 = v)
    (kk : kT l g nm cc mL rt hh d K N QR QX (pc + 3) lv (v :: rest) M kc nc) : kT l g nm cc mL rt hh d K N QR QX pc lv (.ref a :: rest) M kc nc := by
  intro p e s m args below meth c9 A H locs cells slots ls hR hS hl9 h19 h29
  obtain ⟨hx, hb, hml, hret, hlk, hown, hts, hK, hSt, hrest⟩ := id A
  obtain ⟨r, hr, hlo, cell, q1, q2, q3, q4⟩ := hR.obj ht hc
  rw [kFd_of hr] at hw
  rw [kSz_of hr] at hk
  obtain ⟨hSl, hfc, kC, hkC, hkind⟩ := hK.1.1 c r hr
  obtain ⟨cf, kf, f0, f, hi, hsl⟩ := hSl k0 hk
  refine W.getf hx hb hown (hts _ hw) hi (u_facts hfc hkC (u_lays hts (kCl_in c r hr) hk) hi).1 q1 (by rw [q3]; exact fun h => by cases h) (v := v) ?_ rfl rfl hdg (kk p e s m args below meth c9 A H locs cells slots ls hR hS hl9 h19 h29)
  rw [hsl, q4 k0 hk, hv]
/-- a field is written -/
theorem kT_putf {M1 : kM} {a c k0 idx : Nat} {v : Value} (hdg : decode cc pc = .ok (.putfield idx, 3)) (hw : Cond.fieldLink nm.cls idx (kFd c k0).1 (kFd c k0).2.1 (kFd c k0).2.2.1 ∈ kTb) (ht : tg M a = c + 1) (hc : c < 50) (hk : k0 < kSz c) (hfin : (kFd c k0).2.2.2 = false ∨ ((kFd c k0).2.2.2 = true ∧ nm.name = "<init>" ∧ (kFd c k0).1 = nm.cls))
    (hn : narrow (kTyp c k0) v = v) (hfit : fits (kTyp c k0) v = true) (ht1 : tg M1 a = tg M a) (hnx : nx M1 = nx M) (hM : ∀ j, kFV M1 a c j = if j = k0 then v else kFV M a c j) (hlike : ∀ b, b ≠ a → kLike M M1 b)
    (kk : kT l g nm cc mL rt hh d K N QR QX (pc + 3) lv rest M1 kc nc) : kT l g nm cc mL rt hh d K N QR QX pc lv (v :: .ref a :: rest) M kc nc := by
  intro p e s m args below meth c9 A H locs cells slots ls hR hS hl9 h19 h29
  obtain ⟨hx, hb, hml, hret, hlk, hown, hts, hK, hSt, htab, hl0, hnm, hlo0⟩ := id A
  obtain ⟨r, hr, hlo, cell, q1, q2, q3, q4⟩ := hR.obj ht hc
  rw [kFd_of hr] at hw hfin
  rw [kSz_of hr] at hk
  obtain ⟨hSl, hfc, kC, hkC, hkind⟩ := hK.1.1 c r hr
  have hap := va_apart (own := nm.cls) hts (kCl_in c r hr) (kTyp c) (kCl_ty c r hr) (kCl_nm c r hr) hK.1 hr
  obtain ⟨cf, kf, f0, f, hi, hsl⟩ := hSl k0 hk
  have hlay := hts _ (kCl_in c r hr _ (u_in_lay hk))
  have hst := (u_facts hfc hkC (u_lays hts (kCl_in c r hr) hk) hi).1
  have hfin2 : ∀ H1 : Heap, H1[a]? = some (cell.setSlot f.slot v) → H1.size = H.size → (∀ q : Nat, q ≠ a → H1[q]? = H[q]?) → W p l e (kRm d K N) s m args below meth c9 H1 (locs ++ [⟨a, f.slot⟩]) cells slots (vx_MQ below (kQc g QR) (kXC g QX) args s K N (kA g)) (F0 m (pc + 3) ls rest) := by
    intro H1 e1 e2 e3
    refine kk p e s m args below meth c9 A H1 _ cells slots ls (hR.upd hnx e2 hlike e3 ?_) (hS.put e2 e3 hlo) hl9 h19 h29
    rw [hsl] at e1
    exact Or.inr (Or.inl ⟨c, r, ht1.trans ht, hc, hr, hlo, t_OB.to (V := updV (kFV M a c) k0 v) ⟨_, e1, q2, q3, t_set q4 hap hk v⟩ (fun j _ => by rw [hM j]; rfl)⟩)
  unfold u_lay at hlay
  rcases hfin with hfin | ⟨hfin, hin2, hdecl⟩
  · rw [if_neg (by rw [hfin]; decide)] at hlay
    have h6 := u_store hfc hkC hkind hlay hi (kCl_ty c r hr k0 hk) hn hfit
    exact W.putK hx hb (f := f) ⟨hown, hts _ hw, ⟨_, _, _, hi⟩, hst⟩ (by rw [q2]; exact h6) q1 q3 (by rw [hsl]; exact k2_hasslot (q4 k0 hk)) rfl rfl hdg hfin2
  · rw [if_pos hfin] at hlay
    have hcf : m.cls = cf := by
      obtain ⟨_, _, c', _, _, _, -, -, hf', -, -, -, hown2, -⟩ := Cond.laysFinal_spec hlay
      have e1 : c' = cf := by have := hi.symm.trans hf'; simp at this; exact this.1.symm
      rw [hdecl] at hown2
      rw [← e1]
      exact Option.some.inj (hown.symm.trans hown2)
    have h6 := u_fits hfc hkC hkind (Or.inr hlay) hi (kCl_ty c r hr k0 hk) hn hfit
    exact W.putFinK hx hb hown (hts _ hw) hi hst hcf (hnm.trans hin2) (by rw [q2]; exact h6) q1 q3 (by rw [hsl]; exact k2_hasslot (q4 k0 hk)) rfl rfl hdg hfin2
theorem kT_putI {a c k0 idx : Nat} {v : Int32} (hdg : decode cc pc = .ok (.putfield idx, 3)) (hw : Cond.fieldLink nm.cls idx (kFd c k0).1 (kFd c k0).2.1 (kFd c k0).2.2.1 ∈ kTb) (ht : tg M a = c + 1) (hc : c < 50) (hk : k0 < kSz c) (hfin : (kFd c k0).2.2.2 = false ∨ ((kFd c k0).2.2.2 = true ∧ nm.name = "<init>" ∧ (kFd c k0).1 = nm.cls)) (hty : kTyp c k0 = .int)
    (kk : kT l g nm cc mL rt hh d K N QR QX (pc + 3) lv rest (sfi M a k0 v) kc nc) : kT l g nm cc mL rt hh d K N QR QX pc lv (.int v :: .ref a :: rest) M kc nc :=
  kT_putf (M1 := sfi M a k0 v) hdg hw ht hc hk hfin (by rw [hty]; rfl) (by rw [hty]; rfl) rfl rfl (fun j => by
    by_cases e : j = k0
    · subst e; simp [kFV, hty, sfi, fi, up2]
    · simp only [kFV, e, if_false]
      simp [sfi, fi, fl, fr, up2, e]) (fun b hb => kLike_sfi hb) kk
theorem kT_putZ {a c k0 idx : Nat} {v : Int32} (hdg : decode cc pc = .ok (.putfield idx, 3)) (hw : Cond.fieldLink nm.cls idx (kFd c k0).1 (kFd c k0).2.1 (kFd c k0).2.2.1 ∈ kTb) (ht : tg M a = c + 1) (hc : c < 50) (hk : k0 < kSz c) (hfin : (kFd c k0).2.2.2 = false ∨ ((kFd c k0).2.2.2 = true ∧ nm.name = "<init>" ∧ (kFd c k0).1 = nm.cls)) (hty : kTyp c k0 = .boolean) (h01 : v = 0 ∨ v = 1)
    (kk : kT l g nm cc mL rt hh d K N QR QX (pc + 3) lv rest (sfi M a k0 v) kc nc) : kT l g nm cc mL rt hh d K N QR QX pc lv (.int v :: .ref a :: rest) M kc nc :=
  kT_putf (M1 := sfi M a k0 v) hdg hw ht hc hk hfin (by rw [hty]; rcases h01 with rfl | rfl <;> rfl) (by rw [hty]; rcases h01 with rfl | rfl <;> rfl) rfl rfl (fun j => by
    by_cases e : j = k0
    · subst e; simp [kFV, hty, sfi, fi, up2]
    · simp only [kFV, e, if_false]
      simp [sfi, fi, fl, fr, up2, e]) (fun b hb => kLike_sfi hb) kk
/-- a field of references; kRefT says that its type is an object's or an array's -/
def kRefT (t : FieldType) : Bool := match t with
  | .object _ => true
  | .array _ => true
  | _ => false
theorem kRefT_nf {t : FieldType} (h : kRefT t = true) (r : Option Nat) : narrow t (va_rf r) = va_rf r ∧ fits t (va_rf r) = true := by
  cases t <;> simp_all [kRefT] <;> cases r <;> exact ⟨rfl, rfl⟩
theorem kT_putR {a c k0 idx : Nat} {r0 : Option Nat} {v : Value} (hdg : decode cc pc = .ok (.putfield idx, 3)) (hw : Cond.fieldLink nm.cls idx (kFd c k0).1 (kFd c k0).2.1 (kFd c k0).2.2.1 ∈ kTb) (ht : tg M a = c + 1) (hc : c < 50) (hk : k0 < kSz c) (hfin : (kFd c k0).2.2.2 = false ∨ ((kFd c k0).2.2.2 = true ∧ nm.name = "<init>" ∧ (kFd c k0).1 = nm.cls)) (hty : kRefT (kTyp c k0) = true) (hv : va_rf r0 = v)
    (kk : kT l g nm cc mL rt hh d K N QR QX (pc + 3) lv rest (sfr M a k0 r0) kc nc) : kT l g nm cc mL rt hh d K N QR QX pc lv (v :: .ref a :: rest) M kc nc := by
  subst hv
  refine kT_putf (M1 := sfr M a k0 r0) hdg hw ht hc hk hfin (kRefT_nf hty r0).1 (kRefT_nf hty r0).2 rfl rfl (fun j => ?_) (fun b hb => kLike_sfr hb) kk
  by_cases e : j = k0
  · subst e
    simp only [kFV, if_true]
    cases h9 : kTyp c j <;> simp_all [kRefT, sfr, fr, up2]
  · simp only [kFV, e, if_false]
    simp [sfr, fi, fl, fr, up2, e]
end KH

/-! ===== ends, throws, calls; the whole machine ===== -/
section EE
variable {g : kG} {b : Nat} {l : Launch} {mt : Nat → eMeta} {nm : MethodName} {cc : ByteArray} {mL : Nat} {rt : Option FieldType} {hh : List (Nat × Nat × Nat × Nat)} {pc : Nat}
theorem so_ret0 (hdg : decode cc pc = .ok (.return_, 1)) (hr0 : rt = none) : eSOK g b l mt (nm, cc, mL, rt, hh) pc hRet0 := by
  intro ih hih dd i lv st t x p u r hq h
  cases st with
  | nil =>
    have e : (0, 0, t, x, p, u) = r := Option.some.inj h
    subst e
    refine ⟨Nat.le_refl x, Nat.le_refl p, fun lc sc M K N QR QX kc nc a1 a2 a3 a4 a5 a6 _ => ?_⟩
    rw [eSk_nil a2]
    exact kT_return hdg hr0 (a6.1 rfl none M (Or.inl ⟨rfl, rfl⟩) a3)
  | cons a s => cases h
theorem so_Ret {ok : Nat → Bool} {W : Value → Prop} (hok : ∀ v w, ok v = true → eVal g b v w → v ≠ 0 ∧ W w) (row : ∀ dd lv M K N QR QX kc nc w, W w → QR (some w) M → kT l g nm cc mL rt hh dd K N QR QX pc lv [w] M kc nc) : eSOK g b l mt (nm, cc, mL, rt, hh) pc (hRet ok) := by
  intro ih hih dd i lv st t x p u r hq h
  obtain ⟨v, s, es, h1⟩ := eP_some h
  subst es
  obtain ⟨h2, h3⟩ := eGd_some h1
  cases s with
  | nil =>
    have e : (0, v, t, x, p, u) = r := Option.some.inj h3
    subst e
    refine ⟨Nat.le_refl x, Nat.le_refl p, fun lc sc M K N QR QX kc nc a1 a2 a3 a4 a5 a6 _ => ?_⟩
    obtain ⟨w, ws, rfl, b1, b2⟩ := eSk_cons a2
    rw [eSk_nil b2]
    obtain ⟨c1, c2⟩ := hok v w h2 b1
    exact row _ _ _ _ _ _ _ _ _ w c2 (a6.1 rfl (some w) M (Or.inr ⟨c1, w, rfl, b1⟩) a3)
  | cons a s => cases h3
theorem so_reti (hdg : decode cc pc = .ok (.ireturn, 1)) (hr0 : rt = some .int) : eSOK g b l mt (nm, cc, mL, rt, hh) pc (hRet eIi) :=
  so_Ret ok_i (fun _ _ _ _ _ _ _ _ _ w ⟨i, e⟩ h => by subst e; exact kT_ireturn hdg hr0 h)
theorem so_retz (hdg : decode cc pc = .ok (.ireturn, 1)) (hr0 : rt = some .boolean) : eSOK g b l mt (nm, cc, mL, rt, hh) pc (hRet eIz) :=
  so_Ret (W := fun w => ∃ i, w = .int i ∧ (i = 0 ∨ i = 1)) (fun v w h h2 => ⟨fun e => (by rw [e] at h; cases h), (eIz_val h h2).2⟩) (fun _ _ _ _ _ _ _ _ _ w ⟨i, e, h01⟩ h => by subst e; exact kT_zreturn hdg hr0 h01 h)
theorem so_reta {ty : FieldType} (hdg : decode cc pc = .ok (.areturn, 1)) (hr0 : rt = some ty) (hty : (∃ n, ty = .object n) ∨ ∃ t, ty = .array t) : eSOK g b l mt (nm, cc, mL, rt, hh) pc (hRet eIa) :=
  so_Ret ok_a (fun _ _ _ _ _ _ _ _ _ w ⟨i, e⟩ h => kT_areturn hdg hr0 hty e.symm h)
theorem eMm.weak {t : eX} {x x' u : Nat} {M : kM} (h : eMm g b t x u M) (hx : x ≤ x') : eMm g b t x' 1 M := ⟨fun z => by omega, h.2.1, fun a h1 h2 k => h.2.2.1 a (by omega) h2 k, h.2.2.2.1, h.2.2.2.2⟩
theorem eMm.snx {t : eX} {x u n : Nat} {M : kM} (h : eMm g b t x 1 M) : eMm g b t x 1 (snx M n) := ⟨fun z => by omega, h.2.1, h.2.2.1, h.2.2.2.1, h.2.2.2.2⟩
theorem so_throw {text : String} {E ik is ic : Nat} (hT : kThr nm.cls ik ic (eN E)) (hstr : (nm.cls, is, text) ∈ kStr) (d0 : decode cc pc = .ok (.new ik, 3)) (d3 : decode cc (pc + 3) = .ok (.dup, 1)) (d4 : decode cc (pc + 4) = .ok (.ldc is, 2)) (d6 : decode cc (pc + 6) = .ok (.invokespecial ic, 3)) (d9 : decode cc (pc + 9) = .ok (.athrow, 1)) (hE9 : Nat.ble E 50 = true := by rfl) : eSOK g b l mt (nm, cc, mL, rt, []) pc (hThr E) := by
  intro ih hih dd i lv st t x p u r hq h
  obtain ⟨h1, h2⟩ := eGd_some h
  obtain ⟨h3, h4⟩ := eGd_some h2
  rw [fo_eq, fo_eq] at h4
  have e := Option.some.inj h4
  subst e
  refine ⟨Nat.le_succ x, Nat.le_add_right p 6, fun lc sc M K N QR QX kc nc a1 a2 a3 a4 a5 a6 _ => ?_⟩
  have k1 : Nat.succ x - x ≤ kc := a4
  have k2 : p + 6 - p ≤ nc := a5
  exact kT_throwS hT hstr d0 d3 d4 d6 d9 (ble_t h1) (by rw [eCat_ok a2]; exact ble_t h3) (by omega) (by omega) (a6.2 E (by have := ble_t hE9; omega) rfl M (a3.weak (Nat.le_succ x)))
theorem so_throwW {text : String} {E ik is ic : Nat} (hT : kThr nm.cls ik ic (eN E)) (hstr : (nm.cls, is, text) ∈ kStr) (d0 : decode cc pc = .ok (.new ik, 3)) (d3 : decode cc (pc + 3) = .ok (.dup, 1)) (d4 : decode cc (pc + 4) = .ok (.ldc_w is, 3)) (d6 : decode cc (pc + 7) = .ok (.invokespecial ic, 3)) (d9 : decode cc (pc + 10) = .ok (.athrow, 1)) (hE9 : Nat.ble E 50 = true := by rfl) : eSOK g b l mt (nm, cc, mL, rt, []) pc (hThr E) := by
  intro ih hih dd i lv st t x p u r hq h
  obtain ⟨h1, h2⟩ := eGd_some h
  obtain ⟨h3, h4⟩ := eGd_some h2
  rw [fo_eq, fo_eq] at h4
  have e := Option.some.inj h4
  subst e
  refine ⟨Nat.le_succ x, Nat.le_add_right p 6, fun lc sc M K N QR QX kc nc a1 a2 a3 a4 a5 a6 _ => ?_⟩
  have k1 : Nat.succ x - x ≤ kc := a4
  have k2 : p + 6 - p ≤ nc := a5
  exact kT_throwSW hT hstr d0 d3 d4 d6 d9 (ble_t h1) (by rw [eCat_ok a2]; exact ble_t h3) (by omega) (by omega) (a6.2 E (by have := ble_t hE9; omega) rfl M (a3.weak (Nat.le_succ x)))
/-! calls -/
theorem eTk_ok {α : Type} (n : Nat) : ∀ (st acc : List Nat) (c : List Nat → List Nat → Option α) (r : α), eTk n st acc c = some r → ∃ as rest, as.length = n ∧ st = as.reverse ++ rest ∧ c (as ++ acc) rest = some r := by
  induction n with
  | zero => intro st acc c r h; exact ⟨[], st, rfl, rfl, h⟩
  | succ n ih =>
    intro st acc c r h
    obtain ⟨v, s, es, h1⟩ := eP_some h
    subst es
    obtain ⟨as, rest, h2, h3, h4⟩ := ih s (v :: acc) c r h1
    refine ⟨as ++ [v], rest, by rw [List.length_append, h2]; rfl, by rw [h3, List.reverse_append]; rfl, ?_⟩
    rw [List.append_assoc]
    exact h4
theorem eSk_app {x y : List Nat} : ∀ {sc : List Value}, eSk g b (x ++ y) sc → ∃ xc yc, sc = xc ++ yc ∧ eSk g b x xc ∧ eSk g b y yc := by
  induction x with
  | nil => intro sc h; exact ⟨[], sc, rfl, trivial, h⟩
  | cons a s ih =>
    intro sc h
    obtain ⟨w, ws, rfl, h1, h2⟩ := eSk_cons h
    obtain ⟨xc, yc, rfl, h3, h4⟩ := ih h2
    exact ⟨w :: xc, yc, rfl, ⟨h1, h3⟩, h4⟩
theorem eSk_mk {x y : List Nat} : ∀ {xc yc : List Value}, eSk g b x xc → eSk g b y yc → eSk g b (x ++ y) (xc ++ yc) := by
  induction x with
  | nil => intro xc yc h1 h2; rw [eSk_nil h1]; exact h2
  | cons a s ih =>
    intro xc yc h1 h2
    obtain ⟨w, ws, rfl, h3, h4⟩ := eSk_cons h1
    exact ⟨h3, ih h4 h2⟩
theorem eSk_rev {x : List Nat} : ∀ {xc : List Value}, eSk g b x xc → eSk g b x.reverse xc.reverse := by
  induction x with
  | nil => intro xc h; rw [eSk_nil h]; exact trivial
  | cons a s ih =>
    intro xc h
    obtain ⟨w, ws, rfl, h1, h2⟩ := eSk_cons h
    rw [List.reverse_cons, List.reverse_cons]
    exact eSk_mk (ih h2) ⟨h1, trivial⟩
theorem eSk_len {x : List Nat} : ∀ {xc : List Value}, eSk g b x xc → xc.length = x.length := by
  induction x with
  | nil => intro xc h; rw [eSk_nil h]; rfl
  | cons a s ih =>
    intro xc h
    obtain ⟨w, ws, rfl, h1, h2⟩ := eSk_cons h
    rw [List.length_cons, List.length_cons, ih h2]
theorem eSk_sl {x : List Nat} : ∀ {xc : List Value}, eSk g b x xc → (lg_sl xc).length = eCat x := by
  induction x with
  | nil => intro xc h; rw [eSk_nil h]; rfl
  | cons a s ih =>
    intro xc h
    obtain ⟨w, ws, rfl, h1, h2⟩ := eSk_cons h
    have h3 := ih h2
    have h4 := eVal_cat h1
    show (lg_sl (w :: ws)).length = cnd (eIl a) (Nat.succ (Nat.succ (eCat s))) (Nat.succ (eCat s))
    unfold lg_sl at h3 ⊢
    rw [List.flatMap_cons, List.length_append, h3]
    cases h5 : eIl a
    · rw [h5] at h4
      rw [if_neg (by rw [h4]; decide)]
      show 1 + eCat s = eCat s + 1
      omega
    · rw [h5] at h4
      rw [if_pos (show w.category = 2 from h4)]
      show 2 + eCat s = eCat s + 1 + 1
      omega
theorem kGet_hd {k : Nat} {w : Value} {lc : List (Nat × Value)} : kGet ((k, w) :: lc) k = some w := by simp [kGet]
theorem kGet_tl {k j : Nat} {w : Value} {lc : List (Nat × Value)} (h : j ≠ k) : kGet ((k, w) :: lc) j = kGet lc j := by
  unfold kGet
  rw [List.find?_cons, show ((k, w).1 == j) = false by simp; omega]
theorem eLv_args {pad : List Nat} (hpad : ∀ k, eNth pad k = 0) {as : List Nat} : ∀ {asC : List Value} (off : Nat), eSk g b as asC → ∀ k, eNth (eLc as pad) k ≠ 0 → ∃ w, kGet (lv_args off asC) (off + k) = some w ∧ eVal g b (eNth (eLc as pad) k) w := by
  induction as with
  | nil => intro asC off h k hk; exact absurd (hpad k) hk
  | cons a s ih =>
    intro asC off h k hk
    obtain ⟨w, ws, rfl, h1, h2⟩ := eSk_cons h
    have h4 := eVal_cat h1
    have e : eLc (a :: s) pad = cnd (eIl a) (a :: 0 :: eLc s pad) (a :: eLc s pad) := rfl
    rw [e] at hk ⊢
    unfold lv_args
    cases h5 : eIl a
    · rw [h5] at h4 hk
      rw [if_neg (by rw [h4]; decide)]
      cases k with
      | zero => exact ⟨w, kGet_hd, h1⟩
      | succ k =>
        obtain ⟨w2, c1, c2⟩ := ih (off + 1) h2 k hk
        refine ⟨w2, ?_, c2⟩
        rw [kGet_tl (by omega), show off + (k + 1) = off + 1 + k by omega]
        exact c1
    · rw [h5] at h4 hk
      rw [if_pos (show w.category = 2 from h4)]
      cases k with
      | zero => exact ⟨w, kGet_hd, h1⟩
      | succ k =>
        cases k with
        | zero => exact absurd rfl hk
        | succ k =>
          obtain ⟨w2, c1, c2⟩ := ih (off + 2) h2 k hk
          refine ⟨w2, ?_, c2⟩
          rw [kGet_tl (by omega), show off + (k + 1 + 1) = off + 2 + k by omega]
          exact c1
theorem vx_ofWF {y : MethodName} {ws ws' : List Cond} {rm : Room} {Pc : Array Value → State → Prop} {Qc : Array Value → State → Outcome → State → Prop} {XC : String → State → State → Prop} {mc ms : Nat} {free : Addr → Prop} {cc : ByteArray} {maxL : Nat} {ret : Option FieldType}
    (hy : plainFor y = true) (hw : ws = Cond.code y cc maxL ret :: ws')
    (body : ∀ p e s m args below meth c s₁, BodyLoose p l y (headSpec ws rm) cc maxL ret e s m args below meth c s₁ → c.maxLocals = maxL → (∀ x ∈ c.exceptionTable.toList, False) → Pc args s →
      W p l e (headSpec ws rm).room s m args below meth c s.heap [] 0 0 (vx_MQ below Qc XC args s mc ms free) (entryFrame m args maxL)) : vx_Met l y ws rm Pc Qc XC mc ms free := by
  refine MetFree.of_bodySF (code := cc) (maxLocals := maxL) (ret := ret) hy ?_ ?_
  · intro args s m h hn
    obtain ⟨meth, c, h1, h2, h3, h4, h5, h6, -, -⟩ := Cond.code_spec hn (atoms_spec (ws := ws) h _ (by rw [hw]; exact List.mem_cons_self))
    exact ⟨meth, c, h1, h2, h3, h4, h5, h6⟩
  · intro p e s m args below meth c s₁ B hml hP _
    have hh0 : s₁.heap = s.heap := by rw [B.state]; rfl
    have ht : ∀ x ∈ c.exceptionTable.toList, False := by
      obtain ⟨meth9, c9, h1, h2, -, -, -, -, h7, -⟩ := Cond.code_spec B.named (atoms_spec (ws := ws) B.pre _ (by rw [hw]; exact List.mem_cons_self))
      cases Option.some.inj (h1.symm.trans B.method)
      cases Option.some.inj (h2.symm.trans (Stand.of_body B).code)
      intro x hx
      rw [Array.isEmpty_iff.mp h7] at hx
      cases hx
    obtain ⟨t, a1, o, b1, b2, b3⟩ := body p e s m args below meth c s₁ B hml ht hP s₁ hh0 (Stand.of_body B)
    exact ⟨t, o, a1, b1, b2, b3⟩
theorem kC_ofF {as : List Value} {d K N : Nat} {QR : Option Value → kM → Prop} {QX : String → kM → Prop} {M : kM} (hst : l.stackTraces = false) (hy : plainFor nm = true) (hlen : (lg_sl as).length ≤ mL) (h : kT l g nm cc mL rt [] d K N QR QX 0 (lv_args 0 as) [] M K N) : kC l g nm cc mL rt [] d K N as M QR QX := by
  refine vx_ofWF (cc := cc) (maxL := mL) (ret := rt) hy rfl ?_
  intro p e s m args below meth c s₁ B hml htab hv
  obtain ⟨rfl, hR, hK, hSt, hlo⟩ := hv
  have hts := atoms_spec (ws := kCd nm cc mL rt [] :: kTb) B.pre
  have hl := lv_entry as (n := mL) hlen
  rw [lg_entry_eq]
  refine h p e s m _ below meth c ⟨B.exec, B.bytes, hml, B.returns, B.notSynchronized, findClass_of_methodNamed B.named, fun w hw => hts w (List.mem_cons_of_mem _ hw), hK, hSt, ?_, hst, (name_of_methodNamed B.named B.method).1, hlo⟩ s.heap [] 0 0 _ hR va_S.rf hl (by omega) (by omega)
  cases h9 : c.exceptionTable.toList with
  | nil => rfl
  | cons x xs => exact absurd (htab x (by rw [h9]; exact List.mem_cons_self)) id
def ePln (q : eMeta) : Prop := plainFor q.1 = true ∧ (q.2.2.2.2 = [] ∨ plainName q.1.cls = true)
theorem ePln_n {q : eMeta} (h : plainName q.1.cls = true) : ePln q := ⟨plainFor_of_name h, Or.inr h⟩
theorem ePln_f {nz : MethodName} {cz : ByteArray} {mz : Nat} {rz : Option FieldType} (h : plainFor nz = true) : ePln (nz, cz, mz, rz, []) := ⟨h, Or.inl rfl⟩
theorem e_callee (hst : l.stackTraces = false) {qz : eMeta} (hpl : ePln qz) {d' : Nat} {as pad : List Nat} {asC : List Value} {t : eX} {x p u : Nat} {M : kM} {r : Nat × Nat × eX × Nat × Nat × Nat} (hG : eG g b l qz d' 0 (eLc as pad) [] t x p u r) (hpad : ∀ k, eNth pad k = 0) (hsz : eCat as ≤ qz.2.2.1) (hA : eSk g b as asC) (hM : eMm g b t x u M) (hne : r.1 ≠ 200) :
    kC l g qz.1 qz.2.1 qz.2.2.1 qz.2.2.2.1 qz.2.2.2.2 d' (r.2.2.2.1 - x) (r.2.2.2.2.1 - p) asC M (fun w M' => r.1 = 0 ∧ eRet g b r.2.1 w ∧ eMm g b r.2.2.1 r.2.2.2.1 r.2.2.2.2.2 M') (fun E M' => ∃ e, r.1 = e + 1 ∧ E = eN e ∧ eMm g b r.2.2.1 r.2.2.2.1 1 M') := by
  obtain ⟨nm, cc, mL, rt, hh⟩ := qz
  have T := hG.2.2 (lv_args 0 asC) [] M (r.2.2.2.1 - x) (r.2.2.2.2.1 - p) (fun w M' => r.1 = 0 ∧ eRet g b r.2.1 w ∧ eMm g b r.2.2.1 r.2.2.2.1 r.2.2.2.2.2 M') (fun E M' => ∃ e, r.1 = e + 1 ∧ E = eN e ∧ eMm g b r.2.2.1 r.2.2.2.1 1 M') _ _ (fun k hk => by
    obtain ⟨w, c1, c2⟩ := eLv_args hpad 0 hA k hk
    rw [Nat.zero_add] at c1
    exact ⟨w, c1, c2⟩) trivial hM (Nat.le_refl _) (Nat.le_refl _) ⟨fun h0 w M' h1 h2 => ⟨h0, h1, h2⟩, fun E _ h0 M' h1 => ⟨E, h0, rfl, h1⟩⟩ (fun h => absurd h hne)
  have hl : (lg_sl asC).length ≤ mL := by rw [eSk_sl hA]; exact hsz
  cases hh with
  | nil => exact kC_ofF hst hpl.1 hl T
  | cons z zs =>
    rcases hpl.2 with h | h
    · cases h
    · exact kC_ofH hst h hl T
def eHOK (l : Launch) (g : kG) (nm : MethodName) (cc : ByteArray) (mL : Nat) (rt : Option FieldType) (hh : List (Nat × Nat × Nat × Nat)) (pc : Nat) (hs : List Nat) : Prop := ∀ (e d K N : Nat) (QR : Option Value → kM → Prop) (QX : String → kM → Prop) (lv : List (Nat × Value)) (st : List Value) (M : kM) (kc nc : Nat), (eNth hs e = 1 → QX (eN e) M → kX l g nm cc mL rt hh d K N QR QX pc lv st M kc nc (eN e)) ∧
  (∀ tgt, eNth hs e = tgt + 2 → (∀ q n9, kT l g nm cc mL rt hh d K N QR QX tgt lv [.ref q] (snx M n9) kc nc) → kX l g nm cc mL rt hh d K N QR QX pc lv st M kc nc (eN e))
theorem eHOK_nil : eHOK l g nm cc mL rt hh pc [] := fun e d K N QR QX lv st M kc nc => ⟨fun h => (by cases h), fun tgt h => (by cases h)⟩
theorem eHOK_out : eHOK l g nm cc mL rt [] pc [1, 1, 1] := by
  intro e d K N QR QX lv st M kc nc
  refine ⟨fun _ h => kX_out h, fun tgt h => ?_⟩
  match e, h with
  | 0, h => exact absurd h (by show ¬ 1 = tgt + 2; omega)
  | 1, h => exact absurd h (by show ¬ 1 = tgt + 2; omega)
  | 2, h => exact absurd h (by show ¬ 1 = tgt + 2; omega)
  | (k + 3), h => exact absurd h (by show ¬ 0 = tgt + 2; omega)
theorem eCl_some {m mz np : Nat} {pad hs as rest : List Nat} {ih : eRun} {dd i pc : Nat} {lv st : List Nat} {t : eX} {x p u : Nat} {r : Nat × Nat × eX × Nat × Nat × Nat} (h : eCl m mz pad hs np as rest ih dd i pc lv st t x p u = some r) : eCat rest ≤ 8 ∧ eCat as ≤ mz ∧ ∃ d' kd v t' x' p' u', dd = d' + 1 ∧ ih d' m 0 (eLc as pad) [] t x p u = some (kd, v, t', x', p', u') ∧ ((kd = 0 ∧ v = 0 ∧ ih dd i np lv rest t' x' p' u' = some r) ∨ (kd = 0 ∧ v ≠ 0 ∧ ih dd i np lv (v :: rest) t' x' p' u' = some r) ∨ ∃ e, kd = e + 1 ∧ kd ≤ 100 ∧ ((eNth hs e = 1 ∧ r = (kd, 0, t', x', p', 1)) ∨ ∃ tgt, eNth hs e = tgt + 2 ∧ ih dd i tgt lv [11] t' x' p' 1 = some r)) := by
  obtain ⟨h1, h2⟩ := eGd_some h
  obtain ⟨h3, h4⟩ := eGd_some h2
  refine ⟨ble_t h1, ble_t h3, ?_⟩
  cases dd with
  | zero => cases h4
  | succ d' =>
    have h5 : (Option.rec (motive := fun _ => eR) none (fun r => Prod.rec (motive := fun _ => eR) (fun kd r1 => Prod.rec (motive := fun _ => eR) (fun v r2 => Prod.rec (motive := fun _ => eR) (fun t' r3 => Prod.rec (motive := fun _ => eR) (fun x' r4 => Prod.rec (motive := fun _ => eR) (fun p' u' => cnd (Nat.beq kd 0) (cnd (Nat.beq v 0) (ih (d' + 1) i np lv rest t' x' p' u') (ih (d' + 1) i np lv (v :: rest) t' x' p' u')) (eGd (Nat.ble kd 100) (eH (eNth hs (Nat.pred kd)) kd ih (d' + 1) i lv t' x' p'))) r4) r3) r2) r1) r) (ih d' m 0 (eLc as pad) [] t x p u)) = some r := h4
    cases hz : ih d' m 0 (eLc as pad) [] t x p u with
    | none => rw [hz] at h5; cases h5
    | some rz =>
      obtain ⟨kd, v, t', x', p', u'⟩ := rz
      refine ⟨d', kd, v, t', x', p', u', rfl, hz, ?_⟩
      rw [hz] at h5
      have h6 : cnd (Nat.beq kd 0) (cnd (Nat.beq v 0) (ih (d' + 1) i np lv rest t' x' p' u') (ih (d' + 1) i np lv (v :: rest) t' x' p' u')) (eGd (Nat.ble kd 100) (eH (eNth hs (Nat.pred kd)) kd ih (d' + 1) i lv t' x' p')) = some r := h5
      rw [cond_beq, cond_beq] at h6
      by_cases k0 : kd = 0
      · rw [if_pos k0] at h6
        by_cases v0 : v = 0
        · rw [if_pos v0] at h6; exact Or.inl ⟨k0, v0, h6⟩
        · rw [if_neg v0] at h6; exact Or.inr (Or.inl ⟨k0, v0, h6⟩)
      · rw [if_neg k0] at h6
        obtain ⟨k9, h6⟩ := eGd_some h6
        unfold eH at h6
        rw [cond_beq, cond_beq] at h6
        obtain ⟨e, rfl⟩ : ∃ e, kd = e + 1 := ⟨kd - 1, by omega⟩
        refine Or.inr (Or.inr ⟨e, rfl, ble_t k9, ?_⟩)
        have h7 : (if eNth hs e = 0 then none else if eNth hs e = 1 then some (e + 1, 0, t', x', p', 1) else ih (d' + 1) i (Nat.pred (Nat.pred (eNth hs e))) lv [11] t' x' p' 1) = some r := h6
        by_cases c0 : eNth hs e = 0
        · rw [if_pos c0] at h7; cases h7
        · rw [if_neg c0] at h7
          by_cases c1 : eNth hs e = 1
          · rw [if_pos c1] at h7
            exact Or.inl ⟨c1, (Option.some.inj h7).symm⟩
          · rw [if_neg c1] at h7
            refine Or.inr ⟨eNth hs e - 2, by omega, ?_⟩
            rw [show eNth hs e - 2 = Nat.pred (Nat.pred (eNth hs e)) by rw [Nat.pred_eq_sub_one, Nat.pred_eq_sub_one]; omega]
            exact h7
end EE

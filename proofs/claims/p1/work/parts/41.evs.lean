/-! ===== calls; the machine as a whole ===== -/
section EQ
variable {g : kG} {b : Nat} {l : Launch} {mt : Nat → eMeta} {nm : MethodName} {cc : ByteArray} {mL : Nat} {rt : Option FieldType} {hh : List (Nat × Nat × Nat × Nat)} {pc : Nat}
theorem eVal_11 {q : Nat} : eVal g b 11 (.ref q) := Or.inr (Or.inr ⟨some q, rfl, Or.inr (Or.inr (Or.inr (Or.inr (Or.inr ⟨rfl, q, rfl⟩))))⟩)
theorem eStp_cg {q : eMeta} {dd K N : Nat} {QR : Option Value → kM → Prop} {QX : String → kM → Prop} {kc nc kc' nc' : Nat} {r : Nat × Nat × eX × Nat × Nat × Nat} (h : eStp g b l q dd K N QR QX kc nc r) (h1 : kc = kc') (h2 : nc = nc') : eStp g b l q dd K N QR QX kc' nc' r := by
  subst h1; subst h2; exact h
/-- a call, whatever its kind: row is the kind's own -/
theorem e_core (hst : l.stackTraces = false) {m mz np : Nat} {pad hs as rest : List Nat} {qz : eMeta} (hq : mt m = qz) (hmz : qz.2.2.1 = mz) (hpl : ePln qz) (hpad : ∀ k, eNth pad k = 0) (hX : eHOK l g nm cc mL rt hh pc hs) {ih : eRun} (hih : ∀ dd i pc lv st t x p u r, ih dd i pc lv st t x p u = some r → eG g b l (mt i) dd pc lv st t x p u r)
    {dd i : Nat} {lv st : List Nat} {t : eX} {x p u : Nat} {r : Nat × Nat × eX × Nat × Nat × Nat} (hi : mt i = (nm, cc, mL, rt, hh)) (h : eCl m mz pad hs np as rest ih dd i pc lv st t x p u = some r) (hspl : ∀ sc, eSk g b st sc → ∃ asC restC, eSk g b as asC ∧ eSk g b rest restC ∧ sc = asC.reverse ++ restC)
    (row : ∀ (lc : List (Nat × Value)) (restC : List Value) (M : kM) (K N : Nat) (QR : Option Value → kM → Prop) (QX : String → kM → Prop) (kc nc : Nat) (asC : List Value) (d' Kz Nz : Nat) (QRz : Option Value → kM → Prop) (QXz : String → kM → Prop), eSk g b as asC → eMm g b t x u M → kC l g qz.1 qz.2.1 qz.2.2.1 qz.2.2.2.1 qz.2.2.2.2 d' Kz Nz asC M QRz QXz → (hs = [] → ∀ E M', ¬ QXz E M') → d' + 1 ≤ dd → Kz ≤ kc → Nz ≤ nc → (restC.map fun v => v.category).sum ≤ 8 →
      (∀ v M', QRz v M' → kT l g nm cc mL rt hh dd K N QR QX np lc (v.toList ++ restC) M' (kc - Kz) (nc - Nz)) → (∀ E M', QXz E M' → kX l g nm cc mL rt hh dd K N QR QX pc lc restC M' (kc - Kz) (nc - Nz) E) → kT l g nm cc mL rt hh dd K N QR QX pc lc (asC.reverse ++ restC) M kc nc) : eG g b l (nm, cc, mL, rt, hh) dd pc lv st t x p u r := by
  obtain ⟨h1, h2, d', kd, v, t', x', p', u', hd, h3, h4⟩ := eCl_some h
  have G := hih _ _ _ _ _ _ _ _ _ _ h3
  rw [hq] at G
  obtain ⟨g1, g2, g3⟩ := id G
  have g1' : x ≤ x' := g1
  have g2' : p ≤ p' := g2
  have main : ∀ (X P : Nat), r.2.2.2.1 = X → r.2.2.2.2.1 = P → x' ≤ X → p' ≤ P → (∀ (lc : List (Nat × Value)) (restC : List Value) (K N : Nat) (QR : Option Value → kM → Prop) (QX : String → kM → Prop) (kc nc : Nat), eLv g b lv lc → eSk g b rest restC → X - x ≤ kc → P - p ≤ nc → eEnd g b r QR QX → eStp g b l (nm, cc, mL, rt, hh) dd K N QR QX (kc - (X - x)) (nc - (P - p)) r → (∀ w M', kd = 0 ∧ eRet g b v w ∧ eMm g b t' x' u' M' → kT l g nm cc mL rt hh dd K N QR QX np lc (w.toList ++ restC) M' (kc - (x' - x)) (nc - (p' - p))) ∧ (∀ E M', (∃ e, kd = e + 1 ∧ E = eN e ∧ eMm g b t' x' 1 M') → kX l g nm cc mL rt hh dd K N QR QX pc lc restC M' (kc - (x' - x)) (nc - (p' - p)) E)) → eG g b l (nm, cc, mL, rt, hh) dd pc lv st t x p u r := by
    intro X P hX1 hP1 hX2 hP2 cont
    refine ⟨by omega, by omega, fun lc sc M K N QR QX kc nc a1 a2 a3 a4 a5 a6 a7 => ?_⟩
    rw [hX1, hP1] at a7
    obtain ⟨asC, restC, s1, s2, rfl⟩ := hspl sc a2
    obtain ⟨c1, c2⟩ := cont lc restC K N QR QX kc nc a1 s2 (by omega) (by omega) a6 a7
    have C0 := e_callee (r := (kd, v, t', x', p', u')) hst hpl G hpad (by rw [hmz]; exact h2) s1 a3 (show kd ≠ 200 by rcases h4 with ⟨k0, _⟩ | ⟨k0, _⟩ | ⟨e2, k0, k9, _⟩ <;> omega)
    have C : kC l g qz.1 qz.2.1 qz.2.2.1 qz.2.2.2.1 qz.2.2.2.2 d' (x' - x) (p' - p) asC M (fun w M' => kd = 0 ∧ eRet g b v w ∧ eMm g b t' x' u' M') (fun E M' => ∃ e, kd = e + 1 ∧ E = eN e ∧ eMm g b t' x' 1 M') := C0
    exact row lc restC M K N QR QX kc nc asC d' (x' - x) (p' - p) (fun w M' => kd = 0 ∧ eRet g b v w ∧ eMm g b t' x' u' M') (fun E M' => ∃ e, kd = e + 1 ∧ E = eN e ∧ eMm g b t' x' 1 M') s1 a3 C (fun hs0 E M' ⟨e, he, _⟩ => by
      rcases h4 with ⟨k0, _⟩ | ⟨k0, _⟩ | ⟨e2, k0, -, q | ⟨tgt, q, _⟩⟩
      · have : kd = e + 1 := he
        omega
      · have : kd = e + 1 := he
        omega
      · rw [hs0] at q; cases q.1
      · rw [hs0] at q; cases q) (by omega) (by omega) (by omega) (by rw [eCat_ok s2]; exact h1) c1 c2
  rcases h4 with ⟨k0, v0, h5⟩ | ⟨k0, v0, h5⟩ | ⟨e, k0, k9, ⟨c1, h5⟩ | ⟨tgt, c1, h5⟩⟩
  · have G2 := hih _ _ _ _ _ _ _ _ _ _ h5
    rw [hi] at G2
    obtain ⟨i1, i2, i3⟩ := G2
    refine main _ _ rfl rfl i1 i2 (fun lc restC K N QR QX kc nc a1 s2 a4 a5 a6 a7 => ⟨fun w M' ⟨_, q2, q3⟩ => ?_, fun E M' ⟨e, q1, _⟩ => by omega⟩)
    rcases q2 with ⟨_, rfl⟩ | ⟨q, _⟩
    · exact i3 lc restC M' K N QR QX _ _ a1 s2 q3 (by omega) (by omega) a6 (eStp_cg a7 (by omega) (by omega))
    · exact absurd v0 q
  · have G2 := hih _ _ _ _ _ _ _ _ _ _ h5
    rw [hi] at G2
    obtain ⟨i1, i2, i3⟩ := G2
    refine main _ _ rfl rfl i1 i2 (fun lc restC K N QR QX kc nc a1 s2 a4 a5 a6 a7 => ⟨fun w M' ⟨_, q2, q3⟩ => ?_, fun E M' ⟨e, q1, _⟩ => by omega⟩)
    rcases q2 with ⟨q, _⟩ | ⟨_, z, rfl, q4⟩
    · exact absurd q v0
    · exact i3 lc (z :: restC) M' K N QR QX _ _ a1 ⟨q4, s2⟩ q3 (by omega) (by omega) a6 (eStp_cg a7 (by omega) (by omega))
  · subst h5
    refine main x' p' rfl rfl (Nat.le_refl _) (Nat.le_refl _) (fun lc restC K N QR QX kc nc a1 s2 a4 a5 a6 a7 => ⟨fun w M' ⟨q1, _, _⟩ => by omega, fun E M' ⟨e2, q1, q2, q3⟩ => ?_⟩)
    have e9 : e2 = e := by omega
    subst e9
    subst q2
    exact (hX e2 dd K N QR QX lc restC M' _ _).1 c1 (a6.2 e2 (by omega) k0 M' q3)
  · have G2 := hih _ _ _ _ _ _ _ _ _ _ h5
    rw [hi] at G2
    obtain ⟨i1, i2, i3⟩ := G2
    refine main _ _ rfl rfl i1 i2 (fun lc restC K N QR QX kc nc a1 s2 a4 a5 a6 a7 => ⟨fun w M' ⟨q1, _, _⟩ => by omega, fun E M' ⟨e2, q1, q2, q3⟩ => ?_⟩)
    have e9 : e2 = e := by omega
    subst e9
    subst q2
    exact (hX e2 dd K N QR QX lc restC M' _ _).2 tgt c1 (fun q n9 => i3 lc [.ref q] (snx M' n9) K N QR QX _ _ a1 ⟨eVal_11, trivial⟩ (eMm.snx (u := 0) q3) (by omega) (by omega) a6 (eStp_cg a7 (by omega) (by omega)))
def eZs (pad : List Nat) : Bool := pad.all (fun z => Nat.beq z 0)
theorem eZs_ok {pad : List Nat} (h : eZs pad = true) : ∀ k, eNth pad k = 0 := by
  induction pad with
  | nil => intro k; rfl
  | cons a t ih =>
    unfold eZs at h
    rw [List.all_cons, Bool.and_eq_true] at h
    intro k
    cases k with
    | zero => exact beq_t h.1
    | succ k => rw [eNth_s]; exact ih h.2 k
theorem e_splS {n : Nat} {st as rest : List Nat} (hs : st = as.reverse ++ rest) : ∀ sc, eSk g b st sc → ∃ asC restC, eSk g b as asC ∧ eSk g b rest restC ∧ sc = asC.reverse ++ restC := by
  intro sc h
  rw [hs] at h
  obtain ⟨xc, yc, rfl, h1, h2⟩ := eSk_app h
  have h3 := eSk_rev h1
  rw [List.reverse_reverse] at h3
  exact ⟨xc.reverse, yc, h3, h2, by rw [List.reverse_reverse]⟩
theorem so_invS (hst : l.stackTraces = false) {m mz np n idx : Nat} {pad hs : List Nat} {nz : MethodName} {cz : ByteArray} {rz : Option FieldType} (hq : mt m = (nz, cz, mz, rz, [])) (hdg : decode cc pc = .ok (.invokestatic idx, 3)) (hL : kLk nz cz mz rz [] n) (hw : Cond.methodLink nm.cls idx nz ∈ kTb) (hw2 : Cond.static nz ∈ kTb) (hpl : plainFor nz = true) (hpad : eZs pad = true) (hX : eHOK l g nm cc mL rt hh pc hs) (hp : pc + 3 = np) : eSOK g b l mt (nm, cc, mL, rt, hh) pc (hInS n m mz pad hs np) := by
  subst hp
  intro ih hih dd i lv st t x p u r hi h
  obtain ⟨as, rest, h1, h2, h3⟩ := eTk_ok n st [] _ r h
  rw [List.append_nil] at h3
  refine e_core hst hq rfl (ePln_f hpl) (eZs_ok hpad) hX hih hi h3 (e_splS (n := n) h2) (fun lc restC M K N QR QX kc nc asC d' Kz Nz QRz QXz q1 q2 q3 q4 q5 q6 q7 q8 q9 q10 => ?_)
  exact kT_invS q3 hdg hL hw hw2 q5 q6 q7 (by rw [eSk_len q1, h1]) rfl q8 q9 q10
theorem so_invSH (hst : l.stackTraces = false) {m mz np n idx : Nat} {pad hs : List Nat} {nz : MethodName} {cz : ByteArray} {rz : Option FieldType} {z0 : Nat × Nat × Nat × Nat} {zr : List (Nat × Nat × Nat × Nat)} (hq : mt m = (nz, cz, mz, rz, z0 :: zr)) (hdg : decode cc pc = .ok (.invokestatic idx, 3)) (hL : kLk nz cz mz rz (z0 :: zr) n) (hw : Cond.methodLink nm.cls idx nz ∈ kTb) (hw2 : Cond.static nz ∈ kTb) (hpl : plainName nz.cls = true) (hpad : eZs pad = true) (hX : eHOK l g nm cc mL rt hh pc hs) (hp : pc + 3 = np) : eSOK g b l mt (nm, cc, mL, rt, hh) pc (hInS n m mz pad hs np) := by
  subst hp
  intro ih hih dd i lv st t x p u r hi h
  obtain ⟨as, rest, h1, h2, h3⟩ := eTk_ok n st [] _ r h
  rw [List.append_nil] at h3
  refine e_core hst hq rfl (ePln_n hpl) (eZs_ok hpad) hX hih hi h3 (e_splS (n := n) h2) (fun lc restC M K N QR QX kc nc asC d' Kz Nz QRz QXz q1 q2 q3 q4 q5 q6 q7 q8 q9 q10 => ?_)
  exact kT_invSH q3 hdg hL hw hw2 q5 q6 q7 (by rw [eSk_len q1, h1]) rfl q8 q9 q10
theorem so_invSN (hst : l.stackTraces = false) {m mz np n idx : Nat} {pad : List Nat} {nz : MethodName} {cz : ByteArray} {rz : Option FieldType} {host : String} (hq : mt m = (nz, cz, mz, rz, [])) (hdg : decode cc pc = .ok (.invokestatic idx, 3)) (hL : kLk nz cz mz rz [] n) (hw : Cond.methodLinkNest nm.cls idx nz host ∈ kNw) (hw2 : Cond.static nz ∈ kTb) (hpl : plainFor nz = true) (hpad : eZs pad = true) (hp : pc + 3 = np) : eSOK g b l mt (nm, cc, mL, rt, hh) pc (hInS n m mz pad [] np) := by
  subst hp
  intro ih hih dd i lv st t x p u r hi h
  obtain ⟨as, rest, h1, h2, h3⟩ := eTk_ok n st [] _ r h
  rw [List.append_nil] at h3
  refine e_core hst hq rfl (ePln_f hpl) (eZs_ok hpad) eHOK_nil hih hi h3 (e_splS (n := n) h2) (fun lc restC M K N QR QX kc nc asC d' Kz Nz QRz QXz q1 q2 q3 q4 q5 q6 q7 q8 q9 q10 => ?_)
  exact kT_invSN (host := host) q3 (q4 rfl) hdg hL hw hw2 q5 q6 q7 (by rw [eSk_len q1, h1]) rfl q8 q9
theorem e_recv {n : Nat} {st as rest : List Nat} {o : Nat} (hs : st = as.reverse ++ o :: rest) : st = (o :: as).reverse ++ rest := by
  rw [hs, List.reverse_cons, List.append_assoc]; rfl
theorem so_invV (hst : l.stackTraces = false) {m mz np n idx c0 : Nat} {pad hs : List Nat} {nz : MethodName} {cz : ByteArray} {rz : Option FieldType} (hq : mt m = (nz, cz, mz, rz, [])) (hdg : decode cc pc = .ok (.invokevirtual idx, 3)) (hL : kLk nz cz mz rz [] n) (hw : Cond.methodLink nm.cls idx nz ∈ kTb) (hw2 : Cond.instanceMethod nz ∈ kTb) (hw3 : Cond.selects nz.cls nz nz ∈ kTb) (hc : c0 < 50) (hcn : kNm c0 = nz.cls) (hpl : plainFor nz = true) (hpad : eZs pad = true) (hX : eHOK l g nm cc mL rt hh pc hs) (hp : pc + 3 = np) : eSOK g b l mt (nm, cc, mL, rt, hh) pc (hInV c0 n m mz pad hs np) := by
  subst hp
  intro ih hih dd i lv st t x p u r hi h
  obtain ⟨as, rest0, h1, h2, h3⟩ := eTk_ok n st [] _ r h
  rw [List.append_nil] at h3
  obtain ⟨o, rest, es, h4⟩ := eP_some h3
  subst es
  obtain ⟨o1, o2, h5⟩ := eAd_some h4
  rw [eGq_eq o2] at h5
  obtain ⟨h6, h7⟩ := eGd_some h5
  refine e_core hst hq rfl (ePln_f hpl) (eZs_ok hpad) hX hih hi h7 (e_splS (n := n) (e_recv (n := n) h2)) (fun lc restC M K N QR QX kc nc asC d' Kz Nz QRz QXz q1 q2 q3 q4 q5 q6 q7 q8 q9 q10 => ?_)
  obtain ⟨w, ws, rfl, b1, b2⟩ := eSk_cons q1
  have ew := b1.O o1
  subst ew
  obtain ⟨y1, y2⟩ := q2.obj o2 h6
  exact kT_invV q3 hdg hL hw hw2 hw3 y1 hc hcn q5 q6 q7 (by rw [eSk_len b2, h1]) (by rw [List.reverse_cons, List.append_assoc]; rfl) q8 q9 q10
theorem so_invVH (hst : l.stackTraces = false) {m mz np n idx c0 : Nat} {pad hs : List Nat} {nz : MethodName} {cz : ByteArray} {rz : Option FieldType} {z0 : Nat × Nat × Nat × Nat} {zr : List (Nat × Nat × Nat × Nat)} (hq : mt m = (nz, cz, mz, rz, z0 :: zr)) (hdg : decode cc pc = .ok (.invokevirtual idx, 3)) (hL : kLk nz cz mz rz (z0 :: zr) n) (hw : Cond.methodLink nm.cls idx nz ∈ kTb) (hw2 : Cond.instanceMethod nz ∈ kTb) (hw3 : Cond.selects nz.cls nz nz ∈ kTb) (hc : c0 < 50) (hcn : kNm c0 = nz.cls) (hpl : plainName nz.cls = true) (hpad : eZs pad = true) (hX : eHOK l g nm cc mL rt hh pc hs) (hp : pc + 3 = np) : eSOK g b l mt (nm, cc, mL, rt, hh) pc (hInV c0 n m mz pad hs np) := by
  subst hp
  intro ih hih dd i lv st t x p u r hi h
  obtain ⟨as, rest0, h1, h2, h3⟩ := eTk_ok n st [] _ r h
  rw [List.append_nil] at h3
  obtain ⟨o, rest, es, h4⟩ := eP_some h3
  subst es
  obtain ⟨o1, o2, h5⟩ := eAd_some h4
  rw [eGq_eq o2] at h5
  obtain ⟨h6, h7⟩ := eGd_some h5
  refine e_core hst hq rfl (ePln_n hpl) (eZs_ok hpad) hX hih hi h7 (e_splS (n := n) (e_recv (n := n) h2)) (fun lc restC M K N QR QX kc nc asC d' Kz Nz QRz QXz q1 q2 q3 q4 q5 q6 q7 q8 q9 q10 => ?_)
  obtain ⟨w, ws, rfl, b1, b2⟩ := eSk_cons q1
  have ew := b1.O o1
  subst ew
  obtain ⟨y1, y2⟩ := q2.obj o2 h6
  exact kT_invVH q3 hdg hL hw hw2 hw3 y1 hc hcn q5 q6 q7 (by rw [eSk_len b2, h1]) (by rw [List.reverse_cons, List.append_assoc]; rfl) q8 q9 q10
theorem so_invI (hst : l.stackTraces = false) {m mz np n idx : Nat} {pad : List Nat} {nz : MethodName} {cz : ByteArray} (hq : mt m = (nz, cz, mz, none, [])) (hdg : decode cc pc = .ok (.invokespecial idx, 3)) (hL : kLk nz cz mz none [] n) (hw : Cond.methodLink nm.cls idx nz ∈ kTb) (hw2 : Cond.instanceMethod nz ∈ kTb) (hin : nz.name = "<init>") (hpl : plainFor nz = true) (hpad : eZs pad = true) (hp : pc + 3 = np) : eSOK g b l mt (nm, cc, mL, rt, hh) pc (hInI n m mz pad np) := by
  subst hp
  intro ih hih dd i lv st t x p u r hi h
  obtain ⟨as, rest0, h1, h2, h3⟩ := eTk_ok n st [] _ r h
  rw [List.append_nil] at h3
  obtain ⟨o, rest, es, h4⟩ := eP_some h3
  subst es
  obtain ⟨h6, h7⟩ := eGd_some h4
  have o1 := beq_t h6
  rw [eLnd] at o1
  refine e_core hst hq rfl (ePln_f hpl) (eZs_ok hpad) eHOK_nil hih hi h7 (e_splS (n := n) (e_recv (n := n) h2)) (fun lc restC M K N QR QX kc nc asC d' Kz Nz QRz QXz q1 q2 q3 q4 q5 q6 q7 q8 q9 q10 => ?_)
  obtain ⟨w, ws, rfl, b1, b2⟩ := eSk_cons q1
  have ew := b1.O o1
  subst ew
  exact kT_invI q3 (q4 rfl) hdg hL hw hw2 hin q5 q6 q7 (by rw [eSk_len b2, h1]) (by rw [List.reverse_cons, List.append_assoc]; rfl) q8 q9
theorem so_invIN (hst : l.stackTraces = false) {m mz np n idx : Nat} {pad : List Nat} {nz : MethodName} {cz : ByteArray} {host : String} (hq : mt m = (nz, cz, mz, none, [])) (hdg : decode cc pc = .ok (.invokespecial idx, 3)) (hL : kLk nz cz mz none [] n) (hw : Cond.methodLinkNest nm.cls idx nz host ∈ kNw) (hw2 : Cond.instanceMethod nz ∈ kTb) (hin : nz.name = "<init>") (hpl : plainFor nz = true) (hpad : eZs pad = true) (hp : pc + 3 = np) : eSOK g b l mt (nm, cc, mL, rt, hh) pc (hInI n m mz pad np) := by
  subst hp
  intro ih hih dd i lv st t x p u r hi h
  obtain ⟨as, rest0, h1, h2, h3⟩ := eTk_ok n st [] _ r h
  rw [List.append_nil] at h3
  obtain ⟨o, rest, es, h4⟩ := eP_some h3
  subst es
  obtain ⟨h6, h7⟩ := eGd_some h4
  have o1 := beq_t h6
  rw [eLnd] at o1
  refine e_core hst hq rfl (ePln_f hpl) (eZs_ok hpad) eHOK_nil hih hi h7 (e_splS (n := n) (e_recv (n := n) h2)) (fun lc restC M K N QR QX kc nc asC d' Kz Nz QRz QXz q1 q2 q3 q4 q5 q6 q7 q8 q9 q10 => ?_)
  obtain ⟨w, ws, rfl, b1, b2⟩ := eSk_cons q1
  have ew := b1.O o1
  subst ew
  exact kT_invIN (host := host) q3 (q4 rfl) hdg hL hw hw2 hin q5 q6 q7 (by rw [eSk_len b2, h1]) (by rw [List.reverse_cons, List.append_assoc]; rfl) q8 q9
/-- THE MACHINE IS RIGHT -/
theorem ev_ok {tab : Nat → Nat → Option eStep} (ht : ∀ i pc, eSO g b l mt (mt i) pc (tab i pc)) (f : Nat) : ∀ dd i pc lv st t x p u r, ev tab f dd i pc lv st t x p u = some r → eG g b l (mt i) dd pc lv st t x p u r := by
  induction f with
  | zero => intro dd i pc lv st t x p u r h; cases h
  | succ f ih =>
    intro dd i pc lv st t x p u r h
    have h1 : Option.rec (motive := fun _ => eR) none (fun s => s (ev tab f) dd i pc lv st t x p u) (tab i pc) = some r := h
    cases hs : tab i pc with
    | none => rw [hs] at h1; cases h1
    | some s => rw [hs] at h1; exact ht i pc s hs (ev tab f) ih dd i lv st t x p u r rfl h1
end EQ
/-! ===== the machine with cuts: a walk of one frame stops where sp says so; what it comes to holds if it holds from there ===== -/
noncomputable def eEl (l : List Nat) : eX := List.rec (motive := fun _ => eX) eL (fun a _ ih => eNd eL a ih) l
theorem eDl_El (l : List Nat) : eDl (eEl l) = l := by
  induction l with
  | nil => rfl
  | cons a l ih =>
    show a :: eDl (eEl l) = a :: l
    rw [ih]
noncomputable def eCut (lv st : List Nat) (t : eX) : eX := eNd (eNd (eEl lv) 0 (eEl st)) 0 t
noncomputable def evS (tab : Nat → Nat → Option eStep) (sp : Nat → Nat → Nat → Bool) (f : Nat) : eRun := Nat.rec (motive := fun _ => eRun) (fun _ _ _ _ _ _ _ _ _ => none) (fun _ ih dd i pc lv st t x p u => cnd (sp dd i pc) (some (200, pc, eCut lv st t, x, p, u)) (Option.rec (motive := fun _ => eR) none (fun s => s ih dd i pc lv st t x p u) (tab i pc))) f
/-- one step, then on to a cut -/
noncomputable def evT (tab : Nat → Nat → Option eStep) (sp : Nat → Nat → Nat → Bool) (f : Nat) : eRun := fun dd i pc lv st t x p u => Option.rec (motive := fun _ => eR) none (fun s => s (evS tab sp f) dd i pc lv st t x p u) (tab i pc)
section ES
variable {g : kG} {b : Nat} {l : Launch} {mt : Nat → eMeta}
theorem evS_ok {tab : Nat → Nat → Option eStep} (ht : ∀ i pc, eSO g b l mt (mt i) pc (tab i pc)) (sp : Nat → Nat → Nat → Bool) (f : Nat) : ∀ dd i pc lv st t x p u r, evS tab sp f dd i pc lv st t x p u = some r → eG g b l (mt i) dd pc lv st t x p u r := by
  induction f with
  | zero => intro dd i pc lv st t x p u r h; cases h
  | succ f ih =>
    intro dd i pc lv st t x p u r h
    have h1 : cnd (sp dd i pc) (some (200, pc, eCut lv st t, x, p, u)) (Option.rec (motive := fun _ => eR) none (fun s => s (evS tab sp f) dd i pc lv st t x p u) (tab i pc)) = some r := h
    cases hc : sp dd i pc with
    | true =>
      rw [hc] at h1
      have e : (200, pc, eCut lv st t, x, p, u) = r := Option.some.inj h1
      subst e
      refine ⟨Nat.le_refl x, Nat.le_refl p, fun lc sc M K N QR QX kc nc a1 a2 a3 a4 a5 a6 a7 => ?_⟩
      have a8 := a7 rfl lc sc M (by show eLv g b (eDl (eEl lv)) lc; rw [eDl_El]; exact a1) (by show eSk g b (eDl (eEl st)) sc; rw [eDl_El]; exact a2) a3
      rw [show kc - (x - x) = kc by omega, show nc - (p - p) = nc by omega] at a8
      exact a8
    | false =>
      rw [hc] at h1
      cases hs : tab i pc with
      | none => rw [hs] at h1; cases h1
      | some s => rw [hs] at h1; exact ht i pc s hs (evS tab sp f) ih dd i lv st t x p u r rfl h1
theorem evT_ok {tab : Nat → Nat → Option eStep} (ht : ∀ i pc, eSO g b l mt (mt i) pc (tab i pc)) (sp : Nat → Nat → Nat → Bool) (f : Nat) (dd i pc : Nat) (lv st : List Nat) (t : eX) (x p u : Nat) (r : Nat × Nat × eX × Nat × Nat × Nat) (h : evT tab sp f dd i pc lv st t x p u = some r) : eG g b l (mt i) dd pc lv st t x p u r := by
  have h1 : Option.rec (motive := fun _ => eR) none (fun s => s (evS tab sp f) dd i pc lv st t x p u) (tab i pc) = some r := h
  cases hs : tab i pc with
  | none => rw [hs] at h1; cases h1
  | some s => rw [hs] at h1; exact ht i pc s hs (evS tab sp f) (evS_ok ht sp f) dd i lv st t x p u r rfl h1
end ES

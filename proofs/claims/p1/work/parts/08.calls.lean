/-! rows of the judgement: calls, contracts, throws -/
section KC
variable {l : Launch} {g : kG} {nm : MethodName} {cc : ByteArray} {mL : Nat} {rt : Option FieldType} {hh : List (Nat × Nat × Nat × Nat)} {d K N : Nat} {QR : Option Value → kM → Prop} {QX : String → kM → Prop} {pc : Nat} {lv : List (Nat × Value)} {rest : List Value} {M : kM} {kc nc : Nat}
/-- the same of a method with a table -/
theorem kC_ofH {as : List Value} {h0 : Nat × Nat × Nat × Nat} {hr : List (Nat × Nat × Nat × Nat)} (hst : l.stackTraces = false) (hy : plainName nm.cls = true) (hlen : (lg_sl as).length ≤ mL) (h : kT l g nm cc mL rt (h0 :: hr) d K N QR QX 0 (lv_args 0 as) [] M K N) : kC l g nm cc mL rt (h0 :: hr) d K N as M QR QX := by
  refine vx_ofWH (cc := cc) (maxL := mL) (ret := rt) (hh := h0 :: hr) hy rfl ?_
  intro p e s m args below meth c s₁ B hml hv
  obtain ⟨rfl, hR, hK, hSt, hlo⟩ := hv
  have hts := atoms_spec (ws := kCd nm cc mL rt (h0 :: hr) :: kTb) B.pre
  have hl := lv_entry as (n := mL) hlen
  rw [lg_entry_eq]
  exact h p e s m _ below meth c ⟨B.exec, B.bytes, hml, B.returns, B.notSynchronized, findClass_of_methodNamed B.named, fun w hw => hts w (List.mem_cons_of_mem _ hw), hK, hSt, vx_table (x := nm) B (hts _ List.mem_cons_self), hst, (name_of_methodNamed B.named B.method).1, hlo⟩ s.heap [] 0 0 _ hR va_S.rf hl (by omega) (by omega)
/-- a contract that never throws, in the kit's own form -/
theorem kC_met {as : List Value} (h : kC l g nm cc mL rt hh d K N as M QR QX) (hno : ∀ E M', ¬ QX E M') : Met l nm (kCd nm cc mL rt hh :: kTb) (kRm d K N) (va_Pc as (kPre g M)) (kQc g QR) K N (kA g) := by
  intro p e ha hc hk s m args below hf happ hP hT
  obtain ⟨n, o, a1, a2, a3, a4⟩ := h p e ha hc hk s m args below hf happ hP hT
  refine ⟨n, o, a1, a2, a3, ?_⟩
  rcases a4 with h9 | ⟨q, e0, E, ce, L, ⟨⟨M', e2, e3⟩, hF⟩, hr⟩
  · exact h9
  · exact absurd e2 (hno E M')
theorem kBlind {as : List Value} : FrameBlind (va_Pc as (kPre g M)) := by
  intro a U f mk h
  obtain ⟨h0, h1, h2, h3, h4⟩ := h
  exact ⟨h0, h1, kK.warm (s := U) (U := U.calling f mk a) (State.WarmedH.refl U) h2, kSt.moved (u := U) (U := U.calling f mk a) (Vm.Alike.refl U.vm) (Nat.le_refl _) (fun _ _ _ => rfl) h3, h4⟩
theorem kPre_at {p : Program} {s U : State} {m : MethodId} {args : Array Value} {meth : Method} {c : Code} {H : Heap} {locs : List Loc} (A : kAct l g nm cc mL rt hh p s m args meth c) (hR : kRep g M H) (hS : va_S (kA g) s.heap H locs) (hU : U.heap = H) (hW : s.WarmedH U.vm) : kPre g M U := by
  obtain ⟨hx, hb, hml, hret, hlk, hown, hts, hK, hSt, htab, hl0, hnm, hlo0⟩ := A
  refine ⟨by rw [hU]; exact hR, hK.warm hW, ?_, by rw [hU]; exact Nat.le_trans hlo0 hS.1⟩
  rw [hU]
  exact hSt.moved hW.alike hS.1 hS.2.1
/-- behind a call -/
theorem kRun {p : Program} {e : Env} {s : State} {m : MethodId} {args a9 : Array Value} {below : List Frame} {meth : Method} {c : Code} {H : Heap} {locs : List Loc} {cells slots Kz Nz : Nat} {ls : Array Slot} {st0 : List Value} {QRz : Option Value → kM → Prop} {QXz : String → kM → Prop} (A : kAct l g nm cc mL rt hh p s m args meth c)
    (hr : vx_Run p l e (kRm d K N) s m args below meth c H locs cells slots Kz Nz (F0 m pc ls st0) rest (kQc g QRz a9) (kXC g QXz) (kA g)) (hS : va_S (kA g) s.heap H locs) (hl9 : lv_has ls mL lv) (h19 : cells + kc ≤ K) (h29 : slots + nc ≤ N) (hk : Kz ≤ kc) (hn : Nz ≤ nc)
    (kr : ∀ v M', QRz v M' → kT l g nm cc mL rt hh d K N QR QX (pc + 3) lv (v.toList ++ rest) M' (kc - Kz) (nc - Nz)) (kx : ∀ E M', QXz E M' → kX l g nm cc mL rt hh d K N QR QX pc lv rest M' (kc - Kz) (nc - Nz) E) :
    W p l e (kRm d K N) s m args below meth c H locs cells slots (vx_MQ below (kQc g QR) (kXC g QX) args s K N (kA g)) (F0 m pc ls st0) := by
  intro T hT X
  rcases hr T hT X with ⟨v, st₀, t, T', L, h0, X', hL, e1, e2, ⟨⟨v9, M', hv, hq, hR'⟩, hF⟩, st⟩ | ⟨q, st₀, t, T', L, E, ce, h0, X', hL, e1, e2, ⟨⟨M', hq, hR'⟩, hF⟩, hce, hcv, hcl, st⟩
  · cases hv
    obtain ⟨k1, k2, k3⟩ := vx_keep (A1 := kA g) (free := kA g) h0 e1 hS (fun _ _ z => z) (fun _ z => z) hL hF
    obtain ⟨t2, a1, b1⟩ := kr v M' hq p e s m args below meth c A T'.heap (locs ++ L) (cells + Kz) (slots + Nz) ls (by rw [e1]; exact hR') k3 hl9 (by omega) (by omega) T' rfl X'
    exact ⟨t2, st t2 a1, b1⟩
  · obtain ⟨k1, k2, k3⟩ := vx_keep (A1 := kA g) (free := kA g) h0 e1 hS (fun _ _ z => z) (fun _ z => z) hL hF
    obtain ⟨t2, a1, b1⟩ := kx E M' hq p e s m args below meth c A T'.heap (locs ++ L) (cells + Kz) (slots + Nz) ls q ce (by rw [e1]; exact hR') k3 hl9 (by omega) (by omega) (by rw [e1]; exact hce) hcv hcl T' rfl X'
    exact ⟨t2, st.trans a1, b1⟩
theorem kRun0 {p : Program} {e : Env} {s : State} {m : MethodId} {args a9 : Array Value} {below : List Frame} {meth : Method} {c : Code} {H : Heap} {locs : List Loc} {cells slots Kz Nz : Nat} {ls : Array Slot} {st0 : List Value} {QRz : Option Value → kM → Prop} (A : kAct l g nm cc mL rt hh p s m args meth c)
    (hr : va_Run p l e (kRm d K N) s m args below meth c H locs cells slots Kz Nz (F0 m pc ls st0) rest (kQc g QRz a9) (kA g)) (hS : va_S (kA g) s.heap H locs) (hl9 : lv_has ls mL lv) (h19 : cells + kc ≤ K) (h29 : slots + nc ≤ N) (hk : Kz ≤ kc) (hn : Nz ≤ nc)
    (kr : ∀ v M', QRz v M' → kT l g nm cc mL rt hh d K N QR QX (pc + 3) lv (v.toList ++ rest) M' (kc - Kz) (nc - Nz)) :
    W p l e (kRm d K N) s m args below meth c H locs cells slots (vx_MQ below (kQc g QR) (kXC g QX) args s K N (kA g)) (F0 m pc ls st0) := by
  intro T hT X
  obtain ⟨v, st₀, t, T', L, h0, X', hL, e1, e2, ⟨⟨v9, M', hv, hq, hR'⟩, hF⟩, st⟩ := hr T hT X
  cases hv
  obtain ⟨k1, k2, k3⟩ := vx_keep (A1 := kA g) (free := kA g) h0 e1 hS (fun _ _ z => z) (fun _ z => z) hL hF
  obtain ⟨t2, a1, b1⟩ := kr v M' hq p e s m args below meth c A T'.heap (locs ++ L) (cells + Kz) (slots + Nz) ls (by rw [e1]; exact hR') k3 hl9 (by omega) (by omega) T' rfl X'
  exact ⟨t2, st t2 a1, b1⟩
/-- a callee by its name: what every call asks of the tables -/
def kLk (nz : MethodName) (cz : ByteArray) (mz : Nat) (rz : Option FieldType) (hz : List (Nat × Nat × Nat × Nat)) (np : Nat) : Prop := kCd nz cz mz rz hz ∈ kTb ∧ Cond.initialized nz.cls ∈ kTb ∧ (nz.cls ≠ "java/lang/invoke/MethodHandle" ∧ nz.cls ≠ "java/lang/invoke/VarHandle") ∧ (parseMethodDescriptor nz.desc).map (fun d => d.parameters.length) = some np ∧ mz ≤ 45
theorem kTb_good {w : Cond} (h : w ∈ kTb) : (w.onTables && w.keeps) = true ∨ ∃ ty, w = .arrayClass ty := good_of_word (List.mem_filter.mp h).2
theorem kPay {s : State} {args : Array Value} {c0 : Cond} (hts : ∀ w ∈ kTb, w.before args s = true) (hc : c0 ∈ kTb) : ∀ w ∈ c0 :: kTb, ∀ (a' : Array Value) (U : State), s.WarmedH U.vm → w.before a' U = true := by
  intro w hw a' U hW
  have h1 : w ∈ kTb := by
    rcases List.mem_cons.mp hw with h | h
    · rw [h]; exact hc
    · exact h
  exact word_at hW (kTb_good h1) (hts w h1)
theorem kLen {nz : MethodName} {np : Nat} (h : (parseMethodDescriptor nz.desc).map (fun d => d.parameters.length) = some np) : ∀ sig, parseMethodDescriptor nz.desc = some sig → np = sig.parameters.length := by
  intro sig h2
  rw [h2] at h
  exact (Option.some.inj h).symm
theorem kCallB {s : State} {args : Array Value} {own : String} {nz : MethodName} {cz : ByteArray} {mz : Nat} {rz : Option FieldType} {dz Kz Nz idx np : Nat} (hts : ∀ w ∈ kTb, w.before args s = true) (hL : kLk nz cz mz rz [] np) (hw : Cond.methodLink own idx nz ∈ kTb) (hd : dz + 1 ≤ d) :
    CallB (kRm d K N) s args own idx nz cz mz rz (kCd nz cz mz rz [] :: kTb) (kRm dz Kz Nz) Kz Nz np := by
  obtain ⟨h1, h2, h3, h4, h5⟩ := hL
  exact ⟨rfl, rfl, hd, show 8 + (mz + 11) + 64 * dz ≤ 64 * d by omega, kPay hts h1, List.mem_cons_self, hts _ h1, hts _ h2, h3, kLen h4, hts _ hw⟩
/-- invokevirtual -/
theorem kT_invV {nz : MethodName} {cz : ByteArray} {mz : Nat} {rz : Option FieldType} {dz Kz Nz idx b c0 np : Nat} {as st : List Value} {QRz : Option Value → kM → Prop} {QXz : String → kM → Prop} (hC : kC l g nz cz mz rz [] dz Kz Nz (.ref b :: as) M QRz QXz) (hdg : decode cc pc = .ok (.invokevirtual idx, 3)) (hL : kLk nz cz mz rz [] np) (hw : Cond.methodLink nm.cls idx nz ∈ kTb) (hw2 : Cond.instanceMethod nz ∈ kTb) (hw3 : Cond.selects nz.cls nz nz ∈ kTb)
    (ht : tg M b = c0 + 1) (hc : c0 < 50) (hcn : kNm c0 = nz.cls) (hd : dz + 1 ≤ d) (hk : Kz ≤ kc) (hn : Nz ≤ nc) (hnp : as.length = np) (hst : as.reverse ++ .ref b :: rest = st) (hs : (rest.map fun v => v.category).sum ≤ 8)
    (kr : ∀ v M', QRz v M' → kT l g nm cc mL rt hh d K N QR QX (pc + 3) lv (v.toList ++ rest) M' (kc - Kz) (nc - Nz)) (kx : ∀ E M', QXz E M' → kX l g nm cc mL rt hh d K N QR QX pc lv rest M' (kc - Kz) (nc - Nz) E) : kT l g nm cc mL rt hh d K N QR QX pc lv st M kc nc := by
  intro p e s m args below meth c9 A H locs cells slots ls hR hS hl9 h19 h29
  obtain ⟨hx, hb, hml, hret, hlk, hown, hts, hK, hSt, htab, hl0, hnm, hlo0⟩ := id A
  subst hst
  obtain ⟨r, hr, hlo, cell, q1, q2, q3, q4⟩ := hR.obj ht hc
  have hcl : s.vm.findClass nz.cls = some cell.cls := by
    rw [q2, ← hcn, kNm_of hr]
    exact (hK.1.1 c0 r hr).2.1
  exact kRun A (vx_runV (Ts := kTb) (own := nm.cls) ⟨hx, hb, hml, hown, hts⟩ hC ⟨kCallB hts hL hw hd, hts _ hw2, hts _ hw3⟩ ⟨kBlind, ⟨cell, q1, by rw [q3]; rfl, hcl⟩, fun U hU hW => ⟨rfl, kPre_at A hR hS hU hW⟩⟩ rfl hnp hl9.1 rfl (lv_room hs) hdg ⟨show cells + Kz ≤ K by omega, show slots + Nz ≤ N by omega⟩) hS hl9 h19 h29 hk hn kr kx
/-- invokestatic -/
theorem kT_invS {nz : MethodName} {cz : ByteArray} {mz : Nat} {rz : Option FieldType} {dz Kz Nz idx np : Nat} {as st : List Value} {QRz : Option Value → kM → Prop} {QXz : String → kM → Prop} (hC : kC l g nz cz mz rz [] dz Kz Nz as M QRz QXz) (hdg : decode cc pc = .ok (.invokestatic idx, 3)) (hL : kLk nz cz mz rz [] np) (hw : Cond.methodLink nm.cls idx nz ∈ kTb) (hw2 : Cond.static nz ∈ kTb)
    (hd : dz + 1 ≤ d) (hk : Kz ≤ kc) (hn : Nz ≤ nc) (hnp : as.length = np) (hst : as.reverse ++ rest = st) (hs : (rest.map fun v => v.category).sum ≤ 8)
    (kr : ∀ v M', QRz v M' → kT l g nm cc mL rt hh d K N QR QX (pc + 3) lv (v.toList ++ rest) M' (kc - Kz) (nc - Nz)) (kx : ∀ E M', QXz E M' → kX l g nm cc mL rt hh d K N QR QX pc lv rest M' (kc - Kz) (nc - Nz) E) : kT l g nm cc mL rt hh d K N QR QX pc lv st M kc nc := by
  intro p e s m args below meth c9 A H locs cells slots ls hR hS hl9 h19 h29
  obtain ⟨hx, hb, hml, hret, hlk, hown, hts, hK, hSt, htab, hl0, hnm, hlo0⟩ := id A
  subst hst
  exact kRun A (vx_runS (Ts := kTb) (own := nm.cls) ⟨hx, hb, hml, hown, hts⟩ hC ⟨kCallB hts hL hw hd, hts _ hw2⟩ ⟨kBlind, fun U hU hW => ⟨rfl, kPre_at A hR hS hU hW⟩⟩ rfl hnp hl9.1 rfl (lv_room hs) hdg ⟨show cells + Kz ≤ K by omega, show slots + Nz ≤ N by omega⟩) hS hl9 h19 h29 hk hn kr kx
/-- invokespecial of a constructor -/
theorem kT_invI {nz : MethodName} {cz : ByteArray} {mz : Nat} {dz Kz Nz idx b np : Nat} {as st : List Value} {QRz : Option Value → kM → Prop} {QXz : String → kM → Prop} (hC : kC l g nz cz mz none [] dz Kz Nz (.ref b :: as) M QRz QXz) (hno : ∀ E M', ¬ QXz E M') (hdg : decode cc pc = .ok (.invokespecial idx, 3)) (hL : kLk nz cz mz none [] np) (hw : Cond.methodLink nm.cls idx nz ∈ kTb) (hw2 : Cond.instanceMethod nz ∈ kTb) (hin : nz.name = "<init>")
    (hd : dz + 1 ≤ d) (hk : Kz ≤ kc) (hn : Nz ≤ nc) (hnp : as.length = np) (hst : as.reverse ++ .ref b :: rest = st) (hs : (rest.map fun v => v.category).sum ≤ 8)
    (kr : ∀ v M', QRz v M' → kT l g nm cc mL rt hh d K N QR QX (pc + 3) lv (v.toList ++ rest) M' (kc - Kz) (nc - Nz)) : kT l g nm cc mL rt hh d K N QR QX pc lv st M kc nc := by
  intro p e s m args below meth c9 A H locs cells slots ls hR hS hl9 h19 h29
  obtain ⟨hx, hb, hml, hret, hlk, hown, hts, hK, hSt, htab, hl0, hnm, hlo0⟩ := id A
  subst hst
  exact kRun0 A (va_runI (Ts := kTb) (own := nm.cls) ⟨hx, hb, hml, hown, hts⟩ (kC_met hC hno) ⟨kCallB hts hL hw hd, hin, hts _ hw2⟩ ⟨kBlind, fun U hU hW => ⟨rfl, kPre_at A hR hS hU hW⟩⟩ rfl hnp hl9.1 rfl (lv_room hs) hdg ⟨show cells + Kz ≤ K by omega, show slots + Nz ≤ N by omega⟩) hS hl9 h19 h29 hk hn kr
/-- the same of a nest mate's private one -/
theorem kT_invIN {nz : MethodName} {cz : ByteArray} {mz : Nat} {host : String} {dz Kz Nz idx b np : Nat} {as st : List Value} {QRz : Option Value → kM → Prop} {QXz : String → kM → Prop} (hC : kC l g nz cz mz none [] dz Kz Nz (.ref b :: as) M QRz QXz) (hno : ∀ E M', ¬ QXz E M') (hdg : decode cc pc = .ok (.invokespecial idx, 3)) (hL : kLk nz cz mz none [] np) (hw : Cond.methodLinkNest nm.cls idx nz host ∈ kNw) (hw2 : Cond.instanceMethod nz ∈ kTb) (hin : nz.name = "<init>")
    (hd : dz + 1 ≤ d) (hk : Kz ≤ kc) (hn : Nz ≤ nc) (hnp : as.length = np) (hst : as.reverse ++ .ref b :: rest = st) (hs : (rest.map fun v => v.category).sum ≤ 8)
    (kr : ∀ v M', QRz v M' → kT l g nm cc mL rt hh d K N QR QX (pc + 3) lv (v.toList ++ rest) M' (kc - Kz) (nc - Nz)) : kT l g nm cc mL rt hh d K N QR QX pc lv st M kc nc := by
  intro p e s m args below meth c9 A H locs cells slots ls hR hS hl9 h19 h29
  obtain ⟨hx, hb, hml, hret, hlk, hown, hts, hK, hSt, htab, hl0, hnm, hlo0⟩ := id A
  subst hst
  obtain ⟨h1, h2, h3, h4, h5⟩ := id hL
  exact kRun0 A (va_runIN (Ts := kTb) (own := nm.cls) (host := host) ⟨hx, hb, hml, hown, hts⟩ (kC_met hC hno) ⟨⟨⟨rfl, rfl, hd, show 8 + (mz + 11) + 64 * dz ≤ 64 * d by omega, kPay hts h1, List.mem_cons_self⟩, hts _ h1, hts _ h2, h3, kLen h4, va_Nw.use rfl (hK.2.2.1 _ hw)⟩, hin, hts _ hw2⟩ ⟨kBlind, fun U hU hW => ⟨rfl, kPre_at A hR hS hU hW⟩⟩ rfl hnp hl9.1 rfl (lv_room hs) hdg ⟨show cells + Kz ≤ K by omega, show slots + Nz ≤ N by omega⟩) hS hl9 h19 h29 hk hn kr
theorem kT_invSN {nz : MethodName} {cz : ByteArray} {mz : Nat} {rz : Option FieldType} {host : String} {dz Kz Nz idx np : Nat} {as st : List Value} {QRz : Option Value → kM → Prop} {QXz : String → kM → Prop} (hC : kC l g nz cz mz rz [] dz Kz Nz as M QRz QXz) (hno : ∀ E M', ¬ QXz E M') (hdg : decode cc pc = .ok (.invokestatic idx, 3)) (hL : kLk nz cz mz rz [] np) (hw : Cond.methodLinkNest nm.cls idx nz host ∈ kNw) (hw2 : Cond.static nz ∈ kTb)
    (hd : dz + 1 ≤ d) (hk : Kz ≤ kc) (hn : Nz ≤ nc) (hnp : as.length = np) (hst : as.reverse ++ rest = st) (hs : (rest.map fun v => v.category).sum ≤ 8)
    (kr : ∀ v M', QRz v M' → kT l g nm cc mL rt hh d K N QR QX (pc + 3) lv (v.toList ++ rest) M' (kc - Kz) (nc - Nz)) : kT l g nm cc mL rt hh d K N QR QX pc lv st M kc nc := by
  intro p e s m args below meth c9 A H locs cells slots ls hR hS hl9 h19 h29
  obtain ⟨hx, hb, hml, hret, hlk, hown, hts, hK, hSt, htab, hl0, hnm, hlo0⟩ := id A
  subst hst
  obtain ⟨h1, h2, h3, h4, h5⟩ := id hL
  exact kRun0 A (va_runSN (Ts := kTb) (own := nm.cls) (host := host) ⟨hx, hb, hml, hown, hts⟩ (kC_met hC hno) ⟨⟨⟨rfl, rfl, hd, show 8 + (mz + 11) + 64 * dz ≤ 64 * d by omega, kPay hts h1, List.mem_cons_self⟩, hts _ h1, hts _ h2, h3, kLen h4, va_Nw.use rfl (hK.2.2.1 _ hw)⟩, hts _ hw2, trivial⟩ ⟨kBlind, fun U hU hW => ⟨rfl, kPre_at A hR hS hU hW⟩⟩ rfl hnp hl9.1 rfl (lv_room hs) hdg ⟨show cells + Kz ≤ K by omega, show slots + Nz ≤ N by omega⟩) hS hl9 h19 h29 hk hn kr
/-- methods with a table -/
theorem kT_invVH {nz : MethodName} {cz : ByteArray} {mz : Nat} {rz : Option FieldType} {z0 : Nat × Nat × Nat × Nat} {zr : List (Nat × Nat × Nat × Nat)} {dz Kz Nz idx b c0 np : Nat} {as st : List Value} {QRz : Option Value → kM → Prop} {QXz : String → kM → Prop} (hC : kC l g nz cz mz rz (z0 :: zr) dz Kz Nz (.ref b :: as) M QRz QXz) (hdg : decode cc pc = .ok (.invokevirtual idx, 3)) (hL : kLk nz cz mz rz (z0 :: zr) np) (hw : Cond.methodLink nm.cls idx nz ∈ kTb) (hw2 : Cond.instanceMethod nz ∈ kTb) (hw3 : Cond.selects nz.cls nz nz ∈ kTb)
    (ht : tg M b = c0 + 1) (hc : c0 < 50) (hcn : kNm c0 = nz.cls) (hd : dz + 1 ≤ d) (hk : Kz ≤ kc) (hn : Nz ≤ nc) (hnp : as.length = np) (hst : as.reverse ++ .ref b :: rest = st) (hs : (rest.map fun v => v.category).sum ≤ 8)
    (kr : ∀ v M', QRz v M' → kT l g nm cc mL rt hh d K N QR QX (pc + 3) lv (v.toList ++ rest) M' (kc - Kz) (nc - Nz)) (kx : ∀ E M', QXz E M' → kX l g nm cc mL rt hh d K N QR QX pc lv rest M' (kc - Kz) (nc - Nz) E) : kT l g nm cc mL rt hh d K N QR QX pc lv st M kc nc := by
  intro p e s m args below meth c9 A H locs cells slots ls hR hS hl9 h19 h29
  obtain ⟨hx, hb, hml, hret, hlk, hown, hts, hK, hSt, htab, hl0, hnm, hlo0⟩ := id A
  subst hst
  obtain ⟨h1, h2, h3, h4, h5⟩ := id hL
  obtain ⟨r, hr, hlo, cell, q1, q2, q3, q4⟩ := hR.obj ht hc
  have hcl : s.vm.findClass nz.cls = some cell.cls := by
    rw [q2, ← hcn, kNm_of hr]
    exact (hK.1.1 c0 r hr).2.1
  exact kRun A (vx_runVX (hh := z0 :: zr) (Ts := kTb) (own := nm.cls) ⟨hx, hb, hml, hown, hts⟩ hC ⟨⟨rfl, rfl, hd, show 8 + (mz + 11) + 64 * dz ≤ 64 * d by omega, kPay hts h1, List.mem_cons_self⟩, hts _ h1, hts _ h2, h3, kLen h4, hts _ hw, hts _ hw2, hts _ hw3⟩ ⟨kBlind, ⟨cell, q1, by rw [q3]; rfl, hcl⟩, fun U hU hW => ⟨rfl, kPre_at A hR hS hU hW⟩⟩ rfl hnp hl9.1 rfl (lv_room hs) hdg ⟨show cells + Kz ≤ K by omega, show slots + Nz ≤ N by omega⟩) hS hl9 h19 h29 hk hn kr kx
theorem kT_invSH {nz : MethodName} {cz : ByteArray} {mz : Nat} {rz : Option FieldType} {z0 : Nat × Nat × Nat × Nat} {zr : List (Nat × Nat × Nat × Nat)} {dz Kz Nz idx np : Nat} {as st : List Value} {QRz : Option Value → kM → Prop} {QXz : String → kM → Prop} (hC : kC l g nz cz mz rz (z0 :: zr) dz Kz Nz as M QRz QXz) (hdg : decode cc pc = .ok (.invokestatic idx, 3)) (hL : kLk nz cz mz rz (z0 :: zr) np) (hw : Cond.methodLink nm.cls idx nz ∈ kTb) (hw2 : Cond.static nz ∈ kTb)
    (hd : dz + 1 ≤ d) (hk : Kz ≤ kc) (hn : Nz ≤ nc) (hnp : as.length = np) (hst : as.reverse ++ rest = st) (hs : (rest.map fun v => v.category).sum ≤ 8)
    (kr : ∀ v M', QRz v M' → kT l g nm cc mL rt hh d K N QR QX (pc + 3) lv (v.toList ++ rest) M' (kc - Kz) (nc - Nz)) (kx : ∀ E M', QXz E M' → kX l g nm cc mL rt hh d K N QR QX pc lv rest M' (kc - Kz) (nc - Nz) E) : kT l g nm cc mL rt hh d K N QR QX pc lv st M kc nc := by
  intro p e s m args below meth c9 A H locs cells slots ls hR hS hl9 h19 h29
  obtain ⟨hx, hb, hml, hret, hlk, hown, hts, hK, hSt, htab, hl0, hnm, hlo0⟩ := id A
  subst hst
  obtain ⟨h1, h2, h3, h4, h5⟩ := id hL
  exact kRun A (vx_runSX (hh := z0 :: zr) (Ts := kTb) (own := nm.cls) ⟨hx, hb, hml, hown, hts⟩ hC ⟨⟨rfl, rfl, hd, show 8 + (mz + 11) + 64 * dz ≤ 64 * d by omega, kPay hts h1, List.mem_cons_self⟩, hts _ h1, hts _ h2, h3, kLen h4, hts _ hw, hts _ hw2⟩ ⟨kBlind, fun U hU hW => ⟨rfl, kPre_at A hR hS hU hW⟩⟩ rfl hnp hl9.1 rfl (lv_room hs) hdg ⟨show cells + Kz ≤ K by omega, show slots + Nz ≤ N by omega⟩) hS hl9 h19 h29 hk hn kr kx
/-- Object.<init> -/
theorem kT_objInit {idx b : Nat} (hdg : decode cc pc = .ok (.invokespecial idx, 3)) (hw : Cond.methodLink nm.cls idx Lib.objectInit ∈ kTb) (hw2 : Cond.instanceMethod Lib.objectInit ∈ kTb) (hw3 : Cond.code Lib.objectInit ⟨#[0xb1]⟩ 1 none ∈ kTb) (hd : 1 ≤ d) (hs : (rest.map fun v => v.category).sum ≤ 8) (kk : kT l g nm cc mL rt hh d K N QR QX (pc + 3) lv rest M kc nc) : kT l g nm cc mL rt hh d K N QR QX pc lv (.ref b :: rest) M kc nc := by
  intro p e s m args below meth c9 A H locs cells slots ls hR hS hl9 h19 h29
  obtain ⟨hx, hb, hml, hret, hlk, hown, hts, hK, hSt, htab, hl0, hnm, hlo0⟩ := id A
  exact W.objInit hx hb hown (hts _ hw) (hts _ hw2) (hts _ hw3) rfl (by rw [hml]; exact hl9.1) rfl hdg hd (show 2 * 0 + _ + 12 ≤ 64 * d by omega) (kk p e s m args below meth c9 A H locs cells slots ls hR hS hl9 h19 h29)
/-- an exception goes on to the caller -/
theorem kX_out {E : String} {st : List Value} (hq : QX E M) : kX l g nm cc mL rt [] d K N QR QX pc lv st M kc nc E := by
  intro p e s m args below meth c9 A H locs cells slots ls q ce hR hS hl9 h19 h29 hce hcv hcl
  obtain ⟨hx, hb, hml, hret, hlk, hown, hts, hK, hSt, htab, hl0, hnm, hlo0⟩ := id A
  refine vx_out (E := E) (fun x hx9 => ?_) hlk hce hcv hcl (fun t ht ha => ⟨⟨M, hq, by rw [ht]; exact hR⟩, hS.F ht⟩) hS.2.2 (by omega) (by omega)
  rw [htab] at hx9
  exact absurd hx9 (by simp [tableOf])
end KC

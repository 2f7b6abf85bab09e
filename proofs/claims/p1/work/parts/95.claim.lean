/-! ===== the law on every script of at most 5 ints ===== -/
theorem eEnv_nil {g : kG} : eEnv g [] := ⟨Nat.zero_le _, fun k => by
  obtain ⟨n, e1, e2⟩ := nI_all (gX g k)
  exact ⟨n, e1, e2, Nat.zero_le _, show n ≤ 4294967295 by omega⟩⟩
theorem eEnv_full {g : kG} (h : 5 ≤ gL g) : eEnv g [(0, 4294967295), (0, 4294967295), (0, 4294967295), (0, 4294967295), (0, 4294967295)] := ⟨h, fun k => by
  obtain ⟨n, e1, e2⟩ := nI_all (gX g k)
  refine ⟨n, e1, e2, ?_, ?_⟩
  · match k with
    | 0 => exact Nat.zero_le _
    | 1 => exact Nat.zero_le _
    | 2 => exact Nat.zero_le _
    | 3 => exact Nat.zero_le _
    | 4 => exact Nat.zero_le _
    | (k + 5) => exact Nat.zero_le _
  · match k with
    | 0 => show n ≤ 4294967295; omega
    | 1 => show n ≤ 4294967295; omega
    | 2 => show n ≤ 4294967295; omega
    | 3 => show n ≤ 4294967295; omega
    | 4 => show n ≤ 4294967295; omega
    | (k + 5) => show n ≤ 4294967295; omega⟩
theorem short_0 : lawB 1000 23 [10, 6, 9030, 10630, 1, 0, 0] T0 665 1048467 0 32 0 [] = true := by decide +kernel
theorem short_1 : lawB 1000 23 [10, 6, 9030, 10630, 1, 0, 0] T0 665 1048467 0 32 1 [] = true := by decide +kernel
theorem short_2 : lawB 1000 23 [10, 6, 9030, 10630, 1, 0, 0] T0 665 1048467 0 32 2 [] = true := by decide +kernel
theorem short_3 : lawB 1000 23 [10, 6, 9030, 10630, 1, 0, 0] T0 665 1048467 0 32 3 [] = true := by decide +kernel
theorem short_4 : lawB 1000 23 [10, 6, 9030, 10630, 1, 0, 0] T0 665 1048467 0 32 4 [] = true := by decide +kernel
theorem law_all {g : kG} {b : Nat} {l : Launch} (hst : l.stackTraces = false) (hV : eV7 g) (hL : gL g ≤ 5) {M : kM} (hM : eMm g b eL 0 0 M) : kT l g yL_law cL_law 7 (some .boolean) [] 60 5000 4000000 lawQ lawX 0 [(0, .ref (gS g))] [] M 5000 4000000 := by
  refine kT_cut (q := (yL_law, cL_law, 7, some .boolean, [])) (lv := [10, 0, 0, 0, 0, 0, 0]) (st := []) (t := eL) (x := 0) (p := 0) (u := 0) (dd := 60) (pc := 0) (fun r' h => ?_) law_made (fun k hk => ?_) trivial hM (by decide) (by decide) (fun lc' sc' M' c1 c2 c3 => ?_)
  · have G := evT_ok (g := g) (b := b) (mt := eMt) (fun i pc => eTab_ok (B := []) (ks := 32) (Ls := 2000) eEnv_nil rfl hst (fun h => absurd h (by decide)) (fun h => absurd h (by decide)) i pc) spL 300000 60 222 0 _ _ _ _ _ _ _ h
    rw [eM222] at G
    exact G
  · match k, hk with
    | 0, _ => exact ⟨.ref (gS g), rfl, Or.inr (Or.inr ⟨some (gS g), rfl, Or.inr (Or.inr (Or.inr (Or.inr (Or.inl ⟨rfl, rfl⟩))))⟩)⟩
    | 1, hk => exact absurd rfl hk
    | 2, hk => exact absurd rfl hk
    | 3, hk => exact absurd rfl hk
    | 4, hk => exact absurd rfl hk
    | 5, hk => exact absurd rfl hk
    | 6, hk => exact absurd rfl hk
    | (k + 7), hk => exact absurd rfl hk
  · rw [eSk_nil c2]
    have go : ∀ B ks Ls, lawP 23 [10, 6, 9030, 10630, 1, 0, 0] T0 665 1048467 0 5000 4000000 B ks Ls → eEnv g B → (Nat.ble Ls 1000 = true → gL g = Ls) → (Nat.ble ks 31 = true → gX g 0 &&& nI 31 = nI ks) → kT l g yL_law cL_law 7 (some .boolean) [] 60 5000 4000000 lawQ lawX 23 lc' [] M' (5000 - (665 - 0)) (4000000 - (1048467 - 0)) := fun B ks Ls h h1 h2 h3 => h g b l hst hV h1 h2 h3 lc' M' _ _ c1 c3 (by decide) (by decide)
    obtain ⟨L, eL9⟩ : ∃ L, gL g = L := ⟨_, rfl⟩
    rw [eL9] at hL
    match L, hL, eL9 with
    | 0, _, e => exact go _ _ _ (law_leaf short_0) eEnv_nil (fun _ => e) (fun h => absurd h (by decide))
    | 1, _, e => exact go _ _ _ (law_leaf short_1) eEnv_nil (fun _ => e) (fun h => absurd h (by decide))
    | 2, _, e => exact go _ _ _ (law_leaf short_2) eEnv_nil (fun _ => e) (fun h => absurd h (by decide))
    | 3, _, e => exact go _ _ _ (law_leaf short_3) eEnv_nil (fun _ => e) (fun h => absurd h (by decide))
    | 4, _, e => exact go _ _ _ (law_leaf short_4) eEnv_nil (fun _ => e) (fun h => absurd h (by decide))
    | 5, _, e =>
      obtain ⟨n, e1, e2⟩ := nI_all (gX g 0)
      have e3 : gX g 0 &&& nI 31 = nI (n % 32) := by
        rw [e1, nI_and, show (31 : Nat) = 2 ^ 5 - 1 by decide, Nat.and_two_pow_sub_one_eq_mod]
      exact go _ _ _ (law_five (n % 32) (Nat.mod_lt n (by decide))) (eEnv_full (by omega)) (fun _ => e) (fun _ => e3)
    | (k + 6), h, _ => omega
/-! ===== the claim ===== -/
def lw_P (b : Addr) (xs : List Int32) (args : Array Value) (s : State) : Prop := args = #[.ref b] ∧ s.IntsAt b xs ∧ xs.length ≤ 5 ∧ (Jvm.Cond.and given_1 narrow_1).before args s = true
def lw_Q (_ : Array Value) (s : State) (o : Outcome) (t : State) : Prop := o = .returned (some (.int 1)) ∧ Framed s o t [] room_1.cells room_1.slots
theorem lw_pre_spec {args : Array Value} {s : State} (h : (Jvm.Cond.and given_1 narrow_1).before args s = true) (hr : rest_1_c.before args s = true) : ∃ (b : Addr) (xs : List Int32), lw_P b xs args s := by
  have hs := flat_of_before _ h
  have hq := flat_of_before _ hr
  have hc : (Cond.count 1).before args s = true := hs _ (by decide +kernel)
  have harr : (Cond.arrayOf (.arg 0) .int).before args s = true := hs _ (by decide +kernel)
  have hle : (Cond.le (.length (.arg 0)) (.int 5)).before args s = true := hs _ (by decide +kernel)
  have hlen : (Cond.isInt (.length (.arg 0))).before args s = true := hq _ (by decide +kernel)
  have hall : (Cond.all (.arg 0) (.isInt (.elem (.arg 0) (.index 0)))).before args s = true := hq _ (by decide +kernel)
  obtain ⟨b, xs, hb, hx⟩ := State.ints_of_pre rfl harr hlen hall
  have hsm : xs.length < 2 ^ 31 := hx.choose_spec.2.2.2
  have hev : (Term.length (.arg 0)).eval args s none [] s = some (.int xs.length.toInt32) := hx.length_eval hb
  have hv := Cond.le_ints hev (show (Term.int 5).eval args s none [] s = some (.int 5) from rfl)
  have hd : xs.length.toInt32 ≤ 5 := by
    simpa [Cond.before, Cond.holds, hv] using hle
  have hN : xs.length ≤ 5 := (Int32.ofNat_le_ofNat hsm (by decide)).mp (show Int32.ofNat xs.length ≤ Int32.ofNat 5 from hd)
  exact ⟨b, xs, Cond.one_arg hc (show args[0]? = some (.ref b) from hb), hx, hN, h⟩
set_option maxHeartbeats 4000000 in
theorem lw_comes (l : Launch) (hst : l.stackTraces = false) : Comes l x (Jvm.Cond.code x code maxLocals ret :: tables_1) room_1 (fun tb e args s => Calls_1 tb e args s ∧ rest_1 tb e args s ∧ Pre_1 tb e args s)
    (fun _ _ args s o t => lw_Q args s o t) := by
  intro p e ha hc hk s m args below hf hfit hheap happ hpre
  obtain ⟨b, xs, rfl, hx, hbd, hgv⟩ := lw_pre_spec hpre.2.2 hpre.2.1
  obtain ⟨scr, harrAt, hlist, hof, hsmall⟩ := hx
  obtain ⟨hcb, hkn, -, -⟩ := State.arrayAt?_spec harrAt
  have hsz : scr.slots.size = xs.length := by rw [← Array.length_toList, hlist, List.length_map]
  have hval : ∀ j : Nat, j < xs.length → scr.slots[j]? = some (.int (xs.getD j 0)) := fun j hj => by
    rw [← Array.getElem?_toList, hlist]
    simp [hj]
  have hbl : b < s.heap.size := (Array.getElem?_eq_some_iff.mp hcb).1
  have hX : va_X b xs.length (fun j => xs.getD j 0) s s.heap := ⟨scr, hcb, hof, hkn, hsz, hval⟩
  obtain ⟨a1, a2, a3, a4, a5, a6, a7, a8⟩ := (Spec.appliesLoose_iff hf).mp ((Spec.applies_iff_loose hf).mp happ).1
  have hts0 : ∀ c ∈ (Jvm.Cond.code x code maxLocals ret :: tables_1), c.before #[Value.ref b] s = true := atoms_spec (ws := Jvm.Cond.code x code maxLocals ret :: tables_1) a8
  have htl : ∀ w ∈ lw_tbl, w.before #[Value.ref b] s = true := k2_hts_sels lw_privs (fun w hw => hts0 w (List.mem_cons_of_mem _ hw)) lw_privs_ok
  obtain ⟨g, M, hP, hS, hL, hlo, hM, hV⟩ := ks_start htl (flat_of_before _ hgv) hX hbl hbd
  have C : kC l g yL_law cL_law 7 (some .boolean) [] 60 5000 4000000 [.ref b] M lawQ lawX := by
    refine kC_ofF hst (plainFor_of_name rfl) (Nat.le_of_ble_eq_true rfl) ?_
    have T := law_all hst hV (by rw [hL]; exact hbd) hM
    rw [hS] at T
    exact T
  have hap : (headSpec (kCd yL_law cL_law 7 (some .boolean) [] :: kTb) (kRm 60 5000 4000000)).appliesLoose yL_law e.platform s = true := by
    refine (Spec.appliesLoose_iff hf).mpr ⟨a1, a2, a3, a4, a5, a6, Jvm.Free.hasRoom_mono (r' := room_1) (by decide) (by decide) (by decide) (by decide) a7, atoms_intro (fun c hc9 => ?_)⟩
    rcases List.mem_cons.mp hc9 with h | h
    · rw [h]
      exact hts0 _ List.mem_cons_self
    · exact htl c (List.mem_filter.mp h).1
  obtain ⟨n, o, h1, h2, h3, h4⟩ := C p e ha hc hk s m #[.ref b] below hf hap ⟨rfl, hP⟩ trivial
  refine ⟨n, o, h1, h2, h3, ?_⟩
  rcases h4 with ⟨⟨⟨v, M', e1, e2, e3⟩, hF⟩, Lo, ⟨hE1, hE2, hE3⟩, hLo⟩ | ⟨q, e0, E, ce, Lo, ⟨⟨M', e2, e3⟩, hF⟩, hr⟩
  · have e2' : v = some (.int 1) := e2
    rw [e2'] at e1
    refine ⟨e1, hE1, hE2, hE3.weaken (fun y hy hlt => ?_) (by decide) (by decide)⟩
    have h9 : gLo g ≤ y.base := hLo y hy
    rw [hlo] at h9
    exact absurd hlt (Nat.not_lt.mpr h9)
  · exact absurd e2 id
theorem lw_frame {s t : State} {o : Outcome} {args : Array Value} (h : Framed s o t [] room_1.cells room_1.slots) :
    Framed s o t (fieldLocs frame_1_writes args s ++ arrayLocs frame_1_arrays args s ++ staticLocs frame_1_statics s) room_1.cells room_1.slots := h
theorem lw_limb (L : Cond) (hL : ∀ (args : Array Value) (s t : State), L.after args s (.returned (some (.int 1))) t = true) :
    ArmFor flags0 classFile x code maxLocals ret World_1 tables_1 room_1 Calls_1 rest_1 Pre_1
      (fun tb e a s o t => postC L tb e a s o t ∧ Framed s o t (fieldLocs frame_1_writes a s ++ arrayLocs frame_1_arrays a s ++ staticLocs frame_1_statics s) room_1.cells room_1.slots) := by
  intro l hfl _ _ p e ha hc hk s m args below hf hfit hheap happ hpre
  have hst : l.stackTraces = false := by
    unfold Launch.stackTraces
    rw [hfl]
    decide +kernel
  obtain ⟨k, o, h1, h2, h3, rfl, hF⟩ := lw_comes l hst p e ha hc hk s m args below hf hfit hheap happ hpre
  exact ⟨k, _, h1, h2, h3, hL args s _, lw_frame hF⟩
theorem i_vc : Claimed_1_1 ∧ Claimed_1_2 := ⟨lw_limb limb_1_1 (fun args s t => by simp [limb_1_1, Cond.after, Cond.holds, Cond.value]), lw_limb limb_1_2 (fun args s t => Cond.after_iff.mpr (by
  first | (rw [show limb_1_2 = Cond.eq .result (.int 1) from rfl, Cond.eq_ints (x := 1) (y := 1) rfl rfl]; simp; done) | (simp [limb_1_2, Cond.value, Term.eval]; done)))⟩

/-! ===== A MEMORY OF NUMBERED THINGS: tg the kind of the thing at an address (0 none, c + 1 an object of kCl's class c, 101 + t an array of kAty t, 111 and 112 the two static empty arrays), ln an array's length, fi fl fr an object's fields, ai al ar an array's places ===== -/
abbrev kM : Type := (Nat → Nat) × (Nat → Nat) × (Nat → Nat → Int32) × (Nat → Nat → Int64) × (Nat → Nat → Option Nat) × (Nat → Nat → Int32) × (Nat → Nat → Int64) × (Nat → Nat → Option Nat) × Nat
def tg (M : kM) : Nat → Nat := M.1
def ln (M : kM) : Nat → Nat := M.2.1
def fi (M : kM) : Nat → Nat → Int32 := M.2.2.1
def fl (M : kM) : Nat → Nat → Int64 := M.2.2.2.1
def fr (M : kM) : Nat → Nat → Option Nat := M.2.2.2.2.1
def ai (M : kM) : Nat → Nat → Int32 := M.2.2.2.2.2.1
def al (M : kM) : Nat → Nat → Int64 := M.2.2.2.2.2.2.1
def ar (M : kM) : Nat → Nat → Option Nat := M.2.2.2.2.2.2.2.1
/-- the address of the next new thing -/
def nx (M : kM) : Nat := M.2.2.2.2.2.2.2.2
def up2 {α : Type} (f : Nat → Nat → α) (a k : Nat) (v : α) : Nat → Nat → α := fun b j => if j = k ∧ b = a then v else f b j
def zr2 {α : Type} (f : Nat → Nat → α) (a : Nat) (h : Nat → α) : Nat → Nat → α := fun b j => if b = a then h j else f b j
def sfi (M : kM) (a k : Nat) (v : Int32) : kM := (tg M, ln M, up2 (fi M) a k v, fl M, fr M, ai M, al M, ar M, nx M)
def sfr (M : kM) (a k : Nat) (v : Option Nat) : kM := (tg M, ln M, fi M, fl M, up2 (fr M) a k v, ai M, al M, ar M, nx M)
def sai (M : kM) (a k : Nat) (v : Int32) : kM := (tg M, ln M, fi M, fl M, fr M, up2 (ai M) a k v, al M, ar M, nx M)
def sal (M : kM) (a k : Nat) (v : Int64) : kM := (tg M, ln M, fi M, fl M, fr M, ai M, up2 (al M) a k v, ar M, nx M)
def sar (M : kM) (a k : Nat) (v : Option Nat) : kM := (tg M, ln M, fi M, fl M, fr M, ai M, al M, up2 (ar M) a k v, nx M)
def wai (M : kM) (a : Nat) (h : Nat → Int32) : kM := (tg M, ln M, fi M, fl M, fr M, zr2 (ai M) a h, al M, ar M, nx M)
/-- the same memory, the next new thing elsewhere -/
def snx (M : kM) (n : Nat) : kM := (tg M, ln M, fi M, fl M, fr M, ai M, al M, ar M, n)
def nwO (M : kM) (c : Nat) : kM := (va_up (tg M) (nx M) (c + 1), ln M, zr2 (fi M) (nx M) (fun _ => 0), zr2 (fl M) (nx M) (fun _ => 0), zr2 (fr M) (nx M) (fun _ => none), ai M, al M, ar M, nx M + 1)
def nwA (M : kM) (t n : Nat) : kM := (va_up (tg M) (nx M) (101 + t), va_up (ln M) (nx M) n, fi M, fl M, fr M, zr2 (ai M) (nx M) (fun _ => 0), zr2 (al M) (nx M) (fun _ => 0), zr2 (ar M) (nx M) (fun _ => none), nx M + 1)
def kFV (M : kM) (a c k : Nat) : Value := match kTyp c k with
  | .int => .int (fi M a k)
  | .boolean => .int (fi M a k)
  | .long => .long (fl M a k)
  | _ => va_rf (fr M a k)
def kAty : Nat → FieldType := fun t => match t with
  | 0 => .int
  | 1 => .long
  | 2 => .byte
  | 3 => .boolean
  | 4 => .object RX8
  | 5 => .object RX4
  | 6 => .object RX5
  | 7 => .object RX7
  | _ => .array .int
def kAV (M : kM) (a t : Nat) : Nat → Value := fun j => match t with
  | 0 => .int (ai M a j)
  | 1 => .long (al M a j)
  | 2 => .int (ai M a j)
  | 3 => .int (ai M a j)
  | _ => va_rf (ar M a j)
def kFit (M : kM) (a t : Nat) : Prop := (t = 2 → ∀ j, fits .byte (.int (ai M a j)) = true) ∧ (t = 3 → ∀ j, fits .boolean (.int (ai M a j)) = true)
/-- what is fixed through a run: where the new cells begin, classes and slots, the arrays' classes, the two static empty arrays, the script -/
abbrev kG : Type := Nat × va_G × (Nat → ClassId) × Nat × Nat × Nat × Nat × (Nat → Int32)
def gLo (g : kG) : Nat := g.1
def gD (g : kG) : va_G := g.2.1
def gA (g : kG) : Nat → ClassId := g.2.2.1
def gN (g : kG) : Nat := g.2.2.2.1
def gW (g : kG) : Nat := g.2.2.2.2.1
def gS (g : kG) : Nat := g.2.2.2.2.2.1
def gL (g : kG) : Nat := g.2.2.2.2.2.2.1
def gX (g : kG) : Nat → Int32 := g.2.2.2.2.2.2.2
def kA (g : kG) : Nat → Prop := fun q => gLo g ≤ q
def kOK (g : kG) (M : kM) (H : Heap) (a : Nat) : Prop :=
  tg M a = 0 ∨ (∃ (c : Nat) (r : vw_C), tg M a = c + 1 ∧ c < 50 ∧ kCl[c]? = some r ∧ gLo g ≤ a ∧ t_OB a ((gD g).1 c) r.2.2 ((gD g).2 c) H (kFV M a c)) ∨
  (∃ t : Nat, tg M a = 101 + t ∧ t < 9 ∧ gLo g ≤ a ∧ H[a]? = some (arrV (gA g t) (ln M a) (kAV M a t)) ∧ kFit M a t ∧ ln M a < 2147483648) ∨
  (tg M a = 111 ∧ a = gN g ∧ ln M a = 0) ∨ (tg M a = 112 ∧ a = gW g ∧ ln M a = 0)
def kRep (g : kG) (M : kM) (H : Heap) : Prop := nx M = H.size ∧ ∀ a : Nat, kOK g M H a
theorem kRep.obj {g : kG} {M : kM} {H : Heap} (h : kRep g M H) {a c : Nat} (ht : tg M a = c + 1) (hc : c < 50) : ∃ r : vw_C, kCl[c]? = some r ∧ gLo g ≤ a ∧ t_OB a ((gD g).1 c) r.2.2 ((gD g).2 c) H (kFV M a c) := by
  rcases h.2 a with h | ⟨c', r, h1, -, h3, h4, h5⟩ | ⟨t, h1, -⟩ | ⟨h1, -⟩ | ⟨h1, -⟩
  · omega
  · have e : c' = c := by omega
    subst e
    exact ⟨r, h3, h4, h5⟩
  · omega
  · omega
  · omega
theorem kRep.arr {g : kG} {M : kM} {H : Heap} (h : kRep g M H) {a t : Nat} (ht : tg M a = 101 + t) (hc : t < 9) : gLo g ≤ a ∧ H[a]? = some (arrV (gA g t) (ln M a) (kAV M a t)) ∧ kFit M a t ∧ ln M a < 2147483648 := by
  rcases h.2 a with h | ⟨c', r, h1, h2, -⟩ | ⟨t', h1, -, h3, h4, h5⟩ | ⟨h1, -⟩ | ⟨h1, -⟩
  · omega
  · omega
  · have e : t' = t := by omega
    subst e
    exact ⟨h3, h4, h5⟩
  · omega
  · omega
/-- two memories are alike at an address -/
def kLike (M M' : kM) (b : Nat) : Prop := tg M' b = tg M b ∧ ln M' b = ln M b ∧ (∀ c, kFV M' b c = kFV M b c) ∧ ∀ t, kAV M' b t = kAV M b t ∧ (kFit M b t → kFit M' b t)
theorem kOK.like {g : kG} {M M' : kM} {H H' : Heap} {b : Nat} (h : kOK g M H b) (hl : kLike M M' b) (hq : H'[b]? = H[b]?) : kOK g M' H' b := by
  obtain ⟨l1, l2, l3, l4⟩ := hl
  rcases h with h | ⟨c, r, h1, h2, h3, h4, h5⟩ | ⟨t, h1, h2, h3, h4, h5⟩ | ⟨h1, h2, h3⟩ | ⟨h1, h2, h3⟩
  · exact Or.inl (l1.trans h)
  · exact Or.inr (Or.inl ⟨c, r, l1.trans h1, h2, h3, h4, by rw [l3 c]; exact h5.kept hq⟩)
  · exact Or.inr (Or.inr (Or.inl ⟨t, l1.trans h1, h2, h3, by rw [l2, (l4 t).1, hq]; exact h4, (l4 t).2 h5.1, by rw [l2]; exact h5.2⟩))
  · exact Or.inr (Or.inr (Or.inr (Or.inl ⟨l1.trans h1, h2, l2.trans h3⟩)))
  · exact Or.inr (Or.inr (Or.inr (Or.inr ⟨l1.trans h1, h2, l2.trans h3⟩)))
theorem kRep.upd {g : kG} {M M' : kM} {H H' : Heap} {a : Nat} (h : kRep g M H) (hn : nx M' = nx M) (hz : H'.size = H.size) (hl : ∀ b, b ≠ a → kLike M M' b) (hq : ∀ q : Nat, q ≠ a → H'[q]? = H[q]?) (ha : kOK g M' H' a) : kRep g M' H' := by
  refine ⟨hn.trans (h.1.trans hz.symm), fun b => ?_⟩
  by_cases e : b = a
  · subst e; exact ha
  · exact (h.2 b).like (hl b e) (hq b e)
theorem kRep.new {g : kG} {M M' : kM} {H H' : Heap} {a : Nat} (h : kRep g M H) (hn : nx M' = nx M + 1) (hz : H'.size = H.size + 1) (hl : ∀ b, b ≠ a → kLike M M' b) (hq : ∀ q : Nat, q ≠ a → H'[q]? = H[q]?) (ha : kOK g M' H' a) : kRep g M' H' := by
  refine ⟨by rw [hn, hz, h.1], fun b => ?_⟩
  by_cases e : b = a
  · subst e; exact ha
  · exact (h.2 b).like (hl b e) (hq b e)
theorem kRep.same {g : kG} {M : kM} {H H' : Heap} (h : kRep g M H) (hq : ∀ q : Nat, tg M q ≠ 0 → gLo g ≤ q → H'[q]? = H[q]?) : kRep g (snx M H'.size) H' := by
  refine ⟨rfl, fun b => ?_⟩
  rcases h.2 b with h | ⟨c, r, h1, h2, h3, h4, h5⟩ | ⟨t, h1, h2, h3, h4, h5⟩ | h | h
  · exact Or.inl h
  · exact Or.inr (Or.inl ⟨c, r, h1, h2, h3, h4, h5.kept (hq b (by omega) h4)⟩)
  · exact Or.inr (Or.inr (Or.inl ⟨t, h1, h2, h3, by rw [hq b (by omega) h3]; exact h4, h5⟩))
  · exact Or.inr (Or.inr (Or.inr (Or.inl h)))
  · exact Or.inr (Or.inr (Or.inr (Or.inr h)))
/-- own things lie in the heap -/
theorem kRep.lt {g : kG} {M : kM} {H : Heap} (h : kRep g M H) {a : Nat} (h0 : tg M a ≠ 0) (h1 : tg M a ≠ 111) (h2 : tg M a ≠ 112) : a < H.size := by
  rcases h.2 a with h | ⟨c, r, -, -, -, -, cell, q, -⟩ | ⟨t, -, -, -, q, -⟩ | ⟨h, -⟩ | ⟨h, -⟩
  · exact absurd h h0
  · exact (Array.getElem?_eq_some_iff.mp q).1
  · exact (Array.getElem?_eq_some_iff.mp q).1
  · exact absurd h h1
  · exact absurd h h2
/-- the words that the tables do not keep by themselves; the texts of the throws; classes that are not one another -/
def kNw : List Cond := [Cond.methodLinkNest "SearchCluster" 11 yX10_init "SearchCluster", Cond.methodLinkNest "SearchCluster$World" 30 yX4_init "SearchCluster", Cond.fieldLinkNest "SearchCluster$Message" 15 "SearchCluster" "NO_NUMBERS" "[I" "SearchCluster", Cond.methodLinkNest "SearchCluster" 43 yX9_init "SearchCluster", Cond.castable "java/lang/IllegalArgumentException" "java/lang/IllegalArgumentException", Cond.declares (⟨"java/lang/RuntimeException", "<init>", "()V"⟩ : MethodName), Cond.declares (⟨"java/lang/RuntimeException", "<init>", "(Ljava/lang/String;)V"⟩ : MethodName), Cond.declares (⟨"java/lang/Exception", "<init>", "()V"⟩ : MethodName), Cond.declares (⟨"java/lang/Exception", "<init>", "(Ljava/lang/String;)V"⟩ : MethodName), Cond.declares (⟨"java/lang/Throwable", "<init>", "()V"⟩ : MethodName), Cond.declares (⟨"java/lang/Throwable", "<init>", "(Ljava/lang/String;)V"⟩ : MethodName), Cond.declares (⟨"java/lang/IndexOutOfBoundsException", "<init>", "()V"⟩ : MethodName), Cond.declares (⟨"java/lang/IndexOutOfBoundsException", "<init>", "(Ljava/lang/String;)V"⟩ : MethodName), Cond.castable "java/lang/IllegalStateException" "java/lang/IllegalStateException", Cond.castable "java/lang/IndexOutOfBoundsException" "java/lang/IndexOutOfBoundsException", Cond.methodLinkNest "SearchCluster$Request" 38 yX11_rowsOf "SearchCluster", Cond.fieldLinkNest "SearchCluster$Request" 53 "SearchCluster" "NO_NUMBERS" "[I" "SearchCluster", Cond.methodLinkNest "SearchCluster" 105 yX6_init "SearchCluster", Cond.methodLinkNest "SearchCluster$Question" 37 yX11_isRowOctet "SearchCluster", Cond.methodLinkNest "SearchCluster$Question" 60 yX11_beginsRow "SearchCluster", Cond.methodLinkNest "SearchCluster$Question" 41 yX11_rowEnd "SearchCluster", Cond.methodLinkNest "SearchCluster$Question" 48 yX11_wordOf "SearchCluster", Cond.methodLinkNest "SearchCluster$Question" 72 yX11_packed "SearchCluster", Cond.methodLinkNest "SearchCluster$Node" 134 yX11_rank "SearchCluster", Cond.methodLinkNest "SearchCluster$Request" 162 yX11_rank "SearchCluster"]
def kStr : List (String × Nat × String) := [("SearchCluster$Disk", 107, "the node fails at this block"), ("SearchCluster", 62, "no such cluster"), ("SearchCluster", 67, "no room in the draft"), ("SearchCluster", 335, "no such node"), ("SearchCluster", 342, "no such document"), ("SearchCluster", 80, "the draft is no text"), ("SearchCluster", 346, "the node takes no request"), ("SearchCluster", 340, "no such shard"), ("SearchCluster", 101, "no such number of documents"), ("SearchCluster", 116, "no such request"), ("SearchCluster", 140, "no such hit"), ("SearchCluster", 344, "no such link"), ("SearchCluster", 160, "no such message"), ("SearchCluster", 181, "no such number of times"), ("SearchCluster", 201, "the node is up"), ("SearchCluster", 207, "no such block, or octets"), ("SearchCluster", 352, "no such copy"), ("SearchCluster", 219, "a copy does not tell this"), ("SearchCluster", 237, "no such other copy"), ("SearchCluster", 257, "a view does not tell this"), ("SearchCluster", 262, "a document does not tell this"), ("SearchCluster", 290, "no such octet"), ("SearchCluster", 357, "no such segment"), ("SearchCluster", 302, "a segment does not tell this"), ("SearchCluster", 333, "nothing such is told")]
def kNc : List (String × String) := [("java/lang/IndexOutOfBoundsException", "java/lang/IllegalArgumentException"), ("java/lang/IndexOutOfBoundsException", "java/lang/IllegalStateException"), ("java/lang/IllegalArgumentException", "java/lang/IndexOutOfBoundsException"), ("java/lang/IllegalArgumentException", "java/lang/IllegalStateException"), ("java/lang/IllegalStateException", "java/lang/IndexOutOfBoundsException"), ("java/lang/IllegalStateException", "java/lang/IllegalArgumentException")]
theorem kNw_warm {w : Cond} (hw : w ∈ kNw) {s U : State} (hW : s.WarmedH U.vm) (h : va_Nw w s) : va_Nw w U := by
  simp only [kNw, List.mem_cons, List.not_mem_nil, or_false] at hw
  rcases hw with rfl | rfl | rfl | rfl | rfl | rfl | rfl | rfl | rfl | rfl | rfl | rfl | rfl | rfl | rfl | rfl | rfl | rfl | rfl | rfl | rfl | rfl | rfl | rfl | rfl
  all_goals first | exact va_Nw.warmM hW h | exact va_Nw.warmF hW h | exact va_Nw.warmC hW h | exact va_Nw.warmD hW h
def kOv : List String := [RX8, RX4, RX5, RX7]
/-- what the tables say of classes, arrays, texts, at a state -/
def kK (g : kG) (U : State) : Prop := va_K (gD g) kCl [] U ∧ (∀ t, t < 9 → ArrOfT U (gA g t) (kAty t) ∧ va_RA U (gA g t) (kAty t)) ∧ (∀ w ∈ kNw, va_Nw w U) ∧ (∀ q ∈ kStr, ∃ sa, vk_R q.1 q.2.1 q.2.2 sa U) ∧ (∀ q ∈ kNc, va_Nc q.1 q.2 U) ∧ (∀ C ∈ kOv, va_AO C U) ∧ va_AOA .int U
theorem kK.warm {g : kG} {s U : State} (hW : s.WarmedH U.vm) (h : kK g s) : kK g U := by
  obtain ⟨h1, h2, h3, h4, h5, h6, h7⟩ := h
  refine ⟨va_K.moved hW.alike h1, fun t ht => ⟨arrOfT_moved hW.alike (h2 t ht).1, (h2 t ht).2.moved hW.alike⟩, fun w hw => kNw_warm hw hW (h3 w hw), fun q hq => ?_, fun q hq => (h5 q hq).moved hW.alike, fun C hC => (h6 C hC).moved hW.alike, over_moved hW.alike h7⟩
  obtain ⟨sa, hsa⟩ := h4 q hq
  exact ⟨sa, hsa.warm hW⟩
/-- what lies in old cells: the two empty arrays, what a throw reads, the script -/
def kSt (g : kG) (U : State) (H : Heap) : Prop := va_Z RX11 "NO_NUMBERS" "[I" (.ref (gN g)) (kA g) U H ∧ va_T .int (gN g) 0 (fun _ => .null) (kA g) U H ∧ va_Z RX11 "NO_WORDS" "[J" (.ref (gW g)) (kA g) U H ∧ va_T .long (gW g) 0 (fun _ => .null) (kA g) U H ∧
  vx_Zq Bundle.tN "UNASSIGNED_STACK" Bundle.steD (kA g) U H ∧ vx_Zq Bundle.tN "SUPPRESSED_SENTINEL" Bundle.listD (kA g) U H ∧ va_X (gS g) (gL g) (gX g) U H ∧ gS g < gLo g ∧ gS g < H.size
theorem kSt.moved {g : kG} {u U : State} {H H1 : Heap} (hvm : u.vm.Alike U.vm) (hz : H.size ≤ H1.size) (hq : ∀ a : Nat, a < H.size → ¬ kA g a → H1[a]? = H[a]?) (h : kSt g u H) : kSt g U H1 := by
  obtain ⟨h1, h2, h3, h4, h5, h6, h7, h8, h9⟩ := h
  exact ⟨(va_Z.moved hvm h1).kept hq, (va_T.moved hvm h2).kept hq, (va_Z.moved hvm h3).kept hq, (va_T.moved hvm h4).kept hq, (vx_Zq.moved hvm h5).kept hq, (vx_Zq.moved hvm h6).kept hq,
    (va_X.moved hvm h7).kept (hq _ h9 (fun z => absurd h8 (Nat.not_lt.mpr z))), h8, Nat.lt_of_lt_of_le h9 hz⟩
def kPre (g : kG) (M : kM) (U : State) : Prop := kRep g M U.heap ∧ kK g U ∧ kSt g U U.heap ∧ gLo g ≤ U.heap.size
def kQc (g : kG) (QR : Option Value → kM → Prop) : Array Value → State → Outcome → State → Prop := fun _ st oc t => (∃ (v : Option Value) (M' : kM), oc = .returned v ∧ QR v M' ∧ kRep g M' t.heap) ∧ va_F (kA g) st t
def kXC (g : kG) (QX : String → kM → Prop) : String → State → State → Prop := fun E st t => (∃ M' : kM, QX E M' ∧ kRep g (snx M' t.heap.size) t.heap) ∧ va_F (kA g) st t
def kRm (d K N : Nat) : Room := { frames := d, cells := K, slots := N, locals := 64 * d }
def kCd (nm : MethodName) (cc : ByteArray) (mL : Nat) (rt : Option FieldType) (hh : List (Nat × Nat × Nat × Nat)) : Cond := match hh with
  | [] => .code nm cc mL rt
  | _ => .codeWith nm cc mL rt hh
/-- A CONTRACT: called with as in memory M the method returns v with QR v M', or throws E with QX E M'; d frames, at most K new cells of N places -/
def kC (l : Launch) (g : kG) (nm : MethodName) (cc : ByteArray) (mL : Nat) (rt : Option FieldType) (hh : List (Nat × Nat × Nat × Nat)) (d K N : Nat) (as : List Value) (M : kM) (QR : Option Value → kM → Prop) (QX : String → kM → Prop) : Prop :=
  vx_Met l nm (kCd nm cc mL rt hh :: kTb) (kRm d K N) (va_Pc as (kPre g M)) (kQc g QR) (kXC g QX) K N (kA g)
/-- what holds all through one activation -/
def kAct (l : Launch) (g : kG) (nm : MethodName) (cc : ByteArray) (mL : Nat) (rt : Option FieldType) (hh : List (Nat × Nat × Nat × Nat)) (p : Program) (s : State) (m : MethodId) (args : Array Value) (meth : Method) (c : Code) : Prop :=
  p.tables.exec = Jvm.exec ∧ c.code = cc ∧ c.maxLocals = mL ∧ meth.sig.returnType = rt ∧ meth.locks = false ∧ s.vm.findClass nm.cls = some m.cls ∧ (∀ w ∈ kTb, w.before args s = true) ∧ kK g s ∧ kSt g s s.heap ∧ c.exceptionTable.toList = tableOf hh ∧ l.stackTraces = false ∧ meth.name = nm.name ∧ gLo g ≤ s.heap.size
/-- THE WALK: at pc with locals lv, stack st, memory M, k cells of n places left, the activation comes to its end with QR or QX -/
def kT (l : Launch) (g : kG) (nm : MethodName) (cc : ByteArray) (mL : Nat) (rt : Option FieldType) (hh : List (Nat × Nat × Nat × Nat)) (d K N : Nat) (QR : Option Value → kM → Prop) (QX : String → kM → Prop) (pc : Nat) (lv : List (Nat × Value)) (st : List Value) (M : kM) (k n : Nat) : Prop :=
  ∀ (p : Program) (e : Env) (s : State) (m : MethodId) (args : Array Value) (below : List Frame) (meth : Method) (c : Code), kAct l g nm cc mL rt hh p s m args meth c →
  ∀ (H : Heap) (locs : List Loc) (cells slots : Nat) (ls : Array Slot), kRep g M H → va_S (kA g) s.heap H locs → lv_has ls mL lv → cells + k ≤ K → slots + n ≤ N →
    W p l e (kRm d K N) s m args below meth c H locs cells slots (vx_MQ below (kQc g QR) (kXC g QX) args s K N (kA g)) (F0 m pc ls st)
/-- the same with an exception of class E thrown at pc -/
def kX (l : Launch) (g : kG) (nm : MethodName) (cc : ByteArray) (mL : Nat) (rt : Option FieldType) (hh : List (Nat × Nat × Nat × Nat)) (d K N : Nat) (QR : Option Value → kM → Prop) (QX : String → kM → Prop) (pc : Nat) (lv : List (Nat × Value)) (st : List Value) (M : kM) (k n : Nat) (E : String) : Prop :=
  ∀ (p : Program) (e : Env) (s : State) (m : MethodId) (args : Array Value) (below : List Frame) (meth : Method) (c : Code), kAct l g nm cc mL rt hh p s m args meth c →
  ∀ (H : Heap) (locs : List Loc) (cells slots : Nat) (ls : Array Slot) (q : Addr) (ce : Cell), kRep g (snx M H.size) H → va_S (kA g) s.heap H locs → lv_has ls mL lv → cells + k ≤ K → slots + n ≤ N → H[q]? = some ce → ce.vm = .none → s.vm.findClass E = some ce.cls →
    vx_W p l e (kRm d K N) s m args below meth c H locs cells slots (vx_MQ below (kQc g QR) (kXC g QX) args s K N (kA g)) (F0 m pc ls st) q
def kGet (lv : List (Nat × Value)) (i : Nat) : Option Value := (lv.find? (fun q => q.1 == i)).map (fun q => q.2)
theorem kGet_at {ls : Array Slot} {nL : Nat} {lv : List (Nat × Value)} (h : lv_has ls nL lv) {i : Nat} {v : Value} (hk : kGet lv i = some v) : ls[i]? = some (.val v) := by
  unfold kGet at hk
  obtain ⟨q, h1, h2⟩ := Option.map_eq_some_iff.mp hk
  have h3 := List.find?_some h1
  have h4 := h.2.2 q (List.mem_of_find?_eq_some h1)
  have h5 : q.1 = i := by simpa using h3
  rw [← h5, ← h2]
  exact h4
def kSet (lv : List (Nat × Value)) (i : Nat) (v : Value) : List (Nat × Value) := (i, v) :: lv.filter (fun q => !(q.1 == i) && !(q.1 + 1 == i && q.2.category == 2))

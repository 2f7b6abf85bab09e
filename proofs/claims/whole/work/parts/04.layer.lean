/-! ===== A MEMORY OF NUMBERED THINGS: tg the kind of the thing at an address (0 none, c + 1 an object of kCl's class c, 101 + t an array of kAty t, 111 and 112 the two static empty arrays), ln an array's length, fi fl fr an object's fields, ai al ar an array's places ===== -/
abbrev kM : Type := (Nat → Nat) × (Nat → Nat) × (Nat → Nat → Int32) × (Nat → Nat → Int64) × (Nat → Nat → Option Nat) × (Nat → Nat → Int32) × (Nat → Nat → Int64) × (Nat → Nat → Option Nat)
def tg (M : kM) : Nat → Nat := M.1
def ln (M : kM) : Nat → Nat := M.2.1
def fi (M : kM) : Nat → Nat → Int32 := M.2.2.1
def fl (M : kM) : Nat → Nat → Int64 := M.2.2.2.1
def fr (M : kM) : Nat → Nat → Option Nat := M.2.2.2.2.1
def ai (M : kM) : Nat → Nat → Int32 := M.2.2.2.2.2.1
def al (M : kM) : Nat → Nat → Int64 := M.2.2.2.2.2.2.1
def ar (M : kM) : Nat → Nat → Option Nat := M.2.2.2.2.2.2.2
def up2 {α : Type} (f : Nat → Nat → α) (a k : Nat) (v : α) : Nat → Nat → α := fun b j => if b = a ∧ j = k then v else f b j
def zr2 {α : Type} (f : Nat → Nat → α) (a : Nat) (h : Nat → α) : Nat → Nat → α := fun b j => if b = a then h j else f b j
def sfi (M : kM) (a k : Nat) (v : Int32) : kM := (tg M, ln M, up2 (fi M) a k v, fl M, fr M, ai M, al M, ar M)
def sfl (M : kM) (a k : Nat) (v : Int64) : kM := (tg M, ln M, fi M, up2 (fl M) a k v, fr M, ai M, al M, ar M)
def sfr (M : kM) (a k : Nat) (v : Option Nat) : kM := (tg M, ln M, fi M, fl M, up2 (fr M) a k v, ai M, al M, ar M)
def sai (M : kM) (a k : Nat) (v : Int32) : kM := (tg M, ln M, fi M, fl M, fr M, up2 (ai M) a k v, al M, ar M)
def sal (M : kM) (a k : Nat) (v : Int64) : kM := (tg M, ln M, fi M, fl M, fr M, ai M, up2 (al M) a k v, ar M)
def sar (M : kM) (a k : Nat) (v : Option Nat) : kM := (tg M, ln M, fi M, fl M, fr M, ai M, al M, up2 (ar M) a k v)
def wai (M : kM) (a : Nat) (h : Nat → Int32) : kM := (tg M, ln M, fi M, fl M, fr M, zr2 (ai M) a h, al M, ar M)
def wal (M : kM) (a : Nat) (h : Nat → Int64) : kM := (tg M, ln M, fi M, fl M, fr M, ai M, zr2 (al M) a h, ar M)
def nwO (M : kM) (q c : Nat) : kM := (va_up (tg M) q (c + 1), ln M, zr2 (fi M) q (fun _ => 0), zr2 (fl M) q (fun _ => 0), zr2 (fr M) q (fun _ => none), ai M, al M, ar M)
def nwA (M : kM) (q t n : Nat) : kM := (va_up (tg M) q (101 + t), va_up (ln M) q n, fi M, fl M, fr M, zr2 (ai M) q (fun _ => 0), zr2 (al M) q (fun _ => 0), zr2 (ar M) q (fun _ => none))
def kFV (M : kM) (a c k : Nat) : Value := match kTyp c k with
  | .int => .int (fi M a k)
  | .boolean => .int (fi M a k)
  | .long => .long (fl M a k)
  | _ => va_rf (fr M a k)
def kAty : Nat → FieldType := fun t => match t with
  | 0 => .int
  | 1 => .long
  | 2 => .byte
  | 3 => .boolean
  | 4 => .object RX8
  | 5 => .object RX4
  | 6 => .object RX5
  | 7 => .object RX7
  | _ => .array .int
def kAV (M : kM) (a t : Nat) : Nat → Value := fun j => match t with
  | 0 => .int (ai M a j)
  | 1 => .long (al M a j)
  | 2 => .int (ai M a j)
  | 3 => .int (ai M a j)
  | _ => va_rf (ar M a j)
def kFit (M : kM) (a t : Nat) : Prop := (t = 2 → ∀ j, fits .byte (.int (ai M a j)) = true) ∧ (t = 3 → ∀ j, fits .boolean (.int (ai M a j)) = true)
/-- what is fixed through a run: where the new cells begin, classes and slots, the arrays' classes, the two static empty arrays, the script -/
abbrev kG : Type := Nat × va_G × (Nat → ClassId) × Nat × Nat × Nat × Nat × (Nat → Int32)
def gLo (g : kG) : Nat := g.1
def gD (g : kG) : va_G := g.2.1
def gA (g : kG) : Nat → ClassId := g.2.2.1
def gN (g : kG) : Nat := g.2.2.2.1
def gW (g : kG) : Nat := g.2.2.2.2.1
def gS (g : kG) : Nat := g.2.2.2.2.2.1
def gL (g : kG) : Nat := g.2.2.2.2.2.2.1
def gX (g : kG) : Nat → Int32 := g.2.2.2.2.2.2.2
def kA (g : kG) : Nat → Prop := fun q => gLo g ≤ q
def kOK (g : kG) (M : kM) (H : Heap) (a : Nat) : Prop :=
  tg M a = 0 ∨ (∃ (c : Nat) (r : vw_C), tg M a = c + 1 ∧ c < 50 ∧ kCl[c]? = some r ∧ gLo g ≤ a ∧ t_OB a ((gD g).1 c) r.2.2 ((gD g).2 c) H (kFV M a c)) ∨
  (∃ t : Nat, tg M a = 101 + t ∧ t < 9 ∧ gLo g ≤ a ∧ H[a]? = some (arrV (gA g t) (ln M a) (kAV M a t)) ∧ kFit M a t) ∨
  (tg M a = 111 ∧ a = gN g ∧ ln M a = 0) ∨ (tg M a = 112 ∧ a = gW g ∧ ln M a = 0)
def kRep (g : kG) (M : kM) (H : Heap) : Prop := ∀ a : Nat, kOK g M H a
theorem kRep.obj {g : kG} {M : kM} {H : Heap} (h : kRep g M H) {a c : Nat} (ht : tg M a = c + 1) (hc : c < 50) : ∃ r : vw_C, kCl[c]? = some r ∧ gLo g ≤ a ∧ t_OB a ((gD g).1 c) r.2.2 ((gD g).2 c) H (kFV M a c) := by
  rcases h a with h | ⟨c', r, h1, -, h3, h4, h5⟩ | ⟨t, h1, -⟩ | ⟨h1, -⟩ | ⟨h1, -⟩
  · omega
  · have e : c' = c := by omega
    subst e
    exact ⟨r, h3, h4, h5⟩
  · omega
  · omega
  · omega
theorem kRep.arr {g : kG} {M : kM} {H : Heap} (h : kRep g M H) {a t : Nat} (ht : tg M a = 101 + t) (hc : t < 9) : gLo g ≤ a ∧ H[a]? = some (arrV (gA g t) (ln M a) (kAV M a t)) ∧ kFit M a t := by
  rcases h a with h | ⟨c', r, h1, h2, -⟩ | ⟨t', h1, -, h3, h4, h5⟩ | ⟨h1, -⟩ | ⟨h1, -⟩
  · omega
  · omega
  · have e : t' = t := by omega
    subst e
    exact ⟨h3, h4, h5⟩
  · omega
  · omega
/-- two memories are alike at an address -/
def kLike (M M' : kM) (b : Nat) : Prop := tg M' b = tg M b ∧ ln M' b = ln M b ∧ (∀ c, kFV M' b c = kFV M b c) ∧ ∀ t, kAV M' b t = kAV M b t ∧ (kFit M b t → kFit M' b t)
theorem kOK.like {g : kG} {M M' : kM} {H H' : Heap} {b : Nat} (h : kOK g M H b) (hl : kLike M M' b) (hq : H'[b]? = H[b]?) : kOK g M' H' b := by
  obtain ⟨l1, l2, l3, l4⟩ := hl
  rcases h with h | ⟨c, r, h1, h2, h3, h4, h5⟩ | ⟨t, h1, h2, h3, h4, h5⟩ | ⟨h1, h2, h3⟩ | ⟨h1, h2, h3⟩
  · exact Or.inl (l1.trans h)
  · exact Or.inr (Or.inl ⟨c, r, l1.trans h1, h2, h3, h4, by rw [l3 c]; exact h5.kept hq⟩)
  · exact Or.inr (Or.inr (Or.inl ⟨t, l1.trans h1, h2, h3, by rw [l2, (l4 t).1, hq]; exact h4, (l4 t).2 h5⟩))
  · exact Or.inr (Or.inr (Or.inr (Or.inl ⟨l1.trans h1, h2, l2.trans h3⟩)))
  · exact Or.inr (Or.inr (Or.inr (Or.inr ⟨l1.trans h1, h2, l2.trans h3⟩)))
theorem kRep.upd {g : kG} {M M' : kM} {H H' : Heap} {a : Nat} (h : kRep g M H) (hl : ∀ b, b ≠ a → kLike M M' b) (hq : ∀ q : Nat, q ≠ a → H'[q]? = H[q]?) (ha : kOK g M' H' a) : kRep g M' H' := by
  intro b
  by_cases e : b = a
  · subst e; exact ha
  · exact (h b).like (hl b e) (hq b e)
theorem kRep.same {g : kG} {M : kM} {H H' : Heap} (h : kRep g M H) (hq : ∀ q : Nat, tg M q ≠ 0 → gLo g ≤ q → H'[q]? = H[q]?) : kRep g M H' := by
  intro b
  rcases h b with h | ⟨c, r, h1, h2, h3, h4, h5⟩ | ⟨t, h1, h2, h3, h4, h5⟩ | h | h
  · exact Or.inl h
  · exact Or.inr (Or.inl ⟨c, r, h1, h2, h3, h4, h5.kept (hq b (by omega) h4)⟩)
  · exact Or.inr (Or.inr (Or.inl ⟨t, h1, h2, h3, by rw [hq b (by omega) h3]; exact h4, h5⟩))
  · exact Or.inr (Or.inr (Or.inr (Or.inl h)))
  · exact Or.inr (Or.inr (Or.inr (Or.inr h)))
/-- own things lie in the heap -/
theorem kRep.lt {g : kG} {M : kM} {H : Heap} (h : kRep g M H) {a : Nat} (h0 : tg M a ≠ 0) (h1 : tg M a ≠ 111) (h2 : tg M a ≠ 112) : a < H.size := by
  rcases h a with h | ⟨c, r, -, -, -, -, cell, q, -⟩ | ⟨t, -, -, -, q, -⟩ | ⟨h, -⟩ | ⟨h, -⟩
  · exact absurd h h0
  · exact (Array.getElem?_eq_some_iff.mp q).1
  · exact (Array.getElem?_eq_some_iff.mp q).1
  · exact absurd h h1
  · exact absurd h h2
/-- the words that the tables don't keep by themselves; the texts of the throws -/

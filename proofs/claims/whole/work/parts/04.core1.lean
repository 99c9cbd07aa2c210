/-! the cells, in the order in which the constructors make them: an object of class ci, or an array (kind, length) -/
def layL : List (Nat ⊕ (Nat × Nat)) := [.inl 11, .inr (2, 900), .inl 6, .inl 8, .inr (0, 901), .inr (0, 901), .inr (0, 901), .inl 3, .inr (0, 8), .inr (0, 4), .inl 4, .inr (0, 900), .inl 4, .inr (0, 900), .inl 5, .inr (0, 4), .inr (0, 4), .inr (0, 4), .inl 0, .inl 10, .inl 3, .inr (0, 8), .inr (0, 4), .inl 4, .inr (0, 900), .inl 4, .inr (0, 900), .inl 5, .inr (0, 4), .inr (0, 4), .inr (0, 4), .inr (4, 10), .inl 5, .inr (0, 4), .inr (0, 4), .inr (0, 4), .inr (0, 8), .inr (1, 64), .inl 5, .inr (0, 4), .inr (0, 4), .inr (0, 4), .inl 5, .inr (0, 4), .inr (0, 4), .inr (0, 4), .inl 5, .inr (0, 4), .inr (0, 4), .inr (0, 4), .inl 5, .inr (0, 4), .inr (0, 4), .inr (0, 4), .inl 5, .inr (0, 4), .inr (0, 4), .inr (0, 4), .inl 5, .inr (0, 4), .inr (0, 4), .inr (0, 4), .inl 5, .inr (0, 4), .inr (0, 4), .inr (0, 4), .inl 5, .inr (0, 4), .inr (0, 4), .inr (0, 4), .inl 5, .inr (0, 4), .inr (0, 4), .inr (0, 4), .inl 5, .inr (0, 4), .inr (0, 4), .inr (0, 4), .inr (0, 41), .inr (0, 41), .inr (0, 41), .inr (0, 225), .inr (0, 1025), .inr (0, 1025), .inr (0, 25), .inr (0, 41), .inr (5, 3), .inr (3, 3), .inl 9, .inr (6, 4), .inr (1, 30), .inr (1, 30), .inr (1, 30), .inr (1, 30), .inr (0, 4), .inr (0, 4), .inl 7, .inr (1, 625), .inr (1, 625), .inr (0, 5), .inl 1, .inr (0, 4), .inr (0, 400), .inr (0, 400), .inr (0, 25), .inl 2, .inr (0, 256), .inr (0, 256), .inr (0, 4), .inr (0, 8), .inl 10, .inl 3, .inr (0, 8), .inr (0, 4), .inl 4, .inr (0, 900), .inl 4, .inr (0, 900), .inl 5, .inr (0, 4), .inr (0, 4), .inr (0, 4), .inr (4, 10), .inl 5, .inr (0, 4), .inr (0, 4), .inr (0, 4), .inr (0, 8), .inr (1, 64), .inl 5, .inr (0, 4), .inr (0, 4), .inr (0, 4), .inl 5, .inr (0, 4), .inr (0, 4), .inr (0, 4), .inl 5, .inr (0, 4), .inr (0, 4), .inr (0, 4), .inl 5, .inr (0, 4), .inr (0, 4), .inr (0, 4), .inl 5, .inr (0, 4), .inr (0, 4), .inr (0, 4), .inl 5, .inr (0, 4), .inr (0, 4), .inr (0, 4), .inl 5, .inr (0, 4), .inr (0, 4), .inr (0, 4), .inl 5, .inr (0, 4), .inr (0, 4), .inr (0, 4), .inl 5, .inr (0, 4), .inr (0, 4), .inr (0, 4), .inl 5, .inr (0, 4), .inr (0, 4), .inr (0, 4), .inl 10, .inl 3, .inr (0, 8), .inr (0, 4), .inl 4, .inr (0, 900), .inl 4, .inr (0, 900), .inl 5, .inr (0, 4), .inr (0, 4), .inr (0, 4), .inr (4, 10), .inl 5, .inr (0, 4), .inr (0, 4), .inr (0, 4), .inr (0, 8), .inr (1, 64), .inl 5, .inr (0, 4), .inr (0, 4), .inr (0, 4), .inl 5, .inr (0, 4), .inr (0, 4), .inr (0, 4), .inl 5, .inr (0, 4), .inr (0, 4), .inr (0, 4), .inl 5, .inr (0, 4), .inr (0, 4), .inr (0, 4), .inl 5, .inr (0, 4), .inr (0, 4), .inr (0, 4), .inl 5, .inr (0, 4), .inr (0, 4), .inr (0, 4), .inl 5, .inr (0, 4), .inr (0, 4), .inr (0, 4), .inl 5, .inr (0, 4), .inr (0, 4), .inr (0, 4), .inl 5, .inr (0, 4), .inr (0, 4), .inr (0, 4), .inl 5, .inr (0, 4), .inr (0, 4), .inr (0, 4), .inl 10, .inl 3, .inr (0, 8), .inr (0, 4), .inl 4, .inr (0, 900), .inl 4, .inr (0, 900), .inl 5, .inr (0, 4), .inr (0, 4), .inr (0, 4), .inr (4, 10), .inl 5, .inr (0, 4), .inr (0, 4), .inr (0, 4), .inr (0, 8), .inr (1, 64), .inl 5, .inr (0, 4), .inr (0, 4), .inr (0, 4), .inl 5, .inr (0, 4), .inr (0, 4), .inr (0, 4), .inl 5, .inr (0, 4), .inr (0, 4), .inr (0, 4), .inl 5, .inr (0, 4), .inr (0, 4), .inr (0, 4), .inl 5, .inr (0, 4), .inr (0, 4), .inr (0, 4), .inl 5, .inr (0, 4), .inr (0, 4), .inr (0, 4), .inl 5, .inr (0, 4), .inr (0, 4), .inr (0, 4), .inl 5, .inr (0, 4), .inr (0, 4), .inr (0, 4), .inl 5, .inr (0, 4), .inr (0, 4), .inr (0, 4), .inl 5, .inr (0, 4), .inr (0, 4), .inr (0, 4), .inl 12, .inr (0, 2005), .inr (0, 2005), .inr (0, 6015), .inr (3, 3), .inr (0, 900), .inr (0, 64), .inr (0, 6), .inr (0, 16), .inr (0, 41), .inr (3, 50), .inr (3, 25625), .inr (0, 10250), .inr (0, 625), .inr (3, 25625), .inr (0, 41), .inr (1, 625), .inr (1, 625), .inr (3, 10000), .inr (3, 10000), .inr (0, 8), .inr (0, 8), .inr (0, 4), .inr (0, 4), .inr (1, 120), .inr (1, 1)]
/-- the fields of a class: 0 an int, 1 a long, 2 the cell so far behind this one, 3 some cell -/
def fkL (ci : Nat) : List (Nat × Nat) := match ci with
  | 0 => [(2, 1), (2, 60), (2, 61), (2, 62), (2, 63), (2, 64), (2, 65), (2, 66), (2, 67), (0, 0), (0, 0), (0, 0), (0, 0), (0, 0), (0, 0), (0, 0), (0, 0), (0, 0)]
  | 1 => [(2, 1), (0, 0), (3, 0), (3, 0), (2, 4), (0, 0)]
  | 2 => [(2, 1), (2, 2), (2, 3), (2, 4)]
  | 3 => [(0, 0), (0, 0), (0, 0), (0, 0), (0, 0), (0, 0), (2, 1), (2, 2), (2, 3), (2, 5)]
  | 4 => [(2, 1), (0, 0), (0, 0), (0, 0), (0, 0), (0, 0), (0, 0)]
  | 5 => [(0, 0), (0, 0), (0, 0), (0, 0), (2, 1), (2, 2), (2, 3)]
  | 6 => [(2, 1), (2, 5), (2, 12), (0, 0), (0, 0), (0, 0), (0, 0), (0, 0), (3, 0)]
  | 7 => [(3, 0), (3, 0), (2, 3), (0, 0)]
  | 8 => [(2, 1), (2, 2), (2, 3), (0, 0)]
  | 9 => [(2, 1), (2, 6), (2, 7)]
  | 10 => [(2, 1), (2, 8), (0, 0), (0, 0), (0, 0), (2, 12), (2, 13), (2, 17), (2, 18)]
  | 11 => [(2, 1), (0, 0), (0, 0), (0, 0), (2, 2), (2, 18), (2, 19), (2, 86), (2, 87), (2, 88), (2, 96), (2, 100), (2, 105)]
  | 12 => [(2, 1), (2, 2), (2, 3), (2, 4), (0, 0), (2, 5), (0, 0), (0, 0), (0, 0), (0, 0), (0, 0), (0, 0), (0, 0), (0, 0), (0, 0), (0, 0), (0, 0), (0, 0), (0, 0), (2, 6), (2, 7), (2, 8), (0, 0), (2, 9), (2, 10), (2, 11), (2, 12), (2, 13), (0, 0), (2, 14), (2, 15), (2, 16), (2, 17), (2, 18), (2, 19), (2, 20), (2, 21), (0, 0), (0, 0), (2, 22), (2, 23), (2, 24)]
  | _ => []
/-- arrays of references: how far behind it the first is, and how far the next behind that -/
def rTab (t : Nat) : Nat × Nat := match t with
  | 4 => (7, 4)
  | 5 => (24, 59)
  | 6 => (1, 1)
  | _ => (0, 0)
def strT : List (String × Nat × String) := [("RopeWeds$Tokens", 43, ";:+-*()[]=<>"), ("RopeWeds$Tokens", 51, "rope knots rain hour pair x y who island rock house at and length may for or not "), ("RopeWedsModel", 171, "or"), ("RopeWedsModel", 179, "and"), ("RopeWedsModel", 181, "not"), ("RopeWedsModel", 201, "rope"), ("RopeWedsModel", 203, "knots"), ("RopeWedsModel", 205, "rain"), ("RopeWedsModel", 207, "hour"), ("RopeWedsModel", 209, "pair"), ("RopeWedsModel", 211, "x"), ("RopeWedsModel", 213, "y"), ("RopeWedsModel", 215, "who"), ("RopeWedsModel", 246, "at"), ("RopeWedsModel", 251, "for"), ("RopeWedsModel", 253, "rock"), ("RopeWedsModel", 258, "house"), ("RopeWedsModel", 269, "length"), ("RopeWedsModel", 274, "may"), ("RopeWedsModel", 282, "island")]
def lenT : List Nat := [12, 81, 2, 3, 3, 4, 5, 4, 4, 4, 1, 1, 3, 2, 3, 4, 5, 6, 3, 6]
def bytT : List (List Int32) := [[59, 58, 43, 45, 42, 40, 41, 91, 93, 61, 60, 62], [114, 111, 112, 101, 32, 107, 110, 111, 116, 115, 32, 114, 97, 105, 110, 32, 104, 111, 117, 114, 32, 112, 97, 105, 114, 32, 120, 32, 121, 32, 119, 104, 111, 32, 105, 115, 108, 97, 110, 100, 32, 114, 111, 99, 107, 32, 104, 111, 117, 115, 101, 32, 97, 116, 32, 97, 110, 100, 32, 108, 101, 110, 103, 116, 104, 32, 109, 97, 121, 32, 102, 111, 114, 32, 111, 114, 32, 110, 111, 116, 32], [111, 114], [97, 110, 100], [110, 111, 116], [114, 111, 112, 101], [107, 110, 111, 116, 115], [114, 97, 105, 110], [104, 111, 117, 114], [112, 97, 105, 114], [120], [121], [119, 104, 111], [97, 116], [102, 111, 114], [114, 111, 99, 107], [104, 111, 117, 115, 101], [108, 101, 110, 103, 116, 104], [109, 97, 121], [105, 115, 108, 97, 110, 100]]
def exT : List (String × Nat × String) := [("RopeWeds", 87, "not so many bytes on the tape"), ("RopeWeds", 166, "what is 0 to 6"), ("RopeWeds", 173, "no such house"), ("RopeWeds", 185, "it is a rock"), ("RopeWeds", 219, "not so many deeds can be undone"), ("RopeWeds", 283, "hours are told from 1 on"), ("RopeWeds", 327, "what is 0 or 10 to 17"), ("RopeWeds", 366, "the tray has no such place"), ("RopeWeds", 385, "no image was made"), ("RopeWeds", 401, "a number is out of its bounds"), ("RopeWeds", 406, "no such place"), ("RopeWeds", 408, "no such pair"), ("RopeWeds", 410, "no such tray"), ("RopeWeds", 412, "the tray is missing"), ("RopeWeds", 414, "no such image"), ("RopeWeds", 418, "no such errand"), ("RopeWeds", 427, "no place and not NONE")]
def exN : List String := ["java/lang/IllegalArgumentException", "java/lang/IllegalStateException", "java/util/NoSuchElementException", "java/lang/IndexOutOfBoundsException"]
def slen (k : Nat) : Int := ((lenT.getD k 0 : Nat) : Int)
def schr (k : Nat) (i : Int) : Int := ((bytT.getD k []).getD i.toNat 0).toInt
/-! ===== CORE 1: whole numbers for the machine's words, a memory of whole numbers ===== -/
abbrev SV : Type := Int ⊕ Int ⊕ Nat ⊕ Nat ⊕ Nat
abbrev sI (x : Int) : SV := .inl x
abbrev sL (x : Int) : SV := .inr (.inl x)
abbrev sR (o : Nat) : SV := .inr (.inr (.inl o))
abbrev sT (k : Nat) : SV := .inr (.inr (.inr (.inl k)))
abbrev sS : SV := .inr (.inr (.inr (.inr 0)))
abbrev sQ : SV := .inr (.inr (.inr (.inr 1)))
abbrev Mem : Type := Nat → Int → Int
def up (m : Mem) (o : Nat) (i v : Int) : Mem := fun o' i' => if o' = o ∧ i' = i then v else m o' i'
/-- base of the cells; classes' ids and slots; arrays' classes; the script's cell; strings' cells -/
abbrev GC : Type := Nat × va_G × (Nat → ClassId) × Nat × (Nat → Nat)
def vrel (g : GC) (a : SV) (v : Value) : Prop := match a with
  | .inl x => ∃ i : Int32, v = .int i ∧ i.toInt = x
  | .inr (.inl x) => ∃ i : Int64, v = .long i ∧ i.toInt = x
  | .inr (.inr (.inl o)) => v = .ref (g.1 + o)
  | .inr (.inr (.inr (.inl k))) => v = .ref (g.2.2.2.2 k)
  | .inr (.inr (.inr (.inr k))) => if k = 0 then v = .ref g.2.2.2.1 else v = .null ∨ ∃ a, v = .ref a
def isL (a : SV) : Bool := match a with
  | .inr (.inl _) => true
  | _ => false
theorem vrel_cat {g : GC} {a : SV} {v : Value} (h : vrel g a v) : (v.category == 2) = isL a := by
  match a, h with
  | .inl x, ⟨i, h, _⟩ => subst h; rfl
  | .inr (.inl x), ⟨i, h, _⟩ => subst h; rfl
  | .inr (.inr (.inl o)), h => cases h; rfl
  | .inr (.inr (.inr (.inl k))), h => cases h; rfl
  | .inr (.inr (.inr (.inr k))), h =>
    replace h : if k = 0 then v = .ref g.2.2.2.1 else v = .null ∨ ∃ a, v = .ref a := h
    split at h
    · rw [h]; rfl
    · rcases h with rfl | ⟨a, rfl⟩ <;> rfl
def srel (g : GC) : List SV → List Value → Prop
  | [], [] => True
  | a :: l, v :: l' => vrel g a v ∧ srel g l l'
  | _, _ => False
def lrel (g : GC) : List (Nat × SV) → List (Nat × Value) → Prop
  | [], [] => True
  | a :: l, v :: l' => (a.1 = v.1 ∧ vrel g a.2 v.2) ∧ lrel g l l'
  | _, _ => False
theorem srel_cons {g : GC} {a : SV} {l : List SV} {vs : List Value} (h : srel g (a :: l) vs) : ∃ v vs', vs = v :: vs' ∧ vrel g a v ∧ srel g l vs' := by
  match vs, h with
  | v :: vs', h => exact ⟨v, vs', rfl, h.1, h.2⟩
theorem srel_nil {g : GC} {vs : List Value} (h : srel g [] vs) : vs = [] := by
  match vs, h with
  | [], _ => rfl
theorem srel_app {g : GC} : ∀ {l l' : List SV} {vs : List Value}, srel g (l ++ l') vs → ∃ a b, vs = a ++ b ∧ srel g l a ∧ srel g l' b
  | [], l', vs, h => ⟨[], vs, rfl, trivial, h⟩
  | x :: l, l', vs, h => by
    obtain ⟨v, vs', rfl, h1, h2⟩ := srel_cons h
    obtain ⟨a, b, rfl, h3, h4⟩ := srel_app h2
    exact ⟨v :: a, b, rfl, ⟨h1, h3⟩, h4⟩
theorem srel_app' {g : GC} : ∀ {l l' : List SV} {a b : List Value}, srel g l a → srel g l' b → srel g (l ++ l') (a ++ b)
  | [], _, [], _, _, h => h
  | _ :: _, _, _ :: _, _, h1, h2 => ⟨h1.1, srel_app' h1.2 h2⟩
theorem srel_rev {g : GC} : ∀ {l : List SV} {vs : List Value}, srel g l vs → srel g l.reverse vs.reverse
  | [], [], _ => trivial
  | x :: l, v :: vs, h => by
    rw [List.reverse_cons, List.reverse_cons]
    exact srel_app' (srel_rev h.2) ⟨h.1, trivial⟩
theorem srel_len {g : GC} : ∀ {l : List SV} {vs : List Value}, srel g l vs → vs.length = l.length
  | [], [], _ => rfl
  | _ :: _, _ :: _, h => by rw [List.length_cons, List.length_cons, srel_len h.2]
theorem lrel_at {g : GC} : ∀ {ls : List (Nat × SV)} {lv : List (Nat × Value)} {k : Nat} {a : SV}, lrel g ls lv → ls.lookup k = some a → ∃ (j : Nat) (v : Value), lv[j]? = some (k, v) ∧ vrel g a v
  | [], _, _, _, _, hk => by cases hk
  | q :: l, [], _, _, h, _ => h.elim
  | q :: l, w :: lv, k, a, h, hk => by
    rw [List.lookup_cons] at hk
    cases hb : k == q.1 with
    | true =>
      rw [hb] at hk
      cases hk
      have hq : k = q.1 := by simpa using hb
      exact ⟨0, w.2, by rw [List.getElem?_cons_zero, hq, h.1.1], h.1.2⟩
    | false =>
      rw [hb] at hk
      obtain ⟨j, v, h1, h2⟩ := lrel_at h.2 hk
      exact ⟨j + 1, v, by rw [List.getElem?_cons_succ]; exact h1, h2⟩
theorem lrel_filter {g : GC} {f : Nat × SV → Bool} {f' : Nat × Value → Bool} (hf : ∀ a b, a.1 = b.1 → vrel g a.2 b.2 → f a = f' b) : ∀ {ls : List (Nat × SV)} {lv : List (Nat × Value)}, lrel g ls lv → lrel g (ls.filter f) (lv.filter f')
  | [], [], _ => trivial
  | q :: l, w :: lv, h => by
    have hq := hf q w h.1.1 h.1.2
    have ih := lrel_filter hf h.2
    rw [List.filter_cons, List.filter_cons]
    by_cases hb : f q = true
    · rw [if_pos hb, if_pos (by rw [← hq]; exact hb)]
      exact ⟨h.1, ih⟩
    · rw [if_neg hb, if_neg (by rw [← hq]; exact hb)]
      exact ih
/-- some of the locals: each by its number -/
def lsub (ls : List (Nat × SV)) : List (Nat × SV) → Prop
  | [] => True
  | q :: l => ls.lookup q.1 = some q.2 ∧ lsub ls l
theorem lrel_sub {g : GC} {ls : List (Nat × SV)} {lv : List (Nat × Value)} (h : lrel g ls lv) : ∀ {ls' : List (Nat × SV)}, lsub ls ls' → ∃ lv', lrel g ls' lv' ∧ ∀ q ∈ lv', q ∈ lv
  | [], _ => ⟨[], trivial, fun _ h => by cases h⟩
  | q :: l, hs => by
    obtain ⟨lv', h1, h2⟩ := lrel_sub h hs.2
    obtain ⟨j, v, h3, h4⟩ := lrel_at h hs.1
    refine ⟨(q.1, v) :: lv', ⟨⟨rfl, h4⟩, h1⟩, fun w hw => ?_⟩
    rcases List.mem_cons.mp hw with rfl | hw
    · exact List.mem_of_getElem? h3
    · exact h2 w hw
def slv : Nat → List SV → List (Nat × SV)
  | _, [] => []
  | i, a :: l => (i, a) :: slv (if isL a = true then i + 2 else i + 1) l
theorem slv_rel {g : GC} : ∀ {l : List SV} {vs : List Value} (i : Nat), srel g l vs → lrel g (slv i l) (lv_args i vs)
  | [], [], _, _ => trivial
  | a :: l, v :: vs, i, h => by
    refine ⟨⟨rfl, h.1⟩, ?_⟩
    have hc := vrel_cat h.1
    have : (if v.category = 2 then i + 2 else i + 1) = (if isL a = true then i + 2 else i + 1) := by
      by_cases hb : isL a = true
      · rw [hb] at hc
        rw [if_pos hb, if_pos (by simpa using hc)]
      · rw [if_neg hb, if_neg (fun q => hb (by rw [← hc]; simpa using q))]
    rw [this]
    exact slv_rel _ h.2
/-! the words -/
def w32 (x : Int) : Int := x.bmod 4294967296
def w64 (x : Int) : Int := x.bmod 18446744073709551616
def w8 (x : Int) : Int := x.bmod 256
def w16 (x : Int) : Int := x.bmod 65536
def iand (x y : Int) : Int := (Int32.ofInt x &&& Int32.ofInt y).toInt
def ior (x y : Int) : Int := (Int32.ofInt x ||| Int32.ofInt y).toInt
def ixor (x y : Int) : Int := (Int32.ofInt x ^^^ Int32.ofInt y).toInt
def ishl (x y : Int) : Int := (Int32.ofInt x <<< (Int32.ofInt y &&& 31)).toInt
def ishr (x y : Int) : Int := (Int32.ofInt x >>> (Int32.ofInt y &&& 31)).toInt
def iushr (x y : Int) : Int := (((Int32.ofInt x).toUInt32 >>> ((Int32.ofInt y).toUInt32 &&& Int32.toUInt32 31)).toInt32).toInt
def land (x y : Int) : Int := (Int64.ofInt x &&& Int64.ofInt y).toInt
def lor (x y : Int) : Int := (Int64.ofInt x ||| Int64.ofInt y).toInt
def lshl (x y : Int) : Int := (Int64.ofInt x <<< ((Int32.ofInt y).toInt64 &&& 63)).toInt
def lshr (x y : Int) : Int := (Int64.ofInt x >>> ((Int32.ofInt y).toInt64 &&& 63)).toInt
def chk {α : Type} (c : Prop) [h : Decidable c] (x : Option α) : Option α := if c then x else none
def rd {ρ : Type} (x : Int) (f : Int → Option ρ) : Option ρ := f x
def rdn {ρ : Type} (x : Nat) (f : Nat → Option ρ) : Option ρ := f x
def wr {ρ : Type} (m : Mem) (f : Mem → Option ρ) : Option ρ := f m
def bR {ρ : Type} (x : Option Int) (f : Int → Option ρ) : Option ρ := x.bind f
def bW {ρ : Type} (x : Option (Int × Mem)) (f : Int → Mem → Option ρ) : Option ρ := x.bind (fun r => f r.1 r.2)
def bV {ρ : Type} (x : Option Mem) (f : Mem → Option ρ) : Option ρ := x.bind f
def jn {τ ρ : Type} (J : τ → Mem → Option ρ) (f : (τ → Mem → Option ρ) → Option ρ) : Option ρ := f J
def lp {τ ρ : Type} : Nat → ((τ → Mem → Option ρ) → τ → Mem → Option ρ) → τ → Mem → Option ρ
  | 0, _, _, _ => none
  | n + 1, F, t, mm => F (lp n F) t mm
theorem big_ex : ∃ n : Nat, 1000000 ≤ n := ⟨_, Nat.le_refl _⟩
noncomputable def BIG : Nat := Classical.choose big_ex
theorem BIG_ge : 1000000 ≤ BIG := Classical.choose_spec big_ex
def rmd (d mc ms : Nat) : Room := { frames := d, cells := mc, slots := ms, locals := 64 * d + 64 }
def imax (x y : Int) : Int := if x < y then y else x
def lmax (x y : Int) : Int := if y < x then x else y
def imin (x y : Int) : Int := if y < x then y else x
def iabs (x : Int) : Int := if 0 ≤ x then x else w32 (0 - x)
def cpy (m : Mem) (o0 : Nat) (sp : Int) (o1 : Nat) (dp n : Int) : Mem := fun o i => if o = o1 ∧ dp ≤ i ∧ i < dp + n then m o0 (i - dp + sp) else m o i
/-! the cells -/
def frel (g : GC) (o : Nat) (kd : Nat × Nat) (x : Int) (v : Value) : Prop := match kd.1 with
  | 0 => ∃ i : Int32, v = .int i ∧ i.toInt = x
  | 1 => ∃ i : Int64, v = .long i ∧ i.toInt = x
  | 2 => v = .ref (g.1 + (o + kd.2))
  | _ => 0 ≤ x ∧ v = .ref (g.1 + x.toNat)
def crel (g : GC) (t n o : Nat) (f : Int → Int) (c : (Nat → Int32) ⊕ (Nat → Int64) ⊕ (Nat → UInt32) ⊕ (Nat → UInt64) ⊕ (Nat → Option Nat)) : Prop := match c with
  | .inl h => (t = 0 ∨ t = 2 ∨ t = 3) ∧ ∀ i : Nat, i < n → (h i).toInt = f i
  | .inr (.inl h) => t = 1 ∧ ∀ i : Nat, i < n → (h i).toInt = f i
  | .inr (.inr (.inr (.inr h))) => 4 ≤ t ∧ ∀ i : Nat, i < n → h i = some (g.1 + (o + (rTab t).1 + (rTab t).2 * i))
  | _ => False
def erel (g : GC) (d : Nat ⊕ (Nat × Nat)) (o : Nat) (f : Int → Int) (e : va_E) : Prop := match d, e with
  | .inl ci, .inr (cj, fs) => cj = ci ∧ fs.length = (fkL ci).length ∧ ∀ (k : Nat) (kd : Nat × Nat), (fkL ci)[k]? = some kd → ∃ v, fs[k]? = some v ∧ frel g o kd (f k) v
  | .inr (t, n), .inl (cA, nn, c) => cA = g.2.2.1 t ∧ nn = n ∧ crel g t n o f c
  | _, _ => False
def wsOf (g : GC) (E : Nat → va_E) : va_W := (List.range layL.length).map (fun o => (g.1 + o, E o))
def tysOf (g : GC) : List (ClassId × FieldType) := [(g.2.2.1 0, .int), (g.2.2.1 1, .long), (g.2.2.1 2, .byte), (g.2.2.1 3, .boolean), (g.2.2.1 4, .object "RopeWeds$Life"), (g.2.2.1 5, .object "RopeWeds$World"), (g.2.2.1 6, .array .long)]
def Rel (g : GC) (m : Mem) (H : Heap) : Prop := ∃ E : Nat → va_E, va_P g.2.1 vwCl (wsOf g E) H ∧ ∀ o d, layL[o]? = some d → erel g d o (m o) (E o)
def exW : List Cond := exN.map (fun E => .castable E E) ++ [Cond.codeSync Bundle.tFill prog_30_method_18_code 1 (some (.object Bundle.tN)), .declares ⟨"java/lang/RuntimeException", "<init>", "()V"⟩, .declares ⟨"java/lang/RuntimeException", "<init>", "(Ljava/lang/String;)V"⟩, .declares ⟨"java/lang/Exception", "<init>", "()V"⟩, .declares ⟨"java/lang/Exception", "<init>", "(Ljava/lang/String;)V"⟩, .declares ⟨"java/lang/Throwable", "<init>", "()V"⟩, .declares ⟨"java/lang/Throwable", "<init>", "(Ljava/lang/String;)V"⟩]
def exP : List (String × String) := exN.flatMap (fun E => (exN.filter (fun F => F != E)).map (fun F => (E, F)))
theorem exW_ok : ∀ w ∈ exW, w.keepsFace = true ∧ w.onTables = true := by decide +kernel
theorem zx_Nw {w : Cond} (hk : w.keepsFace = true) (ho : w.onTables = true) {s U : State} (hW : s.WarmedH U.vm) (h : va_Nw w s) : va_Nw w U :=
  va_Nw.same ho (u := s.setVm U.vm) rfl (Cond.before_shiftedFace (State.Shifted.of_warmed hW) w hk h)
/-- what else is known of a state: texts, a few statics of the JDK's -/
def XF (B : Nat) (str : Nat → Nat) (U : State) : Prop :=
  vk_S strT.length lenT bytT str (fun i => str (i + 1000)) (fun q => B ≤ q) U U.heap ∧
  va_Z "java/lang/String" "COMPACT_STRINGS" "Z" (.int 1) (fun q => B ≤ q) U U.heap ∧
  va_Zq "jdk/internal/util/Preconditions" "SIOOBE_FORMATTER" "Ljava/util/function/BiFunction;" (fun q => B ≤ q) U U.heap ∧
  vx_Zq Bundle.tN "UNASSIGNED_STACK" Bundle.steD (fun q => B ≤ q) U U.heap ∧ vx_Zq Bundle.tN "SUPPRESSED_SENTINEL" Bundle.listD (fun q => B ≤ q) U U.heap ∧
  (∀ (k : Nat) (q : String × Nat × String), strT[k]? = some q → vk_R q.1 q.2.1 q.2.2 (str k) U) ∧
  (∀ q ∈ exT, ∃ sa, vk_R q.1 q.2.1 q.2.2 sa U) ∧ (∀ w ∈ exW, va_Nw w U) ∧ ∀ q ∈ exP, va_Nc q.1 q.2 U
theorem XF_moved {B : Nat} {str : Nat → Nat} {s U : State} (hW : s.WarmedH U.vm) (hz : s.heap.size ≤ U.heap.size) (hq : ∀ q, q < s.heap.size → ¬ B ≤ q → U.heap[q]? = s.heap[q]?) (h : XF B str s) : XF B str U := by
  obtain ⟨h1, h2, h3, h4, h5, h6, h7, h8, h9⟩ := h
  exact ⟨(vk_S.moved hW.alike h1).kept hq, (va_Z.moved hW.alike h2).kept hq, (va_Zq.moved hW.alike h3).kept hq, (vx_Zq.moved hW.alike h4).kept hq, (vx_Zq.moved hW.alike h5).kept hq,
    fun k q hk => (h6 k q hk).warm hW, fun q hq => (h7 q hq).imp fun _ h => h.warm hW, fun w hw => zx_Nw (exW_ok w hw).1 (exW_ok w hw).2 hW (h8 w hw), fun q hq => (h9 q hq).moved hW.alike⟩
def Kn (g : GC) (U : State) : Prop := va_K g.2.1 vwCl (tysOf g) U ∧ XF g.1 g.2.2.2.2 U
theorem wsOf_at {g : GC} {E : Nat → va_E} {o : Nat} {d : Nat ⊕ (Nat × Nat)} (h : layL[o]? = some d) : (wsOf g E)[o]? = some (g.1 + o, E o) := by
  have hl := (List.getElem?_eq_some_iff.mp h).1
  simp [wsOf, hl]
theorem wsOf_inv {g : GC} {E : Nat → va_E} {k : Nat} {q : Nat × va_E} (h : (wsOf g E)[k]? = some q) : q = (g.1 + k, E k) := by
  unfold wsOf at h
  rw [List.getElem?_map] at h
  cases hr : (List.range layL.length)[k]? with
  | none => rw [hr] at h; cases h
  | some j =>
    rw [hr] at h
    have hj := (List.getElem?_eq_some_iff.mp hr).2
    rw [List.getElem_range] at hj
    cases h
    rw [hj]
theorem wsOf_D {g : GC} {E : Nat → va_E} : va_D (fun q => g.1 ≤ q) (wsOf g E) := by
  refine ⟨fun i j a b hi hj h => ?_, fun k q hk => ?_⟩
  · rw [wsOf_inv hi, wsOf_inv hj] at h
    exact Nat.add_left_cancel h
  · rw [wsOf_inv hk]
    exact Nat.le_add_right _ _
theorem wsOf_set {g : GC} {E : Nat → va_E} {o : Nat} {e : va_E} : (wsOf g E).set o (g.1 + o, e) = wsOf g (fun o' => if o' = o then e else E o') := by
  apply List.ext_getElem?
  intro k
  unfold wsOf
  rw [List.getElem?_set, List.getElem?_map, List.getElem?_map, List.length_map, List.length_range]
  by_cases hk : k < layL.length
  · rw [List.getElem?_range hk]
    by_cases ho : o = k
    · subst ho; simp [hk]
    · simp [ho, Ne.symm ho, fun h : k = o => ho h.symm]
  · have : (List.range layL.length)[k]? = none := by simp; omega
    rw [this]
    by_cases ho : o = k
    · subst ho; simp [hk]
    · simp [ho]
theorem Rel_set {g : GC} {m : Mem} {H1 : Heap} {E : Nat → va_E} {o : Nat} {i v : Int} {e : va_E} {d : Nat ⊕ (Nat × Nat)} (hE : ∀ o d, layL[o]? = some d → erel g d o (m o) (E o)) (hd : layL[o]? = some d) (hP : va_P g.2.1 vwCl ((wsOf g E).set o (g.1 + o, e)) H1) (he : erel g d o (up m o i v o) e) : Rel g (up m o i v) H1 := by
  rw [wsOf_set] at hP
  refine ⟨_, hP, fun o' d' h' => ?_⟩
  by_cases ho : o' = o
  · subst ho
    rw [hd] at h'
    cases h'
    rw [if_pos rfl]
    exact he
  · rw [if_neg ho]
    have : up m o i v o' = m o' := funext fun j => by simp [up, ho]
    rw [this]
    exact hE o' d' h'

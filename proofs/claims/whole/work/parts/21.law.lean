/-! ===== D1: a law's worth, by the model's own steps ===== -/
def bnd (x : Int) : Int := if x ≤ 1000000 then (if -1000000 ≤ x then x else -1000000) else 1000000
def dn (op a b : Int) : Int :=
  if op = 10 then bnd (a + b) else if op = 11 then bnd (a - b) else if op = 12 then bnd (a * b)
  else if op = 13 then (if a = b then 1 else 0) else if op = 14 then (if a < b then 1 else 0) else if op = 15 then (if b < a then 1 else 0)
  else if op = 16 then (if 1 < a + b then 1 else 0) else (if 0 < a + b then 1 else 0)
def stp (op : Int) (nm : Int → Int) (st : List Int) : List Int :=
  if 1000 ≤ op then (op - 1000) :: st
  else if 100 ≤ op then nm (op - 100) :: st
  else if op = 18 then (match st with
    | a :: r => (1 - a) :: r
    | [] => [])
  else (match st with
    | b :: a :: r => dn op a b :: r
    | r => r)
theorem stp_num {op : Int} {nm : Int → Int} {st : List Int} (h : 1000 ≤ op) : stp op nm st = (op - 1000) :: st := by unfold stp; rw [if_pos h]
theorem stp_nam {op : Int} {nm : Int → Int} {st : List Int} (h : 100 ≤ op) (h2 : op < 1000) : stp op nm st = nm (op - 100) :: st := by unfold stp; rw [if_neg (by omega), if_pos h]
theorem stp_not {op : Int} {nm : Int → Int} {a : Int} {r : List Int} (h : op = 18) : stp op nm (a :: r) = (1 - a) :: r := by unfold stp; rw [if_neg (by omega), if_neg (by omega), if_pos h]
theorem stp_op {op : Int} {nm : Int → Int} {a b : Int} {r : List Int} (h : op < 100) (h2 : op ≠ 18) : stp op nm (b :: a :: r) = dn op a b :: r := by unfold stp; rw [if_neg (by omega), if_neg (by omega), if_neg (by omega)]
def evs (c nm : Int → Int) : Nat → List Int
  | 0 => []
  | n + 1 => stp (c n) nm (evs c nm n)
def lawF (c nm : Int → Int) (n : Int) : Int := (evs c nm n.toNat).headD 0
/-- the sorts of what lies on the stack: true for truths -/
def tyS (nw op : Int) (st : List Bool) : Option (List Bool) :=
  if 1000 ≤ op then (if op < 2000 then some (false :: st) else none)
  else if 100 ≤ op then (if op < 100 + nw then some (false :: st) else none)
  else if op = 10 ∨ op = 11 ∨ op = 12 then (match st with
    | false :: false :: r => some (false :: r)
    | _ => none)
  else if op = 13 ∨ op = 14 ∨ op = 15 then (match st with
    | false :: false :: r => some (true :: r)
    | _ => none)
  else if op = 16 ∨ op = 17 then (match st with
    | true :: true :: r => some (true :: r)
    | _ => none)
  else if op = 18 then (match st with
    | true :: r => some (true :: r)
    | _ => none)
  else none
def tyN (c : Int → Int) (nw : Int) : Nat → Option (List Bool)
  | 0 => some []
  | n + 1 => (tyN c nw n).bind (tyS nw (c n))
def LawV (c : Int → Int) (nw n : Int) (t : Bool) : Prop := 0 ≤ n ∧ n ≤ 900 ∧ (0 < n → tyN c nw n.toNat = some [t]) ∧ ∀ j T, j ≤ n.toNat → tyN c nw j = some T → T.length ≤ 60
def Ty : List Bool → List Int → Prop
  | [], [] => True
  | t :: ts, v :: vs => (-1000000 ≤ v ∧ v ≤ 1000000 ∧ (t = true → v = 0 ∨ v = 1)) ∧ Ty ts vs
  | _, _ => False
def StkR (m : Int → Int) : List Int → Prop
  | [] => True
  | v :: r => m (r.length : Int) = v ∧ StkR m r
theorem Ty_len : ∀ {T : List Bool} {v : List Int}, Ty T v → v.length = T.length
  | [], [], _ => rfl
  | [], _ :: _, h => h.elim
  | _ :: _, [], h => h.elim
  | _ :: _, _ :: _, h => by simp [Ty_len h.2]
theorem StkR_up {m : Int → Int} {st : List Int} {i v : Int} (h : StkR m st) (hi : (st.length : Int) ≤ i) : StkR (fun j => if j = i then v else m j) st := by
  induction st with
  | nil => trivial
  | cons a r ih =>
    have hl : (r.length : Int) < i := by simp at hi; omega
    refine ⟨?_, ih h.2 (by omega)⟩
    show (if (r.length : Int) = i then v else m r.length) = a
    rw [if_neg (by omega)]
    exact h.1
theorem StkR_push {m : Int → Int} {st : List Int} {i v : Int} (h : StkR m st) (hi : i = (st.length : Int)) : StkR (fun j => if j = i then v else m j) (v :: st) := by
  refine ⟨?_, StkR_up h (by omega)⟩
  show (if (st.length : Int) = i then v else m st.length) = v
  rw [if_pos hi.symm]
theorem StkR_bot {m : Int → Int} : ∀ {st : List Int} {v : Int}, StkR m (st ++ [v]) → m 0 = v
  | [], _, h => h.1
  | _ :: r, _, h => StkR_bot (st := r) h.2
theorem bnd_rg (x : Int) : -1000000 ≤ bnd x ∧ bnd x ≤ 1000000 := by unfold bnd; split <;> (try split) <;> omega
theorem mul_rg {a b : Int} (h1 : -1000000 ≤ a) (h2 : a ≤ 1000000) (h3 : -1000000 ≤ b) (h4 : b ≤ 1000000) : -1000000000000 ≤ a * b ∧ a * b ≤ 1000000000000 := by
  have e : (a * b).natAbs = a.natAbs * b.natAbs := Int.natAbs_mul a b
  have := Nat.mul_le_mul (show a.natAbs ≤ 1000000 by omega) (show b.natAbs ≤ 1000000 by omega)
  omega
theorem tyS_inv {nw op : Int} {st st' : List Bool} (h : tyS nw op st = some st') :
    (1000 ≤ op ∧ op < 2000 ∧ st' = false :: st) ∨ (100 ≤ op ∧ op < 1000 ∧ op < 100 + nw ∧ st' = false :: st) ∨ ((op = 10 ∨ op = 11 ∨ op = 12) ∧ ∃ r, st = false :: false :: r ∧ st' = false :: r) ∨
    ((op = 13 ∨ op = 14 ∨ op = 15) ∧ ∃ r, st = false :: false :: r ∧ st' = true :: r) ∨ ((op = 16 ∨ op = 17) ∧ ∃ r, st = true :: true :: r ∧ st' = true :: r) ∨ (op = 18 ∧ ∃ r, st = true :: r ∧ st' = true :: r) := by
  unfold tyS at h
  split at h
  · split at h
    · exact .inl ⟨by omega, by omega, by simpa using h.symm⟩
    · cases h
  · split at h
    · split at h
      · exact .inr (.inl ⟨by omega, by omega, by omega, by simpa using h.symm⟩)
      · cases h
    · split at h
      · rename_i h3
        split at h
        · exact .inr (.inr (.inl ⟨h3, _, rfl, by simpa using h.symm⟩))
        · cases h
      · split at h
        · rename_i h3
          split at h
          · exact .inr (.inr (.inr (.inl ⟨h3, _, rfl, by simpa using h.symm⟩)))
          · cases h
        · split at h
          · rename_i h3
            split at h
            · exact .inr (.inr (.inr (.inr (.inl ⟨h3, _, rfl, by simpa using h.symm⟩))))
            · cases h
          · split at h
            · rename_i h3
              split at h
              · exact .inr (.inr (.inr (.inr (.inr ⟨h3, _, rfl, by simpa using h.symm⟩))))
              · cases h
            · cases h
theorem tyN_pre {c : Int → Int} {nw : Int} {n : Nat} {T : List Bool} (h : tyN c nw n = some T) : ∀ j, j ≤ n → ∃ T', tyN c nw j = some T' := by
  induction n generalizing T with
  | zero => intro j hj; rw [Nat.le_zero.mp hj]; exact ⟨_, h⟩
  | succ n ih =>
    intro j hj
    cases hn : tyN c nw n with
    | none => rw [show tyN c nw (n + 1) = (tyN c nw n).bind (tyS nw (c n)) from rfl, hn] at h; cases h
    | some T1 =>
      by_cases hq : j = n + 1
      · subst hq; exact ⟨_, h⟩
      · exact ih hn j (by omega)
theorem tyN_succ {c : Int → Int} {nw : Int} {n : Nat} {T T' : List Bool} (h : tyN c nw n = some T) (h' : tyN c nw (n + 1) = some T') : tyS nw (c n) T = some T' := by
  rw [show tyN c nw (n + 1) = (tyN c nw n).bind (tyS nw (c n)) from rfl, h] at h'
  exact h'
theorem Ty_cons {t : Bool} {r : List Bool} {st : List Int} (h : Ty (t :: r) st) : ∃ v vs, st = v :: vs ∧ -1000000 ≤ v ∧ v ≤ 1000000 ∧ (t = true → v = 0 ∨ v = 1) ∧ Ty r vs := by
  cases st with
  | nil => exact h.elim
  | cons v vs => exact ⟨v, vs, rfl, h.1.1, h.1.2.1, h.1.2.2, h.2⟩
theorem ev_ty {c nm : Int → Int} {nw : Int} (hnm : ∀ w, 0 ≤ w → w < nw → -1000000 ≤ nm w ∧ nm w ≤ 1000000) : ∀ {n : Nat} {T : List Bool}, tyN c nw n = some T → Ty T (evs c nm n) := by
  intro n
  induction n with
  | zero => intro T h; cases h; trivial
  | succ n ih =>
    intro T h
    obtain ⟨T1, h1⟩ := tyN_pre h n (by omega)
    have hT := ih h1
    have hs := tyN_succ h1 h
    show Ty T (stp (c n) nm (evs c nm n))
    rcases tyS_inv hs with ⟨a, b, rfl⟩ | ⟨a, b, d, rfl⟩ | ⟨a, r, rfl, rfl⟩ | ⟨a, r, rfl, rfl⟩ | ⟨a, r, rfl, rfl⟩ | ⟨a, r, rfl, rfl⟩
    · rw [stp_num a]; exact ⟨⟨by omega, by omega, fun q => by cases q⟩, hT⟩
    · rw [stp_nam a b]
      have := hnm (c n - 100) (by omega) (by omega)
      exact ⟨⟨this.1, this.2, fun q => by cases q⟩, hT⟩
    · obtain ⟨y, vs, e1, _, _, _, hT2⟩ := Ty_cons hT
      obtain ⟨x, vs2, rfl, _, _, _, hT3⟩ := Ty_cons hT2
      rw [e1, stp_op (by omega) (by omega)]
      refine ⟨⟨?_, ?_, fun q => by cases q⟩, hT3⟩ <;> rcases a with a | a | a <;> rw [a] <;> simp [dn, bnd_rg]
    · obtain ⟨y, vs, e1, _, _, _, hT2⟩ := Ty_cons hT
      obtain ⟨x, vs2, rfl, _, _, _, hT3⟩ := Ty_cons hT2
      rw [e1, stp_op (by omega) (by omega)]
      refine ⟨?_, hT3⟩
      have : dn (c n) x y = 0 ∨ dn (c n) x y = 1 := by
        rcases a with a | a | a <;> rw [a] <;> simp only [dn] <;> simp <;> omega
      rcases this with e | e <;> rw [e] <;> simp
    · obtain ⟨y, vs, e1, _, _, _, hT2⟩ := Ty_cons hT
      obtain ⟨x, vs2, rfl, _, _, _, hT3⟩ := Ty_cons hT2
      rw [e1, stp_op (by omega) (by omega)]
      refine ⟨?_, hT3⟩
      have : dn (c n) x y = 0 ∨ dn (c n) x y = 1 := by
        rcases a with a | a <;> rw [a] <;> simp only [dn] <;> simp <;> omega
      rcases this with e | e <;> rw [e] <;> simp
    · obtain ⟨y, vs, e1, _, _, h01, hT2⟩ := Ty_cons hT
      rw [e1, stp_not a]
      refine ⟨?_, hT2⟩
      rcases h01 rfl with e | e <;> rw [e] <;> simp
theorem lawF_end {c nm : Int → Int} {nw n : Int} {t : Bool} (hv : LawV c nw n t) (hn : 0 < n) (hnm : ∀ w, 0 ≤ w → w < nw → -1000000 ≤ nm w ∧ nm w ≤ 1000000) :
    ∃ v, evs c nm n.toNat = [v] ∧ lawF c nm n = v ∧ -1000000 ≤ v ∧ v ≤ 1000000 ∧ (t = true → v = 0 ∨ v = 1) := by
  have := ev_ty hnm (hv.2.2.1 hn)
  obtain ⟨v, vs, e, a1, a2, a3, a4⟩ := Ty_cons this
  cases vs with
  | nil => exact ⟨v, e, by rw [lawF, e]; rfl, a1, a2, a3⟩
  | cons b r => exact a4.elim
theorem ev_cong {c nm nm' : Int → Int} : ∀ {n : Nat}, (∀ i : Nat, i < n → 100 ≤ c i → c i < 1000 → nm (c i - 100) = nm' (c i - 100)) → evs c nm n = evs c nm' n := by
  intro n
  induction n with
  | zero => intro _; rfl
  | succ n ih =>
    intro h
    show stp (c n) nm (evs c nm n) = stp (c n) nm' (evs c nm' n)
    rw [ih (fun i hi => h i (by omega))]
    unfold stp
    split
    · rfl
    · split
      · rw [h n (by omega) (by omega) (by omega)]
      · rfl
/-! the class's side -/
/-- the class's sign for a step; f: its names for the law's words -/
def trO (f : Int → Int) (op : Int) : Int :=
  if 1000 ≤ op then op else if 100 ≤ op then f (op - 100)
  else if op = 10 then 43 else if op = 11 then 45 else if op = 12 then 42 else if op = 13 then 61 else if op = 14 then 60 else if op = 15 then 62
  else if op = 16 then 140 else if op = 17 then 144 else 145
theorem lor01 : lor 0 0 = 0 ∧ lor 0 1 = 1 ∧ lor 1 0 = 1 ∧ lor 1 1 = 1 ∧ land 0 0 = 0 ∧ land 0 1 = 0 ∧ land 1 0 = 0 ∧ land 1 1 = 1 := by decide +kernel
theorem clamp3 {α : Type} (F : Int → α) (z : Int) : (if z ≤ 1000000 then (if -1000000 ≤ z then F z else F (-1000000)) else F 1000000) = F (bnd z) := by
  unfold bnd; split
  · split <;> rfl
  · rfl
theorem stk_at {m : Int → Int} {v : Int} {r : List Int} (h : StkR m (v :: r)) {i : Int} (hi : i = (r.length : Int)) : m i = v := by rw [hi]; exact h.1
theorem worth_ok {o : Nat} {m : Mem} {c nm f : Int → Int} {nw n : Int} {t : Bool} (ho : o = 23 ∨ o = 25) (hn : 0 < n) (hv : LawV c nw n t) (hnm : ∀ w, 0 ≤ w → w < nw → -1000000 ≤ nm w ∧ nm w ≤ 1000000)
    (hf : ∀ w, 0 ≤ w → w < nw → 128 ≤ f w ∧ f w ≤ 135 ∧ m 36 (f w - 128) = nm w)
    (hs : m o 1 = n) (hc : ∀ i, 0 ≤ i → i < n → m (o + 1) i = trO f (c i)) : Ok (fX4_worth o m) (fun r => r.1 = lawF c nm n ∧ Fr [37] m r.2) := by
  obtain ⟨v, e1, e2, b1, b2, b3⟩ := lawF_end hv hn hnm
  have o1 : o ∉ [37] := by rcases ho with e | e <;> rw [e] <;> decide
  have o2 : o + 1 ∉ [37] := by rcases ho with e | e <;> rw [e] <;> decide
  unfold fX4_worth
  refine lp_ok (fun (q : Int × Int) (mm : Mem) => ∃ j : Nat, q.2 = (j : Int) ∧ (j : Int) ≤ n ∧ q.1 = ((evs c nm j).length : Int) - 1 ∧ StkR (mm 37) (evs c nm j) ∧ Fr [37] m mm) (fun q _ => (n - q.2).toNat) ⟨0, rfl, by omega, rfl, trivial, fr_refl⟩ (by have := hv.2.1; show (n - 0).toNat < _; omega) ?_
  rintro K ⟨top, i⟩ mm ⟨j, rfl, hj, htop, hst, hF⟩ ih
  have htop' : top = (evs c nm j).length - 1 := htop
  simp only [rd_eq, wr_eq, jn_eq, hF o o1, hF (o + 1) o2, hs]
  by_cases hjn : n ≤ (j : Int)
  · have hje : j = n.toNat := by omega
    rw [if_pos hjn]
    rw [hje, e1] at hst htop'
    rw [if_pos (show (0 : Int) ≤ top by rw [htop']; simp)]
    refine ok_some ⟨?_, hF⟩
    show mm 37 0 = _
    rw [e2]; exact hst.1
  · have hj9 := hv.2.1
    obtain ⟨T, hT⟩ := tyN_pre (hv.2.2.1 hn) j (by omega)
    obtain ⟨T', hT'⟩ := tyN_pre (hv.2.2.1 hn) (j + 1) (by omega)
    have hTy := ev_ty (nm := nm) hnm hT
    have hlen := Ty_len hTy
    have hl60 := hv.2.2.2 (j + 1) T' (by omega) hT'
    have hs1 := tyN_succ hT hT'
    have next : ∀ (top' : Int) (mm' : Mem), top' = (evs c nm (j + 1)).length - 1 → StkR (mm' 37) (evs c nm (j + 1)) → Fr [37] mm mm' → Ok (K (top', w32 (j + 1)) mm') (fun r => r.1 = lawF c nm n ∧ Fr [37] m r.2) := by
      intro top' mm' h1 h2 h3
      rw [w32_id (by omega) (by omega)]
      refine ih (top', (j : Int) + 1) mm' ⟨j + 1, by simp, by simp; omega, h1, h2, fr_trans hF h3⟩ ?_
      show (n - ((j : Int) + 1)).toNat < (n - (j : Int)).toNat
      omega
    have hev : evs c nm (j + 1) = stp (c j) nm (evs c nm j) := rfl
    rw [if_neg hjn, chk_of (by constructor <;> omega), hc j (by omega) (by omega)]
    have hpos : Int.ofNat (evs c nm j).length = ((evs c nm j).length : Int) := rfl
    generalize hE : evs c nm j = E at *
    rcases tyS_inv hs1 with ⟨a, b, rfl⟩ | ⟨a, b, d, rfl⟩ | ⟨a, r, rfl, rfl⟩ | ⟨a, r, rfl, rfl⟩ | ⟨a, r, rfl, rfl⟩ | ⟨a, r, rfl, rfl⟩
    · have e : trO f (c j) = c j := by rw [trO, if_pos a]
      rw [stp_num a] at hev
      simp only [List.length_cons] at hl60
      rw [e, if_neg (by omega), if_neg (by omega), if_neg (by omega), if_pos (by omega), if_neg (by omega), w32_id (x := c j - 1000) (by omega) (by omega), w32_id (x := top + 1) (by omega) (by omega), chk_of (by constructor <;> omega)]
      refine next _ _ ?_ ?_ (fr_up (by simp) fr_refl)
      · rw [hev]; simp; omega
      · rw [hev]
        simp only [show up mm 37 (top + 1) (c j - 1000) 37 = fun q => if q = top + 1 then c j - 1000 else mm 37 q from funext fun q => up_at _ _ _ _ _]
        exact StkR_push hst (by omega)
    · have e : trO f (c j) = f (c j - 100) := by rw [trO, if_neg (by omega), if_pos a]
      obtain ⟨f1, f2, f3⟩ := hf (c j - 100) (by omega) (by omega)
      rw [stp_nam a b] at hev
      simp only [List.length_cons] at hl60
      rw [e, if_neg (by omega), if_pos (by omega), if_pos (by omega), if_pos (by omega), w32_id (x := f (c j - 100) - 128) (by omega) (by omega), w32_id (x := top + 1) (by omega) (by omega), chk_of (by constructor <;> omega), chk_of (by constructor <;> omega), hF 36 (by decide), f3]
      refine next _ _ ?_ ?_ (fr_up (by simp) fr_refl)
      · rw [hev]; simp; omega
      · rw [hev]
        simp only [show up mm 37 (top + 1) (nm (c j - 100)) 37 = fun q => if q = top + 1 then nm (c j - 100) else mm 37 q from funext fun q => up_at _ _ _ _ _]
        exact StkR_push hst (by omega)
    · obtain ⟨y, vs, e1', hy1, hy2, _, hT2⟩ := Ty_cons hTy
      obtain ⟨x, vs2, rfl, hx1, hx2, _, hT3⟩ := Ty_cons hT2
      subst e1'
      simp only [List.length_cons] at htop' hl60 hlen
      have m1 := mul_rg hx1 hx2 hy1 hy2
      have s1 : mm 37 top = y := stk_at hst (by simp; omega)
      have s2 : mm 37 (top - 1) = x := stk_at hst.2 (by omega)
      have hc1 : (0 : Int) ≤ top - 1 ∧ top - 1 < ((64 : Nat) : Int) := ⟨by omega, by omega⟩
      have hc2 : (0 : Int) ≤ top ∧ top < ((64 : Nat) : Int) := ⟨by omega, by omega⟩
      have hw1 : w32 (top - 1) = top - 1 := w32_id (by omega) (by omega)
      have key : ∀ w : Int, dn (c j) x y = w → Ok (K (top - 1, w32 ((j : Int) + 1)) (up mm 37 (top - 1) w)) (fun r => r.1 = lawF c nm n ∧ Fr [37] m r.2) := by
        intro w hz
        refine next _ _ ?_ ?_ (fr_up (by simp) fr_refl)
        · rw [hev, stp_op (by omega) (by omega)]
          simp only [List.length_cons]
          omega
        · rw [hev, stp_op (by omega) (by omega), hz]
          simp only [show up mm 37 (top - 1) w 37 = fun q => if q = top - 1 then w else mm 37 q from funext fun q => up_at _ _ _ _ _]
          exact StkR_push hst.2.2 (by omega)
      rcases a with a | a | a
      · have e : trO f (c j) = 43 := by rw [trO, a]; rfl
        simp only [e, Int.reduceLT, Int.reduceLE, Int.reduceEq, Int.reduceNeg, Int.reduceSub, reduceIte, not_true_eq_false, not_false_eq_true, hw1, if_pos hc1.1, chk_of hc1, chk_of hc2, s1, s2, w64_id (x := x + y) (by omega) (by omega)]
        have hc := clamp3 (fun w => K (top - 1, w32 ((j : Int) + 1)) (up mm 37 (top - 1) w)) (x + y)
        rw [hc]
        exact key _ (by simp [dn, a])
      · have e : trO f (c j) = 45 := by rw [trO, a]; rfl
        simp only [e, Int.reduceLT, Int.reduceLE, Int.reduceEq, Int.reduceNeg, Int.reduceSub, reduceIte, not_true_eq_false, not_false_eq_true, hw1, if_pos hc1.1, chk_of hc1, chk_of hc2, s1, s2, w64_id (x := x - y) (by omega) (by omega)]
        have hc := clamp3 (fun w => K (top - 1, w32 ((j : Int) + 1)) (up mm 37 (top - 1) w)) (x - y)
        rw [hc]
        exact key _ (by simp [dn, a])
      · have e : trO f (c j) = 42 := by rw [trO, a]; rfl
        simp only [e, Int.reduceLT, Int.reduceLE, Int.reduceEq, Int.reduceNeg, Int.reduceSub, reduceIte, not_true_eq_false, not_false_eq_true, hw1, if_pos hc1.1, chk_of hc1, chk_of hc2, s1, s2, w64_id (x := x * y) (by omega) (by omega)]
        have hc := clamp3 (fun w => K (top - 1, w32 ((j : Int) + 1)) (up mm 37 (top - 1) w)) (x * y)
        rw [hc]
        exact key _ (by simp [dn, a])
    · obtain ⟨y, vs, e1', hy1, hy2, _, hT2⟩ := Ty_cons hTy
      obtain ⟨x, vs2, rfl, hx1, hx2, _, hT3⟩ := Ty_cons hT2
      subst e1'
      simp only [List.length_cons] at htop' hl60 hlen
      have s1 : mm 37 top = y := stk_at hst (by simp; omega)
      have s2 : mm 37 (top - 1) = x := stk_at hst.2 (by omega)
      have hc1 : (0 : Int) ≤ top - 1 ∧ top - 1 < ((64 : Nat) : Int) := ⟨by omega, by omega⟩
      have hc2 : (0 : Int) ≤ top ∧ top < ((64 : Nat) : Int) := ⟨by omega, by omega⟩
      have hw1 : w32 (top - 1) = top - 1 := w32_id (by omega) (by omega)
      have key : ∀ w : Int, dn (c j) x y = w → Ok (K (top - 1, w32 ((j : Int) + 1)) (up mm 37 (top - 1) w)) (fun r => r.1 = lawF c nm n ∧ Fr [37] m r.2) := by
        intro w hz
        refine next _ _ ?_ ?_ (fr_up (by simp) fr_refl)
        · rw [hev, stp_op (by omega) (by omega)]
          simp only [List.length_cons]
          omega
        · rw [hev, stp_op (by omega) (by omega), hz]
          simp only [show up mm 37 (top - 1) w 37 = fun q => if q = top - 1 then w else mm 37 q from funext fun q => up_at _ _ _ _ _]
          exact StkR_push hst.2.2 (by omega)
      rcases a with a | a | a
      · have e : trO f (c j) = 61 := by rw [trO, a]; rfl
        by_cases h : x = y
        · simp only [e, Int.reduceLT, Int.reduceLE, Int.reduceEq, Int.reduceNeg, Int.reduceSub, reduceIte, not_true_eq_false, not_false_eq_true, hw1, if_pos hc1.1, chk_of hc1, chk_of hc2, s1, s2, h, not_true_eq_false, not_false_eq_true]
          exact key _ (by rw [a]; simp [dn, h])
        · simp only [e, Int.reduceLT, Int.reduceLE, Int.reduceEq, Int.reduceNeg, Int.reduceSub, reduceIte, not_true_eq_false, not_false_eq_true, hw1, if_pos hc1.1, chk_of hc1, chk_of hc2, s1, s2, h, not_true_eq_false, not_false_eq_true]
          exact key _ (by rw [a]; simp [dn, h])
      · have e : trO f (c j) = 60 := by rw [trO, a]; rfl
        by_cases h : x < y
        · simp only [e, Int.reduceLT, Int.reduceLE, Int.reduceEq, Int.reduceNeg, Int.reduceSub, reduceIte, not_true_eq_false, not_false_eq_true, hw1, if_pos hc1.1, chk_of hc1, chk_of hc2, s1, s2, if_neg (show ¬ (y ≤ x) by omega)]
          exact key _ (by rw [a]; simp [dn, h])
        · simp only [e, Int.reduceLT, Int.reduceLE, Int.reduceEq, Int.reduceNeg, Int.reduceSub, reduceIte, not_true_eq_false, not_false_eq_true, hw1, if_pos hc1.1, chk_of hc1, chk_of hc2, s1, s2, if_pos (show y ≤ x by omega)]
          exact key _ (by rw [a]; simp [dn, h])
      · have e : trO f (c j) = 62 := by rw [trO, a]; rfl
        by_cases h : y < x
        · simp only [e, Int.reduceLT, Int.reduceLE, Int.reduceEq, Int.reduceNeg, Int.reduceSub, reduceIte, not_true_eq_false, not_false_eq_true, hw1, if_pos hc1.1, chk_of hc1, chk_of hc2, s1, s2, if_neg (show ¬ (x ≤ y) by omega)]
          exact key _ (by rw [a]; simp [dn, h])
        · simp only [e, Int.reduceLT, Int.reduceLE, Int.reduceEq, Int.reduceNeg, Int.reduceSub, reduceIte, not_true_eq_false, not_false_eq_true, hw1, if_pos hc1.1, chk_of hc1, chk_of hc2, s1, s2, if_pos (show x ≤ y by omega)]
          exact key _ (by rw [a]; simp [dn, h])
    · obtain ⟨y, vs, e1', hy1, hy2, hy3, hT2⟩ := Ty_cons hTy
      obtain ⟨x, vs2, rfl, hx1, hx2, hx3, hT3⟩ := Ty_cons hT2
      subst e1'
      simp only [List.length_cons] at htop' hl60 hlen
      have s1 : mm 37 top = y := stk_at hst (by simp; omega)
      have s2 : mm 37 (top - 1) = x := stk_at hst.2 (by omega)
      have hc1 : (0 : Int) ≤ top - 1 ∧ top - 1 < ((64 : Nat) : Int) := ⟨by omega, by omega⟩
      have hc2 : (0 : Int) ≤ top ∧ top < ((64 : Nat) : Int) := ⟨by omega, by omega⟩
      have hw1 : w32 (top - 1) = top - 1 := w32_id (by omega) (by omega)
      have key : ∀ w : Int, dn (c j) x y = w → Ok (K (top - 1, w32 ((j : Int) + 1)) (up mm 37 (top - 1) w)) (fun r => r.1 = lawF c nm n ∧ Fr [37] m r.2) := by
        intro w hz
        refine next _ _ ?_ ?_ (fr_up (by simp) fr_refl)
        · rw [hev, stp_op (by omega) (by omega)]
          simp only [List.length_cons]
          omega
        · rw [hev, stp_op (by omega) (by omega), hz]
          simp only [show up mm 37 (top - 1) w 37 = fun q => if q = top - 1 then w else mm 37 q from funext fun q => up_at _ _ _ _ _]
          exact StkR_push hst.2.2 (by omega)
      obtain ⟨l1, l2, l3, l4, l5, l6, l7, l8⟩ := lor01
      rcases a with a | a
      · have e : trO f (c j) = 140 := by rw [trO, a]; rfl
        rcases hx3 rfl with h | h <;> rcases hy3 rfl with h' | h' <;> rw [h] at s2 key <;> rw [h'] at s1 key
        all_goals (simp only [e, Int.reduceLT, Int.reduceLE, Int.reduceEq, Int.reduceNeg, Int.reduceSub, reduceIte, not_true_eq_false, not_false_eq_true, hw1, if_pos hc1.1, chk_of hc1, chk_of hc2, s1, s2, l1, l2, l3, l4, l5, l6, l7, l8]; exact key _ (by rw [a]; decide))
      · have e : trO f (c j) = 144 := by rw [trO, a]; rfl
        rcases hx3 rfl with h | h <;> rcases hy3 rfl with h' | h' <;> rw [h] at s2 key <;> rw [h'] at s1 key
        all_goals (simp only [e, Int.reduceLT, Int.reduceLE, Int.reduceEq, Int.reduceNeg, Int.reduceSub, reduceIte, not_true_eq_false, not_false_eq_true, hw1, if_pos hc1.1, chk_of hc1, chk_of hc2, s1, s2, l1, l2, l3, l4, l5, l6, l7, l8]; exact key _ (by rw [a]; decide))
    · obtain ⟨y, vs, e1', hy1, hy2, hy3, hT2⟩ := Ty_cons hTy
      subst e1'
      simp only [List.length_cons] at htop' hl60 hlen
      have s1 : mm 37 top = y := stk_at hst (by omega)
      have hc2 : (0 : Int) ≤ top ∧ top < ((64 : Nat) : Int) := ⟨by omega, by omega⟩
      have w64_01 : w64 1 = 1 ∧ w64 0 = 0 := by decide
      have e : trO f (c j) = 145 := by rw [trO, a]; rfl
      have key : ∀ w : Int, 1 - y = w → Ok (K (top, w32 ((j : Int) + 1)) (up mm 37 top w)) (fun r => r.1 = lawF c nm n ∧ Fr [37] m r.2) := by
        intro w hz
        refine next _ _ ?_ ?_ (fr_up (by simp) fr_refl)
        · rw [hev, stp_not a]
          simp only [List.length_cons]
          omega
        · rw [hev, stp_not a, hz]
          simp only [show up mm 37 top w 37 = fun q => if q = top then w else mm 37 q from funext fun q => up_at _ _ _ _ _]
          exact StkR_push hst.2 (by omega)
      rcases hy3 rfl with h | h <;> rw [h] at s1 key
      all_goals (simp only [e, Int.reduceLT, Int.reduceLE, Int.reduceEq, Int.reduceNeg, Int.reduceSub, reduceIte, not_true_eq_false, not_false_eq_true, if_pos hc2.1, chk_of hc2, s1, w64_01]; exact key _ (by decide))
/-! the model's side -/
theorem bound_eq (x : Int) (mm : Mem) : fX12_bound x mm = some (bnd x) := by
  have e : lmax (-1000000) (imin 1000000 x) = bnd x := by
    unfold lmax imin bnd
    repeat' split
    all_goals omega
  have := bnd_rg x
  unfold fX12_bound
  rw [e, w32_id (by omega) (by omega)]
theorem done_eq {op a b : Int} {mm : Mem} (h : 10 ≤ op) (h2 : op ≤ 17) (a1 : -1000000 ≤ a) (a2 : a ≤ 1000000) (b1 : -1000000 ≤ b) (b2 : b ≤ 1000000) : fX12_done op a b mm = some (dn op a b) := by
  have m1 := mul_rg a1 a2 b1 b2
  unfold fX12_done dn
  simp only [bound_eq, bR_some, jn_eq, w64_id (x := a + b) (by omega) (by omega), w64_id (x := a - b) (by omega) (by omega), w64_id (x := a * b) (by omega) (by omega)]
  repeat' split
  all_goals first | rfl | omega | (congr 1; done) | skip
theorem lawOf_ok {m : Mem} {c nm : Int → Int} {nw n many at' : Int} {t : Bool} (ho : (many = 5 ∧ at' = 197) ∨ (many = 6 ∧ at' = 1097)) (hn : 0 < n) (hv : LawV c nw n t) (hnw : nw ≤ 6) (hnm : ∀ w, 0 ≤ w → w < nw → -1000000 ≤ nm w ∧ nm w ≤ 1000000)
    (hf : ∀ w, 0 ≤ w → w < nw → m 294 w = nm w)
    (hs : m 288 many = n) (hc : ∀ i, 0 ≤ i → i < n → m 288 (at' + i) = c i) : Ok (fX12_lawOf many at' m) (fun r => r.1 = lawF c nm n ∧ Fr [293] m r.2) := by
  obtain ⟨v, e1, e2, b1, b2, b3⟩ := lawF_end hv hn hnm
  unfold fX12_lawOf
  refine lp_ok (fun (q : Int × Int) (mm : Mem) => ∃ j : Nat, q.2 = (j : Int) ∧ (j : Int) ≤ n ∧ q.1 = ((evs c nm j).length : Int) ∧ StkR (mm 293) (evs c nm j) ∧ Fr [293] m mm) (fun q _ => (n - q.2).toNat) ⟨0, rfl, by omega, rfl, trivial, fr_refl⟩ (by have := hv.2.1; show (n - 0).toNat < _; omega) ?_
  rintro K ⟨top, i⟩ mm ⟨j, rfl, hj, htop, hst, hF⟩ ih
  have htop' : top = (evs c nm j).length := htop
  simp only [rd_eq, wr_eq, jn_eq, hF 288 (by decide), hs]
  rw [chk_of (by omega)]
  by_cases hjn : n ≤ (j : Int)
  · have hje : j = n.toNat := by omega
    rw [if_pos hjn]
    rw [hje, e1] at hst htop'
    refine ok_some ⟨?_, hF⟩
    show mm 293 0 = _
    rw [e2]; exact hst.1
  · have hj9 := hv.2.1
    obtain ⟨T, hT⟩ := tyN_pre (hv.2.2.1 hn) j (by omega)
    obtain ⟨T', hT'⟩ := tyN_pre (hv.2.2.1 hn) (j + 1) (by omega)
    have hTy := ev_ty (nm := nm) hnm hT
    have hlen := Ty_len hTy
    have hl60 := hv.2.2.2 (j + 1) T' (by omega) hT'
    have hs1 := tyN_succ hT hT'
    have next : ∀ (top' : Int) (mm' : Mem), top' = (evs c nm (j + 1)).length → StkR (mm' 293) (evs c nm (j + 1)) → Fr [293] mm mm' → Ok (K (top', w32 (j + 1)) mm') (fun r => r.1 = lawF c nm n ∧ Fr [293] m r.2) := by
      intro top' mm' h1 h2 h3
      rw [w32_id (by omega) (by omega)]
      refine ih (top', (j : Int) + 1) mm' ⟨j + 1, by simp, by simp; omega, h1, h2, fr_trans hF h3⟩ ?_
      show (n - ((j : Int) + 1)).toNat < (n - (j : Int)).toNat
      omega
    have hev : evs c nm (j + 1) = stp (c j) nm (evs c nm j) := rfl
    have hat : 0 ≤ at' + j ∧ at' + j < 2005 := by omega
    rw [if_neg hjn, w32_id (x := at' + j) (by omega) (by omega), chk_of (by constructor <;> omega), hc j (by omega) (by omega)]
    generalize hE : evs c nm j = E at *
    have hupd : ∀ (i w : Int), up mm 293 i w 293 = fun q => if q = i then w else mm 293 q := fun i w => funext fun q => up_at _ _ _ _ _
    rcases tyS_inv hs1 with ⟨a, b, rfl⟩ | ⟨a, b, d, rfl⟩ | ⟨a, r, rfl, rfl⟩ | ⟨a, r, rfl, rfl⟩ | ⟨a, r, rfl, rfl⟩ | ⟨a, r, rfl, rfl⟩
    · rw [stp_num a] at hev
      simp only [List.length_cons] at hl60
      rw [if_neg (by omega), if_neg (by omega), w32_id (x := c j - 1000) (by omega) (by omega), w32_id (x := top + 1) (by omega) (by omega), chk_of (by constructor <;> omega)]
      refine next _ _ ?_ ?_ (fr_up (by simp) fr_refl)
      · rw [hev]; simp; omega
      · rw [hev, hupd]
        exact StkR_push hst (by omega)
    · rw [stp_nam a b] at hev
      simp only [List.length_cons] at hl60
      rw [if_neg (by omega), if_pos (by omega), w32_id (x := c j - 100) (by omega) (by omega), w32_id (x := top + 1) (by omega) (by omega), chk_of (by constructor <;> omega), chk_of (by constructor <;> omega), hF 294 (by decide), hf _ (by omega) (by omega)]
      refine next _ _ ?_ ?_ (fr_up (by simp) fr_refl)
      · rw [hev]; simp; omega
      · rw [hev, hupd]
        exact StkR_push hst (by omega)
    iterate 3
      · obtain ⟨y, vs, e1', hy1, hy2, _, hT2⟩ := Ty_cons hTy
        obtain ⟨x, vs2, rfl, hx1, hx2, _, hT3⟩ := Ty_cons hT2
        subst e1'
        simp only [List.length_cons] at htop' hl60 hlen
        have s1 : mm 293 (top - 1) = y := stk_at hst (by simp; omega)
        have s2 : mm 293 (top - 2) = x := stk_at hst.2 (by omega)
        rw [if_pos (by omega), if_pos (by omega), w32_id (x := top + -1) (by omega) (by omega), w32_id (x := top + -1 - 1) (by omega) (by omega), chk_of (by constructor <;> omega), chk_of (by constructor <;> omega), show top + -1 - 1 = top - 2 by omega, show top + -1 = top - 1 by omega, s1, s2, done_eq (by omega) (by omega) hx1 hx2 hy1 hy2, bR_some, chk_of (by constructor <;> omega)]
        have hev2 : evs c nm (j + 1) = dn (c j) x y :: vs2 := by rw [hev, stp_op (by omega) (by omega)]
        refine next _ _ ?_ ?_ (fr_up (by simp) fr_refl)
        · rw [hev2]; simp; omega
        · rw [hev2, hupd]
          exact StkR_push hst.2.2 (by omega)
    · obtain ⟨y, vs, e1', hy1, hy2, h01, hT2⟩ := Ty_cons hTy
      subst e1'
      simp only [List.length_cons] at htop' hl60 hlen
      have s1 : mm 293 (top - 1) = y := stk_at hst (by omega)
      rw [if_pos (by omega), if_neg (by omega), w32_id (x := top - 1) (by omega) (by omega), chk_of (by constructor <;> omega), chk_of (by constructor <;> omega), s1, w32_id (x := 1 - y) (by omega) (by omega)]
      have hev2 : evs c nm (j + 1) = (1 - y) :: vs := by rw [hev, stp_not a]
      refine next _ _ ?_ ?_ (fr_up (by simp) fr_refl)
      · rw [hev2]; simp; omega
      · rw [hev2, hupd]
        exact StkR_push hst.2 (by omega)

/-! ===== D36: the way: from where one gets there, the first turns ===== -/
def backP (K : Int → Int) (p rope : Int) (tied : Bool) (rocks : Int) (n : Nat) (jt : Int) (kt : Nat) : Nat → Int → Nat → Prop
  | 0 => fun j k => j = jt ∧ k = kt
  | d + 1 => fun j k => rchP K p rope tied rocks (n - (d + 1)) j k ∧ ∃ j' k', backP K p rope tied rocks n jt kt d j' k' ∧ mvP K p rocks 0 ((n - d : Nat) : Int) j j' ∧ mvP K p rocks 1 ((n - d : Nat) : Int) (k : Int) (k' : Nat)
def bakP (K : Int → Int) (p rope : Int) (tied : Bool) (rocks : Int) (n : Nat) (jt : Int) (kt : Nat) (h : Nat) : Int → Nat → Prop := backP K p rope tied rocks n jt kt (n - h)
theorem bak_end {K : Int → Int} {p rope : Int} {tied : Bool} {rocks : Int} {n : Nat} {jt : Int} {kt : Nat} {j : Int} {k : Nat} : bakP K p rope tied rocks n jt kt n j k ↔ j = jt ∧ k = kt := by
  unfold bakP
  rw [Nat.sub_self]
  exact Iff.rfl
theorem bak_step {K : Int → Int} {p rope : Int} {tied : Bool} {rocks : Int} {n : Nat} {jt : Int} {kt h : Nat} {j : Int} {k : Nat} (hh : h < n) :
    bakP K p rope tied rocks n jt kt h j k ↔ rchP K p rope tied rocks h j k ∧ ∃ j' k', bakP K p rope tied rocks n jt kt (h + 1) j' k' ∧ mvP K p rocks 0 ((h : Int) + 1) j j' ∧ mvP K p rocks 1 ((h : Int) + 1) (k : Int) (k' : Nat) := by
  unfold bakP
  obtain ⟨d, rfl⟩ : ∃ d, n = h + 1 + d := ⟨n - h - 1, by omega⟩
  rw [show h + 1 + d - h = d + 1 by omega, show h + 1 + d - (h + 1) = d by omega]
  show (rchP K p rope tied rocks (h + 1 + d - (d + 1)) j k ∧ _) ↔ _
  rw [show h + 1 + d - (d + 1) = h by omega, show ((h + 1 + d - d : Nat) : Int) = (h : Int) + 1 by omega]
theorem bak_rch {K : Int → Int} {p rope : Int} {tied : Bool} {rocks : Int} {n : Nat} {jt : Int} {kt h : Nat} {j : Int} {k : Nat} (ht : rchP K p rope tied rocks n jt kt) (hh : h ≤ n) (hb : bakP K p rope tied rocks n jt kt h j k) : rchP K p rope tied rocks h j k := by
  by_cases e : h = n
  · subst e
    obtain ⟨rfl, rfl⟩ := bak_end.mp hb
    exact ht
  · exact ((bak_step (by omega)).mp hb).1
theorem bak_ex {K : Int → Int} {p rope : Int} {tied : Bool} {rocks : Int} {n : Nat} {jt : Int} {kt : Nat} (ht : rchP K p rope tied rocks n jt kt) : ∀ d h, h + d = n → ∃ j k, bakP K p rope tied rocks n jt kt h j k := by
  intro d
  induction d with
  | zero => intro h e; exact ⟨jt, kt, by rw [show h = n by omega]; exact bak_end.mpr ⟨rfl, rfl⟩⟩
  | succ d ih =>
    intro h e
    obtain ⟨j', k', hb⟩ := ih (h + 1) (by omega)
    obtain ⟨_, _, _, j0, _, m0, k0, r0, m1⟩ : nxtP K p rope tied rocks ((h : Int) + 1) (rchP K p rope tied rocks h) j' k' := bak_rch ht (by omega) hb
    exact ⟨j0, k0, (bak_step (by omega)).mpr ⟨r0, j', k', hb, m0, m1⟩⟩
theorem bak_first {K : Int → Int} {p rope : Int} {tied : Bool} {rocks : Int} {n : Nat} {jt : Int} {kt : Nat} (ht : rchP K p rope tied rocks n jt kt) (h17 : 0 ≤ K (17 + p)) : bakP K p rope tied rocks n jt kt 0 (K (13 + p)) (K (17 + p)).toNat := by
  obtain ⟨j, k, hb⟩ := bak_ex ht n 0 (by omega)
  obtain ⟨e1, e2⟩ : j = K (13 + p) ∧ (k : Int) = K (17 + p) := bak_rch ht (by omega) hb
  rw [← e1, ← e2, Int.toNat_natCast]
  exact hb
/-- the turns numbered i bring both, in the hour that ends at h, onto the way -/
def goodI (K : Int → Int) (p rope : Int) (tied : Bool) (rocks : Int) (n : Nat) (jt : Int) (kt h : Nat) (j k i : Int) : Prop :=
  oneF K p rocks h 0 j (i / 5) ≠ -1 ∧ oneF K p rocks h 1 k (i % 5) ≠ -1 ∧ bakP K p rope tied rocks n jt kt h (oneF K p rocks h 0 j (i / 5)) (oneF K p rocks h 1 k (i % 5)).toNat
theorem good_ex {K : Int → Int} {c p rope : Int} {tied : Bool} {rocks : Int} {n : Nat} {jt : Int} {kt h : Nat} {j k : Int} (hV : CV c K) (p0 : 0 ≤ p) (p1 : p < K 3) (ht : rchP K p rope tied rocks n jt kt) (hh : h < n) (k0 : 0 ≤ k) (hb : bakP K p rope tied rocks n jt kt h j k.toNat) :
    ∃ i, (0 ≤ i ∧ i < 25) ∧ goodI K p rope tied rocks n jt kt (h + 1) j k i := by
  have hw := wide_of hV.1 p0 p1
  have rg := rch_rg hV p0 p1 _ _ _ (bak_rch ht (by omega) hb)
  rw [Int.toNat_of_nonneg k0] at rg
  obtain ⟨_, j', k', hb', m0, m1⟩ := (bak_step hh).mp hb
  rw [Int.toNat_of_nonneg k0] at m1
  have rg' := rch_rg hV p0 p1 _ _ _ (bak_rch ht (by omega) hb')
  obtain ⟨t, ht', et, nt⟩ := (one_mv hw.1.1 hw.1.2 hw.2.1 hw.2.2 rg.1.1 rg.1.2).mpr ⟨rg'.1, m0⟩
  obtain ⟨u, hu, eu, nu⟩ := (one_mv hw.1.1 hw.1.2 hw.2.1 hw.2.2 k0 rg.2).mpr ⟨⟨by omega, rg'.2⟩, m1⟩
  refine ⟨5 * t + u, by omega, ?_⟩
  unfold goodI
  rw [show (5 * t + u) / 5 = t by omega, show (5 * t + u) % 5 = u by omega, show ((h + 1 : Nat) : Int) = (h : Int) + 1 by omega, et, eu, Int.toNat_natCast]
  exact ⟨nt, nu, hb'⟩
def FirstI (Q : Int → Prop) (v : Int) : Prop := (0 ≤ v ∧ v < 25) ∧ Q v ∧ ∀ i, 0 ≤ i → i < v → ¬ Q i
theorem firstI_uq {Q : Int → Prop} {v u : Int} (h : FirstI Q v) (h' : FirstI Q u) : v = u := by
  rcases Int.lt_trichotomy v u with z | z | z
  · exact absurd h.2.1 (h'.2.2 v h.1.1 z)
  · exact z
  · exact absurd h'.2.1 (h.2.2 u h'.1.1 z)
theorem firstI_ex {Q : Int → Prop} (h : ∃ i, (0 ≤ i ∧ i < 25) ∧ Q i) : ∃ v, FirstI Q v := by
  obtain ⟨i, hi, q⟩ := h
  have step : ∀ n : Nat, (∀ v : Int, 0 ≤ v → v < n → ¬ Q v) ∨ ∃ v : Int, (0 ≤ v ∧ v < n) ∧ Q v ∧ ∀ i, 0 ≤ i → i < v → ¬ Q i := by
    intro n
    induction n with
    | zero => exact .inl (fun v a b => by omega)
    | succ n ih =>
      rcases ih with ih | ⟨v, a, b, d⟩
      · by_cases q : Q (n : Int)
        · exact .inr ⟨n, by omega, q, ih⟩
        · refine .inl (fun v a b => ?_)
          by_cases e : v = n
          · rw [e]; exact q
          · exact ih v a (by omega)
      · exact .inr ⟨v, by omega, b, d⟩
  rcases step 25 with s | ⟨v, a, b, d⟩
  · exact absurd q (s i hi.1 (by omega))
  · exact ⟨v, by omega, b, d⟩
noncomputable def bestI (Q : Int → Prop) : Int := @dite Int (∃ v, FirstI Q v) (Classical.propDecidable _) (fun h => Classical.choose h) (fun _ => 0)
theorem bestI_spec {Q : Int → Prop} (h : ∃ i, (0 ≤ i ∧ i < 25) ∧ Q i) : FirstI Q (bestI Q) := by
  have e := firstI_ex h
  unfold bestI
  rw [dif_pos e]
  exact Classical.choose_spec e
/-- the first way, hour for hour -/
noncomputable def posV (K : Int → Int) (p rope : Int) (tied : Bool) (rocks : Int) (n : Nat) (jt : Int) (kt : Nat) : Nat → Int × Int
  | 0 => (K (13 + p), K (17 + p))
  | h + 1 => (oneF K p rocks ((h : Int) + 1) 0 (posV K p rope tied rocks n jt kt h).1 (bestI (goodI K p rope tied rocks n jt kt (h + 1) (posV K p rope tied rocks n jt kt h).1 (posV K p rope tied rocks n jt kt h).2) / 5),
      oneF K p rocks ((h : Int) + 1) 1 (posV K p rope tied rocks n jt kt h).2 (bestI (goodI K p rope tied rocks n jt kt (h + 1) (posV K p rope tied rocks n jt kt h).1 (posV K p rope tied rocks n jt kt h).2) % 5))
noncomputable def turnI (K : Int → Int) (p rope : Int) (tied : Bool) (rocks : Int) (n : Nat) (jt : Int) (kt h : Nat) : Int :=
  bestI (goodI K p rope tied rocks n jt kt (h + 1) (posV K p rope tied rocks n jt kt h).1 (posV K p rope tied rocks n jt kt h).2)
theorem pos_ok {K : Int → Int} {c p rope : Int} {tied : Bool} {rocks : Int} {n : Nat} {jt : Int} {kt : Nat} (hV : CV c K) (p0 : 0 ≤ p) (p1 : p < K 3) (ht : rchP K p rope tied rocks n jt kt) :
    ∀ h, h ≤ n → (0 ≤ (posV K p rope tied rocks n jt kt h).2 ∧ bakP K p rope tied rocks n jt kt h (posV K p rope tied rocks n jt kt h).1 (posV K p rope tied rocks n jt kt h).2.toNat) ∧
      (h < n → FirstI (goodI K p rope tied rocks n jt kt (h + 1) (posV K p rope tied rocks n jt kt h).1 (posV K p rope tied rocks n jt kt h).2) (turnI K p rope tied rocks n jt kt h)) := by
  have hw := wide_of hV.1 p0 p1
  have key : ∀ h, h < n → (0 ≤ (posV K p rope tied rocks n jt kt h).2 ∧ bakP K p rope tied rocks n jt kt h (posV K p rope tied rocks n jt kt h).1 (posV K p rope tied rocks n jt kt h).2.toNat) →
      FirstI (goodI K p rope tied rocks n jt kt (h + 1) (posV K p rope tied rocks n jt kt h).1 (posV K p rope tied rocks n jt kt h).2) (turnI K p rope tied rocks n jt kt h) :=
    fun h hh q => bestI_spec (good_ex hV p0 p1 ht hh q.1 q.2)
  intro h
  induction h with
  | zero =>
    intro _
    have hS := (curV_iff.mp hV.2).1 p p0 p1
    have h17 : 0 ≤ K (17 + p) := by omega
    exact ⟨⟨h17, bak_first ht h17⟩, fun q => key 0 q ⟨h17, bak_first ht h17⟩⟩
  | succ h ih =>
    intro hh
    have f := (ih (by omega)).2 (by omega)
    have g := f.2.1
    have o2 := oneF_rg (K := K) (p := p) (rocks := rocks) (n := ((h + 1 : Nat) : Int)) (who := 1) (j := (posV K p rope tied rocks n jt kt h).2) (t := turnI K p rope tied rocks n jt kt h % 5) hw.1.1 hw.1.2 hw.2.1 hw.2.2
    have q : 0 ≤ (posV K p rope tied rocks n jt kt (h + 1)).2 ∧ bakP K p rope tied rocks n jt kt (h + 1) (posV K p rope tied rocks n jt kt (h + 1)).1 (posV K p rope tied rocks n jt kt (h + 1)).2.toNat := by
      refine ⟨?_, g.2.2⟩
      rcases o2 with z | z
      · exact absurd z g.2.1
      · exact z.1
    exact ⟨q, fun z => key (h + 1) z q⟩

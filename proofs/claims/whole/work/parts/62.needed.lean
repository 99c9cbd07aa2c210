/-! ===== D42: needed ===== -/
theorem pos_mv {K : Int → Int} {c p rope : Int} {tied : Bool} {rocks : Int} {n : Nat} {jt : Int} {kt h : Nat} (hV : CV c K) (p0 : 0 ≤ p) (p1 : p < K 3) (ht : rchP K p rope tied rocks n jt kt) (hh : h < n) :
    mvP K p rocks 0 ((h : Int) + 1) (posV K p rope tied rocks n jt kt h).1 (posV K p rope tied rocks n jt kt (h + 1)).1 ∧ mvP K p rocks 1 ((h : Int) + 1) (posV K p rope tied rocks n jt kt h).2 (posV K p rope tied rocks n jt kt (h + 1)).2 := by
  have hw := wide_of hV.1 p0 p1
  have hf := (pos_ok hV p0 p1 ht h (by omega)).2 hh
  have rg := pos_rg hV p0 p1 ht (show h ≤ n by omega)
  obtain ⟨hi, ⟨ga, gb, _⟩, _⟩ := hf
  rw [show ((h + 1 : Nat) : Int) = (h : Int) + 1 by omega] at ga gb
  exact ⟨((one_mv hw.1.1 hw.1.2 hw.2.1 hw.2.2 rg.1.1 rg.1.2).mp ⟨_, by omega, rfl, ga⟩).2, ((one_mv hw.1.1 hw.1.2 hw.2.1 hw.2.2 rg.2.1 rg.2.2).mp ⟨_, by omega, rfl, gb⟩).2⟩
/-- x lies on the way, within its first h hours -/
def passP (K : Int → Int) (p rope : Int) (tied : Bool) (rocks : Int) (n : Nat) (jt : Int) (kt h : Nat) (x : Nat) : Prop :=
  ∃ q : Nat, 1 ≤ q ∧ q ≤ h ∧ ((posV K p rope tied rocks n jt kt q).1 = x ∨ (posV K p rope tied rocks n jt kt q).2 = x)
theorem pass_free {K : Int → Int} {c p rope : Int} {tied : Bool} {rocks : Int} {n : Nat} {jt : Int} {kt : Nat} {x : Nat} (hV : CV c K) (p0 : 0 ≤ p) (p1 : p < K 3) (ht : rchP K p rope tied rocks n jt kt) (h13 : (x : Int) ≠ K (13 + p)) (h17 : (x : Int) ≠ K (17 + p)) :
    ∀ q, q ≤ n → ((posV K p rope tied rocks n jt kt q).1 = x ∨ (posV K p rope tied rocks n jt kt q).2 = x) → tb rocks x = false := by
  intro q
  induction q with
  | zero => rintro _ (e | e); exact absurd e.symm h13; exact absurd e.symm h17
  | succ q ih =>
    intro hq e
    obtain ⟨m0, m1⟩ := pos_mv hV p0 p1 ht (show q < n by omega)
    rcases e with e | e
    · rcases m0 with z | ⟨_, _, z⟩
      · exact ih (by omega) (.inl (z ▸ e))
      · rw [e, Int.toNat_natCast] at z; exact z
    · rcases m1 with z | ⟨_, _, z⟩
      · exact ih (by omega) (.inr (z ▸ e))
      · rw [e, Int.toNat_natCast] at z; exact z
theorem way_past {K : Int → Int} {c p rope : Int} {tied : Bool} {rocks rocks' : Int} {n : Nat} {jt : Int} {kt : Nat} {x : Nat} (hV : CV c K) (p0 : 0 ≤ p) (p1 : p < K 3) (ht : rchP K p rope tied rocks n jt kt) (hr : ∀ i, i < 32 → tb rocks' i = (tb rocks i || decide (i = x)))
    (hno : ¬ passP K p rope tied rocks n jt kt n x) : ∀ q, q ≤ n → rchP K p rope tied rocks' q (posV K p rope tied rocks n jt kt q).1 (posV K p rope tied rocks n jt kt q).2.toNat := by
  have hw := wide_of hV.1 p0 p1
  have ar := area_le hw.1.1 hw.1.2 hw.2.1 hw.2.2
  intro q
  induction q with
  | zero =>
    intro _
    have hS := (curV_iff.mp hV.2).1 p p0 p1
    exact ⟨rfl, Int.toNat_of_nonneg (show 0 ≤ K (17 + p) by omega)⟩
  | succ q ih =>
    intro hq
    obtain ⟨m0, m1⟩ := pos_mv hV p0 p1 ht (show q < n by omega)
    have rg := pos_rg hV p0 p1 ht hq
    have rg0 := pos_rg hV p0 p1 ht (show q ≤ n by omega)
    have r := bak_rch ht hq (pos_ok hV p0 p1 ht (q + 1) hq).1.2
    obtain ⟨_, a2, a3, _⟩ : nxtP K p rope tied rocks ((q : Int) + 1) (rchP K p rope tied rocks q) (posV K p rope tied rocks n jt kt (q + 1)).1 (posV K p rope tied rocks n jt kt (q + 1)).2.toNat := r
    have n1 : (posV K p rope tied rocks n jt kt (q + 1)).1 ≠ x := fun e => hno ⟨q + 1, by omega, hq, .inl e⟩
    have n2 : (posV K p rope tied rocks n jt kt (q + 1)).2 ≠ x := fun e => hno ⟨q + 1, by omega, hq, .inr e⟩
    have fix : ∀ {who a b : Int}, 0 ≤ b → b < K 1 * K 2 → b ≠ x → mvP K p rocks who ((q : Int) + 1) a b → mvP K p rocks' who ((q : Int) + 1) a b := by
      rintro who a b z0 z1 hx (e | ⟨d1, d2, d3⟩)
      · exact .inl e
      · refine .inr ⟨d1, d2, ?_⟩
        rw [hr _ (by omega), d3, Bool.false_or, decide_eq_false (by omega)]
    refine ⟨rg.1, a2, a3, (posV K p rope tied rocks n jt kt q).1, rg0.1, fix rg.1.1 rg.1.2 n1 m0, (posV K p rope tied rocks n jt kt q).2.toNat, ih (by omega), ?_⟩
    rw [Int.toNat_of_nonneg rg.2.1, Int.toNat_of_nonneg rg0.2.1]
    exact fix rg.2.1 rg.2.2 n2 m1
noncomputable def withV (K : Int → Int) (p j k i : Int) : Int := wayV K p (K (25 + p)) (tied0 K p) (ior (K 8) (ishl 1 i)) j k
def freeP (K : Int → Int) (p j k : Int) (i : Nat) : Prop := (i : Int) < K 1 * K 2 ∧ ((i : Int) ≠ K (13 + p) ∧ (i : Int) ≠ K (17 + p)) ∧ ((i : Int) ≠ j ∧ (i : Int) ≠ k)
def needP (K : Int → Int) (p j k : Int) (i : Nat) : Prop := ownV K p j k ≠ -1 ∧ freeP K p j k i ∧ tb (K 8) i = false ∧ withV K p j k i = -1
theorem need_pass {K : Int → Int} {c p j k : Int} {i n : Nat} (hV : CV c K) (p0 : 0 ≤ p) (p1 : p < K 3) (k0 : 0 ≤ k) (n40 : n ≤ 40) (hn : ownV K p j k = n) (hf : freeP K p j k i) :
    (tb (K 8) i = false ∧ withV K p j k i = -1) ↔ (passP K p (K (25 + p)) (tied0 K p) (K 8) n j k.toNat n i ∧ withV K p j k i = -1) := by
  have hw := wide_of hV.1 p0 p1
  have ar := area_le hw.1.1 hw.1.2 hw.2.1 hw.2.2
  have hi := hf.1
  have hq : rchP K p (K (25 + p)) (tied0 K p) (K 8) n j k.toNat := by
    rcases firstV_spec (fun h => rchP K p (K (25 + p)) (tied0 K p) (K 8) h j k.toNat) with ⟨h, a, b, d, _⟩ | ⟨a, _⟩
    · have : ownV K p j k = h := b
      rw [show n = h by omega]; exact d
    · have : ownV K p j k = -1 := a
      omega
  constructor
  · rintro ⟨a, b⟩
    refine ⟨?_, b⟩
    apply Classical.byContradiction
    intro hno
    have hr : ∀ q, q < 32 → tb (ior (K 8) (ishl 1 (i : Int))) q = (tb (K 8) q || decide (q = i)) := fun q hq => by rw [tb_or, tb_pow (by omega) hq]
    have w := way_past hV p0 p1 hq hr hno n (Nat.le_refl n)
    obtain ⟨e1, e2⟩ := bak_end.mp (pos_ok hV p0 p1 hq n (Nat.le_refl n)).1.2
    rw [e1, e2] at w
    rcases firstV_spec (fun h => rchP K p (K (25 + p)) (tied0 K p) (ior (K 8) (ishl 1 (i : Int))) h j k.toNat) with ⟨h, _, d, _⟩ | ⟨_, d⟩
    · have : withV K p j k i = h := d
      omega
    · exact d n n40 w
  · rintro ⟨⟨q, _, q2, e⟩, b⟩
    exact ⟨pass_free hV p0 p1 hq hf.2.1.1 hf.2.1.2 q q2 e, b⟩

/-! ===== D38: the class goes back from where they meet ===== -/
/-- the second gets, in the hour that ends at h, onto the way of a first at i -/
def secP (K : Int → Int) (p rope : Int) (tied : Bool) (rocks : Int) (n : Nat) (jt : Int) (kt h : Nat) (i : Int) (k : Nat) : Prop :=
  (k : Int) < K 1 * K 2 ∧ ∃ k' : Nat, bakP K p rope tied rocks n jt kt h i k' ∧ mvP K p rocks 1 h (k : Int) (k' : Nat)
theorem c_traceBack {K : Int → Int} {c p rope rocks jt kt : Int} {tied : Bool} {n : Nat} {m : Mem} (hR : CR K m) (hV : CV c K) (p0 : 0 ≤ p) (p1 : p < K 3) (hA : AhR K p rope tied rocks m) (hn : (n : Int) ≤ m 18 16) (hS : SetsR K p rope tied rocks n m)
    (j0 : 0 ≤ jt) (j1 : jt < K 1 * K 2) (k0 : 0 ≤ kt) (k1 : kt < K 1 * K 2) (ht : rchP K p rope tied rocks n jt kt.toNat) :
    Ok (fX0_traceBack jt kt n m) (fun m' => BackR K p rope tied rocks n jt kt.toNat m' ∧ Fr [83, 84] m m') := by
  have hw := wide_of hV.1 p0 p1
  have ar := area_le hw.1.1 hw.1.2 hw.2.1 hw.2.2
  obtain ⟨⟨s9, s10⟩, hN, ⟨s12, s13, s14, s15⟩, ⟨t0, t1, t2⟩, _⟩ := hA
  unfold fX0_traceBack
  simp only [rd_eq, wr_eq, jn_eq]
  refine ok_bV (c_fillI (by decide)) ?_
  rintro m1 ⟨f1, _, F1⟩
  rw [w32_id (x := (n : Int) * 25) (by omega) (by omega), w32_id (x := (n : Int) * 25 + jt) (by omega) (by omega), chk_of (by omega)]
  refine lp_ok (fun (t : Int) (mm : Mem) => (0 ≤ t ∧ t ≤ n) ∧ (∀ h : Nat, t ≤ h → h ≤ n → ∀ j, 0 ≤ j → j < K 1 * K 2 → Bits (mm 83 (25 * h + j)) (bakP K p rope tied rocks n jt kt.toNat h j)) ∧ Fr [83, 84] m mm) (fun t _ => t.toNat) ⟨by omega, fun h a b j z0 z1 => ?_, fr_up (by simp) (fr_mono' F1 (by decide))⟩ (by omega) ?_
  · have e : h = n := by omega
    subst e
    rw [up_at]
    by_cases ej : j = jt
    · rw [if_pos (by omega), ej]
      refine ⟨ishl_rg _ _, fun i hi => ?_⟩
      rw [tb_powi k0 (by omega) hi, bak_end, decide_eq_true_eq]
      exact ⟨fun q => ⟨rfl, q⟩, fun q => q.2⟩
    · rw [if_neg (by omega), f1 _ (by omega) (by omega)]
      refine bits_zero (fun i _ q => ej (bak_end.mp q).1)
  rintro G t mm ⟨⟨z0, z1⟩, hB, hF⟩ ih
  by_cases hx : t < 1
  · rw [if_pos hx]
    exact ok_some ⟨fun h a => hB h (by omega) a, hF⟩
  obtain ⟨h, rfl⟩ : ∃ h : Nat, t = h := ⟨t.toNat, by omega⟩
  have e18 : mm 18 = m 18 := hF 18 (by decide)
  have e78 : mm 78 = m 78 := hF 78 (by decide)
  have e79 : mm 79 = m 79 := hF 79 (by decide)
  obtain ⟨o1, o2⟩ := t2 h (by omega) (by omega)
  rw [if_neg hx, chk_of (by omega), chk_of (by omega), e18, e78, e79, s13, w32_id (x := (h : Int) * 25) (by omega) (by omega), w32_id (x := (h : Int) * 25 - 25) (by omega) (by omega)]
  have B1 := bits_andn (y := rocks) o1
  have B2 := bits_andn (y := rocks) o2
  generalize iand (m 78 h) (ixor rocks (-1)) = fo at *
  generalize iand (m 79 h) (ixor rocks (-1)) = so at *
  refine ok_bV (c_fillI (by decide)) ?_
  rintro m2 ⟨_, _, F2⟩
  have hBh := fun j z0 z1 => hB h (by omega) (by omega) j z0 z1
  have kk : ∀ i k, bakP K p rope tied rocks n jt kt.toNat h i k → (k : Int) < K 1 * K 2 := fun i k q => (rch_rg hV p0 p1 _ _ _ (bak_rch ht (by omega) q)).2
  have jj : ∀ i k, bakP K p rope tied rocks n jt kt.toNat h i k → 0 ≤ i ∧ i < K 1 * K 2 := fun i k q => (rch_rg hV p0 p1 _ _ _ (bak_rch ht (by omega) q)).1
  have F02 : Fr [83, 84] m m2 := fr_trans hF (fr_mono' F2 (by decide))
  -- the first loop
  refine lp_for (K 1 * K 2) (fun i m3 => 0 ≤ i ∧ (∀ j, 0 ≤ j → j < i → Bits (m3 83 ((h : Int) * 25 - 25 + j)) (secP K p rope tied rocks n jt kt.toNat h j) ∧ Bits (m3 84 j) (fun k => tb fo j.toNat = true ∧ secP K p rope tied rocks n jt kt.toNat h j k)) ∧ (∀ q, 25 * (h : Int) ≤ q → m3 83 q = mm 83 q) ∧ Fr [83, 84] m m3) ⟨by omega, fun j _ _ => by omega, fun q _ => by rw [F2 83 (by decide)], F02⟩ (by omega) (by omega) ?_ ?_
  · rintro G2 i m3 hi ⟨i0, ib, ic, hF3⟩ ih2
    have e18 : m3 18 = m 18 := hF3 18 (by decide)
    have hBi := hBh i i0 hi
    rw [e18, s9, if_neg (by omega), w32_id (x := (h : Int) * 25 + i) (by omega) (by omega), w32_id (x := (h : Int) * 25 - 25 + i) (by omega) (by omega), w32_id (x := i + 1) (by omega) (by omega), chk_of (by omega), chk_of (by omega), ic _ (by omega), show (h : Int) * 25 + i = 25 * (h : Int) + i by omega]
    obtain ⟨y, ey, hy⟩ := c_around (m := m3) hw.1.1 hw.1.2 hw.2.1 hw.2.2 (by rw [e18]; exact s9) (by rw [e18]; exact s10) (by rw [e18]; exact hN.1) (bits_and2 hBi B2) (fun k q => kk i k q.1)
    rw [ey, bR_some, chk_of (by omega), chk_of (by omega), up_same, bit_ui _ i0 (by omega)]
    have hv : Bits (ior (mm 83 (25 * (h : Int) + i)) y) (secP K p rope tied rocks n jt kt.toNat h i) := by
      refine bits_imp (bits_or2 hBi hy) (fun k _ => ?_)
      unfold secP mvP
      constructor
      · rintro (q | ⟨q1, j, ⟨q2, q3, q4⟩, q5⟩)
        · exact ⟨kk i k q, k, q, .inl rfl⟩
        · exact ⟨q1, j, q2, .inr ⟨adj_symm hw.1.1 hw.1.2 (by omega) (kk i j q2) (by omega) q1 q5, q3.2, by rw [Int.toNat_natCast]; exact q4⟩⟩
      · rintro ⟨q1, j, q2, q3 | ⟨q3, q4, q5⟩⟩
        · rw [show k = j by omega]; exact .inl q2
        · refine .inr ⟨q1, j, ⟨q2, ⟨kk i j q2, q4⟩, by rw [Int.toNat_natCast] at q5; exact q5⟩, adj_symm hw.1.1 hw.1.2 (by omega) q1 (by omega) (kk i j q2) q3⟩
    generalize ior (mm 83 (25 * (h : Int) + i)) y = v at *
    have next : ∀ x, Bits x (fun k => tb fo i.toNat = true ∧ secP K p rope tied rocks n jt kt.toNat h i k) → Ok (G2 (i + 1) (up (up m3 83 ((h : Int) * 25 - 25 + i) v) 84 i x)) (fun m' => BackR K p rope tied rocks n jt kt.toNat m' ∧ Fr [83, 84] m m') := by
      intro x hx
      refine ih2 _ ⟨by omega, fun j a b => ?_, fun q hq => ?_, fr_up (by simp) (fr_up (by simp) hF3)⟩
      · by_cases e : j = i
        · subst e
          rw [up_same, up_cell (by decide), up_same]; exact ⟨hv, hx⟩
        · rw [up_idx e, up_cell (o' := 83) (by decide), up_cell (o' := 84) (by decide), up_idx (by omega)]; exact ib j a (by omega)
      · rw [up_cell (by decide), up_idx (by omega)]; exact ic q hq
    cases hb : tb fo i.toNat
    · rw [if_pos (by simp)]
      exact next 0 (bits_zero (fun k _ q => by rw [hb] at q; exact absurd q.1 (by decide)))
    · rw [if_neg (by simp), chk_of (by omega), chk_of (by omega)]
      exact next v (bits_imp hv (fun k _ => ⟨fun q => ⟨hb, q⟩, fun q => q.2⟩))
  · rintro G2 m3 ⟨_, ib, ic, hF3⟩
    rw [hF3 18 (by decide), s9, if_pos (by omega)]
    -- the second loop
    refine lp_for (K 1 * K 2) (fun i m4 => 0 ≤ i ∧ (∀ j, 0 ≤ j → j < i → Bits (m4 83 ((h : Int) * 25 - 25 + j)) (bakP K p rope tied rocks n jt kt.toNat (h - 1) j)) ∧ (∀ j, i ≤ j → j < K 1 * K 2 → Bits (m4 83 ((h : Int) * 25 - 25 + j)) (secP K p rope tied rocks n jt kt.toNat h j)) ∧ (∀ q, 25 * (h : Int) ≤ q → m4 83 q = mm 83 q) ∧ m4 84 = m3 84 ∧ Fr [83, 84] m m4) ⟨by omega, fun j _ _ => by omega, fun j a b => (ib j a b).1, ic, rfl, hF3⟩ (by omega) (by omega) ?_ ?_
    · rintro G4 i m4 hi ⟨i0, d1, d2, d3, d4, hF4⟩ ih4
      have e18 : m4 18 = m 18 := hF4 18 (by decide)
      rw [e18, s9, if_neg (by omega), w32_id (x := (h : Int) * 25 - 25 + i) (by omega) (by omega), w32_id (x := i + 1) (by omega) (by omega), chk_of (by omega)]
      obtain ⟨y, ey, hy⟩ := c_spreadAround (m := m4) (j := i) hw.1.1 hw.1.2 hw.2.1 hw.2.2 (by rw [e18]; exact s9) (by rw [e18]; exact s10) (by rw [e18]; exact hN.1) i0 hi (fun q z0 z1 => by rw [d4]; exact (ib q z0 z1).2)
      rw [ey, bR_some, chk_of (by omega), chk_of (by omega), hF4 82 (by decide)]
      have hS' := hS (h - 1) (by omega) i i0 hi
      rw [show 25 * ((h - 1 : Nat) : Int) + i = (h : Int) * 25 - 25 + i by omega] at hS'
      have hfo := tb_iff B1 (fun q z => by have := z.1.1; omega)
      have hv : Bits (iand (ior (m4 83 ((h : Int) * 25 - 25 + i)) y) (m 82 ((h : Int) * 25 - 25 + i))) (bakP K p rope tied rocks n jt kt.toNat (h - 1) i) := by
        refine bits_imp (bits_and2 (bits_or2 (d2 i (by omega) hi) hy) hS') (fun k _ => ?_)
        rw [bak_step (show h - 1 < n by omega), show h - 1 + 1 = h by omega, show ((h - 1 : Nat) : Int) + 1 = h by omega]
        constructor
        · rintro ⟨⟨q1, k', q2, q3⟩ | ⟨j', hj', q1, q2, q3, k', q4, q5⟩, q6⟩
          · exact ⟨q6, i, k', q2, .inl rfl, q3⟩
          · have w := (hfo _).mp q2
            unfold openP at w
            rw [Int.toNat_of_nonneg hj'.1] at w
            exact ⟨q6, j', k', q4, .inr ⟨adj_symm hw.1.1 hw.1.2 hj'.1 hj'.2 i0 hi q1, w.1.2, w.2⟩, q5⟩
        · rintro ⟨q6, j', k', q4, q7 | ⟨q7, q8, q9⟩, q5⟩
          · subst q7
            exact ⟨.inl ⟨(rch_rg hV p0 p1 _ _ _ q6).2, k', q4, q5⟩, q6⟩
          · have hj' := jj _ _ q4
            exact ⟨.inr ⟨j', hj', adj_symm hw.1.1 hw.1.2 i0 hi hj'.1 hj'.2 q7, (hfo _).mpr ⟨⟨by omega, by rw [Int.toNat_of_nonneg hj'.1]; exact q8⟩, q9⟩, (rch_rg hV p0 p1 _ _ _ q6).2, k', q4, q5⟩, q6⟩
      generalize iand (ior (m4 83 ((h : Int) * 25 - 25 + i)) y) (m 82 ((h : Int) * 25 - 25 + i)) = v at *
      refine ih4 _ ⟨by omega, fun j a b => ?_, fun j a b => ?_, fun q hq => ?_, (up_cell (by decide)).trans d4, fr_up (by simp) hF4⟩
      · by_cases e : j = i
        · subst e; rw [up_same]; exact hv
        · rw [up_idx (by omega)]; exact d1 j a (by omega)
      · rw [up_idx (by omega)]; exact d2 j (by omega) b
      · rw [up_idx (by omega)]; exact d3 q hq
    · rintro G4 m4 ⟨_, d1, _, d3, _, hF4⟩
      rw [hF4 18 (by decide), s9, if_pos (by omega), w32_id (by omega) (by omega)]
      refine ih _ _ ⟨by omega, fun h' a b j z0 z1 => ?_, hF4⟩ (by show ((h : Int) + -1).toNat < (h : Int).toNat; omega)
      by_cases e : h' = h - 1
      · subst e
        rw [show 25 * ((h - 1 : Nat) : Int) + j = (h : Int) * 25 - 25 + j by omega]; exact d1 j z0 z1
      · rw [d3 _ (by omega)]; exact hB h' (by omega) b j z0 z1

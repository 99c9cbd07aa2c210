/-! ===== D61: other ===== -/
def rchW (K : Int → Int) (p rope : Int) (tied : Bool) (rocks : Int) (wf : Nat → Int) : Nat → Int → Nat → Prop
  | 0 => fun j k => j = K (13 + p) ∧ (k : Int) = K (17 + p)
  | n + 1 => fun j k => nxtP K p rope tied rocks ((n : Int) + 1) (rchW K p rope tied rocks wf n) j k ∧ (wf n = -1 ∨ j = wf n)
theorem rchW_rg {K : Int → Int} {c p rope rocks : Int} {tied : Bool} {wf : Nat → Int} (hV : CV c K) (p0 : 0 ≤ p) (p1 : p < K 3) : ∀ (n : Nat) (j : Int) (k : Nat), rchW K p rope tied rocks wf n j k → (0 ≤ j ∧ j < K 1 * K 2) ∧ (k : Int) < K 1 * K 2
  | 0, j, k, h => by
    have hS := (curV_iff.mp hV.2).1 p p0 p1
    obtain ⟨h1, h2⟩ : j = K (13 + p) ∧ (k : Int) = K (17 + p) := h
    omega
  | n + 1, j, k, h => by
    obtain ⟨⟨h0, h1, _⟩, _⟩ : nxtP K p rope tied rocks ((n : Int) + 1) (rchW K p rope tied rocks wf n) j k ∧ (wf n = -1 ∨ j = wf n) := h
    exact ⟨h0, h1⟩
theorem rchW_down {K : Int → Int} {p rope rocks : Int} {tied : Bool} {wf : Nat → Int} {n : Nat} : ∀ d, (∃ j k, rchW K p rope tied rocks wf (n + d) j k) → ∃ j k, rchW K p rope tied rocks wf n j k
  | 0, h => h
  | d + 1, h => by
    obtain ⟨j, k, ⟨_, _, _, j0, _, _, k0, q, _⟩, _⟩ := h
    exact rchW_down d ⟨j0, k0, q⟩
theorem both_nxtG {K : Int → Int} {c p rope rocks h : Int} {tied : Bool} {P : Int → Nat → Prop} {b : Int} (hV : CV c K) (p0 : 0 ≤ p) (p1 : p < K 3) (hPr : ∀ j k, P j k → (0 ≤ j ∧ j < K 1 * K 2) ∧ (k : Int) < K 1 * K 2) (b0 : 0 ≤ b) (b1 : b < 625) :
    (∃ b' i, (0 ≤ b' ∧ b' < 625) ∧ P (b' / 25) (b' % 25).toNat ∧ (0 ≤ i ∧ i < 25) ∧ bothF K p rope tied rocks h b' i = b) ↔ nxtP K p rope tied rocks h P (b / 25) (b % 25).toNat := by
  have hw := wide_of hV.1 p0 p1
  have ar := area_le hw.1.1 hw.1.2 hw.2.1 hw.2.2
  constructor
  · rintro ⟨b', i, hb', hc, hi, e⟩
    have rg := hPr _ _ hc
    rw [Int.toNat_of_nonneg (show 0 ≤ b' % 25 by omega)] at rg
    unfold bothF at e
    have g1 := oneF_rg (K := K) (p := p) (rocks := rocks) (n := h) (who := 0) (j := b' / 25) (t := i / 5) hw.1.1 hw.1.2 hw.2.1 hw.2.2
    have g2 := oneF_rg (K := K) (p := p) (rocks := rocks) (n := h) (who := 1) (j := b' % 25) (t := i % 5) hw.1.1 hw.1.2 hw.2.1 hw.2.2
    generalize hx : oneF K p rocks h 0 (b' / 25) (i / 5) = x at *
    generalize hy : oneF K p rocks h 1 (b' % 25) (i % 5) = y at *
    by_cases hx1 : x = -1
    · rw [if_pos hx1] at e; omega
    rw [if_neg hx1] at e
    by_cases hy1 : y = -1
    · rw [if_pos hy1] at e; omega
    rw [if_neg hy1] at e
    by_cases hq : apartF (K 1) x y ≤ ropeF K p rope tied h
    · rw [if_pos hq] at e
      have ex : b / 25 = x := by omega
      have ey : b % 25 = y := by omega
      have m1 := (one_mv (j' := x) hw.1.1 hw.1.2 hw.2.1 hw.2.2 rg.1.1 rg.1.2).mp ⟨i / 5, by omega, hx, hx1⟩
      have m2 := (one_mv (j' := y) hw.1.1 hw.1.2 hw.2.1 hw.2.2 (show 0 ≤ b' % 25 by omega) rg.2).mp ⟨i % 5, by omega, hy, hy1⟩
      rw [ex, ey]
      have ap8 := apartF_8 hw.1.1 hw.1.2 hw.2.1 hw.2.2 m1.1.1 m1.1.2 m2.1.1 m2.1.2
      refine ⟨m1.1, by omega, ?_, b' / 25, rg.1, m1.2, (b' % 25).toNat, hc, ?_⟩
      · rw [Int.toNat_of_nonneg m2.1.1]; exact (rope_teth ap8).mp hq
      · rw [Int.toNat_of_nonneg m2.1.1, Int.toNat_of_nonneg (by omega)]; exact m2.2
    · rw [if_neg hq] at e; omega
  · intro h
    obtain ⟨h1, h2, h3, j0, hj0, h4, k0, h5, h6⟩ := h
    rw [Int.toNat_of_nonneg (show 0 ≤ b % 25 by omega)] at h2 h3 h6
    have rg := hPr _ _ h5
    obtain ⟨t, ht, et, nt⟩ := (one_mv hw.1.1 hw.1.2 hw.2.1 hw.2.2 hj0.1 hj0.2).mpr ⟨h1, h4⟩
    obtain ⟨u, hu, eu, nu⟩ := (one_mv hw.1.1 hw.1.2 hw.2.1 hw.2.2 (show 0 ≤ (k0 : Int) by omega) rg.2).mpr ⟨⟨by omega, h2⟩, h6⟩
    have ap8 := apartF_8 hw.1.1 hw.1.2 hw.2.1 hw.2.2 h1.1 h1.2 (show 0 ≤ b % 25 by omega) h2
    refine ⟨25 * j0 + k0, 5 * t + u, by omega, ?_, by omega, ?_⟩
    · rw [show (25 * j0 + (k0 : Int)) / 25 = j0 by omega, show (25 * j0 + (k0 : Int)) % 25 = k0 by omega, Int.toNat_natCast]; exact h5
    · unfold bothF
      rw [show (25 * j0 + (k0 : Int)) / 25 = j0 by omega, show (25 * j0 + (k0 : Int)) % 25 = k0 by omega, show (5 * t + u) / 5 = t by omega, show (5 * t + u) % 5 = u by omega, et, eu, if_neg nt, if_neg nu, if_pos ((rope_teth ap8).mpr h3)]
      omega
theorem rowT_pos {K : Int → Int} {p rope rocks h w v b B : Int} {tied : Bool} {nx : Int → Int} (w2 : 2 ≤ K 1) (w5 : K 1 ≤ 5) (v2 : 2 ≤ K 2) (v5 : K 2 ≤ 5) (v0 : 0 < v) (hT : TabV (K 1 * K 2) B nx) (hB : B + 25 * v < 9223372036854775808) :
    ∀ i : Nat, i ≤ 25 → ∀ q, 0 ≤ q → q < 625 → (0 < rowT K p rope tied rocks h w v b nx i q ↔ 0 < nx q ∨ ∃ i' : Int, (0 ≤ i' ∧ i' < (i : Int)) ∧ bothF K p rope tied rocks h b i' = q ∧ (w = -1 ∨ q / 25 = w)) := by
  intro i
  induction i with
  | zero => intro _ q _ _; exact ⟨fun z => .inl z, fun z => z.elim (fun z => z) (fun ⟨i', z, _⟩ => by omega)⟩
  | succ i ih =>
    intro hi q q0 q1
    have ht := rowT_tab (K := K) (p := p) (rope := rope) (tied := tied) (rocks := rocks) (h := h) (w := w) (b := b) w2 w5 v2 v5 (Int.le_of_lt v0) hT hB i (by omega)
    have I := ih (by omega) q q0 q1
    have rg := bothF_rg (K := K) (p := p) (rope := rope) (tied := tied) (rocks := rocks) (h := h) (b := b) (i := (i : Int)) w2 w5 v2 v5
    have hiv : (i : Int) * v ≤ 24 * v := Int.mul_le_mul_of_nonneg_right (by omega) (Int.le_of_lt v0)
    show 0 < stT K p rope tied rocks h w v b (i : Int) (rowT K p rope tied rocks h w v b nx i) q ↔ _
    unfold stT
    generalize rowT K p rope tied rocks h w v b nx i = r at *
    generalize hx : bothF K p rope tied rocks h b (i : Int) = x at *
    by_cases z : x ≠ -1 ∧ (w = -1 ∨ x / 25 = w)
    · rw [if_pos z]
      by_cases e : q = x
      · have r0 := ht.1 q q0 q1
        have r1 := sum_ge 625 ht.1 q q0 q1
        have r2 := ht.2.2
        rw [← e, ku_at, w64_id (by omega) (by omega)]
        exact ⟨fun _ => .inr ⟨(i : Int), by omega, by rw [hx, e], by rw [e]; exact z.2⟩, fun _ => by omega⟩
      · rw [ku_ne e, I]
        refine ⟨fun y => y.elim .inl (fun ⟨i', a, b, d⟩ => .inr ⟨i', by omega, b, d⟩), fun y => y.elim .inl (fun ⟨i', a, b, d⟩ => .inr ⟨i', ⟨a.1, ?_⟩, b, d⟩)⟩
        by_cases e2 : i' = i
        · rw [e2, hx] at b; exact absurd b.symm e
        · omega
    · rw [if_neg z, I]
      refine ⟨fun y => y.elim .inl (fun ⟨i', a, b, d⟩ => .inr ⟨i', by omega, b, d⟩), fun y => y.elim .inl (fun ⟨i', a, b, d⟩ => .inr ⟨i', ⟨a.1, ?_⟩, b, d⟩)⟩
      by_cases e2 : i' = i
      · rw [e2, hx] at b
        exact absurd ⟨by omega, by rw [b]; exact d⟩ z
      · omega
theorem allT_pos {K : Int → Int} {p rope rocks h w B : Int} {tied : Bool} {f : Int → Int} (w2 : 2 ≤ K 1) (w5 : K 1 ≤ 5) (v2 : 2 ≤ K 2) (v5 : K 2 ≤ 5) (hT : TabV (K 1 * K 2) B f) (hB : 25 * B < 9223372036854775808) :
    ∀ b : Nat, b ≤ 625 → ∀ q, 0 ≤ q → q < 625 → (0 < allT K p rope tied rocks h w f b q ↔ ∃ b' : Int, (0 ≤ b' ∧ b' < (b : Int)) ∧ 0 < f b' ∧ ∃ i' : Int, (0 ≤ i' ∧ i' < 25) ∧ bothF K p rope tied rocks h b' i' = q ∧ (w = -1 ∨ q / 25 = w)) := by
  intro b
  induction b with
  | zero => intro _ q _ _; exact ⟨fun z => absurd (show (0 : Int) < 0 from z) (by decide), fun ⟨b', z, _⟩ => by omega⟩
  | succ b ih =>
    intro hb q q0 q1
    have I := ih (by omega) q q0 q1
    have f0 := hT.1 (b : Int) (by omega) (by omega)
    have at0 := allT_tab (K := K) (p := p) (rope := rope) (tied := tied) (rocks := rocks) (h := h) (w := w) w2 w5 v2 v5 hT hB b (by omega)
    have sm := sum_mono (g := f) (n := b + 1) (625 - (b + 1)) (fun q z0 z1 => hT.1 q z0 (by omega))
    rw [show b + 1 + (625 - (b + 1)) = 625 by omega] at sm
    have es : sumF f (b + 1) = sumF f b + f (b : Int) := rfl
    have s3 := hT.2.2
    show 0 < (if f (b : Int) ≤ 0 then allT K p rope tied rocks h w f b else rowT K p rope tied rocks h w (f (b : Int)) (b : Int) (allT K p rope tied rocks h w f b) 25) q ↔ _
    by_cases z : f (b : Int) ≤ 0
    · rw [if_pos z, I]
      refine ⟨fun ⟨b', a, d⟩ => ⟨b', by omega, d⟩, fun ⟨b', a, d, e⟩ => ⟨b', ⟨a.1, ?_⟩, d, e⟩⟩
      by_cases e2 : b' = b
      · rw [e2] at d; omega
      · omega
    · rw [if_neg z, rowT_pos w2 w5 v2 v5 (by omega) at0 (by omega) 25 (Nat.le_refl _) q q0 q1, I]
      constructor
      · rintro (⟨b', a, d⟩ | ⟨i', a, d⟩)
        · exact ⟨b', by omega, d⟩
        · exact ⟨b, by omega, by omega, i', by omega, d⟩
      · rintro ⟨b', a, d, i', e1, e2⟩
        by_cases e : b' = b
        · rw [e] at e2; exact .inr ⟨i', by omega, e2⟩
        · exact .inl ⟨b', by omega, d, i', e1, e2⟩
def cntC (K : Int → Int) (p rope : Int) (tied : Bool) (rocks : Int) (wf : Nat → Int) : Nat → Int → Int
  | 0 => tab0 K p
  | h + 1 => fun q => imin 1 (allT K p rope tied rocks ((h : Int) + 1) (wf h) (cntC K p rope tied rocks wf h) 625 q)
theorem imin1 {y : Int} (h : 0 ≤ y) : (imin 1 y = 0 ∨ imin 1 y = 1) ∧ (imin 1 y = 1 ↔ 0 < y) := by
  unfold imin
  split <;> omega
theorem sum_le1 {g : Int → Int} : ∀ n : Nat, (∀ q, 0 ≤ q → q < (n : Int) → g q ≤ 1) → sumF g n ≤ n
  | 0, _ => Int.le_refl 0
  | n + 1, h => by
    have := sum_le1 n (fun q z0 z1 => h q z0 (by omega))
    have := h (n : Int) (by omega) (by omega)
    show sumF g n + g (n : Int) ≤ _
    omega
theorem cntC_ok {K : Int → Int} {c p rope rocks : Int} {tied : Bool} {wf : Nat → Int} (hV : CV c K) (p0 : 0 ≤ p) (p1 : p < K 3) : ∀ h : Nat, TabV (K 1 * K 2) 625 (cntC K p rope tied rocks wf h) ∧ ∀ q, 0 ≤ q → q < 625 → (cntC K p rope tied rocks wf h q = 0 ∨ cntC K p rope tied rocks wf h q = 1) ∧ (cntC K p rope tied rocks wf h q = 1 ↔ rchW K p rope tied rocks wf h (q / 25) (q % 25).toNat) := by
  have hw := wide_of hV.1 p0 p1
  intro h
  induction h with
  | zero =>
    have t := tab0_tab hV p0 p1
    refine ⟨⟨t.1, t.2.1, by have := t.2.2; show sumF (tab0 K p) 625 ≤ 625; omega⟩, fun q q0 q1 => ?_⟩
    have hS := (curV_iff.mp hV.2).1 p p0 p1
    have ar := area_le hw.1.1 hw.1.2 hw.2.1 hw.2.2
    show (tab0 K p q = 0 ∨ tab0 K p q = 1) ∧ (tab0 K p q = 1 ↔ (q / 25 = K (13 + p) ∧ (((q % 25).toNat : Nat) : Int) = K (17 + p)))
    unfold tab0
    by_cases e : q = 25 * K (13 + p) + K (17 + p)
    · rw [if_pos e]; exact ⟨.inr rfl, fun _ => by omega, fun _ => rfl⟩
    · rw [if_neg e]; exact ⟨.inl rfl, fun z => by omega, fun z => by omega⟩
  | succ h ih =>
    obtain ⟨hT, hq⟩ := ih
    have at0 := allT_tab (K := K) (p := p) (rope := rope) (tied := tied) (rocks := rocks) (h := (h : Int) + 1) (w := wf h) hw.1.1 hw.1.2 hw.2.1 hw.2.2 hT (by omega) 625 (Nat.le_refl _)
    have ap := allT_pos (K := K) (p := p) (rope := rope) (tied := tied) (rocks := rocks) (h := (h : Int) + 1) (w := wf h) hw.1.1 hw.1.2 hw.2.1 hw.2.2 hT (by omega) 625 (Nat.le_refl _)
    have ec : ∀ q, cntC K p rope tied rocks wf (h + 1) q = imin 1 (allT K p rope tied rocks ((h : Int) + 1) (wf h) (cntC K p rope tied rocks wf h) 625 q) := fun _ => rfl
    refine ⟨⟨fun q q0 q1 => ?_, fun q q0 q1 hn => at0.2.1 q q0 q1 (fun z => ?_), sum_le1 625 (fun q q0 q1 => ?_)⟩, fun q q0 q1 => ?_⟩
    · rw [ec]; have := imin1 (at0.1 q q0 q1); omega
    · rw [ec, z] at hn; exact hn rfl
    · rw [ec]; have := imin1 (at0.1 q q0 (by omega)); omega
    · rw [ec]
      have hi := imin1 (at0.1 q q0 q1)
      refine ⟨hi.1, hi.2.trans ((ap q q0 q1).trans ?_)⟩
      show _ ↔ nxtP K p rope tied rocks ((h : Int) + 1) (rchW K p rope tied rocks wf h) (q / 25) (q % 25).toNat ∧ (wf h = -1 ∨ q / 25 = wf h)
      rw [← both_nxtG hV p0 p1 (rchW_rg hV p0 p1 h) q0 q1]
      constructor
      · rintro ⟨b', a, d, i', e1, e2, e3⟩
        exact ⟨⟨b', i', by omega, (hq b' (by omega) (by omega)).2.mp (by have := (hq b' (by omega) (by omega)).1; omega), e1, e2⟩, e3⟩
      · rintro ⟨⟨b', i', a, d, e1, e2⟩, e3⟩
        exact ⟨b', by omega, by have := (hq b' (by omega) (by omega)).2.mpr d; omega, i', e1, e2, e3⟩

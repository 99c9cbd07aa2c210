/-! ===== D92: pairs told, token for token ===== -/
theorem N_pair {S : Stm} {pl : Int} {i : Nat} {K : Int → Int} {mc : Mem} (hS : StmV S) (h : LsC S 0 pl i K mc) (hk : S.kd i ≠ 0) : LkN S pl i K (fX6_readPair mc) mc fX12_readPair := by
  obtain ⟨hC, hD⟩ := h
  obtain ⟨hR, hV, h0⟩ := hD rfl
  obtain ⟨hi, e5, hC1, hF1⟩ := c_adv hS hC hk
  unfold fX6_readPair
  simp only [rd_eq]
  simp only [wr_eq]
  simp only [jn_eq]
  have c9 := st_cnt hS
  have r7 := hR.1.1
  have n0 := hV.2.1.2.1.1
  rw [r7.2.2.2.2.2]
  by_cases n4 : K 3 < 4
  · rw [if_pos n4, e5, w32_id (by omega) (by omega)]
    simp only [chk_of (show (0 : Int) ≤ K 3 ∧ K 3 < ((4 : Nat) : Int) from ⟨n0, n4⟩)]
    refine ok_bW (c_number hS hC1) ?_
    rintro r m1 ⟨f1, pl1, i1, a1, a2, a3, a4⟩
    simp only at a1 a2 a3 a4
    have F1 := f2_trans hF1 a2
    refine ok_bV (c_takeW (j := 11) hS (by decide) (by decide) (cC_up (o := 9) (x := K 3) (v := r) a1 (by decide))) ?_
    rintro m2 ⟨f2, pl2, i2, b1, b2, b3, b4⟩
    have row2 : ∀ o, o ≠ 2 → o ≠ 9 → m2 o = mc o := fun o a b => by rw [b2.1 o (by simp; exact a), up_cell b]; exact F1.1 o (by simp; exact a)
    have c7 : m2 7 = mc 7 := row2 7 (by decide) (by decide)
    rw [c7, r7.2.2.2.1]
    refine ok_bW (c_takePlace (W := K 1) (H := K 2) hS (fun _ => ⟨⟨by rw [c7]; exact r7.2.1, by rw [c7]; exact r7.2.2.1⟩, hV.1.1, hV.1.2⟩) b1) ?_
    rintro x m3 ⟨f3, pl3, i3, d1, d2, d3, d4⟩
    simp only at d1 d2 d3 d4
    refine ok_bV (c_takeW (j := 12) hS (by decide) (by decide) (cC_up (o := 15) (x := K 3) (v := x) d1 (by decide))) ?_
    rintro m4 ⟨f4, pl4, i4, g1, g2, g3, g4⟩
    have c7' : m4 7 = mc 7 := by rw [g2.1 7 (by decide), up_cell (by decide), d2.1 7 (by decide)]; exact c7
    rw [c7', r7.2.2.2.1]
    refine ok_bW (c_takePlace (W := K 1) (H := K 2) hS (fun _ => ⟨⟨by rw [c7']; exact r7.2.1, by rw [c7']; exact r7.2.2.1⟩, hV.1.1, hV.1.2⟩) g1) ?_
    rintro y m5 ⟨f5, pl5, i5, j1, j2, j3, j4⟩
    simp only at j1 j2 j3 j4
    have hC5 : CC S f5 pl5 i5 (up m5 16 (K 3) y) := cC_up j1 (by decide)
    rw [c_token hS hC5, bR_some]
    -- the rows as they stand before the knots
    have w0 : ∀ o, 7 ≤ o → o < 18 → o ≠ 9 → o ≠ 15 → o ≠ 16 → up m5 16 (K 3) y o = mc o := fun o a _ b c d => by
      rw [up_cell d, j2.1 o (by simp; omega), g2.1 o (by simp; omega), up_cell c, d2.1 o (by simp; omega)]; exact row2 o (by omega) b
    have w9 : ∀ q, up m5 16 (K 3) y 9 q = if q = K 3 then r else mc 9 q := fun q => by
      rw [up_cell (by decide), j2.1 9 (by decide), g2.1 9 (by decide), up_cell (by decide), d2.1 9 (by decide), b2.1 9 (by decide), up_at, F1.1 9 (by decide)]
    have w15 : ∀ q, up m5 16 (K 3) y 15 q = if q = K 3 then x else mc 15 q := fun q => by
      rw [up_cell (by decide), j2.1 15 (by decide), g2.1 15 (by decide), up_at, d2.1 15 (by decide), row2 15 (by decide) (by decide)]
    have w16 : ∀ q, up m5 16 (K 3) y 16 q = if q = K 3 then y else mc 16 q := fun q => by
      rw [up_at, j2.1 16 (by decide), g2.1 16 (by decide), up_cell (by decide), d2.1 16 (by decide), row2 16 (by decide) (by decide)]
    have w2 : ∀ q, q ≠ 3 → q ≠ 4 → q ≠ 5 → up m5 16 (K 3) y 2 q = mc 2 q := fun q a b c => by
      rw [up_cell (by decide), j2.2 q a b c, g2.2 q a b c, up_cell (by decide), d2.2 q a b c, b2.2 q a b c, up_cell (by decide)]; exact F1.2 q a b c
    have hFC : FC mc (up m5 16 (K 3) y) := fr_up (by simp) (fc_trans (fr_up (by simp) (fc_trans (fr_up (by simp) (fc_f2 F1)) (fc_trans (fc_f2 b2) (fc_f2 d2)))) (fc_trans (fc_f2 g2) (fc_f2 j2)))
    have chain : f5 = 0 → (f1 = 0 ∧ f2 = 0 ∧ f3 = 0 ∧ f4 = 0) ∧ i + 2 ≤ i5 ∧ (1 ≤ r ∧ r ≤ 20) ∧ (0 ≤ x ∧ x < K 1 * K 2 ∧ tb (K 8) x.toNat = false) ∧ (0 ≤ y ∧ y < K 1 * K 2 ∧ tb (K 8) y.toNat = false) := fun z => by
      obtain ⟨z4, q1, q2, q3⟩ := j3 z
      obtain ⟨z3, _, q4⟩ := g3 z4
      obtain ⟨z2, q5, q6, q7⟩ := d3 z3
      obtain ⟨z1, _, q8⟩ := b3 z2
      obtain ⟨_, _, q9, _, q10, q11⟩ := a3 z1
      exact ⟨⟨z1, z2, z3, z4⟩, by omega, ⟨q10, q11⟩, ⟨q6.1, q6.2, q7⟩, q2.1, q2.2, q3⟩
    -- the model up to the knots
    have front : ∀ mm (Q : Mem → Prop), LsM S 0 pl i K mm → (∀ mm5 x1 x5 x7, MC S f5 pl5 i5 mm5 → FM mm mm5 → mm5 287 16 = 0 → mm5 289 = K → (f5 = 0 → x1 = r ∧ x5 = x ∧ x7 = y) →
        Ok (bW (fX12_took 6 mm5) fun x8 mm => if x8 = 0 then (if mm 287 12 = 0 then chk ((0 : Int) ≤ w32 (25 + K 3) ∧ w32 (25 + K 3) < ((2005 : Nat) : Int)) (chk ((0 : Int) ≤ w32 (13 + K 3) ∧ w32 (13 + K 3) < ((2005 : Nat) : Int)) (chk ((0 : Int) ≤ w32 (17 + K 3) ∧ w32 (17 + K 3) < ((2005 : Nat) : Int)) (chk ((0 : Int) ≤ w32 (9 + K 3) ∧ w32 (9 + K 3) < ((2005 : Nat) : Int)) (some (up (up (up (up (up mm 289 (w32 (25 + K 3)) x1) 289 (w32 (13 + K 3)) x5) 289 (w32 (17 + K 3)) x7) 289 (w32 (9 + K 3)) 0) 289 3 (w32 (up (up (up (up mm 289 (w32 (25 + K 3)) x1) 289 (w32 (13 + K 3)) x5) 289 (w32 (17 + K 3)) x7) 289 (w32 (9 + K 3)) 0 289 3 + 1))))))) else some mm) else bW (fX12_number 0 9 mm) fun x13 mm => (if mm 287 12 = 0 then chk ((0 : Int) ≤ w32 (25 + K 3) ∧ w32 (25 + K 3) < ((2005 : Nat) : Int)) (chk ((0 : Int) ≤ w32 (13 + K 3) ∧ w32 (13 + K 3) < ((2005 : Nat) : Int)) (chk ((0 : Int) ≤ w32 (17 + K 3) ∧ w32 (17 + K 3) < ((2005 : Nat) : Int)) (chk ((0 : Int) ≤ w32 (9 + K 3) ∧ w32 (9 + K 3) < ((2005 : Nat) : Int)) (some (up (up (up (up (up mm 289 (w32 (25 + K 3)) x1) 289 (w32 (13 + K 3)) x5) 289 (w32 (17 + K 3)) x7) 289 (w32 (9 + K 3)) x13) 289 3 (w32 (up (up (up (up mm 289 (w32 (25 + K 3)) x1) 289 (w32 (13 + K 3)) x5) 289 (w32 (17 + K 3)) x7) 289 (w32 (9 + K 3)) x13 289 3 + 1))))))) else some mm)) Q) → Ok (fX12_readPair mm) Q := by
      intro mm Q hM hQ
      obtain ⟨hM1, hM2⟩ := hM
      obtain ⟨m16, mK⟩ := hM2 rfl
      unfold fX12_readPair
      simp only [rd_eq]
      simp only [wr_eq]
      simp only [jn_eq]
      refine ok_bW (m_beginsN hS (by decide) (by decide) hM1 hi (by rw [mK]; omega)) ?_
      rintro z1 u1 ⟨p1, p2, p3⟩
      simp only at p1 p2 p3
      have k1 : u1 289 = K := (p3.1 289 (by decide)).trans mK
      rw [p1, if_pos (show ¬ (1 : Int) = 0 by decide), k1]
      refine ok_bW (a4 u1 p2) ?_
      rintro x1 u2 ⟨s1, s2, s3⟩
      simp only at s1 s2 s3
      refine ok_bV (b4 u2 s1) ?_
      rintro u3 ⟨s4, s5⟩
      have G3 := g2_trans p3 (g2_trans s2 s5)
      have k3 : u3 289 = K := (G3.1 289 (by decide)).trans mK
      rw [k3]
      refine ok_bW (d4 u3 _ s4 (fun _ => ⟨by rw [k3], by rw [k3], rfl⟩)) ?_
      rintro x5 u4 ⟨s6, s7, s8⟩
      simp only at s6 s7 s8
      refine ok_bV (g4 u4 s6) ?_
      rintro u5 ⟨s9, s10⟩
      have G5 := g2_trans G3 (g2_trans s7 s10)
      have k5 : u5 289 = K := (G5.1 289 (by decide)).trans mK
      rw [k5]
      refine ok_bW (j4 u5 _ s9 (fun _ => ⟨by rw [k5], by rw [k5], rfl⟩)) ?_
      rintro x7 u6 ⟨s11, s12, s13⟩
      simp only at s11 s12 s13
      have G6 := g2_trans G5 s12
      exact hQ u6 x1 x5 x7 s11 (fm_g2 G6) ((G6.2 16 (by omega)).trans m16) ((G6.1 289 (by decide)).trans mK) (fun z => ⟨s3 (chain z).1.1, s8 (chain z).1.2.2.1, s13 z⟩)
    -- what the class does behind the knots
    have hi5 : f5 = 0 → i5 ≤ S.cnt := fun z => (hC5.2.2 z).2.1
    by_cases hkn : f5 = 0 ∧ S.kd i5 = 128 + ((1 : Nat) : Int)
    · obtain ⟨rfl, hkk⟩ := hkn
      obtain ⟨hi6, e56, hC6, hF6⟩ := c_adv hS hC5 (by rw [hkk]; decide)
      rw [if_pos rfl, hkk, if_neg (show ¬ ¬ (128 + ((1 : Nat) : Int)) = 129 from fun z => z rfl), e56, w32_id (x := (i5 : Int) + 1) (by omega) (by omega)]
      refine ok_bW (c_number hS hC6) ?_
      rintro t m6 ⟨f6, pl6, i6, l1, l2, l3, l4⟩
      simp only at l1 l2 l3 l4
      have F6 := f2_trans hF6 l2
      have v : ∀ o, o ≠ 2 → o ≠ 17 → up m6 17 (K 3) t o = up m5 16 (K 3) y o := fun o a b => by rw [up_cell b]; exact F6.1 o (by simp; exact a)
      have v15 : up m6 17 (K 3) t 15 (K 3) = x := by rw [v 15 (by decide) (by decide), w15, if_pos rfl]
      have v16 : up m6 17 (K 3) t 16 (K 3) = y := by rw [v 16 (by decide) (by decide), w16, if_pos rfl]
      have v75 : ∀ z, up (up m6 17 (K 3) t) 2 7 z 7 5 = K 3 := fun z => by rw [up_cell (by decide), v 7 (by decide) (by decide), w0 7 (by decide) (by decide) (by decide) (by decide) (by decide)]; exact r7.2.2.2.2.2
      rw [v15, v16, v75, w32_id (x := K 3 + 1) (by omega) (by omega)]
      have hw : PairM K r x y t mc (up m6 17 (K 3) t) := by
        refine ⟨fun o a b c d e g => ?_, fun q => ?_, fun q => ?_, fun q => ?_, fun q => ?_, ?_, ?_⟩
        · rw [v o (by omega) g]; exact w0 o a b c d e
        · rw [v 9 (by decide) (by decide)]; exact w9 q
        · rw [v 15 (by decide) (by decide)]; exact w15 q
        · rw [v 16 (by decide) (by decide)]; exact w16 q
        · rw [up_at, F6.1 17 (by decide), w0 17 (by decide) (by decide) (by decide) (by decide) (by decide)]
        · rw [up_cell (by decide), F6.2 6 (by decide) (by decide) (by decide)]; exact w2 6 (by decide) (by decide) (by decide)
        · rw [up_cell (by decide), F6.2 7 (by decide) (by decide) (by decide)]; exact w2 7 (by decide) (by decide) (by decide)
      refine ok_some ⟨f6, pl6, i6, pairK K r x y t, ⟨cC_up (cC_up2 (cC_up l1 (by decide)) (by decide)) (by decide), fun z => ?_⟩, fr_up (by simp) (fr_up (by simp) (fr_up (by simp) (fc_trans hFC (fc_f2 F6)))), fun z => ?_, fun mm hM => ?_⟩
      · obtain ⟨_, _, q2, _, q4, q5⟩ := l3 z
        obtain ⟨_, c1, c2, c3, c4⟩ := chain rfl
        have rg : PairRg K r x y t := ⟨c2, c3, c4, q4, q5⟩
        refine ⟨dr_pair hR hV n4 (pairK_ok n0 n4) rg hw, dv_pair hV n4 (pairK_ok n0 n4) rg, ?_⟩
        rw [(pairK_ok (K := K) (r := r) (x := x) (y := y) (t := t) n0 n4).1 0 (by decide) (by omega) (by omega) (by omega) (by omega)]; omega
      · obtain ⟨_, _, q2, _, q4, q5⟩ := l3 z
        obtain ⟨_, c1, c2, c3, c4⟩ := chain rfl
        exact ⟨by omega, (pairK_ok (K := K) (r := r) (x := x) (y := y) (t := t) n0 n4).1 0 (by decide) (by omega) (by omega) (by omega) (by omega)⟩
      · refine front mm _ hM (fun mm5 x1 x5 x7 p1 p2 p3 p4 p5 => ?_)
        obtain ⟨rfl, rfl, rfl⟩ := p5 rfl
        refine ok_bW (m_took (j := 1) hS hi5 (by decide) p1) ?_
        rintro x8 mm6 ⟨s1, _, s3⟩
        simp only at s1 s3
        obtain ⟨s4, s5, _⟩ := s1 ⟨trivial, hkk⟩
        rw [s4, if_neg (by decide)]
        refine ok_bW (l4 mm6 s5) ?_
        rintro t' mm7 ⟨s6, s7, s8⟩
        simp only at s6 s7 s8
        have G := g2_trans s3 s7
        have base := m_pairEnd (r := x1) (x := x5) (y := x7) (t := t') s6 ((G.2 16 (by omega)).trans p3) ((G.1 289 (by decide)).trans p4) n0 n4
        refine ok_imp base (fun mm' hh => ⟨⟨hh.1.1, fun z => ?_⟩, fm_trans p2 (fm_trans (fm_g2 G) hh.2)⟩)
        rw [← s8 z]; exact hh.1.2 z
    · have hne : ¬ (if f5 = 0 then S.kd i5 else 0) = 129 := by
        by_cases hf : f5 = 0
        · rw [if_pos hf]; exact fun z => hkn ⟨hf, by rw [z]; rfl⟩
        · rw [if_neg hf]; decide
      rw [if_pos hne]
      have v15 : up m5 16 (K 3) y 15 (K 3) = x := by rw [w15, if_pos rfl]
      have v16 : up m5 16 (K 3) y 16 (K 3) = y := by rw [w16, if_pos rfl]
      have v75 : ∀ z, up (up m5 16 (K 3) y) 2 7 z 7 5 = K 3 := fun z => by rw [up_cell (by decide), w0 7 (by decide) (by decide) (by decide) (by decide) (by decide)]; exact r7.2.2.2.2.2
      rw [v15, v16, v75, w32_id (x := K 3 + 1) (by omega) (by omega)]
      have hw : PairM K r x y 0 mc (up m5 16 (K 3) y) := by
        refine ⟨fun o a b c d e g => w0 o a b c d e, w9, w15, w16, fun q => ?_, w2 6 (by decide) (by decide) (by decide), w2 7 (by decide) (by decide) (by decide)⟩
        rw [w0 17 (by decide) (by decide) (by decide) (by decide) (by decide)]
        by_cases z : q = K 3
        · rw [if_pos z, z]; exact hR.2.2.2.2 (K 3) (Int.le_refl _) n4
        · rw [if_neg z]
      refine ok_some ⟨f5, pl5, i5, pairK K r x y 0, ⟨cC_up (cC_up2 hC5 (by decide)) (by decide), fun z => ?_⟩, fr_up (by simp) (fr_up (by simp) hFC), fun z => ?_, fun mm hM => ?_⟩
      · obtain ⟨_, c1, c2, c3, c4⟩ := chain z
        have rg : PairRg K r x y 0 := ⟨c2, c3, c4, by decide, by decide⟩
        refine ⟨dr_pair hR hV n4 (pairK_ok n0 n4) rg hw, dv_pair hV n4 (pairK_ok n0 n4) rg, ?_⟩
        rw [(pairK_ok (K := K) (r := r) (x := x) (y := y) (t := 0) n0 n4).1 0 (by decide) (by omega) (by omega) (by omega) (by omega)]; omega
      · obtain ⟨_, c1, c2, c3, c4⟩ := chain z
        exact ⟨by omega, (pairK_ok (K := K) (r := r) (x := x) (y := y) (t := 0) n0 n4).1 0 (by decide) (by omega) (by omega) (by omega) (by omega)⟩
      · refine front mm _ hM (fun mm5 x1 x5 x7 p1 p2 p3 p4 p5 => ?_)
        refine ok_bW (m_took (j := 1) hS hi5 (by decide) p1) ?_
        rintro x8 mm6 ⟨_, s2, s3⟩
        simp only at s2 s3
        obtain ⟨s4, s5⟩ := s2 hkn
        rw [s4, if_pos rfl, s5]
        have base := m_pairEnd (r := x1) (x := x5) (y := x7) (t := 0) p1 p3 p4 n0 n4
        refine ok_imp base (fun mm' hh => ⟨⟨hh.1.1, fun z => ?_⟩, fm_trans p2 hh.2⟩)
        obtain ⟨z1, z2, z3⟩ := p5 z
        rw [← z1, ← z2, ← z3]; exact hh.1.2 z
  · rw [if_neg n4]
    refine ok_bV (c_refuse hS (by decide) hC) ?_
    rintro m' ⟨f', pl', k1, k2, k3, k5⟩
    refine ok_some ⟨f', pl', i, K, ⟨k2, fun z => absurd z k1⟩, fc_f2 k3, fun z => absurd z k1, fun mm hM => ?_⟩
    obtain ⟨hM1, hM2⟩ := hM
    obtain ⟨m16, mK⟩ := hM2 rfl
    have n4' := hV.2.1.2.1.2
    unfold fX12_readPair
    simp only [rd_eq]
    simp only [wr_eq]
    refine ok_bW (m_beginsF (by decide) (by decide) k1 (k5 mm hM1) (by rw [mK]; omega)) ?_
    rintro z1 mm1 ⟨d1, d2, d3⟩
    simp only at d1 d2 d3
    rw [d1, if_neg (show ¬ ¬ (0 : Int) = 0 from fun z => z rfl)]
    exact ok_some ⟨⟨d2, fun w => absurd w k1⟩, fm_g2 d3⟩

/-! ===== D90: houses told ===== -/
theorem cC_up2 {S : Stm} {f pl x v : Int} {i : Nat} {m : Mem} (h : CC S f pl i m) (hx : 6 ≤ x) : CC S f pl i (up m 2 x v) := by
  refine ⟨fun i hi => by rw [up_cell (by decide), up_cell (by decide), up_cell (by decide)]; exact h.1 i hi, by rw [up_idx (by omega), up_idx (by omega)]; exact h.2.1, fun z => by rw [up_idx (by omega)]; exact h.2.2 z⟩
theorem m_beginsN {S : Stm} {pl q n : Int} {i : Nat} {mm : Mem} (hS : StmV S) (q0 : 0 ≤ q) (q1 : q < 2005) (hM : MC S 0 pl i mm) (hi : i < S.cnt) (ne : mm 289 q ≠ n) : Ok (fX12_begins q n mm) (fun r => r.1 = 1 ∧ MC S 0 pl (i + 1) r.2 ∧ G2 mm r.2) := by
  unfold fX12_begins
  simp only [rd_eq]
  simp only [jn_eq]
  rw [chk_of (by omega), if_pos ne, hM.2.1.1, if_neg (show ¬ ¬ (0 : Int) = 0 from fun z => z rfl)]
  refine ok_bV (m_adv hS hi hM) ?_
  rintro mm' ⟨a, b⟩
  rw [a.2.1.1, if_neg (show ¬ ¬ (0 : Int) = 0 from fun z => z rfl), chk_of (by decide)]
  exact ok_some ⟨rfl, a, b⟩
theorem m_beginsF {S : Stm} {f' pl' q n : Int} {i : Nat} {mm : Mem} (q0 : 0 ≤ q) (q1 : q < 2005) (hf : f' ≠ 0) (hb : Ok (fX12_blames 4 mm) (fun mm' => MC S f' pl' i mm' ∧ G2 mm mm')) (e : mm 289 q = n) : Ok (fX12_begins q n mm) (fun r => r.1 = 0 ∧ MC S f' pl' i r.2 ∧ G2 mm r.2) := by
  unfold fX12_begins
  simp only [rd_eq]
  simp only [jn_eq]
  rw [chk_of (by omega), if_neg (fun z => z e)]
  refine ok_bV hb ?_
  rintro mm' ⟨a, b⟩
  rw [a.2.1.1, if_pos hf, if_pos hf, chk_of (by decide)]
  exact ok_some ⟨rfl, a, b⟩
theorem dv_house {K K' : Int → Int} {x b6 : Int} (h : DV K) (k8 : K 4 < 8) (e : ∀ y, y ≠ 4 → y ≠ 29 + K 4 → K' y = K y) (e4 : K' 4 = K 4 + 1) (ex : K' (29 + K 4) = x) (x0 : 0 ≤ x) (x1 : x < K 1 * K 2)
    (hb : Bits b6 (fun i => ∃ h : Int, (0 ≤ h ∧ h < K 4) ∧ K (29 + h) = (i : Int))) (nb : tb b6 x.toNat = false) : DV K' := by
  obtain ⟨h1, h2, ⟨s1, s2, s3, s4, s5⟩, h4, h5, h6, h7⟩ := h
  have x25 := in_25 h2 x1
  obtain ⟨i1, i2, i3, i4, i5, i6, i7, i8, i9⟩ := h2
  have e1 := e 1 (by decide) (by omega)
  have e2 := e 2 (by decide) (by omega)
  have e3 := e 3 (by decide) (by omega)
  have e8 := e 8 (by decide) (by omega)
  have no : ∀ g : Int, 0 ≤ g → g < K 4 → K (29 + g) ≠ x := fun g g0 g1 z => by
    have t : tb b6 x.toNat = true := (hb.2 _ (by omega)).mpr ⟨g, ⟨g0, g1⟩, by rw [Int.toNat_of_nonneg x0]; exact z⟩
    rw [nb] at t; exact absurd t (by decide)
  refine ⟨by rw [e1, e2]; exact h1, ⟨.inr (by rw [e1, e2]; exact ⟨h1.1.1, h1.1.2, h1.2.1, h1.2.2⟩), by rw [e3]; exact i2, by rw [e4]; omega, by rw [e8, e1, e2]; exact i4, fun h a b => ?_, fun g h a b c => ?_, fun p a b => ?_, ?_, ?_⟩, ⟨fun p p0 p1 => ?_, ?_, ?_, ?_, ?_⟩, ?_, ?_, ?_, ?_⟩
  · rw [e4] at b; rw [e1, e2]
    by_cases z : h = K 4
    · rw [z, ex]; exact ⟨x0, x1⟩
    · rw [e (29 + h) (by omega) (by omega)]; exact i5 h a (by omega)
  · rw [e4] at c
    rw [e (29 + g) (by omega) (by omega)]
    by_cases z : h = K 4
    · rw [z, ex]; exact no g a (by omega)
    · rw [e (29 + h) (by omega) (by omega)]; exact i6 g h a b (by omega)
  · rw [e3] at b
    rw [e (25 + p) (by omega) (by omega)]; exact i7 p a b
  · rw [e 5 (by decide) (by omega)]; exact LawV_c (fun j j0 => e _ (by omega) (by omega)) i8
  · rw [e 6 (by decide) (by omega)]; exact LawV_c (fun j j0 => e _ (by omega) (by omega)) i9
  · rw [e3] at p1
    have z := s1 p p0 p1
    simp only at z ⊢
    rw [e8, e1, e2, e (9 + p) (by omega) (by omega), e (9 + (4 + p)) (by omega) (by omega), e (9 + (8 + p)) (by omega) (by omega)]
    exact z
  · simp only at s2 ⊢
    rw [e (9 + 12) (by decide) (by omega), e3]; exact s2
  · simp only at s3 ⊢
    rw [e (9 + 13) (by decide) (by omega)]; exact s3
  · simp only at s4 ⊢
    rw [e (9 + 14) (by decide) (by omega)]; exact s4
  · simp only at s5 ⊢
    rw [e (9 + 15) (by decide) (by omega)]; exact s5
  · rw [e 23 (by decide) (by omega)]; exact h4
  · rw [e 21 (by decide) (by omega)]; exact h5
  · rw [e 7 (by decide) (by omega)]; exact h6
  · rw [e 0 (by decide) (by omega)]; exact h7
theorem dr_house {K K' : Int → Int} {x : Int} {m m' : Mem} (h : DR K m) (hV : DV K) (k8 : K 4 < 8) (e : ∀ y, y ≠ 4 → y ≠ 29 + K 4 → K' y = K y) (e4 : K' 4 = K 4 + 1) (ex : K' (29 + K 4) = x) (x0 : 0 ≤ x) (x1 : x < K 1 * K 2)
    (hq : ∀ o, 7 ≤ o → o < 18 → o ≠ 7 → o ≠ 8 → m' o = m o) (g7 : ∀ j, j ≠ 4 → m' 7 j = m 7 j) (g4 : m' 7 4 = K 4 + 1) (g8 : ∀ j, m' 8 j = if j = K 4 then x else m 8 j) (b6 : m' 2 6 = ior (m 2 6) (ishl 1 x)) (b7 : m' 2 7 = m 2 7) : DR K' m' := by
  have x25 := in_25 hV.2.1 x1
  have k3 := hV.2.1.2.1
  have k4 := hV.2.1.2.2.1
  have e3 := e 3 (by decide) (by omega)
  obtain ⟨⟨⟨t0, t1, t2, t3, t4, t5⟩, r2, r3, r4, r5⟩, l1, l2, l3, l4⟩ := h
  refine ⟨⟨⟨?_, ?_, ?_, ?_, ?_, ?_⟩, fun h a b => ?_, fun p a b => ?_, ?_, ?_⟩, ?_, ?_, ?_, fun p a b => ?_⟩
  · rw [g7 0 (by decide), e 0 (by decide) (by omega)]; exact t0
  · rw [g7 1 (by decide), e 1 (by decide) (by omega)]; exact t1
  · rw [g7 2 (by decide), e 2 (by decide) (by omega)]; exact t2
  · rw [g7 3 (by decide), e 8 (by decide) (by omega)]; exact t3
  · rw [g4, e4]
  · rw [g7 5 (by decide), e3]; exact t5
  · rw [e4] at b
    show m' 8 h = _
    rw [g8]
    by_cases z : h = K 4
    · rw [if_pos z, z, ex]
    · rw [if_neg z, e (29 + h) (by omega) (by omega)]; exact r2 h a (by omega)
  · rw [e3] at b
    rw [hq 9 (by decide) (by decide) (by decide) (by decide), e (25 + p) (by omega) (by omega)]; exact r3 p a b
  · rw [e 5 (by decide) (by omega)]
    exact LawR_c (fun j j0 => e _ (by omega) (by omega)) (LawR_fr r4 (hq 10 (by decide) (by decide) (by decide) (by decide)) (hq 11 (by decide) (by decide) (by decide) (by decide)))
  · rw [e 6 (by decide) (by omega)]
    exact LawR_c (fun j j0 => e _ (by omega) (by omega)) (LawR_fr r5 (hq 12 (by decide) (by decide) (by decide) (by decide)) (hq 13 (by decide) (by decide) (by decide) (by decide)))
  · rw [e3]
    exact LfR_fr (LfR_cong k3.2 (S := fun i => K (9 + i)) (fun j a b => e (9 + j) (by omega) (by omega)) l1) (fun q a b => hq q (by omega) (by omega) (by omega) (by omega))
  · rw [b6]
    refine bits_imp (bits_or l2 x0 (by omega)) (fun i _ => ⟨?_, ?_⟩)
    · rintro (⟨h, ⟨a, b⟩, c⟩ | z)
      · exact ⟨h, ⟨a, by omega⟩, by rw [e (29 + h) (by omega) (by omega)]; exact c⟩
      · exact ⟨K 4, ⟨k4.1, by omega⟩, by rw [ex]; omega⟩
    · rintro ⟨h, ⟨a, b⟩, c⟩
      by_cases z : h = K 4
      · rw [z, ex] at c; right; omega
      · rw [e (29 + h) (by omega) (by omega)] at c
        exact .inl ⟨h, ⟨a, by omega⟩, c⟩
  · rw [b7]
    refine bits_imp l3 (fun i _ => ⟨?_, ?_⟩)
    · rintro ⟨h, ⟨a, b⟩, c⟩; exact ⟨h, ⟨a, by rw [e3]; exact b⟩, by rw [e (13 + h) (by omega) (by omega), e (17 + h) (by omega) (by omega)]; exact c⟩
    · rintro ⟨h, ⟨a, b⟩, c⟩
      rw [e3] at b
      rw [e (13 + h) (by omega) (by omega), e (17 + h) (by omega) (by omega)] at c
      exact ⟨h, ⟨a, b⟩, c⟩
  · rw [e3] at a
    rw [hq 17 (by decide) (by decide) (by decide) (by decide)]; exact l4 p a b
theorem N_house {S : Stm} {pl : Int} {i : Nat} {K : Int → Int} {mc : Mem} (hS : StmV S) (h : LsC S 0 pl i K mc) (hk : S.kd i ≠ 0) : LkN S pl i K (fX6_readHouse mc) mc fX12_readHouse := by
  obtain ⟨hC, hD⟩ := h
  obtain ⟨hR, hV, h0⟩ := hD rfl
  obtain ⟨hi, e5, hC1, hF1⟩ := c_adv hS hC hk
  unfold fX6_readHouse
  simp only [rd_eq]
  simp only [wr_eq]
  have c9 := st_cnt hS
  have r7 := hR.1.1
  have k4 := hV.2.1.2.2.1
  rw [r7.2.2.2.2.1]
  by_cases k8 : K 4 < 8
  · rw [if_pos k8, e5, w32_id (by omega) (by omega), up_cell (show 7 ≠ 2 by decide), up_idx (show (6 : Int) ≠ 5 by decide), r7.2.2.2.1]
    refine ok_bW (c_takePlace (W := K 1) (H := K 2) hS (fun _ => ⟨⟨by rw [up_cell (show 7 ≠ 2 by decide)]; exact r7.2.1, by rw [up_cell (show 7 ≠ 2 by decide)]; exact r7.2.2.1⟩, hV.1.1, hV.1.2⟩) hC1) ?_
    rintro x m2 ⟨f2, pl2, i2, b1, b2, b3, b4⟩
    simp only at b1 b2 b3 b4
    have F := f2_trans hF1 b2
    have e74 : m2 7 4 = K 4 := by rw [F.1 7 (by decide)]; exact r7.2.2.2.2.1
    have e26 : m2 2 6 = mc 2 6 := F.2 6 (by decide) (by decide) (by decide)
    rw [up_cell (show 7 ≠ 2 by decide), e74, chk_of (by omega), up_cell (show 7 ≠ 8 by decide), up_cell (show 7 ≠ 2 by decide), e74, w32_id (x := K 4 + 1) (by omega) (by omega), e26]
    have eK : ∀ y, y ≠ 4 → y ≠ 29 + K 4 → ku (ku K (29 + K 4) x) 4 (K 4 + 1) y = K y := fun y a b => by rw [ku_ne a, ku_ne b]
    have eX : ku (ku K (29 + K 4) x) 4 (K 4 + 1) (29 + K 4) = x := by rw [ku_ne (by omega), ku_at]
    refine ok_some ⟨f2, pl2, i2, ku (ku K (29 + K 4) x) 4 (K 4 + 1), ⟨cC_up (cC_up (cC_up2 b1 (by decide)) (by decide)) (by decide), fun z => ?_⟩, fr_up (by simp) (fr_up (by simp) (fr_up (by simp) (fc_f2 F))), fun z => ?_, fun mm hM => ?_⟩
    · obtain ⟨_, q1, ⟨q2, q3⟩, q4⟩ := b3 z
      refine ⟨dr_house hR hV k8 eK (ku_at _ _ _) eX q2 q3 (fun o a b c d => ?_) (fun j hj => ?_) (up_same _ _ _ _) (fun j => ?_) ?_ ?_, dv_house hV k8 eK (ku_at _ _ _) eX q2 q3 hR.2.2.1 (or_f q4).2, ?_⟩
      · rw [up_cell c, up_cell d, up_cell (by omega)]; exact F.1 o (by simp; omega)
      · rw [up_idx hj, up_cell (by decide), up_cell (by decide), F.1 7 (by decide)]
      · rw [up_cell (by decide), up_at, up_cell (by decide), F.1 8 (by decide)]
      · rw [up_cell (by decide), up_cell (by decide), up_same]
      · rw [up_cell (by decide), up_cell (by decide), up_idx (by decide)]; exact F.2 7 (by decide) (by decide) (by decide)
      · rw [eK 0 (by decide) (by omega)]; omega
    · obtain ⟨_, q1, _⟩ := b3 z
      exact ⟨by omega, eK 0 (by decide) (by omega)⟩
    · obtain ⟨hM1, hM2⟩ := hM
      obtain ⟨m16, mK⟩ := hM2 rfl
      unfold fX12_readHouse
      simp only [rd_eq]
      simp only [wr_eq]
      refine ok_bW (m_beginsN hS (by decide) (by decide) hM1 hi (by rw [mK]; omega)) ?_
      rintro z1 mm1 ⟨d1, d2, d3⟩
      simp only at d1 d2 d3
      have mK1 : mm1 289 = K := (d3.1 289 (by decide)).trans mK
      rw [d1, if_pos (show ¬ (1 : Int) = 0 by decide), m_housesTold mK1 hV.2.1 hR.2.2.1, bR_some, mK1]
      refine ok_bW (b4 mm1 _ d2 (fun _ => ⟨by rw [mK1], by rw [mK1], rfl⟩)) ?_
      rintro y mm2 ⟨j1, j2, j3⟩
      simp only at j1 j2 j3
      have G := g2_trans d3 j2
      have mK2 : mm2 289 = K := (G.1 289 (by decide)).trans mK
      rw [j1.2.1.1]
      by_cases z : f2 = 0
      · rw [if_pos z, mK2, w32_id (x := 29 + K 4) (by omega) (by omega), chk_of (by omega)]
        have u4 : up mm2 289 (29 + K 4) y 289 4 = K 4 := by rw [up_idx (by omega), mK2]
        rw [u4, w32_id (x := K 4 + 1) (by omega) (by omega)]
        refine ok_some ⟨⟨mC_up (mC_up j1), fun _ => ⟨?_, ?_⟩⟩, fm_trans (fm_g2 G) (fm_trans fm_up fm_up)⟩
        · rw [up_cell (by decide), up_cell (by decide)]; exact (G.2 16 (by omega)).trans m16
        · rw [up_row, up_row, j3 z, mK2]
      · rw [if_neg z]
        exact ok_some ⟨⟨j1, fun w => absurd w z⟩, fm_g2 G⟩
  · rw [if_neg k8]
    refine ok_bV (c_refuse hS (by decide) hC) ?_
    rintro m' ⟨f', pl', k1, k2, k3, k5⟩
    refine ok_some ⟨f', pl', i, K, ⟨k2, fun z => absurd z k1⟩, fc_f2 k3, fun z => absurd z k1, fun mm hM => ?_⟩
    obtain ⟨hM1, hM2⟩ := hM
    obtain ⟨m16, mK⟩ := hM2 rfl
    unfold fX12_readHouse
    simp only [rd_eq]
    simp only [wr_eq]
    refine ok_bW (m_beginsF (by decide) (by decide) k1 (k5 mm hM1) (by rw [mK]; omega)) ?_
    rintro z1 mm1 ⟨d1, d2, d3⟩
    simp only at d1 d2 d3
    rw [d1, if_neg (show ¬ ¬ (0 : Int) = 0 from fun z => z rfl)]
    exact ok_some ⟨⟨d2, fun w => absurd w k1⟩, fm_g2 d3⟩

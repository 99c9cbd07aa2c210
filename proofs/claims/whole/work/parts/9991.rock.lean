/-! ===== D89: rocks and houses told ===== -/
theorem in_25 {K : Int → Int} (h : IsV K) {x : Int} (x1 : x < K 1 * K 2) : x < 25 := by have := pl_25 h; omega
theorem m_housesTold {K : Int → Int} {mm : Mem} {v : Int} (e : mm 289 = K) (hI : IsV K) (hb : Bits v (fun i => ∃ h : Int, (0 ≤ h ∧ h < K 4) ∧ K (29 + h) = (i : Int))) : fX12_housesTold mm = some v := by
  have k4 := hI.2.2.1
  have ok : Ok (fX12_housesTold mm) (fun x => Bits x (fun i => ∃ h : Int, (0 ≤ h ∧ h < K 4) ∧ K (29 + h) = (i : Int))) := by
    unfold fX12_housesTold
    simp only [rd_eq]
    refine lp_for2 (K 4) (fun t k mm' => mm' = mm ∧ 0 ≤ k ∧ Bits t (fun i => ∃ h : Int, (0 ≤ h ∧ h < k) ∧ K (29 + h) = (i : Int))) ⟨rfl, by decide, bits_zero (fun i _ => by rintro ⟨h, ⟨a, b⟩, _⟩; omega)⟩ k4.1 (by omega) ?_ ?_
    · rintro Kk t k mm' hk ⟨rfl, k0, hB⟩ ih
      have r := hI.2.2.2.2.1 k k0 hk
      have r25 := in_25 hI r.2
      rw [e, if_neg (show ¬ K 4 ≤ k by omega), w32_id (x := 29 + k) (by omega) (by omega), chk_of (by omega), w32_id (x := k + 1) (by omega) (by omega)]
      refine ih _ _ ⟨rfl, by omega, bits_imp (bits_or hB r.1 (by omega)) (fun i hi => ⟨?_, ?_⟩)⟩
      · rintro (⟨h, ⟨a, b⟩, c⟩ | rfl)
        · exact ⟨h, ⟨a, by omega⟩, c⟩
        · exact ⟨k, ⟨k0, by omega⟩, by rw [Int.toNat_of_nonneg r.1]⟩
      · rintro ⟨h, ⟨a, b⟩, c⟩
        by_cases z : h = k
        · subst z; right; rw [c]; rfl
        · left; exact ⟨h, ⟨a, by omega⟩, c⟩
    · rintro Kk t mm' ⟨rfl, k0, hB⟩
      rw [e, if_pos (Int.le_refl _)]
      exact ok_some hB
  obtain ⟨x, ex, hx⟩ := ok
  rw [ex, bits_eq hx hb (fun i _ => Iff.rfl)]
theorem m_pairsTold {K : Int → Int} {mm : Mem} {v : Int} (e : mm 289 = K) (hV : DV K) (hb : Bits v (fun i => ∃ p : Int, (0 ≤ p ∧ p < K 3) ∧ (K (13 + p) = (i : Int) ∨ K (17 + p) = (i : Int)))) : fX12_pairsTold mm = some v := by
  obtain ⟨_, hI, hS, _⟩ := hV
  have k3 := hI.2.1
  have ok : Ok (fX12_pairsTold mm) (fun x => Bits x (fun i => ∃ p : Int, (0 ≤ p ∧ p < K 3) ∧ (K (13 + p) = (i : Int) ∨ K (17 + p) = (i : Int)))) := by
    unfold fX12_pairsTold
    simp only [rd_eq]
    refine lp_for2 (K 3) (fun t k mm' => mm' = mm ∧ 0 ≤ k ∧ Bits t (fun i => ∃ p : Int, (0 ≤ p ∧ p < k) ∧ (K (13 + p) = (i : Int) ∨ K (17 + p) = (i : Int)))) ⟨rfl, by decide, bits_zero (fun i _ => by rintro ⟨h, ⟨a, b⟩, _⟩; omega)⟩ k3.1 (by omega) ?_ ?_
    · rintro Kk t k mm' hk ⟨rfl, k0, hB⟩ ih
      obtain ⟨_, ra, rb⟩ := hS.1 k k0 hk
      have ea : K (9 + (4 + k)) = K (13 + k) := congrArg K (by omega)
      have eb : K (9 + (8 + k)) = K (17 + k) := congrArg K (by omega)
      simp only [ea, eb] at ra rb
      have a25 := in_25 hI ra.2.1
      have b25 := in_25 hI rb.2.1
      have a0 := ra.1
      have b0 := rb.1
      rw [e, if_neg (show ¬ K 3 ≤ k by omega), w32_id (x := 13 + k) (by omega) (by omega), chk_of (by omega), w32_id (x := 17 + k) (by omega) (by omega), chk_of (by omega), w32_id (x := k + 1) (by omega) (by omega)]
      have two := bits_or2 (bits_or (bits_zero (P := fun _ => False) (fun _ _ z => z)) a0 (show K (13 + k) < 32 by omega)) (bits_or (bits_zero (P := fun _ => False) (fun _ _ z => z)) b0 (show K (17 + k) < 32 by omega))
      rw [ior_0l (x := ishl 1 (K (13 + k))) (i32_rg _), ior_0l (x := ishl 1 (K (17 + k))) (i32_rg _)] at two
      refine ih _ _ ⟨rfl, by omega, bits_imp (bits_or2 hB two) (fun i hi => ⟨?_, ?_⟩)⟩
      · rintro (⟨h, ⟨a, b⟩, c⟩ | (z | rfl) | (z | rfl))
        · exact ⟨h, ⟨a, by omega⟩, c⟩
        · exact z.elim
        · exact ⟨k, ⟨k0, by omega⟩, .inl (by rw [Int.toNat_of_nonneg a0])⟩
        · exact z.elim
        · exact ⟨k, ⟨k0, by omega⟩, .inr (by rw [Int.toNat_of_nonneg b0])⟩
      · rintro ⟨h, ⟨a, b⟩, c⟩
        by_cases z : h = k
        · subst z
          right
          rcases c with c | c
          · left; right; rw [c]; rfl
          · right; right; rw [c]; rfl
        · left; exact ⟨h, ⟨a, by omega⟩, c⟩
    · rintro Kk t mm' ⟨rfl, k0, hB⟩
      rw [e, if_pos (Int.le_refl _)]
      exact ok_some hB
  obtain ⟨x, ex, hx⟩ := ok
  rw [ex, bits_eq hx hb (fun i _ => Iff.rfl)]
theorem or_f {x y : Int} {i : Nat} (h : tb (ior x y) i = false) : tb x i = false ∧ tb y i = false := by
  rw [tb_or] at h; cases hx : tb x i <;> cases hy : tb y i <;> simp_all
theorem dv_8 {K : Int → Int} {x b7 : Int} (h : DV K) (x0 : 0 ≤ x) (x1 : x < K 1 * K 2) (hb : Bits b7 (fun i => ∃ p : Int, (0 ≤ p ∧ p < K 3) ∧ (K (13 + p) = (i : Int) ∨ K (17 + p) = (i : Int)))) (nb : tb b7 x.toNat = false) : DV (ku K 8 (ior (K 8) (ishl 1 x))) := by
  obtain ⟨h1, h2, ⟨s1, s2, s3, s4, s5⟩, h4, h5, h6, h7⟩ := h
  have x25 := in_25 h2 x1
  obtain ⟨i1, i2, i3, i4, i5, i6, i7, i8, i9⟩ := h2
  have u : ∀ y, y ≠ 8 → ku K 8 (ior (K 8) (ishl 1 x)) y = K y := fun y hy => ku_ne hy
  have tbo : ∀ i : Nat, i < 32 → tb (ior (K 8) (ishl 1 x)) i = (tb (K 8) i || decide (i = x.toNat)) := fun i hi => by rw [tb_or, tb_powi x0 (by omega) hi]
  have area : 4 ≤ K 1 * K 2 ∧ K 1 * K 2 ≤ 25 := by
    obtain ⟨⟨a, b⟩, c, d⟩ := h1
    rcases four_of a b with e | e | e | e <;> rw [e] <;> omega
  refine ⟨h1, ⟨.inr ⟨h1.1.1, h1.1.2, h1.2.1, h1.2.2⟩, i2, i3, ?_, fun h a b => by rw [u (29 + h) (by omega), u 1 (by decide), u 2 (by decide)]; exact i5 h a b, fun g h a b c => by rw [u (29 + g) (by omega), u (29 + h) (by omega)]; exact i6 g h a b c, fun p a b => by rw [u (25 + p) (by omega)]; exact i7 p a b, LawV_c (fun j j0 => u _ (by omega)) i8, LawV_c (fun j j0 => u _ (by omega)) i9⟩, ⟨fun p p0 p1 => ?_, ?_, s3, s4, s5⟩, h4, h5, h6, h7⟩
  · rw [ku_at, u 1 (by decide), u 2 (by decide)]
    refine ⟨?_, (ior_rg _ _).2, fun i hi => ?_⟩
    · refine (tb_nonneg (ior_rg _ _)).mp ?_
      rw [tbo 31 (by decide)]
      have z31 : tb (K 8) 31 = false := by
        cases z : tb (K 8) 31
        · rfl
        · have := i4.2.2 31 z; omega
      rw [z31, Bool.false_or]
      exact decide_eq_false (by omega)
    · by_cases hi32 : i < 32
      · rw [tbo i hi32, Bool.or_eq_true] at hi
        rcases hi with hi | hi
        · exact i4.2.2 i hi
        · have := of_decide_eq_true hi; omega
      · rw [tb_big (by omega)] at hi; exact absurd hi (by decide)
  · have z := s1 p p0 p1
    have ea : K (9 + (4 + p)) = K (13 + p) := congrArg K (by omega)
    have eb : K (9 + (8 + p)) = K (17 + p) := congrArg K (by omega)
    have k3 := i2
    have p1' : p < K 3 := p1
    simp only at z ⊢
    rw [ku_at, u 1 (by decide), u 2 (by decide), u (9 + p) (by omega), u (9 + (4 + p)) (by omega), u (9 + (8 + p)) (by omega)]
    rw [ea, eb] at z ⊢
    obtain ⟨z1, ⟨z2, z3, z4⟩, z5, z6, z7⟩ := z
    have no : ∀ q : Int, 0 ≤ q → (K (13 + p) = q ∨ K (17 + p) = q) → ¬ q.toNat = x.toNat := fun q q0 hq eq => by
      have eqx : q = x := by omega
      have t : tb b7 x.toNat = true := (hb.2 _ (by omega)).mpr ⟨p, ⟨p0, p1'⟩, by rw [Int.toNat_of_nonneg x0, ← eqx]; exact hq⟩
      rw [nb] at t; exact absurd t (by decide)
    have a25 := z3
    have b25 := z6
    refine ⟨z1, ⟨z2, z3, ?_⟩, z5, z6, ?_⟩
    · rw [tbo _ (by omega), z4, Bool.false_or]; exact decide_eq_false (no _ z2 (.inl rfl))
    · rw [tbo _ (by omega), z7, Bool.false_or]; exact decide_eq_false (no _ z5 (.inr rfl))
  · exact s2
theorem N_rock {S : Stm} {pl : Int} {i : Nat} {K : Int → Int} {mc : Mem} (hS : StmV S) (h : LsC S 0 pl i K mc) (hk : S.kd i ≠ 0) : LkN S pl (i + 1) K (fX6_readRock mc) mc fX12_readRock := by
  obtain ⟨hC, hD⟩ := h
  obtain ⟨hR, hV, h0⟩ := hD rfl
  obtain ⟨hi, e5, hC1, hF1⟩ := c_adv hS hC hk
  unfold fX6_readRock
  simp only [rd_eq]
  simp only [wr_eq]
  have c9 := st_cnt hS
  rw [e5, w32_id (by omega) (by omega), up_cell (show 7 ≠ 2 by decide), up_idx (show (6 : Int) ≠ 5 by decide), up_idx (show (7 : Int) ≠ 5 by decide)]
  have r7 := hR.1.1
  refine ok_bW (c_takePlace (W := K 1) (H := K 2) hS (fun _ => ⟨⟨by rw [up_cell (show 7 ≠ 2 by decide)]; exact r7.2.1, by rw [up_cell (show 7 ≠ 2 by decide)]; exact r7.2.2.1⟩, hV.1.1, hV.1.2⟩) hC1) ?_
  rintro x m2 ⟨f2, pl2, i2, b1, b2, b3, b4⟩
  simp only at b1 b2 b3 b4
  have F := f2_trans hF1 b2
  rw [r7.2.2.2.1]
  refine ok_some ⟨f2, pl2, i2, ku K 8 (ior (K 8) (ishl 1 x)), ⟨cC_up b1 (by decide), fun z => ?_⟩, fr_up (by simp) (fc_f2 F), fun z => ?_, fun mm hM => ?_⟩
  · obtain ⟨_, q1, ⟨q2, q3⟩, q4⟩ := b3 z
    refine ⟨?_, dv_8 hV q2 q3 hR.2.2.2.1 (or_f q4).2, ?_⟩
    · have R := dr_f2 hR F
      have e0 : ∀ y, y ≠ 8 → ku K 8 (ior (K 8) (ishl 1 x)) y = K y := fun y hy => ku_ne hy
      obtain ⟨⟨⟨t0, t1, t2, t3, t4, t5⟩, g2, g3, g4, g5⟩, l1, l2, l3, l4⟩ := R
      have kk3 := hV.2.1.2.1
      have kk4 := hV.2.1.2.2.1
      refine ⟨⟨⟨?_, ?_, ?_, ?_, ?_, ?_⟩, fun h a b => ?_, fun p a b => ?_, LawR_c (c := fun i => K (197 + i)) (fun j j0 => e0 _ (by omega)) (LawR_fr g4 (up_cell (by decide)) (up_cell (by decide))), LawR_c (c := fun i => K (1097 + i)) (fun j j0 => e0 _ (by omega)) (LawR_fr g5 (up_cell (by decide)) (up_cell (by decide)))⟩, ?_, ?_, ?_, fun p a b => ?_⟩
      · rw [up_idx (by decide)]; exact t0
      · rw [up_idx (by decide)]; exact t1
      · rw [up_idx (by decide)]; exact t2
      · rw [up_same, ku_at]
      · rw [up_idx (by decide)]; exact t4
      · rw [up_idx (by decide)]; exact t5
      · rw [up_cell (by decide), e0 (29 + h) (by omega)]; exact g2 h a b
      · rw [up_cell (by decide), e0 (25 + p) (by omega)]; exact g3 p a b
      · refine LfR_fr (LfR_cong kk3.2 (S := fun i => K (9 + i)) (fun j a b => e0 (9 + j) (by omega)) l1) (fun q a b => up_cell (by omega))
      · rw [up_cell (by decide)]
        refine bits_imp l2 (fun i _ => ⟨?_, ?_⟩)
        · rintro ⟨h, ⟨a, b⟩, c⟩; exact ⟨h, ⟨a, b⟩, by rw [e0 (29 + h) (by omega)]; exact c⟩
        · rintro ⟨h, ⟨a, b⟩, c⟩; exact ⟨h, ⟨a, b⟩, by rw [e0 (29 + h) (by omega)] at c; exact c⟩
      · rw [up_cell (by decide)]
        refine bits_imp l3 (fun i _ => ⟨?_, ?_⟩)
        · rintro ⟨h, ⟨a, b⟩, c⟩; exact ⟨h, ⟨a, b⟩, by rw [e0 (13 + h) (by omega), e0 (17 + h) (by omega)]; exact c⟩
        · rintro ⟨h, ⟨a, b⟩, c⟩; exact ⟨h, ⟨a, b⟩, by rw [e0 (13 + h) (by omega), e0 (17 + h) (by omega)] at c; exact c⟩
      · rw [up_cell (by decide)]; exact l4 p a b
    · rw [ku_ne (by decide)]; omega
  · obtain ⟨_, q1, _⟩ := b3 z
    exact ⟨by omega, ku_ne (by decide)⟩
  · obtain ⟨hM1, hM2⟩ := hM
    obtain ⟨m16, mK⟩ := hM2 rfl
    unfold fX12_readRock
    simp only [rd_eq]
    simp only [wr_eq]
    simp only [jn_eq]
    rw [m_housesTold mK hV.2.1 hR.2.2.1, bR_some, m_pairsTold mK hV hR.2.2.2.1, bR_some]
    refine ok_bW (b4 mm _ hM1 (fun _ => ⟨by rw [mK], by rw [mK], rfl⟩)) ?_
    rintro y mm2 ⟨d1, d2, d3⟩
    simp only at d1 d2 d3
    rw [d1.2.1.1]
    by_cases z : f2 = 0
    · rw [if_neg (fun w => w z)]
      refine ok_some ⟨⟨mC_up d1, fun _ => ⟨?_, ?_⟩⟩, fm_trans (fm_g2 d2) fm_up⟩
      · rw [up_cell (by decide)]; exact (d2.2 16 (by omega)).trans m16
      · rw [up_row, d3 z, d2.1 289 (by decide), mK]
    · rw [if_pos z]
      exact ok_some ⟨⟨d1, fun w => absurd w z⟩, fm_g2 d2⟩

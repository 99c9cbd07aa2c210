/-! ===== D14: rain, hours, undo ===== -/
theorem c_rain {K : Int → Int} {c a b : Int} {m : Mem} (hW : WRel 19 K m) (hV : KV c K) (c1 : c ≤ 1000000) :
    Ok (fX11_rain a b m) (DC (if 0 ≤ a ∧ a ≤ 9 then (if 1 ≤ b ∧ b ≤ 99 then 0 else 1) else 1) (tooF (rainK (keepK K) a b)) (rainK (keepK K) a b) m) := by
  have hCV := KV_CV hV
  unfold fX11_rain
  rw [c_needWithin, bX_if (by decide)]
  by_cases ha : 0 ≤ a ∧ a ≤ 9
  · rw [if_pos ha, if_pos ha, c_needWithin, bX_if (by decide)]
    by_cases hb : 1 ≤ b ∧ b ≤ 99
    · rw [if_pos hb, if_pos hb]
      refine ok_bV (c_remember hW hV) ?_
      rintro m2 ⟨a2, b2, _⟩
      have hV2 : CV c (keepK K) := CV_sameC sameC_keep hCV
      refine ok_bV (c_letRain (WRel_CR a2) hV2 c1 (by omega) (by omega)) ?_
      rintro m3 ⟨a3, b3⟩
      refine ok_bW (c_tooFar a3 (CV_rain hV2 ha.1 ha.2 (by omega) (by omega)) (by omega)) ?_
      rintro x m4 ⟨e, hF⟩
      simp only at e hF
      refine ok_some ⟨rfl, fun _ => ⟨e, WRel_cur sameU_rain a2 (CR_fr2 a3 hF) (fun o z => ?_), fr_trans (fr_FDK2 b2) (fr_trans (fr_FDK7 b3) (fr_FDK1 hF))⟩, fun q => absurd rfl q⟩
      show m4 o = m2 o
      rw [hF o (by simp; omega), b3 o (by simp; omega)]
    · rw [if_neg hb, if_neg hb]
      exact ok_some ⟨rfl, fun q => by omega, fun _ => fr_refl⟩
  · rw [if_neg ha, if_neg ha]
    exact ok_some ⟨rfl, fun q => by omega, fun _ => fr_refl⟩
theorem m_rain {K : Int → Int} {c a b : Int} {m : Mem} (hK : m 288 = K) (hV : KV c K) (c1 : c ≤ 1000000) :
    Ok (fX12_rain a b m) (DM (if 0 ≤ a ∧ a ≤ 9 then (if 1 ≤ b ∧ b ≤ 99 then 0 else 1) else 1) (tooF (rainK (keepK K) a b)) (rainK (keepK K) a b) m) := by
  have hCV := KV_CV hV
  unfold fX12_rain fX12_fails
  simp only [rd_eq, wr_eq, jn_eq, m_within, bR_some, bW_some]
  have F0 : Fr [287] m (up m 287 4 0) := fr_up (by simp) fr_refl
  have N : ∀ v i, i ≠ 4 → up m 287 4 v 287 i = m 287 i := fun v i h => up_idx h
  have hK1 : (up m 287 4 0) 288 = K := (up_cell (by decide)).trans hK
  have bad : Ok (some ((0 : Int), up (up m 287 4 0) 287 4 1)) (DM 1 (tooF (rainK (keepK K) a b)) (rainK (keepK K) a b) m) := by
    have e : ∀ i, i ≠ 4 → up (up m 287 4 0) 287 4 1 287 i = m 287 i := fun i h => by rw [up_idx h, up_idx h]
    exact ok_some ⟨up_same (up m 287 4 0) 287 4 1, fun q => by omega, fun _ => fr_up (by simp) (fr_mono' F0 (by decide)), e 6 (by decide), e 14 (by decide), e 15 (by decide)⟩
  by_cases ha : 0 ≤ a ∧ a ≤ 9
  · rw [if_pos ha, if_neg (by decide), if_pos ha]
    by_cases hb : 1 ≤ b ∧ b ≤ 99
    · rw [if_pos hb, if_pos (by decide), if_pos hb]
      refine ok_bV (m_keeps hK1 hV.2.2.1) ?_
      rintro m2 ⟨a2, b2⟩
      have hV2 : CV c (keepK K) := CV_sameC sameC_keep hCV
      refine ok_bV (m_rains a2 hV2 c1 (by omega) (by omega)) ?_
      rintro m3 ⟨a3, b3⟩
      have hV3 := CV_rain hV2 ha.1 ha.2 (show 0 ≤ b by omega) (show b ≤ 1000 by omega)
      have h3 := hV3.1.2.1
      have e7 : m3 287 = up m 287 4 0 287 := by rw [b3 287 (by decide), b2 287 (by decide)]
      have FF : Fr [287, 288, 293, 294, 295] m m3 := fr_trans (fr_mono' F0 (by decide)) (fr_trans (fr_mono' b2 (by decide)) (fr_mono' b3 (by decide)))
      generalize rainK (keepK K) a b = K1 at *
      refine lp_for2 (K1 3) (fun t i mm => ∃ j : Nat, i = (j : Int) ∧ t = pdN K1 j ∧ Fr [293, 294] m3 mm) ⟨0, rfl, rfl, fr_refl⟩ h3.1 (by omega) ?_ ?_
      · rintro G t i mm hi ⟨j, rfl, rfl, hF⟩ ih
        have hK' : mm 288 = K1 := (hF 288 (by decide)).trans a3
        rw [hK', if_neg (by omega), m_isParted hK' (by omega) (by omega), bR_some, w32_id (x := (j : Int) + 1) (by omega) (by omega)]
        have nx : ∀ m', Fr [293, 294] mm m' → Ok (G (pdN K1 (j + 1), (j : Int) + 1) m') (DM 0 (tooF K1) K1 m) := fun m' hf => ih _ m' ⟨j + 1, by simp, rfl, fr_trans hF hf⟩
        rw [Int.toNat_natCast]
        cases ht : tb (K1 21) j
        · rw [if_neg (by simp), m_apartOf hK' hV3 (by omega) (by omega), bR_some]
          refine ok_bW (m_lengthNow hK' hV3.1 hV3.2 (by omega) (by omega)) ?_
          rintro x m' ⟨ex, hf⟩
          simp only at ex hf
          subst ex
          by_cases q : apartF (K1 1) (K1 (13 + j)) (K1 (17 + j)) ≤ lenF K1 j (K1 (25 + j)) (K1 24)
          · rw [if_pos q, ior_zero (pdN_rg j)]
            have := nx m' hf
            rwa [pdN_no (K := K1) (by simp [pdB, ht]; omega)] at this
          · rw [if_neg q]
            have := nx m' hf
            rwa [pdN_yes (K := K1) (by simp [pdB, ht]; omega)] at this
        · rw [if_pos (by simp), ior_zero (pdN_rg j)]
          have := nx mm fr_refl
          rwa [pdN_no (K := K1) (by simp [pdB, ht])] at this
      · rintro G t mm ⟨j, hj, rfl, hF⟩
        have hK' : mm 288 = K1 := (hF 288 (by decide)).trans a3
        have ej : pdN K1 j = tooF K1 := by rw [tooF, hj, Int.toNat_natCast]
        have e7' : mm 287 = up m 287 4 0 287 := (hF 287 (by decide)).trans e7
        rw [hK', if_pos (by omega), ej]
        refine ok_some ⟨?_, fun _ => ⟨rfl, hK', fr_trans FF (fr_mono' hF (by decide))⟩, fun q => absurd rfl q, ?_⟩
        · show mm 287 4 = 0; rw [e7', up_same]
        · show mm 287 6 = _ ∧ mm 287 14 = _ ∧ mm 287 15 = _
          rw [e7']; exact ⟨N 0 6 (by decide), N 0 14 (by decide), N 0 15 (by decide)⟩
    · rw [if_neg hb, if_neg (by decide), if_neg hb]; exact bad
  · rw [if_neg ha, if_pos rfl, if_neg ha]; exact bad
theorem d_rain {c a b : Int} {m : Mem} (hI : Inv c m) (c0 : 0 ≤ c) (c1 : c ≤ 900000) : Two1 c (fL_rain a b) (fX12_rain a b) m := by
  have hV := hI.2.2.1
  refine two_d (x := fX11_rain a b) (k := if 0 ≤ a ∧ a ≤ 9 then (if 1 ≤ b ∧ b ≤ 99 then 0 else 1) else 1) (k' := if 0 ≤ a ∧ a ≤ 9 then (if 1 ≤ b ∧ b ≤ 99 then 0 else 1) else 1) hI c0 (c_rain hI.2.2.2.1 hV (by omega)) (fun _ => rfl) (fun q => q) ?_ (fun m1 e _ _ _ => m_rain e hV (by omega)) ?_
  · by_cases hp : (0 ≤ a ∧ a ≤ 9) <;> by_cases hw : (1 ≤ b ∧ b ≤ 99) <;> simp [hp, hw]
  · intro q
    by_cases hp : (0 ≤ a ∧ a ≤ 9)
    · by_cases hw : (1 ≤ b ∧ b ≤ 99)
      · have hV2 := KV_keep hV
        exact KV_cur sameU_rain hV2 (CV_mono (CV_rain (KV_CV hV2) hp.1 hp.2 (by omega) (by omega)) (by omega)) (by omega)
      · rw [if_pos hp, if_neg hw] at q; omega
    · rw [if_neg hp] at q; omega
/-! hours -/
def hrN (K : Int → Int) : Nat → Int → Int
  | 0 => K
  | n + 1 => hourK (hrN K n)
theorem sameU_hrN {K : Int → Int} : ∀ n, SameU K (hrN K n)
  | 0 => sameU_refl
  | n + 1 => sameU_trans (sameU_hrN n) sameU_hour
theorem CV_hrN {K : Int → Int} {c : Int} (h : CV c K) : ∀ n : Nat, CV (c + n) (hrN K n)
  | 0 => by
    have : CV (c + 0) K := by rw [Int.add_zero]; exact h
    exact this
  | n + 1 => CV_mono (CV_hour (CV_hrN h n)) (by omega)
theorem hrN_21 {K : Int → Int} (n : Nat) : hrN K (n + 1) 21 = ior (hrN K n 21) (tooF (ku (hrN K n) 24 (hrN K n 24 + 1))) := by
  show hourK (hrN K n) 21 = _
  unfold hourK
  rw [ku_at]
theorem hrN_sub {K : Int → Int} {i : Nat} (h : tb (K 21) i = true) : ∀ n, tb (hrN K n 21) i = true
  | 0 => h
  | n + 1 => by rw [hrN_21, tb_or, hrN_sub h n]; rfl
/-- those that are parted in so many hours -/
def newP (K : Int → Int) : Nat → Int
  | 0 => 0
  | n + 1 => ior (newP K n) (tooF (ku (hrN K n) 24 (hrN K n 24 + 1)))
theorem newP_eq {K : Int → Int} {c : Int} (hV : CV c K) (n : Nat) : newP K n = iand (hrN K n 21) (ixor (K 21) (-1)) := by
  apply tb_ext
  · cases n with
    | zero => unfold newP; omega
    | succ n => exact ior_rg _ _
  · exact iand_rg _ _
  intro i hi
  rw [tb_and, tb_not _ hi]
  induction n with
  | zero =>
    show tb 0 i = (tb (K 21) i && _)
    rw [tb_zero]; cases tb (K 21) i <;> rfl
  | succ n ih =>
    show tb (ior (newP K n) _) i = _
    rw [tb_or, ih, hrN_21, tb_or]
    have h3 := (CV_hrN hV n).1.2.1
    have hb := (tooF_bits (K := ku (hrN K n) 24 (hrN K n 24 + 1)) (by rw [ku_ne (by decide)]; exact h3)).2 i hi
    cases hx : tb (tooF (ku (hrN K n) 24 (hrN K n 24 + 1))) i with
    | false => simp
    | true =>
      have := (hb.mp hx).2
      unfold pdB at this
      rw [ku_ne (by decide)] at this
      have hn : tb (hrN K n 21) i = false := by
        cases q : tb (hrN K n 21) i with
        | false => rfl
        | true => rw [q] at this; simp at this
      have h0 : tb (K 21) i = false := by
        cases q : tb (K 21) i with
        | false => rfl
        | true => rw [hrN_sub q n] at hn; cases hn
      rw [hn, h0]; rfl
theorem c_hours {K : Int → Int} {c n : Int} {m : Mem} (hW : WRel 19 K m) (hV : KV c K) (c0 : 0 ≤ c) (c1 : c ≤ 900000) :
    Ok (fX11_hours n m) (DC (if 1 ≤ n ∧ n ≤ 99 then 0 else 1) (newP (keepK K) n.toNat) (hrN (keepK K) n.toNat) m) := by
  have hCV := KV_CV hV
  unfold fX11_hours
  rw [c_needWithin, bX_if (by decide)]
  by_cases hn : 1 ≤ n ∧ n ≤ 99
  · rw [if_pos hn, if_pos hn]
    refine ok_bV (c_remember hW hV) ?_
    rintro m2 ⟨a2, b2, _⟩
    have hV2 : CV c (keepK K) := CV_sameC sameC_keep hCV
    simp only [rd_eq]
    rw [(curR_iff.mp (WRel_CR a2).2).1.2.2.2]
    refine lp_for n (fun i mm => ∃ j : Nat, i = (j : Int) ∧ CR (hrN (keepK K) j) mm ∧ Fr [27, 36, 37] m2 mm) ⟨0, rfl, WRel_CR a2, fr_refl⟩ (by omega) (by omega) ?_ ?_
    · rintro G i mm hi ⟨j, rfl, hR, hF⟩ ih
      rw [if_neg (by omega)]
      refine ok_bV (c_passHour hR (CV_hrN hV2 j) (by omega) (by omega)) ?_
      rintro m3 ⟨a3, b3⟩
      rw [w32_id (by omega) (by omega)]
      exact ih m3 ⟨j + 1, by simp, a3, fr_trans hF b3⟩
    · rintro G mm ⟨j, hj, hR, hF⟩
      have ej : n.toNat = j := by omega
      rw [if_pos (by omega), (curR_iff.mp hR.2).1.2.2.2, ej]
      refine ok_some ⟨rfl, fun _ => ⟨(newP_eq hV2 j).symm, WRel_cur (sameU_hrN j) a2 hR (fun o z => hF o (by simp; omega)), fr_trans (fr_FDK2 b2) (fr_FDK4 hF)⟩, fun q => absurd rfl q⟩
  · rw [if_neg hn, if_neg hn]
    exact ok_some ⟨rfl, fun q => by omega, fun _ => fr_refl⟩
theorem m_hours {K : Int → Int} {c n : Int} {m : Mem} (hK : m 288 = K) (hV : KV c K) (c0 : 0 ≤ c) (c1 : c ≤ 900000) :
    Ok (fX12_hours n m) (DM (if 1 ≤ n ∧ n ≤ 99 then 0 else 1) (newP (keepK K) n.toNat) (hrN (keepK K) n.toNat) m) := by
  have hCV := KV_CV hV
  unfold fX12_hours fX12_fails
  simp only [rd_eq, wr_eq, jn_eq, m_within, bR_some, bW_some]
  have F0 : Fr [287] m (up m 287 4 0) := fr_up (by simp) fr_refl
  have N : ∀ v i, i ≠ 4 → up m 287 4 v 287 i = m 287 i := fun v i h => up_idx h
  have hK1 : (up m 287 4 0) 288 = K := (up_cell (by decide)).trans hK
  by_cases hn : 1 ≤ n ∧ n ≤ 99
  · rw [if_pos hn, if_pos (by decide), if_pos hn]
    refine ok_bV (m_keeps hK1 hV.2.2.1) ?_
    rintro m2 ⟨a2, b2⟩
    have hV2 : CV c (keepK K) := CV_sameC sameC_keep hCV
    have e7 : m2 287 = up m 287 4 0 287 := b2 287 (by decide)
    refine lp_for2 n (fun t i mm => ∃ j : Nat, i = (j : Int) ∧ t = newP (keepK K) j ∧ mm 288 = hrN (keepK K) j ∧ Fr [288, 293, 294] m2 mm) ⟨0, rfl, rfl, a2, fr_refl⟩ (by omega) (by omega) ?_ ?_
    · rintro G t i mm hi ⟨j, rfl, rfl, hR, hF⟩ ih
      rw [if_neg (by omega)]
      refine ok_bW (m_hour hR (CV_hrN hV2 j) (by omega) (by omega)) ?_
      rintro x m3 ⟨a3, b3, b4⟩
      simp only at a3 b3 b4
      subst a3
      rw [w32_id (by omega) (by omega)]
      exact ih _ m3 ⟨j + 1, by simp, rfl, b3, fr_trans hF b4⟩
    · rintro G t mm ⟨j, hj, rfl, hR, hF⟩
      have ej : n.toNat = j := by omega
      have e7' : mm 287 = up m 287 4 0 287 := (hF 287 (by decide)).trans e7
      rw [if_pos (by omega), ej]
      refine ok_some ⟨?_, fun _ => ⟨rfl, hR, fr_trans (fr_mono' F0 (by decide)) (fr_trans (fr_mono' b2 (by decide)) (fr_mono' hF (by decide)))⟩, fun q => absurd rfl q, ?_⟩
      · show mm 287 4 = 0; rw [e7', up_same]
      · show mm 287 6 = _ ∧ mm 287 14 = _ ∧ mm 287 15 = _
        rw [e7']; exact ⟨N 0 6 (by decide), N 0 14 (by decide), N 0 15 (by decide)⟩
  · rw [if_neg hn, if_neg (by decide), if_neg hn]
    have e : ∀ i, i ≠ 4 → up (up m 287 4 0) 287 4 1 287 i = m 287 i := fun i h => by rw [up_idx h, up_idx h]
    exact ok_some ⟨up_same (up m 287 4 0) 287 4 1, fun q => by omega, fun _ => fr_up (by simp) (fr_mono' F0 (by decide)), e 6 (by decide), e 14 (by decide), e 15 (by decide)⟩
theorem d_hours {c n : Int} {m : Mem} (hI : Inv c m) (c0 : 0 ≤ c) (c1 : c ≤ 900000) : Two1 c (fL_hours n) (fX12_hours n) m := by
  have hV := hI.2.2.1
  refine two_d (x := fX11_hours n) (k := if 1 ≤ n ∧ n ≤ 99 then 0 else 1) (k' := if 1 ≤ n ∧ n ≤ 99 then 0 else 1) hI c0 (c_hours hI.2.2.2.1 hV c0 c1) (fun _ => rfl) (fun q => q) ?_ (fun m1 e _ _ _ => m_hours e hV c0 c1) ?_
  · by_cases hp : (1 ≤ n ∧ n ≤ 99) <;> simp [hp]
  · intro q
    by_cases hp : (1 ≤ n ∧ n ≤ 99)
    · have hV2 := KV_keep hV
      exact KV_cur (sameU_hrN _) hV2 (CV_mono (CV_hrN (KV_CV hV2) _) (by omega)) (by omega)
    · rw [if_neg hp] at q; omega
/-! undo -/
theorem c_undo {K : Int → Int} {c n : Int} {m : Mem} (hW : WRel 19 K m) (hV : KV c K) :
    Ok (fX11_undo n m) (DC (if 1 ≤ n ∧ n ≤ 10 ∧ n ≤ K 7 then 0 else 1) (K 7 - n) (undoK K n) m) := by
  have e7 : m 19 2 = K 7 := hW.2.2.1
  unfold fX11_undo
  simp only [rd_eq, jn_eq, e7]
  by_cases h : 1 ≤ n ∧ n ≤ 10 ∧ n ≤ K 7
  · rw [if_pos h, if_neg (by omega), if_neg (by omega), if_pos (by omega)]
    refine ok_bV (c_goBack hW hV h.1 h.2.2) ?_
    rintro m2 ⟨a2, b2⟩
    refine ok_some ⟨rfl, fun _ => ⟨a2.2.2.1, a2, fr_FDK8 b2⟩, fun q => absurd rfl q⟩
  · rw [if_neg h]
    have bad : Ok (some ((1 : Int), (0 : Int), m)) (DC 1 (K 7 - n) (undoK K n) m) := ok_some ⟨rfl, fun q => by omega, fun _ => fr_refl⟩
    by_cases h1 : n < 1
    · rw [if_pos h1]; exact bad
    · rw [if_neg h1]
      by_cases h2 : 10 < n
      · rw [if_pos h2]; exact bad
      · rw [if_neg h2, if_neg (by omega)]; exact bad
theorem m_undo {K : Int → Int} {c n : Int} {m : Mem} (hK : m 288 = K) (hV : KV c K) :
    Ok (fX12_undo n m) (DM (if 1 ≤ n ∧ n ≤ 10 ∧ n ≤ K 7 then 0 else 1) (K 7 - n) (undoK K n) m) := by
  have h7 := hV.2.2.1
  unfold fX12_undo fX12_fails
  simp only [rd_eq, wr_eq, jn_eq, m_within, bR_some, bW_some]
  have F0 : Fr [287] m (up m 287 4 0) := fr_up (by simp) fr_refl
  have N : ∀ v i, i ≠ 4 → up m 287 4 v 287 i = m 287 i := fun v i h => up_idx h
  have hK1 : (up m 287 4 0) 288 = K := (up_cell (by decide)).trans hK
  have bad : Ok (some ((0 : Int), up (up m 287 4 0) 287 4 1)) (DM 1 (K 7 - n) (undoK K n) m) := by
    have e : ∀ i, i ≠ 4 → up (up m 287 4 0) 287 4 1 287 i = m 287 i := fun i h => by rw [up_idx h, up_idx h]
    exact ok_some ⟨up_same (up m 287 4 0) 287 4 1, fun q => by omega, fun _ => fr_up (by simp) (fr_mono' F0 (by decide)), e 6 (by decide), e 14 (by decide), e 15 (by decide)⟩
  rw [hK1]
  by_cases h : 1 ≤ n ∧ n ≤ 10 ∧ n ≤ K 7
  · rw [if_pos h, if_pos (show 1 ≤ n ∧ n ≤ 10 by omega), if_neg (by decide), if_pos (by omega), w32_id (by omega) (by omega)]
    have FF : Fr [287, 288] m (up (up m 287 4 0) 288 7 (K 7 - n)) := fr_up (by simp) (fr_up (by simp) fr_refl)
    have hm : up (up m 287 4 0) 288 7 (K 7 - n) 288 = ku K 7 (K 7 - n) := by rw [up_row, hK1]
    have e287 : up (up m 287 4 0) 288 7 (K 7 - n) 287 = up m 287 4 0 287 := up_cell (by decide)
    generalize up (up m 287 4 0) 288 7 (K 7 - n) = m2 at *
    refine lp_for 16 (fun i q => 0 ≤ i ∧ Fr [288] m2 q ∧ q 288 = fun j => if j = 7 then K 7 - n else if 9 ≤ j ∧ j < 9 + i then K (37 + 16 * (K 7 - n) + (j - 9)) else K j) ⟨by omega, fr_refl, ?_⟩ (by decide) (by decide) ?_ ?_
    · rw [hm]; funext j; unfold ku
      repeat' split
      all_goals first | rfl | (exfalso; omega)
    · rintro G i q hi ⟨hi0, hF, hq⟩ ih
      have e7 : q 288 7 = K 7 - n := by rw [hq]; rfl
      rw [if_neg (by omega), e7, w32_id (x := 16 * (K 7 - n)) (by omega) (by omega), w32_id (x := 37 + 16 * (K 7 - n)) (by omega) (by omega), w32_id (x := 37 + 16 * (K 7 - n) + i) (by omega) (by omega), w32_id (x := 9 + i) (by omega) (by omega), w32_id (x := i + 1) (by omega) (by omega), chk_of (by omega), chk_of (by omega)]
      refine ih _ ⟨by omega, fr_up (by simp) hF, ?_⟩
      rw [up_row, hq]
      funext j
      unfold ku
      dsimp only
      repeat' split
      all_goals first | rfl | (exfalso; omega) | (congr 1 <;> omega)
    · rintro G q ⟨_, hF, hq⟩
      have e7 : q 288 7 = K 7 - n := by rw [hq]; rfl
      have e287' : q 287 = up m 287 4 0 287 := (hF 287 (by decide)).trans e287
      rw [if_pos (by omega), e7]
      refine ok_some ⟨?_, fun _ => ⟨rfl, ?_, fr_trans (fr_mono' FF (by decide)) (fr_mono' hF (by decide))⟩, fun q => absurd rfl q, ?_⟩
      · show q 287 4 = 0; rw [e287', up_same]
      · show q 288 = _
        rw [hq]; funext j; unfold undoK
        repeat' split
        all_goals first | rfl | (exfalso; omega)
      · show q 287 6 = _ ∧ q 287 14 = _ ∧ q 287 15 = _
        rw [e287']; exact ⟨N 0 6 (by decide), N 0 14 (by decide), N 0 15 (by decide)⟩
  · rw [if_neg h]
    by_cases h1 : 1 ≤ n ∧ n ≤ 10
    · rw [if_pos h1, if_neg (by decide), if_neg (by omega)]; exact bad
    · rw [if_neg h1, if_pos rfl]; exact bad
theorem d_undo {c n : Int} {m : Mem} (hI : Inv c m) (c0 : 0 ≤ c) : Two1 c (fL_undo n) (fX12_undo n) m := by
  have hV := hI.2.2.1
  refine two_d (x := fX11_undo n) (k := if 1 ≤ n ∧ n ≤ 10 ∧ n ≤ m 288 7 then 0 else 1) (k' := if 1 ≤ n ∧ n ≤ 10 ∧ n ≤ m 288 7 then 0 else 1) hI c0 (c_undo hI.2.2.2.1 hV) (fun _ => rfl) (fun q => q) ?_ (fun m1 e _ _ _ => m_undo e hV) ?_
  · by_cases hp : (1 ≤ n ∧ n ≤ 10 ∧ n ≤ m 288 7) <;> simp [hp]
  · intro q
    by_cases hp : (1 ≤ n ∧ n ≤ 10 ∧ n ≤ m 288 7)
    · exact KV_mono (KV_undo hV hp.1 hp.2.2) (by omega)
    · rw [if_neg hp] at q; omega

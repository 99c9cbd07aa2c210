/-! ===== D12: fault, feed, place, partsIn ===== -/
def TwoR (c : Int) (F : Mem → Option Int) (G : Mem → Option (Int × Mem)) (m : Mem) : Prop := ∃ v, F m = some v ∧ Ok (G m) (fun s => v = s.1 ∧ Inv (c + 100) s.2)
theorem inv_m {c : Int} {m m' : Mem} (hI : Inv c m) (c0 : 0 ≤ c) (hF : Fr [287, 293, 294] m m') (h : ∀ i, i ≠ 4 → m' 287 i = m 287 i) : Inv (c + 100) m' := by
  refine Inv_mono (inv_q hI (fun o ho => hF o (held_of (by decide) ho)) ⟨h 6 (by decide), h 14 (by decide), h 15 (by decide)⟩ (NearOk_fr hI.2.2.2.2.2.2.1 ?_ (hF 81 (by decide))) (PtrR_fr hI.2.2.2.2.2.2.2 (hF 96 (by decide)) (hF 100 (by decide)))) (by omega)
  rw [hF 18 (by decide)]; exact ⟨rfl, rfl, rfl⟩
theorem d_fault {c w : Int} {m : Mem} (hI : Inv c m) (c0 : 0 ≤ c) : TwoR c (fX11_fault w) (fX12_fault w) m := by
  have hf := hI.2.1
  have F : Fr [287, 293, 294] m (up m 287 4 0) := fr_up (by simp) fr_refl
  have N : ∀ i, i ≠ 4 → up m 287 4 0 287 i = m 287 i := fun i h => up_idx h
  have hI' := inv_m hI c0 F N
  unfold TwoR fX11_fault fX12_fault
  simp only [rd_eq, wr_eq, jn_eq]
  by_cases h0 : w = 0
  · subst h0
    refine ⟨m 0 2, by rw [if_pos rfl], ?_⟩
    rw [if_neg (by simp)]
    exact ok_some ⟨hf.1.trans (N 14 (by decide)).symm, hI'⟩
  · by_cases h1 : w = 1
    · subst h1
      refine ⟨m 0 3, by rw [if_neg (by decide), if_pos rfl], ?_⟩
      rw [if_pos (by decide), if_neg (by simp)]
      exact ok_some ⟨hf.2.trans (N 15 (by decide)).symm, hI'⟩
    · refine ⟨-1, by rw [if_neg h0, if_neg h1], ?_⟩
      rw [if_pos h0, if_pos h1]
      exact ok_some ⟨rfl, hI'⟩
/-! feed -/
theorem iand_255 (x : Int) : iand x 255 = x % 256 := by
  have e : (Int32.ofInt x &&& Int32.ofInt 255).toBitVec = BitVec.ofInt 32 (x % 256) := by
    rw [Int32.toBitVec_and, Int32.toBitVec_ofInt, Int32.toBitVec_ofInt]
    apply BitVec.eq_of_toNat_eq
    rw [BitVec.toNat_and, BitVec.toNat_ofInt, BitVec.toNat_ofInt, BitVec.toNat_ofInt]
    have h255 : ((255 : Int) % ((2 ^ 32 : Nat) : Int)).toNat = 2 ^ 8 - 1 := by decide
    rw [h255, Nat.and_two_pow_sub_one_eq_mod]
    omega
  unfold iand
  rw [← Int32.toInt_toBitVec, e, BitVec.toInt_ofInt]
  have h1 : 0 ≤ x % 256 ∧ x % 256 < 256 := by omega
  exact w32_id (by omega) (by omega)
theorem w8_mod (x : Int) : w8 (x % 256) = w8 x := by
  unfold w8; rw [Int.bmod_def, Int.bmod_def]
  have : x % 256 % ((256 : Nat) : Int) = x % ((256 : Nat) : Int) := by omega
  rw [this]
theorem w8_w8 (x : Int) : w8 (w8 x) = w8 x := by
  have : -128 ≤ w8 x ∧ w8 x < 128 := by unfold w8; rw [Int.bmod_def]; split <;> omega
  exact w8_id this.1 this.2
def byteF (a : Int) (k : Int) : Int := iushr a (24 - 8 * k) % 256
theorem c_tapeOn {a n : Int} {m : Mem} (h1 : m 0 1 = n) (n0 : 0 ≤ n) (n1 : n + 4 ≤ 900) :
    Ok (fX11_tapeOn a m) (fun m' => m' 0 1 = n + 4 ∧ (∀ k, 0 ≤ k → k < 4 → m' 1 (n + k) = w8 (byteF a k)) ∧ (∀ i, i < n → m' 1 i = m 1 i) ∧ (∀ i, i ≠ 1 → m' 0 i = m 0 i) ∧ Fr [0, 1] m m') := by
  unfold fX11_tapeOn
  simp only [rd_eq, wr_eq, jn_eq]
  refine lp_ok (fun (t : Int) (mm : Mem) => ∃ j : Int, t = 24 - 8 * j ∧ (0 ≤ j ∧ j ≤ 4) ∧ mm 0 1 = n + j ∧ (∀ k, 0 ≤ k → k < j → mm 1 (n + k) = w8 (byteF a k)) ∧ (∀ i, i < n → mm 1 i = m 1 i) ∧ (∀ i, i ≠ 1 → mm 0 i = m 0 i) ∧ Fr [0, 1] m mm) (fun t _ => (t + 8).toNat) ⟨0, by omega, by omega, by omega, fun k a b => by omega, fun _ _ => rfl, fun _ _ => rfl, fr_refl⟩ (by decide) ?_
  rintro G t mm ⟨j, rfl, ⟨j0, j4⟩, hn, hb, ho, hz, hF⟩ ih
  by_cases hj : j = 4
  · subst hj
    rw [if_pos (by omega)]
    exact ok_some ⟨hn, hb, ho, hz, hF⟩
  · rw [if_neg (by omega), hn, if_neg (by omega), chk_of (by omega), up_cell (show 0 ≠ 1 by decide), hn, w32_id (x := n + j + 1) (by omega) (by omega), w32_id (x := 24 - 8 * j + -8) (by omega) (by omega), w8_w8]
    refine ih _ _ ⟨j + 1, by omega, by omega, ?_, ?_, ?_, ?_, fr_up (by simp) (fr_up (by simp) hF)⟩ (by show (24 - 8 * j + -8 + 8).toNat < (24 - 8 * j + 8).toNat; omega)
    · rw [up_same]; omega
    · intro k k0 k1
      rw [up_cell (by decide), up_at]
      by_cases e : k = j
      · subst e; rw [if_pos rfl, byteF, w8_mod]
      · rw [if_neg (by omega)]; exact hb k k0 (by omega)
    · intro i hi
      rw [up_cell (by decide), up_idx (by omega)]; exact ho i hi
    · intro i hi
      rw [up_idx hi, up_cell (by decide)]; exact hz i hi
def wordF (a b c d e k : Int) : Int := if k < 4 then a else if k < 8 then b else if k < 12 then c else if k < 16 then d else e
theorem iand_3 : ∀ k : Nat, k < 20 → iand (k : Int) 3 = (k : Int) % 4 := by decide +kernel
theorem c_feed {a b c' d e n : Int} {m : Mem} (h1 : m 0 1 = n) (n0 : 0 ≤ n) (n1 : n + 20 ≤ 900) :
    Ok (fX11_feed a b c' d e m) (fun r => r.1 = n + 20 ∧ r.2 0 1 = n + 20 ∧ (∀ k, 0 ≤ k → k < 20 → r.2 1 (n + k) = w8 (byteF (wordF a b c' d e k) (k % 4))) ∧ (∀ i, i < n → r.2 1 i = m 1 i) ∧ (∀ i, i ≠ 1 → r.2 0 i = m 0 i) ∧ Fr [0, 1] m r.2) := by
  unfold fX11_feed
  simp only [rd_eq, h1]
  rw [w32_id (by omega) (by omega), if_pos n1]
  refine ok_bV (c_tapeOn h1 n0 (by omega)) ?_
  rintro m1 ⟨a1, a2, a3, a4, a5⟩
  refine ok_bV (c_tapeOn a1 (by omega) (by omega)) ?_
  rintro m2 ⟨b1, b2, b3, b4, b5⟩
  refine ok_bV (c_tapeOn b1 (by omega) (by omega)) ?_
  rintro m3 ⟨d1, d2, d3, d4, d5⟩
  refine ok_bV (c_tapeOn d1 (by omega) (by omega)) ?_
  rintro m4 ⟨e1, e2, e3, e4, e5⟩
  refine ok_bV (c_tapeOn e1 (by omega) (by omega)) ?_
  rintro m5 ⟨f1, f2, f3, f4, f5⟩
  refine ok_some ⟨by show m5 0 1 = _; omega, by show m5 0 1 = _; omega, fun k k0 k1 => ?_, fun i hi => ?_, fun i hi => ?_, fr_trans a5 (fr_trans b5 (fr_trans d5 (fr_trans e5 f5)))⟩
  · show m5 1 (n + k) = _
    unfold wordF
    by_cases q1 : k < 4
    · rw [if_pos q1, f3 _ (by omega), e3 _ (by omega), d3 _ (by omega), b3 _ (by omega), a2 k k0 q1, show k % 4 = k by omega]
    · rw [if_neg q1]
      by_cases q2 : k < 8
      · rw [if_pos q2, f3 _ (by omega), e3 _ (by omega), d3 _ (by omega), show n + k = n + 4 + k % 4 by omega, b2 _ (by omega) (by omega)]
      · rw [if_neg q2]
        by_cases q3 : k < 12
        · rw [if_pos q3, f3 _ (by omega), e3 _ (by omega), show n + k = n + 4 + 4 + k % 4 by omega, d2 _ (by omega) (by omega)]
        · rw [if_neg q3]
          by_cases q4 : k < 16
          · rw [if_pos q4, f3 _ (by omega), show n + k = n + 4 + 4 + 4 + k % 4 by omega, e2 _ (by omega) (by omega)]
          · rw [if_neg q4, show n + k = n + 4 + 4 + 4 + 4 + k % 4 by omega, f2 _ (by omega) (by omega)]
  · show m5 1 i = _
    rw [f3 i (by omega), e3 i (by omega), d3 i (by omega), b3 i (by omega), a3 i hi]
  · show m5 0 i = _
    rw [f4 i hi, e4 i hi, d4 i hi, b4 i hi, a4 i hi]
theorem m_feed {a b c' d e n : Int} {m : Mem} (h1 : m 287 6 = n) (n0 : 0 ≤ n) (n1 : n + 20 ≤ 900) :
    Ok (fX12_feed a b c' d e m) (fun r => r.1 = n + 20 ∧ r.2 287 6 = n + 20 ∧ (∀ k, 0 ≤ k → k < 20 → r.2 292 (n + k) = byteF (wordF a b c' d e k) (k % 4)) ∧ (∀ i, i < n → r.2 292 i = m 292 i) ∧ (∀ i, i ≠ 4 → i ≠ 6 → r.2 287 i = m 287 i) ∧ Fr [287, 292] m r.2) := by
  unfold fX12_feed
  simp only [rd_eq, wr_eq, jn_eq]
  rw [up_idx (show (6 : Int) ≠ 4 by decide), h1, w32_id (by omega) (by omega), if_pos n1]
  refine lp_for 20 (fun i mm => 0 ≤ i ∧ mm 287 6 = n + i ∧ (∀ k, 0 ≤ k → k < i → mm 292 (n + k) = byteF (wordF a b c' d e k) (k % 4)) ∧ (∀ i, i < n → mm 292 i = m 292 i) ∧ (∀ i, i ≠ 4 → i ≠ 6 → mm 287 i = m 287 i) ∧ Fr [287, 292] m mm) ⟨by omega, by rw [up_idx (by decide), h1]; omega, fun k a b => by omega, fun i _ => by rw [up_cell (by decide)], fun i h _ => up_idx h, fr_up (by simp) fr_refl⟩ (by decide) (by decide) ?_ ?_
  · rintro G i mm hi ⟨i0, hn, hb, ho, hz, hF⟩ ih
    rw [if_neg (by omega)]
    have step : ∀ w, w = wordF a b c' d e i → Ok (chk ((0 : Int) ≤ mm 287 6 ∧ mm 287 6 < ((900 : Nat) : Int)) (G (w32 (i + 1)) (up (up mm 292 (mm 287 6) (iand (iushr w (w32 (24 - w32 (8 * iand i 3)))) 255)) 287 6 (w32 ((up mm 292 (mm 287 6) (iand (iushr w (w32 (24 - w32 (8 * iand i 3)))) 255)) 287 6 + 1))))) (fun r => r.1 = n + 20 ∧ r.2 287 6 = n + 20 ∧ (∀ k, 0 ≤ k → k < 20 → r.2 292 (n + k) = byteF (wordF a b c' d e k) (k % 4)) ∧ (∀ i, i < n → r.2 292 i = m 292 i) ∧ (∀ i, i ≠ 4 → i ≠ 6 → r.2 287 i = m 287 i) ∧ Fr [287, 292] m r.2) := by
      intro w hw
      have e3 := iand_3 i.toNat (by omega)
      rw [Int.toNat_of_nonneg i0] at e3
      rw [hn, chk_of (by omega), up_cell (show 287 ≠ 292 by decide), hn, e3, w32_id (x := 8 * (i % 4)) (by omega) (by omega), w32_id (x := 24 - 8 * (i % 4)) (by omega) (by omega), iand_255, w32_id (x := n + i + 1) (by omega) (by omega), w32_id (x := i + 1) (by omega) (by omega)]
      refine ih _ ⟨by omega, by rw [up_same]; omega, ?_, ?_, ?_, fr_up (by simp) (fr_up (by simp) hF)⟩
      · intro k k0 k1
        rw [up_cell (by decide), up_at]
        by_cases q : k = i
        · subst q; rw [if_pos rfl, byteF, hw]
        · rw [if_neg (by omega)]; exact hb k k0 (by omega)
      · intro j hj
        rw [up_cell (by decide), up_idx (by omega)]; exact ho j hj
      · intro j j4 j6
        rw [up_idx j6, up_cell (by decide)]; exact hz j j4 j6
    by_cases q1 : i < 4
    · rw [if_neg (by omega)]; exact step a (by unfold wordF; rw [if_pos q1])
    · rw [if_pos (by omega)]
      by_cases q2 : i < 8
      · rw [if_neg (by omega)]; exact step b (by unfold wordF; rw [if_neg q1, if_pos q2])
      · rw [if_pos (by omega)]
        by_cases q3 : i < 12
        · rw [if_neg (by omega)]; exact step c' (by unfold wordF; rw [if_neg q1, if_neg q2, if_pos q3])
        · rw [if_pos (by omega)]
          by_cases q4 : i < 16
          · rw [if_neg (by omega)]; exact step d (by unfold wordF; rw [if_neg q1, if_neg q2, if_neg q3, if_pos q4])
          · rw [if_pos (by omega)]; exact step e (by unfold wordF; rw [if_neg q1, if_neg q2, if_neg q3, if_neg q4])
  · rintro G mm ⟨i0, hn, hb, ho, hz, hF⟩
    rw [if_pos (by omega)]
    exact ok_some ⟨hn, hn, hb, ho, hz, hF⟩
theorem d_feed {c a b c' d e : Int} {m : Mem} (hI : Inv c m) (c0 : 0 ≤ c) : Two0 c (fX11_feed a b c' d e) (fX12_feed a b c' d e) m := by
  obtain ⟨t1, t2, t3⟩ := hI.1
  by_cases hn : m 0 1 + 20 ≤ 900
  · refine ok_imp (c_feed rfl t2.1 hn) ?_
    rintro ⟨x, m1⟩ ⟨a1, a2, a3, a4, a5, a6⟩
    simp only at a1 a2 a3 a4 a5 a6
    have e1 : m1 287 6 = m 0 1 := by rw [a6 287 (by decide)]; exact t1.symm
    refine ok_imp (m_feed e1 t2.1 hn) ?_
    rintro ⟨y, m2⟩ ⟨b1, b2, b3, b4, b5, b6⟩
    simp only at b1 b2 b3 b4 b5 b6
    refine ⟨a1.trans b1.symm, ?_⟩
    show Inv (c + 100) m2
    obtain ⟨i1, i2, i3, i4, i5, i6, i7, i8⟩ := hI
    have k : ∀ o, o ≠ 0 → o ≠ 1 → o ≠ 287 → o ≠ 292 → m2 o = m o := fun o z0 z1 z2 z3 => (b6 o (by simp [z2, z3])).trans (a6 o (by simp [z0, z1]))
    have e0 : m2 0 = m1 0 := b6 0 (by decide)
    have e11 : m2 1 = m1 1 := b6 1 (by decide)
    refine Inv_mono (c := c) ⟨⟨?_, ?_, ?_⟩, ⟨?_, ?_⟩, ?_, ?_, ImgR_fr i5 (k _ (by decide) (by decide) (by decide) (by decide)) (k _ (by decide) (by decide) (by decide) (by decide)) (k _ (by decide) (by decide) (by decide) (by decide)) (fun o z1 z2 => k o (by omega) (by omega) (by omega) (by omega)), TrayR_fr i6 (fun o z => k o (by omega) (by omega) (by omega) (by omega)), NearOk_fr i7 (by rw [k 18 (by decide) (by decide) (by decide) (by decide)]; exact ⟨rfl, rfl, rfl⟩) (k _ (by decide) (by decide) (by decide) (by decide)), PtrR_fr i8 (k _ (by decide) (by decide) (by decide) (by decide)) (k _ (by decide) (by decide) (by decide) (by decide))⟩ (by omega)
    · rw [e0, a2, b2]
    · rw [e0, a2]; omega
    · intro i z0 z1
      rw [e0, a2] at z1
      rw [e11]
      by_cases q : i < m 0 1
      · rw [a4 i q, b4 i q, a6 292 (by decide)]; exact t3 i z0 q
      · have g1 := a3 (i - m 0 1) (by omega) (by omega)
        have g2 := b3 (i - m 0 1) (by omega) (by omega)
        rw [show m 0 1 + (i - m 0 1) = i by omega] at g1 g2
        rw [g1, g2]
        refine ⟨rfl, ?_, ?_⟩ <;> unfold byteF <;> omega
    · rw [e0, a5 2 (by decide), b5 14 (by decide) (by decide), a6 287 (by decide)]; exact i2.1
    · rw [e0, a5 3 (by decide), b5 15 (by decide) (by decide), a6 287 (by decide)]; exact i2.2
    · rw [k 288 (by decide) (by decide) (by decide) (by decide)]; exact i3
    · rw [k 288 (by decide) (by decide) (by decide) (by decide)]; exact WRel_fr' i4 (fun o z1 z2 => k o (by omega) (by omega) (by omega) (by omega))
  · unfold Two0 fX11_feed fX12_feed
    simp only [rd_eq, wr_eq]
    rw [w32_id (by omega) (by omega), if_neg hn]
    refine ok_some ?_
    dsimp only
    rw [up_idx (show (6 : Int) ≠ 4 by decide), ← t1, w32_id (by omega) (by omega), if_neg hn]
    exact ok_some ⟨rfl, inv_m hI c0 (fr_up (by simp) fr_refl) (fun i h => up_idx h)⟩

/-! ===== D20: image, restore ===== -/
theorem c_needImage {i : Int} {m : Mem} : fX11_needImage i m = some (if 0 ≤ i ∧ i < 3 then 0 else 3, 0, m) := by
  unfold fX11_needImage
  simp only [jn_eq]
  by_cases ht : 0 ≤ i ∧ i < 3
  · rw [if_pos ht, if_neg (by omega), if_pos (by omega)]
  · rw [if_neg ht]
    by_cases h0 : i < 0
    · rw [if_pos h0]
    · rw [if_neg h0, if_neg (by omega)]
theorem d_image {c i : Int} {m : Mem} (hI : Inv c m) (c0 : 0 ≤ c) : TwoV c (fL_image i) (fX12_image i) m := by
  have hV := hI.2.2.1
  have hW := hI.2.2.2.1
  unfold TwoV fL_image fX11_image
  rw [c_needImage, bX_if (by decide)]
  by_cases hi : 0 ≤ i ∧ i < 3
  · rw [if_pos hi, chk_of (by omega)]
    have hc : 86 + (rTab 5).1 + (rTab 5).2 * i.toNat = 110 + 59 * i.toNat := by show 86 + 24 + 59 * i.toNat = _; omega
    have hx : Ok (rdn (86 + (rTab 5).1 + (rTab 5).2 * i.toNat) fun x1 => bV (fX10_copyFrom x1 19 m) fun mm => chk ((0 : Int) ≤ i ∧ i < ((3 : Nat) : Int) ∧ ((1 : Int) = 0 ∨ (1 : Int) = 1)) (wr (up mm 87 i 1) fun mm => some ((0 : Int), (0 : Int), mm))) (fun r => r.1 = 0 ∧ r.2.2 87 = ku (m 87) i 1 ∧ WRel (110 + 59 * i.toNat) (m 288) r.2.2 ∧ ∀ o, o ≠ 87 → (o < 110 + 59 * i.toNat ∨ 110 + 59 * i.toNat + 59 ≤ o) → r.2.2 o = m o) := by
      rw [hc]
      simp only [rdn_eq, wr_eq]
      refine ok_bV (c_copyWorld (o := 110 + 59 * i.toNat) (a := 19) hW hV (by omega)) ?_
      rintro m1 ⟨a1, f1⟩
      rw [chk_of ⟨hi.1, hi.2, .inr trivial⟩]
      refine ok_some ⟨rfl, ?_, WRel_fr' a1 (fun o z1 z2 => up_cell (by omega)), fun o z1 z2 => ?_⟩
      · show up m1 87 i 1 87 = _
        rw [up_row, f1 87 (by omega)]
      · show up m1 87 i 1 o = _
        rw [up_cell z1, f1 o z2]
    refine bC_ok hx ?_ (fun k v' m1 hk hh => absurd hh.1 hk)
    rintro v' m1 ⟨_, g1, g2, g3⟩
    simp only at g1 g2 g3
    refine ok_some ?_
    unfold fX12_image
    simp only [rd_eq, wr_eq, jn_eq, m_within, bR_some]
    rw [if_pos (show 0 ≤ i ∧ i ≤ 2 by omega), if_neg (by decide), up_same, if_pos (by decide), chk_of ⟨hi.1, hi.2, .inr trivial⟩]
    have h4 : up (up m1 287 4 0) 291 i 1 287 4 = 0 := by rw [up_cell (by decide), up_same]
    have h287 : ∀ j, j ≠ 4 → up (up m1 287 4 0) 291 i 1 287 j = m 287 j := fun j hj => by rw [up_cell (by decide), up_idx hj, g3 287 (by decide) (by omega)]
    have h291 : up (up m1 287 4 0) 291 i 1 291 = ku (m 291) i 1 := by rw [up_row, up_cell (by decide), g3 291 (by decide) (by omega)]
    have hb : ∀ o, o ≠ 287 → o ≠ 291 → up (up m1 287 4 0) 291 i 1 o = m1 o := fun o a b => by rw [up_cell b, up_cell a]
    generalize up (up m1 287 4 0) 291 i 1 = m2 at *
    have e288 : m2 288 = m 288 := (hb 288 (by decide) (by decide)).trans (g3 288 (by decide) (by omega))
    have e290 : m2 290 = m 290 := (hb 290 (by decide) (by decide)).trans (g3 290 (by decide) (by omega))
    refine lp_for 2005 (fun k mm => 0 ≤ k ∧ (∀ j, 0 ≤ j → j < k → mm 290 (2005 * i + j) = m 288 j) ∧ (∀ j, (j < 2005 * i ∨ 2005 * i + 2005 ≤ j) → mm 290 j = m 290 j) ∧ Fr [290] m2 mm) ⟨by omega, fun j _ _ => by omega, fun j _ => by rw [e290], fr_refl⟩ (by decide) (by decide) ?_ ?_
    · rintro G k mm hk ⟨k0, a1, a2, a3⟩ ih
      rw [if_neg (by omega), chk_of (by omega), w32_id (x := 2005 * i) (by omega) (by omega), w32_id (x := 2005 * i + k) (by omega) (by omega), chk_of (by omega), w32_id (x := k + 1) (by omega) (by omega), a3 288 (by decide), e288]
      refine ih _ ⟨by omega, fun j j0 j1 => ?_, fun j hj => ?_, fr_up (by simp) a3⟩
      · rw [up_row]
        by_cases q : j = k
        · subst q; exact ku_at _ _ _
        · rw [ku_ne (by omega)]; exact a1 j j0 (by omega)
      · rw [up_row, ku_ne (by omega)]; exact a2 j hj
    · rintro G mm ⟨k0, a1, a2, a3⟩
      rw [if_pos (by omega)]
      have k : ∀ o, o ≠ 287 → o ≠ 290 → o ≠ 291 → mm o = m1 o := fun o z1 z2 z3 => (a3 o (by simp [z2])).trans (hb o z1 z3)
      have e287 : mm 287 = m2 287 := a3 287 (by decide)
      have e288' : mm 288 = m 288 := (a3 288 (by decide)).trans e288
      obtain ⟨i1, i2, i3, i4, i5, i6, i7, i8⟩ := hI
      have kk : ∀ o, o ≠ 87 → o ≠ 287 → o ≠ 290 → o ≠ 291 → (o < 110 ∨ 287 ≤ o) → mm o = m o := fun o z0 z1 z2 z3 z4 => (k o z1 z2 z3).trans (g3 o z0 (by omega))
      have e0 : mm 0 = m 0 := kk 0 (by omega) (by omega) (by omega) (by omega) (by omega)
      refine ok_some ⟨by rw [e287]; exact h4, Inv_mono (c := c) ⟨TapeR_fr i1 (by rw [e0]) (kk 1 (by omega) (by omega) (by omega) (by omega) (by omega)) (kk 292 (by omega) (by omega) (by omega) (by omega) (by omega)) (by rw [e287]; exact h287 6 (by decide)), ?_, by rw [e288']; exact i3, ?_, fun j j0 j3 => ?_, TrayR_fr i6 (fun o z => kk o (by omega) (by omega) (by omega) (by omega) (by omega)), NearOk_fr i7 (by rw [kk 18 (by omega) (by omega) (by omega) (by omega) (by omega)]; exact ⟨rfl, rfl, rfl⟩) (kk 81 (by omega) (by omega) (by omega) (by omega) (by omega)), PtrR_fr i8 (kk 96 (by omega) (by omega) (by omega) (by omega) (by omega)) (kk 100 (by omega) (by omega) (by omega) (by omega) (by omega))⟩ (by omega)⟩
      · unfold FaultR; rw [e0, e287, h287 14 (by decide), h287 15 (by decide)]; exact i2
      · rw [e288']; exact WRel_fr' i4 (fun o z1 z2 => kk o (by omega) (by omega) (by omega) (by omega) (by omega))
      · rw [k 87 (by decide) (by decide) (by decide), g1, a3 291 (by decide), h291]
        by_cases hj : j = i
        · subst hj
          rw [ku_at, ku_at]
          have sw : SameW (m 288) (imgK mm j) := fun z z0 z1 => a1 z z0 z1
          refine ⟨⟨rfl, .inr rfl⟩, fun _ => ⟨KV_same sw i3, WRel_same sw i3 (WRel_fr' g2 (fun o z1 z2 => k o (by omega) (by omega) (by omega)))⟩⟩
        · rw [ku_ne hj, ku_ne hj]
          refine ⟨(i5 j j0 j3).1, fun q => ?_⟩
          obtain ⟨w1, w2⟩ := (i5 j j0 j3).2 q
          have sw : SameW (imgK m j) (imgK mm j) := fun z z0 z1 => a2 _ (by omega)
          exact ⟨KV_same sw w1, WRel_same sw w1 (WRel_fr' w2 (fun o z1 z2 => (k o (by omega) (by omega) (by omega)).trans (g3 o (by omega) (by omega))))⟩
  · rw [if_neg hi]
    refine ok_of (a := (1, m)) rfl ?_
    unfold fX12_image
    simp only [rd_eq, wr_eq, jn_eq, m_within, bR_some]
    rw [if_neg (show ¬ (0 ≤ i ∧ i ≤ 2) by omega), if_pos rfl, up_same, if_neg (by decide)]
    exact ok_some ⟨up_same m 287 4 1, inv_m hI c0 (fr_up (by simp) fr_refl) (fun i h => up_idx h)⟩
theorem d_restore {c i : Int} {m : Mem} (hI : Inv c m) (c0 : 0 ≤ c) : TwoV c (fL_restore i) (fX12_restore i) m := by
  have bad : ∀ k, Inv (c + 100) (up m 287 4 k) := fun k => inv_m hI c0 (fr_up (by simp) fr_refl) (fun i h => up_idx h)
  unfold TwoV fL_restore fX11_restore
  rw [c_needImage, bX_if (by decide)]
  by_cases hi : 0 ≤ i ∧ i < 3
  · obtain ⟨⟨q1, q2⟩, q3⟩ := hI.2.2.2.2.1 i hi.1 hi.2
    rw [if_pos hi, chk_of (by omega)]
    simp only [rd_eq]
    rw [q1]
    by_cases hz : m 291 i = 0
    · rw [if_neg (by simp [hz])]
      refine ok_of (a := (2, m)) rfl ?_
      unfold fX12_restore
      simp only [rd_eq, wr_eq, jn_eq, m_within, bR_some]
      rw [if_pos (show 0 ≤ i ∧ i ≤ 2 by omega), if_pos (by decide), chk_of (by omega), if_neg (by simp [hz]), up_same, if_neg (by decide)]
      exact ok_some ⟨up_same m 287 4 2, bad 2⟩
    · obtain ⟨hKV, hWR⟩ := q3 (by omega)
      rw [if_pos hz, chk_of (by omega)]
      have hc : 86 + (rTab 5).1 + (rTab 5).2 * i.toNat = 110 + 59 * i.toNat := by show 86 + 24 + 59 * i.toNat = _; omega
      have hx : Ok (rdn (86 + (rTab 5).1 + (rTab 5).2 * i.toNat) fun x1 => bV (fX10_copyFrom 19 x1 m) fun mm => some ((0 : Int), (0 : Int), mm)) (fun r => r.1 = 0 ∧ WRel 19 (imgK m i) r.2.2 ∧ ∀ o, o < 19 ∨ 78 ≤ o → r.2.2 o = m o) := by
        rw [hc]
        simp only [rdn_eq]
        refine ok_bV (c_copyWorld (o := 19) (a := 110 + 59 * i.toNat) hWR hKV (by omega)) ?_
        rintro m1 ⟨a1, f1⟩
        exact ok_some ⟨rfl, a1, fun o z => f1 o (by omega)⟩
      refine bC_ok hx ?_ (fun k v' m1 hk hh => absurd hh.1 hk)
      rintro v' m1 ⟨_, g2, g3⟩
      simp only at g2 g3
      refine ok_some ?_
      unfold fX12_restore
      simp only [rd_eq, wr_eq, jn_eq, m_within, bR_some]
      rw [if_pos (show 0 ≤ i ∧ i ≤ 2 by omega), if_pos (by decide), chk_of (by omega), g3 291 (by omega), if_pos hz, up_same, if_pos (by decide)]
      have h4 : up m1 287 4 0 287 4 = 0 := up_same _ _ _ _
      have h287 : ∀ j, j ≠ 4 → up m1 287 4 0 287 j = m 287 j := fun j hj => by rw [up_idx hj, g3 287 (by omega)]
      have hb : ∀ o, o ≠ 287 → up m1 287 4 0 o = m1 o := fun o a => up_cell a
      generalize up m1 287 4 0 = m2 at *
      have e288 : m2 288 = m 288 := (hb 288 (by decide)).trans (g3 288 (by omega))
      have e290 : m2 290 = m 290 := (hb 290 (by decide)).trans (g3 290 (by omega))
      refine lp_for 2005 (fun k mm => 0 ≤ k ∧ (∀ j, 0 ≤ j → j < k → mm 288 j = imgK m i j) ∧ Fr [288] m2 mm) ⟨by omega, fun j _ _ => by omega, fr_refl⟩ (by decide) (by decide) ?_ ?_
      · rintro G k mm hk ⟨k0, a1, a3⟩ ih
        rw [if_neg (by omega), w32_id (x := 2005 * i) (by omega) (by omega), w32_id (x := 2005 * i + k) (by omega) (by omega), chk_of (by omega), chk_of (by omega), w32_id (x := k + 1) (by omega) (by omega), a3 290 (by decide), e290]
        refine ih _ ⟨by omega, fun j j0 j1 => ?_, fr_up (by simp) a3⟩
        rw [up_row]
        by_cases q : j = k
        · subst q; exact ku_at _ _ _
        · rw [ku_ne (by omega)]; exact a1 j j0 (by omega)
      · rintro G mm ⟨k0, a1, a3⟩
        rw [if_pos (by omega)]
        have e287 : mm 287 = m2 287 := a3 287 (by decide)
        have k : ∀ o, o ≠ 287 → o ≠ 288 → mm o = m1 o := fun o z1 z2 => (a3 o (by simp [z2])).trans (hb o z1)
        have kk : ∀ o, o ≠ 287 → o ≠ 288 → (o < 19 ∨ 78 ≤ o) → mm o = m o := fun o z1 z2 z4 => (k o z1 z2).trans (g3 o z4)
        obtain ⟨i1, i2, i3, i4, i5, i6, i7, i8⟩ := hI
        have e0 : mm 0 = m 0 := kk 0 (by omega) (by omega) (by omega)
        have sw : SameW (imgK m i) (mm 288) := fun z z0 z1 => a1 z z0 z1
        refine ok_some ⟨by rw [e287]; exact h4, Inv_mono (c := c) ⟨TapeR_fr i1 (by rw [e0]) (kk 1 (by omega) (by omega) (by omega)) (kk 292 (by omega) (by omega) (by omega)) (by rw [e287]; exact h287 6 (by decide)), ?_, KV_same sw hKV, WRel_same sw hKV (WRel_fr' g2 (fun o z1 z2 => k o (by omega) (by omega))), ImgR_fr i5 (kk _ (by omega) (by omega) (by omega)) (kk _ (by omega) (by omega) (by omega)) (kk _ (by omega) (by omega) (by omega)) (fun o z1 z2 => kk o (by omega) (by omega) (by omega)), TrayR_fr i6 (fun o z => kk o (by omega) (by omega) (by omega)), NearOk_fr i7 (by rw [kk 18 (by omega) (by omega) (by omega)]; exact ⟨rfl, rfl, rfl⟩) (kk 81 (by omega) (by omega) (by omega)), PtrR_fr i8 (kk 96 (by omega) (by omega) (by omega)) (kk 100 (by omega) (by omega) (by omega))⟩ (by omega)⟩
        unfold FaultR; rw [e0, e287, h287 14 (by decide), h287 15 (by decide)]; exact i2
  · rw [if_neg hi]
    refine ok_of (a := (1, m)) rfl ?_
    unfold fX12_restore
    simp only [rd_eq, wr_eq, jn_eq, m_within, bR_some]
    rw [if_neg (show ¬ (0 ≤ i ∧ i ≤ 2) by omega), if_neg (by decide), up_same, if_neg (by decide)]
    exact ok_some ⟨up_same m 287 4 1, bad 1⟩

/-! ===== D6: deeds done, kept, undone ===== -/
def walkK (K : Int → Int) (p t u : Int) : Int → Int := ku (ku K (13 + p) (besF (K 1) (K 2) (K (13 + p)) t)) (17 + p) (besF (K 1) (K 2) (K (17 + p)) u)
def rainK (K : Int → Int) (a b : Int) : Int → Int := ku (ku K 22 a) 23 (K 24 + b)
theorem sameI_walk {K : Int → Int} {p t u : Int} (p0 : 0 ≤ p) (p1 : p < 4) : SameI K (walkK K p t u) := sameI_trans (sameI_ku (by omega)) (sameI_ku (by omega))
theorem sameI_rain {K : Int → Int} {a b : Int} : SameI K (rainK K a b) := sameI_trans (sameI_ku (by omega)) (sameI_ku (by omega))
theorem whyF_inv {K : Int → Int} {p t u : Int} (h : whyF K p t u = 0) : (0 ≤ p ∧ p < K 3) ∧ (0 ≤ t ∧ t ≤ 4 ∧ 0 ≤ u ∧ u ≤ 4) ∧ goF K p 0 t ≠ -1 ∧ goF K p 1 u ≠ -1 := by
  by_cases h1 : 0 ≤ p ∧ p < K 3
  · by_cases h2 : 0 ≤ t ∧ t ≤ 4 ∧ 0 ≤ u ∧ u ≤ 4
    · refine ⟨h1, h2, fun q => ?_, fun q => ?_⟩
      · rw [whyF_2 h1 h2 (.inl q)] at h; omega
      · rw [whyF_2 h1 h2 (.inr q)] at h; omega
    · rw [whyF_t h1 h2] at h; omega
  · rw [whyF_p h1] at h; omega
theorem CV_walk {K : Int → Int} {c p t u : Int} (hV : CV c K) (hw : whyF K p t u = 0) : CV c (walkK K p t u) := by
  obtain ⟨hp, htu, g1, g2⟩ := whyF_inv hw
  have h3 := hV.1.2.1
  have hs : SameI K (walkK K p t u) := sameI_walk hp.1 (by omega)
  refine ⟨IsV_same hs hV.1, curV_iff.mpr ?_⟩
  obtain ⟨h1, h2, h4, h5, h6⟩ := curV_iff.mp hV.2
  have a1 := (goF_rg (who := 0) (t := t) hV hp.1 hp.2).resolve_left g1
  have a2 := (goF_rg (who := 1) (t := u) hV hp.1 hp.2).resolve_left g2
  have e1 : besF (K 1) (K 2) (K (13 + p)) t = goF K p 0 t := a1.2.2.2.symm
  have e2 : besF (K 1) (K 2) (K (17 + p)) u = goF K p 1 u := a2.2.2.2.symm
  unfold CurV
  rw [hs 1 (by omega), hs 2 (by omega), hs 3 (by omega), hs 8 (by omega)]
  have s : ∀ j : Int, j ≠ 13 + p → j ≠ 17 + p → walkK K p t u j = K j := fun j q1 q2 => by rw [walkK, ku_ne q2, ku_ne q1]
  rw [s 21 (by omega) (by omega), s 22 (by omega) (by omega), s 23 (by omega) (by omega), s 24 (by omega) (by omega)]
  refine ⟨fun q b0 b1 => ?_, h2, h4, h5, h6⟩
  obtain ⟨k1, k2, k3⟩ := h1 q b0 b1
  rw [s (9 + q) (by omega) (by omega)]
  refine ⟨k1, ?_, ?_⟩
  · by_cases e : q = p
    · subst e
      rw [walkK, ku_ne (by omega), ku_at, e1]
      exact ⟨a1.1, a1.2.1, a1.2.2.1⟩
    · rw [s (13 + q) (by omega) (by omega)]; exact k2
  · by_cases e : q = p
    · subst e
      rw [walkK, ku_at, e2]
      exact ⟨a2.1, a2.2.1, a2.2.2.1⟩
    · rw [s (17 + q) (by omega) (by omega)]; exact k3
theorem c_walk {K : Int → Int} {c p t u : Int} {m : Mem} (hR : CR K m) (hV : CV c K) (p0 : 0 ≤ p) (p1 : p < K 3) : Ok (fX10_walk p t u m) (fun m' => CR (walkK K p t u) m' ∧ Fr [28, 29] m m') := by
  have h3 := hV.1.2.1
  have hS := (curV_iff.mp hV.2).1 p p0 p1
  have hw := wide_of hV.1 p0 p1
  obtain ⟨⟨r0, r1, r2, r3⟩, r4⟩ := curR_iff.mp hR.2
  have hp := r4 p p0 p1
  unfold fX10_walk
  simp only [rd_eq, wr_eq]
  have F1 : ∀ v, Fr [28, 29] m (up m 28 p v) := fun v => fr_up (by simp) fr_refl
  rw [chk_of ⟨p0, by omega⟩, hp.1, c_beside hR.1 hw.1.1 hw.1.2 hw.2.1 hw.2.2 hS.2.1.1 hS.2.1.2.1, bR_some, chk_of ⟨p0, by omega⟩, chk_of ⟨p0, by omega⟩, up_cell (show 29 ≠ 28 by decide), hp.2.1,
    c_beside (IsR_fr hR.1 (fun o a b => F1 _ o (by simp; omega))) hw.1.1 hw.1.2 hw.2.1 hw.2.2 hS.2.2.1 hS.2.2.2.1, bR_some, chk_of ⟨p0, by omega⟩]
  have F2 : ∀ v w, Fr [28, 29] m (up (up m 28 p v) 29 p w) := fun v w => fr_up (by simp) (F1 v)
  refine ok_some ⟨?_, F2 _ _⟩
  refine CR_cur (sameI_walk p0 (by omega)) hV.1 hR (fun o a b => F2 _ _ o (by simp; omega)) ⟨⟨?_, ?_, ?_, ?_⟩, fun q a b => ?_⟩
  · rw [F2 _ _ 27 (by decide), r0, walkK, ku_ne (by omega), ku_ne (by omega)]
  · rw [F2 _ _ 27 (by decide), r1, walkK, ku_ne (by omega), ku_ne (by omega)]
  · rw [F2 _ _ 27 (by decide), r2, walkK, ku_ne (by omega), ku_ne (by omega)]
  · rw [F2 _ _ 27 (by decide), r3, walkK, ku_ne (by omega), ku_ne (by omega)]
  · have b' : q < K 3 := by rwa [walkK, ku_ne (by omega), ku_ne (by omega)] at b
    obtain ⟨k1, k2, k3⟩ := r4 q a b'
    rw [F2 _ _ 30 (by decide), k3]
    refine ⟨?_, ?_, ?_⟩
    · rw [up_cell (by decide), up_row, walkK, ku_ne (j := 13 + q) (by omega)]
      by_cases e : q = p
      · subst e; rw [ku_at, ku_at]
      · rw [ku_ne e, ku_ne (by omega), k1]
    · rw [up_row, walkK]
      by_cases e : q = p
      · subst e; rw [ku_at, ku_at]
      · rw [ku_ne e, ku_ne (by omega), ku_ne (by omega), up_cell (by decide), k2]
    · rw [walkK, ku_ne (by omega), ku_ne (by omega)]
def stepK (K : Int → Int) (p t u : Int) : Int → Int := hourK (walkK K p t u)
theorem m_steps {K : Int → Int} {c p t u : Int} {m : Mem} (hK : m 288 = K) (hV : CV c K) (c0 : 0 ≤ c) (c1 : c ≤ 1000000) (hw : whyF K p t u = 0) : Ok (fX12_steps p t u m) (fun m' => m' 288 = stepK K p t u ∧ Fr [288, 293, 294] m m') := by
  obtain ⟨hp, htu, g1, g2⟩ := whyF_inv hw
  have h3 := hV.1.2.1
  have hS := (curV_iff.mp hV.2).1 p hp.1 hp.2
  have hwd := wide_of hV.1 hp.1 hp.2
  unfold fX12_steps
  simp only [rd_eq, wr_eq]
  rw [w32_id (x := 13 + p) (by omega) (by omega), w32_id (x := 17 + p) (by omega) (by omega), chk_of (by omega), hK, m_turned hK hwd.1.1 hwd.1.2 hwd.2.1 hwd.2.2 hS.2.1.1 hS.2.1.2.1 htu.1 htu.2.1, bR_some, chk_of (by omega), chk_of (by omega)]
  have e1 : ∀ v, (up m 288 (13 + p) v) 288 = ku K (13 + p) v := fun v => by rw [up_row, hK]
  rw [e1, ku_ne (show 17 + p ≠ 13 + p by omega), m_turned (e1 _) (by rw [ku_ne (by omega)]; exact hwd.1.1) (by rw [ku_ne (by omega)]; exact hwd.1.2) (by rw [ku_ne (by omega)]; exact hwd.2.1) (by rw [ku_ne (by omega)]; exact hwd.2.2) hS.2.2.1 (by rw [ku_ne (by omega), ku_ne (by omega)]; exact hS.2.2.2.1) htu.2.2.1 htu.2.2.2, bR_some, chk_of (by omega), ku_ne (j := 1) (by omega), ku_ne (j := 2) (by omega)]
  have e2 : (up (up m 288 (13 + p) (besF (K 1) (K 2) (K (13 + p)) t)) 288 (17 + p) (besF (K 1) (K 2) (K (17 + p)) u)) 288 = walkK K p t u := by rw [up_row, e1]; rfl
  refine ok_bW (m_hour e2 (CV_walk hV hw) c0 c1) ?_
  rintro x m' ⟨_, h2, hF⟩
  exact ok_some ⟨h2, fr_trans (fr_up (by simp) (fr_up (by simp) fr_refl)) hF⟩
theorem c_letRain {K : Int → Int} {c a b : Int} {m : Mem} (hR : CR K m) (hV : CV c K) (c1 : c ≤ 1000000) (b0 : 0 ≤ b) (b1 : b ≤ 1000) : Ok (fX5_letRain a b m) (fun m' => CR (rainK K a b) m' ∧ Fr [27] m m') := by
  obtain ⟨⟨r0, r1, r2, r3⟩, r4⟩ := curR_iff.mp hR.2
  have hh := (curV_iff.mp hV.2).2.2.2.2
  unfold fX5_letRain
  simp only [rd_eq, wr_eq]
  have F : ∀ v, Fr [27] m (up (up m 27 1 a) 27 2 v) := fun v => fr_up (by simp) (fr_up (by simp) fr_refl)
  rw [show up m 27 1 a 27 0 = K 24 by rw [up_row, ku_ne (by decide), r0], w32_id (by omega) (by omega)]
  refine ok_some ⟨?_, F _⟩
  refine CR_cur sameI_rain hV.1 hR (fun o a b => F _ o (by simp; omega)) ⟨⟨?_, ?_, ?_, ?_⟩, fun p q0 q1 => ?_⟩
  · simp [up, rainK, ku, r0]
  · simp [up, rainK, ku]
  · simp [up, rainK, ku]
  · simp [up, rainK, ku, r3]
  · have q1' : p < K 3 := q1
    have h3 := hV.1.2.1
    rw [F _ 28 (by decide), F _ 29 (by decide), F _ 30 (by decide), rainK, ku_ne (by omega), ku_ne (by omega), ku_ne (i := 23) (j := 17 + p) (by omega), ku_ne (i := 22) (j := 17 + p) (by omega), ku_ne (i := 23) (j := 9 + p) (by omega), ku_ne (i := 22) (j := 9 + p) (by omega)]
    exact r4 p q0 q1'
theorem m_rains {K : Int → Int} {c a b : Int} {m : Mem} (hK : m 288 = K) (hV : CV c K) (c1 : c ≤ 1000000) (b0 : 0 ≤ b) (b1 : b ≤ 1000) : Ok (fX12_rains a b m) (fun m' => m' 288 = rainK K a b ∧ Fr [288] m m') := by
  have hh := (curV_iff.mp hV.2).2.2.2.2
  unfold fX12_rains
  simp only [rd_eq, wr_eq]
  rw [show up m 288 22 a 288 24 = K 24 by rw [up_row, hK, ku_ne (by decide)], w32_id (by omega) (by omega)]
  exact ok_some ⟨by rw [up_row, up_row, hK]; rfl, fr_up (by simp) (fr_up (by simp) fr_refl)⟩
theorem CV_rain {K : Int → Int} {c a b : Int} (hV : CV c K) (a0 : 0 ≤ a) (a1 : a ≤ 9) (b0 : 0 ≤ b) (b1 : b ≤ 1000) : CV c (rainK K a b) := by
  refine ⟨IsV_same sameI_rain hV.1, curV_iff.mpr ?_⟩
  obtain ⟨h1, h2, h4, h5, h6⟩ := curV_iff.mp hV.2
  have h3 := hV.1.2.1
  refine ⟨fun p q0 q1 => ?_, ?_, ?_, ?_, ?_⟩
  · have q1' : p < K 3 := q1
    have s : ∀ j : Int, j ≠ 22 → j ≠ 23 → rainK K a b j = K j := fun j z1 z2 => by rw [rainK, ku_ne z2, ku_ne z1]
    rw [s (9 + p) (by omega) (by omega), s (13 + p) (by omega) (by omega), s (17 + p) (by omega) (by omega)]
    exact h1 p q0 q1'
  · exact h2
  · exact ⟨a0, a1⟩
  · show 0 ≤ K 24 + b ∧ K 24 + b ≤ c + 1100; omega
  · exact h6
theorem CV_tie {K : Int → Int} {c p n : Int} (hV : CV c K) (p0 : 0 ≤ p) (p1 : p < K 3) (n0 : 0 ≤ n) (n9 : n ≤ 9) : CV c (ku K (9 + p) n) := by
  have h3 := hV.1.2.1
  have hs : SameI K (ku K (9 + p) n) := sameI_ku (by omega)
  refine ⟨IsV_same hs hV.1, curV_iff.mpr ?_⟩
  obtain ⟨h1, h2, h4, h5, h6⟩ := curV_iff.mp hV.2
  unfold CurV
  rw [hs 1 (by omega), hs 2 (by omega), hs 3 (by omega), hs 8 (by omega), ku_ne (by omega), ku_ne (by omega), ku_ne (by omega), ku_ne (by omega)]
  refine ⟨fun q a b => ?_, h2, h4, h5, h6⟩
  obtain ⟨k1, k2, k3⟩ := h1 q a b
  rw [ku_ne (j := 13 + q) (by omega), ku_ne (j := 17 + q) (by omega)]
  refine ⟨?_, k2, k3⟩
  by_cases e : q = p
  · subst e; rw [ku_at]; exact ⟨n0, n9⟩
  · rw [ku_ne (by omega)]; exact k1
theorem CR_tie {K : Int → Int} {c p n : Int} {m : Mem} (hR : CR K m) (hV : CV c K) (p0 : 0 ≤ p) (p1 : p < K 3) : CR (ku K (9 + p) n) (up m 30 p n) := by
  have h3 := hV.1.2.1
  have hs : SameI K (ku K (9 + p) n) := sameI_ku (by omega)
  obtain ⟨⟨r0, r1, r2, r3⟩, r4⟩ := curR_iff.mp hR.2
  have F : Fr [30] m (up m 30 p n) := fr_up (by simp) fr_refl
  refine CR_cur hs hV.1 hR (fun o a b => F o (by simp; omega)) ⟨⟨?_, ?_, ?_, ?_⟩, fun q a b => ?_⟩
  · rw [F 27 (by decide), r0, ku_ne (by omega)]
  · rw [F 27 (by decide), r1, ku_ne (by omega)]
  · rw [F 27 (by decide), r2, ku_ne (by omega)]
  · rw [F 27 (by decide), r3, ku_ne (by omega)]
  · have b' : q < K 3 := by rwa [ku_ne (by omega)] at b
    obtain ⟨k1, k2, k3⟩ := r4 q a b'
    rw [F 28 (by decide), F 29 (by decide), ku_ne (by omega), ku_ne (i := 9 + p) (j := 17 + q) (by omega)]
    refine ⟨k1, k2, ?_⟩
    rw [up_row]
    by_cases e : q = p
    · subst e; rw [ku_at, ku_at]
    · rw [ku_ne e, ku_ne (by omega)]; exact k3
/-! told deeds -/
def toldF (K : Int → Int) (v : Int) : Int :=
  if v = -1 ∨ (2000 ≤ v ∧ v ≤ 2009) then 0 else if 0 ≤ v ∧ v ≤ 399 then whyF K (v / 100) (v / 10 % 10) (v % 10)
  else if (1000 ≤ v ∧ v ≤ 1039) ∧ (v - 1000) / 10 < K 3 then 0 else 1
def doesK (K : Int → Int) (v : Int) : Int → Int :=
  if v = -1 then hourK K else if v < 1000 then stepK K (v / 100) (v / 10 % 10) (v % 10) else if v < 2000 then ku K (9 + (v - 1000) / 10) (v % 10) else rainK K (v - 2000) 6
theorem toldF_inv {K : Int → Int} {v : Int} (h : toldF K v = 0) : v = -1 ∨ (2000 ≤ v ∧ v ≤ 2009) ∨ ((0 ≤ v ∧ v ≤ 399) ∧ whyF K (v / 100) (v / 10 % 10) (v % 10) = 0) ∨ ((1000 ≤ v ∧ v ≤ 1039) ∧ (v - 1000) / 10 < K 3) := by
  unfold toldF at h
  split at h
  · rename_i q; rcases q with q | q
    · exact .inl q
    · exact .inr (.inl q)
  · split at h
    · rename_i q; exact .inr (.inr (.inl ⟨q, h⟩))
    · split at h
      · rename_i q; exact .inr (.inr (.inr q))
      · omega
theorem CV_does {K : Int → Int} {c v : Int} (hV : CV c K) (h : toldF K v = 0) : CV (c + 1) (doesK K v) := by
  unfold doesK
  rcases toldF_inv h with h | h | ⟨h, hw⟩ | ⟨h, hp⟩
  · rw [if_pos h]; exact CV_hour hV
  · rw [if_neg (by omega), if_neg (by omega), if_neg (by omega)]
    exact CV_mono (CV_rain hV (by omega) (by omega) (by omega) (by omega)) (by omega)
  · rw [if_neg (by omega), if_pos (by omega)]
    exact CV_hour (CV_walk hV hw)
  · rw [if_neg (by omega), if_neg (by omega), if_pos (by omega)]
    exact CV_mono (CV_tie hV (by omega) hp (by omega) (by omega)) (by omega)
theorem m_whyTold {K : Int → Int} {c v : Int} {m : Mem} (hK : m 288 = K) (hV : CV c K) (c1 : c ≤ 1000000) (v0 : -9223372036854775808 ≤ v) (v1 : v < 9223372036854775808) : Ok (fX12_whyTold v m) (fun r => r.1 = toldF K v ∧ Fr [293, 294] m r.2) := by
  unfold fX12_whyTold
  simp only [jn_eq, m_within, bR_some, m_isPair hK hV.1]
  by_cases h1 : v = -1
  · rw [if_pos h1]
    exact ok_some ⟨by rw [toldF, if_pos (.inl h1)], fr_refl⟩
  · rw [if_neg h1]
    by_cases h2 : 2000 ≤ v ∧ v ≤ 2009
    · rw [if_pos h2, if_neg (by decide)]
      exact ok_some ⟨by rw [toldF, if_pos (.inr h2)], fr_refl⟩
    · rw [if_neg h2, if_pos rfl]
      have t0 : ¬ (v = -1 ∨ (2000 ≤ v ∧ v ≤ 2009)) := by omega
      by_cases h3 : 0 ≤ v ∧ v ≤ 399
      · rw [if_pos h3, if_neg (by decide), tdiv_e 100 h3.1, tdiv_e 10 h3.1, tmod_e 10 h3.1, tmod_e 10 (show 0 ≤ v / 10 by omega)]
        refine ok_bW (m_whyStep hK hV c1) ?_
        rintro x m' ⟨e, hF⟩
        exact ok_some ⟨by rw [toldF, if_neg t0, if_pos h3]; exact e, hF⟩
      · rw [if_neg h3, if_pos rfl]
        by_cases h4 : 1000 ≤ v ∧ v ≤ 1039
        · rw [if_pos h4, if_neg (by decide), w64_id (by omega) (by omega), tdiv_e 10 (show 0 ≤ v - 1000 by omega)]
          by_cases h5 : (v - 1000) / 10 < K 3
          · rw [show (if 0 ≤ (v - 1000) / 10 ∧ (v - 1000) / 10 < K 3 then (1 : Int) else 0) = 1 from if_pos ⟨by omega, h5⟩, if_neg (by decide)]
            exact ok_some ⟨by rw [toldF, if_neg t0, if_neg h3, if_pos ⟨h4, h5⟩], fr_refl⟩
          · rw [show (if 0 ≤ (v - 1000) / 10 ∧ (v - 1000) / 10 < K 3 then (1 : Int) else 0) = 0 from if_neg (by omega), if_pos rfl]
            exact ok_some ⟨by rw [toldF, if_neg t0, if_neg h3, if_neg (by omega)], fr_refl⟩
        · rw [if_neg h4, if_pos rfl]
          exact ok_some ⟨by rw [toldF, if_neg t0, if_neg h3, if_neg (by omega)], fr_refl⟩
theorem m_does {K : Int → Int} {c v : Int} {m : Mem} (hK : m 288 = K) (hV : CV c K) (c0 : 0 ≤ c) (c1 : c ≤ 1000000) (h : toldF K v = 0) : Ok (fX12_does v m) (fun m' => m' 288 = doesK K v ∧ Fr [288, 293, 294] m m') := by
  have l3 := hV.1.2.1
  unfold fX12_does doesK
  simp only [jn_eq]
  rcases toldF_inv h with h | h | ⟨h, hw⟩ | ⟨h, hp⟩
  · rw [if_neg (by omega), if_pos h]
    refine ok_bW (m_hour hK hV c0 c1) ?_
    rintro x m' ⟨_, h2, hF⟩
    exact ok_some ⟨h2, hF⟩
  · rw [if_pos (by omega), if_pos (by omega), if_pos (by omega), w32_id (by omega) (by omega), if_neg (by omega), if_neg (by omega), if_neg (by omega)]
    refine ok_bV (m_rains hK hV c1 (by omega) (by omega)) ?_
    rintro m' ⟨h2, hF⟩
    exact ok_some ⟨h2, fr_mono' hF (by decide)⟩
  · rw [if_pos (by omega), if_neg (by omega), if_neg (by omega), if_pos (by omega), tdiv_e 100 h.1, tdiv_e 10 h.1, tmod_e 10 h.1, tmod_e 10 (show 0 ≤ v / 10 by omega)]
    refine ok_bV (m_steps hK hV c0 c1 hw) ?_
    rintro m' ⟨h2, hF⟩
    exact ok_some ⟨h2, hF⟩
  · rw [if_pos (by omega), if_pos (by omega), if_neg (by omega), if_neg (by omega), if_neg (by omega), if_pos (by omega), w32_id (x := v - 1000) (by omega) (by omega), tdiv_e 10 (show 0 ≤ v - 1000 by omega), w32_id (by omega) (by omega), chk_of (by omega), tmod_e 10 (by omega)]
    simp only [wr_eq]
    exact ok_some ⟨by rw [up_row, hK], fr_up (by simp) fr_refl⟩

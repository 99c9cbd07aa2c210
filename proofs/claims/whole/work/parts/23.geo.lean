/-! ===== D3: the model's lengths and mays; turns, how far apart ===== -/
theorem m_lengthIn {K : Int → Int} {c p rope h : Int} {m : Mem} (hK : m 288 = K) (hI : IsV K) (hS : StV K c (fun i => K (9 + i)))
    (p0 : 0 ≤ p) (p1 : p < K 3) (r0 : 0 ≤ rope) (r1 : rope ≤ 20) (h0 : 0 ≤ h) : Ok (fX12_lengthIn p rope h m) (fun r => r.1 = lenF K p rope h ∧ Fr [293, 294] m r.2) := by
  subst hK
  have hkr : 0 ≤ m 288 (9 + p) ∧ m 288 (9 + p) ≤ 9 := (hS.1 p p0 p1).1
  have p4 : p < 4 := by have := hI.2.1; omega
  unfold fX12_lengthIn
  simp only [rd_eq, wr_eq, jn_eq]
  rw [w32_id (x := 9 + p) (by omega) (by omega)]
  by_cases h5 : m 288 5 = 0
  · rw [if_neg (by omega), chk_of ⟨by omega, by omega⟩]
    refine ok_some ⟨?_, fr_refl⟩
    show imax 0 (w32 (rope - m 288 (9 + p))) = _
    rw [w32_id (by omega) (by omega)]
    unfold lenF imax
    rw [if_pos h5]
    split <;> split <;> omega
  · have hv := hI.2.2.2.2.2.2.2.1
    have n0 : 0 < m 288 5 := by have := hv.1; omega
    rw [if_pos h5, chk_of ⟨by omega, by omega⟩, up_cell (show 288 ≠ 294 by decide)]
    have F5 : Fr [293, 294] m (up (up (up (up (up m 294 0 rope) 294 1 (m 288 (9 + p))) 294 2 (rainF (m 288) h)) 294 3 (Int.tmod h 24)) 294 4 p) := fr_up (by simp) (fr_up (by simp) (fr_up (by simp) (fr_up (by simp) (fr_up (by simp) fr_refl))))
    rw [m_rainIn, bR_some, up_cell (show 288 ≠ 294 by decide), up_cell (show 288 ≠ 294 by decide)]
    obtain ⟨v, e1, e2, b1, b2, b3⟩ := lawF_end hv n0 (fun w _ _ => nmL_rg (h := h) hI hS p0 p1 r0 r1 w)
    refine ok_bW (lawOf_ok (c := fun i => m 288 (197 + i)) (nm := nmL (m 288) p rope h) (.inl ⟨rfl, rfl⟩) n0 hv (by decide) (fun w _ _ => nmL_rg hI hS p0 p1 r0 r1 w) ?_ ?_ ?_) ?_
    · intro w w0 w1
      have : w = 0 ∨ w = 1 ∨ w = 2 ∨ w = 3 ∨ w = 4 := by omega
      rcases this with rfl | rfl | rfl | rfl | rfl <;> simp [nmL, up, tmod_e 24 h0]
    · rw [F5 288 (by decide)]
    · intro i i0 i1
      rw [F5 288 (by decide)]
    · rintro x m' ⟨e, hF⟩
      have e' : x = v := by rw [← e2]; exact e
      subst e'
      refine ok_some ⟨?_, fr_trans F5 (fr_mono' hF (by decide))⟩
      show imax 0 (imin 99 x) = _
      unfold lenF
      rw [if_neg h5, e2]
      unfold imax imin
      repeat' split
      all_goals omega
theorem m_lengthNow {K : Int → Int} {c p : Int} {m : Mem} (hK : m 288 = K) (hI : IsV K) (hS : StV K c (fun i => K (9 + i)))
    (p0 : 0 ≤ p) (p1 : p < K 3) : Ok (fX12_lengthNow p m) (fun r => r.1 = lenF K p (K (25 + p)) (K 24) ∧ Fr [293, 294] m r.2) := by
  have p4 : p < 4 := by have := hI.2.1; omega
  have hr := hI.2.2.2.2.2.2.1 p p0 p1
  have hh : 0 ≤ K 24 := hS.2.2.2.2.1
  unfold fX12_lengthNow
  simp only [rd_eq]
  rw [w32_id (x := 25 + p) (by omega) (by omega), chk_of ⟨by omega, by omega⟩, hK]
  exact ok_bW (m_lengthIn hK hI hS p0 p1 (by omega) (by omega) hh) (fun v m' h => ok_some h)
theorem m_mayGo {K : Int → Int} {c p who k h : Int} {m : Mem} (hK : m 288 = K) (hI : IsV K) (hS : StV K c (fun i => K (9 + i)))
    (p0 : 0 ≤ p) (p1 : p < K 3) (q0 : 0 ≤ who) (q1 : who ≤ 1) (h0 : 0 ≤ h) (k0 : 0 ≤ k) (k1 : k < 25) :
    Ok (fX12_mayGo p who k h m) (fun r => r.1 = (if mayF K p who k h = true then 1 else 0) ∧ Fr [293, 294] m r.2) := by
  subst hK
  have hw := (wide_of hI p0 p1).1
  have hv := hI.2.2.2.2.2.2.2.2
  unfold fX12_mayGo
  simp only [rd_eq, wr_eq, jn_eq]
  by_cases h6 : m 288 6 = 0
  · rw [if_neg (by omega)]
    exact ok_some ⟨by simp [mayF, h6], fr_refl⟩
  · have n0 : 0 < m 288 6 := by have := hv.1; omega
    rw [if_pos h6, chk_of (by omega), up_cell (show 288 ≠ 294 by decide), chk_of (by omega)]
    have F5 : Fr [293, 294] m (up (up (up (up (up (up m 294 0 (Int.tmod k (m 288 1))) 294 1 (Int.tdiv k (m 288 1))) 294 2 who) 294 3 p) 294 4 (rainF (m 288) h)) 294 5 (Int.tmod h 24)) := fr_up (by simp) (fr_up (by simp) (fr_up (by simp) (fr_up (by simp) (fr_up (by simp) (fr_up (by simp) fr_refl)))))
    rw [m_rainIn, bR_some, up_cell (show 288 ≠ 294 by decide), up_cell (show 288 ≠ 294 by decide), up_cell (show 288 ≠ 294 by decide), up_cell (show 288 ≠ 294 by decide)]
    obtain ⟨v, e1, e2, b1, b2, b3⟩ := lawF_end hv n0 (fun w _ _ => nmM_rg (who := who) (h := h) hI hS p0 p1 q0 q1 k0 k1 w)
    refine ok_bW (lawOf_ok (c := fun i => m 288 (1097 + i)) (nm := nmM (m 288) p who k h) (.inr ⟨rfl, rfl⟩) n0 hv (by decide) (fun w _ _ => nmM_rg hI hS p0 p1 q0 q1 k0 k1 w) ?_ ?_ ?_) ?_
    · intro w w0 w1
      have : w = 0 ∨ w = 1 ∨ w = 2 ∨ w = 3 ∨ w = 4 ∨ w = 5 := by omega
      rcases this with rfl | rfl | rfl | rfl | rfl | rfl <;> simp [nmM, up, tmod_e 24 h0, tmod_e (m 288 1) k0, tdiv_e (m 288 1) k0]
    · rw [F5 288 (by decide)]
    · intro i i0 i1
      rw [F5 288 (by decide)]
    · rintro x m' ⟨e, hF⟩
      have e' : x = v := by rw [← e2]; exact e
      subst e'
      have em : mayF (m 288) p who k h = decide (x = 1) := by simp [mayF, h6, e2]
      rw [em]
      by_cases hx : x = 1
      · rw [if_neg (by omega), chk_of (by simp)]
        exact ok_some ⟨by simp [hx], fr_trans F5 (fr_mono' hF (by decide))⟩
      · rw [if_pos hx, chk_of (by simp)]
        exact ok_some ⟨by simp [hx], fr_trans F5 (fr_mono' hF (by decide))⟩
/-! turns -/
def besF (w h k t : Int) : Int :=
  if t = 0 then k else if t = 1 then (if k < w then -1 else k - w) else if t = 2 then (if k % w < w - 1 then k + 1 else -1)
  else if t = 3 then (if k + w < w * h then k + w else -1) else if t = 4 then (if 0 < k % w then k - 1 else -1) else -1
def iab (x : Int) : Int := if 0 ≤ x then x else -x
def apartF (w j k : Int) : Int := iab (j % w - k % w) + iab (j / w - k / w)
theorem four_of {w : Int} (a : 2 ≤ w) (b : w ≤ 5) : w = 2 ∨ w = 3 ∨ w = 4 ∨ w = 5 := by omega
theorem c_places {K : Int → Int} {m : Mem} (hR : IsR 20 K m) (hI : IsV K) : fX3_places m = some (K 1 * K 2) := by
  have e1 : m 20 1 = K 1 := hR.1.2.1
  have e2 : m 20 2 = K 2 := hR.1.2.2.1
  unfold fX3_places
  simp only [rd_eq, e1, e2]
  have : 0 ≤ K 1 * K 2 ∧ K 1 * K 2 ≤ 25 := by
    rcases hI.1 with ⟨a, b, _⟩ | ⟨a, b, d, e⟩
    · rw [a, b]; decide
    · have := area_le a b d e; omega
  rw [w32_id (by omega) (by omega)]
theorem m_places {K : Int → Int} {m : Mem} (hK : m 288 = K) (hI : IsV K) : fX12_places m = some (K 1 * K 2) := by
  subst hK
  unfold fX12_places
  simp only [rd_eq]
  have : 0 ≤ m 288 1 * m 288 2 ∧ m 288 1 * m 288 2 ≤ 25 := by
    rcases hI.1 with ⟨a, b, _⟩ | ⟨a, b, d, e⟩
    · rw [a, b]; decide
    · have := area_le a b d e; omega
  rw [w32_id (by omega) (by omega)]
theorem c_beside {K : Int → Int} {k t : Int} {m : Mem} (hR : IsR 20 K m) (w2 : 2 ≤ K 1) (w5 : K 1 ≤ 5) (v2 : 2 ≤ K 2) (v5 : K 2 ≤ 5) (k0 : 0 ≤ k) (k1 : k < K 1 * K 2) : fX3_beside k t m = some (besF (K 1) (K 2) k t) := by
  have e1 : m 20 1 = K 1 := hR.1.2.1
  have e2 : m 20 2 = K 2 := hR.1.2.2.1
  have ar := area_le w2 w5 v2 v5
  unfold fX3_beside fX3_places
  simp only [rd_eq, jn_eq, e1, e2, bR_some, tmod_e _ k0]
  rw [if_pos (by omega), chk_of (by omega), w32_id (x := K 1 * K 2) (by omega) (by omega), w32_id (x := k - K 1) (by omega) (by omega), w32_id (x := K 1 - 1) (by omega) (by omega), w32_id (x := k + 1) (by omega) (by omega), w32_id (x := k + K 1) (by omega) (by omega), w32_id (x := k - 1) (by omega) (by omega)]
  unfold besF
  repeat' split
  all_goals first | rfl | (exfalso; omega) | skip
theorem m_within {x a b : Int} {m : Mem} : fX12_within x a b m = some (if a ≤ x ∧ x ≤ b then 1 else 0) := by
  unfold fX12_within
  simp only [jn_eq]
  by_cases h1 : x < a
  · rw [if_pos h1, chk_of (by simp), if_neg (by omega)]
  · rw [if_neg h1]
    by_cases h2 : b < x
    · rw [if_pos h2, chk_of (by simp), if_neg (by omega)]
    · rw [if_neg h2, chk_of (by simp), if_pos (by omega)]
theorem m_turned {K : Int → Int} {k t : Int} {m : Mem} (hK : m 288 = K) (w2 : 2 ≤ K 1) (w5 : K 1 ≤ 5) (v2 : 2 ≤ K 2) (v5 : K 2 ≤ 5) (k0 : 0 ≤ k) (k1 : k < K 1 * K 2) (t0 : 0 ≤ t) (t4 : t ≤ 4) : fX12_turned k t m = some (besF (K 1) (K 2) k t) := by
  subst hK
  have ar := area_le w2 w5 v2 v5
  have dm := dm_rg k0 (show k < 25 by omega) w2 w5
  unfold fX12_turned
  simp only [rd_eq, jn_eq, m_within, bR_some, tmod_e _ k0, tdiv_e _ k0]
  generalize m 288 1 = w at *
  generalize m 288 2 = v at *
  have ht : t = 0 ∨ t = 1 ∨ t = 2 ∨ t = 3 ∨ t = 4 := by omega
  rw [chk_of (by omega), chk_of (by omega)]
  rcases ht with rfl | rfl | rfl | rfl | rfl <;> rcases four_of w2 w5 with rfl | rfl | rfl | rfl <;> simp (disch := omega) only [w32_id, besF, if_true, if_false, not_true_eq_false, not_false_eq_true, Int.reduceEq, reduceIte]
  all_goals (repeat' split)
  all_goals first | rfl | (exfalso; omega) | (rw [chk_of (by omega)]; congr 1; omega) | (congr 1; omega) | skip
theorem c_apart {K : Int → Int} {j k : Int} {m : Mem} (hR : IsR 20 K m) (w2 : 2 ≤ K 1) (w5 : K 1 ≤ 5) (j0 : 0 ≤ j) (j1 : j < 25) (k0 : 0 ≤ k) (k1 : k < 25) : fX3_apart j k m = some (apartF (K 1) j k) := by
  have e1 : m 20 1 = K 1 := hR.1.2.1
  have d1 := dm_rg j0 j1 w2 w5
  have d2 := dm_rg k0 k1 w2 w5
  unfold fX3_apart
  simp only [rd_eq, jn_eq, e1, tmod_e _ k0, tmod_e _ j0, tdiv_e _ k0, tdiv_e _ j0]
  rw [if_pos (by omega), chk_of (by omega), chk_of (by omega), chk_of (by omega), chk_of (by omega), w32_id (x := j % K 1 - k % K 1) (by omega) (by omega), w32_id (x := j / K 1 - k / K 1) (by omega) (by omega)]
  rw [w32_id (x := -(j % K 1 - k % K 1)) (by omega) (by omega), w32_id (x := -(j / K 1 - k / K 1)) (by omega) (by omega)]
  unfold apartF iab
  repeat' split
  all_goals (rw [w32_id (by omega) (by omega)])
theorem m_apart {K : Int → Int} {j k : Int} {m : Mem} (hK : m 288 = K) (w2 : 2 ≤ K 1) (w5 : K 1 ≤ 5) (j0 : 0 ≤ j) (j1 : j < 25) (k0 : 0 ≤ k) (k1 : k < 25) : fX12_apart j k m = some (apartF (K 1) j k) := by
  subst hK
  have d1 := dm_rg j0 j1 w2 w5
  have d2 := dm_rg k0 k1 w2 w5
  unfold fX12_apart
  simp only [rd_eq, tmod_e _ k0, tmod_e _ j0, tdiv_e _ k0, tdiv_e _ j0]
  rw [chk_of (by omega), chk_of (by omega), chk_of (by omega), chk_of (by omega), w32_id (x := j % m 288 1 - k % m 288 1) (by omega) (by omega), w32_id (x := j / m 288 1 - k / m 288 1) (by omega) (by omega)]
  unfold apartF iab iabs
  rw [w32_id (x := 0 - (j % m 288 1 - k % m 288 1)) (by omega) (by omega), w32_id (x := 0 - (j / m 288 1 - k / m 288 1)) (by omega) (by omega)]
  congr 1
  repeat' split
  all_goals first | (rw [w32_id (by omega) (by omega)]; done) | (rw [w32_id (by omega) (by omega)]; omega)
theorem besF_rg {w h k t : Int} (w2 : 2 ≤ w) (w5 : w ≤ 5) (v2 : 2 ≤ h) (v5 : h ≤ 5) (k0 : 0 ≤ k) (k1 : k < w * h) : besF w h k t = -1 ∨ (0 ≤ besF w h k t ∧ besF w h k t < w * h) := by
  have ar := area_le w2 w5 v2 v5
  unfold besF
  rcases four_of w2 w5 with rfl | rfl | rfl | rfl <;> (repeat' split) <;> omega
theorem apartF_rg {w j k : Int} (w2 : 2 ≤ w) (w5 : w ≤ 5) (j0 : 0 ≤ j) (j1 : j < 25) (k0 : 0 ≤ k) (k1 : k < 25) : 0 ≤ apartF w j k ∧ apartF w j k ≤ 24 := by
  unfold apartF iab
  rcases four_of w2 w5 with rfl | rfl | rfl | rfl <;> (repeat' split) <;> omega
theorem apartF_8 {w h j k : Int} (w2 : 2 ≤ w) (w5 : w ≤ 5) (v2 : 2 ≤ h) (v5 : h ≤ 5) (j0 : 0 ≤ j) (j1 : j < w * h) (k0 : 0 ≤ k) (k1 : k < w * h) : apartF w j k ≤ 8 := by
  unfold apartF iab
  rcases four_of w2 w5 with rfl | rfl | rfl | rfl <;> rcases four_of v2 v5 with rfl | rfl | rfl | rfl <;> (repeat' split) <;> omega

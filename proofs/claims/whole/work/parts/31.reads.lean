/-! ===== D11: place, pair, house, length, may, partsIn ===== -/
theorem bX_if {c : Prop} [Decidable c] {k v : Int} {m : Mem} {f : Mem → Option (Int × Int × Mem)} (hk : k ≠ 0) : bX (some (if c then 0 else k, v, m)) f = if c then f m else some (k, 0, m) := by
  unfold bX
  show (if (if c then (0 : Int) else k) = 0 then f m else some ((if c then (0 : Int) else k), 0, m)) = _
  by_cases h : c
  · rw [if_pos h, if_pos h, if_pos rfl]
  · rw [if_neg h, if_neg h, if_neg hk]
theorem c_needPair {K : Int → Int} {c p : Int} {m : Mem} (hR : CR K m) (hV : CV c K) : fX11_needPair p m = some (if 0 ≤ p ∧ p < K 3 then 0 else 3, 0, m) := by
  have h3 := hV.1.2.1
  unfold fX11_needPair
  simp only [rd_eq, jn_eq, show m 20 5 = K 3 from hR.1.1.2.2.2.2.2]
  by_cases h : 0 ≤ p ∧ p < K 3
  · rw [if_pos h, if_neg (by omega), if_neg (by omega), if_pos (by omega)]
  · rw [if_neg h]
    by_cases h0 : p < 0
    · rw [if_pos h0]
    · rw [if_neg h0, if_pos (by omega)]
theorem c_needPlace {K : Int → Int} {c k : Int} {m : Mem} (hR : CR K m) (hV : CV c K) : fX11_needPlace k m = some (if 0 ≤ k ∧ k < K 1 * K 2 then 0 else 3, 0, m) := by
  unfold fX11_needPlace
  simp only [jn_eq, c_places hR.1 hV.1, bR_some]
  by_cases h : 0 ≤ k ∧ k < K 1 * K 2
  · rw [if_pos h, if_neg (by omega), if_pos (by omega)]
  · rw [if_neg h]
    by_cases h0 : k < 0
    · rw [if_pos h0]
    · rw [if_neg h0, if_neg (by omega)]
theorem c_needWithin {n a b : Int} {m : Mem} : fX11_needWithin n a b m = some (if a ≤ n ∧ n ≤ b then 0 else 1, 0, m) := by
  unfold fX11_needWithin
  simp only [jn_eq]
  by_cases h : a ≤ n ∧ n ≤ b
  · rw [if_pos h, if_neg (by omega), if_pos (by omega)]
  · rw [if_neg h]
    by_cases h0 : n < a
    · rw [if_pos h0]
    · rw [if_neg h0, if_neg (by omega)]
theorem area_rg {K : Int → Int} (hI : IsV K) : 0 ≤ K 1 * K 2 ∧ K 1 * K 2 ≤ 25 := by
  rcases hI.1 with ⟨a, b, _⟩ | ⟨a, b, d, e⟩
  · rw [a, b]; decide
  · have := area_le a b d e; omega
theorem m_isPlace {K : Int → Int} {k : Int} {m : Mem} (hK : m 288 = K) (hI : IsV K) : fX12_isPlace k m = some (if 0 ≤ k ∧ k < K 1 * K 2 then 1 else 0) := by
  have ar := area_rg hI
  unfold fX12_isPlace
  simp only [m_places hK hI, m_within, bR_some]
  rw [w32_id (by omega) (by omega)]
  by_cases h : 0 ≤ k ∧ k < K 1 * K 2
  · rw [if_pos h, if_pos (by omega), chk_of (by simp)]
  · rw [if_neg h, if_neg (by omega), chk_of (by simp)]
theorem m_isWho {w : Int} {m : Mem} : fX12_isWho w m = some (if 0 ≤ w ∧ w ≤ 1 then 1 else 0) := by
  unfold fX12_isWho
  simp only [m_within, bR_some]
  by_cases h : 0 ≤ w ∧ w ≤ 1
  · rw [if_pos h, chk_of (by simp)]
  · rw [if_neg h, chk_of (by simp)]
theorem md_of {T : List Nat} {k v : Int} {m m' : Mem} {x : Int} (hk : m' 287 4 = k) (hv : k = 0 → x = v) (hF : Fr (287 :: T) m m') (h : ∀ i, i ≠ 4 → m' 287 i = m 287 i) : MD T k v m (x, m') := ⟨hk, hv, hF, h 6 (by decide), h 14 (by decide), h 15 (by decide)⟩
theorem kv_of {c : Int} {m : Mem} (h : Inv c m) : CR (m 288) m ∧ CV c (m 288) := ⟨WRel_CR h.2.2.2.1, KV_CV h.2.2.1⟩
/-! pair -/
def pairV (K : Int → Int) (p w : Int) : Int :=
  if w = 0 then K (25 + p) else if w = 1 then K (9 + p) else if w = 2 then K (13 + p) else if w = 3 then K (17 + p)
  else if w = 4 then apartF (K 1) (K (13 + p)) (K (17 + p)) else if w = 5 then lenF K p (K (25 + p)) (K 24) else (if tb (K 21) p.toNat then 1 else 0)
theorem c_pair {K : Int → Int} {c p w : Int} {m : Mem} (hR : CR K m) (hV : CV c K) : Ok (fX11_pair p w m) (CQ [36, 37] (if 0 ≤ p ∧ p < K 3 then (if 0 ≤ w ∧ w ≤ 6 then 0 else 1) else 3) (pairV K p w) m) := by
  have h3 := hV.1.2.1
  unfold fX11_pair
  rw [c_needPair hR hV, bX_if (by decide)]
  by_cases hp : 0 ≤ p ∧ p < K 3
  · obtain ⟨⟨r0, r1, r2, r3⟩, r4⟩ := curR_iff.mp hR.2
    obtain ⟨q1, q2, q3⟩ := r4 p hp.1 hp.2
    have q4 : m 22 p = K (25 + p) := hR.1.2.2.1 p hp.1 hp.2
    have hh := (curV_iff.mp hV.2).2.2.2.2.1
    rw [if_pos hp, if_pos hp]
    simp only [rd_eq, jn_eq, q1, q2, q3, q4, r0]
    unfold pairV
    by_cases w0 : w = 0
    · subst w0; simp only [Int.reduceEq, reduceIte]; rw [chk_of ⟨hp.1, by omega⟩, if_pos (by decide)]; exact ok_some ⟨rfl, fun _ => rfl, fr_refl⟩
    by_cases w1 : w = 1
    · subst w1; simp only [Int.reduceEq, reduceIte]; rw [chk_of ⟨hp.1, by omega⟩, if_pos (by decide)]; exact ok_some ⟨rfl, fun _ => rfl, fr_refl⟩
    by_cases w2 : w = 2
    · subst w2; simp only [Int.reduceEq, reduceIte]; rw [chk_of ⟨hp.1, by omega⟩, if_pos (by decide)]; exact ok_some ⟨rfl, fun _ => rfl, fr_refl⟩
    by_cases w3 : w = 3
    · subst w3; simp only [Int.reduceEq, reduceIte]; rw [chk_of ⟨hp.1, by omega⟩, if_pos (by decide)]; exact ok_some ⟨rfl, fun _ => rfl, fr_refl⟩
    by_cases w4 : w = 4
    · subst w4; simp only [Int.reduceEq, reduceIte]; rw [c_apartP hR hV hp.1 hp.2, bR_some, if_pos (by decide)]; exact ok_some ⟨rfl, fun _ => rfl, fr_refl⟩
    by_cases w5 : w = 5
    · subst w5; simp only [Int.reduceEq, reduceIte]; rw [if_pos (by decide)]
      refine ok_bW (c_ropeIn hR hV hp.1 hp.2 hh) ?_
      rintro x m' ⟨e, hF⟩
      exact ok_some ⟨rfl, fun _ => e, hF⟩
    by_cases w6 : w = 6
    · subst w6; simp only [Int.reduceEq, reduceIte]; rw [c_isParted hR hp.1 (by omega), bR_some]
      cases tb (K 21) p.toNat
      · exact ok_some ⟨rfl, fun _ => rfl, fr_refl⟩
      · exact ok_some ⟨rfl, fun _ => rfl, fr_refl⟩
    rw [if_neg w0, if_neg w1, if_neg w2, if_neg w3, if_neg w4, if_neg w5, if_neg w6, if_neg (show ¬ (0 ≤ w ∧ w ≤ 6) by omega)]
    exact ok_some ⟨rfl, fun q => by omega, fr_refl⟩
  · rw [if_neg hp, if_neg hp]
    exact ok_some ⟨rfl, fun q => by omega, fr_refl⟩
theorem m_pair {K : Int → Int} {c p w : Int} {m : Mem} (hK : m 288 = K) (hV : CV c K) : Ok (fX12_pair p w m) (MD [293, 294] (if 0 ≤ p ∧ p < K 3 then (if 0 ≤ w ∧ w ≤ 6 then 0 else 2) else 1) (pairV K p w) m) := by
  have h3 := hV.1.2.1
  unfold fX12_pair
  rw [m_isPair hK hV.1, bR_some]
  simp only [rd_eq, wr_eq, jn_eq, m_within, bR_some]
  have F : ∀ v, Fr [287, 293, 294] m (up m 287 4 v) := fun v => fr_up (by simp) fr_refl
  have N : ∀ v i, i ≠ 4 → up m 287 4 v 287 i = m 287 i := fun v i h => up_idx h
  have hK1 : ∀ v, (up m 287 4 v) 288 = K := fun v => (up_cell (by decide)).trans hK
  by_cases hp : 0 ≤ p ∧ p < K 3
  · rw [if_pos hp, if_pos (by decide), if_pos hp]
    by_cases hw : 0 ≤ w ∧ w ≤ 6
    · simp only [if_pos hw, Int.reduceEq, reduceIte, up_same, Int.reduceLE, hK1]
      rw [w32_id (x := 25 + p) (by omega) (by omega), w32_id (x := 9 + p) (by omega) (by omega), w32_id (x := 13 + p) (by omega) (by omega), w32_id (x := 17 + p) (by omega) (by omega)]
      unfold pairV
      have fin : ∀ x : Int, Ok (some (x, up m 287 4 0)) (MD [293, 294] 0 x m) := fun x => ok_some (md_of (up_same _ _ _ _) (fun _ => rfl) (F 0) (N 0))
      by_cases w0 : w = 0
      · subst w0; simp only [Int.reduceEq, reduceIte]; rw [chk_of (by omega)]; exact fin _
      by_cases w1 : w = 1
      · subst w1; simp only [Int.reduceEq, reduceIte]; rw [chk_of (by omega)]; exact fin _
      by_cases w2 : w = 2
      · subst w2; simp only [Int.reduceEq, reduceIte]; rw [chk_of (by omega)]; exact fin _
      by_cases w3 : w = 3
      · subst w3; simp only [Int.reduceEq, reduceIte]; rw [chk_of (by omega)]; exact fin _
      by_cases w4 : w = 4
      · subst w4; simp only [Int.reduceEq, reduceIte]; rw [m_apartOf (hK1 0) hV hp.1 hp.2, bR_some]; exact fin _
      by_cases w5 : w = 5
      · subst w5; simp only [Int.reduceEq, reduceIte]
        refine ok_bW (m_lengthNow (hK1 0) hV.1 hV.2 hp.1 hp.2) ?_
        rintro x m' ⟨e, hF⟩
        have e7 : m' 287 = up m 287 4 0 287 := hF 287 (by decide)
        exact ok_some (md_of (by rw [e7, up_same]) (fun _ => e) (fr_trans (F 0) (fr_mono' hF (by decide))) (fun i hi => by rw [e7, N 0 i hi]))
      rw [if_neg w0, if_neg w1, if_neg w2, if_neg w3, if_neg w4, if_neg w5, if_neg w0, if_neg w1, if_neg w2, if_neg w3, if_neg w4, if_neg w5, m_isParted (hK1 0) hp.1 (by omega), bR_some]
      cases tb (K 21) p.toNat
      · rw [if_pos (by simp)]; exact fin _
      · rw [if_neg (by simp)]; exact fin _
    · simp only [if_neg hw, Int.reduceEq, reduceIte, up_same, Int.reduceLE]
      exact ok_some (md_of (up_same _ _ _ _) (fun q => by omega) (F 2) (N 2))
  · rw [if_neg hp, if_neg (by decide), if_neg hp]
    simp only [up_same, Int.reduceLE, reduceIte]
    exact ok_some (md_of (up_same _ _ _ _) (fun q => by omega) (F 1) (N 1))
theorem d_pair {c p w : Int} {m : Mem} (hI : Inv c m) (c0 : 0 ≤ c) : Two1 c (fL_pair p w) (fX12_pair p w) m := by
  obtain ⟨hR, hV⟩ := kv_of hI
  refine two_q (S := [36, 37]) (T := [293, 294]) (k' := if 0 ≤ p ∧ p < m 288 3 then (if 0 ≤ w ∧ w ≤ 6 then 0 else 2) else 1) (v := pairV (m 288) p w) hI c0 (by decide) (by decide) (by decide) (by decide) (wrapV (c_pair hR hV) (fun _ => rfl) ?_ ?_) (fun m1 hI1 e _ _ _ => m_pair e hV)
  · by_cases hp : (0 ≤ p ∧ p < m 288 3) <;> by_cases hw : (0 ≤ w ∧ w ≤ 6) <;> simp [hp, hw]
  · by_cases hp : (0 ≤ p ∧ p < m 288 3) <;> by_cases hw : (0 ≤ w ∧ w ≤ 6) <;> simp [hp, hw]
/-! length -/
theorem c_length {K : Int → Int} {c p n : Int} {m : Mem} (hR : CR K m) (hV : CV c K) (c1 : c ≤ 1000000) : Ok (fX11_length p n m) (CQ [36, 37] (if 0 ≤ p ∧ p < K 3 then (if 0 ≤ n ∧ n ≤ 999 then 0 else 1) else 3) (lenF K p (K (25 + p)) (K 24 + n)) m) := by
  have hh := (curV_iff.mp hV.2).2.2.2.2
  unfold fX11_length
  rw [c_needPair hR hV, bX_if (by decide)]
  by_cases hp : 0 ≤ p ∧ p < K 3
  · rw [if_pos hp, if_pos hp, c_needWithin, bX_if (by decide)]
    by_cases hn : 0 ≤ n ∧ n ≤ 999
    · rw [if_pos hn, if_pos hn]
      simp only [rd_eq, (curR_iff.mp hR.2).1.1]
      rw [w32_id (by omega) (by omega)]
      refine ok_bW (c_ropeIn hR hV hp.1 hp.2 (by omega)) ?_
      rintro x m' ⟨e, hF⟩
      exact ok_some ⟨rfl, fun _ => e, hF⟩
    · rw [if_neg hn, if_neg hn]
      exact ok_some ⟨rfl, fun q => by omega, fr_refl⟩
  · rw [if_neg hp, if_neg hp]
    exact ok_some ⟨rfl, fun q => by omega, fr_refl⟩
theorem m_length {K : Int → Int} {c p n : Int} {m : Mem} (hK : m 288 = K) (hV : CV c K) (c1 : c ≤ 1000000) : Ok (fX12_length p n m) (MD [293, 294] (if 0 ≤ p ∧ p < K 3 then (if 0 ≤ n ∧ n ≤ 999 then 0 else 2) else 1) (lenF K p (K (25 + p)) (K 24 + n)) m) := by
  have hh := (curV_iff.mp hV.2).2.2.2.2
  have h3 := hV.1.2.1
  unfold fX12_length
  rw [m_isPair hK hV.1, bR_some]
  simp only [rd_eq, wr_eq, jn_eq, m_within, bR_some]
  have F : ∀ v, Fr [287, 293, 294] m (up m 287 4 v) := fun v => fr_up (by simp) fr_refl
  have N : ∀ v i, i ≠ 4 → up m 287 4 v 287 i = m 287 i := fun v i h => up_idx h
  have hK1 : ∀ v, (up m 287 4 v) 288 = K := fun v => (up_cell (by decide)).trans hK
  by_cases hp : 0 ≤ p ∧ p < K 3
  · rw [if_pos hp, if_pos (by decide), if_pos hp]
    by_cases hn : 0 ≤ n ∧ n ≤ 999
    · simp only [if_pos hn, Int.reduceEq, reduceIte, up_same, Int.reduceLE, hK1]
      have hr := hV.1.2.2.2.2.2.2.1 p hp.1 hp.2
      rw [w32_id (x := 25 + p) (by omega) (by omega), w32_id (x := K 24 + n) (by omega) (by omega), chk_of (by omega)]
      refine ok_bW (m_lengthIn (hK1 0) hV.1 hV.2 hp.1 hp.2 (by omega) (by omega) (by omega)) ?_
      rintro x m' ⟨e, hF⟩
      have e7 : m' 287 = up m 287 4 0 287 := hF 287 (by decide)
      exact ok_some (md_of (by rw [e7, up_same]) (fun _ => e) (fr_trans (F 0) (fr_mono' hF (by decide))) (fun i hi => by rw [e7, N 0 i hi]))
    · simp only [if_neg hn, Int.reduceEq, reduceIte, up_same, Int.reduceLE]
      exact ok_some (md_of (up_same _ _ _ _) (fun q => by omega) (F 2) (N 2))
  · rw [if_neg hp, if_neg (by decide), if_neg hp]
    simp only [up_same, Int.reduceLE, reduceIte]
    exact ok_some (md_of (up_same _ _ _ _) (fun q => by omega) (F 1) (N 1))
theorem d_length {c p n : Int} {m : Mem} (hI : Inv c m) (c0 : 0 ≤ c) (c1 : c ≤ 1000000) : Two1 c (fL_length p n) (fX12_length p n) m := by
  obtain ⟨hR, hV⟩ := kv_of hI
  refine two_q (S := [36, 37]) (T := [293, 294]) (k' := if 0 ≤ p ∧ p < m 288 3 then (if 0 ≤ n ∧ n ≤ 999 then 0 else 2) else 1) (v := lenF (m 288) p (m 288 (25 + p)) (m 288 24 + n)) hI c0 (by decide) (by decide) (by decide) (by decide) (wrapV (c_length hR hV c1) (fun _ => rfl) ?_ ?_) (fun m1 hI1 e _ _ _ => m_length e hV c1)
  · by_cases hp : (0 ≤ p ∧ p < m 288 3) <;> by_cases hw : (0 ≤ n ∧ n ≤ 999) <;> simp [hp, hw]
  · by_cases hp : (0 ≤ p ∧ p < m 288 3) <;> by_cases hw : (0 ≤ n ∧ n ≤ 999) <;> simp [hp, hw]
/-! house -/
theorem c_house {K : Int → Int} {c h : Int} {m : Mem} (hR : CR K m) (hV : CV c K) : Ok (fX11_house h m) (CQ [36, 37] (if 0 ≤ h ∧ h < K 4 then 0 else 3) (K (29 + h)) m) := by
  have h4 := hV.1.2.2.1
  unfold fX11_house
  simp only [rd_eq, jn_eq, show m 20 4 = K 4 from hR.1.1.2.2.2.2.1]
  by_cases hh : 0 ≤ h ∧ h < K 4
  · rw [if_pos hh, if_neg (by omega), if_neg (by omega), if_pos (by omega), chk_of (by omega)]
    exact ok_some ⟨rfl, fun _ => hR.1.2.1 h hh.1 hh.2, fr_refl⟩
  · rw [if_neg hh]
    by_cases h0 : h < 0
    · rw [if_pos h0]; exact ok_some ⟨rfl, fun q => by omega, fr_refl⟩
    · rw [if_neg h0, if_pos (by omega)]; exact ok_some ⟨rfl, fun q => by omega, fr_refl⟩
theorem m_house {K : Int → Int} {c h : Int} {m : Mem} (hK : m 288 = K) (hV : CV c K) : Ok (fX12_house h m) (MD [293, 294] (if 0 ≤ h ∧ h < K 4 then 0 else 1) (K (29 + h)) m) := by
  have h4 := hV.1.2.2.1
  unfold fX12_house fX12_fails
  have F : ∀ v, Fr [287, 293, 294] m (up m 287 4 v) := fun v => fr_up (by simp) fr_refl
  have N : ∀ v i, i ≠ 4 → up m 287 4 v 287 i = m 287 i := fun v i h => up_idx h
  have hK1 : ∀ v, (up m 287 4 v) 288 = K := fun v => (up_cell (by decide)).trans hK
  simp only [rd_eq, wr_eq, jn_eq, m_within, bR_some, hK1]
  rw [w32_id (x := K 4 - 1) (by omega) (by omega)]
  by_cases hh : 0 ≤ h ∧ h < K 4
  · rw [if_pos (show 0 ≤ h ∧ h ≤ K 4 - 1 by omega), if_neg (by decide), if_pos hh, w32_id (by omega) (by omega), chk_of (by omega)]
    exact ok_some (md_of (up_same _ _ _ _) (fun _ => rfl) (F 0) (N 0))
  · rw [if_neg (show ¬ (0 ≤ h ∧ h ≤ K 4 - 1) by omega), if_pos rfl, if_neg hh, bW_some]
    refine ok_some (md_of (up_same _ _ _ _) (fun q => by omega) (fr_up (by simp) (F 0)) (fun i hi => ?_))
    rw [up_idx hi, up_idx hi]
theorem d_house {c h : Int} {m : Mem} (hI : Inv c m) (c0 : 0 ≤ c) : Two1 c (fL_house h) (fX12_house h) m := by
  obtain ⟨hR, hV⟩ := kv_of hI
  refine two_q (S := [36, 37]) (T := [293, 294]) (k' := if 0 ≤ h ∧ h < m 288 4 then 0 else 1) (v := m 288 (29 + h)) hI c0 (by decide) (by decide) (by decide) (by decide) (wrapV (c_house hR hV) (fun _ => rfl) ?_ ?_) (fun m1 hI1 e _ _ _ => m_house e hV)
  · by_cases hp : (0 ≤ h ∧ h < m 288 4) <;> simp [hp]
  · by_cases hp : (0 ≤ h ∧ h < m 288 4) <;> simp [hp]
/-! may -/
theorem c_may {K : Int → Int} {c p w k n : Int} {m : Mem} (hR : CR K m) (hV : CV c K) (c1 : c ≤ 1000000) : Ok (fX11_may p w k n m) (CQ [36, 37] (if 0 ≤ p ∧ p < K 3 then (if 0 ≤ k ∧ k < K 1 * K 2 then (if 0 ≤ w ∧ w ≤ 1 then (if 0 ≤ n ∧ n ≤ 999 then (if tb (K 8) k.toNat then 2 else 0) else 1) else 1) else 3) else 3) (if mayF K p w k (K 24 + n) then 1 else 0) m) := by
  have hh := (curV_iff.mp hV.2).2.2.2.2
  have ar := area_rg hV.1
  unfold fX11_may
  rw [c_needPair hR hV, bX_if (by decide)]
  by_cases hp : 0 ≤ p ∧ p < K 3
  · rw [if_pos hp, if_pos hp, c_needPlace hR hV, bX_if (by decide)]
    by_cases hk : 0 ≤ k ∧ k < K 1 * K 2
    · rw [if_pos hk, if_pos hk, c_needWithin, bX_if (by decide)]
      by_cases hw : 0 ≤ w ∧ w ≤ 1
      · rw [if_pos hw, if_pos hw, c_needWithin, bX_if (by decide)]
        by_cases hn : 0 ≤ n ∧ n ≤ 999
        · rw [if_pos hn, if_pos hn, c_isRock hR hk.1 (by omega), bR_some]
          cases hr : tb (K 8) k.toNat
          · rw [if_pos (by simp), if_neg (by simp)]
            simp only [rd_eq, jn_eq, (curR_iff.mp hR.2).1.1]
            rw [w32_id (x := K 24 + n) (by omega) (by omega), w32_id (x := k + 1) (by omega) (by omega)]
            refine ok_bW (c_lawBits hV.1 hV.2 hR.1 hR.2 hp.1 hp.2 hw.1 hw.2 (by omega) hk.1 (by omega) (by omega)) ?_
            rintro x m' ⟨hx, hF⟩
            have e := bits_eq0 hx
            by_cases hx0 : x = 0
            · rw [if_pos hx0, chk_of (by simp)]
              refine ok_some ⟨rfl, fun _ => ?_, hF⟩
              have := e.mp hx0 k.toNat (by omega)
              rw [if_neg]
              intro q
              exact this ⟨by omega, by omega, by rw [Int.toNat_of_nonneg hk.1]; exact q⟩
            · rw [if_neg hx0, chk_of (by simp)]
              refine ok_some ⟨rfl, fun _ => ?_, hF⟩
              rw [if_pos]
              cases q : mayF K p w k (K 24 + n) with
              | true => rfl
              | false =>
                refine absurd (e.mpr ?_) hx0
                rintro i hi ⟨z1, z2, z3⟩
                rw [show (i : Int) = k by omega] at z3
                rw [z3] at q; cases q
          · rw [if_neg (by simp), if_pos rfl]
            exact ok_some ⟨rfl, fun q => by omega, fr_refl⟩
        · rw [if_neg hn, if_neg hn]
          exact ok_some ⟨rfl, fun q => by omega, fr_refl⟩
      · rw [if_neg hw, if_neg hw]
        exact ok_some ⟨rfl, fun q => by omega, fr_refl⟩
    · rw [if_neg hk, if_neg hk]
      exact ok_some ⟨rfl, fun q => by omega, fr_refl⟩
  · rw [if_neg hp, if_neg hp]
    exact ok_some ⟨rfl, fun q => by omega, fr_refl⟩
theorem m_may {K : Int → Int} {c p w k n : Int} {m : Mem} (hK : m 288 = K) (hV : CV c K) (c1 : c ≤ 1000000) : Ok (fX12_may p w k n m) (MD [293, 294] (if 0 ≤ p ∧ p < K 3 then (if 0 ≤ k ∧ k < K 1 * K 2 then (if 0 ≤ w ∧ w ≤ 1 then (if 0 ≤ n ∧ n ≤ 999 then (if tb (K 8) k.toNat then 3 else 0) else 2) else 2) else 1) else 1) (if mayF K p w k (K 24 + n) then 1 else 0) m) := by
  have hh := (curV_iff.mp hV.2).2.2.2.2
  have ar := area_rg hV.1
  unfold fX12_may
  simp only [m_isPair hK hV.1, m_isPlace hK hV.1, m_isWho, rd_eq, wr_eq, jn_eq, m_within, bR_some]
  have F : ∀ v, Fr [287, 293, 294] m (up m 287 4 v) := fun v => fr_up (by simp) fr_refl
  have N : ∀ v i, i ≠ 4 → up m 287 4 v 287 i = m 287 i := fun v i h => up_idx h
  have hK1 : ∀ v, (up m 287 4 v) 288 = K := fun v => (up_cell (by decide)).trans hK
  have bad : ∀ e : Int, e ≠ 0 → Ok (if ¬ (up m 287 4 e) 287 4 = 0 then chk ((0 : Int) = 0 ∨ (0 : Int) = 1) (some (0, up m 287 4 e)) else bW (fX12_mayGo p w k (w32 ((up m 287 4 e) 288 24 + n)) (up m 287 4 e)) fun x10 mm => if x10 = 0 then chk ((0 : Int) = 0 ∨ (0 : Int) = 1) (some (0, mm)) else chk ((1 : Int) = 0 ∨ (1 : Int) = 1) (some (1, mm))) (MD [293, 294] e (if mayF K p w k (K 24 + n) then 1 else 0) m) := by
    intro e he
    rw [up_same, if_pos he, chk_of (by simp)]
    exact ok_some (md_of (up_same _ _ _ _) (fun q => absurd q he) (F e) (N e))
  by_cases hp : 0 ≤ p ∧ p < K 3
  · rw [if_pos hp, if_neg (by decide), if_pos hp]
    by_cases hk : 0 ≤ k ∧ k < K 1 * K 2
    · rw [if_pos hk, if_pos (by decide), if_pos hk]
      by_cases hw : 0 ≤ w ∧ w ≤ 1
      · rw [if_pos hw, if_neg (by decide), if_pos hw]
        by_cases hn : 0 ≤ n ∧ n ≤ 999
        · rw [if_pos hn, if_pos (by decide), if_pos hn, hK, m_has hk.1 (by omega), bR_some]
          cases hr : tb (K 8) k.toNat
          · rw [if_pos (by simp), if_neg (by rw [up_same]; simp), if_neg (c := false = true) (by simp), hK1, w32_id (by omega) (by omega)]
            refine ok_bW (m_mayGo (hK1 0) hV.1 hV.2 hp.1 hp.2 hw.1 hw.2 (by omega) hk.1 (by omega)) ?_
            rintro x m' ⟨e, hF⟩
            simp only at e hF
            have e7 : m' 287 = up m 287 4 0 287 := hF 287 (by decide)
            have fin : ∀ z : Int, z = x → Ok (some (z, m')) (MD [293, 294] 0 (if mayF K p w k (K 24 + n) then 1 else 0) m) := fun z hz => ok_some (md_of (by rw [e7, up_same]) (fun _ => hz.trans e) (fr_trans (F 0) (fr_mono' hF (by decide))) (fun i hi => by rw [e7, N 0 i hi]))
            by_cases hx : x = 0
            · rw [if_pos hx, chk_of (by simp)]; exact fin _ hx.symm
            · rw [if_neg hx, chk_of (by simp)]; exact fin _ (by split at e <;> omega)
          · rw [if_neg (by simp), if_pos rfl]; exact bad 3 (by decide)
        · rw [if_neg hn, if_neg (by decide), if_neg hn]; exact bad 2 (by decide)
      · rw [if_neg hw, if_pos rfl, if_neg hw]; exact bad 2 (by decide)
    · rw [if_neg hk, if_neg (by decide), if_neg hk]; exact bad 1 (by decide)
  · rw [if_neg hp, if_pos rfl, if_neg hp]; exact bad 1 (by decide)
theorem d_may {c p w k n : Int} {m : Mem} (hI : Inv c m) (c0 : 0 ≤ c) (c1 : c ≤ 1000000) : Ok (fL_may p w k n m) (fun r => Ok (fX12_may p w k n r.2) (fun s => s.2 287 4 = r.1 ∧ (r.1 = 0 → s.2 312 0 = s.1 ∧ (s.1 = 0 ∨ s.1 = 1)) ∧ Inv (c + 100) s.2)) := by
  obtain ⟨hR, hV⟩ := kv_of hI
  have h := two_qv (S := [36, 37]) (T := [293, 294]) (k' := (if 0 ≤ p ∧ p < m 288 3 then (if 0 ≤ k ∧ k < m 288 1 * m 288 2 then (if 0 ≤ w ∧ w ≤ 1 then (if 0 ≤ n ∧ n ≤ 999 then (if tb (m 288 8) k.toNat then 3 else 0) else 2) else 2) else 1) else 1)) (v := if mayF (m 288) p w k (m 288 24 + n) then 1 else 0) (F := fL_may p w k n) (G := fX12_may p w k n) hI c0 (by decide) (by decide) (by decide) (by decide) (wrapV (c_may hR hV c1) ?_ ?_ ?_) (fun m1 hI1 e _ _ _ => m_may e hV c1)
  · refine ok_imp h (fun _ h => ok_imp h (fun _ q => ⟨q.1, fun z => ⟨(q.2.1 z).1, ?_⟩, q.2.2⟩))
    rw [(q.2.1 z).2]; split <;> simp
  · intro mm
    cases mayF (m 288) p w k (m 288 24 + n) <;> rfl
  · by_cases hp : (0 ≤ p ∧ p < m 288 3) <;> by_cases hk : (0 ≤ k ∧ k < m 288 1 * m 288 2) <;> by_cases hw : (0 ≤ w ∧ w ≤ 1) <;> by_cases hn : (0 ≤ n ∧ n ≤ 999) <;> cases hr : tb (m 288 8) k.toNat <;> simp [hp, hk, hw, hn]
  · by_cases hp : (0 ≤ p ∧ p < m 288 3) <;> by_cases hk : (0 ≤ k ∧ k < m 288 1 * m 288 2) <;> by_cases hw : (0 ≤ w ∧ w ≤ 1) <;> by_cases hn : (0 ≤ n ∧ n ≤ 999) <;> cases hr : tb (m 288 8) k.toNat <;> simp [hp, hk, hw, hn]

/-! ===== D11: place, pair, house, length, may, partsIn ===== -/
theorem bX_if {c : Prop} [Decidable c] {k v : Int} {m : Mem} {f : Mem → Option (Int × Int × Mem)} (hk : k ≠ 0) : bX (some (if c then 0 else k, v, m)) f = if c then f m else some (k, 0, m) := by
  unfold bX
  show (if (if c then (0 : Int) else k) = 0 then f m else some ((if c then (0 : Int) else k), 0, m)) = _
  by_cases h : c
  · rw [if_pos h, if_pos h, if_pos rfl]
  · rw [if_neg h, if_neg h, if_neg hk]
theorem c_needPair {K : Int → Int} {c p : Int} {m : Mem} (hR : CR K m) (hV : CV c K) : fX11_needPair p m = some (if 0 ≤ p ∧ p < K 3 then 0 else 3, 0, m) := by
  have h3 := hV.1.2.1
  unfold fX11_needPair
  simp only [rd_eq, jn_eq, show m 20 5 = K 3 from hR.1.1.2.2.2.2.2]
  by_cases h : 0 ≤ p ∧ p < K 3
  · rw [if_pos h, if_neg (by omega), if_neg (by omega), if_pos (by omega)]
  · rw [if_neg h]
    by_cases h0 : p < 0
    · rw [if_pos h0]
    · rw [if_neg h0, if_pos (by omega)]
theorem c_needPlace {K : Int → Int} {c k : Int} {m : Mem} (hR : CR K m) (hV : CV c K) : fX11_needPlace k m = some (if 0 ≤ k ∧ k < K 1 * K 2 then 0 else 3, 0, m) := by
  unfold fX11_needPlace
  simp only [jn_eq, c_places hR.1 hV.1, bR_some]
  by_cases h : 0 ≤ k ∧ k < K 1 * K 2
  · rw [if_pos h, if_neg (by omega), if_pos (by omega)]
  · rw [if_neg h]
    by_cases h0 : k < 0
    · rw [if_pos h0]
    · rw [if_neg h0, if_neg (by omega)]
theorem c_needWithin {n a b : Int} {m : Mem} : fX11_needWithin n a b m = some (if a ≤ n ∧ n ≤ b then 0 else 1, 0, m) := by
  unfold fX11_needWithin
  simp only [jn_eq]
  by_cases h : a ≤ n ∧ n ≤ b
  · rw [if_pos h, if_neg (by omega), if_pos (by omega)]
  · rw [if_neg h]
    by_cases h0 : n < a
    · rw [if_pos h0]
    · rw [if_neg h0, if_neg (by omega)]
theorem area_rg {K : Int → Int} (hI : IsV K) : 0 ≤ K 1 * K 2 ∧ K 1 * K 2 ≤ 25 := by
  rcases hI.1 with ⟨a, b, _⟩ | ⟨a, b, d, e⟩
  · rw [a, b]; decide
  · have := area_le a b d e; omega
theorem m_isPlace {K : Int → Int} {k : Int} {m : Mem} (hK : m 288 = K) (hI : IsV K) : fX12_isPlace k m = some (if 0 ≤ k ∧ k < K 1 * K 2 then 1 else 0) := by
  have ar := area_rg hI
  unfold fX12_isPlace
  simp only [m_places hK hI, m_within, bR_some]
  rw [w32_id (by omega) (by omega)]
  by_cases h : 0 ≤ k ∧ k < K 1 * K 2
  · rw [if_pos h, if_pos (by omega), chk_of (by simp)]
  · rw [if_neg h, if_neg (by omega), chk_of (by simp)]
theorem m_isWho {w : Int} {m : Mem} : fX12_isWho w m = some (if 0 ≤ w ∧ w ≤ 1 then 1 else 0) := by
  unfold fX12_isWho
  simp only [m_within, bR_some]
  by_cases h : 0 ≤ w ∧ w ≤ 1
  · rw [if_pos h, chk_of (by simp)]
  · rw [if_neg h, chk_of (by simp)]
theorem md_of {T : List Nat} {k v : Int} {m m' : Mem} {x : Int} (hk : m' 287 4 = k) (hv : k = 0 → x = v) (hF : Fr (287 :: T) m m') (h : ∀ i, i ≠ 4 → m' 287 i = m 287 i) : MD T k v m (x, m') := ⟨hk, hv, hF, h 6 (by decide), h 14 (by decide), h 15 (by decide)⟩
theorem kv_of {c : Int} {m : Mem} (h : Inv c m) : CR (m 288) m ∧ CV c (m 288) := ⟨WRel_CR h.2.2.2.1, KV_CV h.2.2.1⟩
/-! pair -/
def pairV (K : Int → Int) (p w : Int) : Int :=
  if w = 0 then K (25 + p) else if w = 1 then K (9 + p) else if w = 2 then K (13 + p) else if w = 3 then K (17 + p)
  else if w = 4 then apartF (K 1) (K (13 + p)) (K (17 + p)) else if w = 5 then lenF K p (K (25 + p)) (K 24) else (if tb (K 21) p.toNat then 1 else 0)
theorem c_pair {K : Int → Int} {c p w : Int} {m : Mem} (hR : CR K m) (hV : CV c K) : Ok (fX11_pair p w m) (CQ [36, 37] (if 0 ≤ p ∧ p < K 3 then (if 0 ≤ w ∧ w ≤ 6 then 0 else 1) else 3) (pairV K p w) m) := by
  have h3 := hV.1.2.1
  unfold fX11_pair
  rw [c_needPair hR hV, bX_if (by decide)]
  by_cases hp : 0 ≤ p ∧ p < K 3
  · obtain ⟨⟨r0, r1, r2, r3⟩, r4⟩ := curR_iff.mp hR.2
    obtain ⟨q1, q2, q3⟩ := r4 p hp.1 hp.2
    have q4 : m 22 p = K (25 + p) := hR.1.2.2.1 p hp.1 hp.2
    have hh := (curV_iff.mp hV.2).2.2.2.2.1
    rw [if_pos hp, if_pos hp]
    simp only [rd_eq, jn_eq, q1, q2, q3, q4, r0]
    unfold pairV
    by_cases w0 : w = 0
    · subst w0; simp only [Int.reduceEq, reduceIte]; rw [chk_of ⟨hp.1, by omega⟩, if_pos (by decide)]; exact ok_some ⟨rfl, fun _ => rfl, fr_refl⟩
    by_cases w1 : w = 1
    · subst w1; simp only [Int.reduceEq, reduceIte]; rw [chk_of ⟨hp.1, by omega⟩, if_pos (by decide)]; exact ok_some ⟨rfl, fun _ => rfl, fr_refl⟩
    by_cases w2 : w = 2
    · subst w2; simp only [Int.reduceEq, reduceIte]; rw [chk_of ⟨hp.1, by omega⟩, if_pos (by decide)]; exact ok_some ⟨rfl, fun _ => rfl, fr_refl⟩
    by_cases w3 : w = 3
    · subst w3; simp only [Int.reduceEq, reduceIte]; rw [chk_of ⟨hp.1, by omega⟩, if_pos (by decide)]; exact ok_some ⟨rfl, fun _ => rfl, fr_refl⟩
    by_cases w4 : w = 4
    · subst w4; simp only [Int.reduceEq, reduceIte]; rw [c_apartP hR hV hp.1 hp.2, bR_some, if_pos (by decide)]; exact ok_some ⟨rfl, fun _ => rfl, fr_refl⟩
    by_cases w5 : w = 5
    · subst w5; simp only [Int.reduceEq, reduceIte]; rw [if_pos (by decide)]
      refine ok_bW (c_ropeIn hR hV hp.1 hp.2 hh) ?_
      rintro x m' ⟨e, hF⟩
      exact ok_some ⟨rfl, fun _ => e, hF⟩
    by_cases w6 : w = 6
    · subst w6; simp only [Int.reduceEq, reduceIte]; rw [c_isParted hR hp.1 (by omega), bR_some]
      cases tb (K 21) p.toNat
      · exact ok_some ⟨rfl, fun _ => rfl, fr_refl⟩
      · exact ok_some ⟨rfl, fun _ => rfl, fr_refl⟩
    rw [if_neg w0, if_neg w1, if_neg w2, if_neg w3, if_neg w4, if_neg w5, if_neg w6, if_neg (show ¬ (0 ≤ w ∧ w ≤ 6) by omega)]
    exact ok_some ⟨rfl, fun q => by omega, fr_refl⟩
  · rw [if_neg hp, if_neg hp]
    exact ok_some ⟨rfl, fun q => by omega, fr_refl⟩
theorem m_pair {K : Int → Int} {c p w : Int} {m : Mem} (hK : m 288 = K) (hV : CV c K) : Ok (fX12_pair p w m) (MD [293, 294] (if 0 ≤ p ∧ p < K 3 then (if 0 ≤ w ∧ w ≤ 6 then 0 else 2) else 1) (pairV K p w) m) := by
  have h3 := hV.1.2.1
  unfold fX12_pair
  rw [m_isPair hK hV.1, bR_some]
  simp only [rd_eq, wr_eq, jn_eq, m_within, bR_some]
  have F : ∀ v, Fr [287, 293, 294] m (up m 287 4 v) := fun v => fr_up (by simp) fr_refl
  have N : ∀ v i, i ≠ 4 → up m 287 4 v 287 i = m 287 i := fun v i h => up_idx h
  have hK1 : ∀ v, (up m 287 4 v) 288 = K := fun v => (up_cell (by decide)).trans hK
  by_cases hp : 0 ≤ p ∧ p < K 3
  · rw [if_pos hp, if_pos (by decide), if_pos hp]
    by_cases hw : 0 ≤ w ∧ w ≤ 6
    · simp only [if_pos hw, Int.reduceEq, reduceIte, up_same, Int.reduceLE, hK1]
      rw [w32_id (x := 25 + p) (by omega) (by omega), w32_id (x := 9 + p) (by omega) (by omega), w32_id (x := 13 + p) (by omega) (by omega), w32_id (x := 17 + p) (by omega) (by omega)]
      unfold pairV
      have fin : ∀ x : Int, Ok (some (x, up m 287 4 0)) (MD [293, 294] 0 x m) := fun x => ok_some (md_of (up_same _ _ _ _) (fun _ => rfl) (F 0) (N 0))
      by_cases w0 : w = 0
      · subst w0; simp only [Int.reduceEq, reduceIte]; rw [chk_of (by omega)]; exact fin _
      by_cases w1 : w = 1
      · subst w1; simp only [Int.reduceEq, reduceIte]; rw [chk_of (by omega)]; exact fin _
      by_cases w2 : w = 2
      · subst w2; simp only [Int.reduceEq, reduceIte]; rw [chk_of (by omega)]; exact fin _
      by_cases w3 : w = 3
      · subst w3; simp only [Int.reduceEq, reduceIte]; rw [chk_of (by omega)]; exact fin _
      by_cases w4 : w = 4
      · subst w4; simp only [Int.reduceEq, reduceIte]; rw [m_apartOf (hK1 0) hV hp.1 hp.2, bR_some]; exact fin _
      by_cases w5 : w = 5
      · subst w5; simp only [Int.reduceEq, reduceIte]
        refine ok_bW (m_lengthNow (hK1 0) hV.1 hV.2 hp.1 hp.2) ?_
        rintro x m' ⟨e, hF⟩
        have e7 : m' 287 = up m 287 4 0 287 := hF 287 (by decide)
        exact ok_some (md_of (by rw [e7, up_same]) (fun _ => e) (fr_trans (F 0) (fr_mono' hF (by decide))) (fun i hi => by rw [e7, N 0 i hi]))
      rw [if_neg w0, if_neg w1, if_neg w2, if_neg w3, if_neg w4, if_neg w5, if_neg w0, if_neg w1, if_neg w2, if_neg w3, if_neg w4, if_neg w5, m_isParted (hK1 0) hp.1 (by omega), bR_some]
      cases tb (K 21) p.toNat
      · rw [if_pos (by simp)]; exact fin _
      · rw [if_neg (by simp)]; exact fin _
    · simp only [if_neg hw, Int.reduceEq, reduceIte, up_same, Int.reduceLE]
      exact ok_some (md_of (up_same _ _ _ _) (fun q => by omega) (F 2) (N 2))
  · rw [if_neg hp, if_neg (by decide), if_neg hp]
    simp only [up_same, Int.reduceLE, reduceIte]
    exact ok_some (md_of (up_same _ _ _ _) (fun q => by omega) (F 1) (N 1))
theorem d_pair {c p w : Int} {m : Mem} (hI : Inv c m) (c0 : 0 ≤ c) : Two1 c (fL_pair p w) (fX12_pair p w) m := by
  obtain ⟨hR, hV⟩ := kv_of hI
  refine two_q (S := [36, 37]) (T := [293, 294]) (k' := if 0 ≤ p ∧ p < m 288 3 then (if 0 ≤ w ∧ w ≤ 6 then 0 else 2) else 1) (v := pairV (m 288) p w) hI c0 (by decide) (by decide) (by decide) (by decide) (wrapV (c_pair hR hV) ?_ ?_) (fun m1 hI1 e _ _ _ => m_pair e hV)
  · by_cases hp : (0 ≤ p ∧ p < m 288 3) <;> by_cases hw : (0 ≤ w ∧ w ≤ 6) <;> simp [hp, hw]
  · by_cases hp : (0 ≤ p ∧ p < m 288 3) <;> by_cases hw : (0 ≤ w ∧ w ≤ 6) <;> simp [hp, hw]

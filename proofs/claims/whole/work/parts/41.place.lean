/-! ===== D21: place, partsIn ===== -/
def pplN (K : Int → Int) (k : Int) : Nat → Int
  | 0 => 0
  | n + 1 => pplN K k n + (if K (13 + n) = k then 1 else 0) + (if K (17 + n) = k then 1 else 0)
theorem pplN_rg {K : Int → Int} {k : Int} : ∀ n, 0 ≤ pplN K k n ∧ pplN K k n ≤ 2 * n
  | 0 => by unfold pplN; omega
  | n + 1 => by
    have := pplN_rg (K := K) (k := k) n
    unfold pplN
    split <;> split <;> omega
def hseN (K : Int → Int) (k : Int) : Nat → Int
  | 0 => 0
  | n + 1 => hseN K k n + (if K (29 + n) = k then 1 else 0)
theorem hseN_zero {K : Int → Int} {k : Int} : ∀ n : Nat, (∀ h : Nat, h < n → K (29 + h) ≠ k) → hseN K k n = 0
  | 0, _ => rfl
  | n + 1, h => by
    unfold hseN
    rw [hseN_zero n (fun q hq => h q (by omega)), if_neg (h n (by omega))]; rfl
theorem hseN_01 {K : Int → Int} {k : Int} (hI : IsV K) : ∀ n : Nat, (n : Int) ≤ K 4 → hseN K k n = 0 ∨ hseN K k n = 1
  | 0, _ => .inl rfl
  | n + 1, hn => by
    unfold hseN
    by_cases e : K (29 + n) = k
    · have := hseN_zero (K := K) (k := k) n (fun q hq => by
        have := hI.2.2.2.2.2.1 q n (by omega) (by omega) (by omega)
        rw [e] at this; exact this)
      rw [this, if_pos e]; exact .inr rfl
    · rw [if_neg e]
      have := hseN_01 (K := K) (k := k) hI n (by omega)
      omega
theorem c_people {K : Int → Int} {c k : Int} {m : Mem} (hR : CR K m) (hV : CV c K) : fX10_peopleAt k m = some (pplN K k (K 3).toNat) := by
  have l3 := hV.1.2.1
  have hc := (curR_iff.mp hR.2).2
  have key : Ok (fX10_peopleAt k m) (fun x => x = pplN K k (K 3).toNat) := by
    unfold fX10_peopleAt
    simp only [rd_eq, jn_eq]
    refine lp_for2 (K 3) (fun t i mm => mm = m ∧ ∃ j : Nat, i = (j : Int) ∧ t = pplN K k j) ⟨rfl, 0, rfl, rfl⟩ l3.1 (by omega) ?_ ?_
    · rintro G t i mm hi ⟨rfl, j, rfl, rfl⟩ ih
      have e3 : mm 20 5 = K 3 := hR.1.1.2.2.2.2.2
      have rg := pplN_rg (K := K) (k := k) j
      obtain ⟨h1, h2, _⟩ := hc j (by omega) hi
      have go := ih (pplN K k (j + 1)) mm ⟨rfl, j + 1, by simp, rfl⟩
      rw [show pplN K k (j + 1) = pplN K k j + (if K (13 + j) = k then 1 else 0) + (if K (17 + j) = k then 1 else 0) from rfl] at go
      rw [e3, if_neg (by omega), if_neg (by omega), chk_of (by omega), h1, w32_id (x := (j : Int) + 1) (by omega) (by omega)]
      by_cases q1 : K (13 + j) = k
      · rw [if_neg (by simp [q1]), chk_of (by omega), h2, w32_id (x := pplN K k j + 1) (by omega) (by omega)]
        rw [if_pos q1] at go
        by_cases q2 : K (17 + j) = k
        · rw [if_neg (by simp [q2]), w32_id (by omega) (by omega)]
          rwa [if_pos q2] at go
        · rw [if_pos q2, w32_id (by omega) (by omega)]
          rwa [if_neg q2] at go
      · rw [if_pos q1, chk_of (by omega), h2, w32_id (x := pplN K k j + 0) (by omega) (by omega)]
        rw [if_neg q1] at go
        by_cases q2 : K (17 + j) = k
        · rw [if_neg (by simp [q2]), w32_id (by omega) (by omega)]
          rwa [if_pos q2] at go
        · rw [if_pos q2, w32_id (by omega) (by omega)]
          rwa [if_neg q2] at go
    · rintro G t mm ⟨rfl, j, hj, rfl⟩
      have e3 : mm 20 5 = K 3 := hR.1.1.2.2.2.2.2
      rw [e3, if_pos (by omega)]
      exact ok_some (by rw [hj, Int.toNat_natCast])
  obtain ⟨x, e, rfl⟩ := key
  exact e
theorem c_houseStands {K : Int → Int} {c k : Int} {m : Mem} (hR : CR K m) (hV : CV c K) : fX3_houseStandsAt k m = some (hseN K k (K 4).toNat) := by
  have l4 := hV.1.2.2.1
  have key : Ok (fX3_houseStandsAt k m) (fun x => x = hseN K k (K 4).toNat) := by
    unfold fX3_houseStandsAt
    simp only [rd_eq, jn_eq]
    refine lp_for (K 4) (fun i mm => mm = m ∧ ∃ j : Nat, i = (j : Int) ∧ ∀ h : Nat, h < j → K (29 + h) ≠ k) ⟨rfl, 0, rfl, fun h hh => by omega⟩ l4.1 (by omega) ?_ ?_
    · rintro G i mm hi ⟨rfl, j, rfl, hn⟩ ih
      have e4 : mm 20 4 = K 4 := hR.1.1.2.2.2.2.1
      rw [e4, if_neg (by omega), if_neg (by omega), chk_of (by omega), show mm 21 j = K (29 + j) from hR.1.2.1 j (by omega) hi]
      by_cases q : K (29 + j) = k
      · rw [if_neg (by simp [q])]
        refine ok_some ?_
        have hz := hseN_zero (K := K) (k := k) j hn
        have h1 : hseN K k (j + 1) = 1 := by unfold hseN; rw [hz, if_pos q]; rfl
        have up1 : ∀ d : Nat, ((j + 1 + d : Nat) : Int) ≤ K 4 → 1 ≤ hseN K k (j + 1 + d) := by
          intro d
          induction d with
          | zero => intro _; rw [Nat.add_zero, h1]; omega
          | succ d ih =>
            intro hd
            have := ih (by omega)
            show 1 ≤ hseN K k (j + 1 + d) + _
            split <;> omega
        have := up1 ((K 4).toNat - (j + 1)) (by omega)
        rw [show j + 1 + ((K 4).toNat - (j + 1)) = (K 4).toNat by omega] at this
        have := hseN_01 (K := K) (k := k) hV.1 (K 4).toNat (by omega)
        omega
      · rw [if_pos q, w32_id (by omega) (by omega)]
        refine ih mm ⟨rfl, j + 1, by simp, fun h hh => ?_⟩
        by_cases e : h = j
        · subst e; exact q
        · exact hn h (by omega)
    · rintro G mm ⟨rfl, j, hj, hn⟩
      have e4 : mm 20 4 = K 4 := hR.1.1.2.2.2.2.1
      rw [e4, if_pos (by omega)]
      refine ok_some ?_
      rw [hj, Int.toNat_natCast, hseN_zero j hn]
  obtain ⟨x, e, rfl⟩ := key
  exact e
def placeV (K : Int → Int) (k : Int) : Int := if tb (K 8) k.toNat then -2 else 10 * pplN K k (K 3).toNat + hseN K k (K 4).toNat
theorem c_place {K : Int → Int} {c k : Int} {m : Mem} (hR : CR K m) (hV : CV c K) : Ok (fX11_place k m) (CQ [36, 37] (if 0 ≤ k ∧ k < K 1 * K 2 then 0 else 3) (placeV K k) m) := by
  have ar := area_rg hV.1
  have l3 := hV.1.2.1
  unfold fX11_place
  rw [c_needPlace hR hV, bX_if (by decide)]
  by_cases hk : 0 ≤ k ∧ k < K 1 * K 2
  · rw [if_pos hk, if_pos hk, c_isRock hR hk.1 (by omega), bR_some]
    unfold placeV
    cases hr : tb (K 8) k.toNat
    · have rg := pplN_rg (K := K) (k := k) (K 3).toNat
      have h01 := hseN_01 (K := K) (k := k) hV.1 (K 4).toNat (by have := hV.1.2.2.1; omega)
      rw [if_pos (by simp), c_people hR hV, bR_some, c_houseStands hR hV, bR_some, if_neg (by simp)]
      simp only [jn_eq]
      rcases h01 with h | h
      · rw [if_pos h, w32_id (x := 10 * _) (by omega) (by omega), w32_id (by omega) (by omega)]
        exact ok_some ⟨rfl, fun _ => by rw [h], fr_refl⟩
      · rw [if_neg (by omega), w32_id (x := 10 * _) (by omega) (by omega), w32_id (by omega) (by omega)]
        exact ok_some ⟨rfl, fun _ => by rw [h], fr_refl⟩
    · rw [if_neg (by simp), if_pos rfl]
      exact ok_some ⟨rfl, fun _ => rfl, fr_refl⟩
  · rw [if_neg hk, if_neg hk]
    exact ok_some ⟨rfl, fun q => by omega, fr_refl⟩
theorem m_place {K : Int → Int} {c k : Int} {m : Mem} (hK : m 288 = K) (hV : CV c K) : Ok (fX12_place k m) (MD [293, 294] (if 0 ≤ k ∧ k < K 1 * K 2 then 0 else 1) (placeV K k) m) := by
  have ar := area_rg hV.1
  have l3 := hV.1.2.1
  have l4 := hV.1.2.2.1
  unfold fX12_place fX12_fails
  have F : Fr [287, 293, 294] m (up m 287 4 0) := fr_up (by simp) fr_refl
  have N : ∀ i, i ≠ 4 → up m 287 4 0 287 i = m 287 i := fun i h => up_idx h
  have h4 : up m 287 4 0 287 4 = 0 := up_same _ _ _ _
  have hK1 : (up m 287 4 0) 288 = K := (up_cell (by decide)).trans hK
  simp only [rd_eq, wr_eq, jn_eq]
  rw [m_isPlace hK1 hV.1, bR_some]
  by_cases hk : 0 ≤ k ∧ k < K 1 * K 2
  · rw [if_pos hk, if_pos (by decide), if_pos hk]
    generalize up m 287 4 0 = m1 at *
    rw [hK1, m_has hk.1 (by omega), bR_some]
    unfold placeV
    cases hr : tb (K 8) k.toNat
    · rw [if_pos (by simp), if_neg (c := false = true) (by simp)]
      refine lp_for2 (K 3) (fun t i mm => mm = m1 ∧ ∃ j : Nat, i = (j : Int) ∧ t = 10 * pplN K k j) ⟨rfl, 0, rfl, rfl⟩ l3.1 (by omega) ?_ ?_
      · rintro G t i mm hi ⟨rfl, j, rfl, rfl⟩ ih
        have rg := pplN_rg (K := K) (k := k) j
        have go := ih (10 * pplN K k (j + 1)) mm ⟨rfl, j + 1, by simp, rfl⟩
        rw [show pplN K k (j + 1) = pplN K k j + (if K (13 + j) = k then 1 else 0) + (if K (17 + j) = k then 1 else 0) from rfl] at go
        rw [hK1, if_neg (by omega), w32_id (x := 13 + (j : Int)) (by omega) (by omega), w32_id (x := 17 + (j : Int)) (by omega) (by omega), chk_of (by omega), w32_id (x := (j : Int) + 1) (by omega) (by omega)]
        by_cases q1 : K (13 + j) = k
        · rw [if_neg (by simp [q1]), chk_of (by omega)]
          rw [if_pos q1] at go
          by_cases q2 : K (17 + j) = k
          · rw [if_neg (by simp [q2]), w32_id (x := 10 + 10) (by omega) (by omega), w32_id (by omega) (by omega)]
            rw [if_pos q2] at go
            rwa [show 10 * pplN K k j + (10 + 10) = 10 * (pplN K k j + 1 + 1) by omega]
          · rw [if_pos q2, w32_id (x := 10 + 0) (by omega) (by omega), w32_id (by omega) (by omega)]
            rw [if_neg q2] at go
            rwa [show 10 * pplN K k j + (10 + 0) = 10 * (pplN K k j + 1 + 0) by omega]
        · rw [if_pos q1, chk_of (by omega)]
          rw [if_neg q1] at go
          by_cases q2 : K (17 + j) = k
          · rw [if_neg (by simp [q2]), w32_id (x := 0 + 10) (by omega) (by omega), w32_id (by omega) (by omega)]
            rw [if_pos q2] at go
            rwa [show 10 * pplN K k j + (0 + 10) = 10 * (pplN K k j + 0 + 1) by omega]
          · rw [if_pos q2, w32_id (x := 0 + 0) (by omega) (by omega), w32_id (by omega) (by omega)]
            rw [if_neg q2] at go
            rwa [show 10 * pplN K k j + (0 + 0) = 10 * (pplN K k j + 0 + 0) by omega]
      · rintro G t mm ⟨rfl, j, hj, rfl⟩
        have rg := pplN_rg (K := K) (k := k) j
        rw [hK1, if_pos (by omega), show (K 3).toNat = j by omega]
        refine lp_for2 (K 4) (fun t i q => q = mm ∧ ∃ h : Nat, i = (h : Int) ∧ t = 10 * pplN K k j + hseN K k h) ⟨rfl, 0, rfl, by show 10 * pplN K k j = 10 * pplN K k j + 0; omega⟩ l4.1 (by omega) ?_ ?_
        · rintro G2 t i q hi ⟨rfl, h, rfl, rfl⟩ ih
          have h01 := hseN_01 (K := K) (k := k) hV.1 h (by omega)
          have go := ih (10 * pplN K k j + hseN K k (h + 1)) q ⟨rfl, h + 1, by simp, rfl⟩
          rw [show hseN K k (h + 1) = hseN K k h + (if K (29 + h) = k then 1 else 0) from rfl] at go
          rw [hK1, if_neg (by omega), w32_id (x := 29 + (h : Int)) (by omega) (by omega), chk_of (by omega), w32_id (x := (h : Int) + 1) (by omega) (by omega)]
          by_cases q1 : K (29 + h) = k
          · rw [if_neg (by simp [q1]), w32_id (by omega) (by omega)]
            rw [if_pos q1] at go
            rwa [show 10 * pplN K k j + hseN K k h + 1 = 10 * pplN K k j + (hseN K k h + 1) by omega]
          · rw [if_pos q1, w32_id (by omega) (by omega)]
            rw [if_neg q1] at go
            rwa [show 10 * pplN K k j + hseN K k h + 0 = 10 * pplN K k j + (hseN K k h + 0) by omega]
        · rintro G2 t q ⟨rfl, h, hh, rfl⟩
          rw [hK1, if_pos (by omega), show (K 4).toNat = h by omega]
          exact ok_some (md_of h4 (fun _ => rfl) F N)
    · rw [if_neg (by simp), if_pos rfl]
      exact ok_some (md_of h4 (fun _ => rfl) F N)
  · rw [if_neg hk, if_neg (by decide), if_neg hk, bW_some]
    refine ok_some (md_of (up_same _ _ _ _) (fun q => by omega) (fr_up (by simp) F) (fun i hi => (up_idx hi).trans (N i hi)))
theorem d_place {c k : Int} {m : Mem} (hI : Inv c m) (c0 : 0 ≤ c) : Two1 c (fL_place k) (fX12_place k) m := by
  obtain ⟨hR, hV⟩ := kv_of hI
  refine two_q (S := [36, 37]) (T := [293, 294]) (k' := if 0 ≤ k ∧ k < m 288 1 * m 288 2 then 0 else 1) (v := placeV (m 288) k) hI c0 (by decide) (by decide) (by decide) (by decide) (wrapV (c_place hR hV) (fun _ => rfl) ?_ ?_) (fun m1 hI1 e _ _ _ => m_place e hV)
  · by_cases hp : (0 ≤ k ∧ k < m 288 1 * m 288 2) <;> simp [hp]
  · by_cases hp : (0 ≤ k ∧ k < m 288 1 * m 288 2) <;> simp [hp]
/-! partsIn -/
/-- the first from n on, of so many, where P; -1 for none -/
def fstN (P : Int → Bool) : Nat → Int → Int
  | 0, _ => -1
  | d + 1, n => if P n then n else fstN P d (n + 1)
theorem fstN_yes {P : Int → Bool} {d : Nat} {n : Int} (h : P n = true) : fstN P (d + 1) n = n := by
  show (if _ then _ else _) = _
  rw [if_pos h]
theorem fstN_no {P : Int → Bool} {d : Nat} {n : Int} (h : P n = false) : fstN P (d + 1) n = fstN P d (n + 1) := by
  show (if _ then _ else _) = _
  rw [if_neg (by simp [h])]
def partB (K : Int → Int) (p n : Int) : Bool := decide (lenF K p (K (25 + p)) (K 24 + n) < apartF (K 1) (K (13 + p)) (K (17 + p)))
def partsV (K : Int → Int) (p : Int) : Int := if tb (K 21) p.toNat then 0 else fstN (partB K p) 999 1
theorem c_partsIn {K : Int → Int} {c p : Int} {m : Mem} (hR : CR K m) (hV : CV c K) (c1 : c ≤ 1000000) : Ok (fX11_partsIn p m) (CQ [36, 37] (if 0 ≤ p ∧ p < K 3 then 0 else 3) (partsV K p) m) := by
  have l3 := hV.1.2.1
  have hh := (curV_iff.mp hV.2).2.2.2.2
  unfold fX11_partsIn
  rw [c_needPair hR hV, bX_if (by decide)]
  by_cases hp : 0 ≤ p ∧ p < K 3
  · rw [if_pos hp, if_pos hp, c_isParted hR hp.1 (by omega), bR_some]
    unfold partsV
    cases tb (K 21) p.toNat
    · rw [if_pos (by simp), c_apartP hR hV hp.1 hp.2, bR_some, if_neg (c := false = true) (by simp)]
      simp only [rd_eq]
      refine lp_ok (fun (i : Int) (mm : Mem) => (1 ≤ i ∧ i ≤ 1000) ∧ fstN (partB K p) (1000 - i).toNat i = fstN (partB K p) 999 1 ∧ Fr [36, 37] m mm) (fun i _ => (1000 - i).toNat) ⟨by omega, rfl, fr_refl⟩ (by decide) ?_
      rintro G i mm ⟨⟨i1, i2⟩, a1, a2⟩ ih
      have hR' := CR_fr2 hR a2
      by_cases hi : i = 1000
      · subst hi
        rw [if_pos (by decide)]
        exact ok_some ⟨rfl, fun _ => a1, a2⟩
      · rw [if_neg (by omega), (curR_iff.mp hR'.2).1.1, w32_id (by omega) (by omega)]
        refine ok_bW (c_ropeIn hR' hV hp.1 hp.2 (by omega)) ?_
        rintro x m' ⟨ex, hF⟩
        simp only at ex hF
        subst ex
        rw [show (1000 - i).toNat = (1000 - (i + 1)).toNat + 1 by omega] at a1
        by_cases q : apartF (K 1) (K (13 + p)) (K (17 + p)) ≤ lenF K p (K (25 + p)) (K 24 + i)
        · rw [if_pos q, w32_id (by omega) (by omega)]
          rw [fstN_no (by simp [partB]; omega)] at a1
          exact ih _ m' ⟨by omega, a1, fr_trans a2 hF⟩ (by show (1000 - (i + 1)).toNat < (1000 - i).toNat; omega)
        · rw [if_neg q]
          rw [fstN_yes (by simp [partB]; omega)] at a1
          exact ok_some ⟨rfl, fun _ => a1, fr_trans a2 hF⟩
    · rw [if_neg (by simp), if_pos rfl]
      exact ok_some ⟨rfl, fun _ => rfl, fr_refl⟩
  · rw [if_neg hp, if_neg hp]
    exact ok_some ⟨rfl, fun q => by omega, fr_refl⟩
theorem m_partsIn {K : Int → Int} {c p : Int} {m : Mem} (hK : m 288 = K) (hV : CV c K) (c1 : c ≤ 1000000) : Ok (fX12_partsIn p m) (MD [293, 294] (if 0 ≤ p ∧ p < K 3 then 0 else 1) (partsV K p) m) := by
  have l3 := hV.1.2.1
  have hh := (curV_iff.mp hV.2).2.2.2.2
  unfold fX12_partsIn fX12_fails
  have F : Fr [287, 293, 294] m (up m 287 4 0) := fr_up (by simp) fr_refl
  have N : ∀ i, i ≠ 4 → up m 287 4 0 287 i = m 287 i := fun i h => up_idx h
  have h4 : up m 287 4 0 287 4 = 0 := up_same _ _ _ _
  have hK1 : (up m 287 4 0) 288 = K := (up_cell (by decide)).trans hK
  simp only [rd_eq, wr_eq]
  rw [m_isPair hK1 hV.1, bR_some]
  by_cases hp : 0 ≤ p ∧ p < K 3
  · have hr := hV.1.2.2.2.2.2.2.1 p hp.1 hp.2
    rw [if_pos hp, if_pos (by decide), if_pos hp, m_isParted hK1 hp.1 (by omega), bR_some]
    unfold partsV
    cases tb (K 21) p.toNat
    · rw [if_pos (by simp), if_neg (c := false = true) (by simp)]
      generalize up m 287 4 0 = m1 at *
      refine lp_ok (fun (i : Int) (mm : Mem) => (1 ≤ i ∧ i ≤ 1000) ∧ fstN (partB K p) (1000 - i).toNat i = fstN (partB K p) 999 1 ∧ Fr [293, 294] m1 mm) (fun i _ => (1000 - i).toNat) ⟨by omega, rfl, fr_refl⟩ (by decide) ?_
      rintro G i mm ⟨⟨i1, i2⟩, a1, a2⟩ ih
      have hK' : mm 288 = K := (a2 288 (by decide)).trans hK1
      have fin : ∀ x : Int, x = fstN (partB K p) 999 1 → ∀ m', Fr [293, 294] m1 m' → Ok (some (x, m')) (MD [293, 294] 0 (fstN (partB K p) 999 1) m) := fun x hx m' hf => ok_some (md_of (by rw [hf 287 (by decide), h4]) (fun _ => hx) (fr_trans F (fr_mono' hf (by decide))) (fun i hi => by rw [hf 287 (by decide), N i hi]))
      by_cases hi : i = 1000
      · subst hi
        rw [if_pos (by decide)]
        exact fin _ a1 mm a2
      · rw [if_neg (by omega), m_apartOf hK' hV hp.1 hp.2, bR_some, w32_id (x := 25 + p) (by omega) (by omega), chk_of (by omega), hK', w32_id (x := K 24 + i) (by omega) (by omega)]
        refine ok_bW (m_lengthIn hK' hV.1 hV.2 hp.1 hp.2 (by omega) (by omega) (by omega)) ?_
        rintro x m' ⟨ex, hF⟩
        simp only at ex hF
        subst ex
        rw [show (1000 - i).toNat = (1000 - (i + 1)).toNat + 1 by omega] at a1
        by_cases q : apartF (K 1) (K (13 + p)) (K (17 + p)) ≤ lenF K p (K (25 + p)) (K 24 + i)
        · rw [if_pos q, w32_id (by omega) (by omega)]
          rw [fstN_no (by simp [partB]; omega)] at a1
          exact ih _ m' ⟨by omega, a1, fr_trans a2 hF⟩ (by show (1000 - (i + 1)).toNat < (1000 - i).toNat; omega)
        · rw [if_neg q]
          rw [fstN_yes (by simp [partB]; omega)] at a1
          exact fin _ a1 m' (fr_trans a2 hF)
    · rw [if_neg (by simp), if_pos rfl]
      exact ok_some (md_of h4 (fun _ => rfl) F N)
  · rw [if_neg hp, if_neg (by decide), if_neg hp, bW_some]
    refine ok_some (md_of (up_same _ _ _ _) (fun q => by omega) (fr_up (by simp) F) (fun i hi => (up_idx hi).trans (N i hi)))
theorem d_partsIn {c p : Int} {m : Mem} (hI : Inv c m) (c0 : 0 ≤ c) (c1 : c ≤ 900000) : Two1 c (fL_partsIn p) (fX12_partsIn p) m := by
  obtain ⟨hR, hV⟩ := kv_of hI
  refine two_q (S := [36, 37]) (T := [293, 294]) (k' := if 0 ≤ p ∧ p < m 288 3 then 0 else 1) (v := partsV (m 288) p) hI c0 (by decide) (by decide) (by decide) (by decide) (wrapV (c_partsIn hR hV (by omega)) (fun _ => rfl) ?_ ?_) (fun m1 hI1 e _ _ _ => m_partsIn e hV (by omega))
  · by_cases hp : (0 ≤ p ∧ p < m 288 3) <;> simp [hp]
  · by_cases hp : (0 ≤ p ∧ p < m 288 3) <;> simp [hp]

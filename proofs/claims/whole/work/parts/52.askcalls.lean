/-! ===== D32: lasts, reach, together, meal, farthest, soonest, alone ===== -/
def WD : List Nat := [18, 36, 37, 78, 79, 80, 81, 82, 83, 84, 85]
theorem aq0 {K : Int → Int} {c p rope rocks v : Int} {tied : Bool} {Φ : Int → Prop} {m m' : Mem} (hI : Inv c m) (hV : CV c K) (p0 : 0 ≤ p) (p1 : p < K 3) (hΦ : Φ v) (hA : AhR K p rope tied rocks m') (hF : Fr WD m m') : AQ 0 Φ m (0, v, m') :=
  ⟨rfl, fun _ => hΦ, fr_mono' hF (by decide), near_of hV p0 p1 hA, PtrR_fr hI.2.2.2.2.2.2.2 (hF 96 (by decide)) (hF 100 (by decide))⟩
theorem aq1 {c k : Int} {Φ : Int → Prop} {m : Mem} (hI : Inv c m) (hk : k ≠ 0) : AQ k Φ m (k, 0, m) := ⟨rfl, fun q => absurd q hk, fr_refl, hI.2.2.2.2.2.2.1, hI.2.2.2.2.2.2.2⟩
/-- the model's memory behind a thrown that is set -/
theorem am_thrown {m : Mem} {k : Int} : up m 287 4 k 287 4 = k ∧ (∀ i, i ≠ 4 → up m 287 4 k 287 i = m 287 i) ∧ Fr MSC m (up m 287 4 k) := ⟨up_same _ _ _ _, fun i h => up_idx h, fr_up (by decide) fr_refl⟩
theorem am1 {k : Int} {Φ : Int → Prop} {m : Mem} {x : Int} (hk : k ≠ 0) : AM k Φ m (x, up m 287 4 k) := by
  obtain ⟨h4, hN, hF⟩ := am_thrown (m := m) (k := k)
  exact ⟨h4, fun q => absurd q hk, hF, hN 6 (by decide), hN 14 (by decide), hN 15 (by decide)⟩
theorem am2 {k : Int} {Φ : Int → Prop} {m : Mem} {x : Int} (hk : k ≠ 0) : AM k Φ m (x, up (up m 287 4 0) 287 4 k) := by
  obtain ⟨h4, hN, hF⟩ := am_thrown (m := m) (k := 0)
  obtain ⟨h4', hN', hF'⟩ := am_thrown (m := up m 287 4 0) (k := k)
  exact ⟨h4', fun q => absurd q hk, fr_trans hF hF', (hN' 6 (by decide)).trans (hN 6 (by decide)), (hN' 14 (by decide)).trans (hN 14 (by decide)), (hN' 15 (by decide)).trans (hN 15 (by decide))⟩
theorem am0 {Φ : Int → Prop} {m m0 m' : Mem} {x : Int} (h4 : m0 287 4 = 0) (hN : ∀ i, i ≠ 4 → m0 287 i = m 287 i) (hF0 : Fr MSC m m0) (h28 : ∀ i, i ≠ 28 → m' 287 i = m0 287 i) (hF : Fr MSC m0 m') (hΦ : Φ x) : AM 0 Φ m (x, m') :=
  ⟨(h28 4 (by decide)).trans h4, fun _ => hΦ, fr_trans hF0 hF, (h28 6 (by decide)).trans (hN 6 (by decide)), (h28 14 (by decide)).trans (hN 14 (by decide)), (h28 15 (by decide)).trans (hN 15 (by decide))⟩
theorem inv_parts {c : Int} {m : Mem} (hI : Inv c m) : CR (m 288) m ∧ CV c (m 288) ∧ NearOk m := ⟨(kv_of hI).1, (kv_of hI).2, hI.2.2.2.2.2.2.1⟩
/-! lasts -/
def lastP (K : Int → Int) (p : Int) (v : Int) : Prop := ∃ n : Nat, v = n ∧ n ≤ 40 ∧ (∃ j k, rchP K p (K (25 + p)) (tied0 K p) (K 8) n j k) ∧ (n = 40 ∨ ¬ ∃ j k, rchP K p (K (25 + p)) (tied0 K p) (K 8) (n + 1) j k)
theorem lastP_uq {K : Int → Int} {p a b : Int} (ha : lastP K p a) (hb : lastP K p b) : a = b := by
  obtain ⟨n, rfl, n40, n1, n2⟩ := ha
  obtain ⟨k, rfl, k40, k1, k2⟩ := hb
  have h1 : ¬ n < k := fun z => by
    rcases n2 with e | e
    · omega
    · exact e (rch_down' (k - (n + 1)) (by rw [show n + 1 + (k - (n + 1)) = k by omega]; exact k1))
  have h2 : ¬ k < n := fun z => by
    rcases k2 with e | e
    · omega
    · exact e (rch_down' (n - (k + 1)) (by rw [show k + 1 + (n - (k + 1)) = n by omega]; exact n1))
  omega
theorem d_lasts {c p : Int} {m : Mem} (hI : Inv c m) (c0 : 0 ≤ c) (c1 : c ≤ 900000) : Two1 c (fL_lasts p) (fX12_lasts p) m := by
  obtain ⟨hR, hV, hn⟩ := inv_parts hI
  refine two_a (x := fX11_lasts p) (k := if 0 ≤ p ∧ p < m 288 3 then 0 else 3) (k' := if 0 ≤ p ∧ p < m 288 3 then 0 else 1) (Φ := lastP (m 288) p) hI c0 (fun a b => lastP_uq) ?_ (fun _ _ => rfl) ?_ ?_ (fun m1 hI1 e _ _ _ => ?_)
  · unfold fX11_lasts
    rw [c_needPair hR hV, bX_if (by decide)]
    by_cases hp : 0 ≤ p ∧ p < m 288 3
    · rw [if_pos hp, if_pos hp]
      refine ok_bV (c_begin hR hV hp.1 hp.2 hn) ?_
      rintro m1 ⟨a1, a2⟩
      refine ok_bW (c_lastHour (CR_fr hR (fun o a b => a2 o (by simp; omega))) (own_pair hV (by omega) hp.1 hp.2) a1) ?_
      rintro v m2 ⟨b1, b2, b3⟩
      exact ok_some (aq0 hI hV hp.1 hp.2 b1 b2 (fr_trans (fr_mono' a2 (by decide)) (fr_mono' b3 (by decide))))
    · rw [if_neg hp, if_neg hp]
      exact ok_some (aq1 hI (by decide))
  · by_cases hp : (0 ≤ p ∧ p < m 288 3) <;> simp [hp]
  · by_cases hp : (0 ≤ p ∧ p < m 288 3) <;> simp [hp]
  · rw [← e] at hV ⊢
    unfold fX12_lasts fX12_fails
    simp only [wr_eq]
    have hK0 : up m1 287 4 0 288 = m1 288 := up_cell (by decide)
    rw [m_isPair hK0 hV.1, bR_some]
    by_cases hp : 0 ≤ p ∧ p < m1 288 3
    · rw [if_pos hp, if_pos (by decide), if_pos hp]
      obtain ⟨h4, hN, hF0⟩ := am_thrown (m := m1) (k := 0)
      generalize up m1 287 4 0 = m2 at *
      have hP := own_pair hV (show c ≤ 1000000 by omega) hp.1 hp.2
      unfold fX12_laysAll
      refine ok_bV (P := fun m' => (∀ n : Nat, n ≤ 40 → RowC m' n (canS (m1 288) p (m1 288 (25 + p)) (tied0 (m1 288) p) (m1 288 8) n)) ∧ (∀ i, i ≠ 28 → m' 287 i = m2 287 i) ∧ Fr MSC m2 m') ?_ ?_
      · refine ok_bV (m_laysOwn hK0 hV (by omega) hp.1 hp.2) ?_
        rintro m3 ⟨a1, a2, a3, a4⟩
        refine ok_bV (m_laysCan (u := 40) ((a4 288 (by decide)).trans hK0) hP a1 a2 (by decide)) ?_
        rintro m4 ⟨b1, b2⟩
        exact ok_some ⟨b1, fun i hi => by rw [b2 287 (by decide), a3 i hi], fr_trans (fr_mono' a4 (by decide)) (fr_mono' b2 (by decide))⟩
      · rintro m3 ⟨a1, a2, a3⟩
        refine lp_ok (fun (i : Int) (mm : Mem) => mm = m3 ∧ ∃ h : Nat, i = (h : Int) ∧ h ≤ 40 ∧ (h = 40 ∨ ¬ ∃ j k, rchP (m1 288) p (m1 288 (25 + p)) (tied0 (m1 288) p) (m1 288 8) (h + 1) j k)) (fun i _ => i.toNat) ⟨rfl, 40, rfl, by decide, .inl rfl⟩ (by decide) ?_
        rintro G i mm ⟨rfl, h, rfl, h40, hd⟩ ih
        obtain ⟨x, ex, x01, xiff⟩ := m_isSome hP h40 (a1 h h40)
        rw [ex, bR_some]
        by_cases hx : x = 0
        · rw [if_neg (show ¬ ¬ x = 0 from fun z => z hx)]
          have hno : ¬ ∃ j k, rchP (m1 288) p (m1 288 (25 + p)) (tied0 (m1 288) p) (m1 288 8) h j k := fun z => by have := xiff.mpr z; omega
          have h0 : h ≠ 0 := fun z => by
            subst z
            have hS := (curV_iff.mp hV.2).1 p hp.1 hp.2
            exact hno ⟨m1 288 (13 + p), (m1 288 (17 + p)).toNat, rfl, by omega⟩
          rw [w32_id (by omega) (by omega)]
          refine ih _ mm ⟨rfl, h - 1, by omega, by omega, .inr (by rw [show h - 1 + 1 = h by omega]; exact hno)⟩ (by show ((h : Int) + -1).toNat < (h : Int).toNat; omega)
        · rw [if_pos hx]
          exact ok_some (am0 h4 hN hF0 a2 a3 ⟨h, rfl, h40, xiff.mp (by omega), hd⟩)
    · rw [if_neg hp, if_neg (by decide), if_neg hp, bW_some]
      exact ok_some (am2 (by decide))
/-! soonest, alone -/
theorem c_needWalk {K : Int → Int} {c p j k : Int} {m : Mem} (hR : CR K m) (hV : CV c K) : fX11_needWalk p j k m = some (if (0 ≤ p ∧ p < K 3) ∧ (0 ≤ j ∧ j < K 1 * K 2) ∧ (0 ≤ k ∧ k < K 1 * K 2) then 0 else 3, 0, m) := by
  unfold fX11_needWalk
  rw [c_needPair hR hV, bX_if (by decide)]
  by_cases hp : 0 ≤ p ∧ p < K 3
  · rw [if_pos hp, c_needPlace hR hV, bX_if (by decide)]
    by_cases hj : 0 ≤ j ∧ j < K 1 * K 2
    · rw [if_pos hj, c_needPlace hR hV, bX_if (by decide)]
      by_cases hk : 0 ≤ k ∧ k < K 1 * K 2
      · rw [if_pos hk, if_pos ⟨hp, hj, hk⟩]
      · rw [if_neg hk, if_neg (fun q => hk q.2.2)]
    · rw [if_neg hj, if_neg (fun q => hj q.2.1)]
  · rw [if_neg hp, if_neg (fun q => hp q.1)]
theorem m_isWayOut {K : Int → Int} {c p j k : Int} {m : Mem} (hK : m 288 = K) (hV : CV c K) : fX12_isWayOut p j k m = some (if (0 ≤ p ∧ p < K 3) ∧ (0 ≤ j ∧ j < K 1 * K 2) ∧ (0 ≤ k ∧ k < K 1 * K 2) then 0 else 1, up m 287 4 (if (0 ≤ p ∧ p < K 3) ∧ (0 ≤ j ∧ j < K 1 * K 2) ∧ (0 ≤ k ∧ k < K 1 * K 2) then 0 else 1)) := by
  unfold fX12_isWayOut
  simp only [m_isPair hK hV.1, m_isPlace hK hV.1, bR_some, rd_eq, wr_eq, jn_eq, up_same]
  by_cases hp : 0 ≤ p ∧ p < K 3
  · rw [if_pos hp, if_neg (by decide)]
    by_cases hj : 0 ≤ j ∧ j < K 1 * K 2
    · rw [if_pos hj, if_neg (by decide)]
      by_cases hk : 0 ≤ k ∧ k < K 1 * K 2
      · rw [if_pos hk, if_neg (by decide), if_pos (by decide), chk_of (by simp), if_pos ⟨hp, hj, hk⟩]
      · rw [if_neg hk, if_pos rfl, if_neg (by decide), chk_of (by simp), if_neg (fun q => hk q.2.2)]
    · rw [if_neg hj, if_pos rfl, if_neg (by decide), chk_of (by simp), if_neg (fun q => hj q.2.1)]
  · rw [if_neg hp, if_pos rfl, if_neg (by decide), chk_of (by simp), if_neg (fun q => hp q.1)]
def walkOk (K : Int → Int) (p j k : Int) : Prop := (0 ≤ p ∧ p < K 3) ∧ (0 ≤ j ∧ j < K 1 * K 2) ∧ (0 ≤ k ∧ k < K 1 * K 2)
def soonP (K : Int → Int) (p j k v : Int) : Prop := FirstH (fun h => rchP K p (K (25 + p)) (tied0 K p) (K 8) h j k.toNat) v
theorem d_soonest {c p j k : Int} {m : Mem} (hI : Inv c m) (c0 : 0 ≤ c) (c1 : c ≤ 900000) : Two1 c (fL_soonest p j k) (fX12_soonest p j k) m := by
  obtain ⟨hR, hV, hn⟩ := inv_parts hI
  refine two_a (x := fX11_soonest p j k) (k := if (0 ≤ p ∧ p < m 288 3) ∧ (0 ≤ j ∧ j < m 288 1 * m 288 2) ∧ (0 ≤ k ∧ k < m 288 1 * m 288 2) then 0 else 3) (k' := if (0 ≤ p ∧ p < m 288 3) ∧ (0 ≤ j ∧ j < m 288 1 * m 288 2) ∧ (0 ≤ k ∧ k < m 288 1 * m 288 2) then 0 else 1) (Φ := soonP (m 288) p j k) hI c0 (fun a b => firstH_uq) ?_ (fun _ _ => rfl) ?_ ?_ (fun m1 hI1 e _ _ _ => ?_)
  · unfold fX11_soonest
    rw [c_needWalk hR hV, bX_if (by decide)]
    by_cases hp : (0 ≤ p ∧ p < m 288 3) ∧ (0 ≤ j ∧ j < m 288 1 * m 288 2) ∧ (0 ≤ k ∧ k < m 288 1 * m 288 2)
    · rw [if_pos hp, if_pos hp]
      refine ok_bV (c_begin hR hV hp.1.1 hp.1.2 hn) ?_
      rintro m1 ⟨a1, a2⟩
      have hR1 : CR (m 288) m1 := CR_fr hR (fun o a b => a2 o (by simp; omega))
      simp only [rd_eq]
      rw [hR1.1.1.2.2.2.1]
      refine ok_bW (c_hoursTo hR1 (own_pair hV (by omega) hp.1.1 hp.1.2) a1 hp.2.1.1 hp.2.1.2 hp.2.2.1 hp.2.2.2) ?_
      rintro v m2 ⟨b1, _, b2, b3⟩
      exact ok_some (aq0 hI hV hp.1.1 hp.1.2 b1 b2 (fr_trans (fr_mono' a2 (by decide)) (fr_mono' b3 (by decide))))
    · rw [if_neg hp, if_neg hp]
      exact ok_some (aq1 hI (by decide))
  · by_cases hp : (0 ≤ p ∧ p < m 288 3) ∧ (0 ≤ j ∧ j < m 288 1 * m 288 2) ∧ (0 ≤ k ∧ k < m 288 1 * m 288 2) <;> simp [hp]
  · by_cases hp : (0 ≤ p ∧ p < m 288 3) ∧ (0 ≤ j ∧ j < m 288 1 * m 288 2) ∧ (0 ≤ k ∧ k < m 288 1 * m 288 2) <;> simp [hp]
  · rw [← e] at hV ⊢
    unfold fX12_soonest
    rw [m_isWayOut rfl hV, bW_some]
    by_cases hp : (0 ≤ p ∧ p < m1 288 3) ∧ (0 ≤ j ∧ j < m1 288 1 * m1 288 2) ∧ (0 ≤ k ∧ k < m1 288 1 * m1 288 2)
    · rw [if_pos hp, if_pos rfl]
      have hK0 : up m1 287 4 0 288 = m1 288 := up_cell (by decide)
      obtain ⟨h4, hN, hF0⟩ := am_thrown (m := m1) (k := 0)
      generalize up m1 287 4 0 = m2 at *
      refine ok_bV (m_laysOwn hK0 hV (by omega) hp.1.1 hp.1.2) ?_
      rintro m3 ⟨a1, a2, a3, a4⟩
      refine ok_bW (m_wayOf ((a4 288 (by decide)).trans hK0) (own_pair hV (by omega) hp.1.1 hp.1.2) a1 a2 hp.2.1.1 hp.2.1.2 hp.2.2.1 hp.2.2.2) ?_
      rintro v m4 ⟨b1, _, b3⟩
      exact ok_some (am0 h4 hN hF0 (fun i hi => (congrFun (b3 287 (by decide)) i).trans (a3 i hi)) (fr_trans (fr_mono' a4 (by decide)) (fr_mono' b3 (by decide))) b1)
    · rw [if_neg hp, if_neg (by decide)]
      exact ok_some (am1 (by decide))
theorem m_isAloneOut {K : Int → Int} {c p w k : Int} {m : Mem} (hK : m 288 = K) (hV : CV c K) : fX12_isAloneOut p w k m = some (if (0 ≤ p ∧ p < K 3) ∧ (0 ≤ k ∧ k < K 1 * K 2) ∧ (0 ≤ w ∧ w ≤ 1) then 0 else 1, up m 287 4 (if (0 ≤ p ∧ p < K 3) then (if (0 ≤ k ∧ k < K 1 * K 2) then (if (0 ≤ w ∧ w ≤ 1) then 0 else 2) else 1) else 1)) := by
  unfold fX12_isAloneOut
  simp only [m_isPair hK hV.1, m_isPlace hK hV.1, m_isWho, bR_some, rd_eq, wr_eq, jn_eq, up_same]
  by_cases hp : 0 ≤ p ∧ p < K 3
  · rw [if_pos hp, if_neg (by decide), if_pos hp]
    by_cases hk : 0 ≤ k ∧ k < K 1 * K 2
    · rw [if_pos hk, if_pos (by decide), if_pos hk]
      by_cases hw : 0 ≤ w ∧ w ≤ 1
      · rw [if_pos hw, if_neg (by decide), if_pos (by decide), chk_of (by simp), if_pos (show (0 ≤ p ∧ p < K 3) ∧ (0 ≤ k ∧ k < K 1 * K 2) ∧ (0 ≤ w ∧ w ≤ 1) from ⟨hp, hk, hw⟩), if_pos hw]
      · rw [if_neg hw, if_pos rfl, if_neg (by decide), chk_of (by simp), if_neg (fun q => hw q.2.2), if_neg hw]
    · rw [if_neg hk, if_neg (by decide), if_neg (by decide), chk_of (by simp), if_neg (fun q => hk q.2.1), if_neg hk]
  · rw [if_neg hp, if_pos rfl, if_neg (by decide), chk_of (by simp), if_neg (fun q => hp q.1), if_neg hp]
theorem d_alone {c p w k : Int} {m : Mem} (hI : Inv c m) (c0 : 0 ≤ c) (c1 : c ≤ 900000) : Two1 c (fL_alone p w k) (fX12_alone p w k) m := by
  obtain ⟨hR, hV, hn⟩ := inv_parts hI
  refine two_a (x := fX11_alone p w k) (k := if (0 ≤ p ∧ p < m 288 3) then (if (0 ≤ k ∧ k < m 288 1 * m 288 2) then (if (0 ≤ w ∧ w ≤ 1) then 0 else 1) else 3) else 3) (k' := if (0 ≤ p ∧ p < m 288 3) then (if (0 ≤ k ∧ k < m 288 1 * m 288 2) then (if (0 ≤ w ∧ w ≤ 1) then 0 else 2) else 1) else 1) (Φ := FirstH (fun h => whereP (m 288) p (m 288 (25 + p)) (tied0 (m 288) p) (m 288 8) w h k.toNat)) hI c0 (fun a b => firstH_uq) ?_ (fun _ _ => rfl) ?_ ?_ (fun m1 hI1 e _ _ _ => ?_)
  · unfold fX11_alone
    rw [c_needPair hR hV, bX_if (by decide)]
    by_cases hp : 0 ≤ p ∧ p < m 288 3
    · rw [if_pos hp, if_pos hp, c_needPlace hR hV, bX_if (by decide)]
      by_cases hk : 0 ≤ k ∧ k < m 288 1 * m 288 2
      · rw [if_pos hk, if_pos hk, c_needWithin, bX_if (by decide)]
        by_cases hw : 0 ≤ w ∧ w ≤ 1
        · rw [if_pos hw, if_pos hw]
          refine ok_bV (c_begin hR hV hp.1 hp.2 hn) ?_
          rintro m1 ⟨a1, a2⟩
          refine ok_bW (c_hoursOfOne (CR_fr hR (fun o a b => a2 o (by simp; omega))) (own_pair hV (by omega) hp.1 hp.2) a1 hk.1 hk.2) ?_
          rintro v m2 ⟨b1, b2, b3⟩
          exact ok_some (aq0 hI hV hp.1 hp.2 b1 b2 (fr_trans (fr_mono' a2 (by decide)) (fr_mono' b3 (by decide))))
        · rw [if_neg hw, if_neg hw]; exact ok_some (aq1 hI (by decide))
      · rw [if_neg hk, if_neg hk]; exact ok_some (aq1 hI (by decide))
    · rw [if_neg hp, if_neg hp]; exact ok_some (aq1 hI (by decide))
  · by_cases hp : (0 ≤ p ∧ p < m 288 3) <;> by_cases hk : (0 ≤ k ∧ k < m 288 1 * m 288 2) <;> by_cases hw : (0 ≤ w ∧ w ≤ 1) <;> simp [hp, hk, hw]
  · by_cases hp : (0 ≤ p ∧ p < m 288 3) <;> by_cases hk : (0 ≤ k ∧ k < m 288 1 * m 288 2) <;> by_cases hw : (0 ≤ w ∧ w ≤ 1) <;> simp [hp, hk, hw]
  · rw [← e] at hV ⊢
    unfold fX12_alone
    have e0 := m_isAloneOut (p := p) (w := w) (k := k) (m := m1) rfl hV
    by_cases hp : 0 ≤ p ∧ p < m1 288 3
    · by_cases hk : 0 ≤ k ∧ k < m1 288 1 * m1 288 2
      · by_cases hw : 0 ≤ w ∧ w ≤ 1
        · simp only [if_pos (show (0 ≤ p ∧ p < m1 288 3) ∧ (0 ≤ k ∧ k < m1 288 1 * m1 288 2) ∧ (0 ≤ w ∧ w ≤ 1) from ⟨hp, hk, hw⟩), if_pos hp, if_pos hk, if_pos hw] at e0 ⊢
          rw [e0, bW_some, if_pos rfl]
          have hK0 : up m1 287 4 0 288 = m1 288 := up_cell (by decide)
          obtain ⟨h4, hN, hF0⟩ := am_thrown (m := m1) (k := 0)
          generalize up m1 287 4 0 = m2 at *
          refine ok_bV (m_laysOwn hK0 hV (by omega) hp.1 hp.2) ?_
          rintro m3 ⟨a1, a2, a3, a4⟩
          refine ok_bW (m_aloneOf ((a4 288 (by decide)).trans hK0) (own_pair hV (by omega) hp.1 hp.2) a1 a2 hw.1 hw.2 hk.1 hk.2) ?_
          rintro v m4 ⟨b1, b3⟩
          exact ok_some (am0 h4 hN hF0 (fun i hi => (congrFun (b3 287 (by decide)) i).trans (a3 i hi)) (fr_trans (fr_mono' a4 (by decide)) (fr_mono' b3 (by decide))) b1)
        · simp only [if_neg (show ¬ ((0 ≤ p ∧ p < m1 288 3) ∧ (0 ≤ k ∧ k < m1 288 1 * m1 288 2) ∧ (0 ≤ w ∧ w ≤ 1)) from fun q => hw q.2.2), if_pos hp, if_pos hk, if_neg hw] at e0 ⊢
          rw [e0, bW_some, if_neg (by decide)]
          exact ok_some (am1 (by decide))
      · simp only [if_neg (show ¬ ((0 ≤ p ∧ p < m1 288 3) ∧ (0 ≤ k ∧ k < m1 288 1 * m1 288 2) ∧ (0 ≤ w ∧ w ≤ 1)) from fun q => hk q.2.1), if_pos hp, if_neg hk] at e0 ⊢
        rw [e0, bW_some, if_neg (by decide)]
        exact ok_some (am1 (by decide))
    · simp only [if_neg (show ¬ ((0 ≤ p ∧ p < m1 288 3) ∧ (0 ≤ k ∧ k < m1 288 1 * m1 288 2) ∧ (0 ≤ w ∧ w ≤ 1)) from fun q => hp q.1), if_neg hp] at e0 ⊢
      rw [e0, bW_some, if_neg (by decide)]
      exact ok_some (am1 (by decide))

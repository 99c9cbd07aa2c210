/-! ===== D41: leads, needed ===== -/
noncomputable def ownV (K : Int → Int) (p j k : Int) : Int := wayV K p (K (25 + p)) (tied0 K p) (K 8) j k
noncomputable def leadV (K : Int → Int) (p j k t : Int) : Int := if ownV K p j k < t then -1 else turnV K p (K (25 + p)) (tied0 K p) (K 8) (ownV K p j k).toNat j k.toNat (t - 1).toNat
theorem d_leads {c p j k t : Int} {m : Mem} (hI : Inv c m) (c0 : 0 ≤ c) (c1 : c ≤ 900000) : Two1 c (fL_leads p j k t) (fX12_leads p j k t) m := by
  obtain ⟨hR, hV, hn⟩ := inv_parts hI
  refine two_a (x := fX11_leads p j k t) (k := if (0 ≤ p ∧ p < m 288 3) ∧ (0 ≤ j ∧ j < m 288 1 * m 288 2) ∧ (0 ≤ k ∧ k < m 288 1 * m 288 2) then (if 1 ≤ t then 0 else 1) else 3) (k' := if (0 ≤ p ∧ p < m 288 3) ∧ (0 ≤ j ∧ j < m 288 1 * m 288 2) ∧ (0 ≤ k ∧ k < m 288 1 * m 288 2) then (if 1 ≤ t then 0 else 2) else 1) (Φ := fun v => v = leadV (m 288) p j k t) hI c0 (fun a b ha hb => ha.trans hb.symm) ?_ (fun _ _ => rfl) ?_ ?_ (fun m1 hI1 e _ _ _ => ?_)
  · unfold fX11_leads
    rw [c_needWalk hR hV, bX_if (by decide)]
    by_cases hp : (0 ≤ p ∧ p < m 288 3) ∧ (0 ≤ j ∧ j < m 288 1 * m 288 2) ∧ (0 ≤ k ∧ k < m 288 1 * m 288 2)
    · rw [if_pos hp, if_pos hp]
      by_cases ht : 1 ≤ t
      · rw [if_pos ht, if_pos ht]
        have l3 := hV.1.2.1
        have hP := own_pair hV (show c ≤ 1000000 by omega) hp.1.1 hp.1.2
        refine ok_bV (c_begin hR hV hp.1.1 hp.1.2 hn) ?_
        rintro m1 ⟨a1, a2⟩
        have hR1 : CR (m 288) m1 := CR_fr hR (fun o a b => a2 o (by simp; omega))
        refine ok_bW (c_findWay hR1 hP a1 hp.2.1.1 hp.2.1.2 hp.2.2.1 hp.2.2.2) ?_
        rintro v m2 ⟨b1, b2, b3, b4⟩
        simp only at b1 b2 b3 b4
        have ev : v = ownV (m 288) p j k := firstV_eq b1
        have rv := firstV_rg (fun h => rchP (m 288) p (m 288 (25 + p)) (tied0 (m 288) p) (m 288 8) h j k.toNat)
        have ev' : v = firstV (fun h => rchP (m 288) p (m 288 (25 + p)) (tied0 (m 288) p) (m 288 8) h j k.toNat) := ev
        have F := fr_trans (fr_mono' (T := WD) a2 (by decide)) b4
        simp only [rd_eq, jn_eq]
        by_cases hv : v < t
        · rw [if_pos hv]
          exact ok_some (aq0 hI hV hp.1.1 hp.1.2 (by unfold leadV; rw [← ev, if_pos hv]) b3 F)
        · rw [if_neg hv, if_neg (by omega), chk_of (by omega)]
          refine ok_some (aq0 hI hV hp.1.1 hp.1.2 ?_ b3 F)
          unfold leadV
          rw [← ev, if_neg hv]
          have := b2 (by omega) (t - 1).toNat (by omega)
          rw [show (((t - 1).toNat : Nat) : Int) + 1 = t by omega] at this
          exact this
      · rw [if_neg ht, if_neg ht]; exact ok_some (aq1 hI (by decide))
    · rw [if_neg hp, if_neg hp]
      exact ok_some (aq1 hI (by decide))
  · by_cases hp : (0 ≤ p ∧ p < m 288 3) ∧ (0 ≤ j ∧ j < m 288 1 * m 288 2) ∧ (0 ≤ k ∧ k < m 288 1 * m 288 2) <;> by_cases ht : 1 ≤ t <;> simp [hp, ht]
  · by_cases hp : (0 ≤ p ∧ p < m 288 3) ∧ (0 ≤ j ∧ j < m 288 1 * m 288 2) ∧ (0 ≤ k ∧ k < m 288 1 * m 288 2) <;> by_cases ht : 1 ≤ t <;> simp [hp, ht]
  · rw [← e] at hV ⊢
    unfold fX12_leads
    rw [m_isWayOut rfl hV, bW_some]
    simp only [rd_eq, wr_eq, jn_eq, up_same]
    by_cases hp : (0 ≤ p ∧ p < m1 288 3) ∧ (0 ≤ j ∧ j < m1 288 1 * m1 288 2) ∧ (0 ≤ k ∧ k < m1 288 1 * m1 288 2)
    · simp only [if_pos hp]
      rw [if_neg (show ¬ ¬ True from fun q => q trivial)]
      by_cases ht : 1 ≤ t
      · rw [if_pos ht, if_pos ht, if_pos (by decide)]
        have l3 := hV.1.2.1
        have hK0 : up m1 287 4 0 288 = m1 288 := up_cell (by decide)
        obtain ⟨h4, hN, hF0⟩ := am_thrown (m := m1) (k := 0)
        generalize up m1 287 4 0 = m2 at *
        refine ok_bW (m_laysWay hK0 hV (by omega) hp.1.1 hp.1.2 hp.2.1.1 hp.2.1.2 hp.2.2.1 hp.2.2.2) ?_
        rintro v m3 ⟨b1, b2, b3, b4⟩
        simp only at b1 b2 b3 b4
        have ev : v = ownV (m1 288) p j k := firstV_eq b1
        have rv := firstV_rg (fun h => rchP (m1 288) p (m1 288 (25 + p)) (tied0 (m1 288) p) (m1 288 8) h j k.toNat)
        have ev' : v = firstV (fun h => rchP (m1 288) p (m1 288 (25 + p)) (tied0 (m1 288) p) (m1 288 8) h j k.toNat) := ev
        have F : Fr MSC m2 m3 := fr_mono' b4 (by decide)
        by_cases hv : v < t
        · rw [if_pos hv]
          exact ok_some (am0 h4 hN hF0 b3 F (by unfold leadV; rw [← ev, if_pos hv]))
        · rw [if_neg hv, chk_of (by omega)]
          refine ok_some (am0 h4 hN hF0 b3 F ?_)
          unfold leadV
          rw [← ev, if_neg hv]
          have := b2 (by omega) (t - 1).toNat (by omega)
          rw [show (((t - 1).toNat : Nat) : Int) + 1 = t by omega] at this
          exact this
      · rw [if_neg ht, if_neg ht, if_neg (by decide)]
        exact ok_some (am2 (by decide))
    · simp only [if_neg hp]
      rw [if_pos (show ¬ (1 : Int) = 0 by decide), if_neg (by decide)]
      exact ok_some (am1 (by decide))

/-! ===== D33: reach, together, farthest, meal ===== -/
/-- the front of a question about a pair and an hour, the class's side -/
theorem d_together {c p n : Int} {m : Mem} (hI : Inv c m) (c0 : 0 ≤ c) (c1 : c ≤ 900000) : Two1 c (fL_together p n) (fX12_together p n) m := by
  obtain ⟨hR, hV, hn⟩ := inv_parts hI
  refine two_a (x := fX11_together p n) (k := if (0 ≤ p ∧ p < m 288 3) then (if (0 ≤ n ∧ n ≤ 40) then 0 else 1) else 3) (k' := if (0 ≤ p ∧ p < m 288 3) then (if (0 ≤ n ∧ n ≤ 40) then 0 else 2) else 1) (Φ := fun v => Bits v (fun i => rchP (m 288) p (m 288 (25 + p)) (tied0 (m 288) p) (m 288 8) n.toNat i i)) hI c0 (fun a b ha hb => bits_eq ha hb (fun _ _ => Iff.rfl)) ?_ (fun _ _ => rfl) ?_ ?_ (fun m1 hI1 e _ _ _ => ?_)
  · unfold fX11_together
    rw [c_needPair hR hV, bX_if (by decide)]
    by_cases hp : 0 ≤ p ∧ p < m 288 3
    · rw [if_pos hp, if_pos hp, c_needWithin, bX_if (by decide)]
      by_cases hw : 0 ≤ n ∧ n ≤ 40
      · rw [if_pos hw, if_pos hw]
        have en : ((n.toNat : Nat) : Int) = n := Int.toNat_of_nonneg hw.1
        have hP := own_pair hV (show c ≤ 1000000 by omega) hp.1 hp.2
        refine ok_bV (c_begin hR hV hp.1 hp.2 hn) ?_
        rintro m1 ⟨a1, a2⟩
        have := c_goTo (n := n.toNat) (CR_fr hR (fun o a b => a2 o (by simp; omega))) hP (by omega) a1
        rw [en] at this
        refine ok_bW this ?_
        rintro v m2 ⟨b1, b2, b3⟩
        simp only at b1 b2 b3
        simp only [jn_eq]
        rcases b1 with ⟨b0, b1⟩ | ⟨b0, h, h1, h2⟩
        · obtain ⟨y, ey, hy⟩ := c_whereBoth hP b2 (show n.toNat ≤ 40 by omega) (b1 _ (Nat.le_refl _))
          rw [en] at ey
          rw [if_neg (by omega), ey, bR_some]
          exact ok_some (aq0 hI hV hp.1 hp.2 hy b2 (fr_trans (fr_mono' a2 (by decide)) (fr_mono' b3 (by decide))))
        · rw [if_pos b0]
          refine ok_some (aq0 hI hV hp.1 hp.2 (bits_zero (fun i _ q => h2 (rch_down' (n.toNat - h) (by rw [show h + (n.toNat - h) = n.toNat by omega]; exact ⟨_, _, q⟩)))) b2 (fr_trans (fr_mono' a2 (by decide)) (fr_mono' b3 (by decide))))
      · rw [if_neg hw, if_neg hw]; exact ok_some (aq1 hI (by decide))
    · rw [if_neg hp, if_neg hp]; exact ok_some (aq1 hI (by decide))
  · by_cases hp : (0 ≤ p ∧ p < m 288 3) <;> by_cases hw : (0 ≤ n ∧ n ≤ 40) <;> simp [hp, hw]
  · by_cases hp : (0 ≤ p ∧ p < m 288 3) <;> by_cases hw : (0 ≤ n ∧ n ≤ 40) <;> simp [hp, hw]
  · rw [← e] at hV ⊢
    unfold fX12_together
    rw [m_isPair rfl hV.1, bR_some]
    simp only [rd_eq, wr_eq, jn_eq, m_within, bR_some, up_same]
    by_cases hp : 0 ≤ p ∧ p < m1 288 3
    · rw [if_pos hp, if_pos (by decide), if_pos hp]
      by_cases hw : 0 ≤ n ∧ n ≤ 40
      · rw [if_pos hw, if_neg (by decide), if_pos (by decide), if_pos hw]
        have en : ((n.toNat : Nat) : Int) = n := Int.toNat_of_nonneg hw.1
        have hP := own_pair hV (show c ≤ 1000000 by omega) hp.1 hp.2
        have hK0 : up m1 287 4 0 288 = m1 288 := up_cell (by decide)
        obtain ⟨h4, hN, hF0⟩ := am_thrown (m := m1) (k := 0)
        generalize up m1 287 4 0 = m2 at *
        refine ok_bV (m_laysOwn hK0 hV (by omega) hp.1 hp.2) ?_
        rintro m3 ⟨a1, a2, a3, a4⟩
        have := m_laysCan (u := n.toNat) ((a4 288 (by decide)).trans hK0) hP a1 a2 (by omega)
        rw [en] at this
        refine ok_bV this ?_
        rintro m4 ⟨b1, b2⟩
        obtain ⟨y, ey, hy⟩ := m_togetherIn hP (show n.toNat ≤ 40 by omega) (b1 _ (Nat.le_refl _))
        rw [en] at ey
        rw [ey, bR_some]
        exact ok_some (am0 h4 hN hF0 (fun i hi => (congrFun (b2 287 (by decide)) i).trans (a3 i hi)) (fr_trans (fr_mono' a4 (by decide)) (fr_mono' b2 (by decide))) hy)
      · rw [if_neg hw, if_pos rfl, if_neg (by decide), if_neg hw]; exact ok_some (am1 (by decide))
    · rw [if_neg hp, if_neg (by decide), if_neg (by decide), if_neg hp]; exact ok_some (am1 (by decide))
theorem d_farthest {c p n : Int} {m : Mem} (hI : Inv c m) (c0 : 0 ≤ c) (c1 : c ≤ 900000) : Two1 c (fL_farthest p n) (fX12_farthest p n) m := by
  obtain ⟨hR, hV, hn⟩ := inv_parts hI
  refine two_a (x := fX11_farthest p n) (k := if (0 ≤ p ∧ p < m 288 3) then (if (0 ≤ n ∧ n ≤ 40) then 0 else 1) else 3) (k' := if (0 ≤ p ∧ p < m 288 3) then (if (0 ≤ n ∧ n ≤ 40) then 0 else 2) else 1) (Φ := FarP (m 288) (rchP (m 288) p (m 288 (25 + p)) (tied0 (m 288) p) (m 288 8) n.toNat)) hI c0 (fun a b => farP_uq) ?_ (fun _ _ => rfl) ?_ ?_ (fun m1 hI1 e _ _ _ => ?_)
  · unfold fX11_farthest
    rw [c_needPair hR hV, bX_if (by decide)]
    by_cases hp : 0 ≤ p ∧ p < m 288 3
    · rw [if_pos hp, if_pos hp, c_needWithin, bX_if (by decide)]
      by_cases hw : 0 ≤ n ∧ n ≤ 40
      · rw [if_pos hw, if_pos hw]
        have en : ((n.toNat : Nat) : Int) = n := Int.toNat_of_nonneg hw.1
        have hP := own_pair hV (show c ≤ 1000000 by omega) hp.1 hp.2
        refine ok_bV (c_begin hR hV hp.1 hp.2 hn) ?_
        rintro m1 ⟨a1, a2⟩
        have hR1 : CR (m 288) m1 := CR_fr hR (fun o a b => a2 o (by simp; omega))
        have := c_goTo (n := n.toNat) hR1 hP (by omega) a1
        rw [en] at this
        refine ok_bW this ?_
        rintro v m2 ⟨b1, b2, b3⟩
        simp only at b1 b2 b3
        simp only [jn_eq]
        rcases b1 with ⟨b0, b1⟩ | ⟨b0, h, h1, h2⟩
        · have := c_widest (CR_fr hR1 (fun o z1 z2 => b3 o (by unfold WC; simp; omega))) hP b2 (show n.toNat ≤ 40 by omega) (b1 _ (Nat.le_refl _))
          rw [en] at this
          rw [if_neg (by omega)]
          refine ok_bR this ?_
          intro y hy
          exact ok_some (aq0 hI hV hp.1 hp.2 hy b2 (fr_trans (fr_mono' a2 (by decide)) (fr_mono' b3 (by decide))))
        · rw [if_pos b0]
          refine ok_some (aq0 hI hV hp.1 hp.2 (.inl ⟨rfl, fun j k q => h2 (rch_down' (n.toNat - h) (by rw [show h + (n.toNat - h) = n.toNat by omega]; exact ⟨_, _, q⟩))⟩) b2 (fr_trans (fr_mono' a2 (by decide)) (fr_mono' b3 (by decide))))
      · rw [if_neg hw, if_neg hw]; exact ok_some (aq1 hI (by decide))
    · rw [if_neg hp, if_neg hp]; exact ok_some (aq1 hI (by decide))
  · by_cases hp : (0 ≤ p ∧ p < m 288 3) <;> by_cases hw : (0 ≤ n ∧ n ≤ 40) <;> simp [hp, hw]
  · by_cases hp : (0 ≤ p ∧ p < m 288 3) <;> by_cases hw : (0 ≤ n ∧ n ≤ 40) <;> simp [hp, hw]
  · rw [← e] at hV ⊢
    unfold fX12_farthest
    rw [m_isPair rfl hV.1, bR_some]
    simp only [rd_eq, wr_eq, jn_eq, m_within, bR_some, up_same]
    by_cases hp : 0 ≤ p ∧ p < m1 288 3
    · rw [if_pos hp, if_pos (by decide), if_pos hp]
      by_cases hw : 0 ≤ n ∧ n ≤ 40
      · rw [if_pos hw, if_neg (by decide), if_pos (by decide), if_pos hw]
        have en : ((n.toNat : Nat) : Int) = n := Int.toNat_of_nonneg hw.1
        have hP := own_pair hV (show c ≤ 1000000 by omega) hp.1 hp.2
        have hwd := wide_of hV.1 hp.1 hp.2
        have hK0 : up m1 287 4 0 288 = m1 288 := up_cell (by decide)
        obtain ⟨h4, hN, hF0⟩ := am_thrown (m := m1) (k := 0)
        generalize up m1 287 4 0 = m2 at *
        refine ok_bV (m_laysOwn hK0 hV (by omega) hp.1 hp.2) ?_
        rintro m3 ⟨a1, a2, a3, a4⟩
        have hK3 := (a4 288 (by decide)).trans hK0
        have := m_laysCan (u := n.toNat) hK3 hP a1 a2 (by omega)
        rw [en] at this
        refine ok_bV this ?_
        rintro m4 ⟨b1, b2⟩
        have hK4 := (b2 288 (by decide)).trans hK3
        have fin : ∀ v, FarP (m1 288) (rchP (m1 288) p (m1 288 (25 + p)) (tied0 (m1 288) p) (m1 288 8) n.toNat) v → Ok (some (v, m4)) (AM 0 (FarP (m1 288) (rchP (m1 288) p (m1 288 (25 + p)) (tied0 (m1 288) p) (m1 288 8) n.toNat)) m1) := fun v hv => ok_some (am0 h4 hN hF0 (fun i hi => (congrFun (b2 287 (by decide)) i).trans (a3 i hi)) (fr_trans (fr_mono' a4 (by decide)) (fr_mono' b2 (by decide))) hv)
        have rowAll := b1 _ (Nat.le_refl _)
        have rg := fun j k q => rch_rg (n := n.toNat) (rope := m1 288 (25 + p)) (tied := tied0 (m1 288) p) (rocks := m1 288 8) hV hp.1 hp.2 j k q
        have ar := area_rg hV.1
        refine lp_for2 625 (fun t b q => q = m4 ∧ 0 ≤ b ∧ FarP (m1 288) (fun j k => 25 * j + k < b ∧ rchP (m1 288) p (m1 288 (25 + p)) (tied0 (m1 288) p) (m1 288 8) n.toNat j k) t) ⟨rfl, by omega, .inl ⟨rfl, fun j k q => by have := rg j k q.2; omega⟩⟩ (by decide) (by decide) ?_ ?_
        · rintro G t b q hb ⟨rfl, b0, hfar⟩ ih
          have row := rowAll b b0 hb
          rw [en] at row
          unfold canS at row
          have ek : (((b % 25).toNat : Nat) : Int) = b % 25 := Int.toNat_of_nonneg (by omega)
          rw [if_neg (by omega), w32_id (x := 625 * n) (by omega) (by omega), w32_id (x := 625 * n + b) (by omega) (by omega), chk_of (by omega), tdiv_e 25 b0, tmod_e 25 b0, w32_id (x := b + 1) (by omega) (by omega)]
          by_cases hz : q 298 (625 * n + b) = 0
          · rw [if_pos hz]
            have hno : ¬ rchP (m1 288) p (m1 288 (25 + p)) (tied0 (m1 288) p) (m1 288 8) n.toNat (b / 25) (b % 25).toNat := fun z => by have := row.2.mpr z; omega
            have hs : ∀ (j : Int) (k : Nat), (25 * j + k < b + 1 ∧ rchP (m1 288) p (m1 288 (25 + p)) (tied0 (m1 288) p) (m1 288 8) n.toNat j k) → (25 * j + k < b ∧ rchP (m1 288) p (m1 288 (25 + p)) (tied0 (m1 288) p) (m1 288 8) n.toNat j k) := fun j k ⟨z1, z2⟩ => by
              refine ⟨?_, z2⟩
              have := rg j k z2
              by_cases e : 25 * j + (k : Int) = b
              · exfalso
                rw [show b / 25 = j by omega, show (b % 25).toNat = k by omega] at hno
                exact hno z2
              · omega
            refine ih _ q ⟨rfl, by omega, ?_⟩
            rcases hfar with ⟨e, nn⟩ | ⟨⟨j, k, y, e⟩, l⟩
            · exact .inl ⟨e, fun j k y => nn j k (hs j k y)⟩
            · exact .inr ⟨⟨j, k, ⟨by omega, y.2⟩, e⟩, fun j k y => l j k (hs j k y)⟩
          · rw [if_neg hz, m_apart hK4 hwd.1.1 hwd.1.2 (by omega) (by omega) (by omega) (by omega), bR_some]
            have hyes := row.2.mp (by have := row.1; omega)
            have ap := apartF_rg (j := b / 25) (k := b % 25) hwd.1.1 hwd.1.2 (by omega) (by omega) (by omega) (by omega)
            refine ih _ q ⟨rfl, by omega, .inr ⟨?_, ?_⟩⟩
            · by_cases hmx : t < apartF (m1 288 1) (b / 25) (b % 25)
              · exact ⟨b / 25, (b % 25).toNat, ⟨by omega, hyes⟩, by rw [ek]; unfold imax; rw [if_pos hmx]⟩
              · rcases hfar with ⟨e, nn⟩ | ⟨⟨j, z, y, e⟩, l⟩
                · omega
                · exact ⟨j, z, ⟨by omega, y.2⟩, by unfold imax; rw [if_neg hmx]; exact e⟩
            · rintro j z ⟨y1, y2⟩
              have hjz := rg j z y2
              have : apartF (m1 288 1) j z ≤ t ∨ apartF (m1 288 1) j z = apartF (m1 288 1) (b / 25) (b % 25) := by
                by_cases e : 25 * j + (z : Int) = b
                · right; rw [show b / 25 = j by omega, show b % 25 = (z : Int) by omega]
                · left
                  rcases hfar with ⟨e', nn⟩ | ⟨_, l⟩
                  · exact absurd ⟨by omega, y2⟩ (nn j z)
                  · exact l j z ⟨by omega, y2⟩
              unfold imax; split <;> omega
        · rintro G t q ⟨rfl, b0, hfar⟩
          rw [if_pos (by omega)]
          refine fin t ?_
          rcases hfar with ⟨e, nn⟩ | ⟨⟨j, k, y, e⟩, l⟩
          · exact .inl ⟨e, fun j k y => nn j k ⟨by have := rg j k y; omega, y⟩⟩
          · exact .inr ⟨⟨j, k, y.2, e⟩, fun j k y => l j k ⟨by have := rg j k y; omega, y⟩⟩
      · rw [if_neg hw, if_pos rfl, if_neg (by decide), if_neg hw]; exact ok_some (am1 (by decide))
    · rw [if_neg hp, if_neg (by decide), if_neg (by decide), if_neg hp]; exact ok_some (am1 (by decide))
theorem d_reach {c p w n : Int} {m : Mem} (hI : Inv c m) (c0 : 0 ≤ c) (c1 : c ≤ 900000) : Two1 c (fL_reach p w n) (fX12_reach p w n) m := by
  obtain ⟨hR, hV, hn⟩ := inv_parts hI
  refine two_a (x := fX11_reach p w n) (k := if (0 ≤ p ∧ p < m 288 3) then (if (0 ≤ w ∧ w ≤ 1) then (if (0 ≤ n ∧ n ≤ 40) then 0 else 1) else 1) else 3) (k' := if (0 ≤ p ∧ p < m 288 3) then (if (0 ≤ w ∧ w ≤ 1) then (if (0 ≤ n ∧ n ≤ 40) then 0 else 2) else 2) else 1) (Φ := fun v => Bits v (whereP (m 288) p (m 288 (25 + p)) (tied0 (m 288) p) (m 288 8) w n.toNat)) hI c0 (fun a b ha hb => bits_eq ha hb (fun _ _ => Iff.rfl)) ?_ (fun _ _ => rfl) ?_ ?_ (fun m1 hI1 e _ _ _ => ?_)
  · unfold fX11_reach
    rw [c_needPair hR hV, bX_if (by decide)]
    by_cases hp : 0 ≤ p ∧ p < m 288 3
    · rw [if_pos hp, if_pos hp, c_needWithin, bX_if (by decide)]
      by_cases hq : 0 ≤ w ∧ w ≤ 1
      · rw [if_pos hq, if_pos hq, c_needWithin, bX_if (by decide)]
        by_cases hw : 0 ≤ n ∧ n ≤ 40
        · rw [if_pos hw, if_pos hw]
          have en : ((n.toNat : Nat) : Int) = n := Int.toNat_of_nonneg hw.1
          have hP := own_pair hV (show c ≤ 1000000 by omega) hp.1 hp.2
          refine ok_bV (c_begin hR hV hp.1 hp.2 hn) ?_
          rintro m1 ⟨a1, a2⟩
          have := c_goTo (n := n.toNat) (CR_fr hR (fun o a b => a2 o (by simp; omega))) hP (by omega) a1
          rw [en] at this
          refine ok_bW this ?_
          rintro v m2 ⟨b1, b2, b3⟩
          simp only at b1 b2 b3
          simp only [jn_eq]
          rcases b1 with ⟨b0, b1⟩ | ⟨b0, h, h1, h2⟩
          · obtain ⟨y, ey, hy⟩ := c_whereIs (who := w) hP b2 (show n.toNat ≤ 40 by omega) (b1 _ (Nat.le_refl _))
            rw [en] at ey
            rw [if_neg (by omega), ey, bR_some]
            exact ok_some (aq0 hI hV hp.1 hp.2 hy b2 (fr_trans (fr_mono' a2 (by decide)) (fr_mono' b3 (by decide))))
          · rw [if_pos b0]
            refine ok_some (aq0 hI hV hp.1 hp.2 (bits_zero (fun i _ q => h2 (rch_down' (n.toNat - h) ?_))) b2 (fr_trans (fr_mono' a2 (by decide)) (fr_mono' b3 (by decide))))
            rw [show h + (n.toNat - h) = n.toNat by omega]
            unfold whereP at q
            split at q
            · obtain ⟨j, q⟩ := q; exact ⟨_, _, q⟩
            · obtain ⟨j, q⟩ := q; exact ⟨_, _, q⟩
        · rw [if_neg hw, if_neg hw]; exact ok_some (aq1 hI (by decide))
      · rw [if_neg hq, if_neg hq]; exact ok_some (aq1 hI (by decide))
    · rw [if_neg hp, if_neg hp]; exact ok_some (aq1 hI (by decide))
  · by_cases hp : (0 ≤ p ∧ p < m 288 3) <;> by_cases hq : (0 ≤ w ∧ w ≤ 1) <;> by_cases hw : (0 ≤ n ∧ n ≤ 40) <;> simp [hp, hq, hw]
  · by_cases hp : (0 ≤ p ∧ p < m 288 3) <;> by_cases hq : (0 ≤ w ∧ w ≤ 1) <;> by_cases hw : (0 ≤ n ∧ n ≤ 40) <;> simp [hp, hq, hw]
  · rw [← e] at hV ⊢
    unfold fX12_reach
    rw [m_isPair rfl hV.1, bR_some]
    simp only [rd_eq, wr_eq, jn_eq, m_within, m_isWho, bR_some, up_same]
    by_cases hp : 0 ≤ p ∧ p < m1 288 3
    · rw [if_pos hp, if_pos (by decide), if_pos hp]
      by_cases hq : 0 ≤ w ∧ w ≤ 1
      · rw [if_pos hq, if_neg (by decide), if_pos hq]
        by_cases hw : 0 ≤ n ∧ n ≤ 40
        · rw [if_pos hw, if_neg (by decide), if_pos (by decide), if_pos hw]
          have en : ((n.toNat : Nat) : Int) = n := Int.toNat_of_nonneg hw.1
          have hP := own_pair hV (show c ≤ 1000000 by omega) hp.1 hp.2
          have hK0 : up m1 287 4 0 288 = m1 288 := up_cell (by decide)
          obtain ⟨h4, hN, hF0⟩ := am_thrown (m := m1) (k := 0)
          generalize up m1 287 4 0 = m2 at *
          refine ok_bV (m_laysOwn hK0 hV (by omega) hp.1 hp.2) ?_
          rintro m3 ⟨a1, a2, a3, a4⟩
          have hK3 := (a4 288 (by decide)).trans hK0
          have := m_laysCan (u := n.toNat) hK3 hP a1 a2 (by omega)
          rw [en] at this
          refine ok_bV this ?_
          rintro m4 ⟨b1, b2⟩
          have rowAll := b1 _ (Nat.le_refl _)
          have ar := area_rg hV.1
          refine lp_for2 625 (fun t b q => q = m4 ∧ 0 ≤ b ∧ Bits t (fun i => ∃ b', (0 ≤ b' ∧ b' < b) ∧ canS (m1 288) p (m1 288 (25 + p)) (tied0 (m1 288) p) (m1 288 8) n.toNat b' ∧ (if w = 0 then b' / 25 else b' % 25) = (i : Int))) ⟨rfl, by omega, bits_zero (fun i _ q => by obtain ⟨b', z, _⟩ := q; omega)⟩ (by decide) (by decide) ?_ ?_
          · rintro G t b q hb ⟨rfl, b0, hbt⟩ ih
            have row := rowAll b b0 hb
            rw [en] at row
            rw [if_neg (by omega), w32_id (x := 625 * n) (by omega) (by omega), w32_id (x := 625 * n + b) (by omega) (by omega), chk_of (by omega), tdiv_e 25 b0, tmod_e 25 b0, w32_id (x := b + 1) (by omega) (by omega)]
            have step : ∀ z : Int, z = (if w = 0 then b / 25 else b % 25) → canS (m1 288) p (m1 288 (25 + p)) (tied0 (m1 288) p) (m1 288 8) n.toNat b → Ok (G (ior t (ishl 1 z), b + 1) q) (AM 0 (fun v => Bits v (whereP (m1 288) p (m1 288 (25 + p)) (tied0 (m1 288) p) (m1 288 8) w n.toNat)) m1) := by
              intro z hz hc
              have z0 : 0 ≤ z ∧ z < 25 := by rw [hz]; split <;> omega
              refine ih _ q ⟨rfl, by omega, bits_imp (bits_or hbt z0.1 (by omega)) (fun i _ => ⟨?_, ?_⟩)⟩
              · rintro (⟨b', y1, y2⟩ | y)
                · exact ⟨b', by omega, y2⟩
                · exact ⟨b, by omega, hc, by rw [← hz]; omega⟩
              · rintro ⟨b', y1, y2, y3⟩
                by_cases e : b' = b
                · subst e; right; omega
                · exact .inl ⟨b', by omega, y2, y3⟩
            by_cases hz : q 298 (625 * n + b) = 0
            · rw [if_pos hz, ior_zero hbt.1]
              refine ih _ q ⟨rfl, by omega, bits_imp hbt (fun i _ => ⟨fun ⟨b', y1, y2⟩ => ⟨b', by omega, y2⟩, fun ⟨b', y1, y2, y3⟩ => ⟨b', ?_, y2, y3⟩⟩)⟩
              by_cases e : b' = b
              · subst e; have := row.2.mpr y2; omega
              · omega
            · rw [if_neg hz]
              have hc := row.2.mp (by have := row.1; omega)
              by_cases hw0 : w = 0
              · rw [if_neg (by omega)]; exact step _ (by rw [if_pos hw0]) hc
              · rw [if_pos hw0]; exact step _ (by rw [if_neg hw0]) hc
          · rintro G t q ⟨rfl, b0, hbt⟩
            rw [if_pos (by omega)]
            refine ok_some (am0 h4 hN hF0 (fun i hi => (congrFun (b2 287 (by decide)) i).trans (a3 i hi)) (fr_trans (fr_mono' a4 (by decide)) (fr_mono' b2 (by decide))) (bits_imp hbt (fun i _ => ?_)))
            unfold whereP
            by_cases hw0 : w = 0
            · rw [if_neg (by omega)]
              constructor
              · rintro ⟨b', y1, y2, y3⟩
                rw [if_pos hw0] at y3
                unfold canS at y2; rw [y3] at y2; exact ⟨_, y2⟩
              · rintro ⟨k, y⟩
                have := rch_rg hV hp.1 hp.2 _ _ _ y
                exact ⟨25 * (i : Int) + k, by omega, (can_rch (by omega) (by omega)).mpr (by rw [Int.toNat_natCast]; exact y), by rw [if_pos hw0]; omega⟩
            · rw [if_pos (by omega)]
              constructor
              · rintro ⟨b', y1, y2, y3⟩
                rw [if_neg hw0] at y3
                unfold canS at y2; rw [y3, Int.toNat_natCast] at y2; exact ⟨_, y2⟩
              · rintro ⟨j, y⟩
                have := rch_rg hV hp.1 hp.2 _ _ _ y
                exact ⟨25 * j + i, by omega, (can_rch (by omega) (by omega)).mpr (by rw [Int.toNat_natCast]; exact y), by rw [if_neg hw0]; omega⟩
        · rw [if_neg hw, if_pos rfl, if_neg (by decide), if_neg hw]; exact ok_some (am1 (by decide))
      · rw [if_neg hq, if_pos rfl, if_neg (by decide), if_neg hq]; exact ok_some (am1 (by decide))
    · rw [if_neg hp, if_neg (by decide), if_neg (by decide), if_neg hp]; exact ok_some (am1 (by decide))
/-! meal -/
def LowP (Q : Nat → Prop) (v : Int) : Prop := 0 ≤ v ∧ Q v.toNat ∧ ∀ i : Nat, (i : Int) < v → ¬ Q i
theorem lowP_uq {Q : Nat → Prop} {a b : Int} (ha : LowP Q a) (hb : LowP Q b) : a = b := by
  have h1 : ¬ a < b := fun z => hb.2.2 a.toNat (by have := ha.1; omega) ha.2.1
  have h2 : ¬ b < a := fun z => ha.2.2 b.toNat (by have := hb.1; omega) hb.2.1
  omega
theorem c_lowest {x : Int} {Q : Nat → Prop} {m : Mem} (hb : Bits x Q) (hQ : ∃ i : Nat, i < 25 ∧ Q i) : ∃ v, fX11_lowest x m = some v ∧ LowP Q v := by
  have key : Ok (fX11_lowest x m) (LowP Q) := by
    unfold fX11_lowest
    refine lp_for 25 (fun k mm => mm = m ∧ 0 ≤ k ∧ ∀ i : Nat, (i : Int) < k → ¬ Q i) ⟨rfl, by omega, fun i z => by omega⟩ (by decide) (by decide) ?_ ?_
    · rintro G k mm hk ⟨rfl, k0, hn⟩ ih
      rw [if_neg (by omega), bit_ui _ k0 (by omega)]
      have := hb.2 k.toNat (by omega)
      cases htb : tb x k.toNat
      · rw [if_pos (by simp), w32_id (by omega) (by omega)]
        refine ih mm ⟨rfl, by omega, fun i z => ?_⟩
        by_cases e : (i : Int) = k
        · intro q; rw [show k.toNat = i by omega] at this htb; rw [this.mpr q] at htb; cases htb
        · exact hn i (by omega)
      · rw [if_neg (by simp)]
        exact ok_some ⟨k0, this.mp htb, hn⟩
    · rintro G mm ⟨rfl, _, hn⟩
      obtain ⟨i, i1, q⟩ := hQ
      exact absurd q (hn i (by omega))
  exact key
theorem m_firstOf {x : Int} {Q : Nat → Prop} {m : Mem} (hb : Bits x Q) (hQ : ∃ i : Nat, i < 25 ∧ Q i) : ∃ v, fX12_firstOf x m = some v ∧ LowP Q v := by
  have key : Ok (fX12_firstOf x m) (LowP Q) := by
    unfold fX12_firstOf
    refine lp_ok (fun (k : Int) (mm : Mem) => mm = m ∧ (0 ≤ k ∧ k ≤ 25) ∧ ∀ i : Nat, (i : Int) < k → ¬ Q i) (fun k _ => (25 - k).toNat) ⟨rfl, by omega, fun i z => by omega⟩ (by decide) ?_
    rintro G k mm ⟨rfl, ⟨k0, k25⟩, hn⟩ ih
    by_cases hk : k = 25
    · obtain ⟨i, i1, q⟩ := hQ
      exact absurd q (hn i (by omega))
    · rw [m_has k0 (by omega), bR_some]
      have := hb.2 k.toNat (by omega)
      cases htb : tb x k.toNat
      · rw [if_neg (by simp), w32_id (by omega) (by omega)]
        refine ih _ mm ⟨rfl, by omega, fun i z => ?_⟩ (by show (25 - (k + 1)).toNat < (25 - k).toNat; omega)
        by_cases e : (i : Int) = k
        · intro q; rw [show k.toNat = i by omega] at this htb; rw [this.mpr q] at htb; cases htb
        · exact hn i (by omega)
      · rw [if_pos (by simp)]
        exact ok_some ⟨k0, this.mp htb, hn⟩
  exact key
def mealP (K : Int → Int) (p w v : Int) : Prop :=
  ∃ h, FirstH (fun h => ∃ i : Nat, rchP K p (K (25 + p)) (tied0 K p) (K 8) h i i) h ∧ ((h = -1 ∨ w = 0) ∧ v = h ∨ (h ≠ -1 ∧ w ≠ 0) ∧ LowP (fun i => rchP K p (K (25 + p)) (tied0 K p) (K 8) h.toNat i i) v)
theorem mealP_uq {K : Int → Int} {p w a b : Int} (ha : mealP K p w a) (hb : mealP K p w b) : a = b := by
  obtain ⟨h, h1, h2⟩ := ha
  obtain ⟨g, g1, g2⟩ := hb
  have := firstH_uq h1 g1
  subst this
  rcases h2 with ⟨_, rfl⟩ | ⟨e, h2⟩ <;> rcases g2 with ⟨_, rfl⟩ | ⟨e', g2⟩
  · rfl
  · omega
  · omega
  · exact lowP_uq h2 g2
theorem d_meal {c p w : Int} {m : Mem} (hI : Inv c m) (c0 : 0 ≤ c) (c1 : c ≤ 900000) : Two1 c (fL_meal p w) (fX12_meal p w) m := by
  obtain ⟨hR, hV, hn⟩ := inv_parts hI
  refine two_a (x := fX11_meal p w) (k := if (0 ≤ p ∧ p < m 288 3) then (if (0 ≤ w ∧ w ≤ 1) then 0 else 1) else 3) (k' := if (0 ≤ p ∧ p < m 288 3) then (if (0 ≤ w ∧ w ≤ 1) then 0 else 2) else 1) (Φ := mealP (m 288) p w) hI c0 (fun a b => mealP_uq) ?_ (fun _ _ => rfl) ?_ ?_ (fun m1 hI1 e _ _ _ => ?_)
  · unfold fX11_meal
    rw [c_needPair hR hV, bX_if (by decide)]
    by_cases hp : 0 ≤ p ∧ p < m 288 3
    · rw [if_pos hp, if_pos hp, c_needWithin, bX_if (by decide)]
      by_cases hw : 0 ≤ w ∧ w ≤ 1
      · rw [if_pos hw, if_pos hw]
        have hP := own_pair hV (show c ≤ 1000000 by omega) hp.1 hp.2
        have ar := area_rg hV.1
        refine ok_bV (c_begin hR hV hp.1 hp.2 hn) ?_
        rintro m1 ⟨a1, a2⟩
        refine ok_bW (c_mealHour (CR_fr hR (fun o a b => a2 o (by simp; omega))) hP a1) ?_
        rintro v m2 ⟨b1, b0, b2, b3⟩
        simp only at b1 b0 b2 b3
        simp only [jn_eq]
        have F := fr_trans (fr_mono' (T := WD) a2 (by decide)) (fr_mono' b3 (by decide))
        by_cases hv : v = -1
        · rw [if_pos hv]
          exact ok_some (aq0 hI hV hp.1 hp.2 ⟨v, b1, .inl ⟨.inl hv, rfl⟩⟩ b2 F)
        · rw [if_neg hv]
          by_cases hw0 : w = 0
          · rw [if_neg (by omega)]
            exact ok_some (aq0 hI hV hp.1 hp.2 ⟨v, b1, .inl ⟨.inr hw0, rfl⟩⟩ b2 F)
          · rw [if_pos hw0]
            have b1' := b1
            rcases b1 with ⟨h, h40, hvh, ⟨i, hi⟩, _⟩ | ⟨e, _⟩
            · subst hvh
              have hS := b0 (by omega)
              rw [Int.toNat_natCast] at hS
              obtain ⟨y, ey, hy⟩ := c_whereBoth hP b2 h40 (hS h (Nat.le_refl _))
              obtain ⟨z, ez, hz⟩ := c_lowest (m := m2) hy ⟨i, by have := (rch_rg hV hp.1 hp.2 _ _ _ hi).2; omega, hi⟩
              rw [ey, bR_some, ez, bR_some]
              exact ok_some (aq0 hI hV hp.1 hp.2 ⟨h, b1', .inr ⟨⟨hv, hw0⟩, by rw [Int.toNat_natCast]; exact hz⟩⟩ b2 F)
            · exact absurd e hv
      · rw [if_neg hw, if_neg hw]; exact ok_some (aq1 hI (by decide))
    · rw [if_neg hp, if_neg hp]; exact ok_some (aq1 hI (by decide))
  · by_cases hp : (0 ≤ p ∧ p < m 288 3) <;> by_cases hw : (0 ≤ w ∧ w ≤ 1) <;> simp [hp, hw]
  · by_cases hp : (0 ≤ p ∧ p < m 288 3) <;> by_cases hw : (0 ≤ w ∧ w ≤ 1) <;> simp [hp, hw]
  · rw [← e] at hV ⊢
    unfold fX12_meal
    rw [m_isPair rfl hV.1, bR_some]
    simp only [rd_eq, wr_eq, jn_eq, m_within, bR_some, up_same]
    by_cases hp : 0 ≤ p ∧ p < m1 288 3
    · rw [if_pos hp, if_pos (by decide), if_pos hp]
      by_cases hw : 0 ≤ w ∧ w ≤ 1
      · rw [if_pos hw, if_neg (by decide), if_pos (by decide), if_pos hw]
        have hP := own_pair hV (show c ≤ 1000000 by omega) hp.1 hp.2
        have ar := area_rg hV.1
        have hK0 : up m1 287 4 0 288 = m1 288 := up_cell (by decide)
        obtain ⟨h4, hN, hF0⟩ := am_thrown (m := m1) (k := 0)
        generalize up m1 287 4 0 = m2 at *
        unfold fX12_laysAll
        refine ok_bV (P := fun m' => (∀ n : Nat, n ≤ 40 → RowC m' n (canS (m1 288) p (m1 288 (25 + p)) (tied0 (m1 288) p) (m1 288 8) n)) ∧ (∀ i, i ≠ 28 → m' 287 i = m2 287 i) ∧ Fr MSC m2 m') ?_ ?_
        · refine ok_bV (m_laysOwn hK0 hV (by omega) hp.1 hp.2) ?_
          rintro m3 ⟨a1, a2, a3, a4⟩
          refine ok_bV (m_laysCan (u := 40) ((a4 288 (by decide)).trans hK0) hP a1 a2 (by decide)) ?_
          rintro m4 ⟨b1, b2⟩
          exact ok_some ⟨b1, fun i hi => by rw [b2 287 (by decide), a3 i hi], fr_trans (fr_mono' a4 (by decide)) (fr_mono' b2 (by decide))⟩
        · rintro m3 ⟨a1, a2, a3⟩
          refine lp_ok (fun (i : Int) (mm : Mem) => mm = m3 ∧ ∃ h : Nat, i = (h : Int) ∧ h ≤ 41 ∧ ∀ h', h' < h → ¬ ∃ i : Nat, rchP (m1 288) p (m1 288 (25 + p)) (tied0 (m1 288) p) (m1 288 8) h' i i) (fun i _ => (41 - i).toNat) ⟨rfl, 0, rfl, by omega, fun _ z => by omega⟩ (by decide) ?_
          rintro G i mm ⟨rfl, h, rfl, h41, hno⟩ ih
          by_cases hx : h = 41
          · subst hx
            rw [if_pos (by omega)]
            exact ok_some (am0 h4 hN hF0 a2 a3 ⟨-1, .inr ⟨rfl, fun h' z => hno h' (by omega)⟩, .inl ⟨.inl rfl, rfl⟩⟩)
          · obtain ⟨y, ey, hy⟩ := m_togetherIn hP (show h ≤ 40 by omega) (a1 h (by omega))
            have hz := bits_eq0 hy
            rw [if_neg (by omega), ey, bR_some]
            by_cases hy0 : y = 0
            · rw [if_pos hy0, w32_id (by omega) (by omega)]
              refine ih _ mm ⟨rfl, h + 1, by omega, by omega, fun h' hh => ?_⟩ (by show (41 - ((h : Int) + 1)).toNat < (41 - (h : Int)).toNat; omega)
              by_cases e : h' = h
              · subst e; rintro ⟨i, q⟩; exact hz.mp hy0 i (by have := (rch_rg hV hp.1 hp.2 _ _ _ q).2; omega) q
              · exact hno h' (by omega)
            · rw [if_neg hy0]
              have hex : ∃ i : Nat, rchP (m1 288) p (m1 288 (25 + p)) (tied0 (m1 288) p) (m1 288 8) h i i := Classical.byContradiction (fun hn => hy0 (hz.mpr (fun i _ q => hn ⟨i, q⟩)))
              have hfirst : FirstH (fun h => ∃ i : Nat, rchP (m1 288) p (m1 288 (25 + p)) (tied0 (m1 288) p) (m1 288 8) h i i) h := .inl ⟨h, by omega, rfl, hex, hno⟩
              by_cases hw0 : w = 0
              · rw [if_neg (by omega)]
                exact ok_some (am0 h4 hN hF0 a2 a3 ⟨h, hfirst, .inl ⟨.inr hw0, rfl⟩⟩)
              · obtain ⟨i, hi⟩ := hex
                obtain ⟨z, ez, hz'⟩ := m_firstOf (m := mm) hy ⟨i, by have := (rch_rg hV hp.1 hp.2 _ _ _ hi).2; omega, hi⟩
                rw [if_pos hw0, ez, bR_some]
                exact ok_some (am0 h4 hN hF0 a2 a3 ⟨h, hfirst, .inr ⟨⟨by omega, hw0⟩, by rw [Int.toNat_natCast]; exact hz'⟩⟩)
      · rw [if_neg hw, if_pos rfl, if_neg (by decide), if_neg hw]; exact ok_some (am1 (by decide))
    · rw [if_neg hp, if_neg (by decide), if_neg (by decide), if_neg hp]; exact ok_some (am1 (by decide))

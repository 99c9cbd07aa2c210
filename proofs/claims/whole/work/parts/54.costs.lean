/-! ===== D34: costs, leastRope, clear ===== -/
theorem firstH_ex (Q : Nat → Prop) : ∃ v, FirstH Q v := by
  have step : ∀ n : Nat, (∀ h, h < n → ¬ Q h) ∨ ∃ h, h < n ∧ Q h ∧ ∀ h', h' < h → ¬ Q h' := by
    intro n
    induction n with
    | zero => exact .inl (fun h z => by omega)
    | succ n ih =>
      rcases ih with ih | ⟨h, a, b, d⟩
      · by_cases q : Q n
        · exact .inr ⟨n, by omega, q, ih⟩
        · refine .inl (fun h z => ?_)
          by_cases e : h = n
          · subst e; exact q
          · exact ih h (by omega)
      · exact .inr ⟨h, by omega, b, d⟩
  rcases step 41 with h | ⟨h, a, b, d⟩
  · exact ⟨-1, .inr ⟨rfl, fun h' z => h h' (by omega)⟩⟩
  · exact ⟨h, .inl ⟨h, by omega, rfl, b, d⟩⟩
noncomputable def firstV (Q : Nat → Prop) : Int := Classical.choose (firstH_ex Q)
theorem firstV_spec (Q : Nat → Prop) : FirstH Q (firstV Q) := Classical.choose_spec (firstH_ex Q)
theorem firstV_eq {Q : Nat → Prop} {v : Int} (h : FirstH Q v) : v = firstV Q := firstH_uq h (firstV_spec Q)
theorem firstV_rg (Q : Nat → Prop) : -1 ≤ firstV Q ∧ firstV Q ≤ 40 := by
  rcases firstV_spec Q with ⟨h, a, b, _⟩ | ⟨a, _⟩ <;> omega
noncomputable def wayV (K : Int → Int) (p rope : Int) (tied : Bool) (rocks j k : Int) : Int := firstV (fun h => rchP K p rope tied rocks h j k.toNat)
noncomputable def aloneV (K : Int → Int) (p rope : Int) (tied : Bool) (rocks w k : Int) : Int := firstV (fun h => whereP K p rope tied rocks w h k.toNat)
noncomputable def costV (K : Int → Int) (p w k : Int) : Int :=
  if aloneV K p (K (25 + p)) (tied0 K p) (K 8) w k = -1 ∨ aloneV K p (K (25 + p)) false (K 8) w k = -1 then -1 else aloneV K p (K (25 + p)) (tied0 K p) (K 8) w k - aloneV K p (K (25 + p)) false (K 8) w k
theorem d_costs {c p w k : Int} {m : Mem} (hI : Inv c m) (c0 : 0 ≤ c) (c1 : c ≤ 900000) : Two1 c (fL_costs p w k) (fX12_costs p w k) m := by
  obtain ⟨hR, hV, hn⟩ := inv_parts hI
  refine two_a (x := fX11_costs p w k) (k := if (0 ≤ p ∧ p < m 288 3) then (if (0 ≤ k ∧ k < m 288 1 * m 288 2) then (if (0 ≤ w ∧ w ≤ 1) then 0 else 1) else 3) else 3) (k' := if (0 ≤ p ∧ p < m 288 3) then (if (0 ≤ k ∧ k < m 288 1 * m 288 2) then (if (0 ≤ w ∧ w ≤ 1) then 0 else 2) else 1) else 1) (Φ := fun v => v = costV (m 288) p w k) hI c0 (fun a b ha hb => ha.trans hb.symm) ?_ (fun _ _ => rfl) ?_ ?_ (fun m1 hI1 e _ _ _ => ?_)
  · unfold fX11_costs
    rw [c_needPair hR hV, bX_if (by decide)]
    by_cases hp : 0 ≤ p ∧ p < m 288 3
    · rw [if_pos hp, if_pos hp, c_needPlace hR hV, bX_if (by decide)]
      by_cases hk : 0 ≤ k ∧ k < m 288 1 * m 288 2
      · rw [if_pos hk, if_pos hk, c_needWithin, bX_if (by decide)]
        by_cases hw : 0 ≤ w ∧ w ≤ 1
        · rw [if_pos hw, if_pos hw]
          have l3 := hV.1.2.1
          have hP := own_pair hV (show c ≤ 1000000 by omega) hp.1 hp.2
          refine ok_bV (c_begin hR hV hp.1 hp.2 hn) ?_
          rintro m1 ⟨a1, a2⟩
          have hR1 : CR (m 288) m1 := CR_fr hR (fun o a b => a2 o (by simp; omega))
          refine ok_bW (c_hoursOfOne hR1 hP a1 hk.1 hk.2) ?_
          rintro v m2 ⟨b1, b2, b3⟩
          simp only at b1 b2 b3
          have ev : v = aloneV (m 288) p (m 288 (25 + p)) (tied0 (m 288) p) (m 288 8) w k := firstV_eq b1
          have hR2 : CR (m 288) m2 := CR_fr hR1 (fun o z1 z2 => b3 o (by unfold WC; simp; omega))
          have F := fr_trans (fr_mono' (T := WD) a2 (by decide)) (fr_mono' b3 (by decide))
          by_cases hv : v = -1
          · rw [if_neg (by omega)]
            exact ok_some (aq0 hI hV hp.1 hp.2 (by unfold costV; rw [if_pos (.inl (by rw [← ev]; exact hv))]) b2 F)
          · rw [if_pos hv, chk_of (by omega)]
            simp only [rd_eq, jn_eq]
            rw [show m2 22 p = m 288 (25 + p) from hR2.1.2.2.1 p hp.1 hp.2]
            refine ok_bV (c_bind (rope' := m 288 (25 + p)) (t' := false) b2) ?_
            rintro m3 ⟨d1, d2⟩
            have hR3 : CR (m 288) m3 := CR_fr hR2 (fun o z1 z2 => d2 o (by simp; omega))
            refine ok_bW (c_hoursOfOne hR3 hP d1 hk.1 hk.2) ?_
            rintro u m4 ⟨e1, e2, e3⟩
            simp only at e1 e2 e3
            have eu : u = aloneV (m 288) p (m 288 (25 + p)) false (m 288 8) w k := firstV_eq e1
            have F2 := fr_trans F (fr_trans (fr_mono' (T := WD) d2 (by decide)) (fr_mono' e3 (by decide)))
            have rv := firstV_rg (fun h => whereP (m 288) p (m 288 (25 + p)) (tied0 (m 288) p) (m 288 8) w h k.toNat)
            have ru := firstV_rg (fun h => whereP (m 288) p (m 288 (25 + p)) false (m 288 8) w h k.toNat)
            have ev' : v = firstV (fun h => whereP (m 288) p (m 288 (25 + p)) (tied0 (m 288) p) (m 288 8) w h k.toNat) := ev
            have eu' : u = firstV (fun h => whereP (m 288) p (m 288 (25 + p)) false (m 288 8) w h k.toNat) := eu
            by_cases hu : u = -1
            · rw [if_neg (by omega)]
              exact ok_some (aq0 hI hV hp.1 hp.2 (by unfold costV; rw [if_pos (.inr (by rw [← eu]; exact hu))]) e2 F2)
            · rw [if_pos hu, w32_id (by omega) (by omega)]
              exact ok_some (aq0 hI hV hp.1 hp.2 (by unfold costV; rw [← ev, ← eu, if_neg (by omega)]) e2 F2)
        · rw [if_neg hw, if_neg hw]; exact ok_some (aq1 hI (by decide))
      · rw [if_neg hk, if_neg hk]; exact ok_some (aq1 hI (by decide))
    · rw [if_neg hp, if_neg hp]; exact ok_some (aq1 hI (by decide))
  · by_cases hp : (0 ≤ p ∧ p < m 288 3) <;> by_cases hk : (0 ≤ k ∧ k < m 288 1 * m 288 2) <;> by_cases hw : (0 ≤ w ∧ w ≤ 1) <;> simp [hp, hk, hw]
  · by_cases hp : (0 ≤ p ∧ p < m 288 3) <;> by_cases hk : (0 ≤ k ∧ k < m 288 1 * m 288 2) <;> by_cases hw : (0 ≤ w ∧ w ≤ 1) <;> simp [hp, hk, hw]
  · rw [← e] at hV ⊢
    unfold fX12_costs
    have e0 := m_isAloneOut (p := p) (w := w) (k := k) (m := m1) rfl hV
    by_cases hp : 0 ≤ p ∧ p < m1 288 3
    · by_cases hk : 0 ≤ k ∧ k < m1 288 1 * m1 288 2
      · by_cases hw : 0 ≤ w ∧ w ≤ 1
        · simp only [if_pos (show (0 ≤ p ∧ p < m1 288 3) ∧ (0 ≤ k ∧ k < m1 288 1 * m1 288 2) ∧ (0 ≤ w ∧ w ≤ 1) from ⟨hp, hk, hw⟩), if_pos hp, if_pos hk, if_pos hw] at e0 ⊢
          rw [e0, bW_some, if_pos rfl]
          have l3 := hV.1.2.1
          have hP := own_pair hV (show c ≤ 1000000 by omega) hp.1 hp.2
          have hK0 : up m1 287 4 0 288 = m1 288 := up_cell (by decide)
          obtain ⟨h4, hN, hF0⟩ := am_thrown (m := m1) (k := 0)
          generalize up m1 287 4 0 = m2 at *
          refine ok_bV (m_laysOwn hK0 hV (by omega) hp.1 hp.2) ?_
          rintro m3 ⟨a1, a2, a3, a4⟩
          have hK3 := (a4 288 (by decide)).trans hK0
          refine ok_bW (m_aloneOf hK3 hP a1 a2 hw.1 hw.2 hk.1 hk.2) ?_
          rintro v m4 ⟨b1, b3⟩
          simp only at b1 b3
          have hK4 : m4 288 = m1 288 := (b3 288 (by decide)).trans hK3
          simp only [rd_eq, jn_eq]
          rw [w32_id (by omega) (by omega), chk_of (by omega), hK4]
          have := m_laysHours (p := p) (rope := m1 288 (25 + p)) (rocks := m1 288 8) (tied := false) hK4 hP
          rw [show (if false = true then (1 : Int) else 0) = 0 from rfl] at this
          refine ok_bV this ?_
          rintro m5 ⟨d1, d2, d3, d4⟩
          refine ok_bW (m_aloneOf ((d4 288 (by decide)).trans hK4) hP d1 d2 hw.1 hw.2 hk.1 hk.2) ?_
          rintro u m6 ⟨e1, e3⟩
          simp only at e1 e3
          have ev : v = aloneV (m1 288) p (m1 288 (25 + p)) (tied0 (m1 288) p) (m1 288 8) w k := firstV_eq b1
          have eu : u = aloneV (m1 288) p (m1 288 (25 + p)) false (m1 288 8) w k := firstV_eq e1
          have rv := firstV_rg (fun h => whereP (m1 288) p (m1 288 (25 + p)) (tied0 (m1 288) p) (m1 288 8) w h k.toNat)
          have ru := firstV_rg (fun h => whereP (m1 288) p (m1 288 (25 + p)) false (m1 288 8) w h k.toNat)
          have ev' : v = firstV (fun h => whereP (m1 288) p (m1 288 (25 + p)) (tied0 (m1 288) p) (m1 288 8) w h k.toNat) := ev
          have eu' : u = firstV (fun h => whereP (m1 288) p (m1 288 (25 + p)) false (m1 288 8) w h k.toNat) := eu
          have fin : ∀ x, x = costV (m1 288) p w k → Ok (some (x, m6)) (AM 0 (fun v => v = costV (m1 288) p w k) m1) := fun x hx => ok_some (am0 h4 hN hF0 (fun i hi => by rw [e3 287 (by decide), d3 i hi, b3 287 (by decide), a3 i hi]) (fr_trans (fr_mono' a4 (by decide)) (fr_trans (fr_mono' b3 (by decide)) (fr_trans (fr_mono' d4 (by decide)) (fr_mono' e3 (by decide))))) hx)
          by_cases hv : v = -1
          · rw [if_pos hv]; exact fin _ (by unfold costV; rw [if_pos (.inl (by rw [← ev]; exact hv))])
          · rw [if_neg hv]
            by_cases hu : u = -1
            · rw [if_neg (by omega)]; exact fin _ (by unfold costV; rw [if_pos (.inr (by rw [← eu]; exact hu))])
            · rw [if_pos hu, w32_id (by omega) (by omega)]; exact fin _ (by unfold costV; rw [← ev, ← eu, if_neg (by omega)])
        · simp only [if_neg (show ¬ ((0 ≤ p ∧ p < m1 288 3) ∧ (0 ≤ k ∧ k < m1 288 1 * m1 288 2) ∧ (0 ≤ w ∧ w ≤ 1)) from fun q => hw q.2.2), if_pos hp, if_pos hk, if_neg hw] at e0 ⊢
          rw [e0, bW_some, if_neg (by decide)]
          exact ok_some (am1 (by decide))
      · simp only [if_neg (show ¬ ((0 ≤ p ∧ p < m1 288 3) ∧ (0 ≤ k ∧ k < m1 288 1 * m1 288 2) ∧ (0 ≤ w ∧ w ≤ 1)) from fun q => hk q.2.1), if_pos hp, if_neg hk] at e0 ⊢
        rw [e0, bW_some, if_neg (by decide)]
        exact ok_some (am1 (by decide))
    · simp only [if_neg (show ¬ ((0 ≤ p ∧ p < m1 288 3) ∧ (0 ≤ k ∧ k < m1 288 1 * m1 288 2) ∧ (0 ≤ w ∧ w ≤ 1)) from fun q => hp q.1), if_neg hp] at e0 ⊢
      rw [e0, bW_some, if_neg (by decide)]
      exact ok_some (am1 (by decide))
/-- the least rope, from r on, so many -/
noncomputable def ropeV (K : Int → Int) (p j k : Int) : Nat → Int → Int
  | 0, _ => -1
  | d + 1, r => if wayV K p r (tied0 K p) (K 8) j k = -1 then ropeV K p j k d (r + 1) else r
theorem ropeV_yes {K : Int → Int} {p j k r : Int} {d : Nat} (h : wayV K p r (tied0 K p) (K 8) j k ≠ -1) : ropeV K p j k (d + 1) r = r := by
  show (if _ then _ else _) = _
  rw [if_neg h]
theorem ropeV_no {K : Int → Int} {p j k r : Int} {d : Nat} (h : wayV K p r (tied0 K p) (K 8) j k = -1) : ropeV K p j k (d + 1) r = ropeV K p j k d (r + 1) := by
  show (if _ then _ else _) = _
  rw [if_pos h]
theorem d_leastRope {c p j k : Int} {m : Mem} (hI : Inv c m) (c0 : 0 ≤ c) (c1 : c ≤ 900000) : Two1 c (fL_leastRope p j k) (fX12_leastRope p j k) m := by
  obtain ⟨hR, hV, hn⟩ := inv_parts hI
  refine two_a (x := fX11_leastRope p j k) (k := if (0 ≤ p ∧ p < m 288 3) ∧ (0 ≤ j ∧ j < m 288 1 * m 288 2) ∧ (0 ≤ k ∧ k < m 288 1 * m 288 2) then 0 else 3) (k' := if (0 ≤ p ∧ p < m 288 3) ∧ (0 ≤ j ∧ j < m 288 1 * m 288 2) ∧ (0 ≤ k ∧ k < m 288 1 * m 288 2) then 0 else 1) (Φ := fun v => v = ropeV (m 288) p j k 20 1) hI c0 (fun a b ha hb => ha.trans hb.symm) ?_ (fun _ _ => rfl) ?_ ?_ (fun m1 hI1 e _ _ _ => ?_)
  · unfold fX11_leastRope
    rw [c_needWalk hR hV, bX_if (by decide)]
    by_cases hp : (0 ≤ p ∧ p < m 288 3) ∧ (0 ≤ j ∧ j < m 288 1 * m 288 2) ∧ (0 ≤ k ∧ k < m 288 1 * m 288 2)
    · rw [if_pos hp, if_pos hp]
      have l3 := hV.1.2.1
      refine ok_bV (c_begin hR hV hp.1.1 hp.1.2 hn) ?_
      rintro m1 ⟨a1, a2⟩
      refine lp_ok (fun (r : Int) (mm : Mem) => (1 ≤ r ∧ r ≤ 21) ∧ ropeV (m 288) p j k (21 - r).toNat r = ropeV (m 288) p j k 20 1 ∧ (∃ r0, AhR (m 288) p r0 (tied0 (m 288) p) (m 288 8) mm) ∧ Fr WD m mm) (fun r _ => (21 - r).toNat) ⟨by omega, rfl, ⟨_, a1⟩, fr_mono' a2 (by decide)⟩ (by decide) ?_
      rintro G r mm ⟨⟨r1, r21⟩, hv, ⟨r0, hA⟩, hF⟩ ih
      have hR1 : CR (m 288) mm := CR_fr hR (fun o z1 z2 => hF o (by unfold WD; simp; omega))
      by_cases hx : r = 21
      · subst hx
        rw [if_pos (by decide)]
        exact ok_some (aq0 hI hV hp.1.1 hp.1.2 hv hA hF)
      · rw [if_neg (by omega), c_isParted hR1 hp.1.1 (by omega), bR_some]
        simp only [jn_eq, rd_eq]
        have go : ∀ t : Bool, t = tied0 (m 288) p → Ok (bV (fX0_bind r (if t then 1 else 0) mm) fun mm => bW (fX0_hoursTo j k (mm 20 3) mm) fun x7 mm => (if x7 = -1 then G (w32 (r + 1)) mm else some (0, r, mm))) (AQ 0 (fun v => v = ropeV (m 288) p j k 20 1) m) := by
          intro t ht
          refine ok_bV (c_bind (rope' := r) (t' := t) hA) ?_
          rintro m2 ⟨d1, d2⟩
          rw [ht] at d1
          have hR2 : CR (m 288) m2 := CR_fr hR1 (fun o z1 z2 => d2 o (by simp; omega))
          rw [hR2.1.1.2.2.2.1]
          refine ok_bW (c_hoursTo hR2 ⟨hV, by omega, hp.1, by omega⟩ d1 hp.2.1.1 hp.2.1.2 hp.2.2.1 hp.2.2.2) ?_
          rintro v m3 ⟨b1, _, b2, b3⟩
          simp only at b1 b2 b3
          have ev : v = wayV (m 288) p r (tied0 (m 288) p) (m 288 8) j k := firstV_eq b1
          have F3 := fr_trans hF (fr_trans (fr_mono' (T := WD) d2 (by decide)) (fr_mono' b3 (by decide)))
          rw [show (21 - r).toNat = (21 - (r + 1)).toNat + 1 by omega] at hv
          by_cases hz : v = -1
          · rw [if_pos hz, w32_id (by omega) (by omega)]
            rw [ropeV_no (by rw [← ev]; exact hz)] at hv
            exact ih _ m3 ⟨by omega, hv, ⟨_, b2⟩, F3⟩ (by show (21 - (r + 1)).toNat < (21 - r).toNat; omega)
          · rw [if_neg hz]
            rw [ropeV_yes (by rw [← ev]; exact hz)] at hv
            exact ok_some (aq0 hI hV hp.1.1 hp.1.2 hv b2 F3)
        cases htb : tb (m 288 21) p.toNat
        · rw [if_neg (by simp)]; exact go true (by simp [tied0, htb])
        · rw [if_pos (by simp)]; exact go false (by simp [tied0, htb])
    · rw [if_neg hp, if_neg hp]
      exact ok_some (aq1 hI (by decide))
  · by_cases hp : (0 ≤ p ∧ p < m 288 3) ∧ (0 ≤ j ∧ j < m 288 1 * m 288 2) ∧ (0 ≤ k ∧ k < m 288 1 * m 288 2) <;> simp [hp]
  · by_cases hp : (0 ≤ p ∧ p < m 288 3) ∧ (0 ≤ j ∧ j < m 288 1 * m 288 2) ∧ (0 ≤ k ∧ k < m 288 1 * m 288 2) <;> simp [hp]
  · rw [← e] at hV ⊢
    unfold fX12_leastRope
    rw [m_isWayOut rfl hV, bW_some]
    by_cases hp : (0 ≤ p ∧ p < m1 288 3) ∧ (0 ≤ j ∧ j < m1 288 1 * m1 288 2) ∧ (0 ≤ k ∧ k < m1 288 1 * m1 288 2)
    · rw [if_pos hp, if_pos rfl]
      have l3 := hV.1.2.1
      have hK0 : up m1 287 4 0 288 = m1 288 := up_cell (by decide)
      obtain ⟨h4, hN, hF0⟩ := am_thrown (m := m1) (k := 0)
      generalize up m1 287 4 0 = m2 at *
      refine lp_ok (fun (r : Int) (mm : Mem) => (1 ≤ r ∧ r ≤ 21) ∧ ropeV (m1 288) p j k (21 - r).toNat r = ropeV (m1 288) p j k 20 1 ∧ (∀ i, i ≠ 28 → mm 287 i = m2 287 i) ∧ Fr (287 :: 298 :: LC) m2 mm) (fun r _ => (21 - r).toNat) ⟨by omega, rfl, fun _ _ => rfl, fr_refl⟩ (by decide) ?_
      rintro G r mm ⟨⟨r1, r21⟩, hv, h28, hF⟩ ih
      have hK1 : mm 288 = m1 288 := (hF 288 (by decide)).trans hK0
      by_cases hx : r = 21
      · subst hx
        rw [if_pos (by decide)]
        exact ok_some (am0 h4 hN hF0 h28 (fr_mono' hF (by decide)) hv)
      · simp only [rd_eq, jn_eq]
        rw [if_neg (by omega), hK1, m_isParted hK1 hp.1.1 (by omega), bR_some]
        have go : ∀ t : Bool, t = tied0 (m1 288) p → Ok (bV (fX12_laysHours p r (m1 288 8) (if t then 1 else 0) mm) fun mm => bW (fX12_wayOf p j k mm) fun x8 mm => (if x8 = -1 then G (w32 (r + 1)) mm else some (r, mm))) (AM 0 (fun v => v = ropeV (m1 288) p j k 20 1) m1) := by
          intro t ht
          have hP : PairV c (m1 288) p r := ⟨hV, by omega, hp.1, by omega⟩
          refine ok_bV (m_laysHours (rocks := m1 288 8) hK1 hP) ?_
          rintro m3 ⟨d1, d2, d3, d4⟩
          rw [ht] at d1
          refine ok_bW (m_wayOf ((d4 288 (by decide)).trans hK1) hP d1 d2 hp.2.1.1 hp.2.1.2 hp.2.2.1 hp.2.2.2) ?_
          rintro v m4 ⟨b1, _, b3⟩
          simp only at b1 b3
          have ev : v = wayV (m1 288) p r (tied0 (m1 288) p) (m1 288 8) j k := firstV_eq b1
          have F3 := fr_trans hF (fr_trans (fr_mono' (T := 287 :: 298 :: LC) d4 (by decide)) (fr_mono' b3 (by decide)))
          have g28 : ∀ i, i ≠ 28 → m4 287 i = m2 287 i := fun i hi => by rw [b3 287 (by decide), d3 i hi, h28 i hi]
          rw [show (21 - r).toNat = (21 - (r + 1)).toNat + 1 by omega] at hv
          by_cases hz : v = -1
          · rw [if_pos hz, w32_id (by omega) (by omega)]
            rw [ropeV_no (by rw [← ev]; exact hz)] at hv
            exact ih _ m4 ⟨by omega, hv, g28, F3⟩ (by show (21 - (r + 1)).toNat < (21 - r).toNat; omega)
          · rw [if_neg hz]
            rw [ropeV_yes (by rw [← ev]; exact hz)] at hv
            exact ok_some (am0 h4 hN hF0 g28 (fr_mono' F3 (by decide)) hv)
        cases htb : tb (m1 288 21) p.toNat
        · rw [if_neg (by simp)]; exact go true (by simp [tied0, htb])
        · rw [if_pos (by simp)]; exact go false (by simp [tied0, htb])
    · rw [if_neg hp, if_neg (by decide)]
      exact ok_some (am1 (by decide))

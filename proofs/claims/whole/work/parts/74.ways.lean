/-! ===== D54: ways ===== -/
theorem c_talStep {K : Int → Int} {c p rope rocks w : Int} {tied : Bool} {wf : Nat → Int} {h : Nat} {m : Mem} (hR : CR K m) (hP : PairV c K p rope) (hA : AhR K p rope tied rocks m) (h8 : h < 8) (hw : w = wf h) (hT : TalR K p rope tied rocks wf h m) :
    Ok (fX7_goOn ((h : Int) + 1) w m) (fun m' => TalR K p rope tied rocks wf (h + 1) m' ∧ AhR K p rope tied rocks m' ∧ Fr [18, 36, 37, 78, 79, 80, 96, 97, 98, 99] m m') := by
  obtain ⟨a, b, hab, ea, eb, e3, ev⟩ := hT
  have hT := TabV_cong ev (cntN_tab (rope := rope) (rocks := rocks) (tied := tied) (wf := wf) hP.1 hP.2.2.1.1 hP.2.2.1.2 h (by omega))
  refine ok_imp (c_goOnT (w := w) hR hP.1 hP.2.1 hP.2.2.1.1 hP.2.2.1.2 hP.2.2.2.1 hP.2.2.2.2 hA (by omega) (by omega) ea eb hab e3 hT.1 hT.2.1) ?_
  rintro m' ⟨⟨d1, d2, d3⟩, d4, d5, d6⟩
  refine ⟨⟨b, a, by omega, d1, d2, d3, fun q q0 q1 => ?_⟩, d5, d6⟩
  rw [d4 q q0 q1, allT_cong 625 ev, hw]
  rfl
theorem m_begins {K : Int → Int} {c p : Int} {wf : Nat → Int} {m : Mem} (hK : m 288 = K) (hV : CV c K) (c1 : c ≤ 1000000) (p0 : 0 ≤ p) (p1 : p < K 3) :
    Ok (fX12_beginsCount p m) (fun m' => (LaidR K p (K (25 + p)) (tied0 K p) m' ∧ m' 287 28 = K 8) ∧ (∀ q, 0 ≤ q → q < 625 → m' 303 q = cntN K p (K (25 + p)) (tied0 K p) (K 8) wf 0 q) ∧ (∀ i, i ≠ 28 → m' 287 i = m 287 i) ∧ Fr (287 :: 303 :: LC) m m') := by
  unfold fX12_beginsCount
  refine ok_bV (m_laysOwn hK hV c1 p0 p1) ?_
  rintro m1 ⟨a1, a2, a3, a4⟩
  simp only [rd_eq, wr_eq, jn_eq]
  refine lp_for 625 (fun i mm => 0 ≤ i ∧ (∀ q, 0 ≤ q → q < i → mm 303 q = tab0 K p q) ∧ Fr [303] m1 mm) ⟨by omega, fun q _ _ => by omega, fr_refl⟩ (by omega) (by omega) ?_ ?_
  · rintro G i mm hi ⟨i0, hz, hF⟩ ih
    rw [if_neg (by omega), m_bothNow ((hF 288 (by decide)).trans ((a4 288 (by decide)).trans hK)) hV p0 p1, bR_some, w32_id (x := i + 1) (by omega) (by omega)]
    have next : ∀ x, x = tab0 K p i → Ok (G (i + 1) (up mm 303 i x)) (fun m' => (LaidR K p (K (25 + p)) (tied0 K p) m' ∧ m' 287 28 = K 8) ∧ (∀ q, 0 ≤ q → q < 625 → m' 303 q = cntN K p (K (25 + p)) (tied0 K p) (K 8) wf 0 q) ∧ (∀ i, i ≠ 28 → m' 287 i = m 287 i) ∧ Fr (287 :: 303 :: LC) m m') := by
      intro x hx
      refine ih _ ⟨by omega, fun q q0 q1 => ?_, fr_up (by simp) hF⟩
      by_cases e : q = i
      · subst e; rw [up_same]; exact hx
      · rw [up_idx e]; exact hz q q0 (by omega)
    by_cases e : i = 25 * K (13 + p) + K (17 + p)
    · rw [if_neg (fun z => z e), chk_of (by omega)]
      exact next 1 (if_pos e).symm
    · rw [if_pos e, chk_of (by omega)]
      exact next 0 (if_neg e).symm
  · rintro G mm ⟨_, hz, hF⟩
    rw [if_pos (by decide)]
    exact ok_some ⟨⟨laid_fr a1 (hF 296 (by decide)) (hF 299 (by decide)) (hF 300 (by decide)), by rw [hF 287 (by decide)]; exact a2⟩, hz, fun i hi => by rw [hF 287 (by decide)]; exact a3 i hi, fr_trans (fr_mono' a4 (by decide)) (fr_mono' hF (by decide))⟩
theorem tal_ptr {K : Int → Int} {p rope rocks : Int} {tied : Bool} {wf : Nat → Int} {h : Nat} {m m0 : Mem} (hT : TalR K p rope tied rocks wf h m) (hp : PtrR m0) (h100 : m 100 = m0 100) : PtrR m := by
  obtain ⟨a, b, hab, ea, eb, _⟩ := hT
  refine ⟨?_, by rw [h100]; exact hp.2⟩
  rcases hab with ⟨rfl, rfl⟩ | ⟨rfl, rfl⟩
  · exact .inl ⟨ea, eb⟩
  · exact .inr ⟨ea, eb⟩
theorem d_ways {c p j k t : Int} {m : Mem} (hI : Inv c m) (c0 : 0 ≤ c) (c1 : c ≤ 900000) : Two1 c (fL_ways p j k t) (fX12_ways p j k t) m := by
  obtain ⟨hR, hV, hn⟩ := inv_parts hI
  have hptr := hI.2.2.2.2.2.2.2
  refine two_a (x := fX11_ways p j k t) (k := if (0 ≤ p ∧ p < m 288 3) ∧ (0 ≤ j ∧ j < m 288 1 * m 288 2) ∧ (0 ≤ k ∧ k < m 288 1 * m 288 2) then (if 0 ≤ t ∧ t ≤ 8 then 0 else 1) else 3) (k' := if (0 ≤ p ∧ p < m 288 3) ∧ (0 ≤ j ∧ j < m 288 1 * m 288 2) ∧ (0 ≤ k ∧ k < m 288 1 * m 288 2) then (if 0 ≤ t ∧ t ≤ 8 then 0 else 2) else 1) (Φ := fun v => v = cntN (m 288) p (m 288 (25 + p)) (tied0 (m 288) p) (m 288 8) (fun _ => -1) t.toNat (25 * j + k)) hI c0 (fun a b ha hb => ha.trans hb.symm) ?_ (fun _ _ => rfl) ?_ ?_ (fun m1 hI1 e _ _ _ => ?_)
  · unfold fX11_ways
    rw [c_needWalk hR hV, bX_if (by decide)]
    by_cases hp : (0 ≤ p ∧ p < m 288 3) ∧ (0 ≤ j ∧ j < m 288 1 * m 288 2) ∧ (0 ≤ k ∧ k < m 288 1 * m 288 2)
    · rw [if_pos hp, if_pos hp, c_needWithin, bX_if (by decide)]
      by_cases ht : 0 ≤ t ∧ t ≤ 8
      · rw [if_pos ht, if_pos ht]
        have l3 := hV.1.2.1
        have N25 := (pl_25 hV.1).2
        have hP := own_pair hV (show c ≤ 1000000 by omega) hp.1.1 hp.1.2
        refine ok_bV (c_begin hR hV hp.1.1 hp.1.2 hn) ?_
        rintro m1 ⟨a1, a2⟩
        have hR1 : CR (m 288) m1 := CR_fr hR (fun o a b => a2 o (by simp; omega))
        have hp1 : PtrR m1 := PtrR_fr hptr (a2 96 (by decide)) (a2 100 (by decide))
        refine ok_bV (c_startT (wf := fun _ => -1) hR1 hV hp.1.1 hp.1.2 a1 hp1) ?_
        rintro m2 ⟨b1, b2⟩
        have hA2 : AhR (m 288) p (m 288 (25 + p)) (tied0 (m 288) p) (m 288 8) m2 := AhR_fr a1 (b2 18 (by decide)) (b2 78 (by decide)) (b2 79 (by decide)) (b2 80 (by decide)) (b2 81 (by decide))
        refine lp_ok (fun (s : Int) (mm : Mem) => ∃ h : Nat, s = (h : Int) + 1 ∧ (h : Int) ≤ t ∧ TalR (m 288) p (m 288 (25 + p)) (tied0 (m 288) p) (m 288 8) (fun _ => -1) h mm ∧ AhR (m 288) p (m 288 (25 + p)) (tied0 (m 288) p) (m 288 8) mm ∧ mm 100 = m 100 ∧ Fr AS m mm) (fun s _ => (t + 1 - s).toNat) ⟨0, by omega, by omega, b1, hA2, (b2 100 (by decide)).trans (a2 100 (by decide)), fr_trans (fr_mono' a2 (by decide)) (fr_mono' b2 (by decide))⟩ (by omega) ?_
        rintro G s mm ⟨h, rfl, hh, hT, hA, h100, hF⟩ ih
        by_cases hz : (h : Int) = t
        · rw [if_pos (by omega)]
          have hT' := hT
          obtain ⟨a, b, hab, ea, eb, _, ev⟩ := hT'
          have la : layL[a]? = some (.inr (1, 625)) := by
            rcases hab with ⟨rfl, rfl⟩ | ⟨rfl, rfl⟩ <;> decide +kernel
          unfold fX7_at
          simp only [rd_eq, rdn_eq]
          rw [ea, Int.toNat_natCast, chk_of la, w32_id (x := j * 25) (by omega) (by omega), w32_id (by omega) (by omega), chk_of (by omega), bR_some, show j * 25 + k = 25 * j + k by omega, ev _ (by omega) (by omega), show h = t.toNat by omega]
          exact ok_some ⟨rfl, fun _ => rfl, hF, near_of hV hp.1.1 hp.1.2 hA, tal_ptr hT hptr h100⟩
        · rw [if_neg (by omega)]
          have hR2 : CR (m 288) mm := CR_fr hR (fun o z1 z2 => hF o (by unfold AS; simp; omega))
          refine ok_bV (c_talStep hR2 hP hA (by omega) rfl hT) ?_
          rintro m3 ⟨d1, d2, d3⟩
          rw [w32_id (by omega) (by omega)]
          exact ih _ m3 ⟨h + 1, by omega, by omega, d1, d2, (d3 100 (by decide)).trans h100, fr_trans hF (fr_mono' d3 (by decide))⟩ (by omega)
      · rw [if_neg ht, if_neg ht]; exact ok_some (aq1 hI (by decide))
    · rw [if_neg hp, if_neg hp]; exact ok_some (aq1 hI (by decide))
  · by_cases hp : (0 ≤ p ∧ p < m 288 3) ∧ (0 ≤ j ∧ j < m 288 1 * m 288 2) ∧ (0 ≤ k ∧ k < m 288 1 * m 288 2) <;> by_cases ht : (0 ≤ t ∧ t ≤ 8) <;> simp [hp, ht]
  · by_cases hp : (0 ≤ p ∧ p < m 288 3) ∧ (0 ≤ j ∧ j < m 288 1 * m 288 2) ∧ (0 ≤ k ∧ k < m 288 1 * m 288 2) <;> by_cases ht : (0 ≤ t ∧ t ≤ 8) <;> simp [hp, ht]
  · rw [← e] at hV ⊢
    unfold fX12_ways
    rw [m_isWayOut rfl hV, bW_some]
    simp only [rd_eq, wr_eq, jn_eq, m_within, bR_some, up_same]
    by_cases hp : (0 ≤ p ∧ p < m1 288 3) ∧ (0 ≤ j ∧ j < m1 288 1 * m1 288 2) ∧ (0 ≤ k ∧ k < m1 288 1 * m1 288 2)
    · simp only [if_pos hp]
      rw [if_neg (show ¬ ¬ True from fun q => q trivial)]
      by_cases ht : 0 ≤ t ∧ t ≤ 8
      · rw [if_pos ht, if_pos ht, if_pos (show ¬ (1 : Int) = 0 by decide), if_pos (by decide)]
        have l3 := hV.1.2.1
        have hw := wide_of hV.1 hp.1.1 hp.1.2
        have N25 := (pl_25 hV.1).2
        have hK0 : up m1 287 4 0 288 = m1 288 := up_cell (by decide)
        obtain ⟨h4, hN, hF0⟩ := am_thrown (m := m1) (k := 0)
        generalize up m1 287 4 0 = m2 at *
        refine ok_bV (m_begins (wf := fun _ => -1) hK0 hV (by omega) hp.1.1 hp.1.2) ?_
        rintro m3 ⟨⟨a1, a2⟩, a3, a4, a5⟩
        refine lp_ok (fun (s : Int) (mm : Mem) => ∃ h : Nat, s = (h : Int) + 1 ∧ (h : Int) ≤ t ∧ (∀ q, 0 ≤ q → q < 625 → mm 303 q = cntN (m1 288) p (m1 288 (25 + p)) (tied0 (m1 288) p) (m1 288 8) (fun _ => -1) h q) ∧ Fr [303, 304] m3 mm) (fun s _ => (t + 1 - s).toNat) ⟨0, by omega, by omega, a3, fr_refl⟩ (by omega) ?_
        rintro G s mm ⟨h, rfl, hh, hv, hF⟩ ih
        by_cases hz : (h : Int) = t
        · rw [if_pos (by omega), w32_id (x := 25 * j) (by omega) (by omega), w32_id (by omega) (by omega), chk_of (by omega), hv _ (by omega) (by omega), show h = t.toNat by omega]
          exact ok_some (am0 h4 hN hF0 (fun i hi => by rw [hF 287 (by decide)]; exact a4 i hi) (fr_trans (fr_mono' a5 (by decide)) (fr_mono' hF (by decide))) rfl)
        · rw [if_neg (by omega)]
          refine ok_bV (m_countsOn (rocks := m1 288 8) (w := -1) hw.1.1 hw.1.2 hw.2.1 hw.2.2 (laid_fr a1 (hF 296 (by decide)) (hF 299 (by decide)) (hF 300 (by decide))) (by rw [hF 287 (by decide)]; exact a2) (by omega) (by omega)) ?_
          rintro m4 ⟨d1, d2⟩
          rw [w32_id (by omega) (by omega)]
          refine ih _ m4 ⟨h + 1, by omega, by omega, fun q q0 q1 => ?_, fr_trans hF d2⟩ (by omega)
          rw [d1 q q0 q1, allT_cong 625 hv]; rfl
      · rw [if_neg ht, if_neg ht, if_neg (show ¬ ¬ (0 : Int) = 0 from fun q => q rfl), if_neg (by decide)]
        exact ok_some (am2 (by decide))
    · simp only [if_neg hp]
      rw [if_pos (show ¬ (1 : Int) = 0 by decide), if_neg (by decide)]
      exact ok_some (am1 (by decide))

/-! ===== D59: fits ===== -/
def wfT (n : Int → Int) (t : Int) : Nat → Int := fun h => n (30 * t + (h : Int))
theorem bX_ne {k v : Int} {m : Mem} {f : Mem → Option (Int × Int × Mem)} (hk : k ≠ 0) : bX (some (k, v, m)) f = some (k, 0, m) := if_neg hk
theorem thr_h {k : Int} (hk : k = 0 ∨ k = 1 ∨ k = 2 ∨ k = 3) (h0 : k ≠ 0) : thrM k ≠ 0 ∧ ∀ mm : Mem, (if k = 1 then some ((3 : Int), mm) else if k = 2 then some (2, mm) else if k = 3 then some (1, mm) else none) = some (thrM k, mm) := by
  rcases hk with e | e | e | e
  · exact absurd e h0
  all_goals (subst e; exact ⟨by decide, fun _ => rfl⟩)
theorem thr_ne {k : Int} (h0 : k ≠ 0) : thrM k ≠ 0 ∧ ¬ thrM k ≤ 0 := by
  unfold thrM
  repeat' split
  all_goals first | omega | exact absurd (by assumption) h0
theorem c_countSeen {c p t : Int} {m : Mem} (hI : Inv c m) (c0 : 0 ≤ c) (c1 : c ≤ 900000) (hs : seenC (m 288) (m 309) (m 310) (m 311) p t 8 = 0) :
    Ok (fX11_countSeen p t m) (fun m' => TalR (m 288) p (m 288 (25 + p)) (tied0 (m 288) p) (m 288 8) (wfT (m 311) t) (m 310 t).toNat m' ∧ AhR (m 288) p (m 288 (25 + p)) (tied0 (m 288) p) (m 288 8) m' ∧ m' 100 = m 100 ∧ Fr AS m m') := by
  obtain ⟨hR, hV, hn⟩ := inv_parts hI
  have hptr := hI.2.2.2.2.2.2.2
  have hT := hI.2.2.2.2.2.1
  obtain ⟨hp, ht, hm, hb, hsn⟩ := seenC_inv hs
  obtain ⟨r1, r2, r3, r4, r5⟩ := (tray_miss hT ht.1 ht.2).2 hm
  have l3 := hV.1.2.1
  have N25 := (pl_25 hV.1).2
  have hP := own_pair hV (show c ≤ 1000000 by omega) hp.1 hp.2
  unfold fX11_countSeen
  refine ok_bV (c_begin hR hV hp.1 hp.2 hn) ?_
  rintro m1 ⟨a1, a2⟩
  have hR1 : CR (m 288) m1 := CR_fr hR (fun o a b => a2 o (by simp; omega))
  have hp1 : PtrR m1 := PtrR_fr hptr (a2 96 (by decide)) (a2 100 (by decide))
  refine ok_bV (c_startT (wf := wfT (m 311) t) hR1 hV hp.1 hp.2 a1 hp1) ?_
  rintro m2 ⟨b1, b2⟩
  have hA2 : AhR (m 288) p (m 288 (25 + p)) (tied0 (m 288) p) (m 288 8) m2 := AhR_fr a1 (b2 18 (by decide)) (b2 78 (by decide)) (b2 79 (by decide)) (b2 80 (by decide)) (b2 81 (by decide))
  have F2 : Fr AS m m2 := fr_trans (fr_mono' a2 (by decide)) (fr_mono' b2 (by decide))
  simp only [rd_eq]
  rw [chk_of (by omega), F2 95 (by decide), r4]
  refine lp_ok (fun (s : Int) (mm : Mem) => ∃ h : Nat, s = (h : Int) + 1 ∧ (h : Int) ≤ m 310 t ∧ TalR (m 288) p (m 288 (25 + p)) (tied0 (m 288) p) (m 288 8) (wfT (m 311) t) h mm ∧ AhR (m 288) p (m 288 (25 + p)) (tied0 (m 288) p) (m 288 8) mm ∧ mm 100 = m 100 ∧ Fr AS m mm) (fun s _ => (m 310 t + 1 - s).toNat) ⟨0, by omega, by omega, b1, hA2, (b2 100 (by decide)).trans (a2 100 (by decide)), F2⟩ (by omega) ?_
  rintro G s mm ⟨h, rfl, hh, hTl, hA, h100, hF⟩ ih
  by_cases hz : (h : Int) = m 310 t
  · rw [if_pos (by omega)]
    exact ok_some ⟨by rw [show (m 310 t).toNat = h by omega]; exact hTl, hA, h100, hF⟩
  · have sn := hsn (h : Int) (by omega) (by omega)
    rw [if_neg (by omega), w32_id (x := (h : Int) + 1 - 1) (by omega) (by omega), show (h : Int) + 1 - 1 = h by omega, c_at ht.1 ht.2 (by omega) (by omega), bR_some, hF (90 + t.toNat) (by unfold AS; simp; omega), (r5 (h : Int) (by omega) (by omega)).1, w32_id (x := m 311 (30 * t + (h : Int))) (by omega) (by omega)]
    have hR2 : CR (m 288) mm := CR_fr hR (fun o z1 z2 => hF o (by unfold AS; simp; omega))
    refine ok_bV (c_talStep hR2 hP hA (by omega) rfl hTl) ?_
    rintro m3 ⟨d1, d2, d3⟩
    rw [w32_id (by omega) (by omega)]
    exact ih _ m3 ⟨h + 1, by omega, by omega, d1, d2, (d3 100 (by decide)).trans h100, fr_trans hF (fr_mono' d3 (by decide))⟩ (by omega)
theorem sum_mono {g : Int → Int} {n : Nat} : ∀ d : Nat, (∀ q, 0 ≤ q → q < ((n + d : Nat) : Int) → 0 ≤ g q) → sumF g n ≤ sumF g (n + d)
  | 0, _ => Int.le_refl _
  | d + 1, h => by
    have i := sum_mono (g := g) (n := n) d (fun q z0 z1 => h q z0 (by omega))
    have := h ((n + d : Nat) : Int) (by omega) (by omega)
    show sumF g n ≤ sumF g (n + d) + g ((n + d : Nat) : Int)
    omega
theorem m_countsFits {K A B N : Int → Int} {c p t : Int} {m : Mem} (hK : m 288 = K) (hV : CV c K) (c1 : c ≤ 1000000) (h310 : m 310 = B) (h311 : m 311 = N) (hs : seenC K A B N p t 8 = 0) :
    Ok (fX12_countsFits p t m) (fun r => r.1 = sumF (cntN K p (K (25 + p)) (tied0 K p) (K 8) (wfT N t) (B t).toNat) 625 ∧ (∀ q, 0 ≤ q → q < 625 → r.2 303 q = cntN K p (K (25 + p)) (tied0 K p) (K 8) (wfT N t) (B t).toNat q) ∧ (∀ i, i ≠ 28 → r.2 287 i = m 287 i) ∧ Fr (287 :: 303 :: 304 :: LC) m r.2) := by
  obtain ⟨hp, ht, hm, hb, hsn⟩ := seenC_inv hs
  have hw := wide_of hV.1 hp.1 hp.2
  have N25 := (pl_25 hV.1).2
  unfold fX12_countsFits
  refine ok_bV (m_begins (wf := wfT N t) hK hV c1 hp.1 hp.2) ?_
  rintro m3 ⟨⟨a1, a2⟩, a3, a4, a5⟩
  simp only [rd_eq]
  have e310 : m3 310 = B := (a5 310 (by decide)).trans h310
  have e311 : m3 311 = N := (a5 311 (by decide)).trans h311
  refine lp_ok (fun (s : Int) (mm : Mem) => ∃ h : Nat, s = (h : Int) ∧ (h : Int) ≤ B t ∧ (∀ q, 0 ≤ q → q < 625 → mm 303 q = cntN K p (K (25 + p)) (tied0 K p) (K 8) (wfT N t) h q) ∧ Fr [303, 304] m3 mm) (fun s _ => (B t - s).toNat) ⟨0, by omega, by omega, a3, fr_refl⟩ (by omega) ?_
  rintro G s mm ⟨h, rfl, hh, hv, hF⟩ ih
  rw [chk_of (by omega), hF 310 (by decide), e310, hF 311 (by decide), e311]
  by_cases hz : (h : Int) = B t
  · rw [if_pos (by omega), show (B t).toNat = h by omega]
    have hT := TabV_cong hv (cntN_tab (rope := K (25 + p)) (rocks := K 8) (tied := tied0 K p) (wf := wfT N t) hV hp.1 hp.2 h (by omega))
    have hB := pow25_le h (by omega)
    refine lp_for2 625 (fun a i m4 => 0 ≤ i ∧ a = sumF (mm 303) i.toNat ∧ m4 = mm) ⟨by omega, rfl, rfl⟩ (by omega) (by omega) ?_ ?_
    · rintro G2 a i m4 hi ⟨i0, rfl, rfl⟩ ih2
      simp only
      have es : sumF (m4 303) (i + 1).toNat = sumF (m4 303) i.toNat + m4 303 i := by
        rw [show (i + 1).toNat = i.toNat + 1 by omega]
        show _ + m4 303 ((i.toNat : Nat) : Int) = _
        rw [Int.toNat_of_nonneg i0]
      have s0 := sum_nn (g := m4 303) (i + 1).toNat (fun q z0 z1 => hT.1 q z0 (by omega))
      have s1 := sum_mono (g := m4 303) (n := (i + 1).toNat) (625 - (i + 1).toNat) (fun q z0 z1 => hT.1 q z0 (by omega))
      rw [show (i + 1).toNat + (625 - (i + 1).toNat) = 625 by omega] at s1
      have s2 := hT.2.2
      rw [if_neg (by omega), chk_of (by omega), w32_id (x := i + 1) (by omega) (by omega), ← es, w64_id (by omega) (by omega)]
      exact ih2 _ _ ⟨by omega, rfl, rfl⟩
    · rintro G2 a m4 ⟨_, ha, hm4⟩
      have hs5 := sum_cong 625 hv
      have e625 : (625 : Int).toNat = 625 := rfl
      rw [e625] at ha
      have ha2 := ha.trans hs5
      clear ha hs5
      subst hm4
      simp only
      rw [if_pos (by decide)]
      exact ok_some ⟨ha2, hv, fun i hi => by show m4 287 i = _; rw [hF 287 (by decide)]; exact a4 i hi, fr_trans (fr_mono' a5 (by decide)) (fr_mono' hF (by decide))⟩
  · rw [if_neg (by omega), w32_id (x := 30 * t) (by omega) (by omega), w32_id (x := 30 * t + (h : Int)) (by omega) (by omega), chk_of (by omega), w32_id (x := (h : Int) + 1) (by omega) (by omega)]
    refine ok_bV (m_countsOn (rocks := K 8) (w := N (30 * t + (h : Int))) hw.1.1 hw.1.2 hw.2.1 hw.2.2 (laid_fr a1 (hF 296 (by decide)) (hF 299 (by decide)) (hF 300 (by decide))) (by rw [hF 287 (by decide)]; exact a2) (by omega) (by omega)) ?_
    rintro m4 ⟨d1, d2⟩
    refine ih _ m4 ⟨h + 1, by omega, by omega, fun q q0 q1 => ?_, fr_trans hF d2⟩ (by omega)
    rw [d1 q q0 q1, allT_cong 625 hv]; rfl
theorem d_fits {c p t : Int} {m : Mem} (hI : Inv c m) (c0 : 0 ≤ c) (c1 : c ≤ 900000) : Two1 c (fL_fits p t) (fX12_fits p t) m := by
  obtain ⟨hR, hV, hn⟩ := inv_parts hI
  have hptr := hI.2.2.2.2.2.2.2
  have hT := hI.2.2.2.2.2.1
  have N25 := pl_25 hV.1
  refine two_a (x := fX11_fits p t) (k := seenC (m 288) (m 309) (m 310) (m 311) p t 8) (k' := thrM (seenC (m 288) (m 309) (m 310) (m 311) p t 8)) (Φ := fun v => v = sumF (cntN (m 288) p (m 288 (25 + p)) (tied0 (m 288) p) (m 288 8) (wfT (m 311) t) (m 310 t).toNat) 625) hI c0 (fun a b ha hb => ha.trans hb.symm) ?_ (fun _ _ => rfl) (fun z => by rw [z]; rfl) (fun z => thr_h seenC_rg z) (fun m1 hI1 e e9 e10 e11 => ?_)
  · unfold fX11_fits
    rw [c_needSeen hR hV hT]
    by_cases hs : seenC (m 288) (m 309) (m 310) (m 311) p t 8 = 0
    · rw [hs, bX_some0]
      obtain ⟨hp, ht, hm, hb, hsn⟩ := seenC_inv hs
      refine ok_bV (c_countSeen hI c0 c1 hs) ?_
      rintro m2 ⟨hTl, hA, h100, hF⟩
      have hTl' := hTl
      obtain ⟨a, b, hab, ea, eb, e3, ev⟩ := hTl'
      have hTab := cntN_tab (rope := m 288 (25 + p)) (rocks := m 288 8) (tied := tied0 (m 288) p) (wf := wfT (m 311) t) hV hp.1 hp.2 (m 310 t).toNat (by omega)
      have hB := pow25_le (m 310 t).toNat (by omega)
      rw [c_total N25 ea hab e3 ev hTab (by omega), bR_some]
      refine ok_some ⟨rfl, fun _ => ?_, hF, near_of hV hp.1 hp.2 hA, tal_ptr hTl hptr h100⟩
      exact tot_all hTab (by omega) (by omega)
    · rw [bX_ne hs]; exact ok_some (aq1 hI hs)
  · have hV1 : CV c (m1 288) := by rw [e]; exact hV
    rw [← e, ← e9, ← e10, ← e11]
    unfold fX12_fits
    rw [m_watchedFault rfl hV1.1 hI1.2.2.2.2.2.1, bR_some]
    simp only [rd_eq, wr_eq, jn_eq, up_same]
    by_cases hs : seenC (m1 288) (m1 309) (m1 310) (m1 311) p t 8 = 0
    · rw [hs, show thrM 0 = 0 from rfl, if_pos (by decide)]
      have hK0 : up m1 287 4 0 288 = m1 288 := up_cell (by decide)
      have h10 : up m1 287 4 0 310 = m1 310 := up_cell (by decide)
      have h11 : up m1 287 4 0 311 = m1 311 := up_cell (by decide)
      obtain ⟨h4, hN, hF0⟩ := am_thrown (m := m1) (k := 0)
      generalize up m1 287 4 0 = m2 at *
      refine ok_bW (m_countsFits hK0 hV1 (by omega) h10 h11 hs) ?_
      rintro v m3 ⟨d1, d2, d3, d4⟩
      exact ok_some (am0 h4 hN hF0 d3 (fr_mono' d4 (by decide)) d1)
    · have hn := thr_ne hs
      rw [if_neg hn.2]
      exact ok_some (am1 hn.1)

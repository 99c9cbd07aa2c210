/-! ===== D62: other, the class's sets ===== -/
theorem c_goOnG {K : Int → Int} {c p rope rocks : Int} {tied : Bool} {P : Int → Nat → Prop} {h : Nat} {m : Mem} (hR : CR K m) (hP : PairV c K p rope) (h40 : h < 40) (hA : AhR K p rope tied rocks m) (hPr : ∀ j k, P j k → (0 ≤ j ∧ j < K 1 * K 2) ∧ (k : Int) < K 1 * K 2) (hS : ∀ j, 0 ≤ j → j < K 1 * K 2 → Bits (m 82 (25 * (h : Int) + j)) (P j)) :
    Ok (fX0_goOn ((h : Int) + 1) m) (fun r => (r.1 = 0 ∨ r.1 = 1) ∧ (r.1 = 1 ↔ ∃ j k, (0 ≤ j ∧ j < K 1 * K 2) ∧ nxtP K p rope tied rocks ((h : Int) + 1) P j k) ∧ (∀ j, 0 ≤ j → j < K 1 * K 2 → Bits (r.2 82 (25 * ((h : Int) + 1) + j)) (nxtP K p rope tied rocks ((h : Int) + 1) P j)) ∧ AhR K p rope tied rocks r.2 ∧ Fr WC m r.2) := by
  obtain ⟨hV, c1, ⟨p0, p1⟩, ⟨r0, r1⟩⟩ := hP
  have hw2 := wide_of hV.1 p0 p1
  have ar := area_le hw2.1.1 hw2.1.2 hw2.2.1 hw2.2.2
  unfold fX0_goOn
  rw [w32_id (x := (h : Int) + 1 - 1) (by omega) (by omega), w32_id (by omega) (by omega), w32_id (x := ((h : Int) + 1) * 25) (by omega) (by omega)]
  refine ok_bW (c_stepOn (src := 82) (dst := 82) (n0 := 1025) (n2 := 1025) (P := P) hR hV c1 p0 p1 r0 r1 (by omega) (by omega) hA (by decide) (by decide) (by decide) (show 0 ≤ ((h : Int) + 1 - 1) * 25 by omega) (by omega) (show 0 ≤ ((h : Int) + 1) * 25 by omega) (by omega) (by decide) (by decide) (fun j j0 j1 => ?_) (fun j k _ _ q => (hPr j k q).2)) ?_
  · have := hS j j0 j1
    rwa [show 25 * (h : Int) + j = ((h : Int) + 1 - 1) * 25 + j by omega] at this
  rintro x m1 ⟨a1, a2, a3, a4, a5, a6, a7⟩
  simp only at a1 a2 a3 a4 a5 a6 a7
  rw [chk01' a1]
  refine ok_some ⟨a1, a2, fun j j0 j1 => ?_, a5, fr_mono' a7 (by decide)⟩
  rw [show 25 * ((h : Int) + 1) + j = ((h : Int) + 1) * 25 + j by omega]
  exact a3 j j0 j1
theorem c_watchTo {K : Int → Int} {c p rope rocks w : Int} {tied : Bool} {wf : Nat → Int} {h : Nat} {m : Mem} (hR : CR K m) (hP : PairV c K p rope) (h40 : h < 40) (hA : AhR K p rope tied rocks m) (hw : w = wf h) (hS : ∀ j, 0 ≤ j → j < K 1 * K 2 → Bits (m 82 (25 * (h : Int) + j)) (rchW K p rope tied rocks wf h j)) :
    Ok (fX0_watchTo ((h : Int) + 1) w m) (fun r => (r.1 = 0 ∨ r.1 = 1) ∧ (r.1 = 1 → ∀ j, 0 ≤ j → j < K 1 * K 2 → Bits (r.2 82 (25 * ((h : Int) + 1) + j)) (rchW K p rope tied rocks wf (h + 1) j)) ∧ (r.1 = 0 → ¬ ∃ j k, rchW K p rope tied rocks wf (h + 1) j k) ∧ AhR K p rope tied rocks r.2 ∧ Fr WC m r.2) := by
  obtain ⟨hV, c1, ⟨p0, p1⟩, ⟨r0, r1⟩⟩ := hP
  have hw2 := wide_of hV.1 p0 p1
  have ar := area_le hw2.1.1 hw2.1.2 hw2.2.1 hw2.2.2
  unfold fX0_watchTo
  refine ok_bW (c_goOnG hR ⟨hV, c1, ⟨p0, p1⟩, ⟨r0, r1⟩⟩ h40 hA (rchW_rg hV p0 p1 h) hS) ?_
  rintro x m1 ⟨a1, a2, a3, a5, F1⟩
  simp only at a1 a2 a3 a5 F1
  have er : ∀ j k, rchW K p rope tied rocks wf (h + 1) j k ↔ (nxtP K p rope tied rocks ((h : Int) + 1) (rchW K p rope tied rocks wf h) j k ∧ (w = -1 ∨ j = w)) := fun j k => by rw [hw]; exact Iff.rfl
  by_cases hx : x = 0
  · rw [if_neg (show ¬ ¬ x = 0 from fun z => z hx)]
    refine ok_some ⟨.inl rfl, fun z => by simp only at z; omega, fun _ => ?_, a5, F1⟩
    rintro ⟨j, k, q⟩
    have q1 := (er j k).mp q
    have := a2.mpr ⟨j, k, q1.1.1, q1.1⟩
    omega
  rw [if_pos hx]
  simp only [rd_eq]
  simp only [wr_eq]
  simp only [jn_eq]
  refine lp_for2 (K 1 * K 2) (fun t i mm => 0 ≤ i ∧ Bits t (fun k => ∃ j, (0 ≤ j ∧ j < i) ∧ rchW K p rope tied rocks wf (h + 1) j k) ∧ (∀ j, 0 ≤ j → j < i → Bits (mm 82 (25 * ((h : Int) + 1) + j)) (rchW K p rope tied rocks wf (h + 1) j)) ∧ (∀ j, i ≤ j → j < K 1 * K 2 → mm 82 (25 * ((h : Int) + 1) + j) = m1 82 (25 * ((h : Int) + 1) + j)) ∧ Fr [82] m1 mm) ⟨by omega, bits_zero (fun z _ q => by obtain ⟨j, q1, _⟩ := q; omega), fun j _ _ => by omega, fun _ _ _ => rfl, fr_refl⟩ (by omega) (by omega) ?_ ?_
  · rintro G t i mm hi ⟨i0, hb, hd, hr, hF⟩ ih
    have e18 : mm 18 9 = K 1 * K 2 := by rw [hF 18 (by decide)]; exact a5.1.1
    rw [e18, if_neg (by omega), w32_id (x := ((h : Int) + 1) * 25) (by omega) (by omega), w32_id (x := ((h : Int) + 1) * 25 + i) (by omega) (by omega), w32_id (x := i + 1) (by omega) (by omega), show ((h : Int) + 1) * 25 + i = 25 * ((h : Int) + 1) + i by omega]
    have B0 : Bits (mm 82 (25 * ((h : Int) + 1) + i)) (nxtP K p rope tied rocks ((h : Int) + 1) (rchW K p rope tied rocks wf h) i) := by
      rw [hr i (Int.le_refl _) hi]
      exact a3 i i0 hi
    have next : ∀ m3 : Mem, Bits (m3 82 (25 * ((h : Int) + 1) + i)) (rchW K p rope tied rocks wf (h + 1) i) → (∀ q, q ≠ 25 * ((h : Int) + 1) + i → m3 82 q = mm 82 q) → Fr [82] mm m3 → Ok (chk ((0 : Int) ≤ 25 * ((h : Int) + 1) + i ∧ 25 * ((h : Int) + 1) + i < ((1025 : Nat) : Int)) (G (ior t (m3 82 (25 * ((h : Int) + 1) + i)), i + 1) m3)) (fun r => (r.1 = 0 ∨ r.1 = 1) ∧ (r.1 = 1 → ∀ j, 0 ≤ j → j < K 1 * K 2 → Bits (r.2 82 (25 * ((h : Int) + 1) + j)) (rchW K p rope tied rocks wf (h + 1) j)) ∧ (r.1 = 0 → ¬ ∃ j k, rchW K p rope tied rocks wf (h + 1) j k) ∧ AhR K p rope tied rocks r.2 ∧ Fr WC m r.2) := by
      intro m3 h1 h2 h3
      rw [chk_of (by omega)]
      refine ih _ m3 ⟨by omega, ?_, fun j j0 j1 => ?_, fun j j0 j1 => ?_, fr_trans hF h3⟩
      · refine bits_imp (bits_or2 hb h1) (fun z _ => ⟨?_, ?_⟩)
        · rintro (⟨j, a, b⟩ | b)
          · exact ⟨j, by omega, b⟩
          · exact ⟨i, by omega, b⟩
        · rintro ⟨j, a, b⟩
          by_cases e : j = i
          · rw [e] at b; exact .inr b
          · exact .inl ⟨j, by omega, b⟩
      · by_cases e : j = i
        · rw [e]; exact h1
        · rw [h2 _ (by omega)]; exact hd j j0 (by omega)
      · rw [h2 _ (by omega)]; exact hr j (by omega) j1
    by_cases hw1 : w = -1
    · rw [if_pos hw1]
      exact next mm (bits_imp B0 (fun k _ => by rw [er]; exact ⟨fun q => ⟨q, .inl hw1⟩, fun q => q.1⟩)) (fun _ _ => rfl) fr_refl
    · rw [if_neg hw1]
      by_cases hwi : i = w
      · rw [if_pos hwi]
        exact next mm (bits_imp B0 (fun k _ => by rw [er]; exact ⟨fun q => ⟨q, .inr hwi⟩, fun q => q.1⟩)) (fun _ _ => rfl) fr_refl
      · rw [if_neg hwi, chk_of (by omega)]
        refine next _ ?_ (fun q hq => by rw [up_row, ku_ne hq]) (fr_up (by simp) fr_refl)
        rw [up_row, ku_at]
        exact bits_zero (fun k _ q => by have := ((er i k).mp q).2; omega)
  · rintro G t mm ⟨_, hb, hd, _, hF⟩
    have e18 : mm 18 9 = K 1 * K 2 := by rw [hF 18 (by decide)]; exact a5.1.1
    have hA2 : AhR K p rope tied rocks mm := AhR_fr a5 (hF 18 (by decide)) (hF 78 (by decide)) (hF 79 (by decide)) (hF 80 (by decide)) (hF 81 (by decide))
    have Fm : Fr WC m mm := fr_trans F1 (fr_mono' hF (by decide))
    have hz := bits_eq0 hb
    simp only
    rw [e18, if_pos (by omega)]
    by_cases ht : t = 0
    · rw [if_pos ht, chk_of (by decide)]
      refine ok_some ⟨.inl rfl, fun z => by simp only at z; omega, fun _ => ?_, hA2, Fm⟩
      rintro ⟨j, k, q⟩
      have rg := rchW_rg hV p0 p1 _ j k q
      exact hz.mp ht k (by omega) ⟨j, by omega, q⟩
    · rw [if_neg ht, chk_of (by decide)]
      refine ok_some ⟨.inr rfl, fun _ j j0 j1 => hd j j0 j1, fun z => by simp only at z; omega, hA2, Fm⟩
theorem c_where2 {K : Int → Int} {p rope rocks : Int} {tied : Bool} {P : Int → Nat → Prop} {h : Nat} {m : Mem} (N25 : 0 ≤ K 1 * K 2 ∧ K 1 * K 2 ≤ 25) (hA : AhR K p rope tied rocks m) (h40 : h ≤ 40) (hS : ∀ j, 0 ≤ j → j < K 1 * K 2 → Bits (m 82 (25 * (h : Int) + j)) (P j)) :
    ∃ y, fX0_whereIs 1 (h : Int) m = some y ∧ Bits y (fun i => ∃ j, (0 ≤ j ∧ j < K 1 * K 2) ∧ P j i) := by
  have key : Ok (fX0_whereIs 1 (h : Int) m) (fun y => Bits y (fun i => ∃ j, (0 ≤ j ∧ j < K 1 * K 2) ∧ P j i)) := by
    unfold fX0_whereIs
    simp only [rd_eq, jn_eq]
    refine lp_for2 (K 1 * K 2) (fun t i mm => mm = m ∧ 0 ≤ i ∧ Bits t (fun z => ∃ j, (0 ≤ j ∧ j < i) ∧ P j z)) ⟨rfl, by omega, bits_zero (fun z _ q => by obtain ⟨j, q1, _⟩ := q; omega)⟩ (by omega) (by omega) ?_ ?_
    · rintro G t i mm hi ⟨rfl, i0, hb⟩ ih
      have hSi := hS i i0 hi
      rw [show 25 * (h : Int) + i = (h : Int) * 25 + i by omega] at hSi
      rw [hA.1.1, if_neg (by omega), w32_id (x := (h : Int) * 25) (by omega) (by omega), w32_id (x := (h : Int) * 25 + i) (by omega) (by omega), chk_of (by omega), w32_id (x := i + 1) (by omega) (by omega), if_neg (show ¬ ¬ True from fun z => z trivial)]
      refine ih _ mm ⟨rfl, by omega, bits_imp (bits_or2 hb hSi) (fun z _ => ⟨?_, ?_⟩)⟩
      · rintro (⟨j, a, b⟩ | b)
        · exact ⟨j, by omega, b⟩
        · exact ⟨i, by omega, b⟩
      · rintro ⟨j, a, b⟩
        by_cases e : j = i
        · rw [e] at b; exact .inr b
        · exact .inl ⟨j, by omega, b⟩
    · rintro G t mm ⟨rfl, _, hb⟩
      simp only
      rw [hA.1.1, if_pos (by omega)]
      exact ok_some hb
  obtain ⟨y, e, hy⟩ := key
  exact ⟨y, e, hy⟩
def otherP (K : Int → Int) (p : Int) (wf : Nat → Int) (n : Nat) (i : Nat) : Prop := ∃ j, (0 ≤ j ∧ j < K 1 * K 2) ∧ rchW K p (K (25 + p)) (tied0 K p) (K 8) wf n j i
theorem c_other {c p t : Int} {m : Mem} (hI : Inv c m) (c0 : 0 ≤ c) (c1 : c ≤ 900000) : Ok (fX11_other p t m) (AQ (seenC (m 288) (m 309) (m 310) (m 311) p t 20) (fun v => Bits v (otherP (m 288) p (wfT (m 311) t) (m 310 t).toNat)) m) := by
  obtain ⟨hR, hV, hn⟩ := inv_parts hI
  have hT := hI.2.2.2.2.2.1
  have N25 := pl_25 hV.1
  unfold fX11_other
  rw [c_needSeen hR hV hT]
  by_cases hs : seenC (m 288) (m 309) (m 310) (m 311) p t 20 = 0
  · rw [hs, bX_some0]
    obtain ⟨hp, ht, hm, hb, hsn⟩ := seenC_inv hs
    obtain ⟨r1, r2, r3, r4, r5⟩ := (tray_miss hT ht.1 ht.2).2 hm
    have hP := own_pair hV (show c ≤ 1000000 by omega) hp.1 hp.2
    rw [chk_of (by omega)]
    simp only [rd_eq]
    rw [r4]
    refine ok_bV (c_begin hR hV hp.1 hp.2 hn) ?_
    rintro m1 ⟨a1, a2⟩
    have hR1 : CR (m 288) m1 := CR_fr hR (fun o a b => a2 o (by simp; omega))
    refine ok_bV (c_start hR1 hV hp.1 hp.2 a1) ?_
    rintro m2 ⟨b1, b2⟩
    have hA2 := AhR_fr a1 (b2 18 (by decide)) (b2 78 (by decide)) (b2 79 (by decide)) (b2 80 (by decide)) (b2 81 (by decide))
    have F2 : Fr WD m m2 := fr_trans (fr_mono' a2 (by decide)) (fr_mono' b2 (by decide))
    refine lp_ok (fun (s : Int) (mm : Mem) => ∃ h : Nat, s = (h : Int) + 1 ∧ (h : Int) ≤ m 310 t ∧ (∀ j, 0 ≤ j → j < m 288 1 * m 288 2 → Bits (mm 82 (25 * (h : Int) + j)) (rchW (m 288) p (m 288 (25 + p)) (tied0 (m 288) p) (m 288 8) (wfT (m 311) t) h j)) ∧ AhR (m 288) p (m 288 (25 + p)) (tied0 (m 288) p) (m 288 8) mm ∧ Fr WD m mm) (fun s _ => (m 310 t + 1 - s).toNat) ⟨0, by omega, by omega, fun j j0 j1 => b1 0 (Nat.le_refl _) j j0 j1, hA2, F2⟩ (by omega) ?_
    rintro G s mm ⟨h, rfl, hh, hSs, hA, hF⟩ ih
    by_cases hz : (h : Int) = m 310 t
    · obtain ⟨y, ey, hy⟩ := c_where2 N25 hA (show h ≤ 40 by omega) hSs
      rw [if_pos (by omega), ← hz, ey, bR_some]
      refine ok_some (aq0 hI hV hp.1 hp.2 ?_ hA hF)
      rw [Int.toNat_natCast]
      exact hy
    · have sn := hsn (h : Int) (by omega) (by omega)
      rw [if_neg (by omega), w32_id (x := (h : Int) + 1 - 1) (by omega) (by omega), show (h : Int) + 1 - 1 = h by omega, c_at ht.1 ht.2 (by omega) (by omega), bR_some, hF (90 + t.toNat) (by unfold WD; simp; omega), (r5 (h : Int) (by omega) (by omega)).1, w32_id (x := m 311 (30 * t + (h : Int))) (by omega) (by omega)]
      have hR2 : CR (m 288) mm := CR_fr hR (fun o z1 z2 => hF o (by unfold WD; simp; omega))
      refine ok_bW (c_watchTo (wf := wfT (m 311) t) hR2 hP (by omega) hA rfl hSs) ?_
      rintro x m3 ⟨d1, d2, d3, d4, d5⟩
      simp only at d1 d2 d3 d4 d5
      have F3 : Fr WD m m3 := fr_trans hF (fr_mono' d5 (by decide))
      by_cases hx : x = 0
      · rw [if_neg (show ¬ ¬ x = 0 from fun z => z hx)]
        refine ok_some (aq0 hI hV hp.1 hp.2 (bits_zero (fun i _ q => ?_)) d4 F3)
        obtain ⟨j, _, q⟩ := q
        exact d3 hx (rchW_down ((m 310 t).toNat - (h + 1)) ⟨j, i, by rw [show h + 1 + ((m 310 t).toNat - (h + 1)) = (m 310 t).toNat by omega]; exact q⟩)
      · rw [if_pos hx, w32_id (by omega) (by omega)]
        refine ih _ m3 ⟨h + 1, by omega, by omega, fun j j0 j1 => ?_, d4, F3⟩ (by omega)
        have := d2 (by omega) j j0 j1
        rw [show ((h + 1 : Nat) : Int) = (h : Int) + 1 by omega]; exact this
  · rw [bX_ne hs]; exact ok_some (aq1 hI hs)
theorem d_other {c p t : Int} {m : Mem} (hI : Inv c m) (c0 : 0 ≤ c) (c1 : c ≤ 900000) : Two1 c (fL_other p t) (fX12_other p t) m := by
  obtain ⟨hR, hV, hn⟩ := inv_parts hI
  refine two_a (x := fX11_other p t) (k := seenC (m 288) (m 309) (m 310) (m 311) p t 20) (k' := thrM (seenC (m 288) (m 309) (m 310) (m 311) p t 20)) (Φ := fun v => Bits v (otherP (m 288) p (wfT (m 311) t) (m 310 t).toNat)) hI c0 (fun a b ha hb => bits_eq ha hb (fun _ _ => Iff.rfl)) (c_other hI c0 c1) (fun _ _ => rfl) (fun z => by rw [z]; rfl) (fun z => thr_h seenC_rg z) (fun m1 hI1 e e9 e10 e11 => ?_)
  have hV1 : CV c (m1 288) := by rw [e]; exact hV
  rw [← e, ← e9, ← e10, ← e11]
  have N25 := pl_25 hV1.1
  unfold fX12_other
  rw [m_watchedFault rfl hV1.1 hI1.2.2.2.2.2.1, bR_some]
  simp only [rd_eq, wr_eq, jn_eq, up_same]
  by_cases hs : seenC (m1 288) (m1 309) (m1 310) (m1 311) p t 20 = 0
  · rw [hs, show thrM 0 = 0 from rfl, if_pos (by decide)]
    obtain ⟨hp, ht, hm, hb, hsn⟩ := seenC_inv hs
    have hw := wide_of hV1.1 hp.1 hp.2
    have hK0 : up m1 287 4 0 288 = m1 288 := up_cell (by decide)
    have h10 : up m1 287 4 0 310 = m1 310 := up_cell (by decide)
    have h11 : up m1 287 4 0 311 = m1 311 := up_cell (by decide)
    obtain ⟨h4, hN, hF0⟩ := am_thrown (m := m1) (k := 0)
    generalize up m1 287 4 0 = m2 at *
    refine ok_bV (m_begins (wf := wfT (m1 311) t) hK0 hV1 (by omega) hp.1 hp.2) ?_
    rintro m3 ⟨⟨a1, a2⟩, a3, a4, a5⟩
    have e310 : m3 310 = m1 310 := (a5 310 (by decide)).trans h10
    have e311 : m3 311 = m1 311 := (a5 311 (by decide)).trans h11
    refine lp_ok (fun (s : Int) (mm : Mem) => ∃ h : Nat, s = (h : Int) ∧ (h : Int) ≤ m1 310 t ∧ (∀ q, 0 ≤ q → q < 625 → mm 303 q = cntC (m1 288) p (m1 288 (25 + p)) (tied0 (m1 288) p) (m1 288 8) (wfT (m1 311) t) h q) ∧ Fr [303, 304] m3 mm) (fun s _ => (m1 310 t - s).toNat) ⟨0, by omega, by omega, a3, fr_refl⟩ (by omega) ?_
    rintro G s mm ⟨h, rfl, hh, hv, hF⟩ ih
    obtain ⟨hTab, hq⟩ := cntC_ok (rope := m1 288 (25 + p)) (rocks := m1 288 8) (tied := tied0 (m1 288) p) (wf := wfT (m1 311) t) hV1 hp.1 hp.2 h
    rw [chk_of (by omega), hF 310 (by decide), e310, hF 311 (by decide), e311]
    by_cases hz : (h : Int) = m1 310 t
    · rw [if_pos (by omega), show (m1 310 t).toNat = h by omega]
      refine lp_for2 625 (fun a i m4 => 0 ≤ i ∧ Bits a (fun k => ∃ b, (0 ≤ b ∧ b < i) ∧ mm 303 b = 1 ∧ b % 25 = (k : Int)) ∧ m4 = mm) ⟨by omega, bits_zero (fun k _ q => by obtain ⟨b, q1, _⟩ := q; omega), rfl⟩ (by omega) (by omega) ?_ ?_
      · rintro G2 a i m4 hi ⟨i0, hb, rfl⟩ ih2
        simp only
        have q01 := (hq i i0 hi).1
        rw [← hv i i0 hi] at q01
        rw [if_neg (by omega), chk_of (by omega), w32_id (x := i + 1) (by omega) (by omega), tmod_e 25 i0]
        by_cases hz2 : m4 303 i ≤ 0
        · rw [if_pos hz2]
          have e0 : ior a 0 = a := tb_ext (ior_rg _ _) hb.1 (fun z _ => by rw [tb_or, tb_zero]; simp)
          rw [e0]
          refine ih2 _ _ ⟨by omega, bits_imp hb (fun k _ => ⟨fun ⟨b, y1, y2⟩ => ⟨b, by omega, y2⟩, fun ⟨b, y1, y2, y3⟩ => ⟨b, ⟨y1.1, ?_⟩, y2, y3⟩⟩), rfl⟩
          by_cases e2 : b = i
          · rw [e2] at y2; omega
          · omega
        · rw [if_neg hz2]
          refine ih2 _ _ ⟨by omega, bits_imp (bits_or hb (show 0 ≤ i % 25 by omega) (by omega)) (fun k _ => ⟨?_, ?_⟩), rfl⟩
          · rintro (⟨b, y1, y2⟩ | y)
            · exact ⟨b, by omega, y2⟩
            · exact ⟨i, by omega, by omega, by omega⟩
          · rintro ⟨b, y1, y2, y3⟩
            by_cases e2 : b = i
            · rw [e2] at y3; exact .inr (by omega)
            · exact .inl ⟨b, by omega, y2, y3⟩
      · rintro G2 a m4 ⟨_, hb, rfl⟩
        simp only
        rw [if_pos (by decide)]
        refine ok_some (am0 h4 hN hF0 (fun i hi => by rw [hF 287 (by decide)]; exact a4 i hi) (fr_trans (fr_mono' a5 (by decide)) (fr_mono' hF (by decide))) (bits_imp hb (fun k hk => ⟨?_, ?_⟩)))
        · rintro ⟨b, y1, y2, y3⟩
          rw [hv b y1.1 y1.2] at y2
          have := (hq b y1.1 y1.2).2.mp y2
          have rg := rchW_rg hV1 hp.1 hp.2 _ _ _ this
          refine ⟨b / 25, rg.1, ?_⟩
          rw [show k = (b % 25).toNat by omega]; exact this
        · rintro ⟨j, y1, y2⟩
          have rg := rchW_rg hV1 hp.1 hp.2 _ _ _ y2
          refine ⟨25 * j + (k : Int), by omega, ?_, by omega⟩
          rw [hv _ (by omega) (by omega)]
          refine (hq _ (by omega) (by omega)).2.mpr ?_
          rw [show (25 * j + (k : Int)) / 25 = j by omega, show ((25 * j + (k : Int)) % 25).toNat = k by omega]; exact y2
    · rw [if_neg (by omega), w32_id (x := 30 * t) (by omega) (by omega), w32_id (x := 30 * t + (h : Int)) (by omega) (by omega), chk_of (by omega), w32_id (x := (h : Int) + 1) (by omega) (by omega)]
      refine ok_bV (m_countsOn (rocks := m1 288 8) (w := m1 311 (30 * t + (h : Int))) hw.1.1 hw.1.2 hw.2.1 hw.2.2 (laid_fr a1 (hF 296 (by decide)) (hF 299 (by decide)) (hF 300 (by decide))) (by rw [hF 287 (by decide)]; exact a2) (by omega) (by omega)) ?_
      rintro m4 ⟨d1, d2⟩
      have hT' := TabV_cong hv hTab
      have hT4 := allT_tab (K := m1 288) (p := p) (rope := m1 288 (25 + p)) (tied := tied0 (m1 288) p) (rocks := m1 288 8) (h := (h : Int) + 1) (w := m1 311 (30 * t + (h : Int))) hw.1.1 hw.1.2 hw.2.1 hw.2.2 hT' (by omega) 625 (Nat.le_refl _)
      refine lp_for 625 (fun i m5 => 0 ≤ i ∧ (∀ q, 0 ≤ q → q < i → m5 303 q = imin 1 (m4 303 q)) ∧ (∀ q, i ≤ q → q < 625 → m5 303 q = m4 303 q) ∧ Fr [303] m4 m5) ⟨by omega, fun q _ _ => by omega, fun _ _ _ => rfl, fr_refl⟩ (by omega) (by omega) ?_ ?_
      · rintro G2 i m5 hi ⟨i0, g1, g2, hF5⟩ ih2
        rw [if_neg (by omega), chk_of (by omega), chk_of (by omega), w32_id (x := i + 1) (by omega) (by omega)]
        refine ih2 _ ⟨by omega, fun q q0 q1 => ?_, fun q q0 q1 => ?_, fr_up (by simp) hF5⟩
        · by_cases e : q = i
          · rw [e, up_same, g2 i (Int.le_refl _) hi]
          · rw [up_idx e]; exact g1 q q0 (by omega)
        · rw [up_idx (by omega)]; exact g2 q (by omega) q1
      · rintro G2 m5 ⟨_, g1, _, hF5⟩
        rw [if_pos (by decide)]
        refine ih _ m5 ⟨h + 1, by omega, by omega, fun q q0 q1 => ?_, fr_trans hF (fr_trans d2 (fr_mono' hF5 (by decide)))⟩ (by omega)
        rw [g1 q q0 q1, d1 q q0 q1, allT_cong 625 hv]; rfl
  · have hn := thr_ne hs
    rw [if_neg hn.2]
    exact ok_some (am1 hn.1)

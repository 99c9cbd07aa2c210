/-! ===== D30: hours found, the class's side ===== -/
theorem c_hoursTo {K : Int → Int} {c p rope rocks rocks' j k : Int} {tied : Bool} {m : Mem} (hR : CR K m) (hP : PairV c K p rope) (hA : AhR K p rope tied rocks m) (j0 : 0 ≤ j) (j1 : j < K 1 * K 2) (k0 : 0 ≤ k) (k1 : k < K 1 * K 2) :
    Ok (fX0_hoursTo j k rocks' m) (fun r => FirstH (fun h => rchP K p rope tied rocks' h j k.toNat) r.1 ∧ (0 ≤ r.1 → SetsR K p rope tied rocks' r.1.toNat r.2 ∧ r.1 ≤ r.2 18 16 ∧ r.1 ≤ r.2 18 17) ∧ AhR K p rope tied rocks' r.2 ∧ Fr WC m r.2) := by
  have hP' := hP
  obtain ⟨hV, c1, ⟨p0, p1⟩, ⟨r0, r1⟩⟩ := hP
  have hw := wide_of hV.1 p0 p1
  have ar := area_le hw.1.1 hw.1.2 hw.2.1 hw.2.2
  unfold fX0_hoursTo
  simp only [wr_eq, rd_eq, jn_eq]
  have hA0 : AhR K p rope tied rocks' (up m 18 13 rocks') := by
    obtain ⟨⟨s9, s10⟩, hN, ⟨s12, s13, s14, s15⟩, ⟨t0, t1, t2⟩, ⟨u0, u1, u2⟩⟩ := hA
    have e : ∀ i, i ≠ 13 → up m 18 13 rocks' 18 i = m 18 i := fun i hi => up_idx hi
    have f : ∀ o, o ≠ 18 → up m 18 13 rocks' o = m o := fun o ho => up_cell ho
    refine ⟨⟨?_, ?_⟩, ⟨?_, fun a b q1 q2 q3 q4 => ?_⟩, ⟨?_, up_same _ _ _ _, ?_, ?_⟩, ⟨?_, ?_, fun i a b => ?_⟩, ⟨?_, ?_, fun i a b => ?_⟩⟩
    · rw [e 9 (by decide)]; exact s9
    · rw [e 10 (by decide)]; exact s10
    · rw [e 11 (by decide)]; exact hN.1
    · rw [f 81 (by decide)]; exact hN.2 a b q1 q2 q3 q4
    · rw [e 12 (by decide)]; exact s12
    · rw [e 14 (by decide)]; exact s14
    · rw [e 15 (by decide)]; exact s15
    · rw [e 16 (by decide)]; exact t0
    · rw [e 16 (by decide)]; exact t1
    · rw [e 16 (by decide)] at b; rw [f 78 (by decide), f 79 (by decide)]; exact t2 i a b
    · rw [e 17 (by decide)]; exact u0
    · rw [e 17 (by decide)]; exact u1
    · rw [e 17 (by decide)] at b; rw [f 80 (by decide)]; exact u2 i a b
  have F0 : Fr WC m (up m 18 13 rocks') := fr_up (by decide) fr_refl
  have hR0 : CR K (up m 18 13 rocks') := CR_fr hR (fun o a b => F0 o (by unfold WC; simp; omega))
  generalize up m 18 13 rocks' = m0 at *
  refine ok_bV (c_start hR0 hV p0 p1 hA0) ?_
  rintro m1 ⟨a1, a2⟩
  have hA1 : AhR K p rope tied rocks' m1 := AhR_fr hA0 (a2 _ (by decide)) (a2 _ (by decide)) (a2 _ (by decide)) (a2 _ (by decide)) (a2 _ (by decide))
  have F1 : Fr WC m m1 := fr_trans F0 (fr_mono' a2 (by decide))
  -- hour h: its sets lie already (h = 0), or are still to be made from those of h - 1
  refine lp_ok (fun (i : Int) (mm : Mem) => ∃ h : Nat, i = (h : Int) ∧ h ≤ 41 ∧ (∀ h', h' < h → ¬ rchP K p rope tied rocks' h' j k.toNat) ∧ SetsR K p rope tied rocks' (h - 1) mm ∧ AhR K p rope tied rocks' mm ∧ Fr WC m mm) (fun i _ => (41 - i).toNat) ⟨0, rfl, by omega, fun h' z => by omega, a1, hA1, F1⟩ (by decide) ?_
  rintro G i mm ⟨h, rfl, hn, b0, b1, b2, b3⟩ ih
  have hR1 : CR K mm := CR_fr hR (fun o z1 z2 => b3 o (by unfold WC; simp; omega))
  by_cases hx : h = 41
  · subst hx
    rw [if_pos (by omega)]
    exact ok_some ⟨.inr ⟨rfl, fun h' hh => b0 h' (by omega)⟩, fun q => by simp at q, b2, b3⟩
  · rw [if_neg (by omega)]
    -- the look at hour h
    have look : ∀ m' : Mem, SetsR K p rope tied rocks' h m' → AhR K p rope tied rocks' m' → ((h : Int) ≤ m' 18 16 ∧ (h : Int) ≤ m' 18 17) → Fr WC m m' → Ok (chk ((0 : Int) ≤ w32 (w32 ((h : Int) * 25) + j) ∧ w32 (w32 ((h : Int) * 25) + j) < ((1025 : Nat) : Int)) (if iand (iushr (m' 82 (w32 (w32 ((h : Int) * 25) + j))) k) 1 = 0 then G (w32 ((h : Int) + 1)) m' else some ((h : Int), m'))) (fun r => FirstH (fun h => rchP K p rope tied rocks' h j k.toNat) r.1 ∧ (0 ≤ r.1 → SetsR K p rope tied rocks' r.1.toNat r.2 ∧ r.1 ≤ r.2 18 16 ∧ r.1 ≤ r.2 18 17) ∧ AhR K p rope tied rocks' r.2 ∧ Fr WC m r.2) := by
      intro m' g1 g2 g3 g4
      have hb := (g1 h (Nat.le_refl _) j j0 j1).2 k.toNat (by omega)
      rw [w32_id (x := (h : Int) * 25) (by omega) (by omega), w32_id (x := (h : Int) * 25 + j) (by omega) (by omega), chk_of (by omega), bit_ui _ k0 (by omega), show (h : Int) * 25 + j = 25 * h + j by omega]
      cases htb : tb (m' 82 (25 * (h : Int) + j)) k.toNat
      · rw [if_pos (by simp), w32_id (by omega) (by omega)]
        have hno : ¬ rchP K p rope tied rocks' h j k.toNat := fun z => by rw [hb.mpr z] at htb; cases htb
        refine ih _ m' ⟨h + 1, by omega, by omega, fun h' hh => ?_, by rw [show h + 1 - 1 = h by omega]; exact g1, g2, g4⟩ (by show (41 - ((h : Int) + 1)).toNat < (41 - (h : Int)).toNat; omega)
        by_cases e : h' = h
        · subst e; exact hno
        · exact b0 h' (by omega)
      · rw [if_neg (by simp)]
        refine ok_some ⟨.inl ⟨h, by omega, rfl, hb.mp htb, b0⟩, fun _ => ⟨by rw [Int.toNat_natCast]; exact g1, g3⟩, g2, g4⟩
    by_cases h0 : h = 0
    · subst h0
      rw [if_pos (by omega)]
      exact look mm b1 b2 ⟨b2.2.2.2.1.1, b2.2.2.2.2.1⟩ b3
    · rw [if_neg (by omega)]
      refine ok_bW (c_goOn hR1 hP' (by omega) (by omega) b2 b1) ?_
      rintro x m' ⟨d1, d2, d3, d4, d6, d5⟩
      simp only at d1 d2 d3 d4 d5 d6
      by_cases hz : x = 0
      · rw [if_neg (show ¬ ¬ x = 0 from fun z => z hz)]
        refine ok_some ⟨.inr ⟨rfl, fun h' hh z => ?_⟩, fun q => by simp at q, d4, fr_trans b3 (fr_mono' d5 (by decide))⟩
        by_cases e : h' < h
        · exact b0 h' e z
        · have : ∃ j k, rchP K p rope tied rocks' h j k := rch_down' (h' - h) (by rw [show h + (h' - h) = h' by omega]; exact ⟨j, _, z⟩)
          have := d2.mpr this; omega
      · rw [if_pos hz]
        exact look m' d3 d4 d6 (fr_trans b3 (fr_mono' d5 (by decide)))
/-- the same loop with another look at each hour -/
theorem c_hoursOfOne {K : Int → Int} {c p rope rocks who k : Int} {tied : Bool} {m : Mem} (hR : CR K m) (hP : PairV c K p rope) (hA : AhR K p rope tied rocks m) (k0 : 0 ≤ k) (k1 : k < K 1 * K 2) :
    Ok (fX0_hoursOfOne who k m) (fun r => FirstH (fun h => whereP K p rope tied rocks who h k.toNat) r.1 ∧ AhR K p rope tied rocks r.2 ∧ Fr WC m r.2) := by
  have hP' := hP
  obtain ⟨hV, c1, ⟨p0, p1⟩, ⟨r0, r1⟩⟩ := hP
  have hw := wide_of hV.1 p0 p1
  have ar := area_le hw.1.1 hw.1.2 hw.2.1 hw.2.2
  unfold fX0_hoursOfOne
  refine ok_bV (c_start hR hV p0 p1 hA) ?_
  rintro m1 ⟨a1, a2⟩
  have hA1 : AhR K p rope tied rocks m1 := AhR_fr hA (a2 _ (by decide)) (a2 _ (by decide)) (a2 _ (by decide)) (a2 _ (by decide)) (a2 _ (by decide))
  refine lp_ok (fun (i : Int) (mm : Mem) => ∃ h : Nat, i = (h : Int) ∧ h ≤ 41 ∧ (∀ h', h' < h → ¬ whereP K p rope tied rocks who h' k.toNat) ∧ SetsR K p rope tied rocks (h - 1) mm ∧ AhR K p rope tied rocks mm ∧ Fr WC m mm) (fun i _ => (41 - i).toNat) ⟨0, rfl, by omega, fun h' z => by omega, a1, hA1, fr_mono' a2 (by decide)⟩ (by decide) ?_
  rintro G i mm ⟨h, rfl, hn, b0, b1, b2, b3⟩ ih
  have hR1 : CR K mm := CR_fr hR (fun o z1 z2 => b3 o (by unfold WC; simp; omega))
  by_cases hx : h = 41
  · subst hx
    rw [if_pos (by omega)]
    exact ok_some ⟨.inr ⟨rfl, fun h' hh => b0 h' (by omega)⟩, b2, b3⟩
  · rw [if_neg (by omega)]
    simp only [jn_eq]
    have look : ∀ m' : Mem, SetsR K p rope tied rocks h m' → AhR K p rope tied rocks m' → Fr WC m m' → Ok (bR (fX0_whereIs who h m') fun x5 => (if iand (iushr x5 k) 1 = 0 then G (w32 ((h : Int) + 1)) m' else some ((h : Int), m'))) (fun r => FirstH (fun h => whereP K p rope tied rocks who h k.toNat) r.1 ∧ AhR K p rope tied rocks r.2 ∧ Fr WC m r.2) := by
      intro m' g1 g2 g4
      obtain ⟨y, ey, hy⟩ := c_whereIs (who := who) hP' g2 (show h ≤ 40 by omega) (g1 h (Nat.le_refl _))
      have hb := hy.2 k.toNat (by omega)
      rw [ey, bR_some, bit_ui _ k0 (by omega)]
      cases htb : tb y k.toNat
      · rw [if_pos (by simp), w32_id (by omega) (by omega)]
        have hno : ¬ whereP K p rope tied rocks who h k.toNat := fun z => by rw [hb.mpr z] at htb; cases htb
        refine ih _ m' ⟨h + 1, by omega, by omega, fun h' hh => ?_, by rw [show h + 1 - 1 = h by omega]; exact g1, g2, g4⟩ (by show (41 - ((h : Int) + 1)).toNat < (41 - (h : Int)).toNat; omega)
        by_cases e : h' = h
        · subst e; exact hno
        · exact b0 h' (by omega)
      · rw [if_neg (by simp)]
        exact ok_some ⟨.inl ⟨h, by omega, rfl, hb.mp htb, b0⟩, g2, g4⟩
    by_cases h0 : h = 0
    · subst h0
      rw [if_pos (by omega)]
      exact look mm b1 b2 b3
    · rw [if_neg (by omega)]
      refine ok_bW (c_goOn' hR1 hP' (by omega) (by omega) b2 b1) ?_
      rintro x m' ⟨d1, d2, d3, d4, d6, d5⟩
      simp only at d1 d2 d3 d4 d5 d6
      by_cases hz : x = 0
      · rw [if_neg (show ¬ ¬ x = 0 from fun z => z hz)]
        refine ok_some ⟨.inr ⟨rfl, fun h' hh z => ?_⟩, d4, fr_trans b3 (fr_mono' d5 (by decide))⟩
        by_cases e : h' < h
        · exact b0 h' e z
        · have hz' : ∃ j k, rchP K p rope tied rocks h' j k := by
            unfold whereP at z; split at z
            · obtain ⟨j, q⟩ := z; exact ⟨j, _, q⟩
            · obtain ⟨q, r⟩ := z; exact ⟨_, q, r⟩
          have : ∃ j k, rchP K p rope tied rocks h j k := rch_down' (h' - h) (by rw [show h + (h' - h) = h' by omega]; exact hz')
          have := d2.mpr this; omega
      · rw [if_pos hz]
        exact look m' d3 d4 (fr_trans b3 (fr_mono' d5 (by decide)))
theorem c_mealHour {K : Int → Int} {c p rope rocks : Int} {tied : Bool} {m : Mem} (hR : CR K m) (hP : PairV c K p rope) (hA : AhR K p rope tied rocks m) :
    Ok (fX0_mealHour m) (fun r => FirstH (fun h => ∃ i : Nat, rchP K p rope tied rocks h i i) r.1 ∧ (0 ≤ r.1 → SetsR K p rope tied rocks r.1.toNat r.2) ∧ AhR K p rope tied rocks r.2 ∧ Fr WC m r.2) := by
  have hP' := hP
  obtain ⟨hV, c1, ⟨p0, p1⟩, ⟨r0, r1⟩⟩ := hP
  have hw := wide_of hV.1 p0 p1
  have ar := area_le hw.1.1 hw.1.2 hw.2.1 hw.2.2
  unfold fX0_mealHour
  refine ok_bV (c_start hR hV p0 p1 hA) ?_
  rintro m1 ⟨a1, a2⟩
  have hA1 : AhR K p rope tied rocks m1 := AhR_fr hA (a2 _ (by decide)) (a2 _ (by decide)) (a2 _ (by decide)) (a2 _ (by decide)) (a2 _ (by decide))
  refine lp_ok (fun (i : Int) (mm : Mem) => ∃ h : Nat, i = (h : Int) ∧ h ≤ 41 ∧ (∀ h', h' < h → ¬ ∃ i : Nat, rchP K p rope tied rocks h' i i) ∧ SetsR K p rope tied rocks (h - 1) mm ∧ AhR K p rope tied rocks mm ∧ Fr WC m mm) (fun i _ => (41 - i).toNat) ⟨0, rfl, by omega, fun h' z => by omega, a1, hA1, fr_mono' a2 (by decide)⟩ (by decide) ?_
  rintro G i mm ⟨h, rfl, hn, b0, b1, b2, b3⟩ ih
  have hR1 : CR K mm := CR_fr hR (fun o z1 z2 => b3 o (by unfold WC; simp; omega))
  by_cases hx : h = 41
  · subst hx
    rw [if_pos (by omega)]
    exact ok_some ⟨.inr ⟨rfl, fun h' hh => b0 h' (by omega)⟩, fun q => by simp at q, b2, b3⟩
  · rw [if_neg (by omega)]
    simp only [jn_eq]
    have look : ∀ m' : Mem, SetsR K p rope tied rocks h m' → AhR K p rope tied rocks m' → Fr WC m m' → Ok (bR (fX0_whereBoth h m') fun x5 => (if x5 = 0 then G (w32 ((h : Int) + 1)) m' else some ((h : Int), m'))) (fun r => FirstH (fun h => ∃ i : Nat, rchP K p rope tied rocks h i i) r.1 ∧ (0 ≤ r.1 → SetsR K p rope tied rocks r.1.toNat r.2) ∧ AhR K p rope tied rocks r.2 ∧ Fr WC m r.2) := by
      intro m' g1 g2 g4
      obtain ⟨y, ey, hy⟩ := c_whereBoth hP' g2 (show h ≤ 40 by omega) (g1 h (Nat.le_refl _))
      have hb := bits_eq0 hy
      rw [ey, bR_some]
      by_cases hy0 : y = 0
      · rw [if_pos hy0, w32_id (by omega) (by omega)]
        refine ih _ m' ⟨h + 1, by omega, by omega, fun h' hh => ?_, by rw [show h + 1 - 1 = h by omega]; exact g1, g2, g4⟩ (by show (41 - ((h : Int) + 1)).toNat < (41 - (h : Int)).toNat; omega)
        by_cases e : h' = h
        · subst e; rintro ⟨i, q⟩; exact hb.mp hy0 i (by have := (rch_rg hV p0 p1 _ _ _ q).2; omega) q
        · exact b0 h' (by omega)
      · rw [if_neg hy0]
        refine ok_some ⟨.inl ⟨h, by omega, rfl, ?_, b0⟩, fun _ => by show SetsR K p rope tied rocks ((h : Int)).toNat m'; rw [Int.toNat_natCast]; exact g1, g2, g4⟩
        exact Classical.byContradiction (fun hn => hy0 (hb.mpr (fun i _ q => hn ⟨i, q⟩)))
    by_cases h0 : h = 0
    · subst h0
      rw [if_pos (by omega)]
      exact look mm b1 b2 b3
    · rw [if_neg (by omega)]
      refine ok_bW (c_goOn' hR1 hP' (by omega) (by omega) b2 b1) ?_
      rintro x m' ⟨d1, d2, d3, d4, d6, d5⟩
      simp only at d1 d2 d3 d4 d5 d6
      by_cases hz : x = 0
      · rw [if_neg (show ¬ ¬ x = 0 from fun z => z hz)]
        refine ok_some ⟨.inr ⟨rfl, fun h' hh z => ?_⟩, fun q => by simp at q, d4, fr_trans b3 (fr_mono' d5 (by decide))⟩
        by_cases e : h' < h
        · exact b0 h' e z
        · obtain ⟨i, q⟩ := z
          have : ∃ j k, rchP K p rope tied rocks h j k := rch_down' (h' - h) (by rw [show h + (h' - h) = h' by omega]; exact ⟨_, _, q⟩)
          have := d2.mpr this; omega
      · rw [if_pos hz]
        exact look m' d3 d4 (fr_trans b3 (fr_mono' d5 (by decide)))

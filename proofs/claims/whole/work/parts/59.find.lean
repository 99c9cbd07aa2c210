/-! ===== D39: the way found, on both sides ===== -/
theorem oneF_bes {K : Int → Int} {p rocks n who j t : Int} (j0 : 0 ≤ j) (j1 : j < K 1 * K 2) (h : oneF K p rocks n who j t ≠ -1) : besF (K 1) (K 2) j t = oneF K p rocks n who j t := by
  have e0 : besF (K 1) (K 2) j 0 = j := rfl
  revert h
  unfold oneF entF
  rw [if_pos (show 0 ≤ j ∧ j < K 1 * K 2 from ⟨j0, j1⟩)]
  by_cases ht : t = 0
  · rw [if_pos ht, if_pos ht, ht, e0]; intro _; rfl
  · rw [if_neg ht, if_neg ht]
    by_cases hb : besF (K 1) (K 2) j t = -1
    · rw [if_pos hb, if_pos rfl]; intro q; exact absurd rfl q
    · rw [if_neg hb]
      by_cases hm : mayF K p who (besF (K 1) (K 2) j t) (K 24 + n) = true
      · rw [if_pos hm, if_neg hb]
        by_cases hr : tb rocks (besF (K 1) (K 2) j t).toNat = true
        · rw [if_pos hr]; intro q; exact absurd rfl q
        · rw [if_neg hr]; intro _; rfl
      · rw [if_neg hm, if_pos rfl]; intro q; exact absurd rfl q
noncomputable def turnV (K : Int → Int) (p rope : Int) (tied : Bool) (rocks : Int) (n : Nat) (jt : Int) (kt h : Nat) : Int :=
  turnI K p rope tied rocks n jt kt h / 5 * 10 + turnI K p rope tied rocks n jt kt h % 5
theorem pos_rg {K : Int → Int} {c p rope : Int} {tied : Bool} {rocks : Int} {n : Nat} {jt : Int} {kt h : Nat} (hV : CV c K) (p0 : 0 ≤ p) (p1 : p < K 3) (ht : rchP K p rope tied rocks n jt kt) (hh : h ≤ n) :
    (0 ≤ (posV K p rope tied rocks n jt kt h).1 ∧ (posV K p rope tied rocks n jt kt h).1 < K 1 * K 2) ∧ (0 ≤ (posV K p rope tied rocks n jt kt h).2 ∧ (posV K p rope tied rocks n jt kt h).2 < K 1 * K 2) := by
  have q := (pos_ok hV p0 p1 ht h hh).1
  have r := rch_rg hV p0 p1 _ _ _ (bak_rch ht hh q.2)
  rw [Int.toNat_of_nonneg q.1] at r
  exact ⟨r.1, q.1, r.2⟩
theorem c_findWay {K : Int → Int} {c p j k : Int} {rocks : Int} {m : Mem} (hR : CR K m) (hP : PairV c K p (K (25 + p))) (hA : AhR K p (K (25 + p)) (tied0 K p) rocks m) (j0 : 0 ≤ j) (j1 : j < K 1 * K 2) (k0 : 0 ≤ k) (k1 : k < K 1 * K 2) :
    Ok (fX0_findWay j k m) (fun r => FirstH (fun h => rchP K p (K (25 + p)) (tied0 K p) rocks h j k.toNat) r.1 ∧ (0 ≤ r.1 → ∀ h : Nat, (h : Int) < r.1 → r.2 85 ((h : Int) + 1) = turnV K p (K (25 + p)) (tied0 K p) rocks r.1.toNat j k.toNat h) ∧ AhR K p (K (25 + p)) (tied0 K p) rocks r.2 ∧ Fr WD m r.2) := by
  have hV := hP.1
  have p0 := hP.2.2.1.1
  have p1 := hP.2.2.1.2
  have l3 := hV.1.2.1
  have hw := wide_of hV.1 p0 p1
  have ar := area_le hw.1.1 hw.1.2 hw.2.1 hw.2.2
  unfold fX0_findWay
  simp only [rd_eq, wr_eq, jn_eq]
  rw [hA.2.2.1.2.1]
  refine ok_bW (c_hoursTo hR hP hA j0 j1 k0 k1) ?_
  rintro v m1 ⟨b1, b2, b3, b4⟩
  simp only at b1 b2 b3 b4
  by_cases hv : v = -1
  · rw [if_neg (by omega)]
    exact ok_some ⟨hv ▸ b1, fun z => absurd (show (0 : Int) ≤ -1 from z) (by decide), b3, fr_mono' b4 (by decide)⟩
  rw [if_pos hv]
  obtain ⟨n, n40, e, hq⟩ : ∃ n : Nat, n < 41 ∧ v = (n : Int) ∧ rchP K p (K (25 + p)) (tied0 K p) rocks n j k.toNat := by
    rcases b1 with ⟨n, n40, e, hq, _⟩ | ⟨e, _⟩
    · exact ⟨n, by omega, e, hq⟩
    · exact absurd e hv
  subst e
  obtain ⟨g1, g2, g3⟩ := b2 (by omega)
  rw [Int.toNat_natCast] at g1
  have hR1 : CR K m1 := CR_fr hR (fun o z1 z2 => b4 o (by unfold WC; simp; omega))
  refine ok_bV (c_traceBack hR1 hV p0 p1 b3 g2 g1 j0 j1 k0 k1 hq) ?_
  rintro m2 ⟨d1, d2⟩
  have hA2 : AhR K p (K (25 + p)) (tied0 K p) rocks m2 := AhR_fr b3 (d2 18 (by decide)) (d2 78 (by decide)) (d2 79 (by decide)) (d2 80 (by decide)) (d2 81 (by decide))
  have hR2 : CR K m2 := CR_fr hR1 (fun o z1 z2 => d2 o (by simp; omega))
  have F2 : Fr WD m m2 := fr_trans (fr_mono' b4 (by decide)) (fr_mono' d2 (by decide))
  have e12 : m2 18 12 = p := hA2.2.2.1.1
  have e16 : (n : Int) ≤ m2 18 16 := by rw [d2 18 (by decide)]; exact g2
  have e28 : m2 28 p = K (13 + p) := by rw [show 13 + p = 9 + (4 + p) by omega]; exact (hR2.2.2 p p0 p1).1
  have e29 : m2 29 p = K (17 + p) := by rw [show 17 + p = 9 + (8 + p) by omega]; exact (hR2.2.2 p p0 p1).2.1
  rw [e12, chk_of (by omega), chk_of (by omega), e28, e29]
  refine lp_ok (fun (t : Int × Int × Int) (mm : Mem) => (∃ h : Nat, h ≤ n ∧ t = ((posV K p (K (25 + p)) (tied0 K p) rocks n j k.toNat h).1, (posV K p (K (25 + p)) (tied0 K p) rocks n j k.toNat h).2, (h : Int) + 1) ∧ ∀ h' : Nat, h' < h → mm 85 ((h' : Int) + 1) = turnV K p (K (25 + p)) (tied0 K p) rocks n j k.toNat h') ∧ Fr [85] m2 mm) (fun t _ => ((n : Int) + 1 - t.2.2).toNat) ⟨⟨0, by omega, rfl, fun h' z => by omega⟩, fr_refl⟩ (by show ((n : Int) + 1 - 1).toNat < 1000000; omega) ?_
  rintro G t mm ⟨⟨h, hh, rfl, hT⟩, hF⟩ ih
  simp only
  have hAm : AhR K p (K (25 + p)) (tied0 K p) rocks mm := AhR_fr hA2 (hF 18 (by decide)) (hF 78 (by decide)) (hF 79 (by decide)) (hF 80 (by decide)) (hF 81 (by decide))
  have hRm : CR K mm := CR_fr hR2 (fun o z1 z2 => hF o (by simp; omega))
  have Fm : Fr WD m mm := fr_trans F2 (fr_mono' hF (by decide))
  have hx := pos_ok hV p0 p1 hq h hh
  have rg := pos_rg hV p0 p1 hq hh
  by_cases hz : h = n
  · rw [if_pos (by omega)]
    subst hz
    refine ok_some ⟨b1, fun _ h' z => ?_, hAm, Fm⟩
    rw [Int.toNat_natCast]; exact hT h' (by simp only at z; omega)
  · rw [if_neg (by omega)]
    have hf := hx.2 (by omega)
    have hB : BackR K p (K (25 + p)) (tied0 K p) rocks n j k.toNat mm := fun h' a i z0 z1 => by rw [hF 83 (by decide)]; exact d1 h' a i z0 z1
    have eb := c_bestTurns (h := h + 1) hRm hV p0 p1 hAm (by rw [hF 18 (by decide)]; omega) (by omega) (by omega) (by omega) hB rg.1.1 rg.1.2 rg.2.1 rg.2.2 hf
    rw [show ((h + 1 : Nat) : Int) = (h : Int) + 1 by omega] at eb
    rw [eb, bR_some, chk_of (by omega), chk_of (by omega), up_same]
    have hi := hf.1
    have hg := hf.2.1
    have es := show posV K p (K (25 + p)) (tied0 K p) rocks n j k.toNat (h + 1) = (oneF K p rocks ((h : Int) + 1) 0 (posV K p (K (25 + p)) (tied0 K p) rocks n j k.toNat h).1 (turnI K p (K (25 + p)) (tied0 K p) rocks n j k.toNat h / 5), oneF K p rocks ((h : Int) + 1) 1 (posV K p (K (25 + p)) (tied0 K p) rocks n j k.toNat h).2 (turnI K p (K (25 + p)) (tied0 K p) rocks n j k.toNat h % 5)) from rfl
    have et := show turnV K p (K (25 + p)) (tied0 K p) rocks n j k.toNat h = turnI K p (K (25 + p)) (tied0 K p) rocks n j k.toNat h / 5 * 10 + turnI K p (K (25 + p)) (tied0 K p) rocks n j k.toNat h % 5 from rfl
    obtain ⟨ga, gb, gc⟩ := hg
    rw [show ((h + 1 : Nat) : Int) = (h : Int) + 1 by omega] at ga gb
    have u1 := oneF_bes rg.1.1 rg.1.2 ga
    have u2 := oneF_bes rg.2.1 rg.2.2 gb
    rw [← u1, ← u2] at es
    rw [← et]
    have hRu : CR K (up mm 85 ((h : Int) + 1) (turnV K p (K (25 + p)) (tied0 K p) rocks n j k.toNat h)) := CR_fr hRm (fun o z1 z2 => up_cell (by omega))
    generalize hi' : turnI K p (K (25 + p)) (tied0 K p) rocks n j k.toNat h = i at *
    rw [tdiv_e 10 (by omega), tmod_e 10 (by omega), c_beside hRu.1 hw.1.1 hw.1.2 hw.2.1 hw.2.2 rg.1.1 rg.1.2, bR_some, chk_of (by omega), c_beside hRu.1 hw.1.1 hw.1.2 hw.2.1 hw.2.2 rg.2.1 rg.2.2, bR_some, w32_id (by omega) (by omega)]
    refine ih _ _ ⟨⟨h + 1, by omega, ?_, fun h' z => ?_⟩, fr_up (by simp) hF⟩ (by show ((n : Int) + 1 - ((h : Int) + 1 + 1)).toNat < ((n : Int) + 1 - ((h : Int) + 1)).toNat; omega)
    · rw [es, et, show (i / 5 * 10 + i % 5) / 10 = i / 5 by omega, show (i / 5 * 10 + i % 5) % 10 = i % 5 by omega, show ((h + 1 : Nat) : Int) = (h : Int) + 1 by omega]
    · by_cases e : h' = h
      · subst e; rw [up_same]
      · rw [up_idx (by omega)]; exact hT h' (by omega)

/-! ===== D35: clear ===== -/
noncomputable def cutR (K : Int → Int) (i : Int) : Int := iand (K 8) (ixor (ishl 1 i) (-1))
noncomputable def outV (K : Int → Int) (p j k i : Int) : Int := wayV K p (K (25 + p)) (tied0 K p) (cutR K i) j k
noncomputable def clearV (K : Int → Int) (p j k : Int) : Nat → Int → Int → Int → Int
  | 0, _, _, b => b
  | d + 1, i, l, b => if tb (K 8) i.toNat = true ∧ outV K p j k i ≠ -1 ∧ outV K p j k i < l then clearV K p j k d (i + 1) (outV K p j k i) i else clearV K p j k d (i + 1) l b
theorem clearV_yes {K : Int → Int} {p j k i l b : Int} {d : Nat} (h : tb (K 8) i.toNat = true ∧ outV K p j k i ≠ -1 ∧ outV K p j k i < l) : clearV K p j k (d + 1) i l b = clearV K p j k d (i + 1) (outV K p j k i) i := by
  show (if _ then _ else _) = _
  rw [if_pos h]
theorem clearV_no {K : Int → Int} {p j k i l b : Int} {d : Nat} (h : ¬ (tb (K 8) i.toNat = true ∧ outV K p j k i ≠ -1 ∧ outV K p j k i < l)) : clearV K p j k (d + 1) i l b = clearV K p j k d (i + 1) l b := by
  show (if _ then _ else _) = _
  rw [if_neg h]
theorem outV_rg (K : Int → Int) (p j k i : Int) : -1 ≤ outV K p j k i ∧ outV K p j k i ≤ 40 := firstV_rg _
theorem clearV_41 {K : Int → Int} {p j k : Int} : ∀ (d : Nat) (i b : Int), clearV K p j k d i 41 b = clearV K p j k d i 536870912 b := by
  intro d
  induction d with
  | zero => intro i b; rfl
  | succ d ih =>
    intro i b
    have r := outV_rg K p j k i
    by_cases h : tb (K 8) i.toNat = true ∧ outV K p j k i ≠ -1
    · rw [clearV_yes ⟨h.1, h.2, by omega⟩, clearV_yes ⟨h.1, h.2, by omega⟩]
    · rw [clearV_no (fun q => h ⟨q.1, q.2.1⟩), clearV_no (fun q => h ⟨q.1, q.2.1⟩), ih]
noncomputable def clearA (K : Int → Int) (p j k : Int) : Int :=
  clearV K p j k (K 1 * K 2).toNat 0 (if wayV K p (K (25 + p)) (tied0 K p) (K 8) j k = -1 then 536870912 else wayV K p (K (25 + p)) (tied0 K p) (K 8) j k) (-1)
theorem pl_25 {K : Int → Int} (h : IsV K) : 0 ≤ K 1 * K 2 ∧ K 1 * K 2 ≤ 25 := by
  rcases h.1 with ⟨a, b, _⟩ | ⟨a, b, d, e⟩
  · rw [a, b]; omega
  · have := area_le a b d e; omega
theorem laid_fr {K : Int → Int} {p rope : Int} {tied : Bool} {m m' : Mem} (h : LaidR K p rope tied m) (h1 : m' 296 = m 296) (h2 : m' 299 = m 299) (h3 : m' 300 = m 300) : LaidR K p rope tied m' := by
  unfold LaidR at h ⊢
  rw [h1, h2, h3]
  exact h
theorem c_rock {K : Int → Int} {c p j k : Int} {m : Mem} (hR : CR K m) (hP : PairV c K p (K (25 + p))) (hA : AhR K p (K (25 + p)) (tied0 K p) (K 8) m) (j0 : 0 ≤ j) (j1 : j < K 1 * K 2) (k0 : 0 ≤ k) (k1 : k < K 1 * K 2) :
    Ok (fX0_rockInTheWay j k m) (fun r => r.1 = clearA K p j k ∧ (∃ rocks, AhR K p (K (25 + p)) (tied0 K p) rocks r.2) ∧ Fr WC m r.2) := by
  have hV := hP.1
  have hN1 : K 1 * K 2 ≤ 25 := (pl_25 hV.1).2
  unfold fX0_rockInTheWay
  simp only [rd_eq, jn_eq]
  rw [hR.1.1.2.2.2.1]
  refine ok_bW (c_hoursTo hR hP hA j0 j1 k0 k1) ?_
  rintro v m2 ⟨b1, _, b2, b3⟩
  simp only at b1 b2 b3
  have ev : v = wayV K p (K (25 + p)) (tied0 K p) (K 8) j k := firstV_eq b1
  have rv := firstV_rg (fun h => rchP K p (K (25 + p)) (tied0 K p) (K 8) h j k.toNat)
  have go : ∀ l0 : Int, l0 = (if v = -1 then 41 else v) → Ok (lp BIG (fun K6 (t5 : Int × Int × Int) mm => (if mm 18 9 ≤ t5.2.2 then some (t5.2.1, mm) else bR (fX3_isRock t5.2.2 mm) fun x8 => (if x8 = (0 : Int) then K6 (t5.1, t5.2.1, w32 (t5.2.2 + 1)) mm else bW (fX0_hoursTo j k (iand (mm 20 3) (ixor (ishl 1 t5.2.2) (-1))) mm) fun x12 mm => (if x12 = -1 then K6 (t5.1, t5.2.1, w32 (t5.2.2 + 1)) mm else (if t5.1 ≤ x12 then K6 (t5.1, t5.2.1, w32 (t5.2.2 + 1)) mm else K6 (x12, t5.2.2, w32 (t5.2.2 + 1)) mm))))) (l0, -1, 0) m2) (fun r => r.1 = clearA K p j k ∧ (∃ rocks, AhR K p (K (25 + p)) (tied0 K p) rocks r.2) ∧ Fr WC m r.2) := by
    intro l0 hl
    have h0 : clearV K p j k (K 1 * K 2).toNat 0 l0 (-1) = clearA K p j k := by
      unfold clearA
      rw [← ev]
      by_cases hv : v = -1
      · rw [if_pos hv, hl, if_pos hv, clearV_41]
      · rw [if_neg hv, hl, if_neg hv]
    refine lp_ok (fun (t : Int × Int × Int) (mm : Mem) => (0 ≤ t.2.2 ∧ t.2.2 ≤ K 1 * K 2) ∧ clearV K p j k (K 1 * K 2 - t.2.2).toNat t.2.2 t.1 t.2.1 = clearA K p j k ∧ (∃ rocks, AhR K p (K (25 + p)) (tied0 K p) rocks mm) ∧ Fr WC m mm) (fun t _ => (K 1 * K 2 - t.2.2).toNat) ⟨(by show (0 : Int) ≤ 0 ∧ (0 : Int) ≤ _; omega), (by show clearV K p j k (K 1 * K 2 - 0).toNat 0 l0 (-1) = _; rw [Int.sub_zero]; exact h0), ⟨_, b2⟩, b3⟩ (by show (K 1 * K 2 - 0).toNat < 1000000; omega) ?_
    rintro G ⟨l, b, i⟩ mm ⟨⟨i0, i1⟩, hv, ⟨r0, hA1⟩, hF⟩ ih
    simp only at i0 i1 hv ⊢
    have hR1 : CR K mm := CR_fr hR (fun o z1 z2 => hF o (by unfold WC; simp; omega))
    have h9 : mm 18 9 = K 1 * K 2 := hA1.1.1
    rw [h9]
    by_cases hx : i = K 1 * K 2
    · rw [if_pos (by omega)]
      subst hx
      rw [Int.sub_self] at hv
      exact ok_some ⟨hv, ⟨_, hA1⟩, hF⟩
    · rw [if_neg (by omega), c_isRock hR1 i0 (by omega), bR_some, hR1.1.1.2.2.2.1]
      rw [show (K 1 * K 2 - i).toNat = (K 1 * K 2 - (i + 1)).toNat + 1 by omega] at hv
      have hμ : (K 1 * K 2 - (i + 1)).toNat < (K 1 * K 2 - i).toNat := by omega
      rw [w32_id (by omega) (by omega)]
      cases htb : tb (K 8) i.toNat
      · rw [if_pos (by simp)]
        rw [clearV_no (by rw [htb]; simp)] at hv
        exact ih _ mm ⟨(by show 0 ≤ i + 1 ∧ i + 1 ≤ _; omega), hv, ⟨_, hA1⟩, hF⟩ hμ
      · rw [if_neg (by simp)]
        refine ok_bW (c_hoursTo hR1 hP hA1 j0 j1 k0 k1) ?_
        rintro u m3 ⟨d1, _, d2, d3⟩
        simp only at d1 d2 d3
        have eu : u = outV K p j k i := firstV_eq d1
        have F := fr_trans hF d3
        by_cases hu : u = -1
        · rw [if_pos hu]
          rw [clearV_no (by rw [← eu]; simp [hu])] at hv
          exact ih _ m3 ⟨(by show 0 ≤ i + 1 ∧ i + 1 ≤ _; omega), hv, ⟨_, d2⟩, F⟩ hμ
        · rw [if_neg hu]
          by_cases hl : l ≤ u
          · rw [if_pos hl]
            rw [clearV_no (by rw [← eu]; omega)] at hv
            exact ih _ m3 ⟨(by show 0 ≤ i + 1 ∧ i + 1 ≤ _; omega), hv, ⟨_, d2⟩, F⟩ hμ
          · rw [if_neg hl]
            rw [clearV_yes ⟨htb, by rw [← eu]; exact hu, by rw [← eu]; omega⟩, ← eu] at hv
            exact ih _ m3 ⟨(by show 0 ≤ i + 1 ∧ i + 1 ≤ _; omega), hv, ⟨_, d2⟩, F⟩ hμ
  by_cases hv : v = -1
  · rw [if_neg (by omega)]; exact go 41 (by rw [if_pos hv])
  · rw [if_pos hv]; exact go v (by rw [if_neg hv])
theorem d_clear {c p j k : Int} {m : Mem} (hI : Inv c m) (c0 : 0 ≤ c) (c1 : c ≤ 900000) : Two1 c (fL_clear p j k) (fX12_clear p j k) m := by
  obtain ⟨hR, hV, hn⟩ := inv_parts hI
  refine two_a (x := fX11_clear p j k) (k := if (0 ≤ p ∧ p < m 288 3) ∧ (0 ≤ j ∧ j < m 288 1 * m 288 2) ∧ (0 ≤ k ∧ k < m 288 1 * m 288 2) then 0 else 3) (k' := if (0 ≤ p ∧ p < m 288 3) ∧ (0 ≤ j ∧ j < m 288 1 * m 288 2) ∧ (0 ≤ k ∧ k < m 288 1 * m 288 2) then 0 else 1) (Φ := fun v => v = clearA (m 288) p j k) hI c0 (fun a b ha hb => ha.trans hb.symm) ?_ (fun _ _ => rfl) ?_ ?_ (fun m1 hI1 e _ _ _ => ?_)
  · unfold fX11_clear
    rw [c_needWalk hR hV, bX_if (by decide)]
    by_cases hp : (0 ≤ p ∧ p < m 288 3) ∧ (0 ≤ j ∧ j < m 288 1 * m 288 2) ∧ (0 ≤ k ∧ k < m 288 1 * m 288 2)
    · rw [if_pos hp, if_pos hp]
      have l3 := hV.1.2.1
      have hP := own_pair hV (show c ≤ 1000000 by omega) hp.1.1 hp.1.2
      refine ok_bV (c_begin hR hV hp.1.1 hp.1.2 hn) ?_
      rintro m1 ⟨a1, a2⟩
      have hR1 : CR (m 288) m1 := CR_fr hR (fun o a b => a2 o (by simp; omega))
      refine ok_bW (c_rock hR1 hP a1 hp.2.1.1 hp.2.1.2 hp.2.2.1 hp.2.2.2) ?_
      rintro v m2 ⟨b1, ⟨_, b2⟩, b3⟩
      exact ok_some (aq0 hI hV hp.1.1 hp.1.2 b1 b2 (fr_trans (fr_mono' a2 (by decide)) (fr_mono' b3 (by decide))))
    · rw [if_neg hp, if_neg hp]
      exact ok_some (aq1 hI (by decide))
  · by_cases hp : (0 ≤ p ∧ p < m 288 3) ∧ (0 ≤ j ∧ j < m 288 1 * m 288 2) ∧ (0 ≤ k ∧ k < m 288 1 * m 288 2) <;> simp [hp]
  · by_cases hp : (0 ≤ p ∧ p < m 288 3) ∧ (0 ≤ j ∧ j < m 288 1 * m 288 2) ∧ (0 ≤ k ∧ k < m 288 1 * m 288 2) <;> simp [hp]
  · rw [← e] at hV ⊢
    unfold fX12_clear
    rw [m_isWayOut rfl hV, bW_some]
    by_cases hp : (0 ≤ p ∧ p < m1 288 3) ∧ (0 ≤ j ∧ j < m1 288 1 * m1 288 2) ∧ (0 ≤ k ∧ k < m1 288 1 * m1 288 2)
    · rw [if_pos hp, if_pos rfl]
      have l3 := hV.1.2.1
      have hP := own_pair hV (show c ≤ 1000000 by omega) hp.1.1 hp.1.2
      have hN1 : m1 288 1 * m1 288 2 ≤ 25 := (pl_25 hV.1).2
      have hK0 : up m1 287 4 0 288 = m1 288 := up_cell (by decide)
      obtain ⟨h4, hN, hF0⟩ := am_thrown (m := m1) (k := 0)
      generalize up m1 287 4 0 = m2 at *
      refine ok_bV (m_laysOwn hK0 hV (by omega) hp.1.1 hp.1.2) ?_
      rintro m3 ⟨a1, a2, a3, a4⟩
      have hK3 := (a4 288 (by decide)).trans hK0
      refine ok_bW (m_wayOf hK3 hP a1 a2 hp.2.1.1 hp.2.1.2 hp.2.2.1 hp.2.2.2) ?_
      rintro v m4 ⟨b1, _, b3⟩
      simp only at b1 b3
      have ev : v = wayV (m1 288) p (m1 288 (25 + p)) (tied0 (m1 288) p) (m1 288 8) j k := firstV_eq b1
      have hK4 : m4 288 = m1 288 := (b3 288 (by decide)).trans hK3
      simp only [rd_eq, wr_eq, jn_eq]
      have go : ∀ l0 : Int, l0 = (if v = -1 then 536870912 else v) → Ok (lp BIG (fun K6 (t5 : Int × Int × Int) mm => bR (fX12_places mm) fun x7 => (if x7 ≤ t5.2.2 then some (t5.2.1, mm) else bR (fX12_has (mm 288 8) t5.2.2 mm) fun x9 => (if ¬ x9 = (0 : Int) then bW (fX12_wayOf p j k (up mm 287 28 (iand (mm 288 8) (ixor (ishl 1 t5.2.2) (-1))))) fun x13 mm => (if x13 = -1 then K6 (t5.1, t5.2.1, w32 (t5.2.2 + 1)) mm else (if x13 < t5.1 then K6 (x13, t5.2.2, w32 (t5.2.2 + 1)) mm else K6 (t5.1, t5.2.1, w32 (t5.2.2 + 1)) mm)) else K6 (t5.1, t5.2.1, w32 (t5.2.2 + 1)) mm))) (l0, -1, 0) m4) (AM 0 (fun v => v = clearA (m1 288) p j k) m1) := by
        intro l0 hl
        have h0 : clearV (m1 288) p j k (m1 288 1 * m1 288 2).toNat 0 l0 (-1) = clearA (m1 288) p j k := by
          unfold clearA
          rw [← ev, hl]
        refine lp_ok (fun (t : Int × Int × Int) (mm : Mem) => (0 ≤ t.2.2 ∧ t.2.2 ≤ m1 288 1 * m1 288 2) ∧ clearV (m1 288) p j k (m1 288 1 * m1 288 2 - t.2.2).toNat t.2.2 t.1 t.2.1 = clearA (m1 288) p j k ∧ LaidR (m1 288) p (m1 288 (25 + p)) (tied0 (m1 288) p) mm ∧ (∀ i, i ≠ 28 → mm 287 i = m2 287 i) ∧ Fr (287 :: 298 :: LC) m2 mm) (fun t _ => (m1 288 1 * m1 288 2 - t.2.2).toNat) ⟨(by show (0 : Int) ≤ 0 ∧ (0 : Int) ≤ _; omega), (by show clearV (m1 288) p j k (m1 288 1 * m1 288 2 - 0).toNat 0 l0 (-1) = _; rw [Int.sub_zero]; exact h0), laid_fr a1 (b3 296 (by decide)) (b3 299 (by decide)) (b3 300 (by decide)), fun i hi => (congrFun (b3 287 (by decide)) i).trans (a3 i hi), fr_trans (fr_mono' a4 (by decide)) (fr_mono' b3 (by decide))⟩ (by show (m1 288 1 * m1 288 2 - 0).toNat < 1000000; omega) ?_
        rintro G ⟨l, b, i⟩ mm ⟨⟨i0, i1⟩, hv, hL, h28, hF⟩ ih
        simp only at i0 i1 hv ⊢
        have hK5 : mm 288 = m1 288 := (hF 288 (by decide)).trans hK0
        rw [m_places hK5 hV.1, bR_some, hK5]
        by_cases hx : i = m1 288 1 * m1 288 2
        · rw [if_pos (by omega)]
          rw [hx, Int.sub_self] at hv
          exact ok_some (am0 h4 hN hF0 h28 (fr_mono' hF (by decide)) hv)
        · rw [if_neg (by omega), m_has i0 (by omega), bR_some]
          rw [show (m1 288 1 * m1 288 2 - i).toNat = (m1 288 1 * m1 288 2 - (i + 1)).toNat + 1 by omega] at hv
          have hμ : (m1 288 1 * m1 288 2 - (i + 1)).toNat < (m1 288 1 * m1 288 2 - i).toNat := by omega
          rw [w32_id (by omega) (by omega)]
          cases htb : tb (m1 288 8) i.toNat
          · rw [if_neg (by simp)]
            rw [clearV_no (by rw [htb]; simp)] at hv
            exact ih _ mm ⟨(by show 0 ≤ i + 1 ∧ i + 1 ≤ _; omega), hv, hL, h28, hF⟩ hμ
          · rw [if_pos (by simp)]
            have fu : Fr [287] mm (up mm 287 28 (iand (m1 288 8) (ixor (ishl 1 i) (-1)))) := fun o ho => up_cell (by simpa using ho)
            refine ok_bW (m_wayOf (rocks := cutR (m1 288) i) ((fu 288 (by decide)).trans hK5) hP (laid_fr hL (fu 296 (by decide)) (fu 299 (by decide)) (fu 300 (by decide))) (up_same _ _ _ _) hp.2.1.1 hp.2.1.2 hp.2.2.1 hp.2.2.2) ?_
            rintro u m5 ⟨d1, _, d3⟩
            simp only at d1 d3
            have eu : u = outV (m1 288) p j k i := firstV_eq d1
            have F := fr_trans hF (fr_trans (fr_mono' fu (by decide)) (fr_mono' d3 (by decide)))
            have g28 : ∀ i, i ≠ 28 → m5 287 i = m2 287 i := fun x hx => by rw [d3 287 (by decide), up_idx hx]; exact h28 x hx
            have hL5 : LaidR (m1 288) p (m1 288 (25 + p)) (tied0 (m1 288) p) m5 := laid_fr (laid_fr hL (fu 296 (by decide)) (fu 299 (by decide)) (fu 300 (by decide))) (d3 296 (by decide)) (d3 299 (by decide)) (d3 300 (by decide))
            by_cases hu : u = -1
            · rw [if_pos hu]
              rw [clearV_no (by rw [← eu]; simp [hu])] at hv
              exact ih _ m5 ⟨(by show 0 ≤ i + 1 ∧ i + 1 ≤ _; omega), hv, hL5, g28, F⟩ hμ
            · rw [if_neg hu]
              by_cases hl : u < l
              · rw [if_pos hl]
                rw [clearV_yes ⟨htb, by rw [← eu]; exact hu, by rw [← eu]; omega⟩, ← eu] at hv
                exact ih _ m5 ⟨(by show 0 ≤ i + 1 ∧ i + 1 ≤ _; omega), hv, hL5, g28, F⟩ hμ
              · rw [if_neg hl]
                rw [clearV_no (by rw [← eu]; omega)] at hv
                exact ih _ m5 ⟨(by show 0 ≤ i + 1 ∧ i + 1 ≤ _; omega), hv, hL5, g28, F⟩ hμ
      by_cases hv : v = -1
      · rw [if_neg (by omega)]; exact go 536870912 (by rw [if_pos hv])
      · rw [if_pos hv]; exact go v (by rw [if_neg hv])
    · rw [if_neg hp, if_neg (by decide)]
      exact ok_some (am1 (by decide))

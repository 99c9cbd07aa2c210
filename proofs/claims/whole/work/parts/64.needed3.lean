/-! ===== D44: needed, the two ===== -/
theorem d_needed {c p j k : Int} {m : Mem} (hI : Inv c m) (c0 : 0 ≤ c) (c1 : c ≤ 900000) : Two1 c (fL_needed p j k) (fX12_needed p j k) m := by
  obtain ⟨hR, hV, hn⟩ := inv_parts hI
  refine two_a (x := fX11_needed p j k) (k := if (0 ≤ p ∧ p < m 288 3) ∧ (0 ≤ j ∧ j < m 288 1 * m 288 2) ∧ (0 ≤ k ∧ k < m 288 1 * m 288 2) then 0 else 3) (k' := if (0 ≤ p ∧ p < m 288 3) ∧ (0 ≤ j ∧ j < m 288 1 * m 288 2) ∧ (0 ≤ k ∧ k < m 288 1 * m 288 2) then 0 else 1) (Φ := fun v => Bits v (needP (m 288) p j k)) hI c0 (fun a b ha hb => bits_eq ha hb (fun _ _ => Iff.rfl)) ?_ (fun _ _ => rfl) ?_ ?_ (fun m1 hI1 e _ _ _ => ?_)
  · unfold fX11_needed
    rw [c_needWalk hR hV, bX_if (by decide)]
    by_cases hp : (0 ≤ p ∧ p < m 288 3) ∧ (0 ≤ j ∧ j < m 288 1 * m 288 2) ∧ (0 ≤ k ∧ k < m 288 1 * m 288 2)
    · rw [if_pos hp, if_pos hp]
      have l3 := hV.1.2.1
      have hP := own_pair hV (show c ≤ 1000000 by omega) hp.1.1 hp.1.2
      refine ok_bV (c_begin hR hV hp.1.1 hp.1.2 hn) ?_
      rintro m1 ⟨a1, a2⟩
      have hR1 : CR (m 288) m1 := CR_fr hR (fun o a b => a2 o (by simp; omega))
      refine ok_bW (c_findWay hR1 hP a1 hp.2.1.1 hp.2.1.2 hp.2.2.1 hp.2.2.2) ?_
      rintro v m2 ⟨b1, b2, b3, b4⟩
      simp only at b1 b2 b3 b4
      have ev : v = ownV (m 288) p j k := firstV_eq b1
      have hR2 : CR (m 288) m2 := CR_fr hR1 (fun o z1 z2 => b4 o (by unfold WD; simp; omega))
      refine ok_bW (c_neededPlaces hR2 hP b3 hp.2.1.1 hp.2.1.2 hp.2.2.1 hp.2.2.2 ev b2) ?_
      rintro u m3 ⟨d1, ⟨_, d2⟩, d3⟩
      exact ok_some (aq0 hI hV hp.1.1 hp.1.2 d1 d2 (fr_trans (fr_mono' a2 (by decide)) (fr_trans b4 (fr_mono' d3 (by decide)))))
    · rw [if_neg hp, if_neg hp]
      exact ok_some (aq1 hI (by decide))
  · by_cases hp : (0 ≤ p ∧ p < m 288 3) ∧ (0 ≤ j ∧ j < m 288 1 * m 288 2) ∧ (0 ≤ k ∧ k < m 288 1 * m 288 2) <;> simp [hp]
  · by_cases hp : (0 ≤ p ∧ p < m 288 3) ∧ (0 ≤ j ∧ j < m 288 1 * m 288 2) ∧ (0 ≤ k ∧ k < m 288 1 * m 288 2) <;> simp [hp]
  · rw [← e] at hV ⊢
    unfold fX12_needed
    rw [m_isWayOut rfl hV, bW_some]
    by_cases hp : (0 ≤ p ∧ p < m1 288 3) ∧ (0 ≤ j ∧ j < m1 288 1 * m1 288 2) ∧ (0 ≤ k ∧ k < m1 288 1 * m1 288 2)
    · rw [if_pos hp, if_pos rfl]
      have l3 := hV.1.2.1
      have hP := own_pair hV (show c ≤ 1000000 by omega) hp.1.1 hp.1.2
      have hN1 : m1 288 1 * m1 288 2 ≤ 25 := (pl_25 hV.1).2
      have hS := (curV_iff.mp hV.2).1 p hp.1.1 hp.1.2
      have hK0 : up m1 287 4 0 288 = m1 288 := up_cell (by decide)
      obtain ⟨h4, hN, hF0⟩ := am_thrown (m := m1) (k := 0)
      generalize up m1 287 4 0 = m2 at *
      refine ok_bV (m_laysOwn hK0 hV (by omega) hp.1.1 hp.1.2) ?_
      rintro m3 ⟨a1, a2, a3, a4⟩
      have hK3 := (a4 288 (by decide)).trans hK0
      refine ok_bW (m_wayOf hK3 hP a1 a2 hp.2.1.1 hp.2.1.2 hp.2.2.1 hp.2.2.2) ?_
      rintro v m4 ⟨b1, _, b3⟩
      simp only at b1 b3
      have ev : v = ownV (m1 288) p j k := firstV_eq b1
      simp only [rd_eq, wr_eq, jn_eq]
      have f4 : Fr (287 :: 298 :: LC) m2 m4 := fr_trans (fr_mono' a4 (by decide)) (fr_mono' b3 (by decide))
      have g4 : ∀ i, i ≠ 28 → m4 287 i = m2 287 i := fun i hi => (congrFun (b3 287 (by decide)) i).trans (a3 i hi)
      by_cases hv : v = -1
      · rw [if_neg (by omega)]
        exact ok_some (am0 h4 hN hF0 g4 (fr_mono' f4 (by decide)) (bits_zero (fun i _ z => z.1 (ev.symm.trans hv))))
      · rw [if_pos hv]
        refine lp_for2 (m1 288 1 * m1 288 2) (fun t i mm => 0 ≤ i ∧ Bits t (fun q => (q : Int) < i ∧ needP (m1 288) p j k q) ∧ LaidR (m1 288) p (m1 288 (25 + p)) (tied0 (m1 288) p) mm ∧ (∀ i, i ≠ 28 → mm 287 i = m2 287 i) ∧ Fr (287 :: 298 :: LC) m2 mm) ⟨by omega, bits_zero (fun q _ z => by omega), laid_fr a1 (b3 296 (by decide)) (b3 299 (by decide)) (b3 300 (by decide)), g4, f4⟩ (by omega) (by omega) ?_ ?_
        · rintro G t i mm hi ⟨i0, ht, hL, h28, hF⟩ ih
          simp only
          have hK5 : mm 288 = m1 288 := (hF 288 (by decide)).trans hK0
          have ei : ((i.toNat : Nat) : Int) = i := Int.toNat_of_nonneg i0
          rw [m_places hK5 hV.1, bR_some, hK5, if_neg (by omega), m_has i0 (by omega), bR_some, w32_id (x := i + 1) (by omega) (by omega)]
          have same : (¬ needP (m1 288) p j k i.toNat) → Bits t (fun q => (q : Int) < i + 1 ∧ needP (m1 288) p j k q) := fun hno => bits_imp ht (fun q _ => ⟨fun z => ⟨by omega, z.2⟩, fun z => ⟨by
            by_cases e : q = i.toNat
            · exact absurd (e ▸ z.2) hno
            · omega, z.2⟩⟩)
          have keep : (¬ needP (m1 288) p j k i.toNat) → Ok (G (t, i + 1) mm) (AM 0 (fun v => Bits v (needP (m1 288) p j k)) m1) := fun hno => ih _ _ ⟨by omega, same hno, hL, h28, hF⟩
          cases htb : tb (m1 288 8) i.toNat
          · rw [if_neg (by simp)]
            by_cases h1 : i = j
            · rw [if_pos h1]; exact keep (fun z => z.2.1.2.2.1 (by omega))
            rw [if_neg h1]
            by_cases h2 : i = k
            · rw [if_pos h2]; exact keep (fun z => z.2.1.2.2.2 (by omega))
            rw [if_neg h2, w32_id (x := 13 + p) (by omega) (by omega), chk_of (by omega)]
            by_cases h3 : i = m1 288 (13 + p)
            · rw [if_pos h3]; exact keep (fun z => z.2.1.2.1.1 (by omega))
            rw [if_neg h3, w32_id (x := 17 + p) (by omega) (by omega), chk_of (by omega)]
            by_cases h5 : i = m1 288 (17 + p)
            · rw [if_neg (fun q => q h5)]; exact keep (fun z => z.2.1.2.1.2 (by omega))
            rw [if_pos h5]
            have fu : Fr [287] mm (up mm 287 28 (ior (m1 288 8) (ishl 1 i))) := fun o ho => up_cell (by simpa using ho)
            refine ok_bW (m_wayOf (rocks := ior (m1 288 8) (ishl 1 i)) ((fu 288 (by decide)).trans hK5) hP (laid_fr hL (fu 296 (by decide)) (fu 299 (by decide)) (fu 300 (by decide))) (up_same _ _ _ _) hp.2.1.1 hp.2.1.2 hp.2.2.1 hp.2.2.2) ?_
            rintro u m5 ⟨d1, _, d3⟩
            simp only at d1 d3
            have eu : u = withV (m1 288) p j k i := firstV_eq d1
            have F := fr_trans hF (fr_trans (fr_mono' (T := 287 :: 298 :: LC) fu (by decide)) (fr_mono' d3 (by decide)))
            have g28 : ∀ i, i ≠ 28 → m5 287 i = m2 287 i := fun x hx => by rw [d3 287 (by decide), up_idx hx]; exact h28 x hx
            have hL5 : LaidR (m1 288) p (m1 288 (25 + p)) (tied0 (m1 288) p) m5 := laid_fr (laid_fr hL (fu 296 (by decide)) (fu 299 (by decide)) (fu 300 (by decide))) (d3 296 (by decide)) (d3 299 (by decide)) (d3 300 (by decide))
            by_cases hu : u = -1
            · rw [if_neg (by omega)]
              refine ih _ _ ⟨by omega, bits_imp (bits_or ht i0 (by omega)) (fun q _ => ⟨?_, ?_⟩), hL5, g28, F⟩
              · rintro (z | z)
                · exact ⟨by omega, z.2⟩
                · subst z
                  refine ⟨by omega, fun z => hv (ev.trans z), ⟨by omega, by omega, by omega⟩, htb, ?_⟩
                  rw [ei, ← eu]; exact hu
              · intro z
                by_cases e : q = i.toNat
                · exact .inr e
                · exact .inl ⟨by omega, z.2⟩
            · rw [if_pos hu]
              refine ih _ _ ⟨by omega, ?_, hL5, g28, F⟩
              have hno : ¬ needP (m1 288) p j k i.toNat := fun z => hu (by have := z.2.2.2; rw [ei] at this; rw [eu]; exact this)
              refine bits_imp (bits_or2 (same hno) (bits_zero (P := fun _ => False) (fun _ _ z => z))) (fun q _ => ⟨?_, fun z => .inl z⟩)
              rintro (z | z)
              · exact z
              · exact z.elim
          · rw [if_pos (by simp)]
            exact keep (fun z => by rw [z.2.2.1] at htb; cases htb)
        · rintro G t mm ⟨_, ht, hL, h28, hF⟩
          simp only
          have hK5 : mm 288 = m1 288 := (hF 288 (by decide)).trans hK0
          rw [m_places hK5 hV.1, bR_some, if_pos (by omega)]
          exact ok_some (am0 h4 hN hF0 h28 (fr_mono' hF (by decide)) (bits_imp ht (fun q _ => ⟨fun z => z.2, fun z => ⟨z.2.1.1, z⟩⟩)))
    · rw [if_neg hp, if_neg (by decide)]
      exact ok_some (am1 (by decide))

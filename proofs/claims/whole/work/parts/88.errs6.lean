/-! ===== D68: errands, dropped ===== -/
theorem m_errandsFault {K : Int → Int} {t : Int} {m : Mem} (hK : m 288 = K) (hI : IsV K) (hT : TrayR m) : fX12_errandsFault t m = some (thrM (errR K (m 309) (m 310) (m 311) t)) := by
  have N25 := pl_25 hI
  unfold fX12_errandsFault errR
  rw [m_trayFault, bR_some]
  unfold tryF
  by_cases ht : 0 ≤ t ∧ t < 4
  · obtain ⟨tm, tr⟩ := tray_miss hT ht.1 ht.2
    rw [if_pos ht, if_pos ht]
    by_cases hm : m 309 t = -1
    · rw [if_pos hm, if_pos hm, if_neg (by decide)]; rfl
    · obtain ⟨r1, r2, r3, r4, r5⟩ := tr hm
      rw [if_neg hm, if_neg hm, if_pos rfl, chk_of (by omega)]
      simp only [rd_eq, jn_eq]
      rw [m_within, bR_some]
      refine ok_eq ?_
      refine lp_ok (fun (q : Int × Int) (mm : Mem) => ∃ j : Nat, q.2 = (j : Int) ∧ (j : Int) ≤ m 310 t ∧ mm = m ∧ q.1 = (if (1 ≤ m 310 t ∧ m 310 t ≤ 4) ∧ errB K (fun i => m 311 (30 * t + i)) j = true then 1 else 0)) (fun q _ => (m 310 t - q.2).toNat) ⟨0, rfl, by omega, rfl, ?_⟩ (by show (m 310 t - 0).toNat < _; omega) ?_
      · show (if 1 ≤ m 310 t ∧ m 310 t ≤ 4 then (1 : Int) else 0) = _
        by_cases hw : 1 ≤ m 310 t ∧ m 310 t ≤ 4
        · rw [if_pos hw, if_pos ⟨hw, rfl⟩]
        · rw [if_neg hw, if_neg (fun z => hw z.1)]
      rintro G ⟨f, i⟩ mm ⟨j, rfl, hj, rfl, hf⟩ ih
      simp only at hf ih ⊢
      rw [chk_of (by omega)]
      have fin : (mm 310 t ≤ (j : Int) ∨ f = 0) → Ok (if f = 0 then some (3 : Int) else some 0) (fun r => r = thrM (if 1 ≤ mm 310 t ∧ mm 310 t ≤ 4 then (if errB K (fun i => mm 311 (30 * t + i)) (mm 310 t).toNat = true then 0 else 1) else 1)) := by
        intro z
        by_cases hw : 1 ≤ mm 310 t ∧ mm 310 t ≤ 4
        · rw [if_pos hw]
          by_cases hs : errB K (fun i => mm 311 (30 * t + i)) j = true
          · rw [if_pos ⟨hw, hs⟩] at hf
            rw [if_neg (by omega)]
            rw [show (mm 310 t).toNat = j by omega, if_pos hs]
            exact ok_some rfl
          · rw [if_neg (fun q => hs q.2)] at hf
            rw [if_pos hf]
            have nz : ¬ errB K (fun i => mm 311 (30 * t + i)) (mm 310 t).toNat = true := fun q => hs (allB_pre ((mm 310 t).toNat - j) (by rw [show j + ((mm 310 t).toNat - j) = (mm 310 t).toNat by omega]; exact q))
            rw [if_neg nz]
            exact ok_some rfl
        · rw [if_neg (fun q => hw q.1)] at hf
          rw [if_pos hf, if_neg hw]
          exact ok_some rfl
      by_cases hq : mm 310 t ≤ (j : Int)
      · rw [if_pos hq]; exact fin (.inl hq)
      · rw [if_neg hq]
        by_cases hf0 : f = 0
        · rw [if_pos hf0]; exact fin (.inr hf0)
        · have hg : (1 ≤ mm 310 t ∧ mm 310 t ≤ 4) ∧ errB K (fun i => mm 311 (30 * t + i)) j = true := by
            by_cases z : (1 ≤ mm 310 t ∧ mm 310 t ≤ 4) ∧ errB K (fun i => mm 311 (30 * t + i)) j = true
            · exact z
            · rw [if_neg z] at hf; exact absurd hf hf0
          rw [if_neg hf0, w32_id (x := 30 * t) (by omega) (by omega), w32_id (x := 30 * t + (j : Int)) (by omega) (by omega), chk_of (by omega), m_within, bR_some, m_within, w32_id (x := (j : Int) + 1) (by omega) (by omega)]
          have es : errB K (fun i => mm 311 (30 * t + i)) (j + 1) = decide ((0 ≤ mm 311 (30 * t + (j : Int)) ∧ mm 311 (30 * t + (j : Int)) < K 1 * K 2) ∨ (100 ≤ mm 311 (30 * t + (j : Int)) ∧ mm 311 (30 * t + (j : Int)) < 100 + K 1 * K 2)) := by
            show (errB K (fun i => mm 311 (30 * t + i)) j && decide ((0 ≤ mm 311 (30 * t + (j : Int)) ∧ mm 311 (30 * t + (j : Int)) < K 1 * K 2) ∨ (100 ≤ mm 311 (30 * t + (j : Int)) ∧ mm 311 (30 * t + (j : Int)) < 100 + K 1 * K 2))) = _
            rw [hg.2]; rfl
          generalize mm 311 (30 * t + (j : Int)) = v at *
          have yes : ((0 ≤ v ∧ v < K 1 * K 2) ∨ (100 ≤ v ∧ v < 100 + K 1 * K 2)) → Ok (G (1, (j : Int) + 1) mm) (fun r => r = thrM (if 1 ≤ mm 310 t ∧ mm 310 t ≤ 4 then (if errB K (fun i => mm 311 (30 * t + i)) (mm 310 t).toNat = true then 0 else 1) else 1)) := by
            intro z
            refine ih (1, (j : Int) + 1) mm ⟨j + 1, by show (j : Int) + 1 = _; omega, by omega, rfl, ?_⟩ (by show (mm 310 t - ((j : Int) + 1)).toNat < (mm 310 t - (j : Int)).toNat; omega)
            show (1 : Int) = _
            rw [if_pos ⟨hg.1, by rw [es]; exact decide_eq_true z⟩]
          have no : ¬ ((0 ≤ v ∧ v < K 1 * K 2) ∨ (100 ≤ v ∧ v < 100 + K 1 * K 2)) → Ok (G (0, (j : Int) + 1) mm) (fun r => r = thrM (if 1 ≤ mm 310 t ∧ mm 310 t ≤ 4 then (if errB K (fun i => mm 311 (30 * t + i)) (mm 310 t).toNat = true then 0 else 1) else 1)) := by
            intro z
            refine ih (0, (j : Int) + 1) mm ⟨j + 1, by show (j : Int) + 1 = _; omega, by omega, rfl, ?_⟩ (by show (mm 310 t - ((j : Int) + 1)).toNat < (mm 310 t - (j : Int)).toNat; omega)
            show (0 : Int) = _
            rw [if_neg (fun q => by have := q.2; rw [es] at this; exact z (of_decide_eq_true this))]
          have pl : ∀ w : Int, fX12_isPlace w mm = some (if 0 ≤ w ∧ w < K 1 * K 2 then 1 else 0) := fun w => m_isPlace hK hI
          by_cases h1 : 0 ≤ v ∧ v ≤ 24
          · rw [if_pos h1, if_pos (by decide), pl, bR_some, tmod_e 100 h1.1]
            by_cases h2 : 0 ≤ v % 100 ∧ v % 100 < K 1 * K 2
            · rw [if_pos h2, if_neg (by decide)]; exact yes (by omega)
            · rw [if_neg h2, if_pos rfl]; exact no (by omega)
          · rw [if_neg h1, if_neg (show ¬ ¬ (0 : Int) = 0 from fun z => z rfl), bR_some]
            by_cases h3 : 100 ≤ v ∧ v ≤ 124
            · rw [if_pos h3, if_neg (by decide), pl, bR_some, tmod_e 100 (by omega)]
              by_cases h2 : 0 ≤ v % 100 ∧ v % 100 < K 1 * K 2
              · rw [if_pos h2, if_neg (by decide)]; exact yes (by omega)
              · rw [if_neg h2, if_pos rfl]; exact no (by omega)
            · rw [if_neg h3, if_pos rfl]; exact no (by omega)
  · rw [if_neg ht, if_neg ht, if_neg (by decide)]; rfl
theorem errP_ex {K : Int → Int} {c p rope rocks : Int} {tied : Bool} {A : Int → Int} {n : Nat} (hV : CV c K) (p0 : 0 ≤ p) (p1 : p < K 3) (hn : n ≤ 4) {h : Nat} {i : Int} (i0 : 0 ≤ i) (i1 : i < (n : Int)) : (∃ j k, errP K p rope tied rocks A n (ishl 1 i) h (allS n) j k) ↔ dnAt K p rope tied rocks A n h i := by
  have os := one_set n (by omega) i.toNat (by omega)
  rw [Int.toNat_of_nonneg i0] at os
  have p16 := pw_16 n (by omega)
  have key : ∀ s, SetN n s → (ior s (ishl 1 i) = allS n ↔ s = allS n ∨ s = butS n i) := by
    intro s hs
    have r := setN_rg hn hs
    have d := drop_dec n (by omega) i.toNat (by omega) s.toNat (by omega) (by rw [Int.toNat_of_nonneg r.1.1]; exact r.1.2)
    rw [Int.toNat_of_nonneg r.1.1, Int.toNat_of_nonneg i0] at d
    exact d
  constructor
  · rintro ⟨j, k, q⟩
    obtain ⟨s', q1, q2⟩ := (errP_drop (by omega) (ishl_rg _ _) h _ j k).mp q
    exact ⟨s', j, k, q1, (key s' (errP_rg hV p0 p1 (by omega) setN_0 h s' j k q1).2).mp q2.symm⟩
  · rintro ⟨s, j, k, q1, q2⟩
    exact ⟨j, k, (errP_drop (by omega) (ishl_rg _ _) h _ j k).mpr ⟨s, q1, ((key s (errP_rg hV p0 p1 (by omega) setN_0 h s j k q1).2).mpr q2).symm⟩⟩
def EA (m : Mem) (t : Int) : Int → Int := fun i => m 311 (30 * t + i)
theorem ch_ptr {K : Int → Int} {p rope rocks : Int} {tied : Bool} {A : Int → Int} {n : Nat} {m m0 : Mem} (hT : ∃ h, ChT K p rope tied rocks A n h m) (hp : PtrR m0) (h96 : m 96 = m0 96) : PtrR m := by
  obtain ⟨h, a, b, hab, ea, eb, _⟩ := hT
  refine ⟨by rw [h96]; exact hp.1, ?_⟩
  rcases hab with ⟨rfl, rfl⟩ | ⟨rfl, rfl⟩
  · exact .inl ⟨ea, eb⟩
  · exact .inr ⟨ea, eb⟩
theorem c_errPre {c p t : Int} {m : Mem} (hI : Inv c m) (c1 : c ≤ 900000) (hs : errC (m 288) (m 309) (m 310) (m 311) p t = 0) {f : Mem → Option (Int × Mem)} {Φ : Int → Prop}
    (hf : ∀ m1, CR (m 288) m1 → PairV c (m 288) p (m 288 (25 + p)) → AhR (m 288) p (m 288 (25 + p)) (tied0 (m 288) p) (m 288 8) m1 → PtrR m1 → ErrV (m 288) (EA m t) (m 310 t).toNat → ChR (EA m t) (m 310 t).toNat m1 → Ok (f m1) (fun r => Φ r.1 ∧ (∃ h, ChT (m 288) p (m 288 (25 + p)) (tied0 (m 288) p) (m 288 8) (EA m t) (m 310 t).toNat h r.2) ∧ AhR (m 288) p (m 288 (25 + p)) (tied0 (m 288) p) (m 288 8) r.2 ∧ Fr EC m1 r.2)) :
    Ok (bX (fX11_needErrands p t m) fun mm => bV (fX0_begin p mm) fun mm => bW (f mm) fun x1 mm => some (0, x1, mm)) (AQ 0 Φ m) := by
  obtain ⟨hR, hV, hn⟩ := inv_parts hI
  have hptr := hI.2.2.2.2.2.2.2
  obtain ⟨hp, ht, hm, hb, hE⟩ := errC_inv hs
  have hP := own_pair hV (show c ≤ 1000000 by omega) hp.1 hp.2
  refine ok_bX (c_needErrands hR hV hI.2.2.2.2.2.1) ?_ ?_
  · rintro v m1 ⟨e1, _, e3⟩
    obtain ⟨g1, g2, g3⟩ := e3 rfl
    simp only at g1 g2 g3
    have hR1 : CR (m 288) m1 := CR_fr hR (fun o a b => g3 o (by simp; omega))
    have hn1 : NearOk m1 := NearOk_fr hn (by rw [g3 18 (by decide)]; exact ⟨rfl, rfl, rfl⟩) (g3 81 (by decide))
    refine ok_bV (c_begin hR1 hV hp.1 hp.2 hn1) ?_
    rintro m2 ⟨a1, a2⟩
    have hR2 : CR (m 288) m2 := CR_fr hR1 (fun o a b => a2 o (by simp; omega))
    have e100 : m2 100 = m1 100 := a2 100 (by decide)
    have hp2 : PtrR m2 := by
      refine ⟨by rw [a2 96 (by decide), g3 96 (by decide)]; exact hptr.1, ?_⟩
      rw [e100, g2 2 (by decide), g2 3 (by decide)]; exact hptr.2
    have hC2 : ChR (EA m t) (m 310 t).toNat m2 := by unfold ChR; rw [e100, a2 101 (by decide)]; exact g1
    refine ok_bW (hf m2 hR2 hP a1 hp2 hE hC2) ?_
    rintro x m3 ⟨k1, k2, k3, k4⟩
    simp only at k1 k2 k3 k4
    refine ok_some ⟨rfl, fun _ => k1, fr_trans (fr_mono' g3 (by decide)) (fr_trans (fr_mono' a2 (by decide)) (fr_mono' k4 (by decide))), near_of hV hp.1 hp.2 k3, ch_ptr k2 hptr ?_⟩
    show m3 96 = m 96
    rw [k4 96 (by decide), a2 96 (by decide), g3 96 (by decide)]
  · rintro k v m1 hk ⟨e1, _, _⟩
    simp only at e1
    rw [hs] at e1; exact absurd e1 hk
theorem c_errBad {c p t : Int} {m : Mem} (hI : Inv c m) (hs : ¬ errC (m 288) (m 309) (m 310) (m 311) p t = 0) {f : Mem → Option (Int × Int × Mem)} {Φ : Int → Prop} : Ok (bX (fX11_needErrands p t m) f) (AQ (errC (m 288) (m 309) (m 310) (m 311) p t) Φ m) := by
  obtain ⟨hR, hV, hn⟩ := inv_parts hI
  refine ok_bX (c_needErrands hR hV hI.2.2.2.2.2.1) ?_ ?_
  · rintro v m1 ⟨e1, _, _⟩
    exact absurd e1.symm hs
  · rintro k v m1 hk ⟨e1, e2, _⟩
    simp only at e1 e2
    rw [e1] at *
    rw [e2 hs]; exact aq1 hI hs
theorem d_errands {c p t : Int} {m : Mem} (hI : Inv c m) (c0 : 0 ≤ c) (c1 : c ≤ 900000) : Two1 c (fL_errands p t) (fX12_errands p t) m := by
  obtain ⟨hR, hV, hn⟩ := inv_parts hI
  refine two_a (x := fX11_errands p t) (k := errC (m 288) (m 309) (m 310) (m 311) p t) (k' := thrM (errC (m 288) (m 309) (m 310) (m 311) p t)) (Φ := FirstH (fun h => ∃ j k, errP (m 288) p (m 288 (25 + p)) (tied0 (m 288) p) (m 288 8) (EA m t) (m 310 t).toNat 0 h (allS (m 310 t).toNat) j k)) hI c0 (fun a b ha hb => firstH_uq ha hb) ?_ (fun _ _ => rfl) (fun z => by rw [z]; rfl) (fun z => thr_h errC_rg z) (fun m1 hI1 e e9 e10 e11 => ?_)
  · unfold fX11_errands
    by_cases hs : errC (m 288) (m 309) (m 310) (m 311) p t = 0
    · rw [hs]
      have hb := (errC_inv hs).2.2.2.1
      exact c_errPre hI c1 hs (fun m1 h1 h2 h3 h4 h5 h6 => c_hoursForAll h1 h2 h3 h4 (by omega) h5 h6)
    · exact c_errBad hI hs
  · have hV1 : CV c (m1 288) := by rw [e]; exact hV
    have eEA : EA m t = EA m1 t := by unfold EA; rw [e11]
    rw [eEA, ← e, ← e9, ← e10, ← e11]
    unfold fX12_errands
    rw [m_isPair rfl hV1.1, bR_some]
    simp only [rd_eq, wr_eq, jn_eq, up_same]
    by_cases hp : 0 ≤ p ∧ p < m1 288 3
    · have ec : errC (m1 288) (m1 309) (m1 310) (m1 311) p t = errR (m1 288) (m1 309) (m1 310) (m1 311) t := if_pos hp
      rw [if_pos hp, if_neg (by decide), m_errandsFault rfl hV1.1 hI1.2.2.2.2.2.1, bR_some, ← ec]
      by_cases hs : errC (m1 288) (m1 309) (m1 310) (m1 311) p t = 0
      · rw [hs, show thrM 0 = 0 from rfl, if_pos (by decide)]
        obtain ⟨_, ht, hm, hb, hE⟩ := errC_inv hs
        have hK0 : up m1 287 4 0 288 = m1 288 := up_cell (by decide)
        have h10 : up m1 287 4 0 310 = m1 310 := up_cell (by decide)
        have h11 : up m1 287 4 0 311 = m1 311 := up_cell (by decide)
        obtain ⟨h4, hN, hF0⟩ := am_thrown (m := m1) (k := 0)
        generalize up m1 287 4 0 = m2 at *
        refine ok_bV (m_laysOwn hK0 hV1 (by omega) hp.1 hp.2) ?_
        rintro m3 ⟨a1, a2, a3, a4⟩
        refine ok_bW (m_doneBy (A := EA m1 t) (n := (m1 310 t).toNat) ((a4 288 (by decide)).trans hK0) hV1 hp.1 hp.2 a1 a2 (by omega) hE setN_0 ht (by rw [a4 310 (by decide), h10, Int.toNat_of_nonneg (by omega)]) (fun i _ _ => by rw [a4 311 (by decide), h11]; rfl)) ?_
        rintro x m4 ⟨b1, b2⟩
        simp only at b1 b2
        exact ok_some (am0 h4 hN hF0 (fun i hi => by rw [b2 287 (by decide)]; exact a3 i hi) (fr_trans (fr_mono' a4 (by decide)) (fr_mono' b2 (by decide))) b1)
      · have hn := thr_ne hs
        rw [if_neg hn.2]
        exact ok_some (am1 hn.1)
    · have ec : errC (m1 288) (m1 309) (m1 310) (m1 311) p t = 3 := if_neg hp
      rw [if_neg hp, if_pos rfl, ec, if_neg (by decide)]
      exact ok_some (am1 (by decide))

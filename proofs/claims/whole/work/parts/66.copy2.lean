/-! ===== D46: copy, the two ===== -/
theorem wroteR_rg {K : Int → Int} {p j k s n q : Int} {old : Int → Int} {c : Int} (hV : CV c K) (p0 : 0 ≤ p) (p1 : p < K 3) (hn : n ≤ ownV K p j k) (h : -9223372036854775808 ≤ old q ∧ old q < 9223372036854775808) : -9223372036854775808 ≤ wroteR K p j k s n old q ∧ wroteR K p j k s n old q < 9223372036854775808 := by
  have l3 := hV.1.2.1
  unfold wroteR
  by_cases z : 0 ≤ q ∧ q < n
  · rw [if_pos z]
    have tr := turnV_rg (h := q.toNat) hV p0 p1 (own_rch (K := K) (p := p) (j := j) (k := k) rfl (by omega)) (by omega)
    exact cutF_rg (by omega) (by omega)
  · rw [if_neg z]; exact h
theorem d_copy {c t p j k : Int} {m : Mem} (hI : Inv c m) (c0 : 0 ≤ c) (c1 : c ≤ 900000) : Two1 c (fL_copy t p j k) (fX12_copy t p j k) m := by
  obtain ⟨hR, hV, hn⟩ := inv_parts hI
  have hT := hI.2.2.2.2.2.1
  have hptr := hI.2.2.2.2.2.2.2
  have l3 := hV.1.2.1
  -- the class
  have hc : Ok (fX11_copy t p j k m) (fun r => r.1 = (if 0 ≤ t ∧ t < 4 then (if (0 ≤ p ∧ p < m 288 3) ∧ (0 ≤ j ∧ j < m 288 1 * m 288 2) ∧ (0 ≤ k ∧ k < m 288 1 * m 288 2) then (if m 309 t = -1 then 2 else 0) else 3) else 3) ∧ (r.1 ≠ 0 → r.2.2 = m) ∧
      (r.1 = 0 → r.2.1 = imin (ownV (m 288) p j k) (m 310 t) ∧ r.2.2 (90 + t.toNat) = wroteR (m 288) p j k (m 309 t) (imin (ownV (m 288) p j k) (m 310 t)) (m (90 + t.toNat)) ∧ Fr ((90 + t.toNat) :: AS) m r.2.2 ∧ NearOk r.2.2 ∧ PtrR r.2.2)) := by
    have e : fX11_needTray t m = some (if 0 ≤ t ∧ t < 4 then 0 else 3, 0, m) := by
      unfold fX11_needTray
      simp only [jn_eq]
      by_cases ht : 0 ≤ t ∧ t < 4
      · rw [if_neg (by omega), if_pos ht.2, if_pos ht]
      · rw [if_neg ht]
        by_cases h0 : t < 0
        · rw [if_pos h0]
        · rw [if_neg h0, if_neg (by omega)]
    unfold fX11_copy
    rw [e, bX_if (by decide)]
    by_cases ht : 0 ≤ t ∧ t < 4
    · rw [if_pos ht, if_pos ht, c_needWalk hR hV, bX_if (by decide)]
      by_cases hp : (0 ≤ p ∧ p < m 288 3) ∧ (0 ≤ j ∧ j < m 288 1 * m 288 2) ∧ (0 ≤ k ∧ k < m 288 1 * m 288 2)
      · rw [if_pos hp, if_pos hp, c_needRow hT, if_pos ht]
        by_cases hm : m 309 t = -1
        · rw [if_pos hm, bX_some2]
          exact ok_some ⟨rfl, fun _ => rfl, fun q => absurd (show (2 : Int) = 0 from q) (by decide)⟩
        · rw [if_neg hm, bX_some0]
          obtain ⟨r1, r2, r3, r4, r5⟩ := (tray_miss hT ht.1 ht.2).2 hm
          have hP := own_pair hV (show c ≤ 1000000 by omega) hp.1.1 hp.1.2
          refine ok_bV (c_begin hR hV hp.1.1 hp.1.2 hn) ?_
          rintro m1 ⟨a1, a2⟩
          have hR1 : CR (m 288) m1 := CR_fr hR (fun o a b => a2 o (by simp; omega))
          refine ok_bW (c_findWay hR1 hP a1 hp.2.1.1 hp.2.1.2 hp.2.2.1 hp.2.2.2) ?_
          rintro v m2 ⟨b1, b2, b3, b4⟩
          simp only at b1 b2 b3 b4
          have ev : v = ownV (m 288) p j k := firstV_eq b1
          have F2 : Fr WD m m2 := fr_trans (fr_mono' a2 (by decide)) b4
          simp only [rd_eq, jn_eq]
          rw [chk_of (by omega), F2 95 (by decide), r4, ← ev]
          have hle : imin v (m 310 t) ≤ v ∧ imin v (m 310 t) ≤ 30 := by unfold imin; split <;> omega
          by_cases h0 : 0 ≤ v
          · refine ok_imp (c_copyLoop hV hp.1.1 hp.1.2 ht.1 ht.2 ev hle.1 hle.2 (b2 h0)) ?_
            rintro r ⟨d1, d2, d3, d4⟩
            rw [F2 94 (by decide), r2, F2 (90 + t.toNat) (by unfold WD; simp; omega)] at d3
            refine ⟨d1, fun q => absurd d1 q, fun _ => ⟨d2, d3, ?_, ?_, ?_⟩⟩
            · exact fr_trans (fr_mono F2 (fun o ho => List.mem_cons_of_mem _ ((show ∀ o ∈ WD, o ∈ AS by decide) o ho))) (fr_mono d4 (fun o ho => by rw [List.mem_singleton.mp ho]; exact List.mem_cons_self))
            · refine NearOk_fr (near_of hV hp.1.1 hp.1.2 b3) ?_ (d4 81 (by simp; omega))
              rw [d4 18 (by simp; omega)]; exact ⟨rfl, rfl, rfl⟩
            · exact PtrR_fr hptr ((d4 96 (by simp; omega)).trans (F2 96 (by decide))) ((d4 100 (by simp; omega)).trans (F2 100 (by decide)))
          · refine ok_imp (P := fun r => r.1 = 0 ∧ r.2.1 = imin v (m 310 t) ∧ r.2.2 = m2) (lp_ok (fun (i : Int) (mm : Mem) => i = 0 ∧ mm = m2) (fun _ _ => 0) ⟨rfl, rfl⟩ (by decide) ?_) ?_
            · rintro G i mm ⟨rfl, rfl⟩ ih
              rw [if_pos (by omega)]
              exact ok_some ⟨rfl, rfl, rfl⟩
            · rintro r ⟨d1, d2, d3⟩
              refine ⟨d1, fun q => absurd d1 q, fun _ => ⟨d2, ?_, ?_, ?_, ?_⟩⟩
              · rw [d3, F2 (90 + t.toNat) (by unfold WD; simp; omega)]
                funext q
                unfold wroteR; rw [if_neg (by omega)]
              · rw [d3]; exact fr_mono F2 (fun o ho => List.mem_cons_of_mem _ ((show ∀ o ∈ WD, o ∈ AS by decide) o ho))
              · rw [d3]; exact near_of hV hp.1.1 hp.1.2 b3
              · rw [d3]; exact PtrR_fr hptr (F2 96 (by decide)) (F2 100 (by decide))
      · rw [if_neg hp, if_neg hp]
        exact ok_some ⟨rfl, fun _ => rfl, fun q => absurd (show (3 : Int) = 0 from q) (by decide)⟩
    · rw [if_neg ht, if_neg ht]
      exact ok_some ⟨rfl, fun _ => rfl, fun q => absurd (show (3 : Int) = 0 from q) (by decide)⟩
  -- what the model finds at fault
  have hm : ∀ m1 : Mem, m1 288 = m 288 → m1 309 = m 309 → ∃ kf, kf = (if 0 ≤ t ∧ t < 4 then (if (0 ≤ p ∧ p < m 288 3) ∧ (0 ≤ j ∧ j < m 288 1 * m 288 2) ∧ (0 ≤ k ∧ k < m 288 1 * m 288 2) then (if m 309 t = -1 then (2 : Int) else 0) else 1) else 1) ∧
      fX12_copy t p j k m1 = (if kf ≤ 0 then bW (fX12_laysWay p j k (up m1 287 4 kf)) fun x5 mm => (if ¬ x5 = -1 then chk ((0 : Int) ≤ t ∧ t < ((4 : Nat) : Int)) (lp BIG (fun K9 (t8 : Int) mm2 => (if imin x5 (mm 310 t) ≤ t8 then some (imin x5 (mm 310 t), mm2) else chk ((0 : Int) ≤ w32 (t8 + 1) ∧ w32 (t8 + 1) < ((41 : Nat) : Int)) (bW (fX12_cut t t8 (w32 (w32 (100 * p) + mm2 302 (w32 (t8 + 1)))) mm2) fun x11 mm => K9 (w32 (t8 + 1)) mm))) 0 mm) else some (-1, mm)) else some (0, up m1 287 4 kf)) := by
    intro m1 hK h309
    have hV1 : IsV (m 288) := hV.1
    unfold fX12_copy fX12_isTray
    simp only [m_within, bR_some, m_isPair hK hV1, m_isPlace hK hV1, rd_eq, wr_eq, jn_eq, up_same]
    by_cases ht : 0 ≤ t ∧ t < 4
    · by_cases hp : 0 ≤ p ∧ p < m 288 3
      · by_cases hj : 0 ≤ j ∧ j < m 288 1 * m 288 2
        · by_cases hk : 0 ≤ k ∧ k < m 288 1 * m 288 2
          · by_cases hz : m 309 t = -1
            · refine ⟨2, by rw [if_pos ht, if_pos ⟨hp, hj, hk⟩, if_pos hz], ?_⟩
              rw [if_pos (show 0 ≤ t ∧ t ≤ 3 by omega), chk_of (by simp), bR_some, if_neg (by decide), if_pos hp, if_neg (by decide), if_pos hj, if_neg (by decide), if_pos hk, if_pos (by decide), chk_of (by omega), h309, if_neg (show ¬ ¬ m 309 t = -1 from fun q => q hz)]
            · refine ⟨0, by rw [if_pos ht, if_pos ⟨hp, hj, hk⟩, if_neg hz], ?_⟩
              rw [if_pos (show 0 ≤ t ∧ t ≤ 3 by omega), chk_of (by simp), bR_some, if_neg (by decide), if_pos hp, if_neg (by decide), if_pos hj, if_neg (by decide), if_pos hk, if_pos (by decide), chk_of (by omega), h309, if_pos hz]
          · refine ⟨1, by rw [if_pos ht, if_neg (fun q => hk q.2.2)], ?_⟩
            rw [if_pos (show 0 ≤ t ∧ t ≤ 3 by omega), chk_of (by simp), bR_some, if_neg (by decide), if_pos hp, if_neg (by decide), if_pos hj, if_neg (by decide), if_neg hk, if_neg (by decide)]
        · refine ⟨1, by rw [if_pos ht, if_neg (fun q => hj q.2.1)], ?_⟩
          rw [if_pos (show 0 ≤ t ∧ t ≤ 3 by omega), chk_of (by simp), bR_some, if_neg (by decide), if_pos hp, if_neg (by decide), if_neg hj, if_pos rfl]
      · refine ⟨1, by rw [if_pos ht, if_neg (fun q => hp q.1)], ?_⟩
        rw [if_pos (show 0 ≤ t ∧ t ≤ 3 by omega), chk_of (by simp), bR_some, if_neg (by decide), if_neg hp, if_pos rfl]
    · refine ⟨1, by rw [if_neg ht], ?_⟩
      rw [if_neg (show ¬ (0 ≤ t ∧ t ≤ 3) by omega), chk_of (by simp), bR_some, if_pos rfl]
  have bad : ∀ kf : Int, kf = (if 0 ≤ t ∧ t < 4 then (if (0 ≤ p ∧ p < m 288 3) ∧ (0 ≤ j ∧ j < m 288 1 * m 288 2) ∧ (0 ≤ k ∧ k < m 288 1 * m 288 2) then (if m 309 t = -1 then (2 : Int) else 0) else 1) else 1) → ¬ kf ≤ 0 → Ok (fX12_copy t p j k m) (fun s => s.2 287 4 = kf ∧ (kf = 0 → s.2 312 0 = s.1) ∧ Inv (c + 100) s.2) := by
    intro kf hk h0
    obtain ⟨kg, hg, eg⟩ := hm m rfl rfl
    rw [← hk] at hg
    subst hg
    rw [eg, if_neg h0]
    exact ok_some ⟨up_same m 287 4 kg, fun q => by omega, inv_m hI c0 (fr_up (by simp) fr_refl) (fun i h => up_idx h)⟩
  unfold Two1 fL_copy
  refine bC_ok hc ?_ ?_
  · rintro v m1 ⟨d1, _, d3⟩
    simp only at d1
    obtain ⟨e1, e2, e3, e4, e5⟩ := d3 rfl
    simp only at e1 e2 e3 e4 e5
    have ht : 0 ≤ t ∧ t < 4 := Classical.byContradiction (fun z => by rw [if_neg z] at d1; omega)
    rw [if_pos ht] at d1
    have hp : (0 ≤ p ∧ p < m 288 3) ∧ (0 ≤ j ∧ j < m 288 1 * m 288 2) ∧ (0 ≤ k ∧ k < m 288 1 * m 288 2) := Classical.byContradiction (fun z => by rw [if_neg z] at d1; omega)
    rw [if_pos hp] at d1
    have hz : m 309 t ≠ -1 := fun z => by rw [if_pos z] at d1; omega
    obtain ⟨r1, r2, r3, r4, r5⟩ := (tray_miss hT ht.1 ht.2).2 hz
    refine ok_of (a := (0, up m1 312 0 v)) rfl ?_
    simp only
    have F1 : ∀ o, o ≠ 90 + t.toNat → o ≠ 312 → o ∉ AS → up m1 312 0 v o = m o := fun o a b d => by rw [up_cell b]; exact e3 o (by simp only [List.mem_cons, not_or]; exact ⟨a, d⟩)
    obtain ⟨kg, hg, eg⟩ := hm (up m1 312 0 v) (F1 288 (by omega) (by decide) (by decide)) (F1 309 (by omega) (by decide) (by decide))
    rw [if_pos ht, if_pos hp, if_neg hz] at hg
    subst hg
    rw [eg, if_pos (by decide)]
    have hrow : up m1 312 0 v (90 + t.toNat) = wroteR (m 288) p j k (m 309 t) (imin (ownV (m 288) p j k) (m 310 t)) (m (90 + t.toNat)) := by rw [up_cell (by omega)]; exact e2
    have hans : up m1 312 0 v 312 0 = imin (ownV (m 288) p j k) (m 310 t) := by rw [up_same]; exact e1
    have hnear : NearOk (up m1 312 0 v) := NearOk_fr e4 (by rw [up_cell (by decide)]; exact ⟨rfl, rfl, rfl⟩) (up_cell (by decide))
    have hptr1 : PtrR (up m1 312 0 v) := PtrR_fr e5 (up_cell (by decide)) (up_cell (by decide))
    have hK2 : up (up m1 312 0 v) 287 4 0 288 = m 288 := (up_cell (by decide)).trans (F1 288 (by omega) (by decide) (by decide))
    generalize up m1 312 0 v = m2 at *
    refine ok_bW (m_laysWay hK2 hV (by omega) hp.1.1 hp.1.2 hp.2.1.1 hp.2.1.2 hp.2.2.1 hp.2.2.2) ?_
    rintro u m3 ⟨b1, b2, b3, b4⟩
    simp only at b1 b2 b3 b4
    have eu : u = ownV (m 288) p j k := firstV_eq b1
    have ru := firstV_rg (fun h => rchP (m 288) p (m 288 (25 + p)) (tied0 (m 288) p) (m 288 8) h j k.toNat)
    have eu' : u = firstV (fun h => rchP (m 288) p (m 288 (25 + p)) (tied0 (m 288) p) (m 288 8) h j k.toNat) := eu
    have F3 : Fr MSC m2 m3 := fr_trans (fr_up (by decide) fr_refl) (fr_mono' b4 (by decide))
    have g3 : m3 287 4 = 0 := (b3 4 (by decide)).trans (up_same m2 287 4 0)
    have g287 : ∀ i, i ≠ 4 → i ≠ 28 → m3 287 i = m2 287 i := fun i a b => (b3 i b).trans (up_idx a)
    have G : ∀ o, o ≠ 90 + t.toNat → o ≠ 312 → o ∉ AS → o ∉ MSC → m3 o = m o := fun o a b d e => (F3 o e).trans (F1 o a b d)
    have t6 : t.toNat ≤ 3 := by omega
    -- the end, with the model's row
    have fin : ∀ m4 : Mem, (∀ q, 0 ≤ q → q < 30 → m4 311 (30 * t + q) = wroteR (m 288) p j k (m 309 t) (imin u (m 310 t)) (fun q => m 311 (30 * t + q)) q) → (∀ i, (i < 30 * t ∨ 30 * t + 30 ≤ i) → m4 311 i = m 311 i) → Fr [311] m3 m4 → Ok (some (imin u (m 310 t), m4)) (fun s => s.2 287 4 = 0 ∧ (True → s.2 312 0 = s.1) ∧ Inv (c + 100) s.2) := by
      intro m4 hw ho hF
      have hG : ∀ o, o ≠ 90 + t.toNat → o ≠ 311 → o ≠ 312 → o ∉ AS → o ∉ MSC → m4 o = m o := fun o a b d e f => (hF o (by simpa using b)).trans (G o a d e f)
      refine ok_some ⟨?_, fun _ => ?_, ?_⟩
      · show m4 287 4 = 0
        rw [hF 287 (by decide)]; exact g3
      · show m4 312 0 = imin u (m 310 t)
        rw [hF 312 (by decide), F3 312 (by decide), hans, eu]
      · show Inv (c + 100) m4
        -- a memory between, with the trays of before
        have e18 : m4 18 = m2 18 := (hF 18 (by decide)).trans (F3 18 (by decide))
        obtain ⟨mi, hin, out⟩ : ∃ mi : Mem, (∀ o, ((90 ≤ o ∧ o ≤ 95) ∨ (309 ≤ o ∧ o ≤ 311)) → mi o = m o) ∧ (∀ o, ¬ ((90 ≤ o ∧ o ≤ 95) ∨ (309 ≤ o ∧ o ≤ 311)) → mi o = m4 o) := ⟨fun o => if (90 ≤ o ∧ o ≤ 95) ∨ (309 ≤ o ∧ o ≤ 311) then m o else m4 o, fun o h => if_pos h, fun o h => if_neg h⟩
        have hmid : Inv c mi := by
          refine inv_q hI (fun o ho => ?_) ?_ ?_ ?_
          · by_cases h : (90 ≤ o ∧ o ≤ 95) ∨ (309 ≤ o ∧ o ≤ 311)
            · exact hin o h
            · rw [out o h]
              unfold Held at ho
              exact hG o (by omega) (by omega) (by omega) (fun q => AS_held (by unfold Held; exact ho) q) (fun q => MSC_held (by unfold Held; exact ho) q)
          · rw [out 287 (by omega), hF 287 (by decide), g287 6 (by decide) (by decide), g287 14 (by decide) (by decide), g287 15 (by decide) (by decide), F1 287 (by omega) (by decide) (by decide)]
            exact ⟨rfl, rfl, rfl⟩
          · refine NearOk_fr hnear ?_ ?_
            · rw [out 18 (by omega), e18]; exact ⟨rfl, rfl, rfl⟩
            · rw [out 81 (by omega), hF 81 (by decide), F3 81 (by decide)]
          · refine PtrR_fr hptr1 ?_ ?_
            · rw [out 96 (by omega), hF 96 (by decide), F3 96 (by decide)]
            · rw [out 100 (by omega), hF 100 (by decide), F3 100 (by decide)]
        refine inv_t hmid c0 (fun o a b d => ?_) (fun i _ => ?_) ?_
        · exact (out o (by omega)).symm
        · exact congrFun (out 287 (by omega)).symm i
        · intro q q0 q4
          rw [hG 95 (by omega) (by decide) (by decide) (by decide) (by decide), hG 309 (by omega) (by decide) (by decide) (by decide) (by decide), hG 94 (by omega) (by decide) (by decide) (by decide) (by decide), hG 310 (by omega) (by decide) (by decide) (by decide) (by decide)]
          rcases hT q q0 q4 with ⟨a, b⟩ | ⟨a, b, d, e, f⟩
          · exact .inl ⟨a, b⟩
          · refine .inr ⟨a, b, d, e, fun x x0 x1 => ?_⟩
            have fx := f x x0 x1
            by_cases hq : q = t
            · subst hq
              have er : m4 (90 + q.toNat) = m2 (90 + q.toNat) := (hF _ (by simp; omega)).trans (F3 _ (by unfold MSC; simp; omega))
              rw [er, hrow, hw x x0 x1, ← eu]
              have hle : imin u (m 310 q) ≤ ownV (m 288) p j k := by rw [eu]; unfold imin; split <;> omega
              refine ⟨?_, wroteR_rg hV hp.1.1 hp.1.2 hle fx.2⟩
              unfold wroteR
              by_cases z : 0 ≤ x ∧ x < imin u (m 310 q)
              · rw [if_pos z, if_pos z]
              · rw [if_neg z, if_neg z]; exact fx.1
            · rw [hG (90 + q.toNat) (by omega) (by omega) (by omega) (by unfold AS; simp; omega) (by unfold MSC; simp; omega), ho _ (by omega)]
              exact fx
    have e310 : m3 310 = m 310 := G 310 (by omega) (by decide) (by decide) (by decide)
    have e309 : m3 309 = m 309 := G 309 (by omega) (by decide) (by decide) (by decide)
    have e311 : m3 311 = m 311 := G 311 (by omega) (by decide) (by decide) (by decide)
    by_cases hu : u = -1
    · rw [if_neg (fun q => q hu)]
      have ei : imin u (m 310 t) = -1 := by unfold imin; rw [if_neg (by omega)]; exact hu
      have := fin m3 (fun q _ _ => by unfold wroteR; rw [if_neg (by omega), e311]) (fun i _ => by rw [e311]) fr_refl
      rw [ei] at this
      exact this
    · rw [if_pos hu, chk_of (by omega), e310]
      have hle : imin u (m 310 t) ≤ u ∧ 0 ≤ imin u (m 310 t) ∧ imin u (m 310 t) ≤ 30 := by unfold imin; split <;> omega
      refine ok_imp (m_copyLoop (m := m3) hV hp.1.1 hp.1.2 ht.1 ht.2 eu hle.1 hle.2.1 hle.2.2 (by rw [e309]; exact r1.1) (by rw [e309]; exact r1.2) (b2 (by omega))) ?_
      rintro ⟨x, m4⟩ ⟨w1, w2, w3, w4⟩
      simp only at w1 w2 w3 w4
      rw [e309, e311] at w2
      rw [e311] at w3
      subst w1
      obtain ⟨b, e, hb⟩ := fin m4 w2 w3 w4
      cases e
      exact hb
  · rintro k1 v m1 hk ⟨d1, d2, _⟩
    simp only at d1 d2
    have := d2 hk
    subst this
    subst d1
    by_cases ht : 0 ≤ t ∧ t < 4
    · by_cases hp : (0 ≤ p ∧ p < m1 288 3) ∧ (0 ≤ j ∧ j < m1 288 1 * m1 288 2) ∧ (0 ≤ k ∧ k < m1 288 1 * m1 288 2)
      · by_cases hz : m1 309 t = -1
        · simp only [if_pos ht, if_pos hp, if_pos hz] at hk bad ⊢
          exact ok_of (a := (2, m1)) rfl (bad 2 rfl (by decide))
        · simp only [if_pos ht, if_pos hp, if_neg hz] at hk
          exact absurd rfl hk
      · simp only [if_pos ht, if_neg hp] at hk bad ⊢
        exact ok_of (a := (1, m1)) rfl (bad 1 rfl (by decide))
    · simp only [if_neg ht] at hk bad ⊢
      exact ok_of (a := (1, m1)) rfl (bad 1 rfl (by decide))

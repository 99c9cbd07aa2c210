/-! ===== D75: housed, shortest, dear ===== -/
theorem near_fr {m m' : Mem} (h : NearOk m) (h18 : m' 18 = m 18) (h81 : m' 81 = m 81) : NearOk m' := NearOk_fr h (by rw [h18]; exact ⟨rfl, rfl, rfl⟩) h81
theorem two0_a {c : Int} {Φ : Int → Prop} {F G : Mem → Option (Int × Mem)} {m : Mem} (hI : Inv c m) (uq : ∀ a b, Φ a → Φ b → a = b)
    (hF : Ok (F m) (fun r => Φ r.1 ∧ Fr [36, 37, 106, 107, 108, 109] m r.2)) (hG : ∀ m1, Inv c m1 → m1 288 = m 288 → Ok (G m1) (fun r => Φ r.1 ∧ Fr MSC m1 r.2 ∧ (r.2 287 6 = m1 287 6 ∧ r.2 287 14 = m1 287 14 ∧ r.2 287 15 = m1 287 15))) : Two0 c F G m := by
  refine ok_imp hF ?_
  rintro ⟨x, m1⟩ ⟨e1, e2⟩
  simp only at e1 e2
  have hI1 : Inv c m1 := inv_q hI (fun o ho => (fr_mono' (T := AS) e2 (by decide)) o (AS_held ho)) (by rw [e2 287 (by decide)]; exact ⟨rfl, rfl, rfl⟩) (near_fr hI.2.2.2.2.2.2.1 (e2 18 (by decide)) (e2 81 (by decide))) (PtrR_fr hI.2.2.2.2.2.2.2 (e2 96 (by decide)) (e2 100 (by decide)))
  refine ok_imp (hG m1 hI1 (e2 288 (by decide))) ?_
  rintro ⟨y, m2⟩ ⟨d1, d2, d3⟩
  simp only at d1 d2 d3
  exact ⟨uq _ _ e1 d1, Inv_mono (inv_q hI1 (fun o ho => d2 o (MSC_held ho)) d3 (near_fr hI1.2.2.2.2.2.2.1 (d2 18 (by decide)) (d2 81 (by decide))) (PtrR_fr hI1.2.2.2.2.2.2.2 (d2 96 (by decide)) (d2 100 (by decide)))) (by omega)⟩
theorem m_laysHoused {K : Int → Int} {c s : Int} {m : Mem} (hK : m 288 = K) (hV : CV c K) (hs : SetN (nH K) s) :
    Ok (fX12_laysHoused s m) (fun r => r.1 = waysW K (K 3).toNat 0 s ∧ HPost K (K 3).toNat 0 s 0 536870912 (m 307) (m 308) (r.2 287 38) (r.2 308) ∧ (∀ i, i ≠ 37 → i ≠ 38 → r.2 287 i = m 287 i) ∧ Fr HC m r.2) := by
  have l3 := hV.1.2.1
  have hn := nH_8 hV.1
  have wr := waysW_rg hn.1 (K 3).toNat 0 s
  have p64 := pow64_le (K 3).toNat (by omega)
  unfold fX12_laysHoused
  simp only [rd_eq, wr_eq]
  have i0 := m_goes hV (K 3).toNat 0 s 0 30 0 (up (up m 287 37 0) 287 38 536870912) ((up_cell (by decide)).trans ((up_cell (by decide)).trans hK)) (by omega) (by omega) hs (by omega) (by omega) (by omega) (by rw [up_idx (by decide), up_same]; omega)
  rw [show 2 * (0 : Int) = 0 by omega] at i0
  have u37 : up (up m 287 37 0) 287 38 536870912 287 37 = 0 := by rw [up_idx (by decide), up_same]
  have u38 : up (up m 287 37 0) 287 38 536870912 287 38 = 536870912 := up_same _ _ _ _
  have u : ∀ i, i ≠ 37 → i ≠ 38 → up (up m 287 37 0) 287 38 536870912 287 i = m 287 i := fun i a b => by rw [up_idx b, up_idx a]
  have u307 : up (up m 287 37 0) 287 38 536870912 307 = m 307 := (up_cell (by decide)).trans (up_cell (by decide))
  have u308 : up (up m 287 37 0) 287 38 536870912 308 = m 308 := (up_cell (by decide)).trans (up_cell (by decide))
  have uF : Fr HC m (up (up m 287 37 0) 287 38 536870912) := fr_up (by decide) (fr_up (by decide) fr_refl)
  generalize up (up m 287 37 0) 287 38 536870912 = m1 at *
  refine ok_bV i0 ?_
  rintro m2 ⟨j1, j2, j3, j4, j5⟩
  rw [u37, show (0 : Int) + waysW K (K 3).toNat 0 s = waysW K (K 3).toNat 0 s by omega] at j1
  rw [u38, u307, u308] at j2
  exact ok_some ⟨cg_eq j1 (by omega), j2, fun i a b => (j4 i a b).trans (u i a b), fr_trans uF j5⟩
theorem d_housed {c : Int} {m : Mem} (hI : Inv c m) (c1 : c ≤ 900000) : Two0 c fX11_housed fX12_housed m := by
  obtain ⟨hR, hV, hn⟩ := inv_parts hI
  refine two0_a (Φ := fun v => v = waysW (m 288) (m 288 3).toNat 0 0) hI (fun a b ha hb => ha.trans hb.symm) ?_ (fun m1 hI1 e => ?_)
  · unfold fX11_housed
    refine ok_bW (c_waysWithout hR hV (by omega)) ?_
    rintro x m1 ⟨e, hF⟩
    exact ok_some ⟨e, fr_mono' hF (by decide)⟩
  · rw [← e] at hV ⊢
    unfold fX12_housed
    simp only [wr_eq]
    refine ok_bW (m_laysHoused (up_cell (by decide)) hV setN_0) ?_
    rintro x m2 ⟨e1, _, e3, e4⟩
    simp only at e1 e3 e4
    exact ok_some ⟨e1, fr_trans (fr_up (by decide) fr_refl) (fr_mono' e4 (by decide)), by show m2 287 6 = _ ∧ m2 287 14 = _ ∧ m2 287 15 = _; rw [e3 6 (by decide) (by decide), e3 14 (by decide) (by decide), e3 15 (by decide) (by decide), up_idx (by decide), up_idx (by decide), up_idx (by decide)]; exact ⟨rfl, rfl, rfl⟩⟩
def ShortP (K : Int → Int) (a v : Int) : Prop := (a = 0 ∨ (10 ≤ a ∧ a ≤ 17)) ∧ (¬ bestB K (K 3).toNat 0 0 < 1000 → v = -1) ∧
  (bestB K (K 3).toNat 0 0 < 1000 → (a = 0 → v = bestB K (K 3).toNat 0 0) ∧ (a ≠ 0 → (2 * K 3 ≤ a - 10 → v = -1) ∧ (a - 10 < 2 * K 3 → ∃ b, ChainR K (K 3).toNat 0 0 b ∧ v = b (a - 10))))
theorem shortP_uq {K : Int → Int} {a v w : Int} (h3 : 0 ≤ K 3) (h : ShortP K a v) (k : ShortP K a w) : v = w := by
  have hh := h.1
  have pre : a ≠ 0 → ¬ 2 * K 3 ≤ a - 10 → (2 * (0 : Int) ≤ a - 10 ∧ a - 10 < 2 * (0 : Int) + 2 * (((K 3).toNat : Nat) : Int)) := fun _ _ => by omega
  clear hh
  obtain ⟨h1, h2, h4⟩ := h
  obtain ⟨k1, k2, k4⟩ := k
  by_cases z : bestB K (K 3).toNat 0 0 < 1000
  · have h5 := h4 z
    have k5 := k4 z
    by_cases a0 : a = 0
    · rw [h5.1 a0, k5.1 a0]
    · have h6 := h5.2 a0
      have k6 := k5.2 a0
      by_cases q : 2 * K 3 ≤ a - 10
      · rw [h6.1 q, k6.1 q]
      · obtain ⟨b, c1, e1⟩ := h6.2 (by omega)
        obtain ⟨b', c2, e2⟩ := k6.2 (by omega)
        rw [e1, e2]
        exact chain_uq _ _ _ c1 c2 _ (pre a0 q).1 (pre a0 q).2
  · rw [h2 z, k2 z]
theorem d_shortest {c a : Int} {m : Mem} (hI : Inv c m) (c0 : 0 ≤ c) (c1 : c ≤ 900000) : Two1 c (fL_shortest a) (fX12_shortest a) m := by
  obtain ⟨hR, hV, hn⟩ := inv_parts hI
  have hptr := hI.2.2.2.2.2.2.2
  have l3 := hV.1.2.1
  refine two_a (x := fX11_shortest a) (k := if a = 0 ∨ (10 ≤ a ∧ a ≤ 17) then 0 else 1) (k' := if a = 0 ∨ (10 ≤ a ∧ a ≤ 17) then 0 else 1) (Φ := ShortP (m 288) a) hI c0 (fun x y hx hy => shortP_uq l3.1 hx hy) ?_ (fun _ _ => rfl) (fun z => z) (fun z => ?_) (fun m1 hI1 e _ _ _ => ?_)
  · unfold fX11_shortest
    have main : (a = 0 ∨ (10 ≤ a ∧ a ≤ 17)) → Ok (bW (fX2_settle m) fun x3 mm => rd (w32 (a - 10)) fun x4 => jn (fun (t5 : Unit) mm => some ((0 : Int), x3, mm)) fun J6 => (if a = 0 then J6 () mm else (if ¬ x3 = ((-1)) then rd (mm 20 5) fun x7 => ( (jn (fun (t8 : Int) mm => some ((0 : Int), t8, mm)) fun J9 => (if (w32 (2 * x7)) ≤ x4 then J9 (-1) mm else chk ((0 : Int) ≤ x4 ∧ x4 < ((8 : Nat) : Int)) ( rd (mm 109 x4) fun x10 => ( J9 x10 mm))))) else J6 () mm))) (AQ 0 (ShortP (m 288) a) m) := by
      intro ha
      refine ok_bW (c_settle hR hV) ?_
      rintro x m2 ⟨e1, e2, e3⟩
      simp only at e1 e2 e3
      simp only [rd_eq, jn_eq]
      have fin : ∀ v, ShortP (m 288) a v → Ok (some ((0 : Int), v, m2)) (AQ 0 (ShortP (m 288) a) m) := fun v hv => ok_some ⟨rfl, fun _ => hv, fr_mono' e3 (by decide), near_fr hn (e3 18 (by decide)) (e3 81 (by decide)), PtrR_fr hptr (e3 96 (by decide)) (e3 100 (by decide))⟩
      have br := best_rg hV (m 288 3).toNat 0 0 (by omega) (by omega)
      by_cases a0 : a = 0
      · rw [if_pos a0]
        exact fin x ⟨ha, e1, fun z => ⟨fun _ => (e2 z).1, fun q => absurd a0 q⟩⟩
      · rw [if_neg a0, w32_id (x := a - 10) (by omega) (by omega)]
        by_cases z : bestB (m 288) (m 288 3).toNat 0 0 < 1000
        · obtain ⟨f1, f2⟩ := e2 z
          rw [if_pos (show ¬ x = -1 by omega), e3 20 (by decide), show m 20 5 = m 288 3 from hR.1.1.2.2.2.2.2, w32_id (x := 2 * m 288 3) (by omega) (by omega)]
          by_cases q : 2 * m 288 3 ≤ a - 10
          · rw [if_pos q]
            exact fin _ ⟨ha, fun y => absurd z y, fun _ => ⟨fun y => absurd y a0, fun _ => ⟨fun _ => rfl, fun y => by omega⟩⟩⟩
          · rw [if_neg q, chk_of (by omega)]
            exact fin _ ⟨ha, fun y => absurd z y, fun _ => ⟨fun y => absurd y a0, fun _ => ⟨fun y => absurd y q, fun _ => ⟨m2 109, f2, rfl⟩⟩⟩⟩
        · have f1 := e1 z
          rw [if_neg (fun y => y f1)]
          exact fin x ⟨ha, e1, fun y => absurd y z⟩
    by_cases ha : a = 0 ∨ (10 ≤ a ∧ a ≤ 17)
    · have mm := main ha
      rw [if_pos ha]
      rw [jn_eq]
      by_cases a0 : a = 0
      · rw [if_pos a0]; exact mm
      · rw [if_neg a0, jn_eq, if_neg (by omega), if_pos (by omega)]; exact mm
    · rw [if_neg ha, jn_eq, if_neg (by omega), jn_eq]
      by_cases h10 : a < 10
      · rw [if_pos h10]; exact ok_some (aq1 hI (by decide))
      · rw [if_neg h10, if_neg (by omega)]; exact ok_some (aq1 hI (by decide))
  · have ha : ¬ (a = 0 ∨ (10 ≤ a ∧ a ≤ 17)) := fun q => z (if_pos q)
    rw [if_neg ha]
    exact ⟨by decide, fun _ => rfl⟩
  · rw [← e] at hV l3 ⊢
    have br := best_rg hV (m1 288 3).toNat 0 0 (by omega) (by omega)
    have wb := ways_best hV (m1 288 3).toNat 0 0 (by omega) (by omega)
    have hn8 := nH_8 hV.1
    have wr := waysW_rg hn8.1 (m1 288 3).toNat 0 0
    unfold fX12_shortest
    simp only [wr_eq]
    have hK0 : up m1 287 4 0 288 = m1 288 := up_cell (by decide)
    obtain ⟨h4, hN, hF0⟩ := am_thrown (m := m1) (k := 0)
    have bad : ¬ (a = 0 ∨ (10 ≤ a ∧ a ≤ 17)) → Ok (bW (fX12_fails 1 (up m1 287 4 0)) fun x10 mm => some (x10, mm)) (AM 1 (ShortP (m1 288) a) m1) := by
      intro _
      unfold fX12_fails
      simp only [wr_eq, bW_some]
      exact ok_some (am2 (by decide))
    generalize up m1 287 4 0 = m2 at *
    refine ok_jn (fun _ mm => mm = m2 ∧ (a = 0 ∨ (10 ≤ a ∧ a ≤ 17))) ?_ ?_
    · rintro _ mm ⟨rfl, ha⟩
      rw [if_pos ha]
      refine ok_bW (m_laysHoused hK0 hV setN_0) ?_
      rintro x m3 ⟨e1, e2, e3, e4⟩
      simp only at e1 e2 e3 e4
      simp only [rd_eq, jn_eq]
      have fin : ∀ v, ShortP (m1 288) a v → Ok (some (v, m3)) (AM 0 (ShortP (m1 288) a) m1) := fun v hv => ok_some ⟨(e3 4 (by decide) (by decide)).trans h4, fun _ => hv, fr_trans hF0 (fr_mono' e4 (by decide)), (e3 6 (by decide) (by decide)).trans (hN 6 (by decide)), (e3 14 (by decide) (by decide)).trans (hN 14 (by decide)), (e3 15 (by decide) (by decide)).trans (hN 15 (by decide))⟩
      by_cases z : bestB (m1 288) (m1 288 3).toNat 0 0 < 1000
      · have w0 := wb.mpr z
        obtain ⟨f1, _, f2⟩ := e2.2 ⟨z, by omega⟩
        rw [if_pos (show ¬ x = 0 by omega)]
        by_cases a0 : a = 0
        · rw [if_neg (fun y => y a0), f1]
          exact fin _ ⟨ha, fun y => absurd z y, fun _ => ⟨fun _ => by omega, fun y => absurd a0 y⟩⟩
        · have hK3 : m3 288 = m1 288 := (e4 288 (by decide)).trans hK0
          rw [if_pos a0, m_people hK3 hV.1, bR_some, w32_id (x := a - 10) (by omega) (by omega)]
          by_cases q : 2 * m1 288 3 ≤ a - 10
          · rw [if_pos q]
            exact fin _ ⟨ha, fun y => absurd z y, fun _ => ⟨fun y => absurd y a0, fun _ => ⟨fun _ => rfl, fun y => by omega⟩⟩⟩
          · rw [if_neg q, chk_of (by omega)]
            exact fin _ ⟨ha, fun y => absurd z y, fun _ => ⟨fun y => absurd y a0, fun _ => ⟨fun y => absurd y q, fun _ => ⟨m3 308, f2, rfl⟩⟩⟩⟩
      · have w0 : ¬ 0 < waysW (m1 288) (m1 288 3).toNat 0 0 := fun y => z (wb.mp y)
        rw [if_neg (show ¬ ¬ x = 0 from fun y => y (by omega))]
        exact fin _ ⟨ha, fun _ => rfl, fun y => absurd y z⟩
    · intro J hJ
      by_cases a0 : a = 0
      · rw [if_pos a0]; exact hJ () m2 ⟨rfl, .inl a0⟩
      · rw [if_neg a0, m_within, bR_some]
        by_cases h10 : 10 ≤ a ∧ a ≤ 17
        · rw [if_pos h10, if_pos (by decide)]; exact hJ () m2 ⟨rfl, .inr h10⟩
        · have nh : ¬ (a = 0 ∨ (10 ≤ a ∧ a ≤ 17)) := fun y => y.elim a0 h10
          rw [if_neg h10, if_neg (show ¬ ¬ (0 : Int) = 0 from fun y => y rfl), if_neg nh]
          exact bad nh
def dearP (K : Int → Int) (v : Int) : Prop := (waysW K (K 3).toNat 0 0 = 0 → v = 0) ∧ (waysW K (K 3).toNat 0 0 ≠ 0 → Bits v (fun h => (h : Int) < K 4 ∧ waysW K (K 3).toNat 0 (ishl 1 (h : Int)) = 0))
theorem d_dear {c : Int} {m : Mem} (hI : Inv c m) (c1 : c ≤ 900000) : Two0 c fX11_dear fX12_dear m := by
  obtain ⟨hR, hV, hn⟩ := inv_parts hI
  have l4 := hV.1.2.2.1
  refine two0_a (Φ := dearP (m 288)) hI (fun a b ha hb => ?_) ?_ (fun m1 hI1 e => ?_)
  · by_cases z : waysW (m 288) (m 288 3).toNat 0 0 = 0
    · rw [ha.1 z, hb.1 z]
    · exact bits_eq (ha.2 z) (hb.2 z) (fun _ _ => Iff.rfl)
  · unfold fX11_dear
    simp only [rd_eq, jn_eq]
    refine ok_bW (c_waysWithout hR hV (by omega)) ?_
    rintro x m1 ⟨e, hF⟩
    simp only at e hF
    by_cases hx : x = 0
    · rw [if_neg (show ¬ ¬ x = 0 from fun z => z hx)]
      exact ok_some ⟨⟨fun _ => rfl, fun z => absurd (e.symm.trans hx) z⟩, fr_mono' hF (by decide)⟩
    · rw [if_pos hx]
      refine lp_for2 (m 288 4) (fun t i mm => 0 ≤ i ∧ Bits t (fun h => (h : Int) < i ∧ waysW (m 288) (m 288 3).toNat 0 (ishl 1 (h : Int)) = 0) ∧ Fr [36, 37, 106, 108] m mm) ⟨by omega, bits_zero (fun h _ z => by omega), hF⟩ (by omega) (by omega) ?_ ?_
      · rintro G t i mm hi ⟨i0, hb, hF2⟩ ih
        have hRm : CR (m 288) mm := CR_fr hR (fun o z1 z2 => hF2 o (by simp; omega))
        simp only
        rw [show mm 20 4 = m 288 4 from hRm.1.1.2.2.2.2.1, if_neg (by omega), w32_id (x := i + 1) (by omega) (by omega)]
        refine ok_bW (c_waysWithout hRm hV (ishl_rg _ _)) ?_
        rintro y m3 ⟨e2, hF3⟩
        simp only at e2 hF3
        have F3 := fr_trans hF2 hF3
        by_cases hy : y = 0
        · rw [if_neg (show ¬ ¬ y = 0 from fun z => z hy)]
          refine ih _ _ ⟨by omega, bits_imp (bits_or hb i0 (by omega)) (fun h _ => ⟨?_, ?_⟩), F3⟩
          · rintro (z | z)
            · exact ⟨by omega, z.2⟩
            · rw [show (h : Int) = i by omega]; exact ⟨by omega, by omega⟩
          · rintro ⟨z1, z2⟩
            by_cases q : (h : Int) = i
            · exact .inr (by omega)
            · exact .inl ⟨by omega, z2⟩
        · rw [if_pos hy]
          refine ih _ _ ⟨by omega, bits_imp hb (fun h _ => ⟨fun z => ⟨by omega, z.2⟩, fun z => ⟨?_, z.2⟩⟩), F3⟩
          by_cases q : (h : Int) = i
          · rw [q] at z; omega
          · omega
      · rintro G t mm ⟨_, hb, hF2⟩
        have hRm : CR (m 288) mm := CR_fr hR (fun o z1 z2 => hF2 o (by simp; omega))
        simp only
        rw [show mm 20 4 = m 288 4 from hRm.1.1.2.2.2.2.1, if_pos (Int.le_refl _)]
        exact ok_some ⟨⟨fun z => absurd (e.trans z) hx, fun _ => hb⟩, fr_mono' hF2 (by decide)⟩
  · rw [← e] at hV l4 ⊢
    have hn8 := nH_8 hV.1
    unfold fX12_dear
    simp only [rd_eq, wr_eq, jn_eq]
    have hK0 : up m1 287 4 0 288 = m1 288 := up_cell (by decide)
    have hN : ∀ i, i ≠ 4 → up m1 287 4 0 287 i = m1 287 i := fun i hi => up_idx hi
    have hF0 : Fr MSC m1 (up m1 287 4 0) := fr_up (by decide) fr_refl
    generalize up m1 287 4 0 = m2 at *
    refine ok_bW (m_laysHoused hK0 hV setN_0) ?_
    rintro x m3 ⟨e1, _, e3, e4⟩
    simp only at e1 e3 e4
    have fin : ∀ (v : Int) (m4 : Mem), dearP (m1 288) v → (∀ i, i ≠ 37 → i ≠ 38 → m4 287 i = m2 287 i) → Fr HC m2 m4 → Ok (some (v, m4)) (fun r => dearP (m1 288) r.1 ∧ Fr MSC m1 r.2 ∧ (r.2 287 6 = m1 287 6 ∧ r.2 287 14 = m1 287 14 ∧ r.2 287 15 = m1 287 15)) := fun v m4 hv h1 h2 => ok_some ⟨hv, fr_trans hF0 (fr_mono' h2 (by decide)), (h1 6 (by decide) (by decide)).trans (hN 6 (by decide)), (h1 14 (by decide) (by decide)).trans (hN 14 (by decide)), (h1 15 (by decide) (by decide)).trans (hN 15 (by decide))⟩
    by_cases hx : x = 0
    · rw [if_neg (show ¬ ¬ x = 0 from fun z => z hx)]
      exact fin 0 m3 ⟨fun _ => rfl, fun z => absurd (e1.symm.trans hx) z⟩ e3 e4
    · rw [if_pos hx]
      refine lp_for2 (m1 288 4) (fun t i mm => 0 ≤ i ∧ Bits t (fun h => (h : Int) < i ∧ waysW (m1 288) (m1 288 3).toNat 0 (ishl 1 (h : Int)) = 0) ∧ (∀ i, i ≠ 37 → i ≠ 38 → mm 287 i = m2 287 i) ∧ Fr HC m2 mm) ⟨by omega, bits_zero (fun h _ z => by omega), e3, e4⟩ (by omega) (by omega) ?_ ?_
      · rintro G t i mm hi ⟨i0, hb, h2, hF2⟩ ih
        have hKm : mm 288 = m1 288 := (hF2 288 (by decide)).trans hK0
        have hs : SetN (nH (m1 288)) (ishl 1 i) := ⟨ishl_rg _ _, fun b hb q => by rw [tb_powi i0 (by omega) hb] at q; have := of_decide_eq_true q; omega⟩
        simp only
        rw [hKm, if_neg (by omega), w32_id (x := i + 1) (by omega) (by omega)]
        refine ok_bW (m_laysHoused hKm hV hs) ?_
        rintro y m4 ⟨f1, _, f3, f4⟩
        simp only at f1 f3 f4
        have F4 := fr_trans hF2 f4
        have h4 : ∀ i, i ≠ 37 → i ≠ 38 → m4 287 i = m2 287 i := fun i a b => (f3 i a b).trans (h2 i a b)
        by_cases hy : y = 0
        · rw [if_neg (show ¬ ¬ y = 0 from fun z => z hy)]
          refine ih _ _ ⟨by omega, bits_imp (bits_or hb i0 (by omega)) (fun h _ => ⟨?_, ?_⟩), h4, F4⟩
          · rintro (z | z)
            · exact ⟨by omega, z.2⟩
            · rw [show (h : Int) = i by omega]; exact ⟨by omega, by omega⟩
          · rintro ⟨z1, z2⟩
            by_cases q : (h : Int) = i
            · exact .inr (by omega)
            · exact .inl ⟨by omega, z2⟩
        · rw [if_pos hy]
          have e0 : ior t 0 = t := tb_ext (ior_rg _ _) hb.1 (fun z _ => by rw [tb_or, tb_zero]; simp)
          rw [e0]
          refine ih _ _ ⟨by omega, bits_imp hb (fun h _ => ⟨fun z => ⟨by omega, z.2⟩, fun z => ⟨?_, z.2⟩⟩), h4, F4⟩
          by_cases q : (h : Int) = i
          · rw [q] at z; omega
          · omega
      · rintro G t mm ⟨_, hb, h2, hF2⟩
        have hKm : mm 288 = m1 288 := (hF2 288 (by decide)).trans hK0
        simp only
        rw [hKm, if_pos (Int.le_refl _)]
        exact fin t mm ⟨fun z => absurd (e1.trans z) hx, fun _ => hb⟩ h2 hF2

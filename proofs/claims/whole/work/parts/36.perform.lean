/-! ===== D16: perform, season ===== -/
def doK (K : Int → Int) (v : Int) : Int → Int := doesK (keepK K) v
theorem KV_do {K : Int → Int} {c v : Int} (hV : KV c K) (h : toldF K v = 0) : KV (c + 1) (doK K v) := by
  have h2 := KV_keep hV
  have l3 := hV.1.2.1
  have ht : toldF (keepK K) v = 0 := (toldF_sameC sameC_keep l3.2).trans h
  exact KV_cur (sameU_does ht h2.1.2.1.2) h2 (CV_does (KV_CV h2) ht) (by omega)
theorem sameI_do {K : Int → Int} {v : Int} (h : toldF K v = 0) (h3 : K 3 ≤ 4) : SameI K (doK K v) := by
  have ht : toldF (keepK K) v = 0 := (toldF_sameC sameC_keep h3).trans h
  exact sameI_trans sameI_keep (sameU_I (sameU_does ht (by rw [sameI_keep 3 (by omega)]; exact h3)))
/-- a told deed done and kept, the class -/
theorem c_did {K : Int → Int} {c v : Int} {m : Mem} (hW : WRel 19 K m) (hV : KV c K) (c0 : 0 ≤ c) (c1 : c ≤ 1000000) (v0 : -9223372036854775808 ≤ v) (v1 : v < 9223372036854775808) :
    Ok (fX10_doTold v 1 m) (fun r => r.1 = toldF K v ∧ (toldF K v ≠ 0 → WRel 19 K r.2) ∧ (toldF K v = 0 → WRel 19 (doK K v) r.2) ∧ Fr FDK m r.2 ∧ r.2 19 3 = m 19 3) := by
  have l3 := hV.1.2.1
  refine ok_imp (c_doTold (d := 1) (WRel_CR hW) (KV_CV hV) c0 c1 v0 v1 (.inr ⟨rfl, hV, hW⟩)) ?_
  rintro ⟨x, m1⟩ ⟨h1, h2⟩
  by_cases h : toldF K v = 0
  · obtain ⟨e1, _, e2⟩ := h2 h
    obtain ⟨m2, g1, g2, g3, g4, g5⟩ := e2 rfl
    simp only at e1 g4 g5
    have ht : toldF (keepK K) v = 0 := (toldF_sameC sameC_keep l3.2).trans h
    refine ⟨e1.trans h.symm, fun q => absurd h q, fun _ => WRel_cur (sameU_does ht (by rw [sameI_keep 3 (by omega)]; exact l3.2)) g1 g4 (fun o z => g5 o (by unfold FD; simp; omega)), fr_trans (fr_mono' g2 (by decide)) (fr_FDK3 g5), ?_⟩
    show m1 19 3 = _
    rw [g5 19 (by decide), g3]
  · obtain ⟨e1, e2⟩ := h1 h
    simp only at e1 e2
    exact ⟨e1, fun _ => WRel_fr2 hW e2, fun q => absurd q h, fr_FDK1 e2, by show m1 19 3 = _; rw [e2 19 (by decide)]⟩
/-- the same, the model -/
theorem m_did {K : Int → Int} {c v : Int} {m : Mem} (hK : m 288 = K) (hV : KV c K) (c0 : 0 ≤ c) (c1 : c ≤ 1000000) (h : toldF K v = 0) :
    Ok (bV (fX12_keeps m) fun mm => fX12_does v mm) (fun m' => m' 288 = doK K v ∧ Fr [288, 293, 294] m m') := by
  have l3 := hV.1.2.1
  refine ok_bV (m_keeps hK hV.2.2.1) ?_
  rintro m2 ⟨a, b⟩
  refine ok_imp (m_does a (CV_sameC sameC_keep (KV_CV hV)) c0 c1 ((toldF_sameC sameC_keep l3.2).trans h)) ?_
  rintro m3 ⟨a3, b3⟩
  exact ⟨a3, fr_trans (fr_mono' b (by decide)) b3⟩
/-- the row's deeds done, from place i on -/
def pfF (A : Int → Int) : Nat → Int → (Int → Int) → Int × (Int → Int)
  | 0, i, K => (i, K)
  | n + 1, i, K => if toldF K (A i) = 0 then pfF A n (i + 1) (doK K (A i)) else (i, K)
theorem pfF_z {A : Int → Int} {i : Int} {K : Int → Int} : pfF A 0 i K = (i, K) := rfl
theorem pfF_go {A : Int → Int} {n : Nat} {i : Int} {K : Int → Int} (h : toldF K (A i) = 0) : pfF A (n + 1) i K = pfF A n (i + 1) (doK K (A i)) := by
  show (if _ then _ else _) = _
  rw [if_pos h]
theorem pfF_no {A : Int → Int} {n : Nat} {i : Int} {K : Int → Int} (h : ¬ toldF K (A i) = 0) : pfF A (n + 1) i K = (i, K) := by
  show (if _ then _ else _) = _
  rw [if_neg h]
theorem pfF_rg {A : Int → Int} : ∀ (n : Nat) (i : Int) (K : Int → Int), i ≤ (pfF A n i K).1 ∧ (pfF A n i K).1 ≤ i + n
  | 0, i, K => by unfold pfF; simp
  | n + 1, i, K => by
    unfold pfF
    split
    · have := pfF_rg (A := A) n (i + 1) (doK K (A i)); omega
    · simp; omega
theorem KV_pf {A : Int → Int} {c : Int} : ∀ (n : Nat) (i : Int) (K : Int → Int), KV c K → KV (c + n) (pfF A n i K).2
  | 0, i, K, h => by unfold pfF; exact KV_mono h (by omega)
  | n + 1, i, K, h => by
    unfold pfF
    split
    · rename_i q
      exact KV_mono (KV_pf (c := c + 1) n (i + 1) (doK K (A i)) (KV_do h q)) (by omega)
    · exact KV_mono h (by omega)
theorem c_perform {K : Int → Int} {c t : Int} {m : Mem} (hW : WRel 19 K m) (hV : KV c K) (hT : TrayR m) (c0 : 0 ≤ c) (c1 : c ≤ 900000) :
    Ok (fX11_perform t m) (DC (if 0 ≤ t ∧ t < 4 then (if m 309 t = -1 then 2 else 0) else 3) (pfF (trayA m t) (m 310 t).toNat 0 K).1 (pfF (trayA m t) (m 310 t).toNat 0 K).2 m) := by
  unfold fX11_perform
  rw [c_needRow hT]
  by_cases ht : 0 ≤ t ∧ t < 4
  · obtain ⟨tm, tr⟩ := tray_miss hT ht.1 ht.2
    rw [if_pos ht]
    by_cases hm : m 309 t = -1
    · rw [if_pos hm, bX_some2]
      exact ok_some ⟨rfl, fun q => by omega, fun _ => fr_refl⟩
    · obtain ⟨r1, r2, r3, r4, r5⟩ := tr hm
      rw [if_neg hm, bX_some0, chk_of (by omega)]
      simp only [rd_eq, r4]
      refine lp_for (m 310 t) (fun i mm => 0 ≤ i ∧ ∃ K1, WRel 19 K1 mm ∧ KV (c + i) K1 ∧ pfF (trayA m t) (m 310 t - i).toNat i K1 = pfF (trayA m t) (m 310 t).toNat 0 K ∧ Fr FDK m mm) ⟨by omega, K, hW, KV_mono hV (by omega), by rw [Int.sub_zero], fr_refl⟩ r3.1 (by omega) ?_ ?_
      · rintro G i mm hi ⟨i0, K1, a1, a2, a3, a4⟩ ih
        have rg := r5 i i0 (by omega)
        have eA : mm (90 + t.toNat) i = trayA m t i := by rw [a4 _ (FDK_out (by omega))]; exact rg.1
        rw [if_neg (by omega), c_at ht.1 ht.2 i0 (by omega), bR_some, eA]
        refine ok_bW (c_did a1 a2 (by omega) (by omega) rg.2.1 rg.2.2) ?_
        rintro x m3 ⟨g1, g2, g3, g4, g5⟩
        simp only at g1 g2 g3 g4 g5
        subst g1
        rw [show (m 310 t - i).toNat = (m 310 t - (i + 1)).toNat + 1 by omega] at a3
        by_cases h : toldF K1 (trayA m t i) = 0
        · rw [if_pos h, w32_id (by omega) (by omega)]
          rw [pfF_go h] at a3
          exact ih m3 ⟨by omega, _, g3 h, KV_mono (KV_do a2 h) (by omega), a3, fr_trans a4 g4⟩
        · rw [if_neg h]
          rw [pfF_no h] at a3
          exact ok_some ⟨rfl, fun _ => ⟨by rw [← a3], by rw [← a3]; exact g2 h, fr_trans a4 g4⟩, fun q => absurd rfl q⟩
      · rintro G mm ⟨i0, K1, a1, a2, a3, a4⟩
        rw [if_pos (by omega)]
        rw [show (m 310 t - m 310 t).toNat = 0 by omega, pfF_z] at a3
        have e1 := congrArg Prod.fst a3
        have e2 := congrArg Prod.snd a3
        simp only at e1 e2
        exact ok_some ⟨rfl, fun _ => ⟨e1, by rw [← e2]; exact a1, a4⟩, fun q => absurd rfl q⟩
  · rw [if_neg ht, bX_some3]
    exact ok_some ⟨rfl, fun q => by omega, fun _ => fr_refl⟩
theorem m_perform {K : Int → Int} {c t : Int} {m : Mem} (hK : m 288 = K) (hV : KV c K) (hT : TrayM (m 309) (m 310) (m 311)) (c0 : 0 ≤ c) (c1 : c ≤ 900000) :
    Ok (fX12_perform t m) (DM (if 0 ≤ t ∧ t < 4 then (if m 309 t = -1 then 2 else 0) else 1) (pfF (trayA m t) (m 310 t).toNat 0 K).1 (pfF (trayA m t) (m 310 t).toNat 0 K).2 m) := by
  unfold fX12_perform
  rw [m_trayFault, bR_some]
  simp only [rd_eq, wr_eq, jn_eq, up_same]
  have F : ∀ v, Fr [287, 293, 294, 295] m (up m 287 4 v) := fun v => fr_up (by simp) fr_refl
  have N : ∀ v i, i ≠ 4 → up m 287 4 v 287 i = m 287 i := fun v i h => up_idx h
  have N6 : ∀ v, up m 287 4 v 287 6 = m 287 6 ∧ up m 287 4 v 287 14 = m 287 14 ∧ up m 287 4 v 287 15 = m 287 15 := fun v => ⟨N v 6 (by decide), N v 14 (by decide), N v 15 (by decide)⟩
  unfold tryF
  by_cases ht : 0 ≤ t ∧ t < 4
  · have tr := hT t ht.1 ht.2
    rw [if_pos ht]
    by_cases hm : m 309 t = -1
    · rw [if_pos hm, if_neg (by decide)]
      exact ok_some ⟨up_same m 287 4 2, fun q => by omega, fun _ => F 2, N6 2⟩
    · obtain ⟨r1, r3, r5⟩ := tr hm
      rw [if_neg hm, if_pos (by decide)]
      have hm1 : ∀ o, o ≠ 287 → up m 287 4 0 o = m o := fun o z => up_cell z
      have e287 : up m 287 4 0 287 4 = 0 := up_same _ _ _ _
      have n287 := N6 0
      have FF := F 0
      have hK0 : up m 287 4 0 288 = K := (hm1 288 (by decide)).trans hK
      generalize up m 287 4 0 = m1 at *
      refine lp_for (m 310 t) (fun i mm => 0 ≤ i ∧ ∃ K1, mm 288 = K1 ∧ KV (c + i) K1 ∧ pfF (trayA m t) (m 310 t - i).toNat i K1 = pfF (trayA m t) (m 310 t).toNat 0 K ∧ Fr [288, 293, 294] m1 mm) ⟨by omega, K, hK0, KV_mono hV (by omega), by rw [Int.sub_zero], fr_refl⟩ r3.1 (by omega) ?_ ?_
      · rintro G i mm hi ⟨i0, K1, a1, a2, a3, a4⟩ ih
        have rg := r5 i i0 (by omega)
        have e310 : mm 310 = m 310 := (a4 310 (by decide)).trans (hm1 310 (by decide))
        have e311 : mm 311 = m 311 := (a4 311 (by decide)).trans (hm1 311 (by decide))
        have eA : m 311 (30 * t + i) = trayA m t i := rfl
        rw [chk_of (by omega), e310, if_neg (by omega), w32_id (x := 30 * t) (by omega) (by omega), w32_id (x := 30 * t + i) (by omega) (by omega), chk_of (by omega), e311, eA]
        refine ok_bW (m_whyTold a1 (KV_CV a2) (by omega) rg.1 rg.2) ?_
        rintro x m3 ⟨g1, g2⟩
        simp only at g1 g2
        subst g1
        rw [show (m 310 t - i).toNat = (m 310 t - (i + 1)).toNat + 1 by omega] at a3
        have b1 : m3 288 = K1 := (g2 288 (by decide)).trans a1
        by_cases h : toldF K1 (trayA m t i) = 0
        · rw [if_neg (by simp [h])]
          rw [pfF_go h] at a3
          obtain ⟨m5, ed, hd1, hd2⟩ := m_did (v := trayA m t i) b1 a2 (by omega) (by omega) h
          refine ok_bV (m_keeps b1 a2.2.2.1) ?_
          rintro m4 ⟨k1, k2⟩
          have e311' : m4 311 = m 311 := (k2 311 (by decide)).trans ((g2 311 (by decide)).trans e311)
          have vr : -1 ≤ trayA m t i ∧ trayA m t i ≤ 2009 := by rcases toldF_inv h with h | h | ⟨h, _⟩ | ⟨h, _⟩ <;> omega
          rw [chk_of (by omega), e311', eA, w32_id (x := trayA m t i) (by omega) (by omega), w32_id (x := i + 1) (by omega) (by omega)]
          refine ok_bV (m_does k1 (CV_sameC sameC_keep (KV_CV a2)) (by omega) (by omega) ((toldF_sameC sameC_keep a2.1.2.1.2).trans h)) ?_
          rintro m6 ⟨j1, j2⟩
          exact ih m6 ⟨by omega, _, j1, KV_mono (KV_do a2 h) (by omega), a3, fr_trans a4 (fr_trans (fr_mono' g2 (by decide)) (fr_trans (fr_mono' k2 (by decide)) j2))⟩
        · rw [if_pos h]
          rw [pfF_no h] at a3
          have FM : Fr [288, 293, 294] m1 m3 := fr_trans a4 (fr_mono' g2 (by decide))
          have e7 : m3 287 = m1 287 := FM 287 (by decide)
          exact ok_some ⟨by show m3 287 4 = 0; rw [e7, e287], fun _ => ⟨by rw [← a3], by rw [← a3]; exact b1, fr_trans (fr_mono' FF (by decide)) (fr_mono' FM (by decide))⟩, fun q => absurd rfl q, by show m3 287 6 = _ ∧ m3 287 14 = _ ∧ m3 287 15 = _; rw [e7]; exact n287⟩
      · rintro G mm ⟨i0, K1, a1, a2, a3, a4⟩
        have e310 : mm 310 = m 310 := (a4 310 (by decide)).trans (hm1 310 (by decide))
        rw [chk_of (by omega), e310, if_pos (by omega)]
        rw [show (m 310 t - m 310 t).toNat = 0 by omega, pfF_z] at a3
        have e1 := congrArg Prod.fst a3
        have e2 := congrArg Prod.snd a3
        simp only at e1 e2
        have e7 : mm 287 = m1 287 := a4 287 (by decide)
        exact ok_some ⟨by show mm 287 4 = 0; rw [e7, e287], fun _ => ⟨e1, by rw [← e2]; exact a1, fr_trans (fr_mono' FF (by decide)) (fr_mono' a4 (by decide))⟩, fun q => absurd rfl q, by show mm 287 6 = _ ∧ mm 287 14 = _ ∧ mm 287 15 = _; rw [e7]; exact n287⟩
  · rw [if_neg ht, if_neg (by decide)]
    exact ok_some ⟨up_same m 287 4 1, fun q => by omega, fun _ => F 1, N6 1⟩
theorem d_perform {c t : Int} {m : Mem} (hI : Inv c m) (c0 : 0 ≤ c) (c1 : c ≤ 900000) : Two1 c (fL_perform t) (fX12_perform t) m := by
  have hV := hI.2.2.1
  have hT := hI.2.2.2.2.2.1
  refine two_d (x := fX11_perform t) (k := if 0 ≤ t ∧ t < 4 then (if m 309 t = -1 then 2 else 0) else 3) (k' := if 0 ≤ t ∧ t < 4 then (if m 309 t = -1 then 2 else 0) else 1) hI c0 (c_perform hI.2.2.2.1 hV hT c0 c1) (fun _ => rfl) ?_ ?_ (fun m1 e e1 e2 e3 => ?_) (fun q => ?_)
  · by_cases hp : (0 ≤ t ∧ t < 4) <;> by_cases hq : m 309 t = -1 <;> simp [hp, hq]
  · by_cases hp : (0 ≤ t ∧ t < 4) <;> by_cases hq : m 309 t = -1 <;> simp [hp, hq]
  · have := m_perform (t := t) (m := m1) e hV (by rw [e1, e2, e3]; exact trayM_of hT) c0 c1
    unfold trayA at *
    rw [e1, e2, e3] at this
    exact this
  · by_cases hp : (0 ≤ t ∧ t < 4)
    · rw [if_pos hp] at q
      by_cases hm : m 309 t = -1
      · rw [if_pos hm] at q; omega
      · have r3 := (trayM_of hT t hp.1 hp.2 hm).2.1
        exact KV_mono (KV_pf _ _ _ hV) (by omega)
    · rw [if_neg hp] at q; omega

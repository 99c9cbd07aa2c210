/-! ===== D13: step, tie, rain, hours, undo ===== -/
/-- only the state of now differs -/
def SameU (K K' : Int → Int) : Prop := ∀ j, (j < 9 ∨ 25 ≤ j) → K' j = K j
theorem sameU_ku {K K' : Int → Int} {i v : Int} (h : SameU K K') (h0 : 9 ≤ i) (h1 : i < 25) : SameU K (ku K' i v) := fun j hj => (ku_ne (by omega)).trans (h j hj)
theorem sameU_refl {K : Int → Int} : SameU K K := fun _ _ => rfl
theorem sameU_trans {K K' K'' : Int → Int} (h : SameU K K') (k : SameU K' K'') : SameU K K'' := fun j hj => (k j hj).trans (h j hj)
theorem sameU_hour {K : Int → Int} : SameU K (hourK K) := sameU_ku (sameU_ku sameU_refl (by omega) (by omega)) (by omega) (by omega)
theorem sameU_walk {K : Int → Int} {p t u : Int} (p0 : 0 ≤ p) (p1 : p < 4) : SameU K (walkK K p t u) := sameU_ku (sameU_ku sameU_refl (by omega) (by omega)) (by omega) (by omega)
theorem sameU_rain {K : Int → Int} {a b : Int} : SameU K (rainK K a b) := sameU_ku (sameU_ku sameU_refl (by omega) (by omega)) (by omega) (by omega)
theorem sameU_I {K K' : Int → Int} (h : SameU K K') : SameI K K' := fun j hj => h j (by omega)
theorem sameU_does {K : Int → Int} {v : Int} (h : toldF K v = 0) (h3 : K 3 ≤ 4) : SameU K (doesK K v) := by
  unfold doesK
  rcases toldF_inv h with h | h | ⟨h, hw⟩ | ⟨h, hp⟩
  · rw [if_pos h]; exact sameU_hour
  · rw [if_neg (by omega), if_neg (by omega), if_neg (by omega)]; exact sameU_rain
  · rw [if_neg (by omega), if_pos (by omega)]
    exact sameU_trans (sameU_walk (by omega) (by omega)) sameU_hour
  · rw [if_neg (by omega), if_neg (by omega), if_pos (by omega)]
    exact sameU_ku sameU_refl (by omega) (by omega)
theorem WRel_cur {K K' : Int → Int} {m m' : Mem} (hs : SameU K K') (h : WRel 19 K m) (hc : CR K' m') (hq : ∀ o, o = 19 ∨ (38 ≤ o ∧ o < 78) → m' o = m o) : WRel 19 K' m' := by
  obtain ⟨h1, h2, h3, h4, h5⟩ := h
  have h3' : m 19 2 = K 7 := h3
  refine ⟨hc.1, hc.2, ?_, ?_, fun s s0 s1 => ?_⟩
  · rw [hq 19 (by omega), hs 7 (by omega)]; exact h3
  · rw [hq 19 (by omega)]; exact h4
  · rw [hs 7 (by omega)] at s1 ⊢
    rw [hq 19 (by omega), hs 3 (by omega)]
    have e : (fun i => K' (37 + 16 * s + i)) = (fun i => if 0 ≤ i then K (37 + 16 * s + i) else K' (37 + 16 * s + i)) := by
      funext i; split
      · exact hs _ (by omega)
      · rfl
    have key : LfR (pastAt 19 (m 19 4) (K 7) s) (K 3) (fun i => K (37 + 16 * s + i)) m' := by
      refine LfR_fr (h5 s s0 s1) (fun q b1 b2 => ?_)
      unfold pastAt at b1 b2
      have : 0 ≤ (m 19 4 - (K 7 - 1 - s)) % 10 ∧ (m 19 4 - (K 7 - 1 - s)) % 10 < 10 := ⟨Int.emod_nonneg _ (by decide), Int.emod_lt_of_pos _ (by decide)⟩
      exact hq q (by omega)
    rw [e]
    obtain ⟨⟨k0, k1, k2, k3⟩, k4⟩ := key
    refine ⟨⟨k0, k1, k2, k3⟩, fun p p0 p1 => ?_⟩
    have := k4 p p0 p1
    dsimp only
    rw [if_pos (show 0 ≤ 4 + p by omega), if_pos (show 0 ≤ 8 + p by omega), if_pos p0]
    exact this
theorem KV_cur {K K' : Int → Int} {c c' : Int} (hs : SameU K K') (h : KV c K) (hc : CV c' K') (hd : c ≤ c') : KV c' K' := by
  obtain ⟨h1, h2, h3, h4⟩ := h
  refine ⟨hc.1, hc.2, by rw [hs 7 (by omega)]; exact h3, fun s s0 s1 => ?_⟩
  rw [hs 7 (by omega)] at s1
  exact StV_isl (sameU_I hs) (StV_cong h1.2.1.2 (fun i a b => hs _ (by omega)) (StV_mono (h4 s s0 s1) hd))
theorem inv_deed {c c' : Int} {K' : Int → Int} {m m1 m2 : Mem} (hI : Inv c m) (hd : c ≤ c') (hC : ∀ o, o < 19 ∨ 78 ≤ o → o ≠ 312 → m1 o = m o) (hM : Fr [287, 288, 293, 294, 295] m1 m2)
    (h287 : m2 287 6 = m1 287 6 ∧ m2 287 14 = m1 287 14 ∧ m2 287 15 = m1 287 15) (hW : WRel 19 K' m1) (hK : m2 288 = K') (hV : KV c' K') : Inv c' m2 := by
  obtain ⟨i1, i2, i3, i4, i5, i6, i7, i8⟩ := hI
  have k : ∀ o, o < 19 ∨ 78 ≤ o → o ∉ [287, 288, 293, 294, 295, 312] → m2 o = m o := fun o z1 z2 => by
    simp at z2
    exact (hM o (by simp; omega)).trans (hC o z1 (by omega))
  have e287 : m1 287 = m 287 := hC 287 (by omega) (by decide)
  have e0 : m2 0 = m 0 := k 0 (by omega) (by decide)
  refine ⟨TapeR_fr i1 (by rw [e0]) (k 1 (by omega) (by decide)) (k 292 (by omega) (by decide)) (h287.1.trans (by rw [e287])), ?_, by rw [hK]; exact hV, ?_, ImgR_mono (ImgR_fr i5 (k _ (by omega) (by decide)) (k _ (by omega) (by decide)) (k _ (by omega) (by decide)) (fun o z1 z2 => k o (by omega) (by simp; omega))) hd, TrayR_fr i6 (fun o z => k o (by omega) (by simp; omega)), NearOk_fr i7 (by rw [k 18 (by omega) (by decide)]; exact ⟨rfl, rfl, rfl⟩) (k _ (by omega) (by decide)), PtrR_fr i8 (k _ (by omega) (by decide)) (k _ (by omega) (by decide))⟩
  · unfold FaultR; rw [e0, h287.2.1, h287.2.2, e287]; exact i2
  · rw [hK]; exact WRel_fr' hW (fun o z1 z2 => hM o (by simp; omega))
theorem inv_m5 {c c' : Int} {m m' : Mem} (hI : Inv c m) (hd : c ≤ c') (hF : Fr [287, 293, 294, 295] m m') (h : m' 287 6 = m 287 6 ∧ m' 287 14 = m 287 14 ∧ m' 287 15 = m 287 15) : Inv c' m' := by
  refine Inv_mono (inv_q hI (fun o ho => hF o (held_of (by decide) ho)) h (NearOk_fr hI.2.2.2.2.2.2.1 ?_ (hF 81 (by decide))) (PtrR_fr hI.2.2.2.2.2.2.2 (hF 96 (by decide)) (hF 100 (by decide)))) hd
  rw [hF 18 (by decide)]; exact ⟨rfl, rfl, rfl⟩
theorem inv_c {c : Int} {m m' : Mem} (hI : Inv c m) (hF : Fr [36, 37, 312] m m') : Inv c m' := by
  refine inv_q hI (fun o ho => hF o (held_of (by decide) ho)) ?_ (NearOk_fr hI.2.2.2.2.2.2.1 ?_ (hF 81 (by decide))) (PtrR_fr hI.2.2.2.2.2.2.2 (hF 96 (by decide)) (hF 100 (by decide)))
  · rw [hF 287 (by decide)]; exact ⟨rfl, rfl, rfl⟩
  · rw [hF 18 (by decide)]; exact ⟨rfl, rfl, rfl⟩
def FDK : List Nat := [19, 20, 21, 22, 23, 24, 25, 26, 27, 28, 29, 30, 31, 32, 33, 34, 35, 36, 37, 38, 39, 40, 41, 42, 43, 44, 45, 46, 47, 48, 49, 50, 51, 52, 53, 54, 55, 56, 57, 58, 59, 60, 61, 62, 63, 64, 65, 66, 67, 68, 69, 70, 71, 72, 73, 74, 75, 76, 77]
theorem FDK_out {o : Nat} (h : o < 19 ∨ 78 ≤ o) : o ∉ FDK := by
  have : ∀ o, o ∈ FDK → 19 ≤ o ∧ o < 78 := by decide
  intro q
  have := this o q
  omega
theorem fr_FDK1 {m m' : Mem} (h : Fr [36, 37] m m') : Fr FDK m m' := fr_mono' h (by decide)
theorem fr_FDK2 {m m' : Mem} (h : Fr (19 :: pastC) m m') : Fr FDK m m' := fr_mono' h (by decide)
theorem fr_FDK3 {m m' : Mem} (h : Fr FD m m') : Fr FDK m m' := fr_mono' h (by decide)
theorem fr_FDK4 {m m' : Mem} (h : Fr [27, 36, 37] m m') : Fr FDK m m' := fr_mono' h (by decide)
theorem fr_FDK5 {m m' : Mem} (h : Fr [28, 29] m m') : Fr FDK m m' := fr_mono' h (by decide)
theorem fr_FDK6 {m m' : Mem} (h : Fr [30] m m') : Fr FDK m m' := fr_mono' h (by decide)
theorem fr_FDK7 {m m' : Mem} (h : Fr [27] m m') : Fr FDK m m' := fr_mono' h (by decide)
theorem fr_FDK8 {m m' : Mem} (h : Fr [19, 27, 28, 29, 30] m m') : Fr FDK m m' := fr_mono' h (by decide)
/-! step -/
theorem c_step {K : Int → Int} {c p t u : Int} {m : Mem} (hW : WRel 19 K m) (hV : KV c K) (c0 : 0 ≤ c) (c1 : c ≤ 1000000) :
    Ok (fX11_step p t u m) (fun r => (whyF K p t u ≠ 0 → r.1 = -whyF K p t u ∧ Fr [36, 37] m r.2) ∧
      (whyF K p t u = 0 → r.1 = apartF (K 1) (stepK (keepK K) p t u (13 + p)) (stepK (keepK K) p t u (17 + p)) ∧ WRel 19 (stepK (keepK K) p t u) r.2 ∧ Fr FDK m r.2)) := by
  have hR := WRel_CR hW
  have hCV := KV_CV hV
  have l3 := hCV.1.2.1
  unfold fX11_step
  refine ok_bW (c_whyNoStep hR hCV c1) ?_
  rintro x m1 ⟨e, hF⟩
  simp only at e hF
  subst e
  by_cases hw : whyF K p t u = 0
  · rw [if_pos hw]
    obtain ⟨wp, wt, _⟩ := whyF_inv hw
    refine ok_bV (c_remember (WRel_fr2 hW hF) hV) ?_
    rintro m2 ⟨a2, b2, _⟩
    have hV2 : CV c (keepK K) := CV_sameC sameC_keep hCV
    have e3 : keepK K 3 = K 3 := sameI_keep 3 (by omega)
    have hw2 : whyF (keepK K) p t u = 0 := (whyF_sameC sameC_keep l3.2).trans hw
    refine ok_bV (c_walk (WRel_CR a2) hV2 wp.1 (by rw [e3]; exact wp.2)) ?_
    rintro m3 ⟨a3, b3⟩
    refine ok_bV (c_passHour a3 (CV_walk hV2 hw2) c0 c1) ?_
    rintro m4 ⟨a4, b4⟩
    have hV4 : CV (c + 1) (stepK (keepK K) p t u) := CV_hour (CV_walk hV2 hw2)
    have hS : SameU (keepK K) (stepK (keepK K) p t u) := sameU_trans (sameU_walk wp.1 (by omega)) sameU_hour
    have e4 : stepK (keepK K) p t u 3 = K 3 := (hS 3 (by omega)).trans e3
    have e1 : stepK (keepK K) p t u 1 = K 1 := (hS 1 (by omega)).trans (sameI_keep 1 (by omega))
    have a4' : CR (stepK (keepK K) p t u) m4 := a4
    rw [c_apartP a4' hV4 wp.1 (by rw [e4]; exact wp.2), bR_some, e1]
    refine ok_some ⟨fun q => absurd hw q, fun _ => ⟨rfl, WRel_cur hS a2 a4 (fun o z => ?_), fr_trans (fr_FDK1 hF) (fr_trans (fr_FDK2 b2) (fr_trans (fr_FDK5 b3) (fr_FDK4 b4)))⟩⟩
    show m4 o = m2 o
    rw [b4 o (by simp; omega), b3 o (by simp; omega)]
  · rw [if_neg hw, w32_id (by unfold whyF at *; repeat' split; all_goals omega) (by unfold whyF at *; repeat' split; all_goals omega)]
    exact ok_some ⟨fun _ => ⟨rfl, hF⟩, fun q => absurd q hw⟩
theorem m_step {K : Int → Int} {c p t u : Int} {m : Mem} (hK : m 288 = K) (hV : KV c K) (c0 : 0 ≤ c) (c1 : c ≤ 1000000) :
    Ok (fX12_step p t u m) (fun r => (whyF K p t u ≠ 0 → r.1 = -whyF K p t u ∧ Fr [287, 293, 294] m r.2) ∧
      (whyF K p t u = 0 → r.1 = apartF (K 1) (stepK (keepK K) p t u (13 + p)) (stepK (keepK K) p t u (17 + p)) ∧ r.2 288 = stepK (keepK K) p t u ∧ Fr [287, 288, 293, 294] m r.2) ∧ ∀ i, i ≠ 4 → r.2 287 i = m 287 i) := by
  have hCV := KV_CV hV
  have l3 := hCV.1.2.1
  have F0 : Fr [287] m (up m 287 4 0) := fr_up (by simp) fr_refl
  have N : ∀ i, i ≠ 4 → up m 287 4 0 287 i = m 287 i := fun i h => up_idx h
  have hK0 : up m 287 4 0 288 = K := (F0 288 (by decide)).trans hK
  unfold fX12_step
  simp only [wr_eq]
  refine ok_bW (m_whyStep hK0 hCV c1) ?_
  rintro x m1 ⟨e, hF⟩
  simp only at e hF
  subst e
  have hK1 : m1 288 = K := (hF 288 (by decide)).trans hK0
  have e7 : m1 287 = up m 287 4 0 287 := hF 287 (by decide)
  by_cases hw : whyF K p t u = 0
  · rw [if_pos hw]
    obtain ⟨wp, wt, _⟩ := whyF_inv hw
    refine ok_bV (m_keeps hK1 hV.2.2.1) ?_
    rintro m2 ⟨a2, b2⟩
    have hV2 : CV c (keepK K) := CV_sameC sameC_keep hCV
    have hw2 : whyF (keepK K) p t u = 0 := (whyF_sameC sameC_keep l3.2).trans hw
    refine ok_bV (m_steps a2 hV2 c0 c1 hw2) ?_
    rintro m4 ⟨a4, b4⟩
    have hV4 : CV (c + 1) (stepK (keepK K) p t u) := CV_hour (CV_walk hV2 hw2)
    have hS : SameU (keepK K) (stepK (keepK K) p t u) := sameU_trans (sameU_walk wp.1 (by omega)) sameU_hour
    have e3 : stepK (keepK K) p t u 3 = K 3 := (hS 3 (by omega)).trans (sameI_keep 3 (by omega))
    have e1 : stepK (keepK K) p t u 1 = K 1 := (hS 1 (by omega)).trans (sameI_keep 1 (by omega))
    rw [m_apartOf a4 hV4 wp.1 (by rw [e3]; exact wp.2), bR_some, e1]
    refine ok_some ⟨fun q => absurd hw q, fun _ => ⟨rfl, a4, fr_trans (fr_mono' F0 (by decide)) (fr_trans (fr_mono' hF (by decide)) (fr_trans (fr_mono' b2 (by decide)) (fr_mono' b4 (by decide))))⟩, fun i hi => ?_⟩
    show m4 287 i = _
    rw [b4 287 (by decide), b2 287 (by decide), e7, N i hi]
  · rw [if_neg hw, w32_id (by unfold whyF at *; repeat' split; all_goals omega) (by unfold whyF at *; repeat' split; all_goals omega)]
    exact ok_some ⟨fun _ => ⟨rfl, fr_trans (fr_mono' F0 (by decide)) (fr_mono' hF (by decide))⟩, fun q => absurd q hw, fun i hi => by show m1 287 i = _; rw [e7, N i hi]⟩
theorem d_step {c p t u : Int} {m : Mem} (hI : Inv c m) (c0 : 0 ≤ c) (c1 : c ≤ 900000) : Two0 c (fX11_step p t u) (fX12_step p t u) m := by
  have hV := hI.2.2.1
  have hW := hI.2.2.2.1
  refine ok_imp (c_step hW hV c0 (by omega)) ?_
  rintro ⟨x, m1⟩ ⟨a1, a2⟩
  simp only at a1 a2
  have e288 : m1 288 = m 288 := by
    by_cases hw : whyF (m 288) p t u = 0
    · exact (a2 hw).2.2 288 (FDK_out (by omega))
    · exact (a1 hw).2 288 (by decide)
  refine ok_imp (m_step e288 hV c0 (by omega)) ?_
  rintro ⟨y, m2⟩ ⟨b1, b2, b3⟩
  simp only at b1 b2 b3
  have h7 : m2 287 6 = m1 287 6 ∧ m2 287 14 = m1 287 14 ∧ m2 287 15 = m1 287 15 := ⟨b3 6 (by decide), b3 14 (by decide), b3 15 (by decide)⟩
  by_cases hw : whyF (m 288) p t u = 0
  · obtain ⟨p1, p2, p3⟩ := a2 hw
    obtain ⟨q1, q2, q3⟩ := b2 hw
    obtain ⟨wp, wt, _⟩ := whyF_inv hw
    have l3 := hV.1.2.1
    have hw2 : whyF (keepK (m 288)) p t u = 0 := (whyF_sameC sameC_keep l3.2).trans hw
    have hV2 := KV_keep hV
    refine ⟨p1.trans q1.symm, inv_deed hI (by omega) (fun o z _ => p3 o (FDK_out z)) (fr_mono' q3 (by decide)) h7 p2 q2 ?_⟩
    exact KV_cur (sameU_trans (sameU_walk wp.1 (by omega)) sameU_hour) hV2 (CV_mono (CV_hour (CV_walk (KV_CV hV2) hw2)) (by omega)) (by omega)
  · obtain ⟨p1, p2⟩ := a1 hw
    obtain ⟨q1, q2⟩ := b1 hw
    exact ⟨p1.trans q1.symm, inv_m5 (inv_c hI (fr_mono' p2 (by decide))) (by omega) (fr_mono' q2 (by decide)) h7⟩
/-- deeds that may throw -/
def DC (k v : Int) (K' : Int → Int) (m : Mem) (r : Int × Int × Mem) : Prop := r.1 = k ∧ (k = 0 → r.2.1 = v ∧ WRel 19 K' r.2.2 ∧ Fr FDK m r.2.2) ∧ (k ≠ 0 → Fr [36, 37] m r.2.2)
def DM (k v : Int) (K' : Int → Int) (m : Mem) (r : Int × Mem) : Prop := r.2 287 4 = k ∧ (k = 0 → r.1 = v ∧ r.2 288 = K' ∧ Fr [287, 288, 293, 294, 295] m r.2) ∧ (k ≠ 0 → Fr [287, 293, 294, 295] m r.2) ∧ (r.2 287 6 = m 287 6 ∧ r.2 287 14 = m 287 14 ∧ r.2 287 15 = m 287 15)
theorem two_d {c k k' v : Int} {K' : Int → Int} {x : Mem → Option (Int × Int × Mem)} {h f : Int → Mem → Option (Int × Mem)} {G : Mem → Option (Int × Mem)} {m : Mem} (hI : Inv c m) (c0 : 0 ≤ c)
    (hx : Ok (x m) (DC k v K' m)) (hf : ∀ mm, f v mm = some (0, up mm 312 0 v)) (h0 : k = 0 → k' = 0) (hh : k ≠ 0 → k' ≠ 0 ∧ ∀ mm, h k mm = some (k', mm))
    (hG : ∀ m1, m1 288 = m 288 → m1 309 = m 309 → m1 310 = m 310 → m1 311 = m 311 → Ok (G m1) (DM k' v K' m1)) (hV : k = 0 → KV (c + 100) K') : Two1 c (fun mm => bC (x mm) h f) G m := by
  refine bC_ok hx ?_ ?_
  · rintro v' m1 ⟨e1, e2, e3⟩
    simp only at e1 e2 e3
    obtain ⟨g1, g2, g3⟩ := e2 e1.symm
    rw [g1, hf]
    refine ok_some ?_
    have ek : k' = 0 := h0 e1.symm
    have out : ∀ o, o < 19 ∨ 78 ≤ o → o ≠ 312 → up m1 312 0 v o = m o := fun o z1 z2 => (up_cell z2).trans (g3 o (FDK_out z1))
    refine ok_imp (hG (up m1 312 0 v) (out _ (by omega) (by decide)) (out _ (by omega) (by decide)) (out _ (by omega) (by decide)) (out _ (by omega) (by decide))) ?_
    rintro ⟨y, m2⟩ ⟨d1, d2, d3, d4⟩
    simp only at d1 d2 d3 d4
    obtain ⟨j1, j2, j3⟩ := d2 ek
    refine ⟨d1.trans ek, fun _ => ?_, inv_deed hI (by omega) out j3 d4 (WRel_fr' g2 (fun o z1 z2 => up_cell (by omega))) j2 (hV e1.symm)⟩
    show m2 312 0 = y
    rw [j3 312 (by decide), up_same, j1]
  · rintro k1 v' m1 hk ⟨e1, e2, e3⟩
    simp only at e1 e2 e3
    subst e1
    obtain ⟨g1, g2⟩ := hh hk
    rw [g2]
    refine ok_some ?_
    have hF := e3 hk
    refine ok_imp (hG m1 (hF 288 (by decide)) (hF 309 (by decide)) (hF 310 (by decide)) (hF 311 (by decide))) ?_
    rintro ⟨y, m2⟩ ⟨d1, d2, d3, d4⟩
    simp only at d1 d2 d3 d4
    exact ⟨d1, fun q => absurd q g1, inv_m5 (inv_c hI (fr_mono' hF (by decide))) (by omega) (d3 g1) d4⟩
/-! tie -/
theorem lenF_0 {K K' : Int → Int} : True := trivial
theorem c_tie {K : Int → Int} {c p n : Int} {m : Mem} (hW : WRel 19 K m) (hV : KV c K) (c1 : c ≤ 1000000) :
    Ok (fX11_tie p n m) (DC (if 0 ≤ p ∧ p < K 3 then (if 0 ≤ n ∧ n ≤ 9 then 0 else 1) else 3) (lenF (ku (keepK K) (9 + p) n) p (K (25 + p)) (K 24)) (ku (keepK K) (9 + p) n) m) := by
  have hR := WRel_CR hW
  have hCV := KV_CV hV
  have l3 := hCV.1.2.1
  unfold fX11_tie
  rw [c_needPair hR hCV, bX_if (by decide)]
  by_cases hp : 0 ≤ p ∧ p < K 3
  · rw [if_pos hp, if_pos hp, c_needWithin, bX_if (by decide)]
    by_cases hn : 0 ≤ n ∧ n ≤ 9
    · rw [if_pos hn, if_pos hn]
      refine ok_bV (c_remember hW hV) ?_
      rintro m2 ⟨a2, b2, _⟩
      have hV2 : CV c (keepK K) := CV_sameC sameC_keep hCV
      have p3 : p < keepK K 3 := by rw [show keepK K 3 = K 3 from sameI_keep 3 (by omega)]; exact hp.2
      have hR3 := CR_tie (n := n) (WRel_CR a2) hV2 hp.1 p3
      have hV3 := CV_tie hV2 hp.1 p3 hn.1 hn.2
      simp only [rd_eq, wr_eq]
      have hS : SameU (keepK K) (ku (keepK K) (9 + p) n) := sameU_ku sameU_refl (by omega) (by omega)
      have e24 : ku (keepK K) (9 + p) n 24 = K 24 := (ku_ne (by omega)).trans (keepK_out (by omega) (by omega))
      have e25 : ku (keepK K) (9 + p) n (25 + p) = K (25 + p) := (ku_ne (by omega)).trans (keepK_out (by omega) (by omega))
      have hh := (curV_iff.mp hCV.2).2.2.2.2
      rw [chk_of (by omega), (curR_iff.mp hR3.2).1.1, e24]
      refine ok_bW (c_ropeIn hR3 hV3 hp.1 (by rw [ku_ne (by omega)]; exact p3) (by omega)) ?_
      rintro x m' ⟨e, hF⟩
      simp only at e hF
      rw [e25] at e
      refine ok_some ⟨rfl, fun _ => ⟨e, WRel_cur hS a2 (CR_fr2 hR3 hF) (fun o z => ?_), fr_trans (fr_FDK2 b2) (fr_trans (fr_up (by decide) fr_refl) (fr_FDK1 hF))⟩, fun q => absurd rfl q⟩
      show m' o = m2 o
      rw [hF o (by simp; omega), up_cell (by omega)]
    · rw [if_neg hn, if_neg hn]
      exact ok_some ⟨rfl, fun q => by omega, fun _ => fr_refl⟩
  · rw [if_neg hp, if_neg hp]
    exact ok_some ⟨rfl, fun q => by omega, fun _ => fr_refl⟩
theorem m_tie {K : Int → Int} {c p n : Int} {m : Mem} (hK : m 288 = K) (hV : KV c K) (c1 : c ≤ 1000000) :
    Ok (fX12_tie p n m) (DM (if 0 ≤ p ∧ p < K 3 then (if 0 ≤ n ∧ n ≤ 9 then 0 else 2) else 1) (lenF (ku (keepK K) (9 + p) n) p (K (25 + p)) (K 24)) (ku (keepK K) (9 + p) n) m) := by
  have hCV := KV_CV hV
  have l3 := hCV.1.2.1
  unfold fX12_tie
  rw [m_isPair hK hCV.1, bR_some]
  simp only [rd_eq, wr_eq, jn_eq, m_within, bR_some]
  have F : ∀ v, Fr [287, 293, 294, 295] m (up m 287 4 v) := fun v => fr_up (by simp) fr_refl
  have F' : ∀ v, Fr [287, 288, 293, 294, 295] m (up m 287 4 v) := fun v => fr_up (by simp) fr_refl
  have N : ∀ v i, i ≠ 4 → up m 287 4 v 287 i = m 287 i := fun v i h => up_idx h
  have hK1 : ∀ v, (up m 287 4 v) 288 = K := fun v => (up_cell (by decide)).trans hK
  by_cases hp : 0 ≤ p ∧ p < K 3
  · rw [if_pos hp, if_pos (by decide), if_pos hp]
    by_cases hn : 0 ≤ n ∧ n ≤ 9
    · simp only [if_pos hn, Int.reduceEq, reduceIte, up_same, Int.reduceLE]
      refine ok_bV (m_keeps (hK1 0) hV.2.2.1) ?_
      rintro m2 ⟨a2, b2⟩
      have hV2 : CV c (keepK K) := CV_sameC sameC_keep hCV
      have p3 : p < keepK K 3 := by rw [show keepK K 3 = K 3 from sameI_keep 3 (by omega)]; exact hp.2
      have hV3 := CV_tie hV2 hp.1 p3 hn.1 hn.2
      have e24 : ku (keepK K) (9 + p) n 24 = K 24 := (ku_ne (by omega)).trans (keepK_out (by omega) (by omega))
      have e25 : ku (keepK K) (9 + p) n (25 + p) = K (25 + p) := (ku_ne (by omega)).trans (keepK_out (by omega) (by omega))
      rw [w32_id (by omega) (by omega), chk_of (by omega)]
      have hK3 : up m2 288 (9 + p) n 288 = ku (keepK K) (9 + p) n := by rw [up_row, a2]
      refine ok_bW (m_lengthNow hK3 hV3.1 hV3.2 hp.1 (by rw [ku_ne (by omega)]; exact p3)) ?_
      rintro x m' ⟨e, hF⟩
      simp only at e hF
      rw [e25, e24] at e
      have e7 : m' 287 = up m 287 4 0 287 := by rw [hF 287 (by decide), up_cell (by decide), b2 287 (by decide)]
      refine ok_some ⟨by show m' 287 4 = 0; rw [e7, up_same], fun _ => ⟨e, (hF 288 (by decide)).trans hK3, fr_trans (F' 0) (fr_trans (fr_mono' b2 (by decide)) (fr_trans (fr_up (by simp) fr_refl) (fr_mono' hF (by decide))))⟩, fun q => absurd rfl q, ?_⟩
      show m' 287 6 = _ ∧ m' 287 14 = _ ∧ m' 287 15 = _
      rw [e7]; exact ⟨N 0 6 (by decide), N 0 14 (by decide), N 0 15 (by decide)⟩
    · simp only [if_neg hn, Int.reduceEq, reduceIte, up_same, Int.reduceLE]
      exact ok_some ⟨up_same m 287 4 2, fun q => by omega, fun _ => F 2, N 2 6 (by decide), N 2 14 (by decide), N 2 15 (by decide)⟩
  · rw [if_neg hp, if_neg (by decide), if_neg hp]
    simp only [up_same, Int.reduceLE, reduceIte]
    exact ok_some ⟨up_same m 287 4 1, fun q => by omega, fun _ => F 1, N 1 6 (by decide), N 1 14 (by decide), N 1 15 (by decide)⟩
theorem d_tie {c p n : Int} {m : Mem} (hI : Inv c m) (c0 : 0 ≤ c) (c1 : c ≤ 900000) : Two1 c (fL_tie p n) (fX12_tie p n) m := by
  have hV := hI.2.2.1
  have l3 := hV.1.2.1
  refine two_d (x := fX11_tie p n) (k := if 0 ≤ p ∧ p < m 288 3 then (if 0 ≤ n ∧ n ≤ 9 then 0 else 1) else 3) (k' := if 0 ≤ p ∧ p < m 288 3 then (if 0 ≤ n ∧ n ≤ 9 then 0 else 2) else 1) hI c0 (c_tie hI.2.2.2.1 hV (by omega)) (fun _ => rfl) ?_ ?_ (fun m1 e _ _ _ => m_tie e hV (by omega)) ?_
  · by_cases hp : (0 ≤ p ∧ p < m 288 3) <;> by_cases hw : (0 ≤ n ∧ n ≤ 9) <;> simp [hp, hw]
  · by_cases hp : (0 ≤ p ∧ p < m 288 3) <;> by_cases hw : (0 ≤ n ∧ n ≤ 9) <;> simp [hp, hw]
  · intro q
    by_cases hp : (0 ≤ p ∧ p < m 288 3)
    · by_cases hw : (0 ≤ n ∧ n ≤ 9)
      · have hV2 := KV_keep hV
        exact KV_cur (sameU_ku sameU_refl (by omega) (by omega)) hV2 (CV_mono (CV_tie (KV_CV hV2) hp.1 (by rw [show keepK (m 288) 3 = m 288 3 from sameI_keep 3 (by omega)]; exact hp.2) hw.1 hw.2) (by omega)) (by omega)
      · rw [if_pos hp, if_neg hw] at q; omega
    · rw [if_neg hp] at q; omega

/-! ===== D15: trays read; judge, perform ===== -/
/-- the throw of a tray -/
def tryF (m : Mem) (t : Int) : Int := if 0 ≤ t ∧ t < 4 then (if m 309 t = -1 then 2 else 0) else 1
theorem tray_miss {m : Mem} (h : TrayR m) {t : Int} (t0 : 0 ≤ t) (t4 : t < 4) : (m 95 t = -1 ↔ m 309 t = -1) ∧ (m 309 t ≠ -1 → (0 ≤ m 309 t ∧ m 309 t ≤ 3) ∧ m 94 t = m 309 t ∧ (0 ≤ m 310 t ∧ m 310 t ≤ 30) ∧ m 95 t = m 310 t ∧ ∀ i, 0 ≤ i → i < 30 → m (90 + t.toNat) i = m 311 (30 * t + i) ∧ -9223372036854775808 ≤ m 311 (30 * t + i) ∧ m 311 (30 * t + i) < 9223372036854775808) := by
  rcases h t t0 t4 with ⟨a, b⟩ | ⟨a, b, c, d, e⟩
  · exact ⟨by omega, fun q => absurd b q⟩
  · exact ⟨by omega, fun _ => ⟨a, b, c, d, e⟩⟩
/-- what the model's trays keep to -/
def TrayM (a b n : Int → Int) : Prop := ∀ t, 0 ≤ t → t < 4 → a t ≠ -1 → (0 ≤ a t ∧ a t ≤ 3) ∧ (0 ≤ b t ∧ b t ≤ 30) ∧ ∀ i, 0 ≤ i → i < 30 → -9223372036854775808 ≤ n (30 * t + i) ∧ n (30 * t + i) < 9223372036854775808
theorem trayM_of {m : Mem} (h : TrayR m) : TrayM (m 309) (m 310) (m 311) := fun t t0 t4 q => by
  obtain ⟨a, b, c, d, e⟩ := (tray_miss h t0 t4).2 q
  exact ⟨a, c, fun i z1 z2 => (e i z1 z2).2⟩
theorem c_needRow {m : Mem} {t : Int} (h : TrayR m) : fX11_needRow t m = some (if 0 ≤ t ∧ t < 4 then (if m 309 t = -1 then 2 else 0) else 3, 0, m) := by
  have e : fX11_needTray t m = some (if 0 ≤ t ∧ t < 4 then 0 else 3, 0, m) := by
    unfold fX11_needTray
    simp only [jn_eq]
    by_cases ht : 0 ≤ t ∧ t < 4
    · rw [if_pos ht, if_neg (by omega), if_pos (by omega)]
    · rw [if_neg ht]
      by_cases h0 : t < 0
      · rw [if_pos h0]
      · rw [if_neg h0, if_neg (by omega)]
  unfold fX11_needRow
  rw [e, bX_if (by decide)]
  by_cases ht : 0 ≤ t ∧ t < 4
  · have := (tray_miss h ht.1 ht.2).1
    rw [if_pos ht, if_pos ht, chk_of (by omega)]
    simp only [rd_eq]
    by_cases hm : m 309 t = -1
    · rw [if_pos hm, if_neg (by omega)]
    · rw [if_neg hm, if_pos (by omega)]
  · rw [if_neg ht, if_neg ht]
theorem m_trayFault {m : Mem} {t : Int} : fX12_trayFault t m = some (tryF m t) := by
  unfold fX12_trayFault fX12_isTray tryF
  simp only [jn_eq, m_within, bR_some, rd_eq]
  by_cases ht : 0 ≤ t ∧ t < 4
  · rw [if_pos (show 0 ≤ t ∧ t ≤ 3 by omega), chk_of (by simp), bR_some, if_pos (by decide), if_pos ht, chk_of (by omega)]
    by_cases hm : m 309 t = -1
    · rw [if_neg (by omega), if_pos hm]
    · rw [if_pos hm, if_neg hm]
  · rw [if_neg (show ¬ (0 ≤ t ∧ t ≤ 3) by omega), chk_of (by simp), bR_some, if_neg (by decide), if_neg ht]
theorem c_at {m : Mem} {t i : Int} (t0 : 0 ≤ t) (t4 : t < 4) (i0 : 0 ≤ i) (i30 : i < 30) : fX9_at t i m = some (m (90 + t.toNat) i) := by
  unfold fX9_at
  simp only [rd_eq, rdn_eq]
  rw [chk_of (by omega), chk_of (by omega)]
  show some (m (89 + 1 + 1 * t.toNat) i) = _
  rw [show 89 + 1 + 1 * t.toNat = 90 + t.toNat by omega]
/-- told deeds of a row, as if done: the island, why not, where -/
def jst (A K : Int → Int) : Nat → (Int → Int) × Int × Int
  | 0 => (K, 0, -1)
  | n + 1 => if (jst A K n).2.1 = 0 then (if toldF (jst A K n).1 (A n) = 0 then (doesK (jst A K n).1 (A n), 0, -1) else ((jst A K n).1, toldF (jst A K n).1 (A n), (n : Int))) else jst A K n
theorem jst_go {A K : Int → Int} {n : Nat} (h : (jst A K n).2.1 = 0) (h2 : toldF (jst A K n).1 (A n) = 0) : jst A K (n + 1) = (doesK (jst A K n).1 (A n), 0, -1) := by
  show (if _ then _ else _) = _
  rw [if_pos h, if_pos h2]
theorem jst_stop {A K : Int → Int} {n : Nat} (h : (jst A K n).2.1 = 0) (h2 : toldF (jst A K n).1 (A n) ≠ 0) : jst A K (n + 1) = ((jst A K n).1, toldF (jst A K n).1 (A n), (n : Int)) := by
  show (if _ then _ else _) = _
  rw [if_pos h, if_neg h2]
theorem jst_end {A K : Int → Int} {n : Nat} (h : (jst A K n).2.1 ≠ 0) : ∀ k, jst A K (n + k) = jst A K n
  | 0 => rfl
  | k + 1 => by
    have := jst_end h k
    show (if (jst A K (n + k)).2.1 = 0 then _ else jst A K (n + k)) = _
    rw [this, if_neg h]
theorem jst_inv {A K : Int → Int} {c : Int} (hV : CV c K) : ∀ n : Nat, SameU K (jst A K n).1 ∧ CV (c + n) (jst A K n).1 ∧ ((jst A K n).2.1 = 0 ↔ (jst A K n).2.2 = -1) ∧ ((jst A K n).2.1 ≠ 0 → 0 ≤ (jst A K n).2.2 ∧ (jst A K n).2.2 < n)
  | 0 => ⟨sameU_refl, by rw [show (c + ((0 : Nat) : Int)) = c by omega]; exact hV, ⟨fun _ => rfl, fun _ => rfl⟩, fun q => absurd rfl q⟩
  | n + 1 => by
    obtain ⟨h1, h2, h3, h4⟩ := jst_inv (A := A) hV n
    by_cases h : (jst A K n).2.1 = 0
    · by_cases ht : toldF (jst A K n).1 (A n) = 0
      · rw [jst_go h ht]
        refine ⟨sameU_trans h1 (sameU_does ht h2.1.2.1.2), CV_mono (CV_does h2 ht) (by omega), ⟨fun _ => rfl, fun _ => rfl⟩, fun q => absurd rfl q⟩
      · rw [jst_stop h ht]
        exact ⟨h1, CV_mono h2 (by omega), ⟨fun q => absurd q ht, fun q => by simp only at q; omega⟩, fun _ => by simp only; omega⟩
    · have e : jst A K (n + 1) = jst A K n := jst_end h 1
      rw [e]
      refine ⟨h1, CV_mono h2 (by omega), h3, fun q => ?_⟩
      have := h4 q
      omega
theorem putK_back {K K1 : Int → Int} (h : SameU K K1) : putK K1 (fun i => K (9 + i)) = K := by
  funext j
  unfold putK
  split
  · show K (9 + (j - 9)) = K j
    congr 1; omega
  · exact h j (by omega)
def judgV (A K : Int → Int) (n : Nat) (w : Int) : Int :=
  if w = 0 then (jst A K n).2.2 else if w = 1 then (jst A K n).2.1 else if w = 2 then (jst A K n).1 24 else (jst A K n).1 21
def trayA (m : Mem) (t : Int) : Int → Int := fun i => m 311 (30 * t + i)
theorem c_judge {K : Int → Int} {c t w : Int} {m : Mem} (hW : WRel 19 K m) (hV : KV c K) (hT : TrayR m) (c0 : 0 ≤ c) (c1 : c ≤ 900000) :
    Ok (fX11_judge t w m) (DC (if 0 ≤ t ∧ t < 4 then (if m 309 t = -1 then 2 else if 0 ≤ w ∧ w ≤ 3 then 0 else 1) else 3) (judgV (trayA m t) K (m 310 t).toNat w) K m) := by
  have hCV := KV_CV hV
  have n4 := hCV.1.2.1.2
  unfold fX11_judge
  rw [c_needRow hT]
  by_cases ht : 0 ≤ t ∧ t < 4
  · obtain ⟨tm, tr⟩ := tray_miss hT ht.1 ht.2
    rw [if_pos ht, if_pos ht]
    by_cases hm : m 309 t = -1
    · rw [if_pos hm, if_pos hm, bX_some2]
      exact ok_some ⟨rfl, fun q => by omega, fun _ => fr_refl⟩
    · obtain ⟨r1, r2, r3, r4, r5⟩ := tr hm
      rw [if_neg hm, if_neg hm, bX_some0, c_needWithin, bX_if (by decide)]
      by_cases hw : 0 ≤ w ∧ w ≤ 3
      · rw [if_pos hw, if_pos hw, chk_of (by omega)]
        simp only [rd_eq, jn_eq, r4]
        unfold fX10_setAside
        refine ok_bV (ok_bV (c_copyLife (o := 32) (a := 27) hW.2.1 n4 (.inr (by omega))) (fun m' h => ok_some h)) ?_
        rintro m2 ⟨a2, b2⟩
        have F2 : Fr [32, 33, 34, 35] m m2 := fun q hq => b2 q (by simp at hq; omega)
        have hR2 : CR K m2 := CR_fr (WRel_CR hW) (fun o z1 z2 => b2 o (by omega))
        have hN : ∀ i : Int, 0 ≤ i → i < 30 → m2 (90 + t.toNat) i = trayA m t i := fun i z1 z2 => by rw [b2 _ (by omega)]; exact (r5 i z1 z2).1
        refine lp_ok (fun (q : Int × Int × Int) (mm : Mem) => ∃ j : Nat, q.2.2 = (j : Int) ∧ (j : Int) ≤ m 310 t ∧ q.2.1 = (jst (trayA m t) K j).2.1 ∧ q.1 = (if (jst (trayA m t) K j).2.1 = 0 then (j : Int) else (jst (trayA m t) K j).2.2) ∧ CR (jst (trayA m t) K j).1 mm ∧ Fr FD m2 mm) (fun q _ => (m 310 t - q.2.2).toNat) ⟨0, rfl, by omega, rfl, rfl, hR2, fr_refl⟩ (by show (m 310 t - 0).toNat < _; omega) ?_
        rintro G ⟨d, y, i⟩ mm ⟨j, rfl, hj, hy, hd, hR, hF⟩ ih
        simp only at hy hd
        subst hy
        subst hd
        obtain ⟨i1, i2, i3, i4⟩ := jst_inv (A := trayA m t) hCV j
        have fin : (m 310 t ≤ j ∨ (jst (trayA m t) K j).2.1 ≠ 0) → Ok (bV (fX10_takeUpAgain mm) fun mm_1 => if w = 0 then if ¬ (jst (trayA m t) K j).2.1 = 0 then some (0, (if (jst (trayA m t) K j).2.1 = 0 then (j : Int) else (jst (trayA m t) K j).2.2), mm_1) else some (0, -1, mm_1) else if w = 1 then some (0, (jst (trayA m t) K j).2.1, mm_1) else if w = 2 then some (0, mm 27 0, mm_1) else some (0, mm 27 3, mm_1)) (DC 0 (judgV (trayA m t) K (m 310 t).toNat w) K m) := by
          intro hq
          have ej : jst (trayA m t) K (m 310 t).toNat = jst (trayA m t) K j := by
            rcases hq with hq | hq
            · rw [show (m 310 t).toNat = j by omega]
            · have := jst_end hq ((m 310 t).toNat - j)
              rwa [show j + ((m 310 t).toNat - j) = (m 310 t).toNat by omega] at this
          obtain ⟨⟨k0, k1, k2, k3⟩, k4⟩ := curR_iff.mp hR.2
          unfold fX10_takeUpAgain
          have hL : LfR 32 (K 3) (fun i => K (9 + i)) mm := LfR_fr a2 (fun q z1 z2 => hF q (by unfold FD; simp; omega))
          refine ok_bV (ok_bV (c_copyLife (o := 27) (a := 32) hL n4 (.inl (by omega))) (fun m' h => ok_some h)) ?_
          rintro m3 ⟨a3, b3⟩
          have FF : Fr FDK m m3 := by
            refine fr_trans (fr_mono' F2 (by decide)) (fr_trans (fr_FDK3 hF) (fr_mono' (S := [27, 28, 29, 30]) (fun q hq => b3 q (by simp at hq; omega)) (by decide)))
          have hW3 : WRel 19 K m3 := by
            refine WRel_cur sameU_refl hW ⟨IsR_fr hR2.1 (fun o z1 z2 => by rw [b3 o (by omega), hF o (by unfold FD; simp; omega)]), a3⟩ (fun o z => ?_)
            rw [b3 o (by omega), hF o (by unfold FD; simp; omega), b2 o (by omega)]
          have fin2 : ∀ v, v = judgV (trayA m t) K (m 310 t).toNat w → Ok (some ((0 : Int), v, m3)) (DC 0 (judgV (trayA m t) K (m 310 t).toNat w) K m) := fun v hv => ok_some ⟨rfl, fun _ => ⟨hv, hW3, FF⟩, fun q => absurd rfl q⟩
          unfold judgV at *
          rw [ej] at *
          by_cases w0 : w = 0
          · rw [if_pos w0]
            by_cases hz : (jst (trayA m t) K j).2.1 = 0
            · rw [if_neg (by simp [hz])]; exact fin2 _ (by rw [if_pos w0]; exact (i3.mp hz).symm)
            · rw [if_pos hz, if_neg hz]; exact fin2 _ (by rw [if_pos w0])
          · rw [if_neg w0]
            by_cases w1 : w = 1
            · rw [if_pos w1]; exact fin2 _ (by rw [if_neg w0, if_pos w1])
            · rw [if_neg w1]
              by_cases w2 : w = 2
              · rw [if_pos w2, k0]; exact fin2 _ (by rw [if_neg w0, if_neg w1, if_pos w2])
              · rw [if_neg w2, k3]; exact fin2 _ (by rw [if_neg w0, if_neg w1, if_neg w2])
        by_cases hx : m 310 t ≤ j
        · rw [if_pos hx]; exact fin (.inl hx)
        · rw [if_neg hx]
          by_cases hz : (jst (trayA m t) K j).2.1 = 0
          · rw [if_neg (by simp [hz]), c_at (i := (j : Int)) ht.1 ht.2 (by omega) (by omega), bR_some, hF (90 + t.toNat) (by unfold FD; simp; omega), hN j (by omega) (by omega)]
            have rg := (r5 j (by omega) (by omega)).2
            refine ok_bW (c_doTold (d := 0) hR i2 (by omega) (by omega) rg.1 rg.2 (.inl rfl)) ?_
            rintro x m3 ⟨g1, g2⟩
            simp only at g1 g2
            rw [w32_id (x := (j : Int) + 1) (by omega) (by omega)]
            by_cases htl : toldF (jst (trayA m t) K j).1 (trayA m t j) = 0
            · obtain ⟨e1, e2, _⟩ := g2 htl
              obtain ⟨e3, e4⟩ := e2 rfl
              simp only at e1 e3 e4
              rw [if_neg (by omega), if_pos hz, w32_id (x := (j : Int) + 1) (by omega) (by omega), e1]
              refine ih _ m3 ⟨j + 1, by simp, by omega, ?_, ?_, ?_, fr_trans hF e4⟩ (by show (m 310 t - (j + 1)).toNat < (m 310 t - j).toNat; omega)
              · rw [jst_go hz htl]
              · rw [jst_go hz htl]; simp
              · rw [jst_go hz htl]; exact e3
            · obtain ⟨e1, e2⟩ := g1 htl
              rw [e1, if_pos htl, if_pos hz, w32_id (x := (j : Int) + 0) (by omega) (by omega)]
              refine ih _ m3 ⟨j + 1, by simp, by omega, ?_, ?_, ?_, fr_trans hF (fr_mono' e2 (by decide))⟩ (by show (m 310 t - (j + 1)).toNat < (m 310 t - j).toNat; omega)
              · rw [jst_stop hz htl]
              · rw [jst_stop hz htl]
                show (j : Int) + 0 = if toldF _ _ = 0 then _ else (j : Int)
                rw [if_neg htl]; omega
              · rw [jst_stop hz htl]; exact CR_fr2 hR e2
          · rw [if_pos hz]; exact fin (.inr hz)
      · rw [if_neg hw, if_neg hw]
        exact ok_some ⟨rfl, fun q => by omega, fun _ => fr_refl⟩
  · rw [if_neg ht, if_neg ht, bX_some3]
    exact ok_some ⟨rfl, fun q => by omega, fun _ => fr_refl⟩
theorem m_judge {K : Int → Int} {c t w : Int} {m : Mem} (hK : m 288 = K) (hV : KV c K) (hT : TrayM (m 309) (m 310) (m 311)) (c0 : 0 ≤ c) (c1 : c ≤ 900000) :
    Ok (fX12_judge t w m) (DM (if 0 ≤ t ∧ t < 4 then (if m 309 t = -1 then 2 else if 0 ≤ w ∧ w ≤ 3 then 0 else 3) else 1) (judgV (trayA m t) K (m 310 t).toNat w) K m) := by
  have hCV := KV_CV hV
  unfold fX12_judge
  rw [m_trayFault, bR_some]
  simp only [rd_eq, wr_eq, jn_eq, m_within, bR_some]
  have F : ∀ v, Fr [287, 293, 294, 295] m (up m 287 4 v) := fun v => fr_up (by simp) fr_refl
  have N : ∀ v i, i ≠ 4 → up m 287 4 v 287 i = m 287 i := fun v i h => up_idx h
  have N6 : ∀ v, up m 287 4 v 287 6 = m 287 6 ∧ up m 287 4 v 287 14 = m 287 14 ∧ up m 287 4 v 287 15 = m 287 15 := fun v => ⟨N v 6 (by decide), N v 14 (by decide), N v 15 (by decide)⟩
  have hK1 : ∀ v, (up m 287 4 v) 288 = K := fun v => (up_cell (by decide)).trans hK
  unfold tryF
  by_cases ht : 0 ≤ t ∧ t < 4
  · have tr := hT t ht.1 ht.2
    rw [if_pos ht, if_pos ht]
    by_cases hm : m 309 t = -1
    · rw [if_pos hm, if_pos hm, up_same, if_pos (by decide), if_neg (by decide)]
      exact ok_some ⟨up_same m 287 4 2, fun q => by omega, fun _ => F 2, N6 2⟩
    · obtain ⟨r1, r3, r5⟩ := tr hm
      rw [if_neg hm, if_neg hm, up_same, if_neg (by decide)]
      by_cases hw : 0 ≤ w ∧ w ≤ 3
      · rw [if_pos hw, if_pos (by decide), if_pos hw, if_pos (by decide)]
        refine ok_bV m_putsAside ?_
        rintro m2 ⟨a2, b2⟩
        have hK2 : m2 288 = K := (b2 288 (by decide)).trans (hK1 0)
        have e287 : m2 287 = up m 287 4 0 287 := b2 287 (by decide)
        have f2 : ∀ o, o ≠ 287 → o ≠ 295 → m2 o = m o := fun o z1 z2 => (b2 o (by simp [z2])).trans (up_cell z1)
        refine lp_ok (fun (q : Int × Int × Int) (mm : Mem) => ∃ j : Nat, q.2.2 = (j : Int) ∧ (j : Int) ≤ m 310 t ∧ q.2.1 = (jst (trayA m t) K j).2.1 ∧ q.1 = (jst (trayA m t) K j).2.2 ∧ mm 288 = (jst (trayA m t) K j).1 ∧ Fr [288, 293, 294] m2 mm) (fun q _ => (m 310 t - q.2.2).toNat) ⟨0, rfl, by omega, rfl, rfl, hK2, fr_refl⟩ (by show (m 310 t - 0).toNat < _; omega) ?_
        rintro G ⟨d, y, i⟩ mm ⟨j, rfl, hj, hy, hd, hR, hF⟩ ih
        simp only at hy hd
        subst hy
        subst hd
        obtain ⟨i1, i2, i3, i4⟩ := jst_inv (A := trayA m t) hCV j
        have e310 : mm 310 t = m 310 t := by rw [hF 310 (by decide), f2 310 (by decide) (by decide)]
        have e311 : mm 311 = m 311 := by rw [hF 311 (by decide), f2 311 (by decide) (by decide)]
        rw [chk_of (by omega), e310]
        have fin : (m 310 t ≤ j ∨ (jst (trayA m t) K j).2.1 ≠ 0) → Ok (bV (fX12_putsBack mm) fun mm_1 => if ¬ w = 0 then if ¬ w = 1 then if ¬ w = 2 then some (mm 288 21, mm_1) else some (mm 288 24, mm_1) else some ((jst (trayA m t) K j).2.1, mm_1) else some ((jst (trayA m t) K j).2.2, mm_1)) (DM 0 (judgV (trayA m t) K (m 310 t).toNat w) K m) := by
          intro hq
          have ej : jst (trayA m t) K (m 310 t).toNat = jst (trayA m t) K j := by
            rcases hq with hq | hq
            · rw [show (m 310 t).toNat = j by omega]
            · have := jst_end hq ((m 310 t).toNat - j)
              rwa [show j + ((m 310 t).toNat - j) = (m 310 t).toNat by omega] at this
          refine ok_bV (m_putsBack (A := fun i => K (9 + i)) hR (fun i z1 z2 => ?_)) ?_
          · rw [hF 295 (by decide), a2 i z1 z2, hK1]
          rintro m3 ⟨a3, b3⟩
          rw [putK_back i1] at a3
          have e7 : m3 287 = up m 287 4 0 287 := by rw [b3 287 (by decide), hF 287 (by decide), e287]
          have fin2 : ∀ v, v = judgV (trayA m t) K (m 310 t).toNat w → Ok (some (v, m3)) (DM 0 (judgV (trayA m t) K (m 310 t).toNat w) K m) := fun v hv => ok_some ⟨by show m3 287 4 = 0; rw [e7, up_same], fun _ => ⟨hv, a3, fr_trans (fr_mono' (F 0) (by decide)) (fr_trans (fr_mono' b2 (by decide)) (fr_trans (fr_mono' hF (by decide)) (fr_mono' b3 (by decide))))⟩, fun q => absurd rfl q, by show m3 287 6 = _ ∧ m3 287 14 = _ ∧ m3 287 15 = _; rw [e7]; exact N6 0⟩
          unfold judgV at *
          rw [ej] at *
          rw [hR]
          by_cases w0 : w = 0
          · rw [if_neg (by omega)]; exact fin2 _ (by rw [if_pos w0])
          · rw [if_pos w0]
            by_cases w1 : w = 1
            · rw [if_neg (by omega)]; exact fin2 _ (by rw [if_neg w0, if_pos w1])
            · rw [if_pos w1]
              by_cases w2 : w = 2
              · rw [if_neg (by omega)]; exact fin2 _ (by rw [if_neg w0, if_neg w1, if_pos w2])
              · rw [if_pos w2]; exact fin2 _ (by rw [if_neg w0, if_neg w1, if_neg w2])
        by_cases hx : m 310 t ≤ j
        · rw [if_pos hx]; exact fin (.inl hx)
        · rw [if_neg hx]
          by_cases hz : (jst (trayA m t) K j).2.1 = 0
          · have rg := r5 j (by omega) (by omega)
            rw [if_neg (by have := i3.mp hz; omega), w32_id (x := 30 * t) (by omega) (by omega), w32_id (x := 30 * t + j) (by omega) (by omega), chk_of (by omega), e311]
            refine ok_bW (m_whyTold hR i2 (by omega) rg.1 rg.2) ?_
            rintro x m3 ⟨g1, g2⟩
            simp only at g1 g2
            subst g1
            rw [w32_id (x := (j : Int) + 1) (by omega) (by omega)]
            have eA : m 311 (30 * t + j) = trayA m t j := rfl
            rw [eA]
            have hR3 : m3 288 = (jst (trayA m t) K j).1 := (g2 288 (by decide)).trans hR
            by_cases htl : toldF (jst (trayA m t) K j).1 (trayA m t j) = 0
            · rw [if_neg (by simp [htl]), chk_of (by omega), g2 311 (by decide), e311, eA]
              have vr : -1 ≤ trayA m t j ∧ trayA m t j ≤ 2009 := by rcases toldF_inv htl with h | h | ⟨h, _⟩ | ⟨h, _⟩ <;> omega
              rw [w32_id (x := trayA m t j) (by omega) (by omega)]
              refine ok_bV (m_does hR3 i2 (by omega) (by omega) htl) ?_
              rintro m4 ⟨h1, h2⟩
              refine ih _ m4 ⟨j + 1, by simp, by omega, ?_, ?_, ?_, fr_trans hF (fr_trans (fr_mono' g2 (by decide)) h2)⟩ (by show (m 310 t - (j + 1)).toNat < (m 310 t - j).toNat; omega)
              · rw [jst_go hz htl]; exact htl
              · rw [jst_go hz htl]; exact i3.mp hz
              · rw [jst_go hz htl]; exact h1
            · rw [if_pos htl]
              refine ih _ m3 ⟨j + 1, by simp, by omega, ?_, ?_, ?_, fr_trans hF (fr_mono' g2 (by decide))⟩ (by show (m 310 t - (j + 1)).toNat < (m 310 t - j).toNat; omega)
              · rw [jst_stop hz htl]
              · rw [jst_stop hz htl]
              · rw [jst_stop hz htl]; exact hR3
          · rw [if_pos (by have := i4 hz; omega)]; exact fin (.inr hz)
      · rw [if_neg hw, if_neg (by decide), up_same, if_neg (by decide), if_neg hw]
        have e : ∀ i, i ≠ 4 → up (up m 287 4 0) 287 4 3 287 i = m 287 i := fun i h => by rw [up_idx h, up_idx h]
        exact ok_some ⟨up_same (up m 287 4 0) 287 4 3, fun q => by omega, fun _ => fr_up (by simp) (F 0), e 6 (by decide), e 14 (by decide), e 15 (by decide)⟩
  · rw [if_neg ht, if_neg ht, up_same, if_pos (by decide), if_neg (by decide)]
    exact ok_some ⟨up_same m 287 4 1, fun q => by omega, fun _ => F 1, N6 1⟩
theorem d_judge {c t w : Int} {m : Mem} (hI : Inv c m) (c0 : 0 ≤ c) (c1 : c ≤ 900000) : Two1 c (fL_judge t w) (fX12_judge t w) m := by
  have hV := hI.2.2.1
  have hT := hI.2.2.2.2.2.1
  refine two_d (x := fX11_judge t w) (k := if 0 ≤ t ∧ t < 4 then (if m 309 t = -1 then 2 else if 0 ≤ w ∧ w ≤ 3 then 0 else 1) else 3) (k' := if 0 ≤ t ∧ t < 4 then (if m 309 t = -1 then 2 else if 0 ≤ w ∧ w ≤ 3 then 0 else 3) else 1) hI c0 (c_judge hI.2.2.2.1 hV hT c0 c1) (fun _ => rfl) ?_ ?_ (fun m1 e e1 e2 e3 => ?_) (fun _ => KV_mono hV (by omega))
  · by_cases hp : (0 ≤ t ∧ t < 4) <;> by_cases hq : m 309 t = -1 <;> by_cases hw : (0 ≤ w ∧ w ≤ 3) <;> simp [hp, hq, hw]
  · by_cases hp : (0 ≤ t ∧ t < 4) <;> by_cases hq : m 309 t = -1 <;> by_cases hw : (0 ≤ w ∧ w ≤ 3) <;> simp [hp, hq, hw]
  · have := m_judge (t := t) (w := w) (m := m1) e hV (by rw [e1, e2, e3]; exact trayM_of hT) c0 c1
    unfold trayA at *
    rw [e1, e2, e3] at this
    exact this

/-! ===== D17: season ===== -/
def nxS (s : Int) : Int := w32 (w32 (1103515245 * s) + 12345)
def drF (s n : Int) : Int := Int.tmod (iushr s 16) n
theorem iushr_16 (s : Int) : 0 ≤ iushr s 16 := (tb_nonneg (iushr_rg _ _)).mp (by
  have := tb_ushr s (n := 16) (by decide) 31
  rw [show ((16 : Nat) : Int) = 16 from rfl] at this
  rw [this, tb_big (by decide)])
theorem drF_rg (s : Int) {n : Int} (h : 0 < n) : 0 ≤ drF s n ∧ drF s n < n := by
  unfold drF
  rw [tmod_e n (iushr_16 s)]
  exact ⟨Int.emod_nonneg _ (by omega), Int.emod_lt_of_pos _ h⟩
theorem c_draw {n : Int} {m : Mem} (h : 1 ≤ n) : fX10_drawBelow n m = some (drF (nxS (m 19 3)) n, up m 19 3 (nxS (m 19 3))) := by
  unfold fX10_drawBelow
  simp only [rd_eq, wr_eq, jn_eq]
  rw [if_pos h, chk_of (by omega), up_same]
  rfl
theorem m_draw {n : Int} {m : Mem} (h : 1 ≤ n) : fX12_draw n m = some (drF (nxS (m 287 22)) n, up m 287 22 (nxS (m 287 22))) := by
  unfold fX12_draw
  simp only [rd_eq, wr_eq]
  rw [chk_of (by omega), up_same]
  rfl
def seaF (k s : Int) : Option Int × Int :=
  if drF (nxS s) 5 = 0 then (some (-1), nxS s)
  else if k = 0 then (none, nxS s)
  else if drF (nxS s) 5 = 4 then (some (2000 + drF (nxS (nxS s)) 10), nxS (nxS s))
  else if drF (nxS s) 5 = 3 then (some (1000 + 10 * drF (nxS (nxS s)) k + drF (nxS (nxS (nxS s))) 10), nxS (nxS (nxS s)))
  else (some (100 * drF (nxS (nxS s)) k + 10 * drF (nxS (nxS (nxS s))) 5 + drF (nxS (nxS (nxS (nxS s)))) 5), nxS (nxS (nxS (nxS s))))
def seaV (K : Int → Int) (o : Option Int) : Int × (Int → Int) := match o with
  | some v => if toldF K v = 0 then (1, doK K v) else (0, K)
  | none => (0, K)
theorem WRel_19 {K : Int → Int} {m : Mem} {v : Int} (h : WRel 19 K m) : WRel 19 K (up m 19 3 v) := by
  obtain ⟨h1, h2, h3, h4, h5⟩ := h
  have e : ∀ o, o ≠ 19 → up m 19 3 v o = m o := fun o ho => up_cell ho
  refine ⟨IsR_fr h1 (fun o a b => e o (by omega)), LfR_fr h2 (fun o a b => e o (by omega)), ?_, ?_, fun s a b => ?_⟩
  · rw [up_idx (by decide)]; exact h3
  · rw [up_idx (by decide)]; exact h4
  · rw [up_idx (by decide)]
    exact LfR_fr (h5 s a b) (fun q z1 z2 => e q (by unfold pastAt at z1; omega))
/-- what a told deed's answer is in a season -/
theorem c_seaEnd {K : Int → Int} {c v : Int} {m : Mem} (hW : WRel 19 K m) (hV : KV c K) (c0 : 0 ≤ c) (c1 : c ≤ 1000000) (v0 : -9223372036854775808 ≤ v) (v1 : v < 9223372036854775808) :
    Ok (bW (fX10_doTold v 1 m) fun x mm => if ¬ x = 0 then chk ((0 : Int) = 0 ∨ (0 : Int) = 1) (some ((0 : Int), mm)) else chk ((1 : Int) = 0 ∨ (1 : Int) = 1) (some (1, mm)))
      (fun r => r.1 = (seaV K (some v)).1 ∧ WRel 19 (seaV K (some v)).2 r.2 ∧ Fr FDK m r.2 ∧ r.2 19 3 = m 19 3) := by
  refine ok_bW (c_did hW hV c0 c1 v0 v1) ?_
  rintro x m1 ⟨g1, g2, g3, g4, g5⟩
  simp only at g1 g2 g3 g4 g5
  subst g1
  have e : seaV K (some v) = if toldF K v = 0 then (1, doK K v) else (0, K) := rfl
  rw [e]
  by_cases h : toldF K v = 0
  · rw [if_pos h, if_neg (by simp [h]), chk_of (by simp)]
    exact ok_some ⟨rfl, g3 h, g4, g5⟩
  · rw [if_neg h, if_pos h, chk_of (by simp)]
    exact ok_some ⟨rfl, g2 h, g4, g5⟩
theorem c_drawDeed {K : Int → Int} {c : Int} {m : Mem} (hW : WRel 19 K m) (hV : KV c K) (c0 : 0 ≤ c) (c1 : c ≤ 1000000) :
    Ok (fX10_drawDeed m) (fun r => r.1 = (seaV K (seaF (K 3) (m 19 3)).1).1 ∧ WRel 19 (seaV K (seaF (K 3) (m 19 3)).1).2 r.2 ∧ Fr FDK m r.2 ∧ r.2 19 3 = (seaF (K 3) (m 19 3)).2) := by
  have l3 := hV.1.2.1
  unfold fX10_drawDeed
  rw [c_draw (by decide), bW_some]
  simp only [rd_eq, jn_eq]
  generalize hs : m 19 3 = s at *
  have d1 := drF_rg (nxS s) (n := 5) (by decide)
  have F1 : Fr FDK m (up m 19 3 (nxS s)) := fr_up (by decide) fr_refl
  have e20 : ∀ v, up m 19 3 v 20 5 = K 3 := fun v => by rw [up_cell (by decide)]; exact hW.1.1.2.2.2.2.2
  by_cases h0 : drF (nxS s) 5 = 0
  · rw [if_neg (by simp [h0])]
    rw [show seaF (K 3) s = (some (-1), nxS s) from if_pos h0]
    refine ok_imp (c_seaEnd (WRel_19 hW) hV c0 c1 (by decide) (by decide)) ?_
    rintro ⟨x, m1⟩ ⟨a1, a2, a3, a4⟩
    exact ⟨a1, a2, fr_trans F1 a3, by rw [a4, up_same]⟩
  · rw [if_pos h0, e20]
    by_cases hk : K 3 = 0
    · rw [if_neg (by simp [hk])]
      rw [show seaF (K 3) s = (none, nxS s) by unfold seaF; rw [if_neg h0, if_pos hk]]
      exact ok_some ⟨rfl, WRel_19 hW, F1, up_same m 19 3 _⟩
    · rw [if_pos hk]
      by_cases h4 : drF (nxS s) 5 = 4
      · rw [if_neg (by simp [h4]), c_draw (by decide), bW_some, up_same]
        rw [show seaF (K 3) s = (some (2000 + drF (nxS (nxS s)) 10), nxS (nxS s)) by unfold seaF; rw [if_neg h0, if_neg hk, if_pos h4]]
        have d2 := drF_rg (nxS (nxS s)) (n := 10) (by decide)
        rw [w32_id (by omega) (by omega)]
        refine ok_imp (c_seaEnd (WRel_19 (WRel_19 hW)) hV c0 c1 (by omega) (by omega)) ?_
        rintro ⟨x, m1⟩ ⟨a1, a2, a3, a4⟩
        exact ⟨a1, a2, fr_trans (fr_up (by decide) F1) a3, by rw [a4, up_same]⟩
      · rw [if_pos h4, c_draw (by omega), bW_some, up_same]
        have d2 := drF_rg (nxS (nxS s)) (n := K 3) (by omega)
        by_cases h3 : drF (nxS s) 5 = 3
        · rw [if_neg (by simp [h3]), c_draw (by decide), bW_some, up_same]
          rw [show seaF (K 3) s = (some (1000 + 10 * drF (nxS (nxS s)) (K 3) + drF (nxS (nxS (nxS s))) 10), nxS (nxS (nxS s))) by unfold seaF; rw [if_neg h0, if_neg hk, if_neg h4, if_pos h3]]
          have d3 := drF_rg (nxS (nxS (nxS s))) (n := 10) (by decide)
          rw [w32_id (x := 10 * _) (by omega) (by omega), w32_id (x := 1000 + _) (by omega) (by omega), w32_id (by omega) (by omega)]
          refine ok_imp (c_seaEnd (WRel_19 (WRel_19 (WRel_19 hW))) hV c0 c1 (by omega) (by omega)) ?_
          rintro ⟨x, m1⟩ ⟨a1, a2, a3, a4⟩
          exact ⟨a1, a2, fr_trans (fr_up (by decide) (fr_up (by decide) F1)) a3, by rw [a4, up_same]⟩
        · rw [if_pos h3, c_draw (by decide), bW_some, up_same, c_draw (by decide), bW_some, up_same]
          rw [show seaF (K 3) s = (some (100 * drF (nxS (nxS s)) (K 3) + 10 * drF (nxS (nxS (nxS s))) 5 + drF (nxS (nxS (nxS (nxS s)))) 5), nxS (nxS (nxS (nxS s)))) by unfold seaF; rw [if_neg h0, if_neg hk, if_neg h4, if_neg h3]]
          have d3 := drF_rg (nxS (nxS (nxS s))) (n := 5) (by decide)
          have d4 := drF_rg (nxS (nxS (nxS (nxS s)))) (n := 5) (by decide)
          rw [w32_id (x := 100 * _) (by omega) (by omega), w32_id (x := 10 * _) (by omega) (by omega), w32_id (x := 100 * _ + _) (by omega) (by omega), w32_id (by omega) (by omega)]
          refine ok_imp (c_seaEnd (WRel_19 (WRel_19 (WRel_19 (WRel_19 hW)))) hV c0 c1 (by omega) (by omega)) ?_
          rintro ⟨x, m1⟩ ⟨a1, a2, a3, a4⟩
          exact ⟨a1, a2, fr_trans (fr_up (by decide) (fr_up (by decide) (fr_up (by decide) F1))) a3, by rw [a4, up_same]⟩
theorem KV_sea {K : Int → Int} {c : Int} {o : Option Int} (hV : KV c K) : KV (c + 1) (seaV K o).2 ∧ ((seaV K o).1 = 0 ∨ (seaV K o).1 = 1) := by
  cases o with
  | none => exact ⟨KV_mono hV (by omega), .inl rfl⟩
  | some v =>
    show KV (c + 1) (if toldF K v = 0 then ((1 : Int), doK K v) else (0, K)).2 ∧ _
    have e : seaV K (some v) = if toldF K v = 0 then (1, doK K v) else (0, K) := rfl
    rw [e]
    split
    · rename_i h; exact ⟨KV_do hV h, .inr rfl⟩
    · exact ⟨KV_mono hV (by omega), .inl rfl⟩
def snF (K : Int → Int) (s : Int) : Nat → Int × (Int → Int) × Int
  | 0 => (0, K, s)
  | n + 1 => ((snF K s n).1 + (seaV (snF K s n).2.1 (seaF ((snF K s n).2.1 3) (snF K s n).2.2).1).1, (seaV (snF K s n).2.1 (seaF ((snF K s n).2.1 3) (snF K s n).2.2).1).2, (seaF ((snF K s n).2.1 3) (snF K s n).2.2).2)
theorem snF_inv {K : Int → Int} {c s : Int} (hV : KV c K) : ∀ n : Nat, KV (c + n) (snF K s n).2.1 ∧ 0 ≤ (snF K s n).1 ∧ (snF K s n).1 ≤ n
  | 0 => ⟨KV_mono hV (by omega), by show (0 : Int) ≤ 0; omega, by show (0 : Int) ≤ _; omega⟩
  | n + 1 => by
    obtain ⟨a, b, d⟩ := snF_inv (s := s) hV n
    have := KV_sea (o := (seaF ((snF K s n).2.1 3) (snF K s n).2.2).1) a
    refine ⟨KV_mono this.1 (by omega), ?_, ?_⟩
    · show 0 ≤ (snF K s n).1 + _; omega
    · show (snF K s n).1 + _ ≤ _; omega
theorem c_season {K : Int → Int} {c s n : Int} {m : Mem} (hW : WRel 19 K m) (hV : KV c K) (c0 : 0 ≤ c) (c1 : c ≤ 900000) :
    Ok (fX11_season s n m) (DC (if 1 ≤ n ∧ n ≤ 30 then 0 else 1) (snF K s n.toNat).1 (snF K s n.toNat).2.1 m) := by
  unfold fX11_season
  rw [c_needWithin, bX_if (by decide)]
  by_cases hn : 1 ≤ n ∧ n ≤ 30
  · rw [if_pos hn, if_pos hn]
    simp only [rd_eq, wr_eq, jn_eq]
    refine lp_for2 n (fun t i mm => ∃ j : Nat, i = (j : Int) ∧ t = (snF K s j).1 ∧ WRel 19 (snF K s j).2.1 mm ∧ mm 19 3 = (snF K s j).2.2 ∧ Fr FDK m mm) ⟨0, rfl, rfl, WRel_19 hW, up_same _ _ _ _, fr_up (by decide) fr_refl⟩ (by omega) (by omega) ?_ ?_
    · rintro G t i mm hi ⟨j, rfl, rfl, a1, a2, a3⟩ ih
      obtain ⟨b1, b2, b3⟩ := snF_inv (s := s) hV j
      rw [if_neg (by omega)]
      refine ok_bW (c_drawDeed a1 b1 (by omega) (by omega)) ?_
      rintro x m1 ⟨g1, g2, g3, g4⟩
      simp only at g1 g2 g3 g4
      rw [a2] at g1 g2 g4
      have hx := (KV_sea (o := (seaF ((snF K s j).2.1 3) (snF K s j).2.2).1) b1).2
      rw [← g1] at hx
      have go : Ok (G ((snF K s j).1 + x, (j : Int) + 1) m1) (DC 0 (snF K s n.toNat).1 (snF K s n.toNat).2.1 m) := ih _ m1 ⟨j + 1, by simp, by rw [g1]; rfl, g2, g4, fr_trans a3 g3⟩
      rw [w32_id (x := (j : Int) + 1) (by omega) (by omega)]
      rcases hx with hx | hx
      · rw [if_pos hx, w32_id (by omega) (by omega)]
        rwa [hx] at go
      · rw [if_neg (by omega), w32_id (by omega) (by omega)]
        rwa [hx] at go
    · rintro G t mm ⟨j, hj, rfl, a1, a2, a3⟩
      have ej : n.toNat = j := by omega
      rw [if_pos (by omega), ej]
      exact ok_some ⟨rfl, fun _ => ⟨rfl, a1, a3⟩, fun q => absurd rfl q⟩
  · rw [if_neg hn, if_neg hn]
    exact ok_some ⟨rfl, fun q => by omega, fun _ => fr_refl⟩
theorem m_drawn {k w s : Int} {m : Mem} (hk : m 288 3 = k) (hs : m 287 22 = s) (k1 : 1 ≤ k) (k4 : k ≤ 4) (w1 : 1 ≤ w) (w4 : w ≤ 4) :
    Ok (fX12_drawn w m) (fun r => r.1 = (if w = 4 then 2000 + drF (nxS s) 10 else if w = 3 then 1000 + 10 * drF (nxS s) k + drF (nxS (nxS s)) 10 else 100 * drF (nxS s) k + 10 * drF (nxS (nxS s)) 5 + drF (nxS (nxS (nxS s))) 5) ∧
      r.2 287 22 = (if w = 4 then nxS s else if w = 3 then nxS (nxS s) else nxS (nxS (nxS s))) ∧ (∀ i, i ≠ 22 → r.2 287 i = m 287 i) ∧ Fr [287] m r.2) := by
  unfold fX12_drawn
  simp only [rd_eq, jn_eq, hk]
  by_cases h4 : w = 4
  · rw [if_neg (by omega), m_draw (by decide), bW_some, if_pos h4, if_pos h4, hs]
    have d := drF_rg (nxS s) (n := 10) (by decide)
    rw [w32_id (by omega) (by omega)]
    exact ok_some ⟨rfl, up_same m 287 22 _, fun i hi => up_idx hi, fr_up (by simp) fr_refl⟩
  · rw [if_pos h4, m_draw k1, bW_some, if_neg h4, if_neg h4, hs]
    have d := drF_rg (nxS s) (n := k) (by omega)
    by_cases h3 : w = 3
    · have d2 := drF_rg (nxS (nxS s)) (n := 10) (by decide)
      rw [if_neg (by omega), m_draw (by decide), bW_some, if_pos h3, if_pos h3, if_neg (by omega), up_same]
      rw [w32_id (x := 10 * _) (by omega) (by omega), w32_id (x := 1000 + _) (by omega) (by omega), w32_id (by omega) (by omega)]
      exact ok_some ⟨rfl, up_same (up m 287 22 (nxS s)) 287 22 _, fun i hi => (up_idx hi).trans (up_idx hi), fr_up (by simp) (fr_up (by simp) fr_refl)⟩
    · have d2 := drF_rg (nxS (nxS s)) (n := 5) (by decide)
      have d3 := drF_rg (nxS (nxS (nxS s))) (n := 5) (by decide)
      rw [if_pos h3, m_draw (by decide), bW_some, if_neg h3, if_neg h3, if_pos h3, m_draw (by decide), bW_some, up_same, up_same]
      rw [w32_id (x := 100 * _) (by omega) (by omega), w32_id (x := 10 * _) (by omega) (by omega), w32_id (x := 100 * _ + _) (by omega) (by omega), w32_id (by omega) (by omega)]
      exact ok_some ⟨rfl, up_same (up (up m 287 22 (nxS s)) 287 22 (nxS (nxS s))) 287 22 _, fun i hi => (up_idx hi).trans ((up_idx hi).trans (up_idx hi)), fr_up (by simp) (fr_up (by simp) (fr_up (by simp) fr_refl))⟩
theorem m_season {K : Int → Int} {c s n : Int} {m : Mem} (hK : m 288 = K) (hV : KV c K) (c0 : 0 ≤ c) (c1 : c ≤ 900000) :
    Ok (fX12_season s n m) (DM (if 1 ≤ n ∧ n ≤ 30 then 0 else 1) (snF K s n.toNat).1 (snF K s n.toNat).2.1 m) := by
  unfold fX12_season fX12_fails
  simp only [rd_eq, wr_eq, jn_eq, m_within, bR_some, bW_some]
  by_cases hn : 1 ≤ n ∧ n ≤ 30
  · rw [if_pos hn, if_pos (by decide), if_pos hn]
    have hb : ∀ i, i ≠ 4 → i ≠ 22 → up (up m 287 4 0) 287 22 s 287 i = m 287 i := fun i h4 h22 => by rw [up_idx h22, up_idx h4]
    have hb4 : up (up m 287 4 0) 287 22 s 287 4 = 0 := by rw [up_idx (by decide), up_same]
    have hb22 : up (up m 287 4 0) 287 22 s 287 22 = s := up_same _ _ _ _
    have hbF : Fr [287] m (up (up m 287 4 0) 287 22 s) := fr_up (by simp) (fr_up (by simp) fr_refl)
    have hbK : up (up m 287 4 0) 287 22 s 288 = K := (hbF 288 (by decide)).trans hK
    generalize up (up m 287 4 0) 287 22 s = m0 at *
    refine lp_for2 n (fun t i mm => ∃ j : Nat, i = (j : Int) ∧ t = (snF K s j).1 ∧ mm 288 = (snF K s j).2.1 ∧ mm 287 22 = (snF K s j).2.2 ∧ (∀ i, i ≠ 22 → mm 287 i = m0 287 i) ∧ Fr [287, 288, 293, 294] m0 mm) ⟨0, rfl, rfl, hbK, hb22, fun _ _ => rfl, fr_refl⟩ (by omega) (by omega) ?_ ?_
    · rintro G t i mm hi ⟨j, rfl, rfl, a1, a2, a3, a4⟩ ih
      obtain ⟨b1, b2, b3⟩ := snF_inv (s := s) hV j
      have l3 := b1.1.2.1
      rw [if_neg (by omega), m_draw (by decide), bW_some, a2, up_cell (show 288 ≠ 287 by decide), a1, w32_id (x := (j : Int) + 1) (by omega) (by omega), w32_id (x := (snF K s j).1 + 1) (by omega) (by omega)]
      generalize hKj : (snF K s j).2.1 = Kj at *
      generalize hsj : (snF K s j).2.2 = sj at *
      generalize hdj : (snF K s j).1 = dj at *
      have d1 := drF_rg (nxS sj) (n := 5) (by decide)
      have e1 : (snF K s (j + 1)).1 = dj + (seaV Kj (seaF (Kj 3) sj).1).1 := by rw [← hKj, ← hsj, ← hdj]; rfl
      have e2 : (snF K s (j + 1)).2.1 = (seaV Kj (seaF (Kj 3) sj).1).2 := by rw [← hKj, ← hsj]; rfl
      have e3 : (snF K s (j + 1)).2.2 = (seaF (Kj 3) sj).2 := by rw [← hKj, ← hsj]; rfl
      have F1 : Fr [287, 288, 293, 294] m0 (up mm 287 22 (nxS sj)) := fr_up (by simp) a4
      have n1 : ∀ i, i ≠ 22 → up mm 287 22 (nxS sj) 287 i = m0 287 i := fun i hi => by rw [up_idx hi, a3 i hi]
      -- the end of a deed that is told by v, with seed s'
      have fin : ∀ (v s' : Int) (m1 : Mem), (seaF (Kj 3) sj) = (some v, s') → -9223372036854775808 ≤ v → v < 9223372036854775808 → m1 288 = Kj → m1 287 22 = s' → (∀ i, i ≠ 22 → m1 287 i = m0 287 i) → Fr [287, 288, 293, 294] m0 m1 →
          Ok (bW (fX12_whyTold v m1) fun x11 mm => if x11 = 0 then bV (fX12_keeps mm) fun mm => bV (fX12_does v mm) fun mm => G (dj + 1, (j : Int) + 1) mm else G (dj, (j : Int) + 1) mm) (DM 0 (snF K s n.toNat).1 (snF K s n.toNat).2.1 m) := by
        intro v s' m1 hv v0 v1 k1 k2 k3 k4
        have es : seaV Kj (some v) = if toldF Kj v = 0 then (1, doK Kj v) else (0, Kj) := rfl
        rw [hv] at e1 e2 e3
        simp only [es] at e1 e2 e3
        refine ok_bW (m_whyTold k1 (KV_CV b1) (by omega) v0 v1) ?_
        rintro x m2 ⟨g1, g2⟩
        simp only at g1 g2
        subst g1
        have k1' : m2 288 = Kj := (g2 288 (by decide)).trans k1
        by_cases h : toldF Kj v = 0
        · rw [if_pos h] at e1 e2
          rw [if_pos h]
          refine ok_bV (m_keeps k1' b1.2.2.1) ?_
          rintro m3 ⟨j1, j2⟩
          refine ok_bV (m_does j1 (CV_sameC sameC_keep (KV_CV b1)) (by omega) (by omega) ((toldF_sameC sameC_keep l3.2).trans h)) ?_
          rintro m4 ⟨q1, q2⟩
          have e287 : m4 287 = m1 287 := by rw [q2 287 (by decide), j2 287 (by decide), g2 287 (by decide)]
          exact ih _ m4 ⟨j + 1, by simp, e1.symm, q1.trans e2.symm, by rw [e287, k2, e3], fun i hi => by rw [e287, k3 i hi], fr_trans k4 (fr_trans (fr_mono' g2 (by decide)) (fr_trans (fr_mono' j2 (by decide)) (fr_mono' q2 (by decide))))⟩
        · rw [if_neg h] at e1 e2
          rw [if_neg h]
          have e287 : m2 287 = m1 287 := g2 287 (by decide)
          exact ih _ m2 ⟨j + 1, by simp, by rw [e1]; simp, k1'.trans e2.symm, by rw [e287, k2, e3], fun i hi => by rw [e287, k3 i hi], fr_trans k4 (fr_mono' g2 (by decide))⟩
      by_cases h0 : drF (nxS sj) 5 = 0
      · rw [if_pos (by omega), if_neg (by omega)]
        exact fin (-1) (nxS sj) _ (if_pos h0) (by decide) (by decide) (by rw [up_cell (by decide)]; exact a1) (up_same _ _ _ _) n1 F1
      · rw [if_neg (by omega)]
        by_cases hk : Kj 3 = 0
        · rw [if_neg (by omega)]
          have hv : seaF (Kj 3) sj = (none, nxS sj) := by unfold seaF; rw [if_neg h0, if_pos hk]
          rw [hv] at e1 e2 e3
          exact ih _ _ ⟨j + 1, by simp, by rw [e1]; show dj = dj + 0; omega, by rw [up_cell (by decide), e2]; exact a1, by rw [up_same, e3], n1, F1⟩
        · rw [if_pos hk, if_pos h0]
          refine ok_bW (m_drawn (k := Kj 3) (s := nxS sj) (by rw [up_cell (by decide), a1]) (up_same _ _ _ _) (by omega) (by omega) (by omega) (by omega)) ?_
          rintro x m1 ⟨g1, g2, g3, g4⟩
          simp only at g1 g2 g3 g4
          have k1 : m1 288 = Kj := by rw [g4 288 (by decide), up_cell (by decide), a1]
          have hv : seaF (Kj 3) sj = (some x, m1 287 22) := by
            unfold seaF
            rw [if_neg h0, if_neg hk, g1, g2]
            by_cases h4 : drF (nxS sj) 5 = 4
            · rw [if_pos h4, if_pos h4, if_pos h4]
            · rw [if_neg h4, if_neg h4, if_neg h4]
              by_cases h3 : drF (nxS sj) 5 = 3
              · rw [if_pos h3, if_pos h3, if_pos h3]
              · rw [if_neg h3, if_neg h3, if_neg h3]
          have xr : -9223372036854775808 ≤ x ∧ x < 9223372036854775808 := by
            have q1 := drF_rg (nxS (nxS sj)) (n := 10) (by decide)
            have q2 := drF_rg (nxS (nxS sj)) (n := Kj 3) (by omega)
            have q3 := drF_rg (nxS (nxS (nxS sj))) (n := 10) (by decide)
            have q4 := drF_rg (nxS (nxS (nxS sj))) (n := 5) (by decide)
            have q5 := drF_rg (nxS (nxS (nxS (nxS sj)))) (n := 5) (by decide)
            rw [g1]; split
            · omega
            · split <;> omega
          exact fin x _ m1 hv xr.1 xr.2 k1 rfl (fun i hi => by rw [g3 i hi, n1 i hi]) (fr_trans F1 (fr_mono' g4 (by decide)))
    · rintro G t mm ⟨j, hj, rfl, a1, a2, a3, a4⟩
      have ej : n.toNat = j := by omega
      rw [if_pos (by omega), ej]
      refine ok_some ⟨by show mm 287 4 = 0; rw [a3 4 (by decide), hb4], fun _ => ⟨rfl, a1, fr_trans (fr_mono' hbF (by decide)) (fr_mono' a4 (by decide))⟩, fun q => absurd rfl q, ?_⟩
      show mm 287 6 = _ ∧ mm 287 14 = _ ∧ mm 287 15 = _
      rw [a3 6 (by decide), a3 14 (by decide), a3 15 (by decide)]
      exact ⟨hb 6 (by decide) (by decide), hb 14 (by decide) (by decide), hb 15 (by decide) (by decide)⟩
  · rw [if_neg hn, if_neg (by decide), if_neg hn]
    have e : ∀ i, i ≠ 4 → up (up m 287 4 0) 287 4 1 287 i = m 287 i := fun i h => by rw [up_idx h, up_idx h]
    exact ok_some ⟨up_same (up m 287 4 0) 287 4 1, fun q => by omega, fun _ => fr_up (by simp) (fr_up (by simp) fr_refl), e 6 (by decide), e 14 (by decide), e 15 (by decide)⟩
theorem d_season {c s n : Int} {m : Mem} (hI : Inv c m) (c0 : 0 ≤ c) (c1 : c ≤ 900000) : Two1 c (fL_season s n) (fX12_season s n) m := by
  have hV := hI.2.2.1
  refine two_d (x := fX11_season s n) (k := if 1 ≤ n ∧ n ≤ 30 then 0 else 1) (k' := if 1 ≤ n ∧ n ≤ 30 then 0 else 1) hI c0 (c_season hI.2.2.2.1 hV c0 c1) (fun _ => rfl) (fun q => q) ?_ (fun m1 e _ _ _ => m_season e hV c0 c1) ?_
  · by_cases hp : (1 ≤ n ∧ n ≤ 30) <;> simp [hp]
  · intro q
    by_cases hp : (1 ≤ n ∧ n ≤ 30)
    · exact KV_mono (snF_inv hV _).1 (by omega)
    · rw [if_neg hp] at q; omega

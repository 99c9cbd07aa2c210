/-! ===== D87: a place read ===== -/
theorem c_numberF {S : Stm} {f pl lo hi : Int} {i : Nat} {m : Mem} (hS : StmV S) (hf : f ≠ 0) (h : CC S f pl i m) : fX6_number lo hi m = some (0, m) := by
  unfold fX6_number
  rw [c_token hS h, bR_some, if_neg hf, if_neg (by decide), c_refuseF hf h, bV_some]
theorem m_numF {S : Stm} {f pl lo hi : Int} {i : Nat} {mm : Mem} (hf : f ≠ 0) (h : MC S f pl i mm) : fX12_number lo hi mm = some (lo, mm) := by
  unfold fX12_number
  simp only [rd_eq]
  simp only [jn_eq]
  rw [m_blamesF hf h, m_blamesF hf h, m_within, bR_some, h.2.1.1, if_pos hf, if_pos hf]
  simp only [bV_some]
  repeat' split
  all_goals first | rfl | exact absurd (fun z => hf (h.2.1.1.symm.trans z)) ‹¬¬mm 287 12 = 0›
theorem mul_lt {W H x y : Int} (w2 : 2 ≤ W) (w5 : W ≤ 5) (h2 : 2 ≤ H) (h5 : H ≤ 5) (x0 : 0 ≤ x) (x1 : x ≤ W - 1) (y0 : 0 ≤ y) (y1 : y ≤ H - 1) : 0 ≤ W * y ∧ W * y ≤ 20 ∧ 0 ≤ W * y + x ∧ W * y + x < W * H ∧ W * H ≤ 25 := by
  rcases four_of w2 w5 with rfl | rfl | rfl | rfl <;> omega
theorem c_takePlace {S : Stm} {W H taboo f pl : Int} {i : Nat} {m : Mem} (hS : StmV S) (hw : f = 0 → (m 7 1 = W ∧ m 7 2 = H) ∧ (2 ≤ W ∧ W ≤ 5) ∧ (2 ≤ H ∧ H ≤ 5)) (h : CC S f pl i m) :
    Ok (fX6_takePlace taboo m) (fun r => ∃ f' pl' i', CC S f' pl' i' r.2 ∧ F2 m r.2 ∧ (f' = 0 → f = 0 ∧ i' = i + 2 ∧ (0 ≤ r.1 ∧ r.1 < W * H) ∧ tb taboo r.1.toNat = false) ∧ ∀ mm tb', MC S f pl i mm → (f = 0 → mm 289 1 = W ∧ mm 289 2 = H ∧ tb' = taboo) → Ok (fX12_placeBut tb' mm) (fun s => MC S f' pl' i' s.2 ∧ G2 mm s.2 ∧ (f' = 0 → s.1 = r.1))) := by
  unfold fX6_takePlace
  simp only [rd_eq]
  simp only [wr_eq]
  simp only [jn_eq]
  by_cases hf : f = 0
  · subst hf
    obtain ⟨⟨e1, e2⟩, ⟨w2, w5⟩, h2, h5⟩ := hw rfl
    have c9 := st_cnt hS
    have ei := (h.2.2 rfl).2.1
    rw [e1, w32_id (x := W - 1) (by omega) (by omega)]
    refine ok_bW (c_number hS h) ?_
    rintro x m1 ⟨f1, pl1, i1, a1, a2, a3, a4⟩
    simp only at a1 a2 a3 a4
    have k71 : m1 7 = m 7 := a2.1 7 (by decide)
    rw [k71, e2, w32_id (x := H - 1) (by omega) (by omega)]
    refine ok_bW (c_number hS a1) ?_
    rintro y m2 ⟨f2, pl2, i2, b1, b2, b3, b4⟩
    simp only at b1 b2 b3 b4
    have F12 := f2_trans a2 b2
    have k72 : m2 7 = m 7 := F12.1 7 (by decide)
    rw [k72, e1, b1.2.1.1]
    -- the model's first number and what it sees then
    by_cases hf2 : f2 = 0
    · subst hf2
      obtain ⟨hf1, q1, q2, q3, q4, q5⟩ := b3 rfl
      subst hf1
      obtain ⟨_, p1, p2, p3, p4, p5⟩ := a3 rfl
      subst p2; subst q2
      have ml := mul_lt w2 w5 h2 h5 p4 p5 q4 q5
      have e52 := (b1.2.2 rfl).1
      have ei2 := (b1.2.2 rfl).2.1
      rw [if_neg (show ¬ ¬ (0 : Int) = 0 from fun z => z rfl), w32_id (x := W * y) (by omega) (by omega), w32_id (x := W * y + x) (by omega) (by omega), bit_ui _ ml.2.2.1 (by omega), e52, w32_id (x := ((i + 1 + 1 : Nat) : Int) - 1) (by omega) (by omega)]
      -- the model up to the place
      have front : ∀ mm tb' (Q : Int × Mem → Prop), MC S 0 pl i mm → mm 289 1 = W → mm 289 2 = H → tb' = taboo → (∀ mm1, MC S 0 pl1 (i + 1) mm1 → G2 mm mm1 → Ok (if tb taboo (W * y + x).toNat then bV (fX12_blames 3 mm1) fun mm => bW (fX12_number 0 (H - 1) mm) fun x7 mm => some (w32 (w32 (mm 289 1 * x7) + x), mm) else bW (fX12_number 0 (H - 1) mm1) fun x7 mm => some (w32 (w32 (mm 289 1 * x7) + x), mm)) Q) → Ok (fX12_placeBut tb' mm) Q := by
        intro mm tb' Q hM g1 g2 g3 hQ
        unfold fX12_placeBut
        simp only [rd_eq]
        simp only [jn_eq]
        rw [g1, w32_id (x := W - 1) (by omega) (by omega)]
        refine ok_bW (a4 mm hM) ?_
        rintro x' mm1 ⟨d1, d2, d3⟩
        simp only at d1 d2 d3
        have := d3 trivial
        subst this
        obtain ⟨t1, t2, t3, t4⟩ := d1.2.2 rfl
        have n289 : mm1 289 = mm 289 := d2.1 289 (by decide)
        have mt : mm1 287 10 = 2 := by rw [t3]; exact ((mtok_num hS (by omega)).1).mpr q1
        rw [d1.2.1.1, if_neg (show ¬ ¬ (0 : Int) = 0 from fun z => z rfl), mt, if_neg (show ¬ ¬ (2 : Int) = 2 from fun z => z rfl), n289, g2, t4 q1, ← q3, if_neg (show ¬ H ≤ y by omega), g1, w32_id (x := W * y) (by omega) (by omega), w32_id (x := W * y + x') (by omega) (by omega), m_has ml.2.2.1 (by omega), bR_some, w32_id (x := H - 1) (by omega) (by omega), g3]
        have := hQ mm1 d1 d2
        cases ht : tb taboo (W * y + x').toNat
        · rw [ht, if_neg (by simp)] at this
          rw [if_pos (by simp)]
          refine ok_imp (P := Q) ?_ (fun _ hh => hh)
          obtain ⟨r, er, hr⟩ := this
          refine ⟨r, ?_, hr⟩
          rw [← er]
        · rw [ht, if_pos rfl] at this
          rw [if_neg (by simp)]
          obtain ⟨r, er, hr⟩ := this
          refine ⟨r, ?_, hr⟩
          rw [← er]
          have bl : ∀ mm2, fX12_blames 3 mm1 = some mm2 → mm2 289 = mm1 289 := fun mm2 e => by
            unfold fX12_blames at e
            simp only [rd_eq] at e
            simp only [wr_eq] at e
            simp only [jn_eq] at e
            repeat' split at e
            all_goals (cases e; first | rfl | (rw [up_cell (by decide), up_cell (by decide)]))
          cases hb : fX12_blames 3 mm1 with
          | none => rfl
          | some mm2 => rw [bV_some, bV_some, bl mm2 hb, n289, g2, w32_id (x := H - 1) (by omega) (by omega)]
      cases ht : tb taboo (W * y + x).toNat
      · rw [if_pos (by simp)]
        refine ok_some ⟨0, pl2, i + 1 + 1, b1, F12, fun _ => ⟨rfl, by omega, ⟨ml.2.2.1, ml.2.2.2.1⟩, ht⟩, fun mm tb' hM hg => ?_⟩
        obtain ⟨g1, g2, g3⟩ := hg rfl
        refine front mm tb' _ hM g1 g2 g3 (fun mm1 c1 c2 => ?_)
        rw [ht, if_neg (by simp)]
        refine ok_bW (b4 mm1 c1) ?_
        rintro y' mm2 ⟨d1, d2, d3⟩
        simp only at d1 d2 d3
        have := d3 trivial
        subst this
        have G := g2_trans c2 d2
        rw [G.1 289 (by decide), g1, w32_id (x := W * y') (by omega) (by omega), w32_id (by omega) (by omega)]
        exact ok_some ⟨d1, G, fun _ => rfl⟩
      · rw [if_neg (by simp)]
        have hF : F2 m2 (up m2 2 5 (((i + 1 + 1 : Nat) : Int) - 1)) := f2_up (by decide)
        have hC : CC S 0 pl2 (i + 1) (up m2 2 5 (((i + 1 + 1 : Nat) : Int) - 1)) := ⟨tokC_f2 b1.1 hF, ⟨by rw [up_idx (by decide)]; exact b1.2.1.1, by rw [up_idx (by decide)]; exact b1.2.1.2⟩, fun _ => ⟨by rw [up_same]; omega, by omega, (b1.2.2 rfl).2.2⟩⟩
        have epl : pl1 = pl2 := by rw [(a1.2.2 rfl).2.2, (b1.2.2 rfl).2.2]
        refine ok_bV (c_refuse hS (by decide) hC) ?_
        rintro m3 ⟨f3, pl3, k1, k2, k3, k4⟩
        refine ok_some ⟨f3, pl3, i + 1, k2, f2_trans F12 (f2_trans hF k3), fun z => absurd z k1, fun mm tb' hM hg => ?_⟩
        obtain ⟨g1, g2, g3⟩ := hg rfl
        refine front mm tb' _ hM g1 g2 g3 (fun mm1 c1 c2 => ?_)
        rw [ht, if_pos rfl]
        rw [epl] at c1
        refine ok_bV (k4 mm1 c1) ?_
        rintro mm2 ⟨d1, d2⟩
        rw [m_numF k1 d1, bW_some]
        exact ok_some ⟨d1, g2_trans c2 d2, fun z => absurd z k1⟩
    · rw [if_pos hf2]
      refine ok_some ⟨f2, pl2, i2, b1, F12, fun z => absurd z hf2, fun mm tb' hM hg => ?_⟩
      obtain ⟨g1, g2, g3⟩ := hg rfl
      unfold fX12_placeBut
      simp only [rd_eq]
      simp only [jn_eq]
      rw [g1, w32_id (x := W - 1) (by omega) (by omega)]
      refine ok_bW (a4 mm hM) ?_
      rintro x' mm1 ⟨d1, d2, d3⟩
      simp only at d1 d2 d3
      have n289 : mm1 289 = mm 289 := d2.1 289 (by decide)
      have tail : Ok (bW (fX12_number 0 (w32 (mm1 289 2 - 1)) mm1) fun x7 mm => some (w32 (w32 (mm 289 1 * x7) + x'), mm)) (fun s => MC S f2 pl2 i2 s.2 ∧ G2 mm s.2 ∧ (f2 = 0 → s.1 = w32 (w32 (W * y) + x))) := by
        rw [n289, g2, w32_id (x := H - 1) (by omega) (by omega)]
        refine ok_bW (b4 mm1 d1) ?_
        rintro y' mm2 ⟨j1, j2, _⟩
        simp only at j1 j2
        exact ok_some ⟨j1, g2_trans d2 j2, fun z => absurd z hf2⟩
      by_cases hf1 : f1 = 0
      · subst hf1
        obtain ⟨_, p1, p2, p3, p4, p5⟩ := a3 rfl
        have ei1 := (a1.2.2 rfl).2.1
        obtain ⟨t1, t2, t3, t4⟩ := d1.2.2 rfl
        rw [d1.2.1.1, if_neg (show ¬ ¬ (0 : Int) = 0 from fun z => z rfl)]
        by_cases q2 : mm1 287 10 = 2
        · have q1 : S.kd i1 = 1 := ((mtok_num hS ei1).1).mp (by rw [← t3]; exact q2)
          rw [if_neg (fun z => z q2)]
          by_cases q3 : mm1 289 2 ≤ mm1 287 11
          · rw [if_pos q3]; exact tail
          · -- then the class would have read it
            exfalso
            have hc : i1 < S.cnt := by
              by_cases z : i1 = S.cnt
              · have := (st_end hS ei1).1.mpr z; omega
              · omega
            have vr := (tok_kd ((st_end hS ei1).2 hc)).2 q1
            rw [n289, g2, t4 q1] at q3
            have ok := m_numOk (lo := 0) (hi := H - 1) hS hc d1 q1 (by omega)
            obtain ⟨r, er, hr, _, _⟩ := ok
            obtain ⟨r', er', hr', _, _⟩ := b4 mm1 d1
            rw [er] at er'
            cases er'
            have z1 := hr.2.1.1
            have z2 := hr'.2.1.1
            exact hf2 (z2.symm.trans z1)
        · rw [if_pos q2]; exact tail
      · rw [d1.2.1.1, if_pos hf1]; exact tail
  · rw [c_numberF hS hf h, bW_some, c_numberF hS hf h, bW_some, h.2.1.1, if_pos hf]
    refine ok_some ⟨f, pl, i, h, f2_refl, fun z => absurd z hf, fun mm tb' hM _ => ?_⟩
    unfold fX12_placeBut
    simp only [rd_eq]
    simp only [jn_eq]
    rw [m_numF hf hM, bW_some, hM.2.1.1, if_pos hf, m_numF hf hM, bW_some]
    exact ok_some ⟨hM, g2_refl, fun z => absurd z hf⟩

/-! ===== D94: a line ===== -/
theorem N_stop {S : Stm} {f pl : Int} {i : Nat} {K : Int → Int} {mc : Mem} (hS : StmV S) (h : LsC S f pl i K mc) :
    Ok (bV (fX6_take 59 mc) fun mm => some (up mm 7 0 (w32 (mm 7 0 + 1)))) (fun mc' => ∃ f' pl' i' K', LsC S f' pl' i' K' mc' ∧ FC mc mc' ∧ (f' = 0 → f = 0 ∧ i' = i + 1) ∧ ∀ mm, LsM S f pl i K mm → Ok (fX12_readStop mm) (fun mm' => LsM S f' pl' i' K' mm' ∧ FM mm mm')) := by
  obtain ⟨hC, hD⟩ := h
  refine ok_bV (c_take hS (by unfold SgnB; decide) hC) ?_
  rintro m1 ⟨f1, pl1, i1, a1, a2, a3, a4⟩
  have c9 := st_cnt hS
  have eK : ∀ y, y ≠ 0 → ku K 0 (K 0 + 1) y = K y := fun y hy => ku_ne hy
  refine ok_some ⟨f1, pl1, i1, ku K 0 (K 0 + 1), ⟨cC_up a1 (by decide), fun z => ?_⟩, fr_up (by simp) (fc_f2 a2), fun z => ⟨(a3 z).1, (a3 z).2.2⟩, fun mm hM => ?_⟩
  · obtain ⟨z0, _, ei⟩ := a3 z
    obtain ⟨hR, hV, h0⟩ := hD z0
    have ic := (hC.2.2 z0).2.1
    have hR1 := dr_f2 hR a2
    have hV0 := hV
    obtain ⟨v1, v2, v3, v4, v5, v6, v7⟩ := hV
    have inI : ∀ x, InI x → ku K 0 (K 0 + 1) x = K x := fun x hx => eK x (by unfold InI at hx; omega)
    have e70 : m1 7 0 = K 0 := hR1.1.1.1
    rw [e70, w32_id (x := K 0 + 1) (by omega) (by omega)]
    refine ⟨⟨IsR_c hR1.1 v2.2.1.2 v2.2.2.1.2 inI (by rw [up_same, ku_at]) (fun j hj => up_idx hj) (fun o a b => up_cell (by omega)), ?_, ?_, ?_, fun p p0 p1 => ?_⟩, ⟨v1, IsV_c v2 inI, ?_, v4, v5, v6, ?_⟩, ?_⟩
    · exact LfR_fr (LfR_cong v2.2.1.2 (S := fun i => K (9 + i)) (fun j a b => eK (9 + j) (by omega)) hR1.2.1) (fun q a b => up_cell (by omega))
    · rw [up_cell (by decide)]
      refine bits_imp hR1.2.2.1 (fun i _ => ⟨?_, ?_⟩)
      · rintro ⟨h, ⟨a, b⟩, c⟩; exact ⟨h, ⟨a, b⟩, by rw [eK (29 + h) (by omega)]; exact c⟩
      · rintro ⟨h, ⟨a, b⟩, c⟩; exact ⟨h, ⟨a, b⟩, by rw [eK (29 + h) (by omega)] at c; exact c⟩
    · rw [up_cell (by decide)]
      refine bits_imp hR1.2.2.2.1 (fun i _ => ⟨?_, ?_⟩)
      · rintro ⟨h, ⟨a, b⟩, c⟩; exact ⟨h, ⟨a, b⟩, by rw [eK (13 + h) (by omega), eK (17 + h) (by omega)]; exact c⟩
      · rintro ⟨h, ⟨a, b⟩, c⟩; exact ⟨h, ⟨a, b⟩, by rw [eK (13 + h) (by omega), eK (17 + h) (by omega)] at c; exact c⟩
    · rw [up_cell (by decide)]; exact hR1.2.2.2.2 p p0 p1
    · exact StV_cong (K := K) v2.2.1.2 (fun j a b => eK (9 + j) (by omega)) v3
    · rw [ku_at]; omega
    · rw [ku_at]; omega
  · obtain ⟨hM1, hM2⟩ := hM
    unfold fX12_readStop
    simp only [rd_eq]
    simp only [wr_eq]
    simp only [jn_eq]
    refine ok_bV (a4 mm hM1) ?_
    rintro mm1 ⟨d1, d2⟩
    rw [d1.2.1.1]
    by_cases z : f1 = 0
    · rw [if_neg (fun w => w z)]
      obtain ⟨z0, _, ei⟩ := a3 z
      obtain ⟨hR, hV, h0⟩ := hD z0
      obtain ⟨m16, mK⟩ := hM2 z0
      have ic := (hC.2.2 z0).2.1
      have v7 := hV.2.2.2.2.2.2
      have e0 : mm1 289 = K := (d2.1 289 (by decide)).trans mK
      rw [e0, w32_id (x := K 0 + 1) (by omega) (by omega)]
      refine ok_some ⟨⟨mC_up d1, fun _ => ⟨?_, by rw [up_row, e0]⟩⟩, fm_trans (fm_g2 d2) fm_up⟩
      rw [up_cell (by decide)]; exact (d2.2 16 (by omega)).trans m16
    · rw [if_pos z]
      exact ok_some ⟨⟨d1, fun w => absurd w z⟩, fm_g2 d2⟩
def LineQ (S : Stm) (pl : Int) (i : Nat) (K : Int → Int) (mc : Mem) (y : Mem → Option Mem) (mc' : Mem) : Prop :=
  ∃ f' pl' i' K', LsC S f' pl' i' K' mc' ∧ FC mc mc' ∧ (f' = 0 → i < i') ∧ ∀ mm, LsM S 0 pl i K mm → Ok (y mm) (fun mm' => LsM S f' pl' i' K' mm' ∧ FM mm mm')
theorem N_end {S : Stm} {pl : Int} {i : Nat} {K : Int → Int} {mc : Mem} {x : Option Mem} {y : Mem → Option Mem} (hS : StmV S) (h : LkN S pl i K x mc y) :
    Ok (bV x fun mm => bV (fX6_take 59 mm) fun mm => some (up mm 7 0 (w32 (mm 7 0 + 1)))) (LineQ S pl i K mc (fun mm => bV (y mm) fun mm => bV (fX12_readStop mm) fun mm => some mm)) := by
  refine ok_bV h ?_
  rintro m1 ⟨f1, pl1, i1, K1, a1, a2, a3, a4⟩
  refine ok_imp (N_stop hS a1) ?_
  rintro m2 ⟨f2, pl2, i2, K2, b1, b2, b3, b4⟩
  refine ⟨f2, pl2, i2, K2, b1, fc_trans a2 b2, fun z => by have p := b3 z; have q := a3 p.1; omega, fun mm hM => ?_⟩
  refine ok_bV (a4 mm hM) ?_
  rintro mm1 ⟨c1, c2⟩
  refine ok_bV (b4 mm1 c1) ?_
  rintro mm2 ⟨d1, d2⟩
  exact ok_some ⟨d1, fm_trans c2 d2⟩
/-- with the line's word taken by the model before -/
theorem line_took {S : Stm} {pl : Int} {i : Nat} {K : Int → Int} {mc mc' : Mem} {y z : Mem → Option Mem} {j : Nat} (hS : StmV S) (hi : i ≤ S.cnt) (hj : j < 18) (hk : S.kd i = 128 + (j : Int)) (h : LineQ S pl (i + 1) K mc y mc')
    (hz : ∀ mm, LsM S 0 pl i K mm → z mm = bW (fX12_took (wid j) mm) fun x mm => if x = 0 then none else y mm) : LineQ S pl i K mc z mc' := by
  obtain ⟨f1, pl1, i1, K1, a1, a2, a3, a4⟩ := h
  refine ⟨f1, pl1, i1, K1, a1, a2, fun q => by have := a3 q; omega, fun mm hM => ?_⟩
  rw [hz mm hM]
  refine ok_bW (tk1 hS hi hj hM.1 hk) ?_
  rintro x mm1 ⟨b1, b2, b3⟩
  simp only at b1 b2 b3
  rw [b1, if_neg (by decide)]
  refine ok_imp (a4 mm1 ⟨b2, fun _ => ?_⟩) (fun mm' hh => ⟨hh.1, fm_trans (fm_g2 b3) hh.2⟩)
  obtain ⟨m16, mK⟩ := hM.2 rfl
  exact ⟨(b3.2 16 (by omega)).trans m16, (b3.1 289 (by decide)).trans mK⟩
theorem N_blame {S : Stm} {pl : Int} {i : Nat} {K : Int → Int} {mc : Mem} (hS : StmV S) (h : LsC S 0 pl i K mc) : LkN S pl i K (fX6_refuse 2 mc) mc (fX12_blames 2) := by
  refine ok_imp (c_refuse hS (by decide) h.1) ?_
  rintro m' ⟨f', pl', k1, k2, k3, k5⟩
  refine ⟨f', pl', i, K, ⟨k2, fun z => absurd z k1⟩, fc_f2 k3, fun z => absurd z k1, fun mm hM => ?_⟩
  exact ok_imp (k5 mm hM.1) (fun mm' hh => ⟨⟨hh.1, fun z => absurd z k1⟩, fm_g2 hh.2⟩)
theorem N_line {S : Stm} {pl : Int} {i : Nat} {K : Int → Int} {mc : Mem} (hS : StmV S) (h : LsC S 0 pl i K mc) (hk : S.kd i ≠ 0) : Ok (fX6_readLine mc) (LineQ S pl i K mc fX12_readLine) := by
  have hi := (h.1.2.2 rfl).2.1
  unfold fX6_readLine
  rw [c_token hS h.1, bR_some, if_pos rfl]
  simp only [rd_eq]
  simp only [wr_eq]
  simp only [jn_eq]
  -- what the model sees at a word
  have T : ∀ (j : Nat) (mm : Mem), j < 18 → LsM S 0 pl i K mm → S.kd i ≠ 128 + (j : Int) → fX12_took (wid j) mm = some (0, mm) := fun j mm hj hM ne => tk0 hS hi hj hM.1 ne
  have W0 : ∀ (j : Nat) (mm : Mem), j < 18 → LsM S 0 pl i K mm → S.kd i ≠ 128 + (j : Int) → fX12_isWord (wid j) mm = some 0 := fun j mm hj hM ne => by
    rw [m_isWord hS (fun _ => hi) hj hM.1, if_neg (fun z => ne z.2)]
  have W1 : ∀ (j : Nat) (mm : Mem), j < 18 → LsM S 0 pl i K mm → S.kd i = 128 + (j : Int) → fX12_isWord (wid j) mm = some 1 := fun j mm hj hM e => by
    rw [m_isWord hS (fun _ => hi) hj hM.1, if_pos ⟨rfl, e⟩]
  by_cases k130 : S.kd i = 130
  · rw [if_pos k130]
    refine ok_imp (N_end hS (N_rain hS h hk)) (fun mc' hh => line_took (j := 2) hS hi (by decide) (by rw [k130]; rfl) hh (fun mm hM => ?_))
    unfold fX12_readLine
    simp only [jn_eq]
    rw [show fX12_took 15 mm = some (0, mm) from T 9 mm (by decide) hM (by rw [k130]; decide), bW_some, if_pos rfl, show fX12_isWord 16 mm = some 0 from W0 10 mm (by decide) hM (by rw [k130]; decide), bR_some, if_pos rfl, show fX12_isWord 9 mm = some 0 from W0 4 mm (by decide) hM (by rw [k130]; decide), bR_some, if_pos rfl]
    obtain ⟨⟨x, mm1⟩, e, e1, _⟩ := tk1 (j := 2) hS hi (by decide) hM.1 (by rw [k130]; rfl)
    simp only at e1
    rw [show fX12_took 7 mm = some (x, mm1) from e, e, bW_some, bW_some, e1, if_neg (by decide), if_neg (by decide)]
  rw [if_neg k130]
  by_cases k131 : S.kd i = 131
  · rw [if_pos k131]
    refine ok_imp (N_end hS (N_hour hS h hk)) (fun mc' hh => line_took (j := 3) hS hi (by decide) (by rw [k131]; rfl) hh (fun mm hM => ?_))
    unfold fX12_readLine
    simp only [jn_eq]
    simp only [wr_eq]
    rw [show fX12_took 15 mm = some (0, mm) from T 9 mm (by decide) hM (by rw [k131]; decide), bW_some, if_pos rfl, show fX12_isWord 16 mm = some 0 from W0 10 mm (by decide) hM (by rw [k131]; decide), bR_some, if_pos rfl, show fX12_isWord 9 mm = some 0 from W0 4 mm (by decide) hM (by rw [k131]; decide), bR_some, if_pos rfl, show fX12_took 7 mm = some (0, mm) from T 2 mm (by decide) hM (by rw [k131]; decide), bW_some, if_pos rfl]
    obtain ⟨⟨x, mm1⟩, e, e1, _⟩ := tk1 (j := 3) hS hi (by decide) hM.1 (by rw [k131]; rfl)
    simp only at e1
    rw [show fX12_took 8 mm = some (x, mm1) from e, e, bW_some, bW_some, e1, if_neg (by decide), if_neg (by decide)]
    cases fX12_number 0 999 mm1 with
    | none => rfl
    | some q => rfl
  rw [if_neg k131]
  by_cases k132 : S.kd i = 132
  · rw [if_pos k132]
    refine ok_imp (N_end hS (N_pair hS h hk)) ?_
    rintro mc' ⟨f1, pl1, i1, K1, a1, a2, a3, a4⟩
    refine ⟨f1, pl1, i1, K1, a1, a2, a3, fun mm hM => ?_⟩
    unfold fX12_readLine
    simp only [jn_eq]
    rw [show fX12_took 15 mm = some (0, mm) from T 9 mm (by decide) hM (by rw [k132]; decide), bW_some, if_pos rfl, show fX12_isWord 16 mm = some 0 from W0 10 mm (by decide) hM (by rw [k132]; decide), bR_some, if_pos rfl, show fX12_isWord 9 mm = some 1 from W1 4 mm (by decide) hM (by rw [k132]; rfl), bR_some, if_neg (by decide)]
    exact a4 mm hM
  rw [if_neg k132]
  have R := N_end hS (N_blame hS h)
  by_cases k137 : S.kd i = 137
  · rw [if_neg (by omega), if_neg (by omega), if_neg (by omega), if_neg (by omega), if_pos k137]
    refine ok_imp (N_end hS (N_rock hS h hk)) (fun mc' hh => line_took (j := 9) hS hi (by decide) (by rw [k137]; rfl) hh (fun mm hM => ?_))
    unfold fX12_readLine
    simp only [jn_eq]
    obtain ⟨⟨x, mm1⟩, e, e1, _⟩ := tk1 (j := 9) hS hi (by decide) hM.1 (by rw [k137]; rfl)
    simp only at e1
    rw [show fX12_took 15 mm = some (x, mm1) from e, e, bW_some, bW_some, e1, if_neg (by decide), if_neg (by decide)]
  by_cases k138 : S.kd i = 138
  · rw [if_neg (by omega), if_neg (by omega), if_neg (by omega), if_neg (by omega), if_neg k137, if_pos k138]
    refine ok_imp (N_end hS (N_house hS h hk)) ?_
    rintro mc' ⟨f1, pl1, i1, K1, a1, a2, a3, a4⟩
    refine ⟨f1, pl1, i1, K1, a1, a2, a3, fun mm hM => ?_⟩
    unfold fX12_readLine
    simp only [jn_eq]
    rw [show fX12_took 15 mm = some (0, mm) from T 9 mm (by decide) hM (by rw [k138]; decide), bW_some, if_pos rfl, show fX12_isWord 16 mm = some 1 from W1 10 mm (by decide) hM (by rw [k138]; rfl), bR_some, if_neg (by decide)]
    exact a4 mm hM
  by_cases k141 : S.kd i = 141
  · rw [if_neg (by omega), if_neg (by omega), if_neg (by omega), if_neg (by omega), if_neg k137, if_neg k138, if_neg (by omega), if_neg (by omega), if_pos k141]
    have L := N_law (b := false) (rC := gX6_readSum 30 0 0) (rM := gX12_readSum 30 0) hS h hk (fun f pl i c m hW hp => L_sum30 hS (by decide) (by decide) f pl i c 0 [] m hW (fun z => ⟨hp z, ⟨rfl, fun j T' hj hT => by
      have : j = 0 := by omega
      subst this
      cases hT; decide⟩, by decide⟩))
    refine ok_imp (N_end hS (x := fX6_readLengthLaw mc) L) (fun mc' hh => line_took (j := 13) hS hi (by decide) (by rw [k141]; rfl) hh (fun mm hM => ?_))
    unfold fX12_readLine
    simp only [jn_eq]
    rw [show fX12_took 15 mm = some (0, mm) from T 9 mm (by decide) hM (by rw [k141]; decide), bW_some, if_pos rfl, show fX12_isWord 16 mm = some 0 from W0 10 mm (by decide) hM (by rw [k141]; decide), bR_some, if_pos rfl, show fX12_isWord 9 mm = some 0 from W0 4 mm (by decide) hM (by rw [k141]; decide), bR_some, if_pos rfl, show fX12_took 7 mm = some (0, mm) from T 2 mm (by decide) hM (by rw [k141]; decide), bW_some, if_pos rfl, show fX12_took 8 mm = some (0, mm) from T 3 mm (by decide) hM (by rw [k141]; decide), bW_some, if_pos rfl]
    obtain ⟨⟨x, mm1⟩, e, e1, _⟩ := tk1 (j := 13) hS hi (by decide) hM.1 (by rw [k141]; rfl)
    simp only at e1
    rw [show fX12_took 17 mm = some (x, mm1) from e, e, bW_some, bW_some, e1, if_neg (by decide), if_neg (by decide)]
    show _ = bV (bV (fX12_beginsLaw 5 197 mm1) _) _
    cases fX12_beginsLaw 5 197 mm1 with
    | none => rfl
    | some q => rfl
  by_cases k142 : S.kd i = 142
  · rw [if_neg (by omega), if_neg (by omega), if_neg (by omega), if_neg (by omega), if_neg k137, if_neg k138, if_neg (by omega), if_neg (by omega), if_neg k141, if_pos k142]
    have L := N_law (b := true) (rC := gX6_readTruth 30 0 0) (rM := gX12_readTruth 30 0) hS h hk (fun f pl i c m hW hp => L_truth30 hS f pl i c 0 [] m hW (fun z => ⟨hp z, ⟨rfl, fun j T' hj hT => by
      have : j = 0 := by omega
      subst this
      cases hT; decide⟩, by decide⟩))
    refine ok_imp (N_end hS (x := fX6_readMayLaw mc) L) (fun mc' hh => line_took (j := 14) hS hi (by decide) (by rw [k142]; rfl) hh (fun mm hM => ?_))
    unfold fX12_readLine
    simp only [jn_eq]
    rw [show fX12_took 15 mm = some (0, mm) from T 9 mm (by decide) hM (by rw [k142]; decide), bW_some, if_pos rfl, show fX12_isWord 16 mm = some 0 from W0 10 mm (by decide) hM (by rw [k142]; decide), bR_some, if_pos rfl, show fX12_isWord 9 mm = some 0 from W0 4 mm (by decide) hM (by rw [k142]; decide), bR_some, if_pos rfl, show fX12_took 7 mm = some (0, mm) from T 2 mm (by decide) hM (by rw [k142]; decide), bW_some, if_pos rfl, show fX12_took 8 mm = some (0, mm) from T 3 mm (by decide) hM (by rw [k142]; decide), bW_some, if_pos rfl, show fX12_took 17 mm = some (0, mm) from T 13 mm (by decide) hM (by rw [k142]; decide), bW_some, if_pos rfl]
    obtain ⟨⟨x, mm1⟩, e, e1, _⟩ := tk1 (j := 14) hS hi (by decide) hM.1 (by rw [k142]; rfl)
    simp only at e1
    rw [show fX12_took 18 mm = some (x, mm1) from e, e, bW_some, bW_some, e1, if_neg (by decide), if_neg (by decide)]
    show _ = bV (bV (fX12_beginsLaw 6 1097 mm1) _) _
    cases fX12_beginsLaw 6 1097 mm1 with
    | none => rfl
    | some q => rfl
  have R2 : Ok (bV (fX6_refuse 2 mc) fun mm => bV (fX6_take 59 mm) fun mm => some (up mm 7 0 (w32 (mm 7 0 + 1)))) (LineQ S pl i K mc fX12_readLine) := by
    refine ok_imp R ?_
    rintro mc' ⟨f1, pl1, i1, K1, a1, a2, a3, a4⟩
    refine ⟨f1, pl1, i1, K1, a1, a2, a3, fun mm hM => ?_⟩
    unfold fX12_readLine
    simp only [jn_eq]
    rw [show fX12_took 15 mm = some (0, mm) from T 9 mm (by decide) hM (by omega), bW_some, if_pos rfl, show fX12_isWord 16 mm = some 0 from W0 10 mm (by decide) hM (by omega), bR_some, if_pos rfl, show fX12_isWord 9 mm = some 0 from W0 4 mm (by decide) hM (by omega), bR_some, if_pos rfl, show fX12_took 7 mm = some (0, mm) from T 2 mm (by decide) hM (by omega), bW_some, if_pos rfl, show fX12_took 8 mm = some (0, mm) from T 3 mm (by decide) hM (by omega), bW_some, if_pos rfl, show fX12_took 17 mm = some (0, mm) from T 13 mm (by decide) hM (by omega), bW_some, if_pos rfl, show fX12_took 18 mm = some (0, mm) from T 14 mm (by decide) hM (by omega), bW_some, if_pos rfl]
    exact a4 mm hM
  rw [if_neg k137, if_neg k138, if_neg k141, if_neg k142]
  repeat' split
  all_goals exact R2

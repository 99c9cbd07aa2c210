/-! ===== D85: sums within one another; truths ===== -/
theorem lp_1 {τ ρ : Type} (F : (τ → Mem → Option ρ) → τ → Mem → Option ρ) (t : τ) (mm : Mem) : ∃ K, lp BIG F t mm = F K t mm := by
  obtain ⟨n, hn⟩ : ∃ n, BIG = n + 1 := ⟨BIG - 1, by have := BIG_ge; omega⟩
  exact ⟨lp n F, by rw [hn]; rfl⟩
theorem m_sumF {S : Stm} {f pl : Int} {i k : Nat} {mm : Mem} (hS : StmV S) (hf : f ≠ 0) (h : MC S f pl i mm) : gX12_readSum (k + 3) 0 mm = some mm := by
  have hi : f = 0 → i ≤ S.cnt := fun z => absurd z hf
  have at_ : gX12_readSum (k + 1) 2 mm = some mm := by
    show fX12_readAtom_F (gX12_readSum k) mm = some mm
    unfold fX12_readAtom_F
    simp only [rd_eq]
    rw [h.2.1.1, if_neg hf]
  have te : gX12_readSum (k + 2) 1 mm = some mm := by
    show fX12_readTerm_F (gX12_readSum (k + 1)) mm = some mm
    unfold fX12_readTerm_F
    rw [at_, bV_some]
    obtain ⟨K, e⟩ := lp_1 (fun (K2 : Unit → Mem → Option Mem) (t1 : Unit) mm => bR (fX12_isSign 42 mm) fun x3 => ( (if x3 = (0 : Int) then some mm else bV (fX12_readsOn mm) fun mm => ( bV (gX12_readSum (k + 1) 2 mm) fun mm => ( bV (fX12_laysStep 12 mm) fun mm => ( K2 () mm)))))) () mm
    rw [e, m_isSign hS hi (by unfold SgnB; omega) h, if_neg (fun z => hf z.1), bR_some, if_pos rfl]
  show fX12_readSum_F (gX12_readSum (k + 2)) mm = some mm
  unfold fX12_readSum_F
  rw [te, bV_some]
  obtain ⟨K, e⟩ := lp_1 (fun (K2 : Unit → Mem → Option Mem) (t1 : Unit) mm => bR (fX12_isSign 43 mm) fun x3 => ( (jn (fun (t4 : Unit) mm => rd (mm 287 10) fun x6 => ( bV (fX12_readsOn mm) fun mm => ( bV (gX12_readSum (k + 2) 1 mm) fun mm => ( (jn (fun (t7 : Int) mm => bV (fX12_laysStep t7 mm) fun mm => ( K2 () mm)) fun J8 => (if ¬ x6 = 43 then J8 11 mm else J8 10 mm)))))) fun J5 => (if ¬ x3 = (0 : Int) then J5 () mm else bR (fX12_isSign 45 mm) fun x9 => ( (if x9 = (0 : Int) then some mm else J5 () mm)))))) () mm
  rw [e, m_isSign hS hi (by unfold SgnB; omega) h, if_neg (fun z => hf z.1), bR_some, jn_eq, if_neg (show ¬ ¬ (0 : Int) = 0 from fun z => z rfl), m_isSign hS hi (by unfold SgnB; omega) h, if_neg (fun z => hf z.1), bR_some, if_pos rfl]
theorem L_sumG {S : Stm} {b : Bool} (hS : StmV S) : ∀ (D fc fm : Nat) (d : Int), 3 * D + 3 ≤ fc → 3 * D + 6 ≤ fm → 0 ≤ d → d + (D : Int) = 6 → ∀ (f pl : Int) (i : Nat) (c : Int → Int) (N : Nat) (T0 : List Bool) (mc : Mem), LwC S b f pl i c N mc → PreL b f i c N T0 (5 * d + 3) → LkL S b d f pl i c N (gX6_readSum fc 0 d mc) mc (gX12_readSum fm 0) (PhQ b i c N T0 false) := by
  intro D
  induction D with
  | zero =>
    intro fc fm d h1 h2 d0 hd f pl i c N T0 mc h hp
    obtain ⟨k, rfl⟩ : ∃ k, fc = k + 3 := ⟨fc - 3, by omega⟩
    obtain ⟨m, rfl⟩ : ∃ m, fm = m + 6 := ⟨fm - 6, by omega⟩
    refine L_sum (rcC := gX6_readSum (k + 2)) (rcM := gX12_readSum (m + 5)) hS (by omega) ?_ h hp
    intro f pl i c N T0 mc h hp
    refine L_term (rcC := gX6_readSum (k + 1)) (rcM := gX12_readSum (m + 4)) hS (by omega) ?_ h hp
    intro f pl i c N T0 mc h hp
    exact L_atom (rcC := gX6_readSum k) (rcM := gX12_readSum (m + 3)) hS d0 (by omega) (fun z => by omega) (fun f pl i mm hf hM => m_sumF hS hf hM) h hp
  | succ D ih =>
    intro fc fm d h1 h2 d0 hd f pl i c N T0 mc h hp
    obtain ⟨k, rfl⟩ : ∃ k, fc = k + 3 := ⟨fc - 3, by omega⟩
    obtain ⟨m, rfl⟩ : ∃ m, fm = m + 6 := ⟨fm - 6, by omega⟩
    refine L_sum (rcC := gX6_readSum (k + 2)) (rcM := gX12_readSum (m + 5)) hS (by omega) ?_ h hp
    intro f pl i c N T0 mc h hp
    refine L_term (rcC := gX6_readSum (k + 1)) (rcM := gX12_readSum (m + 4)) hS (by omega) ?_ h hp
    intro f pl i c N T0 mc h hp
    exact L_atom (rcC := gX6_readSum k) (rcM := gX12_readSum (m + 3)) hS d0 (by omega) (fun z => ih k (m + 3) (d + 1) (by omega) (by omega) (by omega) (by omega)) (fun f pl i mm hf hM => m_sumF hS hf hM) h hp
theorem L_sum30 {S : Stm} {b : Bool} {d : Int} (hS : StmV S) (d0 : 0 ≤ d) (d6 : d ≤ 6) : ∀ (f pl : Int) (i : Nat) (c : Int → Int) (N : Nat) (T0 : List Bool) (mc : Mem), LwC S b f pl i c N mc → PreL b f i c N T0 (5 * d + 3) → LkL S b d f pl i c N (gX6_readSum 30 0 d mc) mc (gX12_readSum 30 0) (PhQ b i c N T0 false) :=
  L_sumG hS (6 - d).toNat 30 30 d (by omega) (by omega) d0 (by omega)
theorem ty_not {nw : Int} {T : List Bool} : tyS nw 18 (true :: T) = some (true :: T) := by
  unfold tyS; simp
theorem ty_cmp {nw op : Int} {T : List Bool} (h : op = 13 ∨ op = 14 ∨ op = 15) : tyS nw op (false :: false :: T) = some (true :: T) := by
  unfold tyS; rw [if_neg (by omega), if_neg (by omega), if_neg (by omega), if_pos h]
theorem ty_bool {nw op : Int} {T : List Bool} (h : op = 16 ∨ op = 17) : tyS nw op (true :: true :: T) = some (true :: T) := by
  unfold tyS; rw [if_neg (by omega), if_neg (by omega), if_neg (by omega), if_neg (by omega), if_pos h]
/-- what a fault leaves behind, seen from the model -/
theorem lk_fault {S : Stm} {b : Bool} {d f pl f' pl' : Int} {i i' : Nat} {c c' : Int → Int} {N N' : Nat} {y : Mem → Option Mem} (hy : ∀ mm, MC S f pl i mm → y mm = some mm) (k : ∀ K0 mm, LwM S b d f pl i c N K0 mm → Ok (y mm) (fun mm' => LwM S b d f' pl' i' c' N' K0 mm' ∧ GL mm mm')) : ∀ K0 mm, LwM S b d f pl i c N K0 mm → LwM S b d f' pl' i' c' N' K0 mm := by
  intro K0 mm hM
  have e := k K0 mm hM
  rw [hy mm hM.1] at e
  obtain ⟨a, ea, eb, _⟩ := e
  cases ea; exact eb
theorem L_unit {S : Stm} {b : Bool} {d : Int} {rcC : Nat → Int → Mem → Option Mem} {rcM : Nat → Mem → Option Mem} (hS : StmV S) (d0 : 0 ≤ d) (d6 : d ≤ 6)
    (hT : d < 6 → ∀ (f pl : Int) (i : Nat) (c : Int → Int) (N : Nat) (T0 : List Bool) (mc : Mem), LwC S b f pl i c N mc → PreL b f i c N T0 (5 * (d + 1)) → LkL S b (d + 1) f pl i c N (rcC 0 (d + 1) mc) mc (rcM 0) (PhQ b i c N T0 true))
    (hU : d < 6 → ∀ (f pl : Int) (i : Nat) (c : Int → Int) (N : Nat) (T0 : List Bool) (mc : Mem), LwC S b f pl i c N mc → PreL b f i c N T0 (5 * (d + 1) + 2) → LkL S b (d + 1) f pl i c N (rcC 2 (d + 1) mc) mc (rcM 2) (PhQ b i c N T0 true))
    (hTf : ∀ (f pl : Int) (i : Nat) (mm : Mem), f ≠ 0 → MC S f pl i mm → rcM 0 mm = some mm)
    (hUf : ∀ (f pl : Int) (i : Nat) (mm : Mem), f ≠ 0 → MC S f pl i mm → rcM 2 mm = some mm)
    {f pl : Int} {i : Nat} {c : Int → Int} {N : Nat} {T0 : List Bool} {mc : Mem} (h : LwC S b f pl i c N mc) (hpre : PreL b f i c N T0 (5 * d + 2)) :
    LkL S b d f pl i c N (fX6_readUnit_F rcC d mc) mc (fX12_readUnit_F rcM) (PhQ b i c N T0 true) := by
  have oc := oL_cases b
  have tr := trO_ops (b := b)
  have c9 := st_cnt hS
  unfold LkL fX6_readUnit_F
  rw [c_token hS h.1, bR_some]
  simp only [rd_eq]
  simp only [rdn_eq]
  simp only [wr_eq]
  simp only [jn_eq]
  by_cases hf : f = 0
  · subst hf
    obtain ⟨e5, ei, _⟩ := h.1.2.2 rfl
    obtain ⟨n2, hl, hTl⟩ := hpre rfl
    rw [if_pos rfl]
    by_cases qn : S.kd i = 145
    · have hc : i < S.cnt := (lwC_adv hS h (by omega)).1
      rw [if_neg (show ¬ ¬ S.kd i = 145 from fun z => z qn)]
      have w4 : ∀ mm, MC S 0 pl i mm → fX12_isWord 4 mm = some 1 := fun mm hM => by
        have e := m_isWord (j := 17) hS (fun _ => ei) (by decide) hM
        have e1 : (if (0 : Int) = 0 ∧ S.kd i = 128 + ((17 : Nat) : Int) then (1 : Int) else 0) = 1 := if_pos ⟨rfl, by omega⟩
        rw [e1] at e; exact e
      unfold fX6_opens
      simp only [rd_eq]
      simp only [wr_eq]
      by_cases hd : d < 6
      · obtain ⟨a1, a2, a3, a4⟩ := lwC_adv hS h (by omega)
        rw [if_pos hd, e5, w32_id (x := (i : Int) + 1) (by omega) (by omega), bW_some, if_neg (by decide), w32_id (x := d + 1) (by omega) (by omega)]
        refine ok_bV (hU hd 0 pl (i + 1) c N T0 _ a3 (fun _ => ⟨by omega, hl, by omega⟩)) ?_
        rintro m2 ⟨f2, pl2, i2, c2, N2, p1, p2, p3, p4⟩
        rw [p1.2.1, Int.toNat_natCast, chk_of (layO b)]
        have hN9 : f2 = 0 → N2 < 900 := fun z => by
          have q := (p3 z).2
          have := (p1.1.2.2 z).2.1
          have := q.2.2.1
          omega
        refine ok_bV (c_putL (d := d + 1) (op := 18) p1 hN9 (fun _ => tr.2.2.2.2.2.2.2.2.symm)) ?_
        rintro m3 ⟨f3, pl3, i3, c3, N3, r1, r2, r3, r4⟩
        refine ok_some ⟨f3, pl3, i3, c3, N3, r1, fl_trans a4 (fl_trans p2 r2), fun z => ?_, fun K0 mm hM => ?_⟩
        · obtain ⟨z2, e1, e2, e3⟩ := r3 z
          obtain ⟨_, u1, u2, u3, u4, u5⟩ := p3 z2
          subst e1; subst e2; subst e3
          exact ⟨trivial, by omega, by omega, by omega, fun j hj => by rw [ku_ne (by omega)]; exact u4 j hj, law_put u5 ty_not (by simp; omega)⟩
        · unfold fX12_readUnit_F
          simp only [rd_eq]
          simp only [wr_eq]
          simp only [jn_eq]
          rw [hM.1.2.1.1, if_pos rfl, w4 mm hM.1, bR_some, if_neg (by decide)]
          refine ok_bV (m_goesIn hS a1 d0 hd hM) ?_
          rintro mm2 ⟨w1, w2⟩
          refine ok_bV (p4 K0 mm2 w1) ?_
          rintro mm3 ⟨w3, w4⟩
          refine ok_bV (r4 K0 mm3 w3) ?_
          rintro mm4 ⟨w5, w6⟩
          obtain ⟨k1, k2⟩ := lwM_deep (d' := w32 (mm4 287 16 - 1)) w5
          refine ok_some ⟨⟨k1.1, k1.2.1, fun z => ?_, k1.2.2.2⟩, gl_trans w2 (gl_trans w4 (gl_trans w6 k2))⟩
          rw [k1.2.2.1 z, w5.2.2.1 z, w32_id (by omega) (by omega)]; omega
      · rw [if_neg hd]
        refine ok_bW (P := fun r => r.1 = 0 ∧ ∃ f' pl', f' ≠ 0 ∧ CC S f' pl' i r.2 ∧ F2 mc r.2 ∧ ∀ mm, MC S 0 pl i mm → Ok (fX12_blames 4 mm) (fun mm' => MC S f' pl' i mm' ∧ G2 mm mm')) (ok_bV (c_refuse hS (by decide) h.1) (fun m' hh => ok_some ⟨rfl, hh⟩)) ?_
        rintro x m2 ⟨e0, f', pl', k1, k2, k3, k4⟩
        simp only at e0 k2 k3 k4
        rw [e0, if_pos rfl]
        refine ok_some ⟨f', pl', i, c, N, lwC_f2 h k3 k2 (fun z => absurd z k1), fl_f2 k3, fun z => absurd z k1, fun K0 mm hM => ?_⟩
        unfold fX12_readUnit_F
        simp only [rd_eq]
        simp only [wr_eq]
        simp only [jn_eq]
        rw [hM.1.2.1.1, if_pos rfl, w4 mm hM.1, bR_some, if_neg (by decide)]
        refine ok_bV (m_goesInF (by omega) k1 hM (k4 mm hM.1)) ?_
        rintro mm2 ⟨w1, w2⟩
        rw [hUf f' pl' i mm2 k1 w1.1, bV_some, m_laysStepF k1 w1, bV_some]
        obtain ⟨g1, g2⟩ := lwM_deep (d' := w32 (mm2 287 16 - 1)) w1
        exact ok_some ⟨⟨g1.1, g1.2.1, fun z => absurd z k1, fun z => absurd z k1⟩, gl_trans w2 g2⟩
    · have w4 : ∀ mm, MC S 0 pl i mm → fX12_isWord 4 mm = some 0 := fun mm hM => by
        have e := m_isWord (j := 17) hS (fun _ => ei) (by decide) hM
        have e1 : (if (0 : Int) = 0 ∧ S.kd i = 128 + ((17 : Nat) : Int) then (1 : Int) else 0) = 0 := if_neg (fun z => qn (by omega))
        rw [e1] at e; exact e
      rw [if_pos qn]
      by_cases qb : S.kd i = 91
      · have hc : i < S.cnt := (lwC_adv hS h (by omega)).1
        rw [if_neg (show ¬ ¬ S.kd i = 91 from fun z => z qb)]
        have w91 : ∀ mm, MC S 0 pl i mm → fX12_isSign 91 mm = some 1 := fun mm hM => by
          rw [m_isSign hS (fun _ => ei) (by unfold SgnB; omega) hM, if_pos ⟨rfl, qb⟩]
        unfold fX6_opens
        simp only [rd_eq]
        simp only [wr_eq]
        by_cases hd : d < 6
        · obtain ⟨a1, a2, a3, a4⟩ := lwC_adv hS h (by omega)
          rw [if_pos hd, e5, w32_id (x := (i : Int) + 1) (by omega) (by omega), bW_some, if_neg (by decide), w32_id (x := d + 1) (by omega) (by omega)]
          refine ok_bV (hT hd 0 pl (i + 1) c N T0 _ a3 (fun _ => ⟨by omega, hl, by omega⟩)) ?_
          rintro m2 ⟨f2, pl2, i2, c2, N2, p1, p2, p3, p4⟩
          refine ok_bV (l_take (d := d + 1) (s := 93) hS (by unfold SgnB; omega) p1) ?_
          rintro m3 ⟨f3, pl3, i3, c3, N3, r1, r2, r3, r4⟩
          refine ok_some ⟨f3, pl3, i3, c3, N3, r1, fl_trans a4 (fl_trans p2 r2), fun z => ?_, fun K0 mm hM => ?_⟩
          · obtain ⟨z2, e1, e2, e3⟩ := r3 z
            obtain ⟨_, u1, u2, u3, u4, u5⟩ := p3 z2
            subst e1; subst e2; subst e3
            exact ⟨trivial, by omega, u2, by omega, u4, u5⟩
          · unfold fX12_readUnit_F
            simp only [rd_eq]
            simp only [wr_eq]
            simp only [jn_eq]
            rw [hM.1.2.1.1, if_pos rfl, w4 mm hM.1, bR_some, if_pos rfl, w91 mm hM.1, bR_some, if_neg (by decide)]
            refine ok_bV (m_goesIn hS a1 d0 hd hM) ?_
            rintro mm2 ⟨w1, w2⟩
            refine ok_bV (p4 K0 mm2 w1) ?_
            rintro mm3 ⟨w3, w4⟩
            refine ok_bV (r4 K0 mm3 w3) ?_
            rintro mm4 ⟨w5, w6⟩
            obtain ⟨k1, k2⟩ := lwM_deep (d' := w32 (mm4 287 16 - 1)) w5
            refine ok_some ⟨⟨k1.1, k1.2.1, fun z => ?_, k1.2.2.2⟩, gl_trans w2 (gl_trans w4 (gl_trans w6 k2))⟩
            rw [k1.2.2.1 z, w5.2.2.1 z, w32_id (by omega) (by omega)]; omega
        · rw [if_neg hd]
          refine ok_bW (P := fun r => r.1 = 0 ∧ ∃ f' pl', f' ≠ 0 ∧ CC S f' pl' i r.2 ∧ F2 mc r.2 ∧ ∀ mm, MC S 0 pl i mm → Ok (fX12_blames 4 mm) (fun mm' => MC S f' pl' i mm' ∧ G2 mm mm')) (ok_bV (c_refuse hS (by decide) h.1) (fun m' hh => ok_some ⟨rfl, hh⟩)) ?_
          rintro x m2 ⟨e0, f', pl', k1, k2, k3, k4⟩
          simp only at e0 k2 k3 k4
          rw [e0, if_pos rfl]
          refine ok_some ⟨f', pl', i, c, N, lwC_f2 h k3 k2 (fun z => absurd z k1), fl_f2 k3, fun z => absurd z k1, fun K0 mm hM => ?_⟩
          unfold fX12_readUnit_F
          simp only [rd_eq]
          simp only [wr_eq]
          simp only [jn_eq]
          rw [hM.1.2.1.1, if_pos rfl, w4 mm hM.1, bR_some, if_pos rfl, w91 mm hM.1, bR_some, if_neg (by decide)]
          refine ok_bV (m_goesInF (by omega) k1 hM (k4 mm hM.1)) ?_
          rintro mm2 ⟨w1, w2⟩
          rw [hTf f' pl' i mm2 k1 w1.1, bV_some, m_mustSignF k1 w1.1, bV_some]
          obtain ⟨g1, g2⟩ := lwM_deep (d' := w32 (mm2 287 16 - 1)) w1
          exact ok_some ⟨⟨g1.1, g1.2.1, fun z => absurd z k1, fun z => absurd z k1⟩, gl_trans w2 g2⟩
      · have w91 : ∀ mm, MC S 0 pl i mm → fX12_isSign 91 mm = some 0 := fun mm hM => by
          rw [m_isSign hS (fun _ => ei) (by unfold SgnB; omega) hM, if_neg (fun z => qb z.2)]
        rw [if_pos qb]
        refine ok_bV (L_sum30 hS d0 d6 0 pl i c N T0 mc h (fun _ => ⟨n2, hl, by omega⟩)) ?_
        rintro m2 ⟨f2, pl2, i2, c2, N2, p1, p2, p3, p4⟩
        rw [c_token hS p1.1, bR_some]
        -- no sign that compares
        have stop : ¬ (f2 = 0 ∧ (S.kd i2 = 61 ∨ S.kd i2 = 60 ∨ S.kd i2 = 62)) → Ok (bV (fX6_refuse 2 m2) fun mm => some mm) (fun mc' => ∃ f' pl' i' c' N', LwC S b f' pl' i' c' N' mc' ∧ FLw b mc mc' ∧ (f' = 0 → (0 : Int) = 0 ∧ PhQ b i c N T0 true i' c' N') ∧ ∀ K0 mm, LwM S b d 0 pl i c N K0 mm → Ok (fX12_readUnit_F rcM mm) (fun mm' => LwM S b d f' pl' i' c' N' K0 mm' ∧ GL mm mm')) := by
          intro hno
          refine ok_bV (c_refuse hS (by decide) p1.1) ?_
          rintro m3 ⟨f', pl', k1, k2, k3, k4⟩
          refine ok_some ⟨f', pl', i2, c2, N2, lwC_f2 p1 k3 k2 (fun z => absurd z k1), fl_trans p2 (fl_f2 k3), fun z => absurd z k1, fun K0 mm hM => ?_⟩
          unfold fX12_readUnit_F
          simp only [rd_eq]
          simp only [jn_eq]
          rw [hM.1.2.1.1, if_pos rfl, w4 mm hM.1, bR_some, if_pos rfl, w91 mm hM.1, bR_some, if_pos rfl]
          refine ok_bV (p4 K0 mm hM) ?_
          rintro mm2 ⟨w1, w2⟩
          -- whatever it reads there, nothing is laid
          have rest : ∀ (op : Int) (mm3 : Mem), LwM S b d f' pl' i2 c2 N2 K0 mm3 → GL mm mm3 → Ok (if ¬ mm3 287 12 = 0 then bV (gX12_readSum 30 0 mm3) fun mm => bV (fX12_laysStep op mm) fun mm => some mm else bV (fX12_readsOn mm3) fun mm => bV (gX12_readSum 30 0 mm) fun mm => bV (fX12_laysStep op mm) fun mm => some mm) (fun mm' => LwM S b d f' pl' i2 c2 N2 K0 mm' ∧ GL mm mm') := fun op mm3 g1 g2 => by
            rw [g1.1.2.1.1, if_pos k1, m_sumF hS k1 g1.1, bV_some, m_laysStepF k1 g1, bV_some]
            exact ok_some ⟨g1, g2⟩
          have bl : Ok (fX12_blames 2 mm2) (fun mm3 => LwM S b d f' pl' i2 c2 N2 K0 mm3 ∧ GL mm mm3) := ok_imp (k4 mm2 w1.1) (fun mm3 hh => ⟨lwM_g2 w1 hh.2 hh.1 (fun z => absurd z k1), gl_trans w2 (gl_g2 hh.2)⟩)
          have keep : f2 ≠ 0 → LwM S b d f' pl' i2 c2 N2 K0 mm2 := fun hf2 => by
            have e := bl
            rw [m_blamesF hf2 w1.1] at e
            obtain ⟨a, ea, eb, _⟩ := e
            cases ea; exact eb
          have sg : ∀ s, SgnB s → f2 = 0 → mm2 287 10 = s → S.kd i2 = s := fun s hs z e => (mtok_sgn hS (p1.1.2.2 z).2.1 hs).mp (by rw [← (w1.1.2.2 z).2.2.1]; exact e)
          have nf : (mm2 287 10 = 61 ∨ mm2 287 10 = 60 ∨ mm2 287 10 = 62) → f2 ≠ 0 := fun e z => hno ⟨z, by
            rcases e with e | e | e
            · exact .inl (sg 61 (by unfold SgnB; omega) z e)
            · exact .inr (.inl (sg 60 (by unfold SgnB; omega) z e))
            · exact .inr (.inr (sg 62 (by unfold SgnB; omega) z e))⟩
          by_cases q61 : mm2 287 10 = 61
          · rw [if_pos q61]
            simp only [if_neg (show ¬ ¬ mm2 287 10 = 61 from fun z => z q61)]
            exact rest 13 mm2 (keep (nf (.inl q61))) w2
          · rw [if_neg q61]
            simp only [if_pos q61]
            by_cases q60 : mm2 287 10 = 60
            · rw [if_pos q60]
              simp only [if_neg (show ¬ ¬ mm2 287 10 = 60 from fun z => z q60)]
              exact rest 14 mm2 (keep (nf (.inr (.inl q60)))) w2
            · rw [if_neg q60]
              simp only [if_pos q60]
              by_cases q62 : mm2 287 10 = 62
              · rw [if_pos q62]; exact rest 15 mm2 (keep (nf (.inr (.inr q62)))) w2
              · rw [if_neg q62]
                exact ok_bV bl (fun mm3 hh => rest 15 mm3 hh.1 hh.2)
        have go : f2 = 0 → ∀ op s : Int, S.kd i2 = s → SgnB s → trO (fnL b) op = s → (op = 13 ∨ op = 14 ∨ op = 15) → ((op = 13 ↔ s = 61) ∧ (op = 14 ↔ s = 60) ∧ (op = 15 ↔ s = 62)) →
            Ok (bV (gX6_readSum 30 0 d (up m2 2 5 (w32 (m2 2 5 + 1)))) fun mm => chk (layL[(mm 2 8).toNat]? = some (.inl 4)) (bV (fX4_put (mm 2 8).toNat s mm) fun mm => some mm)) (fun mc' => ∃ f' pl' i' c' N', LwC S b f' pl' i' c' N' mc' ∧ FLw b mc mc' ∧ (f' = 0 → (0 : Int) = 0 ∧ PhQ b i c N T0 true i' c' N') ∧ ∀ K0 mm, LwM S b d 0 pl i c N K0 mm → Ok (fX12_readUnit_F rcM mm) (fun mm' => LwM S b d f' pl' i' c' N' K0 mm' ∧ GL mm mm')) := by
          intro hf2 op s hs hsg hop h3 hiff
          subst hf2
          obtain ⟨_, u1, u2, u3, u4, u5⟩ := p3 rfl
          obtain ⟨a1, a2, a3, a4⟩ := lwC_adv hS p1 (by unfold SgnB at hsg; omega)
          rw [a2, w32_id (x := (i2 : Int) + 1) (by omega) (by omega)]
          refine ok_bV (L_sum30 hS d0 d6 0 pl2 (i2 + 1) c2 N2 (false :: T0) _ a3 (fun _ => ⟨by omega, u5, by simp only [List.length_cons]; omega⟩)) ?_
          rintro m4 ⟨f4, pl4, i4, c4, N4, r1, r2, r3, r4⟩
          rw [r1.2.1, Int.toNat_natCast, chk_of (layO b)]
          have hN9 : f4 = 0 → N4 < 900 := fun z => by
            have q := (r3 z).2
            have := (r1.1.2.2 z).2.1
            have := q.2.2.1
            omega
          refine ok_bV (c_putL (d := d) (op := op) r1 hN9 (fun _ => hop.symm)) ?_
          rintro m5 ⟨f5, pl5, i5, c5, N5, t1, t2, t3, t4⟩
          refine ok_some ⟨f5, pl5, i5, c5, N5, t1, fl_trans p2 (fl_trans a4 (fl_trans r2 t2)), fun z => ?_, fun K0 mm hM => ?_⟩
          · obtain ⟨z2, e1, e2, e3⟩ := t3 z
            obtain ⟨_, v1, v2, v3, v4, v5⟩ := r3 z2
            subst e1; subst e2; subst e3
            refine ⟨rfl, by omega, by omega, by omega, fun j hj => ?_, law_put v5 (ty_cmp h3) (by simp; omega)⟩
            rw [ku_ne (by omega), v4 j (by omega)]; exact u4 j hj
          · unfold fX12_readUnit_F
            simp only [rd_eq]
            simp only [jn_eq]
            rw [hM.1.2.1.1, if_pos rfl, w4 mm hM.1, bR_some, if_pos rfl, w91 mm hM.1, bR_some, if_pos rfl]
            refine ok_bV (p4 K0 mm hM) ?_
            rintro mm2 ⟨w1, w2⟩
            have e10 := lwM_sign hS (by omega) w1 hsg hs
            have rest : Ok (if ¬ mm2 287 12 = 0 then bV (gX12_readSum 30 0 mm2) fun mm => bV (fX12_laysStep op mm) fun mm => some mm else bV (fX12_readsOn mm2) fun mm => bV (gX12_readSum 30 0 mm) fun mm => bV (fX12_laysStep op mm) fun mm => some mm) (fun mm' => LwM S b d f5 pl5 i5 c5 N5 K0 mm' ∧ GL mm mm') := by
              rw [w1.1.2.1.1, if_neg (show ¬ ¬ (0 : Int) = 0 from fun z => z rfl)]
              refine ok_bV (lwM_adv hS a1 w1) ?_
              rintro mm3 ⟨x1, x2⟩
              refine ok_bV (r4 K0 mm3 x1) ?_
              rintro mm4 ⟨x3, x4⟩
              refine ok_bV (t4 K0 mm4 x3) ?_
              rintro mm5 ⟨x5, x6⟩
              exact ok_some ⟨x5, gl_trans w2 (gl_trans x2 (gl_trans x4 x6))⟩
            rw [e10]
            rcases h3 with e | e | e
            · have es := hiff.1.mp e
              rw [if_pos es]
              simp only [if_neg (show ¬ ¬ s = 61 from fun z => z es)]
              rw [e] at rest; exact rest
            · have es := hiff.2.1.mp e
              rw [if_neg (show ¬ s = 61 by omega), if_pos es]
              simp only [if_pos (show ¬ s = 61 by omega), if_neg (show ¬ ¬ s = 60 from fun z => z es)]
              rw [e] at rest; exact rest
            · have es := hiff.2.2.mp e
              rw [if_neg (show ¬ s = 61 by omega), if_neg (show ¬ s = 60 by omega), if_pos es]
              simp only [if_pos (show ¬ s = 61 by omega), if_pos (show ¬ s = 60 by omega)]
              rw [e] at rest; exact rest
        by_cases hf2 : f2 = 0
        · rw [if_pos hf2]
          by_cases q61 : S.kd i2 = 61
          · rw [if_pos q61]; exact go hf2 13 _ rfl (by rw [q61]; unfold SgnB; omega) (by rw [q61]; exact tr.2.2.2.2.2.1) (by omega) (by omega)
          · rw [if_neg q61]
            by_cases q60 : S.kd i2 = 60
            · rw [if_pos q60]; exact go hf2 14 _ rfl (by rw [q60]; unfold SgnB; omega) (by rw [q60]; exact tr.2.2.2.2.2.2.1) (by omega) (by omega)
            · rw [if_neg q60]
              by_cases q62 : S.kd i2 = 62
              · rw [if_neg (show ¬ ¬ S.kd i2 = 62 from fun z => z q62)]; exact go hf2 15 _ rfl (by rw [q62]; unfold SgnB; omega) (by rw [q62]; exact tr.2.2.2.2.2.2.2.1) (by omega) (by omega)
              · rw [if_pos q62]; exact stop (fun z => by omega)
        · rw [if_neg hf2, if_neg (by decide), if_neg (by decide), if_pos (by decide)]
          exact stop (fun z => hf2 z.1)
  · rw [if_neg hf, if_pos (by decide), if_pos (by decide)]
    refine ok_bV (L_sum30 hS d0 d6 f pl i c N T0 mc h (fun z => absurd z hf)) ?_
    rintro m2 ⟨f2, pl2, i2, c2, N2, p1, p2, p3, p4⟩
    have hf2 : f2 ≠ 0 := fun z => hf (p3 z).1
    rw [c_token hS p1.1, bR_some, if_neg hf2, if_neg (by decide), if_neg (by decide), if_pos (by decide), c_refuseF hf2 p1.1, bV_some]
    refine ok_some ⟨f2, pl2, i2, c2, N2, p1, p2, fun z => absurd z hf2, fun K0 mm hM => ?_⟩
    unfold fX12_readUnit_F
    simp only [rd_eq]
    rw [hM.1.2.1.1, if_neg hf]
    exact ok_some ⟨lk_fault (fun mm hM => m_sumF hS hf hM) p4 K0 mm hM, gl_refl⟩

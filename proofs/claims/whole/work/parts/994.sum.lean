/-! ===== D83: sums ===== -/
def PhQ (b : Bool) (i : Nat) (c : Int → Int) (N : Nat) (T0 : List Bool) (t : Bool) : Nat → (Int → Int) → Nat → Prop := fun i' c' N' => i < i' ∧ N < N' ∧ N' + i ≤ N + i' ∧ (∀ j : Nat, j < N → c' j = c j) ∧ LawOk c' (nwL b) N' (t :: T0)
def PreL (b : Bool) (f : Int) (i : Nat) (c : Int → Int) (N : Nat) (T0 : List Bool) (bd : Int) : Prop := f = 0 → N + 2 ≤ i ∧ LawOk c (nwL b) N T0 ∧ (T0.length : Int) ≤ bd
theorem nwL_rg (b : Bool) : 5 ≤ nwL b ∧ nwL b ≤ 6 := by cases b <;> simp [nwL]
theorem lohi (b : Bool) : (loL b = 128 ∨ loL b = 130) ∧ (hiL b = 132 ∨ hiL b = 135) := by cases b <;> simp [loL, hiL]
theorem ty_num {nw v : Int} {T : List Bool} (v0 : 0 ≤ v) (v9 : v ≤ 999) : tyS nw (1000 + v) T = some (false :: T) := by
  unfold tyS; rw [if_pos (by omega), if_pos (by omega)]
theorem ty_nam {nw w : Int} {T : List Bool} (w0 : 0 ≤ w) (w1 : w < nw) (n6 : nw ≤ 6) : tyS nw (100 + w) T = some (false :: T) := by
  unfold tyS; rw [if_neg (by omega), if_pos (by omega), if_pos (by omega)]
theorem ty_ar {nw op : Int} {T : List Bool} (h : op = 10 ∨ op = 11 ∨ op = 12) : tyS nw op (false :: false :: T) = some (false :: T) := by
  unfold tyS; rw [if_neg (by omega), if_neg (by omega), if_pos h]
theorem m_numOk {S : Stm} {pl lo hi : Int} {i : Nat} {mm : Mem} (hS : StmV S) (hi' : i < S.cnt) (hM : MC S 0 pl i mm) (q : S.kd i = 1) (w : lo ≤ S.vl i ∧ S.vl i ≤ hi) : Ok (fX12_number lo hi mm) (fun s => MC S 0 pl (i + 1) s.2 ∧ G2 mm s.2 ∧ s.1 = S.vl i) := by
  obtain ⟨b1, b2, b3, b4⟩ := hM.2.2 rfl
  have mn := mtok_num hS (show i ≤ S.cnt by omega)
  unfold fX12_number
  simp only [rd_eq]
  simp only [jn_eq]
  rw [b3, if_pos (mn.1.mpr q), b4 q, m_within, bR_some, if_pos w, if_pos (show ¬ (1 : Int) = 0 by decide), hM.2.1.1, if_neg (show ¬ ¬ (0 : Int) = 0 from fun z => z rfl)]
  refine ok_bV (m_adv hS hi' hM) ?_
  rintro mm' ⟨j1, j2⟩
  rw [j1.2.1.1, if_neg (show ¬ ¬ (0 : Int) = 0 from fun z => z rfl)]
  exact ok_some ⟨j1, j2, rfl⟩
theorem m_numBad {S : Stm} {pl lo hi f' pl' : Int} {i : Nat} {mm : Mem} (hS : StmV S) (hi' : i ≤ S.cnt) (hM : MC S 0 pl i mm) (q : S.kd i ≠ 1) (hf' : f' ≠ 0) (k4 : Ok (fX12_blames 2 mm) (fun mm' => MC S f' pl' i mm' ∧ G2 mm mm')) : Ok (fX12_number lo hi mm) (fun s => MC S f' pl' i s.2 ∧ G2 mm s.2) := by
  obtain ⟨b1, b2, b3, b4⟩ := hM.2.2 rfl
  have mn := mtok_num hS hi'
  unfold fX12_number
  simp only [rd_eq]
  simp only [jn_eq]
  rw [b3, if_neg (fun z => q (mn.1.mp z))]
  refine ok_bV k4 ?_
  rintro mm' ⟨j1, j2⟩
  rw [j1.2.1.1, if_pos hf', if_pos hf']
  exact ok_some ⟨j1, j2⟩
theorem lwM_deep {S : Stm} {b : Bool} {d d' f pl : Int} {i : Nat} {c : Int → Int} {N : Nat} {K0 : Int → Int} {mm : Mem} (h : LwM S b d f pl i c N K0 mm) : LwM S b d' f pl i c N K0 (up mm 287 16 d') ∧ GL mm (up mm 287 16 d') := by
  obtain ⟨⟨g1, g2, g3⟩, h2, h3, h4⟩ := h
  have u : ∀ j, j ≠ 16 → up mm 287 16 d' 287 j = mm 287 j := fun j hj => up_idx hj
  refine ⟨⟨⟨⟨by rw [u 7 (by decide)]; exact g1.1, fun q a e => by rw [up_cell (by decide)]; exact g1.2 q a e⟩, by rw [u 12 (by decide), u 13 (by decide)]; exact g2, fun z => by unfold TokM; rw [u 8 (by decide), u 9 (by decide), u 10 (by decide), u 11 (by decide)]; exact g3 z⟩, by rw [u 17 (by decide), u 18 (by decide)]; exact h2, fun _ => up_same _ _ _ _, fun z => by rw [up_cell (by decide)]; exact h4 z⟩, fr_up (by simp) fr_refl, fun j _ hj => u j hj⟩
theorem m_goesIn {S : Stm} {b : Bool} {d pl : Int} {i : Nat} {c : Int → Int} {N : Nat} {K0 : Int → Int} {mm : Mem} (hS : StmV S) (hi : i < S.cnt) (d0 : 0 ≤ d) (d6 : d < 6) (h : LwM S b d 0 pl i c N K0 mm) : Ok (fX12_goesIn mm) (fun mm' => LwM S b (d + 1) 0 pl (i + 1) c N K0 mm' ∧ GL mm mm') := by
  unfold fX12_goesIn
  simp only [rd_eq]
  simp only [wr_eq]
  simp only [jn_eq]
  rw [h.2.2.1 rfl, if_pos (show ¬ d = 6 by omega), w32_id (by omega) (by omega)]
  obtain ⟨k1, k2⟩ := lwM_deep (d' := d + 1) h
  rw [k1.1.2.1.1, if_neg (show ¬ ¬ (0 : Int) = 0 from fun z => z rfl)]
  refine ok_bV (lwM_adv hS hi k1) ?_
  rintro mm' ⟨j1, j2⟩
  exact ok_some ⟨j1, gl_trans k2 j2⟩
theorem m_goesInF {S : Stm} {b : Bool} {d pl f' pl' : Int} {i : Nat} {c : Int → Int} {N : Nat} {K0 : Int → Int} {mm : Mem} (h6 : d = 6) (hf' : f' ≠ 0) (h : LwM S b d 0 pl i c N K0 mm) (k4 : Ok (fX12_blames 4 mm) (fun mm' => MC S f' pl' i mm' ∧ G2 mm mm')) : Ok (fX12_goesIn mm) (fun mm' => LwM S b d f' pl' i c N K0 mm' ∧ GL mm mm') := by
  unfold fX12_goesIn
  simp only [rd_eq]
  simp only [wr_eq]
  simp only [jn_eq]
  rw [h.2.2.1 rfl, if_neg (show ¬ ¬ d = 6 from fun z => z h6)]
  refine ok_bV k4 ?_
  rintro mm' ⟨j1, j2⟩
  have hM : LwM S b d f' pl' i c N K0 mm' := lwM_g2 h j2 j1 (fun z => absurd z hf')
  obtain ⟨k1, k2⟩ := lwM_deep (d' := w32 (mm' 287 16 + 1)) hM
  rw [k1.1.2.1.1, if_pos hf']
  exact ok_some ⟨⟨k1.1, k1.2.1, fun z => absurd z hf', fun z => absurd z hf'⟩, gl_trans (gl_g2 j2) k2⟩
theorem L_atom {S : Stm} {b : Bool} {d : Int} {rcC : Nat → Int → Mem → Option Mem} {rcM : Nat → Mem → Option Mem} (hS : StmV S) (d0 : 0 ≤ d) (d6 : d ≤ 6)
    (hrc : d < 6 → ∀ (f pl : Int) (i : Nat) (c : Int → Int) (N : Nat) (T0 : List Bool) (mc : Mem), LwC S b f pl i c N mc → PreL b f i c N T0 (5 * (d + 1) + 3) → LkL S b (d + 1) f pl i c N (rcC 0 (d + 1) mc) mc (rcM 0) (PhQ b i c N T0 false))
    (hrf : ∀ (f pl : Int) (i : Nat) (mm : Mem), f ≠ 0 → MC S f pl i mm → rcM 0 mm = some mm)
    {f pl : Int} {i : Nat} {c : Int → Int} {N : Nat} {T0 : List Bool} {mc : Mem} (h : LwC S b f pl i c N mc) (hpre : PreL b f i c N T0 (5 * d + 5)) :
    LkL S b d f pl i c N (fX6_readAtom_F rcC d mc) mc (fX12_readAtom_F rcM) (PhQ b i c N T0 false) := by
  have oc := oL_cases b
  have lh := lohi b
  have nw := nwL_rg b
  unfold LkL fX6_readAtom_F
  rw [c_token hS h.1, bR_some]
  simp only [rd_eq]
  simp only [rdn_eq]
  simp only [wr_eq]
  simp only [jn_eq]
  rw [h.2.1, Int.toNat_natCast, chk_of (layO b), c_knows h, bR_some, chk_of (layO b)]
  by_cases hf : f = 0
  · subst hf
    obtain ⟨e5, ei, _⟩ := h.1.2.2 rfl
    have c9 := st_cnt hS
    obtain ⟨n2, hl, hT⟩ := hpre rfl
    rw [if_pos rfl]
    -- one code for one token
    have one : ∀ op : Int, S.kd i ≠ 0 → tyS (nwL b) op T0 = some (false :: T0) → ∀ xx, xx = trO (fnL b) op → (∀ K0 mm, LwM S b d 0 pl i c N K0 mm → Ok (fX12_readAtom_F rcM mm) (fun mm' => LwM S b d 0 pl (i + 1) (ku c (N : Int) op) (N + 1) K0 mm' ∧ GL mm mm')) →
        Ok (bV (fX4_put (oL b) xx mc) fun mm => some (up mm 2 5 (w32 (mm 2 5 + 1)))) (fun mc' => ∃ f' pl' i' c' N', LwC S b f' pl' i' c' N' mc' ∧ FLw b mc mc' ∧ (f' = 0 → (0 : Int) = 0 ∧ PhQ b i c N T0 false i' c' N') ∧ ∀ K0 mm, LwM S b d 0 pl i c N K0 mm → Ok (fX12_readAtom_F rcM mm) (fun mm' => LwM S b d f' pl' i' c' N' K0 mm' ∧ GL mm mm')) := by
      intro op hk hty xx hxx hmodel
      refine ok_bV (c_putC h (by omega) hxx) ?_
      rintro m4 ⟨j1, j2⟩
      obtain ⟨a1, a2, a3, a4⟩ := lwC_adv hS j1 hk
      rw [a2, w32_id (by omega) (by omega)]
      refine ok_some ⟨0, pl, i + 1, ku c (N : Int) op, N + 1, a3, fl_trans j2 a4, fun _ => ⟨rfl, by omega, by omega, by omega, fun j hj => ku_ne (by omega), law_put hl hty (by simp; omega)⟩, hmodel⟩
    by_cases q40 : S.kd i = 40
    · rw [if_neg (show ¬ ¬ S.kd i = 40 from fun z => z q40)]
      have nolaw : ¬ (loL b ≤ S.kd i ∧ S.kd i ≤ hiL b) := by omega
      unfold fX6_opens
      simp only [rd_eq]
      simp only [wr_eq]
      by_cases hd : d < 6
      · obtain ⟨a1, a2, a3, a4⟩ := lwC_adv hS h (by omega)
        rw [if_pos hd, e5, w32_id (x := (i : Int) + 1) (by omega) (by omega), bW_some, if_neg (by decide), w32_id (x := d + 1) (by omega) (by omega)]
        refine ok_bV (hrc hd 0 pl (i + 1) c N T0 _ a3 (fun _ => ⟨by omega, hl, by omega⟩)) ?_
        rintro m2 ⟨f2, pl2, i2, c2, N2, p1, p2, p3, p4⟩
        refine ok_bV (l_take (d := d + 1) (s := 41) hS (by unfold SgnB; omega) p1) ?_
        rintro m3 ⟨f3, pl3, i3, c3, N3, r1, r2, r3, r4⟩
        refine ok_some ⟨f3, pl3, i3, c3, N3, r1, fl_trans a4 (fl_trans p2 r2), fun z => ?_, fun K0 mm hM => ?_⟩
        · obtain ⟨z2, e1, e2, e3⟩ := r3 z
          obtain ⟨_, u1, u2, u3, u4, u5⟩ := p3 z2
          subst e1; subst e2; subst e3
          exact ⟨trivial, by omega, u2, by omega, u4, u5⟩
        · unfold fX12_readAtom_F
          simp only [rd_eq]
          simp only [wr_eq]
          simp only [jn_eq]
          rw [hM.1.2.1.1, if_pos rfl]
          refine ok_bW (m_lawWord hS ei hM) ?_
          rintro x mm1 ⟨_, j2, _⟩
          simp only at j2
          obtain ⟨rfl, rfl⟩ := j2 nolaw
          rw [if_pos rfl, m_isSign hS (fun _ => ei) (by unfold SgnB; omega) hM.1, if_pos ⟨rfl, q40⟩, bR_some, if_neg (by decide)]
          refine ok_bV (m_goesIn hS a1 d0 hd hM) ?_
          rintro mm2 ⟨w1, w2⟩
          refine ok_bV (p4 K0 mm2 w1) ?_
          rintro mm3 ⟨w3, w4⟩
          refine ok_bV (r4 K0 mm3 w3) ?_
          rintro mm4 ⟨w5, w6⟩
          obtain ⟨k1, k2⟩ := lwM_deep (d' := w32 (mm4 287 16 - 1)) w5
          refine ok_some ⟨⟨k1.1, k1.2.1, fun z => ?_, k1.2.2.2⟩, gl_trans w2 (gl_trans w4 (gl_trans w6 k2))⟩
          rw [k1.2.2.1 z, w5.2.2.1 z, w32_id (by omega) (by omega)]; omega
      · rw [if_neg hd]
        refine ok_bW (P := fun r => r.1 = 0 ∧ ∃ f' pl', f' ≠ 0 ∧ CC S f' pl' i r.2 ∧ F2 mc r.2 ∧ ∀ mm, MC S 0 pl i mm → Ok (fX12_blames 4 mm) (fun mm' => MC S f' pl' i mm' ∧ G2 mm mm')) (ok_bV (c_refuse hS (by decide) h.1) (fun m' hh => ok_some ⟨rfl, hh⟩)) ?_
        rintro x m2 ⟨e0, f', pl', k1, k2, k3, k4⟩
        simp only at e0 k2 k3 k4
        rw [e0, if_pos rfl]
        refine ok_some ⟨f', pl', i, c, N, lwC_f2 h k3 k2 (fun z => absurd z k1), fl_f2 k3, fun z => absurd z k1, fun K0 mm hM => ?_⟩
        unfold fX12_readAtom_F
        simp only [rd_eq]
        simp only [wr_eq]
        simp only [jn_eq]
        rw [hM.1.2.1.1, if_pos rfl]
        refine ok_bW (m_lawWord hS ei hM) ?_
        rintro x mm1 ⟨_, j2, _⟩
        simp only at j2
        obtain ⟨rfl, rfl⟩ := j2 nolaw
        rw [if_pos rfl, m_isSign hS (fun _ => ei) (by unfold SgnB; omega) hM.1, if_pos ⟨rfl, q40⟩, bR_some, if_neg (by decide)]
        refine ok_bV (m_goesInF (by omega) k1 hM (k4 mm1 hM.1)) ?_
        rintro mm2 ⟨w1, w2⟩
        rw [hrf f' pl' i mm2 k1 w1.1, bV_some, m_mustSignF k1 w1.1, bV_some]
        obtain ⟨g1, g2⟩ := lwM_deep (d' := w32 (mm2 287 16 - 1)) w1
        exact ok_some ⟨⟨g1.1, g1.2.1, fun z => absurd z k1, fun z => absurd z k1⟩, gl_trans w2 g2⟩
    · rw [if_pos q40]
      by_cases q1 : S.kd i = 1
      · have nolaw : ¬ (loL b ≤ S.kd i ∧ S.kd i ≤ hiL b) := by omega
        obtain ⟨hc, _, _, _⟩ := lwC_adv hS h (by omega)
        have vr := (tok_kd ((st_end hS ei).2 hc)).2 q1
        rw [if_neg (show ¬ ¬ S.kd i = 1 from fun z => z q1), chk_of (layO b), e5, chk_of (by omega), (h.1.1 i ei).2.1, w32_id (x := 1000 + S.vl i) (by omega) (by omega)]
        refine one (1000 + S.vl i) (by omega) (ty_num vr.1 vr.2) _ (by unfold trO; rw [if_pos (by omega)]) (fun K0 mm hM => ?_)
        unfold fX12_readAtom_F
        simp only [rd_eq]
        simp only [wr_eq]
        simp only [jn_eq]
        rw [hM.1.2.1.1, if_pos rfl]
        refine ok_bW (m_lawWord hS ei hM) ?_
        rintro x mm1 ⟨_, j2, _⟩
        simp only at j2
        obtain ⟨rfl, rfl⟩ := j2 nolaw
        rw [if_pos rfl, m_isSign hS (fun _ => ei) (by unfold SgnB; omega) hM.1, if_neg (fun z => q40 z.2), bR_some, if_pos rfl]
        refine ok_bW (m_numOk hS hc hM.1 q1 vr) ?_
        rintro v mm2 ⟨w1, w2, w3⟩
        simp only at w1 w2 w3
        rw [w3, w32_id (x := 1000 + S.vl i) (by omega) (by omega)]
        refine ok_bV (m_laysStep (by omega) (lwM_g2 hM w2 w1 (fun z => z))) ?_
        rintro mm3 ⟨w4, w5⟩
        exact ok_some ⟨w4, gl_trans (gl_g2 w2) w5⟩
      · rw [if_pos q1]
        by_cases hk : loL b ≤ S.kd i ∧ S.kd i ≤ hiL b
        · obtain ⟨hc, _, _, _⟩ := lwC_adv hS h (by omega)
          rw [if_pos hk, if_neg (by decide)]
          -- the model's number of the name
          obtain ⟨w, w0, w1, w2⟩ : ∃ w, 0 ≤ w ∧ w < nwL b ∧ fnL b w = S.kd i := by
            cases b
            · exact ⟨S.kd i - 128, by have : 128 ≤ S.kd i ∧ S.kd i ≤ 132 := hk; omega, by have : 128 ≤ S.kd i ∧ S.kd i ≤ 132 := hk; show S.kd i - 128 < 5; omega, by show 128 + (S.kd i - 128) = _; omega⟩
            · have hk' : 130 ≤ S.kd i ∧ S.kd i ≤ 135 := hk
              have fm : fM 0 = 133 ∧ fM 1 = 134 ∧ fM 2 = 135 ∧ fM 3 = 132 ∧ fM 4 = 130 ∧ fM 5 = 131 := by decide
              obtain ⟨f0, f1, f2, f3, f4, f5⟩ := fm
              have : S.kd i = 130 ∨ S.kd i = 131 ∨ S.kd i = 132 ∨ S.kd i = 133 ∨ S.kd i = 134 ∨ S.kd i = 135 := by omega
              rcases this with e | e | e | e | e | e
              · exact ⟨4, by decide, by decide, by rw [e]; exact f4⟩
              · exact ⟨5, by decide, by decide, by rw [e]; exact f5⟩
              · exact ⟨3, by decide, by decide, by rw [e]; exact f3⟩
              · exact ⟨0, by decide, by decide, by rw [e]; exact f0⟩
              · exact ⟨1, by decide, by decide, by rw [e]; exact f1⟩
              · exact ⟨2, by decide, by decide, by rw [e]; exact f2⟩
          refine one (100 + w) (by omega) (ty_nam w0 w1 nw.2) _ (by unfold trO; rw [if_neg (by omega), if_pos (by omega), show 100 + w - 100 = w by omega, w2]) (fun K0 mm hM => ?_)
          unfold fX12_readAtom_F
          simp only [rd_eq]
          simp only [wr_eq]
          simp only [jn_eq]
          rw [hM.1.2.1.1, if_pos rfl]
          refine ok_bW (m_lawWord hS ei hM) ?_
          rintro x mm1 ⟨j1, _, j3⟩
          simp only at j1 j3
          obtain ⟨⟨x0, x1, x2⟩, x3⟩ := j1 hk
          have exw : x = w := by
            rw [← w2] at x2
            cases b
            · have : 128 + x = 128 + w := x2
              omega
            · have x1' : x < 6 := x1
              have w1' : w < 6 := w1
              have x2' : fM x = fM w := x2
              unfold fM at x2'
              (repeat' split at x2')
              all_goals omega
          rw [if_neg (by omega), exw, w32_id (x := 100 + w) (by omega) (by omega)]
          refine ok_bV (m_laysStep (by omega) x3) ?_
          rintro mm3 ⟨w4, w5⟩
          exact ok_some ⟨w4, gl_trans j3 w5⟩
        · rw [if_neg hk, if_pos rfl]
          refine ok_bV (c_refuse hS (by decide) h.1) ?_
          rintro m2 ⟨f', pl', k1, k2, k3, k4⟩
          refine ok_some ⟨f', pl', i, c, N, lwC_f2 h k3 k2 (fun z => absurd z k1), fl_f2 k3, fun z => absurd z k1, fun K0 mm hM => ?_⟩
          unfold fX12_readAtom_F
          simp only [rd_eq]
          simp only [wr_eq]
          simp only [jn_eq]
          rw [hM.1.2.1.1, if_pos rfl]
          refine ok_bW (m_lawWord hS ei hM) ?_
          rintro x mm1 ⟨_, j2, _⟩
          simp only at j2
          obtain ⟨rfl, rfl⟩ := j2 hk
          rw [if_pos rfl, m_isSign hS (fun _ => ei) (by unfold SgnB; omega) hM.1, if_neg (fun z => q40 z.2), bR_some, if_pos rfl]
          refine ok_bW (m_numBad hS ei hM.1 q1 k1 (k4 mm1 hM.1)) ?_
          rintro v mm2 ⟨w1, w2⟩
          simp only at w1 w2
          have hM2 : LwM S b d f' pl' i c N K0 mm2 := lwM_g2 hM w2 w1 (fun z => absurd z k1)
          rw [m_laysStepF k1 hM2, bV_some]
          exact ok_some ⟨hM2, gl_g2 w2⟩
  · rw [if_neg hf, if_pos (by decide), if_pos (by decide), if_neg (show ¬ (loL b ≤ 0 ∧ 0 ≤ hiL b) by omega), if_pos rfl, c_refuseF hf h.1, bV_some]
    refine ok_some ⟨f, pl, i, c, N, h, fl_refl, fun z => absurd z hf, fun K0 mm hM => ?_⟩
    unfold fX12_readAtom_F
    simp only [rd_eq]
    rw [hM.1.2.1.1, if_neg hf]
    exact ok_some ⟨hM, gl_refl⟩

/-! ===== D84: rows of terms, of sums ===== -/
def LpQ (b : Bool) (i : Nat) (c : Int → Int) (N : Nat) (T1 : List Bool) : Nat → (Int → Int) → Nat → Prop := fun i' c' N' => i ≤ i' ∧ N ≤ N' ∧ N' + i ≤ N + i' ∧ (∀ j : Nat, j < N → c' j = c j) ∧ LawOk c' (nwL b) N' T1
theorem L_loop {S : Stm} {b : Bool} {d bd : Int} {F : (Int → Mem → Option Mem) → Int → Mem → Option Mem} {G : (Unit → Mem → Option Mem) → Unit → Mem → Option Mem} {subC subM : Mem → Option Mem} {P : Int → Prop} {op : Int → Int} {ty : Bool} (hS : StmV S) (bd60 : bd ≤ 58)
    (hP : ∀ k, P k → k ≠ 0 ∧ trO (fnL b) (op k) = k ∧ ∀ T, tyS (nwL b) (op k) (ty :: ty :: T) = some (ty :: T))
    (hF1 : ∀ (K : Int → Mem → Option Mem) (t : Int) (mm : Mem) (pl : Int) (i : Nat) (c : Int → Int) (N : Nat) (Q : Mem → Prop), LwC S b 0 pl i c N mm → P (S.kd i) → 0 ≤ t → t < 900 → Ok (bV (subC (up mm 2 5 ((i : Int) + 1))) fun m => rdn (m 2 8).toNat fun x => chk (layL[x]? = some (.inl 4)) (bV (fX4_put x (S.kd i) m) fun m => K (w32 (t + 1)) m)) Q → Ok (F K t mm) Q)
    (hF0 : ∀ (K : Int → Mem → Option Mem) (t : Int) (mm : Mem) (f pl : Int) (i : Nat) (c : Int → Int) (N : Nat), LwC S b f pl i c N mm → (f = 0 → ¬ P (S.kd i)) → F K t mm = some mm)
    (hG1 : ∀ (K : Unit → Mem → Option Mem) (mm : Mem) (pl : Int) (i : Nat) (c : Int → Int) (N : Nat) (K0 : Int → Int) (Q : Mem → Prop), i < S.cnt → LwM S b d 0 pl i c N K0 mm → P (S.kd i) → (∀ m1, LwM S b d 0 pl (i + 1) c N K0 m1 → GL mm m1 → Ok (bV (subM m1) fun m => bV (fX12_laysStep (op (S.kd i)) m) fun m => K () m) Q) → Ok (G K () mm) Q)
    (hG0 : ∀ (K : Unit → Mem → Option Mem) (mm : Mem) (f pl : Int) (i : Nat) (c : Int → Int) (N : Nat) (K0 : Int → Int), (f = 0 → i ≤ S.cnt) → LwM S b d f pl i c N K0 mm → (f = 0 → ¬ P (S.kd i)) → G K () mm = some mm)
    (hsub : ∀ (f pl : Int) (i : Nat) (c : Int → Int) (N : Nat) (T0 : List Bool) (mc : Mem), LwC S b f pl i c N mc → PreL b f i c N T0 bd → LkL S b d f pl i c N (subC mc) mc subM (PhQ b i c N T0 ty)) :
    ∀ (M Nc Nm : Nat), M < Nc → M < Nm → ∀ (t f pl : Int) (i : Nat) (c : Int → Int) (N : Nat) (T0 : List Bool) (mc : Mem), LwC S b f pl i c N mc → (f = 0 → S.cnt - i ≤ M) → 0 ≤ t → (f = 0 → t ≤ i) → PreL b f i c N (ty :: T0) bd →
      LkL S b d f pl i c N (lp Nc F t mc) mc (fun mm => lp Nm G () mm) (LpQ b i c N (ty :: T0)) := by
  intro M
  induction M with
  | zero =>
    intro Nc Nm h1 h2 t f pl i c N T0 mc h hM t0 ti hpre
    obtain ⟨nc, rfl⟩ : ∃ nc, Nc = nc + 1 := ⟨Nc - 1, by omega⟩
    obtain ⟨nm, rfl⟩ : ∃ nm, Nm = nm + 1 := ⟨Nm - 1, by omega⟩
    have np : f = 0 → ¬ P (S.kd i) := fun hf z => by
      have ei := (h.1.2.2 hf).2.1
      have := hM hf
      exact (hP _ z).1 ((st_end hS ei).1.mpr (by omega))
    show Ok (F (lp nc F) t mc) _
    rw [hF0 _ t mc f pl i c N h np]
    refine ok_some ⟨f, pl, i, c, N, h, fl_refl, fun z => ⟨z, Nat.le_refl _, Nat.le_refl _, Nat.le_refl _, fun _ _ => rfl, (hpre z).2.1⟩, fun K0 mm hMm => ?_⟩
    show Ok (G (lp nm G) () mm) _
    rw [hG0 _ mm f pl i c N K0 (fun z => (h.1.2.2 z).2.1) hMm np]
    exact ok_some ⟨hMm, gl_refl⟩
  | succ M ih =>
    intro Nc Nm h1 h2 t f pl i c N T0 mc h hM t0 ti hpre
    obtain ⟨nc, rfl⟩ : ∃ nc, Nc = nc + 1 := ⟨Nc - 1, by omega⟩
    obtain ⟨nm, rfl⟩ : ∃ nm, Nm = nm + 1 := ⟨Nm - 1, by omega⟩
    by_cases hp : f = 0 ∧ P (S.kd i)
    · obtain ⟨rfl, hp⟩ := hp
      obtain ⟨p1, p2, p3⟩ := hP _ hp
      obtain ⟨hc, e5, a3, a4⟩ := lwC_adv hS h p1
      obtain ⟨n2, hl, hT⟩ := hpre rfl
      have c9 := st_cnt hS
      have ti' := ti rfl
      have hM' := hM rfl
      show Ok (F (lp nc F) t mc) _
      refine hF1 _ t mc pl i c N _ h hp t0 (by omega) ?_
      refine ok_bV (hsub 0 pl (i + 1) c N (ty :: T0) _ a3 (fun _ => ⟨by omega, hl, hT⟩)) ?_
      rintro m2 ⟨f2, pl2, i2, c2, N2, b1, b2, b3, b4⟩
      rw [rdn_eq, b1.2.1, Int.toNat_natCast, chk_of (layO b), w32_id (x := t + 1) (by omega) (by omega)]
      have hN9 : f2 = 0 → N2 < 900 := fun z => by
        have q := (b3 z).2
        have := (b1.1.2.2 z).2.1
        have := q.2.2.1
        omega
      refine ok_bV (c_putL (d := d) (op := op (S.kd i)) b1 hN9 (fun _ => p2.symm)) ?_
      rintro m3 ⟨f3, pl3, i3, c3, N3, d1, d2, d3, d4⟩
      have pre3 : PreL b f3 i3 c3 N3 (ty :: T0) bd := fun z => by
        obtain ⟨z2, e1, e2, e3⟩ := d3 z
        obtain ⟨_, q1, q2, q3, q4, q5⟩ := b3 z2
        rw [e1, e2, e3]
        refine ⟨by omega, law_put q5 (p3 T0) (by simp only [List.length_cons] at hT ⊢; omega), hT⟩
      refine ok_imp (ih nc nm (by omega) (by omega) (t + 1) f3 pl3 i3 c3 N3 T0 m3 d1 (fun z => ?_) (by omega) (fun z => ?_) pre3) ?_
      · obtain ⟨z2, e1, _⟩ := d3 z
        have := (b3 z2).2.1
        omega
      · obtain ⟨z2, e1, _⟩ := d3 z
        have := (b3 z2).2.1
        omega
      rintro mc' ⟨f4, pl4, i4, c4, N4, k1, k2, k3, k4⟩
      refine ⟨f4, pl4, i4, c4, N4, k1, fl_trans a4 (fl_trans b2 (fl_trans d2 k2)), fun z => ?_, fun K0 mm hMm => ?_⟩
      · obtain ⟨z3, r1, r2, r3, r4, r5⟩ := k3 z
        obtain ⟨z2, e1, e2, e3⟩ := d3 z3
        obtain ⟨_, q1, q2, q3, q4, q5⟩ := b3 z2
        subst e1; subst e2; subst e3
        refine ⟨rfl, by omega, by omega, by omega, fun j hj => ?_, r5⟩
        rw [r4 j (by omega), ku_ne (by omega)]; exact q4 j (by omega)
      · show Ok (G (lp nm G) () mm) _
        refine hG1 _ mm pl i c N K0 _ hc hMm hp (fun m1 g1 g2 => ?_)
        refine ok_bV (b4 K0 m1 g1) ?_
        rintro m2' ⟨g3, g4⟩
        refine ok_bV (d4 K0 m2' g3) ?_
        rintro m3' ⟨g5, g6⟩
        refine ok_imp (k4 K0 m3' g5) ?_
        rintro m4' ⟨g7, g8⟩
        exact ⟨g7, gl_trans g2 (gl_trans g4 (gl_trans g6 g8))⟩
    · have np : f = 0 → ¬ P (S.kd i) := fun hf z => hp ⟨hf, z⟩
      show Ok (F (lp nc F) t mc) _
      rw [hF0 _ t mc f pl i c N h np]
      refine ok_some ⟨f, pl, i, c, N, h, fl_refl, fun z => ⟨z, Nat.le_refl _, Nat.le_refl _, Nat.le_refl _, fun _ _ => rfl, (hpre z).2.1⟩, fun K0 mm hMm => ?_⟩
      show Ok (G (lp nm G) () mm) _
      rw [hG0 _ mm f pl i c N K0 (fun z => (h.1.2.2 z).2.1) hMm np]
      exact ok_some ⟨hMm, gl_refl⟩
/-- a first part, then a row of more -/
theorem L_row {S : Stm} {b : Bool} {d bd : Int} {ty : Bool} {subC subM : Mem → Option Mem} {F : (Int → Mem → Option Mem) → Int → Mem → Option Mem} {G : (Unit → Mem → Option Mem) → Unit → Mem → Option Mem} (hS : StmV S)
    (hsub : ∀ (f pl : Int) (i : Nat) (c : Int → Int) (N : Nat) (T0 : List Bool) (mc : Mem), LwC S b f pl i c N mc → PreL b f i c N T0 bd → LkL S b d f pl i c N (subC mc) mc subM (PhQ b i c N T0 ty))
    (hloop : ∀ (M Nc Nm : Nat), M < Nc → M < Nm → ∀ (t f pl : Int) (i : Nat) (c : Int → Int) (N : Nat) (T0 : List Bool) (mc : Mem), LwC S b f pl i c N mc → (f = 0 → S.cnt - i ≤ M) → 0 ≤ t → (f = 0 → t ≤ i) → PreL b f i c N (ty :: T0) bd → LkL S b d f pl i c N (lp Nc F t mc) mc (fun mm => lp Nm G () mm) (LpQ b i c N (ty :: T0)))
    {f pl : Int} {i : Nat} {c : Int → Int} {N : Nat} {T0 : List Bool} {mc : Mem} (h : LwC S b f pl i c N mc) (hpre : PreL b f i c N T0 (bd - 1)) :
    LkL S b d f pl i c N (bV (subC mc) fun mm => lp BIG F 0 mm) mc (fun mm => bV (subM mm) fun mm => lp BIG G () mm) (PhQ b i c N T0 ty) := by
  have big : 900 < BIG := Nat.lt_of_lt_of_le (by decide) BIG_ge
  have c9 := st_cnt hS
  refine ok_bV (hsub f pl i c N T0 mc h (fun z => ⟨(hpre z).1, (hpre z).2.1, by have := (hpre z).2.2; omega⟩)) ?_
  rintro m2 ⟨f2, pl2, i2, c2, N2, b1, b2, b3, b4⟩
  refine ok_imp (hloop 900 BIG BIG big big 0 f2 pl2 i2 c2 N2 T0 m2 b1 (fun _ => by omega) (Int.le_refl _) (fun _ => by omega) (fun z => ?_)) ?_
  · obtain ⟨z2, q1, q2, q3, q4, q5⟩ := b3 z
    obtain ⟨p1, p2, p3⟩ := hpre z2
    exact ⟨by omega, q5, by simp only [List.length_cons]; omega⟩
  rintro mc' ⟨f4, pl4, i4, c4, N4, k1, k2, k3, k4⟩
  refine ⟨f4, pl4, i4, c4, N4, k1, fl_trans b2 k2, fun z => ?_, fun K0 mm hMm => ?_⟩
  · obtain ⟨z2, r1, r2, r3, r4, r5⟩ := k3 z
    obtain ⟨z1, q1, q2, q3, q4, q5⟩ := b3 z2
    exact ⟨z1, by omega, by omega, by omega, fun j hj => (r4 j (by omega)).trans (q4 j hj), r5⟩
  · refine ok_bV (b4 K0 mm hMm) ?_
    rintro m2' ⟨g3, g4⟩
    refine ok_imp (k4 K0 m2' g3) ?_
    rintro m4' ⟨g7, g8⟩
    exact ⟨g7, gl_trans g4 g8⟩
theorem trO_ops {b : Bool} : trO (fnL b) 12 = 42 ∧ trO (fnL b) 10 = 43 ∧ trO (fnL b) 11 = 45 ∧ trO (fnL b) 16 = 140 ∧ trO (fnL b) 17 = 144 ∧ trO (fnL b) 13 = 61 ∧ trO (fnL b) 14 = 60 ∧ trO (fnL b) 15 = 62 ∧ trO (fnL b) 18 = 145 := by
  unfold trO
  simp
theorem lwM_sign {S : Stm} {b : Bool} {d pl s : Int} {i : Nat} {c : Int → Int} {N : Nat} {K0 : Int → Int} {mm : Mem} (hS : StmV S) (hi : i ≤ S.cnt) (h : LwM S b d 0 pl i c N K0 mm) (hs : SgnB s) (hk : S.kd i = s) : mm 287 10 = s := by
  rw [(h.1.2.2 rfl).2.2.1]
  exact (mtok_sgn hS hi hs).mpr hk
theorem L_term {S : Stm} {b : Bool} {d : Int} {rcC : Nat → Int → Mem → Option Mem} {rcM : Nat → Mem → Option Mem} (hS : StmV S) (d6 : d ≤ 6)
    (hsub : ∀ (f pl : Int) (i : Nat) (c : Int → Int) (N : Nat) (T0 : List Bool) (mc : Mem), LwC S b f pl i c N mc → PreL b f i c N T0 (5 * d + 5) → LkL S b d f pl i c N (rcC 2 d mc) mc (rcM 2) (PhQ b i c N T0 false))
    {f pl : Int} {i : Nat} {c : Int → Int} {N : Nat} {T0 : List Bool} {mc : Mem} (h : LwC S b f pl i c N mc) (hpre : PreL b f i c N T0 (5 * d + 4)) :
    LkL S b d f pl i c N (fX6_readTerm_F rcC d mc) mc (fX12_readTerm_F rcM) (PhQ b i c N T0 false) := by
  have tr := trO_ops (b := b)
  refine L_row (bd := 5 * d + 5) (subC := rcC 2 d) (subM := rcM 2) hS hsub (L_loop (bd := 5 * d + 5) (subC := rcC 2 d) (subM := rcM 2) (P := fun k => k = 42) (op := fun _ => 12) hS (by omega) (fun k hk => ⟨by omega, by rw [hk]; exact tr.1, fun T => ty_ar (by omega)⟩) ?_ ?_ ?_ ?_ hsub) h (fun z => ⟨(hpre z).1, (hpre z).2.1, by have := (hpre z).2.2; omega⟩)
  · intro K t mm pl i c N Q hh hk t0 t9 hQ
    obtain ⟨hc, e5, _, _⟩ := lwC_adv hS hh (by omega)
    have c9 := st_cnt hS
    simp only [jn_eq]
    simp only [rd_eq]
    simp only [wr_eq]
    rw [if_neg (by omega), c_token hS hh.1, bR_some, if_pos rfl, if_neg (fun z => z hk), e5, w32_id (x := (i : Int) + 1) (by omega) (by omega)]
    rw [hk] at hQ
    exact hQ
  · intro K t mm f pl i c N hh hk
    simp only [jn_eq]
    by_cases t9 : 900 ≤ t
    · rw [if_pos t9]
    · rw [if_neg t9, c_token hS hh.1, bR_some]
      by_cases hf : f = 0
      · rw [if_pos hf, if_pos (hk hf)]
      · rw [if_neg hf, if_pos (by decide)]
  · intro K mm pl i c N K0 Q hc hh hk hQ
    rw [m_isSign hS (fun _ => by omega) (by unfold SgnB; omega) hh.1, if_pos ⟨rfl, hk⟩, bR_some, if_neg (by decide)]
    refine ok_bV (lwM_adv hS hc hh) ?_
    rintro m1 ⟨g1, g2⟩
    exact hQ m1 g1 g2
  · intro K mm f pl i c N K0 hi hh hk
    rw [m_isSign hS hi (by unfold SgnB; omega) hh.1, if_neg (fun z => hk z.1 z.2), bR_some, if_pos rfl]
theorem L_sum {S : Stm} {b : Bool} {d : Int} {rcC : Nat → Int → Mem → Option Mem} {rcM : Nat → Mem → Option Mem} (hS : StmV S) (d6 : d ≤ 6)
    (hsub : ∀ (f pl : Int) (i : Nat) (c : Int → Int) (N : Nat) (T0 : List Bool) (mc : Mem), LwC S b f pl i c N mc → PreL b f i c N T0 (5 * d + 4) → LkL S b d f pl i c N (rcC 1 d mc) mc (rcM 1) (PhQ b i c N T0 false))
    {f pl : Int} {i : Nat} {c : Int → Int} {N : Nat} {T0 : List Bool} {mc : Mem} (h : LwC S b f pl i c N mc) (hpre : PreL b f i c N T0 (5 * d + 3)) :
    LkL S b d f pl i c N (fX6_readSum_F rcC d mc) mc (fX12_readSum_F rcM) (PhQ b i c N T0 false) := by
  have tr := trO_ops (b := b)
  refine L_row (bd := 5 * d + 4) (subC := rcC 1 d) (subM := rcM 1) hS hsub (L_loop (bd := 5 * d + 4) (subC := rcC 1 d) (subM := rcM 1) (P := fun k => k = 43 ∨ k = 45) (op := fun k => if k = 43 then 10 else 11) hS (by omega) (fun k hk => ⟨by omega, ?_, fun T => ty_ar (by split <;> simp)⟩) ?_ ?_ ?_ ?_ hsub) h (fun z => ⟨(hpre z).1, (hpre z).2.1, by have := (hpre z).2.2; omega⟩)
  · rcases hk with e | e
    · rw [e, if_pos rfl]; exact tr.2.1
    · rw [e, if_neg (by decide)]; exact tr.2.2.1
  · intro K t mm pl i c N Q hh hk t0 t9 hQ
    obtain ⟨hc, e5, _, _⟩ := lwC_adv hS hh (by omega)
    have c9 := st_cnt hS
    simp only [jn_eq]
    simp only [rd_eq]
    simp only [wr_eq]
    rw [if_neg (by omega), c_token hS hh.1, bR_some, if_pos rfl, bR_some, e5, w32_id (x := (i : Int) + 1) (by omega) (by omega)]
    by_cases q : S.kd i = 43
    · rw [if_pos q]; exact hQ
    · rw [if_neg q, bR_some, if_neg (show ¬ ¬ S.kd i = 45 from fun z => z (by omega))]; exact hQ
  · intro K t mm f pl i c N hh hk
    simp only [jn_eq]
    by_cases t9 : 900 ≤ t
    · rw [if_pos t9]
    · rw [if_neg t9, c_token hS hh.1, bR_some]
      by_cases hf : f = 0
      · have hk' := hk hf
        rw [if_pos hf, if_neg (fun z => hk' (.inl z)), bR_some, if_pos (fun z => hk' (.inr z))]
      · rw [if_neg hf, if_neg (by decide), bR_some, if_pos (by decide)]
  · intro K mm pl i c N K0 Q hc hh hk hQ
    simp only [jn_eq]
    simp only [rd_eq]
    rw [m_isSign hS (fun _ => by omega) (by unfold SgnB; omega) hh.1, m_isSign hS (fun _ => by omega) (by unfold SgnB; omega) hh.1, bR_some, bR_some]
    have go : Ok (bV (fX12_readsOn mm) fun mm_1 => bV (rcM 1 mm_1) fun mm_2 => (if ¬ mm 287 10 = 43 then bV (fX12_laysStep 11 mm_2) fun mm => K () mm else bV (fX12_laysStep 10 mm_2) fun mm => K () mm)) Q := by
      refine ok_bV (lwM_adv hS hc hh) ?_
      rintro m1 ⟨g1, g2⟩
      have := hQ m1 g1 g2
      by_cases q : S.kd i = 43
      · rw [if_pos q] at this
        have e := lwM_sign (s := 43) hS (by omega) hh (by unfold SgnB; omega) q
        simp only [e, not_true_eq_false, if_false]
        exact this
      · rw [if_neg q] at this
        have e := lwM_sign (s := 45) hS (by omega) hh (by unfold SgnB; omega) (by omega)
        simp only [e, show ¬ (45 : Int) = 43 by decide, not_false_eq_true, if_true]
        exact this
    by_cases q : S.kd i = 43
    · have e1 : (if (0 : Int) = 0 ∧ S.kd i = 43 then (1 : Int) else 0) = 1 := if_pos ⟨rfl, q⟩
      rw [e1, if_pos (by decide)]; exact go
    · have e1 : (if (0 : Int) = 0 ∧ S.kd i = 43 then (1 : Int) else 0) = 0 := if_neg (fun z => q z.2)
      have e2 : (if (0 : Int) = 0 ∧ S.kd i = 45 then (1 : Int) else 0) = 1 := if_pos ⟨rfl, by omega⟩
      rw [e1, e2, if_neg (show ¬ ¬ (0 : Int) = 0 from fun z => z rfl), if_neg (by decide)]; exact go
  · intro K mm f pl i c N K0 hi hh hk
    simp only [jn_eq]
    have e1 : (if f = 0 ∧ S.kd i = 43 then (1 : Int) else 0) = 0 := if_neg (fun z => hk z.1 (.inl z.2))
    have e2 : (if f = 0 ∧ S.kd i = 45 then (1 : Int) else 0) = 0 := if_neg (fun z => hk z.1 (.inr z.2))
    rw [m_isSign hS hi (by unfold SgnB; omega) hh.1, m_isSign hS hi (by unfold SgnB; omega) hh.1, bR_some, bR_some, e1, e2, if_neg (show ¬ ¬ (0 : Int) = 0 from fun z => z rfl), if_pos rfl]

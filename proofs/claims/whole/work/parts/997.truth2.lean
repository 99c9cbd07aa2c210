/-! ===== D86: truths ===== -/
theorem tk0F {S : Stm} {f pl : Int} {i j : Nat} {mm : Mem} (hS : StmV S) (hi : f = 0 → i ≤ S.cnt) (hj : j < 18) (h : MC S f pl i mm) (ne : ¬ (f = 0 ∧ S.kd i = 128 + (j : Int))) : fX12_took (wid j) mm = some (0, mm) := by
  unfold fX12_took
  rw [m_isWord hS hi hj h, if_neg ne, bR_some]
  simp only [jn_eq]
  rfl
theorem L_wordRow {S : Stm} {b : Bool} {d bd kw : Int} {jw : Nat} {subC subM : Mem → Option Mem} (hS : StmV S) (hj : jw < 18) (hkw : kw = 128 + (jw : Int)) {opw : Int} (hop : trO (fnL b) opw = kw) (hty : opw = 16 ∨ opw = 17) (bd60 : bd ≤ 58)
    (hsub : ∀ (f pl : Int) (i : Nat) (c : Int → Int) (N : Nat) (T0 : List Bool) (mc : Mem), LwC S b f pl i c N mc → PreL b f i c N T0 bd → LkL S b d f pl i c N (subC mc) mc subM (PhQ b i c N T0 true))
    {f pl : Int} {i : Nat} {c : Int → Int} {N : Nat} {T0 : List Bool} {mc : Mem} (h : LwC S b f pl i c N mc) (hpre : PreL b f i c N T0 (bd - 1)) :
    LkL S b d f pl i c N (bV (subC mc) fun mm => lp BIG (fun K2 (t1 : Int) mm => (jn (fun (t3 : Unit) mm => some mm) fun J4 => (if 900 ≤ t1 then J4 () mm else bR (fX6_token mm) fun x5 => ( (if ¬ x5 = kw then J4 () mm else rd (mm 2 5) fun x6 => ( wr (up mm 2 5 (w32 (x6 + 1))) fun mm => ( bV (subC mm) fun mm => ( rdn (mm 2 8).toNat fun x7 => ( chk (layL[x7]? = some (.inl 4)) ( bV (fX4_put x7 kw mm) fun mm => ( K2 (w32 (t1 + 1)) mm))))))))))) 0 mm) mc
      (fun mm => bV (subM mm) fun mm => lp BIG (fun K2 (t1 : Unit) mm => bW (fX12_took (wid jw) mm) fun x3 mm => ( (if x3 = (0 : Int) then some mm else bV (subM mm) fun mm => ( bV (fX12_laysStep opw mm) fun mm => ( K2 () mm))))) () mm) (PhQ b i c N T0 true) := by
  refine L_row (bd := bd) hS hsub (L_loop (bd := bd) (subC := subC) (subM := subM) (P := fun k => k = kw) (op := fun _ => opw) hS bd60 (fun k hk => ⟨by omega, by rw [hk]; exact hop, fun T => ty_bool hty⟩) ?_ ?_ ?_ ?_ hsub) h hpre
  · intro K t mm pl i c N Q hh hk t0 t9 hQ
    have hk' : S.kd i = kw := hk
    obtain ⟨hc, e5, _, _⟩ := lwC_adv hS hh (by omega)
    have c9 := st_cnt hS
    simp only [jn_eq]
    simp only [rd_eq]
    simp only [wr_eq]
    rw [if_neg (by omega), c_token hS hh.1, bR_some, if_pos rfl, if_neg (fun z => z hk'), e5, w32_id (x := (i : Int) + 1) (by omega) (by omega)]
    rw [hk'] at hQ
    exact hQ
  · intro K t mm f pl i c N hh hk
    simp only [jn_eq]
    by_cases t9 : 900 ≤ t
    · rw [if_pos t9]
    · rw [if_neg t9, c_token hS hh.1, bR_some]
      by_cases hf : f = 0
      · rw [if_pos hf, if_pos (hk hf)]
      · rw [if_neg hf, if_pos (by omega)]
  · intro K mm pl i c N K0 Q hc hh hk hQ
    have hk' : S.kd i = kw := hk
    refine ok_bW (tk1 hS (by omega) hj hh.1 (by omega)) ?_
    rintro x m1 ⟨g1, g2, g3⟩
    simp only at g1 g2 g3
    rw [g1, if_neg (by decide)]
    exact hQ m1 (lwM_g2 hh g3 g2 (fun z => z)) (gl_g2 g3)
  · intro K mm f pl i c N K0 hi hh hk
    rw [tk0F hS hi hj hh.1 (fun z => hk z.1 (by show S.kd i = kw; omega)), bW_some, if_pos rfl]
theorem m_unitF {S : Stm} {f pl : Int} {i k : Nat} {mm : Mem} (hf : f ≠ 0) (h : MC S f pl i mm) : gX12_readTruth (k + 1) 2 mm = some mm := by
  show fX12_readUnit_F (gX12_readTruth k) mm = some mm
  unfold fX12_readUnit_F
  simp only [rd_eq]
  rw [h.2.1.1, if_neg hf]
theorem m_truthF {S : Stm} {f pl : Int} {i k : Nat} {mm : Mem} (hS : StmV S) (hf : f ≠ 0) (h : MC S f pl i mm) : gX12_readTruth (k + 3) 0 mm = some mm := by
  have hi : f = 0 → i ≤ S.cnt := fun z => absurd z hf
  have un : gX12_readTruth (k + 1) 2 mm = some mm := m_unitF hf h
  have bo : gX12_readTruth (k + 2) 1 mm = some mm := by
    show fX12_readBoth_F (gX12_readTruth (k + 1)) mm = some mm
    unfold fX12_readBoth_F
    rw [un, bV_some]
    obtain ⟨K, e⟩ := lp_1 (fun (K2 : Unit → Mem → Option Mem) (t1 : Unit) mm => bW (fX12_took 3 mm) fun x3 mm => ( (if x3 = (0 : Int) then some mm else bV (gX12_readTruth (k + 1) 2 mm) fun mm => ( bV (fX12_laysStep 16 mm) fun mm => ( K2 () mm))))) () mm
    have t := tk0F (j := 12) hS hi (by decide) h (fun z => hf z.1)
    rw [e, show fX12_took 3 mm = some (0, mm) from t, bW_some, if_pos rfl]
  show fX12_readTruth_F (gX12_readTruth (k + 2)) mm = some mm
  unfold fX12_readTruth_F
  rw [bo, bV_some]
  obtain ⟨K, e⟩ := lp_1 (fun (K2 : Unit → Mem → Option Mem) (t1 : Unit) mm => bW (fX12_took 2 mm) fun x3 mm => ( (if x3 = (0 : Int) then some mm else bV (gX12_readTruth (k + 2) 1 mm) fun mm => ( bV (fX12_laysStep 17 mm) fun mm => ( K2 () mm))))) () mm
  have t := tk0F (j := 16) hS hi (by decide) h (fun z => hf z.1)
  rw [e, show fX12_took 2 mm = some (0, mm) from t, bW_some, if_pos rfl]
theorem L_truthU {S : Stm} {b : Bool} {d : Int} {k m : Nat} (hS : StmV S) (d6 : d ≤ 6)
    (hU : ∀ (f pl : Int) (i : Nat) (c : Int → Int) (N : Nat) (T0 : List Bool) (mc : Mem), LwC S b f pl i c N mc → PreL b f i c N T0 (5 * d + 2) → LkL S b d f pl i c N (gX6_readTruth k 2 d mc) mc (gX12_readTruth m 2) (PhQ b i c N T0 true)) :
    ∀ (f pl : Int) (i : Nat) (c : Int → Int) (N : Nat) (T0 : List Bool) (mc : Mem), LwC S b f pl i c N mc → PreL b f i c N T0 (5 * d) → LkL S b d f pl i c N (gX6_readTruth (k + 2) 0 d mc) mc (gX12_readTruth (m + 2) 0) (PhQ b i c N T0 true) := by
  have tr := trO_ops (b := b)
  have both : ∀ (f pl : Int) (i : Nat) (c : Int → Int) (N : Nat) (T0 : List Bool) (mc : Mem), LwC S b f pl i c N mc → PreL b f i c N T0 (5 * d + 1) → LkL S b d f pl i c N (gX6_readTruth (k + 1) 1 d mc) mc (gX12_readTruth (m + 1) 1) (PhQ b i c N T0 true) := by
    intro f pl i c N T0 mc h hp
    exact L_wordRow (jw := 12) (kw := 140) (opw := 16) (bd := 5 * d + 2) (subC := gX6_readTruth k 2 d) (subM := gX12_readTruth m 2) hS (by decide) (by decide) tr.2.2.2.1 (.inl rfl) (by omega) hU h (fun z => ⟨(hp z).1, (hp z).2.1, by have := (hp z).2.2; omega⟩)
  intro f pl i c N T0 mc h hp
  exact L_wordRow (jw := 16) (kw := 144) (opw := 17) (bd := 5 * d + 1) (subC := gX6_readTruth (k + 1) 1 d) (subM := gX12_readTruth (m + 1) 1) hS (by decide) (by decide) tr.2.2.2.2.1 (.inr rfl) (by omega) both h (fun z => ⟨(hp z).1, (hp z).2.1, by have := (hp z).2.2; omega⟩)
theorem L_unitG {S : Stm} {b : Bool} (hS : StmV S) : ∀ (D fc fm : Nat) (d : Int), 3 * D + 1 ≤ fc → 3 * D + 4 ≤ fm → 0 ≤ d → d + (D : Int) = 6 → ∀ (f pl : Int) (i : Nat) (c : Int → Int) (N : Nat) (T0 : List Bool) (mc : Mem), LwC S b f pl i c N mc → PreL b f i c N T0 (5 * d + 2) → LkL S b d f pl i c N (gX6_readTruth fc 2 d mc) mc (gX12_readTruth fm 2) (PhQ b i c N T0 true) := by
  intro D
  induction D with
  | zero =>
    intro fc fm d h1 h2 d0 hd f pl i c N T0 mc h hp
    obtain ⟨k, rfl⟩ : ∃ k, fc = k + 1 := ⟨fc - 1, by omega⟩
    obtain ⟨m, rfl⟩ : ∃ m, fm = m + 4 := ⟨fm - 4, by omega⟩
    exact L_unit (rcC := gX6_readTruth k) (rcM := gX12_readTruth (m + 3)) hS d0 (by omega) (fun z => by omega) (fun z => by omega) (fun f pl i mm hf hM => m_truthF hS hf hM) (fun f pl i mm hf hM => m_unitF hf hM) h hp
  | succ D ih =>
    intro fc fm d h1 h2 d0 hd f pl i c N T0 mc h hp
    obtain ⟨k, rfl⟩ : ∃ k, fc = k + 3 := ⟨fc - 3, by omega⟩
    obtain ⟨m, rfl⟩ : ∃ m, fm = m + 4 := ⟨fm - 4, by omega⟩
    exact L_unit (rcC := gX6_readTruth (k + 2)) (rcM := gX12_readTruth (m + 3)) hS d0 (by omega) (fun _ => L_truthU (k := k) (m := m + 1) hS (by omega) (ih k (m + 1) (d + 1) (by omega) (by omega) (by omega) (by omega))) (fun _ => ih (k + 2) (m + 3) (d + 1) (by omega) (by omega) (by omega) (by omega)) (fun f pl i mm hf hM => m_truthF hS hf hM) (fun f pl i mm hf hM => m_unitF hf hM) h hp
theorem L_truth30 {S : Stm} {b : Bool} (hS : StmV S) : ∀ (f pl : Int) (i : Nat) (c : Int → Int) (N : Nat) (T0 : List Bool) (mc : Mem), LwC S b f pl i c N mc → PreL b f i c N T0 0 → LkL S b 0 f pl i c N (gX6_readTruth 30 0 0 mc) mc (gX12_readTruth 30 0) (PhQ b i c N T0 true) :=
  fun f pl i c N T0 mc h hp => L_truthU (k := 28) (m := 28) hS (by decide) (L_unitG hS 6 28 28 0 (by decide) (by decide) (by decide) (by decide)) f pl i c N T0 mc h (by simpa using hp)

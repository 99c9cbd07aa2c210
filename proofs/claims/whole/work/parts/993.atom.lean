/-! ===== D82: a law's atom ===== -/
theorem c_refuseF {S : Stm} {f pl k : Int} {i : Nat} {m : Mem} (hf : f ≠ 0) (h : CC S f pl i m) : fX6_refuse k m = some m := by
  unfold fX6_refuse
  simp only [rd_eq]
  simp only [jn_eq]
  rw [h.2.1.1, if_pos hf]
theorem m_blamesF {S : Stm} {f pl k : Int} {i : Nat} {mm : Mem} (hf : f ≠ 0) (h : MC S f pl i mm) : fX12_blames k mm = some mm := by
  unfold fX12_blames
  simp only [rd_eq]
  rw [h.2.1.1, if_neg hf]
theorem m_mustSignF {S : Stm} {f pl s : Int} {i : Nat} {mm : Mem} (hf : f ≠ 0) (h : MC S f pl i mm) : fX12_mustSign s mm = some mm := by
  unfold fX12_mustSign
  simp only [rd_eq]
  simp only [jn_eq]
  rw [m_blamesF hf h, bV_some, h.2.1.1, if_pos hf]
  split <;> rfl
theorem c_putC {S : Stm} {b : Bool} {pl op xx : Int} {i : Nat} {c : Int → Int} {N : Nat} {mc : Mem} (h : LwC S b 0 pl i c N mc) (hN : N < 900) (hx : xx = trO (fnL b) op) : Ok (fX4_put (oL b) xx mc) (fun m4 => LwC S b 0 pl i (ku c (N : Int) op) (N + 1) m4 ∧ FLw b mc m4) := by
  obtain ⟨hC, h2, ⟨s1, s2, s3, s4⟩, h4, h5⟩ := h
  refine ok_imp (c_putRaw (o := oL b) (xx := xx) s1 s2 s3) ?_
  rintro m4 ⟨p1, p2, p3, p4, p5, p6⟩
  obtain ⟨c1, c2⟩ := cc_fr (oL_cases b) p6 hC
  obtain ⟨q1, q2, q3, q4⟩ := h5 rfl
  have lt : mc (oL b) 1 < 900 := by rw [q1]; omega
  obtain ⟨r1, r2⟩ := p1 lt
  rw [q1] at r1 r2
  clear s1 s2
  refine ⟨⟨c1, by rw [c2]; exact h2, ⟨p3.1, p4.1, by rw [r1]; exact ⟨by clear p3 p4; omega, by clear p3 p4; omega⟩⟩, by rw [p5.1, p5.2.1]; exact h4, fun _ => ⟨by rw [r1]; rfl, fun j j0 j1 => ?_, fun z j j0 j1 => ?_, fun z j j0 j1 => ?_⟩⟩, fr_mono p6 (fun q hq => List.mem_cons_of_mem _ hq), fun j _ _ _ => by rw [c2], p5.2.2⟩
  · rw [r2]
    by_cases e : j = (N : Int)
    · rw [if_pos e, e, ku_at, hx]
    · rw [if_neg e, ku_ne e]; exact q2 j j0 (by clear p3 p4; omega)
  · have zz := p3.2 z
    by_cases e : j = (N : Int)
    · rw [e, ku_at, ← hx]; exact zz.2
    · rw [ku_ne e]; exact q3 zz.1 j j0 (by clear p3 p4; omega)
  · have zz := p4.2 z
    by_cases e : j = (N : Int)
    · rw [e, ku_at, ← hx]; exact zz.2
    · rw [ku_ne e]; exact q4 zz.1 j j0 (by clear p3 p4; omega)
theorem lwC_adv {S : Stm} {b : Bool} {pl : Int} {i : Nat} {c : Int → Int} {N : Nat} {mc : Mem} (hS : StmV S) (h : LwC S b 0 pl i c N mc) (hk : S.kd i ≠ 0) : i < S.cnt ∧ mc 2 5 = (i : Int) ∧ LwC S b 0 pl (i + 1) c N (up mc 2 5 ((i : Int) + 1)) ∧ FLw b mc (up mc 2 5 ((i : Int) + 1)) := by
  obtain ⟨a1, a2, a3, a4⟩ := c_adv hS h.1 hk
  exact ⟨a1, a2, lwC_f2 h a4 a3 (fun z => z), fl_f2 a4⟩
theorem lwM_adv {S : Stm} {b : Bool} {d pl : Int} {i : Nat} {c : Int → Int} {N : Nat} {K0 : Int → Int} {mm : Mem} (hS : StmV S) (hi : i < S.cnt) (h : LwM S b d 0 pl i c N K0 mm) : Ok (fX12_readsOn mm) (fun mm' => LwM S b d 0 pl (i + 1) c N K0 mm' ∧ GL mm mm') := by
  refine ok_imp (m_adv hS hi h.1) ?_
  rintro mm' ⟨j1, j2⟩
  exact ⟨lwM_g2 h j2 j1 (fun z => z), gl_g2 j2⟩
theorem l_take {S : Stm} {b : Bool} {d f pl s : Int} {i : Nat} {c : Int → Int} {N : Nat} {mc : Mem} (hS : StmV S) (hs : SgnB s) (h : LwC S b f pl i c N mc) : LkL S b d f pl i c N (fX6_take s mc) mc (fX12_mustSign s) (fun i' c' N' => i' = i + 1 ∧ c' = c ∧ N' = N) := by
  refine ok_imp (c_take hS hs h.1) ?_
  rintro m' ⟨f', pl', i', k1, k2, k3, k4⟩
  refine ⟨f', pl', i', c, N, lwC_f2 h k2 k1 (fun z => (k3 z).1), fl_f2 k2, fun z => ⟨(k3 z).1, (k3 z).2.2, rfl, rfl⟩, fun K0 mm hM => ok_imp (k4 mm hM.1) (fun mm' hh => ⟨lwM_g2 hM hh.2 hh.1 (fun z => (k3 z).1), gl_g2 hh.2⟩)⟩
theorem c_knows {S : Stm} {b : Bool} {f pl k : Int} {i : Nat} {c : Int → Int} {N : Nat} {m : Mem} (h : LwC S b f pl i c N m) : fX4_knows (oL b) k m = some (if loL b ≤ k ∧ k ≤ hiL b then 1 else 0) := by
  obtain ⟨_, _, _, ⟨h2, h3⟩, _⟩ := h
  unfold fX4_knows
  simp only [rd_eq]
  simp only [jn_eq]
  rw [h2, h3]
  by_cases z1 : k < loL b
  · rw [if_pos z1, chk_of (by simp), if_neg (by omega)]
  · rw [if_neg z1]
    by_cases z2 : hiL b < k
    · rw [if_pos z2, chk_of (by simp), if_neg (by omega)]
    · rw [if_neg z2, chk_of (by simp), if_pos (by omega)]
theorem tk0 {S : Stm} {pl : Int} {i j : Nat} {mm : Mem} (hS : StmV S) (hi : i ≤ S.cnt) (hj : j < 18) (h : MC S 0 pl i mm) (ne : S.kd i ≠ 128 + (j : Int)) : fX12_took (wid j) mm = some (0, mm) := by
  unfold fX12_took
  rw [m_isWord hS (fun _ => hi) hj h, if_neg (fun z => ne z.2), bR_some]
  simp only [jn_eq]
  rfl
theorem tk1 {S : Stm} {pl : Int} {i j : Nat} {mm : Mem} (hS : StmV S) (hi : i ≤ S.cnt) (hj : j < 18) (h : MC S 0 pl i mm) (e : S.kd i = 128 + (j : Int)) : Ok (fX12_took (wid j) mm) (fun r => r.1 = 1 ∧ MC S 0 pl (i + 1) r.2 ∧ G2 mm r.2) := by
  refine ok_imp (m_took hS (fun _ => hi) hj h) ?_
  rintro r ⟨j1, _, j3⟩
  exact ⟨(j1 ⟨rfl, e⟩).1, (j1 ⟨rfl, e⟩).2.1, j3⟩
theorem m_lengthWord {S : Stm} {pl : Int} {i : Nat} {mm : Mem} (hS : StmV S) (hi : i ≤ S.cnt) (h : MC S 0 pl i mm) :
    Ok (fX12_lengthWord mm) (fun r => ((128 ≤ S.kd i ∧ S.kd i ≤ 132) → r.1 = S.kd i - 128 ∧ MC S 0 pl (i + 1) r.2) ∧ (¬ (128 ≤ S.kd i ∧ S.kd i ≤ 132) → r.1 = -1 ∧ r.2 = mm) ∧ G2 mm r.2) := by
  unfold fX12_lengthWord
  have fin : ∀ (v : Int) (mm' : Mem), 128 ≤ S.kd i ∧ S.kd i ≤ 132 → v = S.kd i - 128 → MC S 0 pl (i + 1) mm' → G2 mm mm' → Ok (some (v, mm')) (fun r => ((128 ≤ S.kd i ∧ S.kd i ≤ 132) → r.1 = S.kd i - 128 ∧ MC S 0 pl (i + 1) r.2) ∧ (¬ (128 ≤ S.kd i ∧ S.kd i ≤ 132) → r.1 = -1 ∧ r.2 = mm) ∧ G2 mm r.2) := fun v mm' a1 a2 a3 a4 => ok_some ⟨fun _ => ⟨a2, a3⟩, fun z => absurd a1 z, a4⟩
  by_cases h0 : S.kd i = 128
  · refine ok_bW (tk1 (j := 0) hS hi (by decide) h h0) ?_
    rintro x mm' ⟨j1, j2, j3⟩
    simp only at j1 j2 j3
    rw [j1, if_neg (by decide)]
    exact fin 0 mm' (by omega) (by omega) j2 j3
  have e0 := tk0 (j := 0) hS hi (by decide) h h0
  rw [show fX12_took 5 mm = some (0, mm) from e0, bW_some, if_pos rfl]
  by_cases h1 : S.kd i = 129
  · refine ok_bW (tk1 (j := 1) hS hi (by decide) h h1) ?_
    rintro x mm' ⟨j1, j2, j3⟩
    simp only at j1 j2 j3
    rw [j1, if_neg (by decide)]
    exact fin 1 mm' (by omega) (by omega) j2 j3
  have e1 := tk0 (j := 1) hS hi (by decide) h h1
  rw [show fX12_took 6 mm = some (0, mm) from e1, bW_some, if_pos rfl]
  by_cases h2 : S.kd i = 130
  · refine ok_bW (tk1 (j := 2) hS hi (by decide) h h2) ?_
    rintro x mm' ⟨j1, j2, j3⟩
    simp only at j1 j2 j3
    rw [j1, if_neg (by decide)]
    exact fin 2 mm' (by omega) (by omega) j2 j3
  have e2 := tk0 (j := 2) hS hi (by decide) h h2
  rw [show fX12_took 7 mm = some (0, mm) from e2, bW_some, if_pos rfl]
  by_cases h3 : S.kd i = 131
  · refine ok_bW (tk1 (j := 3) hS hi (by decide) h h3) ?_
    rintro x mm' ⟨j1, j2, j3⟩
    simp only at j1 j2 j3
    rw [j1, if_neg (by decide)]
    exact fin 3 mm' (by omega) (by omega) j2 j3
  have e3 := tk0 (j := 3) hS hi (by decide) h h3
  rw [show fX12_took 8 mm = some (0, mm) from e3, bW_some, if_pos rfl]
  simp only [jn_eq]
  by_cases h4 : S.kd i = 132
  · refine ok_bW (tk1 (j := 4) hS hi (by decide) h h4) ?_
    rintro x mm' ⟨j1, j2, j3⟩
    simp only at j1 j2 j3
    rw [j1, if_neg (by decide)]
    exact fin 4 mm' (by omega) (by omega) j2 j3
  have e4 := tk0 (j := 4) hS hi (by decide) h h4
  rw [show fX12_took 9 mm = some (0, mm) from e4, bW_some, if_pos rfl]
  exact ok_some ⟨fun z => by omega, fun _ => ⟨rfl, rfl⟩, g2_refl⟩
theorem m_mayWord {S : Stm} {pl : Int} {i : Nat} {mm : Mem} (hS : StmV S) (hi : i ≤ S.cnt) (h : MC S 0 pl i mm) :
    Ok (fX12_mayWord mm) (fun r => ((130 ≤ S.kd i ∧ S.kd i ≤ 135) → (0 ≤ r.1 ∧ r.1 < 6 ∧ fM r.1 = S.kd i) ∧ MC S 0 pl (i + 1) r.2) ∧ (¬ (130 ≤ S.kd i ∧ S.kd i ≤ 135) → r.1 = -1 ∧ r.2 = mm) ∧ G2 mm r.2) := by
  unfold fX12_mayWord
  have fin : ∀ (v : Int) (mm' : Mem), 130 ≤ S.kd i ∧ S.kd i ≤ 135 → (0 ≤ v ∧ v < 6 ∧ fM v = S.kd i) → MC S 0 pl (i + 1) mm' → G2 mm mm' → Ok (some (v, mm')) (fun r => ((130 ≤ S.kd i ∧ S.kd i ≤ 135) → (0 ≤ r.1 ∧ r.1 < 6 ∧ fM r.1 = S.kd i) ∧ MC S 0 pl (i + 1) r.2) ∧ (¬ (130 ≤ S.kd i ∧ S.kd i ≤ 135) → r.1 = -1 ∧ r.2 = mm) ∧ G2 mm r.2) := fun v mm' a1 a2 a3 a4 => ok_some ⟨fun _ => ⟨a2, a3⟩, fun z => absurd a1 z, a4⟩
  have fm : fM 0 = 133 ∧ fM 1 = 134 ∧ fM 2 = 135 ∧ fM 3 = 132 ∧ fM 4 = 130 ∧ fM 5 = 131 := by decide
  obtain ⟨f0, f1, f2, f3, f4, f5⟩ := fm
  by_cases h0 : S.kd i = 133
  · refine ok_bW (tk1 (j := 5) hS hi (by decide) h h0) ?_
    rintro x mm' ⟨j1, j2, j3⟩
    simp only at j1 j2 j3
    rw [j1, if_neg (by decide)]
    exact fin 0 mm' (by omega) (by omega) j2 j3
  have e0 := tk0 (j := 5) hS hi (by decide) h h0
  rw [show fX12_took 10 mm = some (0, mm) from e0, bW_some, if_pos rfl]
  by_cases h1 : S.kd i = 134
  · refine ok_bW (tk1 (j := 6) hS hi (by decide) h h1) ?_
    rintro x mm' ⟨j1, j2, j3⟩
    simp only at j1 j2 j3
    rw [j1, if_neg (by decide)]
    exact fin 1 mm' (by omega) (by omega) j2 j3
  have e1 := tk0 (j := 6) hS hi (by decide) h h1
  rw [show fX12_took 11 mm = some (0, mm) from e1, bW_some, if_pos rfl]
  by_cases h2 : S.kd i = 135
  · refine ok_bW (tk1 (j := 7) hS hi (by decide) h h2) ?_
    rintro x mm' ⟨j1, j2, j3⟩
    simp only at j1 j2 j3
    rw [j1, if_neg (by decide)]
    exact fin 2 mm' (by omega) (by omega) j2 j3
  have e2 := tk0 (j := 7) hS hi (by decide) h h2
  rw [show fX12_took 12 mm = some (0, mm) from e2, bW_some, if_pos rfl]
  by_cases h3 : S.kd i = 132
  · refine ok_bW (tk1 (j := 4) hS hi (by decide) h h3) ?_
    rintro x mm' ⟨j1, j2, j3⟩
    simp only at j1 j2 j3
    rw [j1, if_neg (by decide)]
    exact fin 3 mm' (by omega) (by omega) j2 j3
  have e3 := tk0 (j := 4) hS hi (by decide) h h3
  rw [show fX12_took 9 mm = some (0, mm) from e3, bW_some, if_pos rfl]
  by_cases h4 : S.kd i = 130
  · refine ok_bW (tk1 (j := 2) hS hi (by decide) h h4) ?_
    rintro x mm' ⟨j1, j2, j3⟩
    simp only at j1 j2 j3
    rw [j1, if_neg (by decide)]
    exact fin 4 mm' (by omega) (by omega) j2 j3
  have e4 := tk0 (j := 2) hS hi (by decide) h h4
  rw [show fX12_took 7 mm = some (0, mm) from e4, bW_some, if_pos rfl]
  simp only [jn_eq]
  by_cases h5 : S.kd i = 131
  · refine ok_bW (tk1 (j := 3) hS hi (by decide) h h5) ?_
    rintro x mm' ⟨j1, j2, j3⟩
    simp only at j1 j2 j3
    rw [j1, if_neg (by decide)]
    exact fin 5 mm' (by omega) (by omega) j2 j3
  have e5 := tk0 (j := 3) hS hi (by decide) h h5
  rw [show fX12_took 8 mm = some (0, mm) from e5, bW_some, if_pos rfl]
  exact ok_some ⟨fun z => by omega, fun _ => ⟨rfl, rfl⟩, g2_refl⟩
theorem m_lawWord {S : Stm} {b : Bool} {d pl : Int} {i : Nat} {c : Int → Int} {N : Nat} {K0 : Int → Int} {mm : Mem} (hS : StmV S) (hi : i ≤ S.cnt) (h : LwM S b d 0 pl i c N K0 mm) :
    Ok (fX12_lawWord mm) (fun r => ((loL b ≤ S.kd i ∧ S.kd i ≤ hiL b) → (0 ≤ r.1 ∧ r.1 < nwL b ∧ fnL b r.1 = S.kd i) ∧ LwM S b d 0 pl (i + 1) c N K0 r.2) ∧ (¬ (loL b ≤ S.kd i ∧ S.kd i ≤ hiL b) → r.1 = -1 ∧ r.2 = mm) ∧ GL mm r.2) := by
  unfold fX12_lawWord
  simp only [rd_eq]
  simp only [jn_eq]
  rw [h.2.1.1]
  cases b
  · show Ok (if ¬ (5 : Int) = 5 then _ else _) _
    rw [if_neg (fun z => z rfl)]
    refine ok_bW (m_lengthWord hS hi h.1) ?_
    rintro x mm' ⟨j1, j2, j3⟩
    simp only at j1 j2 j3
    refine ok_some ⟨fun z => ?_, fun z => j2 z, gl_g2 j3⟩
    obtain ⟨q1, q2⟩ := j1 z
    have z' : 128 ≤ S.kd i ∧ S.kd i ≤ 132 := z
    refine ⟨⟨by simp only; omega, by show x < 5; omega, ?_⟩, lwM_g2 h j3 q2 (fun z => z)⟩
    show 128 + x = S.kd i
    omega
  · show Ok (if ¬ (6 : Int) = 5 then _ else _) _
    rw [if_pos (by decide)]
    refine ok_bW (m_mayWord hS hi h.1) ?_
    rintro x mm' ⟨j1, j2, j3⟩
    simp only at j1 j2 j3
    refine ok_some ⟨fun z => ?_, fun z => j2 z, gl_g2 j3⟩
    obtain ⟨q1, q2⟩ := j1 z
    exact ⟨q1, lwM_g2 h j3 q2 (fun z => z)⟩

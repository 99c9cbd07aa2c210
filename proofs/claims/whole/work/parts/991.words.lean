/-! ===== D80: words in the model ===== -/
theorem tokw_at {S : Stm} {i : Nat} (hS : StmV S) (hi : i ≤ S.cnt) (hk : S.kd i = 3 ∨ (128 ≤ S.kd i ∧ S.kd i < 146)) : WordK S.tx (S.st i) (S.pos (i + 1)) (S.kd i) ∧ (0 ≤ S.st i ∧ S.st i ≤ S.pos (i + 1) ∧ S.pos (i + 1) ≤ S.n) := by
  have hc : i < S.cnt := by
    by_cases q : i = S.cnt
    · have := (st_end hS hi).1.mpr q; omega
    · omega
  have t := (st_end hS hi).2 hc
  have rg := tok_rg t
  have p := (st_pos hS i (by omega)).1
  refine ⟨?_, by omega⟩
  rcases t.2.2 with ⟨_, _, w, _⟩ | ⟨_, _, e, _⟩ | ⟨_, _, _, e, _⟩
  · exact w
  · by_cases z : S.pos (i + 1) - S.st i ≤ 3
    · rw [if_pos z] at e; omega
    · rw [if_neg z] at e; omega
  · rcases e with ⟨s, e⟩ | ⟨_, e⟩
    · rw [← e] at s; unfold SgnB at s; omega
    · omega
theorem m_isWord {S : Stm} {f pl : Int} {i j : Nat} {mm : Mem} (hS : StmV S) (hi : f = 0 → i ≤ S.cnt) (hj : j < 18) (h : MC S f pl i mm) : fX12_isWord (wid j) mm = some (if f = 0 ∧ S.kd i = 128 + (j : Int) then 1 else 0) := by
  obtain ⟨g1, ⟨g2, _⟩, g4⟩ := h
  obtain ⟨p1, p2, p3, p4, p5⟩ := wf_sp j hj
  refine ok_eq ?_
  unfold fX12_isWord
  simp only [rd_eq]
  have no : ¬ (f = 0 ∧ S.kd i = 128 + (j : Int)) → Ok (some (0 : Int)) (fun r => r = (if f = 0 ∧ S.kd i = 128 + (j : Int) then 1 else 0)) := fun z => ok_some (by rw [if_neg z])
  refine ok_jn (fun t m2 => m2 = mm ∧ ((t = 0 ∧ ¬ (f = 0 ∧ S.kd i = 128 + (j : Int))) ∨ (t = 1 ∧ f = 0 ∧ (S.kd i = 3 ∨ (128 ≤ S.kd i ∧ S.kd i < 146)) ∧ S.pos (i + 1) - S.st i = slen (wid j)))) ?_ ?_
  · rintro t m2 ⟨rfl, ht⟩
    simp only [jn_eq]
    rcases ht with ⟨rfl, hno⟩ | ⟨rfl, hf, hk, hl⟩
    · refine lp_ok (fun (q : Int × Int) (m3 : Mem) => q.1 = 0) (fun _ _ => 0) rfl (by decide) ?_
      rintro G ⟨a, b⟩ m3 hz _
      simp only at hz
      subst hz
      simp only
      rw [if_pos trivial, chk_of (by simp)]
      exact no hno
    · obtain ⟨a1, a2, a3, a4⟩ := g4 hf
      obtain ⟨w1, w2, w3, w4⟩ := tokw_at hS (hi hf) hk
      have wk := wordK_is w1 hj
      have n9 := hS.2.2
      refine lp_ok (fun (q : Int × Int) (m3 : Mem) => m3 = m2 ∧ (0 ≤ q.2 ∧ q.2 ≤ slen (wid j)) ∧ (q.1 = 0 ∨ q.1 = 1) ∧ (q.1 = 0 → ¬ EqW S.tx (S.st i) (S.pos (i + 1)) (wid j)) ∧ (q.1 = 1 → ∀ k, 0 ≤ k → k < q.2 → S.tx (S.st i + k) = schr (wid j) k)) (fun q _ => (slen (wid j) - q.2).toNat) ⟨rfl, by simp only; omega, .inr rfl, fun z => absurd z (by decide), fun _ k k0 k1 => by simp only at k1; omega⟩ (by simp only; omega) ?_
      rintro G ⟨t, k⟩ m3 ⟨rfl, ⟨k0, k1⟩, t01, h0, h1⟩ ih
      simp only at k0 k1 t01 h0 h1 ih ⊢
      by_cases ht0 : t = 0
      · rw [if_pos ht0, chk_of t01]
        refine ok_some ?_
        rw [ht0, if_neg (fun z => h0 ht0 (wk.mpr z.2))]
      · have h1' := h1 (by omega)
        rw [if_neg ht0, s_length p5, bR_some]
        by_cases hk2 : slen (wid j) ≤ k
        · rw [if_pos hk2, chk_of t01]
          refine ok_some ?_
          rw [if_pos ⟨hf, wk.mp ⟨hl, fun q q0 q1 => h1' q q0 (by omega)⟩⟩]; omega
        · obtain ⟨c1, c2, c3⟩ := wf_ch j hj k.toNat (by omega) (by omega)
          rw [Int.toNat_of_nonneg k0] at c2 c3
          rw [if_neg hk2, a2, w32_id (x := S.st i + k) (by omega) (by omega), chk_of (by omega), g1.2 (S.st i + k) (by omega) (by omega), s_char k0 (by omega) (by omega) (by omega), bR_some, w32_id (x := k + 1) (by omega) (by omega)]
          by_cases hc : S.tx (S.st i + k) = schr (wid j) k
          · rw [if_neg (fun z => z hc)]
            refine ih (1, k + 1) m3 ⟨rfl, by simp only; omega, .inr rfl, fun z => absurd (show (1 : Int) = 0 from z) (by decide), fun _ q q0 q1 => ?_⟩ (by simp only; omega)
            simp only at q1
            by_cases e : q = k
            · rw [e]; exact hc
            · exact h1' q q0 (by omega)
          · rw [if_pos hc]
            exact ih (0, k + 1) m3 ⟨rfl, by simp only; omega, .inl rfl, fun _ z => hc (z.2 k k0 (by omega)), fun z => absurd (show (0 : Int) = 1 from z) (by decide)⟩ (by simp only; omega)
  · intro J hJ
    simp only [jn_eq]
    rw [g2]
    by_cases hf : f = 0
    · obtain ⟨a1, a2, a3, a4⟩ := g4 hf
      have mn := (mtok_num hS (hi hf)).2.1
      rw [if_neg (show ¬ ¬ f = 0 from fun z => z hf), a3]
      by_cases hk : S.kd i = 3 ∨ (128 ≤ S.kd i ∧ S.kd i < 146)
      · obtain ⟨w1, w2, w3, w4⟩ := tokw_at hS (hi hf) hk
        have n9 := hS.2.2
        rw [if_neg (show ¬ ¬ mtok (S.kd i) = 1 from fun z => z (mn.mpr hk)), s_length p5, bR_some, a1, a2, w32_id (by omega) (by omega)]
        by_cases hl : S.pos (i + 1) - S.st i = slen (wid j)
        · rw [if_neg (fun z => z hl)]
          exact hJ 1 mm ⟨rfl, .inr ⟨rfl, hf, hk, hl⟩⟩
        · rw [if_pos hl]
          exact hJ 0 mm ⟨rfl, .inl ⟨rfl, fun z => hl ((wordK_is w1 hj).mpr z.2).1⟩⟩
      · rw [if_pos (fun z => hk (mn.mp z))]
        exact hJ 0 mm ⟨rfl, .inl ⟨rfl, fun z => hk (by omega)⟩⟩
    · rw [if_pos hf]
      exact hJ 0 mm ⟨rfl, .inl ⟨rfl, fun z => hf z.1⟩⟩
theorem m_isSign {S : Stm} {f pl s : Int} {i : Nat} {mm : Mem} (hS : StmV S) (hi : f = 0 → i ≤ S.cnt) (hs : SgnB s) (h : MC S f pl i mm) : fX12_isSign s mm = some (if f = 0 ∧ S.kd i = s then 1 else 0) := by
  obtain ⟨g1, ⟨g2, _⟩, g4⟩ := h
  unfold fX12_isSign
  simp only [rd_eq]
  simp only [jn_eq]
  rw [g2]
  by_cases hf : f = 0
  · obtain ⟨a1, a2, a3, a4⟩ := g4 hf
    have ms := mtok_sgn hS (hi hf) hs
    rw [if_neg (show ¬ ¬ f = 0 from fun z => z hf), a3]
    by_cases q : S.kd i = s
    · rw [if_neg (fun z => z (ms.mpr q)), chk_of (by simp), if_pos ⟨hf, q⟩]
    · rw [if_pos (fun z => q (ms.mp z)), chk_of (by simp), if_neg (fun z => q z.2)]
  · rw [if_pos hf, chk_of (by simp), if_neg (fun z => hf z.1)]
theorem m_took {S : Stm} {f pl : Int} {i j : Nat} {mm : Mem} (hS : StmV S) (hi : f = 0 → i ≤ S.cnt) (hj : j < 18) (h : MC S f pl i mm) :
    Ok (fX12_took (wid j) mm) (fun r => ((f = 0 ∧ S.kd i = 128 + (j : Int)) → r.1 = 1 ∧ MC S 0 pl (i + 1) r.2 ∧ i < S.cnt) ∧ (¬ (f = 0 ∧ S.kd i = 128 + (j : Int)) → r.1 = 0 ∧ r.2 = mm) ∧ G2 mm r.2) := by
  unfold fX12_took
  rw [m_isWord hS hi hj h, bR_some]
  simp only [jn_eq]
  by_cases q : f = 0 ∧ S.kd i = 128 + (j : Int)
  · rw [if_pos q, if_neg (show ¬ (1 : Int) = 0 by decide)]
    obtain ⟨rfl, hk⟩ := q
    have hc : i < S.cnt := by
      by_cases z : i = S.cnt
      · have := (st_end hS (hi rfl)).1.mpr z; omega
      · have := hi rfl; omega
    refine ok_bV (m_adv hS hc h) ?_
    rintro mm' ⟨j1, j2⟩
    rw [chk_of (by decide)]
    exact ok_some ⟨fun _ => ⟨rfl, j1, hc⟩, fun z => absurd ⟨rfl, hk⟩ z, j2⟩
  · rw [if_neg q, if_pos rfl, chk_of (by decide)]
    exact ok_some ⟨fun z => absurd z q, fun _ => ⟨rfl, rfl⟩, g2_refl⟩
theorem c_takeW {S : Stm} {f pl s : Int} {i j : Nat} {m : Mem} (hS : StmV S) (hj : j < 18) (hs : s = 128 + (j : Int)) (h : CC S f pl i m) :
    Ok (fX6_take s m) (fun m' => ∃ f' pl' i', CC S f' pl' i' m' ∧ F2 m m' ∧ (f' = 0 → f = 0 ∧ S.kd i = s ∧ i' = i + 1) ∧ ∀ mm, MC S f pl i mm → Ok (fX12_mustWord (wid j) mm) (fun mm' => MC S f' pl' i' mm' ∧ G2 mm mm')) := by
  unfold fX6_take
  rw [c_token hS h, bR_some]
  simp only [rd_eq]
  simp only [wr_eq]
  simp only [jn_eq]
  have hi : f = 0 → i ≤ S.cnt := fun z => (h.2.2 z).2.1
  by_cases q : f = 0 ∧ S.kd i = 128 + (j : Int)
  · obtain ⟨rfl, hk⟩ := q
    have c9 := st_cnt hS
    obtain ⟨hc, e5, k1, k2⟩ := c_adv hS h (by omega)
    rw [if_pos rfl, if_neg (fun z => z (by omega)), e5, w32_id (by omega) (by omega)]
    refine ok_some ⟨0, pl, i + 1, k1, k2, fun _ => ⟨rfl, by omega, rfl⟩, fun mm hM => ?_⟩
    unfold fX12_mustWord
    refine ok_bW (m_took hS hi hj hM) ?_
    rintro x mm' ⟨j1, _, j3⟩
    simp only at j1 j3
    obtain ⟨b1, b2, _⟩ := j1 ⟨trivial, hk⟩
    simp only [jn_eq]
    rw [b1, if_pos (by decide)]
    exact ok_some ⟨b2, j3⟩
  · have hne : ¬ (if f = 0 then S.kd i else 0) = s := by
      by_cases hf : f = 0
      · rw [if_pos hf, hs]; exact fun z => q ⟨hf, z⟩
      · rw [if_neg hf]; omega
    rw [if_pos hne]
    refine ok_bV (c_refuse hS (by decide) h) ?_
    rintro m' ⟨f', pl', k1, k2, k3, k4⟩
    refine ok_some ⟨f', pl', i, k2, k3, fun z => absurd z k1, fun mm hM => ?_⟩
    unfold fX12_mustWord
    refine ok_bW (m_took hS hi hj hM) ?_
    rintro x mm' ⟨_, j2, j3⟩
    simp only at j2 j3
    obtain ⟨b1, b2⟩ := j2 q
    simp only [jn_eq]
    rw [b1, if_neg (show ¬ ¬ (0 : Int) = 0 from fun z => z rfl), b2]
    exact ok_bV (k4 mm hM) (fun mm' hh => ok_some hh)

/-! ===== D7: deeds kept and undone ===== -/
theorem c_copyLife {o a : Nat} {n : Int} {S : Int → Int} {m : Mem} (h : LfR a n S m) (n4 : n ≤ 4) (hd : o + 4 ≤ a ∨ a + 4 ≤ o) : Ok (fX5_copyFrom o a m) (fun m' => LfR o n S m' ∧ ∀ q, q < o ∨ o + 4 ≤ q → m' q = m q) := by
  obtain ⟨⟨h0, h1, h2, h3⟩, h4⟩ := h
  unfold fX5_copyFrom
  simp only [rd_eq, wr_eq]
  rw [chk_of (by decide), chk_of (by decide), chk_of (by decide)]
  have a0 : a ≠ o := by omega
  refine ok_some ⟨⟨⟨?_, ?_, ?_, ?_⟩, fun p p0 p1 => ⟨?_, ?_, ?_⟩⟩, fun q hq => ?_⟩
  · rw [cpy_cell (by omega), cpy_cell (by omega), cpy_cell (by omega), up_idx (by decide), up_idx (by decide), up_idx (by decide), up_same, h0]
  · rw [cpy_cell (by omega), cpy_cell (by omega), cpy_cell (by omega), up_idx (by decide), up_idx (by decide), up_same, up_cell a0, h1]
  · rw [cpy_cell (by omega), cpy_cell (by omega), cpy_cell (by omega), up_idx (by decide), up_same, up_cell a0, up_cell a0, h2]
  · rw [cpy_cell (by omega), cpy_cell (by omega), cpy_cell (by omega), up_same, up_cell a0, up_cell a0, up_cell a0, h3]
  · rw [cpy_cell (by omega), cpy_cell (by omega), cpy_at, if_pos (by omega), up_cell (by omega), up_cell (by omega), up_cell (by omega), up_cell (by omega), show p - 0 + 0 = p by omega, (h4 p p0 p1).1]
  · rw [cpy_cell (by omega), cpy_at, if_pos (by omega), cpy_cell (by omega), up_cell (by omega), up_cell (by omega), up_cell (by omega), up_cell (by omega), show p - 0 + 0 = p by omega, (h4 p p0 p1).2.1]
  · rw [cpy_at, if_pos (by omega), cpy_cell (by omega), cpy_cell (by omega), up_cell (by omega), up_cell (by omega), up_cell (by omega), up_cell (by omega), show p - 0 + 0 = p by omega, (h4 p p0 p1).2.2]
  · rw [cpy_cell (by omega), cpy_cell (by omega), cpy_cell (by omega), up_cell (by omega), up_cell (by omega), up_cell (by omega), up_cell (by omega)]
def keepK (K : Int → Int) : Int → Int := fun j =>
  if j = 7 then (if K 7 = 10 then 10 else K 7 + 1)
  else if 37 ≤ j ∧ j < 197 then
    (if K 7 = 10 then (if j < 181 then K (j + 16) else K (9 + (j - 181)))
     else if 37 + 16 * K 7 ≤ j ∧ j < 53 + 16 * K 7 then K (9 + (j - (37 + 16 * K 7))) else K j)
  else K j
theorem keepK_out {K : Int → Int} {j : Int} (h : j ≠ 7) (h2 : j < 37 ∨ 197 ≤ j) : keepK K j = K j := by unfold keepK; rw [if_neg h, if_neg (by omega)]
theorem sameI_keep {K : Int → Int} : SameI K (keepK K) := fun j hj => keepK_out (by omega) (by omega)
theorem m_keeps {K : Int → Int} {m : Mem} (hK : m 288 = K) (h7 : 0 ≤ K 7 ∧ K 7 ≤ 10) : Ok (fX12_keeps m) (fun m' => m' 288 = keepK K ∧ Fr [288] m m') := by
  unfold fX12_keeps
  simp only [rd_eq, wr_eq]
  refine ok_jn (fun _ mm => Fr [288] m mm ∧ mm 288 = fun j => if j = 7 then (if K 7 = 10 then 9 else K 7) else if K 7 = 10 ∧ 37 ≤ j ∧ j < 181 then K (j + 16) else K j) ?_ ?_
  · rintro _ mm ⟨hF, hm⟩
    generalize hL : (if K 7 = 10 then (9 : Int) else K 7) = L at *
    have hL0 : 0 ≤ L ∧ L ≤ 9 := by rw [← hL]; split <;> omega
    have hL1 : (K 7 = 10 ∧ L = 9) ∨ (K 7 ≠ 10 ∧ L = K 7) := by rw [← hL]; split <;> omega
    refine lp_for 16 (fun i q => 0 ≤ i ∧ Fr [288] m q ∧ q 288 = fun j => if j = 7 then L else if 37 + 16 * L ≤ j ∧ j < 37 + 16 * L + i then K (9 + (j - (37 + 16 * L))) else if K 7 = 10 ∧ 37 ≤ j ∧ j < 181 then K (j + 16) else K j) ⟨by omega, hF, ?_⟩ (by decide) (by decide) ?_ ?_
    · rw [hm]; funext j
      repeat' split
      all_goals first | rfl | (exfalso; omega)
    · rintro G i q hi ⟨hi0, hF', hq⟩ ih
      have e7 : q 288 7 = L := by rw [hq]; rfl
      rw [if_neg (by omega), e7]
      rw [w32_id (x := 9 + i) (by omega) (by omega), w32_id (x := 16 * L) (by omega) (by omega), w32_id (x := 37 + 16 * L) (by omega) (by omega), w32_id (x := 37 + 16 * L + i) (by omega) (by omega), w32_id (x := i + 1) (by omega) (by omega), chk_of (by omega), chk_of (by omega)]
      refine ih _ ⟨by omega, fr_up (by simp) hF', ?_⟩
      rw [up_row, hq]
      funext j
      unfold ku
      dsimp only
      repeat' split
      all_goals first | rfl | (exfalso; omega) | (congr 1 <;> omega)
    · rintro G q ⟨_, hF', hq⟩
      have e7 : q 288 7 = L := by rw [hq]; rfl
      rw [if_pos (by omega), e7, w32_id (by omega) (by omega)]
      refine ok_some ⟨?_, fr_up (by simp) hF'⟩
      rw [up_row, hq]
      funext j
      unfold ku keepK
      dsimp only
      repeat' split
      all_goals first | rfl | (exfalso; omega) | omega | (congr 1 <;> omega)
  · intro G hG
    rw [hK]
    by_cases h10 : K 7 = 10
    · rw [if_neg (by omega)]
      refine lp_for 181 (fun i q => 37 ≤ i ∧ Fr [288] m q ∧ q 288 = fun j => if 37 ≤ j ∧ j < i then K (j + 16) else K j) ⟨by omega, fr_refl, ?_⟩ (by decide) (by decide) ?_ ?_
      · rw [hK]; funext j; rw [if_neg (by omega)]
      · rintro G2 i q hi ⟨hi0, hF', hq⟩ ih
        rw [if_neg (by omega), w32_id (x := i + 16) (by omega) (by omega), w32_id (x := i + 1) (by omega) (by omega), chk_of (by omega), chk_of (by omega)]
        refine ih _ ⟨by omega, fr_up (by simp) hF', ?_⟩
        rw [up_row, hq]
        funext j
        unfold ku
        dsimp only
        repeat' split
        all_goals first | rfl | (exfalso; omega) | (congr 1 <;> omega)
      · rintro G2 q ⟨_, hF', hq⟩
        have e7 : q 288 7 = 10 := by rw [hq]; exact h10
        rw [if_pos (by omega), e7, w32_id (by omega) (by omega)]
        refine hG () _ ⟨fr_up (by simp) hF', ?_⟩
        rw [up_row, hq]
        funext j
        unfold ku
        dsimp only
        repeat' split
        all_goals first | rfl | (exfalso; omega) | (congr 1 <;> omega)
    · rw [if_pos h10]
      refine hG () _ ⟨fr_refl, ?_⟩
      rw [hK]
      funext j
      repeat' split
      all_goals first | rfl | (exfalso; omega) | (congr 1 <;> omega)
theorem keepK_7 {K : Int → Int} : keepK K 7 = if K 7 = 10 then 10 else K 7 + 1 := rfl
/-- the state kept in slot s -/
theorem keepK_slot {K : Int → Int} {s i : Int} (h7 : 0 ≤ K 7 ∧ K 7 ≤ 10) (s0 : 0 ≤ s) (s1 : s < keepK K 7) (i0 : 0 ≤ i) (i1 : i < 16) :
    keepK K (37 + 16 * s + i) = if s = keepK K 7 - 1 then K (9 + i) else if K 7 = 10 then K (37 + 16 * (s + 1) + i) else K (37 + 16 * s + i) := by
  rw [keepK_7] at s1 ⊢
  unfold keepK
  by_cases h10 : K 7 = 10
  · rw [if_pos h10] at s1
    rw [if_neg (by omega), if_pos (by omega), if_pos h10, if_pos h10, if_pos h10]
    by_cases e : s = 9
    · rw [if_neg (by omega), if_pos (by omega)]; congr 1; omega
    · rw [if_pos (by omega), if_neg (by omega)]; congr 1; omega
  · rw [if_neg h10] at s1
    rw [if_neg (by omega), if_pos (by omega), if_neg h10, if_neg h10, if_neg h10]
    by_cases e : s = K 7
    · rw [if_pos (by omega), if_pos (by omega)]; congr 1; omega
    · rw [if_neg (by omega), if_neg (by omega)]
theorem LfR_cong {o : Nat} {n : Int} {S S' : Int → Int} {m : Mem} (n4 : n ≤ 4) (h : ∀ i, 0 ≤ i → i < 16 → S' i = S i) (hr : LfR o n S m) : LfR o n S' m := by
  obtain ⟨⟨h0, h1, h2, h3⟩, h4⟩ := hr
  refine ⟨⟨?_, ?_, ?_, ?_⟩, fun p a b => ?_⟩
  · rw [h 15 (by omega) (by omega)]; exact h0
  · rw [h 13 (by omega) (by omega)]; exact h1
  · rw [h 14 (by omega) (by omega)]; exact h2
  · rw [h 12 (by omega) (by omega)]; exact h3
  · rw [h (4 + p) (by omega) (by omega), h (8 + p) (by omega) (by omega), h p (by omega) (by omega)]; exact h4 p a b
theorem StV_cong {K S S' : Int → Int} {c : Int} (n4 : K 3 ≤ 4) (h : ∀ i, 0 ≤ i → i < 16 → S' i = S i) (hr : StV K c S) : StV K c S' := by
  obtain ⟨h1, h2, h3, h4, h5⟩ := hr
  refine ⟨fun p a b => ?_, ?_, ?_, ?_, ?_⟩
  · rw [h (4 + p) (by omega) (by omega), h (8 + p) (by omega) (by omega), h p (by omega) (by omega)]; exact h1 p a b
  · rw [h 12 (by omega) (by omega)]; exact h2
  · rw [h 13 (by omega) (by omega)]; exact h3
  · rw [h 14 (by omega) (by omega)]; exact h4
  · rw [h 15 (by omega) (by omega)]; exact h5
theorem KV_keep {K : Int → Int} {c : Int} (h : KV c K) : KV c (keepK K) := by
  obtain ⟨hI, hS, h7, hU⟩ := h
  have n4 : K 3 ≤ 4 := hI.2.1.2
  have e3 : keepK K 3 = K 3 := sameI_keep 3 (by omega)
  refine ⟨IsV_same sameI_keep hI, StV_isl sameI_keep (StV_cong n4 (fun i a b => keepK_out (by omega) (by omega)) hS), ?_, fun s s0 s1 => ?_⟩
  · rw [keepK_7]; split <;> omega
  · refine StV_isl sameI_keep ?_
    by_cases e : s = keepK K 7 - 1
    · exact StV_cong n4 (fun i a b => by rw [keepK_slot h7 s0 s1 a b, if_pos e]) hS
    · have s1' := s1
      rw [keepK_7] at s1'
      by_cases h10 : K 7 = 10
      · rw [keepK_7, if_pos h10] at e
        rw [if_pos h10] at s1'
        exact StV_cong n4 (fun i a b => by rw [keepK_slot h7 s0 s1 a b, keepK_7, if_pos h10, if_neg e, if_pos h10]) (hU (s + 1) (by omega) (by omega))
      · rw [keepK_7, if_neg h10] at e
        rw [if_neg h10] at s1'
        exact StV_cong n4 (fun i a b => by rw [keepK_slot h7 s0 s1 a b, keepK_7, if_neg h10, if_neg e, if_neg h10]) (hU s s0 (by omega))
def pastC : List Nat := [38, 39, 40, 41, 42, 43, 44, 45, 46, 47, 48, 49, 50, 51, 52, 53, 54, 55, 56, 57, 58, 59, 60, 61, 62, 63, 64, 65, 66, 67, 68, 69, 70, 71, 72, 73, 74, 75, 76, 77]
theorem pastC_mem {q : Nat} (h : q ∈ pastC) : 38 ≤ q ∧ q < 78 := by
  have : ∀ q, q ∈ pastC → 38 ≤ q ∧ q < 78 := by decide
  exact this q h
theorem pastC_out {q : Nat} (h : q ∉ pastC) : q < 38 ∨ 78 ≤ q := by
  by_cases a : q < 38
  · exact .inl a
  · by_cases b : q < 78
    · exfalso
      have : ∀ q, q < 78 → 38 ≤ q → q ∈ pastC := by decide
      exact h (this q b (by omega))
    · exact .inr (by omega)
theorem c_remember {K : Int → Int} {c : Int} {m : Mem} (hR : WRel 19 K m) (hV : KV c K) : Ok (fX10_remember m) (fun m' => WRel 19 (keepK K) m' ∧ Fr (19 :: pastC) m m' ∧ m' 19 3 = m 19 3) := by
  obtain ⟨r1, r2, r3, r4, r5⟩ := hR
  obtain ⟨hI, hS, h7, hU⟩ := hV
  have n4 : K 3 ≤ 4 := hI.2.1.2
  unfold fX10_remember
  simp only [rd_eq, wr_eq, rdn_eq]
  have r3' : m 19 2 = K 7 := r3
  have r4' : 0 ≤ m 19 4 ∧ m 19 4 < 10 := r4
  generalize hN : m 19 4 = N at *
  have eN : Int.tmod (w32 (N + 1)) 10 = (N + 1) % 10 := by rw [w32_id (by omega) (by omega), tmod_e 10 (by omega)]
  rw [eN]
  generalize hM : (N + 1) % 10 = M at *
  have M0 : 0 ≤ M ∧ M < 10 := by omega
  rw [up_same, chk_of ⟨M0.1, M0.2⟩]
  have F1 : Fr [19] m (up m 19 4 M) := fr_up (by simp) fr_refl
  have hc : (31 + (rTab 4).1 + (rTab 4).2 * M.toNat) = 38 + 4 * M.toNat := rfl
  rw [hc]
  have hL : LfR 27 (K 3) (fun i => K (9 + i)) (up m 19 4 M) := LfR_fr r2 (fun q a b => F1 q (by simp; omega))
  refine ok_bV (c_copyLife hL n4 (.inr (by omega))) ?_
  rintro m2 ⟨hL2, hF2⟩
  have e19 : m2 19 = up m 19 4 M 19 := hF2 19 (by omega)
  have e2 : m2 19 2 = K 7 := by rw [e19, up_idx (by decide), r3']
  rw [e2, w32_id (by omega) (by omega)]
  have hk7 : imin (K 7 + 1) 10 = keepK K 7 := by rw [keepK_7]; unfold imin; split <;> split <;> omega
  rw [hk7]
  have F3 : Fr (19 :: pastC) m (up m2 19 2 (keepK K 7)) := by
    refine fr_up (by simp) (fun q hq => ?_)
    have hq1 : q ≠ 19 := fun e => hq (by simp [e])
    have hq2 := pastC_out (fun e => hq (List.mem_cons_of_mem _ e))
    rw [hF2 q (by omega), F1 q (by simp [hq1])]
  refine ok_some ⟨⟨?_, ?_, ?_, ?_, fun s s0 s1 => ?_⟩, F3, by rw [up_idx (by decide), e19, up_idx (by decide)]⟩
  · exact IsR_same sameI_keep hI (IsR_fr r1 (fun o a b => F3 o (by intro q; rcases List.mem_cons.mp q with q | q; omega; have := pastC_mem q; omega)))
  · rw [show keepK K 3 = K 3 from sameI_keep 3 (by omega)]
    exact LfR_cong n4 (fun i a b => keepK_out (by omega) (by omega)) (LfR_fr r2 (fun o a b => F3 o (by intro q; rcases List.mem_cons.mp q with q | q; omega; have := pastC_mem q; omega)))
  · rw [up_same]
  · rw [up_idx (by decide), e19, up_same]; exact M0
  · have e4 : up m2 19 2 (keepK K 7) 19 4 = M := by rw [up_idx (by decide), e19, up_same]
    rw [e4, show keepK K 3 = K 3 from sameI_keep 3 (by omega)]
    have s1' := s1
    rw [keepK_7] at s1'
    by_cases e : s = keepK K 7 - 1
    · have hp : pastAt 19 M (keepK K 7) s = 38 + 4 * M.toNat := by unfold pastAt; rw [e]; omega
      rw [hp]
      refine LfR_cong n4 (fun i a b => by rw [keepK_slot h7 s0 s1 a b, if_pos e]) (LfR_fr hL2 (fun q a b => up_cell (by omega)))
    · have key : ∀ s' : Int, 0 ≤ s' → s' < K 7 → (M - (keepK K 7 - 1 - s)) % 10 = (N - (K 7 - 1 - s')) % 10 → (∀ i, 0 ≤ i → i < 16 → keepK K (37 + 16 * s + i) = K (37 + 16 * s' + i)) → LfR (pastAt 19 M (keepK K 7) s) (K 3) (fun i => keepK K (37 + 16 * s + i)) (up m2 19 2 (keepK K 7)) := by
        intro s' z0 z1 z2 z3
        have hp : pastAt 19 M (keepK K 7) s = pastAt 19 N (K 7) s' := by unfold pastAt; rw [z2]
        rw [hp]
        refine LfR_cong n4 z3 (LfR_fr (r5 s' z0 z1) (fun q a b => ?_))
        have hne : (M - (keepK K 7 - 1 - s)) % 10 ≠ M := by rw [keepK_7] at e ⊢; split at s1' <;> rename_i h10 <;> simp only [h10, if_true, if_false] at e ⊢ <;> omega
        rw [← hp] at a b
        unfold pastAt at a b
        have b10 : 0 ≤ (M - (keepK K 7 - 1 - s)) % 10 ∧ (M - (keepK K 7 - 1 - s)) % 10 < 10 := ⟨Int.emod_nonneg _ (by decide), Int.emod_lt_of_pos _ (by decide)⟩
        rw [up_cell (by omega), hF2 q (by omega), up_cell (by omega)]
      by_cases h10 : K 7 = 10
      · rw [if_pos h10] at s1'
        have k7 : keepK K 7 = 10 := by rw [keepK_7, if_pos h10]
        refine key (s + 1) (by omega) (by omega) (by rw [k7, h10]; omega) (fun i a b => ?_)
        rw [keepK_slot h7 s0 s1 a b, if_neg e, if_pos h10]
      · rw [if_neg h10] at s1'
        have k7 : keepK K 7 = K 7 + 1 := by rw [keepK_7, if_neg h10]
        refine key s s0 (by omega) (by rw [k7]; omega) (fun i a b => ?_)
        rw [keepK_slot h7 s0 s1 a b, if_neg e, if_neg h10]

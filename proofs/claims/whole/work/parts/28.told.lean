/-! ===== D8: undone, put aside, told deeds of the class ===== -/
def undoK (K : Int → Int) (n : Int) : Int → Int := fun j => if j = 7 then K 7 - n else if 9 ≤ j ∧ j < 25 then K (37 + 16 * (K 7 - n) + (j - 9)) else K j
theorem sameI_undo {K : Int → Int} {n : Int} : SameI K (undoK K n) := fun j hj => by unfold undoK; rw [if_neg (by omega), if_neg (by omega)]
theorem undoK_cur {K : Int → Int} {n i : Int} (a : 0 ≤ i) (b : i < 16) : undoK K n (9 + i) = K (37 + 16 * (K 7 - n) + i) := by
  unfold undoK; rw [if_neg (by omega), if_pos (by omega)]; congr 1; omega
theorem undoK_slot {K : Int → Int} {n j : Int} (h : 37 ≤ j) : undoK K n j = K j := by unfold undoK; rw [if_neg (by omega), if_neg (by omega)]
theorem KV_undo {K : Int → Int} {c n : Int} (h : KV c K) (n0 : 1 ≤ n) (n1 : n ≤ K 7) : KV c (undoK K n) := by
  obtain ⟨hI, hS, h7, hU⟩ := h
  have n4 : K 3 ≤ 4 := hI.2.1.2
  have e7 : undoK K n 7 = K 7 - n := rfl
  refine ⟨IsV_same sameI_undo hI, StV_isl sameI_undo (StV_cong n4 (fun i a b => undoK_cur a b) (hU (K 7 - n) (by omega) (by omega))), by omega, fun s s0 s1 => StV_isl sameI_undo (StV_cong n4 (fun i a b => undoK_slot (by omega)) (hU s s0 (by omega)))⟩
theorem c_goBack {K : Int → Int} {c n : Int} {m : Mem} (hR : WRel 19 K m) (hV : KV c K) (n0 : 1 ≤ n) (n1 : n ≤ K 7) : Ok (fX10_goBack n m) (fun m' => WRel 19 (undoK K n) m' ∧ Fr [19, 27, 28, 29, 30] m m') := by
  obtain ⟨r1, r2, r3, r4, r5⟩ := hR
  obtain ⟨hI, hS, h7, hU⟩ := hV
  have n4 : K 3 ≤ 4 := hI.2.1.2
  have r3' : m 19 2 = K 7 := r3
  have r4' : 0 ≤ m 19 4 ∧ m 19 4 < 10 := r4
  unfold fX10_goBack
  simp only [rd_eq, wr_eq, rdn_eq]
  generalize hN : m 19 4 = N at *
  rw [w32_id (x := N + 1) (by omega) (by omega), w32_id (x := N + 1 - n) (by omega) (by omega), w32_id (x := N + 1 - n + 10) (by omega) (by omega), tmod_e 10 (by omega), chk_of (by omega)]
  have hc : (31 + (rTab 4).1 + (rTab 4).2 * ((N + 1 - n + 10) % 10).toNat) = 38 + 4 * ((N + 1 - n + 10) % 10).toNat := rfl
  rw [hc]
  have hp : pastAt 19 N (K 7) (K 7 - n) = 38 + 4 * ((N + 1 - n + 10) % 10).toNat := by unfold pastAt; omega
  have hL := r5 (K 7 - n) (by omega) (by omega)
  rw [hp] at hL
  refine ok_bV (c_copyLife hL n4 (.inl (by omega))) ?_
  rintro m2 ⟨hL2, hF2⟩
  have e19 : m2 19 = m 19 := hF2 19 (by omega)
  rw [e19, hN, w32_id (x := N - n) (by omega) (by omega), w32_id (x := N - n + 10) (by omega) (by omega), tmod_e 10 (by omega), up_idx (by decide), e19, r3', w32_id (by omega) (by omega)]
  have F : Fr [19, 27, 28, 29, 30] m (up (up m2 19 4 ((N - n + 10) % 10)) 19 2 (K 7 - n)) := fr_up (by simp) (fr_up (by simp) (fun q hq => hF2 q (by simp at hq; omega)))
  refine ok_some ⟨⟨?_, ?_, ?_, ?_, fun s s0 s1 => ?_⟩, F⟩
  · exact IsR_same sameI_undo hI (IsR_fr r1 (fun o a b => F o (by simp; omega)))
  · rw [show undoK K n 3 = K 3 from rfl]
    refine LfR_cong n4 (fun i a b => undoK_cur a b) (LfR_fr hL2 (fun o a b => ?_))
    rw [up_cell (by omega), up_cell (by omega)]
  · rw [up_same]; rfl
  · rw [up_idx (by decide), up_same]; omega
  · have e4 : up (up m2 19 4 ((N - n + 10) % 10)) 19 2 (K 7 - n) 19 4 = (N - n + 10) % 10 := by rw [up_idx (by decide), up_same]
    have e7 : undoK K n 7 = K 7 - n := rfl
    rw [e4, show undoK K n 3 = K 3 from rfl]
    have hp2 : pastAt 19 ((N - n + 10) % 10) (undoK K n 7) s = pastAt 19 N (K 7) s := by unfold pastAt; rw [e7]; omega
    rw [hp2]
    refine LfR_cong n4 (fun i a b => undoK_slot (by omega)) (LfR_fr (r5 s s0 (by omega)) (fun o a b => ?_))
    unfold pastAt at a b
    have b10 : 0 ≤ (N - (K 7 - 1 - s)) % 10 ∧ (N - (K 7 - 1 - s)) % 10 < 10 := ⟨Int.emod_nonneg _ (by decide), Int.emod_lt_of_pos _ (by decide)⟩
    rw [up_cell (by omega), up_cell (by omega), hF2 o (by omega)]
/-! aside -/
theorem m_putsAside {m : Mem} : Ok (fX12_putsAside m) (fun m' => (∀ i, 0 ≤ i → i < 16 → m' 295 i = m 288 (9 + i)) ∧ Fr [295] m m') := by
  unfold fX12_putsAside
  simp only [rd_eq, wr_eq]
  refine lp_for 16 (fun i q => 0 ≤ i ∧ Fr [295] m q ∧ ∀ j, 0 ≤ j → j < i → q 295 j = m 288 (9 + j)) ⟨by omega, fr_refl, fun j a b => by omega⟩ (by decide) (by decide) ?_ ?_
  · rintro G i q hi ⟨hi0, hF, hq⟩ ih
    rw [if_neg (by omega), w32_id (x := 9 + i) (by omega) (by omega), w32_id (x := i + 1) (by omega) (by omega), chk_of (by omega), chk_of (by omega), hF 288 (by decide)]
    refine ih _ ⟨by omega, fr_up (by simp) hF, fun j a b => ?_⟩
    rw [up_at]
    split
    · rename_i e; rw [e]
    · exact hq j a (by omega)
  · rintro G q ⟨_, hF, hq⟩
    rw [if_pos (by omega)]
    exact ok_some ⟨hq, hF⟩
def putK (K A : Int → Int) : Int → Int := fun j => if 9 ≤ j ∧ j < 25 then A (j - 9) else K j
theorem m_putsBack {K A : Int → Int} {m : Mem} (hK : m 288 = K) (hA : ∀ i, 0 ≤ i → i < 16 → m 295 i = A i) : Ok (fX12_putsBack m) (fun m' => m' 288 = putK K A ∧ Fr [288] m m') := by
  unfold fX12_putsBack
  simp only [rd_eq, wr_eq]
  refine lp_for 16 (fun i q => 0 ≤ i ∧ Fr [288] m q ∧ q 288 = fun j => if 9 ≤ j ∧ j < 9 + i then A (j - 9) else K j) ⟨by omega, fr_refl, ?_⟩ (by decide) (by decide) ?_ ?_
  · rw [hK]; funext j; rw [if_neg (by omega)]
  · rintro G i q hi ⟨hi0, hF, hq⟩ ih
    rw [if_neg (by omega), w32_id (x := 9 + i) (by omega) (by omega), w32_id (x := i + 1) (by omega) (by omega), chk_of (by omega), chk_of (by omega), hF 295 (by decide), hA i hi0 hi]
    refine ih _ ⟨by omega, fr_up (by simp) hF, ?_⟩
    rw [up_row, hq]
    funext j
    unfold ku
    dsimp only
    repeat' split
    all_goals first | rfl | (exfalso; omega) | (congr 1 <;> omega)
  · rintro G q ⟨_, hF, hq⟩
    rw [if_pos (by omega)]
    refine ok_some ⟨?_, hF⟩
    rw [hq]; funext j; unfold putK
    repeat' split
    all_goals first | rfl | (exfalso; omega)
/-! told deeds of the class -/
theorem iff01 {P : Prop} [Decidable P] : ((if P then (1 : Int) else 0) = 0) ↔ ¬ P := by split <;> simp [*]
/-- all but the kept states is the same -/
def SameC (K K' : Int → Int) : Prop := ∀ j, (j ≠ 7 ∧ (j < 37 ∨ 197 ≤ j)) → K' j = K j
theorem sameC_keep {K : Int → Int} : SameC K (keepK K) := fun j hj => keepK_out hj.1 hj.2
theorem sameC_I {K K' : Int → Int} (h : SameC K K') : SameI K K' := fun j hj => h j (by omega)
theorem sameC_ku {K K' : Int → Int} {i v : Int} (h : SameC K K') : SameC (ku K i v) (ku K' i v) := fun j hj => by
  unfold ku; split
  · rfl
  · exact h j hj
theorem CV_sameC {K K' : Int → Int} {c : Int} (h : SameC K K') (hV : CV c K) : CV c K' :=
  ⟨IsV_same (sameC_I h) hV.1, StV_isl (sameC_I h) (StV_cong hV.1.2.1.2 (fun i a b => h _ (by omega)) hV.2)⟩
theorem CR_sameC {K K' : Int → Int} {m : Mem} (h : SameC K K') (hI : IsV K) (hR : CR K m) : CR K' m := by
  refine ⟨IsR_same (sameC_I h) hI hR.1, ?_⟩
  rw [h 3 (by omega)]
  exact LfR_cong hI.2.1.2 (fun i a b => h _ (by omega)) hR.2
theorem evs_congc {c c' nm : Int → Int} : ∀ {n : Nat}, (∀ i : Nat, c' i = c i) → evs c' nm n = evs c nm n := by
  intro n h
  induction n with
  | zero => rfl
  | succ n ih => show stp (c' n) nm (evs c' nm n) = stp (c n) nm (evs c nm n); rw [h n, ih]
theorem lenF_sameC {K K' : Int → Int} {p r h : Int} (hs : SameC K K') (p0 : 0 ≤ p) (p4 : p < 4) : lenF K' p r h = lenF K p r h := by
  have e9 : K' (9 + p) = K (9 + p) := hs _ (by omega)
  have enm : nmL K' p r h = nmL K p r h := by
    funext w
    unfold nmL rainF
    rw [e9, hs 22 (by omega), hs 23 (by omega)]
  have el : lawF (fun i => K' (197 + i)) (nmL K' p r h) (K' 5) = lawF (fun i => K (197 + i)) (nmL K p r h) (K 5) := by
    unfold lawF
    rw [enm, hs 5 (by omega), evs_congc (c := fun i => K (197 + i)) (c' := fun i => K' (197 + i)) (fun i => hs _ (by omega))]
  unfold lenF
  rw [el, e9, hs 5 (by omega)]
theorem mayF_sameC {K K' : Int → Int} {p who k h : Int} (hs : SameC K K') : mayF K' p who k h = mayF K p who k h := by
  have enm : nmM K' p who k h = nmM K p who k h := by
    funext w
    unfold nmM rainF
    rw [hs 1 (by omega), hs 22 (by omega), hs 23 (by omega)]
  have el : lawF (fun i => K' (1097 + i)) (nmM K' p who k h) (K' 6) = lawF (fun i => K (1097 + i)) (nmM K p who k h) (K 6) := by
    unfold lawF
    rw [enm, hs 6 (by omega), evs_congc (c := fun i => K (1097 + i)) (c' := fun i => K' (1097 + i)) (fun i => hs _ (by omega))]
  unfold mayF
  rw [el, hs 6 (by omega)]
theorem goF_sameC {K K' : Int → Int} {p who t : Int} (hs : SameC K K') (p0 : 0 ≤ p) (p4 : p < 4) : goF K' p who t = goF K p who t := by
  have ef : fromF K' p who = fromF K p who := by unfold fromF; rw [hs (13 + p) (by omega), hs (17 + p) (by omega)]
  unfold goF
  rw [ef, hs 1 (by omega), hs 2 (by omega), hs 8 (by omega), hs 24 (by omega), mayF_sameC hs]
theorem whyF_sameC {K K' : Int → Int} {p t u : Int} (hs : SameC K K') (h3 : K 3 ≤ 4) : whyF K' p t u = whyF K p t u := by
  by_cases hp : 0 ≤ p ∧ p < K 3
  · unfold whyF
    rw [hs 3 (by omega), goF_sameC hs hp.1 (by omega), goF_sameC hs hp.1 (by omega), lenF_sameC hs hp.1 (by omega), hs 21 (by omega), hs 1 (by omega), hs (25 + p) (by omega), hs 24 (by omega)]
  · rw [whyF_p hp, whyF_p (by rw [hs 3 (by omega)]; exact hp)]
theorem toldF_sameC {K K' : Int → Int} {v : Int} (hs : SameC K K') (h3 : K 3 ≤ 4) : toldF K' v = toldF K v := by
  unfold toldF
  rw [whyF_sameC hs h3, hs 3 (by omega)]
/-- what a told deed does, once it can be -/
def FD : List Nat := [27, 28, 29, 30, 36, 37]
theorem WRel_CR {K : Int → Int} {m : Mem} (h : WRel 19 K m) : CR K m := ⟨h.1, h.2.1⟩
theorem KV_CV {K : Int → Int} {c : Int} (h : KV c K) : CV c K := ⟨h.1, h.2.1⟩
theorem WRel_fr2 {K : Int → Int} {m m' : Mem} (h : WRel 19 K m) (hF : Fr [36, 37] m m') : WRel 19 K m' := WRel_fr h (fun o a b d e => hF o (by simp; omega))
/-- the end of a told deed, kept or not -/
def ToldEnd (K : Int → Int) (v d : Int) (m : Mem) (r : Int × Mem) : Prop :=
  r.1 = 0 ∧ (d = 0 → CR (doesK K v) r.2 ∧ Fr FD m r.2) ∧ (d = 1 → ∃ m2, WRel 19 (keepK K) m2 ∧ Fr (36 :: 37 :: 19 :: pastC) m m2 ∧ m2 19 3 = m 19 3 ∧ CR (doesK (keepK K) v) r.2 ∧ Fr FD m2 r.2)
theorem told_tail {K : Int → Int} {c v d : Int} {m m1 : Mem} {X : Mem → Option (Int × Mem)} (hR : CR K m) (hV : CV c K) (hd : d = 0 ∨ (d = 1 ∧ KV c K ∧ WRel 19 K m)) (hF : Fr [36, 37] m m1)
    (hX : ∀ K' mm, CR K' mm → CV c K' → SameC K K' → Ok (X mm) (fun r => r.1 = 0 ∧ CR (doesK K' v) r.2 ∧ Fr FD mm r.2)) :
    Ok (if d = (0 : Int) then X m1 else bV (fX10_remember m1) X) (ToldEnd K v d m) := by
  rcases hd with hd | ⟨hd, hKV, hW⟩
  · rw [if_pos hd]
    refine ok_imp (hX K m1 (CR_fr2 hR hF) hV (fun j _ => rfl)) ?_
    rintro r ⟨e, h1, h2⟩
    exact ⟨e, fun _ => ⟨h1, fr_trans (fr_mono' hF (by decide)) h2⟩, fun q => by omega⟩
  · rw [if_neg (by omega)]
    refine ok_bV (c_remember (WRel_fr2 hW hF) hKV) ?_
    rintro m2 ⟨h1, h2, h5⟩
    refine ok_imp (hX (keepK K) m2 (WRel_CR h1) (CV_sameC sameC_keep hV) sameC_keep) ?_
    rintro r ⟨e, h3, h4⟩
    refine ⟨e, fun q => by omega, fun _ => ⟨m2, h1, fr_trans (fr_mono hF (fun o ho => ?_)) (fr_mono h2 (fun o ho => ?_)), h5.trans (by rw [hF 19 (by decide)]), h3, h4⟩⟩
    · simp at ho; rcases ho with e | e <;> simp [e]
    · exact List.mem_cons_of_mem _ (List.mem_cons_of_mem _ ho)
theorem c_doTold {K : Int → Int} {c v d : Int} {m : Mem} (hR : CR K m) (hV : CV c K) (c0 : 0 ≤ c) (c1 : c ≤ 1000000) (v0 : -9223372036854775808 ≤ v) (v1 : v < 9223372036854775808)
    (hd : d = 0 ∨ (d = 1 ∧ KV c K ∧ WRel 19 K m)) :
    Ok (fX10_doTold v d m) (fun r => (toldF K v ≠ 0 → r.1 = toldF K v ∧ Fr [36, 37] m r.2) ∧ (toldF K v = 0 → ToldEnd K v d m r)) := by
  have l3 := hV.1.2.1
  have e3 : m 20 5 = K 3 := hR.1.1.2.2.2.2.2
  have one : toldF K v = 1 → Ok (some ((1 : Int), m)) (fun r => (toldF K v ≠ 0 → r.1 = toldF K v ∧ Fr [36, 37] m r.2) ∧ (toldF K v = 0 → ToldEnd K v d m r)) := fun h => ok_some ⟨fun _ => ⟨h.symm, fr_refl⟩, fun q => by omega⟩
  have fin : ∀ x : Option (Int × Mem), toldF K v = 0 → Ok x (ToldEnd K v d m) → Ok x (fun r => (toldF K v ≠ 0 → r.1 = toldF K v ∧ Fr [36, 37] m r.2) ∧ (toldF K v = 0 → ToldEnd K v d m r)) := fun x h k => ok_imp k (fun r hr => ⟨fun q => absurd h q, fun _ => hr⟩)
  unfold fX10_doTold
  simp only [rd_eq, wr_eq, jn_eq, e3]
  by_cases hA : v = -1
  · have h0 : toldF K v = 0 := by unfold toldF; rw [if_pos (.inl hA)]
    refine fin _ h0 ?_
    subst hA
    simp only [show w32 (-1) = -1 from by decide, Int.reduceLT, Int.reduceLE, Int.reduceEq, Int.reduceNeg, reduceIte, not_true_eq_false, not_false_eq_true]
    refine told_tail hR hV hd fr_refl ?_
    intro K' mm hR' hV' hs
    refine ok_bV (c_passHour hR' hV' c0 c1) ?_
    rintro m' ⟨a, b⟩
    refine ok_some ⟨rfl, ?_, fr_mono' b (by decide)⟩
    rw [doesK, if_pos rfl]; exact a
  · by_cases hB : 2000 ≤ v ∧ v ≤ 2009
    · have h0 : toldF K v = 0 := by unfold toldF; rw [if_pos (.inr hB)]
      refine fin _ h0 ?_
      rw [if_neg (show ¬ v < -1 by omega), if_pos (show v ≤ 2009 by omega), w32_id (x := v) (by omega) (by omega)]
      simp only [if_neg (show ¬ v < 0 by omega), if_pos (show 400 ≤ v by omega), if_neg (show ¬ v < 1000 by omega), if_pos (show 1040 ≤ v by omega), if_neg hA, if_neg (show ¬ v < 2000 by omega), Int.reduceEq, reduceIte, not_true_eq_false, not_false_eq_true]
      refine told_tail hR hV hd fr_refl ?_
      intro K' mm hR' hV' hs
      rw [w32_id (by omega) (by omega)]
      refine ok_bV (c_letRain hR' hV' c1 (by omega) (by omega)) ?_
      rintro m' ⟨a, b⟩
      refine ok_some ⟨rfl, ?_, fr_mono' b (by decide)⟩
      rw [doesK, if_neg hA, if_neg (by omega), if_neg (by omega)]; exact a
    · have t0 : ¬ (v = -1 ∨ (2000 ≤ v ∧ v ≤ 2009)) := by omega
      by_cases hC : 0 ≤ v ∧ v ≤ 399
      · have hT : toldF K v = whyF K (v / 100) (v / 10 % 10) (v % 10) := by unfold toldF; rw [if_neg t0, if_pos hC]
        rw [if_neg (show ¬ v < -1 by omega), if_pos (show v ≤ 2009 by omega), w32_id (x := v) (by omega) (by omega)]
        simp only [if_neg (show ¬ v < 0 by omega), if_neg (show ¬ 400 ≤ v by omega), if_pos (show v < 1000 by omega), if_neg hA, if_pos (show v < 2000 by omega), Int.reduceEq, reduceIte, not_true_eq_false, not_false_eq_true, tdiv_e 100 hC.1, tdiv_e 10 hC.1, tmod_e 10 hC.1, tmod_e 10 (show 0 ≤ v / 10 by omega)]
        refine ok_bW (c_whyNoStep hR hV c1) ?_
        rintro x m1 ⟨ex, hF⟩
        simp only at ex hF
        subst ex
        by_cases hw : whyF K (v / 100) (v / 10 % 10) (v % 10) = 0
        · rw [if_pos hw]
          refine fin _ (hT.trans hw) ?_
          refine told_tail hR hV hd hF ?_
          intro K' mm hR' hV' hs
          have hw' : whyF K' (v / 100) (v / 10 % 10) (v % 10) = 0 := (whyF_sameC hs l3.2).trans hw
          obtain ⟨wp, wt, _⟩ := whyF_inv hw'
          refine ok_bV (c_walk hR' hV' wp.1 wp.2) ?_
          rintro m2 ⟨a2, b2⟩
          refine ok_bV (c_passHour a2 (CV_walk hV' hw') c0 c1) ?_
          rintro m' ⟨a, b⟩
          refine ok_some ⟨rfl, ?_, fr_trans (fr_mono' b2 (by decide)) (fr_mono' b (by decide))⟩
          rw [doesK, if_neg hA, if_pos (by omega)]; exact a
        · rw [if_neg hw]
          exact ok_some ⟨fun _ => ⟨hT.symm, hF⟩, fun q => absurd (hT.symm.trans q) hw⟩
      · by_cases hD : 1000 ≤ v ∧ v ≤ 1039
        · rw [if_neg (show ¬ v < -1 by omega), if_pos (show v ≤ 2009 by omega), w32_id (x := v) (by omega) (by omega), w32_id (x := v - 1000) (by omega) (by omega), tdiv_e 10 (show 0 ≤ v - 1000 by omega)]
          by_cases hE : (v - 1000) / 10 < K 3
          · have h0 : toldF K v = 0 := by unfold toldF; rw [if_neg t0, if_neg hC, if_pos ⟨hD, hE⟩]
            refine fin _ h0 ?_
            simp only [if_neg (show ¬ v < 0 by omega), if_pos (show 400 ≤ v by omega), if_neg (show ¬ v < 1000 by omega), if_neg (show ¬ 1040 ≤ v by omega), if_neg (show ¬ K 3 ≤ (v - 1000) / 10 by omega), if_neg hA, if_pos (show v < 2000 by omega), Int.reduceEq, reduceIte, not_true_eq_false, not_false_eq_true]
            refine told_tail hR hV hd fr_refl ?_
            intro K' mm hR' hV' hs
            rw [chk_of (by omega), tmod_e 10 (by omega)]
            refine ok_some ⟨rfl, ?_, fr_up (by decide) fr_refl⟩
            rw [doesK, if_neg hA, if_neg (by omega), if_pos (by omega)]
            exact CR_tie hR' hV' (by omega) (by rw [hs 3 (by omega)]; exact hE)
          · have h1 : toldF K v = 1 := by unfold toldF; rw [if_neg t0, if_neg hC, if_neg (by omega)]
            simp only [if_neg (show ¬ v < 0 by omega), if_pos (show 400 ≤ v by omega), if_neg (show ¬ v < 1000 by omega), if_neg (show ¬ 1040 ≤ v by omega), if_pos (show K 3 ≤ (v - 1000) / 10 by omega), if_neg hA, if_pos (show v < 2000 by omega), Int.reduceEq, reduceIte, not_true_eq_false, not_false_eq_true]
            exact one h1
        · have h1 : toldF K v = 1 := by unfold toldF; rw [if_neg t0, if_neg hC, if_neg (by omega)]
          have other : ∀ n : Int, n ≠ -1 → n < 0 ∨ 400 ≤ n → n < 1000 ∨ 1040 ≤ n → n < 2000 → toldF K v = 1 := fun _ _ _ _ _ => h1
          by_cases hX : v < -1
          · rw [if_pos hX]
            simp only [Int.reduceLT, Int.reduceLE, Int.reduceEq, Int.reduceNeg, reduceIte, not_true_eq_false, not_false_eq_true]
            exact one h1
          · by_cases hY : v ≤ 2009
            · rw [if_neg hX, if_pos hY, w32_id (x := v) (by omega) (by omega)]
              by_cases hZ : v < 1000
              · simp only [if_neg (show ¬ v < 0 by omega), if_pos (show 400 ≤ v by omega), if_pos hZ, if_neg hA, if_pos (show v < 2000 by omega), Int.reduceEq, reduceIte, not_true_eq_false, not_false_eq_true]
                exact one h1
              · simp only [if_neg (show ¬ v < 0 by omega), if_pos (show 400 ≤ v by omega), if_neg hZ, if_pos (show 1040 ≤ v by omega), if_neg hA, if_pos (show v < 2000 by omega), Int.reduceEq, reduceIte, not_true_eq_false, not_false_eq_true]
                exact one h1
            · rw [if_neg hX, if_neg hY]
              simp only [Int.reduceLT, Int.reduceLE, Int.reduceEq, Int.reduceNeg, reduceIte, not_true_eq_false, not_false_eq_true]
              exact one h1

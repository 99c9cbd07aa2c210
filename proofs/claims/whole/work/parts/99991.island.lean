/-! ===== D98: the model's island ===== -/
theorem m_island {T K0 K : Int → Int} {n f pl : Int} {r : Mem} (n0 : 0 ≤ n) (hn : n ≤ r 287 6) (hT : TapT T n r) (hK0 : K0 = fun x => if 0 ≤ x ∧ x < 2005 then 0 else r 289 x) (hpl : f = 0 → pl = -1)
    (hM : ∀ (Q : Int × Mem → Prop) (R : Mem → Option (Int × Mem)) (mm : Mem), (mm 287 7 = n ∧ TapT T n mm) → mm 287 8 = 0 → mm 287 12 = 0 → mm 287 16 = 0 → mm 289 = K0 → (∀ mm', ReadM n f pl K mm' → FM mm mm' → Ok (R mm') Q) →
        Ok (bV (fX12_readsOn mm) fun mm => bV (fX12_mustWord 19 mm) fun mm => bW (fX12_number 2 5 mm) fun x5 mm => bW (fX12_number 2 5 (up mm 289 1 x5)) fun x6 mm => bV (fX12_readStop (up mm 289 2 x6)) fun mm => lp BIG (fun (K8 : Unit → Mem → Option (Int × Mem)) (t7 : Unit) mm => if ¬ mm 287 12 = 0 then R mm else if mm 287 10 = 0 then R mm else bV (fX12_readLine mm) fun mm => K8 () mm) () mm) Q)
    (hw : f = 0 → w32 (K 23 + K 24) = K 23 + K 24) :
    Ok (fX12_island n r) (fun s => (s.2 287 4 = 0 ∧ s.2 287 6 = 0) ∧ (s.2 287 14 = f ∧ s.2 287 15 = pl) ∧ Fr [287, 288, 289] r s.2 ∧ (f ≠ 0 → s.1 = w32 (-10 - f) ∧ s.2 288 = r 288) ∧ (f = 0 → s.1 = ku K 23 (K 23 + K 24) 0 ∧ ∀ x, 0 ≤ x → x < 2005 → s.2 288 x = ku K 23 (K 23 + K 24) x)) := by
  unfold fX12_island
  simp only [rd_eq]
  simp only [wr_eq]
  simp only [jn_eq]
  rw [up_idx (show (6 : Int) ≠ 4 by decide), m_within, bR_some, if_pos (show ¬ (if 0 ≤ n ∧ n ≤ r 287 6 then (1 : Int) else 0) = 0 by rw [if_pos ⟨n0, hn⟩]; decide)]
  generalize hb : up (up (up (up (up (up r 287 4 0) 287 7 n) 287 6 0) 287 8 0) 287 12 0) 287 16 0 = b
  have F0 : Fr [287, 288, 289] r b := by rw [← hb]; exact fr_up (by decide) (fr_up (by decide) (fr_up (by decide) (fr_up (by decide) (fr_up (by decide) (fr_up (by decide) fr_refl)))))
  have q4 : b 287 4 = 0 := by rw [← hb]; simp [up]
  have q6 : b 287 6 = 0 := by rw [← hb]; simp [up]
  have q7 : b 287 7 = n := by rw [← hb]; simp [up]
  have q8 : b 287 8 = 0 := by rw [← hb]; simp [up]
  have q12 : b 287 12 = 0 := by rw [← hb]; simp [up]
  have q16 : b 287 16 = 0 := by rw [← hb]; simp [up]
  have q289 : b 289 = r 289 := by rw [← hb]; simp [up_cell]
  have q288 : b 288 = r 288 := by rw [← hb]; simp [up_cell]
  have q292 : b 292 = r 292 := by rw [← hb]; simp [up_cell]
  clear hb
  refine lp_for 2005 (fun i mm => 0 ≤ i ∧ Fr [289] b mm ∧ ∀ x, mm 289 x = if 0 ≤ x ∧ x < i then 0 else r 289 x) ⟨by decide, fr_refl, fun x => by rw [if_neg (by omega), q289]⟩ (by decide) (by decide) ?_ ?_
  · rintro Kk i mm hi ⟨i0, h1, h2⟩ ih
    rw [if_neg (show ¬ 2005 ≤ i by omega), chk_of (by omega), w32_id (x := i + 1) (by omega) (by omega)]
    refine ih _ ⟨by omega, fr_up (by simp) h1, fun x => ?_⟩
    rw [up_at, h2]
    by_cases z : x = i
    · rw [if_pos z, if_pos (by omega)]
    · rw [if_neg z]
      by_cases z2 : 0 ≤ x ∧ x < i
      · rw [if_pos z2, if_pos (by omega)]
      · rw [if_neg z2, if_neg (by omega)]
  · rintro Kk mm ⟨_, h1, h2⟩
    rw [if_pos (Int.le_refl _)]
    have r287 : mm 287 = b 287 := h1 287 (by decide)
    refine hM _ _ mm ⟨by rw [r287]; exact q7, fun i x y => by rw [h1 292 (by decide), q292]; exact hT i x y⟩ (by rw [r287]; exact q8) (by rw [r287]; exact q12) (by rw [r287]; exact q16) (by rw [hK0]; exact funext h2) ?_
    rintro mm1 ⟨⟨e1, e2⟩, e3⟩ hG
    have F1 : Fr [287, 288, 289] r mm1 := fr_trans F0 (fr_trans (fr_mono' h1 (by decide)) (fr_mono' hG.1 (by decide)))
    have g4 : mm1 287 4 = 0 := by rw [hG.2 4 (by decide), r287]; exact q4
    have g6 : mm1 287 6 = 0 := by rw [hG.2 6 (by decide), r287]; exact q6
    have g288 : mm1 288 = r 288 := by rw [hG.1 288 (by decide), h1 288 (by decide)]; exact q288
    rw [up_idx (show (12 : Int) ≠ 14 by decide), e1]
    by_cases hf : f = 0
    · rw [if_neg (fun z => z hf), up_idx (show (12 : Int) ≠ 15 by decide), up_idx (show (12 : Int) ≠ 14 by decide), e1, if_pos hf]
      generalize hu : up (up mm1 287 14 f) 287 15 (-1) = u
      have u287 : ∀ j, j ≠ 14 → j ≠ 15 → u 287 j = mm1 287 j := fun j x y => by rw [← hu, up_idx y, up_idx x]
      have u14 : u 287 14 = f := by rw [← hu, up_idx (by decide), up_same]
      have u15 : u 287 15 = pl := by rw [← hu, up_same, hpl hf]
      have Fu : Fr [287, 288, 289] r u := by rw [← hu]; exact fr_up (by decide) (fr_up (by decide) F1)
      have u289 : u 289 = K := by rw [← hu, up_cell (by decide), up_cell (by decide)]; exact e3 hf
      clear hu
      refine lp_for 2005 (fun i mm => 0 ≤ i ∧ Fr [288] u mm ∧ ∀ x, 0 ≤ x → x < i → mm 288 x = K x) ⟨by decide, fr_refl, fun x a b => by omega⟩ (by decide) (by decide) ?_ ?_
      · rintro Kk2 i m3 hi ⟨i0, k1, k2⟩ ih
        have k289 : m3 289 = K := (k1 289 (by decide)).trans u289
        rw [if_neg (show ¬ 2005 ≤ i by omega), chk_of (by omega), chk_of (by omega), w32_id (x := i + 1) (by omega) (by omega), k289]
        refine ih _ ⟨by omega, fr_up (by simp) k1, fun x a b => ?_⟩
        rw [up_at]
        by_cases z : x = i
        · rw [if_pos z, z]
        · rw [if_neg z]; exact k2 x a (by omega)
      · rintro Kk2 m3 ⟨_, k1, k2⟩
        rw [if_pos (Int.le_refl _), k2 23 (by decide) (by decide), k2 24 (by decide) (by decide), hw hf]
        have k287 : m3 287 = u 287 := k1 287 (by decide)
        have all : ∀ x, 0 ≤ x → x < 2005 → up m3 288 23 (K 23 + K 24) 288 x = ku K 23 (K 23 + K 24) x := fun x a b => by
          rw [up_at]
          by_cases z : x = 23
          · rw [if_pos z, z, ku_at]
          · rw [if_neg z, ku_ne z]; exact k2 x a b
        refine ok_some ⟨⟨?_, ?_⟩, ⟨?_, ?_⟩, fr_up (by decide) (fr_trans Fu (fr_mono' k1 (by decide))), fun z => absurd hf z, fun _ => ⟨all 0 (by decide) (by decide), all⟩⟩
        · simp only; rw [up_cell (by decide), k287, u287 4 (by decide) (by decide)]; exact g4
        · simp only; rw [up_cell (by decide), k287, u287 6 (by decide) (by decide)]; exact g6
        · simp only; rw [up_cell (by decide), k287]; exact u14
        · simp only; rw [up_cell (by decide), k287]; exact u15
    · rw [if_pos hf, up_idx (show (13 : Int) ≠ 14 by decide), e2 hf, up_idx (show (12 : Int) ≠ 15 by decide), up_idx (show (12 : Int) ≠ 14 by decide), e1, if_neg hf]
      refine ok_some ⟨⟨?_, ?_⟩, ⟨?_, ?_⟩, fr_up (by decide) (fr_up (by decide) F1), fun _ => ⟨rfl, ?_⟩, fun z => absurd z hf⟩
      · simp only; rw [up_idx (by decide), up_idx (by decide)]; exact g4
      · simp only; rw [up_idx (by decide), up_idx (by decide)]; exact g6
      · simp only; rw [up_idx (by decide), up_same]
      · simp only; rw [up_same]
      · simp only; rw [up_cell (by decide), up_cell (by decide)]; exact g288

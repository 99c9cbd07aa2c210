/-! ===== D97: a text read ===== -/
theorem N_read {T : Int → Int} {n : Int} {m : Mem} {K0 : Int → Int} {ρ : Type} (hT : TxtR T n m) (n0 : 0 ≤ n) (n9 : n ≤ 900) (hZ : ∀ x, 0 ≤ x → x < 25 → K0 x = 0) :
    Ok (fX6_read n m) (fun mc' => ∃ f pl K, (mc' 2 3 = f ∧ mc' 2 4 = pl) ∧ Fr [2, 3, 4, 5, 6, 7, 8, 9, 10, 11, 12, 13, 14, 15, 16, 17] m mc' ∧
      (f = 0 → pl = -1 ∧ DV K ∧ IsR 7 (ku K 23 (K 23 + K 24)) mc' ∧ LfR 14 (ku K 23 (K 23 + K 24) 3) (fun i => ku K 23 (K 23 + K 24) (9 + i)) mc' ∧ IsV (ku K 23 (K 23 + K 24)) ∧ StV (ku K 23 (K 23 + K 24)) 999 (fun i => ku K 23 (K 23 + K 24) (9 + i))) ∧
      ∀ (Q : ρ → Prop) (R : Mem → Option ρ) (mm : Mem), (mm 287 7 = n ∧ TapT T n mm) → mm 287 8 = 0 → mm 287 12 = 0 → mm 287 16 = 0 → mm 289 = K0 → (∀ mm', ReadM n f pl K mm' → FM mm mm' → Ok (R mm') Q) →
        Ok (bV (fX12_readsOn mm) fun mm => bV (fX12_mustWord 19 mm) fun mm => bW (fX12_number 2 5 mm) fun x5 mm => bW (fX12_number 2 5 (up mm 289 1 x5)) fun x6 mm => bV (fX12_readStop (up mm 289 2 x6)) fun mm => lp BIG (fun (K8 : Unit → Mem → Option ρ) (t7 : Unit) mm => if ¬ mm 287 12 = 0 then R mm else if mm 287 10 = 0 then R mm else bV (fX12_readLine mm) fun mm => K8 () mm) () mm) Q) := by
  unfold fX6_read
  simp only [rd_eq]
  simp only [wr_eq]
  simp only [jn_eq]
  refine ok_bV (c_cut hT n0 n9) ?_
  rintro m1 ⟨cnt, pos, kd, vl, st, hSq, hTok, hF1⟩
  obtain ⟨S, hS, eT, en, hTokS⟩ : ∃ S : Stm, StmV S ∧ S.tx = T ∧ S.n = n ∧ TokC S.cnt S.kd S.vl S.st m1 := ⟨(T, n, cnt, pos, kd, vl, st), ⟨hSq, n0, n9⟩, rfl, rfl, hTok⟩
  have p0 : S.pos 0 = 0 := hS.1.2.1
  refine ok_bV c_wipe3 ?_
  rintro m2 ⟨a1, a2, a3, a4⟩
  refine ok_bV c_wipe5 ?_
  rintro m3 ⟨b1, b2, b3⟩
  have r2 : m3 2 = up (up (up (up (up m1 2 3 0) 2 4 (-1)) 2 5 0) 2 6 0) 2 7 0 2 := by rw [b3 2 (by decide), a4 2 (by decide)]
  have r : ∀ o, 3 ≤ o → o < 7 → m3 o = m1 o := fun o x y => by
    rw [b3 o (by simp; omega), a4 o (by simp; omega), up_cell (by omega), up_cell (by omega), up_cell (by omega), up_cell (by omega), up_cell (by omega)]
  have hC : CC S 0 (-1) 0 m3 := by
    refine ⟨fun i hi => by rw [r 4 (by decide) (by decide), r 5 (by decide) (by decide), r 6 (by decide) (by decide)]; exact hTokS i hi, ⟨?_, ?_⟩, fun _ => ⟨?_, Nat.zero_le _, rfl⟩⟩
    · rw [r2]; simp [up]
    · rw [r2]; simp [up]
    · rw [r2]; simp [up]
  have hW : WipC m3 := by
    refine ⟨fun j x y => by rw [b3 7 (by decide)]; exact a1 j x y, by rw [b3 10 (by decide)]; exact a2, by rw [b3 12 (by decide)]; exact a3, b1, b2, ?_, ?_⟩
    · rw [r2]; simp [up]
    · rw [r2]; simp [up]
  have F3 : Fr [2, 3, 4, 5, 6, 7, 8, 9, 10, 11, 12, 13, 14, 15, 16, 17] m m3 :=
    fr_trans (fr_trans (fr_up (by decide) (fr_up (by decide) (fr_up (by decide) (fr_up (by decide) (fr_up (by decide) (fr_mono' hF1 (by decide))))))) (fr_mono' a4 (by decide))) (fr_mono' b3 (by decide))
  refine ok_bV (N_head (ρ := ρ) hS hC hW hZ) ?_
  rintro m4 ⟨f1, pl1, i1, K1, c1, c2, c3⟩
  have big : 900 < BIG := Nat.lt_of_lt_of_le (by decide) BIG_ge
  have c9 := st_cnt hS
  refine N_lines (ρ := ρ) (E := fun mm => some (up mm 14 2 (w32 (mm 14 2 + mm 14 0)))) hS 900 BIG BIG 0 f1 pl1 i1 K1 m4 _ (fun _ => by omega) big big (Int.le_refl _) (fun _ => by omega) c1 ?_
  intro f' pl' i' K' m5 d1 d2 d3
  refine ok_some ⟨f', pl', K', ⟨?_, ?_⟩, fr_up (by decide) (fr_trans F3 (fr_trans (fr_mono' c2 (by decide)) (fr_mono' d2 (by decide)))), fun z => ?_, fun Q R mm hM h8 h12 h16 hK hR => ?_⟩
  · rw [up_cell (by decide)]; exact d1.1.2.1.1
  · rw [up_cell (by decide)]; exact d1.1.2.1.2
  · obtain ⟨e1, e2, e3⟩ := d1.2 z
    obtain ⟨k1, k2, k3, k4⟩ := end_kv e1 e2
    exact ⟨(d1.1.2.2 z).2.2, e2, k1, k2, k3, k4⟩
  · refine ok_bV (m_readsOn hM.2 hM.1 h8 n9 (Int.le_refl _) n0) ?_
    rintro mm1 ⟨g1, g2, g3⟩
    have hG : FM mm mm1 := ⟨fr_mono' g3 (by decide), fun j x => g2 j (by omega) (by omega) (by omega) (by omega)⟩
    have g1' : RdT S.tx S.n (S.pos 0) mm1 := by rw [eT, en, p0]; exact g1
    have hMC : MC S 0 (-1) 0 mm1 := by
      refine ⟨⟨by rw [g2 7 (by decide) (by decide) (by decide) (by decide), en]; exact hM.1, fun i x y => ?_⟩, ⟨(g2 12 (by decide) (by decide) (by decide) (by decide)).trans h12, fun z => absurd rfl z⟩, fun _ => rd_tok hS (Nat.zero_le _) g1'⟩
      rw [g3 292 (by decide), eT]; exact hM.2 i x (by rw [en] at y; exact y)
    refine c3 Q _ mm1 hMC ((g2 16 (by decide) (by decide) (by decide) (by decide)).trans h16) ((g3 289 (by decide)).trans hK) (fun mm2 l1 l2 => ?_)
    refine d3 Q R mm2 l1 (fun mm3 l3 l4 => ?_)
    refine hR mm3 ⟨⟨l3.1.2.1.1, fun z => l3.1.2.1.2 z⟩, fun z => (l3.2 z).2⟩ (fm_trans hG (fm_trans l2 l4))

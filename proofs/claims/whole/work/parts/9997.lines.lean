/-! ===== D95: the head and the lines ===== -/
def WipC (m : Mem) : Prop := (∀ j, 0 ≤ j → j ≤ 5 → m 7 j = 0) ∧ (m 10 1 = 0 ∧ m 10 4 = 0 ∧ m 10 5 = 0 ∧ m 10 6 = 0) ∧ (m 12 1 = 0 ∧ m 12 4 = 0 ∧ m 12 5 = 0 ∧ m 12 6 = 0) ∧ (∀ j, 0 ≤ j → j ≤ 3 → m 14 j = 0) ∧ (∀ p, 0 ≤ p → p < 4 → m 17 p = 0) ∧ (m 2 6 = 0 ∧ m 2 7 = 0)
theorem LawV_0 {c : Int → Int} {nw : Int} {t : Bool} : LawV c nw 0 t := ⟨by decide, by decide, fun z => absurd z (by decide), fun j T a b => by
  have : j = 0 := by
    have a' : j ≤ 0 := a
    omega
  subst this
  cases b; decide⟩
theorem head_dv {K : Int → Int} {w h : Int} (hw : 2 ≤ w ∧ w ≤ 5) (hh : 2 ≤ h ∧ h ≤ 5) (e0 : K 0 = 1) (e1 : K 1 = w) (e2 : K 2 = h) (z : ∀ x, 3 ≤ x → x < 25 → K x = 0) : DV K := by
  have z3 := z 3 (by decide) (by decide)
  have z4 := z 4 (by decide) (by decide)
  have z8 := z 8 (by decide) (by decide)
  refine ⟨by rw [e1, e2]; exact ⟨hw, hh⟩, ⟨.inr (by rw [e1, e2]; exact ⟨hw.1, hw.2, hh.1, hh.2⟩), by rw [z3]; decide, by rw [z4]; decide, by rw [z8]; exact ⟨by decide, by decide, fun i hi => by rw [tb_zero] at hi; exact absurd hi (by decide)⟩, fun h a b => by rw [z4] at b; omega, fun g h a b c => by rw [z4] at c; omega, fun p a b => by rw [z3] at b; omega, ?_, ?_⟩, ⟨fun p a b => by rw [z3] at b; omega, ?_, ?_, ?_, ?_⟩, ?_, ?_, ?_, ?_⟩
  · rw [z 5 (by decide) (by decide)]; exact LawV_0
  · rw [z 6 (by decide) (by decide)]; exact LawV_0
  · simp only
    rw [z (9 + 12) (by decide) (by decide)]; exact ⟨by decide, by decide, fun i hi => by rw [tb_zero] at hi; exact absurd hi (by decide)⟩
  · simp only
    rw [z (9 + 13) (by decide) (by decide)]; decide
  · simp only
    rw [z (9 + 14) (by decide) (by decide)]; decide
  · simp only
    rw [z (9 + 15) (by decide) (by decide)]; decide
  · rw [z 23 (by decide) (by decide)]; decide
  · exact z 21 (by decide) (by decide)
  · exact z 7 (by decide) (by decide)
  · rw [e0]; decide
theorem head_dr {K : Int → Int} {w h : Int} {m m' : Mem} (hW : WipC m) (e0 : K 0 = 1) (e1 : K 1 = w) (e2 : K 2 = h) (z : ∀ x, 3 ≤ x → x < 25 → K x = 0) (hq : ∀ o, 8 ≤ o → o < 18 → m' o = m o) (g0 : m' 7 0 = 1) (g1 : m' 7 1 = w) (g2 : m' 7 2 = h) (g : ∀ j, 3 ≤ j → m' 7 j = m 7 j) (b6 : m' 2 6 = m 2 6) (b7 : m' 2 7 = m 2 7) : DR K m' := by
  have z3 := z 3 (by decide) (by decide)
  have z4 := z 4 (by decide) (by decide)
  obtain ⟨w7, ⟨p1, p2, p3, p4⟩, ⟨q1, q2, q3, q4⟩, w14, w17, w26, w27⟩ := hW
  refine ⟨⟨⟨by rw [g0, e0], by rw [g1, e1], by rw [g2, e2], ?_, ?_, ?_⟩, fun h a b => by rw [z4] at b; omega, fun p a b => by rw [z3] at b; omega, ?_, ?_⟩, ⟨⟨?_, ?_, ?_, ?_⟩, fun p a b => by rw [z3] at b; omega⟩, ?_, ?_, fun p a b => ?_⟩
  · rw [g 3 (by decide), w7 3 (by decide) (by decide), z 8 (by decide) (by decide)]
  · rw [g 4 (by decide), w7 4 (by decide) (by decide), z4]
  · rw [g 5 (by decide), w7 5 (by decide) (by decide), z3]
  · rw [z 5 (by decide) (by decide)]
    have e : m' 10 = m 10 := hq 10 (by decide) (by decide)
    refine ⟨?_, ?_, fun i a b => by omega, ?_, ?_, fun _ i a b => by omega, fun _ i a b => by omega⟩
    · show m' 10 4 = _; rw [e, p2]; rfl
    · show m' 10 1 = _; rw [e, p1]
    · left; show m' 10 5 = _; rw [e, p3]
    · left; show m' 10 6 = _; rw [e, p4]
  · rw [z 6 (by decide) (by decide)]
    have e : m' 12 = m 12 := hq 12 (by decide) (by decide)
    refine ⟨?_, ?_, fun i a b => by omega, ?_, ?_, fun _ i a b => by omega, fun _ i a b => by omega⟩
    · show m' 12 4 = _; rw [e, q2]; rfl
    · show m' 12 1 = _; rw [e, q1]
    · left; show m' 12 5 = _; rw [e, q3]
    · left; show m' 12 6 = _; rw [e, q4]
  · rw [hq 14 (by decide) (by decide), w14 0 (by decide) (by decide)]; exact (z (9 + 15) (by decide) (by decide)).symm
  · rw [hq 14 (by decide) (by decide), w14 1 (by decide) (by decide)]; exact (z (9 + 13) (by decide) (by decide)).symm
  · rw [hq 14 (by decide) (by decide), w14 2 (by decide) (by decide)]; exact (z (9 + 14) (by decide) (by decide)).symm
  · rw [hq 14 (by decide) (by decide), w14 3 (by decide) (by decide)]; exact (z (9 + 12) (by decide) (by decide)).symm
  · rw [b6, w26]; exact bits_zero (fun i _ => by rintro ⟨h, ⟨a, b⟩, _⟩; rw [z4] at b; omega)
  · rw [b7, w27]; exact bits_zero (fun i _ => by rintro ⟨h, ⟨a, b⟩, _⟩; rw [z3] at b; omega)
  · rw [z3] at a; rw [hq 17 (by decide) (by decide)]; exact w17 p a b
theorem N_lines {S : Stm} (hS : StmV S) {ρ : Type} {E : Mem → Option Mem} : ∀ (d nC nM : Nat) (t f pl : Int) (i : Nat) (K : Int → Int) (mc : Mem) (P : Mem → Prop), (f = 0 → S.cnt ≤ i + d) → d < nC → d < nM → 0 ≤ t → (f = 0 → t ≤ (i : Int)) → LsC S f pl i K mc →
    (∀ f' pl' i' K' m1, LsC S f' pl' i' K' m1 → FC mc m1 → (∀ (Q : ρ → Prop) (J : Mem → Option ρ) (mm : Mem), LsM S f pl i K mm → (∀ mm', LsM S f' pl' i' K' mm' → FM mm mm' → Ok (J mm') Q) → Ok (lp nM (fun (K8 : Unit → Mem → Option ρ) (t7 : Unit) mm => if ¬ mm 287 12 = 0 then J mm else if mm 287 10 = 0 then J mm else bV (fX12_readLine mm) fun mm => K8 () mm) () mm) Q) → Ok (E m1) P) →
    Ok (lp nC (fun (K2 : Int → Mem → Option Mem) (t1 : Int) mm => if 900 ≤ t1 then E mm else bR (fX6_token mm) fun x7 => if x7 = 0 then E mm else bV (fX6_readLine mm) fun mm => K2 (w32 (t1 + 1)) mm) t mc) P
  | d, 0, _, _, _, _, _, _, _, _, _, h, _, _, _, _, _ => absurd h (by omega)
  | d, _, 0, _, _, _, _, _, _, _, _, _, h, _, _, _, _ => absurd h (by omega)
  | d, nC + 1, nM + 1, t, f, pl, i, K, mc, P, h1, h2, h3, t0, h4, hC, hE => by
    have c9 := st_cnt hS
    show Ok (if 900 ≤ t then E mc else bR (fX6_token mc) fun x7 => if x7 = 0 then E mc else bV (fX6_readLine mc) fun mm => lp nC _ (w32 (t + 1)) mm) P
    rw [c_token hS hC.1, bR_some]
    by_cases go : f = 0 ∧ S.kd i ≠ 0
    · obtain ⟨rfl, hk⟩ := go
      obtain ⟨hi, _⟩ := c_adv hS hC.1 hk
      have ti := h4 rfl
      rw [if_neg (show ¬ 900 ≤ t by omega), if_pos rfl, if_neg hk, w32_id (x := t + 1) (by omega) (by omega)]
      refine ok_bV (N_line hS hC hk) ?_
      rintro m1 ⟨f1, pl1, i1, K1, a1, a2, a3, a4⟩
      have hd : 0 < d := by have := h1 rfl; omega
      refine N_lines hS (ρ := ρ) (d - 1) nC nM (t + 1) f1 pl1 i1 K1 m1 P (fun z => by have := a3 z; have := h1 rfl; omega) (by omega) (by omega) (by omega) (fun z => by have := a3 z; omega) a1 ?_
      intro f' pl' i' K' m2 b1 b2 b3
      refine hE f' pl' i' K' m2 b1 (fc_trans a2 b2) (fun Q J mm hM hJ => ?_)
      show Ok (if ¬ mm 287 12 = 0 then J mm else if mm 287 10 = 0 then J mm else bV (fX12_readLine mm) fun mm => lp nM _ () mm) Q
      have tk : mm 287 10 ≠ 0 := fun z => hk (((mtok_num hS (by omega)).2.2).mp (by rw [← (hM.1.2.2 rfl).2.2.1]; exact z))
      rw [hM.1.2.1.1, if_neg (show ¬ ¬ (0 : Int) = 0 from fun z => z rfl), if_neg tk]
      refine ok_bV (a4 mm hM) ?_
      rintro mm1 ⟨c1, c2⟩
      exact b3 Q J mm1 c1 (fun mm' x y => hJ mm' x (fm_trans c2 y))
    · have z0 : (if f = 0 then S.kd i else 0) = 0 := by
        by_cases hf : f = 0
        · rw [if_pos hf]
          by_cases hk : S.kd i = 0
          · exact hk
          · exact absurd ⟨hf, hk⟩ go
        · rw [if_neg hf]
      have last : Ok (E mc) P := by
        refine hE f pl i K mc hC fc_refl (fun Q J mm hM hJ => ?_)
        show Ok (if ¬ mm 287 12 = 0 then J mm else if mm 287 10 = 0 then J mm else bV (fX12_readLine mm) fun mm => lp nM _ () mm) Q
        rw [hM.1.2.1.1]
        by_cases hf : f = 0
        · rw [if_neg (fun z => z hf)]
          rw [if_pos hf] at z0
          have tk : mm 287 10 = 0 := by rw [(hM.1.2.2 hf).2.2.1]; exact ((mtok_num hS (hC.1.2.2 hf).2.1).2.2).mpr z0
          rw [if_pos tk]; exact hJ mm hM fm_refl
        · rw [if_pos hf]; exact hJ mm hM fm_refl
      rw [if_pos z0]
      by_cases t9 : 900 ≤ t
      · rw [if_pos t9]; exact last
      · rw [if_neg t9]; exact last
theorem N_head {S : Stm} {K : Int → Int} {mc : Mem} (hS : StmV S) (hC : CC S 0 (-1) 0 mc) (hW : WipC mc) (hZ : ∀ x, 0 ≤ x → x < 25 → K x = 0) {ρ : Type} :
    Ok (fX6_readHead mc) (fun mc' => ∃ f' pl' i' K', LsC S f' pl' i' K' mc' ∧ FC mc mc' ∧ ∀ (Q : ρ → Prop) (R : Mem → Option ρ) (mm : Mem), MC S 0 (-1) 0 mm → mm 287 16 = 0 → mm 289 = K → (∀ mm', LsM S f' pl' i' K' mm' → FM mm mm' → Ok (R mm') Q) →
      Ok (bV (fX12_mustWord 19 mm) fun mm => bW (fX12_number 2 5 mm) fun x5 mm => bW (fX12_number 2 5 (up mm 289 1 x5)) fun x6 mm => bV (fX12_readStop (up mm 289 2 x6)) R) Q) := by
  unfold fX6_readHead
  simp only [wr_eq]
  refine ok_bV (c_takeW (j := 8) hS (by decide) (by decide) hC) ?_
  rintro m1 ⟨f1, pl1, i1, a1, a2, a3, a4⟩
  refine ok_bW (c_number hS a1) ?_
  rintro w m2 ⟨f2, pl2, i2, b1, b2, b3, b4⟩
  simp only at b1 b2 b3 b4
  refine ok_bW (c_number hS (cC_up (o := 7) (x := 1) (v := w) b1 (by decide))) ?_
  rintro h m3 ⟨f3, pl3, i3, d1, d2, d3, d4⟩
  simp only at d1 d2 d3 d4
  refine ok_bV (c_take hS (by unfold SgnB; decide) (cC_up (o := 7) (x := 2) (v := h) d1 (by decide))) ?_
  rintro m4 ⟨f4, pl4, i4, g1, g2, g3, g4⟩
  have F2' := f2_trans a2 b2
  have r7 : m4 7 = up m3 7 2 h 7 := g2.1 7 (by decide)
  have r7b : m3 7 = up m2 7 1 w 7 := d2.1 7 (by decide)
  have r7c : m2 7 = mc 7 := F2'.1 7 (by decide)
  have row : ∀ o, o ≠ 2 → o ≠ 7 → m4 o = mc o := fun o a b => by rw [g2.1 o (by simp; exact a), up_cell b, d2.1 o (by simp; exact a), up_cell b]; exact F2'.1 o (by simp; exact a)
  have r2 : ∀ j, j ≠ 3 → j ≠ 4 → j ≠ 5 → m4 2 j = mc 2 j := fun j x y z => by rw [g2.2 j x y z, up_cell (by decide), d2.2 j x y z, up_cell (by decide)]; exact F2'.2 j x y z
  have u : ∀ x, x ≠ 0 → x ≠ 1 → x ≠ 2 → ku (ku (ku K 1 w) 2 h) 0 1 x = K x := fun x p q r => by rw [ku_ne p, ku_ne r, ku_ne q]
  have u0 : ku (ku (ku K 1 w) 2 h) 0 1 0 = 1 := ku_at _ _ _
  have u1 : ku (ku (ku K 1 w) 2 h) 0 1 1 = w := by rw [ku_ne (by decide), ku_ne (by decide), ku_at]
  have u2 : ku (ku (ku K 1 w) 2 h) 0 1 2 = h := by rw [ku_ne (by decide), ku_at]
  have uz : ∀ x, 3 ≤ x → x < 25 → ku (ku (ku K 1 w) 2 h) 0 1 x = 0 := fun x p q => by rw [u x (by omega) (by omega) (by omega)]; exact hZ x (by omega) q
  have hFC : FC mc (up m4 7 0 1) := fr_up (by simp) (fc_trans (fr_up (by simp) (fc_trans (fr_up (by simp) (fc_f2 F2')) (fc_f2 d2))) (fc_f2 g2))
  refine ok_some ⟨f4, pl4, i4, ku (ku (ku K 1 w) 2 h) 0 1, ⟨cC_up g1 (by decide), fun z => ?_⟩, hFC, fun Q R mm hM m16 mK hR => ?_⟩
  · obtain ⟨z3, _, e4⟩ := g3 z
    obtain ⟨z2, _, e3, _, h1, h2⟩ := d3 z3
    obtain ⟨z1, _, e2, _, w1, w2⟩ := b3 z2
    refine ⟨head_dr hW u0 u1 u2 uz (fun o a b => by rw [up_cell (by omega)]; exact row o (by omega) (by omega)) (up_same _ _ _ _) ?_ ?_ (fun j hj => ?_) ?_ ?_, head_dv ⟨w1, w2⟩ ⟨h1, h2⟩ u0 u1 u2 uz, ?_⟩
    · rw [up_idx (by decide), r7, up_idx (by decide), r7b, up_same]
    · rw [up_idx (by decide), r7, up_same]
    · rw [up_idx (by omega), r7, up_idx (by omega), r7b, up_idx (by omega), r7c]
    · rw [up_cell (by decide)]; exact r2 6 (by decide) (by decide) (by decide)
    · rw [up_cell (by decide)]; exact r2 7 (by decide) (by decide) (by decide)
    · rw [u0]; omega
  · refine ok_bV (a4 mm hM) ?_
    rintro mm1 ⟨p1, p2⟩
    refine ok_bW (b4 mm1 p1) ?_
    rintro w' mm2 ⟨q1, q2, q3⟩
    simp only at q1 q2 q3
    refine ok_bW (d4 _ (mC_up q1)) ?_
    rintro h' mm3 ⟨s1, s2, s3⟩
    simp only at s1 s2 s3
    unfold fX12_readStop
    simp only [rd_eq]
    simp only [wr_eq]
    simp only [jn_eq]
    have st := g4 _ (mC_up (x := 2) (v := h') s1)
    obtain ⟨mm4, e4, k1, k2⟩ := st
    rw [e4, bV_some, k1.2.1.1]
    have G12 := g2_trans p2 q2
    have fm4 : FM mm mm4 := fm_trans (fm_trans (fm_g2 G12) (fm_trans fm_up (fm_g2 s2))) (fm_trans fm_up (fm_g2 k2))
    have r289 : mm4 289 = ku (ku K 1 w') 2 h' := by rw [k2.1 289 (by decide), up_row, s2.1 289 (by decide), up_row, G12.1 289 (by decide), mK]
    by_cases z : f4 = 0
    · rw [if_neg (fun q => q z), bV_some]
      obtain ⟨z3, _⟩ := g3 z
      obtain ⟨z2, _⟩ := d3 z3
      have e0 : mm4 289 0 = 0 := by rw [r289, ku_ne (by decide), ku_ne (by decide)]; exact hZ 0 (by decide) (by decide)
      rw [e0, w32_id (x := 0 + 1) (by decide) (by decide)]
      refine hR _ ⟨mC_up k1, fun _ => ⟨?_, ?_⟩⟩ (fm_trans fm4 fm_up)
      · rw [up_cell (by decide), k2.2 16 (by decide), up_cell (by decide), s2.2 16 (by decide), up_cell (by decide), G12.2 16 (by decide)]; exact m16
      · rw [up_row, r289, q3 z2, s3 z3]; rfl
    · rw [if_pos z, bV_some]
      exact hR _ ⟨k1, fun q => absurd q z⟩ fm4

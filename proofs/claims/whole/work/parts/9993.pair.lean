/-! ===== D91: pairs told ===== -/
def PairK (K K' : Int → Int) (r x y t : Int) : Prop := (∀ q, q ≠ 3 → q ≠ 25 + K 3 → q ≠ 13 + K 3 → q ≠ 17 + K 3 → q ≠ 9 + K 3 → K' q = K q) ∧ K' 3 = K 3 + 1 ∧ K' (25 + K 3) = r ∧ K' (13 + K 3) = x ∧ K' (17 + K 3) = y ∧ K' (9 + K 3) = t
def PairRg (K : Int → Int) (r x y t : Int) : Prop := (1 ≤ r ∧ r ≤ 20) ∧ (0 ≤ x ∧ x < K 1 * K 2 ∧ tb (K 8) x.toNat = false) ∧ (0 ≤ y ∧ y < K 1 * K 2 ∧ tb (K 8) y.toNat = false) ∧ (0 ≤ t ∧ t ≤ 9)
theorem dv_pair {K K' : Int → Int} {r x y t : Int} (h : DV K) (k4 : K 3 < 4) (hk : PairK K K' r x y t) (hr : PairRg K r x y t) : DV K' := by
  obtain ⟨h1, h2, ⟨s1, s2, s3, s4, s5⟩, h4, h5, h6, h7⟩ := h
  obtain ⟨e, e3, eR, eX, eY, eT⟩ := hk
  obtain ⟨rr, rx, ry, rt⟩ := hr
  obtain ⟨i1, i2, i3, i4, i5, i6, i7, i8, i9⟩ := h2
  have n0 := i2.1
  have u : ∀ q, (q < 9 ∧ q ≠ 3) ∨ (20 < q ∧ q < 25) ∨ 29 ≤ q → K' q = K q := fun q hq => e q (by omega) (by omega) (by omega) (by omega) (by omega)
  have e1 := u 1 (by decide)
  have e2 := u 2 (by decide)
  have e8 := u 8 (by decide)
  refine ⟨by rw [e1, e2]; exact h1, ⟨.inr (by rw [e1, e2]; exact ⟨h1.1.1, h1.1.2, h1.2.1, h1.2.2⟩), by rw [e3]; omega, by rw [u 4 (by decide)]; exact i3, by rw [e8, e1, e2]; exact i4, fun h a b => ?_, fun g h a b c => ?_, fun p a b => ?_, ?_, ?_⟩, ⟨fun p p0 p1 => ?_, ?_, ?_, ?_, ?_⟩, ?_, ?_, ?_, ?_⟩
  · rw [u 4 (by decide)] at b; rw [e1, e2, u (29 + h) (by omega)]; exact i5 h a b
  · rw [u 4 (by decide)] at c; rw [u (29 + g) (by omega), u (29 + h) (by omega)]; exact i6 g h a b c
  · rw [e3] at b
    by_cases z : p = K 3
    · rw [z, eR]; exact rr
    · rw [e (25 + p) (by omega) (by omega) (by omega) (by omega) (by omega)]; exact i7 p a (by omega)
  · rw [u 5 (by decide)]; exact LawV_c (fun j j0 => u _ (by omega)) i8
  · rw [u 6 (by decide)]; exact LawV_c (fun j j0 => u _ (by omega)) i9
  · rw [e3] at p1
    have a1 : (9 : Int) + (4 + p) = 13 + p := by omega
    have a2 : (9 : Int) + (8 + p) = 17 + p := by omega
    simp only
    rw [e8, e1, e2, a1, a2]
    by_cases z : p = K 3
    · rw [z, eX, eY, eT]; exact ⟨rt, rx, ry⟩
    · have w := s1 p p0 (by omega)
      simp only at w
      rw [a1, a2] at w
      rw [e (9 + p) (by omega) (by omega) (by omega) (by omega) (by omega), e (13 + p) (by omega) (by omega) (by omega) (by omega) (by omega), e (17 + p) (by omega) (by omega) (by omega) (by omega) (by omega)]
      exact w
  · simp only at s2 ⊢
    rw [u (9 + 12) (by decide), e3]
    exact ⟨s2.1, s2.2.1, fun i hi => by have := s2.2.2 i hi; omega⟩
  · simp only at s3 ⊢
    rw [u (9 + 13) (by decide)]; exact s3
  · simp only at s4 ⊢
    rw [u (9 + 14) (by decide)]; exact s4
  · simp only at s5 ⊢
    rw [u (9 + 15) (by decide)]; exact s5
  · rw [u 23 (by decide)]; exact h4
  · rw [u 21 (by decide)]; exact h5
  · rw [u 7 (by decide)]; exact h6
  · rw [u 0 (by decide)]; exact h7
def PairM (K : Int → Int) (r x y t : Int) (m w : Mem) : Prop :=
  (∀ o, 7 ≤ o → o < 18 → o ≠ 9 → o ≠ 15 → o ≠ 16 → o ≠ 17 → w o = m o) ∧ (∀ j, w 9 j = if j = K 3 then r else m 9 j) ∧ (∀ j, w 15 j = if j = K 3 then x else m 15 j) ∧ (∀ j, w 16 j = if j = K 3 then y else m 16 j) ∧ (∀ j, w 17 j = if j = K 3 then t else m 17 j) ∧ (w 2 6 = m 2 6 ∧ w 2 7 = m 2 7)
theorem bits_two {x y v : Int} {P : Nat → Prop} (h : Bits v P) (x0 : 0 ≤ x) (x1 : x < 32) (y0 : 0 ≤ y) (y1 : y < 32) : Bits (ior v (ior (ishl 1 x) (ishl 1 y))) (fun i => P i ∨ (i = x.toNat ∨ i = y.toNat)) := by
  refine ⟨ior_rg _ _, fun i hi => ?_⟩
  rw [tb_or, tb_or, tb_powi x0 x1 hi, tb_powi y0 y1 hi, Bool.or_eq_true, Bool.or_eq_true, h.2 i hi]
  simp
theorem dr_pair {K K' : Int → Int} {r x y t : Int} {m w : Mem} (h : DR K m) (hV : DV K) (k4 : K 3 < 4) (hk : PairK K K' r x y t) (hr : PairRg K r x y t) (hw : PairM K r x y t m w) :
    DR K' (up (up w 2 7 (ior (w 2 7) (ior (ishl 1 x) (ishl 1 y)))) 7 5 (K 3 + 1)) := by
  obtain ⟨e, e3, eR, eX, eY, eT⟩ := hk
  obtain ⟨rr, rx, ry, rt⟩ := hr
  obtain ⟨w0, w9, w15, w16, w17, w26, w27⟩ := hw
  have x25 := in_25 hV.2.1 rx.2.1
  have y25 := in_25 hV.2.1 ry.2.1
  have x0 := rx.1
  have y0 := ry.1
  have n0 := hV.2.1.2.1.1
  have kk4 := hV.2.1.2.2.1
  clear rx ry
  have u : ∀ q, (q < 9 ∧ q ≠ 3) ∨ (20 < q ∧ q < 25) ∨ 29 ≤ q → K' q = K q := fun q hq => e q (by omega) (by omega) (by omega) (by omega) (by omega)
  have hq : ∀ o, 7 ≤ o → o < 18 → o ≠ 7 → up (up w 2 7 (ior (w 2 7) (ior (ishl 1 x) (ishl 1 y)))) 7 5 (K 3 + 1) o = w o := fun o a b c => by rw [up_cell c, up_cell (by omega)]
  obtain ⟨⟨⟨t0, t1, t2, t3, t4, t5⟩, r2, r3, r4, r5⟩, ⟨⟨q0, q1, q2, q3⟩, q4⟩, l2, l3, l4⟩ := h
  have w7 := w0 7 (by decide) (by decide) (by decide) (by decide) (by decide) (by decide)
  have g7 : ∀ j, j ≠ 5 → up (up w 2 7 (ior (w 2 7) (ior (ishl 1 x) (ishl 1 y)))) 7 5 (K 3 + 1) 7 j = m 7 j := fun j hj => by rw [up_idx hj, up_cell (by decide), w7]
  refine ⟨⟨⟨?_, ?_, ?_, ?_, ?_, ?_⟩, fun h a b => ?_, fun p a b => ?_, ?_, ?_⟩, ⟨⟨?_, ?_, ?_, ?_⟩, fun p a b => ?_⟩, ?_, ?_, fun p a b => ?_⟩
  · rw [g7 0 (by decide), u 0 (by decide)]; exact t0
  · rw [g7 1 (by decide), u 1 (by decide)]; exact t1
  · rw [g7 2 (by decide), u 2 (by decide)]; exact t2
  · rw [g7 3 (by decide), u 8 (by decide)]; exact t3
  · rw [g7 4 (by decide), u 4 (by decide)]; exact t4
  · rw [up_same, e3]
  · rw [u 4 (by decide)] at b
    rw [hq 8 (by decide) (by decide) (by decide), w0 8 (by decide) (by decide) (by decide) (by decide) (by decide) (by decide), u (29 + h) (by omega)]; exact r2 h a b
  · rw [e3] at b
    rw [hq 9 (by decide) (by decide) (by decide), w9]
    by_cases z : p = K 3
    · rw [if_pos z, z, eR]
    · rw [if_neg z, e (25 + p) (by omega) (by omega) (by omega) (by omega) (by omega)]; exact r3 p a (by omega)
  · rw [u 5 (by decide)]
    refine LawR_c (fun j j0 => u _ (by omega)) (LawR_fr r4 ?_ ?_)
    · rw [hq 10 (by decide) (by decide) (by decide), w0 10 (by decide) (by decide) (by decide) (by decide) (by decide) (by decide)]
    · rw [hq 11 (by decide) (by decide) (by decide), w0 11 (by decide) (by decide) (by decide) (by decide) (by decide) (by decide)]
  · rw [u 6 (by decide)]
    refine LawR_c (fun j j0 => u _ (by omega)) (LawR_fr r5 ?_ ?_)
    · rw [hq 12 (by decide) (by decide) (by decide), w0 12 (by decide) (by decide) (by decide) (by decide) (by decide) (by decide)]
    · rw [hq 13 (by decide) (by decide) (by decide), w0 13 (by decide) (by decide) (by decide) (by decide) (by decide) (by decide)]
  · rw [hq 14 (by decide) (by decide) (by decide), w0 14 (by decide) (by decide) (by decide) (by decide) (by decide) (by decide), q0]; exact (u (9 + 15) (by decide)).symm
  · rw [hq 14 (by decide) (by decide) (by decide), w0 14 (by decide) (by decide) (by decide) (by decide) (by decide) (by decide), q1]; exact (u (9 + 13) (by decide)).symm
  · rw [hq 14 (by decide) (by decide) (by decide), w0 14 (by decide) (by decide) (by decide) (by decide) (by decide) (by decide), q2]; exact (u (9 + 14) (by decide)).symm
  · rw [hq 14 (by decide) (by decide) (by decide), w0 14 (by decide) (by decide) (by decide) (by decide) (by decide) (by decide), q3]; exact (u (9 + 12) (by decide)).symm
  · rw [e3] at b
    have a1 : (9 : Int) + (4 + p) = 13 + p := by omega
    have a2 : (9 : Int) + (8 + p) = 17 + p := by omega
    simp only
    rw [a1, a2, hq 15 (by decide) (by decide) (by decide), hq 16 (by decide) (by decide) (by decide), hq 17 (by decide) (by decide) (by decide), w15, w16, w17]
    by_cases z : p = K 3
    · rw [if_pos z, if_pos z, if_pos z, z]; exact ⟨eX.symm, eY.symm, eT.symm⟩
    · have v := q4 p a (by omega)
      simp only at v
      rw [a1, a2] at v
      rw [if_neg z, if_neg z, if_neg z, e (9 + p) (by omega) (by omega) (by omega) (by omega) (by omega), e (13 + p) (by omega) (by omega) (by omega) (by omega) (by omega), e (17 + p) (by omega) (by omega) (by omega) (by omega) (by omega)]
      exact v
  · rw [up_cell (by decide), up_idx (by decide), w26]
    refine bits_imp l2 (fun i _ => ⟨?_, ?_⟩)
    · rintro ⟨h, ⟨a, b⟩, c⟩; exact ⟨h, ⟨a, by rw [u 4 (by decide)]; exact b⟩, by rw [u (29 + h) (by omega)]; exact c⟩
    · rintro ⟨h, ⟨a, b⟩, c⟩
      rw [u 4 (by decide)] at b
      rw [u (29 + h) (by omega)] at c
      exact ⟨h, ⟨a, b⟩, c⟩
  · rw [up_cell (by decide), up_same, w27]
    refine bits_imp (bits_two l3 x0 (by omega) y0 (by omega)) (fun i _ => ⟨?_, ?_⟩)
    · rintro (⟨p, ⟨a, b⟩, c⟩ | z)
      · exact ⟨p, ⟨a, by omega⟩, by rw [e (13 + p) (by omega) (by omega) (by omega) (by omega) (by omega), e (17 + p) (by omega) (by omega) (by omega) (by omega) (by omega)]; exact c⟩
      · exact ⟨K 3, ⟨n0, by omega⟩, by rw [eX, eY]; omega⟩
    · rintro ⟨p, ⟨a, b⟩, c⟩
      by_cases z : p = K 3
      · rw [z, eX, eY] at c; right; omega
      · rw [e (13 + p) (by omega) (by omega) (by omega) (by omega) (by omega), e (17 + p) (by omega) (by omega) (by omega) (by omega) (by omega)] at c
        exact .inl ⟨p, ⟨a, by omega⟩, c⟩
  · rw [e3] at a
    rw [hq 17 (by decide) (by decide) (by decide), w17, if_neg (by omega)]; exact l4 p (by omega) b
def pairK (K : Int → Int) (r x y t : Int) : Int → Int := ku (ku (ku (ku (ku K (25 + K 3) r) (13 + K 3) x) (17 + K 3) y) (9 + K 3) t) 3 (K 3 + 1)
theorem pairK_ok {K : Int → Int} {r x y t : Int} (n0 : 0 ≤ K 3) (n4 : K 3 < 4) : PairK K (pairK K r x y t) r x y t := by
  unfold pairK
  refine ⟨fun q a b c d e => by rw [ku_ne a, ku_ne e, ku_ne d, ku_ne c, ku_ne b], ku_at _ _ _, ?_, ?_, ?_, ?_⟩
  · rw [ku_ne (by omega), ku_ne (by omega), ku_ne (by omega), ku_ne (by omega), ku_at]
  · rw [ku_ne (by omega), ku_ne (by omega), ku_ne (by omega), ku_at]
  · rw [ku_ne (by omega), ku_ne (by omega), ku_at]
  · rw [ku_ne (by omega), ku_at]
theorem m_pairEnd {S : Stm} {f pl r x y t : Int} {i : Nat} {K : Int → Int} {mm : Mem} (hM : MC S f pl i mm) (m16 : mm 287 16 = 0) (mK : mm 289 = K) (n0 : 0 ≤ K 3) (n4 : K 3 < 4) :
    Ok (if mm 287 12 = 0 then chk ((0 : Int) ≤ w32 (25 + K 3) ∧ w32 (25 + K 3) < ((2005 : Nat) : Int)) (chk ((0 : Int) ≤ w32 (13 + K 3) ∧ w32 (13 + K 3) < ((2005 : Nat) : Int)) (chk ((0 : Int) ≤ w32 (17 + K 3) ∧ w32 (17 + K 3) < ((2005 : Nat) : Int)) (chk ((0 : Int) ≤ w32 (9 + K 3) ∧ w32 (9 + K 3) < ((2005 : Nat) : Int)) (some (up (up (up (up (up mm 289 (w32 (25 + K 3)) r) 289 (w32 (13 + K 3)) x) 289 (w32 (17 + K 3)) y) 289 (w32 (9 + K 3)) t) 289 3 (w32 (up (up (up (up mm 289 (w32 (25 + K 3)) r) 289 (w32 (13 + K 3)) x) 289 (w32 (17 + K 3)) y) 289 (w32 (9 + K 3)) t 289 3 + 1))))))) else some mm) (fun mm' => LsM S f pl i (pairK K r x y t) mm' ∧ FM mm mm') := by
  rw [hM.2.1.1]
  by_cases z : f = 0
  · rw [if_pos z, w32_id (x := 25 + K 3) (by omega) (by omega), w32_id (x := 13 + K 3) (by omega) (by omega), w32_id (x := 17 + K 3) (by omega) (by omega), w32_id (x := 9 + K 3) (by omega) (by omega), chk_of (by omega), chk_of (by omega), chk_of (by omega), chk_of (by omega)]
    have e3 : up (up (up (up mm 289 (25 + K 3) r) 289 (13 + K 3) x) 289 (17 + K 3) y) 289 (9 + K 3) t 289 3 = K 3 := by rw [up_idx (by omega), up_idx (by omega), up_idx (by omega), up_idx (by omega), mK]
    rw [e3, w32_id (x := K 3 + 1) (by omega) (by omega)]
    refine ok_some ⟨⟨mC_up (mC_up (mC_up (mC_up (mC_up hM)))), fun _ => ⟨?_, ?_⟩⟩, fm_trans fm_up (fm_trans fm_up (fm_trans fm_up (fm_trans fm_up fm_up)))⟩
    · rw [up_cell (by decide), up_cell (by decide), up_cell (by decide), up_cell (by decide), up_cell (by decide)]; exact m16
    · rw [up_row, up_row, up_row, up_row, up_row, mK]; rfl
  · rw [if_neg z]
    exact ok_some ⟨⟨hM, fun w => absurd w z⟩, fm_refl⟩

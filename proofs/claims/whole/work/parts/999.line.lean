/-! ===== D88: the line level: rain, hour ===== -/
def DR (K : Int → Int) (m : Mem) : Prop :=
  IsR 7 K m ∧ LfR 14 (K 3) (fun i => K (9 + i)) m ∧ Bits (m 2 6) (fun i => ∃ h : Int, (0 ≤ h ∧ h < K 4) ∧ K (29 + h) = (i : Int)) ∧
  Bits (m 2 7) (fun i => ∃ p : Int, (0 ≤ p ∧ p < K 3) ∧ (K (13 + p) = (i : Int) ∨ K (17 + p) = (i : Int))) ∧ ∀ p, K 3 ≤ p → p < 4 → m 17 p = 0
def DV (K : Int → Int) : Prop := ((2 ≤ K 1 ∧ K 1 ≤ 5) ∧ 2 ≤ K 2 ∧ K 2 ≤ 5) ∧ IsV K ∧ StV K 999 (fun i => K (9 + i)) ∧ K 23 ≤ 99 ∧ K 21 = 0 ∧ K 7 = 0 ∧ 0 ≤ K 0
def LsC (S : Stm) (f pl : Int) (i : Nat) (K : Int → Int) (m : Mem) : Prop := CC S f pl i m ∧ (f = 0 → DR K m ∧ DV K ∧ K 0 ≤ (i : Int))
def LsM (S : Stm) (f pl : Int) (i : Nat) (K : Int → Int) (mm : Mem) : Prop := MC S f pl i mm ∧ (f = 0 → mm 287 16 = 0 ∧ mm 289 = K)
def FC (m m' : Mem) : Prop := Fr [2, 7, 8, 9, 10, 11, 12, 13, 14, 15, 16, 17] m m'
def FM (m m' : Mem) : Prop := Fr [287, 289] m m' ∧ ∀ j, j < 8 ∨ j = 14 ∨ j = 15 → m' 287 j = m 287 j
/-- token for token, a line's inside; i is where the model stands, who has taken the line's word already or has not -/
def LkN (S : Stm) (pl : Int) (i : Nat) (K : Int → Int) (x : Option Mem) (mc : Mem) (y : Mem → Option Mem) : Prop :=
  Ok x (fun mc' => ∃ f' pl' i' K', LsC S f' pl' i' K' mc' ∧ FC mc mc' ∧ (f' = 0 → i ≤ i' ∧ K' 0 = K 0) ∧ ∀ mm, LsM S 0 pl i K mm → Ok (y mm) (fun mm' => LsM S f' pl' i' K' mm' ∧ FM mm mm'))
theorem fc_refl {m : Mem} : FC m m := fr_refl
theorem fm_refl {m : Mem} : FM m m := ⟨fr_refl, fun _ _ => rfl⟩
theorem fc_trans {a b c : Mem} (h : FC a b) (k : FC b c) : FC a c := fr_trans h k
theorem fm_trans {a b c : Mem} (h : FM a b) (k : FM b c) : FM a c := ⟨fr_trans h.1 k.1, fun j x => (k.2 j x).trans (h.2 j x)⟩
theorem fc_f2 {m m' : Mem} (h : F2 m m') : FC m m' := fr_mono' h.1 (by decide)
theorem fm_g2 {m m' : Mem} (h : G2 m m') : FM m m' := ⟨fr_mono' h.1 (by decide), fun j x => h.2 j (by omega)⟩
theorem fm_gl {m m' : Mem} (h : GL m m') : FM m m' := ⟨h.1, fun j x => h.2 j (by omega) (by omega)⟩
theorem fm_up {m : Mem} {x v : Int} : FM m (up m 289 x v) := ⟨fr_up (by simp) fr_refl, fun j _ => by rw [up_cell (by decide)]⟩
theorem cC_fr {S : Stm} {f pl : Int} {i : Nat} {m m' : Mem} (h : CC S f pl i m) (e2 : m' 2 = m 2) (e4 : m' 4 = m 4) (e5 : m' 5 = m 5) (e6 : m' 6 = m 6) : CC S f pl i m' :=
  ⟨fun i hi => by rw [e4, e5, e6]; exact h.1 i hi, by rw [e2]; exact h.2.1, by rw [e2]; exact h.2.2⟩
theorem cC_up {S : Stm} {f pl x v : Int} {o i : Nat} {m : Mem} (h : CC S f pl i m) (ho : 7 ≤ o) : CC S f pl i (up m o x v) :=
  cC_fr h (up_cell (by omega)) (up_cell (by omega)) (up_cell (by omega)) (up_cell (by omega))
theorem mC_up {S : Stm} {f pl x v : Int} {i : Nat} {mm : Mem} (h : MC S f pl i mm) : MC S f pl i (up mm 289 x v) := by
  have e : up mm 289 x v 287 = mm 287 := up_cell (by decide)
  have e2 : up mm 289 x v 292 = mm 292 := up_cell (by decide)
  refine ⟨⟨by rw [e]; exact h.1.1, fun q a b => by rw [e2]; exact h.1.2 q a b⟩, by rw [e]; exact h.2.1, fun z => ?_⟩
  unfold TokM; rw [e]; exact h.2.2 z
theorem LawV_c {c c' : Int → Int} {nw n : Int} {t : Bool} (e : ∀ j : Int, 0 ≤ j → c' j = c j) (h : LawV c nw n t) : LawV c' nw n t := by
  have ee : ∀ j : Nat, tyN c' nw j = tyN c nw j := fun j => tyN_cong j (fun k _ => e k (by omega))
  exact ⟨h.1, h.2.1, fun z => by rw [ee]; exact h.2.2.1 z, fun j T a b => h.2.2.2 j T a (by rw [← ee]; exact b)⟩
theorem LawR_c {o : Nat} {f c c' : Int → Int} {n : Int} {m : Mem} (e : ∀ j : Int, 0 ≤ j → c' j = c j) (h : LawR o f c n m) : LawR o f c' n m := by
  obtain ⟨h1, h2, h3, h4, h5, h6, h7⟩ := h
  exact ⟨h1, h2, fun i a b => by rw [e i a]; exact h3 i a b, h4, h5, fun z i a b => by rw [e i a]; exact h6 z i a b, fun z i a b => by rw [e i a]; exact h7 z i a b⟩
def InI (x : Int) : Prop := (1 ≤ x ∧ x ≤ 6) ∨ x = 8 ∨ (25 ≤ x ∧ x < 37) ∨ 197 ≤ x
theorem IsV_c {K K' : Int → Int} (h : IsV K) (e : ∀ x, InI x → K' x = K x) : IsV K' := by
  unfold InI at e
  obtain ⟨h1, h2, h3, h4, h5, h6, h7, h8, h9⟩ := h
  have e1 := e 1 (by omega); have e2 := e 2 (by omega); have e3 := e 3 (by omega); have e4 := e 4 (by omega); have e5 := e 5 (by omega); have e6 := e 6 (by omega); have e8 := e 8 (by omega)
  refine ⟨by rw [e1, e2, e3, e4, e8]; exact h1, by rw [e3]; exact h2, by rw [e4]; exact h3, by rw [e8, e1, e2]; exact h4, fun h a b => ?_, fun g h a b c => ?_, fun p a b => ?_, ?_, ?_⟩
  · rw [e4] at b; rw [e (29 + h) (by omega), e1, e2]; exact h5 h a b
  · rw [e4] at c; rw [e (29 + g) (by omega), e (29 + h) (by omega)]; exact h6 g h a b c
  · rw [e3] at b; rw [e (25 + p) (by omega)]; exact h7 p a b
  · rw [e5]; exact LawV_c (fun j j0 => e _ (by omega)) h8
  · rw [e6]; exact LawV_c (fun j j0 => e _ (by omega)) h9
theorem IsR_c {b : Nat} {K K' : Int → Int} {m m' : Mem} (h : IsR b K m) (k3 : K 3 ≤ 4) (k4 : K 4 ≤ 8) (e : ∀ x, InI x → K' x = K x) (e0 : m' b 0 = K' 0) (er : ∀ j, j ≠ 0 → m' b j = m b j) (hq : ∀ o, b + 1 ≤ o → o < b + 7 → m' o = m o) : IsR b K' m' := by
  unfold InI at e
  obtain ⟨⟨h0, h1, h2, h3, h4, h5⟩, h6, h7, h8, h9⟩ := h
  have e3 := e 3 (by omega); have e4 := e 4 (by omega); have e5 := e 5 (by omega); have e6 := e 6 (by omega)
  refine ⟨⟨e0, ?_, ?_, ?_, ?_, ?_⟩, fun h a c => ?_, fun p a c => ?_, ?_, ?_⟩
  · rw [er 1 (by decide), e 1 (by omega)]; exact h1
  · rw [er 2 (by decide), e 2 (by omega)]; exact h2
  · rw [er 3 (by decide), e 8 (by omega)]; exact h3
  · rw [er 4 (by decide), e 4 (by omega)]; exact h4
  · rw [er 5 (by decide), e 3 (by omega)]; exact h5
  · rw [e4] at c; rw [hq (b + 1) (by omega) (by omega), e (29 + h) (by omega)]; exact h6 h a c
  · rw [e3] at c; rw [hq (b + 2) (by omega) (by omega), e (25 + p) (by omega)]; exact h7 p a c
  · rw [e5]; exact LawR_c (fun j j0 => e _ (by omega)) (LawR_fr h8 (hq _ (by omega) (by omega)) (hq _ (by omega) (by omega)))
  · rw [e6]; exact LawR_c (fun j j0 => e _ (by omega)) (LawR_fr h9 (hq _ (by omega) (by omega)) (hq _ (by omega) (by omega)))
theorem dr_fr {K : Int → Int} {m m' : Mem} (h : DR K m) (hq : ∀ o, 7 ≤ o → o < 18 → m' o = m o) (h6 : m' 2 6 = m 2 6) (h7 : m' 2 7 = m 2 7) : DR K m' :=
  ⟨IsR_fr h.1 (fun o a b => hq o a (by omega)), LfR_fr h.2.1 (fun o a b => hq o (by omega) (by omega)), by rw [h6]; exact h.2.2.1, by rw [h7]; exact h.2.2.2.1, fun p a b => by rw [hq 17 (by decide) (by decide)]; exact h.2.2.2.2 p a b⟩
theorem dr_f2 {K : Int → Int} {m m' : Mem} (h : DR K m) (k : F2 m m') : DR K m' :=
  dr_fr h (fun o a b => k.1 o (by simp; omega)) (k.2 6 (by decide) (by decide) (by decide)) (k.2 7 (by decide) (by decide) (by decide))
/-- the sky's words: 22 rain, 23 till, 24 hour -/
theorem dv_14 {K K' : Int → Int} (h : DV K) (e : ∀ x, x ≠ 22 → x ≠ 23 → x ≠ 24 → K' x = K x) (a : 0 ≤ K' 22 ∧ K' 22 ≤ 9) (b : 0 ≤ K' 23 ∧ K' 23 ≤ 99) (c : 0 ≤ K' 24 ∧ K' 24 ≤ 999) : DV K' := by
  obtain ⟨h1, h2, ⟨s1, s2, s3, s4, s5⟩, h4, h5, h6, h7⟩ := h
  have k3 := h2.2.1
  have e1 := e 1 (by decide) (by decide) (by decide); have e2 := e 2 (by decide) (by decide) (by decide); have e3 := e 3 (by decide) (by decide) (by decide); have e8 := e 8 (by decide) (by decide) (by decide)
  refine ⟨by rw [e1, e2]; exact h1, IsV_c h2 (fun x hx => e x (by unfold InI at hx; omega) (by unfold InI at hx; omega) (by unfold InI at hx; omega)), ⟨fun p p0 p1 => ?_, ?_, a, ⟨b.1, by have := b.2; show K' 23 ≤ _; omega⟩, c⟩, b.2, ?_, ?_, ?_⟩
  · rw [e3] at p1
    have z := s1 p p0 p1
    simp only at z ⊢
    rw [e (9 + p) (by omega) (by omega) (by omega), e (9 + (4 + p)) (by omega) (by omega) (by omega), e (9 + (8 + p)) (by omega) (by omega) (by omega), e1, e2, e8]
    exact z
  · simp only at s2 ⊢
    rw [e (9 + 12) (by decide) (by decide) (by decide), e3]; exact s2
  · rw [e 21 (by decide) (by decide) (by decide)]; exact h5
  · rw [e 7 (by decide) (by decide) (by decide)]; exact h6
  · rw [e 0 (by decide) (by decide) (by decide)]; exact h7
theorem dr_14 {K K' : Int → Int} {m m' : Mem} (h : DR K m) (k3 : K 3 ≤ 4) (k4 : K 4 ≤ 8) (e : ∀ x, x ≠ 22 → x ≠ 23 → x ≠ 24 → K' x = K x) (hq : ∀ o, 7 ≤ o → o < 18 → o ≠ 14 → m' o = m o) (h6 : m' 2 6 = m 2 6) (h7 : m' 2 7 = m 2 7)
    (a : m' 14 1 = K' 22) (b : m' 14 2 = K' 23) (c : m' 14 0 = K' 24) (d : m' 14 3 = m 14 3) : DR K' m' := by
  obtain ⟨r1, ⟨⟨q0, q1, q2, q3⟩, q4⟩, r3, r4, r5⟩ := h
  have e3 := e 3 (by decide) (by decide) (by decide); have e4 := e 4 (by decide) (by decide) (by decide)
  refine ⟨IsR_c r1 k3 k4 (fun x hx => e x (by unfold InI at hx; omega) (by unfold InI at hx; omega) (by unfold InI at hx; omega)) ?_ (fun j _ => by rw [hq 7 (by decide) (by decide) (by decide)]) (fun o a b => hq o (by omega) (by omega) (by omega)), ⟨⟨c, a, b, ?_⟩, fun p p0 p1 => ?_⟩, ?_, ?_, fun p p0 p1 => ?_⟩
  · rw [hq 7 (by decide) (by decide) (by decide), e 0 (by decide) (by decide) (by decide)]; exact r1.1.1
  · rw [d, q3]; exact (e (9 + 12) (by decide) (by decide) (by decide)).symm
  · rw [e3] at p1
    have z := q4 p p0 p1
    simp only at z ⊢
    rw [hq 15 (by decide) (by decide) (by decide), hq 16 (by decide) (by decide) (by decide), hq 17 (by decide) (by decide) (by decide), e (9 + p) (by omega) (by omega) (by omega), e (9 + (4 + p)) (by omega) (by omega) (by omega), e (9 + (8 + p)) (by omega) (by omega) (by omega)]
    exact z
  · rw [h6]
    refine bits_imp r3 (fun i _ => ⟨?_, ?_⟩)
    · rintro ⟨h, ⟨a, b⟩, c⟩; exact ⟨h, ⟨a, by rw [e4]; exact b⟩, by rw [e (29 + h) (by omega) (by omega) (by omega)]; exact c⟩
    · rintro ⟨h, ⟨a, b⟩, c⟩; exact ⟨h, ⟨a, by rw [e4] at b; exact b⟩, by rw [e (29 + h) (by omega) (by omega) (by omega)] at c; exact c⟩
  · rw [h7]
    refine bits_imp r4 (fun i _ => ⟨?_, ?_⟩)
    · rintro ⟨h, ⟨a, b⟩, c⟩; exact ⟨h, ⟨a, by rw [e3]; exact b⟩, by rw [e (13 + h) (by omega) (by omega) (by omega), e (17 + h) (by omega) (by omega) (by omega)]; exact c⟩
    · rintro ⟨h, ⟨a, b⟩, c⟩; exact ⟨h, ⟨a, by rw [e3] at b; exact b⟩, by rw [e3] at b; rw [e (13 + h) (by omega) (by omega) (by omega), e (17 + h) (by omega) (by omega) (by omega)] at c; exact c⟩
  · rw [hq 17 (by decide) (by decide) (by decide)]; rw [e3] at p0; exact r5 p p0 p1
theorem N_hour {S : Stm} {pl : Int} {i : Nat} {K : Int → Int} {mc : Mem} (hS : StmV S) (h : LsC S 0 pl i K mc) (hk : S.kd i ≠ 0) :
    LkN S pl (i + 1) K (fX6_readHour mc) mc (fun mm => bW (fX12_number 0 999 mm) fun x10 mm => some (up mm 289 24 x10)) := by
  obtain ⟨hC, hD⟩ := h
  obtain ⟨hR, hV, h0⟩ := hD rfl
  obtain ⟨hi, e5, hC1, hF1⟩ := c_adv hS hC hk
  unfold fX6_readHour
  simp only [rd_eq]
  simp only [wr_eq]
  have c9 := st_cnt hS
  rw [e5, w32_id (by omega) (by omega)]
  refine ok_bW (c_number hS hC1) ?_
  rintro x m2 ⟨f2, pl2, i2, b1, b2, b3, b4⟩
  simp only at b1 b2 b3 b4
  have F := f2_trans hF1 b2
  have hV0 := hV
  obtain ⟨v1, v2, ⟨s1, s2, s3, s4, s5⟩, v4, v5, v6, v7⟩ := hV
  have eK : ∀ y, y ≠ 22 → y ≠ 23 → y ≠ 24 → ku K 24 x y = K y := fun y _ _ z => ku_ne z
  refine ok_some ⟨f2, pl2, i2, ku K 24 x, ⟨cC_up b1 (by decide), fun z => ?_⟩, fr_up (by simp) (fc_f2 F), fun z => ?_, fun mm hM => ?_⟩
  · subst z
    obtain ⟨_, q1, q2, q3, q4, q5⟩ := b3 rfl
    refine ⟨dr_14 hR v2.2.1.2 v2.2.2.1.2 eK (fun o a b c => by rw [up_cell c]; exact F.1 o (by simp; omega)) (by rw [up_cell (by decide)]; exact F.2 6 (by decide) (by decide) (by decide)) (by rw [up_cell (by decide)]; exact F.2 7 (by decide) (by decide) (by decide)) ?_ ?_ ?_ ?_, dv_14 hV0 eK ?_ ?_ ?_, ?_⟩
    · rw [up_idx (by decide), F.1 14 (by decide), ku_ne (by decide)]; exact hR.2.1.1.2.1
    · rw [up_idx (by decide), F.1 14 (by decide), ku_ne (by decide)]; exact hR.2.1.1.2.2.1
    · rw [up_same, ku_at]
    · rw [up_idx (by decide), F.1 14 (by decide)]
    · rw [ku_ne (by decide)]; exact s3
    · rw [ku_ne (by decide)]; exact ⟨s4.1, v4⟩
    · rw [ku_at]; exact ⟨q4, q5⟩
    · rw [ku_ne (by decide)]; omega
  · subst z
    obtain ⟨_, q1, q2, q3, q4, q5⟩ := b3 rfl
    exact ⟨by omega, ku_ne (by decide)⟩
  · refine ok_bW (b4 mm hM.1) ?_
    rintro y mm2 ⟨d1, d2, d3⟩
    simp only at d1 d2 d3
    refine ok_some ⟨⟨mC_up d1, fun z => ⟨?_, ?_⟩⟩, fm_trans (fm_g2 d2) fm_up⟩
    · rw [up_cell (by decide)]; exact (d2.2 16 (by omega)).trans (hM.2 rfl).1
    · rw [up_row, d3 z, d2.1 289 (by decide), (hM.2 rfl).2]
theorem N_rain {S : Stm} {pl : Int} {i : Nat} {K : Int → Int} {mc : Mem} (hS : StmV S) (h : LsC S 0 pl i K mc) (hk : S.kd i ≠ 0) : LkN S pl (i + 1) K (fX6_readRain mc) mc fX12_readRain := by
  obtain ⟨hC, hD⟩ := h
  obtain ⟨hR, hV, h0⟩ := hD rfl
  obtain ⟨hi, e5, hC1, hF1⟩ := c_adv hS hC hk
  unfold fX6_readRain
  simp only [rd_eq]
  simp only [wr_eq]
  have c9 := st_cnt hS
  rw [e5, w32_id (by omega) (by omega)]
  refine ok_bW (c_number hS hC1) ?_
  rintro x m2 ⟨f2, pl2, i2, b1, b2, b3, b4⟩
  simp only at b1 b2 b3 b4
  refine ok_bV (c_takeW (j := 15) hS (by decide) (by decide) (cC_up (o := 14) (x := 1) (v := x) b1 (by decide))) ?_
  rintro m3 ⟨f3, pl3, i3, j1, j2, j3, j4⟩
  refine ok_bW (c_number hS j1) ?_
  rintro y m4 ⟨f4, pl4, i4, g1, g2, g3, g4⟩
  simp only at g1 g2 g3 g4
  have F := f2_trans hF1 b2
  have G := f2_trans j2 g2
  have hV0 := hV
  obtain ⟨v1, v2, ⟨s1, s2, s3, s4, s5⟩, v4, v5, v6, v7⟩ := hV
  have eK : ∀ q, q ≠ 22 → q ≠ 23 → q ≠ 24 → ku (ku K 22 x) 23 y q = K q := fun q a b _ => by rw [ku_ne b, ku_ne a]
  have row : ∀ o, o ≠ 2 → o ≠ 14 → m4 o = mc o := fun o a b => by rw [G.1 o (by simp; exact a), up_cell b]; exact F.1 o (by simp; exact a)
  have r14 : m4 14 = up m2 14 1 x 14 := G.1 14 (by decide)
  have r2 : ∀ j, j ≠ 3 → j ≠ 4 → j ≠ 5 → m4 2 j = mc 2 j := fun j a b c => by rw [G.2 j a b c, up_cell (by decide)]; exact F.2 j a b c
  have p14 : m2 14 = mc 14 := F.1 14 (by decide)
  refine ok_some ⟨f4, pl4, i4, ku (ku K 22 x) 23 y, ⟨cC_up g1 (by decide), fun z => ?_⟩, fr_up (by simp) (fc_trans (fr_up (by simp) (fc_f2 F)) (fc_f2 G)), fun z => ?_, fun mm hM => ?_⟩
  · obtain ⟨z3, _, q2, _, q4, q5⟩ := g3 z
    obtain ⟨z2, _, q2'⟩ := j3 z3
    obtain ⟨_, _, w2, _, w4, w5⟩ := b3 z2
    refine ⟨dr_14 hR v2.2.1.2 v2.2.2.1.2 eK (fun o a b c => by rw [up_cell c]; exact row o (by omega) c) (by rw [up_cell (by decide)]; exact r2 6 (by decide) (by decide) (by decide)) (by rw [up_cell (by decide)]; exact r2 7 (by decide) (by decide) (by decide)) ?_ ?_ ?_ ?_, dv_14 hV0 eK ?_ ?_ ?_, ?_⟩
    · rw [up_idx (by decide), r14, up_same, ku_ne (by decide), ku_at]
    · rw [up_same, ku_at]
    · rw [up_idx (by decide), r14, up_idx (by decide), p14, ku_ne (by decide), ku_ne (by decide)]; exact hR.2.1.1.1
    · rw [up_idx (by decide), r14, up_idx (by decide), p14]
    · rw [ku_ne (by decide), ku_at]; exact ⟨w4, w5⟩
    · rw [ku_at]; omega
    · rw [ku_ne (by decide), ku_ne (by decide)]; exact s5
    · rw [ku_ne (by decide), ku_ne (by decide)]; omega
  · obtain ⟨z3, _, q2, _, q4, q5⟩ := g3 z
    obtain ⟨z2, _, q2'⟩ := j3 z3
    obtain ⟨_, _, w2, _, w4, w5⟩ := b3 z2
    exact ⟨by omega, by rw [ku_ne (by decide), ku_ne (by decide)]⟩
  · unfold fX12_readRain
    simp only [rd_eq]
    simp only [wr_eq]
    refine ok_bW (b4 mm hM.1) ?_
    rintro x' mm2 ⟨d1, d2, d3⟩
    simp only at d1 d2 d3
    refine ok_bV (j4 mm2 d1) ?_
    rintro mm3 ⟨k1, k2⟩
    refine ok_bW (g4 mm3 k1) ?_
    rintro y' mm4 ⟨l1, l2, l3⟩
    simp only at l1 l2 l3
    have GG := g2_trans (g2_trans d2 k2) l2
    rw [l1.2.1.1]
    by_cases z : f4 = 0
    · obtain ⟨z3, _⟩ := g3 z
      obtain ⟨z2, _⟩ := j3 z3
      rw [if_pos z]
      refine ok_some ⟨⟨mC_up (mC_up l1), fun _ => ⟨?_, ?_⟩⟩, fm_trans (fm_g2 GG) (fm_trans fm_up fm_up)⟩
      · rw [up_cell (by decide), up_cell (by decide)]; exact (GG.2 16 (by omega)).trans (hM.2 rfl).1
      · rw [up_row, up_row, d3 z2, l3 z, GG.1 289 (by decide), (hM.2 rfl).2]
    · rw [if_neg z]
      exact ok_some ⟨⟨l1, fun w => absurd w z⟩, fm_g2 GG⟩

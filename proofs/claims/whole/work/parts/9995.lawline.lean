/-! ===== D93: the lines of laws ===== -/
theorem ok_bVV {ρ : Type} {x : Option Mem} {f : Mem → Option Mem} {g : Mem → Option ρ} {P : Mem → Prop} {Q : ρ → Prop} (h : Ok (bV x f) P) (k : ∀ a, P a → Ok (g a) Q) : Ok (bV x fun m => bV (f m) g) Q := by
  cases x with
  | none => obtain ⟨a, e, _⟩ := h; cases e
  | some m =>
    obtain ⟨a, e, ha⟩ := h
    show Ok (bV (f m) g) Q
    exact ok_bV (x := f m) ⟨a, e, ha⟩ k
theorem LawV_b {c c' : Int → Int} {nw n : Int} {t : Bool} (e : ∀ j : Int, 0 ≤ j → j < 900 → c' j = c j) (h : LawV c nw n t) : LawV c' nw n t := by
  have h2 := h.2.1
  have ee : ∀ j : Nat, j ≤ 900 → tyN c' nw j = tyN c nw j := fun j hj => tyN_cong j (fun k _ => e k (by omega) (by omega))
  exact ⟨h.1, h.2.1, fun z => by rw [ee _ (by omega)]; exact h.2.2.1 z, fun j T a b => h.2.2.2 j T a (by rw [← ee j (by omega)]; exact b)⟩
theorem LawR_b {o : Nat} {f c c' : Int → Int} {n : Int} {m : Mem} (n9 : n ≤ 900) (e : ∀ j : Int, 0 ≤ j → j < 900 → c' j = c j) (h : LawR o f c n m) : LawR o f c' n m := by
  obtain ⟨h1, h2, h3, h4, h5, h6, h7⟩ := h
  exact ⟨h1, h2, fun i a b => by rw [e i a (by omega)]; exact h3 i a b, h4, h5, fun z i a b => by rw [e i a (by omega)]; exact h6 z i a b, fun z i a b => by rw [e i a (by omega)]; exact h7 z i a b⟩
def lawK (b : Bool) (K c : Int → Int) (N : Int) : Int → Int := fun x => if x = qL b then N else if bL b ≤ x ∧ x < bL b + 900 then c (x - bL b) else K x
theorem lawK_q {b : Bool} {K c : Int → Int} {N : Int} : lawK b K c N (qL b) = N := if_pos rfl
theorem lawK_c {b : Bool} {K c : Int → Int} {N j : Int} (j0 : 0 ≤ j) (j9 : j < 900) : lawK b K c N (bL b + j) = c j := by
  have := bq_cases b
  unfold lawK
  rw [if_neg (by omega), if_pos (by omega)]
  exact congrArg c (by omega)
theorem lawK_o {b : Bool} {K c : Int → Int} {N x : Int} (h1 : x ≠ qL b) (h2 : x < bL b ∨ bL b + 900 ≤ x) : lawK b K c N x = K x := by
  unfold lawK
  rw [if_neg h1, if_neg (by omega)]
theorem lawK_s {b : Bool} {K c : Int → Int} {N x : Int} (h : x < 5 ∨ (6 < x ∧ x < 197)) : lawK b K c N x = K x := by
  have := bq_cases b
  exact lawK_o (by omega) (by omega)
theorem lawOk_V {c : Int → Int} {nw : Int} {N : Nat} {t : Bool} (h : LawOk c nw N [t]) (n9 : N ≤ 900) : LawV c nw (N : Int) t :=
  ⟨by omega, by omega, fun _ => h.1, fun j T a b => h.2 j T (by rw [Int.toNat_natCast] at a; exact a) b⟩
theorem dv_law {b : Bool} {K c : Int → Int} {N : Nat} (h : DV K) (hL : LawOk c (nwL b) N [b]) (n9 : N ≤ 900) : DV (lawK b K c (N : Int)) := by
  obtain ⟨h1, h2, ⟨s1, s2, s3, s4, s5⟩, h4, h5, h6, h7⟩ := h
  obtain ⟨i1, i2, i3, i4, i5, i6, i7, i8, i9⟩ := h2
  have u : ∀ x, x < 5 ∨ (6 < x ∧ x < 197) → lawK b K c (N : Int) x = K x := fun x hx => lawK_s hx
  have e1 := u 1 (by decide)
  have e2 := u 2 (by decide)
  have e3 := u 3 (by decide)
  have e8 := u 8 (by decide)
  have V : LawV (fun i => lawK b K c (N : Int) (bL b + i)) (nwL b) (lawK b K c (N : Int) (qL b)) b := by
    rw [lawK_q]; exact LawV_b (fun j a d => lawK_c a d) (lawOk_V hL n9)
  have laws : LawV (fun i => lawK b K c (N : Int) (197 + i)) 5 (lawK b K c (N : Int) 5) false ∧ LawV (fun i => lawK b K c (N : Int) (1097 + i)) 6 (lawK b K c (N : Int) 6) true := by
    cases b
    · refine ⟨V, ?_⟩
      rw [lawK_o (b := false) (x := 6) (by decide) (by decide)]
      exact LawV_b (fun j a d => lawK_o (b := false) (by unfold qL; simp; omega) (by unfold bL; simp; omega)) i9
    · refine ⟨?_, V⟩
      rw [lawK_o (b := true) (x := 5) (by decide) (by decide)]
      exact LawV_b (fun j a d => lawK_o (b := true) (by unfold qL; simp; omega) (by unfold bL; simp; omega)) i8
  clear V
  refine ⟨by rw [e1, e2]; exact h1, ⟨by rw [e1, e2, e3, u 4 (by decide), e8]; exact i1, by rw [e3]; exact i2, by rw [u 4 (by decide)]; exact i3, by rw [e8, e1, e2]; exact i4, fun h a b => ?_, fun g h a b c => ?_, fun p a b => ?_, laws.1, laws.2⟩, ⟨fun p p0 p1 => ?_, ?_, ?_, ?_, ?_⟩, ?_, ?_, ?_, ?_⟩
  · rw [u 4 (by decide)] at b; rw [e1, e2, u (29 + h) (by omega)]; exact i5 h a b
  · rw [u 4 (by decide)] at c; rw [u (29 + g) (by omega), u (29 + h) (by omega)]; exact i6 g h a b c
  · rw [e3] at b; rw [u (25 + p) (by omega)]; exact i7 p a b
  · rw [e3] at p1
    have z := s1 p p0 p1
    simp only at z ⊢
    rw [e8, e1, e2, u (9 + p) (by omega), u (9 + (4 + p)) (by omega), u (9 + (8 + p)) (by omega)]
    exact z
  · simp only at s2 ⊢
    rw [u (9 + 12) (by decide), e3]; exact s2
  · simp only at s3 ⊢
    rw [u (9 + 13) (by decide)]; exact s3
  · simp only at s4 ⊢
    rw [u (9 + 14) (by decide)]; exact s4
  · simp only at s5 ⊢
    rw [u (9 + 15) (by decide)]; exact s5
  · rw [u 23 (by decide)]; exact h4
  · rw [u 21 (by decide)]; exact h5
  · rw [u 7 (by decide)]; exact h6
  · rw [u 0 (by decide)]; exact h7
theorem dr_law {b : Bool} {K c : Int → Int} {N : Nat} {m m' : Mem} (h : DR K m) (hV : DV K) (n1 : 1 ≤ N) (hq : ∀ o, 7 ≤ o → o < 18 → o ≠ oL b → o ≠ oL b + 1 → m' o = m o) (b6 : m' 2 6 = m 2 6) (b7 : m' 2 7 = m 2 7)
    (c4 : m' (oL b) 4 = 1) (c1 : m' (oL b) 1 = (N : Int)) (cc : ∀ j : Int, 0 ≤ j → j < (N : Int) → m' (oL b + 1) j = trO (fnL b) (c j)) (n9 : N ≤ 900)
    (f5 : m' (oL b) 5 = 0 ∨ m' (oL b) 5 = 1) (f6 : m' (oL b) 6 = 0 ∨ m' (oL b) 6 = 1) (g5 : m' (oL b) 5 = 0 → ∀ j : Int, 0 ≤ j → j < (N : Int) → trO (fnL b) (c j) ≠ 131) (g6 : m' (oL b) 6 = 0 → ∀ j : Int, 0 ≤ j → j < (N : Int) → trO (fnL b) (c j) ≠ 130) : DR (lawK b K c (N : Int)) m' := by
  have u : ∀ x, x < 5 ∨ (6 < x ∧ x < 197) → lawK b K c (N : Int) x = K x := fun x hx => lawK_s hx
  have e3 := u 3 (by decide)
  have o := oL_cases b
  have k3 := hV.2.1.2.1
  have k4 := hV.2.1.2.2.1
  have n5 := hV.2.1.2.2.2.2.2.2.2.1.2.1
  have n6 := hV.2.1.2.2.2.2.2.2.2.2.2.1
  have lf := hV.2.2.1
  clear hV
  obtain ⟨⟨⟨t0, t1, t2, t3, t4, t5⟩, r2, r3, r4, r5⟩, l1, l2, l3, l4⟩ := h
  have R : LawR (oL b) (fnL b) (fun i => lawK b K c (N : Int) (bL b + i)) (lawK b K c (N : Int) (qL b)) m' := by
    rw [lawK_q]
    exact LawR_b (c := c) (by omega) (fun j a d => lawK_c a d) ⟨by rw [if_neg (by omega)]; exact c4, c1, cc, f5, f6, g5, g6⟩
  have laws : LawR 10 fL (fun i => lawK b K c (N : Int) (197 + i)) (lawK b K c (N : Int) 5) m' ∧ LawR 12 fM (fun i => lawK b K c (N : Int) (1097 + i)) (lawK b K c (N : Int) 6) m' := by
    cases b
    · refine ⟨R, ?_⟩
      rw [lawK_o (b := false) (x := 6) (by decide) (by decide)]
      exact LawR_b n6 (fun j a d => lawK_o (b := false) (by unfold qL; simp; omega) (by unfold bL; simp; omega)) (LawR_fr r5 (hq 12 (by decide) (by decide) (by decide) (by decide)) (hq 13 (by decide) (by decide) (by decide) (by decide)))
    · refine ⟨?_, R⟩
      rw [lawK_o (b := true) (x := 5) (by decide) (by decide)]
      exact LawR_b n5 (fun j a d => lawK_o (b := true) (by unfold qL; simp; omega) (by unfold bL; simp; omega)) (LawR_fr r4 (hq 10 (by decide) (by decide) (by decide) (by decide)) (hq 11 (by decide) (by decide) (by decide) (by decide)))
  clear R cc f5 f6 g5 g6
  have w : ∀ q, 7 ≤ q → q < 18 → q < 10 ∨ 13 < q → m' q = m q := fun q a d e => hq q a d (by omega) (by omega)
  have w7 := w 7 (by decide) (by decide) (by decide)
  refine ⟨⟨⟨?_, ?_, ?_, ?_, ?_, ?_⟩, fun h a b => ?_, fun p a b => ?_, laws.1, laws.2⟩, ?_, ?_, ?_, fun p a b => ?_⟩
  · rw [w7, u 0 (by decide)]; exact t0
  · rw [w7, u 1 (by decide)]; exact t1
  · rw [w7, u 2 (by decide)]; exact t2
  · rw [w7, u 8 (by decide)]; exact t3
  · rw [w7, u 4 (by decide)]; exact t4
  · rw [w7, e3]; exact t5
  · rw [u 4 (by decide)] at b
    rw [w 8 (by decide) (by decide) (by decide), u (29 + h) (by omega)]; exact r2 h a b
  · rw [e3] at b
    rw [w 9 (by decide) (by decide) (by decide), u (25 + p) (by omega)]; exact r3 p a b
  · rw [e3]
    exact LfR_fr (LfR_cong k3.2 (S := fun i => K (9 + i)) (fun j a d => u (9 + j) (by omega)) l1) (fun q a d => w q (by omega) (by omega) (by omega))
  · rw [b6]
    refine bits_imp l2 (fun i _ => ⟨?_, ?_⟩)
    · rintro ⟨h, ⟨a, d⟩, e⟩; exact ⟨h, ⟨a, by rw [u 4 (by decide)]; exact d⟩, by rw [u (29 + h) (by omega)]; exact e⟩
    · rintro ⟨h, ⟨a, d⟩, e⟩
      rw [u 4 (by decide)] at d
      rw [u (29 + h) (by omega)] at e
      exact ⟨h, ⟨a, d⟩, e⟩
  · rw [b7]
    refine bits_imp l3 (fun i _ => ⟨?_, ?_⟩)
    · rintro ⟨h, ⟨a, d⟩, e⟩; exact ⟨h, ⟨a, by rw [e3]; exact d⟩, by rw [u (13 + h) (by omega), u (17 + h) (by omega)]; exact e⟩
    · rintro ⟨h, ⟨a, d⟩, e⟩
      rw [e3] at d
      rw [u (13 + h) (by omega), u (17 + h) (by omega)] at e
      exact ⟨h, ⟨a, d⟩, e⟩
  · rw [e3] at a
    rw [w 17 (by decide) (by decide) (by decide)]; exact l4 p a b
theorem mC_17 {S : Stm} {f pl x v : Int} {i : Nat} {mm : Mem} (h : MC S f pl i mm) (hx : 14 ≤ x) : MC S f pl i (up mm 287 x v) := by
  have e : ∀ j, j < 14 → up mm 287 x v 287 j = mm 287 j := fun j hj => up_idx (by omega)
  have e2 : up mm 287 x v 292 = mm 292 := up_cell (by decide)
  refine ⟨⟨by rw [e 7 (by decide)]; exact h.1.1, fun q a b => by rw [e2]; exact h.1.2 q a b⟩, by rw [e 12 (by decide), e 13 (by decide)]; exact h.2.1, fun z => ?_⟩
  unfold TokM
  rw [e 8 (by decide), e 9 (by decide), e 10 (by decide), e 11 (by decide)]; exact h.2.2 z
theorem N_law {S : Stm} {b : Bool} {pl : Int} {i : Nat} {K : Int → Int} {mc : Mem} {rC rM : Mem → Option Mem} (hS : StmV S) (h : LsC S 0 pl i K mc) (hk : S.kd i ≠ 0)
    (hL : ∀ (f pl : Int) (i : Nat) (c : Int → Int) (m : Mem), LwC S b f pl i c 0 m → (f = 0 → 2 ≤ i) → LkL S b 0 f pl i c 0 (rC m) m rM (PhQ b i c 0 [] b)) :
    LkN S pl (i + 1) K (bV (fX6_take 58 (up mc 2 5 (w32 (mc 2 5 + 1)))) fun mm => chk (layL[(up mm 2 8 ((oL b : Nat) : Int) 2 8).toNat]? = some (.inl 4)) (bV (fX4_begin (up mm 2 8 ((oL b : Nat) : Int) 2 8).toNat (loL b) (hiL b) (up mm 2 8 ((oL b : Nat) : Int))) fun mm => bV (rC mm) fun mm => some mm)) mc (fun mm => bV (fX12_beginsLaw (qL b) (bL b) mm) rM) := by
  obtain ⟨hC, hD⟩ := h
  obtain ⟨hR, hV, h0⟩ := hD rfl
  obtain ⟨hi, e5, hC1, hF1⟩ := c_adv hS hC hk
  have c9 := st_cnt hS
  have o := oL_cases b
  rw [e5, w32_id (by omega) (by omega)]
  refine ok_bV (c_take hS (by unfold SgnB; decide) hC1) ?_
  rintro m1 ⟨f1, pl1, i1, a1, a2, a3, a4⟩
  have F1 := f2_trans hF1 a2
  rw [up_same, Int.toNat_natCast, chk_of (layO b)]
  unfold fX4_begin fX4_wipe
  simp only [wr_eq]
  rw [chk_of (by decide), chk_of (by decide), chk_of (by decide), bV_some, chk_of (by decide), bV_some]
  generalize hm3 : up (up (up (up (up (up (up (up m1 2 8 ((oL b : Nat) : Int)) (oL b) 4 0) (oL b) 1 0) (oL b) 5 0) (oL b) 6 0) (oL b) 4 1) (oL b) 2 (loL b)) (oL b) 3 (hiL b) = m3
  have ne2 : (2 : Nat) ≠ oL b := by omega
  have Fo : ∀ q, q ≠ oL b → m3 q = up m1 2 8 ((oL b : Nat) : Int) q := fun q hq => by
    rw [← hm3, up_cell hq, up_cell hq, up_cell hq, up_cell hq, up_cell hq, up_cell hq, up_cell hq]
  have z1 : m3 (oL b) 1 = 0 := by rw [← hm3, up_idx (by decide), up_idx (by decide), up_idx (by decide), up_idx (by decide), up_idx (by decide), up_same]
  have z2 : m3 (oL b) 2 = loL b := by rw [← hm3, up_idx (by decide), up_same]
  have z3 : m3 (oL b) 3 = hiL b := by rw [← hm3, up_same]
  have z4 : m3 (oL b) 4 = 1 := by rw [← hm3, up_idx (by decide), up_idx (by decide), up_same]
  have z5 : m3 (oL b) 5 = 0 := by rw [← hm3, up_idx (by decide), up_idx (by decide), up_idx (by decide), up_idx (by decide), up_same]
  have z6 : m3 (oL b) 6 = 0 := by rw [← hm3, up_idx (by decide), up_idx (by decide), up_idx (by decide), up_same]
  clear hm3
  have hC3 : CC S f1 pl1 i1 m3 := cC_fr (cC_up2 (x := 8) (v := ((oL b : Nat) : Int)) a1 (by decide)) (Fo 2 ne2) (Fo 4 (by omega)) (Fo 5 (by omega)) (Fo 6 (by omega))
  have hW : LwC S b f1 pl1 i1 (fun j => K (bL b + j)) 0 m3 := by
    refine ⟨hC3, by rw [Fo 2 ne2, up_same], ⟨.inl z5, .inl z6, by rw [z1]; decide, by rw [z1]; decide⟩, ⟨z2, z3⟩, fun _ => ⟨z1, fun j a b => by omega, fun _ j a b => by omega, fun _ j a b => by omega⟩⟩
  refine ok_bV (hL f1 pl1 i1 _ m3 hW (fun z => by have := (a3 z).2.2; omega)) ?_
  rintro m4 ⟨f4, pl4, i4, c4, N4, b1, b2, b3, b4⟩
  have row : ∀ q, 7 ≤ q → q < 18 → q ≠ oL b → q ≠ oL b + 1 → m4 q = mc q := fun q x1 x2 x3 x4 => by
    rw [b2.1 q (by simp; omega), Fo q x3, up_cell (by omega)]; exact F1.1 q (by simp; omega)
  have r2 : ∀ j, j ≠ 3 → j ≠ 4 → j ≠ 5 → j ≠ 8 → m4 2 j = mc 2 j := fun j x1 x2 x3 x4 => by
    rw [b2.2.1 j x1 x2 x3, Fo 2 ne2, up_idx x4]; exact F1.2 j x1 x2 x3
  have hFC : FC mc m4 := fun q hq => by
    simp only [List.mem_cons, List.not_mem_nil, not_or] at hq
    have n2 : q ≠ 2 := hq.1
    have nO : q ≠ oL b := by rcases o with e | e <;> (rw [e]; intro zz; exact absurd zz (by omega))
    have nO1 : q ≠ oL b + 1 := by rcases o with e | e <;> (rw [e]; intro zz; exact absurd zz (by omega))
    rw [b2.1 q (by simp; exact ⟨n2, nO, nO1⟩), Fo q nO, up_cell n2]; exact F1.1 q (by simp; exact n2)
  refine ok_some ⟨f4, pl4, i4, lawK b K c4 (N4 : Int), ⟨b1.1, fun z => ?_⟩, hFC, fun z => ?_, fun mm hM => ?_⟩
  · obtain ⟨y1, y2, y3, y4, y5, y6⟩ := b3 z
    have ei4 := (b1.1.2.2 z).2.1
    obtain ⟨x1, x2, x3, x4⟩ := b1.2.2.2.2 z
    have y7 := (a3 y1).2.2
    refine ⟨dr_law hR hV (by omega) row (r2 6 (by decide) (by decide) (by decide) (by decide)) (r2 7 (by decide) (by decide) (by decide) (by decide)) (by rw [b2.2.2]; exact z4) x1 x2 (by omega) b1.2.2.1.1 b1.2.2.1.2.1 x3 x4, dv_law hV y6 (by omega), ?_⟩
    rw [lawK_s (by decide)]; omega
  · obtain ⟨y1, y2, y3, y4, y5, y6⟩ := b3 z
    have y7 := (a3 y1).2.2
    exact ⟨by omega, lawK_s (by decide)⟩
  · obtain ⟨hM1, hM2⟩ := hM
    obtain ⟨m16, mK⟩ := hM2 rfl
    have bq := bq_cases b
    unfold fX12_beginsLaw
    simp only [wr_eq]
    rw [chk_of (by omega)]
    refine ok_bV (P := fun m => LwM S b 0 f1 pl1 i1 (fun j => K (bL b + j)) 0 K m ∧ FM mm m) ?_ ?_
    · refine ok_bV (a4 (up (up (up mm 287 17 (qL b)) 287 18 (bL b)) 289 (qL b) 0) (mC_up (mC_17 (mC_17 hM1 (by decide)) (by decide)))) ?_
      rintro m5 ⟨d1, d2⟩
      have r289 : m5 289 = ku K (qL b) 0 := by rw [d2.1 289 (by decide), up_row, up_cell (by decide), up_cell (by decide), mK]
      refine ok_some ⟨⟨d1, ⟨?_, ?_⟩, fun _ => ?_, fun _ => ⟨?_, fun j j0 j9 => ?_, fun x n1 n2 => ?_⟩⟩, ?_⟩
      · rw [d2.2 17 (by decide), up_cell (by decide), up_idx (by decide), up_same]
      · rw [d2.2 18 (by decide), up_cell (by decide), up_same]
      · rw [d2.2 16 (by decide), up_cell (by decide), up_idx (by decide), up_idx (by decide)]; exact m16
      · rw [r289, ku_at]; rfl
      · rw [r289, ku_ne (by omega)]
      · rw [r289, ku_ne n1]
      · refine fm_trans ?_ (fm_g2 d2)
        refine fm_trans ?_ fm_up
        exact ⟨fr_up (by simp) (fr_up (by simp) fr_refl), fun j hj => by rw [up_idx (by omega), up_idx (by omega)]⟩
    · rintro m5 ⟨d1, d2⟩
      refine ok_imp (b4 K m5 d1) ?_
      rintro m6 ⟨⟨g1, _, g3, g4⟩, g5⟩
      refine ⟨⟨g1, fun z => ⟨g3 z, ?_⟩⟩, fm_trans d2 (fm_gl g5)⟩
      obtain ⟨w1, w2, w3⟩ := g4 z
      funext x
      unfold lawK
      by_cases q1 : x = qL b
      · rw [if_pos q1, q1]; exact w1
      · rw [if_neg q1]
        by_cases q2 : bL b ≤ x ∧ x < bL b + 900
        · rw [if_pos q2]
          have := w2 (x - bL b) (by omega) (by omega)
          rw [← this]; exact congrArg (m6 289) (by omega)
        · rw [if_neg q2]; exact w3 x q1 (by omega)

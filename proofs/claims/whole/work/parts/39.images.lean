/-! ===== D19: images ===== -/
def SameW (K K' : Int → Int) : Prop := ∀ j, 0 ≤ j → j < 2005 → K' j = K j
theorem LawV_n {c c' : Int → Int} {nw n : Int} {t : Bool} (h : ∀ i, 0 ≤ i → i < 900 → c' i = c i) (hv : LawV c nw n t) : LawV c' nw n t := by
  obtain ⟨h1, h2, h3, h4⟩ := hv
  have e : ∀ j : Nat, j ≤ n.toNat → tyN c' nw j = tyN c nw j := by
    intro j
    induction j with
    | zero => intro _; rfl
    | succ j ih => intro hj; show (tyN c' nw j).bind _ = (tyN c nw j).bind _; rw [ih (by omega), h j (by omega) (by omega)]
  refine ⟨h1, h2, fun q => by rw [e _ (by omega)]; exact h3 q, fun j T hj hT => h4 j T hj (by rw [← e j hj]; exact hT)⟩
theorem LawR_n {o : Nat} {f c c' : Int → Int} {n : Int} {m : Mem} (hn : n ≤ 900) (h : ∀ i, 0 ≤ i → i < 900 → c' i = c i) (hr : LawR o f c n m) : LawR o f c' n m := by
  obtain ⟨h1, h2, h3, h4, h5, h6, h7⟩ := hr
  exact ⟨h1, h2, fun i a b => by rw [h i a (by omega)]; exact h3 i a b, h4, h5, fun q i a b => by rw [h i a (by omega)]; exact h6 q i a b, fun q i a b => by rw [h i a (by omega)]; exact h7 q i a b⟩
theorem KV_same {K K' : Int → Int} {c : Int} (h : SameW K K') (hv : KV c K) : KV c K' := by
  have e : ∀ j : Int, 0 ≤ j → j < 2005 → K' j = K j := h
  obtain ⟨⟨h1, h2, h3, h4, h5, h6, h7, h8, h9⟩, hs, hk, hu⟩ := hv
  have hI : IsV K' := by
    unfold IsV
    rw [e 1 (by omega) (by omega), e 2 (by omega) (by omega), e 3 (by omega) (by omega), e 4 (by omega) (by omega), e 5 (by omega) (by omega), e 6 (by omega) (by omega), e 8 (by omega) (by omega)]
    refine ⟨h1, h2, h3, h4, fun h a b => ?_, fun g h a b d => ?_, fun p a b => ?_, LawV_n (fun i a b => e _ (by omega) (by omega)) h8, LawV_n (fun i a b => e _ (by omega) (by omega)) h9⟩
    · rw [e _ (by omega) (by omega)]; exact h5 h a b
    · rw [e _ (by omega) (by omega), e _ (by omega) (by omega)]; exact h6 g h a b d
    · rw [e _ (by omega) (by omega)]; exact h7 p a b
  have sv : ∀ S S' : Int → Int, (∀ i, 0 ≤ i → i < 16 → S' i = S i) → StV K c S → StV K' c S' := by
    intro S S' hS hv
    have := StV_cong (K := K) h2.2 hS hv
    unfold StV at *
    rw [e 1 (by omega) (by omega), e 2 (by omega) (by omega), e 3 (by omega) (by omega), e 8 (by omega) (by omega)]
    exact this
  refine ⟨hI, sv _ _ (fun i a b => e _ (by omega) (by omega)) hs, by rw [e 7 (by omega) (by omega)]; exact hk, fun s s0 s1 => ?_⟩
  rw [e 7 (by omega) (by omega)] at s1
  exact sv _ _ (fun i a b => e _ (by omega) (by omega)) (hu s s0 s1)
theorem WRel_same {b : Nat} {K K' : Int → Int} {c : Int} {m : Mem} (h : SameW K K') (hv : KV c K) (hr : WRel b K m) : WRel b K' m := by
  have e : ∀ j : Int, 0 ≤ j → j < 2005 → K' j = K j := h
  obtain ⟨⟨g1, g2, g3, g4, g5⟩, g6, g7, g8, g9⟩ := hr
  have l3 := hv.1.2.1
  have l4 := hv.1.2.2.1
  have l5 := hv.1.2.2.2.2.2.2.2.1.2.1
  have l6 := hv.1.2.2.2.2.2.2.2.2.2.1
  have l7 := hv.2.2.1
  refine ⟨⟨?_, fun h a b => ?_, fun p a b => ?_, ?_, ?_⟩, ?_, ?_, g8, fun s s0 s1 => ?_⟩
  · rw [e 0 (by omega) (by omega), e 1 (by omega) (by omega), e 2 (by omega) (by omega), e 8 (by omega) (by omega), e 4 (by omega) (by omega), e 3 (by omega) (by omega)]; exact g1
  · rw [e 4 (by omega) (by omega)] at b
    rw [e _ (by omega) (by omega)]; exact g2 h a b
  · rw [e 3 (by omega) (by omega)] at b
    rw [e _ (by omega) (by omega)]; exact g3 p a b
  · rw [e 5 (by omega) (by omega)]; exact LawR_n l5 (fun i a b => e _ (by omega) (by omega)) g4
  · rw [e 6 (by omega) (by omega)]; exact LawR_n l6 (fun i a b => e _ (by omega) (by omega)) g5
  · rw [e 3 (by omega) (by omega)]; exact LfR_cong l3.2 (fun i a b => e _ (by omega) (by omega)) g6
  · rw [e 7 (by omega) (by omega)]; exact g7
  · rw [e 7 (by omega) (by omega)] at s1 ⊢
    rw [e 3 (by omega) (by omega)]; exact LfR_cong l3.2 (fun i a b => e _ (by omega) (by omega)) (g9 s s0 s1)
/-! the class's world copied -/
theorem c_copyLaw {o a : Nat} {f c : Int → Int} {n : Int} {m : Mem} (h : LawR a f c n m) (n0 : 0 ≤ n) (n9 : n ≤ 900) (hd : o + 2 ≤ a ∨ a + 2 ≤ o) : Ok (fX4_copyFrom o a m) (fun m' => LawR o f c n m' ∧ ∀ q, q < o ∨ o + 2 ≤ q → m' q = m q) := by
  obtain ⟨h1, h2, h3, h4, h5, h6, h7⟩ := h
  have t01 : m a 4 = 0 ∨ m a 4 = 1 := by rw [h1]; split <;> simp
  unfold fX4_copyFrom
  simp only [rd_eq, wr_eq]
  have a0 : a ≠ o := by omega
  have b0 : a ≠ o + 1 := by omega
  rw [h2, chk_of (by omega)]
  rw [cpy_cell b0, h2, up_cell a0, cpy_cell b0, chk_of t01, up_cell a0, up_cell a0, cpy_cell b0, chk_of h4, up_cell a0, up_cell a0, up_cell a0, cpy_cell b0, chk_of h5]
  refine ok_some ⟨⟨?_, ?_, fun i i0 i1 => ?_, ?_, ?_, ?_, ?_⟩, fun q hq => ?_⟩
  · rw [up_idx (by decide), up_idx (by decide), up_same]; exact h1
  · rw [up_idx (by decide), up_idx (by decide), up_idx (by decide), up_same]
  · rw [up_cell (by omega), up_cell (by omega), up_cell (by omega), up_cell (by omega), cpy_at, if_pos (by omega), show i - 0 + 0 = i by omega]; exact h3 i i0 i1
  · rw [up_idx (by decide), up_same]; exact h4
  · rw [up_same]; exact h5
  · rw [up_idx (by decide), up_same]; exact h6
  · rw [up_same]; exact h7
  · rw [up_cell (by omega), up_cell (by omega), up_cell (by omega), up_cell (by omega), cpy_cell (by omega)]
theorem c_copyIsle {o a : Nat} {K : Int → Int} {m : Mem} (h : IsR a K m) (h3 : K 3 ≤ 4) (h4 : K 4 ≤ 8) (h5 : 0 ≤ K 5 ∧ K 5 ≤ 900) (h6 : 0 ≤ K 6 ∧ K 6 ≤ 900) (hd : o + 7 ≤ a ∨ a + 7 ≤ o) : Ok (fX3_copyFrom o a m) (fun m' => IsR o K m' ∧ ∀ q, q < o ∨ o + 7 ≤ q → m' q = m q) := by
  obtain ⟨⟨i0, i1, i2, i3, i4, i5⟩, g2, g3, g4, g5⟩ := h
  have a0 : a ≠ o := by omega
  unfold fX3_copyFrom
  simp only [rd_eq, wr_eq]
  rw [chk_of (by decide), chk_of (by decide)]
  rw [up_cell a0, up_cell a0, up_cell a0, up_cell a0, up_cell a0, up_cell a0, up_cell a0, up_cell a0, up_cell a0, up_cell a0, up_cell a0, up_cell a0, up_cell a0, up_cell a0, up_cell a0, i0, i1, i2, i3, i4, i5]
  have hm : ∀ q, q < o ∨ o + 3 ≤ q → cpy (cpy (up (up (up (up (up (up m o 0 (K 0)) o 1 (K 1)) o 2 (K 2)) o 3 (K 8)) o 4 (K 4)) o 5 (K 3)) (a + 1) 0 (o + 1) 0 8) (a + 2) 0 (o + 2) 0 4 q = m q := fun q hq => by
    rw [cpy_cell (by omega), cpy_cell (by omega), up_cell (by omega), up_cell (by omega), up_cell (by omega), up_cell (by omega), up_cell (by omega), up_cell (by omega)]
  have e0 : ∀ i, cpy (cpy (up (up (up (up (up (up m o 0 (K 0)) o 1 (K 1)) o 2 (K 2)) o 3 (K 8)) o 4 (K 4)) o 5 (K 3)) (a + 1) 0 (o + 1) 0 8) (a + 2) 0 (o + 2) 0 4 o i = (up (up (up (up (up (up m o 0 (K 0)) o 1 (K 1)) o 2 (K 2)) o 3 (K 8)) o 4 (K 4)) o 5 (K 3)) o i := fun i => by rw [cpy_cell (by omega), cpy_cell (by omega)]
  have e1 : ∀ i, 0 ≤ i → i < 8 → cpy (cpy (up (up (up (up (up (up m o 0 (K 0)) o 1 (K 1)) o 2 (K 2)) o 3 (K 8)) o 4 (K 4)) o 5 (K 3)) (a + 1) 0 (o + 1) 0 8) (a + 2) 0 (o + 2) 0 4 (o + 1) i = m (a + 1) i := fun i z0 z1 => by
    rw [cpy_cell (by omega), cpy_at, if_pos (by omega), up_cell (by omega), up_cell (by omega), up_cell (by omega), up_cell (by omega), up_cell (by omega), up_cell (by omega), show i - 0 + 0 = i by omega]
  have e2 : ∀ i, 0 ≤ i → i < 4 → cpy (cpy (up (up (up (up (up (up m o 0 (K 0)) o 1 (K 1)) o 2 (K 2)) o 3 (K 8)) o 4 (K 4)) o 5 (K 3)) (a + 1) 0 (o + 1) 0 8) (a + 2) 0 (o + 2) 0 4 (o + 2) i = m (a + 2) i := fun i z0 z1 => by
    rw [cpy_at, if_pos (by omega), cpy_cell (by omega), up_cell (by omega), up_cell (by omega), up_cell (by omega), up_cell (by omega), up_cell (by omega), up_cell (by omega), show i - 0 + 0 = i by omega]
  have v0 : (up (up (up (up (up (up m o 0 (K 0)) o 1 (K 1)) o 2 (K 2)) o 3 (K 8)) o 4 (K 4)) o 5 (K 3)) o 0 = K 0 ∧ (up (up (up (up (up (up m o 0 (K 0)) o 1 (K 1)) o 2 (K 2)) o 3 (K 8)) o 4 (K 4)) o 5 (K 3)) o 1 = K 1 ∧ (up (up (up (up (up (up m o 0 (K 0)) o 1 (K 1)) o 2 (K 2)) o 3 (K 8)) o 4 (K 4)) o 5 (K 3)) o 2 = K 2 ∧ (up (up (up (up (up (up m o 0 (K 0)) o 1 (K 1)) o 2 (K 2)) o 3 (K 8)) o 4 (K 4)) o 5 (K 3)) o 3 = K 8 ∧ (up (up (up (up (up (up m o 0 (K 0)) o 1 (K 1)) o 2 (K 2)) o 3 (K 8)) o 4 (K 4)) o 5 (K 3)) o 4 = K 4 ∧ (up (up (up (up (up (up m o 0 (K 0)) o 1 (K 1)) o 2 (K 2)) o 3 (K 8)) o 4 (K 4)) o 5 (K 3)) o 5 = K 3 := by
    simp [up]
  simp only [← e0] at v0
  generalize cpy (cpy (up (up (up (up (up (up m o 0 (K 0)) o 1 (K 1)) o 2 (K 2)) o 3 (K 8)) o 4 (K 4)) o 5 (K 3)) (a + 1) 0 (o + 1) 0 8) (a + 2) 0 (o + 2) 0 4 = m1 at *
  refine ok_bV (c_copyLaw (o := o + 3) (LawR_fr g4 (hm _ (by omega)) (hm _ (by omega))) h5.1 h5.2 (by omega)) ?_
  rintro m2 ⟨l2, f2⟩
  refine ok_bV (c_copyLaw (o := o + 5) (LawR_fr g5 ((f2 _ (by omega)).trans (hm _ (by omega))) ((f2 _ (by omega)).trans (hm _ (by omega)))) h6.1 h6.2 (by omega)) ?_
  rintro m3 ⟨l3, f3⟩
  have f : ∀ q, q < o + 3 ∨ o + 7 ≤ q → m3 q = m1 q := fun q hq => (f3 q (by omega)).trans (f2 q (by omega))
  refine ok_some ⟨⟨?_, fun h z0 z1 => ?_, fun p z0 z1 => ?_, LawR_fr l2 (f3 _ (by omega)) (f3 _ (by omega)), l3⟩, fun q hq => (f q (by omega)).trans (hm q (by omega))⟩
  · rw [f o (by omega)]; exact v0
  · rw [f (o + 1) (by omega), e1 h z0 (by omega)]; exact g2 h z0 z1
  · rw [f (o + 2) (by omega), e2 p z0 (by omega)]; exact g3 p z0 z1
theorem c_copyWorld {o a : Nat} {K : Int → Int} {c : Int} {m : Mem} (h : WRel a K m) (hV : KV c K) (hd : o + 59 ≤ a ∨ a + 59 ≤ o) : Ok (fX10_copyFrom o a m) (fun m' => WRel o K m' ∧ ∀ q, q < o ∨ o + 59 ≤ q → m' q = m q) := by
  obtain ⟨r1, r2, r3, r4, r5⟩ := h
  have l3 := hV.1.2.1
  have l4 := hV.1.2.2.1
  have l5 := hV.1.2.2.2.2.2.2.2.1
  have l6 := hV.1.2.2.2.2.2.2.2.2
  have l7 := hV.2.2.1
  unfold fX10_copyFrom
  refine ok_bV (c_copyIsle (o := o + 1) r1 l3.2 l4.2 ⟨l5.1, l5.2.1⟩ ⟨l6.1, l6.2.1⟩ (by omega)) ?_
  rintro m1 ⟨a1, f1⟩
  refine ok_bV (c_copyLife (o := o + 8) (a := a + 8) (LfR_fr r2 (fun q z1 z2 => f1 q (by omega))) l3.2 (by omega)) ?_
  rintro m2 ⟨a2, f2⟩
  have f : ∀ q, q < o + 1 ∨ o + 12 ≤ q → m2 q = m1 q := fun q hq => f2 q (by omega)
  have ea : m2 a = m a := (f a (by omega)).trans (f1 a (by omega))
  simp only [rd_eq, wr_eq, rdn_eq]
  rw [up_cell (show a ≠ o by omega), ea, r3]
  have hN : ∃ N, N = m a 4 := ⟨_, rfl⟩
  obtain ⟨N, hN⟩ := hN
  rw [← hN] at r4 r5 ⊢
  have g : ∀ q, q ≠ o → up (up m2 o 2 (K 7)) o 4 N q = m2 q := fun q hq => by rw [up_cell hq, up_cell hq]
  have go : up (up m2 o 2 (K 7)) o 4 N o 2 = K 7 ∧ up (up m2 o 2 (K 7)) o 4 N o 4 = N := by simp [up]
  generalize up (up m2 o 2 (K 7)) o 4 N = m3 at *
  have src : ∀ q, a ≤ q → q < a + 59 → m3 q = m q := fun q z1 z2 => by rw [g q (by omega), f q (by omega), f1 q (by omega)]
  refine lp_for 10 (fun i mm => 0 ≤ i ∧ (∀ j : Int, 0 ≤ j → j < i → ∀ S, LfR (a + 19 + 4 * j.toNat) (K 3) S m → LfR (o + 19 + 4 * j.toNat) (K 3) S mm) ∧ ∀ q, q < o + 19 ∨ o + 59 ≤ q → mm q = m3 q) ⟨by omega, fun j _ _ => by omega, fun _ _ => rfl⟩ (by decide) (by decide) ?_ ?_
  · rintro G i mm hi ⟨i0, h1, h2⟩ ih
    have c1 : o + 12 + (rTab 4).1 + (rTab 4).2 * i.toNat = o + 19 + 4 * i.toNat := by show o + 12 + 7 + 4 * i.toNat = _; omega
    have c2 : a + 12 + (rTab 4).1 + (rTab 4).2 * i.toNat = a + 19 + 4 * i.toNat := by show a + 12 + 7 + 4 * i.toNat = _; omega
    rw [if_neg (by omega), chk_of (by omega), chk_of (by omega), c1, c2]
    have key : ∃ mm', fX5_copyFrom (o + 19 + 4 * i.toNat) (a + 19 + 4 * i.toNat) mm = some mm' ∧ (∀ S, LfR (a + 19 + 4 * i.toNat) (K 3) S m → LfR (o + 19 + 4 * i.toNat) (K 3) S mm') ∧ ∀ q, q < o + 19 + 4 * i.toNat ∨ o + 19 + 4 * i.toNat + 4 ≤ q → mm' q = mm q := by
      have hS0 : LfR (a + 19 + 4 * i.toNat) (K 3) (fun j => if j = 15 then m (a + 19 + 4 * i.toNat) 0 else if j = 13 then m (a + 19 + 4 * i.toNat) 1 else if j = 14 then m (a + 19 + 4 * i.toNat) 2 else if j = 12 then m (a + 19 + 4 * i.toNat) 3 else if j < 4 then m (a + 19 + 4 * i.toNat + 3) j else if j < 8 then m (a + 19 + 4 * i.toNat + 1) (j - 4) else m (a + 19 + 4 * i.toNat + 2) (j - 8)) mm := by
        refine LfR_fr (m := m) ⟨⟨rfl, rfl, rfl, rfl⟩, fun p p0 p1 => ⟨?_, ?_, ?_⟩⟩ (fun q z1 z2 => ?_)
        · dsimp only
          rw [if_neg (by omega), if_neg (by omega), if_neg (by omega), if_neg (by omega), if_neg (by omega), if_pos (by omega), show 4 + p - 4 = p by omega]
        · dsimp only
          rw [if_neg (by omega), if_neg (by omega), if_neg (by omega), if_neg (by omega), if_neg (by omega), if_neg (by omega), show 8 + p - 8 = p by omega]
        · dsimp only
          rw [if_neg (by omega), if_neg (by omega), if_neg (by omega), if_neg (by omega), if_pos (by omega)]
        · rw [h2 q (by omega), src q (by omega) (by omega)]
      obtain ⟨mm', e1, e2, e3⟩ := c_copyLife (o := o + 19 + 4 * i.toNat) (a := a + 19 + 4 * i.toNat) hS0 l3.2 (by omega)
      refine ⟨mm', e1, fun S hS => ?_, e3⟩
      obtain ⟨⟨s0, s1, s2, s3⟩, s4⟩ := hS
      obtain ⟨⟨t0, t1, t2, t3⟩, t4⟩ := e2
      refine ⟨⟨t0.trans s0, t1.trans s1, t2.trans s2, t3.trans s3⟩, fun p p0 p1 => ?_⟩
      obtain ⟨u1, u2, u3⟩ := t4 p p0 p1
      obtain ⟨w1, w2, w3⟩ := s4 p p0 p1
      dsimp only at u1 u2 u3
      rw [if_neg (by omega), if_neg (by omega), if_neg (by omega), if_neg (by omega), if_neg (by omega), if_pos (by omega), show 4 + p - 4 = p by omega] at u1
      rw [if_neg (by omega), if_neg (by omega), if_neg (by omega), if_neg (by omega), if_neg (by omega), if_neg (by omega), show 8 + p - 8 = p by omega] at u2
      rw [if_neg (by omega), if_neg (by omega), if_neg (by omega), if_neg (by omega), if_pos (by omega)] at u3
      exact ⟨u1.trans w1, u2.trans w2, u3.trans w3⟩
    obtain ⟨mm', k1, k2, k3⟩ := key
    rw [k1, bV_some, w32_id (by omega) (by omega)]
    refine ih mm' ⟨by omega, fun j j0 j1 S hS => ?_, fun q hq => by rw [k3 q (by omega)]; exact h2 q hq⟩
    by_cases e : j = i
    · subst e; exact k2 S hS
    · exact LfR_fr (h1 j j0 (by omega) S hS) (fun q z1 z2 => k3 q (by omega))
  · rintro G mm ⟨i0, h1, h2⟩
    rw [if_pos (by omega)]
    refine ok_some ⟨⟨IsR_fr a1 (fun q z1 z2 => by rw [h2 q (by omega), g q (by omega), f2 q (by omega)]), LfR_fr a2 (fun q z1 z2 => by rw [h2 q (by omega), g q (by omega)]), by rw [h2 o (by omega)]; exact go.1, by rw [h2 o (by omega), go.2]; exact r4, fun s s0 s1 => ?_⟩, fun q hq => by rw [h2 q (by omega), g q (by omega), f q (by omega), f1 q (by omega)]⟩
    rw [h2 o (by omega), go.2]
    unfold pastAt at *
    have b10 : 0 ≤ (N - (K 7 - 1 - s)) % 10 ∧ (N - (K 7 - 1 - s)) % 10 < 10 := ⟨Int.emod_nonneg _ (by decide), Int.emod_lt_of_pos _ (by decide)⟩
    exact h1 _ b10.1 b10.2 _ (r5 s s0 s1)

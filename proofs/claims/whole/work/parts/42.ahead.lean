/-! ===== D22: hours to come: neighbours, sets of places ===== -/
/-- i is beside j -/
def adjP (w a i j : Int) : Prop := (i = j - w ∧ 0 ≤ i) ∨ (i = j + 1 ∧ j % w ≠ w - 1) ∨ (i = j + w ∧ j + w < a) ∨ (i = j - 1 ∧ 0 < j ∧ (j - 1) % w ≠ w - 1)
theorem adj_iff {w h i j : Int} (w2 : 2 ≤ w) (w5 : w ≤ 5) (v2 : 2 ≤ h) (v5 : h ≤ 5) (i0 : 0 ≤ i) (i1 : i < w * h) (j0 : 0 ≤ j) (j1 : j < w * h) : (∃ t, 1 ≤ t ∧ t ≤ 4 ∧ besF w h i t = j) ↔ adjP w (w * h) i j := by
  have e1 : besF w h i 1 = if i < w then -1 else i - w := rfl
  have e2 : besF w h i 2 = if i % w < w - 1 then i + 1 else -1 := rfl
  have e3 : besF w h i 3 = if i + w < w * h then i + w else -1 := rfl
  have e4 : besF w h i 4 = if 0 < i % w then i - 1 else -1 := rfl
  unfold adjP
  constructor
  · rintro ⟨t, t1, t4, e⟩
    have : t = 1 ∨ t = 2 ∨ t = 3 ∨ t = 4 := by omega
    rcases this with rfl | rfl | rfl | rfl
    · rw [e1] at e; split at e
      · omega
      · exact .inr (.inr (.inl (by omega)))
    · rw [e2] at e; split at e
      · refine .inr (.inr (.inr ?_)); rcases four_of w2 w5 with rfl | rfl | rfl | rfl <;> omega
      · omega
    · rw [e3] at e; split at e
      · exact .inl (by omega)
      · omega
    · rw [e4] at e; split at e
      · refine .inr (.inl ?_); rcases four_of w2 w5 with rfl | rfl | rfl | rfl <;> omega
      · omega
  · rintro (h1 | h2 | h3 | h4)
    · exact ⟨3, by omega, by omega, by rw [e3, if_pos (by omega)]; omega⟩
    · refine ⟨4, by omega, by omega, ?_⟩
      rw [e4, if_pos (by rcases four_of w2 w5 with rfl | rfl | rfl | rfl <;> omega)]; omega
    · exact ⟨1, by omega, by omega, by rw [e1, if_neg (by omega)]; omega⟩
    · refine ⟨2, by omega, by omega, ?_⟩
      rw [e2, if_pos (by rcases four_of w2 w5 with rfl | rfl | rfl | rfl <;> omega)]; omega
theorem adj_symm {w h i j : Int} (w2 : 2 ≤ w) (w5 : w ≤ 5) (i0 : 0 ≤ i) (i1 : i < w * h) (j0 : 0 ≤ j) (j1 : j < w * h) (q : adjP w (w * h) i j) : adjP w (w * h) j i := by
  unfold adjP at *
  rcases q with q | q | q | q
  · exact .inr (.inr (.inl (by omega)))
  · refine .inr (.inr (.inr ⟨by omega, by omega, ?_⟩))
    rw [show i - 1 = j by omega]; exact q.2
  · exact .inl (by omega)
  · refine .inr (.inl ⟨by omega, ?_⟩)
    rw [show i = j - 1 by omega]; exact q.2.2
/-- the class's tables of the hours to come -/
def openP (K : Int → Int) (p who i : Int) : Nat → Prop := fun k => (k : Int) < K 1 * K 2 ∧ mayF K p who k (K 24 + i) = true
def tethC (K : Int → Int) (p rope : Int) (tied : Bool) (i : Int) : Int := if tied then (if lenF K p rope (K 24 + i) < 8 then lenF K p rope (K 24 + i) else 8) else 8
def AhT (K : Int → Int) (p rope : Int) (tied : Bool) (m : Mem) : Prop :=
  (0 ≤ m 18 16 ∧ m 18 16 ≤ 40 ∧ ∀ i, 1 ≤ i → i ≤ m 18 16 → Bits (m 78 i) (openP K p 0 i) ∧ Bits (m 79 i) (openP K p 1 i)) ∧
  (0 ≤ m 18 17 ∧ m 18 17 ≤ 40 ∧ ∀ i, 1 ≤ i → i ≤ m 18 17 → m 80 i = tethC K p rope tied i)
def AhR (K : Int → Int) (p rope : Int) (tied : Bool) (rocks : Int) (m : Mem) : Prop :=
  (m 18 9 = K 1 * K 2 ∧ m 18 10 = K 1) ∧ NearR (K 1) (K 1 * K 2) m ∧ (m 18 12 = p ∧ m 18 13 = rocks ∧ m 18 14 = rope ∧ m 18 15 = (if tied then 1 else 0)) ∧ AhT K p rope tied m
theorem tethC_rg {K : Int → Int} {p rope i : Int} {tied : Bool} : 0 ≤ tethC K p rope tied i ∧ tethC K p rope tied i ≤ 8 := by
  have : 0 ≤ lenF K p rope (K 24 + i) := by
    unfold lenF
    repeat' split
    all_goals omega
  unfold tethC
  repeat' split
  all_goals omega
/-- what may is does not hang on the hour, where the law doesn't read it -/
theorem mayF_same {K : Int → Int} {p who k h : Int} {m : Mem} (hR : IsR 20 K m) (hI : IsV K) (e5 : m 25 5 = 0) (e6 : m 25 6 = 0 ∨ rainF K h = rainF K (h - 1)) : mayF K p who k h = mayF K p who k (h - 1) := by
  have hlaw := hR.2.2.2.2
  have hv := hI.2.2.2.2.2.2.2.2
  by_cases h6 : K 6 = 0
  · unfold mayF; simp [h6]
  have e : lawF (fun i => K (1097 + i)) (nmM K p who k h) (K 6) = lawF (fun i => K (1097 + i)) (nmM K p who k (h - 1)) (K 6) := by
    unfold lawF
    rw [ev_cong (nm' := nmM K p who k (h - 1))]
    intro i hi q1 q2
    have hi' : (i : Int) < K 6 := by have := hv.1; omega
    have f5 : trO fM (K (1097 + i)) ≠ 131 := hlaw.2.2.2.2.2.1 e5 i (by omega) hi'
    have ew : trO fM (K (1097 + i)) = fM (K (1097 + i) - 100) := by unfold trO; rw [if_neg (by omega), if_pos q1]
    have n5 : K (1097 + i) - 100 ≠ 5 := by
      intro q; rw [ew, q] at f5; exact f5 rfl
    obtain ⟨T, hT⟩ := tyN_pre (hv.2.2.1 (by have := hv.1; omega)) i (by omega)
    obtain ⟨T', hT'⟩ := tyN_pre (hv.2.2.1 (by have := hv.1; omega)) (i + 1) (by omega)
    have w6 : K (1097 + i) - 100 < 6 := by
      rcases tyS_inv (tyN_succ hT hT') with ⟨a, _⟩ | ⟨a, b, d, _⟩ | ⟨a, _⟩ | ⟨a, _⟩ | ⟨a, _⟩ | ⟨a, _⟩ <;> omega
    show nmM K p who k h (K (1097 + i) - 100) = nmM K p who k (h - 1) (K (1097 + i) - 100)
    unfold nmM
    by_cases h4 : K (1097 + i) - 100 = 4
    · rw [h4]
      rcases e6 with e6 | e6
      · have f6 : trO fM (K (1097 + i)) ≠ 130 := hlaw.2.2.2.2.2.2 e6 i (by omega) hi'
        rw [ew, h4] at f6; exact absurd rfl f6
      · simp [e6]
    · repeat' split
      all_goals first | rfl | omega
  unfold mayF
  rw [e]
theorem c_foresee {K : Int → Int} {c p rope rocks h : Int} {tied : Bool} {m : Mem} (hR : CR K m) (hV : CV c K) (c1 : c ≤ 1000000) (p0 : 0 ≤ p) (p1 : p < K 3) (r0 : 0 ≤ rope) (r1 : rope ≤ 20) (h1 : 1 ≤ h) (h40 : h ≤ 40) (hA : AhR K p rope tied rocks m) :
    Ok (fX0_foresee h m) (fun m' => AhR K p rope tied rocks m' ∧ (h ≤ m' 18 16 ∧ h ≤ m' 18 17) ∧ Fr [18, 36, 37, 78, 79, 80] m m') := by
  obtain ⟨⟨s9, s10⟩, hN, ⟨s12, s13, s14, s15⟩, ⟨t0, t1, t2⟩, ⟨u0, u1, u2⟩⟩ := hA
  have hh := (curV_iff.mp hV.2).2.2.2.2
  have hw := wide_of hV.1 p0 p1
  have ar := area_le hw.1.1 hw.1.2 hw.2.1 hw.2.2
  unfold fX0_foresee
  simp only [rd_eq, wr_eq]
  rw [w32_id (x := m 18 16 + 1) (by omega) (by omega)]
  -- what holds while the first table is filled, up to i - 1
  have I1 : ∀ (i : Int) (mm : Mem), True := fun _ _ => trivial
  refine lp_ok (fun (i : Int) (mm : Mem) => (m 18 16 + 1 ≤ i ∧ i ≤ 41) ∧ (i ≤ h + 1 ∨ i = m 18 16 + 1) ∧ (∀ j, 1 ≤ j → j < i → Bits (mm 78 j) (openP K p 0 j) ∧ Bits (mm 79 j) (openP K p 1 j)) ∧ Fr [36, 37, 78, 79] m mm) (fun i _ => (41 - i).toNat) ⟨by omega, .inr rfl, fun j j0 j1 => t2 j j0 (by omega), fr_refl⟩ (by show (41 - (m 18 16 + 1)).toNat < _; omega) ?_
  rintro G i mm ⟨⟨i0, i41⟩, ib, hb, hF⟩ ih
  have hR' : CR K mm := CR_fr hR (fun o a b => hF o (by simp; omega))
  have e18 : mm 18 = m 18 := hF 18 (by decide)
  by_cases hx : h < i
  · rw [if_pos hx, e18, up_idx (show (17 : Int) ≠ 16 by decide), e18, w32_id (x := m 18 17 + 1) (by omega) (by omega)]
    have im : imax (m 18 16) h = i - 1 := by unfold imax; split <;> omega
    rw [im]
    have F1 : Fr [18, 36, 37, 78, 79] m (up mm 18 16 (i - 1)) := fr_up (by simp) (fr_mono' hF (by decide))
    have g18 : ∀ j, j ≠ 16 → up mm 18 16 (i - 1) 18 j = m 18 j := fun j hj => by rw [up_idx hj, e18]
    have g16 : up mm 18 16 (i - 1) 18 16 = i - 1 := up_same _ _ _ _
    have g78 : up mm 18 16 (i - 1) 78 = mm 78 := up_cell (by decide)
    have g79 : up mm 18 16 (i - 1) 79 = mm 79 := up_cell (by decide)
    generalize up mm 18 16 (i - 1) = m1 at *
    refine lp_ok (fun (k : Int) (q : Mem) => (m 18 17 + 1 ≤ k ∧ k ≤ 41) ∧ (k ≤ h + 1 ∨ k = m 18 17 + 1) ∧ (∀ j, 1 ≤ j → j < k → q 80 j = tethC K p rope tied j) ∧ Fr [36, 37, 80] m1 q) (fun k _ => (41 - k).toNat) ⟨by omega, .inr rfl, fun j j0 j1 => ?_, fr_refl⟩ (by show (41 - (m 18 17 + 1)).toNat < _; omega) ?_
    · rw [F1 80 (by decide)]; exact u2 j j0 (by omega)
    rintro G2 k q ⟨⟨k0, k41⟩, kb, hk, hF2⟩ ih2
    have F2 : Fr [18, 36, 37, 78, 79, 80] m q := fr_trans (fr_mono' F1 (by decide)) (fr_mono' hF2 (by decide))
    have hR2 : CR K q := CR_fr hR (fun o a b => F2 o (by simp; omega))
    have e18' : q 18 = m1 18 := hF2 18 (by decide)
    by_cases hy : h < k
    · rw [if_pos hy, e18', g18 17 (by decide)]
      have im2 : imax (m 18 17) h = k - 1 := by unfold imax; split <;> omega
      rw [im2]
      have z18 : ∀ j, j ≠ 16 → j ≠ 17 → up q 18 17 (k - 1) 18 j = m 18 j := fun j a b => by rw [up_idx b, e18', g18 j a]
      have z16 : up q 18 17 (k - 1) 18 16 = i - 1 := by rw [up_idx (by decide), e18', g16]
      have z17 : up q 18 17 (k - 1) 18 17 = k - 1 := up_same _ _ _ _
      have zz : ∀ o, o ≠ 18 → up q 18 17 (k - 1) o = q o := fun o a => up_cell a
      refine ok_some ⟨⟨⟨?_, ?_⟩, ⟨?_, fun f j a b d e => ?_⟩, ⟨?_, ?_, ?_, ?_⟩, ⟨?_, ?_, fun j a b => ?_⟩, ⟨?_, ?_, fun j a b => ?_⟩⟩, ⟨?_, ?_⟩, fr_up (by simp) F2⟩
      · rw [z18 9 (by decide) (by decide)]; exact s9
      · rw [z18 10 (by decide) (by decide)]; exact s10
      · rw [z18 11 (by decide) (by decide)]; exact hN.1
      · rw [zz 81 (by decide), F2 81 (by decide)]; exact hN.2 f j a b d e
      · rw [z18 12 (by decide) (by decide)]; exact s12
      · rw [z18 13 (by decide) (by decide)]; exact s13
      · rw [z18 14 (by decide) (by decide)]; exact s14
      · rw [z18 15 (by decide) (by decide)]; exact s15
      · rw [z16]; omega
      · rw [z16]; omega
      · rw [z16] at b
        rw [zz 78 (by decide), zz 79 (by decide), hF2 78 (by decide), hF2 79 (by decide), g78, g79]
        exact hb j a (by omega)
      · rw [z17]; omega
      · rw [z17]; omega
      · rw [z17] at b
        rw [zz 80 (by decide)]
        exact hk j a (by omega)
      · rw [z16]; omega
      · rw [z17]; omega
    · rw [if_neg hy, e18', g18 15 (by decide), s15]
      have next : ∀ (v : Int) (m' : Mem), v = tethC K p rope tied k → Fr [36, 37] q m' → Ok (G2 (w32 (k + 1)) (up m' 80 k v)) (fun m' => AhR K p rope tied rocks m' ∧ (h ≤ m' 18 16 ∧ h ≤ m' 18 17) ∧ Fr [18, 36, 37, 78, 79, 80] m m') := by
        intro v m' hv hf
        rw [w32_id (by omega) (by omega)]
        refine ih2 _ _ ⟨by omega, .inl (by omega), fun j j0 j1 => ?_, fr_up (by simp) (fr_trans hF2 (fr_mono' hf (by decide)))⟩ (by show (41 - (k + 1)).toNat < (41 - k).toNat; omega)
        rw [up_row]
        by_cases e : j = k
        · subst e; rw [ku_at]; exact hv
        · rw [ku_ne e, hf 80 (by decide)]; exact hk j j0 (by omega)
      cases htd : tied
      · subst htd
        simp only [Bool.false_eq_true, if_false, if_true]
        simp only [jn_eq]
        rw [chk_of (by omega)]
        refine next _ _ ?_ fr_refl
        show imin 8 8 = 8
        decide
      · subst htd
        simp only [if_true, Int.reduceEq, reduceIte]
        simp only [jn_eq]
        rw [g18 12 (by decide), g18 14 (by decide), s12, s14, (curR_iff.mp hR2.2).1.1, w32_id (x := K 24 + k) (by omega) (by omega)]
        refine ok_bW (c_lengthOf hV.1 hV.2 hR2.1 hR2.2 p0 p1 r0 r1 (by omega)) ?_
        rintro x m' ⟨ex, hf⟩
        simp only at ex hf
        subst ex
        rw [chk_of (by omega)]
        refine next _ _ ?_ hf
        unfold tethC imin
        rw [if_pos rfl]
  · rw [if_neg hx, (curR_iff.mp hR'.2).1.1, w32_id (x := K 24 + i) (by omega) (by omega), c_rainIn hR'.2 rfl rfl, bR_some, w32_id (x := K 24 + i - 1) (by omega) (by omega), c_rainIn hR'.2 rfl rfl, bR_some]
    simp only [jn_eq]
    rw [e18, s9, s12, w32_id (x := i + 1) (by omega) (by omega)]
    have next : ∀ (v v' : Int) (m' : Mem), Bits v (openP K p 0 i) → Bits v' (openP K p 1 i) → m' 78 = ku (mm 78) i v → m' 79 = ku (mm 79) i v' → Fr [36, 37, 78, 79] mm m' → Ok (G (i + 1) m') (fun m' => AhR K p rope tied rocks m' ∧ (h ≤ m' 18 16 ∧ h ≤ m' 18 17) ∧ Fr [18, 36, 37, 78, 79, 80] m m') := by
      intro v v' m' hv hv' e78 e79 hf
      refine ih _ _ ⟨by omega, .inl (by omega), fun j j0 j1 => ?_, fr_trans hF hf⟩ (by show (41 - (i + 1)).toNat < (41 - i).toNat; omega)
      rw [e78, e79]
      by_cases e : j = i
      · subst e; rw [ku_at, ku_at]; exact ⟨hv, hv'⟩
      · rw [ku_ne e, ku_ne e]; exact hb j j0 (by omega)
    have full : Ok (bW (fX10_lawBits p 0 (K 24 + i) 0 (K 1 * K 2) mm) fun x30 mm => chk ((0 : Int) ≤ i ∧ i < ((41 : Nat) : Int)) (bW (fX10_lawBits (up mm 78 i x30 18 12) 1 (K 24 + i) 0 (up mm 78 i x30 18 9) (up mm 78 i x30)) fun x33 mm => chk ((0 : Int) ≤ i ∧ i < ((41 : Nat) : Int)) (G (i + 1) (up mm 79 i x33)))) (fun m' => AhR K p rope tied rocks m' ∧ (h ≤ m' 18 16 ∧ h ≤ m' 18 17) ∧ Fr [18, 36, 37, 78, 79, 80] m m') := by
      refine ok_bW (c_lawBits hV.1 hV.2 hR'.1 hR'.2 p0 p1 (by decide) (by decide) (by omega) (by decide) (by omega) (by omega)) ?_
      rintro x1 m1 ⟨b1, f1⟩
      simp only at b1 f1
      have f1' : Fr [36, 37, 78] mm (up m1 78 i x1) := fr_up (by simp) (fr_mono' f1 (by decide))
      have hR1 : CR K (up m1 78 i x1) := CR_fr hR' (fun o a b => f1' o (by simp; omega))
      rw [chk_of (by omega), f1' 18 (by decide), e18, s12, s9]
      refine ok_bW (c_lawBits hV.1 hV.2 hR1.1 hR1.2 p0 p1 (by decide) (by decide) (by omega) (by decide) (by omega) (by omega)) ?_
      rintro x2 m2 ⟨b2, f2⟩
      simp only at b2 f2
      rw [chk_of (by omega)]
      refine next x1 x2 _ (bits_imp b1 (fun k hk => ?_)) (bits_imp b2 (fun k hk => ?_)) ?_ ?_ (fr_up (by simp) (fr_trans (fr_mono' f1' (by decide)) (fr_mono' f2 (by decide))))
      · unfold openP; constructor
        · rintro ⟨_, a, b⟩; exact ⟨a, b⟩
        · rintro ⟨a, b⟩; exact ⟨by omega, a, b⟩
      · unfold openP; constructor
        · rintro ⟨_, a, b⟩; exact ⟨a, b⟩
        · rintro ⟨a, b⟩; exact ⟨by omega, a, b⟩
      · rw [up_cell (by decide), f2 78 (by decide), up_row, f1 78 (by decide)]
      · rw [up_row, f2 79 (by decide), up_cell (by decide), f1 79 (by decide)]
    have e25 : ∀ j, mm 25 j = m 25 j := fun j => by rw [hF 25 (by decide)]
    have copy : 1 < i → mm 25 5 = 0 → (mm 25 6 = 0 ∨ rainF K (K 24 + i) = rainF K (K 24 + i - 1)) → Ok (chk ((0 : Int) ≤ w32 (i - 1) ∧ w32 (i - 1) < ((41 : Nat) : Int)) (chk ((0 : Int) ≤ i ∧ i < ((41 : Nat) : Int)) (chk ((0 : Int) ≤ w32 (i - 1) ∧ w32 (i - 1) < ((41 : Nat) : Int)) (chk ((0 : Int) ≤ i ∧ i < ((41 : Nat) : Int)) (G (i + 1) (up (up mm 78 i (mm 78 (w32 (i - 1)))) 79 i (up mm 78 i (mm 78 (w32 (i - 1))) 79 (w32 (i - 1))))))))) (fun m' => AhR K p rope tied rocks m' ∧ (h ≤ m' 18 16 ∧ h ≤ m' 18 17) ∧ Fr [18, 36, 37, 78, 79, 80] m m') := by
      intro q1 q2 q3
      obtain ⟨p1, p2⟩ := hb (i - 1) (by omega) (by omega)
      have same : ∀ who k, mayF K p who k (K 24 + i) = mayF K p who k (K 24 + (i - 1)) := fun who k => by
        rw [show K 24 + (i - 1) = K 24 + i - 1 by omega]
        exact mayF_same hR'.1 hV.1 q2 q3
      rw [w32_id (x := i - 1) (by omega) (by omega), chk_of (by omega), chk_of (by omega), chk_of (by omega), chk_of (by omega), up_cell (show 79 ≠ 78 by decide)]
      refine next (mm 78 (i - 1)) (mm 79 (i - 1)) _ (bits_imp p1 (fun k hk => ?_)) (bits_imp p2 (fun k hk => ?_)) ?_ ?_ (fr_up (by simp) (fr_up (by simp) fr_refl))
      · unfold openP; rw [same]
      · unfold openP; rw [same]
      · rw [up_cell (by decide), up_row]
      · rw [up_row, up_cell (by decide)]
    by_cases q4 : rainF K (K 24 + i) = rainF K (K 24 + i - 1)
    · rw [if_pos q4]
      by_cases q1 : i ≤ 1
      · rw [if_pos q1]; exact full
      · rw [if_neg q1]
        by_cases q2 : mm 25 5 = 0
        · rw [if_neg (show ¬ ¬ mm 25 5 = 0 from fun z => z q2)]
          by_cases q3 : mm 25 6 = 0
          · rw [if_pos q3]; exact copy (by omega) q2 (.inl q3)
          · rw [if_neg q3, if_neg (by decide)]; exact copy (by omega) q2 (.inr q4)
        · rw [if_pos q2]; exact full
    · rw [if_neg q4]
      by_cases q1 : i ≤ 1
      · rw [if_pos q1]; exact full
      · rw [if_neg q1]
        by_cases q2 : mm 25 5 = 0
        · rw [if_neg (show ¬ ¬ mm 25 5 = 0 from fun z => z q2)]
          by_cases q3 : mm 25 6 = 0
          · rw [if_pos q3]; exact copy (by omega) q2 (.inl q3)
          · rw [if_neg q3, if_pos (by decide)]; exact full
        · rw [if_pos q2]; exact full

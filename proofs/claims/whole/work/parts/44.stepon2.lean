/-! ===== D24: a step of the sets ===== -/
/-- one goes from i to j within the coming hour -/
def mvP (K : Int → Int) (p rocks who h i j : Int) : Prop := j = i ∨ (adjP (K 1) (K 1 * K 2) i j ∧ mayF K p who j (K 24 + h) = true ∧ tb rocks j.toNat = false)
/-- where both can be behind a set of where they are -/
def nxtP (K : Int → Int) (p rope : Int) (tied : Bool) (rocks h : Int) (P : Int → Nat → Prop) (j : Int) (k : Nat) : Prop :=
  (0 ≤ j ∧ j < K 1 * K 2) ∧ (k : Int) < K 1 * K 2 ∧ apartF (K 1) j k ≤ tethC K p rope tied h ∧ ∃ j0 : Int, (0 ≤ j0 ∧ j0 < K 1 * K 2) ∧ mvP K p rocks 0 h j0 j ∧ ∃ k0 : Nat, P j0 k0 ∧ mvP K p rocks 1 h k0 k
/-- the hours' tables, kept by what leaves their cells -/
theorem AhR_fr {K : Int → Int} {p rope rocks : Int} {tied : Bool} {m m' : Mem} (h : AhR K p rope tied rocks m) (h18 : m' 18 = m 18) (h78 : m' 78 = m 78) (h79 : m' 79 = m 79) (h80 : m' 80 = m 80) (h81 : m' 81 = m 81) : AhR K p rope tied rocks m' := by
  unfold AhR AhT NearR at *
  rw [h18, h78, h79, h80, h81]; exact h
theorem c_stepOn {K : Int → Int} {c p rope rocks h fa ta : Int} {tied : Bool} {src dst n0 n2 : Nat} {P : Int → Nat → Prop} {m : Mem} (hR : CR K m) (hV : CV c K) (c1 : c ≤ 1000000) (p0 : 0 ≤ p) (p1 : p < K 3) (r0 : 0 ≤ rope) (r1 : rope ≤ 20) (h1 : 1 ≤ h) (h40 : h ≤ 40) (hA : AhR K p rope tied rocks m)
    (hs1 : src ∉ [18, 36, 37, 78, 79, 80, 84]) (hd1 : dst ∉ [18, 36, 37, 78, 79, 80, 81, 84]) (hd2 : dst < 20 ∨ 31 ≤ dst) (f0 : 0 ≤ fa) (f1 : fa + 25 ≤ n0) (t0 : 0 ≤ ta) (t1 : ta + 25 ≤ n2) (b0 : n0 ≤ 100000) (b2 : n2 ≤ 100000)
    (hP : ∀ j, 0 ≤ j → j < K 1 * K 2 → Bits (m src (fa + j)) (P j)) (hPk : ∀ j k, 0 ≤ j → j < K 1 * K 2 → P j k → (k : Int) < K 1 * K 2) :
    Ok (fX0_stepOn src n0 fa dst n2 ta h m) (fun r => (r.1 = 0 ∨ r.1 = 1) ∧ (r.1 = 1 ↔ ∃ j k, (0 ≤ j ∧ j < K 1 * K 2) ∧ nxtP K p rope tied rocks h P j k) ∧
      (∀ j, 0 ≤ j → j < K 1 * K 2 → Bits (r.2 dst (ta + j)) (nxtP K p rope tied rocks h P j)) ∧ (∀ i, i < ta ∨ ta + K 1 * K 2 ≤ i → r.2 dst i = m dst i) ∧
      AhR K p rope tied rocks r.2 ∧ (h ≤ r.2 18 16 ∧ h ≤ r.2 18 17) ∧ Fr [18, 36, 37, 78, 79, 80, 84, dst] m r.2) := by
  have hw := wide_of hV.1 p0 p1
  have ar := area_le hw.1.1 hw.1.2 hw.2.1 hw.2.2
  unfold fX0_stepOn
  refine ok_bV (c_foresee hR hV c1 p0 p1 r0 r1 h1 h40 hA) ?_
  rintro m1 ⟨hA1, ⟨g16, g17⟩, F1⟩
  obtain ⟨⟨s9, s10⟩, hN, ⟨s12, s13, s14, s15⟩, ⟨_, _, z2⟩, ⟨_, _, y2⟩⟩ := hA1
  obtain ⟨o1, o2⟩ := z2 h h1 g16
  have ot := y2 h h1 g17
  have tr := tethC_rg (K := K) (p := p) (rope := rope) (i := h) (tied := tied)
  simp only [rd_eq, wr_eq]
  rw [chk_of (by omega), chk_of (by omega), s13]
  have B1 := bits_andn (y := rocks) o1
  have B2 := bits_andn (y := rocks) o2
  generalize iand (m1 78 h) (ixor rocks (-1)) = fo at *
  generalize iand (m1 79 h) (ixor rocks (-1)) = so at *
  have fo' := tb_iff B1 (fun i q => by have := q.1.1; omega)
  have hs2 : m1 src = m src := F1 src (by simp at hs1 ⊢; omega)
  have hA1 : AhR K p rope tied rocks m1 := ⟨⟨s9, s10⟩, hN, ⟨s12, s13, s14, s15⟩, ⟨by assumption, by assumption, z2⟩, ⟨by assumption, by assumption, y2⟩⟩
  -- the first loop: where the second goes
  refine lp_for (K 1 * K 2) (fun i mm => 0 ≤ i ∧ (∀ j, 0 ≤ j → j < i → Bits (mm 84 j) (fun k => (k : Int) < K 1 * K 2 ∧ ∃ k0 : Nat, P j k0 ∧ mvP K p rocks 1 h k0 k)) ∧ Fr [84] m1 mm) ⟨by omega, fun j _ _ => by omega, fr_refl⟩ (by omega) (by omega) ?_ ?_
  · rintro G i mm hi ⟨i0, ib, hF⟩ ih
    have e18 : mm 18 = m1 18 := hF 18 (by decide)
    have esrc : mm src = m src := (hF src (by simp at hs1 ⊢; omega)).trans hs2
    have hPi := hP i i0 hi
    rw [e18, s9, if_neg (by omega), w32_id (x := fa + i) (by omega) (by omega), chk_of (by omega), esrc, w32_id (x := i + 1) (by omega) (by omega)]
    simp only [jn_eq]
    have next : ∀ v, Bits v (fun k => (k : Int) < K 1 * K 2 ∧ ∃ k0 : Nat, P i k0 ∧ mvP K p rocks 1 h k0 k) → Ok (chk ((0 : Int) ≤ i ∧ i < ((25 : Nat) : Int)) (G (i + 1) (up mm 84 i v))) (fun r => (r.1 = 0 ∨ r.1 = 1) ∧ (r.1 = 1 ↔ ∃ j k, (0 ≤ j ∧ j < K 1 * K 2) ∧ nxtP K p rope tied rocks h P j k) ∧ (∀ j, 0 ≤ j → j < K 1 * K 2 → Bits (r.2 dst (ta + j)) (nxtP K p rope tied rocks h P j)) ∧ (∀ i, i < ta ∨ ta + K 1 * K 2 ≤ i → r.2 dst i = m dst i) ∧ AhR K p rope tied rocks r.2 ∧ (h ≤ r.2 18 16 ∧ h ≤ r.2 18 17) ∧ Fr [18, 36, 37, 78, 79, 80, 84, dst] m r.2) := by
      intro v hv
      rw [chk_of (by omega)]
      refine ih _ ⟨by omega, fun j j0 j1 => ?_, fr_up (by simp) hF⟩
      rw [up_row]
      by_cases e : j = i
      · subst e; rw [ku_at]; exact hv
      · rw [ku_ne e]; exact ib j j0 (by omega)
    by_cases hz : m src (fa + i) = 0
    · rw [if_neg (show ¬ ¬ m src (fa + i) = 0 from fun z => z hz)]
      refine next 0 (bits_zero (fun k hk q => ?_))
      obtain ⟨_, k0, q1, _⟩ := q
      have := (bits_eq0 hPi).mp hz k0 (by have := hPk i k0 i0 hi q1; omega)
      exact this q1
    · rw [if_pos hz]
      obtain ⟨y, ey, hy⟩ := c_around (m := mm) hw.1.1 hw.1.2 hw.2.1 hw.2.2 (by rw [e18]; exact s9) (by rw [e18]; exact s10) (by rw [e18]; exact hN.1) hPi (fun k q => hPk i k i0 hi q)
      rw [ey, bR_some]
      refine next _ (bits_imp (bits_or2 hPi (bits_and2 hy B2)) (fun k hk => ?_))
      constructor
      · rintro (q | ⟨⟨q1, k0, q2, q3⟩, ⟨q4, q5⟩, q6⟩)
        · exact ⟨hPk i k i0 hi q, k, q, .inl rfl⟩
        · exact ⟨q1, k0, q2, .inr ⟨q3, q5, by rw [Int.toNat_natCast]; exact q6⟩⟩
      · rintro ⟨q1, k0, q2, q3 | ⟨q3, q4, q5⟩⟩
        · have : k = k0 := by omega
          subst this; exact .inl q2
        · rw [Int.toNat_natCast] at q5
          exact .inr ⟨⟨q1, k0, q2, q3⟩, ⟨q1, q4⟩, q5⟩
  · rintro G mm ⟨_, ib, hF⟩
    have e18 : mm 18 = m1 18 := hF 18 (by decide)
    rw [e18, s9, if_pos (by omega)]
    refine lp_for2 (K 1 * K 2) (fun t i q => 0 ≤ i ∧ Bits t (fun k => ∃ j, (0 ≤ j ∧ j < i) ∧ nxtP K p rope tied rocks h P j k) ∧ (∀ j, 0 ≤ j → j < i → Bits (q dst (ta + j)) (nxtP K p rope tied rocks h P j)) ∧ (∀ j, j < ta ∨ ta + i ≤ j → q dst j = mm dst j) ∧ Fr [dst] mm q) ⟨by omega, bits_zero (fun k _ q => by obtain ⟨j, q1, _⟩ := q; omega), fun j _ _ => by omega, fun _ _ => rfl, fr_refl⟩ (by omega) (by omega) ?_ ?_
    · rintro G2 t i q hi ⟨i0, hb, hj, ho, hF2⟩ ih
      have e18' : q 18 = m1 18 := (hF2 18 (by simp at hd1 ⊢; omega)).trans e18
      have e84 : q 84 = mm 84 := hF2 84 (by simp at hd1 ⊢; omega)
      have e80 : q 80 = m1 80 := (hF2 80 (by simp at hd1 ⊢; omega)).trans (hF 80 (by decide))
      have e81 : q 81 = m1 81 := (hF2 81 (by simp at hd1 ⊢; omega)).trans (hF 81 (by decide))
      rw [e18', s9, if_neg (by omega), chk_of (by omega), e84, w32_id (x := i + 1) (by omega) (by omega)]
      simp only [jn_eq]
      have next : ∀ v, Bits v (fun k => (k : Int) < K 1 * K 2 ∧ ∃ j0 : Int, (0 ≤ j0 ∧ j0 < K 1 * K 2) ∧ mvP K p rocks 0 h j0 i ∧ ∃ k0 : Nat, P j0 k0 ∧ mvP K p rocks 1 h k0 k) → Ok (chk ((0 : Int) ≤ h ∧ h < ((41 : Nat) : Int)) (chk ((0 : Int) ≤ w32 (w32 (q 80 h * 25) + i) ∧ w32 (w32 (q 80 h * 25) + i) < ((225 : Nat) : Int)) (chk ((0 : Int) ≤ w32 (ta + i) ∧ w32 (ta + i) < ((n2 : Nat) : Int)) (chk ((0 : Int) ≤ w32 (ta + i) ∧ w32 (ta + i) < ((n2 : Nat) : Int)) (G2 (ior t (up q dst (w32 (ta + i)) (iand v (q 81 (w32 (w32 (q 80 h * 25) + i)))) dst (w32 (ta + i))), i + 1) (up q dst (w32 (ta + i)) (iand v (q 81 (w32 (w32 (q 80 h * 25) + i)))))))))) (fun r => (r.1 = 0 ∨ r.1 = 1) ∧ (r.1 = 1 ↔ ∃ j k, (0 ≤ j ∧ j < K 1 * K 2) ∧ nxtP K p rope tied rocks h P j k) ∧ (∀ j, 0 ≤ j → j < K 1 * K 2 → Bits (r.2 dst (ta + j)) (nxtP K p rope tied rocks h P j)) ∧ (∀ i, i < ta ∨ ta + K 1 * K 2 ≤ i → r.2 dst i = m dst i) ∧ AhR K p rope tied rocks r.2 ∧ (h ≤ r.2 18 16 ∧ h ≤ r.2 18 17) ∧ Fr [18, 36, 37, 78, 79, 80, 84, dst] m r.2) := by
        intro v hv
        rw [e80, ot, w32_id (x := tethC K p rope tied h * 25) (by omega) (by omega), w32_id (x := tethC K p rope tied h * 25 + i) (by omega) (by omega), w32_id (x := ta + i) (by omega) (by omega), chk_of (by omega), chk_of (by omega), chk_of (by omega), chk_of (by omega), up_same, e81]
        have hn := hN.2 (tethC K p rope tied h) i tr.1 tr.2 i0 hi
        rw [show 25 * tethC K p rope tied h + i = tethC K p rope tied h * 25 + i by omega] at hn
        have hv2 : Bits (iand v (m1 81 (tethC K p rope tied h * 25 + i))) (nxtP K p rope tied rocks h P i) := bits_imp (bits_and2 hv hn) (fun k _ => ⟨fun ⟨⟨a, b⟩, d, e⟩ => ⟨⟨i0, hi⟩, d, e, b⟩, fun ⟨_, a, b, d⟩ => ⟨⟨a, d⟩, a, b⟩⟩)
        refine ih _ _ ⟨by omega, bits_imp (bits_or2 hb hv2) (fun k _ => ?_), fun j j0 j1 => ?_, fun j hj' => ?_, fr_up (by simp) hF2⟩
        · constructor
          · rintro (⟨j, a, b⟩ | b)
            · exact ⟨j, by omega, b⟩
            · exact ⟨i, by omega, b⟩
          · rintro ⟨j, a, b⟩
            by_cases e : j = i
            · subst e; exact .inr b
            · exact .inl ⟨j, by omega, b⟩
        · rw [up_row]
          by_cases e : j = i
          · subst e; rw [ku_at]; exact hv2
          · rw [ku_ne (by omega)]; exact hj j j0 (by omega)
        · rw [up_row, ku_ne (by omega)]; exact ho j (by omega)
      rw [bit_ui _ i0 (by omega)]
      have key := fo' i.toNat
      unfold openP at key
      rw [Int.toNat_of_nonneg i0] at key
      cases hb2 : tb fo i.toNat
      · rw [if_pos (by simp)]
        refine next _ (bits_imp (ib i i0 hi) (fun k _ => ?_))
        constructor
        · rintro ⟨a, k0, b⟩; exact ⟨a, i, ⟨i0, hi⟩, .inl rfl, k0, b⟩
        · rintro ⟨a, j0, _, b | ⟨_, b, d⟩, k0, e⟩
          · subst b; exact ⟨a, k0, e⟩
          · have := key.mpr ⟨⟨hi, b⟩, d⟩
            rw [hb2] at this; cases this
      · rw [if_neg (by simp)]
        obtain ⟨⟨_, g1⟩, g2⟩ := key.mp hb2
        obtain ⟨y, ey, hy⟩ := c_spreadAround (m := q) (Q := fun j => fun k => (k : Int) < K 1 * K 2 ∧ ∃ k0 : Nat, P j k0 ∧ mvP K p rocks 1 h k0 k) hw.1.1 hw.1.2 hw.2.1 hw.2.2 (by rw [e18']; exact s9) (by rw [e18']; exact s10) (by rw [e18']; exact hN.1) i0 hi (fun z z0 z1 => by rw [e84]; exact ib z z0 z1)
        rw [ey, bR_some]
        refine next _ (bits_imp (bits_or2 (ib i i0 hi) hy) (fun k _ => ?_))
        constructor
        · rintro (⟨a, k0, b⟩ | ⟨j0, a, b, d, k0, e⟩)
          · exact ⟨a, i, ⟨i0, hi⟩, .inl rfl, k0, b⟩
          · exact ⟨d, j0, a, .inr ⟨b, g1, g2⟩, k0, e⟩
        · rintro ⟨a, j0, a2, b | ⟨b, _, _⟩, k0, e⟩
          · subst b; exact .inl ⟨a, k0, e⟩
          · exact .inr ⟨j0, a2, b, a, k0, e⟩
    · rintro G2 t q ⟨i0, hb, hj, ho, hF2⟩
      have e18' : q 18 = m1 18 := (hF2 18 (by simp at hd1 ⊢; omega)).trans e18
      rw [e18', s9, if_pos (by omega)]
      simp only [jn_eq]
      have FF : Fr [18, 36, 37, 78, 79, 80, 84, dst] m q := fr_trans (fr_mono F1 (fun o ho => by simp at ho ⊢; omega)) (fr_trans (fr_mono hF (fun o ho => by simp at ho ⊢; omega)) (fr_mono hF2 (fun o ho => by simp at ho ⊢; omega)))
      have hA2 : AhR K p rope tied rocks q := AhR_fr hA1 e18' ((hF2 78 (by simp at hd1 ⊢; omega)).trans (hF 78 (by decide))) ((hF2 79 (by simp at hd1 ⊢; omega)).trans (hF 79 (by decide))) ((hF2 80 (by simp at hd1 ⊢; omega)).trans (hF 80 (by decide))) ((hF2 81 (by simp at hd1 ⊢; omega)).trans (hF 81 (by decide)))
      have od : ∀ i, i < ta ∨ ta + K 1 * K 2 ≤ i → q dst i = m dst i := fun i hi => by
        rw [ho i hi, hF dst (by simp at hd1 ⊢; omega), F1 dst (by simp at hd1 ⊢; omega)]
      have hz := bits_eq0 hb
      have lt32 : ∀ j k, nxtP K p rope tied rocks h P j k → k < 32 := fun j k q => by have := q.2.1; omega
      by_cases ht : t = 0
      · rw [if_pos ht, chk_of (by simp)]
        refine ok_some ⟨.inl rfl, ⟨fun z => by simp at z, fun ⟨j, k, a, b⟩ => absurd ⟨j, a, b⟩ (hz.mp ht k (lt32 j k b))⟩, hj, od, hA2, by show h ≤ q 18 16 ∧ h ≤ q 18 17; rw [e18']; exact ⟨g16, g17⟩, FF⟩
      · rw [if_neg ht, chk_of (by simp)]
        refine ok_some ⟨.inr rfl, ⟨fun _ => ?_, fun _ => rfl⟩, hj, od, hA2, by show h ≤ q 18 16 ∧ h ≤ q 18 17; rw [e18']; exact ⟨g16, g17⟩, FF⟩
        refine Classical.byContradiction (fun hn => ht (hz.mpr (fun k hk z => hn ?_)))
        obtain ⟨j, a, b⟩ := z
        exact ⟨j, k, a, b⟩

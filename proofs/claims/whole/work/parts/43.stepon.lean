/-! ===== D23: the sets of the next hour ===== -/
theorem tb_all : ∀ a : Nat, a < 26 → ∀ i : Nat, i < 32 → tb (w32 (ishl 1 (a : Int) - 1)) i = decide (i < a) := by decide +kernel
theorem last_col {w h k : Int} (w2 : 2 ≤ w) (w5 : w ≤ 5) (v2 : 2 ≤ h) (v5 : h ≤ 5) (k0 : 0 ≤ k) (k1 : k < w * h) (q : k % w ≠ w - 1) : k + 1 < w * h := by
  rcases four_of w2 w5 with rfl | rfl | rfl | rfl <;> omega
theorem tb_iff {x : Int} {P : Nat → Prop} (h : Bits x P) (hP : ∀ i, P i → i < 32) (i : Nat) : tb x i = true ↔ P i := by
  by_cases hi : i < 32
  · exact h.2 i hi
  · rw [tb_big (by omega)]
    constructor
    · intro q; cases q
    · intro q; exact absurd (hP i q) hi
theorem c_around {K : Int → Int} {x : Int} {P : Nat → Prop} {m : Mem} (w2 : 2 ≤ K 1) (w5 : K 1 ≤ 5) (v2 : 2 ≤ K 2) (v5 : K 2 ≤ 5) (s9 : m 18 9 = K 1 * K 2) (s10 : m 18 10 = K 1)
    (hL : Bits (m 18 11) (fun j => (j : Int) < K 1 * K 2 ∧ (j : Int) % K 1 = K 1 - 1)) (hx : Bits x P) (hP : ∀ k, P k → (k : Int) < K 1 * K 2) :
    ∃ y, fX0_around x m = some y ∧ Bits y (fun k => (k : Int) < K 1 * K 2 ∧ ∃ j : Nat, P j ∧ adjP (K 1) (K 1 * K 2) j k) := by
  have ar := area_le w2 w5 v2 v5
  have hx' := tb_iff hx (fun i q => by have := hP i q; omega)
  have hL' := tb_iff hL (fun i q => by omega)
  unfold fX0_around
  simp only [rd_eq, s9, s10]
  refine ⟨_, rfl, ior_rg _ _, fun i hi => ?_⟩
  have eW : K 1 = (((K 1).toNat : Nat) : Int) := by omega
  have eA : K 1 * K 2 = (((K 1 * K 2).toNat : Nat) : Int) := by omega
  have ta := tb_all (K 1 * K 2).toNat (by omega) i hi
  rw [← eA] at ta
  have t1 := tb_ushr x (n := (K 1).toNat) (by omega) i
  have t2 := tb_shl x (n := (K 1).toNat) (by omega) hi
  rw [← eW] at t1 t2
  have t3 := tb_shl (iand x (ixor (m 18 11) (-1))) (n := 1) (by decide) hi
  have t4 := tb_ushr x (n := 1) (by decide) i
  rw [show ((1 : Nat) : Int) = 1 from rfl] at t3 t4
  rw [tb_or, tb_or, tb_or, tb_and, tb_and, t1, t2, ta, t3, t4, tb_not _ hi]
  simp only [Bool.or_eq_true, Bool.and_eq_true, decide_eq_true_eq, Bool.not_eq_true']
  constructor
  · rintro (((h | ⟨⟨h1, h2⟩, h3⟩) | ⟨h1, h2⟩) | ⟨h1, h2⟩)
    · have hp := (hx' _).mp h
      have := hP _ hp
      refine ⟨by omega, _, hp, .inr (.inr (.inl ⟨by omega, by omega⟩))⟩
    · have hp := (hx' _).mp h2
      refine ⟨by omega, _, hp, .inl ⟨by omega, by omega⟩⟩
    · rw [tb_and, tb_not _ (show i - 1 < 32 by omega)] at h2
      simp only [Bool.and_eq_true, Bool.not_eq_true'] at h2
      have hp := (hx' _).mp h2.1
      have hk := hP _ hp
      have hl : ((i : Int) - 1) % K 1 ≠ K 1 - 1 := by
        intro q
        have : tb (m 18 11) (i - 1) = true := (hL' _).mpr ⟨hk, by rw [show (((i - 1 : Nat)) : Int) = (i : Int) - 1 by omega]; exact q⟩
        rw [this] at h2; cases h2.2
      have := last_col (k := (i : Int) - 1) w2 w5 v2 v5 (by omega) (by omega) hl
      exact ⟨by omega, _, hp, .inr (.inr (.inr ⟨by omega, by omega, hl⟩))⟩
    · have hp := (hx' _).mp h1
      have hk := hP _ hp
      have hl : (i : Int) % K 1 ≠ K 1 - 1 := by
        intro q
        have : tb (m 18 11) i = true := (hL' _).mpr ⟨by omega, q⟩
        rw [this] at h2; cases h2
      exact ⟨by omega, _, hp, .inr (.inl ⟨by omega, hl⟩)⟩
  · rintro ⟨hk, j, hp, h⟩
    have hj := hP _ hp
    rcases h with h | h | h | h
    · refine .inl (.inl (.inr ⟨⟨by omega, ?_⟩, by omega⟩))
      rw [show i - (K 1).toNat = j by omega]; exact (hx' _).mpr hp
    · refine .inr ⟨?_, ?_⟩
      · rw [show 1 + i = j by omega]; exact (hx' _).mpr hp
      · cases q : tb (m 18 11) i with
        | false => rfl
        | true => exact absurd ((hL' _).mp q).2 h.2
    · refine .inl (.inl (.inl ?_))
      rw [show (K 1).toNat + i = j by omega]; exact (hx' _).mpr hp
    · refine .inl (.inr ⟨by omega, ?_⟩)
      rw [tb_and, tb_not _ (show i - 1 < 32 by omega), show i - 1 = j by omega, (hx' _).mpr hp]
      cases q : tb (m 18 11) j with
      | false => rfl
      | true =>
        have := ((hL' _).mp q).2
        rw [show (j : Int) = (i : Int) - 1 by omega] at this
        exact absurd this h.2.2
theorem bits_or2 {x y : Int} {P Q : Nat → Prop} (h : Bits x P) (k : Bits y Q) : Bits (ior x y) (fun i => P i ∨ Q i) :=
  ⟨ior_rg _ _, fun i hi => by rw [tb_or, Bool.or_eq_true, h.2 i hi, k.2 i hi]⟩
theorem bits_and2 {x y : Int} {P Q : Nat → Prop} (h : Bits x P) (k : Bits y Q) : Bits (iand x y) (fun i => P i ∧ Q i) :=
  ⟨iand_rg _ _, fun i hi => by rw [tb_and, Bool.and_eq_true, h.2 i hi, k.2 i hi]⟩
theorem bits_andn {x y : Int} {P : Nat → Prop} (h : Bits x P) : Bits (iand x (ixor y (-1))) (fun i => P i ∧ tb y i = false) :=
  ⟨iand_rg _ _, fun i hi => by rw [tb_and, Bool.and_eq_true, h.2 i hi, tb_not _ hi]; simp⟩
theorem c_spreadAround {K : Int → Int} {j : Int} {Q : Int → Nat → Prop} {m : Mem} (w2 : 2 ≤ K 1) (w5 : K 1 ≤ 5) (v2 : 2 ≤ K 2) (v5 : K 2 ≤ 5) (s9 : m 18 9 = K 1 * K 2) (s10 : m 18 10 = K 1)
    (hL : Bits (m 18 11) (fun j => (j : Int) < K 1 * K 2 ∧ (j : Int) % K 1 = K 1 - 1)) (j0 : 0 ≤ j) (j1 : j < K 1 * K 2) (hQ : ∀ i, 0 ≤ i → i < K 1 * K 2 → Bits (m 84 i) (Q i)) :
    ∃ y, fX0_spreadAround j m = some y ∧ Bits y (fun k => ∃ i, (0 ≤ i ∧ i < K 1 * K 2) ∧ adjP (K 1) (K 1 * K 2) i j ∧ Q i k) := by
  have ar := area_le w2 w5 v2 v5
  have hL' := tb_iff hL (fun i q => by omega)
  have lc : ∀ k : Int, 0 ≤ k → k < K 1 * K 2 → (tb (m 18 11) k.toNat = true ↔ k % K 1 = K 1 - 1) := fun k k0 k1 => by
    rw [hL', Int.toNat_of_nonneg k0]; exact ⟨fun q => q.2, fun q => ⟨k1, q⟩⟩
  unfold fX0_spreadAround
  simp only [rd_eq, jn_eq, s9, s10]
  rw [bit_ui _ j0 (by omega), w32_id (x := j + 1) (by omega) (by omega), w32_id (x := j + K 1) (by omega) (by omega), w32_id (x := j - 1) (by omega) (by omega), w32_id (x := j - K 1) (by omega) (by omega)]
  -- the four neighbours
  have B0 : ∀ R : Prop, ¬ R → ∀ i, Bits 0 (fun k => R ∧ Q i k) := fun R hR i => bits_zero (fun k _ q => hR q.1)
  have B1 : ∀ R : Prop, R → ∀ i, 0 ≤ i → i < K 1 * K 2 → Bits (m 84 i) (fun k => R ∧ Q i k) := fun R hR i z0 z1 => bits_imp (hQ i z0 z1) (fun k _ => ⟨fun q => ⟨hR, q⟩, fun q => q.2⟩)
  have fin : ∀ n e s w : Int, Bits n (fun k => K 1 ≤ j ∧ Q (j - K 1) k) → Bits e (fun k => j % K 1 ≠ K 1 - 1 ∧ Q (j + 1) k) → Bits s (fun k => j + K 1 < K 1 * K 2 ∧ Q (j + K 1) k) → Bits w (fun k => (0 < j ∧ (j - 1) % K 1 ≠ K 1 - 1) ∧ Q (j - 1) k) →
      ∃ y, some (ior (ior (ior n e) s) w) = some y ∧ Bits y (fun k => ∃ i, (0 ≤ i ∧ i < K 1 * K 2) ∧ adjP (K 1) (K 1 * K 2) i j ∧ Q i k) := by
    intro n e s w hn he hs hw
    refine ⟨_, rfl, bits_imp (bits_or2 (bits_or2 (bits_or2 hn he) hs) hw) (fun k _ => ?_)⟩
    constructor
    · rintro (((⟨a, b⟩ | ⟨a, b⟩) | ⟨a, b⟩) | ⟨a, b⟩)
      · exact ⟨_, ⟨by omega, by omega⟩, .inl ⟨rfl, by omega⟩, b⟩
      · have := last_col w2 w5 v2 v5 j0 j1 a
        exact ⟨_, ⟨by omega, by omega⟩, .inr (.inl ⟨rfl, a⟩), b⟩
      · exact ⟨_, ⟨by omega, by omega⟩, .inr (.inr (.inl ⟨rfl, by omega⟩)), b⟩
      · exact ⟨_, ⟨by omega, by omega⟩, .inr (.inr (.inr ⟨rfl, a⟩)), b⟩
    · rintro ⟨i, ⟨i0, i1⟩, h, b⟩
      rcases h with h | h | h | h
      · exact .inl (.inl (.inl ⟨by omega, h.1 ▸ b⟩))
      · exact .inl (.inl (.inr ⟨h.2, h.1 ▸ b⟩))
      · exact .inl (.inr ⟨by omega, h.1 ▸ b⟩)
      · exact .inr ⟨h.2, h.1 ▸ b⟩
  -- the west
  have west : ∀ n e s : Int, Bits n (fun k => K 1 ≤ j ∧ Q (j - K 1) k) → Bits e (fun k => j % K 1 ≠ K 1 - 1 ∧ Q (j + 1) k) → Bits s (fun k => j + K 1 < K 1 * K 2 ∧ Q (j + K 1) k) →
      ∃ y, (if j ≤ 0 then some (ior (ior (ior n e) s) 0) else if ¬ iand (iushr (m 18 11) (j - 1)) 1 = 0 then some (ior (ior (ior n e) s) 0) else chk ((0 : Int) ≤ j - 1 ∧ j - 1 < ((25 : Nat) : Int)) (some (ior (ior (ior n e) s) (m 84 (j - 1))))) = some y ∧ Bits y (fun k => ∃ i, (0 ≤ i ∧ i < K 1 * K 2) ∧ adjP (K 1) (K 1 * K 2) i j ∧ Q i k) := by
    intro n e s hn he hs
    by_cases q : j ≤ 0
    · rw [if_pos q]; exact fin n e s 0 hn he hs (B0 _ (by omega) _)
    · rw [if_neg q, bit_ui _ (show 0 ≤ j - 1 by omega) (by omega)]
      have := lc (j - 1) (by omega) (by omega)
      by_cases r : (j - 1) % K 1 = K 1 - 1
      · rw [this.mpr r, if_pos (by simp)]; exact fin n e s 0 hn he hs (B0 _ (fun z => z.2 r) _)
      · have hf : tb (m 18 11) (j - 1).toNat = false := by
          cases z : tb (m 18 11) (j - 1).toNat with
          | false => rfl
          | true => exact absurd (this.mp z) r
        rw [hf, if_neg (by simp), chk_of (by omega)]
        exact fin n e s _ hn he hs (B1 _ ⟨by omega, r⟩ _ (by omega) (by omega))
  have south : ∀ n e : Int, Bits n (fun k => K 1 ≤ j ∧ Q (j - K 1) k) → Bits e (fun k => j % K 1 ≠ K 1 - 1 ∧ Q (j + 1) k) →
      ∃ y, (if K 1 * K 2 ≤ j + K 1 then (if j ≤ 0 then some (ior (ior (ior n e) 0) 0) else if ¬ iand (iushr (m 18 11) (j - 1)) 1 = 0 then some (ior (ior (ior n e) 0) 0) else chk ((0 : Int) ≤ j - 1 ∧ j - 1 < ((25 : Nat) : Int)) (some (ior (ior (ior n e) 0) (m 84 (j - 1))))) else chk ((0 : Int) ≤ j + K 1 ∧ j + K 1 < ((25 : Nat) : Int)) (if j ≤ 0 then some (ior (ior (ior n e) (m 84 (j + K 1))) 0) else if ¬ iand (iushr (m 18 11) (j - 1)) 1 = 0 then some (ior (ior (ior n e) (m 84 (j + K 1))) 0) else chk ((0 : Int) ≤ j - 1 ∧ j - 1 < ((25 : Nat) : Int)) (some (ior (ior (ior n e) (m 84 (j + K 1))) (m 84 (j - 1)))))) = some y ∧ Bits y (fun k => ∃ i, (0 ≤ i ∧ i < K 1 * K 2) ∧ adjP (K 1) (K 1 * K 2) i j ∧ Q i k) := by
    intro n e hn he
    by_cases q : K 1 * K 2 ≤ j + K 1
    · rw [if_pos q]; exact west n e 0 hn he (B0 _ (by omega) _)
    · rw [if_neg q, chk_of (by omega)]
      exact west n e _ hn he (B1 _ (by omega) _ (by omega) (by omega))
  have east : ∀ n : Int, Bits n (fun k => K 1 ≤ j ∧ Q (j - K 1) k) → ∀ b : Bool, tb (m 18 11) j.toNat = b → (b = true ∨ (b = false ∧ j % K 1 ≠ K 1 - 1)) → True := fun _ _ _ _ _ => trivial
  by_cases qn : j < K 1
  · rw [if_pos qn]
    cases hb : tb (m 18 11) j.toNat
    · have hr : j % K 1 ≠ K 1 - 1 := fun z => by rw [(lc j j0 j1).mpr z] at hb; cases hb
      have := last_col w2 w5 v2 v5 j0 j1 hr
      rw [if_neg (by simp), chk_of (by omega)]
      exact south 0 _ (B0 _ (by omega) _) (B1 _ hr _ (by omega) (by omega))
    · rw [if_pos (by simp)]
      exact south 0 0 (B0 _ (by omega) _) (B0 _ (fun z => z ((lc j j0 j1).mp hb)) _)
  · rw [if_neg qn, chk_of (by omega)]
    cases hb : tb (m 18 11) j.toNat
    · have hr : j % K 1 ≠ K 1 - 1 := fun z => by rw [(lc j j0 j1).mpr z] at hb; cases hb
      have := last_col w2 w5 v2 v5 j0 j1 hr
      rw [if_neg (by simp), chk_of (by omega)]
      exact south _ _ (B1 _ (by omega) _ (by omega) (by omega)) (B1 _ hr _ (by omega) (by omega))
    · rw [if_pos (by simp)]
      exact south _ 0 (B1 _ (by omega) _ (by omega) (by omega)) (B0 _ (fun z => z ((lc j j0 j1).mp hb)) _)

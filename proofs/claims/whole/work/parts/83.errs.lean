/-! ===== D63: sets of errands ===== -/
def eAF (A : Int → Int) (x : Int) : Nat → Int
  | 0 => 0
  | i + 1 => ior (eAF A x i) (if A (i : Int) = x then ishl 1 (i : Int) else 0)
theorem tb_eAF {A : Int → Int} {x : Int} : ∀ n : Nat, n ≤ 32 → ∀ b : Nat, b < 32 → tb (eAF A x n) b = (decide (b < n) && decide (A (b : Int) = x))
  | 0, _, b, _ => by
    show tb 0 b = _
    rw [tb_zero]; simp
  | i + 1, hi, b, hb => by
    show tb (ior (eAF A x i) (if A (i : Int) = x then ishl 1 (i : Int) else 0)) b = _
    rw [tb_or, tb_eAF i (by omega) b hb]
    by_cases e : A (i : Int) = x
    · rw [if_pos e, tb_pow (by omega) hb]
      by_cases h : b = i
      · subst h; simp [e]
      · have : (decide (b < i + 1)) = decide (b < i) := by
          by_cases z : b < i
          · simp [z]; omega
          · simp [z]; omega
        simp [h, this]
    · rw [if_neg e, tb_zero]
      by_cases h : b = i
      · subst h; simp [e]
      · have : (decide (b < i + 1)) = decide (b < i) := by
          by_cases z : b < i
          · simp [z]; omega
          · simp [z]; omega
        simp [this]
theorem eAF_rg {A : Int → Int} {x : Int} : ∀ n : Nat, -2147483648 ≤ eAF A x n ∧ eAF A x n < 2147483648
  | 0 => by show (-2147483648 : Int) ≤ 0 ∧ (0 : Int) < 2147483648; omega
  | _ + 1 => ior_rg _ _
def dnF (A : Int → Int) (n : Nat) (s j k : Int) : Int := ior (ior s (eAF A j n)) (eAF A (100 + k) n)
theorem tb_dnF {A : Int → Int} {n : Nat} {s j k : Int} (hn : n ≤ 32) {b : Nat} (hb : b < 32) : tb (dnF A n s j k) b = (tb s b || (decide (b < n) && (decide (A (b : Int) = j) || decide (A (b : Int) = 100 + k)))) := by
  unfold dnF
  rw [tb_or, tb_or, tb_eAF n hn b hb, tb_eAF n hn b hb]
  cases tb s b <;> by_cases h : b < n <;> simp [h]
def SetN (n : Nat) (s : Int) : Prop := (-2147483648 ≤ s ∧ s < 2147483648) ∧ ∀ b, b < 32 → tb s b = true → b < n
theorem setN_dn {A : Int → Int} {n : Nat} {s j k : Int} (hn : n ≤ 32) (h : SetN n s) : SetN n (dnF A n s j k) := by
  refine ⟨ior_rg _ _, fun b hb q => ?_⟩
  rw [tb_dnF hn hb, Bool.or_eq_true, Bool.and_eq_true] at q
  rcases q with q | q
  · exact h.2 b hb q
  · exact of_decide_eq_true q.1
def mk4 (a b c d : Bool) : Int := (if a then 1 else 0) + (if b then 2 else 0) + (if c then 4 else 0) + (if d then 8 else 0)
theorem mk4_rg : ∀ a b c d : Bool, 0 ≤ mk4 a b c d ∧ mk4 a b c d < 16 := by decide
theorem mk4_tb : ∀ a b c d : Bool, ∀ i, i < 32 → tb (mk4 a b c d) i = (if i = 0 then a else if i = 1 then b else if i = 2 then c else if i = 3 then d else false) := by decide +kernel
theorem set_lt : ∀ n, n < 5 → ∀ s, s < 16 → (∀ b, b < 4 → tb ((s : Nat) : Int) b = true → b < n) → ((s : Nat) : Int) < ishl 1 ((n : Nat) : Int) ∧ ishl 1 ((n : Nat) : Int) ≤ 16 := by decide +kernel
theorem setN_rg {n : Nat} {s : Int} (hn : n ≤ 4) (h : SetN n s) : (0 ≤ s ∧ s < ishl 1 (n : Int)) ∧ ishl 1 (n : Int) ≤ 16 := by
  have r := mk4_rg (tb s 0) (tb s 1) (tb s 2) (tb s 3)
  have e : s = mk4 (tb s 0) (tb s 1) (tb s 2) (tb s 3) := by
    refine tb_ext h.1 (by omega) (fun i hi => ?_)
    rw [mk4_tb _ _ _ _ i hi]
    by_cases h0 : i = 0
    · rw [if_pos h0, h0]
    by_cases h1 : i = 1
    · rw [if_neg h0, if_pos h1, h1]
    by_cases h2 : i = 2
    · rw [if_neg h0, if_neg h1, if_pos h2, h2]
    by_cases h3 : i = 3
    · rw [if_neg h0, if_neg h1, if_neg h2, if_pos h3, h3]
    rw [if_neg h0, if_neg h1, if_neg h2, if_neg h3]
    cases z : tb s i
    · rfl
    · have := h.2 i hi z; omega
  rw [← e] at r
  have l := set_lt n (by omega) s.toNat (by omega) (fun b hb q => by rw [Int.toNat_of_nonneg r.1] at q; exact h.2 b (by omega) q)
  rw [Int.toNat_of_nonneg r.1] at l
  exact ⟨⟨r.1, l.1⟩, l.2⟩
theorem setN_dec : ∀ n, n < 5 → ∀ s, s < 16 → ((s : Nat) : Int) < ishl 1 ((n : Nat) : Int) → ∀ b, b < 32 → tb ((s : Nat) : Int) b = true → b < n := by decide +kernel
theorem pw_16 : ∀ n, n < 5 → 1 ≤ ishl 1 ((n : Nat) : Int) ∧ ishl 1 ((n : Nat) : Int) ≤ 16 := by decide +kernel
theorem setN_of {n : Nat} {s : Int} (hn : n ≤ 4) (h0 : 0 ≤ s) (h1 : s < ishl 1 (n : Int)) : SetN n s := by
  have p := pw_16 n (by omega)
  have := setN_dec n (by omega) s.toNat (by omega) (by rw [Int.toNat_of_nonneg h0]; exact h1)
  rw [Int.toNat_of_nonneg h0] at this
  exact ⟨by omega, this⟩
theorem drop_dec : ∀ n, n < 5 → ∀ k, k < n → ∀ s, s < 16 → ((s : Nat) : Int) < ishl 1 ((n : Nat) : Int) → (ior ((s : Nat) : Int) (ishl 1 ((k : Nat) : Int)) = w32 (ishl 1 ((n : Nat) : Int) - 1) ↔ ((s : Nat) : Int) = w32 (ishl 1 ((n : Nat) : Int) - 1) ∨ ((s : Nat) : Int) = iand (w32 (ishl 1 ((n : Nat) : Int) - 1)) (ixor (ishl 1 ((k : Nat) : Int)) (-1))) := by decide +kernel
theorem all_rg : ∀ n, n < 5 → (0 ≤ w32 (ishl 1 ((n : Nat) : Int) - 1) ∧ w32 (ishl 1 ((n : Nat) : Int) - 1) < ishl 1 ((n : Nat) : Int)) := by decide +kernel
theorem but_rg : ∀ n, n < 5 → ∀ k, k < n → (0 ≤ iand (w32 (ishl 1 ((n : Nat) : Int) - 1)) (ixor (ishl 1 ((k : Nat) : Int)) (-1)) ∧ iand (w32 (ishl 1 ((n : Nat) : Int) - 1)) (ixor (ishl 1 ((k : Nat) : Int)) (-1)) < ishl 1 ((n : Nat) : Int)) := by decide +kernel
theorem one_set : ∀ n, n < 5 → ∀ k, k < n → (0 ≤ ishl 1 ((k : Nat) : Int) ∧ ishl 1 ((k : Nat) : Int) < ishl 1 ((n : Nat) : Int)) := by decide +kernel
/-- where both can be with just these errands done -/
def errP (K : Int → Int) (p rope : Int) (tied : Bool) (rocks : Int) (A : Int → Int) (n : Nat) (s0 : Int) : Nat → Int → Int → Nat → Prop
  | 0 => fun s j k => (j = K (13 + p) ∧ (k : Int) = K (17 + p)) ∧ s = dnF A n s0 j k
  | h + 1 => fun s j k => ∃ s', nxtP K p rope tied rocks ((h : Int) + 1) (errP K p rope tied rocks A n s0 h s') j k ∧ s = dnF A n s' j k
theorem errP_rg {K : Int → Int} {c p rope rocks s0 : Int} {tied : Bool} {A : Int → Int} {n : Nat} (hV : CV c K) (p0 : 0 ≤ p) (p1 : p < K 3) (hn : n ≤ 32) (hs : SetN n s0) : ∀ (h : Nat) (s j : Int) (k : Nat), errP K p rope tied rocks A n s0 h s j k → ((0 ≤ j ∧ j < K 1 * K 2) ∧ (k : Int) < K 1 * K 2) ∧ SetN n s
  | 0, s, j, k, q => by
    have hS := (curV_iff.mp hV.2).1 p p0 p1
    obtain ⟨⟨h1, h2⟩, h3⟩ : (j = K (13 + p) ∧ (k : Int) = K (17 + p)) ∧ s = dnF A n s0 j k := q
    refine ⟨by omega, ?_⟩
    rw [h3]; exact setN_dn hn hs
  | h + 1, s, j, k, q => by
    obtain ⟨s', ⟨r1, r2, r3, j0, rj, mv, k0, q0, mv2⟩, e⟩ : ∃ s', nxtP K p rope tied rocks ((h : Int) + 1) (errP K p rope tied rocks A n s0 h s') j k ∧ s = dnF A n s' j k := q
    refine ⟨⟨r1, r2⟩, ?_⟩
    rw [e]; exact setN_dn hn (errP_rg hV p0 p1 hn hs h s' j0 k0 q0).2
theorem errP_down {K : Int → Int} {p rope rocks s0 : Int} {tied : Bool} {A : Int → Int} {n h : Nat} : ∀ d : Nat, (∃ s j k, errP K p rope tied rocks A n s0 (h + d) s j k) → ∃ s j k, errP K p rope tied rocks A n s0 h s j k
  | 0, q => q
  | d + 1, q => by
    obtain ⟨s, j, k, s', ⟨r1, r2, r3, j0, rj, mv, k0, q0, mv2⟩, e⟩ := q
    exact errP_down d ⟨s', j0, k0, q0⟩
theorem dn_ior {A : Int → Int} {n : Nat} {t s0 j k : Int} (hn : n ≤ 32) : dnF A n (ior t s0) j k = ior (dnF A n t j k) s0 := by
  refine tb_ext (ior_rg _ _) (ior_rg _ _) (fun b hb => ?_)
  rw [tb_dnF hn hb, tb_or, tb_or, tb_dnF hn hb]
  cases tb t b <;> cases tb s0 b <;> simp
theorem ior_0l {x : Int} (hx : -2147483648 ≤ x ∧ x < 2147483648) : ior 0 x = x := tb_ext (ior_rg _ _) hx (fun b _ => by rw [tb_or, tb_zero]; simp)
theorem errP_drop {K : Int → Int} {p rope rocks s0 : Int} {tied : Bool} {A : Int → Int} {n : Nat} (hn : n ≤ 32) (hs : -2147483648 ≤ s0 ∧ s0 < 2147483648) : ∀ (h : Nat) (s j : Int) (k : Nat), errP K p rope tied rocks A n s0 h s j k ↔ ∃ s', errP K p rope tied rocks A n 0 h s' j k ∧ s = ior s' s0
  | 0, s, j, k => by
    show ((j = K (13 + p) ∧ (k : Int) = K (17 + p)) ∧ s = dnF A n s0 j k) ↔ ∃ s', ((j = K (13 + p) ∧ (k : Int) = K (17 + p)) ∧ s' = dnF A n 0 j k) ∧ s = ior s' s0
    have e : dnF A n s0 j k = ior (dnF A n 0 j k) s0 := by
      have := dn_ior (A := A) (n := n) (t := 0) (s0 := s0) (j := j) (k := k) hn
      rwa [ior_0l hs] at this
    constructor
    · rintro ⟨a, b⟩
      exact ⟨dnF A n 0 j k, ⟨a, rfl⟩, by rw [b, e]⟩
    · rintro ⟨s', ⟨a, b⟩, d⟩
      exact ⟨a, by rw [d, b, e]⟩
  | h + 1, s, j, k => by
    constructor
    · rintro ⟨s', ⟨r1, r2, r3, j0, rj, mv, k0, q0, mv2⟩, e⟩
      obtain ⟨t, ht, et⟩ := (errP_drop hn hs h s' j0 k0).mp q0
      exact ⟨dnF A n t j k, ⟨t, ⟨r1, r2, r3, j0, rj, mv, k0, ht, mv2⟩, rfl⟩, by rw [e, et, dn_ior hn]⟩
    · rintro ⟨s', ⟨t, ⟨r1, r2, r3, j0, rj, mv, k0, ht, mv2⟩, e⟩, es⟩
      exact ⟨ior t s0, ⟨r1, r2, r3, j0, rj, mv, k0, (errP_drop hn hs h _ j0 k0).mpr ⟨t, ht, rfl⟩, mv2⟩, by rw [es, e, dn_ior hn]⟩

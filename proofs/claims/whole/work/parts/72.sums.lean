/-! ===== D52: bounds of the count ===== -/
def sumF (g : Int → Int) : Nat → Int
  | 0 => 0
  | n + 1 => sumF g n + g (n : Int)
theorem sum_cong {g g' : Int → Int} : ∀ n : Nat, (∀ q, 0 ≤ q → q < (n : Int) → g q = g' q) → sumF g n = sumF g' n
  | 0, _ => rfl
  | n + 1, h => by
    show sumF g n + g (n : Int) = sumF g' n + g' (n : Int)
    rw [sum_cong n (fun q z0 z1 => h q z0 (by omega)), h n (by omega) (by omega)]
theorem sum_ku {g : Int → Int} {x v : Int} (x0 : 0 ≤ x) : ∀ n : Nat, sumF (ku g x v) n = if x < n then sumF g n + (v - g x) else sumF g n
  | 0 => by rw [if_neg (by omega)]; rfl
  | n + 1 => by
    show sumF (ku g x v) n + ku g x v (n : Int) = if x < ((n + 1 : Nat) : Int) then sumF g n + g (n : Int) + (v - g x) else sumF g n + g (n : Int)
    rw [sum_ku x0 n]
    by_cases e : x = n
    · rw [if_neg (by omega), if_pos (by omega), e, ku_at]; omega
    · rw [ku_ne (by omega)]
      by_cases l : x < n
      · rw [if_pos l, if_pos (by omega)]; omega
      · rw [if_neg l, if_neg (by omega)]
theorem sum_nn {g : Int → Int} : ∀ n : Nat, (∀ q, 0 ≤ q → q < (n : Int) → 0 ≤ g q) → 0 ≤ sumF g n
  | 0, _ => Int.le_refl 0
  | n + 1, h => by
    show 0 ≤ sumF g n + g (n : Int)
    have := sum_nn n (fun q z0 z1 => h q z0 (by omega))
    have := h n (by omega) (by omega)
    omega
theorem sum_ge {g : Int → Int} : ∀ n : Nat, (∀ q, 0 ≤ q → q < (n : Int) → 0 ≤ g q) → ∀ q, 0 ≤ q → q < (n : Int) → g q ≤ sumF g n
  | 0, _, q, z0, z1 => by omega
  | n + 1, h, q, z0, z1 => by
    show g q ≤ sumF g n + g (n : Int)
    have hs := sum_nn n (fun q z0 z1 => h q z0 (by omega))
    have hn := h n (by omega) (by omega)
    by_cases e : q = n
    · rw [e]; omega
    · have := sum_ge n (fun q z0 z1 => h q z0 (by omega)) q z0 (by omega)
      omega
/-- a table of ways: none below zero, none where nobody stands, so many in all -/
def TabV (a B : Int) (g : Int → Int) : Prop := (∀ q, 0 ≤ q → q < 625 → 0 ≤ g q) ∧ (∀ q, 0 ≤ q → q < 625 → g q ≠ 0 → q / 25 < a ∧ q % 25 < a) ∧ sumF g 625 ≤ B
theorem rowT_tab {K : Int → Int} {p rope rocks h w v b B : Int} {tied : Bool} {nx : Int → Int} (w2 : 2 ≤ K 1) (w5 : K 1 ≤ 5) (v2 : 2 ≤ K 2) (v5 : K 2 ≤ 5) (v0 : 0 ≤ v) (hT : TabV (K 1 * K 2) B nx) (hB : B + 25 * v < 9223372036854775808) :
    ∀ i : Nat, i ≤ 25 → TabV (K 1 * K 2) (B + i * v) (rowT K p rope tied rocks h w v b nx i) := by
  have ar := area_le w2 w5 v2 v5
  intro i
  induction i with
  | zero => intro _; rw [show B + ((0 : Nat) : Int) * v = B by simp]; exact hT
  | succ i ih =>
    intro hi
    obtain ⟨t1, t2, t3⟩ := ih (by omega)
    have hiv : ((i + 1 : Nat) : Int) * v = (i : Int) * v + v := by rw [show ((i + 1 : Nat) : Int) = (i : Int) + 1 by omega, Int.add_mul, Int.one_mul]
    have hle : (i : Int) * v + v ≤ 25 * v := by rw [← hiv]; exact Int.mul_le_mul_of_nonneg_right (by omega) v0
    have g1 := oneF_rg (K := K) (p := p) (rocks := rocks) (n := h) (who := 0) (j := b / 25) (t := (i : Int) / 5) w2 w5 v2 v5
    have g2 := oneF_rg (K := K) (p := p) (rocks := rocks) (n := h) (who := 1) (j := b % 25) (t := (i : Int) % 5) w2 w5 v2 v5
    have rg : bothF K p rope tied rocks h b (i : Int) = -1 ∨ ((0 ≤ bothF K p rope tied rocks h b (i : Int) ∧ bothF K p rope tied rocks h b (i : Int) < 625) ∧ bothF K p rope tied rocks h b (i : Int) / 25 < K 1 * K 2 ∧ bothF K p rope tied rocks h b (i : Int) % 25 < K 1 * K 2) := by
      unfold bothF
      repeat' split
      all_goals omega
    rw [hiv]
    show TabV (K 1 * K 2) _ (stT K p rope tied rocks h w v b (i : Int) (rowT K p rope tied rocks h w v b nx i))
    unfold stT
    generalize rowT K p rope tied rocks h w v b nx i = r at *
    generalize bothF K p rope tied rocks h b (i : Int) = x at *
    by_cases z : x ≠ -1 ∧ (w = -1 ∨ x / 25 = w)
    · rw [if_pos z]
      have hx : (0 ≤ x ∧ x < 625) ∧ x / 25 < K 1 * K 2 ∧ x % 25 < K 1 * K 2 := by
        rcases rg with q | q
        · exact absurd q z.1
        · exact q
      have rx := t1 x hx.1.1 hx.1.2
      have sx := sum_ge 625 t1 x hx.1.1 hx.1.2
      have ew : w64 (r x + v) = r x + v := w64_id (by omega) (by omega)
      rw [ew]
      refine ⟨fun q q0 q1 => ?_, fun q q0 q1 hq => ?_, ?_⟩
      · by_cases e : q = x
        · rw [e, ku_at]; omega
        · rw [ku_ne e]; exact t1 q q0 q1
      · by_cases e : q = x
        · rw [e]; exact hx.2
        · rw [ku_ne e] at hq; exact t2 q q0 q1 hq
      · rw [sum_ku hx.1.1 625, if_pos (by omega)]; omega
    · rw [if_neg z]
      exact ⟨t1, t2, by omega⟩
theorem allT_tab {K : Int → Int} {p rope rocks h w B : Int} {tied : Bool} {f : Int → Int} (w2 : 2 ≤ K 1) (w5 : K 1 ≤ 5) (v2 : 2 ≤ K 2) (v5 : K 2 ≤ 5) (hT : TabV (K 1 * K 2) B f) (hB : 25 * B < 9223372036854775808) :
    ∀ b : Nat, b ≤ 625 → TabV (K 1 * K 2) (25 * sumF f b) (allT K p rope tied rocks h w f b) := by
  obtain ⟨t1, t2, t3⟩ := hT
  intro b
  induction b with
  | zero =>
    intro _
    have z : ∀ n : Nat, sumF (fun _ => (0 : Int)) n = 0 := by
      intro n
      induction n with
      | zero => rfl
      | succ n ih => show sumF (fun _ => (0 : Int)) n + 0 = 0; omega
    exact ⟨fun _ _ _ => Int.le_refl 0, fun _ _ _ q => absurd rfl q, by show sumF (fun _ => (0 : Int)) 625 ≤ 25 * 0; rw [z]; decide⟩
  | succ b ih =>
    intro hb
    have i := ih (by omega)
    have fb := t1 b (by omega) (by omega)
    have mono : ∀ d : Nat, b + 1 + d ≤ 625 → sumF f (b + 1) ≤ sumF f (b + 1 + d) := by
      intro d
      induction d with
      | zero => intro _; exact Int.le_refl _
      | succ d ihd =>
        intro hd
        have := ihd (by omega)
        have := t1 ((b + 1 + d : Nat) : Int) (by omega) (by omega)
        show sumF f (b + 1) ≤ sumF f (b + 1 + d) + f ((b + 1 + d : Nat) : Int)
        omega
    have m := mono (625 - (b + 1)) (by omega)
    rw [show b + 1 + (625 - (b + 1)) = 625 by omega] at m
    have es : sumF f (b + 1) = sumF f b + f (b : Int) := rfl
    rw [es] at m ⊢
    show TabV (K 1 * K 2) _ (if f (b : Int) ≤ 0 then allT K p rope tied rocks h w f b else rowT K p rope tied rocks h w (f (b : Int)) (b : Int) (allT K p rope tied rocks h w f b) 25)
    by_cases z : f (b : Int) ≤ 0
    · rw [if_pos z]
      exact ⟨i.1, i.2.1, Int.le_trans i.2.2 (by omega)⟩
    · rw [if_neg z]
      have r := rowT_tab (K := K) (p := p) (rope := rope) (tied := tied) (rocks := rocks) (h := h) (w := w) (b := (b : Int)) w2 w5 v2 v5 fb i (by omega) 25 (Nat.le_refl _)
      exact ⟨r.1, r.2.1, Int.le_trans r.2.2 (by omega)⟩

/-! ===== D57: the same ways in another order ===== -/
def rowS (g : Int → Int) (j : Int) : Nat → Int
  | 0 => 0
  | k + 1 => rowS g j k + g (25 * j + (k : Int))
theorem tot_row {g : Int → Int} {n : Nat} : ∀ k : Nat, totS g (n + 1) k = totS g n k + rowS g n k
  | 0 => rfl
  | k + 1 => by
    show totS g (n + 1) k + (endS g (k : Int) n + g (25 * (n : Int) + (k : Int))) = totS g n k + endS g (k : Int) n + (rowS g n k + g (25 * (n : Int) + (k : Int)))
    rw [tot_row k]; omega
theorem sum_row {g : Int → Int} {n : Nat} : ∀ k : Nat, sumF g (25 * n + k) = sumF g (25 * n) + rowS g n k
  | 0 => by show sumF g (25 * n) = _ + 0; omega
  | k + 1 => by
    show sumF g (25 * n + k) + g ((25 * n + k : Nat) : Int) = sumF g (25 * n) + (rowS g n k + g (25 * (n : Int) + (k : Int)))
    rw [sum_row k, show ((25 * n + k : Nat) : Int) = 25 * (n : Int) + (k : Int) by omega]; omega
theorem tot_sum {g : Int → Int} : ∀ n : Nat, totS g n 25 = sumF g (25 * n)
  | 0 => by
    have z : ∀ k : Nat, totS g 0 k = 0 := by
      intro k
      induction k with
      | zero => rfl
      | succ k ih => show totS g 0 k + 0 = 0; omega
    rw [z]; rfl
  | n + 1 => by rw [tot_row, tot_sum n, show 25 * (n + 1) = 25 * n + 25 by omega, sum_row]
theorem end_zero {a B : Int} {g : Int → Int} {k : Int} {n : Nat} (hT : TabV a B g) (hk : k < 25) (k0 : 0 ≤ k) (hn : a ≤ n) : ∀ d : Nat, n + d ≤ 25 → endS g k (n + d) = endS g k n
  | 0, _ => rfl
  | d + 1, h => by
    show endS g k (n + d) + g (25 * ((n + d : Nat) : Int) + k) = endS g k n
    rw [end_zero hT hk k0 hn d (by omega)]
    by_cases z : g (25 * ((n + d : Nat) : Int) + k) = 0
    · omega
    · have := (hT.2.1 _ (by omega) (by omega) z).1
      omega
theorem end_none {a B : Int} {g : Int → Int} {k : Int} (hT : TabV a B g) (hk : k < 25) (k0 : 0 ≤ k) (ha : a ≤ k) : ∀ n : Nat, n ≤ 25 → endS g k n = 0
  | 0, _ => rfl
  | n + 1, h => by
    show endS g k n + g (25 * (n : Int) + k) = 0
    rw [end_none hT hk k0 ha n (by omega)]
    by_cases z : g (25 * (n : Int) + k) = 0
    · omega
    · have := (hT.2.1 _ (by omega) (by omega) z).2
      omega
theorem tot_all {a B : Int} {g : Int → Int} {n : Nat} (hT : TabV a B g) (hn : a = n) (n25 : n ≤ 25) : totS g n n = sumF g 625 := by
  have e1 : ∀ k : Nat, k ≤ 25 → totS g n k = totS g 25 k := by
    intro k
    induction k with
    | zero => intro _; rfl
    | succ k ih =>
      intro hk
      show totS g n k + endS g (k : Int) n = totS g 25 k + endS g (k : Int) 25
      have z := end_zero (k := (k : Int)) (n := n) hT (by omega) (by omega) (by omega) (25 - n) (by omega)
      rw [show n + (25 - n) = 25 by omega] at z
      rw [ih (by omega), z]
  have e2 : ∀ d : Nat, n + d ≤ 25 → totS g n (n + d) = totS g n n := by
    intro d
    induction d with
    | zero => intro _; rfl
    | succ d ih =>
      intro hd
      show totS g n (n + d) + endS g ((n + d : Nat) : Int) n = totS g n n
      rw [ih (by omega), end_none hT (by omega) (by omega) (by omega) n n25]; omega
  have h := e2 (25 - n) (by omega)
  rw [show n + (25 - n) = 25 by omega] at h
  rw [← h, e1 25 (Nat.le_refl _), tot_sum]

/-! ===== D55: how many ways end with the second at a place ===== -/
def endS (g : Int → Int) (k : Int) : Nat → Int
  | 0 => 0
  | n + 1 => endS g k n + g (25 * (n : Int) + k)
theorem endS_rg {a B : Int} {g : Int → Int} {k : Int} (hT : TabV a B g) (k0 : 0 ≤ k) (k1 : k < 25) : ∀ n : Nat, n ≤ 25 → 0 ≤ endS g k n ∧ endS g k n ≤ n * B
  | 0, _ => by show (0 : Int) ≤ 0 ∧ (0 : Int) ≤ ((0 : Nat) : Int) * B; simp
  | n + 1, hn => by
    have i := endS_rg hT k0 k1 n (by omega)
    have g0 := hT.1 (25 * (n : Int) + k) (by omega) (by omega)
    have g1 := sum_ge 625 hT.1 (25 * (n : Int) + k) (by omega) (by omega)
    have g2 := hT.2.2
    have e : ((n + 1 : Nat) : Int) * B = (n : Int) * B + B := by rw [show ((n + 1 : Nat) : Int) = (n : Int) + 1 by omega, Int.add_mul, Int.one_mul]
    show 0 ≤ endS g k n + g (25 * (n : Int) + k) ∧ endS g k n + g (25 * (n : Int) + k) ≤ _
    rw [e]; omega
theorem endS_cong {g g' : Int → Int} {k : Int} (k0 : 0 ≤ k) (k1 : k < 25) (e : ∀ q, 0 ≤ q → q < 625 → g q = g' q) : ∀ n : Nat, n ≤ 25 → endS g k n = endS g' k n
  | 0, _ => rfl
  | n + 1, hn => by
    show endS g k n + g (25 * (n : Int) + k) = endS g' k n + g' (25 * (n : Int) + k)
    rw [endS_cong k0 k1 e n (by omega), e _ (by omega) (by omega)]
theorem c_endingAt {K : Int → Int} {k B : Int} {a b : Nat} {g : Int → Int} {m : Mem} (N25 : 0 ≤ K 1 * K 2 ∧ K 1 * K 2 ≤ 25) (ea : m 96 0 = (a : Int)) (hab : (a = 97 ∧ b = 98) ∨ (a = 98 ∧ b = 97)) (e3 : m 96 3 = K 1 * K 2) (ev : ∀ q, 0 ≤ q → q < 625 → m a q = g q) (hT : TabV (K 1 * K 2) B g) (hB : B ≤ 1000000000000) (k0 : 0 ≤ k) (k1 : k < 25) :
    fX7_endingAt k m = some (endS g k (K 1 * K 2).toNat) := by
  have la : layL[a]? = some (.inr (1, 625)) := by
    rcases hab with ⟨rfl, rfl⟩ | ⟨rfl, rfl⟩ <;> decide +kernel
  suffices hs : Ok (fX7_endingAt k m) (fun v => v = endS g k (K 1 * K 2).toNat) by
    obtain ⟨v, e, hv⟩ := hs
    rw [e, hv]
  unfold fX7_endingAt
  simp only [rd_eq, rdn_eq]
  refine lp_for2 (K 1 * K 2) (fun t j mm => mm = m ∧ 0 ≤ j ∧ t = endS g k j.toNat) ⟨rfl, by omega, rfl⟩ (by omega) (by omega) ?_ ?_
  · rintro G t j mm hj ⟨rfl, j0, rfl⟩ ih
    simp only
    have rg := endS_rg hT k0 k1 (j.toNat + 1) (by omega)
    have hm : ((j.toNat + 1 : Nat) : Int) * B ≤ 25000000000000 := by
      have hB0 : 0 ≤ B := Int.le_trans (sum_nn 625 hT.1) hT.2.2
      have : ((j.toNat + 1 : Nat) : Int) * B ≤ 25 * B := Int.mul_le_mul_of_nonneg_right (by omega) hB0
      omega
    have es : endS g k (j.toNat + 1) = endS g k j.toNat + g (25 * j + k) := by
      show endS g k j.toNat + g (25 * ((j.toNat : Nat) : Int) + k) = _
      rw [Int.toNat_of_nonneg j0]
    rw [e3, if_neg (by omega), ea, Int.toNat_natCast, chk_of la, w32_id (x := j * 25) (by omega) (by omega), w32_id (x := j * 25 + k) (by omega) (by omega), chk_of (by omega), show j * 25 + k = 25 * j + k by omega, ev _ (by omega) (by omega), w32_id (x := j + 1) (by omega) (by omega), ← es, w64_id (by omega) (by omega)]
    exact ih _ _ ⟨rfl, by omega, by rw [show (j + 1).toNat = j.toNat + 1 by omega]⟩
  · rintro G t mm ⟨rfl, _, rfl⟩
    simp only
    rw [e3, if_pos (by omega)]
    exact ok_some rfl

/-! ===== D56: how many ways in all ===== -/
/-- all ways, place of the second for place -/
def totS (g : Int → Int) (n : Nat) : Nat → Int
  | 0 => 0
  | k + 1 => totS g n k + endS g (k : Int) n
theorem totS_rg {a B : Int} {g : Int → Int} {n : Nat} (hT : TabV a B g) (n25 : n ≤ 25) (hB : B ≤ 1000000000000) : ∀ k : Nat, k ≤ 25 → 0 ≤ totS g n k ∧ totS g n k ≤ k * 25000000000000
  | 0, _ => by show (0 : Int) ≤ 0 ∧ (0 : Int) ≤ _; omega
  | k + 1, hk => by
    have i := totS_rg hT n25 hB k (by omega)
    have r := endS_rg hT (show 0 ≤ (k : Int) by omega) (by omega) n n25
    have hB0 : 0 ≤ B := Int.le_trans (sum_nn 625 hT.1) hT.2.2
    have : (n : Int) * B ≤ 25 * B := Int.mul_le_mul_of_nonneg_right (by omega) hB0
    show 0 ≤ totS g n k + endS g (k : Int) n ∧ totS g n k + endS g (k : Int) n ≤ _
    omega
theorem c_total {K : Int → Int} {B : Int} {a b : Nat} {g : Int → Int} {m : Mem} (N25 : 0 ≤ K 1 * K 2 ∧ K 1 * K 2 ≤ 25) (ea : m 96 0 = (a : Int)) (hab : (a = 97 ∧ b = 98) ∨ (a = 98 ∧ b = 97)) (e3 : m 96 3 = K 1 * K 2) (ev : ∀ q, 0 ≤ q → q < 625 → m a q = g q) (hT : TabV (K 1 * K 2) B g) (hB : B ≤ 1000000000000) :
    fX7_total m = some (totS g (K 1 * K 2).toNat (K 1 * K 2).toNat) := by
  suffices hs : Ok (fX7_total m) (fun v => v = totS g (K 1 * K 2).toNat (K 1 * K 2).toNat) by
    obtain ⟨v, e, hv⟩ := hs
    rw [e, hv]
  unfold fX7_total
  simp only [rd_eq]
  refine lp_for2 (K 1 * K 2) (fun t k mm => mm = m ∧ 0 ≤ k ∧ t = totS g (K 1 * K 2).toNat k.toNat) ⟨rfl, by omega, rfl⟩ (by omega) (by omega) ?_ ?_
  · rintro G t k mm hk ⟨rfl, k0, rfl⟩ ih
    simp only
    have rg := totS_rg (n := (K 1 * K 2).toNat) hT (by omega) hB (k.toNat + 1) (by omega)
    have es : totS g (K 1 * K 2).toNat (k.toNat + 1) = totS g (K 1 * K 2).toNat k.toNat + endS g k (K 1 * K 2).toNat := by
      show totS g (K 1 * K 2).toNat k.toNat + endS g ((k.toNat : Nat) : Int) (K 1 * K 2).toNat = _
      rw [Int.toNat_of_nonneg k0]
    rw [e3, if_neg (by omega), c_endingAt N25 ea hab e3 ev hT hB k0 (by omega), bR_some, w32_id (by omega) (by omega), ← es, w64_id (by omega) (by omega)]
    exact ih _ _ ⟨rfl, by omega, by rw [show (k + 1).toNat = k.toNat + 1 by omega]⟩
  · rintro G t mm ⟨rfl, _, rfl⟩
    simp only
    rw [e3, if_pos (by omega)]
    exact ok_some rfl

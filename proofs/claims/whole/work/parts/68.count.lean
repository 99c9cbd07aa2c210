/-! ===== D48: count ===== -/
theorem tb_nat (n i : Nat) (hi : i < 32) : tb (n : Int) i = n.testBit i := by
  unfold tb
  rw [BitVec.ofInt_natCast, BitVec.getLsbD_ofNat, decide_eq_true hi, Bool.true_and]
theorem iand_nat {a b : Nat} (ha : a < 2147483648) : iand (a : Int) (b : Int) = ((a &&& b : Nat) : Int) := by
  have h : a &&& b ≤ a := Nat.and_le_left
  refine tb_ext (iand_rg _ _) (by omega) (fun i hi => ?_)
  rw [tb_and, tb_nat _ _ hi, tb_nat _ _ hi, tb_nat _ _ hi, Nat.testBit_and]
theorem iushr_nat {a : Nat} (k : Nat) (ha : a < 2147483648) (hk : k < 32) : iushr (a : Int) (k : Int) = ((a / 2 ^ k : Nat) : Int) := by
  have h : a / 2 ^ k ≤ a := Nat.div_le_self _ _
  refine tb_ext (iushr_rg _ _) (by generalize a / 2 ^ k = x at *; omega) (fun i hi => ?_)
  rw [tb_ushr _ hk, tb_nat _ _ hi, Nat.testBit_div_two_pow]
  by_cases h2 : k + i < 32
  · rw [tb_nat _ _ h2, Nat.add_comm]
  · rw [tb_big (by omega), Nat.add_comm]
    symm
    exact Nat.testBit_lt_two_pow (Nat.lt_of_lt_of_le ha (Nat.le_trans (by decide : 2147483648 ≤ 2 ^ 31) (Nat.pow_le_pow_right (by decide) (by omega))))
theorem w32n {a b : Nat} (h : a + b < 2147483648) : w32 ((a : Int) + (b : Int)) = ((a + b : Nat) : Int) := by rw [w32_id (by omega) (by omega)]; omega
theorem half_le {y : Nat} (k : Nat) (h : y < 1000000000) : y + y / 2 ^ k < 2147483648 := by
  have := Nat.div_le_self y (2 ^ k)
  generalize y / 2 ^ k = z at *
  omega
theorem bc3 {y : Nat} (hy : y < 500000000) : iand (w32 (w32 ((y : Int) + iushr (y : Int) 8) + iushr (w32 ((y : Int) + iushr (y : Int) 8)) 16)) 63 = ((y + y / 2 ^ 8 + (y + y / 2 ^ 8) / 2 ^ 16 &&& 63 : Nat) : Int) := by
  have h1 : y < 2147483648 := by omega
  have h2 := half_le (y := y) 8 (by omega)
  have e1 : iushr (y : Int) 8 = ((y / 2 ^ 8 : Nat) : Int) := iushr_nat 8 h1 (by decide)
  rw [e1, w32n h2]
  have h3 : y + y / 2 ^ 8 < 1000000000 := by
    have := Nat.div_le_self y (2 ^ 8)
    generalize y / 2 ^ 8 = z at *
    omega
  generalize y + y / 2 ^ 8 = x at *
  have e2 : iushr (x : Int) 16 = ((x / 2 ^ 16 : Nat) : Int) := iushr_nat 16 h2 (by decide)
  have h4 := half_le (y := x) 16 h3
  rw [e2, w32n h4]
  exact iand_nat (b := 63) h4
theorem bc2 {z : Nat} (hz : z < 2000000000) (h : z + z / 2 ^ 4 < 2147483648) : iand (w32 ((z : Int) + iushr (z : Int) 4)) 252645135 = ((z + z / 2 ^ 4 &&& 252645135 : Nat) : Int) := by
  have h1 : z < 2147483648 := by omega
  have e1 : iushr (z : Int) 4 = ((z / 2 ^ 4 : Nat) : Int) := iushr_nat 4 h1 (by decide)
  rw [e1, w32n h]
  exact iand_nat (b := 252645135) h
theorem bc1 {n a b : Nat} (hn : n < 2147483648) (ha : a = 1431655765) (hb : b = 858993459) :
    w32 (iand (w32 ((n : Int) - iand (iushr (n : Int) 1) 1431655765)) 858993459 + iand (iushr (w32 ((n : Int) - iand (iushr (n : Int) 1) 1431655765)) 2) 858993459) = ((((n - (n / 2 ^ 1 &&& a)) &&& b) + ((n - (n / 2 ^ 1 &&& a)) / 2 ^ 2 &&& b) : Nat) : Int) := by
  have e1 : iushr (n : Int) 1 = ((n / 2 ^ 1 : Nat) : Int) := iushr_nat 1 hn (by decide)
  have l1 : n / 2 ^ 1 < 2147483648 := Nat.lt_of_le_of_lt (Nat.div_le_self _ _) hn
  have e2 : iand ((n / 2 ^ 1 : Nat) : Int) 1431655765 = ((n / 2 ^ 1 &&& a : Nat) : Int) := by rw [ha]; exact iand_nat (b := 1431655765) l1
  have l2 : (n / 2 ^ 1 &&& a) ≤ n := Nat.le_trans Nat.and_le_left (Nat.div_le_self _ _)
  have e3 : w32 ((n : Int) - ((n / 2 ^ 1 &&& a : Nat) : Int)) = ((n - (n / 2 ^ 1 &&& a) : Nat) : Int) := by
    generalize (n / 2 ^ 1 &&& a) = q at *
    rw [w32_id (by omega) (by omega)]; omega
  rw [e1, e2, e3]
  have l3 : n - (n / 2 ^ 1 &&& a) < 2147483648 := Nat.lt_of_le_of_lt (Nat.sub_le _ _) hn
  generalize n - (n / 2 ^ 1 &&& a) = x at *
  have e4 : iushr (x : Int) 2 = ((x / 2 ^ 2 : Nat) : Int) := iushr_nat 2 l3 (by decide)
  have l4 : x / 2 ^ 2 < 2147483648 := Nat.lt_of_le_of_lt (Nat.div_le_self _ _) l3
  have e5 : iand (x : Int) 858993459 = ((x &&& b : Nat) : Int) := by rw [hb]; exact iand_nat (b := 858993459) l3
  have e6 : iand ((x / 2 ^ 2 : Nat) : Int) 858993459 = ((x / 2 ^ 2 &&& b : Nat) : Int) := by rw [hb]; exact iand_nat (b := 858993459) l4
  rw [e4, e5, e6]
  have m1 : (x &&& b) ≤ b := Nat.and_le_right
  have m2 : (x / 2 ^ 2 &&& b) ≤ b := Nat.and_le_right
  generalize (x &&& b) = u at *
  generalize (x / 2 ^ 2 &&& b) = v at *
  exact w32n (by omega)
theorem qua_le (n : Nat) {b : Nat} (hb : rep 3 8 = b) : qua 8 n ≤ 2 * b := by
  unfold qua
  rw [hb]
  have m1 : (hal 8 n &&& b) ≤ b := Nat.and_le_right
  have m2 : (hal 8 n / 4 &&& b) ≤ b := Nat.and_le_right
  omega
theorem c_bitCount {n : Nat} {m : Mem} (hn : n < 2147483648) : fJ6_bitCount_0f7a4 (n : Int) m = some ((cntB 32 n : Nat) : Int) := by
  have q := qua_le n (b := 858993459) (by decide)
  have p := pop_32 n (Nat.lt_trans hn (by decide))
  have e : w32 (iand (w32 ((n : Int) - iand (iushr (n : Int) 1) 1431655765)) 858993459 + iand (iushr (w32 ((n : Int) - iand (iushr (n : Int) 1) 1431655765)) 2) 858993459) = ((qua 8 n : Nat) : Int) := bc1 hn (a := rep 5 8) (b := rep 3 8) (by decide) (by decide)
  unfold fJ6_bitCount_0f7a4
  simp only [rd_eq]
  rw [e]
  generalize qua 8 n = z at *
  have q2 : z + z / 2 ^ 4 < 2147483648 := by rw [show (2 : Nat) ^ 4 = 16 from rfl]; omega
  rw [bc2 (by omega) q2]
  have q3 : (z + z / 2 ^ 4 &&& 252645135) < 500000000 := Nat.lt_of_le_of_lt Nat.and_le_right (by decide)
  rw [bc3 q3]
  exact congrArg (fun x : Nat => some (x : Int)) p
theorem cntB_le : ∀ f n, cntB f n ≤ f
  | 0, _ => Nat.le_refl _
  | f + 1, n => by show n % 2 + cntB f (n / 2) ≤ f + 1; have := cntB_le f (n / 2); omega
theorem m_size {n : Nat} {m : Mem} (hn : n < 2147483648) : fX12_size (n : Int) m = some ((cntB 32 n : Nat) : Int) := by
  suffices hs : Ok (fX12_size (n : Int) m) (fun v => v = ((cntB 32 n : Nat) : Int)) by
    obtain ⟨v, e, hv⟩ := hs
    rw [e, hv]
  unfold fX12_size
  simp only [rd_eq]
  refine lp_ok (fun (t : Int × Int) (mm : Mem) => ∃ x k : Nat, t = ((k : Int), (x : Int)) ∧ x < 2147483648 ∧ k + cntB 32 x = cntB 32 n) (fun t mm => (32 - t.1).toNat) ⟨n, 0, rfl, hn, by omega⟩ (by show (32 - (0 : Int)).toNat < 1000000; decide) ?_
  rintro G t mm ⟨x, k, rfl, hx, hk⟩ ih
  simp only
  by_cases hz : x = 0
  · subst hz
    rw [if_pos (show ((0 : Nat) : Int) = 0 from rfl)]
    rw [cntB_zero] at hk
    exact ok_some (by omega)
  · rw [if_neg (by omega)]
    obtain ⟨k1, k2⟩ := kern 32 x (by omega) (by omega)
    have c1 := cntB_le 32 n
    have e1 : w32 ((x : Int) - 1) = ((x - 1 : Nat) : Int) := by rw [w32_id (by omega) (by omega)]; omega
    rw [e1, iand_nat hx, w32_id (by omega) (by omega)]
    refine ih _ _ ⟨(x &&& (x - 1)), k + 1, rfl, by omega, by omega⟩ (by show (32 - ((k : Int) + 1)).toNat < (32 - (k : Int)).toNat; omega)
theorem d_count {c w : Int} {m : Mem} (hI : Inv c m) (c0 : 0 ≤ c) : TwoR c (fX11_count w) (fX12_count w) m := by
  obtain ⟨hR, hV⟩ := kv_of hI
  have F : Fr [287, 293, 294] m (up m 287 4 0) := fr_up (by simp) fr_refl
  have N : ∀ i, i ≠ 4 → up m 287 4 0 287 i = m 287 i := fun i h => up_idx h
  have hI' := inv_m hI c0 F N
  have hK : up m 287 4 0 288 = m 288 := up_cell (by decide)
  have h8 := hV.1.2.2.2.1
  have hC := (curV_iff.mp hV.2).2.1
  have hW := hI.2.2.2.1
  have ht := hI.1
  obtain ⟨n, en⟩ : ∃ n : Nat, m 288 8 = n := ⟨(m 288 8).toNat, by omega⟩
  obtain ⟨q, eq⟩ : ∃ q : Nat, m 288 21 = q := ⟨(m 288 21).toNat, by omega⟩
  have e24 : m 27 0 = m 288 24 := hR.2.1.1
  have e21 : m 27 3 = m 288 21 := hR.2.1.2.2.2
  have e22 : m 27 1 = m 288 22 := hR.2.1.2.1
  have e23 : m 27 2 = m 288 23 := hR.2.1.2.2.1
  obtain ⟨x, hx, hm⟩ : ∃ x, fX11_count w m = some x ∧ fX12_count w m = some (x, up m 287 4 0) := by
    unfold fX11_count fX12_count
    simp only [rd_eq, wr_eq, jn_eq, hK]
    by_cases h0 : w = 0
    · rw [if_pos h0, if_pos h0]; exact ⟨_, rfl, by rw [hR.1.1.1]⟩
    rw [if_neg h0, if_neg h0]
    by_cases h1 : w = 1
    · rw [if_pos h1, if_pos h1]; exact ⟨_, rfl, by rw [hR.1.1.2.1]⟩
    rw [if_neg h1, if_neg h1]
    by_cases h2 : w = 2
    · rw [if_pos h2, if_pos h2]; exact ⟨_, rfl, by rw [hR.1.1.2.2.1]⟩
    rw [if_neg h2, if_neg h2]
    by_cases h3 : w = 3
    · rw [if_pos h3, if_pos h3]; exact ⟨_, rfl, by rw [hR.1.1.2.2.2.2.2]⟩
    rw [if_neg h3, if_neg h3]
    by_cases h4 : w = 4
    · rw [if_pos h4, if_pos h4]; exact ⟨_, rfl, by rw [hR.1.1.2.2.2.2.1]⟩
    rw [if_neg h4, if_neg h4]
    by_cases h5 : w = 5
    · rw [if_pos h5, if_pos h5, hR.1.1.2.2.2.1, en, c_bitCount (by omega), bR_some, m_size (by omega), bR_some]; exact ⟨_, rfl, rfl⟩
    rw [if_neg h5, if_neg h5]
    by_cases h6 : w = 6
    · rw [if_pos h6, if_pos h6]; exact ⟨_, rfl, by rw [e24]⟩
    rw [if_neg h6, if_neg h6]
    by_cases h7 : w = 7
    · rw [if_pos h7, if_pos h7, e24, c_rainIn (S := fun i => m 288 (9 + i)) (K := m 288) (n := m 288 3) ⟨hR.2.1, hR.2.2⟩ rfl rfl, bR_some, m_rainIn, bR_some, hK]; exact ⟨_, rfl, rfl⟩
    rw [if_neg h7, if_neg h7]
    by_cases h8 : w = 8
    · rw [if_pos h8, if_pos h8, e21, eq, c_bitCount (by omega), bR_some, m_size (by omega), bR_some]; exact ⟨_, rfl, rfl⟩
    rw [if_neg h8, if_neg h8]
    by_cases h9 : w = 9
    · rw [if_pos h9, if_pos h9]; exact ⟨_, rfl, by rw [hW.2.2.1]⟩
    rw [if_neg h9, if_neg h9]
    by_cases h10 : w = 10
    · rw [if_pos h10, if_pos h10, N 6 (by decide)]; exact ⟨_, rfl, by rw [ht.1]⟩
    rw [if_neg h10, if_neg h10]
    exact ⟨_, rfl, rfl⟩
  exact ⟨x, hx, ok_of hm ⟨rfl, hI'⟩⟩

/-! ===== D96: what stands before the head is read ===== -/
theorem c_fill4 {o : Nat} {m : Mem} : Ok (fJ7_fill_53178 o 4 0 m) (fun m' => (∀ p, 0 ≤ p → p < 4 → m' o p = 0) ∧ Fr [o] m m') := by
  unfold fJ7_fill_53178
  simp only [rd_eq]
  simp only [wr_eq]
  refine lp_for 4 (fun i m' => 0 ≤ i ∧ (∀ p, 0 ≤ p → p < i → m' o p = 0) ∧ Fr [o] m m') ⟨by decide, fun p a b => by omega, fr_refl⟩ (by decide) (by decide) ?_ ?_
  · rintro K i m' hi ⟨i0, h1, h2⟩ ih
    rw [if_neg (show ¬ ((4 : Nat) : Int) ≤ i by omega), chk_of (by omega), w32_id (x := i + 1) (by omega) (by omega)]
    refine ih _ ⟨by omega, fun p a b => ?_, fr_up (by simp) h2⟩
    rw [up_at]
    by_cases z : p = i
    · rw [if_pos z]
    · rw [if_neg z]; exact h1 p a (by omega)
  · rintro K m' ⟨_, h1, h2⟩
    rw [if_pos (by decide)]
    exact ok_some ⟨h1, h2⟩
theorem c_wipe3 {m : Mem} : Ok (fX3_wipe m) (fun m' => (∀ j, 0 ≤ j → j ≤ 5 → m' 7 j = 0) ∧ (m' 10 1 = 0 ∧ m' 10 4 = 0 ∧ m' 10 5 = 0 ∧ m' 10 6 = 0) ∧ (m' 12 1 = 0 ∧ m' 12 4 = 0 ∧ m' 12 5 = 0 ∧ m' 12 6 = 0) ∧ Fr [7, 10, 12] m m') := by
  unfold fX3_wipe fX4_wipe
  simp only [wr_eq]
  rw [chk_of (by decide), chk_of (by decide), chk_of (by decide), bV_some, chk_of (by decide), chk_of (by decide), chk_of (by decide), bV_some]
  refine ok_some ⟨fun j a b => ?_, ⟨?_, ?_, ?_, ?_⟩, ⟨?_, ?_, ?_, ?_⟩, ?_⟩
  · have h : j = 0 ∨ j = 1 ∨ j = 2 ∨ j = 3 ∨ j = 4 ∨ j = 5 := by omega
    rcases h with rfl | rfl | rfl | rfl | rfl | rfl <;> simp [up]
  all_goals first | (simp [up]; done) | skip
  exact fr_up (by decide) (fr_up (by decide) (fr_up (by decide) (fr_up (by decide) (fr_up (by decide) (fr_up (by decide) (fr_up (by decide) (fr_up (by decide) (fr_up (by decide) (fr_up (by decide) (fr_up (by decide) (fr_up (by decide) (fr_up (by decide) (fr_up (by decide) fr_refl)))))))))))))
theorem c_wipe5 {m : Mem} : Ok (fX5_wipe m) (fun m' => (∀ j, 0 ≤ j → j ≤ 3 → m' 14 j = 0) ∧ (∀ p, 0 ≤ p → p < 4 → m' 17 p = 0) ∧ Fr [14, 15, 16, 17] m m') := by
  unfold fX5_wipe
  simp only [wr_eq]
  refine ok_bV c_fill4 ?_
  rintro m1 ⟨_, a2⟩
  refine ok_bV c_fill4 ?_
  rintro m2 ⟨_, b2⟩
  refine ok_bV c_fill4 ?_
  rintro m3 ⟨c1, c2⟩
  refine ok_some ⟨fun j a b => ?_, c1, fr_trans (fr_trans (fr_trans ?_ (fr_mono' a2 (by decide))) (fr_mono' b2 (by decide))) (fr_mono' c2 (by decide))⟩
  · rw [c2 14 (by decide), b2 14 (by decide), a2 14 (by decide)]
    have h : j = 0 ∨ j = 1 ∨ j = 2 ∨ j = 3 := by omega
    rcases h with rfl | rfl | rfl | rfl <;> simp [up]
  · exact fr_up (by decide) (fr_up (by decide) (fr_up (by decide) (fr_up (by decide) fr_refl)))
/-- what both have in the end -/
def ReadM (n f pl : Int) (K : Int → Int) (mm : Mem) : Prop := (mm 287 12 = f ∧ (f ≠ 0 → mm 287 13 = pl)) ∧ (f = 0 → mm 289 = K)
theorem end_kv {K : Int → Int} {m : Mem} (hR : DR K m) (hV : DV K) : IsR 7 (ku K 23 (K 23 + K 24)) (up m 14 2 (w32 (m 14 2 + m 14 0))) ∧ LfR 14 (ku K 23 (K 23 + K 24) 3) (fun i => ku K 23 (K 23 + K 24) (9 + i)) (up m 14 2 (w32 (m 14 2 + m 14 0))) ∧ IsV (ku K 23 (K 23 + K 24)) ∧ StV (ku K 23 (K 23 + K 24)) 999 (fun i => ku K 23 (K 23 + K 24) (9 + i)) := by
  obtain ⟨v1, v2, ⟨s1, s2, s3, s4, s5⟩, v4, v5, v6, v7⟩ := hV
  have k3 := v2.2.1
  have k4 := v2.2.2.1
  obtain ⟨r1, ⟨⟨q0, q1, q2, q3⟩, q4⟩, r3, r4, r5⟩ := hR
  simp only at q0 q1 q2 q3
  have a14 : (9 : Int) + 14 = 23 := by decide
  have a15 : (9 : Int) + 15 = 24 := by decide
  simp only [a14, a15] at s4 s5 q2 q0
  have u : ∀ x, x ≠ 23 → ku K 23 (K 23 + K 24) x = K x := fun x hx => ku_ne hx
  have inI : ∀ x, InI x → ku K 23 (K 23 + K 24) x = K x := fun x hx => u x (by unfold InI at hx; omega)
  have e14 : w32 (m 14 2 + m 14 0) = K 23 + K 24 := by rw [q2, q0]; exact w32_id (by omega) (by omega)
  rw [e14]
  refine ⟨IsR_c r1 k3.2 k4.2 inI (by rw [up_cell (by decide), u 0 (by decide)]; exact r1.1.1) (fun j _ => by rw [up_cell (by decide)]) (fun o a b => up_cell (by omega)), ⟨⟨?_, ?_, ?_, ?_⟩, fun p a b => ?_⟩, IsV_c v2 inI, ⟨fun p a b => ?_, ?_, ?_, ?_, ?_⟩⟩
  · rw [up_idx (by decide), q0]; exact (u 24 (by decide)).symm
  · rw [up_idx (by decide), q1]; exact (u (9 + 13) (by decide)).symm
  · rw [up_same]; exact (ku_at K 23 _).symm
  · rw [up_idx (by decide), q3]; exact (u (9 + 12) (by decide)).symm
  · rw [u 3 (by decide)] at b
    have z := q4 p a b
    simp only at z ⊢
    rw [up_cell (by decide), up_cell (by decide), up_cell (by decide), u (9 + p) (by omega), u (9 + (4 + p)) (by omega), u (9 + (8 + p)) (by omega)]
    exact z
  · rw [u 3 (by decide)] at b
    have z := s1 p a b
    simp only at z ⊢
    rw [u (9 + p) (by omega), u (9 + (4 + p)) (by omega), u (9 + (8 + p)) (by omega), u 1 (by decide), u 2 (by decide), u 8 (by decide)]
    exact z
  · simp only at s2 ⊢
    rw [u (9 + 12) (by decide), u 3 (by decide)]; exact s2
  · simp only at s3 ⊢
    rw [u (9 + 13) (by decide)]; exact s3
  · simp only
    rw [a14, ku_at]; omega
  · simp only
    rw [a15, u 24 (by decide)]; exact s5

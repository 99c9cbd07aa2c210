/-! ===== D99: the class's island ===== -/
def IslC (m : Mem) (f pl : Int) (K : Int → Int) (r : Mem) : Prop :=
  (r 0 1 = 0 ∧ r 0 2 = f ∧ r 0 3 = pl) ∧ Fr [0, 2, 3, 4, 5, 6, 7, 8, 9, 10, 11, 12, 13, 14, 15, 16, 17, 19, 20, 21, 22, 23, 24, 25, 26, 27, 28, 29, 30, 312] m r ∧
  (f ≠ 0 → r 312 0 = w32 (-10 - f) ∧ ∀ o, 19 ≤ o → o ≤ 30 → r o = m o) ∧
  (f = 0 → pl = -1 ∧ DV K ∧ r 312 0 = ku K 23 (K 23 + K 24) 0 ∧ IsR 20 (ku K 23 (K 23 + K 24)) r ∧ LfR 27 (ku K 23 (K 23 + K 24) 3) (fun i => ku K 23 (K 23 + K 24) (9 + i)) r ∧ IsV (ku K 23 (K 23 + K 24)) ∧ StV (ku K 23 (K 23 + K 24)) 999 (fun i => ku K 23 (K 23 + K 24) (9 + i)) ∧ (r 19 2 = 0 ∧ r 19 4 = m 19 4))
theorem c_island {T K0 : Int → Int} {n : Int} {m : Mem} (n0 : 0 ≤ n) (hn : n ≤ m 0 1) (n9 : m 0 1 ≤ 900) (hT : TxtR T n m) (hZ : ∀ x, 0 ≤ x → x < 25 → K0 x = 0) :
    Ok (fL_island n m) (fun r => r.1 = 0 ∧ ∃ f pl K, IslC m f pl K r.2 ∧
      ∀ (Q : Int × Mem → Prop) (R : Mem → Option (Int × Mem)) (mm : Mem), (mm 287 7 = n ∧ TapT T n mm) → mm 287 8 = 0 → mm 287 12 = 0 → mm 287 16 = 0 → mm 289 = K0 → (∀ mm', ReadM n f pl K mm' → FM mm mm' → Ok (R mm') Q) →
        Ok (bV (fX12_readsOn mm) fun mm => bV (fX12_mustWord 19 mm) fun mm => bW (fX12_number 2 5 mm) fun x5 mm => bW (fX12_number 2 5 (up mm 289 1 x5)) fun x6 mm => bV (fX12_readStop (up mm 289 2 x6)) fun mm => lp BIG (fun (K8 : Unit → Mem → Option (Int × Mem)) (t7 : Unit) mm => if ¬ mm 287 12 = 0 then R mm else if mm 287 10 = 0 then R mm else bV (fX12_readLine mm) fun mm => K8 () mm) () mm) Q) := by
  unfold fL_island
  have main : Ok (fX11_island n m) (fun q => q.1 = 0 ∧ ∃ f pl K, IslC m f pl K (up q.2.2 312 0 q.2.1) ∧
      ∀ (Q : Int × Mem → Prop) (R : Mem → Option (Int × Mem)) (mm : Mem), (mm 287 7 = n ∧ TapT T n mm) → mm 287 8 = 0 → mm 287 12 = 0 → mm 287 16 = 0 → mm 289 = K0 → (∀ mm', ReadM n f pl K mm' → FM mm mm' → Ok (R mm') Q) →
        Ok (bV (fX12_readsOn mm) fun mm => bV (fX12_mustWord 19 mm) fun mm => bW (fX12_number 2 5 mm) fun x5 mm => bW (fX12_number 2 5 (up mm 289 1 x5)) fun x6 mm => bV (fX12_readStop (up mm 289 2 x6)) fun mm => lp BIG (fun (K8 : Unit → Mem → Option (Int × Mem)) (t7 : Unit) mm => if ¬ mm 287 12 = 0 then R mm else if mm 287 10 = 0 then R mm else bV (fX12_readLine mm) fun mm => K8 () mm) () mm) Q) := by
    unfold fX11_island
    simp only [rd_eq]
    simp only [wr_eq]
    simp only [jn_eq]
    rw [if_neg (show ¬ n < 0 by omega), if_pos hn]
    have hT0 : TxtR T n (up m 0 1 0) := fun i a b => by rw [up_cell (by decide)]; exact hT i a b
    refine ok_bV (N_read (ρ := Int × Mem) hT0 n0 (by omega) hZ) ?_
    rintro m1 ⟨f, pl, K, ⟨e1, e2⟩, hF, hK, hM⟩
    rw [e1, up_cell (show 2 ≠ 0 by decide), e2]
    have x02 : up (up m1 0 2 f) 0 3 pl 0 2 = f := by rw [up_idx (by decide), up_same]
    have x01 : up (up m1 0 2 f) 0 3 pl 0 1 = 0 := by rw [up_idx (by decide), up_idx (by decide), hF 0 (by decide), up_same]
    rw [x02]
    have F1 : Fr [0, 2, 3, 4, 5, 6, 7, 8, 9, 10, 11, 12, 13, 14, 15, 16, 17, 19, 20, 21, 22, 23, 24, 25, 26, 27, 28, 29, 30, 312] m (up (up m1 0 2 f) 0 3 pl) :=
      fr_up (by decide) (fr_up (by decide) (fr_trans (fr_up (by decide) fr_refl) (fr_mono' hF (by decide))))
    have big : ∀ o, 18 ≤ o → up (up m1 0 2 f) 0 3 pl o = m o := fun o a => by rw [up_cell (by omega), up_cell (by omega), hF o (by simp; omega), up_cell (by omega)]
    by_cases hf : f = 0
    · rw [if_pos hf]
      obtain ⟨k0, k1, k2, k3, k4, k5⟩ := hK hf
      have l3 := k4.2.1
      have l4 := k4.2.2.1
      have l5 := k4.2.2.2.2.2.2.2.1
      have l6 := k4.2.2.2.2.2.2.2.2
      unfold fX10_begin
      simp only [wr_eq]
      obtain ⟨m2, s1, s2, s3⟩ := c_copyIsle (o := 20) (IsR_fr (m' := up (up m1 0 2 f) 0 3 pl) k2 (fun o a b => by rw [up_cell (by omega), up_cell (by omega)])) l3.2 l4.2 ⟨l5.1, l5.2.1⟩ ⟨l6.1, l6.2.1⟩ (by decide)
      rw [s1, bV_some]
      obtain ⟨m3, t1, t2, t3⟩ := c_copyLife (o := 27) (LfR_fr (m' := m2) k3 (fun q a b => by rw [s3 q (by omega), up_cell (by omega), up_cell (by omega)])) l3.2 (by decide)
      rw [t1, bV_some, bV_some]
      have rr : ∀ o, o < 20 ∨ 31 ≤ o → m3 o = up (up m1 0 2 f) 0 3 pl o := fun o a => by rw [t3 o (by omega), s3 o (by omega)]
      have w : ∀ o, o ≠ 19 → o ≠ 312 → ∀ v, up (up m3 19 2 0) 312 0 v o = m3 o := fun o a b v => by rw [up_cell b, up_cell a]
      have i20 : IsR 20 (ku K 23 (K 23 + K 24)) m3 := IsR_fr s2 (fun o a b => t3 o (by omega))
      refine ok_some ⟨rfl, f, pl, K, ⟨⟨?_, ?_, ?_⟩, ?_, fun z => absurd hf z, fun _ => ⟨k0, k1, ?_, ?_, ?_, k4, k5, ?_, ?_⟩⟩, hM⟩
      · simp only; rw [w 0 (by decide) (by decide), rr 0 (by decide)]; exact x01
      · simp only; rw [w 0 (by decide) (by decide), rr 0 (by decide)]; exact x02
      · simp only; rw [w 0 (by decide) (by decide), rr 0 (by decide), up_same]
      · refine fr_up (by decide) (fr_up (by decide) (fun o ho => ?_))
        have h2 := ho
        simp only [List.mem_cons, List.not_mem_nil, not_or] at h2
        rw [rr o (by omega)]; exact F1 o ho
      · simp only; rw [up_same, up_cell (by decide)]; exact i20.1.1
      · exact IsR_fr i20 (fun o a b => by simp only; rw [w o (by omega) (by omega)])
      · exact LfR_fr t2 (fun o a b => by simp only; rw [w o (by omega) (by omega)])
      · simp only; rw [up_cell (by decide), up_same]
      · simp only; rw [up_cell (by decide), up_idx (by decide), rr 19 (by decide), big 19 (by decide)]
    · rw [if_neg hf]
      refine ok_some ⟨rfl, f, pl, K, ⟨⟨?_, ?_, ?_⟩, fr_up (by decide) F1, fun _ => ⟨up_same _ _ _ _, fun o a b => ?_⟩, fun z => absurd z hf⟩, hM⟩
      · simp only; rw [up_cell (by decide)]; exact x01
      · simp only; rw [up_cell (by decide)]; exact x02
      · simp only; rw [up_cell (by decide), up_same]
      · simp only; rw [up_cell (by omega)]; exact big o (by omega)
  refine bC_ok main ?_ ?_
  · rintro v m1 ⟨_, f, pl, K, h1, h2⟩
    exact ok_some ⟨rfl, f, pl, K, h1, h2⟩
  · rintro k v m1 hk ⟨h0, _⟩
    exact absurd h0 hk

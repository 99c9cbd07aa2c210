/-! ===== D100: island ===== -/
theorem d_island {c n : Int} {m : Mem} (hI : Inv c m) (c1 : 1000 ≤ c) (c9 : c ≤ 900000) : Two1 c (fL_island n) (fX12_island n) m := by
  obtain ⟨hTape, hFault, hKV, hW, hImg, hTray, hNear, hPtr⟩ := hI
  have hI0 : Inv c m := ⟨hTape, hFault, hKV, hW, hImg, hTray, hNear, hPtr⟩
  obtain ⟨t1, t2, t3⟩ := hTape
  unfold Two1
  by_cases hn : 0 ≤ n ∧ n ≤ m 0 1
  · obtain ⟨n0, hn⟩ := hn
    refine ok_imp (c_island (K0 := fun x => if 0 ≤ x ∧ x < 2005 then 0 else m 289 x) n0 hn t2.2 (T := m 292) (fun i a b => t3 i a (by omega)) (fun x a b => if_pos ⟨a, by omega⟩)) ?_
    rintro ⟨k, r⟩ ⟨h0, f, pl, K, ⟨⟨g1, g2, g3⟩, hF, hB, hG⟩, hM⟩
    simp only at h0 g1 g2 g3 hF hB hG
    have q : ∀ o, o = 1 ∨ o = 18 ∨ (31 ≤ o ∧ o < 312) → r o = m o := fun o a => hF o (by simp; omega)
    have q287 := q 287 (by decide)
    show Ok (fX12_island n r) (fun s => s.2 287 4 = k ∧ (k = 0 → s.2 312 0 = s.1) ∧ Inv (c + 100) s.2)
    refine ok_imp (m_island (T := m 292) (K := K) (f := f) (pl := pl) n0 (by rw [q287, ← t1]; exact hn) (fun i a b => by rw [q 292 (by decide)]) (by rw [q 289 (by decide)]) (fun z => (hG z).1) hM (fun z => ?_)) ?_
    · obtain ⟨_, ⟨_, _, ⟨_, _, _, s4, s5⟩, v4, _⟩, _⟩ := hG z
      have a14 : (9 : Int) + 14 = 23 := by decide
      have a15 : (9 : Int) + 15 = 24 := by decide
      simp only [a14, a15] at s4 s5
      exact w32_id (by omega) (by omega)
    · rintro ⟨v, s⟩ ⟨⟨a1, a2⟩, ⟨a3, a4⟩, hFs, hBad, hGood⟩
      simp only at a1 a2 a3 a4 hFs hBad hGood
      have u : ∀ o, o < 287 ∨ 289 < o → s o = r o := fun o a => hFs o (by simp; omega)
      have uq : ∀ o, o = 1 ∨ o = 18 ∨ (31 ≤ o ∧ o < 287) ∨ (289 < o ∧ o < 312) → s o = m o := fun o a => by rw [u o (by omega), q o (by omega)]
      have rest : ImgR (c + 100) s ∧ TrayR s ∧ NearOk s ∧ PtrR s := by
        refine ⟨ImgR_fr (ImgR_mono hImg (by omega)) (uq _ (by decide)) (uq _ (by decide)) (uq _ (by decide)) (fun o a b => uq o (by omega)), TrayR_fr hTray (fun o a => uq o (by omega)), NearOk_fr hNear ?_ (uq _ (by decide)), PtrR_fr hPtr (uq _ (by decide)) (uq _ (by decide))⟩
        rw [uq 18 (by decide)]; exact ⟨rfl, rfl, rfl⟩
      have tp : TapeR s := ⟨by rw [u 0 (by decide), g1, a2], by rw [u 0 (by decide), g1]; decide, fun i a b => by rw [u 0 (by decide), g1] at b; omega⟩
      have ft : FaultR s := ⟨by rw [u 0 (by decide), g2, a3], by rw [u 0 (by decide), g3, a4]⟩
      refine ⟨by rw [h0]; exact a1, fun _ => ?_, tp, ft, ?_, ?_, rest⟩
      · simp only
        rw [u 312 (by decide)]
        by_cases hf : f = 0
        · rw [(hGood hf).1, (hG hf).2.2.1]
        · rw [(hBad hf).1, (hB hf).1]
      · simp only
        by_cases hf : f = 0
        · obtain ⟨_, k1, _, _, _, k5, k6, _⟩ := hG hf
          have k7 : ku K 23 (K 23 + K 24) 7 = 0 := by rw [ku_ne (by decide)]; exact k1.2.2.2.2.2.1
          have kv : KV (c + 100) (ku K 23 (K 23 + K 24)) := ⟨k5, StV_mono k6 (by omega), by rw [k7]; decide, fun s a b => by rw [k7] at b; omega⟩
          exact KV_same (fun x a b => (hGood hf).2 x a b) kv
        · rw [(hBad hf).2, q 288 (by decide)]; exact KV_mono hKV (by omega)
      · simp only
        by_cases hf : f = 0
        · obtain ⟨_, k1, _, k3, k4, k5, k6, k8, k9⟩ := hG hf
          have k7 : ku K 23 (K 23 + K 24) 7 = 0 := by rw [ku_ne (by decide)]; exact k1.2.2.2.2.2.1
          have kv : KV (c + 100) (ku K 23 (K 23 + K 24)) := ⟨k5, StV_mono k6 (by omega), by rw [k7]; decide, fun s a b => by rw [k7] at b; omega⟩
          have wr : WRel 19 (ku K 23 (K 23 + K 24)) s := by
            refine ⟨IsR_fr k3 (fun o a b => u o (by omega)), LfR_fr k4 (fun o a b => u o (by omega)), ?_, ?_, fun s a b => by rw [k7] at b; omega⟩
            · rw [u 19 (by decide), k8, k7]
            · rw [u 19 (by decide), k9]; exact hW.2.2.2.1
          exact WRel_same (fun x a b => (hGood hf).2 x a b) kv wr
        · rw [(hBad hf).2, q 288 (by decide)]
          refine WRel_fr' hW (fun o a b => ?_)
          rcases b with b | b
          · rw [u o (by omega)]; exact (hB hf).2 o a (by omega)
          · exact uq o (by omega)
  · have e : fX11_island n m = some (1, 0, m) := by
      unfold fX11_island
      simp only [rd_eq]
      simp only [jn_eq]
      by_cases z : n < 0
      · rw [if_pos z]
      · rw [if_neg z, if_neg (fun y => hn ⟨by omega, y⟩)]
    have e2 : fL_island n m = some (1, m) := by
      unfold fL_island
      rw [e]; rfl
    have e3 : fX12_island n m = some (0, up (up m 287 4 0) 287 4 1) := by
      unfold fX12_island
      simp only [rd_eq]
      simp only [wr_eq]
      rw [up_idx (show (6 : Int) ≠ 4 by decide), m_within, bR_some, if_neg (show ¬ ¬ (if 0 ≤ n ∧ n ≤ m 287 6 then (1 : Int) else 0) = 0 by rw [if_neg (by rw [← t1]; exact hn)]; exact fun z => z rfl)]
      rfl
    rw [e2]
    refine ok_some ?_
    simp only
    rw [e3]
    refine ok_some ⟨by simp only; rw [up_same], fun z => absurd z (by decide), ?_⟩
    exact inv_m hI0 (by omega) (fr_up (by decide) (fr_up (by decide) fr_refl)) (fun i hi => by simp only; rw [up_idx hi, up_idx hi])

/-! ===== D58: what is seen, told in a tray ===== -/
theorem ok_eq {α : Type} {x : Option α} {a : α} (h : Ok x (fun r => r = a)) : x = some a := by
  obtain ⟨v, e, hv⟩ := h
  rw [e, hv]
def allB (P : Int → Bool) : Nat → Bool
  | 0 => true
  | n + 1 => allB P n && P (n : Int)
theorem allB_succ {P : Int → Bool} {n : Nat} : allB P (n + 1) = (allB P n && P (n : Int)) := rfl
theorem allB_at {P : Int → Bool} : ∀ {n : Nat}, allB P n = true → ∀ i : Int, 0 ≤ i → i < n → P i = true
  | 0, _, i, z0, z1 => by omega
  | n + 1, h, i, z0, z1 => by
    rw [allB_succ, Bool.and_eq_true] at h
    by_cases e : i = n
    · rw [e]; exact h.2
    · exact allB_at h.1 i z0 (by omega)
theorem allB_pre {P : Int → Bool} {n : Nat} : ∀ d : Nat, allB P (n + d) = true → allB P n = true
  | 0, h => h
  | d + 1, h => by
    rw [show n + (d + 1) = n + d + 1 by omega, allB_succ, Bool.and_eq_true] at h
    exact allB_pre d h.1
def seenB (K A : Int → Int) : Nat → Bool := allB (fun i => decide (-1 ≤ A i ∧ A i < K 1 * K 2))
/-- the class's throw of what is seen -/
def seenC (K a b n : Int → Int) (p t most : Int) : Int :=
  if 0 ≤ p ∧ p < K 3 then (if 0 ≤ t ∧ t < 4 then (if a t = -1 then 2 else if 1 ≤ b t ∧ b t ≤ most then (if seenB K (fun i => n (30 * t + i)) (b t).toNat = true then 0 else 1) else 1) else 3) else 3
/-- the model's number for a throw of the class -/
def thrM (k : Int) : Int := if k = 0 then 0 else if k = 3 then 1 else if k = 2 then 2 else 3
theorem seenC_rg {K a b n : Int → Int} {p t most : Int} : seenC K a b n p t most = 0 ∨ seenC K a b n p t most = 1 ∨ seenC K a b n p t most = 2 ∨ seenC K a b n p t most = 3 := by
  unfold seenC
  repeat' split
  all_goals simp
theorem seenC_inv {K a b n : Int → Int} {p t most : Int} (h : seenC K a b n p t most = 0) : (0 ≤ p ∧ p < K 3) ∧ (0 ≤ t ∧ t < 4) ∧ a t ≠ -1 ∧ (1 ≤ b t ∧ b t ≤ most) ∧ ∀ i, 0 ≤ i → i < b t → -1 ≤ n (30 * t + i) ∧ n (30 * t + i) < K 1 * K 2 := by
  unfold seenC at h
  by_cases hp : 0 ≤ p ∧ p < K 3
  · rw [if_pos hp] at h
    by_cases ht : 0 ≤ t ∧ t < 4
    · rw [if_pos ht] at h
      by_cases ha : a t = -1
      · rw [if_pos ha] at h; omega
      · rw [if_neg ha] at h
        by_cases hb : 1 ≤ b t ∧ b t ≤ most
        · rw [if_pos hb] at h
          by_cases hs : seenB K (fun i => n (30 * t + i)) (b t).toNat = true
          · exact ⟨hp, ht, ha, hb, fun i i0 i1 => of_decide_eq_true (allB_at hs i i0 (by omega))⟩
          · rw [if_neg hs] at h; omega
        · rw [if_neg hb] at h; omega
    · rw [if_neg ht] at h; omega
  · rw [if_neg hp] at h; omega
theorem c_needSeen {K : Int → Int} {c p t most : Int} {m : Mem} (hR : CR K m) (hV : CV c K) (hT : TrayR m) : fX11_needSeen p t most m = some (seenC K (m 309) (m 310) (m 311) p t most, 0, m) := by
  unfold fX11_needSeen seenC
  rw [c_needPair hR hV, bX_if (by decide)]
  by_cases hp : 0 ≤ p ∧ p < K 3
  · rw [if_pos hp, if_pos hp, c_needRow hT]
    by_cases ht : 0 ≤ t ∧ t < 4
    · obtain ⟨tm, tr⟩ := tray_miss hT ht.1 ht.2
      rw [if_pos ht, if_pos ht]
      by_cases hm : m 309 t = -1
      · rw [if_pos hm, if_pos hm, bX_some2]
      · obtain ⟨r1, r2, r3, r4, r5⟩ := tr hm
        rw [if_neg hm, if_neg hm, bX_some0, chk_of (by omega)]
        simp only [rd_eq, jn_eq, r4]
        rw [c_needWithin, bX_if (by decide)]
        by_cases hw : 1 ≤ m 310 t ∧ m 310 t ≤ most
        · rw [if_pos hw, if_pos hw]
          refine ok_eq ?_
          refine lp_ok (fun (i : Int) (mm : Mem) => ∃ j : Nat, i = (j : Int) ∧ (j : Int) ≤ m 310 t ∧ mm = m ∧ seenB K (fun i => m 311 (30 * t + i)) j = true) (fun i _ => (m 310 t - i).toNat) ⟨0, rfl, by omega, rfl, rfl⟩ (by show (m 310 t - 0).toNat < _; omega) ?_
          rintro G i mm ⟨j, rfl, hj, rfl, hs⟩ ih
          by_cases hq : mm 310 t ≤ (j : Int)
          · rw [if_pos hq]
            refine ok_some ?_
            rw [show (mm 310 t).toNat = j by omega, if_pos hs]
          · have ev := (r5 (j : Int) (by omega) (by omega)).1
            rw [if_neg hq, c_at ht.1 ht.2 (by omega) (by omega), bR_some, ev]
            have stop : ¬ (-1 ≤ mm 311 (30 * t + (j : Int)) ∧ mm 311 (30 * t + (j : Int)) < K 1 * K 2) → Ok (some ((1 : Int), (0 : Int), mm)) (fun r => r = (if seenB K (fun i => mm 311 (30 * t + i)) (mm 310 t).toNat = true then 0 else 1, 0, mm)) := by
              intro z
              have nz : ¬ seenB K (fun i => mm 311 (30 * t + i)) (mm 310 t).toNat = true := fun q => z (of_decide_eq_true (allB_at q (j : Int) (by omega) (by omega)))
              exact ok_some (by rw [if_neg nz])
            by_cases h1 : mm 311 (30 * t + (j : Int)) < -1
            · rw [if_pos h1]; exact stop (by omega)
            · rw [if_neg h1, c_places hR.1 hV.1, bR_some]
              by_cases h2 : mm 311 (30 * t + (j : Int)) < K 1 * K 2
              · rw [if_pos h2, w32_id (by omega) (by omega)]
                refine ih _ _ ⟨j + 1, by omega, by omega, rfl, ?_⟩ (by omega)
                show (seenB K (fun i => mm 311 (30 * t + i)) j && decide (-1 ≤ mm 311 (30 * t + (j : Int)) ∧ mm 311 (30 * t + (j : Int)) < K 1 * K 2)) = true
                rw [hs, decide_eq_true (by omega)]; rfl
              · rw [if_neg h2]; exact stop (by omega)
        · rw [if_neg hw, if_neg hw]
    · rw [if_neg ht, if_neg ht, bX_some3]
  · rw [if_neg hp, if_neg hp]
theorem m_isTray {t : Int} {m : Mem} : fX12_isTray t m = some (if 0 ≤ t ∧ t < 4 then 1 else 0) := by
  unfold fX12_isTray
  simp only [m_within, bR_some]
  by_cases ht : 0 ≤ t ∧ t < 4
  · rw [if_pos (show 0 ≤ t ∧ t ≤ 3 by omega), if_pos ht, chk_of (by simp)]
  · rw [if_neg (show ¬ (0 ≤ t ∧ t ≤ 3) by omega), if_neg ht, chk_of (by simp)]
theorem m_watchedFault {K : Int → Int} {p t most : Int} {m : Mem} (hK : m 288 = K) (hI : IsV K) (hT : TrayR m) : fX12_watchedFault p t most m = some (thrM (seenC K (m 309) (m 310) (m 311) p t most)) := by
  unfold fX12_watchedFault seenC
  rw [m_isPair hK hI, bR_some]
  simp only [jn_eq]
  by_cases hp : 0 ≤ p ∧ p < K 3
  · rw [if_pos hp, if_pos hp, if_neg (by decide), m_isTray, bR_some]
    by_cases ht : 0 ≤ t ∧ t < 4
    · obtain ⟨tm, tr⟩ := tray_miss hT ht.1 ht.2
      rw [if_pos ht, if_pos ht, if_pos (by decide), chk_of (by omega)]
      simp only [rd_eq]
      by_cases hm : m 309 t = -1
      · rw [if_neg (by omega), if_pos hm]; rfl
      · obtain ⟨r1, r2, r3, r4, r5⟩ := tr hm
        rw [if_pos hm, if_neg hm, chk_of (by omega), m_within, bR_some]
        refine ok_eq ?_
        refine lp_ok (fun (q : Int × Int) (mm : Mem) => ∃ j : Nat, q.2 = (j : Int) ∧ (j : Int) ≤ m 310 t ∧ mm = m ∧ q.1 = (if (1 ≤ m 310 t ∧ m 310 t ≤ most) ∧ seenB K (fun i => m 311 (30 * t + i)) j = true then 1 else 0)) (fun q _ => (m 310 t - q.2).toNat) ⟨0, rfl, by omega, rfl, ?_⟩ (by show (m 310 t - 0).toNat < _; omega) ?_
        · show (if 1 ≤ m 310 t ∧ m 310 t ≤ most then (1 : Int) else 0) = _
          by_cases hw : 1 ≤ m 310 t ∧ m 310 t ≤ most
          · rw [if_pos hw, if_pos ⟨hw, rfl⟩]
          · rw [if_neg hw, if_neg (fun z => hw z.1)]
        rintro G ⟨f, i⟩ mm ⟨j, rfl, hj, rfl, hf⟩ ih
        simp only at hf ih ⊢
        rw [chk_of (by omega)]
        have fin : (mm 310 t ≤ (j : Int) ∨ f = 0) → Ok (if f = 0 then some (3 : Int) else some 0) (fun r => r = thrM (if 1 ≤ mm 310 t ∧ mm 310 t ≤ most then (if seenB K (fun i => mm 311 (30 * t + i)) (mm 310 t).toNat = true then 0 else 1) else 1)) := by
          intro z
          by_cases hw : 1 ≤ mm 310 t ∧ mm 310 t ≤ most
          · rw [if_pos hw]
            by_cases hs : seenB K (fun i => mm 311 (30 * t + i)) j = true
            · rw [if_pos ⟨hw, hs⟩] at hf
              rw [if_neg (by omega)]
              rw [show (mm 310 t).toNat = j by omega, if_pos hs]
              exact ok_some rfl
            · rw [if_neg (fun q => hs q.2)] at hf
              rw [if_pos hf]
              have nz : ¬ seenB K (fun i => mm 311 (30 * t + i)) (mm 310 t).toNat = true := fun q => hs (allB_pre ((mm 310 t).toNat - j) (by rw [show j + ((mm 310 t).toNat - j) = (mm 310 t).toNat by omega]; exact q))
              rw [if_neg nz]
              exact ok_some rfl
          · rw [if_neg (fun q => hw q.1)] at hf
            rw [if_pos hf, if_neg hw]
            exact ok_some rfl
        by_cases hq : mm 310 t ≤ (j : Int)
        · rw [if_pos hq]; exact fin (.inl hq)
        · rw [if_neg hq]
          by_cases hf0 : f = 0
          · rw [if_pos hf0]; exact fin (.inr hf0)
          · have hg : (1 ≤ mm 310 t ∧ mm 310 t ≤ most) ∧ seenB K (fun i => mm 311 (30 * t + i)) j = true := by
              by_cases z : (1 ≤ mm 310 t ∧ mm 310 t ≤ most) ∧ seenB K (fun i => mm 311 (30 * t + i)) j = true
              · exact z
              · rw [if_neg z] at hf; exact absurd hf hf0
            rw [if_neg hf0, w32_id (x := 30 * t) (by omega) (by omega), w32_id (x := 30 * t + (j : Int)) (by omega) (by omega), chk_of (by omega), w32_id (x := (j : Int) + 1) (by omega) (by omega)]
            have es : seenB K (fun i => mm 311 (30 * t + i)) (j + 1) = decide (-1 ≤ mm 311 (30 * t + (j : Int)) ∧ mm 311 (30 * t + (j : Int)) < K 1 * K 2) := by
              show (seenB K (fun i => mm 311 (30 * t + i)) j && decide (-1 ≤ mm 311 (30 * t + (j : Int)) ∧ mm 311 (30 * t + (j : Int)) < K 1 * K 2)) = _
              rw [hg.2]; rfl
            have yes : (-1 ≤ mm 311 (30 * t + (j : Int)) ∧ mm 311 (30 * t + (j : Int)) < K 1 * K 2) → Ok (G (1, (j : Int) + 1) mm) (fun r => r = thrM (if 1 ≤ mm 310 t ∧ mm 310 t ≤ most then (if seenB K (fun i => mm 311 (30 * t + i)) (mm 310 t).toNat = true then 0 else 1) else 1)) := by
              intro z
              refine ih (1, (j : Int) + 1) mm ⟨j + 1, by show (j : Int) + 1 = _; omega, by omega, rfl, ?_⟩ (by show (mm 310 t - ((j : Int) + 1)).toNat < (mm 310 t - (j : Int)).toNat; omega)
              show (1 : Int) = _
              rw [if_pos ⟨hg.1, by rw [es]; exact decide_eq_true z⟩]
            have N25 := pl_25 hI
            by_cases h1 : mm 311 (30 * t + (j : Int)) = -1
            · rw [if_pos h1]; exact yes (by omega)
            · rw [if_neg h1, chk_of (by omega), m_isPlace hK hI, bR_some]
              by_cases h2 : 0 ≤ mm 311 (30 * t + (j : Int)) ∧ mm 311 (30 * t + (j : Int)) < K 1 * K 2
              · rw [if_pos h2, if_neg (by decide)]; exact yes (by omega)
              · rw [if_neg h2, if_pos rfl]
                refine ih (0, (j : Int) + 1) mm ⟨j + 1, by show (j : Int) + 1 = _; omega, by omega, rfl, ?_⟩ (by show (mm 310 t - ((j : Int) + 1)).toNat < (mm 310 t - (j : Int)).toNat; omega)
                show (0 : Int) = _
                rw [if_neg (fun q => by have := q.2; rw [es] at this; have := of_decide_eq_true this; omega)]
    · rw [if_neg ht, if_neg ht]
      rw [if_neg (show ¬ ¬ (0 : Int) = 0 from fun z => z rfl)]; rfl
  · rw [if_neg hp, if_neg hp, if_pos rfl]; rfl

/-! ===== D5: whether a step can be, both sides ===== -/
theorem bits_eq0 {x : Int} {P : Nat → Prop} (h : Bits x P) : x = 0 ↔ ∀ i, i < 32 → ¬ P i := by
  rw [tb_eq0 h.1]
  constructor
  · intro q i hi hp
    have := (h.2 i hi).mpr hp
    rw [q i hi] at this; cases this
  · intro q i hi
    cases e : tb x i with
    | false => rfl
    | true => exact absurd ((h.2 i hi).mp e) (q i hi)
theorem c_isRock {K : Int → Int} {k : Int} {m : Mem} (h : CR K m) (k0 : 0 ≤ k) (k1 : k < 32) : fX3_isRock k m = some (if tb (K 8) k.toNat then 1 else 0) := by
  unfold fX3_isRock
  simp only [rd_eq, jn_eq, show m 20 3 = K 8 from h.1.1.2.2.2.1, bit_ui _ k0 k1]
  cases tb (K 8) k.toNat
  · simp [chk_of]
  · simp [chk_of]
def fromF (K : Int → Int) (p who : Int) : Int := if who = 0 then K (13 + p) else K (17 + p)
def goF (K : Int → Int) (p who t : Int) : Int :=
  if t = 0 then besF (K 1) (K 2) (fromF K p who) t
  else if besF (K 1) (K 2) (fromF K p who) t = -1 then -1
  else if tb (K 8) (besF (K 1) (K 2) (fromF K p who) t).toNat then -1
  else if mayF K p who (besF (K 1) (K 2) (fromF K p who) t) (K 24 + 1) then besF (K 1) (K 2) (fromF K p who) t else -1
theorem goF_rg {K : Int → Int} {c p who t : Int} (hV : CV c K) (p0 : 0 ≤ p) (p1 : p < K 3) : goF K p who t = -1 ∨ (0 ≤ goF K p who t ∧ goF K p who t < K 1 * K 2 ∧ tb (K 8) (goF K p who t).toNat = false ∧ goF K p who t = besF (K 1) (K 2) (fromF K p who) t) := by
  have hS := (curV_iff.mp hV.2).1 p p0 p1
  have hw := wide_of hV.1 p0 p1
  have hf : 0 ≤ fromF K p who ∧ fromF K p who < K 1 * K 2 ∧ tb (K 8) (fromF K p who).toNat = false := by
    unfold fromF; split
    · exact hS.2.1
    · exact hS.2.2
  have hb := besF_rg (t := t) hw.1.1 hw.1.2 hw.2.1 hw.2.2 hf.1 hf.2.1
  unfold goF
  split
  · rename_i h; subst h
    rw [show besF (K 1) (K 2) (fromF K p who) 0 = fromF K p who from if_pos rfl]
    exact .inr ⟨hf.1, hf.2.1, hf.2.2, rfl⟩
  · split
    · exact .inl rfl
    · split
      · exact .inl rfl
      · rename_i h
        split
        · refine .inr ⟨by omega, by omega, by simpa using h, rfl⟩
        · exact .inl rfl
theorem c_turned {K : Int → Int} {c p who t : Int} {m : Mem} (hR : CR K m) (hV : CV c K) (c1 : c ≤ 1000000) (p0 : 0 ≤ p) (p1 : p < K 3) (q0 : 0 ≤ who) (q1 : who ≤ 1) :
    Ok (fX10_turned p who t m) (fun r => r.1 = goF K p who t ∧ Fr [36, 37] m r.2) := by
  have hS := (curV_iff.mp hV.2).1 p p0 p1
  have hw := wide_of hV.1 p0 p1
  have ar := area_le hw.1.1 hw.1.2 hw.2.1 hw.2.2
  have h3 := hV.1.2.1
  have hc := curR_iff.mp hR.2
  have hh := (curV_iff.mp hV.2).2.2.2.2
  have hf : 0 ≤ fromF K p who ∧ fromF K p who < K 1 * K 2 := by unfold fromF; split <;> omega
  have hb := besF_rg (t := t) hw.1.1 hw.1.2 hw.2.1 hw.2.2 hf.1 hf.2
  have main : Ok (bR (fX3_beside (fromF K p who) t m) fun x3 => (jn (fun (t4 : Unit) mm => some (x3, mm)) fun J5 => (if t = (0 : Int) then J5 () m else (if ¬ x3 = (-1) then bR (fX3_isRock x3 m) fun x6 => (jn (fun (t7 : Int) mm => (jn (fun (t9 : Int) mm => some (t9, mm)) fun J10 => (if t7 = (0 : Int) then J10 (-1) mm else J10 x3 mm))) fun J8 => (jn (fun (t11 : Unit) mm => J8 0 mm) fun J12 => (if ¬ x6 = (0 : Int) then J12 () m else rd (m 27 0) fun x13 => (bW (fX10_lawBits p who (w32 (x13 + 1)) x3 (w32 (x3 + 1)) m) fun x14 mm => (if x14 = (0 : Int) then J12 () mm else J8 1 mm))))) else J5 () m)))) (fun r => r.1 = goF K p who t ∧ Fr [36, 37] m r.2) := by
    rw [c_beside hR.1 hw.1.1 hw.1.2 hw.2.1 hw.2.2 hf.1 hf.2, bR_some]
    simp only [rd_eq, jn_eq]
    unfold goF
    generalize hbe : besF (K 1) (K 2) (fromF K p who) t = b at *
    by_cases ht : t = 0
    · rw [if_pos ht]
      exact ok_some ⟨by rw [if_pos ht], fr_refl⟩
    · rw [if_neg ht, if_neg ht]
      by_cases hb1 : b = -1
      · rw [if_neg (by simp [hb1]), if_pos hb1]
        exact ok_some ⟨hb1, fr_refl⟩
      · rw [if_pos hb1, if_neg hb1, c_isRock hR (by omega) (by omega), bR_some]
        cases hr : tb (K 8) b.toNat
        · rw [if_neg (by simp), if_neg (by simp), hc.1.1, w32_id (x := K 24 + 1) (by omega) (by omega), w32_id (x := b + 1) (by omega) (by omega)]
          refine ok_bW (c_lawBits hV.1 hV.2 hR.1 hR.2 p0 p1 q0 q1 (by omega) (show 0 ≤ b by omega) (by omega) (by omega)) ?_
          rintro x m' ⟨hx, hF⟩
          have := bits_eq0 hx
          by_cases hx0 : x = 0
          · rw [if_pos hx0]
            simp only [reduceIte]
            refine ok_some ⟨?_, hF⟩
            have := this.mp hx0 b.toNat (by omega)
            rw [if_neg]
            intro q
            exact this ⟨by omega, by omega, by rw [Int.toNat_of_nonneg (by omega)]; exact q⟩
          · rw [if_neg hx0]
            simp only [Int.reduceEq, reduceIte]
            refine ok_some ⟨?_, hF⟩
            rw [if_pos]
            cases q : mayF K p who b (K 24 + 1) with
            | true => rfl
            | false =>
              refine absurd (this.mpr ?_) hx0
              rintro i hi ⟨z1, z2, z3⟩
              rw [show (i : Int) = b by omega] at z3
              rw [z3] at q; cases q
        · rw [if_pos (by simp), if_pos rfl]
          simp only [reduceIte]
          exact ok_some ⟨rfl, fr_refl⟩
  unfold fX10_turned
  simp only [rd_eq, jn_eq]
  simp only [rd_eq, jn_eq] at main
  by_cases hq : who = 0
  · rw [if_neg (by omega), chk_of ⟨p0, by omega⟩, (hc.2 p p0 p1).1]
    rwa [show fromF K p who = K (13 + p) by rw [fromF, if_pos hq]] at main
  · rw [if_pos hq, chk_of ⟨p0, by omega⟩, (hc.2 p p0 p1).2.1]
    rwa [show fromF K p who = K (17 + p) by rw [fromF, if_neg hq]] at main
theorem m_goesTo {K : Int → Int} {c p who t : Int} {m : Mem} (hK : m 288 = K) (hV : CV c K) (c1 : c ≤ 1000000) (p0 : 0 ≤ p) (p1 : p < K 3) (q0 : 0 ≤ who) (q1 : who ≤ 1) (t0 : 0 ≤ t) (t4 : t ≤ 4) :
    Ok (fX12_goesTo p who (fromF K p who) t m) (fun r => r.1 = goF K p who t ∧ Fr [293, 294] m r.2) := by
  have hS := (curV_iff.mp hV.2).1 p p0 p1
  have hw := wide_of hV.1 p0 p1
  have ar := area_le hw.1.1 hw.1.2 hw.2.1 hw.2.2
  have h3 := hV.1.2.1
  have hh := (curV_iff.mp hV.2).2.2.2.2
  have hf : 0 ≤ fromF K p who ∧ fromF K p who < K 1 * K 2 := by unfold fromF; split <;> omega
  have hb := besF_rg (t := t) hw.1.1 hw.1.2 hw.2.1 hw.2.2 hf.1 hf.2
  unfold fX12_goesTo
  rw [m_turned hK hw.1.1 hw.1.2 hw.2.1 hw.2.2 hf.1 hf.2 t0 t4, bR_some]
  simp only [rd_eq, jn_eq, hK]
  unfold goF
  generalize hbe : besF (K 1) (K 2) (fromF K p who) t = b at *
  by_cases ht : t = 0
  · rw [if_pos ht]
    exact ok_some ⟨by rw [if_pos ht], fr_refl⟩
  · rw [if_neg ht, if_neg ht]
    by_cases hb1 : b = -1
    · rw [if_pos hb1, if_pos hb1]
      exact ok_some ⟨rfl, fr_refl⟩
    · rw [if_neg hb1, if_neg hb1, m_has (by omega) (by omega), bR_some]
      cases hr : tb (K 8) b.toNat
      · rw [if_neg (by simp), if_neg (by simp), w32_id (x := K 24 + 1) (by omega) (by omega)]
        refine ok_bW (m_mayGo hK hV.1 hV.2 p0 p1 q0 q1 (by omega) (show 0 ≤ b by omega) (by omega)) ?_
        rintro x m' ⟨hx, hF⟩
        simp only at hx hF
        subst hx
        cases q : mayF K p who b (K 24 + 1) with
        | true =>
          rw [if_neg (by simp)]
          exact ok_some ⟨by simp, hF⟩
        | false =>
          rw [if_pos (by simp)]
          exact ok_some ⟨by simp, hF⟩
      · rw [if_pos (by simp), if_pos rfl]
        exact ok_some ⟨rfl, fr_refl⟩
def whyF (K : Int → Int) (p t u : Int) : Int :=
  if ¬ (0 ≤ p ∧ p < K 3) then 1 else if ¬ (0 ≤ t ∧ t ≤ 4 ∧ 0 ≤ u ∧ u ≤ 4) then 1
  else if goF K p 0 t = -1 ∨ goF K p 1 u = -1 then 2
  else if tb (K 21) p.toNat = true ∨ apartF (K 1) (goF K p 0 t) (goF K p 1 u) ≤ lenF K p (K (25 + p)) (K 24 + 1) then 0 else 3
theorem whyF_p {K : Int → Int} {p t u : Int} (h : ¬ (0 ≤ p ∧ p < K 3)) : whyF K p t u = 1 := if_pos h
theorem whyF_t {K : Int → Int} {p t u : Int} (h : 0 ≤ p ∧ p < K 3) (h2 : ¬ (0 ≤ t ∧ t ≤ 4 ∧ 0 ≤ u ∧ u ≤ 4)) : whyF K p t u = 1 := by unfold whyF; rw [if_neg (fun q => q h), if_pos h2]
theorem whyF_2 {K : Int → Int} {p t u : Int} (h : 0 ≤ p ∧ p < K 3) (h2 : 0 ≤ t ∧ t ≤ 4 ∧ 0 ≤ u ∧ u ≤ 4) (h3 : goF K p 0 t = -1 ∨ goF K p 1 u = -1) : whyF K p t u = 2 := by unfold whyF; rw [if_neg (fun q => q h), if_neg (fun q => q h2), if_pos h3]
theorem whyF_0 {K : Int → Int} {p t u : Int} (h : 0 ≤ p ∧ p < K 3) (h2 : 0 ≤ t ∧ t ≤ 4 ∧ 0 ≤ u ∧ u ≤ 4) (h3 : goF K p 0 t ≠ -1) (h4 : goF K p 1 u ≠ -1) (h5 : tb (K 21) p.toNat = true ∨ apartF (K 1) (goF K p 0 t) (goF K p 1 u) ≤ lenF K p (K (25 + p)) (K 24 + 1)) : whyF K p t u = 0 := by
  unfold whyF; rw [if_neg (fun q => q h), if_neg (fun q => q h2), if_neg (fun q => q.elim h3 h4), if_pos h5]
theorem whyF_3 {K : Int → Int} {p t u : Int} (h : 0 ≤ p ∧ p < K 3) (h2 : 0 ≤ t ∧ t ≤ 4 ∧ 0 ≤ u ∧ u ≤ 4) (h3 : goF K p 0 t ≠ -1) (h4 : goF K p 1 u ≠ -1) (h5 : tb (K 21) p.toNat = false) (h6 : lenF K p (K (25 + p)) (K 24 + 1) < apartF (K 1) (goF K p 0 t) (goF K p 1 u)) : whyF K p t u = 3 := by
  unfold whyF; rw [if_neg (fun q => q h), if_neg (fun q => q h2), if_neg (fun q => q.elim h3 h4), if_neg (by rintro (q | q); (rw [h5] at q; cases q); omega)]
theorem c_whyNoStep {K : Int → Int} {c p t u : Int} {m : Mem} (hR : CR K m) (hV : CV c K) (c1 : c ≤ 1000000) : Ok (fX10_whyNoStep p t u m) (fun r => r.1 = whyF K p t u ∧ Fr [36, 37] m r.2) := by
  have h3 := hV.1.2.1
  have hh := (curV_iff.mp hV.2).2.2.2.2
  unfold fX10_whyNoStep
  simp only [rd_eq, jn_eq, show m 20 5 = K 3 from hR.1.1.2.2.2.2.2]
  by_cases hp : 0 ≤ p ∧ p < K 3
  · have hw := wide_of hV.1 hp.1 hp.2
    have ar := area_le hw.1.1 hw.1.2 hw.2.1 hw.2.2
    rw [if_neg (by omega), if_neg (by omega), if_pos (by omega)]
    by_cases htu : 0 ≤ t ∧ t ≤ 4 ∧ 0 ≤ u ∧ u ≤ 4
    · rw [if_neg (by omega), if_neg (by omega), if_neg (by omega), if_pos (by omega)]
      refine ok_bW (c_turned hR hV c1 hp.1 hp.2 (by decide) (by decide)) ?_
      rintro x1 m1 ⟨e1, F1⟩
      simp only at e1 F1
      subst e1
      refine ok_bW (c_turned (CR_fr2 hR F1) hV c1 hp.1 hp.2 (by decide) (by decide)) ?_
      rintro x2 m2 ⟨e2, F2⟩
      simp only at e2 F2
      subst e2
      have F := fr_trans F1 F2
      have hR2 := CR_fr2 hR F
      have g1 := goF_rg (who := 0) (t := t) hV hp.1 hp.2
      have g2 := goF_rg (who := 1) (t := u) hV hp.1 hp.2
      by_cases ha : goF K p 0 t = -1
      · rw [if_pos ha]
        exact ok_some ⟨(whyF_2 hp htu (.inl ha)).symm, F⟩
      · rw [if_neg ha]
        by_cases hb : goF K p 1 u = -1
        · rw [if_neg (by omega)]
          exact ok_some ⟨(whyF_2 hp htu (.inr hb)).symm, F⟩
        · rw [if_pos hb, c_isParted hR2 hp.1 (by omega), bR_some]
          cases hpt : tb (K 21) p.toNat
          · rw [if_neg (by simp), c_apart hR2.1 hw.1.1 hw.1.2 (by omega) (by omega) (by omega) (by omega), bR_some, (curR_iff.mp hR2.2).1.1, w32_id (x := K 24 + 1) (by omega) (by omega)]
            refine ok_bW (c_ropeIn hR2 hV hp.1 hp.2 (by omega)) ?_
            rintro x m' ⟨ex, hF⟩
            simp only at ex hF
            subst ex
            by_cases q : lenF K p (K (25 + p)) (K 24 + 1) < apartF (K 1) (goF K p 0 t) (goF K p 1 u)
            · rw [if_pos q]
              simp only [reduceIte]
              exact ok_some ⟨(whyF_3 hp htu ha hb hpt q).symm, fr_trans F hF⟩
            · rw [if_neg q]
              simp only [Int.reduceEq, reduceIte]
              exact ok_some ⟨(whyF_0 hp htu ha hb (.inr (by omega))).symm, fr_trans F hF⟩
          · rw [if_pos (by simp)]
            simp only [Int.reduceEq, reduceIte]
            exact ok_some ⟨(whyF_0 hp htu ha hb (.inl hpt)).symm, F⟩
    · have e := whyF_t hp htu
      repeat' split
      all_goals first | exact ok_some ⟨e.symm, fr_refl⟩ | (exfalso; omega)
  · have e := whyF_p (t := t) (u := u) hp
    by_cases h0 : p < 0
    · rw [if_pos h0]; exact ok_some ⟨e.symm, fr_refl⟩
    · rw [if_neg h0, if_pos (by omega)]; exact ok_some ⟨e.symm, fr_refl⟩
theorem m_isPair {K : Int → Int} {p : Int} {m : Mem} (hK : m 288 = K) (hI : IsV K) : fX12_isPair p m = some (if 0 ≤ p ∧ p < K 3 then 1 else 0) := by
  subst hK
  have h3 := hI.2.1
  unfold fX12_isPair
  simp only [rd_eq, m_within, bR_some]
  rw [w32_id (x := m 288 3 - 1) (by omega) (by omega)]
  by_cases h : 0 ≤ p ∧ p < m 288 3
  · rw [if_pos h, if_pos (by omega), chk_of (by simp)]
  · rw [if_neg h, if_neg (by omega), chk_of (by simp)]
theorem m_whyStep {K : Int → Int} {c p t u : Int} {m : Mem} (hK : m 288 = K) (hV : CV c K) (c1 : c ≤ 1000000) : Ok (fX12_whyStep p t u m) (fun r => r.1 = whyF K p t u ∧ Fr [293, 294] m r.2) := by
  have h3 := hV.1.2.1
  have hh := (curV_iff.mp hV.2).2.2.2.2
  unfold fX12_whyStep
  simp only [rd_eq, jn_eq, m_isPair hK hV.1, m_within, bR_some]
  by_cases hp : 0 ≤ p ∧ p < K 3
  · have hw := wide_of hV.1 hp.1 hp.2
    have ar := area_le hw.1.1 hw.1.2 hw.2.1 hw.2.2
    rw [if_pos hp, if_neg (by decide)]
    by_cases ht : 0 ≤ t ∧ t ≤ 4
    · rw [if_pos ht, if_neg (by decide)]
      by_cases hu : 0 ≤ u ∧ u ≤ 4
      · rw [if_pos hu, if_pos (by decide), w32_id (x := p) (by omega) (by omega), w32_id (x := t) (by omega) (by omega), w32_id (x := u) (by omega) (by omega), w32_id (x := 13 + p) (by omega) (by omega), w32_id (x := 17 + p) (by omega) (by omega), w32_id (x := 25 + p) (by omega) (by omega), chk_of (by omega), hK]
        have a1 := m_goesTo (who := 0) (t := t) hK hV c1 hp.1 hp.2 (by decide) (by decide) ht.1 ht.2
        rw [show fromF K p 0 = K (13 + p) from rfl] at a1
        refine ok_bW a1 ?_
        rintro x1 m1 ⟨e1, F1⟩
        simp only at e1 F1
        subst e1
        have hK1 : m1 288 = K := (F1 288 (by decide)).trans hK
        rw [chk_of (by omega), hK1]
        have a2 := m_goesTo (who := 1) (t := u) hK1 hV c1 hp.1 hp.2 (by decide) (by decide) hu.1 hu.2
        rw [show fromF K p 1 = K (17 + p) from rfl] at a2
        refine ok_bW a2 ?_
        rintro x2 m2 ⟨e2, F2⟩
        simp only at e2 F2
        subst e2
        have F := fr_trans F1 F2
        have hK2 : m2 288 = K := (F 288 (by decide)).trans hK
        have g1 := goF_rg (who := 0) (t := t) hV hp.1 hp.2
        have g2 := goF_rg (who := 1) (t := u) hV hp.1 hp.2
        by_cases ha : goF K p 0 t = -1
        · rw [if_pos ha]
          exact ok_some ⟨(whyF_2 hp ⟨ht.1, ht.2, hu.1, hu.2⟩ (.inl ha)).symm, F⟩
        · rw [if_neg ha]
          by_cases hb : goF K p 1 u = -1
          · rw [if_neg (by omega)]
            exact ok_some ⟨(whyF_2 hp ⟨ht.1, ht.2, hu.1, hu.2⟩ (.inr hb)).symm, F⟩
          · rw [if_pos hb, m_isParted hK2 hp.1 (by omega), bR_some]
            cases hpt : tb (K 21) p.toNat
            · rw [if_neg (by simp), m_apart hK2 hw.1.1 hw.1.2 (by omega) (by omega) (by omega) (by omega), bR_some, chk_of (by omega), hK2, w32_id (x := K 24 + 1) (by omega) (by omega)]
              have hr := hV.1.2.2.2.2.2.2.1 p hp.1 hp.2
              refine ok_bW (m_lengthIn hK2 hV.1 hV.2 hp.1 hp.2 (by omega) (by omega) (by omega)) ?_
              rintro x m' ⟨ex, hF⟩
              simp only at ex hF
              subst ex
              by_cases q : lenF K p (K (25 + p)) (K 24 + 1) < apartF (K 1) (goF K p 0 t) (goF K p 1 u)
              · rw [if_pos q]
                exact ok_some ⟨(whyF_3 hp ⟨ht.1, ht.2, hu.1, hu.2⟩ ha hb hpt q).symm, fr_trans F hF⟩
              · rw [if_neg q]
                exact ok_some ⟨(whyF_0 hp ⟨ht.1, ht.2, hu.1, hu.2⟩ ha hb (.inr (by omega))).symm, fr_trans F hF⟩
            · rw [if_pos (by simp)]
              exact ok_some ⟨(whyF_0 hp ⟨ht.1, ht.2, hu.1, hu.2⟩ ha hb (.inl hpt)).symm, F⟩
      · rw [if_neg hu, if_neg (by decide)]
        exact ok_some ⟨(whyF_t hp (by omega)).symm, fr_refl⟩
    · rw [if_neg ht, if_pos rfl]
      exact ok_some ⟨(whyF_t hp (by omega)).symm, fr_refl⟩
  · rw [if_neg hp, if_pos rfl]
    exact ok_some ⟨(whyF_p hp).symm, fr_refl⟩

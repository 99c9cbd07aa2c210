/-! ===== D50: the class's step of a place of both ===== -/
theorem c_holds {K : Int → Int} {p rope rocks h j k : Int} {tied : Bool} {m : Mem} (w2 : 2 ≤ K 1) (w5 : K 1 ≤ 5) (v2 : 2 ≤ K 2) (v5 : K 2 ≤ 5) (hA : AhR K p rope tied rocks m) (h1 : 1 ≤ h) (h40 : h ≤ 40) (hh : h ≤ m 18 17) (j0 : 0 ≤ j) (j1 : j < K 1 * K 2) (k0 : 0 ≤ k) (k1 : k < K 1 * K 2) :
    fX0_holds j k h m = some (if apartF (K 1) j k ≤ tethC K p rope tied h then 1 else 0) := by
  have ar := area_le w2 w5 v2 v5
  obtain ⟨_, hN, _, _, _, _, y2⟩ := hA
  have e80 := y2 h h1 hh
  have tr := tethC_rg (K := K) (p := p) (rope := rope) (i := h) (tied := tied)
  have B := (hN.2 _ j tr.1 tr.2 j0 j1).2 k.toNat (by omega)
  simp only at B
  rw [Int.toNat_of_nonneg k0] at B
  unfold fX0_holds
  simp only [rd_eq, jn_eq]
  rw [chk_of (by omega), e80, w32_id (x := tethC K p rope tied h * 25) (by omega) (by omega), w32_id (by omega) (by omega), chk_of (by omega), show tethC K p rope tied h * 25 + j = 25 * tethC K p rope tied h + j by omega, bit_ui _ k0 (by omega)]
  by_cases q : apartF (K 1) j k ≤ tethC K p rope tied h
  · rw [if_pos (B.mpr ⟨k1, q⟩), if_neg (by decide), if_pos q, chk_of (by simp)]
  · rw [if_neg (fun z => q (B.mp z).2), if_pos rfl, if_neg q, chk_of (by simp)]
theorem row_skip {K : Int → Int} {p rope rocks h w v b : Int} {tied : Bool} {nx : Int → Int} {t : Nat} (hno : ∀ s : Nat, s < 5 → ¬ (bothF K p rope tied rocks h b ((5 * t + s : Nat) : Int) ≠ -1 ∧ (w = -1 ∨ bothF K p rope tied rocks h b ((5 * t + s : Nat) : Int) / 25 = w))) :
    rowT K p rope tied rocks h w v b nx (5 * t + 5) = rowT K p rope tied rocks h w v b nx (5 * t) := by
  have one : ∀ s : Nat, s < 5 → rowT K p rope tied rocks h w v b nx (5 * t + s + 1) = rowT K p rope tied rocks h w v b nx (5 * t + s) := fun s hs => if_neg (hno s hs)
  rw [show 5 * t + 5 = 5 * t + 4 + 1 from rfl, one 4 (by omega), show 5 * t + 4 = 5 * t + 3 + 1 from rfl, one 3 (by omega), show 5 * t + 3 = 5 * t + 2 + 1 from rfl, one 2 (by omega), show 5 * t + 2 = 5 * t + 1 + 1 from rfl, one 1 (by omega)]
  exact one 0 (by omega)
theorem c_push {K : Int → Int} {c p rope rocks j k h w : Int} {tied : Bool} {a b : Nat} {m : Mem} (hR : CR K m) (hV : CV c K) (p0 : 0 ≤ p) (p1 : p < K 3) (hA : AhR K p rope tied rocks m) (h1 : 1 ≤ h) (h40 : h ≤ 40) (h16 : h ≤ m 18 16) (h17 : h ≤ m 18 17)
    (ea : m 96 0 = (a : Int)) (eb : m 96 1 = (b : Int)) (hab : (a = 97 ∧ b = 98) ∨ (a = 98 ∧ b = 97)) (j0 : 0 ≤ j) (j1 : j < K 1 * K 2) (k0 : 0 ≤ k) (k1 : k < K 1 * K 2) :
    Ok (fX7_push j k h w m) (fun m' => (∀ q, 0 ≤ q → q < 625 → m' b q = rowT K p rope tied rocks h w (m a (25 * j + k)) (25 * j + k) (m b) 25 q) ∧ Fr [99, b] m m') := by
  have hw := wide_of hV.1 p0 p1
  have ar := area_le hw.1.1 hw.1.2 hw.2.1 hw.2.2
  have la : layL[a]? = some (.inr (1, 625)) ∧ layL[b]? = some (.inr (1, 625)) := by
    rcases hab with ⟨rfl, rfl⟩ | ⟨rfl, rfl⟩ <;> exact ⟨by decide +kernel, by decide +kernel⟩
  unfold fX7_push
  simp only [rd_eq, wr_eq, jn_eq, rdn_eq]
  rw [ea, Int.toNat_natCast, chk_of la.1, w32_id (x := j * 25) (by omega) (by omega), w32_id (x := j * 25 + k) (by omega) (by omega), chk_of (by omega), show j * 25 + k = 25 * j + k by omega]
  refine lp_for 5 (fun t mm => 0 ≤ t ∧ (∀ s, 0 ≤ s → s < t → mm 99 s = oneF K p rocks h 1 k s) ∧ Fr [99] m mm) ⟨by omega, fun s _ _ => by omega, fr_refl⟩ (by omega) (by omega) ?_ ?_
  · rintro G t mm ht ⟨t0, hs, hF⟩ ih
    have hAm : AhR K p rope tied rocks mm := AhR_fr hA (hF 18 (by decide)) (hF 78 (by decide)) (hF 79 (by decide)) (hF 80 (by decide)) (hF 81 (by decide))
    have hRm : CR K mm := CR_fr hR (fun o z1 z2 => hF o (by simp; omega))
    rw [if_neg (by omega), c_landing hRm hw.1.1 hw.1.2 hw.2.1 hw.2.2 hAm (by rw [hF 18 (by decide)]; exact h16) h1 (by decide) (by decide) k0 k1, bR_some, chk_of (by omega), w32_id (by omega) (by omega)]
    refine ih _ ⟨by omega, fun s s0 s1 => ?_, fr_up (by simp) hF⟩
    by_cases e : s = t
    · subst e; rw [up_same]
    · rw [up_idx e]; exact hs s s0 (by omega)
  rintro G m1 ⟨_, hs, F1⟩
  rw [if_pos (by decide)]
  have hb99 : b ≠ 99 ∧ b ≠ 18 ∧ b ≠ 78 ∧ b ≠ 79 ∧ b ≠ 80 ∧ b ≠ 81 ∧ b ≠ 96 := by omega
  refine lp_for 5 (fun t mm => 0 ≤ t ∧ (∀ q, 0 ≤ q → q < 625 → mm b q = rowT K p rope tied rocks h w (m a (25 * j + k)) (25 * j + k) (m b) (5 * t.toNat) q) ∧ Fr [b] m1 mm) ⟨by omega, fun q _ _ => by rw [F1 b (by simp; omega)]; rfl, fr_refl⟩ (by omega) (by omega) ?_ ?_
  · rintro G1 t mm ht ⟨t0, hn, hF⟩ ih
    have F2 : Fr [99, b] m mm := fr_trans (fr_mono' F1 (by simp)) (fr_mono' hF (by simp))
    have hAm : AhR K p rope tied rocks mm := AhR_fr hA (F2 18 (by simp; omega)) (F2 78 (by simp; omega)) (F2 79 (by simp; omega)) (F2 80 (by simp; omega)) (F2 81 (by simp; omega))
    have hRm : CR K mm := CR_fr hR (fun o z1 z2 => F2 o (by simp; omega))
    rw [if_neg (by omega), c_landing hRm hw.1.1 hw.1.2 hw.2.1 hw.2.2 hAm (by rw [F2 18 (by simp; omega)]; exact h16) h1 (by decide) (by decide) j0 j1, bR_some]
    have r1 := oneF_rg (K := K) (p := p) (rocks := rocks) (n := h) (who := 0) (j := j) (t := t) hw.1.1 hw.1.2 hw.2.1 hw.2.2
    have bf : ∀ s : Int, 0 ≤ s → s < 5 → bothF K p rope tied rocks h (25 * j + k) (5 * t + s) = (if oneF K p rocks h 0 j t = -1 then -1 else if oneF K p rocks h 1 k s = -1 then -1 else if apartF (K 1) (oneF K p rocks h 0 j t) (oneF K p rocks h 1 k s) ≤ ropeF K p rope tied h then 25 * oneF K p rocks h 0 j t + oneF K p rocks h 1 k s else -1) := by
      intro s s0 s5
      unfold bothF
      rw [show (25 * j + k) / 25 = j by omega, show (25 * j + k) % 25 = k by omega, show (5 * t + s) / 5 = t by omega, show (5 * t + s) % 5 = s by omega]
    have e5 : 5 * (t + 1).toNat = 5 * t.toNat + 5 := by omega
    have skip : (∀ s : Int, 0 ≤ s → s < 5 → ¬ (bothF K p rope tied rocks h (25 * j + k) (5 * t + s) ≠ -1 ∧ (w = -1 ∨ bothF K p rope tied rocks h (25 * j + k) (5 * t + s) / 25 = w))) → Ok (G1 (t + 1) mm) (fun m' => (∀ q, 0 ≤ q → q < 625 → m' b q = rowT K p rope tied rocks h w (m a (25 * j + k)) (25 * j + k) (m b) 25 q) ∧ Fr [99, b] m m') := by
      intro hno
      refine ih _ ⟨by omega, fun q q0 q1 => ?_, hF⟩
      rw [e5, row_skip (fun s hs => by have := hno (s : Int) (by omega) (by omega); rw [show ((5 * t.toNat + s : Nat) : Int) = 5 * t + s by omega]; exact this)]
      exact hn q q0 q1
    generalize hx : oneF K p rocks h 0 j t = x at *
    have yes : x ≠ -1 → (w = -1 ∨ x = w) → Ok (lp BIG (fun K11 (t10 : Int) mm => (if 5 ≤ t10 then G1 (w32 (t + 1)) mm else (if (1 : Int) = 0 then G1 (w32 (t + 1)) mm else chk ((0 : Int) ≤ t10 ∧ t10 < ((5 : Nat) : Int)) (if mm 99 t10 = -1 then K11 (w32 (t10 + 1)) mm else chk ((0 : Int) ≤ t10 ∧ t10 < ((5 : Nat) : Int)) (bR (fX0_holds x (mm 99 t10) h mm) fun x18 => (if x18 = (0 : Int) then K11 (w32 (t10 + 1)) mm else chk (layL[(mm 96 1).toNat]? = some (.inr (1, 625))) (chk ((0 : Int) ≤ t10 ∧ t10 < ((5 : Nat) : Int)) (chk ((0 : Int) ≤ w32 (w32 (x * 25) + mm 99 t10) ∧ w32 (w32 (x * 25) + mm 99 t10) < ((625 : Nat) : Int)) (chk ((0 : Int) ≤ w32 (w32 (x * 25) + mm 99 t10) ∧ w32 (w32 (x * 25) + mm 99 t10) < ((625 : Nat) : Int)) (K11 (w32 (t10 + 1)) (up mm (mm 96 1).toNat (w32 (w32 (x * 25) + mm 99 t10)) (w64 (mm (mm 96 1).toNat (w32 (w32 (x * 25) + mm 99 t10)) + m a (25 * j + k)))))))))))))) 0 mm) (fun m' => (∀ q, 0 ≤ q → q < 625 → m' b q = rowT K p rope tied rocks h w (m a (25 * j + k)) (25 * j + k) (m b) 25 q) ∧ Fr [99, b] m m') := by
      intro hx1 hwx
      refine lp_for 5 (fun s m3 => 0 ≤ s ∧ (∀ q, 0 ≤ q → q < 625 → m3 b q = rowT K p rope tied rocks h w (m a (25 * j + k)) (25 * j + k) (m b) (5 * t.toNat + s.toNat) q) ∧ Fr [b] m1 m3) ⟨by omega, hn, hF⟩ (by omega) (by omega) ?_ ?_
      · rintro G2 s m3 hs5 ⟨s0, hn3, hF3⟩ ih2
        have F3 : Fr [99, b] m m3 := fr_trans (fr_mono' F1 (by simp)) (fr_mono' hF3 (by simp))
        have hA3 : AhR K p rope tied rocks m3 := AhR_fr hA (F3 18 (by simp; omega)) (F3 78 (by simp; omega)) (F3 79 (by simp; omega)) (F3 80 (by simp; omega)) (F3 81 (by simp; omega))
        have e99 : m3 99 s = oneF K p rocks h 1 k s := by rw [hF3 99 (by simp; omega)]; exact hs s s0 hs5
        have r2 := oneF_rg (K := K) (p := p) (rocks := rocks) (n := h) (who := 1) (j := k) (t := s) hw.1.1 hw.1.2 hw.2.1 hw.2.2
        have bs := bf s s0 hs5
        have erow : rowT K p rope tied rocks h w (m a (25 * j + k)) (25 * j + k) (m b) (5 * t.toNat + (s + 1).toNat) = stT K p rope tied rocks h w (m a (25 * j + k)) (25 * j + k) (5 * t + s) (rowT K p rope tied rocks h w (m a (25 * j + k)) (25 * j + k) (m b) (5 * t.toNat + s.toNat)) := by
          rw [show 5 * t.toNat + (s + 1).toNat = 5 * t.toNat + s.toNat + 1 by omega]
          show stT K p rope tied rocks h w (m a (25 * j + k)) (25 * j + k) ((5 * t.toNat + s.toNat : Nat) : Int) _ = _
          rw [show ((5 * t.toNat + s.toNat : Nat) : Int) = 5 * t + s by omega]
        unfold stT at erow
        rw [if_neg (by omega), if_neg (by decide), chk_of (by omega), e99, w32_id (x := s + 1) (by omega) (by omega)]
        generalize oneF K p rocks h 1 k s = y at *
        rw [if_neg hx1] at bs
        by_cases hy : y = -1
        · rw [if_pos hy] at bs
          rw [if_pos hy]
          refine ih2 _ ⟨by omega, fun q q0 q1 => ?_, hF3⟩
          rw [erow, if_neg (fun z => z.1 bs)]; exact hn3 q q0 q1
        · rw [if_neg hy] at bs
          have ap8 := apartF_8 hw.1.1 hw.1.2 hw.2.1 hw.2.2 (show 0 ≤ x by omega) (show x < K 1 * K 2 by omega) (show 0 ≤ y by omega) (show y < K 1 * K 2 by omega)
          rw [if_neg hy, chk_of (by omega), c_holds hw.1.1 hw.1.2 hw.2.1 hw.2.2 hA3 h1 h40 (by rw [F3 18 (by simp; omega)]; exact h17) (by omega) (by omega) (by omega) (by omega), bR_some]
          by_cases hq : apartF (K 1) x y ≤ tethC K p rope tied h
          · rw [if_pos ((rope_teth ap8).mpr hq)] at bs
            rw [if_pos hq, if_neg (by decide), F3 96 (by simp; omega), eb, Int.toNat_natCast, chk_of la.2, chk_of (by omega), w32_id (x := x * 25) (by omega) (by omega), w32_id (x := x * 25 + y) (by omega) (by omega), chk_of (by omega), chk_of (by omega)]
            refine ih2 _ ⟨by omega, fun q q0 q1 => ?_, fr_up (by simp) hF3⟩
            rw [erow, bs, if_pos ⟨by omega, by omega⟩, up_row, show x * 25 + y = 25 * x + y by omega]
            by_cases e : q = 25 * x + y
            · subst e; rw [ku_at, ku_at, hn3 _ q0 q1]
            · rw [ku_ne e, ku_ne e]; exact hn3 q q0 q1
          · rw [if_neg (fun z => hq ((rope_teth ap8).mp z))] at bs
            rw [if_neg hq, if_pos rfl]
            refine ih2 _ ⟨by omega, fun q q0 q1 => ?_, hF3⟩
            rw [erow, if_neg (fun z => z.1 bs)]; exact hn3 q q0 q1
      · rintro G2 m3 ⟨_, hn3, hF3⟩
        rw [if_pos (by decide), w32_id (by omega) (by omega)]
        exact ih _ ⟨by omega, fun q q0 q1 => by rw [e5]; exact hn3 q q0 q1, hF3⟩
    by_cases hx1 : x = -1
    · rw [if_pos hx1]
      refine lp_ok (fun (i : Int) (m3 : Mem) => i = 0 ∧ m3 = mm) (fun _ _ => 0) ⟨rfl, rfl⟩ (by decide) ?_
      rintro G3 i m3 ⟨rfl, rfl⟩ _
      rw [if_neg (by decide), if_pos trivial, w32_id (by omega) (by omega)]
      exact skip (fun s s0 s5 z => z.1 (by rw [bf s s0 s5, if_pos hx1]))
    · rw [if_neg hx1]
      by_cases hw1 : w = -1
      · rw [if_pos hw1]; exact yes hx1 (.inl hw1)
      · rw [if_neg hw1]
        by_cases hxw : x = w
        · rw [if_neg (fun z => z hxw)]; exact yes hx1 (.inr hxw)
        · rw [if_pos hxw]
          refine lp_ok (fun (i : Int) (m3 : Mem) => i = 0 ∧ m3 = mm) (fun _ _ => 0) ⟨rfl, rfl⟩ (by decide) ?_
          rintro G3 i m3 ⟨rfl, rfl⟩ _
          rw [if_neg (by decide), if_pos trivial, w32_id (by omega) (by omega)]
          refine skip (fun s s0 s5 z => ?_)
          have r2 := oneF_rg (K := K) (p := p) (rocks := rocks) (n := h) (who := 1) (j := k) (t := s) hw.1.1 hw.1.2 hw.2.1 hw.2.2
          have bs := bf s s0 s5
          rw [if_neg hx1] at bs
          generalize oneF K p rocks h 1 k s = y at *
          by_cases hy : y = -1
          · rw [if_pos hy] at bs; exact z.1 bs
          · rw [if_neg hy] at bs
            by_cases hq : apartF (K 1) x y ≤ ropeF K p rope tied h
            · rw [if_pos hq] at bs
              rw [bs] at z
              rcases z.2 with z | z
              · exact hw1 z
              · omega
            · rw [if_neg hq] at bs; exact z.1 bs
  · rintro G1 mm ⟨_, hn, hF⟩
    rw [if_pos (by decide)]
    exact ok_some ⟨hn, fr_trans (fr_mono' F1 (by simp)) (fr_mono' hF (by simp))⟩

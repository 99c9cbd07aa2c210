/-! ===== D49: ways counted, hour for hour ===== -/
def stT (K : Int → Int) (p rope : Int) (tied : Bool) (rocks h w v b i : Int) (nx : Int → Int) : Int → Int :=
  if bothF K p rope tied rocks h b i ≠ -1 ∧ (w = -1 ∨ bothF K p rope tied rocks h b i / 25 = w) then ku nx (bothF K p rope tied rocks h b i) (w64 (nx (bothF K p rope tied rocks h b i) + v)) else nx
def rowT (K : Int → Int) (p rope : Int) (tied : Bool) (rocks h w v b : Int) (nx : Int → Int) : Nat → Int → Int
  | 0 => nx
  | i + 1 => stT K p rope tied rocks h w v b i (rowT K p rope tied rocks h w v b nx i)
def allT (K : Int → Int) (p rope : Int) (tied : Bool) (rocks h w : Int) (f : Int → Int) : Nat → Int → Int
  | 0 => fun _ => 0
  | b + 1 => if f b ≤ 0 then allT K p rope tied rocks h w f b else rowT K p rope tied rocks h w (f b) b (allT K p rope tied rocks h w f b) 25
theorem bothF_rg {K : Int → Int} {p rope rocks h b i : Int} {tied : Bool} (w2 : 2 ≤ K 1) (w5 : K 1 ≤ 5) (v2 : 2 ≤ K 2) (v5 : K 2 ≤ 5) : bothF K p rope tied rocks h b i = -1 ∨ (0 ≤ bothF K p rope tied rocks h b i ∧ bothF K p rope tied rocks h b i < 625) := by
  have ar := area_le w2 w5 v2 v5
  have g1 := oneF_rg (K := K) (p := p) (rocks := rocks) (n := h) (who := 0) (j := b / 25) (t := i / 5) w2 w5 v2 v5
  have g2 := oneF_rg (K := K) (p := p) (rocks := rocks) (n := h) (who := 1) (j := b % 25) (t := i % 5) w2 w5 v2 v5
  unfold bothF
  repeat' split
  all_goals omega
theorem m_countsOn {K : Int → Int} {p rope rocks h w : Int} {tied : Bool} {m : Mem} (w2 : 2 ≤ K 1) (w5 : K 1 ≤ 5) (v2 : 2 ≤ K 2) (v5 : K 2 ≤ 5) (hL : LaidR K p rope tied m) (hr : m 287 28 = rocks) (h1 : 1 ≤ h) (h40 : h ≤ 40) :
    Ok (fX12_countsOn h w m) (fun m' => (∀ q, 0 ≤ q → q < 625 → m' 303 q = allT K p rope tied rocks h w (m 303) 625 q) ∧ Fr [303, 304] m m') := by
  unfold fX12_countsOn
  simp only [rd_eq, wr_eq, jn_eq]
  refine lp_for 625 (fun i mm => 0 ≤ i ∧ (∀ q, 0 ≤ q → q < i → mm 304 q = 0) ∧ Fr [304] m mm) ⟨by omega, fun q _ _ => by omega, fr_refl⟩ (by omega) (by omega) ?_ ?_
  · rintro G i mm hi ⟨i0, hz, hF⟩ ih
    rw [if_neg (by omega), chk_of (by omega), w32_id (x := i + 1) (by omega) (by omega)]
    refine ih _ ⟨by omega, fun q q0 q1 => ?_, fr_up (by simp) hF⟩
    by_cases e : q = i
    · subst e; rw [up_same]
    · rw [up_idx e]; exact hz q q0 (by omega)
  rintro G m1 ⟨_, hz, F1⟩
  rw [if_pos (by decide)]
  -- the places of both, one behind the other
  refine lp_for 625 (fun b mm => 0 ≤ b ∧ (∀ q, 0 ≤ q → q < 625 → mm 304 q = allT K p rope tied rocks h w (m 303) b.toNat q) ∧ Fr [304] m mm) ⟨by omega, fun q q0 q1 => hz q q0 q1, F1⟩ (by omega) (by omega) ?_ ?_
  · rintro G1 b mm hb ⟨b0, hn, hF⟩ ih
    have e303 : mm 303 = m 303 := hF 303 (by decide)
    rw [if_neg (by omega)]
    have eb : (b + 1).toNat = b.toNat + 1 := by omega
    have ebb : ((b.toNat : Nat) : Int) = b := Int.toNat_of_nonneg b0
    have hall : allT K p rope tied rocks h w (m 303) (b + 1).toNat = if m 303 b ≤ 0 then allT K p rope tied rocks h w (m 303) b.toNat else rowT K p rope tied rocks h w (m 303 b) b (allT K p rope tied rocks h w (m 303) b.toNat) 25 := by
      rw [eb]
      show (if m 303 ((b.toNat : Nat) : Int) ≤ 0 then _ else rowT K p rope tied rocks h w (m 303 ((b.toNat : Nat) : Int)) ((b.toNat : Nat) : Int) _ 25) = _
      rw [ebb]
    refine lp_for 25 (fun i m3 => 0 ≤ i ∧ (0 < i → 0 < m 303 b) ∧ (∀ q, 0 ≤ q → q < 625 → m3 304 q = rowT K p rope tied rocks h w (m 303 b) b (allT K p rope tied rocks h w (m 303) b.toNat) i.toNat q) ∧ Fr [304] m m3) ⟨by omega, fun z => by omega, hn, hF⟩ (by omega) (by omega) ?_ ?_
    · rintro G2 i m3 hi ⟨i0, hp, hn3, hF3⟩ ih2
      have e3 : m3 303 = m 303 := hF3 303 (by decide)
      rw [if_neg (by omega), chk_of (by omega), e3]
      by_cases hv : m 303 b ≤ 0
      · rw [if_pos hv, w32_id (x := b + 1) (by omega) (by omega)]
        refine ih _ ⟨by omega, fun q q0 q1 => ?_, hF3⟩
        have i00 : i = 0 := by
          by_cases z : 0 < i
          · have := hp z; omega
          · omega
        subst i00
        rw [hall, if_pos hv]
        exact hn3 q q0 q1
      · rw [if_neg hv, m_turnsOf i0 hi, bR_some, m_bothIn (rocks := rocks) w2 w5 v2 v5 (laid_fr hL (hF3 296 (by decide)) (hF3 299 (by decide)) (hF3 300 (by decide))) (by rw [hF3 287 (by decide)]; exact hr) h1 h40 b0 hb i0 hi, bR_some, w32_id (x := i + 1) (by omega) (by omega)]
        have ei : (i + 1).toNat = i.toNat + 1 := by omega
        have eii : ((i.toNat : Nat) : Int) = i := Int.toNat_of_nonneg i0
        have hrow : rowT K p rope tied rocks h w (m 303 b) b (allT K p rope tied rocks h w (m 303) b.toNat) (i + 1).toNat = stT K p rope tied rocks h w (m 303 b) b i (rowT K p rope tied rocks h w (m 303 b) b (allT K p rope tied rocks h w (m 303) b.toNat) i.toNat) := by
          rw [ei]
          show stT K p rope tied rocks h w (m 303 b) b ((i.toNat : Nat) : Int) _ = _
          rw [eii]
        have rg := bothF_rg (K := K) (p := p) (rope := rope) (tied := tied) (rocks := rocks) (h := h) (b := b) (i := i) w2 w5 v2 v5
        unfold stT at hrow
        generalize bothF K p rope tied rocks h b i = x at *
        have no : ¬ (x ≠ -1 ∧ (w = -1 ∨ x / 25 = w)) → Ok (G2 (i + 1) m3) (fun m' => (∀ q, 0 ≤ q → q < 625 → m' 303 q = allT K p rope tied rocks h w (m 303) 625 q) ∧ Fr [303, 304] m m') := fun z => ih2 _ ⟨by omega, fun _ => by omega, fun q q0 q1 => by rw [hrow, if_neg z]; exact hn3 q q0 q1, hF3⟩
        by_cases hx : x = -1
        · rw [if_pos hx]; exact no (fun z => z.1 hx)
        · rw [if_neg hx]
          have yes : (w = -1 ∨ x / 25 = w) → Ok (G2 (i + 1) (up m3 304 x (w64 (m3 304 x + m 303 b)))) (fun m' => (∀ q, 0 ≤ q → q < 625 → m' 303 q = allT K p rope tied rocks h w (m 303) 625 q) ∧ Fr [303, 304] m m') := by
            intro z
            refine ih2 _ ⟨by omega, fun _ => by omega, fun q q0 q1 => ?_, fr_up (by simp) hF3⟩
            rw [hrow, if_pos ⟨hx, z⟩, up_row]
            by_cases e : q = x
            · subst e; rw [ku_at, ku_at, hn3 q q0 q1]
            · rw [ku_ne e, ku_ne e]; exact hn3 q q0 q1
          rw [tdiv_e 25 (by omega)]
          by_cases hw : w = -1
          · rw [if_pos hw, chk_of (by omega), chk_of (by omega), chk_of (by omega)]
            exact yes (.inl hw)
          · rw [if_neg hw]
            by_cases hq : w = x / 25
            · rw [if_neg (fun z => z hq), chk_of (by omega), chk_of (by omega), chk_of (by omega)]
              exact yes (.inr hq.symm)
            · rw [if_pos hq]; exact no (fun z => by omega)
    · rintro G2 m3 ⟨_, hp, hn3, hF3⟩
      rw [if_pos (by decide), w32_id (x := b + 1) (by omega) (by omega)]
      refine ih _ ⟨by omega, fun q q0 q1 => ?_, hF3⟩
      have := hp (by decide)
      rw [hall, if_neg (by omega)]
      exact hn3 q q0 q1
  rintro G1 m2 ⟨_, hn, F2⟩
  rw [if_pos (by decide)]
  refine lp_for 625 (fun i mm => 0 ≤ i ∧ (∀ q, 0 ≤ q → q < i → mm 303 q = allT K p rope tied rocks h w (m 303) 625 q) ∧ mm 304 = m2 304 ∧ Fr [303, 304] m mm) ⟨by omega, fun q _ _ => by omega, rfl, fr_mono' F2 (by decide)⟩ (by omega) (by omega) ?_ ?_
  · rintro G3 i mm hi ⟨i0, hc, h4, hF⟩ ih
    rw [if_neg (by omega), chk_of (by omega), w32_id (x := i + 1) (by omega) (by omega), chk_of (by omega)]
    refine ih _ ⟨by omega, fun q q0 q1 => ?_, (up_cell (by decide)).trans h4, fr_up (by simp) hF⟩
    by_cases e : q = i
    · subst e; rw [up_same, h4]; exact hn q q0 (by omega)
    · rw [up_idx e]; exact hc q q0 (by omega)
  · rintro G3 mm ⟨_, hc, _, hF⟩
    rw [if_pos (by decide)]
    exact ok_some ⟨hc, hF⟩

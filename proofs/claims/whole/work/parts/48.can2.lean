/-! ===== D28: the model's steps of both, the table filled ===== -/
def oneF (K : Int → Int) (p rocks n who j t : Int) : Int :=
  if t = 0 then entF K p n who j t else if entF K p n who j t = -1 then -1 else if tb rocks (entF K p n who j t).toNat then -1 else entF K p n who j t
def bothF (K : Int → Int) (p rope : Int) (tied : Bool) (rocks n b i : Int) : Int :=
  if oneF K p rocks n 0 (b / 25) (i / 5) = -1 then -1 else if oneF K p rocks n 1 (b % 25) (i % 5) = -1 then -1
  else if apartF (K 1) (oneF K p rocks n 0 (b / 25) (i / 5)) (oneF K p rocks n 1 (b % 25) (i % 5)) ≤ ropeF K p rope tied n then 25 * oneF K p rocks n 0 (b / 25) (i / 5) + oneF K p rocks n 1 (b % 25) (i % 5) else -1
theorem entF_rg {K : Int → Int} {p n who j t : Int} (w2 : 2 ≤ K 1) (w5 : K 1 ≤ 5) (v2 : 2 ≤ K 2) (v5 : K 2 ≤ 5) : entF K p n who j t = -1 ∨ (0 ≤ entF K p n who j t ∧ entF K p n who j t < K 1 * K 2) := by
  unfold entF
  split
  · rename_i h
    have := besF_rg (t := t) w2 w5 v2 v5 h.1 h.2
    repeat' split
    all_goals omega
  · exact .inl rfl
theorem oneF_rg {K : Int → Int} {p rocks n who j t : Int} (w2 : 2 ≤ K 1) (w5 : K 1 ≤ 5) (v2 : 2 ≤ K 2) (v5 : K 2 ≤ 5) : oneF K p rocks n who j t = -1 ∨ (0 ≤ oneF K p rocks n who j t ∧ oneF K p rocks n who j t < K 1 * K 2) := by
  have := entF_rg (K := K) (p := p) (n := n) (who := who) (j := j) (t := t) w2 w5 v2 v5
  unfold oneF
  repeat' split
  all_goals omega
theorem m_oneIn {K : Int → Int} {p rope rocks n who j t : Int} {tied : Bool} {m : Mem} (w2 : 2 ≤ K 1) (w5 : K 1 ≤ 5) (v2 : 2 ≤ K 2) (v5 : K 2 ≤ 5) (hL : LaidR K p rope tied m) (hr : m 287 28 = rocks) (n1 : 1 ≤ n) (n40 : n ≤ 40) (q0 : 0 ≤ who) (q1 : who ≤ 1) (j0 : 0 ≤ j) (j1 : j < 25) (t0 : 0 ≤ t) (t4 : t ≤ 4) :
    fX12_oneIn n who j t m = some (oneF K p rocks n who j t) := by
  have ar := area_le w2 w5 v2 v5
  have := (hL.1 n n1 n40).2 (125 * who + 5 * j + t) (by omega) (by omega)
  rw [show (125 * who + 5 * j + t) / 125 = who by omega, show (125 * who + 5 * j + t) / 5 % 25 = j by omega, show (125 * who + 5 * j + t) % 5 = t by omega] at this
  have eg := entF_rg (K := K) (p := p) (n := n) (who := who) (j := j) (t := t) w2 w5 v2 v5
  unfold fX12_oneIn oneF
  simp only [rd_eq, jn_eq]
  rw [w32_id (x := 250 * n) (by omega) (by omega), w32_id (x := 125 * who) (by omega) (by omega), w32_id (x := 5 * j) (by omega) (by omega), w32_id (x := 250 * n + 125 * who) (by omega) (by omega), w32_id (x := 250 * n + 125 * who + 5 * j) (by omega) (by omega), w32_id (x := 250 * n + 125 * who + 5 * j + t) (by omega) (by omega), chk_of (by omega), show 250 * n + 125 * who + 5 * j + t = 250 * n + (125 * who + 5 * j + t) by omega, this, hr]
  generalize entF K p n who j t = e at *
  by_cases ht : t = 0
  · rw [if_pos ht, if_pos ht]
  · rw [if_neg ht, if_neg ht]
    by_cases he : e = -1
    · rw [if_pos he, if_pos he]
    · rw [if_neg he, if_neg he, m_has (by omega) (by omega), bR_some]
      cases tb rocks e.toNat
      · rw [if_neg (by simp), if_neg (by simp)]
      · rw [if_pos (by simp), if_pos rfl]
theorem m_turnsOf {i : Int} {m : Mem} (i0 : 0 ≤ i) (i1 : i < 25) : fX12_turnsOf i m = some (i / 5 * 10 + i % 5) := by
  unfold fX12_turnsOf
  rw [tdiv_e 5 i0, tmod_e 5 i0, w32_id (x := i / 5 * 10) (by omega) (by omega), w32_id (by omega) (by omega)]
theorem m_bothIn {K : Int → Int} {p rope rocks n b i : Int} {tied : Bool} {m : Mem} (w2 : 2 ≤ K 1) (w5 : K 1 ≤ 5) (v2 : 2 ≤ K 2) (v5 : K 2 ≤ 5) (hL : LaidR K p rope tied m) (hr : m 287 28 = rocks) (n1 : 1 ≤ n) (n40 : n ≤ 40) (b0 : 0 ≤ b) (b1 : b < 625) (i0 : 0 ≤ i) (i1 : i < 25) :
    fX12_bothIn n b (i / 5 * 10 + i % 5) m = some (bothF K p rope tied rocks n b i) := by
  have ar := area_le w2 w5 v2 v5
  unfold fX12_bothIn bothF
  simp only [rd_eq, jn_eq]
  rw [tdiv_e 25 b0, tmod_e 25 b0, tdiv_e 10 (show 0 ≤ i / 5 * 10 + i % 5 by omega), tmod_e 10 (show 0 ≤ i / 5 * 10 + i % 5 by omega), show (i / 5 * 10 + i % 5) / 10 = i / 5 by omega, show (i / 5 * 10 + i % 5) % 10 = i % 5 by omega,
    m_oneIn w2 w5 v2 v5 hL hr n1 n40 (by decide) (by decide) (by omega) (by omega) (by omega) (by omega), bR_some, m_oneIn w2 w5 v2 v5 hL hr n1 n40 (by decide) (by decide) (by omega) (by omega) (by omega) (by omega), bR_some]
  have g1 := oneF_rg (K := K) (p := p) (rocks := rocks) (n := n) (who := 0) (j := b / 25) (t := i / 5) w2 w5 v2 v5
  have g2 := oneF_rg (K := K) (p := p) (rocks := rocks) (n := n) (who := 1) (j := b % 25) (t := i % 5) w2 w5 v2 v5
  generalize oneF K p rocks n 0 (b / 25) (i / 5) = x at *
  generalize oneF K p rocks n 1 (b % 25) (i % 5) = y at *
  by_cases hx : x = -1
  · rw [if_pos hx, if_pos hx]
  · rw [if_neg hx, if_neg hx]
    by_cases hy : y = -1
    · rw [if_pos hy, if_pos hy]
    · rw [if_neg hy, if_neg hy, w32_id (x := 25 * x) (by omega) (by omega), w32_id (x := 25 * x + y) (by omega) (by omega), chk_of (by omega), chk_of (by omega), hL.2 _ (by omega) (by omega), (hL.1 n n1 n40).1, show (25 * x + y) / 25 = x by omega, show (25 * x + y) % 25 = y by omega]
      by_cases hq : apartF (K 1) x y ≤ ropeF K p rope tied n
      · rw [if_pos hq, if_pos hq]
      · rw [if_neg hq, if_neg hq]
theorem rope_teth {K : Int → Int} {p rope n d : Int} {tied : Bool} (d8 : d ≤ 8) : d ≤ ropeF K p rope tied n ↔ d ≤ tethC K p rope tied n := by
  unfold ropeF tethC
  cases tied
  · simp; omega
  · simp only [if_true]; split <;> omega
/-- one's turns and where they lead -/
theorem one_mv {K : Int → Int} {p rocks n who j j' : Int} (w2 : 2 ≤ K 1) (w5 : K 1 ≤ 5) (v2 : 2 ≤ K 2) (v5 : K 2 ≤ 5) (j0 : 0 ≤ j) (j1 : j < K 1 * K 2) :
    (∃ t, (0 ≤ t ∧ t ≤ 4) ∧ oneF K p rocks n who j t = j' ∧ j' ≠ -1) ↔ ((0 ≤ j' ∧ j' < K 1 * K 2) ∧ mvP K p rocks who n j j') := by
  constructor
  · rintro ⟨t, ht, e, hne⟩
    have rg := oneF_rg (K := K) (p := p) (rocks := rocks) (n := n) (who := who) (j := j) (t := t) w2 w5 v2 v5
    rw [e] at rg
    have rg' := rg.resolve_left hne
    refine ⟨rg', ?_⟩
    unfold oneF entF at e
    rw [if_pos (show 0 ≤ j ∧ j < K 1 * K 2 from ⟨j0, j1⟩)] at e
    by_cases h0 : t = 0
    · rw [if_pos h0, if_pos h0] at e
      exact .inl e.symm
    · rw [if_neg h0, if_neg h0] at e
      by_cases hb : besF (K 1) (K 2) j t = -1
      · rw [if_pos hb, if_pos rfl] at e; omega
      · rw [if_neg hb] at e
        cases hm : mayF K p who (besF (K 1) (K 2) j t) (K 24 + n)
        · rw [hm] at e; simp at e; omega
        · rw [hm] at e
          simp only [if_true] at e
          rw [if_neg hb] at e
          cases hr : tb rocks (besF (K 1) (K 2) j t).toNat
          · rw [hr] at e
            simp at e
            refine .inr ⟨(adj_iff w2 w5 v2 v5 j0 j1 rg'.1 rg'.2).mp ⟨t, by omega, by omega, e⟩, by rw [← e]; exact hm, by rw [← e]; exact hr⟩
          · rw [hr] at e; simp at e; omega
  · rintro ⟨⟨a0, a1⟩, h | ⟨h1, h2, h3⟩⟩
    · subst h
      refine ⟨0, by omega, ?_, by omega⟩
      unfold oneF entF
      rw [if_pos rfl, if_pos ⟨j0, j1⟩, if_pos rfl]
    · obtain ⟨t, t1, t4, e⟩ := (adj_iff w2 w5 v2 v5 j0 j1 a0 a1).mpr h1
      refine ⟨t, by omega, ?_, by omega⟩
      have ee : entF K p n who j t = j' := by
        unfold entF
        rw [if_pos ⟨j0, j1⟩, if_neg (show ¬ t = 0 by omega), e, if_neg (show ¬ j' = -1 by omega), h2, if_pos rfl]
      unfold oneF
      rw [ee, if_neg (show ¬ t = 0 by omega), if_neg (show ¬ j' = -1 by omega), h3, if_neg (by simp)]
def canS (K : Int → Int) (p rope : Int) (tied : Bool) (rocks : Int) (n : Nat) (b : Int) : Prop := rchP K p rope tied rocks n (b / 25) (b % 25).toNat
theorem both_nxt {K : Int → Int} {c p rope rocks : Int} {tied : Bool} {n : Nat} {b : Int} (hV : CV c K) (p0 : 0 ≤ p) (p1 : p < K 3) (b0 : 0 ≤ b) (b1 : b < 625) :
    (∃ b' i, (0 ≤ b' ∧ b' < 625) ∧ canS K p rope tied rocks n b' ∧ (0 ≤ i ∧ i < 25) ∧ bothF K p rope tied rocks ((n : Int) + 1) b' i = b) ↔ canS K p rope tied rocks (n + 1) b := by
  have hw := wide_of hV.1 p0 p1
  have ar := area_le hw.1.1 hw.1.2 hw.2.1 hw.2.2
  constructor
  · rintro ⟨b', i, hb', hc, hi, e⟩
    have rg := rch_rg hV p0 p1 n _ _ hc
    rw [Int.toNat_of_nonneg (show 0 ≤ b' % 25 by omega)] at rg
    unfold bothF at e
    have g1 := oneF_rg (K := K) (p := p) (rocks := rocks) (n := (n : Int) + 1) (who := 0) (j := b' / 25) (t := i / 5) hw.1.1 hw.1.2 hw.2.1 hw.2.2
    have g2 := oneF_rg (K := K) (p := p) (rocks := rocks) (n := (n : Int) + 1) (who := 1) (j := b' % 25) (t := i % 5) hw.1.1 hw.1.2 hw.2.1 hw.2.2
    generalize hx : oneF K p rocks ((n : Int) + 1) 0 (b' / 25) (i / 5) = x at *
    generalize hy : oneF K p rocks ((n : Int) + 1) 1 (b' % 25) (i % 5) = y at *
    by_cases hx1 : x = -1
    · rw [if_pos hx1] at e; omega
    rw [if_neg hx1] at e
    by_cases hy1 : y = -1
    · rw [if_pos hy1] at e; omega
    rw [if_neg hy1] at e
    by_cases hq : apartF (K 1) x y ≤ ropeF K p rope tied ((n : Int) + 1)
    · rw [if_pos hq] at e
      have ex : b / 25 = x := by omega
      have ey : b % 25 = y := by omega
      have m1 := (one_mv (j' := x) hw.1.1 hw.1.2 hw.2.1 hw.2.2 rg.1.1 rg.1.2).mp ⟨i / 5, by omega, hx, hx1⟩
      have m2 := (one_mv (j' := y) hw.1.1 hw.1.2 hw.2.1 hw.2.2 (show 0 ≤ b' % 25 by omega) rg.2).mp ⟨i % 5, by omega, hy, hy1⟩
      unfold canS
      rw [ex, ey]
      have ap8 := apartF_8 hw.1.1 hw.1.2 hw.2.1 hw.2.2 m1.1.1 m1.1.2 m2.1.1 m2.1.2
      refine ⟨m1.1, by omega, ?_, b' / 25, rg.1, m1.2, (b' % 25).toNat, hc, ?_⟩
      · rw [Int.toNat_of_nonneg m2.1.1]; exact (rope_teth ap8).mp hq
      · rw [Int.toNat_of_nonneg m2.1.1, Int.toNat_of_nonneg (by omega)]; exact m2.2
    · rw [if_neg hq] at e; omega
  · intro h
    obtain ⟨h1, h2, h3, j0, hj0, h4, k0, h5, h6⟩ : nxtP K p rope tied rocks ((n : Int) + 1) (rchP K p rope tied rocks n) (b / 25) (b % 25).toNat := h
    rw [Int.toNat_of_nonneg (show 0 ≤ b % 25 by omega)] at h2 h3 h6
    have rg := rch_rg hV p0 p1 n _ _ h5
    obtain ⟨t, ht, et, nt⟩ := (one_mv hw.1.1 hw.1.2 hw.2.1 hw.2.2 hj0.1 hj0.2).mpr ⟨h1, h4⟩
    obtain ⟨u, hu, eu, nu⟩ := (one_mv hw.1.1 hw.1.2 hw.2.1 hw.2.2 (show 0 ≤ (k0 : Int) by omega) rg.2).mpr ⟨⟨by omega, h2⟩, h6⟩
    have ap8 := apartF_8 hw.1.1 hw.1.2 hw.2.1 hw.2.2 h1.1 h1.2 (show 0 ≤ b % 25 by omega) h2
    refine ⟨25 * j0 + k0, 5 * t + u, by omega, ?_, by omega, ?_⟩
    · unfold canS
      rw [show (25 * j0 + (k0 : Int)) / 25 = j0 by omega, show (25 * j0 + (k0 : Int)) % 25 = k0 by omega, Int.toNat_natCast]; exact h5
    · unfold bothF
      rw [show (25 * j0 + (k0 : Int)) / 25 = j0 by omega, show (25 * j0 + (k0 : Int)) % 25 = k0 by omega, show (5 * t + u) / 5 = t by omega, show (5 * t + u) % 5 = u by omega, et, eu, if_neg nt, if_neg nu, if_pos ((rope_teth ap8).mpr h3)]
      omega
def RowC (m : Mem) (n : Int) (T : Int → Prop) : Prop := ∀ b, 0 ≤ b → b < 625 → (m 298 (625 * n + b) = 0 ∨ m 298 (625 * n + b) = 1) ∧ (m 298 (625 * n + b) = 1 ↔ T b)
theorem m_bothNow {K : Int → Int} {c p : Int} {m : Mem} (hK : m 288 = K) (hV : CV c K) (p0 : 0 ≤ p) (p1 : p < K 3) : fX12_bothNow p m = some (25 * K (13 + p) + K (17 + p)) := by
  have l3 := hV.1.2.1
  have ar := area_rg hV.1
  have hS := (curV_iff.mp hV.2).1 p p0 p1
  unfold fX12_bothNow
  simp only [rd_eq, hK]
  rw [w32_id (x := 13 + p) (by omega) (by omega), w32_id (x := 17 + p) (by omega) (by omega), chk_of (by omega), chk_of (by omega), w32_id (x := 25 * _) (by omega) (by omega), w32_id (by omega) (by omega)]
theorem m_laysCan {K : Int → Int} {c p rope rocks : Int} {tied : Bool} {u : Nat} {m : Mem} (hK : m 288 = K) (hP : PairV c K p rope) (hL : LaidR K p rope tied m) (hr : m 287 28 = rocks) (u40 : u ≤ 40) :
    Ok (fX12_laysCan p u m) (fun m' => (∀ n : Nat, n ≤ u → RowC m' n (canS K p rope tied rocks n)) ∧ Fr [298] m m') := by
  obtain ⟨hV, c1, ⟨p0, p1⟩, ⟨r0, r1⟩⟩ := hP
  have hw := wide_of hV.1 p0 p1
  have ar := area_le hw.1.1 hw.1.2 hw.2.1 hw.2.2
  have hS := (curV_iff.mp hV.2).1 p p0 p1
  unfold fX12_laysCan
  simp only [rd_eq, wr_eq, jn_eq]
  rw [w32_id (x := (u : Int) + 1) (by omega) (by omega), w32_id (x := 625 * ((u : Int) + 1)) (by omega) (by omega)]
  refine lp_for (625 * ((u : Int) + 1)) (fun i mm => 0 ≤ i ∧ (∀ j, 0 ≤ j → j < i → mm 298 j = 0) ∧ Fr [298] m mm) ⟨by omega, fun j _ _ => by omega, fr_refl⟩ (by omega) (by omega) ?_ ?_
  · rintro G i mm hi ⟨i0, h1, h2⟩ ih
    rw [if_neg (by omega), chk_of (by simp; omega), w32_id (by omega) (by omega)]
    refine ih _ ⟨by omega, fun j j0 j1 => ?_, fr_up (by simp) h2⟩
    rw [up_row]
    by_cases e : j = i
    · subst e; exact ku_at _ _ _
    · rw [ku_ne e]; exact h1 j j0 (by omega)
  rintro G0 mm ⟨_, z1, z2⟩
  have hK1 : mm 288 = K := (z2 288 (by decide)).trans hK
  rw [if_pos (by omega), m_bothNow hK1 hV p0 p1, bR_some, chk_of (by simp; omega)]
  have zz : ∀ n : Int, 1 ≤ n → n ≤ u → ∀ b, 0 ≤ b → b < 625 → up mm 298 (25 * K (13 + p) + K (17 + p)) 1 298 (625 * n + b) = 0 := fun n n1 nu b b0 b1 => by
    rw [up_row, ku_ne (by omega)]; exact z1 _ (by omega) (by omega)
  have z0 : RowC (up mm 298 (25 * K (13 + p) + K (17 + p)) 1) ((0 : Nat) : Int) (canS K p rope tied rocks 0) := fun b b0 b1 => by
    rw [show 625 * ((0 : Nat) : Int) + b = b by omega, up_row]
    have ec : canS K p rope tied rocks 0 b ↔ b = 25 * K (13 + p) + K (17 + p) := by
      show (b / 25 = K (13 + p) ∧ (((b % 25).toNat : Nat) : Int) = K (17 + p)) ↔ _
      omega
    rw [ec]
    by_cases e : b = 25 * K (13 + p) + K (17 + p)
    · subst e; rw [ku_at]; exact ⟨.inr rfl, fun _ => rfl, fun _ => rfl⟩
    · rw [ku_ne e, z1 b b0 (by omega)]; exact ⟨.inl rfl, fun q => by omega, fun q => absurd q e⟩
  have F1 : Fr [298] m (up mm 298 (25 * K (13 + p) + K (17 + p)) 1) := fr_up (by simp) z2
  generalize up mm 298 (25 * K (13 + p) + K (17 + p)) 1 = m1 at *
  refine lp_ok (fun (t : Int) (q : Mem) => ∃ h : Nat, t = (h : Int) + 1 ∧ h ≤ u ∧ (∀ n : Nat, n ≤ h → RowC q n (canS K p rope tied rocks n)) ∧ (∀ n : Int, (h : Int) < n → n ≤ u → ∀ b, 0 ≤ b → b < 625 → q 298 (625 * n + b) = 0) ∧ Fr [298] m q) (fun t _ => (42 - t).toNat) ⟨0, rfl, by omega, fun n hn => by rw [show n = 0 by omega]; exact z0, fun n n1 nu b b0 b1 => zz n (by omega) nu b b0 b1, F1⟩ (by decide) ?_
  rintro G t q ⟨h, rfl, hu, hrow, hz, hF⟩ ih
  by_cases hx : h = u
  · subst hx
    rw [if_pos (by omega)]
    exact ok_some ⟨hrow, hF⟩
  · rw [if_neg (by omega), w32_id (x := (h : Int) + 1 - 1) (by omega) (by omega), show (h : Int) + 1 - 1 = h by omega, w32_id (x := 625 * (h : Int)) (by omega) (by omega)]
    refine lp_for 625 (fun B w => 0 ≤ B ∧ RowC w ((h : Int) + 1) (fun b => ∃ b' i, (0 ≤ b' ∧ b' < B) ∧ canS K p rope tied rocks h b' ∧ (0 ≤ i ∧ i < 25) ∧ bothF K p rope tied rocks ((h : Int) + 1) b' i = b) ∧ (∀ j, (j < 625 * ((h : Int) + 1) ∨ 625 * ((h : Int) + 2) ≤ j) → w 298 j = q 298 j) ∧ Fr [298] m w) ⟨by omega, fun b b0 b1 => by rw [hz _ (by omega) (by omega) b b0 b1]; exact ⟨.inl rfl, fun z => by omega, fun ⟨_, _, z, _⟩ => by omega⟩, fun _ _ => rfl, hF⟩ (by decide) (by decide) ?_ ?_
    · rintro G2 B w hB ⟨B0, hR, ho, hF2⟩ ih2
      have hLw : LaidR K p rope tied w := by unfold LaidR; rw [hF2 296 (by decide), hF2 299 (by decide), hF2 300 (by decide)]; exact hL
      have hrw : w 287 28 = rocks := by rw [hF2 287 (by decide)]; exact hr
      rw [if_neg (by omega), w32_id (x := 625 * (h : Int) + B) (by omega) (by omega), chk_of (by omega), ho _ (by omega), w32_id (x := B + 1) (by omega) (by omega)]
      have rowh := hrow h (Nat.le_refl _) B B0 hB
      by_cases hc : q 298 (625 * (h : Int) + B) = 0
      · rw [if_neg (show ¬ ¬ q 298 (625 * (h : Int) + B) = 0 from fun z => z hc)]
        refine ih2 w ⟨by omega, fun b b0 b1 => ?_, ho, hF2⟩
        refine ⟨(hR b b0 b1).1, (hR b b0 b1).2.trans ⟨fun ⟨b', i, y1, y2⟩ => ⟨b', i, by omega, y2⟩, fun ⟨b', i, y1, y2, y3⟩ => ⟨b', i, ⟨y1.1, ?_⟩, y2, y3⟩⟩⟩
        by_cases e : b' = B
        · subst e; have := rowh.2.mpr y2; omega
        · omega
      · rw [if_pos hc]
        have hcs : canS K p rope tied rocks h B := rowh.2.mp (by have := rowh.1; omega)
        refine lp_for 25 (fun I v => 0 ≤ I ∧ RowC v ((h : Int) + 1) (fun b => ∃ b' i, (0 ≤ b' ∧ b' ≤ B) ∧ canS K p rope tied rocks h b' ∧ (0 ≤ i ∧ i < 25) ∧ (b' < B ∨ i < I) ∧ bothF K p rope tied rocks ((h : Int) + 1) b' i = b) ∧ (∀ j, (j < 625 * ((h : Int) + 1) ∨ 625 * ((h : Int) + 2) ≤ j) → v 298 j = q 298 j) ∧ Fr [298] m v) ⟨by omega, fun b b0 b1 => ⟨(hR b b0 b1).1, (hR b b0 b1).2.trans ⟨fun ⟨b', i, y1, y2, y3, y4⟩ => ⟨b', i, by omega, y2, y3, by omega, y4⟩, fun ⟨b', i, y1, y2, y3, y4, y5⟩ => ⟨b', i, by omega, y2, y3, y5⟩⟩⟩, ho, hF2⟩ (by decide) (by decide) ?_ ?_
        · rintro G3 I v hI ⟨I0, hR3, ho3, hF3⟩ ih3
          have hLv : LaidR K p rope tied v := by unfold LaidR; rw [hF3 296 (by decide), hF3 299 (by decide), hF3 300 (by decide)]; exact hL
          have hrv : v 287 28 = rocks := by rw [hF3 287 (by decide)]; exact hr
          rw [if_neg (by omega), m_turnsOf I0 hI, bR_some, m_bothIn hw.1.1 hw.1.2 hw.2.1 hw.2.2 hLv hrv (by omega) (by omega) B0 hB I0 hI, bR_some, w32_id (x := I + 1) (by omega) (by omega), w32_id (x := 625 * ((h : Int) + 1)) (by omega) (by omega)]
          have g : bothF K p rope tied rocks ((h : Int) + 1) B I = -1 ∨ (0 ≤ bothF K p rope tied rocks ((h : Int) + 1) B I ∧ bothF K p rope tied rocks ((h : Int) + 1) B I < 625) := by
            have g1 := oneF_rg (K := K) (p := p) (rocks := rocks) (n := (h : Int) + 1) (who := 0) (j := B / 25) (t := I / 5) hw.1.1 hw.1.2 hw.2.1 hw.2.2
            have g2 := oneF_rg (K := K) (p := p) (rocks := rocks) (n := (h : Int) + 1) (who := 1) (j := B % 25) (t := I % 5) hw.1.1 hw.1.2 hw.2.1 hw.2.2
            unfold bothF
            repeat' split
            all_goals omega
          generalize hbf : bothF K p rope tied rocks ((h : Int) + 1) B I = z at *
          by_cases hz1 : z = -1
          · rw [if_pos hz1]
            refine ih3 v ⟨by omega, fun b b0 b1 => ⟨(hR3 b b0 b1).1, (hR3 b b0 b1).2.trans ⟨fun ⟨b', i, y1, y2, y3, y4, y5⟩ => ⟨b', i, y1, y2, y3, by omega, y5⟩, fun ⟨b', i, y1, y2, y3, y4, y5⟩ => ⟨b', i, y1, y2, y3, ?_, y5⟩⟩⟩, ho3, hF3⟩
            by_cases e : b' < B
            · exact .inl e
            · by_cases e2 : i = I
              · exfalso
                rw [show b' = B by omega, e2, hbf] at y5; omega
              · exact .inr (by omega)
          · rw [if_neg hz1, w32_id (by omega) (by omega), chk_of (by simp; omega)]
            refine ih3 _ ⟨by omega, fun b b0 b1 => ?_, fun j hj => ?_, fr_up (by simp) hF3⟩
            · rw [up_row]
              by_cases e : b = z
              · subst e; rw [ku_at]
                exact ⟨.inr rfl, fun _ => ⟨B, I, by omega, hcs, by omega, by omega, hbf⟩, fun _ => rfl⟩
              · rw [ku_ne (by omega)]
                refine ⟨(hR3 b b0 b1).1, (hR3 b b0 b1).2.trans ⟨fun ⟨b', i, y1, y2, y3, y4, y5⟩ => ⟨b', i, y1, y2, y3, by omega, y5⟩, fun ⟨b', i, y1, y2, y3, y4, y5⟩ => ⟨b', i, y1, y2, y3, ?_, y5⟩⟩⟩
                by_cases e1 : b' < B
                · exact .inl e1
                · by_cases e2 : i = I
                  · exfalso
                    rw [show b' = B by omega, e2, hbf] at y5; omega
                  · exact .inr (by omega)
            · rw [up_row, ku_ne (by omega)]; exact ho3 j hj
        · rintro G3 v ⟨I0, hR3, ho3, hF3⟩
          rw [if_pos (by omega)]
          refine ih2 v ⟨by omega, fun b b0 b1 => ⟨(hR3 b b0 b1).1, (hR3 b b0 b1).2.trans ⟨fun ⟨b', i, y1, y2, y3, y4, y5⟩ => ⟨b', i, by omega, y2, y3, y5⟩, fun ⟨b', i, y1, y2, y3, y4⟩ => ⟨b', i, by omega, y2, y3, by omega, y4⟩⟩⟩, ho3, hF3⟩
    · rintro G2 w ⟨_, hR, ho, hF2⟩
      rw [if_pos (by omega), w32_id (by omega) (by omega)]
      refine ih _ w ⟨h + 1, by omega, by omega, fun n hn => ?_, fun n n1 nu b b0 b1 => by rw [ho _ (by omega)]; exact hz n (by omega) nu b b0 b1, hF2⟩ (by show (42 - ((h : Int) + 1 + 1)).toNat < (42 - ((h : Int) + 1)).toNat; omega)
      by_cases e : n = h + 1
      · subst e
        intro b b0 b1
        have := hR b b0 b1
        rw [show ((h : Int) + 1) = ((h + 1 : Nat) : Int) by omega] at this
        refine ⟨this.1, this.2.trans ?_⟩
        rw [show (((h + 1 : Nat) : Int)) = (h : Int) + 1 by omega]
        exact both_nxt hV p0 p1 b0 b1
      · intro b b0 b1
        rw [ho _ (by omega)]
        exact hrow n (by omega) b b0 b1

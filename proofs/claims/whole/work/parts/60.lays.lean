/-! ===== D40: the model's way ===== -/
def bakS (K : Int → Int) (p rope : Int) (tied : Bool) (rocks : Int) (n : Nat) (jt : Int) (kt h : Nat) (b : Int) : Prop := bakP K p rope tied rocks n jt kt h (b / 25) (b % 25).toNat
def RowM (m : Mem) (n : Int) (T : Int → Prop) : Prop := ∀ b, 0 ≤ b → b < 625 → (m 301 (625 * n + b) = 0 ∨ m 301 (625 * n + b) = 1) ∧ (m 301 (625 * n + b) = 1 ↔ T b)
theorem both_good {K : Int → Int} {c p rope : Int} {tied : Bool} {rocks : Int} {n : Nat} {jt : Int} {kt h : Nat} {b i : Int} (hV : CV c K) (p0 : 0 ≤ p) (p1 : p < K 3) (ht : rchP K p rope tied rocks n jt kt) (hh : h + 1 ≤ n) :
    (goodI K p rope tied rocks n jt kt (h + 1) (b / 25) (b % 25) i ↔ bothF K p rope tied rocks ((h : Int) + 1) b i ≠ -1 ∧ bakS K p rope tied rocks n jt kt (h + 1) (bothF K p rope tied rocks ((h : Int) + 1) b i)) ∧
    (goodI K p rope tied rocks n jt kt (h + 1) (b / 25) (b % 25) i → bothF K p rope tied rocks ((h : Int) + 1) b i = 25 * oneF K p rocks ((h : Int) + 1) 0 (b / 25) (i / 5) + oneF K p rocks ((h : Int) + 1) 1 (b % 25) (i % 5)) := by
  have hw := wide_of hV.1 p0 p1
  have ar := area_le hw.1.1 hw.1.2 hw.2.1 hw.2.2
  have g1 := oneF_rg (K := K) (p := p) (rocks := rocks) (n := (h : Int) + 1) (who := 0) (j := b / 25) (t := i / 5) hw.1.1 hw.1.2 hw.2.1 hw.2.2
  have g2 := oneF_rg (K := K) (p := p) (rocks := rocks) (n := (h : Int) + 1) (who := 1) (j := b % 25) (t := i % 5) hw.1.1 hw.1.2 hw.2.1 hw.2.2
  unfold goodI bakS bothF
  rw [show ((h + 1 : Nat) : Int) = (h : Int) + 1 by omega]
  generalize oneF K p rocks ((h : Int) + 1) 0 (b / 25) (i / 5) = x at *
  generalize oneF K p rocks ((h : Int) + 1) 1 (b % 25) (i % 5) = y at *
  have key : x ≠ -1 → y ≠ -1 → bakP K p rope tied rocks n jt kt (h + 1) x y.toNat → apartF (K 1) x y ≤ ropeF K p rope tied ((h : Int) + 1) := by
    intro hx hy hb
    obtain ⟨a1, a2, a3, _⟩ : nxtP K p rope tied rocks ((h : Int) + 1) (rchP K p rope tied rocks h) x y.toNat := bak_rch ht hh hb
    rw [Int.toNat_of_nonneg (by omega)] at a2 a3
    exact (rope_teth (apartF_8 hw.1.1 hw.1.2 hw.2.1 hw.2.2 a1.1 a1.2 (by omega) a2)).mpr a3
  by_cases hx : x = -1
  · rw [if_pos hx]
    exact ⟨⟨fun q => absurd hx q.1, fun q => absurd rfl q.1⟩, fun q => absurd hx q.1⟩
  rw [if_neg hx]
  by_cases hy : y = -1
  · rw [if_pos hy]
    exact ⟨⟨fun q => absurd hy q.2.1, fun q => absurd rfl q.1⟩, fun q => absurd hy q.2.1⟩
  rw [if_neg hy]
  by_cases hq : apartF (K 1) x y ≤ ropeF K p rope tied ((h : Int) + 1)
  · rw [if_pos hq, show (25 * x + y) / 25 = x by omega, show (25 * x + y) % 25 = y by omega]
    exact ⟨⟨fun q => ⟨by omega, q.2.2⟩, fun q => ⟨hx, hy, q.2⟩⟩, fun _ => rfl⟩
  · rw [if_neg hq]
    exact ⟨⟨fun q => absurd (key hx hy q.2.2) hq, fun q => absurd rfl q.1⟩, fun q => absurd (key hx hy q.2.2) hq⟩
theorem m_nextTurns {K : Int → Int} {c p rope rocks : Int} {tied : Bool} {n : Nat} {jt : Int} {kt h : Nat} {b : Int} {m : Mem} (hV : CV c K) (p0 : 0 ≤ p) (p1 : p < K 3) (ht : rchP K p rope tied rocks n jt kt) (hh : h + 1 ≤ n) (n40 : n ≤ 40) (hL : LaidR K p rope tied m) (hr : m 287 28 = rocks)
    (hM : RowM m ((h : Int) + 1) (bakS K p rope tied rocks n jt kt (h + 1))) (b0 : 0 ≤ b) (b1 : b < 625) :
    Ok (fX12_nextTurns h b m) (fun v => (∃ i, FirstI (goodI K p rope tied rocks n jt kt (h + 1) (b / 25) (b % 25)) i ∧ v = i / 5 * 10 + i % 5) ∨ (v = -1 ∧ ∀ i, 0 ≤ i → i < 25 → ¬ goodI K p rope tied rocks n jt kt (h + 1) (b / 25) (b % 25) i)) := by
  have hw := wide_of hV.1 p0 p1
  have ar := area_le hw.1.1 hw.1.2 hw.2.1 hw.2.2
  unfold fX12_nextTurns
  simp only [rd_eq, jn_eq]
  rw [w32_id (x := (h : Int) + 1) (by omega) (by omega)]
  refine lp_for 25 (fun t mm => mm = m ∧ 0 ≤ t ∧ ∀ i, 0 ≤ i → i < t → ¬ goodI K p rope tied rocks n jt kt (h + 1) (b / 25) (b % 25) i) ⟨rfl, by omega, fun i a z => by omega⟩ (by omega) (by omega) ?_ ?_
  · rintro G t mm hlt ⟨rfl, t0, hno⟩ ih
    obtain ⟨bg, be⟩ := both_good (b := b) (i := t) hV p0 p1 ht hh
    rw [if_neg (by omega), m_turnsOf t0 hlt, bR_some, m_bothIn hw.1.1 hw.1.2 hw.2.1 hw.2.2 hL hr (by omega) (by omega) b0 b1 t0 hlt, bR_some, bR_some, w32_id (x := t + 1) (by omega) (by omega)]
    have more : ¬ goodI K p rope tied rocks n jt kt (h + 1) (b / 25) (b % 25) t → ∀ i, 0 ≤ i → i < t + 1 → ¬ goodI K p rope tied rocks n jt kt (h + 1) (b / 25) (b % 25) i := by
      intro q i a z
      by_cases e : i = t
      · rw [e]; exact q
      · exact hno i a (by omega)
    have rg : bothF K p rope tied rocks ((h : Int) + 1) b t = -1 ∨ (0 ≤ bothF K p rope tied rocks ((h : Int) + 1) b t ∧ bothF K p rope tied rocks ((h : Int) + 1) b t < 625) := by
      have g1 := oneF_rg (K := K) (p := p) (rocks := rocks) (n := (h : Int) + 1) (who := 0) (j := b / 25) (t := t / 5) hw.1.1 hw.1.2 hw.2.1 hw.2.2
      have g2 := oneF_rg (K := K) (p := p) (rocks := rocks) (n := (h : Int) + 1) (who := 1) (j := b % 25) (t := t % 5) hw.1.1 hw.1.2 hw.2.1 hw.2.2
      unfold bothF
      repeat' split
      all_goals omega
    by_cases hx : bothF K p rope tied rocks ((h : Int) + 1) b t = -1
    · rw [if_pos hx]
      exact ih _ ⟨rfl, by omega, more (fun q => (bg.mp q).1 hx)⟩
    · rw [if_neg hx]
      generalize bothF K p rope tied rocks ((h : Int) + 1) b t = x at *
      obtain ⟨_, hM2⟩ := hM x (by omega) (by omega)
      obtain ⟨hM1, _⟩ := hM x (by omega) (by omega)
      rw [w32_id (x := 625 * ((h : Int) + 1)) (by omega) (by omega), w32_id (x := 625 * ((h : Int) + 1) + x) (by omega) (by omega), chk_of (by omega)]
      by_cases hz : mm 301 (625 * ((h : Int) + 1) + x) = 0
      · rw [if_pos hz]
        exact ih _ ⟨rfl, by omega, more (fun q => by have := hM2.mpr (bg.mp q).2; omega)⟩
      · rw [if_neg hz]
        exact ok_some (.inl ⟨t, ⟨⟨t0, hlt⟩, bg.mpr ⟨hx, hM2.mp (by omega)⟩, hno⟩, rfl⟩)
  · rintro G mm ⟨rfl, _, hno⟩
    rw [if_pos (by decide)]
    exact ok_some (.inr ⟨rfl, hno⟩)
theorem bak_can {K : Int → Int} {c p rope : Int} {tied : Bool} {rocks : Int} {n : Nat} {jt : Int} {kt h : Nat} {b : Int} (hV : CV c K) (p0 : 0 ≤ p) (p1 : p < K 3) (ht : rchP K p rope tied rocks n jt kt) (hh : h < n) :
    bakS K p rope tied rocks n jt kt h b ↔ canS K p rope tied rocks h b ∧ ∃ i, (0 ≤ i ∧ i < 25) ∧ goodI K p rope tied rocks n jt kt (h + 1) (b / 25) (b % 25) i := by
  have hw := wide_of hV.1 p0 p1
  unfold bakS canS
  have b25 : 0 ≤ b % 25 := by omega
  constructor
  · intro q
    exact ⟨bak_rch ht (by omega) q, good_ex hV p0 p1 ht hh b25 q⟩
  · rintro ⟨q, i, hi, ga, gb, gc⟩
    have rg := rch_rg hV p0 p1 _ _ _ q
    rw [Int.toNat_of_nonneg b25] at rg
    have g2 := oneF_rg (K := K) (p := p) (rocks := rocks) (n := ((h + 1 : Nat) : Int)) (who := 1) (j := b % 25) (t := i % 5) hw.1.1 hw.1.2 hw.2.1 hw.2.2
    have m0 := (one_mv hw.1.1 hw.1.2 hw.2.1 hw.2.2 rg.1.1 rg.1.2).mp ⟨i / 5, by omega, rfl, ga⟩
    have m1 := (one_mv hw.1.1 hw.1.2 hw.2.1 hw.2.2 b25 rg.2).mp ⟨i % 5, by omega, rfl, gb⟩
    refine (bak_step hh).mpr ⟨q, _, _, gc, m0.2, ?_⟩
    rw [Int.toNat_of_nonneg b25, Int.toNat_of_nonneg m1.1.1]
    exact m1.2
theorem m_laysWay {K : Int → Int} {c p j k : Int} {m : Mem} (hK : m 288 = K) (hV : CV c K) (c1 : c ≤ 1000000) (p0 : 0 ≤ p) (p1 : p < K 3) (j0 : 0 ≤ j) (j1 : j < K 1 * K 2) (k0 : 0 ≤ k) (k1 : k < K 1 * K 2) :
    Ok (fX12_laysWay p j k m) (fun r => FirstH (fun h => rchP K p (K (25 + p)) (tied0 K p) (K 8) h j k.toNat) r.1 ∧ (0 ≤ r.1 → ∀ h : Nat, (h : Int) < r.1 → r.2 302 ((h : Int) + 1) = turnV K p (K (25 + p)) (tied0 K p) (K 8) r.1.toNat j k.toNat h) ∧ (∀ i, i ≠ 28 → r.2 287 i = m 287 i) ∧ Fr (287 :: 298 :: 301 :: 302 :: LC) m r.2) := by
  have l3 := hV.1.2.1
  have hP := own_pair hV c1 p0 p1
  have hw := wide_of hV.1 p0 p1
  have ar := area_le hw.1.1 hw.1.2 hw.2.1 hw.2.2
  unfold fX12_laysWay
  refine ok_bV (m_laysOwn hK hV c1 p0 p1) ?_
  rintro m1 ⟨a1, a2, a3, a4⟩
  have hK1 := (a4 288 (by decide)).trans hK
  refine ok_bW (m_wayOf hK1 hP a1 a2 j0 j1 k0 k1) ?_
  rintro v m2 ⟨b1, b2, b3⟩
  simp only at b1 b2 b3
  have F2 : Fr (287 :: 298 :: 301 :: 302 :: LC) m m2 := fr_trans (fr_mono' a4 (by decide)) (fr_mono' b3 (by decide))
  have g28 : ∀ i, i ≠ 28 → m2 287 i = m 287 i := fun i hi => (congrFun (b3 287 (by decide)) i).trans (a3 i hi)
  have hL2 := laid_fr a1 (b3 296 (by decide)) (b3 299 (by decide)) (b3 300 (by decide))
  have hr2 : m2 287 28 = K 8 := (congrFun (b3 287 (by decide)) 28).trans a2
  simp only [rd_eq, wr_eq, jn_eq]
  by_cases hv : v = -1
  · rw [if_neg (by omega)]
    exact ok_some ⟨hv ▸ b1, fun z => absurd (show (0 : Int) ≤ -1 from z) (by decide), g28, F2⟩
  rw [if_pos hv]
  obtain ⟨n, n40, e, hq⟩ : ∃ n : Nat, n < 41 ∧ v = (n : Int) ∧ rchP K p (K (25 + p)) (tied0 K p) (K 8) n j k.toNat := by
    rcases b1 with ⟨n, n40, e, hq, _⟩ | ⟨e, _⟩
    · exact ⟨n, by omega, e, hq⟩
    · exact absurd e hv
  subst e
  rw [w32_id (x := (n : Int) + 1) (by omega) (by omega), w32_id (x := 625 * ((n : Int) + 1)) (by omega) (by omega), w32_id (x := 625 * (n : Int)) (by omega) (by omega), w32_id (x := 25 * j) (by omega) (by omega), w32_id (x := 625 * (n : Int) + 25 * j) (by omega) (by omega), w32_id (x := 625 * (n : Int) + 25 * j + k) (by omega) (by omega), w32_id (x := (n : Int) - 1) (by omega) (by omega)]
  -- the rows, first all empty
  refine lp_for (625 * ((n : Int) + 1)) (fun i mm => 0 ≤ i ∧ (∀ q, 0 ≤ q → q < i → mm 301 q = if q = 625 * (n : Int) + 25 * j + k then 1 else 0) ∧ Fr [301] m2 mm) ⟨by omega, fun q _ _ => by omega, fr_refl⟩ (by omega) (by omega) ?_ ?_
  · rintro G i mm hi ⟨i0, hq', hF⟩ ih
    rw [if_neg (by omega), w32_id (x := i + 1) (by omega) (by omega)]
    have next : ∀ x, x = (if i = 625 * (n : Int) + 25 * j + k then 1 else 0) → Ok (G (i + 1) (up mm 301 i x)) (fun r => FirstH (fun h => rchP K p (K (25 + p)) (tied0 K p) (K 8) h j k.toNat) r.1 ∧ (0 ≤ r.1 → ∀ h : Nat, (h : Int) < r.1 → r.2 302 ((h : Int) + 1) = turnV K p (K (25 + p)) (tied0 K p) (K 8) r.1.toNat j k.toNat h) ∧ (∀ i, i ≠ 28 → r.2 287 i = m 287 i) ∧ Fr (287 :: 298 :: 301 :: 302 :: LC) m r.2) := by
      intro x hx
      refine ih _ ⟨by omega, fun q z0 z1 => ?_, fr_up (by simp) hF⟩
      by_cases e : q = i
      · subst e; rw [up_same]; exact hx
      · rw [up_idx e]; exact hq' q z0 (by omega)
    by_cases e : i = 625 * (n : Int) + 25 * j + k
    · rw [if_neg (by omega), chk_of (by simp; omega)]
      exact next 1 (by rw [if_pos e])
    · rw [if_pos e, chk_of (by simp; omega)]
      exact next 0 (by rw [if_neg e])
  rintro G m3 ⟨_, hz, F3⟩
  rw [if_pos (by omega)]
  -- row by row, backwards
  refine lp_ok (fun (t : Int) (mm : Mem) => (-1 ≤ t ∧ t < n) ∧ (∀ h : Nat, t < h → h ≤ n → RowM mm h (bakS K p (K (25 + p)) (tied0 K p) (K 8) n j k.toNat h)) ∧ Fr [301] m2 mm) (fun t _ => (t + 1).toNat) ⟨by omega, fun h z0 z1 b q0 q1 => ?_, F3⟩ (by show ((n : Int) - 1 + 1).toNat < 1000000; omega) ?_
  · have e : h = n := by omega
    subst e
    rw [hz _ (by omega) (by omega)]
    unfold bakS
    rw [bak_end]
    by_cases e : 625 * (h : Int) + b = 625 * (h : Int) + 25 * j + k
    · rw [if_pos e]
      exact ⟨.inr rfl, fun _ => ⟨by omega, by omega⟩, fun _ => rfl⟩
    · rw [if_neg e]
      refine ⟨.inl rfl, fun q => absurd q (by decide), fun q => absurd ?_ e⟩
      have := q.1
      have : b % 25 = k := by omega
      omega
  rintro G4 t mm ⟨⟨t0, t1⟩, hM, hF⟩ ih
  have hLm := laid_fr hL2 (hF 296 (by decide)) (hF 299 (by decide)) (hF 300 (by decide))
  have hrm : mm 287 28 = K 8 := by rw [hF 287 (by decide)]; exact hr2
  have hKm : mm 288 = K := (hF 288 (by decide)).trans ((b3 288 (by decide)).trans hK1)
  by_cases hx : t < 0
  · -- the way itself
    rw [if_pos hx, m_bothNow hKm hV p0 p1, bR_some]
    refine lp_ok (fun (t : Int × Int) (m4 : Mem) => (∃ h : Nat, h ≤ n ∧ t = (25 * (posV K p (K (25 + p)) (tied0 K p) (K 8) n j k.toNat h).1 + (posV K p (K (25 + p)) (tied0 K p) (K 8) n j k.toNat h).2, (h : Int)) ∧ ∀ h' : Nat, h' < h → m4 302 ((h' : Int) + 1) = turnV K p (K (25 + p)) (tied0 K p) (K 8) n j k.toNat h') ∧ Fr [302] mm m4) (fun t _ => ((n : Int) - t.2).toNat) ⟨⟨0, by omega, rfl, fun h' z => by omega⟩, fr_refl⟩ (by show ((n : Int) - 0).toNat < 1000000; omega) ?_
    rintro G5 t5 m4 ⟨⟨h, hh, rfl, hT⟩, hF4⟩ ih5
    simp only
    have Fm : Fr (287 :: 298 :: 301 :: 302 :: LC) m m4 := fr_trans F2 (fr_trans (fr_mono' hF (by decide)) (fr_mono' hF4 (by decide)))
    have hx := pos_ok hV p0 p1 hq h hh
    have rg := pos_rg hV p0 p1 hq hh
    by_cases hz : h = n
    · rw [if_pos (by omega)]
      subst hz
      refine ok_some ⟨b1, fun _ h' z => ?_, fun i hi => ?_, Fm⟩
      · rw [Int.toNat_natCast]; exact hT h' (by simp only at z; omega)
      · show m4 287 i = m 287 i
        rw [hF4 287 (by decide), hF 287 (by decide)]; exact g28 i hi
    · rw [if_neg (by omega)]
      have hf := hx.2 (by omega)
      generalize hpx : posV K p (K (25 + p)) (tied0 K p) (K 8) n j k.toNat h = px at *
      have hL4 := laid_fr hLm (hF4 296 (by decide)) (hF4 299 (by decide)) (hF4 300 (by decide))
      have hr4 : m4 287 28 = K 8 := by rw [hF4 287 (by decide)]; exact hrm
      have hM4 : RowM m4 ((h : Int) + 1) (bakS K p (K (25 + p)) (tied0 K p) (K 8) n j k.toNat (h + 1)) := by
        have := hM (h + 1) (by omega) (by omega)
        rw [show ((h + 1 : Nat) : Int) = (h : Int) + 1 by omega] at this
        unfold RowM at this ⊢
        rw [hF4 301 (by decide)]; exact this
      have e1 : (25 * px.1 + px.2) / 25 = px.1 := by omega
      have e2 : (25 * px.1 + px.2) % 25 = px.2 := by omega
      have hnt := m_nextTurns (b := 25 * px.1 + px.2) hV p0 p1 hq (show h + 1 ≤ n by omega) (by omega) hL4 hr4 hM4 (by omega) (by omega)
      rw [e1, e2] at hnt
      refine ok_bR hnt ?_
      intro v hv
      obtain ⟨i, hi, rfl⟩ : ∃ i, FirstI (goodI K p (K (25 + p)) (tied0 K p) (K 8) n j k.toNat (h + 1) px.1 px.2) i ∧ v = i / 5 * 10 + i % 5 := by
        rcases hv with hv | ⟨_, hv⟩
        · exact hv
        · exact absurd hf.2.1 (hv _ hf.1.1 hf.1.2)
      have ei := firstI_uq hi hf
      have hL5 := laid_fr (m' := up m4 302 ((h : Int) + 1) (i / 5 * 10 + i % 5)) hL4 (up_cell (by decide)) (up_cell (by decide)) (up_cell (by decide))
      rw [w32_id (x := (h : Int) + 1) (by omega) (by omega), chk_of (by omega), chk_of (by omega), up_same, m_bothIn (rocks := K 8) hw.1.1 hw.1.2 hw.2.1 hw.2.2 hL5 (by rw [up_cell (by decide)]; exact hr4) (by omega) (by omega) (by omega) (by omega) hi.1.1 hi.1.2, bR_some]
      have bg := (both_good (b := 25 * px.1 + px.2) (i := i) hV p0 p1 hq (show h + 1 ≤ n by omega)).2
      rw [e1, e2] at bg
      rw [bg hi.2.1]
      have es : posV K p (K (25 + p)) (tied0 K p) (K 8) n j k.toNat (h + 1) = (oneF K p (K 8) ((h : Int) + 1) 0 (posV K p (K (25 + p)) (tied0 K p) (K 8) n j k.toNat h).1 (turnI K p (K (25 + p)) (tied0 K p) (K 8) n j k.toNat h / 5), oneF K p (K 8) ((h : Int) + 1) 1 (posV K p (K (25 + p)) (tied0 K p) (K 8) n j k.toNat h).2 (turnI K p (K (25 + p)) (tied0 K p) (K 8) n j k.toNat h % 5)) := rfl
      rw [hpx, ← ei] at es
      refine ih5 _ _ ⟨⟨h + 1, by omega, ?_, fun h' z => ?_⟩, fr_up (by simp) hF4⟩ (by show ((n : Int) - ((h : Int) + 1)).toNat < ((n : Int) - (h : Int)).toNat; omega)
      · rw [es, show ((h + 1 : Nat) : Int) = (h : Int) + 1 by omega]
      · by_cases e : h' = h
        · subst e; rw [up_same]; unfold turnV; rw [← ei]
        · rw [up_idx (by omega)]; exact hT h' (by omega)
  · -- a row
    rw [if_neg hx]
    obtain ⟨h, rfl⟩ : ∃ h : Nat, t = h := ⟨t.toNat, by omega⟩
    refine lp_for 625 (fun i m4 => 0 ≤ i ∧ (∀ b, 0 ≤ b → b < i → (m4 301 (625 * (h : Int) + b) = 0 ∨ m4 301 (625 * (h : Int) + b) = 1) ∧ (m4 301 (625 * (h : Int) + b) = 1 ↔ bakS K p (K (25 + p)) (tied0 K p) (K 8) n j k.toNat h b)) ∧ (∀ q, 625 * ((h : Int) + 1) ≤ q → m4 301 q = mm 301 q) ∧ Fr [301] m2 m4) ⟨by omega, fun q _ _ => by omega, fun _ _ => rfl, hF⟩ (by omega) (by omega) ?_ ?_
    · rintro G6 b m4 hb ⟨z0, hd, he, hF4⟩ ih6
      have rc := b2 h (by omega) b z0 hb
      rw [if_neg (by omega), w32_id (x := 625 * (h : Int)) (by omega) (by omega), w32_id (x := 625 * (h : Int) + b) (by omega) (by omega), w32_id (x := b + 1) (by omega) (by omega), chk_of (by omega), hF4 298 (by decide)]
      have bc := bak_can (b := b) hV p0 p1 hq (show h < n by omega)
      have next : ∀ x, (x = 0 ∨ x = 1) → (x = 1 ↔ bakS K p (K (25 + p)) (tied0 K p) (K 8) n j k.toNat h b) → Ok (G6 (b + 1) (up m4 301 (625 * (h : Int) + b) x)) (fun r => FirstH (fun h => rchP K p (K (25 + p)) (tied0 K p) (K 8) h j k.toNat) r.1 ∧ (0 ≤ r.1 → ∀ h : Nat, (h : Int) < r.1 → r.2 302 ((h : Int) + 1) = turnV K p (K (25 + p)) (tied0 K p) (K 8) r.1.toNat j k.toNat h) ∧ (∀ i, i ≠ 28 → r.2 287 i = m 287 i) ∧ Fr (287 :: 298 :: 301 :: 302 :: LC) m r.2) := by
        intro x hx1 hx2
        refine ih6 _ ⟨by omega, fun q q0 q1 => ?_, fun q hq => ?_, fr_up (by simp) hF4⟩
        · by_cases e : q = b
          · subst e; rw [up_same]; exact ⟨hx1, hx2⟩
          · rw [up_idx (by omega)]; exact hd q q0 (by omega)
        · rw [up_idx (by omega)]; exact he q hq
      by_cases hc : m2 298 (625 * (h : Int) + b) = 0
      · rw [if_pos hc, chk_of (by simp; omega)]
        exact next 0 (.inl rfl) ⟨fun q => absurd q (by decide), fun q => absurd (rc.2.mpr (bc.mp q).1) (by omega)⟩
      · rw [if_neg hc]
        have hM4 : RowM m4 ((h : Int) + 1) (bakS K p (K (25 + p)) (tied0 K p) (K 8) n j k.toNat (h + 1)) := by
          have := hM (h + 1) (by omega) (by omega)
          rw [show ((h + 1 : Nat) : Int) = (h : Int) + 1 by omega] at this
          intro q q0 q1
          rw [he _ (by omega)]; exact this q q0 q1
        refine ok_bR (m_nextTurns (b := b) hV p0 p1 hq (show h + 1 ≤ n by omega) (by omega) (laid_fr hL2 (hF4 296 (by decide)) (hF4 299 (by decide)) (hF4 300 (by decide))) (by rw [hF4 287 (by decide)]; exact hr2) hM4 z0 hb) ?_
        rintro v (⟨i, hi, rfl⟩ | ⟨rfl, hno⟩)
        · have := hi.1
          rw [if_neg (by omega), chk_of (by simp; omega)]
          exact next 1 (.inr rfl) ⟨fun _ => bc.mpr ⟨rc.2.mp (show m2 298 (625 * (h : Int) + b) = 1 by have := rc.1; omega), i, hi.1, hi.2.1⟩, fun _ => rfl⟩
        · rw [if_pos rfl, chk_of (by simp; omega)]
          refine next 0 (.inl rfl) ⟨fun q => absurd q (by decide), fun q => ?_⟩
          obtain ⟨_, i, hi, hg⟩ := bc.mp q
          exact absurd hg (hno i hi.1 hi.2)
    · rintro G6 m4 ⟨_, hd, he, hF4⟩
      rw [if_pos (by decide), w32_id (by omega) (by omega)]
      refine ih _ _ ⟨by omega, fun h' q0 q1 => ?_, hF4⟩ (by show ((h : Int) + -1 + 1).toNat < ((h : Int) + 1).toNat; omega)
      by_cases e : h' = h
      · subst e; exact fun b z0 z1 => hd b z0 z1
      · intro b z0 z1
        rw [he _ (by omega)]; exact hM h' (by omega) q1 b z0 z1

/-! ===== D67: errands, the model ===== -/
theorem m_doneAt {K A : Int → Int} {n : Nat} {t b s : Int} {m : Mem} (N25 : 0 ≤ K 1 * K 2 ∧ K 1 * K 2 ≤ 25) (hn : n ≤ 4) (hE : ErrV K A n) (ht : 0 ≤ t ∧ t < 4) (h310 : m 310 t = (n : Int)) (h311 : ∀ i : Int, 0 ≤ i → i < (n : Int) → m 311 (30 * t + i) = A i) (b0 : 0 ≤ b) (b1 : b < 625) (hs : -2147483648 ≤ s ∧ s < 2147483648) :
    fX12_doneAt t b s m = some (dnF A n s (b / 25) (b % 25)) := by
  refine ok_eq ?_
  unfold fX12_doneAt
  simp only [rd_eq, jn_eq]
  refine lp_for2 (n : Int) (fun x i mm => mm = m ∧ 0 ≤ i ∧ (-2147483648 ≤ x ∧ x < 2147483648) ∧ ∀ q : Nat, q < 32 → tb x q = (tb s q || (decide ((q : Int) < i) && (decide (A (q : Int) = b / 25) || decide (A (q : Int) = 100 + b % 25))))) ⟨rfl, by omega, hs, fun q _ => by simp; omega⟩ (by omega) (by omega) ?_ ?_
  · rintro G x i mm hi ⟨rfl, i0, hx, hb⟩ ih
    simp only
    have ai := hE i i0 hi
    have ea := h311 i i0 hi
    rw [chk_of (by omega), h310, if_neg (by omega), w32_id (x := 30 * t) (by omega) (by omega), w32_id (x := 30 * t + i) (by omega) (by omega), chk_of (by omega), ea, tmod_e 100 (show 0 ≤ A i by omega), tmod_e 25 b0, tdiv_e 25 b0, w32_id (x := i + 1) (by omega) (by omega)]
    have next : ∀ v : Int, (∀ q : Nat, q < 32 → tb v q = decide ((q : Int) = i ∧ (A i = b / 25 ∨ A i = 100 + b % 25))) → Ok (G (ior x v, i + 1) mm) (fun r => r = dnF A n s (b / 25) (b % 25)) := by
      intro v hv
      refine ih _ _ ⟨rfl, by omega, ior_rg _ _, fun q hq => ?_⟩
      rw [tb_or, hb q hq, hv q hq]
      by_cases e : (q : Int) = i
      · rw [e]
        by_cases c1 : A i = b / 25 <;> by_cases c2 : A i = 100 + b % 25 <;> cases tb s q <;> simp [c1, c2] <;> omega
      · have e1 : decide ((q : Int) < i + 1) = decide ((q : Int) < i) := by
          by_cases z : (q : Int) < i
          · simp [z]; omega
          · simp [z]; omega
        rw [e1]
        simp [e]
    have v0 : ¬ (A i = b / 25 ∨ A i = 100 + b % 25) → ∀ q : Nat, q < 32 → tb 0 q = decide ((q : Int) = i ∧ (A i = b / 25 ∨ A i = 100 + b % 25)) := fun z q _ => by
      rw [tb_zero]; simp only [z, and_false, decide_false]
    have v1 : (A i = b / 25 ∨ A i = 100 + b % 25) → ∀ q : Nat, q < 32 → tb (ishl 1 i) q = decide ((q : Int) = i ∧ (A i = b / 25 ∨ A i = 100 + b % 25)) := fun z q hq => by
      rw [tb_powi i0 (by omega) hq]
      simp only [z, and_true]
      by_cases e : (q : Int) = i
      · rw [decide_eq_true e, decide_eq_true (by omega)]
      · rw [decide_eq_false e, decide_eq_false (by omega)]
    by_cases h100 : 100 ≤ A i
    · rw [if_pos h100]
      by_cases h1 : A i % 100 = b % 25
      · rw [if_neg (fun z => z h1)]; exact next _ (v1 (by omega))
      · rw [if_pos h1]; exact next _ (v0 (by omega))
    · rw [if_neg h100]
      by_cases h1 : A i % 100 = b / 25
      · rw [if_neg (fun z => z h1)]; exact next _ (v1 (by omega))
      · rw [if_pos h1]; exact next _ (v0 (by omega))
  · rintro G x mm ⟨rfl, _, hx, hb⟩
    simp only
    rw [chk_of (by omega), h310, if_pos (Int.le_refl _)]
    refine ok_some (tb_ext hx (ior_rg _ _) (fun q hq => ?_))
    rw [hb q hq, tb_dnF (by omega) hq]
    by_cases z : q < n
    · rw [decide_eq_true z, decide_eq_true (show (q : Int) < (n : Int) by omega)]
    · rw [decide_eq_false z, decide_eq_false (show ¬ (q : Int) < (n : Int) by omega)]
/-- the model's table of errands at an hour -/
def RowE (m : Mem) (T : Int → Int → Prop) : Prop := ∀ q, 0 ≤ q → q < 10000 → (m 305 q = 0 ∨ m 305 q = 1) ∧ (m 305 q = 1 ↔ T (q / 625) (q % 625))
def errS (K : Int → Int) (p rope : Int) (tied : Bool) (rocks : Int) (A : Int → Int) (n : Nat) (s0 : Int) (h : Nat) (d b : Int) : Prop := errP K p rope tied rocks A n s0 h d (b / 25) (b % 25).toNat
theorem m_goesErrands {K A : Int → Int} {c p rope rocks s0 t : Int} {tied : Bool} {n h : Nat} {m : Mem} (hV : CV c K) (p0 : 0 ≤ p) (p1 : p < K 3) (hL : LaidR K p rope tied m) (hr : m 287 28 = rocks) (hn : n ≤ 4) (hE : ErrV K A n) (hs : SetN n s0) (ht : 0 ≤ t ∧ t < 4) (h310 : m 310 t = (n : Int)) (h311 : ∀ i : Int, 0 ≤ i → i < (n : Int) → m 311 (30 * t + i) = A i) (h40 : h < 40)
    (hT : RowE m (errS K p rope tied rocks A n s0 h)) :
    Ok (fX12_goesErrands t ((h : Int) + 1) m) (fun m' => RowE m' (errS K p rope tied rocks A n s0 (h + 1)) ∧ Fr [305, 306] m m') := by
  have hw := wide_of hV.1 p0 p1
  have N25 := pl_25 hV.1
  have p16 := pw_16 n (by omega)
  unfold fX12_goesErrands
  simp only [rd_eq, wr_eq, jn_eq]
  refine lp_for 10000 (fun i mm => 0 ≤ i ∧ (∀ q, 0 ≤ q → q < i → mm 306 q = 0) ∧ Fr [306] m mm) ⟨by omega, fun q _ _ => by omega, fr_refl⟩ (by omega) (by omega) ?_ ?_
  · rintro G i mm hi ⟨i0, hz, hF⟩ ih
    rw [if_neg (by omega), chk_of (by simp; omega), w32_id (x := i + 1) (by omega) (by omega)]
    refine ih _ ⟨by omega, fun q q0 q1 => ?_, fr_up (by simp) hF⟩
    by_cases e : q = i
    · rw [e, up_same]
    · rw [up_idx e]; exact hz q q0 (by omega)
  rintro G m1 ⟨_, hz, F1⟩
  rw [if_pos (by decide)]
  refine lp_for 10000 (fun i mm => 0 ≤ i ∧ (∀ q, 0 ≤ q → q < 10000 → (mm 306 q = 0 ∨ mm 306 q = 1) ∧ (mm 306 q = 1 ↔ ∃ i' u x, (0 ≤ i' ∧ i' < i) ∧ m 305 i' = 1 ∧ (0 ≤ u ∧ u < 25) ∧ bothF K p rope tied rocks ((h : Int) + 1) (i' % 625) u = x ∧ x ≠ -1 ∧ q = 625 * dnF A n (i' / 625) (x / 25) (x % 25) + x)) ∧ Fr [306] m mm) ⟨by omega, fun q q0 q1 => by rw [hz q q0 q1]; exact ⟨.inl rfl, fun z => by omega, fun ⟨i', u, x, y, _⟩ => by omega⟩, F1⟩ (by omega) (by omega) ?_ ?_
  · rintro G1 i mm hi ⟨i0, hb, hF⟩ ih
    have e305 : mm 305 = m 305 := hF 305 (by decide)
    rw [if_neg (by omega)]
    refine lp_for 25 (fun u m3 => 0 ≤ u ∧ (0 < u → m 305 i ≠ 0) ∧ (∀ q, 0 ≤ q → q < 10000 → (m3 306 q = 0 ∨ m3 306 q = 1) ∧ (m3 306 q = 1 ↔ ∃ i' u' x, (0 ≤ i' ∧ (i' < i ∨ (i' = i ∧ u' < u))) ∧ m 305 i' = 1 ∧ (0 ≤ u' ∧ u' < 25) ∧ bothF K p rope tied rocks ((h : Int) + 1) (i' % 625) u' = x ∧ x ≠ -1 ∧ q = 625 * dnF A n (i' / 625) (x / 25) (x % 25) + x)) ∧ Fr [306] m m3) ⟨by omega, fun z => by omega, fun q q0 q1 => ⟨(hb q q0 q1).1, (hb q q0 q1).2.trans ⟨fun ⟨i', u, x, y, z⟩ => ⟨i', u, x, by omega, z⟩, fun ⟨i', u, x, y, z1, z2, z⟩ => ⟨i', u, x, by omega, z1, z2, z⟩⟩⟩, hF⟩ (by omega) (by omega) ?_ ?_
    · rintro G2 u m3 hu ⟨u0, hp, hb3, hF3⟩ ih2
      have e3 : m3 305 = m 305 := hF3 305 (by decide)
      rw [if_neg (by omega), chk_of (by omega), e3]
      have row := hT i i0 hi
      by_cases hv : m 305 i = 0
      · rw [if_pos hv, w32_id (x := i + 1) (by omega) (by omega)]
        have u00 : u = 0 := by
          by_cases z : 0 < u
          · exact absurd hv (hp z)
          · omega
        refine ih _ ⟨by omega, fun q q0 q1 => ⟨(hb3 q q0 q1).1, (hb3 q q0 q1).2.trans ⟨fun ⟨i', u, x, y, z1, z2, z⟩ => ⟨i', u, x, by omega, z1, z2, z⟩, fun ⟨i', u', x, y, z1, z⟩ => ⟨i', u', x, ⟨y.1, .inl ?_⟩, z1, z⟩⟩⟩, hF3⟩
        by_cases e : i' = i
        · rw [e, hv] at z1; omega
        · omega
      · have hst : SetN n (i / 625) := (errP_rg hV p0 p1 (by omega) hs h _ _ _ (row.2.mp (by omega))).2
        have rgs := setN_rg hn hst
        rw [if_neg hv, m_turnsOf u0 hu, bR_some, tmod_e 625 i0, tdiv_e 625 i0, m_bothIn (rocks := rocks) hw.1.1 hw.1.2 hw.2.1 hw.2.2 (laid_fr hL (hF3 296 (by decide)) (hF3 299 (by decide)) (hF3 300 (by decide))) (by rw [hF3 287 (by decide)]; exact hr) (by omega) (by omega) (by omega) (by omega) u0 hu, bR_some, w32_id (x := u + 1) (by omega) (by omega)]
        have rg := bothF_rg (K := K) (p := p) (rope := rope) (tied := tied) (rocks := rocks) (h := (h : Int) + 1) (b := i % 625) (i := u) hw.1.1 hw.1.2 hw.2.1 hw.2.2
        generalize hx : bothF K p rope tied rocks ((h : Int) + 1) (i % 625) u = x at *
        by_cases hx1 : x = -1
        · rw [if_pos hx1]
          refine ih2 _ ⟨by omega, fun _ => hv, fun q q0 q1 => ⟨(hb3 q q0 q1).1, (hb3 q q0 q1).2.trans ⟨fun ⟨i', u', y, z0, z⟩ => ⟨i', u', y, by omega, z⟩, fun ⟨i', u', y, z0, z1, z2, z3, z4, z5⟩ => ⟨i', u', y, ⟨z0.1, ?_⟩, z1, z2, z3, z4, z5⟩⟩⟩, hF3⟩
          by_cases e : i' = i ∧ u' = u
          · rw [e.1, e.2, hx] at z3; omega
          · omega
        · rw [if_neg hx1]
          have hx2 := rg.resolve_left hx1
          have hsd := setN_dn (A := A) (j := x / 25) (k := x % 25) (by omega) hst
          have rgd := setN_rg hn hsd
          rw [m_doneAt N25 hn hE ht (by rw [hF3 310 (by decide)]; exact h310) (fun i a b => by rw [hF3 311 (by decide)]; exact h311 i a b) hx2.1 hx2.2 hst.1, bR_some, w32_id (x := 625 * dnF A n (i / 625) (x / 25) (x % 25)) (by omega) (by omega), w32_id (x := 625 * dnF A n (i / 625) (x / 25) (x % 25) + x) (by omega) (by omega), chk_of (by simp; omega)]
          refine ih2 _ ⟨by omega, fun _ => hv, fun q q0 q1 => ?_, fr_up (by simp) hF3⟩
          rw [up_row]
          by_cases e : q = 625 * dnF A n (i / 625) (x / 25) (x % 25) + x
          · rw [e, ku_at]
            exact ⟨.inr rfl, fun _ => ⟨i, u, x, by omega, by omega, by omega, hx, hx1, rfl⟩, fun _ => rfl⟩
          · rw [ku_ne e]
            refine ⟨(hb3 q q0 q1).1, (hb3 q q0 q1).2.trans ⟨fun ⟨i', u', y, z0, z⟩ => ⟨i', u', y, by omega, z⟩, fun ⟨i', u', y, z0, z1, z2, z3, z4, z5⟩ => ⟨i', u', y, ⟨z0.1, ?_⟩, z1, z2, z3, z4, z5⟩⟩⟩
            by_cases e2 : i' = i ∧ u' = u
            · rw [e2.1, e2.2, hx] at z3
              rw [e2.1, ← z3] at z5; exact absurd z5 e
            · omega
    · rintro G2 m3 ⟨_, hp, hb3, hF3⟩
      rw [if_pos (by decide), w32_id (x := i + 1) (by omega) (by omega)]
      refine ih _ ⟨by omega, fun q q0 q1 => ⟨(hb3 q q0 q1).1, (hb3 q q0 q1).2.trans ⟨fun ⟨i', u, x, y, z1, z2, z⟩ => ⟨i', u, x, by omega, z1, z2, z⟩, fun ⟨i', u', x, y, z1, z2, z⟩ => ⟨i', u', x, by omega, z1, z2, z⟩⟩⟩, hF3⟩
  rintro G1 m2 ⟨_, hb, F2⟩
  rw [if_pos (by decide)]
  refine lp_for 10000 (fun i mm => 0 ≤ i ∧ (∀ q, 0 ≤ q → q < i → mm 305 q = m2 306 q) ∧ mm 306 = m2 306 ∧ Fr [305, 306] m mm) ⟨by omega, fun q _ _ => by omega, rfl, fr_mono' F2 (by decide)⟩ (by omega) (by omega) ?_ ?_
  · rintro G3 i mm hi ⟨i0, hc, h6, hF⟩ ih
    rw [if_neg (by omega), chk_of (by omega), h6, chk_of ⟨i0, by omega, (hb i i0 hi).1⟩, w32_id (x := i + 1) (by omega) (by omega)]
    refine ih _ ⟨by omega, fun q q0 q1 => ?_, (up_cell (by decide)).trans h6, fr_up (by simp) hF⟩
    by_cases e : q = i
    · rw [e, up_same]
    · rw [up_idx e]; exact hc q q0 (by omega)
  · rintro G3 mm ⟨_, hc, _, hF⟩
    rw [if_pos (by decide)]
    refine ok_some ⟨fun q q0 q1 => ?_, hF⟩
    rw [hc q q0 q1]
    refine ⟨(hb q q0 q1).1, (hb q q0 q1).2.trans ?_⟩
    show _ ↔ ∃ s', nxtP K p rope tied rocks ((h : Int) + 1) (errP K p rope tied rocks A n s0 h s') (q % 625 / 25) (q % 625 % 25).toNat ∧ q / 625 = dnF A n s' (q % 625 / 25) (((q % 625 % 25).toNat : Nat) : Int)
    rw [Int.toNat_of_nonneg (show 0 ≤ q % 625 % 25 by omega)]
    have hPr := fun s' => errP_rg (rope := rope) (rocks := rocks) (tied := tied) (A := A) hV p0 p1 (show n ≤ 32 by omega) hs h s'
    constructor
    · rintro ⟨i', u, x, y, z1, z2, z3, z4, z5⟩
      have r := (hT i' y.1 y.2).2.mp z1
      have hsd := (hPr _ _ _ r).2
      have rg := (bothF_rg (K := K) (p := p) (rope := rope) (tied := tied) (rocks := rocks) (h := (h : Int) + 1) (b := i' % 625) (i := u) hw.1.1 hw.1.2 hw.2.1 hw.2.2)
      rw [z3] at rg
      have rg := rg.resolve_left z4
      have e1 : q % 625 = x := by rw [z5]; omega
      have e2 : q / 625 = dnF A n (i' / 625) (x / 25) (x % 25) := by rw [z5]; omega
      refine ⟨i' / 625, (both_nxtG hV p0 p1 (fun j k q => (hPr _ j k q).1) (by omega) (by omega)).mp ⟨i' % 625, u, by omega, r, z2, by rw [e1]; exact z3⟩, by rw [e1]; exact e2⟩
    · rintro ⟨s', q1, q2⟩
      obtain ⟨b', u, y, r, z2, z3⟩ := (both_nxtG hV p0 p1 (fun j k q => (hPr _ j k q).1) (show 0 ≤ q % 625 by omega) (by omega)).mpr q1
      have hss := (hPr _ _ _ r).2
      have rs := setN_rg hn hss
      have e1 : (625 * s' + b') / 625 = s' := by omega
      have e2 : (625 * s' + b') % 625 = b' := by omega
      refine ⟨625 * s' + b', u, q % 625, by omega, (hT _ (by omega) (by omega)).2.mpr (by rw [e1, e2]; exact r), z2, by rw [e2]; exact z3, by omega, ?_⟩
      rw [e1, ← q2]; omega
theorem m_doneBy {K A : Int → Int} {c p rope rocks s0 t : Int} {tied : Bool} {n : Nat} {m : Mem} (hK : m 288 = K) (hV : CV c K) (p0 : 0 ≤ p) (p1 : p < K 3) (hL : LaidR K p rope tied m) (hr : m 287 28 = rocks) (hn : n ≤ 4) (hE : ErrV K A n) (hs : SetN n s0) (ht : 0 ≤ t ∧ t < 4) (h310 : m 310 t = (n : Int)) (h311 : ∀ i : Int, 0 ≤ i → i < (n : Int) → m 311 (30 * t + i) = A i) :
    Ok (fX12_doneBy p t s0 m) (fun r => FirstH (fun h => ∃ j k, errP K p rope tied rocks A n s0 h (allS n) j k) r.1 ∧ Fr [305, 306] m r.2) := by
  have hw := wide_of hV.1 p0 p1
  have ar := area_le hw.1.1 hw.1.2 hw.2.1 hw.2.2
  have N25 := pl_25 hV.1
  have p16 := pw_16 n (by omega)
  have hS := (curV_iff.mp hV.2).1 p p0 p1
  have al : 0 ≤ allS n ∧ allS n < ishl 1 (n : Int) := all_rg n (by omega)
  unfold fX12_doneBy
  simp only [rd_eq, wr_eq]
  rw [chk_of (by omega), h310]
  have eall : w32 (ishl 1 (n : Int) - 1) = allS n := rfl
  rw [eall]
  refine lp_for 10000 (fun i mm => 0 ≤ i ∧ (∀ q, 0 ≤ q → q < i → mm 305 q = 0) ∧ Fr [305, 306] m mm) ⟨by omega, fun q _ _ => by omega, fr_refl⟩ (by omega) (by omega) ?_ ?_
  · rintro G i mm hi ⟨i0, hz, hF⟩ ih
    rw [if_neg (by omega), chk_of (by simp; omega), w32_id (x := i + 1) (by omega) (by omega)]
    refine ih _ ⟨by omega, fun q q0 q1 => ?_, fr_up (by simp) hF⟩
    by_cases e : q = i
    · rw [e, up_same]
    · rw [up_idx e]; exact hz q q0 (by omega)
  rintro G m1 ⟨_, hz, F1⟩
  have hK1 : m1 288 = K := (F1 288 (by decide)).trans hK
  have hsd := setN_dn (A := A) (j := (25 * K (13 + p) + K (17 + p)) / 25) (k := (25 * K (13 + p) + K (17 + p)) % 25) (show n ≤ 32 by omega) hs
  have rgd := setN_rg hn hsd
  rw [if_pos (by decide), m_bothNow hK1 hV p0 p1, bR_some, m_doneAt N25 hn hE ht (by rw [F1 310 (by decide)]; exact h310) (fun i a b => by rw [F1 311 (by decide)]; exact h311 i a b) (by omega) (by omega) hs.1, bR_some, bR_some, w32_id (x := 625 * dnF A n s0 ((25 * K (13 + p) + K (17 + p)) / 25) ((25 * K (13 + p) + K (17 + p)) % 25)) (by omega) (by omega), w32_id (x := 625 * dnF A n s0 ((25 * K (13 + p) + K (17 + p)) / 25) ((25 * K (13 + p) + K (17 + p)) % 25) + (25 * K (13 + p) + K (17 + p))) (by omega) (by omega), chk_of ⟨by omega, by omega, by simp⟩]
  have hrow : RowE (up m1 305 (625 * dnF A n s0 ((25 * K (13 + p) + K (17 + p)) / 25) ((25 * K (13 + p) + K (17 + p)) % 25) + (25 * K (13 + p) + K (17 + p))) 1) (errS K p rope tied rocks A n s0 0) := by
    intro q q0 q1
    rw [up_row]
    have ec : errS K p rope tied rocks A n s0 0 (q / 625) (q % 625) ↔ q = 625 * dnF A n s0 ((25 * K (13 + p) + K (17 + p)) / 25) ((25 * K (13 + p) + K (17 + p)) % 25) + (25 * K (13 + p) + K (17 + p)) := by
      show ((q % 625 / 25 = K (13 + p) ∧ (((q % 625 % 25).toNat : Nat) : Int) = K (17 + p)) ∧ q / 625 = dnF A n s0 (q % 625 / 25) (((q % 625 % 25).toNat : Nat) : Int)) ↔ _
      rw [Int.toNat_of_nonneg (show 0 ≤ q % 625 % 25 by omega)]
      rw [show (25 * K (13 + p) + K (17 + p)) / 25 = K (13 + p) by omega, show (25 * K (13 + p) + K (17 + p)) % 25 = K (17 + p) by omega] at *
      constructor
      · rintro ⟨⟨a, b⟩, d⟩
        rw [a, b] at d
        omega
      · intro e
        have e1 : q % 625 / 25 = K (13 + p) := by omega
        have e2 : q % 625 % 25 = K (17 + p) := by omega
        rw [e1, e2]
        exact ⟨⟨rfl, rfl⟩, by omega⟩
    rw [ec]
    by_cases e : q = 625 * dnF A n s0 ((25 * K (13 + p) + K (17 + p)) / 25) ((25 * K (13 + p) + K (17 + p)) % 25) + (25 * K (13 + p) + K (17 + p))
    · rw [← e, ku_at]; exact ⟨.inr rfl, fun _ => rfl, fun _ => rfl⟩
    · rw [ku_ne e, hz q q0 q1]; exact ⟨.inl rfl, fun z => by omega, fun z => absurd z e⟩
  have F2 : Fr [305, 306] m (up m1 305 (625 * dnF A n s0 ((25 * K (13 + p) + K (17 + p)) / 25) ((25 * K (13 + p) + K (17 + p)) % 25) + (25 * K (13 + p) + K (17 + p))) 1) := fr_up (by simp) F1
  generalize up m1 305 (625 * dnF A n s0 ((25 * K (13 + p) + K (17 + p)) / 25) ((25 * K (13 + p) + K (17 + p)) % 25) + (25 * K (13 + p) + K (17 + p))) 1 = m2 at *
  refine lp_ok (fun (i : Int) (mm : Mem) => ∃ h : Nat, i = (h : Int) ∧ h ≤ 41 ∧ RowE mm (errS K p rope tied rocks A n s0 (h - 1)) ∧ (∀ h', h' < h → ¬ ∃ j k, errP K p rope tied rocks A n s0 h' (allS n) j k) ∧ Fr [305, 306] m mm) (fun i _ => (41 - i).toNat) ⟨0, rfl, by omega, hrow, fun h' z => by omega, F2⟩ (by decide) ?_
  rintro G2 i mm ⟨h, rfl, hh, b1, b2, b4⟩ ih
  by_cases hx : h = 41
  · rw [if_pos (by omega)]
    exact ok_some ⟨.inr ⟨rfl, fun h' z => b2 h' (by omega)⟩, b4⟩
  · rw [if_neg (by omega)]
    refine ok_jn (fun _ mm' => RowE mm' (errS K p rope tied rocks A n s0 h) ∧ Fr [305, 306] m mm') ?_ ?_
    · rintro _ mm' ⟨d1, d3⟩
      refine lp_for 625 (fun i m3 => 0 ≤ i ∧ m3 = mm' ∧ ∀ b, 0 ≤ b → b < i → ¬ errS K p rope tied rocks A n s0 h (allS n) b) ⟨by omega, rfl, fun _ _ _ => by omega⟩ (by omega) (by omega) ?_ ?_
      · rintro G3 i m3 hi ⟨i0, rfl, hno⟩ ih2
        have row := d1 (625 * allS n + i) (by omega) (by omega)
        rw [show (625 * allS n + i) / 625 = allS n by omega, show (625 * allS n + i) % 625 = i by omega] at row
        rw [if_neg (by omega), w32_id (x := 625 * allS n) (by omega) (by omega), w32_id (x := 625 * allS n + i) (by omega) (by omega), chk_of (by omega), w32_id (x := i + 1) (by omega) (by omega)]
        by_cases hq : m3 305 (625 * allS n + i) = 0
        · rw [if_pos hq]
          refine ih2 _ ⟨by omega, rfl, fun b a0 a1 q => ?_⟩
          by_cases e : b = i
          · rw [e] at q; have := row.2.mpr q; omega
          · exact hno b a0 (by omega) q
        · rw [if_neg hq]
          exact ok_some ⟨.inl ⟨h, by omega, rfl, ⟨_, _, row.2.mp (by omega)⟩, b2⟩, d3⟩
      · rintro G3 m3 ⟨_, rfl, hno⟩
        rw [if_pos (by decide), w32_id (x := (h : Int) + 1) (by omega) (by omega)]
        refine ih _ m3 ⟨h + 1, by omega, by omega, d1, fun h' z q => ?_, d3⟩ (by omega)
        by_cases e : h' = h
        · rw [e] at q
          obtain ⟨j, k, q⟩ := q
          have rg := (errP_rg hV p0 p1 (show n ≤ 32 by omega) hs h _ j k q).1
          refine hno (25 * j + (k : Int)) (by omega) (by omega) ?_
          show errP K p rope tied rocks A n s0 h (allS n) ((25 * j + (k : Int)) / 25) ((25 * j + (k : Int)) % 25).toNat
          rw [show (25 * j + (k : Int)) / 25 = j by omega, show ((25 * j + (k : Int)) % 25).toNat = k by omega]; exact q
        · exact b2 h' (by omega) q
    · intro J hJ
      by_cases h0 : h = 0
      · rw [if_pos (by omega)]
        exact hJ () mm ⟨by rw [h0] at b1 ⊢; exact b1, b4⟩
      · rw [if_neg (by omega)]
        have := m_goesErrands (h := h - 1) (t := t) hV p0 p1 (laid_fr hL (b4 296 (by decide)) (b4 299 (by decide)) (b4 300 (by decide))) (by rw [b4 287 (by decide)]; exact hr) hn hE hs ht (by rw [b4 310 (by decide)]; exact h310) (fun i a b => by rw [b4 311 (by decide)]; exact h311 i a b) (by omega) b1
        rw [show ((h - 1 : Nat) : Int) + 1 = (h : Int) by omega, show h - 1 + 1 = h by omega] at this
        refine ok_bV this ?_
        rintro m3 ⟨g1, g2⟩
        exact hJ () m3 ⟨g1, fr_trans b4 g2⟩

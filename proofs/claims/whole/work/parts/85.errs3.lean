/-! ===== D65: errands, the class's hours ===== -/
def ChT (K : Int → Int) (p rope : Int) (tied : Bool) (rocks : Int) (A : Int → Int) (n h : Nat) (m : Mem) : Prop :=
  ∃ a b : Nat, ((a = 102 ∧ b = 103) ∨ (a = 103 ∧ b = 102)) ∧ m 100 2 = (a : Int) ∧ m 100 3 = (b : Int) ∧ ChR A n m ∧ Bits (m 100 5) (fun k => ∃ i : Int, (0 ≤ i ∧ i < (n : Int)) ∧ A i = 100 + (k : Int)) ∧ (∀ j, K 1 * K 2 ≤ j → j < 25 → m 104 j = 0) ∧
    ∀ d, 0 ≤ d → d < ishl 1 (n : Int) → ∀ j, 0 ≤ j → j < 25 → Bits (m a (25 * d + j)) (errP K p rope tied rocks A n 0 h d j)
theorem la_ch {a b : Nat} (hab : (a = 102 ∧ b = 103) ∨ (a = 103 ∧ b = 102)) : layL[a]? = some (.inr (0, 400)) ∧ layL[b]? = some (.inr (0, 400)) := by
  rcases hab with ⟨rfl, rfl⟩ | ⟨rfl, rfl⟩ <;> exact ⟨by decide +kernel, by decide +kernel⟩
theorem setN_0 {n : Nat} : SetN n 0 := ⟨by omega, fun b _ q => by rw [tb_zero] at q; cases q⟩
theorem c_isDone {K : Int → Int} {c p rope rocks d : Int} {tied : Bool} {A : Int → Int} {n h : Nat} {m : Mem} (hV : CV c K) (p0 : 0 ≤ p) (p1 : p < K 3) (hn : n ≤ 4) (hT : ChT K p rope tied rocks A n h m) (d0 : 0 ≤ d) (d1 : d < ishl 1 (n : Int)) :
    ∃ v, fX1_isDone d m = some v ∧ (v = 0 ∨ v = 1) ∧ (v = 1 ↔ ∃ j k, errP K p rope tied rocks A n 0 h d j k) := by
  obtain ⟨a, b, hab, ea, eb, hC, h5, h104, hB⟩ := hT
  have la := la_ch hab
  have p16 := pw_16 n (by omega)
  have N25 := pl_25 hV.1
  have key : Ok (fX1_isDone d m) (fun v => (v = 0 ∨ v = 1) ∧ (v = 1 ↔ ∃ j k, errP K p rope tied rocks A n 0 h d j k)) := by
    unfold fX1_isDone
    simp only [rd_eq, rdn_eq]
    refine lp_for 25 (fun j mm => 0 ≤ j ∧ mm = m ∧ ∀ j', 0 ≤ j' → j' < j → m a (25 * d + j') = 0) ⟨by omega, rfl, fun _ _ _ => by omega⟩ (by omega) (by omega) ?_ ?_
    · rintro G j mm hj ⟨j0, rfl, hz⟩ ih
      have Bj := hB d d0 d1 j j0 hj
      rw [if_neg (by omega), ea, Int.toNat_natCast, chk_of la.1, w32_id (x := d * 25) (by omega) (by omega), w32_id (x := d * 25 + j) (by omega) (by omega), chk_of (by omega), show d * 25 + j = 25 * d + j by omega, w32_id (x := j + 1) (by omega) (by omega)]
      by_cases hq : mm a (25 * d + j) = 0
      · rw [if_pos hq]
        refine ih _ ⟨by omega, rfl, fun j' a0 a1 => ?_⟩
        by_cases e : j' = j
        · rw [e]; exact hq
        · exact hz j' a0 (by omega)
      · rw [if_neg hq]
        refine ok_some ⟨.inr rfl, fun _ => ?_, fun _ => rfl⟩
        by_cases ex : ∃ k, errP K p rope tied rocks A n 0 h d j k
        · obtain ⟨k, hk⟩ := ex
          exact ⟨j, k, hk⟩
        · exact absurd ((bits_eq0 Bj).mpr (fun k _ q => ex ⟨k, q⟩)) hq
    · rintro G mm ⟨_, rfl, hz⟩
      rw [if_pos (by decide)]
      refine ok_some ⟨.inl rfl, fun q => by omega, ?_⟩
      rintro ⟨j, k, q⟩
      have rg := (errP_rg hV p0 p1 (by omega) setN_0 h d j k q).1
      exact absurd q ((bits_eq0 (hB d d0 d1 j rg.1.1 (by omega))).mp (hz j rg.1.1 (by omega)) k (by omega))
  obtain ⟨v, e, hv⟩ := key
  exact ⟨v, e, hv⟩
def EC : List Nat := [18, 36, 37, 78, 79, 80, 84, 100, 102, 103, 104]
theorem c_startE {K : Int → Int} {c p rope rocks : Int} {tied : Bool} {A : Int → Int} {n : Nat} {m : Mem} (hR : CR K m) (hV : CV c K) (p0 : 0 ≤ p) (p1 : p < K 3) (hA : AhR K p rope tied rocks m) (hp : PtrR m) (hn : n ≤ 4) (hE : ErrV K A n) (hC : ChR A n m) :
    Ok (fX1_start m) (fun m' => ChT K p rope tied rocks A n 0 m' ∧ Fr [100, 102, 103, 104] m m') := by
  have l3 := hV.1.2.1
  have hw := wide_of hV.1 p0 p1
  have ar := area_le hw.1.1 hw.1.2 hw.2.1 hw.2.2
  have N25 := pl_25 hV.1
  have hS := (curV_iff.mp hV.2).1 p p0 p1
  have p16 := pw_16 n (by omega)
  have e12 : m 18 12 = p := hA.2.2.1.1
  have e28 : m 28 p = K (13 + p) := by rw [show 13 + p = 9 + (4 + p) by omega]; exact (hR.2.2 p p0 p1).1
  have e29 : m 29 p = K (17 + p) := by rw [show 17 + p = 9 + (8 + p) by omega]; exact (hR.2.2 p p0 p1).2.1
  obtain ⟨a, b, hab, ea, eb⟩ : ∃ a b : Nat, ((a = 102 ∧ b = 103) ∨ (a = 103 ∧ b = 102)) ∧ m 100 2 = (a : Int) ∧ m 100 3 = (b : Int) := by
    rcases hp.2 with ⟨x, y⟩ | ⟨x, y⟩
    · exact ⟨102, 103, .inl ⟨rfl, rfl⟩, x, y⟩
    · exact ⟨103, 102, .inr ⟨rfl, rfl⟩, x, y⟩
  have la := la_ch hab
  have ho : a ≠ 18 ∧ a ≠ 28 ∧ a ≠ 29 ∧ a ≠ 100 ∧ a ≠ 101 ∧ a ≠ 104 ∧ (a = 102 ∨ a = 103) := by omega
  unfold fX1_start
  simp only [rd_eq, wr_eq, jn_eq, rdn_eq]
  refine lp_ok (fun (i : Int) (mm : Mem) => ∃ z : Nat, i = (z : Int) ∧ z ≤ n ∧ Bits (mm 100 5) (fun k => ∃ i : Int, (0 ≤ i ∧ i < (z : Int)) ∧ A i = 100 + (k : Int)) ∧ (∀ f, f ≠ 5 → mm 100 f = m 100 f) ∧ Fr [100] m mm) (fun i _ => ((n : Int) - i).toNat) ⟨0, rfl, by omega, ?_, fun f hf => up_idx hf, fr_up (by simp) fr_refl⟩ (by omega) ?_
  · rw [up_same]; exact bits_zero (fun k _ q => by obtain ⟨i, y, _⟩ := q; omega)
  rintro G i mm ⟨z, rfl, hz, h5, hf, hF⟩ ih
  rw [hf 1 (by decide), hC.1]
  by_cases hq : (n : Int) ≤ (z : Int)
  · have ez : z = n := by omega
    subst ez
    rw [if_pos (by omega), hf 2 (by decide), ea, Int.toNat_natCast, chk_of la.1]
    refine ok_bV (c_fillI (by decide)) ?_
    rintro m2 ⟨f2, _, F2⟩
    refine ok_bV (c_fillI (by decide)) ?_
    rintro m3 ⟨f3, _, F3⟩
    have o : ∀ x, x ≠ 104 → x ≠ a → m3 x = mm x := fun x h1 h2 => (F3 x (by simpa using h1)).trans (F2 x (by simpa using h2))
    have o' : ∀ x, x ≠ 104 → x ≠ a → x ≠ 100 → m3 x = m x := fun x h1 h2 h3 => (o x h1 h2).trans (hF x (by simpa using h3))
    unfold fX0_startFirst fX0_startSecond
    simp only [rd_eq]
    rw [o' 18 (by decide) (by omega) (by decide), e12, chk_of (by omega), bR_some, chk_of (by omega), bR_some, o' 28 (by decide) (by omega) (by decide), o' 29 (by decide) (by omega) (by decide), e28, e29, chk_of (by omega), up_cell (show 100 ≠ 104 by decide), o 100 (by decide) (by omega), hf 2 (by decide), ea, Int.toNat_natCast, chk_of la.1]
    have hF4 : Fr [100, 102, 103, 104] m (up m3 104 (K (13 + p)) (ishl 1 (K (17 + p)))) := fr_up (by simp) (fr_trans (fr_mono' hF (by decide)) (fr_trans (fr_mono F2 (fun x hx => by simp at hx ⊢; omega)) (fr_mono' F3 (by decide))))
    have e104 : ∀ j, up m3 104 (K (13 + p)) (ishl 1 (K (17 + p))) 104 j = if j = K (13 + p) then ishl 1 (K (17 + p)) else m3 104 j := fun j => up_at _ _ _ _ _
    have e100 : up m3 104 (K (13 + p)) (ishl 1 (K (17 + p))) 100 = mm 100 := (up_cell (by decide)).trans (o 100 (by decide) (by omega))
    have e101 : up m3 104 (K (13 + p)) (ishl 1 (K (17 + p))) 101 = m 101 := (up_cell (by decide)).trans (o' 101 (by decide) (by omega) (by decide))
    have ea' : ∀ q, up m3 104 (K (13 + p)) (ishl 1 (K (17 + p))) a q = m2 a q := fun q => by rw [up_cell (by omega), F3 a (by simp; omega)]
    have eb' : up m3 104 (K (13 + p)) (ishl 1 (K (17 + p))) 100 3 = (b : Int) := by rw [e100, hf 3 (by decide), eb]
    have ea2 : up m3 104 (K (13 + p)) (ishl 1 (K (17 + p))) 100 2 = (a : Int) := by rw [e100, hf 2 (by decide), ea]
    generalize up m3 104 (K (13 + p)) (ishl 1 (K (17 + p))) = m4 at *
    have hC4 : ChR A z m4 := by unfold ChR; rw [e100, e101, hf 1 (by decide)]; exact hC
    have h54 : Bits (m4 100 5) (fun k => ∃ i : Int, (0 ≤ i ∧ i < (z : Int)) ∧ A i = 100 + (k : Int)) := by rw [e100]; exact h5
    refine ok_bV (c_sortArrived (K := K) (P := fun j k => j = K (13 + p) ∧ (k : Int) = K (17 + p)) (Q := fun _ _ _ => False) N25 hn hE hC4 (by omega) setN_0 h54 (fun j j0 j1 => ?_) (fun j k _ _ q => by omega) (fun d d0 d1 j j0 j1 => ?_)) ?_
    · rw [e104]
      by_cases e : j = K (13 + p)
      · rw [if_pos e]
        have B := bits_or (x := 0) (P := fun _ => False) (bits_zero (fun _ _ q => q)) hS.2.2.1 (by omega)
        rw [ior_0l (ishl_rg _ _)] at B
        refine bits_imp B (fun k _ => ⟨fun q => ?_, fun q => .inr (by omega)⟩)
        rcases q with q | q
        · exact q.elim
        · exact ⟨e, by omega⟩
      · rw [if_neg e, f3 j j0 (by omega)]
        exact bits_zero (fun k _ q => e q.1)
    · rw [ea', f2 _ (by omega) (by omega)]
      exact bits_zero (fun k _ q => q)
    rintro m5 ⟨d1, d2⟩
    have e100' : m5 100 = m4 100 := d2 100 (by simp; omega)
    refine ok_some ⟨⟨a, b, hab, by rw [e100', ea2], by rw [e100', eb'], ?_, by rw [e100']; exact h54, fun j j0 j1 => ?_, fun d dd0 dd1 j j0 j1 => ?_⟩, fr_trans hF4 (fr_mono d2 (fun x hx => by simp at hx ⊢; omega))⟩
    · unfold ChR; rw [e100', d2 101 (by simp; omega)]; exact hC4
    · rw [d2 104 (by simp; omega), e104, if_neg (by omega), f3 j (by omega) (by omega)]
    · exact bits_imp (d1 d dd0 dd1 j j0 j1) (fun k _ => ⟨fun q => q.elim (fun q => q.elim) (fun q => q), fun q => .inr q⟩)
  · have az := hE (z : Int) (by omega) (by omega)
    rw [if_neg hq, chk_of (by omega), hF 101 (by decide), hC.2 (z : Int) (by omega) (by omega), w32_id (x := (z : Int) + 1) (by omega) (by omega)]
    have next : ∀ v : Int, Bits (ior (mm 100 5) v) (fun k => ∃ i : Int, (0 ≤ i ∧ i < (z : Int) + 1) ∧ A i = 100 + (k : Int)) → Ok (G ((z : Int) + 1) (up mm 100 5 (ior (mm 100 5) v))) (fun m' => ChT K p rope tied rocks A n 0 m' ∧ Fr [100, 102, 103, 104] m m') := by
      intro v hv
      refine ih _ _ ⟨z + 1, by omega, by omega, ?_, fun f h => ?_, fr_up (by simp) hF⟩ (by omega)
      · rw [up_same, show ((z + 1 : Nat) : Int) = (z : Int) + 1 by omega]; exact hv
      · rw [up_idx h]; exact hf f h
    by_cases h100 : A (z : Int) < 100
    · rw [if_pos h100]
      refine next 0 ?_
      have e0 : ior (mm 100 5) 0 = mm 100 5 := tb_ext (ior_rg _ _) h5.1 (fun q _ => by rw [tb_or, tb_zero]; simp)
      rw [e0]
      refine bits_imp h5 (fun k _ => ⟨fun ⟨i, y, e⟩ => ⟨i, by omega, e⟩, fun ⟨i, y, e⟩ => ⟨i, ⟨y.1, ?_⟩, e⟩⟩)
      by_cases ei : i = z
      · rw [ei] at e; omega
      · omega
    · rw [if_neg h100, chk_of (by omega), w32_id (x := A (z : Int) - 100) (by omega) (by omega)]
      refine next _ (bits_imp (bits_or h5 (show 0 ≤ A (z : Int) - 100 by omega) (by omega)) (fun k _ => ⟨?_, ?_⟩))
      · rintro (⟨i, y, e⟩ | e)
        · exact ⟨i, by omega, e⟩
        · exact ⟨(z : Int), by omega, by omega⟩
      · rintro ⟨i, y, e⟩
        by_cases ei : i = z
        · rw [ei] at e; exact .inr (by omega)
        · exact .inl ⟨i, by omega, e⟩
theorem c_goOnE {K : Int → Int} {c p rope rocks : Int} {tied : Bool} {A : Int → Int} {n h : Nat} {m : Mem} (hR : CR K m) (hP : PairV c K p rope) (hA : AhR K p rope tied rocks m) (hn : n ≤ 4) (hE : ErrV K A n) (h40 : h < 40) (hT : ChT K p rope tied rocks A n h m) :
    Ok (fX1_goOn ((h : Int) + 1) m) (fun r => (r.1 = 0 ∨ r.1 = 1) ∧ (r.1 = 1 ↔ ∃ s j k, errP K p rope tied rocks A n 0 (h + 1) s j k) ∧ ChT K p rope tied rocks A n (h + 1) r.2 ∧ AhR K p rope tied rocks r.2 ∧ Fr EC m r.2) := by
  obtain ⟨hV, c1, ⟨p0, p1⟩, ⟨r0, r1⟩⟩ := hP
  have hT0 := hT
  obtain ⟨a, b, hab, ea, eb, hC, h5, h104, hB⟩ := hT
  have la := la_ch hab
  have p16 := pw_16 n (by omega)
  have N25 := pl_25 hV.1
  have ho : a ≠ 18 ∧ a ≠ 36 ∧ a ≠ 37 ∧ a ≠ 78 ∧ a ≠ 79 ∧ a ≠ 80 ∧ a ≠ 81 ∧ a ≠ 84 ∧ a ≠ 100 ∧ a ≠ 101 ∧ a ≠ 104 ∧ b ≠ 18 ∧ b ≠ 36 ∧ b ≠ 37 ∧ b ≠ 78 ∧ b ≠ 79 ∧ b ≠ 80 ∧ b ≠ 81 ∧ b ≠ 84 ∧ b ≠ 100 ∧ b ≠ 101 ∧ b ≠ 104 ∧ a ≠ b := by omega
  have ho2 : (a = 102 ∨ a = 103) ∧ (b = 102 ∨ b = 103) := by omega
  have hna : a ∉ [18, 36, 37, 78, 79, 80, 84] := by simp; omega
  have hna2 : a ∉ [18, 36, 37, 78, 79, 80, 84, 104] := by simp; omega
  have hnb2 : b ∉ [18, 36, 37, 78, 79, 80, 84, 104] := by simp; omega
  have hto : b ≠ 100 ∧ b ≠ 101 ∧ b ≠ 104 := by omega
  have hbE : ∀ o, o ∈ [b] → o ∈ EC := fun o hh => by unfold EC; simp at hh ⊢; omega
  have hba : (b = 102 ∧ a = 103) ∨ (b = 103 ∧ a = 102) := by omega
  unfold fX1_goOn
  simp only [rd_eq, wr_eq, jn_eq, rdn_eq]
  rw [eb, Int.toNat_natCast, chk_of la.2]
  refine ok_bV (c_fillI (by decide)) ?_
  rintro m1 ⟨f1, _, F1⟩
  have F1' : Fr EC m m1 := fr_mono F1 (fun x hx => by unfold EC; simp at hx ⊢; omega)
  have hA1 : AhR K p rope tied rocks m1 := AhR_fr hA (F1 18 (by simp; omega)) (F1 78 (by simp; omega)) (F1 79 (by simp; omega)) (F1 80 (by simp; omega)) (F1 81 (by simp; omega))
  refine lp_for2 (ishl 1 (n : Int)) (fun any s mm => 0 ≤ s ∧ (any = 0 ∨ any = 1) ∧ (any = 1 ↔ ∃ s' j k, (0 ≤ s' ∧ s' < s) ∧ nxtP K p rope tied rocks ((h : Int) + 1) (errP K p rope tied rocks A n 0 h s') j k) ∧
    (∀ d, 0 ≤ d → d < ishl 1 (n : Int) → ∀ j, 0 ≤ j → j < 25 → Bits (mm b (25 * d + j)) (fun k => ∃ s', (0 ≤ s' ∧ s' < s) ∧ nxtP K p rope tied rocks ((h : Int) + 1) (errP K p rope tied rocks A n 0 h s') j k ∧ d = dnF A n s' j k)) ∧ mm a = m a ∧ mm 100 = m 100 ∧ mm 101 = m 101 ∧ (∀ j, K 1 * K 2 ≤ j → j < 25 → mm 104 j = 0) ∧ AhR K p rope tied rocks mm ∧ Fr EC m mm) ⟨by omega, .inl rfl, ⟨fun q => by omega, fun ⟨s', _, _, q, _⟩ => by omega⟩, fun d d0 d1 j j0 j1 => ?_, F1 a (by simp; omega), F1 100 (by simp; omega), F1 101 (by simp; omega), fun j j0 j1 => by rw [F1 104 (by simp; omega)]; exact h104 j j0 j1, hA1, F1'⟩ (by omega) (by omega) ?_ ?_
  · rw [f1 _ (by omega) (by omega)]; exact bits_zero (fun k _ q => by obtain ⟨s', y, _⟩ := q; omega)
  · rintro G any s mm hs ⟨s0, b01, hany, hb, ema, em100, em101, em104, hAm, hF⟩ ih
    have hCm : ChR A n mm := by unfold ChR; rw [em100, em101]; exact hC
    have hTm : ChT K p rope tied rocks A n h mm := ⟨a, b, hab, by rw [em100, ea], by rw [em100, eb], hCm, by rw [em100]; exact h5, em104, by rw [ema]; exact hB⟩
    simp only
    rw [hCm.1, if_neg (by omega)]
    obtain ⟨v, ev, v01, hv⟩ := c_isDone hV p0 p1 hn hTm s0 hs
    rw [ev, bR_some, w32_id (x := s + 1) (by omega) (by omega)]
    have skip : ∀ mm' : Mem, (¬ ∃ j k, nxtP K p rope tied rocks ((h : Int) + 1) (errP K p rope tied rocks A n 0 h s) j k) → mm' b = mm b → mm' a = m a → mm' 100 = m 100 → mm' 101 = m 101 → (∀ j, K 1 * K 2 ≤ j → j < 25 → mm' 104 j = 0) → AhR K p rope tied rocks mm' → Fr EC m mm' → Ok (G (any, s + 1) mm') (fun r => (r.1 = 0 ∨ r.1 = 1) ∧ (r.1 = 1 ↔ ∃ s j k, errP K p rope tied rocks A n 0 (h + 1) s j k) ∧ ChT K p rope tied rocks A n (h + 1) r.2 ∧ AhR K p rope tied rocks r.2 ∧ Fr EC m r.2) := by
      intro mm' hno g1 g2 g3 g4 g5 g6 g7
      refine ih _ mm' ⟨by omega, b01, hany.trans ⟨fun ⟨s', j, k, y, q⟩ => ⟨s', j, k, by omega, q⟩, fun ⟨s', j, k, y, q⟩ => ⟨s', j, k, ⟨y.1, ?_⟩, q⟩⟩, fun d d0 d1 j j0 j1 => ?_, g2, g3, g4, g5, g6, g7⟩
      · by_cases e : s' = s
        · rw [e] at q; exact absurd ⟨j, k, q⟩ hno
        · omega
      · rw [g1]
        refine bits_imp (hb d d0 d1 j j0 j1) (fun k _ => ⟨fun ⟨s', y, q⟩ => ⟨s', by omega, q⟩, fun ⟨s', y, q⟩ => ⟨s', ⟨y.1, ?_⟩, q⟩⟩)
        by_cases e : s' = s
        · rw [e] at q; exact absurd ⟨j, k, q.1⟩ hno
        · omega
    by_cases hv0 : v = 0
    · rw [if_pos hv0]
      refine skip mm ?_ rfl ema em100 em101 em104 hAm hF
      rintro ⟨j, k, _, _, _, j0, _, _, k0, q, _⟩
      have := hv.mpr ⟨j0, k0, q⟩
      omega
    · have hRm : CR K mm := CR_fr hR (fun o z1 z2 => hF o (by unfold EC; simp; omega))
      rw [if_neg hv0, em100, ea, Int.toNat_natCast, chk_of la.1, w32_id (x := s * 25) (by omega) (by omega)]
      refine ok_bW (c_stepOn (src := a) (dst := 104) (n0 := 400) (n2 := 25) (P := errP K p rope tied rocks A n 0 h s) hRm hV c1 p0 p1 r0 r1 (show 1 ≤ (h : Int) + 1 by omega) (by omega) hAm hna (by decide) (by decide) (show 0 ≤ s * 25 by omega) (by omega) (by decide) (by decide) (by decide) (by decide) (fun j j0 j1 => ?_) (fun j k _ _ q => (errP_rg hV p0 p1 (by omega) setN_0 h s j k q).1.2)) ?_
      · rw [ema, show s * 25 + j = 25 * s + j by omega]; exact hB s s0 hs j j0 (by omega)
      rintro x m2 ⟨g1, g2, g3, g4, g5, g6, g7⟩
      simp only at g1 g2 g3 g4 g5 g6 g7
      have e100 : m2 100 = m 100 := (g7 100 (by decide)).trans em100
      have e101 : m2 101 = m 101 := (g7 101 (by decide)).trans em101
      have e2a : m2 a = m a := (g7 a hna2).trans ema
      have e2b : m2 b = mm b := g7 b hnb2
      have e104 : ∀ j, K 1 * K 2 ≤ j → j < 25 → m2 104 j = 0 := fun j j0 j1 => by rw [g4 j (by omega)]; exact em104 j j0 j1
      have F2 : Fr EC m m2 := fr_trans hF (fr_mono' g7 (by decide))
      by_cases hx : x = 0
      · rw [if_pos hx]
        refine skip m2 ?_ e2b e2a e100 e101 e104 g5 F2
        rintro ⟨j, k, q⟩
        have := g2.mpr ⟨j, k, q.1, q⟩
        omega
      · rw [if_neg hx, e100, eb, Int.toNat_natCast, chk_of la.2]
        have hC2 : ChR A n m2 := by unfold ChR; rw [e100, e101]; exact hC
        refine ok_bV (c_sortArrived (K := K) (P := nxtP K p rope tied rocks ((h : Int) + 1) (errP K p rope tied rocks A n 0 h s)) (Q := fun d j k => ∃ s', (0 ≤ s' ∧ s' < s) ∧ nxtP K p rope tied rocks ((h : Int) + 1) (errP K p rope tied rocks A n 0 h s') j k ∧ d = dnF A n s' j k) N25 hn hE hC2 hto (setN_of hn s0 hs) (by rw [e100]; exact h5) (fun j j0 j1 => ?_) (fun j k _ _ q => by have := q.2.1; omega) (fun d d0 d1 j j0 j1 => by rw [e2b]; exact hb d d0 d1 j j0 j1)) ?_
        · by_cases hj : j < K 1 * K 2
          · have := g3 j j0 hj
            rwa [show (0 : Int) + j = j by omega] at this
          · rw [e104 j (by omega) j1]
            exact bits_zero (fun k _ q => hj q.1.2)
        rintro m3 ⟨k1, k2⟩
        have k2' : ∀ o, o ≠ b → m3 o = m2 o := fun o hh => k2 o (by simpa using hh)
        refine ih _ m3 ⟨by omega, .inr rfl, ⟨fun _ => ?_, fun _ => rfl⟩, fun d d0 d1 j j0 j1 => bits_imp (k1 d d0 d1 j j0 j1) (fun k _ => ⟨?_, ?_⟩), (k2' a (by omega)).trans e2a, (k2' 100 (by omega)).trans e100, (k2' 101 (by omega)).trans e101, fun j j0 j1 => by rw [k2' 104 (by omega)]; exact e104 j j0 j1, AhR_fr g5 (k2' 18 (by omega)) (k2' 78 (by omega)) (k2' 79 (by omega)) (k2' 80 (by omega)) (k2' 81 (by omega)), fr_trans F2 (fr_mono k2 hbE)⟩
        · obtain ⟨j, k, _, q⟩ := g2.mp (by omega)
          exact ⟨s, j, k, by omega, q⟩
        · rintro (⟨s', y, q⟩ | ⟨q1, q2⟩)
          · exact ⟨s', by omega, q⟩
          · exact ⟨s, by omega, q1, q2⟩
        · rintro ⟨s', y, q1, q2⟩
          by_cases e : s' = s
          · rw [e] at q1 q2; exact .inr ⟨q1, q2⟩
          · exact .inl ⟨s', by omega, q1, q2⟩
  · rintro G any mm ⟨_, b01, hany, hb, ema, em100, em101, em104, hAm, hF⟩
    simp only
    rw [em100, hC.1, if_pos (Int.le_refl _), ea, eb, Int.toNat_natCast, Int.toNat_natCast, chk_of la.1, chk_of la.2, chk_of b01]
    have all : ∀ s' j k, nxtP K p rope tied rocks ((h : Int) + 1) (errP K p rope tied rocks A n 0 h s') j k → 0 ≤ s' ∧ s' < ishl 1 (n : Int) := by
      rintro s' j k ⟨_, _, _, j0, _, _, k0, q, _⟩
      exact (setN_rg hn (errP_rg hV p0 p1 (by omega) setN_0 h s' j0 k0 q).2).1
    have u : ∀ o, o ≠ 100 → up (up mm 100 2 (b : Int)) 100 3 (a : Int) o = mm o := fun o hh => (up_cell hh).trans (up_cell hh)
    have u1 : ∀ f, f ≠ 2 → f ≠ 3 → up (up mm 100 2 (b : Int)) 100 3 (a : Int) 100 f = m 100 f := fun f h2 h3 => by rw [up_idx h3, up_idx h2, em100]
    have u2 : up (up mm 100 2 (b : Int)) 100 3 (a : Int) 100 2 = (b : Int) := by rw [up_idx (by decide), up_same]
    have u3 : up (up mm 100 2 (b : Int)) 100 3 (a : Int) 100 3 = (a : Int) := up_same _ _ _ _
    have uF : Fr EC m (up (up mm 100 2 (b : Int)) 100 3 (a : Int)) := fr_up (by unfold EC; simp) (fr_up (by unfold EC; simp) hF)
    generalize up (up mm 100 2 (b : Int)) 100 3 (a : Int) = mf at *
    refine ok_some ⟨b01, hany.trans ⟨fun ⟨s', j, k, _, q⟩ => ⟨dnF A n s' j k, j, k, s', q, rfl⟩, fun ⟨s, j, k, s', q, _⟩ => ⟨s', j, k, all s' j k q, q⟩⟩, ⟨b, a, hba, u2, u3, ?_, ?_, ?_, fun d d0 d1 j j0 j1 => ?_⟩, ?_, uF⟩
    · unfold ChR
      show mf 100 1 = _ ∧ ∀ i : Int, 0 ≤ i → i < (n : Int) → mf 101 i = A i
      rw [u1 1 (by decide) (by decide), u 101 (by decide), em101]; exact hC
    · show Bits (mf 100 5) _
      rw [u1 5 (by decide) (by decide)]; exact h5
    · intro j j0 j1
      show mf 104 j = 0
      rw [u 104 (by decide)]; exact em104 j j0 j1
    · show Bits (mf b (25 * d + j)) _
      rw [u b (by omega)]
      exact bits_imp (hb d d0 d1 j j0 j1) (fun k _ => ⟨fun ⟨s', _, q⟩ => ⟨s', q⟩, fun ⟨s', q⟩ => ⟨s', all s' j k q.1, q⟩⟩)
    · exact AhR_fr hAm (u 18 (by decide)) (u 78 (by decide)) (u 79 (by decide)) (u 80 (by decide)) (u 81 (by decide))

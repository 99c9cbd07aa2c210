/-! ===== D66: errands, the class's answers ===== -/
def allS (n : Nat) : Int := w32 (ishl 1 (n : Int) - 1)
def butS (n : Nat) (i : Int) : Int := iand (w32 (ishl 1 (n : Int) - 1)) (ixor (ishl 1 i) (-1))
def dnAt (K : Int → Int) (p rope : Int) (tied : Bool) (rocks : Int) (A : Int → Int) (n h : Nat) (i : Int) : Prop := ∃ s j k, errP K p rope tied rocks A n 0 h s j k ∧ (s = allS n ∨ s = butS n i)
def DropP (Q : Nat → Int → Prop) (n : Nat) (v : Int) : Prop := (∃ h : Nat, h ≤ 40 ∧ (0 ≤ v ∧ v < (n : Int)) ∧ Q h v ∧ (∀ i : Int, 0 ≤ i → i < v → ¬ Q h i) ∧ ∀ h', h' < h → ∀ i : Int, 0 ≤ i → i < (n : Int) → ¬ Q h' i) ∨ (v = -1 ∧ ∀ h, h ≤ 40 → ∀ i : Int, 0 ≤ i → i < (n : Int) → ¬ Q h i)
theorem dropP_uq {Q : Nat → Int → Prop} {n : Nat} {a b : Int} (ha : DropP Q n a) (hb : DropP Q n b) : a = b := by
  rcases ha with ⟨h, h40, ra, qa, la, ea⟩ | ⟨ea, na⟩ <;> rcases hb with ⟨g, g40, rb, qb, lb, eb⟩ | ⟨eb, nb⟩
  · have n1 : ¬ g < h := fun z => ea g z b rb.1 rb.2 qb
    have n2 : ¬ h < g := fun z => eb h z a ra.1 ra.2 qa
    have e : h = g := by omega
    subst e
    have n3 : ¬ a < b := fun z => lb a ra.1 z qa
    have n4 : ¬ b < a := fun z => la b rb.1 z qb
    omega
  · exact absurd qa (nb h h40 a ra.1 ra.2)
  · exact absurd qb (na g g40 b rb.1 rb.2)
  · rw [ea, eb]
theorem c_goOnP {K : Int → Int} {c p rope rocks : Int} {tied : Bool} {A : Int → Int} {n h : Nat} {m : Mem} (hR : CR K m) (hP : PairV c K p rope) (hA : AhR K p rope tied rocks m) (hn : n ≤ 4) (hE : ErrV K A n) (h1 : 1 ≤ h) (h40 : h ≤ 40) (hT : ChT K p rope tied rocks A n (h - 1) m) :
    Ok (fX1_goOn (h : Int) m) (fun r => (r.1 = 0 ∨ r.1 = 1) ∧ (r.1 = 1 ↔ ∃ s j k, errP K p rope tied rocks A n 0 h s j k) ∧ ChT K p rope tied rocks A n h r.2 ∧ AhR K p rope tied rocks r.2 ∧ Fr EC m r.2) := by
  have := c_goOnE hR hP hA hn hE (show h - 1 < 40 by omega) hT
  rwa [show ((h - 1 : Nat) : Int) + 1 = (h : Int) by omega, show h - 1 + 1 = h by omega] at this
theorem c_hoursForAll {K : Int → Int} {c p rope rocks : Int} {tied : Bool} {A : Int → Int} {n : Nat} {m : Mem} (hR : CR K m) (hP : PairV c K p rope) (hA : AhR K p rope tied rocks m) (hp : PtrR m) (hn : n ≤ 4) (hE : ErrV K A n) (hC : ChR A n m) :
    Ok (fX1_hoursForAll m) (fun r => FirstH (fun h => ∃ j k, errP K p rope tied rocks A n 0 h (allS n) j k) r.1 ∧ (∃ h, ChT K p rope tied rocks A n h r.2) ∧ AhR K p rope tied rocks r.2 ∧ Fr EC m r.2) := by
  have hP' := hP
  obtain ⟨hV, c1, ⟨p0, p1⟩, ⟨r0, r1⟩⟩ := hP
  have ar := all_rg n (by omega)
  unfold fX1_hoursForAll
  simp only [rd_eq]
  rw [hC.1]
  refine ok_bV (c_startE hR hV p0 p1 hA hp hn hE hC) ?_
  rintro m1 ⟨a1, a2⟩
  have hA1 : AhR K p rope tied rocks m1 := AhR_fr hA (a2 18 (by decide)) (a2 78 (by decide)) (a2 79 (by decide)) (a2 80 (by decide)) (a2 81 (by decide))
  refine lp_ok (fun (i : Int) (mm : Mem) => ∃ h : Nat, i = (h : Int) ∧ h ≤ 41 ∧ ChT K p rope tied rocks A n (h - 1) mm ∧ (∀ h', h' < h → ¬ ∃ j k, errP K p rope tied rocks A n 0 h' (allS n) j k) ∧ AhR K p rope tied rocks mm ∧ Fr EC m mm) (fun i _ => (41 - i).toNat) ⟨0, rfl, by omega, a1, fun h' z => by omega, hA1, fr_mono' a2 (by decide)⟩ (by decide) ?_
  rintro G i mm ⟨h, rfl, hh, b1, b2, b3, b4⟩ ih
  have hRm : CR K mm := CR_fr hR (fun o z1 z2 => b4 o (by unfold EC; simp; omega))
  by_cases hx : h = 41
  · rw [if_pos (by omega)]
    exact ok_some ⟨.inr ⟨rfl, fun h' z => b2 h' (by omega)⟩, ⟨_, b1⟩, b3, b4⟩
  · rw [if_neg (by omega)]
    refine ok_jn (fun _ mm' => ChT K p rope tied rocks A n h mm' ∧ AhR K p rope tied rocks mm' ∧ Fr EC m mm') ?_ ?_
    · rintro _ mm' ⟨d1, d2, d3⟩
      obtain ⟨v, ev, v01, hv⟩ := c_isDone hV p0 p1 hn d1 ar.1 ar.2
      rw [ev, bR_some, w32_id (x := (h : Int) + 1) (by omega) (by omega)]
      by_cases hv0 : v = 0
      · rw [if_pos hv0]
        refine ih _ mm' ⟨h + 1, by omega, by omega, d1, fun h' z q => ?_, d2, d3⟩ (by omega)
        by_cases e : h' = h
        · rw [e] at q; have := hv.mpr q; omega
        · exact b2 h' (by omega) q
      · rw [if_neg hv0]
        exact ok_some ⟨.inl ⟨h, by omega, rfl, hv.mp (by omega), b2⟩, ⟨_, d1⟩, d2, d3⟩
    · intro J hJ
      by_cases h0 : h = 0
      · rw [if_pos (by omega)]
        exact hJ () mm ⟨by rw [h0] at b1 ⊢; exact b1, b3, b4⟩
      · rw [if_neg (by omega)]
        refine ok_bW (c_goOnP hRm hP' b3 hn hE (by omega) (by omega) b1) ?_
        rintro x m2 ⟨g1, g2, g3, g4, g5⟩
        simp only at g1 g2 g3 g4 g5
        by_cases hx0 : x = 0
        · rw [if_neg (show ¬ ¬ x = 0 from fun z => z hx0)]
          refine ok_some ⟨.inr ⟨rfl, fun h' z q => ?_⟩, ⟨_, g3⟩, g4, fr_trans b4 g5⟩
          by_cases e : h' < h
          · exact b2 h' e q
          · obtain ⟨j, k, q⟩ := q
            have := g2.mpr (errP_down (h' - h) ⟨_, j, k, by rw [show h + (h' - h) = h' by omega]; exact q⟩)
            omega
        · rw [if_pos hx0]
          exact hJ () m2 ⟨g3, g4, fr_trans b4 g5⟩
theorem c_bestDropped {K : Int → Int} {c p rope rocks : Int} {tied : Bool} {A : Int → Int} {n : Nat} {m : Mem} (hR : CR K m) (hP : PairV c K p rope) (hA : AhR K p rope tied rocks m) (hp : PtrR m) (hn : n ≤ 4) (hE : ErrV K A n) (hC : ChR A n m) :
    Ok (fX1_bestDropped m) (fun r => DropP (dnAt K p rope tied rocks A n) n r.1 ∧ (∃ h, ChT K p rope tied rocks A n h r.2) ∧ AhR K p rope tied rocks r.2 ∧ Fr EC m r.2) := by
  have hP' := hP
  obtain ⟨hV, c1, ⟨p0, p1⟩, ⟨r0, r1⟩⟩ := hP
  have ar := all_rg n (by omega)
  unfold fX1_bestDropped
  simp only [rd_eq]
  rw [hC.1]
  refine ok_bV (c_startE hR hV p0 p1 hA hp hn hE hC) ?_
  rintro m1 ⟨a1, a2⟩
  have hA1 : AhR K p rope tied rocks m1 := AhR_fr hA (a2 18 (by decide)) (a2 78 (by decide)) (a2 79 (by decide)) (a2 80 (by decide)) (a2 81 (by decide))
  refine lp_ok (fun (i : Int) (mm : Mem) => ∃ h : Nat, i = (h : Int) ∧ h ≤ 41 ∧ ChT K p rope tied rocks A n (h - 1) mm ∧ (∀ h', h' < h → ∀ i : Int, 0 ≤ i → i < (n : Int) → ¬ dnAt K p rope tied rocks A n h' i) ∧ AhR K p rope tied rocks mm ∧ Fr EC m mm) (fun i _ => (41 - i).toNat) ⟨0, rfl, by omega, a1, fun h' z => by omega, hA1, fr_mono' a2 (by decide)⟩ (by decide) ?_
  rintro G i mm ⟨h, rfl, hh, b1, b2, b3, b4⟩ ih
  have hRm : CR K mm := CR_fr hR (fun o z1 z2 => b4 o (by unfold EC; simp; omega))
  by_cases hx : h = 41
  · rw [if_pos (by omega)]
    exact ok_some ⟨.inr ⟨rfl, fun h' z => b2 h' (by omega)⟩, ⟨_, b1⟩, b3, b4⟩
  · rw [if_neg (by omega)]
    refine ok_jn (fun _ mm' => ChT K p rope tied rocks A n h mm' ∧ AhR K p rope tied rocks mm' ∧ Fr EC m mm') ?_ ?_
    · rintro _ mm' ⟨d1, d2, d3⟩
      have hCm : ChR A n mm' := by
        obtain ⟨_, _, _, _, _, q, _⟩ := d1
        exact q
      simp only [jn_eq]
      refine lp_for (n : Int) (fun i m3 => 0 ≤ i ∧ m3 = mm' ∧ ∀ i' : Int, 0 ≤ i' → i' < i → ¬ dnAt K p rope tied rocks A n h i') ⟨by omega, rfl, fun _ _ _ => by omega⟩ (by omega) (by omega) ?_ ?_
      · rintro G2 i m3 hi ⟨i0, rfl, hno⟩ ih2
        have br := but_rg n (by omega) i.toNat (by omega)
        rw [Int.toNat_of_nonneg i0] at br
        obtain ⟨v, ev, v01, hv⟩ := c_isDone hV p0 p1 hn d1 ar.1 ar.2
        obtain ⟨u, eu, u01, hu⟩ := c_isDone hV p0 p1 hn d1 br.1 br.2
        have yes : dnAt K p rope tied rocks A n h i → Ok (some (i, m3)) (fun r => DropP (dnAt K p rope tied rocks A n) n r.1 ∧ (∃ h, ChT K p rope tied rocks A n h r.2) ∧ AhR K p rope tied rocks r.2 ∧ Fr EC m r.2) := fun q =>
          ok_some ⟨.inl ⟨h, by omega, ⟨i0, hi⟩, q, hno, b2⟩, ⟨_, d1⟩, d2, d3⟩
        rw [hCm.1, if_neg (by omega), ev, bR_some]
        by_cases hv0 : v = 0
        · rw [if_neg (show ¬ ¬ v = 0 from fun z => z hv0), eu, bR_some, w32_id (x := i + 1) (by omega) (by omega)]
          by_cases hu0 : u = 0
          · rw [if_pos hu0]
            refine ih2 _ ⟨by omega, rfl, fun i' a b q => ?_⟩
            by_cases e : i' = i
            · obtain ⟨s, j, k, q1, q2 | q2⟩ := q
              · rw [q2] at q1; have := hv.mpr ⟨j, k, q1⟩; omega
              · rw [q2, e] at q1; have := hu.mpr ⟨j, k, q1⟩; omega
            · exact hno i' a (by omega) q
          · rw [if_neg hu0]
            obtain ⟨j, k, q⟩ := hu.mp (by omega)
            exact yes ⟨_, j, k, q, .inr rfl⟩
        · rw [if_pos hv0]
          obtain ⟨j, k, q⟩ := hv.mp (by omega)
          exact yes ⟨_, j, k, q, .inl rfl⟩
      · rintro G2 m3 ⟨_, rfl, hno⟩
        rw [hCm.1, if_pos (Int.le_refl _), w32_id (x := (h : Int) + 1) (by omega) (by omega)]
        refine ih _ m3 ⟨h + 1, by omega, by omega, d1, fun h' z i i0 i1 q => ?_, d2, d3⟩ (by omega)
        by_cases e : h' = h
        · rw [e] at q; exact hno i i0 i1 q
        · exact b2 h' (by omega) i i0 i1 q
    · intro J hJ
      by_cases h0 : h = 0
      · rw [if_pos (by omega)]
        exact hJ () mm ⟨by rw [h0] at b1 ⊢; exact b1, b3, b4⟩
      · rw [if_neg (by omega)]
        refine ok_bW (c_goOnP hRm hP' b3 hn hE (by omega) (by omega) b1) ?_
        rintro x m2 ⟨g1, g2, g3, g4, g5⟩
        simp only at g1 g2 g3 g4 g5
        by_cases hx0 : x = 0
        · rw [if_neg (show ¬ ¬ x = 0 from fun z => z hx0)]
          refine ok_some ⟨.inr ⟨rfl, fun h' z i i0 i1 q => ?_⟩, ⟨_, g3⟩, g4, fr_trans b4 g5⟩
          by_cases e : h' < h
          · exact b2 h' e i i0 i1 q
          · obtain ⟨s, j, k, q, _⟩ := q
            have := g2.mpr (errP_down (h' - h) ⟨s, j, k, by rw [show h + (h' - h) = h' by omega]; exact q⟩)
            omega
        · rw [if_pos hx0]
          exact hJ () m2 ⟨g3, g4, fr_trans b4 g5⟩
/-! the throws -/
def errB (K A : Int → Int) : Nat → Bool := allB (fun i => decide ((0 ≤ A i ∧ A i < K 1 * K 2) ∨ (100 ≤ A i ∧ A i < 100 + K 1 * K 2)))
def errR (K a b n : Int → Int) (t : Int) : Int :=
  if 0 ≤ t ∧ t < 4 then (if a t = -1 then 2 else if 1 ≤ b t ∧ b t ≤ 4 then (if errB K (fun i => n (30 * t + i)) (b t).toNat = true then 0 else 1) else 1) else 3
def errC (K a b n : Int → Int) (p t : Int) : Int := if 0 ≤ p ∧ p < K 3 then errR K a b n t else 3
theorem errC_rg {K a b n : Int → Int} {p t : Int} : errC K a b n p t = 0 ∨ errC K a b n p t = 1 ∨ errC K a b n p t = 2 ∨ errC K a b n p t = 3 := by
  unfold errC errR
  repeat' split
  all_goals simp
theorem errC_inv {K a b n : Int → Int} {p t : Int} (h : errC K a b n p t = 0) : (0 ≤ p ∧ p < K 3) ∧ (0 ≤ t ∧ t < 4) ∧ a t ≠ -1 ∧ (1 ≤ b t ∧ b t ≤ 4) ∧ ErrV K (fun i => n (30 * t + i)) (b t).toNat := by
  unfold errC errR at h
  by_cases hp : 0 ≤ p ∧ p < K 3
  · rw [if_pos hp] at h
    by_cases ht : 0 ≤ t ∧ t < 4
    · rw [if_pos ht] at h
      by_cases ha : a t = -1
      · rw [if_pos ha] at h; omega
      · rw [if_neg ha] at h
        by_cases hb : 1 ≤ b t ∧ b t ≤ 4
        · rw [if_pos hb] at h
          by_cases hs : errB K (fun i => n (30 * t + i)) (b t).toNat = true
          · exact ⟨hp, ht, ha, hb, fun i i0 i1 => of_decide_eq_true (allB_at hs i i0 i1)⟩
          · rw [if_neg hs] at h; omega
        · rw [if_neg hb] at h; omega
    · rw [if_neg ht] at h; omega
  · rw [if_neg hp] at h; omega
theorem c_needErrands {K : Int → Int} {c p t : Int} {m : Mem} (hR : CR K m) (hV : CV c K) (hT : TrayR m) : Ok (fX11_needErrands p t m) (fun r => r.1 = errC K (m 309) (m 310) (m 311) p t ∧ (r.1 ≠ 0 → r.2.2 = m) ∧ (r.1 = 0 → ChR (fun i => m 311 (30 * t + i)) (m 310 t).toNat r.2.2 ∧ (∀ f, f ≠ 1 → r.2.2 100 f = m 100 f) ∧ Fr [100, 101] m r.2.2)) := by
  have N25 := pl_25 hV.1
  unfold fX11_needErrands errC errR
  rw [c_needPair hR hV, bX_if (by decide)]
  by_cases hp : 0 ≤ p ∧ p < K 3
  · rw [if_pos hp, if_pos hp, c_needRow hT]
    by_cases ht : 0 ≤ t ∧ t < 4
    · obtain ⟨tm, tr⟩ := tray_miss hT ht.1 ht.2
      rw [if_pos ht, if_pos ht]
      by_cases hm : m 309 t = -1
      · rw [if_pos hm, if_pos hm, bX_some2]
        exact ok_some ⟨rfl, fun _ => rfl, fun z => by simp only at z; omega⟩
      · obtain ⟨r1, r2, r3, r4, r5⟩ := tr hm
        rw [if_neg hm, if_neg hm, bX_some0, chk_of (by omega)]
        simp only [rd_eq, wr_eq, jn_eq, r4]
        rw [c_needWithin, bX_if (by decide)]
        by_cases hw : 1 ≤ m 310 t ∧ m 310 t ≤ 4
        · rw [if_pos hw, if_pos hw, c_places hR.1 hV.1, bR_some]
          refine lp_ok (fun (i : Int) (mm : Mem) => ∃ j : Nat, i = (j : Int) ∧ (j : Int) ≤ m 310 t ∧ mm = m ∧ errB K (fun i => m 311 (30 * t + i)) j = true) (fun i _ => (m 310 t - i).toNat) ⟨0, rfl, by omega, rfl, rfl⟩ (by show (m 310 t - 0).toNat < _; omega) ?_
          rintro G i mm ⟨j, rfl, hj, rfl, hs⟩ ih
          by_cases hq : mm 310 t ≤ (j : Int)
          · rw [if_pos hq, show (mm 310 t).toNat = j by omega, if_pos hs]
            refine lp_for (mm 310 t) (fun i m2 => 0 ≤ i ∧ m2 100 1 = mm 310 t ∧ (∀ i' : Int, 0 ≤ i' → i' < i → m2 101 i' = mm 311 (30 * t + i')) ∧ (∀ f, f ≠ 1 → m2 100 f = mm 100 f) ∧ Fr [100, 101] mm m2) ⟨by omega, by rw [up_same], fun _ _ _ => by omega, fun f hf => up_idx hf, fr_up (by simp) fr_refl⟩ (by omega) (by omega) ?_ ?_
            · rintro G2 i m2 hi ⟨i0, h1, h2, h3, hF⟩ ih2
              have ez : (((mm 310 t).toNat : Nat) : Int) = mm 310 t := Int.toNat_of_nonneg (by omega)
              have ev := of_decide_eq_true (allB_at hs i i0 (by omega))
              simp only at ev
              rw [if_neg (by omega), c_at ht.1 ht.2 i0 (by omega), bR_some, hF _ (by simp; omega), (r5 i i0 (by omega)).1, chk_of (by omega), w32_id (x := mm 311 (30 * t + i)) (by omega) (by omega), w32_id (x := i + 1) (by omega) (by omega)]
              refine ih2 _ ⟨by omega, by rw [up_cell (by decide)]; exact h1, fun i' a b => ?_, fun f hf => by rw [up_cell (by decide)]; exact h3 f hf, fr_up (by simp) hF⟩
              by_cases e : i' = i
              · rw [e, up_same]
              · rw [up_idx e]; exact h2 i' a (by omega)
            · rintro G2 m2 ⟨_, h1, h2, h3, hF⟩
              rw [if_pos (Int.le_refl _)]
              exact ok_some ⟨rfl, fun z => absurd rfl z, fun _ => ⟨⟨by show m2 100 1 = _; omega, fun i a b => h2 i a (by omega)⟩, h3, hF⟩⟩
          · have ev := (r5 (j : Int) (by omega) (by omega)).1
            rw [if_neg hq, c_at ht.1 ht.2 (by omega) (by omega), bR_some, ev, w32_id (x := 100 + K 1 * K 2) (by omega) (by omega)]
            have stop : ¬ ((0 ≤ mm 311 (30 * t + (j : Int)) ∧ mm 311 (30 * t + (j : Int)) < K 1 * K 2) ∨ (100 ≤ mm 311 (30 * t + (j : Int)) ∧ mm 311 (30 * t + (j : Int)) < 100 + K 1 * K 2)) → Ok (some ((1 : Int), (0 : Int), mm)) (fun r => r.1 = (if errB K (fun i => mm 311 (30 * t + i)) (mm 310 t).toNat = true then 0 else 1) ∧ (r.1 ≠ 0 → r.2.2 = mm) ∧ (r.1 = 0 → ChR (fun i => mm 311 (30 * t + i)) (mm 310 t).toNat r.2.2 ∧ (∀ f, f ≠ 1 → r.2.2 100 f = mm 100 f) ∧ Fr [100, 101] mm r.2.2)) := by
              intro z
              have nz : ¬ errB K (fun i => mm 311 (30 * t + i)) (mm 310 t).toNat = true := fun q => z (of_decide_eq_true (allB_at q (j : Int) (by omega) (by omega)))
              exact ok_some ⟨by rw [if_neg nz], fun _ => rfl, fun q => by simp only at q; omega⟩
            have go : ((0 ≤ mm 311 (30 * t + (j : Int)) ∧ mm 311 (30 * t + (j : Int)) < K 1 * K 2) ∨ (100 ≤ mm 311 (30 * t + (j : Int)) ∧ mm 311 (30 * t + (j : Int)) < 100 + K 1 * K 2)) → Ok (G (w32 ((j : Int) + 1)) mm) (fun r => r.1 = (if errB K (fun i => mm 311 (30 * t + i)) (mm 310 t).toNat = true then 0 else 1) ∧ (r.1 ≠ 0 → r.2.2 = mm) ∧ (r.1 = 0 → ChR (fun i => mm 311 (30 * t + i)) (mm 310 t).toNat r.2.2 ∧ (∀ f, f ≠ 1 → r.2.2 100 f = mm 100 f) ∧ Fr [100, 101] mm r.2.2)) := by
              intro z
              rw [w32_id (by omega) (by omega)]
              refine ih _ _ ⟨j + 1, by omega, by omega, rfl, ?_⟩ (by omega)
              show (errB K (fun i => mm 311 (30 * t + i)) j && decide ((0 ≤ mm 311 (30 * t + (j : Int)) ∧ mm 311 (30 * t + (j : Int)) < K 1 * K 2) ∨ (100 ≤ mm 311 (30 * t + (j : Int)) ∧ mm 311 (30 * t + (j : Int)) < 100 + K 1 * K 2))) = true
              rw [hs, decide_eq_true z]; rfl
            by_cases h1 : mm 311 (30 * t + (j : Int)) < 0
            · rw [if_pos h1]; exact stop (by omega)
            · rw [if_neg h1]
              by_cases h2 : 100 + K 1 * K 2 ≤ mm 311 (30 * t + (j : Int))
              · rw [if_pos h2]; exact stop (by omega)
              · rw [if_neg h2]
                by_cases h3 : mm 311 (30 * t + (j : Int)) < K 1 * K 2
                · rw [if_pos h3]; exact go (by omega)
                · rw [if_neg h3]
                  by_cases h4 : 100 ≤ mm 311 (30 * t + (j : Int))
                  · rw [if_pos h4]; exact go (by omega)
                  · rw [if_neg h4]; exact stop (by omega)
        · rw [if_neg hw, if_neg hw]
          exact ok_some ⟨rfl, fun _ => rfl, fun z => by simp only at z; omega⟩
    · rw [if_neg ht, if_neg ht, bX_some3]
      exact ok_some ⟨rfl, fun _ => rfl, fun z => by simp only at z; omega⟩
  · rw [if_neg hp, if_neg hp]
    exact ok_some ⟨rfl, fun _ => rfl, fun z => by simp only at z; omega⟩

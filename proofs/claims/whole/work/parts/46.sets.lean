/-! ===== D26: the class's sets of all hours ===== -/
def rchP (K : Int → Int) (p rope : Int) (tied : Bool) (rocks : Int) : Nat → Int → Nat → Prop
  | 0 => fun j k => j = K (13 + p) ∧ (k : Int) = K (17 + p)
  | n + 1 => nxtP K p rope tied rocks ((n : Int) + 1) (rchP K p rope tied rocks n)
def SetsR (K : Int → Int) (p rope : Int) (tied : Bool) (rocks : Int) (n : Nat) (m : Mem) : Prop :=
  ∀ h : Nat, h ≤ n → ∀ j, 0 ≤ j → j < K 1 * K 2 → Bits (m 82 (25 * h + j)) (rchP K p rope tied rocks h j)
/-- a pair, an island on which it goes -/
def PairV (c : Int) (K : Int → Int) (p rope : Int) : Prop := CV c K ∧ c ≤ 1000000 ∧ (0 ≤ p ∧ p < K 3) ∧ (0 ≤ rope ∧ rope ≤ 20)
theorem rch_rg {K : Int → Int} {c p rope rocks : Int} {tied : Bool} (hV : CV c K) (p0 : 0 ≤ p) (p1 : p < K 3) : ∀ (n : Nat) (j : Int) (k : Nat), rchP K p rope tied rocks n j k → (0 ≤ j ∧ j < K 1 * K 2) ∧ (k : Int) < K 1 * K 2
  | 0, j, k, h => by
    have hS := (curV_iff.mp hV.2).1 p p0 p1
    obtain ⟨h1, h2⟩ : j = K (13 + p) ∧ (k : Int) = K (17 + p) := h
    omega
  | n + 1, j, k, h => by
    obtain ⟨h0, h1, _⟩ : nxtP K p rope tied rocks ((n : Int) + 1) (rchP K p rope tied rocks n) j k := h
    exact ⟨h0, h1⟩
theorem near_of {K : Int → Int} {c p rope rocks : Int} {tied : Bool} {m : Mem} (hV : CV c K) (p0 : 0 ≤ p) (p1 : p < K 3) (h : AhR K p rope tied rocks m) : NearOk m := by
  have hw := wide_of hV.1 p0 p1
  refine .inr ?_
  rw [h.1.2]
  exact ⟨hw.1, K 2, hw.2, h.1.1, by rw [h.1.1]; exact h.2.1⟩
theorem c_bind {K : Int → Int} {p rope rope' rocks : Int} {tied t' : Bool} {m : Mem} (h : AhR K p rope tied rocks m) : Ok (fX0_bind rope' (if t' then 1 else 0) m) (fun m' => AhR K p rope' t' rocks m' ∧ Fr [18] m m') := by
  obtain ⟨⟨s9, s10⟩, hN, ⟨s12, s13, s14, s15⟩, ⟨⟨t0, t1, t2⟩, _⟩⟩ := h
  unfold fX0_bind
  simp only [wr_eq]
  rw [chk_of (by cases t' <;> simp)]
  have e : ∀ i, i ≠ 14 → i ≠ 15 → i ≠ 17 → up (up (up m 18 14 rope') 18 15 (if t' then 1 else 0)) 18 17 0 18 i = m 18 i := fun i a b d => by rw [up_idx d, up_idx b, up_idx a]
  have e14 : up (up (up m 18 14 rope') 18 15 (if t' then 1 else 0)) 18 17 0 18 14 = rope' := by rw [up_idx (by decide), up_idx (by decide), up_same]
  have e15 : up (up (up m 18 14 rope') 18 15 (if t' then 1 else 0)) 18 17 0 18 15 = if t' then 1 else 0 := by rw [up_idx (by decide), up_same]
  have e17 : up (up (up m 18 14 rope') 18 15 (if t' then 1 else 0)) 18 17 0 18 17 = 0 := up_same _ _ _ _
  have F : Fr [18] m (up (up (up m 18 14 rope') 18 15 (if t' then 1 else 0)) 18 17 0) := fr_up (by simp) (fr_up (by simp) (fr_up (by simp) fr_refl))
  generalize up (up (up m 18 14 rope') 18 15 (if t' then 1 else 0)) 18 17 0 = m1 at *
  refine ok_some ⟨⟨⟨?_, ?_⟩, ⟨?_, fun f j a b d q => ?_⟩, ⟨?_, ?_, e14, e15⟩, ⟨?_, ?_, fun i a b => ?_⟩, ⟨?_, ?_, fun i a b => ?_⟩⟩, F⟩
  · rw [e 9 (by decide) (by decide) (by decide)]; exact s9
  · rw [e 10 (by decide) (by decide) (by decide)]; exact s10
  · rw [e 11 (by decide) (by decide) (by decide)]; exact hN.1
  · rw [F 81 (by decide)]; exact hN.2 f j a b d q
  · rw [e 12 (by decide) (by decide) (by decide)]; exact s12
  · rw [e 13 (by decide) (by decide) (by decide)]; exact s13
  · rw [e 16 (by decide) (by decide) (by decide)]; exact t0
  · rw [e 16 (by decide) (by decide) (by decide)]; exact t1
  · rw [e 16 (by decide) (by decide) (by decide)] at b
    rw [F 78 (by decide), F 79 (by decide)]; exact t2 i a b
  · rw [e17]; decide
  · rw [e17]; decide
  · rw [e17] at b; omega
theorem c_begin {K : Int → Int} {c p : Int} {m : Mem} (hR : CR K m) (hV : CV c K) (p0 : 0 ≤ p) (p1 : p < K 3) (hn : NearOk m) : Ok (fX0_begin p m) (fun m' => AhR K p (K (25 + p)) (!tb (K 21) p.toNat) (K 8) m' ∧ Fr [18, 81] m m') := by
  have hw := wide_of hV.1 p0 p1
  have ar := area_le hw.1.1 hw.1.2 hw.2.1 hw.2.2
  have l3 := hV.1.2.1
  have er : m 20 3 = K 8 := hR.1.1.2.2.2.1
  have e1 : m 20 1 = K 1 := hR.1.1.2.1
  unfold fX0_begin
  simp only [rd_eq, wr_eq]
  rw [up_cell (show 20 ≠ 18 by decide), er, up_cell (show 20 ≠ 18 by decide), up_cell (show 20 ≠ 18 by decide), up_cell (show 20 ≠ 18 by decide), e1]
  have F0 : Fr [18] m (up (up (up m 18 12 p) 18 13 (K 8)) 18 16 0) := fr_up (by simp) (fr_up (by simp) (fr_up (by simp) fr_refl))
  have e : ∀ i, i ≠ 12 → i ≠ 13 → i ≠ 16 → up (up (up m 18 12 p) 18 13 (K 8)) 18 16 0 18 i = m 18 i := fun i a b d => by rw [up_idx d, up_idx b, up_idx a]
  have e12 : up (up (up m 18 12 p) 18 13 (K 8)) 18 16 0 18 12 = p := by rw [up_idx (by decide), up_idx (by decide), up_same]
  have e13 : up (up (up m 18 12 p) 18 13 (K 8)) 18 16 0 18 13 = K 8 := by rw [up_idx (by decide), up_same]
  have e16 : up (up (up m 18 12 p) 18 13 (K 8)) 18 16 0 18 16 = 0 := up_same _ _ _ _
  generalize up (up (up m 18 12 p) 18 13 (K 8)) 18 16 0 = m1 at *
  have hR1 : CR K m1 := CR_fr hR (fun o a b => F0 o (by simp; omega))
  refine ok_jn (fun _ mm => (mm 18 9 = K 1 * K 2 ∧ mm 18 10 = K 1) ∧ NearR (K 1) (K 1 * K 2) mm ∧ (mm 18 12 = p ∧ mm 18 13 = K 8 ∧ mm 18 16 = 0) ∧ Fr [18, 81] m mm) ?_ ?_
  · rintro _ mm ⟨⟨s9, s10⟩, hN, ⟨s12, s13, s16⟩, hF⟩
    have hR2 : CR K mm := CR_fr hR (fun o a b => hF o (by simp; omega))
    rw [s12, chk_of (by omega), show mm 22 p = K (25 + p) from hR2.1.2.2.1 p p0 p1, c_isParted hR2 p0 (by omega), bR_some]
    simp only [jn_eq]
    -- bind, over whatever rope and bond stood there
    have hb : ∀ t' : Bool, Ok (bV (fX0_bind (K (25 + p)) (if t' then 1 else 0) mm) fun mm => some mm) (fun m' => AhR K p (K (25 + p)) t' (K 8) m' ∧ Fr [18, 81] m m') := by
      intro t'
      have hA0 : AhR K p (K (25 + p)) t' (K 8) (up (up (up mm 18 14 (K (25 + p))) 18 15 (if t' then 1 else 0)) 18 17 0) := by
        have z : ∀ i, i ≠ 14 → i ≠ 15 → i ≠ 17 → up (up (up mm 18 14 (K (25 + p))) 18 15 (if t' then 1 else 0)) 18 17 0 18 i = mm 18 i := fun i a b d => by rw [up_idx d, up_idx b, up_idx a]
        refine ⟨⟨?_, ?_⟩, ⟨?_, fun f j a b d q => ?_⟩, ⟨?_, ?_, ?_, ?_⟩, ⟨?_, ?_, fun i a b => ?_⟩, ⟨?_, ?_, fun i a b => ?_⟩⟩
        · rw [z 9 (by decide) (by decide) (by decide)]; exact s9
        · rw [z 10 (by decide) (by decide) (by decide)]; exact s10
        · rw [z 11 (by decide) (by decide) (by decide)]; exact hN.1
        · rw [up_cell (by decide), up_cell (by decide), up_cell (by decide)]; exact hN.2 f j a b d q
        · rw [z 12 (by decide) (by decide) (by decide)]; exact s12
        · rw [z 13 (by decide) (by decide) (by decide)]; exact s13
        · rw [up_idx (by decide), up_idx (by decide), up_same]
        · rw [up_idx (by decide), up_same]
        · rw [z 16 (by decide) (by decide) (by decide), s16]; decide
        · rw [z 16 (by decide) (by decide) (by decide), s16]; decide
        · rw [z 16 (by decide) (by decide) (by decide), s16] at b; omega
        · rw [up_same]; decide
        · rw [up_same]; decide
        · rw [up_same] at b; omega
      unfold fX0_bind
      simp only [wr_eq]
      rw [chk_of (by cases t' <;> simp), bV_some]
      exact ok_some ⟨hA0, fr_up (by simp) (fr_up (by simp) (fr_up (by simp) hF))⟩
    cases htp : tb (K 21) p.toNat
    · rw [if_neg (by simp)]; exact hb true
    · rw [if_pos (by simp)]; exact hb false
  · intro G hG
    have fill : Ok (bR (fX3_places (up m1 18 10 (m1 20 1))) fun x15 => bV (fX0_fillNear (up (up m1 18 10 (m1 20 1)) 18 9 x15)) fun mm => G () mm) (fun m' => AhR K p (K (25 + p)) (!tb (K 21) p.toNat) (K 8) m' ∧ Fr [18, 81] m m') := by
      have e20 : m1 20 1 = K 1 := hR1.1.1.2.1
      rw [e20]
      have hR2 : CR K (up m1 18 10 (K 1)) := CR_fr hR1 (fun o a b => up_cell (by omega))
      rw [c_places hR2.1 hV.1, bR_some]
      have hR3 : CR K (up (up m1 18 10 (K 1)) 18 9 (K 1 * K 2)) := CR_fr hR2 (fun o a b => up_cell (by omega))
      have k18 : ∀ i, i ≠ 9 → i ≠ 10 → up (up m1 18 10 (K 1)) 18 9 (K 1 * K 2) 18 i = m1 18 i := fun i a b => by rw [up_idx a, up_idx b]
      have k9 : up (up m1 18 10 (K 1)) 18 9 (K 1 * K 2) 18 9 = K 1 * K 2 := up_same _ _ _ _
      have k10 : up (up m1 18 10 (K 1)) 18 9 (K 1 * K 2) 18 10 = K 1 := by rw [up_idx (by decide), up_same]
      have F2 : Fr [18] m1 (up (up m1 18 10 (K 1)) 18 9 (K 1 * K 2)) := fr_up (by simp) (fr_up (by simp) fr_refl)
      refine ok_bV (c_fillNear (c := c) hR3 hV.1 hw.1.1 hw.1.2 hw.2.1 hw.2.2 k9) ?_
      rintro m2 ⟨a1, a2, a3⟩
      refine hG () m2 ⟨⟨by rw [a2 9 (by decide), k9], by rw [a2 10 (by decide), k10]⟩, a1, ⟨by rw [a2 12 (by decide), k18 12 (by decide) (by decide), e12], by rw [a2 13 (by decide), k18 13 (by decide) (by decide), e13], by rw [a2 16 (by decide), k18 16 (by decide) (by decide), e16]⟩, fr_trans (fr_mono' F0 (by decide)) (fr_trans (fr_mono' F2 (by decide)) a3)⟩
    simp only [jn_eq]
    by_cases q : m1 18 10 = K 1
    · rw [if_neg (show ¬ ¬ m1 18 10 = K 1 from fun z => z q), c_places hR1.1 hV.1, bR_some]
      by_cases q2 : m1 18 9 = K 1 * K 2
      · rw [if_pos q2]
        refine hG () m1 ⟨⟨q2, q⟩, ?_, ⟨e12, e13, e16⟩, fr_mono' F0 (by decide)⟩
        rcases hn with hn | ⟨_, h, _, h9, hN⟩
        · rw [e 10 (by decide) (by decide) (by decide)] at q; omega
        · rw [e 10 (by decide) (by decide) (by decide)] at q
          rw [e 9 (by decide) (by decide) (by decide)] at q2
          rw [q, q2] at hN
          unfold NearR at *
          rw [e 11 (by decide) (by decide) (by decide), F0 81 (by decide)]
          exact hN
      · rw [if_neg q2]; exact fill
    · rw [if_pos q]; exact fill
theorem c_start {K : Int → Int} {c p rope rocks : Int} {tied : Bool} {m : Mem} (hR : CR K m) (hV : CV c K) (p0 : 0 ≤ p) (p1 : p < K 3) (hA : AhR K p rope tied rocks m) : Ok (fX0_start m) (fun m' => SetsR K p rope tied rocks 0 m' ∧ Fr [82] m m') := by
  have hw := wide_of hV.1 p0 p1
  have ar := area_le hw.1.1 hw.1.2 hw.2.1 hw.2.2
  have l3 := hV.1.2.1
  have hS := (curV_iff.mp hV.2).1 p p0 p1
  have hc := (curR_iff.mp hR.2).2 p p0 p1
  unfold fX0_start
  simp only [rd_eq, wr_eq]
  refine lp_for 25 (fun i mm => 0 ≤ i ∧ (∀ j, 0 ≤ j → j < i → mm 82 j = 0) ∧ Fr [82] m mm) ⟨by omega, fun j _ _ => by omega, fr_refl⟩ (by decide) (by decide) ?_ ?_
  · rintro G i mm hi ⟨i0, h1, h2⟩ ih
    rw [if_neg (by omega), chk_of (by omega), w32_id (by omega) (by omega)]
    refine ih _ ⟨by omega, fun j j0 j1 => ?_, fr_up (by simp) h2⟩
    rw [up_row]
    by_cases e : j = i
    · subst e; exact ku_at _ _ _
    · rw [ku_ne e]; exact h1 j j0 (by omega)
  · rintro G mm ⟨_, h1, h2⟩
    rw [if_pos (by omega), h2 18 (by decide), hA.2.2.1.1, chk_of (by omega), h2 28 (by decide), hc.1, chk_of (by omega), h2 29 (by decide), hc.2.1, chk_of (by omega)]
    refine ok_some ⟨fun h hh j j0 j1 => ?_, fr_up (by simp) h2⟩
    have : h = 0 := by omega
    subst this
    rw [up_row, show 25 * ((0 : Nat) : Int) + j = j by omega]
    show Bits _ (fun k => j = K (13 + p) ∧ (k : Int) = K (17 + p))
    by_cases e : j = K (13 + p)
    · rw [← e, ku_at]
      have := bits_or (x := 0) (P := fun _ => False) (bits_zero (fun _ _ q => q)) hS.2.2.1 (by omega)
      have e0 : ior 0 (ishl 1 (K (17 + p))) = ishl 1 (K (17 + p)) := tb_ext (ior_rg _ _) (ishl_rg _ _) (fun i _ => by rw [tb_or, tb_zero]; simp)
      rw [e0] at this
      refine bits_imp this (fun k _ => ⟨fun q => ?_, fun q => .inr (by omega)⟩)
      rcases q with q | q
      · exact q.elim
      · exact ⟨rfl, by omega⟩
    · rw [ku_ne e, h1 j j0 (by omega)]
      exact bits_zero (fun k _ q => e q.1)
theorem c_goOn {K : Int → Int} {c p rope rocks : Int} {tied : Bool} {h : Nat} {m : Mem} (hR : CR K m) (hP : PairV c K p rope) (h1 : 1 ≤ h) (h40 : h ≤ 40) (hA : AhR K p rope tied rocks m) (hS : SetsR K p rope tied rocks (h - 1) m) :
    Ok (fX0_stepOn 82 1025 (w32 (w32 ((h : Int) - 1) * 25)) 82 1025 (w32 ((h : Int) * 25)) h m) (fun r => (r.1 = 0 ∨ r.1 = 1) ∧ (r.1 = 1 ↔ ∃ j k, rchP K p rope tied rocks h j k) ∧ SetsR K p rope tied rocks h r.2 ∧ AhR K p rope tied rocks r.2 ∧ (h ≤ r.2 18 16 ∧ h ≤ r.2 18 17) ∧ Fr [18, 36, 37, 78, 79, 80, 82, 84] m r.2) := by
  obtain ⟨hV, c1, ⟨p0, p1⟩, ⟨r0, r1⟩⟩ := hP
  have hw := wide_of hV.1 p0 p1
  have ar := area_le hw.1.1 hw.1.2 hw.2.1 hw.2.2
  rw [w32_id (x := (h : Int) - 1) (by omega) (by omega), w32_id (by omega) (by omega), w32_id (by omega) (by omega)]
  refine ok_imp (c_stepOn (src := 82) (dst := 82) (n0 := 1025) (n2 := 1025) (P := rchP K p rope tied rocks (h - 1)) hR hV c1 p0 p1 r0 r1 (by omega) (by omega) hA (by decide) (by decide) (by decide) (show 0 ≤ ((h : Int) - 1) * 25 by omega) (by omega) (show 0 ≤ (h : Int) * 25 by omega) (by omega) (by decide) (by decide) (fun j j0 j1 => ?_) (fun j k _ _ q => (rch_rg hV p0 p1 _ j k q).2)) ?_
  · have := hS (h - 1) (Nat.le_refl _) j j0 j1
    rwa [show 25 * ((h - 1 : Nat) : Int) + j = ((h : Int) - 1) * 25 + j by omega] at this
  · rintro ⟨x, m'⟩ ⟨a1, a2, a3, a4, a5, a6, a7⟩
    have er : ∀ j, rchP K p rope tied rocks h j = nxtP K p rope tied rocks h (rchP K p rope tied rocks (h - 1)) j := fun j => by
      obtain ⟨h', rfl⟩ : ∃ h', h = h' + 1 := ⟨h - 1, by omega⟩
      rfl
    refine ⟨a1, a2.trans ⟨fun ⟨j, k, _, q⟩ => ⟨j, k, by rw [er]; exact q⟩, fun ⟨j, k, q⟩ => ⟨j, k, (rch_rg hV p0 p1 _ j k q).1, by rw [← er]; exact q⟩⟩, fun h' hh' j j0 j1 => ?_, a5, a6, fr_mono' a7 (by decide)⟩
    by_cases e : h' = h
    · subst e
      rw [show 25 * (h' : Int) + j = (h' : Int) * 25 + j by omega, er]
      exact a3 j j0 j1
    · have := hS h' (by omega) j j0 j1
      rw [← a4 (25 * h' + j) (by omega)] at this; exact this
theorem chk01' {x : Int} {m : Mem} (h : x = 0 ∨ x = 1) : chk (x = (0 : Int) ∨ x = (1 : Int)) (some (x, m)) = some (x, m) := chk_of h
theorem c_goOn' {K : Int → Int} {c p rope rocks : Int} {tied : Bool} {h : Nat} {m : Mem} (hR : CR K m) (hP : PairV c K p rope) (h1 : 1 ≤ h) (h40 : h ≤ 40) (hA : AhR K p rope tied rocks m) (hS : SetsR K p rope tied rocks (h - 1) m) :
    Ok (fX0_goOn h m) (fun r => (r.1 = 0 ∨ r.1 = 1) ∧ (r.1 = 1 ↔ ∃ j k, rchP K p rope tied rocks h j k) ∧ SetsR K p rope tied rocks h r.2 ∧ AhR K p rope tied rocks r.2 ∧ (h ≤ r.2 18 16 ∧ h ≤ r.2 18 17) ∧ Fr [18, 36, 37, 78, 79, 80, 82, 84] m r.2) := by
  unfold fX0_goOn
  refine ok_bW (c_goOn hR hP h1 h40 hA hS) ?_
  rintro x m' hh
  rw [chk01' hh.1]
  exact ok_some hh
/-- cells of the class's ways -/
def WC : List Nat := [18, 36, 37, 78, 79, 80, 82, 84]
theorem c_goTo {K : Int → Int} {c p rope rocks : Int} {tied : Bool} {n : Nat} {m : Mem} (hR : CR K m) (hP : PairV c K p rope) (n40 : n ≤ 40) (hA : AhR K p rope tied rocks m) :
    Ok (fX0_goTo n m) (fun r => (r.1 = 1 ∧ SetsR K p rope tied rocks n r.2 ∨ r.1 = 0 ∧ ∃ h, h ≤ n ∧ ¬ ∃ j k, rchP K p rope tied rocks h j k) ∧ AhR K p rope tied rocks r.2 ∧ Fr WC m r.2) := by
  have hP' := hP
  obtain ⟨hV, c1, ⟨p0, p1⟩, ⟨r0, r1⟩⟩ := hP
  unfold fX0_goTo
  refine ok_bV (c_start hR hV p0 p1 hA) ?_
  rintro m1 ⟨a1, a2⟩
  have hA1 : AhR K p rope tied rocks m1 := AhR_fr hA (a2 _ (by decide)) (a2 _ (by decide)) (a2 _ (by decide)) (a2 _ (by decide)) (a2 _ (by decide))
  refine lp_ok (fun (i : Int) (mm : Mem) => ∃ h : Nat, i = (h : Int) + 1 ∧ h ≤ n ∧ SetsR K p rope tied rocks h mm ∧ AhR K p rope tied rocks mm ∧ Fr WC m mm) (fun i _ => (41 - i).toNat) ⟨0, rfl, by omega, a1, hA1, fr_mono' a2 (by decide)⟩ (by decide) ?_
  rintro G i mm ⟨h, rfl, hn, b1, b2, b3⟩ ih
  have hR1 : CR K mm := CR_fr hR (fun o z1 z2 => b3 o (by unfold WC; simp; omega))
  by_cases hx : h = n
  · subst hx
    rw [if_pos (by omega)]
    exact ok_some ⟨.inl ⟨rfl, b1⟩, b2, b3⟩
  · rw [if_neg (by omega), show ((h : Int) + 1) = ((h + 1 : Nat) : Int) by omega]
    refine ok_bW (c_goOn' hR1 hP' (by omega) (by omega) b2 (by rw [show h + 1 - 1 = h by omega]; exact b1)) ?_
    rintro x m' ⟨d1, d2, d3, d4, _, d5⟩
    simp only at d1 d2 d3 d4 d5
    by_cases hz : x = 0
    · rw [if_neg (show ¬ ¬ x = 0 from fun z => z hz)]
      exact ok_some ⟨.inr ⟨rfl, h + 1, by omega, fun q => by have := d2.mpr q; omega⟩, d4, fr_trans b3 (fr_mono' d5 (by decide))⟩
    · rw [if_pos hz, w32_id (by omega) (by omega)]
      exact ih _ m' ⟨h + 1, by omega, by omega, d3, d4, fr_trans b3 (fr_mono' d5 (by decide))⟩ (by show (41 - (((h + 1 : Nat) : Int) + 1)).toNat < (41 - ((h : Int) + 1)).toNat; omega)
/-- if there is no way on, there is none later -/
theorem rch_down {K : Int → Int} {p rope rocks : Int} {tied : Bool} {n : Nat} (h : ∃ j k, rchP K p rope tied rocks (n + 1) j k) : ∃ j k, rchP K p rope tied rocks n j k := by
  obtain ⟨j, k, _, _, _, j0, _, _, k0, q, _⟩ := h
  exact ⟨j0, k0, q⟩
theorem rch_down' {K : Int → Int} {p rope rocks : Int} {tied : Bool} {n : Nat} : ∀ d, (∃ j k, rchP K p rope tied rocks (n + d) j k) → ∃ j k, rchP K p rope tied rocks n j k
  | 0, h => h
  | d + 1, h => rch_down' d (rch_down h)

/-! ===== D74: houses, the class's least ===== -/
theorem c_cost {K : Int → Int} {c p g h : Int} {m : Mem} (hR : CR K m) (hV : CV c K) (p0 : 0 ≤ p) (p1 : p < K 3) (g0 : 0 ≤ g) (g1 : g < K 4) (h0 : 0 ≤ h) (h1 : h < K 4) : fX2_cost p g h m = some (costH K p g h) := by
  have l3 := hV.1.2.1
  have l4 := hV.1.2.2.1
  have hw := wide_of hV.1 p0 p1
  have N25 := pl_25 hV.1
  have hgr := house_rg hV.1 g0 g1
  have hhr := house_rg hV.1 h0 h1
  have hS := (curV_iff.mp hV.2).1 p p0 p1
  have cr := cost_rg (g := g) (h := h) hV p0 p1 g0 g1 h0 h1
  have e21 : ∀ i, 0 ≤ i → i < K 4 → m 21 i = K (29 + i) := hR.1.2.1
  have e28 : m 28 p = K (13 + p) := by rw [show 13 + p = 9 + (4 + p) by omega]; exact (hR.2.2 p p0 p1).1
  have e29 : m 29 p = K (17 + p) := by rw [show 17 + p = 9 + (8 + p) by omega]; exact (hR.2.2 p p0 p1).2.1
  unfold fX2_cost costH
  simp only [rd_eq]
  rw [chk_of (by omega), chk_of (by omega), e28, e21 g g0 g1, c_apart hR.1 hw.1.1 hw.1.2 (by omega) (by omega) hgr.1 (by omega), bR_some, chk_of (by omega), chk_of (by omega), e29, e21 h h0 h1, c_apart hR.1 hw.1.1 hw.1.2 (by omega) (by omega) hhr.1 (by omega), bR_some, w32_id (by omega) (by omega)]
def bestC (K : Int → Int) : Int → Int := fun t => bestB K ((K 3).toNat - pcH t / 2) ((pcH t / 2 : Nat) : Int) t
theorem bestC_push {K : Int → Int} {t g h : Int} {n : Nat} (hn : n ≤ 8) (hs : SetN n t) (g0 : 0 ≤ g) (g1 : g < (n : Int)) (h0 : 0 ≤ h) (h1 : h < (n : Int)) (hc : canH K ((pcH t / 2 : Nat) : Int) t g h = true) {r : Nat} (hr : (K 3).toNat - pcH t / 2 = r + 1) : t < sGH t g h ∧ bestC K (sGH t g h) = bestB K r (((pcH t / 2 : Nat) : Int) + 1) (sGH t g h) ∧ pcH (sGH t g h) = pcH t + 2 := by
  obtain ⟨c1, c2, c3, _⟩ := canH_inv.mp hc
  obtain ⟨a, b⟩ := gh_more hn hs g0 g1 h0 h1 c2 c3 c1
  refine ⟨a, ?_, b⟩
  unfold bestC
  rw [b, show (K 3).toNat - (pcH t + 2) / 2 = r by omega, show (((pcH t + 2) / 2 : Nat) : Int) = ((pcH t / 2 : Nat) : Int) + 1 by omega]
theorem minR_s {F : Int → Int} {ok : Int → Bool} {m0 h : Int} (h0 : 0 ≤ h) : minR F ok m0 (h + 1).toNat = if ok h then imin (minR F ok m0 h.toNat) (F h) else minR F ok m0 h.toNat := by
  rw [show (h + 1).toNat = h.toNat + 1 by omega]
  show (if ok ((h.toNat : Nat) : Int) then imin (minR F ok m0 h.toNat) (F ((h.toNat : Nat) : Int)) else minR F ok m0 h.toNat) = _
  rw [Int.toNat_of_nonneg h0]
theorem minS_s {F : Int → Int → Int} {ok : Int → Int → Bool} {n : Nat} {g : Int} (g0 : 0 ≤ g) : minS F ok n (g + 1).toNat = minR (F g) (ok g) (minS F ok n g.toNat) n := by
  rw [show (g + 1).toNat = g.toNat + 1 by omega]
  show minR (F ((g.toNat : Nat) : Int)) (ok ((g.toNat : Nat) : Int)) (minS F ok n g.toNat) n = _
  rw [Int.toNat_of_nonneg g0]
theorem c_leastFrom {K : Int → Int} {c t : Int} {r : Nat} {m : Mem} (hR : CR K m) (hV : CV c K) (hT : TetR K m) (t0 : 0 ≤ t) (t1 : t < ishl 1 (K 4)) (hr : (K 3).toNat - pcH t / 2 = r + 1) (hB : ∀ x, t < x → x < ishl 1 (K 4) → m 107 x = bestC K x) :
    fX2_leastFrom t ((pcH t / 2 : Nat) : Int) m = some (bestC K t) := by
  have l3 := hV.1.2.1
  have l4 := hV.1.2.2.1
  have hn := nH_8 hV.1
  have hs : SetN (nH K) t := setN8_of hn.1 t0 (by rw [hn.2]; exact t1)
  have p256 := pw_256 (nH K) (by omega)
  rw [hn.2] at p256
  have ew : bestC K t = minS (valH K r ((pcH t / 2 : Nat) : Int) t) (canH K ((pcH t / 2 : Nat) : Int) t) (nH K) (nH K) := by
    unfold bestC; rw [hr]; rfl
  rw [ew]
  have hp1 : ((pcH t / 2 : Nat) : Int) < K 3 := by omega
  have hp0 : 0 ≤ ((pcH t / 2 : Nat) : Int) := by omega
  have hpr : ((pcH t / 2 : Nat) : Int) + 1 + (r : Int) ≤ K 3 := by omega
  have push := fun g h g0 g1 h0 h1 hc => bestC_push (K := K) (t := t) (g := g) (h := h) hn.1 hs g0 g1 h0 h1 hc hr
  generalize hpp : ((pcH t / 2 : Nat) : Int) = p at *
  refine ok_eq ?_
  unfold fX2_leastFrom
  simp only [rd_eq, jn_eq]
  rw [show m 20 4 = K 4 from hR.1.1.2.2.2.2.1]
  refine lp_for2 (K 4) (fun least g mm => 0 ≤ g ∧ mm = m ∧ least = minS (valH K r p t) (canH K p t) (nH K) g.toNat) ⟨by omega, rfl, rfl⟩ (by omega) (by omega) ?_ ?_
  · rintro G least g mm hg ⟨g0, rfl, rfl⟩ ih
    simp only
    rw [if_neg (by omega)]
    refine lp_for2 (K 4) (fun least h m2 => 0 ≤ h ∧ m2 = mm ∧ least = minR (valH K r p t g) (canH K p t g) (minS (valH K r p t) (canH K p t) (nH K) g.toNat) h.toNat) ⟨by omega, rfl, rfl⟩ (by omega) (by omega) ?_ ?_
    · rintro G2 least h m2 hh ⟨h0, rfl, rfl⟩ ih2
      simp only
      rw [if_neg (by omega), c_canHave hR hV hT hp0 hp1 g0 hg h0 hh, bR_some, w32_id (x := h + 1) (by omega) (by omega)]
      cases hc : canH K p t g h
      · rw [if_pos (by simp)]
        refine ih2 _ _ ⟨by omega, rfl, ?_⟩
        rw [minR_s h0, hc, if_neg (by simp)]
      · rw [if_neg (by simp), c_cost hR hV hp0 hp1 g0 hg h0 hh, bR_some]
        obtain ⟨q1, q2, _⟩ := push g h g0 (by omega) h0 (by omega) hc
        have rs := (setN8_rg hn.1 (setN_gh hn.1 hs g0 (show g < (nH K : Int) by omega) h0 (show h < (nH K : Int) by omega))).1
        rw [hn.2] at rs
        have esg : ior (ior t (ishl 1 g)) (ishl 1 h) = sGH t g h := rfl
        have ev : valH K r p t g h = costH K p g h + bestB K r (p + 1) (sGH t g h) := rfl
        have b2 := best_rg hV r (p + 1) (sGH t g h) (by omega) (by omega)
        have cr := cost_rg (g := g) (h := h) hV hp0 (by omega) g0 hg h0 hh
        have ec : costH K p g h = apartF (K 1) (K (13 + p)) (K (29 + g)) + apartF (K 1) (K (17 + p)) (K (29 + h)) := rfl
        rw [esg, chk_of (by omega), hB _ q1 rs.2, q2, w32_id (by omega) (by omega), ← ev]
        refine ih2 _ _ ⟨by omega, rfl, ?_⟩
        rw [minR_s h0, hc, if_pos rfl]
    · rintro G2 least m2 ⟨_, rfl, rfl⟩
      simp only
      rw [if_pos (Int.le_refl _), w32_id (x := g + 1) (by omega) (by omega)]
      refine ih _ _ ⟨by omega, rfl, ?_⟩
      rw [minS_s g0]; rfl
  · rintro G least mm ⟨_, rfl, rfl⟩
    simp only
    rw [if_pos (Int.le_refl _)]
    exact ok_some rfl
theorem c_takeFirst {K : Int → Int} {c t p : Int} {r : Nat} {m : Mem} (hR : CR K m) (hV : CV c K) (hT : TetR K m) (t0 : 0 ≤ t) (t1 : t < ishl 1 (K 4)) (hp : p = ((pcH t / 2 : Nat) : Int)) (hr : (K 3).toNat - pcH t / 2 = r + 1) (hB : ∀ x, 0 ≤ x → x < ishl 1 (K 4) → m 107 x = bestC K x) (hlt : bestB K (r + 1) p t < 1000) :
    Ok (fX2_takeFirst t p m) (fun q => ∃ G H : Int, q.1 = sGH t G H ∧ IsFirst K r p t G H ∧ q.2 109 (2 * p) = G ∧ q.2 109 (2 * p + 1) = H ∧ (∀ i, i < 2 * p → q.2 109 i = m 109 i) ∧ Fr [109] m q.2) := by
  have l3 := hV.1.2.1
  have l4 := hV.1.2.2.1
  have hn := nH_8 hV.1
  have hs : SetN (nH K) t := setN8_of hn.1 t0 (by rw [hn.2]; exact t1)
  have p256 := pw_256 (nH K) (by omega)
  rw [hn.2] at p256
  have hbt : bestC K t = bestB K (r + 1) p t := by unfold bestC; rw [hr, ← hp]
  have push := fun g h g0 g1 h0 h1 hc => bestC_push (K := K) (t := t) (g := g) (h := h) hn.1 hs g0 g1 h0 h1 hc hr
  rw [← hp] at push
  have hp1 : p < K 3 := by omega
  have hp0 : 0 ≤ p := by omega
  have hpr : p + 1 + (r : Int) ≤ K 3 := by omega
  unfold fX2_takeFirst
  simp only [rd_eq, wr_eq, jn_eq]
  rw [show m 20 4 = K 4 from hR.1.1.2.2.2.2.1]
  refine lp_for (K 4) (fun g mm => 0 ≤ g ∧ mm = m ∧ ∀ g' h' : Int, (0 ≤ g' ∧ g' < (nH K : Int)) → (0 ≤ h' ∧ h' < (nH K : Int)) → canH K p t g' h' = true → ltP g' h' g 0 → valH K r p t g' h' ≠ bestB K (r + 1) p t) ⟨by omega, rfl, fun g' h' a b _ z => by unfold ltP at z; omega⟩ (by omega) (by omega) ?_ ?_
  · rintro G g mm hg ⟨g0, rfl, hno⟩ ih
    rw [if_neg (by omega)]
    refine lp_for (K 4) (fun h m2 => 0 ≤ h ∧ m2 = mm ∧ ∀ g' h' : Int, (0 ≤ g' ∧ g' < (nH K : Int)) → (0 ≤ h' ∧ h' < (nH K : Int)) → canH K p t g' h' = true → ltP g' h' g h → valH K r p t g' h' ≠ bestB K (r + 1) p t) ⟨by omega, rfl, hno⟩ (by omega) (by omega) ?_ ?_
    · rintro G2 h m2 hh ⟨h0, rfl, hno2⟩ ih2
      rw [if_neg (by omega), c_canHave hR hV hT hp0 hp1 g0 hg h0 hh, bR_some, w32_id (x := h + 1) (by omega) (by omega)]
      have skip : (canH K p t g h = true → valH K r p t g h ≠ bestB K (r + 1) p t) → Ok (G2 (h + 1) m2) (fun q => ∃ G H : Int, q.1 = sGH t G H ∧ IsFirst K r p t G H ∧ q.2 109 (2 * p) = G ∧ q.2 109 (2 * p + 1) = H ∧ (∀ i, i < 2 * p → q.2 109 i = m2 109 i) ∧ Fr [109] m2 q.2) := by
        intro z
        refine ih2 _ ⟨by omega, rfl, fun g' h' a b cc y => ?_⟩
        by_cases e : g' = g ∧ h' = h
        · rw [e.1, e.2] at cc ⊢; exact z cc
        · exact hno2 g' h' a b cc (by unfold ltP at y ⊢; omega)
      cases hc : canH K p t g h
      · rw [if_pos (by simp)]
        exact skip (fun z => by rw [hc] at z; cases z)
      · rw [if_neg (by simp), c_cost hR hV hp0 hp1 g0 hg h0 hh, bR_some]
        obtain ⟨q1, q2, _⟩ := push g h g0 (by omega) h0 (by omega) hc
        have rs := (setN8_rg hn.1 (setN_gh hn.1 hs g0 (show g < (nH K : Int) by omega) h0 (show h < (nH K : Int) by omega))).1
        rw [hn.2] at rs
        have esg : ior (ior t (ishl 1 g)) (ishl 1 h) = sGH t g h := rfl
        have ev : valH K r p t g h = costH K p g h + bestB K r (p + 1) (sGH t g h) := rfl
        have b2 := best_rg hV r (p + 1) (sGH t g h) (by omega) (by omega)
        have cr := cost_rg (g := g) (h := h) hV hp0 (by omega) g0 hg h0 hh
        have ec : costH K p g h = apartF (K 1) (K (13 + p)) (K (29 + g)) + apartF (K 1) (K (17 + p)) (K (29 + h)) := rfl
        rw [esg, chk_of (by omega), hB _ rs.1 rs.2, q2, w32_id (x := costH K p g h + bestB K r (p + 1) (sGH t g h)) (by omega) (by omega), ← ev, chk_of (by omega), hB t t0 t1, hbt]
        by_cases hv : valH K r p t g h = bestB K (r + 1) p t
        · rw [if_neg (fun z => z hv), w32_id (x := 2 * p) (by omega) (by omega), w32_id (x := 2 * p + 1) (by omega) (by omega), chk_of (by omega), chk_of (by omega)]
          refine ok_some ⟨g, h, rfl, ⟨⟨by omega, by omega⟩, hc, hv, hno2⟩, ?_, up_same _ _ _ _, fun i hi => ?_, fr_up (by simp) (fr_up (by simp) fr_refl)⟩
          · show up (up m2 109 (2 * p) g) 109 (2 * p + 1) h 109 (2 * p) = g
            rw [up_idx (by omega), up_same]
          · show up (up m2 109 (2 * p) g) 109 (2 * p + 1) h 109 i = _
            rw [up_idx (by omega), up_idx (by omega)]
        · rw [if_pos hv]; exact skip (fun _ => hv)
    · rintro G2 m2 ⟨_, rfl, hno2⟩
      rw [if_pos (Int.le_refl _), w32_id (x := g + 1) (by omega) (by omega)]
      exact ih _ ⟨by omega, rfl, fun g' h' a b cc y => hno2 g' h' a b cc (by unfold ltP at y ⊢; omega)⟩
  · rintro G mm ⟨_, rfl, hno⟩
    exfalso
    obtain ⟨g, h, z1, z2, z3, z4, z5⟩ := best_ex hV hp0 (by omega) hlt
    exact hno g h z1 z2 z3 (by unfold ltP; omega) z5.symm
theorem c_settle {K : Int → Int} {c : Int} {m : Mem} (hR : CR K m) (hV : CV c K) :
    Ok (fX2_settle m) (fun q => (¬ bestB K (K 3).toNat 0 0 < 1000 → q.1 = -1) ∧ (bestB K (K 3).toNat 0 0 < 1000 → q.1 = bestB K (K 3).toNat 0 0 ∧ ChainR K (K 3).toNat 0 0 (q.2 109)) ∧ Fr [36, 37, 107, 108, 109] m q.2) := by
  have l3 := hV.1.2.1
  have l4 := hV.1.2.2.1
  have hn := nH_8 hV.1
  have p256 := pw_256 (nH K) (by omega)
  rw [hn.2] at p256
  have pc0 : pcH 0 = 0 := by decide +kernel
  have b0 : bestC K 0 = bestB K (K 3).toNat 0 0 := by unfold bestC; rw [pc0]; rfl
  unfold fX2_settle
  simp only [rd_eq, wr_eq]
  rw [show m 20 4 = K 4 from hR.1.1.2.2.2.2.1]
  refine ok_bV (c_measure hR hV) ?_
  rintro m1 ⟨hT1, F1⟩
  rw [w32_id (x := ishl 1 (K 4) - 1) (by omega) (by omega)]
  refine lp_ok (fun (t : Int) (mm : Mem) => (-1 ≤ t ∧ t < ishl 1 (K 4)) ∧ (∀ x, t < x → x < ishl 1 (K 4) → mm 107 x = bestC K x) ∧ TetR K mm ∧ Fr [36, 37, 107, 108, 109] m mm) (fun t _ => (t + 1).toNat) ⟨by omega, fun x a b => by omega, hT1, fr_mono' F1 (by decide)⟩ (by omega) ?_
  rintro G t mm ⟨⟨t0, t1⟩, hB, hT, hF⟩ ih
  have hRm : CR K mm := CR_fr hR (fun o z1 z2 => hF o (by simp; omega))
  by_cases ht : t < 0
  · rw [if_pos ht, hB 0 (by omega) (by omega), b0]
    by_cases hl : bestB K (K 3).toNat 0 0 < 1000
    · rw [if_pos hl]
      refine lp_ok (fun (q : Int × Int) (m2 : Mem) => (0 ≤ q.2 ∧ q.2 ≤ K 3) ∧ (0 ≤ q.1 ∧ q.1 < ishl 1 (K 4)) ∧ ((pcH q.1 : Nat) : Int) = 2 * q.2 ∧ bestB K (K 3 - q.2).toNat q.2 q.1 < 1000 ∧ (∀ b : Int → Int, (∀ i, 0 ≤ i → i < 2 * q.2 → b i = m2 109 i) → ChainR K (K 3 - q.2).toNat q.2 q.1 b → ChainR K (K 3).toNat 0 0 b) ∧ Fr [109] mm m2) (fun q _ => (K 3 - q.2).toNat) ⟨by simp only; omega, by simp only; omega, by simp only; rw [pc0]; rfl, by simp only; rw [Int.sub_zero]; exact hl, fun b _ h => by simp only [Int.sub_zero] at h; exact h, fr_refl⟩ (by simp only; omega) ?_
      rintro G2 ⟨s, p⟩ m2 ⟨⟨p0, p1⟩, ⟨s0, s1⟩, hpc, hlt, hch, hF2⟩ ih2
      simp only at p0 p1 s0 s1 hpc hlt hch ih2 ⊢
      have hR2 : CR K m2 := CR_fr hRm (fun o z1 z2 => hF2 o (by simp; omega))
      have hT2 : TetR K m2 := fun q a b => by rw [hF2 108 (by decide)]; exact hT q a b
      have hB2 : ∀ x, 0 ≤ x → x < ishl 1 (K 4) → m2 107 x = bestC K x := fun x a b => by rw [hF2 107 (by decide)]; exact hB x (by omega) b
      rw [show m2 20 5 = K 3 from hR2.1.1.2.2.2.2.2]
      by_cases hq : K 3 ≤ p
      · rw [if_pos hq, hB2 0 (by omega) (by omega), b0]
        refine ok_some ⟨fun z => absurd hl z, fun _ => ⟨rfl, ?_⟩, fr_trans hF (fr_mono' hF2 (by decide))⟩
        refine hch (m2 109) (fun _ _ _ => rfl) ?_
        rw [show (K 3 - p).toNat = 0 by omega]; exact trivial
      · rw [if_neg hq]
        obtain ⟨r, hr⟩ : ∃ r, (K 3 - p).toNat = r + 1 := ⟨(K 3 - p).toNat - 1, by omega⟩
        rw [hr] at hlt hch
        refine ok_bW (c_takeFirst (r := r) hR2 hV hT2 s0 s1 (by omega) (by omega) hB2 hlt) ?_
        rintro x m3 ⟨A, B, e1, e2, e3, e4, e5, e6⟩
        simp only at e1 e3 e4 e5 e6
        have hs : SetN (nH K) s := setN8_of hn.1 s0 (by rw [hn.2]; exact s1)
        have rs := (setN8_rg hn.1 (setN_gh hn.1 hs e2.1.1.1 e2.1.1.2 e2.1.2.1 e2.1.2.2)).1
        rw [hn.2] at rs
        obtain ⟨c1, c2, c3, _⟩ := canH_inv.mp e2.2.1
        have mo := gh_more hn.1 hs e2.1.1.1 e2.1.1.2 e2.1.2.1 e2.1.2.2 c2 c3 c1
        have ev : valH K r p s A B = costH K p A B + bestB K r (p + 1) (sGH s A B) := rfl
        have e21 := e2.1
        have cr := cost_rg (g := A) (h := B) hV p0 (by omega) e2.1.1.1 (by omega) e2.1.2.1 (by omega)
        have ec : costH K p A B = apartF (K 1) (K (13 + p)) (K (29 + A)) + apartF (K 1) (K (17 + p)) (K (29 + B)) := rfl
        have e7 := e2.2.2.1
        rw [w32_id (x := p + 1) (by omega) (by omega), e1]
        refine ih2 (sGH s A B, p + 1) m3 ⟨by simp only; omega, by simp only; omega, by simp only; omega, ?_, fun b hb hc => ?_, fr_trans hF2 e6⟩ (by simp only; omega)
        · simp only
          rw [show (K 3 - (p + 1)).toNat = r by omega]; omega
        · simp only at hb hc
          rw [show (K 3 - (p + 1)).toNat = r by omega] at hc
          refine hch b (fun i i0 i1 => by rw [hb i i0 (by omega), e5 i i1]) ?_
          show IsFirst K r p s (b (2 * p)) (b (2 * p + 1)) ∧ ChainR K r (p + 1) (sGH s (b (2 * p)) (b (2 * p + 1))) b
          rw [hb (2 * p) (by omega) (by omega), hb (2 * p + 1) (by omega) (by omega), e3, e4]
          exact ⟨e2, hc⟩
    · rw [if_neg hl]
      exact ok_some ⟨fun _ => rfl, fun z => absurd z hl, hF⟩
  · have ebc := c_bitCount (n := t.toNat) (m := mm) (by omega)
    rw [Int.toNat_of_nonneg (by omega)] at ebc
    have epc : ((cntB 32 t.toNat : Nat) : Int) = ((pcH t : Nat) : Int) := rfl
    have ediv : ((pcH t : Nat) : Int) / 2 = ((pcH t / 2 : Nat) : Int) := by omega
    rw [if_neg ht, ebc, bR_some, tdiv_e 2 (by omega), epc, ediv, show mm 20 5 = K 3 from hRm.1.1.2.2.2.2.2]
    simp only [jn_eq]
    have next : ∀ v, v = bestC K t → Ok (chk ((0 : Int) ≤ t ∧ t < ((256 : Nat) : Int)) (G (w32 (t + -1)) (up mm 107 t v))) (fun q => (¬ bestB K (K 3).toNat 0 0 < 1000 → q.1 = -1) ∧ (bestB K (K 3).toNat 0 0 < 1000 → q.1 = bestB K (K 3).toNat 0 0 ∧ ChainR K (K 3).toNat 0 0 (q.2 109)) ∧ Fr [36, 37, 107, 108, 109] m q.2) := by
      intro v hv
      rw [chk_of (by omega), w32_id (by omega) (by omega)]
      refine ih _ _ ⟨by omega, fun x a b => ?_, fun q a b => by rw [up_cell (by decide)]; exact hT q a b, fr_up (by simp) hF⟩ (by omega)
      rw [up_row]
      by_cases e : x = t
      · rw [e, ku_at, hv]
      · rw [ku_ne e]; exact hB x (by omega) b
    by_cases hp : ((pcH t / 2 : Nat) : Int) < K 3
    · obtain ⟨r, hr⟩ : ∃ r, (K 3).toNat - pcH t / 2 = r + 1 := ⟨(K 3).toNat - pcH t / 2 - 1, by omega⟩
      rw [if_pos hp, c_leastFrom hRm hV hT (by omega) t1 hr hB, bR_some]
      exact next _ rfl
    · rw [if_neg hp]
      refine next 0 ?_
      unfold bestC
      rw [show (K 3).toNat - pcH t / 2 = 0 by omega]; rfl

/-! ===== D73: houses, the class's ways ===== -/
def TetR (K : Int → Int) (m : Mem) : Prop := ∀ p, 0 ≤ p → p < K 3 → m 108 p = tetH K p
theorem c_measure {K : Int → Int} {c : Int} {m : Mem} (hR : CR K m) (hV : CV c K) : Ok (fX2_measure m) (fun m' => TetR K m' ∧ Fr [36, 37, 108] m m') := by
  have l3 := hV.1.2.1
  have hh := (curV_iff.mp hV.2).2.2.2.2
  unfold fX2_measure
  simp only [rd_eq, wr_eq, jn_eq]
  refine lp_for (K 3) (fun p mm => 0 ≤ p ∧ (∀ q, 0 ≤ q → q < p → mm 108 q = tetH K q) ∧ Fr [36, 37, 108] m mm) ⟨by omega, fun q _ _ => by omega, fr_refl⟩ (by omega) (by omega) ?_ ?_
  · rintro G p mm hp ⟨p0, ht, hF⟩ ih
    have hRm : CR K mm := CR_fr hR (fun o z1 z2 => hF o (by simp; omega))
    rw [show mm 20 5 = K 3 from hRm.1.1.2.2.2.2.2, if_neg (by omega), c_isParted hRm p0 (by omega), bR_some, w32_id (x := p + 1) (by omega) (by omega)]
    have next : ∀ (v : Int) (m3 : Mem), v = tetH K p → Fr [36, 37] mm m3 → Ok (chk ((0 : Int) ≤ p ∧ p < ((4 : Nat) : Int)) (G (p + 1) (up m3 108 p v))) (fun m' => TetR K m' ∧ Fr [36, 37, 108] m m') := by
      intro v m3 hv hF3
      rw [chk_of (by omega)]
      refine ih _ ⟨by omega, fun q q0 q1 => ?_, fr_up (by simp) (fr_trans hF (fr_mono' hF3 (by decide)))⟩
      by_cases e : q = p
      · rw [e, up_same, hv]
      · rw [up_idx e, hF3 108 (by decide)]; exact ht q q0 (by omega)
    cases htp : tb (K 21) p.toNat
    · rw [if_pos (by simp)]
      rw [show mm 27 0 = K 24 from (curR_iff.mp hRm.2).1.1]
      refine ok_bW (c_ropeIn hRm hV p0 hp (by omega)) ?_
      rintro x m3 ⟨e, hF3⟩
      simp only at e hF3
      refine next x m3 ?_ hF3
      unfold tetH
      rw [htp, if_neg (by simp)]; exact e
    · rw [if_neg (by simp)]
      refine next 8 mm ?_ fr_refl
      unfold tetH
      rw [htp, if_pos rfl]
  · rintro G mm ⟨_, ht, hF⟩
    have hRm : CR K mm := CR_fr hR (fun o z1 z2 => hF o (by simp; omega))
    rw [show mm 20 5 = K 3 from hRm.1.1.2.2.2.2.2, if_pos (Int.le_refl _)]
    exact ok_some ⟨ht, hF⟩
theorem c_canHave {K : Int → Int} {c p s g h : Int} {m : Mem} (hR : CR K m) (hV : CV c K) (hT : TetR K m) (p0 : 0 ≤ p) (p1 : p < K 3) (g0 : 0 ≤ g) (g1 : g < K 4) (h0 : 0 ≤ h) (h1 : h < K 4) : fX2_canHave p s g h m = some (if canH K p s g h then 1 else 0) := by
  have l3 := hV.1.2.1
  have l4 := hV.1.2.2.1
  have hw := wide_of hV.1 p0 p1
  have N25 := pl_25 hV.1
  have hgr := house_rg hV.1 g0 g1
  have hhr := house_rg hV.1 h0 h1
  have e21 : ∀ i, 0 ≤ i → i < K 4 → m 21 i = K (29 + i) := hR.1.2.1
  unfold fX2_canHave
  simp only [rd_eq, jn_eq]
  rw [bit_ui _ g0 (by omega), bit_ui _ h0 (by omega)]
  by_cases hgh : g = h
  · rw [if_pos hgh, if_pos trivial, chk_of (by simp)]
    rw [if_neg (fun z => (canH_inv.mp z).1 hgh)]
  · rw [if_neg hgh]
    cases tg : tb s g.toNat
    · rw [if_neg (by simp)]
      cases th : tb s h.toNat
      · rw [if_neg (by simp), if_neg (by decide), chk_of (by omega), e21 g g0 g1, chk_of (by omega), e21 h h0 h1, c_apart hR.1 hw.1.1 hw.1.2 hgr.1 (by omega) hhr.1 (by omega), bR_some, chk_of (by omega), hT p p0 p1]
        by_cases hq : apartF (K 1) (K (29 + g)) (K (29 + h)) ≤ tetH K p
        · rw [if_neg (by omega), chk_of (by simp), if_pos (canH_inv.mpr ⟨hgh, tg, th, hq⟩)]
        · rw [if_pos (by omega), chk_of (by simp), if_neg (fun z => hq (canH_inv.mp z).2.2.2)]
      · rw [if_pos (by simp), if_pos trivial, chk_of (by simp)]
        rw [if_neg (fun z => by rw [(canH_inv.mp z).2.2.1] at th; cases th)]
    · rw [if_pos (by simp), if_pos trivial, chk_of (by simp)]
      rw [if_neg (fun z => by rw [(canH_inv.mp z).2.1] at tg; cases tg)]
/-- what is found, weighed, from the end -/
def SR (f W : Int → Int) (N : Int) : Nat → Int
  | 0 => 0
  | d + 1 => f (N - ((d : Int) + 1)) * W (N - ((d : Int) + 1)) + SR f W N d
theorem sr_ku {f W : Int → Int} {N x v : Int} : ∀ d : Nat, SR (ku f x v) W N d = SR f W N d + (if N - (d : Int) ≤ x ∧ x < N then (v - f x) * W x else 0)
  | 0 => by
    rw [if_neg (by omega)]; rfl
  | d + 1 => by
    show ku f x v (N - ((d : Int) + 1)) * W (N - ((d : Int) + 1)) + SR (ku f x v) W N d = f (N - ((d : Int) + 1)) * W (N - ((d : Int) + 1)) + SR f W N d + _
    rw [sr_ku d]
    by_cases e : N - ((d : Int) + 1) = x
    · rw [e, ku_at, if_neg (by omega), if_pos (by omega), Int.sub_mul]; omega
    · rw [ku_ne e]
      by_cases z : N - (d : Int) ≤ x ∧ x < N
      · rw [if_pos z, if_pos (by omega)]; omega
      · rw [if_neg z, if_neg (by omega)]; omega
theorem sr_cong {f f' W : Int → Int} {N : Int} : ∀ d : Nat, (∀ x, N - (d : Int) ≤ x → x < N → f x = f' x) → SR f W N d = SR f' W N d
  | 0, _ => rfl
  | d + 1, e => by
    show f (N - ((d : Int) + 1)) * W (N - ((d : Int) + 1)) + SR f W N d = f' (N - ((d : Int) + 1)) * W (N - ((d : Int) + 1)) + SR f' W N d
    rw [e _ (by omega) (by omega), sr_cong d (fun x a b => e x (by omega) b)]
def wC (K : Int → Int) (ban : Int) : Int → Int := fun t => waysW K ((K 3).toNat - pcH t / 2) ((pcH t / 2 : Nat) : Int) (ior t ban)
theorem wC_push {K : Int → Int} {ban t g h : Int} {n : Nat} (hn : n ≤ 8) (hs : SetN n t) (g0 : 0 ≤ g) (g1 : g < (n : Int)) (h0 : 0 ≤ h) (h1 : h < (n : Int)) (hc : canH K ((pcH t / 2 : Nat) : Int) (ior t ban) g h = true) {r : Nat} (hr : (K 3).toNat - pcH t / 2 = r + 1) : t < sGH t g h ∧ wC K ban (sGH t g h) = waysW K r (((pcH t / 2 : Nat) : Int) + 1) (sGH (ior t ban) g h) := by
  obtain ⟨c1, c2, c3, _⟩ := canH_inv.mp hc
  rw [tb_or, Bool.or_eq_false_iff] at c2 c3
  obtain ⟨a, b⟩ := gh_more hn hs g0 g1 h0 h1 c2.1 c3.1 c1
  refine ⟨a, ?_⟩
  unfold wC
  rw [b, gh_ban, show (K 3).toNat - (pcH t + 2) / 2 = r by omega, show (((pcH t + 2) / 2 : Nat) : Int) = ((pcH t / 2 : Nat) : Int) + 1 by omega]
theorem c_pushFrom {K : Int → Int} {c ban t : Int} {r : Nat} {m : Mem} (hR : CR K m) (hV : CV c K) (hT : TetR K m) (t0 : 0 ≤ t) (t1 : t < ishl 1 (K 4)) (hr : (K 3).toNat - pcH t / 2 = r + 1) :
    Ok (fX2_pushFrom t ((pcH t / 2 : Nat) : Int) ban m) (fun m' => (∃ k : Int, SR (m' 106) (wC K ban) (ishl 1 (K 4)) (ishl 1 (K 4) - (t + 1)).toNat = SR (m 106) (wC K ban) (ishl 1 (K 4)) (ishl 1 (K 4) - (t + 1)).toNat + m 106 t * wC K ban t + 4294967296 * k) ∧ (∀ x, x ≤ t → m' 106 x = m 106 x) ∧ Fr [106] m m') := by
  have l3 := hV.1.2.1
  have l4 := hV.1.2.2.1
  have hn := nH_8 hV.1
  have hs : SetN (nH K) t := setN8_of hn.1 t0 (by rw [hn.2]; exact t1)
  have p256 := pw_256 (nH K) (by omega)
  rw [hn.2] at p256
  have ew : wC K ban t = sumW (fun g h => waysW K r (((pcH t / 2 : Nat) : Int) + 1) (sGH (ior t ban) g h)) (canH K ((pcH t / 2 : Nat) : Int) (ior t ban)) (nH K) (nH K) := by
    unfold wC; rw [hr]; rfl
  rw [ew]
  have hp1 : ((pcH t / 2 : Nat) : Int) < K 3 := by omega
  have hp0 : 0 ≤ ((pcH t / 2 : Nat) : Int) := by omega
  have push := fun g h g0 g1 h0 h1 hc => wC_push (K := K) (ban := ban) (t := t) (g := g) (h := h) hn.1 hs g0 g1 h0 h1 hc hr
  generalize hpp : ((pcH t / 2 : Nat) : Int) = p at *
  unfold fX2_pushFrom
  simp only [rd_eq, wr_eq, jn_eq]
  have e20 : ∀ mm : Mem, Fr [106] m mm → mm 20 4 = K 4 := fun mm hF => by rw [hF 20 (by decide)]; exact hR.1.1.2.2.2.2.1
  rw [e20 m fr_refl]
  refine lp_for (K 4) (fun g mm => 0 ≤ g ∧ (∃ k : Int, SR (mm 106) (wC K ban) (ishl 1 (K 4)) (ishl 1 (K 4) - (t + 1)).toNat = SR (m 106) (wC K ban) (ishl 1 (K 4)) (ishl 1 (K 4) - (t + 1)).toNat + m 106 t * sumW (fun g h => waysW K r (p + 1) (sGH (ior t ban) g h)) (canH K p (ior t ban)) (nH K) g.toNat + 4294967296 * k) ∧ (∀ x, x ≤ t → mm 106 x = m 106 x) ∧ Fr [106] m mm) ⟨by omega, ⟨0, by show _ = _ + m 106 t * 0 + _; omega⟩, fun _ _ => rfl, fr_refl⟩ (by omega) (by omega) ?_ ?_
  · rintro G g mm hg ⟨g0, ⟨k, hk⟩, hle, hF⟩ ih
    rw [if_neg (by omega)]
    refine lp_for (K 4) (fun h m2 => 0 ≤ h ∧ (∃ k : Int, SR (m2 106) (wC K ban) (ishl 1 (K 4)) (ishl 1 (K 4) - (t + 1)).toNat = SR (m 106) (wC K ban) (ishl 1 (K 4)) (ishl 1 (K 4) - (t + 1)).toNat + m 106 t * (sumW (fun g h => waysW K r (p + 1) (sGH (ior t ban) g h)) (canH K p (ior t ban)) (nH K) g.toNat + rowW (fun h => waysW K r (p + 1) (sGH (ior t ban) g h)) (canH K p (ior t ban) g) h.toNat) + 4294967296 * k) ∧ (∀ x, x ≤ t → m2 106 x = m 106 x) ∧ Fr [106] m m2) ⟨by omega, ⟨k, by rw [hk]; show _ = _ + m 106 t * (_ + 0) + _; rw [Int.add_zero]⟩, hle, hF⟩ (by omega) (by omega) ?_ ?_
    · rintro G2 h m2 hh ⟨h0, ⟨k2, hk2⟩, hle2, hF2⟩ ih2
      have hR2 : CR K m2 := CR_fr hR (fun o z1 z2 => hF2 o (by simp; omega))
      have hT2 : TetR K m2 := fun q a b => by rw [hF2 108 (by decide)]; exact hT q a b
      rw [if_neg (by omega), c_canHave hR2 hV hT2 hp0 hp1 g0 hg h0 hh, bR_some, w32_id (x := h + 1) (by omega) (by omega)]
      cases hc : canH K p (ior t ban) g h
      · rw [if_pos (by simp)]
        refine ih2 _ ⟨by omega, ⟨k2, ?_⟩, hle2, hF2⟩
        rw [rowW_s h0, hc, if_neg (by simp), Int.add_zero]; exact hk2
      · rw [if_neg (by simp)]
        obtain ⟨q1, q2⟩ := push g h g0 (by omega) h0 (by omega) hc
        have rs := (setN8_rg hn.1 (setN_gh hn.1 hs g0 (show g < (nH K : Int) by omega) h0 (show h < (nH K : Int) by omega))).1
        rw [hn.2] at rs
        have esg : ior (ior t (ishl 1 g)) (ishl 1 h) = sGH t g h := rfl
        rw [esg]
        generalize sGH t g h = x at *
        rw [chk_of (by omega), chk_of (by omega), chk_of (by omega), hle2 t (Int.le_refl _)]
        obtain ⟨_, k3, hk3⟩ := w32_cg (m2 106 x + m 106 t)
        refine ih2 _ ⟨by omega, ⟨k2 + k3 * wC K ban x, ?_⟩, fun y hy => by rw [up_row, ku_ne (by omega)]; exact hle2 y hy, fr_up (by simp) hF2⟩
        rw [up_row, sr_ku, if_pos (by omega), hk2, rowW_s h0, hc, if_pos rfl, hk3, ← q2]
        have e1 : (m2 106 x + m 106 t + 4294967296 * k3 - m2 106 x) * wC K ban x = m 106 t * wC K ban x + 4294967296 * (k3 * wC K ban x) := by
          rw [show m2 106 x + m 106 t + 4294967296 * k3 - m2 106 x = m 106 t + 4294967296 * k3 by omega, Int.add_mul, Int.mul_assoc]
        have e2 : ∀ a b c : Int, m 106 t * (a + (b + c)) = m 106 t * (a + b) + m 106 t * c := fun a b c => by rw [← Int.add_assoc, Int.mul_add]
        rw [e1, e2, Int.mul_add 4294967296]
        omega
    · rintro G2 m2 ⟨_, ⟨k2, hk2⟩, hle2, hF2⟩
      rw [if_pos (Int.le_refl _), w32_id (x := g + 1) (by omega) (by omega)]
      refine ih _ ⟨by omega, ⟨k2, ?_⟩, hle2, hF2⟩
      rw [sumW_s g0]; exact hk2
  · rintro G mm ⟨_, hk, hle, hF⟩
    rw [if_pos (Int.le_refl _)]
    exact ok_some ⟨hk, hle, hF⟩
theorem c_waysWithout {K : Int → Int} {c ban : Int} {m : Mem} (hR : CR K m) (hV : CV c K) (hb : -2147483648 ≤ ban ∧ ban < 2147483648) :
    Ok (fX2_waysWithout ban m) (fun r => r.1 = waysW K (K 3).toNat 0 ban ∧ Fr [36, 37, 106, 108] m r.2) := by
  have l3 := hV.1.2.1
  have l4 := hV.1.2.2.1
  have hn := nH_8 hV.1
  have p256 := pw_256 (nH K) (by omega)
  rw [hn.2] at p256
  unfold fX2_waysWithout
  simp only [rd_eq, wr_eq, jn_eq]
  rw [show m 20 5 = K 3 from hR.1.1.2.2.2.2.2, show m 20 4 = K 4 from hR.1.1.2.2.2.2.1]
  refine ok_bV (c_measure hR hV) ?_
  rintro m1 ⟨hT1, F1⟩
  refine ok_bV (c_fillI (by decide)) ?_
  rintro m2 ⟨f2, _, F2⟩
  have hT2 : TetR K (up m2 106 0 1) := fun q a b => by rw [up_cell (by decide), F2 108 (by decide)]; exact hT1 q a b
  have hF2 : Fr [36, 37, 106, 108] m (up m2 106 0 1) := fr_up (by simp) (fr_trans (fr_mono' F1 (by decide)) (fr_mono' F2 (by decide)))
  have z : ∀ d : Nat, (d : Int) ≤ ishl 1 (K 4) → SR (m2 106) (wC K ban) (ishl 1 (K 4)) d = 0 := by
    intro d
    induction d with
    | zero => intro _; rfl
    | succ d ih =>
      intro hd
      show m2 106 (ishl 1 (K 4) - ((d : Int) + 1)) * _ + SR _ _ _ d = 0
      rw [ih (by omega), f2 _ (by omega) (by omega), Int.zero_mul]; rfl
  have pc0 : pcH 0 = 0 := by decide +kernel
  have w0 : wC K ban 0 = waysW K (K 3).toNat 0 ban := by
    unfold wC
    rw [pc0, ior_0l hb]; rfl
  have hrow : up m2 106 0 1 106 = ku (m2 106) 0 1 := up_row _ _ _ _
  have start : SR (up m2 106 0 1 106) (wC K ban) (ishl 1 (K 4)) (ishl 1 (K 4) - 0).toNat = waysW K (K 3).toNat 0 ban := by
    rw [hrow, sr_ku, z _ (by omega), if_pos (by omega), f2 0 (by omega) (by omega), w0]; omega
  have wr := waysW_rg hn.1 (K 3).toNat 0 ban
  have p64 := pow64_le (K 3).toNat (by omega)
  generalize up m2 106 0 1 = m3 at *
  refine lp_for2 (ishl 1 (K 4)) (fun w t mm => 0 ≤ t ∧ (-2147483648 ≤ w ∧ w < 2147483648) ∧ (∃ k : Int, w + SR (mm 106) (wC K ban) (ishl 1 (K 4)) (ishl 1 (K 4) - t).toNat = waysW K (K 3).toNat 0 ban + 4294967296 * k) ∧ TetR K mm ∧ Fr [36, 37, 106, 108] m mm) ⟨by omega, by omega, ⟨0, by omega⟩, hT2, hF2⟩ (by omega) (by omega) ?_ ?_
  · rintro G w t mm ht ⟨t0, wrg, ⟨k, hk⟩, hT, hF⟩ ih
    have hRm : CR K mm := CR_fr hR (fun o z1 z2 => hF o (by simp; omega))
    have ebc := c_bitCount (n := t.toNat) (m := mm) (by omega)
    rw [Int.toNat_of_nonneg t0] at ebc
    simp only
    have es : SR (mm 106) (wC K ban) (ishl 1 (K 4)) (ishl 1 (K 4) - t).toNat = mm 106 t * wC K ban t + SR (mm 106) (wC K ban) (ishl 1 (K 4)) (ishl 1 (K 4) - (t + 1)).toNat := by
      rw [show (ishl 1 (K 4) - t).toNat = (ishl 1 (K 4) - (t + 1)).toNat + 1 by omega]
      show mm 106 (ishl 1 (K 4) - (((ishl 1 (K 4) - (t + 1)).toNat : Int) + 1)) * wC K ban (ishl 1 (K 4) - (((ishl 1 (K 4) - (t + 1)).toNat : Int) + 1)) + _ = _
      rw [show ishl 1 (K 4) - (((ishl 1 (K 4) - (t + 1)).toNat : Int) + 1) = t by omega]
    rw [es] at hk
    have epc : ((cntB 32 t.toNat : Nat) : Int) = ((pcH t : Nat) : Int) := rfl
    rw [if_neg (by omega), ebc, bR_some, tdiv_e 2 (by omega), epc, w32_id (x := t + 1) (by omega) (by omega)]
    have ediv : ((pcH t : Nat) : Int) / 2 = ((pcH t / 2 : Nat) : Int) := by omega
    rw [ediv]
    by_cases hp : ((pcH t / 2 : Nat) : Int) < K 3
    · rw [if_pos hp, chk_of (by omega)]
      by_cases hz : mm 106 t = 0
      · rw [if_pos hz]
        refine ih _ _ ⟨by omega, wrg, ⟨k, ?_⟩, hT, hF⟩
        rw [hz, Int.zero_mul] at hk; omega
      · rw [if_neg hz]
        obtain ⟨r, hr⟩ : ∃ r, (K 3).toNat - pcH t / 2 = r + 1 := ⟨(K 3).toNat - pcH t / 2 - 1, by omega⟩
        refine ok_bV (c_pushFrom hRm hV hT t0 ht hr) ?_
        rintro m4 ⟨⟨k4, hk4⟩, hle4, hF4⟩
        refine ih _ _ ⟨by omega, wrg, ⟨k + k4, ?_⟩, fun q a b => by rw [hF4 108 (by decide)]; exact hT q a b, fr_trans hF (fr_mono' hF4 (by decide))⟩
        rw [hk4]; omega
    · rw [if_neg hp, chk_of (by omega)]
      have w1 : wC K ban t = 1 := by
        unfold wC
        rw [show (K 3).toNat - pcH t / 2 = 0 by omega]; rfl
      rw [w1, Int.mul_one] at hk
      obtain ⟨_, k5, hk5⟩ := w32_cg (w + mm 106 t)
      refine ih _ _ ⟨by omega, w32_rg _, ⟨k + k5, ?_⟩, hT, hF⟩
      rw [hk5]; omega
  · rintro G w mm ⟨_, wrg, ⟨k, hk⟩, _, hF⟩
    simp only
    rw [if_pos (Int.le_refl _)]
    rw [show (ishl 1 (K 4) - ishl 1 (K 4)).toNat = 0 by omega] at hk
    have hk' : w + 0 = waysW K (K 3).toNat 0 ban + 4294967296 * k := hk
    refine ok_some ⟨?_, hF⟩
    show w = _
    omega

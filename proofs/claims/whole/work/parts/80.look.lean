/-! ===== D60: look ===== -/
def lookS (g : Int → Int) (all : Int) (n : Nat) : Nat → Int × Int
  | 0 => (-1, -1)
  | k + 1 => if imin (endS g (k : Int) n) (all - endS g (k : Int) n) ≤ (lookS g all n k).1 then lookS g all n k else (imin (endS g (k : Int) n) (all - endS g (k : Int) n), (k : Int))
def lookV (g : Int → Int) (n : Nat) : Int := if sumF g 625 = 0 then -1 else (lookS g (sumF g 625) n n).2
theorem lookS_succ {g : Int → Int} {all : Int} {n k : Nat} : lookS g all n (k + 1) = if imin (endS g (k : Int) n) (all - endS g (k : Int) n) ≤ (lookS g all n k).1 then lookS g all n k else (imin (endS g (k : Int) n) (all - endS g (k : Int) n), (k : Int)) := rfl
theorem c_tellsMost {K : Int → Int} {B : Int} {a b : Nat} {g : Int → Int} {m : Mem} (N25 : 0 ≤ K 1 * K 2 ∧ K 1 * K 2 ≤ 25) (ea : m 96 0 = (a : Int)) (hab : (a = 97 ∧ b = 98) ∨ (a = 98 ∧ b = 97)) (e3 : m 96 3 = K 1 * K 2) (ev : ∀ q, 0 ≤ q → q < 625 → m a q = g q) (hT : TabV (K 1 * K 2) B g) (hB : B ≤ 1000000000000) :
    fX7_tellsMost m = some (lookV g (K 1 * K 2).toNat) := by
  unfold fX7_tellsMost
  rw [c_total N25 ea hab e3 ev hT hB, bR_some, tot_all hT (by omega) (by omega)]
  have s0 := sum_nn 625 hT.1
  have s1 := hT.2.2
  simp only [rd_eq, jn_eq]
  refine ok_eq ?_
  refine lp_ok (fun (q : Int × Int × Int) (mm : Mem) => ∃ k : Nat, q.2.2 = (k : Int) ∧ (k : Int) ≤ K 1 * K 2 ∧ mm = m ∧ q.1 = (lookS g (sumF g 625) (K 1 * K 2).toNat k).1 ∧ q.2.1 = (lookS g (sumF g 625) (K 1 * K 2).toNat k).2 ∧ (0 < k → 0 < sumF g 625)) (fun q _ => (K 1 * K 2 - q.2.2).toNat) ⟨0, rfl, by omega, rfl, rfl, rfl, fun z => absurd z (by omega)⟩ (by show (K 1 * K 2 - 0).toNat < _; omega) ?_
  rintro G ⟨mo, be, i⟩ mm ⟨k, rfl, hk, rfl, h1, h2, h3⟩ ih
  simp only at h1 h2
  subst h1
  subst h2
  simp only
  rw [e3]
  by_cases hq : K 1 * K 2 ≤ (k : Int)
  · rw [if_pos hq]
    refine ok_some ?_
    unfold lookV
    have ek : (K 1 * K 2).toNat = k := by omega
    rw [ek] at *
    by_cases hz : sumF g 625 = 0
    · have k0 : k = 0 := by
        by_cases z : 0 < k
        · have := h3 z; omega
        · omega
      rw [if_pos hz, k0]; rfl
    · rw [if_neg hz]
  · rw [if_neg hq]
    by_cases hz : sumF g 625 ≤ 0
    · rw [if_pos hz]
      refine ok_some ?_
      have k0 : k = 0 := by
        by_cases z : 0 < k
        · have := h3 z; omega
        · omega
      unfold lookV
      rw [if_pos (by omega), k0]; rfl
    · have rg := endS_rg (k := (k : Int)) hT (by omega) (by omega) (K 1 * K 2).toNat (by omega)
      have hB0 : 0 ≤ B := by omega
      have : (((K 1 * K 2).toNat : Nat) : Int) * B ≤ 25 * B := Int.mul_le_mul_of_nonneg_right (by omega) hB0
      rw [if_neg hz, c_endingAt N25 ea hab e3 ev hT hB (by omega) (by omega), bR_some, w64_id (by omega) (by omega), w32_id (x := (k : Int) + 1) (by omega) (by omega)]
      by_cases hl : imin (endS g (k : Int) (K 1 * K 2).toNat) (sumF g 625 - endS g (k : Int) (K 1 * K 2).toNat) ≤ (lookS g (sumF g 625) (K 1 * K 2).toNat k).1
      · rw [if_pos hl]
        refine ih _ _ ⟨k + 1, by show (k : Int) + 1 = _; omega, by omega, rfl, ?_, ?_, fun _ => by omega⟩ (by show (K 1 * K 2 - ((k : Int) + 1)).toNat < (K 1 * K 2 - (k : Int)).toNat; omega)
        · rw [lookS_succ, if_pos hl]
        · rw [lookS_succ, if_pos hl]
      · rw [if_neg hl]
        refine ih _ _ ⟨k + 1, by show (k : Int) + 1 = _; omega, by omega, rfl, ?_, ?_, fun _ => by omega⟩ (by show (K 1 * K 2 - ((k : Int) + 1)).toNat < (K 1 * K 2 - (k : Int)).toNat; omega)
        · rw [lookS_succ, if_neg hl]
        · rw [lookS_succ, if_neg hl]
theorem d_look {c p t : Int} {m : Mem} (hI : Inv c m) (c0 : 0 ≤ c) (c1 : c ≤ 900000) : Two1 c (fL_look p t) (fX12_look p t) m := by
  obtain ⟨hR, hV, hn⟩ := inv_parts hI
  have hptr := hI.2.2.2.2.2.2.2
  have hT := hI.2.2.2.2.2.1
  have N25 := pl_25 hV.1
  refine two_a (x := fX11_look p t) (k := seenC (m 288) (m 309) (m 310) (m 311) p t 8) (k' := thrM (seenC (m 288) (m 309) (m 310) (m 311) p t 8)) (Φ := fun v => v = lookV (cntN (m 288) p (m 288 (25 + p)) (tied0 (m 288) p) (m 288 8) (wfT (m 311) t) (m 310 t).toNat) (m 288 1 * m 288 2).toNat) hI c0 (fun a b ha hb => ha.trans hb.symm) ?_ (fun _ _ => rfl) (fun z => by rw [z]; rfl) (fun z => thr_h seenC_rg z) (fun m1 hI1 e e9 e10 e11 => ?_)
  · unfold fX11_look
    rw [c_needSeen hR hV hT]
    by_cases hs : seenC (m 288) (m 309) (m 310) (m 311) p t 8 = 0
    · rw [hs, bX_some0]
      obtain ⟨hp, ht, hm, hb, hsn⟩ := seenC_inv hs
      refine ok_bV (c_countSeen hI c0 c1 hs) ?_
      rintro m2 ⟨hTl, hA, h100, hF⟩
      have hTl' := hTl
      obtain ⟨a, b, hab, ea, eb, e3, ev⟩ := hTl'
      have hTab := cntN_tab (rope := m 288 (25 + p)) (rocks := m 288 8) (tied := tied0 (m 288) p) (wf := wfT (m 311) t) hV hp.1 hp.2 (m 310 t).toNat (by omega)
      have hB := pow25_le (m 310 t).toNat (by omega)
      have ec := c_tellsMost N25 ea hab e3 ev hTab (by omega)
      generalize lookV (cntN (m 288) p (m 288 (25 + p)) (tied0 (m 288) p) (m 288 8) (wfT (m 311) t) (m 310 t).toNat) (m 288 1 * m 288 2).toNat = V at ec ⊢
      rw [ec, bR_some]
      exact ok_some ⟨rfl, fun _ => rfl, hF, near_of hV hp.1 hp.2 hA, tal_ptr hTl hptr h100⟩
    · rw [bX_ne hs]; exact ok_some (aq1 hI hs)
  · have hV1 : CV c (m1 288) := by rw [e]; exact hV
    rw [← e, ← e9, ← e10, ← e11]
    rw [← e] at N25
    unfold fX12_look
    rw [m_watchedFault rfl hV1.1 hI1.2.2.2.2.2.1, bR_some]
    simp only [rd_eq, wr_eq, jn_eq, up_same]
    by_cases hs : seenC (m1 288) (m1 309) (m1 310) (m1 311) p t 8 = 0
    · rw [hs, show thrM 0 = 0 from rfl, if_pos (by decide)]
      have hK0 : up m1 287 4 0 288 = m1 288 := up_cell (by decide)
      have h10 : up m1 287 4 0 310 = m1 310 := up_cell (by decide)
      have h11 : up m1 287 4 0 311 = m1 311 := up_cell (by decide)
      obtain ⟨h4, hN, hF0⟩ := am_thrown (m := m1) (k := 0)
      obtain ⟨hp, ht, hm, hb, hsn⟩ := seenC_inv hs
      have hTab := cntN_tab (rope := m1 288 (25 + p)) (rocks := m1 288 8) (tied := tied0 (m1 288) p) (wf := wfT (m1 311) t) hV1 hp.1 hp.2 (m1 310 t).toNat (by omega)
      have hB := pow25_le (m1 310 t).toNat (by omega)
      generalize up m1 287 4 0 = m2 at *
      refine ok_bW (m_countsFits hK0 hV1 (by omega) h10 h11 hs) ?_
      rintro v m3 ⟨d1, d2, d3, d4⟩
      simp only at d1 d2 d3 d4
      have hK3 : m3 288 = m1 288 := (d4 288 (by decide)).trans hK0
      have fin : ∀ x : Int, x = lookV (cntN (m1 288) p (m1 288 (25 + p)) (tied0 (m1 288) p) (m1 288 8) (wfT (m1 311) t) (m1 310 t).toNat) (m1 288 1 * m1 288 2).toNat → AM 0 (fun v => v = lookV (cntN (m1 288) p (m1 288 (25 + p)) (tied0 (m1 288) p) (m1 288 8) (wfT (m1 311) t) (m1 310 t).toNat) (m1 288 1 * m1 288 2).toNat) m1 (x, m3) := fun x hx => am0 h4 hN hF0 d3 (fr_mono' d4 (by decide)) hx
      generalize cntN (m1 288) p (m1 288 (25 + p)) (tied0 (m1 288) p) (m1 288 8) (wfT (m1 311) t) (m1 310 t).toNat = g at *
      have s0 := sum_nn 625 hTab.1
      have s1 := hTab.2.2
      rw [d1]
      by_cases hz : sumF g 625 = 0
      · rw [if_neg (fun z => z hz)]
        exact ok_some (fin _ (by unfold lookV; rw [if_pos hz]))
      · rw [if_pos hz]
        refine lp_ok (fun (q : Int × Int × Int) (mm : Mem) => ∃ k : Nat, q.2.2 = (k : Int) ∧ (k : Int) ≤ m1 288 1 * m1 288 2 ∧ mm = m3 ∧ q.2.1 = (lookS g (sumF g 625) (m1 288 1 * m1 288 2).toNat k).1 ∧ q.1 = (lookS g (sumF g 625) (m1 288 1 * m1 288 2).toNat k).2) (fun q _ => (m1 288 1 * m1 288 2 - q.2.2).toNat) ⟨0, rfl, by omega, rfl, rfl, rfl⟩ (by show (m1 288 1 * m1 288 2 - 0).toNat < _; omega) ?_
        rintro G ⟨be, mo, i⟩ mm ⟨k, rfl, hk, rfl, h1, h2⟩ ih
        simp only at h1 h2
        subst h1
        subst h2
        simp only
        rw [m_places hK3 hV1.1, bR_some]
        by_cases hq : m1 288 1 * m1 288 2 ≤ (k : Int)
        · rw [if_pos hq]
          have ek : (m1 288 1 * m1 288 2).toNat = k := by omega
          refine ok_some (fin _ ?_)
          unfold lookV
          rw [if_neg hz, ek]
        · rw [if_neg hq]
          refine lp_for2 25 (fun a j m4 => 0 ≤ j ∧ a = endS g (k : Int) j.toNat ∧ m4 = mm) ⟨by omega, rfl, rfl⟩ (by omega) (by omega) ?_ ?_
          · rintro G2 a j m4 hj ⟨j0, rfl, rfl⟩ ih2
            simp only
            have es : endS g (k : Int) (j + 1).toNat = endS g (k : Int) j.toNat + g (25 * j + (k : Int)) := by
              rw [show (j + 1).toNat = j.toNat + 1 by omega]
              show _ + g (25 * ((j.toNat : Nat) : Int) + (k : Int)) = _
              rw [Int.toNat_of_nonneg j0]
            have rg := endS_rg (k := (k : Int)) hTab (by omega) (by omega) (j + 1).toNat (by omega)
            have hB0 : 0 ≤ pow25 (m1 310 t).toNat := by omega
            have : (((j + 1).toNat : Nat) : Int) * pow25 (m1 310 t).toNat ≤ 25 * pow25 (m1 310 t).toNat := Int.mul_le_mul_of_nonneg_right (by omega) hB0
            rw [if_neg (by omega), w32_id (x := 25 * j) (by omega) (by omega), w32_id (x := 25 * j + (k : Int)) (by omega) (by omega), chk_of (by omega), d2 _ (by omega) (by omega), w32_id (x := j + 1) (by omega) (by omega), ← es, w64_id (by omega) (by omega)]
            exact ih2 _ _ ⟨by omega, rfl, rfl⟩
          · rintro G2 a m4 ⟨_, rfl, rfl⟩
            simp only
            have ez := end_zero (k := (k : Int)) (n := (m1 288 1 * m1 288 2).toNat) hTab (by omega) (by omega) (by omega) (25 - (m1 288 1 * m1 288 2).toNat) (by omega)
            rw [show (m1 288 1 * m1 288 2).toNat + (25 - (m1 288 1 * m1 288 2).toNat) = 25 by omega] at ez
            have rg := endS_rg (k := (k : Int)) hTab (by omega) (by omega) (m1 288 1 * m1 288 2).toNat (by omega)
            have hB0 : 0 ≤ pow25 (m1 310 t).toNat := by omega
            have : (((m1 288 1 * m1 288 2).toNat : Nat) : Int) * pow25 (m1 310 t).toNat ≤ 25 * pow25 (m1 310 t).toNat := Int.mul_le_mul_of_nonneg_right (by omega) hB0
            rw [if_pos (by decide), show ((25 : Int)).toNat = 25 from rfl, ez, w64_id (by omega) (by omega), w32_id (x := (k : Int) + 1) (by omega) (by omega)]
            by_cases hl : imin (endS g (k : Int) (m1 288 1 * m1 288 2).toNat) (sumF g 625 - endS g (k : Int) (m1 288 1 * m1 288 2).toNat) ≤ (lookS g (sumF g 625) (m1 288 1 * m1 288 2).toNat k).1
            · rw [if_neg (by omega)]
              refine ih _ _ ⟨k + 1, by show (k : Int) + 1 = _; omega, by omega, rfl, ?_, ?_⟩ (by show (m1 288 1 * m1 288 2 - ((k : Int) + 1)).toNat < (m1 288 1 * m1 288 2 - (k : Int)).toNat; omega)
              · rw [lookS_succ, if_pos hl]
              · rw [lookS_succ, if_pos hl]
            · rw [if_pos (by omega)]
              refine ih _ _ ⟨k + 1, by show (k : Int) + 1 = _; omega, by omega, rfl, ?_, ?_⟩ (by show (m1 288 1 * m1 288 2 - ((k : Int) + 1)).toNat < (m1 288 1 * m1 288 2 - (k : Int)).toNat; omega)
              · rw [lookS_succ, if_neg hl]
              · rw [lookS_succ, if_neg hl]
    · have hn := thr_ne hs
      rw [if_neg hn.2]
      exact ok_some (am1 hn.1)

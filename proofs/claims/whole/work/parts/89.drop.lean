/-! ===== D69: dropped ===== -/
def DrpI (Q : Nat → Int → Prop) (k best soon : Int) : Prop :=
  (best = -1 ∧ soon = 536870912 ∧ ∀ i : Int, 0 ≤ i → i < k → ∀ h : Nat, h ≤ 40 → ¬ Q h i) ∨
  (∃ h : Nat, h ≤ 40 ∧ soon = (h : Int) ∧ (0 ≤ best ∧ best < k) ∧ Q h best ∧ (∀ i : Int, 0 ≤ i → i < best → ∀ h' : Nat, h' ≤ h → ¬ Q h' i) ∧ ∀ i : Int, 0 ≤ i → i < k → ∀ h' : Nat, h' < h → ¬ Q h' i)
theorem drp_end {Q : Nat → Int → Prop} {n : Nat} {best soon : Int} (h : DrpI Q (n : Int) best soon) : DropP Q n best := by
  rcases h with ⟨a, _, c⟩ | ⟨h, a, b, c, d, e, f⟩
  · exact .inr ⟨a, fun h h40 i i0 i1 => c i i0 i1 h h40⟩
  · exact .inl ⟨h, a, c, d, fun i i0 i1 => e i i0 i1 h (Nat.le_refl _), fun h' z i i0 i1 => f i i0 i1 h' z⟩
theorem drp_none {Q : Nat → Int → Prop} {k best soon : Int} (h : DrpI Q k best soon) (hq : ∀ g, g ≤ 40 → ¬ Q g k) : DrpI Q (k + 1) best soon := by
  rcases h with ⟨a, b, c⟩ | ⟨h, a, b, c, d, e, f⟩
  · refine .inl ⟨a, b, fun i i0 i1 => ?_⟩
    by_cases z : i = k
    · rw [z]; exact hq
    · exact c i i0 (by omega)
  · refine .inr ⟨h, a, b, by omega, d, e, fun i i0 i1 => ?_⟩
    by_cases z : i = k
    · rw [z]; exact fun h' y => hq h' (by omega)
    · exact f i i0 (by omega)
theorem drp_new {Q : Nat → Int → Prop} {k best soon : Int} {g : Nat} (h : DrpI Q k best soon) (k0 : 0 ≤ k) (g40 : g ≤ 40) (hq : Q g k) (hl : ∀ g', g' < g → ¬ Q g' k) (hlt : (g : Int) < soon) : DrpI Q (k + 1) k (g : Int) := by
  refine .inr ⟨g, g40, rfl, by omega, hq, ?_, ?_⟩
  · rcases h with ⟨a, b, c⟩ | ⟨h, a, b, c, d, e, f⟩
    · exact fun i i0 i1 h' y => c i i0 i1 h' (by omega)
    · exact fun i i0 i1 h' y => f i i0 i1 h' (by omega)
  · intro i i0 i1
    by_cases z : i = k
    · rw [z]; exact hl
    · rcases h with ⟨a, b, c⟩ | ⟨h, a, b, c, d, e, f⟩
      · exact fun h' y => c i i0 (by omega) h' (by omega)
      · exact fun h' y => f i i0 (by omega) h' (by omega)
theorem drp_old {Q : Nat → Int → Prop} {k best soon : Int} {g : Nat} (h : DrpI Q k best soon) (g40 : g ≤ 40) (hl : ∀ g', g' < g → ¬ Q g' k) (hge : ¬ (g : Int) < soon) : DrpI Q (k + 1) best soon := by
  rcases h with ⟨a, b, c⟩ | ⟨h, a, b, c, d, e, f⟩
  · omega
  · refine .inr ⟨h, a, b, by omega, d, e, fun i i0 i1 => ?_⟩
    by_cases z : i = k
    · rw [z]; exact fun h' y => hl h' (by omega)
    · exact f i i0 (by omega)
theorem d_dropped {c p t : Int} {m : Mem} (hI : Inv c m) (c0 : 0 ≤ c) (c1 : c ≤ 900000) : Two1 c (fL_dropped p t) (fX12_dropped p t) m := by
  obtain ⟨hR, hV, hn⟩ := inv_parts hI
  refine two_a (x := fX11_dropped p t) (k := errC (m 288) (m 309) (m 310) (m 311) p t) (k' := thrM (errC (m 288) (m 309) (m 310) (m 311) p t)) (Φ := DropP (dnAt (m 288) p (m 288 (25 + p)) (tied0 (m 288) p) (m 288 8) (EA m t) (m 310 t).toNat) (m 310 t).toNat) hI c0 (fun a b ha hb => dropP_uq ha hb) ?_ (fun _ _ => rfl) (fun z => by rw [z]; rfl) (fun z => thr_h errC_rg z) (fun m1 hI1 e e9 e10 e11 => ?_)
  · unfold fX11_dropped
    by_cases hs : errC (m 288) (m 309) (m 310) (m 311) p t = 0
    · rw [hs]
      have hb := (errC_inv hs).2.2.2.1
      exact c_errPre hI c1 hs (fun m1 h1 h2 h3 h4 h5 h6 => c_bestDropped h1 h2 h3 h4 (by omega) h5 h6)
    · exact c_errBad hI hs
  · have hV1 : CV c (m1 288) := by rw [e]; exact hV
    have eEA : EA m t = EA m1 t := by unfold EA; rw [e11]
    rw [eEA, ← e, ← e9, ← e10, ← e11]
    unfold fX12_dropped
    rw [m_isPair rfl hV1.1, bR_some]
    simp only [rd_eq, wr_eq, jn_eq, up_same]
    by_cases hp : 0 ≤ p ∧ p < m1 288 3
    · have ec : errC (m1 288) (m1 309) (m1 310) (m1 311) p t = errR (m1 288) (m1 309) (m1 310) (m1 311) t := if_pos hp
      rw [if_pos hp, if_neg (by decide), m_errandsFault rfl hV1.1 hI1.2.2.2.2.2.1, bR_some, ← ec]
      by_cases hs : errC (m1 288) (m1 309) (m1 310) (m1 311) p t = 0
      · rw [hs, show thrM 0 = 0 from rfl, if_pos (by decide)]
        obtain ⟨_, ht, hm, hb, hE⟩ := errC_inv hs
        have hK0 : up m1 287 4 0 288 = m1 288 := up_cell (by decide)
        have h10 : up m1 287 4 0 310 = m1 310 := up_cell (by decide)
        have h11 : up m1 287 4 0 311 = m1 311 := up_cell (by decide)
        obtain ⟨h4, hN, hF0⟩ := am_thrown (m := m1) (k := 0)
        generalize up m1 287 4 0 = m2 at *
        refine ok_bV (m_laysOwn hK0 hV1 (by omega) hp.1 hp.2) ?_
        rintro m3 ⟨a1, a2, a3, a4⟩
        have en : (((m1 310 t).toNat : Nat) : Int) = m1 310 t := Int.toNat_of_nonneg (by omega)
        refine lp_ok (fun (q : Int × Int × Int) (mm : Mem) => (0 ≤ q.2.2 ∧ q.2.2 ≤ m1 310 t) ∧ DrpI (dnAt (m1 288) p (m1 288 (25 + p)) (tied0 (m1 288) p) (m1 288 8) (EA m1 t) (m1 310 t).toNat) q.2.2 q.1 q.2.1 ∧ Fr [305, 306] m3 mm) (fun q _ => (m1 310 t - q.2.2).toNat) ⟨⟨by show (0 : Int) ≤ 0; omega, by show (0 : Int) ≤ _; omega⟩, .inl ⟨rfl, rfl, fun i i0 i1 => by simp only at i1; omega⟩, fr_refl⟩ (by show (m1 310 t - 0).toNat < _; omega) ?_
        rintro G ⟨best, soon, k⟩ mm ⟨⟨k0, k1⟩, hd, hF⟩ ih
        simp only at k0 k1 hd ih ⊢
        rw [chk_of (by omega), hF 310 (by decide), a4 310 (by decide), h10]
        by_cases hq : m1 310 t ≤ k
        · rw [if_pos hq]
          have ek : k = (((m1 310 t).toNat : Nat) : Int) := by omega
          rw [ek] at hd
          exact ok_some (am0 h4 hN hF0 (fun i hi => by rw [hF 287 (by decide)]; exact a3 i hi) (fr_trans (fr_mono' a4 (by decide)) (fr_mono' hF (by decide))) (drp_end hd))
        · have os := one_set (m1 310 t).toNat (by omega) k.toNat (by omega)
          rw [Int.toNat_of_nonneg k0] at os
          rw [if_neg hq, w32_id (x := k + 1) (by omega) (by omega)]
          refine ok_bW (m_doneBy (rocks := m1 288 8) (A := EA m1 t) (n := (m1 310 t).toNat) ((hF 288 (by decide)).trans ((a4 288 (by decide)).trans hK0)) hV1 hp.1 hp.2 (laid_fr a1 (hF 296 (by decide)) (hF 299 (by decide)) (hF 300 (by decide))) (by rw [hF 287 (by decide)]; exact a2) (by omega) hE (setN_of (by omega) os.1 os.2) ht (by rw [hF 310 (by decide), a4 310 (by decide), h10, en]) (fun i _ _ => by rw [hF 311 (by decide), a4 311 (by decide), h11]; rfl)) ?_
          rintro x m4 ⟨b1, b2⟩
          simp only at b1 b2
          have F4 : Fr [305, 306] m3 m4 := fr_trans hF b2
          have ex : ∀ h, (∃ j z, errP (m1 288) p (m1 288 (25 + p)) (tied0 (m1 288) p) (m1 288 8) (EA m1 t) (m1 310 t).toNat (ishl 1 k) h (allS (m1 310 t).toNat) j z) ↔ dnAt (m1 288) p (m1 288 (25 + p)) (tied0 (m1 288) p) (m1 288 8) (EA m1 t) (m1 310 t).toNat h k := fun h => errP_ex hV1 hp.1 hp.2 (by omega) k0 (by omega)
          rcases b1 with ⟨g, g40, rfl, q1, q2⟩ | ⟨rfl, q1⟩
          · rw [if_neg (by omega)]
            by_cases hl : (g : Int) < soon
            · rw [if_pos hl]
              exact ih _ m4 ⟨by show 0 ≤ k + 1 ∧ k + 1 ≤ m1 310 t; omega, drp_new hd k0 g40 ((ex g).mp q1) (fun g' z y => q2 g' z ((ex g').mpr y)) hl, F4⟩ (by show (m1 310 t - (k + 1)).toNat < (m1 310 t - k).toNat; omega)
            · rw [if_neg hl]
              exact ih _ m4 ⟨by show 0 ≤ k + 1 ∧ k + 1 ≤ m1 310 t; omega, drp_old hd g40 (fun g' z y => q2 g' z ((ex g').mpr y)) hl, F4⟩ (by show (m1 310 t - (k + 1)).toNat < (m1 310 t - k).toNat; omega)
          · rw [if_pos rfl]
            exact ih _ m4 ⟨by show 0 ≤ k + 1 ∧ k + 1 ≤ m1 310 t; omega, drp_none hd (fun g z y => q1 g z ((ex g).mpr y)), F4⟩ (by show (m1 310 t - (k + 1)).toNat < (m1 310 t - k).toNat; omega)
      · have hn := thr_ne hs
        rw [if_neg hn.2]
        exact ok_some (am1 hn.1)
    · have ec : errC (m1 288) (m1 309) (m1 310) (m1 311) p t = 3 := if_neg hp
      rw [if_neg hp, if_pos rfl, ec, if_neg (by decide)]
      exact ok_some (am1 (by decide))

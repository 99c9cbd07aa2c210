/-! ===== D25: questions of hours to come: frames, the class's beginning ===== -/
def AS : List Nat := [18, 32, 33, 34, 35, 36, 37, 78, 79, 80, 81, 82, 83, 84, 85, 96, 97, 98, 99, 100, 101, 102, 103, 104, 105, 106, 107, 108, 109]
def MSC : List Nat := [287, 293, 294, 295, 296, 297, 298, 299, 300, 301, 302, 303, 304, 305, 306, 307, 308]
theorem AS_held {o : Nat} (h : Held o) : o ∉ AS := held_of (by decide) h
theorem MSC_held {o : Nat} (h : Held o) : o ∉ MSC := held_of (by decide) h
def AQ (k : Int) (Φ : Int → Prop) (m : Mem) (r : Int × Int × Mem) : Prop := r.1 = k ∧ (k = 0 → Φ r.2.1) ∧ Fr AS m r.2.2 ∧ NearOk r.2.2 ∧ PtrR r.2.2
def AM (k : Int) (Φ : Int → Prop) (m : Mem) (r : Int × Mem) : Prop := r.2 287 4 = k ∧ (k = 0 → Φ r.1) ∧ Fr MSC m r.2 ∧ (r.2 287 6 = m 287 6 ∧ r.2 287 14 = m 287 14 ∧ r.2 287 15 = m 287 15)
theorem two_a {c k k' : Int} {Φ : Int → Prop} {x : Mem → Option (Int × Int × Mem)} {h f : Int → Mem → Option (Int × Mem)} {G : Mem → Option (Int × Mem)} {m : Mem} (hI : Inv c m) (c0 : 0 ≤ c) (uq : ∀ a b, Φ a → Φ b → a = b)
    (hx : Ok (x m) (AQ k Φ m)) (hf : ∀ v mm, f v mm = some (0, up mm 312 0 v)) (h0 : k = 0 → k' = 0) (hh : k ≠ 0 → k' ≠ 0 ∧ ∀ mm, h k mm = some (k', mm))
    (hG : ∀ m1, Inv c m1 → m1 288 = m 288 → m1 309 = m 309 → m1 310 = m 310 → m1 311 = m 311 → Ok (G m1) (AM k' Φ m1)) : Two1 c (fun mm => bC (x mm) h f) G m := by
  have fin : ∀ (k1 : Int) (m1 : Mem), Fr (312 :: AS) m m1 → NearOk m1 → PtrR m1 → k' = k1 → (k' = 0 → Φ (m1 312 0)) → Ok (some (k1, m1)) (fun r => Ok (G r.2) (fun s => s.2 287 4 = r.1 ∧ (r.1 = 0 → s.2 312 0 = s.1) ∧ Inv (c + 100) s.2)) := by
    intro k1 m1 hF hn hp hk hΦ
    refine ok_some ?_
    have hF' : ∀ o, Held o → m1 o = m o := fun o ho => hF o (fun q => by rcases List.mem_cons.mp q with q | q; (subst q; unfold Held at ho; omega); exact AS_held ho q)
    have hI1 : Inv c m1 := inv_q hI hF' (by rw [hF 287 (by decide)]; exact ⟨rfl, rfl, rfl⟩) hn hp
    refine ok_imp (hG m1 hI1 (hF 288 (by decide)) (hF 309 (by decide)) (hF 310 (by decide)) (hF 311 (by decide))) ?_
    rintro ⟨y, m2⟩ ⟨d1, d2, d3, d4⟩
    simp only at d1 d2 d3 d4
    refine ⟨d1.trans hk, fun q => ?_, Inv_mono (inv_q hI1 (fun o ho => d3 o (MSC_held ho)) d4 (NearOk_fr hn ?_ (d3 81 (by decide))) (PtrR_fr hp (d3 96 (by decide)) (d3 100 (by decide)))) (by omega)⟩
    · show m2 312 0 = y
      rw [d3 312 (by decide)]
      have q' : k' = 0 := hk.trans q
      exact uq _ _ (hΦ q') (d2 q')
    · show m2 18 9 = _ ∧ m2 18 10 = _ ∧ m2 18 11 = _
      rw [d3 18 (by decide)]; exact ⟨rfl, rfl, rfl⟩
  refine bC_ok hx ?_ ?_
  · rintro v m1 ⟨e1, e2, e3, e4, e5⟩
    simp only at e1 e2 e3 e4 e5
    rw [hf]
    have F : Fr (312 :: AS) m (up m1 312 0 v) := fr_up (by simp) (fr_mono e3 (fun o ho => List.mem_cons_of_mem _ ho))
    refine fin 0 _ F (NearOk_fr e4 ?_ (up_cell (by decide))) (PtrR_fr e5 (up_cell (by decide)) (up_cell (by decide))) (h0 e1.symm) (fun _ => by rw [up_same]; exact e2 e1.symm)
    rw [up_cell (by decide)]; exact ⟨rfl, rfl, rfl⟩
  · rintro k1 v m1 hk ⟨e1, e2, e3, e4, e5⟩
    simp only at e1 e2 e3 e4 e5
    subst e1
    obtain ⟨g1, g2⟩ := hh hk
    rw [g2]
    exact fin k' m1 (fr_mono e3 (fun o ho => List.mem_cons_of_mem _ ho)) e4 e5 rfl (fun q => absurd q g1)
/-! which places are near which -/
theorem c_fillNear {K : Int → Int} {c : Int} {m : Mem} (hR : CR K m) (hI : IsV K) (w2 : 2 ≤ K 1) (w5 : K 1 ≤ 5) (v2 : 2 ≤ K 2) (v5 : K 2 ≤ 5) (s9 : m 18 9 = K 1 * K 2) :
    Ok (fX0_fillNear m) (fun m' => NearR (K 1) (K 1 * K 2) m' ∧ (∀ i, i ≠ 11 → m' 18 i = m 18 i) ∧ Fr [18, 81] m m') := by
  have ar := area_le w2 w5 v2 v5
  unfold fX0_fillNear
  refine ok_bV (c_fillI (by decide)) ?_
  rintro m1 ⟨a1, _, a3⟩
  simp only [rd_eq, wr_eq]
  have F1 : Fr [18, 81] m (up m1 18 11 0) := fr_up (by simp) (fr_mono' a3 (by decide))
  have g18 : ∀ i, i ≠ 11 → up m1 18 11 0 18 i = m 18 i := fun i hi => by rw [up_idx hi, a3 18 (by decide)]
  refine lp_for (K 1 * K 2) (fun j mm => 0 ≤ j ∧ Bits (mm 18 11) (fun i => (i : Int) < j ∧ (i : Int) % K 1 = K 1 - 1) ∧ (∀ f i, 0 ≤ f → f ≤ 8 → 0 ≤ i → i < K 1 * K 2 → Bits (mm 81 (25 * f + i)) (fun k => (i < j ∧ (k : Int) < K 1 * K 2) ∧ apartF (K 1) i k ≤ f)) ∧ (∀ i, i ≠ 11 → mm 18 i = m 18 i) ∧ Fr [18, 81] m mm) ⟨by omega, by rw [up_same]; exact bits_zero (fun i _ q => by omega), fun f i f0 f8 i0 i1 => by rw [up_cell (by decide), a1 _ (by omega) (by omega)]; exact bits_zero (fun k _ q => by omega), g18, F1⟩ (by omega) (by omega) ?_ ?_
  · rintro G j mm hj ⟨j0, b1, b2, b3, b4⟩ ih
    have hR' : CR K mm := CR_fr hR (fun o a b => b4 o (by simp; omega))
    rw [b3 9 (by decide), s9, if_neg (by omega), c_beside hR'.1 w2 w5 v2 v5 j0 hj, bR_some]
    simp only [jn_eq]
    have body : ∀ v, Bits (ior (mm 18 11) v) (fun i => (i : Int) < j + 1 ∧ (i : Int) % K 1 = K 1 - 1) → Ok (lp BIG (fun K9 (t8 : Int) mm => (if mm 18 9 ≤ t8 then G (w32 (j + 1)) mm else bR (fX3_apart j t8 mm) fun x11 => lp BIG (fun K13 (t12 : Int) mm => (if 8 < t12 then K9 (w32 (t8 + 1)) mm else chk ((0 : Int) ≤ w32 (w32 (t12 * 25) + j) ∧ w32 (w32 (t12 * 25) + j) < ((225 : Nat) : Int)) (chk ((0 : Int) ≤ w32 (w32 (t12 * 25) + j) ∧ w32 (w32 (t12 * 25) + j) < ((225 : Nat) : Int)) (K13 (w32 (t12 + 1)) (up mm 81 (w32 (w32 (t12 * 25) + j)) (ior (mm 81 (w32 (w32 (t12 * 25) + j))) (ishl 1 t8))))))) x11 mm)) 0 (up mm 18 11 (ior (mm 18 11) v))) (fun m' => NearR (K 1) (K 1 * K 2) m' ∧ (∀ i, i ≠ 11 → m' 18 i = m 18 i) ∧ Fr [18, 81] m m') := by
      intro v hv
      have c3 : ∀ i, i ≠ 11 → up mm 18 11 (ior (mm 18 11) v) 18 i = m 18 i := fun i hi => by rw [up_idx hi, b3 i hi]
      have c4 : Fr [18, 81] m (up mm 18 11 (ior (mm 18 11) v)) := fr_up (by simp) b4
      have c11 : up mm 18 11 (ior (mm 18 11) v) 18 11 = ior (mm 18 11) v := up_same _ _ _ _
      have c81 : up mm 18 11 (ior (mm 18 11) v) 81 = mm 81 := up_cell (by decide)
      generalize up mm 18 11 (ior (mm 18 11) v) = m2 at *
      refine lp_for (K 1 * K 2) (fun k q => 0 ≤ k ∧ (∀ f i, 0 ≤ f → f ≤ 8 → 0 ≤ i → i < K 1 * K 2 → Bits (q 81 (25 * f + i)) (fun k' => ((i < j ∧ (k' : Int) < K 1 * K 2) ∨ (i = j ∧ (k' : Int) < k)) ∧ apartF (K 1) i k' ≤ f)) ∧ Fr [81] m2 q) ⟨by omega, fun f i f0 f8 i0 i1 => by rw [c81]; exact bits_imp (b2 f i f0 f8 i0 i1) (fun k _ => ⟨fun ⟨a, b⟩ => ⟨.inl a, b⟩, fun ⟨a, b⟩ => ⟨a.resolve_right (by omega), b⟩⟩), fr_refl⟩ (by omega) (by omega) ?_ ?_
      · rintro G2 k q hk ⟨k0, d1, d2⟩ ih2
        have e18 : q 18 = m2 18 := d2 18 (by decide)
        have hR2 : CR K q := CR_fr hR (fun o a b => by rw [d2 o (by simp; omega), c4 o (by simp; omega)])
        have ap := apartF_rg (j := j) (k := k) w2 w5 j0 (by omega) k0 (by omega)
        have ap8 := apartF_8 w2 w5 v2 v5 j0 hj k0 hk
        rw [e18, c3 9 (by decide), s9, if_neg (by omega), c_apart hR2.1 w2 w5 j0 (by omega) k0 (by omega), bR_some]
        refine lp_for 9 (fun f z => apartF (K 1) j k ≤ f ∧ (∀ f' i, 0 ≤ f' → f' ≤ 8 → 0 ≤ i → i < K 1 * K 2 → Bits (z 81 (25 * f' + i)) (fun k' => ((i < j ∧ (k' : Int) < K 1 * K 2) ∨ (i = j ∧ ((k' : Int) < k ∨ ((k' : Int) = k ∧ f' < f)))) ∧ apartF (K 1) i k' ≤ f')) ∧ Fr [81] m2 z) ⟨Int.le_refl _, fun f' i f0 f8 i0 i1 => bits_imp (d1 f' i f0 f8 i0 i1) (fun k' _ => ?_), d2⟩ (by omega) (by omega) ?_ ?_
        · constructor
          · rintro ⟨a | a, b⟩
            · exact ⟨.inl a, b⟩
            · exact ⟨.inr ⟨a.1, .inl a.2⟩, b⟩
          · rintro ⟨a | ⟨a, a2 | ⟨a2, a3⟩⟩, b⟩
            · exact ⟨.inl a, b⟩
            · exact ⟨.inr ⟨a, a2⟩, b⟩
            · exfalso; subst a; rw [a2] at b; omega
        · rintro G3 f z hf ⟨f0, g1, g2⟩ ih3
          rw [if_neg (by omega), w32_id (x := f * 25) (by omega) (by omega), w32_id (x := f * 25 + j) (by omega) (by omega), chk_of (by omega), chk_of (by omega), w32_id (x := f + 1) (by omega) (by omega)]
          refine ih3 _ ⟨by omega, fun f' i f0' f8' i0 i1 => ?_, fr_up (by simp) g2⟩
          have old := g1 f' i f0' f8' i0 i1
          rw [up_row]
          by_cases e : f' = f ∧ i = j
          · obtain ⟨ea, eb⟩ := e
            subst ea; subst eb
            rw [show 25 * f' + i = f' * 25 + i by omega, ku_at]
            rw [show 25 * f' + i = f' * 25 + i by omega] at old
            refine bits_imp (bits_or old k0 (by omega)) (fun k' hk' => ?_)
            constructor
            · rintro (⟨a, b⟩ | a)
              · refine ⟨?_, b⟩
                rcases a with a | ⟨a, a2 | ⟨a2, a3⟩⟩
                · exact .inl a
                · exact .inr ⟨a, .inl a2⟩
                · exact .inr ⟨a, .inr ⟨a2, by omega⟩⟩
              · have ek : (k' : Int) = k := by omega
                exact ⟨.inr ⟨rfl, .inr ⟨ek, by omega⟩⟩, by rw [ek]; exact f0⟩
            · rintro ⟨a, b⟩
              rcases a with a | ⟨a, a2 | ⟨a2, a3⟩⟩
              · exact .inl ⟨.inl a, b⟩
              · exact .inl ⟨.inr ⟨a, .inl a2⟩, b⟩
              · exact .inr (by omega)
          · rw [ku_ne (by omega)]
            refine bits_imp old (fun k' hk' => ?_)
            constructor
            · rintro ⟨a, b⟩
              refine ⟨?_, b⟩
              rcases a with a | ⟨a, a2 | ⟨a2, a3⟩⟩
              · exact .inl a
              · exact .inr ⟨a, .inl a2⟩
              · exact .inr ⟨a, .inr ⟨a2, by omega⟩⟩
            · rintro ⟨a, b⟩
              refine ⟨?_, b⟩
              rcases a with a | ⟨a, a2 | ⟨a2, a3⟩⟩
              · exact .inl a
              · exact .inr ⟨a, .inl a2⟩
              · exact .inr ⟨a, .inr ⟨a2, by omega⟩⟩
        · rintro G3 z ⟨f0, g1, g2⟩
          rw [if_pos (by omega), w32_id (by omega) (by omega)]
          refine ih2 _ ⟨by omega, fun f i f0' f8 i0 i1 => bits_imp (g1 f i f0' f8 i0 i1) (fun k' _ => ?_), g2⟩
          constructor
          · rintro ⟨a, b⟩
            refine ⟨?_, b⟩
            rcases a with a | ⟨a, a2 | ⟨a2, a3⟩⟩
            · exact .inl a
            · exact .inr ⟨a, by omega⟩
            · exact .inr ⟨a, by omega⟩
          · rintro ⟨a, b⟩
            refine ⟨?_, b⟩
            rcases a with a | ⟨a, a2⟩
            · exact .inl a
            · by_cases e : (k' : Int) = k
              · exact .inr ⟨a, .inr ⟨e, by omega⟩⟩
              · exact .inr ⟨a, .inl (by omega)⟩
      · rintro G2 q ⟨k0, d1, d2⟩
        have e18 : q 18 = m2 18 := d2 18 (by decide)
        rw [e18, c3 9 (by decide), s9, if_pos (by omega), w32_id (by omega) (by omega)]
        refine ih q ⟨by omega, by rw [e18, c11]; exact hv, fun f i f0 f8 i0 i1 => bits_imp (d1 f i f0 f8 i0 i1) (fun k' _ => ?_), fun i hi => by rw [e18, c3 i hi], fr_trans c4 (fr_mono' d2 (by decide))⟩
        constructor
        · rintro ⟨a, b⟩; exact ⟨by omega, b⟩
        · rintro ⟨a, b⟩
          refine ⟨?_, b⟩
          by_cases e : i = j
          · exact .inr ⟨e, a.2⟩
          · exact .inl ⟨by omega, a.2⟩
    have e2 : besF (K 1) (K 2) j 2 = if j % K 1 < K 1 - 1 then j + 1 else -1 := rfl
    have md : 0 ≤ j % K 1 ∧ j % K 1 < K 1 := ⟨Int.emod_nonneg _ (by omega), Int.emod_lt_of_pos _ (by omega)⟩
    rw [e2]
    by_cases hl : j % K 1 < K 1 - 1
    · rw [if_pos hl, if_pos (by omega)]
      refine body 0 ?_
      rw [ior_zero b1.1]
      refine bits_imp b1 (fun i hi => ?_)
      constructor
      · rintro ⟨a, b⟩; exact ⟨by omega, b⟩
      · rintro ⟨a, b⟩
        refine ⟨?_, b⟩
        by_cases e : (i : Int) = j
        · rw [e] at b; omega
        · omega
    · rw [if_neg hl, if_neg (by simp)]
      refine body _ (bits_imp (bits_or b1 j0 (by omega)) (fun i hi => ?_))
      constructor
      · rintro (⟨a, b⟩ | a)
        · exact ⟨by omega, b⟩
        · have ei : (i : Int) = j := by omega
          exact ⟨by omega, by rw [ei]; omega⟩
      · rintro ⟨a, b⟩
        by_cases e : (i : Int) = j
        · exact .inr (by omega)
        · exact .inl ⟨by omega, b⟩
  · rintro G mm ⟨_, b1, b2, b3, b4⟩
    rw [b3 9 (by decide), s9, if_pos (by omega)]
    refine ok_some ⟨⟨b1, fun f j f0 f8 j0 j1 => bits_imp (b2 f j f0 f8 j0 j1) (fun k _ => ⟨fun ⟨a, b⟩ => ⟨a.2, b⟩, fun ⟨a, b⟩ => ⟨⟨j1, a⟩, b⟩⟩)⟩, b3, b4⟩

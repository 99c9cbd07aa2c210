/-! ===== D43: needed ===== -/
theorem c_neededPlaces {K : Int → Int} {c p j k v : Int} {rocks : Int} {m : Mem} (hR : CR K m) (hP : PairV c K p (K (25 + p))) (hA : AhR K p (K (25 + p)) (tied0 K p) rocks m) (j0 : 0 ≤ j) (j1 : j < K 1 * K 2) (k0 : 0 ≤ k) (k1 : k < K 1 * K 2)
    (hv : v = ownV K p j k) (hT : 0 ≤ v → ∀ h : Nat, (h : Int) < v → m 85 ((h : Int) + 1) = turnV K p (K (25 + p)) (tied0 K p) (K 8) v.toNat j k.toNat h) :
    Ok (fX0_neededPlaces j k v m) (fun r => Bits r.1 (needP K p j k) ∧ (∃ rocks', AhR K p (K (25 + p)) (tied0 K p) rocks' r.2) ∧ Fr WC m r.2) := by
  have hV := hP.1
  have p0 := hP.2.2.1.1
  have p1 := hP.2.2.1.2
  have l3 := hV.1.2.1
  have hw := wide_of hV.1 p0 p1
  have ar := area_le hw.1.1 hw.1.2 hw.2.1 hw.2.2
  have hS := (curV_iff.mp hV.2).1 p p0 p1
  have e12 : m 18 12 = p := hA.2.2.1.1
  have e28 : m 28 p = K (13 + p) := by rw [show 13 + p = 9 + (4 + p) by omega]; exact (hR.2.2 p p0 p1).1
  have e29 : m 29 p = K (17 + p) := by rw [show 17 + p = 9 + (8 + p) by omega]; exact (hR.2.2 p p0 p1).2.1
  have rv := firstV_rg (fun h => rchP K p (K (25 + p)) (tied0 K p) (K 8) h j k.toNat)
  have hv' : v = firstV (fun h => rchP K p (K (25 + p)) (tied0 K p) (K 8) h j k.toNat) := hv
  unfold fX0_neededPlaces fX0_startFirst fX0_startSecond
  simp only [rd_eq, wr_eq, jn_eq]
  rw [e12, chk_of (by omega), bR_some, chk_of (by omega), bR_some, e28, e29]
  have hends : ∀ q : Nat, q < 32 → (tb (ior (ior (ior (ishl 1 (K (13 + p))) (ishl 1 (K (17 + p)))) (ishl 1 j)) (ishl 1 k)) q = false ↔ ((q : Int) ≠ K (13 + p) ∧ (q : Int) ≠ K (17 + p)) ∧ ((q : Int) ≠ j ∧ (q : Int) ≠ k)) := by
    intro q hq
    rw [tb_or, tb_or, tb_or, tb_powi (by omega) (by omega) hq, tb_powi (by omega) (by omega) hq, tb_powi j0 (by omega) hq, tb_powi k0 (by omega) hq]
    simp only [Bool.or_eq_false_iff, decide_eq_false_iff_not]
    omega
  generalize ior (ior (ior (ishl 1 (K (13 + p))) (ishl 1 (K (17 + p)))) (ishl 1 j)) (ishl 1 k) = ends at *
  -- the last loop
  have last : ∀ (bits : Int) (Pb : Nat → Prop), Bits bits Pb → (∀ i, freeP K p j k i → ((Pb i ∧ withV K p j k i = -1) ↔ (ownV K p j k ≠ -1 ∧ tb (K 8) i = false ∧ withV K p j k i = -1))) →
      Ok (lp BIG (fun K7 (t6 : Int × Int) mm => (if mm 18 9 ≤ t6.2 then some (t6.1, mm) else (if (iand (iand bits (ixor ends (-1))) (ishl 1 t6.2)) = (0 : Int) then (if (0 : Int) = 0 then K7 (t6.1, w32 (t6.2 + 1)) mm else bW (fX0_hoursTo j k (ior (mm 20 3) (ishl 1 t6.2)) mm) fun x14 mm => (if ¬ x14 = -1 then K7 (t6.1, w32 (t6.2 + 1)) mm else K7 (ior t6.1 (ishl 1 t6.2), w32 (t6.2 + 1)) mm)) else (if (1 : Int) = 0 then K7 (t6.1, w32 (t6.2 + 1)) mm else bW (fX0_hoursTo j k (ior (mm 20 3) (ishl 1 t6.2)) mm) fun x14 mm => (if ¬ x14 = -1 then K7 (t6.1, w32 (t6.2 + 1)) mm else K7 (ior t6.1 (ishl 1 t6.2), w32 (t6.2 + 1)) mm))))) (0, 0) m) (fun r => Bits r.1 (needP K p j k) ∧ (∃ rocks', AhR K p (K (25 + p)) (tied0 K p) rocks' r.2) ∧ Fr WC m r.2) := by
    intro bits Pb hb hkey
    refine lp_for2 (K 1 * K 2) (fun t i mm => 0 ≤ i ∧ Bits t (fun q => (q : Int) < i ∧ needP K p j k q) ∧ (∃ rocks', AhR K p (K (25 + p)) (tied0 K p) rocks' mm) ∧ Fr WC m mm) ⟨by omega, bits_zero (fun q _ z => by omega), ⟨_, hA⟩, fr_refl⟩ (by omega) (by omega) ?_ ?_
    · rintro G t i mm hi ⟨i0, ht, ⟨rocks', hA1⟩, hF⟩ ih
      simp only
      have hR1 : CR K mm := CR_fr hR (fun o z1 z2 => hF o (by unfold WC; simp; omega))
      rw [hA1.1.1, if_neg (by omega), w32_id (x := i + 1) (by omega) (by omega)]
      have one : Bits (ishl 1 i) (fun q => q = i.toNat) := ⟨ishl_rg _ _, fun q hq => by rw [tb_powi i0 (by omega) hq, decide_eq_true_eq]⟩
      have hz := bits_eq0 (bits_and2 (bits_andn (y := ends) hb) one)
      have same : (¬ needP K p j k i.toNat) → Bits t (fun q => (q : Int) < i + 1 ∧ needP K p j k q) := fun hno => bits_imp ht (fun q _ => ⟨fun z => ⟨by omega, z.2⟩, fun z => ⟨by
        by_cases e : q = i.toNat
        · exact absurd (e ▸ z.2) hno
        · omega, z.2⟩⟩)
      by_cases hq : iand (iand bits (ixor ends (-1))) (ishl 1 i) = 0
      · rw [if_pos hq, if_pos trivial]
        refine ih _ _ ⟨by omega, same (fun hn => ?_), ⟨_, hA1⟩, hF⟩
        have hn2 := (hkey _ hn.2.1).mpr ⟨hn.1, hn.2.2⟩
        exact hz.mp hq i.toNat (by omega) ⟨⟨hn2.1, (hends _ (by omega)).mpr ⟨hn.2.1.2.1, hn.2.1.2.2⟩⟩, rfl⟩
      · rw [if_neg hq, if_neg (by decide), hR1.1.1.2.2.2.1]
        obtain ⟨⟨hPb, hend⟩, _⟩ : (Pb i.toNat ∧ tb ends i.toNat = false) ∧ i.toNat = i.toNat := by
          apply Classical.byContradiction
          intro hno
          refine hq (hz.mpr (fun q hq2 z => hno ?_))
          have := z.2
          subst this
          exact z
        have he := (hends _ (by omega)).mp hend
        have hfree : freeP K p j k i.toNat := ⟨by omega, he⟩
        refine ok_bW (c_hoursTo (rocks' := ior (K 8) (ishl 1 i)) hR1 hP hA1 j0 j1 k0 k1) ?_
        rintro u m2 ⟨d1, _, d2, d3⟩
        simp only at d1 d2 d3
        have eu : u = withV K p j k i := firstV_eq d1
        have ei : ((i.toNat : Nat) : Int) = i := Int.toNat_of_nonneg i0
        have hk := hkey _ hfree
        rw [ei] at hk
        by_cases hu : u = -1
        · rw [if_neg (by omega)]
          refine ih _ _ ⟨by omega, bits_imp (bits_or ht i0 (by omega)) (fun q _ => ⟨?_, ?_⟩), ⟨_, d2⟩, fr_trans hF d3⟩
          · rintro (z | z)
            · exact ⟨by omega, z.2⟩
            · subst z
              have w := hk.mp ⟨hPb, by rw [← eu]; exact hu⟩
              refine ⟨by omega, w.1, hfree, w.2.1, ?_⟩
              rw [ei]; exact w.2.2
          · intro z
            by_cases e : q = i.toNat
            · exact .inr e
            · exact .inl ⟨by omega, z.2⟩
        · rw [if_pos hu]
          refine ih _ _ ⟨by omega, same (fun hn => hu ?_), ⟨_, d2⟩, fr_trans hF d3⟩
          have := hn.2.2.2
          rw [ei] at this
          rw [eu]; exact this
    · rintro G t mm ⟨_, ht, ⟨rocks', hA1⟩, hF⟩
      simp only
      rw [hA1.1.1, if_pos (by omega)]
      exact ok_some ⟨bits_imp ht (fun q _ => ⟨fun z => z.2, fun z => ⟨z.2.1.1, z⟩⟩), ⟨_, hA1⟩, hF⟩
  by_cases hneg : v = -1
  · refine lp_ok (fun (t : Int × Int × Int × Int) (mm : Mem) => t = (K (13 + p), K (17 + p), 0, 1) ∧ mm = m) (fun _ _ => 0) ⟨rfl, rfl⟩ (by decide) ?_
    rintro G t mm ⟨rfl, rfl⟩ ih
    simp only
    rw [if_pos (by omega)]
    exact last 0 (fun _ => False) (bits_zero (fun _ _ z => z)) (fun i _ => ⟨fun z => z.1.elim, fun z => absurd (hv.symm.trans hneg) z.1⟩)
  · obtain ⟨n, hn⟩ : ∃ n : Nat, v = n := ⟨v.toNat, by omega⟩
    subst hn
    have hq : rchP K p (K (25 + p)) (tied0 K p) (K 8) n j k.toNat := by
      rcases firstV_spec (fun h => rchP K p (K (25 + p)) (tied0 K p) (K 8) h j k.toNat) with ⟨h, a, b, d, _⟩ | ⟨a, _⟩
      · rw [show n = h by omega]; exact d
      · omega
    rw [Int.toNat_natCast] at hT
    refine lp_ok (fun (t : Int × Int × Int × Int) (mm : Mem) => mm = m ∧ ∃ h : Nat, h ≤ n ∧ t.1 = (posV K p (K (25 + p)) (tied0 K p) (K 8) n j k.toNat h).1 ∧ t.2.1 = (posV K p (K (25 + p)) (tied0 K p) (K 8) n j k.toNat h).2 ∧ Bits t.2.2.1 (passP K p (K (25 + p)) (tied0 K p) (K 8) n j k.toNat h) ∧ t.2.2.2 = (h : Int) + 1) (fun t _ => ((n : Int) + 1 - t.2.2.2).toNat) ⟨rfl, 0, by omega, rfl, rfl, bits_zero (fun i _ z => by obtain ⟨q, a, b, _⟩ := z; omega), rfl⟩ (by show ((n : Int) + 1 - 1).toNat < 1000000; omega) ?_
    rintro G ⟨a, b, bits, t⟩ mm ⟨rfl, h, hh, ea, eb, hb, et⟩ ih
    simp only at ea eb hb et ⊢
    subst ea eb et
    have rg := pos_rg hV p0 p1 hq hh
    by_cases hz : h = n
    · rw [if_pos (by omega)]
      subst hz
      exact last bits _ hb (fun i hf => by
        have := need_pass hV p0 p1 k0 (by omega) hv.symm hf
        exact ⟨fun z => ⟨by omega, this.mpr z⟩, fun z => this.mp z.2⟩)
    · rw [if_neg (by omega), chk_of (by omega), hT (by omega) h (by omega)]
      have hf := (pos_ok hV p0 p1 hq h hh).2 (by omega)
      obtain ⟨hi, ⟨ga, gb, _⟩, _⟩ := hf
      rw [show ((h + 1 : Nat) : Int) = (h : Int) + 1 by omega] at ga gb
      have u1 := oneF_bes rg.1.1 rg.1.2 ga
      have u2 := oneF_bes rg.2.1 rg.2.2 gb
      have et : turnV K p (K (25 + p)) (tied0 K p) (K 8) n j k.toNat h = turnI K p (K (25 + p)) (tied0 K p) (K 8) n j k.toNat h / 5 * 10 + turnI K p (K (25 + p)) (tied0 K p) (K 8) n j k.toNat h % 5 := rfl
      have es1 : (posV K p (K (25 + p)) (tied0 K p) (K 8) n j k.toNat (h + 1)).1 = oneF K p (K 8) ((h : Int) + 1) 0 (posV K p (K (25 + p)) (tied0 K p) (K 8) n j k.toNat h).1 (turnI K p (K (25 + p)) (tied0 K p) (K 8) n j k.toNat h / 5) := rfl
      have es2 : (posV K p (K (25 + p)) (tied0 K p) (K 8) n j k.toNat (h + 1)).2 = oneF K p (K 8) ((h : Int) + 1) 1 (posV K p (K (25 + p)) (tied0 K p) (K 8) n j k.toNat h).2 (turnI K p (K (25 + p)) (tied0 K p) (K 8) n j k.toNat h % 5) := rfl
      have rg' := pos_rg hV p0 p1 hq (show h + 1 ≤ n by omega)
      rw [et]
      generalize turnI K p (K (25 + p)) (tied0 K p) (K 8) n j k.toNat h = i at *
      rw [tdiv_e 10 (by omega), tmod_e 10 (by omega), c_beside hR.1 hw.1.1 hw.1.2 hw.2.1 hw.2.2 rg.1.1 rg.1.2, bR_some, chk_of (by omega), c_beside hR.1 hw.1.1 hw.1.2 hw.2.1 hw.2.2 rg.2.1 rg.2.2, bR_some, w32_id (by omega) (by omega), show (i / 5 * 10 + i % 5) / 10 = i / 5 by omega, show (i / 5 * 10 + i % 5) % 10 = i % 5 by omega, u1, u2, ← es1, ← es2]
      refine ih _ _ ⟨rfl, h + 1, by omega, rfl, rfl, ?_, (by show (h : Int) + 1 + 1 = ((h + 1 : Nat) : Int) + 1; omega)⟩ (by show ((n : Int) + 1 - ((h : Int) + 1 + 1)).toNat < ((n : Int) + 1 - ((h : Int) + 1)).toNat; omega)
      have B1 : Bits (ishl 1 (posV K p (K (25 + p)) (tied0 K p) (K 8) n j k.toNat (h + 1)).1) (fun q => (posV K p (K (25 + p)) (tied0 K p) (K 8) n j k.toNat (h + 1)).1 = q) := ⟨ishl_rg _ _, fun q hq => by rw [tb_powi rg'.1.1 (by omega) hq, decide_eq_true_eq]; omega⟩
      have B2 : Bits (ishl 1 (posV K p (K (25 + p)) (tied0 K p) (K 8) n j k.toNat (h + 1)).2) (fun q => (posV K p (K (25 + p)) (tied0 K p) (K 8) n j k.toNat (h + 1)).2 = q) := ⟨ishl_rg _ _, fun q hq => by rw [tb_powi rg'.2.1 (by omega) hq, decide_eq_true_eq]; omega⟩
      refine bits_imp (bits_or2 hb (bits_or2 B1 B2)) (fun q _ => ⟨?_, ?_⟩)
      · rintro (⟨s, s1, s2, s3⟩ | s)
        · exact ⟨s, s1, by omega, s3⟩
        · exact ⟨h + 1, by omega, Nat.le_refl _, s⟩
      · rintro ⟨s, s1, s2, s3⟩
        by_cases e : s = h + 1
        · subst e; exact .inr s3
        · exact .inl ⟨s, s1, by omega, s3⟩

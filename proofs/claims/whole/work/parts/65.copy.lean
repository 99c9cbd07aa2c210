/-! ===== D45: copy ===== -/
/-- a row with the way written into it -/
noncomputable def wroteR (K : Int → Int) (p j k s n : Int) (old : Int → Int) (q : Int) : Int :=
  if 0 ≤ q ∧ q < n then cutF s (100 * p + turnV K p (K (25 + p)) (tied0 K p) (K 8) (ownV K p j k).toNat j k.toNat q.toNat) else old q
theorem turnV_rg {K : Int → Int} {c p j k : Int} {n h : Nat} (hV : CV c K) (p0 : 0 ≤ p) (p1 : p < K 3) (hq : rchP K p (K (25 + p)) (tied0 K p) (K 8) n j k.toNat) (hh : h < n) :
    0 ≤ turnV K p (K (25 + p)) (tied0 K p) (K 8) n j k.toNat h ∧ turnV K p (K (25 + p)) (tied0 K p) (K 8) n j k.toNat h ≤ 44 := by
  have := ((pos_ok hV p0 p1 hq h (by omega)).2 hh).1
  unfold turnV
  omega
theorem own_rch {K : Int → Int} {p j k v : Int} (hv : v = ownV K p j k) (h0 : 0 ≤ v) : rchP K p (K (25 + p)) (tied0 K p) (K 8) v.toNat j k.toNat := by
  rcases firstV_spec (fun h => rchP K p (K (25 + p)) (tied0 K p) (K 8) h j k.toNat) with ⟨h, a, b, d, _⟩ | ⟨a, _⟩
  · have : v = h := hv.trans b
    rw [show v.toNat = h by omega]; exact d
  · have : v = -1 := hv.trans a
    omega
theorem c_copyLoop {K : Int → Int} {c t p j k v n : Int} {m : Mem} (hV : CV c K) (p0 : 0 ≤ p) (p1 : p < K 3) (t0 : 0 ≤ t) (t4 : t < 4) (hv : v = ownV K p j k) (hn : n ≤ v) (n30 : n ≤ 30)
    (hT : ∀ h : Nat, (h : Int) < v → m 85 ((h : Int) + 1) = turnV K p (K (25 + p)) (tied0 K p) (K 8) v.toNat j k.toNat h) :
    Ok (lp BIG (fun K5 (t4 : Int) mm => (if n ≤ t4 then some ((0 : Int), n, mm) else chk ((0 : Int) ≤ w32 (t4 + 1) ∧ w32 (t4 + 1) < ((41 : Nat) : Int)) (bW (fX9_put t t4 (w32 (w32 (100 * p) + mm 85 (w32 (t4 + 1)))) mm) fun x7 mm => K5 (w32 (t4 + 1)) mm))) 0 m)
      (fun r => r.1 = 0 ∧ r.2.1 = n ∧ r.2.2 (90 + t.toNat) = wroteR K p j k (m 94 t) n (m (90 + t.toNat)) ∧ Fr [90 + t.toNat] m r.2.2) := by
  have l3 := hV.1.2.1
  by_cases hneg : n < 0
  · refine lp_ok (fun (i : Int) (mm : Mem) => i = 0 ∧ mm = m) (fun _ _ => 0) ⟨rfl, rfl⟩ (by decide) ?_
    rintro G i mm ⟨rfl, rfl⟩ ih
    rw [if_pos (by omega)]
    refine ok_some ⟨rfl, rfl, funext fun q => ?_, fr_refl⟩
    unfold wroteR; rw [if_neg (by omega)]
  · refine lp_for n (fun i mm => 0 ≤ i ∧ mm (90 + t.toNat) = wroteR K p j k (m 94 t) i (m (90 + t.toNat)) ∧ Fr [90 + t.toNat] m mm) ⟨by omega, funext fun q => by unfold wroteR; rw [if_neg (by omega)], fr_refl⟩ (by omega) (by omega) ?_ ?_
    · rintro G i mm hi ⟨i0, hr, hF⟩ ih
      have hq := own_rch (K := K) (p := p) (j := j) (k := k) hv (by omega)
      have tr := turnV_rg (h := i.toNat) hV p0 p1 hq (by omega)
      have hTi := hT i.toNat (by omega)
      rw [Int.toNat_of_nonneg i0] at hTi
      rw [if_neg (by omega), w32_id (x := i + 1) (by omega) (by omega), chk_of (by omega), hF 85 (by simp; omega), hTi, w32_id (x := 100 * p) (by omega) (by omega), w32_id (by omega) (by omega), c_put t0 t4 i0 (by omega), bW_some, hF 94 (by simp; omega)]
      refine ih _ ⟨by omega, ?_, fr_up (by simp) hF⟩
      rw [up_row, hr]
      funext q
      by_cases e : q = i
      · subst e
        rw [ku_at]; unfold wroteR; rw [if_pos (by omega), ← hv]
      · rw [ku_ne e]; unfold wroteR
        by_cases z : 0 ≤ q ∧ q < i
        · rw [if_pos z, if_pos (by omega)]
        · rw [if_neg z, if_neg (by omega)]
    · rintro G mm ⟨_, hr, hF⟩
      rw [if_pos (by omega)]
      exact ok_some ⟨rfl, rfl, hr, hF⟩
theorem m_copyLoop {K : Int → Int} {c t p j k v n : Int} {m : Mem} (hV : CV c K) (p0 : 0 ≤ p) (p1 : p < K 3) (t0 : 0 ≤ t) (t4 : t < 4) (hv : v = ownV K p j k) (hn : n ≤ v) (n0 : 0 ≤ n) (n30 : n ≤ 30) (s0 : 0 ≤ m 309 t) (s3 : m 309 t ≤ 3)
    (hT : ∀ h : Nat, (h : Int) < v → m 302 ((h : Int) + 1) = turnV K p (K (25 + p)) (tied0 K p) (K 8) v.toNat j k.toNat h) :
    Ok (lp BIG (fun K9 (t8 : Int) mm => (if n ≤ t8 then some (n, mm) else chk ((0 : Int) ≤ w32 (t8 + 1) ∧ w32 (t8 + 1) < ((41 : Nat) : Int)) (bW (fX12_cut t t8 (w32 (w32 (100 * p) + mm 302 (w32 (t8 + 1)))) mm) fun x11 mm => K9 (w32 (t8 + 1)) mm))) 0 m)
      (fun r => r.1 = n ∧ (∀ q, 0 ≤ q → q < 30 → r.2 311 (30 * t + q) = wroteR K p j k (m 309 t) n (fun q => m 311 (30 * t + q)) q) ∧ (∀ i, (i < 30 * t ∨ 30 * t + 30 ≤ i) → r.2 311 i = m 311 i) ∧ Fr [311] m r.2) := by
  have l3 := hV.1.2.1
  refine lp_for n (fun i mm => 0 ≤ i ∧ (∀ q, 0 ≤ q → q < 30 → mm 311 (30 * t + q) = wroteR K p j k (m 309 t) i (fun q => m 311 (30 * t + q)) q) ∧ (∀ i, (i < 30 * t ∨ 30 * t + 30 ≤ i) → mm 311 i = m 311 i) ∧ Fr [311] m mm) ⟨by omega, fun q _ _ => by unfold wroteR; rw [if_neg (by omega)], fun _ _ => rfl, fr_refl⟩ (by omega) (by omega) ?_ ?_
  · rintro G i mm hi ⟨i0, hr, ho, hF⟩ ih
    have hq := own_rch (K := K) (p := p) (j := j) (k := k) hv (by omega)
    have tr := turnV_rg (h := i.toNat) hV p0 p1 hq (by omega)
    have hTi := hT i.toNat (by omega)
    rw [Int.toNat_of_nonneg i0] at hTi
    have e309 : mm 309 = m 309 := hF 309 (by decide)
    rw [if_neg (by omega), w32_id (x := i + 1) (by omega) (by omega), chk_of (by omega), hF 302 (by decide), hTi, w32_id (x := 100 * p) (by omega) (by omega), w32_id (by omega) (by omega), m_cut t0 t4 i0 (by omega) (by rw [e309]; exact s0) (by rw [e309]; exact s3) (by omega) (by omega), bW_some, e309]
    refine ih _ ⟨by omega, fun q q0 q1 => ?_, fun x hx => ?_, fr_up (by simp) hF⟩
    · by_cases e : q = i
      · subst e
        rw [up_same]; unfold wroteR; rw [if_pos (by omega), ← hv]
      · rw [up_idx (by omega), hr q q0 q1]; unfold wroteR
        by_cases z : 0 ≤ q ∧ q < i
        · rw [if_pos z, if_pos (by omega)]
        · rw [if_neg z, if_neg (by omega)]
    · rw [up_idx (by omega)]; exact ho x hx
  · rintro G mm ⟨_, hr, ho, hF⟩
    rw [if_pos (by omega)]
    exact ok_some ⟨rfl, hr, ho, hF⟩

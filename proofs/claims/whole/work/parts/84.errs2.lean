/-! ===== D64: errands, the class's rows ===== -/
/-- the class's errands, told -/
def ChR (A : Int → Int) (n : Nat) (m : Mem) : Prop := m 100 1 = (n : Int) ∧ ∀ i : Int, 0 ≤ i → i < (n : Int) → m 101 i = A i
theorem c_errandsAt {A : Int → Int} {n : Nat} {x : Int} {m : Mem} (hn : n ≤ 4) (hC : ChR A n m) : fX1_errandsAt x m = some (eAF A x n) := by
  refine ok_eq ?_
  unfold fX1_errandsAt
  simp only [rd_eq, jn_eq]
  refine lp_for2 (n : Int) (fun t i mm => mm = m ∧ 0 ≤ i ∧ t = eAF A x i.toNat) ⟨rfl, by omega, rfl⟩ (by omega) (by omega) ?_ ?_
  · rintro G t i mm hi ⟨rfl, i0, rfl⟩ ih
    simp only
    have es : eAF A x (i + 1).toNat = ior (eAF A x i.toNat) (if A i = x then ishl 1 i else 0) := by
      rw [show (i + 1).toNat = i.toNat + 1 by omega]
      show ior (eAF A x i.toNat) (if A ((i.toNat : Nat) : Int) = x then ishl 1 ((i.toNat : Nat) : Int) else 0) = _
      rw [Int.toNat_of_nonneg i0]
    rw [hC.1, if_neg (by omega), chk_of (by omega), hC.2 i i0 hi, w32_id (x := i + 1) (by omega) (by omega)]
    by_cases e : A i = x
    · rw [if_neg (fun z => z e)]
      refine ih _ _ ⟨rfl, by omega, ?_⟩
      rw [es, if_pos e]
    · rw [if_pos e]
      refine ih _ _ ⟨rfl, by omega, ?_⟩
      rw [es, if_neg e]
  · rintro G t mm ⟨rfl, _, rfl⟩
    simp only
    rw [hC.1, if_pos (by omega), Int.toNat_natCast]
    exact ok_some rfl
def ErrV (K A : Int → Int) (n : Nat) : Prop := ∀ i : Int, 0 ≤ i → i < (n : Int) → (0 ≤ A i ∧ A i < K 1 * K 2) ∨ (100 ≤ A i ∧ A i < 100 + K 1 * K 2)
theorem eAF_none {A : Int → Int} {x : Int} {n : Nat} (hn : n ≤ 32) (h : ∀ i : Int, 0 ≤ i → i < (n : Int) → A i ≠ x) : eAF A x n = 0 := by
  refine tb_ext (eAF_rg n) (by omega) (fun b hb => ?_)
  rw [tb_eAF n hn b hb, tb_zero]
  by_cases z : b < n
  · have := h (b : Int) (by omega) (by omega)
    simp [this]
  · simp [z]
theorem bits_andn' {x y : Int} {P Q : Nat → Prop} (h : Bits x P) (k : Bits y Q) : Bits (iand x (ixor y (-1))) (fun i => P i ∧ ¬ Q i) :=
  bits_imp (bits_andn h) (fun i hi => by rw [← k.2 i hi]; cases tb y i <;> simp)
/-- what arrives, sorted by what is done then -/
theorem c_sortArrived {K A : Int → Int} {n to : Nat} {s : Int} {P : Int → Nat → Prop} {Q : Int → Int → Nat → Prop} {m : Mem} (N25 : 0 ≤ K 1 * K 2 ∧ K 1 * K 2 ≤ 25) (hn : n ≤ 4) (hE : ErrV K A n) (hC : ChR A n m) (hto : to ≠ 100 ∧ to ≠ 101 ∧ to ≠ 104) (hs : SetN n s)
    (h5 : Bits (m 100 5) (fun k => ∃ i : Int, (0 ≤ i ∧ i < (n : Int)) ∧ A i = 100 + (k : Int)))
    (hP : ∀ j, 0 ≤ j → j < 25 → Bits (m 104 j) (P j)) (hPk : ∀ j k, 0 ≤ j → j < 25 → P j k → (k : Int) < 25)
    (hQ : ∀ d, 0 ≤ d → d < ishl 1 (n : Int) → ∀ j, 0 ≤ j → j < 25 → Bits (m to (25 * d + j)) (Q d j)) :
    Ok (fX1_sortArrived s to 400 m) (fun m' => (∀ d, 0 ≤ d → d < ishl 1 (n : Int) → ∀ j, 0 ≤ j → j < 25 → Bits (m' to (25 * d + j)) (fun k => Q d j k ∨ (P j k ∧ d = dnF A n s j k))) ∧ Fr [to] m m') := by
  unfold fX1_sortArrived
  simp only [rd_eq, wr_eq, jn_eq]
  have p16 := pw_16 n (by omega)
  have hs16 := setN_rg hn hs
  refine lp_for 25 (fun j mm => 0 ≤ j ∧ (∀ d, 0 ≤ d → d < ishl 1 (n : Int) → ∀ j', 0 ≤ j' → j' < 25 → Bits (mm to (25 * d + j')) (fun k => Q d j' k ∨ (j' < j ∧ P j' k ∧ d = dnF A n s j' k))) ∧ Fr [to] m mm) ⟨by omega, fun d d0 d1 j' a b => bits_imp (hQ d d0 d1 j' a b) (fun k _ => ⟨.inl, fun q => q.elim (fun q => q) (fun q => by omega)⟩), fr_refl⟩ (by omega) (by omega) ?_ ?_
  · rintro G j mm hj ⟨j0, hb, hF⟩ ih
    have e104 : mm 104 = m 104 := hF 104 (by simp; omega)
    have e100 : mm 100 = m 100 := hF 100 (by simp; omega)
    have hC' : ChR A n mm := by unfold ChR; rw [e100, hF 101 (by simp; omega)]; exact hC
    have hPj := hP j j0 hj
    rw [if_neg (by omega), chk_of (by omega), e104, w32_id (x := j + 1) (by omega) (by omega)]
    have done : ∀ m3 : Mem, (∀ d, 0 ≤ d → d < ishl 1 (n : Int) → ∀ j', 0 ≤ j' → j' < 25 → Bits (m3 to (25 * d + j')) (fun k => Q d j' k ∨ (j' < j ∧ P j' k ∧ d = dnF A n s j' k) ∨ (j' = j ∧ P j' k ∧ d = dnF A n s j' k))) → Fr [to] mm m3 → Ok (G (j + 1) m3) (fun m' => (∀ d, 0 ≤ d → d < ishl 1 (n : Int) → ∀ j, 0 ≤ j → j < 25 → Bits (m' to (25 * d + j)) (fun k => Q d j k ∨ (P j k ∧ d = dnF A n s j k))) ∧ Fr [to] m m') := by
      intro m3 h1 h2
      refine ih _ ⟨by omega, fun d d0 d1 j' a b => bits_imp (h1 d d0 d1 j' a b) (fun k _ => ⟨?_, ?_⟩), fr_trans hF h2⟩
      · rintro (q | ⟨q1, q⟩ | ⟨q1, q⟩)
        · exact .inl q
        · exact .inr ⟨by omega, q⟩
        · exact .inr ⟨by omega, q⟩
      · rintro (q | ⟨q1, q⟩)
        · exact .inl q
        · by_cases e : j' = j
          · exact .inr (.inr ⟨e, q⟩)
          · exact .inr (.inl ⟨by omega, q⟩)
    by_cases hz : m 104 j = 0
    · rw [if_pos hz]
      refine done mm (fun d d0 d1 j' a b => bits_imp (hb d d0 d1 j' a b) (fun k _ => ⟨fun q => q.elim .inl (fun q => .inr (.inl q)), fun q => ?_⟩)) fr_refl
      rcases q with q | q | ⟨q1, q2, _⟩
      · exact .inl q
      · exact .inr q
      · rw [q1] at q2
        exact absurd q2 ((bits_eq0 hPj).mp hz k (by have := hPk j k j0 hj q2; omega))
    · have hs1 : SetN n (ior s (eAF A j n)) := by
        refine ⟨ior_rg _ _, fun b hb q => ?_⟩
        rw [tb_or, tb_eAF n (by omega) b hb, Bool.or_eq_true, Bool.and_eq_true] at q
        rcases q with q | q
        · exact hs.2 b hb q
        · exact of_decide_eq_true q.1
      have r1 := setN_rg hn hs1
      have dn1 : ∀ k : Nat, (k : Int) < 25 → (¬ ∃ i : Int, (0 ≤ i ∧ i < (n : Int)) ∧ A i = 100 + (k : Int)) → dnF A n s j k = ior s (eAF A j n) := by
        intro k hk q
        unfold dnF
        rw [eAF_none (x := 100 + (k : Int)) (by omega) (fun i a b e => q ⟨i, ⟨a, b⟩, e⟩)]
        exact tb_ext (ior_rg _ _) (ior_rg _ _) (fun b _ => by rw [tb_or, tb_zero]; simp)
      rw [if_neg hz, c_errandsAt hn hC', bR_some]
      have hdn : ∀ k : Int, dnF A n s j k = ior (ior s (eAF A j n)) (eAF A (100 + k) n) := fun k => rfl
      generalize ior s (eAF A j n) = d1 at *
      rw [w32_id (x := d1 * 25) (by omega) (by omega), w32_id (x := d1 * 25 + j) (by omega) (by omega), chk_of (by omega), chk_of (by omega), e100]
      have h5' := h5
      refine lp_ok (fun (i : Int) (m3 : Mem) => ∃ z : Nat, i = (z : Int) ∧ z ≤ n ∧ (∀ d, 0 ≤ d → d < ishl 1 (n : Int) → ∀ j', 0 ≤ j' → j' < 25 → Bits (m3 to (25 * d + j')) (fun k => Q d j' k ∨ (j' < j ∧ P j' k ∧ d = dnF A n s j' k) ∨ (j' = j ∧ P j' k ∧ d = dnF A n s j' k ∧ ((¬ ∃ i : Int, (0 ≤ i ∧ i < (n : Int)) ∧ A i = 100 + (k : Int)) ∨ ∃ i : Int, (0 ≤ i ∧ i < (z : Int)) ∧ A i = 100 + (k : Int))))) ∧ Fr [to] mm m3) (fun i _ => ((n : Int) - i).toNat) ⟨0, rfl, by omega, fun d d0 dl j' a b => ?_, fr_up (by simp) fr_refl⟩ (by omega) ?_
      · rw [up_row]
        by_cases e : 25 * d + j' = d1 * 25 + j
        · have e1 : d = d1 := by omega
          have e2 : j' = j := by omega
          subst e1
          subst e2
          rw [e, ku_at, show d * 25 + j' = 25 * d + j' by omega]
          refine bits_imp (bits_or2 (hb d d0 dl j' a b) (bits_andn' hPj h5')) (fun k hk => ⟨?_, ?_⟩)
          · rintro ((q | q) | ⟨q1, q2⟩)
            · exact .inl q
            · exact .inr (.inl q)
            · exact .inr (.inr ⟨rfl, q1, (dn1 k (hPk j' k a b q1) q2).symm, .inl q2⟩)
          · rintro (q | q | ⟨_, q1, q2, q3⟩)
            · exact .inl (.inl q)
            · exact .inl (.inr q)
            · rcases q3 with q3 | ⟨i, q3, _⟩
              · exact .inr ⟨q1, q3⟩
              · omega
        · rw [ku_ne e]
          refine bits_imp (hb d d0 dl j' a b) (fun k hk => ⟨fun q => q.elim .inl (fun q => .inr (.inl q)), ?_⟩)
          rintro (q | q | ⟨q0, q1, q2, q3⟩)
          · exact .inl q
          · exact .inr q
          · rw [q0] at q1 q2 e
            rcases q3 with q3 | ⟨i, q3, _⟩
            · rw [dn1 k (hPk j k j0 hj q1) q3] at q2; omega
            · omega
      · rintro G2 i m3 ⟨z, rfl, hz2, hb3, hF3⟩ ih2
        have e100' : m3 100 = m 100 := (hF3 100 (by simp; omega)).trans e100
        have e101' : m3 101 = m 101 := (hF3 101 (by simp; omega)).trans (hF 101 (by simp; omega))
        have hC3 : ChR A n m3 := by unfold ChR; rw [e100', e101']; exact hC
        rw [hC3.1]
        by_cases hq : (n : Int) ≤ (z : Int)
        · rw [if_pos hq]
          have ez : z = n := by omega
          subst ez
          refine done m3 (fun d d0 dl j' a b => bits_imp (hb3 d d0 dl j' a b) (fun k _ => ⟨?_, ?_⟩)) hF3
          · rintro (q | q | ⟨q0, q1, q2, _⟩)
            · exact .inl q
            · exact .inr (.inl q)
            · exact .inr (.inr ⟨q0, q1, q2⟩)
          · rintro (q | q | ⟨q0, q1, q2⟩)
            · exact .inl q
            · exact .inr (.inl q)
            · exact .inr (.inr ⟨q0, q1, q2, (Classical.em (∃ i : Int, (0 ≤ i ∧ i < (z : Int)) ∧ A i = 100 + (k : Int))).symm⟩)
        · have az := hE (z : Int) (by omega) (by omega)
          rw [if_neg hq, chk_of (by omega), hC3.2 (z : Int) (by omega) (by omega), w32_id (x := (z : Int) + 1) (by omega) (by omega), w32_id (x := A (z : Int) - 100) (by omega) (by omega)]
          have next : ∀ m4 : Mem, (∀ d, 0 ≤ d → d < ishl 1 (n : Int) → ∀ j', 0 ≤ j' → j' < 25 → Bits (m4 to (25 * d + j')) (fun k => Q d j' k ∨ (j' < j ∧ P j' k ∧ d = dnF A n s j' k) ∨ (j' = j ∧ P j' k ∧ d = dnF A n s j' k ∧ ((¬ ∃ i : Int, (0 ≤ i ∧ i < (n : Int)) ∧ A i = 100 + (k : Int)) ∨ ∃ i : Int, (0 ≤ i ∧ i < (z : Int) + 1) ∧ A i = 100 + (k : Int))))) → Fr [to] m3 m4 → Ok (G2 ((z : Int) + 1) m4) (fun m' => (∀ d, 0 ≤ d → d < ishl 1 (n : Int) → ∀ j, 0 ≤ j → j < 25 → Bits (m' to (25 * d + j)) (fun k => Q d j k ∨ (P j k ∧ d = dnF A n s j k))) ∧ Fr [to] m m') := by
            intro m4 h1 h2
            refine ih2 _ _ ⟨z + 1, by omega, by omega, fun d d0 dl j' a b => ?_, fr_trans hF3 h2⟩ (by omega)
            rw [show ((z + 1 : Nat) : Int) = (z : Int) + 1 by omega]
            exact h1 d d0 dl j' a b
          have same : (∀ k : Nat, P j k → A (z : Int) ≠ 100 + (k : Int)) → Ok (G2 ((z : Int) + 1) m3) (fun m' => (∀ d, 0 ≤ d → d < ishl 1 (n : Int) → ∀ j, 0 ≤ j → j < 25 → Bits (m' to (25 * d + j)) (fun k => Q d j k ∨ (P j k ∧ d = dnF A n s j k))) ∧ Fr [to] m m') := by
            intro hno
            refine next m3 (fun d d0 dl j' a b => bits_imp (hb3 d d0 dl j' a b) (fun k _ => ⟨?_, ?_⟩)) fr_refl
            · rintro (q | q | ⟨q0, q1, q2, q3⟩)
              · exact .inl q
              · exact .inr (.inl q)
              · exact .inr (.inr ⟨q0, q1, q2, q3.imp_right (fun ⟨i, y, e⟩ => ⟨i, by omega, e⟩)⟩)
            · rintro (q | q | ⟨q0, q1, q2, q3⟩)
              · exact .inl q
              · exact .inr (.inl q)
              · refine .inr (.inr ⟨q0, q1, q2, q3.imp_right (fun ⟨i, y, e⟩ => ⟨i, ⟨y.1, ?_⟩, e⟩)⟩)
                rw [q0] at q1
                by_cases ei : i = z
                · rw [ei] at e; exact absurd e (hno k q1)
                · omega
          by_cases h100 : A (z : Int) - 100 < 0
          · rw [if_pos h100]; exact same (fun k _ e => by omega)
          · rw [if_neg h100, bit_ui _ (show 0 ≤ A (z : Int) - 100 by omega) (by omega)]
            have B := hPj.2 (A (z : Int) - 100).toNat (by omega)
            cases hbit : tb (m 104 j) (A (z : Int) - 100).toNat
            · rw [if_pos (by simp)]
              refine same (fun k hk e => ?_)
              rw [show (A (z : Int) - 100).toNat = k by omega] at hbit B
              rw [B.mpr hk] at hbit; cases hbit
            · have hPz := B.mp hbit
              rw [if_neg (by simp), chk_of (by omega), c_errandsAt hn hC3, bR_some]
              have hs2 : SetN n (ior d1 (eAF A (A (z : Int)) n)) := by
                refine ⟨ior_rg _ _, fun b hb q => ?_⟩
                rw [tb_or, tb_eAF n (by omega) b hb, Bool.or_eq_true, Bool.and_eq_true] at q
                rcases q with q | q
                · exact hs1.2 b hb q
                · exact of_decide_eq_true q.1
              have r2 := setN_rg hn hs2
              have ed : ∀ k : Nat, A (z : Int) = 100 + (k : Int) → dnF A n s j k = ior d1 (eAF A (A (z : Int)) n) := fun k e => by rw [hdn, e]
              generalize ior d1 (eAF A (A (z : Int)) n) = d2 at *
              rw [w32_id (x := d2 * 25) (by omega) (by omega), w32_id (x := d2 * 25 + j) (by omega) (by omega), chk_of (by omega), chk_of (by omega)]
              refine next _ (fun d d0 dl j' a b => ?_) (fr_up (by simp) fr_refl)
              rw [up_row]
              by_cases e : 25 * d + j' = d2 * 25 + j
              · have e1 : d = d2 := by omega
                have e2 : j' = j := by omega
                subst e1
                subst e2
                rw [e, ku_at, show d * 25 + j' = 25 * d + j' by omega]
                refine bits_imp (bits_or (hb3 d d0 dl j' a b) (show 0 ≤ A (z : Int) - 100 by omega) (by omega)) (fun k hk => ⟨?_, ?_⟩)
                · rintro ((q | q | ⟨q0, q1, q2, q3⟩) | q)
                  · exact .inl q
                  · exact .inr (.inl q)
                  · exact .inr (.inr ⟨q0, q1, q2, q3.imp_right (fun ⟨i, y, e⟩ => ⟨i, by omega, e⟩)⟩)
                  · refine .inr (.inr ⟨rfl, by rw [q]; exact hPz, (ed k (by omega)).symm, .inr ⟨(z : Int), by omega, by omega⟩⟩)
                · rintro (q | q | ⟨q0, q1, q2, q3⟩)
                  · exact .inl (.inl q)
                  · exact .inl (.inr (.inl q))
                  · rcases q3 with q3 | ⟨i, y, e⟩
                    · exact .inl (.inr (.inr ⟨q0, q1, q2, .inl q3⟩))
                    · by_cases ei : i = z
                      · rw [ei] at e; exact .inr (by omega)
                      · exact .inl (.inr (.inr ⟨q0, q1, q2, .inr ⟨i, by omega, e⟩⟩))
              · rw [ku_ne e]
                refine bits_imp (hb3 d d0 dl j' a b) (fun k hk => ⟨?_, ?_⟩)
                · rintro (q | q | ⟨q0, q1, q2, q3⟩)
                  · exact .inl q
                  · exact .inr (.inl q)
                  · exact .inr (.inr ⟨q0, q1, q2, q3.imp_right (fun ⟨i, y, e⟩ => ⟨i, by omega, e⟩)⟩)
                · rintro (q | q | ⟨q0, q1, q2, q3⟩)
                  · exact .inl q
                  · exact .inr (.inl q)
                  · refine .inr (.inr ⟨q0, q1, q2, q3.imp_right (fun ⟨i, y, ei⟩ => ⟨i, ⟨y.1, ?_⟩, ei⟩)⟩)
                    by_cases e3 : i = z
                    · rw [e3] at ei
                      rw [q0] at q2 e
                      rw [ed k ei] at q2; omega
                    · omega
  · rintro G mm ⟨_, hb, hF⟩
    rw [if_pos (by decide)]
    refine ok_some ⟨fun d d0 d1 j a b => bits_imp (hb d d0 d1 j a b) (fun k _ => ⟨fun q => q.imp_right (fun q => q.2), fun q => q.imp_right (fun q => ⟨b, q⟩)⟩), hF⟩

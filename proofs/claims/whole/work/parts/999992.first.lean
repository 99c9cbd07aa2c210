/-! ===== the first memory ===== -/
def WA : List CE := sg11 0 ++ (sg12 287 ++ [(2, 1, [])])
def mF (e : CE) : Int → Int := fun i => if 0 ≤ i then (e.2.2.getD i.toNat (0, 0)).2 else 0
def m0 : Mem := fun o => mF (WA.getD o (0, 0, []))
theorem mF_nat (e : CE) (k : Nat) : mF e (k : Int) = (e.2.2.getD k (0, 0)).2 := by
  unfold mF
  rw [if_pos (Int.natCast_nonneg k), Int.toNat_natCast]
theorem mF_nil (k n : Nat) : mF (k, n, []) = fun _ => 0 := by
  funext i
  unfold mF
  split <;> rfl
def okF (o : Nat) (kd : Nat × Nat) (z : Nat × Int) : Bool := (kd.1 == 0 && z.1 == 0 && (Int32.ofInt z.2).toInt == z.2) || (kd.1 == 1 && z.1 == 1 && (Int64.ofInt z.2).toInt == z.2) || (kd.1 == 2 && z.1 == 2 && z.2 == ((o + kd.2 : Nat) : Int)) || (kd.1 == 3 && z.1 == 2 && decide (0 ≤ z.2))
def okA (o t n : Nat) (e : CE) : Bool := e.1 == t + 1 && e.2.1 == n && ((decide (t = 0 ∨ t = 2 ∨ t = 3) && e.2.2.all (fun z => (Int32.ofInt z.2).toInt == z.2)) || (t == 1 && e.2.2.isEmpty) || (decide (t = 4 ∨ t = 5 ∨ t = 6) && (List.range n).all (fun i => e.2.2[i]? == some (2, ((o + (rTab t).1 + (rTab t).2 * i : Nat) : Int)))))
def okE (o : Nat) (d : Nat ⊕ (Nat × Nat)) (e : CE) : Bool := match d with
  | .inl ci => e.1 == 0 && e.2.1 == ci && e.2.2.length == (fkL ci).length && (List.range (fkL ci).length).all (fun k => okF o ((fkL ci).getD k (9, 9)) (e.2.2.getD k (9, 9)))
  | .inr tn => okA o tn.1 tn.2 e
theorem okF_rel {g : GC} {o : Nat} {kd : Nat × Nat} {z : Nat × Int} (h : okF o kd z = true) : frel g o kd z.2 (toV g z) := by
  obtain ⟨k1, k2⟩ := kd
  obtain ⟨z1, z2⟩ := z
  unfold okF at h
  simp only [Bool.or_eq_true, Bool.and_eq_true, beq_iff_eq, decide_eq_true_eq] at h
  rcases h with ((⟨⟨rfl, rfl⟩, h⟩ | ⟨⟨rfl, rfl⟩, h⟩) | ⟨⟨rfl, rfl⟩, h⟩) | ⟨⟨rfl, rfl⟩, h⟩
  · exact ⟨_, rfl, h⟩
  · exact ⟨_, rfl, h⟩
  · subst h
    exact rfl
  · exact ⟨h, rfl⟩
theorem okA_rel {g : GC} {o t n : Nat} {e : CE} (h : okA o t n e = true) : erel g (.inr (t, n)) o (mF e) (toE g e) := by
  obtain ⟨e1, e2, lz⟩ := e
  unfold okA at h
  simp only [Bool.or_eq_true, Bool.and_eq_true, beq_iff_eq, decide_eq_true_eq, List.all_eq_true, List.mem_range, List.isEmpty_iff] at h
  obtain ⟨⟨rfl, rfl⟩, h⟩ := h
  rcases h with (⟨ht, h⟩ | ⟨rfl, rfl⟩) | ⟨ht, h⟩
  · have hv : ∀ i : Nat, (Int32.ofInt (lz.getD i (0, 0)).2).toInt = (lz.getD i (0, 0)).2 := fun i => by
      by_cases hi : i < lz.length
      · have := h (lz.getD i (0, 0)) (by rw [List.getD_eq_getElem?_getD, List.getElem?_eq_getElem hi]; exact List.getElem_mem hi)
        exact this
      · rw [List.getD_eq_getElem?_getD, List.getElem?_eq_none (by omega)]; rfl
    rcases ht with rfl | rfl | rfl
    · exact ⟨rfl, rfl, Or.inl rfl, fun i _ => by rw [mF_nat]; exact hv i⟩
    · exact ⟨rfl, rfl, Or.inr (Or.inl rfl), fun i _ => by rw [mF_nat]; exact hv i⟩
    · exact ⟨rfl, rfl, Or.inr (Or.inr rfl), fun i _ => by rw [mF_nat]; exact hv i⟩
  · exact ⟨rfl, rfl, rfl, fun i _ => by rw [mF_nil]; rfl⟩
  · have hv : ∀ i : Nat, i < e2 → toQ g (lz.getD i (3, 0)) = some (g.1 + (o + (rTab t).1 + (rTab t).2 * i)) := fun i hi => by
      rw [List.getD_eq_getElem?_getD, h i hi]
      rfl
    rcases ht with rfl | rfl | rfl
    · exact ⟨rfl, rfl, by decide, hv⟩
    · exact ⟨rfl, rfl, by decide, hv⟩
    · exact ⟨rfl, rfl, by decide, hv⟩
theorem okE_rel {g : GC} {o : Nat} {d : Nat ⊕ (Nat × Nat)} {e : CE} (h : okE o d e = true) : erel g d o (mF e) (toE g e) := by
  cases d with
  | inr tn => exact okA_rel h
  | inl ci =>
    obtain ⟨e1, e2, lz⟩ := e
    unfold okE at h
    simp only [Bool.and_eq_true, beq_iff_eq, List.all_eq_true, List.mem_range] at h
    obtain ⟨⟨⟨rfl, rfl⟩, hl⟩, h⟩ := h
    refine ⟨rfl, by rw [List.length_map]; exact hl, fun k kd hk => ?_⟩
    have hkl := (List.getElem?_eq_some_iff.mp hk).1
    have hF := h k hkl
    rw [List.getD_eq_getElem?_getD, hk] at hF
    have hz : lz[k]? = some (lz.getD k (9, 9)) := by
      rw [List.getD_eq_getElem?_getD, List.getElem?_eq_getElem (by omega)]; rfl
    refine ⟨toV g (lz.getD k (9, 9)), by rw [List.getElem?_map, hz]; rfl, ?_⟩
    have e9 : mF (0, e2, lz) (k : Int) = (lz.getD k (9, 9)).2 := by
      rw [mF_nat, List.getD_eq_getElem?_getD, hz]; rfl
    rw [e9]
    exact okF_rel hF
set_option maxRecDepth 20000 in
theorem WA_ok : ∀ o, o < 313 → okE o (layL.getD o (.inl 0)) (WA.getD o (0, 0, [])) = true := by decide +kernel
theorem WA_len : WA.length = 313 := by decide +kernel
theorem lay_len : layL.length = 313 := by decide +kernel
theorem rel_first {g : GC} {H : Heap} (h : RelC g WA H) : Rel g m0 H := by
  refine ⟨fun o => toE g (WA.getD o (0, 0, [])), ?_, fun o d hd => ?_⟩
  · have : wsOf g (fun o => toE g (WA.getD o (0, 0, []))) = wsC g WA := by
      unfold wsOf wsC
      rw [WA_len, lay_len]
    rw [this]
    exact h.2
  · have hl := (List.getElem?_eq_some_iff.mp hd).1
    rw [lay_len] at hl
    have h1 := WA_ok o hl
    rw [List.getD_eq_getElem?_getD, hd] at h1
    exact okE_rel h1
theorem z288 : m0 288 = fun _ => 0 := by
  have h : WA.getD 288 (0, 0, []) = (1, 2005, []) := by decide +kernel
  show mF (WA.getD 288 (0, 0, [])) = _
  rw [h, mF_nil]
theorem lawV_0 (c : Int → Int) (nw : Int) (t : Bool) : LawV c nw 0 t := by
  refine ⟨by decide, by decide, fun h => absurd h (by decide), fun j T hj h => ?_⟩
  have hj0 : j = 0 := Nat.le_zero.mp hj
  subst hj0
  cases h
  exact Nat.zero_le _
theorem tb_0 (i : Nat) : tb 0 i = false := by simp [tb]
theorem isV_0 : IsV (fun _ => 0) := ⟨Or.inl ⟨rfl, rfl, rfl, rfl, rfl⟩, ⟨by decide, by decide⟩, ⟨by decide, by decide⟩, ⟨by decide, by decide, fun i h => by rw [tb_0] at h; cases h⟩, fun h a b => absurd b (by simp only; omega), fun g h a b d => absurd d (by simp only; omega), fun p a b => absurd b (by simp only; omega), lawV_0 _ _ _, lawV_0 _ _ _⟩
theorem stV_0 : StV (fun _ => 0) 1000 (fun _ => 0) := ⟨fun p a b => absurd b (by simp only; omega), ⟨by decide, by decide, fun i h => by rw [tb_0] at h; cases h⟩, ⟨by decide, by decide⟩, ⟨by decide, by decide⟩, by decide, by decide⟩
theorem kV_0 : KV 1000 (fun _ => 0) := ⟨isV_0, stV_0, ⟨by decide, by decide⟩, fun s a b => absurd b (by simp only; omega)⟩
theorem lawR_0 {o : Nat} {f c : Int → Int} (h : m0 o 4 = 0 ∧ m0 o 1 = 0 ∧ m0 o 5 = 0 ∧ m0 o 6 = 0) : LawR o f c 0 m0 := ⟨h.1, h.2.1, fun i a b => absurd b (by omega), Or.inl h.2.2.1, Or.inl h.2.2.2, fun _ i a b => absurd b (by omega), fun _ i a b => absurd b (by omega)⟩
theorem wRel_0 : WRel 19 (fun _ => 0) m0 := by
  refine ⟨⟨by decide +kernel, fun h a b => absurd b (by simp only; omega), fun p a b => absurd b (by simp only; omega), lawR_0 (by decide +kernel), lawR_0 (by decide +kernel)⟩, ⟨by decide +kernel, fun p a b => absurd b (by simp only; omega)⟩, by decide +kernel, by decide +kernel, fun s a b => absurd b (by simp only; omega)⟩
theorem inv_first : Inv 1000 m0 := by
  have h0 : m0 0 1 = 0 := by decide +kernel
  have e87 : WA.getD 87 (0, 0, []) = (4, 3, []) := by decide +kernel
  have e291 : WA.getD 291 (0, 0, []) = (4, 3, []) := by decide +kernel
  have z87 : m0 87 = fun _ => 0 := by show mF (WA.getD 87 (0, 0, [])) = _; rw [e87, mF_nil]
  have z291 : m0 291 = fun _ => 0 := by show mF (WA.getD 291 (0, 0, [])) = _; rw [e291, mF_nil]
  refine ⟨⟨by decide +kernel, by decide +kernel, fun i a b => absurd b (by rw [h0]; omega)⟩, by unfold FaultR; decide +kernel, by rw [z288]; exact kV_0, by rw [z288]; exact wRel_0, fun i a b => ?_, fun t a b => Or.inl ?_, Or.inl (by decide +kernel), ⟨Or.inl (by decide +kernel), Or.inl (by decide +kernel)⟩⟩
  · rw [z87, z291]
    exact ⟨⟨rfl, Or.inl rfl⟩, fun h => absurd (show (0 : Int) = 1 from h) (by decide)⟩
  · have ht : t = 0 ∨ t = 1 ∨ t = 2 ∨ t = 3 := by omega
    rcases ht with rfl | rfl | rfl | rfl <;> decide +kernel

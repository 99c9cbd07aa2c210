/-! ===== what is known at the law's entry ===== -/
def nF : List Cond := flatC (.and given_1 narrow_1)
def tmS (i : Nat) : Term := .string (strT.getD i ("", 0, "")).1 (strT.getD i ("", 0, "")).2.1
def tmE (i : Nat) : Term := .string (exT.getD i ("", 0, "")).1 (exT.getD i ("", 0, "")).2.1
theorem str_hN : ∀ i, i < 20 → lenT.getD i 0 < 2 ^ 31 := by decide +kernel
theorem str_hex : ∀ i, i < 20 → Cond.exactly (tmS i) "java/lang/String" ∈ nF := by decide +kernel
theorem str_hco : ∀ i, i < 20 → Cond.eq (.field (tmS i) "java/lang/String" "coder" "B") (.int 0) ∈ nF := by decide +kernel
theorem str_har : ∀ i, i < 20 → Cond.arrayOf (.field (tmS i) "java/lang/String" "value" "[B") .byte ∈ nF := by decide +kernel
theorem str_hle : ∀ i, i < 20 → Cond.eq (.length (.field (tmS i) "java/lang/String" "value" "[B")) (.int (Int32.ofNat (lenT.getD i 0))) ∈ nF := by decide +kernel
def blkS (i : Nat) : List Cond := (List.range (lenT.getD i 0)).map (fun j => Cond.eq (.elem (.field (tmS i) "java/lang/String" "value" "[B") (.int (Int32.ofNat j))) (.int ((bytT.getD i []).getD j 0)))
theorem blk_0 : (nF.drop 233).take 12 = blkS 0 := by decide +kernel
theorem blk_1 : (nF.drop 148).take 81 = blkS 1 := by decide +kernel
theorem blk_2 : (nF.drop 733).take 2 = blkS 2 := by decide +kernel
theorem blk_3 : (nF.drop 645).take 3 = blkS 3 := by decide +kernel
theorem blk_4 : (nF.drop 726).take 3 = blkS 4 := by decide +kernel
theorem blk_5 : (nF.drop 694).take 4 = blkS 5 := by decide +kernel
theorem blk_6 : (nF.drop 652).take 5 = blkS 6 := by decide +kernel
theorem blk_7 : (nF.drop 661).take 4 = blkS 7 := by decide +kernel
theorem blk_8 : (nF.drop 676).take 4 = blkS 8 := by decide +kernel
theorem blk_9 : (nF.drop 631).take 4 = blkS 9 := by decide +kernel
theorem blk_10 : (nF.drop 702).take 1 = blkS 10 := by decide +kernel
theorem blk_11 : (nF.drop 707).take 1 = blkS 11 := by decide +kernel
theorem blk_12 : (nF.drop 712).take 3 = blkS 12 := by decide +kernel
theorem blk_13 : (nF.drop 639).take 2 = blkS 13 := by decide +kernel
theorem blk_14 : (nF.drop 669).take 3 = blkS 14 := by decide +kernel
theorem blk_15 : (nF.drop 614).take 4 = blkS 15 := by decide +kernel
theorem blk_16 : (nF.drop 622).take 5 = blkS 16 := by decide +kernel
theorem blk_17 : (nF.drop 684).take 6 = blkS 17 := by decide +kernel
theorem blk_18 : (nF.drop 719).take 3 = blkS 18 := by decide +kernel
theorem blk_19 : (nF.drop 604).take 6 = blkS 19 := by decide +kernel
theorem blk_in (i p n : Nat) (h : (nF.drop p).take n = blkS i) (j : Nat) (hj : j < lenT.getD i 0) : Cond.eq (.elem (.field (tmS i) "java/lang/String" "value" "[B") (.int (Int32.ofNat j))) (.int ((bytT.getD i []).getD j 0)) ∈ nF := by
  have h1 : Cond.eq (.elem (.field (tmS i) "java/lang/String" "value" "[B") (.int (Int32.ofNat j))) (.int ((bytT.getD i []).getD j 0)) ∈ blkS i := List.mem_map.mpr ⟨j, List.mem_range.mpr hj, rfl⟩
  rw [← h] at h1
  exact List.mem_of_mem_drop (List.mem_of_mem_take h1)
theorem str_hel : ∀ i, i < 20 → ∀ j, j < lenT.getD i 0 → Cond.eq (.elem (.field (tmS i) "java/lang/String" "value" "[B") (.int (Int32.ofNat j))) (.int ((bytT.getD i []).getD j 0)) ∈ nF
  | 0, _, j, hj => blk_in 0 233 12 blk_0 j hj
  | 1, _, j, hj => blk_in 1 148 81 blk_1 j hj
  | 2, _, j, hj => blk_in 2 733 2 blk_2 j hj
  | 3, _, j, hj => blk_in 3 645 3 blk_3 j hj
  | 4, _, j, hj => blk_in 4 726 3 blk_4 j hj
  | 5, _, j, hj => blk_in 5 694 4 blk_5 j hj
  | 6, _, j, hj => blk_in 6 652 5 blk_6 j hj
  | 7, _, j, hj => blk_in 7 661 4 blk_7 j hj
  | 8, _, j, hj => blk_in 8 676 4 blk_8 j hj
  | 9, _, j, hj => blk_in 9 631 4 blk_9 j hj
  | 10, _, j, hj => blk_in 10 702 1 blk_10 j hj
  | 11, _, j, hj => blk_in 11 707 1 blk_11 j hj
  | 12, _, j, hj => blk_in 12 712 3 blk_12 j hj
  | 13, _, j, hj => blk_in 13 639 2 blk_13 j hj
  | 14, _, j, hj => blk_in 14 669 3 blk_14 j hj
  | 15, _, j, hj => blk_in 15 614 4 blk_15 j hj
  | 16, _, j, hj => blk_in 16 622 5 blk_16 j hj
  | 17, _, j, hj => blk_in 17 684 6 blk_17 j hj
  | 18, _, j, hj => blk_in 18 719 3 blk_18 j hj
  | 19, _, j, hj => blk_in 19 604 6 blk_19 j hj
  | n + 20, h, _, _ => absurd h (by omega)
theorem str_hR : ∀ i, i < 20 → Cond.stringRef (strT.getD i ("", 0, "")).1 (strT.getD i ("", 0, "")).2.1 (strT.getD i ("", 0, "")).2.2 ∈ lw_tbl := by decide +kernel
theorem ext_hex : ∀ i, i < 17 → Cond.exactly (tmE i) "java/lang/String" ∈ nF := by decide +kernel
theorem ext_hR : ∀ i, i < 17 → Cond.stringRef (exT.getD i ("", 0, "")).1 (exT.getD i ("", 0, "")).2.1 (exT.getD i ("", 0, "")).2.2 ∈ lw_tbl := by decide +kernel
theorem strT_apart : ∀ i, i < 20 → ∀ j, j < 20 → i ≠ j → lenT.getD i 0 ≠ lenT.getD j 0 ∨ ∃ k, k < lenT.getD i 0 ∧ (bytT.getD i []).getD k 0 ≠ (bytT.getD j []).getD k 0 := by decide +kernel
theorem exW_tbl : ∀ w ∈ exW, w ∈ lw_tbl := by decide +kernel
theorem exP_nF : ∀ q ∈ exP, Cond.not (.castable q.1 q.2) ∈ nF := by decide +kernel
theorem nestW_tbl : ∀ w ∈ nestW, w ∈ lw_tbl := fun w h => (List.mem_filter.mp h).1
theorem LW_tbl : ∀ w ∈ LW, w ∈ lw_tbl := fun w h => (List.mem_filter.mp h).1
theorem nest_ot {w : Cond} (h : w ∈ nestW) : w.onTables = true := by
  have hn := (List.mem_filter.mp h).2
  unfold isNest at hn
  split at hn
  · rfl
  · cases hn
theorem str_one {args : Array Value} {s : State} {A : Nat → Prop} (hs : ∀ w ∈ nF, w.before args s = true) (hA : ∀ a : Nat, a < s.heap.size → ¬ A a) (i : Nat) : ∃ q : Nat × Nat, i < 20 → (tmS i).eval args s none [] s = some (.ref q.1) ∧ va_O "java/lang/String" q.1 A s s.heap ∧ va_OF "java/lang/String" "coder" "B" (.int 0) q.1 A s s.heap ∧ va_OF "java/lang/String" "value" "[B" (.ref q.2) q.1 A s s.heap ∧ va_T .byte q.2 (lenT.getD i 0) (fun j => .int ((bytT.getD i []).getD j 0)) A s s.heap := by
  by_cases hi : i < 20
  · obtain ⟨a, c, cA, kA, q1, q2, q3, q4, q5, q6, -⟩ := Cond.exactly_spec (args := args) (first := s) (o := none) (s := s) (idx := []) (t := tmS i) (cls := "java/lang/String") (hs _ (str_hex i hi))
    obtain ⟨t, ht, hT⟩ := va_Tof (f := fun j => .int ((bytT.getD i []).getD j 0)) (A := A) (str_hN i hi) (hs _ (str_har i hi)) (va_eqt (hs _ (str_hle i hi))) (fun j hj => va_eqt (hs _ (str_hel i hi j hj))) hA
    exact ⟨(a, t), fun _ => ⟨q1, ⟨cA, q3, q5, by rw [q6]; exact q2, hA a (Array.getElem?_eq_some_iff.mp q3).1⟩, vk_OFof q1 (va_eqt (hs _ (str_hco i hi))) hA, vk_OFof q1 ht hA, hT⟩⟩
  · exact ⟨(0, 0), fun h => absurd h hi⟩
theorem of_ap {A : Nat → Prop} {s : State} {H : Heap} {o n d : String} {v w : Value} {a : Nat} (h1 : va_OF o n d v a A s H) (h2 : va_OF o n d w a A s H) : v = w := by
  obtain ⟨cf, k, i, f, cell, e1, -, e2, -, e3, -⟩ := h1
  obtain ⟨cf', k', i', f', cell', g1, -, g2, -, g3, -⟩ := h2
  rw [e1] at g1
  cases g1
  rw [e2] at g2
  cases g2
  exact Option.some.inj (e3.symm.trans g3)
theorem t_ap {A : Nat → Prop} {s : State} {H : Heap} {t N M : Nat} {f g : Nat → Value} (hN : N < 2 ^ 31) (hM : M < 2 ^ 31) (h1 : va_T .byte t N f A s H) (h2 : va_T .byte t M g A s H) : N = M ∧ ∀ j, j < N → f j = g j := by
  obtain ⟨cell, e1, -, -, e2, e3, e4, -⟩ := h1
  obtain ⟨cell', g1, -, -, g2, g3, g4, -⟩ := h2
  rw [e1] at g1
  cases g1
  have hz := congrArg Int32.toInt (e3.symm.trans g3)
  rw [Int32.toInt_ofNat_of_lt hN, Int32.toInt_ofNat_of_lt hM] at hz
  have hNM : N = M := by omega
  exact ⟨hNM, fun j hj => Option.some.inj ((e4 j hj).symm.trans (g4 j (hNM ▸ hj)))⟩
theorem str_all {args : Array Value} {s : State} {A : Nat → Prop} (hs : ∀ w ∈ nF, w.before args s = true) (hA : ∀ a : Nat, a < s.heap.size → ¬ A a) : ∃ str : Nat → Nat, vk_S strT.length lenT bytT str (fun i => str (i + 1000)) A s s.heap ∧ ∀ i, i < 20 → (tmS i).eval args s none [] s = some (.ref (str i)) := by
  obtain ⟨ad, had⟩ := Classical.axiomOfChoice (str_one hs hA)
  refine ⟨fun k => if k < 1000 then (ad k).1 else (ad (k - 1000)).2, ⟨fun i hi => ?_, fun i j hi hj e => ?_⟩, fun i hi => ?_⟩
  · have hi2 : i < 20 := hi
    obtain ⟨h1, h2, h3, h4, h5⟩ := had i hi2
    have e1 : (if i < 1000 then (ad i).1 else (ad (i - 1000)).2) = (ad i).1 := if_pos (by omega)
    have e2 : (if i + 1000 < 1000 then (ad (i + 1000)).1 else (ad (i + 1000 - 1000)).2) = (ad i).2 := by rw [if_neg (by omega), Nat.add_sub_cancel]
    simp only [e1, e2]
    exact ⟨h2, h3, h4, h5⟩
  · have hi2 : i < 20 := hi
    have hj2 : j < 20 := hj
    obtain ⟨-, -, -, h4, h5⟩ := had i hi2
    obtain ⟨-, -, -, g4, g5⟩ := had j hj2
    have e' : (ad i).1 = (ad j).1 := by
      have e0 : (if i < 1000 then (ad i).1 else (ad (i - 1000)).2) = (if j < 1000 then (ad j).1 else (ad (j - 1000)).2) := e
      rwa [if_pos (by omega), if_pos (by omega)] at e0
    by_cases hij : i = j
    · exact hij
    · exfalso
      rw [e'] at h4
      have hv := of_ap h4 g4
      have hv2 : (ad i).2 = (ad j).2 := by injection hv
      rw [hv2] at h5
      obtain ⟨k1, k2⟩ := t_ap (str_hN i hi2) (str_hN j hj2) h5 g5
      rcases strT_apart i hi2 j hj2 hij with q | ⟨k, q1, q2⟩
      · exact q k1
      · exact q2 (by have := k2 k q1; injection this)
  · rw [(had i hi).1]
    show _ = some (Value.ref (if i < 1000 then (ad i).1 else (ad (i - 1000)).2))
    rw [if_pos (by omega)]
theorem ext_one {args : Array Value} {s : State} (hs : ∀ w ∈ nF, w.before args s = true) (ht : ∀ w ∈ lw_tbl, w.before args s = true) (i : Nat) (hi : i < 17) : ∃ sa, vk_R (exT.getD i ("", 0, "")).1 (exT.getD i ("", 0, "")).2.1 (exT.getD i ("", 0, "")).2.2 sa s := by
  obtain ⟨a, c, cA, kA, q1, -⟩ := Cond.exactly_spec (args := args) (first := s) (o := none) (s := s) (idx := []) (t := tmE i) (cls := "java/lang/String") (hs _ (ext_hex i hi))
  exact ⟨a, vk_R.of (ht _ (ext_hR i hi)) q1⟩
theorem arr_int {args : Array Value} {s : State} (h : (Cond.arrayClass .int).before args s = true) : ∃ cA, ArrOfT s cA .int ∧ va_RA s cA .int := by
  obtain ⟨c, k, comp, h1, h2, h3⟩ := Cond.arrayClass_spec h
  exact ⟨c, fun n z => ⟨(fun k h => by cases h), k, h2, comp, h3⟩, h1⟩
theorem arr_long {args : Array Value} {s : State} (h : (Cond.arrayClass .long).before args s = true) : ∃ cA, ArrOfT s cA .long ∧ va_RA s cA .long := by
  obtain ⟨c, k, comp, h1, h2, h3⟩ := Cond.arrayClass_spec h
  exact ⟨c, fun n z => ⟨(fun k h => by cases h), k, h2, comp, h3⟩, h1⟩
theorem arr_byte {args : Array Value} {s : State} (h : (Cond.arrayClass .byte).before args s = true) : ∃ cA, ArrOfT s cA .byte ∧ va_RA s cA .byte := by
  obtain ⟨c, k, comp, h1, h2, h3⟩ := Cond.arrayClass_spec h
  exact ⟨c, fun n z => ⟨(fun k h => by cases h), k, h2, comp, h3⟩, h1⟩
theorem arr_bool {args : Array Value} {s : State} (h : (Cond.arrayClass .boolean).before args s = true) : ∃ cA, ArrOfT s cA .boolean ∧ va_RA s cA .boolean := by
  obtain ⟨c, k, comp, h1, h2, h3⟩ := Cond.arrayClass_spec h
  exact ⟨c, fun n z => ⟨(fun k h => by cases h), k, h2, comp, h3⟩, h1⟩
theorem arr_obj {args : Array Value} {s : State} {C : String} (h : (Cond.arrayOver (.object C)).before args s = true) : ∃ cA, ArrOfT s cA (.object C) ∧ va_RA s cA (.object C) := by
  obtain ⟨comp, c, k, h1, h2, h3, h4, h5⟩ := Cond.arrayOver_spec h
  exact ⟨c, fun n z => ⟨(fun k h => by cases h), k, h3, comp, h4⟩, k, comp, h3, h4, h1, h5⟩
theorem arr_arr {args : Array Value} {s : State} (h : (Cond.arrayOver (.array .long)).before args s = true) : ∃ cA, ArrOfT s cA (.array .long) ∧ va_RA s cA (.array .long) := by
  obtain ⟨comp, c, k, h1, h3, h4, h5⟩ := Cond.arrayOver_specA h
  exact ⟨c, fun n z => ⟨(fun k h => by cases h), k, h3, comp, h4⟩, h5⟩
theorem tys_all {args : Array Value} {s : State} (hts : ∀ w ∈ lw_tbl, w.before args s = true) : ∃ f : Nat → ClassId, ∀ (k : Nat) (q : ClassId × FieldType), [(f 0, FieldType.int), (f 1, .long), (f 2, .byte), (f 3, .boolean), (f 4, .object "RopeWeds$Life"), (f 5, .object "RopeWeds$World"), (f 6, .array .long)][k]? = some q → ArrOfT s q.1 q.2 ∧ va_RA s q.1 q.2 := by
  obtain ⟨c0, h0⟩ := arr_int (hts (Cond.arrayClass .int) (by decide +kernel))
  obtain ⟨c1, h1⟩ := arr_long (hts (Cond.arrayClass .long) (by decide +kernel))
  obtain ⟨c2, h2⟩ := arr_byte (hts (Cond.arrayClass .byte) (by decide +kernel))
  obtain ⟨c3, h3⟩ := arr_bool (hts (Cond.arrayClass .boolean) (by decide +kernel))
  obtain ⟨c4, h4⟩ := arr_obj (hts (Cond.arrayOver (.object "RopeWeds$Life")) (by decide +kernel))
  obtain ⟨c5, h5⟩ := arr_obj (hts (Cond.arrayOver (.object "RopeWeds$World")) (by decide +kernel))
  obtain ⟨c6, h6⟩ := arr_arr (hts (Cond.arrayOver (.array .long)) (by decide +kernel))
  refine ⟨fun k => [c0, c1, c2, c3, c4, c5, c6].getD k c0, fun k q hq => ?_⟩
  match k, hq with
  | 0, hq => obtain rfl := Option.some.inj hq; exact h0
  | 1, hq => obtain rfl := Option.some.inj hq; exact h1
  | 2, hq => obtain rfl := Option.some.inj hq; exact h2
  | 3, hq => obtain rfl := Option.some.inj hq; exact h3
  | 4, hq => obtain rfl := Option.some.inj hq; exact h4
  | 5, hq => obtain rfl := Option.some.inj hq; exact h5
  | 6, hq => obtain rfl := Option.some.inj hq; exact h6
theorem cls_all {args : Array Value} {s : State} (hts : ∀ w ∈ lw_tbl, w.before args s = true) (ci : Nat) : ∃ p : ClassId × (Nat → Nat), ∀ q, vwCl[ci]? = some q → u_Kn s q.1 q.2.1 q.2.2 p.1 p.2 := by
  have hLW : ∀ w ∈ LW, w.before args s = true := fun w hw => hts w (LW_tbl w hw)
  match ci with
  | 0 =>
    obtain ⟨cC, iS, h⟩ := u_known (ws := LW) hLW iw_0 (hts (Cond.instantiable RX0 18) (by decide +kernel))
    exact ⟨(cC, iS), fun q hq => by obtain rfl := Option.some.inj hq; exact h⟩
  | 1 =>
    obtain ⟨cC, iS, h⟩ := u_known (ws := LW) hLW iw_1 (hts (Cond.instantiable RX1 6) (by decide +kernel))
    exact ⟨(cC, iS), fun q hq => by obtain rfl := Option.some.inj hq; exact h⟩
  | 2 =>
    obtain ⟨cC, iS, h⟩ := u_known (ws := LW) hLW iw_2 (hts (Cond.instantiable RX2 4) (by decide +kernel))
    exact ⟨(cC, iS), fun q hq => by obtain rfl := Option.some.inj hq; exact h⟩
  | 3 =>
    obtain ⟨cC, iS, h⟩ := u_known (ws := LW) hLW iw_3 (hts (Cond.instantiable RX3 10) (by decide +kernel))
    exact ⟨(cC, iS), fun q hq => by obtain rfl := Option.some.inj hq; exact h⟩
  | 4 =>
    obtain ⟨cC, iS, h⟩ := u_known (ws := LW) hLW iw_4 (hts (Cond.instantiable RX4 7) (by decide +kernel))
    exact ⟨(cC, iS), fun q hq => by obtain rfl := Option.some.inj hq; exact h⟩
  | 5 =>
    obtain ⟨cC, iS, h⟩ := u_known (ws := LW) hLW iw_5 (hts (Cond.instantiable RX5 7) (by decide +kernel))
    exact ⟨(cC, iS), fun q hq => by obtain rfl := Option.some.inj hq; exact h⟩
  | 6 =>
    obtain ⟨cC, iS, h⟩ := u_known (ws := LW) hLW iw_6 (hts (Cond.instantiable RX6 9) (by decide +kernel))
    exact ⟨(cC, iS), fun q hq => by obtain rfl := Option.some.inj hq; exact h⟩
  | 7 =>
    obtain ⟨cC, iS, h⟩ := u_known (ws := LW) hLW iw_7 (hts (Cond.instantiable RX7 4) (by decide +kernel))
    exact ⟨(cC, iS), fun q hq => by obtain rfl := Option.some.inj hq; exact h⟩
  | 8 =>
    obtain ⟨cC, iS, h⟩ := u_known (ws := LW) hLW iw_8 (hts (Cond.instantiable RX8 4) (by decide +kernel))
    exact ⟨(cC, iS), fun q hq => by obtain rfl := Option.some.inj hq; exact h⟩
  | 9 =>
    obtain ⟨cC, iS, h⟩ := u_known (ws := LW) hLW iw_9 (hts (Cond.instantiable RX9 3) (by decide +kernel))
    exact ⟨(cC, iS), fun q hq => by obtain rfl := Option.some.inj hq; exact h⟩
  | 10 =>
    obtain ⟨cC, iS, h⟩ := u_known (ws := LW) hLW iw_10 (hts (Cond.instantiable RX10 9) (by decide +kernel))
    exact ⟨(cC, iS), fun q hq => by obtain rfl := Option.some.inj hq; exact h⟩
  | 11 =>
    obtain ⟨cC, iS, h⟩ := u_known (ws := LW) hLW iw_11 (hts (Cond.instantiable RX11 13) (by decide +kernel))
    exact ⟨(cC, iS), fun q hq => by obtain rfl := Option.some.inj hq; exact h⟩
  | 12 =>
    obtain ⟨cC, iS, h⟩ := u_known (ws := LW) hLW iw_12 (hts (Cond.instantiable RX12 42) (by decide +kernel))
    exact ⟨(cC, iS), fun q hq => by obtain rfl := Option.some.inj hq; exact h⟩
  | n + 13 => exact ⟨(0, fun _ => 0), fun q hq => by cases hq⟩
theorem law_known {s : State} {args : Array Value} (b : Nat) (hts : ∀ w ∈ lw_tbl, w.before args s = true) (hs : ∀ w ∈ nF, w.before args s = true) : ∃ g : GC, g.1 = s.heap.size ∧ g.2.2.2.1 = b ∧ Kn g s ∧ KI s := by
  obtain ⟨D, hD⟩ := Classical.axiomOfChoice (cls_all hts)
  obtain ⟨f, hf⟩ := tys_all hts
  have hA : ∀ a : Nat, a < s.heap.size → ¬ s.heap.size ≤ a := fun a h => by omega
  obtain ⟨str, hS, hE⟩ := str_all (A := fun q => s.heap.size ≤ q) hs hA
  refine ⟨(s.heap.size, (fun ci => (D ci).1, fun ci => (D ci).2), f, b, str), rfl, rfl, ⟨⟨fun ci q hq => hD ci q hq, hf⟩, ?_⟩, ?_⟩
  · refine ⟨hS, ?_, ?_, ?_, ?_, fun k q hk => ?_, fun q hq => ?_, fun w hw => ?_, fun q hq => ?_⟩
    · exact va_Zof (hts (Cond.laysStatic "java/lang/String" "COMPACT_STRINGS" "Z") (by decide +kernel)) (hts (Cond.initialized "java/lang/String") (by decide +kernel)) (va_eqt (hs (Cond.eq (.static "java/lang/String" "COMPACT_STRINGS" "Z") (.int 1)) (by decide +kernel))) hA
    · exact va_Zqof (hts (Cond.laysStatic "jdk/internal/util/Preconditions" "SIOOBE_FORMATTER" "Ljava/util/function/BiFunction;") (by decide +kernel)) (hts (Cond.initialized "jdk/internal/util/Preconditions") (by decide +kernel)) (hs (Cond.isRef (.static "jdk/internal/util/Preconditions" "SIOOBE_FORMATTER" "Ljava/util/function/BiFunction;")) (by decide +kernel)) hA
    · exact vx_Zqof (hts (Cond.laysStatic "java/lang/Throwable" "UNASSIGNED_STACK" "[Ljava/lang/StackTraceElement;") (by decide +kernel)) (hts (Cond.initialized "java/lang/Throwable") (by decide +kernel)) (hs (Cond.isRef (.static "java/lang/Throwable" "UNASSIGNED_STACK" "[Ljava/lang/StackTraceElement;")) (by decide +kernel)) hA
    · exact vx_Zqof (hts (Cond.laysStatic "java/lang/Throwable" "SUPPRESSED_SENTINEL" "Ljava/util/List;") (by decide +kernel)) (hts (Cond.initialized "java/lang/Throwable") (by decide +kernel)) (hs (Cond.isRef (.static "java/lang/Throwable" "SUPPRESSED_SENTINEL" "Ljava/util/List;")) (by decide +kernel)) hA
    · have hk2 : k < 20 := (List.getElem?_eq_some_iff.mp hk).1
      have hq2 : strT.getD k ("", 0, "") = q := by rw [List.getD_eq_getElem?_getD, hk]; rfl
      have h1 := hts _ (str_hR k hk2)
      have h2 := hE k hk2
      unfold tmS at h2
      rw [hq2] at h1 h2
      exact vk_R.of h1 h2
    · obtain ⟨k, hk⟩ := List.getElem?_of_mem hq
      have hk2 : k < 17 := (List.getElem?_eq_some_iff.mp hk).1
      have hq2 : exT.getD k ("", 0, "") = q := by rw [List.getD_eq_getElem?_getD, hk]; rfl
      have h1 := ext_one hs hts k hk2
      rw [hq2] at h1
      exact h1
    · exact va_Nw.of (exW_ok w hw).2 (hts w (exW_tbl w hw))
    · exact va_Nc.of (hs _ (exP_nF q hq))
  · exact ⟨fun w hw => va_Nw.of (nest_ot hw) (hts w (nestW_tbl w hw)), va_AO.of (hts (Cond.arrayOver (.object "RopeWeds$Life")) (by decide +kernel)), va_AO.of (hts (Cond.arrayOver (.object "RopeWeds$World")) (by decide +kernel)), hts (Cond.arrayOver (.array .long)) (by decide +kernel)⟩

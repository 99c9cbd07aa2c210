/-! ===== CORE 10: a fill of new cells; the law's own rows ===== -/
section SIMIS
variable {p : Program} {l : Launch} {e : Env} {R : Room} {s : State} {m : MethodId} {args : Array Value} {below : List Frame} {meth : Method} {c : Code}
variable {g : GC} {own : String} {cc : ByteArray} {nL kc ks pc : Nat} {Q : State → Prop} {W0 : List CE} {ls : List (Nat × SV)} {st : List SV} {T : List CE}
theorem zeros_getD (n i : Nat) : ((List.replicate n ((0 : Nat), (0 : Int))).getD i (0, 0)) = (0, 0) := by
  rw [List.getD_eq_getElem?_getD, List.getElem?_replicate]
  split <;> rfl
theorem toE_zeros (g : GC) (n : Nat) : toE g (1, n, []) = toE g (1, n, List.replicate n (0, 0)) := by
  show (.inl (g.2.2.1 0, n, .inl (fun i => Int32.ofInt (([] : List (Nat × Int)).getD i (0, 0)).2)) : va_E) = .inl (g.2.2.1 0, n, .inl (fun i => Int32.ofInt ((List.replicate n ((0 : Nat), (0 : Int))).getD i (0, 0)).2))
  congr 3
  congr 1
  funext i
  rw [zeros_getD]
  rfl
/-- an array of ints that is new holds zeros -/
theorem zi_zeros {j n : Nat} {lz : List (Nat × Int)} {T' : List CE} (hj : T[j]? = some (1, n, [])) (hz : lz = List.replicate n (0, 0)) (hT : T.set j (1, n, lz) = T') (K : SimI p l e R s m args below meth c g nL Q W0 kc ks pc ls st T') : SimI p l e R s m args below meth c g nL Q W0 kc ks pc ls st T := by
  intro H locs lsA lv vst h1 h2 h3 h4 h5 h6
  have hat : (W0 ++ T)[W0.length + j]? = some (1, n, []) := by rw [List.getElem?_append_right (Nat.le_add_right _ _), Nat.add_sub_cancel_left]; exact hj
  have hW' : (W0 ++ T).set (W0.length + j) (1, n, lz) = W0 ++ T' := by rw [List.set_append_right _ _ (Nat.le_add_right _ _), Nat.add_sub_cancel_left, hT]
  have hlen : (W0 ++ T').length = (W0 ++ T).length := by rw [← hW', List.length_set]
  have hw : wsC g (W0 ++ T') = wsC g (W0 ++ T) := by
    rw [← hW', wsC_set, hz, ← toE_zeros]
    obtain ⟨hl, he⟩ := List.getElem?_eq_some_iff.mp (wsC_at (g := g) hat)
    rw [← he, List.set_getElem_self]
  refine K H locs lsA lv vst h1 h2 h3 ⟨by rw [hlen]; exact h4.1, by rw [hw]; exact h4.2⟩ h5 (by rw [hlen]; exact h6)
theorem zi_astore (C : Bd g own cc nL p s m args meth c) {k : Fin 4} {i o : Nat} {ls' : List (Nat × SV)} (d : decode cc pc = .ok (.astore_n k, 1)) (hi : (k : Nat) = i) (hn : i < nL) (hf : (i, sR o) :: ls.filter (fun q => !(q.1 == i) && !(q.1 + 1 == i && isL q.2)) = ls') (K : SimI p l e R s m args below meth c g nL Q W0 kc ks (pc+1) ls' st T) : SimI p l e R s m args below meth c g nL Q W0 kc ks pc ls (sR o :: st) T := by
  intro H locs lsA lv vst h1 h2 h3 h4 h5 h6
  obtain ⟨_, vst1, rfl, hz, k1_⟩ := srel_cons h3
  have hz' : _ = Value.ref (g.1 + o) := hz
  subst hz'
  refine lv_astore_n C.1 C.2.1 d hi h1 hn rfl (fun lsA' h1' => K H locs lsA' _ _ h1' ?_ k1_ h4 h5 h6)
  rw [← hf]
  exact ⟨⟨rfl, rfl⟩, lrel_filter (fun a b hab hv => by rw [vrel_cat hv, hab]) h2⟩
end SIMIS
def PcF (g : GC) (W : List CE) (o : Nat) (x : Int) : Array Value → State → Prop := fun a U => (∃ i : Int32, a = #[.ref (g.1 + o), .int i] ∧ i.toInt = x) ∧ RelC g W U.heap ∧ Kn g U ∧ g.1 ≤ U.heap.size
def ConF (l : Launch) (g : GC) : Prop := ∀ W0 : List CE, Met l yJ7_fill_53178 (Cond.code yJ7_fill_53178 cJ7_fill_53178 4 none :: LW) (rmd 1 0 0) (PcF g (W0 ++ [(1, 4, [])]) W0.length (-1)) (QcI g (W0 ++ [(1, 4, [(0, -1), (0, -1), (0, -1), (0, -1)])])) (rmd 1 0 0).cells (rmd 1 0 0).slots (fun q => g.1 ≤ q)
theorem PcF_blind {g : GC} {W : List CE} {o : Nat} {x : Int} : FrameBlind (PcF g W o x) := by
  intro a U gf mk h
  obtain ⟨h1, h2, h3, h5⟩ := h
  exact ⟨h1, h2, Kn_moved (A := fun _ => False) (fun _ h => h.elim) h3 (State.WarmedH.refl U) (Nat.le_refl _) (fun _ _ _ => rfl), h5⟩
set_option maxRecDepth 20000 in
theorem k_fill (l : Launch) (g : GC) : ConF l g := by
  intro W0
  refine Met.ofW (cc := cJ7_fill_53178) (maxL := 4) (ret := none) (by decide +kernel) rfl ?_
  intro p e s m args below meth c s₁ B hml hP
  obtain ⟨⟨i, rfl, hi⟩, h3, h4, h5⟩ := hP
  have C : Bd g RJ7 cJ7_fill_53178 4 p s m #[.ref (g.1 + W0.length), .int i] meth c := ⟨B.exec, B.bytes, hml, findClass_of_methodNamed B.named, fun w h => atoms_spec B.pre w (List.mem_cons_of_mem _ h), h4, B.notSynchronized, h5⟩
  have hS : va_S (fun q => g.1 ≤ q) s.heap s.heap [] := va_S.rf
  have hl := lv_entry [Value.ref (g.1 + W0.length), Value.int i] (n := 4) (Nat.le_of_ble_eq_true rfl)
  have hr := B.returns
  have hW : SimI p l e (rmd 1 0 0) s m #[.ref (g.1 + W0.length), .int i] below meth c g 4 (MQ below (QcI g (W0 ++ [(1, 4, [(0, -1), (0, -1), (0, -1), (0, -1)])])) #[.ref (g.1 + W0.length), .int i] s (rmd 1 0 0).cells (rmd 1 0 0).slots (fun q => g.1 ≤ q)) W0 0 0 0 [(0, sR W0.length), (1, sI (-1))] [] [(1, 4, [])] := by
    refine zi_zeros (j := 0) (n := 4) (T' := [(1, 4, [(0, 0), (0, 0), (0, 0), (0, 0)])]) rfl rfl rfl ?_
    refine zi_iconst (pc := 0) (n := 0) (x := 0) C (by decide +kernel) (by decide +kernel) ?_
    refine zi_istore (pc := 1) (k := 2) (i := 2) (ls' := [(2, sI 0), (0, sR W0.length), (1, sI (-1))]) C (by decide +kernel) rfl (Nat.le_of_ble_eq_true rfl) rfl ?_
    refine zi_aload (pc := 2) (k := 0) (i := 0) C (by decide +kernel) rfl rfl ?_
    refine zi_alen (pc := 3) (j := 0) (n := 4) (x := 4) C (by decide +kernel) rfl rfl (by decide +kernel) ?_
    refine zi_istore (pc := 4) (k := 3) (i := 3) (ls' := [(3, sI 4), (2, sI 0), (0, sR W0.length), (1, sI (-1))]) C (by decide +kernel) rfl (Nat.le_of_ble_eq_true rfl) rfl ?_
    refine zi_iload (pc := 5) (k := 2) (i := 2) C (by decide +kernel) rfl rfl ?_
    refine zi_iload (pc := 6) (k := 3) (i := 3) C (by decide +kernel) rfl rfl ?_
    refine zi_ge (pc := 7) (off := 13) (tgt := 20) C (by decide +kernel) (by decide) (fun h => absurd h (by decide)) (fun _ => ?_)
    refine zi_aload (pc := 10) (k := 0) (i := 0) C (by decide +kernel) rfl rfl ?_
    refine zi_iload (pc := 11) (k := 2) (i := 2) C (by decide +kernel) rfl rfl ?_
    refine zi_iload (pc := 12) (k := 1) (i := 1) C (by decide +kernel) rfl rfl ?_
    refine zi_iast (pc := 13) (j := 0) (n := 4) (lz := [(0, 0), (0, 0), (0, 0), (0, 0)]) (T' := [(1, 4, [(0, -1), (0, 0), (0, 0), (0, 0)])]) C (by decide +kernel) rfl rfl ⟨by decide, by decide, by decide⟩ (by decide +kernel) rfl ?_
    refine zi_iinc (pc := 14) (i := 2) (n := 1) (x := 0) (y := 1) (ls' := [(2, sI 1), (3, sI 4), (0, sR W0.length), (1, sI (-1))]) C (by decide +kernel) rfl (by decide +kernel) (Nat.le_of_ble_eq_true rfl) rfl ?_
    refine zi_goto (pc := 17) (off := (-12)) (tgt := 5) C (by decide +kernel) (by decide) ?_
    refine zi_iload (pc := 5) (k := 2) (i := 2) C (by decide +kernel) rfl rfl ?_
    refine zi_iload (pc := 6) (k := 3) (i := 3) C (by decide +kernel) rfl rfl ?_
    refine zi_ge (pc := 7) (off := 13) (tgt := 20) C (by decide +kernel) (by decide) (fun h => absurd h (by decide)) (fun _ => ?_)
    refine zi_aload (pc := 10) (k := 0) (i := 0) C (by decide +kernel) rfl rfl ?_
    refine zi_iload (pc := 11) (k := 2) (i := 2) C (by decide +kernel) rfl rfl ?_
    refine zi_iload (pc := 12) (k := 1) (i := 1) C (by decide +kernel) rfl rfl ?_
    refine zi_iast (pc := 13) (j := 0) (n := 4) (lz := [(0, -1), (0, 0), (0, 0), (0, 0)]) (T' := [(1, 4, [(0, -1), (0, -1), (0, 0), (0, 0)])]) C (by decide +kernel) rfl rfl ⟨by decide, by decide, by decide⟩ (by decide +kernel) rfl ?_
    refine zi_iinc (pc := 14) (i := 2) (n := 1) (x := 1) (y := 2) (ls' := [(2, sI 2), (3, sI 4), (0, sR W0.length), (1, sI (-1))]) C (by decide +kernel) rfl (by decide +kernel) (Nat.le_of_ble_eq_true rfl) rfl ?_
    refine zi_goto (pc := 17) (off := (-12)) (tgt := 5) C (by decide +kernel) (by decide) ?_
    refine zi_iload (pc := 5) (k := 2) (i := 2) C (by decide +kernel) rfl rfl ?_
    refine zi_iload (pc := 6) (k := 3) (i := 3) C (by decide +kernel) rfl rfl ?_
    refine zi_ge (pc := 7) (off := 13) (tgt := 20) C (by decide +kernel) (by decide) (fun h => absurd h (by decide)) (fun _ => ?_)
    refine zi_aload (pc := 10) (k := 0) (i := 0) C (by decide +kernel) rfl rfl ?_
    refine zi_iload (pc := 11) (k := 2) (i := 2) C (by decide +kernel) rfl rfl ?_
    refine zi_iload (pc := 12) (k := 1) (i := 1) C (by decide +kernel) rfl rfl ?_
    refine zi_iast (pc := 13) (j := 0) (n := 4) (lz := [(0, -1), (0, -1), (0, 0), (0, 0)]) (T' := [(1, 4, [(0, -1), (0, -1), (0, -1), (0, 0)])]) C (by decide +kernel) rfl rfl ⟨by decide, by decide, by decide⟩ (by decide +kernel) rfl ?_
    refine zi_iinc (pc := 14) (i := 2) (n := 1) (x := 2) (y := 3) (ls' := [(2, sI 3), (3, sI 4), (0, sR W0.length), (1, sI (-1))]) C (by decide +kernel) rfl (by decide +kernel) (Nat.le_of_ble_eq_true rfl) rfl ?_
    refine zi_goto (pc := 17) (off := (-12)) (tgt := 5) C (by decide +kernel) (by decide) ?_
    refine zi_iload (pc := 5) (k := 2) (i := 2) C (by decide +kernel) rfl rfl ?_
    refine zi_iload (pc := 6) (k := 3) (i := 3) C (by decide +kernel) rfl rfl ?_
    refine zi_ge (pc := 7) (off := 13) (tgt := 20) C (by decide +kernel) (by decide) (fun h => absurd h (by decide)) (fun _ => ?_)
    refine zi_aload (pc := 10) (k := 0) (i := 0) C (by decide +kernel) rfl rfl ?_
    refine zi_iload (pc := 11) (k := 2) (i := 2) C (by decide +kernel) rfl rfl ?_
    refine zi_iload (pc := 12) (k := 1) (i := 1) C (by decide +kernel) rfl rfl ?_
    refine zi_iast (pc := 13) (j := 0) (n := 4) (lz := [(0, -1), (0, -1), (0, -1), (0, 0)]) (T' := [(1, 4, [(0, -1), (0, -1), (0, -1), (0, -1)])]) C (by decide +kernel) rfl rfl ⟨by decide, by decide, by decide⟩ (by decide +kernel) rfl ?_
    refine zi_iinc (pc := 14) (i := 2) (n := 1) (x := 3) (y := 4) (ls' := [(2, sI 4), (3, sI 4), (0, sR W0.length), (1, sI (-1))]) C (by decide +kernel) rfl (by decide +kernel) (Nat.le_of_ble_eq_true rfl) rfl ?_
    refine zi_goto (pc := 17) (off := (-12)) (tgt := 5) C (by decide +kernel) (by decide) ?_
    refine zi_iload (pc := 5) (k := 2) (i := 2) C (by decide +kernel) rfl rfl ?_
    refine zi_iload (pc := 6) (k := 3) (i := 3) C (by decide +kernel) rfl rfl ?_
    refine zi_ge (pc := 7) (off := 13) (tgt := 20) C (by decide +kernel) (by decide) (fun _ => ?_) (fun h => absurd (by decide) h)
    exact zi_ret (pc := 20) C hr ⟨Nat.le_of_ble_eq_true rfl, Nat.le_of_ble_eq_true rfl⟩ (by decide +kernel) rfl
  have hW2 := hW s.heap [] _ _ [] hl (slv_rel (g := g) (l := [sR W0.length, sI (-1)]) 0 ⟨rfl, ⟨i, rfl, hi⟩, trivial⟩) trivial h3 hS h3.1
  rw [← lg_entry_eq] at hW2
  exact hW2
section SIMIS
variable {p : Program} {l : Launch} {e : Env} {R : Room} {s : State} {m : MethodId} {args : Array Value} {below : List Frame} {meth : Method} {c : Code}
variable {g : GC} {own : String} {cc : ByteArray} {nL kc ks pc : Nat} {Q : State → Prop} {W0 : List CE} {ls : List (Nat × SV)} {st : List SV} {T : List CE}
theorem zi_fill (C : Bd g own cc nL p s m args meth c) {idx o : Nat} {T0 T' : List CE} (hM : ConF l g) (ml : MS own idx yJ7_fill_53178 cJ7_fill_53178 4 none 2) (hT0 : T0 ++ [(1, 4, [])] = T) (ho : W0.length + T0.length = o) (hT : T0 ++ [(1, 4, [(0, -1), (0, -1), (0, -1), (0, -1)])] = T')
    (hcat : (st.map scat).sum ≤ 8) (hRm : (rmd 1 0 0).frames + 1 ≤ R.frames ∧ 8 + (4 + 11) + (rmd 1 0 0).locals ≤ R.locals) (hc : kc + (rmd 1 0 0).cells ≤ R.cells ∧ ks + (rmd 1 0 0).slots ≤ R.slots) (d : decode cc pc = .ok (.invokestatic idx, 3)) (K : SimI p l e R s m args below meth c g nL Q W0 kc ks (pc+3) ls st T') : SimI p l e R s m args below meth c g nL Q W0 kc ks pc ls (sI (-1) :: sR o :: st) T := by
  intro H locs lsA lv vst h1 h2 h3 h4 h5 h6
  obtain ⟨_, vst1, rfl, ⟨i, rfl, hi⟩, k1_⟩ := srel_cons h3
  obtain ⟨_, vst2, rfl, rfl, k2_⟩ := srel_cons k1_
  have hM2 := hM (W0 ++ T0)
  rw [List.append_assoc, hT0, List.length_append, ho, List.append_assoc, hT] at hM2
  have run := va_runS (e := e) (below := below) (meth := meth) (locs := locs) (As := [.ref (g.1 + o), .int i]) (rest := vst2) (g := F0 m pc lsA _) ⟨C.1, C.2.1, C.2.2.1, C.2.2.2.1, C.2.2.2.2.1⟩ hM2 (zs_cs C ml hRm)
    ⟨PcF_blind, fun U hU hW => ⟨⟨i, rfl, hi⟩, by rw [hU]; exact h4, Kn_moved (A := fun q => g.1 ≤ q) (fun _ h => h) C.2.2.2.2.2.1 hW (by rw [hU]; exact h5.1) (by rw [hU]; exact h5.2.1), Nat.le_trans C.2.2.2.2.2.2.2 (by rw [hU]; exact h5.1)⟩⟩ rfl rfl h1.1 rfl (lv_room (by rw [srel_cat k2_]; exact hcat)) d hc
  intro Ts hTs X
  obtain ⟨v, st₀, t, T9, L, h0, X', hL, e1, e2, ⟨hq1, hq2, hq3⟩, stp⟩ := run Ts hTs X
  cases hq1
  rw [← e1] at hq2
  have hS1 : va_S (fun q => g.1 ≤ q) s.heap T9.heap (locs ++ L) := by
    refine ⟨Nat.le_trans h5.1 (by rw [e1, ← h0]; exact hq3.1), fun q h1 h2 => ?_, fun z hz => ?_⟩
    · rw [e1, hq3.2 q (by rw [h0]; exact Nat.lt_of_lt_of_le h1 h5.1) h2, h0]
      exact h5.2.1 q h1 h2
    · rcases List.mem_append.mp hz with h | h
      · exact h5.2.2 z h
      · exact hL z h
  have hl : (W0 ++ T').length = (W0 ++ T).length := by
    rw [← hT, ← hT0]
    simp only [List.length_append, List.length_cons, List.length_nil]
  obtain ⟨t2, a1, b1⟩ := K T9.heap (locs ++ L) lsA lv vst2 h1 h2 k2_ hq2 hS1 (by rw [hl]; exact h6) T9 rfl X'
  exact ⟨t2, stp t2 a1, b1⟩
end SIMIS

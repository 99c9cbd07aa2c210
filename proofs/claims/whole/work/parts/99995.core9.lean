/-! ===== CORE 9: arrays of arrays; a fill; what a new object holds ===== -/
theorem arrV_cg {cI : ClassId} {N : Nat} {f f' : Nat → Value} (h : ∀ j, j < N → f j = f' j) : arrV cI N f = arrV cI N f' := by
  unfold arrV
  congr 2
  funext j
  exact h j.1 j.2
theorem mna_outer (cA : ClassId) (h : Nat) (f : Nat → Value) (hf : ∀ j, j < 4 → f j = .ref (h + 1 + j)) : Jvm.Free.Multi.outerC cA 4 h 4 = arrV cA 4 f := by
  show ((((({ cls := cA, slots := Array.replicate 4 .null, vm := .none } : Cell).setSlot 0 (.ref (h + 1 + 0))).setSlot 1 (.ref (h + 1 + 1))).setSlot 2 (.ref (h + 1 + 2))).setSlot 3 (.ref (h + 1 + 3))) = _
  rw [arrV_new, arrV_store, arrV_store, arrV_store, arrV_store]
  refine arrV_cg (fun j hj => ?_)
  rw [hf j hj]
  have hj2 : j = 0 ∨ j = 1 ∨ j = 2 ∨ j = 3 := by omega
  rcases hj2 with rfl | rfl | rfl | rfl <;> rfl
theorem one_at {g : GC} {H1 : Heap} (x0 : Nat × va_E) (h0 : va_at g.2.1 vwCl x0 H1) : va_P g.2.1 vwCl [x0] H1 := fun k x hx => by
  have hz2 : k < 1 := (List.getElem?_eq_some_iff.mp hx).1
  rw [show k = 0 by omega] at hx
  cases hx
  exact h0
theorem mna_rel {g : GC} {W : List CE} {H H1 : Heap} {cA comp : ClassId} {o : Nat} (h4 : RelC g W H) (ho : W.length = o) (f1 : H1.size = H.size + 5) (fo : ∀ q, q < H.size → H1[q]? = H[q]?) (f2 : H1[H.size]? = some (Jvm.Free.Multi.outerC cA 4 H.size 4)) (fi : ∀ j, j < 4 → H1[H.size + 1 + j]? = some (Jvm.Free.Multi.innerC comp 30 (.long 0))) (hcA : g.2.2.1 6 = cA) (hcB : g.2.2.1 1 = comp) :
    RelC g (W ++ [(7, 4, [(2, ((o + 1 : Nat) : Int)), (2, ((o + 2 : Nat) : Int)), (2, ((o + 3 : Nat) : Int)), (2, ((o + 4 : Nat) : Int))]), (2, 30, []), (2, 30, []), (2, 30, []), (2, 30, [])]) H1 := by
  subst ho
  have hz : H.size = g.1 + W.length := h4.1
  have hk : ∀ (k : Nat) (x : Nat × va_E), (wsC g W)[k]? = some x → H1[x.1]? = H[x.1]? := fun k x hx => fo x.1 ((h4.2 k x hx).lt)
  have inn : ∀ j : Nat, j < 4 → ∀ a, a = H.size + 1 + j → va_at g.2.1 vwCl (a, toE g (2, 30, [])) H1 := fun j hj a ha => by
    show H1[a]? = some (vp_cell (g.2.2.1 1) (30, .inr (.inl (fun _ => Int64.ofInt 0))))
    rw [ha, fi j hj, hcB, vp_cell_l]
    refine congrArg some ?_
    exact arrV_new comp 30 (.long 0)
  have out : va_at g.2.1 vwCl (H.size, toE g (7, 4, [(2, ((W.length + 1 : Nat) : Int)), (2, ((W.length + 2 : Nat) : Int)), (2, ((W.length + 3 : Nat) : Int)), (2, ((W.length + 4 : Nat) : Int))])) H1 := by
    show H1[H.size]? = some (vp_cell (g.2.2.1 6) (4, .inr (.inr (.inr (.inr (fun i => toQ g ([(2, ((W.length + 1 : Nat) : Int)), (2, ((W.length + 2 : Nat) : Int)), (2, ((W.length + 3 : Nat) : Int)), (2, ((W.length + 4 : Nat) : Int))].getD i (3, 0))))))))
    rw [f2, hcA, vp_cell_q]
    refine congrArg some (mna_outer cA H.size _ (fun j hj => ?_))
    have hj2 : j = 0 ∨ j = 1 ∨ j = 2 ∨ j = 3 := by omega
    rw [hz]
    rcases hj2 with rfl | rfl | rfl | rfl
    · show Value.ref (g.1 + (W.length + 1)) = _; congr 1
    · show Value.ref (g.1 + (W.length + 2)) = _; congr 1
    · show Value.ref (g.1 + (W.length + 3)) = _; congr 1
    · show Value.ref (g.1 + (W.length + 4)) = _; congr 1
  refine ⟨by rw [f1, List.length_append, hz]; show _ = g.1 + (W.length + 5); omega, ?_⟩
  rw [show ∀ a b c d e : CE, W ++ [a, b, c, d, e] = W ++ [a] ++ [b] ++ [c] ++ [d] ++ [e] from fun a b c d e => by simp, wsC_push, wsC_push, wsC_push, wsC_push, wsC_push]
  refine (((((h4.2.kept hk).app (one_at _ ?_)).app (one_at _ ?_)).app (one_at _ ?_)).app (one_at _ ?_)).app (one_at _ ?_)
  · rw [← hz]; exact out
  · exact inn 0 (by decide) _ (by rw [hz, List.length_append]; simp only [List.length_cons, List.length_nil]; omega)
  · exact inn 1 (by decide) _ (by rw [hz, List.length_append, List.length_append]; simp only [List.length_cons, List.length_nil]; omega)
  · exact inn 2 (by decide) _ (by rw [hz, List.length_append, List.length_append, List.length_append]; simp only [List.length_cons, List.length_nil]; omega)
  · exact inn 3 (by decide) _ (by rw [hz, List.length_append, List.length_append, List.length_append, List.length_append]; simp only [List.length_cons, List.length_nil]; omega)
section SIMIS
variable {p : Program} {l : Launch} {e : Env} {R : Room} {s : State} {m : MethodId} {args : Array Value} {below : List Frame} {meth : Method} {c : Code}
variable {g : GC} {own : String} {cc : ByteArray} {nL kc ks pc : Nat} {Q : State → Prop} {W0 : List CE} {ls : List (Nat × SV)} {st : List SV} {T : List CE}
set_option maxHeartbeats 4000000 in
/-- new long[4][30] -/
theorem zi_mna (C : Bd g own cc nL p s m args meth c) (hK : KI s) {i o : Nat} {T' : List CE} (d : decode cc pc = .ok (.multianewarray i 2, 4)) (w1 : Cond.classLink own i "[[J" ∈ LW) (w2 : Cond.arrayClass .long ∈ LW) (ho : W0.length + T.length = o) (hT : T ++ [(7, 4, [(2, ((o + 1 : Nat) : Int)), (2, ((o + 2 : Nat) : Int)), (2, ((o + 3 : Nat) : Int)), (2, ((o + 4 : Nat) : Int))]), (2, 30, []), (2, 30, []), (2, 30, []), (2, 30, [])] = T') (hcc : kc + 5 ≤ R.cells) (hs : ks + 124 ≤ R.slots) (K : SimI p l e R s m args below meth c g nL Q W0 (kc + 5) (ks + 124) (pc+4) ls (sR o :: st) T') : SimI p l e R s m args below meth c g nL Q W0 kc ks pc ls (sI 30 :: sI 4 :: st) T := by
  intro H locs lsA lv vst h1 h2 h3 h4 h5 h6
  obtain ⟨_, vst1, rfl, ⟨i2, rfl, hi2⟩, k1_⟩ := srel_cons h3
  obtain ⟨_, vst2, rfl, ⟨i1, rfl, hi1⟩, k2_⟩ := srel_cons k1_
  have e2 : i2 = 30 := Int32.toInt_inj.mp (by rw [hi2]; rfl)
  have e1 : i1 = 4 := Int32.toInt_inj.mp (by rw [hi1]; rfl)
  subst e1; subst e2
  have hts := C.2.2.2.2.1
  intro Ts hTs X
  obtain ⟨vm₁, cA, comp, hW, hfA, hfC, hO, hI, X1, stp⟩ := X.multianewarray2F C.1 (own := own) (index := i) (ty := .long) C.2.2.2.1 (hts _ w1) hK.2.2.2 (hts _ w2) (g := F0 m pc lsA (.int 30 :: .int 4 :: vst2)) rfl (by rw [C.2.1]; exact d) (n := 4) (k := 30) (rest := vst2) rfl (by decide) (by decide) (by decide) (by decide) (by decide) rfl rfl hcc hs
  obtain ⟨f1, f2, -, -⟩ := Jvm.Free.Multi.fill_facts (Ts.setVm vm₁) cA comp 4 30 (defaultValue .long) 4
  have fo := fun (a : Addr) (ha : a < Ts.heap.size) => Jvm.Free.Multi.fill_old (Ts.setVm vm₁) cA comp 4 30 (defaultValue .long) (a := a) ha 4
  have fi := fun (j : Nat) (hj : j < 4) => Jvm.Free.Multi.fill_inner (Ts.setVm vm₁) cA comp 4 30 (defaultValue .long) 4 j hj
  have hcA : g.2.2.1 6 = cA := Option.some.inj (((C.2.2.2.2.2.1.1.2 6 _ rfl).2 : s.vm.findClass _ = _).symm.trans hfA)
  have hcB : g.2.2.1 1 = comp := Option.some.inj (((C.2.2.2.2.2.1.1.2 1 _ rfl).2 : s.vm.findClass _ = _).symm.trans hfC)
  have hsz : (Ts.setVm vm₁).heap.size = H.size := by rw [← hTs]; rfl
  have hsz2 : Ts.heap.size = H.size := by rw [← hTs]
  have hh : (Ts.setVm vm₁).heap = H := by rw [← hTs]; rfl
  rw [hsz] at f1 f2 fi
  rw [show (4 : Int32).toNatClampNeg = 4 from rfl, show (30 : Int32).toNatClampNeg = 30 from rfl] at X1 stp
  generalize Jvm.Free.Multi.fill (Ts.setVm vm₁) cA comp 4 30 (defaultValue .long) 4 = U1 at f1 f2 fo fi X1 stp
  have o1 : ∀ q, q < H.size → U1.heap[q]? = H[q]? := fun q hq => by rw [fo q (by rw [hsz2]; exact hq), hh]
  have hlo : (W0 ++ T).length = o := by rw [List.length_append]; exact ho
  have hRC0 := mna_rel h4 hlo (by rw [f1]) o1 f2 fi hcA hcB
  rw [List.append_assoc, hT] at hRC0
  have hl : (W0 ++ T').length = (W0 ++ T).length + 5 := by rw [← hT, List.length_append, List.length_append, List.length_append]; rfl
  have hS1 : va_S (fun q => g.1 ≤ q) s.heap U1.heap locs := ⟨Nat.le_trans h5.1 (by rw [f1]; omega), fun x a1 a2 => (o1 x (Nat.lt_of_lt_of_le a1 h5.1)).trans (h5.2.1 x a1 a2), h5.2.2⟩
  obtain ⟨t, a1, b1⟩ := K U1.heap locs lsA lv (.ref (g.1 + o) :: vst2) h1 h2 ⟨rfl, k2_⟩ hRC0 hS1 (by rw [hl]; omega) U1 rfl X1
  refine ⟨t, stp t ?_, b1⟩
  have hq : Ts.heap.size = g.1 + o := by rw [hsz2, h4.1, hlo]
  rw [hq]
  exact a1
theorem zi_alen (C : Bd g own cc nL p s m args meth c) {j o n : Nat} {x : Int} {lz : List (Nat × Int)} (d : decode cc pc = .ok (.arraylength, 1)) (hj : T[j]? = some (1, n, lz)) (ho : W0.length + j = o) (hx : (Int32.ofNat n).toInt = x) (K : SimI p l e R s m args below meth c g nL Q W0 kc ks (pc+1) ls (sI x :: st) T) : SimI p l e R s m args below meth c g nL Q W0 kc ks pc ls (sR o :: st) T := by
  intro H locs lsA lv vst h1 h2 h3 h4 h5 h6
  obtain ⟨_, vst1, rfl, rfl, k1_⟩ := srel_cons h3
  subst ho
  exact va_alen C.1 C.2.1 C.2.2.2.2.2.1.1 h4.2 (W0.length + j) 0 (zi_at hj) rfl rfl d (K H locs lsA lv _ h1 h2 ⟨⟨_, rfl, hx⟩, k1_⟩ h4 h5 h6)
theorem zi_aload (C : Bd g own cc nL p s m args meth c) {k : Fin 4} {i o : Nat} (d : decode cc pc = .ok (.aload_n k, 1)) (hi : (k : Nat) = i) (hl : ls.lookup i = some (sR o)) (K : SimI p l e R s m args below meth c g nL Q W0 kc ks (pc+1) ls (sR o :: st) T) : SimI p l e R s m args below meth c g nL Q W0 kc ks pc ls st T := by
  intro H locs lsA lv vst h1 h2 h3 h4 h5 h6
  obtain ⟨j, v, hj, hz⟩ := lrel_at h2 hl
  cases hz
  exact lv_aload_n C.1 C.2.1 d hi (lv_at h1 j hj) (K H locs lsA lv _ h1 h2 ⟨rfl, h3⟩ h4 h5 h6)
theorem vrel_toB {g : GC} {x : Int} (v : Value) (hv : vrel g (sI x) v) (hx : x = 0) : v = toV g (0, x) ∧ narrow .boolean v = v ∧ fits .boolean v = true := by
  obtain ⟨i, rfl, hi⟩ := hv
  subst hx
  have : i = 0 := Int32.toInt_inj.mp (by rw [hi]; rfl)
  subst this
  exact ⟨rfl, rfl, rfl⟩
end SIMIS
/-- what a new object's field holds -/
def dfl : FieldType → Nat × Int
  | .int => (0, 0)
  | .boolean => (0, 0)
  | .long => (1, 0)
  | _ => (3, 0)
def dok : FieldType → Bool
  | .int => true
  | .boolean => true
  | .long => true
  | .object _ => true
  | .array _ => true
  | _ => false
theorem dfl_of (g : GC) : ∀ ty, dok ty = true → defaultValue ty = toV g (dfl ty) := by
  intro ty h
  cases ty <;> first | rfl | (exact absurd h (by decide))
theorem dfl_ok {N : Nat} {ty0 : Nat → FieldType} {fs : List (Nat × Int)} (h : ∀ j, j < N → dok (ty0 j) = true ∧ fs[j]? = some (dfl (ty0 j))) : ∀ j, j < N → ∀ g : GC, defaultValue (ty0 j) = vp_V (fs.map (toV g)) j := by
  intro j hj g
  obtain ⟨h1, h2⟩ := h j hj
  unfold vp_V
  rw [List.getD_eq_getElem?_getD, List.getElem?_map, h2, dfl_of g _ h1]
  rfl

/-! ===== CORE 9: arrays of arrays; a fill ===== -/
section SIMIS
variable {p : Program} {l : Launch} {e : Env} {R : Room} {s : State} {m : MethodId} {args : Array Value} {below : List Frame} {meth : Method} {c : Code}
variable {g : GC} {own : String} {cc : ByteArray} {nL kc ks pc : Nat} {Q : State → Prop} {W0 : List CE} {ls : List (Nat × SV)} {st : List SV} {T : List CE}
set_option maxHeartbeats 8000000 in
/-- new long[4][30] -/
theorem zi_mna (C : Bd g own cc nL p s m args meth c) (hK : KI s) {i o : Nat} {T' : List CE} (d : decode cc pc = .ok (.multianewarray i 2, 4)) (w1 : Cond.classLink own i "[[J" ∈ LW) (w2 : Cond.arrayClass .long ∈ LW) (ho : W0.length + T.length = o) (hT : T ++ [(7, 4, [(2, ((o + 1 : Nat) : Int)), (2, ((o + 2 : Nat) : Int)), (2, ((o + 3 : Nat) : Int)), (2, ((o + 4 : Nat) : Int))]), (2, 30, []), (2, 30, []), (2, 30, []), (2, 30, [])] = T') (hcc : kc + 5 ≤ R.cells) (hs : ks + 124 ≤ R.slots) (K : SimI p l e R s m args below meth c g nL Q W0 (kc + 5) (ks + 124) (pc+4) ls (sR o :: st) T') : SimI p l e R s m args below meth c g nL Q W0 kc ks pc ls (sI 30 :: sI 4 :: st) T := by
  intro H locs lsA lv vst h1 h2 h3 h4 h5 h6
  obtain ⟨_, vst1, rfl, ⟨i2, rfl, hi2⟩, k1_⟩ := srel_cons h3
  obtain ⟨_, vst2, rfl, ⟨i1, rfl, hi1⟩, k2_⟩ := srel_cons k1_
  have e2 : i2 = 30 := Int32.toInt_inj.mp (by rw [hi2]; rfl)
  have e1 : i1 = 4 := Int32.toInt_inj.mp (by rw [hi1]; rfl)
  subst e1; subst e2
  have hts := C.2.2.2.2.1
  intro Ts hTs X
  obtain ⟨vm₁, cA, comp, hW, hfA, hfC, hO, hI, X1, stp⟩ := X.multianewarray2F C.1 (own := own) (index := i) (ty := .long) C.2.2.2.1 (hts _ w1) hK.2.2.2 (hts _ w2) (g := F0 m pc lsA (.int 30 :: .int 4 :: vst2)) rfl (by rw [C.2.1]; exact d) (n := 4) (k := 30) (rest := vst2) rfl (by decide) (by decide) (by decide) (by decide) (by decide) rfl rfl hcc hs
  obtain ⟨f1, f2, f3, f4⟩ := Jvm.Free.Multi.fill_facts (Ts.setVm vm₁) cA comp 4 30 (defaultValue .long) 4
  have fo := fun (a : Addr) (ha : a < Ts.heap.size) => Jvm.Free.Multi.fill_old (Ts.setVm vm₁) cA comp 4 30 (defaultValue .long) (a := a) ha 4
  have fi := fun (j : Nat) (hj : j < 4) => Jvm.Free.Multi.fill_inner (Ts.setVm vm₁) cA comp 4 30 (defaultValue .long) 4 j hj
  have hcA : g.2.2.1 6 = cA := Option.some.inj (((C.2.2.2.2.2.1.1.2 6 _ rfl).2 : s.vm.findClass _ = _).symm.trans hfA)
  have hcB : g.2.2.1 1 = comp := Option.some.inj (((C.2.2.2.2.2.1.1.2 1 _ rfl).2 : s.vm.findClass _ = _).symm.trans hfC)
  have hsz : (Ts.setVm vm₁).heap.size = H.size := by rw [← hTs]; rfl
  have hsz2 : Ts.heap.size = H.size := by rw [← hTs]
  rw [hsz] at f1 f2 fi
  generalize hH1 : (Jvm.Free.Multi.fill (Ts.setVm vm₁) cA comp 4 30 (defaultValue .long) 4) = U1 at *
  have hz : H.size = g.1 + (W0.length + T.length) := by rw [h4.1, List.length_append]
  have o1 : ∀ q, q < H.size → U1.heap[q]? = H[q]? := fun q hq => by rw [fo q (by rw [hsz2]; exact hq), ← hTs]; rfl
  have hk : ∀ (k : Nat) (x : Nat × va_E), (wsC g (W0 ++ T))[k]? = some x → U1.heap[x.1]? = H[x.1]? := fun k x hx => o1 x.1 ((h4.2 k x hx).lt)
  have one : ∀ (x0 : Nat × va_E), va_at g.2.1 vwCl x0 U1.heap → ∀ (k : Nat) (x : Nat × va_E), [x0][k]? = some x → va_at g.2.1 vwCl x U1.heap := fun x0 h0 k x hx => by
    have hz2 : k < 1 := (List.getElem?_eq_some_iff.mp hx).1
    rw [show k = 0 by omega] at hx
    cases hx
    exact h0
  have inn : ∀ j : Nat, j < 4 → ∀ a, a = H.size + 1 + j → va_at g.2.1 vwCl (a, toE g (2, 30, [])) U1.heap := fun j hj a ha => by
    show U1.heap[a]? = some (vp_cell (g.2.2.1 1) (30, .inr (.inl (fun _ => 0))))
    rw [ha, fi j hj, hcB]
    sorry
  have out : va_at g.2.1 vwCl (H.size, toE g (7, 4, [(2, ((o + 1 : Nat) : Int)), (2, ((o + 2 : Nat) : Int)), (2, ((o + 3 : Nat) : Int)), (2, ((o + 4 : Nat) : Int))])) U1.heap := by
    sorry
  have hl : (W0 ++ T').length = (W0 ++ T).length + 5 := by rw [← hT]; simp [Nat.add_assoc]
  have hP1 : va_P g.2.1 vwCl (wsC g (W0 ++ T')) U1.heap := by
    rw [← hT, show ∀ a b c d e : CE, W0 ++ (T ++ [a, b, c, d, e]) = W0 ++ T ++ [a] ++ [b] ++ [c] ++ [d] ++ [e] from fun a b c d e => by simp, wsC_push, wsC_push, wsC_push, wsC_push, wsC_push]
    refine (((((h4.2.kept hk).app (one _ ?_)).app (one _ ?_)).app (one _ ?_)).app (one _ ?_)).app (one _ ?_)
    · rw [List.length_append, ← hz]; exact out
    · exact inn 0 (by decide) _ (by simp [hz]; omega)
    · exact inn 1 (by decide) _ (by simp [hz]; omega)
    · exact inn 2 (by decide) _ (by simp [hz]; omega)
    · exact inn 3 (by decide) _ (by simp [hz]; omega)
  have hS1 : va_S (fun q => g.1 ≤ q) s.heap U1.heap locs := ⟨Nat.le_trans h5.1 (by rw [f1]; omega), fun x a1 a2 => (o1 x (Nat.lt_of_lt_of_le a1 h5.1)).trans (h5.2.1 x a1 a2), h5.2.2⟩
  have hRC : RelC g (W0 ++ T') U1.heap := ⟨by rw [f1, h4.1, hl]; omega, hP1⟩
  have h69 : s.heap.size + (kc + 5) = g.1 + (W0 ++ T').length := by rw [hl]; omega
  obtain ⟨t, a1, b1⟩ := K U1.heap locs lsA lv (.ref (g.1 + o) :: vst2) h1 h2 ⟨rfl, k2_⟩ hRC hS1 h69 U1 rfl X1
  refine ⟨t, stp t ?_, b1⟩
  have hq : Ts.heap.size = g.1 + o := by rw [hsz2, hz, ho]
  rw [hq]
  exact a1
end SIMIS

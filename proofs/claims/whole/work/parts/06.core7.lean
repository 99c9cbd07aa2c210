/-! ===== CORE 7: a method with handlers, which hands nothing on ===== -/
def bC {ρ : Type} (x : Option (Int × Int × Mem)) (h : Int → Mem → Option ρ) (f : Int → Mem → Option ρ) : Option ρ := x.bind (fun r => if r.1 = 0 then f r.2.1 r.2.2 else h r.1 r.2.2)
def ConX (l : Launch) (g : GC) (y : MethodName) (cc : ByteArray) (nL : Nat) (ret : Option FieldType) (hh : List (Nat × Nat × Nat × Nat)) (rm : Room) (svs : List SV) (F : Mem → Option (Int × Mem)) : Prop := ∀ mm r, F mm = some r → Met l y (Cond.codeWith y cc nL ret hh :: LW) rm (PcS g svs mm) (QcS g ret r.1 r.2) rm.cells rm.slots (fun q => g.1 ≤ q)
theorem exW_same : ∀ E ∈ exN, Cond.castable E E ∈ exW := by decide +kernel
theorem exP_of : ∀ E ∈ exN, ∀ nm ∈ exN, E ≠ nm → (E, nm) ∈ exP := by decide +kernel
theorem zs_ofX {l : Launch} {g : GC} {y : MethodName} {cc : ByteArray} {nL : Nat} {ret : Option FieldType} {hh : List (Nat × Nat × Nat × Nat)} {rm : Room} {svs : List SV} {F : Mem → Option (Int × Mem)} (hy : plainName y.cls = true) (hn : (svs.map scat).sum ≤ nL)
    (body : ∀ (p : Program) (e : Env) (s : State) (m : MethodId) (args : Array Value) (below : List Frame) (meth : Method) (c : Code), Bd g y.cls cc nL p s m args meth c → meth.sig.returnType = ret → c.exceptionTable.toList = tableOf hh → Sim p l e rm s m args below meth c g nL (QW g below args s ret rm) 0 0 0 (slv 0 svs) [] F) : ConX l g y cc nL ret hh rm svs F := by
  intro mm x hx
  refine MetFree.of_bodyS (code := cc) (maxLocals := nL) (ret := ret) hy ?_ ?_
  · intro args s m h hn
    obtain ⟨m9, meth, c, hn9, h1, h2, h3, h4, -, h5, h6, -⟩ := Cond.codeWith_spec (atoms_spec (ws := Cond.codeWith y cc nL ret hh :: LW) h _ List.mem_cons_self)
    cases hn.symm.trans hn9
    exact ⟨meth, c, h1, h2, h3, h4, h5, h6⟩
  · intro p e s m args below meth c s₁ B hml hP _
    have hh0 : s₁.heap = s.heap := by rw [B.state]; rfl
    have ht : c.exceptionTable.toList = tableOf hh := vx_table (x := y) B (atoms_spec (ws := Cond.codeWith y cc nL ret hh :: LW) B.pre _ List.mem_cons_self)
    obtain ⟨vs, rfl, h2, h3, h4, h5⟩ := hP
    have C : Bd g y.cls cc nL p s m vs.toArray meth c := ⟨B.exec, B.bytes, hml, findClass_of_methodNamed B.named, fun w h => atoms_spec (ws := Cond.codeWith y cc nL ret hh :: LW) B.pre w (List.mem_cons_of_mem _ h), h4, B.notSynchronized, h5⟩
    have hS : va_S (fun q => g.1 ≤ q) s.heap s.heap [] := va_S.rf
    have hl := lv_entry vs (n := nL) (by rw [zs_sl h2]; exact hn)
    have W0 := body p e s m vs.toArray below meth c C B.returns ht s.heap [] _ _ [] mm x hl (slv_rel 0 h2) trivial h3 hS hx
    rw [← lg_entry_eq] at W0
    obtain ⟨t, a1, o, b1, b2, b3⟩ := W0 s₁ hh0 (Stand.of_body B)
    exact ⟨t, o, a1, b1, b2, b3.1, b3.2⟩
/-- own's entry idx names y, a static method with handlers hh -/
def MX (own : String) (idx : Nat) (y : MethodName) (cc : ByteArray) (nL : Nat) (ret : Option FieldType) (hh : List (Nat × Nat × Nat × Nat)) (n : Nat) : Prop :=
  (Cond.methodLink own idx y ∈ LW ∧ Cond.static y ∈ LW ∧ Cond.initialized y.cls ∈ LW ∧ Cond.codeWith y cc nL ret hh ∈ LW) ∧ (y.cls ≠ "java/lang/invoke/MethodHandle" ∧ y.cls ≠ "java/lang/invoke/VarHandle" ∧ (parseMethodDescriptor y.desc).map (fun d => d.parameters.length) = some n)
section SIMS
variable {p : Program} {l : Launch} {e : Env} {R : Room} {s : State} {m : MethodId} {args : Array Value} {below : List Frame} {meth : Method} {c : Code}
variable {g : GC} {own : String} {cc : ByteArray} {nL kc ks pc : Nat} {ρ : Type} {Q : ρ → Mem → State → Prop} {ls : List (Nat × SV)} {st : List SV} {P : Mem → Option ρ}
/-- at a handler: it answers n -/
def HD (p : Program) (l : Launch) (e : Env) (R : Room) (s : State) (m : MethodId) (args : Array Value) (below : List Frame) (meth : Method) (c : Code) (g : GC) (nL : Nat) (rm : Room) (kc ks pc : Nat) (ls : List (Nat × SV)) (n : Int) : Prop :=
  ∀ (H : Heap) (locs : List Loc) (lsA : Array Slot) (lv : List (Nat × Value)) (q : Nat) (mm : Mem), lv_has lsA nL lv → lrel g ls lv → Rel g mm H → va_S (fun q => g.1 ≤ q) s.heap H locs →
    W p l e R s m args below meth c H locs kc ks (QW g below args s (some .int) rm (n, mm) mm) (F0 m pc lsA [.ref q])
theorem zs_hdl_n (C : Bd g own cc nL p s m args meth c) {rm : Room} {k : Fin 4} {i : Nat} {n : Int} (d0 : decode cc pc = .ok (.astore_n k, 1)) (hi : (k : Nat) = i) (hn : i < nL) (d1 : decode cc (pc+1) = .ok (.iconst n, 1)) (hx : (Int32.ofInt n).toInt = n) (d2 : decode cc (pc+2) = .ok (.ireturn, 1)) (hr : meth.sig.returnType = some .int) (hk : kc ≤ rm.cells ∧ ks ≤ rm.slots) : HD p l e R s m args below meth c g nL rm kc ks pc ls n := by
  intro H locs lsA lv q mm h1 h2 h4 h5
  refine lv_astore_n C.1 C.2.1 d0 hi h1 hn rfl (fun lsA' h1' => ?_)
  refine lv_iconst C.1 C.2.1 d1 rfl ?_
  refine W.widen hk.1 hk.2 ?_
  exact W.iret C.1 C.2.1 hr (fun t ht hW => ⟨⟨_, rfl, hx⟩, by rw [ht]; exact h4, h5.F ht⟩) h5.2.2 d2 C.2.2.2.2.2.2.1
theorem zs_hdl (C : Bd g own cc nL p s m args meth c) {rm : Room} {i : Nat} {n : Int} (d0 : decode cc pc = .ok (.astore i, 2)) (hn : i < nL) (d1 : decode cc (pc+2) = .ok (.iconst n, 1)) (hx : (Int32.ofInt n).toInt = n) (d2 : decode cc (pc+3) = .ok (.ireturn, 1)) (hr : meth.sig.returnType = some .int) (hk : kc ≤ rm.cells ∧ ks ≤ rm.slots) : HD p l e R s m args below meth c g nL rm kc ks pc ls n := by
  intro H locs lsA lv q mm h1 h2 h4 h5
  refine lv_astore C.1 C.2.1 d0 h1 hn rfl (fun lsA' h1' => ?_)
  refine lv_iconst C.1 C.2.1 d1 rfl ?_
  refine W.widen hk.1 hk.2 ?_
  exact W.iret C.1 C.2.1 hr (fun t ht hW => ⟨⟨_, rfl, hx⟩, by rw [ht]; exact h4, h5.F ht⟩) h5.2.2 d2 C.2.2.2.2.2.2.1
/-- what becomes of the exception number k + 1, named E: nothing is promised, or a row takes it -/
def Ca (p : Program) (l : Launch) (e : Env) (R : Room) (s : State) (m : MethodId) (args : Array Value) (below : List Frame) (meth : Method) (c : Code) (g : GC) (nL : Nat) (rm : Room) (own : String) (hh : List (Nat × Nat × Nat × Nat)) (kc ks pc : Nat) (ls : List (Nat × SV)) (X : Int → Mem → Option (Int × Mem)) (k : Int) (E : String) : Prop :=
  (∀ mm, X k mm = none) ∨ ∃ (pre : List ExceptionTableEntry) (x : ExceptionTableEntry) (suf : List ExceptionTableEntry) (n : Int), tableOf hh = pre ++ x :: suf ∧
    (∀ z ∈ pre, z.catchType ≠ 0 ∧ ∃ nm : String, Cond.classLink own z.catchType nm ∈ LW ∧ E ≠ nm ∧ nm ∈ exN) ∧ covers x pc = true ∧ x.catchType ≠ 0 ∧ Cond.classLink own x.catchType E ∈ LW ∧ (∀ mm, X k mm = some (n, mm)) ∧ HD p l e R s m args below meth c g nL rm kc ks x.handlerPc ls n
theorem zs_tryi (C : Bd g own cc nL p s m args meth c) {idx nL2 n : Nat} {y : MethodName} {bytes : ByteArray} {ret2 : Option FieldType} {hh : List (Nat × Nat × Nat × Nat)} {rm rm2 : Room} {As st0 : List SV} {F : Mem → Option (Int × Int × Mem)} {P X : Int → Mem → Option (Int × Mem)} {ci o : Nat} {Cn : String} {T : u_T} {N : Nat} (hT : c.exceptionTable.toList = tableOf hh) (hret : iret ret2 = true) (hM : ConT l g y bytes nL2 ret2 rm2 (sR o :: As) F) (ml : ML own idx Cn y bytes nL2 ret2 n) (ho : layL[o]? = some (.inl ci)) (hcl : vwCl[ci]? = some (Cn, T, N)) (hst : st0 = As.reverse ++ sR o :: st) (hn : As.length = n) (hcat : (st.map scat).sum ≤ 8) (hRm : rm2.frames + 1 ≤ R.frames ∧ 8 + (nL2 + 11) + rm2.locals ≤ R.locals) (hc : kc + rm2.cells ≤ R.cells ∧ ks + rm2.slots ≤ R.slots) (d : decode cc pc = .ok (.invokevirtual idx, 3))
    (KX : Ca p l e R s m args below meth c g nL rm own hh (kc + rm2.cells) (ks + rm2.slots) pc ls X 1 "java/lang/IllegalArgumentException" ∧ Ca p l e R s m args below meth c g nL rm own hh (kc + rm2.cells) (ks + rm2.slots) pc ls X 2 "java/lang/IllegalStateException" ∧ Ca p l e R s m args below meth c g nL rm own hh (kc + rm2.cells) (ks + rm2.slots) pc ls X 3 "java/util/NoSuchElementException" ∧ Ca p l e R s m args below meth c g nL rm own hh (kc + rm2.cells) (ks + rm2.slots) pc ls X 4 "java/lang/IndexOutOfBoundsException") (K : ∀ x, Sim p l e R s m args below meth c g nL (QW g below args s (some .int) rm) (kc + rm2.cells) (ks + rm2.slots) (pc+3) ls (sI x :: st) (P x)) : Sim p l e R s m args below meth c g nL (QW g below args s (some .int) rm) kc ks pc ls st0 (fun mm => bC (F mm) X P) := by
  intro H locs lsA lv vst mm r h1 h2 h3 h4 h5 h6
  subst hst
  obtain ⟨va, vst, rfl, ha, hb⟩ := srel_app h3
  obtain ⟨_, vst, rfl, rfl, hc2⟩ := srel_cons hb
  obtain ⟨x, hx, hy⟩ := Option.bind_eq_some_iff.mp h6
  have has : srel g As va.reverse := by
    have q := srel_rev ha
    rwa [List.reverse_reverse] at q
  have run := vx_runV (e := e) (below := below) (meth := meth) (locs := locs) (As := va.reverse) (rest := vst) (g := F0 m pc lsA _) ⟨C.1, C.2.1, C.2.2.1, C.2.2.2.1, C.2.2.2.2.1⟩ (hM mm x hx) (zs_cb C ml hRm) ⟨PcS_blind, zs_recv C h4 ho hcl, zs_pre C h4 h5 (svs := sR o :: As) (vs := .ref (g.1 + o) :: va.reverse) ⟨rfl, has⟩⟩ rfl ((srel_len has).trans hn) h1.1 (by rw [List.reverse_reverse]) (lv_room (by rw [srel_cat hc2]; exact hcat)) d hc
  have hts := C.2.2.2.2.1
  have hw : ∀ w ∈ exW, w.before args s = true := fun w q => va_Nw.use (exW_ok w q).2 (C.2.2.2.2.2.1.2.2.2.2.2.2.2.2.1 w q)
  have got : ∀ (E : String) (ce : Cell) (q : Addr) (H1 : Heap) (locs1 : List Loc), E ∈ exN → Ca p l e R s m args below meth c g nL rm own hh (kc + rm2.cells) (ks + rm2.slots) pc ls X x.1 E → X x.1 x.2.2 = some r → Rel g x.2.2 H1 → va_S (fun q => g.1 ≤ q) s.heap H1 locs1 → H1[q]? = some ce → ce.vm = .none → s.vm.findClass E = some ce.cls →
      vx_W p l e R s m args below meth c H1 locs1 (kc + rm2.cells) (ks + rm2.slots) (QW g below args s (some .int) rm r mm) (F0 m pc lsA vst) q := by
    intro E ce q H1 locs1 hE hCa hX hR1 hS1 hce hcv hcl2
    rcases hCa with h0 | ⟨pre, z, suf, n, a1, a2, a3, a4, a5, a6, a7⟩
    · rw [h0] at hX; cases hX
    · rw [a6] at hX
      cases hX
      exact vx_catch C.2.2.2.1 pre z suf (hT.trans a1) (fun w hwm => Or.inr ⟨(a2 w hwm).1, (a2 w hwm).2.choose, hts _ (a2 w hwm).2.choose_spec.1, C.2.2.2.2.2.1.2.2.2.2.2.2.2.2.2 _ (exP_of E hE _ (a2 w hwm).2.choose_spec.2.2 (a2 w hwm).2.choose_spec.2.1)⟩) a3 a4 (hts _ a5) (hw _ (exW_same E hE)) hce hcv hcl2 (a7 H1 locs1 lsA lv q x.2.2 h1 h2 hR1 hS1)
  refine zs_afterT run h5 (fun v H1 locs1 h0 hv hR1 hS1 => ?_) (fun E ce q H1 locs1 h0 hE1 hR1 hS1 hce hcv hcl2 => ?_)
  · obtain ⟨i, hv1, hi⟩ := zs_rint hret hv
    cases hv1
    rw [if_pos h0] at hy
    exact K x.2.1 H1 locs1 lsA lv _ x.2.2 r h1 h2 ⟨⟨i, rfl, hi⟩, hc2⟩ hR1 hS1 hy
  · rw [if_neg (by omega)] at hy
    have hE2 := List.mem_of_getElem? hE1
    have hk4 : x.1.toNat - 1 < 4 := (List.getElem?_eq_some_iff.mp hE1).1
    have hx1 : x.1 = 1 ∨ x.1 = 2 ∨ x.1 = 3 ∨ x.1 = 4 := by omega
    obtain ⟨KX1, KX2, KX3, KX4⟩ := KX
    refine got E ce q H1 locs1 hE2 ?_ hy hR1 hS1 hce hcv hcl2
    rcases hx1 with hx1 | hx1 | hx1 | hx1 <;> rw [hx1] at hE1 ⊢ <;> cases hE1 <;> assumption
theorem zs_tryl (C : Bd g own cc nL p s m args meth c) {idx nL2 n : Nat} {y : MethodName} {bytes : ByteArray} {hh : List (Nat × Nat × Nat × Nat)} {rm rm2 : Room} {As st0 : List SV} {F : Mem → Option (Int × Int × Mem)} {P X : Int → Mem → Option (Int × Mem)} {ci o : Nat} {Cn : String} {T : u_T} {N : Nat} (hT : c.exceptionTable.toList = tableOf hh) (hM : ConT l g y bytes nL2 (some .long) rm2 (sR o :: As) F) (ml : ML own idx Cn y bytes nL2 (some .long) n) (ho : layL[o]? = some (.inl ci)) (hcl : vwCl[ci]? = some (Cn, T, N)) (hst : st0 = As.reverse ++ sR o :: st) (hn : As.length = n) (hcat : (st.map scat).sum ≤ 8) (hRm : rm2.frames + 1 ≤ R.frames ∧ 8 + (nL2 + 11) + rm2.locals ≤ R.locals) (hc : kc + rm2.cells ≤ R.cells ∧ ks + rm2.slots ≤ R.slots) (d : decode cc pc = .ok (.invokevirtual idx, 3))
    (KX : Ca p l e R s m args below meth c g nL rm own hh (kc + rm2.cells) (ks + rm2.slots) pc ls X 1 "java/lang/IllegalArgumentException" ∧ Ca p l e R s m args below meth c g nL rm own hh (kc + rm2.cells) (ks + rm2.slots) pc ls X 2 "java/lang/IllegalStateException" ∧ Ca p l e R s m args below meth c g nL rm own hh (kc + rm2.cells) (ks + rm2.slots) pc ls X 3 "java/util/NoSuchElementException" ∧ Ca p l e R s m args below meth c g nL rm own hh (kc + rm2.cells) (ks + rm2.slots) pc ls X 4 "java/lang/IndexOutOfBoundsException") (K : ∀ x, Sim p l e R s m args below meth c g nL (QW g below args s (some .int) rm) (kc + rm2.cells) (ks + rm2.slots) (pc+3) ls (sL x :: st) (P x)) : Sim p l e R s m args below meth c g nL (QW g below args s (some .int) rm) kc ks pc ls st0 (fun mm => bC (F mm) X P) := by
  intro H locs lsA lv vst mm r h1 h2 h3 h4 h5 h6
  subst hst
  obtain ⟨va, vst, rfl, ha, hb⟩ := srel_app h3
  obtain ⟨_, vst, rfl, rfl, hc2⟩ := srel_cons hb
  obtain ⟨x, hx, hy⟩ := Option.bind_eq_some_iff.mp h6
  have has : srel g As va.reverse := by
    have q := srel_rev ha
    rwa [List.reverse_reverse] at q
  have run := vx_runV (e := e) (below := below) (meth := meth) (locs := locs) (As := va.reverse) (rest := vst) (g := F0 m pc lsA _) ⟨C.1, C.2.1, C.2.2.1, C.2.2.2.1, C.2.2.2.2.1⟩ (hM mm x hx) (zs_cb C ml hRm) ⟨PcS_blind, zs_recv C h4 ho hcl, zs_pre C h4 h5 (svs := sR o :: As) (vs := .ref (g.1 + o) :: va.reverse) ⟨rfl, has⟩⟩ rfl ((srel_len has).trans hn) h1.1 (by rw [List.reverse_reverse]) (lv_room (by rw [srel_cat hc2]; exact hcat)) d hc
  have hts := C.2.2.2.2.1
  have hw : ∀ w ∈ exW, w.before args s = true := fun w q => va_Nw.use (exW_ok w q).2 (C.2.2.2.2.2.1.2.2.2.2.2.2.2.2.1 w q)
  have got : ∀ (E : String) (ce : Cell) (q : Addr) (H1 : Heap) (locs1 : List Loc), E ∈ exN → Ca p l e R s m args below meth c g nL rm own hh (kc + rm2.cells) (ks + rm2.slots) pc ls X x.1 E → X x.1 x.2.2 = some r → Rel g x.2.2 H1 → va_S (fun q => g.1 ≤ q) s.heap H1 locs1 → H1[q]? = some ce → ce.vm = .none → s.vm.findClass E = some ce.cls →
      vx_W p l e R s m args below meth c H1 locs1 (kc + rm2.cells) (ks + rm2.slots) (QW g below args s (some .int) rm r mm) (F0 m pc lsA vst) q := by
    intro E ce q H1 locs1 hE hCa hX hR1 hS1 hce hcv hcl2
    rcases hCa with h0 | ⟨pre, z, suf, n, a1, a2, a3, a4, a5, a6, a7⟩
    · rw [h0] at hX; cases hX
    · rw [a6] at hX
      cases hX
      exact vx_catch C.2.2.2.1 pre z suf (hT.trans a1) (fun w hwm => Or.inr ⟨(a2 w hwm).1, (a2 w hwm).2.choose, hts _ (a2 w hwm).2.choose_spec.1, C.2.2.2.2.2.1.2.2.2.2.2.2.2.2.2 _ (exP_of E hE _ (a2 w hwm).2.choose_spec.2.2 (a2 w hwm).2.choose_spec.2.1)⟩) a3 a4 (hts _ a5) (hw _ (exW_same E hE)) hce hcv hcl2 (a7 H1 locs1 lsA lv q x.2.2 h1 h2 hR1 hS1)
  refine zs_afterT run h5 (fun v H1 locs1 h0 hv hR1 hS1 => ?_) (fun E ce q H1 locs1 h0 hE1 hR1 hS1 hce hcv hcl2 => ?_)
  · obtain ⟨i, hv1, hi⟩ := hv
    cases hv1
    rw [if_pos h0] at hy
    exact K x.2.1 H1 locs1 lsA lv _ x.2.2 r h1 h2 ⟨⟨i, rfl, hi⟩, hc2⟩ hR1 hS1 hy
  · rw [if_neg (by omega)] at hy
    have hE2 := List.mem_of_getElem? hE1
    have hk4 : x.1.toNat - 1 < 4 := (List.getElem?_eq_some_iff.mp hE1).1
    have hx1 : x.1 = 1 ∨ x.1 = 2 ∨ x.1 = 3 ∨ x.1 = 4 := by omega
    obtain ⟨KX1, KX2, KX3, KX4⟩ := KX
    refine got E ce q H1 locs1 hE2 ?_ hy hR1 hS1 hce hcv hcl2
    rcases hx1 with hx1 | hx1 | hx1 | hx1 <;> rw [hx1] at hE1 ⊢ <;> cases hE1 <;> assumption
theorem zs_tryv (C : Bd g own cc nL p s m args meth c) {idx nL2 n : Nat} {y : MethodName} {bytes : ByteArray} {hh : List (Nat × Nat × Nat × Nat)} {rm rm2 : Room} {As st0 : List SV} {F : Mem → Option (Int × Int × Mem)} {P X : Int → Mem → Option (Int × Mem)} {ci o : Nat} {Cn : String} {T : u_T} {N : Nat} (hT : c.exceptionTable.toList = tableOf hh) (hM : ConT l g y bytes nL2 none rm2 (sR o :: As) F) (ml : ML own idx Cn y bytes nL2 none n) (ho : layL[o]? = some (.inl ci)) (hcl : vwCl[ci]? = some (Cn, T, N)) (hst : st0 = As.reverse ++ sR o :: st) (hn : As.length = n) (hcat : (st.map scat).sum ≤ 8) (hRm : rm2.frames + 1 ≤ R.frames ∧ 8 + (nL2 + 11) + rm2.locals ≤ R.locals) (hc : kc + rm2.cells ≤ R.cells ∧ ks + rm2.slots ≤ R.slots) (d : decode cc pc = .ok (.invokevirtual idx, 3))
    (KX : Ca p l e R s m args below meth c g nL rm own hh (kc + rm2.cells) (ks + rm2.slots) pc ls X 1 "java/lang/IllegalArgumentException" ∧ Ca p l e R s m args below meth c g nL rm own hh (kc + rm2.cells) (ks + rm2.slots) pc ls X 2 "java/lang/IllegalStateException" ∧ Ca p l e R s m args below meth c g nL rm own hh (kc + rm2.cells) (ks + rm2.slots) pc ls X 3 "java/util/NoSuchElementException" ∧ Ca p l e R s m args below meth c g nL rm own hh (kc + rm2.cells) (ks + rm2.slots) pc ls X 4 "java/lang/IndexOutOfBoundsException") (K : ∀ x, Sim p l e R s m args below meth c g nL (QW g below args s (some .int) rm) (kc + rm2.cells) (ks + rm2.slots) (pc+3) ls (st) (P x)) : Sim p l e R s m args below meth c g nL (QW g below args s (some .int) rm) kc ks pc ls st0 (fun mm => bC (F mm) X P) := by
  intro H locs lsA lv vst mm r h1 h2 h3 h4 h5 h6
  subst hst
  obtain ⟨va, vst, rfl, ha, hb⟩ := srel_app h3
  obtain ⟨_, vst, rfl, rfl, hc2⟩ := srel_cons hb
  obtain ⟨x, hx, hy⟩ := Option.bind_eq_some_iff.mp h6
  have has : srel g As va.reverse := by
    have q := srel_rev ha
    rwa [List.reverse_reverse] at q
  have run := vx_runV (e := e) (below := below) (meth := meth) (locs := locs) (As := va.reverse) (rest := vst) (g := F0 m pc lsA _) ⟨C.1, C.2.1, C.2.2.1, C.2.2.2.1, C.2.2.2.2.1⟩ (hM mm x hx) (zs_cb C ml hRm) ⟨PcS_blind, zs_recv C h4 ho hcl, zs_pre C h4 h5 (svs := sR o :: As) (vs := .ref (g.1 + o) :: va.reverse) ⟨rfl, has⟩⟩ rfl ((srel_len has).trans hn) h1.1 (by rw [List.reverse_reverse]) (lv_room (by rw [srel_cat hc2]; exact hcat)) d hc
  have hts := C.2.2.2.2.1
  have hw : ∀ w ∈ exW, w.before args s = true := fun w q => va_Nw.use (exW_ok w q).2 (C.2.2.2.2.2.1.2.2.2.2.2.2.2.2.1 w q)
  have got : ∀ (E : String) (ce : Cell) (q : Addr) (H1 : Heap) (locs1 : List Loc), E ∈ exN → Ca p l e R s m args below meth c g nL rm own hh (kc + rm2.cells) (ks + rm2.slots) pc ls X x.1 E → X x.1 x.2.2 = some r → Rel g x.2.2 H1 → va_S (fun q => g.1 ≤ q) s.heap H1 locs1 → H1[q]? = some ce → ce.vm = .none → s.vm.findClass E = some ce.cls →
      vx_W p l e R s m args below meth c H1 locs1 (kc + rm2.cells) (ks + rm2.slots) (QW g below args s (some .int) rm r mm) (F0 m pc lsA vst) q := by
    intro E ce q H1 locs1 hE hCa hX hR1 hS1 hce hcv hcl2
    rcases hCa with h0 | ⟨pre, z, suf, n, a1, a2, a3, a4, a5, a6, a7⟩
    · rw [h0] at hX; cases hX
    · rw [a6] at hX
      cases hX
      exact vx_catch C.2.2.2.1 pre z suf (hT.trans a1) (fun w hwm => Or.inr ⟨(a2 w hwm).1, (a2 w hwm).2.choose, hts _ (a2 w hwm).2.choose_spec.1, C.2.2.2.2.2.1.2.2.2.2.2.2.2.2.2 _ (exP_of E hE _ (a2 w hwm).2.choose_spec.2.2 (a2 w hwm).2.choose_spec.2.1)⟩) a3 a4 (hts _ a5) (hw _ (exW_same E hE)) hce hcv hcl2 (a7 H1 locs1 lsA lv q x.2.2 h1 h2 hR1 hS1)
  refine zs_afterT run h5 (fun v H1 locs1 h0 hv hR1 hS1 => ?_) (fun E ce q H1 locs1 h0 hE1 hR1 hS1 hce hcv hcl2 => ?_)
  · cases hv
    rw [if_pos h0] at hy
    exact K x.2.1 H1 locs1 lsA lv _ x.2.2 r h1 h2 hc2 hR1 hS1 hy
  · rw [if_neg (by omega)] at hy
    have hE2 := List.mem_of_getElem? hE1
    have hk4 : x.1.toNat - 1 < 4 := (List.getElem?_eq_some_iff.mp hE1).1
    have hx1 : x.1 = 1 ∨ x.1 = 2 ∨ x.1 = 3 ∨ x.1 = 4 := by omega
    obtain ⟨KX1, KX2, KX3, KX4⟩ := KX
    refine got E ce q H1 locs1 hE2 ?_ hy hR1 hS1 hce hcv hcl2
    rcases hx1 with hx1 | hx1 | hx1 | hx1 <;> rw [hx1] at hE1 ⊢ <;> cases hE1 <;> assumption
end SIMS

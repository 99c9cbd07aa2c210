/-! ===== CORE 5: an exception whose class hands its text on by another entry than its superclasses ===== -/
def zx_words (own : String) (ic : Nat) (X : String) (ix : Nat) (rx : ByteArray) (Y : String) (names : List String) : List Cond :=
  (Bundle.throwableAtoms ++ Bundle.throwableSAtoms) ++ ((Bundle.passSAtoms X Y ix rx ++ Bundle.chainSAtoms Y names) ++
  [.methodLink own ic (Bundle.initS X), .instantiable X 6, .selects X Bundle.tFill0 Bundle.tFill0, .selects X Bundle.tFill Bundle.tFill,
   .lays X Bundle.tN "cause" "Ljava/lang/Throwable;", .lays X Bundle.tN "stackTrace" Bundle.steD, .lays X Bundle.tN "suppressedExceptions" Bundle.listD, .lays X Bundle.tN "detailMessage" "Ljava/lang/String;",
   .isRef (.static Bundle.tN "UNASSIGNED_STACK" Bundle.steD), .isRef (.static Bundle.tN "SUPPRESSED_SENTINEL" Bundle.listD),
   .fieldLink Bundle.tN 198 Bundle.tN "backtrace" "Ljava/lang/Object;", .lays Bundle.tN Bundle.tN "backtrace" "Ljava/lang/Object;", .lays X Bundle.tN "backtrace" "Ljava/lang/Object;"])
section ZX
variable {p : Program} {l : Launch} {e : Env} {R : Room} {s : State} {m₀ : MethodId} {args : Array Value} {below : List Frame} {meth : Method} {c : Code} {V : State} {locs : List Loc} {cells slots : Nat}
set_option maxHeartbeats 4000000 in
/-- the constructor's call and the throw behind it, of a fresh object of class X -/
theorem zx_ctor (X : Stand p l e R s m₀ args below meth c V locs cells slots) (hexec : p.tables.exec = Jvm.exec) (htr : e.platform.stackTraces = false) {own cls Y1 : String} {names : List String} {ic ix : Nat} {rx : ByteArray}
    (hown : s.vm.findClass own = some m₀.cls) (hcls : Bundle.fit cls = true) (hY1 : Bundle.fit Y1 = true) (hnames : ∀ n ∈ names, Bundle.fit n = true)
    (r0 : decode rx 0 = .ok (.aload_n 0, 1)) (r1 : decode rx 1 = .ok (.aload_n 1, 1)) (r2 : decode rx 2 = .ok (.invokespecial ix, 3)) (r5 : decode rx 5 = .ok (.return_, 1))
    (h : ∀ w ∈ zx_words own ic cls ix rx Y1 names, w.before args s = true)
    (hlocs : ∀ x ∈ locs, ∀ cell, s.heap[x.base]? = some cell → cell.vm.isStatics = false)
    {a : Addr} {cX : ClassId} {kX : Class} (hfoundX : s.vm.findClass cls = some cX) (hkX : s.vm.classes[cX]? = some kX) (hcell : V.heap[a]? = some (freshCell cX kX)) (hnew : s.heap.size ≤ a)
    {msg : Value} (hmsg : msg.isRef = true)
    {g : JFrame} (hg : g.method = m₀) (hsize : g.locals.size = c.maxLocals) (hlocked : g.locked = none) (hentered : g.entered = []) {rest : List Value} (hstack : g.stack = msg :: .ref a :: .ref a :: rest)
    (hd6 : decode c.code g.pc = .ok (.invokespecial ic, 3)) (hd9 : decode c.code (g.pc + 3) = .ok (.athrow, 1)) (hout : ∀ x ∈ c.exceptionTable.toList, covers x (g.pc + 3) = false)
    (hRframes : names.length + 4 < R.frames) (hRlocals : 2 * g.monitorRoom + ((Value.ref a :: rest).map fun v => v.category).sum + (13 * (names.length + 2) + 42) ≤ R.locals) (hlocks : meth.locks = false) :
    ∃ U : State, Steps p.tables e below (V.setTop g) U ∧ U.status = .running ∧ Ended U below (.threw a) ∧ s.WarmedH U.vm ∧ s.sameButNew ({ U with vm := s.vm } : State) locs cells slots ∧
      ∃ ce, U.heap[a]? = some ce ∧ ce.vm = .none ∧ ce.cls = cX := by
  have hm : ∀ {w : Cond}, w ∈ zx_words own ic cls ix rx Y1 names → w.holds args s none s [] = true := fun {w} hw => h w hw
  have hpl : e.platform.magicAccessors = ({} : Platform).magicAccessors := by rw [X.admits.platform]
  obtain ⟨T, Z0, L, -, Y⟩ := ThrowableC.of_atoms (args := args) (by rw [X.admits.platform]) (by rw [X.admits.platform]) hpl (fun w hw => h w (List.mem_append_left _ (List.mem_append_left _ hw)))
  obtain ⟨Z, M, LZ, LM, hnZ⟩ := Init0T.ofS_atoms (args := args) hpl L Y (fun w hw => h w (List.mem_append_left _ (List.mem_append_right _ hw)))
  obtain ⟨P2, Ps, hlen, L2, hL, hP2m, hlink2, hlink⟩ := Bundle.chainS (args := args) hpl hnZ names Y1 hY1 hnames (fun w hw => h w (List.mem_append_right _ (List.mem_append_left _ (List.mem_append_right _ hw))))
  obtain ⟨P1, L1, hP1m, hP1s⟩ := PassC.ofS_atoms (args := args) (s := s) hpl (X := cls) (Y := Y1) (Bundle.fit_spec hcls).1 (Bundle.fit_spec hY1).2 r0 r1 r2 r5 (fun w hw => h w (List.mem_append_right _ (List.mem_append_left _ (List.mem_append_left _ hw))))
  have hfound : s.vm.findClass cls = some P1.m.cls := findClass_of_methodNamed hP1m
  cases Option.some.inj (hfoundX.symm.trans hfound)
  obtain ⟨c1, kX', hc1, hk, hord, -, -, hn6⟩ := Cond.instantiable_spec (hm (w := .instantiable cls 6) (by simp [zx_words]))
  cases Option.some.inj (hc1.symm.trans hfound)
  cases Option.some.inj (hkX.symm.trans hk)
  have hsel0 : selectMethod e.platform s.vm P1.m.cls T.fill0 = .method T.fill0 := by
    obtain ⟨c2, q2m, m2, q1, q2, q3, q4, -⟩ := Cond.selects_spec (hm (w := .selects cls Bundle.tFill0 Bundle.tFill0) (by simp [zx_words]))
    cases Option.some.inj (q1.symm.trans hfound)
    cases Option.some.inj (q2.symm.trans (State.methodFound?_of_named Y.fill0 (by decide)))
    cases Option.some.inj (q3.symm.trans Y.fill0)
    rw [Launch.admits_selectMethod X.admits]; exact q4
  have hselF : selectMethod e.platform s.vm P1.m.cls T.fill = .method T.fill := by
    obtain ⟨c2, q2m, m2, q1, q2, q3, q4, -⟩ := Cond.selects_spec (hm (w := .selects cls Bundle.tFill Bundle.tFill) (by simp [zx_words]))
    cases Option.some.inj (q1.symm.trans hfound)
    cases Option.some.inj (q2.symm.trans (State.methodFound?_of_named Y.fill (by decide)))
    cases Option.some.inj (q3.symm.trans Y.fill)
    rw [Launch.admits_selectMethod X.admits]; exact q4
  obtain ⟨cS0, hcS0, hiss⟩ := Y.statics
  obtain ⟨u0, hu0⟩ := Cond.staticRefV Y.unassigned L.unassignedStatic L.statics hcS0 hiss (hm (w := .isRef (.static Bundle.tN "UNASSIGNED_STACK" Bundle.steD)) (by simp [zx_words]))
  obtain ⟨sen, hsen⟩ := Cond.staticRefV Y.sentinel L.sentinelStatic L.statics hcS0 hiss (hm (w := .isRef (.static Bundle.tN "SUPPRESSED_SENTINEL" Bundle.listD)) (by simp [zx_words]))
  obtain ⟨ci8, i8, fB, hk8, hg8, ha8, hsB, -, hnB, htB, hffB⟩ := Cond.ownField (t := .object "java/lang/Object") Y.found L.cls (by decide +kernel) (hm (w := .fieldLink Bundle.tN 198 Bundle.tN "backtrace" "Ljava/lang/Object;") (by simp [zx_words])) (hm (w := .lays Bundle.tN Bundle.tN "backtrace" "Ljava/lang/Object;") (by simp [zx_words])) e.platform hpl
  obtain ⟨cS, hcS', heS, -, hkeep⟩ := X.same.2.2.2.2.2 T.aS cS0 hcS0
  have hcS : V.heap[T.aS]? = some cS := hcS'
  have hnot : ∀ i, (⟨T.aS, i⟩ : Loc) ∉ locs := fun i hmem => by
    have q := hlocs _ hmem cS0 hcS0
    rw [hiss] at q; cases q
  have hknown : cS.vm ≠ .unknown := by
    rw [heS]; intro hu
    rw [show cS0.vm = .unknown from hu] at hiss
    cases hiss
  have hneS : T.aS ≠ a := Nat.ne_of_lt (Nat.lt_of_lt_of_le (Array.getElem?_eq_some_iff.mp hcS0).1 hnew)
  obtain ⟨iM, hffM⟩ := Y.msg
  obtain ⟨tyC, dC, hdC, hdnC⟩ := Cond.laysAt hfound hk Y.cause (hm (w := .lays cls Bundle.tN "cause" "Ljava/lang/Throwable;") (by simp [zx_words]))
  obtain ⟨tyS, dS, hdS, hdnS⟩ := Cond.laysAt hfound hk Y.stack (hm (w := .lays cls Bundle.tN "stackTrace" Bundle.steD) (by simp [zx_words]))
  obtain ⟨tyP, dP, hdP, hdnP⟩ := Cond.laysAt hfound hk Y.supp (hm (w := .lays cls Bundle.tN "suppressedExceptions" Bundle.listD) (by simp [zx_words]))
  obtain ⟨tyM, dM, hdM, hdnM⟩ := Cond.laysAt hfound hk hffM (hm (w := .lays cls Bundle.tN "detailMessage" "Ljava/lang/String;") (by simp [zx_words]))
  obtain ⟨tyB, dB, hdB, hdnB⟩ := Cond.laysAt hfound hk hffB (hm (w := .lays cls Bundle.tN "backtrace" "Ljava/lang/Object;") (by simp [zx_words]))
  have bC := Cond.laysApart hdB hdC hdnB hdnC (by rw [hnB, Y.causeName]; decide)
  have bS := Cond.laysApart hdB hdS hdnB hdnS (by rw [hnB, Y.stackName]; decide)
  have bP := Cond.laysApart hdB hdP hdnB hdnP (by rw [hnB, Y.suppName]; decide)
  have hskip : SkipFacts T e.platform s (fun u => u) u0 ((preparedCellV T.toThrowableT (freshCell P1.m.cls kX) a u0 sen).withEntry V.cur) :=
    ⟨{ ci198 := ci8, i198 := i8, fBack := fB }, ⟨hk8, hg8, ha8, hsB⟩, by
      have q := fresh_default (c := P1.m.cls) tyB
      rw [htB] at q
      simpa [preparedCellV, Cell.setSlot, Cell.withEntry, Array.getElem?_setIfInBounds, bC, bS, bP, bC.symm, bS.symm, bP.symm, defaultValue] using q, fun _ _ => rfl⟩
  obtain ⟨tm, methC, cdC, kC, vm₁, hnC, -, -, -, -, -, -, -, hW₁, st1⟩ := Steps.initColdS (tb := p.tables) (e := e) (below := below) (s := s) (U := V) X.here hexec X.warmed hpl hown (t := Bundle.initS cls) rfl rfl (Bundle.fit_spec hcls).2
    (hm (w := .methodLink own ic (Bundle.initS cls)) (by simp [zx_words])) (h (.instanceMethod (Bundle.initS cls)) (by simp [zx_words, Bundle.passSAtoms])) (bytes := rx) (maxL := 2) (h (.code (Bundle.initS cls) rx 2 none) (by simp [zx_words, Bundle.passSAtoms]))
    (f := g) hg (a := a) (msg := msg) (rest := .ref a :: rest) hstack hd6
  cases Option.some.inj (hnC.symm.trans hP1m)
  have X₁ := X.noted hW₁
  have hl1 : P1.sup = P2.m := Option.some.inj (hP1s.symm.trans hP2m)
  obtain ⟨vm₂, X₂, st2⟩ := X₁.ctorMessageOffV hexec (g := { g with stack := .ref a :: rest }) hg hsize T L Z LZ M LM (P1 :: P2 :: Ps)
    (fun P hP => by
      rcases List.mem_cons.mp hP with rfl | hP
      · exact L1
      · rcases List.mem_cons.mp hP with rfl | hP
        · exact L2
        · exact hL P hP) ⟨hl1, hlink2, hlink⟩ (u0 := u0) (sen := sen) (self := a) hmsg (cell := freshCell P1.m.cls kX) (cellS := cS)
    hcell (fun _ => by simp) (by simp) rfl rfl hsel0 hselF hcS hneS hknown (by rw [hkeep _ (hnot _)]; exact hu0) (by rw [hkeep _ (hnot _)]; exact hsen)
    (Takes.of_laid hk hord tyC (by rw [Y.causeType]; rfl)) (Takes.of_laid hk hord tyS (by rw [Y.stackType]; exact fits_refV_array _ u0)) (Takes.of_laid hk hord tyP (by rw [Y.suppType]; exact fits_refV_object _ sen))
    (Takes.of_laid hk hord tyM (by rw [Y.msgType]; exact fits_refV_object _ ⟨msg, hmsg⟩)) Y.objLocals hskip htr [] hd6
    (by simp only [List.length_cons, hlen]; omega) (by simp only [List.length_cons, hlen]; exact hRlocals)
  obtain ⟨hwalk, hrun, hended, hWU, hsame⟩ := X₂.athrowLeaves hexec (g := { g with stack := .ref a :: rest, pc := g.pc + 3 }) hg hlocked hentered hout (a := a) (rest := rest) rfl hd9
  have hlt : a < ((V.setVm vm₁).setVm vm₂).heap.size := (Array.getElem?_eq_some_iff.mp hcell).1
  have hU := heapAt_setCell_self (s := (V.setVm vm₁).setVm vm₂) (plainBareV T.toThrowableT (freshCell P1.m.cls kX) a u0 sen msg) hlt
  refine ⟨_, st1 _ (fun acts => ?_), hrun, hended, hWU, hsame.weaken (fun y hy hlt' => ?_) (Nat.le_refl _) (Nat.le_refl _), _, hU, rfl, rfl⟩
  · rw [doInvoke_state]
    exact st2 _ hwalk
  · rcases List.mem_append.mp hy with h1 | h1
    · exact h1
    · exfalso
      have hb : y.base = a := by
        simp only [List.mem_cons, List.not_mem_nil, or_false] at h1
        rcases h1 with rfl | rfl | rfl | rfl | rfl <;> rfl
      rw [hb] at hlt'
      exact Nat.not_lt.mpr hnew hlt'
end ZX
section SIMS
variable {p : Program} {l : Launch} {e : Env} {R : Room} {s : State} {m : MethodId} {args : Array Value} {below : List Frame} {meth : Method} {c : Code}
variable {g : GC} {own : String} {cc : ByteArray} {nL kc ks pc : Nat} {ρ : Type} {Q : ρ → Mem → State → Prop} {ls : List (Nat × SV)} {st : List SV} {P : Mem → Option ρ}
set_option maxHeartbeats 4000000 in
theorem zs_throwN (C : Bd g own cc nL p s m args meth c) {ret : Option FieldType} {rm : Room} {E text Y1 : String} {names : List String} {ik is_ ic ix : Nat} {rx : ByteArray} {k : Int} (hE : ∀ x ∈ c.exceptionTable.toList, False) (hl : l.stackTraces = false) (hk : 0 < k ∧ exN[k.toNat - 1]? = some E) (hfit : Bundle.fit E = true ∧ Bundle.fit Y1 = true ∧ ∀ n ∈ names, Bundle.fit n = true)
    (w1 : Cond.classLink own ik E ∈ LW) (w2 : Cond.initialized E ∈ LW) (hs : (own, is_, text) ∈ exT) (hat : ∀ w ∈ (zx_words own ic E ix rx Y1 names).filter vx_no, w ∈ LW ∨ w ∈ exW) (hgood : ∀ w ∈ Cond.classLink own ik E :: Cond.initialized E :: (zx_words own ic E ix rx Y1 names).filter vx_no, vx_ot w = true)
    (r0 : decode rx 0 = .ok (.aload_n 0, 1)) (r1 : decode rx 1 = .ok (.aload_n 1, 1)) (r2 : decode rx 2 = .ok (.invokespecial ix, 3)) (r5 : decode rx 5 = .ok (.return_, 1))
    (hf : names.length + 4 < R.frames ∧ (st.map scat).sum + (13 * (names.length + 2) + 43) ≤ R.locals ∧ kc + 1 ≤ R.cells ∧ ks + 6 ≤ R.slots) (hc : kc + 1 ≤ rm.cells ∧ ks + 6 ≤ rm.slots)
    (d0 : decode cc pc = .ok (.new ik, 3)) (d3 : decode cc (pc + 3) = .ok (.dup, 1)) (d4 : decode cc (pc + 4) = .ok (.ldc is_, 2)) (d6 : decode cc (pc + 6) = .ok (.invokespecial ic, 3)) (d9 : decode cc (pc + 9) = .ok (.athrow, 1)) : Sim p l e R s m args below meth c g nL (QT g below args s ret rm) kc ks pc ls st (fun mm => some (k, 0, mm)) := by
  intro H locs lsA lv vst mm r h1 h2 h3 h4 h5 h6
  replace h6 : some (k, 0, mm) = some r := h6
  cases h6
  have hts := C.2.2.2.2.1
  have hX := C.2.2.2.2.2.1.2
  obtain ⟨sa, hsa⟩ := hX.2.2.2.2.2.2.1 _ hs
  have hown := C.2.2.2.1
  have hb := C.2.1
  have hsize : lsA.size = c.maxLocals := h1.1.trans C.2.2.1.symm
  intro T hT X
  have htr : e.platform.stackTraces = false := (show e.platform.stackTraces = l.stackTraces by rw [X.admits.platform]).trans hl
  have Y := vx_rebase X (R' := { frames := R.frames, locals := R.locals, cells := 1, slots := 6 }) (Nat.le_refl _) (Nat.le_refl _) hf.2.2.1 hf.2.2.2
  obtain ⟨s', hA⟩ : ∃ z, z = (T.setVm s.vm).setFrames (.invoking m args :: below) := ⟨_, rfl⟩
  rw [← hA] at Y
  have hvm : s'.vm = s.vm := by rw [hA]; rfl
  have hhp : s'.heap = H := by rw [hA]; exact hT
  have hW0 : s.WarmedH s'.vm := by rw [hvm]; exact State.WarmedH.refl s
  have hot : ∀ {w : Cond}, vx_ot w = true → w.before args s = true → w.before args s' = true := fun hw h => vx_ot_at hW0 hvm.symm hw h
  have hU' : vx_Zq Bundle.tN "UNASSIGNED_STACK" Bundle.steD (fun q => g.1 ≤ q) s' s'.heap := by rw [hhp]; exact vx_Zq.moved hW0.alike (hX.2.2.2.1.kept h5.2.1)
  have hN' : vx_Zq Bundle.tN "SUPPRESSED_SENTINEL" Bundle.listD (fun q => g.1 ≤ q) s' s'.heap := by rw [hhp]; exact vx_Zq.moved hW0.alike (hX.2.2.2.2.1.kept h5.2.1)
  have h : ∀ w ∈ zx_words own ic E ix rx Y1 names, w.before args s' = true := vx_own (fun w hw => hot (hgood w (List.mem_cons_of_mem _ (List.mem_cons_of_mem _ hw))) ((hat w hw).elim (hts w) (fun q => va_Nw.use (exW_ok w q).2 (hX.2.2.2.2.2.2.2.1 w q)))) (vx_isRefq hU'.1) (vx_isRefq hN'.1) hU'.2.word hN'.2.word
  have hown' : s'.vm.findClass own = some m.cls := by rw [hvm]; exact hown
  have hins : (Cond.instantiable E 6).before args s' = true := h _ (by simp [zx_words])
  obtain ⟨vm₁, cX, kX, hfX, hkX, -, -, X₁, st1⟩ := Y.newCold C.1 (own := own) (C := E) (index := ik) (n := 6) hown' (hot (hgood _ List.mem_cons_self) (hts _ w1)) hins (hot (hgood _ (List.mem_cons_of_mem _ List.mem_cons_self)) (hts _ w2))
    (g := F0 m pc lsA vst) rfl (by rw [hb]; exact d0) (Nat.le_refl _) (Nat.le_refl _)
  generalize hT1 : (T.setVm vm₁).pushCell { cls := cX, slots := kX.instanceTypes.map defaultValue, vm := .none } = T1 at X₁ st1
  have hcat : (Value.ref T.heap.size).category = 1 := rfl
  have hcellA : T1.heap[T.heap.size]? = some (freshCell cX kX) := by rw [← hT1]; exact State.heap_pushCell_size _ _
  have d3' : decode c.code (pc + 3) = .ok (.dup, 1) := by rw [hb]; exact d3
  have d4' : decode c.code (pc + 4) = .ok (.ldc is_, 2) := by rw [hb]; exact d4
  have hstr' : vk_R own is_ text sa s' := vk_R.warm hW0 hsa
  have hcat2 := srel_cat h3
  obtain ⟨U, hsteps, hrun, hend, hW, hsame, ce, hce, hO1, hO2⟩ := zx_ctor X₁ C.1 htr (own := own) (cls := E) (names := names) (ic := ic) hown' hfit.1 hfit.2.1 hfit.2.2 r0 r1 r2 r5 h (fun x hx => nomatch hx) hfX hkX hcellA (by rw [hhp, hT]; exact Nat.le_refl _) (msg := .ref sa) rfl
    (g := { method := m, pc := pc + 6, locals := lsA, stack := .ref sa :: .ref T.heap.size :: .ref T.heap.size :: vst, locked := none }) rfl hsize rfl rfl (rest := vst) rfl
    (by rw [hb]; exact d6) (by rw [hb]; exact d9) (fun x hx => (hE x hx).elim) hf.1 (by
      have q := hf.2.1
      rw [← hcat2] at q
      simp only [List.map_cons, List.sum_cons, hcat]
      omega) C.2.2.2.2.2.2.1
  obtain ⟨f1, f2⟩ := vx_frame hsame
  rw [hhp] at f1 f2
  have hWs : s.WarmedH U.vm := State.WarmedH.trans hW0 hW
  have hcl : s.vm.findClass E = some ce.cls := by rw [hO2, ← hvm]; exact hfX
  have hall : s.sameButNew ({ U with vm := s.vm } : State) locs rm.cells rm.slots := by
    subst hA
    obtain ⟨e1, e2⟩ := hsame
    rw [State.setFrames_setFrames] at e1
    have h2 : (T.setVm s.vm).sameButNew ({ U with vm := s.vm } : State) [] (0 + 1) (0 + 6) := ⟨e1, e2⟩
    have h3 := X.same.trans h2
    rw [List.append_nil] at h3
    exact h3.mono hc.1 hc.2
  have hkeep : ∀ q, q < H.size → U.heap[q]? = H[q]? := fun q hq => f2 q hq (fun z hz => nomatch hz)
  have hx : XcT g (k, 0, mm) E s U := by
    refine ⟨hk.1, hk.2, ?_, ?_⟩
    · obtain ⟨En, hP, hE2⟩ := h4
      exact ⟨En, hP.kept (fun k q hk => hkeep q.1 ((hP k q hk).lt)), hE2⟩
    · exact ⟨Nat.le_trans h5.1 f1, fun q h1 h2 => by rw [hkeep q (Nat.lt_of_lt_of_le h1 h5.1)]; exact h5.2.1 q h1 h2⟩
  refine ⟨U, ?_, .threw T.heap.size, hrun, hend, Or.inr ⟨T.heap.size, rfl, E, ce, locs, hx, hce, hO1, hcl, hWs, hall, h5.2.2⟩⟩
  refine st1 _ ?_
  show Steps p.tables e below (T1.setTop { method := m, pc := pc + 3, locals := lsA, stack := .ref T.heap.size :: vst, locked := none }) _
  have hexec := C.1
  jvm_step X₁.here [X₁.here.top, hexec, d3', Value.category]
  exact X₁.ldcString hexec (own := own) (text := text) (index := is_) (a := sa) hown' hstr'.1 hstr'.2
    (g := { method := m, pc := pc + 4, locals := lsA, stack := .ref T.heap.size :: .ref T.heap.size :: vst, locked := none }) rfl d4' _ hsteps
set_option maxHeartbeats 4000000 in
theorem zs_throwNW (C : Bd g own cc nL p s m args meth c) {ret : Option FieldType} {rm : Room} {E text Y1 : String} {names : List String} {ik is_ ic ix : Nat} {rx : ByteArray} {k : Int} (hE : ∀ x ∈ c.exceptionTable.toList, False) (hl : l.stackTraces = false) (hk : 0 < k ∧ exN[k.toNat - 1]? = some E) (hfit : Bundle.fit E = true ∧ Bundle.fit Y1 = true ∧ ∀ n ∈ names, Bundle.fit n = true)
    (w1 : Cond.classLink own ik E ∈ LW) (w2 : Cond.initialized E ∈ LW) (hs : (own, is_, text) ∈ exT) (hat : ∀ w ∈ (zx_words own ic E ix rx Y1 names).filter vx_no, w ∈ LW ∨ w ∈ exW) (hgood : ∀ w ∈ Cond.classLink own ik E :: Cond.initialized E :: (zx_words own ic E ix rx Y1 names).filter vx_no, vx_ot w = true)
    (r0 : decode rx 0 = .ok (.aload_n 0, 1)) (r1 : decode rx 1 = .ok (.aload_n 1, 1)) (r2 : decode rx 2 = .ok (.invokespecial ix, 3)) (r5 : decode rx 5 = .ok (.return_, 1))
    (hf : names.length + 4 < R.frames ∧ (st.map scat).sum + (13 * (names.length + 2) + 43) ≤ R.locals ∧ kc + 1 ≤ R.cells ∧ ks + 6 ≤ R.slots) (hc : kc + 1 ≤ rm.cells ∧ ks + 6 ≤ rm.slots)
    (d0 : decode cc pc = .ok (.new ik, 3)) (d3 : decode cc (pc + 3) = .ok (.dup, 1)) (d4 : decode cc (pc + 4) = .ok (.ldc_w is_, 3)) (d6 : decode cc (pc + 7) = .ok (.invokespecial ic, 3)) (d9 : decode cc (pc + 10) = .ok (.athrow, 1)) : Sim p l e R s m args below meth c g nL (QT g below args s ret rm) kc ks pc ls st (fun mm => some (k, 0, mm)) := by
  intro H locs lsA lv vst mm r h1 h2 h3 h4 h5 h6
  replace h6 : some (k, 0, mm) = some r := h6
  cases h6
  have hts := C.2.2.2.2.1
  have hX := C.2.2.2.2.2.1.2
  obtain ⟨sa, hsa⟩ := hX.2.2.2.2.2.2.1 _ hs
  have hown := C.2.2.2.1
  have hb := C.2.1
  have hsize : lsA.size = c.maxLocals := h1.1.trans C.2.2.1.symm
  intro T hT X
  have htr : e.platform.stackTraces = false := (show e.platform.stackTraces = l.stackTraces by rw [X.admits.platform]).trans hl
  have Y := vx_rebase X (R' := { frames := R.frames, locals := R.locals, cells := 1, slots := 6 }) (Nat.le_refl _) (Nat.le_refl _) hf.2.2.1 hf.2.2.2
  obtain ⟨s', hA⟩ : ∃ z, z = (T.setVm s.vm).setFrames (.invoking m args :: below) := ⟨_, rfl⟩
  rw [← hA] at Y
  have hvm : s'.vm = s.vm := by rw [hA]; rfl
  have hhp : s'.heap = H := by rw [hA]; exact hT
  have hW0 : s.WarmedH s'.vm := by rw [hvm]; exact State.WarmedH.refl s
  have hot : ∀ {w : Cond}, vx_ot w = true → w.before args s = true → w.before args s' = true := fun hw h => vx_ot_at hW0 hvm.symm hw h
  have hU' : vx_Zq Bundle.tN "UNASSIGNED_STACK" Bundle.steD (fun q => g.1 ≤ q) s' s'.heap := by rw [hhp]; exact vx_Zq.moved hW0.alike (hX.2.2.2.1.kept h5.2.1)
  have hN' : vx_Zq Bundle.tN "SUPPRESSED_SENTINEL" Bundle.listD (fun q => g.1 ≤ q) s' s'.heap := by rw [hhp]; exact vx_Zq.moved hW0.alike (hX.2.2.2.2.1.kept h5.2.1)
  have h : ∀ w ∈ zx_words own ic E ix rx Y1 names, w.before args s' = true := vx_own (fun w hw => hot (hgood w (List.mem_cons_of_mem _ (List.mem_cons_of_mem _ hw))) ((hat w hw).elim (hts w) (fun q => va_Nw.use (exW_ok w q).2 (hX.2.2.2.2.2.2.2.1 w q)))) (vx_isRefq hU'.1) (vx_isRefq hN'.1) hU'.2.word hN'.2.word
  have hown' : s'.vm.findClass own = some m.cls := by rw [hvm]; exact hown
  have hins : (Cond.instantiable E 6).before args s' = true := h _ (by simp [zx_words])
  obtain ⟨vm₁, cX, kX, hfX, hkX, -, -, X₁, st1⟩ := Y.newCold C.1 (own := own) (C := E) (index := ik) (n := 6) hown' (hot (hgood _ List.mem_cons_self) (hts _ w1)) hins (hot (hgood _ (List.mem_cons_of_mem _ List.mem_cons_self)) (hts _ w2))
    (g := F0 m pc lsA vst) rfl (by rw [hb]; exact d0) (Nat.le_refl _) (Nat.le_refl _)
  generalize hT1 : (T.setVm vm₁).pushCell { cls := cX, slots := kX.instanceTypes.map defaultValue, vm := .none } = T1 at X₁ st1
  have hcat : (Value.ref T.heap.size).category = 1 := rfl
  have hcellA : T1.heap[T.heap.size]? = some (freshCell cX kX) := by rw [← hT1]; exact State.heap_pushCell_size _ _
  have d3' : decode c.code (pc + 3) = .ok (.dup, 1) := by rw [hb]; exact d3
  have d4' : decode c.code (pc + 4) = .ok (.ldc_w is_, 3) := by rw [hb]; exact d4
  have hstr' : vk_R own is_ text sa s' := vk_R.warm hW0 hsa
  have hcat2 := srel_cat h3
  obtain ⟨U, hsteps, hrun, hend, hW, hsame, ce, hce, hO1, hO2⟩ := zx_ctor X₁ C.1 htr (own := own) (cls := E) (names := names) (ic := ic) hown' hfit.1 hfit.2.1 hfit.2.2 r0 r1 r2 r5 h (fun x hx => nomatch hx) hfX hkX hcellA (by rw [hhp, hT]; exact Nat.le_refl _) (msg := .ref sa) rfl
    (g := { method := m, pc := pc + 7, locals := lsA, stack := .ref sa :: .ref T.heap.size :: .ref T.heap.size :: vst, locked := none }) rfl hsize rfl rfl (rest := vst) rfl
    (by rw [hb]; exact d6) (by rw [hb]; exact d9) (fun x hx => (hE x hx).elim) hf.1 (by
      have q := hf.2.1
      rw [← hcat2] at q
      simp only [List.map_cons, List.sum_cons, hcat]
      omega) C.2.2.2.2.2.2.1
  obtain ⟨f1, f2⟩ := vx_frame hsame
  rw [hhp] at f1 f2
  have hWs : s.WarmedH U.vm := State.WarmedH.trans hW0 hW
  have hcl : s.vm.findClass E = some ce.cls := by rw [hO2, ← hvm]; exact hfX
  have hall : s.sameButNew ({ U with vm := s.vm } : State) locs rm.cells rm.slots := by
    subst hA
    obtain ⟨e1, e2⟩ := hsame
    rw [State.setFrames_setFrames] at e1
    have h2 : (T.setVm s.vm).sameButNew ({ U with vm := s.vm } : State) [] (0 + 1) (0 + 6) := ⟨e1, e2⟩
    have h3 := X.same.trans h2
    rw [List.append_nil] at h3
    exact h3.mono hc.1 hc.2
  have hkeep : ∀ q, q < H.size → U.heap[q]? = H[q]? := fun q hq => f2 q hq (fun z hz => nomatch hz)
  have hx : XcT g (k, 0, mm) E s U := by
    refine ⟨hk.1, hk.2, ?_, ?_⟩
    · obtain ⟨En, hP, hE2⟩ := h4
      exact ⟨En, hP.kept (fun k q hk => hkeep q.1 ((hP k q hk).lt)), hE2⟩
    · exact ⟨Nat.le_trans h5.1 f1, fun q h1 h2 => by rw [hkeep q (Nat.lt_of_lt_of_le h1 h5.1)]; exact h5.2.1 q h1 h2⟩
  refine ⟨U, ?_, .threw T.heap.size, hrun, hend, Or.inr ⟨T.heap.size, rfl, E, ce, locs, hx, hce, hO1, hcl, hWs, hall, h5.2.2⟩⟩
  refine st1 _ ?_
  show Steps p.tables e below (T1.setTop { method := m, pc := pc + 3, locals := lsA, stack := .ref T.heap.size :: vst, locked := none }) _
  have hexec := C.1
  jvm_step X₁.here [X₁.here.top, hexec, d3', Value.category]
  exact X₁.ldcStringW hexec (own := own) (text := text) (index := is_) (a := sa) hown' hstr'.1 hstr'.2
    (g := { method := m, pc := pc + 4, locals := lsA, stack := .ref T.heap.size :: .ref T.heap.size :: vst, locked := none }) rfl d4' _ hsteps
end SIMS

def bT (x : Option (Int × Int × Mem)) (f : Int → Mem → Option (Int × Int × Mem)) : Option (Int × Int × Mem) := x.bind (fun r => if r.1 = 0 then f r.2.1 r.2.2 else some (r.1, 0, r.2.2))
def bX (x : Option (Int × Int × Mem)) (f : Mem → Option (Int × Int × Mem)) : Option (Int × Int × Mem) := x.bind (fun r => if r.1 = 0 then f r.2.2 else some (r.1, 0, r.2.2))
def QcT (g : GC) (ret : Option FieldType) (r : Int × Int × Mem) : Array Value → State → Outcome → State → Prop := fun a st o t => r.1 = 0 ∧ QcS g ret r.2.1 r.2.2 a st o t
def XcT (g : GC) (r : Int × Int × Mem) : String → State → State → Prop := fun E st t => 0 < r.1 ∧ exN[r.1.toNat - 1]? = some E ∧ Rel g r.2.2 t.heap ∧ va_F (fun q => g.1 ≤ q) st t
def QT (g : GC) (below : List Frame) (args : Array Value) (s : State) (ret : Option FieldType) (rm : Room) : Int × Int × Mem → Mem → State → Prop := fun r _ => vx_MQ below (QcT g ret r) (XcT g r) args s rm.cells rm.slots (fun q => g.1 ≤ q)
def ConT (l : Launch) (g : GC) (y : MethodName) (cc : ByteArray) (nL : Nat) (ret : Option FieldType) (rm : Room) (svs : List SV) (F : Mem → Option (Int × Int × Mem)) : Prop := ∀ mm r, F mm = some r → vx_Met l y (Cond.code y cc nL ret :: LW) rm (PcS g svs mm) (QcT g ret r) (XcT g r) rm.cells rm.slots (fun q => g.1 ≤ q)
/-! ===== CORE 4: texts, throws ===== -/
section SIMS
variable {p : Program} {l : Launch} {e : Env} {R : Room} {s : State} {m : MethodId} {args : Array Value} {below : List Frame} {meth : Method} {c : Code}
variable {g : GC} {own : String} {cc : ByteArray} {nL kc ks pc : Nat} {ρ : Type} {Q : ρ → Mem → State → Prop} {ls : List (Nat × SV)} {st : List SV} {P : Mem → Option ρ}
theorem zs_ldcS (C : Bd g own cc nL p s m args meth c) {i k : Nat} {tx : String} (d : decode cc pc = .ok (.ldc i, 2)) (hs : strT[k]? = some (own, i, tx)) (K : Sim p l e R s m args below meth c g nL Q kc ks (pc+2) ls (sT k :: st) P) : Sim p l e R s m args below meth c g nL Q kc ks pc ls st P := by
  intro H locs lsA lv vst mm r h1 h2 h3 h4 h5 h6
  exact va_ldcS C.1 C.2.1 C.2.2.2.1 (C.2.2.2.2.2.1.2.2.2.2.2.2.1 k _ hs) d (K H locs lsA lv _ mm r h1 h2 ⟨rfl, h3⟩ h4 h5 h6)
theorem zs_ldc_wS (C : Bd g own cc nL p s m args meth c) {i k : Nat} {tx : String} (d : decode cc pc = .ok (.ldc_w i, 3)) (hs : strT[k]? = some (own, i, tx)) (K : Sim p l e R s m args below meth c g nL Q kc ks (pc+3) ls (sT k :: st) P) : Sim p l e R s m args below meth c g nL Q kc ks pc ls st P := by
  intro H locs lsA lv vst mm r h1 h2 h3 h4 h5 h6
  have hZ := C.2.2.2.2.2.1.2.2.2.2.2.2.1 k _ hs
  intro T hT X
  obtain ⟨t, a1, b1⟩ := K H locs lsA lv (.ref (g.2.2.2.2 k) :: vst) mm r h1 h2 ⟨rfl, h3⟩ h4 h5 h6 T hT X
  exact ⟨t, X.ldcStringW C.1 C.2.2.2.1 (text := tx) hZ.1 hZ.2 (g := F0 m pc lsA vst) rfl (by rw [C.2.1]; exact d) t a1, b1⟩
theorem zs_strval (C : Bd g own cc nL p s m args meth c) {i k : Nat} (hk : k < strT.length) (d : decode cc pc = .ok (.getfield i, 3)) (hl : Cond.fieldLink own i "java/lang/String" "value" "[B" ∈ LW) (K : Sim p l e R s m args below meth c g nL Q kc ks (pc+3) ls (sT (k + 1000) :: st) P) : Sim p l e R s m args below meth c g nL Q kc ks pc ls (sT k :: st) P := by
  intro H locs lsA lv vst mm r h1 h2 h3 h4 h5 h6
  obtain ⟨_, vst1, rfl, rfl, k1_⟩ := srel_cons h3
  exact vk_getf C.1 C.2.1 ((C.2.2.2.2.2.1.2.1.1 k hk).2.2.1) h5 C.2.2.2.1 (C.2.2.2.2.1 _ hl) (fun _ h => h) d (K H locs lsA lv _ mm r h1 h2 ⟨rfl, k1_⟩ h4 h5 h6)
theorem zs_strcoder (C : Bd g own cc nL p s m args meth c) {i k : Nat} (hk : k < strT.length) (d : decode cc pc = .ok (.getfield i, 3)) (hl : Cond.fieldLink own i "java/lang/String" "coder" "B" ∈ LW) (K : Sim p l e R s m args below meth c g nL Q kc ks (pc+3) ls (sI 0 :: st) P) : Sim p l e R s m args below meth c g nL Q kc ks pc ls (sT k :: st) P := by
  intro H locs lsA lv vst mm r h1 h2 h3 h4 h5 h6
  obtain ⟨_, vst1, rfl, rfl, k1_⟩ := srel_cons h3
  exact vk_getf C.1 C.2.1 ((C.2.2.2.2.2.1.2.1.1 k hk).2.1) h5 C.2.2.2.1 (C.2.2.2.2.1 _ hl) (fun _ h => h) d (K H locs lsA lv _ mm r h1 h2 ⟨⟨0, rfl, rfl⟩, k1_⟩ h4 h5 h6)
theorem zs_getsC (C : Bd g own cc nL p s m args meth c) {i : Nat} (d : decode cc pc = .ok (.getstatic i, 3)) (hl : Cond.fieldLink own i "java/lang/String" "COMPACT_STRINGS" "Z" ∈ LW) (K : Sim p l e R s m args below meth c g nL Q kc ks (pc+3) ls (sI 1 :: st) P) : Sim p l e R s m args below meth c g nL Q kc ks pc ls st P := by
  intro H locs lsA lv vst mm r h1 h2 h3 h4 h5 h6
  exact va_gets C.1 C.2.1 C.2.2.2.2.2.1.2.2.1 h5 C.2.2.2.1 (C.2.2.2.2.1 _ hl) (fun _ h => h) d (K H locs lsA lv _ mm r h1 h2 ⟨⟨1, rfl, rfl⟩, h3⟩ h4 h5 h6)
theorem zs_getsQ (C : Bd g own cc nL p s m args meth c) {i : Nat} (d : decode cc pc = .ok (.getstatic i, 3)) (hl : Cond.fieldLink own i "jdk/internal/util/Preconditions" "SIOOBE_FORMATTER" "Ljava/util/function/BiFunction;" ∈ LW) (K : Sim p l e R s m args below meth c g nL Q kc ks (pc+3) ls (sQ :: st) P) : Sim p l e R s m args below meth c g nL Q kc ks pc ls st P := by
  intro H locs lsA lv vst mm r h1 h2 h3 h4 h5 h6
  rcases C.2.2.2.2.2.1.2.2.2.1 with hZ | ⟨t, hZ⟩
  · exact va_gets C.1 C.2.1 hZ h5 C.2.2.2.1 (C.2.2.2.2.1 _ hl) (fun _ h => h) d (K H locs lsA lv _ mm r h1 h2 ⟨Or.inl rfl, h3⟩ h4 h5 h6)
  · exact va_gets C.1 C.2.1 hZ h5 C.2.2.2.1 (C.2.2.2.2.1 _ hl) (fun _ h => h) d (K H locs lsA lv _ mm r h1 h2 ⟨Or.inr ⟨t, rfl⟩, h3⟩ h4 h5 h6)
theorem zs_alenT (C : Bd g own cc nL p s m args meth c) {k : Nat} {x : Int} (hk : k < strT.length) (hx : (Int32.ofNat (lenT.getD k 0)).toInt = x) (d : decode cc pc = .ok (.arraylength, 1)) (K : Sim p l e R s m args below meth c g nL Q kc ks (pc+1) ls (sI x :: st) P) : Sim p l e R s m args below meth c g nL Q kc ks pc ls (sT (k + 1000) :: st) P := by
  intro H locs lsA lv vst mm r h1 h2 h3 h4 h5 h6
  obtain ⟨_, vst1, rfl, rfl, k1_⟩ := srel_cons h3
  obtain ⟨cell, q1, q2, q3, q4, q5, q6, q7⟩ := (C.2.2.2.2.2.1.2.1.1 k hk).2.2.2
  exact W.alen C.1 C.2.1 (by rw [h5.2.1 _ (Array.getElem?_eq_some_iff.mp q1).1 q7]; exact q1) q2 q5 rfl rfl d (K H locs lsA lv _ mm r h1 h2 ⟨⟨_, rfl, hx⟩, k1_⟩ h4 h5 h6)
theorem zs_baldT (C : Bd g own cc nL p s m args meth c) {k : Nat} {i : Int} {P : Int → Mem → Option ρ} {hd : ∀ mm : Mem, Decidable (0 ≤ i ∧ i < slen k)} (hk : k < strT.length) (d : decode cc pc = .ok (.baload, 1)) (K : 0 ≤ i ∧ i < slen k → ∀ x, Sim p l e R s m args below meth c g nL Q kc ks (pc+1) ls (sI x :: st) (P x)) : Sim p l e R s m args below meth c g nL Q kc ks pc ls (sI i :: sT (k + 1000) :: st) (fun mm => @chk _ (0 ≤ i ∧ i < slen k) (hd mm) (rd (schr k i) (fun x => P x mm))) := by
  refine zs_chk (P := fun mm => P (schr k i) mm) (fun _ hin => ?_)
  intro H locs lsA lv vst mm r h1 h2 h3 h4 h5 h6
  obtain ⟨_, vst1, rfl, ⟨j, rfl, hj⟩, k1_⟩ := srel_cons h3
  obtain ⟨_, vst2, rfl, rfl, k2_⟩ := srel_cons k1_
  obtain ⟨cell, q1, q2, q3, q4, q5, q6, q7⟩ := (C.2.2.2.2.2.1.2.1.1 k hk).2.2.2
  obtain ⟨b1, b2, b3⟩ := zs_in (n := lenT.getD k 0) hj hin
  have hin' : ¬ (j < 0 ∨ cell.slots.size ≤ j.toNatClampNeg) := by
    intro q
    rcases q with q | q
    · exact b1 (Or.inl q)
    · omega
  have hn : j.toNatClampNeg = i.toNat := by omega
  exact W.bald (v := .int ((bytT.getD k []).getD j.toNatClampNeg 0)) C.1 C.2.1 (by rw [h5.2.1 _ (Array.getElem?_eq_some_iff.mp q1).1 q7]; exact q1) q2 q3 hin' (q6 _ b2) rfl rfl d (K hin (schr k i) H locs lsA lv _ mm r h1 h2 ⟨⟨_, rfl, by rw [hn]; rfl⟩, k2_⟩ h4 h5 h6)
theorem zs_ctRi (C : Bd g own cc nL p s m args meth c) {idx nL2 n k : Nat} {y : MethodName} {bytes : ByteArray} {ret : Option FieldType} {rm : Room} {As st0 : List SV} {F : Mem → Option Int} {P : Int → Mem → Option ρ} (hk : k < strT.length) (hret : iret ret = true) (hM : ConR l g y bytes nL2 ret rm (sT k :: As) F) (ml : ML own idx "java/lang/String" y bytes nL2 ret n) (hst : st0 = As.reverse ++ sT k :: st) (hn : As.length = n) (hcat : (st.map scat).sum ≤ 8) (hRm : rm.frames + 1 ≤ R.frames ∧ 8 + (nL2 + 11) + rm.locals ≤ R.locals) (hc : kc + rm.cells ≤ R.cells ∧ ks + rm.slots ≤ R.slots) (d : decode cc pc = .ok (.invokevirtual idx, 3)) (K : ∀ x, Sim p l e R s m args below meth c g nL Q (kc + rm.cells) (ks + rm.slots) (pc+3) ls (sI x :: st) (P x)) : Sim p l e R s m args below meth c g nL Q kc ks pc ls st0 (fun mm => bR (F mm) (fun x => P x mm)) := by
  intro H locs lsA lv vst mm r h1 h2 h3 h4 h5 h6
  subst hst
  obtain ⟨va, vst, rfl, ha, hb⟩ := srel_app h3
  obtain ⟨_, vst, rfl, rfl, hc2⟩ := srel_cons hb
  obtain ⟨x, hx, hy⟩ := Option.bind_eq_some_iff.mp h6
  have has : srel g As va.reverse := by
    have q := srel_rev ha
    rwa [List.reverse_reverse] at q
  have run := va_runV (e := e) (below := below) (meth := meth) (locs := locs) (As := va.reverse) (rest := vst) (g := F0 m pc lsA _) ⟨C.1, C.2.1, C.2.2.1, C.2.2.2.1, C.2.2.2.2.1⟩ (hM mm x hx) (zs_cb C ml hRm) ⟨PcS_blind, vk_recv C.2.2.2.2.2.1.2.1 hk h5, zs_pre C h4 h5 (svs := sT k :: As) (vs := .ref (g.2.2.2.2 k) :: va.reverse) ⟨rfl, has⟩⟩ rfl ((srel_len has).trans hn) h1.1 (by rw [List.reverse_reverse]) (lv_room (by rw [srel_cat hc2]; exact hcat)) d hc
  refine zs_after run h5 (fun v H1 locs1 hv hR1 hS1 => ?_)
  obtain ⟨i, hv1, hi⟩ := zs_rint hret hv
  cases hv1
  exact K x H1 locs1 lsA lv _ mm r h1 h2 ⟨⟨i, rfl, hi⟩, hc2⟩ hR1 hS1 hy
theorem zs_retRc (C : Bd g own cc nL p s m args meth c) {rm : Room} {x : Int} (hx : 0 ≤ x ∧ x < 65536) (hr : meth.sig.returnType = (some .char)) (hk : kc ≤ rm.cells ∧ ks ≤ rm.slots) (d : decode cc pc = .ok (.ireturn, 1)) : Sim p l e R s m args below meth c g nL (QR g below args s (some .char) rm) kc ks pc ls [sI x] (fun mm => some x) := by
  intro H locs lsA lv vst mm r h1 h2 h3 h4 h5 h6
  obtain ⟨_, vst1, rfl, ⟨z, rfl, hz⟩, k1_⟩ := srel_cons h3
  obtain rfl := srel_nil k1_
  replace h6 : some x = some r := h6
  cases h6
  refine W.widen hk.1 hk.2 ?_
  exact W.zret C.1 C.2.1 hr (zs_nar_char hz hx) (fun t ht hW => ⟨⟨z, rfl, hz⟩, by rw [ht]; exact h4, h5.F ht⟩) h5.2.2 d C.2.2.2.2.2.2.1
theorem zs_retRv (C : Bd g own cc nL p s m args meth c) {rm : Room} (hr : meth.sig.returnType = none) (hk : kc ≤ rm.cells ∧ ks ≤ rm.slots) (d : decode cc pc = .ok (.return_, 1)) : Sim p l e R s m args below meth c g nL (QR g below args s none rm) kc ks pc ls [] (fun mm => some 0) := by
  intro H locs lsA lv vst mm r h1 h2 h3 h4 h5 h6
  obtain rfl := srel_nil h3
  replace h6 : some (0 : Int) = some r := h6
  cases h6
  refine W.widen hk.1 hk.2 ?_
  exact W.vret C.1 C.2.1 hr (fun t ht hW => ⟨rfl, by rw [ht]; exact h4, h5.F ht⟩) h5.2.2 d C.2.2.2.2.2.2.1
theorem zs_retRb (C : Bd g own cc nL p s m args meth c) {rm : Room} {x : Int} (hx : -128 ≤ x ∧ x < 128) (hr : meth.sig.returnType = (some .byte)) (hk : kc ≤ rm.cells ∧ ks ≤ rm.slots) (d : decode cc pc = .ok (.ireturn, 1)) : Sim p l e R s m args below meth c g nL (QR g below args s (some .byte) rm) kc ks pc ls [sI x] (fun mm => some x) := by
  intro H locs lsA lv vst mm r h1 h2 h3 h4 h5 h6
  obtain ⟨_, vst1, rfl, ⟨z, rfl, hz⟩, k1_⟩ := srel_cons h3
  obtain rfl := srel_nil k1_
  replace h6 : some x = some r := h6
  cases h6
  refine W.widen hk.1 hk.2 ?_
  exact W.zret C.1 C.2.1 hr (zs_nar_byte hz hx) (fun t ht hW => ⟨⟨z, rfl, hz⟩, by rw [ht]; exact h4, h5.F ht⟩) h5.2.2 d C.2.2.2.2.2.2.1
/-- a method that answers or throws: why (0: it answers), its answer, the memory -/
theorem zs_afterT {H : Heap} {locs : List Loc} {lsA : Array Slot} {v0 vst : List Value} {a : Array Value} {ret : Option FieldType} {x : Int × Int × Mem} {mc ms : Nat} {Q' : State → Prop} (run : vx_Run p l e R s m args below meth c H locs kc ks mc ms (F0 m pc lsA v0) vst (QcT g ret x a) (XcT g x) (fun q => g.1 ≤ q)) (h5 : va_S (fun q => g.1 ≤ q) s.heap H locs)
    (K : ∀ (v : Option Value) (H1 : Heap) (locs1 : List Loc), x.1 = 0 → rrel ret x.2.1 (.returned v) → Rel g x.2.2 H1 → va_S (fun q => g.1 ≤ q) s.heap H1 locs1 → W p l e R s m args below meth c H1 locs1 (kc + mc) (ks + ms) Q' (F0 m (pc+3) lsA (v.toList ++ vst)))
    (KX : ∀ (E : String) (ce : Cell) (q : Addr) (H1 : Heap) (locs1 : List Loc), 0 < x.1 → exN[x.1.toNat - 1]? = some E → Rel g x.2.2 H1 → va_S (fun q => g.1 ≤ q) s.heap H1 locs1 → H1[q]? = some ce → ce.vm = .none → s.vm.findClass E = some ce.cls → vx_W p l e R s m args below meth c H1 locs1 (kc + mc) (ks + ms) Q' (F0 m pc lsA vst) q) : W p l e R s m args below meth c H locs kc ks Q' (F0 m pc lsA v0) := by
  intro T hT X
  have key : ∀ {st₀ t : State} {L : List Loc}, st₀.heap = H → va_F (fun q => g.1 ≤ q) st₀ t → (∀ q ∈ L, g.1 ≤ q.base) → va_S (fun q => g.1 ≤ q) s.heap t.heap (locs ++ L) := by
    intro st₀ t L h0 hq3 hL
    refine ⟨Nat.le_trans h5.1 (by rw [← h0]; exact hq3.1), fun q h1 h2 => ?_, fun z hz => ?_⟩
    · rw [hq3.2 q (by rw [h0]; exact Nat.lt_of_lt_of_le h1 h5.1) h2, h0]
      exact h5.2.1 q h1 h2
    · rcases List.mem_append.mp hz with h | h
      · exact h5.2.2 z h
      · exact hL z h
  rcases run T hT X with ⟨v, st₀, t, T', L, h0, X', hL, e1, e2, ⟨hq0, hq1, hq2, hq3⟩, stp⟩ | ⟨q, st₀, t, T', L, E, ce, h0, X', hL, e1, e2, ⟨hx0, hx1, hx2, hx3⟩, hce, hcv, hcl, stp⟩
  · have hS1 := key h0 hq3 hL
    rw [← e1] at hq2 hS1
    obtain ⟨t2, a1, b1⟩ := K v T'.heap (locs ++ L) hq0 hq1 hq2 hS1 T' rfl X'
    exact ⟨t2, stp t2 a1, b1⟩
  · have hS1 := key h0 hx3 hL
    rw [← e1] at hx2 hS1 hce
    obtain ⟨t2, a1, b1⟩ := KX E ce q T'.heap (locs ++ L) hx0 hx1 hx2 hS1 hce hcv hcl T' rfl X'
    exact ⟨t2, stp.trans a1, b1⟩
theorem zs_retTi (C : Bd g own cc nL p s m args meth c) {rm : Room} {x : Int} (hr : meth.sig.returnType = (some .int)) (hk : kc ≤ rm.cells ∧ ks ≤ rm.slots) (d : decode cc pc = .ok (.ireturn, 1)) : Sim p l e R s m args below meth c g nL (QT g below args s (some .int) rm) kc ks pc ls [sI x] (fun mm => some (0, x, mm)) := by
  intro H locs lsA lv vst mm r h1 h2 h3 h4 h5 h6
  obtain ⟨_, vst1, rfl, ⟨z, rfl, hz⟩, k1_⟩ := srel_cons h3
  obtain rfl := srel_nil k1_
  replace h6 : some (0, x, mm) = some r := h6
  cases h6
  refine W.widen hk.1 hk.2 (vx_ret ?_)
  exact W.iret C.1 C.2.1 hr (fun t ht hW => ⟨rfl, ⟨z, rfl, hz⟩, by rw [ht]; exact h4, h5.F ht⟩) h5.2.2 d C.2.2.2.2.2.2.1
theorem zs_retTz (C : Bd g own cc nL p s m args meth c) {rm : Room} {x : Int} (hx : x = 0 ∨ x = 1) (hr : meth.sig.returnType = (some .boolean)) (hk : kc ≤ rm.cells ∧ ks ≤ rm.slots) (d : decode cc pc = .ok (.ireturn, 1)) : Sim p l e R s m args below meth c g nL (QT g below args s (some .boolean) rm) kc ks pc ls [sI x] (fun mm => some (0, x, mm)) := by
  intro H locs lsA lv vst mm r h1 h2 h3 h4 h5 h6
  obtain ⟨_, vst1, rfl, ⟨z, rfl, hz⟩, k1_⟩ := srel_cons h3
  obtain rfl := srel_nil k1_
  replace h6 : some (0, x, mm) = some r := h6
  cases h6
  refine W.widen hk.1 hk.2 (vx_ret ?_)
  exact W.zret C.1 C.2.1 hr (zs_nar_bool hz hx) (fun t ht hW => ⟨rfl, ⟨z, rfl, hz⟩, by rw [ht]; exact h4, h5.F ht⟩) h5.2.2 d C.2.2.2.2.2.2.1
theorem zs_retTl (C : Bd g own cc nL p s m args meth c) {rm : Room} {x : Int} (hr : meth.sig.returnType = (some .long)) (hk : kc ≤ rm.cells ∧ ks ≤ rm.slots) (d : decode cc pc = .ok (.lreturn, 1)) : Sim p l e R s m args below meth c g nL (QT g below args s (some .long) rm) kc ks pc ls [sL x] (fun mm => some (0, x, mm)) := by
  intro H locs lsA lv vst mm r h1 h2 h3 h4 h5 h6
  obtain ⟨_, vst1, rfl, ⟨z, rfl, hz⟩, k1_⟩ := srel_cons h3
  obtain rfl := srel_nil k1_
  replace h6 : some (0, x, mm) = some r := h6
  cases h6
  refine W.widen hk.1 hk.2 (vx_ret ?_)
  exact W.lret C.1 C.2.1 hr (fun t ht hW => ⟨rfl, ⟨z, rfl, hz⟩, by rw [ht]; exact h4, h5.F ht⟩) h5.2.2 d C.2.2.2.2.2.2.1
theorem zs_retTv (C : Bd g own cc nL p s m args meth c) {rm : Room} (hr : meth.sig.returnType = none) (hk : kc ≤ rm.cells ∧ ks ≤ rm.slots) (d : decode cc pc = .ok (.return_, 1)) : Sim p l e R s m args below meth c g nL (QT g below args s none rm) kc ks pc ls [] (fun mm => some (0, 0, mm)) := by
  intro H locs lsA lv vst mm r h1 h2 h3 h4 h5 h6
  obtain rfl := srel_nil h3
  replace h6 : some (0, 0, mm) = some r := h6
  cases h6
  refine W.widen hk.1 hk.2 (vx_ret ?_)
  exact W.vret C.1 C.2.1 hr (fun t ht hW => ⟨rfl, rfl, by rw [ht]; exact h4, h5.F ht⟩) h5.2.2 d C.2.2.2.2.2.2.1
theorem zs_cvTi (C : Bd g own cc nL p s m args meth c) {idx nL2 n : Nat} {y : MethodName} {bytes : ByteArray} {ret ret2 : Option FieldType} {rm rm2 : Room} {As st0 : List SV} {F : Mem → Option (Int × Int × Mem)} {P : Int → Mem → Option (Int × Int × Mem)} {ci o : Nat} {Cn : String} {T : u_T} {N : Nat} (hE : ∀ x ∈ c.exceptionTable.toList, False) (hret : iret ret2 = true) (hM : ConT l g y bytes nL2 ret2 rm2 (sR o :: As) F) (ml : ML own idx Cn y bytes nL2 ret2 n) (ho : layL[o]? = some (.inl ci)) (hcl : vwCl[ci]? = some (Cn, T, N)) (hst : st0 = As.reverse ++ sR o :: st) (hn : As.length = n) (hcat : (st.map scat).sum ≤ 8) (hRm : rm2.frames + 1 ≤ R.frames ∧ 8 + (nL2 + 11) + rm2.locals ≤ R.locals) (hc : kc + rm2.cells ≤ R.cells ∧ ks + rm2.slots ≤ R.slots) (hk : kc + rm2.cells ≤ rm.cells ∧ ks + rm2.slots ≤ rm.slots) (d : decode cc pc = .ok (.invokevirtual idx, 3)) (K : ∀ x, Sim p l e R s m args below meth c g nL (QT g below args s ret rm) (kc + rm2.cells) (ks + rm2.slots) (pc+3) ls (sI x :: st) (P x)) : Sim p l e R s m args below meth c g nL (QT g below args s ret rm) kc ks pc ls st0 (fun mm => bT (F mm) P) := by
  intro H locs lsA lv vst mm r h1 h2 h3 h4 h5 h6
  subst hst
  obtain ⟨va, vst, rfl, ha, hb⟩ := srel_app h3
  obtain ⟨_, vst, rfl, rfl, hc2⟩ := srel_cons hb
  obtain ⟨x, hx, hy⟩ := Option.bind_eq_some_iff.mp h6
  have has : srel g As va.reverse := by
    have q := srel_rev ha
    rwa [List.reverse_reverse] at q
  have run := vx_runV (e := e) (below := below) (meth := meth) (locs := locs) (As := va.reverse) (rest := vst) (g := F0 m pc lsA _) ⟨C.1, C.2.1, C.2.2.1, C.2.2.2.1, C.2.2.2.2.1⟩ (hM mm x hx) (zs_cb C ml hRm) ⟨PcS_blind, zs_recv C h4 ho hcl, zs_pre C h4 h5 (svs := sR o :: As) (vs := .ref (g.1 + o) :: va.reverse) ⟨rfl, has⟩⟩ rfl ((srel_len has).trans hn) h1.1 (by rw [List.reverse_reverse]) (lv_room (by rw [srel_cat hc2]; exact hcat)) d hc
  refine zs_afterT run h5 (fun v H1 locs1 h0 hv hR1 hS1 => ?_) (fun E ce q H1 locs1 h0 hE1 hR1 hS1 hce hcv hcl2 => ?_)
  · obtain ⟨i, hv1, hi⟩ := zs_rint hret hv
    cases hv1
    rw [if_pos h0] at hy
    exact K x.2.1 H1 locs1 lsA lv _ x.2.2 r h1 h2 ⟨⟨i, rfl, hi⟩, hc2⟩ hR1 hS1 hy
  · rw [if_neg (by omega)] at hy
    cases hy
    exact vx_out (fun x hx => (hE x hx).elim) C.2.2.2.2.2.2.1 hce hcv hcl2 (fun t ht hA => ⟨h0, hE1, by rw [ht]; exact hR1, hS1.F ht⟩) hS1.2.2 hk.1 hk.2
theorem zs_cvTl (C : Bd g own cc nL p s m args meth c) {idx nL2 n : Nat} {y : MethodName} {bytes : ByteArray} {ret : Option FieldType} {rm rm2 : Room} {As st0 : List SV} {F : Mem → Option (Int × Int × Mem)} {P : Int → Mem → Option (Int × Int × Mem)} {ci o : Nat} {Cn : String} {T : u_T} {N : Nat} (hE : ∀ x ∈ c.exceptionTable.toList, False) (hM : ConT l g y bytes nL2 (some .long) rm2 (sR o :: As) F) (ml : ML own idx Cn y bytes nL2 (some .long) n) (ho : layL[o]? = some (.inl ci)) (hcl : vwCl[ci]? = some (Cn, T, N)) (hst : st0 = As.reverse ++ sR o :: st) (hn : As.length = n) (hcat : (st.map scat).sum ≤ 8) (hRm : rm2.frames + 1 ≤ R.frames ∧ 8 + (nL2 + 11) + rm2.locals ≤ R.locals) (hc : kc + rm2.cells ≤ R.cells ∧ ks + rm2.slots ≤ R.slots) (hk : kc + rm2.cells ≤ rm.cells ∧ ks + rm2.slots ≤ rm.slots) (d : decode cc pc = .ok (.invokevirtual idx, 3)) (K : ∀ x, Sim p l e R s m args below meth c g nL (QT g below args s ret rm) (kc + rm2.cells) (ks + rm2.slots) (pc+3) ls (sL x :: st) (P x)) : Sim p l e R s m args below meth c g nL (QT g below args s ret rm) kc ks pc ls st0 (fun mm => bT (F mm) P) := by
  intro H locs lsA lv vst mm r h1 h2 h3 h4 h5 h6
  subst hst
  obtain ⟨va, vst, rfl, ha, hb⟩ := srel_app h3
  obtain ⟨_, vst, rfl, rfl, hc2⟩ := srel_cons hb
  obtain ⟨x, hx, hy⟩ := Option.bind_eq_some_iff.mp h6
  have has : srel g As va.reverse := by
    have q := srel_rev ha
    rwa [List.reverse_reverse] at q
  have run := vx_runV (e := e) (below := below) (meth := meth) (locs := locs) (As := va.reverse) (rest := vst) (g := F0 m pc lsA _) ⟨C.1, C.2.1, C.2.2.1, C.2.2.2.1, C.2.2.2.2.1⟩ (hM mm x hx) (zs_cb C ml hRm) ⟨PcS_blind, zs_recv C h4 ho hcl, zs_pre C h4 h5 (svs := sR o :: As) (vs := .ref (g.1 + o) :: va.reverse) ⟨rfl, has⟩⟩ rfl ((srel_len has).trans hn) h1.1 (by rw [List.reverse_reverse]) (lv_room (by rw [srel_cat hc2]; exact hcat)) d hc
  refine zs_afterT run h5 (fun v H1 locs1 h0 hv hR1 hS1 => ?_) (fun E ce q H1 locs1 h0 hE1 hR1 hS1 hce hcv hcl2 => ?_)
  · obtain ⟨i, hv1, hi⟩ := hv
    cases hv1
    rw [if_pos h0] at hy
    exact K x.2.1 H1 locs1 lsA lv _ x.2.2 r h1 h2 ⟨⟨i, rfl, hi⟩, hc2⟩ hR1 hS1 hy
  · rw [if_neg (by omega)] at hy
    cases hy
    exact vx_out (fun x hx => (hE x hx).elim) C.2.2.2.2.2.2.1 hce hcv hcl2 (fun t ht hA => ⟨h0, hE1, by rw [ht]; exact hR1, hS1.F ht⟩) hS1.2.2 hk.1 hk.2
theorem zs_cvTv (C : Bd g own cc nL p s m args meth c) {idx nL2 n : Nat} {y : MethodName} {bytes : ByteArray} {ret : Option FieldType} {rm rm2 : Room} {As st0 : List SV} {F : Mem → Option (Int × Int × Mem)} {P : Mem → Option (Int × Int × Mem)} {ci o : Nat} {Cn : String} {T : u_T} {N : Nat} (hE : ∀ x ∈ c.exceptionTable.toList, False) (hM : ConT l g y bytes nL2 none rm2 (sR o :: As) F) (ml : ML own idx Cn y bytes nL2 none n) (ho : layL[o]? = some (.inl ci)) (hcl : vwCl[ci]? = some (Cn, T, N)) (hst : st0 = As.reverse ++ sR o :: st) (hn : As.length = n) (hcat : (st.map scat).sum ≤ 8) (hRm : rm2.frames + 1 ≤ R.frames ∧ 8 + (nL2 + 11) + rm2.locals ≤ R.locals) (hc : kc + rm2.cells ≤ R.cells ∧ ks + rm2.slots ≤ R.slots) (hk : kc + rm2.cells ≤ rm.cells ∧ ks + rm2.slots ≤ rm.slots) (d : decode cc pc = .ok (.invokevirtual idx, 3)) (K : Sim p l e R s m args below meth c g nL (QT g below args s ret rm) (kc + rm2.cells) (ks + rm2.slots) (pc+3) ls st P) : Sim p l e R s m args below meth c g nL (QT g below args s ret rm) kc ks pc ls st0 (fun mm => bX (F mm) P) := by
  intro H locs lsA lv vst mm r h1 h2 h3 h4 h5 h6
  subst hst
  obtain ⟨va, vst, rfl, ha, hb⟩ := srel_app h3
  obtain ⟨_, vst, rfl, rfl, hc2⟩ := srel_cons hb
  obtain ⟨x, hx, hy⟩ := Option.bind_eq_some_iff.mp h6
  have has : srel g As va.reverse := by
    have q := srel_rev ha
    rwa [List.reverse_reverse] at q
  have run := vx_runV (e := e) (below := below) (meth := meth) (locs := locs) (As := va.reverse) (rest := vst) (g := F0 m pc lsA _) ⟨C.1, C.2.1, C.2.2.1, C.2.2.2.1, C.2.2.2.2.1⟩ (hM mm x hx) (zs_cb C ml hRm) ⟨PcS_blind, zs_recv C h4 ho hcl, zs_pre C h4 h5 (svs := sR o :: As) (vs := .ref (g.1 + o) :: va.reverse) ⟨rfl, has⟩⟩ rfl ((srel_len has).trans hn) h1.1 (by rw [List.reverse_reverse]) (lv_room (by rw [srel_cat hc2]; exact hcat)) d hc
  refine zs_afterT run h5 (fun v H1 locs1 h0 hv hR1 hS1 => ?_) (fun E ce q H1 locs1 h0 hE1 hR1 hS1 hce hcv hcl2 => ?_)
  · cases hv
    rw [if_pos h0] at hy
    exact K H1 locs1 lsA lv _ x.2.2 r h1 h2 hc2 hR1 hS1 hy
  · rw [if_neg (by omega)] at hy
    cases hy
    exact vx_out (fun x hx => (hE x hx).elim) C.2.2.2.2.2.2.1 hce hcv hcl2 (fun t ht hA => ⟨h0, hE1, by rw [ht]; exact hR1, hS1.F ht⟩) hS1.2.2 hk.1 hk.2
theorem zs_throw (C : Bd g own cc nL p s m args meth c) {ret : Option FieldType} {rm : Room} {E text : String} {names : List String} {ik is_ ic : Nat} {k : Int} (hE : ∀ x ∈ c.exceptionTable.toList, False) (hl : l.stackTraces = false) (hk : 0 < k ∧ exN[k.toNat - 1]? = some E) (hfit : Bundle.fit E = true ∧ ∀ n ∈ names, Bundle.fit n = true)
    (w1 : Cond.classLink own ik E ∈ LW) (w2 : Cond.initialized E ∈ LW) (hs : (own, is_, text) ∈ exT) (hat : ∀ w ∈ (vx_atS own ic E names), w ∈ LW ∨ w ∈ exW) (hgood : ∀ w ∈ Cond.classLink own ik E :: Cond.initialized E :: vx_atS own ic E names, vx_ot w = true)
    (hf : names.length + 3 < R.frames ∧ (st.map scat).sum + (13 * (names.length + 1) + 43) ≤ R.locals ∧ kc + 1 ≤ R.cells ∧ ks + 6 ≤ R.slots) (hc : kc + 1 ≤ rm.cells ∧ ks + 6 ≤ rm.slots)
    (d0 : decode cc pc = .ok (.new ik, 3)) (d3 : decode cc (pc + 3) = .ok (.dup, 1)) (d4 : decode cc (pc + 4) = .ok (.ldc is_, 2)) (d6 : decode cc (pc + 6) = .ok (.invokespecial ic, 3)) (d9 : decode cc (pc + 9) = .ok (.athrow, 1)) : Sim p l e R s m args below meth c g nL (QT g below args s ret rm) kc ks pc ls st (fun mm => some (k, 0, mm)) := by
  intro H locs lsA lv vst mm r h1 h2 h3 h4 h5 h6
  replace h6 : some (k, 0, mm) = some r := h6
  cases h6
  have hts := C.2.2.2.2.1
  have hX := C.2.2.2.2.2.1.2
  obtain ⟨sa, hsa⟩ := hX.2.2.2.2.2.2.1 _ hs
  refine vx_throwS C.1 C.2.1 hl C.2.2.2.1 hfit.1 hfit.2 (hts _ w1) (hts _ w2) hsa (fun w hw => (hat w hw).elim (hts w) (fun q => va_Nw.use (exW_ok w q).2 (hX.2.2.2.2.2.2.2.1 w q))) hgood hX.2.2.2.1 hX.2.2.2.2.1 h5 (h1.1.trans C.2.2.1.symm) d0 d3 d4 d6 d9 (fun x hx => (hE x hx).elim) hf.1 (by rw [srel_cat h3]; exact hf.2.1) hf.2.2.1 hf.2.2.2 C.2.2.2.2.2.2.1 (fun t hA hz hq => ⟨hk.1, hk.2, ?_, ?_⟩) h5.2.2 hc.1 hc.2
  · obtain ⟨En, hP, hE2⟩ := h4
    exact ⟨En, hP.kept (fun k q hk => hq q.1 ((hP k q hk).lt)), hE2⟩
  · exact ⟨Nat.le_trans h5.1 hz, fun q h1 h2 => by rw [hq q (Nat.lt_of_lt_of_le h1 h5.1)]; exact h5.2.1 q h1 h2⟩
theorem zs_throwW (C : Bd g own cc nL p s m args meth c) {ret : Option FieldType} {rm : Room} {E text : String} {names : List String} {ik is_ ic : Nat} {k : Int} (hE : ∀ x ∈ c.exceptionTable.toList, False) (hl : l.stackTraces = false) (hk : 0 < k ∧ exN[k.toNat - 1]? = some E) (hfit : Bundle.fit E = true ∧ ∀ n ∈ names, Bundle.fit n = true)
    (w1 : Cond.classLink own ik E ∈ LW) (w2 : Cond.initialized E ∈ LW) (hs : (own, is_, text) ∈ exT) (hat : ∀ w ∈ (vx_atS own ic E names), w ∈ LW ∨ w ∈ exW) (hgood : ∀ w ∈ Cond.classLink own ik E :: Cond.initialized E :: vx_atS own ic E names, vx_ot w = true)
    (hf : names.length + 3 < R.frames ∧ (st.map scat).sum + (13 * (names.length + 1) + 43) ≤ R.locals ∧ kc + 1 ≤ R.cells ∧ ks + 6 ≤ R.slots) (hc : kc + 1 ≤ rm.cells ∧ ks + 6 ≤ rm.slots)
    (d0 : decode cc pc = .ok (.new ik, 3)) (d3 : decode cc (pc + 3) = .ok (.dup, 1)) (d4 : decode cc (pc + 4) = .ok (.ldc_w is_, 3)) (d6 : decode cc (pc + 7) = .ok (.invokespecial ic, 3)) (d9 : decode cc (pc + 10) = .ok (.athrow, 1)) : Sim p l e R s m args below meth c g nL (QT g below args s ret rm) kc ks pc ls st (fun mm => some (k, 0, mm)) := by
  intro H locs lsA lv vst mm r h1 h2 h3 h4 h5 h6
  replace h6 : some (k, 0, mm) = some r := h6
  cases h6
  have hts := C.2.2.2.2.1
  have hX := C.2.2.2.2.2.1.2
  obtain ⟨sa, hsa⟩ := hX.2.2.2.2.2.2.1 _ hs
  refine vx_throwSW C.1 C.2.1 hl C.2.2.2.1 hfit.1 hfit.2 (hts _ w1) (hts _ w2) hsa (fun w hw => (hat w hw).elim (hts w) (fun q => va_Nw.use (exW_ok w q).2 (hX.2.2.2.2.2.2.2.1 w q))) hgood hX.2.2.2.1 hX.2.2.2.2.1 h5 (h1.1.trans C.2.2.1.symm) d0 d3 d4 d6 d9 (fun x hx => (hE x hx).elim) hf.1 (by rw [srel_cat h3]; exact hf.2.1) hf.2.2.1 hf.2.2.2 C.2.2.2.2.2.2.1 (fun t hA hz hq => ⟨hk.1, hk.2, ?_, ?_⟩) h5.2.2 hc.1 hc.2
  · obtain ⟨En, hP, hE2⟩ := h4
    exact ⟨En, hP.kept (fun k q hk => hq q.1 ((hP k q hk).lt)), hE2⟩
  · exact ⟨Nat.le_trans h5.1 hz, fun q h1 h2 => by rw [hq q (Nat.lt_of_lt_of_le h1 h5.1)]; exact h5.2.1 q h1 h2⟩
end SIMS
theorem zs_ofT {l : Launch} {g : GC} {y : MethodName} {cc : ByteArray} {nL : Nat} {ret : Option FieldType} {rm : Room} {svs : List SV} {F : Mem → Option (Int × Int × Mem)} (hy : plainName y.cls = true) (hn : (svs.map scat).sum ≤ nL)
    (body : ∀ (p : Program) (e : Env) (s : State) (m : MethodId) (args : Array Value) (below : List Frame) (meth : Method) (c : Code), Bd g y.cls cc nL p s m args meth c → meth.sig.returnType = ret → (∀ x ∈ c.exceptionTable.toList, False) → Sim p l e rm s m args below meth c g nL (QT g below args s ret rm) 0 0 0 (slv 0 svs) [] F) : ConT l g y cc nL ret rm svs F := by
  intro mm x hx
  refine vx_ofW (cc := cc) (maxL := nL) (ret := ret) hy rfl ?_
  intro p e s m args below meth c s₁ B hml hE hP
  obtain ⟨vs, rfl, h2, h3, h4, h5⟩ := hP
  have C : Bd g y.cls cc nL p s m vs.toArray meth c := ⟨B.exec, B.bytes, hml, findClass_of_methodNamed B.named, fun w h => atoms_spec B.pre w (List.mem_cons_of_mem _ h), h4, B.notSynchronized, h5⟩
  have hS : va_S (fun q => g.1 ≤ q) s.heap s.heap [] := va_S.rf
  have hl := lv_entry vs (n := nL) (by rw [zs_sl h2]; exact hn)
  rw [lg_entry_eq]
  exact body p e s m vs.toArray below meth c C B.returns hE s.heap [] _ _ [] mm x hl (slv_rel 0 h2) trivial h3 hS hx

/-! ===== CORE 8: constructors, over a heap that holds just the cells made so far ===== -/
abbrev CE : Type := Nat × Nat × List (Nat × Int)
def toV (g : GC) : Nat × Int → Value
  | (0, x) => .int (Int32.ofInt x)
  | (1, x) => .long (Int64.ofInt x)
  | (2, x) => .ref (g.1 + x.toNat)
  | _ => .null
def toQ (g : GC) : Nat × Int → Option Nat
  | (2, x) => some (g.1 + x.toNat)
  | _ => none
def toE (g : GC) (e : CE) : va_E := match e.1 with
  | 0 => .inr (e.2.1, e.2.2.map (toV g))
  | 2 => .inl (g.2.2.1 1, e.2.1, .inr (.inl (fun i => Int64.ofInt (e.2.2.getD i (1, 0)).2)))
  | t + 1 => if t < 4 then .inl (g.2.2.1 t, e.2.1, .inl (fun i => Int32.ofInt (e.2.2.getD i (0, 0)).2)) else .inl (g.2.2.1 t, e.2.1, .inr (.inr (.inr (.inr (fun i => toQ g (e.2.2.getD i (3, 0)))))))
def wsC (g : GC) (W : List CE) : va_W := (List.range W.length).map (fun i => (g.1 + i, toE g (W.getD i (0, 0, []))))
def RelC (g : GC) (W : List CE) (H : Heap) : Prop := H.size = g.1 + W.length ∧ va_P g.2.1 vwCl (wsC g W) H
theorem wsC_len {g : GC} {W : List CE} : (wsC g W).length = W.length := by unfold wsC; rw [List.length_map, List.length_range]
theorem wsC_at {g : GC} {W : List CE} {k : Nat} {e : CE} (h : W[k]? = some e) : (wsC g W)[k]? = some (g.1 + k, toE g e) := by
  have hl := (List.getElem?_eq_some_iff.mp h).1
  unfold wsC
  rw [List.getElem?_map, List.getElem?_range hl]
  simp [List.getD_eq_getElem?_getD, h]
theorem wsC_inv {g : GC} {W : List CE} {k : Nat} {q : Nat × va_E} (h : (wsC g W)[k]? = some q) : ∃ e, W[k]? = some e ∧ q = (g.1 + k, toE g e) := by
  have hl := (List.getElem?_eq_some_iff.mp h).1
  rw [wsC_len] at hl
  refine ⟨W[k], List.getElem?_eq_getElem hl, ?_⟩
  have := wsC_at (g := g) (List.getElem?_eq_getElem hl)
  exact Option.some.inj (h.symm.trans this)
theorem wsC_push {g : GC} {W : List CE} {e : CE} : wsC g (W ++ [e]) = wsC g W ++ [(g.1 + W.length, toE g e)] := by
  apply List.ext_getElem?
  intro k
  by_cases hk : k < W.length
  · rw [wsC_at (e := W[k]) (by rw [List.getElem?_append_left hk, List.getElem?_eq_getElem hk]), List.getElem?_append_left (by rw [wsC_len]; exact hk), wsC_at (List.getElem?_eq_getElem hk)]
  · by_cases hk2 : k = W.length
    · subst hk2
      rw [wsC_at (e := e) (by simp), List.getElem?_append_right (by rw [wsC_len]; exact Nat.le_refl _), wsC_len]
      simp
    · rw [List.getElem?_eq_none (by rw [wsC_len, List.length_append]; simp; omega), List.getElem?_eq_none (by rw [List.length_append, wsC_len]; simp; omega)]
theorem wsC_set {g : GC} {W : List CE} {k : Nat} {e : CE} : wsC g (W.set k e) = (wsC g W).set k (g.1 + k, toE g e) := by
  apply List.ext_getElem?
  intro j
  rw [List.getElem?_set, wsC_len]
  by_cases hj : j < W.length
  · by_cases hkj : k = j
    · subst hkj
      rw [if_pos rfl, if_pos hj]
      exact wsC_at (by rw [List.getElem?_set, if_pos rfl, if_pos hj])
    · rw [if_neg hkj, wsC_at (List.getElem?_eq_getElem hj)]
      exact wsC_at (by rw [List.getElem?_set, if_neg hkj]; exact List.getElem?_eq_getElem hj)
  · have h1 : (wsC g (W.set k e))[j]? = none := List.getElem?_eq_none (by rw [wsC_len, List.length_set]; omega)
    have h2 : (wsC g W)[j]? = none := List.getElem?_eq_none (by rw [wsC_len]; omega)
    rw [h1, h2]
    by_cases hkj : k = j
    · subst hkj
      rw [if_pos rfl, if_neg hj]
    · rw [if_neg hkj]
theorem wsC_D {g : GC} {W : List CE} : va_D (fun q => g.1 ≤ q) (wsC g W) := by
  refine ⟨fun i j p q hi hj he => ?_, fun k q hk => ?_⟩
  · obtain ⟨a, -, rfl⟩ := wsC_inv hi
    obtain ⟨b, -, rfl⟩ := wsC_inv hj
    have he2 : g.1 + i = g.1 + j := he
    omega
  · obtain ⟨a, -, rfl⟩ := wsC_inv hk
    exact Nat.le_add_right _ _
theorem wsC_ge {g : GC} {W : List CE} {H : Heap} (h : va_P g.2.1 vwCl (wsC g W) H) (hW : W ≠ []) : g.1 + W.length ≤ H.size := by
  have hl : 0 < W.length := List.length_pos_iff.mpr hW
  have hk := (h (W.length - 1) _ (wsC_at (List.getElem?_eq_getElem (by omega)))).lt
  have hk2 : g.1 + (W.length - 1) < H.size := hk
  omega
theorem W_size {p : Program} {l : Launch} {e : Env} {R : Room} {s : State} {m : MethodId} {args : Array Value} {below : List Frame} {meth : Method} {c : Code} {H : Heap} {locs : List Loc} {kc ks : Nat} {Q : State → Prop} {f : JFrame} (h : H.size ≤ s.heap.size + kc → W p l e R s m args below meth c H locs kc ks Q f) : W p l e R s m args below meth c H locs kc ks Q f := by
  intro T hT X
  refine h ?_ T hT X
  have hz := X.same.2.2.1
  rw [← hT]
  exact hz
/-- the words of calls between nest mates -/
def isNest (w : Cond) : Bool := match w with
  | .methodLinkNest .. => true
  | _ => false
def nestW : List Cond := lw_tbl.filter isNest
def KI (U : State) : Prop := (∀ w ∈ nestW, va_Nw w U) ∧ va_AO "RopeWeds$Life" U ∧ va_AO "RopeWeds$World" U ∧ (Cond.arrayOver (.array .long)).before #[] U = true
theorem KI_moved {s U : State} (hW : s.WarmedH U.vm) (h : KI s) : KI U := by
  refine ⟨fun w hw => ?_, h.2.1.moved hW.alike, h.2.2.1.moved hW.alike, arrayOver_alikeB hW.alike h.2.2.2⟩
  have hn := (List.mem_filter.mp hw).2
  have h1 := h.1 w hw
  unfold isNest at hn
  split at hn
  · exact va_Nw.warmM hW h1
  · cases hn
def PcI (g : GC) (W : List CE) (o : Nat) : Array Value → State → Prop := fun a U => a = #[.ref (g.1 + o)] ∧ RelC g W U.heap ∧ Kn g U ∧ KI U ∧ g.1 ≤ U.heap.size
def QcI (g : GC) (W : List CE) : Array Value → State → Outcome → State → Prop := fun _ st oc t => oc = .returned none ∧ RelC g W t.heap ∧ va_F (fun q => g.1 ≤ q) st t
/-- a constructor: in front of it any cells and its fresh object; behind it seg is there -/
def ConI (l : Launch) (g : GC) (y : MethodName) (cc : ByteArray) (nL : Nat) (rm : Room) (ci : Nat) (fs : List (Nat × Int)) (seg : Nat → List CE) : Prop := ∀ W0 : List CE, Met l y (Cond.code y cc nL none :: LW) rm (PcI g (W0 ++ [(0, ci, fs)]) W0.length) (QcI g (W0 ++ seg W0.length)) rm.cells rm.slots (fun q => g.1 ≤ q)
theorem PcI_blind {g : GC} {W : List CE} {o : Nat} : FrameBlind (PcI g W o) := by
  intro a U gf mk h
  obtain ⟨h1, h2, h3, h4, h5⟩ := h
  exact ⟨h1, h2, Kn_moved (A := fun _ => False) (fun _ h => h.elim) h3 (State.WarmedH.refl U) (Nat.le_refl _) (fun _ _ _ => rfl), KI_moved (State.WarmedH.refl U) h4, h5⟩
def SimI (p : Program) (l : Launch) (e : Env) (R : Room) (s : State) (m : MethodId) (args : Array Value) (below : List Frame) (meth : Method) (c : Code) (g : GC) (nL : Nat) (Q : State → Prop) (W0 : List CE) (kc ks pc : Nat) (ls : List (Nat × SV)) (st : List SV) (T : List CE) : Prop :=
  ∀ (H : Heap) (locs : List Loc) (lsA : Array Slot) (lv : List (Nat × Value)) (vst : List Value), lv_has lsA nL lv → lrel g ls lv → srel g st vst → RelC g (W0 ++ T) H → va_S (fun q => g.1 ≤ q) s.heap H locs → s.heap.size + kc = g.1 + (W0 ++ T).length → W p l e R s m args below meth c H locs kc ks Q (F0 m pc lsA vst)
theorem zi_of {l : Launch} {g : GC} {y : MethodName} {cc : ByteArray} {nL : Nat} {rm : Room} {ci : Nat} {fs : List (Nat × Int)} {seg : Nat → List CE} (hy : plainName y.cls = true) (hyn : y.name = "<init>") (hn : 1 ≤ nL)
    (body : ∀ (p : Program) (e : Env) (s : State) (m : MethodId) (args : Array Value) (below : List Frame) (meth : Method) (c : Code) (W0 : List CE), Bd g y.cls cc nL p s m args meth c → KI s → meth.name = "<init>" → meth.sig.returnType = none → SimI p l e rm s m args below meth c g nL (MQ below (QcI g (W0 ++ seg W0.length)) args s rm.cells rm.slots (fun q => g.1 ≤ q)) W0 0 0 0 [(0, sR W0.length)] [] [(0, ci, fs)]) : ConI l g y cc nL rm ci fs seg := by
  intro W0
  refine Met.ofW (cc := cc) (maxL := nL) (ret := none) hy rfl ?_
  intro p e s m args below meth c s₁ B hml hP
  obtain ⟨rfl, h3, h4, h6, h5⟩ := hP
  have C : Bd g y.cls cc nL p s m #[.ref (g.1 + W0.length)] meth c := ⟨B.exec, B.bytes, hml, findClass_of_methodNamed B.named, fun w h => atoms_spec B.pre w (List.mem_cons_of_mem _ h), h4, B.notSynchronized, h5⟩
  have hS : va_S (fun q => g.1 ≤ q) s.heap s.heap [] := va_S.rf
  have hl := lv_entry [Value.ref (g.1 + W0.length)] (n := nL) hn
  have hnm : meth.name = "<init>" := (name_of_methodNamed B.named B.method).1.trans hyn
  have hW := body p e s m _ below meth c W0 C h6 hnm B.returns s.heap [] _ _ [] hl (slv_rel (g := g) (l := [sR W0.length]) 0 ⟨rfl, trivial⟩) trivial h3 hS h3.1
  rw [← lg_entry_eq] at hW
  exact hW
def FWF (own : String) (ci k : Nat) (ty : FieldType) : Prop := ∃ (C : String) (T : u_T) (N : Nat) (ty0 : Nat → FieldType), vwCl[ci]? = some (C, T, N) ∧ N = (fkL ci).length ∧ (∀ k, k < N → parseFieldDescriptor (T k).2.2.1 = some (ty0 k)) ∧ (∀ a, a < N → ∀ b, b < N → a ≠ b → (T a).2.1 ≠ (T b).2.1) ∧ (T k).2.2.2 = true ∧ ty0 k = ty ∧ (T k).1 = own
section SIMIS
variable {p : Program} {l : Launch} {e : Env} {R : Room} {s : State} {m : MethodId} {args : Array Value} {below : List Frame} {meth : Method} {c : Code}
variable {g : GC} {own : String} {cc : ByteArray} {nL kc ks pc : Nat} {Q : State → Prop} {W0 : List CE} {ls : List (Nat × SV)} {st : List SV} {T : List CE}
theorem zi_aload0 (C : Bd g own cc nL p s m args meth c) {o : Nat} (d : decode cc pc = .ok (.aload_n 0, 1)) (hl : ls.lookup 0 = some (sR o)) (K : SimI p l e R s m args below meth c g nL Q W0 kc ks (pc+1) ls (sR o :: st) T) : SimI p l e R s m args below meth c g nL Q W0 kc ks pc ls st T := by
  intro H locs lsA lv vst h1 h2 h3 h4 h5 h6
  obtain ⟨j, v, hj, hz⟩ := lrel_at h2 hl
  cases hz
  exact lv_aload_n C.1 C.2.1 d rfl (lv_at h1 j hj) (K H locs lsA lv _ h1 h2 ⟨rfl, h3⟩ h4 h5 h6)
theorem zi_iload (C : Bd g own cc nL p s m args meth c) {k : Fin 4} {i : Nat} {x : Int} (d : decode cc pc = .ok (.iload_n k, 1)) (hi : (k : Nat) = i) (hl : ls.lookup i = some (sI x)) (K : SimI p l e R s m args below meth c g nL Q W0 kc ks (pc+1) ls (sI x :: st) T) : SimI p l e R s m args below meth c g nL Q W0 kc ks pc ls st T := by
  intro H locs lsA lv vst h1 h2 h3 h4 h5 h6
  obtain ⟨j, v, hj, z, rfl, hz⟩ := lrel_at h2 hl
  exact lv_iload_n C.1 C.2.1 d hi (lv_at h1 j hj) (K H locs lsA lv _ h1 h2 ⟨⟨z, rfl, hz⟩, h3⟩ h4 h5 h6)
theorem zi_istore (C : Bd g own cc nL p s m args meth c) {k : Fin 4} {i : Nat} {x : Int} {ls' : List (Nat × SV)} (d : decode cc pc = .ok (.istore_n k, 1)) (hi : (k : Nat) = i) (hn : i < nL) (hf : (i, sI x) :: ls.filter (fun q => !(q.1 == i) && !(q.1 + 1 == i && isL q.2)) = ls') (K : SimI p l e R s m args below meth c g nL Q W0 kc ks (pc+1) ls' st T) : SimI p l e R s m args below meth c g nL Q W0 kc ks pc ls (sI x :: st) T := by
  intro H locs lsA lv vst h1 h2 h3 h4 h5 h6
  obtain ⟨_, vst1, rfl, ⟨z, rfl, hz⟩, k1_⟩ := srel_cons h3
  refine lv_istore_n C.1 C.2.1 d hi h1 hn rfl (fun lsA' h1' => K H locs lsA' _ _ h1' ?_ k1_ h4 h5 h6)
  rw [← hf]
  exact ⟨⟨rfl, ⟨z, rfl, hz⟩⟩, lrel_filter (fun a b hab hv => by rw [vrel_cat hv, hab]) h2⟩
theorem zi_iconst (C : Bd g own cc nL p s m args meth c) {n x : Int} (d : decode cc pc = .ok (.iconst n, 1)) (hx : (Int32.ofInt n).toInt = x) (K : SimI p l e R s m args below meth c g nL Q W0 kc ks (pc+1) ls (sI x :: st) T) : SimI p l e R s m args below meth c g nL Q W0 kc ks pc ls st T := by
  intro H locs lsA lv vst h1 h2 h3 h4 h5 h6
  exact lv_iconst C.1 C.2.1 d rfl (K H locs lsA lv _ h1 h2 ⟨⟨_, rfl, hx⟩, h3⟩ h4 h5 h6)
theorem zi_bipush (C : Bd g own cc nL p s m args meth c) {n x : Int} (d : decode cc pc = .ok (.bipush n, 2)) (hx : (Int8.ofInt n).toInt32.toInt = x) (K : SimI p l e R s m args below meth c g nL Q W0 kc ks (pc+2) ls (sI x :: st) T) : SimI p l e R s m args below meth c g nL Q W0 kc ks pc ls st T := by
  intro H locs lsA lv vst h1 h2 h3 h4 h5 h6
  exact lv_bipush C.1 C.2.1 d rfl (K H locs lsA lv _ h1 h2 ⟨⟨_, rfl, hx⟩, h3⟩ h4 h5 h6)
theorem zi_sipush (C : Bd g own cc nL p s m args meth c) {n x : Int} (d : decode cc pc = .ok (.sipush n, 3)) (hx : (Int16.ofInt n).toInt32.toInt = x) (K : SimI p l e R s m args below meth c g nL Q W0 kc ks (pc+3) ls (sI x :: st) T) : SimI p l e R s m args below meth c g nL Q W0 kc ks pc ls st T := by
  intro H locs lsA lv vst h1 h2 h3 h4 h5 h6
  exact lv_sipush C.1 C.2.1 d rfl (K H locs lsA lv _ h1 h2 ⟨⟨_, rfl, hx⟩, h3⟩ h4 h5 h6)
theorem zi_dup (C : Bd g own cc nL p s m args meth c) {o : Nat} (d : decode cc pc = .ok (.dup, 1)) (K : SimI p l e R s m args below meth c g nL Q W0 kc ks (pc+1) ls (sR o :: sR o :: st) T) : SimI p l e R s m args below meth c g nL Q W0 kc ks pc ls (sR o :: st) T := by
  intro H locs lsA lv vst h1 h2 h3 h4 h5 h6
  obtain ⟨_, vst1, rfl, rfl, k1_⟩ := srel_cons h3
  exact lv_dup C.1 C.2.1 d rfl (K H locs lsA lv _ h1 h2 ⟨rfl, rfl, k1_⟩ h4 h5 h6)
theorem zi_goto (C : Bd g own cc nL p s m args meth c) {off : Int} {tgt : Nat} (d : decode cc pc = .ok (.goto off, 3)) (ht : (pc : Int) + off = tgt) (K : SimI p l e R s m args below meth c g nL Q W0 kc ks tgt ls st T) : SimI p l e R s m args below meth c g nL Q W0 kc ks pc ls st T := by
  intro H locs lsA lv vst h1 h2 h3 h4 h5 h6
  exact lv_goto C.1 C.2.1 d ht (K H locs lsA lv _ h1 h2 h3 h4 h5 h6)
theorem zi_ret (C : Bd g own cc nL p s m args meth c) {rm : Room} {Wf : List CE} (hr : meth.sig.returnType = none) (hk : kc ≤ rm.cells ∧ ks ≤ rm.slots) (d : decode cc pc = .ok (.return_, 1)) (hT : W0 ++ T = Wf) : SimI p l e R s m args below meth c g nL (MQ below (QcI g Wf) args s rm.cells rm.slots (fun q => g.1 ≤ q)) W0 kc ks pc ls [] T := by
  intro H locs lsA lv vst h1 h2 h3 h4 h5 h6
  obtain rfl := srel_nil h3
  refine W.widen hk.1 hk.2 ?_
  exact W.vret C.1 C.2.1 hr (fun t ht hW => ⟨rfl, by rw [ht, ← hT]; exact h4, h5.F ht⟩) h5.2.2 d C.2.2.2.2.2.2.1
theorem zi_objInit (C : Bd g own cc nL p s m args meth c) {o idx : Nat} (w1 : Cond.methodLink own idx Lib.objectInit ∈ LW) (w2 : Cond.instanceMethod Lib.objectInit ∈ LW) (w3 : Cond.code Lib.objectInit ⟨#[0xb1]⟩ 1 none ∈ LW) (hf : 1 ≤ R.frames ∧ (st.map scat).sum + 12 ≤ R.locals) (d : decode cc pc = .ok (.invokespecial idx, 3)) (K : SimI p l e R s m args below meth c g nL Q W0 kc ks (pc+3) ls st T) : SimI p l e R s m args below meth c g nL Q W0 kc ks pc ls (sR o :: st) T := by
  intro H locs lsA lv vst h1 h2 h3 h4 h5 h6
  obtain ⟨_, vst1, rfl, rfl, k1_⟩ := srel_cons h3
  have hts := C.2.2.2.2.1
  exact W.objInit C.1 C.2.1 C.2.2.2.1 (hts _ w1) (hts _ w2) (hts _ w3) rfl (h1.1.trans C.2.2.1.symm) rfl d hf.1 (by rw [show 2 * (F0 m pc lsA _).monitorRoom = 0 from rfl, Nat.zero_add, srel_cat k1_]; exact hf.2) (K H locs lsA lv _ h1 h2 k1_ h4 h5 h6)
/-- 'own' field k of a fresh object: the cell at place j of T -/
theorem zi_putF (C : Bd g own cc nL p s m args meth c) (hin : meth.name = "<init>") {i ci k j o : Nat} {fs : List (Nat × Int)} {a : SV} {z : Nat × Int} {ty : FieldType} {T' : List CE} (d : decode cc pc = .ok (.putfield i, 3)) (fl : FL own i ci k) (fw : FWF own ci k ty) (hj : T[j]? = some (0, ci, fs)) (ho : W0.length + j = o) (hk : k < fs.length)
    (ha : ∀ v, vrel g a v → v = toV g z ∧ narrow ty v = v ∧ fits ty v = true) (hT : T.set j (0, ci, fs.set k z) = T') (K : SimI p l e R s m args below meth c g nL Q W0 kc ks (pc+3) ls st T') : SimI p l e R s m args below meth c g nL Q W0 kc ks pc ls (a :: sR o :: st) T := by
  intro H locs lsA lv vst h1 h2 h3 h4 h5 h6
  obtain ⟨v0, vst1, rfl, hv0, k1_⟩ := srel_cons h3
  obtain ⟨_, vst2, rfl, rfl, k2_⟩ := srel_cons k1_
  obtain ⟨Cn, TT, N, f1, f2, f3, f4⟩ := fl
  obtain ⟨Cn', TT', N', ty0, w1, w2, w3, w4, w5, w6, w7⟩ := fw
  rw [f1] at w1
  cases w1
  obtain ⟨a1, a2, a3⟩ := ha v0 hv0
  subst ho
  have hat : (W0 ++ T)[W0.length + j]? = some (0, ci, fs) := by rw [List.getElem?_append_right (Nat.le_add_right _ _), Nat.add_sub_cancel_left]; exact hj
  refine va_putF C.1 C.2.1 C.2.2.2.2.1 f3 ty0 w3 w4 C.2.2.2.1 C.2.2.2.2.2.1.1 h4.2 wsC_D h5 (W0.length + j) (wsC_at hat) f1 k f2 (C.2.2.2.2.1 _ f4) (fun _ h => h) w5 hin w7 (w3 k f2) (by rw [w6]; exact a2) (by rw [w6]; exact a3) (by rw [List.length_map]; exact hk) d (fun H1 locs1 hP1 hD1 hS1 => W_size (fun hz => ?_))
  have hW' : (W0 ++ T).set (W0.length + j) (0, ci, fs.set k z) = W0 ++ T' := by rw [List.set_append_right _ _ (Nat.le_add_right _ _), Nat.add_sub_cancel_left, hT]
  have hP2 : va_P g.2.1 vwCl (wsC g (W0 ++ T')) H1 := by
    rw [← hW', wsC_set]
    have he : toE g (0, ci, fs.set k z) = .inr (ci, (fs.map (toV g)).set k v0) := by rw [a1]; show Sum.inr _ = _; rw [List.map_set]
    rw [he]
    exact hP1
  have hlen : (W0 ++ T').length = (W0 ++ T).length := by rw [← hW', List.length_set]
  have hne : W0 ++ T' ≠ [] := fun q => by
    have := congrArg List.length q
    rw [hlen] at this
    have h9 := (List.getElem?_eq_some_iff.mp hat).1
    simp only [List.length_nil] at this
    omega
  exact K H1 locs1 lsA lv _ h1 h2 k2_ ⟨by have := wsC_ge hP2 hne; omega, hP2⟩ hS1 (by rw [hlen]; exact h6)
/-- a field that may change, k of a fresh object: the cell at place j of T -/
theorem zi_putN (C : Bd g own cc nL p s m args meth c) {i ci k j o : Nat} {fs : List (Nat × Int)} {a : SV} {z : Nat × Int} {ty : FieldType} {T' : List CE} (d : decode cc pc = .ok (.putfield i, 3)) (fl : FL own i ci k) (fw : FW ci k ty) (hj : T[j]? = some (0, ci, fs)) (ho : W0.length + j = o) (hk : k < fs.length)
    (ha : ∀ v, vrel g a v → v = toV g z ∧ narrow ty v = v ∧ fits ty v = true) (hT : T.set j (0, ci, fs.set k z) = T') (K : SimI p l e R s m args below meth c g nL Q W0 kc ks (pc+3) ls st T') : SimI p l e R s m args below meth c g nL Q W0 kc ks pc ls (a :: sR o :: st) T := by
  intro H locs lsA lv vst h1 h2 h3 h4 h5 h6
  obtain ⟨v0, vst1, rfl, hv0, k1_⟩ := srel_cons h3
  obtain ⟨_, vst2, rfl, rfl, k2_⟩ := srel_cons k1_
  obtain ⟨Cn, TT, N, f1, f2, f3, f4⟩ := fl
  obtain ⟨Cn', TT', N', ty0, w1, w2, w3, w4, w5, w6⟩ := fw
  rw [f1] at w1
  cases w1
  obtain ⟨a1, a2, a3⟩ := ha v0 hv0
  subst ho
  have hat : (W0 ++ T)[W0.length + j]? = some (0, ci, fs) := by rw [List.getElem?_append_right (Nat.le_add_right _ _), Nat.add_sub_cancel_left]; exact hj
  refine va_put C.1 C.2.1 C.2.2.2.2.1 f3 ty0 w3 w4 C.2.2.2.1 C.2.2.2.2.2.1.1 h4.2 wsC_D h5 (W0.length + j) (wsC_at hat) f1 k f2 (C.2.2.2.2.1 _ f4) (fun _ h => h) w5 (w3 k f2) (by rw [w6]; exact a2) (by rw [w6]; exact a3) (by rw [List.length_map]; exact hk) d (fun H1 locs1 hP1 hD1 hS1 => W_size (fun hz => ?_))
  have hW' : (W0 ++ T).set (W0.length + j) (0, ci, fs.set k z) = W0 ++ T' := by rw [List.set_append_right _ _ (Nat.le_add_right _ _), Nat.add_sub_cancel_left, hT]
  have hP2 : va_P g.2.1 vwCl (wsC g (W0 ++ T')) H1 := by
    rw [← hW', wsC_set]
    have he : toE g (0, ci, fs.set k z) = .inr (ci, (fs.map (toV g)).set k v0) := by rw [a1]; show Sum.inr _ = _; rw [List.map_set]
    rw [he]
    exact hP1
  have hlen : (W0 ++ T').length = (W0 ++ T).length := by rw [← hW', List.length_set]
  have hne : W0 ++ T' ≠ [] := fun q => by
    have := congrArg List.length q
    rw [hlen] at this
    have h9 := (List.getElem?_eq_some_iff.mp hat).1
    simp only [List.length_nil] at this
    omega
  exact K H1 locs1 lsA lv _ h1 h2 k2_ ⟨by have := wsC_ge hP2 hne; omega, hP2⟩ hS1 (by rw [hlen]; exact h6)
theorem vrel_toI {g : GC} {x : Int} (v : Value) (hv : vrel g (sI x) v) (hx : (Int32.ofInt x).toInt = x) : v = toV g (0, x) ∧ narrow .int v = v ∧ fits .int v = true := by
  obtain ⟨i, rfl, hi⟩ := hv
  have : i = Int32.ofInt x := Int32.toInt_inj.mp (by rw [hi, hx])
  subst this
  exact ⟨rfl, rfl, rfl⟩
theorem zi_putI (C : Bd g own cc nL p s m args meth c) {i ci k j o : Nat} {fs : List (Nat × Int)} {x : Int} {T' : List CE} (hx : (Int32.ofInt x).toInt = x) (d : decode cc pc = .ok (.putfield i, 3)) (fl : FL own i ci k) (fw : FW ci k .int) (hj : T[j]? = some (0, ci, fs)) (ho : W0.length + j = o) (hk : k < fs.length) (hT : T.set j (0, ci, fs.set k (0, x)) = T') (K : SimI p l e R s m args below meth c g nL Q W0 kc ks (pc+3) ls st T') : SimI p l e R s m args below meth c g nL Q W0 kc ks pc ls (sI x :: sR o :: st) T :=
  zi_putN C d fl fw hj ho hk (fun v hv => vrel_toI v hv hx) hT K
theorem zi_new (C : Bd g own cc nL p s m args meth c) {i ci o : Nat} {fs : List (Nat × Int)} {T' : List CE} {Cn : String} {TT : u_T} {N : Nat} {ty0 : Nat → FieldType} (d : decode cc pc = .ok (.new i, 3)) (hc : vwCl[ci]? = some (Cn, TT, N)) (hw : ∀ w ∈ u_ws Cn TT N, w ∈ LW) (hty : ∀ k, k < N → parseFieldDescriptor (TT k).2.2.1 = some (ty0 k)) (w1 : Cond.classLink own i Cn ∈ LW) (w2 : Cond.instantiable Cn N ∈ LW) (w3 : Cond.initialized Cn ∈ LW)
    (hfs : ∀ j, j < N → ∀ g : GC, defaultValue (ty0 j) = vp_V (fs.map (toV g)) j) (ho : W0.length + T.length = o) (hT : T ++ [(0, ci, fs)] = T') (hcc : kc + 1 ≤ R.cells) (hs : ks + N ≤ R.slots) (K : SimI p l e R s m args below meth c g nL Q W0 (kc + 1) (ks + N) (pc+3) ls (sR o :: st) T') : SimI p l e R s m args below meth c g nL Q W0 kc ks pc ls st T := by
  intro H locs lsA lv vst h1 h2 h3 h4 h5 h6
  have hts := C.2.2.2.2.1
  have hKn := C.2.2.2.2.2.1.1.1 ci _ hc
  refine W.newcK C.1 C.2.1 C.2.2.2.1 (hts _ w1) (hts _ w2) (hts _ w3) rfl d hcc hs hKn.2.1 rfl fun H1 kC hkC e1 z1 o1 => ?_
  have hz : H.size = g.1 + (W0.length + T.length) := by rw [h4.1, List.length_append]
  have hg : g.1 ≤ H.size := by omega
  have hk : ∀ (k : Nat) (x : Nat × va_E), (wsC g (W0 ++ T))[k]? = some x → H1[x.1]? = H[x.1]? := fun k x hx => o1 x.1 ((h4.2 k x hx).lt)
  have hP1 : va_P g.2.1 vwCl (wsC g (W0 ++ T')) H1 := by
    rw [← hT, ← List.append_assoc, wsC_push]
    refine (h4.2.kept hk).app (fun k x hx => ?_)
    have hz2 : k < 1 := (List.getElem?_eq_some_iff.mp hx).1
    rw [show k = 0 by omega] at hx
    cases hx
    rw [List.length_append, ← hz]
    exact ⟨_, hc, (u_born ty0 hts hw hKn hkC e1 hty).to (fun j hj => hfs j hj g)⟩
  have hl : (W0 ++ T').length = (W0 ++ T).length + 1 := by rw [← hT]; simp [Nat.add_assoc]
  subst ho
  rw [hz]
  exact K H1 locs lsA lv _ h1 h2 ⟨rfl, h3⟩ ⟨by rw [z1, h4.1, hl]; omega, hP1⟩ ⟨Nat.le_trans h5.1 (by omega), fun x a1 a2 => (o1 x (Nat.lt_of_lt_of_le a1 h5.1)).trans (h5.2.1 x a1 a2), h5.2.2⟩ (by rw [hl]; omega)
theorem zi_pushed {H H1 : Heap} {locs : List Loc} {T T' : List CE} {ce : CE} {s0 : Heap} (h4 : RelC g (W0 ++ T) H) (h5 : va_S (fun q => g.1 ≤ q) s0 H locs) (hT : T ++ [ce] = T') (z1 : H1.size = H.size + 1) (o1 : ∀ q, q < H.size → H1[q]? = H[q]?) (hat : va_at g.2.1 vwCl (H.size, toE g ce) H1) : RelC g (W0 ++ T') H1 ∧ va_S (fun q => g.1 ≤ q) s0 H1 locs ∧ (W0 ++ T').length = (W0 ++ T).length + 1 := by
  have hz : H.size = g.1 + (W0 ++ T).length := h4.1
  have hl : (W0 ++ T').length = (W0 ++ T).length + 1 := by rw [← hT]; simp [Nat.add_assoc]
  have hk : ∀ (k : Nat) (x : Nat × va_E), (wsC g (W0 ++ T))[k]? = some x → H1[x.1]? = H[x.1]? := fun k x hx => o1 x.1 ((h4.2 k x hx).lt)
  refine ⟨⟨by rw [z1, h4.1, hl]; omega, ?_⟩, ⟨Nat.le_trans h5.1 (by omega), fun x a1 a2 => (o1 x (Nat.lt_of_lt_of_le a1 h5.1)).trans (h5.2.1 x a1 a2), h5.2.2⟩, hl⟩
  rw [← hT, ← List.append_assoc, wsC_push]
  refine (h4.2.kept hk).app (fun k x hx => ?_)
  have hz2 : k < 1 := (List.getElem?_eq_some_iff.mp hx).1
  rw [show k = 0 by omega] at hx
  cases hx
  rw [← hz]
  exact hat
theorem zi_newa0 (C : Bd g own cc nL p s m args meth c) {n : Int} {N o : Nat} {T' : List CE} (d : decode cc pc = .ok (.newarray .int, 2)) (w : Cond.arrayClass .int ∈ LW) (hn : n = (N : Int)) (hN : N ≤ 60000000) (ho : W0.length + T.length = o) (hT : T ++ [(1, N, [])] = T') (hcc : kc + 1 ≤ R.cells) (hs : ks + N ≤ R.slots) (K : SimI p l e R s m args below meth c g nL Q W0 (kc + 1) (ks + N) (pc+2) ls (sR o :: st) T') : SimI p l e R s m args below meth c g nL Q W0 kc ks pc ls (sI n :: st) T := by
  intro H locs lsA lv vst h1 h2 h3 h4 h5 h6
  obtain ⟨_, vst1, rfl, ⟨i, rfl, hi⟩, k1_⟩ := srel_cons h3
  have hts := C.2.2.2.2.1
  have hi0 : ¬ i < 0 := fun q => by rw [Int32.lt_iff_toInt_lt, hi, Int32.toInt_zero] at q; omega
  have hiN : i.toNatClampNeg = N := by
    have : i.toNatClampNeg = i.toInt.toNat := rfl
    rw [this, hi, hn]; rfl
  refine va_newaK (atype := .int) C.1 C.2.1 (hts _ w) rfl d rfl hi0 hiN (by show N * 4 ≤ 536870912; omega) hcc hs rfl fun H1 cA e1 z1 o1 hAr hNm => ?_
  have hcA : g.2.2.1 0 = cA := Option.some.inj (((C.2.2.2.2.2.1.1.2 0 _ rfl).2 : s.vm.findClass _ = _).symm.trans hNm)
  obtain ⟨r1, r2, r3⟩ := zi_pushed (ce := (1, N, [])) h4 h5 hT z1 o1 (by rw [← hcA] at e1; exact e1)
  have hz : H.size = g.1 + (W0.length + T.length) := by rw [h4.1, List.length_append]
  subst ho
  rw [hz]
  exact K H1 locs lsA lv _ h1 h2 ⟨rfl, k1_⟩ r1 r2 (by rw [r3]; omega)
theorem zi_newa1 (C : Bd g own cc nL p s m args meth c) {n : Int} {N o : Nat} {T' : List CE} (d : decode cc pc = .ok (.newarray .long, 2)) (w : Cond.arrayClass .long ∈ LW) (hn : n = (N : Int)) (hN : N ≤ 60000000) (ho : W0.length + T.length = o) (hT : T ++ [(2, N, [])] = T') (hcc : kc + 1 ≤ R.cells) (hs : ks + N ≤ R.slots) (K : SimI p l e R s m args below meth c g nL Q W0 (kc + 1) (ks + N) (pc+2) ls (sR o :: st) T') : SimI p l e R s m args below meth c g nL Q W0 kc ks pc ls (sI n :: st) T := by
  intro H locs lsA lv vst h1 h2 h3 h4 h5 h6
  obtain ⟨_, vst1, rfl, ⟨i, rfl, hi⟩, k1_⟩ := srel_cons h3
  have hts := C.2.2.2.2.1
  have hi0 : ¬ i < 0 := fun q => by rw [Int32.lt_iff_toInt_lt, hi, Int32.toInt_zero] at q; omega
  have hiN : i.toNatClampNeg = N := by
    have : i.toNatClampNeg = i.toInt.toNat := rfl
    rw [this, hi, hn]; rfl
  refine va_newaK (atype := .long) C.1 C.2.1 (hts _ w) rfl d rfl hi0 hiN (by show N * 8 ≤ 536870912; omega) hcc hs rfl fun H1 cA e1 z1 o1 hAr hNm => ?_
  have hcA : g.2.2.1 1 = cA := Option.some.inj (((C.2.2.2.2.2.1.1.2 1 _ rfl).2 : s.vm.findClass _ = _).symm.trans hNm)
  obtain ⟨r1, r2, r3⟩ := zi_pushed (ce := (2, N, [])) h4 h5 hT z1 o1 (by rw [← hcA] at e1; exact e1)
  have hz : H.size = g.1 + (W0.length + T.length) := by rw [h4.1, List.length_append]
  subst ho
  rw [hz]
  exact K H1 locs lsA lv _ h1 h2 ⟨rfl, k1_⟩ r1 r2 (by rw [r3]; omega)
theorem zi_newa2 (C : Bd g own cc nL p s m args meth c) {n : Int} {N o : Nat} {T' : List CE} (d : decode cc pc = .ok (.newarray .byte, 2)) (w : Cond.arrayClass .byte ∈ LW) (hn : n = (N : Int)) (hN : N ≤ 60000000) (ho : W0.length + T.length = o) (hT : T ++ [(3, N, [])] = T') (hcc : kc + 1 ≤ R.cells) (hs : ks + N ≤ R.slots) (K : SimI p l e R s m args below meth c g nL Q W0 (kc + 1) (ks + N) (pc+2) ls (sR o :: st) T') : SimI p l e R s m args below meth c g nL Q W0 kc ks pc ls (sI n :: st) T := by
  intro H locs lsA lv vst h1 h2 h3 h4 h5 h6
  obtain ⟨_, vst1, rfl, ⟨i, rfl, hi⟩, k1_⟩ := srel_cons h3
  have hts := C.2.2.2.2.1
  have hi0 : ¬ i < 0 := fun q => by rw [Int32.lt_iff_toInt_lt, hi, Int32.toInt_zero] at q; omega
  have hiN : i.toNatClampNeg = N := by
    have : i.toNatClampNeg = i.toInt.toNat := rfl
    rw [this, hi, hn]; rfl
  refine va_newaK (atype := .byte) C.1 C.2.1 (hts _ w) rfl d rfl hi0 hiN (by show N * 1 ≤ 536870912; omega) hcc hs rfl fun H1 cA e1 z1 o1 hAr hNm => ?_
  have hcA : g.2.2.1 2 = cA := Option.some.inj (((C.2.2.2.2.2.1.1.2 2 _ rfl).2 : s.vm.findClass _ = _).symm.trans hNm)
  obtain ⟨r1, r2, r3⟩ := zi_pushed (ce := (3, N, [])) h4 h5 hT z1 o1 (by rw [← hcA] at e1; exact e1)
  have hz : H.size = g.1 + (W0.length + T.length) := by rw [h4.1, List.length_append]
  subst ho
  rw [hz]
  exact K H1 locs lsA lv _ h1 h2 ⟨rfl, k1_⟩ r1 r2 (by rw [r3]; omega)
theorem zi_newa3 (C : Bd g own cc nL p s m args meth c) {n : Int} {N o : Nat} {T' : List CE} (d : decode cc pc = .ok (.newarray .boolean, 2)) (w : Cond.arrayClass .boolean ∈ LW) (hn : n = (N : Int)) (hN : N ≤ 60000000) (ho : W0.length + T.length = o) (hT : T ++ [(4, N, [])] = T') (hcc : kc + 1 ≤ R.cells) (hs : ks + N ≤ R.slots) (K : SimI p l e R s m args below meth c g nL Q W0 (kc + 1) (ks + N) (pc+2) ls (sR o :: st) T') : SimI p l e R s m args below meth c g nL Q W0 kc ks pc ls (sI n :: st) T := by
  intro H locs lsA lv vst h1 h2 h3 h4 h5 h6
  obtain ⟨_, vst1, rfl, ⟨i, rfl, hi⟩, k1_⟩ := srel_cons h3
  have hts := C.2.2.2.2.1
  have hi0 : ¬ i < 0 := fun q => by rw [Int32.lt_iff_toInt_lt, hi, Int32.toInt_zero] at q; omega
  have hiN : i.toNatClampNeg = N := by
    have : i.toNatClampNeg = i.toInt.toNat := rfl
    rw [this, hi, hn]; rfl
  refine va_newaK (atype := .boolean) C.1 C.2.1 (hts _ w) rfl d rfl hi0 hiN (by show N * 1 ≤ 536870912; omega) hcc hs rfl fun H1 cA e1 z1 o1 hAr hNm => ?_
  have hcA : g.2.2.1 3 = cA := Option.some.inj (((C.2.2.2.2.2.1.1.2 3 _ rfl).2 : s.vm.findClass _ = _).symm.trans hNm)
  obtain ⟨r1, r2, r3⟩ := zi_pushed (ce := (4, N, [])) h4 h5 hT z1 o1 (by rw [← hcA] at e1; exact e1)
  have hz : H.size = g.1 + (W0.length + T.length) := by rw [h4.1, List.length_append]
  subst ho
  rw [hz]
  exact K H1 locs lsA lv _ h1 h2 ⟨rfl, k1_⟩ r1 r2 (by rw [r3]; omega)
/-- a constructor of a fresh object at the end of T -/
theorem zi_call (C : Bd g own cc nL p s m args meth c) (hK : KI s) {idx nL2 o ci : Nat} {y : MethodName} {bytes : ByteArray} {host : String} {rm : Room} {fs : List (Nat × Int)} {seg : Nat → List CE} {T0 T' : List CE} (hM : ConI l g y bytes nL2 rm ci fs seg) (hy : y.name = "<init>") (hcl : y.cls ≠ "java/lang/invoke/MethodHandle" ∧ y.cls ≠ "java/lang/invoke/VarHandle" ∧ (parseMethodDescriptor y.desc).map (fun d => d.parameters.length) = some 0)
    (w1 : Cond.methodLinkNest own idx y host ∈ nestW) (w2 : Cond.instanceMethod y ∈ LW) (w3 : Cond.code y bytes nL2 none ∈ LW) (w4 : Cond.initialized y.cls ∈ LW) (hT0 : T0 ++ [(0, ci, fs)] = T) (ho : W0.length + T0.length = o) (hT : T0 ++ seg o = T') (hlen : (seg o).length = rm.cells + 1)
    (hcat : (st.map scat).sum ≤ 8) (hRm : rm.frames + 1 ≤ R.frames ∧ 8 + (nL2 + 11) + rm.locals ≤ R.locals) (hc : kc + rm.cells ≤ R.cells ∧ ks + rm.slots ≤ R.slots) (d : decode cc pc = .ok (.invokespecial idx, 3)) (K : SimI p l e R s m args below meth c g nL Q W0 (kc + rm.cells) (ks + rm.slots) (pc+3) ls st T') : SimI p l e R s m args below meth c g nL Q W0 kc ks pc ls (sR o :: st) T := by
  intro H locs lsA lv vst h1 h2 h3 h4 h5 h6
  obtain ⟨_, vst1, rfl, rfl, k1_⟩ := srel_cons h3
  have hts := C.2.2.2.2.1
  have hM2 := hM (W0 ++ T0)
  rw [List.append_assoc, hT0, List.length_append, ho, List.append_assoc, hT] at hM2
  have run := va_runIN (e := e) (below := below) (meth := meth) (locs := locs) (As := []) (rest := vst1) (b := g.1 + o) (g := F0 m pc lsA _) ⟨C.1, C.2.1, C.2.2.1, C.2.2.2.1, C.2.2.2.2.1⟩ hM2 ⟨va_cnB (ws := Cond.code y bytes nL2 none :: LW) 0 (ht := hts) (fun w hw => ⟨zs_words w3 w hw, LW_good w (zs_words w3 w hw)⟩) rfl rfl rfl (hK.1 _ w1) (hts _ w4) hcl hRm, hy, hts _ w2⟩
    ⟨PcI_blind, fun U hU hW => ⟨rfl, by rw [hU]; exact h4, Kn_moved (A := fun q => g.1 ≤ q) (fun _ h => h) C.2.2.2.2.2.1 hW (by rw [hU]; exact h5.1) (by rw [hU]; exact h5.2.1), KI_moved hW hK, Nat.le_trans C.2.2.2.2.2.2.2 (by rw [hU]; exact h5.1)⟩⟩ rfl rfl h1.1 rfl (lv_room (by rw [srel_cat k1_]; exact hcat)) d hc
  intro Ts hTs X
  obtain ⟨v, st₀, t, T9, L, h0, X', hL, e1, e2, ⟨hq1, hq2, hq3⟩, stp⟩ := run Ts hTs X
  cases hq1
  rw [← e1] at hq2
  have hS1 : va_S (fun q => g.1 ≤ q) s.heap T9.heap (locs ++ L) := by
    refine ⟨Nat.le_trans h5.1 (by rw [e1, ← h0]; exact hq3.1), fun q h1 h2 => ?_, fun z hz => ?_⟩
    · rw [e1, hq3.2 q (by rw [h0]; exact Nat.lt_of_lt_of_le h1 h5.1) h2, h0]
      exact h5.2.1 q h1 h2
    · rcases List.mem_append.mp hz with h | h
      · exact h5.2.2 z h
      · exact hL z h
  have hl : (W0 ++ T').length = (W0 ++ T).length + rm.cells := by
    rw [← hT, ← hT0]
    simp only [List.length_append, hlen, List.length_cons, List.length_nil]
    omega
  obtain ⟨t2, a1, b1⟩ := K T9.heap (locs ++ L) lsA lv vst1 h1 h2 k1_ hq2 hS1 (by rw [hl]; omega) T9 rfl X'
  exact ⟨t2, stp t2 a1, b1⟩
/-- an open constructor of a fresh object at the end of T -/
theorem zi_callP (C : Bd g own cc nL p s m args meth c) (hK : KI s) {idx nL2 o ci : Nat} {y : MethodName} {bytes : ByteArray} {rm : Room} {fs : List (Nat × Int)} {seg : Nat → List CE} {T0 T' : List CE} (hM : ConI l g y bytes nL2 rm ci fs seg) (hy : y.name = "<init>") (hcl : y.cls ≠ "java/lang/invoke/MethodHandle" ∧ y.cls ≠ "java/lang/invoke/VarHandle" ∧ (parseMethodDescriptor y.desc).map (fun d => d.parameters.length) = some 0)
    (w1 : Cond.methodLink own idx y ∈ LW) (w2 : Cond.instanceMethod y ∈ LW) (w3 : Cond.code y bytes nL2 none ∈ LW) (w4 : Cond.initialized y.cls ∈ LW) (hT0 : T0 ++ [(0, ci, fs)] = T) (ho : W0.length + T0.length = o) (hT : T0 ++ seg o = T') (hlen : (seg o).length = rm.cells + 1)
    (hcat : (st.map scat).sum ≤ 8) (hRm : rm.frames + 1 ≤ R.frames ∧ 8 + (nL2 + 11) + rm.locals ≤ R.locals) (hc : kc + rm.cells ≤ R.cells ∧ ks + rm.slots ≤ R.slots) (d : decode cc pc = .ok (.invokespecial idx, 3)) (K : SimI p l e R s m args below meth c g nL Q W0 (kc + rm.cells) (ks + rm.slots) (pc+3) ls st T') : SimI p l e R s m args below meth c g nL Q W0 kc ks pc ls (sR o :: st) T := by
  intro H locs lsA lv vst h1 h2 h3 h4 h5 h6
  obtain ⟨_, vst1, rfl, rfl, k1_⟩ := srel_cons h3
  have hts := C.2.2.2.2.1
  have hM2 := hM (W0 ++ T0)
  rw [List.append_assoc, hT0, List.length_append, ho, List.append_assoc, hT] at hM2
  have run := va_runI (e := e) (below := below) (meth := meth) (locs := locs) (As := []) (rest := vst1) (b := g.1 + o) (g := F0 m pc lsA _) ⟨C.1, C.2.1, C.2.2.1, C.2.2.2.1, C.2.2.2.2.1⟩ hM2 ⟨⟨rfl, rfl, hRm.1, hRm.2, fun w hw a' U hW => word_at hW (LW_good w (zs_words w3 w hw)) (hts w (zs_words w3 w hw)), List.mem_cons_self, hts _ w3, hts _ w4, ⟨hcl.1, hcl.2.1⟩, fun sig hs => by have h9 := hcl.2.2; rw [hs] at h9; exact (Option.some.inj h9).symm, hts _ w1⟩, hy, hts _ w2⟩
    ⟨PcI_blind, fun U hU hW => ⟨rfl, by rw [hU]; exact h4, Kn_moved (A := fun q => g.1 ≤ q) (fun _ h => h) C.2.2.2.2.2.1 hW (by rw [hU]; exact h5.1) (by rw [hU]; exact h5.2.1), KI_moved hW hK, Nat.le_trans C.2.2.2.2.2.2.2 (by rw [hU]; exact h5.1)⟩⟩ rfl rfl h1.1 rfl (lv_room (by rw [srel_cat k1_]; exact hcat)) d hc
  intro Ts hTs X
  obtain ⟨v, st₀, t, T9, L, h0, X', hL, e1, e2, ⟨hq1, hq2, hq3⟩, stp⟩ := run Ts hTs X
  cases hq1
  rw [← e1] at hq2
  have hS1 : va_S (fun q => g.1 ≤ q) s.heap T9.heap (locs ++ L) := by
    refine ⟨Nat.le_trans h5.1 (by rw [e1, ← h0]; exact hq3.1), fun q h1 h2 => ?_, fun z hz => ?_⟩
    · rw [e1, hq3.2 q (by rw [h0]; exact Nat.lt_of_lt_of_le h1 h5.1) h2, h0]
      exact h5.2.1 q h1 h2
    · rcases List.mem_append.mp hz with h | h
      · exact h5.2.2 z h
      · exact hL z h
  have hl : (W0 ++ T').length = (W0 ++ T).length + rm.cells := by
    rw [← hT, ← hT0]
    simp only [List.length_append, hlen, List.length_cons, List.length_nil]
    omega
  obtain ⟨t2, a1, b1⟩ := K T9.heap (locs ++ L) lsA lv vst1 h1 h2 k1_ hq2 hS1 (by rw [hl]; omega) T9 rfl X'
  exact ⟨t2, stp t2 a1, b1⟩
theorem zi_iinc (C : Bd g own cc nL p s m args meth c) {i : Nat} {n : Int} {x y : Int} {ls' : List (Nat × SV)} (d : decode cc pc = .ok (.iinc i n, 3)) (hl : ls.lookup i = some (sI x)) (hy : w32 (x + n) = y) (hn : i < nL) (hf : (i, sI y) :: ls.filter (fun q => !(q.1 == i) && !(q.1 + 1 == i && isL q.2)) = ls') (K : SimI p l e R s m args below meth c g nL Q W0 kc ks (pc+3) ls' st T) : SimI p l e R s m args below meth c g nL Q W0 kc ks pc ls st T := by
  intro H locs lsA lv vst h1 h2 h3 h4 h5 h6
  obtain ⟨j, v, hj, z, rfl, hz⟩ := lrel_at h2 hl
  refine lv_iinc C.1 C.2.1 d h1 hj rfl hn rfl (fun lsA' h1' => K H locs lsA' _ _ h1' ?_ h3 h4 h5 h6)
  rw [← hf]
  refine ⟨⟨rfl, _, rfl, ?_⟩, lrel_filter (fun a b hab hv => by rw [vrel_cat hv, hab]) h2⟩
  rw [Int32.toInt_add, hz, ← hy]
  unfold w32
  have : (Int32.ofInt n).toInt = n.bmod (2 ^ 32) := Int32.toInt_ofInt
  rw [this, Int.add_bmod_bmod]
theorem zi_ge (C : Bd g own cc nL p s m args meth c) {x y : Int} {off : Int} {tgt : Nat} (d : decode cc pc = .ok (.if_icmp .ge off, 3)) (ht : (pc : Int) + off = (tgt : Int)) (K1 : y ≤ x → SimI p l e R s m args below meth c g nL Q W0 kc ks tgt ls st T) (K2 : ¬ y ≤ x → SimI p l e R s m args below meth c g nL Q W0 kc ks (pc+3) ls st T) : SimI p l e R s m args below meth c g nL Q W0 kc ks pc ls (sI y :: sI x :: st) T := by
  intro H locs lsA lv vst h1 h2 h3 h4 h5 h6
  obtain ⟨_, vst1, rfl, ⟨j, rfl, hj⟩, k1_⟩ := srel_cons h3
  obtain ⟨_, vst2, rfl, ⟨i, rfl, hi⟩, k2_⟩ := srel_cons k1_
  refine lv_icmp_ge C.1 C.2.1 d ht (fun hc => K1 ?_ H locs lsA lv _ h1 h2 k2_ h4 h5 h6) (fun hc => K2 ?_ H locs lsA lv _ h1 h2 k2_ h4 h5 h6)
  · rw [Int32.le_iff_toInt_le, hi, hj] at hc; exact hc
  · rw [Int32.le_iff_toInt_le, hi, hj] at hc; exact hc
/-- a ref that stands in a field of the cell at place j -/
theorem zi_getR (C : Bd g own cc nL p s m args meth c) {i ci k j o : Nat} {x : Int} {o' : Nat} {fs : List (Nat × Int)} (d : decode cc pc = .ok (.getfield i, 3)) (fl : FL own i ci k) (hj : T[j]? = some (0, ci, fs)) (ho : W0.length + j = o) (hk : fs[k]? = some (2, x)) (hx : x.toNat = o') (K : SimI p l e R s m args below meth c g nL Q W0 kc ks (pc+3) ls (sR o' :: st) T) : SimI p l e R s m args below meth c g nL Q W0 kc ks pc ls (sR o :: st) T := by
  intro H locs lsA lv vst h1 h2 h3 h4 h5 h6
  obtain ⟨_, vst1, rfl, rfl, k1_⟩ := srel_cons h3
  obtain ⟨Cn, TT, N, f1, f2, f3, f4⟩ := fl
  subst ho
  have hat : (W0 ++ T)[W0.length + j]? = some (0, ci, fs) := by rw [List.getElem?_append_right (Nat.le_add_right _ _), Nat.add_sub_cancel_left]; exact hj
  have hv : (fs.map (toV g))[k]? = some (.ref (g.1 + o')) := by rw [List.getElem?_map, hk, ← hx]; rfl
  refine va_get C.1 C.2.1 C.2.2.2.2.1 f3 C.2.2.2.1 C.2.2.2.2.2.1.1 h4.2 (W0.length + j) (wsC_at hat) f1 k f2 (C.2.2.2.2.1 _ f4) (fun _ h => h) hv d ?_
  exact K H locs lsA lv _ h1 h2 ⟨rfl, k1_⟩ h4 h5 h6
theorem vrel_toR {g : GC} {o : Nat} {x : Int} {ty : FieldType} (v : Value) (hv : vrel g (sR o) v) (hx : x = (o : Int)) (h1 : ∀ a, narrow ty (.ref a) = .ref a) (h2 : ∀ a, fits ty (.ref a) = true) : v = toV g (2, x) ∧ narrow ty v = v ∧ fits ty v = true := by
  cases hv
  subst hx
  exact ⟨rfl, h1 _, h2 _⟩
theorem zi_setted {H1 : Heap} {j : Nat} {ce ce' : CE} {T' : List CE} (hj : T[j]? = some ce) (hT : T.set j ce' = T') (hP1 : va_P g.2.1 vwCl ((wsC g (W0 ++ T)).set (W0.length + j) (g.1 + (W0.length + j), toE g ce')) H1) (hz : H1.size ≤ s.heap.size + kc) (h6 : s.heap.size + kc = g.1 + (W0 ++ T).length) : RelC g (W0 ++ T') H1 ∧ (W0 ++ T').length = (W0 ++ T).length := by
  have hat : (W0 ++ T)[W0.length + j]? = some ce := by rw [List.getElem?_append_right (Nat.le_add_right _ _), Nat.add_sub_cancel_left]; exact hj
  have hW' : (W0 ++ T).set (W0.length + j) ce' = W0 ++ T' := by rw [List.set_append_right _ _ (Nat.le_add_right _ _), Nat.add_sub_cancel_left, hT]
  have hP2 : va_P g.2.1 vwCl (wsC g (W0 ++ T')) H1 := by
    rw [← hW', wsC_set]
    exact hP1
  have hlen : (W0 ++ T').length = (W0 ++ T).length := by rw [← hW', List.length_set]
  have hne : W0 ++ T' ≠ [] := fun q => by
    have := congrArg List.length q
    rw [hlen] at this
    have h9 := (List.getElem?_eq_some_iff.mp hat).1
    simp only [List.length_nil] at this
    omega
  exact ⟨⟨by have := wsC_ge hP2 hne; omega, hP2⟩, hlen⟩
theorem zi_at {j : Nat} {ce : CE} (hj : T[j]? = some ce) : (wsC g (W0 ++ T))[W0.length + j]? = some (g.1 + (W0.length + j), toE g ce) := wsC_at (by rw [List.getElem?_append_right (Nat.le_add_right _ _), Nat.add_sub_cancel_left]; exact hj)
theorem getD_set {α : Type} (l : List α) (k j : Nat) (x d : α) (hk : k < l.length) : (l.set k x).getD j d = if j = k then x else l.getD j d := by
  rw [List.getD_eq_getElem?_getD, List.getD_eq_getElem?_getD, List.getElem?_set]
  by_cases h : j = k
  · subst h; rw [if_pos rfl, if_pos rfl, if_pos hk]; rfl
  · rw [if_neg h, if_neg (fun q => h q.symm)]
theorem zi_vpin {i : Int32} {x : Int} {n : Nat} (hi : i.toInt = x) (h1 : 0 ≤ x) (h2 : x < n) : vp_in i n := vp_in_iff.mpr ⟨by rw [hi]; exact h1, by rw [hi]; exact h2⟩
/-- ints into an array that is written out -/
theorem zi_iast (C : Bd g own cc nL p s m args meth c) {j o n : Nat} {x v : Int} {lz : List (Nat × Int)} {T' : List CE} (d : decode cc pc = .ok (.iastore, 1)) (hj : T[j]? = some (1, n, lz)) (ho : W0.length + j = o) (hx : 0 ≤ x ∧ x < n ∧ x.toNat < lz.length) (hv : (Int32.ofInt v).toInt = v) (hT : T.set j (1, n, lz.set x.toNat (0, v)) = T') (K : SimI p l e R s m args below meth c g nL Q W0 kc ks (pc+1) ls st T') : SimI p l e R s m args below meth c g nL Q W0 kc ks pc ls (sI v :: sI x :: sR o :: st) T := by
  intro H locs lsA lv vst h1 h2 h3 h4 h5 h6
  obtain ⟨_, vst1, rfl, ⟨kv, rfl, hkv⟩, k1_⟩ := srel_cons h3
  obtain ⟨_, vst2, rfl, ⟨kx, rfl, hkx⟩, k2_⟩ := srel_cons k1_
  obtain ⟨_, vst3, rfl, rfl, k3_⟩ := srel_cons k2_
  subst ho
  refine va_iast C.1 C.2.1 C.2.2.2.2.2.1.1 h4.2 wsC_D h5 (W0.length + j) 0 (zi_at hj) rfl (zi_vpin hkx hx.1 hx.2.1) d (fun H1 locs1 hP1 hD1 hS1 => W_size (fun hz => ?_))
  have hn : kx.toNatClampNeg = x.toNat := by rw [← hkx]; rfl
  have hk0 : kv = Int32.ofInt v := Int32.toInt_inj.mp (by rw [hkv, hv])
  have he : (.inl (g.2.2.1 0, n, .inl (upd (fun i => Int32.ofInt (lz.getD i (0, 0)).2) kx.toNatClampNeg kv)) : va_E) = toE g (1, n, lz.set x.toNat (0, v)) := by
    show _ = (.inl (g.2.2.1 0, n, .inl (fun i => Int32.ofInt ((lz.set x.toNat (0, v)).getD i (0, 0)).2)) : va_E)
    congr 3
    congr 1
    funext i
    rw [getD_set _ _ _ _ _ hx.2.2, hn, hk0]
    unfold upd
    split <;> rfl
  obtain ⟨r1, r2⟩ := zi_setted hj hT (by rw [← he]; exact hP1) hz h6
  exact K H1 locs1 lsA lv _ h1 h2 k3_ r1 hS1 (by rw [r2]; exact h6)
theorem zi_anew4 (C : Bd g own cc nL p s m args meth c) (hK : KI s) {i : Nat} {n : Int} {N o : Nat} {lz : List (Nat × Int)} {T' : List CE} (d : decode cc pc = .ok (.anewarray i, 3)) (w : Cond.classLink own i "RopeWeds$Life" ∈ LW) (hn : n = (N : Int)) (hN : N ≤ 1000) (hl : lz = List.replicate N (3, 0)) (ho : W0.length + T.length = o) (hT : T ++ [(5, N, lz)] = T') (hcc : kc + 1 ≤ R.cells) (hs : ks + N ≤ R.slots) (K : SimI p l e R s m args below meth c g nL Q W0 (kc + 1) (ks + N) (pc+3) ls (sR o :: st) T') : SimI p l e R s m args below meth c g nL Q W0 kc ks pc ls (sI n :: st) T := by
  intro H locs lsA lv vst h1 h2 h3 h4 h5 h6
  obtain ⟨_, vst1, rfl, ⟨i, rfl, hi⟩, k1_⟩ := srel_cons h3
  have hts := C.2.2.2.2.1
  have hi0 : ¬ i < 0 := fun q => by rw [Int32.lt_iff_toInt_lt, hi, Int32.toInt_zero] at q; omega
  have hiN : i.toNatClampNeg = N := by
    have : i.toNatClampNeg = i.toInt.toNat := rfl
    rw [this, hi, hn]; rfl
  subst hiN
  refine W.anew C.1 C.2.1 C.2.2.2.1 (hts _ w) (va_AO.use hK.2.1) rfl d rfl hi0 (by omega) hcc hs (fun cA kA comp f1 f2 f3 f4 => ?_)
  have hRA : va_RA s (g.2.2.1 4) (.object "RopeWeds$Life") := (C.2.2.2.2.2.1.1.2 4 _ rfl).2
  obtain ⟨kA', comp', -, -, -, hnm⟩ := hRA
  have hcA : g.2.2.1 4 = cA := Option.some.inj (hnm.symm.trans f1)
  generalize hH1 : H.push ({ cls := cA, slots := Array.replicate i.toNatClampNeg .null, vm := .none } : Cell) = H1
  have z1 : H1.size = H.size + 1 := by rw [← hH1, Array.size_push]
  have o1 : ∀ q, q < H.size → H1[q]? = H[q]? := fun q hq => by rw [← hH1, Array.getElem?_push, if_neg (Nat.ne_of_lt hq)]
  have e1 : H1[H.size]? = some (arrV cA i.toNatClampNeg (fun _ => .null)) := by
    rw [← hH1, Array.getElem?_push, if_pos rfl, ← arrV_new]
  have hlz : ∀ q, toQ g (lz.getD q (3, 0)) = none := fun q => by
    rw [hl, List.getD_eq_getElem?_getD, List.getElem?_replicate]
    by_cases hq : q < i.toNatClampNeg
    · rw [if_pos hq]; rfl
    · rw [if_neg hq]; rfl
  obtain ⟨r1, r2, r3⟩ := zi_pushed (ce := (5, i.toNatClampNeg, lz)) h4 h5 hT z1 o1 (by
    show H1[H.size]? = some (vp_cell (g.2.2.1 4) (i.toNatClampNeg, .inr (.inr (.inr (.inr (fun q => toQ g (lz.getD q (3, 0))))))))
    rw [vp_cell_q, hcA, e1]
    congr 2
    funext q
    rw [hlz q]; rfl)
  have hz : H.size = g.1 + (W0.length + T.length) := by rw [h4.1, List.length_append]
  subst ho
  rw [hz]
  exact K H1 locs lsA lv _ h1 h2 ⟨rfl, k1_⟩ r1 r2 (by rw [r3]; omega)
theorem zi_aast4 (C : Bd g own cc nL p s m args meth c) {j jk o o' n ci : Nat} {x : Int} {lz fs : List (Nat × Int)} {T' : List CE} {TT : u_T} {N : Nat} (d : decode cc pc = .ok (.aastore, 1)) (hj : T[j]? = some (5, n, lz)) (ho : W0.length + j = o) (hk : T[jk]? = some (0, ci, fs)) (ho' : W0.length + jk = o') (hc : vwCl[ci]? = some ("RopeWeds$Life", TT, N)) (hx : 0 ≤ x ∧ x < n ∧ x.toNat < lz.length) {z : Int} (hzz : z = (o' : Int)) (hT : T.set j (5, n, lz.set x.toNat (2, z)) = T') (K : SimI p l e R s m args below meth c g nL Q W0 kc ks (pc+1) ls st T') : SimI p l e R s m args below meth c g nL Q W0 kc ks pc ls (sR o' :: sI x :: sR o :: st) T := by
  intro H locs lsA lv vst h1 h2 h3 h4 h5 h6
  obtain ⟨_, vst1, rfl, rfl, k1_⟩ := srel_cons h3
  obtain ⟨_, vst2, rfl, ⟨kx, rfl, hkx⟩, k2_⟩ := srel_cons k1_
  obtain ⟨_, vst3, rfl, rfl, k3_⟩ := srel_cons k2_
  subst ho; subst ho'; subst hzz
  refine va_astq C.1 C.2.1 C.2.2.2.2.2.1.1 h4.2 wsC_D h5 (W0.length + j) 4 (W0.length + jk) ci (r := ("RopeWeds$Life", TT, N)) (zi_at hj) rfl (zi_at hk) hc (zi_vpin hkx hx.1 hx.2.1) d (fun H1 locs1 hP1 hD1 hS1 => W_size (fun hz => ?_))
  have hn : kx.toNatClampNeg = x.toNat := by rw [← hkx]; rfl
  have he : (.inl (g.2.2.1 4, n, .inr (.inr (.inr (.inr (va_up (fun i => toQ g (lz.getD i (3, 0))) kx.toNatClampNeg (some (g.1 + (W0.length + jk)))))))) : va_E) = toE g (5, n, lz.set x.toNat (2, ((W0.length + jk : Nat) : Int))) := by
    show _ = (.inl (g.2.2.1 4, n, .inr (.inr (.inr (.inr (fun i => toQ g ((lz.set x.toNat (2, ((W0.length + jk : Nat) : Int))).getD i (3, 0))))))) : va_E)
    congr 7
    funext i
    rw [getD_set _ _ _ _ _ hx.2.2, hn]
    unfold va_up
    split <;> rfl
  obtain ⟨r1, r2⟩ := zi_setted hj hT (by rw [← he]; exact hP1) hz h6
  exact K H1 locs1 lsA lv _ h1 h2 k3_ r1 hS1 (by rw [r2]; exact h6)
theorem zi_anew5 (C : Bd g own cc nL p s m args meth c) (hK : KI s) {i : Nat} {n : Int} {N o : Nat} {lz : List (Nat × Int)} {T' : List CE} (d : decode cc pc = .ok (.anewarray i, 3)) (w : Cond.classLink own i "RopeWeds$World" ∈ LW) (hn : n = (N : Int)) (hN : N ≤ 1000) (hl : lz = List.replicate N (3, 0)) (ho : W0.length + T.length = o) (hT : T ++ [(6, N, lz)] = T') (hcc : kc + 1 ≤ R.cells) (hs : ks + N ≤ R.slots) (K : SimI p l e R s m args below meth c g nL Q W0 (kc + 1) (ks + N) (pc+3) ls (sR o :: st) T') : SimI p l e R s m args below meth c g nL Q W0 kc ks pc ls (sI n :: st) T := by
  intro H locs lsA lv vst h1 h2 h3 h4 h5 h6
  obtain ⟨_, vst1, rfl, ⟨i, rfl, hi⟩, k1_⟩ := srel_cons h3
  have hts := C.2.2.2.2.1
  have hi0 : ¬ i < 0 := fun q => by rw [Int32.lt_iff_toInt_lt, hi, Int32.toInt_zero] at q; omega
  have hiN : i.toNatClampNeg = N := by
    have : i.toNatClampNeg = i.toInt.toNat := rfl
    rw [this, hi, hn]; rfl
  subst hiN
  refine W.anew C.1 C.2.1 C.2.2.2.1 (hts _ w) (va_AO.use hK.2.2.1) rfl d rfl hi0 (by omega) hcc hs (fun cA kA comp f1 f2 f3 f4 => ?_)
  have hRA : va_RA s (g.2.2.1 5) (.object "RopeWeds$World") := (C.2.2.2.2.2.1.1.2 5 _ rfl).2
  obtain ⟨kA', comp', -, -, -, hnm⟩ := hRA
  have hcA : g.2.2.1 5 = cA := Option.some.inj (hnm.symm.trans f1)
  generalize hH1 : H.push ({ cls := cA, slots := Array.replicate i.toNatClampNeg .null, vm := .none } : Cell) = H1
  have z1 : H1.size = H.size + 1 := by rw [← hH1, Array.size_push]
  have o1 : ∀ q, q < H.size → H1[q]? = H[q]? := fun q hq => by rw [← hH1, Array.getElem?_push, if_neg (Nat.ne_of_lt hq)]
  have e1 : H1[H.size]? = some (arrV cA i.toNatClampNeg (fun _ => .null)) := by
    rw [← hH1, Array.getElem?_push, if_pos rfl, ← arrV_new]
  have hlz : ∀ q, toQ g (lz.getD q (3, 0)) = none := fun q => by
    rw [hl, List.getD_eq_getElem?_getD, List.getElem?_replicate]
    by_cases hq : q < i.toNatClampNeg
    · rw [if_pos hq]; rfl
    · rw [if_neg hq]; rfl
  obtain ⟨r1, r2, r3⟩ := zi_pushed (ce := (6, i.toNatClampNeg, lz)) h4 h5 hT z1 o1 (by
    show H1[H.size]? = some (vp_cell (g.2.2.1 5) (i.toNatClampNeg, .inr (.inr (.inr (.inr (fun q => toQ g (lz.getD q (3, 0))))))))
    rw [vp_cell_q, hcA, e1]
    congr 2
    funext q
    rw [hlz q]; rfl)
  have hz : H.size = g.1 + (W0.length + T.length) := by rw [h4.1, List.length_append]
  subst ho
  rw [hz]
  exact K H1 locs lsA lv _ h1 h2 ⟨rfl, k1_⟩ r1 r2 (by rw [r3]; omega)
theorem zi_aast5 (C : Bd g own cc nL p s m args meth c) {j jk o o' n ci : Nat} {x : Int} {lz fs : List (Nat × Int)} {T' : List CE} {TT : u_T} {N : Nat} (d : decode cc pc = .ok (.aastore, 1)) (hj : T[j]? = some (6, n, lz)) (ho : W0.length + j = o) (hk : T[jk]? = some (0, ci, fs)) (ho' : W0.length + jk = o') (hc : vwCl[ci]? = some ("RopeWeds$World", TT, N)) (hx : 0 ≤ x ∧ x < n ∧ x.toNat < lz.length) {z : Int} (hzz : z = (o' : Int)) (hT : T.set j (6, n, lz.set x.toNat (2, z)) = T') (K : SimI p l e R s m args below meth c g nL Q W0 kc ks (pc+1) ls st T') : SimI p l e R s m args below meth c g nL Q W0 kc ks pc ls (sR o' :: sI x :: sR o :: st) T := by
  intro H locs lsA lv vst h1 h2 h3 h4 h5 h6
  obtain ⟨_, vst1, rfl, rfl, k1_⟩ := srel_cons h3
  obtain ⟨_, vst2, rfl, ⟨kx, rfl, hkx⟩, k2_⟩ := srel_cons k1_
  obtain ⟨_, vst3, rfl, rfl, k3_⟩ := srel_cons k2_
  subst ho; subst ho'; subst hzz
  refine va_astq C.1 C.2.1 C.2.2.2.2.2.1.1 h4.2 wsC_D h5 (W0.length + j) 5 (W0.length + jk) ci (r := ("RopeWeds$World", TT, N)) (zi_at hj) rfl (zi_at hk) hc (zi_vpin hkx hx.1 hx.2.1) d (fun H1 locs1 hP1 hD1 hS1 => W_size (fun hz => ?_))
  have hn : kx.toNatClampNeg = x.toNat := by rw [← hkx]; rfl
  have he : (.inl (g.2.2.1 5, n, .inr (.inr (.inr (.inr (va_up (fun i => toQ g (lz.getD i (3, 0))) kx.toNatClampNeg (some (g.1 + (W0.length + jk)))))))) : va_E) = toE g (6, n, lz.set x.toNat (2, ((W0.length + jk : Nat) : Int))) := by
    show _ = (.inl (g.2.2.1 5, n, .inr (.inr (.inr (.inr (fun i => toQ g ((lz.set x.toNat (2, ((W0.length + jk : Nat) : Int))).getD i (3, 0))))))) : va_E)
    congr 7
    funext i
    rw [getD_set _ _ _ _ _ hx.2.2, hn]
    unfold va_up
    split <;> rfl
  obtain ⟨r1, r2⟩ := zi_setted hj hT (by rw [← he]; exact hP1) hz h6
  exact K H1 locs1 lsA lv _ h1 h2 k3_ r1 hS1 (by rw [r2]; exact h6)
end SIMIS

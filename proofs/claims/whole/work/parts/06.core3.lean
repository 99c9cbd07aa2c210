/-! ===== CORE 3: fields, arrays, calls, returns ===== -/
/-- the field k of class ci, as the class 'own' names it by its pool's entry i -/
def FL (own : String) (i ci k : Nat) : Prop := ∃ (C : String) (T : u_T) (N : Nat), vwCl[ci]? = some (C, T, N) ∧ k < N ∧ (∀ w ∈ u_ws C T N, w ∈ LW) ∧ Cond.fieldLink own i (T k).1 (T k).2.1 (T k).2.2.1 ∈ LW
def FW (ci k : Nat) (ty : FieldType) : Prop := ∃ (C : String) (T : u_T) (N : Nat) (ty0 : Nat → FieldType), vwCl[ci]? = some (C, T, N) ∧ N = (fkL ci).length ∧ (∀ k, k < N → parseFieldDescriptor (T k).2.2.1 = some (ty0 k)) ∧ (∀ a, a < N → ∀ b, b < N → a ≠ b → (T a).2.1 ≠ (T b).2.1) ∧ (T k).2.2.2 = false ∧ ty0 k = ty
def scat (a : SV) : Nat := if isL a = true then 2 else 1
theorem srel_cat {g : GC} : ∀ {st : List SV} {vs : List Value}, srel g st vs → (vs.map fun v => v.category).sum = (st.map scat).sum
  | [], [], _ => rfl
  | a :: st, v :: vs, h => by
    rw [List.map_cons, List.map_cons, List.sum_cons, List.sum_cons, srel_cat h.2]
    have hc := vrel_cat h.1
    congr 1
    unfold scat
    rcases lv_cat v with q | q
    · rw [q] at hc ⊢
      rw [← hc]; rfl
    · rw [q] at hc ⊢
      rw [← hc]; rfl
theorem zs_in {i : Int32} {x : Int} {n : Nat} (hi : i.toInt = x) (h : 0 ≤ x ∧ x < (n : Int)) : vp_in i n ∧ i.toNatClampNeg < n ∧ ((i.toNatClampNeg : Nat) : Int) = x := by
  have h1 : i.toNatClampNeg = x.toNat := by rw [← hi]; rfl
  refine ⟨fun q => ?_, by omega, by omega⟩
  rcases q with q | q
  · rw [Int32.lt_iff_toInt_lt, hi, Int32.toInt_zero] at q; omega
  · omega
def rrel (ret : Option FieldType) (x : Int) (o : Outcome) : Prop := match ret with
  | none => o = .returned none
  | some .long => ∃ i : Int64, o = .returned (some (.long i)) ∧ i.toInt = x
  | some _ => ∃ i : Int32, o = .returned (some (.int i)) ∧ i.toInt = x
def iret (ret : Option FieldType) : Bool := match ret with
  | some .int | some .boolean | some .char | some .byte => true
  | _ => false
theorem zs_rint {ret : Option FieldType} {x : Int} {v : Option Value} (h : iret ret = true) (hv : rrel ret x (.returned v)) : ∃ i : Int32, Outcome.returned v = .returned (some (.int i)) ∧ i.toInt = x := by
  unfold iret at h
  split at h <;> first | exact hv | cases h
theorem zs_nar_char {i : Int32} {x : Int} (hi : i.toInt = x) (h : 0 ≤ x ∧ x < 65536) : narrow .char (.int i) = .int i := by
  show Value.int ((i.toUInt32 % 65536).toInt32) = Value.int i
  congr 1
  exact Int32.toInt_inj.mp (by rw [zs_i2c_val, hi]; omega)
theorem zs_nar_byte {i : Int32} {x : Int} (hi : i.toInt = x) (h : -128 ≤ x ∧ x < 128) : narrow .byte (.int i) = .int i := by
  show Value.int (i.toInt8.toInt32) = Value.int i
  congr 1
  apply Int32.toInt_inj.mp
  rw [Int8.toInt_toInt32, Int32.toInt_toInt8, hi]
  exact Int.bmod_eq_of_le (by omega) (by omega)
def PcS (g : GC) (svs : List SV) (mm : Mem) : Array Value → State → Prop := fun a U => ∃ vs : List Value, a = vs.toArray ∧ srel g svs vs ∧ Rel g mm U.heap ∧ Kn g U ∧ g.1 ≤ U.heap.size
def QcS (g : GC) (ret : Option FieldType) (x : Int) (mm : Mem) : Array Value → State → Outcome → State → Prop := fun _ st o t => rrel ret x o ∧ Rel g mm t.heap ∧ va_F (fun q => g.1 ≤ q) st t
def QR (g : GC) (below : List Frame) (args : Array Value) (s : State) (ret : Option FieldType) (rm : Room) : Int → Mem → State → Prop := fun x mm => MQ below (QcS g ret x mm) args s rm.cells rm.slots (fun q => g.1 ≤ q)
def QW (g : GC) (below : List Frame) (args : Array Value) (s : State) (ret : Option FieldType) (rm : Room) : Int × Mem → Mem → State → Prop := fun r _ => MQ below (QcS g ret r.1 r.2) args s rm.cells rm.slots (fun q => g.1 ≤ q)
def QV (g : GC) (below : List Frame) (args : Array Value) (s : State) (rm : Room) : Mem → Mem → State → Prop := fun r _ => MQ below (QcS g none 0 r) args s rm.cells rm.slots (fun q => g.1 ≤ q)
/-- what a method does, as numbers: it reads (R), it answers and writes (W), it writes (V) -/
def ConR (l : Launch) (g : GC) (y : MethodName) (cc : ByteArray) (nL : Nat) (ret : Option FieldType) (rm : Room) (svs : List SV) (F : Mem → Option Int) : Prop := ∀ mm x, F mm = some x → Met l y (Cond.code y cc nL ret :: LW) rm (PcS g svs mm) (QcS g ret x mm) rm.cells rm.slots (fun q => g.1 ≤ q)
def ConW (l : Launch) (g : GC) (y : MethodName) (cc : ByteArray) (nL : Nat) (ret : Option FieldType) (rm : Room) (svs : List SV) (F : Mem → Option (Int × Mem)) : Prop := ∀ mm r, F mm = some r → Met l y (Cond.code y cc nL ret :: LW) rm (PcS g svs mm) (QcS g ret r.1 r.2) rm.cells rm.slots (fun q => g.1 ≤ q)
def ConV (l : Launch) (g : GC) (y : MethodName) (cc : ByteArray) (nL : Nat) (rm : Room) (svs : List SV) (F : Mem → Option Mem) : Prop := ∀ mm r, F mm = some r → Met l y (Cond.code y cc nL none :: LW) rm (PcS g svs mm) (QcS g none 0 r) rm.cells rm.slots (fun q => g.1 ≤ q)
theorem Kn_moved {g : GC} {s U : State} {A : Nat → Prop} (hA : ∀ q, A q → g.1 ≤ q) (h : Kn g s) (hW : s.WarmedH U.vm) (hz : s.heap.size ≤ U.heap.size) (hq : ∀ q, q < s.heap.size → ¬ A q → U.heap[q]? = s.heap[q]?) : Kn g U :=
  ⟨va_K.moved hW.alike h.1, XF_moved hW hz (fun q h1 h2 => hq q h1 (fun z => h2 (hA q z))) h.2⟩
theorem PcS_blind {g : GC} {svs : List SV} {mm : Mem} : FrameBlind (PcS g svs mm) := by
  intro a U gf mk h
  obtain ⟨vs, h1, h2, h3, h4, h5⟩ := h
  exact ⟨vs, h1, h2, h3, Kn_moved (A := fun _ => False) (fun _ h => h.elim) h4 (State.WarmedH.refl U) (Nat.le_refl _) (fun _ _ _ => rfl), h5⟩
theorem LW_self : GoodIn LW LW := fun w h => ⟨h, LW_good w h⟩
/-- a call's words: own's entry idx names y, an instance's method of class C, with this code -/
def ML (own : String) (idx : Nat) (C : String) (y : MethodName) (cc : ByteArray) (nL : Nat) (ret : Option FieldType) (n : Nat) : Prop :=
  (Cond.methodLink own idx y ∈ LW ∧ Cond.instanceMethod y ∈ LW ∧ Cond.selects C y y ∈ LW ∧ Cond.initialized C ∈ LW ∧ Cond.code y cc nL ret ∈ LW) ∧ (y.cls = C ∧ y.cls ≠ "java/lang/invoke/MethodHandle" ∧ y.cls ≠ "java/lang/invoke/VarHandle" ∧ (parseMethodDescriptor y.desc).map (fun d => d.parameters.length) = some n)
def MS (own : String) (idx : Nat) (y : MethodName) (cc : ByteArray) (nL : Nat) (ret : Option FieldType) (n : Nat) : Prop :=
  (Cond.methodLink own idx y ∈ LW ∧ Cond.static y ∈ LW ∧ Cond.initialized y.cls ∈ LW ∧ Cond.code y cc nL ret ∈ LW) ∧ (y.cls ≠ "java/lang/invoke/MethodHandle" ∧ y.cls ≠ "java/lang/invoke/VarHandle" ∧ (parseMethodDescriptor y.desc).map (fun d => d.parameters.length) = some n)
section SIMS
variable {p : Program} {l : Launch} {e : Env} {R : Room} {s : State} {m : MethodId} {args : Array Value} {below : List Frame} {meth : Method} {c : Code}
variable {g : GC} {own : String} {cc : ByteArray} {nL kc ks pc : Nat} {ρ : Type} {Q : ρ → Mem → State → Prop} {ls : List (Nat × SV)} {st : List SV} {P : Mem → Option ρ}
theorem zs_getI (C : Bd g own cc nL p s m args meth c) {i ci k o z : Nat} {P : Int → Mem → Option ρ} (d : decode cc pc = .ok (.getfield i, 3)) (fl : FL own i ci k) (ho : layL[o]? = some (.inl ci)) (hk : (fkL ci)[k]? = some (0, z)) (K : ∀ x, Sim p l e R s m args below meth c g nL Q kc ks (pc+3) ls (sI x :: st) (P x)) : Sim p l e R s m args below meth c g nL Q kc ks pc ls (sR o :: st) (fun mm => rd (mm o (k : Int)) (fun x => P x mm)) := by
  intro H locs lsA lv vst mm r h1 h2 h3 h4 h5 h6
  obtain ⟨_, vst1, rfl, rfl, k1_⟩ := srel_cons h3
  obtain ⟨E, hP, hE⟩ := h4
  obtain ⟨Cn, T, N, f1, f2, f3, f4⟩ := fl
  have he := hE o _ ho
  generalize hEo : E o = eo at he
  match eo, he with
  | .inr (cj, fs), ⟨hc, hn, hf⟩ =>
    subst hc
    obtain ⟨v, hv, i, rfl, hi⟩ := hf k _ hk
    refine va_get C.1 C.2.1 C.2.2.2.2.1 f3 C.2.2.2.1 C.2.2.2.2.2.1.1 hP o (by rw [← hEo]; exact wsOf_at ho) f1 k f2 (C.2.2.2.2.1 _ f4) (fun _ h => h) hv d ?_
    exact K _ H locs lsA lv _ mm r h1 h2 ⟨⟨i, rfl, rfl⟩, k1_⟩ ⟨E, hP, hE⟩ h5 (by rw [hi]; exact h6)
theorem zs_getR (C : Bd g own cc nL p s m args meth c) {i ci k o z : Nat} (d : decode cc pc = .ok (.getfield i, 3)) (fl : FL own i ci k) (ho : layL[o]? = some (.inl ci)) (hk : (fkL ci)[k]? = some (2, z)) {o' : Nat} (hz : o + z = o') (K : Sim p l e R s m args below meth c g nL Q kc ks (pc+3) ls (sR o' :: st) P) : Sim p l e R s m args below meth c g nL Q kc ks pc ls (sR o :: st) P := by
  intro H locs lsA lv vst mm r h1 h2 h3 h4 h5 h6
  obtain ⟨_, vst1, rfl, rfl, k1_⟩ := srel_cons h3
  obtain ⟨E, hP, hE⟩ := h4
  obtain ⟨Cn, T, N, f1, f2, f3, f4⟩ := fl
  have he := hE o _ ho
  generalize hEo : E o = eo at he
  match eo, he with
  | .inr (cj, fs), ⟨hc, hn, hf⟩ =>
    subst hc
    obtain ⟨v, hv, hv2⟩ := hf k _ hk
    cases hv2
    refine va_get C.1 C.2.1 C.2.2.2.2.1 f3 C.2.2.2.1 C.2.2.2.2.2.1.1 hP o (by rw [← hEo]; exact wsOf_at ho) f1 k f2 (C.2.2.2.2.1 _ f4) (fun _ h => h) hv d ?_
    exact K H locs lsA lv _ mm r h1 h2 ⟨by rw [← hz]; rfl, k1_⟩ ⟨E, hP, hE⟩ h5 h6
theorem zs_getM (C : Bd g own cc nL p s m args meth c) {i ci k o z : Nat} {P : Nat → Mem → Option ρ} (d : decode cc pc = .ok (.getfield i, 3)) (fl : FL own i ci k) (ho : layL[o]? = some (.inl ci)) (hk : (fkL ci)[k]? = some (3, z)) (K : ∀ x, Sim p l e R s m args below meth c g nL Q kc ks (pc+3) ls (sR x :: st) (P x)) : Sim p l e R s m args below meth c g nL Q kc ks pc ls (sR o :: st) (fun mm => rdn (mm o (k : Int)).toNat (fun x => P x mm)) := by
  intro H locs lsA lv vst mm r h1 h2 h3 h4 h5 h6
  obtain ⟨_, vst1, rfl, rfl, k1_⟩ := srel_cons h3
  obtain ⟨E, hP, hE⟩ := h4
  obtain ⟨Cn, T, N, f1, f2, f3, f4⟩ := fl
  have he := hE o _ ho
  generalize hEo : E o = eo at he
  match eo, he with
  | .inr (cj, fs), ⟨hc, hn, hf⟩ =>
    subst hc
    obtain ⟨v, hv, hv2⟩ := hf k _ hk
    replace hv2 : 0 ≤ mm o (k : Int) ∧ v = .ref (g.1 + (mm o (k : Int)).toNat) := hv2
    obtain ⟨-, rfl⟩ := hv2
    refine va_get C.1 C.2.1 C.2.2.2.2.1 f3 C.2.2.2.1 C.2.2.2.2.2.1.1 hP o (by rw [← hEo]; exact wsOf_at ho) f1 k f2 (C.2.2.2.2.1 _ f4) (fun _ h => h) hv d ?_
    exact K _ H locs lsA lv _ mm r h1 h2 ⟨rfl, k1_⟩ ⟨E, hP, hE⟩ h5 h6
theorem zs_put (C : Bd g own cc nL p s m args meth c) {i ci k o : Nat} {kd : Nat × Nat} {a : SV} {x : Int} {ty : FieldType} (hQ : ∀ r m1 m2, Q r m1 = Q r m2) (d : decode cc pc = .ok (.putfield i, 3)) (fl : FL own i ci k) (fw : FW ci k ty) (ho : layL[o]? = some (.inl ci)) (hk : (fkL ci)[k]? = some kd)
    (ha : ∀ v, vrel g a v → frel g o kd x v ∧ narrow ty v = v ∧ fits ty v = true) (K : Sim p l e R s m args below meth c g nL Q kc ks (pc+3) ls st P) : Sim p l e R s m args below meth c g nL Q kc ks pc ls (a :: sR o :: st) (fun mm => wr (up mm o (k : Int) x) P) := by
  intro H locs lsA lv vst mm r h1 h2 h3 h4 h5 h6
  obtain ⟨v0, vst1, rfl, hv0, k1_⟩ := srel_cons h3
  obtain ⟨_, vst2, rfl, rfl, k2_⟩ := srel_cons k1_
  obtain ⟨E, hP, hE⟩ := h4
  obtain ⟨Cn, T, N, f1, f2, f3, f4⟩ := fl
  obtain ⟨Cn', T', N', ty0, w1, w2, w3, w4, w5, w6⟩ := fw
  rw [f1] at w1
  cases w1
  have he := hE o _ ho
  generalize hEo : E o = eo at he
  match eo, he with
  | .inr (cj, fs), ⟨hc, hn, hf⟩ =>
    subst hc
    obtain ⟨a1, a2, a3⟩ := ha v0 hv0
    refine va_put C.1 C.2.1 C.2.2.2.2.1 f3 ty0 w3 w4 C.2.2.2.1 C.2.2.2.2.2.1.1 hP wsOf_D h5 o (by rw [← hEo]; exact wsOf_at ho) f1 k f2 (C.2.2.2.2.1 _ f4) (fun _ h => h) w5 (w3 k f2) (by rw [w6]; exact a2) (by rw [w6]; exact a3) (by rw [hn, ← w2]; exact f2) d (fun H1 locs1 hP1 hD1 hS1 => ?_)
    have hR := Rel_set (i := (k : Int)) (v := x) hE ho hP1 (by
      refine ⟨rfl, by rw [List.length_set]; exact hn, fun j kd' hj => ?_⟩
      rw [List.getElem?_set]
      by_cases hjk : k = j
      · subst hjk
        rw [hk] at hj
        cases hj
        refine ⟨v0, by rw [if_pos rfl, if_pos (by rw [hn, ← w2]; exact f2)], ?_⟩
        have : up mm o (k : Int) x o (k : Int) = x := by simp [up]
        rw [this]
        exact a1
      · rw [if_neg hjk]
        obtain ⟨v, hv, hv2⟩ := hf j kd' hj
        refine ⟨v, hv, ?_⟩
        have : up mm o (k : Int) x o (j : Int) = mm o (j : Int) := by simp [up]; omega
        rw [this]
        exact hv2)
    have := K H1 locs1 lsA lv _ _ r h1 h2 k2_ hR hS1 h6
    rw [hQ r mm (up mm o (k : Int) x)]
    exact this
theorem zs_putI (C : Bd g own cc nL p s m args meth c) {i ci k o z : Nat} {x : Int} (hQ : ∀ r m1 m2, Q r m1 = Q r m2) (d : decode cc pc = .ok (.putfield i, 3)) (fl : FL own i ci k) (fw : FW ci k .int) (ho : layL[o]? = some (.inl ci)) (hk : (fkL ci)[k]? = some (0, z)) (K : Sim p l e R s m args below meth c g nL Q kc ks (pc+3) ls st P) : Sim p l e R s m args below meth c g nL Q kc ks pc ls (sI x :: sR o :: st) (fun mm => wr (up mm o (k : Int) x) P) :=
  zs_put C hQ d fl fw ho hk (fun v hv => by obtain ⟨i, rfl, hi⟩ := hv; exact ⟨⟨i, rfl, hi⟩, rfl, rfl⟩) K
theorem zs_nar_bool {i : Int32} {x : Int} (hi : i.toInt = x) (h : x = 0 ∨ x = 1) : narrow .boolean (.int i) = .int i := by
  have : i = 0 ∨ i = 1 := by
    rcases h with h | h
    · exact Or.inl (Int32.toInt_inj.mp (by rw [hi, h]; rfl))
    · exact Or.inr (Int32.toInt_inj.mp (by rw [hi, h]; rfl))
  rcases this with rfl | rfl <;> rfl
theorem zs_fit_bool {i : Int32} {x : Int} (hi : i.toInt = x) (h : x = 0 ∨ x = 1) : fits .boolean (.int i) = true := by
  have : i = 0 ∨ i = 1 := by
    rcases h with h | h
    · exact Or.inl (Int32.toInt_inj.mp (by rw [hi, h]; rfl))
    · exact Or.inr (Int32.toInt_inj.mp (by rw [hi, h]; rfl))
  rcases this with rfl | rfl <;> rfl
theorem zs_putZ (C : Bd g own cc nL p s m args meth c) {i ci k o z : Nat} {x : Int} {hd : Mem → Decidable (x = 0 ∨ x = 1)} (hQ : ∀ r m1 m2, Q r m1 = Q r m2) (d : decode cc pc = .ok (.putfield i, 3)) (fl : FL own i ci k) (fw : FW ci k .boolean) (ho : layL[o]? = some (.inl ci)) (hk : (fkL ci)[k]? = some (0, z)) (K : Sim p l e R s m args below meth c g nL Q kc ks (pc+3) ls st P) : Sim p l e R s m args below meth c g nL Q kc ks pc ls (sI x :: sR o :: st) (fun mm => @chk _ (x = 0 ∨ x = 1) (hd mm) (wr (up mm o (k : Int) x) P)) :=
  zs_chk (P := fun mm => wr (up mm o (k : Int) x) P) (fun _ hx => zs_put C hQ d fl fw ho hk (fun v hv => by obtain ⟨i, rfl, hi⟩ := hv; exact ⟨⟨i, rfl, hi⟩, zs_nar_bool hi hx, zs_fit_bool hi hx⟩) K)
theorem zs_putM (C : Bd g own cc nL p s m args meth c) {i ci k o z o' : Nat} {ty : FieldType} (hty : refKind ty = true) (hQ : ∀ r m1 m2, Q r m1 = Q r m2) (d : decode cc pc = .ok (.putfield i, 3)) (fl : FL own i ci k) (fw : FW ci k ty) (ho : layL[o]? = some (.inl ci)) (hk : (fkL ci)[k]? = some (3, z)) (K : Sim p l e R s m args below meth c g nL Q kc ks (pc+3) ls st P) : Sim p l e R s m args below meth c g nL Q kc ks pc ls (sR o' :: sR o :: st) (fun mm => wr (up mm o (k : Int) (o' : Int)) P) :=
  zs_put C hQ d fl fw ho hk (fun v hv => by
    cases hv
    refine ⟨⟨Int.natCast_nonneg _, rfl⟩, ?_, ?_⟩
    · cases ty <;> first | rfl | cases hty
    · cases ty <;> first | rfl | cases hty) K
theorem zs_arr {g : GC} {mm : Mem} {E : Nat → va_E} {o t n : Nat} (hE : ∀ o d, layL[o]? = some d → erel g d o (mm o) (E o)) (ho : layL[o]? = some (.inr (t, n))) : ∃ f, E o = .inl (g.2.2.1 t, n, f) ∧ crel g t n o (mm o) f := by
  have he := hE o _ ho
  generalize E o = eo at he
  match eo, he with
  | .inl (cA, nn, f), ⟨h1, h2, h3⟩ =>
    subst h1; subst h2
    exact ⟨f, rfl, h3⟩
theorem zs_arrI {g : GC} {t n o : Nat} {f : Int → Int} {c : (Nat → Int32) ⊕ (Nat → Int64) ⊕ (Nat → UInt32) ⊕ (Nat → UInt64) ⊕ (Nat → Option Nat)} (ht : t = 0 ∨ t = 2 ∨ t = 3) (h : crel g t n o f c) : ∃ h : Nat → Int32, c = .inl h ∧ ∀ i : Nat, i < n → (h i).toInt = f i := by
  match c, h with
  | .inl h, q => exact ⟨h, rfl, q.2⟩
  | .inr (.inl h), q => exact absurd q.1 (by omega)
  | .inr (.inr (.inr (.inr h))), q => exact absurd q.1 (by omega)
theorem zs_arrL {g : GC} {n o : Nat} {f : Int → Int} {c : (Nat → Int32) ⊕ (Nat → Int64) ⊕ (Nat → UInt32) ⊕ (Nat → UInt64) ⊕ (Nat → Option Nat)} (h : crel g 1 n o f c) : ∃ h : Nat → Int64, c = .inr (.inl h) ∧ ∀ i : Nat, i < n → (h i).toInt = f i := by
  match c, h with
  | .inl h, q => exact absurd q.1 (by omega)
  | .inr (.inl h), q => exact ⟨h, rfl, q.2⟩
  | .inr (.inr (.inr (.inr h))), q => exact absurd q.1 (by omega)
theorem zs_arrQ {g : GC} {t n o : Nat} {f : Int → Int} {c : (Nat → Int32) ⊕ (Nat → Int64) ⊕ (Nat → UInt32) ⊕ (Nat → UInt64) ⊕ (Nat → Option Nat)} (ht : 4 ≤ t) (h : crel g t n o f c) : ∃ h : Nat → Option Nat, c = .inr (.inr (.inr (.inr h))) ∧ ∀ i : Nat, i < n → h i = some (g.1 + (o + (rTab t).1 + (rTab t).2 * i)) := by
  match c, h with
  | .inl h, q => exact absurd q.1 (by omega)
  | .inr (.inl h), q => exact absurd q.1 (by omega)
  | .inr (.inr (.inr (.inr h))), q => exact ⟨h, rfl, q.2⟩
theorem zs_iald (C : Bd g own cc nL p s m args meth c) {o n : Nat} {i : Int} {P : Int → Mem → Option ρ} {hd : ∀ mm : Mem, Decidable (0 ≤ i ∧ i < (n : Int))} (d : decode cc pc = .ok (.iaload, 1)) (ho : layL[o]? = some (.inr (0, n))) (K : 0 ≤ i ∧ i < (n : Int) → ∀ x, Sim p l e R s m args below meth c g nL Q kc ks (pc+1) ls (sI x :: st) (P x)) : Sim p l e R s m args below meth c g nL Q kc ks pc ls (sI i :: sR o :: st) (fun mm => @chk _ (0 ≤ i ∧ i < (n : Int)) (hd mm) (rd (mm o i) (fun x => P x mm))) := by
  refine zs_chk (P := fun mm => P (mm o i) mm) (fun _ hin => ?_)
  intro H locs lsA lv vst mm r h1 h2 h3 h4 h5 h6
  obtain ⟨_, vst1, rfl, ⟨j, rfl, hj⟩, k1_⟩ := srel_cons h3
  obtain ⟨_, vst2, rfl, rfl, k2_⟩ := srel_cons k1_
  obtain ⟨E, hP, hE⟩ := h4
  obtain ⟨f, e1, e2⟩ := zs_arr hE ho
  obtain ⟨h, rfl, e3⟩ := zs_arrI (by omega) e2
  obtain ⟨b1, b2, b3⟩ := zs_in hj hin
  have hws : (wsOf g E)[o]? = some (g.1 + o, .inl (g.2.2.1 0, n, .inl h)) := by rw [← e1]; exact wsOf_at ho
  have hval := e3 _ b2
  rw [b3] at hval
  exact va_iald C.1 C.2.1 C.2.2.2.2.2.1.1 hP o 0 hws rfl b1 d (K hin (mm o i) H locs lsA lv _ mm r h1 h2 ⟨⟨_, rfl, hval⟩, k2_⟩ ⟨E, hP, hE⟩ h5 h6)
theorem zs_ialdk (C : Bd g own cc nL p s m args meth c) {o n : Nat} {i : Int} {P : Int → Mem → Option ρ} (hin : 0 ≤ i ∧ i < (n : Int)) (d : decode cc pc = .ok (.iaload, 1)) (ho : layL[o]? = some (.inr (0, n))) (K : ∀ x, Sim p l e R s m args below meth c g nL Q kc ks (pc+1) ls (sI x :: st) (P x)) : Sim p l e R s m args below meth c g nL Q kc ks pc ls (sI i :: sR o :: st) (fun mm => rd (mm o i) (fun x => P x mm)) := by
  refine zs_congr (P' := fun mm => @chk _ (0 ≤ i ∧ i < (n : Int)) inferInstance (rd (mm o i) (fun x => P x mm))) (fun mm => ?_) (zs_iald C d ho (fun _ => K))
  unfold chk; rw [if_pos hin]
theorem zs_bald (C : Bd g own cc nL p s m args meth c) {o n : Nat} {i : Int} {P : Int → Mem → Option ρ} {hd : ∀ mm : Mem, Decidable (0 ≤ i ∧ i < (n : Int))} (d : decode cc pc = .ok (.baload, 1)) (ho : layL[o]? = some (.inr (2, n))) (K : 0 ≤ i ∧ i < (n : Int) → ∀ x, Sim p l e R s m args below meth c g nL Q kc ks (pc+1) ls (sI x :: st) (P x)) : Sim p l e R s m args below meth c g nL Q kc ks pc ls (sI i :: sR o :: st) (fun mm => @chk _ (0 ≤ i ∧ i < (n : Int)) (hd mm) (rd (mm o i) (fun x => P x mm))) := by
  refine zs_chk (P := fun mm => P (mm o i) mm) (fun _ hin => ?_)
  intro H locs lsA lv vst mm r h1 h2 h3 h4 h5 h6
  obtain ⟨_, vst1, rfl, ⟨j, rfl, hj⟩, k1_⟩ := srel_cons h3
  obtain ⟨_, vst2, rfl, rfl, k2_⟩ := srel_cons k1_
  obtain ⟨E, hP, hE⟩ := h4
  obtain ⟨f, e1, e2⟩ := zs_arr hE ho
  obtain ⟨h, rfl, e3⟩ := zs_arrI (by omega) e2
  obtain ⟨b1, b2, b3⟩ := zs_in hj hin
  have hws : (wsOf g E)[o]? = some (g.1 + o, .inl (g.2.2.1 2, n, .inl h)) := by rw [← e1]; exact wsOf_at ho
  have hval := e3 _ b2
  rw [b3] at hval
  exact va_bald C.1 C.2.1 C.2.2.2.2.2.1.1 hP o 2 hws rfl b1 d (K hin (mm o i) H locs lsA lv _ mm r h1 h2 ⟨⟨_, rfl, hval⟩, k2_⟩ ⟨E, hP, hE⟩ h5 h6)
theorem zs_baldk (C : Bd g own cc nL p s m args meth c) {o n : Nat} {i : Int} {P : Int → Mem → Option ρ} (hin : 0 ≤ i ∧ i < (n : Int)) (d : decode cc pc = .ok (.baload, 1)) (ho : layL[o]? = some (.inr (2, n))) (K : ∀ x, Sim p l e R s m args below meth c g nL Q kc ks (pc+1) ls (sI x :: st) (P x)) : Sim p l e R s m args below meth c g nL Q kc ks pc ls (sI i :: sR o :: st) (fun mm => rd (mm o i) (fun x => P x mm)) := by
  refine zs_congr (P' := fun mm => @chk _ (0 ≤ i ∧ i < (n : Int)) inferInstance (rd (mm o i) (fun x => P x mm))) (fun mm => ?_) (zs_bald C d ho (fun _ => K))
  unfold chk; rw [if_pos hin]
theorem zs_zald (C : Bd g own cc nL p s m args meth c) {o n : Nat} {i : Int} {P : Int → Mem → Option ρ} {hd : ∀ mm : Mem, Decidable (0 ≤ i ∧ i < (n : Int))} (d : decode cc pc = .ok (.baload, 1)) (ho : layL[o]? = some (.inr (3, n))) (K : 0 ≤ i ∧ i < (n : Int) → ∀ x, Sim p l e R s m args below meth c g nL Q kc ks (pc+1) ls (sI x :: st) (P x)) : Sim p l e R s m args below meth c g nL Q kc ks pc ls (sI i :: sR o :: st) (fun mm => @chk _ (0 ≤ i ∧ i < (n : Int)) (hd mm) (rd (mm o i) (fun x => P x mm))) := by
  refine zs_chk (P := fun mm => P (mm o i) mm) (fun _ hin => ?_)
  intro H locs lsA lv vst mm r h1 h2 h3 h4 h5 h6
  obtain ⟨_, vst1, rfl, ⟨j, rfl, hj⟩, k1_⟩ := srel_cons h3
  obtain ⟨_, vst2, rfl, rfl, k2_⟩ := srel_cons k1_
  obtain ⟨E, hP, hE⟩ := h4
  obtain ⟨f, e1, e2⟩ := zs_arr hE ho
  obtain ⟨h, rfl, e3⟩ := zs_arrI (by omega) e2
  obtain ⟨b1, b2, b3⟩ := zs_in hj hin
  have hws : (wsOf g E)[o]? = some (g.1 + o, .inl (g.2.2.1 3, n, .inl h)) := by rw [← e1]; exact wsOf_at ho
  have hval := e3 _ b2
  rw [b3] at hval
  exact va_zald C.1 C.2.1 C.2.2.2.2.2.1.1 hP o 3 hws rfl b1 d (K hin (mm o i) H locs lsA lv _ mm r h1 h2 ⟨⟨_, rfl, hval⟩, k2_⟩ ⟨E, hP, hE⟩ h5 h6)
theorem zs_zaldk (C : Bd g own cc nL p s m args meth c) {o n : Nat} {i : Int} {P : Int → Mem → Option ρ} (hin : 0 ≤ i ∧ i < (n : Int)) (d : decode cc pc = .ok (.baload, 1)) (ho : layL[o]? = some (.inr (3, n))) (K : ∀ x, Sim p l e R s m args below meth c g nL Q kc ks (pc+1) ls (sI x :: st) (P x)) : Sim p l e R s m args below meth c g nL Q kc ks pc ls (sI i :: sR o :: st) (fun mm => rd (mm o i) (fun x => P x mm)) := by
  refine zs_congr (P' := fun mm => @chk _ (0 ≤ i ∧ i < (n : Int)) inferInstance (rd (mm o i) (fun x => P x mm))) (fun mm => ?_) (zs_zald C d ho (fun _ => K))
  unfold chk; rw [if_pos hin]
theorem zs_lald (C : Bd g own cc nL p s m args meth c) {o n : Nat} {i : Int} {P : Int → Mem → Option ρ} {hd : ∀ mm : Mem, Decidable (0 ≤ i ∧ i < (n : Int))} (d : decode cc pc = .ok (.laload, 1)) (ho : layL[o]? = some (.inr (1, n))) (K : 0 ≤ i ∧ i < (n : Int) → ∀ x, Sim p l e R s m args below meth c g nL Q kc ks (pc+1) ls (sL x :: st) (P x)) : Sim p l e R s m args below meth c g nL Q kc ks pc ls (sI i :: sR o :: st) (fun mm => @chk _ (0 ≤ i ∧ i < (n : Int)) (hd mm) (rd (mm o i) (fun x => P x mm))) := by
  refine zs_chk (P := fun mm => P (mm o i) mm) (fun _ hin => ?_)
  intro H locs lsA lv vst mm r h1 h2 h3 h4 h5 h6
  obtain ⟨_, vst1, rfl, ⟨j, rfl, hj⟩, k1_⟩ := srel_cons h3
  obtain ⟨_, vst2, rfl, rfl, k2_⟩ := srel_cons k1_
  obtain ⟨E, hP, hE⟩ := h4
  obtain ⟨f, e1, e2⟩ := zs_arr hE ho
  obtain ⟨h, rfl, e3⟩ := zs_arrL e2
  obtain ⟨b1, b2, b3⟩ := zs_in hj hin
  have hws : (wsOf g E)[o]? = some (g.1 + o, .inl (g.2.2.1 1, n, .inr (.inl h))) := by rw [← e1]; exact wsOf_at ho
  have hval := e3 _ b2
  rw [b3] at hval
  exact va_lald C.1 C.2.1 C.2.2.2.2.2.1.1 hP o 1 hws rfl b1 d (K hin (mm o i) H locs lsA lv _ mm r h1 h2 ⟨⟨_, rfl, hval⟩, k2_⟩ ⟨E, hP, hE⟩ h5 h6)
theorem zs_laldk (C : Bd g own cc nL p s m args meth c) {o n : Nat} {i : Int} {P : Int → Mem → Option ρ} (hin : 0 ≤ i ∧ i < (n : Int)) (d : decode cc pc = .ok (.laload, 1)) (ho : layL[o]? = some (.inr (1, n))) (K : ∀ x, Sim p l e R s m args below meth c g nL Q kc ks (pc+1) ls (sL x :: st) (P x)) : Sim p l e R s m args below meth c g nL Q kc ks pc ls (sI i :: sR o :: st) (fun mm => rd (mm o i) (fun x => P x mm)) := by
  refine zs_congr (P' := fun mm => @chk _ (0 ≤ i ∧ i < (n : Int)) inferInstance (rd (mm o i) (fun x => P x mm))) (fun mm => ?_) (zs_lald C d ho (fun _ => K))
  unfold chk; rw [if_pos hin]
theorem zs_aald (C : Bd g own cc nL p s m args meth c) {o t n : Nat} {i : Int} {P : Nat → Mem → Option ρ} {hd : ∀ mm : Mem, Decidable (0 ≤ i ∧ i < (n : Int))} (ht : t = 4 ∨ t = 5 ∨ t = 6) (d : decode cc pc = .ok (.aaload, 1)) (ho : layL[o]? = some (.inr (t, n))) {d' : Nat ⊕ (Nat × Nat)} (hl : 0 ≤ i → i < (n : Int) → layL[o + (rTab t).1 + (rTab t).2 * i.toNat]? = some d') (K : ∀ x, layL[x]? = some d' → Sim p l e R s m args below meth c g nL Q kc ks (pc+1) ls (sR x :: st) (P x)) : Sim p l e R s m args below meth c g nL Q kc ks pc ls (sI i :: sR o :: st) (fun mm => @chk _ (0 ≤ i ∧ i < (n : Int)) (hd mm) (rdn (o + (rTab t).1 + (rTab t).2 * i.toNat) (fun x => P x mm))) := by
  refine zs_chk (P := fun mm => P (o + (rTab t).1 + (rTab t).2 * i.toNat) mm) (fun _ hin => ?_)
  intro H locs lsA lv vst mm r h1 h2 h3 h4 h5 h6
  obtain ⟨_, vst1, rfl, ⟨j, rfl, hj⟩, k1_⟩ := srel_cons h3
  obtain ⟨_, vst2, rfl, rfl, k2_⟩ := srel_cons k1_
  obtain ⟨E, hP, hE⟩ := h4
  obtain ⟨f, e1, e2⟩ := zs_arr hE ho
  obtain ⟨h, rfl, e3⟩ := zs_arrQ (by omega) e2
  obtain ⟨b1, b2, b3⟩ := zs_in hj hin
  have hws : (wsOf g E)[o]? = some (g.1 + o, .inl (g.2.2.1 t, n, .inr (.inr (.inr (.inr h))))) := by rw [← e1]; exact wsOf_at ho
  have hval : h j.toNatClampNeg = some (g.1 + (o + (rTab t).1 + (rTab t).2 * i.toNat)) := by
    rw [e3 _ b2]
    have : j.toNatClampNeg = i.toNat := by omega
    rw [this]
  obtain ⟨ty, hty, hgt⟩ : ∃ ty, (ty = .object "RopeWeds$Life" ∨ ty = .object "RopeWeds$World" ∨ ty = .array .long) ∧ (tysOf g)[t]? = some (g.2.2.1 t, ty) := by
    rcases ht with rfl | rfl | rfl
    · exact ⟨_, Or.inl rfl, rfl⟩
    · exact ⟨_, Or.inr (Or.inl rfl), rfl⟩
    · exact ⟨_, Or.inr (Or.inr rfl), rfl⟩
  have kk := K _ (hl hin.1 hin.2) H locs lsA lv (.ref (g.1 + (o + (rTab t).1 + (rTab t).2 * i.toNat)) :: _) mm r h1 h2 ⟨rfl, k2_⟩ ⟨E, hP, hE⟩ h5 h6
  have h0 := (C.2.2.2.2.2.1.1.2 t _ hgt).1 n (fun j => va_rf (h j))
  exact W.aald (v := va_rf (h j.toNatClampNeg)) (ty := ty) C.1 C.2.1 (hP o _ hws) h0 (by rcases hty with rfl | rfl | rfl <;> rfl) (fun q => by cases q) (by show ¬ (j < 0 ∨ (arrV _ _ _).slots.size ≤ _); rw [arrV_size]; exact b1) (by show (arrV _ _ _).slots[_]? = _; rw [arrV_read _ _ b2]) rfl rfl d (by rw [hval]; exact kk)
theorem zs_iast (C : Bd g own cc nL p s m args meth c) {o n : Nat} {i x : Int} {hd : ∀ mm : Mem, Decidable (0 ≤ i ∧ i < (n : Int))} (hQ : ∀ r m1 m2, Q r m1 = Q r m2) (d : decode cc pc = .ok (.iastore, 1)) (ho : layL[o]? = some (.inr (0, n))) (K : Sim p l e R s m args below meth c g nL Q kc ks (pc+1) ls st P) : Sim p l e R s m args below meth c g nL Q kc ks pc ls (sI x :: sI i :: sR o :: st) (fun mm => @chk _ (0 ≤ i ∧ i < (n : Int)) (hd mm) (wr (up mm o i (x)) P)) := by
  refine zs_chk (P := fun mm => wr (up mm o i (x)) P) (fun _ hin => ?_)
  intro H locs lsA lv vst mm r h1 h2 h3 h4 h5 h6
  obtain ⟨_, vst1, rfl, ⟨z, rfl, hz⟩, k1_⟩ := srel_cons h3
  obtain ⟨_, vst2, rfl, ⟨j, rfl, hj⟩, k2_⟩ := srel_cons k1_
  obtain ⟨_, vst3, rfl, rfl, k3_⟩ := srel_cons k2_
  obtain ⟨E, hP, hE⟩ := h4
  obtain ⟨f, e1, e2⟩ := zs_arr hE ho
  obtain ⟨h, rfl, e3⟩ := zs_arrI (by omega) e2
  obtain ⟨b1, b2, b3⟩ := zs_in hj hin
  have hws : (wsOf g E)[o]? = some (g.1 + o, .inl (g.2.2.1 0, n, .inl h)) := by rw [← e1]; exact wsOf_at ho
  refine va_iast C.1 C.2.1 C.2.2.2.2.2.1.1 hP wsOf_D h5 o 0 hws rfl b1 d (fun H1 locs1 hP1 hD1 hS1 => ?_)
  have hR := Rel_set (i := i) (v := x) hE ho hP1 (by
    refine ⟨rfl, rfl, by first | exact rfl | exact Or.inl rfl | exact Or.inr (Or.inl rfl) | exact Or.inr (Or.inr rfl), fun k hk => ?_⟩
    show (upd h j.toNatClampNeg _ k).toInt = _
    unfold upd
    by_cases hkj : k = j.toNatClampNeg
    · rw [if_pos hkj]
      have : up mm o i (x) o (k : Int) = x := by rw [hkj, b3]; simp [up]
      rw [this]
      exact hz
    · rw [if_neg hkj]
      have : up mm o i (x) o (k : Int) = mm o (k : Int) := by simp [up]; omega
      rw [this]
      exact e3 k hk)
  rw [hQ r mm (up mm o i (x))]
  exact K H1 locs1 lsA lv _ _ r h1 h2 k3_ hR hS1 h6
theorem zs_iastk (C : Bd g own cc nL p s m args meth c) {o n : Nat} {i x : Int} (hin : 0 ≤ i ∧ i < (n : Int)) (hQ : ∀ r m1 m2, Q r m1 = Q r m2) (d : decode cc pc = .ok (.iastore, 1)) (ho : layL[o]? = some (.inr (0, n))) (K : Sim p l e R s m args below meth c g nL Q kc ks (pc+1) ls st P) : Sim p l e R s m args below meth c g nL Q kc ks pc ls (sI x :: sI i :: sR o :: st) (fun mm => wr (up mm o i (x)) P) := by
  refine zs_congr (P' := fun mm => @chk _ (0 ≤ i ∧ i < (n : Int)) inferInstance (wr (up mm o i (x)) P)) (fun mm => ?_) (zs_iast C hQ d ho K)
  unfold chk; rw [if_pos hin]
theorem zs_bast (C : Bd g own cc nL p s m args meth c) {o n : Nat} {i x : Int} {hd : ∀ mm : Mem, Decidable (0 ≤ i ∧ i < (n : Int))} (hQ : ∀ r m1 m2, Q r m1 = Q r m2) (d : decode cc pc = .ok (.bastore, 1)) (ho : layL[o]? = some (.inr (2, n))) (K : Sim p l e R s m args below meth c g nL Q kc ks (pc+1) ls st P) : Sim p l e R s m args below meth c g nL Q kc ks pc ls (sI x :: sI i :: sR o :: st) (fun mm => @chk _ (0 ≤ i ∧ i < (n : Int)) (hd mm) (wr (up mm o i (w8 x)) P)) := by
  refine zs_chk (P := fun mm => wr (up mm o i (w8 x)) P) (fun _ hin => ?_)
  intro H locs lsA lv vst mm r h1 h2 h3 h4 h5 h6
  obtain ⟨_, vst1, rfl, ⟨z, rfl, hz⟩, k1_⟩ := srel_cons h3
  obtain ⟨_, vst2, rfl, ⟨j, rfl, hj⟩, k2_⟩ := srel_cons k1_
  obtain ⟨_, vst3, rfl, rfl, k3_⟩ := srel_cons k2_
  obtain ⟨E, hP, hE⟩ := h4
  obtain ⟨f, e1, e2⟩ := zs_arr hE ho
  obtain ⟨h, rfl, e3⟩ := zs_arrI (by omega) e2
  obtain ⟨b1, b2, b3⟩ := zs_in hj hin
  have hws : (wsOf g E)[o]? = some (g.1 + o, .inl (g.2.2.1 2, n, .inl h)) := by rw [← e1]; exact wsOf_at ho
  refine va_bast C.1 C.2.1 C.2.2.2.2.2.1.1 hP wsOf_D h5 o 2 hws rfl b1 d (fun H1 locs1 hP1 hD1 hS1 => ?_)
  have hR := Rel_set (i := i) (v := w8 x) hE ho hP1 (by
    refine ⟨rfl, rfl, by first | exact rfl | exact Or.inl rfl | exact Or.inr (Or.inl rfl) | exact Or.inr (Or.inr rfl), fun k hk => ?_⟩
    show (upd h j.toNatClampNeg _ k).toInt = _
    unfold upd
    by_cases hkj : k = j.toNatClampNeg
    · rw [if_pos hkj]
      have : up mm o i (w8 x) o (k : Int) = w8 x := by rw [hkj, b3]; simp [up]
      rw [this]
      rw [vp_nar_byte, Int8.toInt_toInt32, Int32.toInt_toInt8, hz]; rfl
    · rw [if_neg hkj]
      have : up mm o i (w8 x) o (k : Int) = mm o (k : Int) := by simp [up]; omega
      rw [this]
      exact e3 k hk)
  rw [hQ r mm (up mm o i (w8 x))]
  exact K H1 locs1 lsA lv _ _ r h1 h2 k3_ hR hS1 h6
theorem zs_zast (C : Bd g own cc nL p s m args meth c) {o n : Nat} {i x : Int} {hd : ∀ mm : Mem, Decidable (0 ≤ i ∧ i < (n : Int) ∧ (x = 0 ∨ x = 1))} (hQ : ∀ r m1 m2, Q r m1 = Q r m2) (d : decode cc pc = .ok (.bastore, 1)) (ho : layL[o]? = some (.inr (3, n))) (K : Sim p l e R s m args below meth c g nL Q kc ks (pc+1) ls st P) : Sim p l e R s m args below meth c g nL Q kc ks pc ls (sI x :: sI i :: sR o :: st) (fun mm => @chk _ (0 ≤ i ∧ i < (n : Int) ∧ (x = 0 ∨ x = 1)) (hd mm) (wr (up mm o i (x)) P)) := by
  refine zs_chk (P := fun mm => wr (up mm o i (x)) P) (fun _ hin => ?_)
  intro H locs lsA lv vst mm r h1 h2 h3 h4 h5 h6
  obtain ⟨_, vst1, rfl, ⟨z, rfl, hz⟩, k1_⟩ := srel_cons h3
  obtain ⟨_, vst2, rfl, ⟨j, rfl, hj⟩, k2_⟩ := srel_cons k1_
  obtain ⟨_, vst3, rfl, rfl, k3_⟩ := srel_cons k2_
  obtain ⟨E, hP, hE⟩ := h4
  obtain ⟨f, e1, e2⟩ := zs_arr hE ho
  obtain ⟨h, rfl, e3⟩ := zs_arrI (by omega) e2
  obtain ⟨b1, b2, b3⟩ := zs_in hj ⟨hin.1, hin.2.1⟩
  have hws : (wsOf g E)[o]? = some (g.1 + o, .inl (g.2.2.1 3, n, .inl h)) := by rw [← e1]; exact wsOf_at ho
  refine va_zast C.1 C.2.1 C.2.2.2.2.2.1.1 hP wsOf_D h5 o 3 hws rfl b1 d (fun H1 locs1 hP1 hD1 hS1 => ?_)
  have hR := Rel_set (i := i) (v := x) hE ho hP1 (by
    refine ⟨rfl, rfl, by first | exact rfl | exact Or.inl rfl | exact Or.inr (Or.inl rfl) | exact Or.inr (Or.inr rfl), fun k hk => ?_⟩
    show (upd h j.toNatClampNeg _ k).toInt = _
    unfold upd
    by_cases hkj : k = j.toNatClampNeg
    · rw [if_pos hkj]
      have : up mm o i (x) o (k : Int) = x := by rw [hkj, b3]; simp [up]
      rw [this]
      have hb := zs_nar_bool hz hin.2.2; unfold vp_nar; rw [hb]; exact hz
    · rw [if_neg hkj]
      have : up mm o i (x) o (k : Int) = mm o (k : Int) := by simp [up]; omega
      rw [this]
      exact e3 k hk)
  rw [hQ r mm (up mm o i (x))]
  exact K H1 locs1 lsA lv _ _ r h1 h2 k3_ hR hS1 h6
theorem zs_last (C : Bd g own cc nL p s m args meth c) {o n : Nat} {i x : Int} {hd : ∀ mm : Mem, Decidable (0 ≤ i ∧ i < (n : Int))} (hQ : ∀ r m1 m2, Q r m1 = Q r m2) (d : decode cc pc = .ok (.lastore, 1)) (ho : layL[o]? = some (.inr (1, n))) (K : Sim p l e R s m args below meth c g nL Q kc ks (pc+1) ls st P) : Sim p l e R s m args below meth c g nL Q kc ks pc ls (sL x :: sI i :: sR o :: st) (fun mm => @chk _ (0 ≤ i ∧ i < (n : Int)) (hd mm) (wr (up mm o i (x)) P)) := by
  refine zs_chk (P := fun mm => wr (up mm o i (x)) P) (fun _ hin => ?_)
  intro H locs lsA lv vst mm r h1 h2 h3 h4 h5 h6
  obtain ⟨_, vst1, rfl, ⟨z, rfl, hz⟩, k1_⟩ := srel_cons h3
  obtain ⟨_, vst2, rfl, ⟨j, rfl, hj⟩, k2_⟩ := srel_cons k1_
  obtain ⟨_, vst3, rfl, rfl, k3_⟩ := srel_cons k2_
  obtain ⟨E, hP, hE⟩ := h4
  obtain ⟨f, e1, e2⟩ := zs_arr hE ho
  obtain ⟨h, rfl, e3⟩ := zs_arrL e2
  obtain ⟨b1, b2, b3⟩ := zs_in hj hin
  have hws : (wsOf g E)[o]? = some (g.1 + o, .inl (g.2.2.1 1, n, .inr (.inl h))) := by rw [← e1]; exact wsOf_at ho
  refine va_last C.1 C.2.1 C.2.2.2.2.2.1.1 hP wsOf_D h5 o 1 hws rfl b1 d (fun H1 locs1 hP1 hD1 hS1 => ?_)
  have hR := Rel_set (i := i) (v := x) hE ho hP1 (by
    refine ⟨rfl, rfl, by first | exact rfl | exact Or.inl rfl | exact Or.inr (Or.inl rfl) | exact Or.inr (Or.inr rfl), fun k hk => ?_⟩
    show (vp_updL h j.toNatClampNeg _ k).toInt = _
    unfold vp_updL
    by_cases hkj : k = j.toNatClampNeg
    · rw [if_pos hkj]
      have : up mm o i (x) o (k : Int) = x := by rw [hkj, b3]; simp [up]
      rw [this]
      exact hz
    · rw [if_neg hkj]
      have : up mm o i (x) o (k : Int) = mm o (k : Int) := by simp [up]; omega
      rw [this]
      exact e3 k hk)
  rw [hQ r mm (up mm o i (x))]
  exact K H1 locs1 lsA lv _ _ r h1 h2 k3_ hR hS1 h6
theorem zs_lastk (C : Bd g own cc nL p s m args meth c) {o n : Nat} {i x : Int} (hin : 0 ≤ i ∧ i < (n : Int)) (hQ : ∀ r m1 m2, Q r m1 = Q r m2) (d : decode cc pc = .ok (.lastore, 1)) (ho : layL[o]? = some (.inr (1, n))) (K : Sim p l e R s m args below meth c g nL Q kc ks (pc+1) ls st P) : Sim p l e R s m args below meth c g nL Q kc ks pc ls (sL x :: sI i :: sR o :: st) (fun mm => wr (up mm o i (x)) P) := by
  refine zs_congr (P' := fun mm => @chk _ (0 ≤ i ∧ i < (n : Int)) inferInstance (wr (up mm o i (x)) P)) (fun mm => ?_) (zs_last C hQ d ho K)
  unfold chk; rw [if_pos hin]
theorem zs_alen (C : Bd g own cc nL p s m args meth c) {o t n : Nat} {x : Int} (d : decode cc pc = .ok (.arraylength, 1)) (ho : layL[o]? = some (.inr (t, n))) (ht : t < 7) (hx : (Int32.ofNat n).toInt = x) (K : Sim p l e R s m args below meth c g nL Q kc ks (pc+1) ls (sI x :: st) P) : Sim p l e R s m args below meth c g nL Q kc ks pc ls (sR o :: st) P := by
  intro H locs lsA lv vst mm r h1 h2 h3 h4 h5 h6
  obtain ⟨_, vst1, rfl, rfl, k1_⟩ := srel_cons h3
  obtain ⟨E, hP, hE⟩ := h4
  obtain ⟨f, e1, e2⟩ := zs_arr hE ho
  have hws : (wsOf g E)[o]? = some (g.1 + o, .inl (g.2.2.1 t, n, f)) := by rw [← e1]; exact wsOf_at ho
  obtain ⟨ty, hgt⟩ : ∃ ty, (tysOf g)[t]? = some (g.2.2.1 t, ty) := by
    rcases (show t = 0 ∨ t = 1 ∨ t = 2 ∨ t = 3 ∨ t = 4 ∨ t = 5 ∨ t = 6 by omega) with rfl | rfl | rfl | rfl | rfl | rfl | rfl <;> exact ⟨_, rfl⟩
  exact va_alen C.1 C.2.1 C.2.2.2.2.2.1.1 hP o t hws hgt rfl d (K H locs lsA lv _ mm r h1 h2 ⟨⟨_, rfl, hx⟩, k1_⟩ ⟨E, hP, hE⟩ h5 h6)
theorem zs_retRi (C : Bd g own cc nL p s m args meth c) {rm : Room} {x : Int} (hr : meth.sig.returnType = (some .int)) (hk : kc ≤ rm.cells ∧ ks ≤ rm.slots) (d : decode cc pc = .ok (.ireturn, 1)) : Sim p l e R s m args below meth c g nL (QR g below args s (some .int) rm) kc ks pc ls [sI x] (fun mm => some x) := by
  intro H locs lsA lv vst mm r h1 h2 h3 h4 h5 h6
  obtain ⟨_, vst1, rfl, ⟨z, rfl, hz⟩, k1_⟩ := srel_cons h3
  obtain rfl := srel_nil k1_
  replace h6 : some x = some r := h6
  cases h6
  refine W.widen hk.1 hk.2 ?_
  exact W.iret C.1 C.2.1 hr (fun t ht hW => ⟨⟨z, rfl, hz⟩, by rw [ht]; exact h4, h5.F ht⟩) h5.2.2 d C.2.2.2.2.2.2.1
theorem zs_retRz (C : Bd g own cc nL p s m args meth c) {rm : Room} {x : Int} (hx : x = 0 ∨ x = 1) (hr : meth.sig.returnType = (some .boolean)) (hk : kc ≤ rm.cells ∧ ks ≤ rm.slots) (d : decode cc pc = .ok (.ireturn, 1)) : Sim p l e R s m args below meth c g nL (QR g below args s (some .boolean) rm) kc ks pc ls [sI x] (fun mm => some x) := by
  intro H locs lsA lv vst mm r h1 h2 h3 h4 h5 h6
  obtain ⟨_, vst1, rfl, ⟨z, rfl, hz⟩, k1_⟩ := srel_cons h3
  obtain rfl := srel_nil k1_
  replace h6 : some x = some r := h6
  cases h6
  refine W.widen hk.1 hk.2 ?_
  exact W.zret C.1 C.2.1 hr (zs_nar_bool hz hx) (fun t ht hW => ⟨⟨z, rfl, hz⟩, by rw [ht]; exact h4, h5.F ht⟩) h5.2.2 d C.2.2.2.2.2.2.1
theorem zs_retRl (C : Bd g own cc nL p s m args meth c) {rm : Room} {x : Int} (hr : meth.sig.returnType = (some .long)) (hk : kc ≤ rm.cells ∧ ks ≤ rm.slots) (d : decode cc pc = .ok (.lreturn, 1)) : Sim p l e R s m args below meth c g nL (QR g below args s (some .long) rm) kc ks pc ls [sL x] (fun mm => some x) := by
  intro H locs lsA lv vst mm r h1 h2 h3 h4 h5 h6
  obtain ⟨_, vst1, rfl, ⟨z, rfl, hz⟩, k1_⟩ := srel_cons h3
  obtain rfl := srel_nil k1_
  replace h6 : some x = some r := h6
  cases h6
  refine W.widen hk.1 hk.2 ?_
  exact W.lret C.1 C.2.1 hr (fun t ht hW => ⟨⟨z, rfl, hz⟩, by rw [ht]; exact h4, h5.F ht⟩) h5.2.2 d C.2.2.2.2.2.2.1
theorem zs_retWi (C : Bd g own cc nL p s m args meth c) {rm : Room} {x : Int} (hr : meth.sig.returnType = (some .int)) (hk : kc ≤ rm.cells ∧ ks ≤ rm.slots) (d : decode cc pc = .ok (.ireturn, 1)) : Sim p l e R s m args below meth c g nL (QW g below args s (some .int) rm) kc ks pc ls [sI x] (fun mm => some (x, mm)) := by
  intro H locs lsA lv vst mm r h1 h2 h3 h4 h5 h6
  obtain ⟨_, vst1, rfl, ⟨z, rfl, hz⟩, k1_⟩ := srel_cons h3
  obtain rfl := srel_nil k1_
  replace h6 : some (x, mm) = some r := h6
  cases h6
  refine W.widen hk.1 hk.2 ?_
  exact W.iret C.1 C.2.1 hr (fun t ht hW => ⟨⟨z, rfl, hz⟩, by rw [ht]; exact h4, h5.F ht⟩) h5.2.2 d C.2.2.2.2.2.2.1
theorem zs_retWz (C : Bd g own cc nL p s m args meth c) {rm : Room} {x : Int} (hx : x = 0 ∨ x = 1) (hr : meth.sig.returnType = (some .boolean)) (hk : kc ≤ rm.cells ∧ ks ≤ rm.slots) (d : decode cc pc = .ok (.ireturn, 1)) : Sim p l e R s m args below meth c g nL (QW g below args s (some .boolean) rm) kc ks pc ls [sI x] (fun mm => some (x, mm)) := by
  intro H locs lsA lv vst mm r h1 h2 h3 h4 h5 h6
  obtain ⟨_, vst1, rfl, ⟨z, rfl, hz⟩, k1_⟩ := srel_cons h3
  obtain rfl := srel_nil k1_
  replace h6 : some (x, mm) = some r := h6
  cases h6
  refine W.widen hk.1 hk.2 ?_
  exact W.zret C.1 C.2.1 hr (zs_nar_bool hz hx) (fun t ht hW => ⟨⟨z, rfl, hz⟩, by rw [ht]; exact h4, h5.F ht⟩) h5.2.2 d C.2.2.2.2.2.2.1
theorem zs_retWl (C : Bd g own cc nL p s m args meth c) {rm : Room} {x : Int} (hr : meth.sig.returnType = (some .long)) (hk : kc ≤ rm.cells ∧ ks ≤ rm.slots) (d : decode cc pc = .ok (.lreturn, 1)) : Sim p l e R s m args below meth c g nL (QW g below args s (some .long) rm) kc ks pc ls [sL x] (fun mm => some (x, mm)) := by
  intro H locs lsA lv vst mm r h1 h2 h3 h4 h5 h6
  obtain ⟨_, vst1, rfl, ⟨z, rfl, hz⟩, k1_⟩ := srel_cons h3
  obtain rfl := srel_nil k1_
  replace h6 : some (x, mm) = some r := h6
  cases h6
  refine W.widen hk.1 hk.2 ?_
  exact W.lret C.1 C.2.1 hr (fun t ht hW => ⟨⟨z, rfl, hz⟩, by rw [ht]; exact h4, h5.F ht⟩) h5.2.2 d C.2.2.2.2.2.2.1
theorem zs_retVv (C : Bd g own cc nL p s m args meth c) {rm : Room} (hr : meth.sig.returnType = none) (hk : kc ≤ rm.cells ∧ ks ≤ rm.slots) (d : decode cc pc = .ok (.return_, 1)) : Sim p l e R s m args below meth c g nL (QV g below args s rm) kc ks pc ls [] (fun mm => some mm) := by
  intro H locs lsA lv vst mm r h1 h2 h3 h4 h5 h6
  obtain rfl := srel_nil h3
  replace h6 : some mm = some r := h6
  cases h6
  refine W.widen hk.1 hk.2 ?_
  exact W.vret C.1 C.2.1 hr (fun t ht hW => ⟨rfl, by rw [ht]; exact h4, h5.F ht⟩) h5.2.2 d C.2.2.2.2.2.2.1
theorem zs_words {y : MethodName} {bytes : ByteArray} {nL2 : Nat} {ret : Option FieldType} (h : Cond.code y bytes nL2 ret ∈ LW) : ∀ w ∈ (Cond.code y bytes nL2 ret :: LW), w ∈ LW := fun w hw => (List.mem_cons.mp hw).elim (fun q => q ▸ h) id
theorem zs_cb (C : Bd g own cc nL p s m args meth c) {idx nL2 n : Nat} {Cn : String} {y : MethodName} {bytes : ByteArray} {ret : Option FieldType} {rm : Room} (ml : ML own idx Cn y bytes nL2 ret n) (hRm : rm.frames + 1 ≤ R.frames ∧ 8 + (nL2 + 11) + rm.locals ≤ R.locals) : CallW R s args own Cn idx y bytes nL2 ret (Cond.code y bytes nL2 ret :: LW) rm rm.cells rm.slots n := by
  obtain ⟨⟨m1, m2, m3, m4, m5⟩, m6, m7, m8, m9⟩ := ml
  have hts := C.2.2.2.2.1
  subst m6
  exact ⟨⟨rfl, rfl, hRm.1, hRm.2, fun w hw a' U hW => word_at hW (LW_good w (zs_words m5 w hw)) (hts w (zs_words m5 w hw)), List.mem_cons_self, hts _ m5, hts _ m4, ⟨m7, m8⟩, fun sig hs => by rw [hs] at m9; exact (Option.some.inj m9).symm, hts _ m1⟩, hts _ m2, hts _ m3⟩
theorem zs_cs (C : Bd g own cc nL p s m args meth c) {idx nL2 n : Nat} {y : MethodName} {bytes : ByteArray} {ret : Option FieldType} {rm : Room} (ml : MS own idx y bytes nL2 ret n) (hRm : rm.frames + 1 ≤ R.frames ∧ 8 + (nL2 + 11) + rm.locals ≤ R.locals) : CallB R s args own idx y bytes nL2 ret (Cond.code y bytes nL2 ret :: LW) rm rm.cells rm.slots n ∧ (Cond.static y).before args s = true := by
  obtain ⟨⟨m1, m2, m4, m5⟩, m7, m8, m9⟩ := ml
  have hts := C.2.2.2.2.1
  exact ⟨⟨rfl, rfl, hRm.1, hRm.2, fun w hw a' U hW => word_at hW (LW_good w (zs_words m5 w hw)) (hts w (zs_words m5 w hw)), List.mem_cons_self, hts _ m5, hts _ m4, ⟨m7, m8⟩, fun sig hs => by rw [hs] at m9; exact (Option.some.inj m9).symm, hts _ m1⟩, hts _ m2⟩
theorem zs_pre (C : Bd g own cc nL p s m args meth c) {H : Heap} {locs : List Loc} {mm : Mem} {svs : List SV} {vs : List Value} (h4 : Rel g mm H) (h5 : va_S (fun q => g.1 ≤ q) s.heap H locs) (hv : srel g svs vs) : ∀ U : State, U.heap = H → s.WarmedH U.vm → PcS g svs mm vs.toArray U := by
  intro U hU hW
  subst hU
  exact ⟨vs, rfl, hv, h4, Kn_moved (A := fun q => g.1 ≤ q) (fun _ h => h) C.2.2.2.2.2.1 hW h5.1 h5.2.1, Nat.le_trans C.2.2.2.2.2.2.2 h5.1⟩
theorem zs_after {H : Heap} {locs : List Loc} {lsA : Array Slot} {v0 vst : List Value} {a : Array Value} {ret : Option FieldType} {x : Int} {mm' : Mem} {mc ms : Nat} {Q' : State → Prop} (run : va_Run p l e R s m args below meth c H locs kc ks mc ms (F0 m pc lsA v0) vst (QcS g ret x mm' a) (fun q => g.1 ≤ q)) (h5 : va_S (fun q => g.1 ≤ q) s.heap H locs)
    (K : ∀ (v : Option Value) (H1 : Heap) (locs1 : List Loc), rrel ret x (.returned v) → Rel g mm' H1 → va_S (fun q => g.1 ≤ q) s.heap H1 locs1 → W p l e R s m args below meth c H1 locs1 (kc + mc) (ks + ms) Q' (F0 m (pc+3) lsA (v.toList ++ vst))) : W p l e R s m args below meth c H locs kc ks Q' (F0 m pc lsA v0) := by
  intro T hT X
  obtain ⟨v, st₀, t, T', L, h0, X', hL, e1, e2, ⟨hq1, hq2, hq3⟩, stp⟩ := run T hT X
  rw [← e1] at hq2
  have hS1 : va_S (fun q => g.1 ≤ q) s.heap T'.heap (locs ++ L) := by
    refine ⟨Nat.le_trans h5.1 (by rw [e1, ← h0]; exact hq3.1), fun q h1 h2 => ?_, fun z hz => ?_⟩
    · rw [e1, hq3.2 q (by rw [h0]; exact Nat.lt_of_lt_of_le h1 h5.1) h2, h0]
      exact h5.2.1 q h1 h2
    · rcases List.mem_append.mp hz with h | h
      · exact h5.2.2 z h
      · exact hL z h
  obtain ⟨t2, a1, b1⟩ := K v T'.heap (locs ++ L) hq1 hq2 hS1 T' rfl X'
  exact ⟨t2, stp t2 a1, b1⟩
theorem zs_recv (C : Bd g own cc nL p s m args meth c) {H : Heap} {mm : Mem} {ci o : Nat} {Cn : String} {T : u_T} {N : Nat} (h4 : Rel g mm H) (ho : layL[o]? = some (.inl ci)) (hcl : vwCl[ci]? = some (Cn, T, N)) : ∃ cellB : Cell, H[g.1 + o]? = some cellB ∧ cellB.vm.isStatics = false ∧ s.vm.findClass Cn = some cellB.cls := by
  obtain ⟨E, hP, hE⟩ := h4
  have he := hE o _ ho
  generalize hEo : E o = eo at he
  match eo, he with
  | .inr (cj, fs), ⟨hc, hn, hf⟩ =>
    subst hc
    exact va_recv C.2.2.2.2.2.1.1 hP hcl (by rw [← hEo]; exact wsOf_at ho)
theorem zs_cvRi (C : Bd g own cc nL p s m args meth c) {idx nL2 n : Nat} {y : MethodName} {bytes : ByteArray} {ret : Option FieldType} {rm : Room} {As st0 : List SV} {F : Mem → Option Int} {P : Int → Mem → Option ρ} {ci o : Nat} {Cn : String} {T : u_T} {N : Nat} (hret : iret ret = true) (hM : ConR l g y bytes nL2 ret rm (sR o :: As) F) (ml : ML own idx Cn y bytes nL2 ret n) (ho : layL[o]? = some (.inl ci)) (hcl : vwCl[ci]? = some (Cn, T, N)) (hst : st0 = As.reverse ++ sR o :: st) (hn : As.length = n) (hcat : (st.map scat).sum ≤ 8) (hRm : rm.frames + 1 ≤ R.frames ∧ 8 + (nL2 + 11) + rm.locals ≤ R.locals) (hc : kc + rm.cells ≤ R.cells ∧ ks + rm.slots ≤ R.slots) (d : decode cc pc = .ok (.invokevirtual idx, 3)) (K : ∀ x, Sim p l e R s m args below meth c g nL Q (kc + rm.cells) (ks + rm.slots) (pc+3) ls (sI x :: st) (P x)) : Sim p l e R s m args below meth c g nL Q kc ks pc ls st0 (fun mm => bR (F mm) (fun x => P x mm)) := by
  intro H locs lsA lv vst mm r h1 h2 h3 h4 h5 h6
  subst hst
  obtain ⟨va, vst, rfl, ha, hb⟩ := srel_app h3
  obtain ⟨_, vst, rfl, rfl, hc2⟩ := srel_cons hb
  obtain ⟨x, hx, hy⟩ := Option.bind_eq_some_iff.mp h6
  have has : srel g As va.reverse := by
    have q := srel_rev ha
    rwa [List.reverse_reverse] at q
  have run := va_runV (e := e) (below := below) (meth := meth) (locs := locs) (As := va.reverse) (rest := vst) (g := F0 m pc lsA _) ⟨C.1, C.2.1, C.2.2.1, C.2.2.2.1, C.2.2.2.2.1⟩ (hM mm x hx) (zs_cb C ml hRm) ⟨PcS_blind, zs_recv C h4 ho hcl, zs_pre C h4 h5 (svs := sR o :: As) (vs := .ref (g.1 + o) :: va.reverse) ⟨rfl, has⟩⟩ rfl ((srel_len has).trans hn) h1.1 (by rw [List.reverse_reverse]) (lv_room (by rw [srel_cat hc2]; exact hcat)) d hc
  refine zs_after run h5 (fun v H1 locs1 hv hR1 hS1 => ?_)
  obtain ⟨i, hv1, hi⟩ := zs_rint hret hv
  cases hv1
  exact K x H1 locs1 lsA lv _ mm r h1 h2 ⟨⟨i, rfl, hi⟩, hc2⟩ hR1 hS1 hy
theorem zs_cvRl (C : Bd g own cc nL p s m args meth c) {idx nL2 n : Nat} {y : MethodName} {bytes : ByteArray} {rm : Room} {As st0 : List SV} {F : Mem → Option Int} {P : Int → Mem → Option ρ} {ci o : Nat} {Cn : String} {T : u_T} {N : Nat} (hM : ConR l g y bytes nL2 (some .long) rm (sR o :: As) F) (ml : ML own idx Cn y bytes nL2 (some .long) n) (ho : layL[o]? = some (.inl ci)) (hcl : vwCl[ci]? = some (Cn, T, N)) (hst : st0 = As.reverse ++ sR o :: st) (hn : As.length = n) (hcat : (st.map scat).sum ≤ 8) (hRm : rm.frames + 1 ≤ R.frames ∧ 8 + (nL2 + 11) + rm.locals ≤ R.locals) (hc : kc + rm.cells ≤ R.cells ∧ ks + rm.slots ≤ R.slots) (d : decode cc pc = .ok (.invokevirtual idx, 3)) (K : ∀ x, Sim p l e R s m args below meth c g nL Q (kc + rm.cells) (ks + rm.slots) (pc+3) ls (sL x :: st) (P x)) : Sim p l e R s m args below meth c g nL Q kc ks pc ls st0 (fun mm => bR (F mm) (fun x => P x mm)) := by
  intro H locs lsA lv vst mm r h1 h2 h3 h4 h5 h6
  subst hst
  obtain ⟨va, vst, rfl, ha, hb⟩ := srel_app h3
  obtain ⟨_, vst, rfl, rfl, hc2⟩ := srel_cons hb
  obtain ⟨x, hx, hy⟩ := Option.bind_eq_some_iff.mp h6
  have has : srel g As va.reverse := by
    have q := srel_rev ha
    rwa [List.reverse_reverse] at q
  have run := va_runV (e := e) (below := below) (meth := meth) (locs := locs) (As := va.reverse) (rest := vst) (g := F0 m pc lsA _) ⟨C.1, C.2.1, C.2.2.1, C.2.2.2.1, C.2.2.2.2.1⟩ (hM mm x hx) (zs_cb C ml hRm) ⟨PcS_blind, zs_recv C h4 ho hcl, zs_pre C h4 h5 (svs := sR o :: As) (vs := .ref (g.1 + o) :: va.reverse) ⟨rfl, has⟩⟩ rfl ((srel_len has).trans hn) h1.1 (by rw [List.reverse_reverse]) (lv_room (by rw [srel_cat hc2]; exact hcat)) d hc
  refine zs_after run h5 (fun v H1 locs1 hv hR1 hS1 => ?_)
  obtain ⟨i, hv1, hi⟩ := hv
  cases hv1
  exact K x H1 locs1 lsA lv _ mm r h1 h2 ⟨⟨i, rfl, hi⟩, hc2⟩ hR1 hS1 hy
theorem zs_cvWi (C : Bd g own cc nL p s m args meth c) {idx nL2 n : Nat} {y : MethodName} {bytes : ByteArray} {ret : Option FieldType} {rm : Room} {As st0 : List SV} {F : Mem → Option (Int × Mem)} {P : Int → Mem → Option ρ} {ci o : Nat} {Cn : String} {T : u_T} {N : Nat} (hQ : ∀ r m1 m2, Q r m1 = Q r m2) (hret : iret ret = true) (hM : ConW l g y bytes nL2 ret rm (sR o :: As) F) (ml : ML own idx Cn y bytes nL2 ret n) (ho : layL[o]? = some (.inl ci)) (hcl : vwCl[ci]? = some (Cn, T, N)) (hst : st0 = As.reverse ++ sR o :: st) (hn : As.length = n) (hcat : (st.map scat).sum ≤ 8) (hRm : rm.frames + 1 ≤ R.frames ∧ 8 + (nL2 + 11) + rm.locals ≤ R.locals) (hc : kc + rm.cells ≤ R.cells ∧ ks + rm.slots ≤ R.slots) (d : decode cc pc = .ok (.invokevirtual idx, 3)) (K : ∀ x, Sim p l e R s m args below meth c g nL Q (kc + rm.cells) (ks + rm.slots) (pc+3) ls (sI x :: st) (P x)) : Sim p l e R s m args below meth c g nL Q kc ks pc ls st0 (fun mm => bW (F mm) P) := by
  intro H locs lsA lv vst mm r h1 h2 h3 h4 h5 h6
  subst hst
  obtain ⟨va, vst, rfl, ha, hb⟩ := srel_app h3
  obtain ⟨_, vst, rfl, rfl, hc2⟩ := srel_cons hb
  obtain ⟨x, hx, hy⟩ := Option.bind_eq_some_iff.mp h6
  have has : srel g As va.reverse := by
    have q := srel_rev ha
    rwa [List.reverse_reverse] at q
  have run := va_runV (e := e) (below := below) (meth := meth) (locs := locs) (As := va.reverse) (rest := vst) (g := F0 m pc lsA _) ⟨C.1, C.2.1, C.2.2.1, C.2.2.2.1, C.2.2.2.2.1⟩ (hM mm x hx) (zs_cb C ml hRm) ⟨PcS_blind, zs_recv C h4 ho hcl, zs_pre C h4 h5 (svs := sR o :: As) (vs := .ref (g.1 + o) :: va.reverse) ⟨rfl, has⟩⟩ rfl ((srel_len has).trans hn) h1.1 (by rw [List.reverse_reverse]) (lv_room (by rw [srel_cat hc2]; exact hcat)) d hc
  refine zs_after run h5 (fun v H1 locs1 hv hR1 hS1 => ?_)
  obtain ⟨i, hv1, hi⟩ := zs_rint hret hv
  cases hv1
  rw [hQ r mm x.2]
  exact K x.1 H1 locs1 lsA lv _ x.2 r h1 h2 ⟨⟨i, rfl, hi⟩, hc2⟩ hR1 hS1 hy
theorem zs_cvWl (C : Bd g own cc nL p s m args meth c) {idx nL2 n : Nat} {y : MethodName} {bytes : ByteArray} {rm : Room} {As st0 : List SV} {F : Mem → Option (Int × Mem)} {P : Int → Mem → Option ρ} {ci o : Nat} {Cn : String} {T : u_T} {N : Nat} (hQ : ∀ r m1 m2, Q r m1 = Q r m2) (hM : ConW l g y bytes nL2 (some .long) rm (sR o :: As) F) (ml : ML own idx Cn y bytes nL2 (some .long) n) (ho : layL[o]? = some (.inl ci)) (hcl : vwCl[ci]? = some (Cn, T, N)) (hst : st0 = As.reverse ++ sR o :: st) (hn : As.length = n) (hcat : (st.map scat).sum ≤ 8) (hRm : rm.frames + 1 ≤ R.frames ∧ 8 + (nL2 + 11) + rm.locals ≤ R.locals) (hc : kc + rm.cells ≤ R.cells ∧ ks + rm.slots ≤ R.slots) (d : decode cc pc = .ok (.invokevirtual idx, 3)) (K : ∀ x, Sim p l e R s m args below meth c g nL Q (kc + rm.cells) (ks + rm.slots) (pc+3) ls (sL x :: st) (P x)) : Sim p l e R s m args below meth c g nL Q kc ks pc ls st0 (fun mm => bW (F mm) P) := by
  intro H locs lsA lv vst mm r h1 h2 h3 h4 h5 h6
  subst hst
  obtain ⟨va, vst, rfl, ha, hb⟩ := srel_app h3
  obtain ⟨_, vst, rfl, rfl, hc2⟩ := srel_cons hb
  obtain ⟨x, hx, hy⟩ := Option.bind_eq_some_iff.mp h6
  have has : srel g As va.reverse := by
    have q := srel_rev ha
    rwa [List.reverse_reverse] at q
  have run := va_runV (e := e) (below := below) (meth := meth) (locs := locs) (As := va.reverse) (rest := vst) (g := F0 m pc lsA _) ⟨C.1, C.2.1, C.2.2.1, C.2.2.2.1, C.2.2.2.2.1⟩ (hM mm x hx) (zs_cb C ml hRm) ⟨PcS_blind, zs_recv C h4 ho hcl, zs_pre C h4 h5 (svs := sR o :: As) (vs := .ref (g.1 + o) :: va.reverse) ⟨rfl, has⟩⟩ rfl ((srel_len has).trans hn) h1.1 (by rw [List.reverse_reverse]) (lv_room (by rw [srel_cat hc2]; exact hcat)) d hc
  refine zs_after run h5 (fun v H1 locs1 hv hR1 hS1 => ?_)
  obtain ⟨i, hv1, hi⟩ := hv
  cases hv1
  rw [hQ r mm x.2]
  exact K x.1 H1 locs1 lsA lv _ x.2 r h1 h2 ⟨⟨i, rfl, hi⟩, hc2⟩ hR1 hS1 hy
theorem zs_cvVv (C : Bd g own cc nL p s m args meth c) {idx nL2 n : Nat} {y : MethodName} {bytes : ByteArray} {rm : Room} {As st0 : List SV} {F : Mem → Option Mem}  {ci o : Nat} {Cn : String} {T : u_T} {N : Nat} (hQ : ∀ r m1 m2, Q r m1 = Q r m2) (hM : ConV l g y bytes nL2 rm (sR o :: As) F) (ml : ML own idx Cn y bytes nL2 none n) (ho : layL[o]? = some (.inl ci)) (hcl : vwCl[ci]? = some (Cn, T, N)) (hst : st0 = As.reverse ++ sR o :: st) (hn : As.length = n) (hcat : (st.map scat).sum ≤ 8) (hRm : rm.frames + 1 ≤ R.frames ∧ 8 + (nL2 + 11) + rm.locals ≤ R.locals) (hc : kc + rm.cells ≤ R.cells ∧ ks + rm.slots ≤ R.slots) (d : decode cc pc = .ok (.invokevirtual idx, 3)) (K : Sim p l e R s m args below meth c g nL Q (kc + rm.cells) (ks + rm.slots) (pc+3) ls st P) : Sim p l e R s m args below meth c g nL Q kc ks pc ls st0 (fun mm => bV (F mm) P) := by
  intro H locs lsA lv vst mm r h1 h2 h3 h4 h5 h6
  subst hst
  obtain ⟨va, vst, rfl, ha, hb⟩ := srel_app h3
  obtain ⟨_, vst, rfl, rfl, hc2⟩ := srel_cons hb
  obtain ⟨x, hx, hy⟩ := Option.bind_eq_some_iff.mp h6
  have has : srel g As va.reverse := by
    have q := srel_rev ha
    rwa [List.reverse_reverse] at q
  have run := va_runV (e := e) (below := below) (meth := meth) (locs := locs) (As := va.reverse) (rest := vst) (g := F0 m pc lsA _) ⟨C.1, C.2.1, C.2.2.1, C.2.2.2.1, C.2.2.2.2.1⟩ (hM mm x hx) (zs_cb C ml hRm) ⟨PcS_blind, zs_recv C h4 ho hcl, zs_pre C h4 h5 (svs := sR o :: As) (vs := .ref (g.1 + o) :: va.reverse) ⟨rfl, has⟩⟩ rfl ((srel_len has).trans hn) h1.1 (by rw [List.reverse_reverse]) (lv_room (by rw [srel_cat hc2]; exact hcat)) d hc
  refine zs_after run h5 (fun v H1 locs1 hv hR1 hS1 => ?_)
  cases hv
  rw [hQ r mm x]
  exact K H1 locs1 lsA lv _ x r h1 h2 hc2 hR1 hS1 hy
theorem zs_csRi (C : Bd g own cc nL p s m args meth c) {idx nL2 n : Nat} {y : MethodName} {bytes : ByteArray} {ret : Option FieldType} {rm : Room} {As st0 : List SV} {F : Mem → Option Int} {P : Int → Mem → Option ρ} (hret : iret ret = true) (hM : ConR l g y bytes nL2 ret rm As F) (ml : MS own idx y bytes nL2 ret n) (hst : st0 = As.reverse ++ st) (hn : As.length = n) (hcat : (st.map scat).sum ≤ 8) (hRm : rm.frames + 1 ≤ R.frames ∧ 8 + (nL2 + 11) + rm.locals ≤ R.locals) (hc : kc + rm.cells ≤ R.cells ∧ ks + rm.slots ≤ R.slots) (d : decode cc pc = .ok (.invokestatic idx, 3)) (K : ∀ x, Sim p l e R s m args below meth c g nL Q (kc + rm.cells) (ks + rm.slots) (pc+3) ls (sI x :: st) (P x)) : Sim p l e R s m args below meth c g nL Q kc ks pc ls st0 (fun mm => bR (F mm) (fun x => P x mm)) := by
  intro H locs lsA lv vst mm r h1 h2 h3 h4 h5 h6
  subst hst
  obtain ⟨va, vst, rfl, ha, hb⟩ := srel_app h3
  obtain ⟨x, hx, hy⟩ := Option.bind_eq_some_iff.mp h6
  have has : srel g As va.reverse := by
    have q := srel_rev ha
    rwa [List.reverse_reverse] at q
  have run := va_runS (e := e) (below := below) (meth := meth) (locs := locs) (As := va.reverse) (rest := vst) (g := F0 m pc lsA _) ⟨C.1, C.2.1, C.2.2.1, C.2.2.2.1, C.2.2.2.2.1⟩ (hM mm x hx) (zs_cs C ml hRm) ⟨PcS_blind, zs_pre C h4 h5 (svs := As) (vs := va.reverse) has⟩ rfl ((srel_len has).trans hn) h1.1 (by rw [List.reverse_reverse]) (lv_room (by rw [srel_cat hb]; exact hcat)) d hc
  refine zs_after run h5 (fun v H1 locs1 hv hR1 hS1 => ?_)
  obtain ⟨i, hv1, hi⟩ := zs_rint hret hv
  cases hv1
  exact K x H1 locs1 lsA lv _ mm r h1 h2 ⟨⟨i, rfl, hi⟩, hb⟩ hR1 hS1 hy
theorem zs_csRl (C : Bd g own cc nL p s m args meth c) {idx nL2 n : Nat} {y : MethodName} {bytes : ByteArray} {rm : Room} {As st0 : List SV} {F : Mem → Option Int} {P : Int → Mem → Option ρ} (hM : ConR l g y bytes nL2 (some .long) rm As F) (ml : MS own idx y bytes nL2 (some .long) n) (hst : st0 = As.reverse ++ st) (hn : As.length = n) (hcat : (st.map scat).sum ≤ 8) (hRm : rm.frames + 1 ≤ R.frames ∧ 8 + (nL2 + 11) + rm.locals ≤ R.locals) (hc : kc + rm.cells ≤ R.cells ∧ ks + rm.slots ≤ R.slots) (d : decode cc pc = .ok (.invokestatic idx, 3)) (K : ∀ x, Sim p l e R s m args below meth c g nL Q (kc + rm.cells) (ks + rm.slots) (pc+3) ls (sL x :: st) (P x)) : Sim p l e R s m args below meth c g nL Q kc ks pc ls st0 (fun mm => bR (F mm) (fun x => P x mm)) := by
  intro H locs lsA lv vst mm r h1 h2 h3 h4 h5 h6
  subst hst
  obtain ⟨va, vst, rfl, ha, hb⟩ := srel_app h3
  obtain ⟨x, hx, hy⟩ := Option.bind_eq_some_iff.mp h6
  have has : srel g As va.reverse := by
    have q := srel_rev ha
    rwa [List.reverse_reverse] at q
  have run := va_runS (e := e) (below := below) (meth := meth) (locs := locs) (As := va.reverse) (rest := vst) (g := F0 m pc lsA _) ⟨C.1, C.2.1, C.2.2.1, C.2.2.2.1, C.2.2.2.2.1⟩ (hM mm x hx) (zs_cs C ml hRm) ⟨PcS_blind, zs_pre C h4 h5 (svs := As) (vs := va.reverse) has⟩ rfl ((srel_len has).trans hn) h1.1 (by rw [List.reverse_reverse]) (lv_room (by rw [srel_cat hb]; exact hcat)) d hc
  refine zs_after run h5 (fun v H1 locs1 hv hR1 hS1 => ?_)
  obtain ⟨i, hv1, hi⟩ := hv
  cases hv1
  exact K x H1 locs1 lsA lv _ mm r h1 h2 ⟨⟨i, rfl, hi⟩, hb⟩ hR1 hS1 hy
theorem zs_csRv (C : Bd g own cc nL p s m args meth c) {idx nL2 n : Nat} {y : MethodName} {bytes : ByteArray} {rm : Room} {As st0 : List SV} {F : Mem → Option Int} {P : Int → Mem → Option ρ} (hM : ConR l g y bytes nL2 none rm As F) (ml : MS own idx y bytes nL2 none n) (hst : st0 = As.reverse ++ st) (hn : As.length = n) (hcat : (st.map scat).sum ≤ 8) (hRm : rm.frames + 1 ≤ R.frames ∧ 8 + (nL2 + 11) + rm.locals ≤ R.locals) (hc : kc + rm.cells ≤ R.cells ∧ ks + rm.slots ≤ R.slots) (d : decode cc pc = .ok (.invokestatic idx, 3)) (K : ∀ x, Sim p l e R s m args below meth c g nL Q (kc + rm.cells) (ks + rm.slots) (pc+3) ls (st) (P x)) : Sim p l e R s m args below meth c g nL Q kc ks pc ls st0 (fun mm => bR (F mm) (fun x => P x mm)) := by
  intro H locs lsA lv vst mm r h1 h2 h3 h4 h5 h6
  subst hst
  obtain ⟨va, vst, rfl, ha, hb⟩ := srel_app h3
  obtain ⟨x, hx, hy⟩ := Option.bind_eq_some_iff.mp h6
  have has : srel g As va.reverse := by
    have q := srel_rev ha
    rwa [List.reverse_reverse] at q
  have run := va_runS (e := e) (below := below) (meth := meth) (locs := locs) (As := va.reverse) (rest := vst) (g := F0 m pc lsA _) ⟨C.1, C.2.1, C.2.2.1, C.2.2.2.1, C.2.2.2.2.1⟩ (hM mm x hx) (zs_cs C ml hRm) ⟨PcS_blind, zs_pre C h4 h5 (svs := As) (vs := va.reverse) has⟩ rfl ((srel_len has).trans hn) h1.1 (by rw [List.reverse_reverse]) (lv_room (by rw [srel_cat hb]; exact hcat)) d hc
  refine zs_after run h5 (fun v H1 locs1 hv hR1 hS1 => ?_)
  cases hv
  exact K x H1 locs1 lsA lv _ mm r h1 h2 hb hR1 hS1 hy
theorem zs_csWi (C : Bd g own cc nL p s m args meth c) {idx nL2 n : Nat} {y : MethodName} {bytes : ByteArray} {ret : Option FieldType} {rm : Room} {As st0 : List SV} {F : Mem → Option (Int × Mem)} {P : Int → Mem → Option ρ} (hQ : ∀ r m1 m2, Q r m1 = Q r m2) (hret : iret ret = true) (hM : ConW l g y bytes nL2 ret rm As F) (ml : MS own idx y bytes nL2 ret n) (hst : st0 = As.reverse ++ st) (hn : As.length = n) (hcat : (st.map scat).sum ≤ 8) (hRm : rm.frames + 1 ≤ R.frames ∧ 8 + (nL2 + 11) + rm.locals ≤ R.locals) (hc : kc + rm.cells ≤ R.cells ∧ ks + rm.slots ≤ R.slots) (d : decode cc pc = .ok (.invokestatic idx, 3)) (K : ∀ x, Sim p l e R s m args below meth c g nL Q (kc + rm.cells) (ks + rm.slots) (pc+3) ls (sI x :: st) (P x)) : Sim p l e R s m args below meth c g nL Q kc ks pc ls st0 (fun mm => bW (F mm) P) := by
  intro H locs lsA lv vst mm r h1 h2 h3 h4 h5 h6
  subst hst
  obtain ⟨va, vst, rfl, ha, hb⟩ := srel_app h3
  obtain ⟨x, hx, hy⟩ := Option.bind_eq_some_iff.mp h6
  have has : srel g As va.reverse := by
    have q := srel_rev ha
    rwa [List.reverse_reverse] at q
  have run := va_runS (e := e) (below := below) (meth := meth) (locs := locs) (As := va.reverse) (rest := vst) (g := F0 m pc lsA _) ⟨C.1, C.2.1, C.2.2.1, C.2.2.2.1, C.2.2.2.2.1⟩ (hM mm x hx) (zs_cs C ml hRm) ⟨PcS_blind, zs_pre C h4 h5 (svs := As) (vs := va.reverse) has⟩ rfl ((srel_len has).trans hn) h1.1 (by rw [List.reverse_reverse]) (lv_room (by rw [srel_cat hb]; exact hcat)) d hc
  refine zs_after run h5 (fun v H1 locs1 hv hR1 hS1 => ?_)
  obtain ⟨i, hv1, hi⟩ := zs_rint hret hv
  cases hv1
  rw [hQ r mm x.2]
  exact K x.1 H1 locs1 lsA lv _ x.2 r h1 h2 ⟨⟨i, rfl, hi⟩, hb⟩ hR1 hS1 hy
theorem zs_csWl (C : Bd g own cc nL p s m args meth c) {idx nL2 n : Nat} {y : MethodName} {bytes : ByteArray} {rm : Room} {As st0 : List SV} {F : Mem → Option (Int × Mem)} {P : Int → Mem → Option ρ} (hQ : ∀ r m1 m2, Q r m1 = Q r m2) (hM : ConW l g y bytes nL2 (some .long) rm As F) (ml : MS own idx y bytes nL2 (some .long) n) (hst : st0 = As.reverse ++ st) (hn : As.length = n) (hcat : (st.map scat).sum ≤ 8) (hRm : rm.frames + 1 ≤ R.frames ∧ 8 + (nL2 + 11) + rm.locals ≤ R.locals) (hc : kc + rm.cells ≤ R.cells ∧ ks + rm.slots ≤ R.slots) (d : decode cc pc = .ok (.invokestatic idx, 3)) (K : ∀ x, Sim p l e R s m args below meth c g nL Q (kc + rm.cells) (ks + rm.slots) (pc+3) ls (sL x :: st) (P x)) : Sim p l e R s m args below meth c g nL Q kc ks pc ls st0 (fun mm => bW (F mm) P) := by
  intro H locs lsA lv vst mm r h1 h2 h3 h4 h5 h6
  subst hst
  obtain ⟨va, vst, rfl, ha, hb⟩ := srel_app h3
  obtain ⟨x, hx, hy⟩ := Option.bind_eq_some_iff.mp h6
  have has : srel g As va.reverse := by
    have q := srel_rev ha
    rwa [List.reverse_reverse] at q
  have run := va_runS (e := e) (below := below) (meth := meth) (locs := locs) (As := va.reverse) (rest := vst) (g := F0 m pc lsA _) ⟨C.1, C.2.1, C.2.2.1, C.2.2.2.1, C.2.2.2.2.1⟩ (hM mm x hx) (zs_cs C ml hRm) ⟨PcS_blind, zs_pre C h4 h5 (svs := As) (vs := va.reverse) has⟩ rfl ((srel_len has).trans hn) h1.1 (by rw [List.reverse_reverse]) (lv_room (by rw [srel_cat hb]; exact hcat)) d hc
  refine zs_after run h5 (fun v H1 locs1 hv hR1 hS1 => ?_)
  obtain ⟨i, hv1, hi⟩ := hv
  cases hv1
  rw [hQ r mm x.2]
  exact K x.1 H1 locs1 lsA lv _ x.2 r h1 h2 ⟨⟨i, rfl, hi⟩, hb⟩ hR1 hS1 hy
theorem zs_csVv (C : Bd g own cc nL p s m args meth c) {idx nL2 n : Nat} {y : MethodName} {bytes : ByteArray} {rm : Room} {As st0 : List SV} {F : Mem → Option Mem}  (hQ : ∀ r m1 m2, Q r m1 = Q r m2) (hM : ConV l g y bytes nL2 rm As F) (ml : MS own idx y bytes nL2 none n) (hst : st0 = As.reverse ++ st) (hn : As.length = n) (hcat : (st.map scat).sum ≤ 8) (hRm : rm.frames + 1 ≤ R.frames ∧ 8 + (nL2 + 11) + rm.locals ≤ R.locals) (hc : kc + rm.cells ≤ R.cells ∧ ks + rm.slots ≤ R.slots) (d : decode cc pc = .ok (.invokestatic idx, 3)) (K : Sim p l e R s m args below meth c g nL Q (kc + rm.cells) (ks + rm.slots) (pc+3) ls st P) : Sim p l e R s m args below meth c g nL Q kc ks pc ls st0 (fun mm => bV (F mm) P) := by
  intro H locs lsA lv vst mm r h1 h2 h3 h4 h5 h6
  subst hst
  obtain ⟨va, vst, rfl, ha, hb⟩ := srel_app h3
  obtain ⟨x, hx, hy⟩ := Option.bind_eq_some_iff.mp h6
  have has : srel g As va.reverse := by
    have q := srel_rev ha
    rwa [List.reverse_reverse] at q
  have run := va_runS (e := e) (below := below) (meth := meth) (locs := locs) (As := va.reverse) (rest := vst) (g := F0 m pc lsA _) ⟨C.1, C.2.1, C.2.2.1, C.2.2.2.1, C.2.2.2.2.1⟩ (hM mm x hx) (zs_cs C ml hRm) ⟨PcS_blind, zs_pre C h4 h5 (svs := As) (vs := va.reverse) has⟩ rfl ((srel_len has).trans hn) h1.1 (by rw [List.reverse_reverse]) (lv_room (by rw [srel_cat hb]; exact hcat)) d hc
  refine zs_after run h5 (fun v H1 locs1 hv hR1 hS1 => ?_)
  cases hv
  rw [hQ r mm x]
  exact K H1 locs1 lsA lv _ x r h1 h2 hb hR1 hS1 hy
theorem zs_mmax (C : Bd g own cc nL p s m args meth c) {idx : Nat} {x y : Int} (w1 : Cond.methodLink own idx Lib.Math.max.name ∈ LW) (w2 : Cond.static Lib.Math.max.name ∈ LW) (w3 : Cond.initialized "java/lang/Math" ∈ LW) (w4 : Cond.code Lib.Math.max.name Lib.Math.max.code 2 (some .int) ∈ LW) (hf : 1 ≤ R.frames ∧ (st.map scat).sum + 13 ≤ R.locals ∧ kc ≤ R.cells ∧ ks ≤ R.slots) (d : decode cc pc = .ok (.invokestatic idx, 3)) (K : Sim p l e R s m args below meth c g nL Q kc ks (pc+3) ls (sI (imax x y) :: st) P) : Sim p l e R s m args below meth c g nL Q kc ks pc ls (sI y :: sI x :: st) P := by
  intro H locs lsA lv vst mm r h1 h2 h3 h4 h5 h6
  obtain ⟨_, vst1, rfl, ⟨j, rfl, hj⟩, k1_⟩ := srel_cons h3
  obtain ⟨_, vst2, rfl, ⟨i, rfl, hi⟩, k2_⟩ := srel_cons k1_
  have hts := C.2.2.2.2.1
  have hcat := srel_cat k2_
  refine va_mmax C.1 C.2.1 (C.2.2.1.trans h1.1.symm) C.2.2.2.1 (hts _ w1) (hts _ w2) (hts _ w3) (hts _ w4) hf.1 (by rw [hcat]; exact hf.2.1) hf.2.2.1 hf.2.2.2 d ?_
  refine K H locs lsA lv _ mm r h1 h2 ⟨⟨_, rfl, ?_⟩, k2_⟩ h4 h5 h6
  unfold imax
  by_cases hc : i < j
  · rw [if_pos hc]
    rw [Int32.lt_iff_toInt_lt, hi, hj] at hc
    rw [if_pos hc]; assumption
  · rw [if_neg hc]
    rw [Int32.lt_iff_toInt_lt, hi, hj] at hc
    rw [if_neg hc]; assumption
theorem zs_mmin (C : Bd g own cc nL p s m args meth c) {idx : Nat} {x y : Int} (w1 : Cond.methodLink own idx Lib.Math.min.name ∈ LW) (w2 : Cond.static Lib.Math.min.name ∈ LW) (w3 : Cond.initialized "java/lang/Math" ∈ LW) (w4 : Cond.code Lib.Math.min.name Lib.Math.min.code 2 (some .int) ∈ LW) (hf : 1 ≤ R.frames ∧ (st.map scat).sum + 13 ≤ R.locals ∧ kc ≤ R.cells ∧ ks ≤ R.slots) (d : decode cc pc = .ok (.invokestatic idx, 3)) (K : Sim p l e R s m args below meth c g nL Q kc ks (pc+3) ls (sI (imin x y) :: st) P) : Sim p l e R s m args below meth c g nL Q kc ks pc ls (sI y :: sI x :: st) P := by
  intro H locs lsA lv vst mm r h1 h2 h3 h4 h5 h6
  obtain ⟨_, vst1, rfl, ⟨j, rfl, hj⟩, k1_⟩ := srel_cons h3
  obtain ⟨_, vst2, rfl, ⟨i, rfl, hi⟩, k2_⟩ := srel_cons k1_
  have hts := C.2.2.2.2.1
  have hcat := srel_cat k2_
  refine va_mmin C.1 C.2.1 (C.2.2.1.trans h1.1.symm) C.2.2.2.1 (hts _ w1) (hts _ w2) (hts _ w3) (hts _ w4) hf.1 (by rw [hcat]; exact hf.2.1) hf.2.2.1 hf.2.2.2 d ?_
  refine K H locs lsA lv _ mm r h1 h2 ⟨⟨_, rfl, ?_⟩, k2_⟩ h4 h5 h6
  unfold imin
  by_cases hc : j < i
  · rw [if_pos hc]
    rw [Int32.lt_iff_toInt_lt, hi, hj] at hc
    rw [if_pos hc]; assumption
  · rw [if_neg hc]
    rw [Int32.lt_iff_toInt_lt, hi, hj] at hc
    rw [if_neg hc]; assumption
theorem zs_mmaxL (C : Bd g own cc nL p s m args meth c) {idx : Nat} {x y : Int} (w1 : Cond.methodLink own idx Lib.MathLoose.max_long.x ∈ LW) (w2 : Cond.static Lib.MathLoose.max_long.x ∈ LW) (w3 : Cond.initialized "java/lang/Math" ∈ LW) (w4 : Cond.code Lib.MathLoose.max_long.x Lib.MathLoose.max_long.code 4 (some .long) ∈ LW) (hf : 1 ≤ R.frames ∧ (st.map scat).sum + 15 ≤ R.locals ∧ kc ≤ R.cells ∧ ks ≤ R.slots) (d : decode cc pc = .ok (.invokestatic idx, 3)) (K : Sim p l e R s m args below meth c g nL Q kc ks (pc+3) ls (sL (lmax x y) :: st) P) : Sim p l e R s m args below meth c g nL Q kc ks pc ls (sL y :: sL x :: st) P := by
  intro H locs lsA lv vst mm r h1 h2 h3 h4 h5 h6
  obtain ⟨_, vst1, rfl, ⟨j, rfl, hj⟩, k1_⟩ := srel_cons h3
  obtain ⟨_, vst2, rfl, ⟨i, rfl, hi⟩, k2_⟩ := srel_cons k1_
  have hts := C.2.2.2.2.1
  have hcat := srel_cat k2_
  refine va_mmax_long C.1 C.2.1 (C.2.2.1.trans h1.1.symm) C.2.2.2.1 (hts _ w1) (hts _ w2) (hts _ w3) (hts _ w4) hf.1 (by rw [hcat]; exact hf.2.1) hf.2.2.1 hf.2.2.2 d ?_
  refine K H locs lsA lv _ mm r h1 h2 ⟨⟨_, rfl, ?_⟩, k2_⟩ h4 h5 h6
  unfold lmax
  by_cases hc : j < i
  · rw [if_pos hc]
    rw [Int64.lt_iff_toInt_lt, hi, hj] at hc
    rw [if_pos hc]; assumption
  · rw [if_neg hc]
    rw [Int64.lt_iff_toInt_lt, hi, hj] at hc
    rw [if_neg hc]; assumption
theorem zs_mminL (C : Bd g own cc nL p s m args meth c) {idx : Nat} {x y : Int} (w1 : Cond.methodLink own idx Lib.MathLoose.min_long.x ∈ LW) (w2 : Cond.static Lib.MathLoose.min_long.x ∈ LW) (w3 : Cond.initialized "java/lang/Math" ∈ LW) (w4 : Cond.code Lib.MathLoose.min_long.x Lib.MathLoose.min_long.code 4 (some .long) ∈ LW) (hf : 1 ≤ R.frames ∧ (st.map scat).sum + 15 ≤ R.locals ∧ kc ≤ R.cells ∧ ks ≤ R.slots) (d : decode cc pc = .ok (.invokestatic idx, 3)) (K : Sim p l e R s m args below meth c g nL Q kc ks (pc+3) ls (sL (imin x y) :: st) P) : Sim p l e R s m args below meth c g nL Q kc ks pc ls (sL y :: sL x :: st) P := by
  intro H locs lsA lv vst mm r h1 h2 h3 h4 h5 h6
  obtain ⟨_, vst1, rfl, ⟨j, rfl, hj⟩, k1_⟩ := srel_cons h3
  obtain ⟨_, vst2, rfl, ⟨i, rfl, hi⟩, k2_⟩ := srel_cons k1_
  have hts := C.2.2.2.2.1
  have hcat := srel_cat k2_
  refine va_mmin_long C.1 C.2.1 (C.2.2.1.trans h1.1.symm) C.2.2.2.1 (hts _ w1) (hts _ w2) (hts _ w3) (hts _ w4) hf.1 (by rw [hcat]; exact hf.2.1) hf.2.2.1 hf.2.2.2 d ?_
  refine K H locs lsA lv _ mm r h1 h2 ⟨⟨_, rfl, ?_⟩, k2_⟩ h4 h5 h6
  unfold imin
  by_cases hc : j < i
  · rw [if_pos hc]
    rw [Int64.lt_iff_toInt_lt, hi, hj] at hc
    rw [if_pos hc]; assumption
  · rw [if_neg hc]
    rw [Int64.lt_iff_toInt_lt, hi, hj] at hc
    rw [if_neg hc]; assumption
theorem zs_mabs (C : Bd g own cc nL p s m args meth c) {idx : Nat} {x : Int} (w1 : Cond.methodLink own idx Lib.Math.abs.name ∈ LW) (w2 : Cond.static Lib.Math.abs.name ∈ LW) (w3 : Cond.initialized "java/lang/Math" ∈ LW) (w4 : Cond.code Lib.Math.abs.name Lib.Math.abs.code 1 (some .int) ∈ LW) (hf : 1 ≤ R.frames ∧ (st.map scat).sum + 13 ≤ R.locals ∧ kc ≤ R.cells ∧ ks ≤ R.slots) (d : decode cc pc = .ok (.invokestatic idx, 3)) (K : Sim p l e R s m args below meth c g nL Q kc ks (pc+3) ls (sI (iabs x) :: st) P) : Sim p l e R s m args below meth c g nL Q kc ks pc ls (sI x :: st) P := by
  intro H locs lsA lv vst mm r h1 h2 h3 h4 h5 h6
  obtain ⟨_, vst1, rfl, ⟨i, rfl, hi⟩, k1_⟩ := srel_cons h3
  have hts := C.2.2.2.2.1
  have hcat := srel_cat k1_
  refine va_mabs C.1 C.2.1 (C.2.2.1.trans h1.1.symm) C.2.2.2.1 (hts _ w1) (hts _ w2) (hts _ w3) (hts _ w4) hf.1 (by rw [hcat]; exact hf.2.1) hf.2.2.1 hf.2.2.2 d ?_
  refine K H locs lsA lv _ mm r h1 h2 ⟨⟨_, rfl, ?_⟩, k1_⟩ h4 h5 h6
  unfold iabs
  by_cases hc : 0 ≤ i
  · rw [if_pos hc]
    rw [Int32.le_iff_toInt_le, hi, Int32.toInt_zero] at hc
    rw [if_pos hc]; assumption
  · rw [if_neg hc]
    rw [Int32.le_iff_toInt_le, hi, Int32.toInt_zero] at hc
    rw [if_neg hc, Int32.toInt_sub, hi, Int32.toInt_zero]; rfl
theorem zs_copyi (C : Bd g own cc nL p s m args meth c) {idx o0 o1 n0 n1 : Nat} {sp dp n : Int} {hd : ∀ mm : Mem, Decidable (0 ≤ sp ∧ 0 ≤ dp ∧ 0 ≤ n ∧ sp + n ≤ (n0 : Int) ∧ dp + n ≤ (n1 : Int))} (hQ : ∀ r m1 m2, Q r m1 = Q r m2) (w1 : Cond.methodLink own idx arraycopyName ∈ LW) (w2 : Cond.native arraycopyName ∈ LW) (w3 : Cond.static arraycopyName ∈ LW) (w4 : Cond.initialized "java/lang/System" ∈ LW) (hf : 1 ≤ R.frames ∧ (st.map scat).sum + (nativeFrameWords "java/lang/System" "arraycopy" 5 + 11) ≤ R.locals) (ho0 : layL[o0]? = some (.inr (0, n0))) (ho1 : layL[o1]? = some (.inr (0, n1))) (d : decode cc pc = .ok (.invokestatic idx, 3)) (K : Sim p l e R s m args below meth c g nL Q kc ks (pc+3) ls st P) : Sim p l e R s m args below meth c g nL Q kc ks pc ls (sI n :: sI dp :: sR o1 :: sI sp :: sR o0 :: st) (fun mm => @chk _ (0 ≤ sp ∧ 0 ≤ dp ∧ 0 ≤ n ∧ sp + n ≤ (n0 : Int) ∧ dp + n ≤ (n1 : Int)) (hd mm) (wr (cpy mm o0 sp o1 dp n) P)) := by
  refine zs_chk (P := fun mm => wr (cpy mm o0 sp o1 dp n) P) (fun _ hin => ?_)
  intro H locs lsA lv vst mm r h1 h2 h3 h4 h5 h6
  obtain ⟨_, vst1, rfl, ⟨kn, rfl, hn⟩, k1_⟩ := srel_cons h3
  obtain ⟨_, vst2, rfl, ⟨kd, rfl, hdp⟩, k2_⟩ := srel_cons k1_
  obtain ⟨_, vst3, rfl, rfl, k3_⟩ := srel_cons k2_
  obtain ⟨_, vst4, rfl, ⟨ksp, rfl, hsp⟩, k4_⟩ := srel_cons k3_
  obtain ⟨_, vst5, rfl, rfl, k5_⟩ := srel_cons k4_
  have hts := C.2.2.2.2.1
  have hcat := srel_cat k5_
  obtain ⟨E, hP, hE⟩ := h4
  obtain ⟨f0, e1, e2⟩ := zs_arr hE ho0
  obtain ⟨f, rfl, e3⟩ := zs_arrI (by omega) e2
  obtain ⟨f1, e4, e5⟩ := zs_arr hE ho1
  obtain ⟨f', rfl, e6⟩ := zs_arrI (by omega) e5
  obtain ⟨i1, i2, i3, i4, i5⟩ := hin
  have n1' : kn.toNatClampNeg = n.toNat := by rw [← hn]; rfl
  have n2' : kd.toNatClampNeg = dp.toNat := by rw [← hdp]; rfl
  have n3' : ksp.toNatClampNeg = sp.toNat := by rw [← hsp]; rfl
  have ws0 : (wsOf g E)[o0]? = some (g.1 + o0, .inl (g.2.2.1 0, n0, .inl f)) := by rw [← e1]; exact wsOf_at ho0
  have ws1 : (wsOf g E)[o1]? = some (g.1 + o1, .inl (g.2.2.1 0, n1, .inl f')) := by rw [← e4]; exact wsOf_at ho1
  have neg : ∀ {i : Int32} {x : Int}, i.toInt = x → 0 ≤ x → ¬ i < 0 := fun {i x} hi hx q => by
    rw [Int32.lt_iff_toInt_lt, hi, Int32.toInt_zero] at q; omega
  refine va_copyi C.1 C.2.1 (C.2.2.1.trans h1.1.symm) C.2.2.2.1 (hts _ w1) (hts _ w2) (hts _ w3) (hts _ w4) C.2.2.2.2.2.1.1 hP wsOf_D h5 o0 o1 0 0 ws0 ws1 rfl rfl (ty := .int) rfl (neg hsp i1) (neg hdp i2) (neg hn i3) (by omega) (by omega) (fun _ _ => rfl) hf.1 (by rw [hcat]; exact hf.2) d (fun H1 locs1 hP1 hD1 hS1 => ?_)
  have hR : Rel g (cpy mm o0 sp o1 dp n) H1 := by
    rw [wsOf_set] at hP1
    refine ⟨_, hP1, fun o' d' h' => ?_⟩
    by_cases ho : o' = o1
    · subst ho
      rw [ho1] at h'
      cases h'
      rw [if_pos rfl]
      refine ⟨rfl, rfl, Or.inl rfl, fun k hk => ?_⟩
      show (va_cpy f f' _ _ _ k).toInt = cpy mm o0 sp o' dp n o' (k : Int)
      rw [n1', n2', n3']
      unfold va_cpy cpy
      by_cases hc : dp.toNat ≤ k ∧ k < dp.toNat + n.toNat
      · rw [if_pos hc, if_pos ⟨rfl, by omega, by omega⟩, e3 _ (by omega)]
        have hk' : ((sp.toNat + (k - dp.toNat) : Nat) : Int) = (k : Int) - dp + sp := by omega
        rw [hk']
      · rw [if_neg hc, if_neg (by omega)]
        exact e6 k hk
    · rw [if_neg ho]
      have : cpy mm o0 sp o1 dp n o' = mm o' := funext fun j => by simp [cpy, ho]
      rw [this]
      exact hE o' d' h'
  rw [hQ r mm (cpy mm o0 sp o1 dp n)]
  exact K H1 locs1 lsA lv _ _ r h1 h2 k5_ hR hS1 h6
end SIMS
theorem zs_sl {g : GC} : ∀ {svs : List SV} {vs : List Value}, srel g svs vs → (lg_sl vs).length = (svs.map scat).sum
  | [], [], _ => rfl
  | a :: svs, v :: vs, h => by
    have hc := vrel_cat h.1
    have ih := zs_sl h.2
    unfold lg_sl at ih ⊢
    rw [List.flatMap_cons, List.length_append, ih, List.map_cons, List.sum_cons]
    congr 1
    unfold scat
    rcases lv_cat v with q | q
    · rw [q] at hc ⊢
      rw [← hc]; rfl
    · rw [q] at hc ⊢
      rw [← hc]; rfl
theorem zs_ofR {l : Launch} {g : GC} {y : MethodName} {cc : ByteArray} {nL : Nat} {ret : Option FieldType} {rm : Room} {svs : List SV} {F : Mem → Option Int} (hy : plainName y.cls = true) (hn : (svs.map scat).sum ≤ nL)
    (body : ∀ (p : Program) (e : Env) (s : State) (m : MethodId) (args : Array Value) (below : List Frame) (meth : Method) (c : Code), Bd g y.cls cc nL p s m args meth c → meth.sig.returnType = ret → Sim p l e rm s m args below meth c g nL (QR g below args s ret rm) 0 0 0 (slv 0 svs) [] F) : ConR l g y cc nL ret rm svs F := by
  intro mm x hx
  refine Met.ofW (cc := cc) (maxL := nL) (ret := ret) hy rfl ?_
  intro p e s m args below meth c s₁ B hml hP
  obtain ⟨vs, rfl, h2, h3, h4, h5⟩ := hP
  have C : Bd g y.cls cc nL p s m vs.toArray meth c := ⟨B.exec, B.bytes, hml, findClass_of_methodNamed B.named, fun w h => atoms_spec B.pre w (List.mem_cons_of_mem _ h), h4, B.notSynchronized, h5⟩
  have hS : va_S (fun q => g.1 ≤ q) s.heap s.heap [] := va_S.rf
  have hl := lv_entry vs (n := nL) (by rw [zs_sl h2]; exact hn)
  rw [lg_entry_eq]
  exact body p e s m vs.toArray below meth c C B.returns s.heap [] _ _ [] mm x hl (slv_rel 0 h2) trivial h3 hS hx
theorem zs_ofW {l : Launch} {g : GC} {y : MethodName} {cc : ByteArray} {nL : Nat} {ret : Option FieldType} {rm : Room} {svs : List SV} {F : Mem → Option (Int × Mem)} (hy : plainName y.cls = true) (hn : (svs.map scat).sum ≤ nL)
    (body : ∀ (p : Program) (e : Env) (s : State) (m : MethodId) (args : Array Value) (below : List Frame) (meth : Method) (c : Code), Bd g y.cls cc nL p s m args meth c → meth.sig.returnType = ret → Sim p l e rm s m args below meth c g nL (QW g below args s ret rm) 0 0 0 (slv 0 svs) [] F) : ConW l g y cc nL ret rm svs F := by
  intro mm x hx
  refine Met.ofW (cc := cc) (maxL := nL) (ret := ret) hy rfl ?_
  intro p e s m args below meth c s₁ B hml hP
  obtain ⟨vs, rfl, h2, h3, h4, h5⟩ := hP
  have C : Bd g y.cls cc nL p s m vs.toArray meth c := ⟨B.exec, B.bytes, hml, findClass_of_methodNamed B.named, fun w h => atoms_spec B.pre w (List.mem_cons_of_mem _ h), h4, B.notSynchronized, h5⟩
  have hS : va_S (fun q => g.1 ≤ q) s.heap s.heap [] := va_S.rf
  have hl := lv_entry vs (n := nL) (by rw [zs_sl h2]; exact hn)
  rw [lg_entry_eq]
  exact body p e s m vs.toArray below meth c C B.returns s.heap [] _ _ [] mm x hl (slv_rel 0 h2) trivial h3 hS hx
theorem zs_ofV {l : Launch} {g : GC} {y : MethodName} {cc : ByteArray} {nL : Nat} {rm : Room} {svs : List SV} {F : Mem → Option Mem} (hy : plainName y.cls = true) (hn : (svs.map scat).sum ≤ nL)
    (body : ∀ (p : Program) (e : Env) (s : State) (m : MethodId) (args : Array Value) (below : List Frame) (meth : Method) (c : Code), Bd g y.cls cc nL p s m args meth c → meth.sig.returnType = none → Sim p l e rm s m args below meth c g nL (QV g below args s rm) 0 0 0 (slv 0 svs) [] F) : ConV l g y cc nL rm svs F := by
  intro mm x hx
  refine Met.ofW (cc := cc) (maxL := nL) (ret := none) hy rfl ?_
  intro p e s m args below meth c s₁ B hml hP
  obtain ⟨vs, rfl, h2, h3, h4, h5⟩ := hP
  have C : Bd g y.cls cc nL p s m vs.toArray meth c := ⟨B.exec, B.bytes, hml, findClass_of_methodNamed B.named, fun w h => atoms_spec B.pre w (List.mem_cons_of_mem _ h), h4, B.notSynchronized, h5⟩
  have hS : va_S (fun q => g.1 ≤ q) s.heap s.heap [] := va_S.rf
  have hl := lv_entry vs (n := nL) (by rw [zs_sl h2]; exact hn)
  rw [lg_entry_eq]
  exact body p e s m vs.toArray below meth c C B.returns s.heap [] _ _ [] mm x hl (slv_rel 0 h2) trivial h3 hS hx

/-! ===== CORE 11: rows of the law itself ===== -/
section SIMS
variable {p : Program} {l : Launch} {e : Env} {R : Room} {s : State} {m : MethodId} {args : Array Value} {below : List Frame} {meth : Method} {c : Code}
variable {g : GC} {own : String} {cc : ByteArray} {nL kc ks pc : Nat} {ρ : Type} {Q : ρ → Mem → State → Prop} {ls : List (Nat × SV)} {st : List SV} {P : Mem → Option ρ}
/-- the script, as it lies at the start: L ints, below all cells that are made -/
def ScrX (g : GC) (L : Nat) (xs : Nat → Int32) (s : State) : Prop := va_X g.2.2.2.1 L xs s s.heap ∧ g.2.2.2.1 < s.heap.size ∧ g.2.2.2.1 < g.1 ∧ L ≤ 3072
theorem zs_slen (C : Bd g own cc nL p s m args meth c) {L : Nat} {xs : Nat → Int32} (hX : ScrX g L xs s) (d : decode cc pc = .ok (.arraylength, 1)) (K : Sim p l e R s m args below meth c g nL Q kc ks (pc+1) ls (sI (L : Int) :: st) P) : Sim p l e R s m args below meth c g nL Q kc ks pc ls (sS :: st) P := by
  intro H locs lsA lv vst mm r h1 h2 h3 h4 h5 h6
  obtain ⟨_, vst1, rfl, hv, k1_⟩ := srel_cons h3
  have hv' : _ = Value.ref g.2.2.2.1 := hv
  subst hv'
  obtain ⟨x1, x2, x3, x4⟩ := hX
  refine va_slen C.1 C.2.1 x1 x2 (A := fun q => g.1 ≤ q) (by show ¬ g.1 ≤ g.2.2.2.1; omega) h5 d (K H locs lsA lv _ mm r h1 h2 ⟨⟨_, rfl, ?_⟩, k1_⟩ h4 h5 h6)
  show (Int32.ofNat L).toInt = (L : Int)
  exact Int32.toInt_ofNat_of_lt (by omega)
theorem zs_sld (C : Bd g own cc nL p s m args meth c) {L : Nat} {xs : Nat → Int32} {i : Int} (hX : ScrX g L xs s) (hi : 0 ≤ i ∧ i < (L : Int)) (d : decode cc pc = .ok (.iaload, 1)) (K : Sim p l e R s m args below meth c g nL Q kc ks (pc+1) ls (sI (xs i.toNat).toInt :: st) P) : Sim p l e R s m args below meth c g nL Q kc ks pc ls (sI i :: sS :: st) P := by
  intro H locs lsA lv vst mm r h1 h2 h3 h4 h5 h6
  obtain ⟨_, vst1, rfl, ⟨j, rfl, hj⟩, k1_⟩ := srel_cons h3
  obtain ⟨_, vst2, rfl, hv, k2_⟩ := srel_cons k1_
  have hv' : _ = Value.ref g.2.2.2.1 := hv
  subst hv'
  obtain ⟨x1, x2, x3, x4⟩ := hX
  have hn : j.toNatClampNeg = i.toNat := by rw [← hj]; rfl
  refine va_sld C.1 C.2.1 x1 x2 (A := fun q => g.1 ≤ q) (by show ¬ g.1 ≤ g.2.2.2.1; omega) h5 (zi_vpin hj hi.1 hi.2) d (K H locs lsA lv _ mm r h1 h2 ⟨⟨_, rfl, ?_⟩, k2_⟩ h4 h5 h6)
  rw [hn]
theorem zs_csX (C : Bd g own cc nL p s m args meth c) {idx nL2 n : Nat} {y : MethodName} {bytes : ByteArray} {ret : Option FieldType} {hh : List (Nat × Nat × Nat × Nat)} {rm : Room} {As st0 : List SV} {F : Mem → Option (Int × Mem)} {P : Int → Mem → Option ρ} (hQ : ∀ r m1 m2, Q r m1 = Q r m2) (hret : iret ret = true) (hM : ConX l g y bytes nL2 ret hh rm As F) (mx : MX own idx y bytes nL2 ret hh n) (hst : st0 = As.reverse ++ st) (hn : As.length = n) (hcat : (st.map scat).sum ≤ 8) (hRm : rm.frames + 1 ≤ R.frames ∧ 8 + (nL2 + 11) + rm.locals ≤ R.locals) (hc : kc + rm.cells ≤ R.cells ∧ ks + rm.slots ≤ R.slots) (d : decode cc pc = .ok (.invokestatic idx, 3)) (K : ∀ x, Sim p l e R s m args below meth c g nL Q (kc + rm.cells) (ks + rm.slots) (pc+3) ls (sI x :: st) (P x)) : Sim p l e R s m args below meth c g nL Q kc ks pc ls st0 (fun mm => bW (F mm) P) := by
  intro H locs lsA lv vst mm r h1 h2 h3 h4 h5 h6
  subst hst
  obtain ⟨va, vst, rfl, ha, hb⟩ := srel_app h3
  obtain ⟨x, hx, hy⟩ := Option.bind_eq_some_iff.mp h6
  have has : srel g As va.reverse := by
    have q := srel_rev ha
    rwa [List.reverse_reverse] at q
  obtain ⟨⟨m1, m2, m4, m5⟩, m7, m8, m9⟩ := mx
  have hts := C.2.2.2.2.1
  have hws : ∀ w ∈ (Cond.codeWith y bytes nL2 ret hh :: LW), w ∈ LW := fun w hw => (List.mem_cons.mp hw).elim (fun q => q ▸ m5) id
  have cw : vx_CSW R s args own idx y bytes nL2 ret hh (Cond.codeWith y bytes nL2 ret hh :: LW) rm rm.cells rm.slots n := ⟨⟨rfl, rfl, hRm.1, hRm.2, fun w hw a' U hW => word_at hW (LW_good w (hws w hw)) (hts w (hws w hw)), List.mem_cons_self⟩, hts _ m5, hts _ m4, ⟨m7, m8⟩, fun sig hs => by rw [hs] at m9; exact (Option.some.inj m9).symm, hts _ m1, hts _ m2⟩
  have run := vx_runSW (e := e) (below := below) (meth := meth) (locs := locs) (As := va.reverse) (rest := vst) (g := F0 m pc lsA _) ⟨C.1, C.2.1, C.2.2.1, C.2.2.2.1, C.2.2.2.2.1⟩ (hM mm x hx) cw ⟨PcS_blind, zs_pre C h4 h5 (svs := As) (vs := va.reverse) has⟩ rfl ((srel_len has).trans hn) h1.1 (by rw [List.reverse_reverse]) (lv_room (by rw [srel_cat hb]; exact hcat)) d hc
  refine zs_after run h5 (fun v H1 locs1 hv hR1 hS1 => ?_)
  obtain ⟨i, hv1, hi⟩ := zs_rint hret hv
  cases hv1
  rw [hQ r mm x.2]
  exact K x.1 H1 locs1 lsA lv _ x.2 r h1 h2 ⟨⟨i, rfl, hi⟩, hb⟩ hR1 hS1 hy
theorem zs_imp {P' : Mem → Option ρ} (h : ∀ mm r, P mm = some r → P' mm = some r) (K : Sim p l e R s m args below meth c g nL Q kc ks pc ls st P') : Sim p l e R s m args below meth c g nL Q kc ks pc ls st P :=
  fun H locs lsA lv vst mm r a1 a2 a3 a4 a5 a6 => K H locs lsA lv vst mm r a1 a2 a3 a4 a5 (h mm r a6)
end SIMS

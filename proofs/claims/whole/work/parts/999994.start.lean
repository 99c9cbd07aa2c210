/-! ===== the law: its start ===== -/
theorem wf_173 : Cond.classLink RL 8 RX11 ∈ LW := LW_t1 30 rfl rfl
theorem wf_174 : Cond.instantiable RX11 13 ∈ LW := LW_t1 31 rfl rfl
theorem wf_175 : Cond.methodLink RL 141 yX11_init ∈ LW := LW_t1 32 rfl rfl
theorem wf_176 : Cond.instanceMethod yX11_init ∈ LW := LW_t1 33 rfl rfl
theorem wf_177 : Cond.code yX11_init cX11_init 2 none ∈ LW := LW_t1 34 rfl rfl
theorem wf_1759 : Cond.classLink RL 142 RX12 ∈ LW := LW_t7 176 rfl rfl
theorem wf_1760 : Cond.instantiable RX12 42 ∈ LW := LW_t7 177 rfl rfl
theorem wf_1761 : Cond.methodLink RL 144 yX12_init ∈ LW := LW_t7 178 rfl rfl
theorem wf_1762 : Cond.instanceMethod yX12_init ∈ LW := LW_t7 179 rfl rfl
theorem wf_1763 : Cond.code yX12_init cX12_init 1 none ∈ LW := LW_t7 180 rfl rfl
theorem zi_toSim {p : Program} {l : Launch} {e : Env} {R : Room} {s : State} {m : MethodId} {args : Array Value} {below : List Frame} {meth : Method} {c : Code} {g : GC} {nL kc ks pc : Nat} {Q : State → Prop} {ls : List (Nat × SV)} {st : List SV} {P : Mem → Option Unit} (hP : P m0 = some ()) (K : Sim p l e R s m args below meth c g nL (fun (_ : Unit) _ => Q) kc ks pc ls st P) : SimI p l e R s m args below meth c g nL Q [] kc ks pc ls st WA := by
  intro H locs lsA lv vst h1 h2 h3 h4 h5 h6
  exact K H locs lsA lv vst m0 () h1 h2 h3 (rel_first h4) h5 hP
set_option maxRecDepth 20000 in
/-- from the entry to the loop -/
theorem law_begin {p : Program} {l : Launch} {e : Env} {s : State} {m : MethodId} {below : List Frame} {meth : Method} {c : Code} {g : GC} {L : Nat} {xs : Nat → Int32} {b : Nat} (C : Bd g RL code 8 p s m #[Value.ref b] meth c) (hK : KI s) (hX : ScrX g L xs s) (hl : l.stackTraces = false) (hr : meth.sig.returnType = ret) (hg : g.1 = s.heap.size) : SimI p l e room_1 s m #[Value.ref b] below meth c g 8 (lw_Z below #[Value.ref b] s) [] 0 0 0 [(0, sS)] [] [] := by
  have hL := hX.2.2.2
  refine zi_new (pc := 0) (i := 8) (ci := 11) (o := 0) (T' := [(0, 11, [(3, 0), (0, 0), (0, 0), (0, 0), (3, 0), (3, 0), (3, 0), (3, 0), (3, 0), (3, 0), (3, 0), (3, 0), (3, 0)])]) C (by decide +kernel) rfl iw_11 tyX11_ok wf_173 wf_174 wf_144 df_11 rfl rfl (Nat.le_of_ble_eq_true rfl) (Nat.le_of_ble_eq_true rfl) ?_
  refine zi_dup (pc := 3) C (by decide +kernel) ?_
  refine zi_callP (pc := 4) (idx := 141) (o := 0) (T0 := []) (T' := sg11 0) C hK (k_X11 l g) rfl ⟨by decide +kernel, by decide +kernel, by decide +kernel⟩ wf_175 wf_176 wf_177 wf_144 rfl rfl rfl (len_sg11 _) (Nat.le_of_ble_eq_true rfl) ⟨Nat.le_of_ble_eq_true rfl, Nat.le_of_ble_eq_true rfl⟩ ⟨Nat.le_of_ble_eq_true rfl, Nat.le_of_ble_eq_true rfl⟩ (by decide +kernel) ?_
  refine zi_astore (pc := 7) (k := 1) (i := 1) (ls' := [(1, sR 0), (0, sS)]) C (by decide +kernel) rfl (Nat.le_of_ble_eq_true rfl) rfl ?_
  refine zi_new (pc := 8) (i := 142) (ci := 12) (o := 287) (T' := sg11 0 ++ [(0, 12, [(3, 0), (3, 0), (3, 0), (3, 0), (0, 0), (3, 0), (0, 0), (0, 0), (0, 0), (0, 0), (0, 0), (0, 0), (0, 0), (0, 0), (0, 0), (0, 0), (0, 0), (0, 0), (0, 0), (3, 0), (3, 0), (3, 0), (0, 0), (3, 0), (3, 0), (3, 0), (3, 0), (3, 0), (0, 0), (3, 0), (3, 0), (3, 0), (3, 0), (3, 0), (3, 0), (3, 0), (3, 0), (0, 0), (0, 0), (3, 0), (3, 0), (3, 0)])]) C (by decide +kernel) rfl iw_12 tyX12_ok wf_1759 wf_1760 wf_157 df_12 (by rw [len_sg11]; rfl) rfl (Nat.le_of_ble_eq_true rfl) (Nat.le_of_ble_eq_true rfl) ?_
  refine zi_dup (pc := 11) C (by decide +kernel) ?_
  refine zi_callP (pc := 12) (idx := 144) (o := 287) (T0 := sg11 0) (T' := sg11 0 ++ sg12 287) C hK (k_X12 l g) rfl ⟨by decide +kernel, by decide +kernel, by decide +kernel⟩ wf_1761 wf_1762 wf_1763 wf_157 rfl (by rw [len_sg11]; rfl) rfl (len_sg12 _) (Nat.le_of_ble_eq_true rfl) ⟨Nat.le_of_ble_eq_true rfl, Nat.le_of_ble_eq_true rfl⟩ ⟨Nat.le_of_ble_eq_true rfl, Nat.le_of_ble_eq_true rfl⟩ (by decide +kernel) ?_
  refine zi_astore (pc := 15) (k := 2) (i := 2) (ls' := [(2, sR 287), (1, sR 0), (0, sS)]) C (by decide +kernel) rfl (Nat.le_of_ble_eq_true rfl) rfl ?_
  refine zi_iconst (pc := 16) (n := 1) (x := 1) C (by decide +kernel) (by decide +kernel) ?_
  refine zi_newa1 (pc := 17) (N := 1) (o := 312) (T' := WA) C (by decide +kernel) wf_444 rfl (Nat.le_of_ble_eq_true rfl) (by rw [List.length_append, len_sg11, len_sg12]; rfl) (by unfold WA; rw [List.append_assoc]) (Nat.le_of_ble_eq_true rfl) (Nat.le_of_ble_eq_true rfl) ?_
  refine zi_astore (pc := 19) (k := 3) (i := 3) (ls' := [(3, sR 312), (2, sR 287), (1, sR 0), (0, sS)]) C (by decide +kernel) rfl (Nat.le_of_ble_eq_true rfl) rfl ?_
  refine zi_toSim (P := PI 1000) (pi_of inv_first) ?_
  refine zs_iconst (pc := 20) (n := 0) (x := 0) C (by decide +kernel) (by decide +kernel) ?_
  refine zs_istore (pc := 21) (i := 4) (ls' := [(4, sI 0), (3, sR 312), (2, sR 287), (1, sR 0), (0, sS)]) C (by decide +kernel) (Nat.le_of_ble_eq_true rfl) rfl ?_
  refine zs_sub (ls' := [(0, sS), (1, sR 0), (2, sR 287), (3, sR 312), (4, sI 0)]) ⟨rfl, rfl, rfl, rfl, rfl, trivial⟩ ?_
  exact law_loop C hX hl hr hg 512 0 _ _ 1000 (by omega) (by omega) (by omega) (Nat.le_of_ble_eq_true rfl) (Nat.le_of_ble_eq_true rfl) (by omega) (by omega)
/-- from the entry, for every script of at most 3072 ints, the law comes to its end with true -/
theorem whole_start {p : Program} {e : Env} {s : State} {m : MethodId} {below : List Frame} {meth : Method} {c : Code} (l : Launch) (hflags : l.flags = flags0) {b L : Nat} {xs : Nat → Int32} (hL : L ≤ 3072) (C0 : lw_At p s m meth c b L xs) : W p l e room_1 s m #[Value.ref b] below meth c s.heap [] 0 0 (lw_Z below #[Value.ref b] s) (entryFrame m ([Value.ref b] : List Value).toArray 8) := by
  obtain ⟨hx, hb, hr, hml, hown, hts, hX, hbl, hlk, hgv⟩ := C0
  have hl : l.stackTraces = false := by
    unfold Launch.stackTraces
    rw [hflags]
    decide +kernel
  obtain ⟨g, hg1, hg2, hKn, hKI⟩ := law_known b hts (flat_of_before _ hgv)
  have C : Bd g RL code 8 p s m #[Value.ref b] meth c := ⟨hx, hb, hml, hown, fun w hw => hts w (LW_tbl w hw), hKn, hlk, by rw [hg1]; exact Nat.le_refl _⟩
  have hScr : ScrX g L xs s := ⟨by rw [hg2]; exact hX, by rw [hg2]; exact hbl, by rw [hg1, hg2]; exact hbl, hL⟩
  have hS : va_S (fun q => g.1 ≤ q) s.heap s.heap [] := va_S.rf
  have hlv := lv_entry [Value.ref b] (n := 8) (Nat.le_of_ble_eq_true rfl)
  have hR : RelC g [] s.heap := ⟨hg1.symm, fun k q hk => by cases hk⟩
  have hW := law_begin (e := e) (below := below) C hKI hScr hl hr hg1 s.heap [] _ _ [] hlv (slv_rel (g := g) (l := [sS]) 0 ⟨by rw [← hg2]; exact rfl, trivial⟩) trivial hR hS hg1.symm
  rw [← lg_entry_eq] at hW
  exact hW

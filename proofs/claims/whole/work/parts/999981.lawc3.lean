/-! ===== the law: its cases ===== -/
set_option maxRecDepth 20000 in
theorem lc_33 {p : Program} {l : Launch} {e : Env} {s : State} {m : MethodId} {args : Array Value} {below : List Frame} {meth : Method} {c : Code} {g : GC} {L : Nat} {xs : Nat → Int32} {i : Int} {kc ks : Nat} {Q : State → Prop} {PK : Mem → Option Unit} (C : Bd g RL code 8 p s m args meth c) (hX : ScrX g L xs s) (hl : l.stackTraces = false) (hi : 0 ≤ i ∧ i + 6 ≤ (L : Int)) (hk : kc + 8 ≤ room_1.cells ∧ ks + 48 ≤ room_1.slots)
    (K : ∀ kc' ks', kc' ≤ kc + 8 → ks' ≤ ks + 48 → Sim p l e room_1 s m args below meth c g 8 (fun (_ : Unit) _ => Q) kc' ks' 3062 [(0, sS), (1, sR 0), (2, sR 287), (3, sR 312), (4, sI i)] [] PK) : Sim p l e room_1 s m args below meth c g 8 (fun (_ : Unit) _ => Q) kc ks 2430 [(0, sS), (1, sR 0), (2, sR 287), (3, sR 312), (4, sI i)] [] (PX (fun mm => fL_shortest (ar xs i 1) mm) (fun mm => fX12_shortest (ar xs i 1) mm) PK) := by
  obtain ⟨hk1, hk2⟩ := hk
  unfold PX
  refine zs_aload_n (pc := 2430) (k := 1) (i := 1) C (by decide +kernel) rfl rfl ?_
  refine zl_arg (pc := 2431) (j := 1) (ls := [(0, sS), (1, sR 0), (2, sR 287), (3, sR 312), (4, sI i)]) C hX hi (by decide) rfl rfl (by decide +kernel) (by decide +kernel) (by decide +kernel) (by decide +kernel) (by decide +kernel) (by decide +kernel) ?_
  refine zs_aload_n (pc := 2437) (k := 3) (i := 3) C (by decide +kernel) rfl rfl ?_
  refine zs_csX (pc := 2438) (As := [sR 0, sI (ar xs i 1), sR 312]) (st := []) C (fun _ _ _ => rfl) rfl (c_L_shortest l g hl (ar xs i 1)) mx_259 rfl rfl (Nat.le_of_ble_eq_true rfl) ⟨Nat.le_of_ble_eq_true rfl, Nat.le_of_ble_eq_true rfl⟩ (by constructor <;> simp only [rmd] <;> omega) (by decide +kernel) (fun k1 => ?_)
  refine zs_istore (pc := 2441) (i := 5) (ls' := [(5, sI k1), (0, sS), (1, sR 0), (2, sR 287), (3, sR 312), (4, sI i)]) C (by decide +kernel) (Nat.le_of_ble_eq_true rfl) rfl ?_
  refine zs_aload_n (pc := 2443) (k := 2) (i := 2) C (by decide +kernel) rfl rfl ?_
  refine zl_arg (pc := 2444) (j := 1) (ls := [(5, sI k1), (0, sS), (1, sR 0), (2, sR 287), (3, sR 312), (4, sI i)]) C hX hi (by decide) rfl rfl (by decide +kernel) (by decide +kernel) (by decide +kernel) (by decide +kernel) (by decide +kernel) (by decide +kernel) ?_
  refine zs_cvWi (pc := 2450) (As := [sI (ar xs i 1)]) (st := []) C (fun _ _ _ => rfl) rfl (c_X12_shortest l g (ar xs i 1)) ml_RL_261 rfl rfl rfl rfl (Nat.le_of_ble_eq_true rfl) ⟨Nat.le_of_ble_eq_true rfl, Nat.le_of_ble_eq_true rfl⟩ (by constructor <;> simp only [rmd] <;> omega) (by decide +kernel) (fun v2 => ?_)
  refine zs_istore (pc := 2453) (i := 6) (ls' := [(6, sI v2), (5, sI k1), (0, sS), (1, sR 0), (2, sR 287), (3, sR 312), (4, sI i)]) C (by decide +kernel) (Nat.le_of_ble_eq_true rfl) rfl ?_
  refine zs_aload_n (pc := 2455) (k := 2) (i := 2) C (by decide +kernel) rfl rfl ?_
  refine zs_cvRi (pc := 2456) (As := []) (st := []) C rfl (c_X12_thrown l g ) ml_RL_156 rfl rfl rfl rfl (Nat.le_of_ble_eq_true rfl) ⟨Nat.le_of_ble_eq_true rfl, Nat.le_of_ble_eq_true rfl⟩ (by constructor <;> simp only [rmd] <;> omega) (by decide +kernel) (fun t3 => ?_)
  refine zs_iload (pc := 2459) (i := 5) C (by decide +kernel) rfl ?_
  refine zs_icmp_eq (pc := 2461) (off := 5) (tgt := 2466) C (by decide +kernel) (by decide) ?_ zs_none
  refine zs_iload (pc := 2466) (i := 5) C (by decide +kernel) rfl ?_
  refine zs_if_ne (pc := 2468) (off := 15) (tgt := 2483) C (by decide +kernel) (by decide) ?_ ?_
  · refine zs_goto (pc := 2483) (off := 579) (tgt := 3062) C (by decide +kernel) (by decide) ?_
    exact zs_sub (ls' := [(0, sS), (1, sR 0), (2, sR 287), (3, sR 312), (4, sI i)]) ⟨rfl, rfl, rfl, rfl, rfl, trivial⟩ (K _ _ (by simp only [rmd]; omega) (by simp only [rmd]; omega))
  · refine zs_aload_n (pc := 2471) (k := 3) (i := 3) C (by decide +kernel) rfl rfl ?_
    refine zs_iconst (pc := 2472) (n := 0) (x := 0) C (by decide +kernel) (by decide +kernel) ?_
    refine zs_laldk (pc := 2473) (o := 312) (n := 1) (i := 0) C ⟨by decide, by decide⟩ (by decide +kernel) rfl (fun z4 => ?_)
    refine zs_iload (pc := 2474) (i := 6) C (by decide +kernel) rfl ?_
    refine zs_i2l (pc := 2476) C (by decide +kernel) ?_
    refine zs_lcmp_eq (pc := 2477) (off := 5) (tgt := 2483) C (by decide +kernel) (by decide +kernel) (by decide) ?_ zs_none
    refine zs_goto (pc := 2483) (off := 579) (tgt := 3062) C (by decide +kernel) (by decide) ?_
    exact zs_sub (ls' := [(0, sS), (1, sR 0), (2, sR 287), (3, sR 312), (4, sI i)]) ⟨rfl, rfl, rfl, rfl, rfl, trivial⟩ (K _ _ (by simp only [rmd]; omega) (by simp only [rmd]; omega))

set_option maxRecDepth 20000 in
theorem lc_34 {p : Program} {l : Launch} {e : Env} {s : State} {m : MethodId} {args : Array Value} {below : List Frame} {meth : Method} {c : Code} {g : GC} {L : Nat} {xs : Nat → Int32} {i : Int} {kc ks : Nat} {Q : State → Prop} {PK : Mem → Option Unit} (C : Bd g RL code 8 p s m args meth c) (hX : ScrX g L xs s) (hl : l.stackTraces = false) (hi : 0 ≤ i ∧ i + 6 ≤ (L : Int)) (hk : kc + 8 ≤ room_1.cells ∧ ks + 48 ≤ room_1.slots)
    (K : ∀ kc' ks', kc' ≤ kc + 8 → ks' ≤ ks + 48 → Sim p l e room_1 s m args below meth c g 8 (fun (_ : Unit) _ => Q) kc' ks' 3062 [(0, sS), (1, sR 0), (2, sR 287), (3, sR 312), (4, sI i)] [] PK) : Sim p l e room_1 s m args below meth c g 8 (fun (_ : Unit) _ => Q) kc ks 2486 [(0, sS), (1, sR 0), (2, sR 287), (3, sR 312), (4, sI i)] [] (P0 (fun mm => fX11_dear  mm) (fun mm => fX12_dear  mm) PK) := by
  obtain ⟨hk1, hk2⟩ := hk
  unfold P0
  refine zs_aload_n (pc := 2486) (k := 1) (i := 1) C (by decide +kernel) rfl rfl ?_
  refine zs_cvWi (pc := 2487) (As := []) (st := []) C (fun _ _ _ => rfl) rfl (c_X11_dear l g ) ml_RL_262 rfl rfl rfl rfl (Nat.le_of_ble_eq_true rfl) ⟨Nat.le_of_ble_eq_true rfl, Nat.le_of_ble_eq_true rfl⟩ (by constructor <;> simp only [rmd] <;> omega) (by decide +kernel) (fun v1 => ?_)
  refine zs_aload_n (pc := 2490) (k := 2) (i := 2) C (by decide +kernel) rfl rfl ?_
  refine zs_cvWi (pc := 2491) (As := []) (st := [sI v1]) C (fun _ _ _ => rfl) rfl (c_X12_dear l g ) ml_RL_265 rfl rfl rfl rfl (Nat.le_of_ble_eq_true rfl) ⟨Nat.le_of_ble_eq_true rfl, Nat.le_of_ble_eq_true rfl⟩ (by constructor <;> simp only [rmd] <;> omega) (by decide +kernel) (fun v2 => ?_)
  refine zs_icmp_eq (pc := 2494) (off := 568) (tgt := 3062) C (by decide +kernel) (by decide) ?_ zs_none
  exact zs_sub (ls' := [(0, sS), (1, sR 0), (2, sR 287), (3, sR 312), (4, sI i)]) ⟨rfl, rfl, rfl, rfl, rfl, trivial⟩ (K _ _ (by simp only [rmd]; omega) (by simp only [rmd]; omega))

set_option maxRecDepth 20000 in
theorem lc_35 {p : Program} {l : Launch} {e : Env} {s : State} {m : MethodId} {args : Array Value} {below : List Frame} {meth : Method} {c : Code} {g : GC} {L : Nat} {xs : Nat → Int32} {i : Int} {kc ks : Nat} {Q : State → Prop} {PK : Mem → Option Unit} (C : Bd g RL code 8 p s m args meth c) (hX : ScrX g L xs s) (hl : l.stackTraces = false) (hi : 0 ≤ i ∧ i + 6 ≤ (L : Int)) (hk : kc + 8 ≤ room_1.cells ∧ ks + 48 ≤ room_1.slots)
    (K : ∀ kc' ks', kc' ≤ kc + 8 → ks' ≤ ks + 48 → Sim p l e room_1 s m args below meth c g 8 (fun (_ : Unit) _ => Q) kc' ks' 3062 [(0, sS), (1, sR 0), (2, sR 287), (3, sR 312), (4, sI i)] [] PK) : Sim p l e room_1 s m args below meth c g 8 (fun (_ : Unit) _ => Q) kc ks 2499 [(0, sS), (1, sR 0), (2, sR 287), (3, sR 312), (4, sI i)] [] (PX (fun mm => fL_other (ar xs i 1) (ar xs i 2) mm) (fun mm => fX12_other (ar xs i 1) (ar xs i 2) mm) PK) := by
  obtain ⟨hk1, hk2⟩ := hk
  unfold PX
  refine zs_aload_n (pc := 2499) (k := 1) (i := 1) C (by decide +kernel) rfl rfl ?_
  refine zl_arg (pc := 2500) (j := 1) (ls := [(0, sS), (1, sR 0), (2, sR 287), (3, sR 312), (4, sI i)]) C hX hi (by decide) rfl rfl (by decide +kernel) (by decide +kernel) (by decide +kernel) (by decide +kernel) (by decide +kernel) (by decide +kernel) ?_
  refine zl_arg (pc := 2506) (j := 2) (ls := [(0, sS), (1, sR 0), (2, sR 287), (3, sR 312), (4, sI i)]) C hX hi (by decide) rfl rfl (by decide +kernel) (by decide +kernel) (by decide +kernel) (by decide +kernel) (by decide +kernel) (by decide +kernel) ?_
  refine zs_aload_n (pc := 2512) (k := 3) (i := 3) C (by decide +kernel) rfl rfl ?_
  refine zs_csX (pc := 2513) (As := [sR 0, sI (ar xs i 1), sI (ar xs i 2), sR 312]) (st := []) C (fun _ _ _ => rfl) rfl (c_L_other l g hl (ar xs i 1) (ar xs i 2)) mx_266 rfl rfl (Nat.le_of_ble_eq_true rfl) ⟨Nat.le_of_ble_eq_true rfl, Nat.le_of_ble_eq_true rfl⟩ (by constructor <;> simp only [rmd] <;> omega) (by decide +kernel) (fun k1 => ?_)
  refine zs_istore (pc := 2516) (i := 5) (ls' := [(5, sI k1), (0, sS), (1, sR 0), (2, sR 287), (3, sR 312), (4, sI i)]) C (by decide +kernel) (Nat.le_of_ble_eq_true rfl) rfl ?_
  refine zs_aload_n (pc := 2518) (k := 2) (i := 2) C (by decide +kernel) rfl rfl ?_
  refine zl_arg (pc := 2519) (j := 1) (ls := [(5, sI k1), (0, sS), (1, sR 0), (2, sR 287), (3, sR 312), (4, sI i)]) C hX hi (by decide) rfl rfl (by decide +kernel) (by decide +kernel) (by decide +kernel) (by decide +kernel) (by decide +kernel) (by decide +kernel) ?_
  refine zl_arg (pc := 2525) (j := 2) (ls := [(5, sI k1), (0, sS), (1, sR 0), (2, sR 287), (3, sR 312), (4, sI i)]) C hX hi (by decide) rfl rfl (by decide +kernel) (by decide +kernel) (by decide +kernel) (by decide +kernel) (by decide +kernel) (by decide +kernel) ?_
  refine zs_cvWi (pc := 2531) (As := [sI (ar xs i 1), sI (ar xs i 2)]) (st := []) C (fun _ _ _ => rfl) rfl (c_X12_other l g (ar xs i 1) (ar xs i 2)) ml_RL_268 rfl rfl rfl rfl (Nat.le_of_ble_eq_true rfl) ⟨Nat.le_of_ble_eq_true rfl, Nat.le_of_ble_eq_true rfl⟩ (by constructor <;> simp only [rmd] <;> omega) (by decide +kernel) (fun v2 => ?_)
  refine zs_istore (pc := 2534) (i := 6) (ls' := [(6, sI v2), (5, sI k1), (0, sS), (1, sR 0), (2, sR 287), (3, sR 312), (4, sI i)]) C (by decide +kernel) (Nat.le_of_ble_eq_true rfl) rfl ?_
  refine zs_aload_n (pc := 2536) (k := 2) (i := 2) C (by decide +kernel) rfl rfl ?_
  refine zs_cvRi (pc := 2537) (As := []) (st := []) C rfl (c_X12_thrown l g ) ml_RL_156 rfl rfl rfl rfl (Nat.le_of_ble_eq_true rfl) ⟨Nat.le_of_ble_eq_true rfl, Nat.le_of_ble_eq_true rfl⟩ (by constructor <;> simp only [rmd] <;> omega) (by decide +kernel) (fun t3 => ?_)
  refine zs_iload (pc := 2540) (i := 5) C (by decide +kernel) rfl ?_
  refine zs_icmp_eq (pc := 2542) (off := 5) (tgt := 2547) C (by decide +kernel) (by decide) ?_ zs_none
  refine zs_iload (pc := 2547) (i := 5) C (by decide +kernel) rfl ?_
  refine zs_if_ne (pc := 2549) (off := 15) (tgt := 2564) C (by decide +kernel) (by decide) ?_ ?_
  · refine zs_goto (pc := 2564) (off := 498) (tgt := 3062) C (by decide +kernel) (by decide) ?_
    exact zs_sub (ls' := [(0, sS), (1, sR 0), (2, sR 287), (3, sR 312), (4, sI i)]) ⟨rfl, rfl, rfl, rfl, rfl, trivial⟩ (K _ _ (by simp only [rmd]; omega) (by simp only [rmd]; omega))
  · refine zs_aload_n (pc := 2552) (k := 3) (i := 3) C (by decide +kernel) rfl rfl ?_
    refine zs_iconst (pc := 2553) (n := 0) (x := 0) C (by decide +kernel) (by decide +kernel) ?_
    refine zs_laldk (pc := 2554) (o := 312) (n := 1) (i := 0) C ⟨by decide, by decide⟩ (by decide +kernel) rfl (fun z4 => ?_)
    refine zs_iload (pc := 2555) (i := 6) C (by decide +kernel) rfl ?_
    refine zs_i2l (pc := 2557) C (by decide +kernel) ?_
    refine zs_lcmp_eq (pc := 2558) (off := 5) (tgt := 2564) C (by decide +kernel) (by decide +kernel) (by decide) ?_ zs_none
    refine zs_goto (pc := 2564) (off := 498) (tgt := 3062) C (by decide +kernel) (by decide) ?_
    exact zs_sub (ls' := [(0, sS), (1, sR 0), (2, sR 287), (3, sR 312), (4, sI i)]) ⟨rfl, rfl, rfl, rfl, rfl, trivial⟩ (K _ _ (by simp only [rmd]; omega) (by simp only [rmd]; omega))

set_option maxRecDepth 20000 in
theorem lc_36 {p : Program} {l : Launch} {e : Env} {s : State} {m : MethodId} {args : Array Value} {below : List Frame} {meth : Method} {c : Code} {g : GC} {L : Nat} {xs : Nat → Int32} {i : Int} {kc ks : Nat} {Q : State → Prop} {PK : Mem → Option Unit} (C : Bd g RL code 8 p s m args meth c) (hX : ScrX g L xs s) (hl : l.stackTraces = false) (hi : 0 ≤ i ∧ i + 6 ≤ (L : Int)) (hk : kc + 8 ≤ room_1.cells ∧ ks + 48 ≤ room_1.slots)
    (K : ∀ kc' ks', kc' ≤ kc + 8 → ks' ≤ ks + 48 → Sim p l e room_1 s m args below meth c g 8 (fun (_ : Unit) _ => Q) kc' ks' 3062 [(0, sS), (1, sR 0), (2, sR 287), (3, sR 312), (4, sI i)] [] PK) : Sim p l e room_1 s m args below meth c g 8 (fun (_ : Unit) _ => Q) kc ks 2567 [(0, sS), (1, sR 0), (2, sR 287), (3, sR 312), (4, sI i)] [] (PX (fun mm => fL_fits (ar xs i 1) (ar xs i 2) mm) (fun mm => fX12_fits (ar xs i 1) (ar xs i 2) mm) PK) := by
  obtain ⟨hk1, hk2⟩ := hk
  unfold PX
  refine zs_aload_n (pc := 2567) (k := 1) (i := 1) C (by decide +kernel) rfl rfl ?_
  refine zl_arg (pc := 2568) (j := 1) (ls := [(0, sS), (1, sR 0), (2, sR 287), (3, sR 312), (4, sI i)]) C hX hi (by decide) rfl rfl (by decide +kernel) (by decide +kernel) (by decide +kernel) (by decide +kernel) (by decide +kernel) (by decide +kernel) ?_
  refine zl_arg (pc := 2574) (j := 2) (ls := [(0, sS), (1, sR 0), (2, sR 287), (3, sR 312), (4, sI i)]) C hX hi (by decide) rfl rfl (by decide +kernel) (by decide +kernel) (by decide +kernel) (by decide +kernel) (by decide +kernel) (by decide +kernel) ?_
  refine zs_aload_n (pc := 2580) (k := 3) (i := 3) C (by decide +kernel) rfl rfl ?_
  refine zs_csX (pc := 2581) (As := [sR 0, sI (ar xs i 1), sI (ar xs i 2), sR 312]) (st := []) C (fun _ _ _ => rfl) rfl (c_L_fits l g hl (ar xs i 1) (ar xs i 2)) mx_269 rfl rfl (Nat.le_of_ble_eq_true rfl) ⟨Nat.le_of_ble_eq_true rfl, Nat.le_of_ble_eq_true rfl⟩ (by constructor <;> simp only [rmd] <;> omega) (by decide +kernel) (fun k1 => ?_)
  refine zs_istore (pc := 2584) (i := 5) (ls' := [(5, sI k1), (0, sS), (1, sR 0), (2, sR 287), (3, sR 312), (4, sI i)]) C (by decide +kernel) (Nat.le_of_ble_eq_true rfl) rfl ?_
  refine zs_aload_n (pc := 2586) (k := 2) (i := 2) C (by decide +kernel) rfl rfl ?_
  refine zl_arg (pc := 2587) (j := 1) (ls := [(5, sI k1), (0, sS), (1, sR 0), (2, sR 287), (3, sR 312), (4, sI i)]) C hX hi (by decide) rfl rfl (by decide +kernel) (by decide +kernel) (by decide +kernel) (by decide +kernel) (by decide +kernel) (by decide +kernel) ?_
  refine zl_arg (pc := 2593) (j := 2) (ls := [(5, sI k1), (0, sS), (1, sR 0), (2, sR 287), (3, sR 312), (4, sI i)]) C hX hi (by decide) rfl rfl (by decide +kernel) (by decide +kernel) (by decide +kernel) (by decide +kernel) (by decide +kernel) (by decide +kernel) ?_
  refine zs_cvWl (pc := 2599) (As := [sI (ar xs i 1), sI (ar xs i 2)]) (st := []) C (fun _ _ _ => rfl) (c_X12_fits l g (ar xs i 1) (ar xs i 2)) ml_RL_271 rfl rfl rfl rfl (Nat.le_of_ble_eq_true rfl) ⟨Nat.le_of_ble_eq_true rfl, Nat.le_of_ble_eq_true rfl⟩ (by constructor <;> simp only [rmd] <;> omega) (by decide +kernel) (fun v2 => ?_)
  refine zs_lstore (pc := 2602) (i := 6) (ls' := [(6, sL v2), (5, sI k1), (0, sS), (1, sR 0), (2, sR 287), (3, sR 312), (4, sI i)]) C (by decide +kernel) (Nat.le_of_ble_eq_true rfl) rfl ?_
  refine zs_aload_n (pc := 2604) (k := 2) (i := 2) C (by decide +kernel) rfl rfl ?_
  refine zs_cvRi (pc := 2605) (As := []) (st := []) C rfl (c_X12_thrown l g ) ml_RL_156 rfl rfl rfl rfl (Nat.le_of_ble_eq_true rfl) ⟨Nat.le_of_ble_eq_true rfl, Nat.le_of_ble_eq_true rfl⟩ (by constructor <;> simp only [rmd] <;> omega) (by decide +kernel) (fun t3 => ?_)
  refine zs_iload (pc := 2608) (i := 5) C (by decide +kernel) rfl ?_
  refine zs_icmp_eq (pc := 2610) (off := 5) (tgt := 2615) C (by decide +kernel) (by decide) ?_ zs_none
  refine zs_iload (pc := 2615) (i := 5) C (by decide +kernel) rfl ?_
  refine zs_if_ne (pc := 2617) (off := 14) (tgt := 2631) C (by decide +kernel) (by decide) ?_ ?_
  · refine zs_goto (pc := 2631) (off := 431) (tgt := 3062) C (by decide +kernel) (by decide) ?_
    exact zs_sub (ls' := [(0, sS), (1, sR 0), (2, sR 287), (3, sR 312), (4, sI i)]) ⟨rfl, rfl, rfl, rfl, rfl, trivial⟩ (K _ _ (by simp only [rmd]; omega) (by simp only [rmd]; omega))
  · refine zs_aload_n (pc := 2620) (k := 3) (i := 3) C (by decide +kernel) rfl rfl ?_
    refine zs_iconst (pc := 2621) (n := 0) (x := 0) C (by decide +kernel) (by decide +kernel) ?_
    refine zs_laldk (pc := 2622) (o := 312) (n := 1) (i := 0) C ⟨by decide, by decide⟩ (by decide +kernel) rfl (fun z4 => ?_)
    refine zs_lload (pc := 2623) (i := 6) C (by decide +kernel) rfl ?_
    refine zs_lcmp_eq (pc := 2625) (off := 5) (tgt := 2631) C (by decide +kernel) (by decide +kernel) (by decide) ?_ zs_none
    refine zs_goto (pc := 2631) (off := 431) (tgt := 3062) C (by decide +kernel) (by decide) ?_
    exact zs_sub (ls' := [(0, sS), (1, sR 0), (2, sR 287), (3, sR 312), (4, sI i)]) ⟨rfl, rfl, rfl, rfl, rfl, trivial⟩ (K _ _ (by simp only [rmd]; omega) (by simp only [rmd]; omega))

set_option maxRecDepth 20000 in
theorem lc_37 {p : Program} {l : Launch} {e : Env} {s : State} {m : MethodId} {args : Array Value} {below : List Frame} {meth : Method} {c : Code} {g : GC} {L : Nat} {xs : Nat → Int32} {i : Int} {kc ks : Nat} {Q : State → Prop} {PK : Mem → Option Unit} (C : Bd g RL code 8 p s m args meth c) (hX : ScrX g L xs s) (hl : l.stackTraces = false) (hi : 0 ≤ i ∧ i + 6 ≤ (L : Int)) (hk : kc + 8 ≤ room_1.cells ∧ ks + 48 ≤ room_1.slots)
    (K : ∀ kc' ks', kc' ≤ kc + 8 → ks' ≤ ks + 48 → Sim p l e room_1 s m args below meth c g 8 (fun (_ : Unit) _ => Q) kc' ks' 3062 [(0, sS), (1, sR 0), (2, sR 287), (3, sR 312), (4, sI i)] [] PK) : Sim p l e room_1 s m args below meth c g 8 (fun (_ : Unit) _ => Q) kc ks 2634 [(0, sS), (1, sR 0), (2, sR 287), (3, sR 312), (4, sI i)] [] (PX (fun mm => fL_look (ar xs i 1) (ar xs i 2) mm) (fun mm => fX12_look (ar xs i 1) (ar xs i 2) mm) PK) := by
  obtain ⟨hk1, hk2⟩ := hk
  unfold PX
  refine zs_aload_n (pc := 2634) (k := 1) (i := 1) C (by decide +kernel) rfl rfl ?_
  refine zl_arg (pc := 2635) (j := 1) (ls := [(0, sS), (1, sR 0), (2, sR 287), (3, sR 312), (4, sI i)]) C hX hi (by decide) rfl rfl (by decide +kernel) (by decide +kernel) (by decide +kernel) (by decide +kernel) (by decide +kernel) (by decide +kernel) ?_
  refine zl_arg (pc := 2641) (j := 2) (ls := [(0, sS), (1, sR 0), (2, sR 287), (3, sR 312), (4, sI i)]) C hX hi (by decide) rfl rfl (by decide +kernel) (by decide +kernel) (by decide +kernel) (by decide +kernel) (by decide +kernel) (by decide +kernel) ?_
  refine zs_aload_n (pc := 2647) (k := 3) (i := 3) C (by decide +kernel) rfl rfl ?_
  refine zs_csX (pc := 2648) (As := [sR 0, sI (ar xs i 1), sI (ar xs i 2), sR 312]) (st := []) C (fun _ _ _ => rfl) rfl (c_L_look l g hl (ar xs i 1) (ar xs i 2)) mx_272 rfl rfl (Nat.le_of_ble_eq_true rfl) ⟨Nat.le_of_ble_eq_true rfl, Nat.le_of_ble_eq_true rfl⟩ (by constructor <;> simp only [rmd] <;> omega) (by decide +kernel) (fun k1 => ?_)
  refine zs_istore (pc := 2651) (i := 5) (ls' := [(5, sI k1), (0, sS), (1, sR 0), (2, sR 287), (3, sR 312), (4, sI i)]) C (by decide +kernel) (Nat.le_of_ble_eq_true rfl) rfl ?_
  refine zs_aload_n (pc := 2653) (k := 2) (i := 2) C (by decide +kernel) rfl rfl ?_
  refine zl_arg (pc := 2654) (j := 1) (ls := [(5, sI k1), (0, sS), (1, sR 0), (2, sR 287), (3, sR 312), (4, sI i)]) C hX hi (by decide) rfl rfl (by decide +kernel) (by decide +kernel) (by decide +kernel) (by decide +kernel) (by decide +kernel) (by decide +kernel) ?_
  refine zl_arg (pc := 2660) (j := 2) (ls := [(5, sI k1), (0, sS), (1, sR 0), (2, sR 287), (3, sR 312), (4, sI i)]) C hX hi (by decide) rfl rfl (by decide +kernel) (by decide +kernel) (by decide +kernel) (by decide +kernel) (by decide +kernel) (by decide +kernel) ?_
  refine zs_cvWi (pc := 2666) (As := [sI (ar xs i 1), sI (ar xs i 2)]) (st := []) C (fun _ _ _ => rfl) rfl (c_X12_look l g (ar xs i 1) (ar xs i 2)) ml_RL_274 rfl rfl rfl rfl (Nat.le_of_ble_eq_true rfl) ⟨Nat.le_of_ble_eq_true rfl, Nat.le_of_ble_eq_true rfl⟩ (by constructor <;> simp only [rmd] <;> omega) (by decide +kernel) (fun v2 => ?_)
  refine zs_istore (pc := 2669) (i := 6) (ls' := [(6, sI v2), (5, sI k1), (0, sS), (1, sR 0), (2, sR 287), (3, sR 312), (4, sI i)]) C (by decide +kernel) (Nat.le_of_ble_eq_true rfl) rfl ?_
  refine zs_aload_n (pc := 2671) (k := 2) (i := 2) C (by decide +kernel) rfl rfl ?_
  refine zs_cvRi (pc := 2672) (As := []) (st := []) C rfl (c_X12_thrown l g ) ml_RL_156 rfl rfl rfl rfl (Nat.le_of_ble_eq_true rfl) ⟨Nat.le_of_ble_eq_true rfl, Nat.le_of_ble_eq_true rfl⟩ (by constructor <;> simp only [rmd] <;> omega) (by decide +kernel) (fun t3 => ?_)
  refine zs_iload (pc := 2675) (i := 5) C (by decide +kernel) rfl ?_
  refine zs_icmp_eq (pc := 2677) (off := 5) (tgt := 2682) C (by decide +kernel) (by decide) ?_ zs_none
  refine zs_iload (pc := 2682) (i := 5) C (by decide +kernel) rfl ?_
  refine zs_if_ne (pc := 2684) (off := 15) (tgt := 2699) C (by decide +kernel) (by decide) ?_ ?_
  · refine zs_goto (pc := 2699) (off := 363) (tgt := 3062) C (by decide +kernel) (by decide) ?_
    exact zs_sub (ls' := [(0, sS), (1, sR 0), (2, sR 287), (3, sR 312), (4, sI i)]) ⟨rfl, rfl, rfl, rfl, rfl, trivial⟩ (K _ _ (by simp only [rmd]; omega) (by simp only [rmd]; omega))
  · refine zs_aload_n (pc := 2687) (k := 3) (i := 3) C (by decide +kernel) rfl rfl ?_
    refine zs_iconst (pc := 2688) (n := 0) (x := 0) C (by decide +kernel) (by decide +kernel) ?_
    refine zs_laldk (pc := 2689) (o := 312) (n := 1) (i := 0) C ⟨by decide, by decide⟩ (by decide +kernel) rfl (fun z4 => ?_)
    refine zs_iload (pc := 2690) (i := 6) C (by decide +kernel) rfl ?_
    refine zs_i2l (pc := 2692) C (by decide +kernel) ?_
    refine zs_lcmp_eq (pc := 2693) (off := 5) (tgt := 2699) C (by decide +kernel) (by decide +kernel) (by decide) ?_ zs_none
    refine zs_goto (pc := 2699) (off := 363) (tgt := 3062) C (by decide +kernel) (by decide) ?_
    exact zs_sub (ls' := [(0, sS), (1, sR 0), (2, sR 287), (3, sR 312), (4, sI i)]) ⟨rfl, rfl, rfl, rfl, rfl, trivial⟩ (K _ _ (by simp only [rmd]; omega) (by simp only [rmd]; omega))

set_option maxRecDepth 20000 in
theorem lc_38 {p : Program} {l : Launch} {e : Env} {s : State} {m : MethodId} {args : Array Value} {below : List Frame} {meth : Method} {c : Code} {g : GC} {L : Nat} {xs : Nat → Int32} {i : Int} {kc ks : Nat} {Q : State → Prop} {PK : Mem → Option Unit} (C : Bd g RL code 8 p s m args meth c) (hX : ScrX g L xs s) (hl : l.stackTraces = false) (hi : 0 ≤ i ∧ i + 6 ≤ (L : Int)) (hk : kc + 8 ≤ room_1.cells ∧ ks + 48 ≤ room_1.slots)
    (K : ∀ kc' ks', kc' ≤ kc + 8 → ks' ≤ ks + 48 → Sim p l e room_1 s m args below meth c g 8 (fun (_ : Unit) _ => Q) kc' ks' 3062 [(0, sS), (1, sR 0), (2, sR 287), (3, sR 312), (4, sI i)] [] PK) : Sim p l e room_1 s m args below meth c g 8 (fun (_ : Unit) _ => Q) kc ks 2702 [(0, sS), (1, sR 0), (2, sR 287), (3, sR 312), (4, sI i)] [] (PV (fun mm => fL_tray (ar xs i 1) (ar xs i 2) (ar xs i 3) mm) (fun mm => fX12_tray (ar xs i 1) (ar xs i 2) (ar xs i 3) mm) PK) := by
  obtain ⟨hk1, hk2⟩ := hk
  unfold PV
  refine zs_aload_n (pc := 2702) (k := 1) (i := 1) C (by decide +kernel) rfl rfl ?_
  refine zl_arg (pc := 2703) (j := 1) (ls := [(0, sS), (1, sR 0), (2, sR 287), (3, sR 312), (4, sI i)]) C hX hi (by decide) rfl rfl (by decide +kernel) (by decide +kernel) (by decide +kernel) (by decide +kernel) (by decide +kernel) (by decide +kernel) ?_
  refine zl_arg (pc := 2709) (j := 2) (ls := [(0, sS), (1, sR 0), (2, sR 287), (3, sR 312), (4, sI i)]) C hX hi (by decide) rfl rfl (by decide +kernel) (by decide +kernel) (by decide +kernel) (by decide +kernel) (by decide +kernel) (by decide +kernel) ?_
  refine zl_arg (pc := 2715) (j := 3) (ls := [(0, sS), (1, sR 0), (2, sR 287), (3, sR 312), (4, sI i)]) C hX hi (by decide) rfl rfl (by decide +kernel) (by decide +kernel) (by decide +kernel) (by decide +kernel) (by decide +kernel) (by decide +kernel) ?_
  refine zs_csX (pc := 2721) (As := [sR 0, sI (ar xs i 1), sI (ar xs i 2), sI (ar xs i 3)]) (st := []) C (fun _ _ _ => rfl) rfl (c_L_tray l g hl (ar xs i 1) (ar xs i 2) (ar xs i 3)) mx_275 rfl rfl (Nat.le_of_ble_eq_true rfl) ⟨Nat.le_of_ble_eq_true rfl, Nat.le_of_ble_eq_true rfl⟩ (by constructor <;> simp only [rmd] <;> omega) (by decide +kernel) (fun k1 => ?_)
  refine zs_istore (pc := 2724) (i := 5) (ls' := [(5, sI k1), (0, sS), (1, sR 0), (2, sR 287), (3, sR 312), (4, sI i)]) C (by decide +kernel) (Nat.le_of_ble_eq_true rfl) rfl ?_
  refine zs_aload_n (pc := 2726) (k := 2) (i := 2) C (by decide +kernel) rfl rfl ?_
  refine zl_arg (pc := 2727) (j := 1) (ls := [(5, sI k1), (0, sS), (1, sR 0), (2, sR 287), (3, sR 312), (4, sI i)]) C hX hi (by decide) rfl rfl (by decide +kernel) (by decide +kernel) (by decide +kernel) (by decide +kernel) (by decide +kernel) (by decide +kernel) ?_
  refine zl_arg (pc := 2733) (j := 2) (ls := [(5, sI k1), (0, sS), (1, sR 0), (2, sR 287), (3, sR 312), (4, sI i)]) C hX hi (by decide) rfl rfl (by decide +kernel) (by decide +kernel) (by decide +kernel) (by decide +kernel) (by decide +kernel) (by decide +kernel) ?_
  refine zl_arg (pc := 2739) (j := 3) (ls := [(5, sI k1), (0, sS), (1, sR 0), (2, sR 287), (3, sR 312), (4, sI i)]) C hX hi (by decide) rfl rfl (by decide +kernel) (by decide +kernel) (by decide +kernel) (by decide +kernel) (by decide +kernel) (by decide +kernel) ?_
  refine zs_cvVv (pc := 2745) (As := [sI (ar xs i 1), sI (ar xs i 2), sI (ar xs i 3)]) (st := []) C (fun _ _ _ => rfl) (c_X12_tray l g (ar xs i 1) (ar xs i 2) (ar xs i 3)) ml_RL_278 rfl rfl rfl rfl (Nat.le_of_ble_eq_true rfl) ⟨Nat.le_of_ble_eq_true rfl, Nat.le_of_ble_eq_true rfl⟩ (by constructor <;> simp only [rmd] <;> omega) (by decide +kernel) ?_
  refine zs_aload_n (pc := 2748) (k := 2) (i := 2) C (by decide +kernel) rfl rfl ?_
  refine zs_cvRi (pc := 2749) (As := []) (st := []) C rfl (c_X12_thrown l g ) ml_RL_156 rfl rfl rfl rfl (Nat.le_of_ble_eq_true rfl) ⟨Nat.le_of_ble_eq_true rfl, Nat.le_of_ble_eq_true rfl⟩ (by constructor <;> simp only [rmd] <;> omega) (by decide +kernel) (fun t2 => ?_)
  refine zs_iload (pc := 2752) (i := 5) C (by decide +kernel) rfl ?_
  refine zs_icmp_eq (pc := 2754) (off := 5) (tgt := 2759) C (by decide +kernel) (by decide) ?_ zs_none
  refine zs_goto (pc := 2759) (off := 303) (tgt := 3062) C (by decide +kernel) (by decide) ?_
  exact zs_sub (ls' := [(0, sS), (1, sR 0), (2, sR 287), (3, sR 312), (4, sI i)]) ⟨rfl, rfl, rfl, rfl, rfl, trivial⟩ (K _ _ (by simp only [rmd]; omega) (by simp only [rmd]; omega))

set_option maxRecDepth 20000 in
theorem lc_39 {p : Program} {l : Launch} {e : Env} {s : State} {m : MethodId} {args : Array Value} {below : List Frame} {meth : Method} {c : Code} {g : GC} {L : Nat} {xs : Nat → Int32} {i : Int} {kc ks : Nat} {Q : State → Prop} {PK : Mem → Option Unit} (C : Bd g RL code 8 p s m args meth c) (hX : ScrX g L xs s) (hl : l.stackTraces = false) (hi : 0 ≤ i ∧ i + 6 ≤ (L : Int)) (hk : kc + 8 ≤ room_1.cells ∧ ks + 48 ≤ room_1.slots)
    (K : ∀ kc' ks', kc' ≤ kc + 8 → ks' ≤ ks + 48 → Sim p l e room_1 s m args below meth c g 8 (fun (_ : Unit) _ => Q) kc' ks' 3062 [(0, sS), (1, sR 0), (2, sR 287), (3, sR 312), (4, sI i)] [] PK) : Sim p l e room_1 s m args below meth c g 8 (fun (_ : Unit) _ => Q) kc ks 2762 [(0, sS), (1, sR 0), (2, sR 287), (3, sR 312), (4, sI i)] [] (PX (fun mm => fL_write (ar xs i 1) (ar xs i 2) (lor (lshl (ar xs i 3) 32) (land (ar xs i 4) 4294967295)) mm) (fun mm => fX12_write (ar xs i 1) (ar xs i 2) (lor (lshl (ar xs i 3) 32) (land (ar xs i 4) 4294967295)) mm) PK) := by
  obtain ⟨hk1, hk2⟩ := hk
  unfold PX
  refine zs_aload_n (pc := 2762) (k := 1) (i := 1) C (by decide +kernel) rfl rfl ?_
  refine zl_arg (pc := 2763) (j := 1) (ls := [(0, sS), (1, sR 0), (2, sR 287), (3, sR 312), (4, sI i)]) C hX hi (by decide) rfl rfl (by decide +kernel) (by decide +kernel) (by decide +kernel) (by decide +kernel) (by decide +kernel) (by decide +kernel) ?_
  refine zl_arg (pc := 2769) (j := 2) (ls := [(0, sS), (1, sR 0), (2, sR 287), (3, sR 312), (4, sI i)]) C hX hi (by decide) rfl rfl (by decide +kernel) (by decide +kernel) (by decide +kernel) (by decide +kernel) (by decide +kernel) (by decide +kernel) ?_
  refine zl_arg (pc := 2775) (j := 3) (ls := [(0, sS), (1, sR 0), (2, sR 287), (3, sR 312), (4, sI i)]) C hX hi (by decide) rfl rfl (by decide +kernel) (by decide +kernel) (by decide +kernel) (by decide +kernel) (by decide +kernel) (by decide +kernel) ?_
  refine zs_i2l (pc := 2781) C (by decide +kernel) ?_
  refine zs_bipush (pc := 2782) (n := 32) (x := 32) C (by decide +kernel) (by decide +kernel) ?_
  refine zs_lshl (pc := 2784) C (by decide +kernel) ?_
  refine zl_arg (pc := 2785) (j := 4) (ls := [(0, sS), (1, sR 0), (2, sR 287), (3, sR 312), (4, sI i)]) C hX hi (by decide) rfl rfl (by decide +kernel) (by decide +kernel) (by decide +kernel) (by decide +kernel) (by decide +kernel) (by decide +kernel) ?_
  refine zs_i2l (pc := 2791) C (by decide +kernel) ?_
  refine zs_ldc2 (pc := 2792) (v := 4294967295) (x := 4294967295) C (by decide +kernel) wf_2510 (by decide +kernel) ?_
  refine zs_land (pc := 2795) C (by decide +kernel) ?_
  refine zs_lor (pc := 2796) C (by decide +kernel) ?_
  refine zs_aload_n (pc := 2797) (k := 3) (i := 3) C (by decide +kernel) rfl rfl ?_
  refine zs_csX (pc := 2798) (As := [sR 0, sI (ar xs i 1), sI (ar xs i 2), sL (lor (lshl (ar xs i 3) 32) (land (ar xs i 4) 4294967295)), sR 312]) (st := []) C (fun _ _ _ => rfl) rfl (c_L_write l g hl (ar xs i 1) (ar xs i 2) (lor (lshl (ar xs i 3) 32) (land (ar xs i 4) 4294967295))) mx_281 rfl rfl (Nat.le_of_ble_eq_true rfl) ⟨Nat.le_of_ble_eq_true rfl, Nat.le_of_ble_eq_true rfl⟩ (by constructor <;> simp only [rmd] <;> omega) (by decide +kernel) (fun k1 => ?_)
  refine zs_istore (pc := 2801) (i := 5) (ls' := [(5, sI k1), (0, sS), (1, sR 0), (2, sR 287), (3, sR 312), (4, sI i)]) C (by decide +kernel) (Nat.le_of_ble_eq_true rfl) rfl ?_
  refine zs_aload_n (pc := 2803) (k := 2) (i := 2) C (by decide +kernel) rfl rfl ?_
  refine zl_arg (pc := 2804) (j := 1) (ls := [(5, sI k1), (0, sS), (1, sR 0), (2, sR 287), (3, sR 312), (4, sI i)]) C hX hi (by decide) rfl rfl (by decide +kernel) (by decide +kernel) (by decide +kernel) (by decide +kernel) (by decide +kernel) (by decide +kernel) ?_
  refine zl_arg (pc := 2810) (j := 2) (ls := [(5, sI k1), (0, sS), (1, sR 0), (2, sR 287), (3, sR 312), (4, sI i)]) C hX hi (by decide) rfl rfl (by decide +kernel) (by decide +kernel) (by decide +kernel) (by decide +kernel) (by decide +kernel) (by decide +kernel) ?_
  refine zl_arg (pc := 2816) (j := 3) (ls := [(5, sI k1), (0, sS), (1, sR 0), (2, sR 287), (3, sR 312), (4, sI i)]) C hX hi (by decide) rfl rfl (by decide +kernel) (by decide +kernel) (by decide +kernel) (by decide +kernel) (by decide +kernel) (by decide +kernel) ?_
  refine zs_i2l (pc := 2822) C (by decide +kernel) ?_
  refine zs_bipush (pc := 2823) (n := 32) (x := 32) C (by decide +kernel) (by decide +kernel) ?_
  refine zs_lshl (pc := 2825) C (by decide +kernel) ?_
  refine zl_arg (pc := 2826) (j := 4) (ls := [(5, sI k1), (0, sS), (1, sR 0), (2, sR 287), (3, sR 312), (4, sI i)]) C hX hi (by decide) rfl rfl (by decide +kernel) (by decide +kernel) (by decide +kernel) (by decide +kernel) (by decide +kernel) (by decide +kernel) ?_
  refine zs_i2l (pc := 2832) C (by decide +kernel) ?_
  refine zs_ldc2 (pc := 2833) (v := 4294967295) (x := 4294967295) C (by decide +kernel) wf_2510 (by decide +kernel) ?_
  refine zs_land (pc := 2836) C (by decide +kernel) ?_
  refine zs_lor (pc := 2837) C (by decide +kernel) ?_
  refine zs_cvWl (pc := 2838) (As := [sI (ar xs i 1), sI (ar xs i 2), sL (lor (lshl (ar xs i 3) 32) (land (ar xs i 4) 4294967295))]) (st := []) C (fun _ _ _ => rfl) (c_X12_write l g (ar xs i 1) (ar xs i 2) (lor (lshl (ar xs i 3) 32) (land (ar xs i 4) 4294967295))) ml_RL_284 rfl rfl rfl rfl (Nat.le_of_ble_eq_true rfl) ⟨Nat.le_of_ble_eq_true rfl, Nat.le_of_ble_eq_true rfl⟩ (by constructor <;> simp only [rmd] <;> omega) (by decide +kernel) (fun v2 => ?_)
  refine zs_lstore (pc := 2841) (i := 6) (ls' := [(6, sL v2), (5, sI k1), (0, sS), (1, sR 0), (2, sR 287), (3, sR 312), (4, sI i)]) C (by decide +kernel) (Nat.le_of_ble_eq_true rfl) rfl ?_
  refine zs_aload_n (pc := 2843) (k := 2) (i := 2) C (by decide +kernel) rfl rfl ?_
  refine zs_cvRi (pc := 2844) (As := []) (st := []) C rfl (c_X12_thrown l g ) ml_RL_156 rfl rfl rfl rfl (Nat.le_of_ble_eq_true rfl) ⟨Nat.le_of_ble_eq_true rfl, Nat.le_of_ble_eq_true rfl⟩ (by constructor <;> simp only [rmd] <;> omega) (by decide +kernel) (fun t3 => ?_)
  refine zs_iload (pc := 2847) (i := 5) C (by decide +kernel) rfl ?_
  refine zs_icmp_eq (pc := 2849) (off := 5) (tgt := 2854) C (by decide +kernel) (by decide) ?_ zs_none
  refine zs_iload (pc := 2854) (i := 5) C (by decide +kernel) rfl ?_
  refine zs_if_ne (pc := 2856) (off := 14) (tgt := 2870) C (by decide +kernel) (by decide) ?_ ?_
  · refine zs_goto (pc := 2870) (off := 192) (tgt := 3062) C (by decide +kernel) (by decide) ?_
    exact zs_sub (ls' := [(0, sS), (1, sR 0), (2, sR 287), (3, sR 312), (4, sI i)]) ⟨rfl, rfl, rfl, rfl, rfl, trivial⟩ (K _ _ (by simp only [rmd]; omega) (by simp only [rmd]; omega))
  · refine zs_aload_n (pc := 2859) (k := 3) (i := 3) C (by decide +kernel) rfl rfl ?_
    refine zs_iconst (pc := 2860) (n := 0) (x := 0) C (by decide +kernel) (by decide +kernel) ?_
    refine zs_laldk (pc := 2861) (o := 312) (n := 1) (i := 0) C ⟨by decide, by decide⟩ (by decide +kernel) rfl (fun z4 => ?_)
    refine zs_lload (pc := 2862) (i := 6) C (by decide +kernel) rfl ?_
    refine zs_lcmp_eq (pc := 2864) (off := 5) (tgt := 2870) C (by decide +kernel) (by decide +kernel) (by decide) ?_ zs_none
    refine zs_goto (pc := 2870) (off := 192) (tgt := 3062) C (by decide +kernel) (by decide) ?_
    exact zs_sub (ls' := [(0, sS), (1, sR 0), (2, sR 287), (3, sR 312), (4, sI i)]) ⟨rfl, rfl, rfl, rfl, rfl, trivial⟩ (K _ _ (by simp only [rmd]; omega) (by simp only [rmd]; omega))

set_option maxRecDepth 20000 in
theorem lc_40 {p : Program} {l : Launch} {e : Env} {s : State} {m : MethodId} {args : Array Value} {below : List Frame} {meth : Method} {c : Code} {g : GC} {L : Nat} {xs : Nat → Int32} {i : Int} {kc ks : Nat} {Q : State → Prop} {PK : Mem → Option Unit} (C : Bd g RL code 8 p s m args meth c) (hX : ScrX g L xs s) (hl : l.stackTraces = false) (hi : 0 ≤ i ∧ i + 6 ≤ (L : Int)) (hk : kc + 8 ≤ room_1.cells ∧ ks + 48 ≤ room_1.slots)
    (K : ∀ kc' ks', kc' ≤ kc + 8 → ks' ≤ ks + 48 → Sim p l e room_1 s m args below meth c g 8 (fun (_ : Unit) _ => Q) kc' ks' 3062 [(0, sS), (1, sR 0), (2, sR 287), (3, sR 312), (4, sI i)] [] PK) : Sim p l e room_1 s m args below meth c g 8 (fun (_ : Unit) _ => Q) kc ks 2873 [(0, sS), (1, sR 0), (2, sR 287), (3, sR 312), (4, sI i)] [] (PX (fun mm => fL_copy (ar xs i 1) (ar xs i 2) (ar xs i 3) (ar xs i 4) mm) (fun mm => fX12_copy (ar xs i 1) (ar xs i 2) (ar xs i 3) (ar xs i 4) mm) PK) := by
  obtain ⟨hk1, hk2⟩ := hk
  unfold PX
  refine zs_aload_n (pc := 2873) (k := 1) (i := 1) C (by decide +kernel) rfl rfl ?_
  refine zl_arg (pc := 2874) (j := 1) (ls := [(0, sS), (1, sR 0), (2, sR 287), (3, sR 312), (4, sI i)]) C hX hi (by decide) rfl rfl (by decide +kernel) (by decide +kernel) (by decide +kernel) (by decide +kernel) (by decide +kernel) (by decide +kernel) ?_
  refine zl_arg (pc := 2880) (j := 2) (ls := [(0, sS), (1, sR 0), (2, sR 287), (3, sR 312), (4, sI i)]) C hX hi (by decide) rfl rfl (by decide +kernel) (by decide +kernel) (by decide +kernel) (by decide +kernel) (by decide +kernel) (by decide +kernel) ?_
  refine zl_arg (pc := 2886) (j := 3) (ls := [(0, sS), (1, sR 0), (2, sR 287), (3, sR 312), (4, sI i)]) C hX hi (by decide) rfl rfl (by decide +kernel) (by decide +kernel) (by decide +kernel) (by decide +kernel) (by decide +kernel) (by decide +kernel) ?_
  refine zl_arg (pc := 2892) (j := 4) (ls := [(0, sS), (1, sR 0), (2, sR 287), (3, sR 312), (4, sI i)]) C hX hi (by decide) rfl rfl (by decide +kernel) (by decide +kernel) (by decide +kernel) (by decide +kernel) (by decide +kernel) (by decide +kernel) ?_
  refine zs_aload_n (pc := 2898) (k := 3) (i := 3) C (by decide +kernel) rfl rfl ?_
  refine zs_csX (pc := 2899) (As := [sR 0, sI (ar xs i 1), sI (ar xs i 2), sI (ar xs i 3), sI (ar xs i 4), sR 312]) (st := []) C (fun _ _ _ => rfl) rfl (c_L_copy l g hl (ar xs i 1) (ar xs i 2) (ar xs i 3) (ar xs i 4)) mx_285 rfl rfl (Nat.le_of_ble_eq_true rfl) ⟨Nat.le_of_ble_eq_true rfl, Nat.le_of_ble_eq_true rfl⟩ (by constructor <;> simp only [rmd] <;> omega) (by decide +kernel) (fun k1 => ?_)
  refine zs_istore (pc := 2902) (i := 5) (ls' := [(5, sI k1), (0, sS), (1, sR 0), (2, sR 287), (3, sR 312), (4, sI i)]) C (by decide +kernel) (Nat.le_of_ble_eq_true rfl) rfl ?_
  refine zs_aload_n (pc := 2904) (k := 2) (i := 2) C (by decide +kernel) rfl rfl ?_
  refine zl_arg (pc := 2905) (j := 1) (ls := [(5, sI k1), (0, sS), (1, sR 0), (2, sR 287), (3, sR 312), (4, sI i)]) C hX hi (by decide) rfl rfl (by decide +kernel) (by decide +kernel) (by decide +kernel) (by decide +kernel) (by decide +kernel) (by decide +kernel) ?_
  refine zl_arg (pc := 2911) (j := 2) (ls := [(5, sI k1), (0, sS), (1, sR 0), (2, sR 287), (3, sR 312), (4, sI i)]) C hX hi (by decide) rfl rfl (by decide +kernel) (by decide +kernel) (by decide +kernel) (by decide +kernel) (by decide +kernel) (by decide +kernel) ?_
  refine zl_arg (pc := 2917) (j := 3) (ls := [(5, sI k1), (0, sS), (1, sR 0), (2, sR 287), (3, sR 312), (4, sI i)]) C hX hi (by decide) rfl rfl (by decide +kernel) (by decide +kernel) (by decide +kernel) (by decide +kernel) (by decide +kernel) (by decide +kernel) ?_
  refine zl_arg (pc := 2923) (j := 4) (ls := [(5, sI k1), (0, sS), (1, sR 0), (2, sR 287), (3, sR 312), (4, sI i)]) C hX hi (by decide) rfl rfl (by decide +kernel) (by decide +kernel) (by decide +kernel) (by decide +kernel) (by decide +kernel) (by decide +kernel) ?_
  refine zs_cvWi (pc := 2929) (As := [sI (ar xs i 1), sI (ar xs i 2), sI (ar xs i 3), sI (ar xs i 4)]) (st := []) C (fun _ _ _ => rfl) rfl (c_X12_copy l g (ar xs i 1) (ar xs i 2) (ar xs i 3) (ar xs i 4)) ml_RL_287 rfl rfl rfl rfl (Nat.le_of_ble_eq_true rfl) ⟨Nat.le_of_ble_eq_true rfl, Nat.le_of_ble_eq_true rfl⟩ (by constructor <;> simp only [rmd] <;> omega) (by decide +kernel) (fun v2 => ?_)
  refine zs_istore (pc := 2932) (i := 6) (ls' := [(6, sI v2), (5, sI k1), (0, sS), (1, sR 0), (2, sR 287), (3, sR 312), (4, sI i)]) C (by decide +kernel) (Nat.le_of_ble_eq_true rfl) rfl ?_
  refine zs_aload_n (pc := 2934) (k := 2) (i := 2) C (by decide +kernel) rfl rfl ?_
  refine zs_cvRi (pc := 2935) (As := []) (st := []) C rfl (c_X12_thrown l g ) ml_RL_156 rfl rfl rfl rfl (Nat.le_of_ble_eq_true rfl) ⟨Nat.le_of_ble_eq_true rfl, Nat.le_of_ble_eq_true rfl⟩ (by constructor <;> simp only [rmd] <;> omega) (by decide +kernel) (fun t3 => ?_)
  refine zs_iload (pc := 2938) (i := 5) C (by decide +kernel) rfl ?_
  refine zs_icmp_eq (pc := 2940) (off := 5) (tgt := 2945) C (by decide +kernel) (by decide) ?_ zs_none
  refine zs_iload (pc := 2945) (i := 5) C (by decide +kernel) rfl ?_
  refine zs_if_ne (pc := 2947) (off := 15) (tgt := 2962) C (by decide +kernel) (by decide) ?_ ?_
  · refine zs_goto (pc := 2962) (off := 100) (tgt := 3062) C (by decide +kernel) (by decide) ?_
    exact zs_sub (ls' := [(0, sS), (1, sR 0), (2, sR 287), (3, sR 312), (4, sI i)]) ⟨rfl, rfl, rfl, rfl, rfl, trivial⟩ (K _ _ (by simp only [rmd]; omega) (by simp only [rmd]; omega))
  · refine zs_aload_n (pc := 2950) (k := 3) (i := 3) C (by decide +kernel) rfl rfl ?_
    refine zs_iconst (pc := 2951) (n := 0) (x := 0) C (by decide +kernel) (by decide +kernel) ?_
    refine zs_laldk (pc := 2952) (o := 312) (n := 1) (i := 0) C ⟨by decide, by decide⟩ (by decide +kernel) rfl (fun z4 => ?_)
    refine zs_iload (pc := 2953) (i := 6) C (by decide +kernel) rfl ?_
    refine zs_i2l (pc := 2955) C (by decide +kernel) ?_
    refine zs_lcmp_eq (pc := 2956) (off := 5) (tgt := 2962) C (by decide +kernel) (by decide +kernel) (by decide) ?_ zs_none
    refine zs_goto (pc := 2962) (off := 100) (tgt := 3062) C (by decide +kernel) (by decide) ?_
    exact zs_sub (ls' := [(0, sS), (1, sR 0), (2, sR 287), (3, sR 312), (4, sI i)]) ⟨rfl, rfl, rfl, rfl, rfl, trivial⟩ (K _ _ (by simp only [rmd]; omega) (by simp only [rmd]; omega))

set_option maxRecDepth 20000 in
theorem lc_41 {p : Program} {l : Launch} {e : Env} {s : State} {m : MethodId} {args : Array Value} {below : List Frame} {meth : Method} {c : Code} {g : GC} {L : Nat} {xs : Nat → Int32} {i : Int} {kc ks : Nat} {Q : State → Prop} {PK : Mem → Option Unit} (C : Bd g RL code 8 p s m args meth c) (hX : ScrX g L xs s) (hl : l.stackTraces = false) (hi : 0 ≤ i ∧ i + 6 ≤ (L : Int)) (hk : kc + 8 ≤ room_1.cells ∧ ks + 48 ≤ room_1.slots)
    (K : ∀ kc' ks', kc' ≤ kc + 8 → ks' ≤ ks + 48 → Sim p l e room_1 s m args below meth c g 8 (fun (_ : Unit) _ => Q) kc' ks' 3062 [(0, sS), (1, sR 0), (2, sR 287), (3, sR 312), (4, sI i)] [] PK) : Sim p l e room_1 s m args below meth c g 8 (fun (_ : Unit) _ => Q) kc ks 2965 [(0, sS), (1, sR 0), (2, sR 287), (3, sR 312), (4, sI i)] [] (PV (fun mm => fL_image (ar xs i 1) mm) (fun mm => fX12_image (ar xs i 1) mm) PK) := by
  obtain ⟨hk1, hk2⟩ := hk
  unfold PV
  refine zs_aload_n (pc := 2965) (k := 1) (i := 1) C (by decide +kernel) rfl rfl ?_
  refine zl_arg (pc := 2966) (j := 1) (ls := [(0, sS), (1, sR 0), (2, sR 287), (3, sR 312), (4, sI i)]) C hX hi (by decide) rfl rfl (by decide +kernel) (by decide +kernel) (by decide +kernel) (by decide +kernel) (by decide +kernel) (by decide +kernel) ?_
  refine zs_csX (pc := 2972) (As := [sR 0, sI (ar xs i 1)]) (st := []) C (fun _ _ _ => rfl) rfl (c_L_image l g hl (ar xs i 1)) mx_288 rfl rfl (Nat.le_of_ble_eq_true rfl) ⟨Nat.le_of_ble_eq_true rfl, Nat.le_of_ble_eq_true rfl⟩ (by constructor <;> simp only [rmd] <;> omega) (by decide +kernel) (fun k1 => ?_)
  refine zs_istore (pc := 2975) (i := 5) (ls' := [(5, sI k1), (0, sS), (1, sR 0), (2, sR 287), (3, sR 312), (4, sI i)]) C (by decide +kernel) (Nat.le_of_ble_eq_true rfl) rfl ?_
  refine zs_aload_n (pc := 2977) (k := 2) (i := 2) C (by decide +kernel) rfl rfl ?_
  refine zl_arg (pc := 2978) (j := 1) (ls := [(5, sI k1), (0, sS), (1, sR 0), (2, sR 287), (3, sR 312), (4, sI i)]) C hX hi (by decide) rfl rfl (by decide +kernel) (by decide +kernel) (by decide +kernel) (by decide +kernel) (by decide +kernel) (by decide +kernel) ?_
  refine zs_cvVv (pc := 2984) (As := [sI (ar xs i 1)]) (st := []) C (fun _ _ _ => rfl) (c_X12_image l g (ar xs i 1)) ml_RL_291 rfl rfl rfl rfl (Nat.le_of_ble_eq_true rfl) ⟨Nat.le_of_ble_eq_true rfl, Nat.le_of_ble_eq_true rfl⟩ (by constructor <;> simp only [rmd] <;> omega) (by decide +kernel) ?_
  refine zs_aload_n (pc := 2987) (k := 2) (i := 2) C (by decide +kernel) rfl rfl ?_
  refine zs_cvRi (pc := 2988) (As := []) (st := []) C rfl (c_X12_thrown l g ) ml_RL_156 rfl rfl rfl rfl (Nat.le_of_ble_eq_true rfl) ⟨Nat.le_of_ble_eq_true rfl, Nat.le_of_ble_eq_true rfl⟩ (by constructor <;> simp only [rmd] <;> omega) (by decide +kernel) (fun t2 => ?_)
  refine zs_iload (pc := 2991) (i := 5) C (by decide +kernel) rfl ?_
  refine zs_icmp_eq (pc := 2993) (off := 5) (tgt := 2998) C (by decide +kernel) (by decide) ?_ zs_none
  refine zs_goto (pc := 2998) (off := 64) (tgt := 3062) C (by decide +kernel) (by decide) ?_
  exact zs_sub (ls' := [(0, sS), (1, sR 0), (2, sR 287), (3, sR 312), (4, sI i)]) ⟨rfl, rfl, rfl, rfl, rfl, trivial⟩ (K _ _ (by simp only [rmd]; omega) (by simp only [rmd]; omega))

set_option maxRecDepth 20000 in
theorem lc_42 {p : Program} {l : Launch} {e : Env} {s : State} {m : MethodId} {args : Array Value} {below : List Frame} {meth : Method} {c : Code} {g : GC} {L : Nat} {xs : Nat → Int32} {i : Int} {kc ks : Nat} {Q : State → Prop} {PK : Mem → Option Unit} (C : Bd g RL code 8 p s m args meth c) (hX : ScrX g L xs s) (hl : l.stackTraces = false) (hi : 0 ≤ i ∧ i + 6 ≤ (L : Int)) (hk : kc + 8 ≤ room_1.cells ∧ ks + 48 ≤ room_1.slots)
    (K : ∀ kc' ks', kc' ≤ kc + 8 → ks' ≤ ks + 48 → Sim p l e room_1 s m args below meth c g 8 (fun (_ : Unit) _ => Q) kc' ks' 3062 [(0, sS), (1, sR 0), (2, sR 287), (3, sR 312), (4, sI i)] [] PK) : Sim p l e room_1 s m args below meth c g 8 (fun (_ : Unit) _ => Q) kc ks 3001 [(0, sS), (1, sR 0), (2, sR 287), (3, sR 312), (4, sI i)] [] (PV (fun mm => fL_restore (ar xs i 1) mm) (fun mm => fX12_restore (ar xs i 1) mm) PK) := by
  obtain ⟨hk1, hk2⟩ := hk
  unfold PV
  refine zs_aload_n (pc := 3001) (k := 1) (i := 1) C (by decide +kernel) rfl rfl ?_
  refine zl_arg (pc := 3002) (j := 1) (ls := [(0, sS), (1, sR 0), (2, sR 287), (3, sR 312), (4, sI i)]) C hX hi (by decide) rfl rfl (by decide +kernel) (by decide +kernel) (by decide +kernel) (by decide +kernel) (by decide +kernel) (by decide +kernel) ?_
  refine zs_csX (pc := 3008) (As := [sR 0, sI (ar xs i 1)]) (st := []) C (fun _ _ _ => rfl) rfl (c_L_restore l g hl (ar xs i 1)) mx_292 rfl rfl (Nat.le_of_ble_eq_true rfl) ⟨Nat.le_of_ble_eq_true rfl, Nat.le_of_ble_eq_true rfl⟩ (by constructor <;> simp only [rmd] <;> omega) (by decide +kernel) (fun k1 => ?_)
  refine zs_istore (pc := 3011) (i := 5) (ls' := [(5, sI k1), (0, sS), (1, sR 0), (2, sR 287), (3, sR 312), (4, sI i)]) C (by decide +kernel) (Nat.le_of_ble_eq_true rfl) rfl ?_
  refine zs_aload_n (pc := 3013) (k := 2) (i := 2) C (by decide +kernel) rfl rfl ?_
  refine zl_arg (pc := 3014) (j := 1) (ls := [(5, sI k1), (0, sS), (1, sR 0), (2, sR 287), (3, sR 312), (4, sI i)]) C hX hi (by decide) rfl rfl (by decide +kernel) (by decide +kernel) (by decide +kernel) (by decide +kernel) (by decide +kernel) (by decide +kernel) ?_
  refine zs_cvVv (pc := 3020) (As := [sI (ar xs i 1)]) (st := []) C (fun _ _ _ => rfl) (c_X12_restore l g (ar xs i 1)) ml_RL_294 rfl rfl rfl rfl (Nat.le_of_ble_eq_true rfl) ⟨Nat.le_of_ble_eq_true rfl, Nat.le_of_ble_eq_true rfl⟩ (by constructor <;> simp only [rmd] <;> omega) (by decide +kernel) ?_
  refine zs_aload_n (pc := 3023) (k := 2) (i := 2) C (by decide +kernel) rfl rfl ?_
  refine zs_cvRi (pc := 3024) (As := []) (st := []) C rfl (c_X12_thrown l g ) ml_RL_156 rfl rfl rfl rfl (Nat.le_of_ble_eq_true rfl) ⟨Nat.le_of_ble_eq_true rfl, Nat.le_of_ble_eq_true rfl⟩ (by constructor <;> simp only [rmd] <;> omega) (by decide +kernel) (fun t2 => ?_)
  refine zs_iload (pc := 3027) (i := 5) C (by decide +kernel) rfl ?_
  refine zs_icmp_eq (pc := 3029) (off := 5) (tgt := 3034) C (by decide +kernel) (by decide) ?_ zs_none
  refine zs_goto (pc := 3034) (off := 28) (tgt := 3062) C (by decide +kernel) (by decide) ?_
  exact zs_sub (ls' := [(0, sS), (1, sR 0), (2, sR 287), (3, sR 312), (4, sI i)]) ⟨rfl, rfl, rfl, rfl, rfl, trivial⟩ (K _ _ (by simp only [rmd]; omega) (by simp only [rmd]; omega))

set_option maxRecDepth 20000 in
theorem lc_43 {p : Program} {l : Launch} {e : Env} {s : State} {m : MethodId} {args : Array Value} {below : List Frame} {meth : Method} {c : Code} {g : GC} {L : Nat} {xs : Nat → Int32} {i : Int} {kc ks : Nat} {Q : State → Prop} {PK : Mem → Option Unit} (C : Bd g RL code 8 p s m args meth c) (hX : ScrX g L xs s) (hl : l.stackTraces = false) (hi : 0 ≤ i ∧ i + 6 ≤ (L : Int)) (hk : kc + 8 ≤ room_1.cells ∧ ks + 48 ≤ room_1.slots)
    (K : ∀ kc' ks', kc' ≤ kc + 8 → ks' ≤ ks + 48 → Sim p l e room_1 s m args below meth c g 8 (fun (_ : Unit) _ => Q) kc' ks' 3062 [(0, sS), (1, sR 0), (2, sR 287), (3, sR 312), (4, sI i)] [] PK) : Sim p l e room_1 s m args below meth c g 8 (fun (_ : Unit) _ => Q) kc ks 3037 [(0, sS), (1, sR 0), (2, sR 287), (3, sR 312), (4, sI i)] [] (PR (fun mm => fX11_count (ar xs i 1) mm) (fun mm => fX12_count (ar xs i 1) mm) PK) := by
  obtain ⟨hk1, hk2⟩ := hk
  unfold PR
  refine zs_aload_n (pc := 3037) (k := 1) (i := 1) C (by decide +kernel) rfl rfl ?_
  refine zl_arg (pc := 3038) (j := 1) (ls := [(0, sS), (1, sR 0), (2, sR 287), (3, sR 312), (4, sI i)]) C hX hi (by decide) rfl rfl (by decide +kernel) (by decide +kernel) (by decide +kernel) (by decide +kernel) (by decide +kernel) (by decide +kernel) ?_
  refine zs_cvRi (pc := 3044) (As := [sI (ar xs i 1)]) (st := []) C rfl (c_X11_count l g (ar xs i 1)) ml_RL_295 rfl rfl rfl rfl (Nat.le_of_ble_eq_true rfl) ⟨Nat.le_of_ble_eq_true rfl, Nat.le_of_ble_eq_true rfl⟩ (by constructor <;> simp only [rmd] <;> omega) (by decide +kernel) (fun v1 => ?_)
  refine zs_aload_n (pc := 3047) (k := 2) (i := 2) C (by decide +kernel) rfl rfl ?_
  refine zl_arg (pc := 3048) (j := 1) (ls := [(0, sS), (1, sR 0), (2, sR 287), (3, sR 312), (4, sI i)]) C hX hi (by decide) rfl rfl (by decide +kernel) (by decide +kernel) (by decide +kernel) (by decide +kernel) (by decide +kernel) (by decide +kernel) ?_
  refine zs_cvWi (pc := 3054) (As := [sI (ar xs i 1)]) (st := [sI v1]) C (fun _ _ _ => rfl) rfl (c_X12_count l g (ar xs i 1)) ml_RL_298 rfl rfl rfl rfl (Nat.le_of_ble_eq_true rfl) ⟨Nat.le_of_ble_eq_true rfl, Nat.le_of_ble_eq_true rfl⟩ (by constructor <;> simp only [rmd] <;> omega) (by decide +kernel) (fun v2 => ?_)
  refine zs_icmp_eq (pc := 3057) (off := 5) (tgt := 3062) C (by decide +kernel) (by decide) ?_ zs_none
  exact zs_sub (ls' := [(0, sS), (1, sR 0), (2, sR 287), (3, sR 312), (4, sI i)]) ⟨rfl, rfl, rfl, rfl, rfl, trivial⟩ (K _ _ (by simp only [rmd]; omega) (by simp only [rmd]; omega))

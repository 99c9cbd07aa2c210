/-! ===== the law: its loop ===== -/
theorem d40 : decode code 40 = .ok (.tableswitch 3022 0 43 #[192, 265, 321, 346, 402, 470, 526, 594, 693, 742, 810, 878, 934, 990, 1058, 1114, 1182, 1238, 1294, 1374, 1442, 1510, 1578, 1658, 1750, 1841, 1921, 2001, 2081, 2161, 2241, 2309, 2377, 2390, 2446, 2459, 2527, 2594, 2662, 2722, 2833, 2925, 2961, 2997], 192) := by decide +kernel
set_option maxRecDepth 20000 in
theorem law_sw0 {p : Program} {l : Launch} {e : Env} {s : State} {m : MethodId} {args : Array Value} {below : List Frame} {meth : Method} {c : Code} {g : GC} {L : Nat} {xs : Nat → Int32} {i : Int} {kc ks : Nat} {Q : State → Prop} (C : Bd g RL code 8 p s m args meth c) (hX : ScrX g L xs s) (hl : l.stackTraces = false) (hi : 0 ≤ i ∧ i + 6 ≤ (L : Int)) (hk : kc + 8 ≤ room_1.cells ∧ ks + 48 ≤ room_1.slots) {ci : Int} (h1 : 1000 ≤ ci) (h9 : ci ≤ 900000)
    (K : ∀ kc' ks', kc' ≤ kc + 8 → ks' ≤ ks + 48 → Sim p l e room_1 s m args below meth c g 8 (fun (_ : Unit) _ => Q) kc' ks' 3062 [(0, sS), (1, sR 0), (2, sR 287), (3, sR 312), (4, sI i)] [] (PI (ci + 100))) {x : Int} : ∀ n : Nat, n < 11 → x = ((n + 0 : Nat) : Int) → Sim p l e room_1 s m args below meth c g 8 (fun (_ : Unit) _ => Q) kc ks 40 [(0, sS), (1, sR 0), (2, sR 287), (3, sR 312), (4, sI i)] [sI x] (PI ci)
  | 0, _, hx => zs_tswI (pc := 40) (i := 0) (off := 192) (tgt := 232) C d40 (by omega) (by decide) rfl (by decide) (zs_imp (fun mm r h => p0_ok (fun mm hI => d_feed hI (by omega)) h) (lc_0 C hX hl hi hk K))
  | 1, _, hx => zs_tswI (pc := 40) (i := 1) (off := 265) (tgt := 305) C d40 (by omega) (by decide) rfl (by decide) (zs_imp (fun mm r h => px_ok (fun mm hI => d_island hI (by omega) (by omega)) h) (lc_1 C hX hl hi hk K))
  | 2, _, hx => zs_tswI (pc := 40) (i := 2) (off := 321) (tgt := 361) C d40 (by omega) (by decide) rfl (by decide) (zs_imp (fun mm r h => pr_ok (fun mm hI => d_fault hI (by omega)) h) (lc_2 C hX hl hi hk K))
  | 3, _, hx => zs_tswI (pc := 40) (i := 3) (off := 346) (tgt := 386) C d40 (by omega) (by decide) rfl (by decide) (zs_imp (fun mm r h => px_ok (fun mm hI => d_place hI (by omega)) h) (lc_3 C hX hl hi hk K))
  | 4, _, hx => zs_tswI (pc := 40) (i := 4) (off := 402) (tgt := 442) C d40 (by omega) (by decide) rfl (by decide) (zs_imp (fun mm r h => px_ok (fun mm hI => d_pair hI (by omega)) h) (lc_4 C hX hl hi hk K))
  | 5, _, hx => zs_tswI (pc := 40) (i := 5) (off := 470) (tgt := 510) C d40 (by omega) (by decide) rfl (by decide) (zs_imp (fun mm r h => px_ok (fun mm hI => d_house hI (by omega)) h) (lc_5 C hX hl hi hk K))
  | 6, _, hx => zs_tswI (pc := 40) (i := 6) (off := 526) (tgt := 566) C d40 (by omega) (by decide) rfl (by decide) (zs_imp (fun mm r h => px_ok (fun mm hI => d_length hI (by omega) (by omega)) h) (lc_6 C hX hl hi hk K))
  | 7, _, hx => zs_tswI (pc := 40) (i := 7) (off := 594) (tgt := 634) C d40 (by omega) (by decide) rfl (by decide) (zs_imp (fun mm r h => pm_ok (fun mm hI => d_may hI (by omega) (by omega)) h) (lc_7 C hX hl hi hk K))
  | 8, _, hx => zs_tswI (pc := 40) (i := 8) (off := 693) (tgt := 733) C d40 (by omega) (by decide) rfl (by decide) (zs_imp (fun mm r h => p0_ok (fun mm hI => d_step hI (by omega) (by omega)) h) (lc_8 C hX hl hi hk K))
  | 9, _, hx => zs_tswI (pc := 40) (i := 9) (off := 742) (tgt := 782) C d40 (by omega) (by decide) rfl (by decide) (zs_imp (fun mm r h => px_ok (fun mm hI => d_tie hI (by omega) (by omega)) h) (lc_9 C hX hl hi hk K))
  | 10, _, hx => zs_tswI (pc := 40) (i := 10) (off := 810) (tgt := 850) C d40 (by omega) (by decide) rfl (by decide) (zs_imp (fun mm r h => px_ok (fun mm hI => d_rain hI (by omega) (by omega)) h) (lc_10 C hX hl hi hk K))
  | n + 11, h, _ => absurd h (by omega)
set_option maxRecDepth 20000 in
theorem law_sw1 {p : Program} {l : Launch} {e : Env} {s : State} {m : MethodId} {args : Array Value} {below : List Frame} {meth : Method} {c : Code} {g : GC} {L : Nat} {xs : Nat → Int32} {i : Int} {kc ks : Nat} {Q : State → Prop} (C : Bd g RL code 8 p s m args meth c) (hX : ScrX g L xs s) (hl : l.stackTraces = false) (hi : 0 ≤ i ∧ i + 6 ≤ (L : Int)) (hk : kc + 8 ≤ room_1.cells ∧ ks + 48 ≤ room_1.slots) {ci : Int} (h1 : 1000 ≤ ci) (h9 : ci ≤ 900000)
    (K : ∀ kc' ks', kc' ≤ kc + 8 → ks' ≤ ks + 48 → Sim p l e room_1 s m args below meth c g 8 (fun (_ : Unit) _ => Q) kc' ks' 3062 [(0, sS), (1, sR 0), (2, sR 287), (3, sR 312), (4, sI i)] [] (PI (ci + 100))) {x : Int} : ∀ n : Nat, n < 11 → x = ((n + 11 : Nat) : Int) → Sim p l e room_1 s m args below meth c g 8 (fun (_ : Unit) _ => Q) kc ks 40 [(0, sS), (1, sR 0), (2, sR 287), (3, sR 312), (4, sI i)] [sI x] (PI ci)
  | 0, _, hx => zs_tswI (pc := 40) (i := 11) (off := 878) (tgt := 918) C d40 (by omega) (by decide) rfl (by decide) (zs_imp (fun mm r h => px_ok (fun mm hI => d_hours hI (by omega) (by omega)) h) (lc_11 C hX hl hi hk K))
  | 1, _, hx => zs_tswI (pc := 40) (i := 12) (off := 934) (tgt := 974) C d40 (by omega) (by decide) rfl (by decide) (zs_imp (fun mm r h => px_ok (fun mm hI => d_undo hI (by omega)) h) (lc_12 C hX hl hi hk K))
  | 2, _, hx => zs_tswI (pc := 40) (i := 13) (off := 990) (tgt := 1030) C d40 (by omega) (by decide) rfl (by decide) (zs_imp (fun mm r h => px_ok (fun mm hI => d_judge hI (by omega) (by omega)) h) (lc_13 C hX hl hi hk K))
  | 3, _, hx => zs_tswI (pc := 40) (i := 14) (off := 1058) (tgt := 1098) C d40 (by omega) (by decide) rfl (by decide) (zs_imp (fun mm r h => px_ok (fun mm hI => d_perform hI (by omega) (by omega)) h) (lc_14 C hX hl hi hk K))
  | 4, _, hx => zs_tswI (pc := 40) (i := 15) (off := 1114) (tgt := 1154) C d40 (by omega) (by decide) rfl (by decide) (zs_imp (fun mm r h => px_ok (fun mm hI => d_season hI (by omega) (by omega)) h) (lc_15 C hX hl hi hk K))
  | 5, _, hx => zs_tswI (pc := 40) (i := 16) (off := 1182) (tgt := 1222) C d40 (by omega) (by decide) rfl (by decide) (zs_imp (fun mm r h => px_ok (fun mm hI => d_partsIn hI (by omega) (by omega)) h) (lc_16 C hX hl hi hk K))
  | 6, _, hx => zs_tswI (pc := 40) (i := 17) (off := 1238) (tgt := 1278) C d40 (by omega) (by decide) rfl (by decide) (zs_imp (fun mm r h => px_ok (fun mm hI => d_lasts hI (by omega) (by omega)) h) (lc_17 C hX hl hi hk K))
  | 7, _, hx => zs_tswI (pc := 40) (i := 18) (off := 1294) (tgt := 1334) C d40 (by omega) (by decide) rfl (by decide) (zs_imp (fun mm r h => px_ok (fun mm hI => d_reach hI (by omega) (by omega)) h) (lc_18 C hX hl hi hk K))
  | 8, _, hx => zs_tswI (pc := 40) (i := 19) (off := 1374) (tgt := 1414) C d40 (by omega) (by decide) rfl (by decide) (zs_imp (fun mm r h => px_ok (fun mm hI => d_together hI (by omega) (by omega)) h) (lc_19 C hX hl hi hk K))
  | 9, _, hx => zs_tswI (pc := 40) (i := 20) (off := 1442) (tgt := 1482) C d40 (by omega) (by decide) rfl (by decide) (zs_imp (fun mm r h => px_ok (fun mm hI => d_meal hI (by omega) (by omega)) h) (lc_20 C hX hl hi hk K))
  | 10, _, hx => zs_tswI (pc := 40) (i := 21) (off := 1510) (tgt := 1550) C d40 (by omega) (by decide) rfl (by decide) (zs_imp (fun mm r h => px_ok (fun mm hI => d_farthest hI (by omega) (by omega)) h) (lc_21 C hX hl hi hk K))
  | n + 11, h, _ => absurd h (by omega)
set_option maxRecDepth 20000 in
theorem law_sw2 {p : Program} {l : Launch} {e : Env} {s : State} {m : MethodId} {args : Array Value} {below : List Frame} {meth : Method} {c : Code} {g : GC} {L : Nat} {xs : Nat → Int32} {i : Int} {kc ks : Nat} {Q : State → Prop} (C : Bd g RL code 8 p s m args meth c) (hX : ScrX g L xs s) (hl : l.stackTraces = false) (hi : 0 ≤ i ∧ i + 6 ≤ (L : Int)) (hk : kc + 8 ≤ room_1.cells ∧ ks + 48 ≤ room_1.slots) {ci : Int} (h1 : 1000 ≤ ci) (h9 : ci ≤ 900000)
    (K : ∀ kc' ks', kc' ≤ kc + 8 → ks' ≤ ks + 48 → Sim p l e room_1 s m args below meth c g 8 (fun (_ : Unit) _ => Q) kc' ks' 3062 [(0, sS), (1, sR 0), (2, sR 287), (3, sR 312), (4, sI i)] [] (PI (ci + 100))) {x : Int} : ∀ n : Nat, n < 11 → x = ((n + 22 : Nat) : Int) → Sim p l e room_1 s m args below meth c g 8 (fun (_ : Unit) _ => Q) kc ks 40 [(0, sS), (1, sR 0), (2, sR 287), (3, sR 312), (4, sI i)] [sI x] (PI ci)
  | 0, _, hx => zs_tswI (pc := 40) (i := 22) (off := 1578) (tgt := 1618) C d40 (by omega) (by decide) rfl (by decide) (zs_imp (fun mm r h => px_ok (fun mm hI => d_soonest hI (by omega) (by omega)) h) (lc_22 C hX hl hi hk K))
  | 1, _, hx => zs_tswI (pc := 40) (i := 23) (off := 1658) (tgt := 1698) C d40 (by omega) (by decide) rfl (by decide) (zs_imp (fun mm r h => px_ok (fun mm hI => d_leads hI (by omega) (by omega)) h) (lc_23 C hX hl hi hk K))
  | 2, _, hx => zs_tswI (pc := 40) (i := 24) (off := 1750) (tgt := 1790) C d40 (by omega) (by decide) rfl (by decide) (zs_imp (fun mm r h => px_ok (fun mm hI => d_ways hI (by omega) (by omega)) h) (lc_24 C hX hl hi hk K))
  | 3, _, hx => zs_tswI (pc := 40) (i := 25) (off := 1841) (tgt := 1881) C d40 (by omega) (by decide) rfl (by decide) (zs_imp (fun mm r h => px_ok (fun mm hI => d_alone hI (by omega) (by omega)) h) (lc_25 C hX hl hi hk K))
  | 4, _, hx => zs_tswI (pc := 40) (i := 26) (off := 1921) (tgt := 1961) C d40 (by omega) (by decide) rfl (by decide) (zs_imp (fun mm r h => px_ok (fun mm hI => d_costs hI (by omega) (by omega)) h) (lc_26 C hX hl hi hk K))
  | 5, _, hx => zs_tswI (pc := 40) (i := 27) (off := 2001) (tgt := 2041) C d40 (by omega) (by decide) rfl (by decide) (zs_imp (fun mm r h => px_ok (fun mm hI => d_leastRope hI (by omega) (by omega)) h) (lc_27 C hX hl hi hk K))
  | 6, _, hx => zs_tswI (pc := 40) (i := 28) (off := 2081) (tgt := 2121) C d40 (by omega) (by decide) rfl (by decide) (zs_imp (fun mm r h => px_ok (fun mm hI => d_needed hI (by omega) (by omega)) h) (lc_28 C hX hl hi hk K))
  | 7, _, hx => zs_tswI (pc := 40) (i := 29) (off := 2161) (tgt := 2201) C d40 (by omega) (by decide) rfl (by decide) (zs_imp (fun mm r h => px_ok (fun mm hI => d_clear hI (by omega) (by omega)) h) (lc_29 C hX hl hi hk K))
  | 8, _, hx => zs_tswI (pc := 40) (i := 30) (off := 2241) (tgt := 2281) C d40 (by omega) (by decide) rfl (by decide) (zs_imp (fun mm r h => px_ok (fun mm hI => d_errands hI (by omega) (by omega)) h) (lc_30 C hX hl hi hk K))
  | 9, _, hx => zs_tswI (pc := 40) (i := 31) (off := 2309) (tgt := 2349) C d40 (by omega) (by decide) rfl (by decide) (zs_imp (fun mm r h => px_ok (fun mm hI => d_dropped hI (by omega) (by omega)) h) (lc_31 C hX hl hi hk K))
  | 10, _, hx => zs_tswI (pc := 40) (i := 32) (off := 2377) (tgt := 2417) C d40 (by omega) (by decide) rfl (by decide) (zs_imp (fun mm r h => p0_ok (fun mm hI => d_housed hI (by omega)) h) (lc_32 C hX hl hi hk K))
  | n + 11, h, _ => absurd h (by omega)
set_option maxRecDepth 20000 in
theorem law_sw3 {p : Program} {l : Launch} {e : Env} {s : State} {m : MethodId} {args : Array Value} {below : List Frame} {meth : Method} {c : Code} {g : GC} {L : Nat} {xs : Nat → Int32} {i : Int} {kc ks : Nat} {Q : State → Prop} (C : Bd g RL code 8 p s m args meth c) (hX : ScrX g L xs s) (hl : l.stackTraces = false) (hi : 0 ≤ i ∧ i + 6 ≤ (L : Int)) (hk : kc + 8 ≤ room_1.cells ∧ ks + 48 ≤ room_1.slots) {ci : Int} (h1 : 1000 ≤ ci) (h9 : ci ≤ 900000)
    (K : ∀ kc' ks', kc' ≤ kc + 8 → ks' ≤ ks + 48 → Sim p l e room_1 s m args below meth c g 8 (fun (_ : Unit) _ => Q) kc' ks' 3062 [(0, sS), (1, sR 0), (2, sR 287), (3, sR 312), (4, sI i)] [] (PI (ci + 100))) {x : Int} : ∀ n : Nat, n < 11 → x = ((n + 33 : Nat) : Int) → Sim p l e room_1 s m args below meth c g 8 (fun (_ : Unit) _ => Q) kc ks 40 [(0, sS), (1, sR 0), (2, sR 287), (3, sR 312), (4, sI i)] [sI x] (PI ci)
  | 0, _, hx => zs_tswI (pc := 40) (i := 33) (off := 2390) (tgt := 2430) C d40 (by omega) (by decide) rfl (by decide) (zs_imp (fun mm r h => px_ok (fun mm hI => d_shortest hI (by omega) (by omega)) h) (lc_33 C hX hl hi hk K))
  | 1, _, hx => zs_tswI (pc := 40) (i := 34) (off := 2446) (tgt := 2486) C d40 (by omega) (by decide) rfl (by decide) (zs_imp (fun mm r h => p0_ok (fun mm hI => d_dear hI (by omega)) h) (lc_34 C hX hl hi hk K))
  | 2, _, hx => zs_tswI (pc := 40) (i := 35) (off := 2459) (tgt := 2499) C d40 (by omega) (by decide) rfl (by decide) (zs_imp (fun mm r h => px_ok (fun mm hI => d_other hI (by omega) (by omega)) h) (lc_35 C hX hl hi hk K))
  | 3, _, hx => zs_tswI (pc := 40) (i := 36) (off := 2527) (tgt := 2567) C d40 (by omega) (by decide) rfl (by decide) (zs_imp (fun mm r h => px_ok (fun mm hI => d_fits hI (by omega) (by omega)) h) (lc_36 C hX hl hi hk K))
  | 4, _, hx => zs_tswI (pc := 40) (i := 37) (off := 2594) (tgt := 2634) C d40 (by omega) (by decide) rfl (by decide) (zs_imp (fun mm r h => px_ok (fun mm hI => d_look hI (by omega) (by omega)) h) (lc_37 C hX hl hi hk K))
  | 5, _, hx => zs_tswI (pc := 40) (i := 38) (off := 2662) (tgt := 2702) C d40 (by omega) (by decide) rfl (by decide) (zs_imp (fun mm r h => pv_ok (fun mm hI => d_tray hI (by omega)) h) (lc_38 C hX hl hi hk K))
  | 6, _, hx => zs_tswI (pc := 40) (i := 39) (off := 2722) (tgt := 2762) C d40 (by omega) (by decide) rfl (by decide) (zs_imp (fun mm r h => px_ok (fun mm hI => d_write hI (by omega) (lor_rng _ _).1 (lor_rng _ _).2) h) (lc_39 C hX hl hi hk K))
  | 7, _, hx => zs_tswI (pc := 40) (i := 40) (off := 2833) (tgt := 2873) C d40 (by omega) (by decide) rfl (by decide) (zs_imp (fun mm r h => px_ok (fun mm hI => d_copy hI (by omega) (by omega)) h) (lc_40 C hX hl hi hk K))
  | 8, _, hx => zs_tswI (pc := 40) (i := 41) (off := 2925) (tgt := 2965) C d40 (by omega) (by decide) rfl (by decide) (zs_imp (fun mm r h => pv_ok (fun mm hI => d_image hI (by omega)) h) (lc_41 C hX hl hi hk K))
  | 9, _, hx => zs_tswI (pc := 40) (i := 42) (off := 2961) (tgt := 3001) C d40 (by omega) (by decide) rfl (by decide) (zs_imp (fun mm r h => pv_ok (fun mm hI => d_restore hI (by omega)) h) (lc_42 C hX hl hi hk K))
  | 10, _, hx => zs_tswI (pc := 40) (i := 43) (off := 2997) (tgt := 3037) C d40 (by omega) (by decide) rfl (by decide) (zs_imp (fun mm r h => pr_ok (fun mm hI => d_count hI (by omega)) h) (lc_43 C hX hl hi hk K))
  | n + 11, h, _ => absurd h (by omega)
theorem law_sw {p : Program} {l : Launch} {e : Env} {s : State} {m : MethodId} {args : Array Value} {below : List Frame} {meth : Method} {c : Code} {g : GC} {L : Nat} {xs : Nat → Int32} {i : Int} {kc ks : Nat} {Q : State → Prop} (C : Bd g RL code 8 p s m args meth c) (hX : ScrX g L xs s) (hl : l.stackTraces = false) (hi : 0 ≤ i ∧ i + 6 ≤ (L : Int)) (hk : kc + 8 ≤ room_1.cells ∧ ks + 48 ≤ room_1.slots) {ci : Int} (h1 : 1000 ≤ ci) (h9 : ci ≤ 900000)
    (K : ∀ kc' ks', kc' ≤ kc + 8 → ks' ≤ ks + 48 → Sim p l e room_1 s m args below meth c g 8 (fun (_ : Unit) _ => Q) kc' ks' 3062 [(0, sS), (1, sR 0), (2, sR 287), (3, sR 312), (4, sI i)] [] (PI (ci + 100))) {x : Int} : Sim p l e room_1 s m args below meth c g 8 (fun (_ : Unit) _ => Q) kc ks 40 [(0, sS), (1, sR 0), (2, sR 287), (3, sR 312), (4, sI i)] [sI x] (PI ci) := by
  by_cases hr : 0 ≤ x ∧ x ≤ 43
  · have hq : (0 ≤ x ∧ x < 11) ∨ (11 ≤ x ∧ x < 22) ∨ (22 ≤ x ∧ x < 33) ∨ (33 ≤ x ∧ x < 44) := by omega
    rcases hq with hq | hq | hq | hq
    · exact law_sw0 C hX hl hi hk h1 h9 K (x - 0).toNat (by omega) (by omega)
    · exact law_sw1 C hX hl hi hk h1 h9 K (x - 11).toNat (by omega) (by omega)
    · exact law_sw2 C hX hl hi hk h1 h9 K (x - 22).toNat (by omega) (by omega)
    · exact law_sw3 C hX hl hi hk h1 h9 K (x - 33).toNat (by omega) (by omega)
  · refine zs_tswD (pc := 40) (tgt := 3062) C d40 (by omega) (by decide) ?_
    exact zs_imp (fun mm r h => pi_of (Inv_mono (pi_inv h) (by omega))) (K kc ks (by omega) (by omega))
theorem law_end {p : Program} {l : Launch} {e : Env} {s : State} {m : MethodId} {below : List Frame} {meth : Method} {c : Code} {g : GC} {b kc ks : Nat} {ls : List (Nat × SV)} {P : Mem → Option Unit} (C : Bd g RL code 8 p s m #[Value.ref b] meth c) (hr : meth.sig.returnType = ret) (hg : g.1 = s.heap.size) (hk : kc ≤ 601024 ∧ ks ≤ 7293034) : Sim p l e room_1 s m #[Value.ref b] below meth c g 8 (fun (_ : Unit) _ => lw_Z below #[Value.ref b] s) kc ks 3068 ls [] P := by
  intro H locs lsA lv vst mm r h1 h2 h3 h4 h5 h6
  obtain rfl := srel_nil h3
  refine lv_iconst C.1 C.2.1 (n := 1) (v := 1) (show decode code 3068 = .ok (.iconst 1, 1) by decide +kernel) rfl ?_
  refine W.widen hk.1 hk.2 (va_forget (fun q hq => by rw [← hg]; exact h5.2.2 q hq) ?_)
  exact lw_ret C.1 C.2.1 hr C.2.2.2.2.2.2.1 (by decide +kernel)
set_option maxRecDepth 20000 in
theorem law_loop {p : Program} {l : Launch} {e : Env} {s : State} {m : MethodId} {below : List Frame} {meth : Method} {c : Code} {g : GC} {L : Nat} {xs : Nat → Int32} {b : Nat} (C : Bd g RL code 8 p s m #[Value.ref b] meth c) (hX : ScrX g L xs s) (hl : l.stackTraces = false) (hr : meth.sig.returnType = ret) (hg : g.1 = s.heap.size) : ∀ (n : Nat) (i : Int) (kc ks : Nat) (ci : Int), 0 ≤ i → i ≤ 4000 → (L : Int) < i + 6 + 6 * (n : Int) → kc + 8 * n ≤ 601024 → ks + 48 * n ≤ 7293034 → 1000 ≤ ci → ci + 100 * (n : Int) ≤ 900000 →
    Sim p l e room_1 s m #[Value.ref b] below meth c g 8 (fun (_ : Unit) _ => lw_Z below #[Value.ref b] s) kc ks 23 [(0, sS), (1, sR 0), (2, sR 287), (3, sR 312), (4, sI i)] [] (PI ci) := by
  have hL := hX.2.2.2
  have head : ∀ (i : Int) (kc ks : Nat) (ci : Int), 0 ≤ i → i ≤ 4000 → kc ≤ 601024 → ks ≤ 7293034 → (¬ (L : Int) - 6 < i → Sim p l e room_1 s m #[Value.ref b] below meth c g 8 (fun (_ : Unit) _ => lw_Z below #[Value.ref b] s) kc ks 33 [(0, sS), (1, sR 0), (2, sR 287), (3, sR 312), (4, sI i)] [] (PI ci)) →
      Sim p l e room_1 s m #[Value.ref b] below meth c g 8 (fun (_ : Unit) _ => lw_Z below #[Value.ref b] s) kc ks 23 [(0, sS), (1, sR 0), (2, sR 287), (3, sR 312), (4, sI i)] [] (PI ci) := by
    intro i kc ks ci i0 i1 k1 k2 K
    refine zs_iload (pc := 23) (i := 4) C (by decide +kernel) rfl ?_
    refine zs_aload_nS (pc := 25) (k := 0) (i := 0) C (by decide +kernel) rfl rfl ?_
    refine zs_slen (pc := 26) C hX (by decide +kernel) ?_
    refine zs_bipush (pc := 27) (n := 6) (x := 6) C (by decide +kernel) (by decide +kernel) ?_
    refine zs_isub (pc := 29) C (by decide +kernel) ?_
    rw [show w32 ((L : Int) - 6) = (L : Int) - 6 from w32_id (by omega) (by omega)]
    by_cases h : (L : Int) - 6 < i
    · refine zs_congr (P' := fun mm => if (L : Int) - 6 < i then PI ci mm else none) (fun mm => (if_pos h).symm) ?_
      exact zs_icmp_gt (pc := 30) (off := 3038) (tgt := 3068) C (by decide +kernel) (by decide) (law_end C hr hg ⟨k1, k2⟩) zs_none
    · refine zs_congr (P' := fun mm => if (L : Int) - 6 < i then none else PI ci mm) (fun mm => (if_neg h).symm) ?_
      exact zs_icmp_gt (pc := 30) (off := 3038) (tgt := 3068) C (by decide +kernel) (by decide) zs_none (K h)
  intro n
  induction n with
  | zero =>
    intro i kc ks ci i0 i1 iL k1 k2 c1 c2
    exact head i kc ks ci i0 i1 (by omega) (by omega) (fun h => absurd (show (L : Int) - 6 < i by omega) h)
  | succ n ih =>
    intro i kc ks ci i0 i1 iL k1 k2 c1 c2
    refine head i kc ks ci i0 i1 (by omega) (by omega) (fun h => ?_)
    refine zs_aload_nS (pc := 33) (k := 0) (i := 0) C (by decide +kernel) rfl rfl ?_
    refine zs_iload (pc := 34) (i := 4) C (by decide +kernel) rfl ?_
    refine zs_sld (pc := 36) C hX (by omega) (by decide +kernel) ?_
    refine zs_bipush (pc := 37) (n := 63) (x := 63) C (by decide +kernel) (by decide +kernel) ?_
    refine zs_iand (pc := 39) C (by decide +kernel) ?_
    refine law_sw C hX hl (by omega) ⟨show kc + 8 ≤ 601024 by omega, show ks + 48 ≤ 7293034 by omega⟩ c1 (by omega) (fun kc' ks' a1 a2 => ?_)
    refine zs_iinc (pc := 3062) (i := 4) (n := 6) (x := i) (y := i + 6) (ls' := [(4, sI (i + 6)), (0, sS), (1, sR 0), (2, sR 287), (3, sR 312)]) C (by decide +kernel) rfl (w32_id (by omega) (by omega)) (Nat.le_of_ble_eq_true rfl) rfl ?_
    refine zs_goto (pc := 3065) (off := (-3042)) (tgt := 23) C (by decide +kernel) (by decide) ?_
    exact zs_sub (ls' := [(0, sS), (1, sR 0), (2, sR 287), (3, sR 312), (4, sI (i + 6))]) ⟨rfl, rfl, rfl, rfl, rfl, trivial⟩ (ih (i + 6) kc' ks' (ci + 100) (by omega) (by omega) (by omega) (by omega) (by omega) (by omega) (by omega))

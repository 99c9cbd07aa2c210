/-! ===== the law: its cases ===== -/
set_option maxRecDepth 20000 in
theorem lc_0 {p : Program} {l : Launch} {e : Env} {s : State} {m : MethodId} {args : Array Value} {below : List Frame} {meth : Method} {c : Code} {g : GC} {L : Nat} {xs : Nat → Int32} {i : Int} {kc ks : Nat} {Q : State → Prop} {PK : Mem → Option Unit} (C : Bd g RL code 8 p s m args meth c) (hX : ScrX g L xs s) (hl : l.stackTraces = false) (hi : 0 ≤ i ∧ i + 6 ≤ (L : Int)) (hk : kc + 8 ≤ room_1.cells ∧ ks + 48 ≤ room_1.slots)
    (K : ∀ kc' ks', kc' ≤ kc + 8 → ks' ≤ ks + 48 → Sim p l e room_1 s m args below meth c g 8 (fun (_ : Unit) _ => Q) kc' ks' 3062 [(0, sS), (1, sR 0), (2, sR 287), (3, sR 312), (4, sI i)] [] PK) : Sim p l e room_1 s m args below meth c g 8 (fun (_ : Unit) _ => Q) kc ks 232 [(0, sS), (1, sR 0), (2, sR 287), (3, sR 312), (4, sI i)] [] (P0 (fun mm => fX11_feed (ar xs i 1) (ar xs i 2) (ar xs i 3) (ar xs i 4) (ar xs i 5) mm) (fun mm => fX12_feed (ar xs i 1) (ar xs i 2) (ar xs i 3) (ar xs i 4) (ar xs i 5) mm) PK) := by
  obtain ⟨hk1, hk2⟩ := hk
  unfold P0
  refine zs_aload_n (pc := 232) (k := 1) (i := 1) C (by decide +kernel) rfl rfl ?_
  refine zl_arg (pc := 233) (j := 1) (ls := [(0, sS), (1, sR 0), (2, sR 287), (3, sR 312), (4, sI i)]) C hX hi (by decide) rfl rfl (by decide +kernel) (by decide +kernel) (by decide +kernel) (by decide +kernel) (by decide +kernel) (by decide +kernel) ?_
  refine zl_arg (pc := 239) (j := 2) (ls := [(0, sS), (1, sR 0), (2, sR 287), (3, sR 312), (4, sI i)]) C hX hi (by decide) rfl rfl (by decide +kernel) (by decide +kernel) (by decide +kernel) (by decide +kernel) (by decide +kernel) (by decide +kernel) ?_
  refine zl_arg (pc := 245) (j := 3) (ls := [(0, sS), (1, sR 0), (2, sR 287), (3, sR 312), (4, sI i)]) C hX hi (by decide) rfl rfl (by decide +kernel) (by decide +kernel) (by decide +kernel) (by decide +kernel) (by decide +kernel) (by decide +kernel) ?_
  refine zl_arg (pc := 251) (j := 4) (ls := [(0, sS), (1, sR 0), (2, sR 287), (3, sR 312), (4, sI i)]) C hX hi (by decide) rfl rfl (by decide +kernel) (by decide +kernel) (by decide +kernel) (by decide +kernel) (by decide +kernel) (by decide +kernel) ?_
  refine zl_arg (pc := 257) (j := 5) (ls := [(0, sS), (1, sR 0), (2, sR 287), (3, sR 312), (4, sI i)]) C hX hi (by decide) rfl rfl (by decide +kernel) (by decide +kernel) (by decide +kernel) (by decide +kernel) (by decide +kernel) (by decide +kernel) ?_
  refine zs_cvWi (pc := 263) (As := [sI (ar xs i 1), sI (ar xs i 2), sI (ar xs i 3), sI (ar xs i 4), sI (ar xs i 5)]) (st := []) C (fun _ _ _ => rfl) rfl (c_X11_feed l g (ar xs i 1) (ar xs i 2) (ar xs i 3) (ar xs i 4) (ar xs i 5)) ml_RL_145 rfl rfl rfl rfl (Nat.le_of_ble_eq_true rfl) ⟨Nat.le_of_ble_eq_true rfl, Nat.le_of_ble_eq_true rfl⟩ (by constructor <;> simp only [rmd] <;> omega) (by decide +kernel) (fun v1 => ?_)
  refine zs_aload_n (pc := 266) (k := 2) (i := 2) C (by decide +kernel) rfl rfl ?_
  refine zl_arg (pc := 267) (j := 1) (ls := [(0, sS), (1, sR 0), (2, sR 287), (3, sR 312), (4, sI i)]) C hX hi (by decide) rfl rfl (by decide +kernel) (by decide +kernel) (by decide +kernel) (by decide +kernel) (by decide +kernel) (by decide +kernel) ?_
  refine zl_arg (pc := 273) (j := 2) (ls := [(0, sS), (1, sR 0), (2, sR 287), (3, sR 312), (4, sI i)]) C hX hi (by decide) rfl rfl (by decide +kernel) (by decide +kernel) (by decide +kernel) (by decide +kernel) (by decide +kernel) (by decide +kernel) ?_
  refine zl_arg (pc := 279) (j := 3) (ls := [(0, sS), (1, sR 0), (2, sR 287), (3, sR 312), (4, sI i)]) C hX hi (by decide) rfl rfl (by decide +kernel) (by decide +kernel) (by decide +kernel) (by decide +kernel) (by decide +kernel) (by decide +kernel) ?_
  refine zl_arg (pc := 285) (j := 4) (ls := [(0, sS), (1, sR 0), (2, sR 287), (3, sR 312), (4, sI i)]) C hX hi (by decide) rfl rfl (by decide +kernel) (by decide +kernel) (by decide +kernel) (by decide +kernel) (by decide +kernel) (by decide +kernel) ?_
  refine zl_arg (pc := 291) (j := 5) (ls := [(0, sS), (1, sR 0), (2, sR 287), (3, sR 312), (4, sI i)]) C hX hi (by decide) rfl rfl (by decide +kernel) (by decide +kernel) (by decide +kernel) (by decide +kernel) (by decide +kernel) (by decide +kernel) ?_
  refine zs_cvWi (pc := 297) (As := [sI (ar xs i 1), sI (ar xs i 2), sI (ar xs i 3), sI (ar xs i 4), sI (ar xs i 5)]) (st := [sI v1]) C (fun _ _ _ => rfl) rfl (c_X12_feed l g (ar xs i 1) (ar xs i 2) (ar xs i 3) (ar xs i 4) (ar xs i 5)) ml_RL_149 rfl rfl rfl rfl (Nat.le_of_ble_eq_true rfl) ⟨Nat.le_of_ble_eq_true rfl, Nat.le_of_ble_eq_true rfl⟩ (by constructor <;> simp only [rmd] <;> omega) (by decide +kernel) (fun v2 => ?_)
  refine zs_icmp_eq (pc := 300) (off := 2762) (tgt := 3062) C (by decide +kernel) (by decide) ?_ zs_none
  exact zs_sub (ls' := [(0, sS), (1, sR 0), (2, sR 287), (3, sR 312), (4, sI i)]) ⟨rfl, rfl, rfl, rfl, rfl, trivial⟩ (K _ _ (by simp only [rmd]; omega) (by simp only [rmd]; omega))

set_option maxRecDepth 20000 in
theorem lc_1 {p : Program} {l : Launch} {e : Env} {s : State} {m : MethodId} {args : Array Value} {below : List Frame} {meth : Method} {c : Code} {g : GC} {L : Nat} {xs : Nat → Int32} {i : Int} {kc ks : Nat} {Q : State → Prop} {PK : Mem → Option Unit} (C : Bd g RL code 8 p s m args meth c) (hX : ScrX g L xs s) (hl : l.stackTraces = false) (hi : 0 ≤ i ∧ i + 6 ≤ (L : Int)) (hk : kc + 8 ≤ room_1.cells ∧ ks + 48 ≤ room_1.slots)
    (K : ∀ kc' ks', kc' ≤ kc + 8 → ks' ≤ ks + 48 → Sim p l e room_1 s m args below meth c g 8 (fun (_ : Unit) _ => Q) kc' ks' 3062 [(0, sS), (1, sR 0), (2, sR 287), (3, sR 312), (4, sI i)] [] PK) : Sim p l e room_1 s m args below meth c g 8 (fun (_ : Unit) _ => Q) kc ks 305 [(0, sS), (1, sR 0), (2, sR 287), (3, sR 312), (4, sI i)] [] (PX (fun mm => fL_island (ar xs i 1) mm) (fun mm => fX12_island (ar xs i 1) mm) PK) := by
  obtain ⟨hk1, hk2⟩ := hk
  unfold PX
  refine zs_aload_n (pc := 305) (k := 1) (i := 1) C (by decide +kernel) rfl rfl ?_
  refine zl_arg (pc := 306) (j := 1) (ls := [(0, sS), (1, sR 0), (2, sR 287), (3, sR 312), (4, sI i)]) C hX hi (by decide) rfl rfl (by decide +kernel) (by decide +kernel) (by decide +kernel) (by decide +kernel) (by decide +kernel) (by decide +kernel) ?_
  refine zs_aload_n (pc := 312) (k := 3) (i := 3) C (by decide +kernel) rfl rfl ?_
  refine zs_csX (pc := 313) (As := [sR 0, sI (ar xs i 1), sR 312]) (st := []) C (fun _ _ _ => rfl) rfl (c_L_island l g hl (ar xs i 1)) mx_150 rfl rfl (Nat.le_of_ble_eq_true rfl) ⟨Nat.le_of_ble_eq_true rfl, Nat.le_of_ble_eq_true rfl⟩ (by constructor <;> simp only [rmd] <;> omega) (by decide +kernel) (fun k1 => ?_)
  refine zs_istore (pc := 316) (i := 5) (ls' := [(5, sI k1), (0, sS), (1, sR 0), (2, sR 287), (3, sR 312), (4, sI i)]) C (by decide +kernel) (Nat.le_of_ble_eq_true rfl) rfl ?_
  refine zs_aload_n (pc := 318) (k := 2) (i := 2) C (by decide +kernel) rfl rfl ?_
  refine zl_arg (pc := 319) (j := 1) (ls := [(5, sI k1), (0, sS), (1, sR 0), (2, sR 287), (3, sR 312), (4, sI i)]) C hX hi (by decide) rfl rfl (by decide +kernel) (by decide +kernel) (by decide +kernel) (by decide +kernel) (by decide +kernel) (by decide +kernel) ?_
  refine zs_cvWi (pc := 325) (As := [sI (ar xs i 1)]) (st := []) C (fun _ _ _ => rfl) rfl (c_X12_island l g (ar xs i 1)) ml_RL_155 rfl rfl rfl rfl (Nat.le_of_ble_eq_true rfl) ⟨Nat.le_of_ble_eq_true rfl, Nat.le_of_ble_eq_true rfl⟩ (by constructor <;> simp only [rmd] <;> omega) (by decide +kernel) (fun v2 => ?_)
  refine zs_istore (pc := 328) (i := 6) (ls' := [(6, sI v2), (5, sI k1), (0, sS), (1, sR 0), (2, sR 287), (3, sR 312), (4, sI i)]) C (by decide +kernel) (Nat.le_of_ble_eq_true rfl) rfl ?_
  refine zs_aload_n (pc := 330) (k := 2) (i := 2) C (by decide +kernel) rfl rfl ?_
  refine zs_cvRi (pc := 331) (As := []) (st := []) C rfl (c_X12_thrown l g ) ml_RL_156 rfl rfl rfl rfl (Nat.le_of_ble_eq_true rfl) ⟨Nat.le_of_ble_eq_true rfl, Nat.le_of_ble_eq_true rfl⟩ (by constructor <;> simp only [rmd] <;> omega) (by decide +kernel) (fun t3 => ?_)
  refine zs_iload (pc := 334) (i := 5) C (by decide +kernel) rfl ?_
  refine zs_icmp_eq (pc := 336) (off := 5) (tgt := 341) C (by decide +kernel) (by decide) ?_ zs_none
  refine zs_iload (pc := 341) (i := 5) C (by decide +kernel) rfl ?_
  refine zs_if_ne (pc := 343) (off := 15) (tgt := 358) C (by decide +kernel) (by decide) ?_ ?_
  · refine zs_goto (pc := 358) (off := 2704) (tgt := 3062) C (by decide +kernel) (by decide) ?_
    exact zs_sub (ls' := [(0, sS), (1, sR 0), (2, sR 287), (3, sR 312), (4, sI i)]) ⟨rfl, rfl, rfl, rfl, rfl, trivial⟩ (K _ _ (by simp only [rmd]; omega) (by simp only [rmd]; omega))
  · refine zs_aload_n (pc := 346) (k := 3) (i := 3) C (by decide +kernel) rfl rfl ?_
    refine zs_iconst (pc := 347) (n := 0) (x := 0) C (by decide +kernel) (by decide +kernel) ?_
    refine zs_laldk (pc := 348) (o := 312) (n := 1) (i := 0) C ⟨by decide, by decide⟩ (by decide +kernel) rfl (fun z4 => ?_)
    refine zs_iload (pc := 349) (i := 6) C (by decide +kernel) rfl ?_
    refine zs_i2l (pc := 351) C (by decide +kernel) ?_
    refine zs_lcmp_eq (pc := 352) (off := 5) (tgt := 358) C (by decide +kernel) (by decide +kernel) (by decide) ?_ zs_none
    refine zs_goto (pc := 358) (off := 2704) (tgt := 3062) C (by decide +kernel) (by decide) ?_
    exact zs_sub (ls' := [(0, sS), (1, sR 0), (2, sR 287), (3, sR 312), (4, sI i)]) ⟨rfl, rfl, rfl, rfl, rfl, trivial⟩ (K _ _ (by simp only [rmd]; omega) (by simp only [rmd]; omega))

set_option maxRecDepth 20000 in
theorem lc_2 {p : Program} {l : Launch} {e : Env} {s : State} {m : MethodId} {args : Array Value} {below : List Frame} {meth : Method} {c : Code} {g : GC} {L : Nat} {xs : Nat → Int32} {i : Int} {kc ks : Nat} {Q : State → Prop} {PK : Mem → Option Unit} (C : Bd g RL code 8 p s m args meth c) (hX : ScrX g L xs s) (hl : l.stackTraces = false) (hi : 0 ≤ i ∧ i + 6 ≤ (L : Int)) (hk : kc + 8 ≤ room_1.cells ∧ ks + 48 ≤ room_1.slots)
    (K : ∀ kc' ks', kc' ≤ kc + 8 → ks' ≤ ks + 48 → Sim p l e room_1 s m args below meth c g 8 (fun (_ : Unit) _ => Q) kc' ks' 3062 [(0, sS), (1, sR 0), (2, sR 287), (3, sR 312), (4, sI i)] [] PK) : Sim p l e room_1 s m args below meth c g 8 (fun (_ : Unit) _ => Q) kc ks 361 [(0, sS), (1, sR 0), (2, sR 287), (3, sR 312), (4, sI i)] [] (PR (fun mm => fX11_fault (ar xs i 1) mm) (fun mm => fX12_fault (ar xs i 1) mm) PK) := by
  obtain ⟨hk1, hk2⟩ := hk
  unfold PR
  refine zs_aload_n (pc := 361) (k := 1) (i := 1) C (by decide +kernel) rfl rfl ?_
  refine zl_arg (pc := 362) (j := 1) (ls := [(0, sS), (1, sR 0), (2, sR 287), (3, sR 312), (4, sI i)]) C hX hi (by decide) rfl rfl (by decide +kernel) (by decide +kernel) (by decide +kernel) (by decide +kernel) (by decide +kernel) (by decide +kernel) ?_
  refine zs_cvRi (pc := 368) (As := [sI (ar xs i 1)]) (st := []) C rfl (c_X11_fault l g (ar xs i 1)) ml_RL_160 rfl rfl rfl rfl (Nat.le_of_ble_eq_true rfl) ⟨Nat.le_of_ble_eq_true rfl, Nat.le_of_ble_eq_true rfl⟩ (by constructor <;> simp only [rmd] <;> omega) (by decide +kernel) (fun v1 => ?_)
  refine zs_aload_n (pc := 371) (k := 2) (i := 2) C (by decide +kernel) rfl rfl ?_
  refine zl_arg (pc := 372) (j := 1) (ls := [(0, sS), (1, sR 0), (2, sR 287), (3, sR 312), (4, sI i)]) C hX hi (by decide) rfl rfl (by decide +kernel) (by decide +kernel) (by decide +kernel) (by decide +kernel) (by decide +kernel) (by decide +kernel) ?_
  refine zs_cvWi (pc := 378) (As := [sI (ar xs i 1)]) (st := [sI v1]) C (fun _ _ _ => rfl) rfl (c_X12_fault l g (ar xs i 1)) ml_RL_163 rfl rfl rfl rfl (Nat.le_of_ble_eq_true rfl) ⟨Nat.le_of_ble_eq_true rfl, Nat.le_of_ble_eq_true rfl⟩ (by constructor <;> simp only [rmd] <;> omega) (by decide +kernel) (fun v2 => ?_)
  refine zs_icmp_eq (pc := 381) (off := 2681) (tgt := 3062) C (by decide +kernel) (by decide) ?_ zs_none
  exact zs_sub (ls' := [(0, sS), (1, sR 0), (2, sR 287), (3, sR 312), (4, sI i)]) ⟨rfl, rfl, rfl, rfl, rfl, trivial⟩ (K _ _ (by simp only [rmd]; omega) (by simp only [rmd]; omega))

set_option maxRecDepth 20000 in
theorem lc_3 {p : Program} {l : Launch} {e : Env} {s : State} {m : MethodId} {args : Array Value} {below : List Frame} {meth : Method} {c : Code} {g : GC} {L : Nat} {xs : Nat → Int32} {i : Int} {kc ks : Nat} {Q : State → Prop} {PK : Mem → Option Unit} (C : Bd g RL code 8 p s m args meth c) (hX : ScrX g L xs s) (hl : l.stackTraces = false) (hi : 0 ≤ i ∧ i + 6 ≤ (L : Int)) (hk : kc + 8 ≤ room_1.cells ∧ ks + 48 ≤ room_1.slots)
    (K : ∀ kc' ks', kc' ≤ kc + 8 → ks' ≤ ks + 48 → Sim p l e room_1 s m args below meth c g 8 (fun (_ : Unit) _ => Q) kc' ks' 3062 [(0, sS), (1, sR 0), (2, sR 287), (3, sR 312), (4, sI i)] [] PK) : Sim p l e room_1 s m args below meth c g 8 (fun (_ : Unit) _ => Q) kc ks 386 [(0, sS), (1, sR 0), (2, sR 287), (3, sR 312), (4, sI i)] [] (PX (fun mm => fL_place (ar xs i 1) mm) (fun mm => fX12_place (ar xs i 1) mm) PK) := by
  obtain ⟨hk1, hk2⟩ := hk
  unfold PX
  refine zs_aload_n (pc := 386) (k := 1) (i := 1) C (by decide +kernel) rfl rfl ?_
  refine zl_arg (pc := 387) (j := 1) (ls := [(0, sS), (1, sR 0), (2, sR 287), (3, sR 312), (4, sI i)]) C hX hi (by decide) rfl rfl (by decide +kernel) (by decide +kernel) (by decide +kernel) (by decide +kernel) (by decide +kernel) (by decide +kernel) ?_
  refine zs_aload_n (pc := 393) (k := 3) (i := 3) C (by decide +kernel) rfl rfl ?_
  refine zs_csX (pc := 394) (As := [sR 0, sI (ar xs i 1), sR 312]) (st := []) C (fun _ _ _ => rfl) rfl (c_L_place l g hl (ar xs i 1)) mx_164 rfl rfl (Nat.le_of_ble_eq_true rfl) ⟨Nat.le_of_ble_eq_true rfl, Nat.le_of_ble_eq_true rfl⟩ (by constructor <;> simp only [rmd] <;> omega) (by decide +kernel) (fun k1 => ?_)
  refine zs_istore (pc := 397) (i := 5) (ls' := [(5, sI k1), (0, sS), (1, sR 0), (2, sR 287), (3, sR 312), (4, sI i)]) C (by decide +kernel) (Nat.le_of_ble_eq_true rfl) rfl ?_
  refine zs_aload_n (pc := 399) (k := 2) (i := 2) C (by decide +kernel) rfl rfl ?_
  refine zl_arg (pc := 400) (j := 1) (ls := [(5, sI k1), (0, sS), (1, sR 0), (2, sR 287), (3, sR 312), (4, sI i)]) C hX hi (by decide) rfl rfl (by decide +kernel) (by decide +kernel) (by decide +kernel) (by decide +kernel) (by decide +kernel) (by decide +kernel) ?_
  refine zs_cvWi (pc := 406) (As := [sI (ar xs i 1)]) (st := []) C (fun _ _ _ => rfl) rfl (c_X12_place l g (ar xs i 1)) ml_RL_166 rfl rfl rfl rfl (Nat.le_of_ble_eq_true rfl) ⟨Nat.le_of_ble_eq_true rfl, Nat.le_of_ble_eq_true rfl⟩ (by constructor <;> simp only [rmd] <;> omega) (by decide +kernel) (fun v2 => ?_)
  refine zs_istore (pc := 409) (i := 6) (ls' := [(6, sI v2), (5, sI k1), (0, sS), (1, sR 0), (2, sR 287), (3, sR 312), (4, sI i)]) C (by decide +kernel) (Nat.le_of_ble_eq_true rfl) rfl ?_
  refine zs_aload_n (pc := 411) (k := 2) (i := 2) C (by decide +kernel) rfl rfl ?_
  refine zs_cvRi (pc := 412) (As := []) (st := []) C rfl (c_X12_thrown l g ) ml_RL_156 rfl rfl rfl rfl (Nat.le_of_ble_eq_true rfl) ⟨Nat.le_of_ble_eq_true rfl, Nat.le_of_ble_eq_true rfl⟩ (by constructor <;> simp only [rmd] <;> omega) (by decide +kernel) (fun t3 => ?_)
  refine zs_iload (pc := 415) (i := 5) C (by decide +kernel) rfl ?_
  refine zs_icmp_eq (pc := 417) (off := 5) (tgt := 422) C (by decide +kernel) (by decide) ?_ zs_none
  refine zs_iload (pc := 422) (i := 5) C (by decide +kernel) rfl ?_
  refine zs_if_ne (pc := 424) (off := 15) (tgt := 439) C (by decide +kernel) (by decide) ?_ ?_
  · refine zs_goto (pc := 439) (off := 2623) (tgt := 3062) C (by decide +kernel) (by decide) ?_
    exact zs_sub (ls' := [(0, sS), (1, sR 0), (2, sR 287), (3, sR 312), (4, sI i)]) ⟨rfl, rfl, rfl, rfl, rfl, trivial⟩ (K _ _ (by simp only [rmd]; omega) (by simp only [rmd]; omega))
  · refine zs_aload_n (pc := 427) (k := 3) (i := 3) C (by decide +kernel) rfl rfl ?_
    refine zs_iconst (pc := 428) (n := 0) (x := 0) C (by decide +kernel) (by decide +kernel) ?_
    refine zs_laldk (pc := 429) (o := 312) (n := 1) (i := 0) C ⟨by decide, by decide⟩ (by decide +kernel) rfl (fun z4 => ?_)
    refine zs_iload (pc := 430) (i := 6) C (by decide +kernel) rfl ?_
    refine zs_i2l (pc := 432) C (by decide +kernel) ?_
    refine zs_lcmp_eq (pc := 433) (off := 5) (tgt := 439) C (by decide +kernel) (by decide +kernel) (by decide) ?_ zs_none
    refine zs_goto (pc := 439) (off := 2623) (tgt := 3062) C (by decide +kernel) (by decide) ?_
    exact zs_sub (ls' := [(0, sS), (1, sR 0), (2, sR 287), (3, sR 312), (4, sI i)]) ⟨rfl, rfl, rfl, rfl, rfl, trivial⟩ (K _ _ (by simp only [rmd]; omega) (by simp only [rmd]; omega))

set_option maxRecDepth 20000 in
theorem lc_4 {p : Program} {l : Launch} {e : Env} {s : State} {m : MethodId} {args : Array Value} {below : List Frame} {meth : Method} {c : Code} {g : GC} {L : Nat} {xs : Nat → Int32} {i : Int} {kc ks : Nat} {Q : State → Prop} {PK : Mem → Option Unit} (C : Bd g RL code 8 p s m args meth c) (hX : ScrX g L xs s) (hl : l.stackTraces = false) (hi : 0 ≤ i ∧ i + 6 ≤ (L : Int)) (hk : kc + 8 ≤ room_1.cells ∧ ks + 48 ≤ room_1.slots)
    (K : ∀ kc' ks', kc' ≤ kc + 8 → ks' ≤ ks + 48 → Sim p l e room_1 s m args below meth c g 8 (fun (_ : Unit) _ => Q) kc' ks' 3062 [(0, sS), (1, sR 0), (2, sR 287), (3, sR 312), (4, sI i)] [] PK) : Sim p l e room_1 s m args below meth c g 8 (fun (_ : Unit) _ => Q) kc ks 442 [(0, sS), (1, sR 0), (2, sR 287), (3, sR 312), (4, sI i)] [] (PX (fun mm => fL_pair (ar xs i 1) (ar xs i 2) mm) (fun mm => fX12_pair (ar xs i 1) (ar xs i 2) mm) PK) := by
  obtain ⟨hk1, hk2⟩ := hk
  unfold PX
  refine zs_aload_n (pc := 442) (k := 1) (i := 1) C (by decide +kernel) rfl rfl ?_
  refine zl_arg (pc := 443) (j := 1) (ls := [(0, sS), (1, sR 0), (2, sR 287), (3, sR 312), (4, sI i)]) C hX hi (by decide) rfl rfl (by decide +kernel) (by decide +kernel) (by decide +kernel) (by decide +kernel) (by decide +kernel) (by decide +kernel) ?_
  refine zl_arg (pc := 449) (j := 2) (ls := [(0, sS), (1, sR 0), (2, sR 287), (3, sR 312), (4, sI i)]) C hX hi (by decide) rfl rfl (by decide +kernel) (by decide +kernel) (by decide +kernel) (by decide +kernel) (by decide +kernel) (by decide +kernel) ?_
  refine zs_aload_n (pc := 455) (k := 3) (i := 3) C (by decide +kernel) rfl rfl ?_
  refine zs_csX (pc := 456) (As := [sR 0, sI (ar xs i 1), sI (ar xs i 2), sR 312]) (st := []) C (fun _ _ _ => rfl) rfl (c_L_pair l g hl (ar xs i 1) (ar xs i 2)) mx_167 rfl rfl (Nat.le_of_ble_eq_true rfl) ⟨Nat.le_of_ble_eq_true rfl, Nat.le_of_ble_eq_true rfl⟩ (by constructor <;> simp only [rmd] <;> omega) (by decide +kernel) (fun k1 => ?_)
  refine zs_istore (pc := 459) (i := 5) (ls' := [(5, sI k1), (0, sS), (1, sR 0), (2, sR 287), (3, sR 312), (4, sI i)]) C (by decide +kernel) (Nat.le_of_ble_eq_true rfl) rfl ?_
  refine zs_aload_n (pc := 461) (k := 2) (i := 2) C (by decide +kernel) rfl rfl ?_
  refine zl_arg (pc := 462) (j := 1) (ls := [(5, sI k1), (0, sS), (1, sR 0), (2, sR 287), (3, sR 312), (4, sI i)]) C hX hi (by decide) rfl rfl (by decide +kernel) (by decide +kernel) (by decide +kernel) (by decide +kernel) (by decide +kernel) (by decide +kernel) ?_
  refine zl_arg (pc := 468) (j := 2) (ls := [(5, sI k1), (0, sS), (1, sR 0), (2, sR 287), (3, sR 312), (4, sI i)]) C hX hi (by decide) rfl rfl (by decide +kernel) (by decide +kernel) (by decide +kernel) (by decide +kernel) (by decide +kernel) (by decide +kernel) ?_
  refine zs_cvWi (pc := 474) (As := [sI (ar xs i 1), sI (ar xs i 2)]) (st := []) C (fun _ _ _ => rfl) rfl (c_X12_pair l g (ar xs i 1) (ar xs i 2)) ml_RL_170 rfl rfl rfl rfl (Nat.le_of_ble_eq_true rfl) ⟨Nat.le_of_ble_eq_true rfl, Nat.le_of_ble_eq_true rfl⟩ (by constructor <;> simp only [rmd] <;> omega) (by decide +kernel) (fun v2 => ?_)
  refine zs_istore (pc := 477) (i := 6) (ls' := [(6, sI v2), (5, sI k1), (0, sS), (1, sR 0), (2, sR 287), (3, sR 312), (4, sI i)]) C (by decide +kernel) (Nat.le_of_ble_eq_true rfl) rfl ?_
  refine zs_aload_n (pc := 479) (k := 2) (i := 2) C (by decide +kernel) rfl rfl ?_
  refine zs_cvRi (pc := 480) (As := []) (st := []) C rfl (c_X12_thrown l g ) ml_RL_156 rfl rfl rfl rfl (Nat.le_of_ble_eq_true rfl) ⟨Nat.le_of_ble_eq_true rfl, Nat.le_of_ble_eq_true rfl⟩ (by constructor <;> simp only [rmd] <;> omega) (by decide +kernel) (fun t3 => ?_)
  refine zs_iload (pc := 483) (i := 5) C (by decide +kernel) rfl ?_
  refine zs_icmp_eq (pc := 485) (off := 5) (tgt := 490) C (by decide +kernel) (by decide) ?_ zs_none
  refine zs_iload (pc := 490) (i := 5) C (by decide +kernel) rfl ?_
  refine zs_if_ne (pc := 492) (off := 15) (tgt := 507) C (by decide +kernel) (by decide) ?_ ?_
  · refine zs_goto (pc := 507) (off := 2555) (tgt := 3062) C (by decide +kernel) (by decide) ?_
    exact zs_sub (ls' := [(0, sS), (1, sR 0), (2, sR 287), (3, sR 312), (4, sI i)]) ⟨rfl, rfl, rfl, rfl, rfl, trivial⟩ (K _ _ (by simp only [rmd]; omega) (by simp only [rmd]; omega))
  · refine zs_aload_n (pc := 495) (k := 3) (i := 3) C (by decide +kernel) rfl rfl ?_
    refine zs_iconst (pc := 496) (n := 0) (x := 0) C (by decide +kernel) (by decide +kernel) ?_
    refine zs_laldk (pc := 497) (o := 312) (n := 1) (i := 0) C ⟨by decide, by decide⟩ (by decide +kernel) rfl (fun z4 => ?_)
    refine zs_iload (pc := 498) (i := 6) C (by decide +kernel) rfl ?_
    refine zs_i2l (pc := 500) C (by decide +kernel) ?_
    refine zs_lcmp_eq (pc := 501) (off := 5) (tgt := 507) C (by decide +kernel) (by decide +kernel) (by decide) ?_ zs_none
    refine zs_goto (pc := 507) (off := 2555) (tgt := 3062) C (by decide +kernel) (by decide) ?_
    exact zs_sub (ls' := [(0, sS), (1, sR 0), (2, sR 287), (3, sR 312), (4, sI i)]) ⟨rfl, rfl, rfl, rfl, rfl, trivial⟩ (K _ _ (by simp only [rmd]; omega) (by simp only [rmd]; omega))

set_option maxRecDepth 20000 in
theorem lc_5 {p : Program} {l : Launch} {e : Env} {s : State} {m : MethodId} {args : Array Value} {below : List Frame} {meth : Method} {c : Code} {g : GC} {L : Nat} {xs : Nat → Int32} {i : Int} {kc ks : Nat} {Q : State → Prop} {PK : Mem → Option Unit} (C : Bd g RL code 8 p s m args meth c) (hX : ScrX g L xs s) (hl : l.stackTraces = false) (hi : 0 ≤ i ∧ i + 6 ≤ (L : Int)) (hk : kc + 8 ≤ room_1.cells ∧ ks + 48 ≤ room_1.slots)
    (K : ∀ kc' ks', kc' ≤ kc + 8 → ks' ≤ ks + 48 → Sim p l e room_1 s m args below meth c g 8 (fun (_ : Unit) _ => Q) kc' ks' 3062 [(0, sS), (1, sR 0), (2, sR 287), (3, sR 312), (4, sI i)] [] PK) : Sim p l e room_1 s m args below meth c g 8 (fun (_ : Unit) _ => Q) kc ks 510 [(0, sS), (1, sR 0), (2, sR 287), (3, sR 312), (4, sI i)] [] (PX (fun mm => fL_house (ar xs i 1) mm) (fun mm => fX12_house (ar xs i 1) mm) PK) := by
  obtain ⟨hk1, hk2⟩ := hk
  unfold PX
  refine zs_aload_n (pc := 510) (k := 1) (i := 1) C (by decide +kernel) rfl rfl ?_
  refine zl_arg (pc := 511) (j := 1) (ls := [(0, sS), (1, sR 0), (2, sR 287), (3, sR 312), (4, sI i)]) C hX hi (by decide) rfl rfl (by decide +kernel) (by decide +kernel) (by decide +kernel) (by decide +kernel) (by decide +kernel) (by decide +kernel) ?_
  refine zs_aload_n (pc := 517) (k := 3) (i := 3) C (by decide +kernel) rfl rfl ?_
  refine zs_csX (pc := 518) (As := [sR 0, sI (ar xs i 1), sR 312]) (st := []) C (fun _ _ _ => rfl) rfl (c_L_house l g hl (ar xs i 1)) mx_171 rfl rfl (Nat.le_of_ble_eq_true rfl) ⟨Nat.le_of_ble_eq_true rfl, Nat.le_of_ble_eq_true rfl⟩ (by constructor <;> simp only [rmd] <;> omega) (by decide +kernel) (fun k1 => ?_)
  refine zs_istore (pc := 521) (i := 5) (ls' := [(5, sI k1), (0, sS), (1, sR 0), (2, sR 287), (3, sR 312), (4, sI i)]) C (by decide +kernel) (Nat.le_of_ble_eq_true rfl) rfl ?_
  refine zs_aload_n (pc := 523) (k := 2) (i := 2) C (by decide +kernel) rfl rfl ?_
  refine zl_arg (pc := 524) (j := 1) (ls := [(5, sI k1), (0, sS), (1, sR 0), (2, sR 287), (3, sR 312), (4, sI i)]) C hX hi (by decide) rfl rfl (by decide +kernel) (by decide +kernel) (by decide +kernel) (by decide +kernel) (by decide +kernel) (by decide +kernel) ?_
  refine zs_cvWi (pc := 530) (As := [sI (ar xs i 1)]) (st := []) C (fun _ _ _ => rfl) rfl (c_X12_house l g (ar xs i 1)) ml_RL_173 rfl rfl rfl rfl (Nat.le_of_ble_eq_true rfl) ⟨Nat.le_of_ble_eq_true rfl, Nat.le_of_ble_eq_true rfl⟩ (by constructor <;> simp only [rmd] <;> omega) (by decide +kernel) (fun v2 => ?_)
  refine zs_istore (pc := 533) (i := 6) (ls' := [(6, sI v2), (5, sI k1), (0, sS), (1, sR 0), (2, sR 287), (3, sR 312), (4, sI i)]) C (by decide +kernel) (Nat.le_of_ble_eq_true rfl) rfl ?_
  refine zs_aload_n (pc := 535) (k := 2) (i := 2) C (by decide +kernel) rfl rfl ?_
  refine zs_cvRi (pc := 536) (As := []) (st := []) C rfl (c_X12_thrown l g ) ml_RL_156 rfl rfl rfl rfl (Nat.le_of_ble_eq_true rfl) ⟨Nat.le_of_ble_eq_true rfl, Nat.le_of_ble_eq_true rfl⟩ (by constructor <;> simp only [rmd] <;> omega) (by decide +kernel) (fun t3 => ?_)
  refine zs_iload (pc := 539) (i := 5) C (by decide +kernel) rfl ?_
  refine zs_icmp_eq (pc := 541) (off := 5) (tgt := 546) C (by decide +kernel) (by decide) ?_ zs_none
  refine zs_iload (pc := 546) (i := 5) C (by decide +kernel) rfl ?_
  refine zs_if_ne (pc := 548) (off := 15) (tgt := 563) C (by decide +kernel) (by decide) ?_ ?_
  · refine zs_goto (pc := 563) (off := 2499) (tgt := 3062) C (by decide +kernel) (by decide) ?_
    exact zs_sub (ls' := [(0, sS), (1, sR 0), (2, sR 287), (3, sR 312), (4, sI i)]) ⟨rfl, rfl, rfl, rfl, rfl, trivial⟩ (K _ _ (by simp only [rmd]; omega) (by simp only [rmd]; omega))
  · refine zs_aload_n (pc := 551) (k := 3) (i := 3) C (by decide +kernel) rfl rfl ?_
    refine zs_iconst (pc := 552) (n := 0) (x := 0) C (by decide +kernel) (by decide +kernel) ?_
    refine zs_laldk (pc := 553) (o := 312) (n := 1) (i := 0) C ⟨by decide, by decide⟩ (by decide +kernel) rfl (fun z4 => ?_)
    refine zs_iload (pc := 554) (i := 6) C (by decide +kernel) rfl ?_
    refine zs_i2l (pc := 556) C (by decide +kernel) ?_
    refine zs_lcmp_eq (pc := 557) (off := 5) (tgt := 563) C (by decide +kernel) (by decide +kernel) (by decide) ?_ zs_none
    refine zs_goto (pc := 563) (off := 2499) (tgt := 3062) C (by decide +kernel) (by decide) ?_
    exact zs_sub (ls' := [(0, sS), (1, sR 0), (2, sR 287), (3, sR 312), (4, sI i)]) ⟨rfl, rfl, rfl, rfl, rfl, trivial⟩ (K _ _ (by simp only [rmd]; omega) (by simp only [rmd]; omega))

set_option maxRecDepth 20000 in
theorem lc_6 {p : Program} {l : Launch} {e : Env} {s : State} {m : MethodId} {args : Array Value} {below : List Frame} {meth : Method} {c : Code} {g : GC} {L : Nat} {xs : Nat → Int32} {i : Int} {kc ks : Nat} {Q : State → Prop} {PK : Mem → Option Unit} (C : Bd g RL code 8 p s m args meth c) (hX : ScrX g L xs s) (hl : l.stackTraces = false) (hi : 0 ≤ i ∧ i + 6 ≤ (L : Int)) (hk : kc + 8 ≤ room_1.cells ∧ ks + 48 ≤ room_1.slots)
    (K : ∀ kc' ks', kc' ≤ kc + 8 → ks' ≤ ks + 48 → Sim p l e room_1 s m args below meth c g 8 (fun (_ : Unit) _ => Q) kc' ks' 3062 [(0, sS), (1, sR 0), (2, sR 287), (3, sR 312), (4, sI i)] [] PK) : Sim p l e room_1 s m args below meth c g 8 (fun (_ : Unit) _ => Q) kc ks 566 [(0, sS), (1, sR 0), (2, sR 287), (3, sR 312), (4, sI i)] [] (PX (fun mm => fL_length (ar xs i 1) (ar xs i 2) mm) (fun mm => fX12_length (ar xs i 1) (ar xs i 2) mm) PK) := by
  obtain ⟨hk1, hk2⟩ := hk
  unfold PX
  refine zs_aload_n (pc := 566) (k := 1) (i := 1) C (by decide +kernel) rfl rfl ?_
  refine zl_arg (pc := 567) (j := 1) (ls := [(0, sS), (1, sR 0), (2, sR 287), (3, sR 312), (4, sI i)]) C hX hi (by decide) rfl rfl (by decide +kernel) (by decide +kernel) (by decide +kernel) (by decide +kernel) (by decide +kernel) (by decide +kernel) ?_
  refine zl_arg (pc := 573) (j := 2) (ls := [(0, sS), (1, sR 0), (2, sR 287), (3, sR 312), (4, sI i)]) C hX hi (by decide) rfl rfl (by decide +kernel) (by decide +kernel) (by decide +kernel) (by decide +kernel) (by decide +kernel) (by decide +kernel) ?_
  refine zs_aload_n (pc := 579) (k := 3) (i := 3) C (by decide +kernel) rfl rfl ?_
  refine zs_csX (pc := 580) (As := [sR 0, sI (ar xs i 1), sI (ar xs i 2), sR 312]) (st := []) C (fun _ _ _ => rfl) rfl (c_L_length l g hl (ar xs i 1) (ar xs i 2)) mx_174 rfl rfl (Nat.le_of_ble_eq_true rfl) ⟨Nat.le_of_ble_eq_true rfl, Nat.le_of_ble_eq_true rfl⟩ (by constructor <;> simp only [rmd] <;> omega) (by decide +kernel) (fun k1 => ?_)
  refine zs_istore (pc := 583) (i := 5) (ls' := [(5, sI k1), (0, sS), (1, sR 0), (2, sR 287), (3, sR 312), (4, sI i)]) C (by decide +kernel) (Nat.le_of_ble_eq_true rfl) rfl ?_
  refine zs_aload_n (pc := 585) (k := 2) (i := 2) C (by decide +kernel) rfl rfl ?_
  refine zl_arg (pc := 586) (j := 1) (ls := [(5, sI k1), (0, sS), (1, sR 0), (2, sR 287), (3, sR 312), (4, sI i)]) C hX hi (by decide) rfl rfl (by decide +kernel) (by decide +kernel) (by decide +kernel) (by decide +kernel) (by decide +kernel) (by decide +kernel) ?_
  refine zl_arg (pc := 592) (j := 2) (ls := [(5, sI k1), (0, sS), (1, sR 0), (2, sR 287), (3, sR 312), (4, sI i)]) C hX hi (by decide) rfl rfl (by decide +kernel) (by decide +kernel) (by decide +kernel) (by decide +kernel) (by decide +kernel) (by decide +kernel) ?_
  refine zs_cvWi (pc := 598) (As := [sI (ar xs i 1), sI (ar xs i 2)]) (st := []) C (fun _ _ _ => rfl) rfl (c_X12_length l g (ar xs i 1) (ar xs i 2)) ml_RL_176 rfl rfl rfl rfl (Nat.le_of_ble_eq_true rfl) ⟨Nat.le_of_ble_eq_true rfl, Nat.le_of_ble_eq_true rfl⟩ (by constructor <;> simp only [rmd] <;> omega) (by decide +kernel) (fun v2 => ?_)
  refine zs_istore (pc := 601) (i := 6) (ls' := [(6, sI v2), (5, sI k1), (0, sS), (1, sR 0), (2, sR 287), (3, sR 312), (4, sI i)]) C (by decide +kernel) (Nat.le_of_ble_eq_true rfl) rfl ?_
  refine zs_aload_n (pc := 603) (k := 2) (i := 2) C (by decide +kernel) rfl rfl ?_
  refine zs_cvRi (pc := 604) (As := []) (st := []) C rfl (c_X12_thrown l g ) ml_RL_156 rfl rfl rfl rfl (Nat.le_of_ble_eq_true rfl) ⟨Nat.le_of_ble_eq_true rfl, Nat.le_of_ble_eq_true rfl⟩ (by constructor <;> simp only [rmd] <;> omega) (by decide +kernel) (fun t3 => ?_)
  refine zs_iload (pc := 607) (i := 5) C (by decide +kernel) rfl ?_
  refine zs_icmp_eq (pc := 609) (off := 5) (tgt := 614) C (by decide +kernel) (by decide) ?_ zs_none
  refine zs_iload (pc := 614) (i := 5) C (by decide +kernel) rfl ?_
  refine zs_if_ne (pc := 616) (off := 15) (tgt := 631) C (by decide +kernel) (by decide) ?_ ?_
  · refine zs_goto (pc := 631) (off := 2431) (tgt := 3062) C (by decide +kernel) (by decide) ?_
    exact zs_sub (ls' := [(0, sS), (1, sR 0), (2, sR 287), (3, sR 312), (4, sI i)]) ⟨rfl, rfl, rfl, rfl, rfl, trivial⟩ (K _ _ (by simp only [rmd]; omega) (by simp only [rmd]; omega))
  · refine zs_aload_n (pc := 619) (k := 3) (i := 3) C (by decide +kernel) rfl rfl ?_
    refine zs_iconst (pc := 620) (n := 0) (x := 0) C (by decide +kernel) (by decide +kernel) ?_
    refine zs_laldk (pc := 621) (o := 312) (n := 1) (i := 0) C ⟨by decide, by decide⟩ (by decide +kernel) rfl (fun z4 => ?_)
    refine zs_iload (pc := 622) (i := 6) C (by decide +kernel) rfl ?_
    refine zs_i2l (pc := 624) C (by decide +kernel) ?_
    refine zs_lcmp_eq (pc := 625) (off := 5) (tgt := 631) C (by decide +kernel) (by decide +kernel) (by decide) ?_ zs_none
    refine zs_goto (pc := 631) (off := 2431) (tgt := 3062) C (by decide +kernel) (by decide) ?_
    exact zs_sub (ls' := [(0, sS), (1, sR 0), (2, sR 287), (3, sR 312), (4, sI i)]) ⟨rfl, rfl, rfl, rfl, rfl, trivial⟩ (K _ _ (by simp only [rmd]; omega) (by simp only [rmd]; omega))

set_option maxRecDepth 20000 in
theorem lc_7 {p : Program} {l : Launch} {e : Env} {s : State} {m : MethodId} {args : Array Value} {below : List Frame} {meth : Method} {c : Code} {g : GC} {L : Nat} {xs : Nat → Int32} {i : Int} {kc ks : Nat} {Q : State → Prop} {PK : Mem → Option Unit} (C : Bd g RL code 8 p s m args meth c) (hX : ScrX g L xs s) (hl : l.stackTraces = false) (hi : 0 ≤ i ∧ i + 6 ≤ (L : Int)) (hk : kc + 8 ≤ room_1.cells ∧ ks + 48 ≤ room_1.slots)
    (K : ∀ kc' ks', kc' ≤ kc + 8 → ks' ≤ ks + 48 → Sim p l e room_1 s m args below meth c g 8 (fun (_ : Unit) _ => Q) kc' ks' 3062 [(0, sS), (1, sR 0), (2, sR 287), (3, sR 312), (4, sI i)] [] PK) : Sim p l e room_1 s m args below meth c g 8 (fun (_ : Unit) _ => Q) kc ks 634 [(0, sS), (1, sR 0), (2, sR 287), (3, sR 312), (4, sI i)] [] (PM (fun mm => fL_may (ar xs i 1) (ar xs i 2) (ar xs i 3) (ar xs i 4) mm) (fun mm => fX12_may (ar xs i 1) (ar xs i 2) (ar xs i 3) (ar xs i 4) mm) PK) := by
  obtain ⟨hk1, hk2⟩ := hk
  unfold PM
  refine zs_aload_n (pc := 634) (k := 1) (i := 1) C (by decide +kernel) rfl rfl ?_
  refine zl_arg (pc := 635) (j := 1) (ls := [(0, sS), (1, sR 0), (2, sR 287), (3, sR 312), (4, sI i)]) C hX hi (by decide) rfl rfl (by decide +kernel) (by decide +kernel) (by decide +kernel) (by decide +kernel) (by decide +kernel) (by decide +kernel) ?_
  refine zl_arg (pc := 641) (j := 2) (ls := [(0, sS), (1, sR 0), (2, sR 287), (3, sR 312), (4, sI i)]) C hX hi (by decide) rfl rfl (by decide +kernel) (by decide +kernel) (by decide +kernel) (by decide +kernel) (by decide +kernel) (by decide +kernel) ?_
  refine zl_arg (pc := 647) (j := 3) (ls := [(0, sS), (1, sR 0), (2, sR 287), (3, sR 312), (4, sI i)]) C hX hi (by decide) rfl rfl (by decide +kernel) (by decide +kernel) (by decide +kernel) (by decide +kernel) (by decide +kernel) (by decide +kernel) ?_
  refine zl_arg (pc := 653) (j := 4) (ls := [(0, sS), (1, sR 0), (2, sR 287), (3, sR 312), (4, sI i)]) C hX hi (by decide) rfl rfl (by decide +kernel) (by decide +kernel) (by decide +kernel) (by decide +kernel) (by decide +kernel) (by decide +kernel) ?_
  refine zs_aload_n (pc := 659) (k := 3) (i := 3) C (by decide +kernel) rfl rfl ?_
  refine zs_csX (pc := 660) (As := [sR 0, sI (ar xs i 1), sI (ar xs i 2), sI (ar xs i 3), sI (ar xs i 4), sR 312]) (st := []) C (fun _ _ _ => rfl) rfl (c_L_may l g hl (ar xs i 1) (ar xs i 2) (ar xs i 3) (ar xs i 4)) mx_177 rfl rfl (Nat.le_of_ble_eq_true rfl) ⟨Nat.le_of_ble_eq_true rfl, Nat.le_of_ble_eq_true rfl⟩ (by constructor <;> simp only [rmd] <;> omega) (by decide +kernel) (fun k1 => ?_)
  refine zs_istore (pc := 663) (i := 5) (ls' := [(5, sI k1), (0, sS), (1, sR 0), (2, sR 287), (3, sR 312), (4, sI i)]) C (by decide +kernel) (Nat.le_of_ble_eq_true rfl) rfl ?_
  refine zs_aload_n (pc := 665) (k := 2) (i := 2) C (by decide +kernel) rfl rfl ?_
  refine zl_arg (pc := 666) (j := 1) (ls := [(5, sI k1), (0, sS), (1, sR 0), (2, sR 287), (3, sR 312), (4, sI i)]) C hX hi (by decide) rfl rfl (by decide +kernel) (by decide +kernel) (by decide +kernel) (by decide +kernel) (by decide +kernel) (by decide +kernel) ?_
  refine zl_arg (pc := 672) (j := 2) (ls := [(5, sI k1), (0, sS), (1, sR 0), (2, sR 287), (3, sR 312), (4, sI i)]) C hX hi (by decide) rfl rfl (by decide +kernel) (by decide +kernel) (by decide +kernel) (by decide +kernel) (by decide +kernel) (by decide +kernel) ?_
  refine zl_arg (pc := 678) (j := 3) (ls := [(5, sI k1), (0, sS), (1, sR 0), (2, sR 287), (3, sR 312), (4, sI i)]) C hX hi (by decide) rfl rfl (by decide +kernel) (by decide +kernel) (by decide +kernel) (by decide +kernel) (by decide +kernel) (by decide +kernel) ?_
  refine zl_arg (pc := 684) (j := 4) (ls := [(5, sI k1), (0, sS), (1, sR 0), (2, sR 287), (3, sR 312), (4, sI i)]) C hX hi (by decide) rfl rfl (by decide +kernel) (by decide +kernel) (by decide +kernel) (by decide +kernel) (by decide +kernel) (by decide +kernel) ?_
  refine zs_cvWi (pc := 690) (As := [sI (ar xs i 1), sI (ar xs i 2), sI (ar xs i 3), sI (ar xs i 4)]) (st := []) C (fun _ _ _ => rfl) rfl (c_X12_may l g (ar xs i 1) (ar xs i 2) (ar xs i 3) (ar xs i 4)) ml_RL_180 rfl rfl rfl rfl (Nat.le_of_ble_eq_true rfl) ⟨Nat.le_of_ble_eq_true rfl, Nat.le_of_ble_eq_true rfl⟩ (by constructor <;> simp only [rmd] <;> omega) (by decide +kernel) (fun v2 => ?_)
  refine zs_istore (pc := 693) (i := 6) (ls' := [(6, sI v2), (5, sI k1), (0, sS), (1, sR 0), (2, sR 287), (3, sR 312), (4, sI i)]) C (by decide +kernel) (Nat.le_of_ble_eq_true rfl) rfl ?_
  refine zs_aload_n (pc := 695) (k := 2) (i := 2) C (by decide +kernel) rfl rfl ?_
  refine zs_cvRi (pc := 696) (As := []) (st := []) C rfl (c_X12_thrown l g ) ml_RL_156 rfl rfl rfl rfl (Nat.le_of_ble_eq_true rfl) ⟨Nat.le_of_ble_eq_true rfl, Nat.le_of_ble_eq_true rfl⟩ (by constructor <;> simp only [rmd] <;> omega) (by decide +kernel) (fun t3 => ?_)
  refine zs_iload (pc := 699) (i := 5) C (by decide +kernel) rfl ?_
  refine zs_icmp_eq (pc := 701) (off := 5) (tgt := 706) C (by decide +kernel) (by decide) ?_ zs_none
  refine zs_iload (pc := 706) (i := 5) C (by decide +kernel) rfl ?_
  refine zs_if_ne (pc := 708) (off := 22) (tgt := 730) C (by decide +kernel) (by decide) ?_ ?_
  · refine zs_goto (pc := 730) (off := 2332) (tgt := 3062) C (by decide +kernel) (by decide) ?_
    exact zs_sub (ls' := [(0, sS), (1, sR 0), (2, sR 287), (3, sR 312), (4, sI i)]) ⟨rfl, rfl, rfl, rfl, rfl, trivial⟩ (K _ _ (by simp only [rmd]; omega) (by simp only [rmd]; omega))
  · refine zs_aload_n (pc := 711) (k := 3) (i := 3) C (by decide +kernel) rfl rfl ?_
    refine zs_iconst (pc := 712) (n := 0) (x := 0) C (by decide +kernel) (by decide +kernel) ?_
    refine zs_laldk (pc := 713) (o := 312) (n := 1) (i := 0) C ⟨by decide, by decide⟩ (by decide +kernel) rfl (fun z4 => ?_)
    refine zs_iload (pc := 714) (i := 6) C (by decide +kernel) rfl ?_
    refine zs_if_eq (pc := 716) (off := 7) (tgt := 723) C (by decide +kernel) (by decide) ?_ ?_
    · refine zs_lconst (pc := 723) (n := 0) (x := 0) C (by decide +kernel) (by decide +kernel) ?_
      refine zs_lcmp_eq (pc := 724) (off := 5) (tgt := 730) C (by decide +kernel) (by decide +kernel) (by decide) ?_ zs_none
      refine zs_goto (pc := 730) (off := 2332) (tgt := 3062) C (by decide +kernel) (by decide) ?_
      exact zs_sub (ls' := [(0, sS), (1, sR 0), (2, sR 287), (3, sR 312), (4, sI i)]) ⟨rfl, rfl, rfl, rfl, rfl, trivial⟩ (K _ _ (by simp only [rmd]; omega) (by simp only [rmd]; omega))
    · refine zs_lconst (pc := 719) (n := 1) (x := 1) C (by decide +kernel) (by decide +kernel) ?_
      refine zs_goto (pc := 720) (off := 4) (tgt := 724) C (by decide +kernel) (by decide) ?_
      refine zs_lcmp_eq (pc := 724) (off := 5) (tgt := 730) C (by decide +kernel) (by decide +kernel) (by decide) ?_ zs_none
      refine zs_goto (pc := 730) (off := 2332) (tgt := 3062) C (by decide +kernel) (by decide) ?_
      exact zs_sub (ls' := [(0, sS), (1, sR 0), (2, sR 287), (3, sR 312), (4, sI i)]) ⟨rfl, rfl, rfl, rfl, rfl, trivial⟩ (K _ _ (by simp only [rmd]; omega) (by simp only [rmd]; omega))

set_option maxRecDepth 20000 in
theorem lc_8 {p : Program} {l : Launch} {e : Env} {s : State} {m : MethodId} {args : Array Value} {below : List Frame} {meth : Method} {c : Code} {g : GC} {L : Nat} {xs : Nat → Int32} {i : Int} {kc ks : Nat} {Q : State → Prop} {PK : Mem → Option Unit} (C : Bd g RL code 8 p s m args meth c) (hX : ScrX g L xs s) (hl : l.stackTraces = false) (hi : 0 ≤ i ∧ i + 6 ≤ (L : Int)) (hk : kc + 8 ≤ room_1.cells ∧ ks + 48 ≤ room_1.slots)
    (K : ∀ kc' ks', kc' ≤ kc + 8 → ks' ≤ ks + 48 → Sim p l e room_1 s m args below meth c g 8 (fun (_ : Unit) _ => Q) kc' ks' 3062 [(0, sS), (1, sR 0), (2, sR 287), (3, sR 312), (4, sI i)] [] PK) : Sim p l e room_1 s m args below meth c g 8 (fun (_ : Unit) _ => Q) kc ks 733 [(0, sS), (1, sR 0), (2, sR 287), (3, sR 312), (4, sI i)] [] (P0 (fun mm => fX11_step (ar xs i 1) (ar xs i 2) (ar xs i 3) mm) (fun mm => fX12_step (ar xs i 1) (ar xs i 2) (ar xs i 3) mm) PK) := by
  obtain ⟨hk1, hk2⟩ := hk
  unfold P0
  refine zs_aload_n (pc := 733) (k := 1) (i := 1) C (by decide +kernel) rfl rfl ?_
  refine zl_arg (pc := 734) (j := 1) (ls := [(0, sS), (1, sR 0), (2, sR 287), (3, sR 312), (4, sI i)]) C hX hi (by decide) rfl rfl (by decide +kernel) (by decide +kernel) (by decide +kernel) (by decide +kernel) (by decide +kernel) (by decide +kernel) ?_
  refine zl_arg (pc := 740) (j := 2) (ls := [(0, sS), (1, sR 0), (2, sR 287), (3, sR 312), (4, sI i)]) C hX hi (by decide) rfl rfl (by decide +kernel) (by decide +kernel) (by decide +kernel) (by decide +kernel) (by decide +kernel) (by decide +kernel) ?_
  refine zl_arg (pc := 746) (j := 3) (ls := [(0, sS), (1, sR 0), (2, sR 287), (3, sR 312), (4, sI i)]) C hX hi (by decide) rfl rfl (by decide +kernel) (by decide +kernel) (by decide +kernel) (by decide +kernel) (by decide +kernel) (by decide +kernel) ?_
  refine zs_cvWi (pc := 752) (As := [sI (ar xs i 1), sI (ar xs i 2), sI (ar xs i 3)]) (st := []) C (fun _ _ _ => rfl) rfl (c_X11_step l g (ar xs i 1) (ar xs i 2) (ar xs i 3)) ml_RL_181 rfl rfl rfl rfl (Nat.le_of_ble_eq_true rfl) ⟨Nat.le_of_ble_eq_true rfl, Nat.le_of_ble_eq_true rfl⟩ (by constructor <;> simp only [rmd] <;> omega) (by decide +kernel) (fun v1 => ?_)
  refine zs_aload_n (pc := 755) (k := 2) (i := 2) C (by decide +kernel) rfl rfl ?_
  refine zl_arg (pc := 756) (j := 1) (ls := [(0, sS), (1, sR 0), (2, sR 287), (3, sR 312), (4, sI i)]) C hX hi (by decide) rfl rfl (by decide +kernel) (by decide +kernel) (by decide +kernel) (by decide +kernel) (by decide +kernel) (by decide +kernel) ?_
  refine zl_arg (pc := 762) (j := 2) (ls := [(0, sS), (1, sR 0), (2, sR 287), (3, sR 312), (4, sI i)]) C hX hi (by decide) rfl rfl (by decide +kernel) (by decide +kernel) (by decide +kernel) (by decide +kernel) (by decide +kernel) (by decide +kernel) ?_
  refine zl_arg (pc := 768) (j := 3) (ls := [(0, sS), (1, sR 0), (2, sR 287), (3, sR 312), (4, sI i)]) C hX hi (by decide) rfl rfl (by decide +kernel) (by decide +kernel) (by decide +kernel) (by decide +kernel) (by decide +kernel) (by decide +kernel) ?_
  refine zs_cvWi (pc := 774) (As := [sI (ar xs i 1), sI (ar xs i 2), sI (ar xs i 3)]) (st := [sI v1]) C (fun _ _ _ => rfl) rfl (c_X12_step l g (ar xs i 1) (ar xs i 2) (ar xs i 3)) ml_RL_184 rfl rfl rfl rfl (Nat.le_of_ble_eq_true rfl) ⟨Nat.le_of_ble_eq_true rfl, Nat.le_of_ble_eq_true rfl⟩ (by constructor <;> simp only [rmd] <;> omega) (by decide +kernel) (fun v2 => ?_)
  refine zs_icmp_eq (pc := 777) (off := 2285) (tgt := 3062) C (by decide +kernel) (by decide) ?_ zs_none
  exact zs_sub (ls' := [(0, sS), (1, sR 0), (2, sR 287), (3, sR 312), (4, sI i)]) ⟨rfl, rfl, rfl, rfl, rfl, trivial⟩ (K _ _ (by simp only [rmd]; omega) (by simp only [rmd]; omega))

set_option maxRecDepth 20000 in
theorem lc_9 {p : Program} {l : Launch} {e : Env} {s : State} {m : MethodId} {args : Array Value} {below : List Frame} {meth : Method} {c : Code} {g : GC} {L : Nat} {xs : Nat → Int32} {i : Int} {kc ks : Nat} {Q : State → Prop} {PK : Mem → Option Unit} (C : Bd g RL code 8 p s m args meth c) (hX : ScrX g L xs s) (hl : l.stackTraces = false) (hi : 0 ≤ i ∧ i + 6 ≤ (L : Int)) (hk : kc + 8 ≤ room_1.cells ∧ ks + 48 ≤ room_1.slots)
    (K : ∀ kc' ks', kc' ≤ kc + 8 → ks' ≤ ks + 48 → Sim p l e room_1 s m args below meth c g 8 (fun (_ : Unit) _ => Q) kc' ks' 3062 [(0, sS), (1, sR 0), (2, sR 287), (3, sR 312), (4, sI i)] [] PK) : Sim p l e room_1 s m args below meth c g 8 (fun (_ : Unit) _ => Q) kc ks 782 [(0, sS), (1, sR 0), (2, sR 287), (3, sR 312), (4, sI i)] [] (PX (fun mm => fL_tie (ar xs i 1) (ar xs i 2) mm) (fun mm => fX12_tie (ar xs i 1) (ar xs i 2) mm) PK) := by
  obtain ⟨hk1, hk2⟩ := hk
  unfold PX
  refine zs_aload_n (pc := 782) (k := 1) (i := 1) C (by decide +kernel) rfl rfl ?_
  refine zl_arg (pc := 783) (j := 1) (ls := [(0, sS), (1, sR 0), (2, sR 287), (3, sR 312), (4, sI i)]) C hX hi (by decide) rfl rfl (by decide +kernel) (by decide +kernel) (by decide +kernel) (by decide +kernel) (by decide +kernel) (by decide +kernel) ?_
  refine zl_arg (pc := 789) (j := 2) (ls := [(0, sS), (1, sR 0), (2, sR 287), (3, sR 312), (4, sI i)]) C hX hi (by decide) rfl rfl (by decide +kernel) (by decide +kernel) (by decide +kernel) (by decide +kernel) (by decide +kernel) (by decide +kernel) ?_
  refine zs_aload_n (pc := 795) (k := 3) (i := 3) C (by decide +kernel) rfl rfl ?_
  refine zs_csX (pc := 796) (As := [sR 0, sI (ar xs i 1), sI (ar xs i 2), sR 312]) (st := []) C (fun _ _ _ => rfl) rfl (c_L_tie l g hl (ar xs i 1) (ar xs i 2)) mx_185 rfl rfl (Nat.le_of_ble_eq_true rfl) ⟨Nat.le_of_ble_eq_true rfl, Nat.le_of_ble_eq_true rfl⟩ (by constructor <;> simp only [rmd] <;> omega) (by decide +kernel) (fun k1 => ?_)
  refine zs_istore (pc := 799) (i := 5) (ls' := [(5, sI k1), (0, sS), (1, sR 0), (2, sR 287), (3, sR 312), (4, sI i)]) C (by decide +kernel) (Nat.le_of_ble_eq_true rfl) rfl ?_
  refine zs_aload_n (pc := 801) (k := 2) (i := 2) C (by decide +kernel) rfl rfl ?_
  refine zl_arg (pc := 802) (j := 1) (ls := [(5, sI k1), (0, sS), (1, sR 0), (2, sR 287), (3, sR 312), (4, sI i)]) C hX hi (by decide) rfl rfl (by decide +kernel) (by decide +kernel) (by decide +kernel) (by decide +kernel) (by decide +kernel) (by decide +kernel) ?_
  refine zl_arg (pc := 808) (j := 2) (ls := [(5, sI k1), (0, sS), (1, sR 0), (2, sR 287), (3, sR 312), (4, sI i)]) C hX hi (by decide) rfl rfl (by decide +kernel) (by decide +kernel) (by decide +kernel) (by decide +kernel) (by decide +kernel) (by decide +kernel) ?_
  refine zs_cvWi (pc := 814) (As := [sI (ar xs i 1), sI (ar xs i 2)]) (st := []) C (fun _ _ _ => rfl) rfl (c_X12_tie l g (ar xs i 1) (ar xs i 2)) ml_RL_187 rfl rfl rfl rfl (Nat.le_of_ble_eq_true rfl) ⟨Nat.le_of_ble_eq_true rfl, Nat.le_of_ble_eq_true rfl⟩ (by constructor <;> simp only [rmd] <;> omega) (by decide +kernel) (fun v2 => ?_)
  refine zs_istore (pc := 817) (i := 6) (ls' := [(6, sI v2), (5, sI k1), (0, sS), (1, sR 0), (2, sR 287), (3, sR 312), (4, sI i)]) C (by decide +kernel) (Nat.le_of_ble_eq_true rfl) rfl ?_
  refine zs_aload_n (pc := 819) (k := 2) (i := 2) C (by decide +kernel) rfl rfl ?_
  refine zs_cvRi (pc := 820) (As := []) (st := []) C rfl (c_X12_thrown l g ) ml_RL_156 rfl rfl rfl rfl (Nat.le_of_ble_eq_true rfl) ⟨Nat.le_of_ble_eq_true rfl, Nat.le_of_ble_eq_true rfl⟩ (by constructor <;> simp only [rmd] <;> omega) (by decide +kernel) (fun t3 => ?_)
  refine zs_iload (pc := 823) (i := 5) C (by decide +kernel) rfl ?_
  refine zs_icmp_eq (pc := 825) (off := 5) (tgt := 830) C (by decide +kernel) (by decide) ?_ zs_none
  refine zs_iload (pc := 830) (i := 5) C (by decide +kernel) rfl ?_
  refine zs_if_ne (pc := 832) (off := 15) (tgt := 847) C (by decide +kernel) (by decide) ?_ ?_
  · refine zs_goto (pc := 847) (off := 2215) (tgt := 3062) C (by decide +kernel) (by decide) ?_
    exact zs_sub (ls' := [(0, sS), (1, sR 0), (2, sR 287), (3, sR 312), (4, sI i)]) ⟨rfl, rfl, rfl, rfl, rfl, trivial⟩ (K _ _ (by simp only [rmd]; omega) (by simp only [rmd]; omega))
  · refine zs_aload_n (pc := 835) (k := 3) (i := 3) C (by decide +kernel) rfl rfl ?_
    refine zs_iconst (pc := 836) (n := 0) (x := 0) C (by decide +kernel) (by decide +kernel) ?_
    refine zs_laldk (pc := 837) (o := 312) (n := 1) (i := 0) C ⟨by decide, by decide⟩ (by decide +kernel) rfl (fun z4 => ?_)
    refine zs_iload (pc := 838) (i := 6) C (by decide +kernel) rfl ?_
    refine zs_i2l (pc := 840) C (by decide +kernel) ?_
    refine zs_lcmp_eq (pc := 841) (off := 5) (tgt := 847) C (by decide +kernel) (by decide +kernel) (by decide) ?_ zs_none
    refine zs_goto (pc := 847) (off := 2215) (tgt := 3062) C (by decide +kernel) (by decide) ?_
    exact zs_sub (ls' := [(0, sS), (1, sR 0), (2, sR 287), (3, sR 312), (4, sI i)]) ⟨rfl, rfl, rfl, rfl, rfl, trivial⟩ (K _ _ (by simp only [rmd]; omega) (by simp only [rmd]; omega))

set_option maxRecDepth 20000 in
theorem lc_10 {p : Program} {l : Launch} {e : Env} {s : State} {m : MethodId} {args : Array Value} {below : List Frame} {meth : Method} {c : Code} {g : GC} {L : Nat} {xs : Nat → Int32} {i : Int} {kc ks : Nat} {Q : State → Prop} {PK : Mem → Option Unit} (C : Bd g RL code 8 p s m args meth c) (hX : ScrX g L xs s) (hl : l.stackTraces = false) (hi : 0 ≤ i ∧ i + 6 ≤ (L : Int)) (hk : kc + 8 ≤ room_1.cells ∧ ks + 48 ≤ room_1.slots)
    (K : ∀ kc' ks', kc' ≤ kc + 8 → ks' ≤ ks + 48 → Sim p l e room_1 s m args below meth c g 8 (fun (_ : Unit) _ => Q) kc' ks' 3062 [(0, sS), (1, sR 0), (2, sR 287), (3, sR 312), (4, sI i)] [] PK) : Sim p l e room_1 s m args below meth c g 8 (fun (_ : Unit) _ => Q) kc ks 850 [(0, sS), (1, sR 0), (2, sR 287), (3, sR 312), (4, sI i)] [] (PX (fun mm => fL_rain (ar xs i 1) (ar xs i 2) mm) (fun mm => fX12_rain (ar xs i 1) (ar xs i 2) mm) PK) := by
  obtain ⟨hk1, hk2⟩ := hk
  unfold PX
  refine zs_aload_n (pc := 850) (k := 1) (i := 1) C (by decide +kernel) rfl rfl ?_
  refine zl_arg (pc := 851) (j := 1) (ls := [(0, sS), (1, sR 0), (2, sR 287), (3, sR 312), (4, sI i)]) C hX hi (by decide) rfl rfl (by decide +kernel) (by decide +kernel) (by decide +kernel) (by decide +kernel) (by decide +kernel) (by decide +kernel) ?_
  refine zl_arg (pc := 857) (j := 2) (ls := [(0, sS), (1, sR 0), (2, sR 287), (3, sR 312), (4, sI i)]) C hX hi (by decide) rfl rfl (by decide +kernel) (by decide +kernel) (by decide +kernel) (by decide +kernel) (by decide +kernel) (by decide +kernel) ?_
  refine zs_aload_n (pc := 863) (k := 3) (i := 3) C (by decide +kernel) rfl rfl ?_
  refine zs_csX (pc := 864) (As := [sR 0, sI (ar xs i 1), sI (ar xs i 2), sR 312]) (st := []) C (fun _ _ _ => rfl) rfl (c_L_rain l g hl (ar xs i 1) (ar xs i 2)) mx_188 rfl rfl (Nat.le_of_ble_eq_true rfl) ⟨Nat.le_of_ble_eq_true rfl, Nat.le_of_ble_eq_true rfl⟩ (by constructor <;> simp only [rmd] <;> omega) (by decide +kernel) (fun k1 => ?_)
  refine zs_istore (pc := 867) (i := 5) (ls' := [(5, sI k1), (0, sS), (1, sR 0), (2, sR 287), (3, sR 312), (4, sI i)]) C (by decide +kernel) (Nat.le_of_ble_eq_true rfl) rfl ?_
  refine zs_aload_n (pc := 869) (k := 2) (i := 2) C (by decide +kernel) rfl rfl ?_
  refine zl_arg (pc := 870) (j := 1) (ls := [(5, sI k1), (0, sS), (1, sR 0), (2, sR 287), (3, sR 312), (4, sI i)]) C hX hi (by decide) rfl rfl (by decide +kernel) (by decide +kernel) (by decide +kernel) (by decide +kernel) (by decide +kernel) (by decide +kernel) ?_
  refine zl_arg (pc := 876) (j := 2) (ls := [(5, sI k1), (0, sS), (1, sR 0), (2, sR 287), (3, sR 312), (4, sI i)]) C hX hi (by decide) rfl rfl (by decide +kernel) (by decide +kernel) (by decide +kernel) (by decide +kernel) (by decide +kernel) (by decide +kernel) ?_
  refine zs_cvWi (pc := 882) (As := [sI (ar xs i 1), sI (ar xs i 2)]) (st := []) C (fun _ _ _ => rfl) rfl (c_X12_rain l g (ar xs i 1) (ar xs i 2)) ml_RL_190 rfl rfl rfl rfl (Nat.le_of_ble_eq_true rfl) ⟨Nat.le_of_ble_eq_true rfl, Nat.le_of_ble_eq_true rfl⟩ (by constructor <;> simp only [rmd] <;> omega) (by decide +kernel) (fun v2 => ?_)
  refine zs_istore (pc := 885) (i := 6) (ls' := [(6, sI v2), (5, sI k1), (0, sS), (1, sR 0), (2, sR 287), (3, sR 312), (4, sI i)]) C (by decide +kernel) (Nat.le_of_ble_eq_true rfl) rfl ?_
  refine zs_aload_n (pc := 887) (k := 2) (i := 2) C (by decide +kernel) rfl rfl ?_
  refine zs_cvRi (pc := 888) (As := []) (st := []) C rfl (c_X12_thrown l g ) ml_RL_156 rfl rfl rfl rfl (Nat.le_of_ble_eq_true rfl) ⟨Nat.le_of_ble_eq_true rfl, Nat.le_of_ble_eq_true rfl⟩ (by constructor <;> simp only [rmd] <;> omega) (by decide +kernel) (fun t3 => ?_)
  refine zs_iload (pc := 891) (i := 5) C (by decide +kernel) rfl ?_
  refine zs_icmp_eq (pc := 893) (off := 5) (tgt := 898) C (by decide +kernel) (by decide) ?_ zs_none
  refine zs_iload (pc := 898) (i := 5) C (by decide +kernel) rfl ?_
  refine zs_if_ne (pc := 900) (off := 15) (tgt := 915) C (by decide +kernel) (by decide) ?_ ?_
  · refine zs_goto (pc := 915) (off := 2147) (tgt := 3062) C (by decide +kernel) (by decide) ?_
    exact zs_sub (ls' := [(0, sS), (1, sR 0), (2, sR 287), (3, sR 312), (4, sI i)]) ⟨rfl, rfl, rfl, rfl, rfl, trivial⟩ (K _ _ (by simp only [rmd]; omega) (by simp only [rmd]; omega))
  · refine zs_aload_n (pc := 903) (k := 3) (i := 3) C (by decide +kernel) rfl rfl ?_
    refine zs_iconst (pc := 904) (n := 0) (x := 0) C (by decide +kernel) (by decide +kernel) ?_
    refine zs_laldk (pc := 905) (o := 312) (n := 1) (i := 0) C ⟨by decide, by decide⟩ (by decide +kernel) rfl (fun z4 => ?_)
    refine zs_iload (pc := 906) (i := 6) C (by decide +kernel) rfl ?_
    refine zs_i2l (pc := 908) C (by decide +kernel) ?_
    refine zs_lcmp_eq (pc := 909) (off := 5) (tgt := 915) C (by decide +kernel) (by decide +kernel) (by decide) ?_ zs_none
    refine zs_goto (pc := 915) (off := 2147) (tgt := 3062) C (by decide +kernel) (by decide) ?_
    exact zs_sub (ls' := [(0, sS), (1, sR 0), (2, sR 287), (3, sR 312), (4, sI i)]) ⟨rfl, rfl, rfl, rfl, rfl, trivial⟩ (K _ _ (by simp only [rmd]; omega) (by simp only [rmd]; omega))

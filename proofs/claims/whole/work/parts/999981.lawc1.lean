/-! ===== the law: its cases ===== -/
set_option maxRecDepth 20000 in
theorem lc_11 {p : Program} {l : Launch} {e : Env} {s : State} {m : MethodId} {args : Array Value} {below : List Frame} {meth : Method} {c : Code} {g : GC} {L : Nat} {xs : Nat → Int32} {i : Int} {kc ks : Nat} {Q : State → Prop} {PK : Mem → Option Unit} (C : Bd g RL code 8 p s m args meth c) (hX : ScrX g L xs s) (hl : l.stackTraces = false) (hi : 0 ≤ i ∧ i + 6 ≤ (L : Int)) (hk : kc + 8 ≤ room_1.cells ∧ ks + 48 ≤ room_1.slots)
    (K : ∀ kc' ks', kc' ≤ kc + 8 → ks' ≤ ks + 48 → Sim p l e room_1 s m args below meth c g 8 (fun (_ : Unit) _ => Q) kc' ks' 3062 [(0, sS), (1, sR 0), (2, sR 287), (3, sR 312), (4, sI i)] [] PK) : Sim p l e room_1 s m args below meth c g 8 (fun (_ : Unit) _ => Q) kc ks 918 [(0, sS), (1, sR 0), (2, sR 287), (3, sR 312), (4, sI i)] [] (PX (fun mm => fL_hours (ar xs i 1) mm) (fun mm => fX12_hours (ar xs i 1) mm) PK) := by
  obtain ⟨hk1, hk2⟩ := hk
  unfold PX
  refine zs_aload_n (pc := 918) (k := 1) (i := 1) C (by decide +kernel) rfl rfl ?_
  refine zl_arg (pc := 919) (j := 1) (ls := [(0, sS), (1, sR 0), (2, sR 287), (3, sR 312), (4, sI i)]) C hX hi (by decide) rfl rfl (by decide +kernel) (by decide +kernel) (by decide +kernel) (by decide +kernel) (by decide +kernel) (by decide +kernel) ?_
  refine zs_aload_n (pc := 925) (k := 3) (i := 3) C (by decide +kernel) rfl rfl ?_
  refine zs_csX (pc := 926) (As := [sR 0, sI (ar xs i 1), sR 312]) (st := []) C (fun _ _ _ => rfl) rfl (c_L_hours l g hl (ar xs i 1)) mx_191 rfl rfl (Nat.le_of_ble_eq_true rfl) ⟨Nat.le_of_ble_eq_true rfl, Nat.le_of_ble_eq_true rfl⟩ (by constructor <;> simp only [rmd] <;> omega) (by decide +kernel) (fun k1 => ?_)
  refine zs_istore (pc := 929) (i := 5) (ls' := [(5, sI k1), (0, sS), (1, sR 0), (2, sR 287), (3, sR 312), (4, sI i)]) C (by decide +kernel) (Nat.le_of_ble_eq_true rfl) rfl ?_
  refine zs_aload_n (pc := 931) (k := 2) (i := 2) C (by decide +kernel) rfl rfl ?_
  refine zl_arg (pc := 932) (j := 1) (ls := [(5, sI k1), (0, sS), (1, sR 0), (2, sR 287), (3, sR 312), (4, sI i)]) C hX hi (by decide) rfl rfl (by decide +kernel) (by decide +kernel) (by decide +kernel) (by decide +kernel) (by decide +kernel) (by decide +kernel) ?_
  refine zs_cvWi (pc := 938) (As := [sI (ar xs i 1)]) (st := []) C (fun _ _ _ => rfl) rfl (c_X12_hours l g (ar xs i 1)) ml_RL_193 rfl rfl rfl rfl (Nat.le_of_ble_eq_true rfl) ⟨Nat.le_of_ble_eq_true rfl, Nat.le_of_ble_eq_true rfl⟩ (by constructor <;> simp only [rmd] <;> omega) (by decide +kernel) (fun v2 => ?_)
  refine zs_istore (pc := 941) (i := 6) (ls' := [(6, sI v2), (5, sI k1), (0, sS), (1, sR 0), (2, sR 287), (3, sR 312), (4, sI i)]) C (by decide +kernel) (Nat.le_of_ble_eq_true rfl) rfl ?_
  refine zs_aload_n (pc := 943) (k := 2) (i := 2) C (by decide +kernel) rfl rfl ?_
  refine zs_cvRi (pc := 944) (As := []) (st := []) C rfl (c_X12_thrown l g ) ml_RL_156 rfl rfl rfl rfl (Nat.le_of_ble_eq_true rfl) ⟨Nat.le_of_ble_eq_true rfl, Nat.le_of_ble_eq_true rfl⟩ (by constructor <;> simp only [rmd] <;> omega) (by decide +kernel) (fun t3 => ?_)
  refine zs_iload (pc := 947) (i := 5) C (by decide +kernel) rfl ?_
  refine zs_icmp_eq (pc := 949) (off := 5) (tgt := 954) C (by decide +kernel) (by decide) ?_ zs_none
  refine zs_iload (pc := 954) (i := 5) C (by decide +kernel) rfl ?_
  refine zs_if_ne (pc := 956) (off := 15) (tgt := 971) C (by decide +kernel) (by decide) ?_ ?_
  · refine zs_goto (pc := 971) (off := 2091) (tgt := 3062) C (by decide +kernel) (by decide) ?_
    exact zs_sub (ls' := [(0, sS), (1, sR 0), (2, sR 287), (3, sR 312), (4, sI i)]) ⟨rfl, rfl, rfl, rfl, rfl, trivial⟩ (K _ _ (by simp only [rmd]; omega) (by simp only [rmd]; omega))
  · refine zs_aload_n (pc := 959) (k := 3) (i := 3) C (by decide +kernel) rfl rfl ?_
    refine zs_iconst (pc := 960) (n := 0) (x := 0) C (by decide +kernel) (by decide +kernel) ?_
    refine zs_laldk (pc := 961) (o := 312) (n := 1) (i := 0) C ⟨by decide, by decide⟩ (by decide +kernel) rfl (fun z4 => ?_)
    refine zs_iload (pc := 962) (i := 6) C (by decide +kernel) rfl ?_
    refine zs_i2l (pc := 964) C (by decide +kernel) ?_
    refine zs_lcmp_eq (pc := 965) (off := 5) (tgt := 971) C (by decide +kernel) (by decide +kernel) (by decide) ?_ zs_none
    refine zs_goto (pc := 971) (off := 2091) (tgt := 3062) C (by decide +kernel) (by decide) ?_
    exact zs_sub (ls' := [(0, sS), (1, sR 0), (2, sR 287), (3, sR 312), (4, sI i)]) ⟨rfl, rfl, rfl, rfl, rfl, trivial⟩ (K _ _ (by simp only [rmd]; omega) (by simp only [rmd]; omega))

set_option maxRecDepth 20000 in
theorem lc_12 {p : Program} {l : Launch} {e : Env} {s : State} {m : MethodId} {args : Array Value} {below : List Frame} {meth : Method} {c : Code} {g : GC} {L : Nat} {xs : Nat → Int32} {i : Int} {kc ks : Nat} {Q : State → Prop} {PK : Mem → Option Unit} (C : Bd g RL code 8 p s m args meth c) (hX : ScrX g L xs s) (hl : l.stackTraces = false) (hi : 0 ≤ i ∧ i + 6 ≤ (L : Int)) (hk : kc + 8 ≤ room_1.cells ∧ ks + 48 ≤ room_1.slots)
    (K : ∀ kc' ks', kc' ≤ kc + 8 → ks' ≤ ks + 48 → Sim p l e room_1 s m args below meth c g 8 (fun (_ : Unit) _ => Q) kc' ks' 3062 [(0, sS), (1, sR 0), (2, sR 287), (3, sR 312), (4, sI i)] [] PK) : Sim p l e room_1 s m args below meth c g 8 (fun (_ : Unit) _ => Q) kc ks 974 [(0, sS), (1, sR 0), (2, sR 287), (3, sR 312), (4, sI i)] [] (PX (fun mm => fL_undo (ar xs i 1) mm) (fun mm => fX12_undo (ar xs i 1) mm) PK) := by
  obtain ⟨hk1, hk2⟩ := hk
  unfold PX
  refine zs_aload_n (pc := 974) (k := 1) (i := 1) C (by decide +kernel) rfl rfl ?_
  refine zl_arg (pc := 975) (j := 1) (ls := [(0, sS), (1, sR 0), (2, sR 287), (3, sR 312), (4, sI i)]) C hX hi (by decide) rfl rfl (by decide +kernel) (by decide +kernel) (by decide +kernel) (by decide +kernel) (by decide +kernel) (by decide +kernel) ?_
  refine zs_aload_n (pc := 981) (k := 3) (i := 3) C (by decide +kernel) rfl rfl ?_
  refine zs_csX (pc := 982) (As := [sR 0, sI (ar xs i 1), sR 312]) (st := []) C (fun _ _ _ => rfl) rfl (c_L_undo l g hl (ar xs i 1)) mx_194 rfl rfl (Nat.le_of_ble_eq_true rfl) ⟨Nat.le_of_ble_eq_true rfl, Nat.le_of_ble_eq_true rfl⟩ (by constructor <;> simp only [rmd] <;> omega) (by decide +kernel) (fun k1 => ?_)
  refine zs_istore (pc := 985) (i := 5) (ls' := [(5, sI k1), (0, sS), (1, sR 0), (2, sR 287), (3, sR 312), (4, sI i)]) C (by decide +kernel) (Nat.le_of_ble_eq_true rfl) rfl ?_
  refine zs_aload_n (pc := 987) (k := 2) (i := 2) C (by decide +kernel) rfl rfl ?_
  refine zl_arg (pc := 988) (j := 1) (ls := [(5, sI k1), (0, sS), (1, sR 0), (2, sR 287), (3, sR 312), (4, sI i)]) C hX hi (by decide) rfl rfl (by decide +kernel) (by decide +kernel) (by decide +kernel) (by decide +kernel) (by decide +kernel) (by decide +kernel) ?_
  refine zs_cvWi (pc := 994) (As := [sI (ar xs i 1)]) (st := []) C (fun _ _ _ => rfl) rfl (c_X12_undo l g (ar xs i 1)) ml_RL_196 rfl rfl rfl rfl (Nat.le_of_ble_eq_true rfl) ⟨Nat.le_of_ble_eq_true rfl, Nat.le_of_ble_eq_true rfl⟩ (by constructor <;> simp only [rmd] <;> omega) (by decide +kernel) (fun v2 => ?_)
  refine zs_istore (pc := 997) (i := 6) (ls' := [(6, sI v2), (5, sI k1), (0, sS), (1, sR 0), (2, sR 287), (3, sR 312), (4, sI i)]) C (by decide +kernel) (Nat.le_of_ble_eq_true rfl) rfl ?_
  refine zs_aload_n (pc := 999) (k := 2) (i := 2) C (by decide +kernel) rfl rfl ?_
  refine zs_cvRi (pc := 1000) (As := []) (st := []) C rfl (c_X12_thrown l g ) ml_RL_156 rfl rfl rfl rfl (Nat.le_of_ble_eq_true rfl) ⟨Nat.le_of_ble_eq_true rfl, Nat.le_of_ble_eq_true rfl⟩ (by constructor <;> simp only [rmd] <;> omega) (by decide +kernel) (fun t3 => ?_)
  refine zs_iload (pc := 1003) (i := 5) C (by decide +kernel) rfl ?_
  refine zs_icmp_eq (pc := 1005) (off := 5) (tgt := 1010) C (by decide +kernel) (by decide) ?_ zs_none
  refine zs_iload (pc := 1010) (i := 5) C (by decide +kernel) rfl ?_
  refine zs_if_ne (pc := 1012) (off := 15) (tgt := 1027) C (by decide +kernel) (by decide) ?_ ?_
  · refine zs_goto (pc := 1027) (off := 2035) (tgt := 3062) C (by decide +kernel) (by decide) ?_
    exact zs_sub (ls' := [(0, sS), (1, sR 0), (2, sR 287), (3, sR 312), (4, sI i)]) ⟨rfl, rfl, rfl, rfl, rfl, trivial⟩ (K _ _ (by simp only [rmd]; omega) (by simp only [rmd]; omega))
  · refine zs_aload_n (pc := 1015) (k := 3) (i := 3) C (by decide +kernel) rfl rfl ?_
    refine zs_iconst (pc := 1016) (n := 0) (x := 0) C (by decide +kernel) (by decide +kernel) ?_
    refine zs_laldk (pc := 1017) (o := 312) (n := 1) (i := 0) C ⟨by decide, by decide⟩ (by decide +kernel) rfl (fun z4 => ?_)
    refine zs_iload (pc := 1018) (i := 6) C (by decide +kernel) rfl ?_
    refine zs_i2l (pc := 1020) C (by decide +kernel) ?_
    refine zs_lcmp_eq (pc := 1021) (off := 5) (tgt := 1027) C (by decide +kernel) (by decide +kernel) (by decide) ?_ zs_none
    refine zs_goto (pc := 1027) (off := 2035) (tgt := 3062) C (by decide +kernel) (by decide) ?_
    exact zs_sub (ls' := [(0, sS), (1, sR 0), (2, sR 287), (3, sR 312), (4, sI i)]) ⟨rfl, rfl, rfl, rfl, rfl, trivial⟩ (K _ _ (by simp only [rmd]; omega) (by simp only [rmd]; omega))

set_option maxRecDepth 20000 in
theorem lc_13 {p : Program} {l : Launch} {e : Env} {s : State} {m : MethodId} {args : Array Value} {below : List Frame} {meth : Method} {c : Code} {g : GC} {L : Nat} {xs : Nat → Int32} {i : Int} {kc ks : Nat} {Q : State → Prop} {PK : Mem → Option Unit} (C : Bd g RL code 8 p s m args meth c) (hX : ScrX g L xs s) (hl : l.stackTraces = false) (hi : 0 ≤ i ∧ i + 6 ≤ (L : Int)) (hk : kc + 8 ≤ room_1.cells ∧ ks + 48 ≤ room_1.slots)
    (K : ∀ kc' ks', kc' ≤ kc + 8 → ks' ≤ ks + 48 → Sim p l e room_1 s m args below meth c g 8 (fun (_ : Unit) _ => Q) kc' ks' 3062 [(0, sS), (1, sR 0), (2, sR 287), (3, sR 312), (4, sI i)] [] PK) : Sim p l e room_1 s m args below meth c g 8 (fun (_ : Unit) _ => Q) kc ks 1030 [(0, sS), (1, sR 0), (2, sR 287), (3, sR 312), (4, sI i)] [] (PX (fun mm => fL_judge (ar xs i 1) (ar xs i 2) mm) (fun mm => fX12_judge (ar xs i 1) (ar xs i 2) mm) PK) := by
  obtain ⟨hk1, hk2⟩ := hk
  unfold PX
  refine zs_aload_n (pc := 1030) (k := 1) (i := 1) C (by decide +kernel) rfl rfl ?_
  refine zl_arg (pc := 1031) (j := 1) (ls := [(0, sS), (1, sR 0), (2, sR 287), (3, sR 312), (4, sI i)]) C hX hi (by decide) rfl rfl (by decide +kernel) (by decide +kernel) (by decide +kernel) (by decide +kernel) (by decide +kernel) (by decide +kernel) ?_
  refine zl_arg (pc := 1037) (j := 2) (ls := [(0, sS), (1, sR 0), (2, sR 287), (3, sR 312), (4, sI i)]) C hX hi (by decide) rfl rfl (by decide +kernel) (by decide +kernel) (by decide +kernel) (by decide +kernel) (by decide +kernel) (by decide +kernel) ?_
  refine zs_aload_n (pc := 1043) (k := 3) (i := 3) C (by decide +kernel) rfl rfl ?_
  refine zs_csX (pc := 1044) (As := [sR 0, sI (ar xs i 1), sI (ar xs i 2), sR 312]) (st := []) C (fun _ _ _ => rfl) rfl (c_L_judge l g hl (ar xs i 1) (ar xs i 2)) mx_197 rfl rfl (Nat.le_of_ble_eq_true rfl) ⟨Nat.le_of_ble_eq_true rfl, Nat.le_of_ble_eq_true rfl⟩ (by constructor <;> simp only [rmd] <;> omega) (by decide +kernel) (fun k1 => ?_)
  refine zs_istore (pc := 1047) (i := 5) (ls' := [(5, sI k1), (0, sS), (1, sR 0), (2, sR 287), (3, sR 312), (4, sI i)]) C (by decide +kernel) (Nat.le_of_ble_eq_true rfl) rfl ?_
  refine zs_aload_n (pc := 1049) (k := 2) (i := 2) C (by decide +kernel) rfl rfl ?_
  refine zl_arg (pc := 1050) (j := 1) (ls := [(5, sI k1), (0, sS), (1, sR 0), (2, sR 287), (3, sR 312), (4, sI i)]) C hX hi (by decide) rfl rfl (by decide +kernel) (by decide +kernel) (by decide +kernel) (by decide +kernel) (by decide +kernel) (by decide +kernel) ?_
  refine zl_arg (pc := 1056) (j := 2) (ls := [(5, sI k1), (0, sS), (1, sR 0), (2, sR 287), (3, sR 312), (4, sI i)]) C hX hi (by decide) rfl rfl (by decide +kernel) (by decide +kernel) (by decide +kernel) (by decide +kernel) (by decide +kernel) (by decide +kernel) ?_
  refine zs_cvWi (pc := 1062) (As := [sI (ar xs i 1), sI (ar xs i 2)]) (st := []) C (fun _ _ _ => rfl) rfl (c_X12_judge l g (ar xs i 1) (ar xs i 2)) ml_RL_199 rfl rfl rfl rfl (Nat.le_of_ble_eq_true rfl) ⟨Nat.le_of_ble_eq_true rfl, Nat.le_of_ble_eq_true rfl⟩ (by constructor <;> simp only [rmd] <;> omega) (by decide +kernel) (fun v2 => ?_)
  refine zs_istore (pc := 1065) (i := 6) (ls' := [(6, sI v2), (5, sI k1), (0, sS), (1, sR 0), (2, sR 287), (3, sR 312), (4, sI i)]) C (by decide +kernel) (Nat.le_of_ble_eq_true rfl) rfl ?_
  refine zs_aload_n (pc := 1067) (k := 2) (i := 2) C (by decide +kernel) rfl rfl ?_
  refine zs_cvRi (pc := 1068) (As := []) (st := []) C rfl (c_X12_thrown l g ) ml_RL_156 rfl rfl rfl rfl (Nat.le_of_ble_eq_true rfl) ⟨Nat.le_of_ble_eq_true rfl, Nat.le_of_ble_eq_true rfl⟩ (by constructor <;> simp only [rmd] <;> omega) (by decide +kernel) (fun t3 => ?_)
  refine zs_iload (pc := 1071) (i := 5) C (by decide +kernel) rfl ?_
  refine zs_icmp_eq (pc := 1073) (off := 5) (tgt := 1078) C (by decide +kernel) (by decide) ?_ zs_none
  refine zs_iload (pc := 1078) (i := 5) C (by decide +kernel) rfl ?_
  refine zs_if_ne (pc := 1080) (off := 15) (tgt := 1095) C (by decide +kernel) (by decide) ?_ ?_
  · refine zs_goto (pc := 1095) (off := 1967) (tgt := 3062) C (by decide +kernel) (by decide) ?_
    exact zs_sub (ls' := [(0, sS), (1, sR 0), (2, sR 287), (3, sR 312), (4, sI i)]) ⟨rfl, rfl, rfl, rfl, rfl, trivial⟩ (K _ _ (by simp only [rmd]; omega) (by simp only [rmd]; omega))
  · refine zs_aload_n (pc := 1083) (k := 3) (i := 3) C (by decide +kernel) rfl rfl ?_
    refine zs_iconst (pc := 1084) (n := 0) (x := 0) C (by decide +kernel) (by decide +kernel) ?_
    refine zs_laldk (pc := 1085) (o := 312) (n := 1) (i := 0) C ⟨by decide, by decide⟩ (by decide +kernel) rfl (fun z4 => ?_)
    refine zs_iload (pc := 1086) (i := 6) C (by decide +kernel) rfl ?_
    refine zs_i2l (pc := 1088) C (by decide +kernel) ?_
    refine zs_lcmp_eq (pc := 1089) (off := 5) (tgt := 1095) C (by decide +kernel) (by decide +kernel) (by decide) ?_ zs_none
    refine zs_goto (pc := 1095) (off := 1967) (tgt := 3062) C (by decide +kernel) (by decide) ?_
    exact zs_sub (ls' := [(0, sS), (1, sR 0), (2, sR 287), (3, sR 312), (4, sI i)]) ⟨rfl, rfl, rfl, rfl, rfl, trivial⟩ (K _ _ (by simp only [rmd]; omega) (by simp only [rmd]; omega))

set_option maxRecDepth 20000 in
theorem lc_14 {p : Program} {l : Launch} {e : Env} {s : State} {m : MethodId} {args : Array Value} {below : List Frame} {meth : Method} {c : Code} {g : GC} {L : Nat} {xs : Nat → Int32} {i : Int} {kc ks : Nat} {Q : State → Prop} {PK : Mem → Option Unit} (C : Bd g RL code 8 p s m args meth c) (hX : ScrX g L xs s) (hl : l.stackTraces = false) (hi : 0 ≤ i ∧ i + 6 ≤ (L : Int)) (hk : kc + 8 ≤ room_1.cells ∧ ks + 48 ≤ room_1.slots)
    (K : ∀ kc' ks', kc' ≤ kc + 8 → ks' ≤ ks + 48 → Sim p l e room_1 s m args below meth c g 8 (fun (_ : Unit) _ => Q) kc' ks' 3062 [(0, sS), (1, sR 0), (2, sR 287), (3, sR 312), (4, sI i)] [] PK) : Sim p l e room_1 s m args below meth c g 8 (fun (_ : Unit) _ => Q) kc ks 1098 [(0, sS), (1, sR 0), (2, sR 287), (3, sR 312), (4, sI i)] [] (PX (fun mm => fL_perform (ar xs i 1) mm) (fun mm => fX12_perform (ar xs i 1) mm) PK) := by
  obtain ⟨hk1, hk2⟩ := hk
  unfold PX
  refine zs_aload_n (pc := 1098) (k := 1) (i := 1) C (by decide +kernel) rfl rfl ?_
  refine zl_arg (pc := 1099) (j := 1) (ls := [(0, sS), (1, sR 0), (2, sR 287), (3, sR 312), (4, sI i)]) C hX hi (by decide) rfl rfl (by decide +kernel) (by decide +kernel) (by decide +kernel) (by decide +kernel) (by decide +kernel) (by decide +kernel) ?_
  refine zs_aload_n (pc := 1105) (k := 3) (i := 3) C (by decide +kernel) rfl rfl ?_
  refine zs_csX (pc := 1106) (As := [sR 0, sI (ar xs i 1), sR 312]) (st := []) C (fun _ _ _ => rfl) rfl (c_L_perform l g hl (ar xs i 1)) mx_200 rfl rfl (Nat.le_of_ble_eq_true rfl) ⟨Nat.le_of_ble_eq_true rfl, Nat.le_of_ble_eq_true rfl⟩ (by constructor <;> simp only [rmd] <;> omega) (by decide +kernel) (fun k1 => ?_)
  refine zs_istore (pc := 1109) (i := 5) (ls' := [(5, sI k1), (0, sS), (1, sR 0), (2, sR 287), (3, sR 312), (4, sI i)]) C (by decide +kernel) (Nat.le_of_ble_eq_true rfl) rfl ?_
  refine zs_aload_n (pc := 1111) (k := 2) (i := 2) C (by decide +kernel) rfl rfl ?_
  refine zl_arg (pc := 1112) (j := 1) (ls := [(5, sI k1), (0, sS), (1, sR 0), (2, sR 287), (3, sR 312), (4, sI i)]) C hX hi (by decide) rfl rfl (by decide +kernel) (by decide +kernel) (by decide +kernel) (by decide +kernel) (by decide +kernel) (by decide +kernel) ?_
  refine zs_cvWi (pc := 1118) (As := [sI (ar xs i 1)]) (st := []) C (fun _ _ _ => rfl) rfl (c_X12_perform l g (ar xs i 1)) ml_RL_202 rfl rfl rfl rfl (Nat.le_of_ble_eq_true rfl) ⟨Nat.le_of_ble_eq_true rfl, Nat.le_of_ble_eq_true rfl⟩ (by constructor <;> simp only [rmd] <;> omega) (by decide +kernel) (fun v2 => ?_)
  refine zs_istore (pc := 1121) (i := 6) (ls' := [(6, sI v2), (5, sI k1), (0, sS), (1, sR 0), (2, sR 287), (3, sR 312), (4, sI i)]) C (by decide +kernel) (Nat.le_of_ble_eq_true rfl) rfl ?_
  refine zs_aload_n (pc := 1123) (k := 2) (i := 2) C (by decide +kernel) rfl rfl ?_
  refine zs_cvRi (pc := 1124) (As := []) (st := []) C rfl (c_X12_thrown l g ) ml_RL_156 rfl rfl rfl rfl (Nat.le_of_ble_eq_true rfl) ⟨Nat.le_of_ble_eq_true rfl, Nat.le_of_ble_eq_true rfl⟩ (by constructor <;> simp only [rmd] <;> omega) (by decide +kernel) (fun t3 => ?_)
  refine zs_iload (pc := 1127) (i := 5) C (by decide +kernel) rfl ?_
  refine zs_icmp_eq (pc := 1129) (off := 5) (tgt := 1134) C (by decide +kernel) (by decide) ?_ zs_none
  refine zs_iload (pc := 1134) (i := 5) C (by decide +kernel) rfl ?_
  refine zs_if_ne (pc := 1136) (off := 15) (tgt := 1151) C (by decide +kernel) (by decide) ?_ ?_
  · refine zs_goto (pc := 1151) (off := 1911) (tgt := 3062) C (by decide +kernel) (by decide) ?_
    exact zs_sub (ls' := [(0, sS), (1, sR 0), (2, sR 287), (3, sR 312), (4, sI i)]) ⟨rfl, rfl, rfl, rfl, rfl, trivial⟩ (K _ _ (by simp only [rmd]; omega) (by simp only [rmd]; omega))
  · refine zs_aload_n (pc := 1139) (k := 3) (i := 3) C (by decide +kernel) rfl rfl ?_
    refine zs_iconst (pc := 1140) (n := 0) (x := 0) C (by decide +kernel) (by decide +kernel) ?_
    refine zs_laldk (pc := 1141) (o := 312) (n := 1) (i := 0) C ⟨by decide, by decide⟩ (by decide +kernel) rfl (fun z4 => ?_)
    refine zs_iload (pc := 1142) (i := 6) C (by decide +kernel) rfl ?_
    refine zs_i2l (pc := 1144) C (by decide +kernel) ?_
    refine zs_lcmp_eq (pc := 1145) (off := 5) (tgt := 1151) C (by decide +kernel) (by decide +kernel) (by decide) ?_ zs_none
    refine zs_goto (pc := 1151) (off := 1911) (tgt := 3062) C (by decide +kernel) (by decide) ?_
    exact zs_sub (ls' := [(0, sS), (1, sR 0), (2, sR 287), (3, sR 312), (4, sI i)]) ⟨rfl, rfl, rfl, rfl, rfl, trivial⟩ (K _ _ (by simp only [rmd]; omega) (by simp only [rmd]; omega))

set_option maxRecDepth 20000 in
theorem lc_15 {p : Program} {l : Launch} {e : Env} {s : State} {m : MethodId} {args : Array Value} {below : List Frame} {meth : Method} {c : Code} {g : GC} {L : Nat} {xs : Nat → Int32} {i : Int} {kc ks : Nat} {Q : State → Prop} {PK : Mem → Option Unit} (C : Bd g RL code 8 p s m args meth c) (hX : ScrX g L xs s) (hl : l.stackTraces = false) (hi : 0 ≤ i ∧ i + 6 ≤ (L : Int)) (hk : kc + 8 ≤ room_1.cells ∧ ks + 48 ≤ room_1.slots)
    (K : ∀ kc' ks', kc' ≤ kc + 8 → ks' ≤ ks + 48 → Sim p l e room_1 s m args below meth c g 8 (fun (_ : Unit) _ => Q) kc' ks' 3062 [(0, sS), (1, sR 0), (2, sR 287), (3, sR 312), (4, sI i)] [] PK) : Sim p l e room_1 s m args below meth c g 8 (fun (_ : Unit) _ => Q) kc ks 1154 [(0, sS), (1, sR 0), (2, sR 287), (3, sR 312), (4, sI i)] [] (PX (fun mm => fL_season (ar xs i 1) (ar xs i 2) mm) (fun mm => fX12_season (ar xs i 1) (ar xs i 2) mm) PK) := by
  obtain ⟨hk1, hk2⟩ := hk
  unfold PX
  refine zs_aload_n (pc := 1154) (k := 1) (i := 1) C (by decide +kernel) rfl rfl ?_
  refine zl_arg (pc := 1155) (j := 1) (ls := [(0, sS), (1, sR 0), (2, sR 287), (3, sR 312), (4, sI i)]) C hX hi (by decide) rfl rfl (by decide +kernel) (by decide +kernel) (by decide +kernel) (by decide +kernel) (by decide +kernel) (by decide +kernel) ?_
  refine zl_arg (pc := 1161) (j := 2) (ls := [(0, sS), (1, sR 0), (2, sR 287), (3, sR 312), (4, sI i)]) C hX hi (by decide) rfl rfl (by decide +kernel) (by decide +kernel) (by decide +kernel) (by decide +kernel) (by decide +kernel) (by decide +kernel) ?_
  refine zs_aload_n (pc := 1167) (k := 3) (i := 3) C (by decide +kernel) rfl rfl ?_
  refine zs_csX (pc := 1168) (As := [sR 0, sI (ar xs i 1), sI (ar xs i 2), sR 312]) (st := []) C (fun _ _ _ => rfl) rfl (c_L_season l g hl (ar xs i 1) (ar xs i 2)) mx_203 rfl rfl (Nat.le_of_ble_eq_true rfl) ⟨Nat.le_of_ble_eq_true rfl, Nat.le_of_ble_eq_true rfl⟩ (by constructor <;> simp only [rmd] <;> omega) (by decide +kernel) (fun k1 => ?_)
  refine zs_istore (pc := 1171) (i := 5) (ls' := [(5, sI k1), (0, sS), (1, sR 0), (2, sR 287), (3, sR 312), (4, sI i)]) C (by decide +kernel) (Nat.le_of_ble_eq_true rfl) rfl ?_
  refine zs_aload_n (pc := 1173) (k := 2) (i := 2) C (by decide +kernel) rfl rfl ?_
  refine zl_arg (pc := 1174) (j := 1) (ls := [(5, sI k1), (0, sS), (1, sR 0), (2, sR 287), (3, sR 312), (4, sI i)]) C hX hi (by decide) rfl rfl (by decide +kernel) (by decide +kernel) (by decide +kernel) (by decide +kernel) (by decide +kernel) (by decide +kernel) ?_
  refine zl_arg (pc := 1180) (j := 2) (ls := [(5, sI k1), (0, sS), (1, sR 0), (2, sR 287), (3, sR 312), (4, sI i)]) C hX hi (by decide) rfl rfl (by decide +kernel) (by decide +kernel) (by decide +kernel) (by decide +kernel) (by decide +kernel) (by decide +kernel) ?_
  refine zs_cvWi (pc := 1186) (As := [sI (ar xs i 1), sI (ar xs i 2)]) (st := []) C (fun _ _ _ => rfl) rfl (c_X12_season l g (ar xs i 1) (ar xs i 2)) ml_RL_205 rfl rfl rfl rfl (Nat.le_of_ble_eq_true rfl) ⟨Nat.le_of_ble_eq_true rfl, Nat.le_of_ble_eq_true rfl⟩ (by constructor <;> simp only [rmd] <;> omega) (by decide +kernel) (fun v2 => ?_)
  refine zs_istore (pc := 1189) (i := 6) (ls' := [(6, sI v2), (5, sI k1), (0, sS), (1, sR 0), (2, sR 287), (3, sR 312), (4, sI i)]) C (by decide +kernel) (Nat.le_of_ble_eq_true rfl) rfl ?_
  refine zs_aload_n (pc := 1191) (k := 2) (i := 2) C (by decide +kernel) rfl rfl ?_
  refine zs_cvRi (pc := 1192) (As := []) (st := []) C rfl (c_X12_thrown l g ) ml_RL_156 rfl rfl rfl rfl (Nat.le_of_ble_eq_true rfl) ⟨Nat.le_of_ble_eq_true rfl, Nat.le_of_ble_eq_true rfl⟩ (by constructor <;> simp only [rmd] <;> omega) (by decide +kernel) (fun t3 => ?_)
  refine zs_iload (pc := 1195) (i := 5) C (by decide +kernel) rfl ?_
  refine zs_icmp_eq (pc := 1197) (off := 5) (tgt := 1202) C (by decide +kernel) (by decide) ?_ zs_none
  refine zs_iload (pc := 1202) (i := 5) C (by decide +kernel) rfl ?_
  refine zs_if_ne (pc := 1204) (off := 15) (tgt := 1219) C (by decide +kernel) (by decide) ?_ ?_
  · refine zs_goto (pc := 1219) (off := 1843) (tgt := 3062) C (by decide +kernel) (by decide) ?_
    exact zs_sub (ls' := [(0, sS), (1, sR 0), (2, sR 287), (3, sR 312), (4, sI i)]) ⟨rfl, rfl, rfl, rfl, rfl, trivial⟩ (K _ _ (by simp only [rmd]; omega) (by simp only [rmd]; omega))
  · refine zs_aload_n (pc := 1207) (k := 3) (i := 3) C (by decide +kernel) rfl rfl ?_
    refine zs_iconst (pc := 1208) (n := 0) (x := 0) C (by decide +kernel) (by decide +kernel) ?_
    refine zs_laldk (pc := 1209) (o := 312) (n := 1) (i := 0) C ⟨by decide, by decide⟩ (by decide +kernel) rfl (fun z4 => ?_)
    refine zs_iload (pc := 1210) (i := 6) C (by decide +kernel) rfl ?_
    refine zs_i2l (pc := 1212) C (by decide +kernel) ?_
    refine zs_lcmp_eq (pc := 1213) (off := 5) (tgt := 1219) C (by decide +kernel) (by decide +kernel) (by decide) ?_ zs_none
    refine zs_goto (pc := 1219) (off := 1843) (tgt := 3062) C (by decide +kernel) (by decide) ?_
    exact zs_sub (ls' := [(0, sS), (1, sR 0), (2, sR 287), (3, sR 312), (4, sI i)]) ⟨rfl, rfl, rfl, rfl, rfl, trivial⟩ (K _ _ (by simp only [rmd]; omega) (by simp only [rmd]; omega))

set_option maxRecDepth 20000 in
theorem lc_16 {p : Program} {l : Launch} {e : Env} {s : State} {m : MethodId} {args : Array Value} {below : List Frame} {meth : Method} {c : Code} {g : GC} {L : Nat} {xs : Nat → Int32} {i : Int} {kc ks : Nat} {Q : State → Prop} {PK : Mem → Option Unit} (C : Bd g RL code 8 p s m args meth c) (hX : ScrX g L xs s) (hl : l.stackTraces = false) (hi : 0 ≤ i ∧ i + 6 ≤ (L : Int)) (hk : kc + 8 ≤ room_1.cells ∧ ks + 48 ≤ room_1.slots)
    (K : ∀ kc' ks', kc' ≤ kc + 8 → ks' ≤ ks + 48 → Sim p l e room_1 s m args below meth c g 8 (fun (_ : Unit) _ => Q) kc' ks' 3062 [(0, sS), (1, sR 0), (2, sR 287), (3, sR 312), (4, sI i)] [] PK) : Sim p l e room_1 s m args below meth c g 8 (fun (_ : Unit) _ => Q) kc ks 1222 [(0, sS), (1, sR 0), (2, sR 287), (3, sR 312), (4, sI i)] [] (PX (fun mm => fL_partsIn (ar xs i 1) mm) (fun mm => fX12_partsIn (ar xs i 1) mm) PK) := by
  obtain ⟨hk1, hk2⟩ := hk
  unfold PX
  refine zs_aload_n (pc := 1222) (k := 1) (i := 1) C (by decide +kernel) rfl rfl ?_
  refine zl_arg (pc := 1223) (j := 1) (ls := [(0, sS), (1, sR 0), (2, sR 287), (3, sR 312), (4, sI i)]) C hX hi (by decide) rfl rfl (by decide +kernel) (by decide +kernel) (by decide +kernel) (by decide +kernel) (by decide +kernel) (by decide +kernel) ?_
  refine zs_aload_n (pc := 1229) (k := 3) (i := 3) C (by decide +kernel) rfl rfl ?_
  refine zs_csX (pc := 1230) (As := [sR 0, sI (ar xs i 1), sR 312]) (st := []) C (fun _ _ _ => rfl) rfl (c_L_partsIn l g hl (ar xs i 1)) mx_206 rfl rfl (Nat.le_of_ble_eq_true rfl) ⟨Nat.le_of_ble_eq_true rfl, Nat.le_of_ble_eq_true rfl⟩ (by constructor <;> simp only [rmd] <;> omega) (by decide +kernel) (fun k1 => ?_)
  refine zs_istore (pc := 1233) (i := 5) (ls' := [(5, sI k1), (0, sS), (1, sR 0), (2, sR 287), (3, sR 312), (4, sI i)]) C (by decide +kernel) (Nat.le_of_ble_eq_true rfl) rfl ?_
  refine zs_aload_n (pc := 1235) (k := 2) (i := 2) C (by decide +kernel) rfl rfl ?_
  refine zl_arg (pc := 1236) (j := 1) (ls := [(5, sI k1), (0, sS), (1, sR 0), (2, sR 287), (3, sR 312), (4, sI i)]) C hX hi (by decide) rfl rfl (by decide +kernel) (by decide +kernel) (by decide +kernel) (by decide +kernel) (by decide +kernel) (by decide +kernel) ?_
  refine zs_cvWi (pc := 1242) (As := [sI (ar xs i 1)]) (st := []) C (fun _ _ _ => rfl) rfl (c_X12_partsIn l g (ar xs i 1)) ml_RL_208 rfl rfl rfl rfl (Nat.le_of_ble_eq_true rfl) ⟨Nat.le_of_ble_eq_true rfl, Nat.le_of_ble_eq_true rfl⟩ (by constructor <;> simp only [rmd] <;> omega) (by decide +kernel) (fun v2 => ?_)
  refine zs_istore (pc := 1245) (i := 6) (ls' := [(6, sI v2), (5, sI k1), (0, sS), (1, sR 0), (2, sR 287), (3, sR 312), (4, sI i)]) C (by decide +kernel) (Nat.le_of_ble_eq_true rfl) rfl ?_
  refine zs_aload_n (pc := 1247) (k := 2) (i := 2) C (by decide +kernel) rfl rfl ?_
  refine zs_cvRi (pc := 1248) (As := []) (st := []) C rfl (c_X12_thrown l g ) ml_RL_156 rfl rfl rfl rfl (Nat.le_of_ble_eq_true rfl) ⟨Nat.le_of_ble_eq_true rfl, Nat.le_of_ble_eq_true rfl⟩ (by constructor <;> simp only [rmd] <;> omega) (by decide +kernel) (fun t3 => ?_)
  refine zs_iload (pc := 1251) (i := 5) C (by decide +kernel) rfl ?_
  refine zs_icmp_eq (pc := 1253) (off := 5) (tgt := 1258) C (by decide +kernel) (by decide) ?_ zs_none
  refine zs_iload (pc := 1258) (i := 5) C (by decide +kernel) rfl ?_
  refine zs_if_ne (pc := 1260) (off := 15) (tgt := 1275) C (by decide +kernel) (by decide) ?_ ?_
  · refine zs_goto (pc := 1275) (off := 1787) (tgt := 3062) C (by decide +kernel) (by decide) ?_
    exact zs_sub (ls' := [(0, sS), (1, sR 0), (2, sR 287), (3, sR 312), (4, sI i)]) ⟨rfl, rfl, rfl, rfl, rfl, trivial⟩ (K _ _ (by simp only [rmd]; omega) (by simp only [rmd]; omega))
  · refine zs_aload_n (pc := 1263) (k := 3) (i := 3) C (by decide +kernel) rfl rfl ?_
    refine zs_iconst (pc := 1264) (n := 0) (x := 0) C (by decide +kernel) (by decide +kernel) ?_
    refine zs_laldk (pc := 1265) (o := 312) (n := 1) (i := 0) C ⟨by decide, by decide⟩ (by decide +kernel) rfl (fun z4 => ?_)
    refine zs_iload (pc := 1266) (i := 6) C (by decide +kernel) rfl ?_
    refine zs_i2l (pc := 1268) C (by decide +kernel) ?_
    refine zs_lcmp_eq (pc := 1269) (off := 5) (tgt := 1275) C (by decide +kernel) (by decide +kernel) (by decide) ?_ zs_none
    refine zs_goto (pc := 1275) (off := 1787) (tgt := 3062) C (by decide +kernel) (by decide) ?_
    exact zs_sub (ls' := [(0, sS), (1, sR 0), (2, sR 287), (3, sR 312), (4, sI i)]) ⟨rfl, rfl, rfl, rfl, rfl, trivial⟩ (K _ _ (by simp only [rmd]; omega) (by simp only [rmd]; omega))

set_option maxRecDepth 20000 in
theorem lc_17 {p : Program} {l : Launch} {e : Env} {s : State} {m : MethodId} {args : Array Value} {below : List Frame} {meth : Method} {c : Code} {g : GC} {L : Nat} {xs : Nat → Int32} {i : Int} {kc ks : Nat} {Q : State → Prop} {PK : Mem → Option Unit} (C : Bd g RL code 8 p s m args meth c) (hX : ScrX g L xs s) (hl : l.stackTraces = false) (hi : 0 ≤ i ∧ i + 6 ≤ (L : Int)) (hk : kc + 8 ≤ room_1.cells ∧ ks + 48 ≤ room_1.slots)
    (K : ∀ kc' ks', kc' ≤ kc + 8 → ks' ≤ ks + 48 → Sim p l e room_1 s m args below meth c g 8 (fun (_ : Unit) _ => Q) kc' ks' 3062 [(0, sS), (1, sR 0), (2, sR 287), (3, sR 312), (4, sI i)] [] PK) : Sim p l e room_1 s m args below meth c g 8 (fun (_ : Unit) _ => Q) kc ks 1278 [(0, sS), (1, sR 0), (2, sR 287), (3, sR 312), (4, sI i)] [] (PX (fun mm => fL_lasts (ar xs i 1) mm) (fun mm => fX12_lasts (ar xs i 1) mm) PK) := by
  obtain ⟨hk1, hk2⟩ := hk
  unfold PX
  refine zs_aload_n (pc := 1278) (k := 1) (i := 1) C (by decide +kernel) rfl rfl ?_
  refine zl_arg (pc := 1279) (j := 1) (ls := [(0, sS), (1, sR 0), (2, sR 287), (3, sR 312), (4, sI i)]) C hX hi (by decide) rfl rfl (by decide +kernel) (by decide +kernel) (by decide +kernel) (by decide +kernel) (by decide +kernel) (by decide +kernel) ?_
  refine zs_aload_n (pc := 1285) (k := 3) (i := 3) C (by decide +kernel) rfl rfl ?_
  refine zs_csX (pc := 1286) (As := [sR 0, sI (ar xs i 1), sR 312]) (st := []) C (fun _ _ _ => rfl) rfl (c_L_lasts l g hl (ar xs i 1)) mx_209 rfl rfl (Nat.le_of_ble_eq_true rfl) ⟨Nat.le_of_ble_eq_true rfl, Nat.le_of_ble_eq_true rfl⟩ (by constructor <;> simp only [rmd] <;> omega) (by decide +kernel) (fun k1 => ?_)
  refine zs_istore (pc := 1289) (i := 5) (ls' := [(5, sI k1), (0, sS), (1, sR 0), (2, sR 287), (3, sR 312), (4, sI i)]) C (by decide +kernel) (Nat.le_of_ble_eq_true rfl) rfl ?_
  refine zs_aload_n (pc := 1291) (k := 2) (i := 2) C (by decide +kernel) rfl rfl ?_
  refine zl_arg (pc := 1292) (j := 1) (ls := [(5, sI k1), (0, sS), (1, sR 0), (2, sR 287), (3, sR 312), (4, sI i)]) C hX hi (by decide) rfl rfl (by decide +kernel) (by decide +kernel) (by decide +kernel) (by decide +kernel) (by decide +kernel) (by decide +kernel) ?_
  refine zs_cvWi (pc := 1298) (As := [sI (ar xs i 1)]) (st := []) C (fun _ _ _ => rfl) rfl (c_X12_lasts l g (ar xs i 1)) ml_RL_211 rfl rfl rfl rfl (Nat.le_of_ble_eq_true rfl) ⟨Nat.le_of_ble_eq_true rfl, Nat.le_of_ble_eq_true rfl⟩ (by constructor <;> simp only [rmd] <;> omega) (by decide +kernel) (fun v2 => ?_)
  refine zs_istore (pc := 1301) (i := 6) (ls' := [(6, sI v2), (5, sI k1), (0, sS), (1, sR 0), (2, sR 287), (3, sR 312), (4, sI i)]) C (by decide +kernel) (Nat.le_of_ble_eq_true rfl) rfl ?_
  refine zs_aload_n (pc := 1303) (k := 2) (i := 2) C (by decide +kernel) rfl rfl ?_
  refine zs_cvRi (pc := 1304) (As := []) (st := []) C rfl (c_X12_thrown l g ) ml_RL_156 rfl rfl rfl rfl (Nat.le_of_ble_eq_true rfl) ⟨Nat.le_of_ble_eq_true rfl, Nat.le_of_ble_eq_true rfl⟩ (by constructor <;> simp only [rmd] <;> omega) (by decide +kernel) (fun t3 => ?_)
  refine zs_iload (pc := 1307) (i := 5) C (by decide +kernel) rfl ?_
  refine zs_icmp_eq (pc := 1309) (off := 5) (tgt := 1314) C (by decide +kernel) (by decide) ?_ zs_none
  refine zs_iload (pc := 1314) (i := 5) C (by decide +kernel) rfl ?_
  refine zs_if_ne (pc := 1316) (off := 15) (tgt := 1331) C (by decide +kernel) (by decide) ?_ ?_
  · refine zs_goto (pc := 1331) (off := 1731) (tgt := 3062) C (by decide +kernel) (by decide) ?_
    exact zs_sub (ls' := [(0, sS), (1, sR 0), (2, sR 287), (3, sR 312), (4, sI i)]) ⟨rfl, rfl, rfl, rfl, rfl, trivial⟩ (K _ _ (by simp only [rmd]; omega) (by simp only [rmd]; omega))
  · refine zs_aload_n (pc := 1319) (k := 3) (i := 3) C (by decide +kernel) rfl rfl ?_
    refine zs_iconst (pc := 1320) (n := 0) (x := 0) C (by decide +kernel) (by decide +kernel) ?_
    refine zs_laldk (pc := 1321) (o := 312) (n := 1) (i := 0) C ⟨by decide, by decide⟩ (by decide +kernel) rfl (fun z4 => ?_)
    refine zs_iload (pc := 1322) (i := 6) C (by decide +kernel) rfl ?_
    refine zs_i2l (pc := 1324) C (by decide +kernel) ?_
    refine zs_lcmp_eq (pc := 1325) (off := 5) (tgt := 1331) C (by decide +kernel) (by decide +kernel) (by decide) ?_ zs_none
    refine zs_goto (pc := 1331) (off := 1731) (tgt := 3062) C (by decide +kernel) (by decide) ?_
    exact zs_sub (ls' := [(0, sS), (1, sR 0), (2, sR 287), (3, sR 312), (4, sI i)]) ⟨rfl, rfl, rfl, rfl, rfl, trivial⟩ (K _ _ (by simp only [rmd]; omega) (by simp only [rmd]; omega))

set_option maxRecDepth 20000 in
theorem lc_18 {p : Program} {l : Launch} {e : Env} {s : State} {m : MethodId} {args : Array Value} {below : List Frame} {meth : Method} {c : Code} {g : GC} {L : Nat} {xs : Nat → Int32} {i : Int} {kc ks : Nat} {Q : State → Prop} {PK : Mem → Option Unit} (C : Bd g RL code 8 p s m args meth c) (hX : ScrX g L xs s) (hl : l.stackTraces = false) (hi : 0 ≤ i ∧ i + 6 ≤ (L : Int)) (hk : kc + 8 ≤ room_1.cells ∧ ks + 48 ≤ room_1.slots)
    (K : ∀ kc' ks', kc' ≤ kc + 8 → ks' ≤ ks + 48 → Sim p l e room_1 s m args below meth c g 8 (fun (_ : Unit) _ => Q) kc' ks' 3062 [(0, sS), (1, sR 0), (2, sR 287), (3, sR 312), (4, sI i)] [] PK) : Sim p l e room_1 s m args below meth c g 8 (fun (_ : Unit) _ => Q) kc ks 1334 [(0, sS), (1, sR 0), (2, sR 287), (3, sR 312), (4, sI i)] [] (PX (fun mm => fL_reach (ar xs i 1) (ar xs i 2) (ar xs i 3) mm) (fun mm => fX12_reach (ar xs i 1) (ar xs i 2) (ar xs i 3) mm) PK) := by
  obtain ⟨hk1, hk2⟩ := hk
  unfold PX
  refine zs_aload_n (pc := 1334) (k := 1) (i := 1) C (by decide +kernel) rfl rfl ?_
  refine zl_arg (pc := 1335) (j := 1) (ls := [(0, sS), (1, sR 0), (2, sR 287), (3, sR 312), (4, sI i)]) C hX hi (by decide) rfl rfl (by decide +kernel) (by decide +kernel) (by decide +kernel) (by decide +kernel) (by decide +kernel) (by decide +kernel) ?_
  refine zl_arg (pc := 1341) (j := 2) (ls := [(0, sS), (1, sR 0), (2, sR 287), (3, sR 312), (4, sI i)]) C hX hi (by decide) rfl rfl (by decide +kernel) (by decide +kernel) (by decide +kernel) (by decide +kernel) (by decide +kernel) (by decide +kernel) ?_
  refine zl_arg (pc := 1347) (j := 3) (ls := [(0, sS), (1, sR 0), (2, sR 287), (3, sR 312), (4, sI i)]) C hX hi (by decide) rfl rfl (by decide +kernel) (by decide +kernel) (by decide +kernel) (by decide +kernel) (by decide +kernel) (by decide +kernel) ?_
  refine zs_aload_n (pc := 1353) (k := 3) (i := 3) C (by decide +kernel) rfl rfl ?_
  refine zs_csX (pc := 1354) (As := [sR 0, sI (ar xs i 1), sI (ar xs i 2), sI (ar xs i 3), sR 312]) (st := []) C (fun _ _ _ => rfl) rfl (c_L_reach l g hl (ar xs i 1) (ar xs i 2) (ar xs i 3)) mx_212 rfl rfl (Nat.le_of_ble_eq_true rfl) ⟨Nat.le_of_ble_eq_true rfl, Nat.le_of_ble_eq_true rfl⟩ (by constructor <;> simp only [rmd] <;> omega) (by decide +kernel) (fun k1 => ?_)
  refine zs_istore (pc := 1357) (i := 5) (ls' := [(5, sI k1), (0, sS), (1, sR 0), (2, sR 287), (3, sR 312), (4, sI i)]) C (by decide +kernel) (Nat.le_of_ble_eq_true rfl) rfl ?_
  refine zs_aload_n (pc := 1359) (k := 2) (i := 2) C (by decide +kernel) rfl rfl ?_
  refine zl_arg (pc := 1360) (j := 1) (ls := [(5, sI k1), (0, sS), (1, sR 0), (2, sR 287), (3, sR 312), (4, sI i)]) C hX hi (by decide) rfl rfl (by decide +kernel) (by decide +kernel) (by decide +kernel) (by decide +kernel) (by decide +kernel) (by decide +kernel) ?_
  refine zl_arg (pc := 1366) (j := 2) (ls := [(5, sI k1), (0, sS), (1, sR 0), (2, sR 287), (3, sR 312), (4, sI i)]) C hX hi (by decide) rfl rfl (by decide +kernel) (by decide +kernel) (by decide +kernel) (by decide +kernel) (by decide +kernel) (by decide +kernel) ?_
  refine zl_arg (pc := 1372) (j := 3) (ls := [(5, sI k1), (0, sS), (1, sR 0), (2, sR 287), (3, sR 312), (4, sI i)]) C hX hi (by decide) rfl rfl (by decide +kernel) (by decide +kernel) (by decide +kernel) (by decide +kernel) (by decide +kernel) (by decide +kernel) ?_
  refine zs_cvWi (pc := 1378) (As := [sI (ar xs i 1), sI (ar xs i 2), sI (ar xs i 3)]) (st := []) C (fun _ _ _ => rfl) rfl (c_X12_reach l g (ar xs i 1) (ar xs i 2) (ar xs i 3)) ml_RL_215 rfl rfl rfl rfl (Nat.le_of_ble_eq_true rfl) ⟨Nat.le_of_ble_eq_true rfl, Nat.le_of_ble_eq_true rfl⟩ (by constructor <;> simp only [rmd] <;> omega) (by decide +kernel) (fun v2 => ?_)
  refine zs_istore (pc := 1381) (i := 6) (ls' := [(6, sI v2), (5, sI k1), (0, sS), (1, sR 0), (2, sR 287), (3, sR 312), (4, sI i)]) C (by decide +kernel) (Nat.le_of_ble_eq_true rfl) rfl ?_
  refine zs_aload_n (pc := 1383) (k := 2) (i := 2) C (by decide +kernel) rfl rfl ?_
  refine zs_cvRi (pc := 1384) (As := []) (st := []) C rfl (c_X12_thrown l g ) ml_RL_156 rfl rfl rfl rfl (Nat.le_of_ble_eq_true rfl) ⟨Nat.le_of_ble_eq_true rfl, Nat.le_of_ble_eq_true rfl⟩ (by constructor <;> simp only [rmd] <;> omega) (by decide +kernel) (fun t3 => ?_)
  refine zs_iload (pc := 1387) (i := 5) C (by decide +kernel) rfl ?_
  refine zs_icmp_eq (pc := 1389) (off := 5) (tgt := 1394) C (by decide +kernel) (by decide) ?_ zs_none
  refine zs_iload (pc := 1394) (i := 5) C (by decide +kernel) rfl ?_
  refine zs_if_ne (pc := 1396) (off := 15) (tgt := 1411) C (by decide +kernel) (by decide) ?_ ?_
  · refine zs_goto (pc := 1411) (off := 1651) (tgt := 3062) C (by decide +kernel) (by decide) ?_
    exact zs_sub (ls' := [(0, sS), (1, sR 0), (2, sR 287), (3, sR 312), (4, sI i)]) ⟨rfl, rfl, rfl, rfl, rfl, trivial⟩ (K _ _ (by simp only [rmd]; omega) (by simp only [rmd]; omega))
  · refine zs_aload_n (pc := 1399) (k := 3) (i := 3) C (by decide +kernel) rfl rfl ?_
    refine zs_iconst (pc := 1400) (n := 0) (x := 0) C (by decide +kernel) (by decide +kernel) ?_
    refine zs_laldk (pc := 1401) (o := 312) (n := 1) (i := 0) C ⟨by decide, by decide⟩ (by decide +kernel) rfl (fun z4 => ?_)
    refine zs_iload (pc := 1402) (i := 6) C (by decide +kernel) rfl ?_
    refine zs_i2l (pc := 1404) C (by decide +kernel) ?_
    refine zs_lcmp_eq (pc := 1405) (off := 5) (tgt := 1411) C (by decide +kernel) (by decide +kernel) (by decide) ?_ zs_none
    refine zs_goto (pc := 1411) (off := 1651) (tgt := 3062) C (by decide +kernel) (by decide) ?_
    exact zs_sub (ls' := [(0, sS), (1, sR 0), (2, sR 287), (3, sR 312), (4, sI i)]) ⟨rfl, rfl, rfl, rfl, rfl, trivial⟩ (K _ _ (by simp only [rmd]; omega) (by simp only [rmd]; omega))

set_option maxRecDepth 20000 in
theorem lc_19 {p : Program} {l : Launch} {e : Env} {s : State} {m : MethodId} {args : Array Value} {below : List Frame} {meth : Method} {c : Code} {g : GC} {L : Nat} {xs : Nat → Int32} {i : Int} {kc ks : Nat} {Q : State → Prop} {PK : Mem → Option Unit} (C : Bd g RL code 8 p s m args meth c) (hX : ScrX g L xs s) (hl : l.stackTraces = false) (hi : 0 ≤ i ∧ i + 6 ≤ (L : Int)) (hk : kc + 8 ≤ room_1.cells ∧ ks + 48 ≤ room_1.slots)
    (K : ∀ kc' ks', kc' ≤ kc + 8 → ks' ≤ ks + 48 → Sim p l e room_1 s m args below meth c g 8 (fun (_ : Unit) _ => Q) kc' ks' 3062 [(0, sS), (1, sR 0), (2, sR 287), (3, sR 312), (4, sI i)] [] PK) : Sim p l e room_1 s m args below meth c g 8 (fun (_ : Unit) _ => Q) kc ks 1414 [(0, sS), (1, sR 0), (2, sR 287), (3, sR 312), (4, sI i)] [] (PX (fun mm => fL_together (ar xs i 1) (ar xs i 2) mm) (fun mm => fX12_together (ar xs i 1) (ar xs i 2) mm) PK) := by
  obtain ⟨hk1, hk2⟩ := hk
  unfold PX
  refine zs_aload_n (pc := 1414) (k := 1) (i := 1) C (by decide +kernel) rfl rfl ?_
  refine zl_arg (pc := 1415) (j := 1) (ls := [(0, sS), (1, sR 0), (2, sR 287), (3, sR 312), (4, sI i)]) C hX hi (by decide) rfl rfl (by decide +kernel) (by decide +kernel) (by decide +kernel) (by decide +kernel) (by decide +kernel) (by decide +kernel) ?_
  refine zl_arg (pc := 1421) (j := 2) (ls := [(0, sS), (1, sR 0), (2, sR 287), (3, sR 312), (4, sI i)]) C hX hi (by decide) rfl rfl (by decide +kernel) (by decide +kernel) (by decide +kernel) (by decide +kernel) (by decide +kernel) (by decide +kernel) ?_
  refine zs_aload_n (pc := 1427) (k := 3) (i := 3) C (by decide +kernel) rfl rfl ?_
  refine zs_csX (pc := 1428) (As := [sR 0, sI (ar xs i 1), sI (ar xs i 2), sR 312]) (st := []) C (fun _ _ _ => rfl) rfl (c_L_together l g hl (ar xs i 1) (ar xs i 2)) mx_216 rfl rfl (Nat.le_of_ble_eq_true rfl) ⟨Nat.le_of_ble_eq_true rfl, Nat.le_of_ble_eq_true rfl⟩ (by constructor <;> simp only [rmd] <;> omega) (by decide +kernel) (fun k1 => ?_)
  refine zs_istore (pc := 1431) (i := 5) (ls' := [(5, sI k1), (0, sS), (1, sR 0), (2, sR 287), (3, sR 312), (4, sI i)]) C (by decide +kernel) (Nat.le_of_ble_eq_true rfl) rfl ?_
  refine zs_aload_n (pc := 1433) (k := 2) (i := 2) C (by decide +kernel) rfl rfl ?_
  refine zl_arg (pc := 1434) (j := 1) (ls := [(5, sI k1), (0, sS), (1, sR 0), (2, sR 287), (3, sR 312), (4, sI i)]) C hX hi (by decide) rfl rfl (by decide +kernel) (by decide +kernel) (by decide +kernel) (by decide +kernel) (by decide +kernel) (by decide +kernel) ?_
  refine zl_arg (pc := 1440) (j := 2) (ls := [(5, sI k1), (0, sS), (1, sR 0), (2, sR 287), (3, sR 312), (4, sI i)]) C hX hi (by decide) rfl rfl (by decide +kernel) (by decide +kernel) (by decide +kernel) (by decide +kernel) (by decide +kernel) (by decide +kernel) ?_
  refine zs_cvWi (pc := 1446) (As := [sI (ar xs i 1), sI (ar xs i 2)]) (st := []) C (fun _ _ _ => rfl) rfl (c_X12_together l g (ar xs i 1) (ar xs i 2)) ml_RL_218 rfl rfl rfl rfl (Nat.le_of_ble_eq_true rfl) ⟨Nat.le_of_ble_eq_true rfl, Nat.le_of_ble_eq_true rfl⟩ (by constructor <;> simp only [rmd] <;> omega) (by decide +kernel) (fun v2 => ?_)
  refine zs_istore (pc := 1449) (i := 6) (ls' := [(6, sI v2), (5, sI k1), (0, sS), (1, sR 0), (2, sR 287), (3, sR 312), (4, sI i)]) C (by decide +kernel) (Nat.le_of_ble_eq_true rfl) rfl ?_
  refine zs_aload_n (pc := 1451) (k := 2) (i := 2) C (by decide +kernel) rfl rfl ?_
  refine zs_cvRi (pc := 1452) (As := []) (st := []) C rfl (c_X12_thrown l g ) ml_RL_156 rfl rfl rfl rfl (Nat.le_of_ble_eq_true rfl) ⟨Nat.le_of_ble_eq_true rfl, Nat.le_of_ble_eq_true rfl⟩ (by constructor <;> simp only [rmd] <;> omega) (by decide +kernel) (fun t3 => ?_)
  refine zs_iload (pc := 1455) (i := 5) C (by decide +kernel) rfl ?_
  refine zs_icmp_eq (pc := 1457) (off := 5) (tgt := 1462) C (by decide +kernel) (by decide) ?_ zs_none
  refine zs_iload (pc := 1462) (i := 5) C (by decide +kernel) rfl ?_
  refine zs_if_ne (pc := 1464) (off := 15) (tgt := 1479) C (by decide +kernel) (by decide) ?_ ?_
  · refine zs_goto (pc := 1479) (off := 1583) (tgt := 3062) C (by decide +kernel) (by decide) ?_
    exact zs_sub (ls' := [(0, sS), (1, sR 0), (2, sR 287), (3, sR 312), (4, sI i)]) ⟨rfl, rfl, rfl, rfl, rfl, trivial⟩ (K _ _ (by simp only [rmd]; omega) (by simp only [rmd]; omega))
  · refine zs_aload_n (pc := 1467) (k := 3) (i := 3) C (by decide +kernel) rfl rfl ?_
    refine zs_iconst (pc := 1468) (n := 0) (x := 0) C (by decide +kernel) (by decide +kernel) ?_
    refine zs_laldk (pc := 1469) (o := 312) (n := 1) (i := 0) C ⟨by decide, by decide⟩ (by decide +kernel) rfl (fun z4 => ?_)
    refine zs_iload (pc := 1470) (i := 6) C (by decide +kernel) rfl ?_
    refine zs_i2l (pc := 1472) C (by decide +kernel) ?_
    refine zs_lcmp_eq (pc := 1473) (off := 5) (tgt := 1479) C (by decide +kernel) (by decide +kernel) (by decide) ?_ zs_none
    refine zs_goto (pc := 1479) (off := 1583) (tgt := 3062) C (by decide +kernel) (by decide) ?_
    exact zs_sub (ls' := [(0, sS), (1, sR 0), (2, sR 287), (3, sR 312), (4, sI i)]) ⟨rfl, rfl, rfl, rfl, rfl, trivial⟩ (K _ _ (by simp only [rmd]; omega) (by simp only [rmd]; omega))

set_option maxRecDepth 20000 in
theorem lc_20 {p : Program} {l : Launch} {e : Env} {s : State} {m : MethodId} {args : Array Value} {below : List Frame} {meth : Method} {c : Code} {g : GC} {L : Nat} {xs : Nat → Int32} {i : Int} {kc ks : Nat} {Q : State → Prop} {PK : Mem → Option Unit} (C : Bd g RL code 8 p s m args meth c) (hX : ScrX g L xs s) (hl : l.stackTraces = false) (hi : 0 ≤ i ∧ i + 6 ≤ (L : Int)) (hk : kc + 8 ≤ room_1.cells ∧ ks + 48 ≤ room_1.slots)
    (K : ∀ kc' ks', kc' ≤ kc + 8 → ks' ≤ ks + 48 → Sim p l e room_1 s m args below meth c g 8 (fun (_ : Unit) _ => Q) kc' ks' 3062 [(0, sS), (1, sR 0), (2, sR 287), (3, sR 312), (4, sI i)] [] PK) : Sim p l e room_1 s m args below meth c g 8 (fun (_ : Unit) _ => Q) kc ks 1482 [(0, sS), (1, sR 0), (2, sR 287), (3, sR 312), (4, sI i)] [] (PX (fun mm => fL_meal (ar xs i 1) (ar xs i 2) mm) (fun mm => fX12_meal (ar xs i 1) (ar xs i 2) mm) PK) := by
  obtain ⟨hk1, hk2⟩ := hk
  unfold PX
  refine zs_aload_n (pc := 1482) (k := 1) (i := 1) C (by decide +kernel) rfl rfl ?_
  refine zl_arg (pc := 1483) (j := 1) (ls := [(0, sS), (1, sR 0), (2, sR 287), (3, sR 312), (4, sI i)]) C hX hi (by decide) rfl rfl (by decide +kernel) (by decide +kernel) (by decide +kernel) (by decide +kernel) (by decide +kernel) (by decide +kernel) ?_
  refine zl_arg (pc := 1489) (j := 2) (ls := [(0, sS), (1, sR 0), (2, sR 287), (3, sR 312), (4, sI i)]) C hX hi (by decide) rfl rfl (by decide +kernel) (by decide +kernel) (by decide +kernel) (by decide +kernel) (by decide +kernel) (by decide +kernel) ?_
  refine zs_aload_n (pc := 1495) (k := 3) (i := 3) C (by decide +kernel) rfl rfl ?_
  refine zs_csX (pc := 1496) (As := [sR 0, sI (ar xs i 1), sI (ar xs i 2), sR 312]) (st := []) C (fun _ _ _ => rfl) rfl (c_L_meal l g hl (ar xs i 1) (ar xs i 2)) mx_219 rfl rfl (Nat.le_of_ble_eq_true rfl) ⟨Nat.le_of_ble_eq_true rfl, Nat.le_of_ble_eq_true rfl⟩ (by constructor <;> simp only [rmd] <;> omega) (by decide +kernel) (fun k1 => ?_)
  refine zs_istore (pc := 1499) (i := 5) (ls' := [(5, sI k1), (0, sS), (1, sR 0), (2, sR 287), (3, sR 312), (4, sI i)]) C (by decide +kernel) (Nat.le_of_ble_eq_true rfl) rfl ?_
  refine zs_aload_n (pc := 1501) (k := 2) (i := 2) C (by decide +kernel) rfl rfl ?_
  refine zl_arg (pc := 1502) (j := 1) (ls := [(5, sI k1), (0, sS), (1, sR 0), (2, sR 287), (3, sR 312), (4, sI i)]) C hX hi (by decide) rfl rfl (by decide +kernel) (by decide +kernel) (by decide +kernel) (by decide +kernel) (by decide +kernel) (by decide +kernel) ?_
  refine zl_arg (pc := 1508) (j := 2) (ls := [(5, sI k1), (0, sS), (1, sR 0), (2, sR 287), (3, sR 312), (4, sI i)]) C hX hi (by decide) rfl rfl (by decide +kernel) (by decide +kernel) (by decide +kernel) (by decide +kernel) (by decide +kernel) (by decide +kernel) ?_
  refine zs_cvWi (pc := 1514) (As := [sI (ar xs i 1), sI (ar xs i 2)]) (st := []) C (fun _ _ _ => rfl) rfl (c_X12_meal l g (ar xs i 1) (ar xs i 2)) ml_RL_221 rfl rfl rfl rfl (Nat.le_of_ble_eq_true rfl) ⟨Nat.le_of_ble_eq_true rfl, Nat.le_of_ble_eq_true rfl⟩ (by constructor <;> simp only [rmd] <;> omega) (by decide +kernel) (fun v2 => ?_)
  refine zs_istore (pc := 1517) (i := 6) (ls' := [(6, sI v2), (5, sI k1), (0, sS), (1, sR 0), (2, sR 287), (3, sR 312), (4, sI i)]) C (by decide +kernel) (Nat.le_of_ble_eq_true rfl) rfl ?_
  refine zs_aload_n (pc := 1519) (k := 2) (i := 2) C (by decide +kernel) rfl rfl ?_
  refine zs_cvRi (pc := 1520) (As := []) (st := []) C rfl (c_X12_thrown l g ) ml_RL_156 rfl rfl rfl rfl (Nat.le_of_ble_eq_true rfl) ⟨Nat.le_of_ble_eq_true rfl, Nat.le_of_ble_eq_true rfl⟩ (by constructor <;> simp only [rmd] <;> omega) (by decide +kernel) (fun t3 => ?_)
  refine zs_iload (pc := 1523) (i := 5) C (by decide +kernel) rfl ?_
  refine zs_icmp_eq (pc := 1525) (off := 5) (tgt := 1530) C (by decide +kernel) (by decide) ?_ zs_none
  refine zs_iload (pc := 1530) (i := 5) C (by decide +kernel) rfl ?_
  refine zs_if_ne (pc := 1532) (off := 15) (tgt := 1547) C (by decide +kernel) (by decide) ?_ ?_
  · refine zs_goto (pc := 1547) (off := 1515) (tgt := 3062) C (by decide +kernel) (by decide) ?_
    exact zs_sub (ls' := [(0, sS), (1, sR 0), (2, sR 287), (3, sR 312), (4, sI i)]) ⟨rfl, rfl, rfl, rfl, rfl, trivial⟩ (K _ _ (by simp only [rmd]; omega) (by simp only [rmd]; omega))
  · refine zs_aload_n (pc := 1535) (k := 3) (i := 3) C (by decide +kernel) rfl rfl ?_
    refine zs_iconst (pc := 1536) (n := 0) (x := 0) C (by decide +kernel) (by decide +kernel) ?_
    refine zs_laldk (pc := 1537) (o := 312) (n := 1) (i := 0) C ⟨by decide, by decide⟩ (by decide +kernel) rfl (fun z4 => ?_)
    refine zs_iload (pc := 1538) (i := 6) C (by decide +kernel) rfl ?_
    refine zs_i2l (pc := 1540) C (by decide +kernel) ?_
    refine zs_lcmp_eq (pc := 1541) (off := 5) (tgt := 1547) C (by decide +kernel) (by decide +kernel) (by decide) ?_ zs_none
    refine zs_goto (pc := 1547) (off := 1515) (tgt := 3062) C (by decide +kernel) (by decide) ?_
    exact zs_sub (ls' := [(0, sS), (1, sR 0), (2, sR 287), (3, sR 312), (4, sI i)]) ⟨rfl, rfl, rfl, rfl, rfl, trivial⟩ (K _ _ (by simp only [rmd]; omega) (by simp only [rmd]; omega))

set_option maxRecDepth 20000 in
theorem lc_21 {p : Program} {l : Launch} {e : Env} {s : State} {m : MethodId} {args : Array Value} {below : List Frame} {meth : Method} {c : Code} {g : GC} {L : Nat} {xs : Nat → Int32} {i : Int} {kc ks : Nat} {Q : State → Prop} {PK : Mem → Option Unit} (C : Bd g RL code 8 p s m args meth c) (hX : ScrX g L xs s) (hl : l.stackTraces = false) (hi : 0 ≤ i ∧ i + 6 ≤ (L : Int)) (hk : kc + 8 ≤ room_1.cells ∧ ks + 48 ≤ room_1.slots)
    (K : ∀ kc' ks', kc' ≤ kc + 8 → ks' ≤ ks + 48 → Sim p l e room_1 s m args below meth c g 8 (fun (_ : Unit) _ => Q) kc' ks' 3062 [(0, sS), (1, sR 0), (2, sR 287), (3, sR 312), (4, sI i)] [] PK) : Sim p l e room_1 s m args below meth c g 8 (fun (_ : Unit) _ => Q) kc ks 1550 [(0, sS), (1, sR 0), (2, sR 287), (3, sR 312), (4, sI i)] [] (PX (fun mm => fL_farthest (ar xs i 1) (ar xs i 2) mm) (fun mm => fX12_farthest (ar xs i 1) (ar xs i 2) mm) PK) := by
  obtain ⟨hk1, hk2⟩ := hk
  unfold PX
  refine zs_aload_n (pc := 1550) (k := 1) (i := 1) C (by decide +kernel) rfl rfl ?_
  refine zl_arg (pc := 1551) (j := 1) (ls := [(0, sS), (1, sR 0), (2, sR 287), (3, sR 312), (4, sI i)]) C hX hi (by decide) rfl rfl (by decide +kernel) (by decide +kernel) (by decide +kernel) (by decide +kernel) (by decide +kernel) (by decide +kernel) ?_
  refine zl_arg (pc := 1557) (j := 2) (ls := [(0, sS), (1, sR 0), (2, sR 287), (3, sR 312), (4, sI i)]) C hX hi (by decide) rfl rfl (by decide +kernel) (by decide +kernel) (by decide +kernel) (by decide +kernel) (by decide +kernel) (by decide +kernel) ?_
  refine zs_aload_n (pc := 1563) (k := 3) (i := 3) C (by decide +kernel) rfl rfl ?_
  refine zs_csX (pc := 1564) (As := [sR 0, sI (ar xs i 1), sI (ar xs i 2), sR 312]) (st := []) C (fun _ _ _ => rfl) rfl (c_L_farthest l g hl (ar xs i 1) (ar xs i 2)) mx_222 rfl rfl (Nat.le_of_ble_eq_true rfl) ⟨Nat.le_of_ble_eq_true rfl, Nat.le_of_ble_eq_true rfl⟩ (by constructor <;> simp only [rmd] <;> omega) (by decide +kernel) (fun k1 => ?_)
  refine zs_istore (pc := 1567) (i := 5) (ls' := [(5, sI k1), (0, sS), (1, sR 0), (2, sR 287), (3, sR 312), (4, sI i)]) C (by decide +kernel) (Nat.le_of_ble_eq_true rfl) rfl ?_
  refine zs_aload_n (pc := 1569) (k := 2) (i := 2) C (by decide +kernel) rfl rfl ?_
  refine zl_arg (pc := 1570) (j := 1) (ls := [(5, sI k1), (0, sS), (1, sR 0), (2, sR 287), (3, sR 312), (4, sI i)]) C hX hi (by decide) rfl rfl (by decide +kernel) (by decide +kernel) (by decide +kernel) (by decide +kernel) (by decide +kernel) (by decide +kernel) ?_
  refine zl_arg (pc := 1576) (j := 2) (ls := [(5, sI k1), (0, sS), (1, sR 0), (2, sR 287), (3, sR 312), (4, sI i)]) C hX hi (by decide) rfl rfl (by decide +kernel) (by decide +kernel) (by decide +kernel) (by decide +kernel) (by decide +kernel) (by decide +kernel) ?_
  refine zs_cvWi (pc := 1582) (As := [sI (ar xs i 1), sI (ar xs i 2)]) (st := []) C (fun _ _ _ => rfl) rfl (c_X12_farthest l g (ar xs i 1) (ar xs i 2)) ml_RL_224 rfl rfl rfl rfl (Nat.le_of_ble_eq_true rfl) ⟨Nat.le_of_ble_eq_true rfl, Nat.le_of_ble_eq_true rfl⟩ (by constructor <;> simp only [rmd] <;> omega) (by decide +kernel) (fun v2 => ?_)
  refine zs_istore (pc := 1585) (i := 6) (ls' := [(6, sI v2), (5, sI k1), (0, sS), (1, sR 0), (2, sR 287), (3, sR 312), (4, sI i)]) C (by decide +kernel) (Nat.le_of_ble_eq_true rfl) rfl ?_
  refine zs_aload_n (pc := 1587) (k := 2) (i := 2) C (by decide +kernel) rfl rfl ?_
  refine zs_cvRi (pc := 1588) (As := []) (st := []) C rfl (c_X12_thrown l g ) ml_RL_156 rfl rfl rfl rfl (Nat.le_of_ble_eq_true rfl) ⟨Nat.le_of_ble_eq_true rfl, Nat.le_of_ble_eq_true rfl⟩ (by constructor <;> simp only [rmd] <;> omega) (by decide +kernel) (fun t3 => ?_)
  refine zs_iload (pc := 1591) (i := 5) C (by decide +kernel) rfl ?_
  refine zs_icmp_eq (pc := 1593) (off := 5) (tgt := 1598) C (by decide +kernel) (by decide) ?_ zs_none
  refine zs_iload (pc := 1598) (i := 5) C (by decide +kernel) rfl ?_
  refine zs_if_ne (pc := 1600) (off := 15) (tgt := 1615) C (by decide +kernel) (by decide) ?_ ?_
  · refine zs_goto (pc := 1615) (off := 1447) (tgt := 3062) C (by decide +kernel) (by decide) ?_
    exact zs_sub (ls' := [(0, sS), (1, sR 0), (2, sR 287), (3, sR 312), (4, sI i)]) ⟨rfl, rfl, rfl, rfl, rfl, trivial⟩ (K _ _ (by simp only [rmd]; omega) (by simp only [rmd]; omega))
  · refine zs_aload_n (pc := 1603) (k := 3) (i := 3) C (by decide +kernel) rfl rfl ?_
    refine zs_iconst (pc := 1604) (n := 0) (x := 0) C (by decide +kernel) (by decide +kernel) ?_
    refine zs_laldk (pc := 1605) (o := 312) (n := 1) (i := 0) C ⟨by decide, by decide⟩ (by decide +kernel) rfl (fun z4 => ?_)
    refine zs_iload (pc := 1606) (i := 6) C (by decide +kernel) rfl ?_
    refine zs_i2l (pc := 1608) C (by decide +kernel) ?_
    refine zs_lcmp_eq (pc := 1609) (off := 5) (tgt := 1615) C (by decide +kernel) (by decide +kernel) (by decide) ?_ zs_none
    refine zs_goto (pc := 1615) (off := 1447) (tgt := 3062) C (by decide +kernel) (by decide) ?_
    exact zs_sub (ls' := [(0, sS), (1, sR 0), (2, sR 287), (3, sR 312), (4, sI i)]) ⟨rfl, rfl, rfl, rfl, rfl, trivial⟩ (K _ _ (by simp only [rmd]; omega) (by simp only [rmd]; omega))

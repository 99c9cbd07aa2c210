set_option maxRecDepth 20000 in
theorem c_X1_isDone (l : Launch) (g : GC) (a0 : Int) : ConR l g yX1_isDone cX1_isDone 3 (some .boolean) (rmd 1 0 0) [sR 100, sI a0] (fun mm => fX1_isDone a0 mm) := by
  refine zs_ofR (by decide +kernel) (Nat.le_of_ble_eq_true rfl) ?_
  intro p e s m args below meth c C hr
  replace C : Bd g RX1 cX1_isDone 3 p s m args meth c := C
  unfold fX1_isDone
  refine zs_iconst (pc := 0) (n := 0) (x := 0) C (by decide +kernel) (by decide +kernel) ?_
  refine zs_istore_n (pc := 1) (k := 2) (i := 2) (ls' := [(2, sI 0), (0, sR 100), (1, sI a0)]) C (by decide +kernel) rfl (Nat.le_of_ble_eq_true rfl) rfl ?_
  refine zs_sub (ls' := [(0, sR 100), (1, sI a0), (2, sI 0)]) ⟨rfl, rfl, rfl, trivial⟩ ?_
  refine zs_lp (pc := 2) (fun (t1 : Int) => [(0, sR 100), (1, sI a0), (2, sI t1)]) (fun _ => []) (fun K2 hK2 t1 => ?_) BIG 0
  refine zs_iload_n (pc := 2) (k := 2) (i := 2) C (by decide +kernel) rfl rfl ?_
  refine zs_bipush (pc := 3) (n := 25) (x := 25) C (by decide +kernel) (by decide +kernel) ?_
  refine zs_icmp_ge (pc := 5) (off := 25) (tgt := 30) C (by decide +kernel) (by decide) ?_ ?_
  · refine zs_iconst (pc := 30) (n := 0) (x := 0) C (by decide +kernel) (by decide +kernel) ?_
    exact zs_retRz (pc := 31) C (by decide) hr ⟨Nat.le_of_ble_eq_true rfl, Nat.le_of_ble_eq_true rfl⟩ (by decide +kernel)
  · refine zs_aload_n (pc := 8) (k := 0) (i := 0) C (by decide +kernel) rfl rfl ?_
    refine zs_getM (pc := 9) (i := 19) (ci := 1) (k := 2) C (by decide +kernel) fl_RX1_19 rfl rfl (fun x3 => ?_)
    refine zs_need (fun hx3 => ?_)
    refine zs_iload_n (pc := 12) (k := 1) (i := 1) C (by decide +kernel) rfl rfl ?_
    refine zs_bipush (pc := 13) (n := 25) (x := 25) C (by decide +kernel) (by decide +kernel) ?_
    refine zs_imul (pc := 15) C (by decide +kernel) ?_
    refine zs_iload_n (pc := 16) (k := 2) (i := 2) C (by decide +kernel) rfl rfl ?_
    refine zs_iadd (pc := 17) C (by decide +kernel) ?_
    refine zs_iald (pc := 18) (o := x3) (n := 400) C (by decide +kernel) hx3 (fun hinx4 x4 => ?_)
    refine zs_if_eq (pc := 19) (off := 5) (tgt := 24) C (by decide +kernel) (by decide) ?_ ?_
    · refine zs_iinc (pc := 24) (i := 2) (n := 1) (y := w32 (t1 + 1)) (ls' := [(2, sI (w32 (t1 + 1))), (0, sR 100), (1, sI a0)]) C (by decide +kernel) rfl rfl (Nat.le_of_ble_eq_true rfl) rfl ?_
      refine zs_goto (pc := 27) (off := (-25)) (tgt := 2) C (by decide +kernel) (by decide) ?_
      exact zs_goj (hK2 (w32 (t1 + 1))) ⟨rfl, rfl, rfl, trivial⟩
    · refine zs_iconst (pc := 22) (n := 1) (x := 1) C (by decide +kernel) (by decide +kernel) ?_
      exact zs_retRz (pc := 23) C (by decide) hr ⟨Nat.le_of_ble_eq_true rfl, Nat.le_of_ble_eq_true rfl⟩ (by decide +kernel)
set_option maxRecDepth 20000 in
theorem c_X1_goOn (l : Launch) (g : GC) (a1 : Int) : ConW l g yX1_goOn cX1_goOn 5 (some .boolean) (rmd 5 0 0) [sR 100, sR 18, sI a1] (fun mm => fX1_goOn a1 mm) := by
  refine zs_ofW (by decide +kernel) (Nat.le_of_ble_eq_true rfl) ?_
  intro p e s m args below meth c C hr
  replace C : Bd g RX1 cX1_goOn 5 p s m args meth c := C
  unfold fX1_goOn
  refine zs_iconst (pc := 0) (n := 0) (x := 0) C (by decide +kernel) (by decide +kernel) ?_
  refine zs_istore_n (pc := 1) (k := 3) (i := 3) (ls' := [(3, sI 0), (0, sR 100), (1, sR 18), (2, sI a1)]) C (by decide +kernel) rfl (Nat.le_of_ble_eq_true rfl) rfl ?_
  refine zs_aload_n (pc := 2) (k := 0) (i := 0) C (by decide +kernel) rfl rfl ?_
  refine zs_getM (pc := 3) (i := 22) (ci := 1) (k := 3) C (by decide +kernel) fl_RX1_22 rfl rfl (fun x1 => ?_)
  refine zs_need (fun hx1 => ?_)
  refine zs_iconst (pc := 6) (n := 0) (x := 0) C (by decide +kernel) (by decide +kernel) ?_
  refine zs_csVv (pc := 7) (As := [sR x1, sI 0]) (st := []) C (fun _ _ _ => rfl) (c_J7_fill_53178 l g x1 400 0 hx1) ml_RX1_43 rfl rfl (Nat.le_of_ble_eq_true rfl) ⟨Nat.le_of_ble_eq_true rfl, Nat.le_of_ble_eq_true rfl⟩ ⟨Nat.le_of_ble_eq_true rfl, Nat.le_of_ble_eq_true rfl⟩ (by decide +kernel) ?_
  refine zs_iconst (pc := 10) (n := 0) (x := 0) C (by decide +kernel) (by decide +kernel) ?_
  refine zs_istore (pc := 11) (i := 4) (ls' := [(4, sI 0), (3, sI 0), (0, sR 100), (1, sR 18), (2, sI a1)]) C (by decide +kernel) (Nat.le_of_ble_eq_true rfl) rfl ?_
  refine zs_sub (ls' := [(0, sR 100), (1, sR 18), (2, sI a1), (3, sI 0), (4, sI 0)]) ⟨rfl, rfl, rfl, rfl, rfl, trivial⟩ ?_
  refine zs_lp (pc := 13) (fun (t2 : Int × Int) => [(0, sR 100), (1, sR 18), (2, sI a1), (3, sI t2.1), (4, sI t2.2)]) (fun _ => []) (fun K3 hK3 t2 => ?_) BIG (0, 0)
  refine zs_iload (pc := 13) (i := 4) C (by decide +kernel) rfl ?_
  refine zs_iconst (pc := 15) (n := 1) (x := 1) C (by decide +kernel) (by decide +kernel) ?_
  refine zs_aload_n (pc := 16) (k := 0) (i := 0) C (by decide +kernel) rfl rfl ?_
  refine zs_getI (pc := 17) (i := 15) (ci := 1) (k := 1) C (by decide +kernel) fl_RX1_15 rfl rfl (fun x4 => ?_)
  refine zs_ishl (pc := 20) C (by decide +kernel) ?_
  refine zs_icmp_ge (pc := 21) (off := 52) (tgt := 73) C (by decide +kernel) (by decide) ?_ ?_
  · refine zs_aload_n (pc := 73) (k := 0) (i := 0) C (by decide +kernel) rfl rfl ?_
    refine zs_getM (pc := 74) (i := 19) (ci := 1) (k := 2) C (by decide +kernel) fl_RX1_19 rfl rfl (fun x5 => ?_)
    refine zs_need (fun hx5 => ?_)
    refine zs_astore (pc := 77) (i := 4) (ls' := [(4, sR x5), (0, sR 100), (1, sR 18), (2, sI a1), (3, sI t2.1)]) C (by decide +kernel) (Nat.le_of_ble_eq_true rfl) rfl ?_
    refine zs_aload_n (pc := 79) (k := 0) (i := 0) C (by decide +kernel) rfl rfl ?_
    refine zs_aload_n (pc := 80) (k := 0) (i := 0) C (by decide +kernel) rfl rfl ?_
    refine zs_getM (pc := 81) (i := 22) (ci := 1) (k := 3) C (by decide +kernel) fl_RX1_22 rfl rfl (fun x6 => ?_)
    refine zs_need (fun hx6 => ?_)
    refine zs_putM (hty := rfl) (pc := 84) (i := 19) (ci := 1) (k := 2) C (fun _ _ _ => rfl) (by decide +kernel) fl_RX1_19 fw_1_2 rfl rfl ?_
    refine zs_aload_n (pc := 87) (k := 0) (i := 0) C (by decide +kernel) rfl rfl ?_
    refine zs_aload (pc := 88) (i := 4) C (by decide +kernel) rfl ?_
    refine zs_putM (hty := rfl) (pc := 90) (i := 22) (ci := 1) (k := 3) C (fun _ _ _ => rfl) (by decide +kernel) fl_RX1_22 fw_1_3 rfl rfl ?_
    refine zs_iload_n (pc := 93) (k := 3) (i := 3) C (by decide +kernel) rfl rfl ?_
    refine zs_chk (fun _ hx => ?_)
    exact zs_retWz (pc := 94) C hx hr ⟨Nat.le_of_ble_eq_true rfl, Nat.le_of_ble_eq_true rfl⟩ (by decide +kernel)
  · refine zs_aload_n (pc := 24) (k := 0) (i := 0) C (by decide +kernel) rfl rfl ?_
    refine zs_iload (pc := 25) (i := 4) C (by decide +kernel) rfl ?_
    refine zs_cvRi (pc := 27) (As := [sI t2.2]) (st := []) C rfl (c_X1_isDone l g t2.2) ml_RX1_39 rfl rfl rfl rfl (Nat.le_of_ble_eq_true rfl) ⟨Nat.le_of_ble_eq_true rfl, Nat.le_of_ble_eq_true rfl⟩ ⟨Nat.le_of_ble_eq_true rfl, Nat.le_of_ble_eq_true rfl⟩ (by decide +kernel) (fun x7 => ?_)
    refine zs_jn (pJ := 67) (kJ := 0) (sJ := 0) (fun t8 => [(0, sR 100), (1, sR 18), (2, sI a1), (3, sI t8), (4, sI t2.2)]) (fun t8 => []) (fun t8 => ?_) (fun J9 hJ9 => ?_)
    · refine zs_iinc (pc := 67) (i := 4) (n := 1) (y := w32 (t2.2 + 1)) (ls' := [(4, sI (w32 (t2.2 + 1))), (0, sR 100), (1, sR 18), (2, sI a1), (3, sI t8)]) C (by decide +kernel) rfl rfl (Nat.le_of_ble_eq_true rfl) rfl ?_
      refine zs_goto (pc := 70) (off := (-57)) (tgt := 13) C (by decide +kernel) (by decide) ?_
      exact zs_goj (hK3 (t8, w32 (t2.2 + 1))) ⟨rfl, rfl, rfl, rfl, rfl, trivial⟩
    · refine zs_if_eq (pc := 30) (off := 37) (tgt := 67) C (by decide +kernel) (by decide) ?_ ?_
      · exact zs_goj (hJ9 t2.1) ⟨rfl, rfl, rfl, rfl, rfl, trivial⟩
      · refine zs_aload_n (pc := 33) (k := 1) (i := 1) C (by decide +kernel) rfl rfl ?_
        refine zs_aload_n (pc := 34) (k := 0) (i := 0) C (by decide +kernel) rfl rfl ?_
        refine zs_getM (pc := 35) (i := 19) (ci := 1) (k := 2) C (by decide +kernel) fl_RX1_19 rfl rfl (fun x10 => ?_)
        refine zs_need (fun hx10 => ?_)
        refine zs_iload (pc := 38) (i := 4) C (by decide +kernel) rfl ?_
        refine zs_bipush (pc := 40) (n := 25) (x := 25) C (by decide +kernel) (by decide +kernel) ?_
        refine zs_imul (pc := 42) C (by decide +kernel) ?_
        refine zs_aload_n (pc := 43) (k := 0) (i := 0) C (by decide +kernel) rfl rfl ?_
        refine zs_getR (o' := 104) (pc := 44) (i := 25) (ci := 1) (k := 4) C (by decide +kernel) fl_RX1_25 rfl rfl rfl ?_
        refine zs_iconst (pc := 47) (n := 0) (x := 0) C (by decide +kernel) (by decide +kernel) ?_
        refine zs_iload_n (pc := 48) (k := 2) (i := 2) C (by decide +kernel) rfl rfl ?_
        refine zs_cvWi (pc := 49) (As := [sR x10, sI (w32 (t2.2 * 25)), sR 104, sI 0, sI a1]) (st := []) C (fun _ _ _ => rfl) rfl (c_X0_stepOn l g x10 400 (w32 (t2.2 * 25)) 104 25 0 a1 hx10 rfl) ml_RX1_62 rfl rfl rfl rfl (Nat.le_of_ble_eq_true rfl) ⟨Nat.le_of_ble_eq_true rfl, Nat.le_of_ble_eq_true rfl⟩ ⟨Nat.le_of_ble_eq_true rfl, Nat.le_of_ble_eq_true rfl⟩ (by decide +kernel) (fun x11 => ?_)
        refine zs_if_eq (pc := 52) (off := 15) (tgt := 67) C (by decide +kernel) (by decide) ?_ ?_
        · exact zs_goj (hJ9 t2.1) ⟨rfl, rfl, rfl, rfl, rfl, trivial⟩
        · refine zs_iconst (pc := 55) (n := 1) (x := 1) C (by decide +kernel) (by decide +kernel) ?_
          refine zs_istore_n (pc := 56) (k := 3) (i := 3) (ls' := [(3, sI 1), (0, sR 100), (1, sR 18), (2, sI a1), (4, sI t2.2)]) C (by decide +kernel) rfl (Nat.le_of_ble_eq_true rfl) rfl ?_
          refine zs_aload_n (pc := 57) (k := 0) (i := 0) C (by decide +kernel) rfl rfl ?_
          refine zs_iload (pc := 58) (i := 4) C (by decide +kernel) rfl ?_
          refine zs_aload_n (pc := 60) (k := 0) (i := 0) C (by decide +kernel) rfl rfl ?_
          refine zs_getM (pc := 61) (i := 22) (ci := 1) (k := 3) C (by decide +kernel) fl_RX1_22 rfl rfl (fun x12 => ?_)
          refine zs_need (fun hx12 => ?_)
          refine zs_cvVv (pc := 64) (As := [sI t2.2, sR x12]) (st := []) C (fun _ _ _ => rfl) (c_X1_sortArrived l g t2.2 x12 400 hx12) ml_RX1_58 rfl rfl rfl rfl (Nat.le_of_ble_eq_true rfl) ⟨Nat.le_of_ble_eq_true rfl, Nat.le_of_ble_eq_true rfl⟩ ⟨Nat.le_of_ble_eq_true rfl, Nat.le_of_ble_eq_true rfl⟩ (by decide +kernel) ?_
          exact zs_goj (hJ9 1) ⟨rfl, rfl, rfl, rfl, rfl, trivial⟩
set_option maxRecDepth 20000 in
theorem c_X1_hoursForAll (l : Launch) (g : GC)  : ConW l g yX1_hoursForAll cX1_hoursForAll 4 (some .int) (rmd 6 0 0) [sR 100, sR 18] (fun mm => fX1_hoursForAll  mm) := by
  refine zs_ofW (by decide +kernel) (Nat.le_of_ble_eq_true rfl) ?_
  intro p e s m args below meth c C hr
  replace C : Bd g RX1 cX1_hoursForAll 4 p s m args meth c := C
  unfold fX1_hoursForAll
  refine zs_iconst (pc := 0) (n := 1) (x := 1) C (by decide +kernel) (by decide +kernel) ?_
  refine zs_aload_n (pc := 1) (k := 0) (i := 0) C (by decide +kernel) rfl rfl ?_
  refine zs_getI (pc := 2) (i := 15) (ci := 1) (k := 1) C (by decide +kernel) fl_RX1_15 rfl rfl (fun x1 => ?_)
  refine zs_ishl (pc := 5) C (by decide +kernel) ?_
  refine zs_iconst (pc := 6) (n := 1) (x := 1) C (by decide +kernel) (by decide +kernel) ?_
  refine zs_isub (pc := 7) C (by decide +kernel) ?_
  refine zs_let (fun x2 => ?_)
  refine zs_istore_n (pc := 8) (k := 2) (i := 2) (ls' := [(2, sI x2), (0, sR 100), (1, sR 18)]) C (by decide +kernel) rfl (Nat.le_of_ble_eq_true rfl) rfl ?_
  refine zs_aload_n (pc := 9) (k := 0) (i := 0) C (by decide +kernel) rfl rfl ?_
  refine zs_aload_n (pc := 10) (k := 1) (i := 1) C (by decide +kernel) rfl rfl ?_
  refine zs_cvVv (pc := 11) (As := [sR 18]) (st := []) C (fun _ _ _ => rfl) (c_X1_start l g ) ml_RX1_31 rfl rfl rfl rfl (Nat.le_of_ble_eq_true rfl) ⟨Nat.le_of_ble_eq_true rfl, Nat.le_of_ble_eq_true rfl⟩ ⟨Nat.le_of_ble_eq_true rfl, Nat.le_of_ble_eq_true rfl⟩ (by decide +kernel) ?_
  refine zs_iconst (pc := 14) (n := 0) (x := 0) C (by decide +kernel) (by decide +kernel) ?_
  refine zs_istore_n (pc := 15) (k := 3) (i := 3) (ls' := [(3, sI 0), (2, sI x2), (0, sR 100), (1, sR 18)]) C (by decide +kernel) rfl (Nat.le_of_ble_eq_true rfl) rfl ?_
  refine zs_sub (ls' := [(0, sR 100), (1, sR 18), (2, sI x2), (3, sI 0)]) ⟨rfl, rfl, rfl, rfl, trivial⟩ ?_
  refine zs_lp (pc := 16) (fun (t3 : Int) => [(0, sR 100), (1, sR 18), (2, sI x2), (3, sI t3)]) (fun _ => []) (fun K4 hK4 t3 => ?_) BIG 0
  refine zs_iload_n (pc := 16) (k := 3) (i := 3) C (by decide +kernel) rfl rfl ?_
  refine zs_bipush (pc := 17) (n := 40) (x := 40) C (by decide +kernel) (by decide +kernel) ?_
  refine zs_icmp_gt (pc := 19) (off := 34) (tgt := 53) C (by decide +kernel) (by decide) ?_ ?_
  · refine zs_iconst (pc := 53) (n := (-1)) (x := (-1)) C (by decide +kernel) (by decide +kernel) ?_
    exact zs_retWi (pc := 54) C hr ⟨Nat.le_of_ble_eq_true rfl, Nat.le_of_ble_eq_true rfl⟩ (by decide +kernel)
  · refine zs_iload_n (pc := 22) (k := 3) (i := 3) C (by decide +kernel) rfl rfl ?_
    refine zs_jn (pJ := 37) (kJ := 0) (sJ := 0) (fun t5 => [(0, sR 100), (1, sR 18), (2, sI x2), (3, sI t3)]) (fun t5 => []) (fun t5 => ?_) (fun J6 hJ6 => ?_)
    · refine zs_aload_n (pc := 37) (k := 0) (i := 0) C (by decide +kernel) rfl rfl ?_
      refine zs_iload_n (pc := 38) (k := 2) (i := 2) C (by decide +kernel) rfl rfl ?_
      refine zs_cvRi (pc := 39) (As := [sI x2]) (st := []) C rfl (c_X1_isDone l g x2) ml_RX1_39 rfl rfl rfl rfl (Nat.le_of_ble_eq_true rfl) ⟨Nat.le_of_ble_eq_true rfl, Nat.le_of_ble_eq_true rfl⟩ ⟨Nat.le_of_ble_eq_true rfl, Nat.le_of_ble_eq_true rfl⟩ (by decide +kernel) (fun x7 => ?_)
      refine zs_if_eq (pc := 42) (off := 5) (tgt := 47) C (by decide +kernel) (by decide) ?_ ?_
      · refine zs_iinc (pc := 47) (i := 3) (n := 1) (y := w32 (t3 + 1)) (ls' := [(3, sI (w32 (t3 + 1))), (0, sR 100), (1, sR 18), (2, sI x2)]) C (by decide +kernel) rfl rfl (Nat.le_of_ble_eq_true rfl) rfl ?_
        refine zs_goto (pc := 50) (off := (-34)) (tgt := 16) C (by decide +kernel) (by decide) ?_
        exact zs_goj (hK4 (w32 (t3 + 1))) ⟨rfl, rfl, rfl, rfl, trivial⟩
      · refine zs_iload_n (pc := 45) (k := 3) (i := 3) C (by decide +kernel) rfl rfl ?_
        exact zs_retWi (pc := 46) C hr ⟨Nat.le_of_ble_eq_true rfl, Nat.le_of_ble_eq_true rfl⟩ (by decide +kernel)
    · refine zs_if_le (pc := 23) (off := 14) (tgt := 37) C (by decide +kernel) (by decide) ?_ ?_
      · exact zs_goj (hJ6 ()) ⟨rfl, rfl, rfl, rfl, trivial⟩
      · refine zs_aload_n (pc := 26) (k := 0) (i := 0) C (by decide +kernel) rfl rfl ?_
        refine zs_aload_n (pc := 27) (k := 1) (i := 1) C (by decide +kernel) rfl rfl ?_
        refine zs_iload_n (pc := 28) (k := 3) (i := 3) C (by decide +kernel) rfl rfl ?_
        refine zs_cvWi (pc := 29) (As := [sR 18, sI t3]) (st := []) C (fun _ _ _ => rfl) rfl (c_X1_goOn l g t3) ml_RX1_35 rfl rfl rfl rfl (Nat.le_of_ble_eq_true rfl) ⟨Nat.le_of_ble_eq_true rfl, Nat.le_of_ble_eq_true rfl⟩ ⟨Nat.le_of_ble_eq_true rfl, Nat.le_of_ble_eq_true rfl⟩ (by decide +kernel) (fun x8 => ?_)
        refine zs_if_ne (pc := 32) (off := 5) (tgt := 37) C (by decide +kernel) (by decide) ?_ ?_
        · exact zs_goj (hJ6 ()) ⟨rfl, rfl, rfl, rfl, trivial⟩
        · refine zs_iconst (pc := 35) (n := (-1)) (x := (-1)) C (by decide +kernel) (by decide +kernel) ?_
          exact zs_retWi (pc := 36) C hr ⟨Nat.le_of_ble_eq_true rfl, Nat.le_of_ble_eq_true rfl⟩ (by decide +kernel)
set_option maxRecDepth 20000 in
theorem c_X11_errands (l : Launch) (g : GC) (hl : l.stackTraces = false) (a0 : Int) (a1 : Int) : ConT l g yX11_errands cX11_errands 3 (some .int) (rmd 10 5 30) [sR 0, sI a0, sI a1] (fun mm => fX11_errands a0 a1 mm) := by
  refine zs_ofT (by decide +kernel) (Nat.le_of_ble_eq_true rfl) ?_
  intro p e s m args below meth c C hr hE
  replace C : Bd g RX11 cX11_errands 3 p s m args meth c := C
  unfold fX11_errands
  refine zs_aload_n (pc := 0) (k := 0) (i := 0) C (by decide +kernel) rfl rfl ?_
  refine zs_iload_n (pc := 1) (k := 1) (i := 1) C (by decide +kernel) rfl rfl ?_
  refine zs_iload_n (pc := 2) (k := 2) (i := 2) C (by decide +kernel) rfl rfl ?_
  refine zs_cvTv (pc := 3) (As := [sI a0, sI a1]) (st := []) C hE (c_X11_needErrands l g hl a0 a1) ml_RX11_313 rfl rfl rfl rfl (Nat.le_of_ble_eq_true rfl) ⟨Nat.le_of_ble_eq_true rfl, Nat.le_of_ble_eq_true rfl⟩ ⟨Nat.le_of_ble_eq_true rfl, Nat.le_of_ble_eq_true rfl⟩ ⟨Nat.le_of_ble_eq_true rfl, Nat.le_of_ble_eq_true rfl⟩ (by decide +kernel) ?_
  refine zs_aload_n (pc := 6) (k := 0) (i := 0) C (by decide +kernel) rfl rfl ?_
  refine zs_getR (o' := 18) (pc := 7) (i := 33) (ci := 11) (k := 5) C (by decide +kernel) fl_RX11_33 rfl rfl rfl ?_
  refine zs_iload_n (pc := 10) (k := 1) (i := 1) C (by decide +kernel) rfl rfl ?_
  refine zs_cvVv (pc := 11) (As := [sI a0]) (st := []) C (fun _ _ _ => rfl) (c_X0_begin l g a0) ml_RX11_251 rfl rfl rfl rfl (Nat.le_of_ble_eq_true rfl) ⟨Nat.le_of_ble_eq_true rfl, Nat.le_of_ble_eq_true rfl⟩ ⟨Nat.le_of_ble_eq_true rfl, Nat.le_of_ble_eq_true rfl⟩ (by decide +kernel) ?_
  refine zs_aload_n (pc := 14) (k := 0) (i := 0) C (by decide +kernel) rfl rfl ?_
  refine zs_getR (o' := 100) (pc := 15) (i := 69) (ci := 11) (k := 11) C (by decide +kernel) fl_RX11_69 rfl rfl rfl ?_
  refine zs_aload_n (pc := 18) (k := 0) (i := 0) C (by decide +kernel) rfl rfl ?_
  refine zs_getR (o' := 18) (pc := 19) (i := 33) (ci := 11) (k := 5) C (by decide +kernel) fl_RX11_33 rfl rfl rfl ?_
  refine zs_cvWi (pc := 22) (As := [sR 18]) (st := []) C (fun _ _ _ => rfl) rfl (c_X1_hoursForAll l g ) ml_RX11_316 rfl rfl rfl rfl (Nat.le_of_ble_eq_true rfl) ⟨Nat.le_of_ble_eq_true rfl, Nat.le_of_ble_eq_true rfl⟩ ⟨Nat.le_of_ble_eq_true rfl, Nat.le_of_ble_eq_true rfl⟩ (by decide +kernel) (fun x1 => ?_)
  exact zs_retTi (pc := 25) C hr ⟨Nat.le_of_ble_eq_true rfl, Nat.le_of_ble_eq_true rfl⟩ (by decide +kernel)
set_option maxRecDepth 20000 in
theorem c_X1_bestDropped (l : Launch) (g : GC)  : ConW l g yX1_bestDropped cX1_bestDropped 5 (some .int) (rmd 6 0 0) [sR 100, sR 18] (fun mm => fX1_bestDropped  mm) := by
  refine zs_ofW (by decide +kernel) (Nat.le_of_ble_eq_true rfl) ?_
  intro p e s m args below meth c C hr
  replace C : Bd g RX1 cX1_bestDropped 5 p s m args meth c := C
  unfold fX1_bestDropped
  refine zs_iconst (pc := 0) (n := 1) (x := 1) C (by decide +kernel) (by decide +kernel) ?_
  refine zs_aload_n (pc := 1) (k := 0) (i := 0) C (by decide +kernel) rfl rfl ?_
  refine zs_getI (pc := 2) (i := 15) (ci := 1) (k := 1) C (by decide +kernel) fl_RX1_15 rfl rfl (fun x1 => ?_)
  refine zs_ishl (pc := 5) C (by decide +kernel) ?_
  refine zs_iconst (pc := 6) (n := 1) (x := 1) C (by decide +kernel) (by decide +kernel) ?_
  refine zs_isub (pc := 7) C (by decide +kernel) ?_
  refine zs_let (fun x2 => ?_)
  refine zs_istore_n (pc := 8) (k := 2) (i := 2) (ls' := [(2, sI x2), (0, sR 100), (1, sR 18)]) C (by decide +kernel) rfl (Nat.le_of_ble_eq_true rfl) rfl ?_
  refine zs_aload_n (pc := 9) (k := 0) (i := 0) C (by decide +kernel) rfl rfl ?_
  refine zs_aload_n (pc := 10) (k := 1) (i := 1) C (by decide +kernel) rfl rfl ?_
  refine zs_cvVv (pc := 11) (As := [sR 18]) (st := []) C (fun _ _ _ => rfl) (c_X1_start l g ) ml_RX1_31 rfl rfl rfl rfl (Nat.le_of_ble_eq_true rfl) ⟨Nat.le_of_ble_eq_true rfl, Nat.le_of_ble_eq_true rfl⟩ ⟨Nat.le_of_ble_eq_true rfl, Nat.le_of_ble_eq_true rfl⟩ (by decide +kernel) ?_
  refine zs_iconst (pc := 14) (n := 0) (x := 0) C (by decide +kernel) (by decide +kernel) ?_
  refine zs_istore_n (pc := 15) (k := 3) (i := 3) (ls' := [(3, sI 0), (2, sI x2), (0, sR 100), (1, sR 18)]) C (by decide +kernel) rfl (Nat.le_of_ble_eq_true rfl) rfl ?_
  refine zs_sub (ls' := [(0, sR 100), (1, sR 18), (2, sI x2), (3, sI 0)]) ⟨rfl, rfl, rfl, rfl, trivial⟩ ?_
  refine zs_lp (pc := 16) (fun (t3 : Int) => [(0, sR 100), (1, sR 18), (2, sI x2), (3, sI t3)]) (fun _ => []) (fun K4 hK4 t3 => ?_) BIG 0
  refine zs_iload_n (pc := 16) (k := 3) (i := 3) C (by decide +kernel) rfl rfl ?_
  refine zs_bipush (pc := 17) (n := 40) (x := 40) C (by decide +kernel) (by decide +kernel) ?_
  refine zs_icmp_gt (pc := 19) (off := 68) (tgt := 87) C (by decide +kernel) (by decide) ?_ ?_
  · refine zs_iconst (pc := 87) (n := (-1)) (x := (-1)) C (by decide +kernel) (by decide +kernel) ?_
    exact zs_retWi (pc := 88) C hr ⟨Nat.le_of_ble_eq_true rfl, Nat.le_of_ble_eq_true rfl⟩ (by decide +kernel)
  · refine zs_iload_n (pc := 22) (k := 3) (i := 3) C (by decide +kernel) rfl rfl ?_
    refine zs_jn (pJ := 37) (kJ := 0) (sJ := 0) (fun t5 => [(0, sR 100), (1, sR 18), (2, sI x2), (3, sI t3)]) (fun t5 => []) (fun t5 => ?_) (fun J6 hJ6 => ?_)
    · refine zs_iconst (pc := 37) (n := 0) (x := 0) C (by decide +kernel) (by decide +kernel) ?_
      refine zs_istore (pc := 38) (i := 4) (ls' := [(4, sI 0), (0, sR 100), (1, sR 18), (2, sI x2), (3, sI t3)]) C (by decide +kernel) (Nat.le_of_ble_eq_true rfl) rfl ?_
      refine zs_sub (ls' := [(0, sR 100), (1, sR 18), (2, sI x2), (3, sI t3), (4, sI 0)]) ⟨rfl, rfl, rfl, rfl, rfl, trivial⟩ ?_
      refine zs_lp (pc := 40) (fun (t7 : Int) => [(0, sR 100), (1, sR 18), (2, sI x2), (3, sI t3), (4, sI t7)]) (fun _ => []) (fun K8 hK8 t7 => ?_) BIG 0
      refine zs_iload (pc := 40) (i := 4) C (by decide +kernel) rfl ?_
      refine zs_aload_n (pc := 42) (k := 0) (i := 0) C (by decide +kernel) rfl rfl ?_
      refine zs_getI (pc := 43) (i := 15) (ci := 1) (k := 1) C (by decide +kernel) fl_RX1_15 rfl rfl (fun x9 => ?_)
      refine zs_icmp_ge (pc := 46) (off := 35) (tgt := 81) C (by decide +kernel) (by decide) ?_ ?_
      · refine zs_iinc (pc := 81) (i := 3) (n := 1) (y := w32 (t3 + 1)) (ls' := [(3, sI (w32 (t3 + 1))), (0, sR 100), (1, sR 18), (2, sI x2), (4, sI t7)]) C (by decide +kernel) rfl rfl (Nat.le_of_ble_eq_true rfl) rfl ?_
        refine zs_goto (pc := 84) (off := (-68)) (tgt := 16) C (by decide +kernel) (by decide) ?_
        exact zs_goj (hK4 (w32 (t3 + 1))) ⟨rfl, rfl, rfl, rfl, trivial⟩
      · refine zs_aload_n (pc := 49) (k := 0) (i := 0) C (by decide +kernel) rfl rfl ?_
        refine zs_iload_n (pc := 50) (k := 2) (i := 2) C (by decide +kernel) rfl rfl ?_
        refine zs_cvRi (pc := 51) (As := [sI x2]) (st := []) C rfl (c_X1_isDone l g x2) ml_RX1_39 rfl rfl rfl rfl (Nat.le_of_ble_eq_true rfl) ⟨Nat.le_of_ble_eq_true rfl, Nat.le_of_ble_eq_true rfl⟩ ⟨Nat.le_of_ble_eq_true rfl, Nat.le_of_ble_eq_true rfl⟩ (by decide +kernel) (fun x10 => ?_)
        refine zs_jn (pJ := 72) (kJ := 0) (sJ := 0) (fun t11 => [(4, sI t7)]) (fun t11 => []) (fun t11 => ?_) (fun J12 hJ12 => ?_)
        · refine zs_iload (pc := 72) (i := 4) C (by decide +kernel) rfl ?_
          exact zs_retWi (pc := 74) C hr ⟨Nat.le_of_ble_eq_true rfl, Nat.le_of_ble_eq_true rfl⟩ (by decide +kernel)
        · refine zs_if_ne (pc := 54) (off := 18) (tgt := 72) C (by decide +kernel) (by decide) ?_ ?_
          · exact zs_goj (hJ12 ()) ⟨rfl, trivial⟩
          · refine zs_aload_n (pc := 57) (k := 0) (i := 0) C (by decide +kernel) rfl rfl ?_
            refine zs_iload_n (pc := 58) (k := 2) (i := 2) C (by decide +kernel) rfl rfl ?_
            refine zs_iconst (pc := 59) (n := 1) (x := 1) C (by decide +kernel) (by decide +kernel) ?_
            refine zs_iload (pc := 60) (i := 4) C (by decide +kernel) rfl ?_
            refine zs_ishl (pc := 62) C (by decide +kernel) ?_
            refine zs_iconst (pc := 63) (n := (-1)) (x := (-1)) C (by decide +kernel) (by decide +kernel) ?_
            refine zs_ixor (pc := 64) C (by decide +kernel) ?_
            refine zs_iand (pc := 65) C (by decide +kernel) ?_
            refine zs_cvRi (pc := 66) (As := [sI (iand x2 (ixor (ishl 1 t7) ((-1))))]) (st := []) C rfl (c_X1_isDone l g (iand x2 (ixor (ishl 1 t7) ((-1))))) ml_RX1_39 rfl rfl rfl rfl (Nat.le_of_ble_eq_true rfl) ⟨Nat.le_of_ble_eq_true rfl, Nat.le_of_ble_eq_true rfl⟩ ⟨Nat.le_of_ble_eq_true rfl, Nat.le_of_ble_eq_true rfl⟩ (by decide +kernel) (fun x13 => ?_)
            refine zs_if_eq (pc := 69) (off := 6) (tgt := 75) C (by decide +kernel) (by decide) ?_ ?_
            · refine zs_iinc (pc := 75) (i := 4) (n := 1) (y := w32 (t7 + 1)) (ls' := [(4, sI (w32 (t7 + 1))), (0, sR 100), (1, sR 18), (2, sI x2), (3, sI t3)]) C (by decide +kernel) rfl rfl (Nat.le_of_ble_eq_true rfl) rfl ?_
              refine zs_goto (pc := 78) (off := (-38)) (tgt := 40) C (by decide +kernel) (by decide) ?_
              exact zs_goj (hK8 (w32 (t7 + 1))) ⟨rfl, rfl, rfl, rfl, rfl, trivial⟩
            · exact zs_goj (hJ12 ()) ⟨rfl, trivial⟩
    · refine zs_if_le (pc := 23) (off := 14) (tgt := 37) C (by decide +kernel) (by decide) ?_ ?_
      · exact zs_goj (hJ6 ()) ⟨rfl, rfl, rfl, rfl, trivial⟩
      · refine zs_aload_n (pc := 26) (k := 0) (i := 0) C (by decide +kernel) rfl rfl ?_
        refine zs_aload_n (pc := 27) (k := 1) (i := 1) C (by decide +kernel) rfl rfl ?_
        refine zs_iload_n (pc := 28) (k := 3) (i := 3) C (by decide +kernel) rfl rfl ?_
        refine zs_cvWi (pc := 29) (As := [sR 18, sI t3]) (st := []) C (fun _ _ _ => rfl) rfl (c_X1_goOn l g t3) ml_RX1_35 rfl rfl rfl rfl (Nat.le_of_ble_eq_true rfl) ⟨Nat.le_of_ble_eq_true rfl, Nat.le_of_ble_eq_true rfl⟩ ⟨Nat.le_of_ble_eq_true rfl, Nat.le_of_ble_eq_true rfl⟩ (by decide +kernel) (fun x14 => ?_)
        refine zs_if_ne (pc := 32) (off := 5) (tgt := 37) C (by decide +kernel) (by decide) ?_ ?_
        · exact zs_goj (hJ6 ()) ⟨rfl, rfl, rfl, rfl, trivial⟩
        · refine zs_iconst (pc := 35) (n := (-1)) (x := (-1)) C (by decide +kernel) (by decide +kernel) ?_
          exact zs_retWi (pc := 36) C hr ⟨Nat.le_of_ble_eq_true rfl, Nat.le_of_ble_eq_true rfl⟩ (by decide +kernel)
set_option maxRecDepth 20000 in
theorem c_X11_dropped (l : Launch) (g : GC) (hl : l.stackTraces = false) (a0 : Int) (a1 : Int) : ConT l g yX11_dropped cX11_dropped 3 (some .int) (rmd 10 5 30) [sR 0, sI a0, sI a1] (fun mm => fX11_dropped a0 a1 mm) := by
  refine zs_ofT (by decide +kernel) (Nat.le_of_ble_eq_true rfl) ?_
  intro p e s m args below meth c C hr hE
  replace C : Bd g RX11 cX11_dropped 3 p s m args meth c := C
  unfold fX11_dropped
  refine zs_aload_n (pc := 0) (k := 0) (i := 0) C (by decide +kernel) rfl rfl ?_
  refine zs_iload_n (pc := 1) (k := 1) (i := 1) C (by decide +kernel) rfl rfl ?_
  refine zs_iload_n (pc := 2) (k := 2) (i := 2) C (by decide +kernel) rfl rfl ?_
  refine zs_cvTv (pc := 3) (As := [sI a0, sI a1]) (st := []) C hE (c_X11_needErrands l g hl a0 a1) ml_RX11_313 rfl rfl rfl rfl (Nat.le_of_ble_eq_true rfl) ⟨Nat.le_of_ble_eq_true rfl, Nat.le_of_ble_eq_true rfl⟩ ⟨Nat.le_of_ble_eq_true rfl, Nat.le_of_ble_eq_true rfl⟩ ⟨Nat.le_of_ble_eq_true rfl, Nat.le_of_ble_eq_true rfl⟩ (by decide +kernel) ?_
  refine zs_aload_n (pc := 6) (k := 0) (i := 0) C (by decide +kernel) rfl rfl ?_
  refine zs_getR (o' := 18) (pc := 7) (i := 33) (ci := 11) (k := 5) C (by decide +kernel) fl_RX11_33 rfl rfl rfl ?_
  refine zs_iload_n (pc := 10) (k := 1) (i := 1) C (by decide +kernel) rfl rfl ?_
  refine zs_cvVv (pc := 11) (As := [sI a0]) (st := []) C (fun _ _ _ => rfl) (c_X0_begin l g a0) ml_RX11_251 rfl rfl rfl rfl (Nat.le_of_ble_eq_true rfl) ⟨Nat.le_of_ble_eq_true rfl, Nat.le_of_ble_eq_true rfl⟩ ⟨Nat.le_of_ble_eq_true rfl, Nat.le_of_ble_eq_true rfl⟩ (by decide +kernel) ?_
  refine zs_aload_n (pc := 14) (k := 0) (i := 0) C (by decide +kernel) rfl rfl ?_
  refine zs_getR (o' := 100) (pc := 15) (i := 69) (ci := 11) (k := 11) C (by decide +kernel) fl_RX11_69 rfl rfl rfl ?_
  refine zs_aload_n (pc := 18) (k := 0) (i := 0) C (by decide +kernel) rfl rfl ?_
  refine zs_getR (o' := 18) (pc := 19) (i := 33) (ci := 11) (k := 5) C (by decide +kernel) fl_RX11_33 rfl rfl rfl ?_
  refine zs_cvWi (pc := 22) (As := [sR 18]) (st := []) C (fun _ _ _ => rfl) rfl (c_X1_bestDropped l g ) ml_RX11_320 rfl rfl rfl rfl (Nat.le_of_ble_eq_true rfl) ⟨Nat.le_of_ble_eq_true rfl, Nat.le_of_ble_eq_true rfl⟩ ⟨Nat.le_of_ble_eq_true rfl, Nat.le_of_ble_eq_true rfl⟩ (by decide +kernel) (fun x1 => ?_)
  exact zs_retTi (pc := 25) C hr ⟨Nat.le_of_ble_eq_true rfl, Nat.le_of_ble_eq_true rfl⟩ (by decide +kernel)
set_option maxRecDepth 20000 in
theorem c_X2_measure (l : Launch) (g : GC)  : ConV l g yX2_measure cX2_measure 3 (rmd 4 0 0) [sR 105, sR 19] (fun mm => fX2_measure  mm) := by
  refine zs_ofV (by decide +kernel) (Nat.le_of_ble_eq_true rfl) ?_
  intro p e s m args below meth c C hr
  replace C : Bd g RX2 cX2_measure 3 p s m args meth c := C
  unfold fX2_measure
  refine zs_iconst (pc := 0) (n := 0) (x := 0) C (by decide +kernel) (by decide +kernel) ?_
  refine zs_istore_n (pc := 1) (k := 2) (i := 2) (ls' := [(2, sI 0), (0, sR 105), (1, sR 19)]) C (by decide +kernel) rfl (Nat.le_of_ble_eq_true rfl) rfl ?_
  refine zs_sub (ls' := [(0, sR 105), (1, sR 19), (2, sI 0)]) ⟨rfl, rfl, rfl, trivial⟩ ?_
  refine zs_lp (pc := 2) (fun (t1 : Int) => [(0, sR 105), (1, sR 19), (2, sI t1)]) (fun _ => []) (fun K2 hK2 t1 => ?_) BIG 0
  refine zs_iload_n (pc := 2) (k := 2) (i := 2) C (by decide +kernel) rfl rfl ?_
  refine zs_aload_n (pc := 3) (k := 1) (i := 1) C (by decide +kernel) rfl rfl ?_
  refine zs_getR (o' := 20) (pc := 4) (i := 24) (ci := 10) (k := 0) C (by decide +kernel) fl_RX2_24 rfl rfl rfl ?_
  refine zs_getI (pc := 7) (i := 30) (ci := 3) (k := 5) C (by decide +kernel) fl_RX2_30 rfl rfl (fun x3 => ?_)
  refine zs_icmp_ge (pc := 10) (off := 43) (tgt := 53) C (by decide +kernel) (by decide) ?_ ?_
  · exact zs_retVv (pc := 53) C hr ⟨Nat.le_of_ble_eq_true rfl, Nat.le_of_ble_eq_true rfl⟩ (by decide +kernel)
  · refine zs_aload_n (pc := 13) (k := 0) (i := 0) C (by decide +kernel) rfl rfl ?_
    refine zs_getR (o' := 108) (pc := 14) (i := 18) (ci := 2) (k := 2) C (by decide +kernel) fl_RX2_18 rfl rfl rfl ?_
    refine zs_iload_n (pc := 17) (k := 2) (i := 2) C (by decide +kernel) rfl rfl ?_
    refine zs_aload_n (pc := 18) (k := 1) (i := 1) C (by decide +kernel) rfl rfl ?_
    refine zs_getR (o' := 27) (pc := 19) (i := 36) (ci := 10) (k := 1) C (by decide +kernel) fl_RX2_36 rfl rfl rfl ?_
    refine zs_iload_n (pc := 22) (k := 2) (i := 2) C (by decide +kernel) rfl rfl ?_
    refine zs_cvRi (pc := 23) (As := [sI t1]) (st := [sI t1, sR 108]) C rfl (c_X5_isParted l g t1) ml_RX2_40 rfl rfl rfl rfl (Nat.le_of_ble_eq_true rfl) ⟨Nat.le_of_ble_eq_true rfl, Nat.le_of_ble_eq_true rfl⟩ ⟨Nat.le_of_ble_eq_true rfl, Nat.le_of_ble_eq_true rfl⟩ (by decide +kernel) (fun x4 => ?_)
    refine zs_jn (pJ := 46) (kJ := 0) (sJ := 0) (fun t5 => [(0, sR 105), (1, sR 19), (2, sI t1)]) (fun t5 => [sI t5, sI t1, sR 108]) (fun t5 => ?_) (fun J6 hJ6 => ?_)
    · refine zs_iast (pc := 46) (o := 108) (n := 4) C (fun _ _ _ => rfl) (by decide +kernel) rfl ?_
      refine zs_iinc (pc := 47) (i := 2) (n := 1) (y := w32 (t1 + 1)) (ls' := [(2, sI (w32 (t1 + 1))), (0, sR 105), (1, sR 19)]) C (by decide +kernel) rfl rfl (Nat.le_of_ble_eq_true rfl) rfl ?_
      refine zs_goto (pc := 50) (off := (-48)) (tgt := 2) C (by decide +kernel) (by decide) ?_
      exact zs_goj (hK2 (w32 (t1 + 1))) ⟨rfl, rfl, rfl, trivial⟩
    · refine zs_if_eq (pc := 26) (off := 8) (tgt := 34) C (by decide +kernel) (by decide) ?_ ?_
      · refine zs_aload_n (pc := 34) (k := 1) (i := 1) C (by decide +kernel) rfl rfl ?_
        refine zs_iload_n (pc := 35) (k := 2) (i := 2) C (by decide +kernel) rfl rfl ?_
        refine zs_aload_n (pc := 36) (k := 1) (i := 1) C (by decide +kernel) rfl rfl ?_
        refine zs_getR (o' := 27) (pc := 37) (i := 36) (ci := 10) (k := 1) C (by decide +kernel) fl_RX2_36 rfl rfl rfl ?_
        refine zs_getI (pc := 40) (i := 46) (ci := 5) (k := 0) C (by decide +kernel) fl_RX2_46 rfl rfl (fun x7 => ?_)
        refine zs_cvWi (pc := 43) (As := [sI t1, sI x7]) (st := [sI t1, sR 108]) C (fun _ _ _ => rfl) rfl (c_X10_ropeIn l g t1 x7) ml_RX2_49 rfl rfl rfl rfl (Nat.le_of_ble_eq_true rfl) ⟨Nat.le_of_ble_eq_true rfl, Nat.le_of_ble_eq_true rfl⟩ ⟨Nat.le_of_ble_eq_true rfl, Nat.le_of_ble_eq_true rfl⟩ (by decide +kernel) (fun x8 => ?_)
        exact zs_goj (hJ6 x8) ⟨rfl, rfl, rfl, trivial⟩
      · refine zs_bipush (pc := 29) (n := 8) (x := 8) C (by decide +kernel) (by decide +kernel) ?_
        refine zs_goto (pc := 31) (off := 15) (tgt := 46) C (by decide +kernel) (by decide) ?_
        exact zs_goj (hJ6 8) ⟨rfl, rfl, rfl, trivial⟩
set_option maxRecDepth 20000 in
theorem c_J6_bitCount_0f7a4 (l : Launch) (g : GC) (a0 : Int) : ConR l g yJ6_bitCount_0f7a4 cJ6_bitCount_0f7a4 1 (some .int) (rmd 1 0 0) [sI a0] (fun mm => fJ6_bitCount_0f7a4 a0 mm) := by
  refine zs_ofR (by decide +kernel) (Nat.le_of_ble_eq_true rfl) ?_
  intro p e s m args below meth c C hr
  replace C : Bd g RJ6 cJ6_bitCount_0f7a4 1 p s m args meth c := C
  unfold fJ6_bitCount_0f7a4
  refine zs_iload_n (pc := 0) (k := 0) (i := 0) C (by decide +kernel) rfl rfl ?_
  refine zs_iload_n (pc := 1) (k := 0) (i := 0) C (by decide +kernel) rfl rfl ?_
  refine zs_iconst (pc := 2) (n := 1) (x := 1) C (by decide +kernel) (by decide +kernel) ?_
  refine zs_iushr (pc := 3) C (by decide +kernel) ?_
  refine zs_ldcw (pc := 4) (i := 265) (v := 1431655765) (x := 1431655765) C (by decide +kernel) wf_754 (by decide +kernel) ?_
  refine zs_iand (pc := 7) C (by decide +kernel) ?_
  refine zs_isub (pc := 8) C (by decide +kernel) ?_
  refine zs_let (fun x1 => ?_)
  refine zs_istore_n (pc := 9) (k := 0) (i := 0) (ls' := [(0, sI x1)]) C (by decide +kernel) rfl (Nat.le_of_ble_eq_true rfl) rfl ?_
  refine zs_iload_n (pc := 10) (k := 0) (i := 0) C (by decide +kernel) rfl rfl ?_
  refine zs_ldcw (pc := 11) (i := 266) (v := 858993459) (x := 858993459) C (by decide +kernel) wf_755 (by decide +kernel) ?_
  refine zs_iand (pc := 14) C (by decide +kernel) ?_
  refine zs_iload_n (pc := 15) (k := 0) (i := 0) C (by decide +kernel) rfl rfl ?_
  refine zs_iconst (pc := 16) (n := 2) (x := 2) C (by decide +kernel) (by decide +kernel) ?_
  refine zs_iushr (pc := 17) C (by decide +kernel) ?_
  refine zs_ldcw (pc := 18) (i := 266) (v := 858993459) (x := 858993459) C (by decide +kernel) wf_755 (by decide +kernel) ?_
  refine zs_iand (pc := 21) C (by decide +kernel) ?_
  refine zs_iadd (pc := 22) C (by decide +kernel) ?_
  refine zs_let (fun x2 => ?_)
  refine zs_istore_n (pc := 23) (k := 0) (i := 0) (ls' := [(0, sI x2)]) C (by decide +kernel) rfl (Nat.le_of_ble_eq_true rfl) rfl ?_
  refine zs_iload_n (pc := 24) (k := 0) (i := 0) C (by decide +kernel) rfl rfl ?_
  refine zs_iload_n (pc := 25) (k := 0) (i := 0) C (by decide +kernel) rfl rfl ?_
  refine zs_iconst (pc := 26) (n := 4) (x := 4) C (by decide +kernel) (by decide +kernel) ?_
  refine zs_iushr (pc := 27) C (by decide +kernel) ?_
  refine zs_iadd (pc := 28) C (by decide +kernel) ?_
  refine zs_ldcw (pc := 29) (i := 267) (v := 252645135) (x := 252645135) C (by decide +kernel) wf_756 (by decide +kernel) ?_
  refine zs_iand (pc := 32) C (by decide +kernel) ?_
  refine zs_let (fun x3 => ?_)
  refine zs_istore_n (pc := 33) (k := 0) (i := 0) (ls' := [(0, sI x3)]) C (by decide +kernel) rfl (Nat.le_of_ble_eq_true rfl) rfl ?_
  refine zs_iload_n (pc := 34) (k := 0) (i := 0) C (by decide +kernel) rfl rfl ?_
  refine zs_iload_n (pc := 35) (k := 0) (i := 0) C (by decide +kernel) rfl rfl ?_
  refine zs_bipush (pc := 36) (n := 8) (x := 8) C (by decide +kernel) (by decide +kernel) ?_
  refine zs_iushr (pc := 38) C (by decide +kernel) ?_
  refine zs_iadd (pc := 39) C (by decide +kernel) ?_
  refine zs_let (fun x4 => ?_)
  refine zs_istore_n (pc := 40) (k := 0) (i := 0) (ls' := [(0, sI x4)]) C (by decide +kernel) rfl (Nat.le_of_ble_eq_true rfl) rfl ?_
  refine zs_iload_n (pc := 41) (k := 0) (i := 0) C (by decide +kernel) rfl rfl ?_
  refine zs_iload_n (pc := 42) (k := 0) (i := 0) C (by decide +kernel) rfl rfl ?_
  refine zs_bipush (pc := 43) (n := 16) (x := 16) C (by decide +kernel) (by decide +kernel) ?_
  refine zs_iushr (pc := 45) C (by decide +kernel) ?_
  refine zs_iadd (pc := 46) C (by decide +kernel) ?_
  refine zs_let (fun x5 => ?_)
  refine zs_istore_n (pc := 47) (k := 0) (i := 0) (ls' := [(0, sI x5)]) C (by decide +kernel) rfl (Nat.le_of_ble_eq_true rfl) rfl ?_
  refine zs_iload_n (pc := 48) (k := 0) (i := 0) C (by decide +kernel) rfl rfl ?_
  refine zs_bipush (pc := 49) (n := 63) (x := 63) C (by decide +kernel) (by decide +kernel) ?_
  refine zs_iand (pc := 51) C (by decide +kernel) ?_
  exact zs_retRi (pc := 52) C hr ⟨Nat.le_of_ble_eq_true rfl, Nat.le_of_ble_eq_true rfl⟩ (by decide +kernel)
set_option maxRecDepth 20000 in
theorem c_X2_canHave (l : Launch) (g : GC) (a1 : Int) (a2 : Int) (a3 : Int) (a4 : Int) : ConR l g yX2_canHave cX2_canHave 7 (some .boolean) (rmd 2 0 0) [sR 105, sR 20, sI a1, sI a2, sI a3, sI a4] (fun mm => fX2_canHave a1 a2 a3 a4 mm) := by
  refine zs_ofR (by decide +kernel) (Nat.le_of_ble_eq_true rfl) ?_
  intro p e s m args below meth c C hr
  replace C : Bd g RX2 cX2_canHave 7 p s m args meth c := C
  unfold fX2_canHave
  refine zs_iload (pc := 0) (i := 4) C (by decide +kernel) rfl ?_
  refine zs_iload (pc := 2) (i := 5) C (by decide +kernel) rfl ?_
  refine zs_jn (pJ := 30) (kJ := 0) (sJ := 0) (fun t1 => [(0, sR 105), (1, sR 20), (2, sI a1), (4, sI a3), (5, sI a4)]) (fun t1 => [sI t1]) (fun t1 => ?_) (fun J2 hJ2 => ?_)
  · refine zs_istore (pc := 30) (i := 6) (ls' := [(6, sI t1), (0, sR 105), (1, sR 20), (2, sI a1), (4, sI a3), (5, sI a4)]) C (by decide +kernel) (Nat.le_of_ble_eq_true rfl) rfl ?_
    refine zs_iload (pc := 32) (i := 6) C (by decide +kernel) rfl ?_
    refine zs_jn (pJ := 69) (kJ := 0) (sJ := 0) (fun t3 => []) (fun t3 => [sI t3]) (fun t3 => ?_) (fun J4 hJ4 => ?_)
    · refine zs_chk (fun _ hx => ?_)
      exact zs_retRz (pc := 69) C hx hr ⟨Nat.le_of_ble_eq_true rfl, Nat.le_of_ble_eq_true rfl⟩ (by decide +kernel)
    · refine zs_jn (pJ := 68) (kJ := 0) (sJ := 0) (fun t5 => []) (fun t5 => []) (fun t5 => ?_) (fun J6 hJ6 => ?_)
      · refine zs_iconst (pc := 68) (n := 0) (x := 0) C (by decide +kernel) (by decide +kernel) ?_
        exact zs_goj (hJ4 0) trivial
      · refine zs_if_eq (pc := 34) (off := 34) (tgt := 68) C (by decide +kernel) (by decide) ?_ ?_
        · exact zs_goj (hJ6 ()) trivial
        · refine zs_aload_n (pc := 37) (k := 1) (i := 1) C (by decide +kernel) rfl rfl ?_
          refine zs_aload_n (pc := 38) (k := 1) (i := 1) C (by decide +kernel) rfl rfl ?_
          refine zs_getR (o' := 21) (pc := 39) (i := 53) (ci := 3) (k := 6) C (by decide +kernel) fl_RX2_53 rfl rfl rfl ?_
          refine zs_iload (pc := 42) (i := 4) C (by decide +kernel) rfl ?_
          refine zs_iald (pc := 44) (o := 21) (n := 8) C (by decide +kernel) rfl (fun hinx7 x7 => ?_)
          refine zs_aload_n (pc := 45) (k := 1) (i := 1) C (by decide +kernel) rfl rfl ?_
          refine zs_getR (o' := 21) (pc := 46) (i := 53) (ci := 3) (k := 6) C (by decide +kernel) fl_RX2_53 rfl rfl rfl ?_
          refine zs_iload (pc := 49) (i := 5) C (by decide +kernel) rfl ?_
          refine zs_iald (pc := 51) (o := 21) (n := 8) C (by decide +kernel) rfl (fun hinx8 x8 => ?_)
          refine zs_cvRi (pc := 52) (As := [sI x7, sI x8]) (st := []) C rfl (c_X3_apart l g x7 x8) ml_RX2_56 rfl rfl rfl rfl (Nat.le_of_ble_eq_true rfl) ⟨Nat.le_of_ble_eq_true rfl, Nat.le_of_ble_eq_true rfl⟩ ⟨Nat.le_of_ble_eq_true rfl, Nat.le_of_ble_eq_true rfl⟩ (by decide +kernel) (fun x9 => ?_)
          refine zs_aload_n (pc := 55) (k := 0) (i := 0) C (by decide +kernel) rfl rfl ?_
          refine zs_getR (o' := 108) (pc := 56) (i := 18) (ci := 2) (k := 2) C (by decide +kernel) fl_RX2_18 rfl rfl rfl ?_
          refine zs_iload_n (pc := 59) (k := 2) (i := 2) C (by decide +kernel) rfl rfl ?_
          refine zs_iald (pc := 60) (o := 108) (n := 4) C (by decide +kernel) rfl (fun hinx10 x10 => ?_)
          refine zs_icmp_gt (pc := 61) (off := 7) (tgt := 68) C (by decide +kernel) (by decide) ?_ ?_
          · exact zs_goj (hJ6 ()) trivial
          · refine zs_iconst (pc := 64) (n := 1) (x := 1) C (by decide +kernel) (by decide +kernel) ?_
            refine zs_goto (pc := 65) (off := 4) (tgt := 69) C (by decide +kernel) (by decide) ?_
            exact zs_goj (hJ4 1) trivial
  · refine zs_jn (pJ := 29) (kJ := 0) (sJ := 0) (fun t11 => [(0, sR 105), (1, sR 20), (2, sI a1), (4, sI a3), (5, sI a4)]) (fun t11 => []) (fun t11 => ?_) (fun J12 hJ12 => ?_)
    · refine zs_iconst (pc := 29) (n := 0) (x := 0) C (by decide +kernel) (by decide +kernel) ?_
      exact zs_goj (hJ2 0) ⟨rfl, rfl, rfl, rfl, rfl, trivial⟩
    · refine zs_icmp_eq (pc := 4) (off := 25) (tgt := 29) C (by decide +kernel) (by decide) ?_ ?_
      · exact zs_goj (hJ12 ()) ⟨rfl, rfl, rfl, rfl, rfl, trivial⟩
      · refine zs_iload_n (pc := 7) (k := 3) (i := 3) C (by decide +kernel) rfl rfl ?_
        refine zs_iload (pc := 8) (i := 4) C (by decide +kernel) rfl ?_
        refine zs_iushr (pc := 10) C (by decide +kernel) ?_
        refine zs_iconst (pc := 11) (n := 1) (x := 1) C (by decide +kernel) (by decide +kernel) ?_
        refine zs_iand (pc := 12) C (by decide +kernel) ?_
        refine zs_if_ne (pc := 13) (off := 16) (tgt := 29) C (by decide +kernel) (by decide) ?_ ?_
        · exact zs_goj (hJ12 ()) ⟨rfl, rfl, rfl, rfl, rfl, trivial⟩
        · refine zs_iload_n (pc := 16) (k := 3) (i := 3) C (by decide +kernel) rfl rfl ?_
          refine zs_iload (pc := 17) (i := 5) C (by decide +kernel) rfl ?_
          refine zs_iushr (pc := 19) C (by decide +kernel) ?_
          refine zs_iconst (pc := 20) (n := 1) (x := 1) C (by decide +kernel) (by decide +kernel) ?_
          refine zs_iand (pc := 21) C (by decide +kernel) ?_
          refine zs_if_ne (pc := 22) (off := 7) (tgt := 29) C (by decide +kernel) (by decide) ?_ ?_
          · exact zs_goj (hJ12 ()) ⟨rfl, rfl, rfl, rfl, rfl, trivial⟩
          · refine zs_iconst (pc := 25) (n := 1) (x := 1) C (by decide +kernel) (by decide +kernel) ?_
            refine zs_goto (pc := 26) (off := 4) (tgt := 30) C (by decide +kernel) (by decide) ?_
            exact zs_goj (hJ2 1) ⟨rfl, rfl, rfl, rfl, rfl, trivial⟩
set_option maxRecDepth 20000 in
theorem c_X2_pushFrom (l : Launch) (g : GC) (a1 : Int) (a2 : Int) (a3 : Int) : ConV l g yX2_pushFrom cX2_pushFrom 8 (rmd 3 0 0) [sR 105, sR 19, sI a1, sI a2, sI a3] (fun mm => fX2_pushFrom a1 a2 a3 mm) := by
  refine zs_ofV (by decide +kernel) (Nat.le_of_ble_eq_true rfl) ?_
  intro p e s m args below meth c C hr
  replace C : Bd g RX2 cX2_pushFrom 8 p s m args meth c := C
  unfold fX2_pushFrom
  refine zs_aload_n (pc := 0) (k := 1) (i := 1) C (by decide +kernel) rfl rfl ?_
  refine zs_getR (o' := 20) (pc := 1) (i := 24) (ci := 10) (k := 0) C (by decide +kernel) fl_RX2_24 rfl rfl rfl ?_
  refine zs_getI (pc := 4) (i := 59) (ci := 3) (k := 4) C (by decide +kernel) fl_RX2_59 rfl rfl (fun x1 => ?_)
  refine zs_istore (pc := 7) (i := 5) (ls' := [(5, sI x1), (0, sR 105), (1, sR 19), (2, sI a1), (3, sI a2), (4, sI a3)]) C (by decide +kernel) (Nat.le_of_ble_eq_true rfl) rfl ?_
  refine zs_iconst (pc := 9) (n := 0) (x := 0) C (by decide +kernel) (by decide +kernel) ?_
  refine zs_istore (pc := 10) (i := 6) (ls' := [(6, sI 0), (5, sI x1), (0, sR 105), (1, sR 19), (2, sI a1), (3, sI a2), (4, sI a3)]) C (by decide +kernel) (Nat.le_of_ble_eq_true rfl) rfl ?_
  refine zs_sub (ls' := [(0, sR 105), (1, sR 19), (2, sI a1), (3, sI a2), (4, sI a3), (5, sI x1), (6, sI 0)]) ⟨rfl, rfl, rfl, rfl, rfl, rfl, rfl, trivial⟩ ?_
  refine zs_lp (pc := 12) (fun (t2 : Int) => [(0, sR 105), (1, sR 19), (2, sI a1), (3, sI a2), (4, sI a3), (5, sI x1), (6, sI t2)]) (fun _ => []) (fun K3 hK3 t2 => ?_) BIG 0
  refine zs_iload (pc := 12) (i := 6) C (by decide +kernel) rfl ?_
  refine zs_iload (pc := 14) (i := 5) C (by decide +kernel) rfl ?_
  refine zs_icmp_ge (pc := 16) (off := 70) (tgt := 86) C (by decide +kernel) (by decide) ?_ ?_
  · exact zs_retVv (pc := 86) C hr ⟨Nat.le_of_ble_eq_true rfl, Nat.le_of_ble_eq_true rfl⟩ (by decide +kernel)
  · refine zs_iconst (pc := 19) (n := 0) (x := 0) C (by decide +kernel) (by decide +kernel) ?_
    refine zs_istore (pc := 20) (i := 7) (ls' := [(7, sI 0), (0, sR 105), (1, sR 19), (2, sI a1), (3, sI a2), (4, sI a3), (5, sI x1), (6, sI t2)]) C (by decide +kernel) (Nat.le_of_ble_eq_true rfl) rfl ?_
    refine zs_sub (ls' := [(0, sR 105), (1, sR 19), (2, sI a1), (3, sI a2), (4, sI a3), (5, sI x1), (6, sI t2), (7, sI 0)]) ⟨rfl, rfl, rfl, rfl, rfl, rfl, rfl, rfl, trivial⟩ ?_
    refine zs_lp (pc := 22) (fun (t4 : Int) => [(0, sR 105), (1, sR 19), (2, sI a1), (3, sI a2), (4, sI a3), (5, sI x1), (6, sI t2), (7, sI t4)]) (fun _ => []) (fun K5 hK5 t4 => ?_) BIG 0
    refine zs_iload (pc := 22) (i := 7) C (by decide +kernel) rfl ?_
    refine zs_iload (pc := 24) (i := 5) C (by decide +kernel) rfl ?_
    refine zs_icmp_ge (pc := 26) (off := 54) (tgt := 80) C (by decide +kernel) (by decide) ?_ ?_
    · refine zs_iinc (pc := 80) (i := 6) (n := 1) (y := w32 (t2 + 1)) (ls' := [(6, sI (w32 (t2 + 1))), (0, sR 105), (1, sR 19), (2, sI a1), (3, sI a2), (4, sI a3), (5, sI x1), (7, sI t4)]) C (by decide +kernel) rfl rfl (Nat.le_of_ble_eq_true rfl) rfl ?_
      refine zs_goto (pc := 83) (off := (-71)) (tgt := 12) C (by decide +kernel) (by decide) ?_
      exact zs_goj (hK3 (w32 (t2 + 1))) ⟨rfl, rfl, rfl, rfl, rfl, rfl, rfl, trivial⟩
    · refine zs_aload_n (pc := 29) (k := 0) (i := 0) C (by decide +kernel) rfl rfl ?_
      refine zs_aload_n (pc := 30) (k := 1) (i := 1) C (by decide +kernel) rfl rfl ?_
      refine zs_getR (o' := 20) (pc := 31) (i := 24) (ci := 10) (k := 0) C (by decide +kernel) fl_RX2_24 rfl rfl rfl ?_
      refine zs_iload_n (pc := 34) (k := 3) (i := 3) C (by decide +kernel) rfl rfl ?_
      refine zs_iload_n (pc := 35) (k := 2) (i := 2) C (by decide +kernel) rfl rfl ?_
      refine zs_iload (pc := 36) (i := 4) C (by decide +kernel) rfl ?_
      refine zs_ior (pc := 38) C (by decide +kernel) ?_
      refine zs_iload (pc := 39) (i := 6) C (by decide +kernel) rfl ?_
      refine zs_iload (pc := 41) (i := 7) C (by decide +kernel) rfl ?_
      refine zs_cvRi (pc := 43) (As := [sR 20, sI a2, sI (ior a1 a3), sI t2, sI t4]) (st := []) C rfl (c_X2_canHave l g a2 (ior a1 a3) t2 t4) ml_RX2_82 rfl rfl rfl rfl (Nat.le_of_ble_eq_true rfl) ⟨Nat.le_of_ble_eq_true rfl, Nat.le_of_ble_eq_true rfl⟩ ⟨Nat.le_of_ble_eq_true rfl, Nat.le_of_ble_eq_true rfl⟩ (by decide +kernel) (fun x6 => ?_)
      refine zs_jn (pJ := 74) (kJ := 0) (sJ := 0) (fun t7 => [(0, sR 105), (1, sR 19), (2, sI a1), (3, sI a2), (4, sI a3), (5, sI x1), (6, sI t2), (7, sI t4)]) (fun t7 => []) (fun t7 => ?_) (fun J8 hJ8 => ?_)
      · refine zs_iinc (pc := 74) (i := 7) (n := 1) (y := w32 (t4 + 1)) (ls' := [(7, sI (w32 (t4 + 1))), (0, sR 105), (1, sR 19), (2, sI a1), (3, sI a2), (4, sI a3), (5, sI x1), (6, sI t2)]) C (by decide +kernel) rfl rfl (Nat.le_of_ble_eq_true rfl) rfl ?_
        refine zs_goto (pc := 77) (off := (-55)) (tgt := 22) C (by decide +kernel) (by decide) ?_
        exact zs_goj (hK5 (w32 (t4 + 1))) ⟨rfl, rfl, rfl, rfl, rfl, rfl, rfl, rfl, trivial⟩
      · refine zs_if_eq (pc := 46) (off := 28) (tgt := 74) C (by decide +kernel) (by decide) ?_ ?_
        · exact zs_goj (hJ8 ()) ⟨rfl, rfl, rfl, rfl, rfl, rfl, rfl, rfl, trivial⟩
        · refine zs_aload_n (pc := 49) (k := 0) (i := 0) C (by decide +kernel) rfl rfl ?_
          refine zs_getR (o' := 106) (pc := 50) (i := 9) (ci := 2) (k := 0) C (by decide +kernel) fl_RX2_9 rfl rfl rfl ?_
          refine zs_iload_n (pc := 53) (k := 2) (i := 2) C (by decide +kernel) rfl rfl ?_
          refine zs_iconst (pc := 54) (n := 1) (x := 1) C (by decide +kernel) (by decide +kernel) ?_
          refine zs_iload (pc := 55) (i := 6) C (by decide +kernel) rfl ?_
          refine zs_ishl (pc := 57) C (by decide +kernel) ?_
          refine zs_ior (pc := 58) C (by decide +kernel) ?_
          refine zs_iconst (pc := 59) (n := 1) (x := 1) C (by decide +kernel) (by decide +kernel) ?_
          refine zs_iload (pc := 60) (i := 7) C (by decide +kernel) rfl ?_
          refine zs_ishl (pc := 62) C (by decide +kernel) ?_
          refine zs_ior (pc := 63) C (by decide +kernel) ?_
          refine zs_dup2 (pc := 64) C rfl rfl (by decide +kernel) ?_
          refine zs_iald (pc := 65) (o := 106) (n := 256) C (by decide +kernel) rfl (fun hinx9 x9 => ?_)
          refine zs_aload_n (pc := 66) (k := 0) (i := 0) C (by decide +kernel) rfl rfl ?_
          refine zs_getR (o' := 106) (pc := 67) (i := 9) (ci := 2) (k := 0) C (by decide +kernel) fl_RX2_9 rfl rfl rfl ?_
          refine zs_iload_n (pc := 70) (k := 2) (i := 2) C (by decide +kernel) rfl rfl ?_
          refine zs_iald (pc := 71) (o := 106) (n := 256) C (by decide +kernel) rfl (fun hinx10 x10 => ?_)
          refine zs_iadd (pc := 72) C (by decide +kernel) ?_
          refine zs_iast (pc := 73) (o := 106) (n := 256) C (fun _ _ _ => rfl) (by decide +kernel) rfl ?_
          exact zs_goj (hJ8 ()) ⟨rfl, rfl, rfl, rfl, rfl, rfl, rfl, rfl, trivial⟩
set_option maxRecDepth 20000 in
theorem c_X2_waysWithout (l : Launch) (g : GC) (a1 : Int) : ConW l g yX2_waysWithout cX2_waysWithout 8 (some .int) (rmd 5 0 0) [sR 105, sR 19, sI a1] (fun mm => fX2_waysWithout a1 mm) := by
  refine zs_ofW (by decide +kernel) (Nat.le_of_ble_eq_true rfl) ?_
  intro p e s m args below meth c C hr
  replace C : Bd g RX2 cX2_waysWithout 8 p s m args meth c := C
  unfold fX2_waysWithout
  refine zs_aload_n (pc := 0) (k := 1) (i := 1) C (by decide +kernel) rfl rfl ?_
  refine zs_getR (o' := 20) (pc := 1) (i := 24) (ci := 10) (k := 0) C (by decide +kernel) fl_RX2_24 rfl rfl rfl ?_
  refine zs_getI (pc := 4) (i := 30) (ci := 3) (k := 5) C (by decide +kernel) fl_RX2_30 rfl rfl (fun x1 => ?_)
  refine zs_istore_n (pc := 7) (k := 3) (i := 3) (ls' := [(3, sI x1), (0, sR 105), (1, sR 19), (2, sI a1)]) C (by decide +kernel) rfl (Nat.le_of_ble_eq_true rfl) rfl ?_
  refine zs_iconst (pc := 8) (n := 1) (x := 1) C (by decide +kernel) (by decide +kernel) ?_
  refine zs_aload_n (pc := 9) (k := 1) (i := 1) C (by decide +kernel) rfl rfl ?_
  refine zs_getR (o' := 20) (pc := 10) (i := 24) (ci := 10) (k := 0) C (by decide +kernel) fl_RX2_24 rfl rfl rfl ?_
  refine zs_getI (pc := 13) (i := 59) (ci := 3) (k := 4) C (by decide +kernel) fl_RX2_59 rfl rfl (fun x2 => ?_)
  refine zs_ishl (pc := 16) C (by decide +kernel) ?_
  refine zs_let (fun x3 => ?_)
  refine zs_istore (pc := 17) (i := 4) (ls' := [(4, sI x3), (3, sI x1), (0, sR 105), (1, sR 19), (2, sI a1)]) C (by decide +kernel) (Nat.le_of_ble_eq_true rfl) rfl ?_
  refine zs_iconst (pc := 19) (n := 0) (x := 0) C (by decide +kernel) (by decide +kernel) ?_
  refine zs_istore (pc := 20) (i := 5) (ls' := [(5, sI 0), (4, sI x3), (3, sI x1), (0, sR 105), (1, sR 19), (2, sI a1)]) C (by decide +kernel) (Nat.le_of_ble_eq_true rfl) rfl ?_
  refine zs_aload_n (pc := 22) (k := 0) (i := 0) C (by decide +kernel) rfl rfl ?_
  refine zs_aload_n (pc := 23) (k := 1) (i := 1) C (by decide +kernel) rfl rfl ?_
  refine zs_cvVv (pc := 24) (As := [sR 19]) (st := []) C (fun _ _ _ => rfl) (c_X2_measure l g ) ml_RX2_62 rfl rfl rfl rfl (Nat.le_of_ble_eq_true rfl) ⟨Nat.le_of_ble_eq_true rfl, Nat.le_of_ble_eq_true rfl⟩ ⟨Nat.le_of_ble_eq_true rfl, Nat.le_of_ble_eq_true rfl⟩ (by decide +kernel) ?_
  refine zs_aload_n (pc := 27) (k := 0) (i := 0) C (by decide +kernel) rfl rfl ?_
  refine zs_getR (o' := 106) (pc := 28) (i := 9) (ci := 2) (k := 0) C (by decide +kernel) fl_RX2_9 rfl rfl rfl ?_
  refine zs_iconst (pc := 31) (n := 0) (x := 0) C (by decide +kernel) (by decide +kernel) ?_
  refine zs_csVv (pc := 32) (As := [sR 106, sI 0]) (st := []) C (fun _ _ _ => rfl) (c_J7_fill_53178 l g 106 256 0 rfl) ml_RX2_66 rfl rfl (Nat.le_of_ble_eq_true rfl) ⟨Nat.le_of_ble_eq_true rfl, Nat.le_of_ble_eq_true rfl⟩ ⟨Nat.le_of_ble_eq_true rfl, Nat.le_of_ble_eq_true rfl⟩ (by decide +kernel) ?_
  refine zs_aload_n (pc := 35) (k := 0) (i := 0) C (by decide +kernel) rfl rfl ?_
  refine zs_getR (o' := 106) (pc := 36) (i := 9) (ci := 2) (k := 0) C (by decide +kernel) fl_RX2_9 rfl rfl rfl ?_
  refine zs_iconst (pc := 39) (n := 0) (x := 0) C (by decide +kernel) (by decide +kernel) ?_
  refine zs_iconst (pc := 40) (n := 1) (x := 1) C (by decide +kernel) (by decide +kernel) ?_
  refine zs_iastk (pc := 41) (o := 106) (n := 256) C (by decide) (fun _ _ _ => rfl) (by decide +kernel) rfl ?_
  refine zs_iconst (pc := 42) (n := 0) (x := 0) C (by decide +kernel) (by decide +kernel) ?_
  refine zs_istore (pc := 43) (i := 6) (ls' := [(6, sI 0), (5, sI 0), (4, sI x3), (3, sI x1), (0, sR 105), (1, sR 19), (2, sI a1)]) C (by decide +kernel) (Nat.le_of_ble_eq_true rfl) rfl ?_
  refine zs_sub (ls' := [(0, sR 105), (1, sR 19), (2, sI a1), (3, sI x1), (4, sI x3), (5, sI 0), (6, sI 0)]) ⟨rfl, rfl, rfl, rfl, rfl, rfl, rfl, trivial⟩ ?_
  refine zs_lp (pc := 45) (fun (t4 : Int × Int) => [(0, sR 105), (1, sR 19), (2, sI a1), (3, sI x1), (4, sI x3), (5, sI t4.1), (6, sI t4.2)]) (fun _ => []) (fun K5 hK5 t4 => ?_) BIG (0, 0)
  refine zs_iload (pc := 45) (i := 6) C (by decide +kernel) rfl ?_
  refine zs_iload (pc := 47) (i := 4) C (by decide +kernel) rfl ?_
  refine zs_icmp_ge (pc := 49) (off := 59) (tgt := 108) C (by decide +kernel) (by decide) ?_ ?_
  · refine zs_iload (pc := 108) (i := 5) C (by decide +kernel) rfl ?_
    exact zs_retWi (pc := 110) C hr ⟨Nat.le_of_ble_eq_true rfl, Nat.le_of_ble_eq_true rfl⟩ (by decide +kernel)
  · refine zs_iload (pc := 52) (i := 6) C (by decide +kernel) rfl ?_
    refine zs_csRi (pc := 54) (As := [sI t4.2]) (st := []) C rfl (c_J6_bitCount_0f7a4 l g t4.2) ml_RX2_72 rfl rfl (Nat.le_of_ble_eq_true rfl) ⟨Nat.le_of_ble_eq_true rfl, Nat.le_of_ble_eq_true rfl⟩ ⟨Nat.le_of_ble_eq_true rfl, Nat.le_of_ble_eq_true rfl⟩ (by decide +kernel) (fun x6 => ?_)
    refine zs_iconst (pc := 57) (n := 2) (x := 2) C (by decide +kernel) (by decide +kernel) ?_
    refine zs_idiv (pc := 58) C (by decide +kernel) (by decide +kernel) ?_
    refine zs_let (fun x7 => ?_)
    refine zs_istore (pc := 59) (i := 7) (ls' := [(7, sI x7), (0, sR 105), (1, sR 19), (2, sI a1), (3, sI x1), (4, sI x3), (5, sI t4.1), (6, sI t4.2)]) C (by decide +kernel) (Nat.le_of_ble_eq_true rfl) rfl ?_
    refine zs_iload (pc := 61) (i := 7) C (by decide +kernel) rfl ?_
    refine zs_iload_n (pc := 63) (k := 3) (i := 3) C (by decide +kernel) rfl rfl ?_
    refine zs_jn (pJ := 102) (kJ := 0) (sJ := 0) (fun t8 => [(0, sR 105), (1, sR 19), (2, sI a1), (3, sI x1), (4, sI x3), (5, sI t8), (6, sI t4.2)]) (fun t8 => []) (fun t8 => ?_) (fun J9 hJ9 => ?_)
    · refine zs_iinc (pc := 102) (i := 6) (n := 1) (y := w32 (t4.2 + 1)) (ls' := [(6, sI (w32 (t4.2 + 1))), (0, sR 105), (1, sR 19), (2, sI a1), (3, sI x1), (4, sI x3), (5, sI t8)]) C (by decide +kernel) rfl rfl (Nat.le_of_ble_eq_true rfl) rfl ?_
      refine zs_goto (pc := 105) (off := (-60)) (tgt := 45) C (by decide +kernel) (by decide) ?_
      exact zs_goj (hK5 (t8, w32 (t4.2 + 1))) ⟨rfl, rfl, rfl, rfl, rfl, rfl, rfl, trivial⟩
    · refine zs_icmp_lt (pc := 64) (off := 18) (tgt := 82) C (by decide +kernel) (by decide) ?_ ?_
      · refine zs_aload_n (pc := 82) (k := 0) (i := 0) C (by decide +kernel) rfl rfl ?_
        refine zs_getR (o' := 106) (pc := 83) (i := 9) (ci := 2) (k := 0) C (by decide +kernel) fl_RX2_9 rfl rfl rfl ?_
        refine zs_iload (pc := 86) (i := 6) C (by decide +kernel) rfl ?_
        refine zs_iald (pc := 88) (o := 106) (n := 256) C (by decide +kernel) rfl (fun hinx10 x10 => ?_)
        refine zs_if_eq (pc := 89) (off := 13) (tgt := 102) C (by decide +kernel) (by decide) ?_ ?_
        · exact zs_goj (hJ9 t4.1) ⟨rfl, rfl, rfl, rfl, rfl, rfl, rfl, trivial⟩
        · refine zs_aload_n (pc := 92) (k := 0) (i := 0) C (by decide +kernel) rfl rfl ?_
          refine zs_aload_n (pc := 93) (k := 1) (i := 1) C (by decide +kernel) rfl rfl ?_
          refine zs_iload (pc := 94) (i := 6) C (by decide +kernel) rfl ?_
          refine zs_iload (pc := 96) (i := 7) C (by decide +kernel) rfl ?_
          refine zs_iload_n (pc := 98) (k := 2) (i := 2) C (by decide +kernel) rfl rfl ?_
          refine zs_cvVv (pc := 99) (As := [sR 19, sI t4.2, sI x7, sI a1]) (st := []) C (fun _ _ _ => rfl) (c_X2_pushFrom l g t4.2 x7 a1) ml_RX2_78 rfl rfl rfl rfl (Nat.le_of_ble_eq_true rfl) ⟨Nat.le_of_ble_eq_true rfl, Nat.le_of_ble_eq_true rfl⟩ ⟨Nat.le_of_ble_eq_true rfl, Nat.le_of_ble_eq_true rfl⟩ (by decide +kernel) ?_
          exact zs_goj (hJ9 t4.1) ⟨rfl, rfl, rfl, rfl, rfl, rfl, rfl, trivial⟩
      · refine zs_iload (pc := 67) (i := 5) C (by decide +kernel) rfl ?_
        refine zs_aload_n (pc := 69) (k := 0) (i := 0) C (by decide +kernel) rfl rfl ?_
        refine zs_getR (o' := 106) (pc := 70) (i := 9) (ci := 2) (k := 0) C (by decide +kernel) fl_RX2_9 rfl rfl rfl ?_
        refine zs_iload (pc := 73) (i := 6) C (by decide +kernel) rfl ?_
        refine zs_iald (pc := 75) (o := 106) (n := 256) C (by decide +kernel) rfl (fun hinx11 x11 => ?_)
        refine zs_iadd (pc := 76) C (by decide +kernel) ?_
        refine zs_let (fun x12 => ?_)
        refine zs_istore (pc := 77) (i := 5) (ls' := [(5, sI x12), (7, sI x7), (0, sR 105), (1, sR 19), (2, sI a1), (3, sI x1), (4, sI x3), (6, sI t4.2)]) C (by decide +kernel) (Nat.le_of_ble_eq_true rfl) rfl ?_
        refine zs_goto (pc := 79) (off := 23) (tgt := 102) C (by decide +kernel) (by decide) ?_
        exact zs_goj (hJ9 x12) ⟨rfl, rfl, rfl, rfl, rfl, rfl, rfl, trivial⟩
set_option maxRecDepth 20000 in
theorem c_X11_housed (l : Launch) (g : GC)  : ConW l g yX11_housed cX11_housed 1 (some .int) (rmd 6 0 0) [sR 0] (fun mm => fX11_housed  mm) := by
  refine zs_ofW (by decide +kernel) (Nat.le_of_ble_eq_true rfl) ?_
  intro p e s m args below meth c C hr
  replace C : Bd g RX11 cX11_housed 1 p s m args meth c := C
  unfold fX11_housed
  refine zs_aload_n (pc := 0) (k := 0) (i := 0) C (by decide +kernel) rfl rfl ?_
  refine zs_getR (o' := 105) (pc := 1) (i := 76) (ci := 11) (k := 12) C (by decide +kernel) fl_RX11_76 rfl rfl rfl ?_
  refine zs_aload_n (pc := 4) (k := 0) (i := 0) C (by decide +kernel) rfl rfl ?_
  refine zs_getR (o' := 19) (pc := 5) (i := 41) (ci := 11) (k := 6) C (by decide +kernel) fl_RX11_41 rfl rfl rfl ?_
  refine zs_iconst (pc := 8) (n := 0) (x := 0) C (by decide +kernel) (by decide +kernel) ?_
  refine zs_cvWi (pc := 9) (As := [sR 19, sI 0]) (st := []) C (fun _ _ _ => rfl) rfl (c_X2_waysWithout l g 0) ml_RX11_323 rfl rfl rfl rfl (Nat.le_of_ble_eq_true rfl) ⟨Nat.le_of_ble_eq_true rfl, Nat.le_of_ble_eq_true rfl⟩ ⟨Nat.le_of_ble_eq_true rfl, Nat.le_of_ble_eq_true rfl⟩ (by decide +kernel) (fun x1 => ?_)
  exact zs_retWi (pc := 12) C hr ⟨Nat.le_of_ble_eq_true rfl, Nat.le_of_ble_eq_true rfl⟩ (by decide +kernel)
set_option maxRecDepth 20000 in
theorem c_X2_cost (l : Launch) (g : GC) (a1 : Int) (a2 : Int) (a3 : Int) : ConR l g yX2_cost cX2_cost 6 (some .int) (rmd 2 0 0) [sR 105, sR 19, sI a1, sI a2, sI a3] (fun mm => fX2_cost a1 a2 a3 mm) := by
  refine zs_ofR (by decide +kernel) (Nat.le_of_ble_eq_true rfl) ?_
  intro p e s m args below meth c C hr
  replace C : Bd g RX2 cX2_cost 6 p s m args meth c := C
  unfold fX2_cost
  refine zs_aload_n (pc := 0) (k := 1) (i := 1) C (by decide +kernel) rfl rfl ?_
  refine zs_getR (o' := 20) (pc := 1) (i := 24) (ci := 10) (k := 0) C (by decide +kernel) fl_RX2_24 rfl rfl rfl ?_
  refine zs_astore (pc := 4) (i := 5) (ls' := [(5, sR 20), (0, sR 105), (1, sR 19), (2, sI a1), (3, sI a2), (4, sI a3)]) C (by decide +kernel) (Nat.le_of_ble_eq_true rfl) rfl ?_
  refine zs_aload (pc := 6) (i := 5) C (by decide +kernel) rfl ?_
  refine zs_aload_n (pc := 8) (k := 1) (i := 1) C (by decide +kernel) rfl rfl ?_
  refine zs_getR (o' := 27) (pc := 9) (i := 36) (ci := 10) (k := 1) C (by decide +kernel) fl_RX2_36 rfl rfl rfl ?_
  refine zs_getR (o' := 28) (pc := 12) (i := 93) (ci := 5) (k := 4) C (by decide +kernel) fl_RX2_93 rfl rfl rfl ?_
  refine zs_iload_n (pc := 15) (k := 2) (i := 2) C (by decide +kernel) rfl rfl ?_
  refine zs_iald (pc := 16) (o := 28) (n := 4) C (by decide +kernel) rfl (fun hinx1 x1 => ?_)
  refine zs_aload (pc := 17) (i := 5) C (by decide +kernel) rfl ?_
  refine zs_getR (o' := 21) (pc := 19) (i := 53) (ci := 3) (k := 6) C (by decide +kernel) fl_RX2_53 rfl rfl rfl ?_
  refine zs_iload_n (pc := 22) (k := 3) (i := 3) C (by decide +kernel) rfl rfl ?_
  refine zs_iald (pc := 23) (o := 21) (n := 8) C (by decide +kernel) rfl (fun hinx2 x2 => ?_)
  refine zs_cvRi (pc := 24) (As := [sI x1, sI x2]) (st := []) C rfl (c_X3_apart l g x1 x2) ml_RX2_56 rfl rfl rfl rfl (Nat.le_of_ble_eq_true rfl) ⟨Nat.le_of_ble_eq_true rfl, Nat.le_of_ble_eq_true rfl⟩ ⟨Nat.le_of_ble_eq_true rfl, Nat.le_of_ble_eq_true rfl⟩ (by decide +kernel) (fun x3 => ?_)
  refine zs_aload (pc := 27) (i := 5) C (by decide +kernel) rfl ?_
  refine zs_aload_n (pc := 29) (k := 1) (i := 1) C (by decide +kernel) rfl rfl ?_
  refine zs_getR (o' := 27) (pc := 30) (i := 36) (ci := 10) (k := 1) C (by decide +kernel) fl_RX2_36 rfl rfl rfl ?_
  refine zs_getR (o' := 29) (pc := 33) (i := 96) (ci := 5) (k := 5) C (by decide +kernel) fl_RX2_96 rfl rfl rfl ?_
  refine zs_iload_n (pc := 36) (k := 2) (i := 2) C (by decide +kernel) rfl rfl ?_
  refine zs_iald (pc := 37) (o := 29) (n := 4) C (by decide +kernel) rfl (fun hinx4 x4 => ?_)
  refine zs_aload (pc := 38) (i := 5) C (by decide +kernel) rfl ?_
  refine zs_getR (o' := 21) (pc := 40) (i := 53) (ci := 3) (k := 6) C (by decide +kernel) fl_RX2_53 rfl rfl rfl ?_
  refine zs_iload (pc := 43) (i := 4) C (by decide +kernel) rfl ?_
  refine zs_iald (pc := 45) (o := 21) (n := 8) C (by decide +kernel) rfl (fun hinx5 x5 => ?_)
  refine zs_cvRi (pc := 46) (As := [sI x4, sI x5]) (st := [sI x3]) C rfl (c_X3_apart l g x4 x5) ml_RX2_56 rfl rfl rfl rfl (Nat.le_of_ble_eq_true rfl) ⟨Nat.le_of_ble_eq_true rfl, Nat.le_of_ble_eq_true rfl⟩ ⟨Nat.le_of_ble_eq_true rfl, Nat.le_of_ble_eq_true rfl⟩ (by decide +kernel) (fun x6 => ?_)
  refine zs_iadd (pc := 49) C (by decide +kernel) ?_
  exact zs_retRi (pc := 50) C hr ⟨Nat.le_of_ble_eq_true rfl, Nat.le_of_ble_eq_true rfl⟩ (by decide +kernel)
set_option maxRecDepth 20000 in
theorem c_X2_leastFrom (l : Launch) (g : GC) (a1 : Int) (a2 : Int) : ConR l g yX2_leastFrom cX2_leastFrom 8 (some .int) (rmd 3 0 0) [sR 105, sR 19, sI a1, sI a2] (fun mm => fX2_leastFrom a1 a2 mm) := by
  refine zs_ofR (by decide +kernel) (Nat.le_of_ble_eq_true rfl) ?_
  intro p e s m args below meth c C hr
  replace C : Bd g RX2 cX2_leastFrom 8 p s m args meth c := C
  unfold fX2_leastFrom
  refine zs_aload_n (pc := 0) (k := 1) (i := 1) C (by decide +kernel) rfl rfl ?_
  refine zs_getR (o' := 20) (pc := 1) (i := 24) (ci := 10) (k := 0) C (by decide +kernel) fl_RX2_24 rfl rfl rfl ?_
  refine zs_getI (pc := 4) (i := 59) (ci := 3) (k := 4) C (by decide +kernel) fl_RX2_59 rfl rfl (fun x1 => ?_)
  refine zs_istore (pc := 7) (i := 4) (ls' := [(4, sI x1), (0, sR 105), (1, sR 19), (2, sI a1), (3, sI a2)]) C (by decide +kernel) (Nat.le_of_ble_eq_true rfl) rfl ?_
  refine zs_sipush (pc := 9) (n := 1000) (x := 1000) C (by decide +kernel) (by decide +kernel) ?_
  refine zs_istore (pc := 12) (i := 5) (ls' := [(5, sI 1000), (4, sI x1), (0, sR 105), (1, sR 19), (2, sI a1), (3, sI a2)]) C (by decide +kernel) (Nat.le_of_ble_eq_true rfl) rfl ?_
  refine zs_iconst (pc := 14) (n := 0) (x := 0) C (by decide +kernel) (by decide +kernel) ?_
  refine zs_istore (pc := 15) (i := 6) (ls' := [(6, sI 0), (5, sI 1000), (4, sI x1), (0, sR 105), (1, sR 19), (2, sI a1), (3, sI a2)]) C (by decide +kernel) (Nat.le_of_ble_eq_true rfl) rfl ?_
  refine zs_sub (ls' := [(0, sR 105), (1, sR 19), (2, sI a1), (3, sI a2), (4, sI x1), (5, sI 1000), (6, sI 0)]) ⟨rfl, rfl, rfl, rfl, rfl, rfl, rfl, trivial⟩ ?_
  refine zs_lp (pc := 17) (fun (t2 : Int × Int) => [(0, sR 105), (1, sR 19), (2, sI a1), (3, sI a2), (4, sI x1), (5, sI t2.1), (6, sI t2.2)]) (fun _ => []) (fun K3 hK3 t2 => ?_) BIG (1000, 0)
  refine zs_iload (pc := 17) (i := 6) C (by decide +kernel) rfl ?_
  refine zs_iload (pc := 19) (i := 4) C (by decide +kernel) rfl ?_
  refine zs_icmp_ge (pc := 21) (off := 76) (tgt := 97) C (by decide +kernel) (by decide) ?_ ?_
  · refine zs_iload (pc := 97) (i := 5) C (by decide +kernel) rfl ?_
    exact zs_retRi (pc := 99) C hr ⟨Nat.le_of_ble_eq_true rfl, Nat.le_of_ble_eq_true rfl⟩ (by decide +kernel)
  · refine zs_iconst (pc := 24) (n := 0) (x := 0) C (by decide +kernel) (by decide +kernel) ?_
    refine zs_istore (pc := 25) (i := 7) (ls' := [(7, sI 0), (0, sR 105), (1, sR 19), (2, sI a1), (3, sI a2), (4, sI x1), (5, sI t2.1), (6, sI t2.2)]) C (by decide +kernel) (Nat.le_of_ble_eq_true rfl) rfl ?_
    refine zs_sub (ls' := [(0, sR 105), (1, sR 19), (2, sI a1), (3, sI a2), (4, sI x1), (5, sI t2.1), (6, sI t2.2), (7, sI 0)]) ⟨rfl, rfl, rfl, rfl, rfl, rfl, rfl, rfl, trivial⟩ ?_
    refine zs_lp (pc := 27) (fun (t4 : Int × Int) => [(0, sR 105), (1, sR 19), (2, sI a1), (3, sI a2), (4, sI x1), (5, sI t4.1), (6, sI t2.2), (7, sI t4.2)]) (fun _ => []) (fun K5 hK5 t4 => ?_) BIG (t2.1, 0)
    refine zs_iload (pc := 27) (i := 7) C (by decide +kernel) rfl ?_
    refine zs_iload (pc := 29) (i := 4) C (by decide +kernel) rfl ?_
    refine zs_icmp_ge (pc := 31) (off := 60) (tgt := 91) C (by decide +kernel) (by decide) ?_ ?_
    · refine zs_iinc (pc := 91) (i := 6) (n := 1) (y := w32 (t2.2 + 1)) (ls' := [(6, sI (w32 (t2.2 + 1))), (0, sR 105), (1, sR 19), (2, sI a1), (3, sI a2), (4, sI x1), (5, sI t4.1), (7, sI t4.2)]) C (by decide +kernel) rfl rfl (Nat.le_of_ble_eq_true rfl) rfl ?_
      refine zs_goto (pc := 94) (off := (-77)) (tgt := 17) C (by decide +kernel) (by decide) ?_
      exact zs_goj (hK3 (t4.1, w32 (t2.2 + 1))) ⟨rfl, rfl, rfl, rfl, rfl, rfl, rfl, trivial⟩
    · refine zs_aload_n (pc := 34) (k := 0) (i := 0) C (by decide +kernel) rfl rfl ?_
      refine zs_aload_n (pc := 35) (k := 1) (i := 1) C (by decide +kernel) rfl rfl ?_
      refine zs_getR (o' := 20) (pc := 36) (i := 24) (ci := 10) (k := 0) C (by decide +kernel) fl_RX2_24 rfl rfl rfl ?_
      refine zs_iload_n (pc := 39) (k := 3) (i := 3) C (by decide +kernel) rfl rfl ?_
      refine zs_iload_n (pc := 40) (k := 2) (i := 2) C (by decide +kernel) rfl rfl ?_
      refine zs_iload (pc := 41) (i := 6) C (by decide +kernel) rfl ?_
      refine zs_iload (pc := 43) (i := 7) C (by decide +kernel) rfl ?_
      refine zs_cvRi (pc := 45) (As := [sR 20, sI a2, sI a1, sI t2.2, sI t4.2]) (st := []) C rfl (c_X2_canHave l g a2 a1 t2.2 t4.2) ml_RX2_82 rfl rfl rfl rfl (Nat.le_of_ble_eq_true rfl) ⟨Nat.le_of_ble_eq_true rfl, Nat.le_of_ble_eq_true rfl⟩ ⟨Nat.le_of_ble_eq_true rfl, Nat.le_of_ble_eq_true rfl⟩ (by decide +kernel) (fun x6 => ?_)
      refine zs_jn (pJ := 85) (kJ := 0) (sJ := 0) (fun t7 => [(0, sR 105), (1, sR 19), (2, sI a1), (3, sI a2), (4, sI x1), (5, sI t7), (6, sI t2.2), (7, sI t4.2)]) (fun t7 => []) (fun t7 => ?_) (fun J8 hJ8 => ?_)
      · refine zs_iinc (pc := 85) (i := 7) (n := 1) (y := w32 (t4.2 + 1)) (ls' := [(7, sI (w32 (t4.2 + 1))), (0, sR 105), (1, sR 19), (2, sI a1), (3, sI a2), (4, sI x1), (5, sI t7), (6, sI t2.2)]) C (by decide +kernel) rfl rfl (Nat.le_of_ble_eq_true rfl) rfl ?_
        refine zs_goto (pc := 88) (off := (-61)) (tgt := 27) C (by decide +kernel) (by decide) ?_
        exact zs_goj (hK5 (t7, w32 (t4.2 + 1))) ⟨rfl, rfl, rfl, rfl, rfl, rfl, rfl, rfl, trivial⟩
      · refine zs_if_eq (pc := 48) (off := 37) (tgt := 85) C (by decide +kernel) (by decide) ?_ ?_
        · exact zs_goj (hJ8 t4.1) ⟨rfl, rfl, rfl, rfl, rfl, rfl, rfl, rfl, trivial⟩
        · refine zs_iload (pc := 51) (i := 5) C (by decide +kernel) rfl ?_
          refine zs_aload_n (pc := 53) (k := 0) (i := 0) C (by decide +kernel) rfl rfl ?_
          refine zs_aload_n (pc := 54) (k := 1) (i := 1) C (by decide +kernel) rfl rfl ?_
          refine zs_iload_n (pc := 55) (k := 3) (i := 3) C (by decide +kernel) rfl rfl ?_
          refine zs_iload (pc := 56) (i := 6) C (by decide +kernel) rfl ?_
          refine zs_iload (pc := 58) (i := 7) C (by decide +kernel) rfl ?_
          refine zs_cvRi (pc := 60) (As := [sR 19, sI a2, sI t2.2, sI t4.2]) (st := [sI t4.1]) C rfl (c_X2_cost l g a2 t2.2 t4.2) ml_RX2_99 rfl rfl rfl rfl (Nat.le_of_ble_eq_true rfl) ⟨Nat.le_of_ble_eq_true rfl, Nat.le_of_ble_eq_true rfl⟩ ⟨Nat.le_of_ble_eq_true rfl, Nat.le_of_ble_eq_true rfl⟩ (by decide +kernel) (fun x9 => ?_)
          refine zs_aload_n (pc := 63) (k := 0) (i := 0) C (by decide +kernel) rfl rfl ?_
          refine zs_getR (o' := 107) (pc := 64) (i := 15) (ci := 2) (k := 1) C (by decide +kernel) fl_RX2_15 rfl rfl rfl ?_
          refine zs_iload_n (pc := 67) (k := 2) (i := 2) C (by decide +kernel) rfl rfl ?_
          refine zs_iconst (pc := 68) (n := 1) (x := 1) C (by decide +kernel) (by decide +kernel) ?_
          refine zs_iload (pc := 69) (i := 6) C (by decide +kernel) rfl ?_
          refine zs_ishl (pc := 71) C (by decide +kernel) ?_
          refine zs_ior (pc := 72) C (by decide +kernel) ?_
          refine zs_iconst (pc := 73) (n := 1) (x := 1) C (by decide +kernel) (by decide +kernel) ?_
          refine zs_iload (pc := 74) (i := 7) C (by decide +kernel) rfl ?_
          refine zs_ishl (pc := 76) C (by decide +kernel) ?_
          refine zs_ior (pc := 77) C (by decide +kernel) ?_
          refine zs_iald (pc := 78) (o := 107) (n := 256) C (by decide +kernel) rfl (fun hinx10 x10 => ?_)
          refine zs_iadd (pc := 79) C (by decide +kernel) ?_
          refine zs_mmin (pc := 80) (idx := 103) C wf_1626 wf_717 wf_166 wf_718 ⟨Nat.le_of_ble_eq_true rfl, Nat.le_of_ble_eq_true rfl, Nat.zero_le _, Nat.zero_le _⟩ (by decide +kernel) ?_
          refine zs_let (fun x11 => ?_)
          refine zs_istore (pc := 83) (i := 5) (ls' := [(5, sI x11), (0, sR 105), (1, sR 19), (2, sI a1), (3, sI a2), (4, sI x1), (6, sI t2.2), (7, sI t4.2)]) C (by decide +kernel) (Nat.le_of_ble_eq_true rfl) rfl ?_
          exact zs_goj (hJ8 x11) ⟨rfl, rfl, rfl, rfl, rfl, rfl, rfl, rfl, trivial⟩
set_option maxRecDepth 20000 in
theorem c_X2_takeFirst (l : Launch) (g : GC) (a1 : Int) (a2 : Int) : ConW l g yX2_takeFirst cX2_takeFirst 8 (some .int) (rmd 3 0 0) [sR 105, sR 19, sI a1, sI a2] (fun mm => fX2_takeFirst a1 a2 mm) := by
  refine zs_ofW (by decide +kernel) (Nat.le_of_ble_eq_true rfl) ?_
  intro p e s m args below meth c C hr
  replace C : Bd g RX2 cX2_takeFirst 8 p s m args meth c := C
  unfold fX2_takeFirst
  refine zs_aload_n (pc := 0) (k := 1) (i := 1) C (by decide +kernel) rfl rfl ?_
  refine zs_getR (o' := 20) (pc := 1) (i := 24) (ci := 10) (k := 0) C (by decide +kernel) fl_RX2_24 rfl rfl rfl ?_
  refine zs_getI (pc := 4) (i := 59) (ci := 3) (k := 4) C (by decide +kernel) fl_RX2_59 rfl rfl (fun x1 => ?_)
  refine zs_istore (pc := 7) (i := 4) (ls' := [(4, sI x1), (0, sR 105), (1, sR 19), (2, sI a1), (3, sI a2)]) C (by decide +kernel) (Nat.le_of_ble_eq_true rfl) rfl ?_
  refine zs_iconst (pc := 9) (n := 0) (x := 0) C (by decide +kernel) (by decide +kernel) ?_
  refine zs_istore (pc := 10) (i := 5) (ls' := [(5, sI 0), (4, sI x1), (0, sR 105), (1, sR 19), (2, sI a1), (3, sI a2)]) C (by decide +kernel) (Nat.le_of_ble_eq_true rfl) rfl ?_
  refine zs_sub (ls' := [(0, sR 105), (1, sR 19), (2, sI a1), (3, sI a2), (4, sI x1), (5, sI 0)]) ⟨rfl, rfl, rfl, rfl, rfl, rfl, trivial⟩ ?_
  refine zs_lp (pc := 12) (fun (t2 : Int) => [(0, sR 105), (1, sR 19), (2, sI a1), (3, sI a2), (4, sI x1), (5, sI t2)]) (fun _ => []) (fun K3 hK3 t2 => ?_) BIG 0
  refine zs_iload (pc := 12) (i := 5) C (by decide +kernel) rfl ?_
  refine zs_iload (pc := 14) (i := 4) C (by decide +kernel) rfl ?_
  refine zs_icmp_ge (pc := 16) (off := 107) (tgt := 123) C (by decide +kernel) (by decide) ?_ ?_
  · refine zs_iload_n (pc := 123) (k := 2) (i := 2) C (by decide +kernel) rfl rfl ?_
    exact zs_retWi (pc := 124) C hr ⟨Nat.le_of_ble_eq_true rfl, Nat.le_of_ble_eq_true rfl⟩ (by decide +kernel)
  · refine zs_iconst (pc := 19) (n := 0) (x := 0) C (by decide +kernel) (by decide +kernel) ?_
    refine zs_istore (pc := 20) (i := 6) (ls' := [(6, sI 0), (0, sR 105), (1, sR 19), (2, sI a1), (3, sI a2), (4, sI x1), (5, sI t2)]) C (by decide +kernel) (Nat.le_of_ble_eq_true rfl) rfl ?_
    refine zs_sub (ls' := [(0, sR 105), (1, sR 19), (2, sI a1), (3, sI a2), (4, sI x1), (5, sI t2), (6, sI 0)]) ⟨rfl, rfl, rfl, rfl, rfl, rfl, rfl, trivial⟩ ?_
    refine zs_lp (pc := 22) (fun (t4 : Int) => [(0, sR 105), (1, sR 19), (2, sI a1), (3, sI a2), (4, sI x1), (5, sI t2), (6, sI t4)]) (fun _ => []) (fun K5 hK5 t4 => ?_) BIG 0
    refine zs_iload (pc := 22) (i := 6) C (by decide +kernel) rfl ?_
    refine zs_iload (pc := 24) (i := 4) C (by decide +kernel) rfl ?_
    refine zs_icmp_ge (pc := 26) (off := 91) (tgt := 117) C (by decide +kernel) (by decide) ?_ ?_
    · refine zs_iinc (pc := 117) (i := 5) (n := 1) (y := w32 (t2 + 1)) (ls' := [(5, sI (w32 (t2 + 1))), (0, sR 105), (1, sR 19), (2, sI a1), (3, sI a2), (4, sI x1), (6, sI t4)]) C (by decide +kernel) rfl rfl (Nat.le_of_ble_eq_true rfl) rfl ?_
      refine zs_goto (pc := 120) (off := (-108)) (tgt := 12) C (by decide +kernel) (by decide) ?_
      exact zs_goj (hK3 (w32 (t2 + 1))) ⟨rfl, rfl, rfl, rfl, rfl, rfl, trivial⟩
    · refine zs_iload_n (pc := 29) (k := 2) (i := 2) C (by decide +kernel) rfl rfl ?_
      refine zs_iconst (pc := 30) (n := 1) (x := 1) C (by decide +kernel) (by decide +kernel) ?_
      refine zs_iload (pc := 31) (i := 5) C (by decide +kernel) rfl ?_
      refine zs_ishl (pc := 33) C (by decide +kernel) ?_
      refine zs_ior (pc := 34) C (by decide +kernel) ?_
      refine zs_iconst (pc := 35) (n := 1) (x := 1) C (by decide +kernel) (by decide +kernel) ?_
      refine zs_iload (pc := 36) (i := 6) C (by decide +kernel) rfl ?_
      refine zs_ishl (pc := 38) C (by decide +kernel) ?_
      refine zs_ior (pc := 39) C (by decide +kernel) ?_
      refine zs_let (fun x6 => ?_)
      refine zs_istore (pc := 40) (i := 7) (ls' := [(7, sI x6), (0, sR 105), (1, sR 19), (2, sI a1), (3, sI a2), (4, sI x1), (5, sI t2), (6, sI t4)]) C (by decide +kernel) (Nat.le_of_ble_eq_true rfl) rfl ?_
      refine zs_aload_n (pc := 42) (k := 0) (i := 0) C (by decide +kernel) rfl rfl ?_
      refine zs_aload_n (pc := 43) (k := 1) (i := 1) C (by decide +kernel) rfl rfl ?_
      refine zs_getR (o' := 20) (pc := 44) (i := 24) (ci := 10) (k := 0) C (by decide +kernel) fl_RX2_24 rfl rfl rfl ?_
      refine zs_iload_n (pc := 47) (k := 3) (i := 3) C (by decide +kernel) rfl rfl ?_
      refine zs_iload_n (pc := 48) (k := 2) (i := 2) C (by decide +kernel) rfl rfl ?_
      refine zs_iload (pc := 49) (i := 5) C (by decide +kernel) rfl ?_
      refine zs_iload (pc := 51) (i := 6) C (by decide +kernel) rfl ?_
      refine zs_cvRi (pc := 53) (As := [sR 20, sI a2, sI a1, sI t2, sI t4]) (st := []) C rfl (c_X2_canHave l g a2 a1 t2 t4) ml_RX2_82 rfl rfl rfl rfl (Nat.le_of_ble_eq_true rfl) ⟨Nat.le_of_ble_eq_true rfl, Nat.le_of_ble_eq_true rfl⟩ ⟨Nat.le_of_ble_eq_true rfl, Nat.le_of_ble_eq_true rfl⟩ (by decide +kernel) (fun x7 => ?_)
      refine zs_jn (pJ := 111) (kJ := 0) (sJ := 0) (fun t8 => [(0, sR 105), (1, sR 19), (2, sI a1), (3, sI a2), (4, sI x1), (5, sI t2), (6, sI t4)]) (fun t8 => []) (fun t8 => ?_) (fun J9 hJ9 => ?_)
      · refine zs_iinc (pc := 111) (i := 6) (n := 1) (y := w32 (t4 + 1)) (ls' := [(6, sI (w32 (t4 + 1))), (0, sR 105), (1, sR 19), (2, sI a1), (3, sI a2), (4, sI x1), (5, sI t2)]) C (by decide +kernel) rfl rfl (Nat.le_of_ble_eq_true rfl) rfl ?_
        refine zs_goto (pc := 114) (off := (-92)) (tgt := 22) C (by decide +kernel) (by decide) ?_
        exact zs_goj (hK5 (w32 (t4 + 1))) ⟨rfl, rfl, rfl, rfl, rfl, rfl, rfl, trivial⟩
      · refine zs_if_eq (pc := 56) (off := 55) (tgt := 111) C (by decide +kernel) (by decide) ?_ ?_
        · exact zs_goj (hJ9 ()) ⟨rfl, rfl, rfl, rfl, rfl, rfl, rfl, trivial⟩
        · refine zs_aload_n (pc := 59) (k := 0) (i := 0) C (by decide +kernel) rfl rfl ?_
          refine zs_aload_n (pc := 60) (k := 1) (i := 1) C (by decide +kernel) rfl rfl ?_
          refine zs_iload_n (pc := 61) (k := 3) (i := 3) C (by decide +kernel) rfl rfl ?_
          refine zs_iload (pc := 62) (i := 5) C (by decide +kernel) rfl ?_
          refine zs_iload (pc := 64) (i := 6) C (by decide +kernel) rfl ?_
          refine zs_cvRi (pc := 66) (As := [sR 19, sI a2, sI t2, sI t4]) (st := []) C rfl (c_X2_cost l g a2 t2 t4) ml_RX2_99 rfl rfl rfl rfl (Nat.le_of_ble_eq_true rfl) ⟨Nat.le_of_ble_eq_true rfl, Nat.le_of_ble_eq_true rfl⟩ ⟨Nat.le_of_ble_eq_true rfl, Nat.le_of_ble_eq_true rfl⟩ (by decide +kernel) (fun x10 => ?_)
          refine zs_aload_n (pc := 69) (k := 0) (i := 0) C (by decide +kernel) rfl rfl ?_
          refine zs_getR (o' := 107) (pc := 70) (i := 15) (ci := 2) (k := 1) C (by decide +kernel) fl_RX2_15 rfl rfl rfl ?_
          refine zs_iload (pc := 73) (i := 7) C (by decide +kernel) rfl ?_
          refine zs_iald (pc := 75) (o := 107) (n := 256) C (by decide +kernel) rfl (fun hinx11 x11 => ?_)
          refine zs_iadd (pc := 76) C (by decide +kernel) ?_
          refine zs_aload_n (pc := 77) (k := 0) (i := 0) C (by decide +kernel) rfl rfl ?_
          refine zs_getR (o' := 107) (pc := 78) (i := 15) (ci := 2) (k := 1) C (by decide +kernel) fl_RX2_15 rfl rfl rfl ?_
          refine zs_iload_n (pc := 81) (k := 2) (i := 2) C (by decide +kernel) rfl rfl ?_
          refine zs_iald (pc := 82) (o := 107) (n := 256) C (by decide +kernel) rfl (fun hinx12 x12 => ?_)
          refine zs_icmp_ne (pc := 83) (off := 28) (tgt := 111) C (by decide +kernel) (by decide) ?_ ?_
          · exact zs_goj (hJ9 ()) ⟨rfl, rfl, rfl, rfl, rfl, rfl, rfl, trivial⟩
          · refine zs_aload_n (pc := 86) (k := 0) (i := 0) C (by decide +kernel) rfl rfl ?_
            refine zs_getR (o' := 109) (pc := 87) (i := 21) (ci := 2) (k := 3) C (by decide +kernel) fl_RX2_21 rfl rfl rfl ?_
            refine zs_iconst (pc := 90) (n := 2) (x := 2) C (by decide +kernel) (by decide +kernel) ?_
            refine zs_iload_n (pc := 91) (k := 3) (i := 3) C (by decide +kernel) rfl rfl ?_
            refine zs_imul (pc := 92) C (by decide +kernel) ?_
            refine zs_iload (pc := 93) (i := 5) C (by decide +kernel) rfl ?_
            refine zs_iast (pc := 95) (o := 109) (n := 8) C (fun _ _ _ => rfl) (by decide +kernel) rfl ?_
            refine zs_aload_n (pc := 96) (k := 0) (i := 0) C (by decide +kernel) rfl rfl ?_
            refine zs_getR (o' := 109) (pc := 97) (i := 21) (ci := 2) (k := 3) C (by decide +kernel) fl_RX2_21 rfl rfl rfl ?_
            refine zs_iconst (pc := 100) (n := 2) (x := 2) C (by decide +kernel) (by decide +kernel) ?_
            refine zs_iload_n (pc := 101) (k := 3) (i := 3) C (by decide +kernel) rfl rfl ?_
            refine zs_imul (pc := 102) C (by decide +kernel) ?_
            refine zs_iconst (pc := 103) (n := 1) (x := 1) C (by decide +kernel) (by decide +kernel) ?_
            refine zs_iadd (pc := 104) C (by decide +kernel) ?_
            refine zs_iload (pc := 105) (i := 6) C (by decide +kernel) rfl ?_
            refine zs_iast (pc := 107) (o := 109) (n := 8) C (fun _ _ _ => rfl) (by decide +kernel) rfl ?_
            refine zs_iload (pc := 108) (i := 7) C (by decide +kernel) rfl ?_
            exact zs_retWi (pc := 110) C hr ⟨Nat.le_of_ble_eq_true rfl, Nat.le_of_ble_eq_true rfl⟩ (by decide +kernel)
set_option maxRecDepth 20000 in
theorem c_X2_settle (l : Launch) (g : GC)  : ConW l g yX2_settle cX2_settle 5 (some .int) (rmd 5 0 0) [sR 105, sR 19] (fun mm => fX2_settle  mm) := by
  refine zs_ofW (by decide +kernel) (Nat.le_of_ble_eq_true rfl) ?_
  intro p e s m args below meth c C hr
  replace C : Bd g RX2 cX2_settle 5 p s m args meth c := C
  unfold fX2_settle
  refine zs_iconst (pc := 0) (n := 1) (x := 1) C (by decide +kernel) (by decide +kernel) ?_
  refine zs_aload_n (pc := 1) (k := 1) (i := 1) C (by decide +kernel) rfl rfl ?_
  refine zs_getR (o' := 20) (pc := 2) (i := 24) (ci := 10) (k := 0) C (by decide +kernel) fl_RX2_24 rfl rfl rfl ?_
  refine zs_getI (pc := 5) (i := 59) (ci := 3) (k := 4) C (by decide +kernel) fl_RX2_59 rfl rfl (fun x1 => ?_)
  refine zs_ishl (pc := 8) C (by decide +kernel) ?_
  refine zs_let (fun x2 => ?_)
  refine zs_istore_n (pc := 9) (k := 2) (i := 2) (ls' := [(2, sI x2), (0, sR 105), (1, sR 19)]) C (by decide +kernel) rfl (Nat.le_of_ble_eq_true rfl) rfl ?_
  refine zs_aload_n (pc := 10) (k := 0) (i := 0) C (by decide +kernel) rfl rfl ?_
  refine zs_aload_n (pc := 11) (k := 1) (i := 1) C (by decide +kernel) rfl rfl ?_
  refine zs_cvVv (pc := 12) (As := [sR 19]) (st := []) C (fun _ _ _ => rfl) (c_X2_measure l g ) ml_RX2_62 rfl rfl rfl rfl (Nat.le_of_ble_eq_true rfl) ⟨Nat.le_of_ble_eq_true rfl, Nat.le_of_ble_eq_true rfl⟩ ⟨Nat.le_of_ble_eq_true rfl, Nat.le_of_ble_eq_true rfl⟩ (by decide +kernel) ?_
  refine zs_iload_n (pc := 15) (k := 2) (i := 2) C (by decide +kernel) rfl rfl ?_
  refine zs_iconst (pc := 16) (n := 1) (x := 1) C (by decide +kernel) (by decide +kernel) ?_
  refine zs_isub (pc := 17) C (by decide +kernel) ?_
  refine zs_let (fun x3 => ?_)
  refine zs_istore_n (pc := 18) (k := 3) (i := 3) (ls' := [(3, sI x3), (2, sI x2), (0, sR 105), (1, sR 19)]) C (by decide +kernel) rfl (Nat.le_of_ble_eq_true rfl) rfl ?_
  refine zs_sub (ls' := [(0, sR 105), (1, sR 19), (3, sI x3)]) ⟨rfl, rfl, rfl, trivial⟩ ?_
  refine zs_lp (pc := 19) (fun (t4 : Int) => [(0, sR 105), (1, sR 19), (3, sI t4)]) (fun _ => []) (fun K5 hK5 t4 => ?_) BIG x3
  refine zs_iload_n (pc := 19) (k := 3) (i := 3) C (by decide +kernel) rfl rfl ?_
  refine zs_if_lt (pc := 20) (off := 47) (tgt := 67) C (by decide +kernel) (by decide) ?_ ?_
  · refine zs_aload_n (pc := 67) (k := 0) (i := 0) C (by decide +kernel) rfl rfl ?_
    refine zs_getR (o' := 107) (pc := 68) (i := 15) (ci := 2) (k := 1) C (by decide +kernel) fl_RX2_15 rfl rfl rfl ?_
    refine zs_iconst (pc := 71) (n := 0) (x := 0) C (by decide +kernel) (by decide +kernel) ?_
    refine zs_ialdk (pc := 72) (o := 107) (n := 256) C (by decide) (by decide +kernel) rfl (fun x6 => ?_)
    refine zs_sipush (pc := 73) (n := 1000) (x := 1000) C (by decide +kernel) (by decide +kernel) ?_
    refine zs_icmp_lt (pc := 76) (off := 5) (tgt := 81) C (by decide +kernel) (by decide) ?_ ?_
    · refine zs_iconst (pc := 81) (n := 0) (x := 0) C (by decide +kernel) (by decide +kernel) ?_
      refine zs_istore_n (pc := 82) (k := 3) (i := 3) (ls' := [(3, sI 0), (0, sR 105), (1, sR 19)]) C (by decide +kernel) rfl (Nat.le_of_ble_eq_true rfl) rfl ?_
      refine zs_iconst (pc := 83) (n := 0) (x := 0) C (by decide +kernel) (by decide +kernel) ?_
      refine zs_istore (pc := 84) (i := 4) (ls' := [(4, sI 0), (3, sI 0), (0, sR 105), (1, sR 19)]) C (by decide +kernel) (Nat.le_of_ble_eq_true rfl) rfl ?_
      refine zs_sub (ls' := [(0, sR 105), (1, sR 19), (3, sI 0), (4, sI 0)]) ⟨rfl, rfl, rfl, rfl, trivial⟩ ?_
      refine zs_lp (pc := 86) (fun (t7 : Int × Int) => [(0, sR 105), (1, sR 19), (3, sI t7.1), (4, sI t7.2)]) (fun _ => []) (fun K8 hK8 t7 => ?_) BIG (0, 0)
      refine zs_iload (pc := 86) (i := 4) C (by decide +kernel) rfl ?_
      refine zs_aload_n (pc := 88) (k := 1) (i := 1) C (by decide +kernel) rfl rfl ?_
      refine zs_getR (o' := 20) (pc := 89) (i := 24) (ci := 10) (k := 0) C (by decide +kernel) fl_RX2_24 rfl rfl rfl ?_
      refine zs_getI (pc := 92) (i := 30) (ci := 3) (k := 5) C (by decide +kernel) fl_RX2_30 rfl rfl (fun x9 => ?_)
      refine zs_icmp_ge (pc := 95) (off := 18) (tgt := 113) C (by decide +kernel) (by decide) ?_ ?_
      · refine zs_aload_n (pc := 113) (k := 0) (i := 0) C (by decide +kernel) rfl rfl ?_
        refine zs_getR (o' := 107) (pc := 114) (i := 15) (ci := 2) (k := 1) C (by decide +kernel) fl_RX2_15 rfl rfl rfl ?_
        refine zs_iconst (pc := 117) (n := 0) (x := 0) C (by decide +kernel) (by decide +kernel) ?_
        refine zs_ialdk (pc := 118) (o := 107) (n := 256) C (by decide) (by decide +kernel) rfl (fun x10 => ?_)
        exact zs_retWi (pc := 119) C hr ⟨Nat.le_of_ble_eq_true rfl, Nat.le_of_ble_eq_true rfl⟩ (by decide +kernel)
      · refine zs_aload_n (pc := 98) (k := 0) (i := 0) C (by decide +kernel) rfl rfl ?_
        refine zs_aload_n (pc := 99) (k := 1) (i := 1) C (by decide +kernel) rfl rfl ?_
        refine zs_iload_n (pc := 100) (k := 3) (i := 3) C (by decide +kernel) rfl rfl ?_
        refine zs_iload (pc := 101) (i := 4) C (by decide +kernel) rfl ?_
        refine zs_cvWi (pc := 103) (As := [sR 19, sI t7.1, sI t7.2]) (st := []) C (fun _ _ _ => rfl) rfl (c_X2_takeFirst l g t7.1 t7.2) ml_RX2_90 rfl rfl rfl rfl (Nat.le_of_ble_eq_true rfl) ⟨Nat.le_of_ble_eq_true rfl, Nat.le_of_ble_eq_true rfl⟩ ⟨Nat.le_of_ble_eq_true rfl, Nat.le_of_ble_eq_true rfl⟩ (by decide +kernel) (fun x11 => ?_)
        refine zs_istore_n (pc := 106) (k := 3) (i := 3) (ls' := [(3, sI x11), (0, sR 105), (1, sR 19), (4, sI t7.2)]) C (by decide +kernel) rfl (Nat.le_of_ble_eq_true rfl) rfl ?_
        refine zs_iinc (pc := 107) (i := 4) (n := 1) (y := w32 (t7.2 + 1)) (ls' := [(4, sI (w32 (t7.2 + 1))), (3, sI x11), (0, sR 105), (1, sR 19)]) C (by decide +kernel) rfl rfl (Nat.le_of_ble_eq_true rfl) rfl ?_
        refine zs_goto (pc := 110) (off := (-24)) (tgt := 86) C (by decide +kernel) (by decide) ?_
        exact zs_goj (hK8 (x11, w32 (t7.2 + 1))) ⟨rfl, rfl, rfl, rfl, trivial⟩
    · refine zs_iconst (pc := 79) (n := (-1)) (x := (-1)) C (by decide +kernel) (by decide +kernel) ?_
      exact zs_retWi (pc := 80) C hr ⟨Nat.le_of_ble_eq_true rfl, Nat.le_of_ble_eq_true rfl⟩ (by decide +kernel)
  · refine zs_iload_n (pc := 23) (k := 3) (i := 3) C (by decide +kernel) rfl rfl ?_
    refine zs_csRi (pc := 24) (As := [sI t4]) (st := []) C rfl (c_J6_bitCount_0f7a4 l g t4) ml_RX2_72 rfl rfl (Nat.le_of_ble_eq_true rfl) ⟨Nat.le_of_ble_eq_true rfl, Nat.le_of_ble_eq_true rfl⟩ ⟨Nat.le_of_ble_eq_true rfl, Nat.le_of_ble_eq_true rfl⟩ (by decide +kernel) (fun x12 => ?_)
    refine zs_iconst (pc := 27) (n := 2) (x := 2) C (by decide +kernel) (by decide +kernel) ?_
    refine zs_idiv (pc := 28) C (by decide +kernel) (by decide +kernel) ?_
    refine zs_let (fun x13 => ?_)
    refine zs_istore (pc := 29) (i := 4) (ls' := [(4, sI x13), (0, sR 105), (1, sR 19), (3, sI t4)]) C (by decide +kernel) (Nat.le_of_ble_eq_true rfl) rfl ?_
    refine zs_aload_n (pc := 31) (k := 0) (i := 0) C (by decide +kernel) rfl rfl ?_
    refine zs_getR (o' := 107) (pc := 32) (i := 15) (ci := 2) (k := 1) C (by decide +kernel) fl_RX2_15 rfl rfl rfl ?_
    refine zs_iload_n (pc := 35) (k := 3) (i := 3) C (by decide +kernel) rfl rfl ?_
    refine zs_iload (pc := 36) (i := 4) C (by decide +kernel) rfl ?_
    refine zs_aload_n (pc := 38) (k := 1) (i := 1) C (by decide +kernel) rfl rfl ?_
    refine zs_getR (o' := 20) (pc := 39) (i := 24) (ci := 10) (k := 0) C (by decide +kernel) fl_RX2_24 rfl rfl rfl ?_
    refine zs_getI (pc := 42) (i := 30) (ci := 3) (k := 5) C (by decide +kernel) fl_RX2_30 rfl rfl (fun x14 => ?_)
    refine zs_jn (pJ := 60) (kJ := 0) (sJ := 0) (fun t15 => [(0, sR 105), (1, sR 19), (3, sI t4)]) (fun t15 => [sI t15, sI t4, sR 107]) (fun t15 => ?_) (fun J16 hJ16 => ?_)
    · refine zs_iast (pc := 60) (o := 107) (n := 256) C (fun _ _ _ => rfl) (by decide +kernel) rfl ?_
      refine zs_iinc (pc := 61) (i := 3) (n := (-1)) (y := w32 (t4 + (-1))) (ls' := [(3, sI (w32 (t4 + (-1)))), (0, sR 105), (1, sR 19)]) C (by decide +kernel) rfl rfl (Nat.le_of_ble_eq_true rfl) rfl ?_
      refine zs_goto (pc := 64) (off := (-45)) (tgt := 19) C (by decide +kernel) (by decide) ?_
      exact zs_goj (hK5 (w32 (t4 + (-1)))) ⟨rfl, rfl, rfl, trivial⟩
    · refine zs_icmp_lt (pc := 45) (off := 7) (tgt := 52) C (by decide +kernel) (by decide) ?_ ?_
      · refine zs_aload_n (pc := 52) (k := 0) (i := 0) C (by decide +kernel) rfl rfl ?_
        refine zs_aload_n (pc := 53) (k := 1) (i := 1) C (by decide +kernel) rfl rfl ?_
        refine zs_iload_n (pc := 54) (k := 3) (i := 3) C (by decide +kernel) rfl rfl ?_
        refine zs_iload (pc := 55) (i := 4) C (by decide +kernel) rfl ?_
        refine zs_cvRi (pc := 57) (As := [sR 19, sI t4, sI x13]) (st := [sI t4, sR 107]) C rfl (c_X2_leastFrom l g t4 x13) ml_RX2_86 rfl rfl rfl rfl (Nat.le_of_ble_eq_true rfl) ⟨Nat.le_of_ble_eq_true rfl, Nat.le_of_ble_eq_true rfl⟩ ⟨Nat.le_of_ble_eq_true rfl, Nat.le_of_ble_eq_true rfl⟩ (by decide +kernel) (fun x17 => ?_)
        exact zs_goj (hJ16 x17) ⟨rfl, rfl, rfl, trivial⟩
      · refine zs_iconst (pc := 48) (n := 0) (x := 0) C (by decide +kernel) (by decide +kernel) ?_
        refine zs_goto (pc := 49) (off := 11) (tgt := 60) C (by decide +kernel) (by decide) ?_
        exact zs_goj (hJ16 0) ⟨rfl, rfl, rfl, trivial⟩
set_option maxRecDepth 20000 in
theorem c_X11_shortest (l : Launch) (g : GC) (hl : l.stackTraces = false) (a0 : Int) : ConT l g yX11_shortest cX11_shortest 4 (some .int) (rmd 7 1 6) [sR 0, sI a0] (fun mm => fX11_shortest a0 mm) := by
  refine zs_ofT (by decide +kernel) (Nat.le_of_ble_eq_true rfl) ?_
  intro p e s m args below meth c C hr hE
  replace C : Bd g RX11 cX11_shortest 4 p s m args meth c := C
  unfold fX11_shortest
  refine zs_iload_n (pc := 0) (k := 1) (i := 1) C (by decide +kernel) rfl rfl ?_
  refine zs_jn (pJ := 27) (kJ := 0) (sJ := 0) (fun t1 => [(0, sR 0), (1, sI a0)]) (fun t1 => []) (fun t1 => ?_) (fun J2 hJ2 => ?_)
  · refine zs_aload_n (pc := 27) (k := 0) (i := 0) C (by decide +kernel) rfl rfl ?_
    refine zs_getR (o' := 105) (pc := 28) (i := 76) (ci := 11) (k := 12) C (by decide +kernel) fl_RX11_76 rfl rfl rfl ?_
    refine zs_aload_n (pc := 31) (k := 0) (i := 0) C (by decide +kernel) rfl rfl ?_
    refine zs_getR (o' := 19) (pc := 32) (i := 41) (ci := 11) (k := 6) C (by decide +kernel) fl_RX11_41 rfl rfl rfl ?_
    refine zs_cvWi (pc := 35) (As := [sR 19]) (st := []) C (fun _ _ _ => rfl) rfl (c_X2_settle l g ) ml_RX11_329 rfl rfl rfl rfl (Nat.le_of_ble_eq_true rfl) ⟨Nat.le_of_ble_eq_true rfl, Nat.le_of_ble_eq_true rfl⟩ ⟨Nat.le_of_ble_eq_true rfl, Nat.le_of_ble_eq_true rfl⟩ (by decide +kernel) (fun x3 => ?_)
    refine zs_istore_n (pc := 38) (k := 2) (i := 2) (ls' := [(2, sI x3), (0, sR 0), (1, sI a0)]) C (by decide +kernel) rfl (Nat.le_of_ble_eq_true rfl) rfl ?_
    refine zs_iload_n (pc := 39) (k := 1) (i := 1) C (by decide +kernel) rfl rfl ?_
    refine zs_bipush (pc := 40) (n := 10) (x := 10) C (by decide +kernel) (by decide +kernel) ?_
    refine zs_isub (pc := 42) C (by decide +kernel) ?_
    refine zs_let (fun x4 => ?_)
    refine zs_istore_n (pc := 43) (k := 3) (i := 3) (ls' := [(3, sI x4), (2, sI x3), (0, sR 0), (1, sI a0)]) C (by decide +kernel) rfl (Nat.le_of_ble_eq_true rfl) rfl ?_
    refine zs_iload_n (pc := 44) (k := 1) (i := 1) C (by decide +kernel) rfl rfl ?_
    refine zs_jn (pJ := 53) (kJ := 0) (sJ := 0) (fun t5 => [(2, sI x3)]) (fun t5 => []) (fun t5 => ?_) (fun J6 hJ6 => ?_)
    · refine zs_iload_n (pc := 53) (k := 2) (i := 2) C (by decide +kernel) rfl rfl ?_
      exact zs_retTi (pc := 54) C hr ⟨Nat.le_of_ble_eq_true rfl, Nat.le_of_ble_eq_true rfl⟩ (by decide +kernel)
    · refine zs_if_eq (pc := 45) (off := 8) (tgt := 53) C (by decide +kernel) (by decide) ?_ ?_
      · exact zs_goj (hJ6 ()) ⟨rfl, trivial⟩
      · refine zs_iload_n (pc := 48) (k := 2) (i := 2) C (by decide +kernel) rfl rfl ?_
        refine zs_iconst (pc := 49) (n := (-1)) (x := (-1)) C (by decide +kernel) (by decide +kernel) ?_
        refine zs_icmp_ne (pc := 50) (off := 5) (tgt := 55) C (by decide +kernel) (by decide) ?_ ?_
        · refine zs_iload_n (pc := 55) (k := 3) (i := 3) C (by decide +kernel) rfl rfl ?_
          refine zs_iconst (pc := 56) (n := 2) (x := 2) C (by decide +kernel) (by decide +kernel) ?_
          refine zs_aload_n (pc := 57) (k := 0) (i := 0) C (by decide +kernel) rfl rfl ?_
          refine zs_getR (o' := 19) (pc := 58) (i := 41) (ci := 11) (k := 6) C (by decide +kernel) fl_RX11_41 rfl rfl rfl ?_
          refine zs_getR (o' := 20) (pc := 61) (i := 114) (ci := 10) (k := 0) C (by decide +kernel) fl_RX11_114 rfl rfl rfl ?_
          refine zs_getI (pc := 64) (i := 333) (ci := 3) (k := 5) C (by decide +kernel) fl_RX11_333 rfl rfl (fun x7 => ?_)
          refine zs_imul (pc := 67) C (by decide +kernel) ?_
          refine zs_jn (pJ := 84) (kJ := 0) (sJ := 0) (fun t8 => []) (fun t8 => [sI t8]) (fun t8 => ?_) (fun J9 hJ9 => ?_)
          · exact zs_retTi (pc := 84) C hr ⟨Nat.le_of_ble_eq_true rfl, Nat.le_of_ble_eq_true rfl⟩ (by decide +kernel)
          · refine zs_icmp_ge (pc := 68) (off := 15) (tgt := 83) C (by decide +kernel) (by decide) ?_ ?_
            · refine zs_iconst (pc := 83) (n := (-1)) (x := (-1)) C (by decide +kernel) (by decide +kernel) ?_
              exact zs_goj (hJ9 (-1)) trivial
            · refine zs_aload_n (pc := 71) (k := 0) (i := 0) C (by decide +kernel) rfl rfl ?_
              refine zs_getR (o' := 105) (pc := 72) (i := 76) (ci := 11) (k := 12) C (by decide +kernel) fl_RX11_76 rfl rfl rfl ?_
              refine zs_getR (o' := 109) (pc := 75) (i := 336) (ci := 2) (k := 3) C (by decide +kernel) fl_RX11_336 rfl rfl rfl ?_
              refine zs_iload_n (pc := 78) (k := 3) (i := 3) C (by decide +kernel) rfl rfl ?_
              refine zs_iald (pc := 79) (o := 109) (n := 8) C (by decide +kernel) rfl (fun hinx10 x10 => ?_)
              refine zs_goto (pc := 80) (off := 4) (tgt := 84) C (by decide +kernel) (by decide) ?_
              exact zs_goj (hJ9 x10) trivial
        · exact zs_goj (hJ6 ()) ⟨rfl, trivial⟩
  · refine zs_if_eq (pc := 1) (off := 26) (tgt := 27) C (by decide +kernel) (by decide) ?_ ?_
    · exact zs_goj (hJ2 ()) ⟨rfl, rfl, trivial⟩
    · refine zs_iload_n (pc := 4) (k := 1) (i := 1) C (by decide +kernel) rfl rfl ?_
      refine zs_bipush (pc := 5) (n := 10) (x := 10) C (by decide +kernel) (by decide +kernel) ?_
      refine zs_jn (pJ := 16) (kJ := 0) (sJ := 0) (fun t11 => []) (fun t11 => []) (fun t11 => ?_) (fun J12 hJ12 => ?_)
      · exact zs_throwW (pc := 16) (ik := 85) (is_ := 327) (ic := 89) (k := 1) C hE hl ⟨by decide, rfl⟩ ⟨by decide +kernel, by decide +kernel⟩ wf_784 wf_161 (by decide +kernel) ex_RX11_89.1 ex_RX11_89.2 ⟨Nat.le_of_ble_eq_true rfl, Nat.le_of_ble_eq_true rfl, Nat.le_of_ble_eq_true rfl, Nat.le_of_ble_eq_true rfl⟩ ⟨Nat.le_of_ble_eq_true rfl, Nat.le_of_ble_eq_true rfl⟩ (by decide +kernel) (by decide +kernel) (by decide +kernel) (by decide +kernel) (by decide +kernel)
      · refine zs_icmp_lt (pc := 7) (off := 9) (tgt := 16) C (by decide +kernel) (by decide) ?_ ?_
        · exact zs_goj (hJ12 ()) trivial
        · refine zs_iload_n (pc := 10) (k := 1) (i := 1) C (by decide +kernel) rfl rfl ?_
          refine zs_bipush (pc := 11) (n := 17) (x := 17) C (by decide +kernel) (by decide +kernel) ?_
          refine zs_icmp_le (pc := 13) (off := 14) (tgt := 27) C (by decide +kernel) (by decide) ?_ ?_
          · exact zs_goj (hJ2 ()) ⟨rfl, rfl, trivial⟩
          · exact zs_goj (hJ12 ()) trivial
set_option maxRecDepth 20000 in
theorem c_X11_dear (l : Launch) (g : GC)  : ConW l g yX11_dear cX11_dear 3 (some .int) (rmd 6 0 0) [sR 0] (fun mm => fX11_dear  mm) := by
  refine zs_ofW (by decide +kernel) (Nat.le_of_ble_eq_true rfl) ?_
  intro p e s m args below meth c C hr
  replace C : Bd g RX11 cX11_dear 3 p s m args meth c := C
  unfold fX11_dear
  refine zs_aload_n (pc := 0) (k := 0) (i := 0) C (by decide +kernel) rfl rfl ?_
  refine zs_getR (o' := 105) (pc := 1) (i := 76) (ci := 11) (k := 12) C (by decide +kernel) fl_RX11_76 rfl rfl rfl ?_
  refine zs_aload_n (pc := 4) (k := 0) (i := 0) C (by decide +kernel) rfl rfl ?_
  refine zs_getR (o' := 19) (pc := 5) (i := 41) (ci := 11) (k := 6) C (by decide +kernel) fl_RX11_41 rfl rfl rfl ?_
  refine zs_iconst (pc := 8) (n := 0) (x := 0) C (by decide +kernel) (by decide +kernel) ?_
  refine zs_cvWi (pc := 9) (As := [sR 19, sI 0]) (st := []) C (fun _ _ _ => rfl) rfl (c_X2_waysWithout l g 0) ml_RX11_323 rfl rfl rfl rfl (Nat.le_of_ble_eq_true rfl) ⟨Nat.le_of_ble_eq_true rfl, Nat.le_of_ble_eq_true rfl⟩ ⟨Nat.le_of_ble_eq_true rfl, Nat.le_of_ble_eq_true rfl⟩ (by decide +kernel) (fun x1 => ?_)
  refine zs_if_ne (pc := 12) (off := 5) (tgt := 17) C (by decide +kernel) (by decide) ?_ ?_
  · refine zs_iconst (pc := 17) (n := 0) (x := 0) C (by decide +kernel) (by decide +kernel) ?_
    refine zs_istore_n (pc := 18) (k := 1) (i := 1) (ls' := [(1, sI 0), (0, sR 0)]) C (by decide +kernel) rfl (Nat.le_of_ble_eq_true rfl) rfl ?_
    refine zs_iconst (pc := 19) (n := 0) (x := 0) C (by decide +kernel) (by decide +kernel) ?_
    refine zs_istore_n (pc := 20) (k := 2) (i := 2) (ls' := [(2, sI 0), (1, sI 0), (0, sR 0)]) C (by decide +kernel) rfl (Nat.le_of_ble_eq_true rfl) rfl ?_
    refine zs_sub (ls' := [(0, sR 0), (1, sI 0), (2, sI 0)]) ⟨rfl, rfl, rfl, trivial⟩ ?_
    refine zs_lp (pc := 21) (fun (t2 : Int × Int) => [(0, sR 0), (1, sI t2.1), (2, sI t2.2)]) (fun _ => []) (fun K3 hK3 t2 => ?_) BIG (0, 0)
    refine zs_iload_n (pc := 21) (k := 2) (i := 2) C (by decide +kernel) rfl rfl ?_
    refine zs_aload_n (pc := 22) (k := 0) (i := 0) C (by decide +kernel) rfl rfl ?_
    refine zs_getR (o' := 19) (pc := 23) (i := 41) (ci := 11) (k := 6) C (by decide +kernel) fl_RX11_41 rfl rfl rfl ?_
    refine zs_getR (o' := 20) (pc := 26) (i := 114) (ci := 10) (k := 0) C (by decide +kernel) fl_RX11_114 rfl rfl rfl ?_
    refine zs_getI (pc := 29) (i := 168) (ci := 3) (k := 4) C (by decide +kernel) fl_RX11_168 rfl rfl (fun x4 => ?_)
    refine zs_icmp_ge (pc := 32) (off := 32) (tgt := 64) C (by decide +kernel) (by decide) ?_ ?_
    · refine zs_iload_n (pc := 64) (k := 1) (i := 1) C (by decide +kernel) rfl rfl ?_
      exact zs_retWi (pc := 65) C hr ⟨Nat.le_of_ble_eq_true rfl, Nat.le_of_ble_eq_true rfl⟩ (by decide +kernel)
    · refine zs_aload_n (pc := 35) (k := 0) (i := 0) C (by decide +kernel) rfl rfl ?_
      refine zs_getR (o' := 105) (pc := 36) (i := 76) (ci := 11) (k := 12) C (by decide +kernel) fl_RX11_76 rfl rfl rfl ?_
      refine zs_aload_n (pc := 39) (k := 0) (i := 0) C (by decide +kernel) rfl rfl ?_
      refine zs_getR (o' := 19) (pc := 40) (i := 41) (ci := 11) (k := 6) C (by decide +kernel) fl_RX11_41 rfl rfl rfl ?_
      refine zs_iconst (pc := 43) (n := 1) (x := 1) C (by decide +kernel) (by decide +kernel) ?_
      refine zs_iload_n (pc := 44) (k := 2) (i := 2) C (by decide +kernel) rfl rfl ?_
      refine zs_ishl (pc := 45) C (by decide +kernel) ?_
      refine zs_cvWi (pc := 46) (As := [sR 19, sI (ishl 1 t2.2)]) (st := []) C (fun _ _ _ => rfl) rfl (c_X2_waysWithout l g (ishl 1 t2.2)) ml_RX11_323 rfl rfl rfl rfl (Nat.le_of_ble_eq_true rfl) ⟨Nat.le_of_ble_eq_true rfl, Nat.le_of_ble_eq_true rfl⟩ ⟨Nat.le_of_ble_eq_true rfl, Nat.le_of_ble_eq_true rfl⟩ (by decide +kernel) (fun x5 => ?_)
      refine zs_jn (pJ := 58) (kJ := 0) (sJ := 0) (fun t6 => [(0, sR 0), (1, sI t6), (2, sI t2.2)]) (fun t6 => []) (fun t6 => ?_) (fun J7 hJ7 => ?_)
      · refine zs_iinc (pc := 58) (i := 2) (n := 1) (y := w32 (t2.2 + 1)) (ls' := [(2, sI (w32 (t2.2 + 1))), (0, sR 0), (1, sI t6)]) C (by decide +kernel) rfl rfl (Nat.le_of_ble_eq_true rfl) rfl ?_
        refine zs_goto (pc := 61) (off := (-40)) (tgt := 21) C (by decide +kernel) (by decide) ?_
        exact zs_goj (hK3 (t6, w32 (t2.2 + 1))) ⟨rfl, rfl, rfl, trivial⟩
      · refine zs_if_ne (pc := 49) (off := 9) (tgt := 58) C (by decide +kernel) (by decide) ?_ ?_
        · exact zs_goj (hJ7 t2.1) ⟨rfl, rfl, rfl, trivial⟩
        · refine zs_iload_n (pc := 52) (k := 1) (i := 1) C (by decide +kernel) rfl rfl ?_
          refine zs_iconst (pc := 53) (n := 1) (x := 1) C (by decide +kernel) (by decide +kernel) ?_
          refine zs_iload_n (pc := 54) (k := 2) (i := 2) C (by decide +kernel) rfl rfl ?_
          refine zs_ishl (pc := 55) C (by decide +kernel) ?_
          refine zs_ior (pc := 56) C (by decide +kernel) ?_
          refine zs_let (fun x8 => ?_)
          refine zs_istore_n (pc := 57) (k := 1) (i := 1) (ls' := [(1, sI x8), (0, sR 0), (2, sI t2.2)]) C (by decide +kernel) rfl (Nat.le_of_ble_eq_true rfl) rfl ?_
          exact zs_goj (hJ7 x8) ⟨rfl, rfl, rfl, trivial⟩
  · refine zs_iconst (pc := 15) (n := 0) (x := 0) C (by decide +kernel) (by decide +kernel) ?_
    exact zs_retWi (pc := 16) C hr ⟨Nat.le_of_ble_eq_true rfl, Nat.le_of_ble_eq_true rfl⟩ (by decide +kernel)
set_option maxRecDepth 20000 in
theorem c_X11_needSeen (l : Launch) (g : GC) (hl : l.stackTraces = false) (a0 : Int) (a1 : Int) (a2 : Int) : ConT l g yX11_needSeen cX11_needSeen 8 none (rmd 9 5 30) [sR 0, sI a0, sI a1, sI a2] (fun mm => fX11_needSeen a0 a1 a2 mm) := by
  refine zs_ofT (by decide +kernel) (Nat.le_of_ble_eq_true rfl) ?_
  intro p e s m args below meth c C hr hE
  replace C : Bd g RX11 cX11_needSeen 8 p s m args meth c := C
  unfold fX11_needSeen
  refine zs_aload_n (pc := 0) (k := 0) (i := 0) C (by decide +kernel) rfl rfl ?_
  refine zs_iload_n (pc := 1) (k := 1) (i := 1) C (by decide +kernel) rfl rfl ?_
  refine zs_cvTv (pc := 2) (As := [sI a0]) (st := []) C hE (c_X11_needPair l g hl a0) ml_RX11_134 rfl rfl rfl rfl (Nat.le_of_ble_eq_true rfl) ⟨Nat.le_of_ble_eq_true rfl, Nat.le_of_ble_eq_true rfl⟩ ⟨Nat.le_of_ble_eq_true rfl, Nat.le_of_ble_eq_true rfl⟩ ⟨Nat.le_of_ble_eq_true rfl, Nat.le_of_ble_eq_true rfl⟩ (by decide +kernel) ?_
  refine zs_aload_n (pc := 5) (k := 0) (i := 0) C (by decide +kernel) rfl rfl ?_
  refine zs_iload_n (pc := 6) (k := 2) (i := 2) C (by decide +kernel) rfl rfl ?_
  refine zs_cvTv (pc := 7) (As := [sI a1]) (st := []) C hE (c_X11_needRow l g hl a1) ml_RX11_224 rfl rfl rfl rfl (Nat.le_of_ble_eq_true rfl) ⟨Nat.le_of_ble_eq_true rfl, Nat.le_of_ble_eq_true rfl⟩ ⟨Nat.le_of_ble_eq_true rfl, Nat.le_of_ble_eq_true rfl⟩ ⟨Nat.le_of_ble_eq_true rfl, Nat.le_of_ble_eq_true rfl⟩ (by decide +kernel) ?_
  refine zs_aload_n (pc := 10) (k := 0) (i := 0) C (by decide +kernel) rfl rfl ?_
  refine zs_getR (o' := 88) (pc := 11) (i := 55) (ci := 11) (k := 9) C (by decide +kernel) fl_RX11_55 rfl rfl rfl ?_
  refine zs_getR (o' := 95) (pc := 14) (i := 227) (ci := 9) (k := 2) C (by decide +kernel) fl_RX11_227 rfl rfl rfl ?_
  refine zs_iload_n (pc := 17) (k := 2) (i := 2) C (by decide +kernel) rfl rfl ?_
  refine zs_iald (pc := 18) (o := 95) (n := 4) C (by decide +kernel) rfl (fun hinx1 x1 => ?_)
  refine zs_istore (pc := 19) (i := 4) (ls' := [(4, sI x1), (0, sR 0), (1, sI a0), (2, sI a1), (3, sI a2)]) C (by decide +kernel) (Nat.le_of_ble_eq_true rfl) rfl ?_
  refine zs_aload_n (pc := 21) (k := 0) (i := 0) C (by decide +kernel) rfl rfl ?_
  refine zs_iload (pc := 22) (i := 4) C (by decide +kernel) rfl ?_
  refine zs_iconst (pc := 24) (n := 1) (x := 1) C (by decide +kernel) (by decide +kernel) ?_
  refine zs_iload_n (pc := 25) (k := 3) (i := 3) C (by decide +kernel) rfl rfl ?_
  refine zs_cvTv (pc := 26) (As := [sI x1, sI 1, sI a2]) (st := []) C hE (c_X11_needWithin l g hl x1 1 a2) ml_RX11_179 rfl rfl rfl rfl (Nat.le_of_ble_eq_true rfl) ⟨Nat.le_of_ble_eq_true rfl, Nat.le_of_ble_eq_true rfl⟩ ⟨Nat.le_of_ble_eq_true rfl, Nat.le_of_ble_eq_true rfl⟩ ⟨Nat.le_of_ble_eq_true rfl, Nat.le_of_ble_eq_true rfl⟩ (by decide +kernel) ?_
  refine zs_iconst (pc := 29) (n := 0) (x := 0) C (by decide +kernel) (by decide +kernel) ?_
  refine zs_istore (pc := 30) (i := 5) (ls' := [(5, sI 0), (4, sI x1), (0, sR 0), (1, sI a0), (2, sI a1), (3, sI a2)]) C (by decide +kernel) (Nat.le_of_ble_eq_true rfl) rfl ?_
  refine zs_sub (ls' := [(0, sR 0), (2, sI a1), (4, sI x1), (5, sI 0)]) ⟨rfl, rfl, rfl, rfl, trivial⟩ ?_
  refine zs_lp (pc := 32) (fun (t2 : Int) => [(0, sR 0), (2, sI a1), (4, sI x1), (5, sI t2)]) (fun _ => []) (fun K3 hK3 t2 => ?_) BIG 0
  refine zs_iload (pc := 32) (i := 5) C (by decide +kernel) rfl ?_
  refine zs_iload (pc := 34) (i := 4) C (by decide +kernel) rfl ?_
  refine zs_icmp_ge (pc := 36) (off := 58) (tgt := 94) C (by decide +kernel) (by decide) ?_ ?_
  · exact zs_retTv (pc := 94) C hr ⟨Nat.le_of_ble_eq_true rfl, Nat.le_of_ble_eq_true rfl⟩ (by decide +kernel)
  · refine zs_aload_n (pc := 39) (k := 0) (i := 0) C (by decide +kernel) rfl rfl ?_
    refine zs_getR (o' := 88) (pc := 40) (i := 55) (ci := 11) (k := 9) C (by decide +kernel) fl_RX11_55 rfl rfl rfl ?_
    refine zs_iload_n (pc := 43) (k := 2) (i := 2) C (by decide +kernel) rfl rfl ?_
    refine zs_iload (pc := 44) (i := 5) C (by decide +kernel) rfl ?_
    refine zs_cvRl (pc := 46) (As := [sI a1, sI t2]) (st := []) C (c_X9_at l g a1 t2) ml_RX11_233 rfl rfl rfl rfl (Nat.le_of_ble_eq_true rfl) ⟨Nat.le_of_ble_eq_true rfl, Nat.le_of_ble_eq_true rfl⟩ ⟨Nat.le_of_ble_eq_true rfl, Nat.le_of_ble_eq_true rfl⟩ (by decide +kernel) (fun x4 => ?_)
    refine zs_lstore (pc := 49) (i := 6) (ls' := [(6, sL x4), (0, sR 0), (2, sI a1), (4, sI x1), (5, sI t2)]) C (by decide +kernel) (Nat.le_of_ble_eq_true rfl) rfl ?_
    refine zs_lload (pc := 51) (i := 6) C (by decide +kernel) rfl ?_
    refine zs_ldc2 (pc := 53) (i := 425) (v := (-1)) (x := (-1)) C (by decide +kernel) wf_1642 (by decide +kernel) ?_
    refine zs_jn (pJ := 77) (kJ := 4) (sJ := 24) (fun t5 => []) (fun t5 => []) (fun t5 => ?_) (fun J6 hJ6 => ?_)
    · exact zs_throwW (pc := 77) (ik := 85) (is_ := 427) (ic := 89) (k := 1) C hE hl ⟨by decide, rfl⟩ ⟨by decide +kernel, by decide +kernel⟩ wf_784 wf_161 (by decide +kernel) ex_RX11_89.1 ex_RX11_89.2 ⟨Nat.le_of_ble_eq_true rfl, Nat.le_of_ble_eq_true rfl, Nat.le_of_ble_eq_true rfl, Nat.le_of_ble_eq_true rfl⟩ ⟨Nat.le_of_ble_eq_true rfl, Nat.le_of_ble_eq_true rfl⟩ (by decide +kernel) (by decide +kernel) (by decide +kernel) (by decide +kernel) (by decide +kernel)
    · refine zs_lcmp_lt (pc := 56) (off := 20) (tgt := 77) C (by decide +kernel) (by decide +kernel) (by decide) ?_ ?_
      · exact zs_goj (hJ6 ()) trivial
      · refine zs_lload (pc := 60) (i := 6) C (by decide +kernel) rfl ?_
        refine zs_aload_n (pc := 62) (k := 0) (i := 0) C (by decide +kernel) rfl rfl ?_
        refine zs_getR (o' := 19) (pc := 63) (i := 41) (ci := 11) (k := 6) C (by decide +kernel) fl_RX11_41 rfl rfl rfl ?_
        refine zs_getR (o' := 20) (pc := 66) (i := 114) (ci := 10) (k := 0) C (by decide +kernel) fl_RX11_114 rfl rfl rfl ?_
        refine zs_cvRi (pc := 69) (As := []) (st := [sL x4]) C rfl (c_X3_places l g ) ml_RX11_403 rfl rfl rfl rfl (Nat.le_of_ble_eq_true rfl) ⟨Nat.le_of_ble_eq_true rfl, Nat.le_of_ble_eq_true rfl⟩ ⟨Nat.le_of_ble_eq_true rfl, Nat.le_of_ble_eq_true rfl⟩ (by decide +kernel) (fun x7 => ?_)
        refine zs_i2l (pc := 72) C (by decide +kernel) ?_
        refine zs_lcmp_lt (pc := 73) (off := 14) (tgt := 88) C (by decide +kernel) (by decide +kernel) (by decide) ?_ ?_
        · refine zs_iinc (pc := 88) (i := 5) (n := 1) (y := w32 (t2 + 1)) (ls' := [(5, sI (w32 (t2 + 1))), (6, sL x4), (0, sR 0), (2, sI a1), (4, sI x1)]) C (by decide +kernel) rfl rfl (Nat.le_of_ble_eq_true rfl) rfl ?_
          refine zs_goto (pc := 91) (off := (-59)) (tgt := 32) C (by decide +kernel) (by decide) ?_
          exact zs_goj (hK3 (w32 (t2 + 1))) ⟨rfl, rfl, rfl, rfl, trivial⟩
        · exact zs_goj (hJ6 ()) trivial
set_option maxRecDepth 20000 in
theorem c_X0_watchTo (l : Launch) (g : GC) (a0 : Int) (a1 : Int) : ConW l g yX0_watchTo cX0_watchTo 5 (some .boolean) (rmd 6 0 0) [sR 18, sI a0, sI a1] (fun mm => fX0_watchTo a0 a1 mm) := by
  refine zs_ofW (by decide +kernel) (Nat.le_of_ble_eq_true rfl) ?_
  intro p e s m args below meth c C hr
  replace C : Bd g RX0 cX0_watchTo 5 p s m args meth c := C
  unfold fX0_watchTo
  refine zs_aload_n (pc := 0) (k := 0) (i := 0) C (by decide +kernel) rfl rfl ?_
  refine zs_iload_n (pc := 1) (k := 1) (i := 1) C (by decide +kernel) rfl rfl ?_
  refine zs_cvWi (pc := 2) (As := [sI a0]) (st := []) C (fun _ _ _ => rfl) rfl (c_X0_goOn l g a0) ml_RX0_173 rfl rfl rfl rfl (Nat.le_of_ble_eq_true rfl) ⟨Nat.le_of_ble_eq_true rfl, Nat.le_of_ble_eq_true rfl⟩ ⟨Nat.le_of_ble_eq_true rfl, Nat.le_of_ble_eq_true rfl⟩ (by decide +kernel) (fun x1 => ?_)
  refine zs_if_ne (pc := 5) (off := 5) (tgt := 10) C (by decide +kernel) (by decide) ?_ ?_
  · refine zs_iconst (pc := 10) (n := 0) (x := 0) C (by decide +kernel) (by decide +kernel) ?_
    refine zs_istore_n (pc := 11) (k := 3) (i := 3) (ls' := [(3, sI 0), (0, sR 18), (1, sI a0), (2, sI a1)]) C (by decide +kernel) rfl (Nat.le_of_ble_eq_true rfl) rfl ?_
    refine zs_iconst (pc := 12) (n := 0) (x := 0) C (by decide +kernel) (by decide +kernel) ?_
    refine zs_istore (pc := 13) (i := 4) (ls' := [(4, sI 0), (3, sI 0), (0, sR 18), (1, sI a0), (2, sI a1)]) C (by decide +kernel) (Nat.le_of_ble_eq_true rfl) rfl ?_
    refine zs_sub (ls' := [(0, sR 18), (1, sI a0), (2, sI a1), (3, sI 0), (4, sI 0)]) ⟨rfl, rfl, rfl, rfl, rfl, trivial⟩ ?_
    refine zs_lp (pc := 15) (fun (t2 : Int × Int) => [(0, sR 18), (1, sI a0), (2, sI a1), (3, sI t2.1), (4, sI t2.2)]) (fun _ => []) (fun K3 hK3 t2 => ?_) BIG (0, 0)
    refine zs_iload (pc := 15) (i := 4) C (by decide +kernel) rfl ?_
    refine zs_aload_n (pc := 17) (k := 0) (i := 0) C (by decide +kernel) rfl rfl ?_
    refine zs_getI (pc := 18) (i := 43) (ci := 0) (k := 9) C (by decide +kernel) fl_RX0_43 rfl rfl (fun x4 => ?_)
    refine zs_icmp_ge (pc := 21) (off := 48) (tgt := 69) C (by decide +kernel) (by decide) ?_ ?_
    · refine zs_iload_n (pc := 69) (k := 3) (i := 3) C (by decide +kernel) rfl rfl ?_
      refine zs_jn (pJ := 78) (kJ := 0) (sJ := 0) (fun t5 => []) (fun t5 => [sI t5]) (fun t5 => ?_) (fun J6 hJ6 => ?_)
      · refine zs_chk (fun _ hx => ?_)
        exact zs_retWz (pc := 78) C hx hr ⟨Nat.le_of_ble_eq_true rfl, Nat.le_of_ble_eq_true rfl⟩ (by decide +kernel)
      · refine zs_if_eq (pc := 70) (off := 7) (tgt := 77) C (by decide +kernel) (by decide) ?_ ?_
        · refine zs_iconst (pc := 77) (n := 0) (x := 0) C (by decide +kernel) (by decide +kernel) ?_
          exact zs_goj (hJ6 0) trivial
        · refine zs_iconst (pc := 73) (n := 1) (x := 1) C (by decide +kernel) (by decide +kernel) ?_
          refine zs_goto (pc := 74) (off := 4) (tgt := 78) C (by decide +kernel) (by decide) ?_
          exact zs_goj (hJ6 1) trivial
    · refine zs_iload_n (pc := 24) (k := 2) (i := 2) C (by decide +kernel) rfl rfl ?_
      refine zs_iconst (pc := 25) (n := (-1)) (x := (-1)) C (by decide +kernel) (by decide +kernel) ?_
      refine zs_jn (pJ := 48) (kJ := 0) (sJ := 0) (fun t7 => [(0, sR 18), (1, sI a0), (2, sI a1), (3, sI t2.1), (4, sI t2.2)]) (fun t7 => []) (fun t7 => ?_) (fun J8 hJ8 => ?_)
      · refine zs_iload_n (pc := 48) (k := 3) (i := 3) C (by decide +kernel) rfl rfl ?_
        refine zs_aload_n (pc := 49) (k := 0) (i := 0) C (by decide +kernel) rfl rfl ?_
        refine zs_getR (o' := 82) (pc := 50) (i := 31) (ci := 0) (k := 5) C (by decide +kernel) fl_RX0_31 rfl rfl rfl ?_
        refine zs_iload_n (pc := 53) (k := 1) (i := 1) C (by decide +kernel) rfl rfl ?_
        refine zs_bipush (pc := 54) (n := 25) (x := 25) C (by decide +kernel) (by decide +kernel) ?_
        refine zs_imul (pc := 56) C (by decide +kernel) ?_
        refine zs_iload (pc := 57) (i := 4) C (by decide +kernel) rfl ?_
        refine zs_iadd (pc := 59) C (by decide +kernel) ?_
        refine zs_iald (pc := 60) (o := 82) (n := 1025) C (by decide +kernel) rfl (fun hinx9 x9 => ?_)
        refine zs_ior (pc := 61) C (by decide +kernel) ?_
        refine zs_let (fun x10 => ?_)
        refine zs_istore_n (pc := 62) (k := 3) (i := 3) (ls' := [(3, sI x10), (0, sR 18), (1, sI a0), (2, sI a1), (4, sI t2.2)]) C (by decide +kernel) rfl (Nat.le_of_ble_eq_true rfl) rfl ?_
        refine zs_iinc (pc := 63) (i := 4) (n := 1) (y := w32 (t2.2 + 1)) (ls' := [(4, sI (w32 (t2.2 + 1))), (3, sI x10), (0, sR 18), (1, sI a0), (2, sI a1)]) C (by decide +kernel) rfl rfl (Nat.le_of_ble_eq_true rfl) rfl ?_
        refine zs_goto (pc := 66) (off := (-51)) (tgt := 15) C (by decide +kernel) (by decide) ?_
        exact zs_goj (hK3 (x10, w32 (t2.2 + 1))) ⟨rfl, rfl, rfl, rfl, rfl, trivial⟩
      · refine zs_icmp_eq (pc := 26) (off := 22) (tgt := 48) C (by decide +kernel) (by decide) ?_ ?_
        · exact zs_goj (hJ8 ()) ⟨rfl, rfl, rfl, rfl, rfl, trivial⟩
        · refine zs_iload (pc := 29) (i := 4) C (by decide +kernel) rfl ?_
          refine zs_iload_n (pc := 31) (k := 2) (i := 2) C (by decide +kernel) rfl rfl ?_
          refine zs_icmp_eq (pc := 32) (off := 16) (tgt := 48) C (by decide +kernel) (by decide) ?_ ?_
          · exact zs_goj (hJ8 ()) ⟨rfl, rfl, rfl, rfl, rfl, trivial⟩
          · refine zs_aload_n (pc := 35) (k := 0) (i := 0) C (by decide +kernel) rfl rfl ?_
            refine zs_getR (o' := 82) (pc := 36) (i := 31) (ci := 0) (k := 5) C (by decide +kernel) fl_RX0_31 rfl rfl rfl ?_
            refine zs_iload_n (pc := 39) (k := 1) (i := 1) C (by decide +kernel) rfl rfl ?_
            refine zs_bipush (pc := 40) (n := 25) (x := 25) C (by decide +kernel) (by decide +kernel) ?_
            refine zs_imul (pc := 42) C (by decide +kernel) ?_
            refine zs_iload (pc := 43) (i := 4) C (by decide +kernel) rfl ?_
            refine zs_iadd (pc := 45) C (by decide +kernel) ?_
            refine zs_iconst (pc := 46) (n := 0) (x := 0) C (by decide +kernel) (by decide +kernel) ?_
            refine zs_iast (pc := 47) (o := 82) (n := 1025) C (fun _ _ _ => rfl) (by decide +kernel) rfl ?_
            exact zs_goj (hJ8 ()) ⟨rfl, rfl, rfl, rfl, rfl, trivial⟩
  · refine zs_iconst (pc := 8) (n := 0) (x := 0) C (by decide +kernel) (by decide +kernel) ?_
    exact zs_retWz (pc := 9) C (by decide) hr ⟨Nat.le_of_ble_eq_true rfl, Nat.le_of_ble_eq_true rfl⟩ (by decide +kernel)
set_option maxRecDepth 20000 in
theorem c_X11_other (l : Launch) (g : GC) (hl : l.stackTraces = false) (a0 : Int) (a1 : Int) : ConT l g yX11_other cX11_other 5 (some .int) (rmd 10 5 30) [sR 0, sI a0, sI a1] (fun mm => fX11_other a0 a1 mm) := by
  refine zs_ofT (by decide +kernel) (Nat.le_of_ble_eq_true rfl) ?_
  intro p e s m args below meth c C hr hE
  replace C : Bd g RX11 cX11_other 5 p s m args meth c := C
  unfold fX11_other
  refine zs_aload_n (pc := 0) (k := 0) (i := 0) C (by decide +kernel) rfl rfl ?_
  refine zs_iload_n (pc := 1) (k := 1) (i := 1) C (by decide +kernel) rfl rfl ?_
  refine zs_iload_n (pc := 2) (k := 2) (i := 2) C (by decide +kernel) rfl rfl ?_
  refine zs_bipush (pc := 3) (n := 20) (x := 20) C (by decide +kernel) (by decide +kernel) ?_
  refine zs_cvTv (pc := 5) (As := [sI a0, sI a1, sI 20]) (st := []) C hE (c_X11_needSeen l g hl a0 a1 20) ml_RX11_339 rfl rfl rfl rfl (Nat.le_of_ble_eq_true rfl) ⟨Nat.le_of_ble_eq_true rfl, Nat.le_of_ble_eq_true rfl⟩ ⟨Nat.le_of_ble_eq_true rfl, Nat.le_of_ble_eq_true rfl⟩ ⟨Nat.le_of_ble_eq_true rfl, Nat.le_of_ble_eq_true rfl⟩ (by decide +kernel) ?_
  refine zs_aload_n (pc := 8) (k := 0) (i := 0) C (by decide +kernel) rfl rfl ?_
  refine zs_getR (o' := 88) (pc := 9) (i := 55) (ci := 11) (k := 9) C (by decide +kernel) fl_RX11_55 rfl rfl rfl ?_
  refine zs_getR (o' := 95) (pc := 12) (i := 227) (ci := 9) (k := 2) C (by decide +kernel) fl_RX11_227 rfl rfl rfl ?_
  refine zs_iload_n (pc := 15) (k := 2) (i := 2) C (by decide +kernel) rfl rfl ?_
  refine zs_iald (pc := 16) (o := 95) (n := 4) C (by decide +kernel) rfl (fun hinx1 x1 => ?_)
  refine zs_istore_n (pc := 17) (k := 3) (i := 3) (ls' := [(3, sI x1), (0, sR 0), (1, sI a0), (2, sI a1)]) C (by decide +kernel) rfl (Nat.le_of_ble_eq_true rfl) rfl ?_
  refine zs_aload_n (pc := 18) (k := 0) (i := 0) C (by decide +kernel) rfl rfl ?_
  refine zs_getR (o' := 18) (pc := 19) (i := 33) (ci := 11) (k := 5) C (by decide +kernel) fl_RX11_33 rfl rfl rfl ?_
  refine zs_iload_n (pc := 22) (k := 1) (i := 1) C (by decide +kernel) rfl rfl ?_
  refine zs_cvVv (pc := 23) (As := [sI a0]) (st := []) C (fun _ _ _ => rfl) (c_X0_begin l g a0) ml_RX11_251 rfl rfl rfl rfl (Nat.le_of_ble_eq_true rfl) ⟨Nat.le_of_ble_eq_true rfl, Nat.le_of_ble_eq_true rfl⟩ ⟨Nat.le_of_ble_eq_true rfl, Nat.le_of_ble_eq_true rfl⟩ (by decide +kernel) ?_
  refine zs_aload_n (pc := 26) (k := 0) (i := 0) C (by decide +kernel) rfl rfl ?_
  refine zs_getR (o' := 18) (pc := 27) (i := 33) (ci := 11) (k := 5) C (by decide +kernel) fl_RX11_33 rfl rfl rfl ?_
  refine zs_cvVv (pc := 30) (As := []) (st := []) C (fun _ _ _ => rfl) (c_X0_start l g ) ml_RX11_342 rfl rfl rfl rfl (Nat.le_of_ble_eq_true rfl) ⟨Nat.le_of_ble_eq_true rfl, Nat.le_of_ble_eq_true rfl⟩ ⟨Nat.le_of_ble_eq_true rfl, Nat.le_of_ble_eq_true rfl⟩ (by decide +kernel) ?_
  refine zs_iconst (pc := 33) (n := 1) (x := 1) C (by decide +kernel) (by decide +kernel) ?_
  refine zs_istore (pc := 34) (i := 4) (ls' := [(4, sI 1), (3, sI x1), (0, sR 0), (1, sI a0), (2, sI a1)]) C (by decide +kernel) (Nat.le_of_ble_eq_true rfl) rfl ?_
  refine zs_sub (ls' := [(0, sR 0), (2, sI a1), (3, sI x1), (4, sI 1)]) ⟨rfl, rfl, rfl, rfl, trivial⟩ ?_
  refine zs_lp (pc := 36) (fun (t2 : Int) => [(0, sR 0), (2, sI a1), (3, sI x1), (4, sI t2)]) (fun _ => []) (fun K3 hK3 t2 => ?_) BIG 1
  refine zs_iload (pc := 36) (i := 4) C (by decide +kernel) rfl ?_
  refine zs_iload_n (pc := 38) (k := 3) (i := 3) C (by decide +kernel) rfl rfl ?_
  refine zs_icmp_gt (pc := 39) (off := 36) (tgt := 75) C (by decide +kernel) (by decide) ?_ ?_
  · refine zs_aload_n (pc := 75) (k := 0) (i := 0) C (by decide +kernel) rfl rfl ?_
    refine zs_getR (o' := 18) (pc := 76) (i := 33) (ci := 11) (k := 5) C (by decide +kernel) fl_RX11_33 rfl rfl rfl ?_
    refine zs_iconst (pc := 79) (n := 1) (x := 1) C (by decide +kernel) (by decide +kernel) ?_
    refine zs_iload_n (pc := 80) (k := 3) (i := 3) C (by decide +kernel) rfl rfl ?_
    refine zs_cvRi (pc := 81) (As := [sI 1, sI x1]) (st := []) C rfl (c_X0_whereIs l g 1 x1) ml_RX11_259 rfl rfl rfl rfl (Nat.le_of_ble_eq_true rfl) ⟨Nat.le_of_ble_eq_true rfl, Nat.le_of_ble_eq_true rfl⟩ ⟨Nat.le_of_ble_eq_true rfl, Nat.le_of_ble_eq_true rfl⟩ (by decide +kernel) (fun x4 => ?_)
    exact zs_retTi (pc := 84) C hr ⟨Nat.le_of_ble_eq_true rfl, Nat.le_of_ble_eq_true rfl⟩ (by decide +kernel)
  · refine zs_aload_n (pc := 42) (k := 0) (i := 0) C (by decide +kernel) rfl rfl ?_
    refine zs_getR (o' := 18) (pc := 43) (i := 33) (ci := 11) (k := 5) C (by decide +kernel) fl_RX11_33 rfl rfl rfl ?_
    refine zs_iload (pc := 46) (i := 4) C (by decide +kernel) rfl ?_
    refine zs_aload_n (pc := 48) (k := 0) (i := 0) C (by decide +kernel) rfl rfl ?_
    refine zs_getR (o' := 88) (pc := 49) (i := 55) (ci := 11) (k := 9) C (by decide +kernel) fl_RX11_55 rfl rfl rfl ?_
    refine zs_iload_n (pc := 52) (k := 2) (i := 2) C (by decide +kernel) rfl rfl ?_
    refine zs_iload (pc := 53) (i := 4) C (by decide +kernel) rfl ?_
    refine zs_iconst (pc := 55) (n := 1) (x := 1) C (by decide +kernel) (by decide +kernel) ?_
    refine zs_isub (pc := 56) C (by decide +kernel) ?_
    refine zs_cvRl (pc := 57) (As := [sI a1, sI (w32 (t2 - 1))]) (st := [sI t2, sR 18]) C (c_X9_at l g a1 (w32 (t2 - 1))) ml_RX11_233 rfl rfl rfl rfl (Nat.le_of_ble_eq_true rfl) ⟨Nat.le_of_ble_eq_true rfl, Nat.le_of_ble_eq_true rfl⟩ ⟨Nat.le_of_ble_eq_true rfl, Nat.le_of_ble_eq_true rfl⟩ (by decide +kernel) (fun x5 => ?_)
    refine zs_l2i (pc := 60) C (by decide +kernel) ?_
    refine zs_cvWi (pc := 61) (As := [sI t2, sI (w32 x5)]) (st := []) C (fun _ _ _ => rfl) rfl (c_X0_watchTo l g t2 (w32 x5)) ml_RX11_344 rfl rfl rfl rfl (Nat.le_of_ble_eq_true rfl) ⟨Nat.le_of_ble_eq_true rfl, Nat.le_of_ble_eq_true rfl⟩ ⟨Nat.le_of_ble_eq_true rfl, Nat.le_of_ble_eq_true rfl⟩ (by decide +kernel) (fun x6 => ?_)
    refine zs_if_ne (pc := 64) (off := 5) (tgt := 69) C (by decide +kernel) (by decide) ?_ ?_
    · refine zs_iinc (pc := 69) (i := 4) (n := 1) (y := w32 (t2 + 1)) (ls' := [(4, sI (w32 (t2 + 1))), (0, sR 0), (2, sI a1), (3, sI x1)]) C (by decide +kernel) rfl rfl (Nat.le_of_ble_eq_true rfl) rfl ?_
      refine zs_goto (pc := 72) (off := (-36)) (tgt := 36) C (by decide +kernel) (by decide) ?_
      exact zs_goj (hK3 (w32 (t2 + 1))) ⟨rfl, rfl, rfl, rfl, trivial⟩
    · refine zs_iconst (pc := 67) (n := 0) (x := 0) C (by decide +kernel) (by decide +kernel) ?_
      exact zs_retTi (pc := 68) C hr ⟨Nat.le_of_ble_eq_true rfl, Nat.le_of_ble_eq_true rfl⟩ (by decide +kernel)
set_option maxRecDepth 20000 in
theorem c_X11_countSeen (l : Launch) (g : GC) (a0 : Int) (a1 : Int) : ConV l g yX11_countSeen cX11_countSeen 5 (rmd 6 0 0) [sR 0, sI a0, sI a1] (fun mm => fX11_countSeen a0 a1 mm) := by
  refine zs_ofV (by decide +kernel) (Nat.le_of_ble_eq_true rfl) ?_
  intro p e s m args below meth c C hr
  replace C : Bd g RX11 cX11_countSeen 5 p s m args meth c := C
  unfold fX11_countSeen
  refine zs_aload_n (pc := 0) (k := 0) (i := 0) C (by decide +kernel) rfl rfl ?_
  refine zs_getR (o' := 18) (pc := 1) (i := 33) (ci := 11) (k := 5) C (by decide +kernel) fl_RX11_33 rfl rfl rfl ?_
  refine zs_iload_n (pc := 4) (k := 1) (i := 1) C (by decide +kernel) rfl rfl ?_
  refine zs_cvVv (pc := 5) (As := [sI a0]) (st := []) C (fun _ _ _ => rfl) (c_X0_begin l g a0) ml_RX11_251 rfl rfl rfl rfl (Nat.le_of_ble_eq_true rfl) ⟨Nat.le_of_ble_eq_true rfl, Nat.le_of_ble_eq_true rfl⟩ ⟨Nat.le_of_ble_eq_true rfl, Nat.le_of_ble_eq_true rfl⟩ (by decide +kernel) ?_
  refine zs_aload_n (pc := 8) (k := 0) (i := 0) C (by decide +kernel) rfl rfl ?_
  refine zs_getR (o' := 96) (pc := 9) (i := 62) (ci := 11) (k := 10) C (by decide +kernel) fl_RX11_62 rfl rfl rfl ?_
  refine zs_aload_n (pc := 12) (k := 0) (i := 0) C (by decide +kernel) rfl rfl ?_
  refine zs_getR (o' := 18) (pc := 13) (i := 33) (ci := 11) (k := 5) C (by decide +kernel) fl_RX11_33 rfl rfl rfl ?_
  refine zs_cvVv (pc := 16) (As := [sR 18]) (st := []) C (fun _ _ _ => rfl) (c_X7_start l g ) ml_RX11_291 rfl rfl rfl rfl (Nat.le_of_ble_eq_true rfl) ⟨Nat.le_of_ble_eq_true rfl, Nat.le_of_ble_eq_true rfl⟩ ⟨Nat.le_of_ble_eq_true rfl, Nat.le_of_ble_eq_true rfl⟩ (by decide +kernel) ?_
  refine zs_aload_n (pc := 19) (k := 0) (i := 0) C (by decide +kernel) rfl rfl ?_
  refine zs_getR (o' := 88) (pc := 20) (i := 55) (ci := 11) (k := 9) C (by decide +kernel) fl_RX11_55 rfl rfl rfl ?_
  refine zs_getR (o' := 95) (pc := 23) (i := 227) (ci := 9) (k := 2) C (by decide +kernel) fl_RX11_227 rfl rfl rfl ?_
  refine zs_iload_n (pc := 26) (k := 2) (i := 2) C (by decide +kernel) rfl rfl ?_
  refine zs_iald (pc := 27) (o := 95) (n := 4) C (by decide +kernel) rfl (fun hinx1 x1 => ?_)
  refine zs_istore_n (pc := 28) (k := 3) (i := 3) (ls' := [(3, sI x1), (0, sR 0), (1, sI a0), (2, sI a1)]) C (by decide +kernel) rfl (Nat.le_of_ble_eq_true rfl) rfl ?_
  refine zs_iconst (pc := 29) (n := 1) (x := 1) C (by decide +kernel) (by decide +kernel) ?_
  refine zs_istore (pc := 30) (i := 4) (ls' := [(4, sI 1), (3, sI x1), (0, sR 0), (1, sI a0), (2, sI a1)]) C (by decide +kernel) (Nat.le_of_ble_eq_true rfl) rfl ?_
  refine zs_sub (ls' := [(0, sR 0), (2, sI a1), (3, sI x1), (4, sI 1)]) ⟨rfl, rfl, rfl, rfl, trivial⟩ ?_
  refine zs_lp (pc := 32) (fun (t2 : Int) => [(0, sR 0), (2, sI a1), (3, sI x1), (4, sI t2)]) (fun _ => []) (fun K3 hK3 t2 => ?_) BIG 1
  refine zs_iload (pc := 32) (i := 4) C (by decide +kernel) rfl ?_
  refine zs_iload_n (pc := 34) (k := 3) (i := 3) C (by decide +kernel) rfl rfl ?_
  refine zs_icmp_gt (pc := 35) (off := 35) (tgt := 70) C (by decide +kernel) (by decide) ?_ ?_
  · exact zs_retVv (pc := 70) C hr ⟨Nat.le_of_ble_eq_true rfl, Nat.le_of_ble_eq_true rfl⟩ (by decide +kernel)
  · refine zs_aload_n (pc := 38) (k := 0) (i := 0) C (by decide +kernel) rfl rfl ?_
    refine zs_getR (o' := 96) (pc := 39) (i := 62) (ci := 11) (k := 10) C (by decide +kernel) fl_RX11_62 rfl rfl rfl ?_
    refine zs_aload_n (pc := 42) (k := 0) (i := 0) C (by decide +kernel) rfl rfl ?_
    refine zs_getR (o' := 18) (pc := 43) (i := 33) (ci := 11) (k := 5) C (by decide +kernel) fl_RX11_33 rfl rfl rfl ?_
    refine zs_iload (pc := 46) (i := 4) C (by decide +kernel) rfl ?_
    refine zs_aload_n (pc := 48) (k := 0) (i := 0) C (by decide +kernel) rfl rfl ?_
    refine zs_getR (o' := 88) (pc := 49) (i := 55) (ci := 11) (k := 9) C (by decide +kernel) fl_RX11_55 rfl rfl rfl ?_
    refine zs_iload_n (pc := 52) (k := 2) (i := 2) C (by decide +kernel) rfl rfl ?_
    refine zs_iload (pc := 53) (i := 4) C (by decide +kernel) rfl ?_
    refine zs_iconst (pc := 55) (n := 1) (x := 1) C (by decide +kernel) (by decide +kernel) ?_
    refine zs_isub (pc := 56) C (by decide +kernel) ?_
    refine zs_cvRl (pc := 57) (As := [sI a1, sI (w32 (t2 - 1))]) (st := [sI t2, sR 18, sR 96]) C (c_X9_at l g a1 (w32 (t2 - 1))) ml_RX11_233 rfl rfl rfl rfl (Nat.le_of_ble_eq_true rfl) ⟨Nat.le_of_ble_eq_true rfl, Nat.le_of_ble_eq_true rfl⟩ ⟨Nat.le_of_ble_eq_true rfl, Nat.le_of_ble_eq_true rfl⟩ (by decide +kernel) (fun x4 => ?_)
    refine zs_l2i (pc := 60) C (by decide +kernel) ?_
    refine zs_cvVv (pc := 61) (As := [sR 18, sI t2, sI (w32 x4)]) (st := []) C (fun _ _ _ => rfl) (c_X7_goOn l g t2 (w32 x4)) ml_RX11_295 rfl rfl rfl rfl (Nat.le_of_ble_eq_true rfl) ⟨Nat.le_of_ble_eq_true rfl, Nat.le_of_ble_eq_true rfl⟩ ⟨Nat.le_of_ble_eq_true rfl, Nat.le_of_ble_eq_true rfl⟩ (by decide +kernel) ?_
    refine zs_iinc (pc := 64) (i := 4) (n := 1) (y := w32 (t2 + 1)) (ls' := [(4, sI (w32 (t2 + 1))), (0, sR 0), (2, sI a1), (3, sI x1)]) C (by decide +kernel) rfl rfl (Nat.le_of_ble_eq_true rfl) rfl ?_
    refine zs_goto (pc := 67) (off := (-35)) (tgt := 32) C (by decide +kernel) (by decide) ?_
    exact zs_goj (hK3 (w32 (t2 + 1))) ⟨rfl, rfl, rfl, rfl, trivial⟩
set_option maxRecDepth 20000 in
theorem c_X7_endingAt (l : Launch) (g : GC) (a0 : Int) : ConR l g yX7_endingAt cX7_endingAt 5 (some .long) (rmd 1 0 0) [sR 96, sI a0] (fun mm => fX7_endingAt a0 mm) := by
  refine zs_ofR (by decide +kernel) (Nat.le_of_ble_eq_true rfl) ?_
  intro p e s m args below meth c C hr
  replace C : Bd g RX7 cX7_endingAt 5 p s m args meth c := C
  unfold fX7_endingAt
  refine zs_lconst (pc := 0) (n := 0) (x := 0) C (by decide +kernel) (by decide +kernel) ?_
  refine zs_lstore_n (pc := 1) (k := 2) (i := 2) (ls' := [(2, sL 0), (0, sR 96), (1, sI a0)]) C (by decide +kernel) rfl (Nat.le_of_ble_eq_true rfl) rfl ?_
  refine zs_iconst (pc := 2) (n := 0) (x := 0) C (by decide +kernel) (by decide +kernel) ?_
  refine zs_istore (pc := 3) (i := 4) (ls' := [(4, sI 0), (2, sL 0), (0, sR 96), (1, sI a0)]) C (by decide +kernel) (Nat.le_of_ble_eq_true rfl) rfl ?_
  refine zs_sub (ls' := [(0, sR 96), (1, sI a0), (2, sL 0), (4, sI 0)]) ⟨rfl, rfl, rfl, rfl, trivial⟩ ?_
  refine zs_lp (pc := 5) (fun (t1 : Int × Int) => [(0, sR 96), (1, sI a0), (2, sL t1.1), (4, sI t1.2)]) (fun _ => []) (fun K2 hK2 t1 => ?_) BIG (0, 0)
  refine zs_iload (pc := 5) (i := 4) C (by decide +kernel) rfl ?_
  refine zs_aload_n (pc := 7) (k := 0) (i := 0) C (by decide +kernel) rfl rfl ?_
  refine zs_getI (pc := 8) (i := 22) (ci := 7) (k := 3) C (by decide +kernel) fl_RX7_22 rfl rfl (fun x3 => ?_)
  refine zs_icmp_ge (pc := 11) (off := 24) (tgt := 35) C (by decide +kernel) (by decide) ?_ ?_
  · refine zs_lload_n (pc := 35) (k := 2) (i := 2) C (by decide +kernel) rfl rfl ?_
    exact zs_retRl (pc := 36) C hr ⟨Nat.le_of_ble_eq_true rfl, Nat.le_of_ble_eq_true rfl⟩ (by decide +kernel)
  · refine zs_lload_n (pc := 14) (k := 2) (i := 2) C (by decide +kernel) rfl rfl ?_
    refine zs_aload_n (pc := 15) (k := 0) (i := 0) C (by decide +kernel) rfl rfl ?_
    refine zs_getM (pc := 16) (i := 9) (ci := 7) (k := 0) C (by decide +kernel) fl_RX7_9 rfl rfl (fun x4 => ?_)
    refine zs_need (fun hx4 => ?_)
    refine zs_iload (pc := 19) (i := 4) C (by decide +kernel) rfl ?_
    refine zs_bipush (pc := 21) (n := 25) (x := 25) C (by decide +kernel) (by decide +kernel) ?_
    refine zs_imul (pc := 23) C (by decide +kernel) ?_
    refine zs_iload_n (pc := 24) (k := 1) (i := 1) C (by decide +kernel) rfl rfl ?_
    refine zs_iadd (pc := 25) C (by decide +kernel) ?_
    refine zs_lald (pc := 26) (o := x4) (n := 625) C (by decide +kernel) hx4 (fun hinx5 x5 => ?_)
    refine zs_ladd (pc := 27) C (by decide +kernel) ?_
    refine zs_letL (fun x6 => ?_)
    refine zs_lstore_n (pc := 28) (k := 2) (i := 2) (ls' := [(2, sL x6), (0, sR 96), (1, sI a0), (4, sI t1.2)]) C (by decide +kernel) rfl (Nat.le_of_ble_eq_true rfl) rfl ?_
    refine zs_iinc (pc := 29) (i := 4) (n := 1) (y := w32 (t1.2 + 1)) (ls' := [(4, sI (w32 (t1.2 + 1))), (2, sL x6), (0, sR 96), (1, sI a0)]) C (by decide +kernel) rfl rfl (Nat.le_of_ble_eq_true rfl) rfl ?_
    refine zs_goto (pc := 32) (off := (-27)) (tgt := 5) C (by decide +kernel) (by decide) ?_
    exact zs_goj (hK2 (x6, w32 (t1.2 + 1))) ⟨rfl, rfl, rfl, rfl, trivial⟩
set_option maxRecDepth 20000 in
theorem c_X7_total (l : Launch) (g : GC)  : ConR l g yX7_total cX7_total 4 (some .long) (rmd 2 0 0) [sR 96] (fun mm => fX7_total  mm) := by
  refine zs_ofR (by decide +kernel) (Nat.le_of_ble_eq_true rfl) ?_
  intro p e s m args below meth c C hr
  replace C : Bd g RX7 cX7_total 4 p s m args meth c := C
  unfold fX7_total
  refine zs_lconst (pc := 0) (n := 0) (x := 0) C (by decide +kernel) (by decide +kernel) ?_
  refine zs_lstore_n (pc := 1) (k := 1) (i := 1) (ls' := [(1, sL 0), (0, sR 96)]) C (by decide +kernel) rfl (Nat.le_of_ble_eq_true rfl) rfl ?_
  refine zs_iconst (pc := 2) (n := 0) (x := 0) C (by decide +kernel) (by decide +kernel) ?_
  refine zs_istore_n (pc := 3) (k := 3) (i := 3) (ls' := [(3, sI 0), (1, sL 0), (0, sR 96)]) C (by decide +kernel) rfl (Nat.le_of_ble_eq_true rfl) rfl ?_
  refine zs_sub (ls' := [(0, sR 96), (1, sL 0), (3, sI 0)]) ⟨rfl, rfl, rfl, trivial⟩ ?_
  refine zs_lp (pc := 4) (fun (t1 : Int × Int) => [(0, sR 96), (1, sL t1.1), (3, sI t1.2)]) (fun _ => []) (fun K2 hK2 t1 => ?_) BIG (0, 0)
  refine zs_iload_n (pc := 4) (k := 3) (i := 3) C (by decide +kernel) rfl rfl ?_
  refine zs_aload_n (pc := 5) (k := 0) (i := 0) C (by decide +kernel) rfl rfl ?_
  refine zs_getI (pc := 6) (i := 22) (ci := 7) (k := 3) C (by decide +kernel) fl_RX7_22 rfl rfl (fun x3 => ?_)
  refine zs_icmp_ge (pc := 9) (off := 17) (tgt := 26) C (by decide +kernel) (by decide) ?_ ?_
  · refine zs_lload_n (pc := 26) (k := 1) (i := 1) C (by decide +kernel) rfl rfl ?_
    exact zs_retRl (pc := 27) C hr ⟨Nat.le_of_ble_eq_true rfl, Nat.le_of_ble_eq_true rfl⟩ (by decide +kernel)
  · refine zs_lload_n (pc := 12) (k := 1) (i := 1) C (by decide +kernel) rfl rfl ?_
    refine zs_aload_n (pc := 13) (k := 0) (i := 0) C (by decide +kernel) rfl rfl ?_
    refine zs_iload_n (pc := 14) (k := 3) (i := 3) C (by decide +kernel) rfl rfl ?_
    refine zs_cvRl (pc := 15) (As := [sI t1.2]) (st := [sL t1.1]) C (c_X7_endingAt l g t1.2) ml_RX7_58 rfl rfl rfl rfl (Nat.le_of_ble_eq_true rfl) ⟨Nat.le_of_ble_eq_true rfl, Nat.le_of_ble_eq_true rfl⟩ ⟨Nat.le_of_ble_eq_true rfl, Nat.le_of_ble_eq_true rfl⟩ (by decide +kernel) (fun x4 => ?_)
    refine zs_ladd (pc := 18) C (by decide +kernel) ?_
    refine zs_letL (fun x5 => ?_)
    refine zs_lstore_n (pc := 19) (k := 1) (i := 1) (ls' := [(1, sL x5), (0, sR 96), (3, sI t1.2)]) C (by decide +kernel) rfl (Nat.le_of_ble_eq_true rfl) rfl ?_
    refine zs_iinc (pc := 20) (i := 3) (n := 1) (y := w32 (t1.2 + 1)) (ls' := [(3, sI (w32 (t1.2 + 1))), (1, sL x5), (0, sR 96)]) C (by decide +kernel) rfl rfl (Nat.le_of_ble_eq_true rfl) rfl ?_
    refine zs_goto (pc := 23) (off := (-19)) (tgt := 4) C (by decide +kernel) (by decide) ?_
    exact zs_goj (hK2 (x5, w32 (t1.2 + 1))) ⟨rfl, rfl, rfl, trivial⟩
set_option maxRecDepth 20000 in
theorem c_X11_fits (l : Launch) (g : GC) (hl : l.stackTraces = false) (a0 : Int) (a1 : Int) : ConT l g yX11_fits cX11_fits 3 (some .long) (rmd 10 5 30) [sR 0, sI a0, sI a1] (fun mm => fX11_fits a0 a1 mm) := by
  refine zs_ofT (by decide +kernel) (Nat.le_of_ble_eq_true rfl) ?_
  intro p e s m args below meth c C hr hE
  replace C : Bd g RX11 cX11_fits 3 p s m args meth c := C
  unfold fX11_fits
  refine zs_aload_n (pc := 0) (k := 0) (i := 0) C (by decide +kernel) rfl rfl ?_
  refine zs_iload_n (pc := 1) (k := 1) (i := 1) C (by decide +kernel) rfl rfl ?_
  refine zs_iload_n (pc := 2) (k := 2) (i := 2) C (by decide +kernel) rfl rfl ?_
  refine zs_bipush (pc := 3) (n := 8) (x := 8) C (by decide +kernel) (by decide +kernel) ?_
  refine zs_cvTv (pc := 5) (As := [sI a0, sI a1, sI 8]) (st := []) C hE (c_X11_needSeen l g hl a0 a1 8) ml_RX11_339 rfl rfl rfl rfl (Nat.le_of_ble_eq_true rfl) ⟨Nat.le_of_ble_eq_true rfl, Nat.le_of_ble_eq_true rfl⟩ ⟨Nat.le_of_ble_eq_true rfl, Nat.le_of_ble_eq_true rfl⟩ ⟨Nat.le_of_ble_eq_true rfl, Nat.le_of_ble_eq_true rfl⟩ (by decide +kernel) ?_
  refine zs_aload_n (pc := 8) (k := 0) (i := 0) C (by decide +kernel) rfl rfl ?_
  refine zs_iload_n (pc := 9) (k := 1) (i := 1) C (by decide +kernel) rfl rfl ?_
  refine zs_iload_n (pc := 10) (k := 2) (i := 2) C (by decide +kernel) rfl rfl ?_
  refine zs_cvVv (pc := 11) (As := [sI a0, sI a1]) (st := []) C (fun _ _ _ => rfl) (c_X11_countSeen l g a0 a1) ml_RX11_348 rfl rfl rfl rfl (Nat.le_of_ble_eq_true rfl) ⟨Nat.le_of_ble_eq_true rfl, Nat.le_of_ble_eq_true rfl⟩ ⟨Nat.le_of_ble_eq_true rfl, Nat.le_of_ble_eq_true rfl⟩ (by decide +kernel) ?_
  refine zs_aload_n (pc := 14) (k := 0) (i := 0) C (by decide +kernel) rfl rfl ?_
  refine zs_getR (o' := 96) (pc := 15) (i := 62) (ci := 11) (k := 10) C (by decide +kernel) fl_RX11_62 rfl rfl rfl ?_
  refine zs_cvRl (pc := 18) (As := []) (st := []) C (c_X7_total l g ) ml_RX11_351 rfl rfl rfl rfl (Nat.le_of_ble_eq_true rfl) ⟨Nat.le_of_ble_eq_true rfl, Nat.le_of_ble_eq_true rfl⟩ ⟨Nat.le_of_ble_eq_true rfl, Nat.le_of_ble_eq_true rfl⟩ (by decide +kernel) (fun x1 => ?_)
  exact zs_retTl (pc := 21) C hr ⟨Nat.le_of_ble_eq_true rfl, Nat.le_of_ble_eq_true rfl⟩ (by decide +kernel)
set_option maxRecDepth 20000 in
theorem c_X7_tellsMost (l : Launch) (g : GC)  : ConR l g yX7_tellsMost cX7_tellsMost 11 (some .int) (rmd 3 0 0) [sR 96] (fun mm => fX7_tellsMost  mm) := by
  refine zs_ofR (by decide +kernel) (Nat.le_of_ble_eq_true rfl) ?_
  intro p e s m args below meth c C hr
  replace C : Bd g RX7 cX7_tellsMost 11 p s m args meth c := C
  unfold fX7_tellsMost
  refine zs_aload_n (pc := 0) (k := 0) (i := 0) C (by decide +kernel) rfl rfl ?_
  refine zs_cvRl (pc := 1) (As := []) (st := []) C (c_X7_total l g ) ml_RX7_62 rfl rfl rfl rfl (Nat.le_of_ble_eq_true rfl) ⟨Nat.le_of_ble_eq_true rfl, Nat.le_of_ble_eq_true rfl⟩ ⟨Nat.le_of_ble_eq_true rfl, Nat.le_of_ble_eq_true rfl⟩ (by decide +kernel) (fun x1 => ?_)
  refine zs_lstore_n (pc := 4) (k := 1) (i := 1) (ls' := [(1, sL x1), (0, sR 96)]) C (by decide +kernel) rfl (Nat.le_of_ble_eq_true rfl) rfl ?_
  refine zs_ldc2 (pc := 5) (i := 66) (v := (-1)) (x := (-1)) C (by decide +kernel) wf_1680 (by decide +kernel) ?_
  refine zs_lstore_n (pc := 8) (k := 3) (i := 3) (ls' := [(3, sL ((-1))), (1, sL x1), (0, sR 96)]) C (by decide +kernel) rfl (Nat.le_of_ble_eq_true rfl) rfl ?_
  refine zs_iconst (pc := 9) (n := (-1)) (x := (-1)) C (by decide +kernel) (by decide +kernel) ?_
  refine zs_istore (pc := 10) (i := 5) (ls' := [(5, sI ((-1))), (3, sL ((-1))), (1, sL x1), (0, sR 96)]) C (by decide +kernel) (Nat.le_of_ble_eq_true rfl) rfl ?_
  refine zs_iconst (pc := 12) (n := 0) (x := 0) C (by decide +kernel) (by decide +kernel) ?_
  refine zs_istore (pc := 13) (i := 6) (ls' := [(6, sI 0), (5, sI ((-1))), (3, sL ((-1))), (1, sL x1), (0, sR 96)]) C (by decide +kernel) (Nat.le_of_ble_eq_true rfl) rfl ?_
  refine zs_sub (ls' := [(0, sR 96), (1, sL x1), (3, sL ((-1))), (5, sI ((-1))), (6, sI 0)]) ⟨rfl, rfl, rfl, rfl, rfl, trivial⟩ ?_
  refine zs_lp (pc := 15) (fun (t2 : Int × Int × Int) => [(0, sR 96), (1, sL x1), (3, sL t2.1), (5, sI t2.2.1), (6, sI t2.2.2)]) (fun _ => []) (fun K3 hK3 t2 => ?_) BIG ((-1), (-1), 0)
  refine zs_iload (pc := 15) (i := 6) C (by decide +kernel) rfl ?_
  refine zs_aload_n (pc := 17) (k := 0) (i := 0) C (by decide +kernel) rfl rfl ?_
  refine zs_getI (pc := 18) (i := 22) (ci := 7) (k := 3) C (by decide +kernel) fl_RX7_22 rfl rfl (fun x4 => ?_)
  refine zs_jn (pJ := 69) (kJ := 0) (sJ := 0) (fun t5 => [(5, sI t2.2.1)]) (fun t5 => []) (fun t5 => ?_) (fun J6 hJ6 => ?_)
  · refine zs_iload (pc := 69) (i := 5) C (by decide +kernel) rfl ?_
    exact zs_retRi (pc := 71) C hr ⟨Nat.le_of_ble_eq_true rfl, Nat.le_of_ble_eq_true rfl⟩ (by decide +kernel)
  · refine zs_icmp_ge (pc := 21) (off := 48) (tgt := 69) C (by decide +kernel) (by decide) ?_ ?_
    · exact zs_goj (hJ6 ()) ⟨rfl, trivial⟩
    · refine zs_lload_n (pc := 24) (k := 1) (i := 1) C (by decide +kernel) rfl rfl ?_
      refine zs_lconst (pc := 25) (n := 0) (x := 0) C (by decide +kernel) (by decide +kernel) ?_
      refine zs_lcmp_le (pc := 26) (off := 42) (tgt := 69) C (by decide +kernel) (by decide +kernel) (by decide) ?_ ?_
      · exact zs_goj (hJ6 ()) ⟨rfl, trivial⟩
      · refine zs_aload_n (pc := 30) (k := 0) (i := 0) C (by decide +kernel) rfl rfl ?_
        refine zs_iload (pc := 31) (i := 6) C (by decide +kernel) rfl ?_
        refine zs_cvRl (pc := 33) (As := [sI t2.2.2]) (st := []) C (c_X7_endingAt l g t2.2.2) ml_RX7_58 rfl rfl rfl rfl (Nat.le_of_ble_eq_true rfl) ⟨Nat.le_of_ble_eq_true rfl, Nat.le_of_ble_eq_true rfl⟩ ⟨Nat.le_of_ble_eq_true rfl, Nat.le_of_ble_eq_true rfl⟩ (by decide +kernel) (fun x7 => ?_)
        refine zs_lstore (pc := 36) (i := 7) (ls' := [(7, sL x7), (0, sR 96), (1, sL x1), (3, sL t2.1), (5, sI t2.2.1), (6, sI t2.2.2)]) C (by decide +kernel) (Nat.le_of_ble_eq_true rfl) rfl ?_
        refine zs_lload (pc := 38) (i := 7) C (by decide +kernel) rfl ?_
        refine zs_lload_n (pc := 40) (k := 1) (i := 1) C (by decide +kernel) rfl rfl ?_
        refine zs_lload (pc := 41) (i := 7) C (by decide +kernel) rfl ?_
        refine zs_lsub (pc := 43) C (by decide +kernel) ?_
        refine zs_mminL (pc := 44) (idx := 68) C wf_1681 wf_1682 wf_166 wf_1683 ⟨Nat.le_of_ble_eq_true rfl, Nat.le_of_ble_eq_true rfl, Nat.zero_le _, Nat.zero_le _⟩ (by decide +kernel) ?_
        refine zs_letL (fun x8 => ?_)
        refine zs_lstore (pc := 47) (i := 9) (ls' := [(9, sL x8), (7, sL x7), (0, sR 96), (1, sL x1), (3, sL t2.1), (5, sI t2.2.1), (6, sI t2.2.2)]) C (by decide +kernel) (Nat.le_of_ble_eq_true rfl) rfl ?_
        refine zs_lload (pc := 49) (i := 9) C (by decide +kernel) rfl ?_
        refine zs_lload_n (pc := 51) (k := 3) (i := 3) C (by decide +kernel) rfl rfl ?_
        refine zs_jn (pJ := 63) (kJ := 0) (sJ := 0) (fun t9 => [(0, sR 96), (1, sL x1), (3, sL t9.1), (5, sI t9.2), (6, sI t2.2.2)]) (fun t9 => []) (fun t9 => ?_) (fun J10 hJ10 => ?_)
        · refine zs_iinc (pc := 63) (i := 6) (n := 1) (y := w32 (t2.2.2 + 1)) (ls' := [(6, sI (w32 (t2.2.2 + 1))), (0, sR 96), (1, sL x1), (3, sL t9.1), (5, sI t9.2)]) C (by decide +kernel) rfl rfl (Nat.le_of_ble_eq_true rfl) rfl ?_
          refine zs_goto (pc := 66) (off := (-51)) (tgt := 15) C (by decide +kernel) (by decide) ?_
          exact zs_goj (hK3 (t9.1, t9.2, w32 (t2.2.2 + 1))) ⟨rfl, rfl, rfl, rfl, rfl, trivial⟩
        · refine zs_lcmp_le (pc := 52) (off := 10) (tgt := 63) C (by decide +kernel) (by decide +kernel) (by decide) ?_ ?_
          · exact zs_goj (hJ10 (t2.1, t2.2.1)) ⟨rfl, rfl, rfl, rfl, rfl, trivial⟩
          · refine zs_lload (pc := 56) (i := 9) C (by decide +kernel) rfl ?_
            refine zs_lstore_n (pc := 58) (k := 3) (i := 3) (ls' := [(3, sL x8), (9, sL x8), (7, sL x7), (0, sR 96), (1, sL x1), (5, sI t2.2.1), (6, sI t2.2.2)]) C (by decide +kernel) rfl (Nat.le_of_ble_eq_true rfl) rfl ?_
            refine zs_iload (pc := 59) (i := 6) C (by decide +kernel) rfl ?_
            refine zs_istore (pc := 61) (i := 5) (ls' := [(5, sI t2.2.2), (3, sL x8), (9, sL x8), (7, sL x7), (0, sR 96), (1, sL x1), (6, sI t2.2.2)]) C (by decide +kernel) (Nat.le_of_ble_eq_true rfl) rfl ?_
            exact zs_goj (hJ10 (x8, t2.2.2)) ⟨rfl, rfl, rfl, rfl, rfl, trivial⟩
set_option maxRecDepth 20000 in
theorem c_X11_look (l : Launch) (g : GC) (hl : l.stackTraces = false) (a0 : Int) (a1 : Int) : ConT l g yX11_look cX11_look 3 (some .int) (rmd 10 5 30) [sR 0, sI a0, sI a1] (fun mm => fX11_look a0 a1 mm) := by
  refine zs_ofT (by decide +kernel) (Nat.le_of_ble_eq_true rfl) ?_
  intro p e s m args below meth c C hr hE
  replace C : Bd g RX11 cX11_look 3 p s m args meth c := C
  unfold fX11_look
  refine zs_aload_n (pc := 0) (k := 0) (i := 0) C (by decide +kernel) rfl rfl ?_
  refine zs_iload_n (pc := 1) (k := 1) (i := 1) C (by decide +kernel) rfl rfl ?_
  refine zs_iload_n (pc := 2) (k := 2) (i := 2) C (by decide +kernel) rfl rfl ?_
  refine zs_bipush (pc := 3) (n := 8) (x := 8) C (by decide +kernel) (by decide +kernel) ?_
  refine zs_cvTv (pc := 5) (As := [sI a0, sI a1, sI 8]) (st := []) C hE (c_X11_needSeen l g hl a0 a1 8) ml_RX11_339 rfl rfl rfl rfl (Nat.le_of_ble_eq_true rfl) ⟨Nat.le_of_ble_eq_true rfl, Nat.le_of_ble_eq_true rfl⟩ ⟨Nat.le_of_ble_eq_true rfl, Nat.le_of_ble_eq_true rfl⟩ ⟨Nat.le_of_ble_eq_true rfl, Nat.le_of_ble_eq_true rfl⟩ (by decide +kernel) ?_
  refine zs_aload_n (pc := 8) (k := 0) (i := 0) C (by decide +kernel) rfl rfl ?_
  refine zs_iload_n (pc := 9) (k := 1) (i := 1) C (by decide +kernel) rfl rfl ?_
  refine zs_iload_n (pc := 10) (k := 2) (i := 2) C (by decide +kernel) rfl rfl ?_
  refine zs_cvVv (pc := 11) (As := [sI a0, sI a1]) (st := []) C (fun _ _ _ => rfl) (c_X11_countSeen l g a0 a1) ml_RX11_348 rfl rfl rfl rfl (Nat.le_of_ble_eq_true rfl) ⟨Nat.le_of_ble_eq_true rfl, Nat.le_of_ble_eq_true rfl⟩ ⟨Nat.le_of_ble_eq_true rfl, Nat.le_of_ble_eq_true rfl⟩ (by decide +kernel) ?_
  refine zs_aload_n (pc := 14) (k := 0) (i := 0) C (by decide +kernel) rfl rfl ?_
  refine zs_getR (o' := 96) (pc := 15) (i := 62) (ci := 11) (k := 10) C (by decide +kernel) fl_RX11_62 rfl rfl rfl ?_
  refine zs_cvRi (pc := 18) (As := []) (st := []) C rfl (c_X7_tellsMost l g ) ml_RX11_355 rfl rfl rfl rfl (Nat.le_of_ble_eq_true rfl) ⟨Nat.le_of_ble_eq_true rfl, Nat.le_of_ble_eq_true rfl⟩ ⟨Nat.le_of_ble_eq_true rfl, Nat.le_of_ble_eq_true rfl⟩ (by decide +kernel) (fun x1 => ?_)
  exact zs_retTi (pc := 21) C hr ⟨Nat.le_of_ble_eq_true rfl, Nat.le_of_ble_eq_true rfl⟩ (by decide +kernel)
set_option maxRecDepth 20000 in
theorem c_X9_lay (l : Launch) (g : GC) (a0 : Int) (a1 : Int) (a2 : Int) : ConV l g yX9_lay cX9_lay 4 (rmd 2 0 0) [sR 88, sI a0, sI a1, sI a2] (fun mm => fX9_lay a0 a1 a2 mm) := by
  refine zs_ofV (by decide +kernel) (Nat.le_of_ble_eq_true rfl) ?_
  intro p e s m args below meth c C hr
  replace C : Bd g RX9 cX9_lay 4 p s m args meth c := C
  unfold fX9_lay
  refine zs_aload_n (pc := 0) (k := 0) (i := 0) C (by decide +kernel) rfl rfl ?_
  refine zs_getR (o' := 94) (pc := 1) (i := 16) (ci := 9) (k := 1) C (by decide +kernel) fl_RX9_16 rfl rfl rfl ?_
  refine zs_iload_n (pc := 4) (k := 1) (i := 1) C (by decide +kernel) rfl rfl ?_
  refine zs_iload_n (pc := 5) (k := 2) (i := 2) C (by decide +kernel) rfl rfl ?_
  refine zs_iast (pc := 6) (o := 94) (n := 4) C (fun _ _ _ => rfl) (by decide +kernel) rfl ?_
  refine zs_aload_n (pc := 7) (k := 0) (i := 0) C (by decide +kernel) rfl rfl ?_
  refine zs_getR (o' := 95) (pc := 8) (i := 20) (ci := 9) (k := 2) C (by decide +kernel) fl_RX9_20 rfl rfl rfl ?_
  refine zs_iload_n (pc := 11) (k := 1) (i := 1) C (by decide +kernel) rfl rfl ?_
  refine zs_iload_n (pc := 12) (k := 3) (i := 3) C (by decide +kernel) rfl rfl ?_
  refine zs_iast (pc := 13) (o := 95) (n := 4) C (fun _ _ _ => rfl) (by decide +kernel) rfl ?_
  refine zs_aload_n (pc := 14) (k := 0) (i := 0) C (by decide +kernel) rfl rfl ?_
  refine zs_getR (o' := 89) (pc := 15) (i := 13) (ci := 9) (k := 0) C (by decide +kernel) fl_RX9_13 rfl rfl rfl ?_
  refine zs_iload_n (pc := 18) (k := 1) (i := 1) C (by decide +kernel) rfl rfl ?_
  refine zs_aald (pc := 19) (o := 89) (t := 6) (n := 4) C (by decide) (by decide +kernel) rfl (ly_arr_6_4 rfl) (fun x1 hx1 => ?_)
  refine zs_lconst (pc := 20) (n := 0) (x := 0) C (by decide +kernel) (by decide +kernel) ?_
  refine zs_csVv (pc := 21) (As := [sR x1, sL 0]) (st := []) C (fun _ _ _ => rfl) (c_J7_fill_d0a16 l g x1 30 0 hx1) ml_RX9_29 rfl rfl (Nat.le_of_ble_eq_true rfl) ⟨Nat.le_of_ble_eq_true rfl, Nat.le_of_ble_eq_true rfl⟩ ⟨Nat.le_of_ble_eq_true rfl, Nat.le_of_ble_eq_true rfl⟩ (by decide +kernel) ?_
  exact zs_retVv (pc := 24) C hr ⟨Nat.le_of_ble_eq_true rfl, Nat.le_of_ble_eq_true rfl⟩ (by decide +kernel)
set_option maxRecDepth 20000 in
theorem c_X11_tray (l : Launch) (g : GC) (hl : l.stackTraces = false) (a0 : Int) (a1 : Int) (a2 : Int) : ConT l g yX11_tray cX11_tray 4 none (rmd 8 3 18) [sR 0, sI a0, sI a1, sI a2] (fun mm => fX11_tray a0 a1 a2 mm) := by
  refine zs_ofT (by decide +kernel) (Nat.le_of_ble_eq_true rfl) ?_
  intro p e s m args below meth c C hr hE
  replace C : Bd g RX11 cX11_tray 4 p s m args meth c := C
  unfold fX11_tray
  refine zs_aload_n (pc := 0) (k := 0) (i := 0) C (by decide +kernel) rfl rfl ?_
  refine zs_iload_n (pc := 1) (k := 1) (i := 1) C (by decide +kernel) rfl rfl ?_
  refine zs_cvTv (pc := 2) (As := [sI a0]) (st := []) C hE (c_X11_needTray l g hl a0) ml_RX11_358 rfl rfl rfl rfl (Nat.le_of_ble_eq_true rfl) ⟨Nat.le_of_ble_eq_true rfl, Nat.le_of_ble_eq_true rfl⟩ ⟨Nat.le_of_ble_eq_true rfl, Nat.le_of_ble_eq_true rfl⟩ ⟨Nat.le_of_ble_eq_true rfl, Nat.le_of_ble_eq_true rfl⟩ (by decide +kernel) ?_
  refine zs_aload_n (pc := 5) (k := 0) (i := 0) C (by decide +kernel) rfl rfl ?_
  refine zs_iload_n (pc := 6) (k := 2) (i := 2) C (by decide +kernel) rfl rfl ?_
  refine zs_iconst (pc := 7) (n := 0) (x := 0) C (by decide +kernel) (by decide +kernel) ?_
  refine zs_iconst (pc := 8) (n := 3) (x := 3) C (by decide +kernel) (by decide +kernel) ?_
  refine zs_cvTv (pc := 9) (As := [sI a1, sI 0, sI 3]) (st := []) C hE (c_X11_needWithin l g hl a1 0 3) ml_RX11_179 rfl rfl rfl rfl (Nat.le_of_ble_eq_true rfl) ⟨Nat.le_of_ble_eq_true rfl, Nat.le_of_ble_eq_true rfl⟩ ⟨Nat.le_of_ble_eq_true rfl, Nat.le_of_ble_eq_true rfl⟩ ⟨Nat.le_of_ble_eq_true rfl, Nat.le_of_ble_eq_true rfl⟩ (by decide +kernel) ?_
  refine zs_aload_n (pc := 12) (k := 0) (i := 0) C (by decide +kernel) rfl rfl ?_
  refine zs_iload_n (pc := 13) (k := 3) (i := 3) C (by decide +kernel) rfl rfl ?_
  refine zs_iconst (pc := 14) (n := 0) (x := 0) C (by decide +kernel) (by decide +kernel) ?_
  refine zs_bipush (pc := 15) (n := 30) (x := 30) C (by decide +kernel) (by decide +kernel) ?_
  refine zs_cvTv (pc := 17) (As := [sI a2, sI 0, sI 30]) (st := []) C hE (c_X11_needWithin l g hl a2 0 30) ml_RX11_179 rfl rfl rfl rfl (Nat.le_of_ble_eq_true rfl) ⟨Nat.le_of_ble_eq_true rfl, Nat.le_of_ble_eq_true rfl⟩ ⟨Nat.le_of_ble_eq_true rfl, Nat.le_of_ble_eq_true rfl⟩ ⟨Nat.le_of_ble_eq_true rfl, Nat.le_of_ble_eq_true rfl⟩ (by decide +kernel) ?_
  refine zs_aload_n (pc := 20) (k := 0) (i := 0) C (by decide +kernel) rfl rfl ?_
  refine zs_getR (o' := 88) (pc := 21) (i := 55) (ci := 11) (k := 9) C (by decide +kernel) fl_RX11_55 rfl rfl rfl ?_
  refine zs_iload_n (pc := 24) (k := 1) (i := 1) C (by decide +kernel) rfl rfl ?_
  refine zs_iload_n (pc := 25) (k := 2) (i := 2) C (by decide +kernel) rfl rfl ?_
  refine zs_iload_n (pc := 26) (k := 3) (i := 3) C (by decide +kernel) rfl rfl ?_
  refine zs_cvVv (pc := 27) (As := [sI a0, sI a1, sI a2]) (st := []) C (fun _ _ _ => rfl) (c_X9_lay l g a0 a1 a2) ml_RX11_361 rfl rfl rfl rfl (Nat.le_of_ble_eq_true rfl) ⟨Nat.le_of_ble_eq_true rfl, Nat.le_of_ble_eq_true rfl⟩ ⟨Nat.le_of_ble_eq_true rfl, Nat.le_of_ble_eq_true rfl⟩ (by decide +kernel) ?_
  exact zs_retTv (pc := 30) C hr ⟨Nat.le_of_ble_eq_true rfl, Nat.le_of_ble_eq_true rfl⟩ (by decide +kernel)
set_option maxRecDepth 20000 in
theorem c_X9_cut (l : Launch) (g : GC) (a0 : Int) (a1 : Int) : ConR l g yX9_cut cX9_cut 3 (some .long) (rmd 1 0 0) [sI a0, sL a1] (fun mm => fX9_cut a0 a1 mm) := by
  refine zs_ofR (by decide +kernel) (Nat.le_of_ble_eq_true rfl) ?_
  intro p e s m args below meth c C hr
  replace C : Bd g RX9 cX9_cut 3 p s m args meth c := C
  unfold fX9_cut
  refine zs_iload_n (pc := 0) (k := 0) (i := 0) C (by decide +kernel) rfl rfl ?_
  refine zs_ite (fun hc0 => ?_) (fun hc0 => ?_)
  · refine zs_tswI (pc := 1) (dflt := 41) (lo := 0) (hi := 2) (offs := #[27, 32, 37]) (len := 27) (i := 0) (off := 27) (tgt := 28) C (by decide +kernel) hc0 (by decide) rfl (by decide) ?_
    refine zs_lload_n (pc := 28) (k := 1) (i := 1) C (by decide +kernel) rfl rfl ?_
    refine zs_l2i (pc := 29) C (by decide +kernel) ?_
    refine zs_i2b (pc := 30) C (by decide +kernel) ?_
    refine zs_i2l (pc := 31) C (by decide +kernel) ?_
    exact zs_retRl (pc := 32) C hr ⟨Nat.le_of_ble_eq_true rfl, Nat.le_of_ble_eq_true rfl⟩ (by decide +kernel)
  · refine zs_ite (fun hc1 => ?_) (fun hc1 => ?_)
    · refine zs_tswI (pc := 1) (dflt := 41) (lo := 0) (hi := 2) (offs := #[27, 32, 37]) (len := 27) (i := 1) (off := 32) (tgt := 33) C (by decide +kernel) hc1 (by decide) rfl (by decide) ?_
      refine zs_lload_n (pc := 33) (k := 1) (i := 1) C (by decide +kernel) rfl rfl ?_
      refine zs_l2i (pc := 34) C (by decide +kernel) ?_
      refine zs_i2s (pc := 35) C (by decide +kernel) ?_
      refine zs_i2l (pc := 36) C (by decide +kernel) ?_
      exact zs_retRl (pc := 37) C hr ⟨Nat.le_of_ble_eq_true rfl, Nat.le_of_ble_eq_true rfl⟩ (by decide +kernel)
    · refine zs_ite (fun hc2 => ?_) (fun hc2 => ?_)
      · refine zs_tswI (pc := 1) (dflt := 41) (lo := 0) (hi := 2) (offs := #[27, 32, 37]) (len := 27) (i := 2) (off := 37) (tgt := 38) C (by decide +kernel) hc2 (by decide) rfl (by decide) ?_
        refine zs_lload_n (pc := 38) (k := 1) (i := 1) C (by decide +kernel) rfl rfl ?_
        refine zs_l2i (pc := 39) C (by decide +kernel) ?_
        refine zs_i2l (pc := 40) C (by decide +kernel) ?_
        exact zs_retRl (pc := 41) C hr ⟨Nat.le_of_ble_eq_true rfl, Nat.le_of_ble_eq_true rfl⟩ (by decide +kernel)
      · refine zs_tswD (pc := 1) (dflt := 41) (lo := 0) (hi := 2) (offs := #[27, 32, 37]) (len := 27) (tgt := 42) C (by decide +kernel) (by omega) (by decide) ?_
        refine zs_lload_n (pc := 42) (k := 1) (i := 1) C (by decide +kernel) rfl rfl ?_
        exact zs_retRl (pc := 43) C hr ⟨Nat.le_of_ble_eq_true rfl, Nat.le_of_ble_eq_true rfl⟩ (by decide +kernel)
set_option maxRecDepth 20000 in
theorem c_X9_put (l : Launch) (g : GC) (a0 : Int) (a1 : Int) (a2 : Int) : ConW l g yX9_put cX9_put 5 (some .long) (rmd 2 0 0) [sR 88, sI a0, sI a1, sL a2] (fun mm => fX9_put a0 a1 a2 mm) := by
  refine zs_ofW (by decide +kernel) (Nat.le_of_ble_eq_true rfl) ?_
  intro p e s m args below meth c C hr
  replace C : Bd g RX9 cX9_put 5 p s m args meth c := C
  unfold fX9_put
  refine zs_aload_n (pc := 0) (k := 0) (i := 0) C (by decide +kernel) rfl rfl ?_
  refine zs_getR (o' := 89) (pc := 1) (i := 13) (ci := 9) (k := 0) C (by decide +kernel) fl_RX9_13 rfl rfl rfl ?_
  refine zs_iload_n (pc := 4) (k := 1) (i := 1) C (by decide +kernel) rfl rfl ?_
  refine zs_aald (pc := 5) (o := 89) (t := 6) (n := 4) C (by decide) (by decide +kernel) rfl (ly_arr_6_4 rfl) (fun x1 hx1 => ?_)
  refine zs_iload_n (pc := 6) (k := 2) (i := 2) C (by decide +kernel) rfl rfl ?_
  refine zs_aload_n (pc := 7) (k := 0) (i := 0) C (by decide +kernel) rfl rfl ?_
  refine zs_getR (o' := 94) (pc := 8) (i := 16) (ci := 9) (k := 1) C (by decide +kernel) fl_RX9_16 rfl rfl rfl ?_
  refine zs_iload_n (pc := 11) (k := 1) (i := 1) C (by decide +kernel) rfl rfl ?_
  refine zs_iald (pc := 12) (o := 94) (n := 4) C (by decide +kernel) rfl (fun hinx2 x2 => ?_)
  refine zs_lload_n (pc := 13) (k := 3) (i := 3) C (by decide +kernel) rfl rfl ?_
  refine zs_csRl (pc := 14) (As := [sI x2, sL a2]) (st := [sI a1, sR x1]) C (c_X9_cut l g x2 a2) ml_RX9_32 rfl rfl (Nat.le_of_ble_eq_true rfl) ⟨Nat.le_of_ble_eq_true rfl, Nat.le_of_ble_eq_true rfl⟩ ⟨Nat.le_of_ble_eq_true rfl, Nat.le_of_ble_eq_true rfl⟩ (by decide +kernel) (fun x3 => ?_)
  refine zs_last (pc := 17) (o := x1) (n := 30) C (fun _ _ _ => rfl) (by decide +kernel) hx1 ?_
  refine zs_aload_n (pc := 18) (k := 0) (i := 0) C (by decide +kernel) rfl rfl ?_
  refine zs_getR (o' := 89) (pc := 19) (i := 13) (ci := 9) (k := 0) C (by decide +kernel) fl_RX9_13 rfl rfl rfl ?_
  refine zs_iload_n (pc := 22) (k := 1) (i := 1) C (by decide +kernel) rfl rfl ?_
  refine zs_aald (pc := 23) (o := 89) (t := 6) (n := 4) C (by decide) (by decide +kernel) rfl (ly_arr_6_4 rfl) (fun x4 hx4 => ?_)
  refine zs_iload_n (pc := 24) (k := 2) (i := 2) C (by decide +kernel) rfl rfl ?_
  refine zs_lald (pc := 25) (o := x4) (n := 30) C (by decide +kernel) hx4 (fun hinx5 x5 => ?_)
  exact zs_retWl (pc := 26) C hr ⟨Nat.le_of_ble_eq_true rfl, Nat.le_of_ble_eq_true rfl⟩ (by decide +kernel)
set_option maxRecDepth 20000 in
theorem c_X11_write (l : Launch) (g : GC) (hl : l.stackTraces = false) (a0 : Int) (a1 : Int) (a2 : Int) : ConT l g yX11_write cX11_write 5 (some .long) (rmd 9 3 18) [sR 0, sI a0, sI a1, sL a2] (fun mm => fX11_write a0 a1 a2 mm) := by
  refine zs_ofT (by decide +kernel) (Nat.le_of_ble_eq_true rfl) ?_
  intro p e s m args below meth c C hr hE
  replace C : Bd g RX11 cX11_write 5 p s m args meth c := C
  unfold fX11_write
  refine zs_aload_n (pc := 0) (k := 0) (i := 0) C (by decide +kernel) rfl rfl ?_
  refine zs_iload_n (pc := 1) (k := 1) (i := 1) C (by decide +kernel) rfl rfl ?_
  refine zs_cvTv (pc := 2) (As := [sI a0]) (st := []) C hE (c_X11_needRow l g hl a0) ml_RX11_224 rfl rfl rfl rfl (Nat.le_of_ble_eq_true rfl) ⟨Nat.le_of_ble_eq_true rfl, Nat.le_of_ble_eq_true rfl⟩ ⟨Nat.le_of_ble_eq_true rfl, Nat.le_of_ble_eq_true rfl⟩ ⟨Nat.le_of_ble_eq_true rfl, Nat.le_of_ble_eq_true rfl⟩ (by decide +kernel) ?_
  refine zs_iload_n (pc := 5) (k := 2) (i := 2) C (by decide +kernel) rfl rfl ?_
  refine zs_jn (pJ := 22) (kJ := 2) (sJ := 12) (fun t1 => []) (fun t1 => []) (fun t1 => ?_) (fun J2 hJ2 => ?_)
  · exact zs_throwW (pc := 22) (ik := 364) (is_ := 366) (ic := 368) (k := 4) C hE hl ⟨by decide, rfl⟩ ⟨by decide +kernel, by decide +kernel⟩ wf_1704 wf_172 (by decide +kernel) ex_RX11_368.1 ex_RX11_368.2 ⟨Nat.le_of_ble_eq_true rfl, Nat.le_of_ble_eq_true rfl, Nat.le_of_ble_eq_true rfl, Nat.le_of_ble_eq_true rfl⟩ ⟨Nat.le_of_ble_eq_true rfl, Nat.le_of_ble_eq_true rfl⟩ (by decide +kernel) (by decide +kernel) (by decide +kernel) (by decide +kernel) (by decide +kernel)
  · refine zs_if_lt (pc := 6) (off := 16) (tgt := 22) C (by decide +kernel) (by decide) ?_ ?_
    · exact zs_goj (hJ2 ()) trivial
    · refine zs_iload_n (pc := 9) (k := 2) (i := 2) C (by decide +kernel) rfl rfl ?_
      refine zs_aload_n (pc := 10) (k := 0) (i := 0) C (by decide +kernel) rfl rfl ?_
      refine zs_getR (o' := 88) (pc := 11) (i := 55) (ci := 11) (k := 9) C (by decide +kernel) fl_RX11_55 rfl rfl rfl ?_
      refine zs_getR (o' := 95) (pc := 14) (i := 227) (ci := 9) (k := 2) C (by decide +kernel) fl_RX11_227 rfl rfl rfl ?_
      refine zs_iload_n (pc := 17) (k := 1) (i := 1) C (by decide +kernel) rfl rfl ?_
      refine zs_iald (pc := 18) (o := 95) (n := 4) C (by decide +kernel) rfl (fun hinx3 x3 => ?_)
      refine zs_icmp_lt (pc := 19) (off := 14) (tgt := 33) C (by decide +kernel) (by decide) ?_ ?_
      · refine zs_aload_n (pc := 33) (k := 0) (i := 0) C (by decide +kernel) rfl rfl ?_
        refine zs_getR (o' := 88) (pc := 34) (i := 55) (ci := 11) (k := 9) C (by decide +kernel) fl_RX11_55 rfl rfl rfl ?_
        refine zs_iload_n (pc := 37) (k := 1) (i := 1) C (by decide +kernel) rfl rfl ?_
        refine zs_iload_n (pc := 38) (k := 2) (i := 2) C (by decide +kernel) rfl rfl ?_
        refine zs_lload_n (pc := 39) (k := 3) (i := 3) C (by decide +kernel) rfl rfl ?_
        refine zs_cvWl (pc := 40) (As := [sI a0, sI a1, sL a2]) (st := []) C (fun _ _ _ => rfl) (c_X9_put l g a0 a1 a2) ml_RX11_369 rfl rfl rfl rfl (Nat.le_of_ble_eq_true rfl) ⟨Nat.le_of_ble_eq_true rfl, Nat.le_of_ble_eq_true rfl⟩ ⟨Nat.le_of_ble_eq_true rfl, Nat.le_of_ble_eq_true rfl⟩ (by decide +kernel) (fun x4 => ?_)
        exact zs_retTl (pc := 43) C hr ⟨Nat.le_of_ble_eq_true rfl, Nat.le_of_ble_eq_true rfl⟩ (by decide +kernel)
      · exact zs_goj (hJ2 ()) trivial
set_option maxRecDepth 20000 in
theorem c_X11_copy (l : Launch) (g : GC) (hl : l.stackTraces = false) (a0 : Int) (a1 : Int) (a2 : Int) (a3 : Int) : ConT l g yX11_copy cX11_copy 8 (some .int) (rmd 9 6 36) [sR 0, sI a0, sI a1, sI a2, sI a3] (fun mm => fX11_copy a0 a1 a2 a3 mm) := by
  refine zs_ofT (by decide +kernel) (Nat.le_of_ble_eq_true rfl) ?_
  intro p e s m args below meth c C hr hE
  replace C : Bd g RX11 cX11_copy 8 p s m args meth c := C
  unfold fX11_copy
  refine zs_aload_n (pc := 0) (k := 0) (i := 0) C (by decide +kernel) rfl rfl ?_
  refine zs_iload_n (pc := 1) (k := 1) (i := 1) C (by decide +kernel) rfl rfl ?_
  refine zs_cvTv (pc := 2) (As := [sI a0]) (st := []) C hE (c_X11_needTray l g hl a0) ml_RX11_358 rfl rfl rfl rfl (Nat.le_of_ble_eq_true rfl) ⟨Nat.le_of_ble_eq_true rfl, Nat.le_of_ble_eq_true rfl⟩ ⟨Nat.le_of_ble_eq_true rfl, Nat.le_of_ble_eq_true rfl⟩ ⟨Nat.le_of_ble_eq_true rfl, Nat.le_of_ble_eq_true rfl⟩ (by decide +kernel) ?_
  refine zs_aload_n (pc := 5) (k := 0) (i := 0) C (by decide +kernel) rfl rfl ?_
  refine zs_iload_n (pc := 6) (k := 2) (i := 2) C (by decide +kernel) rfl rfl ?_
  refine zs_iload_n (pc := 7) (k := 3) (i := 3) C (by decide +kernel) rfl rfl ?_
  refine zs_iload (pc := 8) (i := 4) C (by decide +kernel) rfl ?_
  refine zs_cvTv (pc := 10) (As := [sI a1, sI a2, sI a3]) (st := []) C hE (c_X11_needWalk l g hl a1 a2 a3) ml_RX11_274 rfl rfl rfl rfl (Nat.le_of_ble_eq_true rfl) ⟨Nat.le_of_ble_eq_true rfl, Nat.le_of_ble_eq_true rfl⟩ ⟨Nat.le_of_ble_eq_true rfl, Nat.le_of_ble_eq_true rfl⟩ ⟨Nat.le_of_ble_eq_true rfl, Nat.le_of_ble_eq_true rfl⟩ (by decide +kernel) ?_
  refine zs_aload_n (pc := 13) (k := 0) (i := 0) C (by decide +kernel) rfl rfl ?_
  refine zs_iload_n (pc := 14) (k := 1) (i := 1) C (by decide +kernel) rfl rfl ?_
  refine zs_cvTv (pc := 15) (As := [sI a0]) (st := []) C hE (c_X11_needRow l g hl a0) ml_RX11_224 rfl rfl rfl rfl (Nat.le_of_ble_eq_true rfl) ⟨Nat.le_of_ble_eq_true rfl, Nat.le_of_ble_eq_true rfl⟩ ⟨Nat.le_of_ble_eq_true rfl, Nat.le_of_ble_eq_true rfl⟩ ⟨Nat.le_of_ble_eq_true rfl, Nat.le_of_ble_eq_true rfl⟩ (by decide +kernel) ?_
  refine zs_aload_n (pc := 18) (k := 0) (i := 0) C (by decide +kernel) rfl rfl ?_
  refine zs_getR (o' := 18) (pc := 19) (i := 33) (ci := 11) (k := 5) C (by decide +kernel) fl_RX11_33 rfl rfl rfl ?_
  refine zs_iload_n (pc := 22) (k := 2) (i := 2) C (by decide +kernel) rfl rfl ?_
  refine zs_cvVv (pc := 23) (As := [sI a1]) (st := []) C (fun _ _ _ => rfl) (c_X0_begin l g a1) ml_RX11_251 rfl rfl rfl rfl (Nat.le_of_ble_eq_true rfl) ⟨Nat.le_of_ble_eq_true rfl, Nat.le_of_ble_eq_true rfl⟩ ⟨Nat.le_of_ble_eq_true rfl, Nat.le_of_ble_eq_true rfl⟩ (by decide +kernel) ?_
  refine zs_aload_n (pc := 26) (k := 0) (i := 0) C (by decide +kernel) rfl rfl ?_
  refine zs_getR (o' := 18) (pc := 27) (i := 33) (ci := 11) (k := 5) C (by decide +kernel) fl_RX11_33 rfl rfl rfl ?_
  refine zs_iload_n (pc := 30) (k := 3) (i := 3) C (by decide +kernel) rfl rfl ?_
  refine zs_iload (pc := 31) (i := 4) C (by decide +kernel) rfl ?_
  refine zs_cvWi (pc := 33) (As := [sI a2, sI a3]) (st := []) C (fun _ _ _ => rfl) rfl (c_X0_findWay l g a2 a3) ml_RX11_285 rfl rfl rfl rfl (Nat.le_of_ble_eq_true rfl) ⟨Nat.le_of_ble_eq_true rfl, Nat.le_of_ble_eq_true rfl⟩ ⟨Nat.le_of_ble_eq_true rfl, Nat.le_of_ble_eq_true rfl⟩ (by decide +kernel) (fun x1 => ?_)
  refine zs_istore (pc := 36) (i := 5) (ls' := [(5, sI x1), (0, sR 0), (1, sI a0), (2, sI a1), (3, sI a2), (4, sI a3)]) C (by decide +kernel) (Nat.le_of_ble_eq_true rfl) rfl ?_
  refine zs_iload (pc := 38) (i := 5) C (by decide +kernel) rfl ?_
  refine zs_aload_n (pc := 40) (k := 0) (i := 0) C (by decide +kernel) rfl rfl ?_
  refine zs_getR (o' := 88) (pc := 41) (i := 55) (ci := 11) (k := 9) C (by decide +kernel) fl_RX11_55 rfl rfl rfl ?_
  refine zs_getR (o' := 95) (pc := 44) (i := 227) (ci := 9) (k := 2) C (by decide +kernel) fl_RX11_227 rfl rfl rfl ?_
  refine zs_iload_n (pc := 47) (k := 1) (i := 1) C (by decide +kernel) rfl rfl ?_
  refine zs_iald (pc := 48) (o := 95) (n := 4) C (by decide +kernel) rfl (fun hinx2 x2 => ?_)
  refine zs_mmin (pc := 49) (idx := 373) C wf_1734 wf_717 wf_166 wf_718 ⟨Nat.le_of_ble_eq_true rfl, Nat.le_of_ble_eq_true rfl, Nat.zero_le _, Nat.zero_le _⟩ (by decide +kernel) ?_
  refine zs_let (fun x3 => ?_)
  refine zs_istore (pc := 52) (i := 6) (ls' := [(6, sI x3), (5, sI x1), (0, sR 0), (1, sI a0), (2, sI a1), (3, sI a2), (4, sI a3)]) C (by decide +kernel) (Nat.le_of_ble_eq_true rfl) rfl ?_
  refine zs_iconst (pc := 54) (n := 0) (x := 0) C (by decide +kernel) (by decide +kernel) ?_
  refine zs_istore (pc := 55) (i := 7) (ls' := [(7, sI 0), (6, sI x3), (5, sI x1), (0, sR 0), (1, sI a0), (2, sI a1), (3, sI a2), (4, sI a3)]) C (by decide +kernel) (Nat.le_of_ble_eq_true rfl) rfl ?_
  refine zs_sub (ls' := [(0, sR 0), (1, sI a0), (2, sI a1), (6, sI x3), (7, sI 0)]) ⟨rfl, rfl, rfl, rfl, rfl, trivial⟩ ?_
  refine zs_lp (pc := 57) (fun (t4 : Int) => [(0, sR 0), (1, sI a0), (2, sI a1), (6, sI x3), (7, sI t4)]) (fun _ => []) (fun K5 hK5 t4 => ?_) BIG 0
  refine zs_iload (pc := 57) (i := 7) C (by decide +kernel) rfl ?_
  refine zs_iload (pc := 59) (i := 6) C (by decide +kernel) rfl ?_
  refine zs_icmp_ge (pc := 61) (off := 38) (tgt := 99) C (by decide +kernel) (by decide) ?_ ?_
  · refine zs_iload (pc := 99) (i := 6) C (by decide +kernel) rfl ?_
    exact zs_retTi (pc := 101) C hr ⟨Nat.le_of_ble_eq_true rfl, Nat.le_of_ble_eq_true rfl⟩ (by decide +kernel)
  · refine zs_aload_n (pc := 64) (k := 0) (i := 0) C (by decide +kernel) rfl rfl ?_
    refine zs_getR (o' := 88) (pc := 65) (i := 55) (ci := 11) (k := 9) C (by decide +kernel) fl_RX11_55 rfl rfl rfl ?_
    refine zs_iload_n (pc := 68) (k := 1) (i := 1) C (by decide +kernel) rfl rfl ?_
    refine zs_iload (pc := 69) (i := 7) C (by decide +kernel) rfl ?_
    refine zs_bipush (pc := 71) (n := 100) (x := 100) C (by decide +kernel) (by decide +kernel) ?_
    refine zs_iload_n (pc := 73) (k := 2) (i := 2) C (by decide +kernel) rfl rfl ?_
    refine zs_imul (pc := 74) C (by decide +kernel) ?_
    refine zs_aload_n (pc := 75) (k := 0) (i := 0) C (by decide +kernel) rfl rfl ?_
    refine zs_getR (o' := 18) (pc := 76) (i := 33) (ci := 11) (k := 5) C (by decide +kernel) fl_RX11_33 rfl rfl rfl ?_
    refine zs_getR (o' := 85) (pc := 79) (i := 288) (ci := 0) (k := 8) C (by decide +kernel) fl_RX11_288 rfl rfl rfl ?_
    refine zs_iload (pc := 82) (i := 7) C (by decide +kernel) rfl ?_
    refine zs_iconst (pc := 84) (n := 1) (x := 1) C (by decide +kernel) (by decide +kernel) ?_
    refine zs_iadd (pc := 85) C (by decide +kernel) ?_
    refine zs_iald (pc := 86) (o := 85) (n := 41) C (by decide +kernel) rfl (fun hinx6 x6 => ?_)
    refine zs_iadd (pc := 87) C (by decide +kernel) ?_
    refine zs_i2l (pc := 88) C (by decide +kernel) ?_
    refine zs_cvWl (pc := 89) (As := [sI a0, sI t4, sL (w32 ((w32 (100 * a1)) + x6))]) (st := []) C (fun _ _ _ => rfl) (c_X9_put l g a0 t4 (w32 ((w32 (100 * a1)) + x6))) ml_RX11_369 rfl rfl rfl rfl (Nat.le_of_ble_eq_true rfl) ⟨Nat.le_of_ble_eq_true rfl, Nat.le_of_ble_eq_true rfl⟩ ⟨Nat.le_of_ble_eq_true rfl, Nat.le_of_ble_eq_true rfl⟩ (by decide +kernel) (fun x7 => ?_)
    refine zs_pop2 (pc := 92) C (by decide +kernel) ?_
    refine zs_iinc (pc := 93) (i := 7) (n := 1) (y := w32 (t4 + 1)) (ls' := [(7, sI (w32 (t4 + 1))), (0, sR 0), (1, sI a0), (2, sI a1), (6, sI x3)]) C (by decide +kernel) rfl rfl (Nat.le_of_ble_eq_true rfl) rfl ?_
    refine zs_goto (pc := 96) (off := (-39)) (tgt := 57) C (by decide +kernel) (by decide) ?_
    exact zs_goj (hK5 (w32 (t4 + 1))) ⟨rfl, rfl, rfl, rfl, rfl, trivial⟩
set_option maxRecDepth 20000 in
theorem c_X11_needImage (l : Launch) (g : GC) (hl : l.stackTraces = false) (a0 : Int) : ConT l g yX11_needImage cX11_needImage 2 none (rmd 7 1 6) [sR 0, sI a0] (fun mm => fX11_needImage a0 mm) := by
  refine zs_ofT (by decide +kernel) (Nat.le_of_ble_eq_true rfl) ?_
  intro p e s m args below meth c C hr hE
  replace C : Bd g RX11 cX11_needImage 2 p s m args meth c := C
  unfold fX11_needImage
  refine zs_iload_n (pc := 0) (k := 1) (i := 1) C (by decide +kernel) rfl rfl ?_
  refine zs_jn (pJ := 9) (kJ := 0) (sJ := 0) (fun t1 => []) (fun t1 => []) (fun t1 => ?_) (fun J2 hJ2 => ?_)
  · exact zs_throwNW (pc := 9) (ik := 171) (is_ := 414) (ic := 175) (k := 3) (ix := 13) (rx := prog_34_method_4_code) (Y1 := "java/lang/RuntimeException") C hE hl ⟨by decide, rfl⟩ ⟨by decide +kernel, by decide +kernel, by decide +kernel⟩ wf_1119 wf_169 (by decide +kernel) ex_RX11_175.1 ex_RX11_175.2 (by decide +kernel) (by decide +kernel) (by decide +kernel) (by decide +kernel) ⟨Nat.le_of_ble_eq_true rfl, Nat.le_of_ble_eq_true rfl, Nat.le_of_ble_eq_true rfl, Nat.le_of_ble_eq_true rfl⟩ ⟨Nat.le_of_ble_eq_true rfl, Nat.le_of_ble_eq_true rfl⟩ (by decide +kernel) (by decide +kernel) (by decide +kernel) (by decide +kernel) (by decide +kernel)
  · refine zs_if_lt (pc := 1) (off := 8) (tgt := 9) C (by decide +kernel) (by decide) ?_ ?_
    · exact zs_goj (hJ2 ()) trivial
    · refine zs_iload_n (pc := 4) (k := 1) (i := 1) C (by decide +kernel) rfl rfl ?_
      refine zs_iconst (pc := 5) (n := 3) (x := 3) C (by decide +kernel) (by decide +kernel) ?_
      refine zs_icmp_lt (pc := 6) (off := 14) (tgt := 20) C (by decide +kernel) (by decide) ?_ ?_
      · exact zs_retTv (pc := 20) C hr ⟨Nat.le_of_ble_eq_true rfl, Nat.le_of_ble_eq_true rfl⟩ (by decide +kernel)
      · exact zs_goj (hJ2 ()) trivial
set_option maxRecDepth 20000 in
theorem c_X4_copyFrom (l : Launch) (g : GC) (o : Nat) (a0 : Nat) (h0 : layL[o]? = some (.inl 4)) (h0_ : layL[a0]? = some (.inl 4)) : ConV l g yX4_copyFrom cX4_copyFrom 2 (rmd 1 0 0) [sR o, sR a0] (fun mm => fX4_copyFrom o a0 mm) := by
  refine zs_ofV (by decide +kernel) (Nat.le_of_ble_eq_true rfl) ?_
  intro p e s m args below meth c C hr
  replace C : Bd g RX4 cX4_copyFrom 2 p s m args meth c := C
  unfold fX4_copyFrom
  refine zs_aload_n (pc := 0) (k := 1) (i := 1) C (by decide +kernel) rfl rfl ?_
  refine zs_getR (o' := (a0 + 1)) (pc := 1) (i := 9) (ci := 4) (k := 0) C (by decide +kernel) fl_RX4_9 h0_ rfl rfl ?_
  refine zs_iconst (pc := 4) (n := 0) (x := 0) C (by decide +kernel) (by decide +kernel) ?_
  refine zs_aload_n (pc := 5) (k := 0) (i := 0) C (by decide +kernel) rfl rfl ?_
  refine zs_getR (o' := (o + 1)) (pc := 6) (i := 9) (ci := 4) (k := 0) C (by decide +kernel) fl_RX4_9 h0 rfl rfl ?_
  refine zs_iconst (pc := 9) (n := 0) (x := 0) C (by decide +kernel) (by decide +kernel) ?_
  refine zs_aload_n (pc := 10) (k := 1) (i := 1) C (by decide +kernel) rfl rfl ?_
  refine zs_getI (pc := 11) (i := 15) (ci := 4) (k := 1) C (by decide +kernel) fl_RX4_15 h0_ rfl (fun x1 => ?_)
  refine zs_copyi (pc := 14) (idx := 40) (o0 := (a0 + 1)) (o1 := (o + 1)) (n0 := 900) (n1 := 900) C (fun _ _ _ => rfl) wf_1105 wf_715 wf_714 wf_168 ⟨Nat.le_of_ble_eq_true rfl, Nat.le_of_ble_eq_true rfl⟩ (ly_o_4_1 h0_) (ly_o_4_1 h0) (by decide +kernel) ?_
  refine zs_aload_n (pc := 17) (k := 0) (i := 0) C (by decide +kernel) rfl rfl ?_
  refine zs_aload_n (pc := 18) (k := 1) (i := 1) C (by decide +kernel) rfl rfl ?_
  refine zs_getI (pc := 19) (i := 15) (ci := 4) (k := 1) C (by decide +kernel) fl_RX4_15 h0_ rfl (fun x2 => ?_)
  refine zs_putI (pc := 22) (i := 15) (ci := 4) (k := 1) C (fun _ _ _ => rfl) (by decide +kernel) fl_RX4_15 fw_4_1 h0 rfl ?_
  refine zs_aload_n (pc := 25) (k := 0) (i := 0) C (by decide +kernel) rfl rfl ?_
  refine zs_aload_n (pc := 26) (k := 1) (i := 1) C (by decide +kernel) rfl rfl ?_
  refine zs_getI (pc := 27) (i := 25) (ci := 4) (k := 4) C (by decide +kernel) fl_RX4_25 h0_ rfl (fun x3 => ?_)
  refine zs_putZ (pc := 30) (i := 25) (ci := 4) (k := 4) C (fun _ _ _ => rfl) (by decide +kernel) fl_RX4_25 fw_4_4 h0 rfl ?_
  refine zs_aload_n (pc := 33) (k := 0) (i := 0) C (by decide +kernel) rfl rfl ?_
  refine zs_aload_n (pc := 34) (k := 1) (i := 1) C (by decide +kernel) rfl rfl ?_
  refine zs_getI (pc := 35) (i := 29) (ci := 4) (k := 5) C (by decide +kernel) fl_RX4_29 h0_ rfl (fun x4 => ?_)
  refine zs_putZ (pc := 38) (i := 29) (ci := 4) (k := 5) C (fun _ _ _ => rfl) (by decide +kernel) fl_RX4_29 fw_4_5 h0 rfl ?_
  refine zs_aload_n (pc := 41) (k := 0) (i := 0) C (by decide +kernel) rfl rfl ?_
  refine zs_aload_n (pc := 42) (k := 1) (i := 1) C (by decide +kernel) rfl rfl ?_
  refine zs_getI (pc := 43) (i := 32) (ci := 4) (k := 6) C (by decide +kernel) fl_RX4_32 h0_ rfl (fun x5 => ?_)
  refine zs_putZ (pc := 46) (i := 32) (ci := 4) (k := 6) C (fun _ _ _ => rfl) (by decide +kernel) fl_RX4_32 fw_4_6 h0 rfl ?_
  exact zs_retVv (pc := 49) C hr ⟨Nat.le_of_ble_eq_true rfl, Nat.le_of_ble_eq_true rfl⟩ (by decide +kernel)
set_option maxRecDepth 20000 in
theorem c_X3_copyFrom (l : Launch) (g : GC) (o : Nat) (a0 : Nat) (h0 : layL[o]? = some (.inl 3)) (h0_ : layL[a0]? = some (.inl 3)) : ConV l g yX3_copyFrom cX3_copyFrom 2 (rmd 2 0 0) [sR o, sR a0] (fun mm => fX3_copyFrom o a0 mm) := by
  refine zs_ofV (by decide +kernel) (Nat.le_of_ble_eq_true rfl) ?_
  intro p e s m args below meth c C hr
  replace C : Bd g RX3 cX3_copyFrom 2 p s m args meth c := C
  unfold fX3_copyFrom
  refine zs_aload_n (pc := 0) (k := 0) (i := 0) C (by decide +kernel) rfl rfl ?_
  refine zs_aload_n (pc := 1) (k := 1) (i := 1) C (by decide +kernel) rfl rfl ?_
  refine zs_getI (pc := 2) (i := 9) (ci := 3) (k := 0) C (by decide +kernel) fl_RX3_9 h0_ rfl (fun x1 => ?_)
  refine zs_putI (pc := 5) (i := 9) (ci := 3) (k := 0) C (fun _ _ _ => rfl) (by decide +kernel) fl_RX3_9 fw_3_0 h0 rfl ?_
  refine zs_aload_n (pc := 8) (k := 0) (i := 0) C (by decide +kernel) rfl rfl ?_
  refine zs_aload_n (pc := 9) (k := 1) (i := 1) C (by decide +kernel) rfl rfl ?_
  refine zs_getI (pc := 10) (i := 15) (ci := 3) (k := 1) C (by decide +kernel) fl_RX3_15 h0_ rfl (fun x2 => ?_)
  refine zs_putI (pc := 13) (i := 15) (ci := 3) (k := 1) C (fun _ _ _ => rfl) (by decide +kernel) fl_RX3_15 fw_3_1 h0 rfl ?_
  refine zs_aload_n (pc := 16) (k := 0) (i := 0) C (by decide +kernel) rfl rfl ?_
  refine zs_aload_n (pc := 17) (k := 1) (i := 1) C (by decide +kernel) rfl rfl ?_
  refine zs_getI (pc := 18) (i := 18) (ci := 3) (k := 2) C (by decide +kernel) fl_RX3_18 h0_ rfl (fun x3 => ?_)
  refine zs_putI (pc := 21) (i := 18) (ci := 3) (k := 2) C (fun _ _ _ => rfl) (by decide +kernel) fl_RX3_18 fw_3_2 h0 rfl ?_
  refine zs_aload_n (pc := 24) (k := 0) (i := 0) C (by decide +kernel) rfl rfl ?_
  refine zs_aload_n (pc := 25) (k := 1) (i := 1) C (by decide +kernel) rfl rfl ?_
  refine zs_getI (pc := 26) (i := 21) (ci := 3) (k := 3) C (by decide +kernel) fl_RX3_21 h0_ rfl (fun x4 => ?_)
  refine zs_putI (pc := 29) (i := 21) (ci := 3) (k := 3) C (fun _ _ _ => rfl) (by decide +kernel) fl_RX3_21 fw_3_3 h0 rfl ?_
  refine zs_aload_n (pc := 32) (k := 0) (i := 0) C (by decide +kernel) rfl rfl ?_
  refine zs_aload_n (pc := 33) (k := 1) (i := 1) C (by decide +kernel) rfl rfl ?_
  refine zs_getI (pc := 34) (i := 24) (ci := 3) (k := 4) C (by decide +kernel) fl_RX3_24 h0_ rfl (fun x5 => ?_)
  refine zs_putI (pc := 37) (i := 24) (ci := 3) (k := 4) C (fun _ _ _ => rfl) (by decide +kernel) fl_RX3_24 fw_3_4 h0 rfl ?_
  refine zs_aload_n (pc := 40) (k := 0) (i := 0) C (by decide +kernel) rfl rfl ?_
  refine zs_aload_n (pc := 41) (k := 1) (i := 1) C (by decide +kernel) rfl rfl ?_
  refine zs_getI (pc := 42) (i := 27) (ci := 3) (k := 5) C (by decide +kernel) fl_RX3_27 h0_ rfl (fun x6 => ?_)
  refine zs_putI (pc := 45) (i := 27) (ci := 3) (k := 5) C (fun _ _ _ => rfl) (by decide +kernel) fl_RX3_27 fw_3_5 h0 rfl ?_
  refine zs_aload_n (pc := 48) (k := 1) (i := 1) C (by decide +kernel) rfl rfl ?_
  refine zs_getR (o' := (a0 + 1)) (pc := 49) (i := 30) (ci := 3) (k := 6) C (by decide +kernel) fl_RX3_30 h0_ rfl rfl ?_
  refine zs_iconst (pc := 52) (n := 0) (x := 0) C (by decide +kernel) (by decide +kernel) ?_
  refine zs_aload_n (pc := 53) (k := 0) (i := 0) C (by decide +kernel) rfl rfl ?_
  refine zs_getR (o' := (o + 1)) (pc := 54) (i := 30) (ci := 3) (k := 6) C (by decide +kernel) fl_RX3_30 h0 rfl rfl ?_
  refine zs_iconst (pc := 57) (n := 0) (x := 0) C (by decide +kernel) (by decide +kernel) ?_
  refine zs_bipush (pc := 58) (n := 8) (x := 8) C (by decide +kernel) (by decide +kernel) ?_
  refine zs_copyi (pc := 60) (idx := 50) (o0 := (a0 + 1)) (o1 := (o + 1)) (n0 := 8) (n1 := 8) C (fun _ _ _ => rfl) wf_1100 wf_715 wf_714 wf_168 ⟨Nat.le_of_ble_eq_true rfl, Nat.le_of_ble_eq_true rfl⟩ (ly_o_3_1 h0_) (ly_o_3_1 h0) (by decide +kernel) ?_
  refine zs_aload_n (pc := 63) (k := 1) (i := 1) C (by decide +kernel) rfl rfl ?_
  refine zs_getR (o' := (a0 + 2)) (pc := 64) (i := 34) (ci := 3) (k := 7) C (by decide +kernel) fl_RX3_34 h0_ rfl rfl ?_
  refine zs_iconst (pc := 67) (n := 0) (x := 0) C (by decide +kernel) (by decide +kernel) ?_
  refine zs_aload_n (pc := 68) (k := 0) (i := 0) C (by decide +kernel) rfl rfl ?_
  refine zs_getR (o' := (o + 2)) (pc := 69) (i := 34) (ci := 3) (k := 7) C (by decide +kernel) fl_RX3_34 h0 rfl rfl ?_
  refine zs_iconst (pc := 72) (n := 0) (x := 0) C (by decide +kernel) (by decide +kernel) ?_
  refine zs_iconst (pc := 73) (n := 4) (x := 4) C (by decide +kernel) (by decide +kernel) ?_
  refine zs_copyi (pc := 74) (idx := 50) (o0 := (a0 + 2)) (o1 := (o + 2)) (n0 := 4) (n1 := 4) C (fun _ _ _ => rfl) wf_1100 wf_715 wf_714 wf_168 ⟨Nat.le_of_ble_eq_true rfl, Nat.le_of_ble_eq_true rfl⟩ (ly_o_3_2 h0_) (ly_o_3_2 h0) (by decide +kernel) ?_
  refine zs_aload_n (pc := 77) (k := 0) (i := 0) C (by decide +kernel) rfl rfl ?_
  refine zs_getR (o' := (o + 3)) (pc := 78) (i := 40) (ci := 3) (k := 8) C (by decide +kernel) fl_RX3_40 h0 rfl rfl ?_
  refine zs_aload_n (pc := 81) (k := 1) (i := 1) C (by decide +kernel) rfl rfl ?_
  refine zs_getR (o' := (a0 + 3)) (pc := 82) (i := 40) (ci := 3) (k := 8) C (by decide +kernel) fl_RX3_40 h0_ rfl rfl ?_
  refine zs_cvVv (pc := 85) (As := [sR (a0 + 3)]) (st := []) C (fun _ _ _ => rfl) (c_X4_copyFrom l g (o + 3) (a0 + 3) (ly_o_3_3 h0) (ly_o_3_3 h0_)) ml_RX3_56 (ly_o_3_3 h0) rfl rfl rfl (Nat.le_of_ble_eq_true rfl) ⟨Nat.le_of_ble_eq_true rfl, Nat.le_of_ble_eq_true rfl⟩ ⟨Nat.le_of_ble_eq_true rfl, Nat.le_of_ble_eq_true rfl⟩ (by decide +kernel) ?_
  refine zs_aload_n (pc := 88) (k := 0) (i := 0) C (by decide +kernel) rfl rfl ?_
  refine zs_getR (o' := (o + 5)) (pc := 89) (i := 44) (ci := 3) (k := 9) C (by decide +kernel) fl_RX3_44 h0 rfl rfl ?_
  refine zs_aload_n (pc := 92) (k := 1) (i := 1) C (by decide +kernel) rfl rfl ?_
  refine zs_getR (o' := (a0 + 5)) (pc := 93) (i := 44) (ci := 3) (k := 9) C (by decide +kernel) fl_RX3_44 h0_ rfl rfl ?_
  refine zs_cvVv (pc := 96) (As := [sR (a0 + 5)]) (st := []) C (fun _ _ _ => rfl) (c_X4_copyFrom l g (o + 5) (a0 + 5) (ly_o_3_5 h0) (ly_o_3_5 h0_)) ml_RX3_56 (ly_o_3_5 h0) rfl rfl rfl (Nat.le_of_ble_eq_true rfl) ⟨Nat.le_of_ble_eq_true rfl, Nat.le_of_ble_eq_true rfl⟩ ⟨Nat.le_of_ble_eq_true rfl, Nat.le_of_ble_eq_true rfl⟩ (by decide +kernel) ?_
  exact zs_retVv (pc := 99) C hr ⟨Nat.le_of_ble_eq_true rfl, Nat.le_of_ble_eq_true rfl⟩ (by decide +kernel)
set_option maxRecDepth 20000 in
theorem c_X10_copyFrom (l : Launch) (g : GC) (o : Nat) (a0 : Nat) (h0 : layL[o]? = some (.inl 10)) (h0_ : layL[a0]? = some (.inl 10)) : ConV l g yX10_copyFrom cX10_copyFrom 3 (rmd 3 0 0) [sR o, sR a0] (fun mm => fX10_copyFrom o a0 mm) := by
  refine zs_ofV (by decide +kernel) (Nat.le_of_ble_eq_true rfl) ?_
  intro p e s m args below meth c C hr
  replace C : Bd g RX10 cX10_copyFrom 3 p s m args meth c := C
  unfold fX10_copyFrom
  refine zs_aload_n (pc := 0) (k := 0) (i := 0) C (by decide +kernel) rfl rfl ?_
  refine zs_getR (o' := (o + 1)) (pc := 1) (i := 12) (ci := 10) (k := 0) C (by decide +kernel) fl_RX10_12 h0 rfl rfl ?_
  refine zs_aload_n (pc := 4) (k := 1) (i := 1) C (by decide +kernel) rfl rfl ?_
  refine zs_getR (o' := (a0 + 1)) (pc := 5) (i := 12) (ci := 10) (k := 0) C (by decide +kernel) fl_RX10_12 h0_ rfl rfl ?_
  refine zs_cvVv (pc := 8) (As := [sR (a0 + 1)]) (st := []) C (fun _ _ _ => rfl) (c_X3_copyFrom l g (o + 1) (a0 + 1) (ly_o_10_1 h0) (ly_o_10_1 h0_)) ml_RX10_52 (ly_o_10_1 h0) rfl rfl rfl (Nat.le_of_ble_eq_true rfl) ⟨Nat.le_of_ble_eq_true rfl, Nat.le_of_ble_eq_true rfl⟩ ⟨Nat.le_of_ble_eq_true rfl, Nat.le_of_ble_eq_true rfl⟩ (by decide +kernel) ?_
  refine zs_aload_n (pc := 11) (k := 0) (i := 0) C (by decide +kernel) rfl rfl ?_
  refine zs_getR (o' := (o + 8)) (pc := 12) (i := 21) (ci := 10) (k := 1) C (by decide +kernel) fl_RX10_21 h0 rfl rfl ?_
  refine zs_aload_n (pc := 15) (k := 1) (i := 1) C (by decide +kernel) rfl rfl ?_
  refine zs_getR (o' := (a0 + 8)) (pc := 16) (i := 21) (ci := 10) (k := 1) C (by decide +kernel) fl_RX10_21 h0_ rfl rfl ?_
  refine zs_cvVv (pc := 19) (As := [sR (a0 + 8)]) (st := []) C (fun _ _ _ => rfl) (c_X5_copyFrom l g (o + 8) (a0 + 8) (ly_o_10_8 h0) (ly_o_10_8 h0_)) ml_RX10_56 (ly_o_10_8 h0) rfl rfl rfl (Nat.le_of_ble_eq_true rfl) ⟨Nat.le_of_ble_eq_true rfl, Nat.le_of_ble_eq_true rfl⟩ ⟨Nat.le_of_ble_eq_true rfl, Nat.le_of_ble_eq_true rfl⟩ (by decide +kernel) ?_
  refine zs_aload_n (pc := 22) (k := 0) (i := 0) C (by decide +kernel) rfl rfl ?_
  refine zs_aload_n (pc := 23) (k := 1) (i := 1) C (by decide +kernel) rfl rfl ?_
  refine zs_getI (pc := 24) (i := 25) (ci := 10) (k := 2) C (by decide +kernel) fl_RX10_25 h0_ rfl (fun x1 => ?_)
  refine zs_putI (pc := 27) (i := 25) (ci := 10) (k := 2) C (fun _ _ _ => rfl) (by decide +kernel) fl_RX10_25 fw_10_2 h0 rfl ?_
  refine zs_aload_n (pc := 30) (k := 0) (i := 0) C (by decide +kernel) rfl rfl ?_
  refine zs_aload_n (pc := 31) (k := 1) (i := 1) C (by decide +kernel) rfl rfl ?_
  refine zs_getI (pc := 32) (i := 32) (ci := 10) (k := 4) C (by decide +kernel) fl_RX10_32 h0_ rfl (fun x2 => ?_)
  refine zs_putI (pc := 35) (i := 32) (ci := 10) (k := 4) C (fun _ _ _ => rfl) (by decide +kernel) fl_RX10_32 fw_10_4 h0 rfl ?_
  refine zs_iconst (pc := 38) (n := 0) (x := 0) C (by decide +kernel) (by decide +kernel) ?_
  refine zs_istore_n (pc := 39) (k := 2) (i := 2) (ls' := [(2, sI 0), (0, sR o), (1, sR a0)]) C (by decide +kernel) rfl (Nat.le_of_ble_eq_true rfl) rfl ?_
  refine zs_sub (ls' := [(0, sR o), (1, sR a0), (2, sI 0)]) ⟨rfl, rfl, rfl, trivial⟩ ?_
  refine zs_lp (pc := 40) (fun (t3 : Int) => [(0, sR o), (1, sR a0), (2, sI t3)]) (fun _ => []) (fun K4 hK4 t3 => ?_) BIG 0
  refine zs_iload_n (pc := 40) (k := 2) (i := 2) C (by decide +kernel) rfl rfl ?_
  refine zs_bipush (pc := 41) (n := 10) (x := 10) C (by decide +kernel) (by decide +kernel) ?_
  refine zs_icmp_ge (pc := 43) (off := 24) (tgt := 67) C (by decide +kernel) (by decide) ?_ ?_
  · exact zs_retVv (pc := 67) C hr ⟨Nat.le_of_ble_eq_true rfl, Nat.le_of_ble_eq_true rfl⟩ (by decide +kernel)
  · refine zs_aload_n (pc := 46) (k := 0) (i := 0) C (by decide +kernel) rfl rfl ?_
    refine zs_getR (o' := (o + 12)) (pc := 47) (i := 35) (ci := 10) (k := 5) C (by decide +kernel) fl_RX10_35 h0 rfl rfl ?_
    refine zs_iload_n (pc := 50) (k := 2) (i := 2) C (by decide +kernel) rfl rfl ?_
    refine zs_aald (pc := 51) (o := (o + 12)) (t := 4) (n := 10) C (by decide) (by decide +kernel) (ly_o_10_12 h0) (ly_arr_4_10 (ly_o_10_12 h0)) (fun x5 hx5 => ?_)
    refine zs_aload_n (pc := 52) (k := 1) (i := 1) C (by decide +kernel) rfl rfl ?_
    refine zs_getR (o' := (a0 + 12)) (pc := 53) (i := 35) (ci := 10) (k := 5) C (by decide +kernel) fl_RX10_35 h0_ rfl rfl ?_
    refine zs_iload_n (pc := 56) (k := 2) (i := 2) C (by decide +kernel) rfl rfl ?_
    refine zs_aald (pc := 57) (o := (a0 + 12)) (t := 4) (n := 10) C (by decide) (by decide +kernel) (ly_o_10_12 h0_) (ly_arr_4_10 (ly_o_10_12 h0_)) (fun x6 hx6 => ?_)
    refine zs_cvVv (pc := 58) (As := [sR x6]) (st := []) C (fun _ _ _ => rfl) (c_X5_copyFrom l g x5 x6 hx5 hx6) ml_RX10_56 hx5 rfl rfl rfl (Nat.le_of_ble_eq_true rfl) ⟨Nat.le_of_ble_eq_true rfl, Nat.le_of_ble_eq_true rfl⟩ ⟨Nat.le_of_ble_eq_true rfl, Nat.le_of_ble_eq_true rfl⟩ (by decide +kernel) ?_
    refine zs_iinc (pc := 61) (i := 2) (n := 1) (y := w32 (t3 + 1)) (ls' := [(2, sI (w32 (t3 + 1))), (0, sR o), (1, sR a0)]) C (by decide +kernel) rfl rfl (Nat.le_of_ble_eq_true rfl) rfl ?_
    refine zs_goto (pc := 64) (off := (-24)) (tgt := 40) C (by decide +kernel) (by decide) ?_
    exact zs_goj (hK4 (w32 (t3 + 1))) ⟨rfl, rfl, rfl, trivial⟩
set_option maxRecDepth 20000 in
theorem c_X11_image (l : Launch) (g : GC) (hl : l.stackTraces = false) (a0 : Int) : ConT l g yX11_image cX11_image 2 none (rmd 8 1 6) [sR 0, sI a0] (fun mm => fX11_image a0 mm) := by
  refine zs_ofT (by decide +kernel) (Nat.le_of_ble_eq_true rfl) ?_
  intro p e s m args below meth c C hr hE
  replace C : Bd g RX11 cX11_image 2 p s m args meth c := C
  unfold fX11_image
  refine zs_aload_n (pc := 0) (k := 0) (i := 0) C (by decide +kernel) rfl rfl ?_
  refine zs_iload_n (pc := 1) (k := 1) (i := 1) C (by decide +kernel) rfl rfl ?_
  refine zs_cvTv (pc := 2) (As := [sI a0]) (st := []) C hE (c_X11_needImage l g hl a0) ml_RX11_378 rfl rfl rfl rfl (Nat.le_of_ble_eq_true rfl) ⟨Nat.le_of_ble_eq_true rfl, Nat.le_of_ble_eq_true rfl⟩ ⟨Nat.le_of_ble_eq_true rfl, Nat.le_of_ble_eq_true rfl⟩ ⟨Nat.le_of_ble_eq_true rfl, Nat.le_of_ble_eq_true rfl⟩ (by decide +kernel) ?_
  refine zs_aload_n (pc := 5) (k := 0) (i := 0) C (by decide +kernel) rfl rfl ?_
  refine zs_getR (o' := 86) (pc := 6) (i := 44) (ci := 11) (k := 7) C (by decide +kernel) fl_RX11_44 rfl rfl rfl ?_
  refine zs_iload_n (pc := 9) (k := 1) (i := 1) C (by decide +kernel) rfl rfl ?_
  refine zs_aald (pc := 10) (o := 86) (t := 5) (n := 3) C (by decide) (by decide +kernel) rfl (ly_arr_5_3 rfl) (fun x1 hx1 => ?_)
  refine zs_aload_n (pc := 11) (k := 0) (i := 0) C (by decide +kernel) rfl rfl ?_
  refine zs_getR (o' := 19) (pc := 12) (i := 41) (ci := 11) (k := 6) C (by decide +kernel) fl_RX11_41 rfl rfl rfl ?_
  refine zs_cvVv (pc := 15) (As := [sR 19]) (st := []) C (fun _ _ _ => rfl) (c_X10_copyFrom l g x1 19 hx1 rfl) ml_RX11_381 hx1 rfl rfl rfl (Nat.le_of_ble_eq_true rfl) ⟨Nat.le_of_ble_eq_true rfl, Nat.le_of_ble_eq_true rfl⟩ ⟨Nat.le_of_ble_eq_true rfl, Nat.le_of_ble_eq_true rfl⟩ (by decide +kernel) ?_
  refine zs_aload_n (pc := 18) (k := 0) (i := 0) C (by decide +kernel) rfl rfl ?_
  refine zs_getR (o' := 87) (pc := 19) (i := 48) (ci := 11) (k := 8) C (by decide +kernel) fl_RX11_48 rfl rfl rfl ?_
  refine zs_iload_n (pc := 22) (k := 1) (i := 1) C (by decide +kernel) rfl rfl ?_
  refine zs_iconst (pc := 23) (n := 1) (x := 1) C (by decide +kernel) (by decide +kernel) ?_
  refine zs_zast (pc := 24) (o := 87) (n := 3) C (fun _ _ _ => rfl) (by decide +kernel) rfl ?_
  exact zs_retTv (pc := 25) C hr ⟨Nat.le_of_ble_eq_true rfl, Nat.le_of_ble_eq_true rfl⟩ (by decide +kernel)
set_option maxRecDepth 20000 in
theorem c_X11_restore (l : Launch) (g : GC) (hl : l.stackTraces = false) (a0 : Int) : ConT l g yX11_restore cX11_restore 2 none (rmd 8 2 12) [sR 0, sI a0] (fun mm => fX11_restore a0 mm) := by
  refine zs_ofT (by decide +kernel) (Nat.le_of_ble_eq_true rfl) ?_
  intro p e s m args below meth c C hr hE
  replace C : Bd g RX11 cX11_restore 2 p s m args meth c := C
  unfold fX11_restore
  refine zs_aload_n (pc := 0) (k := 0) (i := 0) C (by decide +kernel) rfl rfl ?_
  refine zs_iload_n (pc := 1) (k := 1) (i := 1) C (by decide +kernel) rfl rfl ?_
  refine zs_cvTv (pc := 2) (As := [sI a0]) (st := []) C hE (c_X11_needImage l g hl a0) ml_RX11_378 rfl rfl rfl rfl (Nat.le_of_ble_eq_true rfl) ⟨Nat.le_of_ble_eq_true rfl, Nat.le_of_ble_eq_true rfl⟩ ⟨Nat.le_of_ble_eq_true rfl, Nat.le_of_ble_eq_true rfl⟩ ⟨Nat.le_of_ble_eq_true rfl, Nat.le_of_ble_eq_true rfl⟩ (by decide +kernel) ?_
  refine zs_aload_n (pc := 5) (k := 0) (i := 0) C (by decide +kernel) rfl rfl ?_
  refine zs_getR (o' := 87) (pc := 6) (i := 48) (ci := 11) (k := 8) C (by decide +kernel) fl_RX11_48 rfl rfl rfl ?_
  refine zs_iload_n (pc := 9) (k := 1) (i := 1) C (by decide +kernel) rfl rfl ?_
  refine zs_zald (pc := 10) (o := 87) (n := 3) C (by decide +kernel) rfl (fun hinx1 x1 => ?_)
  refine zs_if_ne (pc := 11) (off := 14) (tgt := 25) C (by decide +kernel) (by decide) ?_ ?_
  · refine zs_aload_n (pc := 25) (k := 0) (i := 0) C (by decide +kernel) rfl rfl ?_
    refine zs_getR (o' := 19) (pc := 26) (i := 41) (ci := 11) (k := 6) C (by decide +kernel) fl_RX11_41 rfl rfl rfl ?_
    refine zs_aload_n (pc := 29) (k := 0) (i := 0) C (by decide +kernel) rfl rfl ?_
    refine zs_getR (o' := 86) (pc := 30) (i := 44) (ci := 11) (k := 7) C (by decide +kernel) fl_RX11_44 rfl rfl rfl ?_
    refine zs_iload_n (pc := 33) (k := 1) (i := 1) C (by decide +kernel) rfl rfl ?_
    refine zs_aald (pc := 34) (o := 86) (t := 5) (n := 3) C (by decide) (by decide +kernel) rfl (ly_arr_5_3 rfl) (fun x2 hx2 => ?_)
    refine zs_cvVv (pc := 35) (As := [sR x2]) (st := []) C (fun _ _ _ => rfl) (c_X10_copyFrom l g 19 x2 rfl hx2) ml_RX11_381 rfl rfl rfl rfl (Nat.le_of_ble_eq_true rfl) ⟨Nat.le_of_ble_eq_true rfl, Nat.le_of_ble_eq_true rfl⟩ ⟨Nat.le_of_ble_eq_true rfl, Nat.le_of_ble_eq_true rfl⟩ (by decide +kernel) ?_
    exact zs_retTv (pc := 38) C hr ⟨Nat.le_of_ble_eq_true rfl, Nat.le_of_ble_eq_true rfl⟩ (by decide +kernel)
  · exact zs_throwW (pc := 14) (ik := 183) (is_ := 385) (ic := 187) (k := 2) C hE hl ⟨by decide, rfl⟩ ⟨by decide +kernel, by decide +kernel⟩ wf_1187 wf_170 (by decide +kernel) ex_RX11_187.1 ex_RX11_187.2 ⟨Nat.le_of_ble_eq_true rfl, Nat.le_of_ble_eq_true rfl, Nat.le_of_ble_eq_true rfl, Nat.le_of_ble_eq_true rfl⟩ ⟨Nat.le_of_ble_eq_true rfl, Nat.le_of_ble_eq_true rfl⟩ (by decide +kernel) (by decide +kernel) (by decide +kernel) (by decide +kernel) (by decide +kernel)
set_option maxRecDepth 20000 in
theorem c_X11_count (l : Launch) (g : GC) (a0 : Int) : ConR l g yX11_count cX11_count 2 (some .int) (rmd 2 0 0) [sR 0, sI a0] (fun mm => fX11_count a0 mm) := by
  refine zs_ofR (by decide +kernel) (Nat.le_of_ble_eq_true rfl) ?_
  intro p e s m args below meth c C hr
  replace C : Bd g RX11 cX11_count 2 p s m args meth c := C
  unfold fX11_count
  refine zs_iload_n (pc := 0) (k := 1) (i := 1) C (by decide +kernel) rfl rfl ?_
  refine zs_ite (fun hc0 => ?_) (fun hc0 => ?_)
  · refine zs_tswI (pc := 1) (dflt := 187) (lo := 0) (hi := 10) (offs := #[59, 70, 81, 92, 103, 114, 128, 139, 160, 174, 182]) (len := 59) (i := 0) (off := 59) (tgt := 60) C (by decide +kernel) hc0 (by decide) rfl (by decide) ?_
    refine zs_aload_n (pc := 60) (k := 0) (i := 0) C (by decide +kernel) rfl rfl ?_
    refine zs_getR (o' := 19) (pc := 61) (i := 41) (ci := 11) (k := 6) C (by decide +kernel) fl_RX11_41 rfl rfl rfl ?_
    refine zs_getR (o' := 20) (pc := 64) (i := 114) (ci := 10) (k := 0) C (by decide +kernel) fl_RX11_114 rfl rfl rfl ?_
    refine zs_getI (pc := 67) (i := 115) (ci := 3) (k := 0) C (by decide +kernel) fl_RX11_115 rfl rfl (fun x1 => ?_)
    exact zs_retRi (pc := 70) C hr ⟨Nat.le_of_ble_eq_true rfl, Nat.le_of_ble_eq_true rfl⟩ (by decide +kernel)
  · refine zs_ite (fun hc1 => ?_) (fun hc1 => ?_)
    · refine zs_tswI (pc := 1) (dflt := 187) (lo := 0) (hi := 10) (offs := #[59, 70, 81, 92, 103, 114, 128, 139, 160, 174, 182]) (len := 59) (i := 1) (off := 70) (tgt := 71) C (by decide +kernel) hc1 (by decide) rfl (by decide) ?_
      refine zs_aload_n (pc := 71) (k := 0) (i := 0) C (by decide +kernel) rfl rfl ?_
      refine zs_getR (o' := 19) (pc := 72) (i := 41) (ci := 11) (k := 6) C (by decide +kernel) fl_RX11_41 rfl rfl rfl ?_
      refine zs_getR (o' := 20) (pc := 75) (i := 114) (ci := 10) (k := 0) C (by decide +kernel) fl_RX11_114 rfl rfl rfl ?_
      refine zs_getI (pc := 78) (i := 387) (ci := 3) (k := 1) C (by decide +kernel) fl_RX11_387 rfl rfl (fun x2 => ?_)
      exact zs_retRi (pc := 81) C hr ⟨Nat.le_of_ble_eq_true rfl, Nat.le_of_ble_eq_true rfl⟩ (by decide +kernel)
    · refine zs_ite (fun hc2 => ?_) (fun hc2 => ?_)
      · refine zs_tswI (pc := 1) (dflt := 187) (lo := 0) (hi := 10) (offs := #[59, 70, 81, 92, 103, 114, 128, 139, 160, 174, 182]) (len := 59) (i := 2) (off := 81) (tgt := 82) C (by decide +kernel) hc2 (by decide) rfl (by decide) ?_
        refine zs_aload_n (pc := 82) (k := 0) (i := 0) C (by decide +kernel) rfl rfl ?_
        refine zs_getR (o' := 19) (pc := 83) (i := 41) (ci := 11) (k := 6) C (by decide +kernel) fl_RX11_41 rfl rfl rfl ?_
        refine zs_getR (o' := 20) (pc := 86) (i := 114) (ci := 10) (k := 0) C (by decide +kernel) fl_RX11_114 rfl rfl rfl ?_
        refine zs_getI (pc := 89) (i := 390) (ci := 3) (k := 2) C (by decide +kernel) fl_RX11_390 rfl rfl (fun x3 => ?_)
        exact zs_retRi (pc := 92) C hr ⟨Nat.le_of_ble_eq_true rfl, Nat.le_of_ble_eq_true rfl⟩ (by decide +kernel)
      · refine zs_ite (fun hc3 => ?_) (fun hc3 => ?_)
        · refine zs_tswI (pc := 1) (dflt := 187) (lo := 0) (hi := 10) (offs := #[59, 70, 81, 92, 103, 114, 128, 139, 160, 174, 182]) (len := 59) (i := 3) (off := 92) (tgt := 93) C (by decide +kernel) hc3 (by decide) rfl (by decide) ?_
          refine zs_aload_n (pc := 93) (k := 0) (i := 0) C (by decide +kernel) rfl rfl ?_
          refine zs_getR (o' := 19) (pc := 94) (i := 41) (ci := 11) (k := 6) C (by decide +kernel) fl_RX11_41 rfl rfl rfl ?_
          refine zs_getR (o' := 20) (pc := 97) (i := 114) (ci := 10) (k := 0) C (by decide +kernel) fl_RX11_114 rfl rfl rfl ?_
          refine zs_getI (pc := 100) (i := 333) (ci := 3) (k := 5) C (by decide +kernel) fl_RX11_333 rfl rfl (fun x4 => ?_)
          exact zs_retRi (pc := 103) C hr ⟨Nat.le_of_ble_eq_true rfl, Nat.le_of_ble_eq_true rfl⟩ (by decide +kernel)
        · refine zs_ite (fun hc4 => ?_) (fun hc4 => ?_)
          · refine zs_tswI (pc := 1) (dflt := 187) (lo := 0) (hi := 10) (offs := #[59, 70, 81, 92, 103, 114, 128, 139, 160, 174, 182]) (len := 59) (i := 4) (off := 103) (tgt := 104) C (by decide +kernel) hc4 (by decide) rfl (by decide) ?_
            refine zs_aload_n (pc := 104) (k := 0) (i := 0) C (by decide +kernel) rfl rfl ?_
            refine zs_getR (o' := 19) (pc := 105) (i := 41) (ci := 11) (k := 6) C (by decide +kernel) fl_RX11_41 rfl rfl rfl ?_
            refine zs_getR (o' := 20) (pc := 108) (i := 114) (ci := 10) (k := 0) C (by decide +kernel) fl_RX11_114 rfl rfl rfl ?_
            refine zs_getI (pc := 111) (i := 168) (ci := 3) (k := 4) C (by decide +kernel) fl_RX11_168 rfl rfl (fun x5 => ?_)
            exact zs_retRi (pc := 114) C hr ⟨Nat.le_of_ble_eq_true rfl, Nat.le_of_ble_eq_true rfl⟩ (by decide +kernel)
          · refine zs_ite (fun hc5 => ?_) (fun hc5 => ?_)
            · refine zs_tswI (pc := 1) (dflt := 187) (lo := 0) (hi := 10) (offs := #[59, 70, 81, 92, 103, 114, 128, 139, 160, 174, 182]) (len := 59) (i := 5) (off := 114) (tgt := 115) C (by decide +kernel) hc5 (by decide) rfl (by decide) ?_
              refine zs_aload_n (pc := 115) (k := 0) (i := 0) C (by decide +kernel) rfl rfl ?_
              refine zs_getR (o' := 19) (pc := 116) (i := 41) (ci := 11) (k := 6) C (by decide +kernel) fl_RX11_41 rfl rfl rfl ?_
              refine zs_getR (o' := 20) (pc := 119) (i := 114) (ci := 10) (k := 0) C (by decide +kernel) fl_RX11_114 rfl rfl rfl ?_
              refine zs_getI (pc := 122) (i := 277) (ci := 3) (k := 3) C (by decide +kernel) fl_RX11_277 rfl rfl (fun x6 => ?_)
              refine zs_csRi (pc := 125) (As := [sI x6]) (st := []) C rfl (c_J6_bitCount_0f7a4 l g x6) ml_RX11_393 rfl rfl (Nat.le_of_ble_eq_true rfl) ⟨Nat.le_of_ble_eq_true rfl, Nat.le_of_ble_eq_true rfl⟩ ⟨Nat.le_of_ble_eq_true rfl, Nat.le_of_ble_eq_true rfl⟩ (by decide +kernel) (fun x7 => ?_)
              exact zs_retRi (pc := 128) C hr ⟨Nat.le_of_ble_eq_true rfl, Nat.le_of_ble_eq_true rfl⟩ (by decide +kernel)
            · refine zs_ite (fun hc6 => ?_) (fun hc6 => ?_)
              · refine zs_tswI (pc := 1) (dflt := 187) (lo := 0) (hi := 10) (offs := #[59, 70, 81, 92, 103, 114, 128, 139, 160, 174, 182]) (len := 59) (i := 6) (off := 128) (tgt := 129) C (by decide +kernel) hc6 (by decide) rfl (by decide) ?_
                refine zs_aload_n (pc := 129) (k := 0) (i := 0) C (by decide +kernel) rfl rfl ?_
                refine zs_getR (o' := 19) (pc := 130) (i := 41) (ci := 11) (k := 6) C (by decide +kernel) fl_RX11_41 rfl rfl rfl ?_
                refine zs_getR (o' := 27) (pc := 133) (i := 141) (ci := 10) (k := 1) C (by decide +kernel) fl_RX11_141 rfl rfl rfl ?_
                refine zs_getI (pc := 136) (i := 156) (ci := 5) (k := 0) C (by decide +kernel) fl_RX11_156 rfl rfl (fun x8 => ?_)
                exact zs_retRi (pc := 139) C hr ⟨Nat.le_of_ble_eq_true rfl, Nat.le_of_ble_eq_true rfl⟩ (by decide +kernel)
              · refine zs_ite (fun hc7 => ?_) (fun hc7 => ?_)
                · refine zs_tswI (pc := 1) (dflt := 187) (lo := 0) (hi := 10) (offs := #[59, 70, 81, 92, 103, 114, 128, 139, 160, 174, 182]) (len := 59) (i := 7) (off := 139) (tgt := 140) C (by decide +kernel) hc7 (by decide) rfl (by decide) ?_
                  refine zs_aload_n (pc := 140) (k := 0) (i := 0) C (by decide +kernel) rfl rfl ?_
                  refine zs_getR (o' := 19) (pc := 141) (i := 41) (ci := 11) (k := 6) C (by decide +kernel) fl_RX11_41 rfl rfl rfl ?_
                  refine zs_getR (o' := 27) (pc := 144) (i := 141) (ci := 10) (k := 1) C (by decide +kernel) fl_RX11_141 rfl rfl rfl ?_
                  refine zs_aload_n (pc := 147) (k := 0) (i := 0) C (by decide +kernel) rfl rfl ?_
                  refine zs_getR (o' := 19) (pc := 148) (i := 41) (ci := 11) (k := 6) C (by decide +kernel) fl_RX11_41 rfl rfl rfl ?_
                  refine zs_getR (o' := 27) (pc := 151) (i := 141) (ci := 10) (k := 1) C (by decide +kernel) fl_RX11_141 rfl rfl rfl ?_
                  refine zs_getI (pc := 154) (i := 156) (ci := 5) (k := 0) C (by decide +kernel) fl_RX11_156 rfl rfl (fun x9 => ?_)
                  refine zs_cvRi (pc := 157) (As := [sI x9]) (st := []) C rfl (c_X5_rainIn l g x9) ml_RX11_398 rfl rfl rfl rfl (Nat.le_of_ble_eq_true rfl) ⟨Nat.le_of_ble_eq_true rfl, Nat.le_of_ble_eq_true rfl⟩ ⟨Nat.le_of_ble_eq_true rfl, Nat.le_of_ble_eq_true rfl⟩ (by decide +kernel) (fun x10 => ?_)
                  exact zs_retRi (pc := 160) C hr ⟨Nat.le_of_ble_eq_true rfl, Nat.le_of_ble_eq_true rfl⟩ (by decide +kernel)
                · refine zs_ite (fun hc8 => ?_) (fun hc8 => ?_)
                  · refine zs_tswI (pc := 1) (dflt := 187) (lo := 0) (hi := 10) (offs := #[59, 70, 81, 92, 103, 114, 128, 139, 160, 174, 182]) (len := 59) (i := 8) (off := 160) (tgt := 161) C (by decide +kernel) hc8 (by decide) rfl (by decide) ?_
                    refine zs_aload_n (pc := 161) (k := 0) (i := 0) C (by decide +kernel) rfl rfl ?_
                    refine zs_getR (o' := 19) (pc := 162) (i := 41) (ci := 11) (k := 6) C (by decide +kernel) fl_RX11_41 rfl rfl rfl ?_
                    refine zs_getR (o' := 27) (pc := 165) (i := 141) (ci := 10) (k := 1) C (by decide +kernel) fl_RX11_141 rfl rfl rfl ?_
                    refine zs_getI (pc := 168) (i := 213) (ci := 5) (k := 3) C (by decide +kernel) fl_RX11_213 rfl rfl (fun x11 => ?_)
                    refine zs_csRi (pc := 171) (As := [sI x11]) (st := []) C rfl (c_J6_bitCount_0f7a4 l g x11) ml_RX11_393 rfl rfl (Nat.le_of_ble_eq_true rfl) ⟨Nat.le_of_ble_eq_true rfl, Nat.le_of_ble_eq_true rfl⟩ ⟨Nat.le_of_ble_eq_true rfl, Nat.le_of_ble_eq_true rfl⟩ (by decide +kernel) (fun x12 => ?_)
                    exact zs_retRi (pc := 174) C hr ⟨Nat.le_of_ble_eq_true rfl, Nat.le_of_ble_eq_true rfl⟩ (by decide +kernel)
                  · refine zs_ite (fun hc9 => ?_) (fun hc9 => ?_)
                    · refine zs_tswI (pc := 1) (dflt := 187) (lo := 0) (hi := 10) (offs := #[59, 70, 81, 92, 103, 114, 128, 139, 160, 174, 182]) (len := 59) (i := 9) (off := 174) (tgt := 175) C (by decide +kernel) hc9 (by decide) rfl (by decide) ?_
                      refine zs_aload_n (pc := 175) (k := 0) (i := 0) C (by decide +kernel) rfl rfl ?_
                      refine zs_getR (o' := 19) (pc := 176) (i := 41) (ci := 11) (k := 6) C (by decide +kernel) fl_RX11_41 rfl rfl rfl ?_
                      refine zs_getI (pc := 179) (i := 216) (ci := 10) (k := 2) C (by decide +kernel) fl_RX11_216 rfl rfl (fun x13 => ?_)
                      exact zs_retRi (pc := 182) C hr ⟨Nat.le_of_ble_eq_true rfl, Nat.le_of_ble_eq_true rfl⟩ (by decide +kernel)
                    · refine zs_ite (fun hc10 => ?_) (fun hc10 => ?_)
                      · refine zs_tswI (pc := 1) (dflt := 187) (lo := 0) (hi := 10) (offs := #[59, 70, 81, 92, 103, 114, 128, 139, 160, 174, 182]) (len := 59) (i := 10) (off := 182) (tgt := 183) C (by decide +kernel) hc10 (by decide) rfl (by decide) ?_
                        refine zs_aload_n (pc := 183) (k := 0) (i := 0) C (by decide +kernel) rfl rfl ?_
                        refine zs_getI (pc := 184) (i := 13) (ci := 11) (k := 1) C (by decide +kernel) fl_RX11_13 rfl rfl (fun x14 => ?_)
                        exact zs_retRi (pc := 187) C hr ⟨Nat.le_of_ble_eq_true rfl, Nat.le_of_ble_eq_true rfl⟩ (by decide +kernel)
                      · refine zs_tswD (pc := 1) (dflt := 187) (lo := 0) (hi := 10) (offs := #[59, 70, 81, 92, 103, 114, 128, 139, 160, 174, 182]) (len := 59) (tgt := 188) C (by decide +kernel) (by omega) (by decide) ?_
                        refine zs_iconst (pc := 188) (n := (-1)) (x := (-1)) C (by decide +kernel) (by decide +kernel) ?_
                        exact zs_retRi (pc := 189) C hr ⟨Nat.le_of_ble_eq_true rfl, Nat.le_of_ble_eq_true rfl⟩ (by decide +kernel)
set_option maxRecDepth 20000 in
theorem c_X12_thrown (l : Launch) (g : GC)  : ConR l g yX12_thrown cX12_thrown 1 (some .int) (rmd 1 0 0) [sR 287] (fun mm => fX12_thrown  mm) := by
  refine zs_ofR (by decide +kernel) (Nat.le_of_ble_eq_true rfl) ?_
  intro p e s m args below meth c C hr
  replace C : Bd g RX12 cX12_thrown 1 p s m args meth c := C
  unfold fX12_thrown
  refine zs_aload_n (pc := 0) (k := 0) (i := 0) C (by decide +kernel) rfl rfl ?_
  refine zs_getI (pc := 1) (i := 88) (ci := 12) (k := 4) C (by decide +kernel) fl_RX12_88 rfl rfl (fun x1 => ?_)
  exact zs_retRi (pc := 4) C hr ⟨Nat.le_of_ble_eq_true rfl, Nat.le_of_ble_eq_true rfl⟩ (by decide +kernel)
set_option maxRecDepth 20000 in
theorem c_X12_fails (l : Launch) (g : GC) (a0 : Int) : ConW l g yX12_fails cX12_fails 2 (some .int) (rmd 1 0 0) [sR 287, sI a0] (fun mm => fX12_fails a0 mm) := by
  refine zs_ofW (by decide +kernel) (Nat.le_of_ble_eq_true rfl) ?_
  intro p e s m args below meth c C hr
  replace C : Bd g RX12 cX12_fails 2 p s m args meth c := C
  unfold fX12_fails
  refine zs_aload_n (pc := 0) (k := 0) (i := 0) C (by decide +kernel) rfl rfl ?_
  refine zs_iload_n (pc := 1) (k := 1) (i := 1) C (by decide +kernel) rfl rfl ?_
  refine zs_putI (pc := 2) (i := 88) (ci := 12) (k := 4) C (fun _ _ _ => rfl) (by decide +kernel) fl_RX12_88 fw_12_4 rfl rfl ?_
  refine zs_iconst (pc := 5) (n := 0) (x := 0) C (by decide +kernel) (by decide +kernel) ?_
  exact zs_retWi (pc := 6) C hr ⟨Nat.le_of_ble_eq_true rfl, Nat.le_of_ble_eq_true rfl⟩ (by decide +kernel)
set_option maxRecDepth 20000 in
theorem c_X12_within (l : Launch) (g : GC) (a0 : Int) (a1 : Int) (a2 : Int) : ConR l g yX12_within cX12_within 6 (some .boolean) (rmd 1 0 0) [sL a0, sL a1, sL a2] (fun mm => fX12_within a0 a1 a2 mm) := by
  refine zs_ofR (by decide +kernel) (Nat.le_of_ble_eq_true rfl) ?_
  intro p e s m args below meth c C hr
  replace C : Bd g RX12 cX12_within 6 p s m args meth c := C
  unfold fX12_within
  refine zs_lload_n (pc := 0) (k := 0) (i := 0) C (by decide +kernel) rfl rfl ?_
  refine zs_lload_n (pc := 1) (k := 2) (i := 2) C (by decide +kernel) rfl rfl ?_
  refine zs_jn (pJ := 18) (kJ := 0) (sJ := 0) (fun t1 => []) (fun t1 => [sI t1]) (fun t1 => ?_) (fun J2 hJ2 => ?_)
  · refine zs_chk (fun _ hx => ?_)
    exact zs_retRz (pc := 18) C hx hr ⟨Nat.le_of_ble_eq_true rfl, Nat.le_of_ble_eq_true rfl⟩ (by decide +kernel)
  · refine zs_jn (pJ := 17) (kJ := 0) (sJ := 0) (fun t3 => []) (fun t3 => []) (fun t3 => ?_) (fun J4 hJ4 => ?_)
    · refine zs_iconst (pc := 17) (n := 0) (x := 0) C (by decide +kernel) (by decide +kernel) ?_
      exact zs_goj (hJ2 0) trivial
    · refine zs_lcmp_lt (pc := 2) (off := 14) (tgt := 17) C (by decide +kernel) (by decide +kernel) (by decide) ?_ ?_
      · exact zs_goj (hJ4 ()) trivial
      · refine zs_lload_n (pc := 6) (k := 0) (i := 0) C (by decide +kernel) rfl rfl ?_
        refine zs_lload (pc := 7) (i := 4) C (by decide +kernel) rfl ?_
        refine zs_lcmp_gt (pc := 9) (off := 7) (tgt := 17) C (by decide +kernel) (by decide +kernel) (by decide) ?_ ?_
        · exact zs_goj (hJ4 ()) trivial
        · refine zs_iconst (pc := 13) (n := 1) (x := 1) C (by decide +kernel) (by decide +kernel) ?_
          refine zs_goto (pc := 14) (off := 4) (tgt := 18) C (by decide +kernel) (by decide) ?_
          exact zs_goj (hJ2 1) trivial
set_option maxRecDepth 20000 in
theorem c_X12_has (l : Launch) (g : GC) (a0 : Int) (a1 : Int) : ConR l g yX12_has cX12_has 2 (some .boolean) (rmd 1 0 0) [sI a0, sI a1] (fun mm => fX12_has a0 a1 mm) := by
  refine zs_ofR (by decide +kernel) (Nat.le_of_ble_eq_true rfl) ?_
  intro p e s m args below meth c C hr
  replace C : Bd g RX12 cX12_has 2 p s m args meth c := C
  unfold fX12_has
  refine zs_iload_n (pc := 0) (k := 0) (i := 0) C (by decide +kernel) rfl rfl ?_
  refine zs_iload_n (pc := 1) (k := 1) (i := 1) C (by decide +kernel) rfl rfl ?_
  refine zs_ishr (pc := 2) C (by decide +kernel) ?_
  refine zs_iconst (pc := 3) (n := 1) (x := 1) C (by decide +kernel) (by decide +kernel) ?_
  refine zs_iand (pc := 4) C (by decide +kernel) ?_
  refine zs_iconst (pc := 5) (n := 1) (x := 1) C (by decide +kernel) (by decide +kernel) ?_
  refine zs_jn (pJ := 14) (kJ := 0) (sJ := 0) (fun t1 => []) (fun t1 => [sI t1]) (fun t1 => ?_) (fun J2 hJ2 => ?_)
  · refine zs_chk (fun _ hx => ?_)
    exact zs_retRz (pc := 14) C hx hr ⟨Nat.le_of_ble_eq_true rfl, Nat.le_of_ble_eq_true rfl⟩ (by decide +kernel)
  · refine zs_icmp_ne (pc := 6) (off := 7) (tgt := 13) C (by decide +kernel) (by decide) ?_ ?_
    · refine zs_iconst (pc := 13) (n := 0) (x := 0) C (by decide +kernel) (by decide +kernel) ?_
      exact zs_goj (hJ2 0) trivial
    · refine zs_iconst (pc := 9) (n := 1) (x := 1) C (by decide +kernel) (by decide +kernel) ?_
      refine zs_goto (pc := 10) (off := 4) (tgt := 14) C (by decide +kernel) (by decide) ?_
      exact zs_goj (hJ2 1) trivial
set_option maxRecDepth 20000 in
theorem c_X12_size (l : Launch) (g : GC) (a0 : Int) : ConR l g yX12_size cX12_size 3 (some .int) (rmd 1 0 0) [sI a0] (fun mm => fX12_size a0 mm) := by
  refine zs_ofR (by decide +kernel) (Nat.le_of_ble_eq_true rfl) ?_
  intro p e s m args below meth c C hr
  replace C : Bd g RX12 cX12_size 3 p s m args meth c := C
  unfold fX12_size
  refine zs_iconst (pc := 0) (n := 0) (x := 0) C (by decide +kernel) (by decide +kernel) ?_
  refine zs_istore_n (pc := 1) (k := 1) (i := 1) (ls' := [(1, sI 0), (0, sI a0)]) C (by decide +kernel) rfl (Nat.le_of_ble_eq_true rfl) rfl ?_
  refine zs_iload_n (pc := 2) (k := 0) (i := 0) C (by decide +kernel) rfl rfl ?_
  refine zs_istore_n (pc := 3) (k := 2) (i := 2) (ls' := [(2, sI a0), (1, sI 0), (0, sI a0)]) C (by decide +kernel) rfl (Nat.le_of_ble_eq_true rfl) rfl ?_
  refine zs_sub (ls' := [(1, sI 0), (2, sI a0)]) ⟨rfl, rfl, trivial⟩ ?_
  refine zs_lp (pc := 4) (fun (t1 : Int × Int) => [(1, sI t1.1), (2, sI t1.2)]) (fun _ => []) (fun K2 hK2 t1 => ?_) BIG (0, a0)
  refine zs_iload_n (pc := 4) (k := 2) (i := 2) C (by decide +kernel) rfl rfl ?_
  refine zs_if_eq (pc := 5) (off := 15) (tgt := 20) C (by decide +kernel) (by decide) ?_ ?_
  · refine zs_iload_n (pc := 20) (k := 1) (i := 1) C (by decide +kernel) rfl rfl ?_
    exact zs_retRi (pc := 21) C hr ⟨Nat.le_of_ble_eq_true rfl, Nat.le_of_ble_eq_true rfl⟩ (by decide +kernel)
  · refine zs_iinc (pc := 8) (i := 1) (n := 1) (y := w32 (t1.1 + 1)) (ls' := [(1, sI (w32 (t1.1 + 1))), (2, sI t1.2)]) C (by decide +kernel) rfl rfl (Nat.le_of_ble_eq_true rfl) rfl ?_
    refine zs_iload_n (pc := 11) (k := 2) (i := 2) C (by decide +kernel) rfl rfl ?_
    refine zs_iload_n (pc := 12) (k := 2) (i := 2) C (by decide +kernel) rfl rfl ?_
    refine zs_iconst (pc := 13) (n := 1) (x := 1) C (by decide +kernel) (by decide +kernel) ?_
    refine zs_isub (pc := 14) C (by decide +kernel) ?_
    refine zs_iand (pc := 15) C (by decide +kernel) ?_
    refine zs_let (fun x3 => ?_)
    refine zs_istore_n (pc := 16) (k := 2) (i := 2) (ls' := [(2, sI x3), (1, sI (w32 (t1.1 + 1)))]) C (by decide +kernel) rfl (Nat.le_of_ble_eq_true rfl) rfl ?_
    refine zs_goto (pc := 17) (off := (-13)) (tgt := 4) C (by decide +kernel) (by decide) ?_
    exact zs_goj (hK2 (w32 (t1.1 + 1), x3)) ⟨rfl, rfl, trivial⟩
set_option maxRecDepth 20000 in
theorem c_X12_feed (l : Launch) (g : GC) (a0 : Int) (a1 : Int) (a2 : Int) (a3 : Int) (a4 : Int) : ConW l g yX12_feed cX12_feed 8 (some .int) (rmd 1 0 0) [sR 287, sI a0, sI a1, sI a2, sI a3, sI a4] (fun mm => fX12_feed a0 a1 a2 a3 a4 mm) := by
  refine zs_ofW (by decide +kernel) (Nat.le_of_ble_eq_true rfl) ?_
  intro p e s m args below meth c C hr
  replace C : Bd g RX12 cX12_feed 8 p s m args meth c := C
  unfold fX12_feed
  refine zs_aload_n (pc := 0) (k := 0) (i := 0) C (by decide +kernel) rfl rfl ?_
  refine zs_iconst (pc := 1) (n := 0) (x := 0) C (by decide +kernel) (by decide +kernel) ?_
  refine zs_putI (pc := 2) (i := 88) (ci := 12) (k := 4) C (fun _ _ _ => rfl) (by decide +kernel) fl_RX12_88 fw_12_4 rfl rfl ?_
  refine zs_aload_n (pc := 5) (k := 0) (i := 0) C (by decide +kernel) rfl rfl ?_
  refine zs_getI (pc := 6) (i := 91) (ci := 12) (k := 6) C (by decide +kernel) fl_RX12_91 rfl rfl (fun x1 => ?_)
  refine zs_bipush (pc := 9) (n := 20) (x := 20) C (by decide +kernel) (by decide +kernel) ?_
  refine zs_iadd (pc := 11) C (by decide +kernel) ?_
  refine zs_sipush (pc := 12) (n := 900) (x := 900) C (by decide +kernel) (by decide +kernel) ?_
  refine zs_icmp_le (pc := 15) (off := 5) (tgt := 20) C (by decide +kernel) (by decide) ?_ ?_
  · refine zs_iconst (pc := 20) (n := 0) (x := 0) C (by decide +kernel) (by decide +kernel) ?_
    refine zs_istore (pc := 21) (i := 6) (ls' := [(6, sI 0), (0, sR 287), (1, sI a0), (2, sI a1), (3, sI a2), (4, sI a3), (5, sI a4)]) C (by decide +kernel) (Nat.le_of_ble_eq_true rfl) rfl ?_
    refine zs_sub (ls' := [(0, sR 287), (1, sI a0), (2, sI a1), (3, sI a2), (4, sI a3), (5, sI a4), (6, sI 0)]) ⟨rfl, rfl, rfl, rfl, rfl, rfl, rfl, trivial⟩ ?_
    refine zs_lp (pc := 23) (fun (t2 : Int) => [(0, sR 287), (1, sI a0), (2, sI a1), (3, sI a2), (4, sI a3), (5, sI a4), (6, sI t2)]) (fun _ => []) (fun K3 hK3 t2 => ?_) BIG 0
    refine zs_iload (pc := 23) (i := 6) C (by decide +kernel) rfl ?_
    refine zs_bipush (pc := 25) (n := 20) (x := 20) C (by decide +kernel) (by decide +kernel) ?_
    refine zs_icmp_ge (pc := 27) (off := 93) (tgt := 120) C (by decide +kernel) (by decide) ?_ ?_
    · refine zs_aload_n (pc := 120) (k := 0) (i := 0) C (by decide +kernel) rfl rfl ?_
      refine zs_getI (pc := 121) (i := 91) (ci := 12) (k := 6) C (by decide +kernel) fl_RX12_91 rfl rfl (fun x4 => ?_)
      exact zs_retWi (pc := 124) C hr ⟨Nat.le_of_ble_eq_true rfl, Nat.le_of_ble_eq_true rfl⟩ (by decide +kernel)
    · refine zs_iload (pc := 30) (i := 6) C (by decide +kernel) rfl ?_
      refine zs_iconst (pc := 32) (n := 4) (x := 4) C (by decide +kernel) (by decide +kernel) ?_
      refine zs_jn (pJ := 76) (kJ := 0) (sJ := 0) (fun t5 => [(0, sR 287), (1, sI a0), (2, sI a1), (3, sI a2), (4, sI a3), (5, sI a4), (6, sI t2)]) (fun t5 => [sI t5]) (fun t5 => ?_) (fun J6 hJ6 => ?_)
      · refine zs_istore (pc := 76) (i := 7) (ls' := [(7, sI t5), (0, sR 287), (1, sI a0), (2, sI a1), (3, sI a2), (4, sI a3), (5, sI a4), (6, sI t2)]) C (by decide +kernel) (Nat.le_of_ble_eq_true rfl) rfl ?_
        refine zs_aload_n (pc := 78) (k := 0) (i := 0) C (by decide +kernel) rfl rfl ?_
        refine zs_getR (o' := 292) (pc := 79) (i := 23) (ci := 12) (k := 5) C (by decide +kernel) fl_RX12_23 rfl rfl rfl ?_
        refine zs_aload_n (pc := 82) (k := 0) (i := 0) C (by decide +kernel) rfl rfl ?_
        refine zs_getI (pc := 83) (i := 91) (ci := 12) (k := 6) C (by decide +kernel) fl_RX12_91 rfl rfl (fun x7 => ?_)
        refine zs_iload (pc := 86) (i := 7) C (by decide +kernel) rfl ?_
        refine zs_bipush (pc := 88) (n := 24) (x := 24) C (by decide +kernel) (by decide +kernel) ?_
        refine zs_bipush (pc := 90) (n := 8) (x := 8) C (by decide +kernel) (by decide +kernel) ?_
        refine zs_iload (pc := 92) (i := 6) C (by decide +kernel) rfl ?_
        refine zs_iconst (pc := 94) (n := 3) (x := 3) C (by decide +kernel) (by decide +kernel) ?_
        refine zs_iand (pc := 95) C (by decide +kernel) ?_
        refine zs_imul (pc := 96) C (by decide +kernel) ?_
        refine zs_isub (pc := 97) C (by decide +kernel) ?_
        refine zs_iushr (pc := 98) C (by decide +kernel) ?_
        refine zs_sipush (pc := 99) (n := 255) (x := 255) C (by decide +kernel) (by decide +kernel) ?_
        refine zs_iand (pc := 102) C (by decide +kernel) ?_
        refine zs_iast (pc := 103) (o := 292) (n := 900) C (fun _ _ _ => rfl) (by decide +kernel) rfl ?_
        refine zs_aload_n (pc := 104) (k := 0) (i := 0) C (by decide +kernel) rfl rfl ?_
        refine zs_dup (pc := 105) C rfl (by decide +kernel) ?_
        refine zs_getI (pc := 106) (i := 91) (ci := 12) (k := 6) C (by decide +kernel) fl_RX12_91 rfl rfl (fun x8 => ?_)
        refine zs_iconst (pc := 109) (n := 1) (x := 1) C (by decide +kernel) (by decide +kernel) ?_
        refine zs_iadd (pc := 110) C (by decide +kernel) ?_
        refine zs_putI (pc := 111) (i := 91) (ci := 12) (k := 6) C (fun _ _ _ => rfl) (by decide +kernel) fl_RX12_91 fw_12_6 rfl rfl ?_
        refine zs_iinc (pc := 114) (i := 6) (n := 1) (y := w32 (t2 + 1)) (ls' := [(6, sI (w32 (t2 + 1))), (7, sI t5), (0, sR 287), (1, sI a0), (2, sI a1), (3, sI a2), (4, sI a3), (5, sI a4)]) C (by decide +kernel) rfl rfl (Nat.le_of_ble_eq_true rfl) rfl ?_
        refine zs_goto (pc := 117) (off := (-94)) (tgt := 23) C (by decide +kernel) (by decide) ?_
        exact zs_goj (hK3 (w32 (t2 + 1))) ⟨rfl, rfl, rfl, rfl, rfl, rfl, rfl, trivial⟩
      · refine zs_icmp_ge (pc := 33) (off := 7) (tgt := 40) C (by decide +kernel) (by decide) ?_ ?_
        · refine zs_iload (pc := 40) (i := 6) C (by decide +kernel) rfl ?_
          refine zs_bipush (pc := 42) (n := 8) (x := 8) C (by decide +kernel) (by decide +kernel) ?_
          refine zs_icmp_ge (pc := 44) (off := 7) (tgt := 51) C (by decide +kernel) (by decide) ?_ ?_
          · refine zs_iload (pc := 51) (i := 6) C (by decide +kernel) rfl ?_
            refine zs_bipush (pc := 53) (n := 12) (x := 12) C (by decide +kernel) (by decide +kernel) ?_
            refine zs_icmp_ge (pc := 55) (off := 7) (tgt := 62) C (by decide +kernel) (by decide) ?_ ?_
            · refine zs_iload (pc := 62) (i := 6) C (by decide +kernel) rfl ?_
              refine zs_bipush (pc := 64) (n := 16) (x := 16) C (by decide +kernel) (by decide +kernel) ?_
              refine zs_icmp_ge (pc := 66) (off := 8) (tgt := 74) C (by decide +kernel) (by decide) ?_ ?_
              · refine zs_iload (pc := 74) (i := 5) C (by decide +kernel) rfl ?_
                exact zs_goj (hJ6 a4) ⟨rfl, rfl, rfl, rfl, rfl, rfl, rfl, trivial⟩
              · refine zs_iload (pc := 69) (i := 4) C (by decide +kernel) rfl ?_
                refine zs_goto (pc := 71) (off := 5) (tgt := 76) C (by decide +kernel) (by decide) ?_
                exact zs_goj (hJ6 a3) ⟨rfl, rfl, rfl, rfl, rfl, rfl, rfl, trivial⟩
            · refine zs_iload_n (pc := 58) (k := 3) (i := 3) C (by decide +kernel) rfl rfl ?_
              refine zs_goto (pc := 59) (off := 17) (tgt := 76) C (by decide +kernel) (by decide) ?_
              exact zs_goj (hJ6 a2) ⟨rfl, rfl, rfl, rfl, rfl, rfl, rfl, trivial⟩
          · refine zs_iload_n (pc := 47) (k := 2) (i := 2) C (by decide +kernel) rfl rfl ?_
            refine zs_goto (pc := 48) (off := 28) (tgt := 76) C (by decide +kernel) (by decide) ?_
            exact zs_goj (hJ6 a1) ⟨rfl, rfl, rfl, rfl, rfl, rfl, rfl, trivial⟩
        · refine zs_iload_n (pc := 36) (k := 1) (i := 1) C (by decide +kernel) rfl rfl ?_
          refine zs_goto (pc := 37) (off := 39) (tgt := 76) C (by decide +kernel) (by decide) ?_
          exact zs_goj (hJ6 a0) ⟨rfl, rfl, rfl, rfl, rfl, rfl, rfl, trivial⟩
  · refine zs_iconst (pc := 18) (n := (-1)) (x := (-1)) C (by decide +kernel) (by decide +kernel) ?_
    exact zs_retWi (pc := 19) C hr ⟨Nat.le_of_ble_eq_true rfl, Nat.le_of_ble_eq_true rfl⟩ (by decide +kernel)
set_option maxRecDepth 20000 in
theorem c_X12_see (l : Launch) (g : GC) (a0 : Int) : ConR l g yX12_see cX12_see 2 (some .int) (rmd 1 0 0) [sR 287, sI a0] (fun mm => fX12_see a0 mm) := by
  refine zs_ofR (by decide +kernel) (Nat.le_of_ble_eq_true rfl) ?_
  intro p e s m args below meth c C hr
  replace C : Bd g RX12 cX12_see 2 p s m args meth c := C
  unfold fX12_see
  refine zs_iload_n (pc := 0) (k := 1) (i := 1) C (by decide +kernel) rfl rfl ?_
  refine zs_aload_n (pc := 1) (k := 0) (i := 0) C (by decide +kernel) rfl rfl ?_
  refine zs_getI (pc := 2) (i := 94) (ci := 12) (k := 7) C (by decide +kernel) fl_RX12_94 rfl rfl (fun x1 => ?_)
  refine zs_jn (pJ := 18) (kJ := 0) (sJ := 0) (fun t2 => []) (fun t2 => [sI t2]) (fun t2 => ?_) (fun J3 hJ3 => ?_)
  · exact zs_retRi (pc := 18) C hr ⟨Nat.le_of_ble_eq_true rfl, Nat.le_of_ble_eq_true rfl⟩ (by decide +kernel)
  · refine zs_icmp_ge (pc := 5) (off := 12) (tgt := 17) C (by decide +kernel) (by decide) ?_ ?_
    · refine zs_iconst (pc := 17) (n := 0) (x := 0) C (by decide +kernel) (by decide +kernel) ?_
      exact zs_goj (hJ3 0) trivial
    · refine zs_aload_n (pc := 8) (k := 0) (i := 0) C (by decide +kernel) rfl rfl ?_
      refine zs_getR (o' := 292) (pc := 9) (i := 23) (ci := 12) (k := 5) C (by decide +kernel) fl_RX12_23 rfl rfl rfl ?_
      refine zs_iload_n (pc := 12) (k := 1) (i := 1) C (by decide +kernel) rfl rfl ?_
      refine zs_iald (pc := 13) (o := 292) (n := 900) C (by decide +kernel) rfl (fun hinx4 x4 => ?_)
      refine zs_goto (pc := 14) (off := 4) (tgt := 18) C (by decide +kernel) (by decide) ?_
      exact zs_goj (hJ3 x4) trivial
set_option maxRecDepth 20000 in
theorem c_X12_isLetter (l : Launch) (g : GC) (a0 : Int) : ConR l g yX12_isLetter cX12_isLetter 1 (some .boolean) (rmd 1 0 0) [sI a0] (fun mm => fX12_isLetter a0 mm) := by
  refine zs_ofR (by decide +kernel) (Nat.le_of_ble_eq_true rfl) ?_
  intro p e s m args below meth c C hr
  replace C : Bd g RX12 cX12_isLetter 1 p s m args meth c := C
  unfold fX12_isLetter
  refine zs_iload_n (pc := 0) (k := 0) (i := 0) C (by decide +kernel) rfl rfl ?_
  refine zs_bipush (pc := 1) (n := 97) (x := 97) C (by decide +kernel) (by decide +kernel) ?_
  refine zs_jn (pJ := 17) (kJ := 0) (sJ := 0) (fun t1 => []) (fun t1 => [sI t1]) (fun t1 => ?_) (fun J2 hJ2 => ?_)
  · refine zs_chk (fun _ hx => ?_)
    exact zs_retRz (pc := 17) C hx hr ⟨Nat.le_of_ble_eq_true rfl, Nat.le_of_ble_eq_true rfl⟩ (by decide +kernel)
  · refine zs_jn (pJ := 16) (kJ := 0) (sJ := 0) (fun t3 => []) (fun t3 => []) (fun t3 => ?_) (fun J4 hJ4 => ?_)
    · refine zs_iconst (pc := 16) (n := 0) (x := 0) C (by decide +kernel) (by decide +kernel) ?_
      exact zs_goj (hJ2 0) trivial
    · refine zs_icmp_lt (pc := 3) (off := 13) (tgt := 16) C (by decide +kernel) (by decide) ?_ ?_
      · exact zs_goj (hJ4 ()) trivial
      · refine zs_iload_n (pc := 6) (k := 0) (i := 0) C (by decide +kernel) rfl rfl ?_
        refine zs_bipush (pc := 7) (n := 122) (x := 122) C (by decide +kernel) (by decide +kernel) ?_
        refine zs_icmp_gt (pc := 9) (off := 7) (tgt := 16) C (by decide +kernel) (by decide) ?_ ?_
        · exact zs_goj (hJ4 ()) trivial
        · refine zs_iconst (pc := 12) (n := 1) (x := 1) C (by decide +kernel) (by decide +kernel) ?_
          refine zs_goto (pc := 13) (off := 4) (tgt := 17) C (by decide +kernel) (by decide) ?_
          exact zs_goj (hJ2 1) trivial
set_option maxRecDepth 20000 in
theorem c_X12_isDigit (l : Launch) (g : GC) (a0 : Int) : ConR l g yX12_isDigit cX12_isDigit 1 (some .boolean) (rmd 1 0 0) [sI a0] (fun mm => fX12_isDigit a0 mm) := by
  refine zs_ofR (by decide +kernel) (Nat.le_of_ble_eq_true rfl) ?_
  intro p e s m args below meth c C hr
  replace C : Bd g RX12 cX12_isDigit 1 p s m args meth c := C
  unfold fX12_isDigit
  refine zs_iload_n (pc := 0) (k := 0) (i := 0) C (by decide +kernel) rfl rfl ?_
  refine zs_bipush (pc := 1) (n := 48) (x := 48) C (by decide +kernel) (by decide +kernel) ?_
  refine zs_jn (pJ := 17) (kJ := 0) (sJ := 0) (fun t1 => []) (fun t1 => [sI t1]) (fun t1 => ?_) (fun J2 hJ2 => ?_)
  · refine zs_chk (fun _ hx => ?_)
    exact zs_retRz (pc := 17) C hx hr ⟨Nat.le_of_ble_eq_true rfl, Nat.le_of_ble_eq_true rfl⟩ (by decide +kernel)
  · refine zs_jn (pJ := 16) (kJ := 0) (sJ := 0) (fun t3 => []) (fun t3 => []) (fun t3 => ?_) (fun J4 hJ4 => ?_)
    · refine zs_iconst (pc := 16) (n := 0) (x := 0) C (by decide +kernel) (by decide +kernel) ?_
      exact zs_goj (hJ2 0) trivial
    · refine zs_icmp_lt (pc := 3) (off := 13) (tgt := 16) C (by decide +kernel) (by decide) ?_ ?_
      · exact zs_goj (hJ4 ()) trivial
      · refine zs_iload_n (pc := 6) (k := 0) (i := 0) C (by decide +kernel) rfl rfl ?_
        refine zs_bipush (pc := 7) (n := 57) (x := 57) C (by decide +kernel) (by decide +kernel) ?_
        refine zs_icmp_gt (pc := 9) (off := 7) (tgt := 16) C (by decide +kernel) (by decide) ?_ ?_
        · exact zs_goj (hJ4 ()) trivial
        · refine zs_iconst (pc := 12) (n := 1) (x := 1) C (by decide +kernel) (by decide +kernel) ?_
          refine zs_goto (pc := 13) (off := 4) (tgt := 17) C (by decide +kernel) (by decide) ?_
          exact zs_goj (hJ2 1) trivial
set_option maxRecDepth 20000 in
theorem c_X12_isSignByte (l : Launch) (g : GC) (a0 : Int) : ConR l g yX12_isSignByte cX12_isSignByte 2 (some .boolean) (rmd 1 0 0) [sI a0] (fun mm => fX12_isSignByte a0 mm) := by
  refine zs_ofR (by decide +kernel) (Nat.le_of_ble_eq_true rfl) ?_
  intro p e s m args below meth c C hr
  replace C : Bd g RX12 cX12_isSignByte 2 p s m args meth c := C
  unfold fX12_isSignByte
  refine zs_iload_n (pc := 0) (k := 0) (i := 0) C (by decide +kernel) rfl rfl ?_
  refine zs_bipush (pc := 1) (n := 91) (x := 91) C (by decide +kernel) (by decide +kernel) ?_
  refine zs_jn (pJ := 41) (kJ := 0) (sJ := 0) (fun t1 => [(0, sI a0)]) (fun t1 => [sI t1]) (fun t1 => ?_) (fun J2 hJ2 => ?_)
  · refine zs_istore_n (pc := 41) (k := 1) (i := 1) (ls' := [(1, sI t1), (0, sI a0)]) C (by decide +kernel) rfl (Nat.le_of_ble_eq_true rfl) rfl ?_
    refine zs_iload_n (pc := 42) (k := 1) (i := 1) C (by decide +kernel) rfl rfl ?_
    refine zs_jn (pJ := 87) (kJ := 0) (sJ := 0) (fun t3 => []) (fun t3 => [sI t3]) (fun t3 => ?_) (fun J4 hJ4 => ?_)
    · refine zs_chk (fun _ hx => ?_)
      exact zs_retRz (pc := 87) C hx hr ⟨Nat.le_of_ble_eq_true rfl, Nat.le_of_ble_eq_true rfl⟩ (by decide +kernel)
    · refine zs_jn (pJ := 82) (kJ := 0) (sJ := 0) (fun t5 => []) (fun t5 => []) (fun t5 => ?_) (fun J6 hJ6 => ?_)
      · refine zs_iconst (pc := 82) (n := 1) (x := 1) C (by decide +kernel) (by decide +kernel) ?_
        refine zs_goto (pc := 83) (off := 4) (tgt := 87) C (by decide +kernel) (by decide) ?_
        exact zs_goj (hJ4 1) trivial
      · refine zs_if_ne (pc := 43) (off := 39) (tgt := 82) C (by decide +kernel) (by decide) ?_ ?_
        · exact zs_goj (hJ6 ()) trivial
        · refine zs_iload_n (pc := 46) (k := 0) (i := 0) C (by decide +kernel) rfl rfl ?_
          refine zs_bipush (pc := 47) (n := 59) (x := 59) C (by decide +kernel) (by decide +kernel) ?_
          refine zs_icmp_eq (pc := 49) (off := 33) (tgt := 82) C (by decide +kernel) (by decide) ?_ ?_
          · exact zs_goj (hJ6 ()) trivial
          · refine zs_iload_n (pc := 52) (k := 0) (i := 0) C (by decide +kernel) rfl rfl ?_
            refine zs_bipush (pc := 53) (n := 43) (x := 43) C (by decide +kernel) (by decide +kernel) ?_
            refine zs_icmp_eq (pc := 55) (off := 27) (tgt := 82) C (by decide +kernel) (by decide) ?_ ?_
            · exact zs_goj (hJ6 ()) trivial
            · refine zs_iload_n (pc := 58) (k := 0) (i := 0) C (by decide +kernel) rfl rfl ?_
              refine zs_bipush (pc := 59) (n := 45) (x := 45) C (by decide +kernel) (by decide +kernel) ?_
              refine zs_icmp_eq (pc := 61) (off := 21) (tgt := 82) C (by decide +kernel) (by decide) ?_ ?_
              · exact zs_goj (hJ6 ()) trivial
              · refine zs_iload_n (pc := 64) (k := 0) (i := 0) C (by decide +kernel) rfl rfl ?_
                refine zs_bipush (pc := 65) (n := 42) (x := 42) C (by decide +kernel) (by decide +kernel) ?_
                refine zs_icmp_eq (pc := 67) (off := 15) (tgt := 82) C (by decide +kernel) (by decide) ?_ ?_
                · exact zs_goj (hJ6 ()) trivial
                · refine zs_iload_n (pc := 70) (k := 0) (i := 0) C (by decide +kernel) rfl rfl ?_
                  refine zs_bipush (pc := 71) (n := 40) (x := 40) C (by decide +kernel) (by decide +kernel) ?_
                  refine zs_icmp_eq (pc := 73) (off := 9) (tgt := 82) C (by decide +kernel) (by decide) ?_ ?_
                  · exact zs_goj (hJ6 ()) trivial
                  · refine zs_iload_n (pc := 76) (k := 0) (i := 0) C (by decide +kernel) rfl rfl ?_
                    refine zs_bipush (pc := 77) (n := 41) (x := 41) C (by decide +kernel) (by decide +kernel) ?_
                    refine zs_icmp_ne (pc := 79) (off := 7) (tgt := 86) C (by decide +kernel) (by decide) ?_ ?_
                    · refine zs_iconst (pc := 86) (n := 0) (x := 0) C (by decide +kernel) (by decide +kernel) ?_
                      exact zs_goj (hJ4 0) trivial
                    · exact zs_goj (hJ6 ()) trivial
  · refine zs_jn (pJ := 36) (kJ := 0) (sJ := 0) (fun t7 => [(0, sI a0)]) (fun t7 => []) (fun t7 => ?_) (fun J8 hJ8 => ?_)
    · refine zs_iconst (pc := 36) (n := 1) (x := 1) C (by decide +kernel) (by decide +kernel) ?_
      refine zs_goto (pc := 37) (off := 4) (tgt := 41) C (by decide +kernel) (by decide) ?_
      exact zs_goj (hJ2 1) ⟨rfl, trivial⟩
    · refine zs_icmp_eq (pc := 3) (off := 33) (tgt := 36) C (by decide +kernel) (by decide) ?_ ?_
      · exact zs_goj (hJ8 ()) ⟨rfl, trivial⟩
      · refine zs_iload_n (pc := 6) (k := 0) (i := 0) C (by decide +kernel) rfl rfl ?_
        refine zs_bipush (pc := 7) (n := 93) (x := 93) C (by decide +kernel) (by decide +kernel) ?_
        refine zs_icmp_eq (pc := 9) (off := 27) (tgt := 36) C (by decide +kernel) (by decide) ?_ ?_
        · exact zs_goj (hJ8 ()) ⟨rfl, trivial⟩
        · refine zs_iload_n (pc := 12) (k := 0) (i := 0) C (by decide +kernel) rfl rfl ?_
          refine zs_bipush (pc := 13) (n := 61) (x := 61) C (by decide +kernel) (by decide +kernel) ?_
          refine zs_icmp_eq (pc := 15) (off := 21) (tgt := 36) C (by decide +kernel) (by decide) ?_ ?_
          · exact zs_goj (hJ8 ()) ⟨rfl, trivial⟩
          · refine zs_iload_n (pc := 18) (k := 0) (i := 0) C (by decide +kernel) rfl rfl ?_
            refine zs_bipush (pc := 19) (n := 60) (x := 60) C (by decide +kernel) (by decide +kernel) ?_
            refine zs_icmp_eq (pc := 21) (off := 15) (tgt := 36) C (by decide +kernel) (by decide) ?_ ?_
            · exact zs_goj (hJ8 ()) ⟨rfl, trivial⟩
            · refine zs_iload_n (pc := 24) (k := 0) (i := 0) C (by decide +kernel) rfl rfl ?_
              refine zs_bipush (pc := 25) (n := 62) (x := 62) C (by decide +kernel) (by decide +kernel) ?_
              refine zs_icmp_eq (pc := 27) (off := 9) (tgt := 36) C (by decide +kernel) (by decide) ?_ ?_
              · exact zs_goj (hJ8 ()) ⟨rfl, trivial⟩
              · refine zs_iload_n (pc := 30) (k := 0) (i := 0) C (by decide +kernel) rfl rfl ?_
                refine zs_bipush (pc := 31) (n := 58) (x := 58) C (by decide +kernel) (by decide +kernel) ?_
                refine zs_icmp_ne (pc := 33) (off := 7) (tgt := 40) C (by decide +kernel) (by decide) ?_ ?_
                · refine zs_iconst (pc := 40) (n := 0) (x := 0) C (by decide +kernel) (by decide +kernel) ?_
                  exact zs_goj (hJ2 0) ⟨rfl, trivial⟩
                · exact zs_goj (hJ8 ()) ⟨rfl, trivial⟩
set_option maxRecDepth 20000 in
theorem c_X12_readsOn (l : Launch) (g : GC)  : ConV l g yX12_readsOn cX12_readsOn 2 (rmd 2 0 0) [sR 287] (fun mm => fX12_readsOn  mm) := by
  refine zs_ofV (by decide +kernel) (Nat.le_of_ble_eq_true rfl) ?_
  intro p e s m args below meth c C hr
  replace C : Bd g RX12 cX12_readsOn 2 p s m args meth c := C
  unfold fX12_readsOn
  refine zs_sub (ls' := [(0, sR 287)]) ⟨rfl, trivial⟩ ?_
  refine zs_lp (pc := 0) (fun (t1 : Unit) => [(0, sR 287)]) (fun _ => []) (fun K2 hK2 t1 => ?_) BIG ()
  refine zs_aload_n (pc := 0) (k := 0) (i := 0) C (by decide +kernel) rfl rfl ?_
  refine zs_getI (pc := 1) (i := 97) (ci := 12) (k := 8) C (by decide +kernel) fl_RX12_97 rfl rfl (fun x3 => ?_)
  refine zs_aload_n (pc := 4) (k := 0) (i := 0) C (by decide +kernel) rfl rfl ?_
  refine zs_getI (pc := 5) (i := 94) (ci := 12) (k := 7) C (by decide +kernel) fl_RX12_94 rfl rfl (fun x4 => ?_)
  refine zs_jn (pJ := 52) (kJ := 0) (sJ := 0) (fun t5 => [(0, sR 287)]) (fun t5 => []) (fun t5 => ?_) (fun J6 hJ6 => ?_)
  · refine zs_aload_n (pc := 52) (k := 0) (i := 0) C (by decide +kernel) rfl rfl ?_
    refine zs_aload_n (pc := 53) (k := 0) (i := 0) C (by decide +kernel) rfl rfl ?_
    refine zs_getI (pc := 54) (i := 97) (ci := 12) (k := 8) C (by decide +kernel) fl_RX12_97 rfl rfl (fun x7 => ?_)
    refine zs_putI (pc := 57) (i := 100) (ci := 12) (k := 9) C (fun _ _ _ => rfl) (by decide +kernel) fl_RX12_100 fw_12_9 rfl rfl ?_
    refine zs_aload_n (pc := 60) (k := 0) (i := 0) C (by decide +kernel) rfl rfl ?_
    refine zs_getI (pc := 61) (i := 97) (ci := 12) (k := 8) C (by decide +kernel) fl_RX12_97 rfl rfl (fun x8 => ?_)
    refine zs_aload_n (pc := 64) (k := 0) (i := 0) C (by decide +kernel) rfl rfl ?_
    refine zs_getI (pc := 65) (i := 94) (ci := 12) (k := 7) C (by decide +kernel) fl_RX12_94 rfl rfl (fun x9 => ?_)
    refine zs_icmp_lt (pc := 68) (off := 9) (tgt := 77) C (by decide +kernel) (by decide) ?_ ?_
    · refine zs_aload_n (pc := 77) (k := 0) (i := 0) C (by decide +kernel) rfl rfl ?_
      refine zs_getR (o' := 292) (pc := 78) (i := 23) (ci := 12) (k := 5) C (by decide +kernel) fl_RX12_23 rfl rfl rfl ?_
      refine zs_aload_n (pc := 81) (k := 0) (i := 0) C (by decide +kernel) rfl rfl ?_
      refine zs_getI (pc := 82) (i := 97) (ci := 12) (k := 8) C (by decide +kernel) fl_RX12_97 rfl rfl (fun x10 => ?_)
      refine zs_iald (pc := 85) (o := 292) (n := 900) C (by decide +kernel) rfl (fun hinx11 x11 => ?_)
      refine zs_istore_n (pc := 86) (k := 1) (i := 1) (ls' := [(1, sI x11), (0, sR 287)]) C (by decide +kernel) rfl (Nat.le_of_ble_eq_true rfl) rfl ?_
      refine zs_iload_n (pc := 87) (k := 1) (i := 1) C (by decide +kernel) rfl rfl ?_
      refine zs_csRi (pc := 88) (As := [sI x11]) (st := []) C rfl (c_X12_isLetter l g x11) ml_RX12_106 rfl rfl (Nat.le_of_ble_eq_true rfl) ⟨Nat.le_of_ble_eq_true rfl, Nat.le_of_ble_eq_true rfl⟩ ⟨Nat.le_of_ble_eq_true rfl, Nat.le_of_ble_eq_true rfl⟩ (by decide +kernel) (fun x12 => ?_)
      refine zs_jn (pJ := 263) (kJ := 0) (sJ := 0) (fun t13 => []) (fun t13 => []) (fun t13 => ?_) (fun J14 hJ14 => ?_)
      · exact zs_retVv (pc := 263) C hr ⟨Nat.le_of_ble_eq_true rfl, Nat.le_of_ble_eq_true rfl⟩ (by decide +kernel)
      · refine zs_if_eq (pc := 91) (off := 38) (tgt := 129) C (by decide +kernel) (by decide) ?_ ?_
        · refine zs_iload_n (pc := 129) (k := 1) (i := 1) C (by decide +kernel) rfl rfl ?_
          refine zs_csRi (pc := 130) (As := [sI x11]) (st := []) C rfl (c_X12_isDigit l g x11) ml_RX12_114 rfl rfl (Nat.le_of_ble_eq_true rfl) ⟨Nat.le_of_ble_eq_true rfl, Nat.le_of_ble_eq_true rfl⟩ ⟨Nat.le_of_ble_eq_true rfl, Nat.le_of_ble_eq_true rfl⟩ (by decide +kernel) (fun x15 => ?_)
          refine zs_if_eq (pc := 133) (off := 104) (tgt := 237) C (by decide +kernel) (by decide) ?_ ?_
          · refine zs_aload_n (pc := 237) (k := 0) (i := 0) C (by decide +kernel) rfl rfl ?_
            refine zs_iload_n (pc := 238) (k := 1) (i := 1) C (by decide +kernel) rfl rfl ?_
            refine zs_csRi (pc := 239) (As := [sI x11]) (st := [sR 287]) C rfl (c_X12_isSignByte l g x11) ml_RX12_120 rfl rfl (Nat.le_of_ble_eq_true rfl) ⟨Nat.le_of_ble_eq_true rfl, Nat.le_of_ble_eq_true rfl⟩ ⟨Nat.le_of_ble_eq_true rfl, Nat.le_of_ble_eq_true rfl⟩ (by decide +kernel) (fun x16 => ?_)
            refine zs_jn (pJ := 250) (kJ := 0) (sJ := 0) (fun t17 => [(0, sR 287)]) (fun t17 => [sI t17, sR 287]) (fun t17 => ?_) (fun J18 hJ18 => ?_)
            · refine zs_putI (pc := 250) (i := 103) (ci := 12) (k := 10) C (fun _ _ _ => rfl) (by decide +kernel) fl_RX12_103 fw_12_10 rfl rfl ?_
              refine zs_aload_n (pc := 253) (k := 0) (i := 0) C (by decide +kernel) rfl rfl ?_
              refine zs_dup (pc := 254) C rfl (by decide +kernel) ?_
              refine zs_getI (pc := 255) (i := 97) (ci := 12) (k := 8) C (by decide +kernel) fl_RX12_97 rfl rfl (fun x19 => ?_)
              refine zs_iconst (pc := 258) (n := 1) (x := 1) C (by decide +kernel) (by decide +kernel) ?_
              refine zs_iadd (pc := 259) C (by decide +kernel) ?_
              refine zs_putI (pc := 260) (i := 97) (ci := 12) (k := 8) C (fun _ _ _ => rfl) (by decide +kernel) fl_RX12_97 fw_12_8 rfl rfl ?_
              exact zs_goj (hJ14 ()) trivial
            · refine zs_if_eq (pc := 242) (off := 7) (tgt := 249) C (by decide +kernel) (by decide) ?_ ?_
              · refine zs_iconst (pc := 249) (n := 3) (x := 3) C (by decide +kernel) (by decide +kernel) ?_
                exact zs_goj (hJ18 3) ⟨rfl, trivial⟩
              · refine zs_iload_n (pc := 245) (k := 1) (i := 1) C (by decide +kernel) rfl rfl ?_
                refine zs_goto (pc := 246) (off := 4) (tgt := 250) C (by decide +kernel) (by decide) ?_
                exact zs_goj (hJ18 x11) ⟨rfl, trivial⟩
          · refine zs_aload_n (pc := 136) (k := 0) (i := 0) C (by decide +kernel) rfl rfl ?_
            refine zs_iconst (pc := 137) (n := 0) (x := 0) C (by decide +kernel) (by decide +kernel) ?_
            refine zs_putI (pc := 138) (i := 117) (ci := 12) (k := 11) C (fun _ _ _ => rfl) (by decide +kernel) fl_RX12_117 fw_12_11 rfl rfl ?_
            refine zs_sub (ls' := [(0, sR 287)]) ⟨rfl, trivial⟩ ?_
            refine zs_lp (pc := 141) (fun (t20 : Unit) => [(0, sR 287)]) (fun _ => []) (fun K21 hK21 t20 => ?_) BIG ()
            refine zs_aload_n (pc := 141) (k := 0) (i := 0) C (by decide +kernel) rfl rfl ?_
            refine zs_aload_n (pc := 142) (k := 0) (i := 0) C (by decide +kernel) rfl rfl ?_
            refine zs_getI (pc := 143) (i := 97) (ci := 12) (k := 8) C (by decide +kernel) fl_RX12_97 rfl rfl (fun x22 => ?_)
            refine zs_cvRi (pc := 146) (As := [sI x22]) (st := []) C rfl (c_X12_see l g x22) ml_RX12_110 rfl rfl rfl rfl (Nat.le_of_ble_eq_true rfl) ⟨Nat.le_of_ble_eq_true rfl, Nat.le_of_ble_eq_true rfl⟩ ⟨Nat.le_of_ble_eq_true rfl, Nat.le_of_ble_eq_true rfl⟩ (by decide +kernel) (fun x23 => ?_)
            refine zs_csRi (pc := 149) (As := [sI x23]) (st := []) C rfl (c_X12_isDigit l g x23) ml_RX12_114 rfl rfl (Nat.le_of_ble_eq_true rfl) ⟨Nat.le_of_ble_eq_true rfl, Nat.le_of_ble_eq_true rfl⟩ ⟨Nat.le_of_ble_eq_true rfl, Nat.le_of_ble_eq_true rfl⟩ (by decide +kernel) (fun x24 => ?_)
            refine zs_if_eq (pc := 152) (off := 60) (tgt := 212) C (by decide +kernel) (by decide) ?_ ?_
            · refine zs_aload_n (pc := 212) (k := 0) (i := 0) C (by decide +kernel) rfl rfl ?_
              refine zs_aload_n (pc := 213) (k := 0) (i := 0) C (by decide +kernel) rfl rfl ?_
              refine zs_getI (pc := 214) (i := 97) (ci := 12) (k := 8) C (by decide +kernel) fl_RX12_97 rfl rfl (fun x25 => ?_)
              refine zs_aload_n (pc := 217) (k := 0) (i := 0) C (by decide +kernel) rfl rfl ?_
              refine zs_getI (pc := 218) (i := 100) (ci := 12) (k := 9) C (by decide +kernel) fl_RX12_100 rfl rfl (fun x26 => ?_)
              refine zs_isub (pc := 221) C (by decide +kernel) ?_
              refine zs_iconst (pc := 222) (n := 3) (x := 3) C (by decide +kernel) (by decide +kernel) ?_
              refine zs_jn (pJ := 231) (kJ := 0) (sJ := 0) (fun t27 => []) (fun t27 => [sI t27, sR 287]) (fun t27 => ?_) (fun J28 hJ28 => ?_)
              · refine zs_putI (pc := 231) (i := 103) (ci := 12) (k := 10) C (fun _ _ _ => rfl) (by decide +kernel) fl_RX12_103 fw_12_10 rfl rfl ?_
                refine zs_goto (pc := 234) (off := 29) (tgt := 263) C (by decide +kernel) (by decide) ?_
                exact zs_goj (hJ14 ()) trivial
              · refine zs_icmp_le (pc := 223) (off := 7) (tgt := 230) C (by decide +kernel) (by decide) ?_ ?_
                · refine zs_iconst (pc := 230) (n := 2) (x := 2) C (by decide +kernel) (by decide +kernel) ?_
                  exact zs_goj (hJ28 2) trivial
                · refine zs_iconst (pc := 226) (n := 3) (x := 3) C (by decide +kernel) (by decide +kernel) ?_
                  refine zs_goto (pc := 227) (off := 4) (tgt := 231) C (by decide +kernel) (by decide) ?_
                  exact zs_goj (hJ28 3) trivial
            · refine zs_aload_n (pc := 155) (k := 0) (i := 0) C (by decide +kernel) rfl rfl ?_
              refine zs_aload_n (pc := 156) (k := 0) (i := 0) C (by decide +kernel) rfl rfl ?_
              refine zs_getI (pc := 157) (i := 97) (ci := 12) (k := 8) C (by decide +kernel) fl_RX12_97 rfl rfl (fun x29 => ?_)
              refine zs_aload_n (pc := 160) (k := 0) (i := 0) C (by decide +kernel) rfl rfl ?_
              refine zs_getI (pc := 161) (i := 100) (ci := 12) (k := 9) C (by decide +kernel) fl_RX12_100 rfl rfl (fun x30 => ?_)
              refine zs_isub (pc := 164) C (by decide +kernel) ?_
              refine zs_iconst (pc := 165) (n := 3) (x := 3) C (by decide +kernel) (by decide +kernel) ?_
              refine zs_jn (pJ := 196) (kJ := 0) (sJ := 0) (fun t31 => [(0, sR 287)]) (fun t31 => [sI t31, sR 287]) (fun t31 => ?_) (fun J32 hJ32 => ?_)
              · refine zs_putI (pc := 196) (i := 117) (ci := 12) (k := 11) C (fun _ _ _ => rfl) (by decide +kernel) fl_RX12_117 fw_12_11 rfl rfl ?_
                refine zs_aload_n (pc := 199) (k := 0) (i := 0) C (by decide +kernel) rfl rfl ?_
                refine zs_dup (pc := 200) C rfl (by decide +kernel) ?_
                refine zs_getI (pc := 201) (i := 97) (ci := 12) (k := 8) C (by decide +kernel) fl_RX12_97 rfl rfl (fun x33 => ?_)
                refine zs_iconst (pc := 204) (n := 1) (x := 1) C (by decide +kernel) (by decide +kernel) ?_
                refine zs_iadd (pc := 205) C (by decide +kernel) ?_
                refine zs_putI (pc := 206) (i := 97) (ci := 12) (k := 8) C (fun _ _ _ => rfl) (by decide +kernel) fl_RX12_97 fw_12_8 rfl rfl ?_
                refine zs_goto (pc := 209) (off := (-68)) (tgt := 141) C (by decide +kernel) (by decide) ?_
                exact zs_goj (hK21 ()) ⟨rfl, trivial⟩
              · refine zs_icmp_ge (pc := 166) (off := 26) (tgt := 192) C (by decide +kernel) (by decide) ?_ ?_
                · refine zs_aload_n (pc := 192) (k := 0) (i := 0) C (by decide +kernel) rfl rfl ?_
                  refine zs_getI (pc := 193) (i := 117) (ci := 12) (k := 11) C (by decide +kernel) fl_RX12_117 rfl rfl (fun x34 => ?_)
                  exact zs_goj (hJ32 x34) ⟨rfl, trivial⟩
                · refine zs_bipush (pc := 169) (n := 10) (x := 10) C (by decide +kernel) (by decide +kernel) ?_
                  refine zs_aload_n (pc := 171) (k := 0) (i := 0) C (by decide +kernel) rfl rfl ?_
                  refine zs_getI (pc := 172) (i := 117) (ci := 12) (k := 11) C (by decide +kernel) fl_RX12_117 rfl rfl (fun x35 => ?_)
                  refine zs_imul (pc := 175) C (by decide +kernel) ?_
                  refine zs_aload_n (pc := 176) (k := 0) (i := 0) C (by decide +kernel) rfl rfl ?_
                  refine zs_getR (o' := 292) (pc := 177) (i := 23) (ci := 12) (k := 5) C (by decide +kernel) fl_RX12_23 rfl rfl rfl ?_
                  refine zs_aload_n (pc := 180) (k := 0) (i := 0) C (by decide +kernel) rfl rfl ?_
                  refine zs_getI (pc := 181) (i := 97) (ci := 12) (k := 8) C (by decide +kernel) fl_RX12_97 rfl rfl (fun x36 => ?_)
                  refine zs_iald (pc := 184) (o := 292) (n := 900) C (by decide +kernel) rfl (fun hinx37 x37 => ?_)
                  refine zs_iadd (pc := 185) C (by decide +kernel) ?_
                  refine zs_bipush (pc := 186) (n := 48) (x := 48) C (by decide +kernel) (by decide +kernel) ?_
                  refine zs_isub (pc := 188) C (by decide +kernel) ?_
                  refine zs_goto (pc := 189) (off := 7) (tgt := 196) C (by decide +kernel) (by decide) ?_
                  exact zs_goj (hJ32 (w32 ((w32 ((w32 (10 * x35)) + x37)) - 48))) ⟨rfl, trivial⟩
        · refine zs_sub (ls' := [(0, sR 287)]) ⟨rfl, trivial⟩ ?_
          refine zs_lp (pc := 94) (fun (t38 : Unit) => [(0, sR 287)]) (fun _ => []) (fun K39 hK39 t38 => ?_) BIG ()
          refine zs_aload_n (pc := 94) (k := 0) (i := 0) C (by decide +kernel) rfl rfl ?_
          refine zs_aload_n (pc := 95) (k := 0) (i := 0) C (by decide +kernel) rfl rfl ?_
          refine zs_getI (pc := 96) (i := 97) (ci := 12) (k := 8) C (by decide +kernel) fl_RX12_97 rfl rfl (fun x40 => ?_)
          refine zs_cvRi (pc := 99) (As := [sI x40]) (st := []) C rfl (c_X12_see l g x40) ml_RX12_110 rfl rfl rfl rfl (Nat.le_of_ble_eq_true rfl) ⟨Nat.le_of_ble_eq_true rfl, Nat.le_of_ble_eq_true rfl⟩ ⟨Nat.le_of_ble_eq_true rfl, Nat.le_of_ble_eq_true rfl⟩ (by decide +kernel) (fun x41 => ?_)
          refine zs_csRi (pc := 102) (As := [sI x41]) (st := []) C rfl (c_X12_isLetter l g x41) ml_RX12_106 rfl rfl (Nat.le_of_ble_eq_true rfl) ⟨Nat.le_of_ble_eq_true rfl, Nat.le_of_ble_eq_true rfl⟩ ⟨Nat.le_of_ble_eq_true rfl, Nat.le_of_ble_eq_true rfl⟩ (by decide +kernel) (fun x42 => ?_)
          refine zs_if_eq (pc := 105) (off := 16) (tgt := 121) C (by decide +kernel) (by decide) ?_ ?_
          · refine zs_aload_n (pc := 121) (k := 0) (i := 0) C (by decide +kernel) rfl rfl ?_
            refine zs_iconst (pc := 122) (n := 1) (x := 1) C (by decide +kernel) (by decide +kernel) ?_
            refine zs_putI (pc := 123) (i := 103) (ci := 12) (k := 10) C (fun _ _ _ => rfl) (by decide +kernel) fl_RX12_103 fw_12_10 rfl rfl ?_
            refine zs_goto (pc := 126) (off := 137) (tgt := 263) C (by decide +kernel) (by decide) ?_
            exact zs_goj (hJ14 ()) trivial
          · refine zs_aload_n (pc := 108) (k := 0) (i := 0) C (by decide +kernel) rfl rfl ?_
            refine zs_dup (pc := 109) C rfl (by decide +kernel) ?_
            refine zs_getI (pc := 110) (i := 97) (ci := 12) (k := 8) C (by decide +kernel) fl_RX12_97 rfl rfl (fun x43 => ?_)
            refine zs_iconst (pc := 113) (n := 1) (x := 1) C (by decide +kernel) (by decide +kernel) ?_
            refine zs_iadd (pc := 114) C (by decide +kernel) ?_
            refine zs_putI (pc := 115) (i := 97) (ci := 12) (k := 8) C (fun _ _ _ => rfl) (by decide +kernel) fl_RX12_97 fw_12_8 rfl rfl ?_
            refine zs_goto (pc := 118) (off := (-24)) (tgt := 94) C (by decide +kernel) (by decide) ?_
            exact zs_goj (hK39 ()) ⟨rfl, trivial⟩
    · refine zs_aload_n (pc := 71) (k := 0) (i := 0) C (by decide +kernel) rfl rfl ?_
      refine zs_iconst (pc := 72) (n := 0) (x := 0) C (by decide +kernel) (by decide +kernel) ?_
      refine zs_putI (pc := 73) (i := 103) (ci := 12) (k := 10) C (fun _ _ _ => rfl) (by decide +kernel) fl_RX12_103 fw_12_10 rfl rfl ?_
      exact zs_retVv (pc := 76) C hr ⟨Nat.le_of_ble_eq_true rfl, Nat.le_of_ble_eq_true rfl⟩ (by decide +kernel)
  · refine zs_icmp_ge (pc := 8) (off := 44) (tgt := 52) C (by decide +kernel) (by decide) ?_ ?_
    · exact zs_goj (hJ6 ()) ⟨rfl, trivial⟩
    · refine zs_aload_n (pc := 11) (k := 0) (i := 0) C (by decide +kernel) rfl rfl ?_
      refine zs_getR (o' := 292) (pc := 12) (i := 23) (ci := 12) (k := 5) C (by decide +kernel) fl_RX12_23 rfl rfl rfl ?_
      refine zs_aload_n (pc := 15) (k := 0) (i := 0) C (by decide +kernel) rfl rfl ?_
      refine zs_getI (pc := 16) (i := 97) (ci := 12) (k := 8) C (by decide +kernel) fl_RX12_97 rfl rfl (fun x44 => ?_)
      refine zs_iald (pc := 19) (o := 292) (n := 900) C (by decide +kernel) rfl (fun hinx45 x45 => ?_)
      refine zs_bipush (pc := 20) (n := 32) (x := 32) C (by decide +kernel) (by decide +kernel) ?_
      refine zs_jn (pJ := 39) (kJ := 0) (sJ := 0) (fun t46 => [(0, sR 287)]) (fun t46 => []) (fun t46 => ?_) (fun J47 hJ47 => ?_)
      · refine zs_aload_n (pc := 39) (k := 0) (i := 0) C (by decide +kernel) rfl rfl ?_
        refine zs_dup (pc := 40) C rfl (by decide +kernel) ?_
        refine zs_getI (pc := 41) (i := 97) (ci := 12) (k := 8) C (by decide +kernel) fl_RX12_97 rfl rfl (fun x48 => ?_)
        refine zs_iconst (pc := 44) (n := 1) (x := 1) C (by decide +kernel) (by decide +kernel) ?_
        refine zs_iadd (pc := 45) C (by decide +kernel) ?_
        refine zs_putI (pc := 46) (i := 97) (ci := 12) (k := 8) C (fun _ _ _ => rfl) (by decide +kernel) fl_RX12_97 fw_12_8 rfl rfl ?_
        refine zs_goto (pc := 49) (off := (-49)) (tgt := 0) C (by decide +kernel) (by decide) ?_
        exact zs_goj (hK2 ()) ⟨rfl, trivial⟩
      · refine zs_icmp_eq (pc := 22) (off := 17) (tgt := 39) C (by decide +kernel) (by decide) ?_ ?_
        · exact zs_goj (hJ47 ()) ⟨rfl, trivial⟩
        · refine zs_aload_n (pc := 25) (k := 0) (i := 0) C (by decide +kernel) rfl rfl ?_
          refine zs_getR (o' := 292) (pc := 26) (i := 23) (ci := 12) (k := 5) C (by decide +kernel) fl_RX12_23 rfl rfl rfl ?_
          refine zs_aload_n (pc := 29) (k := 0) (i := 0) C (by decide +kernel) rfl rfl ?_
          refine zs_getI (pc := 30) (i := 97) (ci := 12) (k := 8) C (by decide +kernel) fl_RX12_97 rfl rfl (fun x49 => ?_)
          refine zs_iald (pc := 33) (o := 292) (n := 900) C (by decide +kernel) rfl (fun hinx50 x50 => ?_)
          refine zs_bipush (pc := 34) (n := 10) (x := 10) C (by decide +kernel) (by decide +kernel) ?_
          refine zs_icmp_ne (pc := 36) (off := 16) (tgt := 52) C (by decide +kernel) (by decide) ?_ ?_
          · exact zs_goj (hJ6 ()) ⟨rfl, trivial⟩
          · exact zs_goj (hJ47 ()) ⟨rfl, trivial⟩
set_option maxRecDepth 20000 in
theorem c_X12_blames (l : Launch) (g : GC) (a0 : Int) : ConV l g yX12_blames cX12_blames 2 (rmd 1 0 0) [sR 287, sI a0] (fun mm => fX12_blames a0 mm) := by
  refine zs_ofV (by decide +kernel) (Nat.le_of_ble_eq_true rfl) ?_
  intro p e s m args below meth c C hr
  replace C : Bd g RX12 cX12_blames 2 p s m args meth c := C
  unfold fX12_blames
  refine zs_aload_n (pc := 0) (k := 0) (i := 0) C (by decide +kernel) rfl rfl ?_
  refine zs_getI (pc := 1) (i := 123) (ci := 12) (k := 12) C (by decide +kernel) fl_RX12_123 rfl rfl (fun x1 => ?_)
  refine zs_if_eq (pc := 4) (off := 4) (tgt := 8) C (by decide +kernel) (by decide) ?_ ?_
  · refine zs_aload_n (pc := 8) (k := 0) (i := 0) C (by decide +kernel) rfl rfl ?_
    refine zs_aload_n (pc := 9) (k := 0) (i := 0) C (by decide +kernel) rfl rfl ?_
    refine zs_getI (pc := 10) (i := 103) (ci := 12) (k := 10) C (by decide +kernel) fl_RX12_103 rfl rfl (fun x2 => ?_)
    refine zs_iconst (pc := 13) (n := 3) (x := 3) C (by decide +kernel) (by decide +kernel) ?_
    refine zs_jn (pJ := 22) (kJ := 0) (sJ := 0) (fun t3 => [(0, sR 287)]) (fun t3 => [sI t3, sR 287]) (fun t3 => ?_) (fun J4 hJ4 => ?_)
    · refine zs_putI (pc := 22) (i := 123) (ci := 12) (k := 12) C (fun _ _ _ => rfl) (by decide +kernel) fl_RX12_123 fw_12_12 rfl rfl ?_
      refine zs_aload_n (pc := 25) (k := 0) (i := 0) C (by decide +kernel) rfl rfl ?_
      refine zs_aload_n (pc := 26) (k := 0) (i := 0) C (by decide +kernel) rfl rfl ?_
      refine zs_getI (pc := 27) (i := 100) (ci := 12) (k := 9) C (by decide +kernel) fl_RX12_100 rfl rfl (fun x5 => ?_)
      refine zs_putI (pc := 30) (i := 126) (ci := 12) (k := 13) C (fun _ _ _ => rfl) (by decide +kernel) fl_RX12_126 fw_12_13 rfl rfl ?_
      exact zs_retVv (pc := 33) C hr ⟨Nat.le_of_ble_eq_true rfl, Nat.le_of_ble_eq_true rfl⟩ (by decide +kernel)
    · refine zs_icmp_ne (pc := 14) (off := 7) (tgt := 21) C (by decide +kernel) (by decide) ?_ ?_
      · refine zs_iload_n (pc := 21) (k := 1) (i := 1) C (by decide +kernel) rfl rfl ?_
        exact zs_goj (hJ4 a0) ⟨rfl, trivial⟩
      · refine zs_iconst (pc := 17) (n := 1) (x := 1) C (by decide +kernel) (by decide +kernel) ?_
        refine zs_goto (pc := 18) (off := 4) (tgt := 22) C (by decide +kernel) (by decide) ?_
        exact zs_goj (hJ4 1) ⟨rfl, trivial⟩
  · exact zs_retVv (pc := 7) C hr ⟨Nat.le_of_ble_eq_true rfl, Nat.le_of_ble_eq_true rfl⟩ (by decide +kernel)
set_option maxRecDepth 20000 in
theorem c_X12_isSign (l : Launch) (g : GC) (a0 : Int) : ConR l g yX12_isSign cX12_isSign 2 (some .boolean) (rmd 1 0 0) [sR 287, sI a0] (fun mm => fX12_isSign a0 mm) := by
  refine zs_ofR (by decide +kernel) (Nat.le_of_ble_eq_true rfl) ?_
  intro p e s m args below meth c C hr
  replace C : Bd g RX12 cX12_isSign 2 p s m args meth c := C
  unfold fX12_isSign
  refine zs_aload_n (pc := 0) (k := 0) (i := 0) C (by decide +kernel) rfl rfl ?_
  refine zs_getI (pc := 1) (i := 123) (ci := 12) (k := 12) C (by decide +kernel) fl_RX12_123 rfl rfl (fun x1 => ?_)
  refine zs_jn (pJ := 20) (kJ := 0) (sJ := 0) (fun t2 => []) (fun t2 => [sI t2]) (fun t2 => ?_) (fun J3 hJ3 => ?_)
  · refine zs_chk (fun _ hx => ?_)
    exact zs_retRz (pc := 20) C hx hr ⟨Nat.le_of_ble_eq_true rfl, Nat.le_of_ble_eq_true rfl⟩ (by decide +kernel)
  · refine zs_jn (pJ := 19) (kJ := 0) (sJ := 0) (fun t4 => []) (fun t4 => []) (fun t4 => ?_) (fun J5 hJ5 => ?_)
    · refine zs_iconst (pc := 19) (n := 0) (x := 0) C (by decide +kernel) (by decide +kernel) ?_
      exact zs_goj (hJ3 0) trivial
    · refine zs_if_ne (pc := 4) (off := 15) (tgt := 19) C (by decide +kernel) (by decide) ?_ ?_
      · exact zs_goj (hJ5 ()) trivial
      · refine zs_aload_n (pc := 7) (k := 0) (i := 0) C (by decide +kernel) rfl rfl ?_
        refine zs_getI (pc := 8) (i := 103) (ci := 12) (k := 10) C (by decide +kernel) fl_RX12_103 rfl rfl (fun x6 => ?_)
        refine zs_iload_n (pc := 11) (k := 1) (i := 1) C (by decide +kernel) rfl rfl ?_
        refine zs_icmp_ne (pc := 12) (off := 7) (tgt := 19) C (by decide +kernel) (by decide) ?_ ?_
        · exact zs_goj (hJ5 ()) trivial
        · refine zs_iconst (pc := 15) (n := 1) (x := 1) C (by decide +kernel) (by decide +kernel) ?_
          refine zs_goto (pc := 16) (off := 4) (tgt := 20) C (by decide +kernel) (by decide) ?_
          exact zs_goj (hJ3 1) trivial
set_option maxRecDepth 20000 in
theorem c_X12_mustSign (l : Launch) (g : GC) (a0 : Int) : ConV l g yX12_mustSign cX12_mustSign 2 (rmd 3 0 0) [sR 287, sI a0] (fun mm => fX12_mustSign a0 mm) := by
  refine zs_ofV (by decide +kernel) (Nat.le_of_ble_eq_true rfl) ?_
  intro p e s m args below meth c C hr
  replace C : Bd g RX12 cX12_mustSign 2 p s m args meth c := C
  unfold fX12_mustSign
  refine zs_aload_n (pc := 0) (k := 0) (i := 0) C (by decide +kernel) rfl rfl ?_
  refine zs_getI (pc := 1) (i := 103) (ci := 12) (k := 10) C (by decide +kernel) fl_RX12_103 rfl rfl (fun x1 => ?_)
  refine zs_iload_n (pc := 4) (k := 1) (i := 1) C (by decide +kernel) rfl rfl ?_
  refine zs_jn (pJ := 13) (kJ := 0) (sJ := 0) (fun t2 => [(0, sR 287)]) (fun t2 => []) (fun t2 => ?_) (fun J3 hJ3 => ?_)
  · refine zs_aload_n (pc := 13) (k := 0) (i := 0) C (by decide +kernel) rfl rfl ?_
    refine zs_getI (pc := 14) (i := 123) (ci := 12) (k := 12) C (by decide +kernel) fl_RX12_123 rfl rfl (fun x4 => ?_)
    refine zs_jn (pJ := 24) (kJ := 0) (sJ := 0) (fun t5 => []) (fun t5 => []) (fun t5 => ?_) (fun J6 hJ6 => ?_)
    · exact zs_retVv (pc := 24) C hr ⟨Nat.le_of_ble_eq_true rfl, Nat.le_of_ble_eq_true rfl⟩ (by decide +kernel)
    · refine zs_if_ne (pc := 17) (off := 7) (tgt := 24) C (by decide +kernel) (by decide) ?_ ?_
      · exact zs_goj (hJ6 ()) trivial
      · refine zs_aload_n (pc := 20) (k := 0) (i := 0) C (by decide +kernel) rfl rfl ?_
        refine zs_cvVv (pc := 21) (As := []) (st := []) C (fun _ _ _ => rfl) (c_X12_readsOn l g ) ml_RX12_142 rfl rfl rfl rfl (Nat.le_of_ble_eq_true rfl) ⟨Nat.le_of_ble_eq_true rfl, Nat.le_of_ble_eq_true rfl⟩ ⟨Nat.le_of_ble_eq_true rfl, Nat.le_of_ble_eq_true rfl⟩ (by decide +kernel) ?_
        exact zs_goj (hJ6 ()) trivial
  · refine zs_icmp_eq (pc := 5) (off := 8) (tgt := 13) C (by decide +kernel) (by decide) ?_ ?_
    · exact zs_goj (hJ3 ()) ⟨rfl, trivial⟩
    · refine zs_aload_n (pc := 8) (k := 0) (i := 0) C (by decide +kernel) rfl rfl ?_
      refine zs_iconst (pc := 9) (n := 2) (x := 2) C (by decide +kernel) (by decide +kernel) ?_
      refine zs_cvVv (pc := 10) (As := [sI 2]) (st := []) C (fun _ _ _ => rfl) (c_X12_blames l g 2) ml_RX12_145 rfl rfl rfl rfl (Nat.le_of_ble_eq_true rfl) ⟨Nat.le_of_ble_eq_true rfl, Nat.le_of_ble_eq_true rfl⟩ ⟨Nat.le_of_ble_eq_true rfl, Nat.le_of_ble_eq_true rfl⟩ (by decide +kernel) ?_
      exact zs_goj (hJ3 ()) ⟨rfl, trivial⟩
set_option maxRecDepth 20000 in
theorem c_X12_number (l : Launch) (g : GC) (a0 : Int) (a1 : Int) : ConW l g yX12_number cX12_number 4 (some .int) (rmd 3 0 0) [sR 287, sI a0, sI a1] (fun mm => fX12_number a0 a1 mm) := by
  refine zs_ofW (by decide +kernel) (Nat.le_of_ble_eq_true rfl) ?_
  intro p e s m args below meth c C hr
  replace C : Bd g RX12 cX12_number 4 p s m args meth c := C
  unfold fX12_number
  refine zs_aload_n (pc := 0) (k := 0) (i := 0) C (by decide +kernel) rfl rfl ?_
  refine zs_getI (pc := 1) (i := 103) (ci := 12) (k := 10) C (by decide +kernel) fl_RX12_103 rfl rfl (fun x1 => ?_)
  refine zs_iconst (pc := 4) (n := 2) (x := 2) C (by decide +kernel) (by decide +kernel) ?_
  refine zs_jn (pJ := 36) (kJ := 0) (sJ := 0) (fun t2 => [(0, sR 287), (1, sI a0)]) (fun t2 => []) (fun t2 => ?_) (fun J3 hJ3 => ?_)
  · refine zs_aload_n (pc := 36) (k := 0) (i := 0) C (by decide +kernel) rfl rfl ?_
    refine zs_getI (pc := 37) (i := 117) (ci := 12) (k := 11) C (by decide +kernel) fl_RX12_117 rfl rfl (fun x4 => ?_)
    refine zs_istore_n (pc := 40) (k := 3) (i := 3) (ls' := [(3, sI x4), (0, sR 287), (1, sI a0)]) C (by decide +kernel) rfl (Nat.le_of_ble_eq_true rfl) rfl ?_
    refine zs_aload_n (pc := 41) (k := 0) (i := 0) C (by decide +kernel) rfl rfl ?_
    refine zs_getI (pc := 42) (i := 123) (ci := 12) (k := 12) C (by decide +kernel) fl_RX12_123 rfl rfl (fun x5 => ?_)
    refine zs_jn (pJ := 52) (kJ := 0) (sJ := 0) (fun t6 => [(0, sR 287), (1, sI a0), (3, sI x4)]) (fun t6 => []) (fun t6 => ?_) (fun J7 hJ7 => ?_)
    · refine zs_aload_n (pc := 52) (k := 0) (i := 0) C (by decide +kernel) rfl rfl ?_
      refine zs_getI (pc := 53) (i := 123) (ci := 12) (k := 12) C (by decide +kernel) fl_RX12_123 rfl rfl (fun x8 => ?_)
      refine zs_jn (pJ := 64) (kJ := 0) (sJ := 0) (fun t9 => []) (fun t9 => [sI t9]) (fun t9 => ?_) (fun J10 hJ10 => ?_)
      · exact zs_retWi (pc := 64) C hr ⟨Nat.le_of_ble_eq_true rfl, Nat.le_of_ble_eq_true rfl⟩ (by decide +kernel)
      · refine zs_if_ne (pc := 56) (off := 7) (tgt := 63) C (by decide +kernel) (by decide) ?_ ?_
        · refine zs_iload_n (pc := 63) (k := 1) (i := 1) C (by decide +kernel) rfl rfl ?_
          exact zs_goj (hJ10 a0) trivial
        · refine zs_iload_n (pc := 59) (k := 3) (i := 3) C (by decide +kernel) rfl rfl ?_
          refine zs_goto (pc := 60) (off := 4) (tgt := 64) C (by decide +kernel) (by decide) ?_
          exact zs_goj (hJ10 x4) trivial
    · refine zs_if_ne (pc := 45) (off := 7) (tgt := 52) C (by decide +kernel) (by decide) ?_ ?_
      · exact zs_goj (hJ7 ()) ⟨rfl, rfl, rfl, trivial⟩
      · refine zs_aload_n (pc := 48) (k := 0) (i := 0) C (by decide +kernel) rfl rfl ?_
        refine zs_cvVv (pc := 49) (As := []) (st := []) C (fun _ _ _ => rfl) (c_X12_readsOn l g ) ml_RX12_142 rfl rfl rfl rfl (Nat.le_of_ble_eq_true rfl) ⟨Nat.le_of_ble_eq_true rfl, Nat.le_of_ble_eq_true rfl⟩ ⟨Nat.le_of_ble_eq_true rfl, Nat.le_of_ble_eq_true rfl⟩ (by decide +kernel) ?_
        exact zs_goj (hJ7 ()) ⟨rfl, rfl, rfl, trivial⟩
  · refine zs_icmp_eq (pc := 5) (off := 11) (tgt := 16) C (by decide +kernel) (by decide) ?_ ?_
    · refine zs_aload_n (pc := 16) (k := 0) (i := 0) C (by decide +kernel) rfl rfl ?_
      refine zs_getI (pc := 17) (i := 117) (ci := 12) (k := 11) C (by decide +kernel) fl_RX12_117 rfl rfl (fun x11 => ?_)
      refine zs_i2l (pc := 20) C (by decide +kernel) ?_
      refine zs_iload_n (pc := 21) (k := 1) (i := 1) C (by decide +kernel) rfl rfl ?_
      refine zs_i2l (pc := 22) C (by decide +kernel) ?_
      refine zs_iload_n (pc := 23) (k := 2) (i := 2) C (by decide +kernel) rfl rfl ?_
      refine zs_i2l (pc := 24) C (by decide +kernel) ?_
      refine zs_csRi (pc := 25) (As := [sL x11, sL a0, sL a1]) (st := []) C rfl (c_X12_within l g x11 a0 a1) ml_RX12_149 rfl rfl (Nat.le_of_ble_eq_true rfl) ⟨Nat.le_of_ble_eq_true rfl, Nat.le_of_ble_eq_true rfl⟩ ⟨Nat.le_of_ble_eq_true rfl, Nat.le_of_ble_eq_true rfl⟩ (by decide +kernel) (fun x12 => ?_)
      refine zs_if_ne (pc := 28) (off := 8) (tgt := 36) C (by decide +kernel) (by decide) ?_ ?_
      · exact zs_goj (hJ3 ()) ⟨rfl, rfl, trivial⟩
      · refine zs_aload_n (pc := 31) (k := 0) (i := 0) C (by decide +kernel) rfl rfl ?_
        refine zs_iconst (pc := 32) (n := 3) (x := 3) C (by decide +kernel) (by decide +kernel) ?_
        refine zs_cvVv (pc := 33) (As := [sI 3]) (st := []) C (fun _ _ _ => rfl) (c_X12_blames l g 3) ml_RX12_145 rfl rfl rfl rfl (Nat.le_of_ble_eq_true rfl) ⟨Nat.le_of_ble_eq_true rfl, Nat.le_of_ble_eq_true rfl⟩ ⟨Nat.le_of_ble_eq_true rfl, Nat.le_of_ble_eq_true rfl⟩ (by decide +kernel) ?_
        exact zs_goj (hJ3 ()) ⟨rfl, rfl, trivial⟩
    · refine zs_aload_n (pc := 8) (k := 0) (i := 0) C (by decide +kernel) rfl rfl ?_
      refine zs_iconst (pc := 9) (n := 2) (x := 2) C (by decide +kernel) (by decide +kernel) ?_
      refine zs_cvVv (pc := 10) (As := [sI 2]) (st := []) C (fun _ _ _ => rfl) (c_X12_blames l g 2) ml_RX12_145 rfl rfl rfl rfl (Nat.le_of_ble_eq_true rfl) ⟨Nat.le_of_ble_eq_true rfl, Nat.le_of_ble_eq_true rfl⟩ ⟨Nat.le_of_ble_eq_true rfl, Nat.le_of_ble_eq_true rfl⟩ (by decide +kernel) ?_
      refine zs_goto (pc := 13) (off := 23) (tgt := 36) C (by decide +kernel) (by decide) ?_
      exact zs_goj (hJ3 ()) ⟨rfl, rfl, trivial⟩
set_option maxRecDepth 20000 in
theorem c_X12_laysStep (l : Launch) (g : GC) (a0 : Int) : ConV l g yX12_laysStep cX12_laysStep 2 (rmd 1 0 0) [sR 287, sI a0] (fun mm => fX12_laysStep a0 mm) := by
  refine zs_ofV (by decide +kernel) (Nat.le_of_ble_eq_true rfl) ?_
  intro p e s m args below meth c C hr
  replace C : Bd g RX12 cX12_laysStep 2 p s m args meth c := C
  unfold fX12_laysStep
  refine zs_aload_n (pc := 0) (k := 0) (i := 0) C (by decide +kernel) rfl rfl ?_
  refine zs_getI (pc := 1) (i := 123) (ci := 12) (k := 12) C (by decide +kernel) fl_RX12_123 rfl rfl (fun x1 => ?_)
  refine zs_if_eq (pc := 4) (off := 4) (tgt := 8) C (by decide +kernel) (by decide) ?_ ?_
  · refine zs_aload_n (pc := 8) (k := 0) (i := 0) C (by decide +kernel) rfl rfl ?_
    refine zs_getR (o' := 289) (pc := 9) (i := 13) (ci := 12) (k := 1) C (by decide +kernel) fl_RX12_13 rfl rfl rfl ?_
    refine zs_aload_n (pc := 12) (k := 0) (i := 0) C (by decide +kernel) rfl rfl ?_
    refine zs_getI (pc := 13) (i := 156) (ci := 12) (k := 18) C (by decide +kernel) fl_RX12_156 rfl rfl (fun x2 => ?_)
    refine zs_aload_n (pc := 16) (k := 0) (i := 0) C (by decide +kernel) rfl rfl ?_
    refine zs_getR (o' := 289) (pc := 17) (i := 13) (ci := 12) (k := 1) C (by decide +kernel) fl_RX12_13 rfl rfl rfl ?_
    refine zs_aload_n (pc := 20) (k := 0) (i := 0) C (by decide +kernel) rfl rfl ?_
    refine zs_getI (pc := 21) (i := 159) (ci := 12) (k := 17) C (by decide +kernel) fl_RX12_159 rfl rfl (fun x3 => ?_)
    refine zs_iald (pc := 24) (o := 289) (n := 2005) C (by decide +kernel) rfl (fun hinx4 x4 => ?_)
    refine zs_iadd (pc := 25) C (by decide +kernel) ?_
    refine zs_iload_n (pc := 26) (k := 1) (i := 1) C (by decide +kernel) rfl rfl ?_
    refine zs_iast (pc := 27) (o := 289) (n := 2005) C (fun _ _ _ => rfl) (by decide +kernel) rfl ?_
    refine zs_aload_n (pc := 28) (k := 0) (i := 0) C (by decide +kernel) rfl rfl ?_
    refine zs_getR (o' := 289) (pc := 29) (i := 13) (ci := 12) (k := 1) C (by decide +kernel) fl_RX12_13 rfl rfl rfl ?_
    refine zs_aload_n (pc := 32) (k := 0) (i := 0) C (by decide +kernel) rfl rfl ?_
    refine zs_getI (pc := 33) (i := 159) (ci := 12) (k := 17) C (by decide +kernel) fl_RX12_159 rfl rfl (fun x5 => ?_)
    refine zs_dup2 (pc := 36) C rfl rfl (by decide +kernel) ?_
    refine zs_iald (pc := 37) (o := 289) (n := 2005) C (by decide +kernel) rfl (fun hinx6 x6 => ?_)
    refine zs_iconst (pc := 38) (n := 1) (x := 1) C (by decide +kernel) (by decide +kernel) ?_
    refine zs_iadd (pc := 39) C (by decide +kernel) ?_
    refine zs_iast (pc := 40) (o := 289) (n := 2005) C (fun _ _ _ => rfl) (by decide +kernel) rfl ?_
    exact zs_retVv (pc := 41) C hr ⟨Nat.le_of_ble_eq_true rfl, Nat.le_of_ble_eq_true rfl⟩ (by decide +kernel)
  · exact zs_retVv (pc := 7) C hr ⟨Nat.le_of_ble_eq_true rfl, Nat.le_of_ble_eq_true rfl⟩ (by decide +kernel)
set_option maxRecDepth 20000 in
theorem c_X12_beginsLaw (l : Launch) (g : GC) (a0 : Int) (a1 : Int) : ConV l g yX12_beginsLaw cX12_beginsLaw 3 (rmd 4 0 0) [sR 287, sI a0, sI a1] (fun mm => fX12_beginsLaw a0 a1 mm) := by
  refine zs_ofV (by decide +kernel) (Nat.le_of_ble_eq_true rfl) ?_
  intro p e s m args below meth c C hr
  replace C : Bd g RX12 cX12_beginsLaw 3 p s m args meth c := C
  unfold fX12_beginsLaw
  refine zs_aload_n (pc := 0) (k := 0) (i := 0) C (by decide +kernel) rfl rfl ?_
  refine zs_iload_n (pc := 1) (k := 1) (i := 1) C (by decide +kernel) rfl rfl ?_
  refine zs_putI (pc := 2) (i := 159) (ci := 12) (k := 17) C (fun _ _ _ => rfl) (by decide +kernel) fl_RX12_159 fw_12_17 rfl rfl ?_
  refine zs_aload_n (pc := 5) (k := 0) (i := 0) C (by decide +kernel) rfl rfl ?_
  refine zs_iload_n (pc := 6) (k := 2) (i := 2) C (by decide +kernel) rfl rfl ?_
  refine zs_putI (pc := 7) (i := 156) (ci := 12) (k := 18) C (fun _ _ _ => rfl) (by decide +kernel) fl_RX12_156 fw_12_18 rfl rfl ?_
  refine zs_aload_n (pc := 10) (k := 0) (i := 0) C (by decide +kernel) rfl rfl ?_
  refine zs_getR (o' := 289) (pc := 11) (i := 13) (ci := 12) (k := 1) C (by decide +kernel) fl_RX12_13 rfl rfl rfl ?_
  refine zs_iload_n (pc := 14) (k := 1) (i := 1) C (by decide +kernel) rfl rfl ?_
  refine zs_iconst (pc := 15) (n := 0) (x := 0) C (by decide +kernel) (by decide +kernel) ?_
  refine zs_iast (pc := 16) (o := 289) (n := 2005) C (fun _ _ _ => rfl) (by decide +kernel) rfl ?_
  refine zs_aload_n (pc := 17) (k := 0) (i := 0) C (by decide +kernel) rfl rfl ?_
  refine zs_bipush (pc := 18) (n := 58) (x := 58) C (by decide +kernel) (by decide +kernel) ?_
  refine zs_cvVv (pc := 20) (As := [sI 58]) (st := []) C (fun _ _ _ => rfl) (c_X12_mustSign l g 58) ml_RX12_162 rfl rfl rfl rfl (Nat.le_of_ble_eq_true rfl) ⟨Nat.le_of_ble_eq_true rfl, Nat.le_of_ble_eq_true rfl⟩ ⟨Nat.le_of_ble_eq_true rfl, Nat.le_of_ble_eq_true rfl⟩ (by decide +kernel) ?_
  exact zs_retVv (pc := 23) C hr ⟨Nat.le_of_ble_eq_true rfl, Nat.le_of_ble_eq_true rfl⟩ (by decide +kernel)
set_option maxRecDepth 20000 in
theorem c_X12_goesIn (l : Launch) (g : GC)  : ConV l g yX12_goesIn cX12_goesIn 1 (rmd 3 0 0) [sR 287] (fun mm => fX12_goesIn  mm) := by
  refine zs_ofV (by decide +kernel) (Nat.le_of_ble_eq_true rfl) ?_
  intro p e s m args below meth c C hr
  replace C : Bd g RX12 cX12_goesIn 1 p s m args meth c := C
  unfold fX12_goesIn
  refine zs_aload_n (pc := 0) (k := 0) (i := 0) C (by decide +kernel) rfl rfl ?_
  refine zs_getI (pc := 1) (i := 165) (ci := 12) (k := 16) C (by decide +kernel) fl_RX12_165 rfl rfl (fun x1 => ?_)
  refine zs_bipush (pc := 4) (n := 6) (x := 6) C (by decide +kernel) (by decide +kernel) ?_
  refine zs_jn (pJ := 14) (kJ := 0) (sJ := 0) (fun t2 => [(0, sR 287)]) (fun t2 => []) (fun t2 => ?_) (fun J3 hJ3 => ?_)
  · refine zs_aload_n (pc := 14) (k := 0) (i := 0) C (by decide +kernel) rfl rfl ?_
    refine zs_dup (pc := 15) C rfl (by decide +kernel) ?_
    refine zs_getI (pc := 16) (i := 165) (ci := 12) (k := 16) C (by decide +kernel) fl_RX12_165 rfl rfl (fun x4 => ?_)
    refine zs_iconst (pc := 19) (n := 1) (x := 1) C (by decide +kernel) (by decide +kernel) ?_
    refine zs_iadd (pc := 20) C (by decide +kernel) ?_
    refine zs_putI (pc := 21) (i := 165) (ci := 12) (k := 16) C (fun _ _ _ => rfl) (by decide +kernel) fl_RX12_165 fw_12_16 rfl rfl ?_
    refine zs_aload_n (pc := 24) (k := 0) (i := 0) C (by decide +kernel) rfl rfl ?_
    refine zs_getI (pc := 25) (i := 123) (ci := 12) (k := 12) C (by decide +kernel) fl_RX12_123 rfl rfl (fun x5 => ?_)
    refine zs_jn (pJ := 35) (kJ := 0) (sJ := 0) (fun t6 => []) (fun t6 => []) (fun t6 => ?_) (fun J7 hJ7 => ?_)
    · exact zs_retVv (pc := 35) C hr ⟨Nat.le_of_ble_eq_true rfl, Nat.le_of_ble_eq_true rfl⟩ (by decide +kernel)
    · refine zs_if_ne (pc := 28) (off := 7) (tgt := 35) C (by decide +kernel) (by decide) ?_ ?_
      · exact zs_goj (hJ7 ()) trivial
      · refine zs_aload_n (pc := 31) (k := 0) (i := 0) C (by decide +kernel) rfl rfl ?_
        refine zs_cvVv (pc := 32) (As := []) (st := []) C (fun _ _ _ => rfl) (c_X12_readsOn l g ) ml_RX12_142 rfl rfl rfl rfl (Nat.le_of_ble_eq_true rfl) ⟨Nat.le_of_ble_eq_true rfl, Nat.le_of_ble_eq_true rfl⟩ ⟨Nat.le_of_ble_eq_true rfl, Nat.le_of_ble_eq_true rfl⟩ (by decide +kernel) ?_
        exact zs_goj (hJ7 ()) trivial
  · refine zs_icmp_ne (pc := 6) (off := 8) (tgt := 14) C (by decide +kernel) (by decide) ?_ ?_
    · exact zs_goj (hJ3 ()) ⟨rfl, trivial⟩
    · refine zs_aload_n (pc := 9) (k := 0) (i := 0) C (by decide +kernel) rfl rfl ?_
      refine zs_iconst (pc := 10) (n := 4) (x := 4) C (by decide +kernel) (by decide +kernel) ?_
      refine zs_cvVv (pc := 11) (As := [sI 4]) (st := []) C (fun _ _ _ => rfl) (c_X12_blames l g 4) ml_RX12_145 rfl rfl rfl rfl (Nat.le_of_ble_eq_true rfl) ⟨Nat.le_of_ble_eq_true rfl, Nat.le_of_ble_eq_true rfl⟩ ⟨Nat.le_of_ble_eq_true rfl, Nat.le_of_ble_eq_true rfl⟩ (by decide +kernel) ?_
      exact zs_goj (hJ3 ()) ⟨rfl, trivial⟩
set_option maxRecDepth 20000 in
theorem c_X12_begins (l : Launch) (g : GC) (a0 : Int) (a1 : Int) : ConW l g yX12_begins cX12_begins 3 (some .boolean) (rmd 3 0 0) [sR 287, sI a0, sI a1] (fun mm => fX12_begins a0 a1 mm) := by
  refine zs_ofW (by decide +kernel) (Nat.le_of_ble_eq_true rfl) ?_
  intro p e s m args below meth c C hr
  replace C : Bd g RX12 cX12_begins 3 p s m args meth c := C
  unfold fX12_begins
  refine zs_aload_n (pc := 0) (k := 0) (i := 0) C (by decide +kernel) rfl rfl ?_
  refine zs_getR (o' := 289) (pc := 1) (i := 13) (ci := 12) (k := 1) C (by decide +kernel) fl_RX12_13 rfl rfl rfl ?_
  refine zs_iload_n (pc := 4) (k := 1) (i := 1) C (by decide +kernel) rfl rfl ?_
  refine zs_iald (pc := 5) (o := 289) (n := 2005) C (by decide +kernel) rfl (fun hinx1 x1 => ?_)
  refine zs_iload_n (pc := 6) (k := 2) (i := 2) C (by decide +kernel) rfl rfl ?_
  refine zs_jn (pJ := 15) (kJ := 0) (sJ := 0) (fun t2 => [(0, sR 287)]) (fun t2 => []) (fun t2 => ?_) (fun J3 hJ3 => ?_)
  · refine zs_aload_n (pc := 15) (k := 0) (i := 0) C (by decide +kernel) rfl rfl ?_
    refine zs_getI (pc := 16) (i := 123) (ci := 12) (k := 12) C (by decide +kernel) fl_RX12_123 rfl rfl (fun x4 => ?_)
    refine zs_jn (pJ := 26) (kJ := 0) (sJ := 0) (fun t5 => [(0, sR 287)]) (fun t5 => []) (fun t5 => ?_) (fun J6 hJ6 => ?_)
    · refine zs_aload_n (pc := 26) (k := 0) (i := 0) C (by decide +kernel) rfl rfl ?_
      refine zs_getI (pc := 27) (i := 123) (ci := 12) (k := 12) C (by decide +kernel) fl_RX12_123 rfl rfl (fun x7 => ?_)
      refine zs_jn (pJ := 38) (kJ := 0) (sJ := 0) (fun t8 => []) (fun t8 => [sI t8]) (fun t8 => ?_) (fun J9 hJ9 => ?_)
      · refine zs_chk (fun _ hx => ?_)
        exact zs_retWz (pc := 38) C hx hr ⟨Nat.le_of_ble_eq_true rfl, Nat.le_of_ble_eq_true rfl⟩ (by decide +kernel)
      · refine zs_if_ne (pc := 30) (off := 7) (tgt := 37) C (by decide +kernel) (by decide) ?_ ?_
        · refine zs_iconst (pc := 37) (n := 0) (x := 0) C (by decide +kernel) (by decide +kernel) ?_
          exact zs_goj (hJ9 0) trivial
        · refine zs_iconst (pc := 33) (n := 1) (x := 1) C (by decide +kernel) (by decide +kernel) ?_
          refine zs_goto (pc := 34) (off := 4) (tgt := 38) C (by decide +kernel) (by decide) ?_
          exact zs_goj (hJ9 1) trivial
    · refine zs_if_ne (pc := 19) (off := 7) (tgt := 26) C (by decide +kernel) (by decide) ?_ ?_
      · exact zs_goj (hJ6 ()) ⟨rfl, trivial⟩
      · refine zs_aload_n (pc := 22) (k := 0) (i := 0) C (by decide +kernel) rfl rfl ?_
        refine zs_cvVv (pc := 23) (As := []) (st := []) C (fun _ _ _ => rfl) (c_X12_readsOn l g ) ml_RX12_142 rfl rfl rfl rfl (Nat.le_of_ble_eq_true rfl) ⟨Nat.le_of_ble_eq_true rfl, Nat.le_of_ble_eq_true rfl⟩ ⟨Nat.le_of_ble_eq_true rfl, Nat.le_of_ble_eq_true rfl⟩ (by decide +kernel) ?_
        exact zs_goj (hJ6 ()) ⟨rfl, trivial⟩
  · refine zs_icmp_ne (pc := 7) (off := 8) (tgt := 15) C (by decide +kernel) (by decide) ?_ ?_
    · exact zs_goj (hJ3 ()) ⟨rfl, trivial⟩
    · refine zs_aload_n (pc := 10) (k := 0) (i := 0) C (by decide +kernel) rfl rfl ?_
      refine zs_iconst (pc := 11) (n := 4) (x := 4) C (by decide +kernel) (by decide +kernel) ?_
      refine zs_cvVv (pc := 12) (As := [sI 4]) (st := []) C (fun _ _ _ => rfl) (c_X12_blames l g 4) ml_RX12_145 rfl rfl rfl rfl (Nat.le_of_ble_eq_true rfl) ⟨Nat.le_of_ble_eq_true rfl, Nat.le_of_ble_eq_true rfl⟩ ⟨Nat.le_of_ble_eq_true rfl, Nat.le_of_ble_eq_true rfl⟩ (by decide +kernel) ?_
      exact zs_goj (hJ3 ()) ⟨rfl, trivial⟩
set_option maxRecDepth 20000 in
theorem c_X12_placeBut (l : Launch) (g : GC) (a0 : Int) : ConW l g yX12_placeBut cX12_placeBut 4 (some .int) (rmd 4 0 0) [sR 287, sI a0] (fun mm => fX12_placeBut a0 mm) := by
  refine zs_ofW (by decide +kernel) (Nat.le_of_ble_eq_true rfl) ?_
  intro p e s m args below meth c C hr
  replace C : Bd g RX12 cX12_placeBut 4 p s m args meth c := C
  unfold fX12_placeBut
  refine zs_aload_n (pc := 0) (k := 0) (i := 0) C (by decide +kernel) rfl rfl ?_
  refine zs_iconst (pc := 1) (n := 0) (x := 0) C (by decide +kernel) (by decide +kernel) ?_
  refine zs_aload_n (pc := 2) (k := 0) (i := 0) C (by decide +kernel) rfl rfl ?_
  refine zs_getR (o' := 289) (pc := 3) (i := 13) (ci := 12) (k := 1) C (by decide +kernel) fl_RX12_13 rfl rfl rfl ?_
  refine zs_iconst (pc := 6) (n := 1) (x := 1) C (by decide +kernel) (by decide +kernel) ?_
  refine zs_ialdk (pc := 7) (o := 289) (n := 2005) C (by decide) (by decide +kernel) rfl (fun x1 => ?_)
  refine zs_iconst (pc := 8) (n := 1) (x := 1) C (by decide +kernel) (by decide +kernel) ?_
  refine zs_isub (pc := 9) C (by decide +kernel) ?_
  refine zs_cvWi (pc := 10) (As := [sI 0, sI (w32 (x1 - 1))]) (st := []) C (fun _ _ _ => rfl) rfl (c_X12_number l g 0 (w32 (x1 - 1))) ml_RX12_226 rfl rfl rfl rfl (Nat.le_of_ble_eq_true rfl) ⟨Nat.le_of_ble_eq_true rfl, Nat.le_of_ble_eq_true rfl⟩ ⟨Nat.le_of_ble_eq_true rfl, Nat.le_of_ble_eq_true rfl⟩ (by decide +kernel) (fun x2 => ?_)
  refine zs_istore_n (pc := 13) (k := 2) (i := 2) (ls' := [(2, sI x2), (0, sR 287), (1, sI a0)]) C (by decide +kernel) rfl (Nat.le_of_ble_eq_true rfl) rfl ?_
  refine zs_aload_n (pc := 14) (k := 0) (i := 0) C (by decide +kernel) rfl rfl ?_
  refine zs_getI (pc := 15) (i := 123) (ci := 12) (k := 12) C (by decide +kernel) fl_RX12_123 rfl rfl (fun x3 => ?_)
  refine zs_jn (pJ := 67) (kJ := 0) (sJ := 0) (fun t4 => [(0, sR 287), (2, sI x2)]) (fun t4 => []) (fun t4 => ?_) (fun J5 hJ5 => ?_)
  · refine zs_aload_n (pc := 67) (k := 0) (i := 0) C (by decide +kernel) rfl rfl ?_
    refine zs_iconst (pc := 68) (n := 0) (x := 0) C (by decide +kernel) (by decide +kernel) ?_
    refine zs_aload_n (pc := 69) (k := 0) (i := 0) C (by decide +kernel) rfl rfl ?_
    refine zs_getR (o' := 289) (pc := 70) (i := 13) (ci := 12) (k := 1) C (by decide +kernel) fl_RX12_13 rfl rfl rfl ?_
    refine zs_iconst (pc := 73) (n := 2) (x := 2) C (by decide +kernel) (by decide +kernel) ?_
    refine zs_ialdk (pc := 74) (o := 289) (n := 2005) C (by decide) (by decide +kernel) rfl (fun x6 => ?_)
    refine zs_iconst (pc := 75) (n := 1) (x := 1) C (by decide +kernel) (by decide +kernel) ?_
    refine zs_isub (pc := 76) C (by decide +kernel) ?_
    refine zs_cvWi (pc := 77) (As := [sI 0, sI (w32 (x6 - 1))]) (st := []) C (fun _ _ _ => rfl) rfl (c_X12_number l g 0 (w32 (x6 - 1))) ml_RX12_226 rfl rfl rfl rfl (Nat.le_of_ble_eq_true rfl) ⟨Nat.le_of_ble_eq_true rfl, Nat.le_of_ble_eq_true rfl⟩ ⟨Nat.le_of_ble_eq_true rfl, Nat.le_of_ble_eq_true rfl⟩ (by decide +kernel) (fun x7 => ?_)
    refine zs_istore_n (pc := 80) (k := 3) (i := 3) (ls' := [(3, sI x7), (0, sR 287), (2, sI x2)]) C (by decide +kernel) rfl (Nat.le_of_ble_eq_true rfl) rfl ?_
    refine zs_aload_n (pc := 81) (k := 0) (i := 0) C (by decide +kernel) rfl rfl ?_
    refine zs_getR (o' := 289) (pc := 82) (i := 13) (ci := 12) (k := 1) C (by decide +kernel) fl_RX12_13 rfl rfl rfl ?_
    refine zs_iconst (pc := 85) (n := 1) (x := 1) C (by decide +kernel) (by decide +kernel) ?_
    refine zs_ialdk (pc := 86) (o := 289) (n := 2005) C (by decide) (by decide +kernel) rfl (fun x8 => ?_)
    refine zs_iload_n (pc := 87) (k := 3) (i := 3) C (by decide +kernel) rfl rfl ?_
    refine zs_imul (pc := 88) C (by decide +kernel) ?_
    refine zs_iload_n (pc := 89) (k := 2) (i := 2) C (by decide +kernel) rfl rfl ?_
    refine zs_iadd (pc := 90) C (by decide +kernel) ?_
    exact zs_retWi (pc := 91) C hr ⟨Nat.le_of_ble_eq_true rfl, Nat.le_of_ble_eq_true rfl⟩ (by decide +kernel)
  · refine zs_if_ne (pc := 18) (off := 49) (tgt := 67) C (by decide +kernel) (by decide) ?_ ?_
    · exact zs_goj (hJ5 ()) ⟨rfl, rfl, trivial⟩
    · refine zs_aload_n (pc := 21) (k := 0) (i := 0) C (by decide +kernel) rfl rfl ?_
      refine zs_getI (pc := 22) (i := 103) (ci := 12) (k := 10) C (by decide +kernel) fl_RX12_103 rfl rfl (fun x9 => ?_)
      refine zs_iconst (pc := 25) (n := 2) (x := 2) C (by decide +kernel) (by decide +kernel) ?_
      refine zs_icmp_ne (pc := 26) (off := 41) (tgt := 67) C (by decide +kernel) (by decide) ?_ ?_
      · exact zs_goj (hJ5 ()) ⟨rfl, rfl, trivial⟩
      · refine zs_aload_n (pc := 29) (k := 0) (i := 0) C (by decide +kernel) rfl rfl ?_
        refine zs_getI (pc := 30) (i := 117) (ci := 12) (k := 11) C (by decide +kernel) fl_RX12_117 rfl rfl (fun x10 => ?_)
        refine zs_aload_n (pc := 33) (k := 0) (i := 0) C (by decide +kernel) rfl rfl ?_
        refine zs_getR (o' := 289) (pc := 34) (i := 13) (ci := 12) (k := 1) C (by decide +kernel) fl_RX12_13 rfl rfl rfl ?_
        refine zs_iconst (pc := 37) (n := 2) (x := 2) C (by decide +kernel) (by decide +kernel) ?_
        refine zs_ialdk (pc := 38) (o := 289) (n := 2005) C (by decide) (by decide +kernel) rfl (fun x11 => ?_)
        refine zs_icmp_ge (pc := 39) (off := 28) (tgt := 67) C (by decide +kernel) (by decide) ?_ ?_
        · exact zs_goj (hJ5 ()) ⟨rfl, rfl, trivial⟩
        · refine zs_iload_n (pc := 42) (k := 1) (i := 1) C (by decide +kernel) rfl rfl ?_
          refine zs_aload_n (pc := 43) (k := 0) (i := 0) C (by decide +kernel) rfl rfl ?_
          refine zs_getR (o' := 289) (pc := 44) (i := 13) (ci := 12) (k := 1) C (by decide +kernel) fl_RX12_13 rfl rfl rfl ?_
          refine zs_iconst (pc := 47) (n := 1) (x := 1) C (by decide +kernel) (by decide +kernel) ?_
          refine zs_ialdk (pc := 48) (o := 289) (n := 2005) C (by decide) (by decide +kernel) rfl (fun x12 => ?_)
          refine zs_aload_n (pc := 49) (k := 0) (i := 0) C (by decide +kernel) rfl rfl ?_
          refine zs_getI (pc := 50) (i := 117) (ci := 12) (k := 11) C (by decide +kernel) fl_RX12_117 rfl rfl (fun x13 => ?_)
          refine zs_imul (pc := 53) C (by decide +kernel) ?_
          refine zs_iload_n (pc := 54) (k := 2) (i := 2) C (by decide +kernel) rfl rfl ?_
          refine zs_iadd (pc := 55) C (by decide +kernel) ?_
          refine zs_csRi (pc := 56) (As := [sI a0, sI (w32 ((w32 (x12 * x13)) + x2))]) (st := []) C rfl (c_X12_has l g a0 (w32 ((w32 (x12 * x13)) + x2))) ml_RX12_230 rfl rfl (Nat.le_of_ble_eq_true rfl) ⟨Nat.le_of_ble_eq_true rfl, Nat.le_of_ble_eq_true rfl⟩ ⟨Nat.le_of_ble_eq_true rfl, Nat.le_of_ble_eq_true rfl⟩ (by decide +kernel) (fun x14 => ?_)
          refine zs_if_eq (pc := 59) (off := 8) (tgt := 67) C (by decide +kernel) (by decide) ?_ ?_
          · exact zs_goj (hJ5 ()) ⟨rfl, rfl, trivial⟩
          · refine zs_aload_n (pc := 62) (k := 0) (i := 0) C (by decide +kernel) rfl rfl ?_
            refine zs_iconst (pc := 63) (n := 3) (x := 3) C (by decide +kernel) (by decide +kernel) ?_
            refine zs_cvVv (pc := 64) (As := [sI 3]) (st := []) C (fun _ _ _ => rfl) (c_X12_blames l g 3) ml_RX12_145 rfl rfl rfl rfl (Nat.le_of_ble_eq_true rfl) ⟨Nat.le_of_ble_eq_true rfl, Nat.le_of_ble_eq_true rfl⟩ ⟨Nat.le_of_ble_eq_true rfl, Nat.le_of_ble_eq_true rfl⟩ (by decide +kernel) ?_
            exact zs_goj (hJ5 ()) ⟨rfl, rfl, trivial⟩

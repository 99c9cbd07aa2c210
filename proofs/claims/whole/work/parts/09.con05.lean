set_option maxRecDepth 20000 in
theorem c_X12_laysHours (l : Launch) (g : GC) (a0 : Int) (a1 : Int) (a2 : Int) (a3 : Int) : ConV l g yX12_laysHours cX12_laysHours 7 (rmd 5 0 0) [sR 287, sI a0, sI a1, sI a2, sI a3] (fun mm => fX12_laysHours a0 a1 a2 a3 mm) := by
  refine zs_ofV (by decide +kernel) (Nat.le_of_ble_eq_true rfl) ?_
  intro p e s m args below meth c C hr
  replace C : Bd g RX12 cX12_laysHours 7 p s m args meth c := C
  unfold fX12_laysHours
  refine zs_aload_n (pc := 0) (k := 0) (i := 0) C (by decide +kernel) rfl rfl ?_
  refine zs_iload_n (pc := 1) (k := 3) (i := 3) C (by decide +kernel) rfl rfl ?_
  refine zs_putI (pc := 2) (i := 438) (ci := 12) (k := 28) C (fun _ _ _ => rfl) (by decide +kernel) fl_RX12_438 fw_12_28 rfl rfl ?_
  refine zs_iconst (pc := 5) (n := 1) (x := 1) C (by decide +kernel) (by decide +kernel) ?_
  refine zs_istore (pc := 6) (i := 5) (ls' := [(5, sI 1), (0, sR 287), (1, sI a0), (2, sI a1), (3, sI a2), (4, sI a3)]) C (by decide +kernel) (Nat.le_of_ble_eq_true rfl) rfl ?_
  refine zs_sub (ls' := [(0, sR 287), (1, sI a0), (2, sI a1), (4, sI a3), (5, sI 1)]) ⟨rfl, rfl, rfl, rfl, rfl, trivial⟩ ?_
  refine zs_lp (pc := 8) (fun (t1 : Int) => [(0, sR 287), (1, sI a0), (2, sI a1), (4, sI a3), (5, sI t1)]) (fun _ => []) (fun K2 hK2 t1 => ?_) BIG 1
  refine zs_iload (pc := 8) (i := 5) C (by decide +kernel) rfl ?_
  refine zs_bipush (pc := 10) (n := 40) (x := 40) C (by decide +kernel) (by decide +kernel) ?_
  refine zs_icmp_gt (pc := 12) (off := 118) (tgt := 130) C (by decide +kernel) (by decide) ?_ ?_
  · refine zs_iconst (pc := 130) (n := 0) (x := 0) C (by decide +kernel) (by decide +kernel) ?_
    refine zs_istore (pc := 131) (i := 5) (ls' := [(5, sI 0), (0, sR 287), (1, sI a0), (2, sI a1), (4, sI a3)]) C (by decide +kernel) (Nat.le_of_ble_eq_true rfl) rfl ?_
    refine zs_sub (ls' := [(0, sR 287), (5, sI 0)]) ⟨rfl, rfl, trivial⟩ ?_
    refine zs_lp (pc := 133) (fun (t3 : Int) => [(0, sR 287), (5, sI t3)]) (fun _ => []) (fun K4 hK4 t3 => ?_) BIG 0
    refine zs_iload (pc := 133) (i := 5) C (by decide +kernel) rfl ?_
    refine zs_sipush (pc := 135) (n := 625) (x := 625) C (by decide +kernel) (by decide +kernel) ?_
    refine zs_icmp_ge (pc := 138) (off := 30) (tgt := 168) C (by decide +kernel) (by decide) ?_ ?_
    · exact zs_retVv (pc := 168) C hr ⟨Nat.le_of_ble_eq_true rfl, Nat.le_of_ble_eq_true rfl⟩ (by decide +kernel)
    · refine zs_aload_n (pc := 141) (k := 0) (i := 0) C (by decide +kernel) rfl rfl ?_
      refine zs_getR (o' := 300) (pc := 142) (i := 51) (ci := 12) (k := 27) C (by decide +kernel) fl_RX12_51 rfl rfl rfl ?_
      refine zs_iload (pc := 145) (i := 5) C (by decide +kernel) rfl ?_
      refine zs_aload_n (pc := 147) (k := 0) (i := 0) C (by decide +kernel) rfl rfl ?_
      refine zs_iload (pc := 148) (i := 5) C (by decide +kernel) rfl ?_
      refine zs_bipush (pc := 150) (n := 25) (x := 25) C (by decide +kernel) (by decide +kernel) ?_
      refine zs_idiv (pc := 152) C (by decide +kernel) (by decide +kernel) ?_
      refine zs_iload (pc := 153) (i := 5) C (by decide +kernel) rfl ?_
      refine zs_bipush (pc := 155) (n := 25) (x := 25) C (by decide +kernel) (by decide +kernel) ?_
      refine zs_irem (pc := 157) C (by decide +kernel) (by decide +kernel) ?_
      refine zs_cvRi (pc := 158) (As := [sI (Int.tdiv t3 25), sI (Int.tmod t3 25)]) (st := [sI t3, sR 300]) C rfl (c_X12_apart l g (Int.tdiv t3 25) (Int.tmod t3 25)) ml_RX12_298 rfl rfl rfl rfl (Nat.le_of_ble_eq_true rfl) ⟨Nat.le_of_ble_eq_true rfl, Nat.le_of_ble_eq_true rfl⟩ ⟨Nat.le_of_ble_eq_true rfl, Nat.le_of_ble_eq_true rfl⟩ (by decide +kernel) (fun x5 => ?_)
      refine zs_iast (pc := 161) (o := 300) (n := 625) C (fun _ _ _ => rfl) (by decide +kernel) rfl ?_
      refine zs_iinc (pc := 162) (i := 5) (n := 1) (y := w32 (t3 + 1)) (ls' := [(5, sI (w32 (t3 + 1))), (0, sR 287)]) C (by decide +kernel) rfl rfl (Nat.le_of_ble_eq_true rfl) rfl ?_
      refine zs_goto (pc := 165) (off := (-32)) (tgt := 133) C (by decide +kernel) (by decide) ?_
      exact zs_goj (hK4 (w32 (t3 + 1))) ⟨rfl, rfl, trivial⟩
  · refine zs_aload_n (pc := 15) (k := 0) (i := 0) C (by decide +kernel) rfl rfl ?_
    refine zs_getR (o' := 296) (pc := 16) (i := 39) (ci := 12) (k := 23) C (by decide +kernel) fl_RX12_39 rfl rfl rfl ?_
    refine zs_iload (pc := 19) (i := 5) C (by decide +kernel) rfl ?_
    refine zs_iload (pc := 21) (i := 4) C (by decide +kernel) rfl ?_
    refine zs_jn (pJ := 48) (kJ := 0) (sJ := 0) (fun t6 => [(0, sR 287), (1, sI a0), (2, sI a1), (4, sI a3), (5, sI t1)]) (fun t6 => [sI t6, sI t1, sR 296]) (fun t6 => ?_) (fun J7 hJ7 => ?_)
    · refine zs_iast (pc := 48) (o := 296) (n := 41) C (fun _ _ _ => rfl) (by decide +kernel) rfl ?_
      refine zs_iconst (pc := 49) (n := 0) (x := 0) C (by decide +kernel) (by decide +kernel) ?_
      refine zs_istore (pc := 50) (i := 6) (ls' := [(6, sI 0), (0, sR 287), (1, sI a0), (2, sI a1), (4, sI a3), (5, sI t1)]) C (by decide +kernel) (Nat.le_of_ble_eq_true rfl) rfl ?_
      refine zs_sub (ls' := [(0, sR 287), (1, sI a0), (2, sI a1), (4, sI a3), (5, sI t1), (6, sI 0)]) ⟨rfl, rfl, rfl, rfl, rfl, rfl, trivial⟩ ?_
      refine zs_lp (pc := 52) (fun (t8 : Int) => [(0, sR 287), (1, sI a0), (2, sI a1), (4, sI a3), (5, sI t1), (6, sI t8)]) (fun _ => []) (fun K9 hK9 t8 => ?_) BIG 0
      refine zs_iload (pc := 52) (i := 6) C (by decide +kernel) rfl ?_
      refine zs_bipush (pc := 54) (n := 50) (x := 50) C (by decide +kernel) (by decide +kernel) ?_
      refine zs_icmp_ge (pc := 56) (off := 62) (tgt := 118) C (by decide +kernel) (by decide) ?_ ?_
      · refine zs_aload_n (pc := 118) (k := 0) (i := 0) C (by decide +kernel) rfl rfl ?_
        refine zs_iload (pc := 119) (i := 5) C (by decide +kernel) rfl ?_
        refine zs_cvVv (pc := 121) (As := [sI t1]) (st := []) C (fun _ _ _ => rfl) (c_X12_laysSteps l g t1) ml_RX12_442 rfl rfl rfl rfl (Nat.le_of_ble_eq_true rfl) ⟨Nat.le_of_ble_eq_true rfl, Nat.le_of_ble_eq_true rfl⟩ ⟨Nat.le_of_ble_eq_true rfl, Nat.le_of_ble_eq_true rfl⟩ (by decide +kernel) ?_
        refine zs_iinc (pc := 124) (i := 5) (n := 1) (y := w32 (t1 + 1)) (ls' := [(5, sI (w32 (t1 + 1))), (0, sR 287), (1, sI a0), (2, sI a1), (4, sI a3), (6, sI t8)]) C (by decide +kernel) rfl rfl (Nat.le_of_ble_eq_true rfl) rfl ?_
        refine zs_goto (pc := 127) (off := (-119)) (tgt := 8) C (by decide +kernel) (by decide) ?_
        exact zs_goj (hK2 (w32 (t1 + 1))) ⟨rfl, rfl, rfl, rfl, rfl, trivial⟩
      · refine zs_aload_n (pc := 59) (k := 0) (i := 0) C (by decide +kernel) rfl rfl ?_
        refine zs_getR (o' := 297) (pc := 60) (i := 42) (ci := 12) (k := 24) C (by decide +kernel) fl_RX12_42 rfl rfl rfl ?_
        refine zs_iload (pc := 63) (i := 6) C (by decide +kernel) rfl ?_
        refine zs_aload_n (pc := 65) (k := 0) (i := 0) C (by decide +kernel) rfl rfl ?_
        refine zs_iload (pc := 66) (i := 6) C (by decide +kernel) rfl ?_
        refine zs_bipush (pc := 68) (n := 25) (x := 25) C (by decide +kernel) (by decide +kernel) ?_
        refine zs_irem (pc := 70) C (by decide +kernel) (by decide +kernel) ?_
        refine zs_i2l (pc := 71) C (by decide +kernel) ?_
        refine zs_cvRi (pc := 72) (As := [sL (Int.tmod t8 25)]) (st := [sI t8, sR 297]) C rfl (c_X12_isPlace l g (Int.tmod t8 25)) ml_RX12_334 rfl rfl rfl rfl (Nat.le_of_ble_eq_true rfl) ⟨Nat.le_of_ble_eq_true rfl, Nat.le_of_ble_eq_true rfl⟩ ⟨Nat.le_of_ble_eq_true rfl, Nat.le_of_ble_eq_true rfl⟩ (by decide +kernel) (fun x10 => ?_)
        refine zs_jn (pJ := 111) (kJ := 0) (sJ := 0) (fun t11 => [(0, sR 287), (1, sI a0), (2, sI a1), (4, sI a3), (5, sI t1), (6, sI t8)]) (fun t11 => [sI t11, sI t8, sR 297]) (fun t11 => ?_) (fun J12 hJ12 => ?_)
        · refine zs_zast (pc := 111) (o := 297) (n := 50) C (fun _ _ _ => rfl) (by decide +kernel) rfl ?_
          refine zs_iinc (pc := 112) (i := 6) (n := 1) (y := w32 (t8 + 1)) (ls' := [(6, sI (w32 (t8 + 1))), (0, sR 287), (1, sI a0), (2, sI a1), (4, sI a3), (5, sI t1)]) C (by decide +kernel) rfl rfl (Nat.le_of_ble_eq_true rfl) rfl ?_
          refine zs_goto (pc := 115) (off := (-63)) (tgt := 52) C (by decide +kernel) (by decide) ?_
          exact zs_goj (hK9 (w32 (t8 + 1))) ⟨rfl, rfl, rfl, rfl, rfl, rfl, trivial⟩
        · refine zs_jn (pJ := 110) (kJ := 0) (sJ := 0) (fun t13 => [(0, sR 287), (1, sI a0), (2, sI a1), (4, sI a3), (5, sI t1), (6, sI t8)]) (fun t13 => [sI t8, sR 297]) (fun t13 => ?_) (fun J14 hJ14 => ?_)
          · refine zs_iconst (pc := 110) (n := 0) (x := 0) C (by decide +kernel) (by decide +kernel) ?_
            exact zs_goj (hJ12 0) ⟨rfl, rfl, rfl, rfl, rfl, rfl, trivial⟩
          · refine zs_if_eq (pc := 75) (off := 35) (tgt := 110) C (by decide +kernel) (by decide) ?_ ?_
            · exact zs_goj (hJ14 ()) ⟨rfl, rfl, rfl, rfl, rfl, rfl, trivial⟩
            · refine zs_aload_n (pc := 78) (k := 0) (i := 0) C (by decide +kernel) rfl rfl ?_
              refine zs_iload_n (pc := 79) (k := 1) (i := 1) C (by decide +kernel) rfl rfl ?_
              refine zs_iload (pc := 80) (i := 6) C (by decide +kernel) rfl ?_
              refine zs_bipush (pc := 82) (n := 25) (x := 25) C (by decide +kernel) (by decide +kernel) ?_
              refine zs_idiv (pc := 84) C (by decide +kernel) (by decide +kernel) ?_
              refine zs_iload (pc := 85) (i := 6) C (by decide +kernel) rfl ?_
              refine zs_bipush (pc := 87) (n := 25) (x := 25) C (by decide +kernel) (by decide +kernel) ?_
              refine zs_irem (pc := 89) C (by decide +kernel) (by decide +kernel) ?_
              refine zs_aload_n (pc := 90) (k := 0) (i := 0) C (by decide +kernel) rfl rfl ?_
              refine zs_getR (o' := 288) (pc := 91) (i := 9) (ci := 12) (k := 0) C (by decide +kernel) fl_RX12_9 rfl rfl rfl ?_
              refine zs_bipush (pc := 94) (n := 24) (x := 24) C (by decide +kernel) (by decide +kernel) ?_
              refine zs_ialdk (pc := 96) (o := 288) (n := 2005) C (by decide) (by decide +kernel) rfl (fun x15 => ?_)
              refine zs_iload (pc := 97) (i := 5) C (by decide +kernel) rfl ?_
              refine zs_iadd (pc := 99) C (by decide +kernel) ?_
              refine zs_cvWi (pc := 100) (As := [sI a0, sI (Int.tdiv t8 25), sI (Int.tmod t8 25), sI (w32 (x15 + t1))]) (st := [sI t8, sR 297]) C (fun _ _ _ => rfl) rfl (c_X12_mayGo l g a0 (Int.tdiv t8 25) (Int.tmod t8 25) (w32 (x15 + t1))) ml_RX12_357 rfl rfl rfl rfl (Nat.le_of_ble_eq_true rfl) ⟨Nat.le_of_ble_eq_true rfl, Nat.le_of_ble_eq_true rfl⟩ ⟨Nat.le_of_ble_eq_true rfl, Nat.le_of_ble_eq_true rfl⟩ (by decide +kernel) (fun x16 => ?_)
              refine zs_if_eq (pc := 103) (off := 7) (tgt := 110) C (by decide +kernel) (by decide) ?_ ?_
              · exact zs_goj (hJ14 ()) ⟨rfl, rfl, rfl, rfl, rfl, rfl, trivial⟩
              · refine zs_iconst (pc := 106) (n := 1) (x := 1) C (by decide +kernel) (by decide +kernel) ?_
                refine zs_goto (pc := 107) (off := 4) (tgt := 111) C (by decide +kernel) (by decide) ?_
                exact zs_goj (hJ12 1) ⟨rfl, rfl, rfl, rfl, rfl, rfl, trivial⟩
    · refine zs_if_eq (pc := 23) (off := 22) (tgt := 45) C (by decide +kernel) (by decide) ?_ ?_
      · refine zs_ldcw (pc := 45) (i := 441) (v := 536870912) (x := 536870912) C (by decide +kernel) wf_2282 (by decide +kernel) ?_
        exact zs_goj (hJ7 536870912) ⟨rfl, rfl, rfl, rfl, rfl, trivial⟩
      · refine zs_aload_n (pc := 26) (k := 0) (i := 0) C (by decide +kernel) rfl rfl ?_
        refine zs_iload_n (pc := 27) (k := 1) (i := 1) C (by decide +kernel) rfl rfl ?_
        refine zs_iload_n (pc := 28) (k := 2) (i := 2) C (by decide +kernel) rfl rfl ?_
        refine zs_aload_n (pc := 29) (k := 0) (i := 0) C (by decide +kernel) rfl rfl ?_
        refine zs_getR (o' := 288) (pc := 30) (i := 9) (ci := 12) (k := 0) C (by decide +kernel) fl_RX12_9 rfl rfl rfl ?_
        refine zs_bipush (pc := 33) (n := 24) (x := 24) C (by decide +kernel) (by decide +kernel) ?_
        refine zs_ialdk (pc := 35) (o := 288) (n := 2005) C (by decide) (by decide +kernel) rfl (fun x17 => ?_)
        refine zs_iload (pc := 36) (i := 5) C (by decide +kernel) rfl ?_
        refine zs_iadd (pc := 38) C (by decide +kernel) ?_
        refine zs_cvWi (pc := 39) (As := [sI a0, sI a1, sI (w32 (x17 + t1))]) (st := [sI t1, sR 296]) C (fun _ _ _ => rfl) rfl (c_X12_lengthIn l g a0 a1 (w32 (x17 + t1))) ml_RX12_330 rfl rfl rfl rfl (Nat.le_of_ble_eq_true rfl) ⟨Nat.le_of_ble_eq_true rfl, Nat.le_of_ble_eq_true rfl⟩ ⟨Nat.le_of_ble_eq_true rfl, Nat.le_of_ble_eq_true rfl⟩ (by decide +kernel) (fun x18 => ?_)
        refine zs_goto (pc := 42) (off := 6) (tgt := 48) C (by decide +kernel) (by decide) ?_
        exact zs_goj (hJ7 x18) ⟨rfl, rfl, rfl, rfl, rfl, trivial⟩
set_option maxRecDepth 20000 in
theorem c_X12_laysOwn (l : Launch) (g : GC) (a0 : Int) : ConV l g yX12_laysOwn cX12_laysOwn 2 (rmd 6 0 0) [sR 287, sI a0] (fun mm => fX12_laysOwn a0 mm) := by
  refine zs_ofV (by decide +kernel) (Nat.le_of_ble_eq_true rfl) ?_
  intro p e s m args below meth c C hr
  replace C : Bd g RX12 cX12_laysOwn 2 p s m args meth c := C
  unfold fX12_laysOwn
  refine zs_aload_n (pc := 0) (k := 0) (i := 0) C (by decide +kernel) rfl rfl ?_
  refine zs_iload_n (pc := 1) (k := 1) (i := 1) C (by decide +kernel) rfl rfl ?_
  refine zs_aload_n (pc := 2) (k := 0) (i := 0) C (by decide +kernel) rfl rfl ?_
  refine zs_getR (o' := 288) (pc := 3) (i := 9) (ci := 12) (k := 0) C (by decide +kernel) fl_RX12_9 rfl rfl rfl ?_
  refine zs_bipush (pc := 6) (n := 25) (x := 25) C (by decide +kernel) (by decide +kernel) ?_
  refine zs_iload_n (pc := 8) (k := 1) (i := 1) C (by decide +kernel) rfl rfl ?_
  refine zs_iadd (pc := 9) C (by decide +kernel) ?_
  refine zs_iald (pc := 10) (o := 288) (n := 2005) C (by decide +kernel) rfl (fun hinx1 x1 => ?_)
  refine zs_aload_n (pc := 11) (k := 0) (i := 0) C (by decide +kernel) rfl rfl ?_
  refine zs_getR (o' := 288) (pc := 12) (i := 9) (ci := 12) (k := 0) C (by decide +kernel) fl_RX12_9 rfl rfl rfl ?_
  refine zs_bipush (pc := 15) (n := 8) (x := 8) C (by decide +kernel) (by decide +kernel) ?_
  refine zs_ialdk (pc := 17) (o := 288) (n := 2005) C (by decide) (by decide +kernel) rfl (fun x2 => ?_)
  refine zs_aload_n (pc := 18) (k := 0) (i := 0) C (by decide +kernel) rfl rfl ?_
  refine zs_iload_n (pc := 19) (k := 1) (i := 1) C (by decide +kernel) rfl rfl ?_
  refine zs_cvRi (pc := 20) (As := [sI a0]) (st := [sI x2, sI x1, sI a0, sR 287]) C rfl (c_X12_isParted l g a0) ml_RX12_349 rfl rfl rfl rfl (Nat.le_of_ble_eq_true rfl) ⟨Nat.le_of_ble_eq_true rfl, Nat.le_of_ble_eq_true rfl⟩ ⟨Nat.le_of_ble_eq_true rfl, Nat.le_of_ble_eq_true rfl⟩ (by decide +kernel) (fun x3 => ?_)
  refine zs_jn (pJ := 31) (kJ := 0) (sJ := 0) (fun t4 => []) (fun t4 => [sI t4, sI x2, sI x1, sI a0, sR 287]) (fun t4 => ?_) (fun J5 hJ5 => ?_)
  · refine zs_cvVv (pc := 31) (As := [sI a0, sI x1, sI x2, sI t4]) (st := []) C (fun _ _ _ => rfl) (c_X12_laysHours l g a0 x1 x2 t4) ml_RX12_445 rfl rfl rfl rfl (Nat.le_of_ble_eq_true rfl) ⟨Nat.le_of_ble_eq_true rfl, Nat.le_of_ble_eq_true rfl⟩ ⟨Nat.le_of_ble_eq_true rfl, Nat.le_of_ble_eq_true rfl⟩ (by decide +kernel) ?_
    exact zs_retVv (pc := 34) C hr ⟨Nat.le_of_ble_eq_true rfl, Nat.le_of_ble_eq_true rfl⟩ (by decide +kernel)
  · refine zs_if_ne (pc := 23) (off := 7) (tgt := 30) C (by decide +kernel) (by decide) ?_ ?_
    · refine zs_iconst (pc := 30) (n := 0) (x := 0) C (by decide +kernel) (by decide +kernel) ?_
      exact zs_goj (hJ5 0) trivial
    · refine zs_iconst (pc := 26) (n := 1) (x := 1) C (by decide +kernel) (by decide +kernel) ?_
      refine zs_goto (pc := 27) (off := 4) (tgt := 31) C (by decide +kernel) (by decide) ?_
      exact zs_goj (hJ5 1) trivial
set_option maxRecDepth 20000 in
theorem c_X12_oneIn (l : Launch) (g : GC) (a0 : Int) (a1 : Int) (a2 : Int) (a3 : Int) : ConR l g yX12_oneIn cX12_oneIn 6 (some .int) (rmd 2 0 0) [sR 287, sI a0, sI a1, sI a2, sI a3] (fun mm => fX12_oneIn a0 a1 a2 a3 mm) := by
  refine zs_ofR (by decide +kernel) (Nat.le_of_ble_eq_true rfl) ?_
  intro p e s m args below meth c C hr
  replace C : Bd g RX12 cX12_oneIn 6 p s m args meth c := C
  unfold fX12_oneIn
  refine zs_aload_n (pc := 0) (k := 0) (i := 0) C (by decide +kernel) rfl rfl ?_
  refine zs_getR (o' := 299) (pc := 1) (i := 48) (ci := 12) (k := 26) C (by decide +kernel) fl_RX12_48 rfl rfl rfl ?_
  refine zs_sipush (pc := 4) (n := 250) (x := 250) C (by decide +kernel) (by decide +kernel) ?_
  refine zs_iload_n (pc := 7) (k := 1) (i := 1) C (by decide +kernel) rfl rfl ?_
  refine zs_imul (pc := 8) C (by decide +kernel) ?_
  refine zs_bipush (pc := 9) (n := 125) (x := 125) C (by decide +kernel) (by decide +kernel) ?_
  refine zs_iload_n (pc := 11) (k := 2) (i := 2) C (by decide +kernel) rfl rfl ?_
  refine zs_imul (pc := 12) C (by decide +kernel) ?_
  refine zs_iadd (pc := 13) C (by decide +kernel) ?_
  refine zs_iconst (pc := 14) (n := 5) (x := 5) C (by decide +kernel) (by decide +kernel) ?_
  refine zs_iload_n (pc := 15) (k := 3) (i := 3) C (by decide +kernel) rfl rfl ?_
  refine zs_imul (pc := 16) C (by decide +kernel) ?_
  refine zs_iadd (pc := 17) C (by decide +kernel) ?_
  refine zs_iload (pc := 18) (i := 4) C (by decide +kernel) rfl ?_
  refine zs_iadd (pc := 20) C (by decide +kernel) ?_
  refine zs_iald (pc := 21) (o := 299) (n := 10250) C (by decide +kernel) rfl (fun hinx1 x1 => ?_)
  refine zs_istore (pc := 22) (i := 5) (ls' := [(5, sI x1), (0, sR 287), (1, sI a0), (2, sI a1), (3, sI a2), (4, sI a3)]) C (by decide +kernel) (Nat.le_of_ble_eq_true rfl) rfl ?_
  refine zs_iload (pc := 24) (i := 4) C (by decide +kernel) rfl ?_
  refine zs_jn (pJ := 53) (kJ := 0) (sJ := 0) (fun t2 => []) (fun t2 => [sI t2]) (fun t2 => ?_) (fun J3 hJ3 => ?_)
  · exact zs_retRi (pc := 53) C hr ⟨Nat.le_of_ble_eq_true rfl, Nat.le_of_ble_eq_true rfl⟩ (by decide +kernel)
  · refine zs_jn (pJ := 47) (kJ := 0) (sJ := 0) (fun t4 => [(5, sI x1)]) (fun t4 => []) (fun t4 => ?_) (fun J5 hJ5 => ?_)
    · refine zs_iload (pc := 47) (i := 5) C (by decide +kernel) rfl ?_
      refine zs_goto (pc := 49) (off := 4) (tgt := 53) C (by decide +kernel) (by decide) ?_
      exact zs_goj (hJ3 x1) trivial
    · refine zs_if_eq (pc := 26) (off := 21) (tgt := 47) C (by decide +kernel) (by decide) ?_ ?_
      · exact zs_goj (hJ5 ()) ⟨rfl, trivial⟩
      · refine zs_iload (pc := 29) (i := 5) C (by decide +kernel) rfl ?_
        refine zs_iconst (pc := 31) (n := (-1)) (x := (-1)) C (by decide +kernel) (by decide +kernel) ?_
        refine zs_jn (pJ := 52) (kJ := 0) (sJ := 0) (fun t6 => []) (fun t6 => []) (fun t6 => ?_) (fun J7 hJ7 => ?_)
        · refine zs_iconst (pc := 52) (n := (-1)) (x := (-1)) C (by decide +kernel) (by decide +kernel) ?_
          exact zs_goj (hJ3 (-1)) trivial
        · refine zs_icmp_eq (pc := 32) (off := 20) (tgt := 52) C (by decide +kernel) (by decide) ?_ ?_
          · exact zs_goj (hJ7 ()) trivial
          · refine zs_aload_n (pc := 35) (k := 0) (i := 0) C (by decide +kernel) rfl rfl ?_
            refine zs_getI (pc := 36) (i := 438) (ci := 12) (k := 28) C (by decide +kernel) fl_RX12_438 rfl rfl (fun x8 => ?_)
            refine zs_iload (pc := 39) (i := 5) C (by decide +kernel) rfl ?_
            refine zs_csRi (pc := 41) (As := [sI x8, sI x1]) (st := []) C rfl (c_X12_has l g x8 x1) ml_RX12_230 rfl rfl (Nat.le_of_ble_eq_true rfl) ⟨Nat.le_of_ble_eq_true rfl, Nat.le_of_ble_eq_true rfl⟩ ⟨Nat.le_of_ble_eq_true rfl, Nat.le_of_ble_eq_true rfl⟩ (by decide +kernel) (fun x9 => ?_)
            refine zs_if_ne (pc := 44) (off := 8) (tgt := 52) C (by decide +kernel) (by decide) ?_ ?_
            · exact zs_goj (hJ7 ()) trivial
            · exact zs_goj (hJ5 ()) ⟨rfl, trivial⟩
set_option maxRecDepth 20000 in
theorem c_X12_bothIn (l : Launch) (g : GC) (a0 : Int) (a1 : Int) (a2 : Int) : ConR l g yX12_bothIn cX12_bothIn 6 (some .int) (rmd 3 0 0) [sR 287, sI a0, sI a1, sI a2] (fun mm => fX12_bothIn a0 a1 a2 mm) := by
  refine zs_ofR (by decide +kernel) (Nat.le_of_ble_eq_true rfl) ?_
  intro p e s m args below meth c C hr
  replace C : Bd g RX12 cX12_bothIn 6 p s m args meth c := C
  unfold fX12_bothIn
  refine zs_aload_n (pc := 0) (k := 0) (i := 0) C (by decide +kernel) rfl rfl ?_
  refine zs_iload_n (pc := 1) (k := 1) (i := 1) C (by decide +kernel) rfl rfl ?_
  refine zs_iconst (pc := 2) (n := 0) (x := 0) C (by decide +kernel) (by decide +kernel) ?_
  refine zs_iload_n (pc := 3) (k := 2) (i := 2) C (by decide +kernel) rfl rfl ?_
  refine zs_bipush (pc := 4) (n := 25) (x := 25) C (by decide +kernel) (by decide +kernel) ?_
  refine zs_idiv (pc := 6) C (by decide +kernel) (by decide +kernel) ?_
  refine zs_iload_n (pc := 7) (k := 3) (i := 3) C (by decide +kernel) rfl rfl ?_
  refine zs_bipush (pc := 8) (n := 10) (x := 10) C (by decide +kernel) (by decide +kernel) ?_
  refine zs_idiv (pc := 10) C (by decide +kernel) (by decide +kernel) ?_
  refine zs_cvRi (pc := 11) (As := [sI a0, sI 0, sI (Int.tdiv a1 25), sI (Int.tdiv a2 10)]) (st := []) C rfl (c_X12_oneIn l g a0 0 (Int.tdiv a1 25) (Int.tdiv a2 10)) ml_RX12_449 rfl rfl rfl rfl (Nat.le_of_ble_eq_true rfl) ⟨Nat.le_of_ble_eq_true rfl, Nat.le_of_ble_eq_true rfl⟩ ⟨Nat.le_of_ble_eq_true rfl, Nat.le_of_ble_eq_true rfl⟩ (by decide +kernel) (fun x1 => ?_)
  refine zs_istore (pc := 14) (i := 4) (ls' := [(4, sI x1), (0, sR 287), (1, sI a0), (2, sI a1), (3, sI a2)]) C (by decide +kernel) (Nat.le_of_ble_eq_true rfl) rfl ?_
  refine zs_aload_n (pc := 16) (k := 0) (i := 0) C (by decide +kernel) rfl rfl ?_
  refine zs_iload_n (pc := 17) (k := 1) (i := 1) C (by decide +kernel) rfl rfl ?_
  refine zs_iconst (pc := 18) (n := 1) (x := 1) C (by decide +kernel) (by decide +kernel) ?_
  refine zs_iload_n (pc := 19) (k := 2) (i := 2) C (by decide +kernel) rfl rfl ?_
  refine zs_bipush (pc := 20) (n := 25) (x := 25) C (by decide +kernel) (by decide +kernel) ?_
  refine zs_irem (pc := 22) C (by decide +kernel) (by decide +kernel) ?_
  refine zs_iload_n (pc := 23) (k := 3) (i := 3) C (by decide +kernel) rfl rfl ?_
  refine zs_bipush (pc := 24) (n := 10) (x := 10) C (by decide +kernel) (by decide +kernel) ?_
  refine zs_irem (pc := 26) C (by decide +kernel) (by decide +kernel) ?_
  refine zs_cvRi (pc := 27) (As := [sI a0, sI 1, sI (Int.tmod a1 25), sI (Int.tmod a2 10)]) (st := []) C rfl (c_X12_oneIn l g a0 1 (Int.tmod a1 25) (Int.tmod a2 10)) ml_RX12_449 rfl rfl rfl rfl (Nat.le_of_ble_eq_true rfl) ⟨Nat.le_of_ble_eq_true rfl, Nat.le_of_ble_eq_true rfl⟩ ⟨Nat.le_of_ble_eq_true rfl, Nat.le_of_ble_eq_true rfl⟩ (by decide +kernel) (fun x2 => ?_)
  refine zs_istore (pc := 30) (i := 5) (ls' := [(5, sI x2), (4, sI x1), (0, sR 287), (1, sI a0), (2, sI a1), (3, sI a2)]) C (by decide +kernel) (Nat.le_of_ble_eq_true rfl) rfl ?_
  refine zs_iload (pc := 32) (i := 4) C (by decide +kernel) rfl ?_
  refine zs_iconst (pc := 34) (n := (-1)) (x := (-1)) C (by decide +kernel) (by decide +kernel) ?_
  refine zs_jn (pJ := 78) (kJ := 0) (sJ := 0) (fun t3 => []) (fun t3 => [sI t3]) (fun t3 => ?_) (fun J4 hJ4 => ?_)
  · exact zs_retRi (pc := 78) C hr ⟨Nat.le_of_ble_eq_true rfl, Nat.le_of_ble_eq_true rfl⟩ (by decide +kernel)
  · refine zs_jn (pJ := 66) (kJ := 0) (sJ := 0) (fun t5 => []) (fun t5 => []) (fun t5 => ?_) (fun J6 hJ6 => ?_)
    · refine zs_iconst (pc := 66) (n := (-1)) (x := (-1)) C (by decide +kernel) (by decide +kernel) ?_
      refine zs_goto (pc := 67) (off := 11) (tgt := 78) C (by decide +kernel) (by decide) ?_
      exact zs_goj (hJ4 (-1)) trivial
    · refine zs_icmp_eq (pc := 35) (off := 31) (tgt := 66) C (by decide +kernel) (by decide) ?_ ?_
      · exact zs_goj (hJ6 ()) trivial
      · refine zs_iload (pc := 38) (i := 5) C (by decide +kernel) rfl ?_
        refine zs_iconst (pc := 40) (n := (-1)) (x := (-1)) C (by decide +kernel) (by decide +kernel) ?_
        refine zs_icmp_eq (pc := 41) (off := 25) (tgt := 66) C (by decide +kernel) (by decide) ?_ ?_
        · exact zs_goj (hJ6 ()) trivial
        · refine zs_aload_n (pc := 44) (k := 0) (i := 0) C (by decide +kernel) rfl rfl ?_
          refine zs_getR (o' := 300) (pc := 45) (i := 51) (ci := 12) (k := 27) C (by decide +kernel) fl_RX12_51 rfl rfl rfl ?_
          refine zs_bipush (pc := 48) (n := 25) (x := 25) C (by decide +kernel) (by decide +kernel) ?_
          refine zs_iload (pc := 50) (i := 4) C (by decide +kernel) rfl ?_
          refine zs_imul (pc := 52) C (by decide +kernel) ?_
          refine zs_iload (pc := 53) (i := 5) C (by decide +kernel) rfl ?_
          refine zs_iadd (pc := 55) C (by decide +kernel) ?_
          refine zs_iald (pc := 56) (o := 300) (n := 625) C (by decide +kernel) rfl (fun hinx7 x7 => ?_)
          refine zs_aload_n (pc := 57) (k := 0) (i := 0) C (by decide +kernel) rfl rfl ?_
          refine zs_getR (o' := 296) (pc := 58) (i := 39) (ci := 12) (k := 23) C (by decide +kernel) fl_RX12_39 rfl rfl rfl ?_
          refine zs_iload_n (pc := 61) (k := 1) (i := 1) C (by decide +kernel) rfl rfl ?_
          refine zs_iald (pc := 62) (o := 296) (n := 41) C (by decide +kernel) rfl (fun hinx8 x8 => ?_)
          refine zs_icmp_le (pc := 63) (off := 7) (tgt := 70) C (by decide +kernel) (by decide) ?_ ?_
          · refine zs_bipush (pc := 70) (n := 25) (x := 25) C (by decide +kernel) (by decide +kernel) ?_
            refine zs_iload (pc := 72) (i := 4) C (by decide +kernel) rfl ?_
            refine zs_imul (pc := 74) C (by decide +kernel) ?_
            refine zs_iload (pc := 75) (i := 5) C (by decide +kernel) rfl ?_
            refine zs_iadd (pc := 77) C (by decide +kernel) ?_
            exact zs_goj (hJ4 (w32 ((w32 (25 * x1)) + x2))) trivial
          · exact zs_goj (hJ6 ()) trivial
set_option maxRecDepth 20000 in
theorem c_X12_bothNow (l : Launch) (g : GC) (a0 : Int) : ConR l g yX12_bothNow cX12_bothNow 2 (some .int) (rmd 1 0 0) [sR 287, sI a0] (fun mm => fX12_bothNow a0 mm) := by
  refine zs_ofR (by decide +kernel) (Nat.le_of_ble_eq_true rfl) ?_
  intro p e s m args below meth c C hr
  replace C : Bd g RX12 cX12_bothNow 2 p s m args meth c := C
  unfold fX12_bothNow
  refine zs_bipush (pc := 0) (n := 25) (x := 25) C (by decide +kernel) (by decide +kernel) ?_
  refine zs_aload_n (pc := 2) (k := 0) (i := 0) C (by decide +kernel) rfl rfl ?_
  refine zs_getR (o' := 288) (pc := 3) (i := 9) (ci := 12) (k := 0) C (by decide +kernel) fl_RX12_9 rfl rfl rfl ?_
  refine zs_bipush (pc := 6) (n := 13) (x := 13) C (by decide +kernel) (by decide +kernel) ?_
  refine zs_iload_n (pc := 8) (k := 1) (i := 1) C (by decide +kernel) rfl rfl ?_
  refine zs_iadd (pc := 9) C (by decide +kernel) ?_
  refine zs_iald (pc := 10) (o := 288) (n := 2005) C (by decide +kernel) rfl (fun hinx1 x1 => ?_)
  refine zs_imul (pc := 11) C (by decide +kernel) ?_
  refine zs_aload_n (pc := 12) (k := 0) (i := 0) C (by decide +kernel) rfl rfl ?_
  refine zs_getR (o' := 288) (pc := 13) (i := 9) (ci := 12) (k := 0) C (by decide +kernel) fl_RX12_9 rfl rfl rfl ?_
  refine zs_bipush (pc := 16) (n := 17) (x := 17) C (by decide +kernel) (by decide +kernel) ?_
  refine zs_iload_n (pc := 18) (k := 1) (i := 1) C (by decide +kernel) rfl rfl ?_
  refine zs_iadd (pc := 19) C (by decide +kernel) ?_
  refine zs_iald (pc := 20) (o := 288) (n := 2005) C (by decide +kernel) rfl (fun hinx2 x2 => ?_)
  refine zs_iadd (pc := 21) C (by decide +kernel) ?_
  exact zs_retRi (pc := 22) C hr ⟨Nat.le_of_ble_eq_true rfl, Nat.le_of_ble_eq_true rfl⟩ (by decide +kernel)
set_option maxRecDepth 20000 in
theorem c_X12_turnsOf (l : Launch) (g : GC) (a0 : Int) : ConR l g yX12_turnsOf cX12_turnsOf 1 (some .int) (rmd 1 0 0) [sI a0] (fun mm => fX12_turnsOf a0 mm) := by
  refine zs_ofR (by decide +kernel) (Nat.le_of_ble_eq_true rfl) ?_
  intro p e s m args below meth c C hr
  replace C : Bd g RX12 cX12_turnsOf 1 p s m args meth c := C
  unfold fX12_turnsOf
  refine zs_iload_n (pc := 0) (k := 0) (i := 0) C (by decide +kernel) rfl rfl ?_
  refine zs_iconst (pc := 1) (n := 5) (x := 5) C (by decide +kernel) (by decide +kernel) ?_
  refine zs_idiv (pc := 2) C (by decide +kernel) (by decide +kernel) ?_
  refine zs_bipush (pc := 3) (n := 10) (x := 10) C (by decide +kernel) (by decide +kernel) ?_
  refine zs_imul (pc := 5) C (by decide +kernel) ?_
  refine zs_iload_n (pc := 6) (k := 0) (i := 0) C (by decide +kernel) rfl rfl ?_
  refine zs_iconst (pc := 7) (n := 5) (x := 5) C (by decide +kernel) (by decide +kernel) ?_
  refine zs_irem (pc := 8) C (by decide +kernel) (by decide +kernel) ?_
  refine zs_iadd (pc := 9) C (by decide +kernel) ?_
  exact zs_retRi (pc := 10) C hr ⟨Nat.le_of_ble_eq_true rfl, Nat.le_of_ble_eq_true rfl⟩ (by decide +kernel)
set_option maxRecDepth 20000 in
theorem c_X12_laysCan (l : Launch) (g : GC) (a0 : Int) (a1 : Int) : ConV l g yX12_laysCan cX12_laysCan 7 (rmd 4 0 0) [sR 287, sI a0, sI a1] (fun mm => fX12_laysCan a0 a1 mm) := by
  refine zs_ofV (by decide +kernel) (Nat.le_of_ble_eq_true rfl) ?_
  intro p e s m args below meth c C hr
  replace C : Bd g RX12 cX12_laysCan 7 p s m args meth c := C
  unfold fX12_laysCan
  refine zs_iconst (pc := 0) (n := 0) (x := 0) C (by decide +kernel) (by decide +kernel) ?_
  refine zs_istore_n (pc := 1) (k := 3) (i := 3) (ls' := [(3, sI 0), (0, sR 287), (1, sI a0), (2, sI a1)]) C (by decide +kernel) rfl (Nat.le_of_ble_eq_true rfl) rfl ?_
  refine zs_sub (ls' := [(0, sR 287), (1, sI a0), (2, sI a1), (3, sI 0)]) ⟨rfl, rfl, rfl, rfl, trivial⟩ ?_
  refine zs_lp (pc := 2) (fun (t1 : Int) => [(0, sR 287), (1, sI a0), (2, sI a1), (3, sI t1)]) (fun _ => []) (fun K2 hK2 t1 => ?_) BIG 0
  refine zs_iload_n (pc := 2) (k := 3) (i := 3) C (by decide +kernel) rfl rfl ?_
  refine zs_sipush (pc := 3) (n := 625) (x := 625) C (by decide +kernel) (by decide +kernel) ?_
  refine zs_iload_n (pc := 6) (k := 2) (i := 2) C (by decide +kernel) rfl rfl ?_
  refine zs_iconst (pc := 7) (n := 1) (x := 1) C (by decide +kernel) (by decide +kernel) ?_
  refine zs_iadd (pc := 8) C (by decide +kernel) ?_
  refine zs_imul (pc := 9) C (by decide +kernel) ?_
  refine zs_icmp_ge (pc := 10) (off := 16) (tgt := 26) C (by decide +kernel) (by decide) ?_ ?_
  · refine zs_aload_n (pc := 26) (k := 0) (i := 0) C (by decide +kernel) rfl rfl ?_
    refine zs_getR (o' := 298) (pc := 27) (i := 45) (ci := 12) (k := 25) C (by decide +kernel) fl_RX12_45 rfl rfl rfl ?_
    refine zs_aload_n (pc := 30) (k := 0) (i := 0) C (by decide +kernel) rfl rfl ?_
    refine zs_iload_n (pc := 31) (k := 1) (i := 1) C (by decide +kernel) rfl rfl ?_
    refine zs_cvRi (pc := 32) (As := [sI a0]) (st := [sR 298]) C rfl (c_X12_bothNow l g a0) ml_RX12_452 rfl rfl rfl rfl (Nat.le_of_ble_eq_true rfl) ⟨Nat.le_of_ble_eq_true rfl, Nat.le_of_ble_eq_true rfl⟩ ⟨Nat.le_of_ble_eq_true rfl, Nat.le_of_ble_eq_true rfl⟩ (by decide +kernel) (fun x3 => ?_)
    refine zs_iconst (pc := 35) (n := 1) (x := 1) C (by decide +kernel) (by decide +kernel) ?_
    refine zs_zast (pc := 36) (o := 298) (n := 25625) C (fun _ _ _ => rfl) (by decide +kernel) rfl ?_
    refine zs_iconst (pc := 37) (n := 1) (x := 1) C (by decide +kernel) (by decide +kernel) ?_
    refine zs_istore_n (pc := 38) (k := 3) (i := 3) (ls' := [(3, sI 1), (0, sR 287), (1, sI a0), (2, sI a1)]) C (by decide +kernel) rfl (Nat.le_of_ble_eq_true rfl) rfl ?_
    refine zs_sub (ls' := [(0, sR 287), (2, sI a1), (3, sI 1)]) ⟨rfl, rfl, rfl, trivial⟩ ?_
    refine zs_lp (pc := 39) (fun (t4 : Int) => [(0, sR 287), (2, sI a1), (3, sI t4)]) (fun _ => []) (fun K5 hK5 t4 => ?_) BIG 1
    refine zs_iload_n (pc := 39) (k := 3) (i := 3) C (by decide +kernel) rfl rfl ?_
    refine zs_iload_n (pc := 40) (k := 2) (i := 2) C (by decide +kernel) rfl rfl ?_
    refine zs_icmp_gt (pc := 41) (off := 97) (tgt := 138) C (by decide +kernel) (by decide) ?_ ?_
    · exact zs_retVv (pc := 138) C hr ⟨Nat.le_of_ble_eq_true rfl, Nat.le_of_ble_eq_true rfl⟩ (by decide +kernel)
    · refine zs_iconst (pc := 44) (n := 0) (x := 0) C (by decide +kernel) (by decide +kernel) ?_
      refine zs_istore (pc := 45) (i := 4) (ls' := [(4, sI 0), (0, sR 287), (2, sI a1), (3, sI t4)]) C (by decide +kernel) (Nat.le_of_ble_eq_true rfl) rfl ?_
      refine zs_sub (ls' := [(0, sR 287), (2, sI a1), (3, sI t4), (4, sI 0)]) ⟨rfl, rfl, rfl, rfl, trivial⟩ ?_
      refine zs_lp (pc := 47) (fun (t6 : Int) => [(0, sR 287), (2, sI a1), (3, sI t4), (4, sI t6)]) (fun _ => []) (fun K7 hK7 t6 => ?_) BIG 0
      refine zs_iload (pc := 47) (i := 4) C (by decide +kernel) rfl ?_
      refine zs_sipush (pc := 49) (n := 625) (x := 625) C (by decide +kernel) (by decide +kernel) ?_
      refine zs_icmp_ge (pc := 52) (off := 80) (tgt := 132) C (by decide +kernel) (by decide) ?_ ?_
      · refine zs_iinc (pc := 132) (i := 3) (n := 1) (y := w32 (t4 + 1)) (ls' := [(3, sI (w32 (t4 + 1))), (0, sR 287), (2, sI a1), (4, sI t6)]) C (by decide +kernel) rfl rfl (Nat.le_of_ble_eq_true rfl) rfl ?_
        refine zs_goto (pc := 135) (off := (-96)) (tgt := 39) C (by decide +kernel) (by decide) ?_
        exact zs_goj (hK5 (w32 (t4 + 1))) ⟨rfl, rfl, rfl, trivial⟩
      · refine zs_aload_n (pc := 55) (k := 0) (i := 0) C (by decide +kernel) rfl rfl ?_
        refine zs_getR (o' := 298) (pc := 56) (i := 45) (ci := 12) (k := 25) C (by decide +kernel) fl_RX12_45 rfl rfl rfl ?_
        refine zs_sipush (pc := 59) (n := 625) (x := 625) C (by decide +kernel) (by decide +kernel) ?_
        refine zs_iload_n (pc := 62) (k := 3) (i := 3) C (by decide +kernel) rfl rfl ?_
        refine zs_iconst (pc := 63) (n := 1) (x := 1) C (by decide +kernel) (by decide +kernel) ?_
        refine zs_isub (pc := 64) C (by decide +kernel) ?_
        refine zs_imul (pc := 65) C (by decide +kernel) ?_
        refine zs_iload (pc := 66) (i := 4) C (by decide +kernel) rfl ?_
        refine zs_iadd (pc := 68) C (by decide +kernel) ?_
        refine zs_zald (pc := 69) (o := 298) (n := 25625) C (by decide +kernel) rfl (fun hinx8 x8 => ?_)
        refine zs_jn (pJ := 126) (kJ := 0) (sJ := 0) (fun t9 => [(0, sR 287), (2, sI a1), (3, sI t4), (4, sI t6)]) (fun t9 => []) (fun t9 => ?_) (fun J10 hJ10 => ?_)
        · refine zs_iinc (pc := 126) (i := 4) (n := 1) (y := w32 (t6 + 1)) (ls' := [(4, sI (w32 (t6 + 1))), (0, sR 287), (2, sI a1), (3, sI t4)]) C (by decide +kernel) rfl rfl (Nat.le_of_ble_eq_true rfl) rfl ?_
          refine zs_goto (pc := 129) (off := (-82)) (tgt := 47) C (by decide +kernel) (by decide) ?_
          exact zs_goj (hK7 (w32 (t6 + 1))) ⟨rfl, rfl, rfl, rfl, trivial⟩
        · refine zs_if_ne (pc := 70) (off := 6) (tgt := 76) C (by decide +kernel) (by decide) ?_ ?_
          · refine zs_iconst (pc := 76) (n := 0) (x := 0) C (by decide +kernel) (by decide +kernel) ?_
            refine zs_istore (pc := 77) (i := 5) (ls' := [(5, sI 0), (0, sR 287), (2, sI a1), (3, sI t4), (4, sI t6)]) C (by decide +kernel) (Nat.le_of_ble_eq_true rfl) rfl ?_
            refine zs_sub (ls' := [(0, sR 287), (2, sI a1), (3, sI t4), (4, sI t6), (5, sI 0)]) ⟨rfl, rfl, rfl, rfl, rfl, trivial⟩ ?_
            refine zs_lp (pc := 79) (fun (t11 : Int) => [(0, sR 287), (2, sI a1), (3, sI t4), (4, sI t6), (5, sI t11)]) (fun _ => []) (fun K12 hK12 t11 => ?_) BIG 0
            refine zs_iload (pc := 79) (i := 5) C (by decide +kernel) rfl ?_
            refine zs_bipush (pc := 81) (n := 25) (x := 25) C (by decide +kernel) (by decide +kernel) ?_
            refine zs_icmp_ge (pc := 83) (off := 43) (tgt := 126) C (by decide +kernel) (by decide) ?_ ?_
            · exact zs_goj (hJ10 ()) ⟨rfl, rfl, rfl, rfl, trivial⟩
            · refine zs_aload_n (pc := 86) (k := 0) (i := 0) C (by decide +kernel) rfl rfl ?_
              refine zs_iload_n (pc := 87) (k := 3) (i := 3) C (by decide +kernel) rfl rfl ?_
              refine zs_iload (pc := 88) (i := 4) C (by decide +kernel) rfl ?_
              refine zs_iload (pc := 90) (i := 5) C (by decide +kernel) rfl ?_
              refine zs_csRi (pc := 92) (As := [sI t11]) (st := [sI t6, sI t4, sR 287]) C rfl (c_X12_turnsOf l g t11) ml_RX12_455 rfl rfl (Nat.le_of_ble_eq_true rfl) ⟨Nat.le_of_ble_eq_true rfl, Nat.le_of_ble_eq_true rfl⟩ ⟨Nat.le_of_ble_eq_true rfl, Nat.le_of_ble_eq_true rfl⟩ (by decide +kernel) (fun x13 => ?_)
              refine zs_cvRi (pc := 95) (As := [sI t4, sI t6, sI x13]) (st := []) C rfl (c_X12_bothIn l g t4 t6 x13) ml_RX12_458 rfl rfl rfl rfl (Nat.le_of_ble_eq_true rfl) ⟨Nat.le_of_ble_eq_true rfl, Nat.le_of_ble_eq_true rfl⟩ ⟨Nat.le_of_ble_eq_true rfl, Nat.le_of_ble_eq_true rfl⟩ (by decide +kernel) (fun x14 => ?_)
              refine zs_istore (pc := 98) (i := 6) (ls' := [(6, sI x14), (0, sR 287), (2, sI a1), (3, sI t4), (4, sI t6), (5, sI t11)]) C (by decide +kernel) (Nat.le_of_ble_eq_true rfl) rfl ?_
              refine zs_iload (pc := 100) (i := 6) C (by decide +kernel) rfl ?_
              refine zs_iconst (pc := 102) (n := (-1)) (x := (-1)) C (by decide +kernel) (by decide +kernel) ?_
              refine zs_jn (pJ := 120) (kJ := 0) (sJ := 0) (fun t15 => [(0, sR 287), (2, sI a1), (3, sI t4), (4, sI t6), (5, sI t11)]) (fun t15 => []) (fun t15 => ?_) (fun J16 hJ16 => ?_)
              · refine zs_iinc (pc := 120) (i := 5) (n := 1) (y := w32 (t11 + 1)) (ls' := [(5, sI (w32 (t11 + 1))), (0, sR 287), (2, sI a1), (3, sI t4), (4, sI t6)]) C (by decide +kernel) rfl rfl (Nat.le_of_ble_eq_true rfl) rfl ?_
                refine zs_goto (pc := 123) (off := (-44)) (tgt := 79) C (by decide +kernel) (by decide) ?_
                exact zs_goj (hK12 (w32 (t11 + 1))) ⟨rfl, rfl, rfl, rfl, rfl, trivial⟩
              · refine zs_icmp_eq (pc := 103) (off := 17) (tgt := 120) C (by decide +kernel) (by decide) ?_ ?_
                · exact zs_goj (hJ16 ()) ⟨rfl, rfl, rfl, rfl, rfl, trivial⟩
                · refine zs_aload_n (pc := 106) (k := 0) (i := 0) C (by decide +kernel) rfl rfl ?_
                  refine zs_getR (o' := 298) (pc := 107) (i := 45) (ci := 12) (k := 25) C (by decide +kernel) fl_RX12_45 rfl rfl rfl ?_
                  refine zs_sipush (pc := 110) (n := 625) (x := 625) C (by decide +kernel) (by decide +kernel) ?_
                  refine zs_iload_n (pc := 113) (k := 3) (i := 3) C (by decide +kernel) rfl rfl ?_
                  refine zs_imul (pc := 114) C (by decide +kernel) ?_
                  refine zs_iload (pc := 115) (i := 6) C (by decide +kernel) rfl ?_
                  refine zs_iadd (pc := 117) C (by decide +kernel) ?_
                  refine zs_iconst (pc := 118) (n := 1) (x := 1) C (by decide +kernel) (by decide +kernel) ?_
                  refine zs_zast (pc := 119) (o := 298) (n := 25625) C (fun _ _ _ => rfl) (by decide +kernel) rfl ?_
                  exact zs_goj (hJ16 ()) ⟨rfl, rfl, rfl, rfl, rfl, trivial⟩
          · refine zs_goto (pc := 73) (off := 53) (tgt := 126) C (by decide +kernel) (by decide) ?_
            exact zs_goj (hJ10 ()) ⟨rfl, rfl, rfl, rfl, trivial⟩
  · refine zs_aload_n (pc := 13) (k := 0) (i := 0) C (by decide +kernel) rfl rfl ?_
    refine zs_getR (o' := 298) (pc := 14) (i := 45) (ci := 12) (k := 25) C (by decide +kernel) fl_RX12_45 rfl rfl rfl ?_
    refine zs_iload_n (pc := 17) (k := 3) (i := 3) C (by decide +kernel) rfl rfl ?_
    refine zs_iconst (pc := 18) (n := 0) (x := 0) C (by decide +kernel) (by decide +kernel) ?_
    refine zs_zast (pc := 19) (o := 298) (n := 25625) C (fun _ _ _ => rfl) (by decide +kernel) rfl ?_
    refine zs_iinc (pc := 20) (i := 3) (n := 1) (y := w32 (t1 + 1)) (ls' := [(3, sI (w32 (t1 + 1))), (0, sR 287), (1, sI a0), (2, sI a1)]) C (by decide +kernel) rfl rfl (Nat.le_of_ble_eq_true rfl) rfl ?_
    refine zs_goto (pc := 23) (off := (-21)) (tgt := 2) C (by decide +kernel) (by decide) ?_
    exact zs_goj (hK2 (w32 (t1 + 1))) ⟨rfl, rfl, rfl, rfl, trivial⟩
set_option maxRecDepth 20000 in
theorem c_X12_laysAll (l : Launch) (g : GC) (a0 : Int) : ConV l g yX12_laysAll cX12_laysAll 2 (rmd 7 0 0) [sR 287, sI a0] (fun mm => fX12_laysAll a0 mm) := by
  refine zs_ofV (by decide +kernel) (Nat.le_of_ble_eq_true rfl) ?_
  intro p e s m args below meth c C hr
  replace C : Bd g RX12 cX12_laysAll 2 p s m args meth c := C
  unfold fX12_laysAll
  refine zs_aload_n (pc := 0) (k := 0) (i := 0) C (by decide +kernel) rfl rfl ?_
  refine zs_iload_n (pc := 1) (k := 1) (i := 1) C (by decide +kernel) rfl rfl ?_
  refine zs_cvVv (pc := 2) (As := [sI a0]) (st := []) C (fun _ _ _ => rfl) (c_X12_laysOwn l g a0) ml_RX12_461 rfl rfl rfl rfl (Nat.le_of_ble_eq_true rfl) ⟨Nat.le_of_ble_eq_true rfl, Nat.le_of_ble_eq_true rfl⟩ ⟨Nat.le_of_ble_eq_true rfl, Nat.le_of_ble_eq_true rfl⟩ (by decide +kernel) ?_
  refine zs_aload_n (pc := 5) (k := 0) (i := 0) C (by decide +kernel) rfl rfl ?_
  refine zs_iload_n (pc := 6) (k := 1) (i := 1) C (by decide +kernel) rfl rfl ?_
  refine zs_bipush (pc := 7) (n := 40) (x := 40) C (by decide +kernel) (by decide +kernel) ?_
  refine zs_cvVv (pc := 9) (As := [sI a0, sI 40]) (st := []) C (fun _ _ _ => rfl) (c_X12_laysCan l g a0 40) ml_RX12_464 rfl rfl rfl rfl (Nat.le_of_ble_eq_true rfl) ⟨Nat.le_of_ble_eq_true rfl, Nat.le_of_ble_eq_true rfl⟩ ⟨Nat.le_of_ble_eq_true rfl, Nat.le_of_ble_eq_true rfl⟩ (by decide +kernel) ?_
  exact zs_retVv (pc := 12) C hr ⟨Nat.le_of_ble_eq_true rfl, Nat.le_of_ble_eq_true rfl⟩ (by decide +kernel)
set_option maxRecDepth 20000 in
theorem c_X12_isSome (l : Launch) (g : GC) (a0 : Int) : ConR l g yX12_isSome cX12_isSome 3 (some .boolean) (rmd 1 0 0) [sR 287, sI a0] (fun mm => fX12_isSome a0 mm) := by
  refine zs_ofR (by decide +kernel) (Nat.le_of_ble_eq_true rfl) ?_
  intro p e s m args below meth c C hr
  replace C : Bd g RX12 cX12_isSome 3 p s m args meth c := C
  unfold fX12_isSome
  refine zs_iconst (pc := 0) (n := 0) (x := 0) C (by decide +kernel) (by decide +kernel) ?_
  refine zs_istore_n (pc := 1) (k := 2) (i := 2) (ls' := [(2, sI 0), (0, sR 287), (1, sI a0)]) C (by decide +kernel) rfl (Nat.le_of_ble_eq_true rfl) rfl ?_
  refine zs_sub (ls' := [(0, sR 287), (1, sI a0), (2, sI 0)]) ⟨rfl, rfl, rfl, trivial⟩ ?_
  refine zs_lp (pc := 2) (fun (t1 : Int) => [(0, sR 287), (1, sI a0), (2, sI t1)]) (fun _ => []) (fun K2 hK2 t1 => ?_) BIG 0
  refine zs_iload_n (pc := 2) (k := 2) (i := 2) C (by decide +kernel) rfl rfl ?_
  refine zs_sipush (pc := 3) (n := 625) (x := 625) C (by decide +kernel) (by decide +kernel) ?_
  refine zs_icmp_ge (pc := 6) (off := 26) (tgt := 32) C (by decide +kernel) (by decide) ?_ ?_
  · refine zs_iconst (pc := 32) (n := 0) (x := 0) C (by decide +kernel) (by decide +kernel) ?_
    exact zs_retRz (pc := 33) C (by decide) hr ⟨Nat.le_of_ble_eq_true rfl, Nat.le_of_ble_eq_true rfl⟩ (by decide +kernel)
  · refine zs_aload_n (pc := 9) (k := 0) (i := 0) C (by decide +kernel) rfl rfl ?_
    refine zs_getR (o' := 298) (pc := 10) (i := 45) (ci := 12) (k := 25) C (by decide +kernel) fl_RX12_45 rfl rfl rfl ?_
    refine zs_sipush (pc := 13) (n := 625) (x := 625) C (by decide +kernel) (by decide +kernel) ?_
    refine zs_iload_n (pc := 16) (k := 1) (i := 1) C (by decide +kernel) rfl rfl ?_
    refine zs_imul (pc := 17) C (by decide +kernel) ?_
    refine zs_iload_n (pc := 18) (k := 2) (i := 2) C (by decide +kernel) rfl rfl ?_
    refine zs_iadd (pc := 19) C (by decide +kernel) ?_
    refine zs_zald (pc := 20) (o := 298) (n := 25625) C (by decide +kernel) rfl (fun hinx3 x3 => ?_)
    refine zs_if_eq (pc := 21) (off := 5) (tgt := 26) C (by decide +kernel) (by decide) ?_ ?_
    · refine zs_iinc (pc := 26) (i := 2) (n := 1) (y := w32 (t1 + 1)) (ls' := [(2, sI (w32 (t1 + 1))), (0, sR 287), (1, sI a0)]) C (by decide +kernel) rfl rfl (Nat.le_of_ble_eq_true rfl) rfl ?_
      refine zs_goto (pc := 29) (off := (-27)) (tgt := 2) C (by decide +kernel) (by decide) ?_
      exact zs_goj (hK2 (w32 (t1 + 1))) ⟨rfl, rfl, rfl, trivial⟩
    · refine zs_iconst (pc := 24) (n := 1) (x := 1) C (by decide +kernel) (by decide +kernel) ?_
      exact zs_retRz (pc := 25) C (by decide) hr ⟨Nat.le_of_ble_eq_true rfl, Nat.le_of_ble_eq_true rfl⟩ (by decide +kernel)
set_option maxRecDepth 20000 in
theorem c_X12_lasts (l : Launch) (g : GC) (a0 : Int) : ConW l g yX12_lasts cX12_lasts 3 (some .int) (rmd 8 0 0) [sR 287, sI a0] (fun mm => fX12_lasts a0 mm) := by
  refine zs_ofW (by decide +kernel) (Nat.le_of_ble_eq_true rfl) ?_
  intro p e s m args below meth c C hr
  replace C : Bd g RX12 cX12_lasts 3 p s m args meth c := C
  unfold fX12_lasts
  refine zs_aload_n (pc := 0) (k := 0) (i := 0) C (by decide +kernel) rfl rfl ?_
  refine zs_iconst (pc := 1) (n := 0) (x := 0) C (by decide +kernel) (by decide +kernel) ?_
  refine zs_putI (pc := 2) (i := 88) (ci := 12) (k := 4) C (fun _ _ _ => rfl) (by decide +kernel) fl_RX12_88 fw_12_4 rfl rfl ?_
  refine zs_aload_n (pc := 5) (k := 0) (i := 0) C (by decide +kernel) rfl rfl ?_
  refine zs_iload_n (pc := 6) (k := 1) (i := 1) C (by decide +kernel) rfl rfl ?_
  refine zs_i2l (pc := 7) C (by decide +kernel) ?_
  refine zs_cvRi (pc := 8) (As := [sL a0]) (st := []) C rfl (c_X12_isPair l g a0) ml_RX12_338 rfl rfl rfl rfl (Nat.le_of_ble_eq_true rfl) ⟨Nat.le_of_ble_eq_true rfl, Nat.le_of_ble_eq_true rfl⟩ ⟨Nat.le_of_ble_eq_true rfl, Nat.le_of_ble_eq_true rfl⟩ (by decide +kernel) (fun x1 => ?_)
  refine zs_if_ne (pc := 11) (off := 9) (tgt := 20) C (by decide +kernel) (by decide) ?_ ?_
  · refine zs_aload_n (pc := 20) (k := 0) (i := 0) C (by decide +kernel) rfl rfl ?_
    refine zs_iload_n (pc := 21) (k := 1) (i := 1) C (by decide +kernel) rfl rfl ?_
    refine zs_cvVv (pc := 22) (As := [sI a0]) (st := []) C (fun _ _ _ => rfl) (c_X12_laysAll l g a0) ml_RX12_467 rfl rfl rfl rfl (Nat.le_of_ble_eq_true rfl) ⟨Nat.le_of_ble_eq_true rfl, Nat.le_of_ble_eq_true rfl⟩ ⟨Nat.le_of_ble_eq_true rfl, Nat.le_of_ble_eq_true rfl⟩ (by decide +kernel) ?_
    refine zs_bipush (pc := 25) (n := 40) (x := 40) C (by decide +kernel) (by decide +kernel) ?_
    refine zs_istore_n (pc := 27) (k := 2) (i := 2) (ls' := [(2, sI 40), (0, sR 287), (1, sI a0)]) C (by decide +kernel) rfl (Nat.le_of_ble_eq_true rfl) rfl ?_
    refine zs_sub (ls' := [(0, sR 287), (2, sI 40)]) ⟨rfl, rfl, trivial⟩ ?_
    refine zs_lp (pc := 28) (fun (t2 : Int) => [(0, sR 287), (2, sI t2)]) (fun _ => []) (fun K3 hK3 t2 => ?_) BIG 40
    refine zs_aload_n (pc := 28) (k := 0) (i := 0) C (by decide +kernel) rfl rfl ?_
    refine zs_iload_n (pc := 29) (k := 2) (i := 2) C (by decide +kernel) rfl rfl ?_
    refine zs_cvRi (pc := 30) (As := [sI t2]) (st := []) C rfl (c_X12_isSome l g t2) ml_RX12_470 rfl rfl rfl rfl (Nat.le_of_ble_eq_true rfl) ⟨Nat.le_of_ble_eq_true rfl, Nat.le_of_ble_eq_true rfl⟩ ⟨Nat.le_of_ble_eq_true rfl, Nat.le_of_ble_eq_true rfl⟩ (by decide +kernel) (fun x4 => ?_)
    refine zs_if_ne (pc := 33) (off := 9) (tgt := 42) C (by decide +kernel) (by decide) ?_ ?_
    · refine zs_iload_n (pc := 42) (k := 2) (i := 2) C (by decide +kernel) rfl rfl ?_
      exact zs_retWi (pc := 43) C hr ⟨Nat.le_of_ble_eq_true rfl, Nat.le_of_ble_eq_true rfl⟩ (by decide +kernel)
    · refine zs_iinc (pc := 36) (i := 2) (n := (-1)) (y := w32 (t2 + (-1))) (ls' := [(2, sI (w32 (t2 + (-1)))), (0, sR 287)]) C (by decide +kernel) rfl rfl (Nat.le_of_ble_eq_true rfl) rfl ?_
      refine zs_goto (pc := 39) (off := (-11)) (tgt := 28) C (by decide +kernel) (by decide) ?_
      exact zs_goj (hK3 (w32 (t2 + (-1)))) ⟨rfl, rfl, trivial⟩
  · refine zs_aload_n (pc := 14) (k := 0) (i := 0) C (by decide +kernel) rfl rfl ?_
    refine zs_iconst (pc := 15) (n := 1) (x := 1) C (by decide +kernel) (by decide +kernel) ?_
    refine zs_cvWi (pc := 16) (As := [sI 1]) (st := []) C (fun _ _ _ => rfl) rfl (c_X12_fails l g 1) ml_RX12_279 rfl rfl rfl rfl (Nat.le_of_ble_eq_true rfl) ⟨Nat.le_of_ble_eq_true rfl, Nat.le_of_ble_eq_true rfl⟩ ⟨Nat.le_of_ble_eq_true rfl, Nat.le_of_ble_eq_true rfl⟩ (by decide +kernel) (fun x5 => ?_)
    exact zs_retWi (pc := 19) C hr ⟨Nat.le_of_ble_eq_true rfl, Nat.le_of_ble_eq_true rfl⟩ (by decide +kernel)
set_option maxRecDepth 20000 in
theorem c_X12_reach (l : Launch) (g : GC) (a0 : Int) (a1 : Int) (a2 : Int) : ConW l g yX12_reach cX12_reach 6 (some .int) (rmd 7 0 0) [sR 287, sI a0, sI a1, sI a2] (fun mm => fX12_reach a0 a1 a2 mm) := by
  refine zs_ofW (by decide +kernel) (Nat.le_of_ble_eq_true rfl) ?_
  intro p e s m args below meth c C hr
  replace C : Bd g RX12 cX12_reach 6 p s m args meth c := C
  unfold fX12_reach
  refine zs_aload_n (pc := 0) (k := 0) (i := 0) C (by decide +kernel) rfl rfl ?_
  refine zs_aload_n (pc := 1) (k := 0) (i := 0) C (by decide +kernel) rfl rfl ?_
  refine zs_iload_n (pc := 2) (k := 1) (i := 1) C (by decide +kernel) rfl rfl ?_
  refine zs_i2l (pc := 3) C (by decide +kernel) ?_
  refine zs_cvRi (pc := 4) (As := [sL a0]) (st := [sR 287]) C rfl (c_X12_isPair l g a0) ml_RX12_338 rfl rfl rfl rfl (Nat.le_of_ble_eq_true rfl) ⟨Nat.le_of_ble_eq_true rfl, Nat.le_of_ble_eq_true rfl⟩ ⟨Nat.le_of_ble_eq_true rfl, Nat.le_of_ble_eq_true rfl⟩ (by decide +kernel) (fun x1 => ?_)
  refine zs_jn (pJ := 38) (kJ := 0) (sJ := 0) (fun t2 => [(0, sR 287), (1, sI a0), (2, sI a1), (3, sI a2)]) (fun t2 => [sI t2, sR 287]) (fun t2 => ?_) (fun J3 hJ3 => ?_)
  · refine zs_putI (pc := 38) (i := 88) (ci := 12) (k := 4) C (fun _ _ _ => rfl) (by decide +kernel) fl_RX12_88 fw_12_4 rfl rfl ?_
    refine zs_aload_n (pc := 41) (k := 0) (i := 0) C (by decide +kernel) rfl rfl ?_
    refine zs_getI (pc := 42) (i := 88) (ci := 12) (k := 4) C (by decide +kernel) fl_RX12_88 rfl rfl (fun x4 => ?_)
    refine zs_if_le (pc := 45) (off := 5) (tgt := 50) C (by decide +kernel) (by decide) ?_ ?_
    · refine zs_aload_n (pc := 50) (k := 0) (i := 0) C (by decide +kernel) rfl rfl ?_
      refine zs_iload_n (pc := 51) (k := 1) (i := 1) C (by decide +kernel) rfl rfl ?_
      refine zs_cvVv (pc := 52) (As := [sI a0]) (st := []) C (fun _ _ _ => rfl) (c_X12_laysOwn l g a0) ml_RX12_461 rfl rfl rfl rfl (Nat.le_of_ble_eq_true rfl) ⟨Nat.le_of_ble_eq_true rfl, Nat.le_of_ble_eq_true rfl⟩ ⟨Nat.le_of_ble_eq_true rfl, Nat.le_of_ble_eq_true rfl⟩ (by decide +kernel) ?_
      refine zs_aload_n (pc := 55) (k := 0) (i := 0) C (by decide +kernel) rfl rfl ?_
      refine zs_iload_n (pc := 56) (k := 1) (i := 1) C (by decide +kernel) rfl rfl ?_
      refine zs_iload_n (pc := 57) (k := 3) (i := 3) C (by decide +kernel) rfl rfl ?_
      refine zs_cvVv (pc := 58) (As := [sI a0, sI a2]) (st := []) C (fun _ _ _ => rfl) (c_X12_laysCan l g a0 a2) ml_RX12_464 rfl rfl rfl rfl (Nat.le_of_ble_eq_true rfl) ⟨Nat.le_of_ble_eq_true rfl, Nat.le_of_ble_eq_true rfl⟩ ⟨Nat.le_of_ble_eq_true rfl, Nat.le_of_ble_eq_true rfl⟩ (by decide +kernel) ?_
      refine zs_iconst (pc := 61) (n := 0) (x := 0) C (by decide +kernel) (by decide +kernel) ?_
      refine zs_istore (pc := 62) (i := 4) (ls' := [(4, sI 0), (0, sR 287), (1, sI a0), (2, sI a1), (3, sI a2)]) C (by decide +kernel) (Nat.le_of_ble_eq_true rfl) rfl ?_
      refine zs_iconst (pc := 64) (n := 0) (x := 0) C (by decide +kernel) (by decide +kernel) ?_
      refine zs_istore (pc := 65) (i := 5) (ls' := [(5, sI 0), (4, sI 0), (0, sR 287), (1, sI a0), (2, sI a1), (3, sI a2)]) C (by decide +kernel) (Nat.le_of_ble_eq_true rfl) rfl ?_
      refine zs_sub (ls' := [(0, sR 287), (2, sI a1), (3, sI a2), (4, sI 0), (5, sI 0)]) ⟨rfl, rfl, rfl, rfl, rfl, trivial⟩ ?_
      refine zs_lp (pc := 67) (fun (t5 : Int × Int) => [(0, sR 287), (2, sI a1), (3, sI a2), (4, sI t5.1), (5, sI t5.2)]) (fun _ => []) (fun K6 hK6 t5 => ?_) BIG (0, 0)
      refine zs_iload (pc := 67) (i := 5) C (by decide +kernel) rfl ?_
      refine zs_sipush (pc := 69) (n := 625) (x := 625) C (by decide +kernel) (by decide +kernel) ?_
      refine zs_icmp_ge (pc := 72) (off := 53) (tgt := 125) C (by decide +kernel) (by decide) ?_ ?_
      · refine zs_iload (pc := 125) (i := 4) C (by decide +kernel) rfl ?_
        exact zs_retWi (pc := 127) C hr ⟨Nat.le_of_ble_eq_true rfl, Nat.le_of_ble_eq_true rfl⟩ (by decide +kernel)
      · refine zs_iload (pc := 75) (i := 4) C (by decide +kernel) rfl ?_
        refine zs_aload_n (pc := 77) (k := 0) (i := 0) C (by decide +kernel) rfl rfl ?_
        refine zs_getR (o' := 298) (pc := 78) (i := 45) (ci := 12) (k := 25) C (by decide +kernel) fl_RX12_45 rfl rfl rfl ?_
        refine zs_sipush (pc := 81) (n := 625) (x := 625) C (by decide +kernel) (by decide +kernel) ?_
        refine zs_iload_n (pc := 84) (k := 3) (i := 3) C (by decide +kernel) rfl rfl ?_
        refine zs_imul (pc := 85) C (by decide +kernel) ?_
        refine zs_iload (pc := 86) (i := 5) C (by decide +kernel) rfl ?_
        refine zs_iadd (pc := 88) C (by decide +kernel) ?_
        refine zs_zald (pc := 89) (o := 298) (n := 25625) C (by decide +kernel) rfl (fun hinx7 x7 => ?_)
        refine zs_jn (pJ := 116) (kJ := 0) (sJ := 0) (fun t8 => [(0, sR 287), (2, sI a1), (3, sI a2), (5, sI t5.2)]) (fun t8 => [sI t8, sI t5.1]) (fun t8 => ?_) (fun J9 hJ9 => ?_)
        · refine zs_ior (pc := 116) C (by decide +kernel) ?_
          refine zs_let (fun x10 => ?_)
          refine zs_istore (pc := 117) (i := 4) (ls' := [(4, sI x10), (0, sR 287), (2, sI a1), (3, sI a2), (5, sI t5.2)]) C (by decide +kernel) (Nat.le_of_ble_eq_true rfl) rfl ?_
          refine zs_iinc (pc := 119) (i := 5) (n := 1) (y := w32 (t5.2 + 1)) (ls' := [(5, sI (w32 (t5.2 + 1))), (4, sI x10), (0, sR 287), (2, sI a1), (3, sI a2)]) C (by decide +kernel) rfl rfl (Nat.le_of_ble_eq_true rfl) rfl ?_
          refine zs_goto (pc := 122) (off := (-55)) (tgt := 67) C (by decide +kernel) (by decide) ?_
          exact zs_goj (hK6 (x10, w32 (t5.2 + 1))) ⟨rfl, rfl, rfl, rfl, rfl, trivial⟩
        · refine zs_if_eq (pc := 90) (off := 25) (tgt := 115) C (by decide +kernel) (by decide) ?_ ?_
          · refine zs_iconst (pc := 115) (n := 0) (x := 0) C (by decide +kernel) (by decide +kernel) ?_
            exact zs_goj (hJ9 0) ⟨rfl, rfl, rfl, rfl, trivial⟩
          · refine zs_iconst (pc := 93) (n := 1) (x := 1) C (by decide +kernel) (by decide +kernel) ?_
            refine zs_iload_n (pc := 94) (k := 2) (i := 2) C (by decide +kernel) rfl rfl ?_
            refine zs_jn (pJ := 111) (kJ := 0) (sJ := 0) (fun t11 => [(0, sR 287), (2, sI a1), (3, sI a2), (5, sI t5.2)]) (fun t11 => [sI t11, sI 1, sI t5.1]) (fun t11 => ?_) (fun J12 hJ12 => ?_)
            · refine zs_ishl (pc := 111) C (by decide +kernel) ?_
              refine zs_goto (pc := 112) (off := 4) (tgt := 116) C (by decide +kernel) (by decide) ?_
              exact zs_goj (hJ9 (ishl 1 t11)) ⟨rfl, rfl, rfl, rfl, trivial⟩
            · refine zs_if_ne (pc := 95) (off := 11) (tgt := 106) C (by decide +kernel) (by decide) ?_ ?_
              · refine zs_iload (pc := 106) (i := 5) C (by decide +kernel) rfl ?_
                refine zs_bipush (pc := 108) (n := 25) (x := 25) C (by decide +kernel) (by decide +kernel) ?_
                refine zs_irem (pc := 110) C (by decide +kernel) (by decide +kernel) ?_
                exact zs_goj (hJ12 (Int.tmod t5.2 25)) ⟨rfl, rfl, rfl, rfl, trivial⟩
              · refine zs_iload (pc := 98) (i := 5) C (by decide +kernel) rfl ?_
                refine zs_bipush (pc := 100) (n := 25) (x := 25) C (by decide +kernel) (by decide +kernel) ?_
                refine zs_idiv (pc := 102) C (by decide +kernel) (by decide +kernel) ?_
                refine zs_goto (pc := 103) (off := 8) (tgt := 111) C (by decide +kernel) (by decide) ?_
                exact zs_goj (hJ12 (Int.tdiv t5.2 25)) ⟨rfl, rfl, rfl, rfl, trivial⟩
    · refine zs_iconst (pc := 48) (n := 0) (x := 0) C (by decide +kernel) (by decide +kernel) ?_
      exact zs_retWi (pc := 49) C hr ⟨Nat.le_of_ble_eq_true rfl, Nat.le_of_ble_eq_true rfl⟩ (by decide +kernel)
  · refine zs_if_ne (pc := 7) (off := 7) (tgt := 14) C (by decide +kernel) (by decide) ?_ ?_
    · refine zs_iload_n (pc := 14) (k := 2) (i := 2) C (by decide +kernel) rfl rfl ?_
      refine zs_csRi (pc := 15) (As := [sI a1]) (st := [sR 287]) C rfl (c_X12_isWho l g a1) ml_RX12_354 rfl rfl (Nat.le_of_ble_eq_true rfl) ⟨Nat.le_of_ble_eq_true rfl, Nat.le_of_ble_eq_true rfl⟩ ⟨Nat.le_of_ble_eq_true rfl, Nat.le_of_ble_eq_true rfl⟩ (by decide +kernel) (fun x13 => ?_)
      refine zs_jn (pJ := 37) (kJ := 0) (sJ := 0) (fun t14 => [(0, sR 287), (1, sI a0), (2, sI a1), (3, sI a2)]) (fun t14 => [sR 287]) (fun t14 => ?_) (fun J15 hJ15 => ?_)
      · refine zs_iconst (pc := 37) (n := 2) (x := 2) C (by decide +kernel) (by decide +kernel) ?_
        exact zs_goj (hJ3 2) ⟨rfl, rfl, rfl, rfl, trivial⟩
      · refine zs_if_eq (pc := 18) (off := 19) (tgt := 37) C (by decide +kernel) (by decide) ?_ ?_
        · exact zs_goj (hJ15 ()) ⟨rfl, rfl, rfl, rfl, trivial⟩
        · refine zs_iload_n (pc := 21) (k := 3) (i := 3) C (by decide +kernel) rfl rfl ?_
          refine zs_i2l (pc := 22) C (by decide +kernel) ?_
          refine zs_lconst (pc := 23) (n := 0) (x := 0) C (by decide +kernel) (by decide +kernel) ?_
          refine zs_ldc2 (pc := 24) (i := 473) (v := 40) (x := 40) C (by decide +kernel) wf_2314 (by decide +kernel) ?_
          refine zs_csRi (pc := 27) (As := [sL a2, sL 0, sL 40]) (st := [sR 287]) C rfl (c_X12_within l g a2 0 40) ml_RX12_149 rfl rfl (Nat.le_of_ble_eq_true rfl) ⟨Nat.le_of_ble_eq_true rfl, Nat.le_of_ble_eq_true rfl⟩ ⟨Nat.le_of_ble_eq_true rfl, Nat.le_of_ble_eq_true rfl⟩ (by decide +kernel) (fun x16 => ?_)
          refine zs_if_eq (pc := 30) (off := 7) (tgt := 37) C (by decide +kernel) (by decide) ?_ ?_
          · exact zs_goj (hJ15 ()) ⟨rfl, rfl, rfl, rfl, trivial⟩
          · refine zs_iconst (pc := 33) (n := 0) (x := 0) C (by decide +kernel) (by decide +kernel) ?_
            refine zs_goto (pc := 34) (off := 4) (tgt := 38) C (by decide +kernel) (by decide) ?_
            exact zs_goj (hJ3 0) ⟨rfl, rfl, rfl, rfl, trivial⟩
    · refine zs_iconst (pc := 10) (n := 1) (x := 1) C (by decide +kernel) (by decide +kernel) ?_
      refine zs_goto (pc := 11) (off := 27) (tgt := 38) C (by decide +kernel) (by decide) ?_
      exact zs_goj (hJ3 1) ⟨rfl, rfl, rfl, rfl, trivial⟩
set_option maxRecDepth 20000 in
theorem c_X12_togetherIn (l : Launch) (g : GC) (a0 : Int) : ConR l g yX12_togetherIn cX12_togetherIn 4 (some .int) (rmd 1 0 0) [sR 287, sI a0] (fun mm => fX12_togetherIn a0 mm) := by
  refine zs_ofR (by decide +kernel) (Nat.le_of_ble_eq_true rfl) ?_
  intro p e s m args below meth c C hr
  replace C : Bd g RX12 cX12_togetherIn 4 p s m args meth c := C
  unfold fX12_togetherIn
  refine zs_iconst (pc := 0) (n := 0) (x := 0) C (by decide +kernel) (by decide +kernel) ?_
  refine zs_istore_n (pc := 1) (k := 2) (i := 2) (ls' := [(2, sI 0), (0, sR 287), (1, sI a0)]) C (by decide +kernel) rfl (Nat.le_of_ble_eq_true rfl) rfl ?_
  refine zs_iconst (pc := 2) (n := 0) (x := 0) C (by decide +kernel) (by decide +kernel) ?_
  refine zs_istore_n (pc := 3) (k := 3) (i := 3) (ls' := [(3, sI 0), (2, sI 0), (0, sR 287), (1, sI a0)]) C (by decide +kernel) rfl (Nat.le_of_ble_eq_true rfl) rfl ?_
  refine zs_sub (ls' := [(0, sR 287), (1, sI a0), (2, sI 0), (3, sI 0)]) ⟨rfl, rfl, rfl, rfl, trivial⟩ ?_
  refine zs_lp (pc := 4) (fun (t1 : Int × Int) => [(0, sR 287), (1, sI a0), (2, sI t1.1), (3, sI t1.2)]) (fun _ => []) (fun K2 hK2 t1 => ?_) BIG (0, 0)
  refine zs_iload_n (pc := 4) (k := 3) (i := 3) C (by decide +kernel) rfl rfl ?_
  refine zs_bipush (pc := 5) (n := 25) (x := 25) C (by decide +kernel) (by decide +kernel) ?_
  refine zs_icmp_ge (pc := 7) (off := 39) (tgt := 46) C (by decide +kernel) (by decide) ?_ ?_
  · refine zs_iload_n (pc := 46) (k := 2) (i := 2) C (by decide +kernel) rfl rfl ?_
    exact zs_retRi (pc := 47) C hr ⟨Nat.le_of_ble_eq_true rfl, Nat.le_of_ble_eq_true rfl⟩ (by decide +kernel)
  · refine zs_iload_n (pc := 10) (k := 2) (i := 2) C (by decide +kernel) rfl rfl ?_
    refine zs_aload_n (pc := 11) (k := 0) (i := 0) C (by decide +kernel) rfl rfl ?_
    refine zs_getR (o' := 298) (pc := 12) (i := 45) (ci := 12) (k := 25) C (by decide +kernel) fl_RX12_45 rfl rfl rfl ?_
    refine zs_sipush (pc := 15) (n := 625) (x := 625) C (by decide +kernel) (by decide +kernel) ?_
    refine zs_iload_n (pc := 18) (k := 1) (i := 1) C (by decide +kernel) rfl rfl ?_
    refine zs_imul (pc := 19) C (by decide +kernel) ?_
    refine zs_bipush (pc := 20) (n := 25) (x := 25) C (by decide +kernel) (by decide +kernel) ?_
    refine zs_iload_n (pc := 22) (k := 3) (i := 3) C (by decide +kernel) rfl rfl ?_
    refine zs_imul (pc := 23) C (by decide +kernel) ?_
    refine zs_iadd (pc := 24) C (by decide +kernel) ?_
    refine zs_iload_n (pc := 25) (k := 3) (i := 3) C (by decide +kernel) rfl rfl ?_
    refine zs_iadd (pc := 26) C (by decide +kernel) ?_
    refine zs_zald (pc := 27) (o := 298) (n := 25625) C (by decide +kernel) rfl (fun hinx3 x3 => ?_)
    refine zs_jn (pJ := 38) (kJ := 0) (sJ := 0) (fun t4 => [(0, sR 287), (1, sI a0), (3, sI t1.2)]) (fun t4 => [sI t4, sI t1.1]) (fun t4 => ?_) (fun J5 hJ5 => ?_)
    · refine zs_ior (pc := 38) C (by decide +kernel) ?_
      refine zs_let (fun x6 => ?_)
      refine zs_istore_n (pc := 39) (k := 2) (i := 2) (ls' := [(2, sI x6), (0, sR 287), (1, sI a0), (3, sI t1.2)]) C (by decide +kernel) rfl (Nat.le_of_ble_eq_true rfl) rfl ?_
      refine zs_iinc (pc := 40) (i := 3) (n := 1) (y := w32 (t1.2 + 1)) (ls' := [(3, sI (w32 (t1.2 + 1))), (2, sI x6), (0, sR 287), (1, sI a0)]) C (by decide +kernel) rfl rfl (Nat.le_of_ble_eq_true rfl) rfl ?_
      refine zs_goto (pc := 43) (off := (-39)) (tgt := 4) C (by decide +kernel) (by decide) ?_
      exact zs_goj (hK2 (x6, w32 (t1.2 + 1))) ⟨rfl, rfl, rfl, rfl, trivial⟩
    · refine zs_if_eq (pc := 28) (off := 9) (tgt := 37) C (by decide +kernel) (by decide) ?_ ?_
      · refine zs_iconst (pc := 37) (n := 0) (x := 0) C (by decide +kernel) (by decide +kernel) ?_
        exact zs_goj (hJ5 0) ⟨rfl, rfl, rfl, trivial⟩
      · refine zs_iconst (pc := 31) (n := 1) (x := 1) C (by decide +kernel) (by decide +kernel) ?_
        refine zs_iload_n (pc := 32) (k := 3) (i := 3) C (by decide +kernel) rfl rfl ?_
        refine zs_ishl (pc := 33) C (by decide +kernel) ?_
        refine zs_goto (pc := 34) (off := 4) (tgt := 38) C (by decide +kernel) (by decide) ?_
        exact zs_goj (hJ5 (ishl 1 t1.2)) ⟨rfl, rfl, rfl, trivial⟩
set_option maxRecDepth 20000 in
theorem c_X12_together (l : Launch) (g : GC) (a0 : Int) (a1 : Int) : ConW l g yX12_together cX12_together 3 (some .int) (rmd 7 0 0) [sR 287, sI a0, sI a1] (fun mm => fX12_together a0 a1 mm) := by
  refine zs_ofW (by decide +kernel) (Nat.le_of_ble_eq_true rfl) ?_
  intro p e s m args below meth c C hr
  replace C : Bd g RX12 cX12_together 3 p s m args meth c := C
  unfold fX12_together
  refine zs_aload_n (pc := 0) (k := 0) (i := 0) C (by decide +kernel) rfl rfl ?_
  refine zs_aload_n (pc := 1) (k := 0) (i := 0) C (by decide +kernel) rfl rfl ?_
  refine zs_iload_n (pc := 2) (k := 1) (i := 1) C (by decide +kernel) rfl rfl ?_
  refine zs_i2l (pc := 3) C (by decide +kernel) ?_
  refine zs_cvRi (pc := 4) (As := [sL a0]) (st := [sR 287]) C rfl (c_X12_isPair l g a0) ml_RX12_338 rfl rfl rfl rfl (Nat.le_of_ble_eq_true rfl) ⟨Nat.le_of_ble_eq_true rfl, Nat.le_of_ble_eq_true rfl⟩ ⟨Nat.le_of_ble_eq_true rfl, Nat.le_of_ble_eq_true rfl⟩ (by decide +kernel) (fun x1 => ?_)
  refine zs_jn (pJ := 31) (kJ := 0) (sJ := 0) (fun t2 => [(0, sR 287), (1, sI a0), (2, sI a1)]) (fun t2 => [sI t2, sR 287]) (fun t2 => ?_) (fun J3 hJ3 => ?_)
  · refine zs_putI (pc := 31) (i := 88) (ci := 12) (k := 4) C (fun _ _ _ => rfl) (by decide +kernel) fl_RX12_88 fw_12_4 rfl rfl ?_
    refine zs_aload_n (pc := 34) (k := 0) (i := 0) C (by decide +kernel) rfl rfl ?_
    refine zs_getI (pc := 35) (i := 88) (ci := 12) (k := 4) C (by decide +kernel) fl_RX12_88 rfl rfl (fun x4 => ?_)
    refine zs_if_le (pc := 38) (off := 5) (tgt := 43) C (by decide +kernel) (by decide) ?_ ?_
    · refine zs_aload_n (pc := 43) (k := 0) (i := 0) C (by decide +kernel) rfl rfl ?_
      refine zs_iload_n (pc := 44) (k := 1) (i := 1) C (by decide +kernel) rfl rfl ?_
      refine zs_cvVv (pc := 45) (As := [sI a0]) (st := []) C (fun _ _ _ => rfl) (c_X12_laysOwn l g a0) ml_RX12_461 rfl rfl rfl rfl (Nat.le_of_ble_eq_true rfl) ⟨Nat.le_of_ble_eq_true rfl, Nat.le_of_ble_eq_true rfl⟩ ⟨Nat.le_of_ble_eq_true rfl, Nat.le_of_ble_eq_true rfl⟩ (by decide +kernel) ?_
      refine zs_aload_n (pc := 48) (k := 0) (i := 0) C (by decide +kernel) rfl rfl ?_
      refine zs_iload_n (pc := 49) (k := 1) (i := 1) C (by decide +kernel) rfl rfl ?_
      refine zs_iload_n (pc := 50) (k := 2) (i := 2) C (by decide +kernel) rfl rfl ?_
      refine zs_cvVv (pc := 51) (As := [sI a0, sI a1]) (st := []) C (fun _ _ _ => rfl) (c_X12_laysCan l g a0 a1) ml_RX12_464 rfl rfl rfl rfl (Nat.le_of_ble_eq_true rfl) ⟨Nat.le_of_ble_eq_true rfl, Nat.le_of_ble_eq_true rfl⟩ ⟨Nat.le_of_ble_eq_true rfl, Nat.le_of_ble_eq_true rfl⟩ (by decide +kernel) ?_
      refine zs_aload_n (pc := 54) (k := 0) (i := 0) C (by decide +kernel) rfl rfl ?_
      refine zs_iload_n (pc := 55) (k := 2) (i := 2) C (by decide +kernel) rfl rfl ?_
      refine zs_cvRi (pc := 56) (As := [sI a1]) (st := []) C rfl (c_X12_togetherIn l g a1) ml_RX12_475 rfl rfl rfl rfl (Nat.le_of_ble_eq_true rfl) ⟨Nat.le_of_ble_eq_true rfl, Nat.le_of_ble_eq_true rfl⟩ ⟨Nat.le_of_ble_eq_true rfl, Nat.le_of_ble_eq_true rfl⟩ (by decide +kernel) (fun x5 => ?_)
      exact zs_retWi (pc := 59) C hr ⟨Nat.le_of_ble_eq_true rfl, Nat.le_of_ble_eq_true rfl⟩ (by decide +kernel)
    · refine zs_iconst (pc := 41) (n := 0) (x := 0) C (by decide +kernel) (by decide +kernel) ?_
      exact zs_retWi (pc := 42) C hr ⟨Nat.le_of_ble_eq_true rfl, Nat.le_of_ble_eq_true rfl⟩ (by decide +kernel)
  · refine zs_if_ne (pc := 7) (off := 7) (tgt := 14) C (by decide +kernel) (by decide) ?_ ?_
    · refine zs_iload_n (pc := 14) (k := 2) (i := 2) C (by decide +kernel) rfl rfl ?_
      refine zs_i2l (pc := 15) C (by decide +kernel) ?_
      refine zs_lconst (pc := 16) (n := 0) (x := 0) C (by decide +kernel) (by decide +kernel) ?_
      refine zs_ldc2 (pc := 17) (i := 473) (v := 40) (x := 40) C (by decide +kernel) wf_2314 (by decide +kernel) ?_
      refine zs_csRi (pc := 20) (As := [sL a1, sL 0, sL 40]) (st := [sR 287]) C rfl (c_X12_within l g a1 0 40) ml_RX12_149 rfl rfl (Nat.le_of_ble_eq_true rfl) ⟨Nat.le_of_ble_eq_true rfl, Nat.le_of_ble_eq_true rfl⟩ ⟨Nat.le_of_ble_eq_true rfl, Nat.le_of_ble_eq_true rfl⟩ (by decide +kernel) (fun x6 => ?_)
      refine zs_if_eq (pc := 23) (off := 7) (tgt := 30) C (by decide +kernel) (by decide) ?_ ?_
      · refine zs_iconst (pc := 30) (n := 2) (x := 2) C (by decide +kernel) (by decide +kernel) ?_
        exact zs_goj (hJ3 2) ⟨rfl, rfl, rfl, trivial⟩
      · refine zs_iconst (pc := 26) (n := 0) (x := 0) C (by decide +kernel) (by decide +kernel) ?_
        refine zs_goto (pc := 27) (off := 4) (tgt := 31) C (by decide +kernel) (by decide) ?_
        exact zs_goj (hJ3 0) ⟨rfl, rfl, rfl, trivial⟩
    · refine zs_iconst (pc := 10) (n := 1) (x := 1) C (by decide +kernel) (by decide +kernel) ?_
      refine zs_goto (pc := 11) (off := 20) (tgt := 31) C (by decide +kernel) (by decide) ?_
      exact zs_goj (hJ3 1) ⟨rfl, rfl, rfl, trivial⟩
set_option maxRecDepth 20000 in
theorem c_X12_firstOf (l : Launch) (g : GC) (a0 : Int) : ConR l g yX12_firstOf cX12_firstOf 2 (some .int) (rmd 2 0 0) [sI a0] (fun mm => fX12_firstOf a0 mm) := by
  refine zs_ofR (by decide +kernel) (Nat.le_of_ble_eq_true rfl) ?_
  intro p e s m args below meth c C hr
  replace C : Bd g RX12 cX12_firstOf 2 p s m args meth c := C
  unfold fX12_firstOf
  refine zs_iconst (pc := 0) (n := 0) (x := 0) C (by decide +kernel) (by decide +kernel) ?_
  refine zs_istore_n (pc := 1) (k := 1) (i := 1) (ls' := [(1, sI 0), (0, sI a0)]) C (by decide +kernel) rfl (Nat.le_of_ble_eq_true rfl) rfl ?_
  refine zs_sub (ls' := [(0, sI a0), (1, sI 0)]) ⟨rfl, rfl, trivial⟩ ?_
  refine zs_lp (pc := 2) (fun (t1 : Int) => [(0, sI a0), (1, sI t1)]) (fun _ => []) (fun K2 hK2 t1 => ?_) BIG 0
  refine zs_iload_n (pc := 2) (k := 0) (i := 0) C (by decide +kernel) rfl rfl ?_
  refine zs_iload_n (pc := 3) (k := 1) (i := 1) C (by decide +kernel) rfl rfl ?_
  refine zs_csRi (pc := 4) (As := [sI a0, sI t1]) (st := []) C rfl (c_X12_has l g a0 t1) ml_RX12_230 rfl rfl (Nat.le_of_ble_eq_true rfl) ⟨Nat.le_of_ble_eq_true rfl, Nat.le_of_ble_eq_true rfl⟩ ⟨Nat.le_of_ble_eq_true rfl, Nat.le_of_ble_eq_true rfl⟩ (by decide +kernel) (fun x3 => ?_)
  refine zs_if_ne (pc := 7) (off := 9) (tgt := 16) C (by decide +kernel) (by decide) ?_ ?_
  · refine zs_iload_n (pc := 16) (k := 1) (i := 1) C (by decide +kernel) rfl rfl ?_
    exact zs_retRi (pc := 17) C hr ⟨Nat.le_of_ble_eq_true rfl, Nat.le_of_ble_eq_true rfl⟩ (by decide +kernel)
  · refine zs_iinc (pc := 10) (i := 1) (n := 1) (y := w32 (t1 + 1)) (ls' := [(1, sI (w32 (t1 + 1))), (0, sI a0)]) C (by decide +kernel) rfl rfl (Nat.le_of_ble_eq_true rfl) rfl ?_
    refine zs_goto (pc := 13) (off := (-11)) (tgt := 2) C (by decide +kernel) (by decide) ?_
    exact zs_goj (hK2 (w32 (t1 + 1))) ⟨rfl, rfl, trivial⟩
set_option maxRecDepth 20000 in
theorem c_X12_meal (l : Launch) (g : GC) (a0 : Int) (a1 : Int) : ConW l g yX12_meal cX12_meal 5 (some .int) (rmd 8 0 0) [sR 287, sI a0, sI a1] (fun mm => fX12_meal a0 a1 mm) := by
  refine zs_ofW (by decide +kernel) (Nat.le_of_ble_eq_true rfl) ?_
  intro p e s m args below meth c C hr
  replace C : Bd g RX12 cX12_meal 5 p s m args meth c := C
  unfold fX12_meal
  refine zs_aload_n (pc := 0) (k := 0) (i := 0) C (by decide +kernel) rfl rfl ?_
  refine zs_aload_n (pc := 1) (k := 0) (i := 0) C (by decide +kernel) rfl rfl ?_
  refine zs_iload_n (pc := 2) (k := 1) (i := 1) C (by decide +kernel) rfl rfl ?_
  refine zs_i2l (pc := 3) C (by decide +kernel) ?_
  refine zs_cvRi (pc := 4) (As := [sL a0]) (st := [sR 287]) C rfl (c_X12_isPair l g a0) ml_RX12_338 rfl rfl rfl rfl (Nat.le_of_ble_eq_true rfl) ⟨Nat.le_of_ble_eq_true rfl, Nat.le_of_ble_eq_true rfl⟩ ⟨Nat.le_of_ble_eq_true rfl, Nat.le_of_ble_eq_true rfl⟩ (by decide +kernel) (fun x1 => ?_)
  refine zs_jn (pJ := 29) (kJ := 0) (sJ := 0) (fun t2 => [(0, sR 287), (1, sI a0), (2, sI a1)]) (fun t2 => [sI t2, sR 287]) (fun t2 => ?_) (fun J3 hJ3 => ?_)
  · refine zs_putI (pc := 29) (i := 88) (ci := 12) (k := 4) C (fun _ _ _ => rfl) (by decide +kernel) fl_RX12_88 fw_12_4 rfl rfl ?_
    refine zs_aload_n (pc := 32) (k := 0) (i := 0) C (by decide +kernel) rfl rfl ?_
    refine zs_getI (pc := 33) (i := 88) (ci := 12) (k := 4) C (by decide +kernel) fl_RX12_88 rfl rfl (fun x4 => ?_)
    refine zs_if_le (pc := 36) (off := 5) (tgt := 41) C (by decide +kernel) (by decide) ?_ ?_
    · refine zs_aload_n (pc := 41) (k := 0) (i := 0) C (by decide +kernel) rfl rfl ?_
      refine zs_iload_n (pc := 42) (k := 1) (i := 1) C (by decide +kernel) rfl rfl ?_
      refine zs_cvVv (pc := 43) (As := [sI a0]) (st := []) C (fun _ _ _ => rfl) (c_X12_laysAll l g a0) ml_RX12_467 rfl rfl rfl rfl (Nat.le_of_ble_eq_true rfl) ⟨Nat.le_of_ble_eq_true rfl, Nat.le_of_ble_eq_true rfl⟩ ⟨Nat.le_of_ble_eq_true rfl, Nat.le_of_ble_eq_true rfl⟩ (by decide +kernel) ?_
      refine zs_iconst (pc := 46) (n := 0) (x := 0) C (by decide +kernel) (by decide +kernel) ?_
      refine zs_istore_n (pc := 47) (k := 3) (i := 3) (ls' := [(3, sI 0), (0, sR 287), (1, sI a0), (2, sI a1)]) C (by decide +kernel) rfl (Nat.le_of_ble_eq_true rfl) rfl ?_
      refine zs_sub (ls' := [(0, sR 287), (2, sI a1), (3, sI 0)]) ⟨rfl, rfl, rfl, trivial⟩ ?_
      refine zs_lp (pc := 48) (fun (t5 : Int) => [(0, sR 287), (2, sI a1), (3, sI t5)]) (fun _ => []) (fun K6 hK6 t5 => ?_) BIG 0
      refine zs_iload_n (pc := 48) (k := 3) (i := 3) C (by decide +kernel) rfl rfl ?_
      refine zs_bipush (pc := 49) (n := 40) (x := 40) C (by decide +kernel) (by decide +kernel) ?_
      refine zs_icmp_gt (pc := 51) (off := 35) (tgt := 86) C (by decide +kernel) (by decide) ?_ ?_
      · refine zs_iconst (pc := 86) (n := (-1)) (x := (-1)) C (by decide +kernel) (by decide +kernel) ?_
        exact zs_retWi (pc := 87) C hr ⟨Nat.le_of_ble_eq_true rfl, Nat.le_of_ble_eq_true rfl⟩ (by decide +kernel)
      · refine zs_aload_n (pc := 54) (k := 0) (i := 0) C (by decide +kernel) rfl rfl ?_
        refine zs_iload_n (pc := 55) (k := 3) (i := 3) C (by decide +kernel) rfl rfl ?_
        refine zs_cvRi (pc := 56) (As := [sI t5]) (st := []) C rfl (c_X12_togetherIn l g t5) ml_RX12_475 rfl rfl rfl rfl (Nat.le_of_ble_eq_true rfl) ⟨Nat.le_of_ble_eq_true rfl, Nat.le_of_ble_eq_true rfl⟩ ⟨Nat.le_of_ble_eq_true rfl, Nat.le_of_ble_eq_true rfl⟩ (by decide +kernel) (fun x7 => ?_)
        refine zs_istore (pc := 59) (i := 4) (ls' := [(4, sI x7), (0, sR 287), (2, sI a1), (3, sI t5)]) C (by decide +kernel) (Nat.le_of_ble_eq_true rfl) rfl ?_
        refine zs_iload (pc := 61) (i := 4) C (by decide +kernel) rfl ?_
        refine zs_if_eq (pc := 63) (off := 17) (tgt := 80) C (by decide +kernel) (by decide) ?_ ?_
        · refine zs_iinc (pc := 80) (i := 3) (n := 1) (y := w32 (t5 + 1)) (ls' := [(3, sI (w32 (t5 + 1))), (4, sI x7), (0, sR 287), (2, sI a1)]) C (by decide +kernel) rfl rfl (Nat.le_of_ble_eq_true rfl) rfl ?_
          refine zs_goto (pc := 83) (off := (-35)) (tgt := 48) C (by decide +kernel) (by decide) ?_
          exact zs_goj (hK6 (w32 (t5 + 1))) ⟨rfl, rfl, rfl, trivial⟩
        · refine zs_iload_n (pc := 66) (k := 2) (i := 2) C (by decide +kernel) rfl rfl ?_
          refine zs_jn (pJ := 79) (kJ := 0) (sJ := 0) (fun t8 => []) (fun t8 => [sI t8]) (fun t8 => ?_) (fun J9 hJ9 => ?_)
          · exact zs_retWi (pc := 79) C hr ⟨Nat.le_of_ble_eq_true rfl, Nat.le_of_ble_eq_true rfl⟩ (by decide +kernel)
          · refine zs_if_ne (pc := 67) (off := 7) (tgt := 74) C (by decide +kernel) (by decide) ?_ ?_
            · refine zs_iload (pc := 74) (i := 4) C (by decide +kernel) rfl ?_
              refine zs_csRi (pc := 76) (As := [sI x7]) (st := []) C rfl (c_X12_firstOf l g x7) ml_RX12_478 rfl rfl (Nat.le_of_ble_eq_true rfl) ⟨Nat.le_of_ble_eq_true rfl, Nat.le_of_ble_eq_true rfl⟩ ⟨Nat.le_of_ble_eq_true rfl, Nat.le_of_ble_eq_true rfl⟩ (by decide +kernel) (fun x10 => ?_)
              exact zs_goj (hJ9 x10) trivial
            · refine zs_iload_n (pc := 70) (k := 3) (i := 3) C (by decide +kernel) rfl rfl ?_
              refine zs_goto (pc := 71) (off := 8) (tgt := 79) C (by decide +kernel) (by decide) ?_
              exact zs_goj (hJ9 t5) trivial
    · refine zs_iconst (pc := 39) (n := 0) (x := 0) C (by decide +kernel) (by decide +kernel) ?_
      exact zs_retWi (pc := 40) C hr ⟨Nat.le_of_ble_eq_true rfl, Nat.le_of_ble_eq_true rfl⟩ (by decide +kernel)
  · refine zs_if_ne (pc := 7) (off := 7) (tgt := 14) C (by decide +kernel) (by decide) ?_ ?_
    · refine zs_iload_n (pc := 14) (k := 2) (i := 2) C (by decide +kernel) rfl rfl ?_
      refine zs_i2l (pc := 15) C (by decide +kernel) ?_
      refine zs_lconst (pc := 16) (n := 0) (x := 0) C (by decide +kernel) (by decide +kernel) ?_
      refine zs_lconst (pc := 17) (n := 1) (x := 1) C (by decide +kernel) (by decide +kernel) ?_
      refine zs_csRi (pc := 18) (As := [sL a1, sL 0, sL 1]) (st := [sR 287]) C rfl (c_X12_within l g a1 0 1) ml_RX12_149 rfl rfl (Nat.le_of_ble_eq_true rfl) ⟨Nat.le_of_ble_eq_true rfl, Nat.le_of_ble_eq_true rfl⟩ ⟨Nat.le_of_ble_eq_true rfl, Nat.le_of_ble_eq_true rfl⟩ (by decide +kernel) (fun x11 => ?_)
      refine zs_if_eq (pc := 21) (off := 7) (tgt := 28) C (by decide +kernel) (by decide) ?_ ?_
      · refine zs_iconst (pc := 28) (n := 2) (x := 2) C (by decide +kernel) (by decide +kernel) ?_
        exact zs_goj (hJ3 2) ⟨rfl, rfl, rfl, trivial⟩
      · refine zs_iconst (pc := 24) (n := 0) (x := 0) C (by decide +kernel) (by decide +kernel) ?_
        refine zs_goto (pc := 25) (off := 4) (tgt := 29) C (by decide +kernel) (by decide) ?_
        exact zs_goj (hJ3 0) ⟨rfl, rfl, rfl, trivial⟩
    · refine zs_iconst (pc := 10) (n := 1) (x := 1) C (by decide +kernel) (by decide +kernel) ?_
      refine zs_goto (pc := 11) (off := 18) (tgt := 29) C (by decide +kernel) (by decide) ?_
      exact zs_goj (hJ3 1) ⟨rfl, rfl, rfl, trivial⟩
set_option maxRecDepth 20000 in
theorem c_X12_farthest (l : Launch) (g : GC) (a0 : Int) (a1 : Int) : ConW l g yX12_farthest cX12_farthest 5 (some .int) (rmd 7 0 0) [sR 287, sI a0, sI a1] (fun mm => fX12_farthest a0 a1 mm) := by
  refine zs_ofW (by decide +kernel) (Nat.le_of_ble_eq_true rfl) ?_
  intro p e s m args below meth c C hr
  replace C : Bd g RX12 cX12_farthest 5 p s m args meth c := C
  unfold fX12_farthest
  refine zs_aload_n (pc := 0) (k := 0) (i := 0) C (by decide +kernel) rfl rfl ?_
  refine zs_aload_n (pc := 1) (k := 0) (i := 0) C (by decide +kernel) rfl rfl ?_
  refine zs_iload_n (pc := 2) (k := 1) (i := 1) C (by decide +kernel) rfl rfl ?_
  refine zs_i2l (pc := 3) C (by decide +kernel) ?_
  refine zs_cvRi (pc := 4) (As := [sL a0]) (st := [sR 287]) C rfl (c_X12_isPair l g a0) ml_RX12_338 rfl rfl rfl rfl (Nat.le_of_ble_eq_true rfl) ⟨Nat.le_of_ble_eq_true rfl, Nat.le_of_ble_eq_true rfl⟩ ⟨Nat.le_of_ble_eq_true rfl, Nat.le_of_ble_eq_true rfl⟩ (by decide +kernel) (fun x1 => ?_)
  refine zs_jn (pJ := 31) (kJ := 0) (sJ := 0) (fun t2 => [(0, sR 287), (1, sI a0), (2, sI a1)]) (fun t2 => [sI t2, sR 287]) (fun t2 => ?_) (fun J3 hJ3 => ?_)
  · refine zs_putI (pc := 31) (i := 88) (ci := 12) (k := 4) C (fun _ _ _ => rfl) (by decide +kernel) fl_RX12_88 fw_12_4 rfl rfl ?_
    refine zs_aload_n (pc := 34) (k := 0) (i := 0) C (by decide +kernel) rfl rfl ?_
    refine zs_getI (pc := 35) (i := 88) (ci := 12) (k := 4) C (by decide +kernel) fl_RX12_88 rfl rfl (fun x4 => ?_)
    refine zs_if_le (pc := 38) (off := 5) (tgt := 43) C (by decide +kernel) (by decide) ?_ ?_
    · refine zs_aload_n (pc := 43) (k := 0) (i := 0) C (by decide +kernel) rfl rfl ?_
      refine zs_iload_n (pc := 44) (k := 1) (i := 1) C (by decide +kernel) rfl rfl ?_
      refine zs_cvVv (pc := 45) (As := [sI a0]) (st := []) C (fun _ _ _ => rfl) (c_X12_laysOwn l g a0) ml_RX12_461 rfl rfl rfl rfl (Nat.le_of_ble_eq_true rfl) ⟨Nat.le_of_ble_eq_true rfl, Nat.le_of_ble_eq_true rfl⟩ ⟨Nat.le_of_ble_eq_true rfl, Nat.le_of_ble_eq_true rfl⟩ (by decide +kernel) ?_
      refine zs_aload_n (pc := 48) (k := 0) (i := 0) C (by decide +kernel) rfl rfl ?_
      refine zs_iload_n (pc := 49) (k := 1) (i := 1) C (by decide +kernel) rfl rfl ?_
      refine zs_iload_n (pc := 50) (k := 2) (i := 2) C (by decide +kernel) rfl rfl ?_
      refine zs_cvVv (pc := 51) (As := [sI a0, sI a1]) (st := []) C (fun _ _ _ => rfl) (c_X12_laysCan l g a0 a1) ml_RX12_464 rfl rfl rfl rfl (Nat.le_of_ble_eq_true rfl) ⟨Nat.le_of_ble_eq_true rfl, Nat.le_of_ble_eq_true rfl⟩ ⟨Nat.le_of_ble_eq_true rfl, Nat.le_of_ble_eq_true rfl⟩ (by decide +kernel) ?_
      refine zs_iconst (pc := 54) (n := (-1)) (x := (-1)) C (by decide +kernel) (by decide +kernel) ?_
      refine zs_istore_n (pc := 55) (k := 3) (i := 3) (ls' := [(3, sI ((-1))), (0, sR 287), (1, sI a0), (2, sI a1)]) C (by decide +kernel) rfl (Nat.le_of_ble_eq_true rfl) rfl ?_
      refine zs_iconst (pc := 56) (n := 0) (x := 0) C (by decide +kernel) (by decide +kernel) ?_
      refine zs_istore (pc := 57) (i := 4) (ls' := [(4, sI 0), (3, sI ((-1))), (0, sR 287), (1, sI a0), (2, sI a1)]) C (by decide +kernel) (Nat.le_of_ble_eq_true rfl) rfl ?_
      refine zs_sub (ls' := [(0, sR 287), (2, sI a1), (3, sI ((-1))), (4, sI 0)]) ⟨rfl, rfl, rfl, rfl, trivial⟩ ?_
      refine zs_lp (pc := 59) (fun (t5 : Int × Int) => [(0, sR 287), (2, sI a1), (3, sI t5.1), (4, sI t5.2)]) (fun _ => []) (fun K6 hK6 t5 => ?_) BIG ((-1), 0)
      refine zs_iload (pc := 59) (i := 4) C (by decide +kernel) rfl ?_
      refine zs_sipush (pc := 61) (n := 625) (x := 625) C (by decide +kernel) (by decide +kernel) ?_
      refine zs_icmp_ge (pc := 64) (off := 44) (tgt := 108) C (by decide +kernel) (by decide) ?_ ?_
      · refine zs_iload_n (pc := 108) (k := 3) (i := 3) C (by decide +kernel) rfl rfl ?_
        exact zs_retWi (pc := 109) C hr ⟨Nat.le_of_ble_eq_true rfl, Nat.le_of_ble_eq_true rfl⟩ (by decide +kernel)
      · refine zs_aload_n (pc := 67) (k := 0) (i := 0) C (by decide +kernel) rfl rfl ?_
        refine zs_getR (o' := 298) (pc := 68) (i := 45) (ci := 12) (k := 25) C (by decide +kernel) fl_RX12_45 rfl rfl rfl ?_
        refine zs_sipush (pc := 71) (n := 625) (x := 625) C (by decide +kernel) (by decide +kernel) ?_
        refine zs_iload_n (pc := 74) (k := 2) (i := 2) C (by decide +kernel) rfl rfl ?_
        refine zs_imul (pc := 75) C (by decide +kernel) ?_
        refine zs_iload (pc := 76) (i := 4) C (by decide +kernel) rfl ?_
        refine zs_iadd (pc := 78) C (by decide +kernel) ?_
        refine zs_zald (pc := 79) (o := 298) (n := 25625) C (by decide +kernel) rfl (fun hinx7 x7 => ?_)
        refine zs_jn (pJ := 102) (kJ := 0) (sJ := 0) (fun t8 => [(0, sR 287), (2, sI a1), (3, sI t8), (4, sI t5.2)]) (fun t8 => []) (fun t8 => ?_) (fun J9 hJ9 => ?_)
        · refine zs_iinc (pc := 102) (i := 4) (n := 1) (y := w32 (t5.2 + 1)) (ls' := [(4, sI (w32 (t5.2 + 1))), (0, sR 287), (2, sI a1), (3, sI t8)]) C (by decide +kernel) rfl rfl (Nat.le_of_ble_eq_true rfl) rfl ?_
          refine zs_goto (pc := 105) (off := (-46)) (tgt := 59) C (by decide +kernel) (by decide) ?_
          exact zs_goj (hK6 (t8, w32 (t5.2 + 1))) ⟨rfl, rfl, rfl, rfl, trivial⟩
        · refine zs_if_eq (pc := 80) (off := 22) (tgt := 102) C (by decide +kernel) (by decide) ?_ ?_
          · exact zs_goj (hJ9 t5.1) ⟨rfl, rfl, rfl, rfl, trivial⟩
          · refine zs_iload_n (pc := 83) (k := 3) (i := 3) C (by decide +kernel) rfl rfl ?_
            refine zs_aload_n (pc := 84) (k := 0) (i := 0) C (by decide +kernel) rfl rfl ?_
            refine zs_iload (pc := 85) (i := 4) C (by decide +kernel) rfl ?_
            refine zs_bipush (pc := 87) (n := 25) (x := 25) C (by decide +kernel) (by decide +kernel) ?_
            refine zs_idiv (pc := 89) C (by decide +kernel) (by decide +kernel) ?_
            refine zs_iload (pc := 90) (i := 4) C (by decide +kernel) rfl ?_
            refine zs_bipush (pc := 92) (n := 25) (x := 25) C (by decide +kernel) (by decide +kernel) ?_
            refine zs_irem (pc := 94) C (by decide +kernel) (by decide +kernel) ?_
            refine zs_cvRi (pc := 95) (As := [sI (Int.tdiv t5.2 25), sI (Int.tmod t5.2 25)]) (st := [sI t5.1]) C rfl (c_X12_apart l g (Int.tdiv t5.2 25) (Int.tmod t5.2 25)) ml_RX12_298 rfl rfl rfl rfl (Nat.le_of_ble_eq_true rfl) ⟨Nat.le_of_ble_eq_true rfl, Nat.le_of_ble_eq_true rfl⟩ ⟨Nat.le_of_ble_eq_true rfl, Nat.le_of_ble_eq_true rfl⟩ (by decide +kernel) (fun x10 => ?_)
            refine zs_mmax (pc := 98) (idx := 320) C wf_2111 wf_702 wf_166 wf_703 ⟨Nat.le_of_ble_eq_true rfl, Nat.le_of_ble_eq_true rfl, Nat.le_of_ble_eq_true rfl, Nat.le_of_ble_eq_true rfl⟩ (by decide +kernel) ?_
            refine zs_let (fun x11 => ?_)
            refine zs_istore_n (pc := 101) (k := 3) (i := 3) (ls' := [(3, sI x11), (0, sR 287), (2, sI a1), (4, sI t5.2)]) C (by decide +kernel) rfl (Nat.le_of_ble_eq_true rfl) rfl ?_
            exact zs_goj (hJ9 x11) ⟨rfl, rfl, rfl, rfl, trivial⟩
    · refine zs_iconst (pc := 41) (n := 0) (x := 0) C (by decide +kernel) (by decide +kernel) ?_
      exact zs_retWi (pc := 42) C hr ⟨Nat.le_of_ble_eq_true rfl, Nat.le_of_ble_eq_true rfl⟩ (by decide +kernel)
  · refine zs_if_ne (pc := 7) (off := 7) (tgt := 14) C (by decide +kernel) (by decide) ?_ ?_
    · refine zs_iload_n (pc := 14) (k := 2) (i := 2) C (by decide +kernel) rfl rfl ?_
      refine zs_i2l (pc := 15) C (by decide +kernel) ?_
      refine zs_lconst (pc := 16) (n := 0) (x := 0) C (by decide +kernel) (by decide +kernel) ?_
      refine zs_ldc2 (pc := 17) (i := 473) (v := 40) (x := 40) C (by decide +kernel) wf_2314 (by decide +kernel) ?_
      refine zs_csRi (pc := 20) (As := [sL a1, sL 0, sL 40]) (st := [sR 287]) C rfl (c_X12_within l g a1 0 40) ml_RX12_149 rfl rfl (Nat.le_of_ble_eq_true rfl) ⟨Nat.le_of_ble_eq_true rfl, Nat.le_of_ble_eq_true rfl⟩ ⟨Nat.le_of_ble_eq_true rfl, Nat.le_of_ble_eq_true rfl⟩ (by decide +kernel) (fun x12 => ?_)
      refine zs_if_eq (pc := 23) (off := 7) (tgt := 30) C (by decide +kernel) (by decide) ?_ ?_
      · refine zs_iconst (pc := 30) (n := 2) (x := 2) C (by decide +kernel) (by decide +kernel) ?_
        exact zs_goj (hJ3 2) ⟨rfl, rfl, rfl, trivial⟩
      · refine zs_iconst (pc := 26) (n := 0) (x := 0) C (by decide +kernel) (by decide +kernel) ?_
        refine zs_goto (pc := 27) (off := 4) (tgt := 31) C (by decide +kernel) (by decide) ?_
        exact zs_goj (hJ3 0) ⟨rfl, rfl, rfl, trivial⟩
    · refine zs_iconst (pc := 10) (n := 1) (x := 1) C (by decide +kernel) (by decide +kernel) ?_
      refine zs_goto (pc := 11) (off := 20) (tgt := 31) C (by decide +kernel) (by decide) ?_
      exact zs_goj (hJ3 1) ⟨rfl, rfl, rfl, trivial⟩
set_option maxRecDepth 20000 in
theorem c_X12_isWayOut (l : Launch) (g : GC) (a0 : Int) (a1 : Int) (a2 : Int) : ConW l g yX12_isWayOut cX12_isWayOut 4 (some .boolean) (rmd 3 0 0) [sR 287, sI a0, sI a1, sI a2] (fun mm => fX12_isWayOut a0 a1 a2 mm) := by
  refine zs_ofW (by decide +kernel) (Nat.le_of_ble_eq_true rfl) ?_
  intro p e s m args below meth c C hr
  replace C : Bd g RX12 cX12_isWayOut 4 p s m args meth c := C
  unfold fX12_isWayOut
  refine zs_aload_n (pc := 0) (k := 0) (i := 0) C (by decide +kernel) rfl rfl ?_
  refine zs_aload_n (pc := 1) (k := 0) (i := 0) C (by decide +kernel) rfl rfl ?_
  refine zs_iload_n (pc := 2) (k := 1) (i := 1) C (by decide +kernel) rfl rfl ?_
  refine zs_i2l (pc := 3) C (by decide +kernel) ?_
  refine zs_cvRi (pc := 4) (As := [sL a0]) (st := [sR 287]) C rfl (c_X12_isPair l g a0) ml_RX12_338 rfl rfl rfl rfl (Nat.le_of_ble_eq_true rfl) ⟨Nat.le_of_ble_eq_true rfl, Nat.le_of_ble_eq_true rfl⟩ ⟨Nat.le_of_ble_eq_true rfl, Nat.le_of_ble_eq_true rfl⟩ (by decide +kernel) (fun x1 => ?_)
  refine zs_jn (pJ := 33) (kJ := 0) (sJ := 0) (fun t2 => [(0, sR 287)]) (fun t2 => [sI t2, sR 287]) (fun t2 => ?_) (fun J3 hJ3 => ?_)
  · refine zs_putI (pc := 33) (i := 88) (ci := 12) (k := 4) C (fun _ _ _ => rfl) (by decide +kernel) fl_RX12_88 fw_12_4 rfl rfl ?_
    refine zs_aload_n (pc := 36) (k := 0) (i := 0) C (by decide +kernel) rfl rfl ?_
    refine zs_getI (pc := 37) (i := 88) (ci := 12) (k := 4) C (by decide +kernel) fl_RX12_88 rfl rfl (fun x4 => ?_)
    refine zs_jn (pJ := 48) (kJ := 0) (sJ := 0) (fun t5 => []) (fun t5 => [sI t5]) (fun t5 => ?_) (fun J6 hJ6 => ?_)
    · refine zs_chk (fun _ hx => ?_)
      exact zs_retWz (pc := 48) C hx hr ⟨Nat.le_of_ble_eq_true rfl, Nat.le_of_ble_eq_true rfl⟩ (by decide +kernel)
    · refine zs_if_le (pc := 40) (off := 7) (tgt := 47) C (by decide +kernel) (by decide) ?_ ?_
      · refine zs_iconst (pc := 47) (n := 0) (x := 0) C (by decide +kernel) (by decide +kernel) ?_
        exact zs_goj (hJ6 0) trivial
      · refine zs_iconst (pc := 43) (n := 1) (x := 1) C (by decide +kernel) (by decide +kernel) ?_
        refine zs_goto (pc := 44) (off := 4) (tgt := 48) C (by decide +kernel) (by decide) ?_
        exact zs_goj (hJ6 1) trivial
  · refine zs_jn (pJ := 32) (kJ := 0) (sJ := 0) (fun t7 => [(0, sR 287)]) (fun t7 => [sR 287]) (fun t7 => ?_) (fun J8 hJ8 => ?_)
    · refine zs_iconst (pc := 32) (n := 1) (x := 1) C (by decide +kernel) (by decide +kernel) ?_
      exact zs_goj (hJ3 1) ⟨rfl, trivial⟩
    · refine zs_if_eq (pc := 7) (off := 25) (tgt := 32) C (by decide +kernel) (by decide) ?_ ?_
      · exact zs_goj (hJ8 ()) ⟨rfl, trivial⟩
      · refine zs_aload_n (pc := 10) (k := 0) (i := 0) C (by decide +kernel) rfl rfl ?_
        refine zs_iload_n (pc := 11) (k := 2) (i := 2) C (by decide +kernel) rfl rfl ?_
        refine zs_i2l (pc := 12) C (by decide +kernel) ?_
        refine zs_cvRi (pc := 13) (As := [sL a1]) (st := [sR 287]) C rfl (c_X12_isPlace l g a1) ml_RX12_334 rfl rfl rfl rfl (Nat.le_of_ble_eq_true rfl) ⟨Nat.le_of_ble_eq_true rfl, Nat.le_of_ble_eq_true rfl⟩ ⟨Nat.le_of_ble_eq_true rfl, Nat.le_of_ble_eq_true rfl⟩ (by decide +kernel) (fun x9 => ?_)
        refine zs_if_eq (pc := 16) (off := 16) (tgt := 32) C (by decide +kernel) (by decide) ?_ ?_
        · exact zs_goj (hJ8 ()) ⟨rfl, trivial⟩
        · refine zs_aload_n (pc := 19) (k := 0) (i := 0) C (by decide +kernel) rfl rfl ?_
          refine zs_iload_n (pc := 20) (k := 3) (i := 3) C (by decide +kernel) rfl rfl ?_
          refine zs_i2l (pc := 21) C (by decide +kernel) ?_
          refine zs_cvRi (pc := 22) (As := [sL a2]) (st := [sR 287]) C rfl (c_X12_isPlace l g a2) ml_RX12_334 rfl rfl rfl rfl (Nat.le_of_ble_eq_true rfl) ⟨Nat.le_of_ble_eq_true rfl, Nat.le_of_ble_eq_true rfl⟩ ⟨Nat.le_of_ble_eq_true rfl, Nat.le_of_ble_eq_true rfl⟩ (by decide +kernel) (fun x10 => ?_)
          refine zs_if_eq (pc := 25) (off := 7) (tgt := 32) C (by decide +kernel) (by decide) ?_ ?_
          · exact zs_goj (hJ8 ()) ⟨rfl, trivial⟩
          · refine zs_iconst (pc := 28) (n := 0) (x := 0) C (by decide +kernel) (by decide +kernel) ?_
            refine zs_goto (pc := 29) (off := 4) (tgt := 33) C (by decide +kernel) (by decide) ?_
            exact zs_goj (hJ3 0) ⟨rfl, trivial⟩
set_option maxRecDepth 20000 in
theorem c_X12_wayOf (l : Launch) (g : GC) (a0 : Int) (a1 : Int) (a2 : Int) : ConW l g yX12_wayOf cX12_wayOf 5 (some .int) (rmd 5 0 0) [sR 287, sI a0, sI a1, sI a2] (fun mm => fX12_wayOf a0 a1 a2 mm) := by
  refine zs_ofW (by decide +kernel) (Nat.le_of_ble_eq_true rfl) ?_
  intro p e s m args below meth c C hr
  replace C : Bd g RX12 cX12_wayOf 5 p s m args meth c := C
  unfold fX12_wayOf
  refine zs_aload_n (pc := 0) (k := 0) (i := 0) C (by decide +kernel) rfl rfl ?_
  refine zs_iload_n (pc := 1) (k := 1) (i := 1) C (by decide +kernel) rfl rfl ?_
  refine zs_bipush (pc := 2) (n := 40) (x := 40) C (by decide +kernel) (by decide +kernel) ?_
  refine zs_cvVv (pc := 4) (As := [sI a0, sI 40]) (st := []) C (fun _ _ _ => rfl) (c_X12_laysCan l g a0 40) ml_RX12_464 rfl rfl rfl rfl (Nat.le_of_ble_eq_true rfl) ⟨Nat.le_of_ble_eq_true rfl, Nat.le_of_ble_eq_true rfl⟩ ⟨Nat.le_of_ble_eq_true rfl, Nat.le_of_ble_eq_true rfl⟩ (by decide +kernel) ?_
  refine zs_iconst (pc := 7) (n := 0) (x := 0) C (by decide +kernel) (by decide +kernel) ?_
  refine zs_istore (pc := 8) (i := 4) (ls' := [(4, sI 0), (0, sR 287), (1, sI a0), (2, sI a1), (3, sI a2)]) C (by decide +kernel) (Nat.le_of_ble_eq_true rfl) rfl ?_
  refine zs_sub (ls' := [(0, sR 287), (2, sI a1), (3, sI a2), (4, sI 0)]) ⟨rfl, rfl, rfl, rfl, trivial⟩ ?_
  refine zs_lp (pc := 10) (fun (t1 : Int) => [(0, sR 287), (2, sI a1), (3, sI a2), (4, sI t1)]) (fun _ => []) (fun K2 hK2 t1 => ?_) BIG 0
  refine zs_iload (pc := 10) (i := 4) C (by decide +kernel) rfl ?_
  refine zs_bipush (pc := 12) (n := 40) (x := 40) C (by decide +kernel) (by decide +kernel) ?_
  refine zs_icmp_gt (pc := 14) (off := 33) (tgt := 47) C (by decide +kernel) (by decide) ?_ ?_
  · refine zs_iconst (pc := 47) (n := (-1)) (x := (-1)) C (by decide +kernel) (by decide +kernel) ?_
    exact zs_retWi (pc := 48) C hr ⟨Nat.le_of_ble_eq_true rfl, Nat.le_of_ble_eq_true rfl⟩ (by decide +kernel)
  · refine zs_aload_n (pc := 17) (k := 0) (i := 0) C (by decide +kernel) rfl rfl ?_
    refine zs_getR (o' := 298) (pc := 18) (i := 45) (ci := 12) (k := 25) C (by decide +kernel) fl_RX12_45 rfl rfl rfl ?_
    refine zs_sipush (pc := 21) (n := 625) (x := 625) C (by decide +kernel) (by decide +kernel) ?_
    refine zs_iload (pc := 24) (i := 4) C (by decide +kernel) rfl ?_
    refine zs_imul (pc := 26) C (by decide +kernel) ?_
    refine zs_bipush (pc := 27) (n := 25) (x := 25) C (by decide +kernel) (by decide +kernel) ?_
    refine zs_iload_n (pc := 29) (k := 2) (i := 2) C (by decide +kernel) rfl rfl ?_
    refine zs_imul (pc := 30) C (by decide +kernel) ?_
    refine zs_iadd (pc := 31) C (by decide +kernel) ?_
    refine zs_iload_n (pc := 32) (k := 3) (i := 3) C (by decide +kernel) rfl rfl ?_
    refine zs_iadd (pc := 33) C (by decide +kernel) ?_
    refine zs_zald (pc := 34) (o := 298) (n := 25625) C (by decide +kernel) rfl (fun hinx3 x3 => ?_)
    refine zs_if_eq (pc := 35) (off := 6) (tgt := 41) C (by decide +kernel) (by decide) ?_ ?_
    · refine zs_iinc (pc := 41) (i := 4) (n := 1) (y := w32 (t1 + 1)) (ls' := [(4, sI (w32 (t1 + 1))), (0, sR 287), (2, sI a1), (3, sI a2)]) C (by decide +kernel) rfl rfl (Nat.le_of_ble_eq_true rfl) rfl ?_
      refine zs_goto (pc := 44) (off := (-34)) (tgt := 10) C (by decide +kernel) (by decide) ?_
      exact zs_goj (hK2 (w32 (t1 + 1))) ⟨rfl, rfl, rfl, rfl, trivial⟩
    · refine zs_iload (pc := 38) (i := 4) C (by decide +kernel) rfl ?_
      exact zs_retWi (pc := 40) C hr ⟨Nat.le_of_ble_eq_true rfl, Nat.le_of_ble_eq_true rfl⟩ (by decide +kernel)
set_option maxRecDepth 20000 in
theorem c_X12_soonest (l : Launch) (g : GC) (a0 : Int) (a1 : Int) (a2 : Int) : ConW l g yX12_soonest cX12_soonest 4 (some .int) (rmd 7 0 0) [sR 287, sI a0, sI a1, sI a2] (fun mm => fX12_soonest a0 a1 a2 mm) := by
  refine zs_ofW (by decide +kernel) (Nat.le_of_ble_eq_true rfl) ?_
  intro p e s m args below meth c C hr
  replace C : Bd g RX12 cX12_soonest 4 p s m args meth c := C
  unfold fX12_soonest
  refine zs_aload_n (pc := 0) (k := 0) (i := 0) C (by decide +kernel) rfl rfl ?_
  refine zs_iload_n (pc := 1) (k := 1) (i := 1) C (by decide +kernel) rfl rfl ?_
  refine zs_iload_n (pc := 2) (k := 2) (i := 2) C (by decide +kernel) rfl rfl ?_
  refine zs_iload_n (pc := 3) (k := 3) (i := 3) C (by decide +kernel) rfl rfl ?_
  refine zs_cvWi (pc := 4) (As := [sI a0, sI a1, sI a2]) (st := []) C (fun _ _ _ => rfl) rfl (c_X12_isWayOut l g a0 a1 a2) ml_RX12_481 rfl rfl rfl rfl (Nat.le_of_ble_eq_true rfl) ⟨Nat.le_of_ble_eq_true rfl, Nat.le_of_ble_eq_true rfl⟩ ⟨Nat.le_of_ble_eq_true rfl, Nat.le_of_ble_eq_true rfl⟩ (by decide +kernel) (fun x1 => ?_)
  refine zs_if_eq (pc := 7) (off := 5) (tgt := 12) C (by decide +kernel) (by decide) ?_ ?_
  · refine zs_aload_n (pc := 12) (k := 0) (i := 0) C (by decide +kernel) rfl rfl ?_
    refine zs_iload_n (pc := 13) (k := 1) (i := 1) C (by decide +kernel) rfl rfl ?_
    refine zs_cvVv (pc := 14) (As := [sI a0]) (st := []) C (fun _ _ _ => rfl) (c_X12_laysOwn l g a0) ml_RX12_461 rfl rfl rfl rfl (Nat.le_of_ble_eq_true rfl) ⟨Nat.le_of_ble_eq_true rfl, Nat.le_of_ble_eq_true rfl⟩ ⟨Nat.le_of_ble_eq_true rfl, Nat.le_of_ble_eq_true rfl⟩ (by decide +kernel) ?_
    refine zs_aload_n (pc := 17) (k := 0) (i := 0) C (by decide +kernel) rfl rfl ?_
    refine zs_iload_n (pc := 18) (k := 1) (i := 1) C (by decide +kernel) rfl rfl ?_
    refine zs_iload_n (pc := 19) (k := 2) (i := 2) C (by decide +kernel) rfl rfl ?_
    refine zs_iload_n (pc := 20) (k := 3) (i := 3) C (by decide +kernel) rfl rfl ?_
    refine zs_cvWi (pc := 21) (As := [sI a0, sI a1, sI a2]) (st := []) C (fun _ _ _ => rfl) rfl (c_X12_wayOf l g a0 a1 a2) ml_RX12_485 rfl rfl rfl rfl (Nat.le_of_ble_eq_true rfl) ⟨Nat.le_of_ble_eq_true rfl, Nat.le_of_ble_eq_true rfl⟩ ⟨Nat.le_of_ble_eq_true rfl, Nat.le_of_ble_eq_true rfl⟩ (by decide +kernel) (fun x2 => ?_)
    exact zs_retWi (pc := 24) C hr ⟨Nat.le_of_ble_eq_true rfl, Nat.le_of_ble_eq_true rfl⟩ (by decide +kernel)
  · refine zs_iconst (pc := 10) (n := 0) (x := 0) C (by decide +kernel) (by decide +kernel) ?_
    exact zs_retWi (pc := 11) C hr ⟨Nat.le_of_ble_eq_true rfl, Nat.le_of_ble_eq_true rfl⟩ (by decide +kernel)
set_option maxRecDepth 20000 in
theorem c_X12_nextTurns (l : Launch) (g : GC) (a0 : Int) (a1 : Int) : ConR l g yX12_nextTurns cX12_nextTurns 5 (some .int) (rmd 4 0 0) [sR 287, sI a0, sI a1] (fun mm => fX12_nextTurns a0 a1 mm) := by
  refine zs_ofR (by decide +kernel) (Nat.le_of_ble_eq_true rfl) ?_
  intro p e s m args below meth c C hr
  replace C : Bd g RX12 cX12_nextTurns 5 p s m args meth c := C
  unfold fX12_nextTurns
  refine zs_iconst (pc := 0) (n := 0) (x := 0) C (by decide +kernel) (by decide +kernel) ?_
  refine zs_istore_n (pc := 1) (k := 3) (i := 3) (ls' := [(3, sI 0), (0, sR 287), (1, sI a0), (2, sI a1)]) C (by decide +kernel) rfl (Nat.le_of_ble_eq_true rfl) rfl ?_
  refine zs_sub (ls' := [(0, sR 287), (1, sI a0), (2, sI a1), (3, sI 0)]) ⟨rfl, rfl, rfl, rfl, trivial⟩ ?_
  refine zs_lp (pc := 2) (fun (t1 : Int) => [(0, sR 287), (1, sI a0), (2, sI a1), (3, sI t1)]) (fun _ => []) (fun K2 hK2 t1 => ?_) BIG 0
  refine zs_iload_n (pc := 2) (k := 3) (i := 3) C (by decide +kernel) rfl rfl ?_
  refine zs_bipush (pc := 3) (n := 25) (x := 25) C (by decide +kernel) (by decide +kernel) ?_
  refine zs_icmp_ge (pc := 5) (off := 52) (tgt := 57) C (by decide +kernel) (by decide) ?_ ?_
  · refine zs_iconst (pc := 57) (n := (-1)) (x := (-1)) C (by decide +kernel) (by decide +kernel) ?_
    exact zs_retRi (pc := 58) C hr ⟨Nat.le_of_ble_eq_true rfl, Nat.le_of_ble_eq_true rfl⟩ (by decide +kernel)
  · refine zs_aload_n (pc := 8) (k := 0) (i := 0) C (by decide +kernel) rfl rfl ?_
    refine zs_iload_n (pc := 9) (k := 1) (i := 1) C (by decide +kernel) rfl rfl ?_
    refine zs_iconst (pc := 10) (n := 1) (x := 1) C (by decide +kernel) (by decide +kernel) ?_
    refine zs_iadd (pc := 11) C (by decide +kernel) ?_
    refine zs_iload_n (pc := 12) (k := 2) (i := 2) C (by decide +kernel) rfl rfl ?_
    refine zs_iload_n (pc := 13) (k := 3) (i := 3) C (by decide +kernel) rfl rfl ?_
    refine zs_csRi (pc := 14) (As := [sI t1]) (st := [sI a1, sI (w32 (a0 + 1)), sR 287]) C rfl (c_X12_turnsOf l g t1) ml_RX12_455 rfl rfl (Nat.le_of_ble_eq_true rfl) ⟨Nat.le_of_ble_eq_true rfl, Nat.le_of_ble_eq_true rfl⟩ ⟨Nat.le_of_ble_eq_true rfl, Nat.le_of_ble_eq_true rfl⟩ (by decide +kernel) (fun x3 => ?_)
    refine zs_cvRi (pc := 17) (As := [sI (w32 (a0 + 1)), sI a1, sI x3]) (st := []) C rfl (c_X12_bothIn l g (w32 (a0 + 1)) a1 x3) ml_RX12_458 rfl rfl rfl rfl (Nat.le_of_ble_eq_true rfl) ⟨Nat.le_of_ble_eq_true rfl, Nat.le_of_ble_eq_true rfl⟩ ⟨Nat.le_of_ble_eq_true rfl, Nat.le_of_ble_eq_true rfl⟩ (by decide +kernel) (fun x4 => ?_)
    refine zs_istore (pc := 20) (i := 4) (ls' := [(4, sI x4), (0, sR 287), (1, sI a0), (2, sI a1), (3, sI t1)]) C (by decide +kernel) (Nat.le_of_ble_eq_true rfl) rfl ?_
    refine zs_iload (pc := 22) (i := 4) C (by decide +kernel) rfl ?_
    refine zs_iconst (pc := 24) (n := (-1)) (x := (-1)) C (by decide +kernel) (by decide +kernel) ?_
    refine zs_jn (pJ := 51) (kJ := 0) (sJ := 0) (fun t5 => [(0, sR 287), (1, sI a0), (2, sI a1), (3, sI t1)]) (fun t5 => []) (fun t5 => ?_) (fun J6 hJ6 => ?_)
    · refine zs_iinc (pc := 51) (i := 3) (n := 1) (y := w32 (t1 + 1)) (ls' := [(3, sI (w32 (t1 + 1))), (0, sR 287), (1, sI a0), (2, sI a1)]) C (by decide +kernel) rfl rfl (Nat.le_of_ble_eq_true rfl) rfl ?_
      refine zs_goto (pc := 54) (off := (-52)) (tgt := 2) C (by decide +kernel) (by decide) ?_
      exact zs_goj (hK2 (w32 (t1 + 1))) ⟨rfl, rfl, rfl, rfl, trivial⟩
    · refine zs_icmp_eq (pc := 25) (off := 26) (tgt := 51) C (by decide +kernel) (by decide) ?_ ?_
      · exact zs_goj (hJ6 ()) ⟨rfl, rfl, rfl, rfl, trivial⟩
      · refine zs_aload_n (pc := 28) (k := 0) (i := 0) C (by decide +kernel) rfl rfl ?_
        refine zs_getR (o' := 301) (pc := 29) (i := 54) (ci := 12) (k := 29) C (by decide +kernel) fl_RX12_54 rfl rfl rfl ?_
        refine zs_sipush (pc := 32) (n := 625) (x := 625) C (by decide +kernel) (by decide +kernel) ?_
        refine zs_iload_n (pc := 35) (k := 1) (i := 1) C (by decide +kernel) rfl rfl ?_
        refine zs_iconst (pc := 36) (n := 1) (x := 1) C (by decide +kernel) (by decide +kernel) ?_
        refine zs_iadd (pc := 37) C (by decide +kernel) ?_
        refine zs_imul (pc := 38) C (by decide +kernel) ?_
        refine zs_iload (pc := 39) (i := 4) C (by decide +kernel) rfl ?_
        refine zs_iadd (pc := 41) C (by decide +kernel) ?_
        refine zs_zald (pc := 42) (o := 301) (n := 25625) C (by decide +kernel) rfl (fun hinx7 x7 => ?_)
        refine zs_if_eq (pc := 43) (off := 8) (tgt := 51) C (by decide +kernel) (by decide) ?_ ?_
        · exact zs_goj (hJ6 ()) ⟨rfl, rfl, rfl, rfl, trivial⟩
        · refine zs_iload_n (pc := 46) (k := 3) (i := 3) C (by decide +kernel) rfl rfl ?_
          refine zs_csRi (pc := 47) (As := [sI t1]) (st := []) C rfl (c_X12_turnsOf l g t1) ml_RX12_455 rfl rfl (Nat.le_of_ble_eq_true rfl) ⟨Nat.le_of_ble_eq_true rfl, Nat.le_of_ble_eq_true rfl⟩ ⟨Nat.le_of_ble_eq_true rfl, Nat.le_of_ble_eq_true rfl⟩ (by decide +kernel) (fun x8 => ?_)
          exact zs_retRi (pc := 50) C hr ⟨Nat.le_of_ble_eq_true rfl, Nat.le_of_ble_eq_true rfl⟩ (by decide +kernel)
set_option maxRecDepth 20000 in
theorem c_X12_laysWay (l : Launch) (g : GC) (a0 : Int) (a1 : Int) (a2 : Int) : ConW l g yX12_laysWay cX12_laysWay 7 (some .int) (rmd 7 0 0) [sR 287, sI a0, sI a1, sI a2] (fun mm => fX12_laysWay a0 a1 a2 mm) := by
  refine zs_ofW (by decide +kernel) (Nat.le_of_ble_eq_true rfl) ?_
  intro p e s m args below meth c C hr
  replace C : Bd g RX12 cX12_laysWay 7 p s m args meth c := C
  unfold fX12_laysWay
  refine zs_aload_n (pc := 0) (k := 0) (i := 0) C (by decide +kernel) rfl rfl ?_
  refine zs_iload_n (pc := 1) (k := 1) (i := 1) C (by decide +kernel) rfl rfl ?_
  refine zs_cvVv (pc := 2) (As := [sI a0]) (st := []) C (fun _ _ _ => rfl) (c_X12_laysOwn l g a0) ml_RX12_461 rfl rfl rfl rfl (Nat.le_of_ble_eq_true rfl) ⟨Nat.le_of_ble_eq_true rfl, Nat.le_of_ble_eq_true rfl⟩ ⟨Nat.le_of_ble_eq_true rfl, Nat.le_of_ble_eq_true rfl⟩ (by decide +kernel) ?_
  refine zs_aload_n (pc := 5) (k := 0) (i := 0) C (by decide +kernel) rfl rfl ?_
  refine zs_iload_n (pc := 6) (k := 1) (i := 1) C (by decide +kernel) rfl rfl ?_
  refine zs_iload_n (pc := 7) (k := 2) (i := 2) C (by decide +kernel) rfl rfl ?_
  refine zs_iload_n (pc := 8) (k := 3) (i := 3) C (by decide +kernel) rfl rfl ?_
  refine zs_cvWi (pc := 9) (As := [sI a0, sI a1, sI a2]) (st := []) C (fun _ _ _ => rfl) rfl (c_X12_wayOf l g a0 a1 a2) ml_RX12_485 rfl rfl rfl rfl (Nat.le_of_ble_eq_true rfl) ⟨Nat.le_of_ble_eq_true rfl, Nat.le_of_ble_eq_true rfl⟩ ⟨Nat.le_of_ble_eq_true rfl, Nat.le_of_ble_eq_true rfl⟩ (by decide +kernel) (fun x1 => ?_)
  refine zs_istore (pc := 12) (i := 4) (ls' := [(4, sI x1), (0, sR 287), (1, sI a0), (2, sI a1), (3, sI a2)]) C (by decide +kernel) (Nat.le_of_ble_eq_true rfl) rfl ?_
  refine zs_iload (pc := 14) (i := 4) C (by decide +kernel) rfl ?_
  refine zs_iconst (pc := 16) (n := (-1)) (x := (-1)) C (by decide +kernel) (by decide +kernel) ?_
  refine zs_icmp_ne (pc := 17) (off := 5) (tgt := 22) C (by decide +kernel) (by decide) ?_ ?_
  · refine zs_iconst (pc := 22) (n := 0) (x := 0) C (by decide +kernel) (by decide +kernel) ?_
    refine zs_istore (pc := 23) (i := 5) (ls' := [(5, sI 0), (4, sI x1), (0, sR 287), (1, sI a0), (2, sI a1), (3, sI a2)]) C (by decide +kernel) (Nat.le_of_ble_eq_true rfl) rfl ?_
    refine zs_sub (ls' := [(0, sR 287), (1, sI a0), (2, sI a1), (3, sI a2), (4, sI x1), (5, sI 0)]) ⟨rfl, rfl, rfl, rfl, rfl, rfl, trivial⟩ ?_
    refine zs_lp (pc := 25) (fun (t2 : Int) => [(0, sR 287), (1, sI a0), (2, sI a1), (3, sI a2), (4, sI x1), (5, sI t2)]) (fun _ => []) (fun K3 hK3 t2 => ?_) BIG 0
    refine zs_iload (pc := 25) (i := 5) C (by decide +kernel) rfl ?_
    refine zs_sipush (pc := 27) (n := 625) (x := 625) C (by decide +kernel) (by decide +kernel) ?_
    refine zs_iload (pc := 30) (i := 4) C (by decide +kernel) rfl ?_
    refine zs_iconst (pc := 32) (n := 1) (x := 1) C (by decide +kernel) (by decide +kernel) ?_
    refine zs_iadd (pc := 33) C (by decide +kernel) ?_
    refine zs_imul (pc := 34) C (by decide +kernel) ?_
    refine zs_icmp_ge (pc := 35) (off := 39) (tgt := 74) C (by decide +kernel) (by decide) ?_ ?_
    · refine zs_iload (pc := 74) (i := 4) C (by decide +kernel) rfl ?_
      refine zs_iconst (pc := 76) (n := 1) (x := 1) C (by decide +kernel) (by decide +kernel) ?_
      refine zs_isub (pc := 77) C (by decide +kernel) ?_
      refine zs_let (fun x4 => ?_)
      refine zs_istore (pc := 78) (i := 5) (ls' := [(5, sI x4), (0, sR 287), (1, sI a0), (2, sI a1), (3, sI a2), (4, sI x1)]) C (by decide +kernel) (Nat.le_of_ble_eq_true rfl) rfl ?_
      refine zs_sub (ls' := [(0, sR 287), (1, sI a0), (4, sI x1), (5, sI x4)]) ⟨rfl, rfl, rfl, rfl, trivial⟩ ?_
      refine zs_lp (pc := 80) (fun (t5 : Int) => [(0, sR 287), (1, sI a0), (4, sI x1), (5, sI t5)]) (fun _ => []) (fun K6 hK6 t5 => ?_) BIG x4
      refine zs_iload (pc := 80) (i := 5) C (by decide +kernel) rfl ?_
      refine zs_if_lt (pc := 82) (off := 74) (tgt := 156) C (by decide +kernel) (by decide) ?_ ?_
      · refine zs_aload_n (pc := 156) (k := 0) (i := 0) C (by decide +kernel) rfl rfl ?_
        refine zs_iload_n (pc := 157) (k := 1) (i := 1) C (by decide +kernel) rfl rfl ?_
        refine zs_cvRi (pc := 158) (As := [sI a0]) (st := []) C rfl (c_X12_bothNow l g a0) ml_RX12_452 rfl rfl rfl rfl (Nat.le_of_ble_eq_true rfl) ⟨Nat.le_of_ble_eq_true rfl, Nat.le_of_ble_eq_true rfl⟩ ⟨Nat.le_of_ble_eq_true rfl, Nat.le_of_ble_eq_true rfl⟩ (by decide +kernel) (fun x7 => ?_)
        refine zs_istore (pc := 161) (i := 5) (ls' := [(5, sI x7), (0, sR 287), (1, sI a0), (4, sI x1)]) C (by decide +kernel) (Nat.le_of_ble_eq_true rfl) rfl ?_
        refine zs_iconst (pc := 163) (n := 0) (x := 0) C (by decide +kernel) (by decide +kernel) ?_
        refine zs_istore (pc := 164) (i := 6) (ls' := [(6, sI 0), (5, sI x7), (0, sR 287), (1, sI a0), (4, sI x1)]) C (by decide +kernel) (Nat.le_of_ble_eq_true rfl) rfl ?_
        refine zs_sub (ls' := [(0, sR 287), (4, sI x1), (5, sI x7), (6, sI 0)]) ⟨rfl, rfl, rfl, rfl, trivial⟩ ?_
        refine zs_lp (pc := 166) (fun (t8 : Int × Int) => [(0, sR 287), (4, sI x1), (5, sI t8.1), (6, sI t8.2)]) (fun _ => []) (fun K9 hK9 t8 => ?_) BIG (x7, 0)
        refine zs_iload (pc := 166) (i := 6) C (by decide +kernel) rfl ?_
        refine zs_iload (pc := 168) (i := 4) C (by decide +kernel) rfl ?_
        refine zs_icmp_ge (pc := 170) (off := 47) (tgt := 217) C (by decide +kernel) (by decide) ?_ ?_
        · refine zs_iload (pc := 217) (i := 4) C (by decide +kernel) rfl ?_
          exact zs_retWi (pc := 219) C hr ⟨Nat.le_of_ble_eq_true rfl, Nat.le_of_ble_eq_true rfl⟩ (by decide +kernel)
        · refine zs_aload_n (pc := 173) (k := 0) (i := 0) C (by decide +kernel) rfl rfl ?_
          refine zs_getR (o' := 302) (pc := 174) (i := 57) (ci := 12) (k := 30) C (by decide +kernel) fl_RX12_57 rfl rfl rfl ?_
          refine zs_iload (pc := 177) (i := 6) C (by decide +kernel) rfl ?_
          refine zs_iconst (pc := 179) (n := 1) (x := 1) C (by decide +kernel) (by decide +kernel) ?_
          refine zs_iadd (pc := 180) C (by decide +kernel) ?_
          refine zs_aload_n (pc := 181) (k := 0) (i := 0) C (by decide +kernel) rfl rfl ?_
          refine zs_iload (pc := 182) (i := 6) C (by decide +kernel) rfl ?_
          refine zs_iload (pc := 184) (i := 5) C (by decide +kernel) rfl ?_
          refine zs_cvRi (pc := 186) (As := [sI t8.2, sI t8.1]) (st := [sI (w32 (t8.2 + 1)), sR 302]) C rfl (c_X12_nextTurns l g t8.2 t8.1) ml_RX12_488 rfl rfl rfl rfl (Nat.le_of_ble_eq_true rfl) ⟨Nat.le_of_ble_eq_true rfl, Nat.le_of_ble_eq_true rfl⟩ ⟨Nat.le_of_ble_eq_true rfl, Nat.le_of_ble_eq_true rfl⟩ (by decide +kernel) (fun x10 => ?_)
          refine zs_iast (pc := 189) (o := 302) (n := 41) C (fun _ _ _ => rfl) (by decide +kernel) rfl ?_
          refine zs_aload_n (pc := 190) (k := 0) (i := 0) C (by decide +kernel) rfl rfl ?_
          refine zs_iload (pc := 191) (i := 6) C (by decide +kernel) rfl ?_
          refine zs_iconst (pc := 193) (n := 1) (x := 1) C (by decide +kernel) (by decide +kernel) ?_
          refine zs_iadd (pc := 194) C (by decide +kernel) ?_
          refine zs_iload (pc := 195) (i := 5) C (by decide +kernel) rfl ?_
          refine zs_aload_n (pc := 197) (k := 0) (i := 0) C (by decide +kernel) rfl rfl ?_
          refine zs_getR (o' := 302) (pc := 198) (i := 57) (ci := 12) (k := 30) C (by decide +kernel) fl_RX12_57 rfl rfl rfl ?_
          refine zs_iload (pc := 201) (i := 6) C (by decide +kernel) rfl ?_
          refine zs_iconst (pc := 203) (n := 1) (x := 1) C (by decide +kernel) (by decide +kernel) ?_
          refine zs_iadd (pc := 204) C (by decide +kernel) ?_
          refine zs_iald (pc := 205) (o := 302) (n := 41) C (by decide +kernel) rfl (fun hinx11 x11 => ?_)
          refine zs_cvRi (pc := 206) (As := [sI (w32 (t8.2 + 1)), sI t8.1, sI x11]) (st := []) C rfl (c_X12_bothIn l g (w32 (t8.2 + 1)) t8.1 x11) ml_RX12_458 rfl rfl rfl rfl (Nat.le_of_ble_eq_true rfl) ⟨Nat.le_of_ble_eq_true rfl, Nat.le_of_ble_eq_true rfl⟩ ⟨Nat.le_of_ble_eq_true rfl, Nat.le_of_ble_eq_true rfl⟩ (by decide +kernel) (fun x12 => ?_)
          refine zs_istore (pc := 209) (i := 5) (ls' := [(5, sI x12), (0, sR 287), (4, sI x1), (6, sI t8.2)]) C (by decide +kernel) (Nat.le_of_ble_eq_true rfl) rfl ?_
          refine zs_iinc (pc := 211) (i := 6) (n := 1) (y := w32 (t8.2 + 1)) (ls' := [(6, sI (w32 (t8.2 + 1))), (5, sI x12), (0, sR 287), (4, sI x1)]) C (by decide +kernel) rfl rfl (Nat.le_of_ble_eq_true rfl) rfl ?_
          refine zs_goto (pc := 214) (off := (-48)) (tgt := 166) C (by decide +kernel) (by decide) ?_
          exact zs_goj (hK9 (x12, w32 (t8.2 + 1))) ⟨rfl, rfl, rfl, rfl, trivial⟩
      · refine zs_iconst (pc := 85) (n := 0) (x := 0) C (by decide +kernel) (by decide +kernel) ?_
        refine zs_istore (pc := 86) (i := 6) (ls' := [(6, sI 0), (0, sR 287), (1, sI a0), (4, sI x1), (5, sI t5)]) C (by decide +kernel) (Nat.le_of_ble_eq_true rfl) rfl ?_
        refine zs_sub (ls' := [(0, sR 287), (1, sI a0), (4, sI x1), (5, sI t5), (6, sI 0)]) ⟨rfl, rfl, rfl, rfl, rfl, trivial⟩ ?_
        refine zs_lp (pc := 88) (fun (t13 : Int) => [(0, sR 287), (1, sI a0), (4, sI x1), (5, sI t5), (6, sI t13)]) (fun _ => []) (fun K14 hK14 t13 => ?_) BIG 0
        refine zs_iload (pc := 88) (i := 6) C (by decide +kernel) rfl ?_
        refine zs_sipush (pc := 90) (n := 625) (x := 625) C (by decide +kernel) (by decide +kernel) ?_
        refine zs_icmp_ge (pc := 93) (off := 57) (tgt := 150) C (by decide +kernel) (by decide) ?_ ?_
        · refine zs_iinc (pc := 150) (i := 5) (n := (-1)) (y := w32 (t5 + (-1))) (ls' := [(5, sI (w32 (t5 + (-1)))), (0, sR 287), (1, sI a0), (4, sI x1), (6, sI t13)]) C (by decide +kernel) rfl rfl (Nat.le_of_ble_eq_true rfl) rfl ?_
          refine zs_goto (pc := 153) (off := (-73)) (tgt := 80) C (by decide +kernel) (by decide) ?_
          exact zs_goj (hK6 (w32 (t5 + (-1)))) ⟨rfl, rfl, rfl, rfl, trivial⟩
        · refine zs_aload_n (pc := 96) (k := 0) (i := 0) C (by decide +kernel) rfl rfl ?_
          refine zs_getR (o' := 301) (pc := 97) (i := 54) (ci := 12) (k := 29) C (by decide +kernel) fl_RX12_54 rfl rfl rfl ?_
          refine zs_sipush (pc := 100) (n := 625) (x := 625) C (by decide +kernel) (by decide +kernel) ?_
          refine zs_iload (pc := 103) (i := 5) C (by decide +kernel) rfl ?_
          refine zs_imul (pc := 105) C (by decide +kernel) ?_
          refine zs_iload (pc := 106) (i := 6) C (by decide +kernel) rfl ?_
          refine zs_iadd (pc := 108) C (by decide +kernel) ?_
          refine zs_aload_n (pc := 109) (k := 0) (i := 0) C (by decide +kernel) rfl rfl ?_
          refine zs_getR (o' := 298) (pc := 110) (i := 45) (ci := 12) (k := 25) C (by decide +kernel) fl_RX12_45 rfl rfl rfl ?_
          refine zs_sipush (pc := 113) (n := 625) (x := 625) C (by decide +kernel) (by decide +kernel) ?_
          refine zs_iload (pc := 116) (i := 5) C (by decide +kernel) rfl ?_
          refine zs_imul (pc := 118) C (by decide +kernel) ?_
          refine zs_iload (pc := 119) (i := 6) C (by decide +kernel) rfl ?_
          refine zs_iadd (pc := 121) C (by decide +kernel) ?_
          refine zs_zald (pc := 122) (o := 298) (n := 25625) C (by decide +kernel) rfl (fun hinx15 x15 => ?_)
          refine zs_jn (pJ := 143) (kJ := 0) (sJ := 0) (fun t16 => [(0, sR 287), (1, sI a0), (4, sI x1), (5, sI t5), (6, sI t13)]) (fun t16 => [sI t16, sI (w32 ((w32 (625 * t5)) + t13)), sR 301]) (fun t16 => ?_) (fun J17 hJ17 => ?_)
          · refine zs_zast (pc := 143) (o := 301) (n := 25625) C (fun _ _ _ => rfl) (by decide +kernel) rfl ?_
            refine zs_iinc (pc := 144) (i := 6) (n := 1) (y := w32 (t13 + 1)) (ls' := [(6, sI (w32 (t13 + 1))), (0, sR 287), (1, sI a0), (4, sI x1), (5, sI t5)]) C (by decide +kernel) rfl rfl (Nat.le_of_ble_eq_true rfl) rfl ?_
            refine zs_goto (pc := 147) (off := (-59)) (tgt := 88) C (by decide +kernel) (by decide) ?_
            exact zs_goj (hK14 (w32 (t13 + 1))) ⟨rfl, rfl, rfl, rfl, rfl, trivial⟩
          · refine zs_jn (pJ := 142) (kJ := 0) (sJ := 0) (fun t18 => [(0, sR 287), (1, sI a0), (4, sI x1), (5, sI t5), (6, sI t13)]) (fun t18 => [sI (w32 ((w32 (625 * t5)) + t13)), sR 301]) (fun t18 => ?_) (fun J19 hJ19 => ?_)
            · refine zs_iconst (pc := 142) (n := 0) (x := 0) C (by decide +kernel) (by decide +kernel) ?_
              exact zs_goj (hJ17 0) ⟨rfl, rfl, rfl, rfl, rfl, trivial⟩
            · refine zs_if_eq (pc := 123) (off := 19) (tgt := 142) C (by decide +kernel) (by decide) ?_ ?_
              · exact zs_goj (hJ19 ()) ⟨rfl, rfl, rfl, rfl, rfl, trivial⟩
              · refine zs_aload_n (pc := 126) (k := 0) (i := 0) C (by decide +kernel) rfl rfl ?_
                refine zs_iload (pc := 127) (i := 5) C (by decide +kernel) rfl ?_
                refine zs_iload (pc := 129) (i := 6) C (by decide +kernel) rfl ?_
                refine zs_cvRi (pc := 131) (As := [sI t5, sI t13]) (st := [sI (w32 ((w32 (625 * t5)) + t13)), sR 301]) C rfl (c_X12_nextTurns l g t5 t13) ml_RX12_488 rfl rfl rfl rfl (Nat.le_of_ble_eq_true rfl) ⟨Nat.le_of_ble_eq_true rfl, Nat.le_of_ble_eq_true rfl⟩ ⟨Nat.le_of_ble_eq_true rfl, Nat.le_of_ble_eq_true rfl⟩ (by decide +kernel) (fun x20 => ?_)
                refine zs_iconst (pc := 134) (n := (-1)) (x := (-1)) C (by decide +kernel) (by decide +kernel) ?_
                refine zs_icmp_eq (pc := 135) (off := 7) (tgt := 142) C (by decide +kernel) (by decide) ?_ ?_
                · exact zs_goj (hJ19 ()) ⟨rfl, rfl, rfl, rfl, rfl, trivial⟩
                · refine zs_iconst (pc := 138) (n := 1) (x := 1) C (by decide +kernel) (by decide +kernel) ?_
                  refine zs_goto (pc := 139) (off := 4) (tgt := 143) C (by decide +kernel) (by decide) ?_
                  exact zs_goj (hJ17 1) ⟨rfl, rfl, rfl, rfl, rfl, trivial⟩
    · refine zs_aload_n (pc := 38) (k := 0) (i := 0) C (by decide +kernel) rfl rfl ?_
      refine zs_getR (o' := 301) (pc := 39) (i := 54) (ci := 12) (k := 29) C (by decide +kernel) fl_RX12_54 rfl rfl rfl ?_
      refine zs_iload (pc := 42) (i := 5) C (by decide +kernel) rfl ?_
      refine zs_iload (pc := 44) (i := 5) C (by decide +kernel) rfl ?_
      refine zs_sipush (pc := 46) (n := 625) (x := 625) C (by decide +kernel) (by decide +kernel) ?_
      refine zs_iload (pc := 49) (i := 4) C (by decide +kernel) rfl ?_
      refine zs_imul (pc := 51) C (by decide +kernel) ?_
      refine zs_bipush (pc := 52) (n := 25) (x := 25) C (by decide +kernel) (by decide +kernel) ?_
      refine zs_iload_n (pc := 54) (k := 2) (i := 2) C (by decide +kernel) rfl rfl ?_
      refine zs_imul (pc := 55) C (by decide +kernel) ?_
      refine zs_iadd (pc := 56) C (by decide +kernel) ?_
      refine zs_iload_n (pc := 57) (k := 3) (i := 3) C (by decide +kernel) rfl rfl ?_
      refine zs_iadd (pc := 58) C (by decide +kernel) ?_
      refine zs_jn (pJ := 67) (kJ := 0) (sJ := 0) (fun t21 => [(0, sR 287), (1, sI a0), (2, sI a1), (3, sI a2), (4, sI x1), (5, sI t2)]) (fun t21 => [sI t21, sI t2, sR 301]) (fun t21 => ?_) (fun J22 hJ22 => ?_)
      · refine zs_zast (pc := 67) (o := 301) (n := 25625) C (fun _ _ _ => rfl) (by decide +kernel) rfl ?_
        refine zs_iinc (pc := 68) (i := 5) (n := 1) (y := w32 (t2 + 1)) (ls' := [(5, sI (w32 (t2 + 1))), (0, sR 287), (1, sI a0), (2, sI a1), (3, sI a2), (4, sI x1)]) C (by decide +kernel) rfl rfl (Nat.le_of_ble_eq_true rfl) rfl ?_
        refine zs_goto (pc := 71) (off := (-46)) (tgt := 25) C (by decide +kernel) (by decide) ?_
        exact zs_goj (hK3 (w32 (t2 + 1))) ⟨rfl, rfl, rfl, rfl, rfl, rfl, trivial⟩
      · refine zs_icmp_ne (pc := 59) (off := 7) (tgt := 66) C (by decide +kernel) (by decide) ?_ ?_
        · refine zs_iconst (pc := 66) (n := 0) (x := 0) C (by decide +kernel) (by decide +kernel) ?_
          exact zs_goj (hJ22 0) ⟨rfl, rfl, rfl, rfl, rfl, rfl, trivial⟩
        · refine zs_iconst (pc := 62) (n := 1) (x := 1) C (by decide +kernel) (by decide +kernel) ?_
          refine zs_goto (pc := 63) (off := 4) (tgt := 67) C (by decide +kernel) (by decide) ?_
          exact zs_goj (hJ22 1) ⟨rfl, rfl, rfl, rfl, rfl, rfl, trivial⟩
  · refine zs_iconst (pc := 20) (n := (-1)) (x := (-1)) C (by decide +kernel) (by decide +kernel) ?_
    exact zs_retWi (pc := 21) C hr ⟨Nat.le_of_ble_eq_true rfl, Nat.le_of_ble_eq_true rfl⟩ (by decide +kernel)
set_option maxRecDepth 20000 in
theorem c_X12_leads (l : Launch) (g : GC) (a0 : Int) (a1 : Int) (a2 : Int) (a3 : Int) : ConW l g yX12_leads cX12_leads 5 (some .int) (rmd 8 0 0) [sR 287, sI a0, sI a1, sI a2, sI a3] (fun mm => fX12_leads a0 a1 a2 a3 mm) := by
  refine zs_ofW (by decide +kernel) (Nat.le_of_ble_eq_true rfl) ?_
  intro p e s m args below meth c C hr
  replace C : Bd g RX12 cX12_leads 5 p s m args meth c := C
  unfold fX12_leads
  refine zs_aload_n (pc := 0) (k := 0) (i := 0) C (by decide +kernel) rfl rfl ?_
  refine zs_iload_n (pc := 1) (k := 1) (i := 1) C (by decide +kernel) rfl rfl ?_
  refine zs_iload_n (pc := 2) (k := 2) (i := 2) C (by decide +kernel) rfl rfl ?_
  refine zs_iload_n (pc := 3) (k := 3) (i := 3) C (by decide +kernel) rfl rfl ?_
  refine zs_cvWi (pc := 4) (As := [sI a0, sI a1, sI a2]) (st := []) C (fun _ _ _ => rfl) rfl (c_X12_isWayOut l g a0 a1 a2) ml_RX12_481 rfl rfl rfl rfl (Nat.le_of_ble_eq_true rfl) ⟨Nat.le_of_ble_eq_true rfl, Nat.le_of_ble_eq_true rfl⟩ ⟨Nat.le_of_ble_eq_true rfl, Nat.le_of_ble_eq_true rfl⟩ (by decide +kernel) (fun x1 => ?_)
  refine zs_jn (pJ := 21) (kJ := 0) (sJ := 0) (fun t2 => [(0, sR 287), (1, sI a0), (2, sI a1), (3, sI a2), (4, sI a3)]) (fun t2 => []) (fun t2 => ?_) (fun J3 hJ3 => ?_)
  · refine zs_aload_n (pc := 21) (k := 0) (i := 0) C (by decide +kernel) rfl rfl ?_
    refine zs_getI (pc := 22) (i := 88) (ci := 12) (k := 4) C (by decide +kernel) fl_RX12_88 rfl rfl (fun x4 => ?_)
    refine zs_if_le (pc := 25) (off := 5) (tgt := 30) C (by decide +kernel) (by decide) ?_ ?_
    · refine zs_iload (pc := 30) (i := 4) C (by decide +kernel) rfl ?_
      refine zs_aload_n (pc := 32) (k := 0) (i := 0) C (by decide +kernel) rfl rfl ?_
      refine zs_iload_n (pc := 33) (k := 1) (i := 1) C (by decide +kernel) rfl rfl ?_
      refine zs_iload_n (pc := 34) (k := 2) (i := 2) C (by decide +kernel) rfl rfl ?_
      refine zs_iload_n (pc := 35) (k := 3) (i := 3) C (by decide +kernel) rfl rfl ?_
      refine zs_cvWi (pc := 36) (As := [sI a0, sI a1, sI a2]) (st := [sI a3]) C (fun _ _ _ => rfl) rfl (c_X12_laysWay l g a0 a1 a2) ml_RX12_491 rfl rfl rfl rfl (Nat.le_of_ble_eq_true rfl) ⟨Nat.le_of_ble_eq_true rfl, Nat.le_of_ble_eq_true rfl⟩ ⟨Nat.le_of_ble_eq_true rfl, Nat.le_of_ble_eq_true rfl⟩ (by decide +kernel) (fun x5 => ?_)
      refine zs_jn (pJ := 53) (kJ := 0) (sJ := 0) (fun t6 => []) (fun t6 => [sI t6]) (fun t6 => ?_) (fun J7 hJ7 => ?_)
      · exact zs_retWi (pc := 53) C hr ⟨Nat.le_of_ble_eq_true rfl, Nat.le_of_ble_eq_true rfl⟩ (by decide +kernel)
      · refine zs_icmp_gt (pc := 39) (off := 13) (tgt := 52) C (by decide +kernel) (by decide) ?_ ?_
        · refine zs_iconst (pc := 52) (n := (-1)) (x := (-1)) C (by decide +kernel) (by decide +kernel) ?_
          exact zs_goj (hJ7 (-1)) trivial
        · refine zs_aload_n (pc := 42) (k := 0) (i := 0) C (by decide +kernel) rfl rfl ?_
          refine zs_getR (o' := 302) (pc := 43) (i := 57) (ci := 12) (k := 30) C (by decide +kernel) fl_RX12_57 rfl rfl rfl ?_
          refine zs_iload (pc := 46) (i := 4) C (by decide +kernel) rfl ?_
          refine zs_iald (pc := 48) (o := 302) (n := 41) C (by decide +kernel) rfl (fun hinx8 x8 => ?_)
          refine zs_goto (pc := 49) (off := 4) (tgt := 53) C (by decide +kernel) (by decide) ?_
          exact zs_goj (hJ7 x8) trivial
    · refine zs_iconst (pc := 28) (n := 0) (x := 0) C (by decide +kernel) (by decide +kernel) ?_
      exact zs_retWi (pc := 29) C hr ⟨Nat.le_of_ble_eq_true rfl, Nat.le_of_ble_eq_true rfl⟩ (by decide +kernel)
  · refine zs_if_ne (pc := 7) (off := 14) (tgt := 21) C (by decide +kernel) (by decide) ?_ ?_
    · exact zs_goj (hJ3 ()) ⟨rfl, rfl, rfl, rfl, rfl, trivial⟩
    · refine zs_iload (pc := 10) (i := 4) C (by decide +kernel) rfl ?_
      refine zs_iconst (pc := 12) (n := 1) (x := 1) C (by decide +kernel) (by decide +kernel) ?_
      refine zs_icmp_ge (pc := 13) (off := 8) (tgt := 21) C (by decide +kernel) (by decide) ?_ ?_
      · exact zs_goj (hJ3 ()) ⟨rfl, rfl, rfl, rfl, rfl, trivial⟩
      · refine zs_aload_n (pc := 16) (k := 0) (i := 0) C (by decide +kernel) rfl rfl ?_
        refine zs_iconst (pc := 17) (n := 2) (x := 2) C (by decide +kernel) (by decide +kernel) ?_
        refine zs_putI (pc := 18) (i := 88) (ci := 12) (k := 4) C (fun _ _ _ => rfl) (by decide +kernel) fl_RX12_88 fw_12_4 rfl rfl ?_
        exact zs_goj (hJ3 ()) ⟨rfl, rfl, rfl, rfl, rfl, trivial⟩
set_option maxRecDepth 20000 in
theorem c_X12_countsOn (l : Launch) (g : GC) (a0 : Int) (a1 : Int) : ConV l g yX12_countsOn cX12_countsOn 7 (rmd 4 0 0) [sR 287, sI a0, sL a1] (fun mm => fX12_countsOn a0 a1 mm) := by
  refine zs_ofV (by decide +kernel) (Nat.le_of_ble_eq_true rfl) ?_
  intro p e s m args below meth c C hr
  replace C : Bd g RX12 cX12_countsOn 7 p s m args meth c := C
  unfold fX12_countsOn
  refine zs_iconst (pc := 0) (n := 0) (x := 0) C (by decide +kernel) (by decide +kernel) ?_
  refine zs_istore (pc := 1) (i := 4) (ls' := [(4, sI 0), (0, sR 287), (1, sI a0), (2, sL a1)]) C (by decide +kernel) (Nat.le_of_ble_eq_true rfl) rfl ?_
  refine zs_sub (ls' := [(0, sR 287), (1, sI a0), (2, sL a1), (4, sI 0)]) ⟨rfl, rfl, rfl, rfl, trivial⟩ ?_
  refine zs_lp (pc := 3) (fun (t1 : Int) => [(0, sR 287), (1, sI a0), (2, sL a1), (4, sI t1)]) (fun _ => []) (fun K2 hK2 t1 => ?_) BIG 0
  refine zs_iload (pc := 3) (i := 4) C (by decide +kernel) rfl ?_
  refine zs_sipush (pc := 5) (n := 625) (x := 625) C (by decide +kernel) (by decide +kernel) ?_
  refine zs_icmp_ge (pc := 8) (off := 17) (tgt := 25) C (by decide +kernel) (by decide) ?_ ?_
  · refine zs_iconst (pc := 25) (n := 0) (x := 0) C (by decide +kernel) (by decide +kernel) ?_
    refine zs_istore (pc := 26) (i := 4) (ls' := [(4, sI 0), (0, sR 287), (1, sI a0), (2, sL a1)]) C (by decide +kernel) (Nat.le_of_ble_eq_true rfl) rfl ?_
    refine zs_sub (ls' := [(0, sR 287), (1, sI a0), (2, sL a1), (4, sI 0)]) ⟨rfl, rfl, rfl, rfl, trivial⟩ ?_
    refine zs_lp (pc := 28) (fun (t3 : Int) => [(0, sR 287), (1, sI a0), (2, sL a1), (4, sI t3)]) (fun _ => []) (fun K4 hK4 t3 => ?_) BIG 0
    refine zs_iload (pc := 28) (i := 4) C (by decide +kernel) rfl ?_
    refine zs_sipush (pc := 30) (n := 625) (x := 625) C (by decide +kernel) (by decide +kernel) ?_
    refine zs_icmp_ge (pc := 33) (off := 93) (tgt := 126) C (by decide +kernel) (by decide) ?_ ?_
    · refine zs_iconst (pc := 126) (n := 0) (x := 0) C (by decide +kernel) (by decide +kernel) ?_
      refine zs_istore (pc := 127) (i := 4) (ls' := [(4, sI 0), (0, sR 287), (1, sI a0), (2, sL a1)]) C (by decide +kernel) (Nat.le_of_ble_eq_true rfl) rfl ?_
      refine zs_sub (ls' := [(0, sR 287), (4, sI 0)]) ⟨rfl, rfl, trivial⟩ ?_
      refine zs_lp (pc := 129) (fun (t5 : Int) => [(0, sR 287), (4, sI t5)]) (fun _ => []) (fun K6 hK6 t5 => ?_) BIG 0
      refine zs_iload (pc := 129) (i := 4) C (by decide +kernel) rfl ?_
      refine zs_sipush (pc := 131) (n := 625) (x := 625) C (by decide +kernel) (by decide +kernel) ?_
      refine zs_icmp_ge (pc := 134) (off := 23) (tgt := 157) C (by decide +kernel) (by decide) ?_ ?_
      · exact zs_retVv (pc := 157) C hr ⟨Nat.le_of_ble_eq_true rfl, Nat.le_of_ble_eq_true rfl⟩ (by decide +kernel)
      · refine zs_aload_n (pc := 137) (k := 0) (i := 0) C (by decide +kernel) rfl rfl ?_
        refine zs_getR (o' := 303) (pc := 138) (i := 60) (ci := 12) (k := 31) C (by decide +kernel) fl_RX12_60 rfl rfl rfl ?_
        refine zs_iload (pc := 141) (i := 4) C (by decide +kernel) rfl ?_
        refine zs_aload_n (pc := 143) (k := 0) (i := 0) C (by decide +kernel) rfl rfl ?_
        refine zs_getR (o' := 304) (pc := 144) (i := 64) (ci := 12) (k := 32) C (by decide +kernel) fl_RX12_64 rfl rfl rfl ?_
        refine zs_iload (pc := 147) (i := 4) C (by decide +kernel) rfl ?_
        refine zs_lald (pc := 149) (o := 304) (n := 625) C (by decide +kernel) rfl (fun hinx7 x7 => ?_)
        refine zs_last (pc := 150) (o := 303) (n := 625) C (fun _ _ _ => rfl) (by decide +kernel) rfl ?_
        refine zs_iinc (pc := 151) (i := 4) (n := 1) (y := w32 (t5 + 1)) (ls' := [(4, sI (w32 (t5 + 1))), (0, sR 287)]) C (by decide +kernel) rfl rfl (Nat.le_of_ble_eq_true rfl) rfl ?_
        refine zs_goto (pc := 154) (off := (-25)) (tgt := 129) C (by decide +kernel) (by decide) ?_
        exact zs_goj (hK6 (w32 (t5 + 1))) ⟨rfl, rfl, trivial⟩
    · refine zs_iconst (pc := 36) (n := 0) (x := 0) C (by decide +kernel) (by decide +kernel) ?_
      refine zs_istore (pc := 37) (i := 5) (ls' := [(5, sI 0), (0, sR 287), (1, sI a0), (2, sL a1), (4, sI t3)]) C (by decide +kernel) (Nat.le_of_ble_eq_true rfl) rfl ?_
      refine zs_sub (ls' := [(0, sR 287), (1, sI a0), (2, sL a1), (4, sI t3), (5, sI 0)]) ⟨rfl, rfl, rfl, rfl, rfl, trivial⟩ ?_
      refine zs_lp (pc := 39) (fun (t8 : Int) => [(0, sR 287), (1, sI a0), (2, sL a1), (4, sI t3), (5, sI t8)]) (fun _ => []) (fun K9 hK9 t8 => ?_) BIG 0
      refine zs_iload (pc := 39) (i := 5) C (by decide +kernel) rfl ?_
      refine zs_bipush (pc := 41) (n := 25) (x := 25) C (by decide +kernel) (by decide +kernel) ?_
      refine zs_jn (pJ := 120) (kJ := 0) (sJ := 0) (fun t10 => [(0, sR 287), (1, sI a0), (2, sL a1), (4, sI t3)]) (fun t10 => []) (fun t10 => ?_) (fun J11 hJ11 => ?_)
      · refine zs_iinc (pc := 120) (i := 4) (n := 1) (y := w32 (t3 + 1)) (ls' := [(4, sI (w32 (t3 + 1))), (0, sR 287), (1, sI a0), (2, sL a1)]) C (by decide +kernel) rfl rfl (Nat.le_of_ble_eq_true rfl) rfl ?_
        refine zs_goto (pc := 123) (off := (-95)) (tgt := 28) C (by decide +kernel) (by decide) ?_
        exact zs_goj (hK4 (w32 (t3 + 1))) ⟨rfl, rfl, rfl, rfl, trivial⟩
      · refine zs_icmp_ge (pc := 43) (off := 77) (tgt := 120) C (by decide +kernel) (by decide) ?_ ?_
        · exact zs_goj (hJ11 ()) ⟨rfl, rfl, rfl, rfl, trivial⟩
        · refine zs_aload_n (pc := 46) (k := 0) (i := 0) C (by decide +kernel) rfl rfl ?_
          refine zs_getR (o' := 303) (pc := 47) (i := 60) (ci := 12) (k := 31) C (by decide +kernel) fl_RX12_60 rfl rfl rfl ?_
          refine zs_iload (pc := 50) (i := 4) C (by decide +kernel) rfl ?_
          refine zs_lald (pc := 52) (o := 303) (n := 625) C (by decide +kernel) rfl (fun hinx12 x12 => ?_)
          refine zs_lconst (pc := 53) (n := 0) (x := 0) C (by decide +kernel) (by decide +kernel) ?_
          refine zs_lcmp_le (pc := 54) (off := 65) (tgt := 120) C (by decide +kernel) (by decide +kernel) (by decide) ?_ ?_
          · exact zs_goj (hJ11 ()) ⟨rfl, rfl, rfl, rfl, trivial⟩
          · refine zs_aload_n (pc := 58) (k := 0) (i := 0) C (by decide +kernel) rfl rfl ?_
            refine zs_iload_n (pc := 59) (k := 1) (i := 1) C (by decide +kernel) rfl rfl ?_
            refine zs_iload (pc := 60) (i := 4) C (by decide +kernel) rfl ?_
            refine zs_iload (pc := 62) (i := 5) C (by decide +kernel) rfl ?_
            refine zs_csRi (pc := 64) (As := [sI t8]) (st := [sI t3, sI a0, sR 287]) C rfl (c_X12_turnsOf l g t8) ml_RX12_455 rfl rfl (Nat.le_of_ble_eq_true rfl) ⟨Nat.le_of_ble_eq_true rfl, Nat.le_of_ble_eq_true rfl⟩ ⟨Nat.le_of_ble_eq_true rfl, Nat.le_of_ble_eq_true rfl⟩ (by decide +kernel) (fun x13 => ?_)
            refine zs_cvRi (pc := 67) (As := [sI a0, sI t3, sI x13]) (st := []) C rfl (c_X12_bothIn l g a0 t3 x13) ml_RX12_458 rfl rfl rfl rfl (Nat.le_of_ble_eq_true rfl) ⟨Nat.le_of_ble_eq_true rfl, Nat.le_of_ble_eq_true rfl⟩ ⟨Nat.le_of_ble_eq_true rfl, Nat.le_of_ble_eq_true rfl⟩ (by decide +kernel) (fun x14 => ?_)
            refine zs_istore (pc := 70) (i := 6) (ls' := [(6, sI x14), (0, sR 287), (1, sI a0), (2, sL a1), (4, sI t3), (5, sI t8)]) C (by decide +kernel) (Nat.le_of_ble_eq_true rfl) rfl ?_
            refine zs_iload (pc := 72) (i := 6) C (by decide +kernel) rfl ?_
            refine zs_iconst (pc := 74) (n := (-1)) (x := (-1)) C (by decide +kernel) (by decide +kernel) ?_
            refine zs_jn (pJ := 114) (kJ := 0) (sJ := 0) (fun t15 => [(0, sR 287), (1, sI a0), (2, sL a1), (4, sI t3), (5, sI t8)]) (fun t15 => []) (fun t15 => ?_) (fun J16 hJ16 => ?_)
            · refine zs_iinc (pc := 114) (i := 5) (n := 1) (y := w32 (t8 + 1)) (ls' := [(5, sI (w32 (t8 + 1))), (0, sR 287), (1, sI a0), (2, sL a1), (4, sI t3)]) C (by decide +kernel) rfl rfl (Nat.le_of_ble_eq_true rfl) rfl ?_
              refine zs_goto (pc := 117) (off := (-78)) (tgt := 39) C (by decide +kernel) (by decide) ?_
              exact zs_goj (hK9 (w32 (t8 + 1))) ⟨rfl, rfl, rfl, rfl, rfl, trivial⟩
            · refine zs_icmp_eq (pc := 75) (off := 39) (tgt := 114) C (by decide +kernel) (by decide) ?_ ?_
              · exact zs_goj (hJ16 ()) ⟨rfl, rfl, rfl, rfl, rfl, trivial⟩
              · refine zs_lload_n (pc := 78) (k := 2) (i := 2) C (by decide +kernel) rfl rfl ?_
                refine zs_ldc2 (pc := 79) (i := 395) (v := (-1)) (x := (-1)) C (by decide +kernel) wf_2229 (by decide +kernel) ?_
                refine zs_jn (pJ := 97) (kJ := 0) (sJ := 0) (fun t17 => [(0, sR 287), (1, sI a0), (2, sL a1), (4, sI t3), (5, sI t8), (6, sI x14)]) (fun t17 => []) (fun t17 => ?_) (fun J18 hJ18 => ?_)
                · refine zs_aload_n (pc := 97) (k := 0) (i := 0) C (by decide +kernel) rfl rfl ?_
                  refine zs_getR (o' := 304) (pc := 98) (i := 64) (ci := 12) (k := 32) C (by decide +kernel) fl_RX12_64 rfl rfl rfl ?_
                  refine zs_iload (pc := 101) (i := 6) C (by decide +kernel) rfl ?_
                  refine zs_dup2 (pc := 103) C rfl rfl (by decide +kernel) ?_
                  refine zs_lald (pc := 104) (o := 304) (n := 625) C (by decide +kernel) rfl (fun hinx19 x19 => ?_)
                  refine zs_aload_n (pc := 105) (k := 0) (i := 0) C (by decide +kernel) rfl rfl ?_
                  refine zs_getR (o' := 303) (pc := 106) (i := 60) (ci := 12) (k := 31) C (by decide +kernel) fl_RX12_60 rfl rfl rfl ?_
                  refine zs_iload (pc := 109) (i := 4) C (by decide +kernel) rfl ?_
                  refine zs_lald (pc := 111) (o := 303) (n := 625) C (by decide +kernel) rfl (fun hinx20 x20 => ?_)
                  refine zs_ladd (pc := 112) C (by decide +kernel) ?_
                  refine zs_last (pc := 113) (o := 304) (n := 625) C (fun _ _ _ => rfl) (by decide +kernel) rfl ?_
                  exact zs_goj (hJ16 ()) ⟨rfl, rfl, rfl, rfl, rfl, trivial⟩
                · refine zs_lcmp_eq (pc := 82) (off := 14) (tgt := 97) C (by decide +kernel) (by decide +kernel) (by decide) ?_ ?_
                  · exact zs_goj (hJ18 ()) ⟨rfl, rfl, rfl, rfl, rfl, rfl, trivial⟩
                  · refine zs_lload_n (pc := 86) (k := 2) (i := 2) C (by decide +kernel) rfl rfl ?_
                    refine zs_iload (pc := 87) (i := 6) C (by decide +kernel) rfl ?_
                    refine zs_bipush (pc := 89) (n := 25) (x := 25) C (by decide +kernel) (by decide +kernel) ?_
                    refine zs_idiv (pc := 91) C (by decide +kernel) (by decide +kernel) ?_
                    refine zs_i2l (pc := 92) C (by decide +kernel) ?_
                    refine zs_lcmp_ne (pc := 93) (off := 20) (tgt := 114) C (by decide +kernel) (by decide +kernel) (by decide) ?_ ?_
                    · exact zs_goj (hJ16 ()) ⟨rfl, rfl, rfl, rfl, rfl, trivial⟩
                    · exact zs_goj (hJ18 ()) ⟨rfl, rfl, rfl, rfl, rfl, rfl, trivial⟩
  · refine zs_aload_n (pc := 11) (k := 0) (i := 0) C (by decide +kernel) rfl rfl ?_
    refine zs_getR (o' := 304) (pc := 12) (i := 64) (ci := 12) (k := 32) C (by decide +kernel) fl_RX12_64 rfl rfl rfl ?_
    refine zs_iload (pc := 15) (i := 4) C (by decide +kernel) rfl ?_
    refine zs_lconst (pc := 17) (n := 0) (x := 0) C (by decide +kernel) (by decide +kernel) ?_
    refine zs_last (pc := 18) (o := 304) (n := 625) C (fun _ _ _ => rfl) (by decide +kernel) rfl ?_
    refine zs_iinc (pc := 19) (i := 4) (n := 1) (y := w32 (t1 + 1)) (ls' := [(4, sI (w32 (t1 + 1))), (0, sR 287), (1, sI a0), (2, sL a1)]) C (by decide +kernel) rfl rfl (Nat.le_of_ble_eq_true rfl) rfl ?_
    refine zs_goto (pc := 22) (off := (-19)) (tgt := 3) C (by decide +kernel) (by decide) ?_
    exact zs_goj (hK2 (w32 (t1 + 1))) ⟨rfl, rfl, rfl, rfl, trivial⟩
set_option maxRecDepth 20000 in
theorem c_X12_beginsCount (l : Launch) (g : GC) (a0 : Int) : ConV l g yX12_beginsCount cX12_beginsCount 3 (rmd 7 0 0) [sR 287, sI a0] (fun mm => fX12_beginsCount a0 mm) := by
  refine zs_ofV (by decide +kernel) (Nat.le_of_ble_eq_true rfl) ?_
  intro p e s m args below meth c C hr
  replace C : Bd g RX12 cX12_beginsCount 3 p s m args meth c := C
  unfold fX12_beginsCount
  refine zs_aload_n (pc := 0) (k := 0) (i := 0) C (by decide +kernel) rfl rfl ?_
  refine zs_iload_n (pc := 1) (k := 1) (i := 1) C (by decide +kernel) rfl rfl ?_
  refine zs_cvVv (pc := 2) (As := [sI a0]) (st := []) C (fun _ _ _ => rfl) (c_X12_laysOwn l g a0) ml_RX12_461 rfl rfl rfl rfl (Nat.le_of_ble_eq_true rfl) ⟨Nat.le_of_ble_eq_true rfl, Nat.le_of_ble_eq_true rfl⟩ ⟨Nat.le_of_ble_eq_true rfl, Nat.le_of_ble_eq_true rfl⟩ (by decide +kernel) ?_
  refine zs_iconst (pc := 5) (n := 0) (x := 0) C (by decide +kernel) (by decide +kernel) ?_
  refine zs_istore_n (pc := 6) (k := 2) (i := 2) (ls' := [(2, sI 0), (0, sR 287), (1, sI a0)]) C (by decide +kernel) rfl (Nat.le_of_ble_eq_true rfl) rfl ?_
  refine zs_sub (ls' := [(0, sR 287), (1, sI a0), (2, sI 0)]) ⟨rfl, rfl, rfl, trivial⟩ ?_
  refine zs_lp (pc := 7) (fun (t1 : Int) => [(0, sR 287), (1, sI a0), (2, sI t1)]) (fun _ => []) (fun K2 hK2 t1 => ?_) BIG 0
  refine zs_iload_n (pc := 7) (k := 2) (i := 2) C (by decide +kernel) rfl rfl ?_
  refine zs_sipush (pc := 8) (n := 625) (x := 625) C (by decide +kernel) (by decide +kernel) ?_
  refine zs_icmp_ge (pc := 11) (off := 29) (tgt := 40) C (by decide +kernel) (by decide) ?_ ?_
  · exact zs_retVv (pc := 40) C hr ⟨Nat.le_of_ble_eq_true rfl, Nat.le_of_ble_eq_true rfl⟩ (by decide +kernel)
  · refine zs_aload_n (pc := 14) (k := 0) (i := 0) C (by decide +kernel) rfl rfl ?_
    refine zs_getR (o' := 303) (pc := 15) (i := 60) (ci := 12) (k := 31) C (by decide +kernel) fl_RX12_60 rfl rfl rfl ?_
    refine zs_iload_n (pc := 18) (k := 2) (i := 2) C (by decide +kernel) rfl rfl ?_
    refine zs_iload_n (pc := 19) (k := 2) (i := 2) C (by decide +kernel) rfl rfl ?_
    refine zs_aload_n (pc := 20) (k := 0) (i := 0) C (by decide +kernel) rfl rfl ?_
    refine zs_iload_n (pc := 21) (k := 1) (i := 1) C (by decide +kernel) rfl rfl ?_
    refine zs_cvRi (pc := 22) (As := [sI a0]) (st := [sI t1, sI t1, sR 303]) C rfl (c_X12_bothNow l g a0) ml_RX12_452 rfl rfl rfl rfl (Nat.le_of_ble_eq_true rfl) ⟨Nat.le_of_ble_eq_true rfl, Nat.le_of_ble_eq_true rfl⟩ ⟨Nat.le_of_ble_eq_true rfl, Nat.le_of_ble_eq_true rfl⟩ (by decide +kernel) (fun x3 => ?_)
    refine zs_jn (pJ := 33) (kJ := 0) (sJ := 0) (fun t4 => [(0, sR 287), (1, sI a0), (2, sI t1)]) (fun t4 => [sL t4, sI t1, sR 303]) (fun t4 => ?_) (fun J5 hJ5 => ?_)
    · refine zs_last (pc := 33) (o := 303) (n := 625) C (fun _ _ _ => rfl) (by decide +kernel) rfl ?_
      refine zs_iinc (pc := 34) (i := 2) (n := 1) (y := w32 (t1 + 1)) (ls' := [(2, sI (w32 (t1 + 1))), (0, sR 287), (1, sI a0)]) C (by decide +kernel) rfl rfl (Nat.le_of_ble_eq_true rfl) rfl ?_
      refine zs_goto (pc := 37) (off := (-30)) (tgt := 7) C (by decide +kernel) (by decide) ?_
      exact zs_goj (hK2 (w32 (t1 + 1))) ⟨rfl, rfl, rfl, trivial⟩
    · refine zs_icmp_ne (pc := 25) (off := 7) (tgt := 32) C (by decide +kernel) (by decide) ?_ ?_
      · refine zs_lconst (pc := 32) (n := 0) (x := 0) C (by decide +kernel) (by decide +kernel) ?_
        exact zs_goj (hJ5 0) ⟨rfl, rfl, rfl, trivial⟩
      · refine zs_lconst (pc := 28) (n := 1) (x := 1) C (by decide +kernel) (by decide +kernel) ?_
        refine zs_goto (pc := 29) (off := 4) (tgt := 33) C (by decide +kernel) (by decide) ?_
        exact zs_goj (hJ5 1) ⟨rfl, rfl, rfl, trivial⟩
set_option maxRecDepth 20000 in
theorem c_X12_ways (l : Launch) (g : GC) (a0 : Int) (a1 : Int) (a2 : Int) (a3 : Int) : ConW l g yX12_ways cX12_ways 6 (some .long) (rmd 8 0 0) [sR 287, sI a0, sI a1, sI a2, sI a3] (fun mm => fX12_ways a0 a1 a2 a3 mm) := by
  refine zs_ofW (by decide +kernel) (Nat.le_of_ble_eq_true rfl) ?_
  intro p e s m args below meth c C hr
  replace C : Bd g RX12 cX12_ways 6 p s m args meth c := C
  unfold fX12_ways
  refine zs_aload_n (pc := 0) (k := 0) (i := 0) C (by decide +kernel) rfl rfl ?_
  refine zs_iload_n (pc := 1) (k := 1) (i := 1) C (by decide +kernel) rfl rfl ?_
  refine zs_iload_n (pc := 2) (k := 2) (i := 2) C (by decide +kernel) rfl rfl ?_
  refine zs_iload_n (pc := 3) (k := 3) (i := 3) C (by decide +kernel) rfl rfl ?_
  refine zs_cvWi (pc := 4) (As := [sI a0, sI a1, sI a2]) (st := []) C (fun _ _ _ => rfl) rfl (c_X12_isWayOut l g a0 a1 a2) ml_RX12_481 rfl rfl rfl rfl (Nat.le_of_ble_eq_true rfl) ⟨Nat.le_of_ble_eq_true rfl, Nat.le_of_ble_eq_true rfl⟩ ⟨Nat.le_of_ble_eq_true rfl, Nat.le_of_ble_eq_true rfl⟩ (by decide +kernel) (fun x1 => ?_)
  refine zs_jn (pJ := 28) (kJ := 0) (sJ := 0) (fun t2 => [(0, sR 287), (1, sI a0), (2, sI a1), (3, sI a2), (4, sI a3)]) (fun t2 => []) (fun t2 => ?_) (fun J3 hJ3 => ?_)
  · refine zs_aload_n (pc := 28) (k := 0) (i := 0) C (by decide +kernel) rfl rfl ?_
    refine zs_getI (pc := 29) (i := 88) (ci := 12) (k := 4) C (by decide +kernel) fl_RX12_88 rfl rfl (fun x4 => ?_)
    refine zs_if_le (pc := 32) (off := 5) (tgt := 37) C (by decide +kernel) (by decide) ?_ ?_
    · refine zs_aload_n (pc := 37) (k := 0) (i := 0) C (by decide +kernel) rfl rfl ?_
      refine zs_iload_n (pc := 38) (k := 1) (i := 1) C (by decide +kernel) rfl rfl ?_
      refine zs_cvVv (pc := 39) (As := [sI a0]) (st := []) C (fun _ _ _ => rfl) (c_X12_beginsCount l g a0) ml_RX12_496 rfl rfl rfl rfl (Nat.le_of_ble_eq_true rfl) ⟨Nat.le_of_ble_eq_true rfl, Nat.le_of_ble_eq_true rfl⟩ ⟨Nat.le_of_ble_eq_true rfl, Nat.le_of_ble_eq_true rfl⟩ (by decide +kernel) ?_
      refine zs_iconst (pc := 42) (n := 1) (x := 1) C (by decide +kernel) (by decide +kernel) ?_
      refine zs_istore (pc := 43) (i := 5) (ls' := [(5, sI 1), (0, sR 287), (1, sI a0), (2, sI a1), (3, sI a2), (4, sI a3)]) C (by decide +kernel) (Nat.le_of_ble_eq_true rfl) rfl ?_
      refine zs_sub (ls' := [(0, sR 287), (2, sI a1), (3, sI a2), (4, sI a3), (5, sI 1)]) ⟨rfl, rfl, rfl, rfl, rfl, trivial⟩ ?_
      refine zs_lp (pc := 45) (fun (t5 : Int) => [(0, sR 287), (2, sI a1), (3, sI a2), (4, sI a3), (5, sI t5)]) (fun _ => []) (fun K6 hK6 t5 => ?_) BIG 1
      refine zs_iload (pc := 45) (i := 5) C (by decide +kernel) rfl ?_
      refine zs_iload (pc := 47) (i := 4) C (by decide +kernel) rfl ?_
      refine zs_icmp_gt (pc := 49) (off := 18) (tgt := 67) C (by decide +kernel) (by decide) ?_ ?_
      · refine zs_aload_n (pc := 67) (k := 0) (i := 0) C (by decide +kernel) rfl rfl ?_
        refine zs_getR (o' := 303) (pc := 68) (i := 60) (ci := 12) (k := 31) C (by decide +kernel) fl_RX12_60 rfl rfl rfl ?_
        refine zs_bipush (pc := 71) (n := 25) (x := 25) C (by decide +kernel) (by decide +kernel) ?_
        refine zs_iload_n (pc := 73) (k := 2) (i := 2) C (by decide +kernel) rfl rfl ?_
        refine zs_imul (pc := 74) C (by decide +kernel) ?_
        refine zs_iload_n (pc := 75) (k := 3) (i := 3) C (by decide +kernel) rfl rfl ?_
        refine zs_iadd (pc := 76) C (by decide +kernel) ?_
        refine zs_lald (pc := 77) (o := 303) (n := 625) C (by decide +kernel) rfl (fun hinx7 x7 => ?_)
        exact zs_retWl (pc := 78) C hr ⟨Nat.le_of_ble_eq_true rfl, Nat.le_of_ble_eq_true rfl⟩ (by decide +kernel)
      · refine zs_aload_n (pc := 52) (k := 0) (i := 0) C (by decide +kernel) rfl rfl ?_
        refine zs_iload (pc := 53) (i := 5) C (by decide +kernel) rfl ?_
        refine zs_ldc2 (pc := 55) (i := 395) (v := (-1)) (x := (-1)) C (by decide +kernel) wf_2229 (by decide +kernel) ?_
        refine zs_cvVv (pc := 58) (As := [sI t5, sL ((-1))]) (st := []) C (fun _ _ _ => rfl) (c_X12_countsOn l g t5 (-1)) ml_RX12_499 rfl rfl rfl rfl (Nat.le_of_ble_eq_true rfl) ⟨Nat.le_of_ble_eq_true rfl, Nat.le_of_ble_eq_true rfl⟩ ⟨Nat.le_of_ble_eq_true rfl, Nat.le_of_ble_eq_true rfl⟩ (by decide +kernel) ?_
        refine zs_iinc (pc := 61) (i := 5) (n := 1) (y := w32 (t5 + 1)) (ls' := [(5, sI (w32 (t5 + 1))), (0, sR 287), (2, sI a1), (3, sI a2), (4, sI a3)]) C (by decide +kernel) rfl rfl (Nat.le_of_ble_eq_true rfl) rfl ?_
        refine zs_goto (pc := 64) (off := (-19)) (tgt := 45) C (by decide +kernel) (by decide) ?_
        exact zs_goj (hK6 (w32 (t5 + 1))) ⟨rfl, rfl, rfl, rfl, rfl, trivial⟩
    · refine zs_lconst (pc := 35) (n := 0) (x := 0) C (by decide +kernel) (by decide +kernel) ?_
      exact zs_retWl (pc := 36) C hr ⟨Nat.le_of_ble_eq_true rfl, Nat.le_of_ble_eq_true rfl⟩ (by decide +kernel)
  · refine zs_if_ne (pc := 7) (off := 21) (tgt := 28) C (by decide +kernel) (by decide) ?_ ?_
    · exact zs_goj (hJ3 ()) ⟨rfl, rfl, rfl, rfl, rfl, trivial⟩
    · refine zs_iload (pc := 10) (i := 4) C (by decide +kernel) rfl ?_
      refine zs_i2l (pc := 12) C (by decide +kernel) ?_
      refine zs_lconst (pc := 13) (n := 0) (x := 0) C (by decide +kernel) (by decide +kernel) ?_
      refine zs_ldc2 (pc := 14) (i := 494) (v := 8) (x := 8) C (by decide +kernel) wf_2362 (by decide +kernel) ?_
      refine zs_csRi (pc := 17) (As := [sL a3, sL 0, sL 8]) (st := []) C rfl (c_X12_within l g a3 0 8) ml_RX12_149 rfl rfl (Nat.le_of_ble_eq_true rfl) ⟨Nat.le_of_ble_eq_true rfl, Nat.le_of_ble_eq_true rfl⟩ ⟨Nat.le_of_ble_eq_true rfl, Nat.le_of_ble_eq_true rfl⟩ (by decide +kernel) (fun x8 => ?_)
      refine zs_if_ne (pc := 20) (off := 8) (tgt := 28) C (by decide +kernel) (by decide) ?_ ?_
      · exact zs_goj (hJ3 ()) ⟨rfl, rfl, rfl, rfl, rfl, trivial⟩
      · refine zs_aload_n (pc := 23) (k := 0) (i := 0) C (by decide +kernel) rfl rfl ?_
        refine zs_iconst (pc := 24) (n := 2) (x := 2) C (by decide +kernel) (by decide +kernel) ?_
        refine zs_putI (pc := 25) (i := 88) (ci := 12) (k := 4) C (fun _ _ _ => rfl) (by decide +kernel) fl_RX12_88 fw_12_4 rfl rfl ?_
        exact zs_goj (hJ3 ()) ⟨rfl, rfl, rfl, rfl, rfl, trivial⟩
set_option maxRecDepth 20000 in
theorem c_X12_isAloneOut (l : Launch) (g : GC) (a0 : Int) (a1 : Int) (a2 : Int) : ConW l g yX12_isAloneOut cX12_isAloneOut 4 (some .boolean) (rmd 3 0 0) [sR 287, sI a0, sI a1, sI a2] (fun mm => fX12_isAloneOut a0 a1 a2 mm) := by
  refine zs_ofW (by decide +kernel) (Nat.le_of_ble_eq_true rfl) ?_
  intro p e s m args below meth c C hr
  replace C : Bd g RX12 cX12_isAloneOut 4 p s m args meth c := C
  unfold fX12_isAloneOut
  refine zs_aload_n (pc := 0) (k := 0) (i := 0) C (by decide +kernel) rfl rfl ?_
  refine zs_aload_n (pc := 1) (k := 0) (i := 0) C (by decide +kernel) rfl rfl ?_
  refine zs_iload_n (pc := 2) (k := 1) (i := 1) C (by decide +kernel) rfl rfl ?_
  refine zs_i2l (pc := 3) C (by decide +kernel) ?_
  refine zs_cvRi (pc := 4) (As := [sL a0]) (st := [sR 287]) C rfl (c_X12_isPair l g a0) ml_RX12_338 rfl rfl rfl rfl (Nat.le_of_ble_eq_true rfl) ⟨Nat.le_of_ble_eq_true rfl, Nat.le_of_ble_eq_true rfl⟩ ⟨Nat.le_of_ble_eq_true rfl, Nat.le_of_ble_eq_true rfl⟩ (by decide +kernel) (fun x1 => ?_)
  refine zs_jn (pJ := 35) (kJ := 0) (sJ := 0) (fun t2 => [(0, sR 287)]) (fun t2 => [sI t2, sR 287]) (fun t2 => ?_) (fun J3 hJ3 => ?_)
  · refine zs_putI (pc := 35) (i := 88) (ci := 12) (k := 4) C (fun _ _ _ => rfl) (by decide +kernel) fl_RX12_88 fw_12_4 rfl rfl ?_
    refine zs_aload_n (pc := 38) (k := 0) (i := 0) C (by decide +kernel) rfl rfl ?_
    refine zs_getI (pc := 39) (i := 88) (ci := 12) (k := 4) C (by decide +kernel) fl_RX12_88 rfl rfl (fun x4 => ?_)
    refine zs_jn (pJ := 50) (kJ := 0) (sJ := 0) (fun t5 => []) (fun t5 => [sI t5]) (fun t5 => ?_) (fun J6 hJ6 => ?_)
    · refine zs_chk (fun _ hx => ?_)
      exact zs_retWz (pc := 50) C hx hr ⟨Nat.le_of_ble_eq_true rfl, Nat.le_of_ble_eq_true rfl⟩ (by decide +kernel)
    · refine zs_if_le (pc := 42) (off := 7) (tgt := 49) C (by decide +kernel) (by decide) ?_ ?_
      · refine zs_iconst (pc := 49) (n := 0) (x := 0) C (by decide +kernel) (by decide +kernel) ?_
        exact zs_goj (hJ6 0) trivial
      · refine zs_iconst (pc := 45) (n := 1) (x := 1) C (by decide +kernel) (by decide +kernel) ?_
        refine zs_goto (pc := 46) (off := 4) (tgt := 50) C (by decide +kernel) (by decide) ?_
        exact zs_goj (hJ6 1) trivial
  · refine zs_jn (pJ := 19) (kJ := 0) (sJ := 0) (fun t7 => [(0, sR 287)]) (fun t7 => [sR 287]) (fun t7 => ?_) (fun J8 hJ8 => ?_)
    · refine zs_iconst (pc := 19) (n := 1) (x := 1) C (by decide +kernel) (by decide +kernel) ?_
      refine zs_goto (pc := 20) (off := 15) (tgt := 35) C (by decide +kernel) (by decide) ?_
      exact zs_goj (hJ3 1) ⟨rfl, trivial⟩
    · refine zs_if_eq (pc := 7) (off := 12) (tgt := 19) C (by decide +kernel) (by decide) ?_ ?_
      · exact zs_goj (hJ8 ()) ⟨rfl, trivial⟩
      · refine zs_aload_n (pc := 10) (k := 0) (i := 0) C (by decide +kernel) rfl rfl ?_
        refine zs_iload_n (pc := 11) (k := 3) (i := 3) C (by decide +kernel) rfl rfl ?_
        refine zs_i2l (pc := 12) C (by decide +kernel) ?_
        refine zs_cvRi (pc := 13) (As := [sL a2]) (st := [sR 287]) C rfl (c_X12_isPlace l g a2) ml_RX12_334 rfl rfl rfl rfl (Nat.le_of_ble_eq_true rfl) ⟨Nat.le_of_ble_eq_true rfl, Nat.le_of_ble_eq_true rfl⟩ ⟨Nat.le_of_ble_eq_true rfl, Nat.le_of_ble_eq_true rfl⟩ (by decide +kernel) (fun x9 => ?_)
        refine zs_if_ne (pc := 16) (off := 7) (tgt := 23) C (by decide +kernel) (by decide) ?_ ?_
        · refine zs_iload_n (pc := 23) (k := 2) (i := 2) C (by decide +kernel) rfl rfl ?_
          refine zs_csRi (pc := 24) (As := [sI a1]) (st := [sR 287]) C rfl (c_X12_isWho l g a1) ml_RX12_354 rfl rfl (Nat.le_of_ble_eq_true rfl) ⟨Nat.le_of_ble_eq_true rfl, Nat.le_of_ble_eq_true rfl⟩ ⟨Nat.le_of_ble_eq_true rfl, Nat.le_of_ble_eq_true rfl⟩ (by decide +kernel) (fun x10 => ?_)
          refine zs_if_eq (pc := 27) (off := 7) (tgt := 34) C (by decide +kernel) (by decide) ?_ ?_
          · refine zs_iconst (pc := 34) (n := 2) (x := 2) C (by decide +kernel) (by decide +kernel) ?_
            exact zs_goj (hJ3 2) ⟨rfl, trivial⟩
          · refine zs_iconst (pc := 30) (n := 0) (x := 0) C (by decide +kernel) (by decide +kernel) ?_
            refine zs_goto (pc := 31) (off := 4) (tgt := 35) C (by decide +kernel) (by decide) ?_
            exact zs_goj (hJ3 0) ⟨rfl, trivial⟩
        · exact zs_goj (hJ8 ()) ⟨rfl, trivial⟩
set_option maxRecDepth 20000 in
theorem c_X12_aloneOf (l : Launch) (g : GC) (a0 : Int) (a1 : Int) (a2 : Int) : ConW l g yX12_aloneOf cX12_aloneOf 6 (some .int) (rmd 5 0 0) [sR 287, sI a0, sI a1, sI a2] (fun mm => fX12_aloneOf a0 a1 a2 mm) := by
  refine zs_ofW (by decide +kernel) (Nat.le_of_ble_eq_true rfl) ?_
  intro p e s m args below meth c C hr
  replace C : Bd g RX12 cX12_aloneOf 6 p s m args meth c := C
  unfold fX12_aloneOf
  refine zs_aload_n (pc := 0) (k := 0) (i := 0) C (by decide +kernel) rfl rfl ?_
  refine zs_iload_n (pc := 1) (k := 1) (i := 1) C (by decide +kernel) rfl rfl ?_
  refine zs_bipush (pc := 2) (n := 40) (x := 40) C (by decide +kernel) (by decide +kernel) ?_
  refine zs_cvVv (pc := 4) (As := [sI a0, sI 40]) (st := []) C (fun _ _ _ => rfl) (c_X12_laysCan l g a0 40) ml_RX12_464 rfl rfl rfl rfl (Nat.le_of_ble_eq_true rfl) ⟨Nat.le_of_ble_eq_true rfl, Nat.le_of_ble_eq_true rfl⟩ ⟨Nat.le_of_ble_eq_true rfl, Nat.le_of_ble_eq_true rfl⟩ (by decide +kernel) ?_
  refine zs_iconst (pc := 7) (n := 0) (x := 0) C (by decide +kernel) (by decide +kernel) ?_
  refine zs_istore (pc := 8) (i := 4) (ls' := [(4, sI 0), (0, sR 287), (1, sI a0), (2, sI a1), (3, sI a2)]) C (by decide +kernel) (Nat.le_of_ble_eq_true rfl) rfl ?_
  refine zs_sub (ls' := [(0, sR 287), (2, sI a1), (3, sI a2), (4, sI 0)]) ⟨rfl, rfl, rfl, rfl, trivial⟩ ?_
  refine zs_lp (pc := 10) (fun (t1 : Int) => [(0, sR 287), (2, sI a1), (3, sI a2), (4, sI t1)]) (fun _ => []) (fun K2 hK2 t1 => ?_) BIG 0
  refine zs_iload (pc := 10) (i := 4) C (by decide +kernel) rfl ?_
  refine zs_bipush (pc := 12) (n := 40) (x := 40) C (by decide +kernel) (by decide +kernel) ?_
  refine zs_icmp_gt (pc := 14) (off := 67) (tgt := 81) C (by decide +kernel) (by decide) ?_ ?_
  · refine zs_iconst (pc := 81) (n := (-1)) (x := (-1)) C (by decide +kernel) (by decide +kernel) ?_
    exact zs_retWi (pc := 82) C hr ⟨Nat.le_of_ble_eq_true rfl, Nat.le_of_ble_eq_true rfl⟩ (by decide +kernel)
  · refine zs_iconst (pc := 17) (n := 0) (x := 0) C (by decide +kernel) (by decide +kernel) ?_
    refine zs_istore (pc := 18) (i := 5) (ls' := [(5, sI 0), (0, sR 287), (2, sI a1), (3, sI a2), (4, sI t1)]) C (by decide +kernel) (Nat.le_of_ble_eq_true rfl) rfl ?_
    refine zs_sub (ls' := [(0, sR 287), (2, sI a1), (3, sI a2), (4, sI t1), (5, sI 0)]) ⟨rfl, rfl, rfl, rfl, rfl, trivial⟩ ?_
    refine zs_lp (pc := 20) (fun (t3 : Int) => [(0, sR 287), (2, sI a1), (3, sI a2), (4, sI t1), (5, sI t3)]) (fun _ => []) (fun K4 hK4 t3 => ?_) BIG 0
    refine zs_iload (pc := 20) (i := 5) C (by decide +kernel) rfl ?_
    refine zs_sipush (pc := 22) (n := 625) (x := 625) C (by decide +kernel) (by decide +kernel) ?_
    refine zs_icmp_ge (pc := 25) (off := 50) (tgt := 75) C (by decide +kernel) (by decide) ?_ ?_
    · refine zs_iinc (pc := 75) (i := 4) (n := 1) (y := w32 (t1 + 1)) (ls' := [(4, sI (w32 (t1 + 1))), (0, sR 287), (2, sI a1), (3, sI a2), (5, sI t3)]) C (by decide +kernel) rfl rfl (Nat.le_of_ble_eq_true rfl) rfl ?_
      refine zs_goto (pc := 78) (off := (-68)) (tgt := 10) C (by decide +kernel) (by decide) ?_
      exact zs_goj (hK2 (w32 (t1 + 1))) ⟨rfl, rfl, rfl, rfl, trivial⟩
    · refine zs_aload_n (pc := 28) (k := 0) (i := 0) C (by decide +kernel) rfl rfl ?_
      refine zs_getR (o' := 298) (pc := 29) (i := 45) (ci := 12) (k := 25) C (by decide +kernel) fl_RX12_45 rfl rfl rfl ?_
      refine zs_sipush (pc := 32) (n := 625) (x := 625) C (by decide +kernel) (by decide +kernel) ?_
      refine zs_iload (pc := 35) (i := 4) C (by decide +kernel) rfl ?_
      refine zs_imul (pc := 37) C (by decide +kernel) ?_
      refine zs_iload (pc := 38) (i := 5) C (by decide +kernel) rfl ?_
      refine zs_iadd (pc := 40) C (by decide +kernel) ?_
      refine zs_zald (pc := 41) (o := 298) (n := 25625) C (by decide +kernel) rfl (fun hinx5 x5 => ?_)
      refine zs_jn (pJ := 69) (kJ := 0) (sJ := 0) (fun t6 => [(0, sR 287), (2, sI a1), (3, sI a2), (4, sI t1), (5, sI t3)]) (fun t6 => []) (fun t6 => ?_) (fun J7 hJ7 => ?_)
      · refine zs_iinc (pc := 69) (i := 5) (n := 1) (y := w32 (t3 + 1)) (ls' := [(5, sI (w32 (t3 + 1))), (0, sR 287), (2, sI a1), (3, sI a2), (4, sI t1)]) C (by decide +kernel) rfl rfl (Nat.le_of_ble_eq_true rfl) rfl ?_
        refine zs_goto (pc := 72) (off := (-52)) (tgt := 20) C (by decide +kernel) (by decide) ?_
        exact zs_goj (hK4 (w32 (t3 + 1))) ⟨rfl, rfl, rfl, rfl, rfl, trivial⟩
      · refine zs_if_eq (pc := 42) (off := 27) (tgt := 69) C (by decide +kernel) (by decide) ?_ ?_
        · exact zs_goj (hJ7 ()) ⟨rfl, rfl, rfl, rfl, rfl, trivial⟩
        · refine zs_iload_n (pc := 45) (k := 2) (i := 2) C (by decide +kernel) rfl rfl ?_
          refine zs_jn (pJ := 62) (kJ := 0) (sJ := 0) (fun t8 => [(0, sR 287), (2, sI a1), (3, sI a2), (4, sI t1), (5, sI t3)]) (fun t8 => [sI t8]) (fun t8 => ?_) (fun J9 hJ9 => ?_)
          · refine zs_iload_n (pc := 62) (k := 3) (i := 3) C (by decide +kernel) rfl rfl ?_
            refine zs_icmp_ne (pc := 63) (off := 6) (tgt := 69) C (by decide +kernel) (by decide) ?_ ?_
            · exact zs_goj (hJ7 ()) ⟨rfl, rfl, rfl, rfl, rfl, trivial⟩
            · refine zs_iload (pc := 66) (i := 4) C (by decide +kernel) rfl ?_
              exact zs_retWi (pc := 68) C hr ⟨Nat.le_of_ble_eq_true rfl, Nat.le_of_ble_eq_true rfl⟩ (by decide +kernel)
          · refine zs_if_ne (pc := 46) (off := 11) (tgt := 57) C (by decide +kernel) (by decide) ?_ ?_
            · refine zs_iload (pc := 57) (i := 5) C (by decide +kernel) rfl ?_
              refine zs_bipush (pc := 59) (n := 25) (x := 25) C (by decide +kernel) (by decide +kernel) ?_
              refine zs_irem (pc := 61) C (by decide +kernel) (by decide +kernel) ?_
              exact zs_goj (hJ9 (Int.tmod t3 25)) ⟨rfl, rfl, rfl, rfl, rfl, trivial⟩
            · refine zs_iload (pc := 49) (i := 5) C (by decide +kernel) rfl ?_
              refine zs_bipush (pc := 51) (n := 25) (x := 25) C (by decide +kernel) (by decide +kernel) ?_
              refine zs_idiv (pc := 53) C (by decide +kernel) (by decide +kernel) ?_
              refine zs_goto (pc := 54) (off := 8) (tgt := 62) C (by decide +kernel) (by decide) ?_
              exact zs_goj (hJ9 (Int.tdiv t3 25)) ⟨rfl, rfl, rfl, rfl, rfl, trivial⟩
set_option maxRecDepth 20000 in
theorem c_X12_alone (l : Launch) (g : GC) (a0 : Int) (a1 : Int) (a2 : Int) : ConW l g yX12_alone cX12_alone 4 (some .int) (rmd 7 0 0) [sR 287, sI a0, sI a1, sI a2] (fun mm => fX12_alone a0 a1 a2 mm) := by
  refine zs_ofW (by decide +kernel) (Nat.le_of_ble_eq_true rfl) ?_
  intro p e s m args below meth c C hr
  replace C : Bd g RX12 cX12_alone 4 p s m args meth c := C
  unfold fX12_alone
  refine zs_aload_n (pc := 0) (k := 0) (i := 0) C (by decide +kernel) rfl rfl ?_
  refine zs_iload_n (pc := 1) (k := 1) (i := 1) C (by decide +kernel) rfl rfl ?_
  refine zs_iload_n (pc := 2) (k := 2) (i := 2) C (by decide +kernel) rfl rfl ?_
  refine zs_iload_n (pc := 3) (k := 3) (i := 3) C (by decide +kernel) rfl rfl ?_
  refine zs_cvWi (pc := 4) (As := [sI a0, sI a1, sI a2]) (st := []) C (fun _ _ _ => rfl) rfl (c_X12_isAloneOut l g a0 a1 a2) ml_RX12_503 rfl rfl rfl rfl (Nat.le_of_ble_eq_true rfl) ⟨Nat.le_of_ble_eq_true rfl, Nat.le_of_ble_eq_true rfl⟩ ⟨Nat.le_of_ble_eq_true rfl, Nat.le_of_ble_eq_true rfl⟩ (by decide +kernel) (fun x1 => ?_)
  refine zs_if_eq (pc := 7) (off := 5) (tgt := 12) C (by decide +kernel) (by decide) ?_ ?_
  · refine zs_aload_n (pc := 12) (k := 0) (i := 0) C (by decide +kernel) rfl rfl ?_
    refine zs_iload_n (pc := 13) (k := 1) (i := 1) C (by decide +kernel) rfl rfl ?_
    refine zs_cvVv (pc := 14) (As := [sI a0]) (st := []) C (fun _ _ _ => rfl) (c_X12_laysOwn l g a0) ml_RX12_461 rfl rfl rfl rfl (Nat.le_of_ble_eq_true rfl) ⟨Nat.le_of_ble_eq_true rfl, Nat.le_of_ble_eq_true rfl⟩ ⟨Nat.le_of_ble_eq_true rfl, Nat.le_of_ble_eq_true rfl⟩ (by decide +kernel) ?_
    refine zs_aload_n (pc := 17) (k := 0) (i := 0) C (by decide +kernel) rfl rfl ?_
    refine zs_iload_n (pc := 18) (k := 1) (i := 1) C (by decide +kernel) rfl rfl ?_
    refine zs_iload_n (pc := 19) (k := 2) (i := 2) C (by decide +kernel) rfl rfl ?_
    refine zs_iload_n (pc := 20) (k := 3) (i := 3) C (by decide +kernel) rfl rfl ?_
    refine zs_cvWi (pc := 21) (As := [sI a0, sI a1, sI a2]) (st := []) C (fun _ _ _ => rfl) rfl (c_X12_aloneOf l g a0 a1 a2) ml_RX12_506 rfl rfl rfl rfl (Nat.le_of_ble_eq_true rfl) ⟨Nat.le_of_ble_eq_true rfl, Nat.le_of_ble_eq_true rfl⟩ ⟨Nat.le_of_ble_eq_true rfl, Nat.le_of_ble_eq_true rfl⟩ (by decide +kernel) (fun x2 => ?_)
    exact zs_retWi (pc := 24) C hr ⟨Nat.le_of_ble_eq_true rfl, Nat.le_of_ble_eq_true rfl⟩ (by decide +kernel)
  · refine zs_iconst (pc := 10) (n := 0) (x := 0) C (by decide +kernel) (by decide +kernel) ?_
    exact zs_retWi (pc := 11) C hr ⟨Nat.le_of_ble_eq_true rfl, Nat.le_of_ble_eq_true rfl⟩ (by decide +kernel)
set_option maxRecDepth 20000 in
theorem c_X12_costs (l : Launch) (g : GC) (a0 : Int) (a1 : Int) (a2 : Int) : ConW l g yX12_costs cX12_costs 6 (some .int) (rmd 7 0 0) [sR 287, sI a0, sI a1, sI a2] (fun mm => fX12_costs a0 a1 a2 mm) := by
  refine zs_ofW (by decide +kernel) (Nat.le_of_ble_eq_true rfl) ?_
  intro p e s m args below meth c C hr
  replace C : Bd g RX12 cX12_costs 6 p s m args meth c := C
  unfold fX12_costs
  refine zs_aload_n (pc := 0) (k := 0) (i := 0) C (by decide +kernel) rfl rfl ?_
  refine zs_iload_n (pc := 1) (k := 1) (i := 1) C (by decide +kernel) rfl rfl ?_
  refine zs_iload_n (pc := 2) (k := 2) (i := 2) C (by decide +kernel) rfl rfl ?_
  refine zs_iload_n (pc := 3) (k := 3) (i := 3) C (by decide +kernel) rfl rfl ?_
  refine zs_cvWi (pc := 4) (As := [sI a0, sI a1, sI a2]) (st := []) C (fun _ _ _ => rfl) rfl (c_X12_isAloneOut l g a0 a1 a2) ml_RX12_503 rfl rfl rfl rfl (Nat.le_of_ble_eq_true rfl) ⟨Nat.le_of_ble_eq_true rfl, Nat.le_of_ble_eq_true rfl⟩ ⟨Nat.le_of_ble_eq_true rfl, Nat.le_of_ble_eq_true rfl⟩ (by decide +kernel) (fun x1 => ?_)
  refine zs_if_eq (pc := 7) (off := 5) (tgt := 12) C (by decide +kernel) (by decide) ?_ ?_
  · refine zs_aload_n (pc := 12) (k := 0) (i := 0) C (by decide +kernel) rfl rfl ?_
    refine zs_iload_n (pc := 13) (k := 1) (i := 1) C (by decide +kernel) rfl rfl ?_
    refine zs_cvVv (pc := 14) (As := [sI a0]) (st := []) C (fun _ _ _ => rfl) (c_X12_laysOwn l g a0) ml_RX12_461 rfl rfl rfl rfl (Nat.le_of_ble_eq_true rfl) ⟨Nat.le_of_ble_eq_true rfl, Nat.le_of_ble_eq_true rfl⟩ ⟨Nat.le_of_ble_eq_true rfl, Nat.le_of_ble_eq_true rfl⟩ (by decide +kernel) ?_
    refine zs_aload_n (pc := 17) (k := 0) (i := 0) C (by decide +kernel) rfl rfl ?_
    refine zs_iload_n (pc := 18) (k := 1) (i := 1) C (by decide +kernel) rfl rfl ?_
    refine zs_iload_n (pc := 19) (k := 2) (i := 2) C (by decide +kernel) rfl rfl ?_
    refine zs_iload_n (pc := 20) (k := 3) (i := 3) C (by decide +kernel) rfl rfl ?_
    refine zs_cvWi (pc := 21) (As := [sI a0, sI a1, sI a2]) (st := []) C (fun _ _ _ => rfl) rfl (c_X12_aloneOf l g a0 a1 a2) ml_RX12_506 rfl rfl rfl rfl (Nat.le_of_ble_eq_true rfl) ⟨Nat.le_of_ble_eq_true rfl, Nat.le_of_ble_eq_true rfl⟩ ⟨Nat.le_of_ble_eq_true rfl, Nat.le_of_ble_eq_true rfl⟩ (by decide +kernel) (fun x2 => ?_)
    refine zs_istore (pc := 24) (i := 4) (ls' := [(4, sI x2), (0, sR 287), (1, sI a0), (2, sI a1), (3, sI a2)]) C (by decide +kernel) (Nat.le_of_ble_eq_true rfl) rfl ?_
    refine zs_aload_n (pc := 26) (k := 0) (i := 0) C (by decide +kernel) rfl rfl ?_
    refine zs_iload_n (pc := 27) (k := 1) (i := 1) C (by decide +kernel) rfl rfl ?_
    refine zs_aload_n (pc := 28) (k := 0) (i := 0) C (by decide +kernel) rfl rfl ?_
    refine zs_getR (o' := 288) (pc := 29) (i := 9) (ci := 12) (k := 0) C (by decide +kernel) fl_RX12_9 rfl rfl rfl ?_
    refine zs_bipush (pc := 32) (n := 25) (x := 25) C (by decide +kernel) (by decide +kernel) ?_
    refine zs_iload_n (pc := 34) (k := 1) (i := 1) C (by decide +kernel) rfl rfl ?_
    refine zs_iadd (pc := 35) C (by decide +kernel) ?_
    refine zs_iald (pc := 36) (o := 288) (n := 2005) C (by decide +kernel) rfl (fun hinx3 x3 => ?_)
    refine zs_aload_n (pc := 37) (k := 0) (i := 0) C (by decide +kernel) rfl rfl ?_
    refine zs_getR (o' := 288) (pc := 38) (i := 9) (ci := 12) (k := 0) C (by decide +kernel) fl_RX12_9 rfl rfl rfl ?_
    refine zs_bipush (pc := 41) (n := 8) (x := 8) C (by decide +kernel) (by decide +kernel) ?_
    refine zs_ialdk (pc := 43) (o := 288) (n := 2005) C (by decide) (by decide +kernel) rfl (fun x4 => ?_)
    refine zs_iconst (pc := 44) (n := 0) (x := 0) C (by decide +kernel) (by decide +kernel) ?_
    refine zs_cvVv (pc := 45) (As := [sI a0, sI x3, sI x4, sI 0]) (st := []) C (fun _ _ _ => rfl) (c_X12_laysHours l g a0 x3 x4 0) ml_RX12_445 rfl rfl rfl rfl (Nat.le_of_ble_eq_true rfl) ⟨Nat.le_of_ble_eq_true rfl, Nat.le_of_ble_eq_true rfl⟩ ⟨Nat.le_of_ble_eq_true rfl, Nat.le_of_ble_eq_true rfl⟩ (by decide +kernel) ?_
    refine zs_aload_n (pc := 48) (k := 0) (i := 0) C (by decide +kernel) rfl rfl ?_
    refine zs_iload_n (pc := 49) (k := 1) (i := 1) C (by decide +kernel) rfl rfl ?_
    refine zs_iload_n (pc := 50) (k := 2) (i := 2) C (by decide +kernel) rfl rfl ?_
    refine zs_iload_n (pc := 51) (k := 3) (i := 3) C (by decide +kernel) rfl rfl ?_
    refine zs_cvWi (pc := 52) (As := [sI a0, sI a1, sI a2]) (st := []) C (fun _ _ _ => rfl) rfl (c_X12_aloneOf l g a0 a1 a2) ml_RX12_506 rfl rfl rfl rfl (Nat.le_of_ble_eq_true rfl) ⟨Nat.le_of_ble_eq_true rfl, Nat.le_of_ble_eq_true rfl⟩ ⟨Nat.le_of_ble_eq_true rfl, Nat.le_of_ble_eq_true rfl⟩ (by decide +kernel) (fun x5 => ?_)
    refine zs_istore (pc := 55) (i := 5) (ls' := [(5, sI x5), (4, sI x2), (0, sR 287), (1, sI a0), (2, sI a1), (3, sI a2)]) C (by decide +kernel) (Nat.le_of_ble_eq_true rfl) rfl ?_
    refine zs_iload (pc := 57) (i := 4) C (by decide +kernel) rfl ?_
    refine zs_iconst (pc := 59) (n := (-1)) (x := (-1)) C (by decide +kernel) (by decide +kernel) ?_
    refine zs_jn (pJ := 78) (kJ := 0) (sJ := 0) (fun t6 => []) (fun t6 => [sI t6]) (fun t6 => ?_) (fun J7 hJ7 => ?_)
    · exact zs_retWi (pc := 78) C hr ⟨Nat.le_of_ble_eq_true rfl, Nat.le_of_ble_eq_true rfl⟩ (by decide +kernel)
    · refine zs_jn (pJ := 69) (kJ := 0) (sJ := 0) (fun t8 => []) (fun t8 => []) (fun t8 => ?_) (fun J9 hJ9 => ?_)
      · refine zs_iconst (pc := 69) (n := (-1)) (x := (-1)) C (by decide +kernel) (by decide +kernel) ?_
        refine zs_goto (pc := 70) (off := 8) (tgt := 78) C (by decide +kernel) (by decide) ?_
        exact zs_goj (hJ7 (-1)) trivial
      · refine zs_icmp_eq (pc := 60) (off := 9) (tgt := 69) C (by decide +kernel) (by decide) ?_ ?_
        · exact zs_goj (hJ9 ()) trivial
        · refine zs_iload (pc := 63) (i := 5) C (by decide +kernel) rfl ?_
          refine zs_iconst (pc := 65) (n := (-1)) (x := (-1)) C (by decide +kernel) (by decide +kernel) ?_
          refine zs_icmp_ne (pc := 66) (off := 7) (tgt := 73) C (by decide +kernel) (by decide) ?_ ?_
          · refine zs_iload (pc := 73) (i := 4) C (by decide +kernel) rfl ?_
            refine zs_iload (pc := 75) (i := 5) C (by decide +kernel) rfl ?_
            refine zs_isub (pc := 77) C (by decide +kernel) ?_
            exact zs_goj (hJ7 (w32 (x2 - x5))) trivial
          · exact zs_goj (hJ9 ()) trivial
  · refine zs_iconst (pc := 10) (n := 0) (x := 0) C (by decide +kernel) (by decide +kernel) ?_
    exact zs_retWi (pc := 11) C hr ⟨Nat.le_of_ble_eq_true rfl, Nat.le_of_ble_eq_true rfl⟩ (by decide +kernel)
set_option maxRecDepth 20000 in
theorem c_X12_leastRope (l : Launch) (g : GC) (a0 : Int) (a1 : Int) (a2 : Int) : ConW l g yX12_leastRope cX12_leastRope 5 (some .int) (rmd 6 0 0) [sR 287, sI a0, sI a1, sI a2] (fun mm => fX12_leastRope a0 a1 a2 mm) := by
  refine zs_ofW (by decide +kernel) (Nat.le_of_ble_eq_true rfl) ?_
  intro p e s m args below meth c C hr
  replace C : Bd g RX12 cX12_leastRope 5 p s m args meth c := C
  unfold fX12_leastRope
  refine zs_aload_n (pc := 0) (k := 0) (i := 0) C (by decide +kernel) rfl rfl ?_
  refine zs_iload_n (pc := 1) (k := 1) (i := 1) C (by decide +kernel) rfl rfl ?_
  refine zs_iload_n (pc := 2) (k := 2) (i := 2) C (by decide +kernel) rfl rfl ?_
  refine zs_iload_n (pc := 3) (k := 3) (i := 3) C (by decide +kernel) rfl rfl ?_
  refine zs_cvWi (pc := 4) (As := [sI a0, sI a1, sI a2]) (st := []) C (fun _ _ _ => rfl) rfl (c_X12_isWayOut l g a0 a1 a2) ml_RX12_481 rfl rfl rfl rfl (Nat.le_of_ble_eq_true rfl) ⟨Nat.le_of_ble_eq_true rfl, Nat.le_of_ble_eq_true rfl⟩ ⟨Nat.le_of_ble_eq_true rfl, Nat.le_of_ble_eq_true rfl⟩ (by decide +kernel) (fun x1 => ?_)
  refine zs_if_eq (pc := 7) (off := 5) (tgt := 12) C (by decide +kernel) (by decide) ?_ ?_
  · refine zs_iconst (pc := 12) (n := 1) (x := 1) C (by decide +kernel) (by decide +kernel) ?_
    refine zs_istore (pc := 13) (i := 4) (ls' := [(4, sI 1), (0, sR 287), (1, sI a0), (2, sI a1), (3, sI a2)]) C (by decide +kernel) (Nat.le_of_ble_eq_true rfl) rfl ?_
    refine zs_sub (ls' := [(0, sR 287), (1, sI a0), (2, sI a1), (3, sI a2), (4, sI 1)]) ⟨rfl, rfl, rfl, rfl, rfl, trivial⟩ ?_
    refine zs_lp (pc := 15) (fun (t2 : Int) => [(0, sR 287), (1, sI a0), (2, sI a1), (3, sI a2), (4, sI t2)]) (fun _ => []) (fun K3 hK3 t2 => ?_) BIG 1
    refine zs_iload (pc := 15) (i := 4) C (by decide +kernel) rfl ?_
    refine zs_bipush (pc := 17) (n := 20) (x := 20) C (by decide +kernel) (by decide +kernel) ?_
    refine zs_icmp_gt (pc := 19) (off := 50) (tgt := 69) C (by decide +kernel) (by decide) ?_ ?_
    · refine zs_iconst (pc := 69) (n := (-1)) (x := (-1)) C (by decide +kernel) (by decide +kernel) ?_
      exact zs_retWi (pc := 70) C hr ⟨Nat.le_of_ble_eq_true rfl, Nat.le_of_ble_eq_true rfl⟩ (by decide +kernel)
    · refine zs_aload_n (pc := 22) (k := 0) (i := 0) C (by decide +kernel) rfl rfl ?_
      refine zs_iload_n (pc := 23) (k := 1) (i := 1) C (by decide +kernel) rfl rfl ?_
      refine zs_iload (pc := 24) (i := 4) C (by decide +kernel) rfl ?_
      refine zs_aload_n (pc := 26) (k := 0) (i := 0) C (by decide +kernel) rfl rfl ?_
      refine zs_getR (o' := 288) (pc := 27) (i := 9) (ci := 12) (k := 0) C (by decide +kernel) fl_RX12_9 rfl rfl rfl ?_
      refine zs_bipush (pc := 30) (n := 8) (x := 8) C (by decide +kernel) (by decide +kernel) ?_
      refine zs_ialdk (pc := 32) (o := 288) (n := 2005) C (by decide) (by decide +kernel) rfl (fun x4 => ?_)
      refine zs_aload_n (pc := 33) (k := 0) (i := 0) C (by decide +kernel) rfl rfl ?_
      refine zs_iload_n (pc := 34) (k := 1) (i := 1) C (by decide +kernel) rfl rfl ?_
      refine zs_cvRi (pc := 35) (As := [sI a0]) (st := [sI x4, sI t2, sI a0, sR 287]) C rfl (c_X12_isParted l g a0) ml_RX12_349 rfl rfl rfl rfl (Nat.le_of_ble_eq_true rfl) ⟨Nat.le_of_ble_eq_true rfl, Nat.le_of_ble_eq_true rfl⟩ ⟨Nat.le_of_ble_eq_true rfl, Nat.le_of_ble_eq_true rfl⟩ (by decide +kernel) (fun x5 => ?_)
      refine zs_jn (pJ := 46) (kJ := 0) (sJ := 0) (fun t6 => [(0, sR 287), (1, sI a0), (2, sI a1), (3, sI a2), (4, sI t2)]) (fun t6 => [sI t6, sI x4, sI t2, sI a0, sR 287]) (fun t6 => ?_) (fun J7 hJ7 => ?_)
      · refine zs_cvVv (pc := 46) (As := [sI a0, sI t2, sI x4, sI t6]) (st := []) C (fun _ _ _ => rfl) (c_X12_laysHours l g a0 t2 x4 t6) ml_RX12_445 rfl rfl rfl rfl (Nat.le_of_ble_eq_true rfl) ⟨Nat.le_of_ble_eq_true rfl, Nat.le_of_ble_eq_true rfl⟩ ⟨Nat.le_of_ble_eq_true rfl, Nat.le_of_ble_eq_true rfl⟩ (by decide +kernel) ?_
        refine zs_aload_n (pc := 49) (k := 0) (i := 0) C (by decide +kernel) rfl rfl ?_
        refine zs_iload_n (pc := 50) (k := 1) (i := 1) C (by decide +kernel) rfl rfl ?_
        refine zs_iload_n (pc := 51) (k := 2) (i := 2) C (by decide +kernel) rfl rfl ?_
        refine zs_iload_n (pc := 52) (k := 3) (i := 3) C (by decide +kernel) rfl rfl ?_
        refine zs_cvWi (pc := 53) (As := [sI a0, sI a1, sI a2]) (st := []) C (fun _ _ _ => rfl) rfl (c_X12_wayOf l g a0 a1 a2) ml_RX12_485 rfl rfl rfl rfl (Nat.le_of_ble_eq_true rfl) ⟨Nat.le_of_ble_eq_true rfl, Nat.le_of_ble_eq_true rfl⟩ ⟨Nat.le_of_ble_eq_true rfl, Nat.le_of_ble_eq_true rfl⟩ (by decide +kernel) (fun x8 => ?_)
        refine zs_iconst (pc := 56) (n := (-1)) (x := (-1)) C (by decide +kernel) (by decide +kernel) ?_
        refine zs_icmp_eq (pc := 57) (off := 6) (tgt := 63) C (by decide +kernel) (by decide) ?_ ?_
        · refine zs_iinc (pc := 63) (i := 4) (n := 1) (y := w32 (t2 + 1)) (ls' := [(4, sI (w32 (t2 + 1))), (0, sR 287), (1, sI a0), (2, sI a1), (3, sI a2)]) C (by decide +kernel) rfl rfl (Nat.le_of_ble_eq_true rfl) rfl ?_
          refine zs_goto (pc := 66) (off := (-51)) (tgt := 15) C (by decide +kernel) (by decide) ?_
          exact zs_goj (hK3 (w32 (t2 + 1))) ⟨rfl, rfl, rfl, rfl, rfl, trivial⟩
        · refine zs_iload (pc := 60) (i := 4) C (by decide +kernel) rfl ?_
          exact zs_retWi (pc := 62) C hr ⟨Nat.le_of_ble_eq_true rfl, Nat.le_of_ble_eq_true rfl⟩ (by decide +kernel)
      · refine zs_if_ne (pc := 38) (off := 7) (tgt := 45) C (by decide +kernel) (by decide) ?_ ?_
        · refine zs_iconst (pc := 45) (n := 0) (x := 0) C (by decide +kernel) (by decide +kernel) ?_
          exact zs_goj (hJ7 0) ⟨rfl, rfl, rfl, rfl, rfl, trivial⟩
        · refine zs_iconst (pc := 41) (n := 1) (x := 1) C (by decide +kernel) (by decide +kernel) ?_
          refine zs_goto (pc := 42) (off := 4) (tgt := 46) C (by decide +kernel) (by decide) ?_
          exact zs_goj (hJ7 1) ⟨rfl, rfl, rfl, rfl, rfl, trivial⟩
  · refine zs_iconst (pc := 10) (n := 0) (x := 0) C (by decide +kernel) (by decide +kernel) ?_
    exact zs_retWi (pc := 11) C hr ⟨Nat.le_of_ble_eq_true rfl, Nat.le_of_ble_eq_true rfl⟩ (by decide +kernel)
set_option maxRecDepth 20000 in
theorem c_X12_needed (l : Launch) (g : GC) (a0 : Int) (a1 : Int) (a2 : Int) : ConW l g yX12_needed cX12_needed 6 (some .int) (rmd 7 0 0) [sR 287, sI a0, sI a1, sI a2] (fun mm => fX12_needed a0 a1 a2 mm) := by
  refine zs_ofW (by decide +kernel) (Nat.le_of_ble_eq_true rfl) ?_
  intro p e s m args below meth c C hr
  replace C : Bd g RX12 cX12_needed 6 p s m args meth c := C
  unfold fX12_needed
  refine zs_aload_n (pc := 0) (k := 0) (i := 0) C (by decide +kernel) rfl rfl ?_
  refine zs_iload_n (pc := 1) (k := 1) (i := 1) C (by decide +kernel) rfl rfl ?_
  refine zs_iload_n (pc := 2) (k := 2) (i := 2) C (by decide +kernel) rfl rfl ?_
  refine zs_iload_n (pc := 3) (k := 3) (i := 3) C (by decide +kernel) rfl rfl ?_
  refine zs_cvWi (pc := 4) (As := [sI a0, sI a1, sI a2]) (st := []) C (fun _ _ _ => rfl) rfl (c_X12_isWayOut l g a0 a1 a2) ml_RX12_481 rfl rfl rfl rfl (Nat.le_of_ble_eq_true rfl) ⟨Nat.le_of_ble_eq_true rfl, Nat.le_of_ble_eq_true rfl⟩ ⟨Nat.le_of_ble_eq_true rfl, Nat.le_of_ble_eq_true rfl⟩ (by decide +kernel) (fun x1 => ?_)
  refine zs_if_eq (pc := 7) (off := 5) (tgt := 12) C (by decide +kernel) (by decide) ?_ ?_
  · refine zs_aload_n (pc := 12) (k := 0) (i := 0) C (by decide +kernel) rfl rfl ?_
    refine zs_iload_n (pc := 13) (k := 1) (i := 1) C (by decide +kernel) rfl rfl ?_
    refine zs_cvVv (pc := 14) (As := [sI a0]) (st := []) C (fun _ _ _ => rfl) (c_X12_laysOwn l g a0) ml_RX12_461 rfl rfl rfl rfl (Nat.le_of_ble_eq_true rfl) ⟨Nat.le_of_ble_eq_true rfl, Nat.le_of_ble_eq_true rfl⟩ ⟨Nat.le_of_ble_eq_true rfl, Nat.le_of_ble_eq_true rfl⟩ (by decide +kernel) ?_
    refine zs_aload_n (pc := 17) (k := 0) (i := 0) C (by decide +kernel) rfl rfl ?_
    refine zs_iload_n (pc := 18) (k := 1) (i := 1) C (by decide +kernel) rfl rfl ?_
    refine zs_iload_n (pc := 19) (k := 2) (i := 2) C (by decide +kernel) rfl rfl ?_
    refine zs_iload_n (pc := 20) (k := 3) (i := 3) C (by decide +kernel) rfl rfl ?_
    refine zs_cvWi (pc := 21) (As := [sI a0, sI a1, sI a2]) (st := []) C (fun _ _ _ => rfl) rfl (c_X12_wayOf l g a0 a1 a2) ml_RX12_485 rfl rfl rfl rfl (Nat.le_of_ble_eq_true rfl) ⟨Nat.le_of_ble_eq_true rfl, Nat.le_of_ble_eq_true rfl⟩ ⟨Nat.le_of_ble_eq_true rfl, Nat.le_of_ble_eq_true rfl⟩ (by decide +kernel) (fun x2 => ?_)
    refine zs_iconst (pc := 24) (n := (-1)) (x := (-1)) C (by decide +kernel) (by decide +kernel) ?_
    refine zs_icmp_ne (pc := 25) (off := 5) (tgt := 30) C (by decide +kernel) (by decide) ?_ ?_
    · refine zs_iconst (pc := 30) (n := 0) (x := 0) C (by decide +kernel) (by decide +kernel) ?_
      refine zs_istore (pc := 31) (i := 4) (ls' := [(4, sI 0), (0, sR 287), (1, sI a0), (2, sI a1), (3, sI a2)]) C (by decide +kernel) (Nat.le_of_ble_eq_true rfl) rfl ?_
      refine zs_iconst (pc := 33) (n := 0) (x := 0) C (by decide +kernel) (by decide +kernel) ?_
      refine zs_istore (pc := 34) (i := 5) (ls' := [(5, sI 0), (4, sI 0), (0, sR 287), (1, sI a0), (2, sI a1), (3, sI a2)]) C (by decide +kernel) (Nat.le_of_ble_eq_true rfl) rfl ?_
      refine zs_sub (ls' := [(0, sR 287), (1, sI a0), (2, sI a1), (3, sI a2), (4, sI 0), (5, sI 0)]) ⟨rfl, rfl, rfl, rfl, rfl, rfl, trivial⟩ ?_
      refine zs_lp (pc := 36) (fun (t3 : Int × Int) => [(0, sR 287), (1, sI a0), (2, sI a1), (3, sI a2), (4, sI t3.1), (5, sI t3.2)]) (fun _ => []) (fun K4 hK4 t3 => ?_) BIG (0, 0)
      refine zs_iload (pc := 36) (i := 5) C (by decide +kernel) rfl ?_
      refine zs_aload_n (pc := 38) (k := 0) (i := 0) C (by decide +kernel) rfl rfl ?_
      refine zs_cvRi (pc := 39) (As := []) (st := [sI t3.2]) C rfl (c_X12_places l g ) ml_RX12_290 rfl rfl rfl rfl (Nat.le_of_ble_eq_true rfl) ⟨Nat.le_of_ble_eq_true rfl, Nat.le_of_ble_eq_true rfl⟩ ⟨Nat.le_of_ble_eq_true rfl, Nat.le_of_ble_eq_true rfl⟩ (by decide +kernel) (fun x5 => ?_)
      refine zs_icmp_ge (pc := 42) (off := 107) (tgt := 149) C (by decide +kernel) (by decide) ?_ ?_
      · refine zs_iload (pc := 149) (i := 4) C (by decide +kernel) rfl ?_
        exact zs_retWi (pc := 151) C hr ⟨Nat.le_of_ble_eq_true rfl, Nat.le_of_ble_eq_true rfl⟩ (by decide +kernel)
      · refine zs_aload_n (pc := 45) (k := 0) (i := 0) C (by decide +kernel) rfl rfl ?_
        refine zs_getR (o' := 288) (pc := 46) (i := 9) (ci := 12) (k := 0) C (by decide +kernel) fl_RX12_9 rfl rfl rfl ?_
        refine zs_bipush (pc := 49) (n := 8) (x := 8) C (by decide +kernel) (by decide +kernel) ?_
        refine zs_ialdk (pc := 51) (o := 288) (n := 2005) C (by decide) (by decide +kernel) rfl (fun x6 => ?_)
        refine zs_iload (pc := 52) (i := 5) C (by decide +kernel) rfl ?_
        refine zs_csRi (pc := 54) (As := [sI x6, sI t3.2]) (st := []) C rfl (c_X12_has l g x6 t3.2) ml_RX12_230 rfl rfl (Nat.le_of_ble_eq_true rfl) ⟨Nat.le_of_ble_eq_true rfl, Nat.le_of_ble_eq_true rfl⟩ ⟨Nat.le_of_ble_eq_true rfl, Nat.le_of_ble_eq_true rfl⟩ (by decide +kernel) (fun x7 => ?_)
        refine zs_jn (pJ := 143) (kJ := 0) (sJ := 0) (fun t8 => [(0, sR 287), (1, sI a0), (2, sI a1), (3, sI a2), (4, sI t8), (5, sI t3.2)]) (fun t8 => []) (fun t8 => ?_) (fun J9 hJ9 => ?_)
        · refine zs_iinc (pc := 143) (i := 5) (n := 1) (y := w32 (t3.2 + 1)) (ls' := [(5, sI (w32 (t3.2 + 1))), (0, sR 287), (1, sI a0), (2, sI a1), (3, sI a2), (4, sI t8)]) C (by decide +kernel) rfl rfl (Nat.le_of_ble_eq_true rfl) rfl ?_
          refine zs_goto (pc := 146) (off := (-110)) (tgt := 36) C (by decide +kernel) (by decide) ?_
          exact zs_goj (hK4 (t8, w32 (t3.2 + 1))) ⟨rfl, rfl, rfl, rfl, rfl, rfl, trivial⟩
        · refine zs_if_ne (pc := 57) (off := 86) (tgt := 143) C (by decide +kernel) (by decide) ?_ ?_
          · exact zs_goj (hJ9 t3.1) ⟨rfl, rfl, rfl, rfl, rfl, rfl, trivial⟩
          · refine zs_iload (pc := 60) (i := 5) C (by decide +kernel) rfl ?_
            refine zs_iload_n (pc := 62) (k := 2) (i := 2) C (by decide +kernel) rfl rfl ?_
            refine zs_icmp_eq (pc := 63) (off := 80) (tgt := 143) C (by decide +kernel) (by decide) ?_ ?_
            · exact zs_goj (hJ9 t3.1) ⟨rfl, rfl, rfl, rfl, rfl, rfl, trivial⟩
            · refine zs_iload (pc := 66) (i := 5) C (by decide +kernel) rfl ?_
              refine zs_iload_n (pc := 68) (k := 3) (i := 3) C (by decide +kernel) rfl rfl ?_
              refine zs_icmp_eq (pc := 69) (off := 74) (tgt := 143) C (by decide +kernel) (by decide) ?_ ?_
              · exact zs_goj (hJ9 t3.1) ⟨rfl, rfl, rfl, rfl, rfl, rfl, trivial⟩
              · refine zs_iload (pc := 72) (i := 5) C (by decide +kernel) rfl ?_
                refine zs_aload_n (pc := 74) (k := 0) (i := 0) C (by decide +kernel) rfl rfl ?_
                refine zs_getR (o' := 288) (pc := 75) (i := 9) (ci := 12) (k := 0) C (by decide +kernel) fl_RX12_9 rfl rfl rfl ?_
                refine zs_bipush (pc := 78) (n := 13) (x := 13) C (by decide +kernel) (by decide +kernel) ?_
                refine zs_iload_n (pc := 80) (k := 1) (i := 1) C (by decide +kernel) rfl rfl ?_
                refine zs_iadd (pc := 81) C (by decide +kernel) ?_
                refine zs_iald (pc := 82) (o := 288) (n := 2005) C (by decide +kernel) rfl (fun hinx10 x10 => ?_)
                refine zs_icmp_eq (pc := 83) (off := 60) (tgt := 143) C (by decide +kernel) (by decide) ?_ ?_
                · exact zs_goj (hJ9 t3.1) ⟨rfl, rfl, rfl, rfl, rfl, rfl, trivial⟩
                · refine zs_iload (pc := 86) (i := 5) C (by decide +kernel) rfl ?_
                  refine zs_aload_n (pc := 88) (k := 0) (i := 0) C (by decide +kernel) rfl rfl ?_
                  refine zs_getR (o' := 288) (pc := 89) (i := 9) (ci := 12) (k := 0) C (by decide +kernel) fl_RX12_9 rfl rfl rfl ?_
                  refine zs_bipush (pc := 92) (n := 17) (x := 17) C (by decide +kernel) (by decide +kernel) ?_
                  refine zs_iload_n (pc := 94) (k := 1) (i := 1) C (by decide +kernel) rfl rfl ?_
                  refine zs_iadd (pc := 95) C (by decide +kernel) ?_
                  refine zs_iald (pc := 96) (o := 288) (n := 2005) C (by decide +kernel) rfl (fun hinx11 x11 => ?_)
                  refine zs_icmp_ne (pc := 97) (off := 6) (tgt := 103) C (by decide +kernel) (by decide) ?_ ?_
                  · refine zs_aload_n (pc := 103) (k := 0) (i := 0) C (by decide +kernel) rfl rfl ?_
                    refine zs_aload_n (pc := 104) (k := 0) (i := 0) C (by decide +kernel) rfl rfl ?_
                    refine zs_getR (o' := 288) (pc := 105) (i := 9) (ci := 12) (k := 0) C (by decide +kernel) fl_RX12_9 rfl rfl rfl ?_
                    refine zs_bipush (pc := 108) (n := 8) (x := 8) C (by decide +kernel) (by decide +kernel) ?_
                    refine zs_ialdk (pc := 110) (o := 288) (n := 2005) C (by decide) (by decide +kernel) rfl (fun x12 => ?_)
                    refine zs_iconst (pc := 111) (n := 1) (x := 1) C (by decide +kernel) (by decide +kernel) ?_
                    refine zs_iload (pc := 112) (i := 5) C (by decide +kernel) rfl ?_
                    refine zs_ishl (pc := 114) C (by decide +kernel) ?_
                    refine zs_ior (pc := 115) C (by decide +kernel) ?_
                    refine zs_putI (pc := 116) (i := 438) (ci := 12) (k := 28) C (fun _ _ _ => rfl) (by decide +kernel) fl_RX12_438 fw_12_28 rfl rfl ?_
                    refine zs_iload (pc := 119) (i := 4) C (by decide +kernel) rfl ?_
                    refine zs_aload_n (pc := 121) (k := 0) (i := 0) C (by decide +kernel) rfl rfl ?_
                    refine zs_iload_n (pc := 122) (k := 1) (i := 1) C (by decide +kernel) rfl rfl ?_
                    refine zs_iload_n (pc := 123) (k := 2) (i := 2) C (by decide +kernel) rfl rfl ?_
                    refine zs_iload_n (pc := 124) (k := 3) (i := 3) C (by decide +kernel) rfl rfl ?_
                    refine zs_cvWi (pc := 125) (As := [sI a0, sI a1, sI a2]) (st := [sI t3.1]) C (fun _ _ _ => rfl) rfl (c_X12_wayOf l g a0 a1 a2) ml_RX12_485 rfl rfl rfl rfl (Nat.le_of_ble_eq_true rfl) ⟨Nat.le_of_ble_eq_true rfl, Nat.le_of_ble_eq_true rfl⟩ ⟨Nat.le_of_ble_eq_true rfl, Nat.le_of_ble_eq_true rfl⟩ (by decide +kernel) (fun x13 => ?_)
                    refine zs_iconst (pc := 128) (n := (-1)) (x := (-1)) C (by decide +kernel) (by decide +kernel) ?_
                    refine zs_jn (pJ := 140) (kJ := 0) (sJ := 0) (fun t14 => [(0, sR 287), (1, sI a0), (2, sI a1), (3, sI a2), (5, sI t3.2)]) (fun t14 => [sI t14, sI t3.1]) (fun t14 => ?_) (fun J15 hJ15 => ?_)
                    · refine zs_ior (pc := 140) C (by decide +kernel) ?_
                      refine zs_let (fun x16 => ?_)
                      refine zs_istore (pc := 141) (i := 4) (ls' := [(4, sI x16), (0, sR 287), (1, sI a0), (2, sI a1), (3, sI a2), (5, sI t3.2)]) C (by decide +kernel) (Nat.le_of_ble_eq_true rfl) rfl ?_
                      exact zs_goj (hJ9 x16) ⟨rfl, rfl, rfl, rfl, rfl, rfl, trivial⟩
                    · refine zs_icmp_ne (pc := 129) (off := 10) (tgt := 139) C (by decide +kernel) (by decide) ?_ ?_
                      · refine zs_iconst (pc := 139) (n := 0) (x := 0) C (by decide +kernel) (by decide +kernel) ?_
                        exact zs_goj (hJ15 0) ⟨rfl, rfl, rfl, rfl, rfl, trivial⟩
                      · refine zs_iconst (pc := 132) (n := 1) (x := 1) C (by decide +kernel) (by decide +kernel) ?_
                        refine zs_iload (pc := 133) (i := 5) C (by decide +kernel) rfl ?_
                        refine zs_ishl (pc := 135) C (by decide +kernel) ?_
                        refine zs_goto (pc := 136) (off := 4) (tgt := 140) C (by decide +kernel) (by decide) ?_
                        exact zs_goj (hJ15 (ishl 1 t3.2)) ⟨rfl, rfl, rfl, rfl, rfl, trivial⟩
                  · refine zs_goto (pc := 100) (off := 43) (tgt := 143) C (by decide +kernel) (by decide) ?_
                    exact zs_goj (hJ9 t3.1) ⟨rfl, rfl, rfl, rfl, rfl, rfl, trivial⟩
    · refine zs_iconst (pc := 28) (n := 0) (x := 0) C (by decide +kernel) (by decide +kernel) ?_
      exact zs_retWi (pc := 29) C hr ⟨Nat.le_of_ble_eq_true rfl, Nat.le_of_ble_eq_true rfl⟩ (by decide +kernel)
  · refine zs_iconst (pc := 10) (n := 0) (x := 0) C (by decide +kernel) (by decide +kernel) ?_
    exact zs_retWi (pc := 11) C hr ⟨Nat.le_of_ble_eq_true rfl, Nat.le_of_ble_eq_true rfl⟩ (by decide +kernel)
set_option maxRecDepth 20000 in
theorem c_X12_clear (l : Launch) (g : GC) (a0 : Int) (a1 : Int) (a2 : Int) : ConW l g yX12_clear cX12_clear 8 (some .int) (rmd 7 0 0) [sR 287, sI a0, sI a1, sI a2] (fun mm => fX12_clear a0 a1 a2 mm) := by
  refine zs_ofW (by decide +kernel) (Nat.le_of_ble_eq_true rfl) ?_
  intro p e s m args below meth c C hr
  replace C : Bd g RX12 cX12_clear 8 p s m args meth c := C
  unfold fX12_clear
  refine zs_aload_n (pc := 0) (k := 0) (i := 0) C (by decide +kernel) rfl rfl ?_
  refine zs_iload_n (pc := 1) (k := 1) (i := 1) C (by decide +kernel) rfl rfl ?_
  refine zs_iload_n (pc := 2) (k := 2) (i := 2) C (by decide +kernel) rfl rfl ?_
  refine zs_iload_n (pc := 3) (k := 3) (i := 3) C (by decide +kernel) rfl rfl ?_
  refine zs_cvWi (pc := 4) (As := [sI a0, sI a1, sI a2]) (st := []) C (fun _ _ _ => rfl) rfl (c_X12_isWayOut l g a0 a1 a2) ml_RX12_481 rfl rfl rfl rfl (Nat.le_of_ble_eq_true rfl) ⟨Nat.le_of_ble_eq_true rfl, Nat.le_of_ble_eq_true rfl⟩ ⟨Nat.le_of_ble_eq_true rfl, Nat.le_of_ble_eq_true rfl⟩ (by decide +kernel) (fun x1 => ?_)
  refine zs_if_eq (pc := 7) (off := 5) (tgt := 12) C (by decide +kernel) (by decide) ?_ ?_
  · refine zs_aload_n (pc := 12) (k := 0) (i := 0) C (by decide +kernel) rfl rfl ?_
    refine zs_iload_n (pc := 13) (k := 1) (i := 1) C (by decide +kernel) rfl rfl ?_
    refine zs_cvVv (pc := 14) (As := [sI a0]) (st := []) C (fun _ _ _ => rfl) (c_X12_laysOwn l g a0) ml_RX12_461 rfl rfl rfl rfl (Nat.le_of_ble_eq_true rfl) ⟨Nat.le_of_ble_eq_true rfl, Nat.le_of_ble_eq_true rfl⟩ ⟨Nat.le_of_ble_eq_true rfl, Nat.le_of_ble_eq_true rfl⟩ (by decide +kernel) ?_
    refine zs_aload_n (pc := 17) (k := 0) (i := 0) C (by decide +kernel) rfl rfl ?_
    refine zs_iload_n (pc := 18) (k := 1) (i := 1) C (by decide +kernel) rfl rfl ?_
    refine zs_iload_n (pc := 19) (k := 2) (i := 2) C (by decide +kernel) rfl rfl ?_
    refine zs_iload_n (pc := 20) (k := 3) (i := 3) C (by decide +kernel) rfl rfl ?_
    refine zs_cvWi (pc := 21) (As := [sI a0, sI a1, sI a2]) (st := []) C (fun _ _ _ => rfl) rfl (c_X12_wayOf l g a0 a1 a2) ml_RX12_485 rfl rfl rfl rfl (Nat.le_of_ble_eq_true rfl) ⟨Nat.le_of_ble_eq_true rfl, Nat.le_of_ble_eq_true rfl⟩ ⟨Nat.le_of_ble_eq_true rfl, Nat.le_of_ble_eq_true rfl⟩ (by decide +kernel) (fun x2 => ?_)
    refine zs_istore (pc := 24) (i := 4) (ls' := [(4, sI x2), (0, sR 287), (1, sI a0), (2, sI a1), (3, sI a2)]) C (by decide +kernel) (Nat.le_of_ble_eq_true rfl) rfl ?_
    refine zs_iload (pc := 26) (i := 4) C (by decide +kernel) rfl ?_
    refine zs_iconst (pc := 28) (n := (-1)) (x := (-1)) C (by decide +kernel) (by decide +kernel) ?_
    refine zs_jn (pJ := 37) (kJ := 0) (sJ := 0) (fun t3 => [(0, sR 287), (1, sI a0), (2, sI a1), (3, sI a2), (4, sI t3)]) (fun t3 => []) (fun t3 => ?_) (fun J4 hJ4 => ?_)
    · refine zs_iconst (pc := 37) (n := (-1)) (x := (-1)) C (by decide +kernel) (by decide +kernel) ?_
      refine zs_istore (pc := 38) (i := 5) (ls' := [(5, sI ((-1))), (0, sR 287), (1, sI a0), (2, sI a1), (3, sI a2), (4, sI t3)]) C (by decide +kernel) (Nat.le_of_ble_eq_true rfl) rfl ?_
      refine zs_iconst (pc := 40) (n := 0) (x := 0) C (by decide +kernel) (by decide +kernel) ?_
      refine zs_istore (pc := 41) (i := 6) (ls' := [(6, sI 0), (5, sI ((-1))), (0, sR 287), (1, sI a0), (2, sI a1), (3, sI a2), (4, sI t3)]) C (by decide +kernel) (Nat.le_of_ble_eq_true rfl) rfl ?_
      refine zs_sub (ls' := [(0, sR 287), (1, sI a0), (2, sI a1), (3, sI a2), (4, sI t3), (5, sI ((-1))), (6, sI 0)]) ⟨rfl, rfl, rfl, rfl, rfl, rfl, rfl, trivial⟩ ?_
      refine zs_lp (pc := 43) (fun (t5 : Int × Int × Int) => [(0, sR 287), (1, sI a0), (2, sI a1), (3, sI a2), (4, sI t5.1), (5, sI t5.2.1), (6, sI t5.2.2)]) (fun _ => []) (fun K6 hK6 t5 => ?_) BIG (t3, (-1), 0)
      refine zs_iload (pc := 43) (i := 6) C (by decide +kernel) rfl ?_
      refine zs_aload_n (pc := 45) (k := 0) (i := 0) C (by decide +kernel) rfl rfl ?_
      refine zs_cvRi (pc := 46) (As := []) (st := [sI t5.2.2]) C rfl (c_X12_places l g ) ml_RX12_290 rfl rfl rfl rfl (Nat.le_of_ble_eq_true rfl) ⟨Nat.le_of_ble_eq_true rfl, Nat.le_of_ble_eq_true rfl⟩ ⟨Nat.le_of_ble_eq_true rfl, Nat.le_of_ble_eq_true rfl⟩ (by decide +kernel) (fun x7 => ?_)
      refine zs_icmp_ge (pc := 49) (off := 78) (tgt := 127) C (by decide +kernel) (by decide) ?_ ?_
      · refine zs_iload (pc := 127) (i := 5) C (by decide +kernel) rfl ?_
        exact zs_retWi (pc := 129) C hr ⟨Nat.le_of_ble_eq_true rfl, Nat.le_of_ble_eq_true rfl⟩ (by decide +kernel)
      · refine zs_aload_n (pc := 52) (k := 0) (i := 0) C (by decide +kernel) rfl rfl ?_
        refine zs_getR (o' := 288) (pc := 53) (i := 9) (ci := 12) (k := 0) C (by decide +kernel) fl_RX12_9 rfl rfl rfl ?_
        refine zs_bipush (pc := 56) (n := 8) (x := 8) C (by decide +kernel) (by decide +kernel) ?_
        refine zs_ialdk (pc := 58) (o := 288) (n := 2005) C (by decide) (by decide +kernel) rfl (fun x8 => ?_)
        refine zs_iload (pc := 59) (i := 6) C (by decide +kernel) rfl ?_
        refine zs_csRi (pc := 61) (As := [sI x8, sI t5.2.2]) (st := []) C rfl (c_X12_has l g x8 t5.2.2) ml_RX12_230 rfl rfl (Nat.le_of_ble_eq_true rfl) ⟨Nat.le_of_ble_eq_true rfl, Nat.le_of_ble_eq_true rfl⟩ ⟨Nat.le_of_ble_eq_true rfl, Nat.le_of_ble_eq_true rfl⟩ (by decide +kernel) (fun x9 => ?_)
        refine zs_jn (pJ := 121) (kJ := 0) (sJ := 0) (fun t10 => [(0, sR 287), (1, sI a0), (2, sI a1), (3, sI a2), (4, sI t10.1), (5, sI t10.2), (6, sI t5.2.2)]) (fun t10 => []) (fun t10 => ?_) (fun J11 hJ11 => ?_)
        · refine zs_iinc (pc := 121) (i := 6) (n := 1) (y := w32 (t5.2.2 + 1)) (ls' := [(6, sI (w32 (t5.2.2 + 1))), (0, sR 287), (1, sI a0), (2, sI a1), (3, sI a2), (4, sI t10.1), (5, sI t10.2)]) C (by decide +kernel) rfl rfl (Nat.le_of_ble_eq_true rfl) rfl ?_
          refine zs_goto (pc := 124) (off := (-81)) (tgt := 43) C (by decide +kernel) (by decide) ?_
          exact zs_goj (hK6 (t10.1, t10.2, w32 (t5.2.2 + 1))) ⟨rfl, rfl, rfl, rfl, rfl, rfl, rfl, trivial⟩
        · refine zs_if_ne (pc := 64) (off := 6) (tgt := 70) C (by decide +kernel) (by decide) ?_ ?_
          · refine zs_aload_n (pc := 70) (k := 0) (i := 0) C (by decide +kernel) rfl rfl ?_
            refine zs_aload_n (pc := 71) (k := 0) (i := 0) C (by decide +kernel) rfl rfl ?_
            refine zs_getR (o' := 288) (pc := 72) (i := 9) (ci := 12) (k := 0) C (by decide +kernel) fl_RX12_9 rfl rfl rfl ?_
            refine zs_bipush (pc := 75) (n := 8) (x := 8) C (by decide +kernel) (by decide +kernel) ?_
            refine zs_ialdk (pc := 77) (o := 288) (n := 2005) C (by decide) (by decide +kernel) rfl (fun x12 => ?_)
            refine zs_iconst (pc := 78) (n := 1) (x := 1) C (by decide +kernel) (by decide +kernel) ?_
            refine zs_iload (pc := 79) (i := 6) C (by decide +kernel) rfl ?_
            refine zs_ishl (pc := 81) C (by decide +kernel) ?_
            refine zs_iconst (pc := 82) (n := (-1)) (x := (-1)) C (by decide +kernel) (by decide +kernel) ?_
            refine zs_ixor (pc := 83) C (by decide +kernel) ?_
            refine zs_iand (pc := 84) C (by decide +kernel) ?_
            refine zs_putI (pc := 85) (i := 438) (ci := 12) (k := 28) C (fun _ _ _ => rfl) (by decide +kernel) fl_RX12_438 fw_12_28 rfl rfl ?_
            refine zs_aload_n (pc := 88) (k := 0) (i := 0) C (by decide +kernel) rfl rfl ?_
            refine zs_iload_n (pc := 89) (k := 1) (i := 1) C (by decide +kernel) rfl rfl ?_
            refine zs_iload_n (pc := 90) (k := 2) (i := 2) C (by decide +kernel) rfl rfl ?_
            refine zs_iload_n (pc := 91) (k := 3) (i := 3) C (by decide +kernel) rfl rfl ?_
            refine zs_cvWi (pc := 92) (As := [sI a0, sI a1, sI a2]) (st := []) C (fun _ _ _ => rfl) rfl (c_X12_wayOf l g a0 a1 a2) ml_RX12_485 rfl rfl rfl rfl (Nat.le_of_ble_eq_true rfl) ⟨Nat.le_of_ble_eq_true rfl, Nat.le_of_ble_eq_true rfl⟩ ⟨Nat.le_of_ble_eq_true rfl, Nat.le_of_ble_eq_true rfl⟩ (by decide +kernel) (fun x13 => ?_)
            refine zs_istore (pc := 95) (i := 7) (ls' := [(7, sI x13), (0, sR 287), (1, sI a0), (2, sI a1), (3, sI a2), (4, sI t5.1), (5, sI t5.2.1), (6, sI t5.2.2)]) C (by decide +kernel) (Nat.le_of_ble_eq_true rfl) rfl ?_
            refine zs_iload (pc := 97) (i := 7) C (by decide +kernel) rfl ?_
            refine zs_iconst (pc := 99) (n := (-1)) (x := (-1)) C (by decide +kernel) (by decide +kernel) ?_
            refine zs_icmp_eq (pc := 100) (off := 21) (tgt := 121) C (by decide +kernel) (by decide) ?_ ?_
            · exact zs_goj (hJ11 (t5.1, t5.2.1)) ⟨rfl, rfl, rfl, rfl, rfl, rfl, rfl, trivial⟩
            · refine zs_iload (pc := 103) (i := 7) C (by decide +kernel) rfl ?_
              refine zs_iload (pc := 105) (i := 4) C (by decide +kernel) rfl ?_
              refine zs_icmp_lt (pc := 107) (off := 6) (tgt := 113) C (by decide +kernel) (by decide) ?_ ?_
              · refine zs_iload (pc := 113) (i := 6) C (by decide +kernel) rfl ?_
                refine zs_istore (pc := 115) (i := 5) (ls' := [(5, sI t5.2.2), (7, sI x13), (0, sR 287), (1, sI a0), (2, sI a1), (3, sI a2), (4, sI t5.1), (6, sI t5.2.2)]) C (by decide +kernel) (Nat.le_of_ble_eq_true rfl) rfl ?_
                refine zs_iload (pc := 117) (i := 7) C (by decide +kernel) rfl ?_
                refine zs_istore (pc := 119) (i := 4) (ls' := [(4, sI x13), (5, sI t5.2.2), (7, sI x13), (0, sR 287), (1, sI a0), (2, sI a1), (3, sI a2), (6, sI t5.2.2)]) C (by decide +kernel) (Nat.le_of_ble_eq_true rfl) rfl ?_
                exact zs_goj (hJ11 (x13, t5.2.2)) ⟨rfl, rfl, rfl, rfl, rfl, rfl, rfl, trivial⟩
              · refine zs_goto (pc := 110) (off := 11) (tgt := 121) C (by decide +kernel) (by decide) ?_
                exact zs_goj (hJ11 (t5.1, t5.2.1)) ⟨rfl, rfl, rfl, rfl, rfl, rfl, rfl, trivial⟩
          · refine zs_goto (pc := 67) (off := 54) (tgt := 121) C (by decide +kernel) (by decide) ?_
            exact zs_goj (hJ11 (t5.1, t5.2.1)) ⟨rfl, rfl, rfl, rfl, rfl, rfl, rfl, trivial⟩
    · refine zs_icmp_ne (pc := 29) (off := 8) (tgt := 37) C (by decide +kernel) (by decide) ?_ ?_
      · exact zs_goj (hJ4 x2) ⟨rfl, rfl, rfl, rfl, rfl, trivial⟩
      · refine zs_ldcw (pc := 32) (i := 441) (v := 536870912) (x := 536870912) C (by decide +kernel) wf_2282 (by decide +kernel) ?_
        refine zs_istore (pc := 35) (i := 4) (ls' := [(4, sI 536870912), (0, sR 287), (1, sI a0), (2, sI a1), (3, sI a2)]) C (by decide +kernel) (Nat.le_of_ble_eq_true rfl) rfl ?_
        exact zs_goj (hJ4 536870912) ⟨rfl, rfl, rfl, rfl, rfl, trivial⟩
  · refine zs_iconst (pc := 10) (n := 0) (x := 0) C (by decide +kernel) (by decide +kernel) ?_
    exact zs_retWi (pc := 11) C hr ⟨Nat.le_of_ble_eq_true rfl, Nat.le_of_ble_eq_true rfl⟩ (by decide +kernel)
set_option maxRecDepth 20000 in
theorem c_X12_errandsFault (l : Launch) (g : GC) (a0 : Int) : ConR l g yX12_errandsFault cX12_errandsFault 7 (some .int) (rmd 4 0 0) [sR 287, sI a0] (fun mm => fX12_errandsFault a0 mm) := by
  refine zs_ofR (by decide +kernel) (Nat.le_of_ble_eq_true rfl) ?_
  intro p e s m args below meth c C hr
  replace C : Bd g RX12 cX12_errandsFault 7 p s m args meth c := C
  unfold fX12_errandsFault
  refine zs_aload_n (pc := 0) (k := 0) (i := 0) C (by decide +kernel) rfl rfl ?_
  refine zs_iload_n (pc := 1) (k := 1) (i := 1) C (by decide +kernel) rfl rfl ?_
  refine zs_cvRi (pc := 2) (As := [sI a0]) (st := []) C rfl (c_X12_trayFault l g a0) ml_RX12_409 rfl rfl rfl rfl (Nat.le_of_ble_eq_true rfl) ⟨Nat.le_of_ble_eq_true rfl, Nat.le_of_ble_eq_true rfl⟩ ⟨Nat.le_of_ble_eq_true rfl, Nat.le_of_ble_eq_true rfl⟩ (by decide +kernel) (fun x1 => ?_)
  refine zs_istore_n (pc := 5) (k := 2) (i := 2) (ls' := [(2, sI x1), (0, sR 287), (1, sI a0)]) C (by decide +kernel) rfl (Nat.le_of_ble_eq_true rfl) rfl ?_
  refine zs_iload_n (pc := 6) (k := 2) (i := 2) C (by decide +kernel) rfl rfl ?_
  refine zs_if_eq (pc := 7) (off := 5) (tgt := 12) C (by decide +kernel) (by decide) ?_ ?_
  · refine zs_aload_n (pc := 12) (k := 0) (i := 0) C (by decide +kernel) rfl rfl ?_
    refine zs_getR (o' := 310) (pc := 13) (i := 82) (ci := 12) (k := 40) C (by decide +kernel) fl_RX12_82 rfl rfl rfl ?_
    refine zs_iload_n (pc := 16) (k := 1) (i := 1) C (by decide +kernel) rfl rfl ?_
    refine zs_iald (pc := 17) (o := 310) (n := 4) C (by decide +kernel) rfl (fun hinx2 x2 => ?_)
    refine zs_i2l (pc := 18) C (by decide +kernel) ?_
    refine zs_lconst (pc := 19) (n := 1) (x := 1) C (by decide +kernel) (by decide +kernel) ?_
    refine zs_ldc2 (pc := 20) (i := 364) (v := 4) (x := 4) C (by decide +kernel) wf_2165 (by decide +kernel) ?_
    refine zs_csRi (pc := 23) (As := [sL x2, sL 1, sL 4]) (st := []) C rfl (c_X12_within l g x2 1 4) ml_RX12_149 rfl rfl (Nat.le_of_ble_eq_true rfl) ⟨Nat.le_of_ble_eq_true rfl, Nat.le_of_ble_eq_true rfl⟩ ⟨Nat.le_of_ble_eq_true rfl, Nat.le_of_ble_eq_true rfl⟩ (by decide +kernel) (fun x3 => ?_)
    refine zs_istore_n (pc := 26) (k := 3) (i := 3) (ls' := [(3, sI x3), (2, sI x1), (0, sR 287), (1, sI a0)]) C (by decide +kernel) rfl (Nat.le_of_ble_eq_true rfl) rfl ?_
    refine zs_iconst (pc := 27) (n := 0) (x := 0) C (by decide +kernel) (by decide +kernel) ?_
    refine zs_istore (pc := 28) (i := 4) (ls' := [(4, sI 0), (3, sI x3), (2, sI x1), (0, sR 287), (1, sI a0)]) C (by decide +kernel) (Nat.le_of_ble_eq_true rfl) rfl ?_
    refine zs_sub (ls' := [(0, sR 287), (1, sI a0), (3, sI x3), (4, sI 0)]) ⟨rfl, rfl, rfl, rfl, trivial⟩ ?_
    refine zs_lp (pc := 30) (fun (t4 : Int × Int) => [(0, sR 287), (1, sI a0), (3, sI t4.1), (4, sI t4.2)]) (fun _ => []) (fun K5 hK5 t4 => ?_) BIG (x3, 0)
    refine zs_iload (pc := 30) (i := 4) C (by decide +kernel) rfl ?_
    refine zs_aload_n (pc := 32) (k := 0) (i := 0) C (by decide +kernel) rfl rfl ?_
    refine zs_getR (o' := 310) (pc := 33) (i := 82) (ci := 12) (k := 40) C (by decide +kernel) fl_RX12_82 rfl rfl rfl ?_
    refine zs_iload_n (pc := 36) (k := 1) (i := 1) C (by decide +kernel) rfl rfl ?_
    refine zs_iald (pc := 37) (o := 310) (n := 4) C (by decide +kernel) rfl (fun hinx6 x6 => ?_)
    refine zs_jn (pJ := 110) (kJ := 0) (sJ := 0) (fun t7 => [(3, sI t4.1)]) (fun t7 => []) (fun t7 => ?_) (fun J8 hJ8 => ?_)
    · refine zs_iload_n (pc := 110) (k := 3) (i := 3) C (by decide +kernel) rfl rfl ?_
      refine zs_jn (pJ := 119) (kJ := 0) (sJ := 0) (fun t9 => []) (fun t9 => [sI t9]) (fun t9 => ?_) (fun J10 hJ10 => ?_)
      · exact zs_retRi (pc := 119) C hr ⟨Nat.le_of_ble_eq_true rfl, Nat.le_of_ble_eq_true rfl⟩ (by decide +kernel)
      · refine zs_if_eq (pc := 111) (off := 7) (tgt := 118) C (by decide +kernel) (by decide) ?_ ?_
        · refine zs_iconst (pc := 118) (n := 3) (x := 3) C (by decide +kernel) (by decide +kernel) ?_
          exact zs_goj (hJ10 3) trivial
        · refine zs_iconst (pc := 114) (n := 0) (x := 0) C (by decide +kernel) (by decide +kernel) ?_
          refine zs_goto (pc := 115) (off := 4) (tgt := 119) C (by decide +kernel) (by decide) ?_
          exact zs_goj (hJ10 0) trivial
    · refine zs_icmp_ge (pc := 38) (off := 72) (tgt := 110) C (by decide +kernel) (by decide) ?_ ?_
      · exact zs_goj (hJ8 ()) ⟨rfl, trivial⟩
      · refine zs_iload_n (pc := 41) (k := 3) (i := 3) C (by decide +kernel) rfl rfl ?_
        refine zs_if_eq (pc := 42) (off := 68) (tgt := 110) C (by decide +kernel) (by decide) ?_ ?_
        · exact zs_goj (hJ8 ()) ⟨rfl, trivial⟩
        · refine zs_aload_n (pc := 45) (k := 0) (i := 0) C (by decide +kernel) rfl rfl ?_
          refine zs_getR (o' := 311) (pc := 46) (i := 85) (ci := 12) (k := 41) C (by decide +kernel) fl_RX12_85 rfl rfl rfl ?_
          refine zs_bipush (pc := 49) (n := 30) (x := 30) C (by decide +kernel) (by decide +kernel) ?_
          refine zs_iload_n (pc := 51) (k := 1) (i := 1) C (by decide +kernel) rfl rfl ?_
          refine zs_imul (pc := 52) C (by decide +kernel) ?_
          refine zs_iload (pc := 53) (i := 4) C (by decide +kernel) rfl ?_
          refine zs_iadd (pc := 55) C (by decide +kernel) ?_
          refine zs_lald (pc := 56) (o := 311) (n := 120) C (by decide +kernel) rfl (fun hinx11 x11 => ?_)
          refine zs_lstore (pc := 57) (i := 5) (ls' := [(5, sL x11), (0, sR 287), (1, sI a0), (3, sI t4.1), (4, sI t4.2)]) C (by decide +kernel) (Nat.le_of_ble_eq_true rfl) rfl ?_
          refine zs_lload (pc := 59) (i := 5) C (by decide +kernel) rfl ?_
          refine zs_lconst (pc := 61) (n := 0) (x := 0) C (by decide +kernel) (by decide +kernel) ?_
          refine zs_ldc2 (pc := 62) (i := 509) (v := 24) (x := 24) C (by decide +kernel) wf_2407 (by decide +kernel) ?_
          refine zs_csRi (pc := 65) (As := [sL x11, sL 0, sL 24]) (st := []) C rfl (c_X12_within l g x11 0 24) ml_RX12_149 rfl rfl (Nat.le_of_ble_eq_true rfl) ⟨Nat.le_of_ble_eq_true rfl, Nat.le_of_ble_eq_true rfl⟩ ⟨Nat.le_of_ble_eq_true rfl, Nat.le_of_ble_eq_true rfl⟩ (by decide +kernel) (fun x12 => ?_)
          refine zs_jn (pJ := 103) (kJ := 0) (sJ := 0) (fun t13 => [(0, sR 287), (1, sI a0), (4, sI t4.2)]) (fun t13 => [sI t13]) (fun t13 => ?_) (fun J14 hJ14 => ?_)
          · refine zs_istore_n (pc := 103) (k := 3) (i := 3) (ls' := [(3, sI t13), (0, sR 287), (1, sI a0), (4, sI t4.2)]) C (by decide +kernel) rfl (Nat.le_of_ble_eq_true rfl) rfl ?_
            refine zs_iinc (pc := 104) (i := 4) (n := 1) (y := w32 (t4.2 + 1)) (ls' := [(4, sI (w32 (t4.2 + 1))), (3, sI t13), (0, sR 287), (1, sI a0)]) C (by decide +kernel) rfl rfl (Nat.le_of_ble_eq_true rfl) rfl ?_
            refine zs_goto (pc := 107) (off := (-77)) (tgt := 30) C (by decide +kernel) (by decide) ?_
            exact zs_goj (hK5 (t13, w32 (t4.2 + 1))) ⟨rfl, rfl, rfl, rfl, trivial⟩
          · refine zs_jn (pJ := 102) (kJ := 0) (sJ := 0) (fun t15 => [(0, sR 287), (1, sI a0), (4, sI t4.2)]) (fun t15 => []) (fun t15 => ?_) (fun J16 hJ16 => ?_)
            · refine zs_iconst (pc := 102) (n := 0) (x := 0) C (by decide +kernel) (by decide +kernel) ?_
              exact zs_goj (hJ14 0) ⟨rfl, rfl, rfl, trivial⟩
            · refine zs_jn (pJ := 85) (kJ := 0) (sJ := 0) (fun t17 => [(0, sR 287), (1, sI a0), (4, sI t4.2), (5, sL x11)]) (fun t17 => []) (fun t17 => ?_) (fun J18 hJ18 => ?_)
              · refine zs_aload_n (pc := 85) (k := 0) (i := 0) C (by decide +kernel) rfl rfl ?_
                refine zs_lload (pc := 86) (i := 5) C (by decide +kernel) rfl ?_
                refine zs_ldc2 (pc := 88) (i := 403) (v := 100) (x := 100) C (by decide +kernel) wf_2233 (by decide +kernel) ?_
                refine zs_lrem (pc := 91) C (by decide +kernel) (by decide +kernel) ?_
                refine zs_cvRi (pc := 92) (As := [sL (Int.tmod x11 100)]) (st := []) C rfl (c_X12_isPlace l g (Int.tmod x11 100)) ml_RX12_334 rfl rfl rfl rfl (Nat.le_of_ble_eq_true rfl) ⟨Nat.le_of_ble_eq_true rfl, Nat.le_of_ble_eq_true rfl⟩ ⟨Nat.le_of_ble_eq_true rfl, Nat.le_of_ble_eq_true rfl⟩ (by decide +kernel) (fun x19 => ?_)
                refine zs_if_eq (pc := 95) (off := 7) (tgt := 102) C (by decide +kernel) (by decide) ?_ ?_
                · exact zs_goj (hJ16 ()) ⟨rfl, rfl, rfl, trivial⟩
                · refine zs_iconst (pc := 98) (n := 1) (x := 1) C (by decide +kernel) (by decide +kernel) ?_
                  refine zs_goto (pc := 99) (off := 4) (tgt := 103) C (by decide +kernel) (by decide) ?_
                  exact zs_goj (hJ14 1) ⟨rfl, rfl, rfl, trivial⟩
              · refine zs_if_ne (pc := 68) (off := 17) (tgt := 85) C (by decide +kernel) (by decide) ?_ ?_
                · exact zs_goj (hJ18 ()) ⟨rfl, rfl, rfl, rfl, trivial⟩
                · refine zs_lload (pc := 71) (i := 5) C (by decide +kernel) rfl ?_
                  refine zs_ldc2 (pc := 73) (i := 403) (v := 100) (x := 100) C (by decide +kernel) wf_2233 (by decide +kernel) ?_
                  refine zs_ldc2 (pc := 76) (i := 511) (v := 124) (x := 124) C (by decide +kernel) wf_2408 (by decide +kernel) ?_
                  refine zs_csRi (pc := 79) (As := [sL x11, sL 100, sL 124]) (st := []) C rfl (c_X12_within l g x11 100 124) ml_RX12_149 rfl rfl (Nat.le_of_ble_eq_true rfl) ⟨Nat.le_of_ble_eq_true rfl, Nat.le_of_ble_eq_true rfl⟩ ⟨Nat.le_of_ble_eq_true rfl, Nat.le_of_ble_eq_true rfl⟩ (by decide +kernel) (fun x20 => ?_)
                  refine zs_if_eq (pc := 82) (off := 20) (tgt := 102) C (by decide +kernel) (by decide) ?_ ?_
                  · exact zs_goj (hJ16 ()) ⟨rfl, rfl, rfl, trivial⟩
                  · exact zs_goj (hJ18 ()) ⟨rfl, rfl, rfl, rfl, trivial⟩
  · refine zs_iload_n (pc := 10) (k := 2) (i := 2) C (by decide +kernel) rfl rfl ?_
    exact zs_retRi (pc := 11) C hr ⟨Nat.le_of_ble_eq_true rfl, Nat.le_of_ble_eq_true rfl⟩ (by decide +kernel)
set_option maxRecDepth 20000 in
theorem c_X12_doneAt (l : Launch) (g : GC) (a0 : Int) (a1 : Int) (a2 : Int) : ConR l g yX12_doneAt cX12_doneAt 8 (some .int) (rmd 1 0 0) [sR 287, sI a0, sI a1, sI a2] (fun mm => fX12_doneAt a0 a1 a2 mm) := by
  refine zs_ofR (by decide +kernel) (Nat.le_of_ble_eq_true rfl) ?_
  intro p e s m args below meth c C hr
  replace C : Bd g RX12 cX12_doneAt 8 p s m args meth c := C
  unfold fX12_doneAt
  refine zs_iload_n (pc := 0) (k := 3) (i := 3) C (by decide +kernel) rfl rfl ?_
  refine zs_istore (pc := 1) (i := 4) (ls' := [(4, sI a2), (0, sR 287), (1, sI a0), (2, sI a1), (3, sI a2)]) C (by decide +kernel) (Nat.le_of_ble_eq_true rfl) rfl ?_
  refine zs_iconst (pc := 3) (n := 0) (x := 0) C (by decide +kernel) (by decide +kernel) ?_
  refine zs_istore (pc := 4) (i := 5) (ls' := [(5, sI 0), (4, sI a2), (0, sR 287), (1, sI a0), (2, sI a1), (3, sI a2)]) C (by decide +kernel) (Nat.le_of_ble_eq_true rfl) rfl ?_
  refine zs_sub (ls' := [(0, sR 287), (1, sI a0), (2, sI a1), (4, sI a2), (5, sI 0)]) ⟨rfl, rfl, rfl, rfl, rfl, trivial⟩ ?_
  refine zs_lp (pc := 6) (fun (t1 : Int × Int) => [(0, sR 287), (1, sI a0), (2, sI a1), (4, sI t1.1), (5, sI t1.2)]) (fun _ => []) (fun K2 hK2 t1 => ?_) BIG (a2, 0)
  refine zs_iload (pc := 6) (i := 5) C (by decide +kernel) rfl ?_
  refine zs_aload_n (pc := 8) (k := 0) (i := 0) C (by decide +kernel) rfl rfl ?_
  refine zs_getR (o' := 310) (pc := 9) (i := 82) (ci := 12) (k := 40) C (by decide +kernel) fl_RX12_82 rfl rfl rfl ?_
  refine zs_iload_n (pc := 12) (k := 1) (i := 1) C (by decide +kernel) rfl rfl ?_
  refine zs_iald (pc := 13) (o := 310) (n := 4) C (by decide +kernel) rfl (fun hinx3 x3 => ?_)
  refine zs_icmp_ge (pc := 14) (off := 67) (tgt := 81) C (by decide +kernel) (by decide) ?_ ?_
  · refine zs_iload (pc := 81) (i := 4) C (by decide +kernel) rfl ?_
    exact zs_retRi (pc := 83) C hr ⟨Nat.le_of_ble_eq_true rfl, Nat.le_of_ble_eq_true rfl⟩ (by decide +kernel)
  · refine zs_aload_n (pc := 17) (k := 0) (i := 0) C (by decide +kernel) rfl rfl ?_
    refine zs_getR (o' := 311) (pc := 18) (i := 85) (ci := 12) (k := 41) C (by decide +kernel) fl_RX12_85 rfl rfl rfl ?_
    refine zs_bipush (pc := 21) (n := 30) (x := 30) C (by decide +kernel) (by decide +kernel) ?_
    refine zs_iload_n (pc := 23) (k := 1) (i := 1) C (by decide +kernel) rfl rfl ?_
    refine zs_imul (pc := 24) C (by decide +kernel) ?_
    refine zs_iload (pc := 25) (i := 5) C (by decide +kernel) rfl ?_
    refine zs_iadd (pc := 27) C (by decide +kernel) ?_
    refine zs_lald (pc := 28) (o := 311) (n := 120) C (by decide +kernel) rfl (fun hinx4 x4 => ?_)
    refine zs_lstore (pc := 29) (i := 6) (ls' := [(6, sL x4), (0, sR 287), (1, sI a0), (2, sI a1), (4, sI t1.1), (5, sI t1.2)]) C (by decide +kernel) (Nat.le_of_ble_eq_true rfl) rfl ?_
    refine zs_iload (pc := 31) (i := 4) C (by decide +kernel) rfl ?_
    refine zs_lload (pc := 33) (i := 6) C (by decide +kernel) rfl ?_
    refine zs_ldc2 (pc := 35) (i := 403) (v := 100) (x := 100) C (by decide +kernel) wf_2233 (by decide +kernel) ?_
    refine zs_lrem (pc := 38) C (by decide +kernel) (by decide +kernel) ?_
    refine zs_lload (pc := 39) (i := 6) C (by decide +kernel) rfl ?_
    refine zs_ldc2 (pc := 41) (i := 403) (v := 100) (x := 100) C (by decide +kernel) wf_2233 (by decide +kernel) ?_
    refine zs_jn (pJ := 59) (kJ := 0) (sJ := 0) (fun t5 => [(0, sR 287), (1, sI a0), (2, sI a1), (5, sI t1.2)]) (fun t5 => [sI t5, sL (Int.tmod x4 100), sI t1.1]) (fun t5 => ?_) (fun J6 hJ6 => ?_)
    · refine zs_i2l (pc := 59) C (by decide +kernel) ?_
      refine zs_jn (pJ := 72) (kJ := 0) (sJ := 0) (fun t7 => [(0, sR 287), (1, sI a0), (2, sI a1), (5, sI t1.2)]) (fun t7 => [sI t7, sI t1.1]) (fun t7 => ?_) (fun J8 hJ8 => ?_)
      · refine zs_ior (pc := 72) C (by decide +kernel) ?_
        refine zs_let (fun x9 => ?_)
        refine zs_istore (pc := 73) (i := 4) (ls' := [(4, sI x9), (0, sR 287), (1, sI a0), (2, sI a1), (5, sI t1.2)]) C (by decide +kernel) (Nat.le_of_ble_eq_true rfl) rfl ?_
        refine zs_iinc (pc := 75) (i := 5) (n := 1) (y := w32 (t1.2 + 1)) (ls' := [(5, sI (w32 (t1.2 + 1))), (4, sI x9), (0, sR 287), (1, sI a0), (2, sI a1)]) C (by decide +kernel) rfl rfl (Nat.le_of_ble_eq_true rfl) rfl ?_
        refine zs_goto (pc := 78) (off := (-72)) (tgt := 6) C (by decide +kernel) (by decide) ?_
        exact zs_goj (hK2 (x9, w32 (t1.2 + 1))) ⟨rfl, rfl, rfl, rfl, rfl, trivial⟩
      · refine zs_lcmp_ne (pc := 60) (off := 10) (tgt := 71) C (by decide +kernel) (by decide +kernel) (by decide) ?_ ?_
        · refine zs_iconst (pc := 71) (n := 0) (x := 0) C (by decide +kernel) (by decide +kernel) ?_
          exact zs_goj (hJ8 0) ⟨rfl, rfl, rfl, rfl, trivial⟩
        · refine zs_iconst (pc := 64) (n := 1) (x := 1) C (by decide +kernel) (by decide +kernel) ?_
          refine zs_iload (pc := 65) (i := 5) C (by decide +kernel) rfl ?_
          refine zs_ishl (pc := 67) C (by decide +kernel) ?_
          refine zs_goto (pc := 68) (off := 4) (tgt := 72) C (by decide +kernel) (by decide) ?_
          exact zs_goj (hJ8 (ishl 1 t1.2)) ⟨rfl, rfl, rfl, rfl, trivial⟩
    · refine zs_lcmp_ge (pc := 44) (off := 10) (tgt := 55) C (by decide +kernel) (by decide +kernel) (by decide) ?_ ?_
      · refine zs_iload_n (pc := 55) (k := 2) (i := 2) C (by decide +kernel) rfl rfl ?_
        refine zs_bipush (pc := 56) (n := 25) (x := 25) C (by decide +kernel) (by decide +kernel) ?_
        refine zs_irem (pc := 58) C (by decide +kernel) (by decide +kernel) ?_
        exact zs_goj (hJ6 (Int.tmod a1 25)) ⟨rfl, rfl, rfl, rfl, trivial⟩
      · refine zs_iload_n (pc := 48) (k := 2) (i := 2) C (by decide +kernel) rfl rfl ?_
        refine zs_bipush (pc := 49) (n := 25) (x := 25) C (by decide +kernel) (by decide +kernel) ?_
        refine zs_idiv (pc := 51) C (by decide +kernel) (by decide +kernel) ?_
        refine zs_goto (pc := 52) (off := 7) (tgt := 59) C (by decide +kernel) (by decide) ?_
        exact zs_goj (hJ6 (Int.tdiv a1 25)) ⟨rfl, rfl, rfl, rfl, trivial⟩
set_option maxRecDepth 20000 in
theorem c_X12_goesErrands (l : Launch) (g : GC) (a0 : Int) (a1 : Int) : ConV l g yX12_goesErrands cX12_goesErrands 6 (rmd 4 0 0) [sR 287, sI a0, sI a1] (fun mm => fX12_goesErrands a0 a1 mm) := by
  refine zs_ofV (by decide +kernel) (Nat.le_of_ble_eq_true rfl) ?_
  intro p e s m args below meth c C hr
  replace C : Bd g RX12 cX12_goesErrands 6 p s m args meth c := C
  unfold fX12_goesErrands
  refine zs_iconst (pc := 0) (n := 0) (x := 0) C (by decide +kernel) (by decide +kernel) ?_
  refine zs_istore_n (pc := 1) (k := 3) (i := 3) (ls' := [(3, sI 0), (0, sR 287), (1, sI a0), (2, sI a1)]) C (by decide +kernel) rfl (Nat.le_of_ble_eq_true rfl) rfl ?_
  refine zs_sub (ls' := [(0, sR 287), (1, sI a0), (2, sI a1), (3, sI 0)]) ⟨rfl, rfl, rfl, rfl, trivial⟩ ?_
  refine zs_lp (pc := 2) (fun (t1 : Int) => [(0, sR 287), (1, sI a0), (2, sI a1), (3, sI t1)]) (fun _ => []) (fun K2 hK2 t1 => ?_) BIG 0
  refine zs_iload_n (pc := 2) (k := 3) (i := 3) C (by decide +kernel) rfl rfl ?_
  refine zs_sipush (pc := 3) (n := 10000) (x := 10000) C (by decide +kernel) (by decide +kernel) ?_
  refine zs_icmp_ge (pc := 6) (off := 16) (tgt := 22) C (by decide +kernel) (by decide) ?_ ?_
  · refine zs_iconst (pc := 22) (n := 0) (x := 0) C (by decide +kernel) (by decide +kernel) ?_
    refine zs_istore_n (pc := 23) (k := 3) (i := 3) (ls' := [(3, sI 0), (0, sR 287), (1, sI a0), (2, sI a1)]) C (by decide +kernel) rfl (Nat.le_of_ble_eq_true rfl) rfl ?_
    refine zs_sub (ls' := [(0, sR 287), (1, sI a0), (2, sI a1), (3, sI 0)]) ⟨rfl, rfl, rfl, rfl, trivial⟩ ?_
    refine zs_lp (pc := 24) (fun (t3 : Int) => [(0, sR 287), (1, sI a0), (2, sI a1), (3, sI t3)]) (fun _ => []) (fun K4 hK4 t3 => ?_) BIG 0
    refine zs_iload_n (pc := 24) (k := 3) (i := 3) C (by decide +kernel) rfl rfl ?_
    refine zs_sipush (pc := 25) (n := 10000) (x := 10000) C (by decide +kernel) (by decide +kernel) ?_
    refine zs_icmp_ge (pc := 28) (off := 82) (tgt := 110) C (by decide +kernel) (by decide) ?_ ?_
    · refine zs_iconst (pc := 110) (n := 0) (x := 0) C (by decide +kernel) (by decide +kernel) ?_
      refine zs_istore_n (pc := 111) (k := 3) (i := 3) (ls' := [(3, sI 0), (0, sR 287), (1, sI a0), (2, sI a1)]) C (by decide +kernel) rfl (Nat.le_of_ble_eq_true rfl) rfl ?_
      refine zs_sub (ls' := [(0, sR 287), (3, sI 0)]) ⟨rfl, rfl, trivial⟩ ?_
      refine zs_lp (pc := 112) (fun (t5 : Int) => [(0, sR 287), (3, sI t5)]) (fun _ => []) (fun K6 hK6 t5 => ?_) BIG 0
      refine zs_iload_n (pc := 112) (k := 3) (i := 3) C (by decide +kernel) rfl rfl ?_
      refine zs_sipush (pc := 113) (n := 10000) (x := 10000) C (by decide +kernel) (by decide +kernel) ?_
      refine zs_icmp_ge (pc := 116) (off := 21) (tgt := 137) C (by decide +kernel) (by decide) ?_ ?_
      · exact zs_retVv (pc := 137) C hr ⟨Nat.le_of_ble_eq_true rfl, Nat.le_of_ble_eq_true rfl⟩ (by decide +kernel)
      · refine zs_aload_n (pc := 119) (k := 0) (i := 0) C (by decide +kernel) rfl rfl ?_
        refine zs_getR (o' := 305) (pc := 120) (i := 67) (ci := 12) (k := 33) C (by decide +kernel) fl_RX12_67 rfl rfl rfl ?_
        refine zs_iload_n (pc := 123) (k := 3) (i := 3) C (by decide +kernel) rfl rfl ?_
        refine zs_aload_n (pc := 124) (k := 0) (i := 0) C (by decide +kernel) rfl rfl ?_
        refine zs_getR (o' := 306) (pc := 125) (i := 70) (ci := 12) (k := 34) C (by decide +kernel) fl_RX12_70 rfl rfl rfl ?_
        refine zs_iload_n (pc := 128) (k := 3) (i := 3) C (by decide +kernel) rfl rfl ?_
        refine zs_zald (pc := 129) (o := 306) (n := 10000) C (by decide +kernel) rfl (fun hinx7 x7 => ?_)
        refine zs_zast (pc := 130) (o := 305) (n := 10000) C (fun _ _ _ => rfl) (by decide +kernel) rfl ?_
        refine zs_iinc (pc := 131) (i := 3) (n := 1) (y := w32 (t5 + 1)) (ls' := [(3, sI (w32 (t5 + 1))), (0, sR 287)]) C (by decide +kernel) rfl rfl (Nat.le_of_ble_eq_true rfl) rfl ?_
        refine zs_goto (pc := 134) (off := (-22)) (tgt := 112) C (by decide +kernel) (by decide) ?_
        exact zs_goj (hK6 (w32 (t5 + 1))) ⟨rfl, rfl, trivial⟩
    · refine zs_iconst (pc := 31) (n := 0) (x := 0) C (by decide +kernel) (by decide +kernel) ?_
      refine zs_istore (pc := 32) (i := 4) (ls' := [(4, sI 0), (0, sR 287), (1, sI a0), (2, sI a1), (3, sI t3)]) C (by decide +kernel) (Nat.le_of_ble_eq_true rfl) rfl ?_
      refine zs_sub (ls' := [(0, sR 287), (1, sI a0), (2, sI a1), (3, sI t3), (4, sI 0)]) ⟨rfl, rfl, rfl, rfl, rfl, trivial⟩ ?_
      refine zs_lp (pc := 34) (fun (t8 : Int) => [(0, sR 287), (1, sI a0), (2, sI a1), (3, sI t3), (4, sI t8)]) (fun _ => []) (fun K9 hK9 t8 => ?_) BIG 0
      refine zs_iload (pc := 34) (i := 4) C (by decide +kernel) rfl ?_
      refine zs_bipush (pc := 36) (n := 25) (x := 25) C (by decide +kernel) (by decide +kernel) ?_
      refine zs_jn (pJ := 104) (kJ := 0) (sJ := 0) (fun t10 => [(0, sR 287), (1, sI a0), (2, sI a1), (3, sI t3)]) (fun t10 => []) (fun t10 => ?_) (fun J11 hJ11 => ?_)
      · refine zs_iinc (pc := 104) (i := 3) (n := 1) (y := w32 (t3 + 1)) (ls' := [(3, sI (w32 (t3 + 1))), (0, sR 287), (1, sI a0), (2, sI a1)]) C (by decide +kernel) rfl rfl (Nat.le_of_ble_eq_true rfl) rfl ?_
        refine zs_goto (pc := 107) (off := (-83)) (tgt := 24) C (by decide +kernel) (by decide) ?_
        exact zs_goj (hK4 (w32 (t3 + 1))) ⟨rfl, rfl, rfl, rfl, trivial⟩
      · refine zs_icmp_ge (pc := 38) (off := 66) (tgt := 104) C (by decide +kernel) (by decide) ?_ ?_
        · exact zs_goj (hJ11 ()) ⟨rfl, rfl, rfl, rfl, trivial⟩
        · refine zs_aload_n (pc := 41) (k := 0) (i := 0) C (by decide +kernel) rfl rfl ?_
          refine zs_getR (o' := 305) (pc := 42) (i := 67) (ci := 12) (k := 33) C (by decide +kernel) fl_RX12_67 rfl rfl rfl ?_
          refine zs_iload_n (pc := 45) (k := 3) (i := 3) C (by decide +kernel) rfl rfl ?_
          refine zs_zald (pc := 46) (o := 305) (n := 10000) C (by decide +kernel) rfl (fun hinx12 x12 => ?_)
          refine zs_if_eq (pc := 47) (off := 57) (tgt := 104) C (by decide +kernel) (by decide) ?_ ?_
          · exact zs_goj (hJ11 ()) ⟨rfl, rfl, rfl, rfl, trivial⟩
          · refine zs_aload_n (pc := 50) (k := 0) (i := 0) C (by decide +kernel) rfl rfl ?_
            refine zs_iload_n (pc := 51) (k := 2) (i := 2) C (by decide +kernel) rfl rfl ?_
            refine zs_iload_n (pc := 52) (k := 3) (i := 3) C (by decide +kernel) rfl rfl ?_
            refine zs_sipush (pc := 53) (n := 625) (x := 625) C (by decide +kernel) (by decide +kernel) ?_
            refine zs_irem (pc := 56) C (by decide +kernel) (by decide +kernel) ?_
            refine zs_iload (pc := 57) (i := 4) C (by decide +kernel) rfl ?_
            refine zs_csRi (pc := 59) (As := [sI t8]) (st := [sI (Int.tmod t3 625), sI a1, sR 287]) C rfl (c_X12_turnsOf l g t8) ml_RX12_455 rfl rfl (Nat.le_of_ble_eq_true rfl) ⟨Nat.le_of_ble_eq_true rfl, Nat.le_of_ble_eq_true rfl⟩ ⟨Nat.le_of_ble_eq_true rfl, Nat.le_of_ble_eq_true rfl⟩ (by decide +kernel) (fun x13 => ?_)
            refine zs_cvRi (pc := 62) (As := [sI a1, sI (Int.tmod t3 625), sI x13]) (st := []) C rfl (c_X12_bothIn l g a1 (Int.tmod t3 625) x13) ml_RX12_458 rfl rfl rfl rfl (Nat.le_of_ble_eq_true rfl) ⟨Nat.le_of_ble_eq_true rfl, Nat.le_of_ble_eq_true rfl⟩ ⟨Nat.le_of_ble_eq_true rfl, Nat.le_of_ble_eq_true rfl⟩ (by decide +kernel) (fun x14 => ?_)
            refine zs_istore (pc := 65) (i := 5) (ls' := [(5, sI x14), (0, sR 287), (1, sI a0), (2, sI a1), (3, sI t3), (4, sI t8)]) C (by decide +kernel) (Nat.le_of_ble_eq_true rfl) rfl ?_
            refine zs_iload (pc := 67) (i := 5) C (by decide +kernel) rfl ?_
            refine zs_iconst (pc := 69) (n := (-1)) (x := (-1)) C (by decide +kernel) (by decide +kernel) ?_
            refine zs_jn (pJ := 98) (kJ := 0) (sJ := 0) (fun t15 => [(0, sR 287), (1, sI a0), (2, sI a1), (3, sI t3), (4, sI t8)]) (fun t15 => []) (fun t15 => ?_) (fun J16 hJ16 => ?_)
            · refine zs_iinc (pc := 98) (i := 4) (n := 1) (y := w32 (t8 + 1)) (ls' := [(4, sI (w32 (t8 + 1))), (0, sR 287), (1, sI a0), (2, sI a1), (3, sI t3)]) C (by decide +kernel) rfl rfl (Nat.le_of_ble_eq_true rfl) rfl ?_
              refine zs_goto (pc := 101) (off := (-67)) (tgt := 34) C (by decide +kernel) (by decide) ?_
              exact zs_goj (hK9 (w32 (t8 + 1))) ⟨rfl, rfl, rfl, rfl, rfl, trivial⟩
            · refine zs_icmp_eq (pc := 70) (off := 28) (tgt := 98) C (by decide +kernel) (by decide) ?_ ?_
              · exact zs_goj (hJ16 ()) ⟨rfl, rfl, rfl, rfl, rfl, trivial⟩
              · refine zs_aload_n (pc := 73) (k := 0) (i := 0) C (by decide +kernel) rfl rfl ?_
                refine zs_getR (o' := 306) (pc := 74) (i := 70) (ci := 12) (k := 34) C (by decide +kernel) fl_RX12_70 rfl rfl rfl ?_
                refine zs_sipush (pc := 77) (n := 625) (x := 625) C (by decide +kernel) (by decide +kernel) ?_
                refine zs_aload_n (pc := 80) (k := 0) (i := 0) C (by decide +kernel) rfl rfl ?_
                refine zs_iload_n (pc := 81) (k := 1) (i := 1) C (by decide +kernel) rfl rfl ?_
                refine zs_iload (pc := 82) (i := 5) C (by decide +kernel) rfl ?_
                refine zs_iload_n (pc := 84) (k := 3) (i := 3) C (by decide +kernel) rfl rfl ?_
                refine zs_sipush (pc := 85) (n := 625) (x := 625) C (by decide +kernel) (by decide +kernel) ?_
                refine zs_idiv (pc := 88) C (by decide +kernel) (by decide +kernel) ?_
                refine zs_cvRi (pc := 89) (As := [sI a0, sI x14, sI (Int.tdiv t3 625)]) (st := [sI 625, sR 306]) C rfl (c_X12_doneAt l g a0 x14 (Int.tdiv t3 625)) ml_RX12_513 rfl rfl rfl rfl (Nat.le_of_ble_eq_true rfl) ⟨Nat.le_of_ble_eq_true rfl, Nat.le_of_ble_eq_true rfl⟩ ⟨Nat.le_of_ble_eq_true rfl, Nat.le_of_ble_eq_true rfl⟩ (by decide +kernel) (fun x17 => ?_)
                refine zs_imul (pc := 92) C (by decide +kernel) ?_
                refine zs_iload (pc := 93) (i := 5) C (by decide +kernel) rfl ?_
                refine zs_iadd (pc := 95) C (by decide +kernel) ?_
                refine zs_iconst (pc := 96) (n := 1) (x := 1) C (by decide +kernel) (by decide +kernel) ?_
                refine zs_zast (pc := 97) (o := 306) (n := 10000) C (fun _ _ _ => rfl) (by decide +kernel) rfl ?_
                exact zs_goj (hJ16 ()) ⟨rfl, rfl, rfl, rfl, rfl, trivial⟩
  · refine zs_aload_n (pc := 9) (k := 0) (i := 0) C (by decide +kernel) rfl rfl ?_
    refine zs_getR (o' := 306) (pc := 10) (i := 70) (ci := 12) (k := 34) C (by decide +kernel) fl_RX12_70 rfl rfl rfl ?_
    refine zs_iload_n (pc := 13) (k := 3) (i := 3) C (by decide +kernel) rfl rfl ?_
    refine zs_iconst (pc := 14) (n := 0) (x := 0) C (by decide +kernel) (by decide +kernel) ?_
    refine zs_zast (pc := 15) (o := 306) (n := 10000) C (fun _ _ _ => rfl) (by decide +kernel) rfl ?_
    refine zs_iinc (pc := 16) (i := 3) (n := 1) (y := w32 (t1 + 1)) (ls' := [(3, sI (w32 (t1 + 1))), (0, sR 287), (1, sI a0), (2, sI a1)]) C (by decide +kernel) rfl rfl (Nat.le_of_ble_eq_true rfl) rfl ?_
    refine zs_goto (pc := 19) (off := (-17)) (tgt := 2) C (by decide +kernel) (by decide) ?_
    exact zs_goj (hK2 (w32 (t1 + 1))) ⟨rfl, rfl, rfl, rfl, trivial⟩
set_option maxRecDepth 20000 in
theorem c_X12_doneBy (l : Launch) (g : GC) (a0 : Int) (a1 : Int) (a2 : Int) : ConW l g yX12_doneBy cX12_doneBy 7 (some .int) (rmd 5 0 0) [sR 287, sI a0, sI a1, sI a2] (fun mm => fX12_doneBy a0 a1 a2 mm) := by
  refine zs_ofW (by decide +kernel) (Nat.le_of_ble_eq_true rfl) ?_
  intro p e s m args below meth c C hr
  replace C : Bd g RX12 cX12_doneBy 7 p s m args meth c := C
  unfold fX12_doneBy
  refine zs_iconst (pc := 0) (n := 1) (x := 1) C (by decide +kernel) (by decide +kernel) ?_
  refine zs_aload_n (pc := 1) (k := 0) (i := 0) C (by decide +kernel) rfl rfl ?_
  refine zs_getR (o' := 310) (pc := 2) (i := 82) (ci := 12) (k := 40) C (by decide +kernel) fl_RX12_82 rfl rfl rfl ?_
  refine zs_iload_n (pc := 5) (k := 2) (i := 2) C (by decide +kernel) rfl rfl ?_
  refine zs_iald (pc := 6) (o := 310) (n := 4) C (by decide +kernel) rfl (fun hinx1 x1 => ?_)
  refine zs_ishl (pc := 7) C (by decide +kernel) ?_
  refine zs_iconst (pc := 8) (n := 1) (x := 1) C (by decide +kernel) (by decide +kernel) ?_
  refine zs_isub (pc := 9) C (by decide +kernel) ?_
  refine zs_let (fun x2 => ?_)
  refine zs_istore (pc := 10) (i := 4) (ls' := [(4, sI x2), (0, sR 287), (1, sI a0), (2, sI a1), (3, sI a2)]) C (by decide +kernel) (Nat.le_of_ble_eq_true rfl) rfl ?_
  refine zs_iconst (pc := 12) (n := 0) (x := 0) C (by decide +kernel) (by decide +kernel) ?_
  refine zs_istore (pc := 13) (i := 5) (ls' := [(5, sI 0), (4, sI x2), (0, sR 287), (1, sI a0), (2, sI a1), (3, sI a2)]) C (by decide +kernel) (Nat.le_of_ble_eq_true rfl) rfl ?_
  refine zs_sub (ls' := [(0, sR 287), (1, sI a0), (2, sI a1), (3, sI a2), (4, sI x2), (5, sI 0)]) ⟨rfl, rfl, rfl, rfl, rfl, rfl, trivial⟩ ?_
  refine zs_lp (pc := 15) (fun (t3 : Int) => [(0, sR 287), (1, sI a0), (2, sI a1), (3, sI a2), (4, sI x2), (5, sI t3)]) (fun _ => []) (fun K4 hK4 t3 => ?_) BIG 0
  refine zs_iload (pc := 15) (i := 5) C (by decide +kernel) rfl ?_
  refine zs_sipush (pc := 17) (n := 10000) (x := 10000) C (by decide +kernel) (by decide +kernel) ?_
  refine zs_icmp_ge (pc := 20) (off := 17) (tgt := 37) C (by decide +kernel) (by decide) ?_ ?_
  · refine zs_aload_n (pc := 37) (k := 0) (i := 0) C (by decide +kernel) rfl rfl ?_
    refine zs_getR (o' := 305) (pc := 38) (i := 67) (ci := 12) (k := 33) C (by decide +kernel) fl_RX12_67 rfl rfl rfl ?_
    refine zs_sipush (pc := 41) (n := 625) (x := 625) C (by decide +kernel) (by decide +kernel) ?_
    refine zs_aload_n (pc := 44) (k := 0) (i := 0) C (by decide +kernel) rfl rfl ?_
    refine zs_iload_n (pc := 45) (k := 2) (i := 2) C (by decide +kernel) rfl rfl ?_
    refine zs_aload_n (pc := 46) (k := 0) (i := 0) C (by decide +kernel) rfl rfl ?_
    refine zs_iload_n (pc := 47) (k := 1) (i := 1) C (by decide +kernel) rfl rfl ?_
    refine zs_cvRi (pc := 48) (As := [sI a0]) (st := [sI a1, sR 287, sI 625, sR 305]) C rfl (c_X12_bothNow l g a0) ml_RX12_452 rfl rfl rfl rfl (Nat.le_of_ble_eq_true rfl) ⟨Nat.le_of_ble_eq_true rfl, Nat.le_of_ble_eq_true rfl⟩ ⟨Nat.le_of_ble_eq_true rfl, Nat.le_of_ble_eq_true rfl⟩ (by decide +kernel) (fun x5 => ?_)
    refine zs_iload_n (pc := 51) (k := 3) (i := 3) C (by decide +kernel) rfl rfl ?_
    refine zs_cvRi (pc := 52) (As := [sI a1, sI x5, sI a2]) (st := [sI 625, sR 305]) C rfl (c_X12_doneAt l g a1 x5 a2) ml_RX12_513 rfl rfl rfl rfl (Nat.le_of_ble_eq_true rfl) ⟨Nat.le_of_ble_eq_true rfl, Nat.le_of_ble_eq_true rfl⟩ ⟨Nat.le_of_ble_eq_true rfl, Nat.le_of_ble_eq_true rfl⟩ (by decide +kernel) (fun x6 => ?_)
    refine zs_imul (pc := 55) C (by decide +kernel) ?_
    refine zs_aload_n (pc := 56) (k := 0) (i := 0) C (by decide +kernel) rfl rfl ?_
    refine zs_iload_n (pc := 57) (k := 1) (i := 1) C (by decide +kernel) rfl rfl ?_
    refine zs_cvRi (pc := 58) (As := [sI a0]) (st := [sI (w32 (625 * x6)), sR 305]) C rfl (c_X12_bothNow l g a0) ml_RX12_452 rfl rfl rfl rfl (Nat.le_of_ble_eq_true rfl) ⟨Nat.le_of_ble_eq_true rfl, Nat.le_of_ble_eq_true rfl⟩ ⟨Nat.le_of_ble_eq_true rfl, Nat.le_of_ble_eq_true rfl⟩ (by decide +kernel) (fun x7 => ?_)
    refine zs_iadd (pc := 61) C (by decide +kernel) ?_
    refine zs_iconst (pc := 62) (n := 1) (x := 1) C (by decide +kernel) (by decide +kernel) ?_
    refine zs_zast (pc := 63) (o := 305) (n := 10000) C (fun _ _ _ => rfl) (by decide +kernel) rfl ?_
    refine zs_iconst (pc := 64) (n := 0) (x := 0) C (by decide +kernel) (by decide +kernel) ?_
    refine zs_istore (pc := 65) (i := 5) (ls' := [(5, sI 0), (0, sR 287), (1, sI a0), (2, sI a1), (3, sI a2), (4, sI x2)]) C (by decide +kernel) (Nat.le_of_ble_eq_true rfl) rfl ?_
    refine zs_sub (ls' := [(0, sR 287), (2, sI a1), (4, sI x2), (5, sI 0)]) ⟨rfl, rfl, rfl, rfl, trivial⟩ ?_
    refine zs_lp (pc := 67) (fun (t8 : Int) => [(0, sR 287), (2, sI a1), (4, sI x2), (5, sI t8)]) (fun _ => []) (fun K9 hK9 t8 => ?_) BIG 0
    refine zs_iload (pc := 67) (i := 5) C (by decide +kernel) rfl ?_
    refine zs_bipush (pc := 69) (n := 40) (x := 40) C (by decide +kernel) (by decide +kernel) ?_
    refine zs_icmp_gt (pc := 71) (off := 58) (tgt := 129) C (by decide +kernel) (by decide) ?_ ?_
    · refine zs_iconst (pc := 129) (n := (-1)) (x := (-1)) C (by decide +kernel) (by decide +kernel) ?_
      exact zs_retWi (pc := 130) C hr ⟨Nat.le_of_ble_eq_true rfl, Nat.le_of_ble_eq_true rfl⟩ (by decide +kernel)
    · refine zs_iload (pc := 74) (i := 5) C (by decide +kernel) rfl ?_
      refine zs_jn (pJ := 86) (kJ := 0) (sJ := 0) (fun t10 => [(0, sR 287), (2, sI a1), (4, sI x2), (5, sI t8)]) (fun t10 => []) (fun t10 => ?_) (fun J11 hJ11 => ?_)
      · refine zs_iconst (pc := 86) (n := 0) (x := 0) C (by decide +kernel) (by decide +kernel) ?_
        refine zs_istore (pc := 87) (i := 6) (ls' := [(6, sI 0), (0, sR 287), (2, sI a1), (4, sI x2), (5, sI t8)]) C (by decide +kernel) (Nat.le_of_ble_eq_true rfl) rfl ?_
        refine zs_sub (ls' := [(0, sR 287), (2, sI a1), (4, sI x2), (5, sI t8), (6, sI 0)]) ⟨rfl, rfl, rfl, rfl, rfl, trivial⟩ ?_
        refine zs_lp (pc := 89) (fun (t12 : Int) => [(0, sR 287), (2, sI a1), (4, sI x2), (5, sI t8), (6, sI t12)]) (fun _ => []) (fun K13 hK13 t12 => ?_) BIG 0
        refine zs_iload (pc := 89) (i := 6) C (by decide +kernel) rfl ?_
        refine zs_sipush (pc := 91) (n := 625) (x := 625) C (by decide +kernel) (by decide +kernel) ?_
        refine zs_icmp_ge (pc := 94) (off := 29) (tgt := 123) C (by decide +kernel) (by decide) ?_ ?_
        · refine zs_iinc (pc := 123) (i := 5) (n := 1) (y := w32 (t8 + 1)) (ls' := [(5, sI (w32 (t8 + 1))), (0, sR 287), (2, sI a1), (4, sI x2), (6, sI t12)]) C (by decide +kernel) rfl rfl (Nat.le_of_ble_eq_true rfl) rfl ?_
          refine zs_goto (pc := 126) (off := (-59)) (tgt := 67) C (by decide +kernel) (by decide) ?_
          exact zs_goj (hK9 (w32 (t8 + 1))) ⟨rfl, rfl, rfl, rfl, trivial⟩
        · refine zs_aload_n (pc := 97) (k := 0) (i := 0) C (by decide +kernel) rfl rfl ?_
          refine zs_getR (o' := 305) (pc := 98) (i := 67) (ci := 12) (k := 33) C (by decide +kernel) fl_RX12_67 rfl rfl rfl ?_
          refine zs_sipush (pc := 101) (n := 625) (x := 625) C (by decide +kernel) (by decide +kernel) ?_
          refine zs_iload (pc := 104) (i := 4) C (by decide +kernel) rfl ?_
          refine zs_imul (pc := 106) C (by decide +kernel) ?_
          refine zs_iload (pc := 107) (i := 6) C (by decide +kernel) rfl ?_
          refine zs_iadd (pc := 109) C (by decide +kernel) ?_
          refine zs_zald (pc := 110) (o := 305) (n := 10000) C (by decide +kernel) rfl (fun hinx14 x14 => ?_)
          refine zs_if_eq (pc := 111) (off := 6) (tgt := 117) C (by decide +kernel) (by decide) ?_ ?_
          · refine zs_iinc (pc := 117) (i := 6) (n := 1) (y := w32 (t12 + 1)) (ls' := [(6, sI (w32 (t12 + 1))), (0, sR 287), (2, sI a1), (4, sI x2), (5, sI t8)]) C (by decide +kernel) rfl rfl (Nat.le_of_ble_eq_true rfl) rfl ?_
            refine zs_goto (pc := 120) (off := (-31)) (tgt := 89) C (by decide +kernel) (by decide) ?_
            exact zs_goj (hK13 (w32 (t12 + 1))) ⟨rfl, rfl, rfl, rfl, rfl, trivial⟩
          · refine zs_iload (pc := 114) (i := 5) C (by decide +kernel) rfl ?_
            exact zs_retWi (pc := 116) C hr ⟨Nat.le_of_ble_eq_true rfl, Nat.le_of_ble_eq_true rfl⟩ (by decide +kernel)
      · refine zs_if_le (pc := 76) (off := 10) (tgt := 86) C (by decide +kernel) (by decide) ?_ ?_
        · exact zs_goj (hJ11 ()) ⟨rfl, rfl, rfl, rfl, trivial⟩
        · refine zs_aload_n (pc := 79) (k := 0) (i := 0) C (by decide +kernel) rfl rfl ?_
          refine zs_iload_n (pc := 80) (k := 2) (i := 2) C (by decide +kernel) rfl rfl ?_
          refine zs_iload (pc := 81) (i := 5) C (by decide +kernel) rfl ?_
          refine zs_cvVv (pc := 83) (As := [sI a1, sI t8]) (st := []) C (fun _ _ _ => rfl) (c_X12_goesErrands l g a1 t8) ml_RX12_516 rfl rfl rfl rfl (Nat.le_of_ble_eq_true rfl) ⟨Nat.le_of_ble_eq_true rfl, Nat.le_of_ble_eq_true rfl⟩ ⟨Nat.le_of_ble_eq_true rfl, Nat.le_of_ble_eq_true rfl⟩ (by decide +kernel) ?_
          exact zs_goj (hJ11 ()) ⟨rfl, rfl, rfl, rfl, trivial⟩
  · refine zs_aload_n (pc := 23) (k := 0) (i := 0) C (by decide +kernel) rfl rfl ?_
    refine zs_getR (o' := 305) (pc := 24) (i := 67) (ci := 12) (k := 33) C (by decide +kernel) fl_RX12_67 rfl rfl rfl ?_
    refine zs_iload (pc := 27) (i := 5) C (by decide +kernel) rfl ?_
    refine zs_iconst (pc := 29) (n := 0) (x := 0) C (by decide +kernel) (by decide +kernel) ?_
    refine zs_zast (pc := 30) (o := 305) (n := 10000) C (fun _ _ _ => rfl) (by decide +kernel) rfl ?_
    refine zs_iinc (pc := 31) (i := 5) (n := 1) (y := w32 (t3 + 1)) (ls' := [(5, sI (w32 (t3 + 1))), (0, sR 287), (1, sI a0), (2, sI a1), (3, sI a2), (4, sI x2)]) C (by decide +kernel) rfl rfl (Nat.le_of_ble_eq_true rfl) rfl ?_
    refine zs_goto (pc := 34) (off := (-19)) (tgt := 15) C (by decide +kernel) (by decide) ?_
    exact zs_goj (hK4 (w32 (t3 + 1))) ⟨rfl, rfl, rfl, rfl, rfl, rfl, trivial⟩
set_option maxRecDepth 20000 in
theorem c_X12_errands (l : Launch) (g : GC) (a0 : Int) (a1 : Int) : ConW l g yX12_errands cX12_errands 3 (some .int) (rmd 7 0 0) [sR 287, sI a0, sI a1] (fun mm => fX12_errands a0 a1 mm) := by
  refine zs_ofW (by decide +kernel) (Nat.le_of_ble_eq_true rfl) ?_
  intro p e s m args below meth c C hr
  replace C : Bd g RX12 cX12_errands 3 p s m args meth c := C
  unfold fX12_errands
  refine zs_aload_n (pc := 0) (k := 0) (i := 0) C (by decide +kernel) rfl rfl ?_
  refine zs_aload_n (pc := 1) (k := 0) (i := 0) C (by decide +kernel) rfl rfl ?_
  refine zs_iload_n (pc := 2) (k := 1) (i := 1) C (by decide +kernel) rfl rfl ?_
  refine zs_i2l (pc := 3) C (by decide +kernel) ?_
  refine zs_cvRi (pc := 4) (As := [sL a0]) (st := [sR 287]) C rfl (c_X12_isPair l g a0) ml_RX12_338 rfl rfl rfl rfl (Nat.le_of_ble_eq_true rfl) ⟨Nat.le_of_ble_eq_true rfl, Nat.le_of_ble_eq_true rfl⟩ ⟨Nat.le_of_ble_eq_true rfl, Nat.le_of_ble_eq_true rfl⟩ (by decide +kernel) (fun x1 => ?_)
  refine zs_jn (pJ := 19) (kJ := 0) (sJ := 0) (fun t2 => [(0, sR 287), (1, sI a0), (2, sI a1)]) (fun t2 => [sI t2, sR 287]) (fun t2 => ?_) (fun J3 hJ3 => ?_)
  · refine zs_putI (pc := 19) (i := 88) (ci := 12) (k := 4) C (fun _ _ _ => rfl) (by decide +kernel) fl_RX12_88 fw_12_4 rfl rfl ?_
    refine zs_aload_n (pc := 22) (k := 0) (i := 0) C (by decide +kernel) rfl rfl ?_
    refine zs_getI (pc := 23) (i := 88) (ci := 12) (k := 4) C (by decide +kernel) fl_RX12_88 rfl rfl (fun x4 => ?_)
    refine zs_if_le (pc := 26) (off := 5) (tgt := 31) C (by decide +kernel) (by decide) ?_ ?_
    · refine zs_aload_n (pc := 31) (k := 0) (i := 0) C (by decide +kernel) rfl rfl ?_
      refine zs_iload_n (pc := 32) (k := 1) (i := 1) C (by decide +kernel) rfl rfl ?_
      refine zs_cvVv (pc := 33) (As := [sI a0]) (st := []) C (fun _ _ _ => rfl) (c_X12_laysOwn l g a0) ml_RX12_461 rfl rfl rfl rfl (Nat.le_of_ble_eq_true rfl) ⟨Nat.le_of_ble_eq_true rfl, Nat.le_of_ble_eq_true rfl⟩ ⟨Nat.le_of_ble_eq_true rfl, Nat.le_of_ble_eq_true rfl⟩ (by decide +kernel) ?_
      refine zs_aload_n (pc := 36) (k := 0) (i := 0) C (by decide +kernel) rfl rfl ?_
      refine zs_iload_n (pc := 37) (k := 1) (i := 1) C (by decide +kernel) rfl rfl ?_
      refine zs_iload_n (pc := 38) (k := 2) (i := 2) C (by decide +kernel) rfl rfl ?_
      refine zs_iconst (pc := 39) (n := 0) (x := 0) C (by decide +kernel) (by decide +kernel) ?_
      refine zs_cvWi (pc := 40) (As := [sI a0, sI a1, sI 0]) (st := []) C (fun _ _ _ => rfl) rfl (c_X12_doneBy l g a0 a1 0) ml_RX12_522 rfl rfl rfl rfl (Nat.le_of_ble_eq_true rfl) ⟨Nat.le_of_ble_eq_true rfl, Nat.le_of_ble_eq_true rfl⟩ ⟨Nat.le_of_ble_eq_true rfl, Nat.le_of_ble_eq_true rfl⟩ (by decide +kernel) (fun x5 => ?_)
      exact zs_retWi (pc := 43) C hr ⟨Nat.le_of_ble_eq_true rfl, Nat.le_of_ble_eq_true rfl⟩ (by decide +kernel)
    · refine zs_iconst (pc := 29) (n := 0) (x := 0) C (by decide +kernel) (by decide +kernel) ?_
      exact zs_retWi (pc := 30) C hr ⟨Nat.le_of_ble_eq_true rfl, Nat.le_of_ble_eq_true rfl⟩ (by decide +kernel)
  · refine zs_if_eq (pc := 7) (off := 11) (tgt := 18) C (by decide +kernel) (by decide) ?_ ?_
    · refine zs_iconst (pc := 18) (n := 1) (x := 1) C (by decide +kernel) (by decide +kernel) ?_
      exact zs_goj (hJ3 1) ⟨rfl, rfl, rfl, trivial⟩
    · refine zs_aload_n (pc := 10) (k := 0) (i := 0) C (by decide +kernel) rfl rfl ?_
      refine zs_iload_n (pc := 11) (k := 2) (i := 2) C (by decide +kernel) rfl rfl ?_
      refine zs_cvRi (pc := 12) (As := [sI a1]) (st := [sR 287]) C rfl (c_X12_errandsFault l g a1) ml_RX12_519 rfl rfl rfl rfl (Nat.le_of_ble_eq_true rfl) ⟨Nat.le_of_ble_eq_true rfl, Nat.le_of_ble_eq_true rfl⟩ ⟨Nat.le_of_ble_eq_true rfl, Nat.le_of_ble_eq_true rfl⟩ (by decide +kernel) (fun x6 => ?_)
      refine zs_goto (pc := 15) (off := 4) (tgt := 19) C (by decide +kernel) (by decide) ?_
      exact zs_goj (hJ3 x6) ⟨rfl, rfl, rfl, trivial⟩
set_option maxRecDepth 20000 in
theorem c_X12_dropped (l : Launch) (g : GC) (a0 : Int) (a1 : Int) : ConW l g yX12_dropped cX12_dropped 7 (some .int) (rmd 7 0 0) [sR 287, sI a0, sI a1] (fun mm => fX12_dropped a0 a1 mm) := by
  refine zs_ofW (by decide +kernel) (Nat.le_of_ble_eq_true rfl) ?_
  intro p e s m args below meth c C hr
  replace C : Bd g RX12 cX12_dropped 7 p s m args meth c := C
  unfold fX12_dropped
  refine zs_aload_n (pc := 0) (k := 0) (i := 0) C (by decide +kernel) rfl rfl ?_
  refine zs_aload_n (pc := 1) (k := 0) (i := 0) C (by decide +kernel) rfl rfl ?_
  refine zs_iload_n (pc := 2) (k := 1) (i := 1) C (by decide +kernel) rfl rfl ?_
  refine zs_i2l (pc := 3) C (by decide +kernel) ?_
  refine zs_cvRi (pc := 4) (As := [sL a0]) (st := [sR 287]) C rfl (c_X12_isPair l g a0) ml_RX12_338 rfl rfl rfl rfl (Nat.le_of_ble_eq_true rfl) ⟨Nat.le_of_ble_eq_true rfl, Nat.le_of_ble_eq_true rfl⟩ ⟨Nat.le_of_ble_eq_true rfl, Nat.le_of_ble_eq_true rfl⟩ (by decide +kernel) (fun x1 => ?_)
  refine zs_jn (pJ := 19) (kJ := 0) (sJ := 0) (fun t2 => [(0, sR 287), (1, sI a0), (2, sI a1)]) (fun t2 => [sI t2, sR 287]) (fun t2 => ?_) (fun J3 hJ3 => ?_)
  · refine zs_putI (pc := 19) (i := 88) (ci := 12) (k := 4) C (fun _ _ _ => rfl) (by decide +kernel) fl_RX12_88 fw_12_4 rfl rfl ?_
    refine zs_aload_n (pc := 22) (k := 0) (i := 0) C (by decide +kernel) rfl rfl ?_
    refine zs_getI (pc := 23) (i := 88) (ci := 12) (k := 4) C (by decide +kernel) fl_RX12_88 rfl rfl (fun x4 => ?_)
    refine zs_if_le (pc := 26) (off := 5) (tgt := 31) C (by decide +kernel) (by decide) ?_ ?_
    · refine zs_aload_n (pc := 31) (k := 0) (i := 0) C (by decide +kernel) rfl rfl ?_
      refine zs_iload_n (pc := 32) (k := 1) (i := 1) C (by decide +kernel) rfl rfl ?_
      refine zs_cvVv (pc := 33) (As := [sI a0]) (st := []) C (fun _ _ _ => rfl) (c_X12_laysOwn l g a0) ml_RX12_461 rfl rfl rfl rfl (Nat.le_of_ble_eq_true rfl) ⟨Nat.le_of_ble_eq_true rfl, Nat.le_of_ble_eq_true rfl⟩ ⟨Nat.le_of_ble_eq_true rfl, Nat.le_of_ble_eq_true rfl⟩ (by decide +kernel) ?_
      refine zs_iconst (pc := 36) (n := (-1)) (x := (-1)) C (by decide +kernel) (by decide +kernel) ?_
      refine zs_istore_n (pc := 37) (k := 3) (i := 3) (ls' := [(3, sI ((-1))), (0, sR 287), (1, sI a0), (2, sI a1)]) C (by decide +kernel) rfl (Nat.le_of_ble_eq_true rfl) rfl ?_
      refine zs_ldcw (pc := 38) (i := 441) (v := 536870912) (x := 536870912) C (by decide +kernel) wf_2282 (by decide +kernel) ?_
      refine zs_istore (pc := 41) (i := 4) (ls' := [(4, sI 536870912), (3, sI ((-1))), (0, sR 287), (1, sI a0), (2, sI a1)]) C (by decide +kernel) (Nat.le_of_ble_eq_true rfl) rfl ?_
      refine zs_iconst (pc := 43) (n := 0) (x := 0) C (by decide +kernel) (by decide +kernel) ?_
      refine zs_istore (pc := 44) (i := 5) (ls' := [(5, sI 0), (4, sI 536870912), (3, sI ((-1))), (0, sR 287), (1, sI a0), (2, sI a1)]) C (by decide +kernel) (Nat.le_of_ble_eq_true rfl) rfl ?_
      refine zs_sub (ls' := [(0, sR 287), (1, sI a0), (2, sI a1), (3, sI ((-1))), (4, sI 536870912), (5, sI 0)]) ⟨rfl, rfl, rfl, rfl, rfl, rfl, trivial⟩ ?_
      refine zs_lp (pc := 46) (fun (t5 : Int × Int × Int) => [(0, sR 287), (1, sI a0), (2, sI a1), (3, sI t5.1), (4, sI t5.2.1), (5, sI t5.2.2)]) (fun _ => []) (fun K6 hK6 t5 => ?_) BIG ((-1), 536870912, 0)
      refine zs_iload (pc := 46) (i := 5) C (by decide +kernel) rfl ?_
      refine zs_aload_n (pc := 48) (k := 0) (i := 0) C (by decide +kernel) rfl rfl ?_
      refine zs_getR (o' := 310) (pc := 49) (i := 82) (ci := 12) (k := 40) C (by decide +kernel) fl_RX12_82 rfl rfl rfl ?_
      refine zs_iload_n (pc := 52) (k := 2) (i := 2) C (by decide +kernel) rfl rfl ?_
      refine zs_iald (pc := 53) (o := 310) (n := 4) C (by decide +kernel) rfl (fun hinx7 x7 => ?_)
      refine zs_icmp_ge (pc := 54) (off := 44) (tgt := 98) C (by decide +kernel) (by decide) ?_ ?_
      · refine zs_iload_n (pc := 98) (k := 3) (i := 3) C (by decide +kernel) rfl rfl ?_
        exact zs_retWi (pc := 99) C hr ⟨Nat.le_of_ble_eq_true rfl, Nat.le_of_ble_eq_true rfl⟩ (by decide +kernel)
      · refine zs_aload_n (pc := 57) (k := 0) (i := 0) C (by decide +kernel) rfl rfl ?_
        refine zs_iload_n (pc := 58) (k := 1) (i := 1) C (by decide +kernel) rfl rfl ?_
        refine zs_iload_n (pc := 59) (k := 2) (i := 2) C (by decide +kernel) rfl rfl ?_
        refine zs_iconst (pc := 60) (n := 1) (x := 1) C (by decide +kernel) (by decide +kernel) ?_
        refine zs_iload (pc := 61) (i := 5) C (by decide +kernel) rfl ?_
        refine zs_ishl (pc := 63) C (by decide +kernel) ?_
        refine zs_cvWi (pc := 64) (As := [sI a0, sI a1, sI (ishl 1 t5.2.2)]) (st := []) C (fun _ _ _ => rfl) rfl (c_X12_doneBy l g a0 a1 (ishl 1 t5.2.2)) ml_RX12_522 rfl rfl rfl rfl (Nat.le_of_ble_eq_true rfl) ⟨Nat.le_of_ble_eq_true rfl, Nat.le_of_ble_eq_true rfl⟩ ⟨Nat.le_of_ble_eq_true rfl, Nat.le_of_ble_eq_true rfl⟩ (by decide +kernel) (fun x8 => ?_)
        refine zs_istore (pc := 67) (i := 6) (ls' := [(6, sI x8), (0, sR 287), (1, sI a0), (2, sI a1), (3, sI t5.1), (4, sI t5.2.1), (5, sI t5.2.2)]) C (by decide +kernel) (Nat.le_of_ble_eq_true rfl) rfl ?_
        refine zs_iload (pc := 69) (i := 6) C (by decide +kernel) rfl ?_
        refine zs_iconst (pc := 71) (n := (-1)) (x := (-1)) C (by decide +kernel) (by decide +kernel) ?_
        refine zs_jn (pJ := 92) (kJ := 0) (sJ := 0) (fun t9 => [(0, sR 287), (1, sI a0), (2, sI a1), (3, sI t9.1), (4, sI t9.2), (5, sI t5.2.2)]) (fun t9 => []) (fun t9 => ?_) (fun J10 hJ10 => ?_)
        · refine zs_iinc (pc := 92) (i := 5) (n := 1) (y := w32 (t5.2.2 + 1)) (ls' := [(5, sI (w32 (t5.2.2 + 1))), (0, sR 287), (1, sI a0), (2, sI a1), (3, sI t9.1), (4, sI t9.2)]) C (by decide +kernel) rfl rfl (Nat.le_of_ble_eq_true rfl) rfl ?_
          refine zs_goto (pc := 95) (off := (-49)) (tgt := 46) C (by decide +kernel) (by decide) ?_
          exact zs_goj (hK6 (t9.1, t9.2, w32 (t5.2.2 + 1))) ⟨rfl, rfl, rfl, rfl, rfl, rfl, trivial⟩
        · refine zs_icmp_eq (pc := 72) (off := 20) (tgt := 92) C (by decide +kernel) (by decide) ?_ ?_
          · exact zs_goj (hJ10 (t5.1, t5.2.1)) ⟨rfl, rfl, rfl, rfl, rfl, rfl, trivial⟩
          · refine zs_iload (pc := 75) (i := 6) C (by decide +kernel) rfl ?_
            refine zs_iload (pc := 77) (i := 4) C (by decide +kernel) rfl ?_
            refine zs_icmp_lt (pc := 79) (off := 6) (tgt := 85) C (by decide +kernel) (by decide) ?_ ?_
            · refine zs_iload (pc := 85) (i := 5) C (by decide +kernel) rfl ?_
              refine zs_istore_n (pc := 87) (k := 3) (i := 3) (ls' := [(3, sI t5.2.2), (6, sI x8), (0, sR 287), (1, sI a0), (2, sI a1), (4, sI t5.2.1), (5, sI t5.2.2)]) C (by decide +kernel) rfl (Nat.le_of_ble_eq_true rfl) rfl ?_
              refine zs_iload (pc := 88) (i := 6) C (by decide +kernel) rfl ?_
              refine zs_istore (pc := 90) (i := 4) (ls' := [(4, sI x8), (3, sI t5.2.2), (6, sI x8), (0, sR 287), (1, sI a0), (2, sI a1), (5, sI t5.2.2)]) C (by decide +kernel) (Nat.le_of_ble_eq_true rfl) rfl ?_
              exact zs_goj (hJ10 (t5.2.2, x8)) ⟨rfl, rfl, rfl, rfl, rfl, rfl, trivial⟩
            · refine zs_goto (pc := 82) (off := 10) (tgt := 92) C (by decide +kernel) (by decide) ?_
              exact zs_goj (hJ10 (t5.1, t5.2.1)) ⟨rfl, rfl, rfl, rfl, rfl, rfl, trivial⟩
    · refine zs_iconst (pc := 29) (n := 0) (x := 0) C (by decide +kernel) (by decide +kernel) ?_
      exact zs_retWi (pc := 30) C hr ⟨Nat.le_of_ble_eq_true rfl, Nat.le_of_ble_eq_true rfl⟩ (by decide +kernel)
  · refine zs_if_eq (pc := 7) (off := 11) (tgt := 18) C (by decide +kernel) (by decide) ?_ ?_
    · refine zs_iconst (pc := 18) (n := 1) (x := 1) C (by decide +kernel) (by decide +kernel) ?_
      exact zs_goj (hJ3 1) ⟨rfl, rfl, rfl, trivial⟩
    · refine zs_aload_n (pc := 10) (k := 0) (i := 0) C (by decide +kernel) rfl rfl ?_
      refine zs_iload_n (pc := 11) (k := 2) (i := 2) C (by decide +kernel) rfl rfl ?_
      refine zs_cvRi (pc := 12) (As := [sI a1]) (st := [sR 287]) C rfl (c_X12_errandsFault l g a1) ml_RX12_519 rfl rfl rfl rfl (Nat.le_of_ble_eq_true rfl) ⟨Nat.le_of_ble_eq_true rfl, Nat.le_of_ble_eq_true rfl⟩ ⟨Nat.le_of_ble_eq_true rfl, Nat.le_of_ble_eq_true rfl⟩ (by decide +kernel) (fun x11 => ?_)
      refine zs_goto (pc := 15) (off := 4) (tgt := 19) C (by decide +kernel) (by decide) ?_
      exact zs_goj (hJ3 x11) ⟨rfl, rfl, rfl, trivial⟩
set_option maxRecDepth 20000 in
theorem c_X12_people (l : Launch) (g : GC)  : ConR l g yX12_people cX12_people 1 (some .int) (rmd 1 0 0) [sR 287] (fun mm => fX12_people  mm) := by
  refine zs_ofR (by decide +kernel) (Nat.le_of_ble_eq_true rfl) ?_
  intro p e s m args below meth c C hr
  replace C : Bd g RX12 cX12_people 1 p s m args meth c := C
  unfold fX12_people
  refine zs_iconst (pc := 0) (n := 2) (x := 2) C (by decide +kernel) (by decide +kernel) ?_
  refine zs_aload_n (pc := 1) (k := 0) (i := 0) C (by decide +kernel) rfl rfl ?_
  refine zs_getR (o' := 288) (pc := 2) (i := 9) (ci := 12) (k := 0) C (by decide +kernel) fl_RX12_9 rfl rfl rfl ?_
  refine zs_iconst (pc := 5) (n := 3) (x := 3) C (by decide +kernel) (by decide +kernel) ?_
  refine zs_ialdk (pc := 6) (o := 288) (n := 2005) C (by decide) (by decide +kernel) rfl (fun x1 => ?_)
  refine zs_imul (pc := 7) C (by decide +kernel) ?_
  exact zs_retRi (pc := 8) C hr ⟨Nat.le_of_ble_eq_true rfl, Nat.le_of_ble_eq_true rfl⟩ (by decide +kernel)
set_option maxRecDepth 20000 in
theorem c_X12_whereIs (l : Launch) (g : GC) (a0 : Int) : ConR l g yX12_whereIs cX12_whereIs 2 (some .int) (rmd 1 0 0) [sR 287, sI a0] (fun mm => fX12_whereIs a0 mm) := by
  refine zs_ofR (by decide +kernel) (Nat.le_of_ble_eq_true rfl) ?_
  intro p e s m args below meth c C hr
  replace C : Bd g RX12 cX12_whereIs 2 p s m args meth c := C
  unfold fX12_whereIs
  refine zs_aload_n (pc := 0) (k := 0) (i := 0) C (by decide +kernel) rfl rfl ?_
  refine zs_getR (o' := 288) (pc := 1) (i := 9) (ci := 12) (k := 0) C (by decide +kernel) fl_RX12_9 rfl rfl rfl ?_
  refine zs_iload_n (pc := 4) (k := 1) (i := 1) C (by decide +kernel) rfl rfl ?_
  refine zs_iconst (pc := 5) (n := 2) (x := 2) C (by decide +kernel) (by decide +kernel) ?_
  refine zs_irem (pc := 6) C (by decide +kernel) (by decide +kernel) ?_
  refine zs_jn (pJ := 17) (kJ := 0) (sJ := 0) (fun t1 => [(1, sI a0)]) (fun t1 => [sI t1, sR 288]) (fun t1 => ?_) (fun J2 hJ2 => ?_)
  · refine zs_iload_n (pc := 17) (k := 1) (i := 1) C (by decide +kernel) rfl rfl ?_
    refine zs_iconst (pc := 18) (n := 2) (x := 2) C (by decide +kernel) (by decide +kernel) ?_
    refine zs_idiv (pc := 19) C (by decide +kernel) (by decide +kernel) ?_
    refine zs_iadd (pc := 20) C (by decide +kernel) ?_
    refine zs_iald (pc := 21) (o := 288) (n := 2005) C (by decide +kernel) rfl (fun hinx3 x3 => ?_)
    exact zs_retRi (pc := 22) C hr ⟨Nat.le_of_ble_eq_true rfl, Nat.le_of_ble_eq_true rfl⟩ (by decide +kernel)
  · refine zs_if_ne (pc := 7) (off := 8) (tgt := 15) C (by decide +kernel) (by decide) ?_ ?_
    · refine zs_bipush (pc := 15) (n := 17) (x := 17) C (by decide +kernel) (by decide +kernel) ?_
      exact zs_goj (hJ2 17) ⟨rfl, trivial⟩
    · refine zs_bipush (pc := 10) (n := 13) (x := 13) C (by decide +kernel) (by decide +kernel) ?_
      refine zs_goto (pc := 12) (off := 5) (tgt := 17) C (by decide +kernel) (by decide) ?_
      exact zs_goj (hJ2 13) ⟨rfl, trivial⟩
set_option maxRecDepth 20000 in
theorem c_X12_mayHave (l : Launch) (g : GC) (a0 : Int) (a1 : Int) : ConW l g yX12_mayHave cX12_mayHave 4 (some .boolean) (rmd 6 0 0) [sR 287, sI a0, sI a1] (fun mm => fX12_mayHave a0 a1 mm) := by
  refine zs_ofW (by decide +kernel) (Nat.le_of_ble_eq_true rfl) ?_
  intro p e s m args below meth c C hr
  replace C : Bd g RX12 cX12_mayHave 4 p s m args meth c := C
  unfold fX12_mayHave
  refine zs_iload_n (pc := 0) (k := 1) (i := 1) C (by decide +kernel) rfl rfl ?_
  refine zs_iconst (pc := 1) (n := 2) (x := 2) C (by decide +kernel) (by decide +kernel) ?_
  refine zs_idiv (pc := 2) C (by decide +kernel) (by decide +kernel) ?_
  refine zs_let (fun x1 => ?_)
  refine zs_istore_n (pc := 3) (k := 3) (i := 3) (ls' := [(3, sI x1), (0, sR 287), (1, sI a0), (2, sI a1)]) C (by decide +kernel) rfl (Nat.le_of_ble_eq_true rfl) rfl ?_
  refine zs_iload_n (pc := 4) (k := 1) (i := 1) C (by decide +kernel) rfl rfl ?_
  refine zs_iconst (pc := 5) (n := 2) (x := 2) C (by decide +kernel) (by decide +kernel) ?_
  refine zs_irem (pc := 6) C (by decide +kernel) (by decide +kernel) ?_
  refine zs_jn (pJ := 60) (kJ := 0) (sJ := 0) (fun t2 => []) (fun t2 => [sI t2]) (fun t2 => ?_) (fun J3 hJ3 => ?_)
  · refine zs_chk (fun _ hx => ?_)
    exact zs_retWz (pc := 60) C hx hr ⟨Nat.le_of_ble_eq_true rfl, Nat.le_of_ble_eq_true rfl⟩ (by decide +kernel)
  · refine zs_jn (pJ := 55) (kJ := 0) (sJ := 0) (fun t4 => []) (fun t4 => []) (fun t4 => ?_) (fun J5 hJ5 => ?_)
    · refine zs_iconst (pc := 55) (n := 1) (x := 1) C (by decide +kernel) (by decide +kernel) ?_
      refine zs_goto (pc := 56) (off := 4) (tgt := 60) C (by decide +kernel) (by decide) ?_
      exact zs_goj (hJ3 1) trivial
    · refine zs_if_eq (pc := 7) (off := 48) (tgt := 55) C (by decide +kernel) (by decide) ?_ ?_
      · exact zs_goj (hJ5 ()) trivial
      · refine zs_aload_n (pc := 10) (k := 0) (i := 0) C (by decide +kernel) rfl rfl ?_
        refine zs_iload_n (pc := 11) (k := 3) (i := 3) C (by decide +kernel) rfl rfl ?_
        refine zs_cvRi (pc := 12) (As := [sI x1]) (st := []) C rfl (c_X12_isParted l g x1) ml_RX12_349 rfl rfl rfl rfl (Nat.le_of_ble_eq_true rfl) ⟨Nat.le_of_ble_eq_true rfl, Nat.le_of_ble_eq_true rfl⟩ ⟨Nat.le_of_ble_eq_true rfl, Nat.le_of_ble_eq_true rfl⟩ (by decide +kernel) (fun x6 => ?_)
        refine zs_if_ne (pc := 15) (off := 40) (tgt := 55) C (by decide +kernel) (by decide) ?_ ?_
        · exact zs_goj (hJ5 ()) trivial
        · refine zs_aload_n (pc := 18) (k := 0) (i := 0) C (by decide +kernel) rfl rfl ?_
          refine zs_aload_n (pc := 19) (k := 0) (i := 0) C (by decide +kernel) rfl rfl ?_
          refine zs_getR (o' := 288) (pc := 20) (i := 9) (ci := 12) (k := 0) C (by decide +kernel) fl_RX12_9 rfl rfl rfl ?_
          refine zs_bipush (pc := 23) (n := 29) (x := 29) C (by decide +kernel) (by decide +kernel) ?_
          refine zs_aload_n (pc := 25) (k := 0) (i := 0) C (by decide +kernel) rfl rfl ?_
          refine zs_getR (o' := 307) (pc := 26) (i := 73) (ci := 12) (k := 35) C (by decide +kernel) fl_RX12_73 rfl rfl rfl ?_
          refine zs_iload_n (pc := 29) (k := 1) (i := 1) C (by decide +kernel) rfl rfl ?_
          refine zs_iconst (pc := 30) (n := 1) (x := 1) C (by decide +kernel) (by decide +kernel) ?_
          refine zs_isub (pc := 31) C (by decide +kernel) ?_
          refine zs_iald (pc := 32) (o := 307) (n := 8) C (by decide +kernel) rfl (fun hinx7 x7 => ?_)
          refine zs_iadd (pc := 33) C (by decide +kernel) ?_
          refine zs_iald (pc := 34) (o := 288) (n := 2005) C (by decide +kernel) rfl (fun hinx8 x8 => ?_)
          refine zs_aload_n (pc := 35) (k := 0) (i := 0) C (by decide +kernel) rfl rfl ?_
          refine zs_getR (o' := 288) (pc := 36) (i := 9) (ci := 12) (k := 0) C (by decide +kernel) fl_RX12_9 rfl rfl rfl ?_
          refine zs_bipush (pc := 39) (n := 29) (x := 29) C (by decide +kernel) (by decide +kernel) ?_
          refine zs_iload_n (pc := 41) (k := 2) (i := 2) C (by decide +kernel) rfl rfl ?_
          refine zs_iadd (pc := 42) C (by decide +kernel) ?_
          refine zs_iald (pc := 43) (o := 288) (n := 2005) C (by decide +kernel) rfl (fun hinx9 x9 => ?_)
          refine zs_cvRi (pc := 44) (As := [sI x8, sI x9]) (st := []) C rfl (c_X12_apart l g x8 x9) ml_RX12_298 rfl rfl rfl rfl (Nat.le_of_ble_eq_true rfl) ⟨Nat.le_of_ble_eq_true rfl, Nat.le_of_ble_eq_true rfl⟩ ⟨Nat.le_of_ble_eq_true rfl, Nat.le_of_ble_eq_true rfl⟩ (by decide +kernel) (fun x10 => ?_)
          refine zs_aload_n (pc := 47) (k := 0) (i := 0) C (by decide +kernel) rfl rfl ?_
          refine zs_iload_n (pc := 48) (k := 3) (i := 3) C (by decide +kernel) rfl rfl ?_
          refine zs_cvWi (pc := 49) (As := [sI x1]) (st := [sI x10]) C (fun _ _ _ => rfl) rfl (c_X12_lengthNow l g x1) ml_RX12_346 rfl rfl rfl rfl (Nat.le_of_ble_eq_true rfl) ⟨Nat.le_of_ble_eq_true rfl, Nat.le_of_ble_eq_true rfl⟩ ⟨Nat.le_of_ble_eq_true rfl, Nat.le_of_ble_eq_true rfl⟩ (by decide +kernel) (fun x11 => ?_)
          refine zs_icmp_gt (pc := 52) (off := 7) (tgt := 59) C (by decide +kernel) (by decide) ?_ ?_
          · refine zs_iconst (pc := 59) (n := 0) (x := 0) C (by decide +kernel) (by decide +kernel) ?_
            exact zs_goj (hJ3 0) trivial
          · exact zs_goj (hJ5 ()) trivial
set_option maxRecDepth 20000 in
theorem cg_X12_goesHousing (l : Launch) (g : GC) : ∀ n : Nat, (∀ (a0 : Int) (a1 : Int) (a2 : Int), ConV l g yX12_goesHousing cX12_goesHousing 5 (rmd (7 + n) 0 0) [sR 287, sI a0, sI a1, sI a2] (fun mm => gX12_goesHousing n 0 a0 a1 a2 mm)) := by
  intro n
  induction n with
  | zero => exact (fun _ _ _ _ _ h => by cases h)
  | succ n ih =>
    intro a0 a1 a2
    show ConV l g yX12_goesHousing cX12_goesHousing 5 (rmd (7 + (n + 1)) 0 0) [sR 287, sI a0, sI a1, sI a2] (fun mm => fX12_goesHousing_F (gX12_goesHousing n) a0 a1 a2 mm)
    refine zs_ofV (by decide +kernel) (Nat.le_of_ble_eq_true rfl) ?_
    intro p e s m args below meth c C hr
    replace C : Bd g RX12 cX12_goesHousing 5 p s m args meth c := C
    unfold fX12_goesHousing_F
    refine zs_iload_n (pc := 0) (k := 1) (i := 1) C (by decide +kernel) rfl rfl ?_
    refine zs_aload_n (pc := 1) (k := 0) (i := 0) C (by decide +kernel) rfl rfl ?_
    refine zs_cvRi (pc := 2) (As := []) (st := [sI a0]) C rfl (c_X12_people l g ) ml_RX12_525 rfl rfl rfl rfl (Nat.le_of_ble_eq_true rfl) (by constructor <;> simp only [rmd] <;> omega) (by constructor <;> simp only [rmd] <;> omega) (by decide +kernel) (fun x1 => ?_)
    refine zs_icmp_ne (pc := 5) (off := 57) (tgt := 62) C (by decide +kernel) (by decide) ?_ ?_
    · refine zs_iconst (pc := 62) (n := 0) (x := 0) C (by decide +kernel) (by decide +kernel) ?_
      refine zs_istore (pc := 63) (i := 4) (ls' := [(4, sI 0), (0, sR 287), (1, sI a0), (2, sI a1), (3, sI a2)]) C (by decide +kernel) (Nat.le_of_ble_eq_true rfl) rfl ?_
      refine zs_sub (ls' := [(0, sR 287), (1, sI a0), (2, sI a1), (3, sI a2), (4, sI 0)]) ⟨rfl, rfl, rfl, rfl, rfl, trivial⟩ ?_
      refine zs_lp (pc := 65) (fun (t2 : Int) => [(0, sR 287), (1, sI a0), (2, sI a1), (3, sI a2), (4, sI t2)]) (fun _ => []) (fun K3 hK3 t2 => ?_) BIG 0
      refine zs_iload (pc := 65) (i := 4) C (by decide +kernel) rfl ?_
      refine zs_aload_n (pc := 67) (k := 0) (i := 0) C (by decide +kernel) rfl rfl ?_
      refine zs_getR (o' := 288) (pc := 68) (i := 9) (ci := 12) (k := 0) C (by decide +kernel) fl_RX12_9 rfl rfl rfl ?_
      refine zs_iconst (pc := 71) (n := 4) (x := 4) C (by decide +kernel) (by decide +kernel) ?_
      refine zs_ialdk (pc := 72) (o := 288) (n := 2005) C (by decide) (by decide +kernel) rfl (fun x4 => ?_)
      refine zs_icmp_ge (pc := 73) (off := 73) (tgt := 146) C (by decide +kernel) (by decide) ?_ ?_
      · exact zs_retVv (pc := 146) C hr ⟨Nat.zero_le _, Nat.zero_le _⟩ (by decide +kernel)
      · refine zs_iload_n (pc := 76) (k := 2) (i := 2) C (by decide +kernel) rfl rfl ?_
        refine zs_iload (pc := 77) (i := 4) C (by decide +kernel) rfl ?_
        refine zs_csRi (pc := 79) (As := [sI a1, sI t2]) (st := []) C rfl (c_X12_has l g a1 t2) ml_RX12_230 rfl rfl (Nat.le_of_ble_eq_true rfl) (by constructor <;> simp only [rmd] <;> omega) (by constructor <;> simp only [rmd] <;> omega) (by decide +kernel) (fun x5 => ?_)
        refine zs_jn (pJ := 140) (kJ := 0) (sJ := 0) (fun t6 => [(0, sR 287), (1, sI a0), (2, sI a1), (3, sI a2), (4, sI t2)]) (fun t6 => []) (fun t6 => ?_) (fun J7 hJ7 => ?_)
        · refine zs_iinc (pc := 140) (i := 4) (n := 1) (y := w32 (t2 + 1)) (ls' := [(4, sI (w32 (t2 + 1))), (0, sR 287), (1, sI a0), (2, sI a1), (3, sI a2)]) C (by decide +kernel) rfl rfl (Nat.le_of_ble_eq_true rfl) rfl ?_
          refine zs_goto (pc := 143) (off := (-78)) (tgt := 65) C (by decide +kernel) (by decide) ?_
          exact zs_goj (hK3 (w32 (t2 + 1))) ⟨rfl, rfl, rfl, rfl, rfl, trivial⟩
        · refine zs_if_ne (pc := 82) (off := 58) (tgt := 140) C (by decide +kernel) (by decide) ?_ ?_
          · exact zs_goj (hJ7 ()) ⟨rfl, rfl, rfl, rfl, rfl, trivial⟩
          · refine zs_aload_n (pc := 85) (k := 0) (i := 0) C (by decide +kernel) rfl rfl ?_
            refine zs_iload_n (pc := 86) (k := 1) (i := 1) C (by decide +kernel) rfl rfl ?_
            refine zs_iload (pc := 87) (i := 4) C (by decide +kernel) rfl ?_
            refine zs_cvWi (pc := 89) (As := [sI a0, sI t2]) (st := []) C (fun _ _ _ => rfl) rfl (c_X12_mayHave l g a0 t2) ml_RX12_534 rfl rfl rfl rfl (Nat.le_of_ble_eq_true rfl) (by constructor <;> simp only [rmd] <;> omega) (by constructor <;> simp only [rmd] <;> omega) (by decide +kernel) (fun x8 => ?_)
            refine zs_if_ne (pc := 92) (off := 6) (tgt := 98) C (by decide +kernel) (by decide) ?_ ?_
            · refine zs_aload_n (pc := 98) (k := 0) (i := 0) C (by decide +kernel) rfl rfl ?_
              refine zs_getR (o' := 307) (pc := 99) (i := 73) (ci := 12) (k := 35) C (by decide +kernel) fl_RX12_73 rfl rfl rfl ?_
              refine zs_iload_n (pc := 102) (k := 1) (i := 1) C (by decide +kernel) rfl rfl ?_
              refine zs_iload (pc := 103) (i := 4) C (by decide +kernel) rfl ?_
              refine zs_iast (pc := 105) (o := 307) (n := 8) C (fun _ _ _ => rfl) (by decide +kernel) rfl ?_
              refine zs_aload_n (pc := 106) (k := 0) (i := 0) C (by decide +kernel) rfl rfl ?_
              refine zs_iload_n (pc := 107) (k := 1) (i := 1) C (by decide +kernel) rfl rfl ?_
              refine zs_iconst (pc := 108) (n := 1) (x := 1) C (by decide +kernel) (by decide +kernel) ?_
              refine zs_iadd (pc := 109) C (by decide +kernel) ?_
              refine zs_iload_n (pc := 110) (k := 2) (i := 2) C (by decide +kernel) rfl rfl ?_
              refine zs_iconst (pc := 111) (n := 1) (x := 1) C (by decide +kernel) (by decide +kernel) ?_
              refine zs_iload (pc := 112) (i := 4) C (by decide +kernel) rfl ?_
              refine zs_ishl (pc := 114) C (by decide +kernel) ?_
              refine zs_ior (pc := 115) C (by decide +kernel) ?_
              refine zs_iload_n (pc := 116) (k := 3) (i := 3) C (by decide +kernel) rfl rfl ?_
              refine zs_aload_n (pc := 117) (k := 0) (i := 0) C (by decide +kernel) rfl rfl ?_
              refine zs_aload_n (pc := 118) (k := 0) (i := 0) C (by decide +kernel) rfl rfl ?_
              refine zs_iload_n (pc := 119) (k := 1) (i := 1) C (by decide +kernel) rfl rfl ?_
              refine zs_cvRi (pc := 120) (As := [sI a0]) (st := [sR 287, sI a2, sI (ior a1 (ishl 1 t2)), sI (w32 (a0 + 1)), sR 287]) C rfl (c_X12_whereIs l g a0) ml_RX12_537 rfl rfl rfl rfl (Nat.le_of_ble_eq_true rfl) (by constructor <;> simp only [rmd] <;> omega) (by constructor <;> simp only [rmd] <;> omega) (by decide +kernel) (fun x9 => ?_)
              refine zs_aload_n (pc := 123) (k := 0) (i := 0) C (by decide +kernel) rfl rfl ?_
              refine zs_getR (o' := 288) (pc := 124) (i := 9) (ci := 12) (k := 0) C (by decide +kernel) fl_RX12_9 rfl rfl rfl ?_
              refine zs_bipush (pc := 127) (n := 29) (x := 29) C (by decide +kernel) (by decide +kernel) ?_
              refine zs_iload (pc := 129) (i := 4) C (by decide +kernel) rfl ?_
              refine zs_iadd (pc := 131) C (by decide +kernel) ?_
              refine zs_iald (pc := 132) (o := 288) (n := 2005) C (by decide +kernel) rfl (fun hinx10 x10 => ?_)
              refine zs_cvRi (pc := 133) (As := [sI x9, sI x10]) (st := [sI a2, sI (ior a1 (ishl 1 t2)), sI (w32 (a0 + 1)), sR 287]) C rfl (c_X12_apart l g x9 x10) ml_RX12_298 rfl rfl rfl rfl (Nat.le_of_ble_eq_true rfl) (by constructor <;> simp only [rmd] <;> omega) (by constructor <;> simp only [rmd] <;> omega) (by decide +kernel) (fun x11 => ?_)
              refine zs_iadd (pc := 136) C (by decide +kernel) ?_
              refine zs_cvVv (pc := 137) (As := [sI (w32 (a0 + 1)), sI (ior a1 (ishl 1 t2)), sI (w32 (a2 + x11))]) (st := []) C (fun _ _ _ => rfl) (ih (w32 (a0 + 1)) (ior a1 (ishl 1 t2)) (w32 (a2 + x11))) ml_RX12_540 rfl rfl rfl rfl (Nat.le_of_ble_eq_true rfl) (by constructor <;> simp only [rmd] <;> omega) (by constructor <;> simp only [rmd] <;> omega) (by decide +kernel) ?_
              exact zs_goj (hJ7 ()) ⟨rfl, rfl, rfl, rfl, rfl, trivial⟩
            · refine zs_goto (pc := 95) (off := 45) (tgt := 140) C (by decide +kernel) (by decide) ?_
              exact zs_goj (hJ7 ()) ⟨rfl, rfl, rfl, rfl, rfl, trivial⟩
    · refine zs_aload_n (pc := 8) (k := 0) (i := 0) C (by decide +kernel) rfl rfl ?_
      refine zs_dup (pc := 9) C rfl (by decide +kernel) ?_
      refine zs_getI (pc := 10) (i := 528) (ci := 12) (k := 37) C (by decide +kernel) fl_RX12_528 rfl rfl (fun x12 => ?_)
      refine zs_iconst (pc := 13) (n := 1) (x := 1) C (by decide +kernel) (by decide +kernel) ?_
      refine zs_iadd (pc := 14) C (by decide +kernel) ?_
      refine zs_putI (pc := 15) (i := 528) (ci := 12) (k := 37) C (fun _ _ _ => rfl) (by decide +kernel) fl_RX12_528 fw_12_37 rfl rfl ?_
      refine zs_iload_n (pc := 18) (k := 3) (i := 3) C (by decide +kernel) rfl rfl ?_
      refine zs_aload_n (pc := 19) (k := 0) (i := 0) C (by decide +kernel) rfl rfl ?_
      refine zs_getI (pc := 20) (i := 531) (ci := 12) (k := 38) C (by decide +kernel) fl_RX12_531 rfl rfl (fun x13 => ?_)
      refine zs_icmp_lt (pc := 23) (off := 4) (tgt := 27) C (by decide +kernel) (by decide) ?_ ?_
      · refine zs_aload_n (pc := 27) (k := 0) (i := 0) C (by decide +kernel) rfl rfl ?_
        refine zs_iload_n (pc := 28) (k := 3) (i := 3) C (by decide +kernel) rfl rfl ?_
        refine zs_putI (pc := 29) (i := 531) (ci := 12) (k := 38) C (fun _ _ _ => rfl) (by decide +kernel) fl_RX12_531 fw_12_38 rfl rfl ?_
        refine zs_iconst (pc := 32) (n := 0) (x := 0) C (by decide +kernel) (by decide +kernel) ?_
        refine zs_istore (pc := 33) (i := 4) (ls' := [(4, sI 0), (0, sR 287), (1, sI a0), (2, sI a1), (3, sI a2)]) C (by decide +kernel) (Nat.le_of_ble_eq_true rfl) rfl ?_
        refine zs_sub (ls' := [(0, sR 287), (1, sI a0), (4, sI 0)]) ⟨rfl, rfl, rfl, trivial⟩ ?_
        refine zs_lp (pc := 35) (fun (t14 : Int) => [(0, sR 287), (1, sI a0), (4, sI t14)]) (fun _ => []) (fun K15 hK15 t14 => ?_) BIG 0
        refine zs_iload (pc := 35) (i := 4) C (by decide +kernel) rfl ?_
        refine zs_iload_n (pc := 37) (k := 1) (i := 1) C (by decide +kernel) rfl rfl ?_
        refine zs_icmp_ge (pc := 38) (off := 23) (tgt := 61) C (by decide +kernel) (by decide) ?_ ?_
        · exact zs_retVv (pc := 61) C hr ⟨Nat.zero_le _, Nat.zero_le _⟩ (by decide +kernel)
        · refine zs_aload_n (pc := 41) (k := 0) (i := 0) C (by decide +kernel) rfl rfl ?_
          refine zs_getR (o' := 308) (pc := 42) (i := 76) (ci := 12) (k := 36) C (by decide +kernel) fl_RX12_76 rfl rfl rfl ?_
          refine zs_iload (pc := 45) (i := 4) C (by decide +kernel) rfl ?_
          refine zs_aload_n (pc := 47) (k := 0) (i := 0) C (by decide +kernel) rfl rfl ?_
          refine zs_getR (o' := 307) (pc := 48) (i := 73) (ci := 12) (k := 35) C (by decide +kernel) fl_RX12_73 rfl rfl rfl ?_
          refine zs_iload (pc := 51) (i := 4) C (by decide +kernel) rfl ?_
          refine zs_iald (pc := 53) (o := 307) (n := 8) C (by decide +kernel) rfl (fun hinx16 x16 => ?_)
          refine zs_iast (pc := 54) (o := 308) (n := 8) C (fun _ _ _ => rfl) (by decide +kernel) rfl ?_
          refine zs_iinc (pc := 55) (i := 4) (n := 1) (y := w32 (t14 + 1)) (ls' := [(4, sI (w32 (t14 + 1))), (0, sR 287), (1, sI a0)]) C (by decide +kernel) rfl rfl (Nat.le_of_ble_eq_true rfl) rfl ?_
          refine zs_goto (pc := 58) (off := (-23)) (tgt := 35) C (by decide +kernel) (by decide) ?_
          exact zs_goj (hK15 (w32 (t14 + 1))) ⟨rfl, rfl, rfl, trivial⟩
      · exact zs_retVv (pc := 26) C hr ⟨Nat.zero_le _, Nat.zero_le _⟩ (by decide +kernel)
set_option maxRecDepth 20000 in
theorem c_X12_laysHoused (l : Launch) (g : GC) (a0 : Int) : ConW l g yX12_laysHoused cX12_laysHoused 2 (some .int) (rmd 38 0 0) [sR 287, sI a0] (fun mm => fX12_laysHoused a0 mm) := by
  refine zs_ofW (by decide +kernel) (Nat.le_of_ble_eq_true rfl) ?_
  intro p e s m args below meth c C hr
  replace C : Bd g RX12 cX12_laysHoused 2 p s m args meth c := C
  unfold fX12_laysHoused
  refine zs_aload_n (pc := 0) (k := 0) (i := 0) C (by decide +kernel) rfl rfl ?_
  refine zs_iconst (pc := 1) (n := 0) (x := 0) C (by decide +kernel) (by decide +kernel) ?_
  refine zs_putI (pc := 2) (i := 528) (ci := 12) (k := 37) C (fun _ _ _ => rfl) (by decide +kernel) fl_RX12_528 fw_12_37 rfl rfl ?_
  refine zs_aload_n (pc := 5) (k := 0) (i := 0) C (by decide +kernel) rfl rfl ?_
  refine zs_ldcw (pc := 6) (i := 441) (v := 536870912) (x := 536870912) C (by decide +kernel) wf_2282 (by decide +kernel) ?_
  refine zs_putI (pc := 9) (i := 531) (ci := 12) (k := 38) C (fun _ _ _ => rfl) (by decide +kernel) fl_RX12_531 fw_12_38 rfl rfl ?_
  refine zs_aload_n (pc := 12) (k := 0) (i := 0) C (by decide +kernel) rfl rfl ?_
  refine zs_iconst (pc := 13) (n := 0) (x := 0) C (by decide +kernel) (by decide +kernel) ?_
  refine zs_iload_n (pc := 14) (k := 1) (i := 1) C (by decide +kernel) rfl rfl ?_
  refine zs_iconst (pc := 15) (n := 0) (x := 0) C (by decide +kernel) (by decide +kernel) ?_
  refine zs_cvVv (pc := 16) (As := [sI 0, sI a0, sI 0]) (st := []) C (fun _ _ _ => rfl) ((cg_X12_goesHousing l g 30) 0 a0 0) ml_RX12_540 rfl rfl rfl rfl (Nat.le_of_ble_eq_true rfl) (by constructor <;> simp only [rmd] <;> omega) (by constructor <;> simp only [rmd] <;> omega) (by decide +kernel) ?_
  refine zs_aload_n (pc := 19) (k := 0) (i := 0) C (by decide +kernel) rfl rfl ?_
  refine zs_getI (pc := 20) (i := 528) (ci := 12) (k := 37) C (by decide +kernel) fl_RX12_528 rfl rfl (fun x1 => ?_)
  exact zs_retWi (pc := 23) C hr ⟨Nat.le_of_ble_eq_true rfl, Nat.le_of_ble_eq_true rfl⟩ (by decide +kernel)
set_option maxRecDepth 20000 in
theorem c_X12_housed (l : Launch) (g : GC)  : ConW l g yX12_housed cX12_housed 1 (some .int) (rmd 39 0 0) [sR 287] (fun mm => fX12_housed  mm) := by
  refine zs_ofW (by decide +kernel) (Nat.le_of_ble_eq_true rfl) ?_
  intro p e s m args below meth c C hr
  replace C : Bd g RX12 cX12_housed 1 p s m args meth c := C
  unfold fX12_housed
  refine zs_aload_n (pc := 0) (k := 0) (i := 0) C (by decide +kernel) rfl rfl ?_
  refine zs_iconst (pc := 1) (n := 0) (x := 0) C (by decide +kernel) (by decide +kernel) ?_
  refine zs_putI (pc := 2) (i := 88) (ci := 12) (k := 4) C (fun _ _ _ => rfl) (by decide +kernel) fl_RX12_88 fw_12_4 rfl rfl ?_
  refine zs_aload_n (pc := 5) (k := 0) (i := 0) C (by decide +kernel) rfl rfl ?_
  refine zs_iconst (pc := 6) (n := 0) (x := 0) C (by decide +kernel) (by decide +kernel) ?_
  refine zs_cvWi (pc := 7) (As := [sI 0]) (st := []) C (fun _ _ _ => rfl) rfl (c_X12_laysHoused l g 0) ml_RX12_543 rfl rfl rfl rfl (Nat.le_of_ble_eq_true rfl) ⟨Nat.le_of_ble_eq_true rfl, Nat.le_of_ble_eq_true rfl⟩ ⟨Nat.le_of_ble_eq_true rfl, Nat.le_of_ble_eq_true rfl⟩ (by decide +kernel) (fun x1 => ?_)
  exact zs_retWi (pc := 10) C hr ⟨Nat.le_of_ble_eq_true rfl, Nat.le_of_ble_eq_true rfl⟩ (by decide +kernel)
set_option maxRecDepth 20000 in
theorem c_X12_shortest (l : Launch) (g : GC) (a0 : Int) : ConW l g yX12_shortest cX12_shortest 2 (some .int) (rmd 39 0 0) [sR 287, sI a0] (fun mm => fX12_shortest a0 mm) := by
  refine zs_ofW (by decide +kernel) (Nat.le_of_ble_eq_true rfl) ?_
  intro p e s m args below meth c C hr
  replace C : Bd g RX12 cX12_shortest 2 p s m args meth c := C
  unfold fX12_shortest
  refine zs_aload_n (pc := 0) (k := 0) (i := 0) C (by decide +kernel) rfl rfl ?_
  refine zs_iconst (pc := 1) (n := 0) (x := 0) C (by decide +kernel) (by decide +kernel) ?_
  refine zs_putI (pc := 2) (i := 88) (ci := 12) (k := 4) C (fun _ _ _ => rfl) (by decide +kernel) fl_RX12_88 fw_12_4 rfl rfl ?_
  refine zs_iload_n (pc := 5) (k := 1) (i := 1) C (by decide +kernel) rfl rfl ?_
  refine zs_jn (pJ := 29) (kJ := 0) (sJ := 0) (fun t1 => [(0, sR 287), (1, sI a0)]) (fun t1 => []) (fun t1 => ?_) (fun J2 hJ2 => ?_)
  · refine zs_aload_n (pc := 29) (k := 0) (i := 0) C (by decide +kernel) rfl rfl ?_
    refine zs_iconst (pc := 30) (n := 0) (x := 0) C (by decide +kernel) (by decide +kernel) ?_
    refine zs_cvWi (pc := 31) (As := [sI 0]) (st := []) C (fun _ _ _ => rfl) rfl (c_X12_laysHoused l g 0) ml_RX12_543 rfl rfl rfl rfl (Nat.le_of_ble_eq_true rfl) ⟨Nat.le_of_ble_eq_true rfl, Nat.le_of_ble_eq_true rfl⟩ ⟨Nat.le_of_ble_eq_true rfl, Nat.le_of_ble_eq_true rfl⟩ (by decide +kernel) (fun x3 => ?_)
    refine zs_if_ne (pc := 34) (off := 5) (tgt := 39) C (by decide +kernel) (by decide) ?_ ?_
    · refine zs_iload_n (pc := 39) (k := 1) (i := 1) C (by decide +kernel) rfl rfl ?_
      refine zs_jn (pJ := 74) (kJ := 0) (sJ := 0) (fun t4 => []) (fun t4 => [sI t4]) (fun t4 => ?_) (fun J5 hJ5 => ?_)
      · exact zs_retWi (pc := 74) C hr ⟨Nat.le_of_ble_eq_true rfl, Nat.le_of_ble_eq_true rfl⟩ (by decide +kernel)
      · refine zs_if_ne (pc := 40) (off := 10) (tgt := 50) C (by decide +kernel) (by decide) ?_ ?_
        · refine zs_iload_n (pc := 50) (k := 1) (i := 1) C (by decide +kernel) rfl rfl ?_
          refine zs_bipush (pc := 51) (n := 10) (x := 10) C (by decide +kernel) (by decide +kernel) ?_
          refine zs_isub (pc := 53) C (by decide +kernel) ?_
          refine zs_aload_n (pc := 54) (k := 0) (i := 0) C (by decide +kernel) rfl rfl ?_
          refine zs_cvRi (pc := 55) (As := []) (st := [sI (w32 (a0 - 10))]) C rfl (c_X12_people l g ) ml_RX12_525 rfl rfl rfl rfl (Nat.le_of_ble_eq_true rfl) ⟨Nat.le_of_ble_eq_true rfl, Nat.le_of_ble_eq_true rfl⟩ ⟨Nat.le_of_ble_eq_true rfl, Nat.le_of_ble_eq_true rfl⟩ (by decide +kernel) (fun x6 => ?_)
          refine zs_icmp_ge (pc := 58) (off := 15) (tgt := 73) C (by decide +kernel) (by decide) ?_ ?_
          · refine zs_iconst (pc := 73) (n := (-1)) (x := (-1)) C (by decide +kernel) (by decide +kernel) ?_
            exact zs_goj (hJ5 (-1)) trivial
          · refine zs_aload_n (pc := 61) (k := 0) (i := 0) C (by decide +kernel) rfl rfl ?_
            refine zs_getR (o' := 308) (pc := 62) (i := 76) (ci := 12) (k := 36) C (by decide +kernel) fl_RX12_76 rfl rfl rfl ?_
            refine zs_iload_n (pc := 65) (k := 1) (i := 1) C (by decide +kernel) rfl rfl ?_
            refine zs_bipush (pc := 66) (n := 10) (x := 10) C (by decide +kernel) (by decide +kernel) ?_
            refine zs_isub (pc := 68) C (by decide +kernel) ?_
            refine zs_iald (pc := 69) (o := 308) (n := 8) C (by decide +kernel) rfl (fun hinx7 x7 => ?_)
            refine zs_goto (pc := 70) (off := 4) (tgt := 74) C (by decide +kernel) (by decide) ?_
            exact zs_goj (hJ5 x7) trivial
        · refine zs_aload_n (pc := 43) (k := 0) (i := 0) C (by decide +kernel) rfl rfl ?_
          refine zs_getI (pc := 44) (i := 531) (ci := 12) (k := 38) C (by decide +kernel) fl_RX12_531 rfl rfl (fun x8 => ?_)
          refine zs_goto (pc := 47) (off := 27) (tgt := 74) C (by decide +kernel) (by decide) ?_
          exact zs_goj (hJ5 x8) trivial
    · refine zs_iconst (pc := 37) (n := (-1)) (x := (-1)) C (by decide +kernel) (by decide +kernel) ?_
      exact zs_retWi (pc := 38) C hr ⟨Nat.le_of_ble_eq_true rfl, Nat.le_of_ble_eq_true rfl⟩ (by decide +kernel)
  · refine zs_if_eq (pc := 6) (off := 23) (tgt := 29) C (by decide +kernel) (by decide) ?_ ?_
    · exact zs_goj (hJ2 ()) ⟨rfl, rfl, trivial⟩
    · refine zs_iload_n (pc := 9) (k := 1) (i := 1) C (by decide +kernel) rfl rfl ?_
      refine zs_i2l (pc := 10) C (by decide +kernel) ?_
      refine zs_ldc2 (pc := 11) (i := 390) (v := 10) (x := 10) C (by decide +kernel) wf_2208 (by decide +kernel) ?_
      refine zs_ldc2 (pc := 14) (i := 546) (v := 17) (x := 17) C (by decide +kernel) wf_2453 (by decide +kernel) ?_
      refine zs_csRi (pc := 17) (As := [sL a0, sL 10, sL 17]) (st := []) C rfl (c_X12_within l g a0 10 17) ml_RX12_149 rfl rfl (Nat.le_of_ble_eq_true rfl) ⟨Nat.le_of_ble_eq_true rfl, Nat.le_of_ble_eq_true rfl⟩ ⟨Nat.le_of_ble_eq_true rfl, Nat.le_of_ble_eq_true rfl⟩ (by decide +kernel) (fun x9 => ?_)
      refine zs_if_ne (pc := 20) (off := 9) (tgt := 29) C (by decide +kernel) (by decide) ?_ ?_
      · exact zs_goj (hJ2 ()) ⟨rfl, rfl, trivial⟩
      · refine zs_aload_n (pc := 23) (k := 0) (i := 0) C (by decide +kernel) rfl rfl ?_
        refine zs_iconst (pc := 24) (n := 1) (x := 1) C (by decide +kernel) (by decide +kernel) ?_
        refine zs_cvWi (pc := 25) (As := [sI 1]) (st := []) C (fun _ _ _ => rfl) rfl (c_X12_fails l g 1) ml_RX12_279 rfl rfl rfl rfl (Nat.le_of_ble_eq_true rfl) ⟨Nat.le_of_ble_eq_true rfl, Nat.le_of_ble_eq_true rfl⟩ ⟨Nat.le_of_ble_eq_true rfl, Nat.le_of_ble_eq_true rfl⟩ (by decide +kernel) (fun x10 => ?_)
        exact zs_retWi (pc := 28) C hr ⟨Nat.le_of_ble_eq_true rfl, Nat.le_of_ble_eq_true rfl⟩ (by decide +kernel)
set_option maxRecDepth 20000 in
theorem c_X12_dear (l : Launch) (g : GC)  : ConW l g yX12_dear cX12_dear 3 (some .int) (rmd 39 0 0) [sR 287] (fun mm => fX12_dear  mm) := by
  refine zs_ofW (by decide +kernel) (Nat.le_of_ble_eq_true rfl) ?_
  intro p e s m args below meth c C hr
  replace C : Bd g RX12 cX12_dear 3 p s m args meth c := C
  unfold fX12_dear
  refine zs_aload_n (pc := 0) (k := 0) (i := 0) C (by decide +kernel) rfl rfl ?_
  refine zs_iconst (pc := 1) (n := 0) (x := 0) C (by decide +kernel) (by decide +kernel) ?_
  refine zs_putI (pc := 2) (i := 88) (ci := 12) (k := 4) C (fun _ _ _ => rfl) (by decide +kernel) fl_RX12_88 fw_12_4 rfl rfl ?_
  refine zs_iconst (pc := 5) (n := 0) (x := 0) C (by decide +kernel) (by decide +kernel) ?_
  refine zs_istore_n (pc := 6) (k := 1) (i := 1) (ls' := [(1, sI 0), (0, sR 287)]) C (by decide +kernel) rfl (Nat.le_of_ble_eq_true rfl) rfl ?_
  refine zs_aload_n (pc := 7) (k := 0) (i := 0) C (by decide +kernel) rfl rfl ?_
  refine zs_iconst (pc := 8) (n := 0) (x := 0) C (by decide +kernel) (by decide +kernel) ?_
  refine zs_cvWi (pc := 9) (As := [sI 0]) (st := []) C (fun _ _ _ => rfl) rfl (c_X12_laysHoused l g 0) ml_RX12_543 rfl rfl rfl rfl (Nat.le_of_ble_eq_true rfl) ⟨Nat.le_of_ble_eq_true rfl, Nat.le_of_ble_eq_true rfl⟩ ⟨Nat.le_of_ble_eq_true rfl, Nat.le_of_ble_eq_true rfl⟩ (by decide +kernel) (fun x1 => ?_)
  refine zs_if_ne (pc := 12) (off := 5) (tgt := 17) C (by decide +kernel) (by decide) ?_ ?_
  · refine zs_iconst (pc := 17) (n := 0) (x := 0) C (by decide +kernel) (by decide +kernel) ?_
    refine zs_istore_n (pc := 18) (k := 2) (i := 2) (ls' := [(2, sI 0), (1, sI 0), (0, sR 287)]) C (by decide +kernel) rfl (Nat.le_of_ble_eq_true rfl) rfl ?_
    refine zs_sub (ls' := [(0, sR 287), (1, sI 0), (2, sI 0)]) ⟨rfl, rfl, rfl, trivial⟩ ?_
    refine zs_lp (pc := 19) (fun (t2 : Int × Int) => [(0, sR 287), (1, sI t2.1), (2, sI t2.2)]) (fun _ => []) (fun K3 hK3 t2 => ?_) BIG (0, 0)
    refine zs_iload_n (pc := 19) (k := 2) (i := 2) C (by decide +kernel) rfl rfl ?_
    refine zs_aload_n (pc := 20) (k := 0) (i := 0) C (by decide +kernel) rfl rfl ?_
    refine zs_getR (o' := 288) (pc := 21) (i := 9) (ci := 12) (k := 0) C (by decide +kernel) fl_RX12_9 rfl rfl rfl ?_
    refine zs_iconst (pc := 24) (n := 4) (x := 4) C (by decide +kernel) (by decide +kernel) ?_
    refine zs_ialdk (pc := 25) (o := 288) (n := 2005) C (by decide) (by decide +kernel) rfl (fun x4 => ?_)
    refine zs_icmp_ge (pc := 26) (off := 29) (tgt := 55) C (by decide +kernel) (by decide) ?_ ?_
    · refine zs_iload_n (pc := 55) (k := 1) (i := 1) C (by decide +kernel) rfl rfl ?_
      exact zs_retWi (pc := 56) C hr ⟨Nat.le_of_ble_eq_true rfl, Nat.le_of_ble_eq_true rfl⟩ (by decide +kernel)
    · refine zs_iload_n (pc := 29) (k := 1) (i := 1) C (by decide +kernel) rfl rfl ?_
      refine zs_aload_n (pc := 30) (k := 0) (i := 0) C (by decide +kernel) rfl rfl ?_
      refine zs_iconst (pc := 31) (n := 1) (x := 1) C (by decide +kernel) (by decide +kernel) ?_
      refine zs_iload_n (pc := 32) (k := 2) (i := 2) C (by decide +kernel) rfl rfl ?_
      refine zs_ishl (pc := 33) C (by decide +kernel) ?_
      refine zs_cvWi (pc := 34) (As := [sI (ishl 1 t2.2)]) (st := [sI t2.1]) C (fun _ _ _ => rfl) rfl (c_X12_laysHoused l g (ishl 1 t2.2)) ml_RX12_543 rfl rfl rfl rfl (Nat.le_of_ble_eq_true rfl) ⟨Nat.le_of_ble_eq_true rfl, Nat.le_of_ble_eq_true rfl⟩ ⟨Nat.le_of_ble_eq_true rfl, Nat.le_of_ble_eq_true rfl⟩ (by decide +kernel) (fun x5 => ?_)
      refine zs_jn (pJ := 47) (kJ := 0) (sJ := 0) (fun t6 => [(0, sR 287), (2, sI t2.2)]) (fun t6 => [sI t6, sI t2.1]) (fun t6 => ?_) (fun J7 hJ7 => ?_)
      · refine zs_ior (pc := 47) C (by decide +kernel) ?_
        refine zs_let (fun x8 => ?_)
        refine zs_istore_n (pc := 48) (k := 1) (i := 1) (ls' := [(1, sI x8), (0, sR 287), (2, sI t2.2)]) C (by decide +kernel) rfl (Nat.le_of_ble_eq_true rfl) rfl ?_
        refine zs_iinc (pc := 49) (i := 2) (n := 1) (y := w32 (t2.2 + 1)) (ls' := [(2, sI (w32 (t2.2 + 1))), (1, sI x8), (0, sR 287)]) C (by decide +kernel) rfl rfl (Nat.le_of_ble_eq_true rfl) rfl ?_
        refine zs_goto (pc := 52) (off := (-33)) (tgt := 19) C (by decide +kernel) (by decide) ?_
        exact zs_goj (hK3 (x8, w32 (t2.2 + 1))) ⟨rfl, rfl, rfl, trivial⟩
      · refine zs_if_ne (pc := 37) (off := 9) (tgt := 46) C (by decide +kernel) (by decide) ?_ ?_
        · refine zs_iconst (pc := 46) (n := 0) (x := 0) C (by decide +kernel) (by decide +kernel) ?_
          exact zs_goj (hJ7 0) ⟨rfl, rfl, trivial⟩
        · refine zs_iconst (pc := 40) (n := 1) (x := 1) C (by decide +kernel) (by decide +kernel) ?_
          refine zs_iload_n (pc := 41) (k := 2) (i := 2) C (by decide +kernel) rfl rfl ?_
          refine zs_ishl (pc := 42) C (by decide +kernel) ?_
          refine zs_goto (pc := 43) (off := 4) (tgt := 47) C (by decide +kernel) (by decide) ?_
          exact zs_goj (hJ7 (ishl 1 t2.2)) ⟨rfl, rfl, trivial⟩
  · refine zs_iload_n (pc := 15) (k := 1) (i := 1) C (by decide +kernel) rfl rfl ?_
    exact zs_retWi (pc := 16) C hr ⟨Nat.le_of_ble_eq_true rfl, Nat.le_of_ble_eq_true rfl⟩ (by decide +kernel)

set_option maxRecDepth 20000 in
theorem c_X2_takeFirst (l : Launch) (g : GC) (a1 : Int) (a2 : Int) : ConW l g yX2_takeFirst cX2_takeFirst 8 (some .int) (rmd 3 0 0) [sR 105, sR 19, sI a1, sI a2] (fun mm => fX2_takeFirst a1 a2 mm) := by
  refine zs_ofW (by decide +kernel) (Nat.le_of_ble_eq_true rfl) ?_
  intro p e s m args below meth c C hr
  replace C : Bd g RX2 cX2_takeFirst 8 p s m args meth c := C
  unfold fX2_takeFirst
  refine zs_aload_n (pc := 0) (k := 1) (i := 1) C (by decide +kernel) rfl rfl ?_
  refine zs_getR (o' := 20) (pc := 1) (i := 24) (ci := 10) (k := 0) C (by decide +kernel) fl_RX2_24 rfl rfl rfl ?_
  refine zs_getI (pc := 4) (i := 59) (ci := 3) (k := 4) C (by decide +kernel) fl_RX2_59 rfl rfl (fun x1 => ?_)
  refine zs_istore (pc := 7) (i := 4) (ls' := [(4, sI x1), (0, sR 105), (1, sR 19), (2, sI a1), (3, sI a2)]) C (by decide +kernel) (Nat.le_of_ble_eq_true rfl) rfl ?_
  refine zs_iconst (pc := 9) (n := 0) (x := 0) C (by decide +kernel) (by decide +kernel) ?_
  refine zs_istore (pc := 10) (i := 5) (ls' := [(5, sI 0), (4, sI x1), (0, sR 105), (1, sR 19), (2, sI a1), (3, sI a2)]) C (by decide +kernel) (Nat.le_of_ble_eq_true rfl) rfl ?_
  refine zs_sub (ls' := [(0, sR 105), (1, sR 19), (2, sI a1), (3, sI a2), (4, sI x1), (5, sI 0)]) ⟨rfl, rfl, rfl, rfl, rfl, rfl, trivial⟩ ?_
  refine zs_lp (pc := 12) (fun (t2 : Int) => [(0, sR 105), (1, sR 19), (2, sI a1), (3, sI a2), (4, sI x1), (5, sI t2)]) (fun _ => []) (fun K3 hK3 t2 => ?_) BIG 0
  refine zs_iload (pc := 12) (i := 5) C (by decide +kernel) rfl ?_
  refine zs_iload (pc := 14) (i := 4) C (by decide +kernel) rfl ?_
  refine zs_icmp_ge (pc := 16) (off := 107) (tgt := 123) C (by decide +kernel) (by decide) ?_ ?_
  · refine zs_iload_n (pc := 123) (k := 2) (i := 2) C (by decide +kernel) rfl rfl ?_
    exact zs_retWi (pc := 124) C hr ⟨Nat.le_of_ble_eq_true rfl, Nat.le_of_ble_eq_true rfl⟩ (by decide +kernel)
  · refine zs_iconst (pc := 19) (n := 0) (x := 0) C (by decide +kernel) (by decide +kernel) ?_
    refine zs_istore (pc := 20) (i := 6) (ls' := [(6, sI 0), (0, sR 105), (1, sR 19), (2, sI a1), (3, sI a2), (4, sI x1), (5, sI t2)]) C (by decide +kernel) (Nat.le_of_ble_eq_true rfl) rfl ?_
    refine zs_sub (ls' := [(0, sR 105), (1, sR 19), (2, sI a1), (3, sI a2), (4, sI x1), (5, sI t2), (6, sI 0)]) ⟨rfl, rfl, rfl, rfl, rfl, rfl, rfl, trivial⟩ ?_
    refine zs_lp (pc := 22) (fun (t4 : Int) => [(0, sR 105), (1, sR 19), (2, sI a1), (3, sI a2), (4, sI x1), (5, sI t2), (6, sI t4)]) (fun _ => []) (fun K5 hK5 t4 => ?_) BIG 0
    refine zs_iload (pc := 22) (i := 6) C (by decide +kernel) rfl ?_
    refine zs_iload (pc := 24) (i := 4) C (by decide +kernel) rfl ?_
    refine zs_icmp_ge (pc := 26) (off := 91) (tgt := 117) C (by decide +kernel) (by decide) ?_ ?_
    · refine zs_iinc (pc := 117) (i := 5) (n := 1) (y := w32 (t2 + 1)) (ls' := [(5, sI (w32 (t2 + 1))), (0, sR 105), (1, sR 19), (2, sI a1), (3, sI a2), (4, sI x1), (6, sI t4)]) C (by decide +kernel) rfl rfl (Nat.le_of_ble_eq_true rfl) rfl ?_
      refine zs_goto (pc := 120) (off := (-108)) (tgt := 12) C (by decide +kernel) (by decide) ?_
      exact zs_goj (hK3 (w32 (t2 + 1))) ⟨rfl, rfl, rfl, rfl, rfl, rfl, trivial⟩
    · refine zs_iload_n (pc := 29) (k := 2) (i := 2) C (by decide +kernel) rfl rfl ?_
      refine zs_iconst (pc := 30) (n := 1) (x := 1) C (by decide +kernel) (by decide +kernel) ?_
      refine zs_iload (pc := 31) (i := 5) C (by decide +kernel) rfl ?_
      refine zs_ishl (pc := 33) C (by decide +kernel) ?_
      refine zs_ior (pc := 34) C (by decide +kernel) ?_
      refine zs_iconst (pc := 35) (n := 1) (x := 1) C (by decide +kernel) (by decide +kernel) ?_
      refine zs_iload (pc := 36) (i := 6) C (by decide +kernel) rfl ?_
      refine zs_ishl (pc := 38) C (by decide +kernel) ?_
      refine zs_ior (pc := 39) C (by decide +kernel) ?_
      refine zs_let (fun x6 => ?_)
      refine zs_istore (pc := 40) (i := 7) (ls' := [(7, sI x6), (0, sR 105), (1, sR 19), (2, sI a1), (3, sI a2), (4, sI x1), (5, sI t2), (6, sI t4)]) C (by decide +kernel) (Nat.le_of_ble_eq_true rfl) rfl ?_
      refine zs_aload_n (pc := 42) (k := 0) (i := 0) C (by decide +kernel) rfl rfl ?_
      refine zs_aload_n (pc := 43) (k := 1) (i := 1) C (by decide +kernel) rfl rfl ?_
      refine zs_getR (o' := 20) (pc := 44) (i := 24) (ci := 10) (k := 0) C (by decide +kernel) fl_RX2_24 rfl rfl rfl ?_
      refine zs_iload_n (pc := 47) (k := 3) (i := 3) C (by decide +kernel) rfl rfl ?_
      refine zs_iload_n (pc := 48) (k := 2) (i := 2) C (by decide +kernel) rfl rfl ?_
      refine zs_iload (pc := 49) (i := 5) C (by decide +kernel) rfl ?_
      refine zs_iload (pc := 51) (i := 6) C (by decide +kernel) rfl ?_
      refine zs_cvRi (pc := 53) (As := [sR 20, sI a2, sI a1, sI t2, sI t4]) (st := []) C rfl (c_X2_canHave l g a2 a1 t2 t4) ml_RX2_82 rfl rfl rfl rfl (Nat.le_of_ble_eq_true rfl) ⟨Nat.le_of_ble_eq_true rfl, Nat.le_of_ble_eq_true rfl⟩ ⟨Nat.le_of_ble_eq_true rfl, Nat.le_of_ble_eq_true rfl⟩ (by decide +kernel) (fun x7 => ?_)
      refine zs_jn (pJ := 111) (kJ := 0) (sJ := 0) (fun t8 => [(0, sR 105), (1, sR 19), (2, sI a1), (3, sI a2), (4, sI x1), (5, sI t2), (6, sI t4)]) (fun t8 => []) (fun t8 => ?_) (fun J9 hJ9 => ?_)
      · refine zs_iinc (pc := 111) (i := 6) (n := 1) (y := w32 (t4 + 1)) (ls' := [(6, sI (w32 (t4 + 1))), (0, sR 105), (1, sR 19), (2, sI a1), (3, sI a2), (4, sI x1), (5, sI t2)]) C (by decide +kernel) rfl rfl (Nat.le_of_ble_eq_true rfl) rfl ?_
        refine zs_goto (pc := 114) (off := (-92)) (tgt := 22) C (by decide +kernel) (by decide) ?_
        exact zs_goj (hK5 (w32 (t4 + 1))) ⟨rfl, rfl, rfl, rfl, rfl, rfl, rfl, trivial⟩
      · refine zs_if_eq (pc := 56) (off := 55) (tgt := 111) C (by decide +kernel) (by decide) ?_ ?_
        · exact zs_goj (hJ9 ()) ⟨rfl, rfl, rfl, rfl, rfl, rfl, rfl, trivial⟩
        · refine zs_aload_n (pc := 59) (k := 0) (i := 0) C (by decide +kernel) rfl rfl ?_
          refine zs_aload_n (pc := 60) (k := 1) (i := 1) C (by decide +kernel) rfl rfl ?_
          refine zs_iload_n (pc := 61) (k := 3) (i := 3) C (by decide +kernel) rfl rfl ?_
          refine zs_iload (pc := 62) (i := 5) C (by decide +kernel) rfl ?_
          refine zs_iload (pc := 64) (i := 6) C (by decide +kernel) rfl ?_
          refine zs_cvRi (pc := 66) (As := [sR 19, sI a2, sI t2, sI t4]) (st := []) C rfl (c_X2_cost l g a2 t2 t4) ml_RX2_99 rfl rfl rfl rfl (Nat.le_of_ble_eq_true rfl) ⟨Nat.le_of_ble_eq_true rfl, Nat.le_of_ble_eq_true rfl⟩ ⟨Nat.le_of_ble_eq_true rfl, Nat.le_of_ble_eq_true rfl⟩ (by decide +kernel) (fun x10 => ?_)
          refine zs_aload_n (pc := 69) (k := 0) (i := 0) C (by decide +kernel) rfl rfl ?_
          refine zs_getR (o' := 107) (pc := 70) (i := 15) (ci := 2) (k := 1) C (by decide +kernel) fl_RX2_15 rfl rfl rfl ?_
          refine zs_iload (pc := 73) (i := 7) C (by decide +kernel) rfl ?_
          refine zs_iald (pc := 75) (o := 107) (n := 256) C (by decide +kernel) rfl (fun hinx11 x11 => ?_)
          refine zs_iadd (pc := 76) C (by decide +kernel) ?_
          refine zs_aload_n (pc := 77) (k := 0) (i := 0) C (by decide +kernel) rfl rfl ?_
          refine zs_getR (o' := 107) (pc := 78) (i := 15) (ci := 2) (k := 1) C (by decide +kernel) fl_RX2_15 rfl rfl rfl ?_
          refine zs_iload_n (pc := 81) (k := 2) (i := 2) C (by decide +kernel) rfl rfl ?_
          refine zs_iald (pc := 82) (o := 107) (n := 256) C (by decide +kernel) rfl (fun hinx12 x12 => ?_)
          refine zs_icmp_ne (pc := 83) (off := 28) (tgt := 111) C (by decide +kernel) (by decide) ?_ ?_
          · exact zs_goj (hJ9 ()) ⟨rfl, rfl, rfl, rfl, rfl, rfl, rfl, trivial⟩
          · refine zs_aload_n (pc := 86) (k := 0) (i := 0) C (by decide +kernel) rfl rfl ?_
            refine zs_getR (o' := 109) (pc := 87) (i := 21) (ci := 2) (k := 3) C (by decide +kernel) fl_RX2_21 rfl rfl rfl ?_
            refine zs_iconst (pc := 90) (n := 2) (x := 2) C (by decide +kernel) (by decide +kernel) ?_
            refine zs_iload_n (pc := 91) (k := 3) (i := 3) C (by decide +kernel) rfl rfl ?_
            refine zs_imul (pc := 92) C (by decide +kernel) ?_
            refine zs_iload (pc := 93) (i := 5) C (by decide +kernel) rfl ?_
            refine zs_iast (pc := 95) (o := 109) (n := 8) C (fun _ _ _ => rfl) (by decide +kernel) rfl ?_
            refine zs_aload_n (pc := 96) (k := 0) (i := 0) C (by decide +kernel) rfl rfl ?_
            refine zs_getR (o' := 109) (pc := 97) (i := 21) (ci := 2) (k := 3) C (by decide +kernel) fl_RX2_21 rfl rfl rfl ?_
            refine zs_iconst (pc := 100) (n := 2) (x := 2) C (by decide +kernel) (by decide +kernel) ?_
            refine zs_iload_n (pc := 101) (k := 3) (i := 3) C (by decide +kernel) rfl rfl ?_
            refine zs_imul (pc := 102) C (by decide +kernel) ?_
            refine zs_iconst (pc := 103) (n := 1) (x := 1) C (by decide +kernel) (by decide +kernel) ?_
            refine zs_iadd (pc := 104) C (by decide +kernel) ?_
            refine zs_iload (pc := 105) (i := 6) C (by decide +kernel) rfl ?_
            refine zs_iast (pc := 107) (o := 109) (n := 8) C (fun _ _ _ => rfl) (by decide +kernel) rfl ?_
            refine zs_iload (pc := 108) (i := 7) C (by decide +kernel) rfl ?_
            exact zs_retWi (pc := 110) C hr ⟨Nat.le_of_ble_eq_true rfl, Nat.le_of_ble_eq_true rfl⟩ (by decide +kernel)
set_option maxRecDepth 20000 in
theorem c_X2_settle (l : Launch) (g : GC)  : ConW l g yX2_settle cX2_settle 5 (some .int) (rmd 5 0 0) [sR 105, sR 19] (fun mm => fX2_settle  mm) := by
  refine zs_ofW (by decide +kernel) (Nat.le_of_ble_eq_true rfl) ?_
  intro p e s m args below meth c C hr
  replace C : Bd g RX2 cX2_settle 5 p s m args meth c := C
  unfold fX2_settle
  refine zs_iconst (pc := 0) (n := 1) (x := 1) C (by decide +kernel) (by decide +kernel) ?_
  refine zs_aload_n (pc := 1) (k := 1) (i := 1) C (by decide +kernel) rfl rfl ?_
  refine zs_getR (o' := 20) (pc := 2) (i := 24) (ci := 10) (k := 0) C (by decide +kernel) fl_RX2_24 rfl rfl rfl ?_
  refine zs_getI (pc := 5) (i := 59) (ci := 3) (k := 4) C (by decide +kernel) fl_RX2_59 rfl rfl (fun x1 => ?_)
  refine zs_ishl (pc := 8) C (by decide +kernel) ?_
  refine zs_let (fun x2 => ?_)
  refine zs_istore_n (pc := 9) (k := 2) (i := 2) (ls' := [(2, sI x2), (0, sR 105), (1, sR 19)]) C (by decide +kernel) rfl (Nat.le_of_ble_eq_true rfl) rfl ?_
  refine zs_aload_n (pc := 10) (k := 0) (i := 0) C (by decide +kernel) rfl rfl ?_
  refine zs_aload_n (pc := 11) (k := 1) (i := 1) C (by decide +kernel) rfl rfl ?_
  refine zs_cvVv (pc := 12) (As := [sR 19]) (st := []) C (fun _ _ _ => rfl) (c_X2_measure l g ) ml_RX2_62 rfl rfl rfl rfl (Nat.le_of_ble_eq_true rfl) ⟨Nat.le_of_ble_eq_true rfl, Nat.le_of_ble_eq_true rfl⟩ ⟨Nat.le_of_ble_eq_true rfl, Nat.le_of_ble_eq_true rfl⟩ (by decide +kernel) ?_
  refine zs_iload_n (pc := 15) (k := 2) (i := 2) C (by decide +kernel) rfl rfl ?_
  refine zs_iconst (pc := 16) (n := 1) (x := 1) C (by decide +kernel) (by decide +kernel) ?_
  refine zs_isub (pc := 17) C (by decide +kernel) ?_
  refine zs_let (fun x3 => ?_)
  refine zs_istore_n (pc := 18) (k := 3) (i := 3) (ls' := [(3, sI x3), (2, sI x2), (0, sR 105), (1, sR 19)]) C (by decide +kernel) rfl (Nat.le_of_ble_eq_true rfl) rfl ?_
  refine zs_sub (ls' := [(0, sR 105), (1, sR 19), (3, sI x3)]) ⟨rfl, rfl, rfl, trivial⟩ ?_
  refine zs_lp (pc := 19) (fun (t4 : Int) => [(0, sR 105), (1, sR 19), (3, sI t4)]) (fun _ => []) (fun K5 hK5 t4 => ?_) BIG x3
  refine zs_iload_n (pc := 19) (k := 3) (i := 3) C (by decide +kernel) rfl rfl ?_
  refine zs_if_lt (pc := 20) (off := 47) (tgt := 67) C (by decide +kernel) (by decide) ?_ ?_
  · refine zs_aload_n (pc := 67) (k := 0) (i := 0) C (by decide +kernel) rfl rfl ?_
    refine zs_getR (o' := 107) (pc := 68) (i := 15) (ci := 2) (k := 1) C (by decide +kernel) fl_RX2_15 rfl rfl rfl ?_
    refine zs_iconst (pc := 71) (n := 0) (x := 0) C (by decide +kernel) (by decide +kernel) ?_
    refine zs_ialdk (pc := 72) (o := 107) (n := 256) C (by decide) (by decide +kernel) rfl (fun x6 => ?_)
    refine zs_sipush (pc := 73) (n := 1000) (x := 1000) C (by decide +kernel) (by decide +kernel) ?_
    refine zs_icmp_lt (pc := 76) (off := 5) (tgt := 81) C (by decide +kernel) (by decide) ?_ ?_
    · refine zs_iconst (pc := 81) (n := 0) (x := 0) C (by decide +kernel) (by decide +kernel) ?_
      refine zs_istore_n (pc := 82) (k := 3) (i := 3) (ls' := [(3, sI 0), (0, sR 105), (1, sR 19)]) C (by decide +kernel) rfl (Nat.le_of_ble_eq_true rfl) rfl ?_
      refine zs_iconst (pc := 83) (n := 0) (x := 0) C (by decide +kernel) (by decide +kernel) ?_
      refine zs_istore (pc := 84) (i := 4) (ls' := [(4, sI 0), (3, sI 0), (0, sR 105), (1, sR 19)]) C (by decide +kernel) (Nat.le_of_ble_eq_true rfl) rfl ?_
      refine zs_sub (ls' := [(0, sR 105), (1, sR 19), (3, sI 0), (4, sI 0)]) ⟨rfl, rfl, rfl, rfl, trivial⟩ ?_
      refine zs_lp (pc := 86) (fun (t7 : Int × Int) => [(0, sR 105), (1, sR 19), (3, sI t7.1), (4, sI t7.2)]) (fun _ => []) (fun K8 hK8 t7 => ?_) BIG (0, 0)
      refine zs_iload (pc := 86) (i := 4) C (by decide +kernel) rfl ?_
      refine zs_aload_n (pc := 88) (k := 1) (i := 1) C (by decide +kernel) rfl rfl ?_
      refine zs_getR (o' := 20) (pc := 89) (i := 24) (ci := 10) (k := 0) C (by decide +kernel) fl_RX2_24 rfl rfl rfl ?_
      refine zs_getI (pc := 92) (i := 30) (ci := 3) (k := 5) C (by decide +kernel) fl_RX2_30 rfl rfl (fun x9 => ?_)
      refine zs_icmp_ge (pc := 95) (off := 18) (tgt := 113) C (by decide +kernel) (by decide) ?_ ?_
      · refine zs_aload_n (pc := 113) (k := 0) (i := 0) C (by decide +kernel) rfl rfl ?_
        refine zs_getR (o' := 107) (pc := 114) (i := 15) (ci := 2) (k := 1) C (by decide +kernel) fl_RX2_15 rfl rfl rfl ?_
        refine zs_iconst (pc := 117) (n := 0) (x := 0) C (by decide +kernel) (by decide +kernel) ?_
        refine zs_ialdk (pc := 118) (o := 107) (n := 256) C (by decide) (by decide +kernel) rfl (fun x10 => ?_)
        exact zs_retWi (pc := 119) C hr ⟨Nat.le_of_ble_eq_true rfl, Nat.le_of_ble_eq_true rfl⟩ (by decide +kernel)
      · refine zs_aload_n (pc := 98) (k := 0) (i := 0) C (by decide +kernel) rfl rfl ?_
        refine zs_aload_n (pc := 99) (k := 1) (i := 1) C (by decide +kernel) rfl rfl ?_
        refine zs_iload_n (pc := 100) (k := 3) (i := 3) C (by decide +kernel) rfl rfl ?_
        refine zs_iload (pc := 101) (i := 4) C (by decide +kernel) rfl ?_
        refine zs_cvWi (pc := 103) (As := [sR 19, sI t7.1, sI t7.2]) (st := []) C (fun _ _ _ => rfl) rfl (c_X2_takeFirst l g t7.1 t7.2) ml_RX2_90 rfl rfl rfl rfl (Nat.le_of_ble_eq_true rfl) ⟨Nat.le_of_ble_eq_true rfl, Nat.le_of_ble_eq_true rfl⟩ ⟨Nat.le_of_ble_eq_true rfl, Nat.le_of_ble_eq_true rfl⟩ (by decide +kernel) (fun x11 => ?_)
        refine zs_istore_n (pc := 106) (k := 3) (i := 3) (ls' := [(3, sI x11), (0, sR 105), (1, sR 19), (4, sI t7.2)]) C (by decide +kernel) rfl (Nat.le_of_ble_eq_true rfl) rfl ?_
        refine zs_iinc (pc := 107) (i := 4) (n := 1) (y := w32 (t7.2 + 1)) (ls' := [(4, sI (w32 (t7.2 + 1))), (3, sI x11), (0, sR 105), (1, sR 19)]) C (by decide +kernel) rfl rfl (Nat.le_of_ble_eq_true rfl) rfl ?_
        refine zs_goto (pc := 110) (off := (-24)) (tgt := 86) C (by decide +kernel) (by decide) ?_
        exact zs_goj (hK8 (x11, w32 (t7.2 + 1))) ⟨rfl, rfl, rfl, rfl, trivial⟩
    · refine zs_iconst (pc := 79) (n := (-1)) (x := (-1)) C (by decide +kernel) (by decide +kernel) ?_
      exact zs_retWi (pc := 80) C hr ⟨Nat.le_of_ble_eq_true rfl, Nat.le_of_ble_eq_true rfl⟩ (by decide +kernel)
  · refine zs_iload_n (pc := 23) (k := 3) (i := 3) C (by decide +kernel) rfl rfl ?_
    refine zs_csRi (pc := 24) (As := [sI t4]) (st := []) C rfl (c_J6_bitCount_0f7a4 l g t4) ml_RX2_72 rfl rfl (Nat.le_of_ble_eq_true rfl) ⟨Nat.le_of_ble_eq_true rfl, Nat.le_of_ble_eq_true rfl⟩ ⟨Nat.le_of_ble_eq_true rfl, Nat.le_of_ble_eq_true rfl⟩ (by decide +kernel) (fun x12 => ?_)
    refine zs_iconst (pc := 27) (n := 2) (x := 2) C (by decide +kernel) (by decide +kernel) ?_
    refine zs_idiv (pc := 28) C (by decide +kernel) (by decide +kernel) ?_
    refine zs_let (fun x13 => ?_)
    refine zs_istore (pc := 29) (i := 4) (ls' := [(4, sI x13), (0, sR 105), (1, sR 19), (3, sI t4)]) C (by decide +kernel) (Nat.le_of_ble_eq_true rfl) rfl ?_
    refine zs_aload_n (pc := 31) (k := 0) (i := 0) C (by decide +kernel) rfl rfl ?_
    refine zs_getR (o' := 107) (pc := 32) (i := 15) (ci := 2) (k := 1) C (by decide +kernel) fl_RX2_15 rfl rfl rfl ?_
    refine zs_iload_n (pc := 35) (k := 3) (i := 3) C (by decide +kernel) rfl rfl ?_
    refine zs_iload (pc := 36) (i := 4) C (by decide +kernel) rfl ?_
    refine zs_aload_n (pc := 38) (k := 1) (i := 1) C (by decide +kernel) rfl rfl ?_
    refine zs_getR (o' := 20) (pc := 39) (i := 24) (ci := 10) (k := 0) C (by decide +kernel) fl_RX2_24 rfl rfl rfl ?_
    refine zs_getI (pc := 42) (i := 30) (ci := 3) (k := 5) C (by decide +kernel) fl_RX2_30 rfl rfl (fun x14 => ?_)
    refine zs_jn (pJ := 60) (kJ := 0) (sJ := 0) (fun t15 => [(0, sR 105), (1, sR 19), (3, sI t4)]) (fun t15 => [sI t15, sI t4, sR 107]) (fun t15 => ?_) (fun J16 hJ16 => ?_)
    · refine zs_iast (pc := 60) (o := 107) (n := 256) C (fun _ _ _ => rfl) (by decide +kernel) rfl ?_
      refine zs_iinc (pc := 61) (i := 3) (n := (-1)) (y := w32 (t4 + (-1))) (ls' := [(3, sI (w32 (t4 + (-1)))), (0, sR 105), (1, sR 19)]) C (by decide +kernel) rfl rfl (Nat.le_of_ble_eq_true rfl) rfl ?_
      refine zs_goto (pc := 64) (off := (-45)) (tgt := 19) C (by decide +kernel) (by decide) ?_
      exact zs_goj (hK5 (w32 (t4 + (-1)))) ⟨rfl, rfl, rfl, trivial⟩
    · refine zs_icmp_lt (pc := 45) (off := 7) (tgt := 52) C (by decide +kernel) (by decide) ?_ ?_
      · refine zs_aload_n (pc := 52) (k := 0) (i := 0) C (by decide +kernel) rfl rfl ?_
        refine zs_aload_n (pc := 53) (k := 1) (i := 1) C (by decide +kernel) rfl rfl ?_
        refine zs_iload_n (pc := 54) (k := 3) (i := 3) C (by decide +kernel) rfl rfl ?_
        refine zs_iload (pc := 55) (i := 4) C (by decide +kernel) rfl ?_
        refine zs_cvRi (pc := 57) (As := [sR 19, sI t4, sI x13]) (st := [sI t4, sR 107]) C rfl (c_X2_leastFrom l g t4 x13) ml_RX2_86 rfl rfl rfl rfl (Nat.le_of_ble_eq_true rfl) ⟨Nat.le_of_ble_eq_true rfl, Nat.le_of_ble_eq_true rfl⟩ ⟨Nat.le_of_ble_eq_true rfl, Nat.le_of_ble_eq_true rfl⟩ (by decide +kernel) (fun x17 => ?_)
        exact zs_goj (hJ16 x17) ⟨rfl, rfl, rfl, trivial⟩
      · refine zs_iconst (pc := 48) (n := 0) (x := 0) C (by decide +kernel) (by decide +kernel) ?_
        refine zs_goto (pc := 49) (off := 11) (tgt := 60) C (by decide +kernel) (by decide) ?_
        exact zs_goj (hJ16 0) ⟨rfl, rfl, rfl, trivial⟩
set_option maxRecDepth 20000 in
theorem c_X11_shortest (l : Launch) (g : GC) (hl : l.stackTraces = false) (a0 : Int) : ConT l g yX11_shortest cX11_shortest 4 (some .int) (rmd 7 1 6) [sR 0, sI a0] (fun mm => fX11_shortest a0 mm) := by
  refine zs_ofT (by decide +kernel) (Nat.le_of_ble_eq_true rfl) ?_
  intro p e s m args below meth c C hr hE
  replace C : Bd g RX11 cX11_shortest 4 p s m args meth c := C
  unfold fX11_shortest
  refine zs_iload_n (pc := 0) (k := 1) (i := 1) C (by decide +kernel) rfl rfl ?_
  refine zs_jn (pJ := 27) (kJ := 0) (sJ := 0) (fun t1 => [(0, sR 0), (1, sI a0)]) (fun t1 => []) (fun t1 => ?_) (fun J2 hJ2 => ?_)
  · refine zs_aload_n (pc := 27) (k := 0) (i := 0) C (by decide +kernel) rfl rfl ?_
    refine zs_getR (o' := 105) (pc := 28) (i := 76) (ci := 11) (k := 12) C (by decide +kernel) fl_RX11_76 rfl rfl rfl ?_
    refine zs_aload_n (pc := 31) (k := 0) (i := 0) C (by decide +kernel) rfl rfl ?_
    refine zs_getR (o' := 19) (pc := 32) (i := 41) (ci := 11) (k := 6) C (by decide +kernel) fl_RX11_41 rfl rfl rfl ?_
    refine zs_cvWi (pc := 35) (As := [sR 19]) (st := []) C (fun _ _ _ => rfl) rfl (c_X2_settle l g ) ml_RX11_329 rfl rfl rfl rfl (Nat.le_of_ble_eq_true rfl) ⟨Nat.le_of_ble_eq_true rfl, Nat.le_of_ble_eq_true rfl⟩ ⟨Nat.le_of_ble_eq_true rfl, Nat.le_of_ble_eq_true rfl⟩ (by decide +kernel) (fun x3 => ?_)
    refine zs_istore_n (pc := 38) (k := 2) (i := 2) (ls' := [(2, sI x3), (0, sR 0), (1, sI a0)]) C (by decide +kernel) rfl (Nat.le_of_ble_eq_true rfl) rfl ?_
    refine zs_iload_n (pc := 39) (k := 1) (i := 1) C (by decide +kernel) rfl rfl ?_
    refine zs_bipush (pc := 40) (n := 10) (x := 10) C (by decide +kernel) (by decide +kernel) ?_
    refine zs_isub (pc := 42) C (by decide +kernel) ?_
    refine zs_let (fun x4 => ?_)
    refine zs_istore_n (pc := 43) (k := 3) (i := 3) (ls' := [(3, sI x4), (2, sI x3), (0, sR 0), (1, sI a0)]) C (by decide +kernel) rfl (Nat.le_of_ble_eq_true rfl) rfl ?_
    refine zs_iload_n (pc := 44) (k := 1) (i := 1) C (by decide +kernel) rfl rfl ?_
    refine zs_jn (pJ := 53) (kJ := 0) (sJ := 0) (fun t5 => [(2, sI x3)]) (fun t5 => []) (fun t5 => ?_) (fun J6 hJ6 => ?_)
    · refine zs_iload_n (pc := 53) (k := 2) (i := 2) C (by decide +kernel) rfl rfl ?_
      exact zs_retTi (pc := 54) C hr ⟨Nat.le_of_ble_eq_true rfl, Nat.le_of_ble_eq_true rfl⟩ (by decide +kernel)
    · refine zs_if_eq (pc := 45) (off := 8) (tgt := 53) C (by decide +kernel) (by decide) ?_ ?_
      · exact zs_goj (hJ6 ()) ⟨rfl, trivial⟩
      · refine zs_iload_n (pc := 48) (k := 2) (i := 2) C (by decide +kernel) rfl rfl ?_
        refine zs_iconst (pc := 49) (n := (-1)) (x := (-1)) C (by decide +kernel) (by decide +kernel) ?_
        refine zs_icmp_ne (pc := 50) (off := 5) (tgt := 55) C (by decide +kernel) (by decide) ?_ ?_
        · refine zs_iload_n (pc := 55) (k := 3) (i := 3) C (by decide +kernel) rfl rfl ?_
          refine zs_iconst (pc := 56) (n := 2) (x := 2) C (by decide +kernel) (by decide +kernel) ?_
          refine zs_aload_n (pc := 57) (k := 0) (i := 0) C (by decide +kernel) rfl rfl ?_
          refine zs_getR (o' := 19) (pc := 58) (i := 41) (ci := 11) (k := 6) C (by decide +kernel) fl_RX11_41 rfl rfl rfl ?_
          refine zs_getR (o' := 20) (pc := 61) (i := 114) (ci := 10) (k := 0) C (by decide +kernel) fl_RX11_114 rfl rfl rfl ?_
          refine zs_getI (pc := 64) (i := 333) (ci := 3) (k := 5) C (by decide +kernel) fl_RX11_333 rfl rfl (fun x7 => ?_)
          refine zs_imul (pc := 67) C (by decide +kernel) ?_
          refine zs_jn (pJ := 84) (kJ := 0) (sJ := 0) (fun t8 => []) (fun t8 => [sI t8]) (fun t8 => ?_) (fun J9 hJ9 => ?_)
          · exact zs_retTi (pc := 84) C hr ⟨Nat.le_of_ble_eq_true rfl, Nat.le_of_ble_eq_true rfl⟩ (by decide +kernel)
          · refine zs_icmp_ge (pc := 68) (off := 15) (tgt := 83) C (by decide +kernel) (by decide) ?_ ?_
            · refine zs_iconst (pc := 83) (n := (-1)) (x := (-1)) C (by decide +kernel) (by decide +kernel) ?_
              exact zs_goj (hJ9 (-1)) trivial
            · refine zs_aload_n (pc := 71) (k := 0) (i := 0) C (by decide +kernel) rfl rfl ?_
              refine zs_getR (o' := 105) (pc := 72) (i := 76) (ci := 11) (k := 12) C (by decide +kernel) fl_RX11_76 rfl rfl rfl ?_
              refine zs_getR (o' := 109) (pc := 75) (i := 336) (ci := 2) (k := 3) C (by decide +kernel) fl_RX11_336 rfl rfl rfl ?_
              refine zs_iload_n (pc := 78) (k := 3) (i := 3) C (by decide +kernel) rfl rfl ?_
              refine zs_iald (pc := 79) (o := 109) (n := 8) C (by decide +kernel) rfl (fun hinx10 x10 => ?_)
              refine zs_goto (pc := 80) (off := 4) (tgt := 84) C (by decide +kernel) (by decide) ?_
              exact zs_goj (hJ9 x10) trivial
        · exact zs_goj (hJ6 ()) ⟨rfl, trivial⟩
  · refine zs_if_eq (pc := 1) (off := 26) (tgt := 27) C (by decide +kernel) (by decide) ?_ ?_
    · exact zs_goj (hJ2 ()) ⟨rfl, rfl, trivial⟩
    · refine zs_iload_n (pc := 4) (k := 1) (i := 1) C (by decide +kernel) rfl rfl ?_
      refine zs_bipush (pc := 5) (n := 10) (x := 10) C (by decide +kernel) (by decide +kernel) ?_
      refine zs_jn (pJ := 16) (kJ := 0) (sJ := 0) (fun t11 => []) (fun t11 => []) (fun t11 => ?_) (fun J12 hJ12 => ?_)
      · exact zs_throwW (pc := 16) (text := "what is 0 or 10 to 17") (ik := 85) (is_ := 327) (ic := 89) (k := 1) C hE hl ⟨by decide, rfl⟩ ⟨by decide +kernel, by decide +kernel⟩ wf_784 wf_161 (by decide +kernel) ex_RX11_89.1 ex_RX11_89.2 ⟨Nat.le_of_ble_eq_true rfl, Nat.le_of_ble_eq_true rfl, Nat.le_of_ble_eq_true rfl, Nat.le_of_ble_eq_true rfl⟩ ⟨Nat.le_of_ble_eq_true rfl, Nat.le_of_ble_eq_true rfl⟩ (by decide +kernel) (by decide +kernel) (by decide +kernel) (by decide +kernel) (by decide +kernel)
      · refine zs_icmp_lt (pc := 7) (off := 9) (tgt := 16) C (by decide +kernel) (by decide) ?_ ?_
        · exact zs_goj (hJ12 ()) trivial
        · refine zs_iload_n (pc := 10) (k := 1) (i := 1) C (by decide +kernel) rfl rfl ?_
          refine zs_bipush (pc := 11) (n := 17) (x := 17) C (by decide +kernel) (by decide +kernel) ?_
          refine zs_icmp_le (pc := 13) (off := 14) (tgt := 27) C (by decide +kernel) (by decide) ?_ ?_
          · exact zs_goj (hJ2 ()) ⟨rfl, rfl, trivial⟩
          · exact zs_goj (hJ12 ()) trivial
set_option maxRecDepth 20000 in
theorem c_X11_dear (l : Launch) (g : GC)  : ConW l g yX11_dear cX11_dear 3 (some .int) (rmd 6 0 0) [sR 0] (fun mm => fX11_dear  mm) := by
  refine zs_ofW (by decide +kernel) (Nat.le_of_ble_eq_true rfl) ?_
  intro p e s m args below meth c C hr
  replace C : Bd g RX11 cX11_dear 3 p s m args meth c := C
  unfold fX11_dear
  refine zs_aload_n (pc := 0) (k := 0) (i := 0) C (by decide +kernel) rfl rfl ?_
  refine zs_getR (o' := 105) (pc := 1) (i := 76) (ci := 11) (k := 12) C (by decide +kernel) fl_RX11_76 rfl rfl rfl ?_
  refine zs_aload_n (pc := 4) (k := 0) (i := 0) C (by decide +kernel) rfl rfl ?_
  refine zs_getR (o' := 19) (pc := 5) (i := 41) (ci := 11) (k := 6) C (by decide +kernel) fl_RX11_41 rfl rfl rfl ?_
  refine zs_iconst (pc := 8) (n := 0) (x := 0) C (by decide +kernel) (by decide +kernel) ?_
  refine zs_cvWi (pc := 9) (As := [sR 19, sI 0]) (st := []) C (fun _ _ _ => rfl) rfl (c_X2_waysWithout l g 0) ml_RX11_323 rfl rfl rfl rfl (Nat.le_of_ble_eq_true rfl) ⟨Nat.le_of_ble_eq_true rfl, Nat.le_of_ble_eq_true rfl⟩ ⟨Nat.le_of_ble_eq_true rfl, Nat.le_of_ble_eq_true rfl⟩ (by decide +kernel) (fun x1 => ?_)
  refine zs_if_ne (pc := 12) (off := 5) (tgt := 17) C (by decide +kernel) (by decide) ?_ ?_
  · refine zs_iconst (pc := 17) (n := 0) (x := 0) C (by decide +kernel) (by decide +kernel) ?_
    refine zs_istore_n (pc := 18) (k := 1) (i := 1) (ls' := [(1, sI 0), (0, sR 0)]) C (by decide +kernel) rfl (Nat.le_of_ble_eq_true rfl) rfl ?_
    refine zs_iconst (pc := 19) (n := 0) (x := 0) C (by decide +kernel) (by decide +kernel) ?_
    refine zs_istore_n (pc := 20) (k := 2) (i := 2) (ls' := [(2, sI 0), (1, sI 0), (0, sR 0)]) C (by decide +kernel) rfl (Nat.le_of_ble_eq_true rfl) rfl ?_
    refine zs_sub (ls' := [(0, sR 0), (1, sI 0), (2, sI 0)]) ⟨rfl, rfl, rfl, trivial⟩ ?_
    refine zs_lp (pc := 21) (fun (t2 : Int × Int) => [(0, sR 0), (1, sI t2.1), (2, sI t2.2)]) (fun _ => []) (fun K3 hK3 t2 => ?_) BIG (0, 0)
    refine zs_iload_n (pc := 21) (k := 2) (i := 2) C (by decide +kernel) rfl rfl ?_
    refine zs_aload_n (pc := 22) (k := 0) (i := 0) C (by decide +kernel) rfl rfl ?_
    refine zs_getR (o' := 19) (pc := 23) (i := 41) (ci := 11) (k := 6) C (by decide +kernel) fl_RX11_41 rfl rfl rfl ?_
    refine zs_getR (o' := 20) (pc := 26) (i := 114) (ci := 10) (k := 0) C (by decide +kernel) fl_RX11_114 rfl rfl rfl ?_
    refine zs_getI (pc := 29) (i := 168) (ci := 3) (k := 4) C (by decide +kernel) fl_RX11_168 rfl rfl (fun x4 => ?_)
    refine zs_icmp_ge (pc := 32) (off := 32) (tgt := 64) C (by decide +kernel) (by decide) ?_ ?_
    · refine zs_iload_n (pc := 64) (k := 1) (i := 1) C (by decide +kernel) rfl rfl ?_
      exact zs_retWi (pc := 65) C hr ⟨Nat.le_of_ble_eq_true rfl, Nat.le_of_ble_eq_true rfl⟩ (by decide +kernel)
    · refine zs_aload_n (pc := 35) (k := 0) (i := 0) C (by decide +kernel) rfl rfl ?_
      refine zs_getR (o' := 105) (pc := 36) (i := 76) (ci := 11) (k := 12) C (by decide +kernel) fl_RX11_76 rfl rfl rfl ?_
      refine zs_aload_n (pc := 39) (k := 0) (i := 0) C (by decide +kernel) rfl rfl ?_
      refine zs_getR (o' := 19) (pc := 40) (i := 41) (ci := 11) (k := 6) C (by decide +kernel) fl_RX11_41 rfl rfl rfl ?_
      refine zs_iconst (pc := 43) (n := 1) (x := 1) C (by decide +kernel) (by decide +kernel) ?_
      refine zs_iload_n (pc := 44) (k := 2) (i := 2) C (by decide +kernel) rfl rfl ?_
      refine zs_ishl (pc := 45) C (by decide +kernel) ?_
      refine zs_cvWi (pc := 46) (As := [sR 19, sI (ishl 1 t2.2)]) (st := []) C (fun _ _ _ => rfl) rfl (c_X2_waysWithout l g (ishl 1 t2.2)) ml_RX11_323 rfl rfl rfl rfl (Nat.le_of_ble_eq_true rfl) ⟨Nat.le_of_ble_eq_true rfl, Nat.le_of_ble_eq_true rfl⟩ ⟨Nat.le_of_ble_eq_true rfl, Nat.le_of_ble_eq_true rfl⟩ (by decide +kernel) (fun x5 => ?_)
      refine zs_jn (pJ := 58) (kJ := 0) (sJ := 0) (fun t6 => [(0, sR 0), (1, sI t6), (2, sI t2.2)]) (fun t6 => []) (fun t6 => ?_) (fun J7 hJ7 => ?_)
      · refine zs_iinc (pc := 58) (i := 2) (n := 1) (y := w32 (t2.2 + 1)) (ls' := [(2, sI (w32 (t2.2 + 1))), (0, sR 0), (1, sI t6)]) C (by decide +kernel) rfl rfl (Nat.le_of_ble_eq_true rfl) rfl ?_
        refine zs_goto (pc := 61) (off := (-40)) (tgt := 21) C (by decide +kernel) (by decide) ?_
        exact zs_goj (hK3 (t6, w32 (t2.2 + 1))) ⟨rfl, rfl, rfl, trivial⟩
      · refine zs_if_ne (pc := 49) (off := 9) (tgt := 58) C (by decide +kernel) (by decide) ?_ ?_
        · exact zs_goj (hJ7 t2.1) ⟨rfl, rfl, rfl, trivial⟩
        · refine zs_iload_n (pc := 52) (k := 1) (i := 1) C (by decide +kernel) rfl rfl ?_
          refine zs_iconst (pc := 53) (n := 1) (x := 1) C (by decide +kernel) (by decide +kernel) ?_
          refine zs_iload_n (pc := 54) (k := 2) (i := 2) C (by decide +kernel) rfl rfl ?_
          refine zs_ishl (pc := 55) C (by decide +kernel) ?_
          refine zs_ior (pc := 56) C (by decide +kernel) ?_
          refine zs_let (fun x8 => ?_)
          refine zs_istore_n (pc := 57) (k := 1) (i := 1) (ls' := [(1, sI x8), (0, sR 0), (2, sI t2.2)]) C (by decide +kernel) rfl (Nat.le_of_ble_eq_true rfl) rfl ?_
          exact zs_goj (hJ7 x8) ⟨rfl, rfl, rfl, trivial⟩
  · refine zs_iconst (pc := 15) (n := 0) (x := 0) C (by decide +kernel) (by decide +kernel) ?_
    exact zs_retWi (pc := 16) C hr ⟨Nat.le_of_ble_eq_true rfl, Nat.le_of_ble_eq_true rfl⟩ (by decide +kernel)
set_option maxRecDepth 20000 in
theorem c_X11_needSeen (l : Launch) (g : GC) (hl : l.stackTraces = false) (a0 : Int) (a1 : Int) (a2 : Int) : ConT l g yX11_needSeen cX11_needSeen 8 none (rmd 9 5 30) [sR 0, sI a0, sI a1, sI a2] (fun mm => fX11_needSeen a0 a1 a2 mm) := by
  refine zs_ofT (by decide +kernel) (Nat.le_of_ble_eq_true rfl) ?_
  intro p e s m args below meth c C hr hE
  replace C : Bd g RX11 cX11_needSeen 8 p s m args meth c := C
  unfold fX11_needSeen
  refine zs_aload_n (pc := 0) (k := 0) (i := 0) C (by decide +kernel) rfl rfl ?_
  refine zs_iload_n (pc := 1) (k := 1) (i := 1) C (by decide +kernel) rfl rfl ?_
  refine zs_cvTv (pc := 2) (As := [sI a0]) (st := []) C hE (c_X11_needPair l g hl a0) ml_RX11_134 rfl rfl rfl rfl (Nat.le_of_ble_eq_true rfl) ⟨Nat.le_of_ble_eq_true rfl, Nat.le_of_ble_eq_true rfl⟩ ⟨Nat.le_of_ble_eq_true rfl, Nat.le_of_ble_eq_true rfl⟩ ⟨Nat.le_of_ble_eq_true rfl, Nat.le_of_ble_eq_true rfl⟩ (by decide +kernel) ?_
  refine zs_aload_n (pc := 5) (k := 0) (i := 0) C (by decide +kernel) rfl rfl ?_
  refine zs_iload_n (pc := 6) (k := 2) (i := 2) C (by decide +kernel) rfl rfl ?_
  refine zs_cvTv (pc := 7) (As := [sI a1]) (st := []) C hE (c_X11_needRow l g hl a1) ml_RX11_224 rfl rfl rfl rfl (Nat.le_of_ble_eq_true rfl) ⟨Nat.le_of_ble_eq_true rfl, Nat.le_of_ble_eq_true rfl⟩ ⟨Nat.le_of_ble_eq_true rfl, Nat.le_of_ble_eq_true rfl⟩ ⟨Nat.le_of_ble_eq_true rfl, Nat.le_of_ble_eq_true rfl⟩ (by decide +kernel) ?_
  refine zs_aload_n (pc := 10) (k := 0) (i := 0) C (by decide +kernel) rfl rfl ?_
  refine zs_getR (o' := 88) (pc := 11) (i := 55) (ci := 11) (k := 9) C (by decide +kernel) fl_RX11_55 rfl rfl rfl ?_
  refine zs_getR (o' := 95) (pc := 14) (i := 227) (ci := 9) (k := 2) C (by decide +kernel) fl_RX11_227 rfl rfl rfl ?_
  refine zs_iload_n (pc := 17) (k := 2) (i := 2) C (by decide +kernel) rfl rfl ?_
  refine zs_iald (pc := 18) (o := 95) (n := 4) C (by decide +kernel) rfl (fun hinx1 x1 => ?_)
  refine zs_istore (pc := 19) (i := 4) (ls' := [(4, sI x1), (0, sR 0), (1, sI a0), (2, sI a1), (3, sI a2)]) C (by decide +kernel) (Nat.le_of_ble_eq_true rfl) rfl ?_
  refine zs_aload_n (pc := 21) (k := 0) (i := 0) C (by decide +kernel) rfl rfl ?_
  refine zs_iload (pc := 22) (i := 4) C (by decide +kernel) rfl ?_
  refine zs_iconst (pc := 24) (n := 1) (x := 1) C (by decide +kernel) (by decide +kernel) ?_
  refine zs_iload_n (pc := 25) (k := 3) (i := 3) C (by decide +kernel) rfl rfl ?_
  refine zs_cvTv (pc := 26) (As := [sI x1, sI 1, sI a2]) (st := []) C hE (c_X11_needWithin l g hl x1 1 a2) ml_RX11_179 rfl rfl rfl rfl (Nat.le_of_ble_eq_true rfl) ⟨Nat.le_of_ble_eq_true rfl, Nat.le_of_ble_eq_true rfl⟩ ⟨Nat.le_of_ble_eq_true rfl, Nat.le_of_ble_eq_true rfl⟩ ⟨Nat.le_of_ble_eq_true rfl, Nat.le_of_ble_eq_true rfl⟩ (by decide +kernel) ?_
  refine zs_iconst (pc := 29) (n := 0) (x := 0) C (by decide +kernel) (by decide +kernel) ?_
  refine zs_istore (pc := 30) (i := 5) (ls' := [(5, sI 0), (4, sI x1), (0, sR 0), (1, sI a0), (2, sI a1), (3, sI a2)]) C (by decide +kernel) (Nat.le_of_ble_eq_true rfl) rfl ?_
  refine zs_sub (ls' := [(0, sR 0), (2, sI a1), (4, sI x1), (5, sI 0)]) ⟨rfl, rfl, rfl, rfl, trivial⟩ ?_
  refine zs_lp (pc := 32) (fun (t2 : Int) => [(0, sR 0), (2, sI a1), (4, sI x1), (5, sI t2)]) (fun _ => []) (fun K3 hK3 t2 => ?_) BIG 0
  refine zs_iload (pc := 32) (i := 5) C (by decide +kernel) rfl ?_
  refine zs_iload (pc := 34) (i := 4) C (by decide +kernel) rfl ?_
  refine zs_icmp_ge (pc := 36) (off := 58) (tgt := 94) C (by decide +kernel) (by decide) ?_ ?_
  · exact zs_retTv (pc := 94) C hr ⟨Nat.le_of_ble_eq_true rfl, Nat.le_of_ble_eq_true rfl⟩ (by decide +kernel)
  · refine zs_aload_n (pc := 39) (k := 0) (i := 0) C (by decide +kernel) rfl rfl ?_
    refine zs_getR (o' := 88) (pc := 40) (i := 55) (ci := 11) (k := 9) C (by decide +kernel) fl_RX11_55 rfl rfl rfl ?_
    refine zs_iload_n (pc := 43) (k := 2) (i := 2) C (by decide +kernel) rfl rfl ?_
    refine zs_iload (pc := 44) (i := 5) C (by decide +kernel) rfl ?_
    refine zs_cvRl (pc := 46) (As := [sI a1, sI t2]) (st := []) C (c_X9_at l g a1 t2) ml_RX11_233 rfl rfl rfl rfl (Nat.le_of_ble_eq_true rfl) ⟨Nat.le_of_ble_eq_true rfl, Nat.le_of_ble_eq_true rfl⟩ ⟨Nat.le_of_ble_eq_true rfl, Nat.le_of_ble_eq_true rfl⟩ (by decide +kernel) (fun x4 => ?_)
    refine zs_lstore (pc := 49) (i := 6) (ls' := [(6, sL x4), (0, sR 0), (2, sI a1), (4, sI x1), (5, sI t2)]) C (by decide +kernel) (Nat.le_of_ble_eq_true rfl) rfl ?_
    refine zs_lload (pc := 51) (i := 6) C (by decide +kernel) rfl ?_
    refine zs_ldc2 (pc := 53) (i := 425) (v := (-1)) (x := (-1)) C (by decide +kernel) wf_1642 (by decide +kernel) ?_
    refine zs_jn (pJ := 77) (kJ := 4) (sJ := 24) (fun t5 => []) (fun t5 => []) (fun t5 => ?_) (fun J6 hJ6 => ?_)
    · exact zs_throwW (pc := 77) (text := "no place and not NONE") (ik := 85) (is_ := 427) (ic := 89) (k := 1) C hE hl ⟨by decide, rfl⟩ ⟨by decide +kernel, by decide +kernel⟩ wf_784 wf_161 (by decide +kernel) ex_RX11_89.1 ex_RX11_89.2 ⟨Nat.le_of_ble_eq_true rfl, Nat.le_of_ble_eq_true rfl, Nat.le_of_ble_eq_true rfl, Nat.le_of_ble_eq_true rfl⟩ ⟨Nat.le_of_ble_eq_true rfl, Nat.le_of_ble_eq_true rfl⟩ (by decide +kernel) (by decide +kernel) (by decide +kernel) (by decide +kernel) (by decide +kernel)
    · refine zs_lcmp_lt (pc := 56) (off := 20) (tgt := 77) C (by decide +kernel) (by decide +kernel) (by decide) ?_ ?_
      · exact zs_goj (hJ6 ()) trivial
      · refine zs_lload (pc := 60) (i := 6) C (by decide +kernel) rfl ?_
        refine zs_aload_n (pc := 62) (k := 0) (i := 0) C (by decide +kernel) rfl rfl ?_
        refine zs_getR (o' := 19) (pc := 63) (i := 41) (ci := 11) (k := 6) C (by decide +kernel) fl_RX11_41 rfl rfl rfl ?_
        refine zs_getR (o' := 20) (pc := 66) (i := 114) (ci := 10) (k := 0) C (by decide +kernel) fl_RX11_114 rfl rfl rfl ?_
        refine zs_cvRi (pc := 69) (As := []) (st := [sL x4]) C rfl (c_X3_places l g ) ml_RX11_403 rfl rfl rfl rfl (Nat.le_of_ble_eq_true rfl) ⟨Nat.le_of_ble_eq_true rfl, Nat.le_of_ble_eq_true rfl⟩ ⟨Nat.le_of_ble_eq_true rfl, Nat.le_of_ble_eq_true rfl⟩ (by decide +kernel) (fun x7 => ?_)
        refine zs_i2l (pc := 72) C (by decide +kernel) ?_
        refine zs_lcmp_lt (pc := 73) (off := 14) (tgt := 88) C (by decide +kernel) (by decide +kernel) (by decide) ?_ ?_
        · refine zs_iinc (pc := 88) (i := 5) (n := 1) (y := w32 (t2 + 1)) (ls' := [(5, sI (w32 (t2 + 1))), (6, sL x4), (0, sR 0), (2, sI a1), (4, sI x1)]) C (by decide +kernel) rfl rfl (Nat.le_of_ble_eq_true rfl) rfl ?_
          refine zs_goto (pc := 91) (off := (-59)) (tgt := 32) C (by decide +kernel) (by decide) ?_
          exact zs_goj (hK3 (w32 (t2 + 1))) ⟨rfl, rfl, rfl, rfl, trivial⟩
        · exact zs_goj (hJ6 ()) trivial
set_option maxRecDepth 20000 in
theorem c_X0_watchTo (l : Launch) (g : GC) (a0 : Int) (a1 : Int) : ConW l g yX0_watchTo cX0_watchTo 5 (some .boolean) (rmd 6 0 0) [sR 18, sI a0, sI a1] (fun mm => fX0_watchTo a0 a1 mm) := by
  refine zs_ofW (by decide +kernel) (Nat.le_of_ble_eq_true rfl) ?_
  intro p e s m args below meth c C hr
  replace C : Bd g RX0 cX0_watchTo 5 p s m args meth c := C
  unfold fX0_watchTo
  refine zs_aload_n (pc := 0) (k := 0) (i := 0) C (by decide +kernel) rfl rfl ?_
  refine zs_iload_n (pc := 1) (k := 1) (i := 1) C (by decide +kernel) rfl rfl ?_
  refine zs_cvWi (pc := 2) (As := [sI a0]) (st := []) C (fun _ _ _ => rfl) rfl (c_X0_goOn l g a0) ml_RX0_173 rfl rfl rfl rfl (Nat.le_of_ble_eq_true rfl) ⟨Nat.le_of_ble_eq_true rfl, Nat.le_of_ble_eq_true rfl⟩ ⟨Nat.le_of_ble_eq_true rfl, Nat.le_of_ble_eq_true rfl⟩ (by decide +kernel) (fun x1 => ?_)
  refine zs_if_ne (pc := 5) (off := 5) (tgt := 10) C (by decide +kernel) (by decide) ?_ ?_
  · refine zs_iconst (pc := 10) (n := 0) (x := 0) C (by decide +kernel) (by decide +kernel) ?_
    refine zs_istore_n (pc := 11) (k := 3) (i := 3) (ls' := [(3, sI 0), (0, sR 18), (1, sI a0), (2, sI a1)]) C (by decide +kernel) rfl (Nat.le_of_ble_eq_true rfl) rfl ?_
    refine zs_iconst (pc := 12) (n := 0) (x := 0) C (by decide +kernel) (by decide +kernel) ?_
    refine zs_istore (pc := 13) (i := 4) (ls' := [(4, sI 0), (3, sI 0), (0, sR 18), (1, sI a0), (2, sI a1)]) C (by decide +kernel) (Nat.le_of_ble_eq_true rfl) rfl ?_
    refine zs_sub (ls' := [(0, sR 18), (1, sI a0), (2, sI a1), (3, sI 0), (4, sI 0)]) ⟨rfl, rfl, rfl, rfl, rfl, trivial⟩ ?_
    refine zs_lp (pc := 15) (fun (t2 : Int × Int) => [(0, sR 18), (1, sI a0), (2, sI a1), (3, sI t2.1), (4, sI t2.2)]) (fun _ => []) (fun K3 hK3 t2 => ?_) BIG (0, 0)
    refine zs_iload (pc := 15) (i := 4) C (by decide +kernel) rfl ?_
    refine zs_aload_n (pc := 17) (k := 0) (i := 0) C (by decide +kernel) rfl rfl ?_
    refine zs_getI (pc := 18) (i := 43) (ci := 0) (k := 9) C (by decide +kernel) fl_RX0_43 rfl rfl (fun x4 => ?_)
    refine zs_icmp_ge (pc := 21) (off := 48) (tgt := 69) C (by decide +kernel) (by decide) ?_ ?_
    · refine zs_iload_n (pc := 69) (k := 3) (i := 3) C (by decide +kernel) rfl rfl ?_
      refine zs_jn (pJ := 78) (kJ := 0) (sJ := 0) (fun t5 => []) (fun t5 => [sI t5]) (fun t5 => ?_) (fun J6 hJ6 => ?_)
      · refine zs_chk (fun _ hx => ?_)
        exact zs_retWz (pc := 78) C hx hr ⟨Nat.le_of_ble_eq_true rfl, Nat.le_of_ble_eq_true rfl⟩ (by decide +kernel)
      · refine zs_if_eq (pc := 70) (off := 7) (tgt := 77) C (by decide +kernel) (by decide) ?_ ?_
        · refine zs_iconst (pc := 77) (n := 0) (x := 0) C (by decide +kernel) (by decide +kernel) ?_
          exact zs_goj (hJ6 0) trivial
        · refine zs_iconst (pc := 73) (n := 1) (x := 1) C (by decide +kernel) (by decide +kernel) ?_
          refine zs_goto (pc := 74) (off := 4) (tgt := 78) C (by decide +kernel) (by decide) ?_
          exact zs_goj (hJ6 1) trivial
    · refine zs_iload_n (pc := 24) (k := 2) (i := 2) C (by decide +kernel) rfl rfl ?_
      refine zs_iconst (pc := 25) (n := (-1)) (x := (-1)) C (by decide +kernel) (by decide +kernel) ?_
      refine zs_jn (pJ := 48) (kJ := 0) (sJ := 0) (fun t7 => [(0, sR 18), (1, sI a0), (2, sI a1), (3, sI t2.1), (4, sI t2.2)]) (fun t7 => []) (fun t7 => ?_) (fun J8 hJ8 => ?_)
      · refine zs_iload_n (pc := 48) (k := 3) (i := 3) C (by decide +kernel) rfl rfl ?_
        refine zs_aload_n (pc := 49) (k := 0) (i := 0) C (by decide +kernel) rfl rfl ?_
        refine zs_getR (o' := 82) (pc := 50) (i := 31) (ci := 0) (k := 5) C (by decide +kernel) fl_RX0_31 rfl rfl rfl ?_
        refine zs_iload_n (pc := 53) (k := 1) (i := 1) C (by decide +kernel) rfl rfl ?_
        refine zs_bipush (pc := 54) (n := 25) (x := 25) C (by decide +kernel) (by decide +kernel) ?_
        refine zs_imul (pc := 56) C (by decide +kernel) ?_
        refine zs_iload (pc := 57) (i := 4) C (by decide +kernel) rfl ?_
        refine zs_iadd (pc := 59) C (by decide +kernel) ?_
        refine zs_iald (pc := 60) (o := 82) (n := 1025) C (by decide +kernel) rfl (fun hinx9 x9 => ?_)
        refine zs_ior (pc := 61) C (by decide +kernel) ?_
        refine zs_let (fun x10 => ?_)
        refine zs_istore_n (pc := 62) (k := 3) (i := 3) (ls' := [(3, sI x10), (0, sR 18), (1, sI a0), (2, sI a1), (4, sI t2.2)]) C (by decide +kernel) rfl (Nat.le_of_ble_eq_true rfl) rfl ?_
        refine zs_iinc (pc := 63) (i := 4) (n := 1) (y := w32 (t2.2 + 1)) (ls' := [(4, sI (w32 (t2.2 + 1))), (3, sI x10), (0, sR 18), (1, sI a0), (2, sI a1)]) C (by decide +kernel) rfl rfl (Nat.le_of_ble_eq_true rfl) rfl ?_
        refine zs_goto (pc := 66) (off := (-51)) (tgt := 15) C (by decide +kernel) (by decide) ?_
        exact zs_goj (hK3 (x10, w32 (t2.2 + 1))) ⟨rfl, rfl, rfl, rfl, rfl, trivial⟩
      · refine zs_icmp_eq (pc := 26) (off := 22) (tgt := 48) C (by decide +kernel) (by decide) ?_ ?_
        · exact zs_goj (hJ8 ()) ⟨rfl, rfl, rfl, rfl, rfl, trivial⟩
        · refine zs_iload (pc := 29) (i := 4) C (by decide +kernel) rfl ?_
          refine zs_iload_n (pc := 31) (k := 2) (i := 2) C (by decide +kernel) rfl rfl ?_
          refine zs_icmp_eq (pc := 32) (off := 16) (tgt := 48) C (by decide +kernel) (by decide) ?_ ?_
          · exact zs_goj (hJ8 ()) ⟨rfl, rfl, rfl, rfl, rfl, trivial⟩
          · refine zs_aload_n (pc := 35) (k := 0) (i := 0) C (by decide +kernel) rfl rfl ?_
            refine zs_getR (o' := 82) (pc := 36) (i := 31) (ci := 0) (k := 5) C (by decide +kernel) fl_RX0_31 rfl rfl rfl ?_
            refine zs_iload_n (pc := 39) (k := 1) (i := 1) C (by decide +kernel) rfl rfl ?_
            refine zs_bipush (pc := 40) (n := 25) (x := 25) C (by decide +kernel) (by decide +kernel) ?_
            refine zs_imul (pc := 42) C (by decide +kernel) ?_
            refine zs_iload (pc := 43) (i := 4) C (by decide +kernel) rfl ?_
            refine zs_iadd (pc := 45) C (by decide +kernel) ?_
            refine zs_iconst (pc := 46) (n := 0) (x := 0) C (by decide +kernel) (by decide +kernel) ?_
            refine zs_iast (pc := 47) (o := 82) (n := 1025) C (fun _ _ _ => rfl) (by decide +kernel) rfl ?_
            exact zs_goj (hJ8 ()) ⟨rfl, rfl, rfl, rfl, rfl, trivial⟩
  · refine zs_iconst (pc := 8) (n := 0) (x := 0) C (by decide +kernel) (by decide +kernel) ?_
    exact zs_retWz (pc := 9) C (by decide) hr ⟨Nat.le_of_ble_eq_true rfl, Nat.le_of_ble_eq_true rfl⟩ (by decide +kernel)
set_option maxRecDepth 20000 in
theorem c_X11_other (l : Launch) (g : GC) (hl : l.stackTraces = false) (a0 : Int) (a1 : Int) : ConT l g yX11_other cX11_other 5 (some .int) (rmd 10 5 30) [sR 0, sI a0, sI a1] (fun mm => fX11_other a0 a1 mm) := by
  refine zs_ofT (by decide +kernel) (Nat.le_of_ble_eq_true rfl) ?_
  intro p e s m args below meth c C hr hE
  replace C : Bd g RX11 cX11_other 5 p s m args meth c := C
  unfold fX11_other
  refine zs_aload_n (pc := 0) (k := 0) (i := 0) C (by decide +kernel) rfl rfl ?_
  refine zs_iload_n (pc := 1) (k := 1) (i := 1) C (by decide +kernel) rfl rfl ?_
  refine zs_iload_n (pc := 2) (k := 2) (i := 2) C (by decide +kernel) rfl rfl ?_
  refine zs_bipush (pc := 3) (n := 20) (x := 20) C (by decide +kernel) (by decide +kernel) ?_
  refine zs_cvTv (pc := 5) (As := [sI a0, sI a1, sI 20]) (st := []) C hE (c_X11_needSeen l g hl a0 a1 20) ml_RX11_339 rfl rfl rfl rfl (Nat.le_of_ble_eq_true rfl) ⟨Nat.le_of_ble_eq_true rfl, Nat.le_of_ble_eq_true rfl⟩ ⟨Nat.le_of_ble_eq_true rfl, Nat.le_of_ble_eq_true rfl⟩ ⟨Nat.le_of_ble_eq_true rfl, Nat.le_of_ble_eq_true rfl⟩ (by decide +kernel) ?_
  refine zs_aload_n (pc := 8) (k := 0) (i := 0) C (by decide +kernel) rfl rfl ?_
  refine zs_getR (o' := 88) (pc := 9) (i := 55) (ci := 11) (k := 9) C (by decide +kernel) fl_RX11_55 rfl rfl rfl ?_
  refine zs_getR (o' := 95) (pc := 12) (i := 227) (ci := 9) (k := 2) C (by decide +kernel) fl_RX11_227 rfl rfl rfl ?_
  refine zs_iload_n (pc := 15) (k := 2) (i := 2) C (by decide +kernel) rfl rfl ?_
  refine zs_iald (pc := 16) (o := 95) (n := 4) C (by decide +kernel) rfl (fun hinx1 x1 => ?_)
  refine zs_istore_n (pc := 17) (k := 3) (i := 3) (ls' := [(3, sI x1), (0, sR 0), (1, sI a0), (2, sI a1)]) C (by decide +kernel) rfl (Nat.le_of_ble_eq_true rfl) rfl ?_
  refine zs_aload_n (pc := 18) (k := 0) (i := 0) C (by decide +kernel) rfl rfl ?_
  refine zs_getR (o' := 18) (pc := 19) (i := 33) (ci := 11) (k := 5) C (by decide +kernel) fl_RX11_33 rfl rfl rfl ?_
  refine zs_iload_n (pc := 22) (k := 1) (i := 1) C (by decide +kernel) rfl rfl ?_
  refine zs_cvVv (pc := 23) (As := [sI a0]) (st := []) C (fun _ _ _ => rfl) (c_X0_begin l g a0) ml_RX11_251 rfl rfl rfl rfl (Nat.le_of_ble_eq_true rfl) ⟨Nat.le_of_ble_eq_true rfl, Nat.le_of_ble_eq_true rfl⟩ ⟨Nat.le_of_ble_eq_true rfl, Nat.le_of_ble_eq_true rfl⟩ (by decide +kernel) ?_
  refine zs_aload_n (pc := 26) (k := 0) (i := 0) C (by decide +kernel) rfl rfl ?_
  refine zs_getR (o' := 18) (pc := 27) (i := 33) (ci := 11) (k := 5) C (by decide +kernel) fl_RX11_33 rfl rfl rfl ?_
  refine zs_cvVv (pc := 30) (As := []) (st := []) C (fun _ _ _ => rfl) (c_X0_start l g ) ml_RX11_342 rfl rfl rfl rfl (Nat.le_of_ble_eq_true rfl) ⟨Nat.le_of_ble_eq_true rfl, Nat.le_of_ble_eq_true rfl⟩ ⟨Nat.le_of_ble_eq_true rfl, Nat.le_of_ble_eq_true rfl⟩ (by decide +kernel) ?_
  refine zs_iconst (pc := 33) (n := 1) (x := 1) C (by decide +kernel) (by decide +kernel) ?_
  refine zs_istore (pc := 34) (i := 4) (ls' := [(4, sI 1), (3, sI x1), (0, sR 0), (1, sI a0), (2, sI a1)]) C (by decide +kernel) (Nat.le_of_ble_eq_true rfl) rfl ?_
  refine zs_sub (ls' := [(0, sR 0), (2, sI a1), (3, sI x1), (4, sI 1)]) ⟨rfl, rfl, rfl, rfl, trivial⟩ ?_
  refine zs_lp (pc := 36) (fun (t2 : Int) => [(0, sR 0), (2, sI a1), (3, sI x1), (4, sI t2)]) (fun _ => []) (fun K3 hK3 t2 => ?_) BIG 1
  refine zs_iload (pc := 36) (i := 4) C (by decide +kernel) rfl ?_
  refine zs_iload_n (pc := 38) (k := 3) (i := 3) C (by decide +kernel) rfl rfl ?_
  refine zs_icmp_gt (pc := 39) (off := 36) (tgt := 75) C (by decide +kernel) (by decide) ?_ ?_
  · refine zs_aload_n (pc := 75) (k := 0) (i := 0) C (by decide +kernel) rfl rfl ?_
    refine zs_getR (o' := 18) (pc := 76) (i := 33) (ci := 11) (k := 5) C (by decide +kernel) fl_RX11_33 rfl rfl rfl ?_
    refine zs_iconst (pc := 79) (n := 1) (x := 1) C (by decide +kernel) (by decide +kernel) ?_
    refine zs_iload_n (pc := 80) (k := 3) (i := 3) C (by decide +kernel) rfl rfl ?_
    refine zs_cvRi (pc := 81) (As := [sI 1, sI x1]) (st := []) C rfl (c_X0_whereIs l g 1 x1) ml_RX11_259 rfl rfl rfl rfl (Nat.le_of_ble_eq_true rfl) ⟨Nat.le_of_ble_eq_true rfl, Nat.le_of_ble_eq_true rfl⟩ ⟨Nat.le_of_ble_eq_true rfl, Nat.le_of_ble_eq_true rfl⟩ (by decide +kernel) (fun x4 => ?_)
    exact zs_retTi (pc := 84) C hr ⟨Nat.le_of_ble_eq_true rfl, Nat.le_of_ble_eq_true rfl⟩ (by decide +kernel)
  · refine zs_aload_n (pc := 42) (k := 0) (i := 0) C (by decide +kernel) rfl rfl ?_
    refine zs_getR (o' := 18) (pc := 43) (i := 33) (ci := 11) (k := 5) C (by decide +kernel) fl_RX11_33 rfl rfl rfl ?_
    refine zs_iload (pc := 46) (i := 4) C (by decide +kernel) rfl ?_
    refine zs_aload_n (pc := 48) (k := 0) (i := 0) C (by decide +kernel) rfl rfl ?_
    refine zs_getR (o' := 88) (pc := 49) (i := 55) (ci := 11) (k := 9) C (by decide +kernel) fl_RX11_55 rfl rfl rfl ?_
    refine zs_iload_n (pc := 52) (k := 2) (i := 2) C (by decide +kernel) rfl rfl ?_
    refine zs_iload (pc := 53) (i := 4) C (by decide +kernel) rfl ?_
    refine zs_iconst (pc := 55) (n := 1) (x := 1) C (by decide +kernel) (by decide +kernel) ?_
    refine zs_isub (pc := 56) C (by decide +kernel) ?_
    refine zs_cvRl (pc := 57) (As := [sI a1, sI (w32 (t2 - 1))]) (st := [sI t2, sR 18]) C (c_X9_at l g a1 (w32 (t2 - 1))) ml_RX11_233 rfl rfl rfl rfl (Nat.le_of_ble_eq_true rfl) ⟨Nat.le_of_ble_eq_true rfl, Nat.le_of_ble_eq_true rfl⟩ ⟨Nat.le_of_ble_eq_true rfl, Nat.le_of_ble_eq_true rfl⟩ (by decide +kernel) (fun x5 => ?_)
    refine zs_l2i (pc := 60) C (by decide +kernel) ?_
    refine zs_cvWi (pc := 61) (As := [sI t2, sI (w32 x5)]) (st := []) C (fun _ _ _ => rfl) rfl (c_X0_watchTo l g t2 (w32 x5)) ml_RX11_344 rfl rfl rfl rfl (Nat.le_of_ble_eq_true rfl) ⟨Nat.le_of_ble_eq_true rfl, Nat.le_of_ble_eq_true rfl⟩ ⟨Nat.le_of_ble_eq_true rfl, Nat.le_of_ble_eq_true rfl⟩ (by decide +kernel) (fun x6 => ?_)
    refine zs_if_ne (pc := 64) (off := 5) (tgt := 69) C (by decide +kernel) (by decide) ?_ ?_
    · refine zs_iinc (pc := 69) (i := 4) (n := 1) (y := w32 (t2 + 1)) (ls' := [(4, sI (w32 (t2 + 1))), (0, sR 0), (2, sI a1), (3, sI x1)]) C (by decide +kernel) rfl rfl (Nat.le_of_ble_eq_true rfl) rfl ?_
      refine zs_goto (pc := 72) (off := (-36)) (tgt := 36) C (by decide +kernel) (by decide) ?_
      exact zs_goj (hK3 (w32 (t2 + 1))) ⟨rfl, rfl, rfl, rfl, trivial⟩
    · refine zs_iconst (pc := 67) (n := 0) (x := 0) C (by decide +kernel) (by decide +kernel) ?_
      exact zs_retTi (pc := 68) C hr ⟨Nat.le_of_ble_eq_true rfl, Nat.le_of_ble_eq_true rfl⟩ (by decide +kernel)
set_option maxRecDepth 20000 in
theorem c_X11_countSeen (l : Launch) (g : GC) (a0 : Int) (a1 : Int) : ConV l g yX11_countSeen cX11_countSeen 5 (rmd 6 0 0) [sR 0, sI a0, sI a1] (fun mm => fX11_countSeen a0 a1 mm) := by
  refine zs_ofV (by decide +kernel) (Nat.le_of_ble_eq_true rfl) ?_
  intro p e s m args below meth c C hr
  replace C : Bd g RX11 cX11_countSeen 5 p s m args meth c := C
  unfold fX11_countSeen
  refine zs_aload_n (pc := 0) (k := 0) (i := 0) C (by decide +kernel) rfl rfl ?_
  refine zs_getR (o' := 18) (pc := 1) (i := 33) (ci := 11) (k := 5) C (by decide +kernel) fl_RX11_33 rfl rfl rfl ?_
  refine zs_iload_n (pc := 4) (k := 1) (i := 1) C (by decide +kernel) rfl rfl ?_
  refine zs_cvVv (pc := 5) (As := [sI a0]) (st := []) C (fun _ _ _ => rfl) (c_X0_begin l g a0) ml_RX11_251 rfl rfl rfl rfl (Nat.le_of_ble_eq_true rfl) ⟨Nat.le_of_ble_eq_true rfl, Nat.le_of_ble_eq_true rfl⟩ ⟨Nat.le_of_ble_eq_true rfl, Nat.le_of_ble_eq_true rfl⟩ (by decide +kernel) ?_
  refine zs_aload_n (pc := 8) (k := 0) (i := 0) C (by decide +kernel) rfl rfl ?_
  refine zs_getR (o' := 96) (pc := 9) (i := 62) (ci := 11) (k := 10) C (by decide +kernel) fl_RX11_62 rfl rfl rfl ?_
  refine zs_aload_n (pc := 12) (k := 0) (i := 0) C (by decide +kernel) rfl rfl ?_
  refine zs_getR (o' := 18) (pc := 13) (i := 33) (ci := 11) (k := 5) C (by decide +kernel) fl_RX11_33 rfl rfl rfl ?_
  refine zs_cvVv (pc := 16) (As := [sR 18]) (st := []) C (fun _ _ _ => rfl) (c_X7_start l g ) ml_RX11_291 rfl rfl rfl rfl (Nat.le_of_ble_eq_true rfl) ⟨Nat.le_of_ble_eq_true rfl, Nat.le_of_ble_eq_true rfl⟩ ⟨Nat.le_of_ble_eq_true rfl, Nat.le_of_ble_eq_true rfl⟩ (by decide +kernel) ?_
  refine zs_aload_n (pc := 19) (k := 0) (i := 0) C (by decide +kernel) rfl rfl ?_
  refine zs_getR (o' := 88) (pc := 20) (i := 55) (ci := 11) (k := 9) C (by decide +kernel) fl_RX11_55 rfl rfl rfl ?_
  refine zs_getR (o' := 95) (pc := 23) (i := 227) (ci := 9) (k := 2) C (by decide +kernel) fl_RX11_227 rfl rfl rfl ?_
  refine zs_iload_n (pc := 26) (k := 2) (i := 2) C (by decide +kernel) rfl rfl ?_
  refine zs_iald (pc := 27) (o := 95) (n := 4) C (by decide +kernel) rfl (fun hinx1 x1 => ?_)
  refine zs_istore_n (pc := 28) (k := 3) (i := 3) (ls' := [(3, sI x1), (0, sR 0), (1, sI a0), (2, sI a1)]) C (by decide +kernel) rfl (Nat.le_of_ble_eq_true rfl) rfl ?_
  refine zs_iconst (pc := 29) (n := 1) (x := 1) C (by decide +kernel) (by decide +kernel) ?_
  refine zs_istore (pc := 30) (i := 4) (ls' := [(4, sI 1), (3, sI x1), (0, sR 0), (1, sI a0), (2, sI a1)]) C (by decide +kernel) (Nat.le_of_ble_eq_true rfl) rfl ?_
  refine zs_sub (ls' := [(0, sR 0), (2, sI a1), (3, sI x1), (4, sI 1)]) ⟨rfl, rfl, rfl, rfl, trivial⟩ ?_
  refine zs_lp (pc := 32) (fun (t2 : Int) => [(0, sR 0), (2, sI a1), (3, sI x1), (4, sI t2)]) (fun _ => []) (fun K3 hK3 t2 => ?_) BIG 1
  refine zs_iload (pc := 32) (i := 4) C (by decide +kernel) rfl ?_
  refine zs_iload_n (pc := 34) (k := 3) (i := 3) C (by decide +kernel) rfl rfl ?_
  refine zs_icmp_gt (pc := 35) (off := 35) (tgt := 70) C (by decide +kernel) (by decide) ?_ ?_
  · exact zs_retVv (pc := 70) C hr ⟨Nat.le_of_ble_eq_true rfl, Nat.le_of_ble_eq_true rfl⟩ (by decide +kernel)
  · refine zs_aload_n (pc := 38) (k := 0) (i := 0) C (by decide +kernel) rfl rfl ?_
    refine zs_getR (o' := 96) (pc := 39) (i := 62) (ci := 11) (k := 10) C (by decide +kernel) fl_RX11_62 rfl rfl rfl ?_
    refine zs_aload_n (pc := 42) (k := 0) (i := 0) C (by decide +kernel) rfl rfl ?_
    refine zs_getR (o' := 18) (pc := 43) (i := 33) (ci := 11) (k := 5) C (by decide +kernel) fl_RX11_33 rfl rfl rfl ?_
    refine zs_iload (pc := 46) (i := 4) C (by decide +kernel) rfl ?_
    refine zs_aload_n (pc := 48) (k := 0) (i := 0) C (by decide +kernel) rfl rfl ?_
    refine zs_getR (o' := 88) (pc := 49) (i := 55) (ci := 11) (k := 9) C (by decide +kernel) fl_RX11_55 rfl rfl rfl ?_
    refine zs_iload_n (pc := 52) (k := 2) (i := 2) C (by decide +kernel) rfl rfl ?_
    refine zs_iload (pc := 53) (i := 4) C (by decide +kernel) rfl ?_
    refine zs_iconst (pc := 55) (n := 1) (x := 1) C (by decide +kernel) (by decide +kernel) ?_
    refine zs_isub (pc := 56) C (by decide +kernel) ?_
    refine zs_cvRl (pc := 57) (As := [sI a1, sI (w32 (t2 - 1))]) (st := [sI t2, sR 18, sR 96]) C (c_X9_at l g a1 (w32 (t2 - 1))) ml_RX11_233 rfl rfl rfl rfl (Nat.le_of_ble_eq_true rfl) ⟨Nat.le_of_ble_eq_true rfl, Nat.le_of_ble_eq_true rfl⟩ ⟨Nat.le_of_ble_eq_true rfl, Nat.le_of_ble_eq_true rfl⟩ (by decide +kernel) (fun x4 => ?_)
    refine zs_l2i (pc := 60) C (by decide +kernel) ?_
    refine zs_cvVv (pc := 61) (As := [sR 18, sI t2, sI (w32 x4)]) (st := []) C (fun _ _ _ => rfl) (c_X7_goOn l g t2 (w32 x4)) ml_RX11_295 rfl rfl rfl rfl (Nat.le_of_ble_eq_true rfl) ⟨Nat.le_of_ble_eq_true rfl, Nat.le_of_ble_eq_true rfl⟩ ⟨Nat.le_of_ble_eq_true rfl, Nat.le_of_ble_eq_true rfl⟩ (by decide +kernel) ?_
    refine zs_iinc (pc := 64) (i := 4) (n := 1) (y := w32 (t2 + 1)) (ls' := [(4, sI (w32 (t2 + 1))), (0, sR 0), (2, sI a1), (3, sI x1)]) C (by decide +kernel) rfl rfl (Nat.le_of_ble_eq_true rfl) rfl ?_
    refine zs_goto (pc := 67) (off := (-35)) (tgt := 32) C (by decide +kernel) (by decide) ?_
    exact zs_goj (hK3 (w32 (t2 + 1))) ⟨rfl, rfl, rfl, rfl, trivial⟩
set_option maxRecDepth 20000 in
theorem c_X7_endingAt (l : Launch) (g : GC) (a0 : Int) : ConR l g yX7_endingAt cX7_endingAt 5 (some .long) (rmd 1 0 0) [sR 96, sI a0] (fun mm => fX7_endingAt a0 mm) := by
  refine zs_ofR (by decide +kernel) (Nat.le_of_ble_eq_true rfl) ?_
  intro p e s m args below meth c C hr
  replace C : Bd g RX7 cX7_endingAt 5 p s m args meth c := C
  unfold fX7_endingAt
  refine zs_lconst (pc := 0) (n := 0) (x := 0) C (by decide +kernel) (by decide +kernel) ?_
  refine zs_lstore_n (pc := 1) (k := 2) (i := 2) (ls' := [(2, sL 0), (0, sR 96), (1, sI a0)]) C (by decide +kernel) rfl (Nat.le_of_ble_eq_true rfl) rfl ?_
  refine zs_iconst (pc := 2) (n := 0) (x := 0) C (by decide +kernel) (by decide +kernel) ?_
  refine zs_istore (pc := 3) (i := 4) (ls' := [(4, sI 0), (2, sL 0), (0, sR 96), (1, sI a0)]) C (by decide +kernel) (Nat.le_of_ble_eq_true rfl) rfl ?_
  refine zs_sub (ls' := [(0, sR 96), (1, sI a0), (2, sL 0), (4, sI 0)]) ⟨rfl, rfl, rfl, rfl, trivial⟩ ?_
  refine zs_lp (pc := 5) (fun (t1 : Int × Int) => [(0, sR 96), (1, sI a0), (2, sL t1.1), (4, sI t1.2)]) (fun _ => []) (fun K2 hK2 t1 => ?_) BIG (0, 0)
  refine zs_iload (pc := 5) (i := 4) C (by decide +kernel) rfl ?_
  refine zs_aload_n (pc := 7) (k := 0) (i := 0) C (by decide +kernel) rfl rfl ?_
  refine zs_getI (pc := 8) (i := 22) (ci := 7) (k := 3) C (by decide +kernel) fl_RX7_22 rfl rfl (fun x3 => ?_)
  refine zs_icmp_ge (pc := 11) (off := 24) (tgt := 35) C (by decide +kernel) (by decide) ?_ ?_
  · refine zs_lload_n (pc := 35) (k := 2) (i := 2) C (by decide +kernel) rfl rfl ?_
    exact zs_retRl (pc := 36) C hr ⟨Nat.le_of_ble_eq_true rfl, Nat.le_of_ble_eq_true rfl⟩ (by decide +kernel)
  · refine zs_lload_n (pc := 14) (k := 2) (i := 2) C (by decide +kernel) rfl rfl ?_
    refine zs_aload_n (pc := 15) (k := 0) (i := 0) C (by decide +kernel) rfl rfl ?_
    refine zs_getM (pc := 16) (i := 9) (ci := 7) (k := 0) C (by decide +kernel) fl_RX7_9 rfl rfl (fun x4 => ?_)
    refine zs_need (fun hx4 => ?_)
    refine zs_iload (pc := 19) (i := 4) C (by decide +kernel) rfl ?_
    refine zs_bipush (pc := 21) (n := 25) (x := 25) C (by decide +kernel) (by decide +kernel) ?_
    refine zs_imul (pc := 23) C (by decide +kernel) ?_
    refine zs_iload_n (pc := 24) (k := 1) (i := 1) C (by decide +kernel) rfl rfl ?_
    refine zs_iadd (pc := 25) C (by decide +kernel) ?_
    refine zs_lald (pc := 26) (o := x4) (n := 625) C (by decide +kernel) hx4 (fun hinx5 x5 => ?_)
    refine zs_ladd (pc := 27) C (by decide +kernel) ?_
    refine zs_letL (fun x6 => ?_)
    refine zs_lstore_n (pc := 28) (k := 2) (i := 2) (ls' := [(2, sL x6), (0, sR 96), (1, sI a0), (4, sI t1.2)]) C (by decide +kernel) rfl (Nat.le_of_ble_eq_true rfl) rfl ?_
    refine zs_iinc (pc := 29) (i := 4) (n := 1) (y := w32 (t1.2 + 1)) (ls' := [(4, sI (w32 (t1.2 + 1))), (2, sL x6), (0, sR 96), (1, sI a0)]) C (by decide +kernel) rfl rfl (Nat.le_of_ble_eq_true rfl) rfl ?_
    refine zs_goto (pc := 32) (off := (-27)) (tgt := 5) C (by decide +kernel) (by decide) ?_
    exact zs_goj (hK2 (x6, w32 (t1.2 + 1))) ⟨rfl, rfl, rfl, rfl, trivial⟩
set_option maxRecDepth 20000 in
theorem c_X7_total (l : Launch) (g : GC)  : ConR l g yX7_total cX7_total 4 (some .long) (rmd 2 0 0) [sR 96] (fun mm => fX7_total  mm) := by
  refine zs_ofR (by decide +kernel) (Nat.le_of_ble_eq_true rfl) ?_
  intro p e s m args below meth c C hr
  replace C : Bd g RX7 cX7_total 4 p s m args meth c := C
  unfold fX7_total
  refine zs_lconst (pc := 0) (n := 0) (x := 0) C (by decide +kernel) (by decide +kernel) ?_
  refine zs_lstore_n (pc := 1) (k := 1) (i := 1) (ls' := [(1, sL 0), (0, sR 96)]) C (by decide +kernel) rfl (Nat.le_of_ble_eq_true rfl) rfl ?_
  refine zs_iconst (pc := 2) (n := 0) (x := 0) C (by decide +kernel) (by decide +kernel) ?_
  refine zs_istore_n (pc := 3) (k := 3) (i := 3) (ls' := [(3, sI 0), (1, sL 0), (0, sR 96)]) C (by decide +kernel) rfl (Nat.le_of_ble_eq_true rfl) rfl ?_
  refine zs_sub (ls' := [(0, sR 96), (1, sL 0), (3, sI 0)]) ⟨rfl, rfl, rfl, trivial⟩ ?_
  refine zs_lp (pc := 4) (fun (t1 : Int × Int) => [(0, sR 96), (1, sL t1.1), (3, sI t1.2)]) (fun _ => []) (fun K2 hK2 t1 => ?_) BIG (0, 0)
  refine zs_iload_n (pc := 4) (k := 3) (i := 3) C (by decide +kernel) rfl rfl ?_
  refine zs_aload_n (pc := 5) (k := 0) (i := 0) C (by decide +kernel) rfl rfl ?_
  refine zs_getI (pc := 6) (i := 22) (ci := 7) (k := 3) C (by decide +kernel) fl_RX7_22 rfl rfl (fun x3 => ?_)
  refine zs_icmp_ge (pc := 9) (off := 17) (tgt := 26) C (by decide +kernel) (by decide) ?_ ?_
  · refine zs_lload_n (pc := 26) (k := 1) (i := 1) C (by decide +kernel) rfl rfl ?_
    exact zs_retRl (pc := 27) C hr ⟨Nat.le_of_ble_eq_true rfl, Nat.le_of_ble_eq_true rfl⟩ (by decide +kernel)
  · refine zs_lload_n (pc := 12) (k := 1) (i := 1) C (by decide +kernel) rfl rfl ?_
    refine zs_aload_n (pc := 13) (k := 0) (i := 0) C (by decide +kernel) rfl rfl ?_
    refine zs_iload_n (pc := 14) (k := 3) (i := 3) C (by decide +kernel) rfl rfl ?_
    refine zs_cvRl (pc := 15) (As := [sI t1.2]) (st := [sL t1.1]) C (c_X7_endingAt l g t1.2) ml_RX7_58 rfl rfl rfl rfl (Nat.le_of_ble_eq_true rfl) ⟨Nat.le_of_ble_eq_true rfl, Nat.le_of_ble_eq_true rfl⟩ ⟨Nat.le_of_ble_eq_true rfl, Nat.le_of_ble_eq_true rfl⟩ (by decide +kernel) (fun x4 => ?_)
    refine zs_ladd (pc := 18) C (by decide +kernel) ?_
    refine zs_letL (fun x5 => ?_)
    refine zs_lstore_n (pc := 19) (k := 1) (i := 1) (ls' := [(1, sL x5), (0, sR 96), (3, sI t1.2)]) C (by decide +kernel) rfl (Nat.le_of_ble_eq_true rfl) rfl ?_
    refine zs_iinc (pc := 20) (i := 3) (n := 1) (y := w32 (t1.2 + 1)) (ls' := [(3, sI (w32 (t1.2 + 1))), (1, sL x5), (0, sR 96)]) C (by decide +kernel) rfl rfl (Nat.le_of_ble_eq_true rfl) rfl ?_
    refine zs_goto (pc := 23) (off := (-19)) (tgt := 4) C (by decide +kernel) (by decide) ?_
    exact zs_goj (hK2 (x5, w32 (t1.2 + 1))) ⟨rfl, rfl, rfl, trivial⟩
set_option maxRecDepth 20000 in
theorem c_X11_fits (l : Launch) (g : GC) (hl : l.stackTraces = false) (a0 : Int) (a1 : Int) : ConT l g yX11_fits cX11_fits 3 (some .long) (rmd 10 5 30) [sR 0, sI a0, sI a1] (fun mm => fX11_fits a0 a1 mm) := by
  refine zs_ofT (by decide +kernel) (Nat.le_of_ble_eq_true rfl) ?_
  intro p e s m args below meth c C hr hE
  replace C : Bd g RX11 cX11_fits 3 p s m args meth c := C
  unfold fX11_fits
  refine zs_aload_n (pc := 0) (k := 0) (i := 0) C (by decide +kernel) rfl rfl ?_
  refine zs_iload_n (pc := 1) (k := 1) (i := 1) C (by decide +kernel) rfl rfl ?_
  refine zs_iload_n (pc := 2) (k := 2) (i := 2) C (by decide +kernel) rfl rfl ?_
  refine zs_bipush (pc := 3) (n := 8) (x := 8) C (by decide +kernel) (by decide +kernel) ?_
  refine zs_cvTv (pc := 5) (As := [sI a0, sI a1, sI 8]) (st := []) C hE (c_X11_needSeen l g hl a0 a1 8) ml_RX11_339 rfl rfl rfl rfl (Nat.le_of_ble_eq_true rfl) ⟨Nat.le_of_ble_eq_true rfl, Nat.le_of_ble_eq_true rfl⟩ ⟨Nat.le_of_ble_eq_true rfl, Nat.le_of_ble_eq_true rfl⟩ ⟨Nat.le_of_ble_eq_true rfl, Nat.le_of_ble_eq_true rfl⟩ (by decide +kernel) ?_
  refine zs_aload_n (pc := 8) (k := 0) (i := 0) C (by decide +kernel) rfl rfl ?_
  refine zs_iload_n (pc := 9) (k := 1) (i := 1) C (by decide +kernel) rfl rfl ?_
  refine zs_iload_n (pc := 10) (k := 2) (i := 2) C (by decide +kernel) rfl rfl ?_
  refine zs_cvVv (pc := 11) (As := [sI a0, sI a1]) (st := []) C (fun _ _ _ => rfl) (c_X11_countSeen l g a0 a1) ml_RX11_348 rfl rfl rfl rfl (Nat.le_of_ble_eq_true rfl) ⟨Nat.le_of_ble_eq_true rfl, Nat.le_of_ble_eq_true rfl⟩ ⟨Nat.le_of_ble_eq_true rfl, Nat.le_of_ble_eq_true rfl⟩ (by decide +kernel) ?_
  refine zs_aload_n (pc := 14) (k := 0) (i := 0) C (by decide +kernel) rfl rfl ?_
  refine zs_getR (o' := 96) (pc := 15) (i := 62) (ci := 11) (k := 10) C (by decide +kernel) fl_RX11_62 rfl rfl rfl ?_
  refine zs_cvRl (pc := 18) (As := []) (st := []) C (c_X7_total l g ) ml_RX11_351 rfl rfl rfl rfl (Nat.le_of_ble_eq_true rfl) ⟨Nat.le_of_ble_eq_true rfl, Nat.le_of_ble_eq_true rfl⟩ ⟨Nat.le_of_ble_eq_true rfl, Nat.le_of_ble_eq_true rfl⟩ (by decide +kernel) (fun x1 => ?_)
  exact zs_retTl (pc := 21) C hr ⟨Nat.le_of_ble_eq_true rfl, Nat.le_of_ble_eq_true rfl⟩ (by decide +kernel)
set_option maxRecDepth 20000 in
theorem c_X7_tellsMost (l : Launch) (g : GC)  : ConR l g yX7_tellsMost cX7_tellsMost 11 (some .int) (rmd 3 0 0) [sR 96] (fun mm => fX7_tellsMost  mm) := by
  refine zs_ofR (by decide +kernel) (Nat.le_of_ble_eq_true rfl) ?_
  intro p e s m args below meth c C hr
  replace C : Bd g RX7 cX7_tellsMost 11 p s m args meth c := C
  unfold fX7_tellsMost
  refine zs_aload_n (pc := 0) (k := 0) (i := 0) C (by decide +kernel) rfl rfl ?_
  refine zs_cvRl (pc := 1) (As := []) (st := []) C (c_X7_total l g ) ml_RX7_62 rfl rfl rfl rfl (Nat.le_of_ble_eq_true rfl) ⟨Nat.le_of_ble_eq_true rfl, Nat.le_of_ble_eq_true rfl⟩ ⟨Nat.le_of_ble_eq_true rfl, Nat.le_of_ble_eq_true rfl⟩ (by decide +kernel) (fun x1 => ?_)
  refine zs_lstore_n (pc := 4) (k := 1) (i := 1) (ls' := [(1, sL x1), (0, sR 96)]) C (by decide +kernel) rfl (Nat.le_of_ble_eq_true rfl) rfl ?_
  refine zs_ldc2 (pc := 5) (i := 66) (v := (-1)) (x := (-1)) C (by decide +kernel) wf_1680 (by decide +kernel) ?_
  refine zs_lstore_n (pc := 8) (k := 3) (i := 3) (ls' := [(3, sL ((-1))), (1, sL x1), (0, sR 96)]) C (by decide +kernel) rfl (Nat.le_of_ble_eq_true rfl) rfl ?_
  refine zs_iconst (pc := 9) (n := (-1)) (x := (-1)) C (by decide +kernel) (by decide +kernel) ?_
  refine zs_istore (pc := 10) (i := 5) (ls' := [(5, sI ((-1))), (3, sL ((-1))), (1, sL x1), (0, sR 96)]) C (by decide +kernel) (Nat.le_of_ble_eq_true rfl) rfl ?_
  refine zs_iconst (pc := 12) (n := 0) (x := 0) C (by decide +kernel) (by decide +kernel) ?_
  refine zs_istore (pc := 13) (i := 6) (ls' := [(6, sI 0), (5, sI ((-1))), (3, sL ((-1))), (1, sL x1), (0, sR 96)]) C (by decide +kernel) (Nat.le_of_ble_eq_true rfl) rfl ?_
  refine zs_sub (ls' := [(0, sR 96), (1, sL x1), (3, sL ((-1))), (5, sI ((-1))), (6, sI 0)]) ⟨rfl, rfl, rfl, rfl, rfl, trivial⟩ ?_
  refine zs_lp (pc := 15) (fun (t2 : Int × Int × Int) => [(0, sR 96), (1, sL x1), (3, sL t2.1), (5, sI t2.2.1), (6, sI t2.2.2)]) (fun _ => []) (fun K3 hK3 t2 => ?_) BIG ((-1), (-1), 0)
  refine zs_iload (pc := 15) (i := 6) C (by decide +kernel) rfl ?_
  refine zs_aload_n (pc := 17) (k := 0) (i := 0) C (by decide +kernel) rfl rfl ?_
  refine zs_getI (pc := 18) (i := 22) (ci := 7) (k := 3) C (by decide +kernel) fl_RX7_22 rfl rfl (fun x4 => ?_)
  refine zs_jn (pJ := 69) (kJ := 0) (sJ := 0) (fun t5 => [(5, sI t2.2.1)]) (fun t5 => []) (fun t5 => ?_) (fun J6 hJ6 => ?_)
  · refine zs_iload (pc := 69) (i := 5) C (by decide +kernel) rfl ?_
    exact zs_retRi (pc := 71) C hr ⟨Nat.le_of_ble_eq_true rfl, Nat.le_of_ble_eq_true rfl⟩ (by decide +kernel)
  · refine zs_icmp_ge (pc := 21) (off := 48) (tgt := 69) C (by decide +kernel) (by decide) ?_ ?_
    · exact zs_goj (hJ6 ()) ⟨rfl, trivial⟩
    · refine zs_lload_n (pc := 24) (k := 1) (i := 1) C (by decide +kernel) rfl rfl ?_
      refine zs_lconst (pc := 25) (n := 0) (x := 0) C (by decide +kernel) (by decide +kernel) ?_
      refine zs_lcmp_le (pc := 26) (off := 42) (tgt := 69) C (by decide +kernel) (by decide +kernel) (by decide) ?_ ?_
      · exact zs_goj (hJ6 ()) ⟨rfl, trivial⟩
      · refine zs_aload_n (pc := 30) (k := 0) (i := 0) C (by decide +kernel) rfl rfl ?_
        refine zs_iload (pc := 31) (i := 6) C (by decide +kernel) rfl ?_
        refine zs_cvRl (pc := 33) (As := [sI t2.2.2]) (st := []) C (c_X7_endingAt l g t2.2.2) ml_RX7_58 rfl rfl rfl rfl (Nat.le_of_ble_eq_true rfl) ⟨Nat.le_of_ble_eq_true rfl, Nat.le_of_ble_eq_true rfl⟩ ⟨Nat.le_of_ble_eq_true rfl, Nat.le_of_ble_eq_true rfl⟩ (by decide +kernel) (fun x7 => ?_)
        refine zs_lstore (pc := 36) (i := 7) (ls' := [(7, sL x7), (0, sR 96), (1, sL x1), (3, sL t2.1), (5, sI t2.2.1), (6, sI t2.2.2)]) C (by decide +kernel) (Nat.le_of_ble_eq_true rfl) rfl ?_
        refine zs_lload (pc := 38) (i := 7) C (by decide +kernel) rfl ?_
        refine zs_lload_n (pc := 40) (k := 1) (i := 1) C (by decide +kernel) rfl rfl ?_
        refine zs_lload (pc := 41) (i := 7) C (by decide +kernel) rfl ?_
        refine zs_lsub (pc := 43) C (by decide +kernel) ?_
        refine zs_mminL (pc := 44) (idx := 68) C wf_1681 wf_1682 wf_166 wf_1683 ⟨Nat.le_of_ble_eq_true rfl, Nat.le_of_ble_eq_true rfl, Nat.le_of_ble_eq_true rfl, Nat.le_of_ble_eq_true rfl⟩ (by decide +kernel) ?_
        refine zs_letL (fun x8 => ?_)
        refine zs_lstore (pc := 47) (i := 9) (ls' := [(9, sL x8), (7, sL x7), (0, sR 96), (1, sL x1), (3, sL t2.1), (5, sI t2.2.1), (6, sI t2.2.2)]) C (by decide +kernel) (Nat.le_of_ble_eq_true rfl) rfl ?_
        refine zs_lload (pc := 49) (i := 9) C (by decide +kernel) rfl ?_
        refine zs_lload_n (pc := 51) (k := 3) (i := 3) C (by decide +kernel) rfl rfl ?_
        refine zs_jn (pJ := 63) (kJ := 0) (sJ := 0) (fun t9 => [(0, sR 96), (1, sL x1), (3, sL t9.1), (5, sI t9.2), (6, sI t2.2.2)]) (fun t9 => []) (fun t9 => ?_) (fun J10 hJ10 => ?_)
        · refine zs_iinc (pc := 63) (i := 6) (n := 1) (y := w32 (t2.2.2 + 1)) (ls' := [(6, sI (w32 (t2.2.2 + 1))), (0, sR 96), (1, sL x1), (3, sL t9.1), (5, sI t9.2)]) C (by decide +kernel) rfl rfl (Nat.le_of_ble_eq_true rfl) rfl ?_
          refine zs_goto (pc := 66) (off := (-51)) (tgt := 15) C (by decide +kernel) (by decide) ?_
          exact zs_goj (hK3 (t9.1, t9.2, w32 (t2.2.2 + 1))) ⟨rfl, rfl, rfl, rfl, rfl, trivial⟩
        · refine zs_lcmp_le (pc := 52) (off := 10) (tgt := 63) C (by decide +kernel) (by decide +kernel) (by decide) ?_ ?_
          · exact zs_goj (hJ10 (t2.1, t2.2.1)) ⟨rfl, rfl, rfl, rfl, rfl, trivial⟩
          · refine zs_lload (pc := 56) (i := 9) C (by decide +kernel) rfl ?_
            refine zs_lstore_n (pc := 58) (k := 3) (i := 3) (ls' := [(3, sL x8), (9, sL x8), (7, sL x7), (0, sR 96), (1, sL x1), (5, sI t2.2.1), (6, sI t2.2.2)]) C (by decide +kernel) rfl (Nat.le_of_ble_eq_true rfl) rfl ?_
            refine zs_iload (pc := 59) (i := 6) C (by decide +kernel) rfl ?_
            refine zs_istore (pc := 61) (i := 5) (ls' := [(5, sI t2.2.2), (3, sL x8), (9, sL x8), (7, sL x7), (0, sR 96), (1, sL x1), (6, sI t2.2.2)]) C (by decide +kernel) (Nat.le_of_ble_eq_true rfl) rfl ?_
            exact zs_goj (hJ10 (x8, t2.2.2)) ⟨rfl, rfl, rfl, rfl, rfl, trivial⟩
set_option maxRecDepth 20000 in
theorem c_X11_look (l : Launch) (g : GC) (hl : l.stackTraces = false) (a0 : Int) (a1 : Int) : ConT l g yX11_look cX11_look 3 (some .int) (rmd 10 5 30) [sR 0, sI a0, sI a1] (fun mm => fX11_look a0 a1 mm) := by
  refine zs_ofT (by decide +kernel) (Nat.le_of_ble_eq_true rfl) ?_
  intro p e s m args below meth c C hr hE
  replace C : Bd g RX11 cX11_look 3 p s m args meth c := C
  unfold fX11_look
  refine zs_aload_n (pc := 0) (k := 0) (i := 0) C (by decide +kernel) rfl rfl ?_
  refine zs_iload_n (pc := 1) (k := 1) (i := 1) C (by decide +kernel) rfl rfl ?_
  refine zs_iload_n (pc := 2) (k := 2) (i := 2) C (by decide +kernel) rfl rfl ?_
  refine zs_bipush (pc := 3) (n := 8) (x := 8) C (by decide +kernel) (by decide +kernel) ?_
  refine zs_cvTv (pc := 5) (As := [sI a0, sI a1, sI 8]) (st := []) C hE (c_X11_needSeen l g hl a0 a1 8) ml_RX11_339 rfl rfl rfl rfl (Nat.le_of_ble_eq_true rfl) ⟨Nat.le_of_ble_eq_true rfl, Nat.le_of_ble_eq_true rfl⟩ ⟨Nat.le_of_ble_eq_true rfl, Nat.le_of_ble_eq_true rfl⟩ ⟨Nat.le_of_ble_eq_true rfl, Nat.le_of_ble_eq_true rfl⟩ (by decide +kernel) ?_
  refine zs_aload_n (pc := 8) (k := 0) (i := 0) C (by decide +kernel) rfl rfl ?_
  refine zs_iload_n (pc := 9) (k := 1) (i := 1) C (by decide +kernel) rfl rfl ?_
  refine zs_iload_n (pc := 10) (k := 2) (i := 2) C (by decide +kernel) rfl rfl ?_
  refine zs_cvVv (pc := 11) (As := [sI a0, sI a1]) (st := []) C (fun _ _ _ => rfl) (c_X11_countSeen l g a0 a1) ml_RX11_348 rfl rfl rfl rfl (Nat.le_of_ble_eq_true rfl) ⟨Nat.le_of_ble_eq_true rfl, Nat.le_of_ble_eq_true rfl⟩ ⟨Nat.le_of_ble_eq_true rfl, Nat.le_of_ble_eq_true rfl⟩ (by decide +kernel) ?_
  refine zs_aload_n (pc := 14) (k := 0) (i := 0) C (by decide +kernel) rfl rfl ?_
  refine zs_getR (o' := 96) (pc := 15) (i := 62) (ci := 11) (k := 10) C (by decide +kernel) fl_RX11_62 rfl rfl rfl ?_
  refine zs_cvRi (pc := 18) (As := []) (st := []) C rfl (c_X7_tellsMost l g ) ml_RX11_355 rfl rfl rfl rfl (Nat.le_of_ble_eq_true rfl) ⟨Nat.le_of_ble_eq_true rfl, Nat.le_of_ble_eq_true rfl⟩ ⟨Nat.le_of_ble_eq_true rfl, Nat.le_of_ble_eq_true rfl⟩ (by decide +kernel) (fun x1 => ?_)
  exact zs_retTi (pc := 21) C hr ⟨Nat.le_of_ble_eq_true rfl, Nat.le_of_ble_eq_true rfl⟩ (by decide +kernel)
set_option maxRecDepth 20000 in
theorem c_X9_lay (l : Launch) (g : GC) (a0 : Int) (a1 : Int) (a2 : Int) : ConV l g yX9_lay cX9_lay 4 (rmd 2 0 0) [sR 88, sI a0, sI a1, sI a2] (fun mm => fX9_lay a0 a1 a2 mm) := by
  refine zs_ofV (by decide +kernel) (Nat.le_of_ble_eq_true rfl) ?_
  intro p e s m args below meth c C hr
  replace C : Bd g RX9 cX9_lay 4 p s m args meth c := C
  unfold fX9_lay
  refine zs_aload_n (pc := 0) (k := 0) (i := 0) C (by decide +kernel) rfl rfl ?_
  refine zs_getR (o' := 94) (pc := 1) (i := 16) (ci := 9) (k := 1) C (by decide +kernel) fl_RX9_16 rfl rfl rfl ?_
  refine zs_iload_n (pc := 4) (k := 1) (i := 1) C (by decide +kernel) rfl rfl ?_
  refine zs_iload_n (pc := 5) (k := 2) (i := 2) C (by decide +kernel) rfl rfl ?_
  refine zs_iast (pc := 6) (o := 94) (n := 4) C (fun _ _ _ => rfl) (by decide +kernel) rfl ?_
  refine zs_aload_n (pc := 7) (k := 0) (i := 0) C (by decide +kernel) rfl rfl ?_
  refine zs_getR (o' := 95) (pc := 8) (i := 20) (ci := 9) (k := 2) C (by decide +kernel) fl_RX9_20 rfl rfl rfl ?_
  refine zs_iload_n (pc := 11) (k := 1) (i := 1) C (by decide +kernel) rfl rfl ?_
  refine zs_iload_n (pc := 12) (k := 3) (i := 3) C (by decide +kernel) rfl rfl ?_
  refine zs_iast (pc := 13) (o := 95) (n := 4) C (fun _ _ _ => rfl) (by decide +kernel) rfl ?_
  refine zs_aload_n (pc := 14) (k := 0) (i := 0) C (by decide +kernel) rfl rfl ?_
  refine zs_getR (o' := 89) (pc := 15) (i := 13) (ci := 9) (k := 0) C (by decide +kernel) fl_RX9_13 rfl rfl rfl ?_
  refine zs_iload_n (pc := 18) (k := 1) (i := 1) C (by decide +kernel) rfl rfl ?_
  refine zs_aald (pc := 19) (o := 89) (t := 6) (n := 4) C (by decide) (by decide +kernel) rfl (ly_arr_6_4 rfl) (fun x1 hx1 => ?_)
  refine zs_lconst (pc := 20) (n := 0) (x := 0) C (by decide +kernel) (by decide +kernel) ?_
  refine zs_csVv (pc := 21) (As := [sR x1, sL 0]) (st := []) C (fun _ _ _ => rfl) (c_J7_fill_d0a16 l g x1 30 0 hx1) ml_RX9_29 rfl rfl (Nat.le_of_ble_eq_true rfl) ⟨Nat.le_of_ble_eq_true rfl, Nat.le_of_ble_eq_true rfl⟩ ⟨Nat.le_of_ble_eq_true rfl, Nat.le_of_ble_eq_true rfl⟩ (by decide +kernel) ?_
  exact zs_retVv (pc := 24) C hr ⟨Nat.le_of_ble_eq_true rfl, Nat.le_of_ble_eq_true rfl⟩ (by decide +kernel)
set_option maxRecDepth 20000 in
theorem c_X11_tray (l : Launch) (g : GC) (hl : l.stackTraces = false) (a0 : Int) (a1 : Int) (a2 : Int) : ConT l g yX11_tray cX11_tray 4 none (rmd 8 3 18) [sR 0, sI a0, sI a1, sI a2] (fun mm => fX11_tray a0 a1 a2 mm) := by
  refine zs_ofT (by decide +kernel) (Nat.le_of_ble_eq_true rfl) ?_
  intro p e s m args below meth c C hr hE
  replace C : Bd g RX11 cX11_tray 4 p s m args meth c := C
  unfold fX11_tray
  refine zs_aload_n (pc := 0) (k := 0) (i := 0) C (by decide +kernel) rfl rfl ?_
  refine zs_iload_n (pc := 1) (k := 1) (i := 1) C (by decide +kernel) rfl rfl ?_
  refine zs_cvTv (pc := 2) (As := [sI a0]) (st := []) C hE (c_X11_needTray l g hl a0) ml_RX11_358 rfl rfl rfl rfl (Nat.le_of_ble_eq_true rfl) ⟨Nat.le_of_ble_eq_true rfl, Nat.le_of_ble_eq_true rfl⟩ ⟨Nat.le_of_ble_eq_true rfl, Nat.le_of_ble_eq_true rfl⟩ ⟨Nat.le_of_ble_eq_true rfl, Nat.le_of_ble_eq_true rfl⟩ (by decide +kernel) ?_
  refine zs_aload_n (pc := 5) (k := 0) (i := 0) C (by decide +kernel) rfl rfl ?_
  refine zs_iload_n (pc := 6) (k := 2) (i := 2) C (by decide +kernel) rfl rfl ?_
  refine zs_iconst (pc := 7) (n := 0) (x := 0) C (by decide +kernel) (by decide +kernel) ?_
  refine zs_iconst (pc := 8) (n := 3) (x := 3) C (by decide +kernel) (by decide +kernel) ?_
  refine zs_cvTv (pc := 9) (As := [sI a1, sI 0, sI 3]) (st := []) C hE (c_X11_needWithin l g hl a1 0 3) ml_RX11_179 rfl rfl rfl rfl (Nat.le_of_ble_eq_true rfl) ⟨Nat.le_of_ble_eq_true rfl, Nat.le_of_ble_eq_true rfl⟩ ⟨Nat.le_of_ble_eq_true rfl, Nat.le_of_ble_eq_true rfl⟩ ⟨Nat.le_of_ble_eq_true rfl, Nat.le_of_ble_eq_true rfl⟩ (by decide +kernel) ?_
  refine zs_aload_n (pc := 12) (k := 0) (i := 0) C (by decide +kernel) rfl rfl ?_
  refine zs_iload_n (pc := 13) (k := 3) (i := 3) C (by decide +kernel) rfl rfl ?_
  refine zs_iconst (pc := 14) (n := 0) (x := 0) C (by decide +kernel) (by decide +kernel) ?_
  refine zs_bipush (pc := 15) (n := 30) (x := 30) C (by decide +kernel) (by decide +kernel) ?_
  refine zs_cvTv (pc := 17) (As := [sI a2, sI 0, sI 30]) (st := []) C hE (c_X11_needWithin l g hl a2 0 30) ml_RX11_179 rfl rfl rfl rfl (Nat.le_of_ble_eq_true rfl) ⟨Nat.le_of_ble_eq_true rfl, Nat.le_of_ble_eq_true rfl⟩ ⟨Nat.le_of_ble_eq_true rfl, Nat.le_of_ble_eq_true rfl⟩ ⟨Nat.le_of_ble_eq_true rfl, Nat.le_of_ble_eq_true rfl⟩ (by decide +kernel) ?_
  refine zs_aload_n (pc := 20) (k := 0) (i := 0) C (by decide +kernel) rfl rfl ?_
  refine zs_getR (o' := 88) (pc := 21) (i := 55) (ci := 11) (k := 9) C (by decide +kernel) fl_RX11_55 rfl rfl rfl ?_
  refine zs_iload_n (pc := 24) (k := 1) (i := 1) C (by decide +kernel) rfl rfl ?_
  refine zs_iload_n (pc := 25) (k := 2) (i := 2) C (by decide +kernel) rfl rfl ?_
  refine zs_iload_n (pc := 26) (k := 3) (i := 3) C (by decide +kernel) rfl rfl ?_
  refine zs_cvVv (pc := 27) (As := [sI a0, sI a1, sI a2]) (st := []) C (fun _ _ _ => rfl) (c_X9_lay l g a0 a1 a2) ml_RX11_361 rfl rfl rfl rfl (Nat.le_of_ble_eq_true rfl) ⟨Nat.le_of_ble_eq_true rfl, Nat.le_of_ble_eq_true rfl⟩ ⟨Nat.le_of_ble_eq_true rfl, Nat.le_of_ble_eq_true rfl⟩ (by decide +kernel) ?_
  exact zs_retTv (pc := 30) C hr ⟨Nat.le_of_ble_eq_true rfl, Nat.le_of_ble_eq_true rfl⟩ (by decide +kernel)
set_option maxRecDepth 20000 in
theorem c_X9_cut (l : Launch) (g : GC) (a0 : Int) (a1 : Int) : ConR l g yX9_cut cX9_cut 3 (some .long) (rmd 1 0 0) [sI a0, sL a1] (fun mm => fX9_cut a0 a1 mm) := by
  refine zs_ofR (by decide +kernel) (Nat.le_of_ble_eq_true rfl) ?_
  intro p e s m args below meth c C hr
  replace C : Bd g RX9 cX9_cut 3 p s m args meth c := C
  unfold fX9_cut
  refine zs_iload_n (pc := 0) (k := 0) (i := 0) C (by decide +kernel) rfl rfl ?_
  refine zs_ite (fun hc0 => ?_) (fun hc0 => ?_)
  · refine zs_tswI (pc := 1) (dflt := 41) (lo := 0) (hi := 2) (offs := #[27, 32, 37]) (len := 27) (i := 0) (off := 27) (tgt := 28) C (by decide +kernel) hc0 (by decide) rfl (by decide) ?_
    refine zs_lload_n (pc := 28) (k := 1) (i := 1) C (by decide +kernel) rfl rfl ?_
    refine zs_l2i (pc := 29) C (by decide +kernel) ?_
    refine zs_i2b (pc := 30) C (by decide +kernel) ?_
    refine zs_i2l (pc := 31) C (by decide +kernel) ?_
    exact zs_retRl (pc := 32) C hr ⟨Nat.le_of_ble_eq_true rfl, Nat.le_of_ble_eq_true rfl⟩ (by decide +kernel)
  · refine zs_ite (fun hc1 => ?_) (fun hc1 => ?_)
    · refine zs_tswI (pc := 1) (dflt := 41) (lo := 0) (hi := 2) (offs := #[27, 32, 37]) (len := 27) (i := 1) (off := 32) (tgt := 33) C (by decide +kernel) hc1 (by decide) rfl (by decide) ?_
      refine zs_lload_n (pc := 33) (k := 1) (i := 1) C (by decide +kernel) rfl rfl ?_
      refine zs_l2i (pc := 34) C (by decide +kernel) ?_
      refine zs_i2s (pc := 35) C (by decide +kernel) ?_
      refine zs_i2l (pc := 36) C (by decide +kernel) ?_
      exact zs_retRl (pc := 37) C hr ⟨Nat.le_of_ble_eq_true rfl, Nat.le_of_ble_eq_true rfl⟩ (by decide +kernel)
    · refine zs_ite (fun hc2 => ?_) (fun hc2 => ?_)
      · refine zs_tswI (pc := 1) (dflt := 41) (lo := 0) (hi := 2) (offs := #[27, 32, 37]) (len := 27) (i := 2) (off := 37) (tgt := 38) C (by decide +kernel) hc2 (by decide) rfl (by decide) ?_
        refine zs_lload_n (pc := 38) (k := 1) (i := 1) C (by decide +kernel) rfl rfl ?_
        refine zs_l2i (pc := 39) C (by decide +kernel) ?_
        refine zs_i2l (pc := 40) C (by decide +kernel) ?_
        exact zs_retRl (pc := 41) C hr ⟨Nat.le_of_ble_eq_true rfl, Nat.le_of_ble_eq_true rfl⟩ (by decide +kernel)
      · refine zs_tswD (pc := 1) (dflt := 41) (lo := 0) (hi := 2) (offs := #[27, 32, 37]) (len := 27) (tgt := 42) C (by decide +kernel) (by omega) (by decide) ?_
        refine zs_lload_n (pc := 42) (k := 1) (i := 1) C (by decide +kernel) rfl rfl ?_
        exact zs_retRl (pc := 43) C hr ⟨Nat.le_of_ble_eq_true rfl, Nat.le_of_ble_eq_true rfl⟩ (by decide +kernel)
set_option maxRecDepth 20000 in
theorem c_X9_put (l : Launch) (g : GC) (a0 : Int) (a1 : Int) (a2 : Int) : ConW l g yX9_put cX9_put 5 (some .long) (rmd 2 0 0) [sR 88, sI a0, sI a1, sL a2] (fun mm => fX9_put a0 a1 a2 mm) := by
  refine zs_ofW (by decide +kernel) (Nat.le_of_ble_eq_true rfl) ?_
  intro p e s m args below meth c C hr
  replace C : Bd g RX9 cX9_put 5 p s m args meth c := C
  unfold fX9_put
  refine zs_aload_n (pc := 0) (k := 0) (i := 0) C (by decide +kernel) rfl rfl ?_
  refine zs_getR (o' := 89) (pc := 1) (i := 13) (ci := 9) (k := 0) C (by decide +kernel) fl_RX9_13 rfl rfl rfl ?_
  refine zs_iload_n (pc := 4) (k := 1) (i := 1) C (by decide +kernel) rfl rfl ?_
  refine zs_aald (pc := 5) (o := 89) (t := 6) (n := 4) C (by decide) (by decide +kernel) rfl (ly_arr_6_4 rfl) (fun x1 hx1 => ?_)
  refine zs_iload_n (pc := 6) (k := 2) (i := 2) C (by decide +kernel) rfl rfl ?_
  refine zs_aload_n (pc := 7) (k := 0) (i := 0) C (by decide +kernel) rfl rfl ?_
  refine zs_getR (o' := 94) (pc := 8) (i := 16) (ci := 9) (k := 1) C (by decide +kernel) fl_RX9_16 rfl rfl rfl ?_
  refine zs_iload_n (pc := 11) (k := 1) (i := 1) C (by decide +kernel) rfl rfl ?_
  refine zs_iald (pc := 12) (o := 94) (n := 4) C (by decide +kernel) rfl (fun hinx2 x2 => ?_)
  refine zs_lload_n (pc := 13) (k := 3) (i := 3) C (by decide +kernel) rfl rfl ?_
  refine zs_csRl (pc := 14) (As := [sI x2, sL a2]) (st := [sI a1, sR x1]) C (c_X9_cut l g x2 a2) ml_RX9_32 rfl rfl (Nat.le_of_ble_eq_true rfl) ⟨Nat.le_of_ble_eq_true rfl, Nat.le_of_ble_eq_true rfl⟩ ⟨Nat.le_of_ble_eq_true rfl, Nat.le_of_ble_eq_true rfl⟩ (by decide +kernel) (fun x3 => ?_)
  refine zs_last (pc := 17) (o := x1) (n := 30) C (fun _ _ _ => rfl) (by decide +kernel) hx1 ?_
  refine zs_aload_n (pc := 18) (k := 0) (i := 0) C (by decide +kernel) rfl rfl ?_
  refine zs_getR (o' := 89) (pc := 19) (i := 13) (ci := 9) (k := 0) C (by decide +kernel) fl_RX9_13 rfl rfl rfl ?_
  refine zs_iload_n (pc := 22) (k := 1) (i := 1) C (by decide +kernel) rfl rfl ?_
  refine zs_aald (pc := 23) (o := 89) (t := 6) (n := 4) C (by decide) (by decide +kernel) rfl (ly_arr_6_4 rfl) (fun x4 hx4 => ?_)
  refine zs_iload_n (pc := 24) (k := 2) (i := 2) C (by decide +kernel) rfl rfl ?_
  refine zs_lald (pc := 25) (o := x4) (n := 30) C (by decide +kernel) hx4 (fun hinx5 x5 => ?_)
  exact zs_retWl (pc := 26) C hr ⟨Nat.le_of_ble_eq_true rfl, Nat.le_of_ble_eq_true rfl⟩ (by decide +kernel)
set_option maxRecDepth 20000 in
theorem c_X11_write (l : Launch) (g : GC) (hl : l.stackTraces = false) (a0 : Int) (a1 : Int) (a2 : Int) : ConT l g yX11_write cX11_write 5 (some .long) (rmd 9 3 18) [sR 0, sI a0, sI a1, sL a2] (fun mm => fX11_write a0 a1 a2 mm) := by
  refine zs_ofT (by decide +kernel) (Nat.le_of_ble_eq_true rfl) ?_
  intro p e s m args below meth c C hr hE
  replace C : Bd g RX11 cX11_write 5 p s m args meth c := C
  unfold fX11_write
  refine zs_aload_n (pc := 0) (k := 0) (i := 0) C (by decide +kernel) rfl rfl ?_
  refine zs_iload_n (pc := 1) (k := 1) (i := 1) C (by decide +kernel) rfl rfl ?_
  refine zs_cvTv (pc := 2) (As := [sI a0]) (st := []) C hE (c_X11_needRow l g hl a0) ml_RX11_224 rfl rfl rfl rfl (Nat.le_of_ble_eq_true rfl) ⟨Nat.le_of_ble_eq_true rfl, Nat.le_of_ble_eq_true rfl⟩ ⟨Nat.le_of_ble_eq_true rfl, Nat.le_of_ble_eq_true rfl⟩ ⟨Nat.le_of_ble_eq_true rfl, Nat.le_of_ble_eq_true rfl⟩ (by decide +kernel) ?_
  refine zs_iload_n (pc := 5) (k := 2) (i := 2) C (by decide +kernel) rfl rfl ?_
  refine zs_jn (pJ := 22) (kJ := 2) (sJ := 12) (fun t1 => []) (fun t1 => []) (fun t1 => ?_) (fun J2 hJ2 => ?_)
  · exact zs_throwW (pc := 22) (text := "the tray has no such place") (ik := 364) (is_ := 366) (ic := 368) (k := 4) C hE hl ⟨by decide, rfl⟩ ⟨by decide +kernel, by decide +kernel⟩ wf_1704 wf_172 (by decide +kernel) ex_RX11_368.1 ex_RX11_368.2 ⟨Nat.le_of_ble_eq_true rfl, Nat.le_of_ble_eq_true rfl, Nat.le_of_ble_eq_true rfl, Nat.le_of_ble_eq_true rfl⟩ ⟨Nat.le_of_ble_eq_true rfl, Nat.le_of_ble_eq_true rfl⟩ (by decide +kernel) (by decide +kernel) (by decide +kernel) (by decide +kernel) (by decide +kernel)
  · refine zs_if_lt (pc := 6) (off := 16) (tgt := 22) C (by decide +kernel) (by decide) ?_ ?_
    · exact zs_goj (hJ2 ()) trivial
    · refine zs_iload_n (pc := 9) (k := 2) (i := 2) C (by decide +kernel) rfl rfl ?_
      refine zs_aload_n (pc := 10) (k := 0) (i := 0) C (by decide +kernel) rfl rfl ?_
      refine zs_getR (o' := 88) (pc := 11) (i := 55) (ci := 11) (k := 9) C (by decide +kernel) fl_RX11_55 rfl rfl rfl ?_
      refine zs_getR (o' := 95) (pc := 14) (i := 227) (ci := 9) (k := 2) C (by decide +kernel) fl_RX11_227 rfl rfl rfl ?_
      refine zs_iload_n (pc := 17) (k := 1) (i := 1) C (by decide +kernel) rfl rfl ?_
      refine zs_iald (pc := 18) (o := 95) (n := 4) C (by decide +kernel) rfl (fun hinx3 x3 => ?_)
      refine zs_icmp_lt (pc := 19) (off := 14) (tgt := 33) C (by decide +kernel) (by decide) ?_ ?_
      · refine zs_aload_n (pc := 33) (k := 0) (i := 0) C (by decide +kernel) rfl rfl ?_
        refine zs_getR (o' := 88) (pc := 34) (i := 55) (ci := 11) (k := 9) C (by decide +kernel) fl_RX11_55 rfl rfl rfl ?_
        refine zs_iload_n (pc := 37) (k := 1) (i := 1) C (by decide +kernel) rfl rfl ?_
        refine zs_iload_n (pc := 38) (k := 2) (i := 2) C (by decide +kernel) rfl rfl ?_
        refine zs_lload_n (pc := 39) (k := 3) (i := 3) C (by decide +kernel) rfl rfl ?_
        refine zs_cvWl (pc := 40) (As := [sI a0, sI a1, sL a2]) (st := []) C (fun _ _ _ => rfl) (c_X9_put l g a0 a1 a2) ml_RX11_369 rfl rfl rfl rfl (Nat.le_of_ble_eq_true rfl) ⟨Nat.le_of_ble_eq_true rfl, Nat.le_of_ble_eq_true rfl⟩ ⟨Nat.le_of_ble_eq_true rfl, Nat.le_of_ble_eq_true rfl⟩ (by decide +kernel) (fun x4 => ?_)
        exact zs_retTl (pc := 43) C hr ⟨Nat.le_of_ble_eq_true rfl, Nat.le_of_ble_eq_true rfl⟩ (by decide +kernel)
      · exact zs_goj (hJ2 ()) trivial
set_option maxRecDepth 20000 in
theorem c_X11_copy (l : Launch) (g : GC) (hl : l.stackTraces = false) (a0 : Int) (a1 : Int) (a2 : Int) (a3 : Int) : ConT l g yX11_copy cX11_copy 8 (some .int) (rmd 9 6 36) [sR 0, sI a0, sI a1, sI a2, sI a3] (fun mm => fX11_copy a0 a1 a2 a3 mm) := by
  refine zs_ofT (by decide +kernel) (Nat.le_of_ble_eq_true rfl) ?_
  intro p e s m args below meth c C hr hE
  replace C : Bd g RX11 cX11_copy 8 p s m args meth c := C
  unfold fX11_copy
  refine zs_aload_n (pc := 0) (k := 0) (i := 0) C (by decide +kernel) rfl rfl ?_
  refine zs_iload_n (pc := 1) (k := 1) (i := 1) C (by decide +kernel) rfl rfl ?_
  refine zs_cvTv (pc := 2) (As := [sI a0]) (st := []) C hE (c_X11_needTray l g hl a0) ml_RX11_358 rfl rfl rfl rfl (Nat.le_of_ble_eq_true rfl) ⟨Nat.le_of_ble_eq_true rfl, Nat.le_of_ble_eq_true rfl⟩ ⟨Nat.le_of_ble_eq_true rfl, Nat.le_of_ble_eq_true rfl⟩ ⟨Nat.le_of_ble_eq_true rfl, Nat.le_of_ble_eq_true rfl⟩ (by decide +kernel) ?_
  refine zs_aload_n (pc := 5) (k := 0) (i := 0) C (by decide +kernel) rfl rfl ?_
  refine zs_iload_n (pc := 6) (k := 2) (i := 2) C (by decide +kernel) rfl rfl ?_
  refine zs_iload_n (pc := 7) (k := 3) (i := 3) C (by decide +kernel) rfl rfl ?_
  refine zs_iload (pc := 8) (i := 4) C (by decide +kernel) rfl ?_
  refine zs_cvTv (pc := 10) (As := [sI a1, sI a2, sI a3]) (st := []) C hE (c_X11_needWalk l g hl a1 a2 a3) ml_RX11_274 rfl rfl rfl rfl (Nat.le_of_ble_eq_true rfl) ⟨Nat.le_of_ble_eq_true rfl, Nat.le_of_ble_eq_true rfl⟩ ⟨Nat.le_of_ble_eq_true rfl, Nat.le_of_ble_eq_true rfl⟩ ⟨Nat.le_of_ble_eq_true rfl, Nat.le_of_ble_eq_true rfl⟩ (by decide +kernel) ?_
  refine zs_aload_n (pc := 13) (k := 0) (i := 0) C (by decide +kernel) rfl rfl ?_
  refine zs_iload_n (pc := 14) (k := 1) (i := 1) C (by decide +kernel) rfl rfl ?_
  refine zs_cvTv (pc := 15) (As := [sI a0]) (st := []) C hE (c_X11_needRow l g hl a0) ml_RX11_224 rfl rfl rfl rfl (Nat.le_of_ble_eq_true rfl) ⟨Nat.le_of_ble_eq_true rfl, Nat.le_of_ble_eq_true rfl⟩ ⟨Nat.le_of_ble_eq_true rfl, Nat.le_of_ble_eq_true rfl⟩ ⟨Nat.le_of_ble_eq_true rfl, Nat.le_of_ble_eq_true rfl⟩ (by decide +kernel) ?_
  refine zs_aload_n (pc := 18) (k := 0) (i := 0) C (by decide +kernel) rfl rfl ?_
  refine zs_getR (o' := 18) (pc := 19) (i := 33) (ci := 11) (k := 5) C (by decide +kernel) fl_RX11_33 rfl rfl rfl ?_
  refine zs_iload_n (pc := 22) (k := 2) (i := 2) C (by decide +kernel) rfl rfl ?_
  refine zs_cvVv (pc := 23) (As := [sI a1]) (st := []) C (fun _ _ _ => rfl) (c_X0_begin l g a1) ml_RX11_251 rfl rfl rfl rfl (Nat.le_of_ble_eq_true rfl) ⟨Nat.le_of_ble_eq_true rfl, Nat.le_of_ble_eq_true rfl⟩ ⟨Nat.le_of_ble_eq_true rfl, Nat.le_of_ble_eq_true rfl⟩ (by decide +kernel) ?_
  refine zs_aload_n (pc := 26) (k := 0) (i := 0) C (by decide +kernel) rfl rfl ?_
  refine zs_getR (o' := 18) (pc := 27) (i := 33) (ci := 11) (k := 5) C (by decide +kernel) fl_RX11_33 rfl rfl rfl ?_
  refine zs_iload_n (pc := 30) (k := 3) (i := 3) C (by decide +kernel) rfl rfl ?_
  refine zs_iload (pc := 31) (i := 4) C (by decide +kernel) rfl ?_
  refine zs_cvWi (pc := 33) (As := [sI a2, sI a3]) (st := []) C (fun _ _ _ => rfl) rfl (c_X0_findWay l g a2 a3) ml_RX11_285 rfl rfl rfl rfl (Nat.le_of_ble_eq_true rfl) ⟨Nat.le_of_ble_eq_true rfl, Nat.le_of_ble_eq_true rfl⟩ ⟨Nat.le_of_ble_eq_true rfl, Nat.le_of_ble_eq_true rfl⟩ (by decide +kernel) (fun x1 => ?_)
  refine zs_istore (pc := 36) (i := 5) (ls' := [(5, sI x1), (0, sR 0), (1, sI a0), (2, sI a1), (3, sI a2), (4, sI a3)]) C (by decide +kernel) (Nat.le_of_ble_eq_true rfl) rfl ?_
  refine zs_iload (pc := 38) (i := 5) C (by decide +kernel) rfl ?_
  refine zs_aload_n (pc := 40) (k := 0) (i := 0) C (by decide +kernel) rfl rfl ?_
  refine zs_getR (o' := 88) (pc := 41) (i := 55) (ci := 11) (k := 9) C (by decide +kernel) fl_RX11_55 rfl rfl rfl ?_
  refine zs_getR (o' := 95) (pc := 44) (i := 227) (ci := 9) (k := 2) C (by decide +kernel) fl_RX11_227 rfl rfl rfl ?_
  refine zs_iload_n (pc := 47) (k := 1) (i := 1) C (by decide +kernel) rfl rfl ?_
  refine zs_iald (pc := 48) (o := 95) (n := 4) C (by decide +kernel) rfl (fun hinx2 x2 => ?_)
  refine zs_mmin (pc := 49) (idx := 373) C wf_1734 wf_717 wf_166 wf_718 ⟨Nat.le_of_ble_eq_true rfl, Nat.le_of_ble_eq_true rfl, Nat.le_of_ble_eq_true rfl, Nat.le_of_ble_eq_true rfl⟩ (by decide +kernel) ?_
  refine zs_let (fun x3 => ?_)
  refine zs_istore (pc := 52) (i := 6) (ls' := [(6, sI x3), (5, sI x1), (0, sR 0), (1, sI a0), (2, sI a1), (3, sI a2), (4, sI a3)]) C (by decide +kernel) (Nat.le_of_ble_eq_true rfl) rfl ?_
  refine zs_iconst (pc := 54) (n := 0) (x := 0) C (by decide +kernel) (by decide +kernel) ?_
  refine zs_istore (pc := 55) (i := 7) (ls' := [(7, sI 0), (6, sI x3), (5, sI x1), (0, sR 0), (1, sI a0), (2, sI a1), (3, sI a2), (4, sI a3)]) C (by decide +kernel) (Nat.le_of_ble_eq_true rfl) rfl ?_
  refine zs_sub (ls' := [(0, sR 0), (1, sI a0), (2, sI a1), (6, sI x3), (7, sI 0)]) ⟨rfl, rfl, rfl, rfl, rfl, trivial⟩ ?_
  refine zs_lp (pc := 57) (fun (t4 : Int) => [(0, sR 0), (1, sI a0), (2, sI a1), (6, sI x3), (7, sI t4)]) (fun _ => []) (fun K5 hK5 t4 => ?_) BIG 0
  refine zs_iload (pc := 57) (i := 7) C (by decide +kernel) rfl ?_
  refine zs_iload (pc := 59) (i := 6) C (by decide +kernel) rfl ?_
  refine zs_icmp_ge (pc := 61) (off := 38) (tgt := 99) C (by decide +kernel) (by decide) ?_ ?_
  · refine zs_iload (pc := 99) (i := 6) C (by decide +kernel) rfl ?_
    exact zs_retTi (pc := 101) C hr ⟨Nat.le_of_ble_eq_true rfl, Nat.le_of_ble_eq_true rfl⟩ (by decide +kernel)
  · refine zs_aload_n (pc := 64) (k := 0) (i := 0) C (by decide +kernel) rfl rfl ?_
    refine zs_getR (o' := 88) (pc := 65) (i := 55) (ci := 11) (k := 9) C (by decide +kernel) fl_RX11_55 rfl rfl rfl ?_
    refine zs_iload_n (pc := 68) (k := 1) (i := 1) C (by decide +kernel) rfl rfl ?_
    refine zs_iload (pc := 69) (i := 7) C (by decide +kernel) rfl ?_
    refine zs_bipush (pc := 71) (n := 100) (x := 100) C (by decide +kernel) (by decide +kernel) ?_
    refine zs_iload_n (pc := 73) (k := 2) (i := 2) C (by decide +kernel) rfl rfl ?_
    refine zs_imul (pc := 74) C (by decide +kernel) ?_
    refine zs_aload_n (pc := 75) (k := 0) (i := 0) C (by decide +kernel) rfl rfl ?_
    refine zs_getR (o' := 18) (pc := 76) (i := 33) (ci := 11) (k := 5) C (by decide +kernel) fl_RX11_33 rfl rfl rfl ?_
    refine zs_getR (o' := 85) (pc := 79) (i := 288) (ci := 0) (k := 8) C (by decide +kernel) fl_RX11_288 rfl rfl rfl ?_
    refine zs_iload (pc := 82) (i := 7) C (by decide +kernel) rfl ?_
    refine zs_iconst (pc := 84) (n := 1) (x := 1) C (by decide +kernel) (by decide +kernel) ?_
    refine zs_iadd (pc := 85) C (by decide +kernel) ?_
    refine zs_iald (pc := 86) (o := 85) (n := 41) C (by decide +kernel) rfl (fun hinx6 x6 => ?_)
    refine zs_iadd (pc := 87) C (by decide +kernel) ?_
    refine zs_i2l (pc := 88) C (by decide +kernel) ?_
    refine zs_cvWl (pc := 89) (As := [sI a0, sI t4, sL (w32 ((w32 (100 * a1)) + x6))]) (st := []) C (fun _ _ _ => rfl) (c_X9_put l g a0 t4 (w32 ((w32 (100 * a1)) + x6))) ml_RX11_369 rfl rfl rfl rfl (Nat.le_of_ble_eq_true rfl) ⟨Nat.le_of_ble_eq_true rfl, Nat.le_of_ble_eq_true rfl⟩ ⟨Nat.le_of_ble_eq_true rfl, Nat.le_of_ble_eq_true rfl⟩ (by decide +kernel) (fun x7 => ?_)
    refine zs_pop2 (pc := 92) C (by decide +kernel) ?_
    refine zs_iinc (pc := 93) (i := 7) (n := 1) (y := w32 (t4 + 1)) (ls' := [(7, sI (w32 (t4 + 1))), (0, sR 0), (1, sI a0), (2, sI a1), (6, sI x3)]) C (by decide +kernel) rfl rfl (Nat.le_of_ble_eq_true rfl) rfl ?_
    refine zs_goto (pc := 96) (off := (-39)) (tgt := 57) C (by decide +kernel) (by decide) ?_
    exact zs_goj (hK5 (w32 (t4 + 1))) ⟨rfl, rfl, rfl, rfl, rfl, trivial⟩
set_option maxRecDepth 20000 in
theorem c_X11_needImage (l : Launch) (g : GC) (hl : l.stackTraces = false) (a0 : Int) : ConT l g yX11_needImage cX11_needImage 2 none (rmd 7 1 6) [sR 0, sI a0] (fun mm => fX11_needImage a0 mm) := by
  refine zs_ofT (by decide +kernel) (Nat.le_of_ble_eq_true rfl) ?_
  intro p e s m args below meth c C hr hE
  replace C : Bd g RX11 cX11_needImage 2 p s m args meth c := C
  unfold fX11_needImage
  refine zs_iload_n (pc := 0) (k := 1) (i := 1) C (by decide +kernel) rfl rfl ?_
  refine zs_jn (pJ := 9) (kJ := 0) (sJ := 0) (fun t1 => []) (fun t1 => []) (fun t1 => ?_) (fun J2 hJ2 => ?_)
  · exact zs_throwNW (pc := 9) (text := "no such image") (ik := 171) (is_ := 414) (ic := 175) (k := 3) (ix := 13) (rx := prog_34_method_4_code) (Y1 := "java/lang/RuntimeException") C hE hl ⟨by decide, rfl⟩ ⟨by decide +kernel, by decide +kernel, by decide +kernel⟩ wf_1119 wf_169 (by decide +kernel) ex_RX11_175.1 ex_RX11_175.2 (by decide +kernel) (by decide +kernel) (by decide +kernel) (by decide +kernel) ⟨Nat.le_of_ble_eq_true rfl, Nat.le_of_ble_eq_true rfl, Nat.le_of_ble_eq_true rfl, Nat.le_of_ble_eq_true rfl⟩ ⟨Nat.le_of_ble_eq_true rfl, Nat.le_of_ble_eq_true rfl⟩ (by decide +kernel) (by decide +kernel) (by decide +kernel) (by decide +kernel) (by decide +kernel)
  · refine zs_if_lt (pc := 1) (off := 8) (tgt := 9) C (by decide +kernel) (by decide) ?_ ?_
    · exact zs_goj (hJ2 ()) trivial
    · refine zs_iload_n (pc := 4) (k := 1) (i := 1) C (by decide +kernel) rfl rfl ?_
      refine zs_iconst (pc := 5) (n := 3) (x := 3) C (by decide +kernel) (by decide +kernel) ?_
      refine zs_icmp_lt (pc := 6) (off := 14) (tgt := 20) C (by decide +kernel) (by decide) ?_ ?_
      · exact zs_retTv (pc := 20) C hr ⟨Nat.le_of_ble_eq_true rfl, Nat.le_of_ble_eq_true rfl⟩ (by decide +kernel)
      · exact zs_goj (hJ2 ()) trivial
set_option maxRecDepth 20000 in
theorem c_X10_copyFrom (l : Launch) (g : GC) (o : Nat) (a0 : Nat) (h0 : layL[o]? = some (.inl 10)) (h0_ : layL[a0]? = some (.inl 10)) : ConV l g yX10_copyFrom cX10_copyFrom 3 (rmd 3 0 0) [sR o, sR a0] (fun mm => fX10_copyFrom o a0 mm) := by
  refine zs_ofV (by decide +kernel) (Nat.le_of_ble_eq_true rfl) ?_
  intro p e s m args below meth c C hr
  replace C : Bd g RX10 cX10_copyFrom 3 p s m args meth c := C
  unfold fX10_copyFrom
  refine zs_aload_n (pc := 0) (k := 0) (i := 0) C (by decide +kernel) rfl rfl ?_
  refine zs_getR (o' := (o + 1)) (pc := 1) (i := 12) (ci := 10) (k := 0) C (by decide +kernel) fl_RX10_12 h0 rfl rfl ?_
  refine zs_aload_n (pc := 4) (k := 1) (i := 1) C (by decide +kernel) rfl rfl ?_
  refine zs_getR (o' := (a0 + 1)) (pc := 5) (i := 12) (ci := 10) (k := 0) C (by decide +kernel) fl_RX10_12 h0_ rfl rfl ?_
  refine zs_cvVv (pc := 8) (As := [sR (a0 + 1)]) (st := []) C (fun _ _ _ => rfl) (c_X3_copyFrom l g (o + 1) (a0 + 1) (ly_o_10_1 h0) (ly_o_10_1 h0_)) ml_RX10_52 (ly_o_10_1 h0) rfl rfl rfl (Nat.le_of_ble_eq_true rfl) ⟨Nat.le_of_ble_eq_true rfl, Nat.le_of_ble_eq_true rfl⟩ ⟨Nat.le_of_ble_eq_true rfl, Nat.le_of_ble_eq_true rfl⟩ (by decide +kernel) ?_
  refine zs_aload_n (pc := 11) (k := 0) (i := 0) C (by decide +kernel) rfl rfl ?_
  refine zs_getR (o' := (o + 8)) (pc := 12) (i := 21) (ci := 10) (k := 1) C (by decide +kernel) fl_RX10_21 h0 rfl rfl ?_
  refine zs_aload_n (pc := 15) (k := 1) (i := 1) C (by decide +kernel) rfl rfl ?_
  refine zs_getR (o' := (a0 + 8)) (pc := 16) (i := 21) (ci := 10) (k := 1) C (by decide +kernel) fl_RX10_21 h0_ rfl rfl ?_
  refine zs_cvVv (pc := 19) (As := [sR (a0 + 8)]) (st := []) C (fun _ _ _ => rfl) (c_X5_copyFrom l g (o + 8) (a0 + 8) (ly_o_10_8 h0) (ly_o_10_8 h0_)) ml_RX10_56 (ly_o_10_8 h0) rfl rfl rfl (Nat.le_of_ble_eq_true rfl) ⟨Nat.le_of_ble_eq_true rfl, Nat.le_of_ble_eq_true rfl⟩ ⟨Nat.le_of_ble_eq_true rfl, Nat.le_of_ble_eq_true rfl⟩ (by decide +kernel) ?_
  refine zs_aload_n (pc := 22) (k := 0) (i := 0) C (by decide +kernel) rfl rfl ?_
  refine zs_aload_n (pc := 23) (k := 1) (i := 1) C (by decide +kernel) rfl rfl ?_
  refine zs_getI (pc := 24) (i := 25) (ci := 10) (k := 2) C (by decide +kernel) fl_RX10_25 h0_ rfl (fun x1 => ?_)
  refine zs_putI (pc := 27) (i := 25) (ci := 10) (k := 2) C (fun _ _ _ => rfl) (by decide +kernel) fl_RX10_25 fw_10_2 h0 rfl ?_
  refine zs_aload_n (pc := 30) (k := 0) (i := 0) C (by decide +kernel) rfl rfl ?_
  refine zs_aload_n (pc := 31) (k := 1) (i := 1) C (by decide +kernel) rfl rfl ?_
  refine zs_getI (pc := 32) (i := 32) (ci := 10) (k := 4) C (by decide +kernel) fl_RX10_32 h0_ rfl (fun x2 => ?_)
  refine zs_putI (pc := 35) (i := 32) (ci := 10) (k := 4) C (fun _ _ _ => rfl) (by decide +kernel) fl_RX10_32 fw_10_4 h0 rfl ?_
  refine zs_iconst (pc := 38) (n := 0) (x := 0) C (by decide +kernel) (by decide +kernel) ?_
  refine zs_istore_n (pc := 39) (k := 2) (i := 2) (ls' := [(2, sI 0), (0, sR o), (1, sR a0)]) C (by decide +kernel) rfl (Nat.le_of_ble_eq_true rfl) rfl ?_
  refine zs_sub (ls' := [(0, sR o), (1, sR a0), (2, sI 0)]) ⟨rfl, rfl, rfl, trivial⟩ ?_
  refine zs_lp (pc := 40) (fun (t3 : Int) => [(0, sR o), (1, sR a0), (2, sI t3)]) (fun _ => []) (fun K4 hK4 t3 => ?_) BIG 0
  refine zs_iload_n (pc := 40) (k := 2) (i := 2) C (by decide +kernel) rfl rfl ?_
  refine zs_bipush (pc := 41) (n := 10) (x := 10) C (by decide +kernel) (by decide +kernel) ?_
  refine zs_icmp_ge (pc := 43) (off := 24) (tgt := 67) C (by decide +kernel) (by decide) ?_ ?_
  · exact zs_retVv (pc := 67) C hr ⟨Nat.le_of_ble_eq_true rfl, Nat.le_of_ble_eq_true rfl⟩ (by decide +kernel)
  · refine zs_aload_n (pc := 46) (k := 0) (i := 0) C (by decide +kernel) rfl rfl ?_
    refine zs_getR (o' := (o + 12)) (pc := 47) (i := 35) (ci := 10) (k := 5) C (by decide +kernel) fl_RX10_35 h0 rfl rfl ?_
    refine zs_iload_n (pc := 50) (k := 2) (i := 2) C (by decide +kernel) rfl rfl ?_
    refine zs_aald (pc := 51) (o := (o + 12)) (t := 4) (n := 10) C (by decide) (by decide +kernel) (ly_o_10_12 h0) (ly_arr_4_10 (ly_o_10_12 h0)) (fun x5 hx5 => ?_)
    refine zs_aload_n (pc := 52) (k := 1) (i := 1) C (by decide +kernel) rfl rfl ?_
    refine zs_getR (o' := (a0 + 12)) (pc := 53) (i := 35) (ci := 10) (k := 5) C (by decide +kernel) fl_RX10_35 h0_ rfl rfl ?_
    refine zs_iload_n (pc := 56) (k := 2) (i := 2) C (by decide +kernel) rfl rfl ?_
    refine zs_aald (pc := 57) (o := (a0 + 12)) (t := 4) (n := 10) C (by decide) (by decide +kernel) (ly_o_10_12 h0_) (ly_arr_4_10 (ly_o_10_12 h0_)) (fun x6 hx6 => ?_)
    refine zs_cvVv (pc := 58) (As := [sR x6]) (st := []) C (fun _ _ _ => rfl) (c_X5_copyFrom l g x5 x6 hx5 hx6) ml_RX10_56 hx5 rfl rfl rfl (Nat.le_of_ble_eq_true rfl) ⟨Nat.le_of_ble_eq_true rfl, Nat.le_of_ble_eq_true rfl⟩ ⟨Nat.le_of_ble_eq_true rfl, Nat.le_of_ble_eq_true rfl⟩ (by decide +kernel) ?_
    refine zs_iinc (pc := 61) (i := 2) (n := 1) (y := w32 (t3 + 1)) (ls' := [(2, sI (w32 (t3 + 1))), (0, sR o), (1, sR a0)]) C (by decide +kernel) rfl rfl (Nat.le_of_ble_eq_true rfl) rfl ?_
    refine zs_goto (pc := 64) (off := (-24)) (tgt := 40) C (by decide +kernel) (by decide) ?_
    exact zs_goj (hK4 (w32 (t3 + 1))) ⟨rfl, rfl, rfl, trivial⟩
set_option maxRecDepth 20000 in
theorem c_X11_image (l : Launch) (g : GC) (hl : l.stackTraces = false) (a0 : Int) : ConT l g yX11_image cX11_image 2 none (rmd 8 1 6) [sR 0, sI a0] (fun mm => fX11_image a0 mm) := by
  refine zs_ofT (by decide +kernel) (Nat.le_of_ble_eq_true rfl) ?_
  intro p e s m args below meth c C hr hE
  replace C : Bd g RX11 cX11_image 2 p s m args meth c := C
  unfold fX11_image
  refine zs_aload_n (pc := 0) (k := 0) (i := 0) C (by decide +kernel) rfl rfl ?_
  refine zs_iload_n (pc := 1) (k := 1) (i := 1) C (by decide +kernel) rfl rfl ?_
  refine zs_cvTv (pc := 2) (As := [sI a0]) (st := []) C hE (c_X11_needImage l g hl a0) ml_RX11_378 rfl rfl rfl rfl (Nat.le_of_ble_eq_true rfl) ⟨Nat.le_of_ble_eq_true rfl, Nat.le_of_ble_eq_true rfl⟩ ⟨Nat.le_of_ble_eq_true rfl, Nat.le_of_ble_eq_true rfl⟩ ⟨Nat.le_of_ble_eq_true rfl, Nat.le_of_ble_eq_true rfl⟩ (by decide +kernel) ?_
  refine zs_aload_n (pc := 5) (k := 0) (i := 0) C (by decide +kernel) rfl rfl ?_
  refine zs_getR (o' := 86) (pc := 6) (i := 44) (ci := 11) (k := 7) C (by decide +kernel) fl_RX11_44 rfl rfl rfl ?_
  refine zs_iload_n (pc := 9) (k := 1) (i := 1) C (by decide +kernel) rfl rfl ?_
  refine zs_aald (pc := 10) (o := 86) (t := 5) (n := 3) C (by decide) (by decide +kernel) rfl (ly_arr_5_3 rfl) (fun x1 hx1 => ?_)
  refine zs_aload_n (pc := 11) (k := 0) (i := 0) C (by decide +kernel) rfl rfl ?_
  refine zs_getR (o' := 19) (pc := 12) (i := 41) (ci := 11) (k := 6) C (by decide +kernel) fl_RX11_41 rfl rfl rfl ?_
  refine zs_cvVv (pc := 15) (As := [sR 19]) (st := []) C (fun _ _ _ => rfl) (c_X10_copyFrom l g x1 19 hx1 rfl) ml_RX11_381 hx1 rfl rfl rfl (Nat.le_of_ble_eq_true rfl) ⟨Nat.le_of_ble_eq_true rfl, Nat.le_of_ble_eq_true rfl⟩ ⟨Nat.le_of_ble_eq_true rfl, Nat.le_of_ble_eq_true rfl⟩ (by decide +kernel) ?_
  refine zs_aload_n (pc := 18) (k := 0) (i := 0) C (by decide +kernel) rfl rfl ?_
  refine zs_getR (o' := 87) (pc := 19) (i := 48) (ci := 11) (k := 8) C (by decide +kernel) fl_RX11_48 rfl rfl rfl ?_
  refine zs_iload_n (pc := 22) (k := 1) (i := 1) C (by decide +kernel) rfl rfl ?_
  refine zs_iconst (pc := 23) (n := 1) (x := 1) C (by decide +kernel) (by decide +kernel) ?_
  refine zs_zast (pc := 24) (o := 87) (n := 3) C (fun _ _ _ => rfl) (by decide +kernel) rfl ?_
  exact zs_retTv (pc := 25) C hr ⟨Nat.le_of_ble_eq_true rfl, Nat.le_of_ble_eq_true rfl⟩ (by decide +kernel)
set_option maxRecDepth 20000 in
theorem c_X11_restore (l : Launch) (g : GC) (hl : l.stackTraces = false) (a0 : Int) : ConT l g yX11_restore cX11_restore 2 none (rmd 8 2 12) [sR 0, sI a0] (fun mm => fX11_restore a0 mm) := by
  refine zs_ofT (by decide +kernel) (Nat.le_of_ble_eq_true rfl) ?_
  intro p e s m args below meth c C hr hE
  replace C : Bd g RX11 cX11_restore 2 p s m args meth c := C
  unfold fX11_restore
  refine zs_aload_n (pc := 0) (k := 0) (i := 0) C (by decide +kernel) rfl rfl ?_
  refine zs_iload_n (pc := 1) (k := 1) (i := 1) C (by decide +kernel) rfl rfl ?_
  refine zs_cvTv (pc := 2) (As := [sI a0]) (st := []) C hE (c_X11_needImage l g hl a0) ml_RX11_378 rfl rfl rfl rfl (Nat.le_of_ble_eq_true rfl) ⟨Nat.le_of_ble_eq_true rfl, Nat.le_of_ble_eq_true rfl⟩ ⟨Nat.le_of_ble_eq_true rfl, Nat.le_of_ble_eq_true rfl⟩ ⟨Nat.le_of_ble_eq_true rfl, Nat.le_of_ble_eq_true rfl⟩ (by decide +kernel) ?_
  refine zs_aload_n (pc := 5) (k := 0) (i := 0) C (by decide +kernel) rfl rfl ?_
  refine zs_getR (o' := 87) (pc := 6) (i := 48) (ci := 11) (k := 8) C (by decide +kernel) fl_RX11_48 rfl rfl rfl ?_
  refine zs_iload_n (pc := 9) (k := 1) (i := 1) C (by decide +kernel) rfl rfl ?_
  refine zs_zald (pc := 10) (o := 87) (n := 3) C (by decide +kernel) rfl (fun hinx1 x1 => ?_)
  refine zs_if_ne (pc := 11) (off := 14) (tgt := 25) C (by decide +kernel) (by decide) ?_ ?_
  · refine zs_aload_n (pc := 25) (k := 0) (i := 0) C (by decide +kernel) rfl rfl ?_
    refine zs_getR (o' := 19) (pc := 26) (i := 41) (ci := 11) (k := 6) C (by decide +kernel) fl_RX11_41 rfl rfl rfl ?_
    refine zs_aload_n (pc := 29) (k := 0) (i := 0) C (by decide +kernel) rfl rfl ?_
    refine zs_getR (o' := 86) (pc := 30) (i := 44) (ci := 11) (k := 7) C (by decide +kernel) fl_RX11_44 rfl rfl rfl ?_
    refine zs_iload_n (pc := 33) (k := 1) (i := 1) C (by decide +kernel) rfl rfl ?_
    refine zs_aald (pc := 34) (o := 86) (t := 5) (n := 3) C (by decide) (by decide +kernel) rfl (ly_arr_5_3 rfl) (fun x2 hx2 => ?_)
    refine zs_cvVv (pc := 35) (As := [sR x2]) (st := []) C (fun _ _ _ => rfl) (c_X10_copyFrom l g 19 x2 rfl hx2) ml_RX11_381 rfl rfl rfl rfl (Nat.le_of_ble_eq_true rfl) ⟨Nat.le_of_ble_eq_true rfl, Nat.le_of_ble_eq_true rfl⟩ ⟨Nat.le_of_ble_eq_true rfl, Nat.le_of_ble_eq_true rfl⟩ (by decide +kernel) ?_
    exact zs_retTv (pc := 38) C hr ⟨Nat.le_of_ble_eq_true rfl, Nat.le_of_ble_eq_true rfl⟩ (by decide +kernel)
  · exact zs_throwW (pc := 14) (text := "no image was made") (ik := 183) (is_ := 385) (ic := 187) (k := 2) C hE hl ⟨by decide, rfl⟩ ⟨by decide +kernel, by decide +kernel⟩ wf_1187 wf_170 (by decide +kernel) ex_RX11_187.1 ex_RX11_187.2 ⟨Nat.le_of_ble_eq_true rfl, Nat.le_of_ble_eq_true rfl, Nat.le_of_ble_eq_true rfl, Nat.le_of_ble_eq_true rfl⟩ ⟨Nat.le_of_ble_eq_true rfl, Nat.le_of_ble_eq_true rfl⟩ (by decide +kernel) (by decide +kernel) (by decide +kernel) (by decide +kernel) (by decide +kernel)
set_option maxRecDepth 20000 in
theorem c_X11_count (l : Launch) (g : GC) (a0 : Int) : ConR l g yX11_count cX11_count 2 (some .int) (rmd 2 0 0) [sR 0, sI a0] (fun mm => fX11_count a0 mm) := by
  refine zs_ofR (by decide +kernel) (Nat.le_of_ble_eq_true rfl) ?_
  intro p e s m args below meth c C hr
  replace C : Bd g RX11 cX11_count 2 p s m args meth c := C
  unfold fX11_count
  refine zs_iload_n (pc := 0) (k := 1) (i := 1) C (by decide +kernel) rfl rfl ?_
  refine zs_ite (fun hc0 => ?_) (fun hc0 => ?_)
  · refine zs_tswI (pc := 1) (dflt := 187) (lo := 0) (hi := 10) (offs := #[59, 70, 81, 92, 103, 114, 128, 139, 160, 174, 182]) (len := 59) (i := 0) (off := 59) (tgt := 60) C (by decide +kernel) hc0 (by decide) rfl (by decide) ?_
    refine zs_aload_n (pc := 60) (k := 0) (i := 0) C (by decide +kernel) rfl rfl ?_
    refine zs_getR (o' := 19) (pc := 61) (i := 41) (ci := 11) (k := 6) C (by decide +kernel) fl_RX11_41 rfl rfl rfl ?_
    refine zs_getR (o' := 20) (pc := 64) (i := 114) (ci := 10) (k := 0) C (by decide +kernel) fl_RX11_114 rfl rfl rfl ?_
    refine zs_getI (pc := 67) (i := 115) (ci := 3) (k := 0) C (by decide +kernel) fl_RX11_115 rfl rfl (fun x1 => ?_)
    exact zs_retRi (pc := 70) C hr ⟨Nat.le_of_ble_eq_true rfl, Nat.le_of_ble_eq_true rfl⟩ (by decide +kernel)
  · refine zs_ite (fun hc1 => ?_) (fun hc1 => ?_)
    · refine zs_tswI (pc := 1) (dflt := 187) (lo := 0) (hi := 10) (offs := #[59, 70, 81, 92, 103, 114, 128, 139, 160, 174, 182]) (len := 59) (i := 1) (off := 70) (tgt := 71) C (by decide +kernel) hc1 (by decide) rfl (by decide) ?_
      refine zs_aload_n (pc := 71) (k := 0) (i := 0) C (by decide +kernel) rfl rfl ?_
      refine zs_getR (o' := 19) (pc := 72) (i := 41) (ci := 11) (k := 6) C (by decide +kernel) fl_RX11_41 rfl rfl rfl ?_
      refine zs_getR (o' := 20) (pc := 75) (i := 114) (ci := 10) (k := 0) C (by decide +kernel) fl_RX11_114 rfl rfl rfl ?_
      refine zs_getI (pc := 78) (i := 387) (ci := 3) (k := 1) C (by decide +kernel) fl_RX11_387 rfl rfl (fun x2 => ?_)
      exact zs_retRi (pc := 81) C hr ⟨Nat.le_of_ble_eq_true rfl, Nat.le_of_ble_eq_true rfl⟩ (by decide +kernel)
    · refine zs_ite (fun hc2 => ?_) (fun hc2 => ?_)
      · refine zs_tswI (pc := 1) (dflt := 187) (lo := 0) (hi := 10) (offs := #[59, 70, 81, 92, 103, 114, 128, 139, 160, 174, 182]) (len := 59) (i := 2) (off := 81) (tgt := 82) C (by decide +kernel) hc2 (by decide) rfl (by decide) ?_
        refine zs_aload_n (pc := 82) (k := 0) (i := 0) C (by decide +kernel) rfl rfl ?_
        refine zs_getR (o' := 19) (pc := 83) (i := 41) (ci := 11) (k := 6) C (by decide +kernel) fl_RX11_41 rfl rfl rfl ?_
        refine zs_getR (o' := 20) (pc := 86) (i := 114) (ci := 10) (k := 0) C (by decide +kernel) fl_RX11_114 rfl rfl rfl ?_
        refine zs_getI (pc := 89) (i := 390) (ci := 3) (k := 2) C (by decide +kernel) fl_RX11_390 rfl rfl (fun x3 => ?_)
        exact zs_retRi (pc := 92) C hr ⟨Nat.le_of_ble_eq_true rfl, Nat.le_of_ble_eq_true rfl⟩ (by decide +kernel)
      · refine zs_ite (fun hc3 => ?_) (fun hc3 => ?_)
        · refine zs_tswI (pc := 1) (dflt := 187) (lo := 0) (hi := 10) (offs := #[59, 70, 81, 92, 103, 114, 128, 139, 160, 174, 182]) (len := 59) (i := 3) (off := 92) (tgt := 93) C (by decide +kernel) hc3 (by decide) rfl (by decide) ?_
          refine zs_aload_n (pc := 93) (k := 0) (i := 0) C (by decide +kernel) rfl rfl ?_
          refine zs_getR (o' := 19) (pc := 94) (i := 41) (ci := 11) (k := 6) C (by decide +kernel) fl_RX11_41 rfl rfl rfl ?_
          refine zs_getR (o' := 20) (pc := 97) (i := 114) (ci := 10) (k := 0) C (by decide +kernel) fl_RX11_114 rfl rfl rfl ?_
          refine zs_getI (pc := 100) (i := 333) (ci := 3) (k := 5) C (by decide +kernel) fl_RX11_333 rfl rfl (fun x4 => ?_)
          exact zs_retRi (pc := 103) C hr ⟨Nat.le_of_ble_eq_true rfl, Nat.le_of_ble_eq_true rfl⟩ (by decide +kernel)
        · refine zs_ite (fun hc4 => ?_) (fun hc4 => ?_)
          · refine zs_tswI (pc := 1) (dflt := 187) (lo := 0) (hi := 10) (offs := #[59, 70, 81, 92, 103, 114, 128, 139, 160, 174, 182]) (len := 59) (i := 4) (off := 103) (tgt := 104) C (by decide +kernel) hc4 (by decide) rfl (by decide) ?_
            refine zs_aload_n (pc := 104) (k := 0) (i := 0) C (by decide +kernel) rfl rfl ?_
            refine zs_getR (o' := 19) (pc := 105) (i := 41) (ci := 11) (k := 6) C (by decide +kernel) fl_RX11_41 rfl rfl rfl ?_
            refine zs_getR (o' := 20) (pc := 108) (i := 114) (ci := 10) (k := 0) C (by decide +kernel) fl_RX11_114 rfl rfl rfl ?_
            refine zs_getI (pc := 111) (i := 168) (ci := 3) (k := 4) C (by decide +kernel) fl_RX11_168 rfl rfl (fun x5 => ?_)
            exact zs_retRi (pc := 114) C hr ⟨Nat.le_of_ble_eq_true rfl, Nat.le_of_ble_eq_true rfl⟩ (by decide +kernel)
          · refine zs_ite (fun hc5 => ?_) (fun hc5 => ?_)
            · refine zs_tswI (pc := 1) (dflt := 187) (lo := 0) (hi := 10) (offs := #[59, 70, 81, 92, 103, 114, 128, 139, 160, 174, 182]) (len := 59) (i := 5) (off := 114) (tgt := 115) C (by decide +kernel) hc5 (by decide) rfl (by decide) ?_
              refine zs_aload_n (pc := 115) (k := 0) (i := 0) C (by decide +kernel) rfl rfl ?_
              refine zs_getR (o' := 19) (pc := 116) (i := 41) (ci := 11) (k := 6) C (by decide +kernel) fl_RX11_41 rfl rfl rfl ?_
              refine zs_getR (o' := 20) (pc := 119) (i := 114) (ci := 10) (k := 0) C (by decide +kernel) fl_RX11_114 rfl rfl rfl ?_
              refine zs_getI (pc := 122) (i := 277) (ci := 3) (k := 3) C (by decide +kernel) fl_RX11_277 rfl rfl (fun x6 => ?_)
              refine zs_csRi (pc := 125) (As := [sI x6]) (st := []) C rfl (c_J6_bitCount_0f7a4 l g x6) ml_RX11_393 rfl rfl (Nat.le_of_ble_eq_true rfl) ⟨Nat.le_of_ble_eq_true rfl, Nat.le_of_ble_eq_true rfl⟩ ⟨Nat.le_of_ble_eq_true rfl, Nat.le_of_ble_eq_true rfl⟩ (by decide +kernel) (fun x7 => ?_)
              exact zs_retRi (pc := 128) C hr ⟨Nat.le_of_ble_eq_true rfl, Nat.le_of_ble_eq_true rfl⟩ (by decide +kernel)
            · refine zs_ite (fun hc6 => ?_) (fun hc6 => ?_)
              · refine zs_tswI (pc := 1) (dflt := 187) (lo := 0) (hi := 10) (offs := #[59, 70, 81, 92, 103, 114, 128, 139, 160, 174, 182]) (len := 59) (i := 6) (off := 128) (tgt := 129) C (by decide +kernel) hc6 (by decide) rfl (by decide) ?_
                refine zs_aload_n (pc := 129) (k := 0) (i := 0) C (by decide +kernel) rfl rfl ?_
                refine zs_getR (o' := 19) (pc := 130) (i := 41) (ci := 11) (k := 6) C (by decide +kernel) fl_RX11_41 rfl rfl rfl ?_
                refine zs_getR (o' := 27) (pc := 133) (i := 141) (ci := 10) (k := 1) C (by decide +kernel) fl_RX11_141 rfl rfl rfl ?_
                refine zs_getI (pc := 136) (i := 156) (ci := 5) (k := 0) C (by decide +kernel) fl_RX11_156 rfl rfl (fun x8 => ?_)
                exact zs_retRi (pc := 139) C hr ⟨Nat.le_of_ble_eq_true rfl, Nat.le_of_ble_eq_true rfl⟩ (by decide +kernel)
              · refine zs_ite (fun hc7 => ?_) (fun hc7 => ?_)
                · refine zs_tswI (pc := 1) (dflt := 187) (lo := 0) (hi := 10) (offs := #[59, 70, 81, 92, 103, 114, 128, 139, 160, 174, 182]) (len := 59) (i := 7) (off := 139) (tgt := 140) C (by decide +kernel) hc7 (by decide) rfl (by decide) ?_
                  refine zs_aload_n (pc := 140) (k := 0) (i := 0) C (by decide +kernel) rfl rfl ?_
                  refine zs_getR (o' := 19) (pc := 141) (i := 41) (ci := 11) (k := 6) C (by decide +kernel) fl_RX11_41 rfl rfl rfl ?_
                  refine zs_getR (o' := 27) (pc := 144) (i := 141) (ci := 10) (k := 1) C (by decide +kernel) fl_RX11_141 rfl rfl rfl ?_
                  refine zs_aload_n (pc := 147) (k := 0) (i := 0) C (by decide +kernel) rfl rfl ?_
                  refine zs_getR (o' := 19) (pc := 148) (i := 41) (ci := 11) (k := 6) C (by decide +kernel) fl_RX11_41 rfl rfl rfl ?_
                  refine zs_getR (o' := 27) (pc := 151) (i := 141) (ci := 10) (k := 1) C (by decide +kernel) fl_RX11_141 rfl rfl rfl ?_
                  refine zs_getI (pc := 154) (i := 156) (ci := 5) (k := 0) C (by decide +kernel) fl_RX11_156 rfl rfl (fun x9 => ?_)
                  refine zs_cvRi (pc := 157) (As := [sI x9]) (st := []) C rfl (c_X5_rainIn l g x9) ml_RX11_398 rfl rfl rfl rfl (Nat.le_of_ble_eq_true rfl) ⟨Nat.le_of_ble_eq_true rfl, Nat.le_of_ble_eq_true rfl⟩ ⟨Nat.le_of_ble_eq_true rfl, Nat.le_of_ble_eq_true rfl⟩ (by decide +kernel) (fun x10 => ?_)
                  exact zs_retRi (pc := 160) C hr ⟨Nat.le_of_ble_eq_true rfl, Nat.le_of_ble_eq_true rfl⟩ (by decide +kernel)
                · refine zs_ite (fun hc8 => ?_) (fun hc8 => ?_)
                  · refine zs_tswI (pc := 1) (dflt := 187) (lo := 0) (hi := 10) (offs := #[59, 70, 81, 92, 103, 114, 128, 139, 160, 174, 182]) (len := 59) (i := 8) (off := 160) (tgt := 161) C (by decide +kernel) hc8 (by decide) rfl (by decide) ?_
                    refine zs_aload_n (pc := 161) (k := 0) (i := 0) C (by decide +kernel) rfl rfl ?_
                    refine zs_getR (o' := 19) (pc := 162) (i := 41) (ci := 11) (k := 6) C (by decide +kernel) fl_RX11_41 rfl rfl rfl ?_
                    refine zs_getR (o' := 27) (pc := 165) (i := 141) (ci := 10) (k := 1) C (by decide +kernel) fl_RX11_141 rfl rfl rfl ?_
                    refine zs_getI (pc := 168) (i := 213) (ci := 5) (k := 3) C (by decide +kernel) fl_RX11_213 rfl rfl (fun x11 => ?_)
                    refine zs_csRi (pc := 171) (As := [sI x11]) (st := []) C rfl (c_J6_bitCount_0f7a4 l g x11) ml_RX11_393 rfl rfl (Nat.le_of_ble_eq_true rfl) ⟨Nat.le_of_ble_eq_true rfl, Nat.le_of_ble_eq_true rfl⟩ ⟨Nat.le_of_ble_eq_true rfl, Nat.le_of_ble_eq_true rfl⟩ (by decide +kernel) (fun x12 => ?_)
                    exact zs_retRi (pc := 174) C hr ⟨Nat.le_of_ble_eq_true rfl, Nat.le_of_ble_eq_true rfl⟩ (by decide +kernel)
                  · refine zs_ite (fun hc9 => ?_) (fun hc9 => ?_)
                    · refine zs_tswI (pc := 1) (dflt := 187) (lo := 0) (hi := 10) (offs := #[59, 70, 81, 92, 103, 114, 128, 139, 160, 174, 182]) (len := 59) (i := 9) (off := 174) (tgt := 175) C (by decide +kernel) hc9 (by decide) rfl (by decide) ?_
                      refine zs_aload_n (pc := 175) (k := 0) (i := 0) C (by decide +kernel) rfl rfl ?_
                      refine zs_getR (o' := 19) (pc := 176) (i := 41) (ci := 11) (k := 6) C (by decide +kernel) fl_RX11_41 rfl rfl rfl ?_
                      refine zs_getI (pc := 179) (i := 216) (ci := 10) (k := 2) C (by decide +kernel) fl_RX11_216 rfl rfl (fun x13 => ?_)
                      exact zs_retRi (pc := 182) C hr ⟨Nat.le_of_ble_eq_true rfl, Nat.le_of_ble_eq_true rfl⟩ (by decide +kernel)
                    · refine zs_ite (fun hc10 => ?_) (fun hc10 => ?_)
                      · refine zs_tswI (pc := 1) (dflt := 187) (lo := 0) (hi := 10) (offs := #[59, 70, 81, 92, 103, 114, 128, 139, 160, 174, 182]) (len := 59) (i := 10) (off := 182) (tgt := 183) C (by decide +kernel) hc10 (by decide) rfl (by decide) ?_
                        refine zs_aload_n (pc := 183) (k := 0) (i := 0) C (by decide +kernel) rfl rfl ?_
                        refine zs_getI (pc := 184) (i := 13) (ci := 11) (k := 1) C (by decide +kernel) fl_RX11_13 rfl rfl (fun x14 => ?_)
                        exact zs_retRi (pc := 187) C hr ⟨Nat.le_of_ble_eq_true rfl, Nat.le_of_ble_eq_true rfl⟩ (by decide +kernel)
                      · refine zs_tswD (pc := 1) (dflt := 187) (lo := 0) (hi := 10) (offs := #[59, 70, 81, 92, 103, 114, 128, 139, 160, 174, 182]) (len := 59) (tgt := 188) C (by decide +kernel) (by omega) (by decide) ?_
                        refine zs_iconst (pc := 188) (n := (-1)) (x := (-1)) C (by decide +kernel) (by decide +kernel) ?_
                        exact zs_retRi (pc := 189) C hr ⟨Nat.le_of_ble_eq_true rfl, Nat.le_of_ble_eq_true rfl⟩ (by decide +kernel)
set_option maxRecDepth 20000 in
theorem c_X12_thrown (l : Launch) (g : GC)  : ConR l g yX12_thrown cX12_thrown 1 (some .int) (rmd 1 0 0) [sR 287] (fun mm => fX12_thrown  mm) := by
  refine zs_ofR (by decide +kernel) (Nat.le_of_ble_eq_true rfl) ?_
  intro p e s m args below meth c C hr
  replace C : Bd g RX12 cX12_thrown 1 p s m args meth c := C
  unfold fX12_thrown
  refine zs_aload_n (pc := 0) (k := 0) (i := 0) C (by decide +kernel) rfl rfl ?_
  refine zs_getI (pc := 1) (i := 88) (ci := 12) (k := 4) C (by decide +kernel) fl_RX12_88 rfl rfl (fun x1 => ?_)
  exact zs_retRi (pc := 4) C hr ⟨Nat.le_of_ble_eq_true rfl, Nat.le_of_ble_eq_true rfl⟩ (by decide +kernel)
set_option maxRecDepth 20000 in
theorem c_X12_fails (l : Launch) (g : GC) (a0 : Int) : ConW l g yX12_fails cX12_fails 2 (some .int) (rmd 1 0 0) [sR 287, sI a0] (fun mm => fX12_fails a0 mm) := by
  refine zs_ofW (by decide +kernel) (Nat.le_of_ble_eq_true rfl) ?_
  intro p e s m args below meth c C hr
  replace C : Bd g RX12 cX12_fails 2 p s m args meth c := C
  unfold fX12_fails
  refine zs_aload_n (pc := 0) (k := 0) (i := 0) C (by decide +kernel) rfl rfl ?_
  refine zs_iload_n (pc := 1) (k := 1) (i := 1) C (by decide +kernel) rfl rfl ?_
  refine zs_putI (pc := 2) (i := 88) (ci := 12) (k := 4) C (fun _ _ _ => rfl) (by decide +kernel) fl_RX12_88 fw_12_4 rfl rfl ?_
  refine zs_iconst (pc := 5) (n := 0) (x := 0) C (by decide +kernel) (by decide +kernel) ?_
  exact zs_retWi (pc := 6) C hr ⟨Nat.le_of_ble_eq_true rfl, Nat.le_of_ble_eq_true rfl⟩ (by decide +kernel)
set_option maxRecDepth 20000 in
theorem c_X12_within (l : Launch) (g : GC) (a0 : Int) (a1 : Int) (a2 : Int) : ConR l g yX12_within cX12_within 6 (some .boolean) (rmd 1 0 0) [sL a0, sL a1, sL a2] (fun mm => fX12_within a0 a1 a2 mm) := by
  refine zs_ofR (by decide +kernel) (Nat.le_of_ble_eq_true rfl) ?_
  intro p e s m args below meth c C hr
  replace C : Bd g RX12 cX12_within 6 p s m args meth c := C
  unfold fX12_within
  refine zs_lload_n (pc := 0) (k := 0) (i := 0) C (by decide +kernel) rfl rfl ?_
  refine zs_lload_n (pc := 1) (k := 2) (i := 2) C (by decide +kernel) rfl rfl ?_
  refine zs_jn (pJ := 18) (kJ := 0) (sJ := 0) (fun t1 => []) (fun t1 => [sI t1]) (fun t1 => ?_) (fun J2 hJ2 => ?_)
  · refine zs_chk (fun _ hx => ?_)
    exact zs_retRz (pc := 18) C hx hr ⟨Nat.le_of_ble_eq_true rfl, Nat.le_of_ble_eq_true rfl⟩ (by decide +kernel)
  · refine zs_jn (pJ := 17) (kJ := 0) (sJ := 0) (fun t3 => []) (fun t3 => []) (fun t3 => ?_) (fun J4 hJ4 => ?_)
    · refine zs_iconst (pc := 17) (n := 0) (x := 0) C (by decide +kernel) (by decide +kernel) ?_
      exact zs_goj (hJ2 0) trivial
    · refine zs_lcmp_lt (pc := 2) (off := 14) (tgt := 17) C (by decide +kernel) (by decide +kernel) (by decide) ?_ ?_
      · exact zs_goj (hJ4 ()) trivial
      · refine zs_lload_n (pc := 6) (k := 0) (i := 0) C (by decide +kernel) rfl rfl ?_
        refine zs_lload (pc := 7) (i := 4) C (by decide +kernel) rfl ?_
        refine zs_lcmp_gt (pc := 9) (off := 7) (tgt := 17) C (by decide +kernel) (by decide +kernel) (by decide) ?_ ?_
        · exact zs_goj (hJ4 ()) trivial
        · refine zs_iconst (pc := 13) (n := 1) (x := 1) C (by decide +kernel) (by decide +kernel) ?_
          refine zs_goto (pc := 14) (off := 4) (tgt := 18) C (by decide +kernel) (by decide) ?_
          exact zs_goj (hJ2 1) trivial
set_option maxRecDepth 20000 in
theorem c_X12_has (l : Launch) (g : GC) (a0 : Int) (a1 : Int) : ConR l g yX12_has cX12_has 2 (some .boolean) (rmd 1 0 0) [sI a0, sI a1] (fun mm => fX12_has a0 a1 mm) := by
  refine zs_ofR (by decide +kernel) (Nat.le_of_ble_eq_true rfl) ?_
  intro p e s m args below meth c C hr
  replace C : Bd g RX12 cX12_has 2 p s m args meth c := C
  unfold fX12_has
  refine zs_iload_n (pc := 0) (k := 0) (i := 0) C (by decide +kernel) rfl rfl ?_
  refine zs_iload_n (pc := 1) (k := 1) (i := 1) C (by decide +kernel) rfl rfl ?_
  refine zs_ishr (pc := 2) C (by decide +kernel) ?_
  refine zs_iconst (pc := 3) (n := 1) (x := 1) C (by decide +kernel) (by decide +kernel) ?_
  refine zs_iand (pc := 4) C (by decide +kernel) ?_
  refine zs_iconst (pc := 5) (n := 1) (x := 1) C (by decide +kernel) (by decide +kernel) ?_
  refine zs_jn (pJ := 14) (kJ := 0) (sJ := 0) (fun t1 => []) (fun t1 => [sI t1]) (fun t1 => ?_) (fun J2 hJ2 => ?_)
  · refine zs_chk (fun _ hx => ?_)
    exact zs_retRz (pc := 14) C hx hr ⟨Nat.le_of_ble_eq_true rfl, Nat.le_of_ble_eq_true rfl⟩ (by decide +kernel)
  · refine zs_icmp_ne (pc := 6) (off := 7) (tgt := 13) C (by decide +kernel) (by decide) ?_ ?_
    · refine zs_iconst (pc := 13) (n := 0) (x := 0) C (by decide +kernel) (by decide +kernel) ?_
      exact zs_goj (hJ2 0) trivial
    · refine zs_iconst (pc := 9) (n := 1) (x := 1) C (by decide +kernel) (by decide +kernel) ?_
      refine zs_goto (pc := 10) (off := 4) (tgt := 14) C (by decide +kernel) (by decide) ?_
      exact zs_goj (hJ2 1) trivial
set_option maxRecDepth 20000 in
theorem c_X12_size (l : Launch) (g : GC) (a0 : Int) : ConR l g yX12_size cX12_size 3 (some .int) (rmd 1 0 0) [sI a0] (fun mm => fX12_size a0 mm) := by
  refine zs_ofR (by decide +kernel) (Nat.le_of_ble_eq_true rfl) ?_
  intro p e s m args below meth c C hr
  replace C : Bd g RX12 cX12_size 3 p s m args meth c := C
  unfold fX12_size
  refine zs_iconst (pc := 0) (n := 0) (x := 0) C (by decide +kernel) (by decide +kernel) ?_
  refine zs_istore_n (pc := 1) (k := 1) (i := 1) (ls' := [(1, sI 0), (0, sI a0)]) C (by decide +kernel) rfl (Nat.le_of_ble_eq_true rfl) rfl ?_
  refine zs_iload_n (pc := 2) (k := 0) (i := 0) C (by decide +kernel) rfl rfl ?_
  refine zs_istore_n (pc := 3) (k := 2) (i := 2) (ls' := [(2, sI a0), (1, sI 0), (0, sI a0)]) C (by decide +kernel) rfl (Nat.le_of_ble_eq_true rfl) rfl ?_
  refine zs_sub (ls' := [(1, sI 0), (2, sI a0)]) ⟨rfl, rfl, trivial⟩ ?_
  refine zs_lp (pc := 4) (fun (t1 : Int × Int) => [(1, sI t1.1), (2, sI t1.2)]) (fun _ => []) (fun K2 hK2 t1 => ?_) BIG (0, a0)
  refine zs_iload_n (pc := 4) (k := 2) (i := 2) C (by decide +kernel) rfl rfl ?_
  refine zs_if_eq (pc := 5) (off := 15) (tgt := 20) C (by decide +kernel) (by decide) ?_ ?_
  · refine zs_iload_n (pc := 20) (k := 1) (i := 1) C (by decide +kernel) rfl rfl ?_
    exact zs_retRi (pc := 21) C hr ⟨Nat.le_of_ble_eq_true rfl, Nat.le_of_ble_eq_true rfl⟩ (by decide +kernel)
  · refine zs_iinc (pc := 8) (i := 1) (n := 1) (y := w32 (t1.1 + 1)) (ls' := [(1, sI (w32 (t1.1 + 1))), (2, sI t1.2)]) C (by decide +kernel) rfl rfl (Nat.le_of_ble_eq_true rfl) rfl ?_
    refine zs_iload_n (pc := 11) (k := 2) (i := 2) C (by decide +kernel) rfl rfl ?_
    refine zs_iload_n (pc := 12) (k := 2) (i := 2) C (by decide +kernel) rfl rfl ?_
    refine zs_iconst (pc := 13) (n := 1) (x := 1) C (by decide +kernel) (by decide +kernel) ?_
    refine zs_isub (pc := 14) C (by decide +kernel) ?_
    refine zs_iand (pc := 15) C (by decide +kernel) ?_
    refine zs_let (fun x3 => ?_)
    refine zs_istore_n (pc := 16) (k := 2) (i := 2) (ls' := [(2, sI x3), (1, sI (w32 (t1.1 + 1)))]) C (by decide +kernel) rfl (Nat.le_of_ble_eq_true rfl) rfl ?_
    refine zs_goto (pc := 17) (off := (-13)) (tgt := 4) C (by decide +kernel) (by decide) ?_
    exact zs_goj (hK2 (w32 (t1.1 + 1), x3)) ⟨rfl, rfl, trivial⟩
set_option maxRecDepth 20000 in
theorem c_X12_feed (l : Launch) (g : GC) (a0 : Int) (a1 : Int) (a2 : Int) (a3 : Int) (a4 : Int) : ConW l g yX12_feed cX12_feed 8 (some .int) (rmd 1 0 0) [sR 287, sI a0, sI a1, sI a2, sI a3, sI a4] (fun mm => fX12_feed a0 a1 a2 a3 a4 mm) := by
  refine zs_ofW (by decide +kernel) (Nat.le_of_ble_eq_true rfl) ?_
  intro p e s m args below meth c C hr
  replace C : Bd g RX12 cX12_feed 8 p s m args meth c := C
  unfold fX12_feed
  refine zs_aload_n (pc := 0) (k := 0) (i := 0) C (by decide +kernel) rfl rfl ?_
  refine zs_iconst (pc := 1) (n := 0) (x := 0) C (by decide +kernel) (by decide +kernel) ?_
  refine zs_putI (pc := 2) (i := 88) (ci := 12) (k := 4) C (fun _ _ _ => rfl) (by decide +kernel) fl_RX12_88 fw_12_4 rfl rfl ?_
  refine zs_aload_n (pc := 5) (k := 0) (i := 0) C (by decide +kernel) rfl rfl ?_
  refine zs_getI (pc := 6) (i := 91) (ci := 12) (k := 6) C (by decide +kernel) fl_RX12_91 rfl rfl (fun x1 => ?_)
  refine zs_bipush (pc := 9) (n := 20) (x := 20) C (by decide +kernel) (by decide +kernel) ?_
  refine zs_iadd (pc := 11) C (by decide +kernel) ?_
  refine zs_sipush (pc := 12) (n := 900) (x := 900) C (by decide +kernel) (by decide +kernel) ?_
  refine zs_icmp_le (pc := 15) (off := 5) (tgt := 20) C (by decide +kernel) (by decide) ?_ ?_
  · refine zs_iconst (pc := 20) (n := 0) (x := 0) C (by decide +kernel) (by decide +kernel) ?_
    refine zs_istore (pc := 21) (i := 6) (ls' := [(6, sI 0), (0, sR 287), (1, sI a0), (2, sI a1), (3, sI a2), (4, sI a3), (5, sI a4)]) C (by decide +kernel) (Nat.le_of_ble_eq_true rfl) rfl ?_
    refine zs_sub (ls' := [(0, sR 287), (1, sI a0), (2, sI a1), (3, sI a2), (4, sI a3), (5, sI a4), (6, sI 0)]) ⟨rfl, rfl, rfl, rfl, rfl, rfl, rfl, trivial⟩ ?_
    refine zs_lp (pc := 23) (fun (t2 : Int) => [(0, sR 287), (1, sI a0), (2, sI a1), (3, sI a2), (4, sI a3), (5, sI a4), (6, sI t2)]) (fun _ => []) (fun K3 hK3 t2 => ?_) BIG 0
    refine zs_iload (pc := 23) (i := 6) C (by decide +kernel) rfl ?_
    refine zs_bipush (pc := 25) (n := 20) (x := 20) C (by decide +kernel) (by decide +kernel) ?_
    refine zs_icmp_ge (pc := 27) (off := 93) (tgt := 120) C (by decide +kernel) (by decide) ?_ ?_
    · refine zs_aload_n (pc := 120) (k := 0) (i := 0) C (by decide +kernel) rfl rfl ?_
      refine zs_getI (pc := 121) (i := 91) (ci := 12) (k := 6) C (by decide +kernel) fl_RX12_91 rfl rfl (fun x4 => ?_)
      exact zs_retWi (pc := 124) C hr ⟨Nat.le_of_ble_eq_true rfl, Nat.le_of_ble_eq_true rfl⟩ (by decide +kernel)
    · refine zs_iload (pc := 30) (i := 6) C (by decide +kernel) rfl ?_
      refine zs_iconst (pc := 32) (n := 4) (x := 4) C (by decide +kernel) (by decide +kernel) ?_
      refine zs_jn (pJ := 76) (kJ := 0) (sJ := 0) (fun t5 => [(0, sR 287), (1, sI a0), (2, sI a1), (3, sI a2), (4, sI a3), (5, sI a4), (6, sI t2)]) (fun t5 => [sI t5]) (fun t5 => ?_) (fun J6 hJ6 => ?_)
      · refine zs_istore (pc := 76) (i := 7) (ls' := [(7, sI t5), (0, sR 287), (1, sI a0), (2, sI a1), (3, sI a2), (4, sI a3), (5, sI a4), (6, sI t2)]) C (by decide +kernel) (Nat.le_of_ble_eq_true rfl) rfl ?_
        refine zs_aload_n (pc := 78) (k := 0) (i := 0) C (by decide +kernel) rfl rfl ?_
        refine zs_getR (o' := 292) (pc := 79) (i := 23) (ci := 12) (k := 5) C (by decide +kernel) fl_RX12_23 rfl rfl rfl ?_
        refine zs_aload_n (pc := 82) (k := 0) (i := 0) C (by decide +kernel) rfl rfl ?_
        refine zs_getI (pc := 83) (i := 91) (ci := 12) (k := 6) C (by decide +kernel) fl_RX12_91 rfl rfl (fun x7 => ?_)
        refine zs_iload (pc := 86) (i := 7) C (by decide +kernel) rfl ?_
        refine zs_bipush (pc := 88) (n := 24) (x := 24) C (by decide +kernel) (by decide +kernel) ?_
        refine zs_bipush (pc := 90) (n := 8) (x := 8) C (by decide +kernel) (by decide +kernel) ?_
        refine zs_iload (pc := 92) (i := 6) C (by decide +kernel) rfl ?_
        refine zs_iconst (pc := 94) (n := 3) (x := 3) C (by decide +kernel) (by decide +kernel) ?_
        refine zs_iand (pc := 95) C (by decide +kernel) ?_
        refine zs_imul (pc := 96) C (by decide +kernel) ?_
        refine zs_isub (pc := 97) C (by decide +kernel) ?_
        refine zs_iushr (pc := 98) C (by decide +kernel) ?_
        refine zs_sipush (pc := 99) (n := 255) (x := 255) C (by decide +kernel) (by decide +kernel) ?_
        refine zs_iand (pc := 102) C (by decide +kernel) ?_
        refine zs_iast (pc := 103) (o := 292) (n := 900) C (fun _ _ _ => rfl) (by decide +kernel) rfl ?_
        refine zs_aload_n (pc := 104) (k := 0) (i := 0) C (by decide +kernel) rfl rfl ?_
        refine zs_dup (pc := 105) C rfl (by decide +kernel) ?_
        refine zs_getI (pc := 106) (i := 91) (ci := 12) (k := 6) C (by decide +kernel) fl_RX12_91 rfl rfl (fun x8 => ?_)
        refine zs_iconst (pc := 109) (n := 1) (x := 1) C (by decide +kernel) (by decide +kernel) ?_
        refine zs_iadd (pc := 110) C (by decide +kernel) ?_
        refine zs_putI (pc := 111) (i := 91) (ci := 12) (k := 6) C (fun _ _ _ => rfl) (by decide +kernel) fl_RX12_91 fw_12_6 rfl rfl ?_
        refine zs_iinc (pc := 114) (i := 6) (n := 1) (y := w32 (t2 + 1)) (ls' := [(6, sI (w32 (t2 + 1))), (7, sI t5), (0, sR 287), (1, sI a0), (2, sI a1), (3, sI a2), (4, sI a3), (5, sI a4)]) C (by decide +kernel) rfl rfl (Nat.le_of_ble_eq_true rfl) rfl ?_
        refine zs_goto (pc := 117) (off := (-94)) (tgt := 23) C (by decide +kernel) (by decide) ?_
        exact zs_goj (hK3 (w32 (t2 + 1))) ⟨rfl, rfl, rfl, rfl, rfl, rfl, rfl, trivial⟩
      · refine zs_icmp_ge (pc := 33) (off := 7) (tgt := 40) C (by decide +kernel) (by decide) ?_ ?_
        · refine zs_iload (pc := 40) (i := 6) C (by decide +kernel) rfl ?_
          refine zs_bipush (pc := 42) (n := 8) (x := 8) C (by decide +kernel) (by decide +kernel) ?_
          refine zs_icmp_ge (pc := 44) (off := 7) (tgt := 51) C (by decide +kernel) (by decide) ?_ ?_
          · refine zs_iload (pc := 51) (i := 6) C (by decide +kernel) rfl ?_
            refine zs_bipush (pc := 53) (n := 12) (x := 12) C (by decide +kernel) (by decide +kernel) ?_
            refine zs_icmp_ge (pc := 55) (off := 7) (tgt := 62) C (by decide +kernel) (by decide) ?_ ?_
            · refine zs_iload (pc := 62) (i := 6) C (by decide +kernel) rfl ?_
              refine zs_bipush (pc := 64) (n := 16) (x := 16) C (by decide +kernel) (by decide +kernel) ?_
              refine zs_icmp_ge (pc := 66) (off := 8) (tgt := 74) C (by decide +kernel) (by decide) ?_ ?_
              · refine zs_iload (pc := 74) (i := 5) C (by decide +kernel) rfl ?_
                exact zs_goj (hJ6 a4) ⟨rfl, rfl, rfl, rfl, rfl, rfl, rfl, trivial⟩
              · refine zs_iload (pc := 69) (i := 4) C (by decide +kernel) rfl ?_
                refine zs_goto (pc := 71) (off := 5) (tgt := 76) C (by decide +kernel) (by decide) ?_
                exact zs_goj (hJ6 a3) ⟨rfl, rfl, rfl, rfl, rfl, rfl, rfl, trivial⟩
            · refine zs_iload_n (pc := 58) (k := 3) (i := 3) C (by decide +kernel) rfl rfl ?_
              refine zs_goto (pc := 59) (off := 17) (tgt := 76) C (by decide +kernel) (by decide) ?_
              exact zs_goj (hJ6 a2) ⟨rfl, rfl, rfl, rfl, rfl, rfl, rfl, trivial⟩
          · refine zs_iload_n (pc := 47) (k := 2) (i := 2) C (by decide +kernel) rfl rfl ?_
            refine zs_goto (pc := 48) (off := 28) (tgt := 76) C (by decide +kernel) (by decide) ?_
            exact zs_goj (hJ6 a1) ⟨rfl, rfl, rfl, rfl, rfl, rfl, rfl, trivial⟩
        · refine zs_iload_n (pc := 36) (k := 1) (i := 1) C (by decide +kernel) rfl rfl ?_
          refine zs_goto (pc := 37) (off := 39) (tgt := 76) C (by decide +kernel) (by decide) ?_
          exact zs_goj (hJ6 a0) ⟨rfl, rfl, rfl, rfl, rfl, rfl, rfl, trivial⟩
  · refine zs_iconst (pc := 18) (n := (-1)) (x := (-1)) C (by decide +kernel) (by decide +kernel) ?_
    exact zs_retWi (pc := 19) C hr ⟨Nat.le_of_ble_eq_true rfl, Nat.le_of_ble_eq_true rfl⟩ (by decide +kernel)
set_option maxRecDepth 20000 in
theorem c_X12_see (l : Launch) (g : GC) (a0 : Int) : ConR l g yX12_see cX12_see 2 (some .int) (rmd 1 0 0) [sR 287, sI a0] (fun mm => fX12_see a0 mm) := by
  refine zs_ofR (by decide +kernel) (Nat.le_of_ble_eq_true rfl) ?_
  intro p e s m args below meth c C hr
  replace C : Bd g RX12 cX12_see 2 p s m args meth c := C
  unfold fX12_see
  refine zs_iload_n (pc := 0) (k := 1) (i := 1) C (by decide +kernel) rfl rfl ?_
  refine zs_aload_n (pc := 1) (k := 0) (i := 0) C (by decide +kernel) rfl rfl ?_
  refine zs_getI (pc := 2) (i := 94) (ci := 12) (k := 7) C (by decide +kernel) fl_RX12_94 rfl rfl (fun x1 => ?_)
  refine zs_jn (pJ := 18) (kJ := 0) (sJ := 0) (fun t2 => []) (fun t2 => [sI t2]) (fun t2 => ?_) (fun J3 hJ3 => ?_)
  · exact zs_retRi (pc := 18) C hr ⟨Nat.le_of_ble_eq_true rfl, Nat.le_of_ble_eq_true rfl⟩ (by decide +kernel)
  · refine zs_icmp_ge (pc := 5) (off := 12) (tgt := 17) C (by decide +kernel) (by decide) ?_ ?_
    · refine zs_iconst (pc := 17) (n := 0) (x := 0) C (by decide +kernel) (by decide +kernel) ?_
      exact zs_goj (hJ3 0) trivial
    · refine zs_aload_n (pc := 8) (k := 0) (i := 0) C (by decide +kernel) rfl rfl ?_
      refine zs_getR (o' := 292) (pc := 9) (i := 23) (ci := 12) (k := 5) C (by decide +kernel) fl_RX12_23 rfl rfl rfl ?_
      refine zs_iload_n (pc := 12) (k := 1) (i := 1) C (by decide +kernel) rfl rfl ?_
      refine zs_iald (pc := 13) (o := 292) (n := 900) C (by decide +kernel) rfl (fun hinx4 x4 => ?_)
      refine zs_goto (pc := 14) (off := 4) (tgt := 18) C (by decide +kernel) (by decide) ?_
      exact zs_goj (hJ3 x4) trivial
set_option maxRecDepth 20000 in
theorem c_X12_isLetter (l : Launch) (g : GC) (a0 : Int) : ConR l g yX12_isLetter cX12_isLetter 1 (some .boolean) (rmd 1 0 0) [sI a0] (fun mm => fX12_isLetter a0 mm) := by
  refine zs_ofR (by decide +kernel) (Nat.le_of_ble_eq_true rfl) ?_
  intro p e s m args below meth c C hr
  replace C : Bd g RX12 cX12_isLetter 1 p s m args meth c := C
  unfold fX12_isLetter
  refine zs_iload_n (pc := 0) (k := 0) (i := 0) C (by decide +kernel) rfl rfl ?_
  refine zs_bipush (pc := 1) (n := 97) (x := 97) C (by decide +kernel) (by decide +kernel) ?_
  refine zs_jn (pJ := 17) (kJ := 0) (sJ := 0) (fun t1 => []) (fun t1 => [sI t1]) (fun t1 => ?_) (fun J2 hJ2 => ?_)
  · refine zs_chk (fun _ hx => ?_)
    exact zs_retRz (pc := 17) C hx hr ⟨Nat.le_of_ble_eq_true rfl, Nat.le_of_ble_eq_true rfl⟩ (by decide +kernel)
  · refine zs_jn (pJ := 16) (kJ := 0) (sJ := 0) (fun t3 => []) (fun t3 => []) (fun t3 => ?_) (fun J4 hJ4 => ?_)
    · refine zs_iconst (pc := 16) (n := 0) (x := 0) C (by decide +kernel) (by decide +kernel) ?_
      exact zs_goj (hJ2 0) trivial
    · refine zs_icmp_lt (pc := 3) (off := 13) (tgt := 16) C (by decide +kernel) (by decide) ?_ ?_
      · exact zs_goj (hJ4 ()) trivial
      · refine zs_iload_n (pc := 6) (k := 0) (i := 0) C (by decide +kernel) rfl rfl ?_
        refine zs_bipush (pc := 7) (n := 122) (x := 122) C (by decide +kernel) (by decide +kernel) ?_
        refine zs_icmp_gt (pc := 9) (off := 7) (tgt := 16) C (by decide +kernel) (by decide) ?_ ?_
        · exact zs_goj (hJ4 ()) trivial
        · refine zs_iconst (pc := 12) (n := 1) (x := 1) C (by decide +kernel) (by decide +kernel) ?_
          refine zs_goto (pc := 13) (off := 4) (tgt := 17) C (by decide +kernel) (by decide) ?_
          exact zs_goj (hJ2 1) trivial
set_option maxRecDepth 20000 in
theorem c_X12_isDigit (l : Launch) (g : GC) (a0 : Int) : ConR l g yX12_isDigit cX12_isDigit 1 (some .boolean) (rmd 1 0 0) [sI a0] (fun mm => fX12_isDigit a0 mm) := by
  refine zs_ofR (by decide +kernel) (Nat.le_of_ble_eq_true rfl) ?_
  intro p e s m args below meth c C hr
  replace C : Bd g RX12 cX12_isDigit 1 p s m args meth c := C
  unfold fX12_isDigit
  refine zs_iload_n (pc := 0) (k := 0) (i := 0) C (by decide +kernel) rfl rfl ?_
  refine zs_bipush (pc := 1) (n := 48) (x := 48) C (by decide +kernel) (by decide +kernel) ?_
  refine zs_jn (pJ := 17) (kJ := 0) (sJ := 0) (fun t1 => []) (fun t1 => [sI t1]) (fun t1 => ?_) (fun J2 hJ2 => ?_)
  · refine zs_chk (fun _ hx => ?_)
    exact zs_retRz (pc := 17) C hx hr ⟨Nat.le_of_ble_eq_true rfl, Nat.le_of_ble_eq_true rfl⟩ (by decide +kernel)
  · refine zs_jn (pJ := 16) (kJ := 0) (sJ := 0) (fun t3 => []) (fun t3 => []) (fun t3 => ?_) (fun J4 hJ4 => ?_)
    · refine zs_iconst (pc := 16) (n := 0) (x := 0) C (by decide +kernel) (by decide +kernel) ?_
      exact zs_goj (hJ2 0) trivial
    · refine zs_icmp_lt (pc := 3) (off := 13) (tgt := 16) C (by decide +kernel) (by decide) ?_ ?_
      · exact zs_goj (hJ4 ()) trivial
      · refine zs_iload_n (pc := 6) (k := 0) (i := 0) C (by decide +kernel) rfl rfl ?_
        refine zs_bipush (pc := 7) (n := 57) (x := 57) C (by decide +kernel) (by decide +kernel) ?_
        refine zs_icmp_gt (pc := 9) (off := 7) (tgt := 16) C (by decide +kernel) (by decide) ?_ ?_
        · exact zs_goj (hJ4 ()) trivial
        · refine zs_iconst (pc := 12) (n := 1) (x := 1) C (by decide +kernel) (by decide +kernel) ?_
          refine zs_goto (pc := 13) (off := 4) (tgt := 17) C (by decide +kernel) (by decide) ?_
          exact zs_goj (hJ2 1) trivial
set_option maxRecDepth 20000 in
theorem c_X12_isSignByte (l : Launch) (g : GC) (a0 : Int) : ConR l g yX12_isSignByte cX12_isSignByte 2 (some .boolean) (rmd 1 0 0) [sI a0] (fun mm => fX12_isSignByte a0 mm) := by
  refine zs_ofR (by decide +kernel) (Nat.le_of_ble_eq_true rfl) ?_
  intro p e s m args below meth c C hr
  replace C : Bd g RX12 cX12_isSignByte 2 p s m args meth c := C
  unfold fX12_isSignByte
  refine zs_iload_n (pc := 0) (k := 0) (i := 0) C (by decide +kernel) rfl rfl ?_
  refine zs_bipush (pc := 1) (n := 91) (x := 91) C (by decide +kernel) (by decide +kernel) ?_
  refine zs_jn (pJ := 41) (kJ := 0) (sJ := 0) (fun t1 => [(0, sI a0)]) (fun t1 => [sI t1]) (fun t1 => ?_) (fun J2 hJ2 => ?_)
  · refine zs_istore_n (pc := 41) (k := 1) (i := 1) (ls' := [(1, sI t1), (0, sI a0)]) C (by decide +kernel) rfl (Nat.le_of_ble_eq_true rfl) rfl ?_
    refine zs_iload_n (pc := 42) (k := 1) (i := 1) C (by decide +kernel) rfl rfl ?_
    refine zs_jn (pJ := 87) (kJ := 0) (sJ := 0) (fun t3 => []) (fun t3 => [sI t3]) (fun t3 => ?_) (fun J4 hJ4 => ?_)
    · refine zs_chk (fun _ hx => ?_)
      exact zs_retRz (pc := 87) C hx hr ⟨Nat.le_of_ble_eq_true rfl, Nat.le_of_ble_eq_true rfl⟩ (by decide +kernel)
    · refine zs_jn (pJ := 82) (kJ := 0) (sJ := 0) (fun t5 => []) (fun t5 => []) (fun t5 => ?_) (fun J6 hJ6 => ?_)
      · refine zs_iconst (pc := 82) (n := 1) (x := 1) C (by decide +kernel) (by decide +kernel) ?_
        refine zs_goto (pc := 83) (off := 4) (tgt := 87) C (by decide +kernel) (by decide) ?_
        exact zs_goj (hJ4 1) trivial
      · refine zs_if_ne (pc := 43) (off := 39) (tgt := 82) C (by decide +kernel) (by decide) ?_ ?_
        · exact zs_goj (hJ6 ()) trivial
        · refine zs_iload_n (pc := 46) (k := 0) (i := 0) C (by decide +kernel) rfl rfl ?_
          refine zs_bipush (pc := 47) (n := 59) (x := 59) C (by decide +kernel) (by decide +kernel) ?_
          refine zs_icmp_eq (pc := 49) (off := 33) (tgt := 82) C (by decide +kernel) (by decide) ?_ ?_
          · exact zs_goj (hJ6 ()) trivial
          · refine zs_iload_n (pc := 52) (k := 0) (i := 0) C (by decide +kernel) rfl rfl ?_
            refine zs_bipush (pc := 53) (n := 43) (x := 43) C (by decide +kernel) (by decide +kernel) ?_
            refine zs_icmp_eq (pc := 55) (off := 27) (tgt := 82) C (by decide +kernel) (by decide) ?_ ?_
            · exact zs_goj (hJ6 ()) trivial
            · refine zs_iload_n (pc := 58) (k := 0) (i := 0) C (by decide +kernel) rfl rfl ?_
              refine zs_bipush (pc := 59) (n := 45) (x := 45) C (by decide +kernel) (by decide +kernel) ?_
              refine zs_icmp_eq (pc := 61) (off := 21) (tgt := 82) C (by decide +kernel) (by decide) ?_ ?_
              · exact zs_goj (hJ6 ()) trivial
              · refine zs_iload_n (pc := 64) (k := 0) (i := 0) C (by decide +kernel) rfl rfl ?_
                refine zs_bipush (pc := 65) (n := 42) (x := 42) C (by decide +kernel) (by decide +kernel) ?_
                refine zs_icmp_eq (pc := 67) (off := 15) (tgt := 82) C (by decide +kernel) (by decide) ?_ ?_
                · exact zs_goj (hJ6 ()) trivial
                · refine zs_iload_n (pc := 70) (k := 0) (i := 0) C (by decide +kernel) rfl rfl ?_
                  refine zs_bipush (pc := 71) (n := 40) (x := 40) C (by decide +kernel) (by decide +kernel) ?_
                  refine zs_icmp_eq (pc := 73) (off := 9) (tgt := 82) C (by decide +kernel) (by decide) ?_ ?_
                  · exact zs_goj (hJ6 ()) trivial
                  · refine zs_iload_n (pc := 76) (k := 0) (i := 0) C (by decide +kernel) rfl rfl ?_
                    refine zs_bipush (pc := 77) (n := 41) (x := 41) C (by decide +kernel) (by decide +kernel) ?_
                    refine zs_icmp_ne (pc := 79) (off := 7) (tgt := 86) C (by decide +kernel) (by decide) ?_ ?_
                    · refine zs_iconst (pc := 86) (n := 0) (x := 0) C (by decide +kernel) (by decide +kernel) ?_
                      exact zs_goj (hJ4 0) trivial
                    · exact zs_goj (hJ6 ()) trivial
  · refine zs_jn (pJ := 36) (kJ := 0) (sJ := 0) (fun t7 => [(0, sI a0)]) (fun t7 => []) (fun t7 => ?_) (fun J8 hJ8 => ?_)
    · refine zs_iconst (pc := 36) (n := 1) (x := 1) C (by decide +kernel) (by decide +kernel) ?_
      refine zs_goto (pc := 37) (off := 4) (tgt := 41) C (by decide +kernel) (by decide) ?_
      exact zs_goj (hJ2 1) ⟨rfl, trivial⟩
    · refine zs_icmp_eq (pc := 3) (off := 33) (tgt := 36) C (by decide +kernel) (by decide) ?_ ?_
      · exact zs_goj (hJ8 ()) ⟨rfl, trivial⟩
      · refine zs_iload_n (pc := 6) (k := 0) (i := 0) C (by decide +kernel) rfl rfl ?_
        refine zs_bipush (pc := 7) (n := 93) (x := 93) C (by decide +kernel) (by decide +kernel) ?_
        refine zs_icmp_eq (pc := 9) (off := 27) (tgt := 36) C (by decide +kernel) (by decide) ?_ ?_
        · exact zs_goj (hJ8 ()) ⟨rfl, trivial⟩
        · refine zs_iload_n (pc := 12) (k := 0) (i := 0) C (by decide +kernel) rfl rfl ?_
          refine zs_bipush (pc := 13) (n := 61) (x := 61) C (by decide +kernel) (by decide +kernel) ?_
          refine zs_icmp_eq (pc := 15) (off := 21) (tgt := 36) C (by decide +kernel) (by decide) ?_ ?_
          · exact zs_goj (hJ8 ()) ⟨rfl, trivial⟩
          · refine zs_iload_n (pc := 18) (k := 0) (i := 0) C (by decide +kernel) rfl rfl ?_
            refine zs_bipush (pc := 19) (n := 60) (x := 60) C (by decide +kernel) (by decide +kernel) ?_
            refine zs_icmp_eq (pc := 21) (off := 15) (tgt := 36) C (by decide +kernel) (by decide) ?_ ?_
            · exact zs_goj (hJ8 ()) ⟨rfl, trivial⟩
            · refine zs_iload_n (pc := 24) (k := 0) (i := 0) C (by decide +kernel) rfl rfl ?_
              refine zs_bipush (pc := 25) (n := 62) (x := 62) C (by decide +kernel) (by decide +kernel) ?_
              refine zs_icmp_eq (pc := 27) (off := 9) (tgt := 36) C (by decide +kernel) (by decide) ?_ ?_
              · exact zs_goj (hJ8 ()) ⟨rfl, trivial⟩
              · refine zs_iload_n (pc := 30) (k := 0) (i := 0) C (by decide +kernel) rfl rfl ?_
                refine zs_bipush (pc := 31) (n := 58) (x := 58) C (by decide +kernel) (by decide +kernel) ?_
                refine zs_icmp_ne (pc := 33) (off := 7) (tgt := 40) C (by decide +kernel) (by decide) ?_ ?_
                · refine zs_iconst (pc := 40) (n := 0) (x := 0) C (by decide +kernel) (by decide +kernel) ?_
                  exact zs_goj (hJ2 0) ⟨rfl, trivial⟩
                · exact zs_goj (hJ8 ()) ⟨rfl, trivial⟩
set_option maxRecDepth 20000 in
theorem c_X12_readsOn (l : Launch) (g : GC)  : ConV l g yX12_readsOn cX12_readsOn 2 (rmd 2 0 0) [sR 287] (fun mm => fX12_readsOn  mm) := by
  refine zs_ofV (by decide +kernel) (Nat.le_of_ble_eq_true rfl) ?_
  intro p e s m args below meth c C hr
  replace C : Bd g RX12 cX12_readsOn 2 p s m args meth c := C
  unfold fX12_readsOn
  refine zs_sub (ls' := [(0, sR 287)]) ⟨rfl, trivial⟩ ?_
  refine zs_lp (pc := 0) (fun (t1 : Unit) => [(0, sR 287)]) (fun _ => []) (fun K2 hK2 t1 => ?_) BIG ()
  refine zs_aload_n (pc := 0) (k := 0) (i := 0) C (by decide +kernel) rfl rfl ?_
  refine zs_getI (pc := 1) (i := 97) (ci := 12) (k := 8) C (by decide +kernel) fl_RX12_97 rfl rfl (fun x3 => ?_)
  refine zs_aload_n (pc := 4) (k := 0) (i := 0) C (by decide +kernel) rfl rfl ?_
  refine zs_getI (pc := 5) (i := 94) (ci := 12) (k := 7) C (by decide +kernel) fl_RX12_94 rfl rfl (fun x4 => ?_)
  refine zs_jn (pJ := 52) (kJ := 0) (sJ := 0) (fun t5 => [(0, sR 287)]) (fun t5 => []) (fun t5 => ?_) (fun J6 hJ6 => ?_)
  · refine zs_aload_n (pc := 52) (k := 0) (i := 0) C (by decide +kernel) rfl rfl ?_
    refine zs_aload_n (pc := 53) (k := 0) (i := 0) C (by decide +kernel) rfl rfl ?_
    refine zs_getI (pc := 54) (i := 97) (ci := 12) (k := 8) C (by decide +kernel) fl_RX12_97 rfl rfl (fun x7 => ?_)
    refine zs_putI (pc := 57) (i := 100) (ci := 12) (k := 9) C (fun _ _ _ => rfl) (by decide +kernel) fl_RX12_100 fw_12_9 rfl rfl ?_
    refine zs_aload_n (pc := 60) (k := 0) (i := 0) C (by decide +kernel) rfl rfl ?_
    refine zs_getI (pc := 61) (i := 97) (ci := 12) (k := 8) C (by decide +kernel) fl_RX12_97 rfl rfl (fun x8 => ?_)
    refine zs_aload_n (pc := 64) (k := 0) (i := 0) C (by decide +kernel) rfl rfl ?_
    refine zs_getI (pc := 65) (i := 94) (ci := 12) (k := 7) C (by decide +kernel) fl_RX12_94 rfl rfl (fun x9 => ?_)
    refine zs_icmp_lt (pc := 68) (off := 9) (tgt := 77) C (by decide +kernel) (by decide) ?_ ?_
    · refine zs_aload_n (pc := 77) (k := 0) (i := 0) C (by decide +kernel) rfl rfl ?_
      refine zs_getR (o' := 292) (pc := 78) (i := 23) (ci := 12) (k := 5) C (by decide +kernel) fl_RX12_23 rfl rfl rfl ?_
      refine zs_aload_n (pc := 81) (k := 0) (i := 0) C (by decide +kernel) rfl rfl ?_
      refine zs_getI (pc := 82) (i := 97) (ci := 12) (k := 8) C (by decide +kernel) fl_RX12_97 rfl rfl (fun x10 => ?_)
      refine zs_iald (pc := 85) (o := 292) (n := 900) C (by decide +kernel) rfl (fun hinx11 x11 => ?_)
      refine zs_istore_n (pc := 86) (k := 1) (i := 1) (ls' := [(1, sI x11), (0, sR 287)]) C (by decide +kernel) rfl (Nat.le_of_ble_eq_true rfl) rfl ?_
      refine zs_iload_n (pc := 87) (k := 1) (i := 1) C (by decide +kernel) rfl rfl ?_
      refine zs_csRi (pc := 88) (As := [sI x11]) (st := []) C rfl (c_X12_isLetter l g x11) ml_RX12_106 rfl rfl (Nat.le_of_ble_eq_true rfl) ⟨Nat.le_of_ble_eq_true rfl, Nat.le_of_ble_eq_true rfl⟩ ⟨Nat.le_of_ble_eq_true rfl, Nat.le_of_ble_eq_true rfl⟩ (by decide +kernel) (fun x12 => ?_)
      refine zs_jn (pJ := 263) (kJ := 0) (sJ := 0) (fun t13 => []) (fun t13 => []) (fun t13 => ?_) (fun J14 hJ14 => ?_)
      · exact zs_retVv (pc := 263) C hr ⟨Nat.le_of_ble_eq_true rfl, Nat.le_of_ble_eq_true rfl⟩ (by decide +kernel)
      · refine zs_if_eq (pc := 91) (off := 38) (tgt := 129) C (by decide +kernel) (by decide) ?_ ?_
        · refine zs_iload_n (pc := 129) (k := 1) (i := 1) C (by decide +kernel) rfl rfl ?_
          refine zs_csRi (pc := 130) (As := [sI x11]) (st := []) C rfl (c_X12_isDigit l g x11) ml_RX12_114 rfl rfl (Nat.le_of_ble_eq_true rfl) ⟨Nat.le_of_ble_eq_true rfl, Nat.le_of_ble_eq_true rfl⟩ ⟨Nat.le_of_ble_eq_true rfl, Nat.le_of_ble_eq_true rfl⟩ (by decide +kernel) (fun x15 => ?_)
          refine zs_if_eq (pc := 133) (off := 104) (tgt := 237) C (by decide +kernel) (by decide) ?_ ?_
          · refine zs_aload_n (pc := 237) (k := 0) (i := 0) C (by decide +kernel) rfl rfl ?_
            refine zs_iload_n (pc := 238) (k := 1) (i := 1) C (by decide +kernel) rfl rfl ?_
            refine zs_csRi (pc := 239) (As := [sI x11]) (st := [sR 287]) C rfl (c_X12_isSignByte l g x11) ml_RX12_120 rfl rfl (Nat.le_of_ble_eq_true rfl) ⟨Nat.le_of_ble_eq_true rfl, Nat.le_of_ble_eq_true rfl⟩ ⟨Nat.le_of_ble_eq_true rfl, Nat.le_of_ble_eq_true rfl⟩ (by decide +kernel) (fun x16 => ?_)
            refine zs_jn (pJ := 250) (kJ := 0) (sJ := 0) (fun t17 => [(0, sR 287)]) (fun t17 => [sI t17, sR 287]) (fun t17 => ?_) (fun J18 hJ18 => ?_)
            · refine zs_putI (pc := 250) (i := 103) (ci := 12) (k := 10) C (fun _ _ _ => rfl) (by decide +kernel) fl_RX12_103 fw_12_10 rfl rfl ?_
              refine zs_aload_n (pc := 253) (k := 0) (i := 0) C (by decide +kernel) rfl rfl ?_
              refine zs_dup (pc := 254) C rfl (by decide +kernel) ?_
              refine zs_getI (pc := 255) (i := 97) (ci := 12) (k := 8) C (by decide +kernel) fl_RX12_97 rfl rfl (fun x19 => ?_)
              refine zs_iconst (pc := 258) (n := 1) (x := 1) C (by decide +kernel) (by decide +kernel) ?_
              refine zs_iadd (pc := 259) C (by decide +kernel) ?_
              refine zs_putI (pc := 260) (i := 97) (ci := 12) (k := 8) C (fun _ _ _ => rfl) (by decide +kernel) fl_RX12_97 fw_12_8 rfl rfl ?_
              exact zs_goj (hJ14 ()) trivial
            · refine zs_if_eq (pc := 242) (off := 7) (tgt := 249) C (by decide +kernel) (by decide) ?_ ?_
              · refine zs_iconst (pc := 249) (n := 3) (x := 3) C (by decide +kernel) (by decide +kernel) ?_
                exact zs_goj (hJ18 3) ⟨rfl, trivial⟩
              · refine zs_iload_n (pc := 245) (k := 1) (i := 1) C (by decide +kernel) rfl rfl ?_
                refine zs_goto (pc := 246) (off := 4) (tgt := 250) C (by decide +kernel) (by decide) ?_
                exact zs_goj (hJ18 x11) ⟨rfl, trivial⟩
          · refine zs_aload_n (pc := 136) (k := 0) (i := 0) C (by decide +kernel) rfl rfl ?_
            refine zs_iconst (pc := 137) (n := 0) (x := 0) C (by decide +kernel) (by decide +kernel) ?_
            refine zs_putI (pc := 138) (i := 117) (ci := 12) (k := 11) C (fun _ _ _ => rfl) (by decide +kernel) fl_RX12_117 fw_12_11 rfl rfl ?_
            refine zs_sub (ls' := [(0, sR 287)]) ⟨rfl, trivial⟩ ?_
            refine zs_lp (pc := 141) (fun (t20 : Unit) => [(0, sR 287)]) (fun _ => []) (fun K21 hK21 t20 => ?_) BIG ()
            refine zs_aload_n (pc := 141) (k := 0) (i := 0) C (by decide +kernel) rfl rfl ?_
            refine zs_aload_n (pc := 142) (k := 0) (i := 0) C (by decide +kernel) rfl rfl ?_
            refine zs_getI (pc := 143) (i := 97) (ci := 12) (k := 8) C (by decide +kernel) fl_RX12_97 rfl rfl (fun x22 => ?_)
            refine zs_cvRi (pc := 146) (As := [sI x22]) (st := []) C rfl (c_X12_see l g x22) ml_RX12_110 rfl rfl rfl rfl (Nat.le_of_ble_eq_true rfl) ⟨Nat.le_of_ble_eq_true rfl, Nat.le_of_ble_eq_true rfl⟩ ⟨Nat.le_of_ble_eq_true rfl, Nat.le_of_ble_eq_true rfl⟩ (by decide +kernel) (fun x23 => ?_)
            refine zs_csRi (pc := 149) (As := [sI x23]) (st := []) C rfl (c_X12_isDigit l g x23) ml_RX12_114 rfl rfl (Nat.le_of_ble_eq_true rfl) ⟨Nat.le_of_ble_eq_true rfl, Nat.le_of_ble_eq_true rfl⟩ ⟨Nat.le_of_ble_eq_true rfl, Nat.le_of_ble_eq_true rfl⟩ (by decide +kernel) (fun x24 => ?_)
            refine zs_if_eq (pc := 152) (off := 60) (tgt := 212) C (by decide +kernel) (by decide) ?_ ?_
            · refine zs_aload_n (pc := 212) (k := 0) (i := 0) C (by decide +kernel) rfl rfl ?_
              refine zs_aload_n (pc := 213) (k := 0) (i := 0) C (by decide +kernel) rfl rfl ?_
              refine zs_getI (pc := 214) (i := 97) (ci := 12) (k := 8) C (by decide +kernel) fl_RX12_97 rfl rfl (fun x25 => ?_)
              refine zs_aload_n (pc := 217) (k := 0) (i := 0) C (by decide +kernel) rfl rfl ?_
              refine zs_getI (pc := 218) (i := 100) (ci := 12) (k := 9) C (by decide +kernel) fl_RX12_100 rfl rfl (fun x26 => ?_)
              refine zs_isub (pc := 221) C (by decide +kernel) ?_
              refine zs_iconst (pc := 222) (n := 3) (x := 3) C (by decide +kernel) (by decide +kernel) ?_
              refine zs_jn (pJ := 231) (kJ := 0) (sJ := 0) (fun t27 => []) (fun t27 => [sI t27, sR 287]) (fun t27 => ?_) (fun J28 hJ28 => ?_)
              · refine zs_putI (pc := 231) (i := 103) (ci := 12) (k := 10) C (fun _ _ _ => rfl) (by decide +kernel) fl_RX12_103 fw_12_10 rfl rfl ?_
                refine zs_goto (pc := 234) (off := 29) (tgt := 263) C (by decide +kernel) (by decide) ?_
                exact zs_goj (hJ14 ()) trivial
              · refine zs_icmp_le (pc := 223) (off := 7) (tgt := 230) C (by decide +kernel) (by decide) ?_ ?_
                · refine zs_iconst (pc := 230) (n := 2) (x := 2) C (by decide +kernel) (by decide +kernel) ?_
                  exact zs_goj (hJ28 2) trivial
                · refine zs_iconst (pc := 226) (n := 3) (x := 3) C (by decide +kernel) (by decide +kernel) ?_
                  refine zs_goto (pc := 227) (off := 4) (tgt := 231) C (by decide +kernel) (by decide) ?_
                  exact zs_goj (hJ28 3) trivial
            · refine zs_aload_n (pc := 155) (k := 0) (i := 0) C (by decide +kernel) rfl rfl ?_
              refine zs_aload_n (pc := 156) (k := 0) (i := 0) C (by decide +kernel) rfl rfl ?_
              refine zs_getI (pc := 157) (i := 97) (ci := 12) (k := 8) C (by decide +kernel) fl_RX12_97 rfl rfl (fun x29 => ?_)
              refine zs_aload_n (pc := 160) (k := 0) (i := 0) C (by decide +kernel) rfl rfl ?_
              refine zs_getI (pc := 161) (i := 100) (ci := 12) (k := 9) C (by decide +kernel) fl_RX12_100 rfl rfl (fun x30 => ?_)
              refine zs_isub (pc := 164) C (by decide +kernel) ?_
              refine zs_iconst (pc := 165) (n := 3) (x := 3) C (by decide +kernel) (by decide +kernel) ?_
              refine zs_jn (pJ := 196) (kJ := 0) (sJ := 0) (fun t31 => [(0, sR 287)]) (fun t31 => [sI t31, sR 287]) (fun t31 => ?_) (fun J32 hJ32 => ?_)
              · refine zs_putI (pc := 196) (i := 117) (ci := 12) (k := 11) C (fun _ _ _ => rfl) (by decide +kernel) fl_RX12_117 fw_12_11 rfl rfl ?_
                refine zs_aload_n (pc := 199) (k := 0) (i := 0) C (by decide +kernel) rfl rfl ?_
                refine zs_dup (pc := 200) C rfl (by decide +kernel) ?_
                refine zs_getI (pc := 201) (i := 97) (ci := 12) (k := 8) C (by decide +kernel) fl_RX12_97 rfl rfl (fun x33 => ?_)
                refine zs_iconst (pc := 204) (n := 1) (x := 1) C (by decide +kernel) (by decide +kernel) ?_
                refine zs_iadd (pc := 205) C (by decide +kernel) ?_
                refine zs_putI (pc := 206) (i := 97) (ci := 12) (k := 8) C (fun _ _ _ => rfl) (by decide +kernel) fl_RX12_97 fw_12_8 rfl rfl ?_
                refine zs_goto (pc := 209) (off := (-68)) (tgt := 141) C (by decide +kernel) (by decide) ?_
                exact zs_goj (hK21 ()) ⟨rfl, trivial⟩
              · refine zs_icmp_ge (pc := 166) (off := 26) (tgt := 192) C (by decide +kernel) (by decide) ?_ ?_
                · refine zs_aload_n (pc := 192) (k := 0) (i := 0) C (by decide +kernel) rfl rfl ?_
                  refine zs_getI (pc := 193) (i := 117) (ci := 12) (k := 11) C (by decide +kernel) fl_RX12_117 rfl rfl (fun x34 => ?_)
                  exact zs_goj (hJ32 x34) ⟨rfl, trivial⟩
                · refine zs_bipush (pc := 169) (n := 10) (x := 10) C (by decide +kernel) (by decide +kernel) ?_
                  refine zs_aload_n (pc := 171) (k := 0) (i := 0) C (by decide +kernel) rfl rfl ?_
                  refine zs_getI (pc := 172) (i := 117) (ci := 12) (k := 11) C (by decide +kernel) fl_RX12_117 rfl rfl (fun x35 => ?_)
                  refine zs_imul (pc := 175) C (by decide +kernel) ?_
                  refine zs_aload_n (pc := 176) (k := 0) (i := 0) C (by decide +kernel) rfl rfl ?_
                  refine zs_getR (o' := 292) (pc := 177) (i := 23) (ci := 12) (k := 5) C (by decide +kernel) fl_RX12_23 rfl rfl rfl ?_
                  refine zs_aload_n (pc := 180) (k := 0) (i := 0) C (by decide +kernel) rfl rfl ?_
                  refine zs_getI (pc := 181) (i := 97) (ci := 12) (k := 8) C (by decide +kernel) fl_RX12_97 rfl rfl (fun x36 => ?_)
                  refine zs_iald (pc := 184) (o := 292) (n := 900) C (by decide +kernel) rfl (fun hinx37 x37 => ?_)
                  refine zs_iadd (pc := 185) C (by decide +kernel) ?_
                  refine zs_bipush (pc := 186) (n := 48) (x := 48) C (by decide +kernel) (by decide +kernel) ?_
                  refine zs_isub (pc := 188) C (by decide +kernel) ?_
                  refine zs_goto (pc := 189) (off := 7) (tgt := 196) C (by decide +kernel) (by decide) ?_
                  exact zs_goj (hJ32 (w32 ((w32 ((w32 (10 * x35)) + x37)) - 48))) ⟨rfl, trivial⟩
        · refine zs_sub (ls' := [(0, sR 287)]) ⟨rfl, trivial⟩ ?_
          refine zs_lp (pc := 94) (fun (t38 : Unit) => [(0, sR 287)]) (fun _ => []) (fun K39 hK39 t38 => ?_) BIG ()
          refine zs_aload_n (pc := 94) (k := 0) (i := 0) C (by decide +kernel) rfl rfl ?_
          refine zs_aload_n (pc := 95) (k := 0) (i := 0) C (by decide +kernel) rfl rfl ?_
          refine zs_getI (pc := 96) (i := 97) (ci := 12) (k := 8) C (by decide +kernel) fl_RX12_97 rfl rfl (fun x40 => ?_)
          refine zs_cvRi (pc := 99) (As := [sI x40]) (st := []) C rfl (c_X12_see l g x40) ml_RX12_110 rfl rfl rfl rfl (Nat.le_of_ble_eq_true rfl) ⟨Nat.le_of_ble_eq_true rfl, Nat.le_of_ble_eq_true rfl⟩ ⟨Nat.le_of_ble_eq_true rfl, Nat.le_of_ble_eq_true rfl⟩ (by decide +kernel) (fun x41 => ?_)
          refine zs_csRi (pc := 102) (As := [sI x41]) (st := []) C rfl (c_X12_isLetter l g x41) ml_RX12_106 rfl rfl (Nat.le_of_ble_eq_true rfl) ⟨Nat.le_of_ble_eq_true rfl, Nat.le_of_ble_eq_true rfl⟩ ⟨Nat.le_of_ble_eq_true rfl, Nat.le_of_ble_eq_true rfl⟩ (by decide +kernel) (fun x42 => ?_)
          refine zs_if_eq (pc := 105) (off := 16) (tgt := 121) C (by decide +kernel) (by decide) ?_ ?_
          · refine zs_aload_n (pc := 121) (k := 0) (i := 0) C (by decide +kernel) rfl rfl ?_
            refine zs_iconst (pc := 122) (n := 1) (x := 1) C (by decide +kernel) (by decide +kernel) ?_
            refine zs_putI (pc := 123) (i := 103) (ci := 12) (k := 10) C (fun _ _ _ => rfl) (by decide +kernel) fl_RX12_103 fw_12_10 rfl rfl ?_
            refine zs_goto (pc := 126) (off := 137) (tgt := 263) C (by decide +kernel) (by decide) ?_
            exact zs_goj (hJ14 ()) trivial
          · refine zs_aload_n (pc := 108) (k := 0) (i := 0) C (by decide +kernel) rfl rfl ?_
            refine zs_dup (pc := 109) C rfl (by decide +kernel) ?_
            refine zs_getI (pc := 110) (i := 97) (ci := 12) (k := 8) C (by decide +kernel) fl_RX12_97 rfl rfl (fun x43 => ?_)
            refine zs_iconst (pc := 113) (n := 1) (x := 1) C (by decide +kernel) (by decide +kernel) ?_
            refine zs_iadd (pc := 114) C (by decide +kernel) ?_
            refine zs_putI (pc := 115) (i := 97) (ci := 12) (k := 8) C (fun _ _ _ => rfl) (by decide +kernel) fl_RX12_97 fw_12_8 rfl rfl ?_
            refine zs_goto (pc := 118) (off := (-24)) (tgt := 94) C (by decide +kernel) (by decide) ?_
            exact zs_goj (hK39 ()) ⟨rfl, trivial⟩
    · refine zs_aload_n (pc := 71) (k := 0) (i := 0) C (by decide +kernel) rfl rfl ?_
      refine zs_iconst (pc := 72) (n := 0) (x := 0) C (by decide +kernel) (by decide +kernel) ?_
      refine zs_putI (pc := 73) (i := 103) (ci := 12) (k := 10) C (fun _ _ _ => rfl) (by decide +kernel) fl_RX12_103 fw_12_10 rfl rfl ?_
      exact zs_retVv (pc := 76) C hr ⟨Nat.le_of_ble_eq_true rfl, Nat.le_of_ble_eq_true rfl⟩ (by decide +kernel)
  · refine zs_icmp_ge (pc := 8) (off := 44) (tgt := 52) C (by decide +kernel) (by decide) ?_ ?_
    · exact zs_goj (hJ6 ()) ⟨rfl, trivial⟩
    · refine zs_aload_n (pc := 11) (k := 0) (i := 0) C (by decide +kernel) rfl rfl ?_
      refine zs_getR (o' := 292) (pc := 12) (i := 23) (ci := 12) (k := 5) C (by decide +kernel) fl_RX12_23 rfl rfl rfl ?_
      refine zs_aload_n (pc := 15) (k := 0) (i := 0) C (by decide +kernel) rfl rfl ?_
      refine zs_getI (pc := 16) (i := 97) (ci := 12) (k := 8) C (by decide +kernel) fl_RX12_97 rfl rfl (fun x44 => ?_)
      refine zs_iald (pc := 19) (o := 292) (n := 900) C (by decide +kernel) rfl (fun hinx45 x45 => ?_)
      refine zs_bipush (pc := 20) (n := 32) (x := 32) C (by decide +kernel) (by decide +kernel) ?_
      refine zs_jn (pJ := 39) (kJ := 0) (sJ := 0) (fun t46 => [(0, sR 287)]) (fun t46 => []) (fun t46 => ?_) (fun J47 hJ47 => ?_)
      · refine zs_aload_n (pc := 39) (k := 0) (i := 0) C (by decide +kernel) rfl rfl ?_
        refine zs_dup (pc := 40) C rfl (by decide +kernel) ?_
        refine zs_getI (pc := 41) (i := 97) (ci := 12) (k := 8) C (by decide +kernel) fl_RX12_97 rfl rfl (fun x48 => ?_)
        refine zs_iconst (pc := 44) (n := 1) (x := 1) C (by decide +kernel) (by decide +kernel) ?_
        refine zs_iadd (pc := 45) C (by decide +kernel) ?_
        refine zs_putI (pc := 46) (i := 97) (ci := 12) (k := 8) C (fun _ _ _ => rfl) (by decide +kernel) fl_RX12_97 fw_12_8 rfl rfl ?_
        refine zs_goto (pc := 49) (off := (-49)) (tgt := 0) C (by decide +kernel) (by decide) ?_
        exact zs_goj (hK2 ()) ⟨rfl, trivial⟩
      · refine zs_icmp_eq (pc := 22) (off := 17) (tgt := 39) C (by decide +kernel) (by decide) ?_ ?_
        · exact zs_goj (hJ47 ()) ⟨rfl, trivial⟩
        · refine zs_aload_n (pc := 25) (k := 0) (i := 0) C (by decide +kernel) rfl rfl ?_
          refine zs_getR (o' := 292) (pc := 26) (i := 23) (ci := 12) (k := 5) C (by decide +kernel) fl_RX12_23 rfl rfl rfl ?_
          refine zs_aload_n (pc := 29) (k := 0) (i := 0) C (by decide +kernel) rfl rfl ?_
          refine zs_getI (pc := 30) (i := 97) (ci := 12) (k := 8) C (by decide +kernel) fl_RX12_97 rfl rfl (fun x49 => ?_)
          refine zs_iald (pc := 33) (o := 292) (n := 900) C (by decide +kernel) rfl (fun hinx50 x50 => ?_)
          refine zs_bipush (pc := 34) (n := 10) (x := 10) C (by decide +kernel) (by decide +kernel) ?_
          refine zs_icmp_ne (pc := 36) (off := 16) (tgt := 52) C (by decide +kernel) (by decide) ?_ ?_
          · exact zs_goj (hJ6 ()) ⟨rfl, trivial⟩
          · exact zs_goj (hJ47 ()) ⟨rfl, trivial⟩
set_option maxRecDepth 20000 in
theorem c_X12_blames (l : Launch) (g : GC) (a0 : Int) : ConV l g yX12_blames cX12_blames 2 (rmd 1 0 0) [sR 287, sI a0] (fun mm => fX12_blames a0 mm) := by
  refine zs_ofV (by decide +kernel) (Nat.le_of_ble_eq_true rfl) ?_
  intro p e s m args below meth c C hr
  replace C : Bd g RX12 cX12_blames 2 p s m args meth c := C
  unfold fX12_blames
  refine zs_aload_n (pc := 0) (k := 0) (i := 0) C (by decide +kernel) rfl rfl ?_
  refine zs_getI (pc := 1) (i := 123) (ci := 12) (k := 12) C (by decide +kernel) fl_RX12_123 rfl rfl (fun x1 => ?_)
  refine zs_if_eq (pc := 4) (off := 4) (tgt := 8) C (by decide +kernel) (by decide) ?_ ?_
  · refine zs_aload_n (pc := 8) (k := 0) (i := 0) C (by decide +kernel) rfl rfl ?_
    refine zs_aload_n (pc := 9) (k := 0) (i := 0) C (by decide +kernel) rfl rfl ?_
    refine zs_getI (pc := 10) (i := 103) (ci := 12) (k := 10) C (by decide +kernel) fl_RX12_103 rfl rfl (fun x2 => ?_)
    refine zs_iconst (pc := 13) (n := 3) (x := 3) C (by decide +kernel) (by decide +kernel) ?_
    refine zs_jn (pJ := 22) (kJ := 0) (sJ := 0) (fun t3 => [(0, sR 287)]) (fun t3 => [sI t3, sR 287]) (fun t3 => ?_) (fun J4 hJ4 => ?_)
    · refine zs_putI (pc := 22) (i := 123) (ci := 12) (k := 12) C (fun _ _ _ => rfl) (by decide +kernel) fl_RX12_123 fw_12_12 rfl rfl ?_
      refine zs_aload_n (pc := 25) (k := 0) (i := 0) C (by decide +kernel) rfl rfl ?_
      refine zs_aload_n (pc := 26) (k := 0) (i := 0) C (by decide +kernel) rfl rfl ?_
      refine zs_getI (pc := 27) (i := 100) (ci := 12) (k := 9) C (by decide +kernel) fl_RX12_100 rfl rfl (fun x5 => ?_)
      refine zs_putI (pc := 30) (i := 126) (ci := 12) (k := 13) C (fun _ _ _ => rfl) (by decide +kernel) fl_RX12_126 fw_12_13 rfl rfl ?_
      exact zs_retVv (pc := 33) C hr ⟨Nat.le_of_ble_eq_true rfl, Nat.le_of_ble_eq_true rfl⟩ (by decide +kernel)
    · refine zs_icmp_ne (pc := 14) (off := 7) (tgt := 21) C (by decide +kernel) (by decide) ?_ ?_
      · refine zs_iload_n (pc := 21) (k := 1) (i := 1) C (by decide +kernel) rfl rfl ?_
        exact zs_goj (hJ4 a0) ⟨rfl, trivial⟩
      · refine zs_iconst (pc := 17) (n := 1) (x := 1) C (by decide +kernel) (by decide +kernel) ?_
        refine zs_goto (pc := 18) (off := 4) (tgt := 22) C (by decide +kernel) (by decide) ?_
        exact zs_goj (hJ4 1) ⟨rfl, trivial⟩
  · exact zs_retVv (pc := 7) C hr ⟨Nat.le_of_ble_eq_true rfl, Nat.le_of_ble_eq_true rfl⟩ (by decide +kernel)
set_option maxRecDepth 20000 in
theorem c_X12_isWord (l : Launch) (g : GC) (a0 : Nat) (h0_ : a0 < strT.length) : ConR l g yX12_isWord cX12_isWord 4 (some .boolean) (rmd 6 0 0) [sR 287, sT a0] (fun mm => fX12_isWord a0 mm) := by
  refine zs_ofR (by decide +kernel) (Nat.le_of_ble_eq_true rfl) ?_
  intro p e s m args below meth c C hr
  replace C : Bd g RX12 cX12_isWord 4 p s m args meth c := C
  unfold fX12_isWord
  refine zs_aload_n (pc := 0) (k := 0) (i := 0) C (by decide +kernel) rfl rfl ?_
  refine zs_getI (pc := 1) (i := 123) (ci := 12) (k := 12) C (by decide +kernel) fl_RX12_123 rfl rfl (fun x1 => ?_)
  refine zs_jn (pJ := 36) (kJ := 0) (sJ := 0) (fun t2 => [(0, sR 287), (1, sT a0)]) (fun t2 => [sI t2]) (fun t2 => ?_) (fun J3 hJ3 => ?_)
  · refine zs_istore_n (pc := 36) (k := 2) (i := 2) (ls' := [(2, sI t2), (0, sR 287), (1, sT a0)]) C (by decide +kernel) rfl (Nat.le_of_ble_eq_true rfl) rfl ?_
    refine zs_iconst (pc := 37) (n := 0) (x := 0) C (by decide +kernel) (by decide +kernel) ?_
    refine zs_istore_n (pc := 38) (k := 3) (i := 3) (ls' := [(3, sI 0), (2, sI t2), (0, sR 287), (1, sT a0)]) C (by decide +kernel) rfl (Nat.le_of_ble_eq_true rfl) rfl ?_
    refine zs_sub (ls' := [(0, sR 287), (1, sT a0), (2, sI t2), (3, sI 0)]) ⟨rfl, rfl, rfl, rfl, trivial⟩ ?_
    refine zs_lp (pc := 39) (fun (t4 : Int × Int) => [(0, sR 287), (1, sT a0), (2, sI t4.1), (3, sI t4.2)]) (fun _ => []) (fun K5 hK5 t4 => ?_) BIG (t2, 0)
    refine zs_iload_n (pc := 39) (k := 2) (i := 2) C (by decide +kernel) rfl rfl ?_
    refine zs_jn (pJ := 82) (kJ := 0) (sJ := 0) (fun t6 => [(2, sI t4.1)]) (fun t6 => []) (fun t6 => ?_) (fun J7 hJ7 => ?_)
    · refine zs_iload_n (pc := 82) (k := 2) (i := 2) C (by decide +kernel) rfl rfl ?_
      refine zs_chk (fun _ hx => ?_)
      exact zs_retRz (pc := 83) C hx hr ⟨Nat.le_of_ble_eq_true rfl, Nat.le_of_ble_eq_true rfl⟩ (by decide +kernel)
    · refine zs_if_eq (pc := 40) (off := 42) (tgt := 82) C (by decide +kernel) (by decide) ?_ ?_
      · exact zs_goj (hJ7 ()) ⟨rfl, trivial⟩
      · refine zs_iload_n (pc := 43) (k := 3) (i := 3) C (by decide +kernel) rfl rfl ?_
        refine zs_aload_nT (pc := 44) (k := 1) (i := 1) C (by decide +kernel) rfl rfl ?_
        refine zs_ctRi (pc := 45) (As := []) (st := [sI t4.2]) C h0_ rfl (c_J0_length_8abf5 l g a0 h0_) ml_RX12_129 rfl rfl (Nat.le_of_ble_eq_true rfl) ⟨Nat.le_of_ble_eq_true rfl, Nat.le_of_ble_eq_true rfl⟩ ⟨Nat.le_of_ble_eq_true rfl, Nat.le_of_ble_eq_true rfl⟩ (by decide +kernel) (fun x8 => ?_)
        refine zs_icmp_ge (pc := 48) (off := 34) (tgt := 82) C (by decide +kernel) (by decide) ?_ ?_
        · exact zs_goj (hJ7 ()) ⟨rfl, trivial⟩
        · refine zs_aload_n (pc := 51) (k := 0) (i := 0) C (by decide +kernel) rfl rfl ?_
          refine zs_getR (o' := 292) (pc := 52) (i := 23) (ci := 12) (k := 5) C (by decide +kernel) fl_RX12_23 rfl rfl rfl ?_
          refine zs_aload_n (pc := 55) (k := 0) (i := 0) C (by decide +kernel) rfl rfl ?_
          refine zs_getI (pc := 56) (i := 100) (ci := 12) (k := 9) C (by decide +kernel) fl_RX12_100 rfl rfl (fun x9 => ?_)
          refine zs_iload_n (pc := 59) (k := 3) (i := 3) C (by decide +kernel) rfl rfl ?_
          refine zs_iadd (pc := 60) C (by decide +kernel) ?_
          refine zs_iald (pc := 61) (o := 292) (n := 900) C (by decide +kernel) rfl (fun hinx10 x10 => ?_)
          refine zs_aload_nT (pc := 62) (k := 1) (i := 1) C (by decide +kernel) rfl rfl ?_
          refine zs_iload_n (pc := 63) (k := 3) (i := 3) C (by decide +kernel) rfl rfl ?_
          refine zs_ctRi (pc := 64) (As := [sI t4.2]) (st := [sI x10]) C h0_ rfl (c_J0_charAt_5068e l g a0 t4.2 h0_) ml_RX12_134 rfl rfl (Nat.le_of_ble_eq_true rfl) ⟨Nat.le_of_ble_eq_true rfl, Nat.le_of_ble_eq_true rfl⟩ ⟨Nat.le_of_ble_eq_true rfl, Nat.le_of_ble_eq_true rfl⟩ (by decide +kernel) (fun x11 => ?_)
          refine zs_jn (pJ := 75) (kJ := 0) (sJ := 0) (fun t12 => [(0, sR 287), (1, sT a0), (3, sI t4.2)]) (fun t12 => [sI t12]) (fun t12 => ?_) (fun J13 hJ13 => ?_)
          · refine zs_istore_n (pc := 75) (k := 2) (i := 2) (ls' := [(2, sI t12), (0, sR 287), (1, sT a0), (3, sI t4.2)]) C (by decide +kernel) rfl (Nat.le_of_ble_eq_true rfl) rfl ?_
            refine zs_iinc (pc := 76) (i := 3) (n := 1) (y := w32 (t4.2 + 1)) (ls' := [(3, sI (w32 (t4.2 + 1))), (2, sI t12), (0, sR 287), (1, sT a0)]) C (by decide +kernel) rfl rfl (Nat.le_of_ble_eq_true rfl) rfl ?_
            refine zs_goto (pc := 79) (off := (-40)) (tgt := 39) C (by decide +kernel) (by decide) ?_
            exact zs_goj (hK5 (t12, w32 (t4.2 + 1))) ⟨rfl, rfl, rfl, rfl, trivial⟩
          · refine zs_icmp_ne (pc := 67) (off := 7) (tgt := 74) C (by decide +kernel) (by decide) ?_ ?_
            · refine zs_iconst (pc := 74) (n := 0) (x := 0) C (by decide +kernel) (by decide +kernel) ?_
              exact zs_goj (hJ13 0) ⟨rfl, rfl, rfl, trivial⟩
            · refine zs_iconst (pc := 70) (n := 1) (x := 1) C (by decide +kernel) (by decide +kernel) ?_
              refine zs_goto (pc := 71) (off := 4) (tgt := 75) C (by decide +kernel) (by decide) ?_
              exact zs_goj (hJ13 1) ⟨rfl, rfl, rfl, trivial⟩
  · refine zs_jn (pJ := 35) (kJ := 0) (sJ := 0) (fun t14 => [(0, sR 287), (1, sT a0)]) (fun t14 => []) (fun t14 => ?_) (fun J15 hJ15 => ?_)
    · refine zs_iconst (pc := 35) (n := 0) (x := 0) C (by decide +kernel) (by decide +kernel) ?_
      exact zs_goj (hJ3 0) ⟨rfl, rfl, trivial⟩
    · refine zs_if_ne (pc := 4) (off := 31) (tgt := 35) C (by decide +kernel) (by decide) ?_ ?_
      · exact zs_goj (hJ15 ()) ⟨rfl, rfl, trivial⟩
      · refine zs_aload_n (pc := 7) (k := 0) (i := 0) C (by decide +kernel) rfl rfl ?_
        refine zs_getI (pc := 8) (i := 103) (ci := 12) (k := 10) C (by decide +kernel) fl_RX12_103 rfl rfl (fun x16 => ?_)
        refine zs_iconst (pc := 11) (n := 1) (x := 1) C (by decide +kernel) (by decide +kernel) ?_
        refine zs_icmp_ne (pc := 12) (off := 23) (tgt := 35) C (by decide +kernel) (by decide) ?_ ?_
        · exact zs_goj (hJ15 ()) ⟨rfl, rfl, trivial⟩
        · refine zs_aload_n (pc := 15) (k := 0) (i := 0) C (by decide +kernel) rfl rfl ?_
          refine zs_getI (pc := 16) (i := 97) (ci := 12) (k := 8) C (by decide +kernel) fl_RX12_97 rfl rfl (fun x17 => ?_)
          refine zs_aload_n (pc := 19) (k := 0) (i := 0) C (by decide +kernel) rfl rfl ?_
          refine zs_getI (pc := 20) (i := 100) (ci := 12) (k := 9) C (by decide +kernel) fl_RX12_100 rfl rfl (fun x18 => ?_)
          refine zs_isub (pc := 23) C (by decide +kernel) ?_
          refine zs_aload_nT (pc := 24) (k := 1) (i := 1) C (by decide +kernel) rfl rfl ?_
          refine zs_ctRi (pc := 25) (As := []) (st := [sI (w32 (x17 - x18))]) C h0_ rfl (c_J0_length_8abf5 l g a0 h0_) ml_RX12_129 rfl rfl (Nat.le_of_ble_eq_true rfl) ⟨Nat.le_of_ble_eq_true rfl, Nat.le_of_ble_eq_true rfl⟩ ⟨Nat.le_of_ble_eq_true rfl, Nat.le_of_ble_eq_true rfl⟩ (by decide +kernel) (fun x19 => ?_)
          refine zs_icmp_ne (pc := 28) (off := 7) (tgt := 35) C (by decide +kernel) (by decide) ?_ ?_
          · exact zs_goj (hJ15 ()) ⟨rfl, rfl, trivial⟩
          · refine zs_iconst (pc := 31) (n := 1) (x := 1) C (by decide +kernel) (by decide +kernel) ?_
            refine zs_goto (pc := 32) (off := 4) (tgt := 36) C (by decide +kernel) (by decide) ?_
            exact zs_goj (hJ3 1) ⟨rfl, rfl, trivial⟩
set_option maxRecDepth 20000 in
theorem c_X12_took (l : Launch) (g : GC) (a0 : Nat) (h0_ : a0 < strT.length) : ConW l g yX12_took cX12_took 3 (some .boolean) (rmd 7 0 0) [sR 287, sT a0] (fun mm => fX12_took a0 mm) := by
  refine zs_ofW (by decide +kernel) (Nat.le_of_ble_eq_true rfl) ?_
  intro p e s m args below meth c C hr
  replace C : Bd g RX12 cX12_took 3 p s m args meth c := C
  unfold fX12_took
  refine zs_aload_n (pc := 0) (k := 0) (i := 0) C (by decide +kernel) rfl rfl ?_
  refine zs_aload_nT (pc := 1) (k := 1) (i := 1) C (by decide +kernel) rfl rfl ?_
  refine zs_cvRi (pc := 2) (As := [sT a0]) (st := []) C rfl (c_X12_isWord l g a0 h0_) ml_RX12_138 rfl rfl rfl rfl (Nat.le_of_ble_eq_true rfl) ⟨Nat.le_of_ble_eq_true rfl, Nat.le_of_ble_eq_true rfl⟩ ⟨Nat.le_of_ble_eq_true rfl, Nat.le_of_ble_eq_true rfl⟩ (by decide +kernel) (fun x1 => ?_)
  refine zs_istore_n (pc := 5) (k := 2) (i := 2) (ls' := [(2, sI x1), (0, sR 287), (1, sT a0)]) C (by decide +kernel) rfl (Nat.le_of_ble_eq_true rfl) rfl ?_
  refine zs_iload_n (pc := 6) (k := 2) (i := 2) C (by decide +kernel) rfl rfl ?_
  refine zs_jn (pJ := 14) (kJ := 0) (sJ := 0) (fun t2 => [(2, sI x1)]) (fun t2 => []) (fun t2 => ?_) (fun J3 hJ3 => ?_)
  · refine zs_iload_n (pc := 14) (k := 2) (i := 2) C (by decide +kernel) rfl rfl ?_
    refine zs_chk (fun _ hx => ?_)
    exact zs_retWz (pc := 15) C hx hr ⟨Nat.le_of_ble_eq_true rfl, Nat.le_of_ble_eq_true rfl⟩ (by decide +kernel)
  · refine zs_if_eq (pc := 7) (off := 7) (tgt := 14) C (by decide +kernel) (by decide) ?_ ?_
    · exact zs_goj (hJ3 ()) ⟨rfl, trivial⟩
    · refine zs_aload_n (pc := 10) (k := 0) (i := 0) C (by decide +kernel) rfl rfl ?_
      refine zs_cvVv (pc := 11) (As := []) (st := []) C (fun _ _ _ => rfl) (c_X12_readsOn l g ) ml_RX12_142 rfl rfl rfl rfl (Nat.le_of_ble_eq_true rfl) ⟨Nat.le_of_ble_eq_true rfl, Nat.le_of_ble_eq_true rfl⟩ ⟨Nat.le_of_ble_eq_true rfl, Nat.le_of_ble_eq_true rfl⟩ (by decide +kernel) ?_
      exact zs_goj (hJ3 ()) ⟨rfl, trivial⟩
set_option maxRecDepth 20000 in
theorem c_X12_isSign (l : Launch) (g : GC) (a0 : Int) : ConR l g yX12_isSign cX12_isSign 2 (some .boolean) (rmd 1 0 0) [sR 287, sI a0] (fun mm => fX12_isSign a0 mm) := by
  refine zs_ofR (by decide +kernel) (Nat.le_of_ble_eq_true rfl) ?_
  intro p e s m args below meth c C hr
  replace C : Bd g RX12 cX12_isSign 2 p s m args meth c := C
  unfold fX12_isSign
  refine zs_aload_n (pc := 0) (k := 0) (i := 0) C (by decide +kernel) rfl rfl ?_
  refine zs_getI (pc := 1) (i := 123) (ci := 12) (k := 12) C (by decide +kernel) fl_RX12_123 rfl rfl (fun x1 => ?_)
  refine zs_jn (pJ := 20) (kJ := 0) (sJ := 0) (fun t2 => []) (fun t2 => [sI t2]) (fun t2 => ?_) (fun J3 hJ3 => ?_)
  · refine zs_chk (fun _ hx => ?_)
    exact zs_retRz (pc := 20) C hx hr ⟨Nat.le_of_ble_eq_true rfl, Nat.le_of_ble_eq_true rfl⟩ (by decide +kernel)
  · refine zs_jn (pJ := 19) (kJ := 0) (sJ := 0) (fun t4 => []) (fun t4 => []) (fun t4 => ?_) (fun J5 hJ5 => ?_)
    · refine zs_iconst (pc := 19) (n := 0) (x := 0) C (by decide +kernel) (by decide +kernel) ?_
      exact zs_goj (hJ3 0) trivial
    · refine zs_if_ne (pc := 4) (off := 15) (tgt := 19) C (by decide +kernel) (by decide) ?_ ?_
      · exact zs_goj (hJ5 ()) trivial
      · refine zs_aload_n (pc := 7) (k := 0) (i := 0) C (by decide +kernel) rfl rfl ?_
        refine zs_getI (pc := 8) (i := 103) (ci := 12) (k := 10) C (by decide +kernel) fl_RX12_103 rfl rfl (fun x6 => ?_)
        refine zs_iload_n (pc := 11) (k := 1) (i := 1) C (by decide +kernel) rfl rfl ?_
        refine zs_icmp_ne (pc := 12) (off := 7) (tgt := 19) C (by decide +kernel) (by decide) ?_ ?_
        · exact zs_goj (hJ5 ()) trivial
        · refine zs_iconst (pc := 15) (n := 1) (x := 1) C (by decide +kernel) (by decide +kernel) ?_
          refine zs_goto (pc := 16) (off := 4) (tgt := 20) C (by decide +kernel) (by decide) ?_
          exact zs_goj (hJ3 1) trivial
set_option maxRecDepth 20000 in
theorem c_X12_mustSign (l : Launch) (g : GC) (a0 : Int) : ConV l g yX12_mustSign cX12_mustSign 2 (rmd 3 0 0) [sR 287, sI a0] (fun mm => fX12_mustSign a0 mm) := by
  refine zs_ofV (by decide +kernel) (Nat.le_of_ble_eq_true rfl) ?_
  intro p e s m args below meth c C hr
  replace C : Bd g RX12 cX12_mustSign 2 p s m args meth c := C
  unfold fX12_mustSign
  refine zs_aload_n (pc := 0) (k := 0) (i := 0) C (by decide +kernel) rfl rfl ?_
  refine zs_getI (pc := 1) (i := 103) (ci := 12) (k := 10) C (by decide +kernel) fl_RX12_103 rfl rfl (fun x1 => ?_)
  refine zs_iload_n (pc := 4) (k := 1) (i := 1) C (by decide +kernel) rfl rfl ?_
  refine zs_jn (pJ := 13) (kJ := 0) (sJ := 0) (fun t2 => [(0, sR 287)]) (fun t2 => []) (fun t2 => ?_) (fun J3 hJ3 => ?_)
  · refine zs_aload_n (pc := 13) (k := 0) (i := 0) C (by decide +kernel) rfl rfl ?_
    refine zs_getI (pc := 14) (i := 123) (ci := 12) (k := 12) C (by decide +kernel) fl_RX12_123 rfl rfl (fun x4 => ?_)
    refine zs_jn (pJ := 24) (kJ := 0) (sJ := 0) (fun t5 => []) (fun t5 => []) (fun t5 => ?_) (fun J6 hJ6 => ?_)
    · exact zs_retVv (pc := 24) C hr ⟨Nat.le_of_ble_eq_true rfl, Nat.le_of_ble_eq_true rfl⟩ (by decide +kernel)
    · refine zs_if_ne (pc := 17) (off := 7) (tgt := 24) C (by decide +kernel) (by decide) ?_ ?_
      · exact zs_goj (hJ6 ()) trivial
      · refine zs_aload_n (pc := 20) (k := 0) (i := 0) C (by decide +kernel) rfl rfl ?_
        refine zs_cvVv (pc := 21) (As := []) (st := []) C (fun _ _ _ => rfl) (c_X12_readsOn l g ) ml_RX12_142 rfl rfl rfl rfl (Nat.le_of_ble_eq_true rfl) ⟨Nat.le_of_ble_eq_true rfl, Nat.le_of_ble_eq_true rfl⟩ ⟨Nat.le_of_ble_eq_true rfl, Nat.le_of_ble_eq_true rfl⟩ (by decide +kernel) ?_
        exact zs_goj (hJ6 ()) trivial
  · refine zs_icmp_eq (pc := 5) (off := 8) (tgt := 13) C (by decide +kernel) (by decide) ?_ ?_
    · exact zs_goj (hJ3 ()) ⟨rfl, trivial⟩
    · refine zs_aload_n (pc := 8) (k := 0) (i := 0) C (by decide +kernel) rfl rfl ?_
      refine zs_iconst (pc := 9) (n := 2) (x := 2) C (by decide +kernel) (by decide +kernel) ?_
      refine zs_cvVv (pc := 10) (As := [sI 2]) (st := []) C (fun _ _ _ => rfl) (c_X12_blames l g 2) ml_RX12_145 rfl rfl rfl rfl (Nat.le_of_ble_eq_true rfl) ⟨Nat.le_of_ble_eq_true rfl, Nat.le_of_ble_eq_true rfl⟩ ⟨Nat.le_of_ble_eq_true rfl, Nat.le_of_ble_eq_true rfl⟩ (by decide +kernel) ?_
      exact zs_goj (hJ3 ()) ⟨rfl, trivial⟩
set_option maxRecDepth 20000 in
theorem c_X12_number (l : Launch) (g : GC) (a0 : Int) (a1 : Int) : ConW l g yX12_number cX12_number 4 (some .int) (rmd 3 0 0) [sR 287, sI a0, sI a1] (fun mm => fX12_number a0 a1 mm) := by
  refine zs_ofW (by decide +kernel) (Nat.le_of_ble_eq_true rfl) ?_
  intro p e s m args below meth c C hr
  replace C : Bd g RX12 cX12_number 4 p s m args meth c := C
  unfold fX12_number
  refine zs_aload_n (pc := 0) (k := 0) (i := 0) C (by decide +kernel) rfl rfl ?_
  refine zs_getI (pc := 1) (i := 103) (ci := 12) (k := 10) C (by decide +kernel) fl_RX12_103 rfl rfl (fun x1 => ?_)
  refine zs_iconst (pc := 4) (n := 2) (x := 2) C (by decide +kernel) (by decide +kernel) ?_
  refine zs_jn (pJ := 36) (kJ := 0) (sJ := 0) (fun t2 => [(0, sR 287), (1, sI a0)]) (fun t2 => []) (fun t2 => ?_) (fun J3 hJ3 => ?_)
  · refine zs_aload_n (pc := 36) (k := 0) (i := 0) C (by decide +kernel) rfl rfl ?_
    refine zs_getI (pc := 37) (i := 117) (ci := 12) (k := 11) C (by decide +kernel) fl_RX12_117 rfl rfl (fun x4 => ?_)
    refine zs_istore_n (pc := 40) (k := 3) (i := 3) (ls' := [(3, sI x4), (0, sR 287), (1, sI a0)]) C (by decide +kernel) rfl (Nat.le_of_ble_eq_true rfl) rfl ?_
    refine zs_aload_n (pc := 41) (k := 0) (i := 0) C (by decide +kernel) rfl rfl ?_
    refine zs_getI (pc := 42) (i := 123) (ci := 12) (k := 12) C (by decide +kernel) fl_RX12_123 rfl rfl (fun x5 => ?_)
    refine zs_jn (pJ := 52) (kJ := 0) (sJ := 0) (fun t6 => [(0, sR 287), (1, sI a0), (3, sI x4)]) (fun t6 => []) (fun t6 => ?_) (fun J7 hJ7 => ?_)
    · refine zs_aload_n (pc := 52) (k := 0) (i := 0) C (by decide +kernel) rfl rfl ?_
      refine zs_getI (pc := 53) (i := 123) (ci := 12) (k := 12) C (by decide +kernel) fl_RX12_123 rfl rfl (fun x8 => ?_)
      refine zs_jn (pJ := 64) (kJ := 0) (sJ := 0) (fun t9 => []) (fun t9 => [sI t9]) (fun t9 => ?_) (fun J10 hJ10 => ?_)
      · exact zs_retWi (pc := 64) C hr ⟨Nat.le_of_ble_eq_true rfl, Nat.le_of_ble_eq_true rfl⟩ (by decide +kernel)
      · refine zs_if_ne (pc := 56) (off := 7) (tgt := 63) C (by decide +kernel) (by decide) ?_ ?_
        · refine zs_iload_n (pc := 63) (k := 1) (i := 1) C (by decide +kernel) rfl rfl ?_
          exact zs_goj (hJ10 a0) trivial
        · refine zs_iload_n (pc := 59) (k := 3) (i := 3) C (by decide +kernel) rfl rfl ?_
          refine zs_goto (pc := 60) (off := 4) (tgt := 64) C (by decide +kernel) (by decide) ?_
          exact zs_goj (hJ10 x4) trivial
    · refine zs_if_ne (pc := 45) (off := 7) (tgt := 52) C (by decide +kernel) (by decide) ?_ ?_
      · exact zs_goj (hJ7 ()) ⟨rfl, rfl, rfl, trivial⟩
      · refine zs_aload_n (pc := 48) (k := 0) (i := 0) C (by decide +kernel) rfl rfl ?_
        refine zs_cvVv (pc := 49) (As := []) (st := []) C (fun _ _ _ => rfl) (c_X12_readsOn l g ) ml_RX12_142 rfl rfl rfl rfl (Nat.le_of_ble_eq_true rfl) ⟨Nat.le_of_ble_eq_true rfl, Nat.le_of_ble_eq_true rfl⟩ ⟨Nat.le_of_ble_eq_true rfl, Nat.le_of_ble_eq_true rfl⟩ (by decide +kernel) ?_
        exact zs_goj (hJ7 ()) ⟨rfl, rfl, rfl, trivial⟩
  · refine zs_icmp_eq (pc := 5) (off := 11) (tgt := 16) C (by decide +kernel) (by decide) ?_ ?_
    · refine zs_aload_n (pc := 16) (k := 0) (i := 0) C (by decide +kernel) rfl rfl ?_
      refine zs_getI (pc := 17) (i := 117) (ci := 12) (k := 11) C (by decide +kernel) fl_RX12_117 rfl rfl (fun x11 => ?_)
      refine zs_i2l (pc := 20) C (by decide +kernel) ?_
      refine zs_iload_n (pc := 21) (k := 1) (i := 1) C (by decide +kernel) rfl rfl ?_
      refine zs_i2l (pc := 22) C (by decide +kernel) ?_
      refine zs_iload_n (pc := 23) (k := 2) (i := 2) C (by decide +kernel) rfl rfl ?_
      refine zs_i2l (pc := 24) C (by decide +kernel) ?_
      refine zs_csRi (pc := 25) (As := [sL x11, sL a0, sL a1]) (st := []) C rfl (c_X12_within l g x11 a0 a1) ml_RX12_149 rfl rfl (Nat.le_of_ble_eq_true rfl) ⟨Nat.le_of_ble_eq_true rfl, Nat.le_of_ble_eq_true rfl⟩ ⟨Nat.le_of_ble_eq_true rfl, Nat.le_of_ble_eq_true rfl⟩ (by decide +kernel) (fun x12 => ?_)
      refine zs_if_ne (pc := 28) (off := 8) (tgt := 36) C (by decide +kernel) (by decide) ?_ ?_
      · exact zs_goj (hJ3 ()) ⟨rfl, rfl, trivial⟩
      · refine zs_aload_n (pc := 31) (k := 0) (i := 0) C (by decide +kernel) rfl rfl ?_
        refine zs_iconst (pc := 32) (n := 3) (x := 3) C (by decide +kernel) (by decide +kernel) ?_
        refine zs_cvVv (pc := 33) (As := [sI 3]) (st := []) C (fun _ _ _ => rfl) (c_X12_blames l g 3) ml_RX12_145 rfl rfl rfl rfl (Nat.le_of_ble_eq_true rfl) ⟨Nat.le_of_ble_eq_true rfl, Nat.le_of_ble_eq_true rfl⟩ ⟨Nat.le_of_ble_eq_true rfl, Nat.le_of_ble_eq_true rfl⟩ (by decide +kernel) ?_
        exact zs_goj (hJ3 ()) ⟨rfl, rfl, trivial⟩
    · refine zs_aload_n (pc := 8) (k := 0) (i := 0) C (by decide +kernel) rfl rfl ?_
      refine zs_iconst (pc := 9) (n := 2) (x := 2) C (by decide +kernel) (by decide +kernel) ?_
      refine zs_cvVv (pc := 10) (As := [sI 2]) (st := []) C (fun _ _ _ => rfl) (c_X12_blames l g 2) ml_RX12_145 rfl rfl rfl rfl (Nat.le_of_ble_eq_true rfl) ⟨Nat.le_of_ble_eq_true rfl, Nat.le_of_ble_eq_true rfl⟩ ⟨Nat.le_of_ble_eq_true rfl, Nat.le_of_ble_eq_true rfl⟩ (by decide +kernel) ?_
      refine zs_goto (pc := 13) (off := 23) (tgt := 36) C (by decide +kernel) (by decide) ?_
      exact zs_goj (hJ3 ()) ⟨rfl, rfl, trivial⟩
set_option maxRecDepth 20000 in
theorem c_X12_mustWord (l : Launch) (g : GC) (a0 : Nat) (h0_ : a0 < strT.length) : ConV l g yX12_mustWord cX12_mustWord 2 (rmd 8 0 0) [sR 287, sT a0] (fun mm => fX12_mustWord a0 mm) := by
  refine zs_ofV (by decide +kernel) (Nat.le_of_ble_eq_true rfl) ?_
  intro p e s m args below meth c C hr
  replace C : Bd g RX12 cX12_mustWord 2 p s m args meth c := C
  unfold fX12_mustWord
  refine zs_aload_n (pc := 0) (k := 0) (i := 0) C (by decide +kernel) rfl rfl ?_
  refine zs_aload_nT (pc := 1) (k := 1) (i := 1) C (by decide +kernel) rfl rfl ?_
  refine zs_cvWi (pc := 2) (As := [sT a0]) (st := []) C (fun _ _ _ => rfl) rfl (c_X12_took l g a0 h0_) ml_RX12_153 rfl rfl rfl rfl (Nat.le_of_ble_eq_true rfl) ⟨Nat.le_of_ble_eq_true rfl, Nat.le_of_ble_eq_true rfl⟩ ⟨Nat.le_of_ble_eq_true rfl, Nat.le_of_ble_eq_true rfl⟩ (by decide +kernel) (fun x1 => ?_)
  refine zs_jn (pJ := 13) (kJ := 0) (sJ := 0) (fun t2 => []) (fun t2 => []) (fun t2 => ?_) (fun J3 hJ3 => ?_)
  · exact zs_retVv (pc := 13) C hr ⟨Nat.le_of_ble_eq_true rfl, Nat.le_of_ble_eq_true rfl⟩ (by decide +kernel)
  · refine zs_if_ne (pc := 5) (off := 8) (tgt := 13) C (by decide +kernel) (by decide) ?_ ?_
    · exact zs_goj (hJ3 ()) trivial
    · refine zs_aload_n (pc := 8) (k := 0) (i := 0) C (by decide +kernel) rfl rfl ?_
      refine zs_iconst (pc := 9) (n := 2) (x := 2) C (by decide +kernel) (by decide +kernel) ?_
      refine zs_cvVv (pc := 10) (As := [sI 2]) (st := []) C (fun _ _ _ => rfl) (c_X12_blames l g 2) ml_RX12_145 rfl rfl rfl rfl (Nat.le_of_ble_eq_true rfl) ⟨Nat.le_of_ble_eq_true rfl, Nat.le_of_ble_eq_true rfl⟩ ⟨Nat.le_of_ble_eq_true rfl, Nat.le_of_ble_eq_true rfl⟩ (by decide +kernel) ?_
      exact zs_goj (hJ3 ()) trivial
set_option maxRecDepth 20000 in
theorem c_X12_laysStep (l : Launch) (g : GC) (a0 : Int) : ConV l g yX12_laysStep cX12_laysStep 2 (rmd 1 0 0) [sR 287, sI a0] (fun mm => fX12_laysStep a0 mm) := by
  refine zs_ofV (by decide +kernel) (Nat.le_of_ble_eq_true rfl) ?_
  intro p e s m args below meth c C hr
  replace C : Bd g RX12 cX12_laysStep 2 p s m args meth c := C
  unfold fX12_laysStep
  refine zs_aload_n (pc := 0) (k := 0) (i := 0) C (by decide +kernel) rfl rfl ?_
  refine zs_getI (pc := 1) (i := 123) (ci := 12) (k := 12) C (by decide +kernel) fl_RX12_123 rfl rfl (fun x1 => ?_)
  refine zs_if_eq (pc := 4) (off := 4) (tgt := 8) C (by decide +kernel) (by decide) ?_ ?_
  · refine zs_aload_n (pc := 8) (k := 0) (i := 0) C (by decide +kernel) rfl rfl ?_
    refine zs_getR (o' := 289) (pc := 9) (i := 13) (ci := 12) (k := 1) C (by decide +kernel) fl_RX12_13 rfl rfl rfl ?_
    refine zs_aload_n (pc := 12) (k := 0) (i := 0) C (by decide +kernel) rfl rfl ?_
    refine zs_getI (pc := 13) (i := 156) (ci := 12) (k := 18) C (by decide +kernel) fl_RX12_156 rfl rfl (fun x2 => ?_)
    refine zs_aload_n (pc := 16) (k := 0) (i := 0) C (by decide +kernel) rfl rfl ?_
    refine zs_getR (o' := 289) (pc := 17) (i := 13) (ci := 12) (k := 1) C (by decide +kernel) fl_RX12_13 rfl rfl rfl ?_
    refine zs_aload_n (pc := 20) (k := 0) (i := 0) C (by decide +kernel) rfl rfl ?_
    refine zs_getI (pc := 21) (i := 159) (ci := 12) (k := 17) C (by decide +kernel) fl_RX12_159 rfl rfl (fun x3 => ?_)
    refine zs_iald (pc := 24) (o := 289) (n := 2005) C (by decide +kernel) rfl (fun hinx4 x4 => ?_)
    refine zs_iadd (pc := 25) C (by decide +kernel) ?_
    refine zs_iload_n (pc := 26) (k := 1) (i := 1) C (by decide +kernel) rfl rfl ?_
    refine zs_iast (pc := 27) (o := 289) (n := 2005) C (fun _ _ _ => rfl) (by decide +kernel) rfl ?_
    refine zs_aload_n (pc := 28) (k := 0) (i := 0) C (by decide +kernel) rfl rfl ?_
    refine zs_getR (o' := 289) (pc := 29) (i := 13) (ci := 12) (k := 1) C (by decide +kernel) fl_RX12_13 rfl rfl rfl ?_
    refine zs_aload_n (pc := 32) (k := 0) (i := 0) C (by decide +kernel) rfl rfl ?_
    refine zs_getI (pc := 33) (i := 159) (ci := 12) (k := 17) C (by decide +kernel) fl_RX12_159 rfl rfl (fun x5 => ?_)
    refine zs_dup2 (pc := 36) C rfl rfl (by decide +kernel) ?_
    refine zs_iald (pc := 37) (o := 289) (n := 2005) C (by decide +kernel) rfl (fun hinx6 x6 => ?_)
    refine zs_iconst (pc := 38) (n := 1) (x := 1) C (by decide +kernel) (by decide +kernel) ?_
    refine zs_iadd (pc := 39) C (by decide +kernel) ?_
    refine zs_iast (pc := 40) (o := 289) (n := 2005) C (fun _ _ _ => rfl) (by decide +kernel) rfl ?_
    exact zs_retVv (pc := 41) C hr ⟨Nat.le_of_ble_eq_true rfl, Nat.le_of_ble_eq_true rfl⟩ (by decide +kernel)
  · exact zs_retVv (pc := 7) C hr ⟨Nat.le_of_ble_eq_true rfl, Nat.le_of_ble_eq_true rfl⟩ (by decide +kernel)
set_option maxRecDepth 20000 in
theorem c_X12_beginsLaw (l : Launch) (g : GC) (a0 : Int) (a1 : Int) : ConV l g yX12_beginsLaw cX12_beginsLaw 3 (rmd 4 0 0) [sR 287, sI a0, sI a1] (fun mm => fX12_beginsLaw a0 a1 mm) := by
  refine zs_ofV (by decide +kernel) (Nat.le_of_ble_eq_true rfl) ?_
  intro p e s m args below meth c C hr
  replace C : Bd g RX12 cX12_beginsLaw 3 p s m args meth c := C
  unfold fX12_beginsLaw
  refine zs_aload_n (pc := 0) (k := 0) (i := 0) C (by decide +kernel) rfl rfl ?_
  refine zs_iload_n (pc := 1) (k := 1) (i := 1) C (by decide +kernel) rfl rfl ?_
  refine zs_putI (pc := 2) (i := 159) (ci := 12) (k := 17) C (fun _ _ _ => rfl) (by decide +kernel) fl_RX12_159 fw_12_17 rfl rfl ?_
  refine zs_aload_n (pc := 5) (k := 0) (i := 0) C (by decide +kernel) rfl rfl ?_
  refine zs_iload_n (pc := 6) (k := 2) (i := 2) C (by decide +kernel) rfl rfl ?_
  refine zs_putI (pc := 7) (i := 156) (ci := 12) (k := 18) C (fun _ _ _ => rfl) (by decide +kernel) fl_RX12_156 fw_12_18 rfl rfl ?_
  refine zs_aload_n (pc := 10) (k := 0) (i := 0) C (by decide +kernel) rfl rfl ?_
  refine zs_getR (o' := 289) (pc := 11) (i := 13) (ci := 12) (k := 1) C (by decide +kernel) fl_RX12_13 rfl rfl rfl ?_
  refine zs_iload_n (pc := 14) (k := 1) (i := 1) C (by decide +kernel) rfl rfl ?_
  refine zs_iconst (pc := 15) (n := 0) (x := 0) C (by decide +kernel) (by decide +kernel) ?_
  refine zs_iast (pc := 16) (o := 289) (n := 2005) C (fun _ _ _ => rfl) (by decide +kernel) rfl ?_
  refine zs_aload_n (pc := 17) (k := 0) (i := 0) C (by decide +kernel) rfl rfl ?_
  refine zs_bipush (pc := 18) (n := 58) (x := 58) C (by decide +kernel) (by decide +kernel) ?_
  refine zs_cvVv (pc := 20) (As := [sI 58]) (st := []) C (fun _ _ _ => rfl) (c_X12_mustSign l g 58) ml_RX12_162 rfl rfl rfl rfl (Nat.le_of_ble_eq_true rfl) ⟨Nat.le_of_ble_eq_true rfl, Nat.le_of_ble_eq_true rfl⟩ ⟨Nat.le_of_ble_eq_true rfl, Nat.le_of_ble_eq_true rfl⟩ (by decide +kernel) ?_
  exact zs_retVv (pc := 23) C hr ⟨Nat.le_of_ble_eq_true rfl, Nat.le_of_ble_eq_true rfl⟩ (by decide +kernel)
set_option maxRecDepth 20000 in
theorem c_X12_goesIn (l : Launch) (g : GC)  : ConV l g yX12_goesIn cX12_goesIn 1 (rmd 3 0 0) [sR 287] (fun mm => fX12_goesIn  mm) := by
  refine zs_ofV (by decide +kernel) (Nat.le_of_ble_eq_true rfl) ?_
  intro p e s m args below meth c C hr
  replace C : Bd g RX12 cX12_goesIn 1 p s m args meth c := C
  unfold fX12_goesIn
  refine zs_aload_n (pc := 0) (k := 0) (i := 0) C (by decide +kernel) rfl rfl ?_
  refine zs_getI (pc := 1) (i := 165) (ci := 12) (k := 16) C (by decide +kernel) fl_RX12_165 rfl rfl (fun x1 => ?_)
  refine zs_bipush (pc := 4) (n := 6) (x := 6) C (by decide +kernel) (by decide +kernel) ?_
  refine zs_jn (pJ := 14) (kJ := 0) (sJ := 0) (fun t2 => [(0, sR 287)]) (fun t2 => []) (fun t2 => ?_) (fun J3 hJ3 => ?_)
  · refine zs_aload_n (pc := 14) (k := 0) (i := 0) C (by decide +kernel) rfl rfl ?_
    refine zs_dup (pc := 15) C rfl (by decide +kernel) ?_
    refine zs_getI (pc := 16) (i := 165) (ci := 12) (k := 16) C (by decide +kernel) fl_RX12_165 rfl rfl (fun x4 => ?_)
    refine zs_iconst (pc := 19) (n := 1) (x := 1) C (by decide +kernel) (by decide +kernel) ?_
    refine zs_iadd (pc := 20) C (by decide +kernel) ?_
    refine zs_putI (pc := 21) (i := 165) (ci := 12) (k := 16) C (fun _ _ _ => rfl) (by decide +kernel) fl_RX12_165 fw_12_16 rfl rfl ?_
    refine zs_aload_n (pc := 24) (k := 0) (i := 0) C (by decide +kernel) rfl rfl ?_
    refine zs_getI (pc := 25) (i := 123) (ci := 12) (k := 12) C (by decide +kernel) fl_RX12_123 rfl rfl (fun x5 => ?_)
    refine zs_jn (pJ := 35) (kJ := 0) (sJ := 0) (fun t6 => []) (fun t6 => []) (fun t6 => ?_) (fun J7 hJ7 => ?_)
    · exact zs_retVv (pc := 35) C hr ⟨Nat.le_of_ble_eq_true rfl, Nat.le_of_ble_eq_true rfl⟩ (by decide +kernel)
    · refine zs_if_ne (pc := 28) (off := 7) (tgt := 35) C (by decide +kernel) (by decide) ?_ ?_
      · exact zs_goj (hJ7 ()) trivial
      · refine zs_aload_n (pc := 31) (k := 0) (i := 0) C (by decide +kernel) rfl rfl ?_
        refine zs_cvVv (pc := 32) (As := []) (st := []) C (fun _ _ _ => rfl) (c_X12_readsOn l g ) ml_RX12_142 rfl rfl rfl rfl (Nat.le_of_ble_eq_true rfl) ⟨Nat.le_of_ble_eq_true rfl, Nat.le_of_ble_eq_true rfl⟩ ⟨Nat.le_of_ble_eq_true rfl, Nat.le_of_ble_eq_true rfl⟩ (by decide +kernel) ?_
        exact zs_goj (hJ7 ()) trivial
  · refine zs_icmp_ne (pc := 6) (off := 8) (tgt := 14) C (by decide +kernel) (by decide) ?_ ?_
    · exact zs_goj (hJ3 ()) ⟨rfl, trivial⟩
    · refine zs_aload_n (pc := 9) (k := 0) (i := 0) C (by decide +kernel) rfl rfl ?_
      refine zs_iconst (pc := 10) (n := 4) (x := 4) C (by decide +kernel) (by decide +kernel) ?_
      refine zs_cvVv (pc := 11) (As := [sI 4]) (st := []) C (fun _ _ _ => rfl) (c_X12_blames l g 4) ml_RX12_145 rfl rfl rfl rfl (Nat.le_of_ble_eq_true rfl) ⟨Nat.le_of_ble_eq_true rfl, Nat.le_of_ble_eq_true rfl⟩ ⟨Nat.le_of_ble_eq_true rfl, Nat.le_of_ble_eq_true rfl⟩ (by decide +kernel) ?_
      exact zs_goj (hJ3 ()) ⟨rfl, trivial⟩
set_option maxRecDepth 20000 in
theorem c_X12_lengthWord (l : Launch) (g : GC)  : ConW l g yX12_lengthWord cX12_lengthWord 1 (some .int) (rmd 8 0 0) [sR 287] (fun mm => fX12_lengthWord  mm) := by
  refine zs_ofW (by decide +kernel) (Nat.le_of_ble_eq_true rfl) ?_
  intro p e s m args below meth c C hr
  replace C : Bd g RX12 cX12_lengthWord 1 p s m args meth c := C
  unfold fX12_lengthWord
  refine zs_aload_n (pc := 0) (k := 0) (i := 0) C (by decide +kernel) rfl rfl ?_
  refine zs_ldcS (pc := 1) (i := 201) (k := 5) C (by decide +kernel) rfl ?_
  refine zs_cvWi (pc := 3) (As := [sT 5]) (st := []) C (fun _ _ _ => rfl) rfl (c_X12_took l g 5 (by decide)) ml_RX12_153 rfl rfl rfl rfl (Nat.le_of_ble_eq_true rfl) ⟨Nat.le_of_ble_eq_true rfl, Nat.le_of_ble_eq_true rfl⟩ ⟨Nat.le_of_ble_eq_true rfl, Nat.le_of_ble_eq_true rfl⟩ (by decide +kernel) (fun x1 => ?_)
  refine zs_if_eq (pc := 6) (off := 5) (tgt := 11) C (by decide +kernel) (by decide) ?_ ?_
  · refine zs_aload_n (pc := 11) (k := 0) (i := 0) C (by decide +kernel) rfl rfl ?_
    refine zs_ldcS (pc := 12) (i := 203) (k := 6) C (by decide +kernel) rfl ?_
    refine zs_cvWi (pc := 14) (As := [sT 6]) (st := []) C (fun _ _ _ => rfl) rfl (c_X12_took l g 6 (by decide)) ml_RX12_153 rfl rfl rfl rfl (Nat.le_of_ble_eq_true rfl) ⟨Nat.le_of_ble_eq_true rfl, Nat.le_of_ble_eq_true rfl⟩ ⟨Nat.le_of_ble_eq_true rfl, Nat.le_of_ble_eq_true rfl⟩ (by decide +kernel) (fun x2 => ?_)
    refine zs_if_eq (pc := 17) (off := 5) (tgt := 22) C (by decide +kernel) (by decide) ?_ ?_
    · refine zs_aload_n (pc := 22) (k := 0) (i := 0) C (by decide +kernel) rfl rfl ?_
      refine zs_ldcS (pc := 23) (i := 205) (k := 7) C (by decide +kernel) rfl ?_
      refine zs_cvWi (pc := 25) (As := [sT 7]) (st := []) C (fun _ _ _ => rfl) rfl (c_X12_took l g 7 (by decide)) ml_RX12_153 rfl rfl rfl rfl (Nat.le_of_ble_eq_true rfl) ⟨Nat.le_of_ble_eq_true rfl, Nat.le_of_ble_eq_true rfl⟩ ⟨Nat.le_of_ble_eq_true rfl, Nat.le_of_ble_eq_true rfl⟩ (by decide +kernel) (fun x3 => ?_)
      refine zs_if_eq (pc := 28) (off := 5) (tgt := 33) C (by decide +kernel) (by decide) ?_ ?_
      · refine zs_aload_n (pc := 33) (k := 0) (i := 0) C (by decide +kernel) rfl rfl ?_
        refine zs_ldcS (pc := 34) (i := 207) (k := 8) C (by decide +kernel) rfl ?_
        refine zs_cvWi (pc := 36) (As := [sT 8]) (st := []) C (fun _ _ _ => rfl) rfl (c_X12_took l g 8 (by decide)) ml_RX12_153 rfl rfl rfl rfl (Nat.le_of_ble_eq_true rfl) ⟨Nat.le_of_ble_eq_true rfl, Nat.le_of_ble_eq_true rfl⟩ ⟨Nat.le_of_ble_eq_true rfl, Nat.le_of_ble_eq_true rfl⟩ (by decide +kernel) (fun x4 => ?_)
        refine zs_if_eq (pc := 39) (off := 5) (tgt := 44) C (by decide +kernel) (by decide) ?_ ?_
        · refine zs_aload_n (pc := 44) (k := 0) (i := 0) C (by decide +kernel) rfl rfl ?_
          refine zs_ldcS (pc := 45) (i := 209) (k := 9) C (by decide +kernel) rfl ?_
          refine zs_cvWi (pc := 47) (As := [sT 9]) (st := []) C (fun _ _ _ => rfl) rfl (c_X12_took l g 9 (by decide)) ml_RX12_153 rfl rfl rfl rfl (Nat.le_of_ble_eq_true rfl) ⟨Nat.le_of_ble_eq_true rfl, Nat.le_of_ble_eq_true rfl⟩ ⟨Nat.le_of_ble_eq_true rfl, Nat.le_of_ble_eq_true rfl⟩ (by decide +kernel) (fun x5 => ?_)
          refine zs_jn (pJ := 58) (kJ := 0) (sJ := 0) (fun t6 => []) (fun t6 => [sI t6]) (fun t6 => ?_) (fun J7 hJ7 => ?_)
          · exact zs_retWi (pc := 58) C hr ⟨Nat.le_of_ble_eq_true rfl, Nat.le_of_ble_eq_true rfl⟩ (by decide +kernel)
          · refine zs_if_eq (pc := 50) (off := 7) (tgt := 57) C (by decide +kernel) (by decide) ?_ ?_
            · refine zs_iconst (pc := 57) (n := (-1)) (x := (-1)) C (by decide +kernel) (by decide +kernel) ?_
              exact zs_goj (hJ7 (-1)) trivial
            · refine zs_iconst (pc := 53) (n := 4) (x := 4) C (by decide +kernel) (by decide +kernel) ?_
              refine zs_goto (pc := 54) (off := 4) (tgt := 58) C (by decide +kernel) (by decide) ?_
              exact zs_goj (hJ7 4) trivial
        · refine zs_iconst (pc := 42) (n := 3) (x := 3) C (by decide +kernel) (by decide +kernel) ?_
          exact zs_retWi (pc := 43) C hr ⟨Nat.le_of_ble_eq_true rfl, Nat.le_of_ble_eq_true rfl⟩ (by decide +kernel)
      · refine zs_iconst (pc := 31) (n := 2) (x := 2) C (by decide +kernel) (by decide +kernel) ?_
        exact zs_retWi (pc := 32) C hr ⟨Nat.le_of_ble_eq_true rfl, Nat.le_of_ble_eq_true rfl⟩ (by decide +kernel)
    · refine zs_iconst (pc := 20) (n := 1) (x := 1) C (by decide +kernel) (by decide +kernel) ?_
      exact zs_retWi (pc := 21) C hr ⟨Nat.le_of_ble_eq_true rfl, Nat.le_of_ble_eq_true rfl⟩ (by decide +kernel)
  · refine zs_iconst (pc := 9) (n := 0) (x := 0) C (by decide +kernel) (by decide +kernel) ?_
    exact zs_retWi (pc := 10) C hr ⟨Nat.le_of_ble_eq_true rfl, Nat.le_of_ble_eq_true rfl⟩ (by decide +kernel)
set_option maxRecDepth 20000 in
theorem c_X12_mayWord (l : Launch) (g : GC)  : ConW l g yX12_mayWord cX12_mayWord 1 (some .int) (rmd 8 0 0) [sR 287] (fun mm => fX12_mayWord  mm) := by
  refine zs_ofW (by decide +kernel) (Nat.le_of_ble_eq_true rfl) ?_
  intro p e s m args below meth c C hr
  replace C : Bd g RX12 cX12_mayWord 1 p s m args meth c := C
  unfold fX12_mayWord
  refine zs_aload_n (pc := 0) (k := 0) (i := 0) C (by decide +kernel) rfl rfl ?_
  refine zs_ldcS (pc := 1) (i := 211) (k := 10) C (by decide +kernel) rfl ?_
  refine zs_cvWi (pc := 3) (As := [sT 10]) (st := []) C (fun _ _ _ => rfl) rfl (c_X12_took l g 10 (by decide)) ml_RX12_153 rfl rfl rfl rfl (Nat.le_of_ble_eq_true rfl) ⟨Nat.le_of_ble_eq_true rfl, Nat.le_of_ble_eq_true rfl⟩ ⟨Nat.le_of_ble_eq_true rfl, Nat.le_of_ble_eq_true rfl⟩ (by decide +kernel) (fun x1 => ?_)
  refine zs_if_eq (pc := 6) (off := 5) (tgt := 11) C (by decide +kernel) (by decide) ?_ ?_
  · refine zs_aload_n (pc := 11) (k := 0) (i := 0) C (by decide +kernel) rfl rfl ?_
    refine zs_ldcS (pc := 12) (i := 213) (k := 11) C (by decide +kernel) rfl ?_
    refine zs_cvWi (pc := 14) (As := [sT 11]) (st := []) C (fun _ _ _ => rfl) rfl (c_X12_took l g 11 (by decide)) ml_RX12_153 rfl rfl rfl rfl (Nat.le_of_ble_eq_true rfl) ⟨Nat.le_of_ble_eq_true rfl, Nat.le_of_ble_eq_true rfl⟩ ⟨Nat.le_of_ble_eq_true rfl, Nat.le_of_ble_eq_true rfl⟩ (by decide +kernel) (fun x2 => ?_)
    refine zs_if_eq (pc := 17) (off := 5) (tgt := 22) C (by decide +kernel) (by decide) ?_ ?_
    · refine zs_aload_n (pc := 22) (k := 0) (i := 0) C (by decide +kernel) rfl rfl ?_
      refine zs_ldcS (pc := 23) (i := 215) (k := 12) C (by decide +kernel) rfl ?_
      refine zs_cvWi (pc := 25) (As := [sT 12]) (st := []) C (fun _ _ _ => rfl) rfl (c_X12_took l g 12 (by decide)) ml_RX12_153 rfl rfl rfl rfl (Nat.le_of_ble_eq_true rfl) ⟨Nat.le_of_ble_eq_true rfl, Nat.le_of_ble_eq_true rfl⟩ ⟨Nat.le_of_ble_eq_true rfl, Nat.le_of_ble_eq_true rfl⟩ (by decide +kernel) (fun x3 => ?_)
      refine zs_if_eq (pc := 28) (off := 5) (tgt := 33) C (by decide +kernel) (by decide) ?_ ?_
      · refine zs_aload_n (pc := 33) (k := 0) (i := 0) C (by decide +kernel) rfl rfl ?_
        refine zs_ldcS (pc := 34) (i := 209) (k := 9) C (by decide +kernel) rfl ?_
        refine zs_cvWi (pc := 36) (As := [sT 9]) (st := []) C (fun _ _ _ => rfl) rfl (c_X12_took l g 9 (by decide)) ml_RX12_153 rfl rfl rfl rfl (Nat.le_of_ble_eq_true rfl) ⟨Nat.le_of_ble_eq_true rfl, Nat.le_of_ble_eq_true rfl⟩ ⟨Nat.le_of_ble_eq_true rfl, Nat.le_of_ble_eq_true rfl⟩ (by decide +kernel) (fun x4 => ?_)
        refine zs_if_eq (pc := 39) (off := 5) (tgt := 44) C (by decide +kernel) (by decide) ?_ ?_
        · refine zs_aload_n (pc := 44) (k := 0) (i := 0) C (by decide +kernel) rfl rfl ?_
          refine zs_ldcS (pc := 45) (i := 205) (k := 7) C (by decide +kernel) rfl ?_
          refine zs_cvWi (pc := 47) (As := [sT 7]) (st := []) C (fun _ _ _ => rfl) rfl (c_X12_took l g 7 (by decide)) ml_RX12_153 rfl rfl rfl rfl (Nat.le_of_ble_eq_true rfl) ⟨Nat.le_of_ble_eq_true rfl, Nat.le_of_ble_eq_true rfl⟩ ⟨Nat.le_of_ble_eq_true rfl, Nat.le_of_ble_eq_true rfl⟩ (by decide +kernel) (fun x5 => ?_)
          refine zs_if_eq (pc := 50) (off := 5) (tgt := 55) C (by decide +kernel) (by decide) ?_ ?_
          · refine zs_aload_n (pc := 55) (k := 0) (i := 0) C (by decide +kernel) rfl rfl ?_
            refine zs_ldcS (pc := 56) (i := 207) (k := 8) C (by decide +kernel) rfl ?_
            refine zs_cvWi (pc := 58) (As := [sT 8]) (st := []) C (fun _ _ _ => rfl) rfl (c_X12_took l g 8 (by decide)) ml_RX12_153 rfl rfl rfl rfl (Nat.le_of_ble_eq_true rfl) ⟨Nat.le_of_ble_eq_true rfl, Nat.le_of_ble_eq_true rfl⟩ ⟨Nat.le_of_ble_eq_true rfl, Nat.le_of_ble_eq_true rfl⟩ (by decide +kernel) (fun x6 => ?_)
            refine zs_jn (pJ := 69) (kJ := 0) (sJ := 0) (fun t7 => []) (fun t7 => [sI t7]) (fun t7 => ?_) (fun J8 hJ8 => ?_)
            · exact zs_retWi (pc := 69) C hr ⟨Nat.le_of_ble_eq_true rfl, Nat.le_of_ble_eq_true rfl⟩ (by decide +kernel)
            · refine zs_if_eq (pc := 61) (off := 7) (tgt := 68) C (by decide +kernel) (by decide) ?_ ?_
              · refine zs_iconst (pc := 68) (n := (-1)) (x := (-1)) C (by decide +kernel) (by decide +kernel) ?_
                exact zs_goj (hJ8 (-1)) trivial
              · refine zs_iconst (pc := 64) (n := 5) (x := 5) C (by decide +kernel) (by decide +kernel) ?_
                refine zs_goto (pc := 65) (off := 4) (tgt := 69) C (by decide +kernel) (by decide) ?_
                exact zs_goj (hJ8 5) trivial
          · refine zs_iconst (pc := 53) (n := 4) (x := 4) C (by decide +kernel) (by decide +kernel) ?_
            exact zs_retWi (pc := 54) C hr ⟨Nat.le_of_ble_eq_true rfl, Nat.le_of_ble_eq_true rfl⟩ (by decide +kernel)
        · refine zs_iconst (pc := 42) (n := 3) (x := 3) C (by decide +kernel) (by decide +kernel) ?_
          exact zs_retWi (pc := 43) C hr ⟨Nat.le_of_ble_eq_true rfl, Nat.le_of_ble_eq_true rfl⟩ (by decide +kernel)
      · refine zs_iconst (pc := 31) (n := 2) (x := 2) C (by decide +kernel) (by decide +kernel) ?_
        exact zs_retWi (pc := 32) C hr ⟨Nat.le_of_ble_eq_true rfl, Nat.le_of_ble_eq_true rfl⟩ (by decide +kernel)
    · refine zs_iconst (pc := 20) (n := 1) (x := 1) C (by decide +kernel) (by decide +kernel) ?_
      exact zs_retWi (pc := 21) C hr ⟨Nat.le_of_ble_eq_true rfl, Nat.le_of_ble_eq_true rfl⟩ (by decide +kernel)
  · refine zs_iconst (pc := 9) (n := 0) (x := 0) C (by decide +kernel) (by decide +kernel) ?_
    exact zs_retWi (pc := 10) C hr ⟨Nat.le_of_ble_eq_true rfl, Nat.le_of_ble_eq_true rfl⟩ (by decide +kernel)
set_option maxRecDepth 20000 in
theorem c_X12_lawWord (l : Launch) (g : GC)  : ConW l g yX12_lawWord cX12_lawWord 1 (some .int) (rmd 9 0 0) [sR 287] (fun mm => fX12_lawWord  mm) := by
  refine zs_ofW (by decide +kernel) (Nat.le_of_ble_eq_true rfl) ?_
  intro p e s m args below meth c C hr
  replace C : Bd g RX12 cX12_lawWord 1 p s m args meth c := C
  unfold fX12_lawWord
  refine zs_aload_n (pc := 0) (k := 0) (i := 0) C (by decide +kernel) rfl rfl ?_
  refine zs_getI (pc := 1) (i := 159) (ci := 12) (k := 17) C (by decide +kernel) fl_RX12_159 rfl rfl (fun x1 => ?_)
  refine zs_iconst (pc := 4) (n := 5) (x := 5) C (by decide +kernel) (by decide +kernel) ?_
  refine zs_jn (pJ := 19) (kJ := 0) (sJ := 0) (fun t2 => []) (fun t2 => [sI t2]) (fun t2 => ?_) (fun J3 hJ3 => ?_)
  · exact zs_retWi (pc := 19) C hr ⟨Nat.le_of_ble_eq_true rfl, Nat.le_of_ble_eq_true rfl⟩ (by decide +kernel)
  · refine zs_icmp_ne (pc := 5) (off := 10) (tgt := 15) C (by decide +kernel) (by decide) ?_ ?_
    · refine zs_aload_n (pc := 15) (k := 0) (i := 0) C (by decide +kernel) rfl rfl ?_
      refine zs_cvWi (pc := 16) (As := []) (st := []) C (fun _ _ _ => rfl) rfl (c_X12_mayWord l g ) ml_RX12_220 rfl rfl rfl rfl (Nat.le_of_ble_eq_true rfl) ⟨Nat.le_of_ble_eq_true rfl, Nat.le_of_ble_eq_true rfl⟩ ⟨Nat.le_of_ble_eq_true rfl, Nat.le_of_ble_eq_true rfl⟩ (by decide +kernel) (fun x4 => ?_)
      exact zs_goj (hJ3 x4) trivial
    · refine zs_aload_n (pc := 8) (k := 0) (i := 0) C (by decide +kernel) rfl rfl ?_
      refine zs_cvWi (pc := 9) (As := []) (st := []) C (fun _ _ _ => rfl) rfl (c_X12_lengthWord l g ) ml_RX12_217 rfl rfl rfl rfl (Nat.le_of_ble_eq_true rfl) ⟨Nat.le_of_ble_eq_true rfl, Nat.le_of_ble_eq_true rfl⟩ ⟨Nat.le_of_ble_eq_true rfl, Nat.le_of_ble_eq_true rfl⟩ (by decide +kernel) (fun x5 => ?_)
      refine zs_goto (pc := 12) (off := 7) (tgt := 19) C (by decide +kernel) (by decide) ?_
      exact zs_goj (hJ3 x5) trivial
set_option maxRecDepth 20000 in
theorem cg_X12_readSum (l : Launch) (g : GC) : ∀ n : Nat, (ConV l g yX12_readSum cX12_readSum 2 (rmd (10 + n) 0 0) [sR 287] (fun mm => gX12_readSum n 0  mm)) ∧ (ConV l g yX12_readTerm cX12_readTerm 1 (rmd (10 + n) 0 0) [sR 287] (fun mm => gX12_readSum n 1  mm)) ∧ (ConV l g yX12_readAtom cX12_readAtom 3 (rmd (10 + n) 0 0) [sR 287] (fun mm => gX12_readSum n 2  mm)) := by
  intro n
  induction n with
  | zero => exact ⟨(fun _ _ h => by cases h), (fun _ _ h => by cases h), (fun _ _ h => by cases h)⟩
  | succ n ih =>
    refine ⟨?_, ?_, ?_⟩
    · show ConV l g yX12_readSum cX12_readSum 2 (rmd (10 + (n + 1)) 0 0) [sR 287] (fun mm => fX12_readSum_F (gX12_readSum n)  mm)
      refine zs_ofV (by decide +kernel) (Nat.le_of_ble_eq_true rfl) ?_
      intro p e s m args below meth c C hr
      replace C : Bd g RX12 cX12_readSum 2 p s m args meth c := C
      unfold fX12_readSum_F
      refine zs_aload_n (pc := 0) (k := 0) (i := 0) C (by decide +kernel) rfl rfl ?_
      refine zs_cvVv (pc := 1) (As := []) (st := []) C (fun _ _ _ => rfl) ih.2.1 ml_RX12_195 rfl rfl rfl rfl (Nat.le_of_ble_eq_true rfl) (by constructor <;> simp only [rmd] <;> omega) (by constructor <;> simp only [rmd] <;> omega) (by decide +kernel) ?_
      refine zs_sub (ls' := [(0, sR 287)]) ⟨rfl, trivial⟩ ?_
      refine zs_lp (pc := 4) (fun (t1 : Unit) => [(0, sR 287)]) (fun _ => []) (fun K2 hK2 t1 => ?_) BIG ()
      refine zs_aload_n (pc := 4) (k := 0) (i := 0) C (by decide +kernel) rfl rfl ?_
      refine zs_bipush (pc := 5) (n := 43) (x := 43) C (by decide +kernel) (by decide +kernel) ?_
      refine zs_cvRi (pc := 7) (As := [sI 43]) (st := []) C rfl (c_X12_isSign l g 43) ml_RX12_186 rfl rfl rfl rfl (Nat.le_of_ble_eq_true rfl) (by constructor <;> simp only [rmd] <;> omega) (by constructor <;> simp only [rmd] <;> omega) (by decide +kernel) (fun x3 => ?_)
      refine zs_jn (pJ := 22) (kJ := 0) (sJ := 0) (fun t4 => [(0, sR 287)]) (fun t4 => []) (fun t4 => ?_) (fun J5 hJ5 => ?_)
      · refine zs_aload_n (pc := 22) (k := 0) (i := 0) C (by decide +kernel) rfl rfl ?_
        refine zs_getI (pc := 23) (i := 103) (ci := 12) (k := 10) C (by decide +kernel) fl_RX12_103 rfl rfl (fun x6 => ?_)
        refine zs_istore_n (pc := 26) (k := 1) (i := 1) (ls' := [(1, sI x6), (0, sR 287)]) C (by decide +kernel) rfl (Nat.le_of_ble_eq_true rfl) rfl ?_
        refine zs_aload_n (pc := 27) (k := 0) (i := 0) C (by decide +kernel) rfl rfl ?_
        refine zs_cvVv (pc := 28) (As := []) (st := []) C (fun _ _ _ => rfl) (c_X12_readsOn l g ) ml_RX12_142 rfl rfl rfl rfl (Nat.le_of_ble_eq_true rfl) (by constructor <;> simp only [rmd] <;> omega) (by constructor <;> simp only [rmd] <;> omega) (by decide +kernel) ?_
        refine zs_aload_n (pc := 31) (k := 0) (i := 0) C (by decide +kernel) rfl rfl ?_
        refine zs_cvVv (pc := 32) (As := []) (st := []) C (fun _ _ _ => rfl) ih.2.1 ml_RX12_195 rfl rfl rfl rfl (Nat.le_of_ble_eq_true rfl) (by constructor <;> simp only [rmd] <;> omega) (by constructor <;> simp only [rmd] <;> omega) (by decide +kernel) ?_
        refine zs_aload_n (pc := 35) (k := 0) (i := 0) C (by decide +kernel) rfl rfl ?_
        refine zs_iload_n (pc := 36) (k := 1) (i := 1) C (by decide +kernel) rfl rfl ?_
        refine zs_bipush (pc := 37) (n := 43) (x := 43) C (by decide +kernel) (by decide +kernel) ?_
        refine zs_jn (pJ := 49) (kJ := 0) (sJ := 0) (fun t7 => [(0, sR 287)]) (fun t7 => [sI t7, sR 287]) (fun t7 => ?_) (fun J8 hJ8 => ?_)
        · refine zs_cvVv (pc := 49) (As := [sI t7]) (st := []) C (fun _ _ _ => rfl) (c_X12_laysStep l g t7) ml_RX12_173 rfl rfl rfl rfl (Nat.le_of_ble_eq_true rfl) (by constructor <;> simp only [rmd] <;> omega) (by constructor <;> simp only [rmd] <;> omega) (by decide +kernel) ?_
          refine zs_goto (pc := 52) (off := (-48)) (tgt := 4) C (by decide +kernel) (by decide) ?_
          exact zs_goj (hK2 ()) ⟨rfl, trivial⟩
        · refine zs_icmp_ne (pc := 39) (off := 8) (tgt := 47) C (by decide +kernel) (by decide) ?_ ?_
          · refine zs_bipush (pc := 47) (n := 11) (x := 11) C (by decide +kernel) (by decide +kernel) ?_
            exact zs_goj (hJ8 11) ⟨rfl, trivial⟩
          · refine zs_bipush (pc := 42) (n := 10) (x := 10) C (by decide +kernel) (by decide +kernel) ?_
            refine zs_goto (pc := 44) (off := 5) (tgt := 49) C (by decide +kernel) (by decide) ?_
            exact zs_goj (hJ8 10) ⟨rfl, trivial⟩
      · refine zs_if_ne (pc := 10) (off := 12) (tgt := 22) C (by decide +kernel) (by decide) ?_ ?_
        · exact zs_goj (hJ5 ()) ⟨rfl, trivial⟩
        · refine zs_aload_n (pc := 13) (k := 0) (i := 0) C (by decide +kernel) rfl rfl ?_
          refine zs_bipush (pc := 14) (n := 45) (x := 45) C (by decide +kernel) (by decide +kernel) ?_
          refine zs_cvRi (pc := 16) (As := [sI 45]) (st := []) C rfl (c_X12_isSign l g 45) ml_RX12_186 rfl rfl rfl rfl (Nat.le_of_ble_eq_true rfl) (by constructor <;> simp only [rmd] <;> omega) (by constructor <;> simp only [rmd] <;> omega) (by decide +kernel) (fun x9 => ?_)
          refine zs_if_eq (pc := 19) (off := 36) (tgt := 55) C (by decide +kernel) (by decide) ?_ ?_
          · exact zs_retVv (pc := 55) C hr ⟨Nat.zero_le _, Nat.zero_le _⟩ (by decide +kernel)
          · exact zs_goj (hJ5 ()) ⟨rfl, trivial⟩
    · show ConV l g yX12_readTerm cX12_readTerm 1 (rmd (10 + (n + 1)) 0 0) [sR 287] (fun mm => fX12_readTerm_F (gX12_readSum n)  mm)
      refine zs_ofV (by decide +kernel) (Nat.le_of_ble_eq_true rfl) ?_
      intro p e s m args below meth c C hr
      replace C : Bd g RX12 cX12_readTerm 1 p s m args meth c := C
      unfold fX12_readTerm_F
      refine zs_aload_n (pc := 0) (k := 0) (i := 0) C (by decide +kernel) rfl rfl ?_
      refine zs_cvVv (pc := 1) (As := []) (st := []) C (fun _ _ _ => rfl) ih.2.2 ml_RX12_198 rfl rfl rfl rfl (Nat.le_of_ble_eq_true rfl) (by constructor <;> simp only [rmd] <;> omega) (by constructor <;> simp only [rmd] <;> omega) (by decide +kernel) ?_
      refine zs_sub (ls' := [(0, sR 287)]) ⟨rfl, trivial⟩ ?_
      refine zs_lp (pc := 4) (fun (t1 : Unit) => [(0, sR 287)]) (fun _ => []) (fun K2 hK2 t1 => ?_) BIG ()
      refine zs_aload_n (pc := 4) (k := 0) (i := 0) C (by decide +kernel) rfl rfl ?_
      refine zs_bipush (pc := 5) (n := 42) (x := 42) C (by decide +kernel) (by decide +kernel) ?_
      refine zs_cvRi (pc := 7) (As := [sI 42]) (st := []) C rfl (c_X12_isSign l g 42) ml_RX12_186 rfl rfl rfl rfl (Nat.le_of_ble_eq_true rfl) (by constructor <;> simp only [rmd] <;> omega) (by constructor <;> simp only [rmd] <;> omega) (by decide +kernel) (fun x3 => ?_)
      refine zs_if_eq (pc := 10) (off := 20) (tgt := 30) C (by decide +kernel) (by decide) ?_ ?_
      · exact zs_retVv (pc := 30) C hr ⟨Nat.zero_le _, Nat.zero_le _⟩ (by decide +kernel)
      · refine zs_aload_n (pc := 13) (k := 0) (i := 0) C (by decide +kernel) rfl rfl ?_
        refine zs_cvVv (pc := 14) (As := []) (st := []) C (fun _ _ _ => rfl) (c_X12_readsOn l g ) ml_RX12_142 rfl rfl rfl rfl (Nat.le_of_ble_eq_true rfl) (by constructor <;> simp only [rmd] <;> omega) (by constructor <;> simp only [rmd] <;> omega) (by decide +kernel) ?_
        refine zs_aload_n (pc := 17) (k := 0) (i := 0) C (by decide +kernel) rfl rfl ?_
        refine zs_cvVv (pc := 18) (As := []) (st := []) C (fun _ _ _ => rfl) ih.2.2 ml_RX12_198 rfl rfl rfl rfl (Nat.le_of_ble_eq_true rfl) (by constructor <;> simp only [rmd] <;> omega) (by constructor <;> simp only [rmd] <;> omega) (by decide +kernel) ?_
        refine zs_aload_n (pc := 21) (k := 0) (i := 0) C (by decide +kernel) rfl rfl ?_
        refine zs_bipush (pc := 22) (n := 12) (x := 12) C (by decide +kernel) (by decide +kernel) ?_
        refine zs_cvVv (pc := 24) (As := [sI 12]) (st := []) C (fun _ _ _ => rfl) (c_X12_laysStep l g 12) ml_RX12_173 rfl rfl rfl rfl (Nat.le_of_ble_eq_true rfl) (by constructor <;> simp only [rmd] <;> omega) (by constructor <;> simp only [rmd] <;> omega) (by decide +kernel) ?_
        refine zs_goto (pc := 27) (off := (-23)) (tgt := 4) C (by decide +kernel) (by decide) ?_
        exact zs_goj (hK2 ()) ⟨rfl, trivial⟩
    · show ConV l g yX12_readAtom cX12_readAtom 3 (rmd (10 + (n + 1)) 0 0) [sR 287] (fun mm => fX12_readAtom_F (gX12_readSum n)  mm)
      refine zs_ofV (by decide +kernel) (Nat.le_of_ble_eq_true rfl) ?_
      intro p e s m args below meth c C hr
      replace C : Bd g RX12 cX12_readAtom 3 p s m args meth c := C
      unfold fX12_readAtom_F
      refine zs_aload_n (pc := 0) (k := 0) (i := 0) C (by decide +kernel) rfl rfl ?_
      refine zs_getI (pc := 1) (i := 123) (ci := 12) (k := 12) C (by decide +kernel) fl_RX12_123 rfl rfl (fun x1 => ?_)
      refine zs_if_eq (pc := 4) (off := 4) (tgt := 8) C (by decide +kernel) (by decide) ?_ ?_
      · refine zs_aload_n (pc := 8) (k := 0) (i := 0) C (by decide +kernel) rfl rfl ?_
        refine zs_cvWi (pc := 9) (As := []) (st := []) C (fun _ _ _ => rfl) rfl (c_X12_lawWord l g ) ml_RX12_223 rfl rfl rfl rfl (Nat.le_of_ble_eq_true rfl) (by constructor <;> simp only [rmd] <;> omega) (by constructor <;> simp only [rmd] <;> omega) (by decide +kernel) (fun x2 => ?_)
        refine zs_istore_n (pc := 12) (k := 1) (i := 1) (ls' := [(1, sI x2), (0, sR 287)]) C (by decide +kernel) rfl (Nat.le_of_ble_eq_true rfl) rfl ?_
        refine zs_iload_n (pc := 13) (k := 1) (i := 1) C (by decide +kernel) rfl rfl ?_
        refine zs_iconst (pc := 14) (n := (-1)) (x := (-1)) C (by decide +kernel) (by decide +kernel) ?_
        refine zs_jn (pJ := 83) (kJ := 0) (sJ := 0) (fun t3 => []) (fun t3 => []) (fun t3 => ?_) (fun J4 hJ4 => ?_)
        · exact zs_retVv (pc := 83) C hr ⟨Nat.zero_le _, Nat.zero_le _⟩ (by decide +kernel)
        · refine zs_icmp_eq (pc := 15) (off := 14) (tgt := 29) C (by decide +kernel) (by decide) ?_ ?_
          · refine zs_aload_n (pc := 29) (k := 0) (i := 0) C (by decide +kernel) rfl rfl ?_
            refine zs_bipush (pc := 30) (n := 40) (x := 40) C (by decide +kernel) (by decide +kernel) ?_
            refine zs_cvRi (pc := 32) (As := [sI 40]) (st := []) C rfl (c_X12_isSign l g 40) ml_RX12_186 rfl rfl rfl rfl (Nat.le_of_ble_eq_true rfl) (by constructor <;> simp only [rmd] <;> omega) (by constructor <;> simp only [rmd] <;> omega) (by decide +kernel) (fun x5 => ?_)
            refine zs_if_eq (pc := 35) (off := 30) (tgt := 65) C (by decide +kernel) (by decide) ?_ ?_
            · refine zs_aload_n (pc := 65) (k := 0) (i := 0) C (by decide +kernel) rfl rfl ?_
              refine zs_iconst (pc := 66) (n := 0) (x := 0) C (by decide +kernel) (by decide +kernel) ?_
              refine zs_sipush (pc := 67) (n := 999) (x := 999) C (by decide +kernel) (by decide +kernel) ?_
              refine zs_cvWi (pc := 70) (As := [sI 0, sI 999]) (st := []) C (fun _ _ _ => rfl) rfl (c_X12_number l g 0 999) ml_RX12_226 rfl rfl rfl rfl (Nat.le_of_ble_eq_true rfl) (by constructor <;> simp only [rmd] <;> omega) (by constructor <;> simp only [rmd] <;> omega) (by decide +kernel) (fun x6 => ?_)
              refine zs_istore_n (pc := 73) (k := 2) (i := 2) (ls' := [(2, sI x6), (1, sI x2), (0, sR 287)]) C (by decide +kernel) rfl (Nat.le_of_ble_eq_true rfl) rfl ?_
              refine zs_aload_n (pc := 74) (k := 0) (i := 0) C (by decide +kernel) rfl rfl ?_
              refine zs_sipush (pc := 75) (n := 1000) (x := 1000) C (by decide +kernel) (by decide +kernel) ?_
              refine zs_iload_n (pc := 78) (k := 2) (i := 2) C (by decide +kernel) rfl rfl ?_
              refine zs_iadd (pc := 79) C (by decide +kernel) ?_
              refine zs_cvVv (pc := 80) (As := [sI (w32 (1000 + x6))]) (st := []) C (fun _ _ _ => rfl) (c_X12_laysStep l g (w32 (1000 + x6))) ml_RX12_173 rfl rfl rfl rfl (Nat.le_of_ble_eq_true rfl) (by constructor <;> simp only [rmd] <;> omega) (by constructor <;> simp only [rmd] <;> omega) (by decide +kernel) ?_
              exact zs_goj (hJ4 ()) trivial
            · refine zs_aload_n (pc := 38) (k := 0) (i := 0) C (by decide +kernel) rfl rfl ?_
              refine zs_cvVv (pc := 39) (As := []) (st := []) C (fun _ _ _ => rfl) (c_X12_goesIn l g ) ml_RX12_183 rfl rfl rfl rfl (Nat.le_of_ble_eq_true rfl) (by constructor <;> simp only [rmd] <;> omega) (by constructor <;> simp only [rmd] <;> omega) (by decide +kernel) ?_
              refine zs_aload_n (pc := 42) (k := 0) (i := 0) C (by decide +kernel) rfl rfl ?_
              refine zs_cvVv (pc := 43) (As := []) (st := []) C (fun _ _ _ => rfl) ih.1 ml_RX12_192 rfl rfl rfl rfl (Nat.le_of_ble_eq_true rfl) (by constructor <;> simp only [rmd] <;> omega) (by constructor <;> simp only [rmd] <;> omega) (by decide +kernel) ?_
              refine zs_aload_n (pc := 46) (k := 0) (i := 0) C (by decide +kernel) rfl rfl ?_
              refine zs_bipush (pc := 47) (n := 41) (x := 41) C (by decide +kernel) (by decide +kernel) ?_
              refine zs_cvVv (pc := 49) (As := [sI 41]) (st := []) C (fun _ _ _ => rfl) (c_X12_mustSign l g 41) ml_RX12_162 rfl rfl rfl rfl (Nat.le_of_ble_eq_true rfl) (by constructor <;> simp only [rmd] <;> omega) (by constructor <;> simp only [rmd] <;> omega) (by decide +kernel) ?_
              refine zs_aload_n (pc := 52) (k := 0) (i := 0) C (by decide +kernel) rfl rfl ?_
              refine zs_dup (pc := 53) C rfl (by decide +kernel) ?_
              refine zs_getI (pc := 54) (i := 165) (ci := 12) (k := 16) C (by decide +kernel) fl_RX12_165 rfl rfl (fun x7 => ?_)
              refine zs_iconst (pc := 57) (n := 1) (x := 1) C (by decide +kernel) (by decide +kernel) ?_
              refine zs_isub (pc := 58) C (by decide +kernel) ?_
              refine zs_putI (pc := 59) (i := 165) (ci := 12) (k := 16) C (fun _ _ _ => rfl) (by decide +kernel) fl_RX12_165 fw_12_16 rfl rfl ?_
              refine zs_goto (pc := 62) (off := 21) (tgt := 83) C (by decide +kernel) (by decide) ?_
              exact zs_goj (hJ4 ()) trivial
          · refine zs_aload_n (pc := 18) (k := 0) (i := 0) C (by decide +kernel) rfl rfl ?_
            refine zs_bipush (pc := 19) (n := 100) (x := 100) C (by decide +kernel) (by decide +kernel) ?_
            refine zs_iload_n (pc := 21) (k := 1) (i := 1) C (by decide +kernel) rfl rfl ?_
            refine zs_iadd (pc := 22) C (by decide +kernel) ?_
            refine zs_cvVv (pc := 23) (As := [sI (w32 (100 + x2))]) (st := []) C (fun _ _ _ => rfl) (c_X12_laysStep l g (w32 (100 + x2))) ml_RX12_173 rfl rfl rfl rfl (Nat.le_of_ble_eq_true rfl) (by constructor <;> simp only [rmd] <;> omega) (by constructor <;> simp only [rmd] <;> omega) (by decide +kernel) ?_
            refine zs_goto (pc := 26) (off := 57) (tgt := 83) C (by decide +kernel) (by decide) ?_
            exact zs_goj (hJ4 ()) trivial
      · exact zs_retVv (pc := 7) C hr ⟨Nat.zero_le _, Nat.zero_le _⟩ (by decide +kernel)
set_option maxRecDepth 20000 in
theorem cg_X12_readTruth (l : Launch) (g : GC) : ∀ n : Nat, (ConV l g yX12_readTruth cX12_readTruth 1 (rmd (41 + n) 0 0) [sR 287] (fun mm => gX12_readTruth n 0  mm)) ∧ (ConV l g yX12_readBoth cX12_readBoth 1 (rmd (41 + n) 0 0) [sR 287] (fun mm => gX12_readTruth n 1  mm)) ∧ (ConV l g yX12_readUnit cX12_readUnit 2 (rmd (41 + n) 0 0) [sR 287] (fun mm => gX12_readTruth n 2  mm)) := by
  intro n
  induction n with
  | zero => exact ⟨(fun _ _ h => by cases h), (fun _ _ h => by cases h), (fun _ _ h => by cases h)⟩
  | succ n ih =>
    refine ⟨?_, ?_, ?_⟩
    · show ConV l g yX12_readTruth cX12_readTruth 1 (rmd (41 + (n + 1)) 0 0) [sR 287] (fun mm => fX12_readTruth_F (gX12_readTruth n)  mm)
      refine zs_ofV (by decide +kernel) (Nat.le_of_ble_eq_true rfl) ?_
      intro p e s m args below meth c C hr
      replace C : Bd g RX12 cX12_readTruth 1 p s m args meth c := C
      unfold fX12_readTruth_F
      refine zs_aload_n (pc := 0) (k := 0) (i := 0) C (by decide +kernel) rfl rfl ?_
      refine zs_cvVv (pc := 1) (As := []) (st := []) C (fun _ _ _ => rfl) ih.2.1 ml_RX12_168 rfl rfl rfl rfl (Nat.le_of_ble_eq_true rfl) (by constructor <;> simp only [rmd] <;> omega) (by constructor <;> simp only [rmd] <;> omega) (by decide +kernel) ?_
      refine zs_sub (ls' := [(0, sR 287)]) ⟨rfl, trivial⟩ ?_
      refine zs_lp (pc := 4) (fun (t1 : Unit) => [(0, sR 287)]) (fun _ => []) (fun K2 hK2 t1 => ?_) BIG ()
      refine zs_aload_n (pc := 4) (k := 0) (i := 0) C (by decide +kernel) rfl rfl ?_
      refine zs_ldcS (pc := 5) (i := 171) (k := 2) C (by decide +kernel) rfl ?_
      refine zs_cvWi (pc := 7) (As := [sT 2]) (st := []) C (fun _ _ _ => rfl) rfl (c_X12_took l g 2 (by decide)) ml_RX12_153 rfl rfl rfl rfl (Nat.le_of_ble_eq_true rfl) (by constructor <;> simp only [rmd] <;> omega) (by constructor <;> simp only [rmd] <;> omega) (by decide +kernel) (fun x3 => ?_)
      refine zs_if_eq (pc := 10) (off := 16) (tgt := 26) C (by decide +kernel) (by decide) ?_ ?_
      · exact zs_retVv (pc := 26) C hr ⟨Nat.zero_le _, Nat.zero_le _⟩ (by decide +kernel)
      · refine zs_aload_n (pc := 13) (k := 0) (i := 0) C (by decide +kernel) rfl rfl ?_
        refine zs_cvVv (pc := 14) (As := []) (st := []) C (fun _ _ _ => rfl) ih.2.1 ml_RX12_168 rfl rfl rfl rfl (Nat.le_of_ble_eq_true rfl) (by constructor <;> simp only [rmd] <;> omega) (by constructor <;> simp only [rmd] <;> omega) (by decide +kernel) ?_
        refine zs_aload_n (pc := 17) (k := 0) (i := 0) C (by decide +kernel) rfl rfl ?_
        refine zs_bipush (pc := 18) (n := 17) (x := 17) C (by decide +kernel) (by decide +kernel) ?_
        refine zs_cvVv (pc := 20) (As := [sI 17]) (st := []) C (fun _ _ _ => rfl) (c_X12_laysStep l g 17) ml_RX12_173 rfl rfl rfl rfl (Nat.le_of_ble_eq_true rfl) (by constructor <;> simp only [rmd] <;> omega) (by constructor <;> simp only [rmd] <;> omega) (by decide +kernel) ?_
        refine zs_goto (pc := 23) (off := (-19)) (tgt := 4) C (by decide +kernel) (by decide) ?_
        exact zs_goj (hK2 ()) ⟨rfl, trivial⟩
    · show ConV l g yX12_readBoth cX12_readBoth 1 (rmd (41 + (n + 1)) 0 0) [sR 287] (fun mm => fX12_readBoth_F (gX12_readTruth n)  mm)
      refine zs_ofV (by decide +kernel) (Nat.le_of_ble_eq_true rfl) ?_
      intro p e s m args below meth c C hr
      replace C : Bd g RX12 cX12_readBoth 1 p s m args meth c := C
      unfold fX12_readBoth_F
      refine zs_aload_n (pc := 0) (k := 0) (i := 0) C (by decide +kernel) rfl rfl ?_
      refine zs_cvVv (pc := 1) (As := []) (st := []) C (fun _ _ _ => rfl) ih.2.2 ml_RX12_176 rfl rfl rfl rfl (Nat.le_of_ble_eq_true rfl) (by constructor <;> simp only [rmd] <;> omega) (by constructor <;> simp only [rmd] <;> omega) (by decide +kernel) ?_
      refine zs_sub (ls' := [(0, sR 287)]) ⟨rfl, trivial⟩ ?_
      refine zs_lp (pc := 4) (fun (t1 : Unit) => [(0, sR 287)]) (fun _ => []) (fun K2 hK2 t1 => ?_) BIG ()
      refine zs_aload_n (pc := 4) (k := 0) (i := 0) C (by decide +kernel) rfl rfl ?_
      refine zs_ldcS (pc := 5) (i := 179) (k := 3) C (by decide +kernel) rfl ?_
      refine zs_cvWi (pc := 7) (As := [sT 3]) (st := []) C (fun _ _ _ => rfl) rfl (c_X12_took l g 3 (by decide)) ml_RX12_153 rfl rfl rfl rfl (Nat.le_of_ble_eq_true rfl) (by constructor <;> simp only [rmd] <;> omega) (by constructor <;> simp only [rmd] <;> omega) (by decide +kernel) (fun x3 => ?_)
      refine zs_if_eq (pc := 10) (off := 16) (tgt := 26) C (by decide +kernel) (by decide) ?_ ?_
      · exact zs_retVv (pc := 26) C hr ⟨Nat.zero_le _, Nat.zero_le _⟩ (by decide +kernel)
      · refine zs_aload_n (pc := 13) (k := 0) (i := 0) C (by decide +kernel) rfl rfl ?_
        refine zs_cvVv (pc := 14) (As := []) (st := []) C (fun _ _ _ => rfl) ih.2.2 ml_RX12_176 rfl rfl rfl rfl (Nat.le_of_ble_eq_true rfl) (by constructor <;> simp only [rmd] <;> omega) (by constructor <;> simp only [rmd] <;> omega) (by decide +kernel) ?_
        refine zs_aload_n (pc := 17) (k := 0) (i := 0) C (by decide +kernel) rfl rfl ?_
        refine zs_bipush (pc := 18) (n := 16) (x := 16) C (by decide +kernel) (by decide +kernel) ?_
        refine zs_cvVv (pc := 20) (As := [sI 16]) (st := []) C (fun _ _ _ => rfl) (c_X12_laysStep l g 16) ml_RX12_173 rfl rfl rfl rfl (Nat.le_of_ble_eq_true rfl) (by constructor <;> simp only [rmd] <;> omega) (by constructor <;> simp only [rmd] <;> omega) (by decide +kernel) ?_
        refine zs_goto (pc := 23) (off := (-19)) (tgt := 4) C (by decide +kernel) (by decide) ?_
        exact zs_goj (hK2 ()) ⟨rfl, trivial⟩
    · show ConV l g yX12_readUnit cX12_readUnit 2 (rmd (41 + (n + 1)) 0 0) [sR 287] (fun mm => fX12_readUnit_F (gX12_readTruth n)  mm)
      refine zs_ofV (by decide +kernel) (Nat.le_of_ble_eq_true rfl) ?_
      intro p e s m args below meth c C hr
      replace C : Bd g RX12 cX12_readUnit 2 p s m args meth c := C
      unfold fX12_readUnit_F
      refine zs_aload_n (pc := 0) (k := 0) (i := 0) C (by decide +kernel) rfl rfl ?_
      refine zs_getI (pc := 1) (i := 123) (ci := 12) (k := 12) C (by decide +kernel) fl_RX12_123 rfl rfl (fun x1 => ?_)
      refine zs_if_eq (pc := 4) (off := 4) (tgt := 8) C (by decide +kernel) (by decide) ?_ ?_
      · refine zs_aload_n (pc := 8) (k := 0) (i := 0) C (by decide +kernel) rfl rfl ?_
        refine zs_ldcS (pc := 9) (i := 181) (k := 4) C (by decide +kernel) rfl ?_
        refine zs_cvRi (pc := 11) (As := [sT 4]) (st := []) C rfl (c_X12_isWord l g 4 (by decide)) ml_RX12_138 rfl rfl rfl rfl (Nat.le_of_ble_eq_true rfl) (by constructor <;> simp only [rmd] <;> omega) (by constructor <;> simp only [rmd] <;> omega) (by decide +kernel) (fun x2 => ?_)
        refine zs_jn (pJ := 155) (kJ := 0) (sJ := 0) (fun t3 => []) (fun t3 => []) (fun t3 => ?_) (fun J4 hJ4 => ?_)
        · exact zs_retVv (pc := 155) C hr ⟨Nat.zero_le _, Nat.zero_le _⟩ (by decide +kernel)
        · refine zs_if_eq (pc := 14) (off := 30) (tgt := 44) C (by decide +kernel) (by decide) ?_ ?_
          · refine zs_aload_n (pc := 44) (k := 0) (i := 0) C (by decide +kernel) rfl rfl ?_
            refine zs_bipush (pc := 45) (n := 91) (x := 91) C (by decide +kernel) (by decide +kernel) ?_
            refine zs_cvRi (pc := 47) (As := [sI 91]) (st := []) C rfl (c_X12_isSign l g 91) ml_RX12_186 rfl rfl rfl rfl (Nat.le_of_ble_eq_true rfl) (by constructor <;> simp only [rmd] <;> omega) (by constructor <;> simp only [rmd] <;> omega) (by decide +kernel) (fun x5 => ?_)
            refine zs_if_eq (pc := 50) (off := 30) (tgt := 80) C (by decide +kernel) (by decide) ?_ ?_
            · refine zs_aload_n (pc := 80) (k := 0) (i := 0) C (by decide +kernel) rfl rfl ?_
              refine zs_cvVv (pc := 81) (As := []) (st := []) C (fun _ _ _ => rfl) ((cg_X12_readSum l g 30).1 ) ml_RX12_192 rfl rfl rfl rfl (Nat.le_of_ble_eq_true rfl) (by constructor <;> simp only [rmd] <;> omega) (by constructor <;> simp only [rmd] <;> omega) (by decide +kernel) ?_
              refine zs_aload_n (pc := 84) (k := 0) (i := 0) C (by decide +kernel) rfl rfl ?_
              refine zs_getI (pc := 85) (i := 103) (ci := 12) (k := 10) C (by decide +kernel) fl_RX12_103 rfl rfl (fun x6 => ?_)
              refine zs_istore_n (pc := 88) (k := 1) (i := 1) (ls' := [(1, sI x6), (0, sR 287)]) C (by decide +kernel) rfl (Nat.le_of_ble_eq_true rfl) rfl ?_
              refine zs_iload_n (pc := 89) (k := 1) (i := 1) C (by decide +kernel) rfl rfl ?_
              refine zs_bipush (pc := 90) (n := 61) (x := 61) C (by decide +kernel) (by decide +kernel) ?_
              refine zs_jn (pJ := 112) (kJ := 0) (sJ := 0) (fun t7 => [(0, sR 287), (1, sI x6)]) (fun t7 => []) (fun t7 => ?_) (fun J8 hJ8 => ?_)
              · refine zs_aload_n (pc := 112) (k := 0) (i := 0) C (by decide +kernel) rfl rfl ?_
                refine zs_getI (pc := 113) (i := 123) (ci := 12) (k := 12) C (by decide +kernel) fl_RX12_123 rfl rfl (fun x9 => ?_)
                refine zs_jn (pJ := 123) (kJ := 0) (sJ := 0) (fun t10 => [(0, sR 287), (1, sI x6)]) (fun t10 => []) (fun t10 => ?_) (fun J11 hJ11 => ?_)
                · refine zs_aload_n (pc := 123) (k := 0) (i := 0) C (by decide +kernel) rfl rfl ?_
                  refine zs_cvVv (pc := 124) (As := []) (st := []) C (fun _ _ _ => rfl) ((cg_X12_readSum l g 30).1 ) ml_RX12_192 rfl rfl rfl rfl (Nat.le_of_ble_eq_true rfl) (by constructor <;> simp only [rmd] <;> omega) (by constructor <;> simp only [rmd] <;> omega) (by decide +kernel) ?_
                  refine zs_aload_n (pc := 127) (k := 0) (i := 0) C (by decide +kernel) rfl rfl ?_
                  refine zs_iload_n (pc := 128) (k := 1) (i := 1) C (by decide +kernel) rfl rfl ?_
                  refine zs_bipush (pc := 129) (n := 61) (x := 61) C (by decide +kernel) (by decide +kernel) ?_
                  refine zs_jn (pJ := 152) (kJ := 0) (sJ := 0) (fun t12 => []) (fun t12 => [sI t12, sR 287]) (fun t12 => ?_) (fun J13 hJ13 => ?_)
                  · refine zs_cvVv (pc := 152) (As := [sI t12]) (st := []) C (fun _ _ _ => rfl) (c_X12_laysStep l g t12) ml_RX12_173 rfl rfl rfl rfl (Nat.le_of_ble_eq_true rfl) (by constructor <;> simp only [rmd] <;> omega) (by constructor <;> simp only [rmd] <;> omega) (by decide +kernel) ?_
                    exact zs_goj (hJ4 ()) trivial
                  · refine zs_icmp_ne (pc := 131) (off := 8) (tgt := 139) C (by decide +kernel) (by decide) ?_ ?_
                    · refine zs_iload_n (pc := 139) (k := 1) (i := 1) C (by decide +kernel) rfl rfl ?_
                      refine zs_bipush (pc := 140) (n := 60) (x := 60) C (by decide +kernel) (by decide +kernel) ?_
                      refine zs_icmp_ne (pc := 142) (off := 8) (tgt := 150) C (by decide +kernel) (by decide) ?_ ?_
                      · refine zs_bipush (pc := 150) (n := 15) (x := 15) C (by decide +kernel) (by decide +kernel) ?_
                        exact zs_goj (hJ13 15) trivial
                      · refine zs_bipush (pc := 145) (n := 14) (x := 14) C (by decide +kernel) (by decide +kernel) ?_
                        refine zs_goto (pc := 147) (off := 5) (tgt := 152) C (by decide +kernel) (by decide) ?_
                        exact zs_goj (hJ13 14) trivial
                    · refine zs_bipush (pc := 134) (n := 13) (x := 13) C (by decide +kernel) (by decide +kernel) ?_
                      refine zs_goto (pc := 136) (off := 16) (tgt := 152) C (by decide +kernel) (by decide) ?_
                      exact zs_goj (hJ13 13) trivial
                · refine zs_if_ne (pc := 116) (off := 7) (tgt := 123) C (by decide +kernel) (by decide) ?_ ?_
                  · exact zs_goj (hJ11 ()) ⟨rfl, rfl, trivial⟩
                  · refine zs_aload_n (pc := 119) (k := 0) (i := 0) C (by decide +kernel) rfl rfl ?_
                    refine zs_cvVv (pc := 120) (As := []) (st := []) C (fun _ _ _ => rfl) (c_X12_readsOn l g ) ml_RX12_142 rfl rfl rfl rfl (Nat.le_of_ble_eq_true rfl) (by constructor <;> simp only [rmd] <;> omega) (by constructor <;> simp only [rmd] <;> omega) (by decide +kernel) ?_
                    exact zs_goj (hJ11 ()) ⟨rfl, rfl, trivial⟩
              · refine zs_icmp_eq (pc := 92) (off := 20) (tgt := 112) C (by decide +kernel) (by decide) ?_ ?_
                · exact zs_goj (hJ8 ()) ⟨rfl, rfl, trivial⟩
                · refine zs_iload_n (pc := 95) (k := 1) (i := 1) C (by decide +kernel) rfl rfl ?_
                  refine zs_bipush (pc := 96) (n := 60) (x := 60) C (by decide +kernel) (by decide +kernel) ?_
                  refine zs_icmp_eq (pc := 98) (off := 14) (tgt := 112) C (by decide +kernel) (by decide) ?_ ?_
                  · exact zs_goj (hJ8 ()) ⟨rfl, rfl, trivial⟩
                  · refine zs_iload_n (pc := 101) (k := 1) (i := 1) C (by decide +kernel) rfl rfl ?_
                    refine zs_bipush (pc := 102) (n := 62) (x := 62) C (by decide +kernel) (by decide +kernel) ?_
                    refine zs_icmp_eq (pc := 104) (off := 8) (tgt := 112) C (by decide +kernel) (by decide) ?_ ?_
                    · exact zs_goj (hJ8 ()) ⟨rfl, rfl, trivial⟩
                    · refine zs_aload_n (pc := 107) (k := 0) (i := 0) C (by decide +kernel) rfl rfl ?_
                      refine zs_iconst (pc := 108) (n := 2) (x := 2) C (by decide +kernel) (by decide +kernel) ?_
                      refine zs_cvVv (pc := 109) (As := [sI 2]) (st := []) C (fun _ _ _ => rfl) (c_X12_blames l g 2) ml_RX12_145 rfl rfl rfl rfl (Nat.le_of_ble_eq_true rfl) (by constructor <;> simp only [rmd] <;> omega) (by constructor <;> simp only [rmd] <;> omega) (by decide +kernel) ?_
                      exact zs_goj (hJ8 ()) ⟨rfl, rfl, trivial⟩
            · refine zs_aload_n (pc := 53) (k := 0) (i := 0) C (by decide +kernel) rfl rfl ?_
              refine zs_cvVv (pc := 54) (As := []) (st := []) C (fun _ _ _ => rfl) (c_X12_goesIn l g ) ml_RX12_183 rfl rfl rfl rfl (Nat.le_of_ble_eq_true rfl) (by constructor <;> simp only [rmd] <;> omega) (by constructor <;> simp only [rmd] <;> omega) (by decide +kernel) ?_
              refine zs_aload_n (pc := 57) (k := 0) (i := 0) C (by decide +kernel) rfl rfl ?_
              refine zs_cvVv (pc := 58) (As := []) (st := []) C (fun _ _ _ => rfl) ih.1 ml_RX12_189 rfl rfl rfl rfl (Nat.le_of_ble_eq_true rfl) (by constructor <;> simp only [rmd] <;> omega) (by constructor <;> simp only [rmd] <;> omega) (by decide +kernel) ?_
              refine zs_aload_n (pc := 61) (k := 0) (i := 0) C (by decide +kernel) rfl rfl ?_
              refine zs_bipush (pc := 62) (n := 93) (x := 93) C (by decide +kernel) (by decide +kernel) ?_
              refine zs_cvVv (pc := 64) (As := [sI 93]) (st := []) C (fun _ _ _ => rfl) (c_X12_mustSign l g 93) ml_RX12_162 rfl rfl rfl rfl (Nat.le_of_ble_eq_true rfl) (by constructor <;> simp only [rmd] <;> omega) (by constructor <;> simp only [rmd] <;> omega) (by decide +kernel) ?_
              refine zs_aload_n (pc := 67) (k := 0) (i := 0) C (by decide +kernel) rfl rfl ?_
              refine zs_dup (pc := 68) C rfl (by decide +kernel) ?_
              refine zs_getI (pc := 69) (i := 165) (ci := 12) (k := 16) C (by decide +kernel) fl_RX12_165 rfl rfl (fun x14 => ?_)
              refine zs_iconst (pc := 72) (n := 1) (x := 1) C (by decide +kernel) (by decide +kernel) ?_
              refine zs_isub (pc := 73) C (by decide +kernel) ?_
              refine zs_putI (pc := 74) (i := 165) (ci := 12) (k := 16) C (fun _ _ _ => rfl) (by decide +kernel) fl_RX12_165 fw_12_16 rfl rfl ?_
              refine zs_goto (pc := 77) (off := 78) (tgt := 155) C (by decide +kernel) (by decide) ?_
              exact zs_goj (hJ4 ()) trivial
          · refine zs_aload_n (pc := 17) (k := 0) (i := 0) C (by decide +kernel) rfl rfl ?_
            refine zs_cvVv (pc := 18) (As := []) (st := []) C (fun _ _ _ => rfl) (c_X12_goesIn l g ) ml_RX12_183 rfl rfl rfl rfl (Nat.le_of_ble_eq_true rfl) (by constructor <;> simp only [rmd] <;> omega) (by constructor <;> simp only [rmd] <;> omega) (by decide +kernel) ?_
            refine zs_aload_n (pc := 21) (k := 0) (i := 0) C (by decide +kernel) rfl rfl ?_
            refine zs_cvVv (pc := 22) (As := []) (st := []) C (fun _ _ _ => rfl) ih.2.2 ml_RX12_176 rfl rfl rfl rfl (Nat.le_of_ble_eq_true rfl) (by constructor <;> simp only [rmd] <;> omega) (by constructor <;> simp only [rmd] <;> omega) (by decide +kernel) ?_
            refine zs_aload_n (pc := 25) (k := 0) (i := 0) C (by decide +kernel) rfl rfl ?_
            refine zs_bipush (pc := 26) (n := 18) (x := 18) C (by decide +kernel) (by decide +kernel) ?_
            refine zs_cvVv (pc := 28) (As := [sI 18]) (st := []) C (fun _ _ _ => rfl) (c_X12_laysStep l g 18) ml_RX12_173 rfl rfl rfl rfl (Nat.le_of_ble_eq_true rfl) (by constructor <;> simp only [rmd] <;> omega) (by constructor <;> simp only [rmd] <;> omega) (by decide +kernel) ?_
            refine zs_aload_n (pc := 31) (k := 0) (i := 0) C (by decide +kernel) rfl rfl ?_
            refine zs_dup (pc := 32) C rfl (by decide +kernel) ?_
            refine zs_getI (pc := 33) (i := 165) (ci := 12) (k := 16) C (by decide +kernel) fl_RX12_165 rfl rfl (fun x15 => ?_)
            refine zs_iconst (pc := 36) (n := 1) (x := 1) C (by decide +kernel) (by decide +kernel) ?_
            refine zs_isub (pc := 37) C (by decide +kernel) ?_
            refine zs_putI (pc := 38) (i := 165) (ci := 12) (k := 16) C (fun _ _ _ => rfl) (by decide +kernel) fl_RX12_165 fw_12_16 rfl rfl ?_
            refine zs_goto (pc := 41) (off := 114) (tgt := 155) C (by decide +kernel) (by decide) ?_
            exact zs_goj (hJ4 ()) trivial
      · exact zs_retVv (pc := 7) C hr ⟨Nat.zero_le _, Nat.zero_le _⟩ (by decide +kernel)
set_option maxRecDepth 20000 in
theorem c_X12_begins (l : Launch) (g : GC) (a0 : Int) (a1 : Int) : ConW l g yX12_begins cX12_begins 3 (some .boolean) (rmd 3 0 0) [sR 287, sI a0, sI a1] (fun mm => fX12_begins a0 a1 mm) := by
  refine zs_ofW (by decide +kernel) (Nat.le_of_ble_eq_true rfl) ?_
  intro p e s m args below meth c C hr
  replace C : Bd g RX12 cX12_begins 3 p s m args meth c := C
  unfold fX12_begins
  refine zs_aload_n (pc := 0) (k := 0) (i := 0) C (by decide +kernel) rfl rfl ?_
  refine zs_getR (o' := 289) (pc := 1) (i := 13) (ci := 12) (k := 1) C (by decide +kernel) fl_RX12_13 rfl rfl rfl ?_
  refine zs_iload_n (pc := 4) (k := 1) (i := 1) C (by decide +kernel) rfl rfl ?_
  refine zs_iald (pc := 5) (o := 289) (n := 2005) C (by decide +kernel) rfl (fun hinx1 x1 => ?_)
  refine zs_iload_n (pc := 6) (k := 2) (i := 2) C (by decide +kernel) rfl rfl ?_
  refine zs_jn (pJ := 15) (kJ := 0) (sJ := 0) (fun t2 => [(0, sR 287)]) (fun t2 => []) (fun t2 => ?_) (fun J3 hJ3 => ?_)
  · refine zs_aload_n (pc := 15) (k := 0) (i := 0) C (by decide +kernel) rfl rfl ?_
    refine zs_getI (pc := 16) (i := 123) (ci := 12) (k := 12) C (by decide +kernel) fl_RX12_123 rfl rfl (fun x4 => ?_)
    refine zs_jn (pJ := 26) (kJ := 0) (sJ := 0) (fun t5 => [(0, sR 287)]) (fun t5 => []) (fun t5 => ?_) (fun J6 hJ6 => ?_)
    · refine zs_aload_n (pc := 26) (k := 0) (i := 0) C (by decide +kernel) rfl rfl ?_
      refine zs_getI (pc := 27) (i := 123) (ci := 12) (k := 12) C (by decide +kernel) fl_RX12_123 rfl rfl (fun x7 => ?_)
      refine zs_jn (pJ := 38) (kJ := 0) (sJ := 0) (fun t8 => []) (fun t8 => [sI t8]) (fun t8 => ?_) (fun J9 hJ9 => ?_)
      · refine zs_chk (fun _ hx => ?_)
        exact zs_retWz (pc := 38) C hx hr ⟨Nat.le_of_ble_eq_true rfl, Nat.le_of_ble_eq_true rfl⟩ (by decide +kernel)
      · refine zs_if_ne (pc := 30) (off := 7) (tgt := 37) C (by decide +kernel) (by decide) ?_ ?_
        · refine zs_iconst (pc := 37) (n := 0) (x := 0) C (by decide +kernel) (by decide +kernel) ?_
          exact zs_goj (hJ9 0) trivial
        · refine zs_iconst (pc := 33) (n := 1) (x := 1) C (by decide +kernel) (by decide +kernel) ?_
          refine zs_goto (pc := 34) (off := 4) (tgt := 38) C (by decide +kernel) (by decide) ?_
          exact zs_goj (hJ9 1) trivial
    · refine zs_if_ne (pc := 19) (off := 7) (tgt := 26) C (by decide +kernel) (by decide) ?_ ?_
      · exact zs_goj (hJ6 ()) ⟨rfl, trivial⟩
      · refine zs_aload_n (pc := 22) (k := 0) (i := 0) C (by decide +kernel) rfl rfl ?_
        refine zs_cvVv (pc := 23) (As := []) (st := []) C (fun _ _ _ => rfl) (c_X12_readsOn l g ) ml_RX12_142 rfl rfl rfl rfl (Nat.le_of_ble_eq_true rfl) ⟨Nat.le_of_ble_eq_true rfl, Nat.le_of_ble_eq_true rfl⟩ ⟨Nat.le_of_ble_eq_true rfl, Nat.le_of_ble_eq_true rfl⟩ (by decide +kernel) ?_
        exact zs_goj (hJ6 ()) ⟨rfl, trivial⟩
  · refine zs_icmp_ne (pc := 7) (off := 8) (tgt := 15) C (by decide +kernel) (by decide) ?_ ?_
    · exact zs_goj (hJ3 ()) ⟨rfl, trivial⟩
    · refine zs_aload_n (pc := 10) (k := 0) (i := 0) C (by decide +kernel) rfl rfl ?_
      refine zs_iconst (pc := 11) (n := 4) (x := 4) C (by decide +kernel) (by decide +kernel) ?_
      refine zs_cvVv (pc := 12) (As := [sI 4]) (st := []) C (fun _ _ _ => rfl) (c_X12_blames l g 4) ml_RX12_145 rfl rfl rfl rfl (Nat.le_of_ble_eq_true rfl) ⟨Nat.le_of_ble_eq_true rfl, Nat.le_of_ble_eq_true rfl⟩ ⟨Nat.le_of_ble_eq_true rfl, Nat.le_of_ble_eq_true rfl⟩ (by decide +kernel) ?_
      exact zs_goj (hJ3 ()) ⟨rfl, trivial⟩
set_option maxRecDepth 20000 in
theorem c_X12_placeBut (l : Launch) (g : GC) (a0 : Int) : ConW l g yX12_placeBut cX12_placeBut 4 (some .int) (rmd 4 0 0) [sR 287, sI a0] (fun mm => fX12_placeBut a0 mm) := by
  refine zs_ofW (by decide +kernel) (Nat.le_of_ble_eq_true rfl) ?_
  intro p e s m args below meth c C hr
  replace C : Bd g RX12 cX12_placeBut 4 p s m args meth c := C
  unfold fX12_placeBut
  refine zs_aload_n (pc := 0) (k := 0) (i := 0) C (by decide +kernel) rfl rfl ?_
  refine zs_iconst (pc := 1) (n := 0) (x := 0) C (by decide +kernel) (by decide +kernel) ?_
  refine zs_aload_n (pc := 2) (k := 0) (i := 0) C (by decide +kernel) rfl rfl ?_
  refine zs_getR (o' := 289) (pc := 3) (i := 13) (ci := 12) (k := 1) C (by decide +kernel) fl_RX12_13 rfl rfl rfl ?_
  refine zs_iconst (pc := 6) (n := 1) (x := 1) C (by decide +kernel) (by decide +kernel) ?_
  refine zs_ialdk (pc := 7) (o := 289) (n := 2005) C (by decide) (by decide +kernel) rfl (fun x1 => ?_)
  refine zs_iconst (pc := 8) (n := 1) (x := 1) C (by decide +kernel) (by decide +kernel) ?_
  refine zs_isub (pc := 9) C (by decide +kernel) ?_
  refine zs_cvWi (pc := 10) (As := [sI 0, sI (w32 (x1 - 1))]) (st := []) C (fun _ _ _ => rfl) rfl (c_X12_number l g 0 (w32 (x1 - 1))) ml_RX12_226 rfl rfl rfl rfl (Nat.le_of_ble_eq_true rfl) ⟨Nat.le_of_ble_eq_true rfl, Nat.le_of_ble_eq_true rfl⟩ ⟨Nat.le_of_ble_eq_true rfl, Nat.le_of_ble_eq_true rfl⟩ (by decide +kernel) (fun x2 => ?_)
  refine zs_istore_n (pc := 13) (k := 2) (i := 2) (ls' := [(2, sI x2), (0, sR 287), (1, sI a0)]) C (by decide +kernel) rfl (Nat.le_of_ble_eq_true rfl) rfl ?_
  refine zs_aload_n (pc := 14) (k := 0) (i := 0) C (by decide +kernel) rfl rfl ?_
  refine zs_getI (pc := 15) (i := 123) (ci := 12) (k := 12) C (by decide +kernel) fl_RX12_123 rfl rfl (fun x3 => ?_)
  refine zs_jn (pJ := 67) (kJ := 0) (sJ := 0) (fun t4 => [(0, sR 287), (2, sI x2)]) (fun t4 => []) (fun t4 => ?_) (fun J5 hJ5 => ?_)
  · refine zs_aload_n (pc := 67) (k := 0) (i := 0) C (by decide +kernel) rfl rfl ?_
    refine zs_iconst (pc := 68) (n := 0) (x := 0) C (by decide +kernel) (by decide +kernel) ?_
    refine zs_aload_n (pc := 69) (k := 0) (i := 0) C (by decide +kernel) rfl rfl ?_
    refine zs_getR (o' := 289) (pc := 70) (i := 13) (ci := 12) (k := 1) C (by decide +kernel) fl_RX12_13 rfl rfl rfl ?_
    refine zs_iconst (pc := 73) (n := 2) (x := 2) C (by decide +kernel) (by decide +kernel) ?_
    refine zs_ialdk (pc := 74) (o := 289) (n := 2005) C (by decide) (by decide +kernel) rfl (fun x6 => ?_)
    refine zs_iconst (pc := 75) (n := 1) (x := 1) C (by decide +kernel) (by decide +kernel) ?_
    refine zs_isub (pc := 76) C (by decide +kernel) ?_
    refine zs_cvWi (pc := 77) (As := [sI 0, sI (w32 (x6 - 1))]) (st := []) C (fun _ _ _ => rfl) rfl (c_X12_number l g 0 (w32 (x6 - 1))) ml_RX12_226 rfl rfl rfl rfl (Nat.le_of_ble_eq_true rfl) ⟨Nat.le_of_ble_eq_true rfl, Nat.le_of_ble_eq_true rfl⟩ ⟨Nat.le_of_ble_eq_true rfl, Nat.le_of_ble_eq_true rfl⟩ (by decide +kernel) (fun x7 => ?_)
    refine zs_istore_n (pc := 80) (k := 3) (i := 3) (ls' := [(3, sI x7), (0, sR 287), (2, sI x2)]) C (by decide +kernel) rfl (Nat.le_of_ble_eq_true rfl) rfl ?_
    refine zs_aload_n (pc := 81) (k := 0) (i := 0) C (by decide +kernel) rfl rfl ?_
    refine zs_getR (o' := 289) (pc := 82) (i := 13) (ci := 12) (k := 1) C (by decide +kernel) fl_RX12_13 rfl rfl rfl ?_
    refine zs_iconst (pc := 85) (n := 1) (x := 1) C (by decide +kernel) (by decide +kernel) ?_
    refine zs_ialdk (pc := 86) (o := 289) (n := 2005) C (by decide) (by decide +kernel) rfl (fun x8 => ?_)
    refine zs_iload_n (pc := 87) (k := 3) (i := 3) C (by decide +kernel) rfl rfl ?_
    refine zs_imul (pc := 88) C (by decide +kernel) ?_
    refine zs_iload_n (pc := 89) (k := 2) (i := 2) C (by decide +kernel) rfl rfl ?_
    refine zs_iadd (pc := 90) C (by decide +kernel) ?_
    exact zs_retWi (pc := 91) C hr ⟨Nat.le_of_ble_eq_true rfl, Nat.le_of_ble_eq_true rfl⟩ (by decide +kernel)
  · refine zs_if_ne (pc := 18) (off := 49) (tgt := 67) C (by decide +kernel) (by decide) ?_ ?_
    · exact zs_goj (hJ5 ()) ⟨rfl, rfl, trivial⟩
    · refine zs_aload_n (pc := 21) (k := 0) (i := 0) C (by decide +kernel) rfl rfl ?_
      refine zs_getI (pc := 22) (i := 103) (ci := 12) (k := 10) C (by decide +kernel) fl_RX12_103 rfl rfl (fun x9 => ?_)
      refine zs_iconst (pc := 25) (n := 2) (x := 2) C (by decide +kernel) (by decide +kernel) ?_
      refine zs_icmp_ne (pc := 26) (off := 41) (tgt := 67) C (by decide +kernel) (by decide) ?_ ?_
      · exact zs_goj (hJ5 ()) ⟨rfl, rfl, trivial⟩
      · refine zs_aload_n (pc := 29) (k := 0) (i := 0) C (by decide +kernel) rfl rfl ?_
        refine zs_getI (pc := 30) (i := 117) (ci := 12) (k := 11) C (by decide +kernel) fl_RX12_117 rfl rfl (fun x10 => ?_)
        refine zs_aload_n (pc := 33) (k := 0) (i := 0) C (by decide +kernel) rfl rfl ?_
        refine zs_getR (o' := 289) (pc := 34) (i := 13) (ci := 12) (k := 1) C (by decide +kernel) fl_RX12_13 rfl rfl rfl ?_
        refine zs_iconst (pc := 37) (n := 2) (x := 2) C (by decide +kernel) (by decide +kernel) ?_
        refine zs_ialdk (pc := 38) (o := 289) (n := 2005) C (by decide) (by decide +kernel) rfl (fun x11 => ?_)
        refine zs_icmp_ge (pc := 39) (off := 28) (tgt := 67) C (by decide +kernel) (by decide) ?_ ?_
        · exact zs_goj (hJ5 ()) ⟨rfl, rfl, trivial⟩
        · refine zs_iload_n (pc := 42) (k := 1) (i := 1) C (by decide +kernel) rfl rfl ?_
          refine zs_aload_n (pc := 43) (k := 0) (i := 0) C (by decide +kernel) rfl rfl ?_
          refine zs_getR (o' := 289) (pc := 44) (i := 13) (ci := 12) (k := 1) C (by decide +kernel) fl_RX12_13 rfl rfl rfl ?_
          refine zs_iconst (pc := 47) (n := 1) (x := 1) C (by decide +kernel) (by decide +kernel) ?_
          refine zs_ialdk (pc := 48) (o := 289) (n := 2005) C (by decide) (by decide +kernel) rfl (fun x12 => ?_)
          refine zs_aload_n (pc := 49) (k := 0) (i := 0) C (by decide +kernel) rfl rfl ?_
          refine zs_getI (pc := 50) (i := 117) (ci := 12) (k := 11) C (by decide +kernel) fl_RX12_117 rfl rfl (fun x13 => ?_)
          refine zs_imul (pc := 53) C (by decide +kernel) ?_
          refine zs_iload_n (pc := 54) (k := 2) (i := 2) C (by decide +kernel) rfl rfl ?_
          refine zs_iadd (pc := 55) C (by decide +kernel) ?_
          refine zs_csRi (pc := 56) (As := [sI a0, sI (w32 ((w32 (x12 * x13)) + x2))]) (st := []) C rfl (c_X12_has l g a0 (w32 ((w32 (x12 * x13)) + x2))) ml_RX12_230 rfl rfl (Nat.le_of_ble_eq_true rfl) ⟨Nat.le_of_ble_eq_true rfl, Nat.le_of_ble_eq_true rfl⟩ ⟨Nat.le_of_ble_eq_true rfl, Nat.le_of_ble_eq_true rfl⟩ (by decide +kernel) (fun x14 => ?_)
          refine zs_if_eq (pc := 59) (off := 8) (tgt := 67) C (by decide +kernel) (by decide) ?_ ?_
          · exact zs_goj (hJ5 ()) ⟨rfl, rfl, trivial⟩
          · refine zs_aload_n (pc := 62) (k := 0) (i := 0) C (by decide +kernel) rfl rfl ?_
            refine zs_iconst (pc := 63) (n := 3) (x := 3) C (by decide +kernel) (by decide +kernel) ?_
            refine zs_cvVv (pc := 64) (As := [sI 3]) (st := []) C (fun _ _ _ => rfl) (c_X12_blames l g 3) ml_RX12_145 rfl rfl rfl rfl (Nat.le_of_ble_eq_true rfl) ⟨Nat.le_of_ble_eq_true rfl, Nat.le_of_ble_eq_true rfl⟩ ⟨Nat.le_of_ble_eq_true rfl, Nat.le_of_ble_eq_true rfl⟩ (by decide +kernel) ?_
            exact zs_goj (hJ5 ()) ⟨rfl, rfl, trivial⟩
set_option maxRecDepth 20000 in
theorem c_X12_housesTold (l : Launch) (g : GC)  : ConR l g yX12_housesTold cX12_housesTold 3 (some .int) (rmd 1 0 0) [sR 287] (fun mm => fX12_housesTold  mm) := by
  refine zs_ofR (by decide +kernel) (Nat.le_of_ble_eq_true rfl) ?_
  intro p e s m args below meth c C hr
  replace C : Bd g RX12 cX12_housesTold 3 p s m args meth c := C
  unfold fX12_housesTold
  refine zs_iconst (pc := 0) (n := 0) (x := 0) C (by decide +kernel) (by decide +kernel) ?_
  refine zs_istore_n (pc := 1) (k := 1) (i := 1) (ls' := [(1, sI 0), (0, sR 287)]) C (by decide +kernel) rfl (Nat.le_of_ble_eq_true rfl) rfl ?_
  refine zs_iconst (pc := 2) (n := 0) (x := 0) C (by decide +kernel) (by decide +kernel) ?_
  refine zs_istore_n (pc := 3) (k := 2) (i := 2) (ls' := [(2, sI 0), (1, sI 0), (0, sR 287)]) C (by decide +kernel) rfl (Nat.le_of_ble_eq_true rfl) rfl ?_
  refine zs_sub (ls' := [(0, sR 287), (1, sI 0), (2, sI 0)]) ⟨rfl, rfl, rfl, trivial⟩ ?_
  refine zs_lp (pc := 4) (fun (t1 : Int × Int) => [(0, sR 287), (1, sI t1.1), (2, sI t1.2)]) (fun _ => []) (fun K2 hK2 t1 => ?_) BIG (0, 0)
  refine zs_iload_n (pc := 4) (k := 2) (i := 2) C (by decide +kernel) rfl rfl ?_
  refine zs_aload_n (pc := 5) (k := 0) (i := 0) C (by decide +kernel) rfl rfl ?_
  refine zs_getR (o' := 289) (pc := 6) (i := 13) (ci := 12) (k := 1) C (by decide +kernel) fl_RX12_13 rfl rfl rfl ?_
  refine zs_iconst (pc := 9) (n := 4) (x := 4) C (by decide +kernel) (by decide +kernel) ?_
  refine zs_ialdk (pc := 10) (o := 289) (n := 2005) C (by decide) (by decide +kernel) rfl (fun x3 => ?_)
  refine zs_icmp_ge (pc := 11) (off := 23) (tgt := 34) C (by decide +kernel) (by decide) ?_ ?_
  · refine zs_iload_n (pc := 34) (k := 1) (i := 1) C (by decide +kernel) rfl rfl ?_
    exact zs_retRi (pc := 35) C hr ⟨Nat.le_of_ble_eq_true rfl, Nat.le_of_ble_eq_true rfl⟩ (by decide +kernel)
  · refine zs_iload_n (pc := 14) (k := 1) (i := 1) C (by decide +kernel) rfl rfl ?_
    refine zs_iconst (pc := 15) (n := 1) (x := 1) C (by decide +kernel) (by decide +kernel) ?_
    refine zs_aload_n (pc := 16) (k := 0) (i := 0) C (by decide +kernel) rfl rfl ?_
    refine zs_getR (o' := 289) (pc := 17) (i := 13) (ci := 12) (k := 1) C (by decide +kernel) fl_RX12_13 rfl rfl rfl ?_
    refine zs_bipush (pc := 20) (n := 29) (x := 29) C (by decide +kernel) (by decide +kernel) ?_
    refine zs_iload_n (pc := 22) (k := 2) (i := 2) C (by decide +kernel) rfl rfl ?_
    refine zs_iadd (pc := 23) C (by decide +kernel) ?_
    refine zs_iald (pc := 24) (o := 289) (n := 2005) C (by decide +kernel) rfl (fun hinx4 x4 => ?_)
    refine zs_ishl (pc := 25) C (by decide +kernel) ?_
    refine zs_ior (pc := 26) C (by decide +kernel) ?_
    refine zs_let (fun x5 => ?_)
    refine zs_istore_n (pc := 27) (k := 1) (i := 1) (ls' := [(1, sI x5), (0, sR 287), (2, sI t1.2)]) C (by decide +kernel) rfl (Nat.le_of_ble_eq_true rfl) rfl ?_
    refine zs_iinc (pc := 28) (i := 2) (n := 1) (y := w32 (t1.2 + 1)) (ls' := [(2, sI (w32 (t1.2 + 1))), (1, sI x5), (0, sR 287)]) C (by decide +kernel) rfl rfl (Nat.le_of_ble_eq_true rfl) rfl ?_
    refine zs_goto (pc := 31) (off := (-27)) (tgt := 4) C (by decide +kernel) (by decide) ?_
    exact zs_goj (hK2 (x5, w32 (t1.2 + 1))) ⟨rfl, rfl, rfl, trivial⟩
set_option maxRecDepth 20000 in
theorem c_X12_pairsTold (l : Launch) (g : GC)  : ConR l g yX12_pairsTold cX12_pairsTold 3 (some .int) (rmd 1 0 0) [sR 287] (fun mm => fX12_pairsTold  mm) := by
  refine zs_ofR (by decide +kernel) (Nat.le_of_ble_eq_true rfl) ?_
  intro p e s m args below meth c C hr
  replace C : Bd g RX12 cX12_pairsTold 3 p s m args meth c := C
  unfold fX12_pairsTold
  refine zs_iconst (pc := 0) (n := 0) (x := 0) C (by decide +kernel) (by decide +kernel) ?_
  refine zs_istore_n (pc := 1) (k := 1) (i := 1) (ls' := [(1, sI 0), (0, sR 287)]) C (by decide +kernel) rfl (Nat.le_of_ble_eq_true rfl) rfl ?_
  refine zs_iconst (pc := 2) (n := 0) (x := 0) C (by decide +kernel) (by decide +kernel) ?_
  refine zs_istore_n (pc := 3) (k := 2) (i := 2) (ls' := [(2, sI 0), (1, sI 0), (0, sR 287)]) C (by decide +kernel) rfl (Nat.le_of_ble_eq_true rfl) rfl ?_
  refine zs_sub (ls' := [(0, sR 287), (1, sI 0), (2, sI 0)]) ⟨rfl, rfl, rfl, trivial⟩ ?_
  refine zs_lp (pc := 4) (fun (t1 : Int × Int) => [(0, sR 287), (1, sI t1.1), (2, sI t1.2)]) (fun _ => []) (fun K2 hK2 t1 => ?_) BIG (0, 0)
  refine zs_iload_n (pc := 4) (k := 2) (i := 2) C (by decide +kernel) rfl rfl ?_
  refine zs_aload_n (pc := 5) (k := 0) (i := 0) C (by decide +kernel) rfl rfl ?_
  refine zs_getR (o' := 289) (pc := 6) (i := 13) (ci := 12) (k := 1) C (by decide +kernel) fl_RX12_13 rfl rfl rfl ?_
  refine zs_iconst (pc := 9) (n := 3) (x := 3) C (by decide +kernel) (by decide +kernel) ?_
  refine zs_ialdk (pc := 10) (o := 289) (n := 2005) C (by decide) (by decide +kernel) rfl (fun x3 => ?_)
  refine zs_icmp_ge (pc := 11) (off := 35) (tgt := 46) C (by decide +kernel) (by decide) ?_ ?_
  · refine zs_iload_n (pc := 46) (k := 1) (i := 1) C (by decide +kernel) rfl rfl ?_
    exact zs_retRi (pc := 47) C hr ⟨Nat.le_of_ble_eq_true rfl, Nat.le_of_ble_eq_true rfl⟩ (by decide +kernel)
  · refine zs_iload_n (pc := 14) (k := 1) (i := 1) C (by decide +kernel) rfl rfl ?_
    refine zs_iconst (pc := 15) (n := 1) (x := 1) C (by decide +kernel) (by decide +kernel) ?_
    refine zs_aload_n (pc := 16) (k := 0) (i := 0) C (by decide +kernel) rfl rfl ?_
    refine zs_getR (o' := 289) (pc := 17) (i := 13) (ci := 12) (k := 1) C (by decide +kernel) fl_RX12_13 rfl rfl rfl ?_
    refine zs_bipush (pc := 20) (n := 13) (x := 13) C (by decide +kernel) (by decide +kernel) ?_
    refine zs_iload_n (pc := 22) (k := 2) (i := 2) C (by decide +kernel) rfl rfl ?_
    refine zs_iadd (pc := 23) C (by decide +kernel) ?_
    refine zs_iald (pc := 24) (o := 289) (n := 2005) C (by decide +kernel) rfl (fun hinx4 x4 => ?_)
    refine zs_ishl (pc := 25) C (by decide +kernel) ?_
    refine zs_iconst (pc := 26) (n := 1) (x := 1) C (by decide +kernel) (by decide +kernel) ?_
    refine zs_aload_n (pc := 27) (k := 0) (i := 0) C (by decide +kernel) rfl rfl ?_
    refine zs_getR (o' := 289) (pc := 28) (i := 13) (ci := 12) (k := 1) C (by decide +kernel) fl_RX12_13 rfl rfl rfl ?_
    refine zs_bipush (pc := 31) (n := 17) (x := 17) C (by decide +kernel) (by decide +kernel) ?_
    refine zs_iload_n (pc := 33) (k := 2) (i := 2) C (by decide +kernel) rfl rfl ?_
    refine zs_iadd (pc := 34) C (by decide +kernel) ?_
    refine zs_iald (pc := 35) (o := 289) (n := 2005) C (by decide +kernel) rfl (fun hinx5 x5 => ?_)
    refine zs_ishl (pc := 36) C (by decide +kernel) ?_
    refine zs_ior (pc := 37) C (by decide +kernel) ?_
    refine zs_ior (pc := 38) C (by decide +kernel) ?_
    refine zs_let (fun x6 => ?_)
    refine zs_istore_n (pc := 39) (k := 1) (i := 1) (ls' := [(1, sI x6), (0, sR 287), (2, sI t1.2)]) C (by decide +kernel) rfl (Nat.le_of_ble_eq_true rfl) rfl ?_
    refine zs_iinc (pc := 40) (i := 2) (n := 1) (y := w32 (t1.2 + 1)) (ls' := [(2, sI (w32 (t1.2 + 1))), (1, sI x6), (0, sR 287)]) C (by decide +kernel) rfl rfl (Nat.le_of_ble_eq_true rfl) rfl ?_
    refine zs_goto (pc := 43) (off := (-39)) (tgt := 4) C (by decide +kernel) (by decide) ?_
    exact zs_goj (hK2 (x6, w32 (t1.2 + 1))) ⟨rfl, rfl, rfl, trivial⟩
set_option maxRecDepth 20000 in
theorem c_X12_readRock (l : Launch) (g : GC)  : ConV l g yX12_readRock cX12_readRock 2 (rmd 5 0 0) [sR 287] (fun mm => fX12_readRock  mm) := by
  refine zs_ofV (by decide +kernel) (Nat.le_of_ble_eq_true rfl) ?_
  intro p e s m args below meth c C hr
  replace C : Bd g RX12 cX12_readRock 2 p s m args meth c := C
  unfold fX12_readRock
  refine zs_aload_n (pc := 0) (k := 0) (i := 0) C (by decide +kernel) rfl rfl ?_
  refine zs_aload_n (pc := 1) (k := 0) (i := 0) C (by decide +kernel) rfl rfl ?_
  refine zs_cvRi (pc := 2) (As := []) (st := [sR 287]) C rfl (c_X12_housesTold l g ) ml_RX12_234 rfl rfl rfl rfl (Nat.le_of_ble_eq_true rfl) ⟨Nat.le_of_ble_eq_true rfl, Nat.le_of_ble_eq_true rfl⟩ ⟨Nat.le_of_ble_eq_true rfl, Nat.le_of_ble_eq_true rfl⟩ (by decide +kernel) (fun x1 => ?_)
  refine zs_aload_n (pc := 5) (k := 0) (i := 0) C (by decide +kernel) rfl rfl ?_
  refine zs_cvRi (pc := 6) (As := []) (st := [sI x1, sR 287]) C rfl (c_X12_pairsTold l g ) ml_RX12_237 rfl rfl rfl rfl (Nat.le_of_ble_eq_true rfl) ⟨Nat.le_of_ble_eq_true rfl, Nat.le_of_ble_eq_true rfl⟩ ⟨Nat.le_of_ble_eq_true rfl, Nat.le_of_ble_eq_true rfl⟩ (by decide +kernel) (fun x2 => ?_)
  refine zs_ior (pc := 9) C (by decide +kernel) ?_
  refine zs_cvWi (pc := 10) (As := [sI (ior x1 x2)]) (st := []) C (fun _ _ _ => rfl) rfl (c_X12_placeBut l g (ior x1 x2)) ml_RX12_240 rfl rfl rfl rfl (Nat.le_of_ble_eq_true rfl) ⟨Nat.le_of_ble_eq_true rfl, Nat.le_of_ble_eq_true rfl⟩ ⟨Nat.le_of_ble_eq_true rfl, Nat.le_of_ble_eq_true rfl⟩ (by decide +kernel) (fun x3 => ?_)
  refine zs_istore_n (pc := 13) (k := 1) (i := 1) (ls' := [(1, sI x3), (0, sR 287)]) C (by decide +kernel) rfl (Nat.le_of_ble_eq_true rfl) rfl ?_
  refine zs_aload_n (pc := 14) (k := 0) (i := 0) C (by decide +kernel) rfl rfl ?_
  refine zs_getI (pc := 15) (i := 123) (ci := 12) (k := 12) C (by decide +kernel) fl_RX12_123 rfl rfl (fun x4 => ?_)
  refine zs_jn (pJ := 34) (kJ := 0) (sJ := 0) (fun t5 => []) (fun t5 => []) (fun t5 => ?_) (fun J6 hJ6 => ?_)
  · exact zs_retVv (pc := 34) C hr ⟨Nat.le_of_ble_eq_true rfl, Nat.le_of_ble_eq_true rfl⟩ (by decide +kernel)
  · refine zs_if_ne (pc := 18) (off := 16) (tgt := 34) C (by decide +kernel) (by decide) ?_ ?_
    · exact zs_goj (hJ6 ()) trivial
    · refine zs_aload_n (pc := 21) (k := 0) (i := 0) C (by decide +kernel) rfl rfl ?_
      refine zs_getR (o' := 289) (pc := 22) (i := 13) (ci := 12) (k := 1) C (by decide +kernel) fl_RX12_13 rfl rfl rfl ?_
      refine zs_bipush (pc := 25) (n := 8) (x := 8) C (by decide +kernel) (by decide +kernel) ?_
      refine zs_dup2 (pc := 27) C rfl rfl (by decide +kernel) ?_
      refine zs_ialdk (pc := 28) (o := 289) (n := 2005) C (by decide) (by decide +kernel) rfl (fun x7 => ?_)
      refine zs_iconst (pc := 29) (n := 1) (x := 1) C (by decide +kernel) (by decide +kernel) ?_
      refine zs_iload_n (pc := 30) (k := 1) (i := 1) C (by decide +kernel) rfl rfl ?_
      refine zs_ishl (pc := 31) C (by decide +kernel) ?_
      refine zs_ior (pc := 32) C (by decide +kernel) ?_
      refine zs_iastk (pc := 33) (o := 289) (n := 2005) C (by decide) (fun _ _ _ => rfl) (by decide +kernel) rfl ?_
      exact zs_goj (hJ6 ()) trivial
set_option maxRecDepth 20000 in
theorem c_X12_readHouse (l : Launch) (g : GC)  : ConV l g yX12_readHouse cX12_readHouse 2 (rmd 5 0 0) [sR 287] (fun mm => fX12_readHouse  mm) := by
  refine zs_ofV (by decide +kernel) (Nat.le_of_ble_eq_true rfl) ?_
  intro p e s m args below meth c C hr
  replace C : Bd g RX12 cX12_readHouse 2 p s m args meth c := C
  unfold fX12_readHouse
  refine zs_aload_n (pc := 0) (k := 0) (i := 0) C (by decide +kernel) rfl rfl ?_
  refine zs_iconst (pc := 1) (n := 4) (x := 4) C (by decide +kernel) (by decide +kernel) ?_
  refine zs_bipush (pc := 2) (n := 8) (x := 8) C (by decide +kernel) (by decide +kernel) ?_
  refine zs_cvWi (pc := 4) (As := [sI 4, sI 8]) (st := []) C (fun _ _ _ => rfl) rfl (c_X12_begins l g 4 8) ml_RX12_243 rfl rfl rfl rfl (Nat.le_of_ble_eq_true rfl) ⟨Nat.le_of_ble_eq_true rfl, Nat.le_of_ble_eq_true rfl⟩ ⟨Nat.le_of_ble_eq_true rfl, Nat.le_of_ble_eq_true rfl⟩ (by decide +kernel) (fun x1 => ?_)
  refine zs_if_ne (pc := 7) (off := 4) (tgt := 11) C (by decide +kernel) (by decide) ?_ ?_
  · refine zs_aload_n (pc := 11) (k := 0) (i := 0) C (by decide +kernel) rfl rfl ?_
    refine zs_aload_n (pc := 12) (k := 0) (i := 0) C (by decide +kernel) rfl rfl ?_
    refine zs_getR (o' := 289) (pc := 13) (i := 13) (ci := 12) (k := 1) C (by decide +kernel) fl_RX12_13 rfl rfl rfl ?_
    refine zs_bipush (pc := 16) (n := 8) (x := 8) C (by decide +kernel) (by decide +kernel) ?_
    refine zs_ialdk (pc := 18) (o := 289) (n := 2005) C (by decide) (by decide +kernel) rfl (fun x2 => ?_)
    refine zs_aload_n (pc := 19) (k := 0) (i := 0) C (by decide +kernel) rfl rfl ?_
    refine zs_cvRi (pc := 20) (As := []) (st := [sI x2, sR 287]) C rfl (c_X12_housesTold l g ) ml_RX12_234 rfl rfl rfl rfl (Nat.le_of_ble_eq_true rfl) ⟨Nat.le_of_ble_eq_true rfl, Nat.le_of_ble_eq_true rfl⟩ ⟨Nat.le_of_ble_eq_true rfl, Nat.le_of_ble_eq_true rfl⟩ (by decide +kernel) (fun x3 => ?_)
    refine zs_ior (pc := 23) C (by decide +kernel) ?_
    refine zs_cvWi (pc := 24) (As := [sI (ior x2 x3)]) (st := []) C (fun _ _ _ => rfl) rfl (c_X12_placeBut l g (ior x2 x3)) ml_RX12_240 rfl rfl rfl rfl (Nat.le_of_ble_eq_true rfl) ⟨Nat.le_of_ble_eq_true rfl, Nat.le_of_ble_eq_true rfl⟩ ⟨Nat.le_of_ble_eq_true rfl, Nat.le_of_ble_eq_true rfl⟩ (by decide +kernel) (fun x4 => ?_)
    refine zs_istore_n (pc := 27) (k := 1) (i := 1) (ls' := [(1, sI x4), (0, sR 287)]) C (by decide +kernel) rfl (Nat.le_of_ble_eq_true rfl) rfl ?_
    refine zs_aload_n (pc := 28) (k := 0) (i := 0) C (by decide +kernel) rfl rfl ?_
    refine zs_getI (pc := 29) (i := 123) (ci := 12) (k := 12) C (by decide +kernel) fl_RX12_123 rfl rfl (fun x5 => ?_)
    refine zs_if_eq (pc := 32) (off := 4) (tgt := 36) C (by decide +kernel) (by decide) ?_ ?_
    · refine zs_aload_n (pc := 36) (k := 0) (i := 0) C (by decide +kernel) rfl rfl ?_
      refine zs_getR (o' := 289) (pc := 37) (i := 13) (ci := 12) (k := 1) C (by decide +kernel) fl_RX12_13 rfl rfl rfl ?_
      refine zs_bipush (pc := 40) (n := 29) (x := 29) C (by decide +kernel) (by decide +kernel) ?_
      refine zs_aload_n (pc := 42) (k := 0) (i := 0) C (by decide +kernel) rfl rfl ?_
      refine zs_getR (o' := 289) (pc := 43) (i := 13) (ci := 12) (k := 1) C (by decide +kernel) fl_RX12_13 rfl rfl rfl ?_
      refine zs_iconst (pc := 46) (n := 4) (x := 4) C (by decide +kernel) (by decide +kernel) ?_
      refine zs_ialdk (pc := 47) (o := 289) (n := 2005) C (by decide) (by decide +kernel) rfl (fun x6 => ?_)
      refine zs_iadd (pc := 48) C (by decide +kernel) ?_
      refine zs_iload_n (pc := 49) (k := 1) (i := 1) C (by decide +kernel) rfl rfl ?_
      refine zs_iast (pc := 50) (o := 289) (n := 2005) C (fun _ _ _ => rfl) (by decide +kernel) rfl ?_
      refine zs_aload_n (pc := 51) (k := 0) (i := 0) C (by decide +kernel) rfl rfl ?_
      refine zs_getR (o' := 289) (pc := 52) (i := 13) (ci := 12) (k := 1) C (by decide +kernel) fl_RX12_13 rfl rfl rfl ?_
      refine zs_iconst (pc := 55) (n := 4) (x := 4) C (by decide +kernel) (by decide +kernel) ?_
      refine zs_dup2 (pc := 56) C rfl rfl (by decide +kernel) ?_
      refine zs_ialdk (pc := 57) (o := 289) (n := 2005) C (by decide) (by decide +kernel) rfl (fun x7 => ?_)
      refine zs_iconst (pc := 58) (n := 1) (x := 1) C (by decide +kernel) (by decide +kernel) ?_
      refine zs_iadd (pc := 59) C (by decide +kernel) ?_
      refine zs_iastk (pc := 60) (o := 289) (n := 2005) C (by decide) (fun _ _ _ => rfl) (by decide +kernel) rfl ?_
      exact zs_retVv (pc := 61) C hr ⟨Nat.le_of_ble_eq_true rfl, Nat.le_of_ble_eq_true rfl⟩ (by decide +kernel)
    · exact zs_retVv (pc := 35) C hr ⟨Nat.le_of_ble_eq_true rfl, Nat.le_of_ble_eq_true rfl⟩ (by decide +kernel)
  · exact zs_retVv (pc := 10) C hr ⟨Nat.le_of_ble_eq_true rfl, Nat.le_of_ble_eq_true rfl⟩ (by decide +kernel)
set_option maxRecDepth 20000 in
theorem c_X12_readPair (l : Launch) (g : GC)  : ConV l g yX12_readPair cX12_readPair 6 (rmd 9 0 0) [sR 287] (fun mm => fX12_readPair  mm) := by
  refine zs_ofV (by decide +kernel) (Nat.le_of_ble_eq_true rfl) ?_
  intro p e s m args below meth c C hr
  replace C : Bd g RX12 cX12_readPair 6 p s m args meth c := C
  unfold fX12_readPair
  refine zs_aload_n (pc := 0) (k := 0) (i := 0) C (by decide +kernel) rfl rfl ?_
  refine zs_iconst (pc := 1) (n := 3) (x := 3) C (by decide +kernel) (by decide +kernel) ?_
  refine zs_iconst (pc := 2) (n := 4) (x := 4) C (by decide +kernel) (by decide +kernel) ?_
  refine zs_cvWi (pc := 3) (As := [sI 3, sI 4]) (st := []) C (fun _ _ _ => rfl) rfl (c_X12_begins l g 3 4) ml_RX12_243 rfl rfl rfl rfl (Nat.le_of_ble_eq_true rfl) ⟨Nat.le_of_ble_eq_true rfl, Nat.le_of_ble_eq_true rfl⟩ ⟨Nat.le_of_ble_eq_true rfl, Nat.le_of_ble_eq_true rfl⟩ (by decide +kernel) (fun x1 => ?_)
  refine zs_if_ne (pc := 6) (off := 4) (tgt := 10) C (by decide +kernel) (by decide) ?_ ?_
  · refine zs_aload_n (pc := 10) (k := 0) (i := 0) C (by decide +kernel) rfl rfl ?_
    refine zs_getR (o' := 289) (pc := 11) (i := 13) (ci := 12) (k := 1) C (by decide +kernel) fl_RX12_13 rfl rfl rfl ?_
    refine zs_iconst (pc := 14) (n := 3) (x := 3) C (by decide +kernel) (by decide +kernel) ?_
    refine zs_ialdk (pc := 15) (o := 289) (n := 2005) C (by decide) (by decide +kernel) rfl (fun x2 => ?_)
    refine zs_istore_n (pc := 16) (k := 1) (i := 1) (ls' := [(1, sI x2), (0, sR 287)]) C (by decide +kernel) rfl (Nat.le_of_ble_eq_true rfl) rfl ?_
    refine zs_aload_n (pc := 17) (k := 0) (i := 0) C (by decide +kernel) rfl rfl ?_
    refine zs_iconst (pc := 18) (n := 1) (x := 1) C (by decide +kernel) (by decide +kernel) ?_
    refine zs_bipush (pc := 19) (n := 20) (x := 20) C (by decide +kernel) (by decide +kernel) ?_
    refine zs_cvWi (pc := 21) (As := [sI 1, sI 20]) (st := []) C (fun _ _ _ => rfl) rfl (c_X12_number l g 1 20) ml_RX12_226 rfl rfl rfl rfl (Nat.le_of_ble_eq_true rfl) ⟨Nat.le_of_ble_eq_true rfl, Nat.le_of_ble_eq_true rfl⟩ ⟨Nat.le_of_ble_eq_true rfl, Nat.le_of_ble_eq_true rfl⟩ (by decide +kernel) (fun x3 => ?_)
    refine zs_istore_n (pc := 24) (k := 2) (i := 2) (ls' := [(2, sI x3), (1, sI x2), (0, sR 287)]) C (by decide +kernel) rfl (Nat.le_of_ble_eq_true rfl) rfl ?_
    refine zs_aload_n (pc := 25) (k := 0) (i := 0) C (by decide +kernel) rfl rfl ?_
    refine zs_ldcS (pc := 26) (i := 246) (k := 13) C (by decide +kernel) rfl ?_
    refine zs_cvVv (pc := 28) (As := [sT 13]) (st := []) C (fun _ _ _ => rfl) (c_X12_mustWord l g 13 (by decide)) ml_RX12_247 rfl rfl rfl rfl (Nat.le_of_ble_eq_true rfl) ⟨Nat.le_of_ble_eq_true rfl, Nat.le_of_ble_eq_true rfl⟩ ⟨Nat.le_of_ble_eq_true rfl, Nat.le_of_ble_eq_true rfl⟩ (by decide +kernel) ?_
    refine zs_aload_n (pc := 31) (k := 0) (i := 0) C (by decide +kernel) rfl rfl ?_
    refine zs_aload_n (pc := 32) (k := 0) (i := 0) C (by decide +kernel) rfl rfl ?_
    refine zs_getR (o' := 289) (pc := 33) (i := 13) (ci := 12) (k := 1) C (by decide +kernel) fl_RX12_13 rfl rfl rfl ?_
    refine zs_bipush (pc := 36) (n := 8) (x := 8) C (by decide +kernel) (by decide +kernel) ?_
    refine zs_ialdk (pc := 38) (o := 289) (n := 2005) C (by decide) (by decide +kernel) rfl (fun x4 => ?_)
    refine zs_cvWi (pc := 39) (As := [sI x4]) (st := []) C (fun _ _ _ => rfl) rfl (c_X12_placeBut l g x4) ml_RX12_240 rfl rfl rfl rfl (Nat.le_of_ble_eq_true rfl) ⟨Nat.le_of_ble_eq_true rfl, Nat.le_of_ble_eq_true rfl⟩ ⟨Nat.le_of_ble_eq_true rfl, Nat.le_of_ble_eq_true rfl⟩ (by decide +kernel) (fun x5 => ?_)
    refine zs_istore_n (pc := 42) (k := 3) (i := 3) (ls' := [(3, sI x5), (2, sI x3), (1, sI x2), (0, sR 287)]) C (by decide +kernel) rfl (Nat.le_of_ble_eq_true rfl) rfl ?_
    refine zs_aload_n (pc := 43) (k := 0) (i := 0) C (by decide +kernel) rfl rfl ?_
    refine zs_ldcS (pc := 44) (i := 179) (k := 3) C (by decide +kernel) rfl ?_
    refine zs_cvVv (pc := 46) (As := [sT 3]) (st := []) C (fun _ _ _ => rfl) (c_X12_mustWord l g 3 (by decide)) ml_RX12_247 rfl rfl rfl rfl (Nat.le_of_ble_eq_true rfl) ⟨Nat.le_of_ble_eq_true rfl, Nat.le_of_ble_eq_true rfl⟩ ⟨Nat.le_of_ble_eq_true rfl, Nat.le_of_ble_eq_true rfl⟩ (by decide +kernel) ?_
    refine zs_aload_n (pc := 49) (k := 0) (i := 0) C (by decide +kernel) rfl rfl ?_
    refine zs_aload_n (pc := 50) (k := 0) (i := 0) C (by decide +kernel) rfl rfl ?_
    refine zs_getR (o' := 289) (pc := 51) (i := 13) (ci := 12) (k := 1) C (by decide +kernel) fl_RX12_13 rfl rfl rfl ?_
    refine zs_bipush (pc := 54) (n := 8) (x := 8) C (by decide +kernel) (by decide +kernel) ?_
    refine zs_ialdk (pc := 56) (o := 289) (n := 2005) C (by decide) (by decide +kernel) rfl (fun x6 => ?_)
    refine zs_cvWi (pc := 57) (As := [sI x6]) (st := []) C (fun _ _ _ => rfl) rfl (c_X12_placeBut l g x6) ml_RX12_240 rfl rfl rfl rfl (Nat.le_of_ble_eq_true rfl) ⟨Nat.le_of_ble_eq_true rfl, Nat.le_of_ble_eq_true rfl⟩ ⟨Nat.le_of_ble_eq_true rfl, Nat.le_of_ble_eq_true rfl⟩ (by decide +kernel) (fun x7 => ?_)
    refine zs_istore (pc := 60) (i := 4) (ls' := [(4, sI x7), (3, sI x5), (2, sI x3), (1, sI x2), (0, sR 287)]) C (by decide +kernel) (Nat.le_of_ble_eq_true rfl) rfl ?_
    refine zs_aload_n (pc := 62) (k := 0) (i := 0) C (by decide +kernel) rfl rfl ?_
    refine zs_ldcS (pc := 63) (i := 203) (k := 6) C (by decide +kernel) rfl ?_
    refine zs_cvWi (pc := 65) (As := [sT 6]) (st := []) C (fun _ _ _ => rfl) rfl (c_X12_took l g 6 (by decide)) ml_RX12_153 rfl rfl rfl rfl (Nat.le_of_ble_eq_true rfl) ⟨Nat.le_of_ble_eq_true rfl, Nat.le_of_ble_eq_true rfl⟩ ⟨Nat.le_of_ble_eq_true rfl, Nat.le_of_ble_eq_true rfl⟩ (by decide +kernel) (fun x8 => ?_)
    refine zs_jn (pJ := 82) (kJ := 0) (sJ := 0) (fun t9 => [(0, sR 287), (1, sI x2), (2, sI x3), (3, sI x5), (4, sI x7)]) (fun t9 => [sI t9]) (fun t9 => ?_) (fun J10 hJ10 => ?_)
    · refine zs_istore (pc := 82) (i := 5) (ls' := [(5, sI t9), (0, sR 287), (1, sI x2), (2, sI x3), (3, sI x5), (4, sI x7)]) C (by decide +kernel) (Nat.le_of_ble_eq_true rfl) rfl ?_
      refine zs_aload_n (pc := 84) (k := 0) (i := 0) C (by decide +kernel) rfl rfl ?_
      refine zs_getI (pc := 85) (i := 123) (ci := 12) (k := 12) C (by decide +kernel) fl_RX12_123 rfl rfl (fun x11 => ?_)
      refine zs_if_eq (pc := 88) (off := 4) (tgt := 92) C (by decide +kernel) (by decide) ?_ ?_
      · refine zs_aload_n (pc := 92) (k := 0) (i := 0) C (by decide +kernel) rfl rfl ?_
        refine zs_getR (o' := 289) (pc := 93) (i := 13) (ci := 12) (k := 1) C (by decide +kernel) fl_RX12_13 rfl rfl rfl ?_
        refine zs_bipush (pc := 96) (n := 25) (x := 25) C (by decide +kernel) (by decide +kernel) ?_
        refine zs_iload_n (pc := 98) (k := 1) (i := 1) C (by decide +kernel) rfl rfl ?_
        refine zs_iadd (pc := 99) C (by decide +kernel) ?_
        refine zs_iload_n (pc := 100) (k := 2) (i := 2) C (by decide +kernel) rfl rfl ?_
        refine zs_iast (pc := 101) (o := 289) (n := 2005) C (fun _ _ _ => rfl) (by decide +kernel) rfl ?_
        refine zs_aload_n (pc := 102) (k := 0) (i := 0) C (by decide +kernel) rfl rfl ?_
        refine zs_getR (o' := 289) (pc := 103) (i := 13) (ci := 12) (k := 1) C (by decide +kernel) fl_RX12_13 rfl rfl rfl ?_
        refine zs_bipush (pc := 106) (n := 13) (x := 13) C (by decide +kernel) (by decide +kernel) ?_
        refine zs_iload_n (pc := 108) (k := 1) (i := 1) C (by decide +kernel) rfl rfl ?_
        refine zs_iadd (pc := 109) C (by decide +kernel) ?_
        refine zs_iload_n (pc := 110) (k := 3) (i := 3) C (by decide +kernel) rfl rfl ?_
        refine zs_iast (pc := 111) (o := 289) (n := 2005) C (fun _ _ _ => rfl) (by decide +kernel) rfl ?_
        refine zs_aload_n (pc := 112) (k := 0) (i := 0) C (by decide +kernel) rfl rfl ?_
        refine zs_getR (o' := 289) (pc := 113) (i := 13) (ci := 12) (k := 1) C (by decide +kernel) fl_RX12_13 rfl rfl rfl ?_
        refine zs_bipush (pc := 116) (n := 17) (x := 17) C (by decide +kernel) (by decide +kernel) ?_
        refine zs_iload_n (pc := 118) (k := 1) (i := 1) C (by decide +kernel) rfl rfl ?_
        refine zs_iadd (pc := 119) C (by decide +kernel) ?_
        refine zs_iload (pc := 120) (i := 4) C (by decide +kernel) rfl ?_
        refine zs_iast (pc := 122) (o := 289) (n := 2005) C (fun _ _ _ => rfl) (by decide +kernel) rfl ?_
        refine zs_aload_n (pc := 123) (k := 0) (i := 0) C (by decide +kernel) rfl rfl ?_
        refine zs_getR (o' := 289) (pc := 124) (i := 13) (ci := 12) (k := 1) C (by decide +kernel) fl_RX12_13 rfl rfl rfl ?_
        refine zs_bipush (pc := 127) (n := 9) (x := 9) C (by decide +kernel) (by decide +kernel) ?_
        refine zs_iload_n (pc := 129) (k := 1) (i := 1) C (by decide +kernel) rfl rfl ?_
        refine zs_iadd (pc := 130) C (by decide +kernel) ?_
        refine zs_iload (pc := 131) (i := 5) C (by decide +kernel) rfl ?_
        refine zs_iast (pc := 133) (o := 289) (n := 2005) C (fun _ _ _ => rfl) (by decide +kernel) rfl ?_
        refine zs_aload_n (pc := 134) (k := 0) (i := 0) C (by decide +kernel) rfl rfl ?_
        refine zs_getR (o' := 289) (pc := 135) (i := 13) (ci := 12) (k := 1) C (by decide +kernel) fl_RX12_13 rfl rfl rfl ?_
        refine zs_iconst (pc := 138) (n := 3) (x := 3) C (by decide +kernel) (by decide +kernel) ?_
        refine zs_dup2 (pc := 139) C rfl rfl (by decide +kernel) ?_
        refine zs_ialdk (pc := 140) (o := 289) (n := 2005) C (by decide) (by decide +kernel) rfl (fun x12 => ?_)
        refine zs_iconst (pc := 141) (n := 1) (x := 1) C (by decide +kernel) (by decide +kernel) ?_
        refine zs_iadd (pc := 142) C (by decide +kernel) ?_
        refine zs_iastk (pc := 143) (o := 289) (n := 2005) C (by decide) (fun _ _ _ => rfl) (by decide +kernel) rfl ?_
        exact zs_retVv (pc := 144) C hr ⟨Nat.le_of_ble_eq_true rfl, Nat.le_of_ble_eq_true rfl⟩ (by decide +kernel)
      · exact zs_retVv (pc := 91) C hr ⟨Nat.le_of_ble_eq_true rfl, Nat.le_of_ble_eq_true rfl⟩ (by decide +kernel)
    · refine zs_if_eq (pc := 68) (off := 13) (tgt := 81) C (by decide +kernel) (by decide) ?_ ?_
      · refine zs_iconst (pc := 81) (n := 0) (x := 0) C (by decide +kernel) (by decide +kernel) ?_
        exact zs_goj (hJ10 0) ⟨rfl, rfl, rfl, rfl, rfl, trivial⟩
      · refine zs_aload_n (pc := 71) (k := 0) (i := 0) C (by decide +kernel) rfl rfl ?_
        refine zs_iconst (pc := 72) (n := 0) (x := 0) C (by decide +kernel) (by decide +kernel) ?_
        refine zs_bipush (pc := 73) (n := 9) (x := 9) C (by decide +kernel) (by decide +kernel) ?_
        refine zs_cvWi (pc := 75) (As := [sI 0, sI 9]) (st := []) C (fun _ _ _ => rfl) rfl (c_X12_number l g 0 9) ml_RX12_226 rfl rfl rfl rfl (Nat.le_of_ble_eq_true rfl) ⟨Nat.le_of_ble_eq_true rfl, Nat.le_of_ble_eq_true rfl⟩ ⟨Nat.le_of_ble_eq_true rfl, Nat.le_of_ble_eq_true rfl⟩ (by decide +kernel) (fun x13 => ?_)
        refine zs_goto (pc := 78) (off := 4) (tgt := 82) C (by decide +kernel) (by decide) ?_
        exact zs_goj (hJ10 x13) ⟨rfl, rfl, rfl, rfl, rfl, trivial⟩
  · exact zs_retVv (pc := 9) C hr ⟨Nat.le_of_ble_eq_true rfl, Nat.le_of_ble_eq_true rfl⟩ (by decide +kernel)

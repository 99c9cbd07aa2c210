set_option maxRecDepth 20000 in
theorem c_X12_watchedFault (l : Launch) (g : GC) (a0 : Int) (a1 : Int) (a2 : Int) : ConR l g yX12_watchedFault cX12_watchedFault 6 (some .int) (rmd 3 0 0) [sR 287, sI a0, sI a1, sI a2] (fun mm => fX12_watchedFault a0 a1 a2 mm) := by
  refine zs_ofR (by decide +kernel) (Nat.le_of_ble_eq_true rfl) ?_
  intro p e s m args below meth c C hr
  replace C : Bd g RX12 cX12_watchedFault 6 p s m args meth c := C
  unfold fX12_watchedFault
  refine zs_aload_n (pc := 0) (k := 0) (i := 0) C (by decide +kernel) rfl rfl ?_
  refine zs_iload_n (pc := 1) (k := 1) (i := 1) C (by decide +kernel) rfl rfl ?_
  refine zs_i2l (pc := 2) C (by decide +kernel) ?_
  refine zs_cvRi (pc := 3) (As := [sL a0]) (st := []) C rfl (c_X12_isPair l g a0) ml_RX12_338 rfl rfl rfl rfl (Nat.le_of_ble_eq_true rfl) ⟨Nat.le_of_ble_eq_true rfl, Nat.le_of_ble_eq_true rfl⟩ ⟨Nat.le_of_ble_eq_true rfl, Nat.le_of_ble_eq_true rfl⟩ (by decide +kernel) (fun x1 => ?_)
  refine zs_jn (pJ := 16) (kJ := 0) (sJ := 0) (fun t2 => []) (fun t2 => []) (fun t2 => ?_) (fun J3 hJ3 => ?_)
  · refine zs_iconst (pc := 16) (n := 1) (x := 1) C (by decide +kernel) (by decide +kernel) ?_
    exact zs_retRi (pc := 17) C hr ⟨Nat.le_of_ble_eq_true rfl, Nat.le_of_ble_eq_true rfl⟩ (by decide +kernel)
  · refine zs_if_eq (pc := 6) (off := 10) (tgt := 16) C (by decide +kernel) (by decide) ?_ ?_
    · exact zs_goj (hJ3 ()) trivial
    · refine zs_iload_n (pc := 9) (k := 2) (i := 2) C (by decide +kernel) rfl rfl ?_
      refine zs_csRi (pc := 10) (As := [sI a1]) (st := []) C rfl (c_X12_isTray l g a1) ml_RX12_392 rfl rfl (Nat.le_of_ble_eq_true rfl) ⟨Nat.le_of_ble_eq_true rfl, Nat.le_of_ble_eq_true rfl⟩ ⟨Nat.le_of_ble_eq_true rfl, Nat.le_of_ble_eq_true rfl⟩ (by decide +kernel) (fun x4 => ?_)
      refine zs_if_ne (pc := 13) (off := 5) (tgt := 18) C (by decide +kernel) (by decide) ?_ ?_
      · refine zs_aload_n (pc := 18) (k := 0) (i := 0) C (by decide +kernel) rfl rfl ?_
        refine zs_getR (o' := 309) (pc := 19) (i := 79) (ci := 12) (k := 39) C (by decide +kernel) fl_RX12_79 rfl rfl rfl ?_
        refine zs_iload_n (pc := 22) (k := 2) (i := 2) C (by decide +kernel) rfl rfl ?_
        refine zs_iald (pc := 23) (o := 309) (n := 4) C (by decide +kernel) rfl (fun hinx5 x5 => ?_)
        refine zs_iconst (pc := 24) (n := (-1)) (x := (-1)) C (by decide +kernel) (by decide +kernel) ?_
        refine zs_icmp_ne (pc := 25) (off := 5) (tgt := 30) C (by decide +kernel) (by decide) ?_ ?_
        · refine zs_aload_n (pc := 30) (k := 0) (i := 0) C (by decide +kernel) rfl rfl ?_
          refine zs_getR (o' := 310) (pc := 31) (i := 82) (ci := 12) (k := 40) C (by decide +kernel) fl_RX12_82 rfl rfl rfl ?_
          refine zs_iload_n (pc := 34) (k := 2) (i := 2) C (by decide +kernel) rfl rfl ?_
          refine zs_iald (pc := 35) (o := 310) (n := 4) C (by decide +kernel) rfl (fun hinx6 x6 => ?_)
          refine zs_i2l (pc := 36) C (by decide +kernel) ?_
          refine zs_lconst (pc := 37) (n := 1) (x := 1) C (by decide +kernel) (by decide +kernel) ?_
          refine zs_iload_n (pc := 38) (k := 3) (i := 3) C (by decide +kernel) rfl rfl ?_
          refine zs_i2l (pc := 39) C (by decide +kernel) ?_
          refine zs_csRi (pc := 40) (As := [sL x6, sL 1, sL a2]) (st := []) C rfl (c_X12_within l g x6 1 a2) ml_RX12_149 rfl rfl (Nat.le_of_ble_eq_true rfl) ⟨Nat.le_of_ble_eq_true rfl, Nat.le_of_ble_eq_true rfl⟩ ⟨Nat.le_of_ble_eq_true rfl, Nat.le_of_ble_eq_true rfl⟩ (by decide +kernel) (fun x7 => ?_)
          refine zs_istore (pc := 43) (i := 4) (ls' := [(4, sI x7), (0, sR 287), (1, sI a0), (2, sI a1), (3, sI a2)]) C (by decide +kernel) (Nat.le_of_ble_eq_true rfl) rfl ?_
          refine zs_iconst (pc := 45) (n := 0) (x := 0) C (by decide +kernel) (by decide +kernel) ?_
          refine zs_istore (pc := 46) (i := 5) (ls' := [(5, sI 0), (4, sI x7), (0, sR 287), (1, sI a0), (2, sI a1), (3, sI a2)]) C (by decide +kernel) (Nat.le_of_ble_eq_true rfl) rfl ?_
          refine zs_sub (ls' := [(0, sR 287), (2, sI a1), (4, sI x7), (5, sI 0)]) ⟨rfl, rfl, rfl, rfl, trivial⟩ ?_
          refine zs_lp (pc := 48) (fun (t8 : Int × Int) => [(0, sR 287), (2, sI a1), (4, sI t8.1), (5, sI t8.2)]) (fun _ => []) (fun K9 hK9 t8 => ?_) BIG (x7, 0)
          refine zs_iload (pc := 48) (i := 5) C (by decide +kernel) rfl ?_
          refine zs_aload_n (pc := 50) (k := 0) (i := 0) C (by decide +kernel) rfl rfl ?_
          refine zs_getR (o' := 310) (pc := 51) (i := 82) (ci := 12) (k := 40) C (by decide +kernel) fl_RX12_82 rfl rfl rfl ?_
          refine zs_iload_n (pc := 54) (k := 2) (i := 2) C (by decide +kernel) rfl rfl ?_
          refine zs_iald (pc := 55) (o := 310) (n := 4) C (by decide +kernel) rfl (fun hinx10 x10 => ?_)
          refine zs_jn (pJ := 115) (kJ := 0) (sJ := 0) (fun t11 => [(4, sI t8.1)]) (fun t11 => []) (fun t11 => ?_) (fun J12 hJ12 => ?_)
          · refine zs_iload (pc := 115) (i := 4) C (by decide +kernel) rfl ?_
            refine zs_jn (pJ := 125) (kJ := 0) (sJ := 0) (fun t13 => []) (fun t13 => [sI t13]) (fun t13 => ?_) (fun J14 hJ14 => ?_)
            · exact zs_retRi (pc := 125) C hr ⟨Nat.le_of_ble_eq_true rfl, Nat.le_of_ble_eq_true rfl⟩ (by decide +kernel)
            · refine zs_if_eq (pc := 117) (off := 7) (tgt := 124) C (by decide +kernel) (by decide) ?_ ?_
              · refine zs_iconst (pc := 124) (n := 3) (x := 3) C (by decide +kernel) (by decide +kernel) ?_
                exact zs_goj (hJ14 3) trivial
              · refine zs_iconst (pc := 120) (n := 0) (x := 0) C (by decide +kernel) (by decide +kernel) ?_
                refine zs_goto (pc := 121) (off := 4) (tgt := 125) C (by decide +kernel) (by decide) ?_
                exact zs_goj (hJ14 0) trivial
          · refine zs_icmp_ge (pc := 56) (off := 59) (tgt := 115) C (by decide +kernel) (by decide) ?_ ?_
            · exact zs_goj (hJ12 ()) ⟨rfl, trivial⟩
            · refine zs_iload (pc := 59) (i := 4) C (by decide +kernel) rfl ?_
              refine zs_if_eq (pc := 61) (off := 54) (tgt := 115) C (by decide +kernel) (by decide) ?_ ?_
              · exact zs_goj (hJ12 ()) ⟨rfl, trivial⟩
              · refine zs_aload_n (pc := 64) (k := 0) (i := 0) C (by decide +kernel) rfl rfl ?_
                refine zs_getR (o' := 311) (pc := 65) (i := 85) (ci := 12) (k := 41) C (by decide +kernel) fl_RX12_85 rfl rfl rfl ?_
                refine zs_bipush (pc := 68) (n := 30) (x := 30) C (by decide +kernel) (by decide +kernel) ?_
                refine zs_iload_n (pc := 70) (k := 2) (i := 2) C (by decide +kernel) rfl rfl ?_
                refine zs_imul (pc := 71) C (by decide +kernel) ?_
                refine zs_iload (pc := 72) (i := 5) C (by decide +kernel) rfl ?_
                refine zs_iadd (pc := 74) C (by decide +kernel) ?_
                refine zs_lald (pc := 75) (o := 311) (n := 120) C (by decide +kernel) rfl (fun hinx15 x15 => ?_)
                refine zs_ldc2 (pc := 76) (i := 395) (v := (-1)) (x := (-1)) C (by decide +kernel) wf_2229 (by decide +kernel) ?_
                refine zs_jn (pJ := 107) (kJ := 0) (sJ := 0) (fun t16 => [(0, sR 287), (2, sI a1), (5, sI t8.2)]) (fun t16 => [sI t16]) (fun t16 => ?_) (fun J17 hJ17 => ?_)
                · refine zs_istore (pc := 107) (i := 4) (ls' := [(4, sI t16), (0, sR 287), (2, sI a1), (5, sI t8.2)]) C (by decide +kernel) (Nat.le_of_ble_eq_true rfl) rfl ?_
                  refine zs_iinc (pc := 109) (i := 5) (n := 1) (y := w32 (t8.2 + 1)) (ls' := [(5, sI (w32 (t8.2 + 1))), (4, sI t16), (0, sR 287), (2, sI a1)]) C (by decide +kernel) rfl rfl (Nat.le_of_ble_eq_true rfl) rfl ?_
                  refine zs_goto (pc := 112) (off := (-64)) (tgt := 48) C (by decide +kernel) (by decide) ?_
                  exact zs_goj (hK9 (t16, w32 (t8.2 + 1))) ⟨rfl, rfl, rfl, rfl, trivial⟩
                · refine zs_jn (pJ := 102) (kJ := 0) (sJ := 0) (fun t18 => [(0, sR 287), (2, sI a1), (5, sI t8.2)]) (fun t18 => []) (fun t18 => ?_) (fun J19 hJ19 => ?_)
                  · refine zs_iconst (pc := 102) (n := 1) (x := 1) C (by decide +kernel) (by decide +kernel) ?_
                    refine zs_goto (pc := 103) (off := 4) (tgt := 107) C (by decide +kernel) (by decide) ?_
                    exact zs_goj (hJ17 1) ⟨rfl, rfl, rfl, trivial⟩
                  · refine zs_lcmp_eq (pc := 79) (off := 22) (tgt := 102) C (by decide +kernel) (by decide +kernel) (by decide) ?_ ?_
                    · exact zs_goj (hJ19 ()) ⟨rfl, rfl, rfl, trivial⟩
                    · refine zs_aload_n (pc := 83) (k := 0) (i := 0) C (by decide +kernel) rfl rfl ?_
                      refine zs_aload_n (pc := 84) (k := 0) (i := 0) C (by decide +kernel) rfl rfl ?_
                      refine zs_getR (o' := 311) (pc := 85) (i := 85) (ci := 12) (k := 41) C (by decide +kernel) fl_RX12_85 rfl rfl rfl ?_
                      refine zs_bipush (pc := 88) (n := 30) (x := 30) C (by decide +kernel) (by decide +kernel) ?_
                      refine zs_iload_n (pc := 90) (k := 2) (i := 2) C (by decide +kernel) rfl rfl ?_
                      refine zs_imul (pc := 91) C (by decide +kernel) ?_
                      refine zs_iload (pc := 92) (i := 5) C (by decide +kernel) rfl ?_
                      refine zs_iadd (pc := 94) C (by decide +kernel) ?_
                      refine zs_lald (pc := 95) (o := 311) (n := 120) C (by decide +kernel) rfl (fun hinx20 x20 => ?_)
                      refine zs_cvRi (pc := 96) (As := [sL x20]) (st := []) C rfl (c_X12_isPlace l g x20) ml_RX12_334 rfl rfl rfl rfl (Nat.le_of_ble_eq_true rfl) ⟨Nat.le_of_ble_eq_true rfl, Nat.le_of_ble_eq_true rfl⟩ ⟨Nat.le_of_ble_eq_true rfl, Nat.le_of_ble_eq_true rfl⟩ (by decide +kernel) (fun x21 => ?_)
                      refine zs_if_eq (pc := 99) (off := 7) (tgt := 106) C (by decide +kernel) (by decide) ?_ ?_
                      · refine zs_iconst (pc := 106) (n := 0) (x := 0) C (by decide +kernel) (by decide +kernel) ?_
                        exact zs_goj (hJ17 0) ⟨rfl, rfl, rfl, trivial⟩
                      · exact zs_goj (hJ19 ()) ⟨rfl, rfl, rfl, trivial⟩
        · refine zs_iconst (pc := 28) (n := 2) (x := 2) C (by decide +kernel) (by decide +kernel) ?_
          exact zs_retRi (pc := 29) C hr ⟨Nat.le_of_ble_eq_true rfl, Nat.le_of_ble_eq_true rfl⟩ (by decide +kernel)
      · exact zs_goj (hJ3 ()) trivial
set_option maxRecDepth 20000 in
theorem c_X12_other (l : Launch) (g : GC) (a0 : Int) (a1 : Int) : ConW l g yX12_other cX12_other 5 (some .int) (rmd 8 0 0) [sR 287, sI a0, sI a1] (fun mm => fX12_other a0 a1 mm) := by
  refine zs_ofW (by decide +kernel) (Nat.le_of_ble_eq_true rfl) ?_
  intro p e s m args below meth c C hr
  replace C : Bd g RX12 cX12_other 5 p s m args meth c := C
  unfold fX12_other
  refine zs_aload_n (pc := 0) (k := 0) (i := 0) C (by decide +kernel) rfl rfl ?_
  refine zs_aload_n (pc := 1) (k := 0) (i := 0) C (by decide +kernel) rfl rfl ?_
  refine zs_iload_n (pc := 2) (k := 1) (i := 1) C (by decide +kernel) rfl rfl ?_
  refine zs_iload_n (pc := 3) (k := 2) (i := 2) C (by decide +kernel) rfl rfl ?_
  refine zs_bipush (pc := 4) (n := 20) (x := 20) C (by decide +kernel) (by decide +kernel) ?_
  refine zs_cvRi (pc := 6) (As := [sI a0, sI a1, sI 20]) (st := [sR 287]) C rfl (c_X12_watchedFault l g a0 a1 20) ml_RX12_548 rfl rfl rfl rfl (Nat.le_of_ble_eq_true rfl) ⟨Nat.le_of_ble_eq_true rfl, Nat.le_of_ble_eq_true rfl⟩ ⟨Nat.le_of_ble_eq_true rfl, Nat.le_of_ble_eq_true rfl⟩ (by decide +kernel) (fun x1 => ?_)
  refine zs_putI (pc := 9) (i := 88) (ci := 12) (k := 4) C (fun _ _ _ => rfl) (by decide +kernel) fl_RX12_88 fw_12_4 rfl rfl ?_
  refine zs_aload_n (pc := 12) (k := 0) (i := 0) C (by decide +kernel) rfl rfl ?_
  refine zs_getI (pc := 13) (i := 88) (ci := 12) (k := 4) C (by decide +kernel) fl_RX12_88 rfl rfl (fun x2 => ?_)
  refine zs_if_le (pc := 16) (off := 5) (tgt := 21) C (by decide +kernel) (by decide) ?_ ?_
  · refine zs_aload_n (pc := 21) (k := 0) (i := 0) C (by decide +kernel) rfl rfl ?_
    refine zs_iload_n (pc := 22) (k := 1) (i := 1) C (by decide +kernel) rfl rfl ?_
    refine zs_cvVv (pc := 23) (As := [sI a0]) (st := []) C (fun _ _ _ => rfl) (c_X12_beginsCount l g a0) ml_RX12_496 rfl rfl rfl rfl (Nat.le_of_ble_eq_true rfl) ⟨Nat.le_of_ble_eq_true rfl, Nat.le_of_ble_eq_true rfl⟩ ⟨Nat.le_of_ble_eq_true rfl, Nat.le_of_ble_eq_true rfl⟩ (by decide +kernel) ?_
    refine zs_iconst (pc := 26) (n := 0) (x := 0) C (by decide +kernel) (by decide +kernel) ?_
    refine zs_istore_n (pc := 27) (k := 3) (i := 3) (ls' := [(3, sI 0), (0, sR 287), (1, sI a0), (2, sI a1)]) C (by decide +kernel) rfl (Nat.le_of_ble_eq_true rfl) rfl ?_
    refine zs_sub (ls' := [(0, sR 287), (2, sI a1), (3, sI 0)]) ⟨rfl, rfl, rfl, trivial⟩ ?_
    refine zs_lp (pc := 28) (fun (t3 : Int) => [(0, sR 287), (2, sI a1), (3, sI t3)]) (fun _ => []) (fun K4 hK4 t3 => ?_) BIG 0
    refine zs_iload_n (pc := 28) (k := 3) (i := 3) C (by decide +kernel) rfl rfl ?_
    refine zs_aload_n (pc := 29) (k := 0) (i := 0) C (by decide +kernel) rfl rfl ?_
    refine zs_getR (o' := 310) (pc := 30) (i := 82) (ci := 12) (k := 40) C (by decide +kernel) fl_RX12_82 rfl rfl rfl ?_
    refine zs_iload_n (pc := 33) (k := 2) (i := 2) C (by decide +kernel) rfl rfl ?_
    refine zs_iald (pc := 34) (o := 310) (n := 4) C (by decide +kernel) rfl (fun hinx5 x5 => ?_)
    refine zs_icmp_ge (pc := 35) (off := 62) (tgt := 97) C (by decide +kernel) (by decide) ?_ ?_
    · refine zs_iconst (pc := 97) (n := 0) (x := 0) C (by decide +kernel) (by decide +kernel) ?_
      refine zs_istore_n (pc := 98) (k := 3) (i := 3) (ls' := [(3, sI 0), (0, sR 287), (2, sI a1)]) C (by decide +kernel) rfl (Nat.le_of_ble_eq_true rfl) rfl ?_
      refine zs_iconst (pc := 99) (n := 0) (x := 0) C (by decide +kernel) (by decide +kernel) ?_
      refine zs_istore (pc := 100) (i := 4) (ls' := [(4, sI 0), (3, sI 0), (0, sR 287), (2, sI a1)]) C (by decide +kernel) (Nat.le_of_ble_eq_true rfl) rfl ?_
      refine zs_sub (ls' := [(0, sR 287), (3, sI 0), (4, sI 0)]) ⟨rfl, rfl, rfl, trivial⟩ ?_
      refine zs_lp (pc := 102) (fun (t6 : Int × Int) => [(0, sR 287), (3, sI t6.1), (4, sI t6.2)]) (fun _ => []) (fun K7 hK7 t6 => ?_) BIG (0, 0)
      refine zs_iload (pc := 102) (i := 4) C (by decide +kernel) rfl ?_
      refine zs_sipush (pc := 104) (n := 625) (x := 625) C (by decide +kernel) (by decide +kernel) ?_
      refine zs_icmp_ge (pc := 107) (off := 35) (tgt := 142) C (by decide +kernel) (by decide) ?_ ?_
      · refine zs_iload_n (pc := 142) (k := 3) (i := 3) C (by decide +kernel) rfl rfl ?_
        exact zs_retWi (pc := 143) C hr ⟨Nat.le_of_ble_eq_true rfl, Nat.le_of_ble_eq_true rfl⟩ (by decide +kernel)
      · refine zs_iload_n (pc := 110) (k := 3) (i := 3) C (by decide +kernel) rfl rfl ?_
        refine zs_aload_n (pc := 111) (k := 0) (i := 0) C (by decide +kernel) rfl rfl ?_
        refine zs_getR (o' := 303) (pc := 112) (i := 60) (ci := 12) (k := 31) C (by decide +kernel) fl_RX12_60 rfl rfl rfl ?_
        refine zs_iload (pc := 115) (i := 4) C (by decide +kernel) rfl ?_
        refine zs_lald (pc := 117) (o := 303) (n := 625) C (by decide +kernel) rfl (fun hinx8 x8 => ?_)
        refine zs_lconst (pc := 118) (n := 0) (x := 0) C (by decide +kernel) (by decide +kernel) ?_
        refine zs_jn (pJ := 134) (kJ := 0) (sJ := 0) (fun t9 => [(0, sR 287), (4, sI t6.2)]) (fun t9 => [sI t9, sI t6.1]) (fun t9 => ?_) (fun J10 hJ10 => ?_)
        · refine zs_ior (pc := 134) C (by decide +kernel) ?_
          refine zs_let (fun x11 => ?_)
          refine zs_istore_n (pc := 135) (k := 3) (i := 3) (ls' := [(3, sI x11), (0, sR 287), (4, sI t6.2)]) C (by decide +kernel) rfl (Nat.le_of_ble_eq_true rfl) rfl ?_
          refine zs_iinc (pc := 136) (i := 4) (n := 1) (y := w32 (t6.2 + 1)) (ls' := [(4, sI (w32 (t6.2 + 1))), (3, sI x11), (0, sR 287)]) C (by decide +kernel) rfl rfl (Nat.le_of_ble_eq_true rfl) rfl ?_
          refine zs_goto (pc := 139) (off := (-37)) (tgt := 102) C (by decide +kernel) (by decide) ?_
          exact zs_goj (hK7 (x11, w32 (t6.2 + 1))) ⟨rfl, rfl, rfl, trivial⟩
        · refine zs_lcmp_le (pc := 119) (off := 13) (tgt := 133) C (by decide +kernel) (by decide +kernel) (by decide) ?_ ?_
          · refine zs_iconst (pc := 133) (n := 0) (x := 0) C (by decide +kernel) (by decide +kernel) ?_
            exact zs_goj (hJ10 0) ⟨rfl, rfl, trivial⟩
          · refine zs_iconst (pc := 123) (n := 1) (x := 1) C (by decide +kernel) (by decide +kernel) ?_
            refine zs_iload (pc := 124) (i := 4) C (by decide +kernel) rfl ?_
            refine zs_bipush (pc := 126) (n := 25) (x := 25) C (by decide +kernel) (by decide +kernel) ?_
            refine zs_irem (pc := 128) C (by decide +kernel) (by decide +kernel) ?_
            refine zs_ishl (pc := 129) C (by decide +kernel) ?_
            refine zs_goto (pc := 130) (off := 4) (tgt := 134) C (by decide +kernel) (by decide) ?_
            exact zs_goj (hJ10 (ishl 1 (Int.tmod t6.2 25))) ⟨rfl, rfl, trivial⟩
    · refine zs_aload_n (pc := 38) (k := 0) (i := 0) C (by decide +kernel) rfl rfl ?_
      refine zs_iload_n (pc := 39) (k := 3) (i := 3) C (by decide +kernel) rfl rfl ?_
      refine zs_iconst (pc := 40) (n := 1) (x := 1) C (by decide +kernel) (by decide +kernel) ?_
      refine zs_iadd (pc := 41) C (by decide +kernel) ?_
      refine zs_aload_n (pc := 42) (k := 0) (i := 0) C (by decide +kernel) rfl rfl ?_
      refine zs_getR (o' := 311) (pc := 43) (i := 85) (ci := 12) (k := 41) C (by decide +kernel) fl_RX12_85 rfl rfl rfl ?_
      refine zs_bipush (pc := 46) (n := 30) (x := 30) C (by decide +kernel) (by decide +kernel) ?_
      refine zs_iload_n (pc := 48) (k := 2) (i := 2) C (by decide +kernel) rfl rfl ?_
      refine zs_imul (pc := 49) C (by decide +kernel) ?_
      refine zs_iload_n (pc := 50) (k := 3) (i := 3) C (by decide +kernel) rfl rfl ?_
      refine zs_iadd (pc := 51) C (by decide +kernel) ?_
      refine zs_lald (pc := 52) (o := 311) (n := 120) C (by decide +kernel) rfl (fun hinx12 x12 => ?_)
      refine zs_cvVv (pc := 53) (As := [sI (w32 (t3 + 1)), sL x12]) (st := []) C (fun _ _ _ => rfl) (c_X12_countsOn l g (w32 (t3 + 1)) x12) ml_RX12_499 rfl rfl rfl rfl (Nat.le_of_ble_eq_true rfl) ⟨Nat.le_of_ble_eq_true rfl, Nat.le_of_ble_eq_true rfl⟩ ⟨Nat.le_of_ble_eq_true rfl, Nat.le_of_ble_eq_true rfl⟩ (by decide +kernel) ?_
      refine zs_iconst (pc := 56) (n := 0) (x := 0) C (by decide +kernel) (by decide +kernel) ?_
      refine zs_istore (pc := 57) (i := 4) (ls' := [(4, sI 0), (0, sR 287), (2, sI a1), (3, sI t3)]) C (by decide +kernel) (Nat.le_of_ble_eq_true rfl) rfl ?_
      refine zs_sub (ls' := [(0, sR 287), (2, sI a1), (3, sI t3), (4, sI 0)]) ⟨rfl, rfl, rfl, rfl, trivial⟩ ?_
      refine zs_lp (pc := 59) (fun (t13 : Int) => [(0, sR 287), (2, sI a1), (3, sI t3), (4, sI t13)]) (fun _ => []) (fun K14 hK14 t13 => ?_) BIG 0
      refine zs_iload (pc := 59) (i := 4) C (by decide +kernel) rfl ?_
      refine zs_sipush (pc := 61) (n := 625) (x := 625) C (by decide +kernel) (by decide +kernel) ?_
      refine zs_icmp_ge (pc := 64) (off := 27) (tgt := 91) C (by decide +kernel) (by decide) ?_ ?_
      · refine zs_iinc (pc := 91) (i := 3) (n := 1) (y := w32 (t3 + 1)) (ls' := [(3, sI (w32 (t3 + 1))), (0, sR 287), (2, sI a1), (4, sI t13)]) C (by decide +kernel) rfl rfl (Nat.le_of_ble_eq_true rfl) rfl ?_
        refine zs_goto (pc := 94) (off := (-66)) (tgt := 28) C (by decide +kernel) (by decide) ?_
        exact zs_goj (hK4 (w32 (t3 + 1))) ⟨rfl, rfl, rfl, trivial⟩
      · refine zs_aload_n (pc := 67) (k := 0) (i := 0) C (by decide +kernel) rfl rfl ?_
        refine zs_getR (o' := 303) (pc := 68) (i := 60) (ci := 12) (k := 31) C (by decide +kernel) fl_RX12_60 rfl rfl rfl ?_
        refine zs_iload (pc := 71) (i := 4) C (by decide +kernel) rfl ?_
        refine zs_lconst (pc := 73) (n := 1) (x := 1) C (by decide +kernel) (by decide +kernel) ?_
        refine zs_aload_n (pc := 74) (k := 0) (i := 0) C (by decide +kernel) rfl rfl ?_
        refine zs_getR (o' := 303) (pc := 75) (i := 60) (ci := 12) (k := 31) C (by decide +kernel) fl_RX12_60 rfl rfl rfl ?_
        refine zs_iload (pc := 78) (i := 4) C (by decide +kernel) rfl ?_
        refine zs_lald (pc := 80) (o := 303) (n := 625) C (by decide +kernel) rfl (fun hinx15 x15 => ?_)
        refine zs_mminL (pc := 81) (idx := 305) C wf_2128 wf_1682 wf_166 wf_1683 ⟨Nat.le_of_ble_eq_true rfl, Nat.le_of_ble_eq_true rfl, Nat.le_of_ble_eq_true rfl, Nat.le_of_ble_eq_true rfl⟩ (by decide +kernel) ?_
        refine zs_last (pc := 84) (o := 303) (n := 625) C (fun _ _ _ => rfl) (by decide +kernel) rfl ?_
        refine zs_iinc (pc := 85) (i := 4) (n := 1) (y := w32 (t13 + 1)) (ls' := [(4, sI (w32 (t13 + 1))), (0, sR 287), (2, sI a1), (3, sI t3)]) C (by decide +kernel) rfl rfl (Nat.le_of_ble_eq_true rfl) rfl ?_
        refine zs_goto (pc := 88) (off := (-29)) (tgt := 59) C (by decide +kernel) (by decide) ?_
        exact zs_goj (hK14 (w32 (t13 + 1))) ⟨rfl, rfl, rfl, rfl, trivial⟩
  · refine zs_iconst (pc := 19) (n := 0) (x := 0) C (by decide +kernel) (by decide +kernel) ?_
    exact zs_retWi (pc := 20) C hr ⟨Nat.le_of_ble_eq_true rfl, Nat.le_of_ble_eq_true rfl⟩ (by decide +kernel)
set_option maxRecDepth 20000 in
theorem c_X12_countsFits (l : Launch) (g : GC) (a0 : Int) (a1 : Int) : ConW l g yX12_countsFits cX12_countsFits 6 (some .long) (rmd 8 0 0) [sR 287, sI a0, sI a1] (fun mm => fX12_countsFits a0 a1 mm) := by
  refine zs_ofW (by decide +kernel) (Nat.le_of_ble_eq_true rfl) ?_
  intro p e s m args below meth c C hr
  replace C : Bd g RX12 cX12_countsFits 6 p s m args meth c := C
  unfold fX12_countsFits
  refine zs_aload_n (pc := 0) (k := 0) (i := 0) C (by decide +kernel) rfl rfl ?_
  refine zs_iload_n (pc := 1) (k := 1) (i := 1) C (by decide +kernel) rfl rfl ?_
  refine zs_cvVv (pc := 2) (As := [sI a0]) (st := []) C (fun _ _ _ => rfl) (c_X12_beginsCount l g a0) ml_RX12_496 rfl rfl rfl rfl (Nat.le_of_ble_eq_true rfl) ⟨Nat.le_of_ble_eq_true rfl, Nat.le_of_ble_eq_true rfl⟩ ⟨Nat.le_of_ble_eq_true rfl, Nat.le_of_ble_eq_true rfl⟩ (by decide +kernel) ?_
  refine zs_iconst (pc := 5) (n := 0) (x := 0) C (by decide +kernel) (by decide +kernel) ?_
  refine zs_istore_n (pc := 6) (k := 3) (i := 3) (ls' := [(3, sI 0), (0, sR 287), (1, sI a0), (2, sI a1)]) C (by decide +kernel) rfl (Nat.le_of_ble_eq_true rfl) rfl ?_
  refine zs_sub (ls' := [(0, sR 287), (2, sI a1), (3, sI 0)]) ⟨rfl, rfl, rfl, trivial⟩ ?_
  refine zs_lp (pc := 7) (fun (t1 : Int) => [(0, sR 287), (2, sI a1), (3, sI t1)]) (fun _ => []) (fun K2 hK2 t1 => ?_) BIG 0
  refine zs_iload_n (pc := 7) (k := 3) (i := 3) C (by decide +kernel) rfl rfl ?_
  refine zs_aload_n (pc := 8) (k := 0) (i := 0) C (by decide +kernel) rfl rfl ?_
  refine zs_getR (o' := 310) (pc := 9) (i := 82) (ci := 12) (k := 40) C (by decide +kernel) fl_RX12_82 rfl rfl rfl ?_
  refine zs_iload_n (pc := 12) (k := 2) (i := 2) C (by decide +kernel) rfl rfl ?_
  refine zs_iald (pc := 13) (o := 310) (n := 4) C (by decide +kernel) rfl (fun hinx3 x3 => ?_)
  refine zs_icmp_ge (pc := 14) (off := 27) (tgt := 41) C (by decide +kernel) (by decide) ?_ ?_
  · refine zs_lconst (pc := 41) (n := 0) (x := 0) C (by decide +kernel) (by decide +kernel) ?_
    refine zs_lstore_n (pc := 42) (k := 3) (i := 3) (ls' := [(3, sL 0), (0, sR 287), (2, sI a1)]) C (by decide +kernel) rfl (Nat.le_of_ble_eq_true rfl) rfl ?_
    refine zs_iconst (pc := 43) (n := 0) (x := 0) C (by decide +kernel) (by decide +kernel) ?_
    refine zs_istore (pc := 44) (i := 5) (ls' := [(5, sI 0), (3, sL 0), (0, sR 287), (2, sI a1)]) C (by decide +kernel) (Nat.le_of_ble_eq_true rfl) rfl ?_
    refine zs_sub (ls' := [(0, sR 287), (3, sL 0), (5, sI 0)]) ⟨rfl, rfl, rfl, trivial⟩ ?_
    refine zs_lp (pc := 46) (fun (t4 : Int × Int) => [(0, sR 287), (3, sL t4.1), (5, sI t4.2)]) (fun _ => []) (fun K5 hK5 t4 => ?_) BIG (0, 0)
    refine zs_iload (pc := 46) (i := 5) C (by decide +kernel) rfl ?_
    refine zs_sipush (pc := 48) (n := 625) (x := 625) C (by decide +kernel) (by decide +kernel) ?_
    refine zs_icmp_ge (pc := 51) (off := 19) (tgt := 70) C (by decide +kernel) (by decide) ?_ ?_
    · refine zs_lload_n (pc := 70) (k := 3) (i := 3) C (by decide +kernel) rfl rfl ?_
      exact zs_retWl (pc := 71) C hr ⟨Nat.le_of_ble_eq_true rfl, Nat.le_of_ble_eq_true rfl⟩ (by decide +kernel)
    · refine zs_lload_n (pc := 54) (k := 3) (i := 3) C (by decide +kernel) rfl rfl ?_
      refine zs_aload_n (pc := 55) (k := 0) (i := 0) C (by decide +kernel) rfl rfl ?_
      refine zs_getR (o' := 303) (pc := 56) (i := 60) (ci := 12) (k := 31) C (by decide +kernel) fl_RX12_60 rfl rfl rfl ?_
      refine zs_iload (pc := 59) (i := 5) C (by decide +kernel) rfl ?_
      refine zs_lald (pc := 61) (o := 303) (n := 625) C (by decide +kernel) rfl (fun hinx6 x6 => ?_)
      refine zs_ladd (pc := 62) C (by decide +kernel) ?_
      refine zs_letL (fun x7 => ?_)
      refine zs_lstore_n (pc := 63) (k := 3) (i := 3) (ls' := [(3, sL x7), (0, sR 287), (5, sI t4.2)]) C (by decide +kernel) rfl (Nat.le_of_ble_eq_true rfl) rfl ?_
      refine zs_iinc (pc := 64) (i := 5) (n := 1) (y := w32 (t4.2 + 1)) (ls' := [(5, sI (w32 (t4.2 + 1))), (3, sL x7), (0, sR 287)]) C (by decide +kernel) rfl rfl (Nat.le_of_ble_eq_true rfl) rfl ?_
      refine zs_goto (pc := 67) (off := (-21)) (tgt := 46) C (by decide +kernel) (by decide) ?_
      exact zs_goj (hK5 (x7, w32 (t4.2 + 1))) ⟨rfl, rfl, rfl, trivial⟩
  · refine zs_aload_n (pc := 17) (k := 0) (i := 0) C (by decide +kernel) rfl rfl ?_
    refine zs_iload_n (pc := 18) (k := 3) (i := 3) C (by decide +kernel) rfl rfl ?_
    refine zs_iconst (pc := 19) (n := 1) (x := 1) C (by decide +kernel) (by decide +kernel) ?_
    refine zs_iadd (pc := 20) C (by decide +kernel) ?_
    refine zs_aload_n (pc := 21) (k := 0) (i := 0) C (by decide +kernel) rfl rfl ?_
    refine zs_getR (o' := 311) (pc := 22) (i := 85) (ci := 12) (k := 41) C (by decide +kernel) fl_RX12_85 rfl rfl rfl ?_
    refine zs_bipush (pc := 25) (n := 30) (x := 30) C (by decide +kernel) (by decide +kernel) ?_
    refine zs_iload_n (pc := 27) (k := 2) (i := 2) C (by decide +kernel) rfl rfl ?_
    refine zs_imul (pc := 28) C (by decide +kernel) ?_
    refine zs_iload_n (pc := 29) (k := 3) (i := 3) C (by decide +kernel) rfl rfl ?_
    refine zs_iadd (pc := 30) C (by decide +kernel) ?_
    refine zs_lald (pc := 31) (o := 311) (n := 120) C (by decide +kernel) rfl (fun hinx8 x8 => ?_)
    refine zs_cvVv (pc := 32) (As := [sI (w32 (t1 + 1)), sL x8]) (st := []) C (fun _ _ _ => rfl) (c_X12_countsOn l g (w32 (t1 + 1)) x8) ml_RX12_499 rfl rfl rfl rfl (Nat.le_of_ble_eq_true rfl) ⟨Nat.le_of_ble_eq_true rfl, Nat.le_of_ble_eq_true rfl⟩ ⟨Nat.le_of_ble_eq_true rfl, Nat.le_of_ble_eq_true rfl⟩ (by decide +kernel) ?_
    refine zs_iinc (pc := 35) (i := 3) (n := 1) (y := w32 (t1 + 1)) (ls' := [(3, sI (w32 (t1 + 1))), (0, sR 287), (2, sI a1)]) C (by decide +kernel) rfl rfl (Nat.le_of_ble_eq_true rfl) rfl ?_
    refine zs_goto (pc := 38) (off := (-31)) (tgt := 7) C (by decide +kernel) (by decide) ?_
    exact zs_goj (hK2 (w32 (t1 + 1))) ⟨rfl, rfl, rfl, trivial⟩
set_option maxRecDepth 20000 in
theorem c_X12_fits (l : Launch) (g : GC) (a0 : Int) (a1 : Int) : ConW l g yX12_fits cX12_fits 3 (some .long) (rmd 9 0 0) [sR 287, sI a0, sI a1] (fun mm => fX12_fits a0 a1 mm) := by
  refine zs_ofW (by decide +kernel) (Nat.le_of_ble_eq_true rfl) ?_
  intro p e s m args below meth c C hr
  replace C : Bd g RX12 cX12_fits 3 p s m args meth c := C
  unfold fX12_fits
  refine zs_aload_n (pc := 0) (k := 0) (i := 0) C (by decide +kernel) rfl rfl ?_
  refine zs_aload_n (pc := 1) (k := 0) (i := 0) C (by decide +kernel) rfl rfl ?_
  refine zs_iload_n (pc := 2) (k := 1) (i := 1) C (by decide +kernel) rfl rfl ?_
  refine zs_iload_n (pc := 3) (k := 2) (i := 2) C (by decide +kernel) rfl rfl ?_
  refine zs_bipush (pc := 4) (n := 8) (x := 8) C (by decide +kernel) (by decide +kernel) ?_
  refine zs_cvRi (pc := 6) (As := [sI a0, sI a1, sI 8]) (st := [sR 287]) C rfl (c_X12_watchedFault l g a0 a1 8) ml_RX12_548 rfl rfl rfl rfl (Nat.le_of_ble_eq_true rfl) ⟨Nat.le_of_ble_eq_true rfl, Nat.le_of_ble_eq_true rfl⟩ ⟨Nat.le_of_ble_eq_true rfl, Nat.le_of_ble_eq_true rfl⟩ (by decide +kernel) (fun x1 => ?_)
  refine zs_putI (pc := 9) (i := 88) (ci := 12) (k := 4) C (fun _ _ _ => rfl) (by decide +kernel) fl_RX12_88 fw_12_4 rfl rfl ?_
  refine zs_aload_n (pc := 12) (k := 0) (i := 0) C (by decide +kernel) rfl rfl ?_
  refine zs_getI (pc := 13) (i := 88) (ci := 12) (k := 4) C (by decide +kernel) fl_RX12_88 rfl rfl (fun x2 => ?_)
  refine zs_jn (pJ := 29) (kJ := 0) (sJ := 0) (fun t3 => []) (fun t3 => [sL t3]) (fun t3 => ?_) (fun J4 hJ4 => ?_)
  · exact zs_retWl (pc := 29) C hr ⟨Nat.le_of_ble_eq_true rfl, Nat.le_of_ble_eq_true rfl⟩ (by decide +kernel)
  · refine zs_if_le (pc := 16) (off := 7) (tgt := 23) C (by decide +kernel) (by decide) ?_ ?_
    · refine zs_aload_n (pc := 23) (k := 0) (i := 0) C (by decide +kernel) rfl rfl ?_
      refine zs_iload_n (pc := 24) (k := 1) (i := 1) C (by decide +kernel) rfl rfl ?_
      refine zs_iload_n (pc := 25) (k := 2) (i := 2) C (by decide +kernel) rfl rfl ?_
      refine zs_cvWl (pc := 26) (As := [sI a0, sI a1]) (st := []) C (fun _ _ _ => rfl) (c_X12_countsFits l g a0 a1) ml_RX12_551 rfl rfl rfl rfl (Nat.le_of_ble_eq_true rfl) ⟨Nat.le_of_ble_eq_true rfl, Nat.le_of_ble_eq_true rfl⟩ ⟨Nat.le_of_ble_eq_true rfl, Nat.le_of_ble_eq_true rfl⟩ (by decide +kernel) (fun x5 => ?_)
      exact zs_goj (hJ4 x5) trivial
    · refine zs_lconst (pc := 19) (n := 0) (x := 0) C (by decide +kernel) (by decide +kernel) ?_
      refine zs_goto (pc := 20) (off := 9) (tgt := 29) C (by decide +kernel) (by decide) ?_
      exact zs_goj (hJ4 0) trivial
set_option maxRecDepth 20000 in
theorem c_X12_look (l : Launch) (g : GC) (a0 : Int) (a1 : Int) : ConW l g yX12_look cX12_look 13 (some .int) (rmd 9 0 0) [sR 287, sI a0, sI a1] (fun mm => fX12_look a0 a1 mm) := by
  refine zs_ofW (by decide +kernel) (Nat.le_of_ble_eq_true rfl) ?_
  intro p e s m args below meth c C hr
  replace C : Bd g RX12 cX12_look 13 p s m args meth c := C
  unfold fX12_look
  refine zs_aload_n (pc := 0) (k := 0) (i := 0) C (by decide +kernel) rfl rfl ?_
  refine zs_aload_n (pc := 1) (k := 0) (i := 0) C (by decide +kernel) rfl rfl ?_
  refine zs_iload_n (pc := 2) (k := 1) (i := 1) C (by decide +kernel) rfl rfl ?_
  refine zs_iload_n (pc := 3) (k := 2) (i := 2) C (by decide +kernel) rfl rfl ?_
  refine zs_bipush (pc := 4) (n := 8) (x := 8) C (by decide +kernel) (by decide +kernel) ?_
  refine zs_cvRi (pc := 6) (As := [sI a0, sI a1, sI 8]) (st := [sR 287]) C rfl (c_X12_watchedFault l g a0 a1 8) ml_RX12_548 rfl rfl rfl rfl (Nat.le_of_ble_eq_true rfl) ⟨Nat.le_of_ble_eq_true rfl, Nat.le_of_ble_eq_true rfl⟩ ⟨Nat.le_of_ble_eq_true rfl, Nat.le_of_ble_eq_true rfl⟩ (by decide +kernel) (fun x1 => ?_)
  refine zs_putI (pc := 9) (i := 88) (ci := 12) (k := 4) C (fun _ _ _ => rfl) (by decide +kernel) fl_RX12_88 fw_12_4 rfl rfl ?_
  refine zs_aload_n (pc := 12) (k := 0) (i := 0) C (by decide +kernel) rfl rfl ?_
  refine zs_getI (pc := 13) (i := 88) (ci := 12) (k := 4) C (by decide +kernel) fl_RX12_88 rfl rfl (fun x2 => ?_)
  refine zs_if_le (pc := 16) (off := 5) (tgt := 21) C (by decide +kernel) (by decide) ?_ ?_
  · refine zs_aload_n (pc := 21) (k := 0) (i := 0) C (by decide +kernel) rfl rfl ?_
    refine zs_iload_n (pc := 22) (k := 1) (i := 1) C (by decide +kernel) rfl rfl ?_
    refine zs_iload_n (pc := 23) (k := 2) (i := 2) C (by decide +kernel) rfl rfl ?_
    refine zs_cvWl (pc := 24) (As := [sI a0, sI a1]) (st := []) C (fun _ _ _ => rfl) (c_X12_countsFits l g a0 a1) ml_RX12_551 rfl rfl rfl rfl (Nat.le_of_ble_eq_true rfl) ⟨Nat.le_of_ble_eq_true rfl, Nat.le_of_ble_eq_true rfl⟩ ⟨Nat.le_of_ble_eq_true rfl, Nat.le_of_ble_eq_true rfl⟩ (by decide +kernel) (fun x3 => ?_)
    refine zs_lstore_n (pc := 27) (k := 3) (i := 3) (ls' := [(3, sL x3), (0, sR 287), (1, sI a0), (2, sI a1)]) C (by decide +kernel) rfl (Nat.le_of_ble_eq_true rfl) rfl ?_
    refine zs_lload_n (pc := 28) (k := 3) (i := 3) C (by decide +kernel) rfl rfl ?_
    refine zs_lconst (pc := 29) (n := 0) (x := 0) C (by decide +kernel) (by decide +kernel) ?_
    refine zs_lcmp_ne (pc := 30) (off := 5) (tgt := 36) C (by decide +kernel) (by decide +kernel) (by decide) ?_ ?_
    · refine zs_iconst (pc := 36) (n := (-1)) (x := (-1)) C (by decide +kernel) (by decide +kernel) ?_
      refine zs_istore (pc := 37) (i := 5) (ls' := [(5, sI ((-1))), (3, sL x3), (0, sR 287), (1, sI a0), (2, sI a1)]) C (by decide +kernel) (Nat.le_of_ble_eq_true rfl) rfl ?_
      refine zs_ldc2 (pc := 39) (i := 395) (v := (-1)) (x := (-1)) C (by decide +kernel) wf_2229 (by decide +kernel) ?_
      refine zs_lstore (pc := 42) (i := 6) (ls' := [(6, sL ((-1))), (5, sI ((-1))), (3, sL x3), (0, sR 287), (1, sI a0), (2, sI a1)]) C (by decide +kernel) (Nat.le_of_ble_eq_true rfl) rfl ?_
      refine zs_iconst (pc := 44) (n := 0) (x := 0) C (by decide +kernel) (by decide +kernel) ?_
      refine zs_istore (pc := 45) (i := 8) (ls' := [(8, sI 0), (6, sL ((-1))), (5, sI ((-1))), (3, sL x3), (0, sR 287), (1, sI a0), (2, sI a1)]) C (by decide +kernel) (Nat.le_of_ble_eq_true rfl) rfl ?_
      refine zs_sub (ls' := [(0, sR 287), (3, sL x3), (5, sI ((-1))), (6, sL ((-1))), (8, sI 0)]) ⟨rfl, rfl, rfl, rfl, rfl, trivial⟩ ?_
      refine zs_lp (pc := 47) (fun (t4 : Int × Int × Int) => [(0, sR 287), (3, sL x3), (5, sI t4.1), (6, sL t4.2.1), (8, sI t4.2.2)]) (fun _ => []) (fun K5 hK5 t4 => ?_) BIG ((-1), (-1), 0)
      refine zs_iload (pc := 47) (i := 8) C (by decide +kernel) rfl ?_
      refine zs_aload_n (pc := 49) (k := 0) (i := 0) C (by decide +kernel) rfl rfl ?_
      refine zs_cvRi (pc := 50) (As := []) (st := [sI t4.2.2]) C rfl (c_X12_places l g ) ml_RX12_290 rfl rfl rfl rfl (Nat.le_of_ble_eq_true rfl) ⟨Nat.le_of_ble_eq_true rfl, Nat.le_of_ble_eq_true rfl⟩ ⟨Nat.le_of_ble_eq_true rfl, Nat.le_of_ble_eq_true rfl⟩ (by decide +kernel) (fun x6 => ?_)
      refine zs_icmp_ge (pc := 53) (off := 76) (tgt := 129) C (by decide +kernel) (by decide) ?_ ?_
      · refine zs_iload (pc := 129) (i := 5) C (by decide +kernel) rfl ?_
        exact zs_retWi (pc := 131) C hr ⟨Nat.le_of_ble_eq_true rfl, Nat.le_of_ble_eq_true rfl⟩ (by decide +kernel)
      · refine zs_lconst (pc := 56) (n := 0) (x := 0) C (by decide +kernel) (by decide +kernel) ?_
        refine zs_lstore (pc := 57) (i := 9) (ls' := [(9, sL 0), (0, sR 287), (3, sL x3), (5, sI t4.1), (6, sL t4.2.1), (8, sI t4.2.2)]) C (by decide +kernel) (Nat.le_of_ble_eq_true rfl) rfl ?_
        refine zs_iconst (pc := 59) (n := 0) (x := 0) C (by decide +kernel) (by decide +kernel) ?_
        refine zs_istore (pc := 60) (i := 11) (ls' := [(11, sI 0), (9, sL 0), (0, sR 287), (3, sL x3), (5, sI t4.1), (6, sL t4.2.1), (8, sI t4.2.2)]) C (by decide +kernel) (Nat.le_of_ble_eq_true rfl) rfl ?_
        refine zs_sub (ls' := [(0, sR 287), (3, sL x3), (5, sI t4.1), (6, sL t4.2.1), (8, sI t4.2.2), (9, sL 0), (11, sI 0)]) ⟨rfl, rfl, rfl, rfl, rfl, rfl, rfl, trivial⟩ ?_
        refine zs_lp (pc := 62) (fun (t7 : Int × Int) => [(0, sR 287), (3, sL x3), (5, sI t4.1), (6, sL t4.2.1), (8, sI t4.2.2), (9, sL t7.1), (11, sI t7.2)]) (fun _ => []) (fun K8 hK8 t7 => ?_) BIG (0, 0)
        refine zs_iload (pc := 62) (i := 11) C (by decide +kernel) rfl ?_
        refine zs_bipush (pc := 64) (n := 25) (x := 25) C (by decide +kernel) (by decide +kernel) ?_
        refine zs_icmp_ge (pc := 66) (off := 27) (tgt := 93) C (by decide +kernel) (by decide) ?_ ?_
        · refine zs_lload (pc := 93) (i := 9) C (by decide +kernel) rfl ?_
          refine zs_lload_n (pc := 95) (k := 3) (i := 3) C (by decide +kernel) rfl rfl ?_
          refine zs_lload (pc := 96) (i := 9) C (by decide +kernel) rfl ?_
          refine zs_lsub (pc := 98) C (by decide +kernel) ?_
          refine zs_mminL (pc := 99) (idx := 305) C wf_2128 wf_1682 wf_166 wf_1683 ⟨Nat.le_of_ble_eq_true rfl, Nat.le_of_ble_eq_true rfl, Nat.le_of_ble_eq_true rfl, Nat.le_of_ble_eq_true rfl⟩ (by decide +kernel) ?_
          refine zs_letL (fun x9 => ?_)
          refine zs_lstore (pc := 102) (i := 11) (ls' := [(11, sL x9), (0, sR 287), (3, sL x3), (5, sI t4.1), (6, sL t4.2.1), (8, sI t4.2.2), (9, sL t7.1)]) C (by decide +kernel) (Nat.le_of_ble_eq_true rfl) rfl ?_
          refine zs_lload (pc := 104) (i := 11) C (by decide +kernel) rfl ?_
          refine zs_lload (pc := 106) (i := 6) C (by decide +kernel) rfl ?_
          refine zs_jn (pJ := 123) (kJ := 0) (sJ := 0) (fun t10 => [(0, sR 287), (3, sL x3), (5, sI t10.1), (6, sL t10.2), (8, sI t4.2.2)]) (fun t10 => []) (fun t10 => ?_) (fun J11 hJ11 => ?_)
          · refine zs_iinc (pc := 123) (i := 8) (n := 1) (y := w32 (t4.2.2 + 1)) (ls' := [(8, sI (w32 (t4.2.2 + 1))), (0, sR 287), (3, sL x3), (5, sI t10.1), (6, sL t10.2)]) C (by decide +kernel) rfl rfl (Nat.le_of_ble_eq_true rfl) rfl ?_
            refine zs_goto (pc := 126) (off := (-79)) (tgt := 47) C (by decide +kernel) (by decide) ?_
            exact zs_goj (hK5 (t10.1, t10.2, w32 (t4.2.2 + 1))) ⟨rfl, rfl, rfl, rfl, rfl, trivial⟩
          · refine zs_lcmp_gt (pc := 108) (off := 6) (tgt := 115) C (by decide +kernel) (by decide +kernel) (by decide) ?_ ?_
            · refine zs_iload (pc := 115) (i := 8) C (by decide +kernel) rfl ?_
              refine zs_istore (pc := 117) (i := 5) (ls' := [(5, sI t4.2.2), (11, sL x9), (0, sR 287), (3, sL x3), (6, sL t4.2.1), (8, sI t4.2.2), (9, sL t7.1)]) C (by decide +kernel) (Nat.le_of_ble_eq_true rfl) rfl ?_
              refine zs_lload (pc := 119) (i := 11) C (by decide +kernel) rfl ?_
              refine zs_lstore (pc := 121) (i := 6) (ls' := [(6, sL x9), (5, sI t4.2.2), (11, sL x9), (0, sR 287), (3, sL x3), (8, sI t4.2.2), (9, sL t7.1)]) C (by decide +kernel) (Nat.le_of_ble_eq_true rfl) rfl ?_
              exact zs_goj (hJ11 (t4.2.2, x9)) ⟨rfl, rfl, rfl, rfl, rfl, trivial⟩
            · refine zs_goto (pc := 112) (off := 11) (tgt := 123) C (by decide +kernel) (by decide) ?_
              exact zs_goj (hJ11 (t4.1, t4.2.1)) ⟨rfl, rfl, rfl, rfl, rfl, trivial⟩
        · refine zs_lload (pc := 69) (i := 9) C (by decide +kernel) rfl ?_
          refine zs_aload_n (pc := 71) (k := 0) (i := 0) C (by decide +kernel) rfl rfl ?_
          refine zs_getR (o' := 303) (pc := 72) (i := 60) (ci := 12) (k := 31) C (by decide +kernel) fl_RX12_60 rfl rfl rfl ?_
          refine zs_bipush (pc := 75) (n := 25) (x := 25) C (by decide +kernel) (by decide +kernel) ?_
          refine zs_iload (pc := 77) (i := 11) C (by decide +kernel) rfl ?_
          refine zs_imul (pc := 79) C (by decide +kernel) ?_
          refine zs_iload (pc := 80) (i := 8) C (by decide +kernel) rfl ?_
          refine zs_iadd (pc := 82) C (by decide +kernel) ?_
          refine zs_lald (pc := 83) (o := 303) (n := 625) C (by decide +kernel) rfl (fun hinx12 x12 => ?_)
          refine zs_ladd (pc := 84) C (by decide +kernel) ?_
          refine zs_letL (fun x13 => ?_)
          refine zs_lstore (pc := 85) (i := 9) (ls' := [(9, sL x13), (0, sR 287), (3, sL x3), (5, sI t4.1), (6, sL t4.2.1), (8, sI t4.2.2), (11, sI t7.2)]) C (by decide +kernel) (Nat.le_of_ble_eq_true rfl) rfl ?_
          refine zs_iinc (pc := 87) (i := 11) (n := 1) (y := w32 (t7.2 + 1)) (ls' := [(11, sI (w32 (t7.2 + 1))), (9, sL x13), (0, sR 287), (3, sL x3), (5, sI t4.1), (6, sL t4.2.1), (8, sI t4.2.2)]) C (by decide +kernel) rfl rfl (Nat.le_of_ble_eq_true rfl) rfl ?_
          refine zs_goto (pc := 90) (off := (-28)) (tgt := 62) C (by decide +kernel) (by decide) ?_
          exact zs_goj (hK8 (x13, w32 (t7.2 + 1))) ⟨rfl, rfl, rfl, rfl, rfl, rfl, rfl, trivial⟩
    · refine zs_iconst (pc := 34) (n := (-1)) (x := (-1)) C (by decide +kernel) (by decide +kernel) ?_
      exact zs_retWi (pc := 35) C hr ⟨Nat.le_of_ble_eq_true rfl, Nat.le_of_ble_eq_true rfl⟩ (by decide +kernel)
  · refine zs_iconst (pc := 19) (n := 0) (x := 0) C (by decide +kernel) (by decide +kernel) ?_
    exact zs_retWi (pc := 20) C hr ⟨Nat.le_of_ble_eq_true rfl, Nat.le_of_ble_eq_true rfl⟩ (by decide +kernel)
set_option maxRecDepth 20000 in
theorem c_X12_tray (l : Launch) (g : GC) (a0 : Int) (a1 : Int) (a2 : Int) : ConV l g yX12_tray cX12_tray 5 (rmd 3 0 0) [sR 287, sI a0, sI a1, sI a2] (fun mm => fX12_tray a0 a1 a2 mm) := by
  refine zs_ofV (by decide +kernel) (Nat.le_of_ble_eq_true rfl) ?_
  intro p e s m args below meth c C hr
  replace C : Bd g RX12 cX12_tray 5 p s m args meth c := C
  unfold fX12_tray
  refine zs_aload_n (pc := 0) (k := 0) (i := 0) C (by decide +kernel) rfl rfl ?_
  refine zs_iload_n (pc := 1) (k := 1) (i := 1) C (by decide +kernel) rfl rfl ?_
  refine zs_csRi (pc := 2) (As := [sI a0]) (st := [sR 287]) C rfl (c_X12_isTray l g a0) ml_RX12_392 rfl rfl (Nat.le_of_ble_eq_true rfl) ⟨Nat.le_of_ble_eq_true rfl, Nat.le_of_ble_eq_true rfl⟩ ⟨Nat.le_of_ble_eq_true rfl, Nat.le_of_ble_eq_true rfl⟩ (by decide +kernel) (fun x1 => ?_)
  refine zs_jn (pJ := 41) (kJ := 0) (sJ := 0) (fun t2 => [(0, sR 287), (1, sI a0), (2, sI a1), (3, sI a2)]) (fun t2 => [sI t2, sR 287]) (fun t2 => ?_) (fun J3 hJ3 => ?_)
  · refine zs_putI (pc := 41) (i := 88) (ci := 12) (k := 4) C (fun _ _ _ => rfl) (by decide +kernel) fl_RX12_88 fw_12_4 rfl rfl ?_
    refine zs_aload_n (pc := 44) (k := 0) (i := 0) C (by decide +kernel) rfl rfl ?_
    refine zs_getI (pc := 45) (i := 88) (ci := 12) (k := 4) C (by decide +kernel) fl_RX12_88 rfl rfl (fun x4 => ?_)
    refine zs_if_le (pc := 48) (off := 4) (tgt := 52) C (by decide +kernel) (by decide) ?_ ?_
    · refine zs_aload_n (pc := 52) (k := 0) (i := 0) C (by decide +kernel) rfl rfl ?_
      refine zs_getR (o' := 309) (pc := 53) (i := 79) (ci := 12) (k := 39) C (by decide +kernel) fl_RX12_79 rfl rfl rfl ?_
      refine zs_iload_n (pc := 56) (k := 1) (i := 1) C (by decide +kernel) rfl rfl ?_
      refine zs_iload_n (pc := 57) (k := 2) (i := 2) C (by decide +kernel) rfl rfl ?_
      refine zs_iast (pc := 58) (o := 309) (n := 4) C (fun _ _ _ => rfl) (by decide +kernel) rfl ?_
      refine zs_aload_n (pc := 59) (k := 0) (i := 0) C (by decide +kernel) rfl rfl ?_
      refine zs_getR (o' := 310) (pc := 60) (i := 82) (ci := 12) (k := 40) C (by decide +kernel) fl_RX12_82 rfl rfl rfl ?_
      refine zs_iload_n (pc := 63) (k := 1) (i := 1) C (by decide +kernel) rfl rfl ?_
      refine zs_iload_n (pc := 64) (k := 3) (i := 3) C (by decide +kernel) rfl rfl ?_
      refine zs_iast (pc := 65) (o := 310) (n := 4) C (fun _ _ _ => rfl) (by decide +kernel) rfl ?_
      refine zs_iconst (pc := 66) (n := 0) (x := 0) C (by decide +kernel) (by decide +kernel) ?_
      refine zs_istore (pc := 67) (i := 4) (ls' := [(4, sI 0), (0, sR 287), (1, sI a0), (2, sI a1), (3, sI a2)]) C (by decide +kernel) (Nat.le_of_ble_eq_true rfl) rfl ?_
      refine zs_sub (ls' := [(0, sR 287), (1, sI a0), (4, sI 0)]) ⟨rfl, rfl, rfl, trivial⟩ ?_
      refine zs_lp (pc := 69) (fun (t5 : Int) => [(0, sR 287), (1, sI a0), (4, sI t5)]) (fun _ => []) (fun K6 hK6 t5 => ?_) BIG 0
      refine zs_iload (pc := 69) (i := 4) C (by decide +kernel) rfl ?_
      refine zs_bipush (pc := 71) (n := 30) (x := 30) C (by decide +kernel) (by decide +kernel) ?_
      refine zs_icmp_ge (pc := 73) (off := 22) (tgt := 95) C (by decide +kernel) (by decide) ?_ ?_
      · exact zs_retVv (pc := 95) C hr ⟨Nat.le_of_ble_eq_true rfl, Nat.le_of_ble_eq_true rfl⟩ (by decide +kernel)
      · refine zs_aload_n (pc := 76) (k := 0) (i := 0) C (by decide +kernel) rfl rfl ?_
        refine zs_getR (o' := 311) (pc := 77) (i := 85) (ci := 12) (k := 41) C (by decide +kernel) fl_RX12_85 rfl rfl rfl ?_
        refine zs_bipush (pc := 80) (n := 30) (x := 30) C (by decide +kernel) (by decide +kernel) ?_
        refine zs_iload_n (pc := 82) (k := 1) (i := 1) C (by decide +kernel) rfl rfl ?_
        refine zs_imul (pc := 83) C (by decide +kernel) ?_
        refine zs_iload (pc := 84) (i := 4) C (by decide +kernel) rfl ?_
        refine zs_iadd (pc := 86) C (by decide +kernel) ?_
        refine zs_lconst (pc := 87) (n := 0) (x := 0) C (by decide +kernel) (by decide +kernel) ?_
        refine zs_last (pc := 88) (o := 311) (n := 120) C (fun _ _ _ => rfl) (by decide +kernel) rfl ?_
        refine zs_iinc (pc := 89) (i := 4) (n := 1) (y := w32 (t5 + 1)) (ls' := [(4, sI (w32 (t5 + 1))), (0, sR 287), (1, sI a0)]) C (by decide +kernel) rfl rfl (Nat.le_of_ble_eq_true rfl) rfl ?_
        refine zs_goto (pc := 92) (off := (-23)) (tgt := 69) C (by decide +kernel) (by decide) ?_
        exact zs_goj (hK6 (w32 (t5 + 1))) ⟨rfl, rfl, rfl, trivial⟩
    · exact zs_retVv (pc := 51) C hr ⟨Nat.le_of_ble_eq_true rfl, Nat.le_of_ble_eq_true rfl⟩ (by decide +kernel)
  · refine zs_if_ne (pc := 5) (off := 7) (tgt := 12) C (by decide +kernel) (by decide) ?_ ?_
    · refine zs_iload_n (pc := 12) (k := 2) (i := 2) C (by decide +kernel) rfl rfl ?_
      refine zs_i2l (pc := 13) C (by decide +kernel) ?_
      refine zs_lconst (pc := 14) (n := 0) (x := 0) C (by decide +kernel) (by decide +kernel) ?_
      refine zs_ldc2 (pc := 15) (i := 412) (v := 3) (x := 3) C (by decide +kernel) wf_2220 (by decide +kernel) ?_
      refine zs_csRi (pc := 18) (As := [sL a1, sL 0, sL 3]) (st := [sR 287]) C rfl (c_X12_within l g a1 0 3) ml_RX12_149 rfl rfl (Nat.le_of_ble_eq_true rfl) ⟨Nat.le_of_ble_eq_true rfl, Nat.le_of_ble_eq_true rfl⟩ ⟨Nat.le_of_ble_eq_true rfl, Nat.le_of_ble_eq_true rfl⟩ (by decide +kernel) (fun x7 => ?_)
      refine zs_jn (pJ := 36) (kJ := 0) (sJ := 0) (fun t8 => [(0, sR 287), (1, sI a0), (2, sI a1), (3, sI a2)]) (fun t8 => [sR 287]) (fun t8 => ?_) (fun J9 hJ9 => ?_)
      · refine zs_iconst (pc := 36) (n := 2) (x := 2) C (by decide +kernel) (by decide +kernel) ?_
        refine zs_goto (pc := 37) (off := 4) (tgt := 41) C (by decide +kernel) (by decide) ?_
        exact zs_goj (hJ3 2) ⟨rfl, rfl, rfl, rfl, trivial⟩
      · refine zs_if_eq (pc := 21) (off := 15) (tgt := 36) C (by decide +kernel) (by decide) ?_ ?_
        · exact zs_goj (hJ9 ()) ⟨rfl, rfl, rfl, rfl, trivial⟩
        · refine zs_iload_n (pc := 24) (k := 3) (i := 3) C (by decide +kernel) rfl rfl ?_
          refine zs_i2l (pc := 25) C (by decide +kernel) ?_
          refine zs_lconst (pc := 26) (n := 0) (x := 0) C (by decide +kernel) (by decide +kernel) ?_
          refine zs_ldc2 (pc := 27) (i := 430) (v := 30) (x := 30) C (by decide +kernel) wf_2252 (by decide +kernel) ?_
          refine zs_csRi (pc := 30) (As := [sL a2, sL 0, sL 30]) (st := [sR 287]) C rfl (c_X12_within l g a2 0 30) ml_RX12_149 rfl rfl (Nat.le_of_ble_eq_true rfl) ⟨Nat.le_of_ble_eq_true rfl, Nat.le_of_ble_eq_true rfl⟩ ⟨Nat.le_of_ble_eq_true rfl, Nat.le_of_ble_eq_true rfl⟩ (by decide +kernel) (fun x10 => ?_)
          refine zs_if_ne (pc := 33) (off := 7) (tgt := 40) C (by decide +kernel) (by decide) ?_ ?_
          · refine zs_iconst (pc := 40) (n := 0) (x := 0) C (by decide +kernel) (by decide +kernel) ?_
            exact zs_goj (hJ3 0) ⟨rfl, rfl, rfl, rfl, trivial⟩
          · exact zs_goj (hJ9 ()) ⟨rfl, rfl, rfl, rfl, trivial⟩
    · refine zs_iconst (pc := 8) (n := 1) (x := 1) C (by decide +kernel) (by decide +kernel) ?_
      refine zs_goto (pc := 9) (off := 32) (tgt := 41) C (by decide +kernel) (by decide) ?_
      exact zs_goj (hJ3 1) ⟨rfl, rfl, rfl, rfl, trivial⟩
set_option maxRecDepth 20000 in
theorem c_X12_cut (l : Launch) (g : GC) (a0 : Int) (a1 : Int) (a2 : Int) : ConW l g yX12_cut cX12_cut 6 (some .long) (rmd 1 0 0) [sR 287, sI a0, sI a1, sL a2] (fun mm => fX12_cut a0 a1 a2 mm) := by
  refine zs_ofW (by decide +kernel) (Nat.le_of_ble_eq_true rfl) ?_
  intro p e s m args below meth c C hr
  replace C : Bd g RX12 cX12_cut 6 p s m args meth c := C
  unfold fX12_cut
  refine zs_bipush (pc := 0) (n := 64) (x := 64) C (by decide +kernel) (by decide +kernel) ?_
  refine zs_bipush (pc := 2) (n := 8) (x := 8) C (by decide +kernel) (by decide +kernel) ?_
  refine zs_aload_n (pc := 4) (k := 0) (i := 0) C (by decide +kernel) rfl rfl ?_
  refine zs_getR (o' := 309) (pc := 5) (i := 79) (ci := 12) (k := 39) C (by decide +kernel) fl_RX12_79 rfl rfl rfl ?_
  refine zs_iload_n (pc := 8) (k := 1) (i := 1) C (by decide +kernel) rfl rfl ?_
  refine zs_iald (pc := 9) (o := 309) (n := 4) C (by decide +kernel) rfl (fun hinx1 x1 => ?_)
  refine zs_ishl (pc := 10) C (by decide +kernel) ?_
  refine zs_isub (pc := 11) C (by decide +kernel) ?_
  refine zs_let (fun x2 => ?_)
  refine zs_istore (pc := 12) (i := 5) (ls' := [(5, sI x2), (0, sR 287), (1, sI a0), (2, sI a1), (3, sL a2)]) C (by decide +kernel) (Nat.le_of_ble_eq_true rfl) rfl ?_
  refine zs_aload_n (pc := 14) (k := 0) (i := 0) C (by decide +kernel) rfl rfl ?_
  refine zs_getR (o' := 311) (pc := 15) (i := 85) (ci := 12) (k := 41) C (by decide +kernel) fl_RX12_85 rfl rfl rfl ?_
  refine zs_bipush (pc := 18) (n := 30) (x := 30) C (by decide +kernel) (by decide +kernel) ?_
  refine zs_iload_n (pc := 20) (k := 1) (i := 1) C (by decide +kernel) rfl rfl ?_
  refine zs_imul (pc := 21) C (by decide +kernel) ?_
  refine zs_iload_n (pc := 22) (k := 2) (i := 2) C (by decide +kernel) rfl rfl ?_
  refine zs_iadd (pc := 23) C (by decide +kernel) ?_
  refine zs_lload_n (pc := 24) (k := 3) (i := 3) C (by decide +kernel) rfl rfl ?_
  refine zs_iload (pc := 25) (i := 5) C (by decide +kernel) rfl ?_
  refine zs_lshl (pc := 27) C (by decide +kernel) ?_
  refine zs_iload (pc := 28) (i := 5) C (by decide +kernel) rfl ?_
  refine zs_lshr (pc := 30) C (by decide +kernel) ?_
  refine zs_last (pc := 31) (o := 311) (n := 120) C (fun _ _ _ => rfl) (by decide +kernel) rfl ?_
  refine zs_aload_n (pc := 32) (k := 0) (i := 0) C (by decide +kernel) rfl rfl ?_
  refine zs_getR (o' := 311) (pc := 33) (i := 85) (ci := 12) (k := 41) C (by decide +kernel) fl_RX12_85 rfl rfl rfl ?_
  refine zs_bipush (pc := 36) (n := 30) (x := 30) C (by decide +kernel) (by decide +kernel) ?_
  refine zs_iload_n (pc := 38) (k := 1) (i := 1) C (by decide +kernel) rfl rfl ?_
  refine zs_imul (pc := 39) C (by decide +kernel) ?_
  refine zs_iload_n (pc := 40) (k := 2) (i := 2) C (by decide +kernel) rfl rfl ?_
  refine zs_iadd (pc := 41) C (by decide +kernel) ?_
  refine zs_lald (pc := 42) (o := 311) (n := 120) C (by decide +kernel) rfl (fun hinx3 x3 => ?_)
  exact zs_retWl (pc := 43) C hr ⟨Nat.le_of_ble_eq_true rfl, Nat.le_of_ble_eq_true rfl⟩ (by decide +kernel)
set_option maxRecDepth 20000 in
theorem c_X12_write (l : Launch) (g : GC) (a0 : Int) (a1 : Int) (a2 : Int) : ConW l g yX12_write cX12_write 5 (some .long) (rmd 4 0 0) [sR 287, sI a0, sI a1, sL a2] (fun mm => fX12_write a0 a1 a2 mm) := by
  refine zs_ofW (by decide +kernel) (Nat.le_of_ble_eq_true rfl) ?_
  intro p e s m args below meth c C hr
  replace C : Bd g RX12 cX12_write 5 p s m args meth c := C
  unfold fX12_write
  refine zs_aload_n (pc := 0) (k := 0) (i := 0) C (by decide +kernel) rfl rfl ?_
  refine zs_aload_n (pc := 1) (k := 0) (i := 0) C (by decide +kernel) rfl rfl ?_
  refine zs_iload_n (pc := 2) (k := 1) (i := 1) C (by decide +kernel) rfl rfl ?_
  refine zs_cvRi (pc := 3) (As := [sI a0]) (st := [sR 287]) C rfl (c_X12_trayFault l g a0) ml_RX12_409 rfl rfl rfl rfl (Nat.le_of_ble_eq_true rfl) ⟨Nat.le_of_ble_eq_true rfl, Nat.le_of_ble_eq_true rfl⟩ ⟨Nat.le_of_ble_eq_true rfl, Nat.le_of_ble_eq_true rfl⟩ (by decide +kernel) (fun x1 => ?_)
  refine zs_putI (pc := 6) (i := 88) (ci := 12) (k := 4) C (fun _ _ _ => rfl) (by decide +kernel) fl_RX12_88 fw_12_4 rfl rfl ?_
  refine zs_aload_n (pc := 9) (k := 0) (i := 0) C (by decide +kernel) rfl rfl ?_
  refine zs_getI (pc := 10) (i := 88) (ci := 12) (k := 4) C (by decide +kernel) fl_RX12_88 rfl rfl (fun x2 => ?_)
  refine zs_if_le (pc := 13) (off := 5) (tgt := 18) C (by decide +kernel) (by decide) ?_ ?_
  · refine zs_iload_n (pc := 18) (k := 2) (i := 2) C (by decide +kernel) rfl rfl ?_
    refine zs_i2l (pc := 19) C (by decide +kernel) ?_
    refine zs_lconst (pc := 20) (n := 0) (x := 0) C (by decide +kernel) (by decide +kernel) ?_
    refine zs_aload_n (pc := 21) (k := 0) (i := 0) C (by decide +kernel) rfl rfl ?_
    refine zs_getR (o' := 310) (pc := 22) (i := 82) (ci := 12) (k := 40) C (by decide +kernel) fl_RX12_82 rfl rfl rfl ?_
    refine zs_iload_n (pc := 25) (k := 1) (i := 1) C (by decide +kernel) rfl rfl ?_
    refine zs_iald (pc := 26) (o := 310) (n := 4) C (by decide +kernel) rfl (fun hinx3 x3 => ?_)
    refine zs_iconst (pc := 27) (n := 1) (x := 1) C (by decide +kernel) (by decide +kernel) ?_
    refine zs_isub (pc := 28) C (by decide +kernel) ?_
    refine zs_i2l (pc := 29) C (by decide +kernel) ?_
    refine zs_csRi (pc := 30) (As := [sL a1, sL 0, sL (w32 (x3 - 1))]) (st := []) C rfl (c_X12_within l g a1 0 (w32 (x3 - 1))) ml_RX12_149 rfl rfl (Nat.le_of_ble_eq_true rfl) ⟨Nat.le_of_ble_eq_true rfl, Nat.le_of_ble_eq_true rfl⟩ ⟨Nat.le_of_ble_eq_true rfl, Nat.le_of_ble_eq_true rfl⟩ (by decide +kernel) (fun x4 => ?_)
    refine zs_jn (pJ := 52) (kJ := 0) (sJ := 0) (fun t5 => []) (fun t5 => [sL t5]) (fun t5 => ?_) (fun J6 hJ6 => ?_)
    · exact zs_retWl (pc := 52) C hr ⟨Nat.le_of_ble_eq_true rfl, Nat.le_of_ble_eq_true rfl⟩ (by decide +kernel)
    · refine zs_if_eq (pc := 33) (off := 13) (tgt := 46) C (by decide +kernel) (by decide) ?_ ?_
      · refine zs_aload_n (pc := 46) (k := 0) (i := 0) C (by decide +kernel) rfl rfl ?_
        refine zs_iconst (pc := 47) (n := 3) (x := 3) C (by decide +kernel) (by decide +kernel) ?_
        refine zs_cvWi (pc := 48) (As := [sI 3]) (st := []) C (fun _ _ _ => rfl) rfl (c_X12_fails l g 3) ml_RX12_279 rfl rfl rfl rfl (Nat.le_of_ble_eq_true rfl) ⟨Nat.le_of_ble_eq_true rfl, Nat.le_of_ble_eq_true rfl⟩ ⟨Nat.le_of_ble_eq_true rfl, Nat.le_of_ble_eq_true rfl⟩ (by decide +kernel) (fun x7 => ?_)
        refine zs_i2l (pc := 51) C (by decide +kernel) ?_
        exact zs_goj (hJ6 x7) trivial
      · refine zs_aload_n (pc := 36) (k := 0) (i := 0) C (by decide +kernel) rfl rfl ?_
        refine zs_iload_n (pc := 37) (k := 1) (i := 1) C (by decide +kernel) rfl rfl ?_
        refine zs_iload_n (pc := 38) (k := 2) (i := 2) C (by decide +kernel) rfl rfl ?_
        refine zs_lload_n (pc := 39) (k := 3) (i := 3) C (by decide +kernel) rfl rfl ?_
        refine zs_cvWl (pc := 40) (As := [sI a0, sI a1, sL a2]) (st := []) C (fun _ _ _ => rfl) (c_X12_cut l g a0 a1 a2) ml_RX12_555 rfl rfl rfl rfl (Nat.le_of_ble_eq_true rfl) ⟨Nat.le_of_ble_eq_true rfl, Nat.le_of_ble_eq_true rfl⟩ ⟨Nat.le_of_ble_eq_true rfl, Nat.le_of_ble_eq_true rfl⟩ (by decide +kernel) (fun x8 => ?_)
        refine zs_goto (pc := 43) (off := 9) (tgt := 52) C (by decide +kernel) (by decide) ?_
        exact zs_goj (hJ6 x8) trivial
  · refine zs_lconst (pc := 16) (n := 0) (x := 0) C (by decide +kernel) (by decide +kernel) ?_
    exact zs_retWl (pc := 17) C hr ⟨Nat.le_of_ble_eq_true rfl, Nat.le_of_ble_eq_true rfl⟩ (by decide +kernel)
set_option maxRecDepth 20000 in
theorem c_X12_copy (l : Launch) (g : GC) (a0 : Int) (a1 : Int) (a2 : Int) (a3 : Int) : ConW l g yX12_copy cX12_copy 8 (some .int) (rmd 8 0 0) [sR 287, sI a0, sI a1, sI a2, sI a3] (fun mm => fX12_copy a0 a1 a2 a3 mm) := by
  refine zs_ofW (by decide +kernel) (Nat.le_of_ble_eq_true rfl) ?_
  intro p e s m args below meth c C hr
  replace C : Bd g RX12 cX12_copy 8 p s m args meth c := C
  unfold fX12_copy
  refine zs_aload_n (pc := 0) (k := 0) (i := 0) C (by decide +kernel) rfl rfl ?_
  refine zs_iload_n (pc := 1) (k := 1) (i := 1) C (by decide +kernel) rfl rfl ?_
  refine zs_csRi (pc := 2) (As := [sI a0]) (st := [sR 287]) C rfl (c_X12_isTray l g a0) ml_RX12_392 rfl rfl (Nat.le_of_ble_eq_true rfl) ⟨Nat.le_of_ble_eq_true rfl, Nat.le_of_ble_eq_true rfl⟩ ⟨Nat.le_of_ble_eq_true rfl, Nat.le_of_ble_eq_true rfl⟩ (by decide +kernel) (fun x1 => ?_)
  refine zs_jn (pJ := 55) (kJ := 0) (sJ := 0) (fun t2 => [(0, sR 287), (1, sI a0), (2, sI a1), (3, sI a2), (4, sI a3)]) (fun t2 => [sI t2, sR 287]) (fun t2 => ?_) (fun J3 hJ3 => ?_)
  · refine zs_putI (pc := 55) (i := 88) (ci := 12) (k := 4) C (fun _ _ _ => rfl) (by decide +kernel) fl_RX12_88 fw_12_4 rfl rfl ?_
    refine zs_aload_n (pc := 58) (k := 0) (i := 0) C (by decide +kernel) rfl rfl ?_
    refine zs_getI (pc := 59) (i := 88) (ci := 12) (k := 4) C (by decide +kernel) fl_RX12_88 rfl rfl (fun x4 => ?_)
    refine zs_if_le (pc := 62) (off := 5) (tgt := 67) C (by decide +kernel) (by decide) ?_ ?_
    · refine zs_aload_n (pc := 67) (k := 0) (i := 0) C (by decide +kernel) rfl rfl ?_
      refine zs_iload_n (pc := 68) (k := 2) (i := 2) C (by decide +kernel) rfl rfl ?_
      refine zs_iload_n (pc := 69) (k := 3) (i := 3) C (by decide +kernel) rfl rfl ?_
      refine zs_iload (pc := 70) (i := 4) C (by decide +kernel) rfl ?_
      refine zs_cvWi (pc := 72) (As := [sI a1, sI a2, sI a3]) (st := []) C (fun _ _ _ => rfl) rfl (c_X12_laysWay l g a1 a2 a3) ml_RX12_491 rfl rfl rfl rfl (Nat.le_of_ble_eq_true rfl) ⟨Nat.le_of_ble_eq_true rfl, Nat.le_of_ble_eq_true rfl⟩ ⟨Nat.le_of_ble_eq_true rfl, Nat.le_of_ble_eq_true rfl⟩ (by decide +kernel) (fun x5 => ?_)
      refine zs_istore (pc := 75) (i := 5) (ls' := [(5, sI x5), (0, sR 287), (1, sI a0), (2, sI a1), (3, sI a2), (4, sI a3)]) C (by decide +kernel) (Nat.le_of_ble_eq_true rfl) rfl ?_
      refine zs_iload (pc := 77) (i := 5) C (by decide +kernel) rfl ?_
      refine zs_iconst (pc := 79) (n := (-1)) (x := (-1)) C (by decide +kernel) (by decide +kernel) ?_
      refine zs_icmp_ne (pc := 80) (off := 5) (tgt := 85) C (by decide +kernel) (by decide) ?_ ?_
      · refine zs_iload (pc := 85) (i := 5) C (by decide +kernel) rfl ?_
        refine zs_aload_n (pc := 87) (k := 0) (i := 0) C (by decide +kernel) rfl rfl ?_
        refine zs_getR (o' := 310) (pc := 88) (i := 82) (ci := 12) (k := 40) C (by decide +kernel) fl_RX12_82 rfl rfl rfl ?_
        refine zs_iload_n (pc := 91) (k := 1) (i := 1) C (by decide +kernel) rfl rfl ?_
        refine zs_iald (pc := 92) (o := 310) (n := 4) C (by decide +kernel) rfl (fun hinx6 x6 => ?_)
        refine zs_mmin (pc := 93) (idx := 328) C wf_2132 wf_717 wf_166 wf_718 ⟨Nat.le_of_ble_eq_true rfl, Nat.le_of_ble_eq_true rfl, Nat.le_of_ble_eq_true rfl, Nat.le_of_ble_eq_true rfl⟩ (by decide +kernel) ?_
        refine zs_let (fun x7 => ?_)
        refine zs_istore (pc := 96) (i := 6) (ls' := [(6, sI x7), (5, sI x5), (0, sR 287), (1, sI a0), (2, sI a1), (3, sI a2), (4, sI a3)]) C (by decide +kernel) (Nat.le_of_ble_eq_true rfl) rfl ?_
        refine zs_iconst (pc := 98) (n := 0) (x := 0) C (by decide +kernel) (by decide +kernel) ?_
        refine zs_istore (pc := 99) (i := 7) (ls' := [(7, sI 0), (6, sI x7), (5, sI x5), (0, sR 287), (1, sI a0), (2, sI a1), (3, sI a2), (4, sI a3)]) C (by decide +kernel) (Nat.le_of_ble_eq_true rfl) rfl ?_
        refine zs_sub (ls' := [(0, sR 287), (1, sI a0), (2, sI a1), (6, sI x7), (7, sI 0)]) ⟨rfl, rfl, rfl, rfl, rfl, trivial⟩ ?_
        refine zs_lp (pc := 101) (fun (t8 : Int) => [(0, sR 287), (1, sI a0), (2, sI a1), (6, sI x7), (7, sI t8)]) (fun _ => []) (fun K9 hK9 t8 => ?_) BIG 0
        refine zs_iload (pc := 101) (i := 7) C (by decide +kernel) rfl ?_
        refine zs_iload (pc := 103) (i := 6) C (by decide +kernel) rfl ?_
        refine zs_icmp_ge (pc := 105) (off := 32) (tgt := 137) C (by decide +kernel) (by decide) ?_ ?_
        · refine zs_iload (pc := 137) (i := 6) C (by decide +kernel) rfl ?_
          exact zs_retWi (pc := 139) C hr ⟨Nat.le_of_ble_eq_true rfl, Nat.le_of_ble_eq_true rfl⟩ (by decide +kernel)
        · refine zs_aload_n (pc := 108) (k := 0) (i := 0) C (by decide +kernel) rfl rfl ?_
          refine zs_iload_n (pc := 109) (k := 1) (i := 1) C (by decide +kernel) rfl rfl ?_
          refine zs_iload (pc := 110) (i := 7) C (by decide +kernel) rfl ?_
          refine zs_bipush (pc := 112) (n := 100) (x := 100) C (by decide +kernel) (by decide +kernel) ?_
          refine zs_iload_n (pc := 114) (k := 2) (i := 2) C (by decide +kernel) rfl rfl ?_
          refine zs_imul (pc := 115) C (by decide +kernel) ?_
          refine zs_aload_n (pc := 116) (k := 0) (i := 0) C (by decide +kernel) rfl rfl ?_
          refine zs_getR (o' := 302) (pc := 117) (i := 57) (ci := 12) (k := 30) C (by decide +kernel) fl_RX12_57 rfl rfl rfl ?_
          refine zs_iload (pc := 120) (i := 7) C (by decide +kernel) rfl ?_
          refine zs_iconst (pc := 122) (n := 1) (x := 1) C (by decide +kernel) (by decide +kernel) ?_
          refine zs_iadd (pc := 123) C (by decide +kernel) ?_
          refine zs_iald (pc := 124) (o := 302) (n := 41) C (by decide +kernel) rfl (fun hinx10 x10 => ?_)
          refine zs_iadd (pc := 125) C (by decide +kernel) ?_
          refine zs_i2l (pc := 126) C (by decide +kernel) ?_
          refine zs_cvWl (pc := 127) (As := [sI a0, sI t8, sL (w32 ((w32 (100 * a1)) + x10))]) (st := []) C (fun _ _ _ => rfl) (c_X12_cut l g a0 t8 (w32 ((w32 (100 * a1)) + x10))) ml_RX12_555 rfl rfl rfl rfl (Nat.le_of_ble_eq_true rfl) ⟨Nat.le_of_ble_eq_true rfl, Nat.le_of_ble_eq_true rfl⟩ ⟨Nat.le_of_ble_eq_true rfl, Nat.le_of_ble_eq_true rfl⟩ (by decide +kernel) (fun x11 => ?_)
          refine zs_pop2 (pc := 130) C (by decide +kernel) ?_
          refine zs_iinc (pc := 131) (i := 7) (n := 1) (y := w32 (t8 + 1)) (ls' := [(7, sI (w32 (t8 + 1))), (0, sR 287), (1, sI a0), (2, sI a1), (6, sI x7)]) C (by decide +kernel) rfl rfl (Nat.le_of_ble_eq_true rfl) rfl ?_
          refine zs_goto (pc := 134) (off := (-33)) (tgt := 101) C (by decide +kernel) (by decide) ?_
          exact zs_goj (hK9 (w32 (t8 + 1))) ⟨rfl, rfl, rfl, rfl, rfl, trivial⟩
      · refine zs_iconst (pc := 83) (n := (-1)) (x := (-1)) C (by decide +kernel) (by decide +kernel) ?_
        exact zs_retWi (pc := 84) C hr ⟨Nat.le_of_ble_eq_true rfl, Nat.le_of_ble_eq_true rfl⟩ (by decide +kernel)
    · refine zs_iconst (pc := 65) (n := 0) (x := 0) C (by decide +kernel) (by decide +kernel) ?_
      exact zs_retWi (pc := 66) C hr ⟨Nat.le_of_ble_eq_true rfl, Nat.le_of_ble_eq_true rfl⟩ (by decide +kernel)
  · refine zs_jn (pJ := 36) (kJ := 0) (sJ := 0) (fun t12 => [(0, sR 287), (1, sI a0), (2, sI a1), (3, sI a2), (4, sI a3)]) (fun t12 => [sR 287]) (fun t12 => ?_) (fun J13 hJ13 => ?_)
    · refine zs_iconst (pc := 36) (n := 1) (x := 1) C (by decide +kernel) (by decide +kernel) ?_
      refine zs_goto (pc := 37) (off := 18) (tgt := 55) C (by decide +kernel) (by decide) ?_
      exact zs_goj (hJ3 1) ⟨rfl, rfl, rfl, rfl, rfl, trivial⟩
    · refine zs_if_eq (pc := 5) (off := 31) (tgt := 36) C (by decide +kernel) (by decide) ?_ ?_
      · exact zs_goj (hJ13 ()) ⟨rfl, rfl, rfl, rfl, rfl, trivial⟩
      · refine zs_aload_n (pc := 8) (k := 0) (i := 0) C (by decide +kernel) rfl rfl ?_
        refine zs_iload_n (pc := 9) (k := 2) (i := 2) C (by decide +kernel) rfl rfl ?_
        refine zs_i2l (pc := 10) C (by decide +kernel) ?_
        refine zs_cvRi (pc := 11) (As := [sL a1]) (st := [sR 287]) C rfl (c_X12_isPair l g a1) ml_RX12_338 rfl rfl rfl rfl (Nat.le_of_ble_eq_true rfl) ⟨Nat.le_of_ble_eq_true rfl, Nat.le_of_ble_eq_true rfl⟩ ⟨Nat.le_of_ble_eq_true rfl, Nat.le_of_ble_eq_true rfl⟩ (by decide +kernel) (fun x14 => ?_)
        refine zs_if_eq (pc := 14) (off := 22) (tgt := 36) C (by decide +kernel) (by decide) ?_ ?_
        · exact zs_goj (hJ13 ()) ⟨rfl, rfl, rfl, rfl, rfl, trivial⟩
        · refine zs_aload_n (pc := 17) (k := 0) (i := 0) C (by decide +kernel) rfl rfl ?_
          refine zs_iload_n (pc := 18) (k := 3) (i := 3) C (by decide +kernel) rfl rfl ?_
          refine zs_i2l (pc := 19) C (by decide +kernel) ?_
          refine zs_cvRi (pc := 20) (As := [sL a2]) (st := [sR 287]) C rfl (c_X12_isPlace l g a2) ml_RX12_334 rfl rfl rfl rfl (Nat.le_of_ble_eq_true rfl) ⟨Nat.le_of_ble_eq_true rfl, Nat.le_of_ble_eq_true rfl⟩ ⟨Nat.le_of_ble_eq_true rfl, Nat.le_of_ble_eq_true rfl⟩ (by decide +kernel) (fun x15 => ?_)
          refine zs_if_eq (pc := 23) (off := 13) (tgt := 36) C (by decide +kernel) (by decide) ?_ ?_
          · exact zs_goj (hJ13 ()) ⟨rfl, rfl, rfl, rfl, rfl, trivial⟩
          · refine zs_aload_n (pc := 26) (k := 0) (i := 0) C (by decide +kernel) rfl rfl ?_
            refine zs_iload (pc := 27) (i := 4) C (by decide +kernel) rfl ?_
            refine zs_i2l (pc := 29) C (by decide +kernel) ?_
            refine zs_cvRi (pc := 30) (As := [sL a3]) (st := [sR 287]) C rfl (c_X12_isPlace l g a3) ml_RX12_334 rfl rfl rfl rfl (Nat.le_of_ble_eq_true rfl) ⟨Nat.le_of_ble_eq_true rfl, Nat.le_of_ble_eq_true rfl⟩ ⟨Nat.le_of_ble_eq_true rfl, Nat.le_of_ble_eq_true rfl⟩ (by decide +kernel) (fun x16 => ?_)
            refine zs_if_ne (pc := 33) (off := 7) (tgt := 40) C (by decide +kernel) (by decide) ?_ ?_
            · refine zs_aload_n (pc := 40) (k := 0) (i := 0) C (by decide +kernel) rfl rfl ?_
              refine zs_getR (o' := 309) (pc := 41) (i := 79) (ci := 12) (k := 39) C (by decide +kernel) fl_RX12_79 rfl rfl rfl ?_
              refine zs_iload_n (pc := 44) (k := 1) (i := 1) C (by decide +kernel) rfl rfl ?_
              refine zs_iald (pc := 45) (o := 309) (n := 4) C (by decide +kernel) rfl (fun hinx17 x17 => ?_)
              refine zs_iconst (pc := 46) (n := (-1)) (x := (-1)) C (by decide +kernel) (by decide +kernel) ?_
              refine zs_icmp_ne (pc := 47) (off := 7) (tgt := 54) C (by decide +kernel) (by decide) ?_ ?_
              · refine zs_iconst (pc := 54) (n := 0) (x := 0) C (by decide +kernel) (by decide +kernel) ?_
                exact zs_goj (hJ3 0) ⟨rfl, rfl, rfl, rfl, rfl, trivial⟩
              · refine zs_iconst (pc := 50) (n := 2) (x := 2) C (by decide +kernel) (by decide +kernel) ?_
                refine zs_goto (pc := 51) (off := 4) (tgt := 55) C (by decide +kernel) (by decide) ?_
                exact zs_goj (hJ3 2) ⟨rfl, rfl, rfl, rfl, rfl, trivial⟩
            · exact zs_goj (hJ13 ()) ⟨rfl, rfl, rfl, rfl, rfl, trivial⟩
set_option maxRecDepth 20000 in
theorem c_X12_image (l : Launch) (g : GC) (a0 : Int) : ConV l g yX12_image cX12_image 3 (rmd 2 0 0) [sR 287, sI a0] (fun mm => fX12_image a0 mm) := by
  refine zs_ofV (by decide +kernel) (Nat.le_of_ble_eq_true rfl) ?_
  intro p e s m args below meth c C hr
  replace C : Bd g RX12 cX12_image 3 p s m args meth c := C
  unfold fX12_image
  refine zs_aload_n (pc := 0) (k := 0) (i := 0) C (by decide +kernel) rfl rfl ?_
  refine zs_iload_n (pc := 1) (k := 1) (i := 1) C (by decide +kernel) rfl rfl ?_
  refine zs_i2l (pc := 2) C (by decide +kernel) ?_
  refine zs_lconst (pc := 3) (n := 0) (x := 0) C (by decide +kernel) (by decide +kernel) ?_
  refine zs_ldc2 (pc := 4) (i := 559) (v := 2) (x := 2) C (by decide +kernel) wf_2498 (by decide +kernel) ?_
  refine zs_csRi (pc := 7) (As := [sL a0, sL 0, sL 2]) (st := [sR 287]) C rfl (c_X12_within l g a0 0 2) ml_RX12_149 rfl rfl (Nat.le_of_ble_eq_true rfl) ⟨Nat.le_of_ble_eq_true rfl, Nat.le_of_ble_eq_true rfl⟩ ⟨Nat.le_of_ble_eq_true rfl, Nat.le_of_ble_eq_true rfl⟩ (by decide +kernel) (fun x1 => ?_)
  refine zs_jn (pJ := 18) (kJ := 0) (sJ := 0) (fun t2 => [(0, sR 287), (1, sI a0)]) (fun t2 => [sI t2, sR 287]) (fun t2 => ?_) (fun J3 hJ3 => ?_)
  · refine zs_putI (pc := 18) (i := 88) (ci := 12) (k := 4) C (fun _ _ _ => rfl) (by decide +kernel) fl_RX12_88 fw_12_4 rfl rfl ?_
    refine zs_aload_n (pc := 21) (k := 0) (i := 0) C (by decide +kernel) rfl rfl ?_
    refine zs_getI (pc := 22) (i := 88) (ci := 12) (k := 4) C (by decide +kernel) fl_RX12_88 rfl rfl (fun x4 => ?_)
    refine zs_if_le (pc := 25) (off := 4) (tgt := 29) C (by decide +kernel) (by decide) ?_ ?_
    · refine zs_aload_n (pc := 29) (k := 0) (i := 0) C (by decide +kernel) rfl rfl ?_
      refine zs_getR (o' := 291) (pc := 30) (i := 19) (ci := 12) (k := 3) C (by decide +kernel) fl_RX12_19 rfl rfl rfl ?_
      refine zs_iload_n (pc := 33) (k := 1) (i := 1) C (by decide +kernel) rfl rfl ?_
      refine zs_iconst (pc := 34) (n := 1) (x := 1) C (by decide +kernel) (by decide +kernel) ?_
      refine zs_zast (pc := 35) (o := 291) (n := 3) C (fun _ _ _ => rfl) (by decide +kernel) rfl ?_
      refine zs_iconst (pc := 36) (n := 0) (x := 0) C (by decide +kernel) (by decide +kernel) ?_
      refine zs_istore_n (pc := 37) (k := 2) (i := 2) (ls' := [(2, sI 0), (0, sR 287), (1, sI a0)]) C (by decide +kernel) rfl (Nat.le_of_ble_eq_true rfl) rfl ?_
      refine zs_sub (ls' := [(0, sR 287), (1, sI a0), (2, sI 0)]) ⟨rfl, rfl, rfl, trivial⟩ ?_
      refine zs_lp (pc := 38) (fun (t5 : Int) => [(0, sR 287), (1, sI a0), (2, sI t5)]) (fun _ => []) (fun K6 hK6 t5 => ?_) BIG 0
      refine zs_iload_n (pc := 38) (k := 2) (i := 2) C (by decide +kernel) rfl rfl ?_
      refine zs_sipush (pc := 39) (n := 2005) (x := 2005) C (by decide +kernel) (by decide +kernel) ?_
      refine zs_icmp_ge (pc := 42) (off := 27) (tgt := 69) C (by decide +kernel) (by decide) ?_ ?_
      · exact zs_retVv (pc := 69) C hr ⟨Nat.le_of_ble_eq_true rfl, Nat.le_of_ble_eq_true rfl⟩ (by decide +kernel)
      · refine zs_aload_n (pc := 45) (k := 0) (i := 0) C (by decide +kernel) rfl rfl ?_
        refine zs_getR (o' := 290) (pc := 46) (i := 16) (ci := 12) (k := 2) C (by decide +kernel) fl_RX12_16 rfl rfl rfl ?_
        refine zs_sipush (pc := 49) (n := 2005) (x := 2005) C (by decide +kernel) (by decide +kernel) ?_
        refine zs_iload_n (pc := 52) (k := 1) (i := 1) C (by decide +kernel) rfl rfl ?_
        refine zs_imul (pc := 53) C (by decide +kernel) ?_
        refine zs_iload_n (pc := 54) (k := 2) (i := 2) C (by decide +kernel) rfl rfl ?_
        refine zs_iadd (pc := 55) C (by decide +kernel) ?_
        refine zs_aload_n (pc := 56) (k := 0) (i := 0) C (by decide +kernel) rfl rfl ?_
        refine zs_getR (o' := 288) (pc := 57) (i := 9) (ci := 12) (k := 0) C (by decide +kernel) fl_RX12_9 rfl rfl rfl ?_
        refine zs_iload_n (pc := 60) (k := 2) (i := 2) C (by decide +kernel) rfl rfl ?_
        refine zs_iald (pc := 61) (o := 288) (n := 2005) C (by decide +kernel) rfl (fun hinx7 x7 => ?_)
        refine zs_iast (pc := 62) (o := 290) (n := 6015) C (fun _ _ _ => rfl) (by decide +kernel) rfl ?_
        refine zs_iinc (pc := 63) (i := 2) (n := 1) (y := w32 (t5 + 1)) (ls' := [(2, sI (w32 (t5 + 1))), (0, sR 287), (1, sI a0)]) C (by decide +kernel) rfl rfl (Nat.le_of_ble_eq_true rfl) rfl ?_
        refine zs_goto (pc := 66) (off := (-28)) (tgt := 38) C (by decide +kernel) (by decide) ?_
        exact zs_goj (hK6 (w32 (t5 + 1))) ⟨rfl, rfl, rfl, trivial⟩
    · exact zs_retVv (pc := 28) C hr ⟨Nat.le_of_ble_eq_true rfl, Nat.le_of_ble_eq_true rfl⟩ (by decide +kernel)
  · refine zs_if_eq (pc := 10) (off := 7) (tgt := 17) C (by decide +kernel) (by decide) ?_ ?_
    · refine zs_iconst (pc := 17) (n := 1) (x := 1) C (by decide +kernel) (by decide +kernel) ?_
      exact zs_goj (hJ3 1) ⟨rfl, rfl, trivial⟩
    · refine zs_iconst (pc := 13) (n := 0) (x := 0) C (by decide +kernel) (by decide +kernel) ?_
      refine zs_goto (pc := 14) (off := 4) (tgt := 18) C (by decide +kernel) (by decide) ?_
      exact zs_goj (hJ3 0) ⟨rfl, rfl, trivial⟩
set_option maxRecDepth 20000 in
theorem c_X12_restore (l : Launch) (g : GC) (a0 : Int) : ConV l g yX12_restore cX12_restore 3 (rmd 2 0 0) [sR 287, sI a0] (fun mm => fX12_restore a0 mm) := by
  refine zs_ofV (by decide +kernel) (Nat.le_of_ble_eq_true rfl) ?_
  intro p e s m args below meth c C hr
  replace C : Bd g RX12 cX12_restore 3 p s m args meth c := C
  unfold fX12_restore
  refine zs_aload_n (pc := 0) (k := 0) (i := 0) C (by decide +kernel) rfl rfl ?_
  refine zs_iload_n (pc := 1) (k := 1) (i := 1) C (by decide +kernel) rfl rfl ?_
  refine zs_i2l (pc := 2) C (by decide +kernel) ?_
  refine zs_lconst (pc := 3) (n := 0) (x := 0) C (by decide +kernel) (by decide +kernel) ?_
  refine zs_ldc2 (pc := 4) (i := 559) (v := 2) (x := 2) C (by decide +kernel) wf_2498 (by decide +kernel) ?_
  refine zs_csRi (pc := 7) (As := [sL a0, sL 0, sL 2]) (st := [sR 287]) C rfl (c_X12_within l g a0 0 2) ml_RX12_149 rfl rfl (Nat.le_of_ble_eq_true rfl) ⟨Nat.le_of_ble_eq_true rfl, Nat.le_of_ble_eq_true rfl⟩ ⟨Nat.le_of_ble_eq_true rfl, Nat.le_of_ble_eq_true rfl⟩ (by decide +kernel) (fun x1 => ?_)
  refine zs_jn (pJ := 31) (kJ := 0) (sJ := 0) (fun t2 => [(0, sR 287), (1, sI a0)]) (fun t2 => [sI t2, sR 287]) (fun t2 => ?_) (fun J3 hJ3 => ?_)
  · refine zs_putI (pc := 31) (i := 88) (ci := 12) (k := 4) C (fun _ _ _ => rfl) (by decide +kernel) fl_RX12_88 fw_12_4 rfl rfl ?_
    refine zs_aload_n (pc := 34) (k := 0) (i := 0) C (by decide +kernel) rfl rfl ?_
    refine zs_getI (pc := 35) (i := 88) (ci := 12) (k := 4) C (by decide +kernel) fl_RX12_88 rfl rfl (fun x4 => ?_)
    refine zs_if_le (pc := 38) (off := 4) (tgt := 42) C (by decide +kernel) (by decide) ?_ ?_
    · refine zs_iconst (pc := 42) (n := 0) (x := 0) C (by decide +kernel) (by decide +kernel) ?_
      refine zs_istore_n (pc := 43) (k := 2) (i := 2) (ls' := [(2, sI 0), (0, sR 287), (1, sI a0)]) C (by decide +kernel) rfl (Nat.le_of_ble_eq_true rfl) rfl ?_
      refine zs_sub (ls' := [(0, sR 287), (1, sI a0), (2, sI 0)]) ⟨rfl, rfl, rfl, trivial⟩ ?_
      refine zs_lp (pc := 44) (fun (t5 : Int) => [(0, sR 287), (1, sI a0), (2, sI t5)]) (fun _ => []) (fun K6 hK6 t5 => ?_) BIG 0
      refine zs_iload_n (pc := 44) (k := 2) (i := 2) C (by decide +kernel) rfl rfl ?_
      refine zs_sipush (pc := 45) (n := 2005) (x := 2005) C (by decide +kernel) (by decide +kernel) ?_
      refine zs_icmp_ge (pc := 48) (off := 27) (tgt := 75) C (by decide +kernel) (by decide) ?_ ?_
      · exact zs_retVv (pc := 75) C hr ⟨Nat.le_of_ble_eq_true rfl, Nat.le_of_ble_eq_true rfl⟩ (by decide +kernel)
      · refine zs_aload_n (pc := 51) (k := 0) (i := 0) C (by decide +kernel) rfl rfl ?_
        refine zs_getR (o' := 288) (pc := 52) (i := 9) (ci := 12) (k := 0) C (by decide +kernel) fl_RX12_9 rfl rfl rfl ?_
        refine zs_iload_n (pc := 55) (k := 2) (i := 2) C (by decide +kernel) rfl rfl ?_
        refine zs_aload_n (pc := 56) (k := 0) (i := 0) C (by decide +kernel) rfl rfl ?_
        refine zs_getR (o' := 290) (pc := 57) (i := 16) (ci := 12) (k := 2) C (by decide +kernel) fl_RX12_16 rfl rfl rfl ?_
        refine zs_sipush (pc := 60) (n := 2005) (x := 2005) C (by decide +kernel) (by decide +kernel) ?_
        refine zs_iload_n (pc := 63) (k := 1) (i := 1) C (by decide +kernel) rfl rfl ?_
        refine zs_imul (pc := 64) C (by decide +kernel) ?_
        refine zs_iload_n (pc := 65) (k := 2) (i := 2) C (by decide +kernel) rfl rfl ?_
        refine zs_iadd (pc := 66) C (by decide +kernel) ?_
        refine zs_iald (pc := 67) (o := 290) (n := 6015) C (by decide +kernel) rfl (fun hinx7 x7 => ?_)
        refine zs_iast (pc := 68) (o := 288) (n := 2005) C (fun _ _ _ => rfl) (by decide +kernel) rfl ?_
        refine zs_iinc (pc := 69) (i := 2) (n := 1) (y := w32 (t5 + 1)) (ls' := [(2, sI (w32 (t5 + 1))), (0, sR 287), (1, sI a0)]) C (by decide +kernel) rfl rfl (Nat.le_of_ble_eq_true rfl) rfl ?_
        refine zs_goto (pc := 72) (off := (-28)) (tgt := 44) C (by decide +kernel) (by decide) ?_
        exact zs_goj (hK6 (w32 (t5 + 1))) ⟨rfl, rfl, rfl, trivial⟩
    · exact zs_retVv (pc := 41) C hr ⟨Nat.le_of_ble_eq_true rfl, Nat.le_of_ble_eq_true rfl⟩ (by decide +kernel)
  · refine zs_if_ne (pc := 10) (off := 7) (tgt := 17) C (by decide +kernel) (by decide) ?_ ?_
    · refine zs_aload_n (pc := 17) (k := 0) (i := 0) C (by decide +kernel) rfl rfl ?_
      refine zs_getR (o' := 291) (pc := 18) (i := 19) (ci := 12) (k := 3) C (by decide +kernel) fl_RX12_19 rfl rfl rfl ?_
      refine zs_iload_n (pc := 21) (k := 1) (i := 1) C (by decide +kernel) rfl rfl ?_
      refine zs_zald (pc := 22) (o := 291) (n := 3) C (by decide +kernel) rfl (fun hinx8 x8 => ?_)
      refine zs_if_ne (pc := 23) (off := 7) (tgt := 30) C (by decide +kernel) (by decide) ?_ ?_
      · refine zs_iconst (pc := 30) (n := 0) (x := 0) C (by decide +kernel) (by decide +kernel) ?_
        exact zs_goj (hJ3 0) ⟨rfl, rfl, trivial⟩
      · refine zs_iconst (pc := 26) (n := 2) (x := 2) C (by decide +kernel) (by decide +kernel) ?_
        refine zs_goto (pc := 27) (off := 4) (tgt := 31) C (by decide +kernel) (by decide) ?_
        exact zs_goj (hJ3 2) ⟨rfl, rfl, trivial⟩
    · refine zs_iconst (pc := 13) (n := 1) (x := 1) C (by decide +kernel) (by decide +kernel) ?_
      refine zs_goto (pc := 14) (off := 17) (tgt := 31) C (by decide +kernel) (by decide) ?_
      exact zs_goj (hJ3 1) ⟨rfl, rfl, trivial⟩
set_option maxRecDepth 20000 in
theorem c_X12_count (l : Launch) (g : GC) (a0 : Int) : ConW l g yX12_count cX12_count 2 (some .int) (rmd 2 0 0) [sR 287, sI a0] (fun mm => fX12_count a0 mm) := by
  refine zs_ofW (by decide +kernel) (Nat.le_of_ble_eq_true rfl) ?_
  intro p e s m args below meth c C hr
  replace C : Bd g RX12 cX12_count 2 p s m args meth c := C
  unfold fX12_count
  refine zs_aload_n (pc := 0) (k := 0) (i := 0) C (by decide +kernel) rfl rfl ?_
  refine zs_iconst (pc := 1) (n := 0) (x := 0) C (by decide +kernel) (by decide +kernel) ?_
  refine zs_putI (pc := 2) (i := 88) (ci := 12) (k := 4) C (fun _ _ _ => rfl) (by decide +kernel) fl_RX12_88 fw_12_4 rfl rfl ?_
  refine zs_iload_n (pc := 5) (k := 1) (i := 1) C (by decide +kernel) rfl rfl ?_
  refine zs_ite (fun hc0 => ?_) (fun hc0 => ?_)
  · refine zs_tswI (pc := 6) (dflt := 148) (lo := 0) (hi := 10) (offs := #[58, 65, 72, 79, 86, 93, 104, 112, 124, 135, 143]) (len := 58) (i := 0) (off := 58) (tgt := 64) C (by decide +kernel) hc0 (by decide) rfl (by decide) ?_
    refine zs_aload_n (pc := 64) (k := 0) (i := 0) C (by decide +kernel) rfl rfl ?_
    refine zs_getR (o' := 288) (pc := 65) (i := 9) (ci := 12) (k := 0) C (by decide +kernel) fl_RX12_9 rfl rfl rfl ?_
    refine zs_iconst (pc := 68) (n := 0) (x := 0) C (by decide +kernel) (by decide +kernel) ?_
    refine zs_ialdk (pc := 69) (o := 288) (n := 2005) C (by decide) (by decide +kernel) rfl (fun x1 => ?_)
    exact zs_retWi (pc := 70) C hr ⟨Nat.le_of_ble_eq_true rfl, Nat.le_of_ble_eq_true rfl⟩ (by decide +kernel)
  · refine zs_ite (fun hc1 => ?_) (fun hc1 => ?_)
    · refine zs_tswI (pc := 6) (dflt := 148) (lo := 0) (hi := 10) (offs := #[58, 65, 72, 79, 86, 93, 104, 112, 124, 135, 143]) (len := 58) (i := 1) (off := 65) (tgt := 71) C (by decide +kernel) hc1 (by decide) rfl (by decide) ?_
      refine zs_aload_n (pc := 71) (k := 0) (i := 0) C (by decide +kernel) rfl rfl ?_
      refine zs_getR (o' := 288) (pc := 72) (i := 9) (ci := 12) (k := 0) C (by decide +kernel) fl_RX12_9 rfl rfl rfl ?_
      refine zs_iconst (pc := 75) (n := 1) (x := 1) C (by decide +kernel) (by decide +kernel) ?_
      refine zs_ialdk (pc := 76) (o := 288) (n := 2005) C (by decide) (by decide +kernel) rfl (fun x2 => ?_)
      exact zs_retWi (pc := 77) C hr ⟨Nat.le_of_ble_eq_true rfl, Nat.le_of_ble_eq_true rfl⟩ (by decide +kernel)
    · refine zs_ite (fun hc2 => ?_) (fun hc2 => ?_)
      · refine zs_tswI (pc := 6) (dflt := 148) (lo := 0) (hi := 10) (offs := #[58, 65, 72, 79, 86, 93, 104, 112, 124, 135, 143]) (len := 58) (i := 2) (off := 72) (tgt := 78) C (by decide +kernel) hc2 (by decide) rfl (by decide) ?_
        refine zs_aload_n (pc := 78) (k := 0) (i := 0) C (by decide +kernel) rfl rfl ?_
        refine zs_getR (o' := 288) (pc := 79) (i := 9) (ci := 12) (k := 0) C (by decide +kernel) fl_RX12_9 rfl rfl rfl ?_
        refine zs_iconst (pc := 82) (n := 2) (x := 2) C (by decide +kernel) (by decide +kernel) ?_
        refine zs_ialdk (pc := 83) (o := 288) (n := 2005) C (by decide) (by decide +kernel) rfl (fun x3 => ?_)
        exact zs_retWi (pc := 84) C hr ⟨Nat.le_of_ble_eq_true rfl, Nat.le_of_ble_eq_true rfl⟩ (by decide +kernel)
      · refine zs_ite (fun hc3 => ?_) (fun hc3 => ?_)
        · refine zs_tswI (pc := 6) (dflt := 148) (lo := 0) (hi := 10) (offs := #[58, 65, 72, 79, 86, 93, 104, 112, 124, 135, 143]) (len := 58) (i := 3) (off := 79) (tgt := 85) C (by decide +kernel) hc3 (by decide) rfl (by decide) ?_
          refine zs_aload_n (pc := 85) (k := 0) (i := 0) C (by decide +kernel) rfl rfl ?_
          refine zs_getR (o' := 288) (pc := 86) (i := 9) (ci := 12) (k := 0) C (by decide +kernel) fl_RX12_9 rfl rfl rfl ?_
          refine zs_iconst (pc := 89) (n := 3) (x := 3) C (by decide +kernel) (by decide +kernel) ?_
          refine zs_ialdk (pc := 90) (o := 288) (n := 2005) C (by decide) (by decide +kernel) rfl (fun x4 => ?_)
          exact zs_retWi (pc := 91) C hr ⟨Nat.le_of_ble_eq_true rfl, Nat.le_of_ble_eq_true rfl⟩ (by decide +kernel)
        · refine zs_ite (fun hc4 => ?_) (fun hc4 => ?_)
          · refine zs_tswI (pc := 6) (dflt := 148) (lo := 0) (hi := 10) (offs := #[58, 65, 72, 79, 86, 93, 104, 112, 124, 135, 143]) (len := 58) (i := 4) (off := 86) (tgt := 92) C (by decide +kernel) hc4 (by decide) rfl (by decide) ?_
            refine zs_aload_n (pc := 92) (k := 0) (i := 0) C (by decide +kernel) rfl rfl ?_
            refine zs_getR (o' := 288) (pc := 93) (i := 9) (ci := 12) (k := 0) C (by decide +kernel) fl_RX12_9 rfl rfl rfl ?_
            refine zs_iconst (pc := 96) (n := 4) (x := 4) C (by decide +kernel) (by decide +kernel) ?_
            refine zs_ialdk (pc := 97) (o := 288) (n := 2005) C (by decide) (by decide +kernel) rfl (fun x5 => ?_)
            exact zs_retWi (pc := 98) C hr ⟨Nat.le_of_ble_eq_true rfl, Nat.le_of_ble_eq_true rfl⟩ (by decide +kernel)
          · refine zs_ite (fun hc5 => ?_) (fun hc5 => ?_)
            · refine zs_tswI (pc := 6) (dflt := 148) (lo := 0) (hi := 10) (offs := #[58, 65, 72, 79, 86, 93, 104, 112, 124, 135, 143]) (len := 58) (i := 5) (off := 93) (tgt := 99) C (by decide +kernel) hc5 (by decide) rfl (by decide) ?_
              refine zs_aload_n (pc := 99) (k := 0) (i := 0) C (by decide +kernel) rfl rfl ?_
              refine zs_getR (o' := 288) (pc := 100) (i := 9) (ci := 12) (k := 0) C (by decide +kernel) fl_RX12_9 rfl rfl rfl ?_
              refine zs_bipush (pc := 103) (n := 8) (x := 8) C (by decide +kernel) (by decide +kernel) ?_
              refine zs_ialdk (pc := 105) (o := 288) (n := 2005) C (by decide) (by decide +kernel) rfl (fun x6 => ?_)
              refine zs_csRi (pc := 106) (As := [sI x6]) (st := []) C rfl (c_X12_size l g x6) ml_RX12_561 rfl rfl (Nat.le_of_ble_eq_true rfl) ⟨Nat.le_of_ble_eq_true rfl, Nat.le_of_ble_eq_true rfl⟩ ⟨Nat.le_of_ble_eq_true rfl, Nat.le_of_ble_eq_true rfl⟩ (by decide +kernel) (fun x7 => ?_)
              exact zs_retWi (pc := 109) C hr ⟨Nat.le_of_ble_eq_true rfl, Nat.le_of_ble_eq_true rfl⟩ (by decide +kernel)
            · refine zs_ite (fun hc6 => ?_) (fun hc6 => ?_)
              · refine zs_tswI (pc := 6) (dflt := 148) (lo := 0) (hi := 10) (offs := #[58, 65, 72, 79, 86, 93, 104, 112, 124, 135, 143]) (len := 58) (i := 6) (off := 104) (tgt := 110) C (by decide +kernel) hc6 (by decide) rfl (by decide) ?_
                refine zs_aload_n (pc := 110) (k := 0) (i := 0) C (by decide +kernel) rfl rfl ?_
                refine zs_getR (o' := 288) (pc := 111) (i := 9) (ci := 12) (k := 0) C (by decide +kernel) fl_RX12_9 rfl rfl rfl ?_
                refine zs_bipush (pc := 114) (n := 24) (x := 24) C (by decide +kernel) (by decide +kernel) ?_
                refine zs_ialdk (pc := 116) (o := 288) (n := 2005) C (by decide) (by decide +kernel) rfl (fun x8 => ?_)
                exact zs_retWi (pc := 117) C hr ⟨Nat.le_of_ble_eq_true rfl, Nat.le_of_ble_eq_true rfl⟩ (by decide +kernel)
              · refine zs_ite (fun hc7 => ?_) (fun hc7 => ?_)
                · refine zs_tswI (pc := 6) (dflt := 148) (lo := 0) (hi := 10) (offs := #[58, 65, 72, 79, 86, 93, 104, 112, 124, 135, 143]) (len := 58) (i := 7) (off := 112) (tgt := 118) C (by decide +kernel) hc7 (by decide) rfl (by decide) ?_
                  refine zs_aload_n (pc := 118) (k := 0) (i := 0) C (by decide +kernel) rfl rfl ?_
                  refine zs_aload_n (pc := 119) (k := 0) (i := 0) C (by decide +kernel) rfl rfl ?_
                  refine zs_getR (o' := 288) (pc := 120) (i := 9) (ci := 12) (k := 0) C (by decide +kernel) fl_RX12_9 rfl rfl rfl ?_
                  refine zs_bipush (pc := 123) (n := 24) (x := 24) C (by decide +kernel) (by decide +kernel) ?_
                  refine zs_ialdk (pc := 125) (o := 288) (n := 2005) C (by decide) (by decide +kernel) rfl (fun x9 => ?_)
                  refine zs_cvRi (pc := 126) (As := [sI x9]) (st := []) C rfl (c_X12_rainIn l g x9) ml_RX12_322 rfl rfl rfl rfl (Nat.le_of_ble_eq_true rfl) ⟨Nat.le_of_ble_eq_true rfl, Nat.le_of_ble_eq_true rfl⟩ ⟨Nat.le_of_ble_eq_true rfl, Nat.le_of_ble_eq_true rfl⟩ (by decide +kernel) (fun x10 => ?_)
                  exact zs_retWi (pc := 129) C hr ⟨Nat.le_of_ble_eq_true rfl, Nat.le_of_ble_eq_true rfl⟩ (by decide +kernel)
                · refine zs_ite (fun hc8 => ?_) (fun hc8 => ?_)
                  · refine zs_tswI (pc := 6) (dflt := 148) (lo := 0) (hi := 10) (offs := #[58, 65, 72, 79, 86, 93, 104, 112, 124, 135, 143]) (len := 58) (i := 8) (off := 124) (tgt := 130) C (by decide +kernel) hc8 (by decide) rfl (by decide) ?_
                    refine zs_aload_n (pc := 130) (k := 0) (i := 0) C (by decide +kernel) rfl rfl ?_
                    refine zs_getR (o' := 288) (pc := 131) (i := 9) (ci := 12) (k := 0) C (by decide +kernel) fl_RX12_9 rfl rfl rfl ?_
                    refine zs_bipush (pc := 134) (n := 21) (x := 21) C (by decide +kernel) (by decide +kernel) ?_
                    refine zs_ialdk (pc := 136) (o := 288) (n := 2005) C (by decide) (by decide +kernel) rfl (fun x11 => ?_)
                    refine zs_csRi (pc := 137) (As := [sI x11]) (st := []) C rfl (c_X12_size l g x11) ml_RX12_561 rfl rfl (Nat.le_of_ble_eq_true rfl) ⟨Nat.le_of_ble_eq_true rfl, Nat.le_of_ble_eq_true rfl⟩ ⟨Nat.le_of_ble_eq_true rfl, Nat.le_of_ble_eq_true rfl⟩ (by decide +kernel) (fun x12 => ?_)
                    exact zs_retWi (pc := 140) C hr ⟨Nat.le_of_ble_eq_true rfl, Nat.le_of_ble_eq_true rfl⟩ (by decide +kernel)
                  · refine zs_ite (fun hc9 => ?_) (fun hc9 => ?_)
                    · refine zs_tswI (pc := 6) (dflt := 148) (lo := 0) (hi := 10) (offs := #[58, 65, 72, 79, 86, 93, 104, 112, 124, 135, 143]) (len := 58) (i := 9) (off := 135) (tgt := 141) C (by decide +kernel) hc9 (by decide) rfl (by decide) ?_
                      refine zs_aload_n (pc := 141) (k := 0) (i := 0) C (by decide +kernel) rfl rfl ?_
                      refine zs_getR (o' := 288) (pc := 142) (i := 9) (ci := 12) (k := 0) C (by decide +kernel) fl_RX12_9 rfl rfl rfl ?_
                      refine zs_bipush (pc := 145) (n := 7) (x := 7) C (by decide +kernel) (by decide +kernel) ?_
                      refine zs_ialdk (pc := 147) (o := 288) (n := 2005) C (by decide) (by decide +kernel) rfl (fun x13 => ?_)
                      exact zs_retWi (pc := 148) C hr ⟨Nat.le_of_ble_eq_true rfl, Nat.le_of_ble_eq_true rfl⟩ (by decide +kernel)
                    · refine zs_ite (fun hc10 => ?_) (fun hc10 => ?_)
                      · refine zs_tswI (pc := 6) (dflt := 148) (lo := 0) (hi := 10) (offs := #[58, 65, 72, 79, 86, 93, 104, 112, 124, 135, 143]) (len := 58) (i := 10) (off := 143) (tgt := 149) C (by decide +kernel) hc10 (by decide) rfl (by decide) ?_
                        refine zs_aload_n (pc := 149) (k := 0) (i := 0) C (by decide +kernel) rfl rfl ?_
                        refine zs_getI (pc := 150) (i := 91) (ci := 12) (k := 6) C (by decide +kernel) fl_RX12_91 rfl rfl (fun x14 => ?_)
                        exact zs_retWi (pc := 153) C hr ⟨Nat.le_of_ble_eq_true rfl, Nat.le_of_ble_eq_true rfl⟩ (by decide +kernel)
                      · refine zs_tswD (pc := 6) (dflt := 148) (lo := 0) (hi := 10) (offs := #[58, 65, 72, 79, 86, 93, 104, 112, 124, 135, 143]) (len := 58) (tgt := 154) C (by decide +kernel) (by omega) (by decide) ?_
                        refine zs_iconst (pc := 154) (n := (-1)) (x := (-1)) C (by decide +kernel) (by decide +kernel) ?_
                        exact zs_retWi (pc := 155) C hr ⟨Nat.le_of_ble_eq_true rfl, Nat.le_of_ble_eq_true rfl⟩ (by decide +kernel)
set_option maxRecDepth 20000 in
theorem c_L_island (l : Launch) (g : GC) (hl : l.stackTraces = false) (a1 : Int) : ConX l g yL_island cL_island 4 (some .int) [(0, 9, 12, 13)] (rmd 69 1 6) [sR 0, sI a1, sR 312] (fun mm => fL_island a1 mm) := by
  refine zs_ofX (by decide +kernel) (Nat.le_of_ble_eq_true rfl) ?_
  intro p e s m args below meth c C hr hT
  replace C : Bd g RL cL_island 4 p s m args meth c := C
  unfold fL_island
  refine zs_aload_n (pc := 0) (k := 2) (i := 2) C (by decide +kernel) rfl rfl ?_
  refine zs_iconst (pc := 1) (n := 0) (x := 0) C (by decide +kernel) (by decide +kernel) ?_
  refine zs_aload_n (pc := 2) (k := 0) (i := 0) C (by decide +kernel) rfl rfl ?_
  refine zs_iload_n (pc := 3) (k := 1) (i := 1) C (by decide +kernel) rfl rfl ?_
  refine zs_tryi (pc := 4) (As := [sI a1]) (st := [sI 0, sR 312]) C hT rfl (c_X11_island l g hl a1) ml_RL_7 rfl rfl rfl rfl (Nat.le_of_ble_eq_true rfl) ⟨Nat.le_of_ble_eq_true rfl, Nat.le_of_ble_eq_true rfl⟩ ⟨Nat.le_of_ble_eq_true rfl, Nat.le_of_ble_eq_true rfl⟩ (by decide +kernel) ⟨(Or.inr ⟨[], ⟨0, 9, 12, 13⟩, [], 1, rfl, (fun _ h => nomatch h), rfl, by decide, wf_779, fun _ => rfl, zs_hdl_n (k := 3) (i := 3) C (by decide +kernel) rfl (Nat.le_of_ble_eq_true rfl) (by decide +kernel) (by decide +kernel) (by decide +kernel) hr ⟨Nat.le_of_ble_eq_true rfl, Nat.le_of_ble_eq_true rfl⟩⟩), (Or.inl (fun _ => rfl)), (Or.inl (fun _ => rfl)), (Or.inl (fun _ => rfl))⟩ (fun x1 => ?_)
  refine zs_i2l (pc := 7) C (by decide +kernel) ?_
  refine zs_lastk (pc := 8) (o := 312) (n := 1) C (by decide) (fun _ _ _ => rfl) (by decide +kernel) rfl ?_
  refine zs_goto (pc := 9) (off := 6) (tgt := 15) C (by decide +kernel) (by decide) ?_
  refine zs_iconst (pc := 15) (n := 0) (x := 0) C (by decide +kernel) (by decide +kernel) ?_
  exact zs_retWi (pc := 16) C hr ⟨Nat.le_of_ble_eq_true rfl, Nat.le_of_ble_eq_true rfl⟩ (by decide +kernel)
set_option maxRecDepth 20000 in
theorem c_L_place (l : Launch) (g : GC) (hl : l.stackTraces = false) (a1 : Int) : ConX l g yL_place cL_place 4 (some .int) [(0, 9, 12, 18)] (rmd 9 1 6) [sR 0, sI a1, sR 312] (fun mm => fL_place a1 mm) := by
  refine zs_ofX (by decide +kernel) (Nat.le_of_ble_eq_true rfl) ?_
  intro p e s m args below meth c C hr hT
  replace C : Bd g RL cL_place 4 p s m args meth c := C
  unfold fL_place
  refine zs_aload_n (pc := 0) (k := 2) (i := 2) C (by decide +kernel) rfl rfl ?_
  refine zs_iconst (pc := 1) (n := 0) (x := 0) C (by decide +kernel) (by decide +kernel) ?_
  refine zs_aload_n (pc := 2) (k := 0) (i := 0) C (by decide +kernel) rfl rfl ?_
  refine zs_iload_n (pc := 3) (k := 1) (i := 1) C (by decide +kernel) rfl rfl ?_
  refine zs_tryi (pc := 4) (As := [sI a1]) (st := [sI 0, sR 312]) C hT rfl (c_X11_place l g hl a1) ml_RL_15 rfl rfl rfl rfl (Nat.le_of_ble_eq_true rfl) ⟨Nat.le_of_ble_eq_true rfl, Nat.le_of_ble_eq_true rfl⟩ ⟨Nat.le_of_ble_eq_true rfl, Nat.le_of_ble_eq_true rfl⟩ (by decide +kernel) ⟨(Or.inl (fun _ => rfl)), (Or.inl (fun _ => rfl)), (Or.inr ⟨[], ⟨0, 9, 12, 18⟩, [], 1, rfl, (fun _ h => nomatch h), rfl, by decide, wf_1109, fun _ => rfl, zs_hdl_n (k := 3) (i := 3) C (by decide +kernel) rfl (Nat.le_of_ble_eq_true rfl) (by decide +kernel) (by decide +kernel) (by decide +kernel) hr ⟨Nat.le_of_ble_eq_true rfl, Nat.le_of_ble_eq_true rfl⟩⟩), (Or.inl (fun _ => rfl))⟩ (fun x1 => ?_)
  refine zs_i2l (pc := 7) C (by decide +kernel) ?_
  refine zs_lastk (pc := 8) (o := 312) (n := 1) C (by decide) (fun _ _ _ => rfl) (by decide +kernel) rfl ?_
  refine zs_goto (pc := 9) (off := 6) (tgt := 15) C (by decide +kernel) (by decide) ?_
  refine zs_iconst (pc := 15) (n := 0) (x := 0) C (by decide +kernel) (by decide +kernel) ?_
  exact zs_retWi (pc := 16) C hr ⟨Nat.le_of_ble_eq_true rfl, Nat.le_of_ble_eq_true rfl⟩ (by decide +kernel)
set_option maxRecDepth 20000 in
theorem c_L_pair (l : Launch) (g : GC) (hl : l.stackTraces = false) (a1 : Int) (a2 : Int) : ConX l g yL_pair cL_pair 5 (some .int) [(0, 10, 13, 18), (0, 10, 17, 13)] (rmd 9 2 12) [sR 0, sI a1, sI a2, sR 312] (fun mm => fL_pair a1 a2 mm) := by
  refine zs_ofX (by decide +kernel) (Nat.le_of_ble_eq_true rfl) ?_
  intro p e s m args below meth c C hr hT
  replace C : Bd g RL cL_pair 5 p s m args meth c := C
  unfold fL_pair
  refine zs_aload_n (pc := 0) (k := 3) (i := 3) C (by decide +kernel) rfl rfl ?_
  refine zs_iconst (pc := 1) (n := 0) (x := 0) C (by decide +kernel) (by decide +kernel) ?_
  refine zs_aload_n (pc := 2) (k := 0) (i := 0) C (by decide +kernel) rfl rfl ?_
  refine zs_iload_n (pc := 3) (k := 1) (i := 1) C (by decide +kernel) rfl rfl ?_
  refine zs_iload_n (pc := 4) (k := 2) (i := 2) C (by decide +kernel) rfl rfl ?_
  refine zs_tryi (pc := 5) (As := [sI a1, sI a2]) (st := [sI 0, sR 312]) C hT rfl (c_X11_pair l g hl a1 a2) ml_RL_20 rfl rfl rfl rfl (Nat.le_of_ble_eq_true rfl) ⟨Nat.le_of_ble_eq_true rfl, Nat.le_of_ble_eq_true rfl⟩ ⟨Nat.le_of_ble_eq_true rfl, Nat.le_of_ble_eq_true rfl⟩ (by decide +kernel) ⟨(Or.inr ⟨[⟨0, 10, 13, 18⟩], ⟨0, 10, 17, 13⟩, [], 2, rfl, (List.forall_mem_cons.mpr ⟨⟨by decide, "java/util/NoSuchElementException", wf_1109, by decide, by decide⟩, (fun _ h => nomatch h)⟩), rfl, by decide, wf_779, fun _ => rfl, zs_hdl (i := 4) C (by decide +kernel) (Nat.le_of_ble_eq_true rfl) (by decide +kernel) (by decide +kernel) (by decide +kernel) hr ⟨Nat.le_of_ble_eq_true rfl, Nat.le_of_ble_eq_true rfl⟩⟩), (Or.inl (fun _ => rfl)), (Or.inr ⟨[], ⟨0, 10, 13, 18⟩, [⟨0, 10, 17, 13⟩], 1, rfl, (fun _ h => nomatch h), rfl, by decide, wf_1109, fun _ => rfl, zs_hdl (i := 4) C (by decide +kernel) (Nat.le_of_ble_eq_true rfl) (by decide +kernel) (by decide +kernel) (by decide +kernel) hr ⟨Nat.le_of_ble_eq_true rfl, Nat.le_of_ble_eq_true rfl⟩⟩), (Or.inl (fun _ => rfl))⟩ (fun x1 => ?_)
  refine zs_i2l (pc := 8) C (by decide +kernel) ?_
  refine zs_lastk (pc := 9) (o := 312) (n := 1) C (by decide) (fun _ _ _ => rfl) (by decide +kernel) rfl ?_
  refine zs_goto (pc := 10) (off := 11) (tgt := 21) C (by decide +kernel) (by decide) ?_
  refine zs_iconst (pc := 21) (n := 0) (x := 0) C (by decide +kernel) (by decide +kernel) ?_
  exact zs_retWi (pc := 22) C hr ⟨Nat.le_of_ble_eq_true rfl, Nat.le_of_ble_eq_true rfl⟩ (by decide +kernel)
set_option maxRecDepth 20000 in
theorem c_L_house (l : Launch) (g : GC) (hl : l.stackTraces = false) (a1 : Int) : ConX l g yL_house cL_house 4 (some .int) [(0, 9, 12, 18)] (rmd 8 1 6) [sR 0, sI a1, sR 312] (fun mm => fL_house a1 mm) := by
  refine zs_ofX (by decide +kernel) (Nat.le_of_ble_eq_true rfl) ?_
  intro p e s m args below meth c C hr hT
  replace C : Bd g RL cL_house 4 p s m args meth c := C
  unfold fL_house
  refine zs_aload_n (pc := 0) (k := 2) (i := 2) C (by decide +kernel) rfl rfl ?_
  refine zs_iconst (pc := 1) (n := 0) (x := 0) C (by decide +kernel) (by decide +kernel) ?_
  refine zs_aload_n (pc := 2) (k := 0) (i := 0) C (by decide +kernel) rfl rfl ?_
  refine zs_iload_n (pc := 3) (k := 1) (i := 1) C (by decide +kernel) rfl rfl ?_
  refine zs_tryi (pc := 4) (As := [sI a1]) (st := [sI 0, sR 312]) C hT rfl (c_X11_house l g hl a1) ml_RL_24 rfl rfl rfl rfl (Nat.le_of_ble_eq_true rfl) ⟨Nat.le_of_ble_eq_true rfl, Nat.le_of_ble_eq_true rfl⟩ ⟨Nat.le_of_ble_eq_true rfl, Nat.le_of_ble_eq_true rfl⟩ (by decide +kernel) ⟨(Or.inl (fun _ => rfl)), (Or.inl (fun _ => rfl)), (Or.inr ⟨[], ⟨0, 9, 12, 18⟩, [], 1, rfl, (fun _ h => nomatch h), rfl, by decide, wf_1109, fun _ => rfl, zs_hdl_n (k := 3) (i := 3) C (by decide +kernel) rfl (Nat.le_of_ble_eq_true rfl) (by decide +kernel) (by decide +kernel) (by decide +kernel) hr ⟨Nat.le_of_ble_eq_true rfl, Nat.le_of_ble_eq_true rfl⟩⟩), (Or.inl (fun _ => rfl))⟩ (fun x1 => ?_)
  refine zs_i2l (pc := 7) C (by decide +kernel) ?_
  refine zs_lastk (pc := 8) (o := 312) (n := 1) C (by decide) (fun _ _ _ => rfl) (by decide +kernel) rfl ?_
  refine zs_goto (pc := 9) (off := 6) (tgt := 15) C (by decide +kernel) (by decide) ?_
  refine zs_iconst (pc := 15) (n := 0) (x := 0) C (by decide +kernel) (by decide +kernel) ?_
  exact zs_retWi (pc := 16) C hr ⟨Nat.le_of_ble_eq_true rfl, Nat.le_of_ble_eq_true rfl⟩ (by decide +kernel)
set_option maxRecDepth 20000 in
theorem c_L_length (l : Launch) (g : GC) (hl : l.stackTraces = false) (a1 : Int) (a2 : Int) : ConX l g yL_length cL_length 5 (some .int) [(0, 10, 13, 18), (0, 10, 17, 13)] (rmd 9 2 12) [sR 0, sI a1, sI a2, sR 312] (fun mm => fL_length a1 a2 mm) := by
  refine zs_ofX (by decide +kernel) (Nat.le_of_ble_eq_true rfl) ?_
  intro p e s m args below meth c C hr hT
  replace C : Bd g RL cL_length 5 p s m args meth c := C
  unfold fL_length
  refine zs_aload_n (pc := 0) (k := 3) (i := 3) C (by decide +kernel) rfl rfl ?_
  refine zs_iconst (pc := 1) (n := 0) (x := 0) C (by decide +kernel) (by decide +kernel) ?_
  refine zs_aload_n (pc := 2) (k := 0) (i := 0) C (by decide +kernel) rfl rfl ?_
  refine zs_iload_n (pc := 3) (k := 1) (i := 1) C (by decide +kernel) rfl rfl ?_
  refine zs_iload_n (pc := 4) (k := 2) (i := 2) C (by decide +kernel) rfl rfl ?_
  refine zs_tryi (pc := 5) (As := [sI a1, sI a2]) (st := [sI 0, sR 312]) C hT rfl (c_X11_length l g hl a1 a2) ml_RL_27 rfl rfl rfl rfl (Nat.le_of_ble_eq_true rfl) ⟨Nat.le_of_ble_eq_true rfl, Nat.le_of_ble_eq_true rfl⟩ ⟨Nat.le_of_ble_eq_true rfl, Nat.le_of_ble_eq_true rfl⟩ (by decide +kernel) ⟨(Or.inr ⟨[⟨0, 10, 13, 18⟩], ⟨0, 10, 17, 13⟩, [], 2, rfl, (List.forall_mem_cons.mpr ⟨⟨by decide, "java/util/NoSuchElementException", wf_1109, by decide, by decide⟩, (fun _ h => nomatch h)⟩), rfl, by decide, wf_779, fun _ => rfl, zs_hdl (i := 4) C (by decide +kernel) (Nat.le_of_ble_eq_true rfl) (by decide +kernel) (by decide +kernel) (by decide +kernel) hr ⟨Nat.le_of_ble_eq_true rfl, Nat.le_of_ble_eq_true rfl⟩⟩), (Or.inl (fun _ => rfl)), (Or.inr ⟨[], ⟨0, 10, 13, 18⟩, [⟨0, 10, 17, 13⟩], 1, rfl, (fun _ h => nomatch h), rfl, by decide, wf_1109, fun _ => rfl, zs_hdl (i := 4) C (by decide +kernel) (Nat.le_of_ble_eq_true rfl) (by decide +kernel) (by decide +kernel) (by decide +kernel) hr ⟨Nat.le_of_ble_eq_true rfl, Nat.le_of_ble_eq_true rfl⟩⟩), (Or.inl (fun _ => rfl))⟩ (fun x1 => ?_)
  refine zs_i2l (pc := 8) C (by decide +kernel) ?_
  refine zs_lastk (pc := 9) (o := 312) (n := 1) C (by decide) (fun _ _ _ => rfl) (by decide +kernel) rfl ?_
  refine zs_goto (pc := 10) (off := 11) (tgt := 21) C (by decide +kernel) (by decide) ?_
  refine zs_iconst (pc := 21) (n := 0) (x := 0) C (by decide +kernel) (by decide +kernel) ?_
  exact zs_retWi (pc := 22) C hr ⟨Nat.le_of_ble_eq_true rfl, Nat.le_of_ble_eq_true rfl⟩ (by decide +kernel)
set_option maxRecDepth 20000 in
theorem c_L_may (l : Launch) (g : GC) (hl : l.stackTraces = false) (a1 : Int) (a2 : Int) (a3 : Int) (a4 : Int) : ConX l g yL_may cL_may 7 (some .int) [(0, 21, 24, 18), (0, 21, 28, 13), (0, 21, 32, 34)] (rmd 9 5 30) [sR 0, sI a1, sI a2, sI a3, sI a4, sR 312] (fun mm => fL_may a1 a2 a3 a4 mm) := by
  refine zs_ofX (by decide +kernel) (Nat.le_of_ble_eq_true rfl) ?_
  intro p e s m args below meth c C hr hT
  replace C : Bd g RL cL_may 7 p s m args meth c := C
  unfold fL_may
  refine zs_aload (pc := 0) (i := 5) C (by decide +kernel) rfl ?_
  refine zs_iconst (pc := 2) (n := 0) (x := 0) C (by decide +kernel) (by decide +kernel) ?_
  refine zs_aload_n (pc := 3) (k := 0) (i := 0) C (by decide +kernel) rfl rfl ?_
  refine zs_iload_n (pc := 4) (k := 1) (i := 1) C (by decide +kernel) rfl rfl ?_
  refine zs_iload_n (pc := 5) (k := 2) (i := 2) C (by decide +kernel) rfl rfl ?_
  refine zs_iload_n (pc := 6) (k := 3) (i := 3) C (by decide +kernel) rfl rfl ?_
  refine zs_iload (pc := 7) (i := 4) C (by decide +kernel) rfl ?_
  refine zs_tryi (pc := 9) (As := [sI a1, sI a2, sI a3, sI a4]) (st := [sI 0, sR 312]) C hT rfl (c_X11_may l g hl a1 a2 a3 a4) ml_RL_30 rfl rfl rfl rfl (Nat.le_of_ble_eq_true rfl) ⟨Nat.le_of_ble_eq_true rfl, Nat.le_of_ble_eq_true rfl⟩ ⟨Nat.le_of_ble_eq_true rfl, Nat.le_of_ble_eq_true rfl⟩ (by decide +kernel) ⟨(Or.inr ⟨[⟨0, 21, 24, 18⟩], ⟨0, 21, 28, 13⟩, [⟨0, 21, 32, 34⟩], 2, rfl, (List.forall_mem_cons.mpr ⟨⟨by decide, "java/util/NoSuchElementException", wf_1109, by decide, by decide⟩, (fun _ h => nomatch h)⟩), rfl, by decide, wf_779, fun _ => rfl, zs_hdl (i := 6) C (by decide +kernel) (Nat.le_of_ble_eq_true rfl) (by decide +kernel) (by decide +kernel) (by decide +kernel) hr ⟨Nat.le_of_ble_eq_true rfl, Nat.le_of_ble_eq_true rfl⟩⟩), (Or.inr ⟨[⟨0, 21, 24, 18⟩, ⟨0, 21, 28, 13⟩], ⟨0, 21, 32, 34⟩, [], 3, rfl, (List.forall_mem_cons.mpr ⟨⟨by decide, "java/util/NoSuchElementException", wf_1109, by decide, by decide⟩, (List.forall_mem_cons.mpr ⟨⟨by decide, "java/lang/IllegalArgumentException", wf_779, by decide, by decide⟩, (fun _ h => nomatch h)⟩)⟩), rfl, by decide, wf_1182, fun _ => rfl, zs_hdl (i := 6) C (by decide +kernel) (Nat.le_of_ble_eq_true rfl) (by decide +kernel) (by decide +kernel) (by decide +kernel) hr ⟨Nat.le_of_ble_eq_true rfl, Nat.le_of_ble_eq_true rfl⟩⟩), (Or.inr ⟨[], ⟨0, 21, 24, 18⟩, [⟨0, 21, 28, 13⟩, ⟨0, 21, 32, 34⟩], 1, rfl, (fun _ h => nomatch h), rfl, by decide, wf_1109, fun _ => rfl, zs_hdl (i := 6) C (by decide +kernel) (Nat.le_of_ble_eq_true rfl) (by decide +kernel) (by decide +kernel) (by decide +kernel) hr ⟨Nat.le_of_ble_eq_true rfl, Nat.le_of_ble_eq_true rfl⟩⟩), (Or.inl (fun _ => rfl))⟩ (fun x1 => ?_)
  refine zs_jn (pJ := 20) (kJ := 5) (sJ := 30) (fun t2 => []) (fun t2 => [sL t2, sI 0, sR 312]) (fun t2 => ?_) (fun J3 hJ3 => ?_)
  · refine zs_lastk (pc := 20) (o := 312) (n := 1) C (by decide) (fun _ _ _ => rfl) (by decide +kernel) rfl ?_
    refine zs_goto (pc := 21) (off := 15) (tgt := 36) C (by decide +kernel) (by decide) ?_
    refine zs_iconst (pc := 36) (n := 0) (x := 0) C (by decide +kernel) (by decide +kernel) ?_
    exact zs_retWi (pc := 37) C hr ⟨Nat.le_of_ble_eq_true rfl, Nat.le_of_ble_eq_true rfl⟩ (by decide +kernel)
  · refine zs_if_eq (pc := 12) (off := 7) (tgt := 19) C (by decide +kernel) (by decide) ?_ ?_
    · refine zs_lconst (pc := 19) (n := 0) (x := 0) C (by decide +kernel) (by decide +kernel) ?_
      exact zs_goj (hJ3 0) trivial
    · refine zs_lconst (pc := 15) (n := 1) (x := 1) C (by decide +kernel) (by decide +kernel) ?_
      refine zs_goto (pc := 16) (off := 4) (tgt := 20) C (by decide +kernel) (by decide) ?_
      exact zs_goj (hJ3 1) trivial
set_option maxRecDepth 20000 in
theorem c_L_tie (l : Launch) (g : GC) (hl : l.stackTraces = false) (a1 : Int) (a2 : Int) : ConX l g yL_tie cL_tie 5 (some .int) [(0, 10, 13, 18), (0, 10, 17, 13)] (rmd 9 2 12) [sR 0, sI a1, sI a2, sR 312] (fun mm => fL_tie a1 a2 mm) := by
  refine zs_ofX (by decide +kernel) (Nat.le_of_ble_eq_true rfl) ?_
  intro p e s m args below meth c C hr hT
  replace C : Bd g RL cL_tie 5 p s m args meth c := C
  unfold fL_tie
  refine zs_aload_n (pc := 0) (k := 3) (i := 3) C (by decide +kernel) rfl rfl ?_
  refine zs_iconst (pc := 1) (n := 0) (x := 0) C (by decide +kernel) (by decide +kernel) ?_
  refine zs_aload_n (pc := 2) (k := 0) (i := 0) C (by decide +kernel) rfl rfl ?_
  refine zs_iload_n (pc := 3) (k := 1) (i := 1) C (by decide +kernel) rfl rfl ?_
  refine zs_iload_n (pc := 4) (k := 2) (i := 2) C (by decide +kernel) rfl rfl ?_
  refine zs_tryi (pc := 5) (As := [sI a1, sI a2]) (st := [sI 0, sR 312]) C hT rfl (c_X11_tie l g hl a1 a2) ml_RL_36 rfl rfl rfl rfl (Nat.le_of_ble_eq_true rfl) ⟨Nat.le_of_ble_eq_true rfl, Nat.le_of_ble_eq_true rfl⟩ ⟨Nat.le_of_ble_eq_true rfl, Nat.le_of_ble_eq_true rfl⟩ (by decide +kernel) ⟨(Or.inr ⟨[⟨0, 10, 13, 18⟩], ⟨0, 10, 17, 13⟩, [], 2, rfl, (List.forall_mem_cons.mpr ⟨⟨by decide, "java/util/NoSuchElementException", wf_1109, by decide, by decide⟩, (fun _ h => nomatch h)⟩), rfl, by decide, wf_779, fun _ => rfl, zs_hdl (i := 4) C (by decide +kernel) (Nat.le_of_ble_eq_true rfl) (by decide +kernel) (by decide +kernel) (by decide +kernel) hr ⟨Nat.le_of_ble_eq_true rfl, Nat.le_of_ble_eq_true rfl⟩⟩), (Or.inl (fun _ => rfl)), (Or.inr ⟨[], ⟨0, 10, 13, 18⟩, [⟨0, 10, 17, 13⟩], 1, rfl, (fun _ h => nomatch h), rfl, by decide, wf_1109, fun _ => rfl, zs_hdl (i := 4) C (by decide +kernel) (Nat.le_of_ble_eq_true rfl) (by decide +kernel) (by decide +kernel) (by decide +kernel) hr ⟨Nat.le_of_ble_eq_true rfl, Nat.le_of_ble_eq_true rfl⟩⟩), (Or.inl (fun _ => rfl))⟩ (fun x1 => ?_)
  refine zs_i2l (pc := 8) C (by decide +kernel) ?_
  refine zs_lastk (pc := 9) (o := 312) (n := 1) C (by decide) (fun _ _ _ => rfl) (by decide +kernel) rfl ?_
  refine zs_goto (pc := 10) (off := 11) (tgt := 21) C (by decide +kernel) (by decide) ?_
  refine zs_iconst (pc := 21) (n := 0) (x := 0) C (by decide +kernel) (by decide +kernel) ?_
  exact zs_retWi (pc := 22) C hr ⟨Nat.le_of_ble_eq_true rfl, Nat.le_of_ble_eq_true rfl⟩ (by decide +kernel)
set_option maxRecDepth 20000 in
theorem c_L_rain (l : Launch) (g : GC) (hl : l.stackTraces = false) (a1 : Int) (a2 : Int) : ConX l g yL_rain cL_rain 5 (some .int) [(0, 10, 13, 13)] (rmd 9 2 12) [sR 0, sI a1, sI a2, sR 312] (fun mm => fL_rain a1 a2 mm) := by
  refine zs_ofX (by decide +kernel) (Nat.le_of_ble_eq_true rfl) ?_
  intro p e s m args below meth c C hr hT
  replace C : Bd g RL cL_rain 5 p s m args meth c := C
  unfold fL_rain
  refine zs_aload_n (pc := 0) (k := 3) (i := 3) C (by decide +kernel) rfl rfl ?_
  refine zs_iconst (pc := 1) (n := 0) (x := 0) C (by decide +kernel) (by decide +kernel) ?_
  refine zs_aload_n (pc := 2) (k := 0) (i := 0) C (by decide +kernel) rfl rfl ?_
  refine zs_iload_n (pc := 3) (k := 1) (i := 1) C (by decide +kernel) rfl rfl ?_
  refine zs_iload_n (pc := 4) (k := 2) (i := 2) C (by decide +kernel) rfl rfl ?_
  refine zs_tryi (pc := 5) (As := [sI a1, sI a2]) (st := [sI 0, sR 312]) C hT rfl (c_X11_rain l g hl a1 a2) ml_RL_39 rfl rfl rfl rfl (Nat.le_of_ble_eq_true rfl) ⟨Nat.le_of_ble_eq_true rfl, Nat.le_of_ble_eq_true rfl⟩ ⟨Nat.le_of_ble_eq_true rfl, Nat.le_of_ble_eq_true rfl⟩ (by decide +kernel) ⟨(Or.inr ⟨[], ⟨0, 10, 13, 13⟩, [], 1, rfl, (fun _ h => nomatch h), rfl, by decide, wf_779, fun _ => rfl, zs_hdl (i := 4) C (by decide +kernel) (Nat.le_of_ble_eq_true rfl) (by decide +kernel) (by decide +kernel) (by decide +kernel) hr ⟨Nat.le_of_ble_eq_true rfl, Nat.le_of_ble_eq_true rfl⟩⟩), (Or.inl (fun _ => rfl)), (Or.inl (fun _ => rfl)), (Or.inl (fun _ => rfl))⟩ (fun x1 => ?_)
  refine zs_i2l (pc := 8) C (by decide +kernel) ?_
  refine zs_lastk (pc := 9) (o := 312) (n := 1) C (by decide) (fun _ _ _ => rfl) (by decide +kernel) rfl ?_
  refine zs_goto (pc := 10) (off := 7) (tgt := 17) C (by decide +kernel) (by decide) ?_
  refine zs_iconst (pc := 17) (n := 0) (x := 0) C (by decide +kernel) (by decide +kernel) ?_
  exact zs_retWi (pc := 18) C hr ⟨Nat.le_of_ble_eq_true rfl, Nat.le_of_ble_eq_true rfl⟩ (by decide +kernel)
set_option maxRecDepth 20000 in
theorem c_L_hours (l : Launch) (g : GC) (hl : l.stackTraces = false) (a1 : Int) : ConX l g yL_hours cL_hours 4 (some .int) [(0, 9, 12, 13)] (rmd 9 1 6) [sR 0, sI a1, sR 312] (fun mm => fL_hours a1 mm) := by
  refine zs_ofX (by decide +kernel) (Nat.le_of_ble_eq_true rfl) ?_
  intro p e s m args below meth c C hr hT
  replace C : Bd g RL cL_hours 4 p s m args meth c := C
  unfold fL_hours
  refine zs_aload_n (pc := 0) (k := 2) (i := 2) C (by decide +kernel) rfl rfl ?_
  refine zs_iconst (pc := 1) (n := 0) (x := 0) C (by decide +kernel) (by decide +kernel) ?_
  refine zs_aload_n (pc := 2) (k := 0) (i := 0) C (by decide +kernel) rfl rfl ?_
  refine zs_iload_n (pc := 3) (k := 1) (i := 1) C (by decide +kernel) rfl rfl ?_
  refine zs_tryi (pc := 4) (As := [sI a1]) (st := [sI 0, sR 312]) C hT rfl (c_X11_hours l g hl a1) ml_RL_42 rfl rfl rfl rfl (Nat.le_of_ble_eq_true rfl) ⟨Nat.le_of_ble_eq_true rfl, Nat.le_of_ble_eq_true rfl⟩ ⟨Nat.le_of_ble_eq_true rfl, Nat.le_of_ble_eq_true rfl⟩ (by decide +kernel) ⟨(Or.inr ⟨[], ⟨0, 9, 12, 13⟩, [], 1, rfl, (fun _ h => nomatch h), rfl, by decide, wf_779, fun _ => rfl, zs_hdl_n (k := 3) (i := 3) C (by decide +kernel) rfl (Nat.le_of_ble_eq_true rfl) (by decide +kernel) (by decide +kernel) (by decide +kernel) hr ⟨Nat.le_of_ble_eq_true rfl, Nat.le_of_ble_eq_true rfl⟩⟩), (Or.inl (fun _ => rfl)), (Or.inl (fun _ => rfl)), (Or.inl (fun _ => rfl))⟩ (fun x1 => ?_)
  refine zs_i2l (pc := 7) C (by decide +kernel) ?_
  refine zs_lastk (pc := 8) (o := 312) (n := 1) C (by decide) (fun _ _ _ => rfl) (by decide +kernel) rfl ?_
  refine zs_goto (pc := 9) (off := 6) (tgt := 15) C (by decide +kernel) (by decide) ?_
  refine zs_iconst (pc := 15) (n := 0) (x := 0) C (by decide +kernel) (by decide +kernel) ?_
  exact zs_retWi (pc := 16) C hr ⟨Nat.le_of_ble_eq_true rfl, Nat.le_of_ble_eq_true rfl⟩ (by decide +kernel)
set_option maxRecDepth 20000 in
theorem c_L_undo (l : Launch) (g : GC) (hl : l.stackTraces = false) (a1 : Int) : ConX l g yL_undo cL_undo 4 (some .int) [(0, 9, 12, 13)] (rmd 8 1 6) [sR 0, sI a1, sR 312] (fun mm => fL_undo a1 mm) := by
  refine zs_ofX (by decide +kernel) (Nat.le_of_ble_eq_true rfl) ?_
  intro p e s m args below meth c C hr hT
  replace C : Bd g RL cL_undo 4 p s m args meth c := C
  unfold fL_undo
  refine zs_aload_n (pc := 0) (k := 2) (i := 2) C (by decide +kernel) rfl rfl ?_
  refine zs_iconst (pc := 1) (n := 0) (x := 0) C (by decide +kernel) (by decide +kernel) ?_
  refine zs_aload_n (pc := 2) (k := 0) (i := 0) C (by decide +kernel) rfl rfl ?_
  refine zs_iload_n (pc := 3) (k := 1) (i := 1) C (by decide +kernel) rfl rfl ?_
  refine zs_tryi (pc := 4) (As := [sI a1]) (st := [sI 0, sR 312]) C hT rfl (c_X11_undo l g hl a1) ml_RL_45 rfl rfl rfl rfl (Nat.le_of_ble_eq_true rfl) ⟨Nat.le_of_ble_eq_true rfl, Nat.le_of_ble_eq_true rfl⟩ ⟨Nat.le_of_ble_eq_true rfl, Nat.le_of_ble_eq_true rfl⟩ (by decide +kernel) ⟨(Or.inr ⟨[], ⟨0, 9, 12, 13⟩, [], 1, rfl, (fun _ h => nomatch h), rfl, by decide, wf_779, fun _ => rfl, zs_hdl_n (k := 3) (i := 3) C (by decide +kernel) rfl (Nat.le_of_ble_eq_true rfl) (by decide +kernel) (by decide +kernel) (by decide +kernel) hr ⟨Nat.le_of_ble_eq_true rfl, Nat.le_of_ble_eq_true rfl⟩⟩), (Or.inl (fun _ => rfl)), (Or.inl (fun _ => rfl)), (Or.inl (fun _ => rfl))⟩ (fun x1 => ?_)
  refine zs_i2l (pc := 7) C (by decide +kernel) ?_
  refine zs_lastk (pc := 8) (o := 312) (n := 1) C (by decide) (fun _ _ _ => rfl) (by decide +kernel) rfl ?_
  refine zs_goto (pc := 9) (off := 6) (tgt := 15) C (by decide +kernel) (by decide) ?_
  refine zs_iconst (pc := 15) (n := 0) (x := 0) C (by decide +kernel) (by decide +kernel) ?_
  exact zs_retWi (pc := 16) C hr ⟨Nat.le_of_ble_eq_true rfl, Nat.le_of_ble_eq_true rfl⟩ (by decide +kernel)
set_option maxRecDepth 20000 in
theorem c_L_judge (l : Launch) (g : GC) (hl : l.stackTraces = false) (a1 : Int) (a2 : Int) : ConX l g yL_judge cL_judge 5 (some .int) [(0, 10, 13, 18), (0, 10, 17, 34), (0, 10, 21, 13)] (rmd 10 3 18) [sR 0, sI a1, sI a2, sR 312] (fun mm => fL_judge a1 a2 mm) := by
  refine zs_ofX (by decide +kernel) (Nat.le_of_ble_eq_true rfl) ?_
  intro p e s m args below meth c C hr hT
  replace C : Bd g RL cL_judge 5 p s m args meth c := C
  unfold fL_judge
  refine zs_aload_n (pc := 0) (k := 3) (i := 3) C (by decide +kernel) rfl rfl ?_
  refine zs_iconst (pc := 1) (n := 0) (x := 0) C (by decide +kernel) (by decide +kernel) ?_
  refine zs_aload_n (pc := 2) (k := 0) (i := 0) C (by decide +kernel) rfl rfl ?_
  refine zs_iload_n (pc := 3) (k := 1) (i := 1) C (by decide +kernel) rfl rfl ?_
  refine zs_iload_n (pc := 4) (k := 2) (i := 2) C (by decide +kernel) rfl rfl ?_
  refine zs_tryi (pc := 5) (As := [sI a1, sI a2]) (st := [sI 0, sR 312]) C hT rfl (c_X11_judge l g hl a1 a2) ml_RL_48 rfl rfl rfl rfl (Nat.le_of_ble_eq_true rfl) ⟨Nat.le_of_ble_eq_true rfl, Nat.le_of_ble_eq_true rfl⟩ ⟨Nat.le_of_ble_eq_true rfl, Nat.le_of_ble_eq_true rfl⟩ (by decide +kernel) ⟨(Or.inr ⟨[⟨0, 10, 13, 18⟩, ⟨0, 10, 17, 34⟩], ⟨0, 10, 21, 13⟩, [], 3, rfl, (List.forall_mem_cons.mpr ⟨⟨by decide, "java/util/NoSuchElementException", wf_1109, by decide, by decide⟩, (List.forall_mem_cons.mpr ⟨⟨by decide, "java/lang/IllegalStateException", wf_1182, by decide, by decide⟩, (fun _ h => nomatch h)⟩)⟩), rfl, by decide, wf_779, fun _ => rfl, zs_hdl (i := 4) C (by decide +kernel) (Nat.le_of_ble_eq_true rfl) (by decide +kernel) (by decide +kernel) (by decide +kernel) hr ⟨Nat.le_of_ble_eq_true rfl, Nat.le_of_ble_eq_true rfl⟩⟩), (Or.inr ⟨[⟨0, 10, 13, 18⟩], ⟨0, 10, 17, 34⟩, [⟨0, 10, 21, 13⟩], 2, rfl, (List.forall_mem_cons.mpr ⟨⟨by decide, "java/util/NoSuchElementException", wf_1109, by decide, by decide⟩, (fun _ h => nomatch h)⟩), rfl, by decide, wf_1182, fun _ => rfl, zs_hdl (i := 4) C (by decide +kernel) (Nat.le_of_ble_eq_true rfl) (by decide +kernel) (by decide +kernel) (by decide +kernel) hr ⟨Nat.le_of_ble_eq_true rfl, Nat.le_of_ble_eq_true rfl⟩⟩), (Or.inr ⟨[], ⟨0, 10, 13, 18⟩, [⟨0, 10, 17, 34⟩, ⟨0, 10, 21, 13⟩], 1, rfl, (fun _ h => nomatch h), rfl, by decide, wf_1109, fun _ => rfl, zs_hdl (i := 4) C (by decide +kernel) (Nat.le_of_ble_eq_true rfl) (by decide +kernel) (by decide +kernel) (by decide +kernel) hr ⟨Nat.le_of_ble_eq_true rfl, Nat.le_of_ble_eq_true rfl⟩⟩), (Or.inl (fun _ => rfl))⟩ (fun x1 => ?_)
  refine zs_i2l (pc := 8) C (by decide +kernel) ?_
  refine zs_lastk (pc := 9) (o := 312) (n := 1) C (by decide) (fun _ _ _ => rfl) (by decide +kernel) rfl ?_
  refine zs_goto (pc := 10) (off := 15) (tgt := 25) C (by decide +kernel) (by decide) ?_
  refine zs_iconst (pc := 25) (n := 0) (x := 0) C (by decide +kernel) (by decide +kernel) ?_
  exact zs_retWi (pc := 26) C hr ⟨Nat.le_of_ble_eq_true rfl, Nat.le_of_ble_eq_true rfl⟩ (by decide +kernel)
set_option maxRecDepth 20000 in
theorem c_L_perform (l : Launch) (g : GC) (hl : l.stackTraces = false) (a1 : Int) : ConX l g yL_perform cL_perform 4 (some .int) [(0, 9, 12, 18), (0, 9, 15, 34)] (rmd 10 2 12) [sR 0, sI a1, sR 312] (fun mm => fL_perform a1 mm) := by
  refine zs_ofX (by decide +kernel) (Nat.le_of_ble_eq_true rfl) ?_
  intro p e s m args below meth c C hr hT
  replace C : Bd g RL cL_perform 4 p s m args meth c := C
  unfold fL_perform
  refine zs_aload_n (pc := 0) (k := 2) (i := 2) C (by decide +kernel) rfl rfl ?_
  refine zs_iconst (pc := 1) (n := 0) (x := 0) C (by decide +kernel) (by decide +kernel) ?_
  refine zs_aload_n (pc := 2) (k := 0) (i := 0) C (by decide +kernel) rfl rfl ?_
  refine zs_iload_n (pc := 3) (k := 1) (i := 1) C (by decide +kernel) rfl rfl ?_
  refine zs_tryi (pc := 4) (As := [sI a1]) (st := [sI 0, sR 312]) C hT rfl (c_X11_perform l g hl a1) ml_RL_51 rfl rfl rfl rfl (Nat.le_of_ble_eq_true rfl) ⟨Nat.le_of_ble_eq_true rfl, Nat.le_of_ble_eq_true rfl⟩ ⟨Nat.le_of_ble_eq_true rfl, Nat.le_of_ble_eq_true rfl⟩ (by decide +kernel) ⟨(Or.inl (fun _ => rfl)), (Or.inr ⟨[⟨0, 9, 12, 18⟩], ⟨0, 9, 15, 34⟩, [], 2, rfl, (List.forall_mem_cons.mpr ⟨⟨by decide, "java/util/NoSuchElementException", wf_1109, by decide, by decide⟩, (fun _ h => nomatch h)⟩), rfl, by decide, wf_1182, fun _ => rfl, zs_hdl_n (k := 3) (i := 3) C (by decide +kernel) rfl (Nat.le_of_ble_eq_true rfl) (by decide +kernel) (by decide +kernel) (by decide +kernel) hr ⟨Nat.le_of_ble_eq_true rfl, Nat.le_of_ble_eq_true rfl⟩⟩), (Or.inr ⟨[], ⟨0, 9, 12, 18⟩, [⟨0, 9, 15, 34⟩], 1, rfl, (fun _ h => nomatch h), rfl, by decide, wf_1109, fun _ => rfl, zs_hdl_n (k := 3) (i := 3) C (by decide +kernel) rfl (Nat.le_of_ble_eq_true rfl) (by decide +kernel) (by decide +kernel) (by decide +kernel) hr ⟨Nat.le_of_ble_eq_true rfl, Nat.le_of_ble_eq_true rfl⟩⟩), (Or.inl (fun _ => rfl))⟩ (fun x1 => ?_)
  refine zs_i2l (pc := 7) C (by decide +kernel) ?_
  refine zs_lastk (pc := 8) (o := 312) (n := 1) C (by decide) (fun _ _ _ => rfl) (by decide +kernel) rfl ?_
  refine zs_goto (pc := 9) (off := 9) (tgt := 18) C (by decide +kernel) (by decide) ?_
  refine zs_iconst (pc := 18) (n := 0) (x := 0) C (by decide +kernel) (by decide +kernel) ?_
  exact zs_retWi (pc := 19) C hr ⟨Nat.le_of_ble_eq_true rfl, Nat.le_of_ble_eq_true rfl⟩ (by decide +kernel)
set_option maxRecDepth 20000 in
theorem c_L_season (l : Launch) (g : GC) (hl : l.stackTraces = false) (a1 : Int) (a2 : Int) : ConX l g yL_season cL_season 5 (some .int) [(0, 10, 13, 13)] (rmd 9 1 6) [sR 0, sI a1, sI a2, sR 312] (fun mm => fL_season a1 a2 mm) := by
  refine zs_ofX (by decide +kernel) (Nat.le_of_ble_eq_true rfl) ?_
  intro p e s m args below meth c C hr hT
  replace C : Bd g RL cL_season 5 p s m args meth c := C
  unfold fL_season
  refine zs_aload_n (pc := 0) (k := 3) (i := 3) C (by decide +kernel) rfl rfl ?_
  refine zs_iconst (pc := 1) (n := 0) (x := 0) C (by decide +kernel) (by decide +kernel) ?_
  refine zs_aload_n (pc := 2) (k := 0) (i := 0) C (by decide +kernel) rfl rfl ?_
  refine zs_iload_n (pc := 3) (k := 1) (i := 1) C (by decide +kernel) rfl rfl ?_
  refine zs_iload_n (pc := 4) (k := 2) (i := 2) C (by decide +kernel) rfl rfl ?_
  refine zs_tryi (pc := 5) (As := [sI a1, sI a2]) (st := [sI 0, sR 312]) C hT rfl (c_X11_season l g hl a1 a2) ml_RL_54 rfl rfl rfl rfl (Nat.le_of_ble_eq_true rfl) ⟨Nat.le_of_ble_eq_true rfl, Nat.le_of_ble_eq_true rfl⟩ ⟨Nat.le_of_ble_eq_true rfl, Nat.le_of_ble_eq_true rfl⟩ (by decide +kernel) ⟨(Or.inr ⟨[], ⟨0, 10, 13, 13⟩, [], 1, rfl, (fun _ h => nomatch h), rfl, by decide, wf_779, fun _ => rfl, zs_hdl (i := 4) C (by decide +kernel) (Nat.le_of_ble_eq_true rfl) (by decide +kernel) (by decide +kernel) (by decide +kernel) hr ⟨Nat.le_of_ble_eq_true rfl, Nat.le_of_ble_eq_true rfl⟩⟩), (Or.inl (fun _ => rfl)), (Or.inl (fun _ => rfl)), (Or.inl (fun _ => rfl))⟩ (fun x1 => ?_)
  refine zs_i2l (pc := 8) C (by decide +kernel) ?_
  refine zs_lastk (pc := 9) (o := 312) (n := 1) C (by decide) (fun _ _ _ => rfl) (by decide +kernel) rfl ?_
  refine zs_goto (pc := 10) (off := 7) (tgt := 17) C (by decide +kernel) (by decide) ?_
  refine zs_iconst (pc := 17) (n := 0) (x := 0) C (by decide +kernel) (by decide +kernel) ?_
  exact zs_retWi (pc := 18) C hr ⟨Nat.le_of_ble_eq_true rfl, Nat.le_of_ble_eq_true rfl⟩ (by decide +kernel)
set_option maxRecDepth 20000 in
theorem c_L_partsIn (l : Launch) (g : GC) (hl : l.stackTraces = false) (a1 : Int) : ConX l g yL_partsIn cL_partsIn 4 (some .int) [(0, 9, 12, 18)] (rmd 9 1 6) [sR 0, sI a1, sR 312] (fun mm => fL_partsIn a1 mm) := by
  refine zs_ofX (by decide +kernel) (Nat.le_of_ble_eq_true rfl) ?_
  intro p e s m args below meth c C hr hT
  replace C : Bd g RL cL_partsIn 4 p s m args meth c := C
  unfold fL_partsIn
  refine zs_aload_n (pc := 0) (k := 2) (i := 2) C (by decide +kernel) rfl rfl ?_
  refine zs_iconst (pc := 1) (n := 0) (x := 0) C (by decide +kernel) (by decide +kernel) ?_
  refine zs_aload_n (pc := 2) (k := 0) (i := 0) C (by decide +kernel) rfl rfl ?_
  refine zs_iload_n (pc := 3) (k := 1) (i := 1) C (by decide +kernel) rfl rfl ?_
  refine zs_tryi (pc := 4) (As := [sI a1]) (st := [sI 0, sR 312]) C hT rfl (c_X11_partsIn l g hl a1) ml_RL_57 rfl rfl rfl rfl (Nat.le_of_ble_eq_true rfl) ⟨Nat.le_of_ble_eq_true rfl, Nat.le_of_ble_eq_true rfl⟩ ⟨Nat.le_of_ble_eq_true rfl, Nat.le_of_ble_eq_true rfl⟩ (by decide +kernel) ⟨(Or.inl (fun _ => rfl)), (Or.inl (fun _ => rfl)), (Or.inr ⟨[], ⟨0, 9, 12, 18⟩, [], 1, rfl, (fun _ h => nomatch h), rfl, by decide, wf_1109, fun _ => rfl, zs_hdl_n (k := 3) (i := 3) C (by decide +kernel) rfl (Nat.le_of_ble_eq_true rfl) (by decide +kernel) (by decide +kernel) (by decide +kernel) hr ⟨Nat.le_of_ble_eq_true rfl, Nat.le_of_ble_eq_true rfl⟩⟩), (Or.inl (fun _ => rfl))⟩ (fun x1 => ?_)
  refine zs_i2l (pc := 7) C (by decide +kernel) ?_
  refine zs_lastk (pc := 8) (o := 312) (n := 1) C (by decide) (fun _ _ _ => rfl) (by decide +kernel) rfl ?_
  refine zs_goto (pc := 9) (off := 6) (tgt := 15) C (by decide +kernel) (by decide) ?_
  refine zs_iconst (pc := 15) (n := 0) (x := 0) C (by decide +kernel) (by decide +kernel) ?_
  exact zs_retWi (pc := 16) C hr ⟨Nat.le_of_ble_eq_true rfl, Nat.le_of_ble_eq_true rfl⟩ (by decide +kernel)
set_option maxRecDepth 20000 in
theorem c_L_lasts (l : Launch) (g : GC) (hl : l.stackTraces = false) (a1 : Int) : ConX l g yL_lasts cL_lasts 4 (some .int) [(0, 9, 12, 18)] (rmd 9 1 6) [sR 0, sI a1, sR 312] (fun mm => fL_lasts a1 mm) := by
  refine zs_ofX (by decide +kernel) (Nat.le_of_ble_eq_true rfl) ?_
  intro p e s m args below meth c C hr hT
  replace C : Bd g RL cL_lasts 4 p s m args meth c := C
  unfold fL_lasts
  refine zs_aload_n (pc := 0) (k := 2) (i := 2) C (by decide +kernel) rfl rfl ?_
  refine zs_iconst (pc := 1) (n := 0) (x := 0) C (by decide +kernel) (by decide +kernel) ?_
  refine zs_aload_n (pc := 2) (k := 0) (i := 0) C (by decide +kernel) rfl rfl ?_
  refine zs_iload_n (pc := 3) (k := 1) (i := 1) C (by decide +kernel) rfl rfl ?_
  refine zs_tryi (pc := 4) (As := [sI a1]) (st := [sI 0, sR 312]) C hT rfl (c_X11_lasts l g hl a1) ml_RL_60 rfl rfl rfl rfl (Nat.le_of_ble_eq_true rfl) ⟨Nat.le_of_ble_eq_true rfl, Nat.le_of_ble_eq_true rfl⟩ ⟨Nat.le_of_ble_eq_true rfl, Nat.le_of_ble_eq_true rfl⟩ (by decide +kernel) ⟨(Or.inl (fun _ => rfl)), (Or.inl (fun _ => rfl)), (Or.inr ⟨[], ⟨0, 9, 12, 18⟩, [], 1, rfl, (fun _ h => nomatch h), rfl, by decide, wf_1109, fun _ => rfl, zs_hdl_n (k := 3) (i := 3) C (by decide +kernel) rfl (Nat.le_of_ble_eq_true rfl) (by decide +kernel) (by decide +kernel) (by decide +kernel) hr ⟨Nat.le_of_ble_eq_true rfl, Nat.le_of_ble_eq_true rfl⟩⟩), (Or.inl (fun _ => rfl))⟩ (fun x1 => ?_)
  refine zs_i2l (pc := 7) C (by decide +kernel) ?_
  refine zs_lastk (pc := 8) (o := 312) (n := 1) C (by decide) (fun _ _ _ => rfl) (by decide +kernel) rfl ?_
  refine zs_goto (pc := 9) (off := 6) (tgt := 15) C (by decide +kernel) (by decide) ?_
  refine zs_iconst (pc := 15) (n := 0) (x := 0) C (by decide +kernel) (by decide +kernel) ?_
  exact zs_retWi (pc := 16) C hr ⟨Nat.le_of_ble_eq_true rfl, Nat.le_of_ble_eq_true rfl⟩ (by decide +kernel)
set_option maxRecDepth 20000 in
theorem c_L_reach (l : Launch) (g : GC) (hl : l.stackTraces = false) (a1 : Int) (a2 : Int) (a3 : Int) : ConX l g yL_reach cL_reach 6 (some .int) [(0, 12, 15, 18), (0, 12, 19, 13)] (rmd 9 3 18) [sR 0, sI a1, sI a2, sI a3, sR 312] (fun mm => fL_reach a1 a2 a3 mm) := by
  refine zs_ofX (by decide +kernel) (Nat.le_of_ble_eq_true rfl) ?_
  intro p e s m args below meth c C hr hT
  replace C : Bd g RL cL_reach 6 p s m args meth c := C
  unfold fL_reach
  refine zs_aload (pc := 0) (i := 4) C (by decide +kernel) rfl ?_
  refine zs_iconst (pc := 2) (n := 0) (x := 0) C (by decide +kernel) (by decide +kernel) ?_
  refine zs_aload_n (pc := 3) (k := 0) (i := 0) C (by decide +kernel) rfl rfl ?_
  refine zs_iload_n (pc := 4) (k := 1) (i := 1) C (by decide +kernel) rfl rfl ?_
  refine zs_iload_n (pc := 5) (k := 2) (i := 2) C (by decide +kernel) rfl rfl ?_
  refine zs_iload_n (pc := 6) (k := 3) (i := 3) C (by decide +kernel) rfl rfl ?_
  refine zs_tryi (pc := 7) (As := [sI a1, sI a2, sI a3]) (st := [sI 0, sR 312]) C hT rfl (c_X11_reach l g hl a1 a2 a3) ml_RL_63 rfl rfl rfl rfl (Nat.le_of_ble_eq_true rfl) ⟨Nat.le_of_ble_eq_true rfl, Nat.le_of_ble_eq_true rfl⟩ ⟨Nat.le_of_ble_eq_true rfl, Nat.le_of_ble_eq_true rfl⟩ (by decide +kernel) ⟨(Or.inr ⟨[⟨0, 12, 15, 18⟩], ⟨0, 12, 19, 13⟩, [], 2, rfl, (List.forall_mem_cons.mpr ⟨⟨by decide, "java/util/NoSuchElementException", wf_1109, by decide, by decide⟩, (fun _ h => nomatch h)⟩), rfl, by decide, wf_779, fun _ => rfl, zs_hdl (i := 5) C (by decide +kernel) (Nat.le_of_ble_eq_true rfl) (by decide +kernel) (by decide +kernel) (by decide +kernel) hr ⟨Nat.le_of_ble_eq_true rfl, Nat.le_of_ble_eq_true rfl⟩⟩), (Or.inl (fun _ => rfl)), (Or.inr ⟨[], ⟨0, 12, 15, 18⟩, [⟨0, 12, 19, 13⟩], 1, rfl, (fun _ h => nomatch h), rfl, by decide, wf_1109, fun _ => rfl, zs_hdl (i := 5) C (by decide +kernel) (Nat.le_of_ble_eq_true rfl) (by decide +kernel) (by decide +kernel) (by decide +kernel) hr ⟨Nat.le_of_ble_eq_true rfl, Nat.le_of_ble_eq_true rfl⟩⟩), (Or.inl (fun _ => rfl))⟩ (fun x1 => ?_)
  refine zs_i2l (pc := 10) C (by decide +kernel) ?_
  refine zs_lastk (pc := 11) (o := 312) (n := 1) C (by decide) (fun _ _ _ => rfl) (by decide +kernel) rfl ?_
  refine zs_goto (pc := 12) (off := 11) (tgt := 23) C (by decide +kernel) (by decide) ?_
  refine zs_iconst (pc := 23) (n := 0) (x := 0) C (by decide +kernel) (by decide +kernel) ?_
  exact zs_retWi (pc := 24) C hr ⟨Nat.le_of_ble_eq_true rfl, Nat.le_of_ble_eq_true rfl⟩ (by decide +kernel)
set_option maxRecDepth 20000 in
theorem c_L_together (l : Launch) (g : GC) (hl : l.stackTraces = false) (a1 : Int) (a2 : Int) : ConX l g yL_together cL_together 5 (some .int) [(0, 10, 13, 18), (0, 10, 17, 13)] (rmd 9 2 12) [sR 0, sI a1, sI a2, sR 312] (fun mm => fL_together a1 a2 mm) := by
  refine zs_ofX (by decide +kernel) (Nat.le_of_ble_eq_true rfl) ?_
  intro p e s m args below meth c C hr hT
  replace C : Bd g RL cL_together 5 p s m args meth c := C
  unfold fL_together
  refine zs_aload_n (pc := 0) (k := 3) (i := 3) C (by decide +kernel) rfl rfl ?_
  refine zs_iconst (pc := 1) (n := 0) (x := 0) C (by decide +kernel) (by decide +kernel) ?_
  refine zs_aload_n (pc := 2) (k := 0) (i := 0) C (by decide +kernel) rfl rfl ?_
  refine zs_iload_n (pc := 3) (k := 1) (i := 1) C (by decide +kernel) rfl rfl ?_
  refine zs_iload_n (pc := 4) (k := 2) (i := 2) C (by decide +kernel) rfl rfl ?_
  refine zs_tryi (pc := 5) (As := [sI a1, sI a2]) (st := [sI 0, sR 312]) C hT rfl (c_X11_together l g hl a1 a2) ml_RL_67 rfl rfl rfl rfl (Nat.le_of_ble_eq_true rfl) ⟨Nat.le_of_ble_eq_true rfl, Nat.le_of_ble_eq_true rfl⟩ ⟨Nat.le_of_ble_eq_true rfl, Nat.le_of_ble_eq_true rfl⟩ (by decide +kernel) ⟨(Or.inr ⟨[⟨0, 10, 13, 18⟩], ⟨0, 10, 17, 13⟩, [], 2, rfl, (List.forall_mem_cons.mpr ⟨⟨by decide, "java/util/NoSuchElementException", wf_1109, by decide, by decide⟩, (fun _ h => nomatch h)⟩), rfl, by decide, wf_779, fun _ => rfl, zs_hdl (i := 4) C (by decide +kernel) (Nat.le_of_ble_eq_true rfl) (by decide +kernel) (by decide +kernel) (by decide +kernel) hr ⟨Nat.le_of_ble_eq_true rfl, Nat.le_of_ble_eq_true rfl⟩⟩), (Or.inl (fun _ => rfl)), (Or.inr ⟨[], ⟨0, 10, 13, 18⟩, [⟨0, 10, 17, 13⟩], 1, rfl, (fun _ h => nomatch h), rfl, by decide, wf_1109, fun _ => rfl, zs_hdl (i := 4) C (by decide +kernel) (Nat.le_of_ble_eq_true rfl) (by decide +kernel) (by decide +kernel) (by decide +kernel) hr ⟨Nat.le_of_ble_eq_true rfl, Nat.le_of_ble_eq_true rfl⟩⟩), (Or.inl (fun _ => rfl))⟩ (fun x1 => ?_)
  refine zs_i2l (pc := 8) C (by decide +kernel) ?_
  refine zs_lastk (pc := 9) (o := 312) (n := 1) C (by decide) (fun _ _ _ => rfl) (by decide +kernel) rfl ?_
  refine zs_goto (pc := 10) (off := 11) (tgt := 21) C (by decide +kernel) (by decide) ?_
  refine zs_iconst (pc := 21) (n := 0) (x := 0) C (by decide +kernel) (by decide +kernel) ?_
  exact zs_retWi (pc := 22) C hr ⟨Nat.le_of_ble_eq_true rfl, Nat.le_of_ble_eq_true rfl⟩ (by decide +kernel)
set_option maxRecDepth 20000 in
theorem c_L_meal (l : Launch) (g : GC) (hl : l.stackTraces = false) (a1 : Int) (a2 : Int) : ConX l g yL_meal cL_meal 5 (some .int) [(0, 10, 13, 18), (0, 10, 17, 13)] (rmd 9 2 12) [sR 0, sI a1, sI a2, sR 312] (fun mm => fL_meal a1 a2 mm) := by
  refine zs_ofX (by decide +kernel) (Nat.le_of_ble_eq_true rfl) ?_
  intro p e s m args below meth c C hr hT
  replace C : Bd g RL cL_meal 5 p s m args meth c := C
  unfold fL_meal
  refine zs_aload_n (pc := 0) (k := 3) (i := 3) C (by decide +kernel) rfl rfl ?_
  refine zs_iconst (pc := 1) (n := 0) (x := 0) C (by decide +kernel) (by decide +kernel) ?_
  refine zs_aload_n (pc := 2) (k := 0) (i := 0) C (by decide +kernel) rfl rfl ?_
  refine zs_iload_n (pc := 3) (k := 1) (i := 1) C (by decide +kernel) rfl rfl ?_
  refine zs_iload_n (pc := 4) (k := 2) (i := 2) C (by decide +kernel) rfl rfl ?_
  refine zs_tryi (pc := 5) (As := [sI a1, sI a2]) (st := [sI 0, sR 312]) C hT rfl (c_X11_meal l g hl a1 a2) ml_RL_70 rfl rfl rfl rfl (Nat.le_of_ble_eq_true rfl) ⟨Nat.le_of_ble_eq_true rfl, Nat.le_of_ble_eq_true rfl⟩ ⟨Nat.le_of_ble_eq_true rfl, Nat.le_of_ble_eq_true rfl⟩ (by decide +kernel) ⟨(Or.inr ⟨[⟨0, 10, 13, 18⟩], ⟨0, 10, 17, 13⟩, [], 2, rfl, (List.forall_mem_cons.mpr ⟨⟨by decide, "java/util/NoSuchElementException", wf_1109, by decide, by decide⟩, (fun _ h => nomatch h)⟩), rfl, by decide, wf_779, fun _ => rfl, zs_hdl (i := 4) C (by decide +kernel) (Nat.le_of_ble_eq_true rfl) (by decide +kernel) (by decide +kernel) (by decide +kernel) hr ⟨Nat.le_of_ble_eq_true rfl, Nat.le_of_ble_eq_true rfl⟩⟩), (Or.inl (fun _ => rfl)), (Or.inr ⟨[], ⟨0, 10, 13, 18⟩, [⟨0, 10, 17, 13⟩], 1, rfl, (fun _ h => nomatch h), rfl, by decide, wf_1109, fun _ => rfl, zs_hdl (i := 4) C (by decide +kernel) (Nat.le_of_ble_eq_true rfl) (by decide +kernel) (by decide +kernel) (by decide +kernel) hr ⟨Nat.le_of_ble_eq_true rfl, Nat.le_of_ble_eq_true rfl⟩⟩), (Or.inl (fun _ => rfl))⟩ (fun x1 => ?_)
  refine zs_i2l (pc := 8) C (by decide +kernel) ?_
  refine zs_lastk (pc := 9) (o := 312) (n := 1) C (by decide) (fun _ _ _ => rfl) (by decide +kernel) rfl ?_
  refine zs_goto (pc := 10) (off := 11) (tgt := 21) C (by decide +kernel) (by decide) ?_
  refine zs_iconst (pc := 21) (n := 0) (x := 0) C (by decide +kernel) (by decide +kernel) ?_
  exact zs_retWi (pc := 22) C hr ⟨Nat.le_of_ble_eq_true rfl, Nat.le_of_ble_eq_true rfl⟩ (by decide +kernel)
set_option maxRecDepth 20000 in
theorem c_L_farthest (l : Launch) (g : GC) (hl : l.stackTraces = false) (a1 : Int) (a2 : Int) : ConX l g yL_farthest cL_farthest 5 (some .int) [(0, 10, 13, 18), (0, 10, 17, 13)] (rmd 9 2 12) [sR 0, sI a1, sI a2, sR 312] (fun mm => fL_farthest a1 a2 mm) := by
  refine zs_ofX (by decide +kernel) (Nat.le_of_ble_eq_true rfl) ?_
  intro p e s m args below meth c C hr hT
  replace C : Bd g RL cL_farthest 5 p s m args meth c := C
  unfold fL_farthest
  refine zs_aload_n (pc := 0) (k := 3) (i := 3) C (by decide +kernel) rfl rfl ?_
  refine zs_iconst (pc := 1) (n := 0) (x := 0) C (by decide +kernel) (by decide +kernel) ?_
  refine zs_aload_n (pc := 2) (k := 0) (i := 0) C (by decide +kernel) rfl rfl ?_
  refine zs_iload_n (pc := 3) (k := 1) (i := 1) C (by decide +kernel) rfl rfl ?_
  refine zs_iload_n (pc := 4) (k := 2) (i := 2) C (by decide +kernel) rfl rfl ?_
  refine zs_tryi (pc := 5) (As := [sI a1, sI a2]) (st := [sI 0, sR 312]) C hT rfl (c_X11_farthest l g hl a1 a2) ml_RL_73 rfl rfl rfl rfl (Nat.le_of_ble_eq_true rfl) ⟨Nat.le_of_ble_eq_true rfl, Nat.le_of_ble_eq_true rfl⟩ ⟨Nat.le_of_ble_eq_true rfl, Nat.le_of_ble_eq_true rfl⟩ (by decide +kernel) ⟨(Or.inr ⟨[⟨0, 10, 13, 18⟩], ⟨0, 10, 17, 13⟩, [], 2, rfl, (List.forall_mem_cons.mpr ⟨⟨by decide, "java/util/NoSuchElementException", wf_1109, by decide, by decide⟩, (fun _ h => nomatch h)⟩), rfl, by decide, wf_779, fun _ => rfl, zs_hdl (i := 4) C (by decide +kernel) (Nat.le_of_ble_eq_true rfl) (by decide +kernel) (by decide +kernel) (by decide +kernel) hr ⟨Nat.le_of_ble_eq_true rfl, Nat.le_of_ble_eq_true rfl⟩⟩), (Or.inl (fun _ => rfl)), (Or.inr ⟨[], ⟨0, 10, 13, 18⟩, [⟨0, 10, 17, 13⟩], 1, rfl, (fun _ h => nomatch h), rfl, by decide, wf_1109, fun _ => rfl, zs_hdl (i := 4) C (by decide +kernel) (Nat.le_of_ble_eq_true rfl) (by decide +kernel) (by decide +kernel) (by decide +kernel) hr ⟨Nat.le_of_ble_eq_true rfl, Nat.le_of_ble_eq_true rfl⟩⟩), (Or.inl (fun _ => rfl))⟩ (fun x1 => ?_)
  refine zs_i2l (pc := 8) C (by decide +kernel) ?_
  refine zs_lastk (pc := 9) (o := 312) (n := 1) C (by decide) (fun _ _ _ => rfl) (by decide +kernel) rfl ?_
  refine zs_goto (pc := 10) (off := 11) (tgt := 21) C (by decide +kernel) (by decide) ?_
  refine zs_iconst (pc := 21) (n := 0) (x := 0) C (by decide +kernel) (by decide +kernel) ?_
  exact zs_retWi (pc := 22) C hr ⟨Nat.le_of_ble_eq_true rfl, Nat.le_of_ble_eq_true rfl⟩ (by decide +kernel)
set_option maxRecDepth 20000 in
theorem c_L_soonest (l : Launch) (g : GC) (hl : l.stackTraces = false) (a1 : Int) (a2 : Int) (a3 : Int) : ConX l g yL_soonest cL_soonest 6 (some .int) [(0, 12, 15, 18)] (rmd 10 3 18) [sR 0, sI a1, sI a2, sI a3, sR 312] (fun mm => fL_soonest a1 a2 a3 mm) := by
  refine zs_ofX (by decide +kernel) (Nat.le_of_ble_eq_true rfl) ?_
  intro p e s m args below meth c C hr hT
  replace C : Bd g RL cL_soonest 6 p s m args meth c := C
  unfold fL_soonest
  refine zs_aload (pc := 0) (i := 4) C (by decide +kernel) rfl ?_
  refine zs_iconst (pc := 2) (n := 0) (x := 0) C (by decide +kernel) (by decide +kernel) ?_
  refine zs_aload_n (pc := 3) (k := 0) (i := 0) C (by decide +kernel) rfl rfl ?_
  refine zs_iload_n (pc := 4) (k := 1) (i := 1) C (by decide +kernel) rfl rfl ?_
  refine zs_iload_n (pc := 5) (k := 2) (i := 2) C (by decide +kernel) rfl rfl ?_
  refine zs_iload_n (pc := 6) (k := 3) (i := 3) C (by decide +kernel) rfl rfl ?_
  refine zs_tryi (pc := 7) (As := [sI a1, sI a2, sI a3]) (st := [sI 0, sR 312]) C hT rfl (c_X11_soonest l g hl a1 a2 a3) ml_RL_76 rfl rfl rfl rfl (Nat.le_of_ble_eq_true rfl) ⟨Nat.le_of_ble_eq_true rfl, Nat.le_of_ble_eq_true rfl⟩ ⟨Nat.le_of_ble_eq_true rfl, Nat.le_of_ble_eq_true rfl⟩ (by decide +kernel) ⟨(Or.inl (fun _ => rfl)), (Or.inl (fun _ => rfl)), (Or.inr ⟨[], ⟨0, 12, 15, 18⟩, [], 1, rfl, (fun _ h => nomatch h), rfl, by decide, wf_1109, fun _ => rfl, zs_hdl (i := 5) C (by decide +kernel) (Nat.le_of_ble_eq_true rfl) (by decide +kernel) (by decide +kernel) (by decide +kernel) hr ⟨Nat.le_of_ble_eq_true rfl, Nat.le_of_ble_eq_true rfl⟩⟩), (Or.inl (fun _ => rfl))⟩ (fun x1 => ?_)
  refine zs_i2l (pc := 10) C (by decide +kernel) ?_
  refine zs_lastk (pc := 11) (o := 312) (n := 1) C (by decide) (fun _ _ _ => rfl) (by decide +kernel) rfl ?_
  refine zs_goto (pc := 12) (off := 7) (tgt := 19) C (by decide +kernel) (by decide) ?_
  refine zs_iconst (pc := 19) (n := 0) (x := 0) C (by decide +kernel) (by decide +kernel) ?_
  exact zs_retWi (pc := 20) C hr ⟨Nat.le_of_ble_eq_true rfl, Nat.le_of_ble_eq_true rfl⟩ (by decide +kernel)
set_option maxRecDepth 20000 in
theorem c_L_leads (l : Launch) (g : GC) (hl : l.stackTraces = false) (a1 : Int) (a2 : Int) (a3 : Int) (a4 : Int) : ConX l g yL_leads cL_leads 7 (some .int) [(0, 14, 17, 18), (0, 14, 21, 13)] (rmd 10 4 24) [sR 0, sI a1, sI a2, sI a3, sI a4, sR 312] (fun mm => fL_leads a1 a2 a3 a4 mm) := by
  refine zs_ofX (by decide +kernel) (Nat.le_of_ble_eq_true rfl) ?_
  intro p e s m args below meth c C hr hT
  replace C : Bd g RL cL_leads 7 p s m args meth c := C
  unfold fL_leads
  refine zs_aload (pc := 0) (i := 5) C (by decide +kernel) rfl ?_
  refine zs_iconst (pc := 2) (n := 0) (x := 0) C (by decide +kernel) (by decide +kernel) ?_
  refine zs_aload_n (pc := 3) (k := 0) (i := 0) C (by decide +kernel) rfl rfl ?_
  refine zs_iload_n (pc := 4) (k := 1) (i := 1) C (by decide +kernel) rfl rfl ?_
  refine zs_iload_n (pc := 5) (k := 2) (i := 2) C (by decide +kernel) rfl rfl ?_
  refine zs_iload_n (pc := 6) (k := 3) (i := 3) C (by decide +kernel) rfl rfl ?_
  refine zs_iload (pc := 7) (i := 4) C (by decide +kernel) rfl ?_
  refine zs_tryi (pc := 9) (As := [sI a1, sI a2, sI a3, sI a4]) (st := [sI 0, sR 312]) C hT rfl (c_X11_leads l g hl a1 a2 a3 a4) ml_RL_79 rfl rfl rfl rfl (Nat.le_of_ble_eq_true rfl) ⟨Nat.le_of_ble_eq_true rfl, Nat.le_of_ble_eq_true rfl⟩ ⟨Nat.le_of_ble_eq_true rfl, Nat.le_of_ble_eq_true rfl⟩ (by decide +kernel) ⟨(Or.inr ⟨[⟨0, 14, 17, 18⟩], ⟨0, 14, 21, 13⟩, [], 2, rfl, (List.forall_mem_cons.mpr ⟨⟨by decide, "java/util/NoSuchElementException", wf_1109, by decide, by decide⟩, (fun _ h => nomatch h)⟩), rfl, by decide, wf_779, fun _ => rfl, zs_hdl (i := 6) C (by decide +kernel) (Nat.le_of_ble_eq_true rfl) (by decide +kernel) (by decide +kernel) (by decide +kernel) hr ⟨Nat.le_of_ble_eq_true rfl, Nat.le_of_ble_eq_true rfl⟩⟩), (Or.inl (fun _ => rfl)), (Or.inr ⟨[], ⟨0, 14, 17, 18⟩, [⟨0, 14, 21, 13⟩], 1, rfl, (fun _ h => nomatch h), rfl, by decide, wf_1109, fun _ => rfl, zs_hdl (i := 6) C (by decide +kernel) (Nat.le_of_ble_eq_true rfl) (by decide +kernel) (by decide +kernel) (by decide +kernel) hr ⟨Nat.le_of_ble_eq_true rfl, Nat.le_of_ble_eq_true rfl⟩⟩), (Or.inl (fun _ => rfl))⟩ (fun x1 => ?_)
  refine zs_i2l (pc := 12) C (by decide +kernel) ?_
  refine zs_lastk (pc := 13) (o := 312) (n := 1) C (by decide) (fun _ _ _ => rfl) (by decide +kernel) rfl ?_
  refine zs_goto (pc := 14) (off := 11) (tgt := 25) C (by decide +kernel) (by decide) ?_
  refine zs_iconst (pc := 25) (n := 0) (x := 0) C (by decide +kernel) (by decide +kernel) ?_
  exact zs_retWi (pc := 26) C hr ⟨Nat.le_of_ble_eq_true rfl, Nat.le_of_ble_eq_true rfl⟩ (by decide +kernel)
set_option maxRecDepth 20000 in
theorem c_L_ways (l : Launch) (g : GC) (hl : l.stackTraces = false) (a1 : Int) (a2 : Int) (a3 : Int) (a4 : Int) : ConX l g yL_ways cL_ways 7 (some .int) [(0, 13, 16, 18), (0, 13, 20, 13)] (rmd 10 4 24) [sR 0, sI a1, sI a2, sI a3, sI a4, sR 312] (fun mm => fL_ways a1 a2 a3 a4 mm) := by
  refine zs_ofX (by decide +kernel) (Nat.le_of_ble_eq_true rfl) ?_
  intro p e s m args below meth c C hr hT
  replace C : Bd g RL cL_ways 7 p s m args meth c := C
  unfold fL_ways
  refine zs_aload (pc := 0) (i := 5) C (by decide +kernel) rfl ?_
  refine zs_iconst (pc := 2) (n := 0) (x := 0) C (by decide +kernel) (by decide +kernel) ?_
  refine zs_aload_n (pc := 3) (k := 0) (i := 0) C (by decide +kernel) rfl rfl ?_
  refine zs_iload_n (pc := 4) (k := 1) (i := 1) C (by decide +kernel) rfl rfl ?_
  refine zs_iload_n (pc := 5) (k := 2) (i := 2) C (by decide +kernel) rfl rfl ?_
  refine zs_iload_n (pc := 6) (k := 3) (i := 3) C (by decide +kernel) rfl rfl ?_
  refine zs_iload (pc := 7) (i := 4) C (by decide +kernel) rfl ?_
  refine zs_tryl (pc := 9) (As := [sI a1, sI a2, sI a3, sI a4]) (st := [sI 0, sR 312]) C hT (c_X11_ways l g hl a1 a2 a3 a4) ml_RL_83 rfl rfl rfl rfl (Nat.le_of_ble_eq_true rfl) ⟨Nat.le_of_ble_eq_true rfl, Nat.le_of_ble_eq_true rfl⟩ ⟨Nat.le_of_ble_eq_true rfl, Nat.le_of_ble_eq_true rfl⟩ (by decide +kernel) ⟨(Or.inr ⟨[⟨0, 13, 16, 18⟩], ⟨0, 13, 20, 13⟩, [], 2, rfl, (List.forall_mem_cons.mpr ⟨⟨by decide, "java/util/NoSuchElementException", wf_1109, by decide, by decide⟩, (fun _ h => nomatch h)⟩), rfl, by decide, wf_779, fun _ => rfl, zs_hdl (i := 6) C (by decide +kernel) (Nat.le_of_ble_eq_true rfl) (by decide +kernel) (by decide +kernel) (by decide +kernel) hr ⟨Nat.le_of_ble_eq_true rfl, Nat.le_of_ble_eq_true rfl⟩⟩), (Or.inl (fun _ => rfl)), (Or.inr ⟨[], ⟨0, 13, 16, 18⟩, [⟨0, 13, 20, 13⟩], 1, rfl, (fun _ h => nomatch h), rfl, by decide, wf_1109, fun _ => rfl, zs_hdl (i := 6) C (by decide +kernel) (Nat.le_of_ble_eq_true rfl) (by decide +kernel) (by decide +kernel) (by decide +kernel) hr ⟨Nat.le_of_ble_eq_true rfl, Nat.le_of_ble_eq_true rfl⟩⟩), (Or.inl (fun _ => rfl))⟩ (fun x1 => ?_)
  refine zs_lastk (pc := 12) (o := 312) (n := 1) C (by decide) (fun _ _ _ => rfl) (by decide +kernel) rfl ?_
  refine zs_goto (pc := 13) (off := 11) (tgt := 24) C (by decide +kernel) (by decide) ?_
  refine zs_iconst (pc := 24) (n := 0) (x := 0) C (by decide +kernel) (by decide +kernel) ?_
  exact zs_retWi (pc := 25) C hr ⟨Nat.le_of_ble_eq_true rfl, Nat.le_of_ble_eq_true rfl⟩ (by decide +kernel)
set_option maxRecDepth 20000 in
theorem c_L_alone (l : Launch) (g : GC) (hl : l.stackTraces = false) (a1 : Int) (a2 : Int) (a3 : Int) : ConX l g yL_alone cL_alone 6 (some .int) [(0, 12, 15, 18), (0, 12, 19, 13)] (rmd 9 3 18) [sR 0, sI a1, sI a2, sI a3, sR 312] (fun mm => fL_alone a1 a2 a3 mm) := by
  refine zs_ofX (by decide +kernel) (Nat.le_of_ble_eq_true rfl) ?_
  intro p e s m args below meth c C hr hT
  replace C : Bd g RL cL_alone 6 p s m args meth c := C
  unfold fL_alone
  refine zs_aload (pc := 0) (i := 4) C (by decide +kernel) rfl ?_
  refine zs_iconst (pc := 2) (n := 0) (x := 0) C (by decide +kernel) (by decide +kernel) ?_
  refine zs_aload_n (pc := 3) (k := 0) (i := 0) C (by decide +kernel) rfl rfl ?_
  refine zs_iload_n (pc := 4) (k := 1) (i := 1) C (by decide +kernel) rfl rfl ?_
  refine zs_iload_n (pc := 5) (k := 2) (i := 2) C (by decide +kernel) rfl rfl ?_
  refine zs_iload_n (pc := 6) (k := 3) (i := 3) C (by decide +kernel) rfl rfl ?_
  refine zs_tryi (pc := 7) (As := [sI a1, sI a2, sI a3]) (st := [sI 0, sR 312]) C hT rfl (c_X11_alone l g hl a1 a2 a3) ml_RL_87 rfl rfl rfl rfl (Nat.le_of_ble_eq_true rfl) ⟨Nat.le_of_ble_eq_true rfl, Nat.le_of_ble_eq_true rfl⟩ ⟨Nat.le_of_ble_eq_true rfl, Nat.le_of_ble_eq_true rfl⟩ (by decide +kernel) ⟨(Or.inr ⟨[⟨0, 12, 15, 18⟩], ⟨0, 12, 19, 13⟩, [], 2, rfl, (List.forall_mem_cons.mpr ⟨⟨by decide, "java/util/NoSuchElementException", wf_1109, by decide, by decide⟩, (fun _ h => nomatch h)⟩), rfl, by decide, wf_779, fun _ => rfl, zs_hdl (i := 5) C (by decide +kernel) (Nat.le_of_ble_eq_true rfl) (by decide +kernel) (by decide +kernel) (by decide +kernel) hr ⟨Nat.le_of_ble_eq_true rfl, Nat.le_of_ble_eq_true rfl⟩⟩), (Or.inl (fun _ => rfl)), (Or.inr ⟨[], ⟨0, 12, 15, 18⟩, [⟨0, 12, 19, 13⟩], 1, rfl, (fun _ h => nomatch h), rfl, by decide, wf_1109, fun _ => rfl, zs_hdl (i := 5) C (by decide +kernel) (Nat.le_of_ble_eq_true rfl) (by decide +kernel) (by decide +kernel) (by decide +kernel) hr ⟨Nat.le_of_ble_eq_true rfl, Nat.le_of_ble_eq_true rfl⟩⟩), (Or.inl (fun _ => rfl))⟩ (fun x1 => ?_)
  refine zs_i2l (pc := 10) C (by decide +kernel) ?_
  refine zs_lastk (pc := 11) (o := 312) (n := 1) C (by decide) (fun _ _ _ => rfl) (by decide +kernel) rfl ?_
  refine zs_goto (pc := 12) (off := 11) (tgt := 23) C (by decide +kernel) (by decide) ?_
  refine zs_iconst (pc := 23) (n := 0) (x := 0) C (by decide +kernel) (by decide +kernel) ?_
  exact zs_retWi (pc := 24) C hr ⟨Nat.le_of_ble_eq_true rfl, Nat.le_of_ble_eq_true rfl⟩ (by decide +kernel)
set_option maxRecDepth 20000 in
theorem c_L_costs (l : Launch) (g : GC) (hl : l.stackTraces = false) (a1 : Int) (a2 : Int) (a3 : Int) : ConX l g yL_costs cL_costs 6 (some .int) [(0, 12, 15, 18), (0, 12, 19, 13)] (rmd 9 3 18) [sR 0, sI a1, sI a2, sI a3, sR 312] (fun mm => fL_costs a1 a2 a3 mm) := by
  refine zs_ofX (by decide +kernel) (Nat.le_of_ble_eq_true rfl) ?_
  intro p e s m args below meth c C hr hT
  replace C : Bd g RL cL_costs 6 p s m args meth c := C
  unfold fL_costs
  refine zs_aload (pc := 0) (i := 4) C (by decide +kernel) rfl ?_
  refine zs_iconst (pc := 2) (n := 0) (x := 0) C (by decide +kernel) (by decide +kernel) ?_
  refine zs_aload_n (pc := 3) (k := 0) (i := 0) C (by decide +kernel) rfl rfl ?_
  refine zs_iload_n (pc := 4) (k := 1) (i := 1) C (by decide +kernel) rfl rfl ?_
  refine zs_iload_n (pc := 5) (k := 2) (i := 2) C (by decide +kernel) rfl rfl ?_
  refine zs_iload_n (pc := 6) (k := 3) (i := 3) C (by decide +kernel) rfl rfl ?_
  refine zs_tryi (pc := 7) (As := [sI a1, sI a2, sI a3]) (st := [sI 0, sR 312]) C hT rfl (c_X11_costs l g hl a1 a2 a3) ml_RL_90 rfl rfl rfl rfl (Nat.le_of_ble_eq_true rfl) ⟨Nat.le_of_ble_eq_true rfl, Nat.le_of_ble_eq_true rfl⟩ ⟨Nat.le_of_ble_eq_true rfl, Nat.le_of_ble_eq_true rfl⟩ (by decide +kernel) ⟨(Or.inr ⟨[⟨0, 12, 15, 18⟩], ⟨0, 12, 19, 13⟩, [], 2, rfl, (List.forall_mem_cons.mpr ⟨⟨by decide, "java/util/NoSuchElementException", wf_1109, by decide, by decide⟩, (fun _ h => nomatch h)⟩), rfl, by decide, wf_779, fun _ => rfl, zs_hdl (i := 5) C (by decide +kernel) (Nat.le_of_ble_eq_true rfl) (by decide +kernel) (by decide +kernel) (by decide +kernel) hr ⟨Nat.le_of_ble_eq_true rfl, Nat.le_of_ble_eq_true rfl⟩⟩), (Or.inl (fun _ => rfl)), (Or.inr ⟨[], ⟨0, 12, 15, 18⟩, [⟨0, 12, 19, 13⟩], 1, rfl, (fun _ h => nomatch h), rfl, by decide, wf_1109, fun _ => rfl, zs_hdl (i := 5) C (by decide +kernel) (Nat.le_of_ble_eq_true rfl) (by decide +kernel) (by decide +kernel) (by decide +kernel) hr ⟨Nat.le_of_ble_eq_true rfl, Nat.le_of_ble_eq_true rfl⟩⟩), (Or.inl (fun _ => rfl))⟩ (fun x1 => ?_)
  refine zs_i2l (pc := 10) C (by decide +kernel) ?_
  refine zs_lastk (pc := 11) (o := 312) (n := 1) C (by decide) (fun _ _ _ => rfl) (by decide +kernel) rfl ?_
  refine zs_goto (pc := 12) (off := 11) (tgt := 23) C (by decide +kernel) (by decide) ?_
  refine zs_iconst (pc := 23) (n := 0) (x := 0) C (by decide +kernel) (by decide +kernel) ?_
  exact zs_retWi (pc := 24) C hr ⟨Nat.le_of_ble_eq_true rfl, Nat.le_of_ble_eq_true rfl⟩ (by decide +kernel)
set_option maxRecDepth 20000 in
theorem c_L_leastRope (l : Launch) (g : GC) (hl : l.stackTraces = false) (a1 : Int) (a2 : Int) (a3 : Int) : ConX l g yL_leastRope cL_leastRope 6 (some .int) [(0, 12, 15, 18)] (rmd 10 3 18) [sR 0, sI a1, sI a2, sI a3, sR 312] (fun mm => fL_leastRope a1 a2 a3 mm) := by
  refine zs_ofX (by decide +kernel) (Nat.le_of_ble_eq_true rfl) ?_
  intro p e s m args below meth c C hr hT
  replace C : Bd g RL cL_leastRope 6 p s m args meth c := C
  unfold fL_leastRope
  refine zs_aload (pc := 0) (i := 4) C (by decide +kernel) rfl ?_
  refine zs_iconst (pc := 2) (n := 0) (x := 0) C (by decide +kernel) (by decide +kernel) ?_
  refine zs_aload_n (pc := 3) (k := 0) (i := 0) C (by decide +kernel) rfl rfl ?_
  refine zs_iload_n (pc := 4) (k := 1) (i := 1) C (by decide +kernel) rfl rfl ?_
  refine zs_iload_n (pc := 5) (k := 2) (i := 2) C (by decide +kernel) rfl rfl ?_
  refine zs_iload_n (pc := 6) (k := 3) (i := 3) C (by decide +kernel) rfl rfl ?_
  refine zs_tryi (pc := 7) (As := [sI a1, sI a2, sI a3]) (st := [sI 0, sR 312]) C hT rfl (c_X11_leastRope l g hl a1 a2 a3) ml_RL_93 rfl rfl rfl rfl (Nat.le_of_ble_eq_true rfl) ⟨Nat.le_of_ble_eq_true rfl, Nat.le_of_ble_eq_true rfl⟩ ⟨Nat.le_of_ble_eq_true rfl, Nat.le_of_ble_eq_true rfl⟩ (by decide +kernel) ⟨(Or.inl (fun _ => rfl)), (Or.inl (fun _ => rfl)), (Or.inr ⟨[], ⟨0, 12, 15, 18⟩, [], 1, rfl, (fun _ h => nomatch h), rfl, by decide, wf_1109, fun _ => rfl, zs_hdl (i := 5) C (by decide +kernel) (Nat.le_of_ble_eq_true rfl) (by decide +kernel) (by decide +kernel) (by decide +kernel) hr ⟨Nat.le_of_ble_eq_true rfl, Nat.le_of_ble_eq_true rfl⟩⟩), (Or.inl (fun _ => rfl))⟩ (fun x1 => ?_)
  refine zs_i2l (pc := 10) C (by decide +kernel) ?_
  refine zs_lastk (pc := 11) (o := 312) (n := 1) C (by decide) (fun _ _ _ => rfl) (by decide +kernel) rfl ?_
  refine zs_goto (pc := 12) (off := 7) (tgt := 19) C (by decide +kernel) (by decide) ?_
  refine zs_iconst (pc := 19) (n := 0) (x := 0) C (by decide +kernel) (by decide +kernel) ?_
  exact zs_retWi (pc := 20) C hr ⟨Nat.le_of_ble_eq_true rfl, Nat.le_of_ble_eq_true rfl⟩ (by decide +kernel)
set_option maxRecDepth 20000 in
theorem c_L_needed (l : Launch) (g : GC) (hl : l.stackTraces = false) (a1 : Int) (a2 : Int) (a3 : Int) : ConX l g yL_needed cL_needed 6 (some .int) [(0, 12, 15, 18)] (rmd 10 3 18) [sR 0, sI a1, sI a2, sI a3, sR 312] (fun mm => fL_needed a1 a2 a3 mm) := by
  refine zs_ofX (by decide +kernel) (Nat.le_of_ble_eq_true rfl) ?_
  intro p e s m args below meth c C hr hT
  replace C : Bd g RL cL_needed 6 p s m args meth c := C
  unfold fL_needed
  refine zs_aload (pc := 0) (i := 4) C (by decide +kernel) rfl ?_
  refine zs_iconst (pc := 2) (n := 0) (x := 0) C (by decide +kernel) (by decide +kernel) ?_
  refine zs_aload_n (pc := 3) (k := 0) (i := 0) C (by decide +kernel) rfl rfl ?_
  refine zs_iload_n (pc := 4) (k := 1) (i := 1) C (by decide +kernel) rfl rfl ?_
  refine zs_iload_n (pc := 5) (k := 2) (i := 2) C (by decide +kernel) rfl rfl ?_
  refine zs_iload_n (pc := 6) (k := 3) (i := 3) C (by decide +kernel) rfl rfl ?_
  refine zs_tryi (pc := 7) (As := [sI a1, sI a2, sI a3]) (st := [sI 0, sR 312]) C hT rfl (c_X11_needed l g hl a1 a2 a3) ml_RL_96 rfl rfl rfl rfl (Nat.le_of_ble_eq_true rfl) ⟨Nat.le_of_ble_eq_true rfl, Nat.le_of_ble_eq_true rfl⟩ ⟨Nat.le_of_ble_eq_true rfl, Nat.le_of_ble_eq_true rfl⟩ (by decide +kernel) ⟨(Or.inl (fun _ => rfl)), (Or.inl (fun _ => rfl)), (Or.inr ⟨[], ⟨0, 12, 15, 18⟩, [], 1, rfl, (fun _ h => nomatch h), rfl, by decide, wf_1109, fun _ => rfl, zs_hdl (i := 5) C (by decide +kernel) (Nat.le_of_ble_eq_true rfl) (by decide +kernel) (by decide +kernel) (by decide +kernel) hr ⟨Nat.le_of_ble_eq_true rfl, Nat.le_of_ble_eq_true rfl⟩⟩), (Or.inl (fun _ => rfl))⟩ (fun x1 => ?_)
  refine zs_i2l (pc := 10) C (by decide +kernel) ?_
  refine zs_lastk (pc := 11) (o := 312) (n := 1) C (by decide) (fun _ _ _ => rfl) (by decide +kernel) rfl ?_
  refine zs_goto (pc := 12) (off := 7) (tgt := 19) C (by decide +kernel) (by decide) ?_
  refine zs_iconst (pc := 19) (n := 0) (x := 0) C (by decide +kernel) (by decide +kernel) ?_
  exact zs_retWi (pc := 20) C hr ⟨Nat.le_of_ble_eq_true rfl, Nat.le_of_ble_eq_true rfl⟩ (by decide +kernel)
set_option maxRecDepth 20000 in
theorem c_L_clear (l : Launch) (g : GC) (hl : l.stackTraces = false) (a1 : Int) (a2 : Int) (a3 : Int) : ConX l g yL_clear cL_clear 6 (some .int) [(0, 12, 15, 18)] (rmd 10 3 18) [sR 0, sI a1, sI a2, sI a3, sR 312] (fun mm => fL_clear a1 a2 a3 mm) := by
  refine zs_ofX (by decide +kernel) (Nat.le_of_ble_eq_true rfl) ?_
  intro p e s m args below meth c C hr hT
  replace C : Bd g RL cL_clear 6 p s m args meth c := C
  unfold fL_clear
  refine zs_aload (pc := 0) (i := 4) C (by decide +kernel) rfl ?_
  refine zs_iconst (pc := 2) (n := 0) (x := 0) C (by decide +kernel) (by decide +kernel) ?_
  refine zs_aload_n (pc := 3) (k := 0) (i := 0) C (by decide +kernel) rfl rfl ?_
  refine zs_iload_n (pc := 4) (k := 1) (i := 1) C (by decide +kernel) rfl rfl ?_
  refine zs_iload_n (pc := 5) (k := 2) (i := 2) C (by decide +kernel) rfl rfl ?_
  refine zs_iload_n (pc := 6) (k := 3) (i := 3) C (by decide +kernel) rfl rfl ?_
  refine zs_tryi (pc := 7) (As := [sI a1, sI a2, sI a3]) (st := [sI 0, sR 312]) C hT rfl (c_X11_clear l g hl a1 a2 a3) ml_RL_99 rfl rfl rfl rfl (Nat.le_of_ble_eq_true rfl) ⟨Nat.le_of_ble_eq_true rfl, Nat.le_of_ble_eq_true rfl⟩ ⟨Nat.le_of_ble_eq_true rfl, Nat.le_of_ble_eq_true rfl⟩ (by decide +kernel) ⟨(Or.inl (fun _ => rfl)), (Or.inl (fun _ => rfl)), (Or.inr ⟨[], ⟨0, 12, 15, 18⟩, [], 1, rfl, (fun _ h => nomatch h), rfl, by decide, wf_1109, fun _ => rfl, zs_hdl (i := 5) C (by decide +kernel) (Nat.le_of_ble_eq_true rfl) (by decide +kernel) (by decide +kernel) (by decide +kernel) hr ⟨Nat.le_of_ble_eq_true rfl, Nat.le_of_ble_eq_true rfl⟩⟩), (Or.inl (fun _ => rfl))⟩ (fun x1 => ?_)
  refine zs_i2l (pc := 10) C (by decide +kernel) ?_
  refine zs_lastk (pc := 11) (o := 312) (n := 1) C (by decide) (fun _ _ _ => rfl) (by decide +kernel) rfl ?_
  refine zs_goto (pc := 12) (off := 7) (tgt := 19) C (by decide +kernel) (by decide) ?_
  refine zs_iconst (pc := 19) (n := 0) (x := 0) C (by decide +kernel) (by decide +kernel) ?_
  exact zs_retWi (pc := 20) C hr ⟨Nat.le_of_ble_eq_true rfl, Nat.le_of_ble_eq_true rfl⟩ (by decide +kernel)
set_option maxRecDepth 20000 in
theorem c_L_errands (l : Launch) (g : GC) (hl : l.stackTraces = false) (a1 : Int) (a2 : Int) : ConX l g yL_errands cL_errands 5 (some .int) [(0, 10, 13, 18), (0, 10, 17, 34), (0, 10, 21, 13)] (rmd 11 5 30) [sR 0, sI a1, sI a2, sR 312] (fun mm => fL_errands a1 a2 mm) := by
  refine zs_ofX (by decide +kernel) (Nat.le_of_ble_eq_true rfl) ?_
  intro p e s m args below meth c C hr hT
  replace C : Bd g RL cL_errands 5 p s m args meth c := C
  unfold fL_errands
  refine zs_aload_n (pc := 0) (k := 3) (i := 3) C (by decide +kernel) rfl rfl ?_
  refine zs_iconst (pc := 1) (n := 0) (x := 0) C (by decide +kernel) (by decide +kernel) ?_
  refine zs_aload_n (pc := 2) (k := 0) (i := 0) C (by decide +kernel) rfl rfl ?_
  refine zs_iload_n (pc := 3) (k := 1) (i := 1) C (by decide +kernel) rfl rfl ?_
  refine zs_iload_n (pc := 4) (k := 2) (i := 2) C (by decide +kernel) rfl rfl ?_
  refine zs_tryi (pc := 5) (As := [sI a1, sI a2]) (st := [sI 0, sR 312]) C hT rfl (c_X11_errands l g hl a1 a2) ml_RL_102 rfl rfl rfl rfl (Nat.le_of_ble_eq_true rfl) ⟨Nat.le_of_ble_eq_true rfl, Nat.le_of_ble_eq_true rfl⟩ ⟨Nat.le_of_ble_eq_true rfl, Nat.le_of_ble_eq_true rfl⟩ (by decide +kernel) ⟨(Or.inr ⟨[⟨0, 10, 13, 18⟩, ⟨0, 10, 17, 34⟩], ⟨0, 10, 21, 13⟩, [], 3, rfl, (List.forall_mem_cons.mpr ⟨⟨by decide, "java/util/NoSuchElementException", wf_1109, by decide, by decide⟩, (List.forall_mem_cons.mpr ⟨⟨by decide, "java/lang/IllegalStateException", wf_1182, by decide, by decide⟩, (fun _ h => nomatch h)⟩)⟩), rfl, by decide, wf_779, fun _ => rfl, zs_hdl (i := 4) C (by decide +kernel) (Nat.le_of_ble_eq_true rfl) (by decide +kernel) (by decide +kernel) (by decide +kernel) hr ⟨Nat.le_of_ble_eq_true rfl, Nat.le_of_ble_eq_true rfl⟩⟩), (Or.inr ⟨[⟨0, 10, 13, 18⟩], ⟨0, 10, 17, 34⟩, [⟨0, 10, 21, 13⟩], 2, rfl, (List.forall_mem_cons.mpr ⟨⟨by decide, "java/util/NoSuchElementException", wf_1109, by decide, by decide⟩, (fun _ h => nomatch h)⟩), rfl, by decide, wf_1182, fun _ => rfl, zs_hdl (i := 4) C (by decide +kernel) (Nat.le_of_ble_eq_true rfl) (by decide +kernel) (by decide +kernel) (by decide +kernel) hr ⟨Nat.le_of_ble_eq_true rfl, Nat.le_of_ble_eq_true rfl⟩⟩), (Or.inr ⟨[], ⟨0, 10, 13, 18⟩, [⟨0, 10, 17, 34⟩, ⟨0, 10, 21, 13⟩], 1, rfl, (fun _ h => nomatch h), rfl, by decide, wf_1109, fun _ => rfl, zs_hdl (i := 4) C (by decide +kernel) (Nat.le_of_ble_eq_true rfl) (by decide +kernel) (by decide +kernel) (by decide +kernel) hr ⟨Nat.le_of_ble_eq_true rfl, Nat.le_of_ble_eq_true rfl⟩⟩), (Or.inl (fun _ => rfl))⟩ (fun x1 => ?_)
  refine zs_i2l (pc := 8) C (by decide +kernel) ?_
  refine zs_lastk (pc := 9) (o := 312) (n := 1) C (by decide) (fun _ _ _ => rfl) (by decide +kernel) rfl ?_
  refine zs_goto (pc := 10) (off := 15) (tgt := 25) C (by decide +kernel) (by decide) ?_
  refine zs_iconst (pc := 25) (n := 0) (x := 0) C (by decide +kernel) (by decide +kernel) ?_
  exact zs_retWi (pc := 26) C hr ⟨Nat.le_of_ble_eq_true rfl, Nat.le_of_ble_eq_true rfl⟩ (by decide +kernel)
set_option maxRecDepth 20000 in
theorem c_L_dropped (l : Launch) (g : GC) (hl : l.stackTraces = false) (a1 : Int) (a2 : Int) : ConX l g yL_dropped cL_dropped 5 (some .int) [(0, 10, 13, 18), (0, 10, 17, 34), (0, 10, 21, 13)] (rmd 11 5 30) [sR 0, sI a1, sI a2, sR 312] (fun mm => fL_dropped a1 a2 mm) := by
  refine zs_ofX (by decide +kernel) (Nat.le_of_ble_eq_true rfl) ?_
  intro p e s m args below meth c C hr hT
  replace C : Bd g RL cL_dropped 5 p s m args meth c := C
  unfold fL_dropped
  refine zs_aload_n (pc := 0) (k := 3) (i := 3) C (by decide +kernel) rfl rfl ?_
  refine zs_iconst (pc := 1) (n := 0) (x := 0) C (by decide +kernel) (by decide +kernel) ?_
  refine zs_aload_n (pc := 2) (k := 0) (i := 0) C (by decide +kernel) rfl rfl ?_
  refine zs_iload_n (pc := 3) (k := 1) (i := 1) C (by decide +kernel) rfl rfl ?_
  refine zs_iload_n (pc := 4) (k := 2) (i := 2) C (by decide +kernel) rfl rfl ?_
  refine zs_tryi (pc := 5) (As := [sI a1, sI a2]) (st := [sI 0, sR 312]) C hT rfl (c_X11_dropped l g hl a1 a2) ml_RL_105 rfl rfl rfl rfl (Nat.le_of_ble_eq_true rfl) ⟨Nat.le_of_ble_eq_true rfl, Nat.le_of_ble_eq_true rfl⟩ ⟨Nat.le_of_ble_eq_true rfl, Nat.le_of_ble_eq_true rfl⟩ (by decide +kernel) ⟨(Or.inr ⟨[⟨0, 10, 13, 18⟩, ⟨0, 10, 17, 34⟩], ⟨0, 10, 21, 13⟩, [], 3, rfl, (List.forall_mem_cons.mpr ⟨⟨by decide, "java/util/NoSuchElementException", wf_1109, by decide, by decide⟩, (List.forall_mem_cons.mpr ⟨⟨by decide, "java/lang/IllegalStateException", wf_1182, by decide, by decide⟩, (fun _ h => nomatch h)⟩)⟩), rfl, by decide, wf_779, fun _ => rfl, zs_hdl (i := 4) C (by decide +kernel) (Nat.le_of_ble_eq_true rfl) (by decide +kernel) (by decide +kernel) (by decide +kernel) hr ⟨Nat.le_of_ble_eq_true rfl, Nat.le_of_ble_eq_true rfl⟩⟩), (Or.inr ⟨[⟨0, 10, 13, 18⟩], ⟨0, 10, 17, 34⟩, [⟨0, 10, 21, 13⟩], 2, rfl, (List.forall_mem_cons.mpr ⟨⟨by decide, "java/util/NoSuchElementException", wf_1109, by decide, by decide⟩, (fun _ h => nomatch h)⟩), rfl, by decide, wf_1182, fun _ => rfl, zs_hdl (i := 4) C (by decide +kernel) (Nat.le_of_ble_eq_true rfl) (by decide +kernel) (by decide +kernel) (by decide +kernel) hr ⟨Nat.le_of_ble_eq_true rfl, Nat.le_of_ble_eq_true rfl⟩⟩), (Or.inr ⟨[], ⟨0, 10, 13, 18⟩, [⟨0, 10, 17, 34⟩, ⟨0, 10, 21, 13⟩], 1, rfl, (fun _ h => nomatch h), rfl, by decide, wf_1109, fun _ => rfl, zs_hdl (i := 4) C (by decide +kernel) (Nat.le_of_ble_eq_true rfl) (by decide +kernel) (by decide +kernel) (by decide +kernel) hr ⟨Nat.le_of_ble_eq_true rfl, Nat.le_of_ble_eq_true rfl⟩⟩), (Or.inl (fun _ => rfl))⟩ (fun x1 => ?_)
  refine zs_i2l (pc := 8) C (by decide +kernel) ?_
  refine zs_lastk (pc := 9) (o := 312) (n := 1) C (by decide) (fun _ _ _ => rfl) (by decide +kernel) rfl ?_
  refine zs_goto (pc := 10) (off := 15) (tgt := 25) C (by decide +kernel) (by decide) ?_
  refine zs_iconst (pc := 25) (n := 0) (x := 0) C (by decide +kernel) (by decide +kernel) ?_
  exact zs_retWi (pc := 26) C hr ⟨Nat.le_of_ble_eq_true rfl, Nat.le_of_ble_eq_true rfl⟩ (by decide +kernel)
set_option maxRecDepth 20000 in
theorem c_L_shortest (l : Launch) (g : GC) (hl : l.stackTraces = false) (a1 : Int) : ConX l g yL_shortest cL_shortest 4 (some .int) [(0, 9, 12, 13)] (rmd 8 1 6) [sR 0, sI a1, sR 312] (fun mm => fL_shortest a1 mm) := by
  refine zs_ofX (by decide +kernel) (Nat.le_of_ble_eq_true rfl) ?_
  intro p e s m args below meth c C hr hT
  replace C : Bd g RL cL_shortest 4 p s m args meth c := C
  unfold fL_shortest
  refine zs_aload_n (pc := 0) (k := 2) (i := 2) C (by decide +kernel) rfl rfl ?_
  refine zs_iconst (pc := 1) (n := 0) (x := 0) C (by decide +kernel) (by decide +kernel) ?_
  refine zs_aload_n (pc := 2) (k := 0) (i := 0) C (by decide +kernel) rfl rfl ?_
  refine zs_iload_n (pc := 3) (k := 1) (i := 1) C (by decide +kernel) rfl rfl ?_
  refine zs_tryi (pc := 4) (As := [sI a1]) (st := [sI 0, sR 312]) C hT rfl (c_X11_shortest l g hl a1) ml_RL_108 rfl rfl rfl rfl (Nat.le_of_ble_eq_true rfl) ⟨Nat.le_of_ble_eq_true rfl, Nat.le_of_ble_eq_true rfl⟩ ⟨Nat.le_of_ble_eq_true rfl, Nat.le_of_ble_eq_true rfl⟩ (by decide +kernel) ⟨(Or.inr ⟨[], ⟨0, 9, 12, 13⟩, [], 1, rfl, (fun _ h => nomatch h), rfl, by decide, wf_779, fun _ => rfl, zs_hdl_n (k := 3) (i := 3) C (by decide +kernel) rfl (Nat.le_of_ble_eq_true rfl) (by decide +kernel) (by decide +kernel) (by decide +kernel) hr ⟨Nat.le_of_ble_eq_true rfl, Nat.le_of_ble_eq_true rfl⟩⟩), (Or.inl (fun _ => rfl)), (Or.inl (fun _ => rfl)), (Or.inl (fun _ => rfl))⟩ (fun x1 => ?_)
  refine zs_i2l (pc := 7) C (by decide +kernel) ?_
  refine zs_lastk (pc := 8) (o := 312) (n := 1) C (by decide) (fun _ _ _ => rfl) (by decide +kernel) rfl ?_
  refine zs_goto (pc := 9) (off := 6) (tgt := 15) C (by decide +kernel) (by decide) ?_
  refine zs_iconst (pc := 15) (n := 0) (x := 0) C (by decide +kernel) (by decide +kernel) ?_
  exact zs_retWi (pc := 16) C hr ⟨Nat.le_of_ble_eq_true rfl, Nat.le_of_ble_eq_true rfl⟩ (by decide +kernel)
set_option maxRecDepth 20000 in
theorem c_L_other (l : Launch) (g : GC) (hl : l.stackTraces = false) (a1 : Int) (a2 : Int) : ConX l g yL_other cL_other 5 (some .int) [(0, 10, 13, 18), (0, 10, 17, 34), (0, 10, 21, 13)] (rmd 11 5 30) [sR 0, sI a1, sI a2, sR 312] (fun mm => fL_other a1 a2 mm) := by
  refine zs_ofX (by decide +kernel) (Nat.le_of_ble_eq_true rfl) ?_
  intro p e s m args below meth c C hr hT
  replace C : Bd g RL cL_other 5 p s m args meth c := C
  unfold fL_other
  refine zs_aload_n (pc := 0) (k := 3) (i := 3) C (by decide +kernel) rfl rfl ?_
  refine zs_iconst (pc := 1) (n := 0) (x := 0) C (by decide +kernel) (by decide +kernel) ?_
  refine zs_aload_n (pc := 2) (k := 0) (i := 0) C (by decide +kernel) rfl rfl ?_
  refine zs_iload_n (pc := 3) (k := 1) (i := 1) C (by decide +kernel) rfl rfl ?_
  refine zs_iload_n (pc := 4) (k := 2) (i := 2) C (by decide +kernel) rfl rfl ?_
  refine zs_tryi (pc := 5) (As := [sI a1, sI a2]) (st := [sI 0, sR 312]) C hT rfl (c_X11_other l g hl a1 a2) ml_RL_111 rfl rfl rfl rfl (Nat.le_of_ble_eq_true rfl) ⟨Nat.le_of_ble_eq_true rfl, Nat.le_of_ble_eq_true rfl⟩ ⟨Nat.le_of_ble_eq_true rfl, Nat.le_of_ble_eq_true rfl⟩ (by decide +kernel) ⟨(Or.inr ⟨[⟨0, 10, 13, 18⟩, ⟨0, 10, 17, 34⟩], ⟨0, 10, 21, 13⟩, [], 3, rfl, (List.forall_mem_cons.mpr ⟨⟨by decide, "java/util/NoSuchElementException", wf_1109, by decide, by decide⟩, (List.forall_mem_cons.mpr ⟨⟨by decide, "java/lang/IllegalStateException", wf_1182, by decide, by decide⟩, (fun _ h => nomatch h)⟩)⟩), rfl, by decide, wf_779, fun _ => rfl, zs_hdl (i := 4) C (by decide +kernel) (Nat.le_of_ble_eq_true rfl) (by decide +kernel) (by decide +kernel) (by decide +kernel) hr ⟨Nat.le_of_ble_eq_true rfl, Nat.le_of_ble_eq_true rfl⟩⟩), (Or.inr ⟨[⟨0, 10, 13, 18⟩], ⟨0, 10, 17, 34⟩, [⟨0, 10, 21, 13⟩], 2, rfl, (List.forall_mem_cons.mpr ⟨⟨by decide, "java/util/NoSuchElementException", wf_1109, by decide, by decide⟩, (fun _ h => nomatch h)⟩), rfl, by decide, wf_1182, fun _ => rfl, zs_hdl (i := 4) C (by decide +kernel) (Nat.le_of_ble_eq_true rfl) (by decide +kernel) (by decide +kernel) (by decide +kernel) hr ⟨Nat.le_of_ble_eq_true rfl, Nat.le_of_ble_eq_true rfl⟩⟩), (Or.inr ⟨[], ⟨0, 10, 13, 18⟩, [⟨0, 10, 17, 34⟩, ⟨0, 10, 21, 13⟩], 1, rfl, (fun _ h => nomatch h), rfl, by decide, wf_1109, fun _ => rfl, zs_hdl (i := 4) C (by decide +kernel) (Nat.le_of_ble_eq_true rfl) (by decide +kernel) (by decide +kernel) (by decide +kernel) hr ⟨Nat.le_of_ble_eq_true rfl, Nat.le_of_ble_eq_true rfl⟩⟩), (Or.inl (fun _ => rfl))⟩ (fun x1 => ?_)
  refine zs_i2l (pc := 8) C (by decide +kernel) ?_
  refine zs_lastk (pc := 9) (o := 312) (n := 1) C (by decide) (fun _ _ _ => rfl) (by decide +kernel) rfl ?_
  refine zs_goto (pc := 10) (off := 15) (tgt := 25) C (by decide +kernel) (by decide) ?_
  refine zs_iconst (pc := 25) (n := 0) (x := 0) C (by decide +kernel) (by decide +kernel) ?_
  exact zs_retWi (pc := 26) C hr ⟨Nat.le_of_ble_eq_true rfl, Nat.le_of_ble_eq_true rfl⟩ (by decide +kernel)
set_option maxRecDepth 20000 in
theorem c_L_fits (l : Launch) (g : GC) (hl : l.stackTraces = false) (a1 : Int) (a2 : Int) : ConX l g yL_fits cL_fits 5 (some .int) [(0, 9, 12, 18), (0, 9, 16, 34), (0, 9, 20, 13)] (rmd 11 5 30) [sR 0, sI a1, sI a2, sR 312] (fun mm => fL_fits a1 a2 mm) := by
  refine zs_ofX (by decide +kernel) (Nat.le_of_ble_eq_true rfl) ?_
  intro p e s m args below meth c C hr hT
  replace C : Bd g RL cL_fits 5 p s m args meth c := C
  unfold fL_fits
  refine zs_aload_n (pc := 0) (k := 3) (i := 3) C (by decide +kernel) rfl rfl ?_
  refine zs_iconst (pc := 1) (n := 0) (x := 0) C (by decide +kernel) (by decide +kernel) ?_
  refine zs_aload_n (pc := 2) (k := 0) (i := 0) C (by decide +kernel) rfl rfl ?_
  refine zs_iload_n (pc := 3) (k := 1) (i := 1) C (by decide +kernel) rfl rfl ?_
  refine zs_iload_n (pc := 4) (k := 2) (i := 2) C (by decide +kernel) rfl rfl ?_
  refine zs_tryl (pc := 5) (As := [sI a1, sI a2]) (st := [sI 0, sR 312]) C hT (c_X11_fits l g hl a1 a2) ml_RL_114 rfl rfl rfl rfl (Nat.le_of_ble_eq_true rfl) ⟨Nat.le_of_ble_eq_true rfl, Nat.le_of_ble_eq_true rfl⟩ ⟨Nat.le_of_ble_eq_true rfl, Nat.le_of_ble_eq_true rfl⟩ (by decide +kernel) ⟨(Or.inr ⟨[⟨0, 9, 12, 18⟩, ⟨0, 9, 16, 34⟩], ⟨0, 9, 20, 13⟩, [], 3, rfl, (List.forall_mem_cons.mpr ⟨⟨by decide, "java/util/NoSuchElementException", wf_1109, by decide, by decide⟩, (List.forall_mem_cons.mpr ⟨⟨by decide, "java/lang/IllegalStateException", wf_1182, by decide, by decide⟩, (fun _ h => nomatch h)⟩)⟩), rfl, by decide, wf_779, fun _ => rfl, zs_hdl (i := 4) C (by decide +kernel) (Nat.le_of_ble_eq_true rfl) (by decide +kernel) (by decide +kernel) (by decide +kernel) hr ⟨Nat.le_of_ble_eq_true rfl, Nat.le_of_ble_eq_true rfl⟩⟩), (Or.inr ⟨[⟨0, 9, 12, 18⟩], ⟨0, 9, 16, 34⟩, [⟨0, 9, 20, 13⟩], 2, rfl, (List.forall_mem_cons.mpr ⟨⟨by decide, "java/util/NoSuchElementException", wf_1109, by decide, by decide⟩, (fun _ h => nomatch h)⟩), rfl, by decide, wf_1182, fun _ => rfl, zs_hdl (i := 4) C (by decide +kernel) (Nat.le_of_ble_eq_true rfl) (by decide +kernel) (by decide +kernel) (by decide +kernel) hr ⟨Nat.le_of_ble_eq_true rfl, Nat.le_of_ble_eq_true rfl⟩⟩), (Or.inr ⟨[], ⟨0, 9, 12, 18⟩, [⟨0, 9, 16, 34⟩, ⟨0, 9, 20, 13⟩], 1, rfl, (fun _ h => nomatch h), rfl, by decide, wf_1109, fun _ => rfl, zs_hdl (i := 4) C (by decide +kernel) (Nat.le_of_ble_eq_true rfl) (by decide +kernel) (by decide +kernel) (by decide +kernel) hr ⟨Nat.le_of_ble_eq_true rfl, Nat.le_of_ble_eq_true rfl⟩⟩), (Or.inl (fun _ => rfl))⟩ (fun x1 => ?_)
  refine zs_lastk (pc := 8) (o := 312) (n := 1) C (by decide) (fun _ _ _ => rfl) (by decide +kernel) rfl ?_
  refine zs_goto (pc := 9) (off := 15) (tgt := 24) C (by decide +kernel) (by decide) ?_
  refine zs_iconst (pc := 24) (n := 0) (x := 0) C (by decide +kernel) (by decide +kernel) ?_
  exact zs_retWi (pc := 25) C hr ⟨Nat.le_of_ble_eq_true rfl, Nat.le_of_ble_eq_true rfl⟩ (by decide +kernel)
set_option maxRecDepth 20000 in
theorem c_L_look (l : Launch) (g : GC) (hl : l.stackTraces = false) (a1 : Int) (a2 : Int) : ConX l g yL_look cL_look 5 (some .int) [(0, 10, 13, 18), (0, 10, 17, 34), (0, 10, 21, 13)] (rmd 11 5 30) [sR 0, sI a1, sI a2, sR 312] (fun mm => fL_look a1 a2 mm) := by
  refine zs_ofX (by decide +kernel) (Nat.le_of_ble_eq_true rfl) ?_
  intro p e s m args below meth c C hr hT
  replace C : Bd g RL cL_look 5 p s m args meth c := C
  unfold fL_look
  refine zs_aload_n (pc := 0) (k := 3) (i := 3) C (by decide +kernel) rfl rfl ?_
  refine zs_iconst (pc := 1) (n := 0) (x := 0) C (by decide +kernel) (by decide +kernel) ?_
  refine zs_aload_n (pc := 2) (k := 0) (i := 0) C (by decide +kernel) rfl rfl ?_
  refine zs_iload_n (pc := 3) (k := 1) (i := 1) C (by decide +kernel) rfl rfl ?_
  refine zs_iload_n (pc := 4) (k := 2) (i := 2) C (by decide +kernel) rfl rfl ?_
  refine zs_tryi (pc := 5) (As := [sI a1, sI a2]) (st := [sI 0, sR 312]) C hT rfl (c_X11_look l g hl a1 a2) ml_RL_118 rfl rfl rfl rfl (Nat.le_of_ble_eq_true rfl) ⟨Nat.le_of_ble_eq_true rfl, Nat.le_of_ble_eq_true rfl⟩ ⟨Nat.le_of_ble_eq_true rfl, Nat.le_of_ble_eq_true rfl⟩ (by decide +kernel) ⟨(Or.inr ⟨[⟨0, 10, 13, 18⟩, ⟨0, 10, 17, 34⟩], ⟨0, 10, 21, 13⟩, [], 3, rfl, (List.forall_mem_cons.mpr ⟨⟨by decide, "java/util/NoSuchElementException", wf_1109, by decide, by decide⟩, (List.forall_mem_cons.mpr ⟨⟨by decide, "java/lang/IllegalStateException", wf_1182, by decide, by decide⟩, (fun _ h => nomatch h)⟩)⟩), rfl, by decide, wf_779, fun _ => rfl, zs_hdl (i := 4) C (by decide +kernel) (Nat.le_of_ble_eq_true rfl) (by decide +kernel) (by decide +kernel) (by decide +kernel) hr ⟨Nat.le_of_ble_eq_true rfl, Nat.le_of_ble_eq_true rfl⟩⟩), (Or.inr ⟨[⟨0, 10, 13, 18⟩], ⟨0, 10, 17, 34⟩, [⟨0, 10, 21, 13⟩], 2, rfl, (List.forall_mem_cons.mpr ⟨⟨by decide, "java/util/NoSuchElementException", wf_1109, by decide, by decide⟩, (fun _ h => nomatch h)⟩), rfl, by decide, wf_1182, fun _ => rfl, zs_hdl (i := 4) C (by decide +kernel) (Nat.le_of_ble_eq_true rfl) (by decide +kernel) (by decide +kernel) (by decide +kernel) hr ⟨Nat.le_of_ble_eq_true rfl, Nat.le_of_ble_eq_true rfl⟩⟩), (Or.inr ⟨[], ⟨0, 10, 13, 18⟩, [⟨0, 10, 17, 34⟩, ⟨0, 10, 21, 13⟩], 1, rfl, (fun _ h => nomatch h), rfl, by decide, wf_1109, fun _ => rfl, zs_hdl (i := 4) C (by decide +kernel) (Nat.le_of_ble_eq_true rfl) (by decide +kernel) (by decide +kernel) (by decide +kernel) hr ⟨Nat.le_of_ble_eq_true rfl, Nat.le_of_ble_eq_true rfl⟩⟩), (Or.inl (fun _ => rfl))⟩ (fun x1 => ?_)
  refine zs_i2l (pc := 8) C (by decide +kernel) ?_
  refine zs_lastk (pc := 9) (o := 312) (n := 1) C (by decide) (fun _ _ _ => rfl) (by decide +kernel) rfl ?_
  refine zs_goto (pc := 10) (off := 15) (tgt := 25) C (by decide +kernel) (by decide) ?_
  refine zs_iconst (pc := 25) (n := 0) (x := 0) C (by decide +kernel) (by decide +kernel) ?_
  exact zs_retWi (pc := 26) C hr ⟨Nat.le_of_ble_eq_true rfl, Nat.le_of_ble_eq_true rfl⟩ (by decide +kernel)
set_option maxRecDepth 20000 in
theorem c_L_tray (l : Launch) (g : GC) (hl : l.stackTraces = false) (a1 : Int) (a2 : Int) (a3 : Int) : ConX l g yL_tray cL_tray 5 (some .int) [(0, 7, 10, 18), (0, 7, 14, 13)] (rmd 9 3 18) [sR 0, sI a1, sI a2, sI a3] (fun mm => fL_tray a1 a2 a3 mm) := by
  refine zs_ofX (by decide +kernel) (Nat.le_of_ble_eq_true rfl) ?_
  intro p e s m args below meth c C hr hT
  replace C : Bd g RL cL_tray 5 p s m args meth c := C
  unfold fL_tray
  refine zs_aload_n (pc := 0) (k := 0) (i := 0) C (by decide +kernel) rfl rfl ?_
  refine zs_iload_n (pc := 1) (k := 1) (i := 1) C (by decide +kernel) rfl rfl ?_
  refine zs_iload_n (pc := 2) (k := 2) (i := 2) C (by decide +kernel) rfl rfl ?_
  refine zs_iload_n (pc := 3) (k := 3) (i := 3) C (by decide +kernel) rfl rfl ?_
  refine zs_tryv (pc := 4) (As := [sI a1, sI a2, sI a3]) (st := []) C hT (c_X11_tray l g hl a1 a2 a3) ml_RL_121 rfl rfl rfl rfl (Nat.le_of_ble_eq_true rfl) ⟨Nat.le_of_ble_eq_true rfl, Nat.le_of_ble_eq_true rfl⟩ ⟨Nat.le_of_ble_eq_true rfl, Nat.le_of_ble_eq_true rfl⟩ (by decide +kernel) ⟨(Or.inr ⟨[⟨0, 7, 10, 18⟩], ⟨0, 7, 14, 13⟩, [], 2, rfl, (List.forall_mem_cons.mpr ⟨⟨by decide, "java/util/NoSuchElementException", wf_1109, by decide, by decide⟩, (fun _ h => nomatch h)⟩), rfl, by decide, wf_779, fun _ => rfl, zs_hdl (i := 4) C (by decide +kernel) (Nat.le_of_ble_eq_true rfl) (by decide +kernel) (by decide +kernel) (by decide +kernel) hr ⟨Nat.le_of_ble_eq_true rfl, Nat.le_of_ble_eq_true rfl⟩⟩), (Or.inl (fun _ => rfl)), (Or.inr ⟨[], ⟨0, 7, 10, 18⟩, [⟨0, 7, 14, 13⟩], 1, rfl, (fun _ h => nomatch h), rfl, by decide, wf_1109, fun _ => rfl, zs_hdl (i := 4) C (by decide +kernel) (Nat.le_of_ble_eq_true rfl) (by decide +kernel) (by decide +kernel) (by decide +kernel) hr ⟨Nat.le_of_ble_eq_true rfl, Nat.le_of_ble_eq_true rfl⟩⟩), (Or.inl (fun _ => rfl))⟩ (fun x1 => ?_)
  refine zs_goto (pc := 7) (off := 11) (tgt := 18) C (by decide +kernel) (by decide) ?_
  refine zs_iconst (pc := 18) (n := 0) (x := 0) C (by decide +kernel) (by decide +kernel) ?_
  exact zs_retWi (pc := 19) C hr ⟨Nat.le_of_ble_eq_true rfl, Nat.le_of_ble_eq_true rfl⟩ (by decide +kernel)
set_option maxRecDepth 20000 in
theorem c_L_write (l : Launch) (g : GC) (hl : l.stackTraces = false) (a1 : Int) (a2 : Int) (a3 : Int) : ConX l g yL_write cL_write 7 (some .int) [(0, 11, 14, 18), (0, 11, 18, 34), (0, 11, 22, 129)] (rmd 10 3 18) [sR 0, sI a1, sI a2, sL a3, sR 312] (fun mm => fL_write a1 a2 a3 mm) := by
  refine zs_ofX (by decide +kernel) (Nat.le_of_ble_eq_true rfl) ?_
  intro p e s m args below meth c C hr hT
  replace C : Bd g RL cL_write 7 p s m args meth c := C
  unfold fL_write
  refine zs_aload (pc := 0) (i := 5) C (by decide +kernel) rfl ?_
  refine zs_iconst (pc := 2) (n := 0) (x := 0) C (by decide +kernel) (by decide +kernel) ?_
  refine zs_aload_n (pc := 3) (k := 0) (i := 0) C (by decide +kernel) rfl rfl ?_
  refine zs_iload_n (pc := 4) (k := 1) (i := 1) C (by decide +kernel) rfl rfl ?_
  refine zs_iload_n (pc := 5) (k := 2) (i := 2) C (by decide +kernel) rfl rfl ?_
  refine zs_lload_n (pc := 6) (k := 3) (i := 3) C (by decide +kernel) rfl rfl ?_
  refine zs_tryl (pc := 7) (As := [sI a1, sI a2, sL a3]) (st := [sI 0, sR 312]) C hT (c_X11_write l g hl a1 a2 a3) ml_RL_125 rfl rfl rfl rfl (Nat.le_of_ble_eq_true rfl) ⟨Nat.le_of_ble_eq_true rfl, Nat.le_of_ble_eq_true rfl⟩ ⟨Nat.le_of_ble_eq_true rfl, Nat.le_of_ble_eq_true rfl⟩ (by decide +kernel) ⟨(Or.inl (fun _ => rfl)), (Or.inr ⟨[⟨0, 11, 14, 18⟩], ⟨0, 11, 18, 34⟩, [⟨0, 11, 22, 129⟩], 2, rfl, (List.forall_mem_cons.mpr ⟨⟨by decide, "java/util/NoSuchElementException", wf_1109, by decide, by decide⟩, (fun _ h => nomatch h)⟩), rfl, by decide, wf_1182, fun _ => rfl, zs_hdl (i := 6) C (by decide +kernel) (Nat.le_of_ble_eq_true rfl) (by decide +kernel) (by decide +kernel) (by decide +kernel) hr ⟨Nat.le_of_ble_eq_true rfl, Nat.le_of_ble_eq_true rfl⟩⟩), (Or.inr ⟨[], ⟨0, 11, 14, 18⟩, [⟨0, 11, 18, 34⟩, ⟨0, 11, 22, 129⟩], 1, rfl, (fun _ h => nomatch h), rfl, by decide, wf_1109, fun _ => rfl, zs_hdl (i := 6) C (by decide +kernel) (Nat.le_of_ble_eq_true rfl) (by decide +kernel) (by decide +kernel) (by decide +kernel) hr ⟨Nat.le_of_ble_eq_true rfl, Nat.le_of_ble_eq_true rfl⟩⟩), (Or.inr ⟨[⟨0, 11, 14, 18⟩, ⟨0, 11, 18, 34⟩], ⟨0, 11, 22, 129⟩, [], 3, rfl, (List.forall_mem_cons.mpr ⟨⟨by decide, "java/util/NoSuchElementException", wf_1109, by decide, by decide⟩, (List.forall_mem_cons.mpr ⟨⟨by decide, "java/lang/IllegalStateException", wf_1182, by decide, by decide⟩, (fun _ h => nomatch h)⟩)⟩), rfl, by decide, wf_1699, fun _ => rfl, zs_hdl (i := 6) C (by decide +kernel) (Nat.le_of_ble_eq_true rfl) (by decide +kernel) (by decide +kernel) (by decide +kernel) hr ⟨Nat.le_of_ble_eq_true rfl, Nat.le_of_ble_eq_true rfl⟩⟩)⟩ (fun x1 => ?_)
  refine zs_lastk (pc := 10) (o := 312) (n := 1) C (by decide) (fun _ _ _ => rfl) (by decide +kernel) rfl ?_
  refine zs_goto (pc := 11) (off := 15) (tgt := 26) C (by decide +kernel) (by decide) ?_
  refine zs_iconst (pc := 26) (n := 0) (x := 0) C (by decide +kernel) (by decide +kernel) ?_
  exact zs_retWi (pc := 27) C hr ⟨Nat.le_of_ble_eq_true rfl, Nat.le_of_ble_eq_true rfl⟩ (by decide +kernel)
set_option maxRecDepth 20000 in
theorem c_L_copy (l : Launch) (g : GC) (hl : l.stackTraces = false) (a1 : Int) (a2 : Int) (a3 : Int) (a4 : Int) : ConX l g yL_copy cL_copy 7 (some .int) [(0, 14, 17, 18), (0, 14, 21, 34)] (rmd 10 6 36) [sR 0, sI a1, sI a2, sI a3, sI a4, sR 312] (fun mm => fL_copy a1 a2 a3 a4 mm) := by
  refine zs_ofX (by decide +kernel) (Nat.le_of_ble_eq_true rfl) ?_
  intro p e s m args below meth c C hr hT
  replace C : Bd g RL cL_copy 7 p s m args meth c := C
  unfold fL_copy
  refine zs_aload (pc := 0) (i := 5) C (by decide +kernel) rfl ?_
  refine zs_iconst (pc := 2) (n := 0) (x := 0) C (by decide +kernel) (by decide +kernel) ?_
  refine zs_aload_n (pc := 3) (k := 0) (i := 0) C (by decide +kernel) rfl rfl ?_
  refine zs_iload_n (pc := 4) (k := 1) (i := 1) C (by decide +kernel) rfl rfl ?_
  refine zs_iload_n (pc := 5) (k := 2) (i := 2) C (by decide +kernel) rfl rfl ?_
  refine zs_iload_n (pc := 6) (k := 3) (i := 3) C (by decide +kernel) rfl rfl ?_
  refine zs_iload (pc := 7) (i := 4) C (by decide +kernel) rfl ?_
  refine zs_tryi (pc := 9) (As := [sI a1, sI a2, sI a3, sI a4]) (st := [sI 0, sR 312]) C hT rfl (c_X11_copy l g hl a1 a2 a3 a4) ml_RL_131 rfl rfl rfl rfl (Nat.le_of_ble_eq_true rfl) ⟨Nat.le_of_ble_eq_true rfl, Nat.le_of_ble_eq_true rfl⟩ ⟨Nat.le_of_ble_eq_true rfl, Nat.le_of_ble_eq_true rfl⟩ (by decide +kernel) ⟨(Or.inl (fun _ => rfl)), (Or.inr ⟨[⟨0, 14, 17, 18⟩], ⟨0, 14, 21, 34⟩, [], 2, rfl, (List.forall_mem_cons.mpr ⟨⟨by decide, "java/util/NoSuchElementException", wf_1109, by decide, by decide⟩, (fun _ h => nomatch h)⟩), rfl, by decide, wf_1182, fun _ => rfl, zs_hdl (i := 6) C (by decide +kernel) (Nat.le_of_ble_eq_true rfl) (by decide +kernel) (by decide +kernel) (by decide +kernel) hr ⟨Nat.le_of_ble_eq_true rfl, Nat.le_of_ble_eq_true rfl⟩⟩), (Or.inr ⟨[], ⟨0, 14, 17, 18⟩, [⟨0, 14, 21, 34⟩], 1, rfl, (fun _ h => nomatch h), rfl, by decide, wf_1109, fun _ => rfl, zs_hdl (i := 6) C (by decide +kernel) (Nat.le_of_ble_eq_true rfl) (by decide +kernel) (by decide +kernel) (by decide +kernel) hr ⟨Nat.le_of_ble_eq_true rfl, Nat.le_of_ble_eq_true rfl⟩⟩), (Or.inl (fun _ => rfl))⟩ (fun x1 => ?_)
  refine zs_i2l (pc := 12) C (by decide +kernel) ?_
  refine zs_lastk (pc := 13) (o := 312) (n := 1) C (by decide) (fun _ _ _ => rfl) (by decide +kernel) rfl ?_
  refine zs_goto (pc := 14) (off := 11) (tgt := 25) C (by decide +kernel) (by decide) ?_
  refine zs_iconst (pc := 25) (n := 0) (x := 0) C (by decide +kernel) (by decide +kernel) ?_
  exact zs_retWi (pc := 26) C hr ⟨Nat.le_of_ble_eq_true rfl, Nat.le_of_ble_eq_true rfl⟩ (by decide +kernel)
set_option maxRecDepth 20000 in
theorem c_L_image (l : Launch) (g : GC) (hl : l.stackTraces = false) (a1 : Int) : ConX l g yL_image cL_image 3 (some .int) [(0, 5, 8, 18)] (rmd 9 1 6) [sR 0, sI a1] (fun mm => fL_image a1 mm) := by
  refine zs_ofX (by decide +kernel) (Nat.le_of_ble_eq_true rfl) ?_
  intro p e s m args below meth c C hr hT
  replace C : Bd g RL cL_image 3 p s m args meth c := C
  unfold fL_image
  refine zs_aload_n (pc := 0) (k := 0) (i := 0) C (by decide +kernel) rfl rfl ?_
  refine zs_iload_n (pc := 1) (k := 1) (i := 1) C (by decide +kernel) rfl rfl ?_
  refine zs_tryv (pc := 2) (As := [sI a1]) (st := []) C hT (c_X11_image l g hl a1) ml_RL_134 rfl rfl rfl rfl (Nat.le_of_ble_eq_true rfl) ⟨Nat.le_of_ble_eq_true rfl, Nat.le_of_ble_eq_true rfl⟩ ⟨Nat.le_of_ble_eq_true rfl, Nat.le_of_ble_eq_true rfl⟩ (by decide +kernel) ⟨(Or.inl (fun _ => rfl)), (Or.inl (fun _ => rfl)), (Or.inr ⟨[], ⟨0, 5, 8, 18⟩, [], 1, rfl, (fun _ h => nomatch h), rfl, by decide, wf_1109, fun _ => rfl, zs_hdl_n (k := 2) (i := 2) C (by decide +kernel) rfl (Nat.le_of_ble_eq_true rfl) (by decide +kernel) (by decide +kernel) (by decide +kernel) hr ⟨Nat.le_of_ble_eq_true rfl, Nat.le_of_ble_eq_true rfl⟩⟩), (Or.inl (fun _ => rfl))⟩ (fun x1 => ?_)
  refine zs_goto (pc := 5) (off := 6) (tgt := 11) C (by decide +kernel) (by decide) ?_
  refine zs_iconst (pc := 11) (n := 0) (x := 0) C (by decide +kernel) (by decide +kernel) ?_
  exact zs_retWi (pc := 12) C hr ⟨Nat.le_of_ble_eq_true rfl, Nat.le_of_ble_eq_true rfl⟩ (by decide +kernel)
set_option maxRecDepth 20000 in
theorem c_L_restore (l : Launch) (g : GC) (hl : l.stackTraces = false) (a1 : Int) : ConX l g yL_restore cL_restore 3 (some .int) [(0, 5, 8, 18), (0, 5, 11, 34)] (rmd 9 2 12) [sR 0, sI a1] (fun mm => fL_restore a1 mm) := by
  refine zs_ofX (by decide +kernel) (Nat.le_of_ble_eq_true rfl) ?_
  intro p e s m args below meth c C hr hT
  replace C : Bd g RL cL_restore 3 p s m args meth c := C
  unfold fL_restore
  refine zs_aload_n (pc := 0) (k := 0) (i := 0) C (by decide +kernel) rfl rfl ?_
  refine zs_iload_n (pc := 1) (k := 1) (i := 1) C (by decide +kernel) rfl rfl ?_
  refine zs_tryv (pc := 2) (As := [sI a1]) (st := []) C hT (c_X11_restore l g hl a1) ml_RL_138 rfl rfl rfl rfl (Nat.le_of_ble_eq_true rfl) ⟨Nat.le_of_ble_eq_true rfl, Nat.le_of_ble_eq_true rfl⟩ ⟨Nat.le_of_ble_eq_true rfl, Nat.le_of_ble_eq_true rfl⟩ (by decide +kernel) ⟨(Or.inl (fun _ => rfl)), (Or.inr ⟨[⟨0, 5, 8, 18⟩], ⟨0, 5, 11, 34⟩, [], 2, rfl, (List.forall_mem_cons.mpr ⟨⟨by decide, "java/util/NoSuchElementException", wf_1109, by decide, by decide⟩, (fun _ h => nomatch h)⟩), rfl, by decide, wf_1182, fun _ => rfl, zs_hdl_n (k := 2) (i := 2) C (by decide +kernel) rfl (Nat.le_of_ble_eq_true rfl) (by decide +kernel) (by decide +kernel) (by decide +kernel) hr ⟨Nat.le_of_ble_eq_true rfl, Nat.le_of_ble_eq_true rfl⟩⟩), (Or.inr ⟨[], ⟨0, 5, 8, 18⟩, [⟨0, 5, 11, 34⟩], 1, rfl, (fun _ h => nomatch h), rfl, by decide, wf_1109, fun _ => rfl, zs_hdl_n (k := 2) (i := 2) C (by decide +kernel) rfl (Nat.le_of_ble_eq_true rfl) (by decide +kernel) (by decide +kernel) (by decide +kernel) hr ⟨Nat.le_of_ble_eq_true rfl, Nat.le_of_ble_eq_true rfl⟩⟩), (Or.inl (fun _ => rfl))⟩ (fun x1 => ?_)
  refine zs_goto (pc := 5) (off := 9) (tgt := 14) C (by decide +kernel) (by decide) ?_
  refine zs_iconst (pc := 14) (n := 0) (x := 0) C (by decide +kernel) (by decide +kernel) ?_
  exact zs_retWi (pc := 15) C hr ⟨Nat.le_of_ble_eq_true rfl, Nat.le_of_ble_eq_true rfl⟩ (by decide +kernel)

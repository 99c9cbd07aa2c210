set_option maxRecDepth 20000 in
theorem c_X3_places (l : Launch) (g : GC)  : ConR l g yX3_places cX3_places 1 (some .int) (rmd 1 0 0) [sR 20] (fun mm => fX3_places  mm) := by
  refine zs_ofR (by decide +kernel) (Nat.le_of_ble_eq_true rfl) ?_
  intro p e s m args below meth c C hr
  replace C : Bd g RX3 cX3_places 1 p s m args meth c := C
  unfold fX3_places
  refine zs_aload_n (pc := 0) (k := 0) (i := 0) C (by decide +kernel) rfl rfl ?_
  refine zs_getI (pc := 1) (i := 15) (ci := 3) (k := 1) C (by decide +kernel) fl_RX3_15 rfl rfl (fun x1 => ?_)
  refine zs_aload_n (pc := 4) (k := 0) (i := 0) C (by decide +kernel) rfl rfl ?_
  refine zs_getI (pc := 5) (i := 18) (ci := 3) (k := 2) C (by decide +kernel) fl_RX3_18 rfl rfl (fun x2 => ?_)
  refine zs_imul (pc := 8) C (by decide +kernel) ?_
  exact zs_retRi (pc := 9) C hr ⟨Nat.le_of_ble_eq_true rfl, Nat.le_of_ble_eq_true rfl⟩ (by decide +kernel)
set_option maxRecDepth 20000 in
theorem c_X3_beside (l : Launch) (g : GC) (a0 : Int) (a1 : Int) : ConR l g yX3_beside cX3_beside 4 (some .int) (rmd 2 0 0) [sR 20, sI a0, sI a1] (fun mm => fX3_beside a0 a1 mm) := by
  refine zs_ofR (by decide +kernel) (Nat.le_of_ble_eq_true rfl) ?_
  intro p e s m args below meth c C hr
  replace C : Bd g RX3 cX3_beside 4 p s m args meth c := C
  unfold fX3_beside
  refine zs_aload_n (pc := 0) (k := 0) (i := 0) C (by decide +kernel) rfl rfl ?_
  refine zs_getI (pc := 1) (i := 15) (ci := 3) (k := 1) C (by decide +kernel) fl_RX3_15 rfl rfl (fun x1 => ?_)
  refine zs_iconst (pc := 4) (n := 1) (x := 1) C (by decide +kernel) (by decide +kernel) ?_
  refine zs_icmp_ge (pc := 5) (off := 5) (tgt := 10) C (by decide +kernel) (by decide) ?_ ?_
  · refine zs_iload_n (pc := 10) (k := 1) (i := 1) C (by decide +kernel) rfl rfl ?_
    refine zs_aload_n (pc := 11) (k := 0) (i := 0) C (by decide +kernel) rfl rfl ?_
    refine zs_getI (pc := 12) (i := 15) (ci := 3) (k := 1) C (by decide +kernel) fl_RX3_15 rfl rfl (fun x2 => ?_)
    refine zs_chk (fun _ hy => ?_)
    refine zs_irem (pc := 15) C hy (by decide +kernel) ?_
    refine zs_let (fun x3 => ?_)
    refine zs_istore_n (pc := 16) (k := 3) (i := 3) (ls' := [(3, sI x3), (0, sR 20), (1, sI a0), (2, sI a1)]) C (by decide +kernel) rfl (Nat.le_of_ble_eq_true rfl) rfl ?_
    refine zs_iload_n (pc := 17) (k := 2) (i := 2) C (by decide +kernel) rfl rfl ?_
    refine zs_ite (fun hc0 => ?_) (fun hc0 => ?_)
    · refine zs_tswI (pc := 18) (dflt := 109) (lo := 0) (hi := 4) (offs := #[34, 36, 55, 73, 97]) (len := 34) (i := 0) (off := 34) (tgt := 52) C (by decide +kernel) hc0 (by decide) rfl (by decide) ?_
      refine zs_iload_n (pc := 52) (k := 1) (i := 1) C (by decide +kernel) rfl rfl ?_
      exact zs_retRi (pc := 53) C hr ⟨Nat.le_of_ble_eq_true rfl, Nat.le_of_ble_eq_true rfl⟩ (by decide +kernel)
    · refine zs_ite (fun hc1 => ?_) (fun hc1 => ?_)
      · refine zs_tswI (pc := 18) (dflt := 109) (lo := 0) (hi := 4) (offs := #[34, 36, 55, 73, 97]) (len := 34) (i := 1) (off := 36) (tgt := 54) C (by decide +kernel) hc1 (by decide) rfl (by decide) ?_
        refine zs_iload_n (pc := 54) (k := 1) (i := 1) C (by decide +kernel) rfl rfl ?_
        refine zs_aload_n (pc := 55) (k := 0) (i := 0) C (by decide +kernel) rfl rfl ?_
        refine zs_getI (pc := 56) (i := 15) (ci := 3) (k := 1) C (by decide +kernel) fl_RX3_15 rfl rfl (fun x4 => ?_)
        refine zs_jn (pJ := 72) (kJ := 0) (sJ := 0) (fun t5 => []) (fun t5 => [sI t5]) (fun t5 => ?_) (fun J6 hJ6 => ?_)
        · exact zs_retRi (pc := 72) C hr ⟨Nat.le_of_ble_eq_true rfl, Nat.le_of_ble_eq_true rfl⟩ (by decide +kernel)
        · refine zs_icmp_lt (pc := 59) (off := 12) (tgt := 71) C (by decide +kernel) (by decide) ?_ ?_
          · refine zs_iconst (pc := 71) (n := (-1)) (x := (-1)) C (by decide +kernel) (by decide +kernel) ?_
            exact zs_goj (hJ6 (-1)) trivial
          · refine zs_iload_n (pc := 62) (k := 1) (i := 1) C (by decide +kernel) rfl rfl ?_
            refine zs_aload_n (pc := 63) (k := 0) (i := 0) C (by decide +kernel) rfl rfl ?_
            refine zs_getI (pc := 64) (i := 15) (ci := 3) (k := 1) C (by decide +kernel) fl_RX3_15 rfl rfl (fun x7 => ?_)
            refine zs_isub (pc := 67) C (by decide +kernel) ?_
            refine zs_goto (pc := 68) (off := 4) (tgt := 72) C (by decide +kernel) (by decide) ?_
            exact zs_goj (hJ6 (w32 (a0 - x7))) trivial
      · refine zs_ite (fun hc2 => ?_) (fun hc2 => ?_)
        · refine zs_tswI (pc := 18) (dflt := 109) (lo := 0) (hi := 4) (offs := #[34, 36, 55, 73, 97]) (len := 34) (i := 2) (off := 55) (tgt := 73) C (by decide +kernel) hc2 (by decide) rfl (by decide) ?_
          refine zs_iload_n (pc := 73) (k := 3) (i := 3) C (by decide +kernel) rfl rfl ?_
          refine zs_aload_n (pc := 74) (k := 0) (i := 0) C (by decide +kernel) rfl rfl ?_
          refine zs_getI (pc := 75) (i := 15) (ci := 3) (k := 1) C (by decide +kernel) fl_RX3_15 rfl rfl (fun x8 => ?_)
          refine zs_iconst (pc := 78) (n := 1) (x := 1) C (by decide +kernel) (by decide +kernel) ?_
          refine zs_isub (pc := 79) C (by decide +kernel) ?_
          refine zs_jn (pJ := 90) (kJ := 0) (sJ := 0) (fun t9 => []) (fun t9 => [sI t9]) (fun t9 => ?_) (fun J10 hJ10 => ?_)
          · exact zs_retRi (pc := 90) C hr ⟨Nat.le_of_ble_eq_true rfl, Nat.le_of_ble_eq_true rfl⟩ (by decide +kernel)
          · refine zs_icmp_ge (pc := 80) (off := 9) (tgt := 89) C (by decide +kernel) (by decide) ?_ ?_
            · refine zs_iconst (pc := 89) (n := (-1)) (x := (-1)) C (by decide +kernel) (by decide +kernel) ?_
              exact zs_goj (hJ10 (-1)) trivial
            · refine zs_iload_n (pc := 83) (k := 1) (i := 1) C (by decide +kernel) rfl rfl ?_
              refine zs_iconst (pc := 84) (n := 1) (x := 1) C (by decide +kernel) (by decide +kernel) ?_
              refine zs_iadd (pc := 85) C (by decide +kernel) ?_
              refine zs_goto (pc := 86) (off := 4) (tgt := 90) C (by decide +kernel) (by decide) ?_
              exact zs_goj (hJ10 (w32 (a0 + 1))) trivial
        · refine zs_ite (fun hc3 => ?_) (fun hc3 => ?_)
          · refine zs_tswI (pc := 18) (dflt := 109) (lo := 0) (hi := 4) (offs := #[34, 36, 55, 73, 97]) (len := 34) (i := 3) (off := 73) (tgt := 91) C (by decide +kernel) hc3 (by decide) rfl (by decide) ?_
            refine zs_iload_n (pc := 91) (k := 1) (i := 1) C (by decide +kernel) rfl rfl ?_
            refine zs_aload_n (pc := 92) (k := 0) (i := 0) C (by decide +kernel) rfl rfl ?_
            refine zs_getI (pc := 93) (i := 15) (ci := 3) (k := 1) C (by decide +kernel) fl_RX3_15 rfl rfl (fun x11 => ?_)
            refine zs_iadd (pc := 96) C (by decide +kernel) ?_
            refine zs_aload_n (pc := 97) (k := 0) (i := 0) C (by decide +kernel) rfl rfl ?_
            refine zs_cvRi (pc := 98) (As := []) (st := [sI (w32 (a0 + x11))]) C (Or.inl rfl) (c_X3_places l g ) ml_RX3_60 rfl rfl rfl rfl (Nat.le_of_ble_eq_true rfl) ⟨Nat.le_of_ble_eq_true rfl, Nat.le_of_ble_eq_true rfl⟩ ⟨Nat.le_of_ble_eq_true rfl, Nat.le_of_ble_eq_true rfl⟩ (by decide +kernel) (fun x12 => ?_)
            refine zs_jn (pJ := 114) (kJ := 0) (sJ := 0) (fun t13 => []) (fun t13 => [sI t13]) (fun t13 => ?_) (fun J14 hJ14 => ?_)
            · exact zs_retRi (pc := 114) C hr ⟨Nat.le_of_ble_eq_true rfl, Nat.le_of_ble_eq_true rfl⟩ (by decide +kernel)
            · refine zs_icmp_ge (pc := 101) (off := 12) (tgt := 113) C (by decide +kernel) (by decide) ?_ ?_
              · refine zs_iconst (pc := 113) (n := (-1)) (x := (-1)) C (by decide +kernel) (by decide +kernel) ?_
                exact zs_goj (hJ14 (-1)) trivial
              · refine zs_iload_n (pc := 104) (k := 1) (i := 1) C (by decide +kernel) rfl rfl ?_
                refine zs_aload_n (pc := 105) (k := 0) (i := 0) C (by decide +kernel) rfl rfl ?_
                refine zs_getI (pc := 106) (i := 15) (ci := 3) (k := 1) C (by decide +kernel) fl_RX3_15 rfl rfl (fun x15 => ?_)
                refine zs_iadd (pc := 109) C (by decide +kernel) ?_
                refine zs_goto (pc := 110) (off := 4) (tgt := 114) C (by decide +kernel) (by decide) ?_
                exact zs_goj (hJ14 (w32 (a0 + x15))) trivial
          · refine zs_ite (fun hc4 => ?_) (fun hc4 => ?_)
            · refine zs_tswI (pc := 18) (dflt := 109) (lo := 0) (hi := 4) (offs := #[34, 36, 55, 73, 97]) (len := 34) (i := 4) (off := 97) (tgt := 115) C (by decide +kernel) hc4 (by decide) rfl (by decide) ?_
              refine zs_iload_n (pc := 115) (k := 3) (i := 3) C (by decide +kernel) rfl rfl ?_
              refine zs_jn (pJ := 126) (kJ := 0) (sJ := 0) (fun t16 => []) (fun t16 => [sI t16]) (fun t16 => ?_) (fun J17 hJ17 => ?_)
              · exact zs_retRi (pc := 126) C hr ⟨Nat.le_of_ble_eq_true rfl, Nat.le_of_ble_eq_true rfl⟩ (by decide +kernel)
              · refine zs_if_le (pc := 116) (off := 9) (tgt := 125) C (by decide +kernel) (by decide) ?_ ?_
                · refine zs_iconst (pc := 125) (n := (-1)) (x := (-1)) C (by decide +kernel) (by decide +kernel) ?_
                  exact zs_goj (hJ17 (-1)) trivial
                · refine zs_iload_n (pc := 119) (k := 1) (i := 1) C (by decide +kernel) rfl rfl ?_
                  refine zs_iconst (pc := 120) (n := 1) (x := 1) C (by decide +kernel) (by decide +kernel) ?_
                  refine zs_isub (pc := 121) C (by decide +kernel) ?_
                  refine zs_goto (pc := 122) (off := 4) (tgt := 126) C (by decide +kernel) (by decide) ?_
                  exact zs_goj (hJ17 (w32 (a0 - 1))) trivial
            · refine zs_tswD (pc := 18) (dflt := 109) (lo := 0) (hi := 4) (offs := #[34, 36, 55, 73, 97]) (len := 34) (tgt := 127) C (by decide +kernel) (by omega) (by decide) ?_
              refine zs_iconst (pc := 127) (n := (-1)) (x := (-1)) C (by decide +kernel) (by decide +kernel) ?_
              exact zs_retRi (pc := 128) C hr ⟨Nat.le_of_ble_eq_true rfl, Nat.le_of_ble_eq_true rfl⟩ (by decide +kernel)
  · refine zs_iconst (pc := 8) (n := (-1)) (x := (-1)) C (by decide +kernel) (by decide +kernel) ?_
    exact zs_retRi (pc := 9) C hr ⟨Nat.le_of_ble_eq_true rfl, Nat.le_of_ble_eq_true rfl⟩ (by decide +kernel)
set_option maxRecDepth 20000 in
theorem c_X5_rainIn (l : Launch) (g : GC) (a0 : Int) : ConR l g yX5_rainIn cX5_rainIn 2 (some .int) (rmd 1 0 0) [sR 27, sI a0] (fun mm => fX5_rainIn a0 mm) := by
  refine zs_ofR (by decide +kernel) (Nat.le_of_ble_eq_true rfl) ?_
  intro p e s m args below meth c C hr
  replace C : Bd g RX5 cX5_rainIn 2 p s m args meth c := C
  unfold fX5_rainIn
  refine zs_iload_n (pc := 0) (k := 1) (i := 1) C (by decide +kernel) rfl rfl ?_
  refine zs_aload_n (pc := 1) (k := 0) (i := 0) C (by decide +kernel) rfl rfl ?_
  refine zs_getI (pc := 2) (i := 18) (ci := 5) (k := 2) C (by decide +kernel) fl_RX5_18 rfl rfl (fun x1 => ?_)
  refine zs_jn (pJ := 16) (kJ := 0) (sJ := 0) (fun t2 => []) (fun t2 => [sI t2]) (fun t2 => ?_) (fun J3 hJ3 => ?_)
  · exact zs_retRi (pc := 16) C hr ⟨Nat.le_of_ble_eq_true rfl, Nat.le_of_ble_eq_true rfl⟩ (by decide +kernel)
  · refine zs_icmp_ge (pc := 5) (off := 10) (tgt := 15) C (by decide +kernel) (by decide) ?_ ?_
    · refine zs_iconst (pc := 15) (n := 0) (x := 0) C (by decide +kernel) (by decide +kernel) ?_
      exact zs_goj (hJ3 0) trivial
    · refine zs_aload_n (pc := 8) (k := 0) (i := 0) C (by decide +kernel) rfl rfl ?_
      refine zs_getI (pc := 9) (i := 15) (ci := 5) (k := 1) C (by decide +kernel) fl_RX5_15 rfl rfl (fun x4 => ?_)
      refine zs_goto (pc := 12) (off := 4) (tgt := 16) C (by decide +kernel) (by decide) ?_
      exact zs_goj (hJ3 x4) trivial
set_option maxRecDepth 20000 in
theorem c_X4_worth (l : Launch) (g : GC) (o : Nat) (h0 : layL[o]? = some (.inl 4)) : ConW l g yX4_worth cX4_worth 13 (some .long) (rmd 1 0 0) [sR o, sR 36, sR 37] (fun mm => fX4_worth o mm) := by
  refine zs_ofW (by decide +kernel) (Nat.le_of_ble_eq_true rfl) ?_
  intro p e s m args below meth c C hr
  replace C : Bd g RX4 cX4_worth 13 p s m args meth c := C
  unfold fX4_worth
  refine zs_iconst (pc := 0) (n := (-1)) (x := (-1)) C (by decide +kernel) (by decide +kernel) ?_
  refine zs_istore_n (pc := 1) (k := 3) (i := 3) (ls' := [(3, sI ((-1))), (0, sR o), (1, sR 36), (2, sR 37)]) C (by decide +kernel) rfl (Nat.le_of_ble_eq_true rfl) rfl ?_
  refine zs_iconst (pc := 2) (n := 0) (x := 0) C (by decide +kernel) (by decide +kernel) ?_
  refine zs_istore (pc := 3) (i := 4) (ls' := [(4, sI 0), (3, sI ((-1))), (0, sR o), (1, sR 36), (2, sR 37)]) C (by decide +kernel) (Nat.le_of_ble_eq_true rfl) rfl ?_
  refine zs_sub (ls' := [(0, sR o), (1, sR 36), (2, sR 37), (3, sI ((-1))), (4, sI 0)]) ⟨rfl, rfl, rfl, rfl, rfl, trivial⟩ ?_
  refine zs_lp (pc := 5) (fun (t1 : Int × Int) => [(0, sR o), (1, sR 36), (2, sR 37), (3, sI t1.1), (4, sI t1.2)]) (fun _ => []) (fun K2 hK2 t1 => ?_) BIG ((-1), 0)
  refine zs_iload (pc := 5) (i := 4) C (by decide +kernel) rfl ?_
  refine zs_aload_n (pc := 7) (k := 0) (i := 0) C (by decide +kernel) rfl rfl ?_
  refine zs_getI (pc := 8) (i := 15) (ci := 4) (k := 1) C (by decide +kernel) fl_RX4_15 h0 rfl (fun x3 => ?_)
  refine zs_icmp_ge (pc := 11) (off := 347) (tgt := 358) C (by decide +kernel) (by decide) ?_ ?_
  · refine zs_iload_n (pc := 358) (k := 3) (i := 3) C (by decide +kernel) rfl rfl ?_
    refine zs_jn (pJ := 369) (kJ := 0) (sJ := 0) (fun t4 => []) (fun t4 => [sL t4]) (fun t4 => ?_) (fun J5 hJ5 => ?_)
    · exact zs_retWl (pc := 369) C hr ⟨Nat.le_of_ble_eq_true rfl, Nat.le_of_ble_eq_true rfl⟩ (by decide +kernel)
    · refine zs_if_ge (pc := 359) (off := 7) (tgt := 366) C (by decide +kernel) (by decide) ?_ ?_
      · refine zs_aload_n (pc := 366) (k := 2) (i := 2) C (by decide +kernel) rfl rfl ?_
        refine zs_iconst (pc := 367) (n := 0) (x := 0) C (by decide +kernel) (by decide +kernel) ?_
        refine zs_laldk (pc := 368) (o := 37) (n := 64) C (by decide) (by decide +kernel) rfl (fun x6 => ?_)
        exact zs_goj (hJ5 x6) trivial
      · refine zs_lconst (pc := 362) (n := 0) (x := 0) C (by decide +kernel) (by decide +kernel) ?_
        refine zs_goto (pc := 363) (off := 6) (tgt := 369) C (by decide +kernel) (by decide) ?_
        exact zs_goj (hJ5 0) trivial
  · refine zs_aload_n (pc := 14) (k := 0) (i := 0) C (by decide +kernel) rfl rfl ?_
    refine zs_getR (o' := (o + 1)) (pc := 15) (i := 9) (ci := 4) (k := 0) C (by decide +kernel) fl_RX4_9 h0 rfl rfl ?_
    refine zs_iload (pc := 18) (i := 4) C (by decide +kernel) rfl ?_
    refine zs_iald (pc := 20) (o := (o + 1)) (n := 900) C (by decide +kernel) (ly_o_4_1 h0) (fun hinx7 x7 => ?_)
    refine zs_istore (pc := 21) (i := 5) (ls' := [(5, sI x7), (0, sR o), (1, sR 36), (2, sR 37), (3, sI t1.1), (4, sI t1.2)]) C (by decide +kernel) (Nat.le_of_ble_eq_true rfl) rfl ?_
    refine zs_iload (pc := 23) (i := 5) C (by decide +kernel) rfl ?_
    refine zs_sipush (pc := 25) (n := 128) (x := 128) C (by decide +kernel) (by decide +kernel) ?_
    refine zs_jn (pJ := 352) (kJ := 0) (sJ := 0) (fun t8 => [(0, sR o), (1, sR 36), (2, sR 37), (3, sI t8), (4, sI t1.2)]) (fun t8 => []) (fun t8 => ?_) (fun J9 hJ9 => ?_)
    · refine zs_iinc (pc := 352) (i := 4) (n := 1) (y := w32 (t1.2 + 1)) (ls' := [(4, sI (w32 (t1.2 + 1))), (0, sR o), (1, sR 36), (2, sR 37), (3, sI t8)]) C (by decide +kernel) rfl rfl (Nat.le_of_ble_eq_true rfl) rfl ?_
      refine zs_goto (pc := 355) (off := (-350)) (tgt := 5) C (by decide +kernel) (by decide) ?_
      exact zs_goj (hK2 (t8, w32 (t1.2 + 1))) ⟨rfl, rfl, rfl, rfl, rfl, trivial⟩
    · refine zs_jn (pJ := 47) (kJ := 0) (sJ := 0) (fun t10 => [(0, sR o), (1, sR 36), (2, sR 37), (3, sI t1.1), (4, sI t1.2), (5, sI x7)]) (fun t10 => []) (fun t10 => ?_) (fun J11 hJ11 => ?_)
      · refine zs_iload_n (pc := 47) (k := 3) (i := 3) C (by decide +kernel) rfl rfl ?_
        refine zs_bipush (pc := 48) (n := 63) (x := 63) C (by decide +kernel) (by decide +kernel) ?_
        refine zs_icmp_lt (pc := 50) (off := 5) (tgt := 55) C (by decide +kernel) (by decide) ?_ ?_
        · refine zs_iinc (pc := 55) (i := 3) (n := 1) (y := w32 (t1.1 + 1)) (ls' := [(3, sI (w32 (t1.1 + 1))), (0, sR o), (1, sR 36), (2, sR 37), (4, sI t1.2), (5, sI x7)]) C (by decide +kernel) rfl rfl (Nat.le_of_ble_eq_true rfl) rfl ?_
          refine zs_aload_n (pc := 58) (k := 2) (i := 2) C (by decide +kernel) rfl rfl ?_
          refine zs_iload_n (pc := 59) (k := 3) (i := 3) C (by decide +kernel) rfl rfl ?_
          refine zs_iload (pc := 60) (i := 5) C (by decide +kernel) rfl ?_
          refine zs_sipush (pc := 62) (n := 1000) (x := 1000) C (by decide +kernel) (by decide +kernel) ?_
          refine zs_jn (pJ := 87) (kJ := 0) (sJ := 0) (fun t12 => [(0, sR o), (1, sR 36), (2, sR 37), (3, sI (w32 (t1.1 + 1))), (4, sI t1.2)]) (fun t12 => [sL t12, sI (w32 (t1.1 + 1)), sR 37]) (fun t12 => ?_) (fun J13 hJ13 => ?_)
          · refine zs_last (pc := 87) (o := 37) (n := 64) C (fun _ _ _ => rfl) (by decide +kernel) rfl ?_
            refine zs_goto (pc := 88) (off := 264) (tgt := 352) C (by decide +kernel) (by decide) ?_
            exact zs_goj (hJ9 (w32 (t1.1 + 1))) ⟨rfl, rfl, rfl, rfl, rfl, trivial⟩
          · refine zs_icmp_lt (pc := 65) (off := 13) (tgt := 78) C (by decide +kernel) (by decide) ?_ ?_
            · refine zs_aload_n (pc := 78) (k := 1) (i := 1) C (by decide +kernel) rfl rfl ?_
              refine zs_iload (pc := 79) (i := 5) C (by decide +kernel) rfl ?_
              refine zs_sipush (pc := 81) (n := 128) (x := 128) C (by decide +kernel) (by decide +kernel) ?_
              refine zs_isub (pc := 84) C (by decide +kernel) ?_
              refine zs_iald (pc := 85) (o := 36) (n := 8) C (by decide +kernel) rfl (fun hinx14 x14 => ?_)
              refine zs_i2l (pc := 86) C (by decide +kernel) ?_
              exact zs_goj (hJ13 x14) ⟨rfl, rfl, rfl, rfl, rfl, trivial⟩
            · refine zs_iload (pc := 68) (i := 5) C (by decide +kernel) rfl ?_
              refine zs_sipush (pc := 70) (n := 1000) (x := 1000) C (by decide +kernel) (by decide +kernel) ?_
              refine zs_isub (pc := 73) C (by decide +kernel) ?_
              refine zs_i2l (pc := 74) C (by decide +kernel) ?_
              refine zs_goto (pc := 75) (off := 12) (tgt := 87) C (by decide +kernel) (by decide) ?_
              exact zs_goj (hJ13 (w32 (x7 - 1000))) ⟨rfl, rfl, rfl, rfl, rfl, trivial⟩
        · refine zs_lconst (pc := 53) (n := 0) (x := 0) C (by decide +kernel) (by decide +kernel) ?_
          exact zs_retWl (pc := 54) C hr ⟨Nat.le_of_ble_eq_true rfl, Nat.le_of_ble_eq_true rfl⟩ (by decide +kernel)
      · refine zs_jn (pJ := 39) (kJ := 0) (sJ := 0) (fun t15 => [(0, sR o), (1, sR 36), (2, sR 37), (3, sI t1.1), (4, sI t1.2), (5, sI x7)]) (fun t15 => []) (fun t15 => ?_) (fun J16 hJ16 => ?_)
        · refine zs_iload (pc := 39) (i := 5) C (by decide +kernel) rfl ?_
          refine zs_sipush (pc := 41) (n := 1000) (x := 1000) C (by decide +kernel) (by decide +kernel) ?_
          refine zs_icmp_lt (pc := 44) (off := 47) (tgt := 91) C (by decide +kernel) (by decide) ?_ ?_
          · refine zs_iload (pc := 91) (i := 5) C (by decide +kernel) rfl ?_
            refine zs_sipush (pc := 93) (n := 145) (x := 145) C (by decide +kernel) (by decide +kernel) ?_
            refine zs_jn (pJ := 106) (kJ := 0) (sJ := 0) (fun t17 => [(0, sR o), (1, sR 36), (2, sR 37), (3, sI t1.1), (4, sI t1.2), (5, sI x7)]) (fun t17 => [sI t17]) (fun t17 => ?_) (fun J18 hJ18 => ?_)
            · refine zs_istore (pc := 106) (i := 6) (ls' := [(6, sI t17), (0, sR o), (1, sR 36), (2, sR 37), (3, sI t1.1), (4, sI t1.2), (5, sI x7)]) C (by decide +kernel) (Nat.le_of_ble_eq_true rfl) rfl ?_
              refine zs_iload (pc := 108) (i := 6) C (by decide +kernel) rfl ?_
              refine zs_if_ge (pc := 110) (off := 5) (tgt := 115) C (by decide +kernel) (by decide) ?_ ?_
              · refine zs_aload_n (pc := 115) (k := 2) (i := 2) C (by decide +kernel) rfl rfl ?_
                refine zs_iload (pc := 116) (i := 6) C (by decide +kernel) rfl ?_
                refine zs_lald (pc := 118) (o := 37) (n := 64) C (by decide +kernel) rfl (fun hinx19 x19 => ?_)
                refine zs_lstore (pc := 119) (i := 7) (ls' := [(7, sL x19), (6, sI t17), (0, sR o), (1, sR 36), (2, sR 37), (3, sI t1.1), (4, sI t1.2), (5, sI x7)]) C (by decide +kernel) (Nat.le_of_ble_eq_true rfl) rfl ?_
                refine zs_aload_n (pc := 121) (k := 2) (i := 2) C (by decide +kernel) rfl rfl ?_
                refine zs_iload_n (pc := 122) (k := 3) (i := 3) C (by decide +kernel) rfl rfl ?_
                refine zs_lald (pc := 123) (o := 37) (n := 64) C (by decide +kernel) rfl (fun hinx20 x20 => ?_)
                refine zs_lstore (pc := 124) (i := 9) (ls' := [(9, sL x20), (7, sL x19), (6, sI t17), (0, sR o), (1, sR 36), (2, sR 37), (3, sI t1.1), (4, sI t1.2), (5, sI x7)]) C (by decide +kernel) (Nat.le_of_ble_eq_true rfl) rfl ?_
                refine zs_iload (pc := 126) (i := 5) C (by decide +kernel) rfl ?_
                refine zs_jn (pJ := 314) (kJ := 0) (sJ := 0) (fun t21 => [(0, sR o), (1, sR 36), (2, sR 37), (4, sI t1.2), (6, sI t17), (11, sL t21)]) (fun t21 => []) (fun t21 => ?_) (fun J22 hJ22 => ?_)
                · refine zs_iload (pc := 314) (i := 6) C (by decide +kernel) rfl ?_
                  refine zs_istore_n (pc := 316) (k := 3) (i := 3) (ls' := [(3, sI t17), (0, sR o), (1, sR 36), (2, sR 37), (4, sI t1.2), (6, sI t17), (11, sL t21)]) C (by decide +kernel) rfl (Nat.le_of_ble_eq_true rfl) rfl ?_
                  refine zs_aload_n (pc := 317) (k := 2) (i := 2) C (by decide +kernel) rfl rfl ?_
                  refine zs_iload_n (pc := 318) (k := 3) (i := 3) C (by decide +kernel) rfl rfl ?_
                  refine zs_lload (pc := 319) (i := 11) C (by decide +kernel) rfl ?_
                  refine zs_ldc2 (pc := 321) (i := 46) (v := 1000000) (x := 1000000) C (by decide +kernel) wf_683 (by decide +kernel) ?_
                  refine zs_jn (pJ := 351) (kJ := 0) (sJ := 0) (fun t23 => [(0, sR o), (1, sR 36), (2, sR 37), (3, sI t17), (4, sI t1.2)]) (fun t23 => [sL t23, sI t17, sR 37]) (fun t23 => ?_) (fun J24 hJ24 => ?_)
                  · refine zs_last (pc := 351) (o := 37) (n := 64) C (fun _ _ _ => rfl) (by decide +kernel) rfl ?_
                    exact zs_goj (hJ9 t17) ⟨rfl, rfl, rfl, rfl, rfl, trivial⟩
                  · refine zs_lcmp_le (pc := 324) (off := 9) (tgt := 334) C (by decide +kernel) (by decide +kernel) (by decide) ?_ ?_
                    · refine zs_lload (pc := 334) (i := 11) C (by decide +kernel) rfl ?_
                      refine zs_ldc2 (pc := 336) (i := 48) (v := (-1000000)) (x := (-1000000)) C (by decide +kernel) wf_684 (by decide +kernel) ?_
                      refine zs_lcmp_ge (pc := 339) (off := 9) (tgt := 349) C (by decide +kernel) (by decide +kernel) (by decide) ?_ ?_
                      · refine zs_lload (pc := 349) (i := 11) C (by decide +kernel) rfl ?_
                        exact zs_goj (hJ24 t21) ⟨rfl, rfl, rfl, rfl, rfl, trivial⟩
                      · refine zs_ldc2 (pc := 343) (i := 48) (v := (-1000000)) (x := (-1000000)) C (by decide +kernel) wf_684 (by decide +kernel) ?_
                        refine zs_goto (pc := 346) (off := 5) (tgt := 351) C (by decide +kernel) (by decide) ?_
                        exact zs_goj (hJ24 (-1000000)) ⟨rfl, rfl, rfl, rfl, rfl, trivial⟩
                    · refine zs_ldc2 (pc := 328) (i := 46) (v := 1000000) (x := 1000000) C (by decide +kernel) wf_683 (by decide +kernel) ?_
                      refine zs_goto (pc := 331) (off := 20) (tgt := 351) C (by decide +kernel) (by decide) ?_
                      exact zs_goj (hJ24 1000000) ⟨rfl, rfl, rfl, rfl, rfl, trivial⟩
                · refine zs_ite (fun hc0 => ?_) (fun hc0 => ?_)
                  · refine zs_lsw (pc := 128) (dflt := 179) (ps := #[(43, 159), (45, 169), (60, 123), (61, 105), (62, 141), (140, 85), (144, 95), (145, 76)]) (len := 76) (off := 159) (tgt := 287) C (by decide +kernel) (by decide +kernel) (by rw [hc0]; rfl) (by decide) ?_
                    refine zs_lload (pc := 287) (i := 7) C (by decide +kernel) rfl ?_
                    refine zs_lload (pc := 289) (i := 9) C (by decide +kernel) rfl ?_
                    refine zs_ladd (pc := 291) C (by decide +kernel) ?_
                    refine zs_letL (fun x25 => ?_)
                    refine zs_lstore (pc := 292) (i := 11) (ls' := [(11, sL x25), (9, sL x20), (7, sL x19), (6, sI t17), (0, sR o), (1, sR 36), (2, sR 37), (3, sI t1.1), (4, sI t1.2), (5, sI x7)]) C (by decide +kernel) (Nat.le_of_ble_eq_true rfl) rfl ?_
                    refine zs_goto (pc := 294) (off := 20) (tgt := 314) C (by decide +kernel) (by decide) ?_
                    exact zs_goj (hJ22 x25) ⟨rfl, rfl, rfl, rfl, rfl, rfl, trivial⟩
                  · refine zs_ite (fun hc1 => ?_) (fun hc1 => ?_)
                    · refine zs_lsw (pc := 128) (dflt := 179) (ps := #[(43, 159), (45, 169), (60, 123), (61, 105), (62, 141), (140, 85), (144, 95), (145, 76)]) (len := 76) (off := 169) (tgt := 297) C (by decide +kernel) (by decide +kernel) (by rw [hc1]; rfl) (by decide) ?_
                      refine zs_lload (pc := 297) (i := 7) C (by decide +kernel) rfl ?_
                      refine zs_lload (pc := 299) (i := 9) C (by decide +kernel) rfl ?_
                      refine zs_lsub (pc := 301) C (by decide +kernel) ?_
                      refine zs_letL (fun x26 => ?_)
                      refine zs_lstore (pc := 302) (i := 11) (ls' := [(11, sL x26), (9, sL x20), (7, sL x19), (6, sI t17), (0, sR o), (1, sR 36), (2, sR 37), (3, sI t1.1), (4, sI t1.2), (5, sI x7)]) C (by decide +kernel) (Nat.le_of_ble_eq_true rfl) rfl ?_
                      refine zs_goto (pc := 304) (off := 10) (tgt := 314) C (by decide +kernel) (by decide) ?_
                      exact zs_goj (hJ22 x26) ⟨rfl, rfl, rfl, rfl, rfl, rfl, trivial⟩
                    · refine zs_ite (fun hc2 => ?_) (fun hc2 => ?_)
                      · refine zs_lsw (pc := 128) (dflt := 179) (ps := #[(43, 159), (45, 169), (60, 123), (61, 105), (62, 141), (140, 85), (144, 95), (145, 76)]) (len := 76) (off := 123) (tgt := 251) C (by decide +kernel) (by decide +kernel) (by rw [hc2]; rfl) (by decide) ?_
                        refine zs_lload (pc := 251) (i := 7) C (by decide +kernel) rfl ?_
                        refine zs_lload (pc := 253) (i := 9) C (by decide +kernel) rfl ?_
                        refine zs_jn (pJ := 264) (kJ := 0) (sJ := 0) (fun t27 => [(0, sR o), (1, sR 36), (2, sR 37), (4, sI t1.2), (6, sI t17)]) (fun t27 => [sL t27]) (fun t27 => ?_) (fun J28 hJ28 => ?_)
                        · refine zs_lstore (pc := 264) (i := 11) (ls' := [(11, sL t27), (0, sR o), (1, sR 36), (2, sR 37), (4, sI t1.2), (6, sI t17)]) C (by decide +kernel) (Nat.le_of_ble_eq_true rfl) rfl ?_
                          refine zs_goto (pc := 266) (off := 48) (tgt := 314) C (by decide +kernel) (by decide) ?_
                          exact zs_goj (hJ22 t27) ⟨rfl, rfl, rfl, rfl, rfl, rfl, trivial⟩
                        · refine zs_lcmp_ge (pc := 255) (off := 7) (tgt := 263) C (by decide +kernel) (by decide +kernel) (by decide) ?_ ?_
                          · refine zs_lconst (pc := 263) (n := 0) (x := 0) C (by decide +kernel) (by decide +kernel) ?_
                            exact zs_goj (hJ28 0) ⟨rfl, rfl, rfl, rfl, rfl, trivial⟩
                          · refine zs_lconst (pc := 259) (n := 1) (x := 1) C (by decide +kernel) (by decide +kernel) ?_
                            refine zs_goto (pc := 260) (off := 4) (tgt := 264) C (by decide +kernel) (by decide) ?_
                            exact zs_goj (hJ28 1) ⟨rfl, rfl, rfl, rfl, rfl, trivial⟩
                      · refine zs_ite (fun hc3 => ?_) (fun hc3 => ?_)
                        · refine zs_lsw (pc := 128) (dflt := 179) (ps := #[(43, 159), (45, 169), (60, 123), (61, 105), (62, 141), (140, 85), (144, 95), (145, 76)]) (len := 76) (off := 105) (tgt := 233) C (by decide +kernel) (by decide +kernel) (by rw [hc3]; rfl) (by decide) ?_
                          refine zs_lload (pc := 233) (i := 7) C (by decide +kernel) rfl ?_
                          refine zs_lload (pc := 235) (i := 9) C (by decide +kernel) rfl ?_
                          refine zs_jn (pJ := 246) (kJ := 0) (sJ := 0) (fun t29 => [(0, sR o), (1, sR 36), (2, sR 37), (4, sI t1.2), (6, sI t17)]) (fun t29 => [sL t29]) (fun t29 => ?_) (fun J30 hJ30 => ?_)
                          · refine zs_lstore (pc := 246) (i := 11) (ls' := [(11, sL t29), (0, sR o), (1, sR 36), (2, sR 37), (4, sI t1.2), (6, sI t17)]) C (by decide +kernel) (Nat.le_of_ble_eq_true rfl) rfl ?_
                            refine zs_goto (pc := 248) (off := 66) (tgt := 314) C (by decide +kernel) (by decide) ?_
                            exact zs_goj (hJ22 t29) ⟨rfl, rfl, rfl, rfl, rfl, rfl, trivial⟩
                          · refine zs_lcmp_ne (pc := 237) (off := 7) (tgt := 245) C (by decide +kernel) (by decide +kernel) (by decide) ?_ ?_
                            · refine zs_lconst (pc := 245) (n := 0) (x := 0) C (by decide +kernel) (by decide +kernel) ?_
                              exact zs_goj (hJ30 0) ⟨rfl, rfl, rfl, rfl, rfl, trivial⟩
                            · refine zs_lconst (pc := 241) (n := 1) (x := 1) C (by decide +kernel) (by decide +kernel) ?_
                              refine zs_goto (pc := 242) (off := 4) (tgt := 246) C (by decide +kernel) (by decide) ?_
                              exact zs_goj (hJ30 1) ⟨rfl, rfl, rfl, rfl, rfl, trivial⟩
                        · refine zs_ite (fun hc4 => ?_) (fun hc4 => ?_)
                          · refine zs_lsw (pc := 128) (dflt := 179) (ps := #[(43, 159), (45, 169), (60, 123), (61, 105), (62, 141), (140, 85), (144, 95), (145, 76)]) (len := 76) (off := 141) (tgt := 269) C (by decide +kernel) (by decide +kernel) (by rw [hc4]; rfl) (by decide) ?_
                            refine zs_lload (pc := 269) (i := 7) C (by decide +kernel) rfl ?_
                            refine zs_lload (pc := 271) (i := 9) C (by decide +kernel) rfl ?_
                            refine zs_jn (pJ := 282) (kJ := 0) (sJ := 0) (fun t31 => [(0, sR o), (1, sR 36), (2, sR 37), (4, sI t1.2), (6, sI t17)]) (fun t31 => [sL t31]) (fun t31 => ?_) (fun J32 hJ32 => ?_)
                            · refine zs_lstore (pc := 282) (i := 11) (ls' := [(11, sL t31), (0, sR o), (1, sR 36), (2, sR 37), (4, sI t1.2), (6, sI t17)]) C (by decide +kernel) (Nat.le_of_ble_eq_true rfl) rfl ?_
                              refine zs_goto (pc := 284) (off := 30) (tgt := 314) C (by decide +kernel) (by decide) ?_
                              exact zs_goj (hJ22 t31) ⟨rfl, rfl, rfl, rfl, rfl, rfl, trivial⟩
                            · refine zs_lcmp_le (pc := 273) (off := 7) (tgt := 281) C (by decide +kernel) (by decide +kernel) (by decide) ?_ ?_
                              · refine zs_lconst (pc := 281) (n := 0) (x := 0) C (by decide +kernel) (by decide +kernel) ?_
                                exact zs_goj (hJ32 0) ⟨rfl, rfl, rfl, rfl, rfl, trivial⟩
                              · refine zs_lconst (pc := 277) (n := 1) (x := 1) C (by decide +kernel) (by decide +kernel) ?_
                                refine zs_goto (pc := 278) (off := 4) (tgt := 282) C (by decide +kernel) (by decide) ?_
                                exact zs_goj (hJ32 1) ⟨rfl, rfl, rfl, rfl, rfl, trivial⟩
                          · refine zs_ite (fun hc5 => ?_) (fun hc5 => ?_)
                            · refine zs_lsw (pc := 128) (dflt := 179) (ps := #[(43, 159), (45, 169), (60, 123), (61, 105), (62, 141), (140, 85), (144, 95), (145, 76)]) (len := 76) (off := 85) (tgt := 213) C (by decide +kernel) (by decide +kernel) (by rw [hc5]; rfl) (by decide) ?_
                              refine zs_lload (pc := 213) (i := 7) C (by decide +kernel) rfl ?_
                              refine zs_lload (pc := 215) (i := 9) C (by decide +kernel) rfl ?_
                              refine zs_land (pc := 217) C (by decide +kernel) ?_
                              refine zs_letL (fun x33 => ?_)
                              refine zs_lstore (pc := 218) (i := 11) (ls' := [(11, sL x33), (9, sL x20), (7, sL x19), (6, sI t17), (0, sR o), (1, sR 36), (2, sR 37), (3, sI t1.1), (4, sI t1.2), (5, sI x7)]) C (by decide +kernel) (Nat.le_of_ble_eq_true rfl) rfl ?_
                              refine zs_goto (pc := 220) (off := 94) (tgt := 314) C (by decide +kernel) (by decide) ?_
                              exact zs_goj (hJ22 x33) ⟨rfl, rfl, rfl, rfl, rfl, rfl, trivial⟩
                            · refine zs_ite (fun hc6 => ?_) (fun hc6 => ?_)
                              · refine zs_lsw (pc := 128) (dflt := 179) (ps := #[(43, 159), (45, 169), (60, 123), (61, 105), (62, 141), (140, 85), (144, 95), (145, 76)]) (len := 76) (off := 95) (tgt := 223) C (by decide +kernel) (by decide +kernel) (by rw [hc6]; rfl) (by decide) ?_
                                refine zs_lload (pc := 223) (i := 7) C (by decide +kernel) rfl ?_
                                refine zs_lload (pc := 225) (i := 9) C (by decide +kernel) rfl ?_
                                refine zs_lor (pc := 227) C (by decide +kernel) ?_
                                refine zs_letL (fun x34 => ?_)
                                refine zs_lstore (pc := 228) (i := 11) (ls' := [(11, sL x34), (9, sL x20), (7, sL x19), (6, sI t17), (0, sR o), (1, sR 36), (2, sR 37), (3, sI t1.1), (4, sI t1.2), (5, sI x7)]) C (by decide +kernel) (Nat.le_of_ble_eq_true rfl) rfl ?_
                                refine zs_goto (pc := 230) (off := 84) (tgt := 314) C (by decide +kernel) (by decide) ?_
                                exact zs_goj (hJ22 x34) ⟨rfl, rfl, rfl, rfl, rfl, rfl, trivial⟩
                              · refine zs_ite (fun hc7 => ?_) (fun hc7 => ?_)
                                · refine zs_lsw (pc := 128) (dflt := 179) (ps := #[(43, 159), (45, 169), (60, 123), (61, 105), (62, 141), (140, 85), (144, 95), (145, 76)]) (len := 76) (off := 76) (tgt := 204) C (by decide +kernel) (by decide +kernel) (by rw [hc7]; rfl) (by decide) ?_
                                  refine zs_lconst (pc := 204) (n := 1) (x := 1) C (by decide +kernel) (by decide +kernel) ?_
                                  refine zs_lload (pc := 205) (i := 7) C (by decide +kernel) rfl ?_
                                  refine zs_lsub (pc := 207) C (by decide +kernel) ?_
                                  refine zs_letL (fun x35 => ?_)
                                  refine zs_lstore (pc := 208) (i := 11) (ls' := [(11, sL x35), (9, sL x20), (7, sL x19), (6, sI t17), (0, sR o), (1, sR 36), (2, sR 37), (3, sI t1.1), (4, sI t1.2), (5, sI x7)]) C (by decide +kernel) (Nat.le_of_ble_eq_true rfl) rfl ?_
                                  refine zs_goto (pc := 210) (off := 104) (tgt := 314) C (by decide +kernel) (by decide) ?_
                                  exact zs_goj (hJ22 x35) ⟨rfl, rfl, rfl, rfl, rfl, rfl, trivial⟩
                                · refine zs_lsw (pc := 128) (dflt := 179) (ps := #[(43, 159), (45, 169), (60, 123), (61, 105), (62, 141), (140, 85), (144, 95), (145, 76)]) (len := 76) (off := 179) (tgt := 307) C (by decide +kernel) (by decide +kernel) (by simp [Op.lookupswitch.offset, hc0, Ne.symm hc0, hc1, Ne.symm hc1, hc2, Ne.symm hc2, hc3, Ne.symm hc3, hc4, Ne.symm hc4, hc5, Ne.symm hc5, hc6, Ne.symm hc6, hc7, Ne.symm hc7]) (by decide) ?_
                                  refine zs_lload (pc := 307) (i := 7) C (by decide +kernel) rfl ?_
                                  refine zs_lload (pc := 309) (i := 9) C (by decide +kernel) rfl ?_
                                  refine zs_lmul (pc := 311) C (by decide +kernel) ?_
                                  refine zs_letL (fun x36 => ?_)
                                  refine zs_lstore (pc := 312) (i := 11) (ls' := [(11, sL x36), (9, sL x20), (7, sL x19), (6, sI t17), (0, sR o), (1, sR 36), (2, sR 37), (3, sI t1.1), (4, sI t1.2), (5, sI x7)]) C (by decide +kernel) (Nat.le_of_ble_eq_true rfl) rfl ?_
                                  exact zs_goj (hJ22 x36) ⟨rfl, rfl, rfl, rfl, rfl, rfl, trivial⟩
              · refine zs_lconst (pc := 113) (n := 0) (x := 0) C (by decide +kernel) (by decide +kernel) ?_
                exact zs_retWl (pc := 114) C hr ⟨Nat.le_of_ble_eq_true rfl, Nat.le_of_ble_eq_true rfl⟩ (by decide +kernel)
            · refine zs_icmp_ne (pc := 96) (off := 7) (tgt := 103) C (by decide +kernel) (by decide) ?_ ?_
              · refine zs_iload_n (pc := 103) (k := 3) (i := 3) C (by decide +kernel) rfl rfl ?_
                refine zs_iconst (pc := 104) (n := 1) (x := 1) C (by decide +kernel) (by decide +kernel) ?_
                refine zs_isub (pc := 105) C (by decide +kernel) ?_
                exact zs_goj (hJ18 (w32 (t1.1 - 1))) ⟨rfl, rfl, rfl, rfl, rfl, rfl, trivial⟩
              · refine zs_iload_n (pc := 99) (k := 3) (i := 3) C (by decide +kernel) rfl rfl ?_
                refine zs_goto (pc := 100) (off := 6) (tgt := 106) C (by decide +kernel) (by decide) ?_
                exact zs_goj (hJ18 t1.1) ⟨rfl, rfl, rfl, rfl, rfl, rfl, trivial⟩
          · exact zs_goj (hJ11 ()) ⟨rfl, rfl, rfl, rfl, rfl, rfl, trivial⟩
        · refine zs_icmp_lt (pc := 28) (off := 11) (tgt := 39) C (by decide +kernel) (by decide) ?_ ?_
          · exact zs_goj (hJ16 ()) ⟨rfl, rfl, rfl, rfl, rfl, rfl, trivial⟩
          · refine zs_iload (pc := 31) (i := 5) C (by decide +kernel) rfl ?_
            refine zs_sipush (pc := 33) (n := 135) (x := 135) C (by decide +kernel) (by decide +kernel) ?_
            refine zs_icmp_le (pc := 36) (off := 11) (tgt := 47) C (by decide +kernel) (by decide) ?_ ?_
            · exact zs_goj (hJ11 ()) ⟨rfl, rfl, rfl, rfl, rfl, rfl, trivial⟩
            · exact zs_goj (hJ16 ()) ⟨rfl, rfl, rfl, rfl, rfl, rfl, trivial⟩
set_option maxRecDepth 20000 in
theorem c_X3_apart (l : Launch) (g : GC) (a0 : Int) (a1 : Int) : ConR l g yX3_apart cX3_apart 5 (some .int) (rmd 1 0 0) [sR 20, sI a0, sI a1] (fun mm => fX3_apart a0 a1 mm) := by
  refine zs_ofR (by decide +kernel) (Nat.le_of_ble_eq_true rfl) ?_
  intro p e s m args below meth c C hr
  replace C : Bd g RX3 cX3_apart 5 p s m args meth c := C
  unfold fX3_apart
  refine zs_aload_n (pc := 0) (k := 0) (i := 0) C (by decide +kernel) rfl rfl ?_
  refine zs_getI (pc := 1) (i := 15) (ci := 3) (k := 1) C (by decide +kernel) fl_RX3_15 rfl rfl (fun x1 => ?_)
  refine zs_iconst (pc := 4) (n := 1) (x := 1) C (by decide +kernel) (by decide +kernel) ?_
  refine zs_icmp_ge (pc := 5) (off := 5) (tgt := 10) C (by decide +kernel) (by decide) ?_ ?_
  · refine zs_iload_n (pc := 10) (k := 1) (i := 1) C (by decide +kernel) rfl rfl ?_
    refine zs_aload_n (pc := 11) (k := 0) (i := 0) C (by decide +kernel) rfl rfl ?_
    refine zs_getI (pc := 12) (i := 15) (ci := 3) (k := 1) C (by decide +kernel) fl_RX3_15 rfl rfl (fun x2 => ?_)
    refine zs_chk (fun _ hy => ?_)
    refine zs_irem (pc := 15) C hy (by decide +kernel) ?_
    refine zs_iload_n (pc := 16) (k := 2) (i := 2) C (by decide +kernel) rfl rfl ?_
    refine zs_aload_n (pc := 17) (k := 0) (i := 0) C (by decide +kernel) rfl rfl ?_
    refine zs_getI (pc := 18) (i := 15) (ci := 3) (k := 1) C (by decide +kernel) fl_RX3_15 rfl rfl (fun x3 => ?_)
    refine zs_chk (fun _ hy => ?_)
    refine zs_irem (pc := 21) C hy (by decide +kernel) ?_
    refine zs_isub (pc := 22) C (by decide +kernel) ?_
    refine zs_let (fun x4 => ?_)
    refine zs_istore_n (pc := 23) (k := 3) (i := 3) (ls' := [(3, sI x4), (0, sR 20), (1, sI a0), (2, sI a1)]) C (by decide +kernel) rfl (Nat.le_of_ble_eq_true rfl) rfl ?_
    refine zs_iload_n (pc := 24) (k := 1) (i := 1) C (by decide +kernel) rfl rfl ?_
    refine zs_aload_n (pc := 25) (k := 0) (i := 0) C (by decide +kernel) rfl rfl ?_
    refine zs_getI (pc := 26) (i := 15) (ci := 3) (k := 1) C (by decide +kernel) fl_RX3_15 rfl rfl (fun x5 => ?_)
    refine zs_chk (fun _ hy => ?_)
    refine zs_idiv (pc := 29) C hy (by decide +kernel) ?_
    refine zs_iload_n (pc := 30) (k := 2) (i := 2) C (by decide +kernel) rfl rfl ?_
    refine zs_aload_n (pc := 31) (k := 0) (i := 0) C (by decide +kernel) rfl rfl ?_
    refine zs_getI (pc := 32) (i := 15) (ci := 3) (k := 1) C (by decide +kernel) fl_RX3_15 rfl rfl (fun x6 => ?_)
    refine zs_chk (fun _ hy => ?_)
    refine zs_idiv (pc := 35) C hy (by decide +kernel) ?_
    refine zs_isub (pc := 36) C (by decide +kernel) ?_
    refine zs_let (fun x7 => ?_)
    refine zs_istore (pc := 37) (i := 4) (ls' := [(4, sI x7), (3, sI x4), (0, sR 20), (1, sI a0), (2, sI a1)]) C (by decide +kernel) (Nat.le_of_ble_eq_true rfl) rfl ?_
    refine zs_iload_n (pc := 39) (k := 3) (i := 3) C (by decide +kernel) rfl rfl ?_
    refine zs_jn (pJ := 49) (kJ := 0) (sJ := 0) (fun t8 => [(4, sI x7)]) (fun t8 => [sI t8]) (fun t8 => ?_) (fun J9 hJ9 => ?_)
    · refine zs_iload (pc := 49) (i := 4) C (by decide +kernel) rfl ?_
      refine zs_jn (pJ := 62) (kJ := 0) (sJ := 0) (fun t10 => []) (fun t10 => [sI t10, sI t8]) (fun t10 => ?_) (fun J11 hJ11 => ?_)
      · refine zs_iadd (pc := 62) C (by decide +kernel) ?_
        exact zs_retRi (pc := 63) C hr ⟨Nat.le_of_ble_eq_true rfl, Nat.le_of_ble_eq_true rfl⟩ (by decide +kernel)
      · refine zs_if_ge (pc := 51) (off := 9) (tgt := 60) C (by decide +kernel) (by decide) ?_ ?_
        · refine zs_iload (pc := 60) (i := 4) C (by decide +kernel) rfl ?_
          exact zs_goj (hJ11 x7) trivial
        · refine zs_iload (pc := 54) (i := 4) C (by decide +kernel) rfl ?_
          refine zs_ineg (pc := 56) C (by decide +kernel) ?_
          refine zs_goto (pc := 57) (off := 5) (tgt := 62) C (by decide +kernel) (by decide) ?_
          exact zs_goj (hJ11 (w32 (-x7))) trivial
    · refine zs_if_ge (pc := 40) (off := 8) (tgt := 48) C (by decide +kernel) (by decide) ?_ ?_
      · refine zs_iload_n (pc := 48) (k := 3) (i := 3) C (by decide +kernel) rfl rfl ?_
        exact zs_goj (hJ9 x4) ⟨rfl, trivial⟩
      · refine zs_iload_n (pc := 43) (k := 3) (i := 3) C (by decide +kernel) rfl rfl ?_
        refine zs_ineg (pc := 44) C (by decide +kernel) ?_
        refine zs_goto (pc := 45) (off := 4) (tgt := 49) C (by decide +kernel) (by decide) ?_
        exact zs_goj (hJ9 (w32 (-x4))) ⟨rfl, trivial⟩
  · refine zs_iconst (pc := 8) (n := 0) (x := 0) C (by decide +kernel) (by decide +kernel) ?_
    exact zs_retRi (pc := 9) C hr ⟨Nat.le_of_ble_eq_true rfl, Nat.le_of_ble_eq_true rfl⟩ (by decide +kernel)
set_option maxRecDepth 20000 in
theorem c_X10_lengthOf (l : Launch) (g : GC) (a0 : Int) (a1 : Int) (a2 : Int) : ConW l g yX10_lengthOf cX10_lengthOf 6 (some .int) (rmd 2 0 0) [sR 19, sI a0, sI a1, sI a2] (fun mm => fX10_lengthOf a0 a1 a2 mm) := by
  refine zs_ofW (by decide +kernel) (Nat.le_of_ble_eq_true rfl) ?_
  intro p e s m args below meth c C hr
  replace C : Bd g RX10 cX10_lengthOf 6 p s m args meth c := C
  unfold fX10_lengthOf
  refine zs_aload_n (pc := 0) (k := 0) (i := 0) C (by decide +kernel) rfl rfl ?_
  refine zs_getR (o' := 20) (pc := 1) (i := 12) (ci := 10) (k := 0) C (by decide +kernel) fl_RX10_12 rfl rfl rfl ?_
  refine zs_getR (o' := 23) (pc := 4) (i := 84) (ci := 3) (k := 8) C (by decide +kernel) fl_RX10_84 rfl rfl rfl ?_
  refine zs_getI (pc := 7) (i := 88) (ci := 4) (k := 4) C (by decide +kernel) fl_RX10_88 rfl rfl (fun x1 => ?_)
  refine zs_if_ne (pc := 10) (off := 19) (tgt := 29) C (by decide +kernel) (by decide) ?_ ?_
  · refine zs_aload_n (pc := 29) (k := 0) (i := 0) C (by decide +kernel) rfl rfl ?_
    refine zs_getR (o' := 36) (pc := 30) (i := 42) (ci := 10) (k := 7) C (by decide +kernel) fl_RX10_42 rfl rfl rfl ?_
    refine zs_iconst (pc := 33) (n := 0) (x := 0) C (by decide +kernel) (by decide +kernel) ?_
    refine zs_iload_n (pc := 34) (k := 2) (i := 2) C (by decide +kernel) rfl rfl ?_
    refine zs_iastk (pc := 35) (o := 36) (n := 8) C (by decide) (fun _ _ _ => rfl) (by decide +kernel) rfl ?_
    refine zs_aload_n (pc := 36) (k := 0) (i := 0) C (by decide +kernel) rfl rfl ?_
    refine zs_getR (o' := 36) (pc := 37) (i := 42) (ci := 10) (k := 7) C (by decide +kernel) fl_RX10_42 rfl rfl rfl ?_
    refine zs_iconst (pc := 40) (n := 1) (x := 1) C (by decide +kernel) (by decide +kernel) ?_
    refine zs_aload_n (pc := 41) (k := 0) (i := 0) C (by decide +kernel) rfl rfl ?_
    refine zs_getR (o' := 27) (pc := 42) (i := 21) (ci := 10) (k := 1) C (by decide +kernel) fl_RX10_21 rfl rfl rfl ?_
    refine zs_getR (o' := 30) (pc := 45) (i := 92) (ci := 5) (k := 6) C (by decide +kernel) fl_RX10_92 rfl rfl rfl ?_
    refine zs_iload_n (pc := 48) (k := 1) (i := 1) C (by decide +kernel) rfl rfl ?_
    refine zs_iald (pc := 49) (o := 30) (n := 4) C (by decide +kernel) rfl (fun hinx2 x2 => ?_)
    refine zs_iastk (pc := 50) (o := 36) (n := 8) C (by decide) (fun _ _ _ => rfl) (by decide +kernel) rfl ?_
    refine zs_aload_n (pc := 51) (k := 0) (i := 0) C (by decide +kernel) rfl rfl ?_
    refine zs_getR (o' := 36) (pc := 52) (i := 42) (ci := 10) (k := 7) C (by decide +kernel) fl_RX10_42 rfl rfl rfl ?_
    refine zs_iconst (pc := 55) (n := 2) (x := 2) C (by decide +kernel) (by decide +kernel) ?_
    refine zs_aload_n (pc := 56) (k := 0) (i := 0) C (by decide +kernel) rfl rfl ?_
    refine zs_getR (o' := 27) (pc := 57) (i := 21) (ci := 10) (k := 1) C (by decide +kernel) fl_RX10_21 rfl rfl rfl ?_
    refine zs_iload_n (pc := 60) (k := 3) (i := 3) C (by decide +kernel) rfl rfl ?_
    refine zs_cvRi (pc := 61) (As := [sI a2]) (st := [sI 2, sR 36]) C (Or.inl rfl) (c_X5_rainIn l g a2) ml_RX10_100 rfl rfl rfl rfl (Nat.le_of_ble_eq_true rfl) ⟨Nat.le_of_ble_eq_true rfl, Nat.le_of_ble_eq_true rfl⟩ ⟨Nat.le_of_ble_eq_true rfl, Nat.le_of_ble_eq_true rfl⟩ (by decide +kernel) (fun x3 => ?_)
    refine zs_iastk (pc := 64) (o := 36) (n := 8) C (by decide) (fun _ _ _ => rfl) (by decide +kernel) rfl ?_
    refine zs_aload_n (pc := 65) (k := 0) (i := 0) C (by decide +kernel) rfl rfl ?_
    refine zs_getR (o' := 36) (pc := 66) (i := 42) (ci := 10) (k := 7) C (by decide +kernel) fl_RX10_42 rfl rfl rfl ?_
    refine zs_iconst (pc := 69) (n := 3) (x := 3) C (by decide +kernel) (by decide +kernel) ?_
    refine zs_iload_n (pc := 70) (k := 3) (i := 3) C (by decide +kernel) rfl rfl ?_
    refine zs_bipush (pc := 71) (n := 24) (x := 24) C (by decide +kernel) (by decide +kernel) ?_
    refine zs_irem (pc := 73) C (by decide +kernel) (by decide +kernel) ?_
    refine zs_iastk (pc := 74) (o := 36) (n := 8) C (by decide) (fun _ _ _ => rfl) (by decide +kernel) rfl ?_
    refine zs_aload_n (pc := 75) (k := 0) (i := 0) C (by decide +kernel) rfl rfl ?_
    refine zs_getR (o' := 36) (pc := 76) (i := 42) (ci := 10) (k := 7) C (by decide +kernel) fl_RX10_42 rfl rfl rfl ?_
    refine zs_iconst (pc := 79) (n := 4) (x := 4) C (by decide +kernel) (by decide +kernel) ?_
    refine zs_iload_n (pc := 80) (k := 1) (i := 1) C (by decide +kernel) rfl rfl ?_
    refine zs_iastk (pc := 81) (o := 36) (n := 8) C (by decide) (fun _ _ _ => rfl) (by decide +kernel) rfl ?_
    refine zs_aload_n (pc := 82) (k := 0) (i := 0) C (by decide +kernel) rfl rfl ?_
    refine zs_getR (o' := 20) (pc := 83) (i := 12) (ci := 10) (k := 0) C (by decide +kernel) fl_RX10_12 rfl rfl rfl ?_
    refine zs_getR (o' := 23) (pc := 86) (i := 84) (ci := 3) (k := 8) C (by decide +kernel) fl_RX10_84 rfl rfl rfl ?_
    refine zs_aload_n (pc := 89) (k := 0) (i := 0) C (by decide +kernel) rfl rfl ?_
    refine zs_getR (o' := 36) (pc := 90) (i := 42) (ci := 10) (k := 7) C (by decide +kernel) fl_RX10_42 rfl rfl rfl ?_
    refine zs_aload_n (pc := 93) (k := 0) (i := 0) C (by decide +kernel) rfl rfl ?_
    refine zs_getR (o' := 37) (pc := 94) (i := 48) (ci := 10) (k := 8) C (by decide +kernel) fl_RX10_48 rfl rfl rfl ?_
    refine zs_cvWl (pc := 97) (As := [sR 36, sR 37]) (st := []) C (fun _ _ _ => rfl) (c_X4_worth l g 23 rfl) ml_RX10_104 rfl rfl rfl rfl (Nat.le_of_ble_eq_true rfl) ⟨Nat.le_of_ble_eq_true rfl, Nat.le_of_ble_eq_true rfl⟩ ⟨Nat.le_of_ble_eq_true rfl, Nat.le_of_ble_eq_true rfl⟩ (by decide +kernel) (fun x4 => ?_)
    refine zs_lstore (pc := 100) (i := 4) (ls' := [(4, sL x4), (0, sR 19), (1, sI a0), (2, sI a1), (3, sI a2)]) C (by decide +kernel) (Nat.le_of_ble_eq_true rfl) rfl ?_
    refine zs_lload (pc := 102) (i := 4) C (by decide +kernel) rfl ?_
    refine zs_lconst (pc := 104) (n := 0) (x := 0) C (by decide +kernel) (by decide +kernel) ?_
    refine zs_jn (pJ := 130) (kJ := 0) (sJ := 0) (fun t5 => []) (fun t5 => [sI t5]) (fun t5 => ?_) (fun J6 hJ6 => ?_)
    · exact zs_retWi (pc := 130) C hr ⟨Nat.le_of_ble_eq_true rfl, Nat.le_of_ble_eq_true rfl⟩ (by decide +kernel)
    · refine zs_lcmp_ge (pc := 105) (off := 7) (tgt := 113) C (by decide +kernel) (by decide +kernel) (by decide) ?_ ?_
      · refine zs_lload (pc := 113) (i := 4) C (by decide +kernel) rfl ?_
        refine zs_ldc2 (pc := 115) (i := 108) (v := 99) (x := 99) C (by decide +kernel) wf_704 (by decide +kernel) ?_
        refine zs_lcmp_le (pc := 118) (off := 8) (tgt := 127) C (by decide +kernel) (by decide +kernel) (by decide) ?_ ?_
        · refine zs_lload (pc := 127) (i := 4) C (by decide +kernel) rfl ?_
          refine zs_l2i (pc := 129) C (by decide +kernel) ?_
          exact zs_goj (hJ6 (w32 x4)) trivial
        · refine zs_bipush (pc := 122) (n := 99) (x := 99) C (by decide +kernel) (by decide +kernel) ?_
          refine zs_goto (pc := 124) (off := 6) (tgt := 130) C (by decide +kernel) (by decide) ?_
          exact zs_goj (hJ6 99) trivial
      · refine zs_iconst (pc := 109) (n := 0) (x := 0) C (by decide +kernel) (by decide +kernel) ?_
        refine zs_goto (pc := 110) (off := 20) (tgt := 130) C (by decide +kernel) (by decide) ?_
        exact zs_goj (hJ6 0) trivial
  · refine zs_iconst (pc := 13) (n := 0) (x := 0) C (by decide +kernel) (by decide +kernel) ?_
    refine zs_iload_n (pc := 14) (k := 2) (i := 2) C (by decide +kernel) rfl rfl ?_
    refine zs_aload_n (pc := 15) (k := 0) (i := 0) C (by decide +kernel) rfl rfl ?_
    refine zs_getR (o' := 27) (pc := 16) (i := 21) (ci := 10) (k := 1) C (by decide +kernel) fl_RX10_21 rfl rfl rfl ?_
    refine zs_getR (o' := 30) (pc := 19) (i := 92) (ci := 5) (k := 6) C (by decide +kernel) fl_RX10_92 rfl rfl rfl ?_
    refine zs_iload_n (pc := 22) (k := 1) (i := 1) C (by decide +kernel) rfl rfl ?_
    refine zs_iald (pc := 23) (o := 30) (n := 4) C (by decide +kernel) rfl (fun hinx7 x7 => ?_)
    refine zs_isub (pc := 24) C (by decide +kernel) ?_
    refine zs_mmax (pc := 25) (idx := 95) C wf_701 wf_702 wf_166 wf_703 ⟨Nat.le_of_ble_eq_true rfl, Nat.le_of_ble_eq_true rfl, Nat.zero_le _, Nat.zero_le _⟩ (by decide +kernel) ?_
    exact zs_retWi (pc := 28) C hr ⟨Nat.le_of_ble_eq_true rfl, Nat.le_of_ble_eq_true rfl⟩ (by decide +kernel)
set_option maxRecDepth 20000 in
theorem c_X12_within (l : Launch) (g : GC) (a0 : Int) (a1 : Int) (a2 : Int) : ConR l g yX12_within cX12_within 6 (some .boolean) (rmd 1 0 0) [sL a0, sL a1, sL a2] (fun mm => fX12_within a0 a1 a2 mm) := by
  refine zs_ofR (by decide +kernel) (Nat.le_of_ble_eq_true rfl) ?_
  intro p e s m args below meth c C hr
  replace C : Bd g RX12 cX12_within 6 p s m args meth c := C
  unfold fX12_within
  refine zs_lload_n (pc := 0) (k := 0) (i := 0) C (by decide +kernel) rfl rfl ?_
  refine zs_lload_n (pc := 1) (k := 2) (i := 2) C (by decide +kernel) rfl rfl ?_
  refine zs_jn (pJ := 18) (kJ := 0) (sJ := 0) (fun t1 => []) (fun t1 => [sI t1]) (fun t1 => ?_) (fun J2 hJ2 => ?_)
  · refine zs_chk (fun _ hx => ?_)
    exact zs_retRz (pc := 18) C hx hr ⟨Nat.le_of_ble_eq_true rfl, Nat.le_of_ble_eq_true rfl⟩ (by decide +kernel)
  · refine zs_jn (pJ := 17) (kJ := 0) (sJ := 0) (fun t3 => []) (fun t3 => []) (fun t3 => ?_) (fun J4 hJ4 => ?_)
    · refine zs_iconst (pc := 17) (n := 0) (x := 0) C (by decide +kernel) (by decide +kernel) ?_
      exact zs_goj (hJ2 0) trivial
    · refine zs_lcmp_lt (pc := 2) (off := 14) (tgt := 17) C (by decide +kernel) (by decide +kernel) (by decide) ?_ ?_
      · exact zs_goj (hJ4 ()) trivial
      · refine zs_lload_n (pc := 6) (k := 0) (i := 0) C (by decide +kernel) rfl rfl ?_
        refine zs_lload (pc := 7) (i := 4) C (by decide +kernel) rfl ?_
        refine zs_lcmp_gt (pc := 9) (off := 7) (tgt := 17) C (by decide +kernel) (by decide +kernel) (by decide) ?_ ?_
        · exact zs_goj (hJ4 ()) trivial
        · refine zs_iconst (pc := 13) (n := 1) (x := 1) C (by decide +kernel) (by decide +kernel) ?_
          refine zs_goto (pc := 14) (off := 4) (tgt := 18) C (by decide +kernel) (by decide) ?_
          exact zs_goj (hJ2 1) trivial
set_option maxRecDepth 20000 in
theorem c_X12_bound (l : Launch) (g : GC) (a0 : Int) : ConR l g yX12_bound cX12_bound 2 (some .int) (rmd 1 0 0) [sL a0] (fun mm => fX12_bound a0 mm) := by
  refine zs_ofR (by decide +kernel) (Nat.le_of_ble_eq_true rfl) ?_
  intro p e s m args below meth c C hr
  replace C : Bd g RX12 cX12_bound 2 p s m args meth c := C
  unfold fX12_bound
  refine zs_ldc2 (pc := 0) (i := 301) (v := (-1000000)) (x := (-1000000)) C (by decide +kernel) wf_2126 (by decide +kernel) ?_
  refine zs_ldc2 (pc := 3) (i := 303) (v := 1000000) (x := 1000000) C (by decide +kernel) wf_2127 (by decide +kernel) ?_
  refine zs_lload_n (pc := 6) (k := 0) (i := 0) C (by decide +kernel) rfl rfl ?_
  refine zs_mminL (pc := 7) (idx := 305) C wf_2128 wf_1682 wf_166 wf_1683 ⟨Nat.le_of_ble_eq_true rfl, Nat.le_of_ble_eq_true rfl, Nat.zero_le _, Nat.zero_le _⟩ (by decide +kernel) ?_
  refine zs_mmaxL (pc := 10) (idx := 309) C wf_2129 wf_2130 wf_166 wf_2131 ⟨Nat.le_of_ble_eq_true rfl, Nat.le_of_ble_eq_true rfl, Nat.zero_le _, Nat.zero_le _⟩ (by decide +kernel) ?_
  refine zs_l2i (pc := 13) C (by decide +kernel) ?_
  exact zs_retRi (pc := 14) C hr ⟨Nat.le_of_ble_eq_true rfl, Nat.le_of_ble_eq_true rfl⟩ (by decide +kernel)
set_option maxRecDepth 20000 in
theorem c_X12_done (l : Launch) (g : GC) (a0 : Int) (a1 : Int) (a2 : Int) : ConR l g yX12_done cX12_done 5 (some .int) (rmd 2 0 0) [sI a0, sL a1, sL a2] (fun mm => fX12_done a0 a1 a2 mm) := by
  refine zs_ofR (by decide +kernel) (Nat.le_of_ble_eq_true rfl) ?_
  intro p e s m args below meth c C hr
  replace C : Bd g RX12 cX12_done 5 p s m args meth c := C
  unfold fX12_done
  refine zs_iload_n (pc := 0) (k := 0) (i := 0) C (by decide +kernel) rfl rfl ?_
  refine zs_ite (fun hc0 => ?_) (fun hc0 => ?_)
  · refine zs_tswI (pc := 1) (dflt := 114) (lo := 10) (hi := 16) (offs := #[43, 50, 57, 64, 76, 88, 100]) (len := 43) (i := 0) (off := 43) (tgt := 44) C (by decide +kernel) hc0 (by decide) rfl (by decide) ?_
    refine zs_lload_n (pc := 44) (k := 1) (i := 1) C (by decide +kernel) rfl rfl ?_
    refine zs_lload_n (pc := 45) (k := 3) (i := 3) C (by decide +kernel) rfl rfl ?_
    refine zs_ladd (pc := 46) C (by decide +kernel) ?_
    refine zs_csRi (pc := 47) (As := [sL (w64 (a1 + a2))]) (st := []) C (Or.inl rfl) (c_X12_bound l g (w64 (a1 + a2))) ml_RX12_312 rfl rfl (Nat.le_of_ble_eq_true rfl) ⟨Nat.le_of_ble_eq_true rfl, Nat.le_of_ble_eq_true rfl⟩ ⟨Nat.le_of_ble_eq_true rfl, Nat.le_of_ble_eq_true rfl⟩ (by decide +kernel) (fun x1 => ?_)
    exact zs_retRi (pc := 50) C hr ⟨Nat.le_of_ble_eq_true rfl, Nat.le_of_ble_eq_true rfl⟩ (by decide +kernel)
  · refine zs_ite (fun hc1 => ?_) (fun hc1 => ?_)
    · refine zs_tswI (pc := 1) (dflt := 114) (lo := 10) (hi := 16) (offs := #[43, 50, 57, 64, 76, 88, 100]) (len := 43) (i := 1) (off := 50) (tgt := 51) C (by decide +kernel) hc1 (by decide) rfl (by decide) ?_
      refine zs_lload_n (pc := 51) (k := 1) (i := 1) C (by decide +kernel) rfl rfl ?_
      refine zs_lload_n (pc := 52) (k := 3) (i := 3) C (by decide +kernel) rfl rfl ?_
      refine zs_lsub (pc := 53) C (by decide +kernel) ?_
      refine zs_csRi (pc := 54) (As := [sL (w64 (a1 - a2))]) (st := []) C (Or.inl rfl) (c_X12_bound l g (w64 (a1 - a2))) ml_RX12_312 rfl rfl (Nat.le_of_ble_eq_true rfl) ⟨Nat.le_of_ble_eq_true rfl, Nat.le_of_ble_eq_true rfl⟩ ⟨Nat.le_of_ble_eq_true rfl, Nat.le_of_ble_eq_true rfl⟩ (by decide +kernel) (fun x2 => ?_)
      exact zs_retRi (pc := 57) C hr ⟨Nat.le_of_ble_eq_true rfl, Nat.le_of_ble_eq_true rfl⟩ (by decide +kernel)
    · refine zs_ite (fun hc2 => ?_) (fun hc2 => ?_)
      · refine zs_tswI (pc := 1) (dflt := 114) (lo := 10) (hi := 16) (offs := #[43, 50, 57, 64, 76, 88, 100]) (len := 43) (i := 2) (off := 57) (tgt := 58) C (by decide +kernel) hc2 (by decide) rfl (by decide) ?_
        refine zs_lload_n (pc := 58) (k := 1) (i := 1) C (by decide +kernel) rfl rfl ?_
        refine zs_lload_n (pc := 59) (k := 3) (i := 3) C (by decide +kernel) rfl rfl ?_
        refine zs_lmul (pc := 60) C (by decide +kernel) ?_
        refine zs_csRi (pc := 61) (As := [sL (w64 (a1 * a2))]) (st := []) C (Or.inl rfl) (c_X12_bound l g (w64 (a1 * a2))) ml_RX12_312 rfl rfl (Nat.le_of_ble_eq_true rfl) ⟨Nat.le_of_ble_eq_true rfl, Nat.le_of_ble_eq_true rfl⟩ ⟨Nat.le_of_ble_eq_true rfl, Nat.le_of_ble_eq_true rfl⟩ (by decide +kernel) (fun x3 => ?_)
        exact zs_retRi (pc := 64) C hr ⟨Nat.le_of_ble_eq_true rfl, Nat.le_of_ble_eq_true rfl⟩ (by decide +kernel)
      · refine zs_ite (fun hc3 => ?_) (fun hc3 => ?_)
        · refine zs_tswI (pc := 1) (dflt := 114) (lo := 10) (hi := 16) (offs := #[43, 50, 57, 64, 76, 88, 100]) (len := 43) (i := 3) (off := 64) (tgt := 65) C (by decide +kernel) hc3 (by decide) rfl (by decide) ?_
          refine zs_lload_n (pc := 65) (k := 1) (i := 1) C (by decide +kernel) rfl rfl ?_
          refine zs_lload_n (pc := 66) (k := 3) (i := 3) C (by decide +kernel) rfl rfl ?_
          refine zs_jn (pJ := 76) (kJ := 0) (sJ := 0) (fun t4 => []) (fun t4 => [sI t4]) (fun t4 => ?_) (fun J5 hJ5 => ?_)
          · exact zs_retRi (pc := 76) C hr ⟨Nat.le_of_ble_eq_true rfl, Nat.le_of_ble_eq_true rfl⟩ (by decide +kernel)
          · refine zs_lcmp_ne (pc := 67) (off := 7) (tgt := 75) C (by decide +kernel) (by decide +kernel) (by decide) ?_ ?_
            · refine zs_iconst (pc := 75) (n := 0) (x := 0) C (by decide +kernel) (by decide +kernel) ?_
              exact zs_goj (hJ5 0) trivial
            · refine zs_iconst (pc := 71) (n := 1) (x := 1) C (by decide +kernel) (by decide +kernel) ?_
              refine zs_goto (pc := 72) (off := 4) (tgt := 76) C (by decide +kernel) (by decide) ?_
              exact zs_goj (hJ5 1) trivial
        · refine zs_ite (fun hc4 => ?_) (fun hc4 => ?_)
          · refine zs_tswI (pc := 1) (dflt := 114) (lo := 10) (hi := 16) (offs := #[43, 50, 57, 64, 76, 88, 100]) (len := 43) (i := 4) (off := 76) (tgt := 77) C (by decide +kernel) hc4 (by decide) rfl (by decide) ?_
            refine zs_lload_n (pc := 77) (k := 1) (i := 1) C (by decide +kernel) rfl rfl ?_
            refine zs_lload_n (pc := 78) (k := 3) (i := 3) C (by decide +kernel) rfl rfl ?_
            refine zs_jn (pJ := 88) (kJ := 0) (sJ := 0) (fun t6 => []) (fun t6 => [sI t6]) (fun t6 => ?_) (fun J7 hJ7 => ?_)
            · exact zs_retRi (pc := 88) C hr ⟨Nat.le_of_ble_eq_true rfl, Nat.le_of_ble_eq_true rfl⟩ (by decide +kernel)
            · refine zs_lcmp_ge (pc := 79) (off := 7) (tgt := 87) C (by decide +kernel) (by decide +kernel) (by decide) ?_ ?_
              · refine zs_iconst (pc := 87) (n := 0) (x := 0) C (by decide +kernel) (by decide +kernel) ?_
                exact zs_goj (hJ7 0) trivial
              · refine zs_iconst (pc := 83) (n := 1) (x := 1) C (by decide +kernel) (by decide +kernel) ?_
                refine zs_goto (pc := 84) (off := 4) (tgt := 88) C (by decide +kernel) (by decide) ?_
                exact zs_goj (hJ7 1) trivial
          · refine zs_ite (fun hc5 => ?_) (fun hc5 => ?_)
            · refine zs_tswI (pc := 1) (dflt := 114) (lo := 10) (hi := 16) (offs := #[43, 50, 57, 64, 76, 88, 100]) (len := 43) (i := 5) (off := 88) (tgt := 89) C (by decide +kernel) hc5 (by decide) rfl (by decide) ?_
              refine zs_lload_n (pc := 89) (k := 1) (i := 1) C (by decide +kernel) rfl rfl ?_
              refine zs_lload_n (pc := 90) (k := 3) (i := 3) C (by decide +kernel) rfl rfl ?_
              refine zs_jn (pJ := 100) (kJ := 0) (sJ := 0) (fun t8 => []) (fun t8 => [sI t8]) (fun t8 => ?_) (fun J9 hJ9 => ?_)
              · exact zs_retRi (pc := 100) C hr ⟨Nat.le_of_ble_eq_true rfl, Nat.le_of_ble_eq_true rfl⟩ (by decide +kernel)
              · refine zs_lcmp_le (pc := 91) (off := 7) (tgt := 99) C (by decide +kernel) (by decide +kernel) (by decide) ?_ ?_
                · refine zs_iconst (pc := 99) (n := 0) (x := 0) C (by decide +kernel) (by decide +kernel) ?_
                  exact zs_goj (hJ9 0) trivial
                · refine zs_iconst (pc := 95) (n := 1) (x := 1) C (by decide +kernel) (by decide +kernel) ?_
                  refine zs_goto (pc := 96) (off := 4) (tgt := 100) C (by decide +kernel) (by decide) ?_
                  exact zs_goj (hJ9 1) trivial
            · refine zs_ite (fun hc6 => ?_) (fun hc6 => ?_)
              · refine zs_tswI (pc := 1) (dflt := 114) (lo := 10) (hi := 16) (offs := #[43, 50, 57, 64, 76, 88, 100]) (len := 43) (i := 6) (off := 100) (tgt := 101) C (by decide +kernel) hc6 (by decide) rfl (by decide) ?_
                refine zs_lload_n (pc := 101) (k := 1) (i := 1) C (by decide +kernel) rfl rfl ?_
                refine zs_lload_n (pc := 102) (k := 3) (i := 3) C (by decide +kernel) rfl rfl ?_
                refine zs_ladd (pc := 103) C (by decide +kernel) ?_
                refine zs_lconst (pc := 104) (n := 1) (x := 1) C (by decide +kernel) (by decide +kernel) ?_
                refine zs_jn (pJ := 114) (kJ := 0) (sJ := 0) (fun t10 => []) (fun t10 => [sI t10]) (fun t10 => ?_) (fun J11 hJ11 => ?_)
                · exact zs_retRi (pc := 114) C hr ⟨Nat.le_of_ble_eq_true rfl, Nat.le_of_ble_eq_true rfl⟩ (by decide +kernel)
                · refine zs_lcmp_le (pc := 105) (off := 7) (tgt := 113) C (by decide +kernel) (by decide +kernel) (by decide) ?_ ?_
                  · refine zs_iconst (pc := 113) (n := 0) (x := 0) C (by decide +kernel) (by decide +kernel) ?_
                    exact zs_goj (hJ11 0) trivial
                  · refine zs_iconst (pc := 109) (n := 1) (x := 1) C (by decide +kernel) (by decide +kernel) ?_
                    refine zs_goto (pc := 110) (off := 4) (tgt := 114) C (by decide +kernel) (by decide) ?_
                    exact zs_goj (hJ11 1) trivial
              · refine zs_tswD (pc := 1) (dflt := 114) (lo := 10) (hi := 16) (offs := #[43, 50, 57, 64, 76, 88, 100]) (len := 43) (tgt := 115) C (by decide +kernel) (by omega) (by decide) ?_
                refine zs_lload_n (pc := 115) (k := 1) (i := 1) C (by decide +kernel) rfl rfl ?_
                refine zs_lload_n (pc := 116) (k := 3) (i := 3) C (by decide +kernel) rfl rfl ?_
                refine zs_ladd (pc := 117) C (by decide +kernel) ?_
                refine zs_lconst (pc := 118) (n := 0) (x := 0) C (by decide +kernel) (by decide +kernel) ?_
                refine zs_jn (pJ := 128) (kJ := 0) (sJ := 0) (fun t12 => []) (fun t12 => [sI t12]) (fun t12 => ?_) (fun J13 hJ13 => ?_)
                · exact zs_retRi (pc := 128) C hr ⟨Nat.le_of_ble_eq_true rfl, Nat.le_of_ble_eq_true rfl⟩ (by decide +kernel)
                · refine zs_lcmp_le (pc := 119) (off := 7) (tgt := 127) C (by decide +kernel) (by decide +kernel) (by decide) ?_ ?_
                  · refine zs_iconst (pc := 127) (n := 0) (x := 0) C (by decide +kernel) (by decide +kernel) ?_
                    exact zs_goj (hJ13 0) trivial
                  · refine zs_iconst (pc := 123) (n := 1) (x := 1) C (by decide +kernel) (by decide +kernel) ?_
                    refine zs_goto (pc := 124) (off := 4) (tgt := 128) C (by decide +kernel) (by decide) ?_
                    exact zs_goj (hJ13 1) trivial
set_option maxRecDepth 20000 in
theorem c_X12_lawOf (l : Launch) (g : GC) (a0 : Int) (a1 : Int) : ConW l g yX12_lawOf cX12_lawOf 6 (some .int) (rmd 3 0 0) [sR 287, sI a0, sI a1] (fun mm => fX12_lawOf a0 a1 mm) := by
  refine zs_ofW (by decide +kernel) (Nat.le_of_ble_eq_true rfl) ?_
  intro p e s m args below meth c C hr
  replace C : Bd g RX12 cX12_lawOf 6 p s m args meth c := C
  unfold fX12_lawOf
  refine zs_iconst (pc := 0) (n := 0) (x := 0) C (by decide +kernel) (by decide +kernel) ?_
  refine zs_istore_n (pc := 1) (k := 3) (i := 3) (ls' := [(3, sI 0), (0, sR 287), (1, sI a0), (2, sI a1)]) C (by decide +kernel) rfl (Nat.le_of_ble_eq_true rfl) rfl ?_
  refine zs_iconst (pc := 2) (n := 0) (x := 0) C (by decide +kernel) (by decide +kernel) ?_
  refine zs_istore (pc := 3) (i := 4) (ls' := [(4, sI 0), (3, sI 0), (0, sR 287), (1, sI a0), (2, sI a1)]) C (by decide +kernel) (Nat.le_of_ble_eq_true rfl) rfl ?_
  refine zs_sub (ls' := [(0, sR 287), (1, sI a0), (2, sI a1), (3, sI 0), (4, sI 0)]) ⟨rfl, rfl, rfl, rfl, rfl, trivial⟩ ?_
  refine zs_lp (pc := 5) (fun (t1 : Int × Int) => [(0, sR 287), (1, sI a0), (2, sI a1), (3, sI t1.1), (4, sI t1.2)]) (fun _ => []) (fun K2 hK2 t1 => ?_) BIG (0, 0)
  refine zs_iload (pc := 5) (i := 4) C (by decide +kernel) rfl ?_
  refine zs_aload_n (pc := 7) (k := 0) (i := 0) C (by decide +kernel) rfl rfl ?_
  refine zs_getR (o' := 288) (pc := 8) (i := 9) (ci := 12) (k := 0) C (by decide +kernel) fl_RX12_9 rfl rfl rfl ?_
  refine zs_iload_n (pc := 11) (k := 1) (i := 1) C (by decide +kernel) rfl rfl ?_
  refine zs_iald (pc := 12) (o := 288) (n := 2005) C (by decide +kernel) rfl (fun hinx3 x3 => ?_)
  refine zs_icmp_ge (pc := 13) (off := 126) (tgt := 139) C (by decide +kernel) (by decide) ?_ ?_
  · refine zs_aload_n (pc := 139) (k := 0) (i := 0) C (by decide +kernel) rfl rfl ?_
    refine zs_getR (o' := 293) (pc := 140) (i := 30) (ci := 12) (k := 19) C (by decide +kernel) fl_RX12_30 rfl rfl rfl ?_
    refine zs_iconst (pc := 143) (n := 0) (x := 0) C (by decide +kernel) (by decide +kernel) ?_
    refine zs_ialdk (pc := 144) (o := 293) (n := 64) C (by decide) (by decide +kernel) rfl (fun x4 => ?_)
    exact zs_retWi (pc := 145) C hr ⟨Nat.le_of_ble_eq_true rfl, Nat.le_of_ble_eq_true rfl⟩ (by decide +kernel)
  · refine zs_aload_n (pc := 16) (k := 0) (i := 0) C (by decide +kernel) rfl rfl ?_
    refine zs_getR (o' := 288) (pc := 17) (i := 9) (ci := 12) (k := 0) C (by decide +kernel) fl_RX12_9 rfl rfl rfl ?_
    refine zs_iload_n (pc := 20) (k := 2) (i := 2) C (by decide +kernel) rfl rfl ?_
    refine zs_iload (pc := 21) (i := 4) C (by decide +kernel) rfl ?_
    refine zs_iadd (pc := 23) C (by decide +kernel) ?_
    refine zs_iald (pc := 24) (o := 288) (n := 2005) C (by decide +kernel) rfl (fun hinx5 x5 => ?_)
    refine zs_istore (pc := 25) (i := 5) (ls' := [(5, sI x5), (0, sR 287), (1, sI a0), (2, sI a1), (3, sI t1.1), (4, sI t1.2)]) C (by decide +kernel) (Nat.le_of_ble_eq_true rfl) rfl ?_
    refine zs_iload (pc := 27) (i := 5) C (by decide +kernel) rfl ?_
    refine zs_bipush (pc := 29) (n := 100) (x := 100) C (by decide +kernel) (by decide +kernel) ?_
    refine zs_jn (pJ := 133) (kJ := 0) (sJ := 0) (fun t6 => [(0, sR 287), (1, sI a0), (2, sI a1), (3, sI t6), (4, sI t1.2)]) (fun t6 => []) (fun t6 => ?_) (fun J7 hJ7 => ?_)
    · refine zs_iinc (pc := 133) (i := 4) (n := 1) (y := w32 (t1.2 + 1)) (ls' := [(4, sI (w32 (t1.2 + 1))), (0, sR 287), (1, sI a0), (2, sI a1), (3, sI t6)]) C (by decide +kernel) rfl rfl (Nat.le_of_ble_eq_true rfl) rfl ?_
      refine zs_goto (pc := 136) (off := (-131)) (tgt := 5) C (by decide +kernel) (by decide) ?_
      exact zs_goj (hK2 (t6, w32 (t1.2 + 1))) ⟨rfl, rfl, rfl, rfl, rfl, trivial⟩
    · refine zs_icmp_lt (pc := 31) (off := 42) (tgt := 73) C (by decide +kernel) (by decide) ?_ ?_
      · refine zs_iload (pc := 73) (i := 5) C (by decide +kernel) rfl ?_
        refine zs_bipush (pc := 75) (n := 18) (x := 18) C (by decide +kernel) (by decide +kernel) ?_
        refine zs_icmp_ne (pc := 77) (off := 24) (tgt := 101) C (by decide +kernel) (by decide) ?_ ?_
        · refine zs_iinc (pc := 101) (i := 3) (n := (-1)) (y := w32 (t1.1 + (-1))) (ls' := [(3, sI (w32 (t1.1 + (-1)))), (5, sI x5), (0, sR 287), (1, sI a0), (2, sI a1), (4, sI t1.2)]) C (by decide +kernel) rfl rfl (Nat.le_of_ble_eq_true rfl) rfl ?_
          refine zs_aload_n (pc := 104) (k := 0) (i := 0) C (by decide +kernel) rfl rfl ?_
          refine zs_getR (o' := 293) (pc := 105) (i := 30) (ci := 12) (k := 19) C (by decide +kernel) fl_RX12_30 rfl rfl rfl ?_
          refine zs_iload_n (pc := 108) (k := 3) (i := 3) C (by decide +kernel) rfl rfl ?_
          refine zs_iconst (pc := 109) (n := 1) (x := 1) C (by decide +kernel) (by decide +kernel) ?_
          refine zs_isub (pc := 110) C (by decide +kernel) ?_
          refine zs_iload (pc := 111) (i := 5) C (by decide +kernel) rfl ?_
          refine zs_aload_n (pc := 113) (k := 0) (i := 0) C (by decide +kernel) rfl rfl ?_
          refine zs_getR (o' := 293) (pc := 114) (i := 30) (ci := 12) (k := 19) C (by decide +kernel) fl_RX12_30 rfl rfl rfl ?_
          refine zs_iload_n (pc := 117) (k := 3) (i := 3) C (by decide +kernel) rfl rfl ?_
          refine zs_iconst (pc := 118) (n := 1) (x := 1) C (by decide +kernel) (by decide +kernel) ?_
          refine zs_isub (pc := 119) C (by decide +kernel) ?_
          refine zs_iald (pc := 120) (o := 293) (n := 64) C (by decide +kernel) rfl (fun hinx8 x8 => ?_)
          refine zs_i2l (pc := 121) C (by decide +kernel) ?_
          refine zs_aload_n (pc := 122) (k := 0) (i := 0) C (by decide +kernel) rfl rfl ?_
          refine zs_getR (o' := 293) (pc := 123) (i := 30) (ci := 12) (k := 19) C (by decide +kernel) fl_RX12_30 rfl rfl rfl ?_
          refine zs_iload_n (pc := 126) (k := 3) (i := 3) C (by decide +kernel) rfl rfl ?_
          refine zs_iald (pc := 127) (o := 293) (n := 64) C (by decide +kernel) rfl (fun hinx9 x9 => ?_)
          refine zs_i2l (pc := 128) C (by decide +kernel) ?_
          refine zs_csRi (pc := 129) (As := [sI x5, sL x8, sL x9]) (st := [sI (w32 ((w32 (t1.1 + (-1))) - 1)), sR 293]) C (Or.inl rfl) (c_X12_done l g x5 x8 x9) ml_RX12_316 rfl rfl (Nat.le_of_ble_eq_true rfl) ⟨Nat.le_of_ble_eq_true rfl, Nat.le_of_ble_eq_true rfl⟩ ⟨Nat.le_of_ble_eq_true rfl, Nat.le_of_ble_eq_true rfl⟩ (by decide +kernel) (fun x10 => ?_)
          refine zs_iast (pc := 132) (o := 293) (n := 64) C (fun _ _ _ => rfl) (by decide +kernel) rfl ?_
          exact zs_goj (hJ7 (w32 (t1.1 + (-1)))) ⟨rfl, rfl, rfl, rfl, rfl, trivial⟩
        · refine zs_aload_n (pc := 80) (k := 0) (i := 0) C (by decide +kernel) rfl rfl ?_
          refine zs_getR (o' := 293) (pc := 81) (i := 30) (ci := 12) (k := 19) C (by decide +kernel) fl_RX12_30 rfl rfl rfl ?_
          refine zs_iload_n (pc := 84) (k := 3) (i := 3) C (by decide +kernel) rfl rfl ?_
          refine zs_iconst (pc := 85) (n := 1) (x := 1) C (by decide +kernel) (by decide +kernel) ?_
          refine zs_isub (pc := 86) C (by decide +kernel) ?_
          refine zs_iconst (pc := 87) (n := 1) (x := 1) C (by decide +kernel) (by decide +kernel) ?_
          refine zs_aload_n (pc := 88) (k := 0) (i := 0) C (by decide +kernel) rfl rfl ?_
          refine zs_getR (o' := 293) (pc := 89) (i := 30) (ci := 12) (k := 19) C (by decide +kernel) fl_RX12_30 rfl rfl rfl ?_
          refine zs_iload_n (pc := 92) (k := 3) (i := 3) C (by decide +kernel) rfl rfl ?_
          refine zs_iconst (pc := 93) (n := 1) (x := 1) C (by decide +kernel) (by decide +kernel) ?_
          refine zs_isub (pc := 94) C (by decide +kernel) ?_
          refine zs_iald (pc := 95) (o := 293) (n := 64) C (by decide +kernel) rfl (fun hinx11 x11 => ?_)
          refine zs_isub (pc := 96) C (by decide +kernel) ?_
          refine zs_iast (pc := 97) (o := 293) (n := 64) C (fun _ _ _ => rfl) (by decide +kernel) rfl ?_
          refine zs_goto (pc := 98) (off := 35) (tgt := 133) C (by decide +kernel) (by decide) ?_
          exact zs_goj (hJ7 t1.1) ⟨rfl, rfl, rfl, rfl, rfl, trivial⟩
      · refine zs_aload_n (pc := 34) (k := 0) (i := 0) C (by decide +kernel) rfl rfl ?_
        refine zs_getR (o' := 293) (pc := 35) (i := 30) (ci := 12) (k := 19) C (by decide +kernel) fl_RX12_30 rfl rfl rfl ?_
        refine zs_iload_n (pc := 38) (k := 3) (i := 3) C (by decide +kernel) rfl rfl ?_
        refine zs_iload (pc := 39) (i := 5) C (by decide +kernel) rfl ?_
        refine zs_sipush (pc := 41) (n := 1000) (x := 1000) C (by decide +kernel) (by decide +kernel) ?_
        refine zs_jn (pJ := 66) (kJ := 0) (sJ := 0) (fun t12 => [(0, sR 287), (1, sI a0), (2, sI a1), (3, sI t1.1), (4, sI t1.2)]) (fun t12 => [sI t12, sI t1.1, sR 293]) (fun t12 => ?_) (fun J13 hJ13 => ?_)
        · refine zs_iast (pc := 66) (o := 293) (n := 64) C (fun _ _ _ => rfl) (by decide +kernel) rfl ?_
          refine zs_iinc (pc := 67) (i := 3) (n := 1) (y := w32 (t1.1 + 1)) (ls' := [(3, sI (w32 (t1.1 + 1))), (0, sR 287), (1, sI a0), (2, sI a1), (4, sI t1.2)]) C (by decide +kernel) rfl rfl (Nat.le_of_ble_eq_true rfl) rfl ?_
          refine zs_goto (pc := 70) (off := 63) (tgt := 133) C (by decide +kernel) (by decide) ?_
          exact zs_goj (hJ7 (w32 (t1.1 + 1))) ⟨rfl, rfl, rfl, rfl, rfl, trivial⟩
        · refine zs_icmp_lt (pc := 44) (off := 12) (tgt := 56) C (by decide +kernel) (by decide) ?_ ?_
          · refine zs_aload_n (pc := 56) (k := 0) (i := 0) C (by decide +kernel) rfl rfl ?_
            refine zs_getR (o' := 294) (pc := 57) (i := 33) (ci := 12) (k := 20) C (by decide +kernel) fl_RX12_33 rfl rfl rfl ?_
            refine zs_iload (pc := 60) (i := 5) C (by decide +kernel) rfl ?_
            refine zs_bipush (pc := 62) (n := 100) (x := 100) C (by decide +kernel) (by decide +kernel) ?_
            refine zs_isub (pc := 64) C (by decide +kernel) ?_
            refine zs_iald (pc := 65) (o := 294) (n := 6) C (by decide +kernel) rfl (fun hinx14 x14 => ?_)
            exact zs_goj (hJ13 x14) ⟨rfl, rfl, rfl, rfl, rfl, trivial⟩
          · refine zs_iload (pc := 47) (i := 5) C (by decide +kernel) rfl ?_
            refine zs_sipush (pc := 49) (n := 1000) (x := 1000) C (by decide +kernel) (by decide +kernel) ?_
            refine zs_isub (pc := 52) C (by decide +kernel) ?_
            refine zs_goto (pc := 53) (off := 13) (tgt := 66) C (by decide +kernel) (by decide) ?_
            exact zs_goj (hJ13 (w32 (x5 - 1000))) ⟨rfl, rfl, rfl, rfl, rfl, trivial⟩
set_option maxRecDepth 20000 in
theorem c_X12_turned (l : Launch) (g : GC) (a0 : Int) (a1 : Int) : ConR l g yX12_turned cX12_turned 5 (some .int) (rmd 2 0 0) [sR 287, sI a0, sI a1] (fun mm => fX12_turned a0 a1 mm) := by
  refine zs_ofR (by decide +kernel) (Nat.le_of_ble_eq_true rfl) ?_
  intro p e s m args below meth c C hr
  replace C : Bd g RX12 cX12_turned 5 p s m args meth c := C
  unfold fX12_turned
  refine zs_iload_n (pc := 0) (k := 1) (i := 1) C (by decide +kernel) rfl rfl ?_
  refine zs_aload_n (pc := 1) (k := 0) (i := 0) C (by decide +kernel) rfl rfl ?_
  refine zs_getR (o' := 288) (pc := 2) (i := 9) (ci := 12) (k := 0) C (by decide +kernel) fl_RX12_9 rfl rfl rfl ?_
  refine zs_iconst (pc := 5) (n := 1) (x := 1) C (by decide +kernel) (by decide +kernel) ?_
  refine zs_ialdk (pc := 6) (o := 288) (n := 2005) C (by decide) (by decide +kernel) rfl (fun x1 => ?_)
  refine zs_chk (fun _ hy => ?_)
  refine zs_irem (pc := 7) C hy (by decide +kernel) ?_
  refine zs_iload_n (pc := 8) (k := 2) (i := 2) C (by decide +kernel) rfl rfl ?_
  refine zs_iconst (pc := 9) (n := 2) (x := 2) C (by decide +kernel) (by decide +kernel) ?_
  refine zs_jn (pJ := 27) (kJ := 0) (sJ := 0) (fun t2 => [(0, sR 287), (1, sI a0), (2, sI a1)]) (fun t2 => [sI t2, sI (Int.tmod a0 x1)]) (fun t2 => ?_) (fun J3 hJ3 => ?_)
  · refine zs_iadd (pc := 27) C (by decide +kernel) ?_
    refine zs_let (fun x4 => ?_)
    refine zs_istore_n (pc := 28) (k := 3) (i := 3) (ls' := [(3, sI x4), (0, sR 287), (1, sI a0), (2, sI a1)]) C (by decide +kernel) rfl (Nat.le_of_ble_eq_true rfl) rfl ?_
    refine zs_iload_n (pc := 29) (k := 1) (i := 1) C (by decide +kernel) rfl rfl ?_
    refine zs_aload_n (pc := 30) (k := 0) (i := 0) C (by decide +kernel) rfl rfl ?_
    refine zs_getR (o' := 288) (pc := 31) (i := 9) (ci := 12) (k := 0) C (by decide +kernel) fl_RX12_9 rfl rfl rfl ?_
    refine zs_iconst (pc := 34) (n := 1) (x := 1) C (by decide +kernel) (by decide +kernel) ?_
    refine zs_ialdk (pc := 35) (o := 288) (n := 2005) C (by decide) (by decide +kernel) rfl (fun x5 => ?_)
    refine zs_chk (fun _ hy => ?_)
    refine zs_idiv (pc := 36) C hy (by decide +kernel) ?_
    refine zs_iload_n (pc := 37) (k := 2) (i := 2) C (by decide +kernel) rfl rfl ?_
    refine zs_iconst (pc := 38) (n := 3) (x := 3) C (by decide +kernel) (by decide +kernel) ?_
    refine zs_jn (pJ := 56) (kJ := 0) (sJ := 0) (fun t6 => [(0, sR 287), (3, sI x4)]) (fun t6 => [sI t6, sI (Int.tdiv a0 x5)]) (fun t6 => ?_) (fun J7 hJ7 => ?_)
    · refine zs_iadd (pc := 56) C (by decide +kernel) ?_
      refine zs_let (fun x8 => ?_)
      refine zs_istore (pc := 57) (i := 4) (ls' := [(4, sI x8), (0, sR 287), (3, sI x4)]) C (by decide +kernel) (Nat.le_of_ble_eq_true rfl) rfl ?_
      refine zs_iload_n (pc := 59) (k := 3) (i := 3) C (by decide +kernel) rfl rfl ?_
      refine zs_i2l (pc := 60) C (by decide +kernel) ?_
      refine zs_lconst (pc := 61) (n := 0) (x := 0) C (by decide +kernel) (by decide +kernel) ?_
      refine zs_aload_n (pc := 62) (k := 0) (i := 0) C (by decide +kernel) rfl rfl ?_
      refine zs_getR (o' := 288) (pc := 63) (i := 9) (ci := 12) (k := 0) C (by decide +kernel) fl_RX12_9 rfl rfl rfl ?_
      refine zs_iconst (pc := 66) (n := 1) (x := 1) C (by decide +kernel) (by decide +kernel) ?_
      refine zs_ialdk (pc := 67) (o := 288) (n := 2005) C (by decide) (by decide +kernel) rfl (fun x9 => ?_)
      refine zs_iconst (pc := 68) (n := 1) (x := 1) C (by decide +kernel) (by decide +kernel) ?_
      refine zs_isub (pc := 69) C (by decide +kernel) ?_
      refine zs_i2l (pc := 70) C (by decide +kernel) ?_
      refine zs_csRi (pc := 71) (As := [sL x4, sL 0, sL (w32 (x9 - 1))]) (st := []) C (Or.inr rfl) (c_X12_within l g x4 0 (w32 (x9 - 1))) ml_RX12_149 rfl rfl (Nat.le_of_ble_eq_true rfl) ⟨Nat.le_of_ble_eq_true rfl, Nat.le_of_ble_eq_true rfl⟩ ⟨Nat.le_of_ble_eq_true rfl, Nat.le_of_ble_eq_true rfl⟩ (by decide +kernel) (fun x10 => ?_)
      refine zs_jn (pJ := 111) (kJ := 0) (sJ := 0) (fun t11 => []) (fun t11 => [sI t11]) (fun t11 => ?_) (fun J12 hJ12 => ?_)
      · exact zs_retRi (pc := 111) C hr ⟨Nat.le_of_ble_eq_true rfl, Nat.le_of_ble_eq_true rfl⟩ (by decide +kernel)
      · refine zs_jn (pJ := 110) (kJ := 0) (sJ := 0) (fun t13 => []) (fun t13 => []) (fun t13 => ?_) (fun J14 hJ14 => ?_)
        · refine zs_iconst (pc := 110) (n := (-1)) (x := (-1)) C (by decide +kernel) (by decide +kernel) ?_
          exact zs_goj (hJ12 (-1)) trivial
        · refine zs_if_eq (pc := 74) (off := 36) (tgt := 110) C (by decide +kernel) (by decide) ?_ ?_
          · exact zs_goj (hJ14 ()) trivial
          · refine zs_iload (pc := 77) (i := 4) C (by decide +kernel) rfl ?_
            refine zs_i2l (pc := 79) C (by decide +kernel) ?_
            refine zs_lconst (pc := 80) (n := 0) (x := 0) C (by decide +kernel) (by decide +kernel) ?_
            refine zs_aload_n (pc := 81) (k := 0) (i := 0) C (by decide +kernel) rfl rfl ?_
            refine zs_getR (o' := 288) (pc := 82) (i := 9) (ci := 12) (k := 0) C (by decide +kernel) fl_RX12_9 rfl rfl rfl ?_
            refine zs_iconst (pc := 85) (n := 2) (x := 2) C (by decide +kernel) (by decide +kernel) ?_
            refine zs_ialdk (pc := 86) (o := 288) (n := 2005) C (by decide) (by decide +kernel) rfl (fun x15 => ?_)
            refine zs_iconst (pc := 87) (n := 1) (x := 1) C (by decide +kernel) (by decide +kernel) ?_
            refine zs_isub (pc := 88) C (by decide +kernel) ?_
            refine zs_i2l (pc := 89) C (by decide +kernel) ?_
            refine zs_csRi (pc := 90) (As := [sL x8, sL 0, sL (w32 (x15 - 1))]) (st := []) C (Or.inr rfl) (c_X12_within l g x8 0 (w32 (x15 - 1))) ml_RX12_149 rfl rfl (Nat.le_of_ble_eq_true rfl) ⟨Nat.le_of_ble_eq_true rfl, Nat.le_of_ble_eq_true rfl⟩ ⟨Nat.le_of_ble_eq_true rfl, Nat.le_of_ble_eq_true rfl⟩ (by decide +kernel) (fun x16 => ?_)
            refine zs_if_eq (pc := 93) (off := 17) (tgt := 110) C (by decide +kernel) (by decide) ?_ ?_
            · exact zs_goj (hJ14 ()) trivial
            · refine zs_aload_n (pc := 96) (k := 0) (i := 0) C (by decide +kernel) rfl rfl ?_
              refine zs_getR (o' := 288) (pc := 97) (i := 9) (ci := 12) (k := 0) C (by decide +kernel) fl_RX12_9 rfl rfl rfl ?_
              refine zs_iconst (pc := 100) (n := 1) (x := 1) C (by decide +kernel) (by decide +kernel) ?_
              refine zs_ialdk (pc := 101) (o := 288) (n := 2005) C (by decide) (by decide +kernel) rfl (fun x17 => ?_)
              refine zs_iload (pc := 102) (i := 4) C (by decide +kernel) rfl ?_
              refine zs_imul (pc := 104) C (by decide +kernel) ?_
              refine zs_iload_n (pc := 105) (k := 3) (i := 3) C (by decide +kernel) rfl rfl ?_
              refine zs_iadd (pc := 106) C (by decide +kernel) ?_
              refine zs_goto (pc := 107) (off := 4) (tgt := 111) C (by decide +kernel) (by decide) ?_
              exact zs_goj (hJ12 (w32 ((w32 (x17 * x8)) + x4))) trivial
    · refine zs_icmp_ne (pc := 39) (off := 7) (tgt := 46) C (by decide +kernel) (by decide) ?_ ?_
      · refine zs_iload_n (pc := 46) (k := 2) (i := 2) C (by decide +kernel) rfl rfl ?_
        refine zs_iconst (pc := 47) (n := 1) (x := 1) C (by decide +kernel) (by decide +kernel) ?_
        refine zs_icmp_ne (pc := 48) (off := 7) (tgt := 55) C (by decide +kernel) (by decide) ?_ ?_
        · refine zs_iconst (pc := 55) (n := 0) (x := 0) C (by decide +kernel) (by decide +kernel) ?_
          exact zs_goj (hJ7 0) ⟨rfl, rfl, trivial⟩
        · refine zs_iconst (pc := 51) (n := (-1)) (x := (-1)) C (by decide +kernel) (by decide +kernel) ?_
          refine zs_goto (pc := 52) (off := 4) (tgt := 56) C (by decide +kernel) (by decide) ?_
          exact zs_goj (hJ7 (-1)) ⟨rfl, rfl, trivial⟩
      · refine zs_iconst (pc := 42) (n := 1) (x := 1) C (by decide +kernel) (by decide +kernel) ?_
        refine zs_goto (pc := 43) (off := 13) (tgt := 56) C (by decide +kernel) (by decide) ?_
        exact zs_goj (hJ7 1) ⟨rfl, rfl, trivial⟩
  · refine zs_icmp_ne (pc := 10) (off := 7) (tgt := 17) C (by decide +kernel) (by decide) ?_ ?_
    · refine zs_iload_n (pc := 17) (k := 2) (i := 2) C (by decide +kernel) rfl rfl ?_
      refine zs_iconst (pc := 18) (n := 4) (x := 4) C (by decide +kernel) (by decide +kernel) ?_
      refine zs_icmp_ne (pc := 19) (off := 7) (tgt := 26) C (by decide +kernel) (by decide) ?_ ?_
      · refine zs_iconst (pc := 26) (n := 0) (x := 0) C (by decide +kernel) (by decide +kernel) ?_
        exact zs_goj (hJ3 0) ⟨rfl, rfl, rfl, trivial⟩
      · refine zs_iconst (pc := 22) (n := (-1)) (x := (-1)) C (by decide +kernel) (by decide +kernel) ?_
        refine zs_goto (pc := 23) (off := 4) (tgt := 27) C (by decide +kernel) (by decide) ?_
        exact zs_goj (hJ3 (-1)) ⟨rfl, rfl, rfl, trivial⟩
    · refine zs_iconst (pc := 13) (n := 1) (x := 1) C (by decide +kernel) (by decide +kernel) ?_
      refine zs_goto (pc := 14) (off := 13) (tgt := 27) C (by decide +kernel) (by decide) ?_
      exact zs_goj (hJ3 1) ⟨rfl, rfl, rfl, trivial⟩

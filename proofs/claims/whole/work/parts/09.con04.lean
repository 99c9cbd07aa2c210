set_option maxRecDepth 20000 in
theorem c_X0_rockInTheWay (l : Launch) (g : GC) (a0 : Int) (a1 : Int) : ConW l g yX0_rockInTheWay cX0_rockInTheWay 8 (some .int) (rmd 6 0 0) [sR 18, sI a0, sI a1] (fun mm => fX0_rockInTheWay a0 a1 mm) := by
  refine zs_ofW (by decide +kernel) (Nat.le_of_ble_eq_true rfl) ?_
  intro p e s m args below meth c C hr
  replace C : Bd g RX0 cX0_rockInTheWay 8 p s m args meth c := C
  unfold fX0_rockInTheWay
  refine zs_aload_n (pc := 0) (k := 0) (i := 0) C (by decide +kernel) rfl rfl ?_
  refine zs_iload_n (pc := 1) (k := 1) (i := 1) C (by decide +kernel) rfl rfl ?_
  refine zs_iload_n (pc := 2) (k := 2) (i := 2) C (by decide +kernel) rfl rfl ?_
  refine zs_aload_n (pc := 3) (k := 0) (i := 0) C (by decide +kernel) rfl rfl ?_
  refine zs_getR (o' := 19) (pc := 4) (i := 12) (ci := 0) (k := 0) C (by decide +kernel) fl_RX0_12 rfl rfl rfl ?_
  refine zs_getR (o' := 20) (pc := 7) (i := 72) (ci := 10) (k := 0) C (by decide +kernel) fl_RX0_72 rfl rfl rfl ?_
  refine zs_getI (pc := 10) (i := 76) (ci := 3) (k := 3) C (by decide +kernel) fl_RX0_76 rfl rfl (fun x1 => ?_)
  refine zs_cvWi (pc := 13) (As := [sI a0, sI a1, sI x1]) (st := []) C (fun _ _ _ => rfl) (Or.inl rfl) (c_X0_hoursTo l g a0 a1 x1) ml_RX0_182 rfl rfl rfl rfl (Nat.le_of_ble_eq_true rfl) ⟨Nat.le_of_ble_eq_true rfl, Nat.le_of_ble_eq_true rfl⟩ ⟨Nat.le_of_ble_eq_true rfl, Nat.le_of_ble_eq_true rfl⟩ (by decide +kernel) (fun x2 => ?_)
  refine zs_istore_n (pc := 16) (k := 3) (i := 3) (ls' := [(3, sI x2), (0, sR 18), (1, sI a0), (2, sI a1)]) C (by decide +kernel) rfl (Nat.le_of_ble_eq_true rfl) rfl ?_
  refine zs_iload_n (pc := 17) (k := 3) (i := 3) C (by decide +kernel) rfl rfl ?_
  refine zs_iconst (pc := 18) (n := (-1)) (x := (-1)) C (by decide +kernel) (by decide +kernel) ?_
  refine zs_jn (pJ := 28) (kJ := 0) (sJ := 0) (fun t3 => [(0, sR 18), (1, sI a0), (2, sI a1)]) (fun t3 => [sI t3]) (fun t3 => ?_) (fun J4 hJ4 => ?_)
  · refine zs_istore (pc := 28) (i := 4) (ls' := [(4, sI t3), (0, sR 18), (1, sI a0), (2, sI a1)]) C (by decide +kernel) (Nat.le_of_ble_eq_true rfl) rfl ?_
    refine zs_iconst (pc := 30) (n := (-1)) (x := (-1)) C (by decide +kernel) (by decide +kernel) ?_
    refine zs_istore (pc := 31) (i := 5) (ls' := [(5, sI ((-1))), (4, sI t3), (0, sR 18), (1, sI a0), (2, sI a1)]) C (by decide +kernel) (Nat.le_of_ble_eq_true rfl) rfl ?_
    refine zs_iconst (pc := 33) (n := 0) (x := 0) C (by decide +kernel) (by decide +kernel) ?_
    refine zs_istore (pc := 34) (i := 6) (ls' := [(6, sI 0), (5, sI ((-1))), (4, sI t3), (0, sR 18), (1, sI a0), (2, sI a1)]) C (by decide +kernel) (Nat.le_of_ble_eq_true rfl) rfl ?_
    refine zs_sub (ls' := [(0, sR 18), (1, sI a0), (2, sI a1), (4, sI t3), (5, sI ((-1))), (6, sI 0)]) ⟨rfl, rfl, rfl, rfl, rfl, rfl, trivial⟩ ?_
    refine zs_lp (pc := 36) (fun (t5 : Int × Int × Int) => [(0, sR 18), (1, sI a0), (2, sI a1), (4, sI t5.1), (5, sI t5.2.1), (6, sI t5.2.2)]) (fun _ => []) (fun K6 hK6 t5 => ?_) BIG (t3, (-1), 0)
    refine zs_iload (pc := 36) (i := 6) C (by decide +kernel) rfl ?_
    refine zs_aload_n (pc := 38) (k := 0) (i := 0) C (by decide +kernel) rfl rfl ?_
    refine zs_getI (pc := 39) (i := 43) (ci := 0) (k := 9) C (by decide +kernel) fl_RX0_43 rfl rfl (fun x7 => ?_)
    refine zs_icmp_ge (pc := 42) (off := 70) (tgt := 112) C (by decide +kernel) (by decide) ?_ ?_
    · refine zs_iload (pc := 112) (i := 5) C (by decide +kernel) rfl ?_
      exact zs_retWi (pc := 114) C hr ⟨Nat.le_of_ble_eq_true rfl, Nat.le_of_ble_eq_true rfl⟩ (by decide +kernel)
    · refine zs_aload_n (pc := 45) (k := 0) (i := 0) C (by decide +kernel) rfl rfl ?_
      refine zs_getR (o' := 19) (pc := 46) (i := 12) (ci := 0) (k := 0) C (by decide +kernel) fl_RX0_12 rfl rfl rfl ?_
      refine zs_getR (o' := 20) (pc := 49) (i := 72) (ci := 10) (k := 0) C (by decide +kernel) fl_RX0_72 rfl rfl rfl ?_
      refine zs_iload (pc := 52) (i := 6) C (by decide +kernel) rfl ?_
      refine zs_cvRi (pc := 54) (As := [sI t5.2.2]) (st := []) C (Or.inr rfl) (c_X3_isRock l g t5.2.2) ml_RX0_202 rfl rfl rfl rfl (Nat.le_of_ble_eq_true rfl) ⟨Nat.le_of_ble_eq_true rfl, Nat.le_of_ble_eq_true rfl⟩ ⟨Nat.le_of_ble_eq_true rfl, Nat.le_of_ble_eq_true rfl⟩ (by decide +kernel) (fun x8 => ?_)
      refine zs_jn (pJ := 106) (kJ := 0) (sJ := 0) (fun t9 => [(0, sR 18), (1, sI a0), (2, sI a1), (4, sI t9.1), (5, sI t9.2), (6, sI t5.2.2)]) (fun t9 => []) (fun t9 => ?_) (fun J10 hJ10 => ?_)
      · refine zs_iinc (pc := 106) (i := 6) (n := 1) (y := w32 (t5.2.2 + 1)) (ls' := [(6, sI (w32 (t5.2.2 + 1))), (0, sR 18), (1, sI a0), (2, sI a1), (4, sI t9.1), (5, sI t9.2)]) C (by decide +kernel) rfl rfl (Nat.le_of_ble_eq_true rfl) rfl ?_
        refine zs_goto (pc := 109) (off := (-73)) (tgt := 36) C (by decide +kernel) (by decide) ?_
        exact zs_goj (hK6 (t9.1, t9.2, w32 (t5.2.2 + 1))) ⟨rfl, rfl, rfl, rfl, rfl, rfl, trivial⟩
      · refine zs_if_eq (pc := 57) (off := 49) (tgt := 106) C (by decide +kernel) (by decide) ?_ ?_
        · exact zs_goj (hJ10 (t5.1, t5.2.1)) ⟨rfl, rfl, rfl, rfl, rfl, rfl, trivial⟩
        · refine zs_aload_n (pc := 60) (k := 0) (i := 0) C (by decide +kernel) rfl rfl ?_
          refine zs_iload_n (pc := 61) (k := 1) (i := 1) C (by decide +kernel) rfl rfl ?_
          refine zs_iload_n (pc := 62) (k := 2) (i := 2) C (by decide +kernel) rfl rfl ?_
          refine zs_aload_n (pc := 63) (k := 0) (i := 0) C (by decide +kernel) rfl rfl ?_
          refine zs_getR (o' := 19) (pc := 64) (i := 12) (ci := 0) (k := 0) C (by decide +kernel) fl_RX0_12 rfl rfl rfl ?_
          refine zs_getR (o' := 20) (pc := 67) (i := 72) (ci := 10) (k := 0) C (by decide +kernel) fl_RX0_72 rfl rfl rfl ?_
          refine zs_getI (pc := 70) (i := 76) (ci := 3) (k := 3) C (by decide +kernel) fl_RX0_76 rfl rfl (fun x11 => ?_)
          refine zs_iconst (pc := 73) (n := 1) (x := 1) C (by decide +kernel) (by decide +kernel) ?_
          refine zs_iload (pc := 74) (i := 6) C (by decide +kernel) rfl ?_
          refine zs_ishl (pc := 76) C (by decide +kernel) ?_
          refine zs_iconst (pc := 77) (n := (-1)) (x := (-1)) C (by decide +kernel) (by decide +kernel) ?_
          refine zs_ixor (pc := 78) C (by decide +kernel) ?_
          refine zs_iand (pc := 79) C (by decide +kernel) ?_
          refine zs_cvWi (pc := 80) (As := [sI a0, sI a1, sI (iand x11 (ixor (ishl 1 t5.2.2) ((-1))))]) (st := []) C (fun _ _ _ => rfl) (Or.inl rfl) (c_X0_hoursTo l g a0 a1 (iand x11 (ixor (ishl 1 t5.2.2) ((-1))))) ml_RX0_182 rfl rfl rfl rfl (Nat.le_of_ble_eq_true rfl) ⟨Nat.le_of_ble_eq_true rfl, Nat.le_of_ble_eq_true rfl⟩ ⟨Nat.le_of_ble_eq_true rfl, Nat.le_of_ble_eq_true rfl⟩ (by decide +kernel) (fun x12 => ?_)
          refine zs_istore (pc := 83) (i := 7) (ls' := [(7, sI x12), (0, sR 18), (1, sI a0), (2, sI a1), (4, sI t5.1), (5, sI t5.2.1), (6, sI t5.2.2)]) C (by decide +kernel) (Nat.le_of_ble_eq_true rfl) rfl ?_
          refine zs_iload (pc := 85) (i := 7) C (by decide +kernel) rfl ?_
          refine zs_iconst (pc := 87) (n := (-1)) (x := (-1)) C (by decide +kernel) (by decide +kernel) ?_
          refine zs_icmp_eq (pc := 88) (off := 18) (tgt := 106) C (by decide +kernel) (by decide) ?_ ?_
          · exact zs_goj (hJ10 (t5.1, t5.2.1)) ⟨rfl, rfl, rfl, rfl, rfl, rfl, trivial⟩
          · refine zs_iload (pc := 91) (i := 7) C (by decide +kernel) rfl ?_
            refine zs_iload (pc := 93) (i := 4) C (by decide +kernel) rfl ?_
            refine zs_icmp_ge (pc := 95) (off := 11) (tgt := 106) C (by decide +kernel) (by decide) ?_ ?_
            · exact zs_goj (hJ10 (t5.1, t5.2.1)) ⟨rfl, rfl, rfl, rfl, rfl, rfl, trivial⟩
            · refine zs_iload (pc := 98) (i := 7) C (by decide +kernel) rfl ?_
              refine zs_istore (pc := 100) (i := 4) (ls' := [(4, sI x12), (7, sI x12), (0, sR 18), (1, sI a0), (2, sI a1), (5, sI t5.2.1), (6, sI t5.2.2)]) C (by decide +kernel) (Nat.le_of_ble_eq_true rfl) rfl ?_
              refine zs_iload (pc := 102) (i := 6) C (by decide +kernel) rfl ?_
              refine zs_istore (pc := 104) (i := 5) (ls' := [(5, sI t5.2.2), (4, sI x12), (7, sI x12), (0, sR 18), (1, sI a0), (2, sI a1), (6, sI t5.2.2)]) C (by decide +kernel) (Nat.le_of_ble_eq_true rfl) rfl ?_
              exact zs_goj (hJ10 (x12, t5.2.2)) ⟨rfl, rfl, rfl, rfl, rfl, rfl, trivial⟩
  · refine zs_icmp_ne (pc := 19) (off := 8) (tgt := 27) C (by decide +kernel) (by decide) ?_ ?_
    · refine zs_iload_n (pc := 27) (k := 3) (i := 3) C (by decide +kernel) rfl rfl ?_
      exact zs_goj (hJ4 x2) ⟨rfl, rfl, rfl, trivial⟩
    · refine zs_bipush (pc := 22) (n := 41) (x := 41) C (by decide +kernel) (by decide +kernel) ?_
      refine zs_goto (pc := 24) (off := 4) (tgt := 28) C (by decide +kernel) (by decide) ?_
      exact zs_goj (hJ4 41) ⟨rfl, rfl, rfl, trivial⟩
set_option maxRecDepth 20000 in
theorem c_X1_errandsAt (l : Launch) (g : GC) (a0 : Int) : ConR l g yX1_errandsAt cX1_errandsAt 4 (some .int) (rmd 1 0 0) [sR 100, sI a0] (fun mm => fX1_errandsAt a0 mm) := by
  refine zs_ofR (by decide +kernel) (Nat.le_of_ble_eq_true rfl) ?_
  intro p e s m args below meth c C hr
  replace C : Bd g RX1 cX1_errandsAt 4 p s m args meth c := C
  unfold fX1_errandsAt
  refine zs_iconst (pc := 0) (n := 0) (x := 0) C (by decide +kernel) (by decide +kernel) ?_
  refine zs_istore_n (pc := 1) (k := 2) (i := 2) (ls' := [(2, sI 0), (0, sR 100), (1, sI a0)]) C (by decide +kernel) rfl (Nat.le_of_ble_eq_true rfl) rfl ?_
  refine zs_iconst (pc := 2) (n := 0) (x := 0) C (by decide +kernel) (by decide +kernel) ?_
  refine zs_istore_n (pc := 3) (k := 3) (i := 3) (ls' := [(3, sI 0), (2, sI 0), (0, sR 100), (1, sI a0)]) C (by decide +kernel) rfl (Nat.le_of_ble_eq_true rfl) rfl ?_
  refine zs_sub (ls' := [(0, sR 100), (1, sI a0), (2, sI 0), (3, sI 0)]) ⟨rfl, rfl, rfl, rfl, trivial⟩ ?_
  refine zs_lp (pc := 4) (fun (t1 : Int × Int) => [(0, sR 100), (1, sI a0), (2, sI t1.1), (3, sI t1.2)]) (fun _ => []) (fun K2 hK2 t1 => ?_) BIG (0, 0)
  refine zs_iload_n (pc := 4) (k := 3) (i := 3) C (by decide +kernel) rfl rfl ?_
  refine zs_aload_n (pc := 5) (k := 0) (i := 0) C (by decide +kernel) rfl rfl ?_
  refine zs_getI (pc := 6) (i := 15) (ci := 1) (k := 1) C (by decide +kernel) fl_RX1_15 rfl rfl (fun x3 => ?_)
  refine zs_icmp_ge (pc := 9) (off := 29) (tgt := 38) C (by decide +kernel) (by decide) ?_ ?_
  · refine zs_iload_n (pc := 38) (k := 2) (i := 2) C (by decide +kernel) rfl rfl ?_
    exact zs_retRi (pc := 39) C hr ⟨Nat.le_of_ble_eq_true rfl, Nat.le_of_ble_eq_true rfl⟩ (by decide +kernel)
  · refine zs_iload_n (pc := 12) (k := 2) (i := 2) C (by decide +kernel) rfl rfl ?_
    refine zs_aload_n (pc := 13) (k := 0) (i := 0) C (by decide +kernel) rfl rfl ?_
    refine zs_getR (o' := 101) (pc := 14) (i := 11) (ci := 1) (k := 0) C (by decide +kernel) fl_RX1_11 rfl rfl rfl ?_
    refine zs_iload_n (pc := 17) (k := 3) (i := 3) C (by decide +kernel) rfl rfl ?_
    refine zs_iald (pc := 18) (o := 101) (n := 4) C (by decide +kernel) rfl (fun hinx4 x4 => ?_)
    refine zs_iload_n (pc := 19) (k := 1) (i := 1) C (by decide +kernel) rfl rfl ?_
    refine zs_jn (pJ := 30) (kJ := 0) (sJ := 0) (fun t5 => [(0, sR 100), (1, sI a0), (3, sI t1.2)]) (fun t5 => [sI t5, sI t1.1]) (fun t5 => ?_) (fun J6 hJ6 => ?_)
    · refine zs_ior (pc := 30) C (by decide +kernel) ?_
      refine zs_let (fun x7 => ?_)
      refine zs_istore_n (pc := 31) (k := 2) (i := 2) (ls' := [(2, sI x7), (0, sR 100), (1, sI a0), (3, sI t1.2)]) C (by decide +kernel) rfl (Nat.le_of_ble_eq_true rfl) rfl ?_
      refine zs_iinc (pc := 32) (i := 3) (n := 1) (y := w32 (t1.2 + 1)) (ls' := [(3, sI (w32 (t1.2 + 1))), (2, sI x7), (0, sR 100), (1, sI a0)]) C (by decide +kernel) rfl rfl (Nat.le_of_ble_eq_true rfl) rfl ?_
      refine zs_goto (pc := 35) (off := (-31)) (tgt := 4) C (by decide +kernel) (by decide) ?_
      exact zs_goj (hK2 (x7, w32 (t1.2 + 1))) ⟨rfl, rfl, rfl, rfl, trivial⟩
    · refine zs_icmp_ne (pc := 20) (off := 9) (tgt := 29) C (by decide +kernel) (by decide) ?_ ?_
      · refine zs_iconst (pc := 29) (n := 0) (x := 0) C (by decide +kernel) (by decide +kernel) ?_
        exact zs_goj (hJ6 0) ⟨rfl, rfl, rfl, trivial⟩
      · refine zs_iconst (pc := 23) (n := 1) (x := 1) C (by decide +kernel) (by decide +kernel) ?_
        refine zs_iload_n (pc := 24) (k := 3) (i := 3) C (by decide +kernel) rfl rfl ?_
        refine zs_ishl (pc := 25) C (by decide +kernel) ?_
        refine zs_goto (pc := 26) (off := 4) (tgt := 30) C (by decide +kernel) (by decide) ?_
        exact zs_goj (hJ6 (ishl 1 t1.2)) ⟨rfl, rfl, rfl, trivial⟩
set_option maxRecDepth 20000 in
theorem c_X1_sortArrived (l : Launch) (g : GC) (a0 : Int) (a1 : Nat) (n1 : Nat) (h1_ : layL[a1]? = some (.inr (0, n1))) : ConV l g yX1_sortArrived cX1_sortArrived 9 (rmd 2 0 0) [sR 100, sI a0, sR a1] (fun mm => fX1_sortArrived a0 a1 n1 mm) := by
  refine zs_ofV (by decide +kernel) (Nat.le_of_ble_eq_true rfl) ?_
  intro p e s m args below meth c C hr
  replace C : Bd g RX1 cX1_sortArrived 9 p s m args meth c := C
  unfold fX1_sortArrived
  refine zs_iconst (pc := 0) (n := 0) (x := 0) C (by decide +kernel) (by decide +kernel) ?_
  refine zs_istore_n (pc := 1) (k := 3) (i := 3) (ls' := [(3, sI 0), (0, sR 100), (1, sI a0), (2, sR a1)]) C (by decide +kernel) rfl (Nat.le_of_ble_eq_true rfl) rfl ?_
  refine zs_sub (ls' := [(0, sR 100), (1, sI a0), (2, sR a1), (3, sI 0)]) ⟨rfl, rfl, rfl, rfl, trivial⟩ ?_
  refine zs_lp (pc := 2) (fun (t1 : Int) => [(0, sR 100), (1, sI a0), (2, sR a1), (3, sI t1)]) (fun _ => []) (fun K2 hK2 t1 => ?_) BIG 0
  refine zs_iload_n (pc := 2) (k := 3) (i := 3) C (by decide +kernel) rfl rfl ?_
  refine zs_bipush (pc := 3) (n := 25) (x := 25) C (by decide +kernel) (by decide +kernel) ?_
  refine zs_icmp_ge (pc := 5) (off := 129) (tgt := 134) C (by decide +kernel) (by decide) ?_ ?_
  · exact zs_retVv (pc := 134) C hr ⟨Nat.le_of_ble_eq_true rfl, Nat.le_of_ble_eq_true rfl⟩ (by decide +kernel)
  · refine zs_aload_n (pc := 8) (k := 0) (i := 0) C (by decide +kernel) rfl rfl ?_
    refine zs_getR (o' := 104) (pc := 9) (i := 25) (ci := 1) (k := 4) C (by decide +kernel) fl_RX1_25 rfl rfl rfl ?_
    refine zs_iload_n (pc := 12) (k := 3) (i := 3) C (by decide +kernel) rfl rfl ?_
    refine zs_iald (pc := 13) (o := 104) (n := 25) C (by decide +kernel) rfl (fun hinx3 x3 => ?_)
    refine zs_istore (pc := 14) (i := 4) (ls' := [(4, sI x3), (0, sR 100), (1, sI a0), (2, sR a1), (3, sI t1)]) C (by decide +kernel) (Nat.le_of_ble_eq_true rfl) rfl ?_
    refine zs_iload (pc := 16) (i := 4) C (by decide +kernel) rfl ?_
    refine zs_jn (pJ := 128) (kJ := 0) (sJ := 0) (fun t4 => [(0, sR 100), (1, sI a0), (2, sR a1), (3, sI t1)]) (fun t4 => []) (fun t4 => ?_) (fun J5 hJ5 => ?_)
    · refine zs_iinc (pc := 128) (i := 3) (n := 1) (y := w32 (t1 + 1)) (ls' := [(3, sI (w32 (t1 + 1))), (0, sR 100), (1, sI a0), (2, sR a1)]) C (by decide +kernel) rfl rfl (Nat.le_of_ble_eq_true rfl) rfl ?_
      refine zs_goto (pc := 131) (off := (-129)) (tgt := 2) C (by decide +kernel) (by decide) ?_
      exact zs_goj (hK2 (w32 (t1 + 1))) ⟨rfl, rfl, rfl, rfl, trivial⟩
    · refine zs_if_eq (pc := 18) (off := 110) (tgt := 128) C (by decide +kernel) (by decide) ?_ ?_
      · exact zs_goj (hJ5 ()) ⟨rfl, rfl, rfl, rfl, trivial⟩
      · refine zs_iload_n (pc := 21) (k := 1) (i := 1) C (by decide +kernel) rfl rfl ?_
        refine zs_aload_n (pc := 22) (k := 0) (i := 0) C (by decide +kernel) rfl rfl ?_
        refine zs_iload_n (pc := 23) (k := 3) (i := 3) C (by decide +kernel) rfl rfl ?_
        refine zs_cvRi (pc := 24) (As := [sI t1]) (st := [sI a0]) C (Or.inl rfl) (c_X1_errandsAt l g t1) ml_RX1_66 rfl rfl rfl rfl (Nat.le_of_ble_eq_true rfl) ⟨Nat.le_of_ble_eq_true rfl, Nat.le_of_ble_eq_true rfl⟩ ⟨Nat.le_of_ble_eq_true rfl, Nat.le_of_ble_eq_true rfl⟩ (by decide +kernel) (fun x6 => ?_)
        refine zs_ior (pc := 27) C (by decide +kernel) ?_
        refine zs_let (fun x7 => ?_)
        refine zs_istore (pc := 28) (i := 5) (ls' := [(5, sI x7), (4, sI x3), (0, sR 100), (1, sI a0), (2, sR a1), (3, sI t1)]) C (by decide +kernel) (Nat.le_of_ble_eq_true rfl) rfl ?_
        refine zs_aload_n (pc := 30) (k := 2) (i := 2) C (by decide +kernel) rfl rfl ?_
        refine zs_iload (pc := 31) (i := 5) C (by decide +kernel) rfl ?_
        refine zs_bipush (pc := 33) (n := 25) (x := 25) C (by decide +kernel) (by decide +kernel) ?_
        refine zs_imul (pc := 35) C (by decide +kernel) ?_
        refine zs_iload_n (pc := 36) (k := 3) (i := 3) C (by decide +kernel) rfl rfl ?_
        refine zs_iadd (pc := 37) C (by decide +kernel) ?_
        refine zs_dup2 (pc := 38) C rfl rfl (by decide +kernel) ?_
        refine zs_iald (pc := 39) (o := a1) (n := n1) C (by decide +kernel) h1_ (fun hinx8 x8 => ?_)
        refine zs_iload (pc := 40) (i := 4) C (by decide +kernel) rfl ?_
        refine zs_aload_n (pc := 42) (k := 0) (i := 0) C (by decide +kernel) rfl rfl ?_
        refine zs_getI (pc := 43) (i := 28) (ci := 1) (k := 5) C (by decide +kernel) fl_RX1_28 rfl rfl (fun x9 => ?_)
        refine zs_iconst (pc := 46) (n := (-1)) (x := (-1)) C (by decide +kernel) (by decide +kernel) ?_
        refine zs_ixor (pc := 47) C (by decide +kernel) ?_
        refine zs_iand (pc := 48) C (by decide +kernel) ?_
        refine zs_ior (pc := 49) C (by decide +kernel) ?_
        refine zs_iast (pc := 50) (o := a1) (n := n1) C (fun _ _ _ => rfl) (by decide +kernel) h1_ ?_
        refine zs_iconst (pc := 51) (n := 0) (x := 0) C (by decide +kernel) (by decide +kernel) ?_
        refine zs_istore (pc := 52) (i := 6) (ls' := [(6, sI 0), (5, sI x7), (4, sI x3), (0, sR 100), (1, sI a0), (2, sR a1), (3, sI t1)]) C (by decide +kernel) (Nat.le_of_ble_eq_true rfl) rfl ?_
        refine zs_sub (ls' := [(0, sR 100), (1, sI a0), (2, sR a1), (3, sI t1), (4, sI x3), (5, sI x7), (6, sI 0)]) ⟨rfl, rfl, rfl, rfl, rfl, rfl, rfl, trivial⟩ ?_
        refine zs_lp (pc := 54) (fun (t10 : Int) => [(0, sR 100), (1, sI a0), (2, sR a1), (3, sI t1), (4, sI x3), (5, sI x7), (6, sI t10)]) (fun _ => []) (fun K11 hK11 t10 => ?_) BIG 0
        refine zs_iload (pc := 54) (i := 6) C (by decide +kernel) rfl ?_
        refine zs_aload_n (pc := 56) (k := 0) (i := 0) C (by decide +kernel) rfl rfl ?_
        refine zs_getI (pc := 57) (i := 15) (ci := 1) (k := 1) C (by decide +kernel) fl_RX1_15 rfl rfl (fun x12 => ?_)
        refine zs_icmp_ge (pc := 60) (off := 68) (tgt := 128) C (by decide +kernel) (by decide) ?_ ?_
        · exact zs_goj (hJ5 ()) ⟨rfl, rfl, rfl, rfl, trivial⟩
        · refine zs_aload_n (pc := 63) (k := 0) (i := 0) C (by decide +kernel) rfl rfl ?_
          refine zs_getR (o' := 101) (pc := 64) (i := 11) (ci := 1) (k := 0) C (by decide +kernel) fl_RX1_11 rfl rfl rfl ?_
          refine zs_iload (pc := 67) (i := 6) C (by decide +kernel) rfl ?_
          refine zs_iald (pc := 69) (o := 101) (n := 4) C (by decide +kernel) rfl (fun hinx13 x13 => ?_)
          refine zs_bipush (pc := 70) (n := 100) (x := 100) C (by decide +kernel) (by decide +kernel) ?_
          refine zs_isub (pc := 72) C (by decide +kernel) ?_
          refine zs_let (fun x14 => ?_)
          refine zs_istore (pc := 73) (i := 7) (ls' := [(7, sI x14), (0, sR 100), (1, sI a0), (2, sR a1), (3, sI t1), (4, sI x3), (5, sI x7), (6, sI t10)]) C (by decide +kernel) (Nat.le_of_ble_eq_true rfl) rfl ?_
          refine zs_iload (pc := 75) (i := 7) C (by decide +kernel) rfl ?_
          refine zs_jn (pJ := 122) (kJ := 0) (sJ := 0) (fun t15 => [(0, sR 100), (1, sI a0), (2, sR a1), (3, sI t1), (4, sI x3), (5, sI x7), (6, sI t10)]) (fun t15 => []) (fun t15 => ?_) (fun J16 hJ16 => ?_)
          · refine zs_iinc (pc := 122) (i := 6) (n := 1) (y := w32 (t10 + 1)) (ls' := [(6, sI (w32 (t10 + 1))), (0, sR 100), (1, sI a0), (2, sR a1), (3, sI t1), (4, sI x3), (5, sI x7)]) C (by decide +kernel) rfl rfl (Nat.le_of_ble_eq_true rfl) rfl ?_
            refine zs_goto (pc := 125) (off := (-71)) (tgt := 54) C (by decide +kernel) (by decide) ?_
            exact zs_goj (hK11 (w32 (t10 + 1))) ⟨rfl, rfl, rfl, rfl, rfl, rfl, rfl, trivial⟩
          · refine zs_if_lt (pc := 77) (off := 45) (tgt := 122) C (by decide +kernel) (by decide) ?_ ?_
            · exact zs_goj (hJ16 ()) ⟨rfl, rfl, rfl, rfl, rfl, rfl, rfl, trivial⟩
            · refine zs_iload (pc := 80) (i := 4) C (by decide +kernel) rfl ?_
              refine zs_iload (pc := 82) (i := 7) C (by decide +kernel) rfl ?_
              refine zs_iushr (pc := 84) C (by decide +kernel) ?_
              refine zs_iconst (pc := 85) (n := 1) (x := 1) C (by decide +kernel) (by decide +kernel) ?_
              refine zs_iand (pc := 86) C (by decide +kernel) ?_
              refine zs_if_eq (pc := 87) (off := 35) (tgt := 122) C (by decide +kernel) (by decide) ?_ ?_
              · exact zs_goj (hJ16 ()) ⟨rfl, rfl, rfl, rfl, rfl, rfl, rfl, trivial⟩
              · refine zs_iload (pc := 90) (i := 5) C (by decide +kernel) rfl ?_
                refine zs_aload_n (pc := 92) (k := 0) (i := 0) C (by decide +kernel) rfl rfl ?_
                refine zs_aload_n (pc := 93) (k := 0) (i := 0) C (by decide +kernel) rfl rfl ?_
                refine zs_getR (o' := 101) (pc := 94) (i := 11) (ci := 1) (k := 0) C (by decide +kernel) fl_RX1_11 rfl rfl rfl ?_
                refine zs_iload (pc := 97) (i := 6) C (by decide +kernel) rfl ?_
                refine zs_iald (pc := 99) (o := 101) (n := 4) C (by decide +kernel) rfl (fun hinx17 x17 => ?_)
                refine zs_cvRi (pc := 100) (As := [sI x17]) (st := [sI x7]) C (Or.inl rfl) (c_X1_errandsAt l g x17) ml_RX1_66 rfl rfl rfl rfl (Nat.le_of_ble_eq_true rfl) ⟨Nat.le_of_ble_eq_true rfl, Nat.le_of_ble_eq_true rfl⟩ ⟨Nat.le_of_ble_eq_true rfl, Nat.le_of_ble_eq_true rfl⟩ (by decide +kernel) (fun x18 => ?_)
                refine zs_ior (pc := 103) C (by decide +kernel) ?_
                refine zs_let (fun x19 => ?_)
                refine zs_istore (pc := 104) (i := 8) (ls' := [(8, sI x19), (7, sI x14), (0, sR 100), (1, sI a0), (2, sR a1), (3, sI t1), (4, sI x3), (5, sI x7), (6, sI t10)]) C (by decide +kernel) (Nat.le_of_ble_eq_true rfl) rfl ?_
                refine zs_aload_n (pc := 106) (k := 2) (i := 2) C (by decide +kernel) rfl rfl ?_
                refine zs_iload (pc := 107) (i := 8) C (by decide +kernel) rfl ?_
                refine zs_bipush (pc := 109) (n := 25) (x := 25) C (by decide +kernel) (by decide +kernel) ?_
                refine zs_imul (pc := 111) C (by decide +kernel) ?_
                refine zs_iload_n (pc := 112) (k := 3) (i := 3) C (by decide +kernel) rfl rfl ?_
                refine zs_iadd (pc := 113) C (by decide +kernel) ?_
                refine zs_dup2 (pc := 114) C rfl rfl (by decide +kernel) ?_
                refine zs_iald (pc := 115) (o := a1) (n := n1) C (by decide +kernel) h1_ (fun hinx20 x20 => ?_)
                refine zs_iconst (pc := 116) (n := 1) (x := 1) C (by decide +kernel) (by decide +kernel) ?_
                refine zs_iload (pc := 117) (i := 7) C (by decide +kernel) rfl ?_
                refine zs_ishl (pc := 119) C (by decide +kernel) ?_
                refine zs_ior (pc := 120) C (by decide +kernel) ?_
                refine zs_iast (pc := 121) (o := a1) (n := n1) C (fun _ _ _ => rfl) (by decide +kernel) h1_ ?_
                exact zs_goj (hJ16 ()) ⟨rfl, rfl, rfl, rfl, rfl, rfl, rfl, trivial⟩
set_option maxRecDepth 20000 in
theorem c_X1_start (l : Launch) (g : GC)  : ConV l g yX1_start cX1_start 3 (rmd 3 0 0) [sR 100, sR 18] (fun mm => fX1_start  mm) := by
  refine zs_ofV (by decide +kernel) (Nat.le_of_ble_eq_true rfl) ?_
  intro p e s m args below meth c C hr
  replace C : Bd g RX1 cX1_start 3 p s m args meth c := C
  unfold fX1_start
  refine zs_aload_n (pc := 0) (k := 0) (i := 0) C (by decide +kernel) rfl rfl ?_
  refine zs_iconst (pc := 1) (n := 0) (x := 0) C (by decide +kernel) (by decide +kernel) ?_
  refine zs_putI (pc := 2) (i := 28) (ci := 1) (k := 5) C (fun _ _ _ => rfl) (by decide +kernel) fl_RX1_28 fw_1_5 rfl rfl ?_
  refine zs_iconst (pc := 5) (n := 0) (x := 0) C (by decide +kernel) (by decide +kernel) ?_
  refine zs_istore_n (pc := 6) (k := 2) (i := 2) (ls' := [(2, sI 0), (0, sR 100), (1, sR 18)]) C (by decide +kernel) rfl (Nat.le_of_ble_eq_true rfl) rfl ?_
  refine zs_sub (ls' := [(0, sR 100), (1, sR 18), (2, sI 0)]) ⟨rfl, rfl, rfl, trivial⟩ ?_
  refine zs_lp (pc := 7) (fun (t1 : Int) => [(0, sR 100), (1, sR 18), (2, sI t1)]) (fun _ => []) (fun K2 hK2 t1 => ?_) BIG 0
  refine zs_iload_n (pc := 7) (k := 2) (i := 2) C (by decide +kernel) rfl rfl ?_
  refine zs_aload_n (pc := 8) (k := 0) (i := 0) C (by decide +kernel) rfl rfl ?_
  refine zs_getI (pc := 9) (i := 15) (ci := 1) (k := 1) C (by decide +kernel) fl_RX1_15 rfl rfl (fun x3 => ?_)
  refine zs_icmp_ge (pc := 12) (off := 44) (tgt := 56) C (by decide +kernel) (by decide) ?_ ?_
  · refine zs_aload_n (pc := 56) (k := 0) (i := 0) C (by decide +kernel) rfl rfl ?_
    refine zs_getM (pc := 57) (i := 19) (ci := 1) (k := 2) C (by decide +kernel) fl_RX1_19 rfl rfl (fun x4 => ?_)
    refine zs_need (fun hx4 => ?_)
    refine zs_iconst (pc := 60) (n := 0) (x := 0) C (by decide +kernel) (by decide +kernel) ?_
    refine zs_csVv (pc := 61) (As := [sR x4, sI 0]) (st := []) C (fun _ _ _ => rfl) (c_J7_fill_53178 l g x4 400 0 hx4) ml_RX1_43 rfl rfl (Nat.le_of_ble_eq_true rfl) ⟨Nat.le_of_ble_eq_true rfl, Nat.le_of_ble_eq_true rfl⟩ ⟨Nat.le_of_ble_eq_true rfl, Nat.le_of_ble_eq_true rfl⟩ (by decide +kernel) ?_
    refine zs_aload_n (pc := 64) (k := 0) (i := 0) C (by decide +kernel) rfl rfl ?_
    refine zs_getR (o' := 104) (pc := 65) (i := 25) (ci := 1) (k := 4) C (by decide +kernel) fl_RX1_25 rfl rfl rfl ?_
    refine zs_iconst (pc := 68) (n := 0) (x := 0) C (by decide +kernel) (by decide +kernel) ?_
    refine zs_csVv (pc := 69) (As := [sR 104, sI 0]) (st := []) C (fun _ _ _ => rfl) (c_J7_fill_53178 l g 104 25 0 rfl) ml_RX1_43 rfl rfl (Nat.le_of_ble_eq_true rfl) ⟨Nat.le_of_ble_eq_true rfl, Nat.le_of_ble_eq_true rfl⟩ ⟨Nat.le_of_ble_eq_true rfl, Nat.le_of_ble_eq_true rfl⟩ (by decide +kernel) ?_
    refine zs_aload_n (pc := 72) (k := 0) (i := 0) C (by decide +kernel) rfl rfl ?_
    refine zs_getR (o' := 104) (pc := 73) (i := 25) (ci := 1) (k := 4) C (by decide +kernel) fl_RX1_25 rfl rfl rfl ?_
    refine zs_aload_n (pc := 76) (k := 1) (i := 1) C (by decide +kernel) rfl rfl ?_
    refine zs_cvRi (pc := 77) (As := []) (st := [sR 104]) C (Or.inl rfl) (c_X0_startFirst l g ) ml_RX1_49 rfl rfl rfl rfl (Nat.le_of_ble_eq_true rfl) ⟨Nat.le_of_ble_eq_true rfl, Nat.le_of_ble_eq_true rfl⟩ ⟨Nat.le_of_ble_eq_true rfl, Nat.le_of_ble_eq_true rfl⟩ (by decide +kernel) (fun x5 => ?_)
    refine zs_iconst (pc := 80) (n := 1) (x := 1) C (by decide +kernel) (by decide +kernel) ?_
    refine zs_aload_n (pc := 81) (k := 1) (i := 1) C (by decide +kernel) rfl rfl ?_
    refine zs_cvRi (pc := 82) (As := []) (st := [sI 1, sI x5, sR 104]) C (Or.inl rfl) (c_X0_startSecond l g ) ml_RX1_55 rfl rfl rfl rfl (Nat.le_of_ble_eq_true rfl) ⟨Nat.le_of_ble_eq_true rfl, Nat.le_of_ble_eq_true rfl⟩ ⟨Nat.le_of_ble_eq_true rfl, Nat.le_of_ble_eq_true rfl⟩ (by decide +kernel) (fun x6 => ?_)
    refine zs_ishl (pc := 85) C (by decide +kernel) ?_
    refine zs_iast (pc := 86) (o := 104) (n := 25) C (fun _ _ _ => rfl) (by decide +kernel) rfl ?_
    refine zs_aload_n (pc := 87) (k := 0) (i := 0) C (by decide +kernel) rfl rfl ?_
    refine zs_iconst (pc := 88) (n := 0) (x := 0) C (by decide +kernel) (by decide +kernel) ?_
    refine zs_aload_n (pc := 89) (k := 0) (i := 0) C (by decide +kernel) rfl rfl ?_
    refine zs_getM (pc := 90) (i := 19) (ci := 1) (k := 2) C (by decide +kernel) fl_RX1_19 rfl rfl (fun x7 => ?_)
    refine zs_need (fun hx7 => ?_)
    refine zs_cvVv (pc := 93) (As := [sI 0, sR x7]) (st := []) C (fun _ _ _ => rfl) (c_X1_sortArrived l g 0 x7 400 hx7) ml_RX1_58 rfl rfl rfl rfl (Nat.le_of_ble_eq_true rfl) ⟨Nat.le_of_ble_eq_true rfl, Nat.le_of_ble_eq_true rfl⟩ ⟨Nat.le_of_ble_eq_true rfl, Nat.le_of_ble_eq_true rfl⟩ (by decide +kernel) ?_
    exact zs_retVv (pc := 96) C hr ⟨Nat.le_of_ble_eq_true rfl, Nat.le_of_ble_eq_true rfl⟩ (by decide +kernel)
  · refine zs_aload_n (pc := 15) (k := 0) (i := 0) C (by decide +kernel) rfl rfl ?_
    refine zs_dup (pc := 16) C rfl (by decide +kernel) ?_
    refine zs_getI (pc := 17) (i := 28) (ci := 1) (k := 5) C (by decide +kernel) fl_RX1_28 rfl rfl (fun x8 => ?_)
    refine zs_aload_n (pc := 20) (k := 0) (i := 0) C (by decide +kernel) rfl rfl ?_
    refine zs_getR (o' := 101) (pc := 21) (i := 11) (ci := 1) (k := 0) C (by decide +kernel) fl_RX1_11 rfl rfl rfl ?_
    refine zs_iload_n (pc := 24) (k := 2) (i := 2) C (by decide +kernel) rfl rfl ?_
    refine zs_iald (pc := 25) (o := 101) (n := 4) C (by decide +kernel) rfl (fun hinx9 x9 => ?_)
    refine zs_bipush (pc := 26) (n := 100) (x := 100) C (by decide +kernel) (by decide +kernel) ?_
    refine zs_jn (pJ := 46) (kJ := 0) (sJ := 0) (fun t10 => [(0, sR 100), (1, sR 18), (2, sI t1)]) (fun t10 => [sI t10, sI x8, sR 100]) (fun t10 => ?_) (fun J11 hJ11 => ?_)
    · refine zs_ior (pc := 46) C (by decide +kernel) ?_
      refine zs_putI (pc := 47) (i := 28) (ci := 1) (k := 5) C (fun _ _ _ => rfl) (by decide +kernel) fl_RX1_28 fw_1_5 rfl rfl ?_
      refine zs_iinc (pc := 50) (i := 2) (n := 1) (y := w32 (t1 + 1)) (ls' := [(2, sI (w32 (t1 + 1))), (0, sR 100), (1, sR 18)]) C (by decide +kernel) rfl rfl (Nat.le_of_ble_eq_true rfl) rfl ?_
      refine zs_goto (pc := 53) (off := (-46)) (tgt := 7) C (by decide +kernel) (by decide) ?_
      exact zs_goj (hK2 (w32 (t1 + 1))) ⟨rfl, rfl, rfl, trivial⟩
    · refine zs_icmp_lt (pc := 28) (off := 17) (tgt := 45) C (by decide +kernel) (by decide) ?_ ?_
      · refine zs_iconst (pc := 45) (n := 0) (x := 0) C (by decide +kernel) (by decide +kernel) ?_
        exact zs_goj (hJ11 0) ⟨rfl, rfl, rfl, trivial⟩
      · refine zs_iconst (pc := 31) (n := 1) (x := 1) C (by decide +kernel) (by decide +kernel) ?_
        refine zs_aload_n (pc := 32) (k := 0) (i := 0) C (by decide +kernel) rfl rfl ?_
        refine zs_getR (o' := 101) (pc := 33) (i := 11) (ci := 1) (k := 0) C (by decide +kernel) fl_RX1_11 rfl rfl rfl ?_
        refine zs_iload_n (pc := 36) (k := 2) (i := 2) C (by decide +kernel) rfl rfl ?_
        refine zs_iald (pc := 37) (o := 101) (n := 4) C (by decide +kernel) rfl (fun hinx12 x12 => ?_)
        refine zs_bipush (pc := 38) (n := 100) (x := 100) C (by decide +kernel) (by decide +kernel) ?_
        refine zs_isub (pc := 40) C (by decide +kernel) ?_
        refine zs_ishl (pc := 41) C (by decide +kernel) ?_
        refine zs_goto (pc := 42) (off := 4) (tgt := 46) C (by decide +kernel) (by decide) ?_
        exact zs_goj (hJ11 (ishl 1 (w32 (x12 - 100)))) ⟨rfl, rfl, rfl, trivial⟩
set_option maxRecDepth 20000 in
theorem c_X1_isDone (l : Launch) (g : GC) (a0 : Int) : ConR l g yX1_isDone cX1_isDone 3 (some .boolean) (rmd 1 0 0) [sR 100, sI a0] (fun mm => fX1_isDone a0 mm) := by
  refine zs_ofR (by decide +kernel) (Nat.le_of_ble_eq_true rfl) ?_
  intro p e s m args below meth c C hr
  replace C : Bd g RX1 cX1_isDone 3 p s m args meth c := C
  unfold fX1_isDone
  refine zs_iconst (pc := 0) (n := 0) (x := 0) C (by decide +kernel) (by decide +kernel) ?_
  refine zs_istore_n (pc := 1) (k := 2) (i := 2) (ls' := [(2, sI 0), (0, sR 100), (1, sI a0)]) C (by decide +kernel) rfl (Nat.le_of_ble_eq_true rfl) rfl ?_
  refine zs_sub (ls' := [(0, sR 100), (1, sI a0), (2, sI 0)]) ⟨rfl, rfl, rfl, trivial⟩ ?_
  refine zs_lp (pc := 2) (fun (t1 : Int) => [(0, sR 100), (1, sI a0), (2, sI t1)]) (fun _ => []) (fun K2 hK2 t1 => ?_) BIG 0
  refine zs_iload_n (pc := 2) (k := 2) (i := 2) C (by decide +kernel) rfl rfl ?_
  refine zs_bipush (pc := 3) (n := 25) (x := 25) C (by decide +kernel) (by decide +kernel) ?_
  refine zs_icmp_ge (pc := 5) (off := 25) (tgt := 30) C (by decide +kernel) (by decide) ?_ ?_
  · refine zs_iconst (pc := 30) (n := 0) (x := 0) C (by decide +kernel) (by decide +kernel) ?_
    exact zs_retRz (pc := 31) C (by decide) hr ⟨Nat.le_of_ble_eq_true rfl, Nat.le_of_ble_eq_true rfl⟩ (by decide +kernel)
  · refine zs_aload_n (pc := 8) (k := 0) (i := 0) C (by decide +kernel) rfl rfl ?_
    refine zs_getM (pc := 9) (i := 19) (ci := 1) (k := 2) C (by decide +kernel) fl_RX1_19 rfl rfl (fun x3 => ?_)
    refine zs_need (fun hx3 => ?_)
    refine zs_iload_n (pc := 12) (k := 1) (i := 1) C (by decide +kernel) rfl rfl ?_
    refine zs_bipush (pc := 13) (n := 25) (x := 25) C (by decide +kernel) (by decide +kernel) ?_
    refine zs_imul (pc := 15) C (by decide +kernel) ?_
    refine zs_iload_n (pc := 16) (k := 2) (i := 2) C (by decide +kernel) rfl rfl ?_
    refine zs_iadd (pc := 17) C (by decide +kernel) ?_
    refine zs_iald (pc := 18) (o := x3) (n := 400) C (by decide +kernel) hx3 (fun hinx4 x4 => ?_)
    refine zs_if_eq (pc := 19) (off := 5) (tgt := 24) C (by decide +kernel) (by decide) ?_ ?_
    · refine zs_iinc (pc := 24) (i := 2) (n := 1) (y := w32 (t1 + 1)) (ls' := [(2, sI (w32 (t1 + 1))), (0, sR 100), (1, sI a0)]) C (by decide +kernel) rfl rfl (Nat.le_of_ble_eq_true rfl) rfl ?_
      refine zs_goto (pc := 27) (off := (-25)) (tgt := 2) C (by decide +kernel) (by decide) ?_
      exact zs_goj (hK2 (w32 (t1 + 1))) ⟨rfl, rfl, rfl, trivial⟩
    · refine zs_iconst (pc := 22) (n := 1) (x := 1) C (by decide +kernel) (by decide +kernel) ?_
      exact zs_retRz (pc := 23) C (by decide) hr ⟨Nat.le_of_ble_eq_true rfl, Nat.le_of_ble_eq_true rfl⟩ (by decide +kernel)
set_option maxRecDepth 20000 in
theorem c_X1_goOn (l : Launch) (g : GC) (a1 : Int) : ConW l g yX1_goOn cX1_goOn 5 (some .boolean) (rmd 5 0 0) [sR 100, sR 18, sI a1] (fun mm => fX1_goOn a1 mm) := by
  refine zs_ofW (by decide +kernel) (Nat.le_of_ble_eq_true rfl) ?_
  intro p e s m args below meth c C hr
  replace C : Bd g RX1 cX1_goOn 5 p s m args meth c := C
  unfold fX1_goOn
  refine zs_iconst (pc := 0) (n := 0) (x := 0) C (by decide +kernel) (by decide +kernel) ?_
  refine zs_istore_n (pc := 1) (k := 3) (i := 3) (ls' := [(3, sI 0), (0, sR 100), (1, sR 18), (2, sI a1)]) C (by decide +kernel) rfl (Nat.le_of_ble_eq_true rfl) rfl ?_
  refine zs_aload_n (pc := 2) (k := 0) (i := 0) C (by decide +kernel) rfl rfl ?_
  refine zs_getM (pc := 3) (i := 22) (ci := 1) (k := 3) C (by decide +kernel) fl_RX1_22 rfl rfl (fun x1 => ?_)
  refine zs_need (fun hx1 => ?_)
  refine zs_iconst (pc := 6) (n := 0) (x := 0) C (by decide +kernel) (by decide +kernel) ?_
  refine zs_csVv (pc := 7) (As := [sR x1, sI 0]) (st := []) C (fun _ _ _ => rfl) (c_J7_fill_53178 l g x1 400 0 hx1) ml_RX1_43 rfl rfl (Nat.le_of_ble_eq_true rfl) ⟨Nat.le_of_ble_eq_true rfl, Nat.le_of_ble_eq_true rfl⟩ ⟨Nat.le_of_ble_eq_true rfl, Nat.le_of_ble_eq_true rfl⟩ (by decide +kernel) ?_
  refine zs_iconst (pc := 10) (n := 0) (x := 0) C (by decide +kernel) (by decide +kernel) ?_
  refine zs_istore (pc := 11) (i := 4) (ls' := [(4, sI 0), (3, sI 0), (0, sR 100), (1, sR 18), (2, sI a1)]) C (by decide +kernel) (Nat.le_of_ble_eq_true rfl) rfl ?_
  refine zs_sub (ls' := [(0, sR 100), (1, sR 18), (2, sI a1), (3, sI 0), (4, sI 0)]) ⟨rfl, rfl, rfl, rfl, rfl, trivial⟩ ?_
  refine zs_lp (pc := 13) (fun (t2 : Int × Int) => [(0, sR 100), (1, sR 18), (2, sI a1), (3, sI t2.1), (4, sI t2.2)]) (fun _ => []) (fun K3 hK3 t2 => ?_) BIG (0, 0)
  refine zs_iload (pc := 13) (i := 4) C (by decide +kernel) rfl ?_
  refine zs_iconst (pc := 15) (n := 1) (x := 1) C (by decide +kernel) (by decide +kernel) ?_
  refine zs_aload_n (pc := 16) (k := 0) (i := 0) C (by decide +kernel) rfl rfl ?_
  refine zs_getI (pc := 17) (i := 15) (ci := 1) (k := 1) C (by decide +kernel) fl_RX1_15 rfl rfl (fun x4 => ?_)
  refine zs_ishl (pc := 20) C (by decide +kernel) ?_
  refine zs_icmp_ge (pc := 21) (off := 52) (tgt := 73) C (by decide +kernel) (by decide) ?_ ?_
  · refine zs_aload_n (pc := 73) (k := 0) (i := 0) C (by decide +kernel) rfl rfl ?_
    refine zs_getM (pc := 74) (i := 19) (ci := 1) (k := 2) C (by decide +kernel) fl_RX1_19 rfl rfl (fun x5 => ?_)
    refine zs_need (fun hx5 => ?_)
    refine zs_astore (pc := 77) (i := 4) (ls' := [(4, sR x5), (0, sR 100), (1, sR 18), (2, sI a1), (3, sI t2.1)]) C (by decide +kernel) (Nat.le_of_ble_eq_true rfl) rfl ?_
    refine zs_aload_n (pc := 79) (k := 0) (i := 0) C (by decide +kernel) rfl rfl ?_
    refine zs_aload_n (pc := 80) (k := 0) (i := 0) C (by decide +kernel) rfl rfl ?_
    refine zs_getM (pc := 81) (i := 22) (ci := 1) (k := 3) C (by decide +kernel) fl_RX1_22 rfl rfl (fun x6 => ?_)
    refine zs_need (fun hx6 => ?_)
    refine zs_putM (hty := rfl) (pc := 84) (i := 19) (ci := 1) (k := 2) C (fun _ _ _ => rfl) (by decide +kernel) fl_RX1_19 fw_1_2 rfl rfl ?_
    refine zs_aload_n (pc := 87) (k := 0) (i := 0) C (by decide +kernel) rfl rfl ?_
    refine zs_aload (pc := 88) (i := 4) C (by decide +kernel) rfl ?_
    refine zs_putM (hty := rfl) (pc := 90) (i := 22) (ci := 1) (k := 3) C (fun _ _ _ => rfl) (by decide +kernel) fl_RX1_22 fw_1_3 rfl rfl ?_
    refine zs_iload_n (pc := 93) (k := 3) (i := 3) C (by decide +kernel) rfl rfl ?_
    refine zs_chk (fun _ hx => ?_)
    exact zs_retWz (pc := 94) C hx hr ⟨Nat.le_of_ble_eq_true rfl, Nat.le_of_ble_eq_true rfl⟩ (by decide +kernel)
  · refine zs_aload_n (pc := 24) (k := 0) (i := 0) C (by decide +kernel) rfl rfl ?_
    refine zs_iload (pc := 25) (i := 4) C (by decide +kernel) rfl ?_
    refine zs_cvRi (pc := 27) (As := [sI t2.2]) (st := []) C (Or.inr rfl) (c_X1_isDone l g t2.2) ml_RX1_39 rfl rfl rfl rfl (Nat.le_of_ble_eq_true rfl) ⟨Nat.le_of_ble_eq_true rfl, Nat.le_of_ble_eq_true rfl⟩ ⟨Nat.le_of_ble_eq_true rfl, Nat.le_of_ble_eq_true rfl⟩ (by decide +kernel) (fun x7 => ?_)
    refine zs_jn (pJ := 67) (kJ := 0) (sJ := 0) (fun t8 => [(0, sR 100), (1, sR 18), (2, sI a1), (3, sI t8), (4, sI t2.2)]) (fun t8 => []) (fun t8 => ?_) (fun J9 hJ9 => ?_)
    · refine zs_iinc (pc := 67) (i := 4) (n := 1) (y := w32 (t2.2 + 1)) (ls' := [(4, sI (w32 (t2.2 + 1))), (0, sR 100), (1, sR 18), (2, sI a1), (3, sI t8)]) C (by decide +kernel) rfl rfl (Nat.le_of_ble_eq_true rfl) rfl ?_
      refine zs_goto (pc := 70) (off := (-57)) (tgt := 13) C (by decide +kernel) (by decide) ?_
      exact zs_goj (hK3 (t8, w32 (t2.2 + 1))) ⟨rfl, rfl, rfl, rfl, rfl, trivial⟩
    · refine zs_if_eq (pc := 30) (off := 37) (tgt := 67) C (by decide +kernel) (by decide) ?_ ?_
      · exact zs_goj (hJ9 t2.1) ⟨rfl, rfl, rfl, rfl, rfl, trivial⟩
      · refine zs_aload_n (pc := 33) (k := 1) (i := 1) C (by decide +kernel) rfl rfl ?_
        refine zs_aload_n (pc := 34) (k := 0) (i := 0) C (by decide +kernel) rfl rfl ?_
        refine zs_getM (pc := 35) (i := 19) (ci := 1) (k := 2) C (by decide +kernel) fl_RX1_19 rfl rfl (fun x10 => ?_)
        refine zs_need (fun hx10 => ?_)
        refine zs_iload (pc := 38) (i := 4) C (by decide +kernel) rfl ?_
        refine zs_bipush (pc := 40) (n := 25) (x := 25) C (by decide +kernel) (by decide +kernel) ?_
        refine zs_imul (pc := 42) C (by decide +kernel) ?_
        refine zs_aload_n (pc := 43) (k := 0) (i := 0) C (by decide +kernel) rfl rfl ?_
        refine zs_getR (o' := 104) (pc := 44) (i := 25) (ci := 1) (k := 4) C (by decide +kernel) fl_RX1_25 rfl rfl rfl ?_
        refine zs_iconst (pc := 47) (n := 0) (x := 0) C (by decide +kernel) (by decide +kernel) ?_
        refine zs_iload_n (pc := 48) (k := 2) (i := 2) C (by decide +kernel) rfl rfl ?_
        refine zs_cvWi (pc := 49) (As := [sR x10, sI (w32 (t2.2 * 25)), sR 104, sI 0, sI a1]) (st := []) C (fun _ _ _ => rfl) (Or.inr rfl) (c_X0_stepOn l g x10 400 (w32 (t2.2 * 25)) 104 25 0 a1 hx10 rfl) ml_RX1_62 rfl rfl rfl rfl (Nat.le_of_ble_eq_true rfl) ⟨Nat.le_of_ble_eq_true rfl, Nat.le_of_ble_eq_true rfl⟩ ⟨Nat.le_of_ble_eq_true rfl, Nat.le_of_ble_eq_true rfl⟩ (by decide +kernel) (fun x11 => ?_)
        refine zs_if_eq (pc := 52) (off := 15) (tgt := 67) C (by decide +kernel) (by decide) ?_ ?_
        · exact zs_goj (hJ9 t2.1) ⟨rfl, rfl, rfl, rfl, rfl, trivial⟩
        · refine zs_iconst (pc := 55) (n := 1) (x := 1) C (by decide +kernel) (by decide +kernel) ?_
          refine zs_istore_n (pc := 56) (k := 3) (i := 3) (ls' := [(3, sI 1), (0, sR 100), (1, sR 18), (2, sI a1), (4, sI t2.2)]) C (by decide +kernel) rfl (Nat.le_of_ble_eq_true rfl) rfl ?_
          refine zs_aload_n (pc := 57) (k := 0) (i := 0) C (by decide +kernel) rfl rfl ?_
          refine zs_iload (pc := 58) (i := 4) C (by decide +kernel) rfl ?_
          refine zs_aload_n (pc := 60) (k := 0) (i := 0) C (by decide +kernel) rfl rfl ?_
          refine zs_getM (pc := 61) (i := 22) (ci := 1) (k := 3) C (by decide +kernel) fl_RX1_22 rfl rfl (fun x12 => ?_)
          refine zs_need (fun hx12 => ?_)
          refine zs_cvVv (pc := 64) (As := [sI t2.2, sR x12]) (st := []) C (fun _ _ _ => rfl) (c_X1_sortArrived l g t2.2 x12 400 hx12) ml_RX1_58 rfl rfl rfl rfl (Nat.le_of_ble_eq_true rfl) ⟨Nat.le_of_ble_eq_true rfl, Nat.le_of_ble_eq_true rfl⟩ ⟨Nat.le_of_ble_eq_true rfl, Nat.le_of_ble_eq_true rfl⟩ (by decide +kernel) ?_
          exact zs_goj (hJ9 1) ⟨rfl, rfl, rfl, rfl, rfl, trivial⟩
set_option maxRecDepth 20000 in
theorem c_X1_hoursForAll (l : Launch) (g : GC)  : ConW l g yX1_hoursForAll cX1_hoursForAll 4 (some .int) (rmd 6 0 0) [sR 100, sR 18] (fun mm => fX1_hoursForAll  mm) := by
  refine zs_ofW (by decide +kernel) (Nat.le_of_ble_eq_true rfl) ?_
  intro p e s m args below meth c C hr
  replace C : Bd g RX1 cX1_hoursForAll 4 p s m args meth c := C
  unfold fX1_hoursForAll
  refine zs_iconst (pc := 0) (n := 1) (x := 1) C (by decide +kernel) (by decide +kernel) ?_
  refine zs_aload_n (pc := 1) (k := 0) (i := 0) C (by decide +kernel) rfl rfl ?_
  refine zs_getI (pc := 2) (i := 15) (ci := 1) (k := 1) C (by decide +kernel) fl_RX1_15 rfl rfl (fun x1 => ?_)
  refine zs_ishl (pc := 5) C (by decide +kernel) ?_
  refine zs_iconst (pc := 6) (n := 1) (x := 1) C (by decide +kernel) (by decide +kernel) ?_
  refine zs_isub (pc := 7) C (by decide +kernel) ?_
  refine zs_let (fun x2 => ?_)
  refine zs_istore_n (pc := 8) (k := 2) (i := 2) (ls' := [(2, sI x2), (0, sR 100), (1, sR 18)]) C (by decide +kernel) rfl (Nat.le_of_ble_eq_true rfl) rfl ?_
  refine zs_aload_n (pc := 9) (k := 0) (i := 0) C (by decide +kernel) rfl rfl ?_
  refine zs_aload_n (pc := 10) (k := 1) (i := 1) C (by decide +kernel) rfl rfl ?_
  refine zs_cvVv (pc := 11) (As := [sR 18]) (st := []) C (fun _ _ _ => rfl) (c_X1_start l g ) ml_RX1_31 rfl rfl rfl rfl (Nat.le_of_ble_eq_true rfl) ⟨Nat.le_of_ble_eq_true rfl, Nat.le_of_ble_eq_true rfl⟩ ⟨Nat.le_of_ble_eq_true rfl, Nat.le_of_ble_eq_true rfl⟩ (by decide +kernel) ?_
  refine zs_iconst (pc := 14) (n := 0) (x := 0) C (by decide +kernel) (by decide +kernel) ?_
  refine zs_istore_n (pc := 15) (k := 3) (i := 3) (ls' := [(3, sI 0), (2, sI x2), (0, sR 100), (1, sR 18)]) C (by decide +kernel) rfl (Nat.le_of_ble_eq_true rfl) rfl ?_
  refine zs_sub (ls' := [(0, sR 100), (1, sR 18), (2, sI x2), (3, sI 0)]) ⟨rfl, rfl, rfl, rfl, trivial⟩ ?_
  refine zs_lp (pc := 16) (fun (t3 : Int) => [(0, sR 100), (1, sR 18), (2, sI x2), (3, sI t3)]) (fun _ => []) (fun K4 hK4 t3 => ?_) BIG 0
  refine zs_iload_n (pc := 16) (k := 3) (i := 3) C (by decide +kernel) rfl rfl ?_
  refine zs_bipush (pc := 17) (n := 40) (x := 40) C (by decide +kernel) (by decide +kernel) ?_
  refine zs_icmp_gt (pc := 19) (off := 34) (tgt := 53) C (by decide +kernel) (by decide) ?_ ?_
  · refine zs_iconst (pc := 53) (n := (-1)) (x := (-1)) C (by decide +kernel) (by decide +kernel) ?_
    exact zs_retWi (pc := 54) C hr ⟨Nat.le_of_ble_eq_true rfl, Nat.le_of_ble_eq_true rfl⟩ (by decide +kernel)
  · refine zs_iload_n (pc := 22) (k := 3) (i := 3) C (by decide +kernel) rfl rfl ?_
    refine zs_jn (pJ := 37) (kJ := 0) (sJ := 0) (fun t5 => [(0, sR 100), (1, sR 18), (2, sI x2), (3, sI t3)]) (fun t5 => []) (fun t5 => ?_) (fun J6 hJ6 => ?_)
    · refine zs_aload_n (pc := 37) (k := 0) (i := 0) C (by decide +kernel) rfl rfl ?_
      refine zs_iload_n (pc := 38) (k := 2) (i := 2) C (by decide +kernel) rfl rfl ?_
      refine zs_cvRi (pc := 39) (As := [sI x2]) (st := []) C (Or.inr rfl) (c_X1_isDone l g x2) ml_RX1_39 rfl rfl rfl rfl (Nat.le_of_ble_eq_true rfl) ⟨Nat.le_of_ble_eq_true rfl, Nat.le_of_ble_eq_true rfl⟩ ⟨Nat.le_of_ble_eq_true rfl, Nat.le_of_ble_eq_true rfl⟩ (by decide +kernel) (fun x7 => ?_)
      refine zs_if_eq (pc := 42) (off := 5) (tgt := 47) C (by decide +kernel) (by decide) ?_ ?_
      · refine zs_iinc (pc := 47) (i := 3) (n := 1) (y := w32 (t3 + 1)) (ls' := [(3, sI (w32 (t3 + 1))), (0, sR 100), (1, sR 18), (2, sI x2)]) C (by decide +kernel) rfl rfl (Nat.le_of_ble_eq_true rfl) rfl ?_
        refine zs_goto (pc := 50) (off := (-34)) (tgt := 16) C (by decide +kernel) (by decide) ?_
        exact zs_goj (hK4 (w32 (t3 + 1))) ⟨rfl, rfl, rfl, rfl, trivial⟩
      · refine zs_iload_n (pc := 45) (k := 3) (i := 3) C (by decide +kernel) rfl rfl ?_
        exact zs_retWi (pc := 46) C hr ⟨Nat.le_of_ble_eq_true rfl, Nat.le_of_ble_eq_true rfl⟩ (by decide +kernel)
    · refine zs_if_le (pc := 23) (off := 14) (tgt := 37) C (by decide +kernel) (by decide) ?_ ?_
      · exact zs_goj (hJ6 ()) ⟨rfl, rfl, rfl, rfl, trivial⟩
      · refine zs_aload_n (pc := 26) (k := 0) (i := 0) C (by decide +kernel) rfl rfl ?_
        refine zs_aload_n (pc := 27) (k := 1) (i := 1) C (by decide +kernel) rfl rfl ?_
        refine zs_iload_n (pc := 28) (k := 3) (i := 3) C (by decide +kernel) rfl rfl ?_
        refine zs_cvWi (pc := 29) (As := [sR 18, sI t3]) (st := []) C (fun _ _ _ => rfl) (Or.inr rfl) (c_X1_goOn l g t3) ml_RX1_35 rfl rfl rfl rfl (Nat.le_of_ble_eq_true rfl) ⟨Nat.le_of_ble_eq_true rfl, Nat.le_of_ble_eq_true rfl⟩ ⟨Nat.le_of_ble_eq_true rfl, Nat.le_of_ble_eq_true rfl⟩ (by decide +kernel) (fun x8 => ?_)
        refine zs_if_ne (pc := 32) (off := 5) (tgt := 37) C (by decide +kernel) (by decide) ?_ ?_
        · exact zs_goj (hJ6 ()) ⟨rfl, rfl, rfl, rfl, trivial⟩
        · refine zs_iconst (pc := 35) (n := (-1)) (x := (-1)) C (by decide +kernel) (by decide +kernel) ?_
          exact zs_retWi (pc := 36) C hr ⟨Nat.le_of_ble_eq_true rfl, Nat.le_of_ble_eq_true rfl⟩ (by decide +kernel)
set_option maxRecDepth 20000 in
theorem c_X1_bestDropped (l : Launch) (g : GC)  : ConW l g yX1_bestDropped cX1_bestDropped 5 (some .int) (rmd 6 0 0) [sR 100, sR 18] (fun mm => fX1_bestDropped  mm) := by
  refine zs_ofW (by decide +kernel) (Nat.le_of_ble_eq_true rfl) ?_
  intro p e s m args below meth c C hr
  replace C : Bd g RX1 cX1_bestDropped 5 p s m args meth c := C
  unfold fX1_bestDropped
  refine zs_iconst (pc := 0) (n := 1) (x := 1) C (by decide +kernel) (by decide +kernel) ?_
  refine zs_aload_n (pc := 1) (k := 0) (i := 0) C (by decide +kernel) rfl rfl ?_
  refine zs_getI (pc := 2) (i := 15) (ci := 1) (k := 1) C (by decide +kernel) fl_RX1_15 rfl rfl (fun x1 => ?_)
  refine zs_ishl (pc := 5) C (by decide +kernel) ?_
  refine zs_iconst (pc := 6) (n := 1) (x := 1) C (by decide +kernel) (by decide +kernel) ?_
  refine zs_isub (pc := 7) C (by decide +kernel) ?_
  refine zs_let (fun x2 => ?_)
  refine zs_istore_n (pc := 8) (k := 2) (i := 2) (ls' := [(2, sI x2), (0, sR 100), (1, sR 18)]) C (by decide +kernel) rfl (Nat.le_of_ble_eq_true rfl) rfl ?_
  refine zs_aload_n (pc := 9) (k := 0) (i := 0) C (by decide +kernel) rfl rfl ?_
  refine zs_aload_n (pc := 10) (k := 1) (i := 1) C (by decide +kernel) rfl rfl ?_
  refine zs_cvVv (pc := 11) (As := [sR 18]) (st := []) C (fun _ _ _ => rfl) (c_X1_start l g ) ml_RX1_31 rfl rfl rfl rfl (Nat.le_of_ble_eq_true rfl) ⟨Nat.le_of_ble_eq_true rfl, Nat.le_of_ble_eq_true rfl⟩ ⟨Nat.le_of_ble_eq_true rfl, Nat.le_of_ble_eq_true rfl⟩ (by decide +kernel) ?_
  refine zs_iconst (pc := 14) (n := 0) (x := 0) C (by decide +kernel) (by decide +kernel) ?_
  refine zs_istore_n (pc := 15) (k := 3) (i := 3) (ls' := [(3, sI 0), (2, sI x2), (0, sR 100), (1, sR 18)]) C (by decide +kernel) rfl (Nat.le_of_ble_eq_true rfl) rfl ?_
  refine zs_sub (ls' := [(0, sR 100), (1, sR 18), (2, sI x2), (3, sI 0)]) ⟨rfl, rfl, rfl, rfl, trivial⟩ ?_
  refine zs_lp (pc := 16) (fun (t3 : Int) => [(0, sR 100), (1, sR 18), (2, sI x2), (3, sI t3)]) (fun _ => []) (fun K4 hK4 t3 => ?_) BIG 0
  refine zs_iload_n (pc := 16) (k := 3) (i := 3) C (by decide +kernel) rfl rfl ?_
  refine zs_bipush (pc := 17) (n := 40) (x := 40) C (by decide +kernel) (by decide +kernel) ?_
  refine zs_icmp_gt (pc := 19) (off := 68) (tgt := 87) C (by decide +kernel) (by decide) ?_ ?_
  · refine zs_iconst (pc := 87) (n := (-1)) (x := (-1)) C (by decide +kernel) (by decide +kernel) ?_
    exact zs_retWi (pc := 88) C hr ⟨Nat.le_of_ble_eq_true rfl, Nat.le_of_ble_eq_true rfl⟩ (by decide +kernel)
  · refine zs_iload_n (pc := 22) (k := 3) (i := 3) C (by decide +kernel) rfl rfl ?_
    refine zs_jn (pJ := 37) (kJ := 0) (sJ := 0) (fun t5 => [(0, sR 100), (1, sR 18), (2, sI x2), (3, sI t3)]) (fun t5 => []) (fun t5 => ?_) (fun J6 hJ6 => ?_)
    · refine zs_iconst (pc := 37) (n := 0) (x := 0) C (by decide +kernel) (by decide +kernel) ?_
      refine zs_istore (pc := 38) (i := 4) (ls' := [(4, sI 0), (0, sR 100), (1, sR 18), (2, sI x2), (3, sI t3)]) C (by decide +kernel) (Nat.le_of_ble_eq_true rfl) rfl ?_
      refine zs_sub (ls' := [(0, sR 100), (1, sR 18), (2, sI x2), (3, sI t3), (4, sI 0)]) ⟨rfl, rfl, rfl, rfl, rfl, trivial⟩ ?_
      refine zs_lp (pc := 40) (fun (t7 : Int) => [(0, sR 100), (1, sR 18), (2, sI x2), (3, sI t3), (4, sI t7)]) (fun _ => []) (fun K8 hK8 t7 => ?_) BIG 0
      refine zs_iload (pc := 40) (i := 4) C (by decide +kernel) rfl ?_
      refine zs_aload_n (pc := 42) (k := 0) (i := 0) C (by decide +kernel) rfl rfl ?_
      refine zs_getI (pc := 43) (i := 15) (ci := 1) (k := 1) C (by decide +kernel) fl_RX1_15 rfl rfl (fun x9 => ?_)
      refine zs_icmp_ge (pc := 46) (off := 35) (tgt := 81) C (by decide +kernel) (by decide) ?_ ?_
      · refine zs_iinc (pc := 81) (i := 3) (n := 1) (y := w32 (t3 + 1)) (ls' := [(3, sI (w32 (t3 + 1))), (0, sR 100), (1, sR 18), (2, sI x2), (4, sI t7)]) C (by decide +kernel) rfl rfl (Nat.le_of_ble_eq_true rfl) rfl ?_
        refine zs_goto (pc := 84) (off := (-68)) (tgt := 16) C (by decide +kernel) (by decide) ?_
        exact zs_goj (hK4 (w32 (t3 + 1))) ⟨rfl, rfl, rfl, rfl, trivial⟩
      · refine zs_aload_n (pc := 49) (k := 0) (i := 0) C (by decide +kernel) rfl rfl ?_
        refine zs_iload_n (pc := 50) (k := 2) (i := 2) C (by decide +kernel) rfl rfl ?_
        refine zs_cvRi (pc := 51) (As := [sI x2]) (st := []) C (Or.inr rfl) (c_X1_isDone l g x2) ml_RX1_39 rfl rfl rfl rfl (Nat.le_of_ble_eq_true rfl) ⟨Nat.le_of_ble_eq_true rfl, Nat.le_of_ble_eq_true rfl⟩ ⟨Nat.le_of_ble_eq_true rfl, Nat.le_of_ble_eq_true rfl⟩ (by decide +kernel) (fun x10 => ?_)
        refine zs_jn (pJ := 72) (kJ := 0) (sJ := 0) (fun t11 => [(4, sI t7)]) (fun t11 => []) (fun t11 => ?_) (fun J12 hJ12 => ?_)
        · refine zs_iload (pc := 72) (i := 4) C (by decide +kernel) rfl ?_
          exact zs_retWi (pc := 74) C hr ⟨Nat.le_of_ble_eq_true rfl, Nat.le_of_ble_eq_true rfl⟩ (by decide +kernel)
        · refine zs_if_ne (pc := 54) (off := 18) (tgt := 72) C (by decide +kernel) (by decide) ?_ ?_
          · exact zs_goj (hJ12 ()) ⟨rfl, trivial⟩
          · refine zs_aload_n (pc := 57) (k := 0) (i := 0) C (by decide +kernel) rfl rfl ?_
            refine zs_iload_n (pc := 58) (k := 2) (i := 2) C (by decide +kernel) rfl rfl ?_
            refine zs_iconst (pc := 59) (n := 1) (x := 1) C (by decide +kernel) (by decide +kernel) ?_
            refine zs_iload (pc := 60) (i := 4) C (by decide +kernel) rfl ?_
            refine zs_ishl (pc := 62) C (by decide +kernel) ?_
            refine zs_iconst (pc := 63) (n := (-1)) (x := (-1)) C (by decide +kernel) (by decide +kernel) ?_
            refine zs_ixor (pc := 64) C (by decide +kernel) ?_
            refine zs_iand (pc := 65) C (by decide +kernel) ?_
            refine zs_cvRi (pc := 66) (As := [sI (iand x2 (ixor (ishl 1 t7) ((-1))))]) (st := []) C (Or.inr rfl) (c_X1_isDone l g (iand x2 (ixor (ishl 1 t7) ((-1))))) ml_RX1_39 rfl rfl rfl rfl (Nat.le_of_ble_eq_true rfl) ⟨Nat.le_of_ble_eq_true rfl, Nat.le_of_ble_eq_true rfl⟩ ⟨Nat.le_of_ble_eq_true rfl, Nat.le_of_ble_eq_true rfl⟩ (by decide +kernel) (fun x13 => ?_)
            refine zs_if_eq (pc := 69) (off := 6) (tgt := 75) C (by decide +kernel) (by decide) ?_ ?_
            · refine zs_iinc (pc := 75) (i := 4) (n := 1) (y := w32 (t7 + 1)) (ls' := [(4, sI (w32 (t7 + 1))), (0, sR 100), (1, sR 18), (2, sI x2), (3, sI t3)]) C (by decide +kernel) rfl rfl (Nat.le_of_ble_eq_true rfl) rfl ?_
              refine zs_goto (pc := 78) (off := (-38)) (tgt := 40) C (by decide +kernel) (by decide) ?_
              exact zs_goj (hK8 (w32 (t7 + 1))) ⟨rfl, rfl, rfl, rfl, rfl, trivial⟩
            · exact zs_goj (hJ12 ()) ⟨rfl, trivial⟩
    · refine zs_if_le (pc := 23) (off := 14) (tgt := 37) C (by decide +kernel) (by decide) ?_ ?_
      · exact zs_goj (hJ6 ()) ⟨rfl, rfl, rfl, rfl, trivial⟩
      · refine zs_aload_n (pc := 26) (k := 0) (i := 0) C (by decide +kernel) rfl rfl ?_
        refine zs_aload_n (pc := 27) (k := 1) (i := 1) C (by decide +kernel) rfl rfl ?_
        refine zs_iload_n (pc := 28) (k := 3) (i := 3) C (by decide +kernel) rfl rfl ?_
        refine zs_cvWi (pc := 29) (As := [sR 18, sI t3]) (st := []) C (fun _ _ _ => rfl) (Or.inr rfl) (c_X1_goOn l g t3) ml_RX1_35 rfl rfl rfl rfl (Nat.le_of_ble_eq_true rfl) ⟨Nat.le_of_ble_eq_true rfl, Nat.le_of_ble_eq_true rfl⟩ ⟨Nat.le_of_ble_eq_true rfl, Nat.le_of_ble_eq_true rfl⟩ (by decide +kernel) (fun x14 => ?_)
        refine zs_if_ne (pc := 32) (off := 5) (tgt := 37) C (by decide +kernel) (by decide) ?_ ?_
        · exact zs_goj (hJ6 ()) ⟨rfl, rfl, rfl, rfl, trivial⟩
        · refine zs_iconst (pc := 35) (n := (-1)) (x := (-1)) C (by decide +kernel) (by decide +kernel) ?_
          exact zs_retWi (pc := 36) C hr ⟨Nat.le_of_ble_eq_true rfl, Nat.le_of_ble_eq_true rfl⟩ (by decide +kernel)
set_option maxRecDepth 20000 in
theorem c_X2_cost (l : Launch) (g : GC) (a1 : Int) (a2 : Int) (a3 : Int) : ConR l g yX2_cost cX2_cost 6 (some .int) (rmd 2 0 0) [sR 105, sR 19, sI a1, sI a2, sI a3] (fun mm => fX2_cost a1 a2 a3 mm) := by
  refine zs_ofR (by decide +kernel) (Nat.le_of_ble_eq_true rfl) ?_
  intro p e s m args below meth c C hr
  replace C : Bd g RX2 cX2_cost 6 p s m args meth c := C
  unfold fX2_cost
  refine zs_aload_n (pc := 0) (k := 1) (i := 1) C (by decide +kernel) rfl rfl ?_
  refine zs_getR (o' := 20) (pc := 1) (i := 24) (ci := 10) (k := 0) C (by decide +kernel) fl_RX2_24 rfl rfl rfl ?_
  refine zs_astore (pc := 4) (i := 5) (ls' := [(5, sR 20), (0, sR 105), (1, sR 19), (2, sI a1), (3, sI a2), (4, sI a3)]) C (by decide +kernel) (Nat.le_of_ble_eq_true rfl) rfl ?_
  refine zs_aload (pc := 6) (i := 5) C (by decide +kernel) rfl ?_
  refine zs_aload_n (pc := 8) (k := 1) (i := 1) C (by decide +kernel) rfl rfl ?_
  refine zs_getR (o' := 27) (pc := 9) (i := 36) (ci := 10) (k := 1) C (by decide +kernel) fl_RX2_36 rfl rfl rfl ?_
  refine zs_getR (o' := 28) (pc := 12) (i := 93) (ci := 5) (k := 4) C (by decide +kernel) fl_RX2_93 rfl rfl rfl ?_
  refine zs_iload_n (pc := 15) (k := 2) (i := 2) C (by decide +kernel) rfl rfl ?_
  refine zs_iald (pc := 16) (o := 28) (n := 4) C (by decide +kernel) rfl (fun hinx1 x1 => ?_)
  refine zs_aload (pc := 17) (i := 5) C (by decide +kernel) rfl ?_
  refine zs_getR (o' := 21) (pc := 19) (i := 53) (ci := 3) (k := 6) C (by decide +kernel) fl_RX2_53 rfl rfl rfl ?_
  refine zs_iload_n (pc := 22) (k := 3) (i := 3) C (by decide +kernel) rfl rfl ?_
  refine zs_iald (pc := 23) (o := 21) (n := 8) C (by decide +kernel) rfl (fun hinx2 x2 => ?_)
  refine zs_cvRi (pc := 24) (As := [sI x1, sI x2]) (st := []) C (Or.inl rfl) (c_X3_apart l g x1 x2) ml_RX2_56 rfl rfl rfl rfl (Nat.le_of_ble_eq_true rfl) ⟨Nat.le_of_ble_eq_true rfl, Nat.le_of_ble_eq_true rfl⟩ ⟨Nat.le_of_ble_eq_true rfl, Nat.le_of_ble_eq_true rfl⟩ (by decide +kernel) (fun x3 => ?_)
  refine zs_aload (pc := 27) (i := 5) C (by decide +kernel) rfl ?_
  refine zs_aload_n (pc := 29) (k := 1) (i := 1) C (by decide +kernel) rfl rfl ?_
  refine zs_getR (o' := 27) (pc := 30) (i := 36) (ci := 10) (k := 1) C (by decide +kernel) fl_RX2_36 rfl rfl rfl ?_
  refine zs_getR (o' := 29) (pc := 33) (i := 96) (ci := 5) (k := 5) C (by decide +kernel) fl_RX2_96 rfl rfl rfl ?_
  refine zs_iload_n (pc := 36) (k := 2) (i := 2) C (by decide +kernel) rfl rfl ?_
  refine zs_iald (pc := 37) (o := 29) (n := 4) C (by decide +kernel) rfl (fun hinx4 x4 => ?_)
  refine zs_aload (pc := 38) (i := 5) C (by decide +kernel) rfl ?_
  refine zs_getR (o' := 21) (pc := 40) (i := 53) (ci := 3) (k := 6) C (by decide +kernel) fl_RX2_53 rfl rfl rfl ?_
  refine zs_iload (pc := 43) (i := 4) C (by decide +kernel) rfl ?_
  refine zs_iald (pc := 45) (o := 21) (n := 8) C (by decide +kernel) rfl (fun hinx5 x5 => ?_)
  refine zs_cvRi (pc := 46) (As := [sI x4, sI x5]) (st := [sI x3]) C (Or.inl rfl) (c_X3_apart l g x4 x5) ml_RX2_56 rfl rfl rfl rfl (Nat.le_of_ble_eq_true rfl) ⟨Nat.le_of_ble_eq_true rfl, Nat.le_of_ble_eq_true rfl⟩ ⟨Nat.le_of_ble_eq_true rfl, Nat.le_of_ble_eq_true rfl⟩ (by decide +kernel) (fun x6 => ?_)
  refine zs_iadd (pc := 49) C (by decide +kernel) ?_
  exact zs_retRi (pc := 50) C hr ⟨Nat.le_of_ble_eq_true rfl, Nat.le_of_ble_eq_true rfl⟩ (by decide +kernel)
set_option maxRecDepth 20000 in
theorem c_X2_leastFrom (l : Launch) (g : GC) (a1 : Int) (a2 : Int) : ConR l g yX2_leastFrom cX2_leastFrom 8 (some .int) (rmd 3 0 0) [sR 105, sR 19, sI a1, sI a2] (fun mm => fX2_leastFrom a1 a2 mm) := by
  refine zs_ofR (by decide +kernel) (Nat.le_of_ble_eq_true rfl) ?_
  intro p e s m args below meth c C hr
  replace C : Bd g RX2 cX2_leastFrom 8 p s m args meth c := C
  unfold fX2_leastFrom
  refine zs_aload_n (pc := 0) (k := 1) (i := 1) C (by decide +kernel) rfl rfl ?_
  refine zs_getR (o' := 20) (pc := 1) (i := 24) (ci := 10) (k := 0) C (by decide +kernel) fl_RX2_24 rfl rfl rfl ?_
  refine zs_getI (pc := 4) (i := 59) (ci := 3) (k := 4) C (by decide +kernel) fl_RX2_59 rfl rfl (fun x1 => ?_)
  refine zs_istore (pc := 7) (i := 4) (ls' := [(4, sI x1), (0, sR 105), (1, sR 19), (2, sI a1), (3, sI a2)]) C (by decide +kernel) (Nat.le_of_ble_eq_true rfl) rfl ?_
  refine zs_sipush (pc := 9) (n := 1000) (x := 1000) C (by decide +kernel) (by decide +kernel) ?_
  refine zs_istore (pc := 12) (i := 5) (ls' := [(5, sI 1000), (4, sI x1), (0, sR 105), (1, sR 19), (2, sI a1), (3, sI a2)]) C (by decide +kernel) (Nat.le_of_ble_eq_true rfl) rfl ?_
  refine zs_iconst (pc := 14) (n := 0) (x := 0) C (by decide +kernel) (by decide +kernel) ?_
  refine zs_istore (pc := 15) (i := 6) (ls' := [(6, sI 0), (5, sI 1000), (4, sI x1), (0, sR 105), (1, sR 19), (2, sI a1), (3, sI a2)]) C (by decide +kernel) (Nat.le_of_ble_eq_true rfl) rfl ?_
  refine zs_sub (ls' := [(0, sR 105), (1, sR 19), (2, sI a1), (3, sI a2), (4, sI x1), (5, sI 1000), (6, sI 0)]) ⟨rfl, rfl, rfl, rfl, rfl, rfl, rfl, trivial⟩ ?_
  refine zs_lp (pc := 17) (fun (t2 : Int × Int) => [(0, sR 105), (1, sR 19), (2, sI a1), (3, sI a2), (4, sI x1), (5, sI t2.1), (6, sI t2.2)]) (fun _ => []) (fun K3 hK3 t2 => ?_) BIG (1000, 0)
  refine zs_iload (pc := 17) (i := 6) C (by decide +kernel) rfl ?_
  refine zs_iload (pc := 19) (i := 4) C (by decide +kernel) rfl ?_
  refine zs_icmp_ge (pc := 21) (off := 76) (tgt := 97) C (by decide +kernel) (by decide) ?_ ?_
  · refine zs_iload (pc := 97) (i := 5) C (by decide +kernel) rfl ?_
    exact zs_retRi (pc := 99) C hr ⟨Nat.le_of_ble_eq_true rfl, Nat.le_of_ble_eq_true rfl⟩ (by decide +kernel)
  · refine zs_iconst (pc := 24) (n := 0) (x := 0) C (by decide +kernel) (by decide +kernel) ?_
    refine zs_istore (pc := 25) (i := 7) (ls' := [(7, sI 0), (0, sR 105), (1, sR 19), (2, sI a1), (3, sI a2), (4, sI x1), (5, sI t2.1), (6, sI t2.2)]) C (by decide +kernel) (Nat.le_of_ble_eq_true rfl) rfl ?_
    refine zs_sub (ls' := [(0, sR 105), (1, sR 19), (2, sI a1), (3, sI a2), (4, sI x1), (5, sI t2.1), (6, sI t2.2), (7, sI 0)]) ⟨rfl, rfl, rfl, rfl, rfl, rfl, rfl, rfl, trivial⟩ ?_
    refine zs_lp (pc := 27) (fun (t4 : Int × Int) => [(0, sR 105), (1, sR 19), (2, sI a1), (3, sI a2), (4, sI x1), (5, sI t4.1), (6, sI t2.2), (7, sI t4.2)]) (fun _ => []) (fun K5 hK5 t4 => ?_) BIG (t2.1, 0)
    refine zs_iload (pc := 27) (i := 7) C (by decide +kernel) rfl ?_
    refine zs_iload (pc := 29) (i := 4) C (by decide +kernel) rfl ?_
    refine zs_icmp_ge (pc := 31) (off := 60) (tgt := 91) C (by decide +kernel) (by decide) ?_ ?_
    · refine zs_iinc (pc := 91) (i := 6) (n := 1) (y := w32 (t2.2 + 1)) (ls' := [(6, sI (w32 (t2.2 + 1))), (0, sR 105), (1, sR 19), (2, sI a1), (3, sI a2), (4, sI x1), (5, sI t4.1), (7, sI t4.2)]) C (by decide +kernel) rfl rfl (Nat.le_of_ble_eq_true rfl) rfl ?_
      refine zs_goto (pc := 94) (off := (-77)) (tgt := 17) C (by decide +kernel) (by decide) ?_
      exact zs_goj (hK3 (t4.1, w32 (t2.2 + 1))) ⟨rfl, rfl, rfl, rfl, rfl, rfl, rfl, trivial⟩
    · refine zs_aload_n (pc := 34) (k := 0) (i := 0) C (by decide +kernel) rfl rfl ?_
      refine zs_aload_n (pc := 35) (k := 1) (i := 1) C (by decide +kernel) rfl rfl ?_
      refine zs_getR (o' := 20) (pc := 36) (i := 24) (ci := 10) (k := 0) C (by decide +kernel) fl_RX2_24 rfl rfl rfl ?_
      refine zs_iload_n (pc := 39) (k := 3) (i := 3) C (by decide +kernel) rfl rfl ?_
      refine zs_iload_n (pc := 40) (k := 2) (i := 2) C (by decide +kernel) rfl rfl ?_
      refine zs_iload (pc := 41) (i := 6) C (by decide +kernel) rfl ?_
      refine zs_iload (pc := 43) (i := 7) C (by decide +kernel) rfl ?_
      refine zs_cvRi (pc := 45) (As := [sR 20, sI a2, sI a1, sI t2.2, sI t4.2]) (st := []) C (Or.inr rfl) (c_X2_canHave l g a2 a1 t2.2 t4.2) ml_RX2_82 rfl rfl rfl rfl (Nat.le_of_ble_eq_true rfl) ⟨Nat.le_of_ble_eq_true rfl, Nat.le_of_ble_eq_true rfl⟩ ⟨Nat.le_of_ble_eq_true rfl, Nat.le_of_ble_eq_true rfl⟩ (by decide +kernel) (fun x6 => ?_)
      refine zs_jn (pJ := 85) (kJ := 0) (sJ := 0) (fun t7 => [(0, sR 105), (1, sR 19), (2, sI a1), (3, sI a2), (4, sI x1), (5, sI t7), (6, sI t2.2), (7, sI t4.2)]) (fun t7 => []) (fun t7 => ?_) (fun J8 hJ8 => ?_)
      · refine zs_iinc (pc := 85) (i := 7) (n := 1) (y := w32 (t4.2 + 1)) (ls' := [(7, sI (w32 (t4.2 + 1))), (0, sR 105), (1, sR 19), (2, sI a1), (3, sI a2), (4, sI x1), (5, sI t7), (6, sI t2.2)]) C (by decide +kernel) rfl rfl (Nat.le_of_ble_eq_true rfl) rfl ?_
        refine zs_goto (pc := 88) (off := (-61)) (tgt := 27) C (by decide +kernel) (by decide) ?_
        exact zs_goj (hK5 (t7, w32 (t4.2 + 1))) ⟨rfl, rfl, rfl, rfl, rfl, rfl, rfl, rfl, trivial⟩
      · refine zs_if_eq (pc := 48) (off := 37) (tgt := 85) C (by decide +kernel) (by decide) ?_ ?_
        · exact zs_goj (hJ8 t4.1) ⟨rfl, rfl, rfl, rfl, rfl, rfl, rfl, rfl, trivial⟩
        · refine zs_iload (pc := 51) (i := 5) C (by decide +kernel) rfl ?_
          refine zs_aload_n (pc := 53) (k := 0) (i := 0) C (by decide +kernel) rfl rfl ?_
          refine zs_aload_n (pc := 54) (k := 1) (i := 1) C (by decide +kernel) rfl rfl ?_
          refine zs_iload_n (pc := 55) (k := 3) (i := 3) C (by decide +kernel) rfl rfl ?_
          refine zs_iload (pc := 56) (i := 6) C (by decide +kernel) rfl ?_
          refine zs_iload (pc := 58) (i := 7) C (by decide +kernel) rfl ?_
          refine zs_cvRi (pc := 60) (As := [sR 19, sI a2, sI t2.2, sI t4.2]) (st := [sI t4.1]) C (Or.inl rfl) (c_X2_cost l g a2 t2.2 t4.2) ml_RX2_99 rfl rfl rfl rfl (Nat.le_of_ble_eq_true rfl) ⟨Nat.le_of_ble_eq_true rfl, Nat.le_of_ble_eq_true rfl⟩ ⟨Nat.le_of_ble_eq_true rfl, Nat.le_of_ble_eq_true rfl⟩ (by decide +kernel) (fun x9 => ?_)
          refine zs_aload_n (pc := 63) (k := 0) (i := 0) C (by decide +kernel) rfl rfl ?_
          refine zs_getR (o' := 107) (pc := 64) (i := 15) (ci := 2) (k := 1) C (by decide +kernel) fl_RX2_15 rfl rfl rfl ?_
          refine zs_iload_n (pc := 67) (k := 2) (i := 2) C (by decide +kernel) rfl rfl ?_
          refine zs_iconst (pc := 68) (n := 1) (x := 1) C (by decide +kernel) (by decide +kernel) ?_
          refine zs_iload (pc := 69) (i := 6) C (by decide +kernel) rfl ?_
          refine zs_ishl (pc := 71) C (by decide +kernel) ?_
          refine zs_ior (pc := 72) C (by decide +kernel) ?_
          refine zs_iconst (pc := 73) (n := 1) (x := 1) C (by decide +kernel) (by decide +kernel) ?_
          refine zs_iload (pc := 74) (i := 7) C (by decide +kernel) rfl ?_
          refine zs_ishl (pc := 76) C (by decide +kernel) ?_
          refine zs_ior (pc := 77) C (by decide +kernel) ?_
          refine zs_iald (pc := 78) (o := 107) (n := 256) C (by decide +kernel) rfl (fun hinx10 x10 => ?_)
          refine zs_iadd (pc := 79) C (by decide +kernel) ?_
          refine zs_mmin (pc := 80) (idx := 103) C wf_1626 wf_717 wf_166 wf_718 ⟨Nat.le_of_ble_eq_true rfl, Nat.le_of_ble_eq_true rfl, Nat.zero_le _, Nat.zero_le _⟩ (by decide +kernel) ?_
          refine zs_let (fun x11 => ?_)
          refine zs_istore (pc := 83) (i := 5) (ls' := [(5, sI x11), (0, sR 105), (1, sR 19), (2, sI a1), (3, sI a2), (4, sI x1), (6, sI t2.2), (7, sI t4.2)]) C (by decide +kernel) (Nat.le_of_ble_eq_true rfl) rfl ?_
          exact zs_goj (hJ8 x11) ⟨rfl, rfl, rfl, rfl, rfl, rfl, rfl, rfl, trivial⟩
set_option maxRecDepth 20000 in
theorem c_X2_takeFirst (l : Launch) (g : GC) (a1 : Int) (a2 : Int) : ConW l g yX2_takeFirst cX2_takeFirst 8 (some .int) (rmd 3 0 0) [sR 105, sR 19, sI a1, sI a2] (fun mm => fX2_takeFirst a1 a2 mm) := by
  refine zs_ofW (by decide +kernel) (Nat.le_of_ble_eq_true rfl) ?_
  intro p e s m args below meth c C hr
  replace C : Bd g RX2 cX2_takeFirst 8 p s m args meth c := C
  unfold fX2_takeFirst
  refine zs_aload_n (pc := 0) (k := 1) (i := 1) C (by decide +kernel) rfl rfl ?_
  refine zs_getR (o' := 20) (pc := 1) (i := 24) (ci := 10) (k := 0) C (by decide +kernel) fl_RX2_24 rfl rfl rfl ?_
  refine zs_getI (pc := 4) (i := 59) (ci := 3) (k := 4) C (by decide +kernel) fl_RX2_59 rfl rfl (fun x1 => ?_)
  refine zs_istore (pc := 7) (i := 4) (ls' := [(4, sI x1), (0, sR 105), (1, sR 19), (2, sI a1), (3, sI a2)]) C (by decide +kernel) (Nat.le_of_ble_eq_true rfl) rfl ?_
  refine zs_iconst (pc := 9) (n := 0) (x := 0) C (by decide +kernel) (by decide +kernel) ?_
  refine zs_istore (pc := 10) (i := 5) (ls' := [(5, sI 0), (4, sI x1), (0, sR 105), (1, sR 19), (2, sI a1), (3, sI a2)]) C (by decide +kernel) (Nat.le_of_ble_eq_true rfl) rfl ?_
  refine zs_sub (ls' := [(0, sR 105), (1, sR 19), (2, sI a1), (3, sI a2), (4, sI x1), (5, sI 0)]) ⟨rfl, rfl, rfl, rfl, rfl, rfl, trivial⟩ ?_
  refine zs_lp (pc := 12) (fun (t2 : Int) => [(0, sR 105), (1, sR 19), (2, sI a1), (3, sI a2), (4, sI x1), (5, sI t2)]) (fun _ => []) (fun K3 hK3 t2 => ?_) BIG 0
  refine zs_iload (pc := 12) (i := 5) C (by decide +kernel) rfl ?_
  refine zs_iload (pc := 14) (i := 4) C (by decide +kernel) rfl ?_
  refine zs_icmp_ge (pc := 16) (off := 107) (tgt := 123) C (by decide +kernel) (by decide) ?_ ?_
  · refine zs_iload_n (pc := 123) (k := 2) (i := 2) C (by decide +kernel) rfl rfl ?_
    exact zs_retWi (pc := 124) C hr ⟨Nat.le_of_ble_eq_true rfl, Nat.le_of_ble_eq_true rfl⟩ (by decide +kernel)
  · refine zs_iconst (pc := 19) (n := 0) (x := 0) C (by decide +kernel) (by decide +kernel) ?_
    refine zs_istore (pc := 20) (i := 6) (ls' := [(6, sI 0), (0, sR 105), (1, sR 19), (2, sI a1), (3, sI a2), (4, sI x1), (5, sI t2)]) C (by decide +kernel) (Nat.le_of_ble_eq_true rfl) rfl ?_
    refine zs_sub (ls' := [(0, sR 105), (1, sR 19), (2, sI a1), (3, sI a2), (4, sI x1), (5, sI t2), (6, sI 0)]) ⟨rfl, rfl, rfl, rfl, rfl, rfl, rfl, trivial⟩ ?_
    refine zs_lp (pc := 22) (fun (t4 : Int) => [(0, sR 105), (1, sR 19), (2, sI a1), (3, sI a2), (4, sI x1), (5, sI t2), (6, sI t4)]) (fun _ => []) (fun K5 hK5 t4 => ?_) BIG 0
    refine zs_iload (pc := 22) (i := 6) C (by decide +kernel) rfl ?_
    refine zs_iload (pc := 24) (i := 4) C (by decide +kernel) rfl ?_
    refine zs_icmp_ge (pc := 26) (off := 91) (tgt := 117) C (by decide +kernel) (by decide) ?_ ?_
    · refine zs_iinc (pc := 117) (i := 5) (n := 1) (y := w32 (t2 + 1)) (ls' := [(5, sI (w32 (t2 + 1))), (0, sR 105), (1, sR 19), (2, sI a1), (3, sI a2), (4, sI x1), (6, sI t4)]) C (by decide +kernel) rfl rfl (Nat.le_of_ble_eq_true rfl) rfl ?_
      refine zs_goto (pc := 120) (off := (-108)) (tgt := 12) C (by decide +kernel) (by decide) ?_
      exact zs_goj (hK3 (w32 (t2 + 1))) ⟨rfl, rfl, rfl, rfl, rfl, rfl, trivial⟩
    · refine zs_iload_n (pc := 29) (k := 2) (i := 2) C (by decide +kernel) rfl rfl ?_
      refine zs_iconst (pc := 30) (n := 1) (x := 1) C (by decide +kernel) (by decide +kernel) ?_
      refine zs_iload (pc := 31) (i := 5) C (by decide +kernel) rfl ?_
      refine zs_ishl (pc := 33) C (by decide +kernel) ?_
      refine zs_ior (pc := 34) C (by decide +kernel) ?_
      refine zs_iconst (pc := 35) (n := 1) (x := 1) C (by decide +kernel) (by decide +kernel) ?_
      refine zs_iload (pc := 36) (i := 6) C (by decide +kernel) rfl ?_
      refine zs_ishl (pc := 38) C (by decide +kernel) ?_
      refine zs_ior (pc := 39) C (by decide +kernel) ?_
      refine zs_let (fun x6 => ?_)
      refine zs_istore (pc := 40) (i := 7) (ls' := [(7, sI x6), (0, sR 105), (1, sR 19), (2, sI a1), (3, sI a2), (4, sI x1), (5, sI t2), (6, sI t4)]) C (by decide +kernel) (Nat.le_of_ble_eq_true rfl) rfl ?_
      refine zs_aload_n (pc := 42) (k := 0) (i := 0) C (by decide +kernel) rfl rfl ?_
      refine zs_aload_n (pc := 43) (k := 1) (i := 1) C (by decide +kernel) rfl rfl ?_
      refine zs_getR (o' := 20) (pc := 44) (i := 24) (ci := 10) (k := 0) C (by decide +kernel) fl_RX2_24 rfl rfl rfl ?_
      refine zs_iload_n (pc := 47) (k := 3) (i := 3) C (by decide +kernel) rfl rfl ?_
      refine zs_iload_n (pc := 48) (k := 2) (i := 2) C (by decide +kernel) rfl rfl ?_
      refine zs_iload (pc := 49) (i := 5) C (by decide +kernel) rfl ?_
      refine zs_iload (pc := 51) (i := 6) C (by decide +kernel) rfl ?_
      refine zs_cvRi (pc := 53) (As := [sR 20, sI a2, sI a1, sI t2, sI t4]) (st := []) C (Or.inr rfl) (c_X2_canHave l g a2 a1 t2 t4) ml_RX2_82 rfl rfl rfl rfl (Nat.le_of_ble_eq_true rfl) ⟨Nat.le_of_ble_eq_true rfl, Nat.le_of_ble_eq_true rfl⟩ ⟨Nat.le_of_ble_eq_true rfl, Nat.le_of_ble_eq_true rfl⟩ (by decide +kernel) (fun x7 => ?_)
      refine zs_jn (pJ := 111) (kJ := 0) (sJ := 0) (fun t8 => [(0, sR 105), (1, sR 19), (2, sI a1), (3, sI a2), (4, sI x1), (5, sI t2), (6, sI t4)]) (fun t8 => []) (fun t8 => ?_) (fun J9 hJ9 => ?_)
      · refine zs_iinc (pc := 111) (i := 6) (n := 1) (y := w32 (t4 + 1)) (ls' := [(6, sI (w32 (t4 + 1))), (0, sR 105), (1, sR 19), (2, sI a1), (3, sI a2), (4, sI x1), (5, sI t2)]) C (by decide +kernel) rfl rfl (Nat.le_of_ble_eq_true rfl) rfl ?_
        refine zs_goto (pc := 114) (off := (-92)) (tgt := 22) C (by decide +kernel) (by decide) ?_
        exact zs_goj (hK5 (w32 (t4 + 1))) ⟨rfl, rfl, rfl, rfl, rfl, rfl, rfl, trivial⟩
      · refine zs_if_eq (pc := 56) (off := 55) (tgt := 111) C (by decide +kernel) (by decide) ?_ ?_
        · exact zs_goj (hJ9 ()) ⟨rfl, rfl, rfl, rfl, rfl, rfl, rfl, trivial⟩
        · refine zs_aload_n (pc := 59) (k := 0) (i := 0) C (by decide +kernel) rfl rfl ?_
          refine zs_aload_n (pc := 60) (k := 1) (i := 1) C (by decide +kernel) rfl rfl ?_
          refine zs_iload_n (pc := 61) (k := 3) (i := 3) C (by decide +kernel) rfl rfl ?_
          refine zs_iload (pc := 62) (i := 5) C (by decide +kernel) rfl ?_
          refine zs_iload (pc := 64) (i := 6) C (by decide +kernel) rfl ?_
          refine zs_cvRi (pc := 66) (As := [sR 19, sI a2, sI t2, sI t4]) (st := []) C (Or.inl rfl) (c_X2_cost l g a2 t2 t4) ml_RX2_99 rfl rfl rfl rfl (Nat.le_of_ble_eq_true rfl) ⟨Nat.le_of_ble_eq_true rfl, Nat.le_of_ble_eq_true rfl⟩ ⟨Nat.le_of_ble_eq_true rfl, Nat.le_of_ble_eq_true rfl⟩ (by decide +kernel) (fun x10 => ?_)
          refine zs_aload_n (pc := 69) (k := 0) (i := 0) C (by decide +kernel) rfl rfl ?_
          refine zs_getR (o' := 107) (pc := 70) (i := 15) (ci := 2) (k := 1) C (by decide +kernel) fl_RX2_15 rfl rfl rfl ?_
          refine zs_iload (pc := 73) (i := 7) C (by decide +kernel) rfl ?_
          refine zs_iald (pc := 75) (o := 107) (n := 256) C (by decide +kernel) rfl (fun hinx11 x11 => ?_)
          refine zs_iadd (pc := 76) C (by decide +kernel) ?_
          refine zs_aload_n (pc := 77) (k := 0) (i := 0) C (by decide +kernel) rfl rfl ?_
          refine zs_getR (o' := 107) (pc := 78) (i := 15) (ci := 2) (k := 1) C (by decide +kernel) fl_RX2_15 rfl rfl rfl ?_
          refine zs_iload_n (pc := 81) (k := 2) (i := 2) C (by decide +kernel) rfl rfl ?_
          refine zs_iald (pc := 82) (o := 107) (n := 256) C (by decide +kernel) rfl (fun hinx12 x12 => ?_)
          refine zs_icmp_ne (pc := 83) (off := 28) (tgt := 111) C (by decide +kernel) (by decide) ?_ ?_
          · exact zs_goj (hJ9 ()) ⟨rfl, rfl, rfl, rfl, rfl, rfl, rfl, trivial⟩
          · refine zs_aload_n (pc := 86) (k := 0) (i := 0) C (by decide +kernel) rfl rfl ?_
            refine zs_getR (o' := 109) (pc := 87) (i := 21) (ci := 2) (k := 3) C (by decide +kernel) fl_RX2_21 rfl rfl rfl ?_
            refine zs_iconst (pc := 90) (n := 2) (x := 2) C (by decide +kernel) (by decide +kernel) ?_
            refine zs_iload_n (pc := 91) (k := 3) (i := 3) C (by decide +kernel) rfl rfl ?_
            refine zs_imul (pc := 92) C (by decide +kernel) ?_
            refine zs_iload (pc := 93) (i := 5) C (by decide +kernel) rfl ?_
            refine zs_iast (pc := 95) (o := 109) (n := 8) C (fun _ _ _ => rfl) (by decide +kernel) rfl ?_
            refine zs_aload_n (pc := 96) (k := 0) (i := 0) C (by decide +kernel) rfl rfl ?_
            refine zs_getR (o' := 109) (pc := 97) (i := 21) (ci := 2) (k := 3) C (by decide +kernel) fl_RX2_21 rfl rfl rfl ?_
            refine zs_iconst (pc := 100) (n := 2) (x := 2) C (by decide +kernel) (by decide +kernel) ?_
            refine zs_iload_n (pc := 101) (k := 3) (i := 3) C (by decide +kernel) rfl rfl ?_
            refine zs_imul (pc := 102) C (by decide +kernel) ?_
            refine zs_iconst (pc := 103) (n := 1) (x := 1) C (by decide +kernel) (by decide +kernel) ?_
            refine zs_iadd (pc := 104) C (by decide +kernel) ?_
            refine zs_iload (pc := 105) (i := 6) C (by decide +kernel) rfl ?_
            refine zs_iast (pc := 107) (o := 109) (n := 8) C (fun _ _ _ => rfl) (by decide +kernel) rfl ?_
            refine zs_iload (pc := 108) (i := 7) C (by decide +kernel) rfl ?_
            exact zs_retWi (pc := 110) C hr ⟨Nat.le_of_ble_eq_true rfl, Nat.le_of_ble_eq_true rfl⟩ (by decide +kernel)
set_option maxRecDepth 20000 in
theorem c_X2_settle (l : Launch) (g : GC)  : ConW l g yX2_settle cX2_settle 5 (some .int) (rmd 5 0 0) [sR 105, sR 19] (fun mm => fX2_settle  mm) := by
  refine zs_ofW (by decide +kernel) (Nat.le_of_ble_eq_true rfl) ?_
  intro p e s m args below meth c C hr
  replace C : Bd g RX2 cX2_settle 5 p s m args meth c := C
  unfold fX2_settle
  refine zs_iconst (pc := 0) (n := 1) (x := 1) C (by decide +kernel) (by decide +kernel) ?_
  refine zs_aload_n (pc := 1) (k := 1) (i := 1) C (by decide +kernel) rfl rfl ?_
  refine zs_getR (o' := 20) (pc := 2) (i := 24) (ci := 10) (k := 0) C (by decide +kernel) fl_RX2_24 rfl rfl rfl ?_
  refine zs_getI (pc := 5) (i := 59) (ci := 3) (k := 4) C (by decide +kernel) fl_RX2_59 rfl rfl (fun x1 => ?_)
  refine zs_ishl (pc := 8) C (by decide +kernel) ?_
  refine zs_let (fun x2 => ?_)
  refine zs_istore_n (pc := 9) (k := 2) (i := 2) (ls' := [(2, sI x2), (0, sR 105), (1, sR 19)]) C (by decide +kernel) rfl (Nat.le_of_ble_eq_true rfl) rfl ?_
  refine zs_aload_n (pc := 10) (k := 0) (i := 0) C (by decide +kernel) rfl rfl ?_
  refine zs_aload_n (pc := 11) (k := 1) (i := 1) C (by decide +kernel) rfl rfl ?_
  refine zs_cvVv (pc := 12) (As := [sR 19]) (st := []) C (fun _ _ _ => rfl) (c_X2_measure l g ) ml_RX2_62 rfl rfl rfl rfl (Nat.le_of_ble_eq_true rfl) ⟨Nat.le_of_ble_eq_true rfl, Nat.le_of_ble_eq_true rfl⟩ ⟨Nat.le_of_ble_eq_true rfl, Nat.le_of_ble_eq_true rfl⟩ (by decide +kernel) ?_
  refine zs_iload_n (pc := 15) (k := 2) (i := 2) C (by decide +kernel) rfl rfl ?_
  refine zs_iconst (pc := 16) (n := 1) (x := 1) C (by decide +kernel) (by decide +kernel) ?_
  refine zs_isub (pc := 17) C (by decide +kernel) ?_
  refine zs_let (fun x3 => ?_)
  refine zs_istore_n (pc := 18) (k := 3) (i := 3) (ls' := [(3, sI x3), (2, sI x2), (0, sR 105), (1, sR 19)]) C (by decide +kernel) rfl (Nat.le_of_ble_eq_true rfl) rfl ?_
  refine zs_sub (ls' := [(0, sR 105), (1, sR 19), (3, sI x3)]) ⟨rfl, rfl, rfl, trivial⟩ ?_
  refine zs_lp (pc := 19) (fun (t4 : Int) => [(0, sR 105), (1, sR 19), (3, sI t4)]) (fun _ => []) (fun K5 hK5 t4 => ?_) BIG x3
  refine zs_iload_n (pc := 19) (k := 3) (i := 3) C (by decide +kernel) rfl rfl ?_
  refine zs_if_lt (pc := 20) (off := 47) (tgt := 67) C (by decide +kernel) (by decide) ?_ ?_
  · refine zs_aload_n (pc := 67) (k := 0) (i := 0) C (by decide +kernel) rfl rfl ?_
    refine zs_getR (o' := 107) (pc := 68) (i := 15) (ci := 2) (k := 1) C (by decide +kernel) fl_RX2_15 rfl rfl rfl ?_
    refine zs_iconst (pc := 71) (n := 0) (x := 0) C (by decide +kernel) (by decide +kernel) ?_
    refine zs_ialdk (pc := 72) (o := 107) (n := 256) C (by decide) (by decide +kernel) rfl (fun x6 => ?_)
    refine zs_sipush (pc := 73) (n := 1000) (x := 1000) C (by decide +kernel) (by decide +kernel) ?_
    refine zs_icmp_lt (pc := 76) (off := 5) (tgt := 81) C (by decide +kernel) (by decide) ?_ ?_
    · refine zs_iconst (pc := 81) (n := 0) (x := 0) C (by decide +kernel) (by decide +kernel) ?_
      refine zs_istore_n (pc := 82) (k := 3) (i := 3) (ls' := [(3, sI 0), (0, sR 105), (1, sR 19)]) C (by decide +kernel) rfl (Nat.le_of_ble_eq_true rfl) rfl ?_
      refine zs_iconst (pc := 83) (n := 0) (x := 0) C (by decide +kernel) (by decide +kernel) ?_
      refine zs_istore (pc := 84) (i := 4) (ls' := [(4, sI 0), (3, sI 0), (0, sR 105), (1, sR 19)]) C (by decide +kernel) (Nat.le_of_ble_eq_true rfl) rfl ?_
      refine zs_sub (ls' := [(0, sR 105), (1, sR 19), (3, sI 0), (4, sI 0)]) ⟨rfl, rfl, rfl, rfl, trivial⟩ ?_
      refine zs_lp (pc := 86) (fun (t7 : Int × Int) => [(0, sR 105), (1, sR 19), (3, sI t7.1), (4, sI t7.2)]) (fun _ => []) (fun K8 hK8 t7 => ?_) BIG (0, 0)
      refine zs_iload (pc := 86) (i := 4) C (by decide +kernel) rfl ?_
      refine zs_aload_n (pc := 88) (k := 1) (i := 1) C (by decide +kernel) rfl rfl ?_
      refine zs_getR (o' := 20) (pc := 89) (i := 24) (ci := 10) (k := 0) C (by decide +kernel) fl_RX2_24 rfl rfl rfl ?_
      refine zs_getI (pc := 92) (i := 30) (ci := 3) (k := 5) C (by decide +kernel) fl_RX2_30 rfl rfl (fun x9 => ?_)
      refine zs_icmp_ge (pc := 95) (off := 18) (tgt := 113) C (by decide +kernel) (by decide) ?_ ?_
      · refine zs_aload_n (pc := 113) (k := 0) (i := 0) C (by decide +kernel) rfl rfl ?_
        refine zs_getR (o' := 107) (pc := 114) (i := 15) (ci := 2) (k := 1) C (by decide +kernel) fl_RX2_15 rfl rfl rfl ?_
        refine zs_iconst (pc := 117) (n := 0) (x := 0) C (by decide +kernel) (by decide +kernel) ?_
        refine zs_ialdk (pc := 118) (o := 107) (n := 256) C (by decide) (by decide +kernel) rfl (fun x10 => ?_)
        exact zs_retWi (pc := 119) C hr ⟨Nat.le_of_ble_eq_true rfl, Nat.le_of_ble_eq_true rfl⟩ (by decide +kernel)
      · refine zs_aload_n (pc := 98) (k := 0) (i := 0) C (by decide +kernel) rfl rfl ?_
        refine zs_aload_n (pc := 99) (k := 1) (i := 1) C (by decide +kernel) rfl rfl ?_
        refine zs_iload_n (pc := 100) (k := 3) (i := 3) C (by decide +kernel) rfl rfl ?_
        refine zs_iload (pc := 101) (i := 4) C (by decide +kernel) rfl ?_
        refine zs_cvWi (pc := 103) (As := [sR 19, sI t7.1, sI t7.2]) (st := []) C (fun _ _ _ => rfl) (Or.inl rfl) (c_X2_takeFirst l g t7.1 t7.2) ml_RX2_90 rfl rfl rfl rfl (Nat.le_of_ble_eq_true rfl) ⟨Nat.le_of_ble_eq_true rfl, Nat.le_of_ble_eq_true rfl⟩ ⟨Nat.le_of_ble_eq_true rfl, Nat.le_of_ble_eq_true rfl⟩ (by decide +kernel) (fun x11 => ?_)
        refine zs_istore_n (pc := 106) (k := 3) (i := 3) (ls' := [(3, sI x11), (0, sR 105), (1, sR 19), (4, sI t7.2)]) C (by decide +kernel) rfl (Nat.le_of_ble_eq_true rfl) rfl ?_
        refine zs_iinc (pc := 107) (i := 4) (n := 1) (y := w32 (t7.2 + 1)) (ls' := [(4, sI (w32 (t7.2 + 1))), (3, sI x11), (0, sR 105), (1, sR 19)]) C (by decide +kernel) rfl rfl (Nat.le_of_ble_eq_true rfl) rfl ?_
        refine zs_goto (pc := 110) (off := (-24)) (tgt := 86) C (by decide +kernel) (by decide) ?_
        exact zs_goj (hK8 (x11, w32 (t7.2 + 1))) ⟨rfl, rfl, rfl, rfl, trivial⟩
    · refine zs_iconst (pc := 79) (n := (-1)) (x := (-1)) C (by decide +kernel) (by decide +kernel) ?_
      exact zs_retWi (pc := 80) C hr ⟨Nat.le_of_ble_eq_true rfl, Nat.le_of_ble_eq_true rfl⟩ (by decide +kernel)
  · refine zs_iload_n (pc := 23) (k := 3) (i := 3) C (by decide +kernel) rfl rfl ?_
    refine zs_csRi (pc := 24) (As := [sI t4]) (st := []) C (Or.inl rfl) (c_J6_bitCount_0f7a4 l g t4) ml_RX2_72 rfl rfl (Nat.le_of_ble_eq_true rfl) ⟨Nat.le_of_ble_eq_true rfl, Nat.le_of_ble_eq_true rfl⟩ ⟨Nat.le_of_ble_eq_true rfl, Nat.le_of_ble_eq_true rfl⟩ (by decide +kernel) (fun x12 => ?_)
    refine zs_iconst (pc := 27) (n := 2) (x := 2) C (by decide +kernel) (by decide +kernel) ?_
    refine zs_idiv (pc := 28) C (by decide +kernel) (by decide +kernel) ?_
    refine zs_let (fun x13 => ?_)
    refine zs_istore (pc := 29) (i := 4) (ls' := [(4, sI x13), (0, sR 105), (1, sR 19), (3, sI t4)]) C (by decide +kernel) (Nat.le_of_ble_eq_true rfl) rfl ?_
    refine zs_aload_n (pc := 31) (k := 0) (i := 0) C (by decide +kernel) rfl rfl ?_
    refine zs_getR (o' := 107) (pc := 32) (i := 15) (ci := 2) (k := 1) C (by decide +kernel) fl_RX2_15 rfl rfl rfl ?_
    refine zs_iload_n (pc := 35) (k := 3) (i := 3) C (by decide +kernel) rfl rfl ?_
    refine zs_iload (pc := 36) (i := 4) C (by decide +kernel) rfl ?_
    refine zs_aload_n (pc := 38) (k := 1) (i := 1) C (by decide +kernel) rfl rfl ?_
    refine zs_getR (o' := 20) (pc := 39) (i := 24) (ci := 10) (k := 0) C (by decide +kernel) fl_RX2_24 rfl rfl rfl ?_
    refine zs_getI (pc := 42) (i := 30) (ci := 3) (k := 5) C (by decide +kernel) fl_RX2_30 rfl rfl (fun x14 => ?_)
    refine zs_jn (pJ := 60) (kJ := 0) (sJ := 0) (fun t15 => [(0, sR 105), (1, sR 19), (3, sI t4)]) (fun t15 => [sI t15, sI t4, sR 107]) (fun t15 => ?_) (fun J16 hJ16 => ?_)
    · refine zs_iast (pc := 60) (o := 107) (n := 256) C (fun _ _ _ => rfl) (by decide +kernel) rfl ?_
      refine zs_iinc (pc := 61) (i := 3) (n := (-1)) (y := w32 (t4 + (-1))) (ls' := [(3, sI (w32 (t4 + (-1)))), (0, sR 105), (1, sR 19)]) C (by decide +kernel) rfl rfl (Nat.le_of_ble_eq_true rfl) rfl ?_
      refine zs_goto (pc := 64) (off := (-45)) (tgt := 19) C (by decide +kernel) (by decide) ?_
      exact zs_goj (hK5 (w32 (t4 + (-1)))) ⟨rfl, rfl, rfl, trivial⟩
    · refine zs_icmp_lt (pc := 45) (off := 7) (tgt := 52) C (by decide +kernel) (by decide) ?_ ?_
      · refine zs_aload_n (pc := 52) (k := 0) (i := 0) C (by decide +kernel) rfl rfl ?_
        refine zs_aload_n (pc := 53) (k := 1) (i := 1) C (by decide +kernel) rfl rfl ?_
        refine zs_iload_n (pc := 54) (k := 3) (i := 3) C (by decide +kernel) rfl rfl ?_
        refine zs_iload (pc := 55) (i := 4) C (by decide +kernel) rfl ?_
        refine zs_cvRi (pc := 57) (As := [sR 19, sI t4, sI x13]) (st := [sI t4, sR 107]) C (Or.inl rfl) (c_X2_leastFrom l g t4 x13) ml_RX2_86 rfl rfl rfl rfl (Nat.le_of_ble_eq_true rfl) ⟨Nat.le_of_ble_eq_true rfl, Nat.le_of_ble_eq_true rfl⟩ ⟨Nat.le_of_ble_eq_true rfl, Nat.le_of_ble_eq_true rfl⟩ (by decide +kernel) (fun x17 => ?_)
        exact zs_goj (hJ16 x17) ⟨rfl, rfl, rfl, trivial⟩
      · refine zs_iconst (pc := 48) (n := 0) (x := 0) C (by decide +kernel) (by decide +kernel) ?_
        refine zs_goto (pc := 49) (off := 11) (tgt := 60) C (by decide +kernel) (by decide) ?_
        exact zs_goj (hJ16 0) ⟨rfl, rfl, rfl, trivial⟩
set_option maxRecDepth 20000 in
theorem c_X4_wipe (l : Launch) (g : GC) (o : Nat) (h0 : layL[o]? = some (.inl 4)) : ConV l g yX4_wipe cX4_wipe 1 (rmd 1 0 0) [sR o] (fun mm => fX4_wipe o mm) := by
  refine zs_ofV (by decide +kernel) (Nat.le_of_ble_eq_true rfl) ?_
  intro p e s m args below meth c C hr
  replace C : Bd g RX4 cX4_wipe 1 p s m args meth c := C
  unfold fX4_wipe
  refine zs_aload_n (pc := 0) (k := 0) (i := 0) C (by decide +kernel) rfl rfl ?_
  refine zs_iconst (pc := 1) (n := 0) (x := 0) C (by decide +kernel) (by decide +kernel) ?_
  refine zs_putZ (pc := 2) (i := 25) (ci := 4) (k := 4) C (fun _ _ _ => rfl) (by decide +kernel) fl_RX4_25 fw_4_4 h0 rfl ?_
  refine zs_aload_n (pc := 5) (k := 0) (i := 0) C (by decide +kernel) rfl rfl ?_
  refine zs_iconst (pc := 6) (n := 0) (x := 0) C (by decide +kernel) (by decide +kernel) ?_
  refine zs_putI (pc := 7) (i := 15) (ci := 4) (k := 1) C (fun _ _ _ => rfl) (by decide +kernel) fl_RX4_15 fw_4_1 h0 rfl ?_
  refine zs_aload_n (pc := 10) (k := 0) (i := 0) C (by decide +kernel) rfl rfl ?_
  refine zs_iconst (pc := 11) (n := 0) (x := 0) C (by decide +kernel) (by decide +kernel) ?_
  refine zs_putZ (pc := 12) (i := 29) (ci := 4) (k := 5) C (fun _ _ _ => rfl) (by decide +kernel) fl_RX4_29 fw_4_5 h0 rfl ?_
  refine zs_aload_n (pc := 15) (k := 0) (i := 0) C (by decide +kernel) rfl rfl ?_
  refine zs_iconst (pc := 16) (n := 0) (x := 0) C (by decide +kernel) (by decide +kernel) ?_
  refine zs_putZ (pc := 17) (i := 32) (ci := 4) (k := 6) C (fun _ _ _ => rfl) (by decide +kernel) fl_RX4_32 fw_4_6 h0 rfl ?_
  exact zs_retVv (pc := 20) C hr ⟨Nat.le_of_ble_eq_true rfl, Nat.le_of_ble_eq_true rfl⟩ (by decide +kernel)
set_option maxRecDepth 20000 in
theorem c_X3_wipe (l : Launch) (g : GC)  : ConV l g yX3_wipe cX3_wipe 1 (rmd 2 0 0) [sR 7] (fun mm => fX3_wipe  mm) := by
  refine zs_ofV (by decide +kernel) (Nat.le_of_ble_eq_true rfl) ?_
  intro p e s m args below meth c C hr
  replace C : Bd g RX3 cX3_wipe 1 p s m args meth c := C
  unfold fX3_wipe
  refine zs_aload_n (pc := 0) (k := 0) (i := 0) C (by decide +kernel) rfl rfl ?_
  refine zs_iconst (pc := 1) (n := 0) (x := 0) C (by decide +kernel) (by decide +kernel) ?_
  refine zs_putI (pc := 2) (i := 9) (ci := 3) (k := 0) C (fun _ _ _ => rfl) (by decide +kernel) fl_RX3_9 fw_3_0 rfl rfl ?_
  refine zs_aload_n (pc := 5) (k := 0) (i := 0) C (by decide +kernel) rfl rfl ?_
  refine zs_iconst (pc := 6) (n := 0) (x := 0) C (by decide +kernel) (by decide +kernel) ?_
  refine zs_putI (pc := 7) (i := 15) (ci := 3) (k := 1) C (fun _ _ _ => rfl) (by decide +kernel) fl_RX3_15 fw_3_1 rfl rfl ?_
  refine zs_aload_n (pc := 10) (k := 0) (i := 0) C (by decide +kernel) rfl rfl ?_
  refine zs_iconst (pc := 11) (n := 0) (x := 0) C (by decide +kernel) (by decide +kernel) ?_
  refine zs_putI (pc := 12) (i := 18) (ci := 3) (k := 2) C (fun _ _ _ => rfl) (by decide +kernel) fl_RX3_18 fw_3_2 rfl rfl ?_
  refine zs_aload_n (pc := 15) (k := 0) (i := 0) C (by decide +kernel) rfl rfl ?_
  refine zs_iconst (pc := 16) (n := 0) (x := 0) C (by decide +kernel) (by decide +kernel) ?_
  refine zs_putI (pc := 17) (i := 21) (ci := 3) (k := 3) C (fun _ _ _ => rfl) (by decide +kernel) fl_RX3_21 fw_3_3 rfl rfl ?_
  refine zs_aload_n (pc := 20) (k := 0) (i := 0) C (by decide +kernel) rfl rfl ?_
  refine zs_iconst (pc := 21) (n := 0) (x := 0) C (by decide +kernel) (by decide +kernel) ?_
  refine zs_putI (pc := 22) (i := 24) (ci := 3) (k := 4) C (fun _ _ _ => rfl) (by decide +kernel) fl_RX3_24 fw_3_4 rfl rfl ?_
  refine zs_aload_n (pc := 25) (k := 0) (i := 0) C (by decide +kernel) rfl rfl ?_
  refine zs_iconst (pc := 26) (n := 0) (x := 0) C (by decide +kernel) (by decide +kernel) ?_
  refine zs_putI (pc := 27) (i := 27) (ci := 3) (k := 5) C (fun _ _ _ => rfl) (by decide +kernel) fl_RX3_27 fw_3_5 rfl rfl ?_
  refine zs_aload_n (pc := 30) (k := 0) (i := 0) C (by decide +kernel) rfl rfl ?_
  refine zs_getR (o' := 10) (pc := 31) (i := 40) (ci := 3) (k := 8) C (by decide +kernel) fl_RX3_40 rfl rfl rfl ?_
  refine zs_cvVv (pc := 34) (As := []) (st := []) C (fun _ _ _ => rfl) (c_X4_wipe l g 10 rfl) ml_RX3_47 rfl rfl rfl rfl (Nat.le_of_ble_eq_true rfl) ⟨Nat.le_of_ble_eq_true rfl, Nat.le_of_ble_eq_true rfl⟩ ⟨Nat.le_of_ble_eq_true rfl, Nat.le_of_ble_eq_true rfl⟩ (by decide +kernel) ?_
  refine zs_aload_n (pc := 37) (k := 0) (i := 0) C (by decide +kernel) rfl rfl ?_
  refine zs_getR (o' := 12) (pc := 38) (i := 44) (ci := 3) (k := 9) C (by decide +kernel) fl_RX3_44 rfl rfl rfl ?_
  refine zs_cvVv (pc := 41) (As := []) (st := []) C (fun _ _ _ => rfl) (c_X4_wipe l g 12 rfl) ml_RX3_47 rfl rfl rfl rfl (Nat.le_of_ble_eq_true rfl) ⟨Nat.le_of_ble_eq_true rfl, Nat.le_of_ble_eq_true rfl⟩ ⟨Nat.le_of_ble_eq_true rfl, Nat.le_of_ble_eq_true rfl⟩ (by decide +kernel) ?_
  exact zs_retVv (pc := 44) C hr ⟨Nat.le_of_ble_eq_true rfl, Nat.le_of_ble_eq_true rfl⟩ (by decide +kernel)
set_option maxRecDepth 20000 in
theorem c_X4_copyFrom (l : Launch) (g : GC) (o : Nat) (a0 : Nat) (h0 : layL[o]? = some (.inl 4)) (h0_ : layL[a0]? = some (.inl 4)) : ConV l g yX4_copyFrom cX4_copyFrom 2 (rmd 1 0 0) [sR o, sR a0] (fun mm => fX4_copyFrom o a0 mm) := by
  refine zs_ofV (by decide +kernel) (Nat.le_of_ble_eq_true rfl) ?_
  intro p e s m args below meth c C hr
  replace C : Bd g RX4 cX4_copyFrom 2 p s m args meth c := C
  unfold fX4_copyFrom
  refine zs_aload_n (pc := 0) (k := 1) (i := 1) C (by decide +kernel) rfl rfl ?_
  refine zs_getR (o' := (a0 + 1)) (pc := 1) (i := 9) (ci := 4) (k := 0) C (by decide +kernel) fl_RX4_9 h0_ rfl rfl ?_
  refine zs_iconst (pc := 4) (n := 0) (x := 0) C (by decide +kernel) (by decide +kernel) ?_
  refine zs_aload_n (pc := 5) (k := 0) (i := 0) C (by decide +kernel) rfl rfl ?_
  refine zs_getR (o' := (o + 1)) (pc := 6) (i := 9) (ci := 4) (k := 0) C (by decide +kernel) fl_RX4_9 h0 rfl rfl ?_
  refine zs_iconst (pc := 9) (n := 0) (x := 0) C (by decide +kernel) (by decide +kernel) ?_
  refine zs_aload_n (pc := 10) (k := 1) (i := 1) C (by decide +kernel) rfl rfl ?_
  refine zs_getI (pc := 11) (i := 15) (ci := 4) (k := 1) C (by decide +kernel) fl_RX4_15 h0_ rfl (fun x1 => ?_)
  refine zs_copyi (pc := 14) (idx := 40) (o0 := (a0 + 1)) (o1 := (o + 1)) (n0 := 900) (n1 := 900) C (fun _ _ _ => rfl) wf_1105 wf_715 wf_714 wf_168 ⟨Nat.le_of_ble_eq_true rfl, Nat.le_of_ble_eq_true rfl⟩ (ly_o_4_1 h0_) (ly_o_4_1 h0) (by decide +kernel) ?_
  refine zs_aload_n (pc := 17) (k := 0) (i := 0) C (by decide +kernel) rfl rfl ?_
  refine zs_aload_n (pc := 18) (k := 1) (i := 1) C (by decide +kernel) rfl rfl ?_
  refine zs_getI (pc := 19) (i := 15) (ci := 4) (k := 1) C (by decide +kernel) fl_RX4_15 h0_ rfl (fun x2 => ?_)
  refine zs_putI (pc := 22) (i := 15) (ci := 4) (k := 1) C (fun _ _ _ => rfl) (by decide +kernel) fl_RX4_15 fw_4_1 h0 rfl ?_
  refine zs_aload_n (pc := 25) (k := 0) (i := 0) C (by decide +kernel) rfl rfl ?_
  refine zs_aload_n (pc := 26) (k := 1) (i := 1) C (by decide +kernel) rfl rfl ?_
  refine zs_getI (pc := 27) (i := 25) (ci := 4) (k := 4) C (by decide +kernel) fl_RX4_25 h0_ rfl (fun x3 => ?_)
  refine zs_putZ (pc := 30) (i := 25) (ci := 4) (k := 4) C (fun _ _ _ => rfl) (by decide +kernel) fl_RX4_25 fw_4_4 h0 rfl ?_
  refine zs_aload_n (pc := 33) (k := 0) (i := 0) C (by decide +kernel) rfl rfl ?_
  refine zs_aload_n (pc := 34) (k := 1) (i := 1) C (by decide +kernel) rfl rfl ?_
  refine zs_getI (pc := 35) (i := 29) (ci := 4) (k := 5) C (by decide +kernel) fl_RX4_29 h0_ rfl (fun x4 => ?_)
  refine zs_putZ (pc := 38) (i := 29) (ci := 4) (k := 5) C (fun _ _ _ => rfl) (by decide +kernel) fl_RX4_29 fw_4_5 h0 rfl ?_
  refine zs_aload_n (pc := 41) (k := 0) (i := 0) C (by decide +kernel) rfl rfl ?_
  refine zs_aload_n (pc := 42) (k := 1) (i := 1) C (by decide +kernel) rfl rfl ?_
  refine zs_getI (pc := 43) (i := 32) (ci := 4) (k := 6) C (by decide +kernel) fl_RX4_32 h0_ rfl (fun x5 => ?_)
  refine zs_putZ (pc := 46) (i := 32) (ci := 4) (k := 6) C (fun _ _ _ => rfl) (by decide +kernel) fl_RX4_32 fw_4_6 h0 rfl ?_
  exact zs_retVv (pc := 49) C hr ⟨Nat.le_of_ble_eq_true rfl, Nat.le_of_ble_eq_true rfl⟩ (by decide +kernel)
set_option maxRecDepth 20000 in
theorem c_X3_copyFrom (l : Launch) (g : GC) (o : Nat) (a0 : Nat) (h0 : layL[o]? = some (.inl 3)) (h0_ : layL[a0]? = some (.inl 3)) : ConV l g yX3_copyFrom cX3_copyFrom 2 (rmd 2 0 0) [sR o, sR a0] (fun mm => fX3_copyFrom o a0 mm) := by
  refine zs_ofV (by decide +kernel) (Nat.le_of_ble_eq_true rfl) ?_
  intro p e s m args below meth c C hr
  replace C : Bd g RX3 cX3_copyFrom 2 p s m args meth c := C
  unfold fX3_copyFrom
  refine zs_aload_n (pc := 0) (k := 0) (i := 0) C (by decide +kernel) rfl rfl ?_
  refine zs_aload_n (pc := 1) (k := 1) (i := 1) C (by decide +kernel) rfl rfl ?_
  refine zs_getI (pc := 2) (i := 9) (ci := 3) (k := 0) C (by decide +kernel) fl_RX3_9 h0_ rfl (fun x1 => ?_)
  refine zs_putI (pc := 5) (i := 9) (ci := 3) (k := 0) C (fun _ _ _ => rfl) (by decide +kernel) fl_RX3_9 fw_3_0 h0 rfl ?_
  refine zs_aload_n (pc := 8) (k := 0) (i := 0) C (by decide +kernel) rfl rfl ?_
  refine zs_aload_n (pc := 9) (k := 1) (i := 1) C (by decide +kernel) rfl rfl ?_
  refine zs_getI (pc := 10) (i := 15) (ci := 3) (k := 1) C (by decide +kernel) fl_RX3_15 h0_ rfl (fun x2 => ?_)
  refine zs_putI (pc := 13) (i := 15) (ci := 3) (k := 1) C (fun _ _ _ => rfl) (by decide +kernel) fl_RX3_15 fw_3_1 h0 rfl ?_
  refine zs_aload_n (pc := 16) (k := 0) (i := 0) C (by decide +kernel) rfl rfl ?_
  refine zs_aload_n (pc := 17) (k := 1) (i := 1) C (by decide +kernel) rfl rfl ?_
  refine zs_getI (pc := 18) (i := 18) (ci := 3) (k := 2) C (by decide +kernel) fl_RX3_18 h0_ rfl (fun x3 => ?_)
  refine zs_putI (pc := 21) (i := 18) (ci := 3) (k := 2) C (fun _ _ _ => rfl) (by decide +kernel) fl_RX3_18 fw_3_2 h0 rfl ?_
  refine zs_aload_n (pc := 24) (k := 0) (i := 0) C (by decide +kernel) rfl rfl ?_
  refine zs_aload_n (pc := 25) (k := 1) (i := 1) C (by decide +kernel) rfl rfl ?_
  refine zs_getI (pc := 26) (i := 21) (ci := 3) (k := 3) C (by decide +kernel) fl_RX3_21 h0_ rfl (fun x4 => ?_)
  refine zs_putI (pc := 29) (i := 21) (ci := 3) (k := 3) C (fun _ _ _ => rfl) (by decide +kernel) fl_RX3_21 fw_3_3 h0 rfl ?_
  refine zs_aload_n (pc := 32) (k := 0) (i := 0) C (by decide +kernel) rfl rfl ?_
  refine zs_aload_n (pc := 33) (k := 1) (i := 1) C (by decide +kernel) rfl rfl ?_
  refine zs_getI (pc := 34) (i := 24) (ci := 3) (k := 4) C (by decide +kernel) fl_RX3_24 h0_ rfl (fun x5 => ?_)
  refine zs_putI (pc := 37) (i := 24) (ci := 3) (k := 4) C (fun _ _ _ => rfl) (by decide +kernel) fl_RX3_24 fw_3_4 h0 rfl ?_
  refine zs_aload_n (pc := 40) (k := 0) (i := 0) C (by decide +kernel) rfl rfl ?_
  refine zs_aload_n (pc := 41) (k := 1) (i := 1) C (by decide +kernel) rfl rfl ?_
  refine zs_getI (pc := 42) (i := 27) (ci := 3) (k := 5) C (by decide +kernel) fl_RX3_27 h0_ rfl (fun x6 => ?_)
  refine zs_putI (pc := 45) (i := 27) (ci := 3) (k := 5) C (fun _ _ _ => rfl) (by decide +kernel) fl_RX3_27 fw_3_5 h0 rfl ?_
  refine zs_aload_n (pc := 48) (k := 1) (i := 1) C (by decide +kernel) rfl rfl ?_
  refine zs_getR (o' := (a0 + 1)) (pc := 49) (i := 30) (ci := 3) (k := 6) C (by decide +kernel) fl_RX3_30 h0_ rfl rfl ?_
  refine zs_iconst (pc := 52) (n := 0) (x := 0) C (by decide +kernel) (by decide +kernel) ?_
  refine zs_aload_n (pc := 53) (k := 0) (i := 0) C (by decide +kernel) rfl rfl ?_
  refine zs_getR (o' := (o + 1)) (pc := 54) (i := 30) (ci := 3) (k := 6) C (by decide +kernel) fl_RX3_30 h0 rfl rfl ?_
  refine zs_iconst (pc := 57) (n := 0) (x := 0) C (by decide +kernel) (by decide +kernel) ?_
  refine zs_bipush (pc := 58) (n := 8) (x := 8) C (by decide +kernel) (by decide +kernel) ?_
  refine zs_copyi (pc := 60) (idx := 50) (o0 := (a0 + 1)) (o1 := (o + 1)) (n0 := 8) (n1 := 8) C (fun _ _ _ => rfl) wf_1100 wf_715 wf_714 wf_168 ⟨Nat.le_of_ble_eq_true rfl, Nat.le_of_ble_eq_true rfl⟩ (ly_o_3_1 h0_) (ly_o_3_1 h0) (by decide +kernel) ?_
  refine zs_aload_n (pc := 63) (k := 1) (i := 1) C (by decide +kernel) rfl rfl ?_
  refine zs_getR (o' := (a0 + 2)) (pc := 64) (i := 34) (ci := 3) (k := 7) C (by decide +kernel) fl_RX3_34 h0_ rfl rfl ?_
  refine zs_iconst (pc := 67) (n := 0) (x := 0) C (by decide +kernel) (by decide +kernel) ?_
  refine zs_aload_n (pc := 68) (k := 0) (i := 0) C (by decide +kernel) rfl rfl ?_
  refine zs_getR (o' := (o + 2)) (pc := 69) (i := 34) (ci := 3) (k := 7) C (by decide +kernel) fl_RX3_34 h0 rfl rfl ?_
  refine zs_iconst (pc := 72) (n := 0) (x := 0) C (by decide +kernel) (by decide +kernel) ?_
  refine zs_iconst (pc := 73) (n := 4) (x := 4) C (by decide +kernel) (by decide +kernel) ?_
  refine zs_copyi (pc := 74) (idx := 50) (o0 := (a0 + 2)) (o1 := (o + 2)) (n0 := 4) (n1 := 4) C (fun _ _ _ => rfl) wf_1100 wf_715 wf_714 wf_168 ⟨Nat.le_of_ble_eq_true rfl, Nat.le_of_ble_eq_true rfl⟩ (ly_o_3_2 h0_) (ly_o_3_2 h0) (by decide +kernel) ?_
  refine zs_aload_n (pc := 77) (k := 0) (i := 0) C (by decide +kernel) rfl rfl ?_
  refine zs_getR (o' := (o + 3)) (pc := 78) (i := 40) (ci := 3) (k := 8) C (by decide +kernel) fl_RX3_40 h0 rfl rfl ?_
  refine zs_aload_n (pc := 81) (k := 1) (i := 1) C (by decide +kernel) rfl rfl ?_
  refine zs_getR (o' := (a0 + 3)) (pc := 82) (i := 40) (ci := 3) (k := 8) C (by decide +kernel) fl_RX3_40 h0_ rfl rfl ?_
  refine zs_cvVv (pc := 85) (As := [sR (a0 + 3)]) (st := []) C (fun _ _ _ => rfl) (c_X4_copyFrom l g (o + 3) (a0 + 3) (ly_o_3_3 h0) (ly_o_3_3 h0_)) ml_RX3_56 (ly_o_3_3 h0) rfl rfl rfl (Nat.le_of_ble_eq_true rfl) ⟨Nat.le_of_ble_eq_true rfl, Nat.le_of_ble_eq_true rfl⟩ ⟨Nat.le_of_ble_eq_true rfl, Nat.le_of_ble_eq_true rfl⟩ (by decide +kernel) ?_
  refine zs_aload_n (pc := 88) (k := 0) (i := 0) C (by decide +kernel) rfl rfl ?_
  refine zs_getR (o' := (o + 5)) (pc := 89) (i := 44) (ci := 3) (k := 9) C (by decide +kernel) fl_RX3_44 h0 rfl rfl ?_
  refine zs_aload_n (pc := 92) (k := 1) (i := 1) C (by decide +kernel) rfl rfl ?_
  refine zs_getR (o' := (a0 + 5)) (pc := 93) (i := 44) (ci := 3) (k := 9) C (by decide +kernel) fl_RX3_44 h0_ rfl rfl ?_
  refine zs_cvVv (pc := 96) (As := [sR (a0 + 5)]) (st := []) C (fun _ _ _ => rfl) (c_X4_copyFrom l g (o + 5) (a0 + 5) (ly_o_3_5 h0) (ly_o_3_5 h0_)) ml_RX3_56 (ly_o_3_5 h0) rfl rfl rfl (Nat.le_of_ble_eq_true rfl) ⟨Nat.le_of_ble_eq_true rfl, Nat.le_of_ble_eq_true rfl⟩ ⟨Nat.le_of_ble_eq_true rfl, Nat.le_of_ble_eq_true rfl⟩ (by decide +kernel) ?_
  exact zs_retVv (pc := 99) C hr ⟨Nat.le_of_ble_eq_true rfl, Nat.le_of_ble_eq_true rfl⟩ (by decide +kernel)
set_option maxRecDepth 20000 in
theorem c_X3_houseStandsAt (l : Launch) (g : GC) (a0 : Int) : ConR l g yX3_houseStandsAt cX3_houseStandsAt 3 (some .boolean) (rmd 1 0 0) [sR 20, sI a0] (fun mm => fX3_houseStandsAt a0 mm) := by
  refine zs_ofR (by decide +kernel) (Nat.le_of_ble_eq_true rfl) ?_
  intro p e s m args below meth c C hr
  replace C : Bd g RX3 cX3_houseStandsAt 3 p s m args meth c := C
  unfold fX3_houseStandsAt
  refine zs_iconst (pc := 0) (n := 0) (x := 0) C (by decide +kernel) (by decide +kernel) ?_
  refine zs_istore_n (pc := 1) (k := 2) (i := 2) (ls' := [(2, sI 0), (0, sR 20), (1, sI a0)]) C (by decide +kernel) rfl (Nat.le_of_ble_eq_true rfl) rfl ?_
  refine zs_sub (ls' := [(0, sR 20), (1, sI a0), (2, sI 0)]) ⟨rfl, rfl, rfl, trivial⟩ ?_
  refine zs_lp (pc := 2) (fun (t1 : Int) => [(0, sR 20), (1, sI a0), (2, sI t1)]) (fun _ => []) (fun K2 hK2 t1 => ?_) BIG 0
  refine zs_iload_n (pc := 2) (k := 2) (i := 2) C (by decide +kernel) rfl rfl ?_
  refine zs_aload_n (pc := 3) (k := 0) (i := 0) C (by decide +kernel) rfl rfl ?_
  refine zs_getI (pc := 4) (i := 24) (ci := 3) (k := 4) C (by decide +kernel) fl_RX3_24 rfl rfl (fun x3 => ?_)
  refine zs_jn (pJ := 34) (kJ := 0) (sJ := 0) (fun t4 => []) (fun t4 => []) (fun t4 => ?_) (fun J5 hJ5 => ?_)
  · refine zs_iconst (pc := 34) (n := 0) (x := 0) C (by decide +kernel) (by decide +kernel) ?_
    exact zs_retRz (pc := 35) C (by decide) hr ⟨Nat.le_of_ble_eq_true rfl, Nat.le_of_ble_eq_true rfl⟩ (by decide +kernel)
  · refine zs_icmp_ge (pc := 7) (off := 27) (tgt := 34) C (by decide +kernel) (by decide) ?_ ?_
    · exact zs_goj (hJ5 ()) trivial
    · refine zs_iload_n (pc := 10) (k := 2) (i := 2) C (by decide +kernel) rfl rfl ?_
      refine zs_bipush (pc := 11) (n := 8) (x := 8) C (by decide +kernel) (by decide +kernel) ?_
      refine zs_icmp_ge (pc := 13) (off := 21) (tgt := 34) C (by decide +kernel) (by decide) ?_ ?_
      · exact zs_goj (hJ5 ()) trivial
      · refine zs_aload_n (pc := 16) (k := 0) (i := 0) C (by decide +kernel) rfl rfl ?_
        refine zs_getR (o' := 21) (pc := 17) (i := 30) (ci := 3) (k := 6) C (by decide +kernel) fl_RX3_30 rfl rfl rfl ?_
        refine zs_iload_n (pc := 20) (k := 2) (i := 2) C (by decide +kernel) rfl rfl ?_
        refine zs_iald (pc := 21) (o := 21) (n := 8) C (by decide +kernel) rfl (fun hinx6 x6 => ?_)
        refine zs_iload_n (pc := 22) (k := 1) (i := 1) C (by decide +kernel) rfl rfl ?_
        refine zs_icmp_ne (pc := 23) (off := 5) (tgt := 28) C (by decide +kernel) (by decide) ?_ ?_
        · refine zs_iinc (pc := 28) (i := 2) (n := 1) (y := w32 (t1 + 1)) (ls' := [(2, sI (w32 (t1 + 1))), (0, sR 20), (1, sI a0)]) C (by decide +kernel) rfl rfl (Nat.le_of_ble_eq_true rfl) rfl ?_
          refine zs_goto (pc := 31) (off := (-29)) (tgt := 2) C (by decide +kernel) (by decide) ?_
          exact zs_goj (hK2 (w32 (t1 + 1))) ⟨rfl, rfl, rfl, trivial⟩
        · refine zs_iconst (pc := 26) (n := 1) (x := 1) C (by decide +kernel) (by decide +kernel) ?_
          exact zs_retRz (pc := 27) C (by decide) hr ⟨Nat.le_of_ble_eq_true rfl, Nat.le_of_ble_eq_true rfl⟩ (by decide +kernel)
set_option maxRecDepth 20000 in
theorem c_X4_begin (l : Launch) (g : GC) (o : Nat) (a0 : Int) (a1 : Int) (h0 : layL[o]? = some (.inl 4)) : ConV l g yX4_begin cX4_begin 3 (rmd 2 0 0) [sR o, sI a0, sI a1] (fun mm => fX4_begin o a0 a1 mm) := by
  refine zs_ofV (by decide +kernel) (Nat.le_of_ble_eq_true rfl) ?_
  intro p e s m args below meth c C hr
  replace C : Bd g RX4 cX4_begin 3 p s m args meth c := C
  unfold fX4_begin
  refine zs_aload_n (pc := 0) (k := 0) (i := 0) C (by decide +kernel) rfl rfl ?_
  refine zs_cvVv (pc := 1) (As := []) (st := []) C (fun _ _ _ => rfl) (c_X4_wipe l g o h0) ml_RX4_35 h0 rfl rfl rfl (Nat.le_of_ble_eq_true rfl) ⟨Nat.le_of_ble_eq_true rfl, Nat.le_of_ble_eq_true rfl⟩ ⟨Nat.le_of_ble_eq_true rfl, Nat.le_of_ble_eq_true rfl⟩ (by decide +kernel) ?_
  refine zs_aload_n (pc := 4) (k := 0) (i := 0) C (by decide +kernel) rfl rfl ?_
  refine zs_iconst (pc := 5) (n := 1) (x := 1) C (by decide +kernel) (by decide +kernel) ?_
  refine zs_putZ (pc := 6) (i := 25) (ci := 4) (k := 4) C (fun _ _ _ => rfl) (by decide +kernel) fl_RX4_25 fw_4_4 h0 rfl ?_
  refine zs_aload_n (pc := 9) (k := 0) (i := 0) C (by decide +kernel) rfl rfl ?_
  refine zs_iload_n (pc := 10) (k := 1) (i := 1) C (by decide +kernel) rfl rfl ?_
  refine zs_putI (pc := 11) (i := 19) (ci := 4) (k := 2) C (fun _ _ _ => rfl) (by decide +kernel) fl_RX4_19 fw_4_2 h0 rfl ?_
  refine zs_aload_n (pc := 14) (k := 0) (i := 0) C (by decide +kernel) rfl rfl ?_
  refine zs_iload_n (pc := 15) (k := 2) (i := 2) C (by decide +kernel) rfl rfl ?_
  refine zs_putI (pc := 16) (i := 22) (ci := 4) (k := 3) C (fun _ _ _ => rfl) (by decide +kernel) fl_RX4_22 fw_4_3 h0 rfl ?_
  exact zs_retVv (pc := 19) C hr ⟨Nat.le_of_ble_eq_true rfl, Nat.le_of_ble_eq_true rfl⟩ (by decide +kernel)
set_option maxRecDepth 20000 in
theorem c_X4_knows (l : Launch) (g : GC) (o : Nat) (a0 : Int) (h0 : layL[o]? = some (.inl 4)) : ConR l g yX4_knows cX4_knows 2 (some .boolean) (rmd 1 0 0) [sR o, sI a0] (fun mm => fX4_knows o a0 mm) := by
  refine zs_ofR (by decide +kernel) (Nat.le_of_ble_eq_true rfl) ?_
  intro p e s m args below meth c C hr
  replace C : Bd g RX4 cX4_knows 2 p s m args meth c := C
  unfold fX4_knows
  refine zs_iload_n (pc := 0) (k := 1) (i := 1) C (by decide +kernel) rfl rfl ?_
  refine zs_aload_n (pc := 1) (k := 0) (i := 0) C (by decide +kernel) rfl rfl ?_
  refine zs_getI (pc := 2) (i := 19) (ci := 4) (k := 2) C (by decide +kernel) fl_RX4_19 h0 rfl (fun x1 => ?_)
  refine zs_jn (pJ := 21) (kJ := 0) (sJ := 0) (fun t2 => []) (fun t2 => [sI t2]) (fun t2 => ?_) (fun J3 hJ3 => ?_)
  · refine zs_chk (fun _ hx => ?_)
    exact zs_retRz (pc := 21) C hx hr ⟨Nat.le_of_ble_eq_true rfl, Nat.le_of_ble_eq_true rfl⟩ (by decide +kernel)
  · refine zs_jn (pJ := 20) (kJ := 0) (sJ := 0) (fun t4 => []) (fun t4 => []) (fun t4 => ?_) (fun J5 hJ5 => ?_)
    · refine zs_iconst (pc := 20) (n := 0) (x := 0) C (by decide +kernel) (by decide +kernel) ?_
      exact zs_goj (hJ3 0) trivial
    · refine zs_icmp_lt (pc := 5) (off := 15) (tgt := 20) C (by decide +kernel) (by decide) ?_ ?_
      · exact zs_goj (hJ5 ()) trivial
      · refine zs_iload_n (pc := 8) (k := 1) (i := 1) C (by decide +kernel) rfl rfl ?_
        refine zs_aload_n (pc := 9) (k := 0) (i := 0) C (by decide +kernel) rfl rfl ?_
        refine zs_getI (pc := 10) (i := 22) (ci := 4) (k := 3) C (by decide +kernel) fl_RX4_22 h0 rfl (fun x6 => ?_)
        refine zs_icmp_gt (pc := 13) (off := 7) (tgt := 20) C (by decide +kernel) (by decide) ?_ ?_
        · exact zs_goj (hJ5 ()) trivial
        · refine zs_iconst (pc := 16) (n := 1) (x := 1) C (by decide +kernel) (by decide +kernel) ?_
          refine zs_goto (pc := 17) (off := 4) (tgt := 21) C (by decide +kernel) (by decide) ?_
          exact zs_goj (hJ3 1) trivial
set_option maxRecDepth 20000 in
theorem c_X4_put (l : Launch) (g : GC) (o : Nat) (a0 : Int) (h0 : layL[o]? = some (.inl 4)) : ConV l g yX4_put cX4_put 2 (rmd 1 0 0) [sR o, sI a0] (fun mm => fX4_put o a0 mm) := by
  refine zs_ofV (by decide +kernel) (Nat.le_of_ble_eq_true rfl) ?_
  intro p e s m args below meth c C hr
  replace C : Bd g RX4 cX4_put 2 p s m args meth c := C
  unfold fX4_put
  refine zs_aload_n (pc := 0) (k := 0) (i := 0) C (by decide +kernel) rfl rfl ?_
  refine zs_dup (pc := 1) C rfl (by decide +kernel) ?_
  refine zs_getI (pc := 2) (i := 29) (ci := 4) (k := 5) C (by decide +kernel) fl_RX4_29 h0 rfl (fun x1 => ?_)
  refine zs_iload_n (pc := 5) (k := 1) (i := 1) C (by decide +kernel) rfl rfl ?_
  refine zs_sipush (pc := 6) (n := 131) (x := 131) C (by decide +kernel) (by decide +kernel) ?_
  refine zs_jn (pJ := 17) (kJ := 0) (sJ := 0) (fun t2 => [(0, sR o), (1, sI a0)]) (fun t2 => [sI t2, sI x1, sR o]) (fun t2 => ?_) (fun J3 hJ3 => ?_)
  · refine zs_ior (pc := 17) C (by decide +kernel) ?_
    refine zs_putZ (pc := 18) (i := 29) (ci := 4) (k := 5) C (fun _ _ _ => rfl) (by decide +kernel) fl_RX4_29 fw_4_5 h0 rfl ?_
    refine zs_aload_n (pc := 21) (k := 0) (i := 0) C (by decide +kernel) rfl rfl ?_
    refine zs_dup (pc := 22) C rfl (by decide +kernel) ?_
    refine zs_getI (pc := 23) (i := 32) (ci := 4) (k := 6) C (by decide +kernel) fl_RX4_32 h0 rfl (fun x4 => ?_)
    refine zs_iload_n (pc := 26) (k := 1) (i := 1) C (by decide +kernel) rfl rfl ?_
    refine zs_sipush (pc := 27) (n := 130) (x := 130) C (by decide +kernel) (by decide +kernel) ?_
    refine zs_jn (pJ := 38) (kJ := 0) (sJ := 0) (fun t5 => [(0, sR o), (1, sI a0)]) (fun t5 => [sI t5, sI x4, sR o]) (fun t5 => ?_) (fun J6 hJ6 => ?_)
    · refine zs_ior (pc := 38) C (by decide +kernel) ?_
      refine zs_putZ (pc := 39) (i := 32) (ci := 4) (k := 6) C (fun _ _ _ => rfl) (by decide +kernel) fl_RX4_32 fw_4_6 h0 rfl ?_
      refine zs_aload_n (pc := 42) (k := 0) (i := 0) C (by decide +kernel) rfl rfl ?_
      refine zs_getI (pc := 43) (i := 15) (ci := 4) (k := 1) C (by decide +kernel) fl_RX4_15 h0 rfl (fun x7 => ?_)
      refine zs_sipush (pc := 46) (n := 900) (x := 900) C (by decide +kernel) (by decide +kernel) ?_
      refine zs_jn (pJ := 72) (kJ := 0) (sJ := 0) (fun t8 => []) (fun t8 => []) (fun t8 => ?_) (fun J9 hJ9 => ?_)
      · exact zs_retVv (pc := 72) C hr ⟨Nat.le_of_ble_eq_true rfl, Nat.le_of_ble_eq_true rfl⟩ (by decide +kernel)
      · refine zs_icmp_ge (pc := 49) (off := 23) (tgt := 72) C (by decide +kernel) (by decide) ?_ ?_
        · exact zs_goj (hJ9 ()) trivial
        · refine zs_aload_n (pc := 52) (k := 0) (i := 0) C (by decide +kernel) rfl rfl ?_
          refine zs_getR (o' := (o + 1)) (pc := 53) (i := 9) (ci := 4) (k := 0) C (by decide +kernel) fl_RX4_9 h0 rfl rfl ?_
          refine zs_aload_n (pc := 56) (k := 0) (i := 0) C (by decide +kernel) rfl rfl ?_
          refine zs_getI (pc := 57) (i := 15) (ci := 4) (k := 1) C (by decide +kernel) fl_RX4_15 h0 rfl (fun x10 => ?_)
          refine zs_iload_n (pc := 60) (k := 1) (i := 1) C (by decide +kernel) rfl rfl ?_
          refine zs_iast (pc := 61) (o := (o + 1)) (n := 900) C (fun _ _ _ => rfl) (by decide +kernel) (ly_o_4_1 h0) ?_
          refine zs_aload_n (pc := 62) (k := 0) (i := 0) C (by decide +kernel) rfl rfl ?_
          refine zs_dup (pc := 63) C rfl (by decide +kernel) ?_
          refine zs_getI (pc := 64) (i := 15) (ci := 4) (k := 1) C (by decide +kernel) fl_RX4_15 h0 rfl (fun x11 => ?_)
          refine zs_iconst (pc := 67) (n := 1) (x := 1) C (by decide +kernel) (by decide +kernel) ?_
          refine zs_iadd (pc := 68) C (by decide +kernel) ?_
          refine zs_putI (pc := 69) (i := 15) (ci := 4) (k := 1) C (fun _ _ _ => rfl) (by decide +kernel) fl_RX4_15 fw_4_1 h0 rfl ?_
          exact zs_goj (hJ9 ()) trivial
    · refine zs_icmp_ne (pc := 30) (off := 7) (tgt := 37) C (by decide +kernel) (by decide) ?_ ?_
      · refine zs_iconst (pc := 37) (n := 0) (x := 0) C (by decide +kernel) (by decide +kernel) ?_
        exact zs_goj (hJ6 0) ⟨rfl, rfl, trivial⟩
      · refine zs_iconst (pc := 33) (n := 1) (x := 1) C (by decide +kernel) (by decide +kernel) ?_
        refine zs_goto (pc := 34) (off := 4) (tgt := 38) C (by decide +kernel) (by decide) ?_
        exact zs_goj (hJ6 1) ⟨rfl, rfl, trivial⟩
  · refine zs_icmp_ne (pc := 9) (off := 7) (tgt := 16) C (by decide +kernel) (by decide) ?_ ?_
    · refine zs_iconst (pc := 16) (n := 0) (x := 0) C (by decide +kernel) (by decide +kernel) ?_
      exact zs_goj (hJ3 0) ⟨rfl, rfl, trivial⟩
    · refine zs_iconst (pc := 12) (n := 1) (x := 1) C (by decide +kernel) (by decide +kernel) ?_
      refine zs_goto (pc := 13) (off := 4) (tgt := 17) C (by decide +kernel) (by decide) ?_
      exact zs_goj (hJ3 1) ⟨rfl, rfl, trivial⟩
set_option maxRecDepth 20000 in
theorem c_X5_wipe (l : Launch) (g : GC)  : ConV l g yX5_wipe cX5_wipe 1 (rmd 2 0 0) [sR 14] (fun mm => fX5_wipe  mm) := by
  refine zs_ofV (by decide +kernel) (Nat.le_of_ble_eq_true rfl) ?_
  intro p e s m args below meth c C hr
  replace C : Bd g RX5 cX5_wipe 1 p s m args meth c := C
  unfold fX5_wipe
  refine zs_aload_n (pc := 0) (k := 0) (i := 0) C (by decide +kernel) rfl rfl ?_
  refine zs_iconst (pc := 1) (n := 0) (x := 0) C (by decide +kernel) (by decide +kernel) ?_
  refine zs_putI (pc := 2) (i := 9) (ci := 5) (k := 0) C (fun _ _ _ => rfl) (by decide +kernel) fl_RX5_9 fw_5_0 rfl rfl ?_
  refine zs_aload_n (pc := 5) (k := 0) (i := 0) C (by decide +kernel) rfl rfl ?_
  refine zs_iconst (pc := 6) (n := 0) (x := 0) C (by decide +kernel) (by decide +kernel) ?_
  refine zs_putI (pc := 7) (i := 15) (ci := 5) (k := 1) C (fun _ _ _ => rfl) (by decide +kernel) fl_RX5_15 fw_5_1 rfl rfl ?_
  refine zs_aload_n (pc := 10) (k := 0) (i := 0) C (by decide +kernel) rfl rfl ?_
  refine zs_iconst (pc := 11) (n := 0) (x := 0) C (by decide +kernel) (by decide +kernel) ?_
  refine zs_putI (pc := 12) (i := 18) (ci := 5) (k := 2) C (fun _ _ _ => rfl) (by decide +kernel) fl_RX5_18 fw_5_2 rfl rfl ?_
  refine zs_aload_n (pc := 15) (k := 0) (i := 0) C (by decide +kernel) rfl rfl ?_
  refine zs_iconst (pc := 16) (n := 0) (x := 0) C (by decide +kernel) (by decide +kernel) ?_
  refine zs_putI (pc := 17) (i := 21) (ci := 5) (k := 3) C (fun _ _ _ => rfl) (by decide +kernel) fl_RX5_21 fw_5_3 rfl rfl ?_
  refine zs_aload_n (pc := 20) (k := 0) (i := 0) C (by decide +kernel) rfl rfl ?_
  refine zs_getR (o' := 15) (pc := 21) (i := 24) (ci := 5) (k := 4) C (by decide +kernel) fl_RX5_24 rfl rfl rfl ?_
  refine zs_iconst (pc := 24) (n := 0) (x := 0) C (by decide +kernel) (by decide +kernel) ?_
  refine zs_csVv (pc := 25) (As := [sR 15, sI 0]) (st := []) C (fun _ _ _ => rfl) (c_J7_fill_53178 l g 15 4 0 rfl) ml_RX5_34 rfl rfl (Nat.le_of_ble_eq_true rfl) ⟨Nat.le_of_ble_eq_true rfl, Nat.le_of_ble_eq_true rfl⟩ ⟨Nat.le_of_ble_eq_true rfl, Nat.le_of_ble_eq_true rfl⟩ (by decide +kernel) ?_
  refine zs_aload_n (pc := 28) (k := 0) (i := 0) C (by decide +kernel) rfl rfl ?_
  refine zs_getR (o' := 16) (pc := 29) (i := 28) (ci := 5) (k := 5) C (by decide +kernel) fl_RX5_28 rfl rfl rfl ?_
  refine zs_iconst (pc := 32) (n := 0) (x := 0) C (by decide +kernel) (by decide +kernel) ?_
  refine zs_csVv (pc := 33) (As := [sR 16, sI 0]) (st := []) C (fun _ _ _ => rfl) (c_J7_fill_53178 l g 16 4 0 rfl) ml_RX5_34 rfl rfl (Nat.le_of_ble_eq_true rfl) ⟨Nat.le_of_ble_eq_true rfl, Nat.le_of_ble_eq_true rfl⟩ ⟨Nat.le_of_ble_eq_true rfl, Nat.le_of_ble_eq_true rfl⟩ (by decide +kernel) ?_
  refine zs_aload_n (pc := 36) (k := 0) (i := 0) C (by decide +kernel) rfl rfl ?_
  refine zs_getR (o' := 17) (pc := 37) (i := 31) (ci := 5) (k := 6) C (by decide +kernel) fl_RX5_31 rfl rfl rfl ?_
  refine zs_iconst (pc := 40) (n := 0) (x := 0) C (by decide +kernel) (by decide +kernel) ?_
  refine zs_csVv (pc := 41) (As := [sR 17, sI 0]) (st := []) C (fun _ _ _ => rfl) (c_J7_fill_53178 l g 17 4 0 rfl) ml_RX5_34 rfl rfl (Nat.le_of_ble_eq_true rfl) ⟨Nat.le_of_ble_eq_true rfl, Nat.le_of_ble_eq_true rfl⟩ ⟨Nat.le_of_ble_eq_true rfl, Nat.le_of_ble_eq_true rfl⟩ (by decide +kernel) ?_
  exact zs_retVv (pc := 44) C hr ⟨Nat.le_of_ble_eq_true rfl, Nat.le_of_ble_eq_true rfl⟩ (by decide +kernel)
set_option maxRecDepth 20000 in
theorem c_X5_letRain (l : Launch) (g : GC) (a0 : Int) (a1 : Int) : ConV l g yX5_letRain cX5_letRain 3 (rmd 1 0 0) [sR 27, sI a0, sI a1] (fun mm => fX5_letRain a0 a1 mm) := by
  refine zs_ofV (by decide +kernel) (Nat.le_of_ble_eq_true rfl) ?_
  intro p e s m args below meth c C hr
  replace C : Bd g RX5 cX5_letRain 3 p s m args meth c := C
  unfold fX5_letRain
  refine zs_aload_n (pc := 0) (k := 0) (i := 0) C (by decide +kernel) rfl rfl ?_
  refine zs_iload_n (pc := 1) (k := 1) (i := 1) C (by decide +kernel) rfl rfl ?_
  refine zs_putI (pc := 2) (i := 15) (ci := 5) (k := 1) C (fun _ _ _ => rfl) (by decide +kernel) fl_RX5_15 fw_5_1 rfl rfl ?_
  refine zs_aload_n (pc := 5) (k := 0) (i := 0) C (by decide +kernel) rfl rfl ?_
  refine zs_aload_n (pc := 6) (k := 0) (i := 0) C (by decide +kernel) rfl rfl ?_
  refine zs_getI (pc := 7) (i := 9) (ci := 5) (k := 0) C (by decide +kernel) fl_RX5_9 rfl rfl (fun x1 => ?_)
  refine zs_iload_n (pc := 10) (k := 2) (i := 2) C (by decide +kernel) rfl rfl ?_
  refine zs_iadd (pc := 11) C (by decide +kernel) ?_
  refine zs_putI (pc := 12) (i := 18) (ci := 5) (k := 2) C (fun _ _ _ => rfl) (by decide +kernel) fl_RX5_18 fw_5_2 rfl rfl ?_
  exact zs_retVv (pc := 15) C hr ⟨Nat.le_of_ble_eq_true rfl, Nat.le_of_ble_eq_true rfl⟩ (by decide +kernel)
set_option maxRecDepth 20000 in
theorem c_X6_token (l : Launch) (g : GC)  : ConR l g yX6_token cX6_token 1 (some .int) (rmd 1 0 0) [sR 2] (fun mm => fX6_token  mm) := by
  refine zs_ofR (by decide +kernel) (Nat.le_of_ble_eq_true rfl) ?_
  intro p e s m args below meth c C hr
  replace C : Bd g RX6 cX6_token 1 p s m args meth c := C
  unfold fX6_token
  refine zs_aload_n (pc := 0) (k := 0) (i := 0) C (by decide +kernel) rfl rfl ?_
  refine zs_getI (pc := 1) (i := 32) (ci := 6) (k := 3) C (by decide +kernel) fl_RX6_32 rfl rfl (fun x1 => ?_)
  refine zs_jn (pJ := 33) (kJ := 0) (sJ := 0) (fun t2 => []) (fun t2 => [sI t2]) (fun t2 => ?_) (fun J3 hJ3 => ?_)
  · exact zs_retRi (pc := 33) C hr ⟨Nat.le_of_ble_eq_true rfl, Nat.le_of_ble_eq_true rfl⟩ (by decide +kernel)
  · refine zs_jn (pJ := 17) (kJ := 0) (sJ := 0) (fun t4 => []) (fun t4 => []) (fun t4 => ?_) (fun J5 hJ5 => ?_)
    · refine zs_iconst (pc := 17) (n := 0) (x := 0) C (by decide +kernel) (by decide +kernel) ?_
      refine zs_goto (pc := 18) (off := 15) (tgt := 33) C (by decide +kernel) (by decide) ?_
      exact zs_goj (hJ3 0) trivial
    · refine zs_if_ne (pc := 4) (off := 13) (tgt := 17) C (by decide +kernel) (by decide) ?_ ?_
      · exact zs_goj (hJ5 ()) trivial
      · refine zs_aload_n (pc := 7) (k := 0) (i := 0) C (by decide +kernel) rfl rfl ?_
        refine zs_getI (pc := 8) (i := 39) (ci := 6) (k := 5) C (by decide +kernel) fl_RX6_39 rfl rfl (fun x6 => ?_)
        refine zs_sipush (pc := 11) (n := 900) (x := 900) C (by decide +kernel) (by decide +kernel) ?_
        refine zs_icmp_le (pc := 14) (off := 7) (tgt := 21) C (by decide +kernel) (by decide) ?_ ?_
        · refine zs_aload_n (pc := 21) (k := 0) (i := 0) C (by decide +kernel) rfl rfl ?_
          refine zs_getR (o' := 3) (pc := 22) (i := 12) (ci := 6) (k := 0) C (by decide +kernel) fl_RX6_12 rfl rfl rfl ?_
          refine zs_getR (o' := 4) (pc := 25) (i := 79) (ci := 8) (k := 0) C (by decide +kernel) fl_RX6_79 rfl rfl rfl ?_
          refine zs_aload_n (pc := 28) (k := 0) (i := 0) C (by decide +kernel) rfl rfl ?_
          refine zs_getI (pc := 29) (i := 39) (ci := 6) (k := 5) C (by decide +kernel) fl_RX6_39 rfl rfl (fun x7 => ?_)
          refine zs_iald (pc := 32) (o := 4) (n := 901) C (by decide +kernel) rfl (fun hinx8 x8 => ?_)
          exact zs_goj (hJ3 x8) trivial
        · exact zs_goj (hJ5 ()) trivial
set_option maxRecDepth 20000 in
theorem c_X6_refuse (l : Launch) (g : GC) (a0 : Int) : ConV l g yX6_refuse cX6_refuse 2 (rmd 1 0 0) [sR 2, sI a0] (fun mm => fX6_refuse a0 mm) := by
  refine zs_ofV (by decide +kernel) (Nat.le_of_ble_eq_true rfl) ?_
  intro p e s m args below meth c C hr
  replace C : Bd g RX6 cX6_refuse 2 p s m args meth c := C
  unfold fX6_refuse
  refine zs_aload_n (pc := 0) (k := 0) (i := 0) C (by decide +kernel) rfl rfl ?_
  refine zs_getI (pc := 1) (i := 32) (ci := 6) (k := 3) C (by decide +kernel) fl_RX6_32 rfl rfl (fun x1 => ?_)
  refine zs_jn (pJ := 58) (kJ := 0) (sJ := 0) (fun t2 => []) (fun t2 => []) (fun t2 => ?_) (fun J3 hJ3 => ?_)
  · exact zs_retVv (pc := 58) C hr ⟨Nat.le_of_ble_eq_true rfl, Nat.le_of_ble_eq_true rfl⟩ (by decide +kernel)
  · refine zs_if_ne (pc := 4) (off := 54) (tgt := 58) C (by decide +kernel) (by decide) ?_ ?_
    · exact zs_goj (hJ3 ()) trivial
    · refine zs_aload_n (pc := 7) (k := 0) (i := 0) C (by decide +kernel) rfl rfl ?_
      refine zs_getI (pc := 8) (i := 39) (ci := 6) (k := 5) C (by decide +kernel) fl_RX6_39 rfl rfl (fun x4 => ?_)
      refine zs_sipush (pc := 11) (n := 900) (x := 900) C (by decide +kernel) (by decide +kernel) ?_
      refine zs_icmp_gt (pc := 14) (off := 44) (tgt := 58) C (by decide +kernel) (by decide) ?_ ?_
      · exact zs_goj (hJ3 ()) trivial
      · refine zs_aload_n (pc := 17) (k := 0) (i := 0) C (by decide +kernel) rfl rfl ?_
        refine zs_aload_n (pc := 18) (k := 0) (i := 0) C (by decide +kernel) rfl rfl ?_
        refine zs_getR (o' := 3) (pc := 19) (i := 12) (ci := 6) (k := 0) C (by decide +kernel) fl_RX6_12 rfl rfl rfl ?_
        refine zs_getR (o' := 4) (pc := 22) (i := 79) (ci := 8) (k := 0) C (by decide +kernel) fl_RX6_79 rfl rfl rfl ?_
        refine zs_aload_n (pc := 25) (k := 0) (i := 0) C (by decide +kernel) rfl rfl ?_
        refine zs_getI (pc := 26) (i := 39) (ci := 6) (k := 5) C (by decide +kernel) fl_RX6_39 rfl rfl (fun x5 => ?_)
        refine zs_iald (pc := 29) (o := 4) (n := 901) C (by decide +kernel) rfl (fun hinx6 x6 => ?_)
        refine zs_iconst (pc := 30) (n := 2) (x := 2) C (by decide +kernel) (by decide +kernel) ?_
        refine zs_jn (pJ := 39) (kJ := 0) (sJ := 0) (fun t7 => [(0, sR 2)]) (fun t7 => [sI t7, sR 2]) (fun t7 => ?_) (fun J8 hJ8 => ?_)
        · refine zs_putI (pc := 39) (i := 32) (ci := 6) (k := 3) C (fun _ _ _ => rfl) (by decide +kernel) fl_RX6_32 fw_6_3 rfl rfl ?_
          refine zs_aload_n (pc := 42) (k := 0) (i := 0) C (by decide +kernel) rfl rfl ?_
          refine zs_aload_n (pc := 43) (k := 0) (i := 0) C (by decide +kernel) rfl rfl ?_
          refine zs_getR (o' := 3) (pc := 44) (i := 12) (ci := 6) (k := 0) C (by decide +kernel) fl_RX6_12 rfl rfl rfl ?_
          refine zs_getR (o' := 6) (pc := 47) (i := 83) (ci := 8) (k := 2) C (by decide +kernel) fl_RX6_83 rfl rfl rfl ?_
          refine zs_aload_n (pc := 50) (k := 0) (i := 0) C (by decide +kernel) rfl rfl ?_
          refine zs_getI (pc := 51) (i := 39) (ci := 6) (k := 5) C (by decide +kernel) fl_RX6_39 rfl rfl (fun x9 => ?_)
          refine zs_iald (pc := 54) (o := 6) (n := 901) C (by decide +kernel) rfl (fun hinx10 x10 => ?_)
          refine zs_putI (pc := 55) (i := 36) (ci := 6) (k := 4) C (fun _ _ _ => rfl) (by decide +kernel) fl_RX6_36 fw_6_4 rfl rfl ?_
          exact zs_goj (hJ3 ()) trivial
        · refine zs_icmp_ne (pc := 31) (off := 7) (tgt := 38) C (by decide +kernel) (by decide) ?_ ?_
          · refine zs_iload_n (pc := 38) (k := 1) (i := 1) C (by decide +kernel) rfl rfl ?_
            exact zs_goj (hJ8 a0) ⟨rfl, trivial⟩
          · refine zs_iconst (pc := 34) (n := 1) (x := 1) C (by decide +kernel) (by decide +kernel) ?_
            refine zs_goto (pc := 35) (off := 4) (tgt := 39) C (by decide +kernel) (by decide) ?_
            exact zs_goj (hJ8 1) ⟨rfl, trivial⟩
set_option maxRecDepth 20000 in
theorem c_X6_take (l : Launch) (g : GC) (a0 : Int) : ConV l g yX6_take cX6_take 2 (rmd 2 0 0) [sR 2, sI a0] (fun mm => fX6_take a0 mm) := by
  refine zs_ofV (by decide +kernel) (Nat.le_of_ble_eq_true rfl) ?_
  intro p e s m args below meth c C hr
  replace C : Bd g RX6 cX6_take 2 p s m args meth c := C
  unfold fX6_take
  refine zs_aload_n (pc := 0) (k := 0) (i := 0) C (by decide +kernel) rfl rfl ?_
  refine zs_cvRi (pc := 1) (As := []) (st := []) C (Or.inl rfl) (c_X6_token l g ) ml_RX6_66 rfl rfl rfl rfl (Nat.le_of_ble_eq_true rfl) ⟨Nat.le_of_ble_eq_true rfl, Nat.le_of_ble_eq_true rfl⟩ ⟨Nat.le_of_ble_eq_true rfl, Nat.le_of_ble_eq_true rfl⟩ (by decide +kernel) (fun x1 => ?_)
  refine zs_iload_n (pc := 4) (k := 1) (i := 1) C (by decide +kernel) rfl rfl ?_
  refine zs_jn (pJ := 26) (kJ := 0) (sJ := 0) (fun t2 => []) (fun t2 => []) (fun t2 => ?_) (fun J3 hJ3 => ?_)
  · exact zs_retVv (pc := 26) C hr ⟨Nat.le_of_ble_eq_true rfl, Nat.le_of_ble_eq_true rfl⟩ (by decide +kernel)
  · refine zs_icmp_ne (pc := 5) (off := 16) (tgt := 21) C (by decide +kernel) (by decide) ?_ ?_
    · refine zs_aload_n (pc := 21) (k := 0) (i := 0) C (by decide +kernel) rfl rfl ?_
      refine zs_iconst (pc := 22) (n := 2) (x := 2) C (by decide +kernel) (by decide +kernel) ?_
      refine zs_cvVv (pc := 23) (As := [sI 2]) (st := []) C (fun _ _ _ => rfl) (c_X6_refuse l g 2) ml_RX6_86 rfl rfl rfl rfl (Nat.le_of_ble_eq_true rfl) ⟨Nat.le_of_ble_eq_true rfl, Nat.le_of_ble_eq_true rfl⟩ ⟨Nat.le_of_ble_eq_true rfl, Nat.le_of_ble_eq_true rfl⟩ (by decide +kernel) ?_
      exact zs_goj (hJ3 ()) trivial
    · refine zs_aload_n (pc := 8) (k := 0) (i := 0) C (by decide +kernel) rfl rfl ?_
      refine zs_dup (pc := 9) C rfl (by decide +kernel) ?_
      refine zs_getI (pc := 10) (i := 39) (ci := 6) (k := 5) C (by decide +kernel) fl_RX6_39 rfl rfl (fun x4 => ?_)
      refine zs_iconst (pc := 13) (n := 1) (x := 1) C (by decide +kernel) (by decide +kernel) ?_
      refine zs_iadd (pc := 14) C (by decide +kernel) ?_
      refine zs_putI (pc := 15) (i := 39) (ci := 6) (k := 5) C (fun _ _ _ => rfl) (by decide +kernel) fl_RX6_39 fw_6_5 rfl rfl ?_
      refine zs_goto (pc := 18) (off := 8) (tgt := 26) C (by decide +kernel) (by decide) ?_
      exact zs_goj (hJ3 ()) trivial
set_option maxRecDepth 20000 in
theorem c_X6_number (l : Launch) (g : GC) (a0 : Int) (a1 : Int) : ConW l g yX6_number cX6_number 4 (some .int) (rmd 2 0 0) [sR 2, sI a0, sI a1] (fun mm => fX6_number a0 a1 mm) := by
  refine zs_ofW (by decide +kernel) (Nat.le_of_ble_eq_true rfl) ?_
  intro p e s m args below meth c C hr
  replace C : Bd g RX6 cX6_number 4 p s m args meth c := C
  unfold fX6_number
  refine zs_aload_n (pc := 0) (k := 0) (i := 0) C (by decide +kernel) rfl rfl ?_
  refine zs_cvRi (pc := 1) (As := []) (st := []) C (Or.inl rfl) (c_X6_token l g ) ml_RX6_66 rfl rfl rfl rfl (Nat.le_of_ble_eq_true rfl) ⟨Nat.le_of_ble_eq_true rfl, Nat.le_of_ble_eq_true rfl⟩ ⟨Nat.le_of_ble_eq_true rfl, Nat.le_of_ble_eq_true rfl⟩ (by decide +kernel) (fun x1 => ?_)
  refine zs_iconst (pc := 4) (n := 1) (x := 1) C (by decide +kernel) (by decide +kernel) ?_
  refine zs_icmp_eq (pc := 5) (off := 10) (tgt := 15) C (by decide +kernel) (by decide) ?_ ?_
  · refine zs_aload_n (pc := 15) (k := 0) (i := 0) C (by decide +kernel) rfl rfl ?_
    refine zs_getR (o' := 3) (pc := 16) (i := 12) (ci := 6) (k := 0) C (by decide +kernel) fl_RX6_12 rfl rfl rfl ?_
    refine zs_getR (o' := 5) (pc := 19) (i := 90) (ci := 8) (k := 1) C (by decide +kernel) fl_RX6_90 rfl rfl rfl ?_
    refine zs_aload_n (pc := 22) (k := 0) (i := 0) C (by decide +kernel) rfl rfl ?_
    refine zs_getI (pc := 23) (i := 39) (ci := 6) (k := 5) C (by decide +kernel) fl_RX6_39 rfl rfl (fun x2 => ?_)
    refine zs_iald (pc := 26) (o := 5) (n := 901) C (by decide +kernel) rfl (fun hinx3 x3 => ?_)
    refine zs_istore_n (pc := 27) (k := 3) (i := 3) (ls' := [(3, sI x3), (0, sR 2), (1, sI a0), (2, sI a1)]) C (by decide +kernel) rfl (Nat.le_of_ble_eq_true rfl) rfl ?_
    refine zs_iload_n (pc := 28) (k := 3) (i := 3) C (by decide +kernel) rfl rfl ?_
    refine zs_iload_n (pc := 29) (k := 1) (i := 1) C (by decide +kernel) rfl rfl ?_
    refine zs_jn (pJ := 38) (kJ := 0) (sJ := 0) (fun t4 => [(0, sR 2)]) (fun t4 => []) (fun t4 => ?_) (fun J5 hJ5 => ?_)
    · refine zs_aload_n (pc := 38) (k := 0) (i := 0) C (by decide +kernel) rfl rfl ?_
      refine zs_iconst (pc := 39) (n := 3) (x := 3) C (by decide +kernel) (by decide +kernel) ?_
      refine zs_cvVv (pc := 40) (As := [sI 3]) (st := []) C (fun _ _ _ => rfl) (c_X6_refuse l g 3) ml_RX6_86 rfl rfl rfl rfl (Nat.le_of_ble_eq_true rfl) ⟨Nat.le_of_ble_eq_true rfl, Nat.le_of_ble_eq_true rfl⟩ ⟨Nat.le_of_ble_eq_true rfl, Nat.le_of_ble_eq_true rfl⟩ (by decide +kernel) ?_
      refine zs_iconst (pc := 43) (n := 0) (x := 0) C (by decide +kernel) (by decide +kernel) ?_
      exact zs_retWi (pc := 44) C hr ⟨Nat.le_of_ble_eq_true rfl, Nat.le_of_ble_eq_true rfl⟩ (by decide +kernel)
    · refine zs_icmp_lt (pc := 30) (off := 8) (tgt := 38) C (by decide +kernel) (by decide) ?_ ?_
      · exact zs_goj (hJ5 ()) ⟨rfl, trivial⟩
      · refine zs_iload_n (pc := 33) (k := 3) (i := 3) C (by decide +kernel) rfl rfl ?_
        refine zs_iload_n (pc := 34) (k := 2) (i := 2) C (by decide +kernel) rfl rfl ?_
        refine zs_icmp_le (pc := 35) (off := 10) (tgt := 45) C (by decide +kernel) (by decide) ?_ ?_
        · refine zs_aload_n (pc := 45) (k := 0) (i := 0) C (by decide +kernel) rfl rfl ?_
          refine zs_dup (pc := 46) C rfl (by decide +kernel) ?_
          refine zs_getI (pc := 47) (i := 39) (ci := 6) (k := 5) C (by decide +kernel) fl_RX6_39 rfl rfl (fun x6 => ?_)
          refine zs_iconst (pc := 50) (n := 1) (x := 1) C (by decide +kernel) (by decide +kernel) ?_
          refine zs_iadd (pc := 51) C (by decide +kernel) ?_
          refine zs_putI (pc := 52) (i := 39) (ci := 6) (k := 5) C (fun _ _ _ => rfl) (by decide +kernel) fl_RX6_39 fw_6_5 rfl rfl ?_
          refine zs_iload_n (pc := 55) (k := 3) (i := 3) C (by decide +kernel) rfl rfl ?_
          exact zs_retWi (pc := 56) C hr ⟨Nat.le_of_ble_eq_true rfl, Nat.le_of_ble_eq_true rfl⟩ (by decide +kernel)
        · exact zs_goj (hJ5 ()) ⟨rfl, trivial⟩
  · refine zs_aload_n (pc := 8) (k := 0) (i := 0) C (by decide +kernel) rfl rfl ?_
    refine zs_iconst (pc := 9) (n := 2) (x := 2) C (by decide +kernel) (by decide +kernel) ?_
    refine zs_cvVv (pc := 10) (As := [sI 2]) (st := []) C (fun _ _ _ => rfl) (c_X6_refuse l g 2) ml_RX6_86 rfl rfl rfl rfl (Nat.le_of_ble_eq_true rfl) ⟨Nat.le_of_ble_eq_true rfl, Nat.le_of_ble_eq_true rfl⟩ ⟨Nat.le_of_ble_eq_true rfl, Nat.le_of_ble_eq_true rfl⟩ (by decide +kernel) ?_
    refine zs_iconst (pc := 13) (n := 0) (x := 0) C (by decide +kernel) (by decide +kernel) ?_
    exact zs_retWi (pc := 14) C hr ⟨Nat.le_of_ble_eq_true rfl, Nat.le_of_ble_eq_true rfl⟩ (by decide +kernel)
set_option maxRecDepth 20000 in
theorem c_X6_takePlace (l : Launch) (g : GC) (a0 : Int) : ConW l g yX6_takePlace cX6_takePlace 5 (some .int) (rmd 3 0 0) [sR 2, sI a0] (fun mm => fX6_takePlace a0 mm) := by
  refine zs_ofW (by decide +kernel) (Nat.le_of_ble_eq_true rfl) ?_
  intro p e s m args below meth c C hr
  replace C : Bd g RX6 cX6_takePlace 5 p s m args meth c := C
  unfold fX6_takePlace
  refine zs_aload_n (pc := 0) (k := 0) (i := 0) C (by decide +kernel) rfl rfl ?_
  refine zs_iconst (pc := 1) (n := 0) (x := 0) C (by decide +kernel) (by decide +kernel) ?_
  refine zs_aload_n (pc := 2) (k := 0) (i := 0) C (by decide +kernel) rfl rfl ?_
  refine zs_getR (o' := 7) (pc := 3) (i := 21) (ci := 6) (k := 1) C (by decide +kernel) fl_RX6_21 rfl rfl rfl ?_
  refine zs_getI (pc := 6) (i := 93) (ci := 3) (k := 1) C (by decide +kernel) fl_RX6_93 rfl rfl (fun x1 => ?_)
  refine zs_iconst (pc := 9) (n := 1) (x := 1) C (by decide +kernel) (by decide +kernel) ?_
  refine zs_isub (pc := 10) C (by decide +kernel) ?_
  refine zs_cvWi (pc := 11) (As := [sI 0, sI (w32 (x1 - 1))]) (st := []) C (fun _ _ _ => rfl) (Or.inl rfl) (c_X6_number l g 0 (w32 (x1 - 1))) ml_RX6_96 rfl rfl rfl rfl (Nat.le_of_ble_eq_true rfl) ⟨Nat.le_of_ble_eq_true rfl, Nat.le_of_ble_eq_true rfl⟩ ⟨Nat.le_of_ble_eq_true rfl, Nat.le_of_ble_eq_true rfl⟩ (by decide +kernel) (fun x2 => ?_)
  refine zs_istore_n (pc := 14) (k := 2) (i := 2) (ls' := [(2, sI x2), (0, sR 2), (1, sI a0)]) C (by decide +kernel) rfl (Nat.le_of_ble_eq_true rfl) rfl ?_
  refine zs_aload_n (pc := 15) (k := 0) (i := 0) C (by decide +kernel) rfl rfl ?_
  refine zs_iconst (pc := 16) (n := 0) (x := 0) C (by decide +kernel) (by decide +kernel) ?_
  refine zs_aload_n (pc := 17) (k := 0) (i := 0) C (by decide +kernel) rfl rfl ?_
  refine zs_getR (o' := 7) (pc := 18) (i := 21) (ci := 6) (k := 1) C (by decide +kernel) fl_RX6_21 rfl rfl rfl ?_
  refine zs_getI (pc := 21) (i := 100) (ci := 3) (k := 2) C (by decide +kernel) fl_RX6_100 rfl rfl (fun x3 => ?_)
  refine zs_iconst (pc := 24) (n := 1) (x := 1) C (by decide +kernel) (by decide +kernel) ?_
  refine zs_isub (pc := 25) C (by decide +kernel) ?_
  refine zs_cvWi (pc := 26) (As := [sI 0, sI (w32 (x3 - 1))]) (st := []) C (fun _ _ _ => rfl) (Or.inl rfl) (c_X6_number l g 0 (w32 (x3 - 1))) ml_RX6_96 rfl rfl rfl rfl (Nat.le_of_ble_eq_true rfl) ⟨Nat.le_of_ble_eq_true rfl, Nat.le_of_ble_eq_true rfl⟩ ⟨Nat.le_of_ble_eq_true rfl, Nat.le_of_ble_eq_true rfl⟩ (by decide +kernel) (fun x4 => ?_)
  refine zs_istore_n (pc := 29) (k := 3) (i := 3) (ls' := [(3, sI x4), (2, sI x2), (0, sR 2), (1, sI a0)]) C (by decide +kernel) rfl (Nat.le_of_ble_eq_true rfl) rfl ?_
  refine zs_aload_n (pc := 30) (k := 0) (i := 0) C (by decide +kernel) rfl rfl ?_
  refine zs_getR (o' := 7) (pc := 31) (i := 21) (ci := 6) (k := 1) C (by decide +kernel) fl_RX6_21 rfl rfl rfl ?_
  refine zs_getI (pc := 34) (i := 93) (ci := 3) (k := 1) C (by decide +kernel) fl_RX6_93 rfl rfl (fun x5 => ?_)
  refine zs_iload_n (pc := 37) (k := 3) (i := 3) C (by decide +kernel) rfl rfl ?_
  refine zs_imul (pc := 38) C (by decide +kernel) ?_
  refine zs_iload_n (pc := 39) (k := 2) (i := 2) C (by decide +kernel) rfl rfl ?_
  refine zs_iadd (pc := 40) C (by decide +kernel) ?_
  refine zs_let (fun x6 => ?_)
  refine zs_istore (pc := 41) (i := 4) (ls' := [(4, sI x6), (3, sI x4), (2, sI x2), (0, sR 2), (1, sI a0)]) C (by decide +kernel) (Nat.le_of_ble_eq_true rfl) rfl ?_
  refine zs_aload_n (pc := 43) (k := 0) (i := 0) C (by decide +kernel) rfl rfl ?_
  refine zs_getI (pc := 44) (i := 32) (ci := 6) (k := 3) C (by decide +kernel) fl_RX6_32 rfl rfl (fun x7 => ?_)
  refine zs_jn (pJ := 74) (kJ := 0) (sJ := 0) (fun t8 => [(4, sI x6)]) (fun t8 => []) (fun t8 => ?_) (fun J9 hJ9 => ?_)
  · refine zs_iload (pc := 74) (i := 4) C (by decide +kernel) rfl ?_
    exact zs_retWi (pc := 76) C hr ⟨Nat.le_of_ble_eq_true rfl, Nat.le_of_ble_eq_true rfl⟩ (by decide +kernel)
  · refine zs_if_ne (pc := 47) (off := 27) (tgt := 74) C (by decide +kernel) (by decide) ?_ ?_
    · exact zs_goj (hJ9 ()) ⟨rfl, trivial⟩
    · refine zs_iload_n (pc := 50) (k := 1) (i := 1) C (by decide +kernel) rfl rfl ?_
      refine zs_iload (pc := 51) (i := 4) C (by decide +kernel) rfl ?_
      refine zs_iushr (pc := 53) C (by decide +kernel) ?_
      refine zs_iconst (pc := 54) (n := 1) (x := 1) C (by decide +kernel) (by decide +kernel) ?_
      refine zs_iand (pc := 55) C (by decide +kernel) ?_
      refine zs_if_eq (pc := 56) (off := 18) (tgt := 74) C (by decide +kernel) (by decide) ?_ ?_
      · exact zs_goj (hJ9 ()) ⟨rfl, trivial⟩
      · refine zs_aload_n (pc := 59) (k := 0) (i := 0) C (by decide +kernel) rfl rfl ?_
        refine zs_dup (pc := 60) C rfl (by decide +kernel) ?_
        refine zs_getI (pc := 61) (i := 39) (ci := 6) (k := 5) C (by decide +kernel) fl_RX6_39 rfl rfl (fun x10 => ?_)
        refine zs_iconst (pc := 64) (n := 1) (x := 1) C (by decide +kernel) (by decide +kernel) ?_
        refine zs_isub (pc := 65) C (by decide +kernel) ?_
        refine zs_putI (pc := 66) (i := 39) (ci := 6) (k := 5) C (fun _ _ _ => rfl) (by decide +kernel) fl_RX6_39 fw_6_5 rfl rfl ?_
        refine zs_aload_n (pc := 69) (k := 0) (i := 0) C (by decide +kernel) rfl rfl ?_
        refine zs_iconst (pc := 70) (n := 3) (x := 3) C (by decide +kernel) (by decide +kernel) ?_
        refine zs_cvVv (pc := 71) (As := [sI 3]) (st := []) C (fun _ _ _ => rfl) (c_X6_refuse l g 3) ml_RX6_86 rfl rfl rfl rfl (Nat.le_of_ble_eq_true rfl) ⟨Nat.le_of_ble_eq_true rfl, Nat.le_of_ble_eq_true rfl⟩ ⟨Nat.le_of_ble_eq_true rfl, Nat.le_of_ble_eq_true rfl⟩ (by decide +kernel) ?_
        exact zs_goj (hJ9 ()) ⟨rfl, trivial⟩
set_option maxRecDepth 20000 in
theorem c_X6_readHead (l : Launch) (g : GC)  : ConV l g yX6_readHead cX6_readHead 1 (rmd 3 0 0) [sR 2] (fun mm => fX6_readHead  mm) := by
  refine zs_ofV (by decide +kernel) (Nat.le_of_ble_eq_true rfl) ?_
  intro p e s m args below meth c C hr
  replace C : Bd g RX6 cX6_readHead 1 p s m args meth c := C
  unfold fX6_readHead
  refine zs_aload_n (pc := 0) (k := 0) (i := 0) C (by decide +kernel) rfl rfl ?_
  refine zs_sipush (pc := 1) (n := 136) (x := 136) C (by decide +kernel) (by decide +kernel) ?_
  refine zs_cvVv (pc := 4) (As := [sI 136]) (st := []) C (fun _ _ _ => rfl) (c_X6_take l g 136) ml_RX6_103 rfl rfl rfl rfl (Nat.le_of_ble_eq_true rfl) ⟨Nat.le_of_ble_eq_true rfl, Nat.le_of_ble_eq_true rfl⟩ ⟨Nat.le_of_ble_eq_true rfl, Nat.le_of_ble_eq_true rfl⟩ (by decide +kernel) ?_
  refine zs_aload_n (pc := 7) (k := 0) (i := 0) C (by decide +kernel) rfl rfl ?_
  refine zs_getR (o' := 7) (pc := 8) (i := 21) (ci := 6) (k := 1) C (by decide +kernel) fl_RX6_21 rfl rfl rfl ?_
  refine zs_aload_n (pc := 11) (k := 0) (i := 0) C (by decide +kernel) rfl rfl ?_
  refine zs_iconst (pc := 12) (n := 2) (x := 2) C (by decide +kernel) (by decide +kernel) ?_
  refine zs_iconst (pc := 13) (n := 5) (x := 5) C (by decide +kernel) (by decide +kernel) ?_
  refine zs_cvWi (pc := 14) (As := [sI 2, sI 5]) (st := [sR 7]) C (fun _ _ _ => rfl) (Or.inl rfl) (c_X6_number l g 2 5) ml_RX6_96 rfl rfl rfl rfl (Nat.le_of_ble_eq_true rfl) ⟨Nat.le_of_ble_eq_true rfl, Nat.le_of_ble_eq_true rfl⟩ ⟨Nat.le_of_ble_eq_true rfl, Nat.le_of_ble_eq_true rfl⟩ (by decide +kernel) (fun x1 => ?_)
  refine zs_putI (pc := 17) (i := 93) (ci := 3) (k := 1) C (fun _ _ _ => rfl) (by decide +kernel) fl_RX6_93 fw_3_1 rfl rfl ?_
  refine zs_aload_n (pc := 20) (k := 0) (i := 0) C (by decide +kernel) rfl rfl ?_
  refine zs_getR (o' := 7) (pc := 21) (i := 21) (ci := 6) (k := 1) C (by decide +kernel) fl_RX6_21 rfl rfl rfl ?_
  refine zs_aload_n (pc := 24) (k := 0) (i := 0) C (by decide +kernel) rfl rfl ?_
  refine zs_iconst (pc := 25) (n := 2) (x := 2) C (by decide +kernel) (by decide +kernel) ?_
  refine zs_iconst (pc := 26) (n := 5) (x := 5) C (by decide +kernel) (by decide +kernel) ?_
  refine zs_cvWi (pc := 27) (As := [sI 2, sI 5]) (st := [sR 7]) C (fun _ _ _ => rfl) (Or.inl rfl) (c_X6_number l g 2 5) ml_RX6_96 rfl rfl rfl rfl (Nat.le_of_ble_eq_true rfl) ⟨Nat.le_of_ble_eq_true rfl, Nat.le_of_ble_eq_true rfl⟩ ⟨Nat.le_of_ble_eq_true rfl, Nat.le_of_ble_eq_true rfl⟩ (by decide +kernel) (fun x2 => ?_)
  refine zs_putI (pc := 30) (i := 100) (ci := 3) (k := 2) C (fun _ _ _ => rfl) (by decide +kernel) fl_RX6_100 fw_3_2 rfl rfl ?_
  refine zs_aload_n (pc := 33) (k := 0) (i := 0) C (by decide +kernel) rfl rfl ?_
  refine zs_bipush (pc := 34) (n := 59) (x := 59) C (by decide +kernel) (by decide +kernel) ?_
  refine zs_cvVv (pc := 36) (As := [sI 59]) (st := []) C (fun _ _ _ => rfl) (c_X6_take l g 59) ml_RX6_103 rfl rfl rfl rfl (Nat.le_of_ble_eq_true rfl) ⟨Nat.le_of_ble_eq_true rfl, Nat.le_of_ble_eq_true rfl⟩ ⟨Nat.le_of_ble_eq_true rfl, Nat.le_of_ble_eq_true rfl⟩ (by decide +kernel) ?_
  refine zs_aload_n (pc := 39) (k := 0) (i := 0) C (by decide +kernel) rfl rfl ?_
  refine zs_getR (o' := 7) (pc := 40) (i := 21) (ci := 6) (k := 1) C (by decide +kernel) fl_RX6_21 rfl rfl rfl ?_
  refine zs_iconst (pc := 43) (n := 1) (x := 1) C (by decide +kernel) (by decide +kernel) ?_
  refine zs_putI (pc := 44) (i := 106) (ci := 3) (k := 0) C (fun _ _ _ => rfl) (by decide +kernel) fl_RX6_106 fw_3_0 rfl rfl ?_
  exact zs_retVv (pc := 47) C hr ⟨Nat.le_of_ble_eq_true rfl, Nat.le_of_ble_eq_true rfl⟩ (by decide +kernel)
set_option maxRecDepth 20000 in
theorem c_X6_readRock (l : Launch) (g : GC)  : ConV l g yX6_readRock cX6_readRock 1 (rmd 4 0 0) [sR 2] (fun mm => fX6_readRock  mm) := by
  refine zs_ofV (by decide +kernel) (Nat.le_of_ble_eq_true rfl) ?_
  intro p e s m args below meth c C hr
  replace C : Bd g RX6 cX6_readRock 1 p s m args meth c := C
  unfold fX6_readRock
  refine zs_aload_n (pc := 0) (k := 0) (i := 0) C (by decide +kernel) rfl rfl ?_
  refine zs_dup (pc := 1) C rfl (by decide +kernel) ?_
  refine zs_getI (pc := 2) (i := 39) (ci := 6) (k := 5) C (by decide +kernel) fl_RX6_39 rfl rfl (fun x1 => ?_)
  refine zs_iconst (pc := 5) (n := 1) (x := 1) C (by decide +kernel) (by decide +kernel) ?_
  refine zs_iadd (pc := 6) C (by decide +kernel) ?_
  refine zs_putI (pc := 7) (i := 39) (ci := 6) (k := 5) C (fun _ _ _ => rfl) (by decide +kernel) fl_RX6_39 fw_6_5 rfl rfl ?_
  refine zs_aload_n (pc := 10) (k := 0) (i := 0) C (by decide +kernel) rfl rfl ?_
  refine zs_getR (o' := 7) (pc := 11) (i := 21) (ci := 6) (k := 1) C (by decide +kernel) fl_RX6_21 rfl rfl rfl ?_
  refine zs_dup (pc := 14) C rfl (by decide +kernel) ?_
  refine zs_getI (pc := 15) (i := 130) (ci := 3) (k := 3) C (by decide +kernel) fl_RX6_130 rfl rfl (fun x2 => ?_)
  refine zs_iconst (pc := 18) (n := 1) (x := 1) C (by decide +kernel) (by decide +kernel) ?_
  refine zs_aload_n (pc := 19) (k := 0) (i := 0) C (by decide +kernel) rfl rfl ?_
  refine zs_aload_n (pc := 20) (k := 0) (i := 0) C (by decide +kernel) rfl rfl ?_
  refine zs_getI (pc := 21) (i := 42) (ci := 6) (k := 6) C (by decide +kernel) fl_RX6_42 rfl rfl (fun x3 => ?_)
  refine zs_aload_n (pc := 24) (k := 0) (i := 0) C (by decide +kernel) rfl rfl ?_
  refine zs_getI (pc := 25) (i := 45) (ci := 6) (k := 7) C (by decide +kernel) fl_RX6_45 rfl rfl (fun x4 => ?_)
  refine zs_ior (pc := 28) C (by decide +kernel) ?_
  refine zs_cvWi (pc := 29) (As := [sI (ior x3 x4)]) (st := [sI 1, sI x2, sR 7]) C (fun _ _ _ => rfl) (Or.inl rfl) (c_X6_takePlace l g (ior x3 x4)) ml_RX6_133 rfl rfl rfl rfl (Nat.le_of_ble_eq_true rfl) ⟨Nat.le_of_ble_eq_true rfl, Nat.le_of_ble_eq_true rfl⟩ ⟨Nat.le_of_ble_eq_true rfl, Nat.le_of_ble_eq_true rfl⟩ (by decide +kernel) (fun x5 => ?_)
  refine zs_ishl (pc := 32) C (by decide +kernel) ?_
  refine zs_ior (pc := 33) C (by decide +kernel) ?_
  refine zs_putI (pc := 34) (i := 130) (ci := 3) (k := 3) C (fun _ _ _ => rfl) (by decide +kernel) fl_RX6_130 fw_3_3 rfl rfl ?_
  exact zs_retVv (pc := 37) C hr ⟨Nat.le_of_ble_eq_true rfl, Nat.le_of_ble_eq_true rfl⟩ (by decide +kernel)
set_option maxRecDepth 20000 in
theorem c_X6_readHouse (l : Launch) (g : GC)  : ConV l g yX6_readHouse cX6_readHouse 2 (rmd 4 0 0) [sR 2] (fun mm => fX6_readHouse  mm) := by
  refine zs_ofV (by decide +kernel) (Nat.le_of_ble_eq_true rfl) ?_
  intro p e s m args below meth c C hr
  replace C : Bd g RX6 cX6_readHouse 2 p s m args meth c := C
  unfold fX6_readHouse
  refine zs_aload_n (pc := 0) (k := 0) (i := 0) C (by decide +kernel) rfl rfl ?_
  refine zs_getR (o' := 7) (pc := 1) (i := 21) (ci := 6) (k := 1) C (by decide +kernel) fl_RX6_21 rfl rfl rfl ?_
  refine zs_getI (pc := 4) (i := 137) (ci := 3) (k := 4) C (by decide +kernel) fl_RX6_137 rfl rfl (fun x1 => ?_)
  refine zs_bipush (pc := 7) (n := 8) (x := 8) C (by decide +kernel) (by decide +kernel) ?_
  refine zs_icmp_lt (pc := 9) (off := 9) (tgt := 18) C (by decide +kernel) (by decide) ?_ ?_
  · refine zs_aload_n (pc := 18) (k := 0) (i := 0) C (by decide +kernel) rfl rfl ?_
    refine zs_dup (pc := 19) C rfl (by decide +kernel) ?_
    refine zs_getI (pc := 20) (i := 39) (ci := 6) (k := 5) C (by decide +kernel) fl_RX6_39 rfl rfl (fun x2 => ?_)
    refine zs_iconst (pc := 23) (n := 1) (x := 1) C (by decide +kernel) (by decide +kernel) ?_
    refine zs_iadd (pc := 24) C (by decide +kernel) ?_
    refine zs_putI (pc := 25) (i := 39) (ci := 6) (k := 5) C (fun _ _ _ => rfl) (by decide +kernel) fl_RX6_39 fw_6_5 rfl rfl ?_
    refine zs_aload_n (pc := 28) (k := 0) (i := 0) C (by decide +kernel) rfl rfl ?_
    refine zs_aload_n (pc := 29) (k := 0) (i := 0) C (by decide +kernel) rfl rfl ?_
    refine zs_getR (o' := 7) (pc := 30) (i := 21) (ci := 6) (k := 1) C (by decide +kernel) fl_RX6_21 rfl rfl rfl ?_
    refine zs_getI (pc := 33) (i := 130) (ci := 3) (k := 3) C (by decide +kernel) fl_RX6_130 rfl rfl (fun x3 => ?_)
    refine zs_aload_n (pc := 36) (k := 0) (i := 0) C (by decide +kernel) rfl rfl ?_
    refine zs_getI (pc := 37) (i := 42) (ci := 6) (k := 6) C (by decide +kernel) fl_RX6_42 rfl rfl (fun x4 => ?_)
    refine zs_ior (pc := 40) C (by decide +kernel) ?_
    refine zs_cvWi (pc := 41) (As := [sI (ior x3 x4)]) (st := []) C (fun _ _ _ => rfl) (Or.inl rfl) (c_X6_takePlace l g (ior x3 x4)) ml_RX6_133 rfl rfl rfl rfl (Nat.le_of_ble_eq_true rfl) ⟨Nat.le_of_ble_eq_true rfl, Nat.le_of_ble_eq_true rfl⟩ ⟨Nat.le_of_ble_eq_true rfl, Nat.le_of_ble_eq_true rfl⟩ (by decide +kernel) (fun x5 => ?_)
    refine zs_istore_n (pc := 44) (k := 1) (i := 1) (ls' := [(1, sI x5), (0, sR 2)]) C (by decide +kernel) rfl (Nat.le_of_ble_eq_true rfl) rfl ?_
    refine zs_aload_n (pc := 45) (k := 0) (i := 0) C (by decide +kernel) rfl rfl ?_
    refine zs_dup (pc := 46) C rfl (by decide +kernel) ?_
    refine zs_getI (pc := 47) (i := 42) (ci := 6) (k := 6) C (by decide +kernel) fl_RX6_42 rfl rfl (fun x6 => ?_)
    refine zs_iconst (pc := 50) (n := 1) (x := 1) C (by decide +kernel) (by decide +kernel) ?_
    refine zs_iload_n (pc := 51) (k := 1) (i := 1) C (by decide +kernel) rfl rfl ?_
    refine zs_ishl (pc := 52) C (by decide +kernel) ?_
    refine zs_ior (pc := 53) C (by decide +kernel) ?_
    refine zs_putI (pc := 54) (i := 42) (ci := 6) (k := 6) C (fun _ _ _ => rfl) (by decide +kernel) fl_RX6_42 fw_6_6 rfl rfl ?_
    refine zs_aload_n (pc := 57) (k := 0) (i := 0) C (by decide +kernel) rfl rfl ?_
    refine zs_getR (o' := 7) (pc := 58) (i := 21) (ci := 6) (k := 1) C (by decide +kernel) fl_RX6_21 rfl rfl rfl ?_
    refine zs_getR (o' := 8) (pc := 61) (i := 140) (ci := 3) (k := 6) C (by decide +kernel) fl_RX6_140 rfl rfl rfl ?_
    refine zs_aload_n (pc := 64) (k := 0) (i := 0) C (by decide +kernel) rfl rfl ?_
    refine zs_getR (o' := 7) (pc := 65) (i := 21) (ci := 6) (k := 1) C (by decide +kernel) fl_RX6_21 rfl rfl rfl ?_
    refine zs_getI (pc := 68) (i := 137) (ci := 3) (k := 4) C (by decide +kernel) fl_RX6_137 rfl rfl (fun x7 => ?_)
    refine zs_iload_n (pc := 71) (k := 1) (i := 1) C (by decide +kernel) rfl rfl ?_
    refine zs_iast (pc := 72) (o := 8) (n := 8) C (fun _ _ _ => rfl) (by decide +kernel) rfl ?_
    refine zs_aload_n (pc := 73) (k := 0) (i := 0) C (by decide +kernel) rfl rfl ?_
    refine zs_getR (o' := 7) (pc := 74) (i := 21) (ci := 6) (k := 1) C (by decide +kernel) fl_RX6_21 rfl rfl rfl ?_
    refine zs_dup (pc := 77) C rfl (by decide +kernel) ?_
    refine zs_getI (pc := 78) (i := 137) (ci := 3) (k := 4) C (by decide +kernel) fl_RX6_137 rfl rfl (fun x8 => ?_)
    refine zs_iconst (pc := 81) (n := 1) (x := 1) C (by decide +kernel) (by decide +kernel) ?_
    refine zs_iadd (pc := 82) C (by decide +kernel) ?_
    refine zs_putI (pc := 83) (i := 137) (ci := 3) (k := 4) C (fun _ _ _ => rfl) (by decide +kernel) fl_RX6_137 fw_3_4 rfl rfl ?_
    exact zs_retVv (pc := 86) C hr ⟨Nat.le_of_ble_eq_true rfl, Nat.le_of_ble_eq_true rfl⟩ (by decide +kernel)
  · refine zs_aload_n (pc := 12) (k := 0) (i := 0) C (by decide +kernel) rfl rfl ?_
    refine zs_iconst (pc := 13) (n := 4) (x := 4) C (by decide +kernel) (by decide +kernel) ?_
    refine zs_cvVv (pc := 14) (As := [sI 4]) (st := []) C (fun _ _ _ => rfl) (c_X6_refuse l g 4) ml_RX6_86 rfl rfl rfl rfl (Nat.le_of_ble_eq_true rfl) ⟨Nat.le_of_ble_eq_true rfl, Nat.le_of_ble_eq_true rfl⟩ ⟨Nat.le_of_ble_eq_true rfl, Nat.le_of_ble_eq_true rfl⟩ (by decide +kernel) ?_
    exact zs_retVv (pc := 17) C hr ⟨Nat.le_of_ble_eq_true rfl, Nat.le_of_ble_eq_true rfl⟩ (by decide +kernel)
set_option maxRecDepth 20000 in
theorem c_X6_readPair (l : Launch) (g : GC)  : ConV l g yX6_readPair cX6_readPair 2 (rmd 4 0 0) [sR 2] (fun mm => fX6_readPair  mm) := by
  refine zs_ofV (by decide +kernel) (Nat.le_of_ble_eq_true rfl) ?_
  intro p e s m args below meth c C hr
  replace C : Bd g RX6 cX6_readPair 2 p s m args meth c := C
  unfold fX6_readPair
  refine zs_aload_n (pc := 0) (k := 0) (i := 0) C (by decide +kernel) rfl rfl ?_
  refine zs_getR (o' := 7) (pc := 1) (i := 21) (ci := 6) (k := 1) C (by decide +kernel) fl_RX6_21 rfl rfl rfl ?_
  refine zs_getI (pc := 4) (i := 143) (ci := 3) (k := 5) C (by decide +kernel) fl_RX6_143 rfl rfl (fun x1 => ?_)
  refine zs_istore_n (pc := 7) (k := 1) (i := 1) (ls' := [(1, sI x1), (0, sR 2)]) C (by decide +kernel) rfl (Nat.le_of_ble_eq_true rfl) rfl ?_
  refine zs_iload_n (pc := 8) (k := 1) (i := 1) C (by decide +kernel) rfl rfl ?_
  refine zs_iconst (pc := 9) (n := 4) (x := 4) C (by decide +kernel) (by decide +kernel) ?_
  refine zs_icmp_lt (pc := 10) (off := 9) (tgt := 19) C (by decide +kernel) (by decide) ?_ ?_
  · refine zs_aload_n (pc := 19) (k := 0) (i := 0) C (by decide +kernel) rfl rfl ?_
    refine zs_dup (pc := 20) C rfl (by decide +kernel) ?_
    refine zs_getI (pc := 21) (i := 39) (ci := 6) (k := 5) C (by decide +kernel) fl_RX6_39 rfl rfl (fun x2 => ?_)
    refine zs_iconst (pc := 24) (n := 1) (x := 1) C (by decide +kernel) (by decide +kernel) ?_
    refine zs_iadd (pc := 25) C (by decide +kernel) ?_
    refine zs_putI (pc := 26) (i := 39) (ci := 6) (k := 5) C (fun _ _ _ => rfl) (by decide +kernel) fl_RX6_39 fw_6_5 rfl rfl ?_
    refine zs_aload_n (pc := 29) (k := 0) (i := 0) C (by decide +kernel) rfl rfl ?_
    refine zs_getR (o' := 7) (pc := 30) (i := 21) (ci := 6) (k := 1) C (by decide +kernel) fl_RX6_21 rfl rfl rfl ?_
    refine zs_getR (o' := 9) (pc := 33) (i := 146) (ci := 3) (k := 7) C (by decide +kernel) fl_RX6_146 rfl rfl rfl ?_
    refine zs_iload_n (pc := 36) (k := 1) (i := 1) C (by decide +kernel) rfl rfl ?_
    refine zs_aload_n (pc := 37) (k := 0) (i := 0) C (by decide +kernel) rfl rfl ?_
    refine zs_iconst (pc := 38) (n := 1) (x := 1) C (by decide +kernel) (by decide +kernel) ?_
    refine zs_bipush (pc := 39) (n := 20) (x := 20) C (by decide +kernel) (by decide +kernel) ?_
    refine zs_cvWi (pc := 41) (As := [sI 1, sI 20]) (st := [sI x1, sR 9]) C (fun _ _ _ => rfl) (Or.inl rfl) (c_X6_number l g 1 20) ml_RX6_96 rfl rfl rfl rfl (Nat.le_of_ble_eq_true rfl) ⟨Nat.le_of_ble_eq_true rfl, Nat.le_of_ble_eq_true rfl⟩ ⟨Nat.le_of_ble_eq_true rfl, Nat.le_of_ble_eq_true rfl⟩ (by decide +kernel) (fun x3 => ?_)
    refine zs_iast (pc := 44) (o := 9) (n := 4) C (fun _ _ _ => rfl) (by decide +kernel) rfl ?_
    refine zs_aload_n (pc := 45) (k := 0) (i := 0) C (by decide +kernel) rfl rfl ?_
    refine zs_sipush (pc := 46) (n := 139) (x := 139) C (by decide +kernel) (by decide +kernel) ?_
    refine zs_cvVv (pc := 49) (As := [sI 139]) (st := []) C (fun _ _ _ => rfl) (c_X6_take l g 139) ml_RX6_103 rfl rfl rfl rfl (Nat.le_of_ble_eq_true rfl) ⟨Nat.le_of_ble_eq_true rfl, Nat.le_of_ble_eq_true rfl⟩ ⟨Nat.le_of_ble_eq_true rfl, Nat.le_of_ble_eq_true rfl⟩ (by decide +kernel) ?_
    refine zs_aload_n (pc := 52) (k := 0) (i := 0) C (by decide +kernel) rfl rfl ?_
    refine zs_getR (o' := 14) (pc := 53) (i := 28) (ci := 6) (k := 2) C (by decide +kernel) fl_RX6_28 rfl rfl rfl ?_
    refine zs_getR (o' := 15) (pc := 56) (i := 149) (ci := 5) (k := 4) C (by decide +kernel) fl_RX6_149 rfl rfl rfl ?_
    refine zs_iload_n (pc := 59) (k := 1) (i := 1) C (by decide +kernel) rfl rfl ?_
    refine zs_aload_n (pc := 60) (k := 0) (i := 0) C (by decide +kernel) rfl rfl ?_
    refine zs_aload_n (pc := 61) (k := 0) (i := 0) C (by decide +kernel) rfl rfl ?_
    refine zs_getR (o' := 7) (pc := 62) (i := 21) (ci := 6) (k := 1) C (by decide +kernel) fl_RX6_21 rfl rfl rfl ?_
    refine zs_getI (pc := 65) (i := 130) (ci := 3) (k := 3) C (by decide +kernel) fl_RX6_130 rfl rfl (fun x4 => ?_)
    refine zs_cvWi (pc := 68) (As := [sI x4]) (st := [sI x1, sR 15]) C (fun _ _ _ => rfl) (Or.inl rfl) (c_X6_takePlace l g x4) ml_RX6_133 rfl rfl rfl rfl (Nat.le_of_ble_eq_true rfl) ⟨Nat.le_of_ble_eq_true rfl, Nat.le_of_ble_eq_true rfl⟩ ⟨Nat.le_of_ble_eq_true rfl, Nat.le_of_ble_eq_true rfl⟩ (by decide +kernel) (fun x5 => ?_)
    refine zs_iast (pc := 71) (o := 15) (n := 4) C (fun _ _ _ => rfl) (by decide +kernel) rfl ?_
    refine zs_aload_n (pc := 72) (k := 0) (i := 0) C (by decide +kernel) rfl rfl ?_
    refine zs_sipush (pc := 73) (n := 140) (x := 140) C (by decide +kernel) (by decide +kernel) ?_
    refine zs_cvVv (pc := 76) (As := [sI 140]) (st := []) C (fun _ _ _ => rfl) (c_X6_take l g 140) ml_RX6_103 rfl rfl rfl rfl (Nat.le_of_ble_eq_true rfl) ⟨Nat.le_of_ble_eq_true rfl, Nat.le_of_ble_eq_true rfl⟩ ⟨Nat.le_of_ble_eq_true rfl, Nat.le_of_ble_eq_true rfl⟩ (by decide +kernel) ?_
    refine zs_aload_n (pc := 79) (k := 0) (i := 0) C (by decide +kernel) rfl rfl ?_
    refine zs_getR (o' := 14) (pc := 80) (i := 28) (ci := 6) (k := 2) C (by decide +kernel) fl_RX6_28 rfl rfl rfl ?_
    refine zs_getR (o' := 16) (pc := 83) (i := 152) (ci := 5) (k := 5) C (by decide +kernel) fl_RX6_152 rfl rfl rfl ?_
    refine zs_iload_n (pc := 86) (k := 1) (i := 1) C (by decide +kernel) rfl rfl ?_
    refine zs_aload_n (pc := 87) (k := 0) (i := 0) C (by decide +kernel) rfl rfl ?_
    refine zs_aload_n (pc := 88) (k := 0) (i := 0) C (by decide +kernel) rfl rfl ?_
    refine zs_getR (o' := 7) (pc := 89) (i := 21) (ci := 6) (k := 1) C (by decide +kernel) fl_RX6_21 rfl rfl rfl ?_
    refine zs_getI (pc := 92) (i := 130) (ci := 3) (k := 3) C (by decide +kernel) fl_RX6_130 rfl rfl (fun x6 => ?_)
    refine zs_cvWi (pc := 95) (As := [sI x6]) (st := [sI x1, sR 16]) C (fun _ _ _ => rfl) (Or.inl rfl) (c_X6_takePlace l g x6) ml_RX6_133 rfl rfl rfl rfl (Nat.le_of_ble_eq_true rfl) ⟨Nat.le_of_ble_eq_true rfl, Nat.le_of_ble_eq_true rfl⟩ ⟨Nat.le_of_ble_eq_true rfl, Nat.le_of_ble_eq_true rfl⟩ (by decide +kernel) (fun x7 => ?_)
    refine zs_iast (pc := 98) (o := 16) (n := 4) C (fun _ _ _ => rfl) (by decide +kernel) rfl ?_
    refine zs_aload_n (pc := 99) (k := 0) (i := 0) C (by decide +kernel) rfl rfl ?_
    refine zs_cvRi (pc := 100) (As := []) (st := []) C (Or.inl rfl) (c_X6_token l g ) ml_RX6_66 rfl rfl rfl rfl (Nat.le_of_ble_eq_true rfl) ⟨Nat.le_of_ble_eq_true rfl, Nat.le_of_ble_eq_true rfl⟩ ⟨Nat.le_of_ble_eq_true rfl, Nat.le_of_ble_eq_true rfl⟩ (by decide +kernel) (fun x8 => ?_)
    refine zs_sipush (pc := 103) (n := 129) (x := 129) C (by decide +kernel) (by decide +kernel) ?_
    refine zs_jn (pJ := 135) (kJ := 0) (sJ := 0) (fun t9 => [(0, sR 2), (1, sI x1)]) (fun t9 => []) (fun t9 => ?_) (fun J10 hJ10 => ?_)
    · refine zs_aload_n (pc := 135) (k := 0) (i := 0) C (by decide +kernel) rfl rfl ?_
      refine zs_dup (pc := 136) C rfl (by decide +kernel) ?_
      refine zs_getI (pc := 137) (i := 45) (ci := 6) (k := 7) C (by decide +kernel) fl_RX6_45 rfl rfl (fun x11 => ?_)
      refine zs_iconst (pc := 140) (n := 1) (x := 1) C (by decide +kernel) (by decide +kernel) ?_
      refine zs_aload_n (pc := 141) (k := 0) (i := 0) C (by decide +kernel) rfl rfl ?_
      refine zs_getR (o' := 14) (pc := 142) (i := 28) (ci := 6) (k := 2) C (by decide +kernel) fl_RX6_28 rfl rfl rfl ?_
      refine zs_getR (o' := 15) (pc := 145) (i := 149) (ci := 5) (k := 4) C (by decide +kernel) fl_RX6_149 rfl rfl rfl ?_
      refine zs_iload_n (pc := 148) (k := 1) (i := 1) C (by decide +kernel) rfl rfl ?_
      refine zs_iald (pc := 149) (o := 15) (n := 4) C (by decide +kernel) rfl (fun hinx12 x12 => ?_)
      refine zs_ishl (pc := 150) C (by decide +kernel) ?_
      refine zs_iconst (pc := 151) (n := 1) (x := 1) C (by decide +kernel) (by decide +kernel) ?_
      refine zs_aload_n (pc := 152) (k := 0) (i := 0) C (by decide +kernel) rfl rfl ?_
      refine zs_getR (o' := 14) (pc := 153) (i := 28) (ci := 6) (k := 2) C (by decide +kernel) fl_RX6_28 rfl rfl rfl ?_
      refine zs_getR (o' := 16) (pc := 156) (i := 152) (ci := 5) (k := 5) C (by decide +kernel) fl_RX6_152 rfl rfl rfl ?_
      refine zs_iload_n (pc := 159) (k := 1) (i := 1) C (by decide +kernel) rfl rfl ?_
      refine zs_iald (pc := 160) (o := 16) (n := 4) C (by decide +kernel) rfl (fun hinx13 x13 => ?_)
      refine zs_ishl (pc := 161) C (by decide +kernel) ?_
      refine zs_ior (pc := 162) C (by decide +kernel) ?_
      refine zs_ior (pc := 163) C (by decide +kernel) ?_
      refine zs_putI (pc := 164) (i := 45) (ci := 6) (k := 7) C (fun _ _ _ => rfl) (by decide +kernel) fl_RX6_45 fw_6_7 rfl rfl ?_
      refine zs_aload_n (pc := 167) (k := 0) (i := 0) C (by decide +kernel) rfl rfl ?_
      refine zs_getR (o' := 7) (pc := 168) (i := 21) (ci := 6) (k := 1) C (by decide +kernel) fl_RX6_21 rfl rfl rfl ?_
      refine zs_dup (pc := 171) C rfl (by decide +kernel) ?_
      refine zs_getI (pc := 172) (i := 143) (ci := 3) (k := 5) C (by decide +kernel) fl_RX6_143 rfl rfl (fun x14 => ?_)
      refine zs_iconst (pc := 175) (n := 1) (x := 1) C (by decide +kernel) (by decide +kernel) ?_
      refine zs_iadd (pc := 176) C (by decide +kernel) ?_
      refine zs_putI (pc := 177) (i := 143) (ci := 3) (k := 5) C (fun _ _ _ => rfl) (by decide +kernel) fl_RX6_143 fw_3_5 rfl rfl ?_
      exact zs_retVv (pc := 180) C hr ⟨Nat.le_of_ble_eq_true rfl, Nat.le_of_ble_eq_true rfl⟩ (by decide +kernel)
    · refine zs_icmp_ne (pc := 106) (off := 29) (tgt := 135) C (by decide +kernel) (by decide) ?_ ?_
      · exact zs_goj (hJ10 ()) ⟨rfl, rfl, trivial⟩
      · refine zs_aload_n (pc := 109) (k := 0) (i := 0) C (by decide +kernel) rfl rfl ?_
        refine zs_dup (pc := 110) C rfl (by decide +kernel) ?_
        refine zs_getI (pc := 111) (i := 39) (ci := 6) (k := 5) C (by decide +kernel) fl_RX6_39 rfl rfl (fun x15 => ?_)
        refine zs_iconst (pc := 114) (n := 1) (x := 1) C (by decide +kernel) (by decide +kernel) ?_
        refine zs_iadd (pc := 115) C (by decide +kernel) ?_
        refine zs_putI (pc := 116) (i := 39) (ci := 6) (k := 5) C (fun _ _ _ => rfl) (by decide +kernel) fl_RX6_39 fw_6_5 rfl rfl ?_
        refine zs_aload_n (pc := 119) (k := 0) (i := 0) C (by decide +kernel) rfl rfl ?_
        refine zs_getR (o' := 14) (pc := 120) (i := 28) (ci := 6) (k := 2) C (by decide +kernel) fl_RX6_28 rfl rfl rfl ?_
        refine zs_getR (o' := 17) (pc := 123) (i := 155) (ci := 5) (k := 6) C (by decide +kernel) fl_RX6_155 rfl rfl rfl ?_
        refine zs_iload_n (pc := 126) (k := 1) (i := 1) C (by decide +kernel) rfl rfl ?_
        refine zs_aload_n (pc := 127) (k := 0) (i := 0) C (by decide +kernel) rfl rfl ?_
        refine zs_iconst (pc := 128) (n := 0) (x := 0) C (by decide +kernel) (by decide +kernel) ?_
        refine zs_bipush (pc := 129) (n := 9) (x := 9) C (by decide +kernel) (by decide +kernel) ?_
        refine zs_cvWi (pc := 131) (As := [sI 0, sI 9]) (st := [sI x1, sR 17]) C (fun _ _ _ => rfl) (Or.inl rfl) (c_X6_number l g 0 9) ml_RX6_96 rfl rfl rfl rfl (Nat.le_of_ble_eq_true rfl) ⟨Nat.le_of_ble_eq_true rfl, Nat.le_of_ble_eq_true rfl⟩ ⟨Nat.le_of_ble_eq_true rfl, Nat.le_of_ble_eq_true rfl⟩ (by decide +kernel) (fun x16 => ?_)
        refine zs_iast (pc := 134) (o := 17) (n := 4) C (fun _ _ _ => rfl) (by decide +kernel) rfl ?_
        exact zs_goj (hJ10 ()) ⟨rfl, rfl, trivial⟩
  · refine zs_aload_n (pc := 13) (k := 0) (i := 0) C (by decide +kernel) rfl rfl ?_
    refine zs_iconst (pc := 14) (n := 4) (x := 4) C (by decide +kernel) (by decide +kernel) ?_
    refine zs_cvVv (pc := 15) (As := [sI 4]) (st := []) C (fun _ _ _ => rfl) (c_X6_refuse l g 4) ml_RX6_86 rfl rfl rfl rfl (Nat.le_of_ble_eq_true rfl) ⟨Nat.le_of_ble_eq_true rfl, Nat.le_of_ble_eq_true rfl⟩ ⟨Nat.le_of_ble_eq_true rfl, Nat.le_of_ble_eq_true rfl⟩ (by decide +kernel) ?_
    exact zs_retVv (pc := 18) C hr ⟨Nat.le_of_ble_eq_true rfl, Nat.le_of_ble_eq_true rfl⟩ (by decide +kernel)
set_option maxRecDepth 20000 in
theorem c_X6_opens (l : Launch) (g : GC) (a0 : Int) : ConW l g yX6_opens cX6_opens 2 (some .boolean) (rmd 2 0 0) [sR 2, sI a0] (fun mm => fX6_opens a0 mm) := by
  refine zs_ofW (by decide +kernel) (Nat.le_of_ble_eq_true rfl) ?_
  intro p e s m args below meth c C hr
  replace C : Bd g RX6 cX6_opens 2 p s m args meth c := C
  unfold fX6_opens
  refine zs_iload_n (pc := 0) (k := 1) (i := 1) C (by decide +kernel) rfl rfl ?_
  refine zs_bipush (pc := 1) (n := 6) (x := 6) C (by decide +kernel) (by decide +kernel) ?_
  refine zs_icmp_lt (pc := 3) (off := 10) (tgt := 13) C (by decide +kernel) (by decide) ?_ ?_
  · refine zs_aload_n (pc := 13) (k := 0) (i := 0) C (by decide +kernel) rfl rfl ?_
    refine zs_dup (pc := 14) C rfl (by decide +kernel) ?_
    refine zs_getI (pc := 15) (i := 39) (ci := 6) (k := 5) C (by decide +kernel) fl_RX6_39 rfl rfl (fun x1 => ?_)
    refine zs_iconst (pc := 18) (n := 1) (x := 1) C (by decide +kernel) (by decide +kernel) ?_
    refine zs_iadd (pc := 19) C (by decide +kernel) ?_
    refine zs_putI (pc := 20) (i := 39) (ci := 6) (k := 5) C (fun _ _ _ => rfl) (by decide +kernel) fl_RX6_39 fw_6_5 rfl rfl ?_
    refine zs_iconst (pc := 23) (n := 1) (x := 1) C (by decide +kernel) (by decide +kernel) ?_
    exact zs_retWz (pc := 24) C (by decide) hr ⟨Nat.le_of_ble_eq_true rfl, Nat.le_of_ble_eq_true rfl⟩ (by decide +kernel)
  · refine zs_aload_n (pc := 6) (k := 0) (i := 0) C (by decide +kernel) rfl rfl ?_
    refine zs_iconst (pc := 7) (n := 4) (x := 4) C (by decide +kernel) (by decide +kernel) ?_
    refine zs_cvVv (pc := 8) (As := [sI 4]) (st := []) C (fun _ _ _ => rfl) (c_X6_refuse l g 4) ml_RX6_86 rfl rfl rfl rfl (Nat.le_of_ble_eq_true rfl) ⟨Nat.le_of_ble_eq_true rfl, Nat.le_of_ble_eq_true rfl⟩ ⟨Nat.le_of_ble_eq_true rfl, Nat.le_of_ble_eq_true rfl⟩ (by decide +kernel) ?_
    refine zs_iconst (pc := 11) (n := 0) (x := 0) C (by decide +kernel) (by decide +kernel) ?_
    exact zs_retWz (pc := 12) C (by decide) hr ⟨Nat.le_of_ble_eq_true rfl, Nat.le_of_ble_eq_true rfl⟩ (by decide +kernel)
set_option maxRecDepth 20000 in
theorem cg_X6_readSum (l : Launch) (g : GC) : ∀ n : Nat, (∀ (a0 : Int), ConV l g yX6_readSum cX6_readSum 4 (rmd (3 + n) 0 0) [sR 2, sI a0] (fun mm => gX6_readSum n 0 a0 mm)) ∧ (∀ (a0 : Int), ConV l g yX6_readTerm cX6_readTerm 3 (rmd (3 + n) 0 0) [sR 2, sI a0] (fun mm => gX6_readSum n 1 a0 mm)) ∧ (∀ (a0 : Int), ConV l g yX6_readAtom cX6_readAtom 3 (rmd (3 + n) 0 0) [sR 2, sI a0] (fun mm => gX6_readSum n 2 a0 mm)) := by
  intro n
  induction n with
  | zero => exact ⟨(fun _ _ _ h => by cases h), (fun _ _ _ h => by cases h), (fun _ _ _ h => by cases h)⟩
  | succ n ih =>
    refine ⟨?_, ?_, ?_⟩
    · intro a0
      show ConV l g yX6_readSum cX6_readSum 4 (rmd (3 + (n + 1)) 0 0) [sR 2, sI a0] (fun mm => fX6_readSum_F (gX6_readSum n) a0 mm)
      refine zs_ofV (by decide +kernel) (Nat.le_of_ble_eq_true rfl) ?_
      intro p e s m args below meth c C hr
      replace C : Bd g RX6 cX6_readSum 4 p s m args meth c := C
      unfold fX6_readSum_F
      refine zs_aload_n (pc := 0) (k := 0) (i := 0) C (by decide +kernel) rfl rfl ?_
      refine zs_iload_n (pc := 1) (k := 1) (i := 1) C (by decide +kernel) rfl rfl ?_
      refine zs_cvVv (pc := 2) (As := [sI a0]) (st := []) C (fun _ _ _ => rfl) (ih.2.1 a0) ml_RX6_189 rfl rfl rfl rfl (Nat.le_of_ble_eq_true rfl) (by constructor <;> simp only [rmd] <;> omega) (by constructor <;> simp only [rmd] <;> omega) (by decide +kernel) ?_
      refine zs_iconst (pc := 5) (n := 0) (x := 0) C (by decide +kernel) (by decide +kernel) ?_
      refine zs_istore_n (pc := 6) (k := 2) (i := 2) (ls' := [(2, sI 0), (0, sR 2), (1, sI a0)]) C (by decide +kernel) rfl (Nat.le_of_ble_eq_true rfl) rfl ?_
      refine zs_sub (ls' := [(0, sR 2), (1, sI a0), (2, sI 0)]) ⟨rfl, rfl, rfl, trivial⟩ ?_
      refine zs_lp (pc := 7) (fun (t1 : Int) => [(0, sR 2), (1, sI a0), (2, sI t1)]) (fun _ => []) (fun K2 hK2 t1 => ?_) BIG 0
      refine zs_iload_n (pc := 7) (k := 2) (i := 2) C (by decide +kernel) rfl rfl ?_
      refine zs_sipush (pc := 8) (n := 900) (x := 900) C (by decide +kernel) (by decide +kernel) ?_
      refine zs_jn (pJ := 66) (kJ := 0) (sJ := 0) (fun t3 => []) (fun t3 => []) (fun t3 => ?_) (fun J4 hJ4 => ?_)
      · exact zs_retVv (pc := 66) C hr ⟨Nat.zero_le _, Nat.zero_le _⟩ (by decide +kernel)
      · refine zs_icmp_ge (pc := 11) (off := 55) (tgt := 66) C (by decide +kernel) (by decide) ?_ ?_
        · exact zs_goj (hJ4 ()) trivial
        · refine zs_aload_n (pc := 14) (k := 0) (i := 0) C (by decide +kernel) rfl rfl ?_
          refine zs_cvRi (pc := 15) (As := []) (st := []) C (Or.inl rfl) (c_X6_token l g ) ml_RX6_66 rfl rfl rfl rfl (Nat.le_of_ble_eq_true rfl) (by constructor <;> simp only [rmd] <;> omega) (by constructor <;> simp only [rmd] <;> omega) (by decide +kernel) (fun x5 => ?_)
          refine zs_bipush (pc := 18) (n := 43) (x := 43) C (by decide +kernel) (by decide +kernel) ?_
          refine zs_jn (pJ := 32) (kJ := 0) (sJ := 0) (fun t6 => [(0, sR 2), (1, sI a0), (2, sI t1)]) (fun t6 => []) (fun t6 => ?_) (fun J7 hJ7 => ?_)
          · refine zs_aload_n (pc := 32) (k := 0) (i := 0) C (by decide +kernel) rfl rfl ?_
            refine zs_cvRi (pc := 33) (As := []) (st := []) C (Or.inl rfl) (c_X6_token l g ) ml_RX6_66 rfl rfl rfl rfl (Nat.le_of_ble_eq_true rfl) (by constructor <;> simp only [rmd] <;> omega) (by constructor <;> simp only [rmd] <;> omega) (by decide +kernel) (fun x8 => ?_)
            refine zs_istore_n (pc := 36) (k := 3) (i := 3) (ls' := [(3, sI x8), (0, sR 2), (1, sI a0), (2, sI t1)]) C (by decide +kernel) rfl (Nat.le_of_ble_eq_true rfl) rfl ?_
            refine zs_aload_n (pc := 37) (k := 0) (i := 0) C (by decide +kernel) rfl rfl ?_
            refine zs_dup (pc := 38) C rfl (by decide +kernel) ?_
            refine zs_getI (pc := 39) (i := 39) (ci := 6) (k := 5) C (by decide +kernel) fl_RX6_39 rfl rfl (fun x9 => ?_)
            refine zs_iconst (pc := 42) (n := 1) (x := 1) C (by decide +kernel) (by decide +kernel) ?_
            refine zs_iadd (pc := 43) C (by decide +kernel) ?_
            refine zs_putI (pc := 44) (i := 39) (ci := 6) (k := 5) C (fun _ _ _ => rfl) (by decide +kernel) fl_RX6_39 fw_6_5 rfl rfl ?_
            refine zs_aload_n (pc := 47) (k := 0) (i := 0) C (by decide +kernel) rfl rfl ?_
            refine zs_iload_n (pc := 48) (k := 1) (i := 1) C (by decide +kernel) rfl rfl ?_
            refine zs_cvVv (pc := 49) (As := [sI a0]) (st := []) C (fun _ _ _ => rfl) (ih.2.1 a0) ml_RX6_189 rfl rfl rfl rfl (Nat.le_of_ble_eq_true rfl) (by constructor <;> simp only [rmd] <;> omega) (by constructor <;> simp only [rmd] <;> omega) (by decide +kernel) ?_
            refine zs_aload_n (pc := 52) (k := 0) (i := 0) C (by decide +kernel) rfl rfl ?_
            refine zs_getM (pc := 53) (i := 52) (ci := 6) (k := 8) C (by decide +kernel) fl_RX6_52 rfl rfl (fun x10 => ?_)
            refine zs_need (fun hx10 => ?_)
            refine zs_iload_n (pc := 56) (k := 3) (i := 3) C (by decide +kernel) rfl rfl ?_
            refine zs_cvVv (pc := 57) (As := [sI x8]) (st := []) C (fun _ _ _ => rfl) (c_X4_put l g x10 x8 hx10) ml_RX6_179 hx10 rfl rfl rfl (Nat.le_of_ble_eq_true rfl) (by constructor <;> simp only [rmd] <;> omega) (by constructor <;> simp only [rmd] <;> omega) (by decide +kernel) ?_
            refine zs_iinc (pc := 60) (i := 2) (n := 1) (y := w32 (t1 + 1)) (ls' := [(2, sI (w32 (t1 + 1))), (3, sI x8), (0, sR 2), (1, sI a0)]) C (by decide +kernel) rfl rfl (Nat.le_of_ble_eq_true rfl) rfl ?_
            refine zs_goto (pc := 63) (off := (-56)) (tgt := 7) C (by decide +kernel) (by decide) ?_
            exact zs_goj (hK2 (w32 (t1 + 1))) ⟨rfl, rfl, rfl, trivial⟩
          · refine zs_icmp_eq (pc := 20) (off := 12) (tgt := 32) C (by decide +kernel) (by decide) ?_ ?_
            · exact zs_goj (hJ7 ()) ⟨rfl, rfl, rfl, trivial⟩
            · refine zs_aload_n (pc := 23) (k := 0) (i := 0) C (by decide +kernel) rfl rfl ?_
              refine zs_cvRi (pc := 24) (As := []) (st := []) C (Or.inl rfl) (c_X6_token l g ) ml_RX6_66 rfl rfl rfl rfl (Nat.le_of_ble_eq_true rfl) (by constructor <;> simp only [rmd] <;> omega) (by constructor <;> simp only [rmd] <;> omega) (by decide +kernel) (fun x11 => ?_)
              refine zs_bipush (pc := 27) (n := 45) (x := 45) C (by decide +kernel) (by decide +kernel) ?_
              refine zs_icmp_ne (pc := 29) (off := 37) (tgt := 66) C (by decide +kernel) (by decide) ?_ ?_
              · exact zs_goj (hJ4 ()) trivial
              · exact zs_goj (hJ7 ()) ⟨rfl, rfl, rfl, trivial⟩
    · intro a0
      show ConV l g yX6_readTerm cX6_readTerm 3 (rmd (3 + (n + 1)) 0 0) [sR 2, sI a0] (fun mm => fX6_readTerm_F (gX6_readSum n) a0 mm)
      refine zs_ofV (by decide +kernel) (Nat.le_of_ble_eq_true rfl) ?_
      intro p e s m args below meth c C hr
      replace C : Bd g RX6 cX6_readTerm 3 p s m args meth c := C
      unfold fX6_readTerm_F
      refine zs_aload_n (pc := 0) (k := 0) (i := 0) C (by decide +kernel) rfl rfl ?_
      refine zs_iload_n (pc := 1) (k := 1) (i := 1) C (by decide +kernel) rfl rfl ?_
      refine zs_cvVv (pc := 2) (As := [sI a0]) (st := []) C (fun _ _ _ => rfl) (ih.2.2 a0) ml_RX6_192 rfl rfl rfl rfl (Nat.le_of_ble_eq_true rfl) (by constructor <;> simp only [rmd] <;> omega) (by constructor <;> simp only [rmd] <;> omega) (by decide +kernel) ?_
      refine zs_iconst (pc := 5) (n := 0) (x := 0) C (by decide +kernel) (by decide +kernel) ?_
      refine zs_istore_n (pc := 6) (k := 2) (i := 2) (ls' := [(2, sI 0), (0, sR 2), (1, sI a0)]) C (by decide +kernel) rfl (Nat.le_of_ble_eq_true rfl) rfl ?_
      refine zs_sub (ls' := [(0, sR 2), (1, sI a0), (2, sI 0)]) ⟨rfl, rfl, rfl, trivial⟩ ?_
      refine zs_lp (pc := 7) (fun (t1 : Int) => [(0, sR 2), (1, sI a0), (2, sI t1)]) (fun _ => []) (fun K2 hK2 t1 => ?_) BIG 0
      refine zs_iload_n (pc := 7) (k := 2) (i := 2) C (by decide +kernel) rfl rfl ?_
      refine zs_sipush (pc := 8) (n := 900) (x := 900) C (by decide +kernel) (by decide +kernel) ?_
      refine zs_jn (pJ := 53) (kJ := 0) (sJ := 0) (fun t3 => []) (fun t3 => []) (fun t3 => ?_) (fun J4 hJ4 => ?_)
      · exact zs_retVv (pc := 53) C hr ⟨Nat.zero_le _, Nat.zero_le _⟩ (by decide +kernel)
      · refine zs_icmp_ge (pc := 11) (off := 42) (tgt := 53) C (by decide +kernel) (by decide) ?_ ?_
        · exact zs_goj (hJ4 ()) trivial
        · refine zs_aload_n (pc := 14) (k := 0) (i := 0) C (by decide +kernel) rfl rfl ?_
          refine zs_cvRi (pc := 15) (As := []) (st := []) C (Or.inl rfl) (c_X6_token l g ) ml_RX6_66 rfl rfl rfl rfl (Nat.le_of_ble_eq_true rfl) (by constructor <;> simp only [rmd] <;> omega) (by constructor <;> simp only [rmd] <;> omega) (by decide +kernel) (fun x5 => ?_)
          refine zs_bipush (pc := 18) (n := 42) (x := 42) C (by decide +kernel) (by decide +kernel) ?_
          refine zs_icmp_ne (pc := 20) (off := 33) (tgt := 53) C (by decide +kernel) (by decide) ?_ ?_
          · exact zs_goj (hJ4 ()) trivial
          · refine zs_aload_n (pc := 23) (k := 0) (i := 0) C (by decide +kernel) rfl rfl ?_
            refine zs_dup (pc := 24) C rfl (by decide +kernel) ?_
            refine zs_getI (pc := 25) (i := 39) (ci := 6) (k := 5) C (by decide +kernel) fl_RX6_39 rfl rfl (fun x6 => ?_)
            refine zs_iconst (pc := 28) (n := 1) (x := 1) C (by decide +kernel) (by decide +kernel) ?_
            refine zs_iadd (pc := 29) C (by decide +kernel) ?_
            refine zs_putI (pc := 30) (i := 39) (ci := 6) (k := 5) C (fun _ _ _ => rfl) (by decide +kernel) fl_RX6_39 fw_6_5 rfl rfl ?_
            refine zs_aload_n (pc := 33) (k := 0) (i := 0) C (by decide +kernel) rfl rfl ?_
            refine zs_iload_n (pc := 34) (k := 1) (i := 1) C (by decide +kernel) rfl rfl ?_
            refine zs_cvVv (pc := 35) (As := [sI a0]) (st := []) C (fun _ _ _ => rfl) (ih.2.2 a0) ml_RX6_192 rfl rfl rfl rfl (Nat.le_of_ble_eq_true rfl) (by constructor <;> simp only [rmd] <;> omega) (by constructor <;> simp only [rmd] <;> omega) (by decide +kernel) ?_
            refine zs_aload_n (pc := 38) (k := 0) (i := 0) C (by decide +kernel) rfl rfl ?_
            refine zs_getM (pc := 39) (i := 52) (ci := 6) (k := 8) C (by decide +kernel) fl_RX6_52 rfl rfl (fun x7 => ?_)
            refine zs_need (fun hx7 => ?_)
            refine zs_bipush (pc := 42) (n := 42) (x := 42) C (by decide +kernel) (by decide +kernel) ?_
            refine zs_cvVv (pc := 44) (As := [sI 42]) (st := []) C (fun _ _ _ => rfl) (c_X4_put l g x7 42 hx7) ml_RX6_179 hx7 rfl rfl rfl (Nat.le_of_ble_eq_true rfl) (by constructor <;> simp only [rmd] <;> omega) (by constructor <;> simp only [rmd] <;> omega) (by decide +kernel) ?_
            refine zs_iinc (pc := 47) (i := 2) (n := 1) (y := w32 (t1 + 1)) (ls' := [(2, sI (w32 (t1 + 1))), (0, sR 2), (1, sI a0)]) C (by decide +kernel) rfl rfl (Nat.le_of_ble_eq_true rfl) rfl ?_
            refine zs_goto (pc := 50) (off := (-43)) (tgt := 7) C (by decide +kernel) (by decide) ?_
            exact zs_goj (hK2 (w32 (t1 + 1))) ⟨rfl, rfl, rfl, trivial⟩
    · intro a0
      show ConV l g yX6_readAtom cX6_readAtom 3 (rmd (3 + (n + 1)) 0 0) [sR 2, sI a0] (fun mm => fX6_readAtom_F (gX6_readSum n) a0 mm)
      refine zs_ofV (by decide +kernel) (Nat.le_of_ble_eq_true rfl) ?_
      intro p e s m args below meth c C hr
      replace C : Bd g RX6 cX6_readAtom 3 p s m args meth c := C
      unfold fX6_readAtom_F
      refine zs_aload_n (pc := 0) (k := 0) (i := 0) C (by decide +kernel) rfl rfl ?_
      refine zs_cvRi (pc := 1) (As := []) (st := []) C (Or.inl rfl) (c_X6_token l g ) ml_RX6_66 rfl rfl rfl rfl (Nat.le_of_ble_eq_true rfl) (by constructor <;> simp only [rmd] <;> omega) (by constructor <;> simp only [rmd] <;> omega) (by decide +kernel) (fun x1 => ?_)
      refine zs_istore_n (pc := 4) (k := 2) (i := 2) (ls' := [(2, sI x1), (0, sR 2), (1, sI a0)]) C (by decide +kernel) rfl (Nat.le_of_ble_eq_true rfl) rfl ?_
      refine zs_iload_n (pc := 5) (k := 2) (i := 2) C (by decide +kernel) rfl rfl ?_
      refine zs_bipush (pc := 6) (n := 40) (x := 40) C (by decide +kernel) (by decide +kernel) ?_
      refine zs_jn (pJ := 113) (kJ := 0) (sJ := 0) (fun t2 => []) (fun t2 => []) (fun t2 => ?_) (fun J3 hJ3 => ?_)
      · exact zs_retVv (pc := 113) C hr ⟨Nat.zero_le _, Nat.zero_le _⟩ (by decide +kernel)
      · refine zs_icmp_ne (pc := 8) (off := 27) (tgt := 35) C (by decide +kernel) (by decide) ?_ ?_
        · refine zs_iload_n (pc := 35) (k := 2) (i := 2) C (by decide +kernel) rfl rfl ?_
          refine zs_iconst (pc := 36) (n := 1) (x := 1) C (by decide +kernel) (by decide +kernel) ?_
          refine zs_icmp_ne (pc := 37) (off := 39) (tgt := 76) C (by decide +kernel) (by decide) ?_ ?_
          · refine zs_aload_n (pc := 76) (k := 0) (i := 0) C (by decide +kernel) rfl rfl ?_
            refine zs_getM (pc := 77) (i := 52) (ci := 6) (k := 8) C (by decide +kernel) fl_RX6_52 rfl rfl (fun x4 => ?_)
            refine zs_need (fun hx4 => ?_)
            refine zs_iload_n (pc := 80) (k := 2) (i := 2) C (by decide +kernel) rfl rfl ?_
            refine zs_cvRi (pc := 81) (As := [sI x1]) (st := []) C (Or.inr rfl) (c_X4_knows l g x4 x1 hx4) ml_RX6_195 hx4 rfl rfl rfl (Nat.le_of_ble_eq_true rfl) (by constructor <;> simp only [rmd] <;> omega) (by constructor <;> simp only [rmd] <;> omega) (by decide +kernel) (fun x5 => ?_)
            refine zs_if_eq (pc := 84) (off := 24) (tgt := 108) C (by decide +kernel) (by decide) ?_ ?_
            · refine zs_aload_n (pc := 108) (k := 0) (i := 0) C (by decide +kernel) rfl rfl ?_
              refine zs_iconst (pc := 109) (n := 2) (x := 2) C (by decide +kernel) (by decide +kernel) ?_
              refine zs_cvVv (pc := 110) (As := [sI 2]) (st := []) C (fun _ _ _ => rfl) (c_X6_refuse l g 2) ml_RX6_86 rfl rfl rfl rfl (Nat.le_of_ble_eq_true rfl) (by constructor <;> simp only [rmd] <;> omega) (by constructor <;> simp only [rmd] <;> omega) (by decide +kernel) ?_
              exact zs_goj (hJ3 ()) trivial
            · refine zs_aload_n (pc := 87) (k := 0) (i := 0) C (by decide +kernel) rfl rfl ?_
              refine zs_getM (pc := 88) (i := 52) (ci := 6) (k := 8) C (by decide +kernel) fl_RX6_52 rfl rfl (fun x6 => ?_)
              refine zs_need (fun hx6 => ?_)
              refine zs_iload_n (pc := 91) (k := 2) (i := 2) C (by decide +kernel) rfl rfl ?_
              refine zs_cvVv (pc := 92) (As := [sI x1]) (st := []) C (fun _ _ _ => rfl) (c_X4_put l g x6 x1 hx6) ml_RX6_179 hx6 rfl rfl rfl (Nat.le_of_ble_eq_true rfl) (by constructor <;> simp only [rmd] <;> omega) (by constructor <;> simp only [rmd] <;> omega) (by decide +kernel) ?_
              refine zs_aload_n (pc := 95) (k := 0) (i := 0) C (by decide +kernel) rfl rfl ?_
              refine zs_dup (pc := 96) C rfl (by decide +kernel) ?_
              refine zs_getI (pc := 97) (i := 39) (ci := 6) (k := 5) C (by decide +kernel) fl_RX6_39 rfl rfl (fun x7 => ?_)
              refine zs_iconst (pc := 100) (n := 1) (x := 1) C (by decide +kernel) (by decide +kernel) ?_
              refine zs_iadd (pc := 101) C (by decide +kernel) ?_
              refine zs_putI (pc := 102) (i := 39) (ci := 6) (k := 5) C (fun _ _ _ => rfl) (by decide +kernel) fl_RX6_39 fw_6_5 rfl rfl ?_
              refine zs_goto (pc := 105) (off := 8) (tgt := 113) C (by decide +kernel) (by decide) ?_
              exact zs_goj (hJ3 ()) trivial
          · refine zs_aload_n (pc := 40) (k := 0) (i := 0) C (by decide +kernel) rfl rfl ?_
            refine zs_getM (pc := 41) (i := 52) (ci := 6) (k := 8) C (by decide +kernel) fl_RX6_52 rfl rfl (fun x8 => ?_)
            refine zs_need (fun hx8 => ?_)
            refine zs_sipush (pc := 44) (n := 1000) (x := 1000) C (by decide +kernel) (by decide +kernel) ?_
            refine zs_aload_n (pc := 47) (k := 0) (i := 0) C (by decide +kernel) rfl rfl ?_
            refine zs_getR (o' := 3) (pc := 48) (i := 12) (ci := 6) (k := 0) C (by decide +kernel) fl_RX6_12 rfl rfl rfl ?_
            refine zs_getR (o' := 5) (pc := 51) (i := 90) (ci := 8) (k := 1) C (by decide +kernel) fl_RX6_90 rfl rfl rfl ?_
            refine zs_aload_n (pc := 54) (k := 0) (i := 0) C (by decide +kernel) rfl rfl ?_
            refine zs_getI (pc := 55) (i := 39) (ci := 6) (k := 5) C (by decide +kernel) fl_RX6_39 rfl rfl (fun x9 => ?_)
            refine zs_iald (pc := 58) (o := 5) (n := 901) C (by decide +kernel) rfl (fun hinx10 x10 => ?_)
            refine zs_iadd (pc := 59) C (by decide +kernel) ?_
            refine zs_cvVv (pc := 60) (As := [sI (w32 (1000 + x10))]) (st := []) C (fun _ _ _ => rfl) (c_X4_put l g x8 (w32 (1000 + x10)) hx8) ml_RX6_179 hx8 rfl rfl rfl (Nat.le_of_ble_eq_true rfl) (by constructor <;> simp only [rmd] <;> omega) (by constructor <;> simp only [rmd] <;> omega) (by decide +kernel) ?_
            refine zs_aload_n (pc := 63) (k := 0) (i := 0) C (by decide +kernel) rfl rfl ?_
            refine zs_dup (pc := 64) C rfl (by decide +kernel) ?_
            refine zs_getI (pc := 65) (i := 39) (ci := 6) (k := 5) C (by decide +kernel) fl_RX6_39 rfl rfl (fun x11 => ?_)
            refine zs_iconst (pc := 68) (n := 1) (x := 1) C (by decide +kernel) (by decide +kernel) ?_
            refine zs_iadd (pc := 69) C (by decide +kernel) ?_
            refine zs_putI (pc := 70) (i := 39) (ci := 6) (k := 5) C (fun _ _ _ => rfl) (by decide +kernel) fl_RX6_39 fw_6_5 rfl rfl ?_
            refine zs_goto (pc := 73) (off := 40) (tgt := 113) C (by decide +kernel) (by decide) ?_
            exact zs_goj (hJ3 ()) trivial
        · refine zs_aload_n (pc := 11) (k := 0) (i := 0) C (by decide +kernel) rfl rfl ?_
          refine zs_iload_n (pc := 12) (k := 1) (i := 1) C (by decide +kernel) rfl rfl ?_
          refine zs_cvWi (pc := 13) (As := [sI a0]) (st := []) C (fun _ _ _ => rfl) (Or.inr rfl) (c_X6_opens l g a0) ml_RX6_185 rfl rfl rfl rfl (Nat.le_of_ble_eq_true rfl) (by constructor <;> simp only [rmd] <;> omega) (by constructor <;> simp only [rmd] <;> omega) (by decide +kernel) (fun x12 => ?_)
          refine zs_if_eq (pc := 16) (off := 97) (tgt := 113) C (by decide +kernel) (by decide) ?_ ?_
          · exact zs_goj (hJ3 ()) trivial
          · refine zs_aload_n (pc := 19) (k := 0) (i := 0) C (by decide +kernel) rfl rfl ?_
            refine zs_iload_n (pc := 20) (k := 1) (i := 1) C (by decide +kernel) rfl rfl ?_
            refine zs_iconst (pc := 21) (n := 1) (x := 1) C (by decide +kernel) (by decide +kernel) ?_
            refine zs_iadd (pc := 22) C (by decide +kernel) ?_
            refine zs_cvVv (pc := 23) (As := [sI (w32 (a0 + 1))]) (st := []) C (fun _ _ _ => rfl) (ih.1 (w32 (a0 + 1))) ml_RX6_167 rfl rfl rfl rfl (Nat.le_of_ble_eq_true rfl) (by constructor <;> simp only [rmd] <;> omega) (by constructor <;> simp only [rmd] <;> omega) (by decide +kernel) ?_
            refine zs_aload_n (pc := 26) (k := 0) (i := 0) C (by decide +kernel) rfl rfl ?_
            refine zs_bipush (pc := 27) (n := 41) (x := 41) C (by decide +kernel) (by decide +kernel) ?_
            refine zs_cvVv (pc := 29) (As := [sI 41]) (st := []) C (fun _ _ _ => rfl) (c_X6_take l g 41) ml_RX6_103 rfl rfl rfl rfl (Nat.le_of_ble_eq_true rfl) (by constructor <;> simp only [rmd] <;> omega) (by constructor <;> simp only [rmd] <;> omega) (by decide +kernel) ?_
            refine zs_goto (pc := 32) (off := 81) (tgt := 113) C (by decide +kernel) (by decide) ?_
            exact zs_goj (hJ3 ()) trivial
set_option maxRecDepth 20000 in
theorem c_X6_readLengthLaw (l : Launch) (g : GC)  : ConV l g yX6_readLengthLaw cX6_readLengthLaw 1 (rmd 34 0 0) [sR 2] (fun mm => fX6_readLengthLaw  mm) := by
  refine zs_ofV (by decide +kernel) (Nat.le_of_ble_eq_true rfl) ?_
  intro p e s m args below meth c C hr
  replace C : Bd g RX6 cX6_readLengthLaw 1 p s m args meth c := C
  unfold fX6_readLengthLaw
  refine zs_aload_n (pc := 0) (k := 0) (i := 0) C (by decide +kernel) rfl rfl ?_
  refine zs_dup (pc := 1) C rfl (by decide +kernel) ?_
  refine zs_getI (pc := 2) (i := 39) (ci := 6) (k := 5) C (by decide +kernel) fl_RX6_39 rfl rfl (fun x1 => ?_)
  refine zs_iconst (pc := 5) (n := 1) (x := 1) C (by decide +kernel) (by decide +kernel) ?_
  refine zs_iadd (pc := 6) C (by decide +kernel) ?_
  refine zs_putI (pc := 7) (i := 39) (ci := 6) (k := 5) C (fun _ _ _ => rfl) (by decide +kernel) fl_RX6_39 fw_6_5 rfl rfl ?_
  refine zs_aload_n (pc := 10) (k := 0) (i := 0) C (by decide +kernel) rfl rfl ?_
  refine zs_bipush (pc := 11) (n := 58) (x := 58) C (by decide +kernel) (by decide +kernel) ?_
  refine zs_cvVv (pc := 13) (As := [sI 58]) (st := []) C (fun _ _ _ => rfl) (c_X6_take l g 58) ml_RX6_103 rfl rfl rfl rfl (Nat.le_of_ble_eq_true rfl) ⟨Nat.le_of_ble_eq_true rfl, Nat.le_of_ble_eq_true rfl⟩ ⟨Nat.le_of_ble_eq_true rfl, Nat.le_of_ble_eq_true rfl⟩ (by decide +kernel) ?_
  refine zs_aload_n (pc := 16) (k := 0) (i := 0) C (by decide +kernel) rfl rfl ?_
  refine zs_aload_n (pc := 17) (k := 0) (i := 0) C (by decide +kernel) rfl rfl ?_
  refine zs_getR (o' := 7) (pc := 18) (i := 21) (ci := 6) (k := 1) C (by decide +kernel) fl_RX6_21 rfl rfl rfl ?_
  refine zs_getR (o' := 10) (pc := 21) (i := 48) (ci := 3) (k := 8) C (by decide +kernel) fl_RX6_48 rfl rfl rfl ?_
  refine zs_putM (hty := rfl) (pc := 24) (i := 52) (ci := 6) (k := 8) C (fun _ _ _ => rfl) (by decide +kernel) fl_RX6_52 fw_6_8 rfl rfl ?_
  refine zs_aload_n (pc := 27) (k := 0) (i := 0) C (by decide +kernel) rfl rfl ?_
  refine zs_getM (pc := 28) (i := 52) (ci := 6) (k := 8) C (by decide +kernel) fl_RX6_52 rfl rfl (fun x2 => ?_)
  refine zs_need (fun hx2 => ?_)
  refine zs_sipush (pc := 31) (n := 128) (x := 128) C (by decide +kernel) (by decide +kernel) ?_
  refine zs_sipush (pc := 34) (n := 132) (x := 132) C (by decide +kernel) (by decide +kernel) ?_
  refine zs_cvVv (pc := 37) (As := [sI 128, sI 132]) (st := []) C (fun _ _ _ => rfl) (c_X4_begin l g x2 128 132 hx2) ml_RX6_161 hx2 rfl rfl rfl (Nat.le_of_ble_eq_true rfl) ⟨Nat.le_of_ble_eq_true rfl, Nat.le_of_ble_eq_true rfl⟩ ⟨Nat.le_of_ble_eq_true rfl, Nat.le_of_ble_eq_true rfl⟩ (by decide +kernel) ?_
  refine zs_aload_n (pc := 40) (k := 0) (i := 0) C (by decide +kernel) rfl rfl ?_
  refine zs_iconst (pc := 41) (n := 0) (x := 0) C (by decide +kernel) (by decide +kernel) ?_
  refine zs_cvVv (pc := 42) (As := [sI 0]) (st := []) C (fun _ _ _ => rfl) ((cg_X6_readSum l g 30).1 0) ml_RX6_167 rfl rfl rfl rfl (Nat.le_of_ble_eq_true rfl) (by constructor <;> simp only [rmd] <;> omega) (by constructor <;> simp only [rmd] <;> omega) (by decide +kernel) ?_
  exact zs_retVv (pc := 45) C hr ⟨Nat.le_of_ble_eq_true rfl, Nat.le_of_ble_eq_true rfl⟩ (by decide +kernel)
set_option maxRecDepth 20000 in
theorem cg_X6_readTruth (l : Launch) (g : GC) : ∀ n : Nat, (∀ (a0 : Int), ConV l g yX6_readTruth cX6_readTruth 3 (rmd (34 + n) 0 0) [sR 2, sI a0] (fun mm => gX6_readTruth n 0 a0 mm)) ∧ (∀ (a0 : Int), ConV l g yX6_readBoth cX6_readBoth 3 (rmd (34 + n) 0 0) [sR 2, sI a0] (fun mm => gX6_readTruth n 1 a0 mm)) ∧ (∀ (a0 : Int), ConV l g yX6_readUnit cX6_readUnit 4 (rmd (34 + n) 0 0) [sR 2, sI a0] (fun mm => gX6_readTruth n 2 a0 mm)) := by
  intro n
  induction n with
  | zero => exact ⟨(fun _ _ _ h => by cases h), (fun _ _ _ h => by cases h), (fun _ _ _ h => by cases h)⟩
  | succ n ih =>
    refine ⟨?_, ?_, ?_⟩
    · intro a0
      show ConV l g yX6_readTruth cX6_readTruth 3 (rmd (34 + (n + 1)) 0 0) [sR 2, sI a0] (fun mm => fX6_readTruth_F (gX6_readTruth n) a0 mm)
      refine zs_ofV (by decide +kernel) (Nat.le_of_ble_eq_true rfl) ?_
      intro p e s m args below meth c C hr
      replace C : Bd g RX6 cX6_readTruth 3 p s m args meth c := C
      unfold fX6_readTruth_F
      refine zs_aload_n (pc := 0) (k := 0) (i := 0) C (by decide +kernel) rfl rfl ?_
      refine zs_iload_n (pc := 1) (k := 1) (i := 1) C (by decide +kernel) rfl rfl ?_
      refine zs_cvVv (pc := 2) (As := [sI a0]) (st := []) C (fun _ _ _ => rfl) (ih.2.1 a0) ml_RX6_176 rfl rfl rfl rfl (Nat.le_of_ble_eq_true rfl) (by constructor <;> simp only [rmd] <;> omega) (by constructor <;> simp only [rmd] <;> omega) (by decide +kernel) ?_
      refine zs_iconst (pc := 5) (n := 0) (x := 0) C (by decide +kernel) (by decide +kernel) ?_
      refine zs_istore_n (pc := 6) (k := 2) (i := 2) (ls' := [(2, sI 0), (0, sR 2), (1, sI a0)]) C (by decide +kernel) rfl (Nat.le_of_ble_eq_true rfl) rfl ?_
      refine zs_sub (ls' := [(0, sR 2), (1, sI a0), (2, sI 0)]) ⟨rfl, rfl, rfl, trivial⟩ ?_
      refine zs_lp (pc := 7) (fun (t1 : Int) => [(0, sR 2), (1, sI a0), (2, sI t1)]) (fun _ => []) (fun K2 hK2 t1 => ?_) BIG 0
      refine zs_iload_n (pc := 7) (k := 2) (i := 2) C (by decide +kernel) rfl rfl ?_
      refine zs_sipush (pc := 8) (n := 900) (x := 900) C (by decide +kernel) (by decide +kernel) ?_
      refine zs_jn (pJ := 55) (kJ := 0) (sJ := 0) (fun t3 => []) (fun t3 => []) (fun t3 => ?_) (fun J4 hJ4 => ?_)
      · exact zs_retVv (pc := 55) C hr ⟨Nat.zero_le _, Nat.zero_le _⟩ (by decide +kernel)
      · refine zs_icmp_ge (pc := 11) (off := 44) (tgt := 55) C (by decide +kernel) (by decide) ?_ ?_
        · exact zs_goj (hJ4 ()) trivial
        · refine zs_aload_n (pc := 14) (k := 0) (i := 0) C (by decide +kernel) rfl rfl ?_
          refine zs_cvRi (pc := 15) (As := []) (st := []) C (Or.inl rfl) (c_X6_token l g ) ml_RX6_66 rfl rfl rfl rfl (Nat.le_of_ble_eq_true rfl) (by constructor <;> simp only [rmd] <;> omega) (by constructor <;> simp only [rmd] <;> omega) (by decide +kernel) (fun x5 => ?_)
          refine zs_sipush (pc := 18) (n := 144) (x := 144) C (by decide +kernel) (by decide +kernel) ?_
          refine zs_icmp_ne (pc := 21) (off := 34) (tgt := 55) C (by decide +kernel) (by decide) ?_ ?_
          · exact zs_goj (hJ4 ()) trivial
          · refine zs_aload_n (pc := 24) (k := 0) (i := 0) C (by decide +kernel) rfl rfl ?_
            refine zs_dup (pc := 25) C rfl (by decide +kernel) ?_
            refine zs_getI (pc := 26) (i := 39) (ci := 6) (k := 5) C (by decide +kernel) fl_RX6_39 rfl rfl (fun x6 => ?_)
            refine zs_iconst (pc := 29) (n := 1) (x := 1) C (by decide +kernel) (by decide +kernel) ?_
            refine zs_iadd (pc := 30) C (by decide +kernel) ?_
            refine zs_putI (pc := 31) (i := 39) (ci := 6) (k := 5) C (fun _ _ _ => rfl) (by decide +kernel) fl_RX6_39 fw_6_5 rfl rfl ?_
            refine zs_aload_n (pc := 34) (k := 0) (i := 0) C (by decide +kernel) rfl rfl ?_
            refine zs_iload_n (pc := 35) (k := 1) (i := 1) C (by decide +kernel) rfl rfl ?_
            refine zs_cvVv (pc := 36) (As := [sI a0]) (st := []) C (fun _ _ _ => rfl) (ih.2.1 a0) ml_RX6_176 rfl rfl rfl rfl (Nat.le_of_ble_eq_true rfl) (by constructor <;> simp only [rmd] <;> omega) (by constructor <;> simp only [rmd] <;> omega) (by decide +kernel) ?_
            refine zs_aload_n (pc := 39) (k := 0) (i := 0) C (by decide +kernel) rfl rfl ?_
            refine zs_getM (pc := 40) (i := 52) (ci := 6) (k := 8) C (by decide +kernel) fl_RX6_52 rfl rfl (fun x7 => ?_)
            refine zs_need (fun hx7 => ?_)
            refine zs_sipush (pc := 43) (n := 144) (x := 144) C (by decide +kernel) (by decide +kernel) ?_
            refine zs_cvVv (pc := 46) (As := [sI 144]) (st := []) C (fun _ _ _ => rfl) (c_X4_put l g x7 144 hx7) ml_RX6_179 hx7 rfl rfl rfl (Nat.le_of_ble_eq_true rfl) (by constructor <;> simp only [rmd] <;> omega) (by constructor <;> simp only [rmd] <;> omega) (by decide +kernel) ?_
            refine zs_iinc (pc := 49) (i := 2) (n := 1) (y := w32 (t1 + 1)) (ls' := [(2, sI (w32 (t1 + 1))), (0, sR 2), (1, sI a0)]) C (by decide +kernel) rfl rfl (Nat.le_of_ble_eq_true rfl) rfl ?_
            refine zs_goto (pc := 52) (off := (-45)) (tgt := 7) C (by decide +kernel) (by decide) ?_
            exact zs_goj (hK2 (w32 (t1 + 1))) ⟨rfl, rfl, rfl, trivial⟩
    · intro a0
      show ConV l g yX6_readBoth cX6_readBoth 3 (rmd (34 + (n + 1)) 0 0) [sR 2, sI a0] (fun mm => fX6_readBoth_F (gX6_readTruth n) a0 mm)
      refine zs_ofV (by decide +kernel) (Nat.le_of_ble_eq_true rfl) ?_
      intro p e s m args below meth c C hr
      replace C : Bd g RX6 cX6_readBoth 3 p s m args meth c := C
      unfold fX6_readBoth_F
      refine zs_aload_n (pc := 0) (k := 0) (i := 0) C (by decide +kernel) rfl rfl ?_
      refine zs_iload_n (pc := 1) (k := 1) (i := 1) C (by decide +kernel) rfl rfl ?_
      refine zs_cvVv (pc := 2) (As := [sI a0]) (st := []) C (fun _ _ _ => rfl) (ih.2.2 a0) ml_RX6_182 rfl rfl rfl rfl (Nat.le_of_ble_eq_true rfl) (by constructor <;> simp only [rmd] <;> omega) (by constructor <;> simp only [rmd] <;> omega) (by decide +kernel) ?_
      refine zs_iconst (pc := 5) (n := 0) (x := 0) C (by decide +kernel) (by decide +kernel) ?_
      refine zs_istore_n (pc := 6) (k := 2) (i := 2) (ls' := [(2, sI 0), (0, sR 2), (1, sI a0)]) C (by decide +kernel) rfl (Nat.le_of_ble_eq_true rfl) rfl ?_
      refine zs_sub (ls' := [(0, sR 2), (1, sI a0), (2, sI 0)]) ⟨rfl, rfl, rfl, trivial⟩ ?_
      refine zs_lp (pc := 7) (fun (t1 : Int) => [(0, sR 2), (1, sI a0), (2, sI t1)]) (fun _ => []) (fun K2 hK2 t1 => ?_) BIG 0
      refine zs_iload_n (pc := 7) (k := 2) (i := 2) C (by decide +kernel) rfl rfl ?_
      refine zs_sipush (pc := 8) (n := 900) (x := 900) C (by decide +kernel) (by decide +kernel) ?_
      refine zs_jn (pJ := 55) (kJ := 0) (sJ := 0) (fun t3 => []) (fun t3 => []) (fun t3 => ?_) (fun J4 hJ4 => ?_)
      · exact zs_retVv (pc := 55) C hr ⟨Nat.zero_le _, Nat.zero_le _⟩ (by decide +kernel)
      · refine zs_icmp_ge (pc := 11) (off := 44) (tgt := 55) C (by decide +kernel) (by decide) ?_ ?_
        · exact zs_goj (hJ4 ()) trivial
        · refine zs_aload_n (pc := 14) (k := 0) (i := 0) C (by decide +kernel) rfl rfl ?_
          refine zs_cvRi (pc := 15) (As := []) (st := []) C (Or.inl rfl) (c_X6_token l g ) ml_RX6_66 rfl rfl rfl rfl (Nat.le_of_ble_eq_true rfl) (by constructor <;> simp only [rmd] <;> omega) (by constructor <;> simp only [rmd] <;> omega) (by decide +kernel) (fun x5 => ?_)
          refine zs_sipush (pc := 18) (n := 140) (x := 140) C (by decide +kernel) (by decide +kernel) ?_
          refine zs_icmp_ne (pc := 21) (off := 34) (tgt := 55) C (by decide +kernel) (by decide) ?_ ?_
          · exact zs_goj (hJ4 ()) trivial
          · refine zs_aload_n (pc := 24) (k := 0) (i := 0) C (by decide +kernel) rfl rfl ?_
            refine zs_dup (pc := 25) C rfl (by decide +kernel) ?_
            refine zs_getI (pc := 26) (i := 39) (ci := 6) (k := 5) C (by decide +kernel) fl_RX6_39 rfl rfl (fun x6 => ?_)
            refine zs_iconst (pc := 29) (n := 1) (x := 1) C (by decide +kernel) (by decide +kernel) ?_
            refine zs_iadd (pc := 30) C (by decide +kernel) ?_
            refine zs_putI (pc := 31) (i := 39) (ci := 6) (k := 5) C (fun _ _ _ => rfl) (by decide +kernel) fl_RX6_39 fw_6_5 rfl rfl ?_
            refine zs_aload_n (pc := 34) (k := 0) (i := 0) C (by decide +kernel) rfl rfl ?_
            refine zs_iload_n (pc := 35) (k := 1) (i := 1) C (by decide +kernel) rfl rfl ?_
            refine zs_cvVv (pc := 36) (As := [sI a0]) (st := []) C (fun _ _ _ => rfl) (ih.2.2 a0) ml_RX6_182 rfl rfl rfl rfl (Nat.le_of_ble_eq_true rfl) (by constructor <;> simp only [rmd] <;> omega) (by constructor <;> simp only [rmd] <;> omega) (by decide +kernel) ?_
            refine zs_aload_n (pc := 39) (k := 0) (i := 0) C (by decide +kernel) rfl rfl ?_
            refine zs_getM (pc := 40) (i := 52) (ci := 6) (k := 8) C (by decide +kernel) fl_RX6_52 rfl rfl (fun x7 => ?_)
            refine zs_need (fun hx7 => ?_)
            refine zs_sipush (pc := 43) (n := 140) (x := 140) C (by decide +kernel) (by decide +kernel) ?_
            refine zs_cvVv (pc := 46) (As := [sI 140]) (st := []) C (fun _ _ _ => rfl) (c_X4_put l g x7 140 hx7) ml_RX6_179 hx7 rfl rfl rfl (Nat.le_of_ble_eq_true rfl) (by constructor <;> simp only [rmd] <;> omega) (by constructor <;> simp only [rmd] <;> omega) (by decide +kernel) ?_
            refine zs_iinc (pc := 49) (i := 2) (n := 1) (y := w32 (t1 + 1)) (ls' := [(2, sI (w32 (t1 + 1))), (0, sR 2), (1, sI a0)]) C (by decide +kernel) rfl rfl (Nat.le_of_ble_eq_true rfl) rfl ?_
            refine zs_goto (pc := 52) (off := (-45)) (tgt := 7) C (by decide +kernel) (by decide) ?_
            exact zs_goj (hK2 (w32 (t1 + 1))) ⟨rfl, rfl, rfl, trivial⟩
    · intro a0
      show ConV l g yX6_readUnit cX6_readUnit 4 (rmd (34 + (n + 1)) 0 0) [sR 2, sI a0] (fun mm => fX6_readUnit_F (gX6_readTruth n) a0 mm)
      refine zs_ofV (by decide +kernel) (Nat.le_of_ble_eq_true rfl) ?_
      intro p e s m args below meth c C hr
      replace C : Bd g RX6 cX6_readUnit 4 p s m args meth c := C
      unfold fX6_readUnit_F
      refine zs_aload_n (pc := 0) (k := 0) (i := 0) C (by decide +kernel) rfl rfl ?_
      refine zs_cvRi (pc := 1) (As := []) (st := []) C (Or.inl rfl) (c_X6_token l g ) ml_RX6_66 rfl rfl rfl rfl (Nat.le_of_ble_eq_true rfl) (by constructor <;> simp only [rmd] <;> omega) (by constructor <;> simp only [rmd] <;> omega) (by decide +kernel) (fun x1 => ?_)
      refine zs_istore_n (pc := 4) (k := 2) (i := 2) (ls' := [(2, sI x1), (0, sR 2), (1, sI a0)]) C (by decide +kernel) rfl (Nat.le_of_ble_eq_true rfl) rfl ?_
      refine zs_iload_n (pc := 5) (k := 2) (i := 2) C (by decide +kernel) rfl rfl ?_
      refine zs_sipush (pc := 6) (n := 145) (x := 145) C (by decide +kernel) (by decide +kernel) ?_
      refine zs_jn (pJ := 129) (kJ := 0) (sJ := 0) (fun t2 => []) (fun t2 => []) (fun t2 => ?_) (fun J3 hJ3 => ?_)
      · exact zs_retVv (pc := 129) C hr ⟨Nat.zero_le _, Nat.zero_le _⟩ (by decide +kernel)
      · refine zs_icmp_ne (pc := 9) (off := 31) (tgt := 40) C (by decide +kernel) (by decide) ?_ ?_
        · refine zs_iload_n (pc := 40) (k := 2) (i := 2) C (by decide +kernel) rfl rfl ?_
          refine zs_bipush (pc := 41) (n := 91) (x := 91) C (by decide +kernel) (by decide +kernel) ?_
          refine zs_icmp_ne (pc := 43) (off := 27) (tgt := 70) C (by decide +kernel) (by decide) ?_ ?_
          · refine zs_aload_n (pc := 70) (k := 0) (i := 0) C (by decide +kernel) rfl rfl ?_
            refine zs_iload_n (pc := 71) (k := 1) (i := 1) C (by decide +kernel) rfl rfl ?_
            refine zs_cvVv (pc := 72) (As := [sI a0]) (st := []) C (fun _ _ _ => rfl) ((cg_X6_readSum l g 30).1 a0) ml_RX6_167 rfl rfl rfl rfl (Nat.le_of_ble_eq_true rfl) (by constructor <;> simp only [rmd] <;> omega) (by constructor <;> simp only [rmd] <;> omega) (by decide +kernel) ?_
            refine zs_aload_n (pc := 75) (k := 0) (i := 0) C (by decide +kernel) rfl rfl ?_
            refine zs_cvRi (pc := 76) (As := []) (st := []) C (Or.inl rfl) (c_X6_token l g ) ml_RX6_66 rfl rfl rfl rfl (Nat.le_of_ble_eq_true rfl) (by constructor <;> simp only [rmd] <;> omega) (by constructor <;> simp only [rmd] <;> omega) (by decide +kernel) (fun x4 => ?_)
            refine zs_istore_n (pc := 79) (k := 3) (i := 3) (ls' := [(3, sI x4), (2, sI x1), (0, sR 2), (1, sI a0)]) C (by decide +kernel) rfl (Nat.le_of_ble_eq_true rfl) rfl ?_
            refine zs_iload_n (pc := 80) (k := 3) (i := 3) C (by decide +kernel) rfl rfl ?_
            refine zs_bipush (pc := 81) (n := 61) (x := 61) C (by decide +kernel) (by decide +kernel) ?_
            refine zs_jn (pJ := 98) (kJ := 0) (sJ := 0) (fun t5 => [(0, sR 2), (1, sI a0), (3, sI x4)]) (fun t5 => []) (fun t5 => ?_) (fun J6 hJ6 => ?_)
            · refine zs_aload_n (pc := 98) (k := 0) (i := 0) C (by decide +kernel) rfl rfl ?_
              refine zs_dup (pc := 99) C rfl (by decide +kernel) ?_
              refine zs_getI (pc := 100) (i := 39) (ci := 6) (k := 5) C (by decide +kernel) fl_RX6_39 rfl rfl (fun x7 => ?_)
              refine zs_iconst (pc := 103) (n := 1) (x := 1) C (by decide +kernel) (by decide +kernel) ?_
              refine zs_iadd (pc := 104) C (by decide +kernel) ?_
              refine zs_putI (pc := 105) (i := 39) (ci := 6) (k := 5) C (fun _ _ _ => rfl) (by decide +kernel) fl_RX6_39 fw_6_5 rfl rfl ?_
              refine zs_aload_n (pc := 108) (k := 0) (i := 0) C (by decide +kernel) rfl rfl ?_
              refine zs_iload_n (pc := 109) (k := 1) (i := 1) C (by decide +kernel) rfl rfl ?_
              refine zs_cvVv (pc := 110) (As := [sI a0]) (st := []) C (fun _ _ _ => rfl) ((cg_X6_readSum l g 30).1 a0) ml_RX6_167 rfl rfl rfl rfl (Nat.le_of_ble_eq_true rfl) (by constructor <;> simp only [rmd] <;> omega) (by constructor <;> simp only [rmd] <;> omega) (by decide +kernel) ?_
              refine zs_aload_n (pc := 113) (k := 0) (i := 0) C (by decide +kernel) rfl rfl ?_
              refine zs_getM (pc := 114) (i := 52) (ci := 6) (k := 8) C (by decide +kernel) fl_RX6_52 rfl rfl (fun x8 => ?_)
              refine zs_need (fun hx8 => ?_)
              refine zs_iload_n (pc := 117) (k := 3) (i := 3) C (by decide +kernel) rfl rfl ?_
              refine zs_cvVv (pc := 118) (As := [sI x4]) (st := []) C (fun _ _ _ => rfl) (c_X4_put l g x8 x4 hx8) ml_RX6_179 hx8 rfl rfl rfl (Nat.le_of_ble_eq_true rfl) (by constructor <;> simp only [rmd] <;> omega) (by constructor <;> simp only [rmd] <;> omega) (by decide +kernel) ?_
              refine zs_goto (pc := 121) (off := 8) (tgt := 129) C (by decide +kernel) (by decide) ?_
              exact zs_goj (hJ3 ()) trivial
            · refine zs_icmp_eq (pc := 83) (off := 15) (tgt := 98) C (by decide +kernel) (by decide) ?_ ?_
              · exact zs_goj (hJ6 ()) ⟨rfl, rfl, rfl, trivial⟩
              · refine zs_iload_n (pc := 86) (k := 3) (i := 3) C (by decide +kernel) rfl rfl ?_
                refine zs_bipush (pc := 87) (n := 60) (x := 60) C (by decide +kernel) (by decide +kernel) ?_
                refine zs_icmp_eq (pc := 89) (off := 9) (tgt := 98) C (by decide +kernel) (by decide) ?_ ?_
                · exact zs_goj (hJ6 ()) ⟨rfl, rfl, rfl, trivial⟩
                · refine zs_iload_n (pc := 92) (k := 3) (i := 3) C (by decide +kernel) rfl rfl ?_
                  refine zs_bipush (pc := 93) (n := 62) (x := 62) C (by decide +kernel) (by decide +kernel) ?_
                  refine zs_icmp_ne (pc := 95) (off := 29) (tgt := 124) C (by decide +kernel) (by decide) ?_ ?_
                  · refine zs_aload_n (pc := 124) (k := 0) (i := 0) C (by decide +kernel) rfl rfl ?_
                    refine zs_iconst (pc := 125) (n := 2) (x := 2) C (by decide +kernel) (by decide +kernel) ?_
                    refine zs_cvVv (pc := 126) (As := [sI 2]) (st := []) C (fun _ _ _ => rfl) (c_X6_refuse l g 2) ml_RX6_86 rfl rfl rfl rfl (Nat.le_of_ble_eq_true rfl) (by constructor <;> simp only [rmd] <;> omega) (by constructor <;> simp only [rmd] <;> omega) (by decide +kernel) ?_
                    exact zs_goj (hJ3 ()) trivial
                  · exact zs_goj (hJ6 ()) ⟨rfl, rfl, rfl, trivial⟩
          · refine zs_aload_n (pc := 46) (k := 0) (i := 0) C (by decide +kernel) rfl rfl ?_
            refine zs_iload_n (pc := 47) (k := 1) (i := 1) C (by decide +kernel) rfl rfl ?_
            refine zs_cvWi (pc := 48) (As := [sI a0]) (st := []) C (fun _ _ _ => rfl) (Or.inr rfl) (c_X6_opens l g a0) ml_RX6_185 rfl rfl rfl rfl (Nat.le_of_ble_eq_true rfl) (by constructor <;> simp only [rmd] <;> omega) (by constructor <;> simp only [rmd] <;> omega) (by decide +kernel) (fun x9 => ?_)
            refine zs_if_eq (pc := 51) (off := 78) (tgt := 129) C (by decide +kernel) (by decide) ?_ ?_
            · exact zs_goj (hJ3 ()) trivial
            · refine zs_aload_n (pc := 54) (k := 0) (i := 0) C (by decide +kernel) rfl rfl ?_
              refine zs_iload_n (pc := 55) (k := 1) (i := 1) C (by decide +kernel) rfl rfl ?_
              refine zs_iconst (pc := 56) (n := 1) (x := 1) C (by decide +kernel) (by decide +kernel) ?_
              refine zs_iadd (pc := 57) C (by decide +kernel) ?_
              refine zs_cvVv (pc := 58) (As := [sI (w32 (a0 + 1))]) (st := []) C (fun _ _ _ => rfl) (ih.1 (w32 (a0 + 1))) ml_RX6_173 rfl rfl rfl rfl (Nat.le_of_ble_eq_true rfl) (by constructor <;> simp only [rmd] <;> omega) (by constructor <;> simp only [rmd] <;> omega) (by decide +kernel) ?_
              refine zs_aload_n (pc := 61) (k := 0) (i := 0) C (by decide +kernel) rfl rfl ?_
              refine zs_bipush (pc := 62) (n := 93) (x := 93) C (by decide +kernel) (by decide +kernel) ?_
              refine zs_cvVv (pc := 64) (As := [sI 93]) (st := []) C (fun _ _ _ => rfl) (c_X6_take l g 93) ml_RX6_103 rfl rfl rfl rfl (Nat.le_of_ble_eq_true rfl) (by constructor <;> simp only [rmd] <;> omega) (by constructor <;> simp only [rmd] <;> omega) (by decide +kernel) ?_
              refine zs_goto (pc := 67) (off := 62) (tgt := 129) C (by decide +kernel) (by decide) ?_
              exact zs_goj (hJ3 ()) trivial
        · refine zs_aload_n (pc := 12) (k := 0) (i := 0) C (by decide +kernel) rfl rfl ?_
          refine zs_iload_n (pc := 13) (k := 1) (i := 1) C (by decide +kernel) rfl rfl ?_
          refine zs_cvWi (pc := 14) (As := [sI a0]) (st := []) C (fun _ _ _ => rfl) (Or.inr rfl) (c_X6_opens l g a0) ml_RX6_185 rfl rfl rfl rfl (Nat.le_of_ble_eq_true rfl) (by constructor <;> simp only [rmd] <;> omega) (by constructor <;> simp only [rmd] <;> omega) (by decide +kernel) (fun x10 => ?_)
          refine zs_if_eq (pc := 17) (off := 112) (tgt := 129) C (by decide +kernel) (by decide) ?_ ?_
          · exact zs_goj (hJ3 ()) trivial
          · refine zs_aload_n (pc := 20) (k := 0) (i := 0) C (by decide +kernel) rfl rfl ?_
            refine zs_iload_n (pc := 21) (k := 1) (i := 1) C (by decide +kernel) rfl rfl ?_
            refine zs_iconst (pc := 22) (n := 1) (x := 1) C (by decide +kernel) (by decide +kernel) ?_
            refine zs_iadd (pc := 23) C (by decide +kernel) ?_
            refine zs_cvVv (pc := 24) (As := [sI (w32 (a0 + 1))]) (st := []) C (fun _ _ _ => rfl) (ih.2.2 (w32 (a0 + 1))) ml_RX6_182 rfl rfl rfl rfl (Nat.le_of_ble_eq_true rfl) (by constructor <;> simp only [rmd] <;> omega) (by constructor <;> simp only [rmd] <;> omega) (by decide +kernel) ?_
            refine zs_aload_n (pc := 27) (k := 0) (i := 0) C (by decide +kernel) rfl rfl ?_
            refine zs_getM (pc := 28) (i := 52) (ci := 6) (k := 8) C (by decide +kernel) fl_RX6_52 rfl rfl (fun x11 => ?_)
            refine zs_need (fun hx11 => ?_)
            refine zs_sipush (pc := 31) (n := 145) (x := 145) C (by decide +kernel) (by decide +kernel) ?_
            refine zs_cvVv (pc := 34) (As := [sI 145]) (st := []) C (fun _ _ _ => rfl) (c_X4_put l g x11 145 hx11) ml_RX6_179 hx11 rfl rfl rfl (Nat.le_of_ble_eq_true rfl) (by constructor <;> simp only [rmd] <;> omega) (by constructor <;> simp only [rmd] <;> omega) (by decide +kernel) ?_
            refine zs_goto (pc := 37) (off := 92) (tgt := 129) C (by decide +kernel) (by decide) ?_
            exact zs_goj (hJ3 ()) trivial
set_option maxRecDepth 20000 in
theorem c_X6_readMayLaw (l : Launch) (g : GC)  : ConV l g yX6_readMayLaw cX6_readMayLaw 1 (rmd 65 0 0) [sR 2] (fun mm => fX6_readMayLaw  mm) := by
  refine zs_ofV (by decide +kernel) (Nat.le_of_ble_eq_true rfl) ?_
  intro p e s m args below meth c C hr
  replace C : Bd g RX6 cX6_readMayLaw 1 p s m args meth c := C
  unfold fX6_readMayLaw
  refine zs_aload_n (pc := 0) (k := 0) (i := 0) C (by decide +kernel) rfl rfl ?_
  refine zs_dup (pc := 1) C rfl (by decide +kernel) ?_
  refine zs_getI (pc := 2) (i := 39) (ci := 6) (k := 5) C (by decide +kernel) fl_RX6_39 rfl rfl (fun x1 => ?_)
  refine zs_iconst (pc := 5) (n := 1) (x := 1) C (by decide +kernel) (by decide +kernel) ?_
  refine zs_iadd (pc := 6) C (by decide +kernel) ?_
  refine zs_putI (pc := 7) (i := 39) (ci := 6) (k := 5) C (fun _ _ _ => rfl) (by decide +kernel) fl_RX6_39 fw_6_5 rfl rfl ?_
  refine zs_aload_n (pc := 10) (k := 0) (i := 0) C (by decide +kernel) rfl rfl ?_
  refine zs_bipush (pc := 11) (n := 58) (x := 58) C (by decide +kernel) (by decide +kernel) ?_
  refine zs_cvVv (pc := 13) (As := [sI 58]) (st := []) C (fun _ _ _ => rfl) (c_X6_take l g 58) ml_RX6_103 rfl rfl rfl rfl (Nat.le_of_ble_eq_true rfl) ⟨Nat.le_of_ble_eq_true rfl, Nat.le_of_ble_eq_true rfl⟩ ⟨Nat.le_of_ble_eq_true rfl, Nat.le_of_ble_eq_true rfl⟩ (by decide +kernel) ?_
  refine zs_aload_n (pc := 16) (k := 0) (i := 0) C (by decide +kernel) rfl rfl ?_
  refine zs_aload_n (pc := 17) (k := 0) (i := 0) C (by decide +kernel) rfl rfl ?_
  refine zs_getR (o' := 7) (pc := 18) (i := 21) (ci := 6) (k := 1) C (by decide +kernel) fl_RX6_21 rfl rfl rfl ?_
  refine zs_getR (o' := 12) (pc := 21) (i := 170) (ci := 3) (k := 9) C (by decide +kernel) fl_RX6_170 rfl rfl rfl ?_
  refine zs_putM (hty := rfl) (pc := 24) (i := 52) (ci := 6) (k := 8) C (fun _ _ _ => rfl) (by decide +kernel) fl_RX6_52 fw_6_8 rfl rfl ?_
  refine zs_aload_n (pc := 27) (k := 0) (i := 0) C (by decide +kernel) rfl rfl ?_
  refine zs_getM (pc := 28) (i := 52) (ci := 6) (k := 8) C (by decide +kernel) fl_RX6_52 rfl rfl (fun x2 => ?_)
  refine zs_need (fun hx2 => ?_)
  refine zs_sipush (pc := 31) (n := 130) (x := 130) C (by decide +kernel) (by decide +kernel) ?_
  refine zs_sipush (pc := 34) (n := 135) (x := 135) C (by decide +kernel) (by decide +kernel) ?_
  refine zs_cvVv (pc := 37) (As := [sI 130, sI 135]) (st := []) C (fun _ _ _ => rfl) (c_X4_begin l g x2 130 135 hx2) ml_RX6_161 hx2 rfl rfl rfl (Nat.le_of_ble_eq_true rfl) ⟨Nat.le_of_ble_eq_true rfl, Nat.le_of_ble_eq_true rfl⟩ ⟨Nat.le_of_ble_eq_true rfl, Nat.le_of_ble_eq_true rfl⟩ (by decide +kernel) ?_
  refine zs_aload_n (pc := 40) (k := 0) (i := 0) C (by decide +kernel) rfl rfl ?_
  refine zs_iconst (pc := 41) (n := 0) (x := 0) C (by decide +kernel) (by decide +kernel) ?_
  refine zs_cvVv (pc := 42) (As := [sI 0]) (st := []) C (fun _ _ _ => rfl) ((cg_X6_readTruth l g 30).1 0) ml_RX6_173 rfl rfl rfl rfl (Nat.le_of_ble_eq_true rfl) (by constructor <;> simp only [rmd] <;> omega) (by constructor <;> simp only [rmd] <;> omega) (by decide +kernel) ?_
  exact zs_retVv (pc := 45) C hr ⟨Nat.le_of_ble_eq_true rfl, Nat.le_of_ble_eq_true rfl⟩ (by decide +kernel)
set_option maxRecDepth 20000 in
theorem c_X6_readRain (l : Launch) (g : GC)  : ConV l g yX6_readRain cX6_readRain 1 (rmd 3 0 0) [sR 2] (fun mm => fX6_readRain  mm) := by
  refine zs_ofV (by decide +kernel) (Nat.le_of_ble_eq_true rfl) ?_
  intro p e s m args below meth c C hr
  replace C : Bd g RX6 cX6_readRain 1 p s m args meth c := C
  unfold fX6_readRain
  refine zs_aload_n (pc := 0) (k := 0) (i := 0) C (by decide +kernel) rfl rfl ?_
  refine zs_dup (pc := 1) C rfl (by decide +kernel) ?_
  refine zs_getI (pc := 2) (i := 39) (ci := 6) (k := 5) C (by decide +kernel) fl_RX6_39 rfl rfl (fun x1 => ?_)
  refine zs_iconst (pc := 5) (n := 1) (x := 1) C (by decide +kernel) (by decide +kernel) ?_
  refine zs_iadd (pc := 6) C (by decide +kernel) ?_
  refine zs_putI (pc := 7) (i := 39) (ci := 6) (k := 5) C (fun _ _ _ => rfl) (by decide +kernel) fl_RX6_39 fw_6_5 rfl rfl ?_
  refine zs_aload_n (pc := 10) (k := 0) (i := 0) C (by decide +kernel) rfl rfl ?_
  refine zs_getR (o' := 14) (pc := 11) (i := 28) (ci := 6) (k := 2) C (by decide +kernel) fl_RX6_28 rfl rfl rfl ?_
  refine zs_aload_n (pc := 14) (k := 0) (i := 0) C (by decide +kernel) rfl rfl ?_
  refine zs_iconst (pc := 15) (n := 0) (x := 0) C (by decide +kernel) (by decide +kernel) ?_
  refine zs_bipush (pc := 16) (n := 9) (x := 9) C (by decide +kernel) (by decide +kernel) ?_
  refine zs_cvWi (pc := 18) (As := [sI 0, sI 9]) (st := [sR 14]) C (fun _ _ _ => rfl) (Or.inl rfl) (c_X6_number l g 0 9) ml_RX6_96 rfl rfl rfl rfl (Nat.le_of_ble_eq_true rfl) ⟨Nat.le_of_ble_eq_true rfl, Nat.le_of_ble_eq_true rfl⟩ ⟨Nat.le_of_ble_eq_true rfl, Nat.le_of_ble_eq_true rfl⟩ (by decide +kernel) (fun x2 => ?_)
  refine zs_putI (pc := 21) (i := 158) (ci := 5) (k := 1) C (fun _ _ _ => rfl) (by decide +kernel) fl_RX6_158 fw_5_1 rfl rfl ?_
  refine zs_aload_n (pc := 24) (k := 0) (i := 0) C (by decide +kernel) rfl rfl ?_
  refine zs_sipush (pc := 25) (n := 143) (x := 143) C (by decide +kernel) (by decide +kernel) ?_
  refine zs_cvVv (pc := 28) (As := [sI 143]) (st := []) C (fun _ _ _ => rfl) (c_X6_take l g 143) ml_RX6_103 rfl rfl rfl rfl (Nat.le_of_ble_eq_true rfl) ⟨Nat.le_of_ble_eq_true rfl, Nat.le_of_ble_eq_true rfl⟩ ⟨Nat.le_of_ble_eq_true rfl, Nat.le_of_ble_eq_true rfl⟩ (by decide +kernel) ?_
  refine zs_aload_n (pc := 31) (k := 0) (i := 0) C (by decide +kernel) rfl rfl ?_
  refine zs_getR (o' := 14) (pc := 32) (i := 28) (ci := 6) (k := 2) C (by decide +kernel) fl_RX6_28 rfl rfl rfl ?_
  refine zs_aload_n (pc := 35) (k := 0) (i := 0) C (by decide +kernel) rfl rfl ?_
  refine zs_iconst (pc := 36) (n := 1) (x := 1) C (by decide +kernel) (by decide +kernel) ?_
  refine zs_bipush (pc := 37) (n := 99) (x := 99) C (by decide +kernel) (by decide +kernel) ?_
  refine zs_cvWi (pc := 39) (As := [sI 1, sI 99]) (st := [sR 14]) C (fun _ _ _ => rfl) (Or.inl rfl) (c_X6_number l g 1 99) ml_RX6_96 rfl rfl rfl rfl (Nat.le_of_ble_eq_true rfl) ⟨Nat.le_of_ble_eq_true rfl, Nat.le_of_ble_eq_true rfl⟩ ⟨Nat.le_of_ble_eq_true rfl, Nat.le_of_ble_eq_true rfl⟩ (by decide +kernel) (fun x3 => ?_)
  refine zs_putI (pc := 42) (i := 73) (ci := 5) (k := 2) C (fun _ _ _ => rfl) (by decide +kernel) fl_RX6_73 fw_5_2 rfl rfl ?_
  exact zs_retVv (pc := 45) C hr ⟨Nat.le_of_ble_eq_true rfl, Nat.le_of_ble_eq_true rfl⟩ (by decide +kernel)
set_option maxRecDepth 20000 in
theorem c_X6_readHour (l : Launch) (g : GC)  : ConV l g yX6_readHour cX6_readHour 1 (rmd 3 0 0) [sR 2] (fun mm => fX6_readHour  mm) := by
  refine zs_ofV (by decide +kernel) (Nat.le_of_ble_eq_true rfl) ?_
  intro p e s m args below meth c C hr
  replace C : Bd g RX6 cX6_readHour 1 p s m args meth c := C
  unfold fX6_readHour
  refine zs_aload_n (pc := 0) (k := 0) (i := 0) C (by decide +kernel) rfl rfl ?_
  refine zs_dup (pc := 1) C rfl (by decide +kernel) ?_
  refine zs_getI (pc := 2) (i := 39) (ci := 6) (k := 5) C (by decide +kernel) fl_RX6_39 rfl rfl (fun x1 => ?_)
  refine zs_iconst (pc := 5) (n := 1) (x := 1) C (by decide +kernel) (by decide +kernel) ?_
  refine zs_iadd (pc := 6) C (by decide +kernel) ?_
  refine zs_putI (pc := 7) (i := 39) (ci := 6) (k := 5) C (fun _ _ _ => rfl) (by decide +kernel) fl_RX6_39 fw_6_5 rfl rfl ?_
  refine zs_aload_n (pc := 10) (k := 0) (i := 0) C (by decide +kernel) rfl rfl ?_
  refine zs_getR (o' := 14) (pc := 11) (i := 28) (ci := 6) (k := 2) C (by decide +kernel) fl_RX6_28 rfl rfl rfl ?_
  refine zs_aload_n (pc := 14) (k := 0) (i := 0) C (by decide +kernel) rfl rfl ?_
  refine zs_iconst (pc := 15) (n := 0) (x := 0) C (by decide +kernel) (by decide +kernel) ?_
  refine zs_sipush (pc := 16) (n := 999) (x := 999) C (by decide +kernel) (by decide +kernel) ?_
  refine zs_cvWi (pc := 19) (As := [sI 0, sI 999]) (st := [sR 14]) C (fun _ _ _ => rfl) (Or.inl rfl) (c_X6_number l g 0 999) ml_RX6_96 rfl rfl rfl rfl (Nat.le_of_ble_eq_true rfl) ⟨Nat.le_of_ble_eq_true rfl, Nat.le_of_ble_eq_true rfl⟩ ⟨Nat.le_of_ble_eq_true rfl, Nat.le_of_ble_eq_true rfl⟩ (by decide +kernel) (fun x2 => ?_)
  refine zs_putI (pc := 22) (i := 76) (ci := 5) (k := 0) C (fun _ _ _ => rfl) (by decide +kernel) fl_RX6_76 fw_5_0 rfl rfl ?_
  exact zs_retVv (pc := 25) C hr ⟨Nat.le_of_ble_eq_true rfl, Nat.le_of_ble_eq_true rfl⟩ (by decide +kernel)
set_option maxRecDepth 20000 in
theorem c_X6_readLine (l : Launch) (g : GC)  : ConV l g yX6_readLine cX6_readLine 1 (rmd 66 0 0) [sR 2] (fun mm => fX6_readLine  mm) := by
  refine zs_ofV (by decide +kernel) (Nat.le_of_ble_eq_true rfl) ?_
  intro p e s m args below meth c C hr
  replace C : Bd g RX6 cX6_readLine 1 p s m args meth c := C
  unfold fX6_readLine
  refine zs_aload_n (pc := 0) (k := 0) (i := 0) C (by decide +kernel) rfl rfl ?_
  refine zs_cvRi (pc := 1) (As := []) (st := []) C (Or.inl rfl) (c_X6_token l g ) ml_RX6_66 rfl rfl rfl rfl (Nat.le_of_ble_eq_true rfl) ⟨Nat.le_of_ble_eq_true rfl, Nat.le_of_ble_eq_true rfl⟩ ⟨Nat.le_of_ble_eq_true rfl, Nat.le_of_ble_eq_true rfl⟩ (by decide +kernel) (fun x1 => ?_)
  refine zs_jn (pJ := 126) (kJ := 0) (sJ := 0) (fun t2 => [(0, sR 2)]) (fun t2 => []) (fun t2 => ?_) (fun J3 hJ3 => ?_)
  · refine zs_aload_n (pc := 126) (k := 0) (i := 0) C (by decide +kernel) rfl rfl ?_
    refine zs_bipush (pc := 127) (n := 59) (x := 59) C (by decide +kernel) (by decide +kernel) ?_
    refine zs_cvVv (pc := 129) (As := [sI 59]) (st := []) C (fun _ _ _ => rfl) (c_X6_take l g 59) ml_RX6_103 rfl rfl rfl rfl (Nat.le_of_ble_eq_true rfl) ⟨Nat.le_of_ble_eq_true rfl, Nat.le_of_ble_eq_true rfl⟩ ⟨Nat.le_of_ble_eq_true rfl, Nat.le_of_ble_eq_true rfl⟩ (by decide +kernel) ?_
    refine zs_aload_n (pc := 132) (k := 0) (i := 0) C (by decide +kernel) rfl rfl ?_
    refine zs_getR (o' := 7) (pc := 133) (i := 21) (ci := 6) (k := 1) C (by decide +kernel) fl_RX6_21 rfl rfl rfl ?_
    refine zs_dup (pc := 136) C rfl (by decide +kernel) ?_
    refine zs_getI (pc := 137) (i := 106) (ci := 3) (k := 0) C (by decide +kernel) fl_RX6_106 rfl rfl (fun x4 => ?_)
    refine zs_iconst (pc := 140) (n := 1) (x := 1) C (by decide +kernel) (by decide +kernel) ?_
    refine zs_iadd (pc := 141) C (by decide +kernel) ?_
    refine zs_putI (pc := 142) (i := 106) (ci := 3) (k := 0) C (fun _ _ _ => rfl) (by decide +kernel) fl_RX6_106 fw_3_0 rfl rfl ?_
    exact zs_retVv (pc := 145) C hr ⟨Nat.le_of_ble_eq_true rfl, Nat.le_of_ble_eq_true rfl⟩ (by decide +kernel)
  · refine zs_ite (fun hc0 => ?_) (fun hc0 => ?_)
    · refine zs_tswI (pc := 4) (dflt := 117) (lo := 130) (hi := 142) (offs := #[103, 110, 82, 117, 117, 117, 117, 68, 75, 117, 117, 89, 96]) (len := 68) (i := 0) (off := 103) (tgt := 107) C (by decide +kernel) hc0 (by decide) rfl (by decide) ?_
      refine zs_aload_n (pc := 107) (k := 0) (i := 0) C (by decide +kernel) rfl rfl ?_
      refine zs_cvVv (pc := 108) (As := []) (st := []) C (fun _ _ _ => rfl) (c_X6_readRain l g ) ml_RX6_124 rfl rfl rfl rfl (Nat.le_of_ble_eq_true rfl) ⟨Nat.le_of_ble_eq_true rfl, Nat.le_of_ble_eq_true rfl⟩ ⟨Nat.le_of_ble_eq_true rfl, Nat.le_of_ble_eq_true rfl⟩ (by decide +kernel) ?_
      refine zs_goto (pc := 111) (off := 15) (tgt := 126) C (by decide +kernel) (by decide) ?_
      exact zs_goj (hJ3 ()) ⟨rfl, trivial⟩
    · refine zs_ite (fun hc1 => ?_) (fun hc1 => ?_)
      · refine zs_tswI (pc := 4) (dflt := 117) (lo := 130) (hi := 142) (offs := #[103, 110, 82, 117, 117, 117, 117, 68, 75, 117, 117, 89, 96]) (len := 68) (i := 1) (off := 110) (tgt := 114) C (by decide +kernel) hc1 (by decide) rfl (by decide) ?_
        refine zs_aload_n (pc := 114) (k := 0) (i := 0) C (by decide +kernel) rfl rfl ?_
        refine zs_cvVv (pc := 115) (As := []) (st := []) C (fun _ _ _ => rfl) (c_X6_readHour l g ) ml_RX6_127 rfl rfl rfl rfl (Nat.le_of_ble_eq_true rfl) ⟨Nat.le_of_ble_eq_true rfl, Nat.le_of_ble_eq_true rfl⟩ ⟨Nat.le_of_ble_eq_true rfl, Nat.le_of_ble_eq_true rfl⟩ (by decide +kernel) ?_
        refine zs_goto (pc := 118) (off := 8) (tgt := 126) C (by decide +kernel) (by decide) ?_
        exact zs_goj (hJ3 ()) ⟨rfl, trivial⟩
      · refine zs_ite (fun hc2 => ?_) (fun hc2 => ?_)
        · refine zs_tswI (pc := 4) (dflt := 117) (lo := 130) (hi := 142) (offs := #[103, 110, 82, 117, 117, 117, 117, 68, 75, 117, 117, 89, 96]) (len := 68) (i := 2) (off := 82) (tgt := 86) C (by decide +kernel) hc2 (by decide) rfl (by decide) ?_
          refine zs_aload_n (pc := 86) (k := 0) (i := 0) C (by decide +kernel) rfl rfl ?_
          refine zs_cvVv (pc := 87) (As := []) (st := []) C (fun _ _ _ => rfl) (c_X6_readPair l g ) ml_RX6_115 rfl rfl rfl rfl (Nat.le_of_ble_eq_true rfl) ⟨Nat.le_of_ble_eq_true rfl, Nat.le_of_ble_eq_true rfl⟩ ⟨Nat.le_of_ble_eq_true rfl, Nat.le_of_ble_eq_true rfl⟩ (by decide +kernel) ?_
          refine zs_goto (pc := 90) (off := 36) (tgt := 126) C (by decide +kernel) (by decide) ?_
          exact zs_goj (hJ3 ()) ⟨rfl, trivial⟩
        · refine zs_ite (fun hc3 => ?_) (fun hc3 => ?_)
          · refine zs_tswI (pc := 4) (dflt := 117) (lo := 130) (hi := 142) (offs := #[103, 110, 82, 117, 117, 117, 117, 68, 75, 117, 117, 89, 96]) (len := 68) (i := 3) (off := 117) (tgt := 121) C (by decide +kernel) hc3 (by decide) rfl (by decide) ?_
            refine zs_aload_n (pc := 121) (k := 0) (i := 0) C (by decide +kernel) rfl rfl ?_
            refine zs_iconst (pc := 122) (n := 2) (x := 2) C (by decide +kernel) (by decide +kernel) ?_
            refine zs_cvVv (pc := 123) (As := [sI 2]) (st := []) C (fun _ _ _ => rfl) (c_X6_refuse l g 2) ml_RX6_86 rfl rfl rfl rfl (Nat.le_of_ble_eq_true rfl) ⟨Nat.le_of_ble_eq_true rfl, Nat.le_of_ble_eq_true rfl⟩ ⟨Nat.le_of_ble_eq_true rfl, Nat.le_of_ble_eq_true rfl⟩ (by decide +kernel) ?_
            exact zs_goj (hJ3 ()) ⟨rfl, trivial⟩
          · refine zs_ite (fun hc4 => ?_) (fun hc4 => ?_)
            · refine zs_tswI (pc := 4) (dflt := 117) (lo := 130) (hi := 142) (offs := #[103, 110, 82, 117, 117, 117, 117, 68, 75, 117, 117, 89, 96]) (len := 68) (i := 4) (off := 117) (tgt := 121) C (by decide +kernel) hc4 (by decide) rfl (by decide) ?_
              refine zs_aload_n (pc := 121) (k := 0) (i := 0) C (by decide +kernel) rfl rfl ?_
              refine zs_iconst (pc := 122) (n := 2) (x := 2) C (by decide +kernel) (by decide +kernel) ?_
              refine zs_cvVv (pc := 123) (As := [sI 2]) (st := []) C (fun _ _ _ => rfl) (c_X6_refuse l g 2) ml_RX6_86 rfl rfl rfl rfl (Nat.le_of_ble_eq_true rfl) ⟨Nat.le_of_ble_eq_true rfl, Nat.le_of_ble_eq_true rfl⟩ ⟨Nat.le_of_ble_eq_true rfl, Nat.le_of_ble_eq_true rfl⟩ (by decide +kernel) ?_
              exact zs_goj (hJ3 ()) ⟨rfl, trivial⟩
            · refine zs_ite (fun hc5 => ?_) (fun hc5 => ?_)
              · refine zs_tswI (pc := 4) (dflt := 117) (lo := 130) (hi := 142) (offs := #[103, 110, 82, 117, 117, 117, 117, 68, 75, 117, 117, 89, 96]) (len := 68) (i := 5) (off := 117) (tgt := 121) C (by decide +kernel) hc5 (by decide) rfl (by decide) ?_
                refine zs_aload_n (pc := 121) (k := 0) (i := 0) C (by decide +kernel) rfl rfl ?_
                refine zs_iconst (pc := 122) (n := 2) (x := 2) C (by decide +kernel) (by decide +kernel) ?_
                refine zs_cvVv (pc := 123) (As := [sI 2]) (st := []) C (fun _ _ _ => rfl) (c_X6_refuse l g 2) ml_RX6_86 rfl rfl rfl rfl (Nat.le_of_ble_eq_true rfl) ⟨Nat.le_of_ble_eq_true rfl, Nat.le_of_ble_eq_true rfl⟩ ⟨Nat.le_of_ble_eq_true rfl, Nat.le_of_ble_eq_true rfl⟩ (by decide +kernel) ?_
                exact zs_goj (hJ3 ()) ⟨rfl, trivial⟩
              · refine zs_ite (fun hc6 => ?_) (fun hc6 => ?_)
                · refine zs_tswI (pc := 4) (dflt := 117) (lo := 130) (hi := 142) (offs := #[103, 110, 82, 117, 117, 117, 117, 68, 75, 117, 117, 89, 96]) (len := 68) (i := 6) (off := 117) (tgt := 121) C (by decide +kernel) hc6 (by decide) rfl (by decide) ?_
                  refine zs_aload_n (pc := 121) (k := 0) (i := 0) C (by decide +kernel) rfl rfl ?_
                  refine zs_iconst (pc := 122) (n := 2) (x := 2) C (by decide +kernel) (by decide +kernel) ?_
                  refine zs_cvVv (pc := 123) (As := [sI 2]) (st := []) C (fun _ _ _ => rfl) (c_X6_refuse l g 2) ml_RX6_86 rfl rfl rfl rfl (Nat.le_of_ble_eq_true rfl) ⟨Nat.le_of_ble_eq_true rfl, Nat.le_of_ble_eq_true rfl⟩ ⟨Nat.le_of_ble_eq_true rfl, Nat.le_of_ble_eq_true rfl⟩ (by decide +kernel) ?_
                  exact zs_goj (hJ3 ()) ⟨rfl, trivial⟩
                · refine zs_ite (fun hc7 => ?_) (fun hc7 => ?_)
                  · refine zs_tswI (pc := 4) (dflt := 117) (lo := 130) (hi := 142) (offs := #[103, 110, 82, 117, 117, 117, 117, 68, 75, 117, 117, 89, 96]) (len := 68) (i := 7) (off := 68) (tgt := 72) C (by decide +kernel) hc7 (by decide) rfl (by decide) ?_
                    refine zs_aload_n (pc := 72) (k := 0) (i := 0) C (by decide +kernel) rfl rfl ?_
                    refine zs_cvVv (pc := 73) (As := []) (st := []) C (fun _ _ _ => rfl) (c_X6_readRock l g ) ml_RX6_109 rfl rfl rfl rfl (Nat.le_of_ble_eq_true rfl) ⟨Nat.le_of_ble_eq_true rfl, Nat.le_of_ble_eq_true rfl⟩ ⟨Nat.le_of_ble_eq_true rfl, Nat.le_of_ble_eq_true rfl⟩ (by decide +kernel) ?_
                    refine zs_goto (pc := 76) (off := 50) (tgt := 126) C (by decide +kernel) (by decide) ?_
                    exact zs_goj (hJ3 ()) ⟨rfl, trivial⟩
                  · refine zs_ite (fun hc8 => ?_) (fun hc8 => ?_)
                    · refine zs_tswI (pc := 4) (dflt := 117) (lo := 130) (hi := 142) (offs := #[103, 110, 82, 117, 117, 117, 117, 68, 75, 117, 117, 89, 96]) (len := 68) (i := 8) (off := 75) (tgt := 79) C (by decide +kernel) hc8 (by decide) rfl (by decide) ?_
                      refine zs_aload_n (pc := 79) (k := 0) (i := 0) C (by decide +kernel) rfl rfl ?_
                      refine zs_cvVv (pc := 80) (As := []) (st := []) C (fun _ _ _ => rfl) (c_X6_readHouse l g ) ml_RX6_112 rfl rfl rfl rfl (Nat.le_of_ble_eq_true rfl) ⟨Nat.le_of_ble_eq_true rfl, Nat.le_of_ble_eq_true rfl⟩ ⟨Nat.le_of_ble_eq_true rfl, Nat.le_of_ble_eq_true rfl⟩ (by decide +kernel) ?_
                      refine zs_goto (pc := 83) (off := 43) (tgt := 126) C (by decide +kernel) (by decide) ?_
                      exact zs_goj (hJ3 ()) ⟨rfl, trivial⟩
                    · refine zs_ite (fun hc9 => ?_) (fun hc9 => ?_)
                      · refine zs_tswI (pc := 4) (dflt := 117) (lo := 130) (hi := 142) (offs := #[103, 110, 82, 117, 117, 117, 117, 68, 75, 117, 117, 89, 96]) (len := 68) (i := 9) (off := 117) (tgt := 121) C (by decide +kernel) hc9 (by decide) rfl (by decide) ?_
                        refine zs_aload_n (pc := 121) (k := 0) (i := 0) C (by decide +kernel) rfl rfl ?_
                        refine zs_iconst (pc := 122) (n := 2) (x := 2) C (by decide +kernel) (by decide +kernel) ?_
                        refine zs_cvVv (pc := 123) (As := [sI 2]) (st := []) C (fun _ _ _ => rfl) (c_X6_refuse l g 2) ml_RX6_86 rfl rfl rfl rfl (Nat.le_of_ble_eq_true rfl) ⟨Nat.le_of_ble_eq_true rfl, Nat.le_of_ble_eq_true rfl⟩ ⟨Nat.le_of_ble_eq_true rfl, Nat.le_of_ble_eq_true rfl⟩ (by decide +kernel) ?_
                        exact zs_goj (hJ3 ()) ⟨rfl, trivial⟩
                      · refine zs_ite (fun hc10 => ?_) (fun hc10 => ?_)
                        · refine zs_tswI (pc := 4) (dflt := 117) (lo := 130) (hi := 142) (offs := #[103, 110, 82, 117, 117, 117, 117, 68, 75, 117, 117, 89, 96]) (len := 68) (i := 10) (off := 117) (tgt := 121) C (by decide +kernel) hc10 (by decide) rfl (by decide) ?_
                          refine zs_aload_n (pc := 121) (k := 0) (i := 0) C (by decide +kernel) rfl rfl ?_
                          refine zs_iconst (pc := 122) (n := 2) (x := 2) C (by decide +kernel) (by decide +kernel) ?_
                          refine zs_cvVv (pc := 123) (As := [sI 2]) (st := []) C (fun _ _ _ => rfl) (c_X6_refuse l g 2) ml_RX6_86 rfl rfl rfl rfl (Nat.le_of_ble_eq_true rfl) ⟨Nat.le_of_ble_eq_true rfl, Nat.le_of_ble_eq_true rfl⟩ ⟨Nat.le_of_ble_eq_true rfl, Nat.le_of_ble_eq_true rfl⟩ (by decide +kernel) ?_
                          exact zs_goj (hJ3 ()) ⟨rfl, trivial⟩
                        · refine zs_ite (fun hc11 => ?_) (fun hc11 => ?_)
                          · refine zs_tswI (pc := 4) (dflt := 117) (lo := 130) (hi := 142) (offs := #[103, 110, 82, 117, 117, 117, 117, 68, 75, 117, 117, 89, 96]) (len := 68) (i := 11) (off := 89) (tgt := 93) C (by decide +kernel) hc11 (by decide) rfl (by decide) ?_
                            refine zs_aload_n (pc := 93) (k := 0) (i := 0) C (by decide +kernel) rfl rfl ?_
                            refine zs_cvVv (pc := 94) (As := []) (st := []) C (fun _ _ _ => rfl) (c_X6_readLengthLaw l g ) ml_RX6_118 rfl rfl rfl rfl (Nat.le_of_ble_eq_true rfl) ⟨Nat.le_of_ble_eq_true rfl, Nat.le_of_ble_eq_true rfl⟩ ⟨Nat.le_of_ble_eq_true rfl, Nat.le_of_ble_eq_true rfl⟩ (by decide +kernel) ?_
                            refine zs_goto (pc := 97) (off := 29) (tgt := 126) C (by decide +kernel) (by decide) ?_
                            exact zs_goj (hJ3 ()) ⟨rfl, trivial⟩
                          · refine zs_ite (fun hc12 => ?_) (fun hc12 => ?_)
                            · refine zs_tswI (pc := 4) (dflt := 117) (lo := 130) (hi := 142) (offs := #[103, 110, 82, 117, 117, 117, 117, 68, 75, 117, 117, 89, 96]) (len := 68) (i := 12) (off := 96) (tgt := 100) C (by decide +kernel) hc12 (by decide) rfl (by decide) ?_
                              refine zs_aload_n (pc := 100) (k := 0) (i := 0) C (by decide +kernel) rfl rfl ?_
                              refine zs_cvVv (pc := 101) (As := []) (st := []) C (fun _ _ _ => rfl) (c_X6_readMayLaw l g ) ml_RX6_121 rfl rfl rfl rfl (Nat.le_of_ble_eq_true rfl) ⟨Nat.le_of_ble_eq_true rfl, Nat.le_of_ble_eq_true rfl⟩ ⟨Nat.le_of_ble_eq_true rfl, Nat.le_of_ble_eq_true rfl⟩ (by decide +kernel) ?_
                              refine zs_goto (pc := 104) (off := 22) (tgt := 126) C (by decide +kernel) (by decide) ?_
                              exact zs_goj (hJ3 ()) ⟨rfl, trivial⟩
                            · refine zs_tswD (pc := 4) (dflt := 117) (lo := 130) (hi := 142) (offs := #[103, 110, 82, 117, 117, 117, 117, 68, 75, 117, 117, 89, 96]) (len := 68) (tgt := 121) C (by decide +kernel) (by omega) (by decide) ?_
                              refine zs_aload_n (pc := 121) (k := 0) (i := 0) C (by decide +kernel) rfl rfl ?_
                              refine zs_iconst (pc := 122) (n := 2) (x := 2) C (by decide +kernel) (by decide +kernel) ?_
                              refine zs_cvVv (pc := 123) (As := [sI 2]) (st := []) C (fun _ _ _ => rfl) (c_X6_refuse l g 2) ml_RX6_86 rfl rfl rfl rfl (Nat.le_of_ble_eq_true rfl) ⟨Nat.le_of_ble_eq_true rfl, Nat.le_of_ble_eq_true rfl⟩ ⟨Nat.le_of_ble_eq_true rfl, Nat.le_of_ble_eq_true rfl⟩ (by decide +kernel) ?_
                              exact zs_goj (hJ3 ()) ⟨rfl, trivial⟩
set_option maxRecDepth 20000 in
theorem c_X7_at (l : Launch) (g : GC) (a0 : Int) (a1 : Int) : ConR l g yX7_at cX7_at 3 (some .long) (rmd 1 0 0) [sR 96, sI a0, sI a1] (fun mm => fX7_at a0 a1 mm) := by
  refine zs_ofR (by decide +kernel) (Nat.le_of_ble_eq_true rfl) ?_
  intro p e s m args below meth c C hr
  replace C : Bd g RX7 cX7_at 3 p s m args meth c := C
  unfold fX7_at
  refine zs_aload_n (pc := 0) (k := 0) (i := 0) C (by decide +kernel) rfl rfl ?_
  refine zs_getM (pc := 1) (i := 9) (ci := 7) (k := 0) C (by decide +kernel) fl_RX7_9 rfl rfl (fun x1 => ?_)
  refine zs_need (fun hx1 => ?_)
  refine zs_iload_n (pc := 4) (k := 1) (i := 1) C (by decide +kernel) rfl rfl ?_
  refine zs_bipush (pc := 5) (n := 25) (x := 25) C (by decide +kernel) (by decide +kernel) ?_
  refine zs_imul (pc := 7) C (by decide +kernel) ?_
  refine zs_iload_n (pc := 8) (k := 2) (i := 2) C (by decide +kernel) rfl rfl ?_
  refine zs_iadd (pc := 9) C (by decide +kernel) ?_
  refine zs_lald (pc := 10) (o := x1) (n := 625) C (by decide +kernel) hx1 (fun hinx2 x2 => ?_)
  exact zs_retRl (pc := 11) C hr ⟨Nat.le_of_ble_eq_true rfl, Nat.le_of_ble_eq_true rfl⟩ (by decide +kernel)
set_option maxRecDepth 20000 in
theorem c_X7_endingAt (l : Launch) (g : GC) (a0 : Int) : ConR l g yX7_endingAt cX7_endingAt 5 (some .long) (rmd 1 0 0) [sR 96, sI a0] (fun mm => fX7_endingAt a0 mm) := by
  refine zs_ofR (by decide +kernel) (Nat.le_of_ble_eq_true rfl) ?_
  intro p e s m args below meth c C hr
  replace C : Bd g RX7 cX7_endingAt 5 p s m args meth c := C
  unfold fX7_endingAt
  refine zs_lconst (pc := 0) (n := 0) (x := 0) C (by decide +kernel) (by decide +kernel) ?_
  refine zs_lstore_n (pc := 1) (k := 2) (i := 2) (ls' := [(2, sL 0), (0, sR 96), (1, sI a0)]) C (by decide +kernel) rfl (Nat.le_of_ble_eq_true rfl) rfl ?_
  refine zs_iconst (pc := 2) (n := 0) (x := 0) C (by decide +kernel) (by decide +kernel) ?_
  refine zs_istore (pc := 3) (i := 4) (ls' := [(4, sI 0), (2, sL 0), (0, sR 96), (1, sI a0)]) C (by decide +kernel) (Nat.le_of_ble_eq_true rfl) rfl ?_
  refine zs_sub (ls' := [(0, sR 96), (1, sI a0), (2, sL 0), (4, sI 0)]) ⟨rfl, rfl, rfl, rfl, trivial⟩ ?_
  refine zs_lp (pc := 5) (fun (t1 : Int × Int) => [(0, sR 96), (1, sI a0), (2, sL t1.1), (4, sI t1.2)]) (fun _ => []) (fun K2 hK2 t1 => ?_) BIG (0, 0)
  refine zs_iload (pc := 5) (i := 4) C (by decide +kernel) rfl ?_
  refine zs_aload_n (pc := 7) (k := 0) (i := 0) C (by decide +kernel) rfl rfl ?_
  refine zs_getI (pc := 8) (i := 22) (ci := 7) (k := 3) C (by decide +kernel) fl_RX7_22 rfl rfl (fun x3 => ?_)
  refine zs_icmp_ge (pc := 11) (off := 24) (tgt := 35) C (by decide +kernel) (by decide) ?_ ?_
  · refine zs_lload_n (pc := 35) (k := 2) (i := 2) C (by decide +kernel) rfl rfl ?_
    exact zs_retRl (pc := 36) C hr ⟨Nat.le_of_ble_eq_true rfl, Nat.le_of_ble_eq_true rfl⟩ (by decide +kernel)
  · refine zs_lload_n (pc := 14) (k := 2) (i := 2) C (by decide +kernel) rfl rfl ?_
    refine zs_aload_n (pc := 15) (k := 0) (i := 0) C (by decide +kernel) rfl rfl ?_
    refine zs_getM (pc := 16) (i := 9) (ci := 7) (k := 0) C (by decide +kernel) fl_RX7_9 rfl rfl (fun x4 => ?_)
    refine zs_need (fun hx4 => ?_)
    refine zs_iload (pc := 19) (i := 4) C (by decide +kernel) rfl ?_
    refine zs_bipush (pc := 21) (n := 25) (x := 25) C (by decide +kernel) (by decide +kernel) ?_
    refine zs_imul (pc := 23) C (by decide +kernel) ?_
    refine zs_iload_n (pc := 24) (k := 1) (i := 1) C (by decide +kernel) rfl rfl ?_
    refine zs_iadd (pc := 25) C (by decide +kernel) ?_
    refine zs_lald (pc := 26) (o := x4) (n := 625) C (by decide +kernel) hx4 (fun hinx5 x5 => ?_)
    refine zs_ladd (pc := 27) C (by decide +kernel) ?_
    refine zs_letL (fun x6 => ?_)
    refine zs_lstore_n (pc := 28) (k := 2) (i := 2) (ls' := [(2, sL x6), (0, sR 96), (1, sI a0), (4, sI t1.2)]) C (by decide +kernel) rfl (Nat.le_of_ble_eq_true rfl) rfl ?_
    refine zs_iinc (pc := 29) (i := 4) (n := 1) (y := w32 (t1.2 + 1)) (ls' := [(4, sI (w32 (t1.2 + 1))), (2, sL x6), (0, sR 96), (1, sI a0)]) C (by decide +kernel) rfl rfl (Nat.le_of_ble_eq_true rfl) rfl ?_
    refine zs_goto (pc := 32) (off := (-27)) (tgt := 5) C (by decide +kernel) (by decide) ?_
    exact zs_goj (hK2 (x6, w32 (t1.2 + 1))) ⟨rfl, rfl, rfl, rfl, trivial⟩
set_option maxRecDepth 20000 in
theorem c_X7_total (l : Launch) (g : GC)  : ConR l g yX7_total cX7_total 4 (some .long) (rmd 2 0 0) [sR 96] (fun mm => fX7_total  mm) := by
  refine zs_ofR (by decide +kernel) (Nat.le_of_ble_eq_true rfl) ?_
  intro p e s m args below meth c C hr
  replace C : Bd g RX7 cX7_total 4 p s m args meth c := C
  unfold fX7_total
  refine zs_lconst (pc := 0) (n := 0) (x := 0) C (by decide +kernel) (by decide +kernel) ?_
  refine zs_lstore_n (pc := 1) (k := 1) (i := 1) (ls' := [(1, sL 0), (0, sR 96)]) C (by decide +kernel) rfl (Nat.le_of_ble_eq_true rfl) rfl ?_
  refine zs_iconst (pc := 2) (n := 0) (x := 0) C (by decide +kernel) (by decide +kernel) ?_
  refine zs_istore_n (pc := 3) (k := 3) (i := 3) (ls' := [(3, sI 0), (1, sL 0), (0, sR 96)]) C (by decide +kernel) rfl (Nat.le_of_ble_eq_true rfl) rfl ?_
  refine zs_sub (ls' := [(0, sR 96), (1, sL 0), (3, sI 0)]) ⟨rfl, rfl, rfl, trivial⟩ ?_
  refine zs_lp (pc := 4) (fun (t1 : Int × Int) => [(0, sR 96), (1, sL t1.1), (3, sI t1.2)]) (fun _ => []) (fun K2 hK2 t1 => ?_) BIG (0, 0)
  refine zs_iload_n (pc := 4) (k := 3) (i := 3) C (by decide +kernel) rfl rfl ?_
  refine zs_aload_n (pc := 5) (k := 0) (i := 0) C (by decide +kernel) rfl rfl ?_
  refine zs_getI (pc := 6) (i := 22) (ci := 7) (k := 3) C (by decide +kernel) fl_RX7_22 rfl rfl (fun x3 => ?_)
  refine zs_icmp_ge (pc := 9) (off := 17) (tgt := 26) C (by decide +kernel) (by decide) ?_ ?_
  · refine zs_lload_n (pc := 26) (k := 1) (i := 1) C (by decide +kernel) rfl rfl ?_
    exact zs_retRl (pc := 27) C hr ⟨Nat.le_of_ble_eq_true rfl, Nat.le_of_ble_eq_true rfl⟩ (by decide +kernel)
  · refine zs_lload_n (pc := 12) (k := 1) (i := 1) C (by decide +kernel) rfl rfl ?_
    refine zs_aload_n (pc := 13) (k := 0) (i := 0) C (by decide +kernel) rfl rfl ?_
    refine zs_iload_n (pc := 14) (k := 3) (i := 3) C (by decide +kernel) rfl rfl ?_
    refine zs_cvRl (pc := 15) (As := [sI t1.2]) (st := [sL t1.1]) C (c_X7_endingAt l g t1.2) ml_RX7_58 rfl rfl rfl rfl (Nat.le_of_ble_eq_true rfl) ⟨Nat.le_of_ble_eq_true rfl, Nat.le_of_ble_eq_true rfl⟩ ⟨Nat.le_of_ble_eq_true rfl, Nat.le_of_ble_eq_true rfl⟩ (by decide +kernel) (fun x4 => ?_)
    refine zs_ladd (pc := 18) C (by decide +kernel) ?_
    refine zs_letL (fun x5 => ?_)
    refine zs_lstore_n (pc := 19) (k := 1) (i := 1) (ls' := [(1, sL x5), (0, sR 96), (3, sI t1.2)]) C (by decide +kernel) rfl (Nat.le_of_ble_eq_true rfl) rfl ?_
    refine zs_iinc (pc := 20) (i := 3) (n := 1) (y := w32 (t1.2 + 1)) (ls' := [(3, sI (w32 (t1.2 + 1))), (1, sL x5), (0, sR 96)]) C (by decide +kernel) rfl rfl (Nat.le_of_ble_eq_true rfl) rfl ?_
    refine zs_goto (pc := 23) (off := (-19)) (tgt := 4) C (by decide +kernel) (by decide) ?_
    exact zs_goj (hK2 (x5, w32 (t1.2 + 1))) ⟨rfl, rfl, rfl, trivial⟩
set_option maxRecDepth 20000 in
theorem c_X7_tellsMost (l : Launch) (g : GC)  : ConR l g yX7_tellsMost cX7_tellsMost 11 (some .int) (rmd 3 0 0) [sR 96] (fun mm => fX7_tellsMost  mm) := by
  refine zs_ofR (by decide +kernel) (Nat.le_of_ble_eq_true rfl) ?_
  intro p e s m args below meth c C hr
  replace C : Bd g RX7 cX7_tellsMost 11 p s m args meth c := C
  unfold fX7_tellsMost
  refine zs_aload_n (pc := 0) (k := 0) (i := 0) C (by decide +kernel) rfl rfl ?_
  refine zs_cvRl (pc := 1) (As := []) (st := []) C (c_X7_total l g ) ml_RX7_62 rfl rfl rfl rfl (Nat.le_of_ble_eq_true rfl) ⟨Nat.le_of_ble_eq_true rfl, Nat.le_of_ble_eq_true rfl⟩ ⟨Nat.le_of_ble_eq_true rfl, Nat.le_of_ble_eq_true rfl⟩ (by decide +kernel) (fun x1 => ?_)
  refine zs_lstore_n (pc := 4) (k := 1) (i := 1) (ls' := [(1, sL x1), (0, sR 96)]) C (by decide +kernel) rfl (Nat.le_of_ble_eq_true rfl) rfl ?_
  refine zs_ldc2 (pc := 5) (i := 66) (v := (-1)) (x := (-1)) C (by decide +kernel) wf_1680 (by decide +kernel) ?_
  refine zs_lstore_n (pc := 8) (k := 3) (i := 3) (ls' := [(3, sL ((-1))), (1, sL x1), (0, sR 96)]) C (by decide +kernel) rfl (Nat.le_of_ble_eq_true rfl) rfl ?_
  refine zs_iconst (pc := 9) (n := (-1)) (x := (-1)) C (by decide +kernel) (by decide +kernel) ?_
  refine zs_istore (pc := 10) (i := 5) (ls' := [(5, sI ((-1))), (3, sL ((-1))), (1, sL x1), (0, sR 96)]) C (by decide +kernel) (Nat.le_of_ble_eq_true rfl) rfl ?_
  refine zs_iconst (pc := 12) (n := 0) (x := 0) C (by decide +kernel) (by decide +kernel) ?_
  refine zs_istore (pc := 13) (i := 6) (ls' := [(6, sI 0), (5, sI ((-1))), (3, sL ((-1))), (1, sL x1), (0, sR 96)]) C (by decide +kernel) (Nat.le_of_ble_eq_true rfl) rfl ?_
  refine zs_sub (ls' := [(0, sR 96), (1, sL x1), (3, sL ((-1))), (5, sI ((-1))), (6, sI 0)]) ⟨rfl, rfl, rfl, rfl, rfl, trivial⟩ ?_
  refine zs_lp (pc := 15) (fun (t2 : Int × Int × Int) => [(0, sR 96), (1, sL x1), (3, sL t2.1), (5, sI t2.2.1), (6, sI t2.2.2)]) (fun _ => []) (fun K3 hK3 t2 => ?_) BIG ((-1), (-1), 0)
  refine zs_iload (pc := 15) (i := 6) C (by decide +kernel) rfl ?_
  refine zs_aload_n (pc := 17) (k := 0) (i := 0) C (by decide +kernel) rfl rfl ?_
  refine zs_getI (pc := 18) (i := 22) (ci := 7) (k := 3) C (by decide +kernel) fl_RX7_22 rfl rfl (fun x4 => ?_)
  refine zs_jn (pJ := 69) (kJ := 0) (sJ := 0) (fun t5 => [(5, sI t2.2.1)]) (fun t5 => []) (fun t5 => ?_) (fun J6 hJ6 => ?_)
  · refine zs_iload (pc := 69) (i := 5) C (by decide +kernel) rfl ?_
    exact zs_retRi (pc := 71) C hr ⟨Nat.le_of_ble_eq_true rfl, Nat.le_of_ble_eq_true rfl⟩ (by decide +kernel)
  · refine zs_icmp_ge (pc := 21) (off := 48) (tgt := 69) C (by decide +kernel) (by decide) ?_ ?_
    · exact zs_goj (hJ6 ()) ⟨rfl, trivial⟩
    · refine zs_lload_n (pc := 24) (k := 1) (i := 1) C (by decide +kernel) rfl rfl ?_
      refine zs_lconst (pc := 25) (n := 0) (x := 0) C (by decide +kernel) (by decide +kernel) ?_
      refine zs_lcmp_le (pc := 26) (off := 42) (tgt := 69) C (by decide +kernel) (by decide +kernel) (by decide) ?_ ?_
      · exact zs_goj (hJ6 ()) ⟨rfl, trivial⟩
      · refine zs_aload_n (pc := 30) (k := 0) (i := 0) C (by decide +kernel) rfl rfl ?_
        refine zs_iload (pc := 31) (i := 6) C (by decide +kernel) rfl ?_
        refine zs_cvRl (pc := 33) (As := [sI t2.2.2]) (st := []) C (c_X7_endingAt l g t2.2.2) ml_RX7_58 rfl rfl rfl rfl (Nat.le_of_ble_eq_true rfl) ⟨Nat.le_of_ble_eq_true rfl, Nat.le_of_ble_eq_true rfl⟩ ⟨Nat.le_of_ble_eq_true rfl, Nat.le_of_ble_eq_true rfl⟩ (by decide +kernel) (fun x7 => ?_)
        refine zs_lstore (pc := 36) (i := 7) (ls' := [(7, sL x7), (0, sR 96), (1, sL x1), (3, sL t2.1), (5, sI t2.2.1), (6, sI t2.2.2)]) C (by decide +kernel) (Nat.le_of_ble_eq_true rfl) rfl ?_
        refine zs_lload (pc := 38) (i := 7) C (by decide +kernel) rfl ?_
        refine zs_lload_n (pc := 40) (k := 1) (i := 1) C (by decide +kernel) rfl rfl ?_
        refine zs_lload (pc := 41) (i := 7) C (by decide +kernel) rfl ?_
        refine zs_lsub (pc := 43) C (by decide +kernel) ?_
        refine zs_mminL (pc := 44) (idx := 68) C wf_1681 wf_1682 wf_166 wf_1683 ⟨Nat.le_of_ble_eq_true rfl, Nat.le_of_ble_eq_true rfl, Nat.zero_le _, Nat.zero_le _⟩ (by decide +kernel) ?_
        refine zs_letL (fun x8 => ?_)
        refine zs_lstore (pc := 47) (i := 9) (ls' := [(9, sL x8), (7, sL x7), (0, sR 96), (1, sL x1), (3, sL t2.1), (5, sI t2.2.1), (6, sI t2.2.2)]) C (by decide +kernel) (Nat.le_of_ble_eq_true rfl) rfl ?_
        refine zs_lload (pc := 49) (i := 9) C (by decide +kernel) rfl ?_
        refine zs_lload_n (pc := 51) (k := 3) (i := 3) C (by decide +kernel) rfl rfl ?_
        refine zs_jn (pJ := 63) (kJ := 0) (sJ := 0) (fun t9 => [(0, sR 96), (1, sL x1), (3, sL t9.1), (5, sI t9.2), (6, sI t2.2.2)]) (fun t9 => []) (fun t9 => ?_) (fun J10 hJ10 => ?_)
        · refine zs_iinc (pc := 63) (i := 6) (n := 1) (y := w32 (t2.2.2 + 1)) (ls' := [(6, sI (w32 (t2.2.2 + 1))), (0, sR 96), (1, sL x1), (3, sL t9.1), (5, sI t9.2)]) C (by decide +kernel) rfl rfl (Nat.le_of_ble_eq_true rfl) rfl ?_
          refine zs_goto (pc := 66) (off := (-51)) (tgt := 15) C (by decide +kernel) (by decide) ?_
          exact zs_goj (hK3 (t9.1, t9.2, w32 (t2.2.2 + 1))) ⟨rfl, rfl, rfl, rfl, rfl, trivial⟩
        · refine zs_lcmp_le (pc := 52) (off := 10) (tgt := 63) C (by decide +kernel) (by decide +kernel) (by decide) ?_ ?_
          · exact zs_goj (hJ10 (t2.1, t2.2.1)) ⟨rfl, rfl, rfl, rfl, rfl, trivial⟩
          · refine zs_lload (pc := 56) (i := 9) C (by decide +kernel) rfl ?_
            refine zs_lstore_n (pc := 58) (k := 3) (i := 3) (ls' := [(3, sL x8), (9, sL x8), (7, sL x7), (0, sR 96), (1, sL x1), (5, sI t2.2.1), (6, sI t2.2.2)]) C (by decide +kernel) rfl (Nat.le_of_ble_eq_true rfl) rfl ?_
            refine zs_iload (pc := 59) (i := 6) C (by decide +kernel) rfl ?_
            refine zs_istore (pc := 61) (i := 5) (ls' := [(5, sI t2.2.2), (3, sL x8), (9, sL x8), (7, sL x7), (0, sR 96), (1, sL x1), (6, sI t2.2.2)]) C (by decide +kernel) (Nat.le_of_ble_eq_true rfl) rfl ?_
            exact zs_goj (hJ10 (x8, t2.2.2)) ⟨rfl, rfl, rfl, rfl, rfl, trivial⟩
set_option maxRecDepth 20000 in
theorem c_X8_put (l : Launch) (g : GC) (a0 : Int) (a1 : Int) (a2 : Int) : ConV l g yX8_put cX8_put 4 (rmd 1 0 0) [sR 3, sI a0, sI a1, sI a2] (fun mm => fX8_put a0 a1 a2 mm) := by
  refine zs_ofV (by decide +kernel) (Nat.le_of_ble_eq_true rfl) ?_
  intro p e s m args below meth c C hr
  replace C : Bd g RX8 cX8_put 4 p s m args meth c := C
  unfold fX8_put
  refine zs_aload_n (pc := 0) (k := 0) (i := 0) C (by decide +kernel) rfl rfl ?_
  refine zs_getI (pc := 1) (i := 21) (ci := 8) (k := 3) C (by decide +kernel) fl_RX8_21 rfl rfl (fun x1 => ?_)
  refine zs_sipush (pc := 4) (n := 900) (x := 900) C (by decide +kernel) (by decide +kernel) ?_
  refine zs_jn (pJ := 50) (kJ := 0) (sJ := 0) (fun t2 => []) (fun t2 => []) (fun t2 => ?_) (fun J3 hJ3 => ?_)
  · exact zs_retVv (pc := 50) C hr ⟨Nat.le_of_ble_eq_true rfl, Nat.le_of_ble_eq_true rfl⟩ (by decide +kernel)
  · refine zs_icmp_gt (pc := 7) (off := 43) (tgt := 50) C (by decide +kernel) (by decide) ?_ ?_
    · exact zs_goj (hJ3 ()) trivial
    · refine zs_aload_n (pc := 10) (k := 0) (i := 0) C (by decide +kernel) rfl rfl ?_
      refine zs_getR (o' := 4) (pc := 11) (i := 9) (ci := 8) (k := 0) C (by decide +kernel) fl_RX8_9 rfl rfl rfl ?_
      refine zs_aload_n (pc := 14) (k := 0) (i := 0) C (by decide +kernel) rfl rfl ?_
      refine zs_getI (pc := 15) (i := 21) (ci := 8) (k := 3) C (by decide +kernel) fl_RX8_21 rfl rfl (fun x4 => ?_)
      refine zs_iload_n (pc := 18) (k := 1) (i := 1) C (by decide +kernel) rfl rfl ?_
      refine zs_iast (pc := 19) (o := 4) (n := 901) C (fun _ _ _ => rfl) (by decide +kernel) rfl ?_
      refine zs_aload_n (pc := 20) (k := 0) (i := 0) C (by decide +kernel) rfl rfl ?_
      refine zs_getR (o' := 5) (pc := 21) (i := 15) (ci := 8) (k := 1) C (by decide +kernel) fl_RX8_15 rfl rfl rfl ?_
      refine zs_aload_n (pc := 24) (k := 0) (i := 0) C (by decide +kernel) rfl rfl ?_
      refine zs_getI (pc := 25) (i := 21) (ci := 8) (k := 3) C (by decide +kernel) fl_RX8_21 rfl rfl (fun x5 => ?_)
      refine zs_iload_n (pc := 28) (k := 2) (i := 2) C (by decide +kernel) rfl rfl ?_
      refine zs_iast (pc := 29) (o := 5) (n := 901) C (fun _ _ _ => rfl) (by decide +kernel) rfl ?_
      refine zs_aload_n (pc := 30) (k := 0) (i := 0) C (by decide +kernel) rfl rfl ?_
      refine zs_getR (o' := 6) (pc := 31) (i := 18) (ci := 8) (k := 2) C (by decide +kernel) fl_RX8_18 rfl rfl rfl ?_
      refine zs_aload_n (pc := 34) (k := 0) (i := 0) C (by decide +kernel) rfl rfl ?_
      refine zs_getI (pc := 35) (i := 21) (ci := 8) (k := 3) C (by decide +kernel) fl_RX8_21 rfl rfl (fun x6 => ?_)
      refine zs_iload_n (pc := 38) (k := 3) (i := 3) C (by decide +kernel) rfl rfl ?_
      refine zs_iast (pc := 39) (o := 6) (n := 901) C (fun _ _ _ => rfl) (by decide +kernel) rfl ?_
      refine zs_aload_n (pc := 40) (k := 0) (i := 0) C (by decide +kernel) rfl rfl ?_
      refine zs_dup (pc := 41) C rfl (by decide +kernel) ?_
      refine zs_getI (pc := 42) (i := 21) (ci := 8) (k := 3) C (by decide +kernel) fl_RX8_21 rfl rfl (fun x7 => ?_)
      refine zs_iconst (pc := 45) (n := 1) (x := 1) C (by decide +kernel) (by decide +kernel) ?_
      refine zs_iadd (pc := 46) C (by decide +kernel) ?_
      refine zs_putI (pc := 47) (i := 21) (ci := 8) (k := 3) C (fun _ _ _ => rfl) (by decide +kernel) fl_RX8_21 fw_8_3 rfl rfl ?_
      exact zs_goj (hJ3 ()) trivial
set_option maxRecDepth 20000 in
theorem c_X8_isLetter (l : Launch) (g : GC) (a0 : Int) : ConR l g yX8_isLetter cX8_isLetter 1 (some .boolean) (rmd 1 0 0) [sI a0] (fun mm => fX8_isLetter a0 mm) := by
  refine zs_ofR (by decide +kernel) (Nat.le_of_ble_eq_true rfl) ?_
  intro p e s m args below meth c C hr
  replace C : Bd g RX8 cX8_isLetter 1 p s m args meth c := C
  unfold fX8_isLetter
  refine zs_iload_n (pc := 0) (k := 0) (i := 0) C (by decide +kernel) rfl rfl ?_
  refine zs_bipush (pc := 1) (n := 97) (x := 97) C (by decide +kernel) (by decide +kernel) ?_
  refine zs_jn (pJ := 17) (kJ := 0) (sJ := 0) (fun t1 => []) (fun t1 => [sI t1]) (fun t1 => ?_) (fun J2 hJ2 => ?_)
  · refine zs_chk (fun _ hx => ?_)
    exact zs_retRz (pc := 17) C hx hr ⟨Nat.le_of_ble_eq_true rfl, Nat.le_of_ble_eq_true rfl⟩ (by decide +kernel)
  · refine zs_jn (pJ := 16) (kJ := 0) (sJ := 0) (fun t3 => []) (fun t3 => []) (fun t3 => ?_) (fun J4 hJ4 => ?_)
    · refine zs_iconst (pc := 16) (n := 0) (x := 0) C (by decide +kernel) (by decide +kernel) ?_
      exact zs_goj (hJ2 0) trivial
    · refine zs_icmp_lt (pc := 3) (off := 13) (tgt := 16) C (by decide +kernel) (by decide) ?_ ?_
      · exact zs_goj (hJ4 ()) trivial
      · refine zs_iload_n (pc := 6) (k := 0) (i := 0) C (by decide +kernel) rfl rfl ?_
        refine zs_bipush (pc := 7) (n := 122) (x := 122) C (by decide +kernel) (by decide +kernel) ?_
        refine zs_icmp_gt (pc := 9) (off := 7) (tgt := 16) C (by decide +kernel) (by decide) ?_ ?_
        · exact zs_goj (hJ4 ()) trivial
        · refine zs_iconst (pc := 12) (n := 1) (x := 1) C (by decide +kernel) (by decide +kernel) ?_
          refine zs_goto (pc := 13) (off := 4) (tgt := 17) C (by decide +kernel) (by decide) ?_
          exact zs_goj (hJ2 1) trivial
set_option maxRecDepth 20000 in
theorem c_X8_isDigit (l : Launch) (g : GC) (a0 : Int) : ConR l g yX8_isDigit cX8_isDigit 1 (some .boolean) (rmd 1 0 0) [sI a0] (fun mm => fX8_isDigit a0 mm) := by
  refine zs_ofR (by decide +kernel) (Nat.le_of_ble_eq_true rfl) ?_
  intro p e s m args below meth c C hr
  replace C : Bd g RX8 cX8_isDigit 1 p s m args meth c := C
  unfold fX8_isDigit
  refine zs_iload_n (pc := 0) (k := 0) (i := 0) C (by decide +kernel) rfl rfl ?_
  refine zs_bipush (pc := 1) (n := 48) (x := 48) C (by decide +kernel) (by decide +kernel) ?_
  refine zs_jn (pJ := 17) (kJ := 0) (sJ := 0) (fun t1 => []) (fun t1 => [sI t1]) (fun t1 => ?_) (fun J2 hJ2 => ?_)
  · refine zs_chk (fun _ hx => ?_)
    exact zs_retRz (pc := 17) C hx hr ⟨Nat.le_of_ble_eq_true rfl, Nat.le_of_ble_eq_true rfl⟩ (by decide +kernel)
  · refine zs_jn (pJ := 16) (kJ := 0) (sJ := 0) (fun t3 => []) (fun t3 => []) (fun t3 => ?_) (fun J4 hJ4 => ?_)
    · refine zs_iconst (pc := 16) (n := 0) (x := 0) C (by decide +kernel) (by decide +kernel) ?_
      exact zs_goj (hJ2 0) trivial
    · refine zs_icmp_lt (pc := 3) (off := 13) (tgt := 16) C (by decide +kernel) (by decide) ?_ ?_
      · exact zs_goj (hJ4 ()) trivial
      · refine zs_iload_n (pc := 6) (k := 0) (i := 0) C (by decide +kernel) rfl rfl ?_
        refine zs_bipush (pc := 7) (n := 57) (x := 57) C (by decide +kernel) (by decide +kernel) ?_
        refine zs_icmp_gt (pc := 9) (off := 7) (tgt := 16) C (by decide +kernel) (by decide) ?_ ?_
        · exact zs_goj (hJ4 ()) trivial
        · refine zs_iconst (pc := 12) (n := 1) (x := 1) C (by decide +kernel) (by decide +kernel) ?_
          refine zs_goto (pc := 13) (off := 4) (tgt := 17) C (by decide +kernel) (by decide) ?_
          exact zs_goj (hJ2 1) trivial
set_option maxRecDepth 20000 in
theorem c_X9_lay (l : Launch) (g : GC) (a0 : Int) (a1 : Int) (a2 : Int) : ConV l g yX9_lay cX9_lay 4 (rmd 2 0 0) [sR 88, sI a0, sI a1, sI a2] (fun mm => fX9_lay a0 a1 a2 mm) := by
  refine zs_ofV (by decide +kernel) (Nat.le_of_ble_eq_true rfl) ?_
  intro p e s m args below meth c C hr
  replace C : Bd g RX9 cX9_lay 4 p s m args meth c := C
  unfold fX9_lay
  refine zs_aload_n (pc := 0) (k := 0) (i := 0) C (by decide +kernel) rfl rfl ?_
  refine zs_getR (o' := 94) (pc := 1) (i := 16) (ci := 9) (k := 1) C (by decide +kernel) fl_RX9_16 rfl rfl rfl ?_
  refine zs_iload_n (pc := 4) (k := 1) (i := 1) C (by decide +kernel) rfl rfl ?_
  refine zs_iload_n (pc := 5) (k := 2) (i := 2) C (by decide +kernel) rfl rfl ?_
  refine zs_iast (pc := 6) (o := 94) (n := 4) C (fun _ _ _ => rfl) (by decide +kernel) rfl ?_
  refine zs_aload_n (pc := 7) (k := 0) (i := 0) C (by decide +kernel) rfl rfl ?_
  refine zs_getR (o' := 95) (pc := 8) (i := 20) (ci := 9) (k := 2) C (by decide +kernel) fl_RX9_20 rfl rfl rfl ?_
  refine zs_iload_n (pc := 11) (k := 1) (i := 1) C (by decide +kernel) rfl rfl ?_
  refine zs_iload_n (pc := 12) (k := 3) (i := 3) C (by decide +kernel) rfl rfl ?_
  refine zs_iast (pc := 13) (o := 95) (n := 4) C (fun _ _ _ => rfl) (by decide +kernel) rfl ?_
  refine zs_aload_n (pc := 14) (k := 0) (i := 0) C (by decide +kernel) rfl rfl ?_
  refine zs_getR (o' := 89) (pc := 15) (i := 13) (ci := 9) (k := 0) C (by decide +kernel) fl_RX9_13 rfl rfl rfl ?_
  refine zs_iload_n (pc := 18) (k := 1) (i := 1) C (by decide +kernel) rfl rfl ?_
  refine zs_aald (pc := 19) (o := 89) (t := 6) (n := 4) C (by decide) (by decide +kernel) rfl (ly_arr_6_4 rfl) (fun x1 hx1 => ?_)
  refine zs_lconst (pc := 20) (n := 0) (x := 0) C (by decide +kernel) (by decide +kernel) ?_
  refine zs_csVv (pc := 21) (As := [sR x1, sL 0]) (st := []) C (fun _ _ _ => rfl) (c_J7_fill_d0a16 l g x1 30 0 hx1) ml_RX9_29 rfl rfl (Nat.le_of_ble_eq_true rfl) ⟨Nat.le_of_ble_eq_true rfl, Nat.le_of_ble_eq_true rfl⟩ ⟨Nat.le_of_ble_eq_true rfl, Nat.le_of_ble_eq_true rfl⟩ (by decide +kernel) ?_
  exact zs_retVv (pc := 24) C hr ⟨Nat.le_of_ble_eq_true rfl, Nat.le_of_ble_eq_true rfl⟩ (by decide +kernel)
set_option maxRecDepth 20000 in
theorem c_X9_cut (l : Launch) (g : GC) (a0 : Int) (a1 : Int) : ConR l g yX9_cut cX9_cut 3 (some .long) (rmd 1 0 0) [sI a0, sL a1] (fun mm => fX9_cut a0 a1 mm) := by
  refine zs_ofR (by decide +kernel) (Nat.le_of_ble_eq_true rfl) ?_
  intro p e s m args below meth c C hr
  replace C : Bd g RX9 cX9_cut 3 p s m args meth c := C
  unfold fX9_cut
  refine zs_iload_n (pc := 0) (k := 0) (i := 0) C (by decide +kernel) rfl rfl ?_
  refine zs_ite (fun hc0 => ?_) (fun hc0 => ?_)
  · refine zs_tswI (pc := 1) (dflt := 41) (lo := 0) (hi := 2) (offs := #[27, 32, 37]) (len := 27) (i := 0) (off := 27) (tgt := 28) C (by decide +kernel) hc0 (by decide) rfl (by decide) ?_
    refine zs_lload_n (pc := 28) (k := 1) (i := 1) C (by decide +kernel) rfl rfl ?_
    refine zs_l2i (pc := 29) C (by decide +kernel) ?_
    refine zs_i2b (pc := 30) C (by decide +kernel) ?_
    refine zs_i2l (pc := 31) C (by decide +kernel) ?_
    exact zs_retRl (pc := 32) C hr ⟨Nat.le_of_ble_eq_true rfl, Nat.le_of_ble_eq_true rfl⟩ (by decide +kernel)
  · refine zs_ite (fun hc1 => ?_) (fun hc1 => ?_)
    · refine zs_tswI (pc := 1) (dflt := 41) (lo := 0) (hi := 2) (offs := #[27, 32, 37]) (len := 27) (i := 1) (off := 32) (tgt := 33) C (by decide +kernel) hc1 (by decide) rfl (by decide) ?_
      refine zs_lload_n (pc := 33) (k := 1) (i := 1) C (by decide +kernel) rfl rfl ?_
      refine zs_l2i (pc := 34) C (by decide +kernel) ?_
      refine zs_i2s (pc := 35) C (by decide +kernel) ?_
      refine zs_i2l (pc := 36) C (by decide +kernel) ?_
      exact zs_retRl (pc := 37) C hr ⟨Nat.le_of_ble_eq_true rfl, Nat.le_of_ble_eq_true rfl⟩ (by decide +kernel)
    · refine zs_ite (fun hc2 => ?_) (fun hc2 => ?_)
      · refine zs_tswI (pc := 1) (dflt := 41) (lo := 0) (hi := 2) (offs := #[27, 32, 37]) (len := 27) (i := 2) (off := 37) (tgt := 38) C (by decide +kernel) hc2 (by decide) rfl (by decide) ?_
        refine zs_lload_n (pc := 38) (k := 1) (i := 1) C (by decide +kernel) rfl rfl ?_
        refine zs_l2i (pc := 39) C (by decide +kernel) ?_
        refine zs_i2l (pc := 40) C (by decide +kernel) ?_
        exact zs_retRl (pc := 41) C hr ⟨Nat.le_of_ble_eq_true rfl, Nat.le_of_ble_eq_true rfl⟩ (by decide +kernel)
      · refine zs_tswD (pc := 1) (dflt := 41) (lo := 0) (hi := 2) (offs := #[27, 32, 37]) (len := 27) (tgt := 42) C (by decide +kernel) (by omega) (by decide) ?_
        refine zs_lload_n (pc := 42) (k := 1) (i := 1) C (by decide +kernel) rfl rfl ?_
        exact zs_retRl (pc := 43) C hr ⟨Nat.le_of_ble_eq_true rfl, Nat.le_of_ble_eq_true rfl⟩ (by decide +kernel)
set_option maxRecDepth 20000 in
theorem c_X9_put (l : Launch) (g : GC) (a0 : Int) (a1 : Int) (a2 : Int) : ConW l g yX9_put cX9_put 5 (some .long) (rmd 2 0 0) [sR 88, sI a0, sI a1, sL a2] (fun mm => fX9_put a0 a1 a2 mm) := by
  refine zs_ofW (by decide +kernel) (Nat.le_of_ble_eq_true rfl) ?_
  intro p e s m args below meth c C hr
  replace C : Bd g RX9 cX9_put 5 p s m args meth c := C
  unfold fX9_put
  refine zs_aload_n (pc := 0) (k := 0) (i := 0) C (by decide +kernel) rfl rfl ?_
  refine zs_getR (o' := 89) (pc := 1) (i := 13) (ci := 9) (k := 0) C (by decide +kernel) fl_RX9_13 rfl rfl rfl ?_
  refine zs_iload_n (pc := 4) (k := 1) (i := 1) C (by decide +kernel) rfl rfl ?_
  refine zs_aald (pc := 5) (o := 89) (t := 6) (n := 4) C (by decide) (by decide +kernel) rfl (ly_arr_6_4 rfl) (fun x1 hx1 => ?_)
  refine zs_iload_n (pc := 6) (k := 2) (i := 2) C (by decide +kernel) rfl rfl ?_
  refine zs_aload_n (pc := 7) (k := 0) (i := 0) C (by decide +kernel) rfl rfl ?_
  refine zs_getR (o' := 94) (pc := 8) (i := 16) (ci := 9) (k := 1) C (by decide +kernel) fl_RX9_16 rfl rfl rfl ?_
  refine zs_iload_n (pc := 11) (k := 1) (i := 1) C (by decide +kernel) rfl rfl ?_
  refine zs_iald (pc := 12) (o := 94) (n := 4) C (by decide +kernel) rfl (fun hinx2 x2 => ?_)
  refine zs_lload_n (pc := 13) (k := 3) (i := 3) C (by decide +kernel) rfl rfl ?_
  refine zs_csRl (pc := 14) (As := [sI x2, sL a2]) (st := [sI a1, sR x1]) C (c_X9_cut l g x2 a2) ml_RX9_32 rfl rfl (Nat.le_of_ble_eq_true rfl) ⟨Nat.le_of_ble_eq_true rfl, Nat.le_of_ble_eq_true rfl⟩ ⟨Nat.le_of_ble_eq_true rfl, Nat.le_of_ble_eq_true rfl⟩ (by decide +kernel) (fun x3 => ?_)
  refine zs_last (pc := 17) (o := x1) (n := 30) C (fun _ _ _ => rfl) (by decide +kernel) hx1 ?_
  refine zs_aload_n (pc := 18) (k := 0) (i := 0) C (by decide +kernel) rfl rfl ?_
  refine zs_getR (o' := 89) (pc := 19) (i := 13) (ci := 9) (k := 0) C (by decide +kernel) fl_RX9_13 rfl rfl rfl ?_
  refine zs_iload_n (pc := 22) (k := 1) (i := 1) C (by decide +kernel) rfl rfl ?_
  refine zs_aald (pc := 23) (o := 89) (t := 6) (n := 4) C (by decide) (by decide +kernel) rfl (ly_arr_6_4 rfl) (fun x4 hx4 => ?_)
  refine zs_iload_n (pc := 24) (k := 2) (i := 2) C (by decide +kernel) rfl rfl ?_
  refine zs_lald (pc := 25) (o := x4) (n := 30) C (by decide +kernel) hx4 (fun hinx5 x5 => ?_)
  exact zs_retWl (pc := 26) C hr ⟨Nat.le_of_ble_eq_true rfl, Nat.le_of_ble_eq_true rfl⟩ (by decide +kernel)
set_option maxRecDepth 20000 in
theorem c_X10_begin (l : Launch) (g : GC)  : ConV l g yX10_begin cX10_begin 3 (rmd 3 0 0) [sR 19, sR 7, sR 14] (fun mm => fX10_begin  mm) := by
  refine zs_ofV (by decide +kernel) (Nat.le_of_ble_eq_true rfl) ?_
  intro p e s m args below meth c C hr
  replace C : Bd g RX10 cX10_begin 3 p s m args meth c := C
  unfold fX10_begin
  refine zs_aload_n (pc := 0) (k := 0) (i := 0) C (by decide +kernel) rfl rfl ?_
  refine zs_getR (o' := 20) (pc := 1) (i := 12) (ci := 10) (k := 0) C (by decide +kernel) fl_RX10_12 rfl rfl rfl ?_
  refine zs_aload_n (pc := 4) (k := 1) (i := 1) C (by decide +kernel) rfl rfl ?_
  refine zs_cvVv (pc := 5) (As := [sR 7]) (st := []) C (fun _ _ _ => rfl) (c_X3_copyFrom l g 20 7 rfl rfl) ml_RX10_52 rfl rfl rfl rfl (Nat.le_of_ble_eq_true rfl) ⟨Nat.le_of_ble_eq_true rfl, Nat.le_of_ble_eq_true rfl⟩ ⟨Nat.le_of_ble_eq_true rfl, Nat.le_of_ble_eq_true rfl⟩ (by decide +kernel) ?_
  refine zs_aload_n (pc := 8) (k := 0) (i := 0) C (by decide +kernel) rfl rfl ?_
  refine zs_getR (o' := 27) (pc := 9) (i := 21) (ci := 10) (k := 1) C (by decide +kernel) fl_RX10_21 rfl rfl rfl ?_
  refine zs_aload_n (pc := 12) (k := 2) (i := 2) C (by decide +kernel) rfl rfl ?_
  refine zs_cvVv (pc := 13) (As := [sR 14]) (st := []) C (fun _ _ _ => rfl) (c_X5_copyFrom l g 27 14 rfl rfl) ml_RX10_56 rfl rfl rfl rfl (Nat.le_of_ble_eq_true rfl) ⟨Nat.le_of_ble_eq_true rfl, Nat.le_of_ble_eq_true rfl⟩ ⟨Nat.le_of_ble_eq_true rfl, Nat.le_of_ble_eq_true rfl⟩ (by decide +kernel) ?_
  refine zs_aload_n (pc := 16) (k := 0) (i := 0) C (by decide +kernel) rfl rfl ?_
  refine zs_iconst (pc := 17) (n := 0) (x := 0) C (by decide +kernel) (by decide +kernel) ?_
  refine zs_putI (pc := 18) (i := 25) (ci := 10) (k := 2) C (fun _ _ _ => rfl) (by decide +kernel) fl_RX10_25 fw_10_2 rfl rfl ?_
  exact zs_retVv (pc := 21) C hr ⟨Nat.le_of_ble_eq_true rfl, Nat.le_of_ble_eq_true rfl⟩ (by decide +kernel)
set_option maxRecDepth 20000 in
theorem c_X10_copyFrom (l : Launch) (g : GC) (o : Nat) (a0 : Nat) (h0 : layL[o]? = some (.inl 10)) (h0_ : layL[a0]? = some (.inl 10)) : ConV l g yX10_copyFrom cX10_copyFrom 3 (rmd 3 0 0) [sR o, sR a0] (fun mm => fX10_copyFrom o a0 mm) := by
  refine zs_ofV (by decide +kernel) (Nat.le_of_ble_eq_true rfl) ?_
  intro p e s m args below meth c C hr
  replace C : Bd g RX10 cX10_copyFrom 3 p s m args meth c := C
  unfold fX10_copyFrom
  refine zs_aload_n (pc := 0) (k := 0) (i := 0) C (by decide +kernel) rfl rfl ?_
  refine zs_getR (o' := (o + 1)) (pc := 1) (i := 12) (ci := 10) (k := 0) C (by decide +kernel) fl_RX10_12 h0 rfl rfl ?_
  refine zs_aload_n (pc := 4) (k := 1) (i := 1) C (by decide +kernel) rfl rfl ?_
  refine zs_getR (o' := (a0 + 1)) (pc := 5) (i := 12) (ci := 10) (k := 0) C (by decide +kernel) fl_RX10_12 h0_ rfl rfl ?_
  refine zs_cvVv (pc := 8) (As := [sR (a0 + 1)]) (st := []) C (fun _ _ _ => rfl) (c_X3_copyFrom l g (o + 1) (a0 + 1) (ly_o_10_1 h0) (ly_o_10_1 h0_)) ml_RX10_52 (ly_o_10_1 h0) rfl rfl rfl (Nat.le_of_ble_eq_true rfl) ⟨Nat.le_of_ble_eq_true rfl, Nat.le_of_ble_eq_true rfl⟩ ⟨Nat.le_of_ble_eq_true rfl, Nat.le_of_ble_eq_true rfl⟩ (by decide +kernel) ?_
  refine zs_aload_n (pc := 11) (k := 0) (i := 0) C (by decide +kernel) rfl rfl ?_
  refine zs_getR (o' := (o + 8)) (pc := 12) (i := 21) (ci := 10) (k := 1) C (by decide +kernel) fl_RX10_21 h0 rfl rfl ?_
  refine zs_aload_n (pc := 15) (k := 1) (i := 1) C (by decide +kernel) rfl rfl ?_
  refine zs_getR (o' := (a0 + 8)) (pc := 16) (i := 21) (ci := 10) (k := 1) C (by decide +kernel) fl_RX10_21 h0_ rfl rfl ?_
  refine zs_cvVv (pc := 19) (As := [sR (a0 + 8)]) (st := []) C (fun _ _ _ => rfl) (c_X5_copyFrom l g (o + 8) (a0 + 8) (ly_o_10_8 h0) (ly_o_10_8 h0_)) ml_RX10_56 (ly_o_10_8 h0) rfl rfl rfl (Nat.le_of_ble_eq_true rfl) ⟨Nat.le_of_ble_eq_true rfl, Nat.le_of_ble_eq_true rfl⟩ ⟨Nat.le_of_ble_eq_true rfl, Nat.le_of_ble_eq_true rfl⟩ (by decide +kernel) ?_
  refine zs_aload_n (pc := 22) (k := 0) (i := 0) C (by decide +kernel) rfl rfl ?_
  refine zs_aload_n (pc := 23) (k := 1) (i := 1) C (by decide +kernel) rfl rfl ?_
  refine zs_getI (pc := 24) (i := 25) (ci := 10) (k := 2) C (by decide +kernel) fl_RX10_25 h0_ rfl (fun x1 => ?_)
  refine zs_putI (pc := 27) (i := 25) (ci := 10) (k := 2) C (fun _ _ _ => rfl) (by decide +kernel) fl_RX10_25 fw_10_2 h0 rfl ?_
  refine zs_aload_n (pc := 30) (k := 0) (i := 0) C (by decide +kernel) rfl rfl ?_
  refine zs_aload_n (pc := 31) (k := 1) (i := 1) C (by decide +kernel) rfl rfl ?_
  refine zs_getI (pc := 32) (i := 32) (ci := 10) (k := 4) C (by decide +kernel) fl_RX10_32 h0_ rfl (fun x2 => ?_)
  refine zs_putI (pc := 35) (i := 32) (ci := 10) (k := 4) C (fun _ _ _ => rfl) (by decide +kernel) fl_RX10_32 fw_10_4 h0 rfl ?_
  refine zs_iconst (pc := 38) (n := 0) (x := 0) C (by decide +kernel) (by decide +kernel) ?_
  refine zs_istore_n (pc := 39) (k := 2) (i := 2) (ls' := [(2, sI 0), (0, sR o), (1, sR a0)]) C (by decide +kernel) rfl (Nat.le_of_ble_eq_true rfl) rfl ?_
  refine zs_sub (ls' := [(0, sR o), (1, sR a0), (2, sI 0)]) ⟨rfl, rfl, rfl, trivial⟩ ?_
  refine zs_lp (pc := 40) (fun (t3 : Int) => [(0, sR o), (1, sR a0), (2, sI t3)]) (fun _ => []) (fun K4 hK4 t3 => ?_) BIG 0
  refine zs_iload_n (pc := 40) (k := 2) (i := 2) C (by decide +kernel) rfl rfl ?_
  refine zs_bipush (pc := 41) (n := 10) (x := 10) C (by decide +kernel) (by decide +kernel) ?_
  refine zs_icmp_ge (pc := 43) (off := 24) (tgt := 67) C (by decide +kernel) (by decide) ?_ ?_
  · exact zs_retVv (pc := 67) C hr ⟨Nat.le_of_ble_eq_true rfl, Nat.le_of_ble_eq_true rfl⟩ (by decide +kernel)
  · refine zs_aload_n (pc := 46) (k := 0) (i := 0) C (by decide +kernel) rfl rfl ?_
    refine zs_getR (o' := (o + 12)) (pc := 47) (i := 35) (ci := 10) (k := 5) C (by decide +kernel) fl_RX10_35 h0 rfl rfl ?_
    refine zs_iload_n (pc := 50) (k := 2) (i := 2) C (by decide +kernel) rfl rfl ?_
    refine zs_aald (pc := 51) (o := (o + 12)) (t := 4) (n := 10) C (by decide) (by decide +kernel) (ly_o_10_12 h0) (ly_arr_4_10 (ly_o_10_12 h0)) (fun x5 hx5 => ?_)
    refine zs_aload_n (pc := 52) (k := 1) (i := 1) C (by decide +kernel) rfl rfl ?_
    refine zs_getR (o' := (a0 + 12)) (pc := 53) (i := 35) (ci := 10) (k := 5) C (by decide +kernel) fl_RX10_35 h0_ rfl rfl ?_
    refine zs_iload_n (pc := 56) (k := 2) (i := 2) C (by decide +kernel) rfl rfl ?_
    refine zs_aald (pc := 57) (o := (a0 + 12)) (t := 4) (n := 10) C (by decide) (by decide +kernel) (ly_o_10_12 h0_) (ly_arr_4_10 (ly_o_10_12 h0_)) (fun x6 hx6 => ?_)
    refine zs_cvVv (pc := 58) (As := [sR x6]) (st := []) C (fun _ _ _ => rfl) (c_X5_copyFrom l g x5 x6 hx5 hx6) ml_RX10_56 hx5 rfl rfl rfl (Nat.le_of_ble_eq_true rfl) ⟨Nat.le_of_ble_eq_true rfl, Nat.le_of_ble_eq_true rfl⟩ ⟨Nat.le_of_ble_eq_true rfl, Nat.le_of_ble_eq_true rfl⟩ (by decide +kernel) ?_
    refine zs_iinc (pc := 61) (i := 2) (n := 1) (y := w32 (t3 + 1)) (ls' := [(2, sI (w32 (t3 + 1))), (0, sR o), (1, sR a0)]) C (by decide +kernel) rfl rfl (Nat.le_of_ble_eq_true rfl) rfl ?_
    refine zs_goto (pc := 64) (off := (-24)) (tgt := 40) C (by decide +kernel) (by decide) ?_
    exact zs_goj (hK4 (w32 (t3 + 1))) ⟨rfl, rfl, rfl, trivial⟩
set_option maxRecDepth 20000 in
theorem c_X10_goBack (l : Launch) (g : GC) (a0 : Int) : ConV l g yX10_goBack cX10_goBack 3 (rmd 2 0 0) [sR 19, sI a0] (fun mm => fX10_goBack a0 mm) := by
  refine zs_ofV (by decide +kernel) (Nat.le_of_ble_eq_true rfl) ?_
  intro p e s m args below meth c C hr
  replace C : Bd g RX10 cX10_goBack 3 p s m args meth c := C
  unfold fX10_goBack
  refine zs_aload_n (pc := 0) (k := 0) (i := 0) C (by decide +kernel) rfl rfl ?_
  refine zs_getI (pc := 1) (i := 32) (ci := 10) (k := 4) C (by decide +kernel) fl_RX10_32 rfl rfl (fun x1 => ?_)
  refine zs_iconst (pc := 4) (n := 1) (x := 1) C (by decide +kernel) (by decide +kernel) ?_
  refine zs_iadd (pc := 5) C (by decide +kernel) ?_
  refine zs_iload_n (pc := 6) (k := 1) (i := 1) C (by decide +kernel) rfl rfl ?_
  refine zs_isub (pc := 7) C (by decide +kernel) ?_
  refine zs_bipush (pc := 8) (n := 10) (x := 10) C (by decide +kernel) (by decide +kernel) ?_
  refine zs_iadd (pc := 10) C (by decide +kernel) ?_
  refine zs_bipush (pc := 11) (n := 10) (x := 10) C (by decide +kernel) (by decide +kernel) ?_
  refine zs_irem (pc := 13) C (by decide +kernel) (by decide +kernel) ?_
  refine zs_let (fun x2 => ?_)
  refine zs_istore_n (pc := 14) (k := 2) (i := 2) (ls' := [(2, sI x2), (0, sR 19), (1, sI a0)]) C (by decide +kernel) rfl (Nat.le_of_ble_eq_true rfl) rfl ?_
  refine zs_aload_n (pc := 15) (k := 0) (i := 0) C (by decide +kernel) rfl rfl ?_
  refine zs_getR (o' := 27) (pc := 16) (i := 21) (ci := 10) (k := 1) C (by decide +kernel) fl_RX10_21 rfl rfl rfl ?_
  refine zs_aload_n (pc := 19) (k := 0) (i := 0) C (by decide +kernel) rfl rfl ?_
  refine zs_getR (o' := 31) (pc := 20) (i := 35) (ci := 10) (k := 5) C (by decide +kernel) fl_RX10_35 rfl rfl rfl ?_
  refine zs_iload_n (pc := 23) (k := 2) (i := 2) C (by decide +kernel) rfl rfl ?_
  refine zs_aald (pc := 24) (o := 31) (t := 4) (n := 10) C (by decide) (by decide +kernel) rfl (ly_arr_4_10 rfl) (fun x3 hx3 => ?_)
  refine zs_cvVv (pc := 25) (As := [sR x3]) (st := []) C (fun _ _ _ => rfl) (c_X5_copyFrom l g 27 x3 rfl hx3) ml_RX10_56 rfl rfl rfl rfl (Nat.le_of_ble_eq_true rfl) ⟨Nat.le_of_ble_eq_true rfl, Nat.le_of_ble_eq_true rfl⟩ ⟨Nat.le_of_ble_eq_true rfl, Nat.le_of_ble_eq_true rfl⟩ (by decide +kernel) ?_
  refine zs_aload_n (pc := 28) (k := 0) (i := 0) C (by decide +kernel) rfl rfl ?_
  refine zs_aload_n (pc := 29) (k := 0) (i := 0) C (by decide +kernel) rfl rfl ?_
  refine zs_getI (pc := 30) (i := 32) (ci := 10) (k := 4) C (by decide +kernel) fl_RX10_32 rfl rfl (fun x4 => ?_)
  refine zs_iload_n (pc := 33) (k := 1) (i := 1) C (by decide +kernel) rfl rfl ?_
  refine zs_isub (pc := 34) C (by decide +kernel) ?_
  refine zs_bipush (pc := 35) (n := 10) (x := 10) C (by decide +kernel) (by decide +kernel) ?_
  refine zs_iadd (pc := 37) C (by decide +kernel) ?_
  refine zs_bipush (pc := 38) (n := 10) (x := 10) C (by decide +kernel) (by decide +kernel) ?_
  refine zs_irem (pc := 40) C (by decide +kernel) (by decide +kernel) ?_
  refine zs_putI (pc := 41) (i := 32) (ci := 10) (k := 4) C (fun _ _ _ => rfl) (by decide +kernel) fl_RX10_32 fw_10_4 rfl rfl ?_
  refine zs_aload_n (pc := 44) (k := 0) (i := 0) C (by decide +kernel) rfl rfl ?_
  refine zs_dup (pc := 45) C rfl (by decide +kernel) ?_
  refine zs_getI (pc := 46) (i := 25) (ci := 10) (k := 2) C (by decide +kernel) fl_RX10_25 rfl rfl (fun x5 => ?_)
  refine zs_iload_n (pc := 49) (k := 1) (i := 1) C (by decide +kernel) rfl rfl ?_
  refine zs_isub (pc := 50) C (by decide +kernel) ?_
  refine zs_putI (pc := 51) (i := 25) (ci := 10) (k := 2) C (fun _ _ _ => rfl) (by decide +kernel) fl_RX10_25 fw_10_2 rfl rfl ?_
  exact zs_retVv (pc := 54) C hr ⟨Nat.le_of_ble_eq_true rfl, Nat.le_of_ble_eq_true rfl⟩ (by decide +kernel)
set_option maxRecDepth 20000 in
theorem c_X10_setAside (l : Launch) (g : GC)  : ConV l g yX10_setAside cX10_setAside 1 (rmd 2 0 0) [sR 19] (fun mm => fX10_setAside  mm) := by
  refine zs_ofV (by decide +kernel) (Nat.le_of_ble_eq_true rfl) ?_
  intro p e s m args below meth c C hr
  replace C : Bd g RX10 cX10_setAside 1 p s m args meth c := C
  unfold fX10_setAside
  refine zs_aload_n (pc := 0) (k := 0) (i := 0) C (by decide +kernel) rfl rfl ?_
  refine zs_getR (o' := 32) (pc := 1) (i := 39) (ci := 10) (k := 6) C (by decide +kernel) fl_RX10_39 rfl rfl rfl ?_
  refine zs_aload_n (pc := 4) (k := 0) (i := 0) C (by decide +kernel) rfl rfl ?_
  refine zs_getR (o' := 27) (pc := 5) (i := 21) (ci := 10) (k := 1) C (by decide +kernel) fl_RX10_21 rfl rfl rfl ?_
  refine zs_cvVv (pc := 8) (As := [sR 27]) (st := []) C (fun _ _ _ => rfl) (c_X5_copyFrom l g 32 27 rfl rfl) ml_RX10_56 rfl rfl rfl rfl (Nat.le_of_ble_eq_true rfl) ⟨Nat.le_of_ble_eq_true rfl, Nat.le_of_ble_eq_true rfl⟩ ⟨Nat.le_of_ble_eq_true rfl, Nat.le_of_ble_eq_true rfl⟩ (by decide +kernel) ?_
  exact zs_retVv (pc := 11) C hr ⟨Nat.le_of_ble_eq_true rfl, Nat.le_of_ble_eq_true rfl⟩ (by decide +kernel)
set_option maxRecDepth 20000 in
theorem c_X10_takeUpAgain (l : Launch) (g : GC)  : ConV l g yX10_takeUpAgain cX10_takeUpAgain 1 (rmd 2 0 0) [sR 19] (fun mm => fX10_takeUpAgain  mm) := by
  refine zs_ofV (by decide +kernel) (Nat.le_of_ble_eq_true rfl) ?_
  intro p e s m args below meth c C hr
  replace C : Bd g RX10 cX10_takeUpAgain 1 p s m args meth c := C
  unfold fX10_takeUpAgain
  refine zs_aload_n (pc := 0) (k := 0) (i := 0) C (by decide +kernel) rfl rfl ?_
  refine zs_getR (o' := 27) (pc := 1) (i := 21) (ci := 10) (k := 1) C (by decide +kernel) fl_RX10_21 rfl rfl rfl ?_
  refine zs_aload_n (pc := 4) (k := 0) (i := 0) C (by decide +kernel) rfl rfl ?_
  refine zs_getR (o' := 32) (pc := 5) (i := 39) (ci := 10) (k := 6) C (by decide +kernel) fl_RX10_39 rfl rfl rfl ?_
  refine zs_cvVv (pc := 8) (As := [sR 32]) (st := []) C (fun _ _ _ => rfl) (c_X5_copyFrom l g 27 32 rfl rfl) ml_RX10_56 rfl rfl rfl rfl (Nat.le_of_ble_eq_true rfl) ⟨Nat.le_of_ble_eq_true rfl, Nat.le_of_ble_eq_true rfl⟩ ⟨Nat.le_of_ble_eq_true rfl, Nat.le_of_ble_eq_true rfl⟩ (by decide +kernel) ?_
  exact zs_retVv (pc := 11) C hr ⟨Nat.le_of_ble_eq_true rfl, Nat.le_of_ble_eq_true rfl⟩ (by decide +kernel)
set_option maxRecDepth 20000 in
theorem c_X10_peopleAt (l : Launch) (g : GC) (a0 : Int) : ConR l g yX10_peopleAt cX10_peopleAt 4 (some .int) (rmd 1 0 0) [sR 19, sI a0] (fun mm => fX10_peopleAt a0 mm) := by
  refine zs_ofR (by decide +kernel) (Nat.le_of_ble_eq_true rfl) ?_
  intro p e s m args below meth c C hr
  replace C : Bd g RX10 cX10_peopleAt 4 p s m args meth c := C
  unfold fX10_peopleAt
  refine zs_iconst (pc := 0) (n := 0) (x := 0) C (by decide +kernel) (by decide +kernel) ?_
  refine zs_istore_n (pc := 1) (k := 2) (i := 2) (ls' := [(2, sI 0), (0, sR 19), (1, sI a0)]) C (by decide +kernel) rfl (Nat.le_of_ble_eq_true rfl) rfl ?_
  refine zs_iconst (pc := 2) (n := 0) (x := 0) C (by decide +kernel) (by decide +kernel) ?_
  refine zs_istore_n (pc := 3) (k := 3) (i := 3) (ls' := [(3, sI 0), (2, sI 0), (0, sR 19), (1, sI a0)]) C (by decide +kernel) rfl (Nat.le_of_ble_eq_true rfl) rfl ?_
  refine zs_sub (ls' := [(0, sR 19), (1, sI a0), (2, sI 0), (3, sI 0)]) ⟨rfl, rfl, rfl, rfl, trivial⟩ ?_
  refine zs_lp (pc := 4) (fun (t1 : Int × Int) => [(0, sR 19), (1, sI a0), (2, sI t1.1), (3, sI t1.2)]) (fun _ => []) (fun K2 hK2 t1 => ?_) BIG (0, 0)
  refine zs_iload_n (pc := 4) (k := 3) (i := 3) C (by decide +kernel) rfl rfl ?_
  refine zs_aload_n (pc := 5) (k := 0) (i := 0) C (by decide +kernel) rfl rfl ?_
  refine zs_getR (o' := 20) (pc := 6) (i := 12) (ci := 10) (k := 0) C (by decide +kernel) fl_RX10_12 rfl rfl rfl ?_
  refine zs_getI (pc := 9) (i := 65) (ci := 3) (k := 5) C (by decide +kernel) fl_RX10_65 rfl rfl (fun x3 => ?_)
  refine zs_jn (pJ := 68) (kJ := 0) (sJ := 0) (fun t4 => [(2, sI t1.1)]) (fun t4 => []) (fun t4 => ?_) (fun J5 hJ5 => ?_)
  · refine zs_iload_n (pc := 68) (k := 2) (i := 2) C (by decide +kernel) rfl rfl ?_
    exact zs_retRi (pc := 69) C hr ⟨Nat.le_of_ble_eq_true rfl, Nat.le_of_ble_eq_true rfl⟩ (by decide +kernel)
  · refine zs_icmp_ge (pc := 12) (off := 56) (tgt := 68) C (by decide +kernel) (by decide) ?_ ?_
    · exact zs_goj (hJ5 ()) ⟨rfl, trivial⟩
    · refine zs_iload_n (pc := 15) (k := 3) (i := 3) C (by decide +kernel) rfl rfl ?_
      refine zs_iconst (pc := 16) (n := 4) (x := 4) C (by decide +kernel) (by decide +kernel) ?_
      refine zs_icmp_ge (pc := 17) (off := 51) (tgt := 68) C (by decide +kernel) (by decide) ?_ ?_
      · exact zs_goj (hJ5 ()) ⟨rfl, trivial⟩
      · refine zs_iload_n (pc := 20) (k := 2) (i := 2) C (by decide +kernel) rfl rfl ?_
        refine zs_aload_n (pc := 21) (k := 0) (i := 0) C (by decide +kernel) rfl rfl ?_
        refine zs_getR (o' := 27) (pc := 22) (i := 21) (ci := 10) (k := 1) C (by decide +kernel) fl_RX10_21 rfl rfl rfl ?_
        refine zs_getR (o' := 28) (pc := 25) (i := 68) (ci := 5) (k := 4) C (by decide +kernel) fl_RX10_68 rfl rfl rfl ?_
        refine zs_iload_n (pc := 28) (k := 3) (i := 3) C (by decide +kernel) rfl rfl ?_
        refine zs_iald (pc := 29) (o := 28) (n := 4) C (by decide +kernel) rfl (fun hinx6 x6 => ?_)
        refine zs_iload_n (pc := 30) (k := 1) (i := 1) C (by decide +kernel) rfl rfl ?_
        refine zs_jn (pJ := 39) (kJ := 0) (sJ := 0) (fun t7 => [(0, sR 19), (1, sI a0), (3, sI t1.2)]) (fun t7 => [sI t7, sI t1.1]) (fun t7 => ?_) (fun J8 hJ8 => ?_)
        · refine zs_iadd (pc := 39) C (by decide +kernel) ?_
          refine zs_let (fun x9 => ?_)
          refine zs_istore_n (pc := 40) (k := 2) (i := 2) (ls' := [(2, sI x9), (0, sR 19), (1, sI a0), (3, sI t1.2)]) C (by decide +kernel) rfl (Nat.le_of_ble_eq_true rfl) rfl ?_
          refine zs_iload_n (pc := 41) (k := 2) (i := 2) C (by decide +kernel) rfl rfl ?_
          refine zs_aload_n (pc := 42) (k := 0) (i := 0) C (by decide +kernel) rfl rfl ?_
          refine zs_getR (o' := 27) (pc := 43) (i := 21) (ci := 10) (k := 1) C (by decide +kernel) fl_RX10_21 rfl rfl rfl ?_
          refine zs_getR (o' := 29) (pc := 46) (i := 71) (ci := 5) (k := 5) C (by decide +kernel) fl_RX10_71 rfl rfl rfl ?_
          refine zs_iload_n (pc := 49) (k := 3) (i := 3) C (by decide +kernel) rfl rfl ?_
          refine zs_iald (pc := 50) (o := 29) (n := 4) C (by decide +kernel) rfl (fun hinx10 x10 => ?_)
          refine zs_iload_n (pc := 51) (k := 1) (i := 1) C (by decide +kernel) rfl rfl ?_
          refine zs_jn (pJ := 60) (kJ := 0) (sJ := 0) (fun t11 => [(0, sR 19), (1, sI a0), (3, sI t1.2)]) (fun t11 => [sI t11, sI x9]) (fun t11 => ?_) (fun J12 hJ12 => ?_)
          · refine zs_iadd (pc := 60) C (by decide +kernel) ?_
            refine zs_let (fun x13 => ?_)
            refine zs_istore_n (pc := 61) (k := 2) (i := 2) (ls' := [(2, sI x13), (0, sR 19), (1, sI a0), (3, sI t1.2)]) C (by decide +kernel) rfl (Nat.le_of_ble_eq_true rfl) rfl ?_
            refine zs_iinc (pc := 62) (i := 3) (n := 1) (y := w32 (t1.2 + 1)) (ls' := [(3, sI (w32 (t1.2 + 1))), (2, sI x13), (0, sR 19), (1, sI a0)]) C (by decide +kernel) rfl rfl (Nat.le_of_ble_eq_true rfl) rfl ?_
            refine zs_goto (pc := 65) (off := (-61)) (tgt := 4) C (by decide +kernel) (by decide) ?_
            exact zs_goj (hK2 (x13, w32 (t1.2 + 1))) ⟨rfl, rfl, rfl, rfl, trivial⟩
          · refine zs_icmp_ne (pc := 52) (off := 7) (tgt := 59) C (by decide +kernel) (by decide) ?_ ?_
            · refine zs_iconst (pc := 59) (n := 0) (x := 0) C (by decide +kernel) (by decide +kernel) ?_
              exact zs_goj (hJ12 0) ⟨rfl, rfl, rfl, trivial⟩
            · refine zs_iconst (pc := 55) (n := 1) (x := 1) C (by decide +kernel) (by decide +kernel) ?_
              refine zs_goto (pc := 56) (off := 4) (tgt := 60) C (by decide +kernel) (by decide) ?_
              exact zs_goj (hJ12 1) ⟨rfl, rfl, rfl, trivial⟩
        · refine zs_icmp_ne (pc := 31) (off := 7) (tgt := 38) C (by decide +kernel) (by decide) ?_ ?_
          · refine zs_iconst (pc := 38) (n := 0) (x := 0) C (by decide +kernel) (by decide +kernel) ?_
            exact zs_goj (hJ8 0) ⟨rfl, rfl, rfl, trivial⟩
          · refine zs_iconst (pc := 34) (n := 1) (x := 1) C (by decide +kernel) (by decide +kernel) ?_
            refine zs_goto (pc := 35) (off := 4) (tgt := 39) C (by decide +kernel) (by decide) ?_
            exact zs_goj (hJ8 1) ⟨rfl, rfl, rfl, trivial⟩

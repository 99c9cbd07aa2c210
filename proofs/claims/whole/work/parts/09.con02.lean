set_option maxRecDepth 20000 in
theorem c_X11_together (l : Launch) (g : GC) (hl : l.stackTraces = false) (a0 : Int) (a1 : Int) : ConT l g yX11_together cX11_together 3 (some .int) (rmd 8 2 12) [sR 0, sI a0, sI a1] (fun mm => fX11_together a0 a1 mm) := by
  refine zs_ofT (by decide +kernel) (Nat.le_of_ble_eq_true rfl) ?_
  intro p e s m args below meth c C hr hE
  replace C : Bd g RX11 cX11_together 3 p s m args meth c := C
  unfold fX11_together
  refine zs_aload_n (pc := 0) (k := 0) (i := 0) C (by decide +kernel) rfl rfl ?_
  refine zs_iload_n (pc := 1) (k := 1) (i := 1) C (by decide +kernel) rfl rfl ?_
  refine zs_cvTv (pc := 2) (As := [sI a0]) (st := []) C hE (c_X11_needPair l g hl a0) ml_RX11_134 rfl rfl rfl rfl (Nat.le_of_ble_eq_true rfl) ⟨Nat.le_of_ble_eq_true rfl, Nat.le_of_ble_eq_true rfl⟩ ⟨Nat.le_of_ble_eq_true rfl, Nat.le_of_ble_eq_true rfl⟩ ⟨Nat.le_of_ble_eq_true rfl, Nat.le_of_ble_eq_true rfl⟩ (by decide +kernel) ?_
  refine zs_aload_n (pc := 5) (k := 0) (i := 0) C (by decide +kernel) rfl rfl ?_
  refine zs_iload_n (pc := 6) (k := 2) (i := 2) C (by decide +kernel) rfl rfl ?_
  refine zs_iconst (pc := 7) (n := 0) (x := 0) C (by decide +kernel) (by decide +kernel) ?_
  refine zs_bipush (pc := 8) (n := 40) (x := 40) C (by decide +kernel) (by decide +kernel) ?_
  refine zs_cvTv (pc := 10) (As := [sI a1, sI 0, sI 40]) (st := []) C hE (c_X11_needWithin l g hl a1 0 40) ml_RX11_179 rfl rfl rfl rfl (Nat.le_of_ble_eq_true rfl) ⟨Nat.le_of_ble_eq_true rfl, Nat.le_of_ble_eq_true rfl⟩ ⟨Nat.le_of_ble_eq_true rfl, Nat.le_of_ble_eq_true rfl⟩ ⟨Nat.le_of_ble_eq_true rfl, Nat.le_of_ble_eq_true rfl⟩ (by decide +kernel) ?_
  refine zs_aload_n (pc := 13) (k := 0) (i := 0) C (by decide +kernel) rfl rfl ?_
  refine zs_getR (o' := 18) (pc := 14) (i := 33) (ci := 11) (k := 5) C (by decide +kernel) fl_RX11_33 rfl rfl rfl ?_
  refine zs_iload_n (pc := 17) (k := 1) (i := 1) C (by decide +kernel) rfl rfl ?_
  refine zs_cvVv (pc := 18) (As := [sI a0]) (st := []) C (fun _ _ _ => rfl) (c_X0_begin l g a0) ml_RX11_251 rfl rfl rfl rfl (Nat.le_of_ble_eq_true rfl) ⟨Nat.le_of_ble_eq_true rfl, Nat.le_of_ble_eq_true rfl⟩ ⟨Nat.le_of_ble_eq_true rfl, Nat.le_of_ble_eq_true rfl⟩ (by decide +kernel) ?_
  refine zs_aload_n (pc := 21) (k := 0) (i := 0) C (by decide +kernel) rfl rfl ?_
  refine zs_getR (o' := 18) (pc := 22) (i := 33) (ci := 11) (k := 5) C (by decide +kernel) fl_RX11_33 rfl rfl rfl ?_
  refine zs_iload_n (pc := 25) (k := 2) (i := 2) C (by decide +kernel) rfl rfl ?_
  refine zs_cvWi (pc := 26) (As := [sI a1]) (st := []) C (fun _ _ _ => rfl) rfl (c_X0_goTo l g a1) ml_RX11_256 rfl rfl rfl rfl (Nat.le_of_ble_eq_true rfl) ⟨Nat.le_of_ble_eq_true rfl, Nat.le_of_ble_eq_true rfl⟩ ⟨Nat.le_of_ble_eq_true rfl, Nat.le_of_ble_eq_true rfl⟩ (by decide +kernel) (fun x1 => ?_)
  refine zs_jn (pJ := 44) (kJ := 2) (sJ := 12) (fun t2 => []) (fun t2 => [sI t2]) (fun t2 => ?_) (fun J3 hJ3 => ?_)
  · exact zs_retTi (pc := 44) C hr ⟨Nat.le_of_ble_eq_true rfl, Nat.le_of_ble_eq_true rfl⟩ (by decide +kernel)
  · refine zs_if_eq (pc := 29) (off := 14) (tgt := 43) C (by decide +kernel) (by decide) ?_ ?_
    · refine zs_iconst (pc := 43) (n := 0) (x := 0) C (by decide +kernel) (by decide +kernel) ?_
      exact zs_goj (hJ3 0) trivial
    · refine zs_aload_n (pc := 32) (k := 0) (i := 0) C (by decide +kernel) rfl rfl ?_
      refine zs_getR (o' := 18) (pc := 33) (i := 33) (ci := 11) (k := 5) C (by decide +kernel) fl_RX11_33 rfl rfl rfl ?_
      refine zs_iload_n (pc := 36) (k := 2) (i := 2) C (by decide +kernel) rfl rfl ?_
      refine zs_cvRi (pc := 37) (As := [sI a1]) (st := []) C rfl (c_X0_whereBoth l g a1) ml_RX11_262 rfl rfl rfl rfl (Nat.le_of_ble_eq_true rfl) ⟨Nat.le_of_ble_eq_true rfl, Nat.le_of_ble_eq_true rfl⟩ ⟨Nat.le_of_ble_eq_true rfl, Nat.le_of_ble_eq_true rfl⟩ (by decide +kernel) (fun x4 => ?_)
      refine zs_goto (pc := 40) (off := 4) (tgt := 44) C (by decide +kernel) (by decide) ?_
      exact zs_goj (hJ3 x4) trivial
set_option maxRecDepth 20000 in
theorem c_X0_mealHour (l : Launch) (g : GC)  : ConW l g yX0_mealHour cX0_mealHour 2 (some .int) (rmd 6 0 0) [sR 18] (fun mm => fX0_mealHour  mm) := by
  refine zs_ofW (by decide +kernel) (Nat.le_of_ble_eq_true rfl) ?_
  intro p e s m args below meth c C hr
  replace C : Bd g RX0 cX0_mealHour 2 p s m args meth c := C
  unfold fX0_mealHour
  refine zs_aload_n (pc := 0) (k := 0) (i := 0) C (by decide +kernel) rfl rfl ?_
  refine zs_cvVv (pc := 1) (As := []) (st := []) C (fun _ _ _ => rfl) (c_X0_start l g ) ml_RX0_170 rfl rfl rfl rfl (Nat.le_of_ble_eq_true rfl) ⟨Nat.le_of_ble_eq_true rfl, Nat.le_of_ble_eq_true rfl⟩ ⟨Nat.le_of_ble_eq_true rfl, Nat.le_of_ble_eq_true rfl⟩ (by decide +kernel) ?_
  refine zs_iconst (pc := 4) (n := 0) (x := 0) C (by decide +kernel) (by decide +kernel) ?_
  refine zs_istore_n (pc := 5) (k := 1) (i := 1) (ls' := [(1, sI 0), (0, sR 18)]) C (by decide +kernel) rfl (Nat.le_of_ble_eq_true rfl) rfl ?_
  refine zs_sub (ls' := [(0, sR 18), (1, sI 0)]) ⟨rfl, rfl, trivial⟩ ?_
  refine zs_lp (pc := 6) (fun (t1 : Int) => [(0, sR 18), (1, sI t1)]) (fun _ => []) (fun K2 hK2 t1 => ?_) BIG 0
  refine zs_iload_n (pc := 6) (k := 1) (i := 1) C (by decide +kernel) rfl rfl ?_
  refine zs_bipush (pc := 7) (n := 40) (x := 40) C (by decide +kernel) (by decide +kernel) ?_
  refine zs_icmp_gt (pc := 9) (off := 33) (tgt := 42) C (by decide +kernel) (by decide) ?_ ?_
  · refine zs_iconst (pc := 42) (n := (-1)) (x := (-1)) C (by decide +kernel) (by decide +kernel) ?_
    exact zs_retWi (pc := 43) C hr ⟨Nat.le_of_ble_eq_true rfl, Nat.le_of_ble_eq_true rfl⟩ (by decide +kernel)
  · refine zs_iload_n (pc := 12) (k := 1) (i := 1) C (by decide +kernel) rfl rfl ?_
    refine zs_jn (pJ := 26) (kJ := 0) (sJ := 0) (fun t3 => [(0, sR 18), (1, sI t1)]) (fun t3 => []) (fun t3 => ?_) (fun J4 hJ4 => ?_)
    · refine zs_aload_n (pc := 26) (k := 0) (i := 0) C (by decide +kernel) rfl rfl ?_
      refine zs_iload_n (pc := 27) (k := 1) (i := 1) C (by decide +kernel) rfl rfl ?_
      refine zs_cvRi (pc := 28) (As := [sI t1]) (st := []) C rfl (c_X0_whereBoth l g t1) ml_RX0_176 rfl rfl rfl rfl (Nat.le_of_ble_eq_true rfl) ⟨Nat.le_of_ble_eq_true rfl, Nat.le_of_ble_eq_true rfl⟩ ⟨Nat.le_of_ble_eq_true rfl, Nat.le_of_ble_eq_true rfl⟩ (by decide +kernel) (fun x5 => ?_)
      refine zs_if_eq (pc := 31) (off := 5) (tgt := 36) C (by decide +kernel) (by decide) ?_ ?_
      · refine zs_iinc (pc := 36) (i := 1) (n := 1) (y := w32 (t1 + 1)) (ls' := [(1, sI (w32 (t1 + 1))), (0, sR 18)]) C (by decide +kernel) rfl rfl (Nat.le_of_ble_eq_true rfl) rfl ?_
        refine zs_goto (pc := 39) (off := (-33)) (tgt := 6) C (by decide +kernel) (by decide) ?_
        exact zs_goj (hK2 (w32 (t1 + 1))) ⟨rfl, rfl, trivial⟩
      · refine zs_iload_n (pc := 34) (k := 1) (i := 1) C (by decide +kernel) rfl rfl ?_
        exact zs_retWi (pc := 35) C hr ⟨Nat.le_of_ble_eq_true rfl, Nat.le_of_ble_eq_true rfl⟩ (by decide +kernel)
    · refine zs_if_le (pc := 13) (off := 13) (tgt := 26) C (by decide +kernel) (by decide) ?_ ?_
      · exact zs_goj (hJ4 ()) ⟨rfl, rfl, trivial⟩
      · refine zs_aload_n (pc := 16) (k := 0) (i := 0) C (by decide +kernel) rfl rfl ?_
        refine zs_iload_n (pc := 17) (k := 1) (i := 1) C (by decide +kernel) rfl rfl ?_
        refine zs_cvWi (pc := 18) (As := [sI t1]) (st := []) C (fun _ _ _ => rfl) rfl (c_X0_goOn l g t1) ml_RX0_173 rfl rfl rfl rfl (Nat.le_of_ble_eq_true rfl) ⟨Nat.le_of_ble_eq_true rfl, Nat.le_of_ble_eq_true rfl⟩ ⟨Nat.le_of_ble_eq_true rfl, Nat.le_of_ble_eq_true rfl⟩ (by decide +kernel) (fun x6 => ?_)
        refine zs_if_ne (pc := 21) (off := 5) (tgt := 26) C (by decide +kernel) (by decide) ?_ ?_
        · exact zs_goj (hJ4 ()) ⟨rfl, rfl, trivial⟩
        · refine zs_iconst (pc := 24) (n := (-1)) (x := (-1)) C (by decide +kernel) (by decide +kernel) ?_
          exact zs_retWi (pc := 25) C hr ⟨Nat.le_of_ble_eq_true rfl, Nat.le_of_ble_eq_true rfl⟩ (by decide +kernel)
set_option maxRecDepth 20000 in
theorem c_X11_lowest (l : Launch) (g : GC) (a0 : Int) : ConR l g yX11_lowest cX11_lowest 2 (some .int) (rmd 1 0 0) [sI a0] (fun mm => fX11_lowest a0 mm) := by
  refine zs_ofR (by decide +kernel) (Nat.le_of_ble_eq_true rfl) ?_
  intro p e s m args below meth c C hr
  replace C : Bd g RX11 cX11_lowest 2 p s m args meth c := C
  unfold fX11_lowest
  refine zs_iconst (pc := 0) (n := 0) (x := 0) C (by decide +kernel) (by decide +kernel) ?_
  refine zs_istore_n (pc := 1) (k := 1) (i := 1) (ls' := [(1, sI 0), (0, sI a0)]) C (by decide +kernel) rfl (Nat.le_of_ble_eq_true rfl) rfl ?_
  refine zs_sub (ls' := [(0, sI a0), (1, sI 0)]) ⟨rfl, rfl, trivial⟩ ?_
  refine zs_lp (pc := 2) (fun (t1 : Int) => [(0, sI a0), (1, sI t1)]) (fun _ => []) (fun K2 hK2 t1 => ?_) BIG 0
  refine zs_iload_n (pc := 2) (k := 1) (i := 1) C (by decide +kernel) rfl rfl ?_
  refine zs_bipush (pc := 3) (n := 25) (x := 25) C (by decide +kernel) (by decide +kernel) ?_
  refine zs_icmp_ge (pc := 5) (off := 19) (tgt := 24) C (by decide +kernel) (by decide) ?_ ?_
  · refine zs_iconst (pc := 24) (n := (-1)) (x := (-1)) C (by decide +kernel) (by decide +kernel) ?_
    exact zs_retRi (pc := 25) C hr ⟨Nat.le_of_ble_eq_true rfl, Nat.le_of_ble_eq_true rfl⟩ (by decide +kernel)
  · refine zs_iload_n (pc := 8) (k := 0) (i := 0) C (by decide +kernel) rfl rfl ?_
    refine zs_iload_n (pc := 9) (k := 1) (i := 1) C (by decide +kernel) rfl rfl ?_
    refine zs_iushr (pc := 10) C (by decide +kernel) ?_
    refine zs_iconst (pc := 11) (n := 1) (x := 1) C (by decide +kernel) (by decide +kernel) ?_
    refine zs_iand (pc := 12) C (by decide +kernel) ?_
    refine zs_if_eq (pc := 13) (off := 5) (tgt := 18) C (by decide +kernel) (by decide) ?_ ?_
    · refine zs_iinc (pc := 18) (i := 1) (n := 1) (y := w32 (t1 + 1)) (ls' := [(1, sI (w32 (t1 + 1))), (0, sI a0)]) C (by decide +kernel) rfl rfl (Nat.le_of_ble_eq_true rfl) rfl ?_
      refine zs_goto (pc := 21) (off := (-19)) (tgt := 2) C (by decide +kernel) (by decide) ?_
      exact zs_goj (hK2 (w32 (t1 + 1))) ⟨rfl, rfl, trivial⟩
    · refine zs_iload_n (pc := 16) (k := 1) (i := 1) C (by decide +kernel) rfl rfl ?_
      exact zs_retRi (pc := 17) C hr ⟨Nat.le_of_ble_eq_true rfl, Nat.le_of_ble_eq_true rfl⟩ (by decide +kernel)
set_option maxRecDepth 20000 in
theorem c_X11_meal (l : Launch) (g : GC) (hl : l.stackTraces = false) (a0 : Int) (a1 : Int) : ConT l g yX11_meal cX11_meal 4 (some .int) (rmd 8 2 12) [sR 0, sI a0, sI a1] (fun mm => fX11_meal a0 a1 mm) := by
  refine zs_ofT (by decide +kernel) (Nat.le_of_ble_eq_true rfl) ?_
  intro p e s m args below meth c C hr hE
  replace C : Bd g RX11 cX11_meal 4 p s m args meth c := C
  unfold fX11_meal
  refine zs_aload_n (pc := 0) (k := 0) (i := 0) C (by decide +kernel) rfl rfl ?_
  refine zs_iload_n (pc := 1) (k := 1) (i := 1) C (by decide +kernel) rfl rfl ?_
  refine zs_cvTv (pc := 2) (As := [sI a0]) (st := []) C hE (c_X11_needPair l g hl a0) ml_RX11_134 rfl rfl rfl rfl (Nat.le_of_ble_eq_true rfl) ⟨Nat.le_of_ble_eq_true rfl, Nat.le_of_ble_eq_true rfl⟩ ⟨Nat.le_of_ble_eq_true rfl, Nat.le_of_ble_eq_true rfl⟩ ⟨Nat.le_of_ble_eq_true rfl, Nat.le_of_ble_eq_true rfl⟩ (by decide +kernel) ?_
  refine zs_aload_n (pc := 5) (k := 0) (i := 0) C (by decide +kernel) rfl rfl ?_
  refine zs_iload_n (pc := 6) (k := 2) (i := 2) C (by decide +kernel) rfl rfl ?_
  refine zs_iconst (pc := 7) (n := 0) (x := 0) C (by decide +kernel) (by decide +kernel) ?_
  refine zs_iconst (pc := 8) (n := 1) (x := 1) C (by decide +kernel) (by decide +kernel) ?_
  refine zs_cvTv (pc := 9) (As := [sI a1, sI 0, sI 1]) (st := []) C hE (c_X11_needWithin l g hl a1 0 1) ml_RX11_179 rfl rfl rfl rfl (Nat.le_of_ble_eq_true rfl) ⟨Nat.le_of_ble_eq_true rfl, Nat.le_of_ble_eq_true rfl⟩ ⟨Nat.le_of_ble_eq_true rfl, Nat.le_of_ble_eq_true rfl⟩ ⟨Nat.le_of_ble_eq_true rfl, Nat.le_of_ble_eq_true rfl⟩ (by decide +kernel) ?_
  refine zs_aload_n (pc := 12) (k := 0) (i := 0) C (by decide +kernel) rfl rfl ?_
  refine zs_getR (o' := 18) (pc := 13) (i := 33) (ci := 11) (k := 5) C (by decide +kernel) fl_RX11_33 rfl rfl rfl ?_
  refine zs_iload_n (pc := 16) (k := 1) (i := 1) C (by decide +kernel) rfl rfl ?_
  refine zs_cvVv (pc := 17) (As := [sI a0]) (st := []) C (fun _ _ _ => rfl) (c_X0_begin l g a0) ml_RX11_251 rfl rfl rfl rfl (Nat.le_of_ble_eq_true rfl) ⟨Nat.le_of_ble_eq_true rfl, Nat.le_of_ble_eq_true rfl⟩ ⟨Nat.le_of_ble_eq_true rfl, Nat.le_of_ble_eq_true rfl⟩ (by decide +kernel) ?_
  refine zs_aload_n (pc := 20) (k := 0) (i := 0) C (by decide +kernel) rfl rfl ?_
  refine zs_getR (o' := 18) (pc := 21) (i := 33) (ci := 11) (k := 5) C (by decide +kernel) fl_RX11_33 rfl rfl rfl ?_
  refine zs_cvWi (pc := 24) (As := []) (st := []) C (fun _ _ _ => rfl) rfl (c_X0_mealHour l g ) ml_RX11_265 rfl rfl rfl rfl (Nat.le_of_ble_eq_true rfl) ⟨Nat.le_of_ble_eq_true rfl, Nat.le_of_ble_eq_true rfl⟩ ⟨Nat.le_of_ble_eq_true rfl, Nat.le_of_ble_eq_true rfl⟩ (by decide +kernel) (fun x1 => ?_)
  refine zs_istore_n (pc := 27) (k := 3) (i := 3) (ls' := [(3, sI x1), (0, sR 0), (1, sI a0), (2, sI a1)]) C (by decide +kernel) rfl (Nat.le_of_ble_eq_true rfl) rfl ?_
  refine zs_iload_n (pc := 28) (k := 3) (i := 3) C (by decide +kernel) rfl rfl ?_
  refine zs_iconst (pc := 29) (n := (-1)) (x := (-1)) C (by decide +kernel) (by decide +kernel) ?_
  refine zs_jn (pJ := 52) (kJ := 2) (sJ := 12) (fun t2 => []) (fun t2 => [sI t2]) (fun t2 => ?_) (fun J3 hJ3 => ?_)
  · exact zs_retTi (pc := 52) C hr ⟨Nat.le_of_ble_eq_true rfl, Nat.le_of_ble_eq_true rfl⟩ (by decide +kernel)
  · refine zs_jn (pJ := 37) (kJ := 2) (sJ := 12) (fun t4 => [(3, sI x1)]) (fun t4 => []) (fun t4 => ?_) (fun J5 hJ5 => ?_)
    · refine zs_iload_n (pc := 37) (k := 3) (i := 3) C (by decide +kernel) rfl rfl ?_
      refine zs_goto (pc := 38) (off := 14) (tgt := 52) C (by decide +kernel) (by decide) ?_
      exact zs_goj (hJ3 x1) trivial
    · refine zs_icmp_eq (pc := 30) (off := 7) (tgt := 37) C (by decide +kernel) (by decide) ?_ ?_
      · exact zs_goj (hJ5 ()) ⟨rfl, trivial⟩
      · refine zs_iload_n (pc := 33) (k := 2) (i := 2) C (by decide +kernel) rfl rfl ?_
        refine zs_if_ne (pc := 34) (off := 7) (tgt := 41) C (by decide +kernel) (by decide) ?_ ?_
        · refine zs_aload_n (pc := 41) (k := 0) (i := 0) C (by decide +kernel) rfl rfl ?_
          refine zs_getR (o' := 18) (pc := 42) (i := 33) (ci := 11) (k := 5) C (by decide +kernel) fl_RX11_33 rfl rfl rfl ?_
          refine zs_iload_n (pc := 45) (k := 3) (i := 3) C (by decide +kernel) rfl rfl ?_
          refine zs_cvRi (pc := 46) (As := [sI x1]) (st := []) C rfl (c_X0_whereBoth l g x1) ml_RX11_262 rfl rfl rfl rfl (Nat.le_of_ble_eq_true rfl) ⟨Nat.le_of_ble_eq_true rfl, Nat.le_of_ble_eq_true rfl⟩ ⟨Nat.le_of_ble_eq_true rfl, Nat.le_of_ble_eq_true rfl⟩ (by decide +kernel) (fun x6 => ?_)
          refine zs_csRi (pc := 49) (As := [sI x6]) (st := []) C rfl (c_X11_lowest l g x6) ml_RX11_268 rfl rfl (Nat.le_of_ble_eq_true rfl) ⟨Nat.le_of_ble_eq_true rfl, Nat.le_of_ble_eq_true rfl⟩ ⟨Nat.le_of_ble_eq_true rfl, Nat.le_of_ble_eq_true rfl⟩ (by decide +kernel) (fun x7 => ?_)
          exact zs_goj (hJ3 x7) trivial
        · exact zs_goj (hJ5 ()) ⟨rfl, trivial⟩
set_option maxRecDepth 20000 in
theorem c_X0_widest (l : Launch) (g : GC) (a0 : Int) : ConR l g yX0_widest cX0_widest 5 (some .int) (rmd 2 0 0) [sR 18, sI a0] (fun mm => fX0_widest a0 mm) := by
  refine zs_ofR (by decide +kernel) (Nat.le_of_ble_eq_true rfl) ?_
  intro p e s m args below meth c C hr
  replace C : Bd g RX0 cX0_widest 5 p s m args meth c := C
  unfold fX0_widest
  refine zs_iconst (pc := 0) (n := (-1)) (x := (-1)) C (by decide +kernel) (by decide +kernel) ?_
  refine zs_istore_n (pc := 1) (k := 2) (i := 2) (ls' := [(2, sI ((-1))), (0, sR 18), (1, sI a0)]) C (by decide +kernel) rfl (Nat.le_of_ble_eq_true rfl) rfl ?_
  refine zs_iconst (pc := 2) (n := 0) (x := 0) C (by decide +kernel) (by decide +kernel) ?_
  refine zs_istore_n (pc := 3) (k := 3) (i := 3) (ls' := [(3, sI 0), (2, sI ((-1))), (0, sR 18), (1, sI a0)]) C (by decide +kernel) rfl (Nat.le_of_ble_eq_true rfl) rfl ?_
  refine zs_sub (ls' := [(0, sR 18), (1, sI a0), (2, sI ((-1))), (3, sI 0)]) ⟨rfl, rfl, rfl, rfl, trivial⟩ ?_
  refine zs_lp (pc := 4) (fun (t1 : Int × Int) => [(0, sR 18), (1, sI a0), (2, sI t1.1), (3, sI t1.2)]) (fun _ => []) (fun K2 hK2 t1 => ?_) BIG ((-1), 0)
  refine zs_iload_n (pc := 4) (k := 3) (i := 3) C (by decide +kernel) rfl rfl ?_
  refine zs_aload_n (pc := 5) (k := 0) (i := 0) C (by decide +kernel) rfl rfl ?_
  refine zs_getI (pc := 6) (i := 43) (ci := 0) (k := 9) C (by decide +kernel) fl_RX0_43 rfl rfl (fun x3 => ?_)
  refine zs_icmp_ge (pc := 9) (off := 64) (tgt := 73) C (by decide +kernel) (by decide) ?_ ?_
  · refine zs_iload_n (pc := 73) (k := 2) (i := 2) C (by decide +kernel) rfl rfl ?_
    exact zs_retRi (pc := 74) C hr ⟨Nat.le_of_ble_eq_true rfl, Nat.le_of_ble_eq_true rfl⟩ (by decide +kernel)
  · refine zs_iconst (pc := 12) (n := 0) (x := 0) C (by decide +kernel) (by decide +kernel) ?_
    refine zs_istore (pc := 13) (i := 4) (ls' := [(4, sI 0), (0, sR 18), (1, sI a0), (2, sI t1.1), (3, sI t1.2)]) C (by decide +kernel) (Nat.le_of_ble_eq_true rfl) rfl ?_
    refine zs_sub (ls' := [(0, sR 18), (1, sI a0), (2, sI t1.1), (3, sI t1.2), (4, sI 0)]) ⟨rfl, rfl, rfl, rfl, rfl, trivial⟩ ?_
    refine zs_lp (pc := 15) (fun (t4 : Int × Int) => [(0, sR 18), (1, sI a0), (2, sI t4.1), (3, sI t1.2), (4, sI t4.2)]) (fun _ => []) (fun K5 hK5 t4 => ?_) BIG (t1.1, 0)
    refine zs_iload (pc := 15) (i := 4) C (by decide +kernel) rfl ?_
    refine zs_aload_n (pc := 17) (k := 0) (i := 0) C (by decide +kernel) rfl rfl ?_
    refine zs_getI (pc := 18) (i := 43) (ci := 0) (k := 9) C (by decide +kernel) fl_RX0_43 rfl rfl (fun x6 => ?_)
    refine zs_icmp_ge (pc := 21) (off := 46) (tgt := 67) C (by decide +kernel) (by decide) ?_ ?_
    · refine zs_iinc (pc := 67) (i := 3) (n := 1) (y := w32 (t1.2 + 1)) (ls' := [(3, sI (w32 (t1.2 + 1))), (0, sR 18), (1, sI a0), (2, sI t4.1), (4, sI t4.2)]) C (by decide +kernel) rfl rfl (Nat.le_of_ble_eq_true rfl) rfl ?_
      refine zs_goto (pc := 70) (off := (-66)) (tgt := 4) C (by decide +kernel) (by decide) ?_
      exact zs_goj (hK2 (t4.1, w32 (t1.2 + 1))) ⟨rfl, rfl, rfl, rfl, trivial⟩
    · refine zs_aload_n (pc := 24) (k := 0) (i := 0) C (by decide +kernel) rfl rfl ?_
      refine zs_getR (o' := 82) (pc := 25) (i := 31) (ci := 0) (k := 5) C (by decide +kernel) fl_RX0_31 rfl rfl rfl ?_
      refine zs_iload_n (pc := 28) (k := 1) (i := 1) C (by decide +kernel) rfl rfl ?_
      refine zs_bipush (pc := 29) (n := 25) (x := 25) C (by decide +kernel) (by decide +kernel) ?_
      refine zs_imul (pc := 31) C (by decide +kernel) ?_
      refine zs_iload_n (pc := 32) (k := 3) (i := 3) C (by decide +kernel) rfl rfl ?_
      refine zs_iadd (pc := 33) C (by decide +kernel) ?_
      refine zs_iald (pc := 34) (o := 82) (n := 1025) C (by decide +kernel) rfl (fun hinx7 x7 => ?_)
      refine zs_iload (pc := 35) (i := 4) C (by decide +kernel) rfl ?_
      refine zs_iushr (pc := 37) C (by decide +kernel) ?_
      refine zs_iconst (pc := 38) (n := 1) (x := 1) C (by decide +kernel) (by decide +kernel) ?_
      refine zs_iand (pc := 39) C (by decide +kernel) ?_
      refine zs_jn (pJ := 61) (kJ := 0) (sJ := 0) (fun t8 => [(0, sR 18), (1, sI a0), (2, sI t8), (3, sI t1.2), (4, sI t4.2)]) (fun t8 => []) (fun t8 => ?_) (fun J9 hJ9 => ?_)
      · refine zs_iinc (pc := 61) (i := 4) (n := 1) (y := w32 (t4.2 + 1)) (ls' := [(4, sI (w32 (t4.2 + 1))), (0, sR 18), (1, sI a0), (2, sI t8), (3, sI t1.2)]) C (by decide +kernel) rfl rfl (Nat.le_of_ble_eq_true rfl) rfl ?_
        refine zs_goto (pc := 64) (off := (-49)) (tgt := 15) C (by decide +kernel) (by decide) ?_
        exact zs_goj (hK5 (t8, w32 (t4.2 + 1))) ⟨rfl, rfl, rfl, rfl, rfl, trivial⟩
      · refine zs_if_eq (pc := 40) (off := 21) (tgt := 61) C (by decide +kernel) (by decide) ?_ ?_
        · exact zs_goj (hJ9 t4.1) ⟨rfl, rfl, rfl, rfl, rfl, trivial⟩
        · refine zs_iload_n (pc := 43) (k := 2) (i := 2) C (by decide +kernel) rfl rfl ?_
          refine zs_aload_n (pc := 44) (k := 0) (i := 0) C (by decide +kernel) rfl rfl ?_
          refine zs_getR (o' := 19) (pc := 45) (i := 12) (ci := 0) (k := 0) C (by decide +kernel) fl_RX0_12 rfl rfl rfl ?_
          refine zs_getR (o' := 20) (pc := 48) (i := 72) (ci := 10) (k := 0) C (by decide +kernel) fl_RX0_72 rfl rfl rfl ?_
          refine zs_iload_n (pc := 51) (k := 3) (i := 3) C (by decide +kernel) rfl rfl ?_
          refine zs_iload (pc := 52) (i := 4) C (by decide +kernel) rfl ?_
          refine zs_cvRi (pc := 54) (As := [sI t1.2, sI t4.2]) (st := [sI t4.1]) C rfl (c_X3_apart l g t1.2 t4.2) ml_RX0_112 rfl rfl rfl rfl (Nat.le_of_ble_eq_true rfl) ⟨Nat.le_of_ble_eq_true rfl, Nat.le_of_ble_eq_true rfl⟩ ⟨Nat.le_of_ble_eq_true rfl, Nat.le_of_ble_eq_true rfl⟩ (by decide +kernel) (fun x10 => ?_)
          refine zs_mmax (pc := 57) (idx := 138) C wf_1359 wf_702 wf_166 wf_703 ⟨Nat.le_of_ble_eq_true rfl, Nat.le_of_ble_eq_true rfl, Nat.le_of_ble_eq_true rfl, Nat.le_of_ble_eq_true rfl⟩ (by decide +kernel) ?_
          refine zs_let (fun x11 => ?_)
          refine zs_istore_n (pc := 60) (k := 2) (i := 2) (ls' := [(2, sI x11), (0, sR 18), (1, sI a0), (3, sI t1.2), (4, sI t4.2)]) C (by decide +kernel) rfl (Nat.le_of_ble_eq_true rfl) rfl ?_
          exact zs_goj (hJ9 x11) ⟨rfl, rfl, rfl, rfl, rfl, trivial⟩
set_option maxRecDepth 20000 in
theorem c_X11_farthest (l : Launch) (g : GC) (hl : l.stackTraces = false) (a0 : Int) (a1 : Int) : ConT l g yX11_farthest cX11_farthest 3 (some .int) (rmd 8 2 12) [sR 0, sI a0, sI a1] (fun mm => fX11_farthest a0 a1 mm) := by
  refine zs_ofT (by decide +kernel) (Nat.le_of_ble_eq_true rfl) ?_
  intro p e s m args below meth c C hr hE
  replace C : Bd g RX11 cX11_farthest 3 p s m args meth c := C
  unfold fX11_farthest
  refine zs_aload_n (pc := 0) (k := 0) (i := 0) C (by decide +kernel) rfl rfl ?_
  refine zs_iload_n (pc := 1) (k := 1) (i := 1) C (by decide +kernel) rfl rfl ?_
  refine zs_cvTv (pc := 2) (As := [sI a0]) (st := []) C hE (c_X11_needPair l g hl a0) ml_RX11_134 rfl rfl rfl rfl (Nat.le_of_ble_eq_true rfl) ⟨Nat.le_of_ble_eq_true rfl, Nat.le_of_ble_eq_true rfl⟩ ⟨Nat.le_of_ble_eq_true rfl, Nat.le_of_ble_eq_true rfl⟩ ⟨Nat.le_of_ble_eq_true rfl, Nat.le_of_ble_eq_true rfl⟩ (by decide +kernel) ?_
  refine zs_aload_n (pc := 5) (k := 0) (i := 0) C (by decide +kernel) rfl rfl ?_
  refine zs_iload_n (pc := 6) (k := 2) (i := 2) C (by decide +kernel) rfl rfl ?_
  refine zs_iconst (pc := 7) (n := 0) (x := 0) C (by decide +kernel) (by decide +kernel) ?_
  refine zs_bipush (pc := 8) (n := 40) (x := 40) C (by decide +kernel) (by decide +kernel) ?_
  refine zs_cvTv (pc := 10) (As := [sI a1, sI 0, sI 40]) (st := []) C hE (c_X11_needWithin l g hl a1 0 40) ml_RX11_179 rfl rfl rfl rfl (Nat.le_of_ble_eq_true rfl) ⟨Nat.le_of_ble_eq_true rfl, Nat.le_of_ble_eq_true rfl⟩ ⟨Nat.le_of_ble_eq_true rfl, Nat.le_of_ble_eq_true rfl⟩ ⟨Nat.le_of_ble_eq_true rfl, Nat.le_of_ble_eq_true rfl⟩ (by decide +kernel) ?_
  refine zs_aload_n (pc := 13) (k := 0) (i := 0) C (by decide +kernel) rfl rfl ?_
  refine zs_getR (o' := 18) (pc := 14) (i := 33) (ci := 11) (k := 5) C (by decide +kernel) fl_RX11_33 rfl rfl rfl ?_
  refine zs_iload_n (pc := 17) (k := 1) (i := 1) C (by decide +kernel) rfl rfl ?_
  refine zs_cvVv (pc := 18) (As := [sI a0]) (st := []) C (fun _ _ _ => rfl) (c_X0_begin l g a0) ml_RX11_251 rfl rfl rfl rfl (Nat.le_of_ble_eq_true rfl) ⟨Nat.le_of_ble_eq_true rfl, Nat.le_of_ble_eq_true rfl⟩ ⟨Nat.le_of_ble_eq_true rfl, Nat.le_of_ble_eq_true rfl⟩ (by decide +kernel) ?_
  refine zs_aload_n (pc := 21) (k := 0) (i := 0) C (by decide +kernel) rfl rfl ?_
  refine zs_getR (o' := 18) (pc := 22) (i := 33) (ci := 11) (k := 5) C (by decide +kernel) fl_RX11_33 rfl rfl rfl ?_
  refine zs_iload_n (pc := 25) (k := 2) (i := 2) C (by decide +kernel) rfl rfl ?_
  refine zs_cvWi (pc := 26) (As := [sI a1]) (st := []) C (fun _ _ _ => rfl) rfl (c_X0_goTo l g a1) ml_RX11_256 rfl rfl rfl rfl (Nat.le_of_ble_eq_true rfl) ⟨Nat.le_of_ble_eq_true rfl, Nat.le_of_ble_eq_true rfl⟩ ⟨Nat.le_of_ble_eq_true rfl, Nat.le_of_ble_eq_true rfl⟩ (by decide +kernel) (fun x1 => ?_)
  refine zs_jn (pJ := 44) (kJ := 2) (sJ := 12) (fun t2 => []) (fun t2 => [sI t2]) (fun t2 => ?_) (fun J3 hJ3 => ?_)
  · exact zs_retTi (pc := 44) C hr ⟨Nat.le_of_ble_eq_true rfl, Nat.le_of_ble_eq_true rfl⟩ (by decide +kernel)
  · refine zs_if_eq (pc := 29) (off := 14) (tgt := 43) C (by decide +kernel) (by decide) ?_ ?_
    · refine zs_iconst (pc := 43) (n := (-1)) (x := (-1)) C (by decide +kernel) (by decide +kernel) ?_
      exact zs_goj (hJ3 (-1)) trivial
    · refine zs_aload_n (pc := 32) (k := 0) (i := 0) C (by decide +kernel) rfl rfl ?_
      refine zs_getR (o' := 18) (pc := 33) (i := 33) (ci := 11) (k := 5) C (by decide +kernel) fl_RX11_33 rfl rfl rfl ?_
      refine zs_iload_n (pc := 36) (k := 2) (i := 2) C (by decide +kernel) rfl rfl ?_
      refine zs_cvRi (pc := 37) (As := [sI a1]) (st := []) C rfl (c_X0_widest l g a1) ml_RX11_271 rfl rfl rfl rfl (Nat.le_of_ble_eq_true rfl) ⟨Nat.le_of_ble_eq_true rfl, Nat.le_of_ble_eq_true rfl⟩ ⟨Nat.le_of_ble_eq_true rfl, Nat.le_of_ble_eq_true rfl⟩ (by decide +kernel) (fun x4 => ?_)
      refine zs_goto (pc := 40) (off := 4) (tgt := 44) C (by decide +kernel) (by decide) ?_
      exact zs_goj (hJ3 x4) trivial
set_option maxRecDepth 20000 in
theorem c_X11_needWalk (l : Launch) (g : GC) (hl : l.stackTraces = false) (a0 : Int) (a1 : Int) (a2 : Int) : ConT l g yX11_needWalk cX11_needWalk 4 none (rmd 8 3 18) [sR 0, sI a0, sI a1, sI a2] (fun mm => fX11_needWalk a0 a1 a2 mm) := by
  refine zs_ofT (by decide +kernel) (Nat.le_of_ble_eq_true rfl) ?_
  intro p e s m args below meth c C hr hE
  replace C : Bd g RX11 cX11_needWalk 4 p s m args meth c := C
  unfold fX11_needWalk
  refine zs_aload_n (pc := 0) (k := 0) (i := 0) C (by decide +kernel) rfl rfl ?_
  refine zs_iload_n (pc := 1) (k := 1) (i := 1) C (by decide +kernel) rfl rfl ?_
  refine zs_cvTv (pc := 2) (As := [sI a0]) (st := []) C hE (c_X11_needPair l g hl a0) ml_RX11_134 rfl rfl rfl rfl (Nat.le_of_ble_eq_true rfl) ⟨Nat.le_of_ble_eq_true rfl, Nat.le_of_ble_eq_true rfl⟩ ⟨Nat.le_of_ble_eq_true rfl, Nat.le_of_ble_eq_true rfl⟩ ⟨Nat.le_of_ble_eq_true rfl, Nat.le_of_ble_eq_true rfl⟩ (by decide +kernel) ?_
  refine zs_aload_n (pc := 5) (k := 0) (i := 0) C (by decide +kernel) rfl rfl ?_
  refine zs_iload_n (pc := 6) (k := 2) (i := 2) C (by decide +kernel) rfl rfl ?_
  refine zs_cvTv (pc := 7) (As := [sI a1]) (st := []) C hE (c_X11_needPlace l g hl a1) ml_RX11_120 rfl rfl rfl rfl (Nat.le_of_ble_eq_true rfl) ⟨Nat.le_of_ble_eq_true rfl, Nat.le_of_ble_eq_true rfl⟩ ⟨Nat.le_of_ble_eq_true rfl, Nat.le_of_ble_eq_true rfl⟩ ⟨Nat.le_of_ble_eq_true rfl, Nat.le_of_ble_eq_true rfl⟩ (by decide +kernel) ?_
  refine zs_aload_n (pc := 10) (k := 0) (i := 0) C (by decide +kernel) rfl rfl ?_
  refine zs_iload_n (pc := 11) (k := 3) (i := 3) C (by decide +kernel) rfl rfl ?_
  refine zs_cvTv (pc := 12) (As := [sI a2]) (st := []) C hE (c_X11_needPlace l g hl a2) ml_RX11_120 rfl rfl rfl rfl (Nat.le_of_ble_eq_true rfl) ⟨Nat.le_of_ble_eq_true rfl, Nat.le_of_ble_eq_true rfl⟩ ⟨Nat.le_of_ble_eq_true rfl, Nat.le_of_ble_eq_true rfl⟩ ⟨Nat.le_of_ble_eq_true rfl, Nat.le_of_ble_eq_true rfl⟩ (by decide +kernel) ?_
  exact zs_retTv (pc := 15) C hr ⟨Nat.le_of_ble_eq_true rfl, Nat.le_of_ble_eq_true rfl⟩ (by decide +kernel)
set_option maxRecDepth 20000 in
theorem c_X0_hoursTo (l : Launch) (g : GC) (a0 : Int) (a1 : Int) (a2 : Int) : ConW l g yX0_hoursTo cX0_hoursTo 5 (some .int) (rmd 5 0 0) [sR 18, sI a0, sI a1, sI a2] (fun mm => fX0_hoursTo a0 a1 a2 mm) := by
  refine zs_ofW (by decide +kernel) (Nat.le_of_ble_eq_true rfl) ?_
  intro p e s m args below meth c C hr
  replace C : Bd g RX0 cX0_hoursTo 5 p s m args meth c := C
  unfold fX0_hoursTo
  refine zs_aload_n (pc := 0) (k := 0) (i := 0) C (by decide +kernel) rfl rfl ?_
  refine zs_iload_n (pc := 1) (k := 3) (i := 3) C (by decide +kernel) rfl rfl ?_
  refine zs_putI (pc := 2) (i := 56) (ci := 0) (k := 13) C (fun _ _ _ => rfl) (by decide +kernel) fl_RX0_56 fw_0_13 rfl rfl ?_
  refine zs_aload_n (pc := 5) (k := 0) (i := 0) C (by decide +kernel) rfl rfl ?_
  refine zs_cvVv (pc := 6) (As := []) (st := []) C (fun _ _ _ => rfl) (c_X0_start l g ) ml_RX0_170 rfl rfl rfl rfl (Nat.le_of_ble_eq_true rfl) ⟨Nat.le_of_ble_eq_true rfl, Nat.le_of_ble_eq_true rfl⟩ ⟨Nat.le_of_ble_eq_true rfl, Nat.le_of_ble_eq_true rfl⟩ (by decide +kernel) ?_
  refine zs_iconst (pc := 9) (n := 0) (x := 0) C (by decide +kernel) (by decide +kernel) ?_
  refine zs_istore (pc := 10) (i := 4) (ls' := [(4, sI 0), (0, sR 18), (1, sI a0), (2, sI a1), (3, sI a2)]) C (by decide +kernel) (Nat.le_of_ble_eq_true rfl) rfl ?_
  refine zs_sub (ls' := [(0, sR 18), (1, sI a0), (2, sI a1), (4, sI 0)]) ⟨rfl, rfl, rfl, rfl, trivial⟩ ?_
  refine zs_lp (pc := 12) (fun (t1 : Int) => [(0, sR 18), (1, sI a0), (2, sI a1), (4, sI t1)]) (fun _ => []) (fun K2 hK2 t1 => ?_) BIG 0
  refine zs_iload (pc := 12) (i := 4) C (by decide +kernel) rfl ?_
  refine zs_bipush (pc := 14) (n := 40) (x := 40) C (by decide +kernel) (by decide +kernel) ?_
  refine zs_icmp_gt (pc := 16) (off := 67) (tgt := 83) C (by decide +kernel) (by decide) ?_ ?_
  · refine zs_iconst (pc := 83) (n := (-1)) (x := (-1)) C (by decide +kernel) (by decide +kernel) ?_
    exact zs_retWi (pc := 84) C hr ⟨Nat.le_of_ble_eq_true rfl, Nat.le_of_ble_eq_true rfl⟩ (by decide +kernel)
  · refine zs_iload (pc := 19) (i := 4) C (by decide +kernel) rfl ?_
    refine zs_jn (pJ := 55) (kJ := 0) (sJ := 0) (fun t3 => [(0, sR 18), (1, sI a0), (2, sI a1), (4, sI t1)]) (fun t3 => []) (fun t3 => ?_) (fun J4 hJ4 => ?_)
    · refine zs_aload_n (pc := 55) (k := 0) (i := 0) C (by decide +kernel) rfl rfl ?_
      refine zs_getR (o' := 82) (pc := 56) (i := 31) (ci := 0) (k := 5) C (by decide +kernel) fl_RX0_31 rfl rfl rfl ?_
      refine zs_iload (pc := 59) (i := 4) C (by decide +kernel) rfl ?_
      refine zs_bipush (pc := 61) (n := 25) (x := 25) C (by decide +kernel) (by decide +kernel) ?_
      refine zs_imul (pc := 63) C (by decide +kernel) ?_
      refine zs_iload_n (pc := 64) (k := 1) (i := 1) C (by decide +kernel) rfl rfl ?_
      refine zs_iadd (pc := 65) C (by decide +kernel) ?_
      refine zs_iald (pc := 66) (o := 82) (n := 1025) C (by decide +kernel) rfl (fun hinx5 x5 => ?_)
      refine zs_iload_n (pc := 67) (k := 2) (i := 2) C (by decide +kernel) rfl rfl ?_
      refine zs_iushr (pc := 68) C (by decide +kernel) ?_
      refine zs_iconst (pc := 69) (n := 1) (x := 1) C (by decide +kernel) (by decide +kernel) ?_
      refine zs_iand (pc := 70) C (by decide +kernel) ?_
      refine zs_if_eq (pc := 71) (off := 6) (tgt := 77) C (by decide +kernel) (by decide) ?_ ?_
      · refine zs_iinc (pc := 77) (i := 4) (n := 1) (y := w32 (t1 + 1)) (ls' := [(4, sI (w32 (t1 + 1))), (0, sR 18), (1, sI a0), (2, sI a1)]) C (by decide +kernel) rfl rfl (Nat.le_of_ble_eq_true rfl) rfl ?_
        refine zs_goto (pc := 80) (off := (-68)) (tgt := 12) C (by decide +kernel) (by decide) ?_
        exact zs_goj (hK2 (w32 (t1 + 1))) ⟨rfl, rfl, rfl, rfl, trivial⟩
      · refine zs_iload (pc := 74) (i := 4) C (by decide +kernel) rfl ?_
        exact zs_retWi (pc := 76) C hr ⟨Nat.le_of_ble_eq_true rfl, Nat.le_of_ble_eq_true rfl⟩ (by decide +kernel)
    · refine zs_if_le (pc := 21) (off := 34) (tgt := 55) C (by decide +kernel) (by decide) ?_ ?_
      · exact zs_goj (hJ4 ()) ⟨rfl, rfl, rfl, rfl, trivial⟩
      · refine zs_aload_n (pc := 24) (k := 0) (i := 0) C (by decide +kernel) rfl rfl ?_
        refine zs_aload_n (pc := 25) (k := 0) (i := 0) C (by decide +kernel) rfl rfl ?_
        refine zs_getR (o' := 82) (pc := 26) (i := 31) (ci := 0) (k := 5) C (by decide +kernel) fl_RX0_31 rfl rfl rfl ?_
        refine zs_iload (pc := 29) (i := 4) C (by decide +kernel) rfl ?_
        refine zs_iconst (pc := 31) (n := 1) (x := 1) C (by decide +kernel) (by decide +kernel) ?_
        refine zs_isub (pc := 32) C (by decide +kernel) ?_
        refine zs_bipush (pc := 33) (n := 25) (x := 25) C (by decide +kernel) (by decide +kernel) ?_
        refine zs_imul (pc := 35) C (by decide +kernel) ?_
        refine zs_aload_n (pc := 36) (k := 0) (i := 0) C (by decide +kernel) rfl rfl ?_
        refine zs_getR (o' := 82) (pc := 37) (i := 31) (ci := 0) (k := 5) C (by decide +kernel) fl_RX0_31 rfl rfl rfl ?_
        refine zs_iload (pc := 40) (i := 4) C (by decide +kernel) rfl ?_
        refine zs_bipush (pc := 42) (n := 25) (x := 25) C (by decide +kernel) (by decide +kernel) ?_
        refine zs_imul (pc := 44) C (by decide +kernel) ?_
        refine zs_iload (pc := 45) (i := 4) C (by decide +kernel) rfl ?_
        refine zs_cvWi (pc := 47) (As := [sR 82, sI (w32 ((w32 (t1 - 1)) * 25)), sR 82, sI (w32 (t1 * 25)), sI t1]) (st := []) C (fun _ _ _ => rfl) rfl (c_X0_stepOn l g 82 1025 (w32 ((w32 (t1 - 1)) * 25)) 82 1025 (w32 (t1 * 25)) t1 rfl rfl) ml_RX0_166 rfl rfl rfl rfl (Nat.le_of_ble_eq_true rfl) ⟨Nat.le_of_ble_eq_true rfl, Nat.le_of_ble_eq_true rfl⟩ ⟨Nat.le_of_ble_eq_true rfl, Nat.le_of_ble_eq_true rfl⟩ (by decide +kernel) (fun x6 => ?_)
        refine zs_if_ne (pc := 50) (off := 5) (tgt := 55) C (by decide +kernel) (by decide) ?_ ?_
        · exact zs_goj (hJ4 ()) ⟨rfl, rfl, rfl, rfl, trivial⟩
        · refine zs_iconst (pc := 53) (n := (-1)) (x := (-1)) C (by decide +kernel) (by decide +kernel) ?_
          exact zs_retWi (pc := 54) C hr ⟨Nat.le_of_ble_eq_true rfl, Nat.le_of_ble_eq_true rfl⟩ (by decide +kernel)
set_option maxRecDepth 20000 in
theorem c_X11_soonest (l : Launch) (g : GC) (hl : l.stackTraces = false) (a0 : Int) (a1 : Int) (a2 : Int) : ConT l g yX11_soonest cX11_soonest 4 (some .int) (rmd 9 3 18) [sR 0, sI a0, sI a1, sI a2] (fun mm => fX11_soonest a0 a1 a2 mm) := by
  refine zs_ofT (by decide +kernel) (Nat.le_of_ble_eq_true rfl) ?_
  intro p e s m args below meth c C hr hE
  replace C : Bd g RX11 cX11_soonest 4 p s m args meth c := C
  unfold fX11_soonest
  refine zs_aload_n (pc := 0) (k := 0) (i := 0) C (by decide +kernel) rfl rfl ?_
  refine zs_iload_n (pc := 1) (k := 1) (i := 1) C (by decide +kernel) rfl rfl ?_
  refine zs_iload_n (pc := 2) (k := 2) (i := 2) C (by decide +kernel) rfl rfl ?_
  refine zs_iload_n (pc := 3) (k := 3) (i := 3) C (by decide +kernel) rfl rfl ?_
  refine zs_cvTv (pc := 4) (As := [sI a0, sI a1, sI a2]) (st := []) C hE (c_X11_needWalk l g hl a0 a1 a2) ml_RX11_274 rfl rfl rfl rfl (Nat.le_of_ble_eq_true rfl) ⟨Nat.le_of_ble_eq_true rfl, Nat.le_of_ble_eq_true rfl⟩ ⟨Nat.le_of_ble_eq_true rfl, Nat.le_of_ble_eq_true rfl⟩ ⟨Nat.le_of_ble_eq_true rfl, Nat.le_of_ble_eq_true rfl⟩ (by decide +kernel) ?_
  refine zs_aload_n (pc := 7) (k := 0) (i := 0) C (by decide +kernel) rfl rfl ?_
  refine zs_getR (o' := 18) (pc := 8) (i := 33) (ci := 11) (k := 5) C (by decide +kernel) fl_RX11_33 rfl rfl rfl ?_
  refine zs_iload_n (pc := 11) (k := 1) (i := 1) C (by decide +kernel) rfl rfl ?_
  refine zs_cvVv (pc := 12) (As := [sI a0]) (st := []) C (fun _ _ _ => rfl) (c_X0_begin l g a0) ml_RX11_251 rfl rfl rfl rfl (Nat.le_of_ble_eq_true rfl) ⟨Nat.le_of_ble_eq_true rfl, Nat.le_of_ble_eq_true rfl⟩ ⟨Nat.le_of_ble_eq_true rfl, Nat.le_of_ble_eq_true rfl⟩ (by decide +kernel) ?_
  refine zs_aload_n (pc := 15) (k := 0) (i := 0) C (by decide +kernel) rfl rfl ?_
  refine zs_getR (o' := 18) (pc := 16) (i := 33) (ci := 11) (k := 5) C (by decide +kernel) fl_RX11_33 rfl rfl rfl ?_
  refine zs_iload_n (pc := 19) (k := 2) (i := 2) C (by decide +kernel) rfl rfl ?_
  refine zs_iload_n (pc := 20) (k := 3) (i := 3) C (by decide +kernel) rfl rfl ?_
  refine zs_aload_n (pc := 21) (k := 0) (i := 0) C (by decide +kernel) rfl rfl ?_
  refine zs_getR (o' := 19) (pc := 22) (i := 41) (ci := 11) (k := 6) C (by decide +kernel) fl_RX11_41 rfl rfl rfl ?_
  refine zs_getR (o' := 20) (pc := 25) (i := 114) (ci := 10) (k := 0) C (by decide +kernel) fl_RX11_114 rfl rfl rfl ?_
  refine zs_getI (pc := 28) (i := 277) (ci := 3) (k := 3) C (by decide +kernel) fl_RX11_277 rfl rfl (fun x1 => ?_)
  refine zs_cvWi (pc := 31) (As := [sI a1, sI a2, sI x1]) (st := []) C (fun _ _ _ => rfl) rfl (c_X0_hoursTo l g a1 a2 x1) ml_RX11_280 rfl rfl rfl rfl (Nat.le_of_ble_eq_true rfl) ⟨Nat.le_of_ble_eq_true rfl, Nat.le_of_ble_eq_true rfl⟩ ⟨Nat.le_of_ble_eq_true rfl, Nat.le_of_ble_eq_true rfl⟩ (by decide +kernel) (fun x2 => ?_)
  exact zs_retTi (pc := 34) C hr ⟨Nat.le_of_ble_eq_true rfl, Nat.le_of_ble_eq_true rfl⟩ (by decide +kernel)
set_option maxRecDepth 20000 in
theorem c_X0_traceBack (l : Launch) (g : GC) (a0 : Int) (a1 : Int) (a2 : Int) : ConV l g yX0_traceBack cX0_traceBack 10 (rmd 2 0 0) [sR 18, sI a0, sI a1, sI a2] (fun mm => fX0_traceBack a0 a1 a2 mm) := by
  refine zs_ofV (by decide +kernel) (Nat.le_of_ble_eq_true rfl) ?_
  intro p e s m args below meth c C hr
  replace C : Bd g RX0 cX0_traceBack 10 p s m args meth c := C
  unfold fX0_traceBack
  refine zs_aload_n (pc := 0) (k := 0) (i := 0) C (by decide +kernel) rfl rfl ?_
  refine zs_getR (o' := 83) (pc := 1) (i := 34) (ci := 0) (k := 6) C (by decide +kernel) fl_RX0_34 rfl rfl rfl ?_
  refine zs_iconst (pc := 4) (n := 0) (x := 0) C (by decide +kernel) (by decide +kernel) ?_
  refine zs_csVv (pc := 5) (As := [sR 83, sI 0]) (st := []) C (fun _ _ _ => rfl) (c_J7_fill_53178 l g 83 1025 0 rfl) ml_RX0_102 rfl rfl (Nat.le_of_ble_eq_true rfl) ⟨Nat.le_of_ble_eq_true rfl, Nat.le_of_ble_eq_true rfl⟩ ⟨Nat.le_of_ble_eq_true rfl, Nat.le_of_ble_eq_true rfl⟩ (by decide +kernel) ?_
  refine zs_aload_n (pc := 8) (k := 0) (i := 0) C (by decide +kernel) rfl rfl ?_
  refine zs_getR (o' := 83) (pc := 9) (i := 34) (ci := 0) (k := 6) C (by decide +kernel) fl_RX0_34 rfl rfl rfl ?_
  refine zs_iload_n (pc := 12) (k := 3) (i := 3) C (by decide +kernel) rfl rfl ?_
  refine zs_bipush (pc := 13) (n := 25) (x := 25) C (by decide +kernel) (by decide +kernel) ?_
  refine zs_imul (pc := 15) C (by decide +kernel) ?_
  refine zs_iload_n (pc := 16) (k := 1) (i := 1) C (by decide +kernel) rfl rfl ?_
  refine zs_iadd (pc := 17) C (by decide +kernel) ?_
  refine zs_iconst (pc := 18) (n := 1) (x := 1) C (by decide +kernel) (by decide +kernel) ?_
  refine zs_iload_n (pc := 19) (k := 2) (i := 2) C (by decide +kernel) rfl rfl ?_
  refine zs_ishl (pc := 20) C (by decide +kernel) ?_
  refine zs_iast (pc := 21) (o := 83) (n := 1025) C (fun _ _ _ => rfl) (by decide +kernel) rfl ?_
  refine zs_iload_n (pc := 22) (k := 3) (i := 3) C (by decide +kernel) rfl rfl ?_
  refine zs_istore (pc := 23) (i := 4) (ls' := [(4, sI a2), (0, sR 18), (1, sI a0), (2, sI a1), (3, sI a2)]) C (by decide +kernel) (Nat.le_of_ble_eq_true rfl) rfl ?_
  refine zs_sub (ls' := [(0, sR 18), (4, sI a2)]) ⟨rfl, rfl, trivial⟩ ?_
  refine zs_lp (pc := 25) (fun (t1 : Int) => [(0, sR 18), (4, sI t1)]) (fun _ => []) (fun K2 hK2 t1 => ?_) BIG a2
  refine zs_iload (pc := 25) (i := 4) C (by decide +kernel) rfl ?_
  refine zs_iconst (pc := 27) (n := 1) (x := 1) C (by decide +kernel) (by decide +kernel) ?_
  refine zs_icmp_lt (pc := 28) (off := 218) (tgt := 246) C (by decide +kernel) (by decide) ?_ ?_
  · exact zs_retVv (pc := 246) C hr ⟨Nat.le_of_ble_eq_true rfl, Nat.le_of_ble_eq_true rfl⟩ (by decide +kernel)
  · refine zs_iload (pc := 31) (i := 4) C (by decide +kernel) rfl ?_
    refine zs_bipush (pc := 33) (n := 25) (x := 25) C (by decide +kernel) (by decide +kernel) ?_
    refine zs_imul (pc := 35) C (by decide +kernel) ?_
    refine zs_let (fun x3 => ?_)
    refine zs_istore (pc := 36) (i := 5) (ls' := [(5, sI x3), (0, sR 18), (4, sI t1)]) C (by decide +kernel) (Nat.le_of_ble_eq_true rfl) rfl ?_
    refine zs_aload_n (pc := 38) (k := 0) (i := 0) C (by decide +kernel) rfl rfl ?_
    refine zs_getR (o' := 79) (pc := 39) (i := 22) (ci := 0) (k := 2) C (by decide +kernel) fl_RX0_22 rfl rfl rfl ?_
    refine zs_iload (pc := 42) (i := 4) C (by decide +kernel) rfl ?_
    refine zs_iald (pc := 44) (o := 79) (n := 41) C (by decide +kernel) rfl (fun hinx4 x4 => ?_)
    refine zs_aload_n (pc := 45) (k := 0) (i := 0) C (by decide +kernel) rfl rfl ?_
    refine zs_getI (pc := 46) (i := 56) (ci := 0) (k := 13) C (by decide +kernel) fl_RX0_56 rfl rfl (fun x5 => ?_)
    refine zs_iconst (pc := 49) (n := (-1)) (x := (-1)) C (by decide +kernel) (by decide +kernel) ?_
    refine zs_ixor (pc := 50) C (by decide +kernel) ?_
    refine zs_iand (pc := 51) C (by decide +kernel) ?_
    refine zs_let (fun x6 => ?_)
    refine zs_istore (pc := 52) (i := 6) (ls' := [(6, sI x6), (5, sI x3), (0, sR 18), (4, sI t1)]) C (by decide +kernel) (Nat.le_of_ble_eq_true rfl) rfl ?_
    refine zs_aload_n (pc := 54) (k := 0) (i := 0) C (by decide +kernel) rfl rfl ?_
    refine zs_getR (o' := 78) (pc := 55) (i := 18) (ci := 0) (k := 1) C (by decide +kernel) fl_RX0_18 rfl rfl rfl ?_
    refine zs_iload (pc := 58) (i := 4) C (by decide +kernel) rfl ?_
    refine zs_iald (pc := 60) (o := 78) (n := 41) C (by decide +kernel) rfl (fun hinx7 x7 => ?_)
    refine zs_aload_n (pc := 61) (k := 0) (i := 0) C (by decide +kernel) rfl rfl ?_
    refine zs_getI (pc := 62) (i := 56) (ci := 0) (k := 13) C (by decide +kernel) fl_RX0_56 rfl rfl (fun x8 => ?_)
    refine zs_iconst (pc := 65) (n := (-1)) (x := (-1)) C (by decide +kernel) (by decide +kernel) ?_
    refine zs_ixor (pc := 66) C (by decide +kernel) ?_
    refine zs_iand (pc := 67) C (by decide +kernel) ?_
    refine zs_let (fun x9 => ?_)
    refine zs_istore (pc := 68) (i := 7) (ls' := [(7, sI x9), (6, sI x6), (5, sI x3), (0, sR 18), (4, sI t1)]) C (by decide +kernel) (Nat.le_of_ble_eq_true rfl) rfl ?_
    refine zs_aload_n (pc := 70) (k := 0) (i := 0) C (by decide +kernel) rfl rfl ?_
    refine zs_getR (o' := 84) (pc := 71) (i := 37) (ci := 0) (k := 7) C (by decide +kernel) fl_RX0_37 rfl rfl rfl ?_
    refine zs_iconst (pc := 74) (n := 0) (x := 0) C (by decide +kernel) (by decide +kernel) ?_
    refine zs_csVv (pc := 75) (As := [sR 84, sI 0]) (st := []) C (fun _ _ _ => rfl) (c_J7_fill_53178 l g 84 25 0 rfl) ml_RX0_102 rfl rfl (Nat.le_of_ble_eq_true rfl) ⟨Nat.le_of_ble_eq_true rfl, Nat.le_of_ble_eq_true rfl⟩ ⟨Nat.le_of_ble_eq_true rfl, Nat.le_of_ble_eq_true rfl⟩ (by decide +kernel) ?_
    refine zs_iconst (pc := 78) (n := 0) (x := 0) C (by decide +kernel) (by decide +kernel) ?_
    refine zs_istore (pc := 79) (i := 8) (ls' := [(8, sI 0), (7, sI x9), (6, sI x6), (5, sI x3), (0, sR 18), (4, sI t1)]) C (by decide +kernel) (Nat.le_of_ble_eq_true rfl) rfl ?_
    refine zs_sub (ls' := [(0, sR 18), (4, sI t1), (5, sI x3), (6, sI x6), (7, sI x9), (8, sI 0)]) ⟨rfl, rfl, rfl, rfl, rfl, rfl, trivial⟩ ?_
    refine zs_lp (pc := 81) (fun (t10 : Int) => [(0, sR 18), (4, sI t1), (5, sI x3), (6, sI x6), (7, sI x9), (8, sI t10)]) (fun _ => []) (fun K11 hK11 t10 => ?_) BIG 0
    refine zs_iload (pc := 81) (i := 8) C (by decide +kernel) rfl ?_
    refine zs_aload_n (pc := 83) (k := 0) (i := 0) C (by decide +kernel) rfl rfl ?_
    refine zs_getI (pc := 84) (i := 43) (ci := 0) (k := 9) C (by decide +kernel) fl_RX0_43 rfl rfl (fun x12 => ?_)
    refine zs_icmp_ge (pc := 87) (off := 84) (tgt := 171) C (by decide +kernel) (by decide) ?_ ?_
    · refine zs_iconst (pc := 171) (n := 0) (x := 0) C (by decide +kernel) (by decide +kernel) ?_
      refine zs_istore (pc := 172) (i := 8) (ls' := [(8, sI 0), (0, sR 18), (4, sI t1), (5, sI x3), (6, sI x6), (7, sI x9)]) C (by decide +kernel) (Nat.le_of_ble_eq_true rfl) rfl ?_
      refine zs_sub (ls' := [(0, sR 18), (4, sI t1), (5, sI x3), (8, sI 0)]) ⟨rfl, rfl, rfl, rfl, trivial⟩ ?_
      refine zs_lp (pc := 174) (fun (t13 : Int) => [(0, sR 18), (4, sI t1), (5, sI x3), (8, sI t13)]) (fun _ => []) (fun K14 hK14 t13 => ?_) BIG 0
      refine zs_iload (pc := 174) (i := 8) C (by decide +kernel) rfl ?_
      refine zs_aload_n (pc := 176) (k := 0) (i := 0) C (by decide +kernel) rfl rfl ?_
      refine zs_getI (pc := 177) (i := 43) (ci := 0) (k := 9) C (by decide +kernel) fl_RX0_43 rfl rfl (fun x15 => ?_)
      refine zs_icmp_ge (pc := 180) (off := 60) (tgt := 240) C (by decide +kernel) (by decide) ?_ ?_
      · refine zs_iinc (pc := 240) (i := 4) (n := (-1)) (y := w32 (t1 + (-1))) (ls' := [(4, sI (w32 (t1 + (-1)))), (0, sR 18), (5, sI x3), (8, sI t13)]) C (by decide +kernel) rfl rfl (Nat.le_of_ble_eq_true rfl) rfl ?_
        refine zs_goto (pc := 243) (off := (-218)) (tgt := 25) C (by decide +kernel) (by decide) ?_
        exact zs_goj (hK2 (w32 (t1 + (-1)))) ⟨rfl, rfl, trivial⟩
      · refine zs_aload_n (pc := 183) (k := 0) (i := 0) C (by decide +kernel) rfl rfl ?_
        refine zs_getR (o' := 83) (pc := 184) (i := 34) (ci := 0) (k := 6) C (by decide +kernel) fl_RX0_34 rfl rfl rfl ?_
        refine zs_iload (pc := 187) (i := 5) C (by decide +kernel) rfl ?_
        refine zs_bipush (pc := 189) (n := 25) (x := 25) C (by decide +kernel) (by decide +kernel) ?_
        refine zs_isub (pc := 191) C (by decide +kernel) ?_
        refine zs_iload (pc := 192) (i := 8) C (by decide +kernel) rfl ?_
        refine zs_iadd (pc := 194) C (by decide +kernel) ?_
        refine zs_iald (pc := 195) (o := 83) (n := 1025) C (by decide +kernel) rfl (fun hinx16 x16 => ?_)
        refine zs_aload_n (pc := 196) (k := 0) (i := 0) C (by decide +kernel) rfl rfl ?_
        refine zs_iload (pc := 197) (i := 8) C (by decide +kernel) rfl ?_
        refine zs_cvRi (pc := 199) (As := [sI t13]) (st := [sI x16]) C rfl (c_X0_spreadAround l g t13) ml_RX0_163 rfl rfl rfl rfl (Nat.le_of_ble_eq_true rfl) ⟨Nat.le_of_ble_eq_true rfl, Nat.le_of_ble_eq_true rfl⟩ ⟨Nat.le_of_ble_eq_true rfl, Nat.le_of_ble_eq_true rfl⟩ (by decide +kernel) (fun x17 => ?_)
        refine zs_ior (pc := 202) C (by decide +kernel) ?_
        refine zs_let (fun x18 => ?_)
        refine zs_istore (pc := 203) (i := 9) (ls' := [(9, sI x18), (0, sR 18), (4, sI t1), (5, sI x3), (8, sI t13)]) C (by decide +kernel) (Nat.le_of_ble_eq_true rfl) rfl ?_
        refine zs_aload_n (pc := 205) (k := 0) (i := 0) C (by decide +kernel) rfl rfl ?_
        refine zs_getR (o' := 83) (pc := 206) (i := 34) (ci := 0) (k := 6) C (by decide +kernel) fl_RX0_34 rfl rfl rfl ?_
        refine zs_iload (pc := 209) (i := 5) C (by decide +kernel) rfl ?_
        refine zs_bipush (pc := 211) (n := 25) (x := 25) C (by decide +kernel) (by decide +kernel) ?_
        refine zs_isub (pc := 213) C (by decide +kernel) ?_
        refine zs_iload (pc := 214) (i := 8) C (by decide +kernel) rfl ?_
        refine zs_iadd (pc := 216) C (by decide +kernel) ?_
        refine zs_iload (pc := 217) (i := 9) C (by decide +kernel) rfl ?_
        refine zs_aload_n (pc := 219) (k := 0) (i := 0) C (by decide +kernel) rfl rfl ?_
        refine zs_getR (o' := 82) (pc := 220) (i := 31) (ci := 0) (k := 5) C (by decide +kernel) fl_RX0_31 rfl rfl rfl ?_
        refine zs_iload (pc := 223) (i := 5) C (by decide +kernel) rfl ?_
        refine zs_bipush (pc := 225) (n := 25) (x := 25) C (by decide +kernel) (by decide +kernel) ?_
        refine zs_isub (pc := 227) C (by decide +kernel) ?_
        refine zs_iload (pc := 228) (i := 8) C (by decide +kernel) rfl ?_
        refine zs_iadd (pc := 230) C (by decide +kernel) ?_
        refine zs_iald (pc := 231) (o := 82) (n := 1025) C (by decide +kernel) rfl (fun hinx19 x19 => ?_)
        refine zs_iand (pc := 232) C (by decide +kernel) ?_
        refine zs_iast (pc := 233) (o := 83) (n := 1025) C (fun _ _ _ => rfl) (by decide +kernel) rfl ?_
        refine zs_iinc (pc := 234) (i := 8) (n := 1) (y := w32 (t13 + 1)) (ls' := [(8, sI (w32 (t13 + 1))), (9, sI x18), (0, sR 18), (4, sI t1), (5, sI x3)]) C (by decide +kernel) rfl rfl (Nat.le_of_ble_eq_true rfl) rfl ?_
        refine zs_goto (pc := 237) (off := (-63)) (tgt := 174) C (by decide +kernel) (by decide) ?_
        exact zs_goj (hK14 (w32 (t13 + 1))) ⟨rfl, rfl, rfl, rfl, trivial⟩
    · refine zs_aload_n (pc := 90) (k := 0) (i := 0) C (by decide +kernel) rfl rfl ?_
      refine zs_getR (o' := 83) (pc := 91) (i := 34) (ci := 0) (k := 6) C (by decide +kernel) fl_RX0_34 rfl rfl rfl ?_
      refine zs_iload (pc := 94) (i := 5) C (by decide +kernel) rfl ?_
      refine zs_bipush (pc := 96) (n := 25) (x := 25) C (by decide +kernel) (by decide +kernel) ?_
      refine zs_isub (pc := 98) C (by decide +kernel) ?_
      refine zs_iload (pc := 99) (i := 8) C (by decide +kernel) rfl ?_
      refine zs_iadd (pc := 101) C (by decide +kernel) ?_
      refine zs_aload_n (pc := 102) (k := 0) (i := 0) C (by decide +kernel) rfl rfl ?_
      refine zs_getR (o' := 83) (pc := 103) (i := 34) (ci := 0) (k := 6) C (by decide +kernel) fl_RX0_34 rfl rfl rfl ?_
      refine zs_iload (pc := 106) (i := 5) C (by decide +kernel) rfl ?_
      refine zs_iload (pc := 108) (i := 8) C (by decide +kernel) rfl ?_
      refine zs_iadd (pc := 110) C (by decide +kernel) ?_
      refine zs_iald (pc := 111) (o := 83) (n := 1025) C (by decide +kernel) rfl (fun hinx20 x20 => ?_)
      refine zs_aload_n (pc := 112) (k := 0) (i := 0) C (by decide +kernel) rfl rfl ?_
      refine zs_aload_n (pc := 113) (k := 0) (i := 0) C (by decide +kernel) rfl rfl ?_
      refine zs_getR (o' := 83) (pc := 114) (i := 34) (ci := 0) (k := 6) C (by decide +kernel) fl_RX0_34 rfl rfl rfl ?_
      refine zs_iload (pc := 117) (i := 5) C (by decide +kernel) rfl ?_
      refine zs_iload (pc := 119) (i := 8) C (by decide +kernel) rfl ?_
      refine zs_iadd (pc := 121) C (by decide +kernel) ?_
      refine zs_iald (pc := 122) (o := 83) (n := 1025) C (by decide +kernel) rfl (fun hinx21 x21 => ?_)
      refine zs_iload (pc := 123) (i := 6) C (by decide +kernel) rfl ?_
      refine zs_iand (pc := 125) C (by decide +kernel) ?_
      refine zs_cvRi (pc := 126) (As := [sI (iand x21 x6)]) (st := [sI x20, sI (w32 ((w32 (x3 - 25)) + t10)), sR 83]) C rfl (c_X0_around l g (iand x21 x6)) ml_RX0_160 rfl rfl rfl rfl (Nat.le_of_ble_eq_true rfl) ⟨Nat.le_of_ble_eq_true rfl, Nat.le_of_ble_eq_true rfl⟩ ⟨Nat.le_of_ble_eq_true rfl, Nat.le_of_ble_eq_true rfl⟩ (by decide +kernel) (fun x22 => ?_)
      refine zs_ior (pc := 129) C (by decide +kernel) ?_
      refine zs_iast (pc := 130) (o := 83) (n := 1025) C (fun _ _ _ => rfl) (by decide +kernel) rfl ?_
      refine zs_aload_n (pc := 131) (k := 0) (i := 0) C (by decide +kernel) rfl rfl ?_
      refine zs_getR (o' := 84) (pc := 132) (i := 37) (ci := 0) (k := 7) C (by decide +kernel) fl_RX0_37 rfl rfl rfl ?_
      refine zs_iload (pc := 135) (i := 8) C (by decide +kernel) rfl ?_
      refine zs_iload (pc := 137) (i := 7) C (by decide +kernel) rfl ?_
      refine zs_iload (pc := 139) (i := 8) C (by decide +kernel) rfl ?_
      refine zs_iushr (pc := 141) C (by decide +kernel) ?_
      refine zs_iconst (pc := 142) (n := 1) (x := 1) C (by decide +kernel) (by decide +kernel) ?_
      refine zs_iand (pc := 143) C (by decide +kernel) ?_
      refine zs_jn (pJ := 164) (kJ := 0) (sJ := 0) (fun t23 => [(0, sR 18), (4, sI t1), (5, sI x3), (6, sI x6), (7, sI x9), (8, sI t10)]) (fun t23 => [sI t23, sI t10, sR 84]) (fun t23 => ?_) (fun J24 hJ24 => ?_)
      · refine zs_iast (pc := 164) (o := 84) (n := 25) C (fun _ _ _ => rfl) (by decide +kernel) rfl ?_
        refine zs_iinc (pc := 165) (i := 8) (n := 1) (y := w32 (t10 + 1)) (ls' := [(8, sI (w32 (t10 + 1))), (0, sR 18), (4, sI t1), (5, sI x3), (6, sI x6), (7, sI x9)]) C (by decide +kernel) rfl rfl (Nat.le_of_ble_eq_true rfl) rfl ?_
        refine zs_goto (pc := 168) (off := (-87)) (tgt := 81) C (by decide +kernel) (by decide) ?_
        exact zs_goj (hK11 (w32 (t10 + 1))) ⟨rfl, rfl, rfl, rfl, rfl, rfl, trivial⟩
      · refine zs_if_eq (pc := 144) (off := 19) (tgt := 163) C (by decide +kernel) (by decide) ?_ ?_
        · refine zs_iconst (pc := 163) (n := 0) (x := 0) C (by decide +kernel) (by decide +kernel) ?_
          exact zs_goj (hJ24 0) ⟨rfl, rfl, rfl, rfl, rfl, rfl, trivial⟩
        · refine zs_aload_n (pc := 147) (k := 0) (i := 0) C (by decide +kernel) rfl rfl ?_
          refine zs_getR (o' := 83) (pc := 148) (i := 34) (ci := 0) (k := 6) C (by decide +kernel) fl_RX0_34 rfl rfl rfl ?_
          refine zs_iload (pc := 151) (i := 5) C (by decide +kernel) rfl ?_
          refine zs_bipush (pc := 153) (n := 25) (x := 25) C (by decide +kernel) (by decide +kernel) ?_
          refine zs_isub (pc := 155) C (by decide +kernel) ?_
          refine zs_iload (pc := 156) (i := 8) C (by decide +kernel) rfl ?_
          refine zs_iadd (pc := 158) C (by decide +kernel) ?_
          refine zs_iald (pc := 159) (o := 83) (n := 1025) C (by decide +kernel) rfl (fun hinx25 x25 => ?_)
          refine zs_goto (pc := 160) (off := 4) (tgt := 164) C (by decide +kernel) (by decide) ?_
          exact zs_goj (hJ24 x25) ⟨rfl, rfl, rfl, rfl, rfl, rfl, trivial⟩
set_option maxRecDepth 20000 in
theorem c_X0_landing (l : Launch) (g : GC) (a0 : Int) (a1 : Int) (a2 : Int) (a3 : Int) : ConR l g yX0_landing cX0_landing 7 (some .int) (rmd 3 0 0) [sR 18, sI a0, sI a1, sI a2, sI a3] (fun mm => fX0_landing a0 a1 a2 a3 mm) := by
  refine zs_ofR (by decide +kernel) (Nat.le_of_ble_eq_true rfl) ?_
  intro p e s m args below meth c C hr
  replace C : Bd g RX0 cX0_landing 7 p s m args meth c := C
  unfold fX0_landing
  refine zs_aload_n (pc := 0) (k := 0) (i := 0) C (by decide +kernel) rfl rfl ?_
  refine zs_getR (o' := 19) (pc := 1) (i := 12) (ci := 0) (k := 0) C (by decide +kernel) fl_RX0_12 rfl rfl rfl ?_
  refine zs_getR (o' := 20) (pc := 4) (i := 72) (ci := 10) (k := 0) C (by decide +kernel) fl_RX0_72 rfl rfl rfl ?_
  refine zs_iload_n (pc := 7) (k := 2) (i := 2) C (by decide +kernel) rfl rfl ?_
  refine zs_iload_n (pc := 8) (k := 3) (i := 3) C (by decide +kernel) rfl rfl ?_
  refine zs_cvRi (pc := 9) (As := [sI a1, sI a2]) (st := []) C rfl (c_X3_beside l g a1 a2) ml_RX0_108 rfl rfl rfl rfl (Nat.le_of_ble_eq_true rfl) ⟨Nat.le_of_ble_eq_true rfl, Nat.le_of_ble_eq_true rfl⟩ ⟨Nat.le_of_ble_eq_true rfl, Nat.le_of_ble_eq_true rfl⟩ (by decide +kernel) (fun x1 => ?_)
  refine zs_istore (pc := 12) (i := 5) (ls' := [(5, sI x1), (0, sR 18), (1, sI a0), (2, sI a1), (3, sI a2), (4, sI a3)]) C (by decide +kernel) (Nat.le_of_ble_eq_true rfl) rfl ?_
  refine zs_iload_n (pc := 14) (k := 3) (i := 3) C (by decide +kernel) rfl rfl ?_
  refine zs_jn (pJ := 24) (kJ := 0) (sJ := 0) (fun t2 => [(5, sI x1)]) (fun t2 => []) (fun t2 => ?_) (fun J3 hJ3 => ?_)
  · refine zs_iload (pc := 24) (i := 5) C (by decide +kernel) rfl ?_
    exact zs_retRi (pc := 26) C hr ⟨Nat.le_of_ble_eq_true rfl, Nat.le_of_ble_eq_true rfl⟩ (by decide +kernel)
  · refine zs_if_eq (pc := 15) (off := 9) (tgt := 24) C (by decide +kernel) (by decide) ?_ ?_
    · exact zs_goj (hJ3 ()) ⟨rfl, trivial⟩
    · refine zs_iload (pc := 18) (i := 5) C (by decide +kernel) rfl ?_
      refine zs_iconst (pc := 20) (n := (-1)) (x := (-1)) C (by decide +kernel) (by decide +kernel) ?_
      refine zs_icmp_ne (pc := 21) (off := 6) (tgt := 27) C (by decide +kernel) (by decide) ?_ ?_
      · refine zs_iload_n (pc := 27) (k := 1) (i := 1) C (by decide +kernel) rfl rfl ?_
        refine zs_jn (pJ := 48) (kJ := 0) (sJ := 0) (fun t4 => [(0, sR 18), (5, sI x1)]) (fun t4 => [sI t4]) (fun t4 => ?_) (fun J5 hJ5 => ?_)
        · refine zs_aload_n (pc := 48) (k := 0) (i := 0) C (by decide +kernel) rfl rfl ?_
          refine zs_getI (pc := 49) (i := 56) (ci := 0) (k := 13) C (by decide +kernel) fl_RX0_56 rfl rfl (fun x6 => ?_)
          refine zs_iconst (pc := 52) (n := (-1)) (x := (-1)) C (by decide +kernel) (by decide +kernel) ?_
          refine zs_ixor (pc := 53) C (by decide +kernel) ?_
          refine zs_iand (pc := 54) C (by decide +kernel) ?_
          refine zs_let (fun x7 => ?_)
          refine zs_istore (pc := 55) (i := 6) (ls' := [(6, sI x7), (0, sR 18), (5, sI x1)]) C (by decide +kernel) (Nat.le_of_ble_eq_true rfl) rfl ?_
          refine zs_iload (pc := 57) (i := 6) C (by decide +kernel) rfl ?_
          refine zs_iload (pc := 59) (i := 5) C (by decide +kernel) rfl ?_
          refine zs_iushr (pc := 61) C (by decide +kernel) ?_
          refine zs_iconst (pc := 62) (n := 1) (x := 1) C (by decide +kernel) (by decide +kernel) ?_
          refine zs_iand (pc := 63) C (by decide +kernel) ?_
          refine zs_jn (pJ := 73) (kJ := 0) (sJ := 0) (fun t8 => []) (fun t8 => [sI t8]) (fun t8 => ?_) (fun J9 hJ9 => ?_)
          · exact zs_retRi (pc := 73) C hr ⟨Nat.le_of_ble_eq_true rfl, Nat.le_of_ble_eq_true rfl⟩ (by decide +kernel)
          · refine zs_if_eq (pc := 64) (off := 8) (tgt := 72) C (by decide +kernel) (by decide) ?_ ?_
            · refine zs_iconst (pc := 72) (n := (-1)) (x := (-1)) C (by decide +kernel) (by decide +kernel) ?_
              exact zs_goj (hJ9 (-1)) trivial
            · refine zs_iload (pc := 67) (i := 5) C (by decide +kernel) rfl ?_
              refine zs_goto (pc := 69) (off := 4) (tgt := 73) C (by decide +kernel) (by decide) ?_
              exact zs_goj (hJ9 x1) trivial
        · refine zs_if_ne (pc := 28) (off := 13) (tgt := 41) C (by decide +kernel) (by decide) ?_ ?_
          · refine zs_aload_n (pc := 41) (k := 0) (i := 0) C (by decide +kernel) rfl rfl ?_
            refine zs_getR (o' := 79) (pc := 42) (i := 22) (ci := 0) (k := 2) C (by decide +kernel) fl_RX0_22 rfl rfl rfl ?_
            refine zs_iload (pc := 45) (i := 4) C (by decide +kernel) rfl ?_
            refine zs_iald (pc := 47) (o := 79) (n := 41) C (by decide +kernel) rfl (fun hinx10 x10 => ?_)
            exact zs_goj (hJ5 x10) ⟨rfl, rfl, trivial⟩
          · refine zs_aload_n (pc := 31) (k := 0) (i := 0) C (by decide +kernel) rfl rfl ?_
            refine zs_getR (o' := 78) (pc := 32) (i := 18) (ci := 0) (k := 1) C (by decide +kernel) fl_RX0_18 rfl rfl rfl ?_
            refine zs_iload (pc := 35) (i := 4) C (by decide +kernel) rfl ?_
            refine zs_iald (pc := 37) (o := 78) (n := 41) C (by decide +kernel) rfl (fun hinx11 x11 => ?_)
            refine zs_goto (pc := 38) (off := 10) (tgt := 48) C (by decide +kernel) (by decide) ?_
            exact zs_goj (hJ5 x11) ⟨rfl, rfl, trivial⟩
      · exact zs_goj (hJ3 ()) ⟨rfl, trivial⟩
set_option maxRecDepth 20000 in
theorem c_X0_bestTurns (l : Launch) (g : GC) (a0 : Int) (a1 : Int) (a2 : Int) : ConR l g yX0_bestTurns cX0_bestTurns 9 (some .int) (rmd 4 0 0) [sR 18, sI a0, sI a1, sI a2] (fun mm => fX0_bestTurns a0 a1 a2 mm) := by
  refine zs_ofR (by decide +kernel) (Nat.le_of_ble_eq_true rfl) ?_
  intro p e s m args below meth c C hr
  replace C : Bd g RX0 cX0_bestTurns 9 p s m args meth c := C
  unfold fX0_bestTurns
  refine zs_iconst (pc := 0) (n := 0) (x := 0) C (by decide +kernel) (by decide +kernel) ?_
  refine zs_istore (pc := 1) (i := 4) (ls' := [(4, sI 0), (0, sR 18), (1, sI a0), (2, sI a1), (3, sI a2)]) C (by decide +kernel) (Nat.le_of_ble_eq_true rfl) rfl ?_
  refine zs_sub (ls' := [(0, sR 18), (1, sI a0), (2, sI a1), (3, sI a2), (4, sI 0)]) ⟨rfl, rfl, rfl, rfl, rfl, trivial⟩ ?_
  refine zs_lp (pc := 3) (fun (t1 : Int) => [(0, sR 18), (1, sI a0), (2, sI a1), (3, sI a2), (4, sI t1)]) (fun _ => []) (fun K2 hK2 t1 => ?_) BIG 0
  refine zs_iload (pc := 3) (i := 4) C (by decide +kernel) rfl ?_
  refine zs_iconst (pc := 5) (n := 5) (x := 5) C (by decide +kernel) (by decide +kernel) ?_
  refine zs_icmp_ge (pc := 6) (off := 100) (tgt := 106) C (by decide +kernel) (by decide) ?_ ?_
  · refine zs_iconst (pc := 106) (n := 0) (x := 0) C (by decide +kernel) (by decide +kernel) ?_
    exact zs_retRi (pc := 107) C hr ⟨Nat.le_of_ble_eq_true rfl, Nat.le_of_ble_eq_true rfl⟩ (by decide +kernel)
  · refine zs_aload_n (pc := 9) (k := 0) (i := 0) C (by decide +kernel) rfl rfl ?_
    refine zs_iconst (pc := 10) (n := 0) (x := 0) C (by decide +kernel) (by decide +kernel) ?_
    refine zs_iload_n (pc := 11) (k := 1) (i := 1) C (by decide +kernel) rfl rfl ?_
    refine zs_iload (pc := 12) (i := 4) C (by decide +kernel) rfl ?_
    refine zs_iload_n (pc := 14) (k := 3) (i := 3) C (by decide +kernel) rfl rfl ?_
    refine zs_cvRi (pc := 15) (As := [sI 0, sI a0, sI t1, sI a2]) (st := []) C rfl (c_X0_landing l g 0 a0 t1 a2) ml_RX0_192 rfl rfl rfl rfl (Nat.le_of_ble_eq_true rfl) ⟨Nat.le_of_ble_eq_true rfl, Nat.le_of_ble_eq_true rfl⟩ ⟨Nat.le_of_ble_eq_true rfl, Nat.le_of_ble_eq_true rfl⟩ (by decide +kernel) (fun x3 => ?_)
    refine zs_istore (pc := 18) (i := 5) (ls' := [(5, sI x3), (0, sR 18), (1, sI a0), (2, sI a1), (3, sI a2), (4, sI t1)]) C (by decide +kernel) (Nat.le_of_ble_eq_true rfl) rfl ?_
    refine zs_iload (pc := 20) (i := 5) C (by decide +kernel) rfl ?_
    refine zs_iconst (pc := 22) (n := (-1)) (x := (-1)) C (by decide +kernel) (by decide +kernel) ?_
    refine zs_jn (pJ := 42) (kJ := 0) (sJ := 0) (fun t4 => [(0, sR 18), (1, sI a0), (2, sI a1), (3, sI a2), (4, sI t1)]) (fun t4 => [sI t4]) (fun t4 => ?_) (fun J5 hJ5 => ?_)
    · refine zs_istore (pc := 42) (i := 6) (ls' := [(6, sI t4), (0, sR 18), (1, sI a0), (2, sI a1), (3, sI a2), (4, sI t1)]) C (by decide +kernel) (Nat.le_of_ble_eq_true rfl) rfl ?_
      refine zs_iconst (pc := 44) (n := 0) (x := 0) C (by decide +kernel) (by decide +kernel) ?_
      refine zs_istore (pc := 45) (i := 7) (ls' := [(7, sI 0), (6, sI t4), (0, sR 18), (1, sI a0), (2, sI a1), (3, sI a2), (4, sI t1)]) C (by decide +kernel) (Nat.le_of_ble_eq_true rfl) rfl ?_
      refine zs_sub (ls' := [(0, sR 18), (1, sI a0), (2, sI a1), (3, sI a2), (4, sI t1), (6, sI t4), (7, sI 0)]) ⟨rfl, rfl, rfl, rfl, rfl, rfl, rfl, trivial⟩ ?_
      refine zs_lp (pc := 47) (fun (t6 : Int) => [(0, sR 18), (1, sI a0), (2, sI a1), (3, sI a2), (4, sI t1), (6, sI t4), (7, sI t6)]) (fun _ => []) (fun K7 hK7 t6 => ?_) BIG 0
      refine zs_iload (pc := 47) (i := 7) C (by decide +kernel) rfl ?_
      refine zs_iconst (pc := 49) (n := 5) (x := 5) C (by decide +kernel) (by decide +kernel) ?_
      refine zs_jn (pJ := 100) (kJ := 0) (sJ := 0) (fun t8 => [(0, sR 18), (1, sI a0), (2, sI a1), (3, sI a2), (4, sI t1)]) (fun t8 => []) (fun t8 => ?_) (fun J9 hJ9 => ?_)
      · refine zs_iinc (pc := 100) (i := 4) (n := 1) (y := w32 (t1 + 1)) (ls' := [(4, sI (w32 (t1 + 1))), (0, sR 18), (1, sI a0), (2, sI a1), (3, sI a2)]) C (by decide +kernel) rfl rfl (Nat.le_of_ble_eq_true rfl) rfl ?_
        refine zs_goto (pc := 103) (off := (-100)) (tgt := 3) C (by decide +kernel) (by decide) ?_
        exact zs_goj (hK2 (w32 (t1 + 1))) ⟨rfl, rfl, rfl, rfl, rfl, trivial⟩
      · refine zs_icmp_ge (pc := 50) (off := 50) (tgt := 100) C (by decide +kernel) (by decide) ?_ ?_
        · exact zs_goj (hJ9 ()) ⟨rfl, rfl, rfl, rfl, rfl, trivial⟩
        · refine zs_iload (pc := 53) (i := 6) C (by decide +kernel) rfl ?_
          refine zs_if_eq (pc := 55) (off := 45) (tgt := 100) C (by decide +kernel) (by decide) ?_ ?_
          · exact zs_goj (hJ9 ()) ⟨rfl, rfl, rfl, rfl, rfl, trivial⟩
          · refine zs_aload_n (pc := 58) (k := 0) (i := 0) C (by decide +kernel) rfl rfl ?_
            refine zs_iconst (pc := 59) (n := 1) (x := 1) C (by decide +kernel) (by decide +kernel) ?_
            refine zs_iload_n (pc := 60) (k := 2) (i := 2) C (by decide +kernel) rfl rfl ?_
            refine zs_iload (pc := 61) (i := 7) C (by decide +kernel) rfl ?_
            refine zs_iload_n (pc := 63) (k := 3) (i := 3) C (by decide +kernel) rfl rfl ?_
            refine zs_cvRi (pc := 64) (As := [sI 1, sI a1, sI t6, sI a2]) (st := []) C rfl (c_X0_landing l g 1 a1 t6 a2) ml_RX0_192 rfl rfl rfl rfl (Nat.le_of_ble_eq_true rfl) ⟨Nat.le_of_ble_eq_true rfl, Nat.le_of_ble_eq_true rfl⟩ ⟨Nat.le_of_ble_eq_true rfl, Nat.le_of_ble_eq_true rfl⟩ (by decide +kernel) (fun x10 => ?_)
            refine zs_istore (pc := 67) (i := 8) (ls' := [(8, sI x10), (0, sR 18), (1, sI a0), (2, sI a1), (3, sI a2), (4, sI t1), (6, sI t4), (7, sI t6)]) C (by decide +kernel) (Nat.le_of_ble_eq_true rfl) rfl ?_
            refine zs_iload (pc := 69) (i := 8) C (by decide +kernel) rfl ?_
            refine zs_iconst (pc := 71) (n := (-1)) (x := (-1)) C (by decide +kernel) (by decide +kernel) ?_
            refine zs_jn (pJ := 94) (kJ := 0) (sJ := 0) (fun t11 => [(0, sR 18), (1, sI a0), (2, sI a1), (3, sI a2), (4, sI t1), (6, sI t4), (7, sI t6)]) (fun t11 => []) (fun t11 => ?_) (fun J12 hJ12 => ?_)
            · refine zs_iinc (pc := 94) (i := 7) (n := 1) (y := w32 (t6 + 1)) (ls' := [(7, sI (w32 (t6 + 1))), (0, sR 18), (1, sI a0), (2, sI a1), (3, sI a2), (4, sI t1), (6, sI t4)]) C (by decide +kernel) rfl rfl (Nat.le_of_ble_eq_true rfl) rfl ?_
              refine zs_goto (pc := 97) (off := (-50)) (tgt := 47) C (by decide +kernel) (by decide) ?_
              exact zs_goj (hK7 (w32 (t6 + 1))) ⟨rfl, rfl, rfl, rfl, rfl, rfl, rfl, trivial⟩
            · refine zs_icmp_eq (pc := 72) (off := 22) (tgt := 94) C (by decide +kernel) (by decide) ?_ ?_
              · exact zs_goj (hJ12 ()) ⟨rfl, rfl, rfl, rfl, rfl, rfl, rfl, trivial⟩
              · refine zs_iload (pc := 75) (i := 6) C (by decide +kernel) rfl ?_
                refine zs_iload (pc := 77) (i := 8) C (by decide +kernel) rfl ?_
                refine zs_iushr (pc := 79) C (by decide +kernel) ?_
                refine zs_iconst (pc := 80) (n := 1) (x := 1) C (by decide +kernel) (by decide +kernel) ?_
                refine zs_iand (pc := 81) C (by decide +kernel) ?_
                refine zs_if_eq (pc := 82) (off := 12) (tgt := 94) C (by decide +kernel) (by decide) ?_ ?_
                · exact zs_goj (hJ12 ()) ⟨rfl, rfl, rfl, rfl, rfl, rfl, rfl, trivial⟩
                · refine zs_bipush (pc := 85) (n := 10) (x := 10) C (by decide +kernel) (by decide +kernel) ?_
                  refine zs_iload (pc := 87) (i := 4) C (by decide +kernel) rfl ?_
                  refine zs_imul (pc := 89) C (by decide +kernel) ?_
                  refine zs_iload (pc := 90) (i := 7) C (by decide +kernel) rfl ?_
                  refine zs_iadd (pc := 92) C (by decide +kernel) ?_
                  exact zs_retRi (pc := 93) C hr ⟨Nat.le_of_ble_eq_true rfl, Nat.le_of_ble_eq_true rfl⟩ (by decide +kernel)
    · refine zs_icmp_ne (pc := 23) (off := 7) (tgt := 30) C (by decide +kernel) (by decide) ?_ ?_
      · refine zs_aload_n (pc := 30) (k := 0) (i := 0) C (by decide +kernel) rfl rfl ?_
        refine zs_getR (o' := 83) (pc := 31) (i := 34) (ci := 0) (k := 6) C (by decide +kernel) fl_RX0_34 rfl rfl rfl ?_
        refine zs_iload_n (pc := 34) (k := 3) (i := 3) C (by decide +kernel) rfl rfl ?_
        refine zs_bipush (pc := 35) (n := 25) (x := 25) C (by decide +kernel) (by decide +kernel) ?_
        refine zs_imul (pc := 37) C (by decide +kernel) ?_
        refine zs_iload (pc := 38) (i := 5) C (by decide +kernel) rfl ?_
        refine zs_iadd (pc := 40) C (by decide +kernel) ?_
        refine zs_iald (pc := 41) (o := 83) (n := 1025) C (by decide +kernel) rfl (fun hinx13 x13 => ?_)
        exact zs_goj (hJ5 x13) ⟨rfl, rfl, rfl, rfl, rfl, trivial⟩
      · refine zs_iconst (pc := 26) (n := 0) (x := 0) C (by decide +kernel) (by decide +kernel) ?_
        refine zs_goto (pc := 27) (off := 15) (tgt := 42) C (by decide +kernel) (by decide) ?_
        exact zs_goj (hJ5 0) ⟨rfl, rfl, rfl, rfl, rfl, trivial⟩
set_option maxRecDepth 20000 in
theorem c_X0_findWay (l : Launch) (g : GC) (a0 : Int) (a1 : Int) : ConW l g yX0_findWay cX0_findWay 7 (some .int) (rmd 6 0 0) [sR 18, sI a0, sI a1] (fun mm => fX0_findWay a0 a1 mm) := by
  refine zs_ofW (by decide +kernel) (Nat.le_of_ble_eq_true rfl) ?_
  intro p e s m args below meth c C hr
  replace C : Bd g RX0 cX0_findWay 7 p s m args meth c := C
  unfold fX0_findWay
  refine zs_aload_n (pc := 0) (k := 0) (i := 0) C (by decide +kernel) rfl rfl ?_
  refine zs_iload_n (pc := 1) (k := 1) (i := 1) C (by decide +kernel) rfl rfl ?_
  refine zs_iload_n (pc := 2) (k := 2) (i := 2) C (by decide +kernel) rfl rfl ?_
  refine zs_aload_n (pc := 3) (k := 0) (i := 0) C (by decide +kernel) rfl rfl ?_
  refine zs_getI (pc := 4) (i := 56) (ci := 0) (k := 13) C (by decide +kernel) fl_RX0_56 rfl rfl (fun x1 => ?_)
  refine zs_cvWi (pc := 7) (As := [sI a0, sI a1, sI x1]) (st := []) C (fun _ _ _ => rfl) rfl (c_X0_hoursTo l g a0 a1 x1) ml_RX0_182 rfl rfl rfl rfl (Nat.le_of_ble_eq_true rfl) ⟨Nat.le_of_ble_eq_true rfl, Nat.le_of_ble_eq_true rfl⟩ ⟨Nat.le_of_ble_eq_true rfl, Nat.le_of_ble_eq_true rfl⟩ (by decide +kernel) (fun x2 => ?_)
  refine zs_istore_n (pc := 10) (k := 3) (i := 3) (ls' := [(3, sI x2), (0, sR 18), (1, sI a0), (2, sI a1)]) C (by decide +kernel) rfl (Nat.le_of_ble_eq_true rfl) rfl ?_
  refine zs_iload_n (pc := 11) (k := 3) (i := 3) C (by decide +kernel) rfl rfl ?_
  refine zs_iconst (pc := 12) (n := (-1)) (x := (-1)) C (by decide +kernel) (by decide +kernel) ?_
  refine zs_icmp_ne (pc := 13) (off := 5) (tgt := 18) C (by decide +kernel) (by decide) ?_ ?_
  · refine zs_aload_n (pc := 18) (k := 0) (i := 0) C (by decide +kernel) rfl rfl ?_
    refine zs_iload_n (pc := 19) (k := 1) (i := 1) C (by decide +kernel) rfl rfl ?_
    refine zs_iload_n (pc := 20) (k := 2) (i := 2) C (by decide +kernel) rfl rfl ?_
    refine zs_iload_n (pc := 21) (k := 3) (i := 3) C (by decide +kernel) rfl rfl ?_
    refine zs_cvVv (pc := 22) (As := [sI a0, sI a1, sI x2]) (st := []) C (fun _ _ _ => rfl) (c_X0_traceBack l g a0 a1 x2) ml_RX0_185 rfl rfl rfl rfl (Nat.le_of_ble_eq_true rfl) ⟨Nat.le_of_ble_eq_true rfl, Nat.le_of_ble_eq_true rfl⟩ ⟨Nat.le_of_ble_eq_true rfl, Nat.le_of_ble_eq_true rfl⟩ (by decide +kernel) ?_
    refine zs_aload_n (pc := 25) (k := 0) (i := 0) C (by decide +kernel) rfl rfl ?_
    refine zs_getR (o' := 19) (pc := 26) (i := 12) (ci := 0) (k := 0) C (by decide +kernel) fl_RX0_12 rfl rfl rfl ?_
    refine zs_getR (o' := 27) (pc := 29) (i := 88) (ci := 10) (k := 1) C (by decide +kernel) fl_RX0_88 rfl rfl rfl ?_
    refine zs_getR (o' := 28) (pc := 32) (i := 150) (ci := 5) (k := 4) C (by decide +kernel) fl_RX0_150 rfl rfl rfl ?_
    refine zs_aload_n (pc := 35) (k := 0) (i := 0) C (by decide +kernel) rfl rfl ?_
    refine zs_getI (pc := 36) (i := 53) (ci := 0) (k := 12) C (by decide +kernel) fl_RX0_53 rfl rfl (fun x3 => ?_)
    refine zs_iald (pc := 39) (o := 28) (n := 4) C (by decide +kernel) rfl (fun hinx4 x4 => ?_)
    refine zs_istore (pc := 40) (i := 4) (ls' := [(4, sI x4), (3, sI x2), (0, sR 18), (1, sI a0), (2, sI a1)]) C (by decide +kernel) (Nat.le_of_ble_eq_true rfl) rfl ?_
    refine zs_aload_n (pc := 42) (k := 0) (i := 0) C (by decide +kernel) rfl rfl ?_
    refine zs_getR (o' := 19) (pc := 43) (i := 12) (ci := 0) (k := 0) C (by decide +kernel) fl_RX0_12 rfl rfl rfl ?_
    refine zs_getR (o' := 27) (pc := 46) (i := 88) (ci := 10) (k := 1) C (by decide +kernel) fl_RX0_88 rfl rfl rfl ?_
    refine zs_getR (o' := 29) (pc := 49) (i := 153) (ci := 5) (k := 5) C (by decide +kernel) fl_RX0_153 rfl rfl rfl ?_
    refine zs_aload_n (pc := 52) (k := 0) (i := 0) C (by decide +kernel) rfl rfl ?_
    refine zs_getI (pc := 53) (i := 53) (ci := 0) (k := 12) C (by decide +kernel) fl_RX0_53 rfl rfl (fun x5 => ?_)
    refine zs_iald (pc := 56) (o := 29) (n := 4) C (by decide +kernel) rfl (fun hinx6 x6 => ?_)
    refine zs_istore (pc := 57) (i := 5) (ls' := [(5, sI x6), (4, sI x4), (3, sI x2), (0, sR 18), (1, sI a0), (2, sI a1)]) C (by decide +kernel) (Nat.le_of_ble_eq_true rfl) rfl ?_
    refine zs_iconst (pc := 59) (n := 1) (x := 1) C (by decide +kernel) (by decide +kernel) ?_
    refine zs_istore (pc := 60) (i := 6) (ls' := [(6, sI 1), (5, sI x6), (4, sI x4), (3, sI x2), (0, sR 18), (1, sI a0), (2, sI a1)]) C (by decide +kernel) (Nat.le_of_ble_eq_true rfl) rfl ?_
    refine zs_sub (ls' := [(0, sR 18), (3, sI x2), (4, sI x4), (5, sI x6), (6, sI 1)]) ⟨rfl, rfl, rfl, rfl, rfl, trivial⟩ ?_
    refine zs_lp (pc := 62) (fun (t7 : Int × Int × Int) => [(0, sR 18), (3, sI x2), (4, sI t7.1), (5, sI t7.2.1), (6, sI t7.2.2)]) (fun _ => []) (fun K8 hK8 t7 => ?_) BIG (x4, x6, 1)
    refine zs_iload (pc := 62) (i := 6) C (by decide +kernel) rfl ?_
    refine zs_iload_n (pc := 64) (k := 3) (i := 3) C (by decide +kernel) rfl rfl ?_
    refine zs_icmp_gt (pc := 65) (off := 74) (tgt := 139) C (by decide +kernel) (by decide) ?_ ?_
    · refine zs_iload_n (pc := 139) (k := 3) (i := 3) C (by decide +kernel) rfl rfl ?_
      exact zs_retWi (pc := 140) C hr ⟨Nat.le_of_ble_eq_true rfl, Nat.le_of_ble_eq_true rfl⟩ (by decide +kernel)
    · refine zs_aload_n (pc := 68) (k := 0) (i := 0) C (by decide +kernel) rfl rfl ?_
      refine zs_getR (o' := 85) (pc := 69) (i := 40) (ci := 0) (k := 8) C (by decide +kernel) fl_RX0_40 rfl rfl rfl ?_
      refine zs_iload (pc := 72) (i := 6) C (by decide +kernel) rfl ?_
      refine zs_aload_n (pc := 74) (k := 0) (i := 0) C (by decide +kernel) rfl rfl ?_
      refine zs_iload (pc := 75) (i := 4) C (by decide +kernel) rfl ?_
      refine zs_iload (pc := 77) (i := 5) C (by decide +kernel) rfl ?_
      refine zs_iload (pc := 79) (i := 6) C (by decide +kernel) rfl ?_
      refine zs_cvRi (pc := 81) (As := [sI t7.1, sI t7.2.1, sI t7.2.2]) (st := [sI t7.2.2, sR 85]) C rfl (c_X0_bestTurns l g t7.1 t7.2.1 t7.2.2) ml_RX0_189 rfl rfl rfl rfl (Nat.le_of_ble_eq_true rfl) ⟨Nat.le_of_ble_eq_true rfl, Nat.le_of_ble_eq_true rfl⟩ ⟨Nat.le_of_ble_eq_true rfl, Nat.le_of_ble_eq_true rfl⟩ (by decide +kernel) (fun x9 => ?_)
      refine zs_iast (pc := 84) (o := 85) (n := 41) C (fun _ _ _ => rfl) (by decide +kernel) rfl ?_
      refine zs_aload_n (pc := 85) (k := 0) (i := 0) C (by decide +kernel) rfl rfl ?_
      refine zs_getR (o' := 19) (pc := 86) (i := 12) (ci := 0) (k := 0) C (by decide +kernel) fl_RX0_12 rfl rfl rfl ?_
      refine zs_getR (o' := 20) (pc := 89) (i := 72) (ci := 10) (k := 0) C (by decide +kernel) fl_RX0_72 rfl rfl rfl ?_
      refine zs_iload (pc := 92) (i := 4) C (by decide +kernel) rfl ?_
      refine zs_aload_n (pc := 94) (k := 0) (i := 0) C (by decide +kernel) rfl rfl ?_
      refine zs_getR (o' := 85) (pc := 95) (i := 40) (ci := 0) (k := 8) C (by decide +kernel) fl_RX0_40 rfl rfl rfl ?_
      refine zs_iload (pc := 98) (i := 6) C (by decide +kernel) rfl ?_
      refine zs_iald (pc := 100) (o := 85) (n := 41) C (by decide +kernel) rfl (fun hinx10 x10 => ?_)
      refine zs_bipush (pc := 101) (n := 10) (x := 10) C (by decide +kernel) (by decide +kernel) ?_
      refine zs_idiv (pc := 103) C (by decide +kernel) (by decide +kernel) ?_
      refine zs_cvRi (pc := 104) (As := [sI t7.1, sI (Int.tdiv x10 10)]) (st := []) C rfl (c_X3_beside l g t7.1 (Int.tdiv x10 10)) ml_RX0_108 rfl rfl rfl rfl (Nat.le_of_ble_eq_true rfl) ⟨Nat.le_of_ble_eq_true rfl, Nat.le_of_ble_eq_true rfl⟩ ⟨Nat.le_of_ble_eq_true rfl, Nat.le_of_ble_eq_true rfl⟩ (by decide +kernel) (fun x11 => ?_)
      refine zs_istore (pc := 107) (i := 4) (ls' := [(4, sI x11), (0, sR 18), (3, sI x2), (5, sI t7.2.1), (6, sI t7.2.2)]) C (by decide +kernel) (Nat.le_of_ble_eq_true rfl) rfl ?_
      refine zs_aload_n (pc := 109) (k := 0) (i := 0) C (by decide +kernel) rfl rfl ?_
      refine zs_getR (o' := 19) (pc := 110) (i := 12) (ci := 0) (k := 0) C (by decide +kernel) fl_RX0_12 rfl rfl rfl ?_
      refine zs_getR (o' := 20) (pc := 113) (i := 72) (ci := 10) (k := 0) C (by decide +kernel) fl_RX0_72 rfl rfl rfl ?_
      refine zs_iload (pc := 116) (i := 5) C (by decide +kernel) rfl ?_
      refine zs_aload_n (pc := 118) (k := 0) (i := 0) C (by decide +kernel) rfl rfl ?_
      refine zs_getR (o' := 85) (pc := 119) (i := 40) (ci := 0) (k := 8) C (by decide +kernel) fl_RX0_40 rfl rfl rfl ?_
      refine zs_iload (pc := 122) (i := 6) C (by decide +kernel) rfl ?_
      refine zs_iald (pc := 124) (o := 85) (n := 41) C (by decide +kernel) rfl (fun hinx12 x12 => ?_)
      refine zs_bipush (pc := 125) (n := 10) (x := 10) C (by decide +kernel) (by decide +kernel) ?_
      refine zs_irem (pc := 127) C (by decide +kernel) (by decide +kernel) ?_
      refine zs_cvRi (pc := 128) (As := [sI t7.2.1, sI (Int.tmod x12 10)]) (st := []) C rfl (c_X3_beside l g t7.2.1 (Int.tmod x12 10)) ml_RX0_108 rfl rfl rfl rfl (Nat.le_of_ble_eq_true rfl) ⟨Nat.le_of_ble_eq_true rfl, Nat.le_of_ble_eq_true rfl⟩ ⟨Nat.le_of_ble_eq_true rfl, Nat.le_of_ble_eq_true rfl⟩ (by decide +kernel) (fun x13 => ?_)
      refine zs_istore (pc := 131) (i := 5) (ls' := [(5, sI x13), (4, sI x11), (0, sR 18), (3, sI x2), (6, sI t7.2.2)]) C (by decide +kernel) (Nat.le_of_ble_eq_true rfl) rfl ?_
      refine zs_iinc (pc := 133) (i := 6) (n := 1) (y := w32 (t7.2.2 + 1)) (ls' := [(6, sI (w32 (t7.2.2 + 1))), (5, sI x13), (4, sI x11), (0, sR 18), (3, sI x2)]) C (by decide +kernel) rfl rfl (Nat.le_of_ble_eq_true rfl) rfl ?_
      refine zs_goto (pc := 136) (off := (-74)) (tgt := 62) C (by decide +kernel) (by decide) ?_
      exact zs_goj (hK8 (x11, x13, w32 (t7.2.2 + 1))) ⟨rfl, rfl, rfl, rfl, rfl, trivial⟩
  · refine zs_iconst (pc := 16) (n := (-1)) (x := (-1)) C (by decide +kernel) (by decide +kernel) ?_
    exact zs_retWi (pc := 17) C hr ⟨Nat.le_of_ble_eq_true rfl, Nat.le_of_ble_eq_true rfl⟩ (by decide +kernel)
set_option maxRecDepth 20000 in
theorem c_X11_leads (l : Launch) (g : GC) (hl : l.stackTraces = false) (a0 : Int) (a1 : Int) (a2 : Int) (a3 : Int) : ConT l g yX11_leads cX11_leads 6 (some .int) (rmd 9 4 24) [sR 0, sI a0, sI a1, sI a2, sI a3] (fun mm => fX11_leads a0 a1 a2 a3 mm) := by
  refine zs_ofT (by decide +kernel) (Nat.le_of_ble_eq_true rfl) ?_
  intro p e s m args below meth c C hr hE
  replace C : Bd g RX11 cX11_leads 6 p s m args meth c := C
  unfold fX11_leads
  refine zs_aload_n (pc := 0) (k := 0) (i := 0) C (by decide +kernel) rfl rfl ?_
  refine zs_iload_n (pc := 1) (k := 1) (i := 1) C (by decide +kernel) rfl rfl ?_
  refine zs_iload_n (pc := 2) (k := 2) (i := 2) C (by decide +kernel) rfl rfl ?_
  refine zs_iload_n (pc := 3) (k := 3) (i := 3) C (by decide +kernel) rfl rfl ?_
  refine zs_cvTv (pc := 4) (As := [sI a0, sI a1, sI a2]) (st := []) C hE (c_X11_needWalk l g hl a0 a1 a2) ml_RX11_274 rfl rfl rfl rfl (Nat.le_of_ble_eq_true rfl) ⟨Nat.le_of_ble_eq_true rfl, Nat.le_of_ble_eq_true rfl⟩ ⟨Nat.le_of_ble_eq_true rfl, Nat.le_of_ble_eq_true rfl⟩ ⟨Nat.le_of_ble_eq_true rfl, Nat.le_of_ble_eq_true rfl⟩ (by decide +kernel) ?_
  refine zs_iload (pc := 7) (i := 4) C (by decide +kernel) rfl ?_
  refine zs_iconst (pc := 9) (n := 1) (x := 1) C (by decide +kernel) (by decide +kernel) ?_
  refine zs_icmp_ge (pc := 10) (off := 14) (tgt := 24) C (by decide +kernel) (by decide) ?_ ?_
  · refine zs_aload_n (pc := 24) (k := 0) (i := 0) C (by decide +kernel) rfl rfl ?_
    refine zs_getR (o' := 18) (pc := 25) (i := 33) (ci := 11) (k := 5) C (by decide +kernel) fl_RX11_33 rfl rfl rfl ?_
    refine zs_iload_n (pc := 28) (k := 1) (i := 1) C (by decide +kernel) rfl rfl ?_
    refine zs_cvVv (pc := 29) (As := [sI a0]) (st := []) C (fun _ _ _ => rfl) (c_X0_begin l g a0) ml_RX11_251 rfl rfl rfl rfl (Nat.le_of_ble_eq_true rfl) ⟨Nat.le_of_ble_eq_true rfl, Nat.le_of_ble_eq_true rfl⟩ ⟨Nat.le_of_ble_eq_true rfl, Nat.le_of_ble_eq_true rfl⟩ (by decide +kernel) ?_
    refine zs_aload_n (pc := 32) (k := 0) (i := 0) C (by decide +kernel) rfl rfl ?_
    refine zs_getR (o' := 18) (pc := 33) (i := 33) (ci := 11) (k := 5) C (by decide +kernel) fl_RX11_33 rfl rfl rfl ?_
    refine zs_iload_n (pc := 36) (k := 2) (i := 2) C (by decide +kernel) rfl rfl ?_
    refine zs_iload_n (pc := 37) (k := 3) (i := 3) C (by decide +kernel) rfl rfl ?_
    refine zs_cvWi (pc := 38) (As := [sI a1, sI a2]) (st := []) C (fun _ _ _ => rfl) rfl (c_X0_findWay l g a1 a2) ml_RX11_285 rfl rfl rfl rfl (Nat.le_of_ble_eq_true rfl) ⟨Nat.le_of_ble_eq_true rfl, Nat.le_of_ble_eq_true rfl⟩ ⟨Nat.le_of_ble_eq_true rfl, Nat.le_of_ble_eq_true rfl⟩ (by decide +kernel) (fun x1 => ?_)
    refine zs_istore (pc := 41) (i := 5) (ls' := [(5, sI x1), (0, sR 0), (1, sI a0), (2, sI a1), (3, sI a2), (4, sI a3)]) C (by decide +kernel) (Nat.le_of_ble_eq_true rfl) rfl ?_
    refine zs_iload (pc := 43) (i := 4) C (by decide +kernel) rfl ?_
    refine zs_iload (pc := 45) (i := 5) C (by decide +kernel) rfl ?_
    refine zs_jn (pJ := 71) (kJ := 3) (sJ := 18) (fun t2 => []) (fun t2 => [sI t2]) (fun t2 => ?_) (fun J3 hJ3 => ?_)
    · exact zs_retTi (pc := 71) C hr ⟨Nat.le_of_ble_eq_true rfl, Nat.le_of_ble_eq_true rfl⟩ (by decide +kernel)
    · refine zs_jn (pJ := 70) (kJ := 3) (sJ := 18) (fun t4 => []) (fun t4 => []) (fun t4 => ?_) (fun J5 hJ5 => ?_)
      · refine zs_iconst (pc := 70) (n := (-1)) (x := (-1)) C (by decide +kernel) (by decide +kernel) ?_
        exact zs_goj (hJ3 (-1)) trivial
      · refine zs_icmp_gt (pc := 47) (off := 23) (tgt := 70) C (by decide +kernel) (by decide) ?_ ?_
        · exact zs_goj (hJ5 ()) trivial
        · refine zs_iload (pc := 50) (i := 4) C (by decide +kernel) rfl ?_
          refine zs_bipush (pc := 52) (n := 40) (x := 40) C (by decide +kernel) (by decide +kernel) ?_
          refine zs_icmp_gt (pc := 54) (off := 16) (tgt := 70) C (by decide +kernel) (by decide) ?_ ?_
          · exact zs_goj (hJ5 ()) trivial
          · refine zs_aload_n (pc := 57) (k := 0) (i := 0) C (by decide +kernel) rfl rfl ?_
            refine zs_getR (o' := 18) (pc := 58) (i := 33) (ci := 11) (k := 5) C (by decide +kernel) fl_RX11_33 rfl rfl rfl ?_
            refine zs_getR (o' := 85) (pc := 61) (i := 288) (ci := 0) (k := 8) C (by decide +kernel) fl_RX11_288 rfl rfl rfl ?_
            refine zs_iload (pc := 64) (i := 4) C (by decide +kernel) rfl ?_
            refine zs_iald (pc := 66) (o := 85) (n := 41) C (by decide +kernel) rfl (fun hinx6 x6 => ?_)
            refine zs_goto (pc := 67) (off := 4) (tgt := 71) C (by decide +kernel) (by decide) ?_
            exact zs_goj (hJ3 x6) trivial
  · exact zs_throwW (pc := 13) (text := "hours are told from 1 on") (ik := 85) (is_ := 283) (ic := 89) (k := 1) C hE hl ⟨by decide, rfl⟩ ⟨by decide +kernel, by decide +kernel⟩ wf_784 wf_161 (by decide +kernel) ex_RX11_89.1 ex_RX11_89.2 ⟨Nat.le_of_ble_eq_true rfl, Nat.le_of_ble_eq_true rfl, Nat.le_of_ble_eq_true rfl, Nat.le_of_ble_eq_true rfl⟩ ⟨Nat.le_of_ble_eq_true rfl, Nat.le_of_ble_eq_true rfl⟩ (by decide +kernel) (by decide +kernel) (by decide +kernel) (by decide +kernel) (by decide +kernel)
set_option maxRecDepth 20000 in
theorem c_J7_fill_d0a16 (l : Launch) (g : GC) (a0 : Nat) (n0 : Nat) (a1 : Int) (h0_ : layL[a0]? = some (.inr (1, n0))) : ConV l g yJ7_fill_d0a16 cJ7_fill_d0a16 5 (rmd 1 0 0) [sR a0, sL a1] (fun mm => fJ7_fill_d0a16 a0 n0 a1 mm) := by
  refine zs_ofV (by decide +kernel) (Nat.le_of_ble_eq_true rfl) ?_
  intro p e s m args below meth c C hr
  replace C : Bd g RJ7 cJ7_fill_d0a16 5 p s m args meth c := C
  unfold fJ7_fill_d0a16
  refine zs_iconst (pc := 0) (n := 0) (x := 0) C (by decide +kernel) (by decide +kernel) ?_
  refine zs_istore_n (pc := 1) (k := 3) (i := 3) (ls' := [(3, sI 0), (0, sR a0), (1, sL a1)]) C (by decide +kernel) rfl (Nat.le_of_ble_eq_true rfl) rfl ?_
  refine zs_aload_n (pc := 2) (k := 0) (i := 0) C (by decide +kernel) rfl rfl ?_
  refine zs_alen (pc := 3) (o := a0) (n := n0) (x := ((n0 : Nat) : Int)) C (by decide +kernel) h0_ (by decide) (ly_len h0_) ?_
  refine zs_let (fun x1 => ?_)
  refine zs_istore (pc := 4) (i := 4) (ls' := [(4, sI x1), (3, sI 0), (0, sR a0), (1, sL a1)]) C (by decide +kernel) (Nat.le_of_ble_eq_true rfl) rfl ?_
  refine zs_sub (ls' := [(0, sR a0), (1, sL a1), (3, sI 0), (4, sI x1)]) ⟨rfl, rfl, rfl, rfl, trivial⟩ ?_
  refine zs_lp (pc := 6) (fun (t2 : Int) => [(0, sR a0), (1, sL a1), (3, sI t2), (4, sI x1)]) (fun _ => []) (fun K3 hK3 t2 => ?_) BIG 0
  refine zs_iload_n (pc := 6) (k := 3) (i := 3) C (by decide +kernel) rfl rfl ?_
  refine zs_iload (pc := 7) (i := 4) C (by decide +kernel) rfl ?_
  refine zs_icmp_ge (pc := 9) (off := 13) (tgt := 22) C (by decide +kernel) (by decide) ?_ ?_
  · exact zs_retVv (pc := 22) C hr ⟨Nat.le_of_ble_eq_true rfl, Nat.le_of_ble_eq_true rfl⟩ (by decide +kernel)
  · refine zs_aload_n (pc := 12) (k := 0) (i := 0) C (by decide +kernel) rfl rfl ?_
    refine zs_iload_n (pc := 13) (k := 3) (i := 3) C (by decide +kernel) rfl rfl ?_
    refine zs_lload_n (pc := 14) (k := 1) (i := 1) C (by decide +kernel) rfl rfl ?_
    refine zs_last (pc := 15) (o := a0) (n := n0) C (fun _ _ _ => rfl) (by decide +kernel) h0_ ?_
    refine zs_iinc (pc := 16) (i := 3) (n := 1) (y := w32 (t2 + 1)) (ls' := [(3, sI (w32 (t2 + 1))), (0, sR a0), (1, sL a1), (4, sI x1)]) C (by decide +kernel) rfl rfl (Nat.le_of_ble_eq_true rfl) rfl ?_
    refine zs_goto (pc := 19) (off := (-13)) (tgt := 6) C (by decide +kernel) (by decide) ?_
    exact zs_goj (hK3 (w32 (t2 + 1))) ⟨rfl, rfl, rfl, rfl, trivial⟩
set_option maxRecDepth 20000 in
theorem c_X0_startFirst (l : Launch) (g : GC)  : ConR l g yX0_startFirst cX0_startFirst 1 (some .int) (rmd 1 0 0) [sR 18] (fun mm => fX0_startFirst  mm) := by
  refine zs_ofR (by decide +kernel) (Nat.le_of_ble_eq_true rfl) ?_
  intro p e s m args below meth c C hr
  replace C : Bd g RX0 cX0_startFirst 1 p s m args meth c := C
  unfold fX0_startFirst
  refine zs_aload_n (pc := 0) (k := 0) (i := 0) C (by decide +kernel) rfl rfl ?_
  refine zs_getR (o' := 19) (pc := 1) (i := 12) (ci := 0) (k := 0) C (by decide +kernel) fl_RX0_12 rfl rfl rfl ?_
  refine zs_getR (o' := 27) (pc := 4) (i := 88) (ci := 10) (k := 1) C (by decide +kernel) fl_RX0_88 rfl rfl rfl ?_
  refine zs_getR (o' := 28) (pc := 7) (i := 150) (ci := 5) (k := 4) C (by decide +kernel) fl_RX0_150 rfl rfl rfl ?_
  refine zs_aload_n (pc := 10) (k := 0) (i := 0) C (by decide +kernel) rfl rfl ?_
  refine zs_getI (pc := 11) (i := 53) (ci := 0) (k := 12) C (by decide +kernel) fl_RX0_53 rfl rfl (fun x1 => ?_)
  refine zs_iald (pc := 14) (o := 28) (n := 4) C (by decide +kernel) rfl (fun hinx2 x2 => ?_)
  exact zs_retRi (pc := 15) C hr ⟨Nat.le_of_ble_eq_true rfl, Nat.le_of_ble_eq_true rfl⟩ (by decide +kernel)
set_option maxRecDepth 20000 in
theorem c_X0_startSecond (l : Launch) (g : GC)  : ConR l g yX0_startSecond cX0_startSecond 1 (some .int) (rmd 1 0 0) [sR 18] (fun mm => fX0_startSecond  mm) := by
  refine zs_ofR (by decide +kernel) (Nat.le_of_ble_eq_true rfl) ?_
  intro p e s m args below meth c C hr
  replace C : Bd g RX0 cX0_startSecond 1 p s m args meth c := C
  unfold fX0_startSecond
  refine zs_aload_n (pc := 0) (k := 0) (i := 0) C (by decide +kernel) rfl rfl ?_
  refine zs_getR (o' := 19) (pc := 1) (i := 12) (ci := 0) (k := 0) C (by decide +kernel) fl_RX0_12 rfl rfl rfl ?_
  refine zs_getR (o' := 27) (pc := 4) (i := 88) (ci := 10) (k := 1) C (by decide +kernel) fl_RX0_88 rfl rfl rfl ?_
  refine zs_getR (o' := 29) (pc := 7) (i := 153) (ci := 5) (k := 5) C (by decide +kernel) fl_RX0_153 rfl rfl rfl ?_
  refine zs_aload_n (pc := 10) (k := 0) (i := 0) C (by decide +kernel) rfl rfl ?_
  refine zs_getI (pc := 11) (i := 53) (ci := 0) (k := 12) C (by decide +kernel) fl_RX0_53 rfl rfl (fun x1 => ?_)
  refine zs_iald (pc := 14) (o := 29) (n := 4) C (by decide +kernel) rfl (fun hinx2 x2 => ?_)
  exact zs_retRi (pc := 15) C hr ⟨Nat.le_of_ble_eq_true rfl, Nat.le_of_ble_eq_true rfl⟩ (by decide +kernel)
set_option maxRecDepth 20000 in
theorem c_X7_start (l : Launch) (g : GC)  : ConV l g yX7_start cX7_start 2 (rmd 2 0 0) [sR 96, sR 18] (fun mm => fX7_start  mm) := by
  refine zs_ofV (by decide +kernel) (Nat.le_of_ble_eq_true rfl) ?_
  intro p e s m args below meth c C hr
  replace C : Bd g RX7 cX7_start 2 p s m args meth c := C
  unfold fX7_start
  refine zs_aload_n (pc := 0) (k := 0) (i := 0) C (by decide +kernel) rfl rfl ?_
  refine zs_aload_n (pc := 1) (k := 1) (i := 1) C (by decide +kernel) rfl rfl ?_
  refine zs_getI (pc := 2) (i := 26) (ci := 0) (k := 9) C (by decide +kernel) fl_RX7_26 rfl rfl (fun x1 => ?_)
  refine zs_putI (pc := 5) (i := 22) (ci := 7) (k := 3) C (fun _ _ _ => rfl) (by decide +kernel) fl_RX7_22 fw_7_3 rfl rfl ?_
  refine zs_aload_n (pc := 8) (k := 0) (i := 0) C (by decide +kernel) rfl rfl ?_
  refine zs_getM (pc := 9) (i := 9) (ci := 7) (k := 0) C (by decide +kernel) fl_RX7_9 rfl rfl (fun x2 => ?_)
  refine zs_need (fun hx2 => ?_)
  refine zs_lconst (pc := 12) (n := 0) (x := 0) C (by decide +kernel) (by decide +kernel) ?_
  refine zs_csVv (pc := 13) (As := [sR x2, sL 0]) (st := []) C (fun _ _ _ => rfl) (c_J7_fill_d0a16 l g x2 625 0 hx2) ml_RX7_29 rfl rfl (Nat.le_of_ble_eq_true rfl) ⟨Nat.le_of_ble_eq_true rfl, Nat.le_of_ble_eq_true rfl⟩ ⟨Nat.le_of_ble_eq_true rfl, Nat.le_of_ble_eq_true rfl⟩ (by decide +kernel) ?_
  refine zs_aload_n (pc := 16) (k := 0) (i := 0) C (by decide +kernel) rfl rfl ?_
  refine zs_getM (pc := 17) (i := 9) (ci := 7) (k := 0) C (by decide +kernel) fl_RX7_9 rfl rfl (fun x3 => ?_)
  refine zs_need (fun hx3 => ?_)
  refine zs_aload_n (pc := 20) (k := 1) (i := 1) C (by decide +kernel) rfl rfl ?_
  refine zs_cvRi (pc := 21) (As := []) (st := [sR x3]) C rfl (c_X0_startFirst l g ) ml_RX7_35 rfl rfl rfl rfl (Nat.le_of_ble_eq_true rfl) ⟨Nat.le_of_ble_eq_true rfl, Nat.le_of_ble_eq_true rfl⟩ ⟨Nat.le_of_ble_eq_true rfl, Nat.le_of_ble_eq_true rfl⟩ (by decide +kernel) (fun x4 => ?_)
  refine zs_bipush (pc := 24) (n := 25) (x := 25) C (by decide +kernel) (by decide +kernel) ?_
  refine zs_imul (pc := 26) C (by decide +kernel) ?_
  refine zs_aload_n (pc := 27) (k := 1) (i := 1) C (by decide +kernel) rfl rfl ?_
  refine zs_cvRi (pc := 28) (As := []) (st := [sI (w32 (x4 * 25)), sR x3]) C rfl (c_X0_startSecond l g ) ml_RX7_39 rfl rfl rfl rfl (Nat.le_of_ble_eq_true rfl) ⟨Nat.le_of_ble_eq_true rfl, Nat.le_of_ble_eq_true rfl⟩ ⟨Nat.le_of_ble_eq_true rfl, Nat.le_of_ble_eq_true rfl⟩ (by decide +kernel) (fun x5 => ?_)
  refine zs_iadd (pc := 31) C (by decide +kernel) ?_
  refine zs_lconst (pc := 32) (n := 1) (x := 1) C (by decide +kernel) (by decide +kernel) ?_
  refine zs_last (pc := 33) (o := x3) (n := 625) C (fun _ _ _ => rfl) (by decide +kernel) hx3 ?_
  exact zs_retVv (pc := 34) C hr ⟨Nat.le_of_ble_eq_true rfl, Nat.le_of_ble_eq_true rfl⟩ (by decide +kernel)
set_option maxRecDepth 20000 in
theorem c_X0_holds (l : Launch) (g : GC) (a0 : Int) (a1 : Int) (a2 : Int) : ConR l g yX0_holds cX0_holds 4 (some .boolean) (rmd 1 0 0) [sR 18, sI a0, sI a1, sI a2] (fun mm => fX0_holds a0 a1 a2 mm) := by
  refine zs_ofR (by decide +kernel) (Nat.le_of_ble_eq_true rfl) ?_
  intro p e s m args below meth c C hr
  replace C : Bd g RX0 cX0_holds 4 p s m args meth c := C
  unfold fX0_holds
  refine zs_aload_n (pc := 0) (k := 0) (i := 0) C (by decide +kernel) rfl rfl ?_
  refine zs_getR (o' := 81) (pc := 1) (i := 28) (ci := 0) (k := 4) C (by decide +kernel) fl_RX0_28 rfl rfl rfl ?_
  refine zs_aload_n (pc := 4) (k := 0) (i := 0) C (by decide +kernel) rfl rfl ?_
  refine zs_getR (o' := 80) (pc := 5) (i := 25) (ci := 0) (k := 3) C (by decide +kernel) fl_RX0_25 rfl rfl rfl ?_
  refine zs_iload_n (pc := 8) (k := 3) (i := 3) C (by decide +kernel) rfl rfl ?_
  refine zs_iald (pc := 9) (o := 80) (n := 41) C (by decide +kernel) rfl (fun hinx1 x1 => ?_)
  refine zs_bipush (pc := 10) (n := 25) (x := 25) C (by decide +kernel) (by decide +kernel) ?_
  refine zs_imul (pc := 12) C (by decide +kernel) ?_
  refine zs_iload_n (pc := 13) (k := 1) (i := 1) C (by decide +kernel) rfl rfl ?_
  refine zs_iadd (pc := 14) C (by decide +kernel) ?_
  refine zs_iald (pc := 15) (o := 81) (n := 225) C (by decide +kernel) rfl (fun hinx2 x2 => ?_)
  refine zs_iload_n (pc := 16) (k := 2) (i := 2) C (by decide +kernel) rfl rfl ?_
  refine zs_iushr (pc := 17) C (by decide +kernel) ?_
  refine zs_iconst (pc := 18) (n := 1) (x := 1) C (by decide +kernel) (by decide +kernel) ?_
  refine zs_iand (pc := 19) C (by decide +kernel) ?_
  refine zs_jn (pJ := 28) (kJ := 0) (sJ := 0) (fun t3 => []) (fun t3 => [sI t3]) (fun t3 => ?_) (fun J4 hJ4 => ?_)
  · refine zs_chk (fun _ hx => ?_)
    exact zs_retRz (pc := 28) C hx hr ⟨Nat.le_of_ble_eq_true rfl, Nat.le_of_ble_eq_true rfl⟩ (by decide +kernel)
  · refine zs_if_eq (pc := 20) (off := 7) (tgt := 27) C (by decide +kernel) (by decide) ?_ ?_
    · refine zs_iconst (pc := 27) (n := 0) (x := 0) C (by decide +kernel) (by decide +kernel) ?_
      exact zs_goj (hJ4 0) trivial
    · refine zs_iconst (pc := 23) (n := 1) (x := 1) C (by decide +kernel) (by decide +kernel) ?_
      refine zs_goto (pc := 24) (off := 4) (tgt := 28) C (by decide +kernel) (by decide) ?_
      exact zs_goj (hJ4 1) trivial
set_option maxRecDepth 20000 in
theorem c_X7_push (l : Launch) (g : GC) (a1 : Int) (a2 : Int) (a3 : Int) (a4 : Int) : ConV l g yX7_push cX7_push 12 (rmd 4 0 0) [sR 96, sR 18, sI a1, sI a2, sI a3, sI a4] (fun mm => fX7_push a1 a2 a3 a4 mm) := by
  refine zs_ofV (by decide +kernel) (Nat.le_of_ble_eq_true rfl) ?_
  intro p e s m args below meth c C hr
  replace C : Bd g RX7 cX7_push 12 p s m args meth c := C
  unfold fX7_push
  refine zs_aload_n (pc := 0) (k := 0) (i := 0) C (by decide +kernel) rfl rfl ?_
  refine zs_getM (pc := 1) (i := 9) (ci := 7) (k := 0) C (by decide +kernel) fl_RX7_9 rfl rfl (fun x1 => ?_)
  refine zs_need (fun hx1 => ?_)
  refine zs_iload_n (pc := 4) (k := 2) (i := 2) C (by decide +kernel) rfl rfl ?_
  refine zs_bipush (pc := 5) (n := 25) (x := 25) C (by decide +kernel) (by decide +kernel) ?_
  refine zs_imul (pc := 7) C (by decide +kernel) ?_
  refine zs_iload_n (pc := 8) (k := 3) (i := 3) C (by decide +kernel) rfl rfl ?_
  refine zs_iadd (pc := 9) C (by decide +kernel) ?_
  refine zs_lald (pc := 10) (o := x1) (n := 625) C (by decide +kernel) hx1 (fun hinx2 x2 => ?_)
  refine zs_lstore (pc := 11) (i := 6) (ls' := [(6, sL x2), (0, sR 96), (1, sR 18), (2, sI a1), (3, sI a2), (4, sI a3), (5, sI a4)]) C (by decide +kernel) (Nat.le_of_ble_eq_true rfl) rfl ?_
  refine zs_iconst (pc := 13) (n := 0) (x := 0) C (by decide +kernel) (by decide +kernel) ?_
  refine zs_istore (pc := 14) (i := 8) (ls' := [(8, sI 0), (6, sL x2), (0, sR 96), (1, sR 18), (2, sI a1), (3, sI a2), (4, sI a3), (5, sI a4)]) C (by decide +kernel) (Nat.le_of_ble_eq_true rfl) rfl ?_
  refine zs_sub (ls' := [(0, sR 96), (1, sR 18), (2, sI a1), (3, sI a2), (4, sI a3), (5, sI a4), (6, sL x2), (8, sI 0)]) ⟨rfl, rfl, rfl, rfl, rfl, rfl, rfl, rfl, trivial⟩ ?_
  refine zs_lp (pc := 16) (fun (t3 : Int) => [(0, sR 96), (1, sR 18), (2, sI a1), (3, sI a2), (4, sI a3), (5, sI a4), (6, sL x2), (8, sI t3)]) (fun _ => []) (fun K4 hK4 t3 => ?_) BIG 0
  refine zs_iload (pc := 16) (i := 8) C (by decide +kernel) rfl ?_
  refine zs_iconst (pc := 18) (n := 5) (x := 5) C (by decide +kernel) (by decide +kernel) ?_
  refine zs_icmp_ge (pc := 19) (off := 26) (tgt := 45) C (by decide +kernel) (by decide) ?_ ?_
  · refine zs_iconst (pc := 45) (n := 0) (x := 0) C (by decide +kernel) (by decide +kernel) ?_
    refine zs_istore (pc := 46) (i := 8) (ls' := [(8, sI 0), (0, sR 96), (1, sR 18), (2, sI a1), (3, sI a2), (4, sI a3), (5, sI a4), (6, sL x2)]) C (by decide +kernel) (Nat.le_of_ble_eq_true rfl) rfl ?_
    refine zs_sub (ls' := [(0, sR 96), (1, sR 18), (2, sI a1), (4, sI a3), (5, sI a4), (6, sL x2), (8, sI 0)]) ⟨rfl, rfl, rfl, rfl, rfl, rfl, rfl, trivial⟩ ?_
    refine zs_lp (pc := 48) (fun (t5 : Int) => [(0, sR 96), (1, sR 18), (2, sI a1), (4, sI a3), (5, sI a4), (6, sL x2), (8, sI t5)]) (fun _ => []) (fun K6 hK6 t5 => ?_) BIG 0
    refine zs_iload (pc := 48) (i := 8) C (by decide +kernel) rfl ?_
    refine zs_iconst (pc := 50) (n := 5) (x := 5) C (by decide +kernel) (by decide +kernel) ?_
    refine zs_icmp_ge (pc := 51) (off := 119) (tgt := 170) C (by decide +kernel) (by decide) ?_ ?_
    · exact zs_retVv (pc := 170) C hr ⟨Nat.le_of_ble_eq_true rfl, Nat.le_of_ble_eq_true rfl⟩ (by decide +kernel)
    · refine zs_aload_n (pc := 54) (k := 1) (i := 1) C (by decide +kernel) rfl rfl ?_
      refine zs_iconst (pc := 55) (n := 0) (x := 0) C (by decide +kernel) (by decide +kernel) ?_
      refine zs_iload_n (pc := 56) (k := 2) (i := 2) C (by decide +kernel) rfl rfl ?_
      refine zs_iload (pc := 57) (i := 8) C (by decide +kernel) rfl ?_
      refine zs_iload (pc := 59) (i := 4) C (by decide +kernel) rfl ?_
      refine zs_cvRi (pc := 61) (As := [sI 0, sI a1, sI t5, sI a3]) (st := []) C rfl (c_X0_landing l g 0 a1 t5 a3) ml_RX7_50 rfl rfl rfl rfl (Nat.le_of_ble_eq_true rfl) ⟨Nat.le_of_ble_eq_true rfl, Nat.le_of_ble_eq_true rfl⟩ ⟨Nat.le_of_ble_eq_true rfl, Nat.le_of_ble_eq_true rfl⟩ (by decide +kernel) (fun x7 => ?_)
      refine zs_istore (pc := 64) (i := 9) (ls' := [(9, sI x7), (0, sR 96), (1, sR 18), (2, sI a1), (4, sI a3), (5, sI a4), (6, sL x2), (8, sI t5)]) C (by decide +kernel) (Nat.le_of_ble_eq_true rfl) rfl ?_
      refine zs_iload (pc := 66) (i := 9) C (by decide +kernel) rfl ?_
      refine zs_iconst (pc := 68) (n := (-1)) (x := (-1)) C (by decide +kernel) (by decide +kernel) ?_
      refine zs_jn (pJ := 90) (kJ := 0) (sJ := 0) (fun t8 => [(0, sR 96), (1, sR 18), (2, sI a1), (4, sI a3), (5, sI a4), (6, sL x2), (8, sI t5), (9, sI x7)]) (fun t8 => [sI t8]) (fun t8 => ?_) (fun J9 hJ9 => ?_)
      · refine zs_istore (pc := 90) (i := 10) (ls' := [(10, sI t8), (0, sR 96), (1, sR 18), (2, sI a1), (4, sI a3), (5, sI a4), (6, sL x2), (8, sI t5), (9, sI x7)]) C (by decide +kernel) (Nat.le_of_ble_eq_true rfl) rfl ?_
        refine zs_iconst (pc := 92) (n := 0) (x := 0) C (by decide +kernel) (by decide +kernel) ?_
        refine zs_istore (pc := 93) (i := 11) (ls' := [(11, sI 0), (10, sI t8), (0, sR 96), (1, sR 18), (2, sI a1), (4, sI a3), (5, sI a4), (6, sL x2), (8, sI t5), (9, sI x7)]) C (by decide +kernel) (Nat.le_of_ble_eq_true rfl) rfl ?_
        refine zs_sub (ls' := [(0, sR 96), (1, sR 18), (2, sI a1), (4, sI a3), (5, sI a4), (6, sL x2), (8, sI t5), (9, sI x7), (10, sI t8), (11, sI 0)]) ⟨rfl, rfl, rfl, rfl, rfl, rfl, rfl, rfl, rfl, rfl, trivial⟩ ?_
        refine zs_lp (pc := 95) (fun (t10 : Int) => [(0, sR 96), (1, sR 18), (2, sI a1), (4, sI a3), (5, sI a4), (6, sL x2), (8, sI t5), (9, sI x7), (10, sI t8), (11, sI t10)]) (fun _ => []) (fun K11 hK11 t10 => ?_) BIG 0
        refine zs_iload (pc := 95) (i := 11) C (by decide +kernel) rfl ?_
        refine zs_iconst (pc := 97) (n := 5) (x := 5) C (by decide +kernel) (by decide +kernel) ?_
        refine zs_jn (pJ := 164) (kJ := 0) (sJ := 0) (fun t12 => [(0, sR 96), (1, sR 18), (2, sI a1), (4, sI a3), (5, sI a4), (6, sL x2), (8, sI t5)]) (fun t12 => []) (fun t12 => ?_) (fun J13 hJ13 => ?_)
        · refine zs_iinc (pc := 164) (i := 8) (n := 1) (y := w32 (t5 + 1)) (ls' := [(8, sI (w32 (t5 + 1))), (0, sR 96), (1, sR 18), (2, sI a1), (4, sI a3), (5, sI a4), (6, sL x2)]) C (by decide +kernel) rfl rfl (Nat.le_of_ble_eq_true rfl) rfl ?_
          refine zs_goto (pc := 167) (off := (-119)) (tgt := 48) C (by decide +kernel) (by decide) ?_
          exact zs_goj (hK6 (w32 (t5 + 1))) ⟨rfl, rfl, rfl, rfl, rfl, rfl, rfl, trivial⟩
        · refine zs_icmp_ge (pc := 98) (off := 66) (tgt := 164) C (by decide +kernel) (by decide) ?_ ?_
          · exact zs_goj (hJ13 ()) ⟨rfl, rfl, rfl, rfl, rfl, rfl, rfl, trivial⟩
          · refine zs_iload (pc := 101) (i := 10) C (by decide +kernel) rfl ?_
            refine zs_if_eq (pc := 103) (off := 61) (tgt := 164) C (by decide +kernel) (by decide) ?_ ?_
            · exact zs_goj (hJ13 ()) ⟨rfl, rfl, rfl, rfl, rfl, rfl, rfl, trivial⟩
            · refine zs_aload_n (pc := 106) (k := 0) (i := 0) C (by decide +kernel) rfl rfl ?_
              refine zs_getR (o' := 99) (pc := 107) (i := 18) (ci := 7) (k := 2) C (by decide +kernel) fl_RX7_18 rfl rfl rfl ?_
              refine zs_iload (pc := 110) (i := 11) C (by decide +kernel) rfl ?_
              refine zs_iald (pc := 112) (o := 99) (n := 5) C (by decide +kernel) rfl (fun hinx14 x14 => ?_)
              refine zs_iconst (pc := 113) (n := (-1)) (x := (-1)) C (by decide +kernel) (by decide +kernel) ?_
              refine zs_jn (pJ := 158) (kJ := 0) (sJ := 0) (fun t15 => [(0, sR 96), (1, sR 18), (2, sI a1), (4, sI a3), (5, sI a4), (6, sL x2), (8, sI t5), (9, sI x7), (10, sI t8), (11, sI t10)]) (fun t15 => []) (fun t15 => ?_) (fun J16 hJ16 => ?_)
              · refine zs_iinc (pc := 158) (i := 11) (n := 1) (y := w32 (t10 + 1)) (ls' := [(11, sI (w32 (t10 + 1))), (0, sR 96), (1, sR 18), (2, sI a1), (4, sI a3), (5, sI a4), (6, sL x2), (8, sI t5), (9, sI x7), (10, sI t8)]) C (by decide +kernel) rfl rfl (Nat.le_of_ble_eq_true rfl) rfl ?_
                refine zs_goto (pc := 161) (off := (-66)) (tgt := 95) C (by decide +kernel) (by decide) ?_
                exact zs_goj (hK11 (w32 (t10 + 1))) ⟨rfl, rfl, rfl, rfl, rfl, rfl, rfl, rfl, rfl, rfl, trivial⟩
              · refine zs_icmp_eq (pc := 114) (off := 44) (tgt := 158) C (by decide +kernel) (by decide) ?_ ?_
                · exact zs_goj (hJ16 ()) ⟨rfl, rfl, rfl, rfl, rfl, rfl, rfl, rfl, rfl, rfl, trivial⟩
                · refine zs_aload_n (pc := 117) (k := 1) (i := 1) C (by decide +kernel) rfl rfl ?_
                  refine zs_iload (pc := 118) (i := 9) C (by decide +kernel) rfl ?_
                  refine zs_aload_n (pc := 120) (k := 0) (i := 0) C (by decide +kernel) rfl rfl ?_
                  refine zs_getR (o' := 99) (pc := 121) (i := 18) (ci := 7) (k := 2) C (by decide +kernel) fl_RX7_18 rfl rfl rfl ?_
                  refine zs_iload (pc := 124) (i := 11) C (by decide +kernel) rfl ?_
                  refine zs_iald (pc := 126) (o := 99) (n := 5) C (by decide +kernel) rfl (fun hinx17 x17 => ?_)
                  refine zs_iload (pc := 127) (i := 4) C (by decide +kernel) rfl ?_
                  refine zs_cvRi (pc := 129) (As := [sI x7, sI x17, sI a3]) (st := []) C rfl (c_X0_holds l g x7 x17 a3) ml_RX7_54 rfl rfl rfl rfl (Nat.le_of_ble_eq_true rfl) ⟨Nat.le_of_ble_eq_true rfl, Nat.le_of_ble_eq_true rfl⟩ ⟨Nat.le_of_ble_eq_true rfl, Nat.le_of_ble_eq_true rfl⟩ (by decide +kernel) (fun x18 => ?_)
                  refine zs_if_eq (pc := 132) (off := 26) (tgt := 158) C (by decide +kernel) (by decide) ?_ ?_
                  · exact zs_goj (hJ16 ()) ⟨rfl, rfl, rfl, rfl, rfl, rfl, rfl, rfl, rfl, rfl, trivial⟩
                  · refine zs_aload_n (pc := 135) (k := 0) (i := 0) C (by decide +kernel) rfl rfl ?_
                    refine zs_getM (pc := 136) (i := 15) (ci := 7) (k := 1) C (by decide +kernel) fl_RX7_15 rfl rfl (fun x19 => ?_)
                    refine zs_need (fun hx19 => ?_)
                    refine zs_iload (pc := 139) (i := 9) C (by decide +kernel) rfl ?_
                    refine zs_bipush (pc := 141) (n := 25) (x := 25) C (by decide +kernel) (by decide +kernel) ?_
                    refine zs_imul (pc := 143) C (by decide +kernel) ?_
                    refine zs_aload_n (pc := 144) (k := 0) (i := 0) C (by decide +kernel) rfl rfl ?_
                    refine zs_getR (o' := 99) (pc := 145) (i := 18) (ci := 7) (k := 2) C (by decide +kernel) fl_RX7_18 rfl rfl rfl ?_
                    refine zs_iload (pc := 148) (i := 11) C (by decide +kernel) rfl ?_
                    refine zs_iald (pc := 150) (o := 99) (n := 5) C (by decide +kernel) rfl (fun hinx20 x20 => ?_)
                    refine zs_iadd (pc := 151) C (by decide +kernel) ?_
                    refine zs_dup2 (pc := 152) C rfl rfl (by decide +kernel) ?_
                    refine zs_lald (pc := 153) (o := x19) (n := 625) C (by decide +kernel) hx19 (fun hinx21 x21 => ?_)
                    refine zs_lload (pc := 154) (i := 6) C (by decide +kernel) rfl ?_
                    refine zs_ladd (pc := 156) C (by decide +kernel) ?_
                    refine zs_last (pc := 157) (o := x19) (n := 625) C (fun _ _ _ => rfl) (by decide +kernel) hx19 ?_
                    exact zs_goj (hJ16 ()) ⟨rfl, rfl, rfl, rfl, rfl, rfl, rfl, rfl, rfl, rfl, trivial⟩
      · refine zs_jn (pJ := 89) (kJ := 0) (sJ := 0) (fun t22 => [(0, sR 96), (1, sR 18), (2, sI a1), (4, sI a3), (5, sI a4), (6, sL x2), (8, sI t5), (9, sI x7)]) (fun t22 => []) (fun t22 => ?_) (fun J23 hJ23 => ?_)
        · refine zs_iconst (pc := 89) (n := 0) (x := 0) C (by decide +kernel) (by decide +kernel) ?_
          exact zs_goj (hJ9 0) ⟨rfl, rfl, rfl, rfl, rfl, rfl, rfl, rfl, trivial⟩
        · refine zs_icmp_eq (pc := 69) (off := 20) (tgt := 89) C (by decide +kernel) (by decide) ?_ ?_
          · exact zs_goj (hJ23 ()) ⟨rfl, rfl, rfl, rfl, rfl, rfl, rfl, rfl, trivial⟩
          · refine zs_iload (pc := 72) (i := 5) C (by decide +kernel) rfl ?_
            refine zs_iconst (pc := 74) (n := (-1)) (x := (-1)) C (by decide +kernel) (by decide +kernel) ?_
            refine zs_jn (pJ := 85) (kJ := 0) (sJ := 0) (fun t24 => [(0, sR 96), (1, sR 18), (2, sI a1), (4, sI a3), (5, sI a4), (6, sL x2), (8, sI t5), (9, sI x7)]) (fun t24 => []) (fun t24 => ?_) (fun J25 hJ25 => ?_)
            · refine zs_iconst (pc := 85) (n := 1) (x := 1) C (by decide +kernel) (by decide +kernel) ?_
              refine zs_goto (pc := 86) (off := 4) (tgt := 90) C (by decide +kernel) (by decide) ?_
              exact zs_goj (hJ9 1) ⟨rfl, rfl, rfl, rfl, rfl, rfl, rfl, rfl, trivial⟩
            · refine zs_icmp_eq (pc := 75) (off := 10) (tgt := 85) C (by decide +kernel) (by decide) ?_ ?_
              · exact zs_goj (hJ25 ()) ⟨rfl, rfl, rfl, rfl, rfl, rfl, rfl, rfl, trivial⟩
              · refine zs_iload (pc := 78) (i := 9) C (by decide +kernel) rfl ?_
                refine zs_iload (pc := 80) (i := 5) C (by decide +kernel) rfl ?_
                refine zs_icmp_ne (pc := 82) (off := 7) (tgt := 89) C (by decide +kernel) (by decide) ?_ ?_
                · exact zs_goj (hJ23 ()) ⟨rfl, rfl, rfl, rfl, rfl, rfl, rfl, rfl, trivial⟩
                · exact zs_goj (hJ25 ()) ⟨rfl, rfl, rfl, rfl, rfl, rfl, rfl, rfl, trivial⟩
  · refine zs_aload_n (pc := 22) (k := 0) (i := 0) C (by decide +kernel) rfl rfl ?_
    refine zs_getR (o' := 99) (pc := 23) (i := 18) (ci := 7) (k := 2) C (by decide +kernel) fl_RX7_18 rfl rfl rfl ?_
    refine zs_iload (pc := 26) (i := 8) C (by decide +kernel) rfl ?_
    refine zs_aload_n (pc := 28) (k := 1) (i := 1) C (by decide +kernel) rfl rfl ?_
    refine zs_iconst (pc := 29) (n := 1) (x := 1) C (by decide +kernel) (by decide +kernel) ?_
    refine zs_iload_n (pc := 30) (k := 3) (i := 3) C (by decide +kernel) rfl rfl ?_
    refine zs_iload (pc := 31) (i := 8) C (by decide +kernel) rfl ?_
    refine zs_iload (pc := 33) (i := 4) C (by decide +kernel) rfl ?_
    refine zs_cvRi (pc := 35) (As := [sI 1, sI a2, sI t3, sI a3]) (st := [sI t3, sR 99]) C rfl (c_X0_landing l g 1 a2 t3 a3) ml_RX7_50 rfl rfl rfl rfl (Nat.le_of_ble_eq_true rfl) ⟨Nat.le_of_ble_eq_true rfl, Nat.le_of_ble_eq_true rfl⟩ ⟨Nat.le_of_ble_eq_true rfl, Nat.le_of_ble_eq_true rfl⟩ (by decide +kernel) (fun x26 => ?_)
    refine zs_iast (pc := 38) (o := 99) (n := 5) C (fun _ _ _ => rfl) (by decide +kernel) rfl ?_
    refine zs_iinc (pc := 39) (i := 8) (n := 1) (y := w32 (t3 + 1)) (ls' := [(8, sI (w32 (t3 + 1))), (0, sR 96), (1, sR 18), (2, sI a1), (3, sI a2), (4, sI a3), (5, sI a4), (6, sL x2)]) C (by decide +kernel) rfl rfl (Nat.le_of_ble_eq_true rfl) rfl ?_
    refine zs_goto (pc := 42) (off := (-26)) (tgt := 16) C (by decide +kernel) (by decide) ?_
    exact zs_goj (hK4 (w32 (t3 + 1))) ⟨rfl, rfl, rfl, rfl, rfl, rfl, rfl, rfl, trivial⟩
set_option maxRecDepth 20000 in
theorem c_X7_goOn (l : Launch) (g : GC) (a1 : Int) (a2 : Int) : ConV l g yX7_goOn cX7_goOn 6 (rmd 5 0 0) [sR 96, sR 18, sI a1, sI a2] (fun mm => fX7_goOn a1 a2 mm) := by
  refine zs_ofV (by decide +kernel) (Nat.le_of_ble_eq_true rfl) ?_
  intro p e s m args below meth c C hr
  replace C : Bd g RX7 cX7_goOn 6 p s m args meth c := C
  unfold fX7_goOn
  refine zs_aload_n (pc := 0) (k := 1) (i := 1) C (by decide +kernel) rfl rfl ?_
  refine zs_iload_n (pc := 1) (k := 2) (i := 2) C (by decide +kernel) rfl rfl ?_
  refine zs_cvVv (pc := 2) (As := [sI a1]) (st := []) C (fun _ _ _ => rfl) (c_X0_foresee l g a1) ml_RX7_42 rfl rfl rfl rfl (Nat.le_of_ble_eq_true rfl) ⟨Nat.le_of_ble_eq_true rfl, Nat.le_of_ble_eq_true rfl⟩ ⟨Nat.le_of_ble_eq_true rfl, Nat.le_of_ble_eq_true rfl⟩ (by decide +kernel) ?_
  refine zs_aload_n (pc := 5) (k := 0) (i := 0) C (by decide +kernel) rfl rfl ?_
  refine zs_getM (pc := 6) (i := 15) (ci := 7) (k := 1) C (by decide +kernel) fl_RX7_15 rfl rfl (fun x1 => ?_)
  refine zs_need (fun hx1 => ?_)
  refine zs_lconst (pc := 9) (n := 0) (x := 0) C (by decide +kernel) (by decide +kernel) ?_
  refine zs_csVv (pc := 10) (As := [sR x1, sL 0]) (st := []) C (fun _ _ _ => rfl) (c_J7_fill_d0a16 l g x1 625 0 hx1) ml_RX7_29 rfl rfl (Nat.le_of_ble_eq_true rfl) ⟨Nat.le_of_ble_eq_true rfl, Nat.le_of_ble_eq_true rfl⟩ ⟨Nat.le_of_ble_eq_true rfl, Nat.le_of_ble_eq_true rfl⟩ (by decide +kernel) ?_
  refine zs_iconst (pc := 13) (n := 0) (x := 0) C (by decide +kernel) (by decide +kernel) ?_
  refine zs_istore (pc := 14) (i := 4) (ls' := [(4, sI 0), (0, sR 96), (1, sR 18), (2, sI a1), (3, sI a2)]) C (by decide +kernel) (Nat.le_of_ble_eq_true rfl) rfl ?_
  refine zs_sub (ls' := [(0, sR 96), (1, sR 18), (2, sI a1), (3, sI a2), (4, sI 0)]) ⟨rfl, rfl, rfl, rfl, rfl, trivial⟩ ?_
  refine zs_lp (pc := 16) (fun (t2 : Int) => [(0, sR 96), (1, sR 18), (2, sI a1), (3, sI a2), (4, sI t2)]) (fun _ => []) (fun K3 hK3 t2 => ?_) BIG 0
  refine zs_iload (pc := 16) (i := 4) C (by decide +kernel) rfl ?_
  refine zs_aload_n (pc := 18) (k := 0) (i := 0) C (by decide +kernel) rfl rfl ?_
  refine zs_getI (pc := 19) (i := 22) (ci := 7) (k := 3) C (by decide +kernel) fl_RX7_22 rfl rfl (fun x4 => ?_)
  refine zs_icmp_ge (pc := 22) (off := 56) (tgt := 78) C (by decide +kernel) (by decide) ?_ ?_
  · refine zs_aload_n (pc := 78) (k := 0) (i := 0) C (by decide +kernel) rfl rfl ?_
    refine zs_getM (pc := 79) (i := 9) (ci := 7) (k := 0) C (by decide +kernel) fl_RX7_9 rfl rfl (fun x5 => ?_)
    refine zs_need (fun hx5 => ?_)
    refine zs_astore (pc := 82) (i := 4) (ls' := [(4, sR x5), (0, sR 96), (1, sR 18), (2, sI a1), (3, sI a2)]) C (by decide +kernel) (Nat.le_of_ble_eq_true rfl) rfl ?_
    refine zs_aload_n (pc := 84) (k := 0) (i := 0) C (by decide +kernel) rfl rfl ?_
    refine zs_aload_n (pc := 85) (k := 0) (i := 0) C (by decide +kernel) rfl rfl ?_
    refine zs_getM (pc := 86) (i := 15) (ci := 7) (k := 1) C (by decide +kernel) fl_RX7_15 rfl rfl (fun x6 => ?_)
    refine zs_need (fun hx6 => ?_)
    refine zs_putM (hty := rfl) (pc := 89) (i := 9) (ci := 7) (k := 0) C (fun _ _ _ => rfl) (by decide +kernel) fl_RX7_9 fw_7_0 rfl rfl ?_
    refine zs_aload_n (pc := 92) (k := 0) (i := 0) C (by decide +kernel) rfl rfl ?_
    refine zs_aload (pc := 93) (i := 4) C (by decide +kernel) rfl ?_
    refine zs_putM (hty := rfl) (pc := 95) (i := 15) (ci := 7) (k := 1) C (fun _ _ _ => rfl) (by decide +kernel) fl_RX7_15 fw_7_1 rfl rfl ?_
    exact zs_retVv (pc := 98) C hr ⟨Nat.le_of_ble_eq_true rfl, Nat.le_of_ble_eq_true rfl⟩ (by decide +kernel)
  · refine zs_iconst (pc := 25) (n := 0) (x := 0) C (by decide +kernel) (by decide +kernel) ?_
    refine zs_istore (pc := 26) (i := 5) (ls' := [(5, sI 0), (0, sR 96), (1, sR 18), (2, sI a1), (3, sI a2), (4, sI t2)]) C (by decide +kernel) (Nat.le_of_ble_eq_true rfl) rfl ?_
    refine zs_sub (ls' := [(0, sR 96), (1, sR 18), (2, sI a1), (3, sI a2), (4, sI t2), (5, sI 0)]) ⟨rfl, rfl, rfl, rfl, rfl, rfl, trivial⟩ ?_
    refine zs_lp (pc := 28) (fun (t7 : Int) => [(0, sR 96), (1, sR 18), (2, sI a1), (3, sI a2), (4, sI t2), (5, sI t7)]) (fun _ => []) (fun K8 hK8 t7 => ?_) BIG 0
    refine zs_iload (pc := 28) (i := 5) C (by decide +kernel) rfl ?_
    refine zs_aload_n (pc := 30) (k := 0) (i := 0) C (by decide +kernel) rfl rfl ?_
    refine zs_getI (pc := 31) (i := 22) (ci := 7) (k := 3) C (by decide +kernel) fl_RX7_22 rfl rfl (fun x9 => ?_)
    refine zs_icmp_ge (pc := 34) (off := 38) (tgt := 72) C (by decide +kernel) (by decide) ?_ ?_
    · refine zs_iinc (pc := 72) (i := 4) (n := 1) (y := w32 (t2 + 1)) (ls' := [(4, sI (w32 (t2 + 1))), (0, sR 96), (1, sR 18), (2, sI a1), (3, sI a2), (5, sI t7)]) C (by decide +kernel) rfl rfl (Nat.le_of_ble_eq_true rfl) rfl ?_
      refine zs_goto (pc := 75) (off := (-59)) (tgt := 16) C (by decide +kernel) (by decide) ?_
      exact zs_goj (hK3 (w32 (t2 + 1))) ⟨rfl, rfl, rfl, rfl, rfl, trivial⟩
    · refine zs_aload_n (pc := 37) (k := 0) (i := 0) C (by decide +kernel) rfl rfl ?_
      refine zs_getM (pc := 38) (i := 9) (ci := 7) (k := 0) C (by decide +kernel) fl_RX7_9 rfl rfl (fun x10 => ?_)
      refine zs_need (fun hx10 => ?_)
      refine zs_iload (pc := 41) (i := 4) C (by decide +kernel) rfl ?_
      refine zs_bipush (pc := 43) (n := 25) (x := 25) C (by decide +kernel) (by decide +kernel) ?_
      refine zs_imul (pc := 45) C (by decide +kernel) ?_
      refine zs_iload (pc := 46) (i := 5) C (by decide +kernel) rfl ?_
      refine zs_iadd (pc := 48) C (by decide +kernel) ?_
      refine zs_lald (pc := 49) (o := x10) (n := 625) C (by decide +kernel) hx10 (fun hinx11 x11 => ?_)
      refine zs_lconst (pc := 50) (n := 0) (x := 0) C (by decide +kernel) (by decide +kernel) ?_
      refine zs_jn (pJ := 66) (kJ := 0) (sJ := 0) (fun t12 => [(0, sR 96), (1, sR 18), (2, sI a1), (3, sI a2), (4, sI t2), (5, sI t7)]) (fun t12 => []) (fun t12 => ?_) (fun J13 hJ13 => ?_)
      · refine zs_iinc (pc := 66) (i := 5) (n := 1) (y := w32 (t7 + 1)) (ls' := [(5, sI (w32 (t7 + 1))), (0, sR 96), (1, sR 18), (2, sI a1), (3, sI a2), (4, sI t2)]) C (by decide +kernel) rfl rfl (Nat.le_of_ble_eq_true rfl) rfl ?_
        refine zs_goto (pc := 69) (off := (-41)) (tgt := 28) C (by decide +kernel) (by decide) ?_
        exact zs_goj (hK8 (w32 (t7 + 1))) ⟨rfl, rfl, rfl, rfl, rfl, rfl, trivial⟩
      · refine zs_lcmp_eq (pc := 51) (off := 14) (tgt := 66) C (by decide +kernel) (by decide +kernel) (by decide) ?_ ?_
        · exact zs_goj (hJ13 ()) ⟨rfl, rfl, rfl, rfl, rfl, rfl, trivial⟩
        · refine zs_aload_n (pc := 55) (k := 0) (i := 0) C (by decide +kernel) rfl rfl ?_
          refine zs_aload_n (pc := 56) (k := 1) (i := 1) C (by decide +kernel) rfl rfl ?_
          refine zs_iload (pc := 57) (i := 4) C (by decide +kernel) rfl ?_
          refine zs_iload (pc := 59) (i := 5) C (by decide +kernel) rfl ?_
          refine zs_iload_n (pc := 61) (k := 2) (i := 2) C (by decide +kernel) rfl rfl ?_
          refine zs_iload_n (pc := 62) (k := 3) (i := 3) C (by decide +kernel) rfl rfl ?_
          refine zs_cvVv (pc := 63) (As := [sR 18, sI t2, sI t7, sI a1, sI a2]) (st := []) C (fun _ _ _ => rfl) (c_X7_push l g t2 t7 a1 a2) ml_RX7_46 rfl rfl rfl rfl (Nat.le_of_ble_eq_true rfl) ⟨Nat.le_of_ble_eq_true rfl, Nat.le_of_ble_eq_true rfl⟩ ⟨Nat.le_of_ble_eq_true rfl, Nat.le_of_ble_eq_true rfl⟩ (by decide +kernel) ?_
          exact zs_goj (hJ13 ()) ⟨rfl, rfl, rfl, rfl, rfl, rfl, trivial⟩
set_option maxRecDepth 20000 in
theorem c_X7_at (l : Launch) (g : GC) (a0 : Int) (a1 : Int) : ConR l g yX7_at cX7_at 3 (some .long) (rmd 1 0 0) [sR 96, sI a0, sI a1] (fun mm => fX7_at a0 a1 mm) := by
  refine zs_ofR (by decide +kernel) (Nat.le_of_ble_eq_true rfl) ?_
  intro p e s m args below meth c C hr
  replace C : Bd g RX7 cX7_at 3 p s m args meth c := C
  unfold fX7_at
  refine zs_aload_n (pc := 0) (k := 0) (i := 0) C (by decide +kernel) rfl rfl ?_
  refine zs_getM (pc := 1) (i := 9) (ci := 7) (k := 0) C (by decide +kernel) fl_RX7_9 rfl rfl (fun x1 => ?_)
  refine zs_need (fun hx1 => ?_)
  refine zs_iload_n (pc := 4) (k := 1) (i := 1) C (by decide +kernel) rfl rfl ?_
  refine zs_bipush (pc := 5) (n := 25) (x := 25) C (by decide +kernel) (by decide +kernel) ?_
  refine zs_imul (pc := 7) C (by decide +kernel) ?_
  refine zs_iload_n (pc := 8) (k := 2) (i := 2) C (by decide +kernel) rfl rfl ?_
  refine zs_iadd (pc := 9) C (by decide +kernel) ?_
  refine zs_lald (pc := 10) (o := x1) (n := 625) C (by decide +kernel) hx1 (fun hinx2 x2 => ?_)
  exact zs_retRl (pc := 11) C hr ⟨Nat.le_of_ble_eq_true rfl, Nat.le_of_ble_eq_true rfl⟩ (by decide +kernel)
set_option maxRecDepth 20000 in
theorem c_X11_ways (l : Launch) (g : GC) (hl : l.stackTraces = false) (a0 : Int) (a1 : Int) (a2 : Int) (a3 : Int) : ConT l g yX11_ways cX11_ways 6 (some .long) (rmd 9 4 24) [sR 0, sI a0, sI a1, sI a2, sI a3] (fun mm => fX11_ways a0 a1 a2 a3 mm) := by
  refine zs_ofT (by decide +kernel) (Nat.le_of_ble_eq_true rfl) ?_
  intro p e s m args below meth c C hr hE
  replace C : Bd g RX11 cX11_ways 6 p s m args meth c := C
  unfold fX11_ways
  refine zs_aload_n (pc := 0) (k := 0) (i := 0) C (by decide +kernel) rfl rfl ?_
  refine zs_iload_n (pc := 1) (k := 1) (i := 1) C (by decide +kernel) rfl rfl ?_
  refine zs_iload_n (pc := 2) (k := 2) (i := 2) C (by decide +kernel) rfl rfl ?_
  refine zs_iload_n (pc := 3) (k := 3) (i := 3) C (by decide +kernel) rfl rfl ?_
  refine zs_cvTv (pc := 4) (As := [sI a0, sI a1, sI a2]) (st := []) C hE (c_X11_needWalk l g hl a0 a1 a2) ml_RX11_274 rfl rfl rfl rfl (Nat.le_of_ble_eq_true rfl) ⟨Nat.le_of_ble_eq_true rfl, Nat.le_of_ble_eq_true rfl⟩ ⟨Nat.le_of_ble_eq_true rfl, Nat.le_of_ble_eq_true rfl⟩ ⟨Nat.le_of_ble_eq_true rfl, Nat.le_of_ble_eq_true rfl⟩ (by decide +kernel) ?_
  refine zs_aload_n (pc := 7) (k := 0) (i := 0) C (by decide +kernel) rfl rfl ?_
  refine zs_iload (pc := 8) (i := 4) C (by decide +kernel) rfl ?_
  refine zs_iconst (pc := 10) (n := 0) (x := 0) C (by decide +kernel) (by decide +kernel) ?_
  refine zs_bipush (pc := 11) (n := 8) (x := 8) C (by decide +kernel) (by decide +kernel) ?_
  refine zs_cvTv (pc := 13) (As := [sI a3, sI 0, sI 8]) (st := []) C hE (c_X11_needWithin l g hl a3 0 8) ml_RX11_179 rfl rfl rfl rfl (Nat.le_of_ble_eq_true rfl) ⟨Nat.le_of_ble_eq_true rfl, Nat.le_of_ble_eq_true rfl⟩ ⟨Nat.le_of_ble_eq_true rfl, Nat.le_of_ble_eq_true rfl⟩ ⟨Nat.le_of_ble_eq_true rfl, Nat.le_of_ble_eq_true rfl⟩ (by decide +kernel) ?_
  refine zs_aload_n (pc := 16) (k := 0) (i := 0) C (by decide +kernel) rfl rfl ?_
  refine zs_getR (o' := 18) (pc := 17) (i := 33) (ci := 11) (k := 5) C (by decide +kernel) fl_RX11_33 rfl rfl rfl ?_
  refine zs_iload_n (pc := 20) (k := 1) (i := 1) C (by decide +kernel) rfl rfl ?_
  refine zs_cvVv (pc := 21) (As := [sI a0]) (st := []) C (fun _ _ _ => rfl) (c_X0_begin l g a0) ml_RX11_251 rfl rfl rfl rfl (Nat.le_of_ble_eq_true rfl) ⟨Nat.le_of_ble_eq_true rfl, Nat.le_of_ble_eq_true rfl⟩ ⟨Nat.le_of_ble_eq_true rfl, Nat.le_of_ble_eq_true rfl⟩ (by decide +kernel) ?_
  refine zs_aload_n (pc := 24) (k := 0) (i := 0) C (by decide +kernel) rfl rfl ?_
  refine zs_getR (o' := 96) (pc := 25) (i := 62) (ci := 11) (k := 10) C (by decide +kernel) fl_RX11_62 rfl rfl rfl ?_
  refine zs_aload_n (pc := 28) (k := 0) (i := 0) C (by decide +kernel) rfl rfl ?_
  refine zs_getR (o' := 18) (pc := 29) (i := 33) (ci := 11) (k := 5) C (by decide +kernel) fl_RX11_33 rfl rfl rfl ?_
  refine zs_cvVv (pc := 32) (As := [sR 18]) (st := []) C (fun _ _ _ => rfl) (c_X7_start l g ) ml_RX11_291 rfl rfl rfl rfl (Nat.le_of_ble_eq_true rfl) ⟨Nat.le_of_ble_eq_true rfl, Nat.le_of_ble_eq_true rfl⟩ ⟨Nat.le_of_ble_eq_true rfl, Nat.le_of_ble_eq_true rfl⟩ (by decide +kernel) ?_
  refine zs_iconst (pc := 35) (n := 1) (x := 1) C (by decide +kernel) (by decide +kernel) ?_
  refine zs_istore (pc := 36) (i := 5) (ls' := [(5, sI 1), (0, sR 0), (1, sI a0), (2, sI a1), (3, sI a2), (4, sI a3)]) C (by decide +kernel) (Nat.le_of_ble_eq_true rfl) rfl ?_
  refine zs_sub (ls' := [(0, sR 0), (2, sI a1), (3, sI a2), (4, sI a3), (5, sI 1)]) ⟨rfl, rfl, rfl, rfl, rfl, trivial⟩ ?_
  refine zs_lp (pc := 38) (fun (t1 : Int) => [(0, sR 0), (2, sI a1), (3, sI a2), (4, sI a3), (5, sI t1)]) (fun _ => []) (fun K2 hK2 t1 => ?_) BIG 1
  refine zs_iload (pc := 38) (i := 5) C (by decide +kernel) rfl ?_
  refine zs_iload (pc := 40) (i := 4) C (by decide +kernel) rfl ?_
  refine zs_icmp_gt (pc := 42) (off := 23) (tgt := 65) C (by decide +kernel) (by decide) ?_ ?_
  · refine zs_aload_n (pc := 65) (k := 0) (i := 0) C (by decide +kernel) rfl rfl ?_
    refine zs_getR (o' := 96) (pc := 66) (i := 62) (ci := 11) (k := 10) C (by decide +kernel) fl_RX11_62 rfl rfl rfl ?_
    refine zs_iload_n (pc := 69) (k := 2) (i := 2) C (by decide +kernel) rfl rfl ?_
    refine zs_iload_n (pc := 70) (k := 3) (i := 3) C (by decide +kernel) rfl rfl ?_
    refine zs_cvRl (pc := 71) (As := [sI a1, sI a2]) (st := []) C (c_X7_at l g a1 a2) ml_RX11_299 rfl rfl rfl rfl (Nat.le_of_ble_eq_true rfl) ⟨Nat.le_of_ble_eq_true rfl, Nat.le_of_ble_eq_true rfl⟩ ⟨Nat.le_of_ble_eq_true rfl, Nat.le_of_ble_eq_true rfl⟩ (by decide +kernel) (fun x3 => ?_)
    exact zs_retTl (pc := 74) C hr ⟨Nat.le_of_ble_eq_true rfl, Nat.le_of_ble_eq_true rfl⟩ (by decide +kernel)
  · refine zs_aload_n (pc := 45) (k := 0) (i := 0) C (by decide +kernel) rfl rfl ?_
    refine zs_getR (o' := 96) (pc := 46) (i := 62) (ci := 11) (k := 10) C (by decide +kernel) fl_RX11_62 rfl rfl rfl ?_
    refine zs_aload_n (pc := 49) (k := 0) (i := 0) C (by decide +kernel) rfl rfl ?_
    refine zs_getR (o' := 18) (pc := 50) (i := 33) (ci := 11) (k := 5) C (by decide +kernel) fl_RX11_33 rfl rfl rfl ?_
    refine zs_iload (pc := 53) (i := 5) C (by decide +kernel) rfl ?_
    refine zs_iconst (pc := 55) (n := (-1)) (x := (-1)) C (by decide +kernel) (by decide +kernel) ?_
    refine zs_cvVv (pc := 56) (As := [sR 18, sI t1, sI ((-1))]) (st := []) C (fun _ _ _ => rfl) (c_X7_goOn l g t1 (-1)) ml_RX11_295 rfl rfl rfl rfl (Nat.le_of_ble_eq_true rfl) ⟨Nat.le_of_ble_eq_true rfl, Nat.le_of_ble_eq_true rfl⟩ ⟨Nat.le_of_ble_eq_true rfl, Nat.le_of_ble_eq_true rfl⟩ (by decide +kernel) ?_
    refine zs_iinc (pc := 59) (i := 5) (n := 1) (y := w32 (t1 + 1)) (ls' := [(5, sI (w32 (t1 + 1))), (0, sR 0), (2, sI a1), (3, sI a2), (4, sI a3)]) C (by decide +kernel) rfl rfl (Nat.le_of_ble_eq_true rfl) rfl ?_
    refine zs_goto (pc := 62) (off := (-24)) (tgt := 38) C (by decide +kernel) (by decide) ?_
    exact zs_goj (hK2 (w32 (t1 + 1))) ⟨rfl, rfl, rfl, rfl, rfl, trivial⟩
set_option maxRecDepth 20000 in
theorem c_X0_hoursOfOne (l : Launch) (g : GC) (a0 : Int) (a1 : Int) : ConW l g yX0_hoursOfOne cX0_hoursOfOne 4 (some .int) (rmd 6 0 0) [sR 18, sI a0, sI a1] (fun mm => fX0_hoursOfOne a0 a1 mm) := by
  refine zs_ofW (by decide +kernel) (Nat.le_of_ble_eq_true rfl) ?_
  intro p e s m args below meth c C hr
  replace C : Bd g RX0 cX0_hoursOfOne 4 p s m args meth c := C
  unfold fX0_hoursOfOne
  refine zs_aload_n (pc := 0) (k := 0) (i := 0) C (by decide +kernel) rfl rfl ?_
  refine zs_cvVv (pc := 1) (As := []) (st := []) C (fun _ _ _ => rfl) (c_X0_start l g ) ml_RX0_170 rfl rfl rfl rfl (Nat.le_of_ble_eq_true rfl) ⟨Nat.le_of_ble_eq_true rfl, Nat.le_of_ble_eq_true rfl⟩ ⟨Nat.le_of_ble_eq_true rfl, Nat.le_of_ble_eq_true rfl⟩ (by decide +kernel) ?_
  refine zs_iconst (pc := 4) (n := 0) (x := 0) C (by decide +kernel) (by decide +kernel) ?_
  refine zs_istore_n (pc := 5) (k := 3) (i := 3) (ls' := [(3, sI 0), (0, sR 18), (1, sI a0), (2, sI a1)]) C (by decide +kernel) rfl (Nat.le_of_ble_eq_true rfl) rfl ?_
  refine zs_sub (ls' := [(0, sR 18), (1, sI a0), (2, sI a1), (3, sI 0)]) ⟨rfl, rfl, rfl, rfl, trivial⟩ ?_
  refine zs_lp (pc := 6) (fun (t1 : Int) => [(0, sR 18), (1, sI a0), (2, sI a1), (3, sI t1)]) (fun _ => []) (fun K2 hK2 t1 => ?_) BIG 0
  refine zs_iload_n (pc := 6) (k := 3) (i := 3) C (by decide +kernel) rfl rfl ?_
  refine zs_bipush (pc := 7) (n := 40) (x := 40) C (by decide +kernel) (by decide +kernel) ?_
  refine zs_icmp_gt (pc := 9) (off := 38) (tgt := 47) C (by decide +kernel) (by decide) ?_ ?_
  · refine zs_iconst (pc := 47) (n := (-1)) (x := (-1)) C (by decide +kernel) (by decide +kernel) ?_
    exact zs_retWi (pc := 48) C hr ⟨Nat.le_of_ble_eq_true rfl, Nat.le_of_ble_eq_true rfl⟩ (by decide +kernel)
  · refine zs_iload_n (pc := 12) (k := 3) (i := 3) C (by decide +kernel) rfl rfl ?_
    refine zs_jn (pJ := 26) (kJ := 0) (sJ := 0) (fun t3 => [(0, sR 18), (1, sI a0), (2, sI a1), (3, sI t1)]) (fun t3 => []) (fun t3 => ?_) (fun J4 hJ4 => ?_)
    · refine zs_aload_n (pc := 26) (k := 0) (i := 0) C (by decide +kernel) rfl rfl ?_
      refine zs_iload_n (pc := 27) (k := 1) (i := 1) C (by decide +kernel) rfl rfl ?_
      refine zs_iload_n (pc := 28) (k := 3) (i := 3) C (by decide +kernel) rfl rfl ?_
      refine zs_cvRi (pc := 29) (As := [sI a0, sI t1]) (st := []) C rfl (c_X0_whereIs l g a0 t1) ml_RX0_179 rfl rfl rfl rfl (Nat.le_of_ble_eq_true rfl) ⟨Nat.le_of_ble_eq_true rfl, Nat.le_of_ble_eq_true rfl⟩ ⟨Nat.le_of_ble_eq_true rfl, Nat.le_of_ble_eq_true rfl⟩ (by decide +kernel) (fun x5 => ?_)
      refine zs_iload_n (pc := 32) (k := 2) (i := 2) C (by decide +kernel) rfl rfl ?_
      refine zs_iushr (pc := 33) C (by decide +kernel) ?_
      refine zs_iconst (pc := 34) (n := 1) (x := 1) C (by decide +kernel) (by decide +kernel) ?_
      refine zs_iand (pc := 35) C (by decide +kernel) ?_
      refine zs_if_eq (pc := 36) (off := 5) (tgt := 41) C (by decide +kernel) (by decide) ?_ ?_
      · refine zs_iinc (pc := 41) (i := 3) (n := 1) (y := w32 (t1 + 1)) (ls' := [(3, sI (w32 (t1 + 1))), (0, sR 18), (1, sI a0), (2, sI a1)]) C (by decide +kernel) rfl rfl (Nat.le_of_ble_eq_true rfl) rfl ?_
        refine zs_goto (pc := 44) (off := (-38)) (tgt := 6) C (by decide +kernel) (by decide) ?_
        exact zs_goj (hK2 (w32 (t1 + 1))) ⟨rfl, rfl, rfl, rfl, trivial⟩
      · refine zs_iload_n (pc := 39) (k := 3) (i := 3) C (by decide +kernel) rfl rfl ?_
        exact zs_retWi (pc := 40) C hr ⟨Nat.le_of_ble_eq_true rfl, Nat.le_of_ble_eq_true rfl⟩ (by decide +kernel)
    · refine zs_if_le (pc := 13) (off := 13) (tgt := 26) C (by decide +kernel) (by decide) ?_ ?_
      · exact zs_goj (hJ4 ()) ⟨rfl, rfl, rfl, rfl, trivial⟩
      · refine zs_aload_n (pc := 16) (k := 0) (i := 0) C (by decide +kernel) rfl rfl ?_
        refine zs_iload_n (pc := 17) (k := 3) (i := 3) C (by decide +kernel) rfl rfl ?_
        refine zs_cvWi (pc := 18) (As := [sI t1]) (st := []) C (fun _ _ _ => rfl) rfl (c_X0_goOn l g t1) ml_RX0_173 rfl rfl rfl rfl (Nat.le_of_ble_eq_true rfl) ⟨Nat.le_of_ble_eq_true rfl, Nat.le_of_ble_eq_true rfl⟩ ⟨Nat.le_of_ble_eq_true rfl, Nat.le_of_ble_eq_true rfl⟩ (by decide +kernel) (fun x6 => ?_)
        refine zs_if_ne (pc := 21) (off := 5) (tgt := 26) C (by decide +kernel) (by decide) ?_ ?_
        · exact zs_goj (hJ4 ()) ⟨rfl, rfl, rfl, rfl, trivial⟩
        · refine zs_iconst (pc := 24) (n := (-1)) (x := (-1)) C (by decide +kernel) (by decide +kernel) ?_
          exact zs_retWi (pc := 25) C hr ⟨Nat.le_of_ble_eq_true rfl, Nat.le_of_ble_eq_true rfl⟩ (by decide +kernel)
set_option maxRecDepth 20000 in
theorem c_X11_alone (l : Launch) (g : GC) (hl : l.stackTraces = false) (a0 : Int) (a1 : Int) (a2 : Int) : ConT l g yX11_alone cX11_alone 4 (some .int) (rmd 8 3 18) [sR 0, sI a0, sI a1, sI a2] (fun mm => fX11_alone a0 a1 a2 mm) := by
  refine zs_ofT (by decide +kernel) (Nat.le_of_ble_eq_true rfl) ?_
  intro p e s m args below meth c C hr hE
  replace C : Bd g RX11 cX11_alone 4 p s m args meth c := C
  unfold fX11_alone
  refine zs_aload_n (pc := 0) (k := 0) (i := 0) C (by decide +kernel) rfl rfl ?_
  refine zs_iload_n (pc := 1) (k := 1) (i := 1) C (by decide +kernel) rfl rfl ?_
  refine zs_cvTv (pc := 2) (As := [sI a0]) (st := []) C hE (c_X11_needPair l g hl a0) ml_RX11_134 rfl rfl rfl rfl (Nat.le_of_ble_eq_true rfl) ⟨Nat.le_of_ble_eq_true rfl, Nat.le_of_ble_eq_true rfl⟩ ⟨Nat.le_of_ble_eq_true rfl, Nat.le_of_ble_eq_true rfl⟩ ⟨Nat.le_of_ble_eq_true rfl, Nat.le_of_ble_eq_true rfl⟩ (by decide +kernel) ?_
  refine zs_aload_n (pc := 5) (k := 0) (i := 0) C (by decide +kernel) rfl rfl ?_
  refine zs_iload_n (pc := 6) (k := 3) (i := 3) C (by decide +kernel) rfl rfl ?_
  refine zs_cvTv (pc := 7) (As := [sI a2]) (st := []) C hE (c_X11_needPlace l g hl a2) ml_RX11_120 rfl rfl rfl rfl (Nat.le_of_ble_eq_true rfl) ⟨Nat.le_of_ble_eq_true rfl, Nat.le_of_ble_eq_true rfl⟩ ⟨Nat.le_of_ble_eq_true rfl, Nat.le_of_ble_eq_true rfl⟩ ⟨Nat.le_of_ble_eq_true rfl, Nat.le_of_ble_eq_true rfl⟩ (by decide +kernel) ?_
  refine zs_aload_n (pc := 10) (k := 0) (i := 0) C (by decide +kernel) rfl rfl ?_
  refine zs_iload_n (pc := 11) (k := 2) (i := 2) C (by decide +kernel) rfl rfl ?_
  refine zs_iconst (pc := 12) (n := 0) (x := 0) C (by decide +kernel) (by decide +kernel) ?_
  refine zs_iconst (pc := 13) (n := 1) (x := 1) C (by decide +kernel) (by decide +kernel) ?_
  refine zs_cvTv (pc := 14) (As := [sI a1, sI 0, sI 1]) (st := []) C hE (c_X11_needWithin l g hl a1 0 1) ml_RX11_179 rfl rfl rfl rfl (Nat.le_of_ble_eq_true rfl) ⟨Nat.le_of_ble_eq_true rfl, Nat.le_of_ble_eq_true rfl⟩ ⟨Nat.le_of_ble_eq_true rfl, Nat.le_of_ble_eq_true rfl⟩ ⟨Nat.le_of_ble_eq_true rfl, Nat.le_of_ble_eq_true rfl⟩ (by decide +kernel) ?_
  refine zs_aload_n (pc := 17) (k := 0) (i := 0) C (by decide +kernel) rfl rfl ?_
  refine zs_getR (o' := 18) (pc := 18) (i := 33) (ci := 11) (k := 5) C (by decide +kernel) fl_RX11_33 rfl rfl rfl ?_
  refine zs_iload_n (pc := 21) (k := 1) (i := 1) C (by decide +kernel) rfl rfl ?_
  refine zs_cvVv (pc := 22) (As := [sI a0]) (st := []) C (fun _ _ _ => rfl) (c_X0_begin l g a0) ml_RX11_251 rfl rfl rfl rfl (Nat.le_of_ble_eq_true rfl) ⟨Nat.le_of_ble_eq_true rfl, Nat.le_of_ble_eq_true rfl⟩ ⟨Nat.le_of_ble_eq_true rfl, Nat.le_of_ble_eq_true rfl⟩ (by decide +kernel) ?_
  refine zs_aload_n (pc := 25) (k := 0) (i := 0) C (by decide +kernel) rfl rfl ?_
  refine zs_getR (o' := 18) (pc := 26) (i := 33) (ci := 11) (k := 5) C (by decide +kernel) fl_RX11_33 rfl rfl rfl ?_
  refine zs_iload_n (pc := 29) (k := 2) (i := 2) C (by decide +kernel) rfl rfl ?_
  refine zs_iload_n (pc := 30) (k := 3) (i := 3) C (by decide +kernel) rfl rfl ?_
  refine zs_cvWi (pc := 31) (As := [sI a1, sI a2]) (st := []) C (fun _ _ _ => rfl) rfl (c_X0_hoursOfOne l g a1 a2) ml_RX11_300 rfl rfl rfl rfl (Nat.le_of_ble_eq_true rfl) ⟨Nat.le_of_ble_eq_true rfl, Nat.le_of_ble_eq_true rfl⟩ ⟨Nat.le_of_ble_eq_true rfl, Nat.le_of_ble_eq_true rfl⟩ (by decide +kernel) (fun x1 => ?_)
  exact zs_retTi (pc := 34) C hr ⟨Nat.le_of_ble_eq_true rfl, Nat.le_of_ble_eq_true rfl⟩ (by decide +kernel)
set_option maxRecDepth 20000 in
theorem c_X11_costs (l : Launch) (g : GC) (hl : l.stackTraces = false) (a0 : Int) (a1 : Int) (a2 : Int) : ConT l g yX11_costs cX11_costs 6 (some .int) (rmd 8 3 18) [sR 0, sI a0, sI a1, sI a2] (fun mm => fX11_costs a0 a1 a2 mm) := by
  refine zs_ofT (by decide +kernel) (Nat.le_of_ble_eq_true rfl) ?_
  intro p e s m args below meth c C hr hE
  replace C : Bd g RX11 cX11_costs 6 p s m args meth c := C
  unfold fX11_costs
  refine zs_aload_n (pc := 0) (k := 0) (i := 0) C (by decide +kernel) rfl rfl ?_
  refine zs_iload_n (pc := 1) (k := 1) (i := 1) C (by decide +kernel) rfl rfl ?_
  refine zs_cvTv (pc := 2) (As := [sI a0]) (st := []) C hE (c_X11_needPair l g hl a0) ml_RX11_134 rfl rfl rfl rfl (Nat.le_of_ble_eq_true rfl) ⟨Nat.le_of_ble_eq_true rfl, Nat.le_of_ble_eq_true rfl⟩ ⟨Nat.le_of_ble_eq_true rfl, Nat.le_of_ble_eq_true rfl⟩ ⟨Nat.le_of_ble_eq_true rfl, Nat.le_of_ble_eq_true rfl⟩ (by decide +kernel) ?_
  refine zs_aload_n (pc := 5) (k := 0) (i := 0) C (by decide +kernel) rfl rfl ?_
  refine zs_iload_n (pc := 6) (k := 3) (i := 3) C (by decide +kernel) rfl rfl ?_
  refine zs_cvTv (pc := 7) (As := [sI a2]) (st := []) C hE (c_X11_needPlace l g hl a2) ml_RX11_120 rfl rfl rfl rfl (Nat.le_of_ble_eq_true rfl) ⟨Nat.le_of_ble_eq_true rfl, Nat.le_of_ble_eq_true rfl⟩ ⟨Nat.le_of_ble_eq_true rfl, Nat.le_of_ble_eq_true rfl⟩ ⟨Nat.le_of_ble_eq_true rfl, Nat.le_of_ble_eq_true rfl⟩ (by decide +kernel) ?_
  refine zs_aload_n (pc := 10) (k := 0) (i := 0) C (by decide +kernel) rfl rfl ?_
  refine zs_iload_n (pc := 11) (k := 2) (i := 2) C (by decide +kernel) rfl rfl ?_
  refine zs_iconst (pc := 12) (n := 0) (x := 0) C (by decide +kernel) (by decide +kernel) ?_
  refine zs_iconst (pc := 13) (n := 1) (x := 1) C (by decide +kernel) (by decide +kernel) ?_
  refine zs_cvTv (pc := 14) (As := [sI a1, sI 0, sI 1]) (st := []) C hE (c_X11_needWithin l g hl a1 0 1) ml_RX11_179 rfl rfl rfl rfl (Nat.le_of_ble_eq_true rfl) ⟨Nat.le_of_ble_eq_true rfl, Nat.le_of_ble_eq_true rfl⟩ ⟨Nat.le_of_ble_eq_true rfl, Nat.le_of_ble_eq_true rfl⟩ ⟨Nat.le_of_ble_eq_true rfl, Nat.le_of_ble_eq_true rfl⟩ (by decide +kernel) ?_
  refine zs_aload_n (pc := 17) (k := 0) (i := 0) C (by decide +kernel) rfl rfl ?_
  refine zs_getR (o' := 18) (pc := 18) (i := 33) (ci := 11) (k := 5) C (by decide +kernel) fl_RX11_33 rfl rfl rfl ?_
  refine zs_iload_n (pc := 21) (k := 1) (i := 1) C (by decide +kernel) rfl rfl ?_
  refine zs_cvVv (pc := 22) (As := [sI a0]) (st := []) C (fun _ _ _ => rfl) (c_X0_begin l g a0) ml_RX11_251 rfl rfl rfl rfl (Nat.le_of_ble_eq_true rfl) ⟨Nat.le_of_ble_eq_true rfl, Nat.le_of_ble_eq_true rfl⟩ ⟨Nat.le_of_ble_eq_true rfl, Nat.le_of_ble_eq_true rfl⟩ (by decide +kernel) ?_
  refine zs_aload_n (pc := 25) (k := 0) (i := 0) C (by decide +kernel) rfl rfl ?_
  refine zs_getR (o' := 18) (pc := 26) (i := 33) (ci := 11) (k := 5) C (by decide +kernel) fl_RX11_33 rfl rfl rfl ?_
  refine zs_iload_n (pc := 29) (k := 2) (i := 2) C (by decide +kernel) rfl rfl ?_
  refine zs_iload_n (pc := 30) (k := 3) (i := 3) C (by decide +kernel) rfl rfl ?_
  refine zs_cvWi (pc := 31) (As := [sI a1, sI a2]) (st := []) C (fun _ _ _ => rfl) rfl (c_X0_hoursOfOne l g a1 a2) ml_RX11_300 rfl rfl rfl rfl (Nat.le_of_ble_eq_true rfl) ⟨Nat.le_of_ble_eq_true rfl, Nat.le_of_ble_eq_true rfl⟩ ⟨Nat.le_of_ble_eq_true rfl, Nat.le_of_ble_eq_true rfl⟩ (by decide +kernel) (fun x1 => ?_)
  refine zs_istore (pc := 34) (i := 4) (ls' := [(4, sI x1), (0, sR 0), (1, sI a0), (2, sI a1), (3, sI a2)]) C (by decide +kernel) (Nat.le_of_ble_eq_true rfl) rfl ?_
  refine zs_iload (pc := 36) (i := 4) C (by decide +kernel) rfl ?_
  refine zs_iconst (pc := 38) (n := (-1)) (x := (-1)) C (by decide +kernel) (by decide +kernel) ?_
  refine zs_icmp_ne (pc := 39) (off := 5) (tgt := 44) C (by decide +kernel) (by decide) ?_ ?_
  · refine zs_aload_n (pc := 44) (k := 0) (i := 0) C (by decide +kernel) rfl rfl ?_
    refine zs_getR (o' := 18) (pc := 45) (i := 33) (ci := 11) (k := 5) C (by decide +kernel) fl_RX11_33 rfl rfl rfl ?_
    refine zs_aload_n (pc := 48) (k := 0) (i := 0) C (by decide +kernel) rfl rfl ?_
    refine zs_getR (o' := 19) (pc := 49) (i := 41) (ci := 11) (k := 6) C (by decide +kernel) fl_RX11_41 rfl rfl rfl ?_
    refine zs_getR (o' := 20) (pc := 52) (i := 114) (ci := 10) (k := 0) C (by decide +kernel) fl_RX11_114 rfl rfl rfl ?_
    refine zs_getR (o' := 22) (pc := 55) (i := 137) (ci := 3) (k := 7) C (by decide +kernel) fl_RX11_137 rfl rfl rfl ?_
    refine zs_iload_n (pc := 58) (k := 1) (i := 1) C (by decide +kernel) rfl rfl ?_
    refine zs_iald (pc := 59) (o := 22) (n := 4) C (by decide +kernel) rfl (fun hinx2 x2 => ?_)
    refine zs_iconst (pc := 60) (n := 0) (x := 0) C (by decide +kernel) (by decide +kernel) ?_
    refine zs_cvVv (pc := 61) (As := [sI x2, sI 0]) (st := []) C (fun _ _ _ => rfl) (c_X0_bind l g x2 0) ml_RX11_303 rfl rfl rfl rfl (Nat.le_of_ble_eq_true rfl) ⟨Nat.le_of_ble_eq_true rfl, Nat.le_of_ble_eq_true rfl⟩ ⟨Nat.le_of_ble_eq_true rfl, Nat.le_of_ble_eq_true rfl⟩ (by decide +kernel) ?_
    refine zs_aload_n (pc := 64) (k := 0) (i := 0) C (by decide +kernel) rfl rfl ?_
    refine zs_getR (o' := 18) (pc := 65) (i := 33) (ci := 11) (k := 5) C (by decide +kernel) fl_RX11_33 rfl rfl rfl ?_
    refine zs_iload_n (pc := 68) (k := 2) (i := 2) C (by decide +kernel) rfl rfl ?_
    refine zs_iload_n (pc := 69) (k := 3) (i := 3) C (by decide +kernel) rfl rfl ?_
    refine zs_cvWi (pc := 70) (As := [sI a1, sI a2]) (st := []) C (fun _ _ _ => rfl) rfl (c_X0_hoursOfOne l g a1 a2) ml_RX11_300 rfl rfl rfl rfl (Nat.le_of_ble_eq_true rfl) ⟨Nat.le_of_ble_eq_true rfl, Nat.le_of_ble_eq_true rfl⟩ ⟨Nat.le_of_ble_eq_true rfl, Nat.le_of_ble_eq_true rfl⟩ (by decide +kernel) (fun x3 => ?_)
    refine zs_istore (pc := 73) (i := 5) (ls' := [(5, sI x3), (4, sI x1), (0, sR 0), (1, sI a0), (2, sI a1), (3, sI a2)]) C (by decide +kernel) (Nat.le_of_ble_eq_true rfl) rfl ?_
    refine zs_iload (pc := 75) (i := 5) C (by decide +kernel) rfl ?_
    refine zs_iconst (pc := 77) (n := (-1)) (x := (-1)) C (by decide +kernel) (by decide +kernel) ?_
    refine zs_jn (pJ := 90) (kJ := 3) (sJ := 18) (fun t4 => []) (fun t4 => [sI t4]) (fun t4 => ?_) (fun J5 hJ5 => ?_)
    · exact zs_retTi (pc := 90) C hr ⟨Nat.le_of_ble_eq_true rfl, Nat.le_of_ble_eq_true rfl⟩ (by decide +kernel)
    · refine zs_icmp_ne (pc := 78) (off := 7) (tgt := 85) C (by decide +kernel) (by decide) ?_ ?_
      · refine zs_iload (pc := 85) (i := 4) C (by decide +kernel) rfl ?_
        refine zs_iload (pc := 87) (i := 5) C (by decide +kernel) rfl ?_
        refine zs_isub (pc := 89) C (by decide +kernel) ?_
        exact zs_goj (hJ5 (w32 (x1 - x3))) trivial
      · refine zs_iconst (pc := 81) (n := (-1)) (x := (-1)) C (by decide +kernel) (by decide +kernel) ?_
        refine zs_goto (pc := 82) (off := 8) (tgt := 90) C (by decide +kernel) (by decide) ?_
        exact zs_goj (hJ5 (-1)) trivial
  · refine zs_iconst (pc := 42) (n := (-1)) (x := (-1)) C (by decide +kernel) (by decide +kernel) ?_
    exact zs_retTi (pc := 43) C hr ⟨Nat.le_of_ble_eq_true rfl, Nat.le_of_ble_eq_true rfl⟩ (by decide +kernel)
set_option maxRecDepth 20000 in
theorem c_X11_leastRope (l : Launch) (g : GC) (hl : l.stackTraces = false) (a0 : Int) (a1 : Int) (a2 : Int) : ConT l g yX11_leastRope cX11_leastRope 5 (some .int) (rmd 9 3 18) [sR 0, sI a0, sI a1, sI a2] (fun mm => fX11_leastRope a0 a1 a2 mm) := by
  refine zs_ofT (by decide +kernel) (Nat.le_of_ble_eq_true rfl) ?_
  intro p e s m args below meth c C hr hE
  replace C : Bd g RX11 cX11_leastRope 5 p s m args meth c := C
  unfold fX11_leastRope
  refine zs_aload_n (pc := 0) (k := 0) (i := 0) C (by decide +kernel) rfl rfl ?_
  refine zs_iload_n (pc := 1) (k := 1) (i := 1) C (by decide +kernel) rfl rfl ?_
  refine zs_iload_n (pc := 2) (k := 2) (i := 2) C (by decide +kernel) rfl rfl ?_
  refine zs_iload_n (pc := 3) (k := 3) (i := 3) C (by decide +kernel) rfl rfl ?_
  refine zs_cvTv (pc := 4) (As := [sI a0, sI a1, sI a2]) (st := []) C hE (c_X11_needWalk l g hl a0 a1 a2) ml_RX11_274 rfl rfl rfl rfl (Nat.le_of_ble_eq_true rfl) ⟨Nat.le_of_ble_eq_true rfl, Nat.le_of_ble_eq_true rfl⟩ ⟨Nat.le_of_ble_eq_true rfl, Nat.le_of_ble_eq_true rfl⟩ ⟨Nat.le_of_ble_eq_true rfl, Nat.le_of_ble_eq_true rfl⟩ (by decide +kernel) ?_
  refine zs_aload_n (pc := 7) (k := 0) (i := 0) C (by decide +kernel) rfl rfl ?_
  refine zs_getR (o' := 18) (pc := 8) (i := 33) (ci := 11) (k := 5) C (by decide +kernel) fl_RX11_33 rfl rfl rfl ?_
  refine zs_iload_n (pc := 11) (k := 1) (i := 1) C (by decide +kernel) rfl rfl ?_
  refine zs_cvVv (pc := 12) (As := [sI a0]) (st := []) C (fun _ _ _ => rfl) (c_X0_begin l g a0) ml_RX11_251 rfl rfl rfl rfl (Nat.le_of_ble_eq_true rfl) ⟨Nat.le_of_ble_eq_true rfl, Nat.le_of_ble_eq_true rfl⟩ ⟨Nat.le_of_ble_eq_true rfl, Nat.le_of_ble_eq_true rfl⟩ (by decide +kernel) ?_
  refine zs_iconst (pc := 15) (n := 1) (x := 1) C (by decide +kernel) (by decide +kernel) ?_
  refine zs_istore (pc := 16) (i := 4) (ls' := [(4, sI 1), (0, sR 0), (1, sI a0), (2, sI a1), (3, sI a2)]) C (by decide +kernel) (Nat.le_of_ble_eq_true rfl) rfl ?_
  refine zs_sub (ls' := [(0, sR 0), (1, sI a0), (2, sI a1), (3, sI a2), (4, sI 1)]) ⟨rfl, rfl, rfl, rfl, rfl, trivial⟩ ?_
  refine zs_lp (pc := 18) (fun (t1 : Int) => [(0, sR 0), (1, sI a0), (2, sI a1), (3, sI a2), (4, sI t1)]) (fun _ => []) (fun K2 hK2 t1 => ?_) BIG 1
  refine zs_iload (pc := 18) (i := 4) C (by decide +kernel) rfl ?_
  refine zs_bipush (pc := 20) (n := 20) (x := 20) C (by decide +kernel) (by decide +kernel) ?_
  refine zs_icmp_gt (pc := 22) (off := 63) (tgt := 85) C (by decide +kernel) (by decide) ?_ ?_
  · refine zs_iconst (pc := 85) (n := (-1)) (x := (-1)) C (by decide +kernel) (by decide +kernel) ?_
    exact zs_retTi (pc := 86) C hr ⟨Nat.le_of_ble_eq_true rfl, Nat.le_of_ble_eq_true rfl⟩ (by decide +kernel)
  · refine zs_aload_n (pc := 25) (k := 0) (i := 0) C (by decide +kernel) rfl rfl ?_
    refine zs_getR (o' := 18) (pc := 26) (i := 33) (ci := 11) (k := 5) C (by decide +kernel) fl_RX11_33 rfl rfl rfl ?_
    refine zs_iload (pc := 29) (i := 4) C (by decide +kernel) rfl ?_
    refine zs_aload_n (pc := 31) (k := 0) (i := 0) C (by decide +kernel) rfl rfl ?_
    refine zs_getR (o' := 19) (pc := 32) (i := 41) (ci := 11) (k := 6) C (by decide +kernel) fl_RX11_41 rfl rfl rfl ?_
    refine zs_getR (o' := 27) (pc := 35) (i := 141) (ci := 10) (k := 1) C (by decide +kernel) fl_RX11_141 rfl rfl rfl ?_
    refine zs_iload_n (pc := 38) (k := 1) (i := 1) C (by decide +kernel) rfl rfl ?_
    refine zs_cvRi (pc := 39) (As := [sI a0]) (st := [sI t1, sR 18]) C rfl (c_X5_isParted l g a0) ml_RX11_163 rfl rfl rfl rfl (Nat.le_of_ble_eq_true rfl) ⟨Nat.le_of_ble_eq_true rfl, Nat.le_of_ble_eq_true rfl⟩ ⟨Nat.le_of_ble_eq_true rfl, Nat.le_of_ble_eq_true rfl⟩ (by decide +kernel) (fun x3 => ?_)
    refine zs_jn (pJ := 50) (kJ := 3) (sJ := 18) (fun t4 => [(0, sR 0), (1, sI a0), (2, sI a1), (3, sI a2), (4, sI t1)]) (fun t4 => [sI t4, sI t1, sR 18]) (fun t4 => ?_) (fun J5 hJ5 => ?_)
    · refine zs_cvVv (pc := 50) (As := [sI t1, sI t4]) (st := []) C (fun _ _ _ => rfl) (c_X0_bind l g t1 t4) ml_RX11_303 rfl rfl rfl rfl (Nat.le_of_ble_eq_true rfl) ⟨Nat.le_of_ble_eq_true rfl, Nat.le_of_ble_eq_true rfl⟩ ⟨Nat.le_of_ble_eq_true rfl, Nat.le_of_ble_eq_true rfl⟩ (by decide +kernel) ?_
      refine zs_aload_n (pc := 53) (k := 0) (i := 0) C (by decide +kernel) rfl rfl ?_
      refine zs_getR (o' := 18) (pc := 54) (i := 33) (ci := 11) (k := 5) C (by decide +kernel) fl_RX11_33 rfl rfl rfl ?_
      refine zs_iload_n (pc := 57) (k := 2) (i := 2) C (by decide +kernel) rfl rfl ?_
      refine zs_iload_n (pc := 58) (k := 3) (i := 3) C (by decide +kernel) rfl rfl ?_
      refine zs_aload_n (pc := 59) (k := 0) (i := 0) C (by decide +kernel) rfl rfl ?_
      refine zs_getR (o' := 19) (pc := 60) (i := 41) (ci := 11) (k := 6) C (by decide +kernel) fl_RX11_41 rfl rfl rfl ?_
      refine zs_getR (o' := 20) (pc := 63) (i := 114) (ci := 10) (k := 0) C (by decide +kernel) fl_RX11_114 rfl rfl rfl ?_
      refine zs_getI (pc := 66) (i := 277) (ci := 3) (k := 3) C (by decide +kernel) fl_RX11_277 rfl rfl (fun x6 => ?_)
      refine zs_cvWi (pc := 69) (As := [sI a1, sI a2, sI x6]) (st := []) C (fun _ _ _ => rfl) rfl (c_X0_hoursTo l g a1 a2 x6) ml_RX11_280 rfl rfl rfl rfl (Nat.le_of_ble_eq_true rfl) ⟨Nat.le_of_ble_eq_true rfl, Nat.le_of_ble_eq_true rfl⟩ ⟨Nat.le_of_ble_eq_true rfl, Nat.le_of_ble_eq_true rfl⟩ (by decide +kernel) (fun x7 => ?_)
      refine zs_iconst (pc := 72) (n := (-1)) (x := (-1)) C (by decide +kernel) (by decide +kernel) ?_
      refine zs_icmp_eq (pc := 73) (off := 6) (tgt := 79) C (by decide +kernel) (by decide) ?_ ?_
      · refine zs_iinc (pc := 79) (i := 4) (n := 1) (y := w32 (t1 + 1)) (ls' := [(4, sI (w32 (t1 + 1))), (0, sR 0), (1, sI a0), (2, sI a1), (3, sI a2)]) C (by decide +kernel) rfl rfl (Nat.le_of_ble_eq_true rfl) rfl ?_
        refine zs_goto (pc := 82) (off := (-64)) (tgt := 18) C (by decide +kernel) (by decide) ?_
        exact zs_goj (hK2 (w32 (t1 + 1))) ⟨rfl, rfl, rfl, rfl, rfl, trivial⟩
      · refine zs_iload (pc := 76) (i := 4) C (by decide +kernel) rfl ?_
        exact zs_retTi (pc := 78) C hr ⟨Nat.le_of_ble_eq_true rfl, Nat.le_of_ble_eq_true rfl⟩ (by decide +kernel)
    · refine zs_if_ne (pc := 42) (off := 7) (tgt := 49) C (by decide +kernel) (by decide) ?_ ?_
      · refine zs_iconst (pc := 49) (n := 0) (x := 0) C (by decide +kernel) (by decide +kernel) ?_
        exact zs_goj (hJ5 0) ⟨rfl, rfl, rfl, rfl, rfl, trivial⟩
      · refine zs_iconst (pc := 45) (n := 1) (x := 1) C (by decide +kernel) (by decide +kernel) ?_
        refine zs_goto (pc := 46) (off := 4) (tgt := 50) C (by decide +kernel) (by decide) ?_
        exact zs_goj (hJ5 1) ⟨rfl, rfl, rfl, rfl, rfl, trivial⟩
set_option maxRecDepth 20000 in
theorem c_X0_neededPlaces (l : Launch) (g : GC) (a0 : Int) (a1 : Int) (a2 : Int) : ConW l g yX0_neededPlaces cX0_neededPlaces 11 (some .int) (rmd 6 0 0) [sR 18, sI a0, sI a1, sI a2] (fun mm => fX0_neededPlaces a0 a1 a2 mm) := by
  refine zs_ofW (by decide +kernel) (Nat.le_of_ble_eq_true rfl) ?_
  intro p e s m args below meth c C hr
  replace C : Bd g RX0 cX0_neededPlaces 11 p s m args meth c := C
  unfold fX0_neededPlaces
  refine zs_aload_n (pc := 0) (k := 0) (i := 0) C (by decide +kernel) rfl rfl ?_
  refine zs_cvRi (pc := 1) (As := []) (st := []) C rfl (c_X0_startFirst l g ) ml_RX0_196 rfl rfl rfl rfl (Nat.le_of_ble_eq_true rfl) ⟨Nat.le_of_ble_eq_true rfl, Nat.le_of_ble_eq_true rfl⟩ ⟨Nat.le_of_ble_eq_true rfl, Nat.le_of_ble_eq_true rfl⟩ (by decide +kernel) (fun x1 => ?_)
  refine zs_istore (pc := 4) (i := 4) (ls' := [(4, sI x1), (0, sR 18), (1, sI a0), (2, sI a1), (3, sI a2)]) C (by decide +kernel) (Nat.le_of_ble_eq_true rfl) rfl ?_
  refine zs_aload_n (pc := 6) (k := 0) (i := 0) C (by decide +kernel) rfl rfl ?_
  refine zs_cvRi (pc := 7) (As := []) (st := []) C rfl (c_X0_startSecond l g ) ml_RX0_199 rfl rfl rfl rfl (Nat.le_of_ble_eq_true rfl) ⟨Nat.le_of_ble_eq_true rfl, Nat.le_of_ble_eq_true rfl⟩ ⟨Nat.le_of_ble_eq_true rfl, Nat.le_of_ble_eq_true rfl⟩ (by decide +kernel) (fun x2 => ?_)
  refine zs_istore (pc := 10) (i := 5) (ls' := [(5, sI x2), (4, sI x1), (0, sR 18), (1, sI a0), (2, sI a1), (3, sI a2)]) C (by decide +kernel) (Nat.le_of_ble_eq_true rfl) rfl ?_
  refine zs_iconst (pc := 12) (n := 1) (x := 1) C (by decide +kernel) (by decide +kernel) ?_
  refine zs_iload (pc := 13) (i := 4) C (by decide +kernel) rfl ?_
  refine zs_ishl (pc := 15) C (by decide +kernel) ?_
  refine zs_iconst (pc := 16) (n := 1) (x := 1) C (by decide +kernel) (by decide +kernel) ?_
  refine zs_iload (pc := 17) (i := 5) C (by decide +kernel) rfl ?_
  refine zs_ishl (pc := 19) C (by decide +kernel) ?_
  refine zs_ior (pc := 20) C (by decide +kernel) ?_
  refine zs_iconst (pc := 21) (n := 1) (x := 1) C (by decide +kernel) (by decide +kernel) ?_
  refine zs_iload_n (pc := 22) (k := 1) (i := 1) C (by decide +kernel) rfl rfl ?_
  refine zs_ishl (pc := 23) C (by decide +kernel) ?_
  refine zs_ior (pc := 24) C (by decide +kernel) ?_
  refine zs_iconst (pc := 25) (n := 1) (x := 1) C (by decide +kernel) (by decide +kernel) ?_
  refine zs_iload_n (pc := 26) (k := 2) (i := 2) C (by decide +kernel) rfl rfl ?_
  refine zs_ishl (pc := 27) C (by decide +kernel) ?_
  refine zs_ior (pc := 28) C (by decide +kernel) ?_
  refine zs_let (fun x3 => ?_)
  refine zs_istore (pc := 29) (i := 6) (ls' := [(6, sI x3), (5, sI x2), (4, sI x1), (0, sR 18), (1, sI a0), (2, sI a1), (3, sI a2)]) C (by decide +kernel) (Nat.le_of_ble_eq_true rfl) rfl ?_
  refine zs_iconst (pc := 31) (n := 0) (x := 0) C (by decide +kernel) (by decide +kernel) ?_
  refine zs_istore (pc := 32) (i := 7) (ls' := [(7, sI 0), (6, sI x3), (5, sI x2), (4, sI x1), (0, sR 18), (1, sI a0), (2, sI a1), (3, sI a2)]) C (by decide +kernel) (Nat.le_of_ble_eq_true rfl) rfl ?_
  refine zs_iconst (pc := 34) (n := 1) (x := 1) C (by decide +kernel) (by decide +kernel) ?_
  refine zs_istore (pc := 35) (i := 8) (ls' := [(8, sI 1), (7, sI 0), (6, sI x3), (5, sI x2), (4, sI x1), (0, sR 18), (1, sI a0), (2, sI a1), (3, sI a2)]) C (by decide +kernel) (Nat.le_of_ble_eq_true rfl) rfl ?_
  refine zs_sub (ls' := [(0, sR 18), (1, sI a0), (2, sI a1), (3, sI a2), (4, sI x1), (5, sI x2), (6, sI x3), (7, sI 0), (8, sI 1)]) ⟨rfl, rfl, rfl, rfl, rfl, rfl, rfl, rfl, rfl, trivial⟩ ?_
  refine zs_lp (pc := 37) (fun (t4 : Int × Int × Int × Int) => [(0, sR 18), (1, sI a0), (2, sI a1), (3, sI a2), (4, sI t4.1), (5, sI t4.2.1), (6, sI x3), (7, sI t4.2.2.1), (8, sI t4.2.2.2)]) (fun _ => []) (fun K5 hK5 t4 => ?_) BIG (x1, x2, 0, 1)
  refine zs_iload (pc := 37) (i := 8) C (by decide +kernel) rfl ?_
  refine zs_iload_n (pc := 39) (k := 3) (i := 3) C (by decide +kernel) rfl rfl ?_
  refine zs_icmp_gt (pc := 40) (off := 71) (tgt := 111) C (by decide +kernel) (by decide) ?_ ?_
  · refine zs_iconst (pc := 111) (n := 0) (x := 0) C (by decide +kernel) (by decide +kernel) ?_
    refine zs_istore (pc := 112) (i := 8) (ls' := [(8, sI 0), (0, sR 18), (1, sI a0), (2, sI a1), (3, sI a2), (4, sI t4.1), (5, sI t4.2.1), (6, sI x3), (7, sI t4.2.2.1)]) C (by decide +kernel) (Nat.le_of_ble_eq_true rfl) rfl ?_
    refine zs_iconst (pc := 114) (n := 0) (x := 0) C (by decide +kernel) (by decide +kernel) ?_
    refine zs_istore (pc := 115) (i := 9) (ls' := [(9, sI 0), (8, sI 0), (0, sR 18), (1, sI a0), (2, sI a1), (3, sI a2), (4, sI t4.1), (5, sI t4.2.1), (6, sI x3), (7, sI t4.2.2.1)]) C (by decide +kernel) (Nat.le_of_ble_eq_true rfl) rfl ?_
    refine zs_sub (ls' := [(0, sR 18), (1, sI a0), (2, sI a1), (6, sI x3), (7, sI t4.2.2.1), (8, sI 0), (9, sI 0)]) ⟨rfl, rfl, rfl, rfl, rfl, rfl, rfl, trivial⟩ ?_
    refine zs_lp (pc := 117) (fun (t6 : Int × Int) => [(0, sR 18), (1, sI a0), (2, sI a1), (6, sI x3), (7, sI t4.2.2.1), (8, sI t6.1), (9, sI t6.2)]) (fun _ => []) (fun K7 hK7 t6 => ?_) BIG (0, 0)
    refine zs_iload (pc := 117) (i := 9) C (by decide +kernel) rfl ?_
    refine zs_aload_n (pc := 119) (k := 0) (i := 0) C (by decide +kernel) rfl rfl ?_
    refine zs_getI (pc := 120) (i := 43) (ci := 0) (k := 9) C (by decide +kernel) fl_RX0_43 rfl rfl (fun x8 => ?_)
    refine zs_icmp_ge (pc := 123) (off := 70) (tgt := 193) C (by decide +kernel) (by decide) ?_ ?_
    · refine zs_iload (pc := 193) (i := 8) C (by decide +kernel) rfl ?_
      exact zs_retWi (pc := 195) C hr ⟨Nat.le_of_ble_eq_true rfl, Nat.le_of_ble_eq_true rfl⟩ (by decide +kernel)
    · refine zs_iload (pc := 126) (i := 7) C (by decide +kernel) rfl ?_
      refine zs_iload (pc := 128) (i := 6) C (by decide +kernel) rfl ?_
      refine zs_iconst (pc := 130) (n := (-1)) (x := (-1)) C (by decide +kernel) (by decide +kernel) ?_
      refine zs_ixor (pc := 131) C (by decide +kernel) ?_
      refine zs_iand (pc := 132) C (by decide +kernel) ?_
      refine zs_iconst (pc := 133) (n := 1) (x := 1) C (by decide +kernel) (by decide +kernel) ?_
      refine zs_iload (pc := 134) (i := 9) C (by decide +kernel) rfl ?_
      refine zs_ishl (pc := 136) C (by decide +kernel) ?_
      refine zs_iand (pc := 137) C (by decide +kernel) ?_
      refine zs_jn (pJ := 146) (kJ := 0) (sJ := 0) (fun t9 => [(0, sR 18), (1, sI a0), (2, sI a1), (6, sI x3), (7, sI t4.2.2.1), (8, sI t6.1), (9, sI t6.2)]) (fun t9 => [sI t9]) (fun t9 => ?_) (fun J10 hJ10 => ?_)
      · refine zs_istore (pc := 146) (i := 10) (ls' := [(10, sI t9), (0, sR 18), (1, sI a0), (2, sI a1), (6, sI x3), (7, sI t4.2.2.1), (8, sI t6.1), (9, sI t6.2)]) C (by decide +kernel) (Nat.le_of_ble_eq_true rfl) rfl ?_
        refine zs_iload (pc := 148) (i := 10) C (by decide +kernel) rfl ?_
        refine zs_jn (pJ := 187) (kJ := 0) (sJ := 0) (fun t11 => [(0, sR 18), (1, sI a0), (2, sI a1), (6, sI x3), (7, sI t4.2.2.1), (8, sI t11), (9, sI t6.2)]) (fun t11 => []) (fun t11 => ?_) (fun J12 hJ12 => ?_)
        · refine zs_iinc (pc := 187) (i := 9) (n := 1) (y := w32 (t6.2 + 1)) (ls' := [(9, sI (w32 (t6.2 + 1))), (0, sR 18), (1, sI a0), (2, sI a1), (6, sI x3), (7, sI t4.2.2.1), (8, sI t11)]) C (by decide +kernel) rfl rfl (Nat.le_of_ble_eq_true rfl) rfl ?_
          refine zs_goto (pc := 190) (off := (-73)) (tgt := 117) C (by decide +kernel) (by decide) ?_
          exact zs_goj (hK7 (t11, w32 (t6.2 + 1))) ⟨rfl, rfl, rfl, rfl, rfl, rfl, rfl, trivial⟩
        · refine zs_if_eq (pc := 150) (off := 37) (tgt := 187) C (by decide +kernel) (by decide) ?_ ?_
          · exact zs_goj (hJ12 t6.1) ⟨rfl, rfl, rfl, rfl, rfl, rfl, rfl, trivial⟩
          · refine zs_aload_n (pc := 153) (k := 0) (i := 0) C (by decide +kernel) rfl rfl ?_
            refine zs_iload_n (pc := 154) (k := 1) (i := 1) C (by decide +kernel) rfl rfl ?_
            refine zs_iload_n (pc := 155) (k := 2) (i := 2) C (by decide +kernel) rfl rfl ?_
            refine zs_aload_n (pc := 156) (k := 0) (i := 0) C (by decide +kernel) rfl rfl ?_
            refine zs_getR (o' := 19) (pc := 157) (i := 12) (ci := 0) (k := 0) C (by decide +kernel) fl_RX0_12 rfl rfl rfl ?_
            refine zs_getR (o' := 20) (pc := 160) (i := 72) (ci := 10) (k := 0) C (by decide +kernel) fl_RX0_72 rfl rfl rfl ?_
            refine zs_getI (pc := 163) (i := 76) (ci := 3) (k := 3) C (by decide +kernel) fl_RX0_76 rfl rfl (fun x13 => ?_)
            refine zs_iconst (pc := 166) (n := 1) (x := 1) C (by decide +kernel) (by decide +kernel) ?_
            refine zs_iload (pc := 167) (i := 9) C (by decide +kernel) rfl ?_
            refine zs_ishl (pc := 169) C (by decide +kernel) ?_
            refine zs_ior (pc := 170) C (by decide +kernel) ?_
            refine zs_cvWi (pc := 171) (As := [sI a0, sI a1, sI (ior x13 (ishl 1 t6.2))]) (st := []) C (fun _ _ _ => rfl) rfl (c_X0_hoursTo l g a0 a1 (ior x13 (ishl 1 t6.2))) ml_RX0_182 rfl rfl rfl rfl (Nat.le_of_ble_eq_true rfl) ⟨Nat.le_of_ble_eq_true rfl, Nat.le_of_ble_eq_true rfl⟩ ⟨Nat.le_of_ble_eq_true rfl, Nat.le_of_ble_eq_true rfl⟩ (by decide +kernel) (fun x14 => ?_)
            refine zs_iconst (pc := 174) (n := (-1)) (x := (-1)) C (by decide +kernel) (by decide +kernel) ?_
            refine zs_icmp_ne (pc := 175) (off := 12) (tgt := 187) C (by decide +kernel) (by decide) ?_ ?_
            · exact zs_goj (hJ12 t6.1) ⟨rfl, rfl, rfl, rfl, rfl, rfl, rfl, trivial⟩
            · refine zs_iload (pc := 178) (i := 8) C (by decide +kernel) rfl ?_
              refine zs_iconst (pc := 180) (n := 1) (x := 1) C (by decide +kernel) (by decide +kernel) ?_
              refine zs_iload (pc := 181) (i := 9) C (by decide +kernel) rfl ?_
              refine zs_ishl (pc := 183) C (by decide +kernel) ?_
              refine zs_ior (pc := 184) C (by decide +kernel) ?_
              refine zs_let (fun x15 => ?_)
              refine zs_istore (pc := 185) (i := 8) (ls' := [(8, sI x15), (10, sI t9), (0, sR 18), (1, sI a0), (2, sI a1), (6, sI x3), (7, sI t4.2.2.1), (9, sI t6.2)]) C (by decide +kernel) (Nat.le_of_ble_eq_true rfl) rfl ?_
              exact zs_goj (hJ12 x15) ⟨rfl, rfl, rfl, rfl, rfl, rfl, rfl, trivial⟩
      · refine zs_if_eq (pc := 138) (off := 7) (tgt := 145) C (by decide +kernel) (by decide) ?_ ?_
        · refine zs_iconst (pc := 145) (n := 0) (x := 0) C (by decide +kernel) (by decide +kernel) ?_
          exact zs_goj (hJ10 0) ⟨rfl, rfl, rfl, rfl, rfl, rfl, rfl, trivial⟩
        · refine zs_iconst (pc := 141) (n := 1) (x := 1) C (by decide +kernel) (by decide +kernel) ?_
          refine zs_goto (pc := 142) (off := 4) (tgt := 146) C (by decide +kernel) (by decide) ?_
          exact zs_goj (hJ10 1) ⟨rfl, rfl, rfl, rfl, rfl, rfl, rfl, trivial⟩
  · refine zs_aload_n (pc := 43) (k := 0) (i := 0) C (by decide +kernel) rfl rfl ?_
    refine zs_getR (o' := 19) (pc := 44) (i := 12) (ci := 0) (k := 0) C (by decide +kernel) fl_RX0_12 rfl rfl rfl ?_
    refine zs_getR (o' := 20) (pc := 47) (i := 72) (ci := 10) (k := 0) C (by decide +kernel) fl_RX0_72 rfl rfl rfl ?_
    refine zs_iload (pc := 50) (i := 4) C (by decide +kernel) rfl ?_
    refine zs_aload_n (pc := 52) (k := 0) (i := 0) C (by decide +kernel) rfl rfl ?_
    refine zs_getR (o' := 85) (pc := 53) (i := 40) (ci := 0) (k := 8) C (by decide +kernel) fl_RX0_40 rfl rfl rfl ?_
    refine zs_iload (pc := 56) (i := 8) C (by decide +kernel) rfl ?_
    refine zs_iald (pc := 58) (o := 85) (n := 41) C (by decide +kernel) rfl (fun hinx16 x16 => ?_)
    refine zs_bipush (pc := 59) (n := 10) (x := 10) C (by decide +kernel) (by decide +kernel) ?_
    refine zs_idiv (pc := 61) C (by decide +kernel) (by decide +kernel) ?_
    refine zs_cvRi (pc := 62) (As := [sI t4.1, sI (Int.tdiv x16 10)]) (st := []) C rfl (c_X3_beside l g t4.1 (Int.tdiv x16 10)) ml_RX0_108 rfl rfl rfl rfl (Nat.le_of_ble_eq_true rfl) ⟨Nat.le_of_ble_eq_true rfl, Nat.le_of_ble_eq_true rfl⟩ ⟨Nat.le_of_ble_eq_true rfl, Nat.le_of_ble_eq_true rfl⟩ (by decide +kernel) (fun x17 => ?_)
    refine zs_istore (pc := 65) (i := 4) (ls' := [(4, sI x17), (0, sR 18), (1, sI a0), (2, sI a1), (3, sI a2), (5, sI t4.2.1), (6, sI x3), (7, sI t4.2.2.1), (8, sI t4.2.2.2)]) C (by decide +kernel) (Nat.le_of_ble_eq_true rfl) rfl ?_
    refine zs_aload_n (pc := 67) (k := 0) (i := 0) C (by decide +kernel) rfl rfl ?_
    refine zs_getR (o' := 19) (pc := 68) (i := 12) (ci := 0) (k := 0) C (by decide +kernel) fl_RX0_12 rfl rfl rfl ?_
    refine zs_getR (o' := 20) (pc := 71) (i := 72) (ci := 10) (k := 0) C (by decide +kernel) fl_RX0_72 rfl rfl rfl ?_
    refine zs_iload (pc := 74) (i := 5) C (by decide +kernel) rfl ?_
    refine zs_aload_n (pc := 76) (k := 0) (i := 0) C (by decide +kernel) rfl rfl ?_
    refine zs_getR (o' := 85) (pc := 77) (i := 40) (ci := 0) (k := 8) C (by decide +kernel) fl_RX0_40 rfl rfl rfl ?_
    refine zs_iload (pc := 80) (i := 8) C (by decide +kernel) rfl ?_
    refine zs_iald (pc := 82) (o := 85) (n := 41) C (by decide +kernel) rfl (fun hinx18 x18 => ?_)
    refine zs_bipush (pc := 83) (n := 10) (x := 10) C (by decide +kernel) (by decide +kernel) ?_
    refine zs_irem (pc := 85) C (by decide +kernel) (by decide +kernel) ?_
    refine zs_cvRi (pc := 86) (As := [sI t4.2.1, sI (Int.tmod x18 10)]) (st := []) C rfl (c_X3_beside l g t4.2.1 (Int.tmod x18 10)) ml_RX0_108 rfl rfl rfl rfl (Nat.le_of_ble_eq_true rfl) ⟨Nat.le_of_ble_eq_true rfl, Nat.le_of_ble_eq_true rfl⟩ ⟨Nat.le_of_ble_eq_true rfl, Nat.le_of_ble_eq_true rfl⟩ (by decide +kernel) (fun x19 => ?_)
    refine zs_istore (pc := 89) (i := 5) (ls' := [(5, sI x19), (4, sI x17), (0, sR 18), (1, sI a0), (2, sI a1), (3, sI a2), (6, sI x3), (7, sI t4.2.2.1), (8, sI t4.2.2.2)]) C (by decide +kernel) (Nat.le_of_ble_eq_true rfl) rfl ?_
    refine zs_iload (pc := 91) (i := 7) C (by decide +kernel) rfl ?_
    refine zs_iconst (pc := 93) (n := 1) (x := 1) C (by decide +kernel) (by decide +kernel) ?_
    refine zs_iload (pc := 94) (i := 4) C (by decide +kernel) rfl ?_
    refine zs_ishl (pc := 96) C (by decide +kernel) ?_
    refine zs_iconst (pc := 97) (n := 1) (x := 1) C (by decide +kernel) (by decide +kernel) ?_
    refine zs_iload (pc := 98) (i := 5) C (by decide +kernel) rfl ?_
    refine zs_ishl (pc := 100) C (by decide +kernel) ?_
    refine zs_ior (pc := 101) C (by decide +kernel) ?_
    refine zs_ior (pc := 102) C (by decide +kernel) ?_
    refine zs_let (fun x20 => ?_)
    refine zs_istore (pc := 103) (i := 7) (ls' := [(7, sI x20), (5, sI x19), (4, sI x17), (0, sR 18), (1, sI a0), (2, sI a1), (3, sI a2), (6, sI x3), (8, sI t4.2.2.2)]) C (by decide +kernel) (Nat.le_of_ble_eq_true rfl) rfl ?_
    refine zs_iinc (pc := 105) (i := 8) (n := 1) (y := w32 (t4.2.2.2 + 1)) (ls' := [(8, sI (w32 (t4.2.2.2 + 1))), (7, sI x20), (5, sI x19), (4, sI x17), (0, sR 18), (1, sI a0), (2, sI a1), (3, sI a2), (6, sI x3)]) C (by decide +kernel) rfl rfl (Nat.le_of_ble_eq_true rfl) rfl ?_
    refine zs_goto (pc := 108) (off := (-71)) (tgt := 37) C (by decide +kernel) (by decide) ?_
    exact zs_goj (hK5 (x17, x19, x20, w32 (t4.2.2.2 + 1))) ⟨rfl, rfl, rfl, rfl, rfl, rfl, rfl, rfl, rfl, trivial⟩
set_option maxRecDepth 20000 in
theorem c_X11_needed (l : Launch) (g : GC) (hl : l.stackTraces = false) (a0 : Int) (a1 : Int) (a2 : Int) : ConT l g yX11_needed cX11_needed 5 (some .int) (rmd 9 3 18) [sR 0, sI a0, sI a1, sI a2] (fun mm => fX11_needed a0 a1 a2 mm) := by
  refine zs_ofT (by decide +kernel) (Nat.le_of_ble_eq_true rfl) ?_
  intro p e s m args below meth c C hr hE
  replace C : Bd g RX11 cX11_needed 5 p s m args meth c := C
  unfold fX11_needed
  refine zs_aload_n (pc := 0) (k := 0) (i := 0) C (by decide +kernel) rfl rfl ?_
  refine zs_iload_n (pc := 1) (k := 1) (i := 1) C (by decide +kernel) rfl rfl ?_
  refine zs_iload_n (pc := 2) (k := 2) (i := 2) C (by decide +kernel) rfl rfl ?_
  refine zs_iload_n (pc := 3) (k := 3) (i := 3) C (by decide +kernel) rfl rfl ?_
  refine zs_cvTv (pc := 4) (As := [sI a0, sI a1, sI a2]) (st := []) C hE (c_X11_needWalk l g hl a0 a1 a2) ml_RX11_274 rfl rfl rfl rfl (Nat.le_of_ble_eq_true rfl) ⟨Nat.le_of_ble_eq_true rfl, Nat.le_of_ble_eq_true rfl⟩ ⟨Nat.le_of_ble_eq_true rfl, Nat.le_of_ble_eq_true rfl⟩ ⟨Nat.le_of_ble_eq_true rfl, Nat.le_of_ble_eq_true rfl⟩ (by decide +kernel) ?_
  refine zs_aload_n (pc := 7) (k := 0) (i := 0) C (by decide +kernel) rfl rfl ?_
  refine zs_getR (o' := 18) (pc := 8) (i := 33) (ci := 11) (k := 5) C (by decide +kernel) fl_RX11_33 rfl rfl rfl ?_
  refine zs_iload_n (pc := 11) (k := 1) (i := 1) C (by decide +kernel) rfl rfl ?_
  refine zs_cvVv (pc := 12) (As := [sI a0]) (st := []) C (fun _ _ _ => rfl) (c_X0_begin l g a0) ml_RX11_251 rfl rfl rfl rfl (Nat.le_of_ble_eq_true rfl) ⟨Nat.le_of_ble_eq_true rfl, Nat.le_of_ble_eq_true rfl⟩ ⟨Nat.le_of_ble_eq_true rfl, Nat.le_of_ble_eq_true rfl⟩ (by decide +kernel) ?_
  refine zs_aload_n (pc := 15) (k := 0) (i := 0) C (by decide +kernel) rfl rfl ?_
  refine zs_getR (o' := 18) (pc := 16) (i := 33) (ci := 11) (k := 5) C (by decide +kernel) fl_RX11_33 rfl rfl rfl ?_
  refine zs_iload_n (pc := 19) (k := 2) (i := 2) C (by decide +kernel) rfl rfl ?_
  refine zs_iload_n (pc := 20) (k := 3) (i := 3) C (by decide +kernel) rfl rfl ?_
  refine zs_cvWi (pc := 21) (As := [sI a1, sI a2]) (st := []) C (fun _ _ _ => rfl) rfl (c_X0_findWay l g a1 a2) ml_RX11_285 rfl rfl rfl rfl (Nat.le_of_ble_eq_true rfl) ⟨Nat.le_of_ble_eq_true rfl, Nat.le_of_ble_eq_true rfl⟩ ⟨Nat.le_of_ble_eq_true rfl, Nat.le_of_ble_eq_true rfl⟩ (by decide +kernel) (fun x1 => ?_)
  refine zs_istore (pc := 24) (i := 4) (ls' := [(4, sI x1), (0, sR 0), (1, sI a0), (2, sI a1), (3, sI a2)]) C (by decide +kernel) (Nat.le_of_ble_eq_true rfl) rfl ?_
  refine zs_aload_n (pc := 26) (k := 0) (i := 0) C (by decide +kernel) rfl rfl ?_
  refine zs_getR (o' := 18) (pc := 27) (i := 33) (ci := 11) (k := 5) C (by decide +kernel) fl_RX11_33 rfl rfl rfl ?_
  refine zs_iload_n (pc := 30) (k := 2) (i := 2) C (by decide +kernel) rfl rfl ?_
  refine zs_iload_n (pc := 31) (k := 3) (i := 3) C (by decide +kernel) rfl rfl ?_
  refine zs_iload (pc := 32) (i := 4) C (by decide +kernel) rfl ?_
  refine zs_cvWi (pc := 34) (As := [sI a1, sI a2, sI x1]) (st := []) C (fun _ _ _ => rfl) rfl (c_X0_neededPlaces l g a1 a2 x1) ml_RX11_307 rfl rfl rfl rfl (Nat.le_of_ble_eq_true rfl) ⟨Nat.le_of_ble_eq_true rfl, Nat.le_of_ble_eq_true rfl⟩ ⟨Nat.le_of_ble_eq_true rfl, Nat.le_of_ble_eq_true rfl⟩ (by decide +kernel) (fun x2 => ?_)
  exact zs_retTi (pc := 37) C hr ⟨Nat.le_of_ble_eq_true rfl, Nat.le_of_ble_eq_true rfl⟩ (by decide +kernel)
set_option maxRecDepth 20000 in
theorem c_X0_rockInTheWay (l : Launch) (g : GC) (a0 : Int) (a1 : Int) : ConW l g yX0_rockInTheWay cX0_rockInTheWay 8 (some .int) (rmd 6 0 0) [sR 18, sI a0, sI a1] (fun mm => fX0_rockInTheWay a0 a1 mm) := by
  refine zs_ofW (by decide +kernel) (Nat.le_of_ble_eq_true rfl) ?_
  intro p e s m args below meth c C hr
  replace C : Bd g RX0 cX0_rockInTheWay 8 p s m args meth c := C
  unfold fX0_rockInTheWay
  refine zs_aload_n (pc := 0) (k := 0) (i := 0) C (by decide +kernel) rfl rfl ?_
  refine zs_iload_n (pc := 1) (k := 1) (i := 1) C (by decide +kernel) rfl rfl ?_
  refine zs_iload_n (pc := 2) (k := 2) (i := 2) C (by decide +kernel) rfl rfl ?_
  refine zs_aload_n (pc := 3) (k := 0) (i := 0) C (by decide +kernel) rfl rfl ?_
  refine zs_getR (o' := 19) (pc := 4) (i := 12) (ci := 0) (k := 0) C (by decide +kernel) fl_RX0_12 rfl rfl rfl ?_
  refine zs_getR (o' := 20) (pc := 7) (i := 72) (ci := 10) (k := 0) C (by decide +kernel) fl_RX0_72 rfl rfl rfl ?_
  refine zs_getI (pc := 10) (i := 76) (ci := 3) (k := 3) C (by decide +kernel) fl_RX0_76 rfl rfl (fun x1 => ?_)
  refine zs_cvWi (pc := 13) (As := [sI a0, sI a1, sI x1]) (st := []) C (fun _ _ _ => rfl) rfl (c_X0_hoursTo l g a0 a1 x1) ml_RX0_182 rfl rfl rfl rfl (Nat.le_of_ble_eq_true rfl) ⟨Nat.le_of_ble_eq_true rfl, Nat.le_of_ble_eq_true rfl⟩ ⟨Nat.le_of_ble_eq_true rfl, Nat.le_of_ble_eq_true rfl⟩ (by decide +kernel) (fun x2 => ?_)
  refine zs_istore_n (pc := 16) (k := 3) (i := 3) (ls' := [(3, sI x2), (0, sR 18), (1, sI a0), (2, sI a1)]) C (by decide +kernel) rfl (Nat.le_of_ble_eq_true rfl) rfl ?_
  refine zs_iload_n (pc := 17) (k := 3) (i := 3) C (by decide +kernel) rfl rfl ?_
  refine zs_iconst (pc := 18) (n := (-1)) (x := (-1)) C (by decide +kernel) (by decide +kernel) ?_
  refine zs_jn (pJ := 28) (kJ := 0) (sJ := 0) (fun t3 => [(0, sR 18), (1, sI a0), (2, sI a1)]) (fun t3 => [sI t3]) (fun t3 => ?_) (fun J4 hJ4 => ?_)
  · refine zs_istore (pc := 28) (i := 4) (ls' := [(4, sI t3), (0, sR 18), (1, sI a0), (2, sI a1)]) C (by decide +kernel) (Nat.le_of_ble_eq_true rfl) rfl ?_
    refine zs_iconst (pc := 30) (n := (-1)) (x := (-1)) C (by decide +kernel) (by decide +kernel) ?_
    refine zs_istore (pc := 31) (i := 5) (ls' := [(5, sI ((-1))), (4, sI t3), (0, sR 18), (1, sI a0), (2, sI a1)]) C (by decide +kernel) (Nat.le_of_ble_eq_true rfl) rfl ?_
    refine zs_iconst (pc := 33) (n := 0) (x := 0) C (by decide +kernel) (by decide +kernel) ?_
    refine zs_istore (pc := 34) (i := 6) (ls' := [(6, sI 0), (5, sI ((-1))), (4, sI t3), (0, sR 18), (1, sI a0), (2, sI a1)]) C (by decide +kernel) (Nat.le_of_ble_eq_true rfl) rfl ?_
    refine zs_sub (ls' := [(0, sR 18), (1, sI a0), (2, sI a1), (4, sI t3), (5, sI ((-1))), (6, sI 0)]) ⟨rfl, rfl, rfl, rfl, rfl, rfl, trivial⟩ ?_
    refine zs_lp (pc := 36) (fun (t5 : Int × Int × Int) => [(0, sR 18), (1, sI a0), (2, sI a1), (4, sI t5.1), (5, sI t5.2.1), (6, sI t5.2.2)]) (fun _ => []) (fun K6 hK6 t5 => ?_) BIG (t3, (-1), 0)
    refine zs_iload (pc := 36) (i := 6) C (by decide +kernel) rfl ?_
    refine zs_aload_n (pc := 38) (k := 0) (i := 0) C (by decide +kernel) rfl rfl ?_
    refine zs_getI (pc := 39) (i := 43) (ci := 0) (k := 9) C (by decide +kernel) fl_RX0_43 rfl rfl (fun x7 => ?_)
    refine zs_icmp_ge (pc := 42) (off := 70) (tgt := 112) C (by decide +kernel) (by decide) ?_ ?_
    · refine zs_iload (pc := 112) (i := 5) C (by decide +kernel) rfl ?_
      exact zs_retWi (pc := 114) C hr ⟨Nat.le_of_ble_eq_true rfl, Nat.le_of_ble_eq_true rfl⟩ (by decide +kernel)
    · refine zs_aload_n (pc := 45) (k := 0) (i := 0) C (by decide +kernel) rfl rfl ?_
      refine zs_getR (o' := 19) (pc := 46) (i := 12) (ci := 0) (k := 0) C (by decide +kernel) fl_RX0_12 rfl rfl rfl ?_
      refine zs_getR (o' := 20) (pc := 49) (i := 72) (ci := 10) (k := 0) C (by decide +kernel) fl_RX0_72 rfl rfl rfl ?_
      refine zs_iload (pc := 52) (i := 6) C (by decide +kernel) rfl ?_
      refine zs_cvRi (pc := 54) (As := [sI t5.2.2]) (st := []) C rfl (c_X3_isRock l g t5.2.2) ml_RX0_202 rfl rfl rfl rfl (Nat.le_of_ble_eq_true rfl) ⟨Nat.le_of_ble_eq_true rfl, Nat.le_of_ble_eq_true rfl⟩ ⟨Nat.le_of_ble_eq_true rfl, Nat.le_of_ble_eq_true rfl⟩ (by decide +kernel) (fun x8 => ?_)
      refine zs_jn (pJ := 106) (kJ := 0) (sJ := 0) (fun t9 => [(0, sR 18), (1, sI a0), (2, sI a1), (4, sI t9.1), (5, sI t9.2), (6, sI t5.2.2)]) (fun t9 => []) (fun t9 => ?_) (fun J10 hJ10 => ?_)
      · refine zs_iinc (pc := 106) (i := 6) (n := 1) (y := w32 (t5.2.2 + 1)) (ls' := [(6, sI (w32 (t5.2.2 + 1))), (0, sR 18), (1, sI a0), (2, sI a1), (4, sI t9.1), (5, sI t9.2)]) C (by decide +kernel) rfl rfl (Nat.le_of_ble_eq_true rfl) rfl ?_
        refine zs_goto (pc := 109) (off := (-73)) (tgt := 36) C (by decide +kernel) (by decide) ?_
        exact zs_goj (hK6 (t9.1, t9.2, w32 (t5.2.2 + 1))) ⟨rfl, rfl, rfl, rfl, rfl, rfl, trivial⟩
      · refine zs_if_eq (pc := 57) (off := 49) (tgt := 106) C (by decide +kernel) (by decide) ?_ ?_
        · exact zs_goj (hJ10 (t5.1, t5.2.1)) ⟨rfl, rfl, rfl, rfl, rfl, rfl, trivial⟩
        · refine zs_aload_n (pc := 60) (k := 0) (i := 0) C (by decide +kernel) rfl rfl ?_
          refine zs_iload_n (pc := 61) (k := 1) (i := 1) C (by decide +kernel) rfl rfl ?_
          refine zs_iload_n (pc := 62) (k := 2) (i := 2) C (by decide +kernel) rfl rfl ?_
          refine zs_aload_n (pc := 63) (k := 0) (i := 0) C (by decide +kernel) rfl rfl ?_
          refine zs_getR (o' := 19) (pc := 64) (i := 12) (ci := 0) (k := 0) C (by decide +kernel) fl_RX0_12 rfl rfl rfl ?_
          refine zs_getR (o' := 20) (pc := 67) (i := 72) (ci := 10) (k := 0) C (by decide +kernel) fl_RX0_72 rfl rfl rfl ?_
          refine zs_getI (pc := 70) (i := 76) (ci := 3) (k := 3) C (by decide +kernel) fl_RX0_76 rfl rfl (fun x11 => ?_)
          refine zs_iconst (pc := 73) (n := 1) (x := 1) C (by decide +kernel) (by decide +kernel) ?_
          refine zs_iload (pc := 74) (i := 6) C (by decide +kernel) rfl ?_
          refine zs_ishl (pc := 76) C (by decide +kernel) ?_
          refine zs_iconst (pc := 77) (n := (-1)) (x := (-1)) C (by decide +kernel) (by decide +kernel) ?_
          refine zs_ixor (pc := 78) C (by decide +kernel) ?_
          refine zs_iand (pc := 79) C (by decide +kernel) ?_
          refine zs_cvWi (pc := 80) (As := [sI a0, sI a1, sI (iand x11 (ixor (ishl 1 t5.2.2) ((-1))))]) (st := []) C (fun _ _ _ => rfl) rfl (c_X0_hoursTo l g a0 a1 (iand x11 (ixor (ishl 1 t5.2.2) ((-1))))) ml_RX0_182 rfl rfl rfl rfl (Nat.le_of_ble_eq_true rfl) ⟨Nat.le_of_ble_eq_true rfl, Nat.le_of_ble_eq_true rfl⟩ ⟨Nat.le_of_ble_eq_true rfl, Nat.le_of_ble_eq_true rfl⟩ (by decide +kernel) (fun x12 => ?_)
          refine zs_istore (pc := 83) (i := 7) (ls' := [(7, sI x12), (0, sR 18), (1, sI a0), (2, sI a1), (4, sI t5.1), (5, sI t5.2.1), (6, sI t5.2.2)]) C (by decide +kernel) (Nat.le_of_ble_eq_true rfl) rfl ?_
          refine zs_iload (pc := 85) (i := 7) C (by decide +kernel) rfl ?_
          refine zs_iconst (pc := 87) (n := (-1)) (x := (-1)) C (by decide +kernel) (by decide +kernel) ?_
          refine zs_icmp_eq (pc := 88) (off := 18) (tgt := 106) C (by decide +kernel) (by decide) ?_ ?_
          · exact zs_goj (hJ10 (t5.1, t5.2.1)) ⟨rfl, rfl, rfl, rfl, rfl, rfl, trivial⟩
          · refine zs_iload (pc := 91) (i := 7) C (by decide +kernel) rfl ?_
            refine zs_iload (pc := 93) (i := 4) C (by decide +kernel) rfl ?_
            refine zs_icmp_ge (pc := 95) (off := 11) (tgt := 106) C (by decide +kernel) (by decide) ?_ ?_
            · exact zs_goj (hJ10 (t5.1, t5.2.1)) ⟨rfl, rfl, rfl, rfl, rfl, rfl, trivial⟩
            · refine zs_iload (pc := 98) (i := 7) C (by decide +kernel) rfl ?_
              refine zs_istore (pc := 100) (i := 4) (ls' := [(4, sI x12), (7, sI x12), (0, sR 18), (1, sI a0), (2, sI a1), (5, sI t5.2.1), (6, sI t5.2.2)]) C (by decide +kernel) (Nat.le_of_ble_eq_true rfl) rfl ?_
              refine zs_iload (pc := 102) (i := 6) C (by decide +kernel) rfl ?_
              refine zs_istore (pc := 104) (i := 5) (ls' := [(5, sI t5.2.2), (4, sI x12), (7, sI x12), (0, sR 18), (1, sI a0), (2, sI a1), (6, sI t5.2.2)]) C (by decide +kernel) (Nat.le_of_ble_eq_true rfl) rfl ?_
              exact zs_goj (hJ10 (x12, t5.2.2)) ⟨rfl, rfl, rfl, rfl, rfl, rfl, trivial⟩
  · refine zs_icmp_ne (pc := 19) (off := 8) (tgt := 27) C (by decide +kernel) (by decide) ?_ ?_
    · refine zs_iload_n (pc := 27) (k := 3) (i := 3) C (by decide +kernel) rfl rfl ?_
      exact zs_goj (hJ4 x2) ⟨rfl, rfl, rfl, trivial⟩
    · refine zs_bipush (pc := 22) (n := 41) (x := 41) C (by decide +kernel) (by decide +kernel) ?_
      refine zs_goto (pc := 24) (off := 4) (tgt := 28) C (by decide +kernel) (by decide) ?_
      exact zs_goj (hJ4 41) ⟨rfl, rfl, rfl, trivial⟩
set_option maxRecDepth 20000 in
theorem c_X11_clear (l : Launch) (g : GC) (hl : l.stackTraces = false) (a0 : Int) (a1 : Int) (a2 : Int) : ConT l g yX11_clear cX11_clear 4 (some .int) (rmd 9 3 18) [sR 0, sI a0, sI a1, sI a2] (fun mm => fX11_clear a0 a1 a2 mm) := by
  refine zs_ofT (by decide +kernel) (Nat.le_of_ble_eq_true rfl) ?_
  intro p e s m args below meth c C hr hE
  replace C : Bd g RX11 cX11_clear 4 p s m args meth c := C
  unfold fX11_clear
  refine zs_aload_n (pc := 0) (k := 0) (i := 0) C (by decide +kernel) rfl rfl ?_
  refine zs_iload_n (pc := 1) (k := 1) (i := 1) C (by decide +kernel) rfl rfl ?_
  refine zs_iload_n (pc := 2) (k := 2) (i := 2) C (by decide +kernel) rfl rfl ?_
  refine zs_iload_n (pc := 3) (k := 3) (i := 3) C (by decide +kernel) rfl rfl ?_
  refine zs_cvTv (pc := 4) (As := [sI a0, sI a1, sI a2]) (st := []) C hE (c_X11_needWalk l g hl a0 a1 a2) ml_RX11_274 rfl rfl rfl rfl (Nat.le_of_ble_eq_true rfl) ⟨Nat.le_of_ble_eq_true rfl, Nat.le_of_ble_eq_true rfl⟩ ⟨Nat.le_of_ble_eq_true rfl, Nat.le_of_ble_eq_true rfl⟩ ⟨Nat.le_of_ble_eq_true rfl, Nat.le_of_ble_eq_true rfl⟩ (by decide +kernel) ?_
  refine zs_aload_n (pc := 7) (k := 0) (i := 0) C (by decide +kernel) rfl rfl ?_
  refine zs_getR (o' := 18) (pc := 8) (i := 33) (ci := 11) (k := 5) C (by decide +kernel) fl_RX11_33 rfl rfl rfl ?_
  refine zs_iload_n (pc := 11) (k := 1) (i := 1) C (by decide +kernel) rfl rfl ?_
  refine zs_cvVv (pc := 12) (As := [sI a0]) (st := []) C (fun _ _ _ => rfl) (c_X0_begin l g a0) ml_RX11_251 rfl rfl rfl rfl (Nat.le_of_ble_eq_true rfl) ⟨Nat.le_of_ble_eq_true rfl, Nat.le_of_ble_eq_true rfl⟩ ⟨Nat.le_of_ble_eq_true rfl, Nat.le_of_ble_eq_true rfl⟩ (by decide +kernel) ?_
  refine zs_aload_n (pc := 15) (k := 0) (i := 0) C (by decide +kernel) rfl rfl ?_
  refine zs_getR (o' := 18) (pc := 16) (i := 33) (ci := 11) (k := 5) C (by decide +kernel) fl_RX11_33 rfl rfl rfl ?_
  refine zs_iload_n (pc := 19) (k := 2) (i := 2) C (by decide +kernel) rfl rfl ?_
  refine zs_iload_n (pc := 20) (k := 3) (i := 3) C (by decide +kernel) rfl rfl ?_
  refine zs_cvWi (pc := 21) (As := [sI a1, sI a2]) (st := []) C (fun _ _ _ => rfl) rfl (c_X0_rockInTheWay l g a1 a2) ml_RX11_310 rfl rfl rfl rfl (Nat.le_of_ble_eq_true rfl) ⟨Nat.le_of_ble_eq_true rfl, Nat.le_of_ble_eq_true rfl⟩ ⟨Nat.le_of_ble_eq_true rfl, Nat.le_of_ble_eq_true rfl⟩ (by decide +kernel) (fun x1 => ?_)
  exact zs_retTi (pc := 24) C hr ⟨Nat.le_of_ble_eq_true rfl, Nat.le_of_ble_eq_true rfl⟩ (by decide +kernel)
set_option maxRecDepth 20000 in
theorem c_X11_needErrands (l : Launch) (g : GC) (hl : l.stackTraces = false) (a0 : Int) (a1 : Int) : ConT l g yX11_needErrands cX11_needErrands 8 none (rmd 9 5 30) [sR 0, sI a0, sI a1] (fun mm => fX11_needErrands a0 a1 mm) := by
  refine zs_ofT (by decide +kernel) (Nat.le_of_ble_eq_true rfl) ?_
  intro p e s m args below meth c C hr hE
  replace C : Bd g RX11 cX11_needErrands 8 p s m args meth c := C
  unfold fX11_needErrands
  refine zs_aload_n (pc := 0) (k := 0) (i := 0) C (by decide +kernel) rfl rfl ?_
  refine zs_iload_n (pc := 1) (k := 1) (i := 1) C (by decide +kernel) rfl rfl ?_
  refine zs_cvTv (pc := 2) (As := [sI a0]) (st := []) C hE (c_X11_needPair l g hl a0) ml_RX11_134 rfl rfl rfl rfl (Nat.le_of_ble_eq_true rfl) ⟨Nat.le_of_ble_eq_true rfl, Nat.le_of_ble_eq_true rfl⟩ ⟨Nat.le_of_ble_eq_true rfl, Nat.le_of_ble_eq_true rfl⟩ ⟨Nat.le_of_ble_eq_true rfl, Nat.le_of_ble_eq_true rfl⟩ (by decide +kernel) ?_
  refine zs_aload_n (pc := 5) (k := 0) (i := 0) C (by decide +kernel) rfl rfl ?_
  refine zs_iload_n (pc := 6) (k := 2) (i := 2) C (by decide +kernel) rfl rfl ?_
  refine zs_cvTv (pc := 7) (As := [sI a1]) (st := []) C hE (c_X11_needRow l g hl a1) ml_RX11_224 rfl rfl rfl rfl (Nat.le_of_ble_eq_true rfl) ⟨Nat.le_of_ble_eq_true rfl, Nat.le_of_ble_eq_true rfl⟩ ⟨Nat.le_of_ble_eq_true rfl, Nat.le_of_ble_eq_true rfl⟩ ⟨Nat.le_of_ble_eq_true rfl, Nat.le_of_ble_eq_true rfl⟩ (by decide +kernel) ?_
  refine zs_aload_n (pc := 10) (k := 0) (i := 0) C (by decide +kernel) rfl rfl ?_
  refine zs_getR (o' := 88) (pc := 11) (i := 55) (ci := 11) (k := 9) C (by decide +kernel) fl_RX11_55 rfl rfl rfl ?_
  refine zs_getR (o' := 95) (pc := 14) (i := 227) (ci := 9) (k := 2) C (by decide +kernel) fl_RX11_227 rfl rfl rfl ?_
  refine zs_iload_n (pc := 17) (k := 2) (i := 2) C (by decide +kernel) rfl rfl ?_
  refine zs_iald (pc := 18) (o := 95) (n := 4) C (by decide +kernel) rfl (fun hinx1 x1 => ?_)
  refine zs_istore_n (pc := 19) (k := 3) (i := 3) (ls' := [(3, sI x1), (0, sR 0), (1, sI a0), (2, sI a1)]) C (by decide +kernel) rfl (Nat.le_of_ble_eq_true rfl) rfl ?_
  refine zs_aload_n (pc := 20) (k := 0) (i := 0) C (by decide +kernel) rfl rfl ?_
  refine zs_iload_n (pc := 21) (k := 3) (i := 3) C (by decide +kernel) rfl rfl ?_
  refine zs_iconst (pc := 22) (n := 1) (x := 1) C (by decide +kernel) (by decide +kernel) ?_
  refine zs_iconst (pc := 23) (n := 4) (x := 4) C (by decide +kernel) (by decide +kernel) ?_
  refine zs_cvTv (pc := 24) (As := [sI x1, sI 1, sI 4]) (st := []) C hE (c_X11_needWithin l g hl x1 1 4) ml_RX11_179 rfl rfl rfl rfl (Nat.le_of_ble_eq_true rfl) ⟨Nat.le_of_ble_eq_true rfl, Nat.le_of_ble_eq_true rfl⟩ ⟨Nat.le_of_ble_eq_true rfl, Nat.le_of_ble_eq_true rfl⟩ ⟨Nat.le_of_ble_eq_true rfl, Nat.le_of_ble_eq_true rfl⟩ (by decide +kernel) ?_
  refine zs_aload_n (pc := 27) (k := 0) (i := 0) C (by decide +kernel) rfl rfl ?_
  refine zs_getR (o' := 19) (pc := 28) (i := 41) (ci := 11) (k := 6) C (by decide +kernel) fl_RX11_41 rfl rfl rfl ?_
  refine zs_getR (o' := 20) (pc := 31) (i := 114) (ci := 10) (k := 0) C (by decide +kernel) fl_RX11_114 rfl rfl rfl ?_
  refine zs_cvRi (pc := 34) (As := []) (st := []) C rfl (c_X3_places l g ) ml_RX11_403 rfl rfl rfl rfl (Nat.le_of_ble_eq_true rfl) ⟨Nat.le_of_ble_eq_true rfl, Nat.le_of_ble_eq_true rfl⟩ ⟨Nat.le_of_ble_eq_true rfl, Nat.le_of_ble_eq_true rfl⟩ (by decide +kernel) (fun x2 => ?_)
  refine zs_istore (pc := 37) (i := 4) (ls' := [(4, sI x2), (3, sI x1), (0, sR 0), (1, sI a0), (2, sI a1)]) C (by decide +kernel) (Nat.le_of_ble_eq_true rfl) rfl ?_
  refine zs_iconst (pc := 39) (n := 0) (x := 0) C (by decide +kernel) (by decide +kernel) ?_
  refine zs_istore (pc := 40) (i := 5) (ls' := [(5, sI 0), (4, sI x2), (3, sI x1), (0, sR 0), (1, sI a0), (2, sI a1)]) C (by decide +kernel) (Nat.le_of_ble_eq_true rfl) rfl ?_
  refine zs_sub (ls' := [(0, sR 0), (2, sI a1), (3, sI x1), (4, sI x2), (5, sI 0)]) ⟨rfl, rfl, rfl, rfl, rfl, trivial⟩ ?_
  refine zs_lp (pc := 42) (fun (t3 : Int) => [(0, sR 0), (2, sI a1), (3, sI x1), (4, sI x2), (5, sI t3)]) (fun _ => []) (fun K4 hK4 t3 => ?_) BIG 0
  refine zs_iload (pc := 42) (i := 5) C (by decide +kernel) rfl ?_
  refine zs_iload_n (pc := 44) (k := 3) (i := 3) C (by decide +kernel) rfl rfl ?_
  refine zs_icmp_ge (pc := 45) (off := 69) (tgt := 114) C (by decide +kernel) (by decide) ?_ ?_
  · refine zs_aload_n (pc := 114) (k := 0) (i := 0) C (by decide +kernel) rfl rfl ?_
    refine zs_getR (o' := 100) (pc := 115) (i := 69) (ci := 11) (k := 11) C (by decide +kernel) fl_RX11_69 rfl rfl rfl ?_
    refine zs_iload_n (pc := 118) (k := 3) (i := 3) C (by decide +kernel) rfl rfl ?_
    refine zs_putI (pc := 119) (i := 420) (ci := 1) (k := 1) C (fun _ _ _ => rfl) (by decide +kernel) fl_RX11_420 fw_1_1 rfl rfl ?_
    refine zs_iconst (pc := 122) (n := 0) (x := 0) C (by decide +kernel) (by decide +kernel) ?_
    refine zs_istore (pc := 123) (i := 5) (ls' := [(5, sI 0), (0, sR 0), (2, sI a1), (3, sI x1), (4, sI x2)]) C (by decide +kernel) (Nat.le_of_ble_eq_true rfl) rfl ?_
    refine zs_sub (ls' := [(0, sR 0), (2, sI a1), (3, sI x1), (5, sI 0)]) ⟨rfl, rfl, rfl, rfl, trivial⟩ ?_
    refine zs_lp (pc := 125) (fun (t5 : Int) => [(0, sR 0), (2, sI a1), (3, sI x1), (5, sI t5)]) (fun _ => []) (fun K6 hK6 t5 => ?_) BIG 0
    refine zs_iload (pc := 125) (i := 5) C (by decide +kernel) rfl ?_
    refine zs_iload_n (pc := 127) (k := 3) (i := 3) C (by decide +kernel) rfl rfl ?_
    refine zs_icmp_ge (pc := 128) (off := 30) (tgt := 158) C (by decide +kernel) (by decide) ?_ ?_
    · exact zs_retTv (pc := 158) C hr ⟨Nat.le_of_ble_eq_true rfl, Nat.le_of_ble_eq_true rfl⟩ (by decide +kernel)
    · refine zs_aload_n (pc := 131) (k := 0) (i := 0) C (by decide +kernel) rfl rfl ?_
      refine zs_getR (o' := 100) (pc := 132) (i := 69) (ci := 11) (k := 11) C (by decide +kernel) fl_RX11_69 rfl rfl rfl ?_
      refine zs_getR (o' := 101) (pc := 135) (i := 422) (ci := 1) (k := 0) C (by decide +kernel) fl_RX11_422 rfl rfl rfl ?_
      refine zs_iload (pc := 138) (i := 5) C (by decide +kernel) rfl ?_
      refine zs_aload_n (pc := 140) (k := 0) (i := 0) C (by decide +kernel) rfl rfl ?_
      refine zs_getR (o' := 88) (pc := 141) (i := 55) (ci := 11) (k := 9) C (by decide +kernel) fl_RX11_55 rfl rfl rfl ?_
      refine zs_iload_n (pc := 144) (k := 2) (i := 2) C (by decide +kernel) rfl rfl ?_
      refine zs_iload (pc := 145) (i := 5) C (by decide +kernel) rfl ?_
      refine zs_cvRl (pc := 147) (As := [sI a1, sI t5]) (st := [sI t5, sR 101]) C (c_X9_at l g a1 t5) ml_RX11_233 rfl rfl rfl rfl (Nat.le_of_ble_eq_true rfl) ⟨Nat.le_of_ble_eq_true rfl, Nat.le_of_ble_eq_true rfl⟩ ⟨Nat.le_of_ble_eq_true rfl, Nat.le_of_ble_eq_true rfl⟩ (by decide +kernel) (fun x7 => ?_)
      refine zs_l2i (pc := 150) C (by decide +kernel) ?_
      refine zs_iast (pc := 151) (o := 101) (n := 4) C (fun _ _ _ => rfl) (by decide +kernel) rfl ?_
      refine zs_iinc (pc := 152) (i := 5) (n := 1) (y := w32 (t5 + 1)) (ls' := [(5, sI (w32 (t5 + 1))), (0, sR 0), (2, sI a1), (3, sI x1)]) C (by decide +kernel) rfl rfl (Nat.le_of_ble_eq_true rfl) rfl ?_
      refine zs_goto (pc := 155) (off := (-30)) (tgt := 125) C (by decide +kernel) (by decide) ?_
      exact zs_goj (hK6 (w32 (t5 + 1))) ⟨rfl, rfl, rfl, rfl, trivial⟩
  · refine zs_aload_n (pc := 48) (k := 0) (i := 0) C (by decide +kernel) rfl rfl ?_
    refine zs_getR (o' := 88) (pc := 49) (i := 55) (ci := 11) (k := 9) C (by decide +kernel) fl_RX11_55 rfl rfl rfl ?_
    refine zs_iload_n (pc := 52) (k := 2) (i := 2) C (by decide +kernel) rfl rfl ?_
    refine zs_iload (pc := 53) (i := 5) C (by decide +kernel) rfl ?_
    refine zs_cvRl (pc := 55) (As := [sI a1, sI t3]) (st := []) C (c_X9_at l g a1 t3) ml_RX11_233 rfl rfl rfl rfl (Nat.le_of_ble_eq_true rfl) ⟨Nat.le_of_ble_eq_true rfl, Nat.le_of_ble_eq_true rfl⟩ ⟨Nat.le_of_ble_eq_true rfl, Nat.le_of_ble_eq_true rfl⟩ (by decide +kernel) (fun x8 => ?_)
    refine zs_lstore (pc := 58) (i := 6) (ls' := [(6, sL x8), (0, sR 0), (2, sI a1), (3, sI x1), (4, sI x2), (5, sI t3)]) C (by decide +kernel) (Nat.le_of_ble_eq_true rfl) rfl ?_
    refine zs_lload (pc := 60) (i := 6) C (by decide +kernel) rfl ?_
    refine zs_lconst (pc := 62) (n := 0) (x := 0) C (by decide +kernel) (by decide +kernel) ?_
    refine zs_jn (pJ := 97) (kJ := 4) (sJ := 24) (fun t9 => []) (fun t9 => []) (fun t9 => ?_) (fun J10 hJ10 => ?_)
    · exact zs_throwW (pc := 97) (text := "no such errand") (ik := 85) (is_ := 418) (ic := 89) (k := 1) C hE hl ⟨by decide, rfl⟩ ⟨by decide +kernel, by decide +kernel⟩ wf_784 wf_161 (by decide +kernel) ex_RX11_89.1 ex_RX11_89.2 ⟨Nat.le_of_ble_eq_true rfl, Nat.le_of_ble_eq_true rfl, Nat.le_of_ble_eq_true rfl, Nat.le_of_ble_eq_true rfl⟩ ⟨Nat.le_of_ble_eq_true rfl, Nat.le_of_ble_eq_true rfl⟩ (by decide +kernel) (by decide +kernel) (by decide +kernel) (by decide +kernel) (by decide +kernel)
    · refine zs_lcmp_lt (pc := 63) (off := 33) (tgt := 97) C (by decide +kernel) (by decide +kernel) (by decide) ?_ ?_
      · exact zs_goj (hJ10 ()) trivial
      · refine zs_lload (pc := 67) (i := 6) C (by decide +kernel) rfl ?_
        refine zs_bipush (pc := 69) (n := 100) (x := 100) C (by decide +kernel) (by decide +kernel) ?_
        refine zs_iload (pc := 71) (i := 4) C (by decide +kernel) rfl ?_
        refine zs_iadd (pc := 73) C (by decide +kernel) ?_
        refine zs_i2l (pc := 74) C (by decide +kernel) ?_
        refine zs_lcmp_ge (pc := 75) (off := 21) (tgt := 97) C (by decide +kernel) (by decide +kernel) (by decide) ?_ ?_
        · exact zs_goj (hJ10 ()) trivial
        · refine zs_lload (pc := 79) (i := 6) C (by decide +kernel) rfl ?_
          refine zs_iload (pc := 81) (i := 4) C (by decide +kernel) rfl ?_
          refine zs_i2l (pc := 83) C (by decide +kernel) ?_
          refine zs_jn (pJ := 108) (kJ := 4) (sJ := 24) (fun t11 => [(0, sR 0), (2, sI a1), (3, sI x1), (4, sI x2), (5, sI t3)]) (fun t11 => []) (fun t11 => ?_) (fun J12 hJ12 => ?_)
          · refine zs_iinc (pc := 108) (i := 5) (n := 1) (y := w32 (t3 + 1)) (ls' := [(5, sI (w32 (t3 + 1))), (0, sR 0), (2, sI a1), (3, sI x1), (4, sI x2)]) C (by decide +kernel) rfl rfl (Nat.le_of_ble_eq_true rfl) rfl ?_
            refine zs_goto (pc := 111) (off := (-69)) (tgt := 42) C (by decide +kernel) (by decide) ?_
            exact zs_goj (hK4 (w32 (t3 + 1))) ⟨rfl, rfl, rfl, rfl, rfl, trivial⟩
          · refine zs_lcmp_lt (pc := 84) (off := 23) (tgt := 108) C (by decide +kernel) (by decide +kernel) (by decide) ?_ ?_
            · exact zs_goj (hJ12 ()) ⟨rfl, rfl, rfl, rfl, rfl, trivial⟩
            · refine zs_lload (pc := 88) (i := 6) C (by decide +kernel) rfl ?_
              refine zs_ldc2 (pc := 90) (i := 416) (v := 100) (x := 100) C (by decide +kernel) wf_1565 (by decide +kernel) ?_
              refine zs_lcmp_ge (pc := 93) (off := 14) (tgt := 108) C (by decide +kernel) (by decide +kernel) (by decide) ?_ ?_
              · exact zs_goj (hJ12 ()) ⟨rfl, rfl, rfl, rfl, rfl, trivial⟩
              · exact zs_goj (hJ10 ()) trivial
set_option maxRecDepth 20000 in
theorem c_X1_errandsAt (l : Launch) (g : GC) (a0 : Int) : ConR l g yX1_errandsAt cX1_errandsAt 4 (some .int) (rmd 1 0 0) [sR 100, sI a0] (fun mm => fX1_errandsAt a0 mm) := by
  refine zs_ofR (by decide +kernel) (Nat.le_of_ble_eq_true rfl) ?_
  intro p e s m args below meth c C hr
  replace C : Bd g RX1 cX1_errandsAt 4 p s m args meth c := C
  unfold fX1_errandsAt
  refine zs_iconst (pc := 0) (n := 0) (x := 0) C (by decide +kernel) (by decide +kernel) ?_
  refine zs_istore_n (pc := 1) (k := 2) (i := 2) (ls' := [(2, sI 0), (0, sR 100), (1, sI a0)]) C (by decide +kernel) rfl (Nat.le_of_ble_eq_true rfl) rfl ?_
  refine zs_iconst (pc := 2) (n := 0) (x := 0) C (by decide +kernel) (by decide +kernel) ?_
  refine zs_istore_n (pc := 3) (k := 3) (i := 3) (ls' := [(3, sI 0), (2, sI 0), (0, sR 100), (1, sI a0)]) C (by decide +kernel) rfl (Nat.le_of_ble_eq_true rfl) rfl ?_
  refine zs_sub (ls' := [(0, sR 100), (1, sI a0), (2, sI 0), (3, sI 0)]) ⟨rfl, rfl, rfl, rfl, trivial⟩ ?_
  refine zs_lp (pc := 4) (fun (t1 : Int × Int) => [(0, sR 100), (1, sI a0), (2, sI t1.1), (3, sI t1.2)]) (fun _ => []) (fun K2 hK2 t1 => ?_) BIG (0, 0)
  refine zs_iload_n (pc := 4) (k := 3) (i := 3) C (by decide +kernel) rfl rfl ?_
  refine zs_aload_n (pc := 5) (k := 0) (i := 0) C (by decide +kernel) rfl rfl ?_
  refine zs_getI (pc := 6) (i := 15) (ci := 1) (k := 1) C (by decide +kernel) fl_RX1_15 rfl rfl (fun x3 => ?_)
  refine zs_icmp_ge (pc := 9) (off := 29) (tgt := 38) C (by decide +kernel) (by decide) ?_ ?_
  · refine zs_iload_n (pc := 38) (k := 2) (i := 2) C (by decide +kernel) rfl rfl ?_
    exact zs_retRi (pc := 39) C hr ⟨Nat.le_of_ble_eq_true rfl, Nat.le_of_ble_eq_true rfl⟩ (by decide +kernel)
  · refine zs_iload_n (pc := 12) (k := 2) (i := 2) C (by decide +kernel) rfl rfl ?_
    refine zs_aload_n (pc := 13) (k := 0) (i := 0) C (by decide +kernel) rfl rfl ?_
    refine zs_getR (o' := 101) (pc := 14) (i := 11) (ci := 1) (k := 0) C (by decide +kernel) fl_RX1_11 rfl rfl rfl ?_
    refine zs_iload_n (pc := 17) (k := 3) (i := 3) C (by decide +kernel) rfl rfl ?_
    refine zs_iald (pc := 18) (o := 101) (n := 4) C (by decide +kernel) rfl (fun hinx4 x4 => ?_)
    refine zs_iload_n (pc := 19) (k := 1) (i := 1) C (by decide +kernel) rfl rfl ?_
    refine zs_jn (pJ := 30) (kJ := 0) (sJ := 0) (fun t5 => [(0, sR 100), (1, sI a0), (3, sI t1.2)]) (fun t5 => [sI t5, sI t1.1]) (fun t5 => ?_) (fun J6 hJ6 => ?_)
    · refine zs_ior (pc := 30) C (by decide +kernel) ?_
      refine zs_let (fun x7 => ?_)
      refine zs_istore_n (pc := 31) (k := 2) (i := 2) (ls' := [(2, sI x7), (0, sR 100), (1, sI a0), (3, sI t1.2)]) C (by decide +kernel) rfl (Nat.le_of_ble_eq_true rfl) rfl ?_
      refine zs_iinc (pc := 32) (i := 3) (n := 1) (y := w32 (t1.2 + 1)) (ls' := [(3, sI (w32 (t1.2 + 1))), (2, sI x7), (0, sR 100), (1, sI a0)]) C (by decide +kernel) rfl rfl (Nat.le_of_ble_eq_true rfl) rfl ?_
      refine zs_goto (pc := 35) (off := (-31)) (tgt := 4) C (by decide +kernel) (by decide) ?_
      exact zs_goj (hK2 (x7, w32 (t1.2 + 1))) ⟨rfl, rfl, rfl, rfl, trivial⟩
    · refine zs_icmp_ne (pc := 20) (off := 9) (tgt := 29) C (by decide +kernel) (by decide) ?_ ?_
      · refine zs_iconst (pc := 29) (n := 0) (x := 0) C (by decide +kernel) (by decide +kernel) ?_
        exact zs_goj (hJ6 0) ⟨rfl, rfl, rfl, trivial⟩
      · refine zs_iconst (pc := 23) (n := 1) (x := 1) C (by decide +kernel) (by decide +kernel) ?_
        refine zs_iload_n (pc := 24) (k := 3) (i := 3) C (by decide +kernel) rfl rfl ?_
        refine zs_ishl (pc := 25) C (by decide +kernel) ?_
        refine zs_goto (pc := 26) (off := 4) (tgt := 30) C (by decide +kernel) (by decide) ?_
        exact zs_goj (hJ6 (ishl 1 t1.2)) ⟨rfl, rfl, rfl, trivial⟩
set_option maxRecDepth 20000 in
theorem c_X1_sortArrived (l : Launch) (g : GC) (a0 : Int) (a1 : Nat) (n1 : Nat) (h1_ : layL[a1]? = some (.inr (0, n1))) : ConV l g yX1_sortArrived cX1_sortArrived 9 (rmd 2 0 0) [sR 100, sI a0, sR a1] (fun mm => fX1_sortArrived a0 a1 n1 mm) := by
  refine zs_ofV (by decide +kernel) (Nat.le_of_ble_eq_true rfl) ?_
  intro p e s m args below meth c C hr
  replace C : Bd g RX1 cX1_sortArrived 9 p s m args meth c := C
  unfold fX1_sortArrived
  refine zs_iconst (pc := 0) (n := 0) (x := 0) C (by decide +kernel) (by decide +kernel) ?_
  refine zs_istore_n (pc := 1) (k := 3) (i := 3) (ls' := [(3, sI 0), (0, sR 100), (1, sI a0), (2, sR a1)]) C (by decide +kernel) rfl (Nat.le_of_ble_eq_true rfl) rfl ?_
  refine zs_sub (ls' := [(0, sR 100), (1, sI a0), (2, sR a1), (3, sI 0)]) ⟨rfl, rfl, rfl, rfl, trivial⟩ ?_
  refine zs_lp (pc := 2) (fun (t1 : Int) => [(0, sR 100), (1, sI a0), (2, sR a1), (3, sI t1)]) (fun _ => []) (fun K2 hK2 t1 => ?_) BIG 0
  refine zs_iload_n (pc := 2) (k := 3) (i := 3) C (by decide +kernel) rfl rfl ?_
  refine zs_bipush (pc := 3) (n := 25) (x := 25) C (by decide +kernel) (by decide +kernel) ?_
  refine zs_icmp_ge (pc := 5) (off := 129) (tgt := 134) C (by decide +kernel) (by decide) ?_ ?_
  · exact zs_retVv (pc := 134) C hr ⟨Nat.le_of_ble_eq_true rfl, Nat.le_of_ble_eq_true rfl⟩ (by decide +kernel)
  · refine zs_aload_n (pc := 8) (k := 0) (i := 0) C (by decide +kernel) rfl rfl ?_
    refine zs_getR (o' := 104) (pc := 9) (i := 25) (ci := 1) (k := 4) C (by decide +kernel) fl_RX1_25 rfl rfl rfl ?_
    refine zs_iload_n (pc := 12) (k := 3) (i := 3) C (by decide +kernel) rfl rfl ?_
    refine zs_iald (pc := 13) (o := 104) (n := 25) C (by decide +kernel) rfl (fun hinx3 x3 => ?_)
    refine zs_istore (pc := 14) (i := 4) (ls' := [(4, sI x3), (0, sR 100), (1, sI a0), (2, sR a1), (3, sI t1)]) C (by decide +kernel) (Nat.le_of_ble_eq_true rfl) rfl ?_
    refine zs_iload (pc := 16) (i := 4) C (by decide +kernel) rfl ?_
    refine zs_jn (pJ := 128) (kJ := 0) (sJ := 0) (fun t4 => [(0, sR 100), (1, sI a0), (2, sR a1), (3, sI t1)]) (fun t4 => []) (fun t4 => ?_) (fun J5 hJ5 => ?_)
    · refine zs_iinc (pc := 128) (i := 3) (n := 1) (y := w32 (t1 + 1)) (ls' := [(3, sI (w32 (t1 + 1))), (0, sR 100), (1, sI a0), (2, sR a1)]) C (by decide +kernel) rfl rfl (Nat.le_of_ble_eq_true rfl) rfl ?_
      refine zs_goto (pc := 131) (off := (-129)) (tgt := 2) C (by decide +kernel) (by decide) ?_
      exact zs_goj (hK2 (w32 (t1 + 1))) ⟨rfl, rfl, rfl, rfl, trivial⟩
    · refine zs_if_eq (pc := 18) (off := 110) (tgt := 128) C (by decide +kernel) (by decide) ?_ ?_
      · exact zs_goj (hJ5 ()) ⟨rfl, rfl, rfl, rfl, trivial⟩
      · refine zs_iload_n (pc := 21) (k := 1) (i := 1) C (by decide +kernel) rfl rfl ?_
        refine zs_aload_n (pc := 22) (k := 0) (i := 0) C (by decide +kernel) rfl rfl ?_
        refine zs_iload_n (pc := 23) (k := 3) (i := 3) C (by decide +kernel) rfl rfl ?_
        refine zs_cvRi (pc := 24) (As := [sI t1]) (st := [sI a0]) C rfl (c_X1_errandsAt l g t1) ml_RX1_66 rfl rfl rfl rfl (Nat.le_of_ble_eq_true rfl) ⟨Nat.le_of_ble_eq_true rfl, Nat.le_of_ble_eq_true rfl⟩ ⟨Nat.le_of_ble_eq_true rfl, Nat.le_of_ble_eq_true rfl⟩ (by decide +kernel) (fun x6 => ?_)
        refine zs_ior (pc := 27) C (by decide +kernel) ?_
        refine zs_let (fun x7 => ?_)
        refine zs_istore (pc := 28) (i := 5) (ls' := [(5, sI x7), (4, sI x3), (0, sR 100), (1, sI a0), (2, sR a1), (3, sI t1)]) C (by decide +kernel) (Nat.le_of_ble_eq_true rfl) rfl ?_
        refine zs_aload_n (pc := 30) (k := 2) (i := 2) C (by decide +kernel) rfl rfl ?_
        refine zs_iload (pc := 31) (i := 5) C (by decide +kernel) rfl ?_
        refine zs_bipush (pc := 33) (n := 25) (x := 25) C (by decide +kernel) (by decide +kernel) ?_
        refine zs_imul (pc := 35) C (by decide +kernel) ?_
        refine zs_iload_n (pc := 36) (k := 3) (i := 3) C (by decide +kernel) rfl rfl ?_
        refine zs_iadd (pc := 37) C (by decide +kernel) ?_
        refine zs_dup2 (pc := 38) C rfl rfl (by decide +kernel) ?_
        refine zs_iald (pc := 39) (o := a1) (n := n1) C (by decide +kernel) h1_ (fun hinx8 x8 => ?_)
        refine zs_iload (pc := 40) (i := 4) C (by decide +kernel) rfl ?_
        refine zs_aload_n (pc := 42) (k := 0) (i := 0) C (by decide +kernel) rfl rfl ?_
        refine zs_getI (pc := 43) (i := 28) (ci := 1) (k := 5) C (by decide +kernel) fl_RX1_28 rfl rfl (fun x9 => ?_)
        refine zs_iconst (pc := 46) (n := (-1)) (x := (-1)) C (by decide +kernel) (by decide +kernel) ?_
        refine zs_ixor (pc := 47) C (by decide +kernel) ?_
        refine zs_iand (pc := 48) C (by decide +kernel) ?_
        refine zs_ior (pc := 49) C (by decide +kernel) ?_
        refine zs_iast (pc := 50) (o := a1) (n := n1) C (fun _ _ _ => rfl) (by decide +kernel) h1_ ?_
        refine zs_iconst (pc := 51) (n := 0) (x := 0) C (by decide +kernel) (by decide +kernel) ?_
        refine zs_istore (pc := 52) (i := 6) (ls' := [(6, sI 0), (5, sI x7), (4, sI x3), (0, sR 100), (1, sI a0), (2, sR a1), (3, sI t1)]) C (by decide +kernel) (Nat.le_of_ble_eq_true rfl) rfl ?_
        refine zs_sub (ls' := [(0, sR 100), (1, sI a0), (2, sR a1), (3, sI t1), (4, sI x3), (5, sI x7), (6, sI 0)]) ⟨rfl, rfl, rfl, rfl, rfl, rfl, rfl, trivial⟩ ?_
        refine zs_lp (pc := 54) (fun (t10 : Int) => [(0, sR 100), (1, sI a0), (2, sR a1), (3, sI t1), (4, sI x3), (5, sI x7), (6, sI t10)]) (fun _ => []) (fun K11 hK11 t10 => ?_) BIG 0
        refine zs_iload (pc := 54) (i := 6) C (by decide +kernel) rfl ?_
        refine zs_aload_n (pc := 56) (k := 0) (i := 0) C (by decide +kernel) rfl rfl ?_
        refine zs_getI (pc := 57) (i := 15) (ci := 1) (k := 1) C (by decide +kernel) fl_RX1_15 rfl rfl (fun x12 => ?_)
        refine zs_icmp_ge (pc := 60) (off := 68) (tgt := 128) C (by decide +kernel) (by decide) ?_ ?_
        · exact zs_goj (hJ5 ()) ⟨rfl, rfl, rfl, rfl, trivial⟩
        · refine zs_aload_n (pc := 63) (k := 0) (i := 0) C (by decide +kernel) rfl rfl ?_
          refine zs_getR (o' := 101) (pc := 64) (i := 11) (ci := 1) (k := 0) C (by decide +kernel) fl_RX1_11 rfl rfl rfl ?_
          refine zs_iload (pc := 67) (i := 6) C (by decide +kernel) rfl ?_
          refine zs_iald (pc := 69) (o := 101) (n := 4) C (by decide +kernel) rfl (fun hinx13 x13 => ?_)
          refine zs_bipush (pc := 70) (n := 100) (x := 100) C (by decide +kernel) (by decide +kernel) ?_
          refine zs_isub (pc := 72) C (by decide +kernel) ?_
          refine zs_let (fun x14 => ?_)
          refine zs_istore (pc := 73) (i := 7) (ls' := [(7, sI x14), (0, sR 100), (1, sI a0), (2, sR a1), (3, sI t1), (4, sI x3), (5, sI x7), (6, sI t10)]) C (by decide +kernel) (Nat.le_of_ble_eq_true rfl) rfl ?_
          refine zs_iload (pc := 75) (i := 7) C (by decide +kernel) rfl ?_
          refine zs_jn (pJ := 122) (kJ := 0) (sJ := 0) (fun t15 => [(0, sR 100), (1, sI a0), (2, sR a1), (3, sI t1), (4, sI x3), (5, sI x7), (6, sI t10)]) (fun t15 => []) (fun t15 => ?_) (fun J16 hJ16 => ?_)
          · refine zs_iinc (pc := 122) (i := 6) (n := 1) (y := w32 (t10 + 1)) (ls' := [(6, sI (w32 (t10 + 1))), (0, sR 100), (1, sI a0), (2, sR a1), (3, sI t1), (4, sI x3), (5, sI x7)]) C (by decide +kernel) rfl rfl (Nat.le_of_ble_eq_true rfl) rfl ?_
            refine zs_goto (pc := 125) (off := (-71)) (tgt := 54) C (by decide +kernel) (by decide) ?_
            exact zs_goj (hK11 (w32 (t10 + 1))) ⟨rfl, rfl, rfl, rfl, rfl, rfl, rfl, trivial⟩
          · refine zs_if_lt (pc := 77) (off := 45) (tgt := 122) C (by decide +kernel) (by decide) ?_ ?_
            · exact zs_goj (hJ16 ()) ⟨rfl, rfl, rfl, rfl, rfl, rfl, rfl, trivial⟩
            · refine zs_iload (pc := 80) (i := 4) C (by decide +kernel) rfl ?_
              refine zs_iload (pc := 82) (i := 7) C (by decide +kernel) rfl ?_
              refine zs_iushr (pc := 84) C (by decide +kernel) ?_
              refine zs_iconst (pc := 85) (n := 1) (x := 1) C (by decide +kernel) (by decide +kernel) ?_
              refine zs_iand (pc := 86) C (by decide +kernel) ?_
              refine zs_if_eq (pc := 87) (off := 35) (tgt := 122) C (by decide +kernel) (by decide) ?_ ?_
              · exact zs_goj (hJ16 ()) ⟨rfl, rfl, rfl, rfl, rfl, rfl, rfl, trivial⟩
              · refine zs_iload (pc := 90) (i := 5) C (by decide +kernel) rfl ?_
                refine zs_aload_n (pc := 92) (k := 0) (i := 0) C (by decide +kernel) rfl rfl ?_
                refine zs_aload_n (pc := 93) (k := 0) (i := 0) C (by decide +kernel) rfl rfl ?_
                refine zs_getR (o' := 101) (pc := 94) (i := 11) (ci := 1) (k := 0) C (by decide +kernel) fl_RX1_11 rfl rfl rfl ?_
                refine zs_iload (pc := 97) (i := 6) C (by decide +kernel) rfl ?_
                refine zs_iald (pc := 99) (o := 101) (n := 4) C (by decide +kernel) rfl (fun hinx17 x17 => ?_)
                refine zs_cvRi (pc := 100) (As := [sI x17]) (st := [sI x7]) C rfl (c_X1_errandsAt l g x17) ml_RX1_66 rfl rfl rfl rfl (Nat.le_of_ble_eq_true rfl) ⟨Nat.le_of_ble_eq_true rfl, Nat.le_of_ble_eq_true rfl⟩ ⟨Nat.le_of_ble_eq_true rfl, Nat.le_of_ble_eq_true rfl⟩ (by decide +kernel) (fun x18 => ?_)
                refine zs_ior (pc := 103) C (by decide +kernel) ?_
                refine zs_let (fun x19 => ?_)
                refine zs_istore (pc := 104) (i := 8) (ls' := [(8, sI x19), (7, sI x14), (0, sR 100), (1, sI a0), (2, sR a1), (3, sI t1), (4, sI x3), (5, sI x7), (6, sI t10)]) C (by decide +kernel) (Nat.le_of_ble_eq_true rfl) rfl ?_
                refine zs_aload_n (pc := 106) (k := 2) (i := 2) C (by decide +kernel) rfl rfl ?_
                refine zs_iload (pc := 107) (i := 8) C (by decide +kernel) rfl ?_
                refine zs_bipush (pc := 109) (n := 25) (x := 25) C (by decide +kernel) (by decide +kernel) ?_
                refine zs_imul (pc := 111) C (by decide +kernel) ?_
                refine zs_iload_n (pc := 112) (k := 3) (i := 3) C (by decide +kernel) rfl rfl ?_
                refine zs_iadd (pc := 113) C (by decide +kernel) ?_
                refine zs_dup2 (pc := 114) C rfl rfl (by decide +kernel) ?_
                refine zs_iald (pc := 115) (o := a1) (n := n1) C (by decide +kernel) h1_ (fun hinx20 x20 => ?_)
                refine zs_iconst (pc := 116) (n := 1) (x := 1) C (by decide +kernel) (by decide +kernel) ?_
                refine zs_iload (pc := 117) (i := 7) C (by decide +kernel) rfl ?_
                refine zs_ishl (pc := 119) C (by decide +kernel) ?_
                refine zs_ior (pc := 120) C (by decide +kernel) ?_
                refine zs_iast (pc := 121) (o := a1) (n := n1) C (fun _ _ _ => rfl) (by decide +kernel) h1_ ?_
                exact zs_goj (hJ16 ()) ⟨rfl, rfl, rfl, rfl, rfl, rfl, rfl, trivial⟩
set_option maxRecDepth 20000 in
theorem c_X1_start (l : Launch) (g : GC)  : ConV l g yX1_start cX1_start 3 (rmd 3 0 0) [sR 100, sR 18] (fun mm => fX1_start  mm) := by
  refine zs_ofV (by decide +kernel) (Nat.le_of_ble_eq_true rfl) ?_
  intro p e s m args below meth c C hr
  replace C : Bd g RX1 cX1_start 3 p s m args meth c := C
  unfold fX1_start
  refine zs_aload_n (pc := 0) (k := 0) (i := 0) C (by decide +kernel) rfl rfl ?_
  refine zs_iconst (pc := 1) (n := 0) (x := 0) C (by decide +kernel) (by decide +kernel) ?_
  refine zs_putI (pc := 2) (i := 28) (ci := 1) (k := 5) C (fun _ _ _ => rfl) (by decide +kernel) fl_RX1_28 fw_1_5 rfl rfl ?_
  refine zs_iconst (pc := 5) (n := 0) (x := 0) C (by decide +kernel) (by decide +kernel) ?_
  refine zs_istore_n (pc := 6) (k := 2) (i := 2) (ls' := [(2, sI 0), (0, sR 100), (1, sR 18)]) C (by decide +kernel) rfl (Nat.le_of_ble_eq_true rfl) rfl ?_
  refine zs_sub (ls' := [(0, sR 100), (1, sR 18), (2, sI 0)]) ⟨rfl, rfl, rfl, trivial⟩ ?_
  refine zs_lp (pc := 7) (fun (t1 : Int) => [(0, sR 100), (1, sR 18), (2, sI t1)]) (fun _ => []) (fun K2 hK2 t1 => ?_) BIG 0
  refine zs_iload_n (pc := 7) (k := 2) (i := 2) C (by decide +kernel) rfl rfl ?_
  refine zs_aload_n (pc := 8) (k := 0) (i := 0) C (by decide +kernel) rfl rfl ?_
  refine zs_getI (pc := 9) (i := 15) (ci := 1) (k := 1) C (by decide +kernel) fl_RX1_15 rfl rfl (fun x3 => ?_)
  refine zs_icmp_ge (pc := 12) (off := 44) (tgt := 56) C (by decide +kernel) (by decide) ?_ ?_
  · refine zs_aload_n (pc := 56) (k := 0) (i := 0) C (by decide +kernel) rfl rfl ?_
    refine zs_getM (pc := 57) (i := 19) (ci := 1) (k := 2) C (by decide +kernel) fl_RX1_19 rfl rfl (fun x4 => ?_)
    refine zs_need (fun hx4 => ?_)
    refine zs_iconst (pc := 60) (n := 0) (x := 0) C (by decide +kernel) (by decide +kernel) ?_
    refine zs_csVv (pc := 61) (As := [sR x4, sI 0]) (st := []) C (fun _ _ _ => rfl) (c_J7_fill_53178 l g x4 400 0 hx4) ml_RX1_43 rfl rfl (Nat.le_of_ble_eq_true rfl) ⟨Nat.le_of_ble_eq_true rfl, Nat.le_of_ble_eq_true rfl⟩ ⟨Nat.le_of_ble_eq_true rfl, Nat.le_of_ble_eq_true rfl⟩ (by decide +kernel) ?_
    refine zs_aload_n (pc := 64) (k := 0) (i := 0) C (by decide +kernel) rfl rfl ?_
    refine zs_getR (o' := 104) (pc := 65) (i := 25) (ci := 1) (k := 4) C (by decide +kernel) fl_RX1_25 rfl rfl rfl ?_
    refine zs_iconst (pc := 68) (n := 0) (x := 0) C (by decide +kernel) (by decide +kernel) ?_
    refine zs_csVv (pc := 69) (As := [sR 104, sI 0]) (st := []) C (fun _ _ _ => rfl) (c_J7_fill_53178 l g 104 25 0 rfl) ml_RX1_43 rfl rfl (Nat.le_of_ble_eq_true rfl) ⟨Nat.le_of_ble_eq_true rfl, Nat.le_of_ble_eq_true rfl⟩ ⟨Nat.le_of_ble_eq_true rfl, Nat.le_of_ble_eq_true rfl⟩ (by decide +kernel) ?_
    refine zs_aload_n (pc := 72) (k := 0) (i := 0) C (by decide +kernel) rfl rfl ?_
    refine zs_getR (o' := 104) (pc := 73) (i := 25) (ci := 1) (k := 4) C (by decide +kernel) fl_RX1_25 rfl rfl rfl ?_
    refine zs_aload_n (pc := 76) (k := 1) (i := 1) C (by decide +kernel) rfl rfl ?_
    refine zs_cvRi (pc := 77) (As := []) (st := [sR 104]) C rfl (c_X0_startFirst l g ) ml_RX1_49 rfl rfl rfl rfl (Nat.le_of_ble_eq_true rfl) ⟨Nat.le_of_ble_eq_true rfl, Nat.le_of_ble_eq_true rfl⟩ ⟨Nat.le_of_ble_eq_true rfl, Nat.le_of_ble_eq_true rfl⟩ (by decide +kernel) (fun x5 => ?_)
    refine zs_iconst (pc := 80) (n := 1) (x := 1) C (by decide +kernel) (by decide +kernel) ?_
    refine zs_aload_n (pc := 81) (k := 1) (i := 1) C (by decide +kernel) rfl rfl ?_
    refine zs_cvRi (pc := 82) (As := []) (st := [sI 1, sI x5, sR 104]) C rfl (c_X0_startSecond l g ) ml_RX1_55 rfl rfl rfl rfl (Nat.le_of_ble_eq_true rfl) ⟨Nat.le_of_ble_eq_true rfl, Nat.le_of_ble_eq_true rfl⟩ ⟨Nat.le_of_ble_eq_true rfl, Nat.le_of_ble_eq_true rfl⟩ (by decide +kernel) (fun x6 => ?_)
    refine zs_ishl (pc := 85) C (by decide +kernel) ?_
    refine zs_iast (pc := 86) (o := 104) (n := 25) C (fun _ _ _ => rfl) (by decide +kernel) rfl ?_
    refine zs_aload_n (pc := 87) (k := 0) (i := 0) C (by decide +kernel) rfl rfl ?_
    refine zs_iconst (pc := 88) (n := 0) (x := 0) C (by decide +kernel) (by decide +kernel) ?_
    refine zs_aload_n (pc := 89) (k := 0) (i := 0) C (by decide +kernel) rfl rfl ?_
    refine zs_getM (pc := 90) (i := 19) (ci := 1) (k := 2) C (by decide +kernel) fl_RX1_19 rfl rfl (fun x7 => ?_)
    refine zs_need (fun hx7 => ?_)
    refine zs_cvVv (pc := 93) (As := [sI 0, sR x7]) (st := []) C (fun _ _ _ => rfl) (c_X1_sortArrived l g 0 x7 400 hx7) ml_RX1_58 rfl rfl rfl rfl (Nat.le_of_ble_eq_true rfl) ⟨Nat.le_of_ble_eq_true rfl, Nat.le_of_ble_eq_true rfl⟩ ⟨Nat.le_of_ble_eq_true rfl, Nat.le_of_ble_eq_true rfl⟩ (by decide +kernel) ?_
    exact zs_retVv (pc := 96) C hr ⟨Nat.le_of_ble_eq_true rfl, Nat.le_of_ble_eq_true rfl⟩ (by decide +kernel)
  · refine zs_aload_n (pc := 15) (k := 0) (i := 0) C (by decide +kernel) rfl rfl ?_
    refine zs_dup (pc := 16) C rfl (by decide +kernel) ?_
    refine zs_getI (pc := 17) (i := 28) (ci := 1) (k := 5) C (by decide +kernel) fl_RX1_28 rfl rfl (fun x8 => ?_)
    refine zs_aload_n (pc := 20) (k := 0) (i := 0) C (by decide +kernel) rfl rfl ?_
    refine zs_getR (o' := 101) (pc := 21) (i := 11) (ci := 1) (k := 0) C (by decide +kernel) fl_RX1_11 rfl rfl rfl ?_
    refine zs_iload_n (pc := 24) (k := 2) (i := 2) C (by decide +kernel) rfl rfl ?_
    refine zs_iald (pc := 25) (o := 101) (n := 4) C (by decide +kernel) rfl (fun hinx9 x9 => ?_)
    refine zs_bipush (pc := 26) (n := 100) (x := 100) C (by decide +kernel) (by decide +kernel) ?_
    refine zs_jn (pJ := 46) (kJ := 0) (sJ := 0) (fun t10 => [(0, sR 100), (1, sR 18), (2, sI t1)]) (fun t10 => [sI t10, sI x8, sR 100]) (fun t10 => ?_) (fun J11 hJ11 => ?_)
    · refine zs_ior (pc := 46) C (by decide +kernel) ?_
      refine zs_putI (pc := 47) (i := 28) (ci := 1) (k := 5) C (fun _ _ _ => rfl) (by decide +kernel) fl_RX1_28 fw_1_5 rfl rfl ?_
      refine zs_iinc (pc := 50) (i := 2) (n := 1) (y := w32 (t1 + 1)) (ls' := [(2, sI (w32 (t1 + 1))), (0, sR 100), (1, sR 18)]) C (by decide +kernel) rfl rfl (Nat.le_of_ble_eq_true rfl) rfl ?_
      refine zs_goto (pc := 53) (off := (-46)) (tgt := 7) C (by decide +kernel) (by decide) ?_
      exact zs_goj (hK2 (w32 (t1 + 1))) ⟨rfl, rfl, rfl, trivial⟩
    · refine zs_icmp_lt (pc := 28) (off := 17) (tgt := 45) C (by decide +kernel) (by decide) ?_ ?_
      · refine zs_iconst (pc := 45) (n := 0) (x := 0) C (by decide +kernel) (by decide +kernel) ?_
        exact zs_goj (hJ11 0) ⟨rfl, rfl, rfl, trivial⟩
      · refine zs_iconst (pc := 31) (n := 1) (x := 1) C (by decide +kernel) (by decide +kernel) ?_
        refine zs_aload_n (pc := 32) (k := 0) (i := 0) C (by decide +kernel) rfl rfl ?_
        refine zs_getR (o' := 101) (pc := 33) (i := 11) (ci := 1) (k := 0) C (by decide +kernel) fl_RX1_11 rfl rfl rfl ?_
        refine zs_iload_n (pc := 36) (k := 2) (i := 2) C (by decide +kernel) rfl rfl ?_
        refine zs_iald (pc := 37) (o := 101) (n := 4) C (by decide +kernel) rfl (fun hinx12 x12 => ?_)
        refine zs_bipush (pc := 38) (n := 100) (x := 100) C (by decide +kernel) (by decide +kernel) ?_
        refine zs_isub (pc := 40) C (by decide +kernel) ?_
        refine zs_ishl (pc := 41) C (by decide +kernel) ?_
        refine zs_goto (pc := 42) (off := 4) (tgt := 46) C (by decide +kernel) (by decide) ?_
        exact zs_goj (hJ11 (ishl 1 (w32 (x12 - 100)))) ⟨rfl, rfl, rfl, trivial⟩
set_option maxRecDepth 20000 in
theorem c_X1_isDone (l : Launch) (g : GC) (a0 : Int) : ConR l g yX1_isDone cX1_isDone 3 (some .boolean) (rmd 1 0 0) [sR 100, sI a0] (fun mm => fX1_isDone a0 mm) := by
  refine zs_ofR (by decide +kernel) (Nat.le_of_ble_eq_true rfl) ?_
  intro p e s m args below meth c C hr
  replace C : Bd g RX1 cX1_isDone 3 p s m args meth c := C
  unfold fX1_isDone
  refine zs_iconst (pc := 0) (n := 0) (x := 0) C (by decide +kernel) (by decide +kernel) ?_
  refine zs_istore_n (pc := 1) (k := 2) (i := 2) (ls' := [(2, sI 0), (0, sR 100), (1, sI a0)]) C (by decide +kernel) rfl (Nat.le_of_ble_eq_true rfl) rfl ?_
  refine zs_sub (ls' := [(0, sR 100), (1, sI a0), (2, sI 0)]) ⟨rfl, rfl, rfl, trivial⟩ ?_
  refine zs_lp (pc := 2) (fun (t1 : Int) => [(0, sR 100), (1, sI a0), (2, sI t1)]) (fun _ => []) (fun K2 hK2 t1 => ?_) BIG 0
  refine zs_iload_n (pc := 2) (k := 2) (i := 2) C (by decide +kernel) rfl rfl ?_
  refine zs_bipush (pc := 3) (n := 25) (x := 25) C (by decide +kernel) (by decide +kernel) ?_
  refine zs_icmp_ge (pc := 5) (off := 25) (tgt := 30) C (by decide +kernel) (by decide) ?_ ?_
  · refine zs_iconst (pc := 30) (n := 0) (x := 0) C (by decide +kernel) (by decide +kernel) ?_
    exact zs_retRz (pc := 31) C (by decide) hr ⟨Nat.le_of_ble_eq_true rfl, Nat.le_of_ble_eq_true rfl⟩ (by decide +kernel)
  · refine zs_aload_n (pc := 8) (k := 0) (i := 0) C (by decide +kernel) rfl rfl ?_
    refine zs_getM (pc := 9) (i := 19) (ci := 1) (k := 2) C (by decide +kernel) fl_RX1_19 rfl rfl (fun x3 => ?_)
    refine zs_need (fun hx3 => ?_)
    refine zs_iload_n (pc := 12) (k := 1) (i := 1) C (by decide +kernel) rfl rfl ?_
    refine zs_bipush (pc := 13) (n := 25) (x := 25) C (by decide +kernel) (by decide +kernel) ?_
    refine zs_imul (pc := 15) C (by decide +kernel) ?_
    refine zs_iload_n (pc := 16) (k := 2) (i := 2) C (by decide +kernel) rfl rfl ?_
    refine zs_iadd (pc := 17) C (by decide +kernel) ?_
    refine zs_iald (pc := 18) (o := x3) (n := 400) C (by decide +kernel) hx3 (fun hinx4 x4 => ?_)
    refine zs_if_eq (pc := 19) (off := 5) (tgt := 24) C (by decide +kernel) (by decide) ?_ ?_
    · refine zs_iinc (pc := 24) (i := 2) (n := 1) (y := w32 (t1 + 1)) (ls' := [(2, sI (w32 (t1 + 1))), (0, sR 100), (1, sI a0)]) C (by decide +kernel) rfl rfl (Nat.le_of_ble_eq_true rfl) rfl ?_
      refine zs_goto (pc := 27) (off := (-25)) (tgt := 2) C (by decide +kernel) (by decide) ?_
      exact zs_goj (hK2 (w32 (t1 + 1))) ⟨rfl, rfl, rfl, trivial⟩
    · refine zs_iconst (pc := 22) (n := 1) (x := 1) C (by decide +kernel) (by decide +kernel) ?_
      exact zs_retRz (pc := 23) C (by decide) hr ⟨Nat.le_of_ble_eq_true rfl, Nat.le_of_ble_eq_true rfl⟩ (by decide +kernel)
set_option maxRecDepth 20000 in
theorem c_X1_goOn (l : Launch) (g : GC) (a1 : Int) : ConW l g yX1_goOn cX1_goOn 5 (some .boolean) (rmd 5 0 0) [sR 100, sR 18, sI a1] (fun mm => fX1_goOn a1 mm) := by
  refine zs_ofW (by decide +kernel) (Nat.le_of_ble_eq_true rfl) ?_
  intro p e s m args below meth c C hr
  replace C : Bd g RX1 cX1_goOn 5 p s m args meth c := C
  unfold fX1_goOn
  refine zs_iconst (pc := 0) (n := 0) (x := 0) C (by decide +kernel) (by decide +kernel) ?_
  refine zs_istore_n (pc := 1) (k := 3) (i := 3) (ls' := [(3, sI 0), (0, sR 100), (1, sR 18), (2, sI a1)]) C (by decide +kernel) rfl (Nat.le_of_ble_eq_true rfl) rfl ?_
  refine zs_aload_n (pc := 2) (k := 0) (i := 0) C (by decide +kernel) rfl rfl ?_
  refine zs_getM (pc := 3) (i := 22) (ci := 1) (k := 3) C (by decide +kernel) fl_RX1_22 rfl rfl (fun x1 => ?_)
  refine zs_need (fun hx1 => ?_)
  refine zs_iconst (pc := 6) (n := 0) (x := 0) C (by decide +kernel) (by decide +kernel) ?_
  refine zs_csVv (pc := 7) (As := [sR x1, sI 0]) (st := []) C (fun _ _ _ => rfl) (c_J7_fill_53178 l g x1 400 0 hx1) ml_RX1_43 rfl rfl (Nat.le_of_ble_eq_true rfl) ⟨Nat.le_of_ble_eq_true rfl, Nat.le_of_ble_eq_true rfl⟩ ⟨Nat.le_of_ble_eq_true rfl, Nat.le_of_ble_eq_true rfl⟩ (by decide +kernel) ?_
  refine zs_iconst (pc := 10) (n := 0) (x := 0) C (by decide +kernel) (by decide +kernel) ?_
  refine zs_istore (pc := 11) (i := 4) (ls' := [(4, sI 0), (3, sI 0), (0, sR 100), (1, sR 18), (2, sI a1)]) C (by decide +kernel) (Nat.le_of_ble_eq_true rfl) rfl ?_
  refine zs_sub (ls' := [(0, sR 100), (1, sR 18), (2, sI a1), (3, sI 0), (4, sI 0)]) ⟨rfl, rfl, rfl, rfl, rfl, trivial⟩ ?_
  refine zs_lp (pc := 13) (fun (t2 : Int × Int) => [(0, sR 100), (1, sR 18), (2, sI a1), (3, sI t2.1), (4, sI t2.2)]) (fun _ => []) (fun K3 hK3 t2 => ?_) BIG (0, 0)
  refine zs_iload (pc := 13) (i := 4) C (by decide +kernel) rfl ?_
  refine zs_iconst (pc := 15) (n := 1) (x := 1) C (by decide +kernel) (by decide +kernel) ?_
  refine zs_aload_n (pc := 16) (k := 0) (i := 0) C (by decide +kernel) rfl rfl ?_
  refine zs_getI (pc := 17) (i := 15) (ci := 1) (k := 1) C (by decide +kernel) fl_RX1_15 rfl rfl (fun x4 => ?_)
  refine zs_ishl (pc := 20) C (by decide +kernel) ?_
  refine zs_icmp_ge (pc := 21) (off := 52) (tgt := 73) C (by decide +kernel) (by decide) ?_ ?_
  · refine zs_aload_n (pc := 73) (k := 0) (i := 0) C (by decide +kernel) rfl rfl ?_
    refine zs_getM (pc := 74) (i := 19) (ci := 1) (k := 2) C (by decide +kernel) fl_RX1_19 rfl rfl (fun x5 => ?_)
    refine zs_need (fun hx5 => ?_)
    refine zs_astore (pc := 77) (i := 4) (ls' := [(4, sR x5), (0, sR 100), (1, sR 18), (2, sI a1), (3, sI t2.1)]) C (by decide +kernel) (Nat.le_of_ble_eq_true rfl) rfl ?_
    refine zs_aload_n (pc := 79) (k := 0) (i := 0) C (by decide +kernel) rfl rfl ?_
    refine zs_aload_n (pc := 80) (k := 0) (i := 0) C (by decide +kernel) rfl rfl ?_
    refine zs_getM (pc := 81) (i := 22) (ci := 1) (k := 3) C (by decide +kernel) fl_RX1_22 rfl rfl (fun x6 => ?_)
    refine zs_need (fun hx6 => ?_)
    refine zs_putM (hty := rfl) (pc := 84) (i := 19) (ci := 1) (k := 2) C (fun _ _ _ => rfl) (by decide +kernel) fl_RX1_19 fw_1_2 rfl rfl ?_
    refine zs_aload_n (pc := 87) (k := 0) (i := 0) C (by decide +kernel) rfl rfl ?_
    refine zs_aload (pc := 88) (i := 4) C (by decide +kernel) rfl ?_
    refine zs_putM (hty := rfl) (pc := 90) (i := 22) (ci := 1) (k := 3) C (fun _ _ _ => rfl) (by decide +kernel) fl_RX1_22 fw_1_3 rfl rfl ?_
    refine zs_iload_n (pc := 93) (k := 3) (i := 3) C (by decide +kernel) rfl rfl ?_
    refine zs_chk (fun _ hx => ?_)
    exact zs_retWz (pc := 94) C hx hr ⟨Nat.le_of_ble_eq_true rfl, Nat.le_of_ble_eq_true rfl⟩ (by decide +kernel)
  · refine zs_aload_n (pc := 24) (k := 0) (i := 0) C (by decide +kernel) rfl rfl ?_
    refine zs_iload (pc := 25) (i := 4) C (by decide +kernel) rfl ?_
    refine zs_cvRi (pc := 27) (As := [sI t2.2]) (st := []) C rfl (c_X1_isDone l g t2.2) ml_RX1_39 rfl rfl rfl rfl (Nat.le_of_ble_eq_true rfl) ⟨Nat.le_of_ble_eq_true rfl, Nat.le_of_ble_eq_true rfl⟩ ⟨Nat.le_of_ble_eq_true rfl, Nat.le_of_ble_eq_true rfl⟩ (by decide +kernel) (fun x7 => ?_)
    refine zs_jn (pJ := 67) (kJ := 0) (sJ := 0) (fun t8 => [(0, sR 100), (1, sR 18), (2, sI a1), (3, sI t8), (4, sI t2.2)]) (fun t8 => []) (fun t8 => ?_) (fun J9 hJ9 => ?_)
    · refine zs_iinc (pc := 67) (i := 4) (n := 1) (y := w32 (t2.2 + 1)) (ls' := [(4, sI (w32 (t2.2 + 1))), (0, sR 100), (1, sR 18), (2, sI a1), (3, sI t8)]) C (by decide +kernel) rfl rfl (Nat.le_of_ble_eq_true rfl) rfl ?_
      refine zs_goto (pc := 70) (off := (-57)) (tgt := 13) C (by decide +kernel) (by decide) ?_
      exact zs_goj (hK3 (t8, w32 (t2.2 + 1))) ⟨rfl, rfl, rfl, rfl, rfl, trivial⟩
    · refine zs_if_eq (pc := 30) (off := 37) (tgt := 67) C (by decide +kernel) (by decide) ?_ ?_
      · exact zs_goj (hJ9 t2.1) ⟨rfl, rfl, rfl, rfl, rfl, trivial⟩
      · refine zs_aload_n (pc := 33) (k := 1) (i := 1) C (by decide +kernel) rfl rfl ?_
        refine zs_aload_n (pc := 34) (k := 0) (i := 0) C (by decide +kernel) rfl rfl ?_
        refine zs_getM (pc := 35) (i := 19) (ci := 1) (k := 2) C (by decide +kernel) fl_RX1_19 rfl rfl (fun x10 => ?_)
        refine zs_need (fun hx10 => ?_)
        refine zs_iload (pc := 38) (i := 4) C (by decide +kernel) rfl ?_
        refine zs_bipush (pc := 40) (n := 25) (x := 25) C (by decide +kernel) (by decide +kernel) ?_
        refine zs_imul (pc := 42) C (by decide +kernel) ?_
        refine zs_aload_n (pc := 43) (k := 0) (i := 0) C (by decide +kernel) rfl rfl ?_
        refine zs_getR (o' := 104) (pc := 44) (i := 25) (ci := 1) (k := 4) C (by decide +kernel) fl_RX1_25 rfl rfl rfl ?_
        refine zs_iconst (pc := 47) (n := 0) (x := 0) C (by decide +kernel) (by decide +kernel) ?_
        refine zs_iload_n (pc := 48) (k := 2) (i := 2) C (by decide +kernel) rfl rfl ?_
        refine zs_cvWi (pc := 49) (As := [sR x10, sI (w32 (t2.2 * 25)), sR 104, sI 0, sI a1]) (st := []) C (fun _ _ _ => rfl) rfl (c_X0_stepOn l g x10 400 (w32 (t2.2 * 25)) 104 25 0 a1 hx10 rfl) ml_RX1_62 rfl rfl rfl rfl (Nat.le_of_ble_eq_true rfl) ⟨Nat.le_of_ble_eq_true rfl, Nat.le_of_ble_eq_true rfl⟩ ⟨Nat.le_of_ble_eq_true rfl, Nat.le_of_ble_eq_true rfl⟩ (by decide +kernel) (fun x11 => ?_)
        refine zs_if_eq (pc := 52) (off := 15) (tgt := 67) C (by decide +kernel) (by decide) ?_ ?_
        · exact zs_goj (hJ9 t2.1) ⟨rfl, rfl, rfl, rfl, rfl, trivial⟩
        · refine zs_iconst (pc := 55) (n := 1) (x := 1) C (by decide +kernel) (by decide +kernel) ?_
          refine zs_istore_n (pc := 56) (k := 3) (i := 3) (ls' := [(3, sI 1), (0, sR 100), (1, sR 18), (2, sI a1), (4, sI t2.2)]) C (by decide +kernel) rfl (Nat.le_of_ble_eq_true rfl) rfl ?_
          refine zs_aload_n (pc := 57) (k := 0) (i := 0) C (by decide +kernel) rfl rfl ?_
          refine zs_iload (pc := 58) (i := 4) C (by decide +kernel) rfl ?_
          refine zs_aload_n (pc := 60) (k := 0) (i := 0) C (by decide +kernel) rfl rfl ?_
          refine zs_getM (pc := 61) (i := 22) (ci := 1) (k := 3) C (by decide +kernel) fl_RX1_22 rfl rfl (fun x12 => ?_)
          refine zs_need (fun hx12 => ?_)
          refine zs_cvVv (pc := 64) (As := [sI t2.2, sR x12]) (st := []) C (fun _ _ _ => rfl) (c_X1_sortArrived l g t2.2 x12 400 hx12) ml_RX1_58 rfl rfl rfl rfl (Nat.le_of_ble_eq_true rfl) ⟨Nat.le_of_ble_eq_true rfl, Nat.le_of_ble_eq_true rfl⟩ ⟨Nat.le_of_ble_eq_true rfl, Nat.le_of_ble_eq_true rfl⟩ (by decide +kernel) ?_
          exact zs_goj (hJ9 1) ⟨rfl, rfl, rfl, rfl, rfl, trivial⟩
set_option maxRecDepth 20000 in
theorem c_X1_hoursForAll (l : Launch) (g : GC)  : ConW l g yX1_hoursForAll cX1_hoursForAll 4 (some .int) (rmd 6 0 0) [sR 100, sR 18] (fun mm => fX1_hoursForAll  mm) := by
  refine zs_ofW (by decide +kernel) (Nat.le_of_ble_eq_true rfl) ?_
  intro p e s m args below meth c C hr
  replace C : Bd g RX1 cX1_hoursForAll 4 p s m args meth c := C
  unfold fX1_hoursForAll
  refine zs_iconst (pc := 0) (n := 1) (x := 1) C (by decide +kernel) (by decide +kernel) ?_
  refine zs_aload_n (pc := 1) (k := 0) (i := 0) C (by decide +kernel) rfl rfl ?_
  refine zs_getI (pc := 2) (i := 15) (ci := 1) (k := 1) C (by decide +kernel) fl_RX1_15 rfl rfl (fun x1 => ?_)
  refine zs_ishl (pc := 5) C (by decide +kernel) ?_
  refine zs_iconst (pc := 6) (n := 1) (x := 1) C (by decide +kernel) (by decide +kernel) ?_
  refine zs_isub (pc := 7) C (by decide +kernel) ?_
  refine zs_let (fun x2 => ?_)
  refine zs_istore_n (pc := 8) (k := 2) (i := 2) (ls' := [(2, sI x2), (0, sR 100), (1, sR 18)]) C (by decide +kernel) rfl (Nat.le_of_ble_eq_true rfl) rfl ?_
  refine zs_aload_n (pc := 9) (k := 0) (i := 0) C (by decide +kernel) rfl rfl ?_
  refine zs_aload_n (pc := 10) (k := 1) (i := 1) C (by decide +kernel) rfl rfl ?_
  refine zs_cvVv (pc := 11) (As := [sR 18]) (st := []) C (fun _ _ _ => rfl) (c_X1_start l g ) ml_RX1_31 rfl rfl rfl rfl (Nat.le_of_ble_eq_true rfl) ⟨Nat.le_of_ble_eq_true rfl, Nat.le_of_ble_eq_true rfl⟩ ⟨Nat.le_of_ble_eq_true rfl, Nat.le_of_ble_eq_true rfl⟩ (by decide +kernel) ?_
  refine zs_iconst (pc := 14) (n := 0) (x := 0) C (by decide +kernel) (by decide +kernel) ?_
  refine zs_istore_n (pc := 15) (k := 3) (i := 3) (ls' := [(3, sI 0), (2, sI x2), (0, sR 100), (1, sR 18)]) C (by decide +kernel) rfl (Nat.le_of_ble_eq_true rfl) rfl ?_
  refine zs_sub (ls' := [(0, sR 100), (1, sR 18), (2, sI x2), (3, sI 0)]) ⟨rfl, rfl, rfl, rfl, trivial⟩ ?_
  refine zs_lp (pc := 16) (fun (t3 : Int) => [(0, sR 100), (1, sR 18), (2, sI x2), (3, sI t3)]) (fun _ => []) (fun K4 hK4 t3 => ?_) BIG 0
  refine zs_iload_n (pc := 16) (k := 3) (i := 3) C (by decide +kernel) rfl rfl ?_
  refine zs_bipush (pc := 17) (n := 40) (x := 40) C (by decide +kernel) (by decide +kernel) ?_
  refine zs_icmp_gt (pc := 19) (off := 34) (tgt := 53) C (by decide +kernel) (by decide) ?_ ?_
  · refine zs_iconst (pc := 53) (n := (-1)) (x := (-1)) C (by decide +kernel) (by decide +kernel) ?_
    exact zs_retWi (pc := 54) C hr ⟨Nat.le_of_ble_eq_true rfl, Nat.le_of_ble_eq_true rfl⟩ (by decide +kernel)
  · refine zs_iload_n (pc := 22) (k := 3) (i := 3) C (by decide +kernel) rfl rfl ?_
    refine zs_jn (pJ := 37) (kJ := 0) (sJ := 0) (fun t5 => [(0, sR 100), (1, sR 18), (2, sI x2), (3, sI t3)]) (fun t5 => []) (fun t5 => ?_) (fun J6 hJ6 => ?_)
    · refine zs_aload_n (pc := 37) (k := 0) (i := 0) C (by decide +kernel) rfl rfl ?_
      refine zs_iload_n (pc := 38) (k := 2) (i := 2) C (by decide +kernel) rfl rfl ?_
      refine zs_cvRi (pc := 39) (As := [sI x2]) (st := []) C rfl (c_X1_isDone l g x2) ml_RX1_39 rfl rfl rfl rfl (Nat.le_of_ble_eq_true rfl) ⟨Nat.le_of_ble_eq_true rfl, Nat.le_of_ble_eq_true rfl⟩ ⟨Nat.le_of_ble_eq_true rfl, Nat.le_of_ble_eq_true rfl⟩ (by decide +kernel) (fun x7 => ?_)
      refine zs_if_eq (pc := 42) (off := 5) (tgt := 47) C (by decide +kernel) (by decide) ?_ ?_
      · refine zs_iinc (pc := 47) (i := 3) (n := 1) (y := w32 (t3 + 1)) (ls' := [(3, sI (w32 (t3 + 1))), (0, sR 100), (1, sR 18), (2, sI x2)]) C (by decide +kernel) rfl rfl (Nat.le_of_ble_eq_true rfl) rfl ?_
        refine zs_goto (pc := 50) (off := (-34)) (tgt := 16) C (by decide +kernel) (by decide) ?_
        exact zs_goj (hK4 (w32 (t3 + 1))) ⟨rfl, rfl, rfl, rfl, trivial⟩
      · refine zs_iload_n (pc := 45) (k := 3) (i := 3) C (by decide +kernel) rfl rfl ?_
        exact zs_retWi (pc := 46) C hr ⟨Nat.le_of_ble_eq_true rfl, Nat.le_of_ble_eq_true rfl⟩ (by decide +kernel)
    · refine zs_if_le (pc := 23) (off := 14) (tgt := 37) C (by decide +kernel) (by decide) ?_ ?_
      · exact zs_goj (hJ6 ()) ⟨rfl, rfl, rfl, rfl, trivial⟩
      · refine zs_aload_n (pc := 26) (k := 0) (i := 0) C (by decide +kernel) rfl rfl ?_
        refine zs_aload_n (pc := 27) (k := 1) (i := 1) C (by decide +kernel) rfl rfl ?_
        refine zs_iload_n (pc := 28) (k := 3) (i := 3) C (by decide +kernel) rfl rfl ?_
        refine zs_cvWi (pc := 29) (As := [sR 18, sI t3]) (st := []) C (fun _ _ _ => rfl) rfl (c_X1_goOn l g t3) ml_RX1_35 rfl rfl rfl rfl (Nat.le_of_ble_eq_true rfl) ⟨Nat.le_of_ble_eq_true rfl, Nat.le_of_ble_eq_true rfl⟩ ⟨Nat.le_of_ble_eq_true rfl, Nat.le_of_ble_eq_true rfl⟩ (by decide +kernel) (fun x8 => ?_)
        refine zs_if_ne (pc := 32) (off := 5) (tgt := 37) C (by decide +kernel) (by decide) ?_ ?_
        · exact zs_goj (hJ6 ()) ⟨rfl, rfl, rfl, rfl, trivial⟩
        · refine zs_iconst (pc := 35) (n := (-1)) (x := (-1)) C (by decide +kernel) (by decide +kernel) ?_
          exact zs_retWi (pc := 36) C hr ⟨Nat.le_of_ble_eq_true rfl, Nat.le_of_ble_eq_true rfl⟩ (by decide +kernel)
set_option maxRecDepth 20000 in
theorem c_X11_errands (l : Launch) (g : GC) (hl : l.stackTraces = false) (a0 : Int) (a1 : Int) : ConT l g yX11_errands cX11_errands 3 (some .int) (rmd 10 5 30) [sR 0, sI a0, sI a1] (fun mm => fX11_errands a0 a1 mm) := by
  refine zs_ofT (by decide +kernel) (Nat.le_of_ble_eq_true rfl) ?_
  intro p e s m args below meth c C hr hE
  replace C : Bd g RX11 cX11_errands 3 p s m args meth c := C
  unfold fX11_errands
  refine zs_aload_n (pc := 0) (k := 0) (i := 0) C (by decide +kernel) rfl rfl ?_
  refine zs_iload_n (pc := 1) (k := 1) (i := 1) C (by decide +kernel) rfl rfl ?_
  refine zs_iload_n (pc := 2) (k := 2) (i := 2) C (by decide +kernel) rfl rfl ?_
  refine zs_cvTv (pc := 3) (As := [sI a0, sI a1]) (st := []) C hE (c_X11_needErrands l g hl a0 a1) ml_RX11_313 rfl rfl rfl rfl (Nat.le_of_ble_eq_true rfl) ⟨Nat.le_of_ble_eq_true rfl, Nat.le_of_ble_eq_true rfl⟩ ⟨Nat.le_of_ble_eq_true rfl, Nat.le_of_ble_eq_true rfl⟩ ⟨Nat.le_of_ble_eq_true rfl, Nat.le_of_ble_eq_true rfl⟩ (by decide +kernel) ?_
  refine zs_aload_n (pc := 6) (k := 0) (i := 0) C (by decide +kernel) rfl rfl ?_
  refine zs_getR (o' := 18) (pc := 7) (i := 33) (ci := 11) (k := 5) C (by decide +kernel) fl_RX11_33 rfl rfl rfl ?_
  refine zs_iload_n (pc := 10) (k := 1) (i := 1) C (by decide +kernel) rfl rfl ?_
  refine zs_cvVv (pc := 11) (As := [sI a0]) (st := []) C (fun _ _ _ => rfl) (c_X0_begin l g a0) ml_RX11_251 rfl rfl rfl rfl (Nat.le_of_ble_eq_true rfl) ⟨Nat.le_of_ble_eq_true rfl, Nat.le_of_ble_eq_true rfl⟩ ⟨Nat.le_of_ble_eq_true rfl, Nat.le_of_ble_eq_true rfl⟩ (by decide +kernel) ?_
  refine zs_aload_n (pc := 14) (k := 0) (i := 0) C (by decide +kernel) rfl rfl ?_
  refine zs_getR (o' := 100) (pc := 15) (i := 69) (ci := 11) (k := 11) C (by decide +kernel) fl_RX11_69 rfl rfl rfl ?_
  refine zs_aload_n (pc := 18) (k := 0) (i := 0) C (by decide +kernel) rfl rfl ?_
  refine zs_getR (o' := 18) (pc := 19) (i := 33) (ci := 11) (k := 5) C (by decide +kernel) fl_RX11_33 rfl rfl rfl ?_
  refine zs_cvWi (pc := 22) (As := [sR 18]) (st := []) C (fun _ _ _ => rfl) rfl (c_X1_hoursForAll l g ) ml_RX11_316 rfl rfl rfl rfl (Nat.le_of_ble_eq_true rfl) ⟨Nat.le_of_ble_eq_true rfl, Nat.le_of_ble_eq_true rfl⟩ ⟨Nat.le_of_ble_eq_true rfl, Nat.le_of_ble_eq_true rfl⟩ (by decide +kernel) (fun x1 => ?_)
  exact zs_retTi (pc := 25) C hr ⟨Nat.le_of_ble_eq_true rfl, Nat.le_of_ble_eq_true rfl⟩ (by decide +kernel)
set_option maxRecDepth 20000 in
theorem c_X1_bestDropped (l : Launch) (g : GC)  : ConW l g yX1_bestDropped cX1_bestDropped 5 (some .int) (rmd 6 0 0) [sR 100, sR 18] (fun mm => fX1_bestDropped  mm) := by
  refine zs_ofW (by decide +kernel) (Nat.le_of_ble_eq_true rfl) ?_
  intro p e s m args below meth c C hr
  replace C : Bd g RX1 cX1_bestDropped 5 p s m args meth c := C
  unfold fX1_bestDropped
  refine zs_iconst (pc := 0) (n := 1) (x := 1) C (by decide +kernel) (by decide +kernel) ?_
  refine zs_aload_n (pc := 1) (k := 0) (i := 0) C (by decide +kernel) rfl rfl ?_
  refine zs_getI (pc := 2) (i := 15) (ci := 1) (k := 1) C (by decide +kernel) fl_RX1_15 rfl rfl (fun x1 => ?_)
  refine zs_ishl (pc := 5) C (by decide +kernel) ?_
  refine zs_iconst (pc := 6) (n := 1) (x := 1) C (by decide +kernel) (by decide +kernel) ?_
  refine zs_isub (pc := 7) C (by decide +kernel) ?_
  refine zs_let (fun x2 => ?_)
  refine zs_istore_n (pc := 8) (k := 2) (i := 2) (ls' := [(2, sI x2), (0, sR 100), (1, sR 18)]) C (by decide +kernel) rfl (Nat.le_of_ble_eq_true rfl) rfl ?_
  refine zs_aload_n (pc := 9) (k := 0) (i := 0) C (by decide +kernel) rfl rfl ?_
  refine zs_aload_n (pc := 10) (k := 1) (i := 1) C (by decide +kernel) rfl rfl ?_
  refine zs_cvVv (pc := 11) (As := [sR 18]) (st := []) C (fun _ _ _ => rfl) (c_X1_start l g ) ml_RX1_31 rfl rfl rfl rfl (Nat.le_of_ble_eq_true rfl) ⟨Nat.le_of_ble_eq_true rfl, Nat.le_of_ble_eq_true rfl⟩ ⟨Nat.le_of_ble_eq_true rfl, Nat.le_of_ble_eq_true rfl⟩ (by decide +kernel) ?_
  refine zs_iconst (pc := 14) (n := 0) (x := 0) C (by decide +kernel) (by decide +kernel) ?_
  refine zs_istore_n (pc := 15) (k := 3) (i := 3) (ls' := [(3, sI 0), (2, sI x2), (0, sR 100), (1, sR 18)]) C (by decide +kernel) rfl (Nat.le_of_ble_eq_true rfl) rfl ?_
  refine zs_sub (ls' := [(0, sR 100), (1, sR 18), (2, sI x2), (3, sI 0)]) ⟨rfl, rfl, rfl, rfl, trivial⟩ ?_
  refine zs_lp (pc := 16) (fun (t3 : Int) => [(0, sR 100), (1, sR 18), (2, sI x2), (3, sI t3)]) (fun _ => []) (fun K4 hK4 t3 => ?_) BIG 0
  refine zs_iload_n (pc := 16) (k := 3) (i := 3) C (by decide +kernel) rfl rfl ?_
  refine zs_bipush (pc := 17) (n := 40) (x := 40) C (by decide +kernel) (by decide +kernel) ?_
  refine zs_icmp_gt (pc := 19) (off := 68) (tgt := 87) C (by decide +kernel) (by decide) ?_ ?_
  · refine zs_iconst (pc := 87) (n := (-1)) (x := (-1)) C (by decide +kernel) (by decide +kernel) ?_
    exact zs_retWi (pc := 88) C hr ⟨Nat.le_of_ble_eq_true rfl, Nat.le_of_ble_eq_true rfl⟩ (by decide +kernel)
  · refine zs_iload_n (pc := 22) (k := 3) (i := 3) C (by decide +kernel) rfl rfl ?_
    refine zs_jn (pJ := 37) (kJ := 0) (sJ := 0) (fun t5 => [(0, sR 100), (1, sR 18), (2, sI x2), (3, sI t3)]) (fun t5 => []) (fun t5 => ?_) (fun J6 hJ6 => ?_)
    · refine zs_iconst (pc := 37) (n := 0) (x := 0) C (by decide +kernel) (by decide +kernel) ?_
      refine zs_istore (pc := 38) (i := 4) (ls' := [(4, sI 0), (0, sR 100), (1, sR 18), (2, sI x2), (3, sI t3)]) C (by decide +kernel) (Nat.le_of_ble_eq_true rfl) rfl ?_
      refine zs_sub (ls' := [(0, sR 100), (1, sR 18), (2, sI x2), (3, sI t3), (4, sI 0)]) ⟨rfl, rfl, rfl, rfl, rfl, trivial⟩ ?_
      refine zs_lp (pc := 40) (fun (t7 : Int) => [(0, sR 100), (1, sR 18), (2, sI x2), (3, sI t3), (4, sI t7)]) (fun _ => []) (fun K8 hK8 t7 => ?_) BIG 0
      refine zs_iload (pc := 40) (i := 4) C (by decide +kernel) rfl ?_
      refine zs_aload_n (pc := 42) (k := 0) (i := 0) C (by decide +kernel) rfl rfl ?_
      refine zs_getI (pc := 43) (i := 15) (ci := 1) (k := 1) C (by decide +kernel) fl_RX1_15 rfl rfl (fun x9 => ?_)
      refine zs_icmp_ge (pc := 46) (off := 35) (tgt := 81) C (by decide +kernel) (by decide) ?_ ?_
      · refine zs_iinc (pc := 81) (i := 3) (n := 1) (y := w32 (t3 + 1)) (ls' := [(3, sI (w32 (t3 + 1))), (0, sR 100), (1, sR 18), (2, sI x2), (4, sI t7)]) C (by decide +kernel) rfl rfl (Nat.le_of_ble_eq_true rfl) rfl ?_
        refine zs_goto (pc := 84) (off := (-68)) (tgt := 16) C (by decide +kernel) (by decide) ?_
        exact zs_goj (hK4 (w32 (t3 + 1))) ⟨rfl, rfl, rfl, rfl, trivial⟩
      · refine zs_aload_n (pc := 49) (k := 0) (i := 0) C (by decide +kernel) rfl rfl ?_
        refine zs_iload_n (pc := 50) (k := 2) (i := 2) C (by decide +kernel) rfl rfl ?_
        refine zs_cvRi (pc := 51) (As := [sI x2]) (st := []) C rfl (c_X1_isDone l g x2) ml_RX1_39 rfl rfl rfl rfl (Nat.le_of_ble_eq_true rfl) ⟨Nat.le_of_ble_eq_true rfl, Nat.le_of_ble_eq_true rfl⟩ ⟨Nat.le_of_ble_eq_true rfl, Nat.le_of_ble_eq_true rfl⟩ (by decide +kernel) (fun x10 => ?_)
        refine zs_jn (pJ := 72) (kJ := 0) (sJ := 0) (fun t11 => [(4, sI t7)]) (fun t11 => []) (fun t11 => ?_) (fun J12 hJ12 => ?_)
        · refine zs_iload (pc := 72) (i := 4) C (by decide +kernel) rfl ?_
          exact zs_retWi (pc := 74) C hr ⟨Nat.le_of_ble_eq_true rfl, Nat.le_of_ble_eq_true rfl⟩ (by decide +kernel)
        · refine zs_if_ne (pc := 54) (off := 18) (tgt := 72) C (by decide +kernel) (by decide) ?_ ?_
          · exact zs_goj (hJ12 ()) ⟨rfl, trivial⟩
          · refine zs_aload_n (pc := 57) (k := 0) (i := 0) C (by decide +kernel) rfl rfl ?_
            refine zs_iload_n (pc := 58) (k := 2) (i := 2) C (by decide +kernel) rfl rfl ?_
            refine zs_iconst (pc := 59) (n := 1) (x := 1) C (by decide +kernel) (by decide +kernel) ?_
            refine zs_iload (pc := 60) (i := 4) C (by decide +kernel) rfl ?_
            refine zs_ishl (pc := 62) C (by decide +kernel) ?_
            refine zs_iconst (pc := 63) (n := (-1)) (x := (-1)) C (by decide +kernel) (by decide +kernel) ?_
            refine zs_ixor (pc := 64) C (by decide +kernel) ?_
            refine zs_iand (pc := 65) C (by decide +kernel) ?_
            refine zs_cvRi (pc := 66) (As := [sI (iand x2 (ixor (ishl 1 t7) ((-1))))]) (st := []) C rfl (c_X1_isDone l g (iand x2 (ixor (ishl 1 t7) ((-1))))) ml_RX1_39 rfl rfl rfl rfl (Nat.le_of_ble_eq_true rfl) ⟨Nat.le_of_ble_eq_true rfl, Nat.le_of_ble_eq_true rfl⟩ ⟨Nat.le_of_ble_eq_true rfl, Nat.le_of_ble_eq_true rfl⟩ (by decide +kernel) (fun x13 => ?_)
            refine zs_if_eq (pc := 69) (off := 6) (tgt := 75) C (by decide +kernel) (by decide) ?_ ?_
            · refine zs_iinc (pc := 75) (i := 4) (n := 1) (y := w32 (t7 + 1)) (ls' := [(4, sI (w32 (t7 + 1))), (0, sR 100), (1, sR 18), (2, sI x2), (3, sI t3)]) C (by decide +kernel) rfl rfl (Nat.le_of_ble_eq_true rfl) rfl ?_
              refine zs_goto (pc := 78) (off := (-38)) (tgt := 40) C (by decide +kernel) (by decide) ?_
              exact zs_goj (hK8 (w32 (t7 + 1))) ⟨rfl, rfl, rfl, rfl, rfl, trivial⟩
            · exact zs_goj (hJ12 ()) ⟨rfl, trivial⟩
    · refine zs_if_le (pc := 23) (off := 14) (tgt := 37) C (by decide +kernel) (by decide) ?_ ?_
      · exact zs_goj (hJ6 ()) ⟨rfl, rfl, rfl, rfl, trivial⟩
      · refine zs_aload_n (pc := 26) (k := 0) (i := 0) C (by decide +kernel) rfl rfl ?_
        refine zs_aload_n (pc := 27) (k := 1) (i := 1) C (by decide +kernel) rfl rfl ?_
        refine zs_iload_n (pc := 28) (k := 3) (i := 3) C (by decide +kernel) rfl rfl ?_
        refine zs_cvWi (pc := 29) (As := [sR 18, sI t3]) (st := []) C (fun _ _ _ => rfl) rfl (c_X1_goOn l g t3) ml_RX1_35 rfl rfl rfl rfl (Nat.le_of_ble_eq_true rfl) ⟨Nat.le_of_ble_eq_true rfl, Nat.le_of_ble_eq_true rfl⟩ ⟨Nat.le_of_ble_eq_true rfl, Nat.le_of_ble_eq_true rfl⟩ (by decide +kernel) (fun x14 => ?_)
        refine zs_if_ne (pc := 32) (off := 5) (tgt := 37) C (by decide +kernel) (by decide) ?_ ?_
        · exact zs_goj (hJ6 ()) ⟨rfl, rfl, rfl, rfl, trivial⟩
        · refine zs_iconst (pc := 35) (n := (-1)) (x := (-1)) C (by decide +kernel) (by decide +kernel) ?_
          exact zs_retWi (pc := 36) C hr ⟨Nat.le_of_ble_eq_true rfl, Nat.le_of_ble_eq_true rfl⟩ (by decide +kernel)
set_option maxRecDepth 20000 in
theorem c_X11_dropped (l : Launch) (g : GC) (hl : l.stackTraces = false) (a0 : Int) (a1 : Int) : ConT l g yX11_dropped cX11_dropped 3 (some .int) (rmd 10 5 30) [sR 0, sI a0, sI a1] (fun mm => fX11_dropped a0 a1 mm) := by
  refine zs_ofT (by decide +kernel) (Nat.le_of_ble_eq_true rfl) ?_
  intro p e s m args below meth c C hr hE
  replace C : Bd g RX11 cX11_dropped 3 p s m args meth c := C
  unfold fX11_dropped
  refine zs_aload_n (pc := 0) (k := 0) (i := 0) C (by decide +kernel) rfl rfl ?_
  refine zs_iload_n (pc := 1) (k := 1) (i := 1) C (by decide +kernel) rfl rfl ?_
  refine zs_iload_n (pc := 2) (k := 2) (i := 2) C (by decide +kernel) rfl rfl ?_
  refine zs_cvTv (pc := 3) (As := [sI a0, sI a1]) (st := []) C hE (c_X11_needErrands l g hl a0 a1) ml_RX11_313 rfl rfl rfl rfl (Nat.le_of_ble_eq_true rfl) ⟨Nat.le_of_ble_eq_true rfl, Nat.le_of_ble_eq_true rfl⟩ ⟨Nat.le_of_ble_eq_true rfl, Nat.le_of_ble_eq_true rfl⟩ ⟨Nat.le_of_ble_eq_true rfl, Nat.le_of_ble_eq_true rfl⟩ (by decide +kernel) ?_
  refine zs_aload_n (pc := 6) (k := 0) (i := 0) C (by decide +kernel) rfl rfl ?_
  refine zs_getR (o' := 18) (pc := 7) (i := 33) (ci := 11) (k := 5) C (by decide +kernel) fl_RX11_33 rfl rfl rfl ?_
  refine zs_iload_n (pc := 10) (k := 1) (i := 1) C (by decide +kernel) rfl rfl ?_
  refine zs_cvVv (pc := 11) (As := [sI a0]) (st := []) C (fun _ _ _ => rfl) (c_X0_begin l g a0) ml_RX11_251 rfl rfl rfl rfl (Nat.le_of_ble_eq_true rfl) ⟨Nat.le_of_ble_eq_true rfl, Nat.le_of_ble_eq_true rfl⟩ ⟨Nat.le_of_ble_eq_true rfl, Nat.le_of_ble_eq_true rfl⟩ (by decide +kernel) ?_
  refine zs_aload_n (pc := 14) (k := 0) (i := 0) C (by decide +kernel) rfl rfl ?_
  refine zs_getR (o' := 100) (pc := 15) (i := 69) (ci := 11) (k := 11) C (by decide +kernel) fl_RX11_69 rfl rfl rfl ?_
  refine zs_aload_n (pc := 18) (k := 0) (i := 0) C (by decide +kernel) rfl rfl ?_
  refine zs_getR (o' := 18) (pc := 19) (i := 33) (ci := 11) (k := 5) C (by decide +kernel) fl_RX11_33 rfl rfl rfl ?_
  refine zs_cvWi (pc := 22) (As := [sR 18]) (st := []) C (fun _ _ _ => rfl) rfl (c_X1_bestDropped l g ) ml_RX11_320 rfl rfl rfl rfl (Nat.le_of_ble_eq_true rfl) ⟨Nat.le_of_ble_eq_true rfl, Nat.le_of_ble_eq_true rfl⟩ ⟨Nat.le_of_ble_eq_true rfl, Nat.le_of_ble_eq_true rfl⟩ (by decide +kernel) (fun x1 => ?_)
  exact zs_retTi (pc := 25) C hr ⟨Nat.le_of_ble_eq_true rfl, Nat.le_of_ble_eq_true rfl⟩ (by decide +kernel)
set_option maxRecDepth 20000 in
theorem c_X2_measure (l : Launch) (g : GC)  : ConV l g yX2_measure cX2_measure 3 (rmd 4 0 0) [sR 105, sR 19] (fun mm => fX2_measure  mm) := by
  refine zs_ofV (by decide +kernel) (Nat.le_of_ble_eq_true rfl) ?_
  intro p e s m args below meth c C hr
  replace C : Bd g RX2 cX2_measure 3 p s m args meth c := C
  unfold fX2_measure
  refine zs_iconst (pc := 0) (n := 0) (x := 0) C (by decide +kernel) (by decide +kernel) ?_
  refine zs_istore_n (pc := 1) (k := 2) (i := 2) (ls' := [(2, sI 0), (0, sR 105), (1, sR 19)]) C (by decide +kernel) rfl (Nat.le_of_ble_eq_true rfl) rfl ?_
  refine zs_sub (ls' := [(0, sR 105), (1, sR 19), (2, sI 0)]) ⟨rfl, rfl, rfl, trivial⟩ ?_
  refine zs_lp (pc := 2) (fun (t1 : Int) => [(0, sR 105), (1, sR 19), (2, sI t1)]) (fun _ => []) (fun K2 hK2 t1 => ?_) BIG 0
  refine zs_iload_n (pc := 2) (k := 2) (i := 2) C (by decide +kernel) rfl rfl ?_
  refine zs_aload_n (pc := 3) (k := 1) (i := 1) C (by decide +kernel) rfl rfl ?_
  refine zs_getR (o' := 20) (pc := 4) (i := 24) (ci := 10) (k := 0) C (by decide +kernel) fl_RX2_24 rfl rfl rfl ?_
  refine zs_getI (pc := 7) (i := 30) (ci := 3) (k := 5) C (by decide +kernel) fl_RX2_30 rfl rfl (fun x3 => ?_)
  refine zs_icmp_ge (pc := 10) (off := 43) (tgt := 53) C (by decide +kernel) (by decide) ?_ ?_
  · exact zs_retVv (pc := 53) C hr ⟨Nat.le_of_ble_eq_true rfl, Nat.le_of_ble_eq_true rfl⟩ (by decide +kernel)
  · refine zs_aload_n (pc := 13) (k := 0) (i := 0) C (by decide +kernel) rfl rfl ?_
    refine zs_getR (o' := 108) (pc := 14) (i := 18) (ci := 2) (k := 2) C (by decide +kernel) fl_RX2_18 rfl rfl rfl ?_
    refine zs_iload_n (pc := 17) (k := 2) (i := 2) C (by decide +kernel) rfl rfl ?_
    refine zs_aload_n (pc := 18) (k := 1) (i := 1) C (by decide +kernel) rfl rfl ?_
    refine zs_getR (o' := 27) (pc := 19) (i := 36) (ci := 10) (k := 1) C (by decide +kernel) fl_RX2_36 rfl rfl rfl ?_
    refine zs_iload_n (pc := 22) (k := 2) (i := 2) C (by decide +kernel) rfl rfl ?_
    refine zs_cvRi (pc := 23) (As := [sI t1]) (st := [sI t1, sR 108]) C rfl (c_X5_isParted l g t1) ml_RX2_40 rfl rfl rfl rfl (Nat.le_of_ble_eq_true rfl) ⟨Nat.le_of_ble_eq_true rfl, Nat.le_of_ble_eq_true rfl⟩ ⟨Nat.le_of_ble_eq_true rfl, Nat.le_of_ble_eq_true rfl⟩ (by decide +kernel) (fun x4 => ?_)
    refine zs_jn (pJ := 46) (kJ := 0) (sJ := 0) (fun t5 => [(0, sR 105), (1, sR 19), (2, sI t1)]) (fun t5 => [sI t5, sI t1, sR 108]) (fun t5 => ?_) (fun J6 hJ6 => ?_)
    · refine zs_iast (pc := 46) (o := 108) (n := 4) C (fun _ _ _ => rfl) (by decide +kernel) rfl ?_
      refine zs_iinc (pc := 47) (i := 2) (n := 1) (y := w32 (t1 + 1)) (ls' := [(2, sI (w32 (t1 + 1))), (0, sR 105), (1, sR 19)]) C (by decide +kernel) rfl rfl (Nat.le_of_ble_eq_true rfl) rfl ?_
      refine zs_goto (pc := 50) (off := (-48)) (tgt := 2) C (by decide +kernel) (by decide) ?_
      exact zs_goj (hK2 (w32 (t1 + 1))) ⟨rfl, rfl, rfl, trivial⟩
    · refine zs_if_eq (pc := 26) (off := 8) (tgt := 34) C (by decide +kernel) (by decide) ?_ ?_
      · refine zs_aload_n (pc := 34) (k := 1) (i := 1) C (by decide +kernel) rfl rfl ?_
        refine zs_iload_n (pc := 35) (k := 2) (i := 2) C (by decide +kernel) rfl rfl ?_
        refine zs_aload_n (pc := 36) (k := 1) (i := 1) C (by decide +kernel) rfl rfl ?_
        refine zs_getR (o' := 27) (pc := 37) (i := 36) (ci := 10) (k := 1) C (by decide +kernel) fl_RX2_36 rfl rfl rfl ?_
        refine zs_getI (pc := 40) (i := 46) (ci := 5) (k := 0) C (by decide +kernel) fl_RX2_46 rfl rfl (fun x7 => ?_)
        refine zs_cvWi (pc := 43) (As := [sI t1, sI x7]) (st := [sI t1, sR 108]) C (fun _ _ _ => rfl) rfl (c_X10_ropeIn l g t1 x7) ml_RX2_49 rfl rfl rfl rfl (Nat.le_of_ble_eq_true rfl) ⟨Nat.le_of_ble_eq_true rfl, Nat.le_of_ble_eq_true rfl⟩ ⟨Nat.le_of_ble_eq_true rfl, Nat.le_of_ble_eq_true rfl⟩ (by decide +kernel) (fun x8 => ?_)
        exact zs_goj (hJ6 x8) ⟨rfl, rfl, rfl, trivial⟩
      · refine zs_bipush (pc := 29) (n := 8) (x := 8) C (by decide +kernel) (by decide +kernel) ?_
        refine zs_goto (pc := 31) (off := 15) (tgt := 46) C (by decide +kernel) (by decide) ?_
        exact zs_goj (hJ6 8) ⟨rfl, rfl, rfl, trivial⟩
set_option maxRecDepth 20000 in
theorem c_J6_bitCount_0f7a4 (l : Launch) (g : GC) (a0 : Int) : ConR l g yJ6_bitCount_0f7a4 cJ6_bitCount_0f7a4 1 (some .int) (rmd 1 0 0) [sI a0] (fun mm => fJ6_bitCount_0f7a4 a0 mm) := by
  refine zs_ofR (by decide +kernel) (Nat.le_of_ble_eq_true rfl) ?_
  intro p e s m args below meth c C hr
  replace C : Bd g RJ6 cJ6_bitCount_0f7a4 1 p s m args meth c := C
  unfold fJ6_bitCount_0f7a4
  refine zs_iload_n (pc := 0) (k := 0) (i := 0) C (by decide +kernel) rfl rfl ?_
  refine zs_iload_n (pc := 1) (k := 0) (i := 0) C (by decide +kernel) rfl rfl ?_
  refine zs_iconst (pc := 2) (n := 1) (x := 1) C (by decide +kernel) (by decide +kernel) ?_
  refine zs_iushr (pc := 3) C (by decide +kernel) ?_
  refine zs_ldcw (pc := 4) (i := 265) (v := 1431655765) (x := 1431655765) C (by decide +kernel) wf_754 (by decide +kernel) ?_
  refine zs_iand (pc := 7) C (by decide +kernel) ?_
  refine zs_isub (pc := 8) C (by decide +kernel) ?_
  refine zs_let (fun x1 => ?_)
  refine zs_istore_n (pc := 9) (k := 0) (i := 0) (ls' := [(0, sI x1)]) C (by decide +kernel) rfl (Nat.le_of_ble_eq_true rfl) rfl ?_
  refine zs_iload_n (pc := 10) (k := 0) (i := 0) C (by decide +kernel) rfl rfl ?_
  refine zs_ldcw (pc := 11) (i := 266) (v := 858993459) (x := 858993459) C (by decide +kernel) wf_755 (by decide +kernel) ?_
  refine zs_iand (pc := 14) C (by decide +kernel) ?_
  refine zs_iload_n (pc := 15) (k := 0) (i := 0) C (by decide +kernel) rfl rfl ?_
  refine zs_iconst (pc := 16) (n := 2) (x := 2) C (by decide +kernel) (by decide +kernel) ?_
  refine zs_iushr (pc := 17) C (by decide +kernel) ?_
  refine zs_ldcw (pc := 18) (i := 266) (v := 858993459) (x := 858993459) C (by decide +kernel) wf_755 (by decide +kernel) ?_
  refine zs_iand (pc := 21) C (by decide +kernel) ?_
  refine zs_iadd (pc := 22) C (by decide +kernel) ?_
  refine zs_let (fun x2 => ?_)
  refine zs_istore_n (pc := 23) (k := 0) (i := 0) (ls' := [(0, sI x2)]) C (by decide +kernel) rfl (Nat.le_of_ble_eq_true rfl) rfl ?_
  refine zs_iload_n (pc := 24) (k := 0) (i := 0) C (by decide +kernel) rfl rfl ?_
  refine zs_iload_n (pc := 25) (k := 0) (i := 0) C (by decide +kernel) rfl rfl ?_
  refine zs_iconst (pc := 26) (n := 4) (x := 4) C (by decide +kernel) (by decide +kernel) ?_
  refine zs_iushr (pc := 27) C (by decide +kernel) ?_
  refine zs_iadd (pc := 28) C (by decide +kernel) ?_
  refine zs_ldcw (pc := 29) (i := 267) (v := 252645135) (x := 252645135) C (by decide +kernel) wf_756 (by decide +kernel) ?_
  refine zs_iand (pc := 32) C (by decide +kernel) ?_
  refine zs_let (fun x3 => ?_)
  refine zs_istore_n (pc := 33) (k := 0) (i := 0) (ls' := [(0, sI x3)]) C (by decide +kernel) rfl (Nat.le_of_ble_eq_true rfl) rfl ?_
  refine zs_iload_n (pc := 34) (k := 0) (i := 0) C (by decide +kernel) rfl rfl ?_
  refine zs_iload_n (pc := 35) (k := 0) (i := 0) C (by decide +kernel) rfl rfl ?_
  refine zs_bipush (pc := 36) (n := 8) (x := 8) C (by decide +kernel) (by decide +kernel) ?_
  refine zs_iushr (pc := 38) C (by decide +kernel) ?_
  refine zs_iadd (pc := 39) C (by decide +kernel) ?_
  refine zs_let (fun x4 => ?_)
  refine zs_istore_n (pc := 40) (k := 0) (i := 0) (ls' := [(0, sI x4)]) C (by decide +kernel) rfl (Nat.le_of_ble_eq_true rfl) rfl ?_
  refine zs_iload_n (pc := 41) (k := 0) (i := 0) C (by decide +kernel) rfl rfl ?_
  refine zs_iload_n (pc := 42) (k := 0) (i := 0) C (by decide +kernel) rfl rfl ?_
  refine zs_bipush (pc := 43) (n := 16) (x := 16) C (by decide +kernel) (by decide +kernel) ?_
  refine zs_iushr (pc := 45) C (by decide +kernel) ?_
  refine zs_iadd (pc := 46) C (by decide +kernel) ?_
  refine zs_let (fun x5 => ?_)
  refine zs_istore_n (pc := 47) (k := 0) (i := 0) (ls' := [(0, sI x5)]) C (by decide +kernel) rfl (Nat.le_of_ble_eq_true rfl) rfl ?_
  refine zs_iload_n (pc := 48) (k := 0) (i := 0) C (by decide +kernel) rfl rfl ?_
  refine zs_bipush (pc := 49) (n := 63) (x := 63) C (by decide +kernel) (by decide +kernel) ?_
  refine zs_iand (pc := 51) C (by decide +kernel) ?_
  exact zs_retRi (pc := 52) C hr ⟨Nat.le_of_ble_eq_true rfl, Nat.le_of_ble_eq_true rfl⟩ (by decide +kernel)
set_option maxRecDepth 20000 in
theorem c_X2_canHave (l : Launch) (g : GC) (a1 : Int) (a2 : Int) (a3 : Int) (a4 : Int) : ConR l g yX2_canHave cX2_canHave 7 (some .boolean) (rmd 2 0 0) [sR 105, sR 20, sI a1, sI a2, sI a3, sI a4] (fun mm => fX2_canHave a1 a2 a3 a4 mm) := by
  refine zs_ofR (by decide +kernel) (Nat.le_of_ble_eq_true rfl) ?_
  intro p e s m args below meth c C hr
  replace C : Bd g RX2 cX2_canHave 7 p s m args meth c := C
  unfold fX2_canHave
  refine zs_iload (pc := 0) (i := 4) C (by decide +kernel) rfl ?_
  refine zs_iload (pc := 2) (i := 5) C (by decide +kernel) rfl ?_
  refine zs_jn (pJ := 30) (kJ := 0) (sJ := 0) (fun t1 => [(0, sR 105), (1, sR 20), (2, sI a1), (4, sI a3), (5, sI a4)]) (fun t1 => [sI t1]) (fun t1 => ?_) (fun J2 hJ2 => ?_)
  · refine zs_istore (pc := 30) (i := 6) (ls' := [(6, sI t1), (0, sR 105), (1, sR 20), (2, sI a1), (4, sI a3), (5, sI a4)]) C (by decide +kernel) (Nat.le_of_ble_eq_true rfl) rfl ?_
    refine zs_iload (pc := 32) (i := 6) C (by decide +kernel) rfl ?_
    refine zs_jn (pJ := 69) (kJ := 0) (sJ := 0) (fun t3 => []) (fun t3 => [sI t3]) (fun t3 => ?_) (fun J4 hJ4 => ?_)
    · refine zs_chk (fun _ hx => ?_)
      exact zs_retRz (pc := 69) C hx hr ⟨Nat.le_of_ble_eq_true rfl, Nat.le_of_ble_eq_true rfl⟩ (by decide +kernel)
    · refine zs_jn (pJ := 68) (kJ := 0) (sJ := 0) (fun t5 => []) (fun t5 => []) (fun t5 => ?_) (fun J6 hJ6 => ?_)
      · refine zs_iconst (pc := 68) (n := 0) (x := 0) C (by decide +kernel) (by decide +kernel) ?_
        exact zs_goj (hJ4 0) trivial
      · refine zs_if_eq (pc := 34) (off := 34) (tgt := 68) C (by decide +kernel) (by decide) ?_ ?_
        · exact zs_goj (hJ6 ()) trivial
        · refine zs_aload_n (pc := 37) (k := 1) (i := 1) C (by decide +kernel) rfl rfl ?_
          refine zs_aload_n (pc := 38) (k := 1) (i := 1) C (by decide +kernel) rfl rfl ?_
          refine zs_getR (o' := 21) (pc := 39) (i := 53) (ci := 3) (k := 6) C (by decide +kernel) fl_RX2_53 rfl rfl rfl ?_
          refine zs_iload (pc := 42) (i := 4) C (by decide +kernel) rfl ?_
          refine zs_iald (pc := 44) (o := 21) (n := 8) C (by decide +kernel) rfl (fun hinx7 x7 => ?_)
          refine zs_aload_n (pc := 45) (k := 1) (i := 1) C (by decide +kernel) rfl rfl ?_
          refine zs_getR (o' := 21) (pc := 46) (i := 53) (ci := 3) (k := 6) C (by decide +kernel) fl_RX2_53 rfl rfl rfl ?_
          refine zs_iload (pc := 49) (i := 5) C (by decide +kernel) rfl ?_
          refine zs_iald (pc := 51) (o := 21) (n := 8) C (by decide +kernel) rfl (fun hinx8 x8 => ?_)
          refine zs_cvRi (pc := 52) (As := [sI x7, sI x8]) (st := []) C rfl (c_X3_apart l g x7 x8) ml_RX2_56 rfl rfl rfl rfl (Nat.le_of_ble_eq_true rfl) ⟨Nat.le_of_ble_eq_true rfl, Nat.le_of_ble_eq_true rfl⟩ ⟨Nat.le_of_ble_eq_true rfl, Nat.le_of_ble_eq_true rfl⟩ (by decide +kernel) (fun x9 => ?_)
          refine zs_aload_n (pc := 55) (k := 0) (i := 0) C (by decide +kernel) rfl rfl ?_
          refine zs_getR (o' := 108) (pc := 56) (i := 18) (ci := 2) (k := 2) C (by decide +kernel) fl_RX2_18 rfl rfl rfl ?_
          refine zs_iload_n (pc := 59) (k := 2) (i := 2) C (by decide +kernel) rfl rfl ?_
          refine zs_iald (pc := 60) (o := 108) (n := 4) C (by decide +kernel) rfl (fun hinx10 x10 => ?_)
          refine zs_icmp_gt (pc := 61) (off := 7) (tgt := 68) C (by decide +kernel) (by decide) ?_ ?_
          · exact zs_goj (hJ6 ()) trivial
          · refine zs_iconst (pc := 64) (n := 1) (x := 1) C (by decide +kernel) (by decide +kernel) ?_
            refine zs_goto (pc := 65) (off := 4) (tgt := 69) C (by decide +kernel) (by decide) ?_
            exact zs_goj (hJ4 1) trivial
  · refine zs_jn (pJ := 29) (kJ := 0) (sJ := 0) (fun t11 => [(0, sR 105), (1, sR 20), (2, sI a1), (4, sI a3), (5, sI a4)]) (fun t11 => []) (fun t11 => ?_) (fun J12 hJ12 => ?_)
    · refine zs_iconst (pc := 29) (n := 0) (x := 0) C (by decide +kernel) (by decide +kernel) ?_
      exact zs_goj (hJ2 0) ⟨rfl, rfl, rfl, rfl, rfl, trivial⟩
    · refine zs_icmp_eq (pc := 4) (off := 25) (tgt := 29) C (by decide +kernel) (by decide) ?_ ?_
      · exact zs_goj (hJ12 ()) ⟨rfl, rfl, rfl, rfl, rfl, trivial⟩
      · refine zs_iload_n (pc := 7) (k := 3) (i := 3) C (by decide +kernel) rfl rfl ?_
        refine zs_iload (pc := 8) (i := 4) C (by decide +kernel) rfl ?_
        refine zs_iushr (pc := 10) C (by decide +kernel) ?_
        refine zs_iconst (pc := 11) (n := 1) (x := 1) C (by decide +kernel) (by decide +kernel) ?_
        refine zs_iand (pc := 12) C (by decide +kernel) ?_
        refine zs_if_ne (pc := 13) (off := 16) (tgt := 29) C (by decide +kernel) (by decide) ?_ ?_
        · exact zs_goj (hJ12 ()) ⟨rfl, rfl, rfl, rfl, rfl, trivial⟩
        · refine zs_iload_n (pc := 16) (k := 3) (i := 3) C (by decide +kernel) rfl rfl ?_
          refine zs_iload (pc := 17) (i := 5) C (by decide +kernel) rfl ?_
          refine zs_iushr (pc := 19) C (by decide +kernel) ?_
          refine zs_iconst (pc := 20) (n := 1) (x := 1) C (by decide +kernel) (by decide +kernel) ?_
          refine zs_iand (pc := 21) C (by decide +kernel) ?_
          refine zs_if_ne (pc := 22) (off := 7) (tgt := 29) C (by decide +kernel) (by decide) ?_ ?_
          · exact zs_goj (hJ12 ()) ⟨rfl, rfl, rfl, rfl, rfl, trivial⟩
          · refine zs_iconst (pc := 25) (n := 1) (x := 1) C (by decide +kernel) (by decide +kernel) ?_
            refine zs_goto (pc := 26) (off := 4) (tgt := 30) C (by decide +kernel) (by decide) ?_
            exact zs_goj (hJ2 1) ⟨rfl, rfl, rfl, rfl, rfl, trivial⟩
set_option maxRecDepth 20000 in
theorem c_X2_pushFrom (l : Launch) (g : GC) (a1 : Int) (a2 : Int) (a3 : Int) : ConV l g yX2_pushFrom cX2_pushFrom 8 (rmd 3 0 0) [sR 105, sR 19, sI a1, sI a2, sI a3] (fun mm => fX2_pushFrom a1 a2 a3 mm) := by
  refine zs_ofV (by decide +kernel) (Nat.le_of_ble_eq_true rfl) ?_
  intro p e s m args below meth c C hr
  replace C : Bd g RX2 cX2_pushFrom 8 p s m args meth c := C
  unfold fX2_pushFrom
  refine zs_aload_n (pc := 0) (k := 1) (i := 1) C (by decide +kernel) rfl rfl ?_
  refine zs_getR (o' := 20) (pc := 1) (i := 24) (ci := 10) (k := 0) C (by decide +kernel) fl_RX2_24 rfl rfl rfl ?_
  refine zs_getI (pc := 4) (i := 59) (ci := 3) (k := 4) C (by decide +kernel) fl_RX2_59 rfl rfl (fun x1 => ?_)
  refine zs_istore (pc := 7) (i := 5) (ls' := [(5, sI x1), (0, sR 105), (1, sR 19), (2, sI a1), (3, sI a2), (4, sI a3)]) C (by decide +kernel) (Nat.le_of_ble_eq_true rfl) rfl ?_
  refine zs_iconst (pc := 9) (n := 0) (x := 0) C (by decide +kernel) (by decide +kernel) ?_
  refine zs_istore (pc := 10) (i := 6) (ls' := [(6, sI 0), (5, sI x1), (0, sR 105), (1, sR 19), (2, sI a1), (3, sI a2), (4, sI a3)]) C (by decide +kernel) (Nat.le_of_ble_eq_true rfl) rfl ?_
  refine zs_sub (ls' := [(0, sR 105), (1, sR 19), (2, sI a1), (3, sI a2), (4, sI a3), (5, sI x1), (6, sI 0)]) ⟨rfl, rfl, rfl, rfl, rfl, rfl, rfl, trivial⟩ ?_
  refine zs_lp (pc := 12) (fun (t2 : Int) => [(0, sR 105), (1, sR 19), (2, sI a1), (3, sI a2), (4, sI a3), (5, sI x1), (6, sI t2)]) (fun _ => []) (fun K3 hK3 t2 => ?_) BIG 0
  refine zs_iload (pc := 12) (i := 6) C (by decide +kernel) rfl ?_
  refine zs_iload (pc := 14) (i := 5) C (by decide +kernel) rfl ?_
  refine zs_icmp_ge (pc := 16) (off := 70) (tgt := 86) C (by decide +kernel) (by decide) ?_ ?_
  · exact zs_retVv (pc := 86) C hr ⟨Nat.le_of_ble_eq_true rfl, Nat.le_of_ble_eq_true rfl⟩ (by decide +kernel)
  · refine zs_iconst (pc := 19) (n := 0) (x := 0) C (by decide +kernel) (by decide +kernel) ?_
    refine zs_istore (pc := 20) (i := 7) (ls' := [(7, sI 0), (0, sR 105), (1, sR 19), (2, sI a1), (3, sI a2), (4, sI a3), (5, sI x1), (6, sI t2)]) C (by decide +kernel) (Nat.le_of_ble_eq_true rfl) rfl ?_
    refine zs_sub (ls' := [(0, sR 105), (1, sR 19), (2, sI a1), (3, sI a2), (4, sI a3), (5, sI x1), (6, sI t2), (7, sI 0)]) ⟨rfl, rfl, rfl, rfl, rfl, rfl, rfl, rfl, trivial⟩ ?_
    refine zs_lp (pc := 22) (fun (t4 : Int) => [(0, sR 105), (1, sR 19), (2, sI a1), (3, sI a2), (4, sI a3), (5, sI x1), (6, sI t2), (7, sI t4)]) (fun _ => []) (fun K5 hK5 t4 => ?_) BIG 0
    refine zs_iload (pc := 22) (i := 7) C (by decide +kernel) rfl ?_
    refine zs_iload (pc := 24) (i := 5) C (by decide +kernel) rfl ?_
    refine zs_icmp_ge (pc := 26) (off := 54) (tgt := 80) C (by decide +kernel) (by decide) ?_ ?_
    · refine zs_iinc (pc := 80) (i := 6) (n := 1) (y := w32 (t2 + 1)) (ls' := [(6, sI (w32 (t2 + 1))), (0, sR 105), (1, sR 19), (2, sI a1), (3, sI a2), (4, sI a3), (5, sI x1), (7, sI t4)]) C (by decide +kernel) rfl rfl (Nat.le_of_ble_eq_true rfl) rfl ?_
      refine zs_goto (pc := 83) (off := (-71)) (tgt := 12) C (by decide +kernel) (by decide) ?_
      exact zs_goj (hK3 (w32 (t2 + 1))) ⟨rfl, rfl, rfl, rfl, rfl, rfl, rfl, trivial⟩
    · refine zs_aload_n (pc := 29) (k := 0) (i := 0) C (by decide +kernel) rfl rfl ?_
      refine zs_aload_n (pc := 30) (k := 1) (i := 1) C (by decide +kernel) rfl rfl ?_
      refine zs_getR (o' := 20) (pc := 31) (i := 24) (ci := 10) (k := 0) C (by decide +kernel) fl_RX2_24 rfl rfl rfl ?_
      refine zs_iload_n (pc := 34) (k := 3) (i := 3) C (by decide +kernel) rfl rfl ?_
      refine zs_iload_n (pc := 35) (k := 2) (i := 2) C (by decide +kernel) rfl rfl ?_
      refine zs_iload (pc := 36) (i := 4) C (by decide +kernel) rfl ?_
      refine zs_ior (pc := 38) C (by decide +kernel) ?_
      refine zs_iload (pc := 39) (i := 6) C (by decide +kernel) rfl ?_
      refine zs_iload (pc := 41) (i := 7) C (by decide +kernel) rfl ?_
      refine zs_cvRi (pc := 43) (As := [sR 20, sI a2, sI (ior a1 a3), sI t2, sI t4]) (st := []) C rfl (c_X2_canHave l g a2 (ior a1 a3) t2 t4) ml_RX2_82 rfl rfl rfl rfl (Nat.le_of_ble_eq_true rfl) ⟨Nat.le_of_ble_eq_true rfl, Nat.le_of_ble_eq_true rfl⟩ ⟨Nat.le_of_ble_eq_true rfl, Nat.le_of_ble_eq_true rfl⟩ (by decide +kernel) (fun x6 => ?_)
      refine zs_jn (pJ := 74) (kJ := 0) (sJ := 0) (fun t7 => [(0, sR 105), (1, sR 19), (2, sI a1), (3, sI a2), (4, sI a3), (5, sI x1), (6, sI t2), (7, sI t4)]) (fun t7 => []) (fun t7 => ?_) (fun J8 hJ8 => ?_)
      · refine zs_iinc (pc := 74) (i := 7) (n := 1) (y := w32 (t4 + 1)) (ls' := [(7, sI (w32 (t4 + 1))), (0, sR 105), (1, sR 19), (2, sI a1), (3, sI a2), (4, sI a3), (5, sI x1), (6, sI t2)]) C (by decide +kernel) rfl rfl (Nat.le_of_ble_eq_true rfl) rfl ?_
        refine zs_goto (pc := 77) (off := (-55)) (tgt := 22) C (by decide +kernel) (by decide) ?_
        exact zs_goj (hK5 (w32 (t4 + 1))) ⟨rfl, rfl, rfl, rfl, rfl, rfl, rfl, rfl, trivial⟩
      · refine zs_if_eq (pc := 46) (off := 28) (tgt := 74) C (by decide +kernel) (by decide) ?_ ?_
        · exact zs_goj (hJ8 ()) ⟨rfl, rfl, rfl, rfl, rfl, rfl, rfl, rfl, trivial⟩
        · refine zs_aload_n (pc := 49) (k := 0) (i := 0) C (by decide +kernel) rfl rfl ?_
          refine zs_getR (o' := 106) (pc := 50) (i := 9) (ci := 2) (k := 0) C (by decide +kernel) fl_RX2_9 rfl rfl rfl ?_
          refine zs_iload_n (pc := 53) (k := 2) (i := 2) C (by decide +kernel) rfl rfl ?_
          refine zs_iconst (pc := 54) (n := 1) (x := 1) C (by decide +kernel) (by decide +kernel) ?_
          refine zs_iload (pc := 55) (i := 6) C (by decide +kernel) rfl ?_
          refine zs_ishl (pc := 57) C (by decide +kernel) ?_
          refine zs_ior (pc := 58) C (by decide +kernel) ?_
          refine zs_iconst (pc := 59) (n := 1) (x := 1) C (by decide +kernel) (by decide +kernel) ?_
          refine zs_iload (pc := 60) (i := 7) C (by decide +kernel) rfl ?_
          refine zs_ishl (pc := 62) C (by decide +kernel) ?_
          refine zs_ior (pc := 63) C (by decide +kernel) ?_
          refine zs_dup2 (pc := 64) C rfl rfl (by decide +kernel) ?_
          refine zs_iald (pc := 65) (o := 106) (n := 256) C (by decide +kernel) rfl (fun hinx9 x9 => ?_)
          refine zs_aload_n (pc := 66) (k := 0) (i := 0) C (by decide +kernel) rfl rfl ?_
          refine zs_getR (o' := 106) (pc := 67) (i := 9) (ci := 2) (k := 0) C (by decide +kernel) fl_RX2_9 rfl rfl rfl ?_
          refine zs_iload_n (pc := 70) (k := 2) (i := 2) C (by decide +kernel) rfl rfl ?_
          refine zs_iald (pc := 71) (o := 106) (n := 256) C (by decide +kernel) rfl (fun hinx10 x10 => ?_)
          refine zs_iadd (pc := 72) C (by decide +kernel) ?_
          refine zs_iast (pc := 73) (o := 106) (n := 256) C (fun _ _ _ => rfl) (by decide +kernel) rfl ?_
          exact zs_goj (hJ8 ()) ⟨rfl, rfl, rfl, rfl, rfl, rfl, rfl, rfl, trivial⟩
set_option maxRecDepth 20000 in
theorem c_X2_waysWithout (l : Launch) (g : GC) (a1 : Int) : ConW l g yX2_waysWithout cX2_waysWithout 8 (some .int) (rmd 5 0 0) [sR 105, sR 19, sI a1] (fun mm => fX2_waysWithout a1 mm) := by
  refine zs_ofW (by decide +kernel) (Nat.le_of_ble_eq_true rfl) ?_
  intro p e s m args below meth c C hr
  replace C : Bd g RX2 cX2_waysWithout 8 p s m args meth c := C
  unfold fX2_waysWithout
  refine zs_aload_n (pc := 0) (k := 1) (i := 1) C (by decide +kernel) rfl rfl ?_
  refine zs_getR (o' := 20) (pc := 1) (i := 24) (ci := 10) (k := 0) C (by decide +kernel) fl_RX2_24 rfl rfl rfl ?_
  refine zs_getI (pc := 4) (i := 30) (ci := 3) (k := 5) C (by decide +kernel) fl_RX2_30 rfl rfl (fun x1 => ?_)
  refine zs_istore_n (pc := 7) (k := 3) (i := 3) (ls' := [(3, sI x1), (0, sR 105), (1, sR 19), (2, sI a1)]) C (by decide +kernel) rfl (Nat.le_of_ble_eq_true rfl) rfl ?_
  refine zs_iconst (pc := 8) (n := 1) (x := 1) C (by decide +kernel) (by decide +kernel) ?_
  refine zs_aload_n (pc := 9) (k := 1) (i := 1) C (by decide +kernel) rfl rfl ?_
  refine zs_getR (o' := 20) (pc := 10) (i := 24) (ci := 10) (k := 0) C (by decide +kernel) fl_RX2_24 rfl rfl rfl ?_
  refine zs_getI (pc := 13) (i := 59) (ci := 3) (k := 4) C (by decide +kernel) fl_RX2_59 rfl rfl (fun x2 => ?_)
  refine zs_ishl (pc := 16) C (by decide +kernel) ?_
  refine zs_let (fun x3 => ?_)
  refine zs_istore (pc := 17) (i := 4) (ls' := [(4, sI x3), (3, sI x1), (0, sR 105), (1, sR 19), (2, sI a1)]) C (by decide +kernel) (Nat.le_of_ble_eq_true rfl) rfl ?_
  refine zs_iconst (pc := 19) (n := 0) (x := 0) C (by decide +kernel) (by decide +kernel) ?_
  refine zs_istore (pc := 20) (i := 5) (ls' := [(5, sI 0), (4, sI x3), (3, sI x1), (0, sR 105), (1, sR 19), (2, sI a1)]) C (by decide +kernel) (Nat.le_of_ble_eq_true rfl) rfl ?_
  refine zs_aload_n (pc := 22) (k := 0) (i := 0) C (by decide +kernel) rfl rfl ?_
  refine zs_aload_n (pc := 23) (k := 1) (i := 1) C (by decide +kernel) rfl rfl ?_
  refine zs_cvVv (pc := 24) (As := [sR 19]) (st := []) C (fun _ _ _ => rfl) (c_X2_measure l g ) ml_RX2_62 rfl rfl rfl rfl (Nat.le_of_ble_eq_true rfl) ⟨Nat.le_of_ble_eq_true rfl, Nat.le_of_ble_eq_true rfl⟩ ⟨Nat.le_of_ble_eq_true rfl, Nat.le_of_ble_eq_true rfl⟩ (by decide +kernel) ?_
  refine zs_aload_n (pc := 27) (k := 0) (i := 0) C (by decide +kernel) rfl rfl ?_
  refine zs_getR (o' := 106) (pc := 28) (i := 9) (ci := 2) (k := 0) C (by decide +kernel) fl_RX2_9 rfl rfl rfl ?_
  refine zs_iconst (pc := 31) (n := 0) (x := 0) C (by decide +kernel) (by decide +kernel) ?_
  refine zs_csVv (pc := 32) (As := [sR 106, sI 0]) (st := []) C (fun _ _ _ => rfl) (c_J7_fill_53178 l g 106 256 0 rfl) ml_RX2_66 rfl rfl (Nat.le_of_ble_eq_true rfl) ⟨Nat.le_of_ble_eq_true rfl, Nat.le_of_ble_eq_true rfl⟩ ⟨Nat.le_of_ble_eq_true rfl, Nat.le_of_ble_eq_true rfl⟩ (by decide +kernel) ?_
  refine zs_aload_n (pc := 35) (k := 0) (i := 0) C (by decide +kernel) rfl rfl ?_
  refine zs_getR (o' := 106) (pc := 36) (i := 9) (ci := 2) (k := 0) C (by decide +kernel) fl_RX2_9 rfl rfl rfl ?_
  refine zs_iconst (pc := 39) (n := 0) (x := 0) C (by decide +kernel) (by decide +kernel) ?_
  refine zs_iconst (pc := 40) (n := 1) (x := 1) C (by decide +kernel) (by decide +kernel) ?_
  refine zs_iastk (pc := 41) (o := 106) (n := 256) C (by decide) (fun _ _ _ => rfl) (by decide +kernel) rfl ?_
  refine zs_iconst (pc := 42) (n := 0) (x := 0) C (by decide +kernel) (by decide +kernel) ?_
  refine zs_istore (pc := 43) (i := 6) (ls' := [(6, sI 0), (5, sI 0), (4, sI x3), (3, sI x1), (0, sR 105), (1, sR 19), (2, sI a1)]) C (by decide +kernel) (Nat.le_of_ble_eq_true rfl) rfl ?_
  refine zs_sub (ls' := [(0, sR 105), (1, sR 19), (2, sI a1), (3, sI x1), (4, sI x3), (5, sI 0), (6, sI 0)]) ⟨rfl, rfl, rfl, rfl, rfl, rfl, rfl, trivial⟩ ?_
  refine zs_lp (pc := 45) (fun (t4 : Int × Int) => [(0, sR 105), (1, sR 19), (2, sI a1), (3, sI x1), (4, sI x3), (5, sI t4.1), (6, sI t4.2)]) (fun _ => []) (fun K5 hK5 t4 => ?_) BIG (0, 0)
  refine zs_iload (pc := 45) (i := 6) C (by decide +kernel) rfl ?_
  refine zs_iload (pc := 47) (i := 4) C (by decide +kernel) rfl ?_
  refine zs_icmp_ge (pc := 49) (off := 59) (tgt := 108) C (by decide +kernel) (by decide) ?_ ?_
  · refine zs_iload (pc := 108) (i := 5) C (by decide +kernel) rfl ?_
    exact zs_retWi (pc := 110) C hr ⟨Nat.le_of_ble_eq_true rfl, Nat.le_of_ble_eq_true rfl⟩ (by decide +kernel)
  · refine zs_iload (pc := 52) (i := 6) C (by decide +kernel) rfl ?_
    refine zs_csRi (pc := 54) (As := [sI t4.2]) (st := []) C rfl (c_J6_bitCount_0f7a4 l g t4.2) ml_RX2_72 rfl rfl (Nat.le_of_ble_eq_true rfl) ⟨Nat.le_of_ble_eq_true rfl, Nat.le_of_ble_eq_true rfl⟩ ⟨Nat.le_of_ble_eq_true rfl, Nat.le_of_ble_eq_true rfl⟩ (by decide +kernel) (fun x6 => ?_)
    refine zs_iconst (pc := 57) (n := 2) (x := 2) C (by decide +kernel) (by decide +kernel) ?_
    refine zs_idiv (pc := 58) C (by decide +kernel) (by decide +kernel) ?_
    refine zs_let (fun x7 => ?_)
    refine zs_istore (pc := 59) (i := 7) (ls' := [(7, sI x7), (0, sR 105), (1, sR 19), (2, sI a1), (3, sI x1), (4, sI x3), (5, sI t4.1), (6, sI t4.2)]) C (by decide +kernel) (Nat.le_of_ble_eq_true rfl) rfl ?_
    refine zs_iload (pc := 61) (i := 7) C (by decide +kernel) rfl ?_
    refine zs_iload_n (pc := 63) (k := 3) (i := 3) C (by decide +kernel) rfl rfl ?_
    refine zs_jn (pJ := 102) (kJ := 0) (sJ := 0) (fun t8 => [(0, sR 105), (1, sR 19), (2, sI a1), (3, sI x1), (4, sI x3), (5, sI t8), (6, sI t4.2)]) (fun t8 => []) (fun t8 => ?_) (fun J9 hJ9 => ?_)
    · refine zs_iinc (pc := 102) (i := 6) (n := 1) (y := w32 (t4.2 + 1)) (ls' := [(6, sI (w32 (t4.2 + 1))), (0, sR 105), (1, sR 19), (2, sI a1), (3, sI x1), (4, sI x3), (5, sI t8)]) C (by decide +kernel) rfl rfl (Nat.le_of_ble_eq_true rfl) rfl ?_
      refine zs_goto (pc := 105) (off := (-60)) (tgt := 45) C (by decide +kernel) (by decide) ?_
      exact zs_goj (hK5 (t8, w32 (t4.2 + 1))) ⟨rfl, rfl, rfl, rfl, rfl, rfl, rfl, trivial⟩
    · refine zs_icmp_lt (pc := 64) (off := 18) (tgt := 82) C (by decide +kernel) (by decide) ?_ ?_
      · refine zs_aload_n (pc := 82) (k := 0) (i := 0) C (by decide +kernel) rfl rfl ?_
        refine zs_getR (o' := 106) (pc := 83) (i := 9) (ci := 2) (k := 0) C (by decide +kernel) fl_RX2_9 rfl rfl rfl ?_
        refine zs_iload (pc := 86) (i := 6) C (by decide +kernel) rfl ?_
        refine zs_iald (pc := 88) (o := 106) (n := 256) C (by decide +kernel) rfl (fun hinx10 x10 => ?_)
        refine zs_if_eq (pc := 89) (off := 13) (tgt := 102) C (by decide +kernel) (by decide) ?_ ?_
        · exact zs_goj (hJ9 t4.1) ⟨rfl, rfl, rfl, rfl, rfl, rfl, rfl, trivial⟩
        · refine zs_aload_n (pc := 92) (k := 0) (i := 0) C (by decide +kernel) rfl rfl ?_
          refine zs_aload_n (pc := 93) (k := 1) (i := 1) C (by decide +kernel) rfl rfl ?_
          refine zs_iload (pc := 94) (i := 6) C (by decide +kernel) rfl ?_
          refine zs_iload (pc := 96) (i := 7) C (by decide +kernel) rfl ?_
          refine zs_iload_n (pc := 98) (k := 2) (i := 2) C (by decide +kernel) rfl rfl ?_
          refine zs_cvVv (pc := 99) (As := [sR 19, sI t4.2, sI x7, sI a1]) (st := []) C (fun _ _ _ => rfl) (c_X2_pushFrom l g t4.2 x7 a1) ml_RX2_78 rfl rfl rfl rfl (Nat.le_of_ble_eq_true rfl) ⟨Nat.le_of_ble_eq_true rfl, Nat.le_of_ble_eq_true rfl⟩ ⟨Nat.le_of_ble_eq_true rfl, Nat.le_of_ble_eq_true rfl⟩ (by decide +kernel) ?_
          exact zs_goj (hJ9 t4.1) ⟨rfl, rfl, rfl, rfl, rfl, rfl, rfl, trivial⟩
      · refine zs_iload (pc := 67) (i := 5) C (by decide +kernel) rfl ?_
        refine zs_aload_n (pc := 69) (k := 0) (i := 0) C (by decide +kernel) rfl rfl ?_
        refine zs_getR (o' := 106) (pc := 70) (i := 9) (ci := 2) (k := 0) C (by decide +kernel) fl_RX2_9 rfl rfl rfl ?_
        refine zs_iload (pc := 73) (i := 6) C (by decide +kernel) rfl ?_
        refine zs_iald (pc := 75) (o := 106) (n := 256) C (by decide +kernel) rfl (fun hinx11 x11 => ?_)
        refine zs_iadd (pc := 76) C (by decide +kernel) ?_
        refine zs_let (fun x12 => ?_)
        refine zs_istore (pc := 77) (i := 5) (ls' := [(5, sI x12), (7, sI x7), (0, sR 105), (1, sR 19), (2, sI a1), (3, sI x1), (4, sI x3), (6, sI t4.2)]) C (by decide +kernel) (Nat.le_of_ble_eq_true rfl) rfl ?_
        refine zs_goto (pc := 79) (off := 23) (tgt := 102) C (by decide +kernel) (by decide) ?_
        exact zs_goj (hJ9 x12) ⟨rfl, rfl, rfl, rfl, rfl, rfl, rfl, trivial⟩
set_option maxRecDepth 20000 in
theorem c_X11_housed (l : Launch) (g : GC)  : ConW l g yX11_housed cX11_housed 1 (some .int) (rmd 6 0 0) [sR 0] (fun mm => fX11_housed  mm) := by
  refine zs_ofW (by decide +kernel) (Nat.le_of_ble_eq_true rfl) ?_
  intro p e s m args below meth c C hr
  replace C : Bd g RX11 cX11_housed 1 p s m args meth c := C
  unfold fX11_housed
  refine zs_aload_n (pc := 0) (k := 0) (i := 0) C (by decide +kernel) rfl rfl ?_
  refine zs_getR (o' := 105) (pc := 1) (i := 76) (ci := 11) (k := 12) C (by decide +kernel) fl_RX11_76 rfl rfl rfl ?_
  refine zs_aload_n (pc := 4) (k := 0) (i := 0) C (by decide +kernel) rfl rfl ?_
  refine zs_getR (o' := 19) (pc := 5) (i := 41) (ci := 11) (k := 6) C (by decide +kernel) fl_RX11_41 rfl rfl rfl ?_
  refine zs_iconst (pc := 8) (n := 0) (x := 0) C (by decide +kernel) (by decide +kernel) ?_
  refine zs_cvWi (pc := 9) (As := [sR 19, sI 0]) (st := []) C (fun _ _ _ => rfl) rfl (c_X2_waysWithout l g 0) ml_RX11_323 rfl rfl rfl rfl (Nat.le_of_ble_eq_true rfl) ⟨Nat.le_of_ble_eq_true rfl, Nat.le_of_ble_eq_true rfl⟩ ⟨Nat.le_of_ble_eq_true rfl, Nat.le_of_ble_eq_true rfl⟩ (by decide +kernel) (fun x1 => ?_)
  exact zs_retWi (pc := 12) C hr ⟨Nat.le_of_ble_eq_true rfl, Nat.le_of_ble_eq_true rfl⟩ (by decide +kernel)
set_option maxRecDepth 20000 in
theorem c_X2_cost (l : Launch) (g : GC) (a1 : Int) (a2 : Int) (a3 : Int) : ConR l g yX2_cost cX2_cost 6 (some .int) (rmd 2 0 0) [sR 105, sR 19, sI a1, sI a2, sI a3] (fun mm => fX2_cost a1 a2 a3 mm) := by
  refine zs_ofR (by decide +kernel) (Nat.le_of_ble_eq_true rfl) ?_
  intro p e s m args below meth c C hr
  replace C : Bd g RX2 cX2_cost 6 p s m args meth c := C
  unfold fX2_cost
  refine zs_aload_n (pc := 0) (k := 1) (i := 1) C (by decide +kernel) rfl rfl ?_
  refine zs_getR (o' := 20) (pc := 1) (i := 24) (ci := 10) (k := 0) C (by decide +kernel) fl_RX2_24 rfl rfl rfl ?_
  refine zs_astore (pc := 4) (i := 5) (ls' := [(5, sR 20), (0, sR 105), (1, sR 19), (2, sI a1), (3, sI a2), (4, sI a3)]) C (by decide +kernel) (Nat.le_of_ble_eq_true rfl) rfl ?_
  refine zs_aload (pc := 6) (i := 5) C (by decide +kernel) rfl ?_
  refine zs_aload_n (pc := 8) (k := 1) (i := 1) C (by decide +kernel) rfl rfl ?_
  refine zs_getR (o' := 27) (pc := 9) (i := 36) (ci := 10) (k := 1) C (by decide +kernel) fl_RX2_36 rfl rfl rfl ?_
  refine zs_getR (o' := 28) (pc := 12) (i := 93) (ci := 5) (k := 4) C (by decide +kernel) fl_RX2_93 rfl rfl rfl ?_
  refine zs_iload_n (pc := 15) (k := 2) (i := 2) C (by decide +kernel) rfl rfl ?_
  refine zs_iald (pc := 16) (o := 28) (n := 4) C (by decide +kernel) rfl (fun hinx1 x1 => ?_)
  refine zs_aload (pc := 17) (i := 5) C (by decide +kernel) rfl ?_
  refine zs_getR (o' := 21) (pc := 19) (i := 53) (ci := 3) (k := 6) C (by decide +kernel) fl_RX2_53 rfl rfl rfl ?_
  refine zs_iload_n (pc := 22) (k := 3) (i := 3) C (by decide +kernel) rfl rfl ?_
  refine zs_iald (pc := 23) (o := 21) (n := 8) C (by decide +kernel) rfl (fun hinx2 x2 => ?_)
  refine zs_cvRi (pc := 24) (As := [sI x1, sI x2]) (st := []) C rfl (c_X3_apart l g x1 x2) ml_RX2_56 rfl rfl rfl rfl (Nat.le_of_ble_eq_true rfl) ⟨Nat.le_of_ble_eq_true rfl, Nat.le_of_ble_eq_true rfl⟩ ⟨Nat.le_of_ble_eq_true rfl, Nat.le_of_ble_eq_true rfl⟩ (by decide +kernel) (fun x3 => ?_)
  refine zs_aload (pc := 27) (i := 5) C (by decide +kernel) rfl ?_
  refine zs_aload_n (pc := 29) (k := 1) (i := 1) C (by decide +kernel) rfl rfl ?_
  refine zs_getR (o' := 27) (pc := 30) (i := 36) (ci := 10) (k := 1) C (by decide +kernel) fl_RX2_36 rfl rfl rfl ?_
  refine zs_getR (o' := 29) (pc := 33) (i := 96) (ci := 5) (k := 5) C (by decide +kernel) fl_RX2_96 rfl rfl rfl ?_
  refine zs_iload_n (pc := 36) (k := 2) (i := 2) C (by decide +kernel) rfl rfl ?_
  refine zs_iald (pc := 37) (o := 29) (n := 4) C (by decide +kernel) rfl (fun hinx4 x4 => ?_)
  refine zs_aload (pc := 38) (i := 5) C (by decide +kernel) rfl ?_
  refine zs_getR (o' := 21) (pc := 40) (i := 53) (ci := 3) (k := 6) C (by decide +kernel) fl_RX2_53 rfl rfl rfl ?_
  refine zs_iload (pc := 43) (i := 4) C (by decide +kernel) rfl ?_
  refine zs_iald (pc := 45) (o := 21) (n := 8) C (by decide +kernel) rfl (fun hinx5 x5 => ?_)
  refine zs_cvRi (pc := 46) (As := [sI x4, sI x5]) (st := [sI x3]) C rfl (c_X3_apart l g x4 x5) ml_RX2_56 rfl rfl rfl rfl (Nat.le_of_ble_eq_true rfl) ⟨Nat.le_of_ble_eq_true rfl, Nat.le_of_ble_eq_true rfl⟩ ⟨Nat.le_of_ble_eq_true rfl, Nat.le_of_ble_eq_true rfl⟩ (by decide +kernel) (fun x6 => ?_)
  refine zs_iadd (pc := 49) C (by decide +kernel) ?_
  exact zs_retRi (pc := 50) C hr ⟨Nat.le_of_ble_eq_true rfl, Nat.le_of_ble_eq_true rfl⟩ (by decide +kernel)
set_option maxRecDepth 20000 in
theorem c_X2_leastFrom (l : Launch) (g : GC) (a1 : Int) (a2 : Int) : ConR l g yX2_leastFrom cX2_leastFrom 8 (some .int) (rmd 3 0 0) [sR 105, sR 19, sI a1, sI a2] (fun mm => fX2_leastFrom a1 a2 mm) := by
  refine zs_ofR (by decide +kernel) (Nat.le_of_ble_eq_true rfl) ?_
  intro p e s m args below meth c C hr
  replace C : Bd g RX2 cX2_leastFrom 8 p s m args meth c := C
  unfold fX2_leastFrom
  refine zs_aload_n (pc := 0) (k := 1) (i := 1) C (by decide +kernel) rfl rfl ?_
  refine zs_getR (o' := 20) (pc := 1) (i := 24) (ci := 10) (k := 0) C (by decide +kernel) fl_RX2_24 rfl rfl rfl ?_
  refine zs_getI (pc := 4) (i := 59) (ci := 3) (k := 4) C (by decide +kernel) fl_RX2_59 rfl rfl (fun x1 => ?_)
  refine zs_istore (pc := 7) (i := 4) (ls' := [(4, sI x1), (0, sR 105), (1, sR 19), (2, sI a1), (3, sI a2)]) C (by decide +kernel) (Nat.le_of_ble_eq_true rfl) rfl ?_
  refine zs_sipush (pc := 9) (n := 1000) (x := 1000) C (by decide +kernel) (by decide +kernel) ?_
  refine zs_istore (pc := 12) (i := 5) (ls' := [(5, sI 1000), (4, sI x1), (0, sR 105), (1, sR 19), (2, sI a1), (3, sI a2)]) C (by decide +kernel) (Nat.le_of_ble_eq_true rfl) rfl ?_
  refine zs_iconst (pc := 14) (n := 0) (x := 0) C (by decide +kernel) (by decide +kernel) ?_
  refine zs_istore (pc := 15) (i := 6) (ls' := [(6, sI 0), (5, sI 1000), (4, sI x1), (0, sR 105), (1, sR 19), (2, sI a1), (3, sI a2)]) C (by decide +kernel) (Nat.le_of_ble_eq_true rfl) rfl ?_
  refine zs_sub (ls' := [(0, sR 105), (1, sR 19), (2, sI a1), (3, sI a2), (4, sI x1), (5, sI 1000), (6, sI 0)]) ⟨rfl, rfl, rfl, rfl, rfl, rfl, rfl, trivial⟩ ?_
  refine zs_lp (pc := 17) (fun (t2 : Int × Int) => [(0, sR 105), (1, sR 19), (2, sI a1), (3, sI a2), (4, sI x1), (5, sI t2.1), (6, sI t2.2)]) (fun _ => []) (fun K3 hK3 t2 => ?_) BIG (1000, 0)
  refine zs_iload (pc := 17) (i := 6) C (by decide +kernel) rfl ?_
  refine zs_iload (pc := 19) (i := 4) C (by decide +kernel) rfl ?_
  refine zs_icmp_ge (pc := 21) (off := 76) (tgt := 97) C (by decide +kernel) (by decide) ?_ ?_
  · refine zs_iload (pc := 97) (i := 5) C (by decide +kernel) rfl ?_
    exact zs_retRi (pc := 99) C hr ⟨Nat.le_of_ble_eq_true rfl, Nat.le_of_ble_eq_true rfl⟩ (by decide +kernel)
  · refine zs_iconst (pc := 24) (n := 0) (x := 0) C (by decide +kernel) (by decide +kernel) ?_
    refine zs_istore (pc := 25) (i := 7) (ls' := [(7, sI 0), (0, sR 105), (1, sR 19), (2, sI a1), (3, sI a2), (4, sI x1), (5, sI t2.1), (6, sI t2.2)]) C (by decide +kernel) (Nat.le_of_ble_eq_true rfl) rfl ?_
    refine zs_sub (ls' := [(0, sR 105), (1, sR 19), (2, sI a1), (3, sI a2), (4, sI x1), (5, sI t2.1), (6, sI t2.2), (7, sI 0)]) ⟨rfl, rfl, rfl, rfl, rfl, rfl, rfl, rfl, trivial⟩ ?_
    refine zs_lp (pc := 27) (fun (t4 : Int × Int) => [(0, sR 105), (1, sR 19), (2, sI a1), (3, sI a2), (4, sI x1), (5, sI t4.1), (6, sI t2.2), (7, sI t4.2)]) (fun _ => []) (fun K5 hK5 t4 => ?_) BIG (t2.1, 0)
    refine zs_iload (pc := 27) (i := 7) C (by decide +kernel) rfl ?_
    refine zs_iload (pc := 29) (i := 4) C (by decide +kernel) rfl ?_
    refine zs_icmp_ge (pc := 31) (off := 60) (tgt := 91) C (by decide +kernel) (by decide) ?_ ?_
    · refine zs_iinc (pc := 91) (i := 6) (n := 1) (y := w32 (t2.2 + 1)) (ls' := [(6, sI (w32 (t2.2 + 1))), (0, sR 105), (1, sR 19), (2, sI a1), (3, sI a2), (4, sI x1), (5, sI t4.1), (7, sI t4.2)]) C (by decide +kernel) rfl rfl (Nat.le_of_ble_eq_true rfl) rfl ?_
      refine zs_goto (pc := 94) (off := (-77)) (tgt := 17) C (by decide +kernel) (by decide) ?_
      exact zs_goj (hK3 (t4.1, w32 (t2.2 + 1))) ⟨rfl, rfl, rfl, rfl, rfl, rfl, rfl, trivial⟩
    · refine zs_aload_n (pc := 34) (k := 0) (i := 0) C (by decide +kernel) rfl rfl ?_
      refine zs_aload_n (pc := 35) (k := 1) (i := 1) C (by decide +kernel) rfl rfl ?_
      refine zs_getR (o' := 20) (pc := 36) (i := 24) (ci := 10) (k := 0) C (by decide +kernel) fl_RX2_24 rfl rfl rfl ?_
      refine zs_iload_n (pc := 39) (k := 3) (i := 3) C (by decide +kernel) rfl rfl ?_
      refine zs_iload_n (pc := 40) (k := 2) (i := 2) C (by decide +kernel) rfl rfl ?_
      refine zs_iload (pc := 41) (i := 6) C (by decide +kernel) rfl ?_
      refine zs_iload (pc := 43) (i := 7) C (by decide +kernel) rfl ?_
      refine zs_cvRi (pc := 45) (As := [sR 20, sI a2, sI a1, sI t2.2, sI t4.2]) (st := []) C rfl (c_X2_canHave l g a2 a1 t2.2 t4.2) ml_RX2_82 rfl rfl rfl rfl (Nat.le_of_ble_eq_true rfl) ⟨Nat.le_of_ble_eq_true rfl, Nat.le_of_ble_eq_true rfl⟩ ⟨Nat.le_of_ble_eq_true rfl, Nat.le_of_ble_eq_true rfl⟩ (by decide +kernel) (fun x6 => ?_)
      refine zs_jn (pJ := 85) (kJ := 0) (sJ := 0) (fun t7 => [(0, sR 105), (1, sR 19), (2, sI a1), (3, sI a2), (4, sI x1), (5, sI t7), (6, sI t2.2), (7, sI t4.2)]) (fun t7 => []) (fun t7 => ?_) (fun J8 hJ8 => ?_)
      · refine zs_iinc (pc := 85) (i := 7) (n := 1) (y := w32 (t4.2 + 1)) (ls' := [(7, sI (w32 (t4.2 + 1))), (0, sR 105), (1, sR 19), (2, sI a1), (3, sI a2), (4, sI x1), (5, sI t7), (6, sI t2.2)]) C (by decide +kernel) rfl rfl (Nat.le_of_ble_eq_true rfl) rfl ?_
        refine zs_goto (pc := 88) (off := (-61)) (tgt := 27) C (by decide +kernel) (by decide) ?_
        exact zs_goj (hK5 (t7, w32 (t4.2 + 1))) ⟨rfl, rfl, rfl, rfl, rfl, rfl, rfl, rfl, trivial⟩
      · refine zs_if_eq (pc := 48) (off := 37) (tgt := 85) C (by decide +kernel) (by decide) ?_ ?_
        · exact zs_goj (hJ8 t4.1) ⟨rfl, rfl, rfl, rfl, rfl, rfl, rfl, rfl, trivial⟩
        · refine zs_iload (pc := 51) (i := 5) C (by decide +kernel) rfl ?_
          refine zs_aload_n (pc := 53) (k := 0) (i := 0) C (by decide +kernel) rfl rfl ?_
          refine zs_aload_n (pc := 54) (k := 1) (i := 1) C (by decide +kernel) rfl rfl ?_
          refine zs_iload_n (pc := 55) (k := 3) (i := 3) C (by decide +kernel) rfl rfl ?_
          refine zs_iload (pc := 56) (i := 6) C (by decide +kernel) rfl ?_
          refine zs_iload (pc := 58) (i := 7) C (by decide +kernel) rfl ?_
          refine zs_cvRi (pc := 60) (As := [sR 19, sI a2, sI t2.2, sI t4.2]) (st := [sI t4.1]) C rfl (c_X2_cost l g a2 t2.2 t4.2) ml_RX2_99 rfl rfl rfl rfl (Nat.le_of_ble_eq_true rfl) ⟨Nat.le_of_ble_eq_true rfl, Nat.le_of_ble_eq_true rfl⟩ ⟨Nat.le_of_ble_eq_true rfl, Nat.le_of_ble_eq_true rfl⟩ (by decide +kernel) (fun x9 => ?_)
          refine zs_aload_n (pc := 63) (k := 0) (i := 0) C (by decide +kernel) rfl rfl ?_
          refine zs_getR (o' := 107) (pc := 64) (i := 15) (ci := 2) (k := 1) C (by decide +kernel) fl_RX2_15 rfl rfl rfl ?_
          refine zs_iload_n (pc := 67) (k := 2) (i := 2) C (by decide +kernel) rfl rfl ?_
          refine zs_iconst (pc := 68) (n := 1) (x := 1) C (by decide +kernel) (by decide +kernel) ?_
          refine zs_iload (pc := 69) (i := 6) C (by decide +kernel) rfl ?_
          refine zs_ishl (pc := 71) C (by decide +kernel) ?_
          refine zs_ior (pc := 72) C (by decide +kernel) ?_
          refine zs_iconst (pc := 73) (n := 1) (x := 1) C (by decide +kernel) (by decide +kernel) ?_
          refine zs_iload (pc := 74) (i := 7) C (by decide +kernel) rfl ?_
          refine zs_ishl (pc := 76) C (by decide +kernel) ?_
          refine zs_ior (pc := 77) C (by decide +kernel) ?_
          refine zs_iald (pc := 78) (o := 107) (n := 256) C (by decide +kernel) rfl (fun hinx10 x10 => ?_)
          refine zs_iadd (pc := 79) C (by decide +kernel) ?_
          refine zs_mmin (pc := 80) (idx := 103) C wf_1626 wf_717 wf_166 wf_718 ⟨Nat.le_of_ble_eq_true rfl, Nat.le_of_ble_eq_true rfl, Nat.le_of_ble_eq_true rfl, Nat.le_of_ble_eq_true rfl⟩ (by decide +kernel) ?_
          refine zs_let (fun x11 => ?_)
          refine zs_istore (pc := 83) (i := 5) (ls' := [(5, sI x11), (0, sR 105), (1, sR 19), (2, sI a1), (3, sI a2), (4, sI x1), (6, sI t2.2), (7, sI t4.2)]) C (by decide +kernel) (Nat.le_of_ble_eq_true rfl) rfl ?_
          exact zs_goj (hJ8 x11) ⟨rfl, rfl, rfl, rfl, rfl, rfl, rfl, rfl, trivial⟩

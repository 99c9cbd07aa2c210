set_option maxRecDepth 20000 in
theorem c_X11_tapeOn (l : Launch) (g : GC) (a0 : Int) : ConV l g yX11_tapeOn cX11_tapeOn 3 (rmd 1 0 0) [sR 0, sI a0] (fun mm => fX11_tapeOn a0 mm) := by
  refine zs_ofV (by decide +kernel) (Nat.le_of_ble_eq_true rfl) ?_
  intro p e s m args below meth c C hr
  replace C : Bd g RX11 cX11_tapeOn 3 p s m args meth c := C
  unfold fX11_tapeOn
  refine zs_bipush (pc := 0) (n := 24) (x := 24) C (by decide +kernel) (by decide +kernel) ?_
  refine zs_istore_n (pc := 2) (k := 2) (i := 2) (ls' := [(2, sI 24), (0, sR 0), (1, sI a0)]) C (by decide +kernel) rfl (Nat.le_of_ble_eq_true rfl) rfl ?_
  refine zs_sub (ls' := [(0, sR 0), (1, sI a0), (2, sI 24)]) ⟨rfl, rfl, rfl, trivial⟩ ?_
  refine zs_lp (pc := 3) (fun (t1 : Int) => [(0, sR 0), (1, sI a0), (2, sI t1)]) (fun _ => []) (fun K2 hK2 t1 => ?_) BIG 24
  refine zs_iload_n (pc := 3) (k := 2) (i := 2) C (by decide +kernel) rfl rfl ?_
  refine zs_jn (pJ := 46) (kJ := 0) (sJ := 0) (fun t3 => []) (fun t3 => []) (fun t3 => ?_) (fun J4 hJ4 => ?_)
  · exact zs_retVv (pc := 46) C hr ⟨Nat.le_of_ble_eq_true rfl, Nat.le_of_ble_eq_true rfl⟩ (by decide +kernel)
  · refine zs_if_lt (pc := 4) (off := 42) (tgt := 46) C (by decide +kernel) (by decide) ?_ ?_
    · exact zs_goj (hJ4 ()) trivial
    · refine zs_aload_n (pc := 7) (k := 0) (i := 0) C (by decide +kernel) rfl rfl ?_
      refine zs_getI (pc := 8) (i := 13) (ci := 11) (k := 1) C (by decide +kernel) fl_RX11_13 rfl rfl (fun x5 => ?_)
      refine zs_sipush (pc := 11) (n := 900) (x := 900) C (by decide +kernel) (by decide +kernel) ?_
      refine zs_icmp_ge (pc := 14) (off := 32) (tgt := 46) C (by decide +kernel) (by decide) ?_ ?_
      · exact zs_goj (hJ4 ()) trivial
      · refine zs_aload_n (pc := 17) (k := 0) (i := 0) C (by decide +kernel) rfl rfl ?_
        refine zs_getR (o' := 1) (pc := 18) (i := 9) (ci := 11) (k := 0) C (by decide +kernel) fl_RX11_9 rfl rfl rfl ?_
        refine zs_aload_n (pc := 21) (k := 0) (i := 0) C (by decide +kernel) rfl rfl ?_
        refine zs_getI (pc := 22) (i := 13) (ci := 11) (k := 1) C (by decide +kernel) fl_RX11_13 rfl rfl (fun x6 => ?_)
        refine zs_iload_n (pc := 25) (k := 1) (i := 1) C (by decide +kernel) rfl rfl ?_
        refine zs_iload_n (pc := 26) (k := 2) (i := 2) C (by decide +kernel) rfl rfl ?_
        refine zs_iushr (pc := 27) C (by decide +kernel) ?_
        refine zs_i2b (pc := 28) C (by decide +kernel) ?_
        refine zs_bast (pc := 29) (o := 1) (n := 900) C (fun _ _ _ => rfl) (by decide +kernel) rfl ?_
        refine zs_aload_n (pc := 30) (k := 0) (i := 0) C (by decide +kernel) rfl rfl ?_
        refine zs_dup (pc := 31) C rfl (by decide +kernel) ?_
        refine zs_getI (pc := 32) (i := 13) (ci := 11) (k := 1) C (by decide +kernel) fl_RX11_13 rfl rfl (fun x7 => ?_)
        refine zs_iconst (pc := 35) (n := 1) (x := 1) C (by decide +kernel) (by decide +kernel) ?_
        refine zs_iadd (pc := 36) C (by decide +kernel) ?_
        refine zs_putI (pc := 37) (i := 13) (ci := 11) (k := 1) C (fun _ _ _ => rfl) (by decide +kernel) fl_RX11_13 fw_11_1 rfl rfl ?_
        refine zs_iinc (pc := 40) (i := 2) (n := (-8)) (y := w32 (t1 + (-8))) (ls' := [(2, sI (w32 (t1 + (-8)))), (0, sR 0), (1, sI a0)]) C (by decide +kernel) rfl rfl (Nat.le_of_ble_eq_true rfl) rfl ?_
        refine zs_goto (pc := 43) (off := (-40)) (tgt := 3) C (by decide +kernel) (by decide) ?_
        exact zs_goj (hK2 (w32 (t1 + (-8)))) ⟨rfl, rfl, rfl, trivial⟩
set_option maxRecDepth 20000 in
theorem c_X11_feed (l : Launch) (g : GC) (a0 : Int) (a1 : Int) (a2 : Int) (a3 : Int) (a4 : Int) : ConW l g yX11_feed cX11_feed 6 (some .int) (rmd 2 0 0) [sR 0, sI a0, sI a1, sI a2, sI a3, sI a4] (fun mm => fX11_feed a0 a1 a2 a3 a4 mm) := by
  refine zs_ofW (by decide +kernel) (Nat.le_of_ble_eq_true rfl) ?_
  intro p e s m args below meth c C hr
  replace C : Bd g RX11 cX11_feed 6 p s m args meth c := C
  unfold fX11_feed
  refine zs_aload_n (pc := 0) (k := 0) (i := 0) C (by decide +kernel) rfl rfl ?_
  refine zs_getI (pc := 1) (i := 13) (ci := 11) (k := 1) C (by decide +kernel) fl_RX11_13 rfl rfl (fun x1 => ?_)
  refine zs_bipush (pc := 4) (n := 20) (x := 20) C (by decide +kernel) (by decide +kernel) ?_
  refine zs_iadd (pc := 6) C (by decide +kernel) ?_
  refine zs_sipush (pc := 7) (n := 900) (x := 900) C (by decide +kernel) (by decide +kernel) ?_
  refine zs_icmp_le (pc := 10) (off := 5) (tgt := 15) C (by decide +kernel) (by decide) ?_ ?_
  · refine zs_aload_n (pc := 15) (k := 0) (i := 0) C (by decide +kernel) rfl rfl ?_
    refine zs_iload_n (pc := 16) (k := 1) (i := 1) C (by decide +kernel) rfl rfl ?_
    refine zs_cvVv (pc := 17) (As := [sI a0]) (st := []) C (fun _ _ _ => rfl) (c_X11_tapeOn l g a0) ml_RX11_81 rfl rfl rfl rfl (Nat.le_of_ble_eq_true rfl) ⟨Nat.le_of_ble_eq_true rfl, Nat.le_of_ble_eq_true rfl⟩ ⟨Nat.le_of_ble_eq_true rfl, Nat.le_of_ble_eq_true rfl⟩ (by decide +kernel) ?_
    refine zs_aload_n (pc := 20) (k := 0) (i := 0) C (by decide +kernel) rfl rfl ?_
    refine zs_iload_n (pc := 21) (k := 2) (i := 2) C (by decide +kernel) rfl rfl ?_
    refine zs_cvVv (pc := 22) (As := [sI a1]) (st := []) C (fun _ _ _ => rfl) (c_X11_tapeOn l g a1) ml_RX11_81 rfl rfl rfl rfl (Nat.le_of_ble_eq_true rfl) ⟨Nat.le_of_ble_eq_true rfl, Nat.le_of_ble_eq_true rfl⟩ ⟨Nat.le_of_ble_eq_true rfl, Nat.le_of_ble_eq_true rfl⟩ (by decide +kernel) ?_
    refine zs_aload_n (pc := 25) (k := 0) (i := 0) C (by decide +kernel) rfl rfl ?_
    refine zs_iload_n (pc := 26) (k := 3) (i := 3) C (by decide +kernel) rfl rfl ?_
    refine zs_cvVv (pc := 27) (As := [sI a2]) (st := []) C (fun _ _ _ => rfl) (c_X11_tapeOn l g a2) ml_RX11_81 rfl rfl rfl rfl (Nat.le_of_ble_eq_true rfl) ⟨Nat.le_of_ble_eq_true rfl, Nat.le_of_ble_eq_true rfl⟩ ⟨Nat.le_of_ble_eq_true rfl, Nat.le_of_ble_eq_true rfl⟩ (by decide +kernel) ?_
    refine zs_aload_n (pc := 30) (k := 0) (i := 0) C (by decide +kernel) rfl rfl ?_
    refine zs_iload (pc := 31) (i := 4) C (by decide +kernel) rfl ?_
    refine zs_cvVv (pc := 33) (As := [sI a3]) (st := []) C (fun _ _ _ => rfl) (c_X11_tapeOn l g a3) ml_RX11_81 rfl rfl rfl rfl (Nat.le_of_ble_eq_true rfl) ⟨Nat.le_of_ble_eq_true rfl, Nat.le_of_ble_eq_true rfl⟩ ⟨Nat.le_of_ble_eq_true rfl, Nat.le_of_ble_eq_true rfl⟩ (by decide +kernel) ?_
    refine zs_aload_n (pc := 36) (k := 0) (i := 0) C (by decide +kernel) rfl rfl ?_
    refine zs_iload (pc := 37) (i := 5) C (by decide +kernel) rfl ?_
    refine zs_cvVv (pc := 39) (As := [sI a4]) (st := []) C (fun _ _ _ => rfl) (c_X11_tapeOn l g a4) ml_RX11_81 rfl rfl rfl rfl (Nat.le_of_ble_eq_true rfl) ⟨Nat.le_of_ble_eq_true rfl, Nat.le_of_ble_eq_true rfl⟩ ⟨Nat.le_of_ble_eq_true rfl, Nat.le_of_ble_eq_true rfl⟩ (by decide +kernel) ?_
    refine zs_aload_n (pc := 42) (k := 0) (i := 0) C (by decide +kernel) rfl rfl ?_
    refine zs_getI (pc := 43) (i := 13) (ci := 11) (k := 1) C (by decide +kernel) fl_RX11_13 rfl rfl (fun x2 => ?_)
    exact zs_retWi (pc := 46) C hr ⟨Nat.le_of_ble_eq_true rfl, Nat.le_of_ble_eq_true rfl⟩ (by decide +kernel)
  · refine zs_iconst (pc := 13) (n := (-1)) (x := (-1)) C (by decide +kernel) (by decide +kernel) ?_
    exact zs_retWi (pc := 14) C hr ⟨Nat.le_of_ble_eq_true rfl, Nat.le_of_ble_eq_true rfl⟩ (by decide +kernel)
set_option maxRecDepth 20000 in
theorem c_X11_fault (l : Launch) (g : GC) (a0 : Int) : ConR l g yX11_fault cX11_fault 2 (some .int) (rmd 1 0 0) [sR 0, sI a0] (fun mm => fX11_fault a0 mm) := by
  refine zs_ofR (by decide +kernel) (Nat.le_of_ble_eq_true rfl) ?_
  intro p e s m args below meth c C hr
  replace C : Bd g RX11 cX11_fault 2 p s m args meth c := C
  unfold fX11_fault
  refine zs_iload_n (pc := 0) (k := 1) (i := 1) C (by decide +kernel) rfl rfl ?_
  refine zs_ite (fun hc0 => ?_) (fun hc0 => ?_)
  · refine zs_lsw (pc := 1) (dflt := 37) (ps := #[(0, 27), (1, 32)]) (len := 27) (off := 27) (tgt := 28) C (by decide +kernel) (by decide +kernel) (by rw [hc0]; rfl) (by decide) ?_
    refine zs_aload_n (pc := 28) (k := 0) (i := 0) C (by decide +kernel) rfl rfl ?_
    refine zs_getI (pc := 29) (i := 17) (ci := 11) (k := 2) C (by decide +kernel) fl_RX11_17 rfl rfl (fun x1 => ?_)
    exact zs_retRi (pc := 32) C hr ⟨Nat.le_of_ble_eq_true rfl, Nat.le_of_ble_eq_true rfl⟩ (by decide +kernel)
  · refine zs_ite (fun hc1 => ?_) (fun hc1 => ?_)
    · refine zs_lsw (pc := 1) (dflt := 37) (ps := #[(0, 27), (1, 32)]) (len := 27) (off := 32) (tgt := 33) C (by decide +kernel) (by decide +kernel) (by rw [hc1]; rfl) (by decide) ?_
      refine zs_aload_n (pc := 33) (k := 0) (i := 0) C (by decide +kernel) rfl rfl ?_
      refine zs_getI (pc := 34) (i := 20) (ci := 11) (k := 3) C (by decide +kernel) fl_RX11_20 rfl rfl (fun x2 => ?_)
      exact zs_retRi (pc := 37) C hr ⟨Nat.le_of_ble_eq_true rfl, Nat.le_of_ble_eq_true rfl⟩ (by decide +kernel)
    · refine zs_lsw (pc := 1) (dflt := 37) (ps := #[(0, 27), (1, 32)]) (len := 27) (off := 37) (tgt := 38) C (by decide +kernel) (by decide +kernel) (by simp [Op.lookupswitch.offset, hc0, Ne.symm hc0, hc1, Ne.symm hc1]) (by decide) ?_
      refine zs_iconst (pc := 38) (n := (-1)) (x := (-1)) C (by decide +kernel) (by decide +kernel) ?_
      exact zs_retRi (pc := 39) C hr ⟨Nat.le_of_ble_eq_true rfl, Nat.le_of_ble_eq_true rfl⟩ (by decide +kernel)
set_option maxRecDepth 20000 in
theorem c_X3_places (l : Launch) (g : GC)  : ConR l g yX3_places cX3_places 1 (some .int) (rmd 1 0 0) [sR 20] (fun mm => fX3_places  mm) := by
  refine zs_ofR (by decide +kernel) (Nat.le_of_ble_eq_true rfl) ?_
  intro p e s m args below meth c C hr
  replace C : Bd g RX3 cX3_places 1 p s m args meth c := C
  unfold fX3_places
  refine zs_aload_n (pc := 0) (k := 0) (i := 0) C (by decide +kernel) rfl rfl ?_
  refine zs_getI (pc := 1) (i := 15) (ci := 3) (k := 1) C (by decide +kernel) fl_RX3_15 rfl rfl (fun x1 => ?_)
  refine zs_aload_n (pc := 4) (k := 0) (i := 0) C (by decide +kernel) rfl rfl ?_
  refine zs_getI (pc := 5) (i := 18) (ci := 3) (k := 2) C (by decide +kernel) fl_RX3_18 rfl rfl (fun x2 => ?_)
  refine zs_imul (pc := 8) C (by decide +kernel) ?_
  exact zs_retRi (pc := 9) C hr ⟨Nat.le_of_ble_eq_true rfl, Nat.le_of_ble_eq_true rfl⟩ (by decide +kernel)
set_option maxRecDepth 20000 in
theorem c_X3_beside (l : Launch) (g : GC) (a0 : Int) (a1 : Int) : ConR l g yX3_beside cX3_beside 4 (some .int) (rmd 2 0 0) [sR 20, sI a0, sI a1] (fun mm => fX3_beside a0 a1 mm) := by
  refine zs_ofR (by decide +kernel) (Nat.le_of_ble_eq_true rfl) ?_
  intro p e s m args below meth c C hr
  replace C : Bd g RX3 cX3_beside 4 p s m args meth c := C
  unfold fX3_beside
  refine zs_aload_n (pc := 0) (k := 0) (i := 0) C (by decide +kernel) rfl rfl ?_
  refine zs_getI (pc := 1) (i := 15) (ci := 3) (k := 1) C (by decide +kernel) fl_RX3_15 rfl rfl (fun x1 => ?_)
  refine zs_iconst (pc := 4) (n := 1) (x := 1) C (by decide +kernel) (by decide +kernel) ?_
  refine zs_icmp_ge (pc := 5) (off := 5) (tgt := 10) C (by decide +kernel) (by decide) ?_ ?_
  · refine zs_iload_n (pc := 10) (k := 1) (i := 1) C (by decide +kernel) rfl rfl ?_
    refine zs_aload_n (pc := 11) (k := 0) (i := 0) C (by decide +kernel) rfl rfl ?_
    refine zs_getI (pc := 12) (i := 15) (ci := 3) (k := 1) C (by decide +kernel) fl_RX3_15 rfl rfl (fun x2 => ?_)
    refine zs_chk (fun _ hy => ?_)
    refine zs_irem (pc := 15) C hy (by decide +kernel) ?_
    refine zs_let (fun x3 => ?_)
    refine zs_istore_n (pc := 16) (k := 3) (i := 3) (ls' := [(3, sI x3), (0, sR 20), (1, sI a0), (2, sI a1)]) C (by decide +kernel) rfl (Nat.le_of_ble_eq_true rfl) rfl ?_
    refine zs_iload_n (pc := 17) (k := 2) (i := 2) C (by decide +kernel) rfl rfl ?_
    refine zs_ite (fun hc0 => ?_) (fun hc0 => ?_)
    · refine zs_tswI (pc := 18) (dflt := 109) (lo := 0) (hi := 4) (offs := #[34, 36, 55, 73, 97]) (len := 34) (i := 0) (off := 34) (tgt := 52) C (by decide +kernel) hc0 (by decide) rfl (by decide) ?_
      refine zs_iload_n (pc := 52) (k := 1) (i := 1) C (by decide +kernel) rfl rfl ?_
      exact zs_retRi (pc := 53) C hr ⟨Nat.le_of_ble_eq_true rfl, Nat.le_of_ble_eq_true rfl⟩ (by decide +kernel)
    · refine zs_ite (fun hc1 => ?_) (fun hc1 => ?_)
      · refine zs_tswI (pc := 18) (dflt := 109) (lo := 0) (hi := 4) (offs := #[34, 36, 55, 73, 97]) (len := 34) (i := 1) (off := 36) (tgt := 54) C (by decide +kernel) hc1 (by decide) rfl (by decide) ?_
        refine zs_iload_n (pc := 54) (k := 1) (i := 1) C (by decide +kernel) rfl rfl ?_
        refine zs_aload_n (pc := 55) (k := 0) (i := 0) C (by decide +kernel) rfl rfl ?_
        refine zs_getI (pc := 56) (i := 15) (ci := 3) (k := 1) C (by decide +kernel) fl_RX3_15 rfl rfl (fun x4 => ?_)
        refine zs_jn (pJ := 72) (kJ := 0) (sJ := 0) (fun t5 => []) (fun t5 => [sI t5]) (fun t5 => ?_) (fun J6 hJ6 => ?_)
        · exact zs_retRi (pc := 72) C hr ⟨Nat.le_of_ble_eq_true rfl, Nat.le_of_ble_eq_true rfl⟩ (by decide +kernel)
        · refine zs_icmp_lt (pc := 59) (off := 12) (tgt := 71) C (by decide +kernel) (by decide) ?_ ?_
          · refine zs_iconst (pc := 71) (n := (-1)) (x := (-1)) C (by decide +kernel) (by decide +kernel) ?_
            exact zs_goj (hJ6 (-1)) trivial
          · refine zs_iload_n (pc := 62) (k := 1) (i := 1) C (by decide +kernel) rfl rfl ?_
            refine zs_aload_n (pc := 63) (k := 0) (i := 0) C (by decide +kernel) rfl rfl ?_
            refine zs_getI (pc := 64) (i := 15) (ci := 3) (k := 1) C (by decide +kernel) fl_RX3_15 rfl rfl (fun x7 => ?_)
            refine zs_isub (pc := 67) C (by decide +kernel) ?_
            refine zs_goto (pc := 68) (off := 4) (tgt := 72) C (by decide +kernel) (by decide) ?_
            exact zs_goj (hJ6 (w32 (a0 - x7))) trivial
      · refine zs_ite (fun hc2 => ?_) (fun hc2 => ?_)
        · refine zs_tswI (pc := 18) (dflt := 109) (lo := 0) (hi := 4) (offs := #[34, 36, 55, 73, 97]) (len := 34) (i := 2) (off := 55) (tgt := 73) C (by decide +kernel) hc2 (by decide) rfl (by decide) ?_
          refine zs_iload_n (pc := 73) (k := 3) (i := 3) C (by decide +kernel) rfl rfl ?_
          refine zs_aload_n (pc := 74) (k := 0) (i := 0) C (by decide +kernel) rfl rfl ?_
          refine zs_getI (pc := 75) (i := 15) (ci := 3) (k := 1) C (by decide +kernel) fl_RX3_15 rfl rfl (fun x8 => ?_)
          refine zs_iconst (pc := 78) (n := 1) (x := 1) C (by decide +kernel) (by decide +kernel) ?_
          refine zs_isub (pc := 79) C (by decide +kernel) ?_
          refine zs_jn (pJ := 90) (kJ := 0) (sJ := 0) (fun t9 => []) (fun t9 => [sI t9]) (fun t9 => ?_) (fun J10 hJ10 => ?_)
          · exact zs_retRi (pc := 90) C hr ⟨Nat.le_of_ble_eq_true rfl, Nat.le_of_ble_eq_true rfl⟩ (by decide +kernel)
          · refine zs_icmp_ge (pc := 80) (off := 9) (tgt := 89) C (by decide +kernel) (by decide) ?_ ?_
            · refine zs_iconst (pc := 89) (n := (-1)) (x := (-1)) C (by decide +kernel) (by decide +kernel) ?_
              exact zs_goj (hJ10 (-1)) trivial
            · refine zs_iload_n (pc := 83) (k := 1) (i := 1) C (by decide +kernel) rfl rfl ?_
              refine zs_iconst (pc := 84) (n := 1) (x := 1) C (by decide +kernel) (by decide +kernel) ?_
              refine zs_iadd (pc := 85) C (by decide +kernel) ?_
              refine zs_goto (pc := 86) (off := 4) (tgt := 90) C (by decide +kernel) (by decide) ?_
              exact zs_goj (hJ10 (w32 (a0 + 1))) trivial
        · refine zs_ite (fun hc3 => ?_) (fun hc3 => ?_)
          · refine zs_tswI (pc := 18) (dflt := 109) (lo := 0) (hi := 4) (offs := #[34, 36, 55, 73, 97]) (len := 34) (i := 3) (off := 73) (tgt := 91) C (by decide +kernel) hc3 (by decide) rfl (by decide) ?_
            refine zs_iload_n (pc := 91) (k := 1) (i := 1) C (by decide +kernel) rfl rfl ?_
            refine zs_aload_n (pc := 92) (k := 0) (i := 0) C (by decide +kernel) rfl rfl ?_
            refine zs_getI (pc := 93) (i := 15) (ci := 3) (k := 1) C (by decide +kernel) fl_RX3_15 rfl rfl (fun x11 => ?_)
            refine zs_iadd (pc := 96) C (by decide +kernel) ?_
            refine zs_aload_n (pc := 97) (k := 0) (i := 0) C (by decide +kernel) rfl rfl ?_
            refine zs_cvRi (pc := 98) (As := []) (st := [sI (w32 (a0 + x11))]) C (Or.inl rfl) (c_X3_places l g ) ml_RX3_60 rfl rfl rfl rfl (Nat.le_of_ble_eq_true rfl) ⟨Nat.le_of_ble_eq_true rfl, Nat.le_of_ble_eq_true rfl⟩ ⟨Nat.le_of_ble_eq_true rfl, Nat.le_of_ble_eq_true rfl⟩ (by decide +kernel) (fun x12 => ?_)
            refine zs_jn (pJ := 114) (kJ := 0) (sJ := 0) (fun t13 => []) (fun t13 => [sI t13]) (fun t13 => ?_) (fun J14 hJ14 => ?_)
            · exact zs_retRi (pc := 114) C hr ⟨Nat.le_of_ble_eq_true rfl, Nat.le_of_ble_eq_true rfl⟩ (by decide +kernel)
            · refine zs_icmp_ge (pc := 101) (off := 12) (tgt := 113) C (by decide +kernel) (by decide) ?_ ?_
              · refine zs_iconst (pc := 113) (n := (-1)) (x := (-1)) C (by decide +kernel) (by decide +kernel) ?_
                exact zs_goj (hJ14 (-1)) trivial
              · refine zs_iload_n (pc := 104) (k := 1) (i := 1) C (by decide +kernel) rfl rfl ?_
                refine zs_aload_n (pc := 105) (k := 0) (i := 0) C (by decide +kernel) rfl rfl ?_
                refine zs_getI (pc := 106) (i := 15) (ci := 3) (k := 1) C (by decide +kernel) fl_RX3_15 rfl rfl (fun x15 => ?_)
                refine zs_iadd (pc := 109) C (by decide +kernel) ?_
                refine zs_goto (pc := 110) (off := 4) (tgt := 114) C (by decide +kernel) (by decide) ?_
                exact zs_goj (hJ14 (w32 (a0 + x15))) trivial
          · refine zs_ite (fun hc4 => ?_) (fun hc4 => ?_)
            · refine zs_tswI (pc := 18) (dflt := 109) (lo := 0) (hi := 4) (offs := #[34, 36, 55, 73, 97]) (len := 34) (i := 4) (off := 97) (tgt := 115) C (by decide +kernel) hc4 (by decide) rfl (by decide) ?_
              refine zs_iload_n (pc := 115) (k := 3) (i := 3) C (by decide +kernel) rfl rfl ?_
              refine zs_jn (pJ := 126) (kJ := 0) (sJ := 0) (fun t16 => []) (fun t16 => [sI t16]) (fun t16 => ?_) (fun J17 hJ17 => ?_)
              · exact zs_retRi (pc := 126) C hr ⟨Nat.le_of_ble_eq_true rfl, Nat.le_of_ble_eq_true rfl⟩ (by decide +kernel)
              · refine zs_if_le (pc := 116) (off := 9) (tgt := 125) C (by decide +kernel) (by decide) ?_ ?_
                · refine zs_iconst (pc := 125) (n := (-1)) (x := (-1)) C (by decide +kernel) (by decide +kernel) ?_
                  exact zs_goj (hJ17 (-1)) trivial
                · refine zs_iload_n (pc := 119) (k := 1) (i := 1) C (by decide +kernel) rfl rfl ?_
                  refine zs_iconst (pc := 120) (n := 1) (x := 1) C (by decide +kernel) (by decide +kernel) ?_
                  refine zs_isub (pc := 121) C (by decide +kernel) ?_
                  refine zs_goto (pc := 122) (off := 4) (tgt := 126) C (by decide +kernel) (by decide) ?_
                  exact zs_goj (hJ17 (w32 (a0 - 1))) trivial
            · refine zs_tswD (pc := 18) (dflt := 109) (lo := 0) (hi := 4) (offs := #[34, 36, 55, 73, 97]) (len := 34) (tgt := 127) C (by decide +kernel) (by omega) (by decide) ?_
              refine zs_iconst (pc := 127) (n := (-1)) (x := (-1)) C (by decide +kernel) (by decide +kernel) ?_
              exact zs_retRi (pc := 128) C hr ⟨Nat.le_of_ble_eq_true rfl, Nat.le_of_ble_eq_true rfl⟩ (by decide +kernel)
  · refine zs_iconst (pc := 8) (n := (-1)) (x := (-1)) C (by decide +kernel) (by decide +kernel) ?_
    exact zs_retRi (pc := 9) C hr ⟨Nat.le_of_ble_eq_true rfl, Nat.le_of_ble_eq_true rfl⟩ (by decide +kernel)
set_option maxRecDepth 20000 in
theorem c_X3_isRock (l : Launch) (g : GC) (a0 : Int) : ConR l g yX3_isRock cX3_isRock 2 (some .boolean) (rmd 1 0 0) [sR 20, sI a0] (fun mm => fX3_isRock a0 mm) := by
  refine zs_ofR (by decide +kernel) (Nat.le_of_ble_eq_true rfl) ?_
  intro p e s m args below meth c C hr
  replace C : Bd g RX3 cX3_isRock 2 p s m args meth c := C
  unfold fX3_isRock
  refine zs_aload_n (pc := 0) (k := 0) (i := 0) C (by decide +kernel) rfl rfl ?_
  refine zs_getI (pc := 1) (i := 21) (ci := 3) (k := 3) C (by decide +kernel) fl_RX3_21 rfl rfl (fun x1 => ?_)
  refine zs_iload_n (pc := 4) (k := 1) (i := 1) C (by decide +kernel) rfl rfl ?_
  refine zs_iushr (pc := 5) C (by decide +kernel) ?_
  refine zs_iconst (pc := 6) (n := 1) (x := 1) C (by decide +kernel) (by decide +kernel) ?_
  refine zs_iand (pc := 7) C (by decide +kernel) ?_
  refine zs_jn (pJ := 16) (kJ := 0) (sJ := 0) (fun t2 => []) (fun t2 => [sI t2]) (fun t2 => ?_) (fun J3 hJ3 => ?_)
  · refine zs_chk (fun _ hx => ?_)
    exact zs_retRz (pc := 16) C hx hr ⟨Nat.le_of_ble_eq_true rfl, Nat.le_of_ble_eq_true rfl⟩ (by decide +kernel)
  · refine zs_if_eq (pc := 8) (off := 7) (tgt := 15) C (by decide +kernel) (by decide) ?_ ?_
    · refine zs_iconst (pc := 15) (n := 0) (x := 0) C (by decide +kernel) (by decide +kernel) ?_
      exact zs_goj (hJ3 0) trivial
    · refine zs_iconst (pc := 11) (n := 1) (x := 1) C (by decide +kernel) (by decide +kernel) ?_
      refine zs_goto (pc := 12) (off := 4) (tgt := 16) C (by decide +kernel) (by decide) ?_
      exact zs_goj (hJ3 1) trivial
set_option maxRecDepth 20000 in
theorem c_X5_rainIn (l : Launch) (g : GC) (a0 : Int) : ConR l g yX5_rainIn cX5_rainIn 2 (some .int) (rmd 1 0 0) [sR 27, sI a0] (fun mm => fX5_rainIn a0 mm) := by
  refine zs_ofR (by decide +kernel) (Nat.le_of_ble_eq_true rfl) ?_
  intro p e s m args below meth c C hr
  replace C : Bd g RX5 cX5_rainIn 2 p s m args meth c := C
  unfold fX5_rainIn
  refine zs_iload_n (pc := 0) (k := 1) (i := 1) C (by decide +kernel) rfl rfl ?_
  refine zs_aload_n (pc := 1) (k := 0) (i := 0) C (by decide +kernel) rfl rfl ?_
  refine zs_getI (pc := 2) (i := 18) (ci := 5) (k := 2) C (by decide +kernel) fl_RX5_18 rfl rfl (fun x1 => ?_)
  refine zs_jn (pJ := 16) (kJ := 0) (sJ := 0) (fun t2 => []) (fun t2 => [sI t2]) (fun t2 => ?_) (fun J3 hJ3 => ?_)
  · exact zs_retRi (pc := 16) C hr ⟨Nat.le_of_ble_eq_true rfl, Nat.le_of_ble_eq_true rfl⟩ (by decide +kernel)
  · refine zs_icmp_ge (pc := 5) (off := 10) (tgt := 15) C (by decide +kernel) (by decide) ?_ ?_
    · refine zs_iconst (pc := 15) (n := 0) (x := 0) C (by decide +kernel) (by decide +kernel) ?_
      exact zs_goj (hJ3 0) trivial
    · refine zs_aload_n (pc := 8) (k := 0) (i := 0) C (by decide +kernel) rfl rfl ?_
      refine zs_getI (pc := 9) (i := 15) (ci := 5) (k := 1) C (by decide +kernel) fl_RX5_15 rfl rfl (fun x4 => ?_)
      refine zs_goto (pc := 12) (off := 4) (tgt := 16) C (by decide +kernel) (by decide) ?_
      exact zs_goj (hJ3 x4) trivial
set_option maxRecDepth 20000 in
theorem c_X4_worth (l : Launch) (g : GC) (o : Nat) (h0 : layL[o]? = some (.inl 4)) : ConW l g yX4_worth cX4_worth 13 (some .long) (rmd 1 0 0) [sR o, sR 36, sR 37] (fun mm => fX4_worth o mm) := by
  refine zs_ofW (by decide +kernel) (Nat.le_of_ble_eq_true rfl) ?_
  intro p e s m args below meth c C hr
  replace C : Bd g RX4 cX4_worth 13 p s m args meth c := C
  unfold fX4_worth
  refine zs_iconst (pc := 0) (n := (-1)) (x := (-1)) C (by decide +kernel) (by decide +kernel) ?_
  refine zs_istore_n (pc := 1) (k := 3) (i := 3) (ls' := [(3, sI ((-1))), (0, sR o), (1, sR 36), (2, sR 37)]) C (by decide +kernel) rfl (Nat.le_of_ble_eq_true rfl) rfl ?_
  refine zs_iconst (pc := 2) (n := 0) (x := 0) C (by decide +kernel) (by decide +kernel) ?_
  refine zs_istore (pc := 3) (i := 4) (ls' := [(4, sI 0), (3, sI ((-1))), (0, sR o), (1, sR 36), (2, sR 37)]) C (by decide +kernel) (Nat.le_of_ble_eq_true rfl) rfl ?_
  refine zs_sub (ls' := [(0, sR o), (1, sR 36), (2, sR 37), (3, sI ((-1))), (4, sI 0)]) ⟨rfl, rfl, rfl, rfl, rfl, trivial⟩ ?_
  refine zs_lp (pc := 5) (fun (t1 : Int × Int) => [(0, sR o), (1, sR 36), (2, sR 37), (3, sI t1.1), (4, sI t1.2)]) (fun _ => []) (fun K2 hK2 t1 => ?_) BIG ((-1), 0)
  refine zs_iload (pc := 5) (i := 4) C (by decide +kernel) rfl ?_
  refine zs_aload_n (pc := 7) (k := 0) (i := 0) C (by decide +kernel) rfl rfl ?_
  refine zs_getI (pc := 8) (i := 15) (ci := 4) (k := 1) C (by decide +kernel) fl_RX4_15 h0 rfl (fun x3 => ?_)
  refine zs_icmp_ge (pc := 11) (off := 347) (tgt := 358) C (by decide +kernel) (by decide) ?_ ?_
  · refine zs_iload_n (pc := 358) (k := 3) (i := 3) C (by decide +kernel) rfl rfl ?_
    refine zs_jn (pJ := 369) (kJ := 0) (sJ := 0) (fun t4 => []) (fun t4 => [sL t4]) (fun t4 => ?_) (fun J5 hJ5 => ?_)
    · exact zs_retWl (pc := 369) C hr ⟨Nat.le_of_ble_eq_true rfl, Nat.le_of_ble_eq_true rfl⟩ (by decide +kernel)
    · refine zs_if_ge (pc := 359) (off := 7) (tgt := 366) C (by decide +kernel) (by decide) ?_ ?_
      · refine zs_aload_n (pc := 366) (k := 2) (i := 2) C (by decide +kernel) rfl rfl ?_
        refine zs_iconst (pc := 367) (n := 0) (x := 0) C (by decide +kernel) (by decide +kernel) ?_
        refine zs_laldk (pc := 368) (o := 37) (n := 64) C (by decide) (by decide +kernel) rfl (fun x6 => ?_)
        exact zs_goj (hJ5 x6) trivial
      · refine zs_lconst (pc := 362) (n := 0) (x := 0) C (by decide +kernel) (by decide +kernel) ?_
        refine zs_goto (pc := 363) (off := 6) (tgt := 369) C (by decide +kernel) (by decide) ?_
        exact zs_goj (hJ5 0) trivial
  · refine zs_aload_n (pc := 14) (k := 0) (i := 0) C (by decide +kernel) rfl rfl ?_
    refine zs_getR (o' := (o + 1)) (pc := 15) (i := 9) (ci := 4) (k := 0) C (by decide +kernel) fl_RX4_9 h0 rfl rfl ?_
    refine zs_iload (pc := 18) (i := 4) C (by decide +kernel) rfl ?_
    refine zs_iald (pc := 20) (o := (o + 1)) (n := 900) C (by decide +kernel) (ly_o_4_1 h0) (fun hinx7 x7 => ?_)
    refine zs_istore (pc := 21) (i := 5) (ls' := [(5, sI x7), (0, sR o), (1, sR 36), (2, sR 37), (3, sI t1.1), (4, sI t1.2)]) C (by decide +kernel) (Nat.le_of_ble_eq_true rfl) rfl ?_
    refine zs_iload (pc := 23) (i := 5) C (by decide +kernel) rfl ?_
    refine zs_sipush (pc := 25) (n := 128) (x := 128) C (by decide +kernel) (by decide +kernel) ?_
    refine zs_jn (pJ := 352) (kJ := 0) (sJ := 0) (fun t8 => [(0, sR o), (1, sR 36), (2, sR 37), (3, sI t8), (4, sI t1.2)]) (fun t8 => []) (fun t8 => ?_) (fun J9 hJ9 => ?_)
    · refine zs_iinc (pc := 352) (i := 4) (n := 1) (y := w32 (t1.2 + 1)) (ls' := [(4, sI (w32 (t1.2 + 1))), (0, sR o), (1, sR 36), (2, sR 37), (3, sI t8)]) C (by decide +kernel) rfl rfl (Nat.le_of_ble_eq_true rfl) rfl ?_
      refine zs_goto (pc := 355) (off := (-350)) (tgt := 5) C (by decide +kernel) (by decide) ?_
      exact zs_goj (hK2 (t8, w32 (t1.2 + 1))) ⟨rfl, rfl, rfl, rfl, rfl, trivial⟩
    · refine zs_jn (pJ := 47) (kJ := 0) (sJ := 0) (fun t10 => [(0, sR o), (1, sR 36), (2, sR 37), (3, sI t1.1), (4, sI t1.2), (5, sI x7)]) (fun t10 => []) (fun t10 => ?_) (fun J11 hJ11 => ?_)
      · refine zs_iload_n (pc := 47) (k := 3) (i := 3) C (by decide +kernel) rfl rfl ?_
        refine zs_bipush (pc := 48) (n := 63) (x := 63) C (by decide +kernel) (by decide +kernel) ?_
        refine zs_icmp_lt (pc := 50) (off := 5) (tgt := 55) C (by decide +kernel) (by decide) ?_ ?_
        · refine zs_iinc (pc := 55) (i := 3) (n := 1) (y := w32 (t1.1 + 1)) (ls' := [(3, sI (w32 (t1.1 + 1))), (0, sR o), (1, sR 36), (2, sR 37), (4, sI t1.2), (5, sI x7)]) C (by decide +kernel) rfl rfl (Nat.le_of_ble_eq_true rfl) rfl ?_
          refine zs_aload_n (pc := 58) (k := 2) (i := 2) C (by decide +kernel) rfl rfl ?_
          refine zs_iload_n (pc := 59) (k := 3) (i := 3) C (by decide +kernel) rfl rfl ?_
          refine zs_iload (pc := 60) (i := 5) C (by decide +kernel) rfl ?_
          refine zs_sipush (pc := 62) (n := 1000) (x := 1000) C (by decide +kernel) (by decide +kernel) ?_
          refine zs_jn (pJ := 87) (kJ := 0) (sJ := 0) (fun t12 => [(0, sR o), (1, sR 36), (2, sR 37), (3, sI (w32 (t1.1 + 1))), (4, sI t1.2)]) (fun t12 => [sL t12, sI (w32 (t1.1 + 1)), sR 37]) (fun t12 => ?_) (fun J13 hJ13 => ?_)
          · refine zs_last (pc := 87) (o := 37) (n := 64) C (fun _ _ _ => rfl) (by decide +kernel) rfl ?_
            refine zs_goto (pc := 88) (off := 264) (tgt := 352) C (by decide +kernel) (by decide) ?_
            exact zs_goj (hJ9 (w32 (t1.1 + 1))) ⟨rfl, rfl, rfl, rfl, rfl, trivial⟩
          · refine zs_icmp_lt (pc := 65) (off := 13) (tgt := 78) C (by decide +kernel) (by decide) ?_ ?_
            · refine zs_aload_n (pc := 78) (k := 1) (i := 1) C (by decide +kernel) rfl rfl ?_
              refine zs_iload (pc := 79) (i := 5) C (by decide +kernel) rfl ?_
              refine zs_sipush (pc := 81) (n := 128) (x := 128) C (by decide +kernel) (by decide +kernel) ?_
              refine zs_isub (pc := 84) C (by decide +kernel) ?_
              refine zs_iald (pc := 85) (o := 36) (n := 8) C (by decide +kernel) rfl (fun hinx14 x14 => ?_)
              refine zs_i2l (pc := 86) C (by decide +kernel) ?_
              exact zs_goj (hJ13 x14) ⟨rfl, rfl, rfl, rfl, rfl, trivial⟩
            · refine zs_iload (pc := 68) (i := 5) C (by decide +kernel) rfl ?_
              refine zs_sipush (pc := 70) (n := 1000) (x := 1000) C (by decide +kernel) (by decide +kernel) ?_
              refine zs_isub (pc := 73) C (by decide +kernel) ?_
              refine zs_i2l (pc := 74) C (by decide +kernel) ?_
              refine zs_goto (pc := 75) (off := 12) (tgt := 87) C (by decide +kernel) (by decide) ?_
              exact zs_goj (hJ13 (w32 (x7 - 1000))) ⟨rfl, rfl, rfl, rfl, rfl, trivial⟩
        · refine zs_lconst (pc := 53) (n := 0) (x := 0) C (by decide +kernel) (by decide +kernel) ?_
          exact zs_retWl (pc := 54) C hr ⟨Nat.le_of_ble_eq_true rfl, Nat.le_of_ble_eq_true rfl⟩ (by decide +kernel)
      · refine zs_jn (pJ := 39) (kJ := 0) (sJ := 0) (fun t15 => [(0, sR o), (1, sR 36), (2, sR 37), (3, sI t1.1), (4, sI t1.2), (5, sI x7)]) (fun t15 => []) (fun t15 => ?_) (fun J16 hJ16 => ?_)
        · refine zs_iload (pc := 39) (i := 5) C (by decide +kernel) rfl ?_
          refine zs_sipush (pc := 41) (n := 1000) (x := 1000) C (by decide +kernel) (by decide +kernel) ?_
          refine zs_icmp_lt (pc := 44) (off := 47) (tgt := 91) C (by decide +kernel) (by decide) ?_ ?_
          · refine zs_iload (pc := 91) (i := 5) C (by decide +kernel) rfl ?_
            refine zs_sipush (pc := 93) (n := 145) (x := 145) C (by decide +kernel) (by decide +kernel) ?_
            refine zs_jn (pJ := 106) (kJ := 0) (sJ := 0) (fun t17 => [(0, sR o), (1, sR 36), (2, sR 37), (3, sI t1.1), (4, sI t1.2), (5, sI x7)]) (fun t17 => [sI t17]) (fun t17 => ?_) (fun J18 hJ18 => ?_)
            · refine zs_istore (pc := 106) (i := 6) (ls' := [(6, sI t17), (0, sR o), (1, sR 36), (2, sR 37), (3, sI t1.1), (4, sI t1.2), (5, sI x7)]) C (by decide +kernel) (Nat.le_of_ble_eq_true rfl) rfl ?_
              refine zs_iload (pc := 108) (i := 6) C (by decide +kernel) rfl ?_
              refine zs_if_ge (pc := 110) (off := 5) (tgt := 115) C (by decide +kernel) (by decide) ?_ ?_
              · refine zs_aload_n (pc := 115) (k := 2) (i := 2) C (by decide +kernel) rfl rfl ?_
                refine zs_iload (pc := 116) (i := 6) C (by decide +kernel) rfl ?_
                refine zs_lald (pc := 118) (o := 37) (n := 64) C (by decide +kernel) rfl (fun hinx19 x19 => ?_)
                refine zs_lstore (pc := 119) (i := 7) (ls' := [(7, sL x19), (6, sI t17), (0, sR o), (1, sR 36), (2, sR 37), (3, sI t1.1), (4, sI t1.2), (5, sI x7)]) C (by decide +kernel) (Nat.le_of_ble_eq_true rfl) rfl ?_
                refine zs_aload_n (pc := 121) (k := 2) (i := 2) C (by decide +kernel) rfl rfl ?_
                refine zs_iload_n (pc := 122) (k := 3) (i := 3) C (by decide +kernel) rfl rfl ?_
                refine zs_lald (pc := 123) (o := 37) (n := 64) C (by decide +kernel) rfl (fun hinx20 x20 => ?_)
                refine zs_lstore (pc := 124) (i := 9) (ls' := [(9, sL x20), (7, sL x19), (6, sI t17), (0, sR o), (1, sR 36), (2, sR 37), (3, sI t1.1), (4, sI t1.2), (5, sI x7)]) C (by decide +kernel) (Nat.le_of_ble_eq_true rfl) rfl ?_
                refine zs_iload (pc := 126) (i := 5) C (by decide +kernel) rfl ?_
                refine zs_jn (pJ := 314) (kJ := 0) (sJ := 0) (fun t21 => [(0, sR o), (1, sR 36), (2, sR 37), (4, sI t1.2), (6, sI t17), (11, sL t21)]) (fun t21 => []) (fun t21 => ?_) (fun J22 hJ22 => ?_)
                · refine zs_iload (pc := 314) (i := 6) C (by decide +kernel) rfl ?_
                  refine zs_istore_n (pc := 316) (k := 3) (i := 3) (ls' := [(3, sI t17), (0, sR o), (1, sR 36), (2, sR 37), (4, sI t1.2), (6, sI t17), (11, sL t21)]) C (by decide +kernel) rfl (Nat.le_of_ble_eq_true rfl) rfl ?_
                  refine zs_aload_n (pc := 317) (k := 2) (i := 2) C (by decide +kernel) rfl rfl ?_
                  refine zs_iload_n (pc := 318) (k := 3) (i := 3) C (by decide +kernel) rfl rfl ?_
                  refine zs_lload (pc := 319) (i := 11) C (by decide +kernel) rfl ?_
                  refine zs_ldc2 (pc := 321) (i := 46) (v := 1000000) (x := 1000000) C (by decide +kernel) wf_683 (by decide +kernel) ?_
                  refine zs_jn (pJ := 351) (kJ := 0) (sJ := 0) (fun t23 => [(0, sR o), (1, sR 36), (2, sR 37), (3, sI t17), (4, sI t1.2)]) (fun t23 => [sL t23, sI t17, sR 37]) (fun t23 => ?_) (fun J24 hJ24 => ?_)
                  · refine zs_last (pc := 351) (o := 37) (n := 64) C (fun _ _ _ => rfl) (by decide +kernel) rfl ?_
                    exact zs_goj (hJ9 t17) ⟨rfl, rfl, rfl, rfl, rfl, trivial⟩
                  · refine zs_lcmp_le (pc := 324) (off := 9) (tgt := 334) C (by decide +kernel) (by decide +kernel) (by decide) ?_ ?_
                    · refine zs_lload (pc := 334) (i := 11) C (by decide +kernel) rfl ?_
                      refine zs_ldc2 (pc := 336) (i := 48) (v := (-1000000)) (x := (-1000000)) C (by decide +kernel) wf_684 (by decide +kernel) ?_
                      refine zs_lcmp_ge (pc := 339) (off := 9) (tgt := 349) C (by decide +kernel) (by decide +kernel) (by decide) ?_ ?_
                      · refine zs_lload (pc := 349) (i := 11) C (by decide +kernel) rfl ?_
                        exact zs_goj (hJ24 t21) ⟨rfl, rfl, rfl, rfl, rfl, trivial⟩
                      · refine zs_ldc2 (pc := 343) (i := 48) (v := (-1000000)) (x := (-1000000)) C (by decide +kernel) wf_684 (by decide +kernel) ?_
                        refine zs_goto (pc := 346) (off := 5) (tgt := 351) C (by decide +kernel) (by decide) ?_
                        exact zs_goj (hJ24 (-1000000)) ⟨rfl, rfl, rfl, rfl, rfl, trivial⟩
                    · refine zs_ldc2 (pc := 328) (i := 46) (v := 1000000) (x := 1000000) C (by decide +kernel) wf_683 (by decide +kernel) ?_
                      refine zs_goto (pc := 331) (off := 20) (tgt := 351) C (by decide +kernel) (by decide) ?_
                      exact zs_goj (hJ24 1000000) ⟨rfl, rfl, rfl, rfl, rfl, trivial⟩
                · refine zs_ite (fun hc0 => ?_) (fun hc0 => ?_)
                  · refine zs_lsw (pc := 128) (dflt := 179) (ps := #[(43, 159), (45, 169), (60, 123), (61, 105), (62, 141), (140, 85), (144, 95), (145, 76)]) (len := 76) (off := 159) (tgt := 287) C (by decide +kernel) (by decide +kernel) (by rw [hc0]; rfl) (by decide) ?_
                    refine zs_lload (pc := 287) (i := 7) C (by decide +kernel) rfl ?_
                    refine zs_lload (pc := 289) (i := 9) C (by decide +kernel) rfl ?_
                    refine zs_ladd (pc := 291) C (by decide +kernel) ?_
                    refine zs_letL (fun x25 => ?_)
                    refine zs_lstore (pc := 292) (i := 11) (ls' := [(11, sL x25), (9, sL x20), (7, sL x19), (6, sI t17), (0, sR o), (1, sR 36), (2, sR 37), (3, sI t1.1), (4, sI t1.2), (5, sI x7)]) C (by decide +kernel) (Nat.le_of_ble_eq_true rfl) rfl ?_
                    refine zs_goto (pc := 294) (off := 20) (tgt := 314) C (by decide +kernel) (by decide) ?_
                    exact zs_goj (hJ22 x25) ⟨rfl, rfl, rfl, rfl, rfl, rfl, trivial⟩
                  · refine zs_ite (fun hc1 => ?_) (fun hc1 => ?_)
                    · refine zs_lsw (pc := 128) (dflt := 179) (ps := #[(43, 159), (45, 169), (60, 123), (61, 105), (62, 141), (140, 85), (144, 95), (145, 76)]) (len := 76) (off := 169) (tgt := 297) C (by decide +kernel) (by decide +kernel) (by rw [hc1]; rfl) (by decide) ?_
                      refine zs_lload (pc := 297) (i := 7) C (by decide +kernel) rfl ?_
                      refine zs_lload (pc := 299) (i := 9) C (by decide +kernel) rfl ?_
                      refine zs_lsub (pc := 301) C (by decide +kernel) ?_
                      refine zs_letL (fun x26 => ?_)
                      refine zs_lstore (pc := 302) (i := 11) (ls' := [(11, sL x26), (9, sL x20), (7, sL x19), (6, sI t17), (0, sR o), (1, sR 36), (2, sR 37), (3, sI t1.1), (4, sI t1.2), (5, sI x7)]) C (by decide +kernel) (Nat.le_of_ble_eq_true rfl) rfl ?_
                      refine zs_goto (pc := 304) (off := 10) (tgt := 314) C (by decide +kernel) (by decide) ?_
                      exact zs_goj (hJ22 x26) ⟨rfl, rfl, rfl, rfl, rfl, rfl, trivial⟩
                    · refine zs_ite (fun hc2 => ?_) (fun hc2 => ?_)
                      · refine zs_lsw (pc := 128) (dflt := 179) (ps := #[(43, 159), (45, 169), (60, 123), (61, 105), (62, 141), (140, 85), (144, 95), (145, 76)]) (len := 76) (off := 123) (tgt := 251) C (by decide +kernel) (by decide +kernel) (by rw [hc2]; rfl) (by decide) ?_
                        refine zs_lload (pc := 251) (i := 7) C (by decide +kernel) rfl ?_
                        refine zs_lload (pc := 253) (i := 9) C (by decide +kernel) rfl ?_
                        refine zs_jn (pJ := 264) (kJ := 0) (sJ := 0) (fun t27 => [(0, sR o), (1, sR 36), (2, sR 37), (4, sI t1.2), (6, sI t17)]) (fun t27 => [sL t27]) (fun t27 => ?_) (fun J28 hJ28 => ?_)
                        · refine zs_lstore (pc := 264) (i := 11) (ls' := [(11, sL t27), (0, sR o), (1, sR 36), (2, sR 37), (4, sI t1.2), (6, sI t17)]) C (by decide +kernel) (Nat.le_of_ble_eq_true rfl) rfl ?_
                          refine zs_goto (pc := 266) (off := 48) (tgt := 314) C (by decide +kernel) (by decide) ?_
                          exact zs_goj (hJ22 t27) ⟨rfl, rfl, rfl, rfl, rfl, rfl, trivial⟩
                        · refine zs_lcmp_ge (pc := 255) (off := 7) (tgt := 263) C (by decide +kernel) (by decide +kernel) (by decide) ?_ ?_
                          · refine zs_lconst (pc := 263) (n := 0) (x := 0) C (by decide +kernel) (by decide +kernel) ?_
                            exact zs_goj (hJ28 0) ⟨rfl, rfl, rfl, rfl, rfl, trivial⟩
                          · refine zs_lconst (pc := 259) (n := 1) (x := 1) C (by decide +kernel) (by decide +kernel) ?_
                            refine zs_goto (pc := 260) (off := 4) (tgt := 264) C (by decide +kernel) (by decide) ?_
                            exact zs_goj (hJ28 1) ⟨rfl, rfl, rfl, rfl, rfl, trivial⟩
                      · refine zs_ite (fun hc3 => ?_) (fun hc3 => ?_)
                        · refine zs_lsw (pc := 128) (dflt := 179) (ps := #[(43, 159), (45, 169), (60, 123), (61, 105), (62, 141), (140, 85), (144, 95), (145, 76)]) (len := 76) (off := 105) (tgt := 233) C (by decide +kernel) (by decide +kernel) (by rw [hc3]; rfl) (by decide) ?_
                          refine zs_lload (pc := 233) (i := 7) C (by decide +kernel) rfl ?_
                          refine zs_lload (pc := 235) (i := 9) C (by decide +kernel) rfl ?_
                          refine zs_jn (pJ := 246) (kJ := 0) (sJ := 0) (fun t29 => [(0, sR o), (1, sR 36), (2, sR 37), (4, sI t1.2), (6, sI t17)]) (fun t29 => [sL t29]) (fun t29 => ?_) (fun J30 hJ30 => ?_)
                          · refine zs_lstore (pc := 246) (i := 11) (ls' := [(11, sL t29), (0, sR o), (1, sR 36), (2, sR 37), (4, sI t1.2), (6, sI t17)]) C (by decide +kernel) (Nat.le_of_ble_eq_true rfl) rfl ?_
                            refine zs_goto (pc := 248) (off := 66) (tgt := 314) C (by decide +kernel) (by decide) ?_
                            exact zs_goj (hJ22 t29) ⟨rfl, rfl, rfl, rfl, rfl, rfl, trivial⟩
                          · refine zs_lcmp_ne (pc := 237) (off := 7) (tgt := 245) C (by decide +kernel) (by decide +kernel) (by decide) ?_ ?_
                            · refine zs_lconst (pc := 245) (n := 0) (x := 0) C (by decide +kernel) (by decide +kernel) ?_
                              exact zs_goj (hJ30 0) ⟨rfl, rfl, rfl, rfl, rfl, trivial⟩
                            · refine zs_lconst (pc := 241) (n := 1) (x := 1) C (by decide +kernel) (by decide +kernel) ?_
                              refine zs_goto (pc := 242) (off := 4) (tgt := 246) C (by decide +kernel) (by decide) ?_
                              exact zs_goj (hJ30 1) ⟨rfl, rfl, rfl, rfl, rfl, trivial⟩
                        · refine zs_ite (fun hc4 => ?_) (fun hc4 => ?_)
                          · refine zs_lsw (pc := 128) (dflt := 179) (ps := #[(43, 159), (45, 169), (60, 123), (61, 105), (62, 141), (140, 85), (144, 95), (145, 76)]) (len := 76) (off := 141) (tgt := 269) C (by decide +kernel) (by decide +kernel) (by rw [hc4]; rfl) (by decide) ?_
                            refine zs_lload (pc := 269) (i := 7) C (by decide +kernel) rfl ?_
                            refine zs_lload (pc := 271) (i := 9) C (by decide +kernel) rfl ?_
                            refine zs_jn (pJ := 282) (kJ := 0) (sJ := 0) (fun t31 => [(0, sR o), (1, sR 36), (2, sR 37), (4, sI t1.2), (6, sI t17)]) (fun t31 => [sL t31]) (fun t31 => ?_) (fun J32 hJ32 => ?_)
                            · refine zs_lstore (pc := 282) (i := 11) (ls' := [(11, sL t31), (0, sR o), (1, sR 36), (2, sR 37), (4, sI t1.2), (6, sI t17)]) C (by decide +kernel) (Nat.le_of_ble_eq_true rfl) rfl ?_
                              refine zs_goto (pc := 284) (off := 30) (tgt := 314) C (by decide +kernel) (by decide) ?_
                              exact zs_goj (hJ22 t31) ⟨rfl, rfl, rfl, rfl, rfl, rfl, trivial⟩
                            · refine zs_lcmp_le (pc := 273) (off := 7) (tgt := 281) C (by decide +kernel) (by decide +kernel) (by decide) ?_ ?_
                              · refine zs_lconst (pc := 281) (n := 0) (x := 0) C (by decide +kernel) (by decide +kernel) ?_
                                exact zs_goj (hJ32 0) ⟨rfl, rfl, rfl, rfl, rfl, trivial⟩
                              · refine zs_lconst (pc := 277) (n := 1) (x := 1) C (by decide +kernel) (by decide +kernel) ?_
                                refine zs_goto (pc := 278) (off := 4) (tgt := 282) C (by decide +kernel) (by decide) ?_
                                exact zs_goj (hJ32 1) ⟨rfl, rfl, rfl, rfl, rfl, trivial⟩
                          · refine zs_ite (fun hc5 => ?_) (fun hc5 => ?_)
                            · refine zs_lsw (pc := 128) (dflt := 179) (ps := #[(43, 159), (45, 169), (60, 123), (61, 105), (62, 141), (140, 85), (144, 95), (145, 76)]) (len := 76) (off := 85) (tgt := 213) C (by decide +kernel) (by decide +kernel) (by rw [hc5]; rfl) (by decide) ?_
                              refine zs_lload (pc := 213) (i := 7) C (by decide +kernel) rfl ?_
                              refine zs_lload (pc := 215) (i := 9) C (by decide +kernel) rfl ?_
                              refine zs_land (pc := 217) C (by decide +kernel) ?_
                              refine zs_letL (fun x33 => ?_)
                              refine zs_lstore (pc := 218) (i := 11) (ls' := [(11, sL x33), (9, sL x20), (7, sL x19), (6, sI t17), (0, sR o), (1, sR 36), (2, sR 37), (3, sI t1.1), (4, sI t1.2), (5, sI x7)]) C (by decide +kernel) (Nat.le_of_ble_eq_true rfl) rfl ?_
                              refine zs_goto (pc := 220) (off := 94) (tgt := 314) C (by decide +kernel) (by decide) ?_
                              exact zs_goj (hJ22 x33) ⟨rfl, rfl, rfl, rfl, rfl, rfl, trivial⟩
                            · refine zs_ite (fun hc6 => ?_) (fun hc6 => ?_)
                              · refine zs_lsw (pc := 128) (dflt := 179) (ps := #[(43, 159), (45, 169), (60, 123), (61, 105), (62, 141), (140, 85), (144, 95), (145, 76)]) (len := 76) (off := 95) (tgt := 223) C (by decide +kernel) (by decide +kernel) (by rw [hc6]; rfl) (by decide) ?_
                                refine zs_lload (pc := 223) (i := 7) C (by decide +kernel) rfl ?_
                                refine zs_lload (pc := 225) (i := 9) C (by decide +kernel) rfl ?_
                                refine zs_lor (pc := 227) C (by decide +kernel) ?_
                                refine zs_letL (fun x34 => ?_)
                                refine zs_lstore (pc := 228) (i := 11) (ls' := [(11, sL x34), (9, sL x20), (7, sL x19), (6, sI t17), (0, sR o), (1, sR 36), (2, sR 37), (3, sI t1.1), (4, sI t1.2), (5, sI x7)]) C (by decide +kernel) (Nat.le_of_ble_eq_true rfl) rfl ?_
                                refine zs_goto (pc := 230) (off := 84) (tgt := 314) C (by decide +kernel) (by decide) ?_
                                exact zs_goj (hJ22 x34) ⟨rfl, rfl, rfl, rfl, rfl, rfl, trivial⟩
                              · refine zs_ite (fun hc7 => ?_) (fun hc7 => ?_)
                                · refine zs_lsw (pc := 128) (dflt := 179) (ps := #[(43, 159), (45, 169), (60, 123), (61, 105), (62, 141), (140, 85), (144, 95), (145, 76)]) (len := 76) (off := 76) (tgt := 204) C (by decide +kernel) (by decide +kernel) (by rw [hc7]; rfl) (by decide) ?_
                                  refine zs_lconst (pc := 204) (n := 1) (x := 1) C (by decide +kernel) (by decide +kernel) ?_
                                  refine zs_lload (pc := 205) (i := 7) C (by decide +kernel) rfl ?_
                                  refine zs_lsub (pc := 207) C (by decide +kernel) ?_
                                  refine zs_letL (fun x35 => ?_)
                                  refine zs_lstore (pc := 208) (i := 11) (ls' := [(11, sL x35), (9, sL x20), (7, sL x19), (6, sI t17), (0, sR o), (1, sR 36), (2, sR 37), (3, sI t1.1), (4, sI t1.2), (5, sI x7)]) C (by decide +kernel) (Nat.le_of_ble_eq_true rfl) rfl ?_
                                  refine zs_goto (pc := 210) (off := 104) (tgt := 314) C (by decide +kernel) (by decide) ?_
                                  exact zs_goj (hJ22 x35) ⟨rfl, rfl, rfl, rfl, rfl, rfl, trivial⟩
                                · refine zs_lsw (pc := 128) (dflt := 179) (ps := #[(43, 159), (45, 169), (60, 123), (61, 105), (62, 141), (140, 85), (144, 95), (145, 76)]) (len := 76) (off := 179) (tgt := 307) C (by decide +kernel) (by decide +kernel) (by simp [Op.lookupswitch.offset, hc0, Ne.symm hc0, hc1, Ne.symm hc1, hc2, Ne.symm hc2, hc3, Ne.symm hc3, hc4, Ne.symm hc4, hc5, Ne.symm hc5, hc6, Ne.symm hc6, hc7, Ne.symm hc7]) (by decide) ?_
                                  refine zs_lload (pc := 307) (i := 7) C (by decide +kernel) rfl ?_
                                  refine zs_lload (pc := 309) (i := 9) C (by decide +kernel) rfl ?_
                                  refine zs_lmul (pc := 311) C (by decide +kernel) ?_
                                  refine zs_letL (fun x36 => ?_)
                                  refine zs_lstore (pc := 312) (i := 11) (ls' := [(11, sL x36), (9, sL x20), (7, sL x19), (6, sI t17), (0, sR o), (1, sR 36), (2, sR 37), (3, sI t1.1), (4, sI t1.2), (5, sI x7)]) C (by decide +kernel) (Nat.le_of_ble_eq_true rfl) rfl ?_
                                  exact zs_goj (hJ22 x36) ⟨rfl, rfl, rfl, rfl, rfl, rfl, trivial⟩
              · refine zs_lconst (pc := 113) (n := 0) (x := 0) C (by decide +kernel) (by decide +kernel) ?_
                exact zs_retWl (pc := 114) C hr ⟨Nat.le_of_ble_eq_true rfl, Nat.le_of_ble_eq_true rfl⟩ (by decide +kernel)
            · refine zs_icmp_ne (pc := 96) (off := 7) (tgt := 103) C (by decide +kernel) (by decide) ?_ ?_
              · refine zs_iload_n (pc := 103) (k := 3) (i := 3) C (by decide +kernel) rfl rfl ?_
                refine zs_iconst (pc := 104) (n := 1) (x := 1) C (by decide +kernel) (by decide +kernel) ?_
                refine zs_isub (pc := 105) C (by decide +kernel) ?_
                exact zs_goj (hJ18 (w32 (t1.1 - 1))) ⟨rfl, rfl, rfl, rfl, rfl, rfl, trivial⟩
              · refine zs_iload_n (pc := 99) (k := 3) (i := 3) C (by decide +kernel) rfl rfl ?_
                refine zs_goto (pc := 100) (off := 6) (tgt := 106) C (by decide +kernel) (by decide) ?_
                exact zs_goj (hJ18 t1.1) ⟨rfl, rfl, rfl, rfl, rfl, rfl, trivial⟩
          · exact zs_goj (hJ11 ()) ⟨rfl, rfl, rfl, rfl, rfl, rfl, trivial⟩
        · refine zs_icmp_lt (pc := 28) (off := 11) (tgt := 39) C (by decide +kernel) (by decide) ?_ ?_
          · exact zs_goj (hJ16 ()) ⟨rfl, rfl, rfl, rfl, rfl, rfl, trivial⟩
          · refine zs_iload (pc := 31) (i := 5) C (by decide +kernel) rfl ?_
            refine zs_sipush (pc := 33) (n := 135) (x := 135) C (by decide +kernel) (by decide +kernel) ?_
            refine zs_icmp_le (pc := 36) (off := 11) (tgt := 47) C (by decide +kernel) (by decide) ?_ ?_
            · exact zs_goj (hJ11 ()) ⟨rfl, rfl, rfl, rfl, rfl, rfl, trivial⟩
            · exact zs_goj (hJ16 ()) ⟨rfl, rfl, rfl, rfl, rfl, rfl, trivial⟩
set_option maxRecDepth 20000 in
theorem c_X10_lawBits (l : Launch) (g : GC) (a0 : Int) (a1 : Int) (a2 : Int) (a3 : Int) (a4 : Int) : ConW l g yX10_lawBits cX10_lawBits 9 (some .int) (rmd 2 0 0) [sR 19, sI a0, sI a1, sI a2, sI a3, sI a4] (fun mm => fX10_lawBits a0 a1 a2 a3 a4 mm) := by
  refine zs_ofW (by decide +kernel) (Nat.le_of_ble_eq_true rfl) ?_
  intro p e s m args below meth c C hr
  replace C : Bd g RX10 cX10_lawBits 9 p s m args meth c := C
  unfold fX10_lawBits
  refine zs_aload_n (pc := 0) (k := 0) (i := 0) C (by decide +kernel) rfl rfl ?_
  refine zs_getR (o' := 20) (pc := 1) (i := 12) (ci := 10) (k := 0) C (by decide +kernel) fl_RX10_12 rfl rfl rfl ?_
  refine zs_getI (pc := 4) (i := 110) (ci := 3) (k := 1) C (by decide +kernel) fl_RX10_110 rfl rfl (fun x1 => ?_)
  refine zs_istore (pc := 7) (i := 6) (ls' := [(6, sI x1), (0, sR 19), (1, sI a0), (2, sI a1), (3, sI a2), (4, sI a3), (5, sI a4)]) C (by decide +kernel) (Nat.le_of_ble_eq_true rfl) rfl ?_
  refine zs_iconst (pc := 9) (n := 0) (x := 0) C (by decide +kernel) (by decide +kernel) ?_
  refine zs_istore (pc := 10) (i := 7) (ls' := [(7, sI 0), (6, sI x1), (0, sR 19), (1, sI a0), (2, sI a1), (3, sI a2), (4, sI a3), (5, sI a4)]) C (by decide +kernel) (Nat.le_of_ble_eq_true rfl) rfl ?_
  refine zs_aload_n (pc := 12) (k := 0) (i := 0) C (by decide +kernel) rfl rfl ?_
  refine zs_getR (o' := 36) (pc := 13) (i := 42) (ci := 10) (k := 7) C (by decide +kernel) fl_RX10_42 rfl rfl rfl ?_
  refine zs_bipush (pc := 16) (n := 7) (x := 7) C (by decide +kernel) (by decide +kernel) ?_
  refine zs_iload_n (pc := 18) (k := 2) (i := 2) C (by decide +kernel) rfl rfl ?_
  refine zs_iastk (pc := 19) (o := 36) (n := 8) C (by decide) (fun _ _ _ => rfl) (by decide +kernel) rfl ?_
  refine zs_aload_n (pc := 20) (k := 0) (i := 0) C (by decide +kernel) rfl rfl ?_
  refine zs_getR (o' := 36) (pc := 21) (i := 42) (ci := 10) (k := 7) C (by decide +kernel) fl_RX10_42 rfl rfl rfl ?_
  refine zs_iconst (pc := 24) (n := 4) (x := 4) C (by decide +kernel) (by decide +kernel) ?_
  refine zs_iload_n (pc := 25) (k := 1) (i := 1) C (by decide +kernel) rfl rfl ?_
  refine zs_iastk (pc := 26) (o := 36) (n := 8) C (by decide) (fun _ _ _ => rfl) (by decide +kernel) rfl ?_
  refine zs_aload_n (pc := 27) (k := 0) (i := 0) C (by decide +kernel) rfl rfl ?_
  refine zs_getR (o' := 36) (pc := 28) (i := 42) (ci := 10) (k := 7) C (by decide +kernel) fl_RX10_42 rfl rfl rfl ?_
  refine zs_iconst (pc := 31) (n := 2) (x := 2) C (by decide +kernel) (by decide +kernel) ?_
  refine zs_aload_n (pc := 32) (k := 0) (i := 0) C (by decide +kernel) rfl rfl ?_
  refine zs_getR (o' := 27) (pc := 33) (i := 21) (ci := 10) (k := 1) C (by decide +kernel) fl_RX10_21 rfl rfl rfl ?_
  refine zs_iload_n (pc := 36) (k := 3) (i := 3) C (by decide +kernel) rfl rfl ?_
  refine zs_cvRi (pc := 37) (As := [sI a2]) (st := [sI 2, sR 36]) C (Or.inl rfl) (c_X5_rainIn l g a2) ml_RX10_100 rfl rfl rfl rfl (Nat.le_of_ble_eq_true rfl) ⟨Nat.le_of_ble_eq_true rfl, Nat.le_of_ble_eq_true rfl⟩ ⟨Nat.le_of_ble_eq_true rfl, Nat.le_of_ble_eq_true rfl⟩ (by decide +kernel) (fun x2 => ?_)
  refine zs_iastk (pc := 40) (o := 36) (n := 8) C (by decide) (fun _ _ _ => rfl) (by decide +kernel) rfl ?_
  refine zs_aload_n (pc := 41) (k := 0) (i := 0) C (by decide +kernel) rfl rfl ?_
  refine zs_getR (o' := 36) (pc := 42) (i := 42) (ci := 10) (k := 7) C (by decide +kernel) fl_RX10_42 rfl rfl rfl ?_
  refine zs_iconst (pc := 45) (n := 3) (x := 3) C (by decide +kernel) (by decide +kernel) ?_
  refine zs_iload_n (pc := 46) (k := 3) (i := 3) C (by decide +kernel) rfl rfl ?_
  refine zs_bipush (pc := 47) (n := 24) (x := 24) C (by decide +kernel) (by decide +kernel) ?_
  refine zs_irem (pc := 49) C (by decide +kernel) (by decide +kernel) ?_
  refine zs_iastk (pc := 50) (o := 36) (n := 8) C (by decide) (fun _ _ _ => rfl) (by decide +kernel) rfl ?_
  refine zs_iload (pc := 51) (i := 4) C (by decide +kernel) rfl ?_
  refine zs_istore (pc := 53) (i := 8) (ls' := [(8, sI a3), (7, sI 0), (6, sI x1), (0, sR 19), (1, sI a0), (2, sI a1), (3, sI a2), (4, sI a3), (5, sI a4)]) C (by decide +kernel) (Nat.le_of_ble_eq_true rfl) rfl ?_
  refine zs_sub (ls' := [(0, sR 19), (5, sI a4), (6, sI x1), (7, sI 0), (8, sI a3)]) ⟨rfl, rfl, rfl, rfl, rfl, trivial⟩ ?_
  refine zs_lp (pc := 55) (fun (t3 : Int × Int) => [(0, sR 19), (5, sI a4), (6, sI x1), (7, sI t3.1), (8, sI t3.2)]) (fun _ => []) (fun K4 hK4 t3 => ?_) BIG (0, a3)
  refine zs_iload (pc := 55) (i := 8) C (by decide +kernel) rfl ?_
  refine zs_iload (pc := 57) (i := 5) C (by decide +kernel) rfl ?_
  refine zs_jn (pJ := 141) (kJ := 0) (sJ := 0) (fun t5 => [(7, sI t3.1)]) (fun t5 => []) (fun t5 => ?_) (fun J6 hJ6 => ?_)
  · refine zs_iload (pc := 141) (i := 7) C (by decide +kernel) rfl ?_
    exact zs_retWi (pc := 143) C hr ⟨Nat.le_of_ble_eq_true rfl, Nat.le_of_ble_eq_true rfl⟩ (by decide +kernel)
  · refine zs_icmp_ge (pc := 59) (off := 82) (tgt := 141) C (by decide +kernel) (by decide) ?_ ?_
    · exact zs_goj (hJ6 ()) ⟨rfl, trivial⟩
    · refine zs_iload (pc := 62) (i := 6) C (by decide +kernel) rfl ?_
      refine zs_if_le (pc := 64) (off := 77) (tgt := 141) C (by decide +kernel) (by decide) ?_ ?_
      · exact zs_goj (hJ6 ()) ⟨rfl, trivial⟩
      · refine zs_aload_n (pc := 67) (k := 0) (i := 0) C (by decide +kernel) rfl rfl ?_
        refine zs_getR (o' := 36) (pc := 68) (i := 42) (ci := 10) (k := 7) C (by decide +kernel) fl_RX10_42 rfl rfl rfl ?_
        refine zs_iconst (pc := 71) (n := 5) (x := 5) C (by decide +kernel) (by decide +kernel) ?_
        refine zs_iload (pc := 72) (i := 8) C (by decide +kernel) rfl ?_
        refine zs_iload (pc := 74) (i := 6) C (by decide +kernel) rfl ?_
        refine zs_chk (fun _ hy => ?_)
        refine zs_irem (pc := 76) C hy (by decide +kernel) ?_
        refine zs_iastk (pc := 77) (o := 36) (n := 8) C (by decide) (fun _ _ _ => rfl) (by decide +kernel) rfl ?_
        refine zs_aload_n (pc := 78) (k := 0) (i := 0) C (by decide +kernel) rfl rfl ?_
        refine zs_getR (o' := 36) (pc := 79) (i := 42) (ci := 10) (k := 7) C (by decide +kernel) fl_RX10_42 rfl rfl rfl ?_
        refine zs_bipush (pc := 82) (n := 6) (x := 6) C (by decide +kernel) (by decide +kernel) ?_
        refine zs_iload (pc := 84) (i := 8) C (by decide +kernel) rfl ?_
        refine zs_iload (pc := 86) (i := 6) C (by decide +kernel) rfl ?_
        refine zs_chk (fun _ hy => ?_)
        refine zs_idiv (pc := 88) C hy (by decide +kernel) ?_
        refine zs_iastk (pc := 89) (o := 36) (n := 8) C (by decide) (fun _ _ _ => rfl) (by decide +kernel) rfl ?_
        refine zs_aload_n (pc := 90) (k := 0) (i := 0) C (by decide +kernel) rfl rfl ?_
        refine zs_getR (o' := 20) (pc := 91) (i := 12) (ci := 10) (k := 0) C (by decide +kernel) fl_RX10_12 rfl rfl rfl ?_
        refine zs_getR (o' := 25) (pc := 94) (i := 113) (ci := 3) (k := 9) C (by decide +kernel) fl_RX10_113 rfl rfl rfl ?_
        refine zs_getI (pc := 97) (i := 88) (ci := 4) (k := 4) C (by decide +kernel) fl_RX10_88 rfl rfl (fun x7 => ?_)
        refine zs_jn (pJ := 135) (kJ := 0) (sJ := 0) (fun t8 => [(0, sR 19), (5, sI a4), (6, sI x1), (7, sI t8), (8, sI t3.2)]) (fun t8 => []) (fun t8 => ?_) (fun J9 hJ9 => ?_)
        · refine zs_iinc (pc := 135) (i := 8) (n := 1) (y := w32 (t3.2 + 1)) (ls' := [(8, sI (w32 (t3.2 + 1))), (0, sR 19), (5, sI a4), (6, sI x1), (7, sI t8)]) C (by decide +kernel) rfl rfl (Nat.le_of_ble_eq_true rfl) rfl ?_
          refine zs_goto (pc := 138) (off := (-83)) (tgt := 55) C (by decide +kernel) (by decide) ?_
          exact zs_goj (hK4 (t8, w32 (t3.2 + 1))) ⟨rfl, rfl, rfl, rfl, rfl, trivial⟩
        · refine zs_jn (pJ := 126) (kJ := 0) (sJ := 0) (fun t10 => [(0, sR 19), (5, sI a4), (6, sI x1), (7, sI t3.1), (8, sI t3.2)]) (fun t10 => []) (fun t10 => ?_) (fun J11 hJ11 => ?_)
          · refine zs_iload (pc := 126) (i := 7) C (by decide +kernel) rfl ?_
            refine zs_iconst (pc := 128) (n := 1) (x := 1) C (by decide +kernel) (by decide +kernel) ?_
            refine zs_iload (pc := 129) (i := 8) C (by decide +kernel) rfl ?_
            refine zs_ishl (pc := 131) C (by decide +kernel) ?_
            refine zs_ior (pc := 132) C (by decide +kernel) ?_
            refine zs_let (fun x12 => ?_)
            refine zs_istore (pc := 133) (i := 7) (ls' := [(7, sI x12), (0, sR 19), (5, sI a4), (6, sI x1), (8, sI t3.2)]) C (by decide +kernel) (Nat.le_of_ble_eq_true rfl) rfl ?_
            exact zs_goj (hJ9 x12) ⟨rfl, rfl, rfl, rfl, rfl, trivial⟩
          · refine zs_if_eq (pc := 100) (off := 26) (tgt := 126) C (by decide +kernel) (by decide) ?_ ?_
            · exact zs_goj (hJ11 ()) ⟨rfl, rfl, rfl, rfl, rfl, trivial⟩
            · refine zs_aload_n (pc := 103) (k := 0) (i := 0) C (by decide +kernel) rfl rfl ?_
              refine zs_getR (o' := 20) (pc := 104) (i := 12) (ci := 10) (k := 0) C (by decide +kernel) fl_RX10_12 rfl rfl rfl ?_
              refine zs_getR (o' := 25) (pc := 107) (i := 113) (ci := 3) (k := 9) C (by decide +kernel) fl_RX10_113 rfl rfl rfl ?_
              refine zs_aload_n (pc := 110) (k := 0) (i := 0) C (by decide +kernel) rfl rfl ?_
              refine zs_getR (o' := 36) (pc := 111) (i := 42) (ci := 10) (k := 7) C (by decide +kernel) fl_RX10_42 rfl rfl rfl ?_
              refine zs_aload_n (pc := 114) (k := 0) (i := 0) C (by decide +kernel) rfl rfl ?_
              refine zs_getR (o' := 37) (pc := 115) (i := 48) (ci := 10) (k := 8) C (by decide +kernel) fl_RX10_48 rfl rfl rfl ?_
              refine zs_cvWl (pc := 118) (As := [sR 36, sR 37]) (st := []) C (fun _ _ _ => rfl) (c_X4_worth l g 25 rfl) ml_RX10_104 rfl rfl rfl rfl (Nat.le_of_ble_eq_true rfl) ⟨Nat.le_of_ble_eq_true rfl, Nat.le_of_ble_eq_true rfl⟩ ⟨Nat.le_of_ble_eq_true rfl, Nat.le_of_ble_eq_true rfl⟩ (by decide +kernel) (fun x13 => ?_)
              refine zs_lconst (pc := 121) (n := 0) (x := 0) C (by decide +kernel) (by decide +kernel) ?_
              refine zs_lcmp_eq (pc := 122) (off := 12) (tgt := 135) C (by decide +kernel) (by decide +kernel) (by decide) ?_ ?_
              · exact zs_goj (hJ9 t3.1) ⟨rfl, rfl, rfl, rfl, rfl, trivial⟩
              · exact zs_goj (hJ11 ()) ⟨rfl, rfl, rfl, rfl, rfl, trivial⟩
set_option maxRecDepth 20000 in
theorem c_X10_turned (l : Launch) (g : GC) (a0 : Int) (a1 : Int) (a2 : Int) : ConW l g yX10_turned cX10_turned 7 (some .int) (rmd 3 0 0) [sR 19, sI a0, sI a1, sI a2] (fun mm => fX10_turned a0 a1 a2 mm) := by
  refine zs_ofW (by decide +kernel) (Nat.le_of_ble_eq_true rfl) ?_
  intro p e s m args below meth c C hr
  replace C : Bd g RX10 cX10_turned 7 p s m args meth c := C
  unfold fX10_turned
  refine zs_iload_n (pc := 0) (k := 2) (i := 2) C (by decide +kernel) rfl rfl ?_
  refine zs_jn (pJ := 25) (kJ := 0) (sJ := 0) (fun t1 => [(0, sR 19), (1, sI a0), (2, sI a1), (3, sI a2)]) (fun t1 => [sI t1]) (fun t1 => ?_) (fun J2 hJ2 => ?_)
  · refine zs_istore (pc := 25) (i := 4) (ls' := [(4, sI t1), (0, sR 19), (1, sI a0), (2, sI a1), (3, sI a2)]) C (by decide +kernel) (Nat.le_of_ble_eq_true rfl) rfl ?_
    refine zs_aload_n (pc := 27) (k := 0) (i := 0) C (by decide +kernel) rfl rfl ?_
    refine zs_getR (o' := 20) (pc := 28) (i := 12) (ci := 10) (k := 0) C (by decide +kernel) fl_RX10_12 rfl rfl rfl ?_
    refine zs_iload (pc := 31) (i := 4) C (by decide +kernel) rfl ?_
    refine zs_iload_n (pc := 33) (k := 3) (i := 3) C (by decide +kernel) rfl rfl ?_
    refine zs_cvRi (pc := 34) (As := [sI t1, sI a2]) (st := []) C (Or.inl rfl) (c_X3_beside l g t1 a2) ml_RX10_132 rfl rfl rfl rfl (Nat.le_of_ble_eq_true rfl) ⟨Nat.le_of_ble_eq_true rfl, Nat.le_of_ble_eq_true rfl⟩ ⟨Nat.le_of_ble_eq_true rfl, Nat.le_of_ble_eq_true rfl⟩ (by decide +kernel) (fun x3 => ?_)
    refine zs_istore (pc := 37) (i := 5) (ls' := [(5, sI x3), (4, sI t1), (0, sR 19), (1, sI a0), (2, sI a1), (3, sI a2)]) C (by decide +kernel) (Nat.le_of_ble_eq_true rfl) rfl ?_
    refine zs_iload_n (pc := 39) (k := 3) (i := 3) C (by decide +kernel) rfl rfl ?_
    refine zs_jn (pJ := 49) (kJ := 0) (sJ := 0) (fun t4 => [(5, sI x3)]) (fun t4 => []) (fun t4 => ?_) (fun J5 hJ5 => ?_)
    · refine zs_iload (pc := 49) (i := 5) C (by decide +kernel) rfl ?_
      exact zs_retWi (pc := 51) C hr ⟨Nat.le_of_ble_eq_true rfl, Nat.le_of_ble_eq_true rfl⟩ (by decide +kernel)
    · refine zs_if_eq (pc := 40) (off := 9) (tgt := 49) C (by decide +kernel) (by decide) ?_ ?_
      · exact zs_goj (hJ5 ()) ⟨rfl, trivial⟩
      · refine zs_iload (pc := 43) (i := 5) C (by decide +kernel) rfl ?_
        refine zs_iconst (pc := 45) (n := (-1)) (x := (-1)) C (by decide +kernel) (by decide +kernel) ?_
        refine zs_icmp_ne (pc := 46) (off := 6) (tgt := 52) C (by decide +kernel) (by decide) ?_ ?_
        · refine zs_aload_n (pc := 52) (k := 0) (i := 0) C (by decide +kernel) rfl rfl ?_
          refine zs_getR (o' := 20) (pc := 53) (i := 12) (ci := 10) (k := 0) C (by decide +kernel) fl_RX10_12 rfl rfl rfl ?_
          refine zs_iload (pc := 56) (i := 5) C (by decide +kernel) rfl ?_
          refine zs_cvRi (pc := 58) (As := [sI x3]) (st := []) C (Or.inr rfl) (c_X3_isRock l g x3) ml_RX10_135 rfl rfl rfl rfl (Nat.le_of_ble_eq_true rfl) ⟨Nat.le_of_ble_eq_true rfl, Nat.le_of_ble_eq_true rfl⟩ ⟨Nat.le_of_ble_eq_true rfl, Nat.le_of_ble_eq_true rfl⟩ (by decide +kernel) (fun x6 => ?_)
          refine zs_jn (pJ := 93) (kJ := 0) (sJ := 0) (fun t7 => [(5, sI x3)]) (fun t7 => [sI t7]) (fun t7 => ?_) (fun J8 hJ8 => ?_)
          · refine zs_istore (pc := 93) (i := 6) (ls' := [(6, sI t7), (5, sI x3)]) C (by decide +kernel) (Nat.le_of_ble_eq_true rfl) rfl ?_
            refine zs_iload (pc := 95) (i := 6) C (by decide +kernel) rfl ?_
            refine zs_jn (pJ := 106) (kJ := 0) (sJ := 0) (fun t9 => []) (fun t9 => [sI t9]) (fun t9 => ?_) (fun J10 hJ10 => ?_)
            · exact zs_retWi (pc := 106) C hr ⟨Nat.le_of_ble_eq_true rfl, Nat.le_of_ble_eq_true rfl⟩ (by decide +kernel)
            · refine zs_if_eq (pc := 97) (off := 8) (tgt := 105) C (by decide +kernel) (by decide) ?_ ?_
              · refine zs_iconst (pc := 105) (n := (-1)) (x := (-1)) C (by decide +kernel) (by decide +kernel) ?_
                exact zs_goj (hJ10 (-1)) trivial
              · refine zs_iload (pc := 100) (i := 5) C (by decide +kernel) rfl ?_
                refine zs_goto (pc := 102) (off := 4) (tgt := 106) C (by decide +kernel) (by decide) ?_
                exact zs_goj (hJ10 x3) trivial
          · refine zs_jn (pJ := 92) (kJ := 0) (sJ := 0) (fun t11 => [(5, sI x3)]) (fun t11 => []) (fun t11 => ?_) (fun J12 hJ12 => ?_)
            · refine zs_iconst (pc := 92) (n := 0) (x := 0) C (by decide +kernel) (by decide +kernel) ?_
              exact zs_goj (hJ8 0) ⟨rfl, trivial⟩
            · refine zs_if_ne (pc := 61) (off := 31) (tgt := 92) C (by decide +kernel) (by decide) ?_ ?_
              · exact zs_goj (hJ12 ()) ⟨rfl, trivial⟩
              · refine zs_aload_n (pc := 64) (k := 0) (i := 0) C (by decide +kernel) rfl rfl ?_
                refine zs_iload_n (pc := 65) (k := 1) (i := 1) C (by decide +kernel) rfl rfl ?_
                refine zs_iload_n (pc := 66) (k := 2) (i := 2) C (by decide +kernel) rfl rfl ?_
                refine zs_aload_n (pc := 67) (k := 0) (i := 0) C (by decide +kernel) rfl rfl ?_
                refine zs_getR (o' := 27) (pc := 68) (i := 21) (ci := 10) (k := 1) C (by decide +kernel) fl_RX10_21 rfl rfl rfl ?_
                refine zs_getI (pc := 71) (i := 122) (ci := 5) (k := 0) C (by decide +kernel) fl_RX10_122 rfl rfl (fun x13 => ?_)
                refine zs_iconst (pc := 74) (n := 1) (x := 1) C (by decide +kernel) (by decide +kernel) ?_
                refine zs_iadd (pc := 75) C (by decide +kernel) ?_
                refine zs_iload (pc := 76) (i := 5) C (by decide +kernel) rfl ?_
                refine zs_iload (pc := 78) (i := 5) C (by decide +kernel) rfl ?_
                refine zs_iconst (pc := 80) (n := 1) (x := 1) C (by decide +kernel) (by decide +kernel) ?_
                refine zs_iadd (pc := 81) C (by decide +kernel) ?_
                refine zs_cvWi (pc := 82) (As := [sI a0, sI a1, sI (w32 (x13 + 1)), sI x3, sI (w32 (x3 + 1))]) (st := []) C (fun _ _ _ => rfl) (Or.inl rfl) (c_X10_lawBits l g a0 a1 (w32 (x13 + 1)) x3 (w32 (x3 + 1))) ml_RX10_138 rfl rfl rfl rfl (Nat.le_of_ble_eq_true rfl) ⟨Nat.le_of_ble_eq_true rfl, Nat.le_of_ble_eq_true rfl⟩ ⟨Nat.le_of_ble_eq_true rfl, Nat.le_of_ble_eq_true rfl⟩ (by decide +kernel) (fun x14 => ?_)
                refine zs_if_eq (pc := 85) (off := 7) (tgt := 92) C (by decide +kernel) (by decide) ?_ ?_
                · exact zs_goj (hJ12 ()) ⟨rfl, trivial⟩
                · refine zs_iconst (pc := 88) (n := 1) (x := 1) C (by decide +kernel) (by decide +kernel) ?_
                  refine zs_goto (pc := 89) (off := 4) (tgt := 93) C (by decide +kernel) (by decide) ?_
                  exact zs_goj (hJ8 1) ⟨rfl, trivial⟩
        · exact zs_goj (hJ5 ()) ⟨rfl, trivial⟩
  · refine zs_if_ne (pc := 1) (off := 15) (tgt := 16) C (by decide +kernel) (by decide) ?_ ?_
    · refine zs_aload_n (pc := 16) (k := 0) (i := 0) C (by decide +kernel) rfl rfl ?_
      refine zs_getR (o' := 27) (pc := 17) (i := 21) (ci := 10) (k := 1) C (by decide +kernel) fl_RX10_21 rfl rfl rfl ?_
      refine zs_getR (o' := 29) (pc := 20) (i := 71) (ci := 5) (k := 5) C (by decide +kernel) fl_RX10_71 rfl rfl rfl ?_
      refine zs_iload_n (pc := 23) (k := 1) (i := 1) C (by decide +kernel) rfl rfl ?_
      refine zs_iald (pc := 24) (o := 29) (n := 4) C (by decide +kernel) rfl (fun hinx15 x15 => ?_)
      exact zs_goj (hJ2 x15) ⟨rfl, rfl, rfl, rfl, trivial⟩
    · refine zs_aload_n (pc := 4) (k := 0) (i := 0) C (by decide +kernel) rfl rfl ?_
      refine zs_getR (o' := 27) (pc := 5) (i := 21) (ci := 10) (k := 1) C (by decide +kernel) fl_RX10_21 rfl rfl rfl ?_
      refine zs_getR (o' := 28) (pc := 8) (i := 68) (ci := 5) (k := 4) C (by decide +kernel) fl_RX10_68 rfl rfl rfl ?_
      refine zs_iload_n (pc := 11) (k := 1) (i := 1) C (by decide +kernel) rfl rfl ?_
      refine zs_iald (pc := 12) (o := 28) (n := 4) C (by decide +kernel) rfl (fun hinx16 x16 => ?_)
      refine zs_goto (pc := 13) (off := 12) (tgt := 25) C (by decide +kernel) (by decide) ?_
      exact zs_goj (hJ2 x16) ⟨rfl, rfl, rfl, rfl, trivial⟩
set_option maxRecDepth 20000 in
theorem c_X5_isParted (l : Launch) (g : GC) (a0 : Int) : ConR l g yX5_isParted cX5_isParted 2 (some .boolean) (rmd 1 0 0) [sR 27, sI a0] (fun mm => fX5_isParted a0 mm) := by
  refine zs_ofR (by decide +kernel) (Nat.le_of_ble_eq_true rfl) ?_
  intro p e s m args below meth c C hr
  replace C : Bd g RX5 cX5_isParted 2 p s m args meth c := C
  unfold fX5_isParted
  refine zs_aload_n (pc := 0) (k := 0) (i := 0) C (by decide +kernel) rfl rfl ?_
  refine zs_getI (pc := 1) (i := 21) (ci := 5) (k := 3) C (by decide +kernel) fl_RX5_21 rfl rfl (fun x1 => ?_)
  refine zs_iload_n (pc := 4) (k := 1) (i := 1) C (by decide +kernel) rfl rfl ?_
  refine zs_iushr (pc := 5) C (by decide +kernel) ?_
  refine zs_iconst (pc := 6) (n := 1) (x := 1) C (by decide +kernel) (by decide +kernel) ?_
  refine zs_iand (pc := 7) C (by decide +kernel) ?_
  refine zs_jn (pJ := 16) (kJ := 0) (sJ := 0) (fun t2 => []) (fun t2 => [sI t2]) (fun t2 => ?_) (fun J3 hJ3 => ?_)
  · refine zs_chk (fun _ hx => ?_)
    exact zs_retRz (pc := 16) C hx hr ⟨Nat.le_of_ble_eq_true rfl, Nat.le_of_ble_eq_true rfl⟩ (by decide +kernel)
  · refine zs_if_eq (pc := 8) (off := 7) (tgt := 15) C (by decide +kernel) (by decide) ?_ ?_
    · refine zs_iconst (pc := 15) (n := 0) (x := 0) C (by decide +kernel) (by decide +kernel) ?_
      exact zs_goj (hJ3 0) trivial
    · refine zs_iconst (pc := 11) (n := 1) (x := 1) C (by decide +kernel) (by decide +kernel) ?_
      refine zs_goto (pc := 12) (off := 4) (tgt := 16) C (by decide +kernel) (by decide) ?_
      exact zs_goj (hJ3 1) trivial
set_option maxRecDepth 20000 in
theorem c_X3_apart (l : Launch) (g : GC) (a0 : Int) (a1 : Int) : ConR l g yX3_apart cX3_apart 5 (some .int) (rmd 1 0 0) [sR 20, sI a0, sI a1] (fun mm => fX3_apart a0 a1 mm) := by
  refine zs_ofR (by decide +kernel) (Nat.le_of_ble_eq_true rfl) ?_
  intro p e s m args below meth c C hr
  replace C : Bd g RX3 cX3_apart 5 p s m args meth c := C
  unfold fX3_apart
  refine zs_aload_n (pc := 0) (k := 0) (i := 0) C (by decide +kernel) rfl rfl ?_
  refine zs_getI (pc := 1) (i := 15) (ci := 3) (k := 1) C (by decide +kernel) fl_RX3_15 rfl rfl (fun x1 => ?_)
  refine zs_iconst (pc := 4) (n := 1) (x := 1) C (by decide +kernel) (by decide +kernel) ?_
  refine zs_icmp_ge (pc := 5) (off := 5) (tgt := 10) C (by decide +kernel) (by decide) ?_ ?_
  · refine zs_iload_n (pc := 10) (k := 1) (i := 1) C (by decide +kernel) rfl rfl ?_
    refine zs_aload_n (pc := 11) (k := 0) (i := 0) C (by decide +kernel) rfl rfl ?_
    refine zs_getI (pc := 12) (i := 15) (ci := 3) (k := 1) C (by decide +kernel) fl_RX3_15 rfl rfl (fun x2 => ?_)
    refine zs_chk (fun _ hy => ?_)
    refine zs_irem (pc := 15) C hy (by decide +kernel) ?_
    refine zs_iload_n (pc := 16) (k := 2) (i := 2) C (by decide +kernel) rfl rfl ?_
    refine zs_aload_n (pc := 17) (k := 0) (i := 0) C (by decide +kernel) rfl rfl ?_
    refine zs_getI (pc := 18) (i := 15) (ci := 3) (k := 1) C (by decide +kernel) fl_RX3_15 rfl rfl (fun x3 => ?_)
    refine zs_chk (fun _ hy => ?_)
    refine zs_irem (pc := 21) C hy (by decide +kernel) ?_
    refine zs_isub (pc := 22) C (by decide +kernel) ?_
    refine zs_let (fun x4 => ?_)
    refine zs_istore_n (pc := 23) (k := 3) (i := 3) (ls' := [(3, sI x4), (0, sR 20), (1, sI a0), (2, sI a1)]) C (by decide +kernel) rfl (Nat.le_of_ble_eq_true rfl) rfl ?_
    refine zs_iload_n (pc := 24) (k := 1) (i := 1) C (by decide +kernel) rfl rfl ?_
    refine zs_aload_n (pc := 25) (k := 0) (i := 0) C (by decide +kernel) rfl rfl ?_
    refine zs_getI (pc := 26) (i := 15) (ci := 3) (k := 1) C (by decide +kernel) fl_RX3_15 rfl rfl (fun x5 => ?_)
    refine zs_chk (fun _ hy => ?_)
    refine zs_idiv (pc := 29) C hy (by decide +kernel) ?_
    refine zs_iload_n (pc := 30) (k := 2) (i := 2) C (by decide +kernel) rfl rfl ?_
    refine zs_aload_n (pc := 31) (k := 0) (i := 0) C (by decide +kernel) rfl rfl ?_
    refine zs_getI (pc := 32) (i := 15) (ci := 3) (k := 1) C (by decide +kernel) fl_RX3_15 rfl rfl (fun x6 => ?_)
    refine zs_chk (fun _ hy => ?_)
    refine zs_idiv (pc := 35) C hy (by decide +kernel) ?_
    refine zs_isub (pc := 36) C (by decide +kernel) ?_
    refine zs_let (fun x7 => ?_)
    refine zs_istore (pc := 37) (i := 4) (ls' := [(4, sI x7), (3, sI x4), (0, sR 20), (1, sI a0), (2, sI a1)]) C (by decide +kernel) (Nat.le_of_ble_eq_true rfl) rfl ?_
    refine zs_iload_n (pc := 39) (k := 3) (i := 3) C (by decide +kernel) rfl rfl ?_
    refine zs_jn (pJ := 49) (kJ := 0) (sJ := 0) (fun t8 => [(4, sI x7)]) (fun t8 => [sI t8]) (fun t8 => ?_) (fun J9 hJ9 => ?_)
    · refine zs_iload (pc := 49) (i := 4) C (by decide +kernel) rfl ?_
      refine zs_jn (pJ := 62) (kJ := 0) (sJ := 0) (fun t10 => []) (fun t10 => [sI t10, sI t8]) (fun t10 => ?_) (fun J11 hJ11 => ?_)
      · refine zs_iadd (pc := 62) C (by decide +kernel) ?_
        exact zs_retRi (pc := 63) C hr ⟨Nat.le_of_ble_eq_true rfl, Nat.le_of_ble_eq_true rfl⟩ (by decide +kernel)
      · refine zs_if_ge (pc := 51) (off := 9) (tgt := 60) C (by decide +kernel) (by decide) ?_ ?_
        · refine zs_iload (pc := 60) (i := 4) C (by decide +kernel) rfl ?_
          exact zs_goj (hJ11 x7) trivial
        · refine zs_iload (pc := 54) (i := 4) C (by decide +kernel) rfl ?_
          refine zs_ineg (pc := 56) C (by decide +kernel) ?_
          refine zs_goto (pc := 57) (off := 5) (tgt := 62) C (by decide +kernel) (by decide) ?_
          exact zs_goj (hJ11 (w32 (-x7))) trivial
    · refine zs_if_ge (pc := 40) (off := 8) (tgt := 48) C (by decide +kernel) (by decide) ?_ ?_
      · refine zs_iload_n (pc := 48) (k := 3) (i := 3) C (by decide +kernel) rfl rfl ?_
        exact zs_goj (hJ9 x4) ⟨rfl, trivial⟩
      · refine zs_iload_n (pc := 43) (k := 3) (i := 3) C (by decide +kernel) rfl rfl ?_
        refine zs_ineg (pc := 44) C (by decide +kernel) ?_
        refine zs_goto (pc := 45) (off := 4) (tgt := 49) C (by decide +kernel) (by decide) ?_
        exact zs_goj (hJ9 (w32 (-x4))) ⟨rfl, trivial⟩
  · refine zs_iconst (pc := 8) (n := 0) (x := 0) C (by decide +kernel) (by decide +kernel) ?_
    exact zs_retRi (pc := 9) C hr ⟨Nat.le_of_ble_eq_true rfl, Nat.le_of_ble_eq_true rfl⟩ (by decide +kernel)
set_option maxRecDepth 20000 in
theorem c_X10_lengthOf (l : Launch) (g : GC) (a0 : Int) (a1 : Int) (a2 : Int) : ConW l g yX10_lengthOf cX10_lengthOf 6 (some .int) (rmd 2 0 0) [sR 19, sI a0, sI a1, sI a2] (fun mm => fX10_lengthOf a0 a1 a2 mm) := by
  refine zs_ofW (by decide +kernel) (Nat.le_of_ble_eq_true rfl) ?_
  intro p e s m args below meth c C hr
  replace C : Bd g RX10 cX10_lengthOf 6 p s m args meth c := C
  unfold fX10_lengthOf
  refine zs_aload_n (pc := 0) (k := 0) (i := 0) C (by decide +kernel) rfl rfl ?_
  refine zs_getR (o' := 20) (pc := 1) (i := 12) (ci := 10) (k := 0) C (by decide +kernel) fl_RX10_12 rfl rfl rfl ?_
  refine zs_getR (o' := 23) (pc := 4) (i := 84) (ci := 3) (k := 8) C (by decide +kernel) fl_RX10_84 rfl rfl rfl ?_
  refine zs_getI (pc := 7) (i := 88) (ci := 4) (k := 4) C (by decide +kernel) fl_RX10_88 rfl rfl (fun x1 => ?_)
  refine zs_if_ne (pc := 10) (off := 19) (tgt := 29) C (by decide +kernel) (by decide) ?_ ?_
  · refine zs_aload_n (pc := 29) (k := 0) (i := 0) C (by decide +kernel) rfl rfl ?_
    refine zs_getR (o' := 36) (pc := 30) (i := 42) (ci := 10) (k := 7) C (by decide +kernel) fl_RX10_42 rfl rfl rfl ?_
    refine zs_iconst (pc := 33) (n := 0) (x := 0) C (by decide +kernel) (by decide +kernel) ?_
    refine zs_iload_n (pc := 34) (k := 2) (i := 2) C (by decide +kernel) rfl rfl ?_
    refine zs_iastk (pc := 35) (o := 36) (n := 8) C (by decide) (fun _ _ _ => rfl) (by decide +kernel) rfl ?_
    refine zs_aload_n (pc := 36) (k := 0) (i := 0) C (by decide +kernel) rfl rfl ?_
    refine zs_getR (o' := 36) (pc := 37) (i := 42) (ci := 10) (k := 7) C (by decide +kernel) fl_RX10_42 rfl rfl rfl ?_
    refine zs_iconst (pc := 40) (n := 1) (x := 1) C (by decide +kernel) (by decide +kernel) ?_
    refine zs_aload_n (pc := 41) (k := 0) (i := 0) C (by decide +kernel) rfl rfl ?_
    refine zs_getR (o' := 27) (pc := 42) (i := 21) (ci := 10) (k := 1) C (by decide +kernel) fl_RX10_21 rfl rfl rfl ?_
    refine zs_getR (o' := 30) (pc := 45) (i := 92) (ci := 5) (k := 6) C (by decide +kernel) fl_RX10_92 rfl rfl rfl ?_
    refine zs_iload_n (pc := 48) (k := 1) (i := 1) C (by decide +kernel) rfl rfl ?_
    refine zs_iald (pc := 49) (o := 30) (n := 4) C (by decide +kernel) rfl (fun hinx2 x2 => ?_)
    refine zs_iastk (pc := 50) (o := 36) (n := 8) C (by decide) (fun _ _ _ => rfl) (by decide +kernel) rfl ?_
    refine zs_aload_n (pc := 51) (k := 0) (i := 0) C (by decide +kernel) rfl rfl ?_
    refine zs_getR (o' := 36) (pc := 52) (i := 42) (ci := 10) (k := 7) C (by decide +kernel) fl_RX10_42 rfl rfl rfl ?_
    refine zs_iconst (pc := 55) (n := 2) (x := 2) C (by decide +kernel) (by decide +kernel) ?_
    refine zs_aload_n (pc := 56) (k := 0) (i := 0) C (by decide +kernel) rfl rfl ?_
    refine zs_getR (o' := 27) (pc := 57) (i := 21) (ci := 10) (k := 1) C (by decide +kernel) fl_RX10_21 rfl rfl rfl ?_
    refine zs_iload_n (pc := 60) (k := 3) (i := 3) C (by decide +kernel) rfl rfl ?_
    refine zs_cvRi (pc := 61) (As := [sI a2]) (st := [sI 2, sR 36]) C (Or.inl rfl) (c_X5_rainIn l g a2) ml_RX10_100 rfl rfl rfl rfl (Nat.le_of_ble_eq_true rfl) ⟨Nat.le_of_ble_eq_true rfl, Nat.le_of_ble_eq_true rfl⟩ ⟨Nat.le_of_ble_eq_true rfl, Nat.le_of_ble_eq_true rfl⟩ (by decide +kernel) (fun x3 => ?_)
    refine zs_iastk (pc := 64) (o := 36) (n := 8) C (by decide) (fun _ _ _ => rfl) (by decide +kernel) rfl ?_
    refine zs_aload_n (pc := 65) (k := 0) (i := 0) C (by decide +kernel) rfl rfl ?_
    refine zs_getR (o' := 36) (pc := 66) (i := 42) (ci := 10) (k := 7) C (by decide +kernel) fl_RX10_42 rfl rfl rfl ?_
    refine zs_iconst (pc := 69) (n := 3) (x := 3) C (by decide +kernel) (by decide +kernel) ?_
    refine zs_iload_n (pc := 70) (k := 3) (i := 3) C (by decide +kernel) rfl rfl ?_
    refine zs_bipush (pc := 71) (n := 24) (x := 24) C (by decide +kernel) (by decide +kernel) ?_
    refine zs_irem (pc := 73) C (by decide +kernel) (by decide +kernel) ?_
    refine zs_iastk (pc := 74) (o := 36) (n := 8) C (by decide) (fun _ _ _ => rfl) (by decide +kernel) rfl ?_
    refine zs_aload_n (pc := 75) (k := 0) (i := 0) C (by decide +kernel) rfl rfl ?_
    refine zs_getR (o' := 36) (pc := 76) (i := 42) (ci := 10) (k := 7) C (by decide +kernel) fl_RX10_42 rfl rfl rfl ?_
    refine zs_iconst (pc := 79) (n := 4) (x := 4) C (by decide +kernel) (by decide +kernel) ?_
    refine zs_iload_n (pc := 80) (k := 1) (i := 1) C (by decide +kernel) rfl rfl ?_
    refine zs_iastk (pc := 81) (o := 36) (n := 8) C (by decide) (fun _ _ _ => rfl) (by decide +kernel) rfl ?_
    refine zs_aload_n (pc := 82) (k := 0) (i := 0) C (by decide +kernel) rfl rfl ?_
    refine zs_getR (o' := 20) (pc := 83) (i := 12) (ci := 10) (k := 0) C (by decide +kernel) fl_RX10_12 rfl rfl rfl ?_
    refine zs_getR (o' := 23) (pc := 86) (i := 84) (ci := 3) (k := 8) C (by decide +kernel) fl_RX10_84 rfl rfl rfl ?_
    refine zs_aload_n (pc := 89) (k := 0) (i := 0) C (by decide +kernel) rfl rfl ?_
    refine zs_getR (o' := 36) (pc := 90) (i := 42) (ci := 10) (k := 7) C (by decide +kernel) fl_RX10_42 rfl rfl rfl ?_
    refine zs_aload_n (pc := 93) (k := 0) (i := 0) C (by decide +kernel) rfl rfl ?_
    refine zs_getR (o' := 37) (pc := 94) (i := 48) (ci := 10) (k := 8) C (by decide +kernel) fl_RX10_48 rfl rfl rfl ?_
    refine zs_cvWl (pc := 97) (As := [sR 36, sR 37]) (st := []) C (fun _ _ _ => rfl) (c_X4_worth l g 23 rfl) ml_RX10_104 rfl rfl rfl rfl (Nat.le_of_ble_eq_true rfl) ⟨Nat.le_of_ble_eq_true rfl, Nat.le_of_ble_eq_true rfl⟩ ⟨Nat.le_of_ble_eq_true rfl, Nat.le_of_ble_eq_true rfl⟩ (by decide +kernel) (fun x4 => ?_)
    refine zs_lstore (pc := 100) (i := 4) (ls' := [(4, sL x4), (0, sR 19), (1, sI a0), (2, sI a1), (3, sI a2)]) C (by decide +kernel) (Nat.le_of_ble_eq_true rfl) rfl ?_
    refine zs_lload (pc := 102) (i := 4) C (by decide +kernel) rfl ?_
    refine zs_lconst (pc := 104) (n := 0) (x := 0) C (by decide +kernel) (by decide +kernel) ?_
    refine zs_jn (pJ := 130) (kJ := 0) (sJ := 0) (fun t5 => []) (fun t5 => [sI t5]) (fun t5 => ?_) (fun J6 hJ6 => ?_)
    · exact zs_retWi (pc := 130) C hr ⟨Nat.le_of_ble_eq_true rfl, Nat.le_of_ble_eq_true rfl⟩ (by decide +kernel)
    · refine zs_lcmp_ge (pc := 105) (off := 7) (tgt := 113) C (by decide +kernel) (by decide +kernel) (by decide) ?_ ?_
      · refine zs_lload (pc := 113) (i := 4) C (by decide +kernel) rfl ?_
        refine zs_ldc2 (pc := 115) (i := 108) (v := 99) (x := 99) C (by decide +kernel) wf_704 (by decide +kernel) ?_
        refine zs_lcmp_le (pc := 118) (off := 8) (tgt := 127) C (by decide +kernel) (by decide +kernel) (by decide) ?_ ?_
        · refine zs_lload (pc := 127) (i := 4) C (by decide +kernel) rfl ?_
          refine zs_l2i (pc := 129) C (by decide +kernel) ?_
          exact zs_goj (hJ6 (w32 x4)) trivial
        · refine zs_bipush (pc := 122) (n := 99) (x := 99) C (by decide +kernel) (by decide +kernel) ?_
          refine zs_goto (pc := 124) (off := 6) (tgt := 130) C (by decide +kernel) (by decide) ?_
          exact zs_goj (hJ6 99) trivial
      · refine zs_iconst (pc := 109) (n := 0) (x := 0) C (by decide +kernel) (by decide +kernel) ?_
        refine zs_goto (pc := 110) (off := 20) (tgt := 130) C (by decide +kernel) (by decide) ?_
        exact zs_goj (hJ6 0) trivial
  · refine zs_iconst (pc := 13) (n := 0) (x := 0) C (by decide +kernel) (by decide +kernel) ?_
    refine zs_iload_n (pc := 14) (k := 2) (i := 2) C (by decide +kernel) rfl rfl ?_
    refine zs_aload_n (pc := 15) (k := 0) (i := 0) C (by decide +kernel) rfl rfl ?_
    refine zs_getR (o' := 27) (pc := 16) (i := 21) (ci := 10) (k := 1) C (by decide +kernel) fl_RX10_21 rfl rfl rfl ?_
    refine zs_getR (o' := 30) (pc := 19) (i := 92) (ci := 5) (k := 6) C (by decide +kernel) fl_RX10_92 rfl rfl rfl ?_
    refine zs_iload_n (pc := 22) (k := 1) (i := 1) C (by decide +kernel) rfl rfl ?_
    refine zs_iald (pc := 23) (o := 30) (n := 4) C (by decide +kernel) rfl (fun hinx7 x7 => ?_)
    refine zs_isub (pc := 24) C (by decide +kernel) ?_
    refine zs_mmax (pc := 25) (idx := 95) C wf_701 wf_702 wf_166 wf_703 ⟨Nat.le_of_ble_eq_true rfl, Nat.le_of_ble_eq_true rfl, Nat.zero_le _, Nat.zero_le _⟩ (by decide +kernel) ?_
    exact zs_retWi (pc := 28) C hr ⟨Nat.le_of_ble_eq_true rfl, Nat.le_of_ble_eq_true rfl⟩ (by decide +kernel)
set_option maxRecDepth 20000 in
theorem c_X10_ropeIn (l : Launch) (g : GC) (a0 : Int) (a1 : Int) : ConW l g yX10_ropeIn cX10_ropeIn 3 (some .int) (rmd 3 0 0) [sR 19, sI a0, sI a1] (fun mm => fX10_ropeIn a0 a1 mm) := by
  refine zs_ofW (by decide +kernel) (Nat.le_of_ble_eq_true rfl) ?_
  intro p e s m args below meth c C hr
  replace C : Bd g RX10 cX10_ropeIn 3 p s m args meth c := C
  unfold fX10_ropeIn
  refine zs_aload_n (pc := 0) (k := 0) (i := 0) C (by decide +kernel) rfl rfl ?_
  refine zs_iload_n (pc := 1) (k := 1) (i := 1) C (by decide +kernel) rfl rfl ?_
  refine zs_aload_n (pc := 2) (k := 0) (i := 0) C (by decide +kernel) rfl rfl ?_
  refine zs_getR (o' := 20) (pc := 3) (i := 12) (ci := 10) (k := 0) C (by decide +kernel) fl_RX10_12 rfl rfl rfl ?_
  refine zs_getR (o' := 22) (pc := 6) (i := 77) (ci := 3) (k := 7) C (by decide +kernel) fl_RX10_77 rfl rfl rfl ?_
  refine zs_iload_n (pc := 9) (k := 1) (i := 1) C (by decide +kernel) rfl rfl ?_
  refine zs_iald (pc := 10) (o := 22) (n := 4) C (by decide +kernel) rfl (fun hinx1 x1 => ?_)
  refine zs_iload_n (pc := 11) (k := 2) (i := 2) C (by decide +kernel) rfl rfl ?_
  refine zs_cvWi (pc := 12) (As := [sI a0, sI x1, sI a1]) (st := []) C (fun _ _ _ => rfl) (Or.inl rfl) (c_X10_lengthOf l g a0 x1 a1) ml_RX10_80 rfl rfl rfl rfl (Nat.le_of_ble_eq_true rfl) ⟨Nat.le_of_ble_eq_true rfl, Nat.le_of_ble_eq_true rfl⟩ ⟨Nat.le_of_ble_eq_true rfl, Nat.le_of_ble_eq_true rfl⟩ (by decide +kernel) (fun x2 => ?_)
  exact zs_retWi (pc := 15) C hr ⟨Nat.le_of_ble_eq_true rfl, Nat.le_of_ble_eq_true rfl⟩ (by decide +kernel)
set_option maxRecDepth 20000 in
theorem c_X10_whyNoStep (l : Launch) (g : GC) (a0 : Int) (a1 : Int) (a2 : Int) : ConW l g yX10_whyNoStep cX10_whyNoStep 7 (some .int) (rmd 4 0 0) [sR 19, sI a0, sI a1, sI a2] (fun mm => fX10_whyNoStep a0 a1 a2 mm) := by
  refine zs_ofW (by decide +kernel) (Nat.le_of_ble_eq_true rfl) ?_
  intro p e s m args below meth c C hr
  replace C : Bd g RX10 cX10_whyNoStep 7 p s m args meth c := C
  unfold fX10_whyNoStep
  refine zs_iload_n (pc := 0) (k := 1) (i := 1) C (by decide +kernel) rfl rfl ?_
  refine zs_jn (pJ := 20) (kJ := 0) (sJ := 0) (fun t1 => []) (fun t1 => []) (fun t1 => ?_) (fun J2 hJ2 => ?_)
  · refine zs_iconst (pc := 20) (n := 1) (x := 1) C (by decide +kernel) (by decide +kernel) ?_
    exact zs_retWi (pc := 21) C hr ⟨Nat.le_of_ble_eq_true rfl, Nat.le_of_ble_eq_true rfl⟩ (by decide +kernel)
  · refine zs_if_lt (pc := 1) (off := 19) (tgt := 20) C (by decide +kernel) (by decide) ?_ ?_
    · exact zs_goj (hJ2 ()) trivial
    · refine zs_iload_n (pc := 4) (k := 1) (i := 1) C (by decide +kernel) rfl rfl ?_
      refine zs_aload_n (pc := 5) (k := 0) (i := 0) C (by decide +kernel) rfl rfl ?_
      refine zs_getR (o' := 20) (pc := 6) (i := 12) (ci := 10) (k := 0) C (by decide +kernel) fl_RX10_12 rfl rfl rfl ?_
      refine zs_getI (pc := 9) (i := 65) (ci := 3) (k := 5) C (by decide +kernel) fl_RX10_65 rfl rfl (fun x3 => ?_)
      refine zs_icmp_ge (pc := 12) (off := 8) (tgt := 20) C (by decide +kernel) (by decide) ?_ ?_
      · exact zs_goj (hJ2 ()) trivial
      · refine zs_iload_n (pc := 15) (k := 1) (i := 1) C (by decide +kernel) rfl rfl ?_
        refine zs_iconst (pc := 16) (n := 4) (x := 4) C (by decide +kernel) (by decide +kernel) ?_
        refine zs_icmp_lt (pc := 17) (off := 5) (tgt := 22) C (by decide +kernel) (by decide) ?_ ?_
        · refine zs_iload_n (pc := 22) (k := 2) (i := 2) C (by decide +kernel) rfl rfl ?_
          refine zs_jn (pJ := 40) (kJ := 0) (sJ := 0) (fun t4 => []) (fun t4 => []) (fun t4 => ?_) (fun J5 hJ5 => ?_)
          · refine zs_iconst (pc := 40) (n := 1) (x := 1) C (by decide +kernel) (by decide +kernel) ?_
            exact zs_retWi (pc := 41) C hr ⟨Nat.le_of_ble_eq_true rfl, Nat.le_of_ble_eq_true rfl⟩ (by decide +kernel)
          · refine zs_if_lt (pc := 23) (off := 17) (tgt := 40) C (by decide +kernel) (by decide) ?_ ?_
            · exact zs_goj (hJ5 ()) trivial
            · refine zs_iload_n (pc := 26) (k := 2) (i := 2) C (by decide +kernel) rfl rfl ?_
              refine zs_iconst (pc := 27) (n := 5) (x := 5) C (by decide +kernel) (by decide +kernel) ?_
              refine zs_icmp_ge (pc := 28) (off := 12) (tgt := 40) C (by decide +kernel) (by decide) ?_ ?_
              · exact zs_goj (hJ5 ()) trivial
              · refine zs_iload_n (pc := 31) (k := 3) (i := 3) C (by decide +kernel) rfl rfl ?_
                refine zs_if_lt (pc := 32) (off := 8) (tgt := 40) C (by decide +kernel) (by decide) ?_ ?_
                · exact zs_goj (hJ5 ()) trivial
                · refine zs_iload_n (pc := 35) (k := 3) (i := 3) C (by decide +kernel) rfl rfl ?_
                  refine zs_iconst (pc := 36) (n := 5) (x := 5) C (by decide +kernel) (by decide +kernel) ?_
                  refine zs_icmp_lt (pc := 37) (off := 5) (tgt := 42) C (by decide +kernel) (by decide) ?_ ?_
                  · refine zs_aload_n (pc := 42) (k := 0) (i := 0) C (by decide +kernel) rfl rfl ?_
                    refine zs_iload_n (pc := 43) (k := 1) (i := 1) C (by decide +kernel) rfl rfl ?_
                    refine zs_iconst (pc := 44) (n := 0) (x := 0) C (by decide +kernel) (by decide +kernel) ?_
                    refine zs_iload_n (pc := 45) (k := 2) (i := 2) C (by decide +kernel) rfl rfl ?_
                    refine zs_cvWi (pc := 46) (As := [sI a0, sI 0, sI a1]) (st := []) C (fun _ _ _ => rfl) (Or.inl rfl) (c_X10_turned l g a0 0 a1) ml_RX10_142 rfl rfl rfl rfl (Nat.le_of_ble_eq_true rfl) ⟨Nat.le_of_ble_eq_true rfl, Nat.le_of_ble_eq_true rfl⟩ ⟨Nat.le_of_ble_eq_true rfl, Nat.le_of_ble_eq_true rfl⟩ (by decide +kernel) (fun x6 => ?_)
                    refine zs_istore (pc := 49) (i := 4) (ls' := [(4, sI x6), (0, sR 19), (1, sI a0), (2, sI a1), (3, sI a2)]) C (by decide +kernel) (Nat.le_of_ble_eq_true rfl) rfl ?_
                    refine zs_aload_n (pc := 51) (k := 0) (i := 0) C (by decide +kernel) rfl rfl ?_
                    refine zs_iload_n (pc := 52) (k := 1) (i := 1) C (by decide +kernel) rfl rfl ?_
                    refine zs_iconst (pc := 53) (n := 1) (x := 1) C (by decide +kernel) (by decide +kernel) ?_
                    refine zs_iload_n (pc := 54) (k := 3) (i := 3) C (by decide +kernel) rfl rfl ?_
                    refine zs_cvWi (pc := 55) (As := [sI a0, sI 1, sI a2]) (st := []) C (fun _ _ _ => rfl) (Or.inl rfl) (c_X10_turned l g a0 1 a2) ml_RX10_142 rfl rfl rfl rfl (Nat.le_of_ble_eq_true rfl) ⟨Nat.le_of_ble_eq_true rfl, Nat.le_of_ble_eq_true rfl⟩ ⟨Nat.le_of_ble_eq_true rfl, Nat.le_of_ble_eq_true rfl⟩ (by decide +kernel) (fun x7 => ?_)
                    refine zs_istore (pc := 58) (i := 5) (ls' := [(5, sI x7), (4, sI x6), (0, sR 19), (1, sI a0), (2, sI a1), (3, sI a2)]) C (by decide +kernel) (Nat.le_of_ble_eq_true rfl) rfl ?_
                    refine zs_iload (pc := 60) (i := 4) C (by decide +kernel) rfl ?_
                    refine zs_iconst (pc := 62) (n := (-1)) (x := (-1)) C (by decide +kernel) (by decide +kernel) ?_
                    refine zs_jn (pJ := 72) (kJ := 0) (sJ := 0) (fun t8 => []) (fun t8 => []) (fun t8 => ?_) (fun J9 hJ9 => ?_)
                    · refine zs_iconst (pc := 72) (n := 2) (x := 2) C (by decide +kernel) (by decide +kernel) ?_
                      exact zs_retWi (pc := 73) C hr ⟨Nat.le_of_ble_eq_true rfl, Nat.le_of_ble_eq_true rfl⟩ (by decide +kernel)
                    · refine zs_icmp_eq (pc := 63) (off := 9) (tgt := 72) C (by decide +kernel) (by decide) ?_ ?_
                      · exact zs_goj (hJ9 ()) trivial
                      · refine zs_iload (pc := 66) (i := 5) C (by decide +kernel) rfl ?_
                        refine zs_iconst (pc := 68) (n := (-1)) (x := (-1)) C (by decide +kernel) (by decide +kernel) ?_
                        refine zs_icmp_ne (pc := 69) (off := 5) (tgt := 74) C (by decide +kernel) (by decide) ?_ ?_
                        · refine zs_aload_n (pc := 74) (k := 0) (i := 0) C (by decide +kernel) rfl rfl ?_
                          refine zs_getR (o' := 27) (pc := 75) (i := 21) (ci := 10) (k := 1) C (by decide +kernel) fl_RX10_21 rfl rfl rfl ?_
                          refine zs_iload_n (pc := 78) (k := 1) (i := 1) C (by decide +kernel) rfl rfl ?_
                          refine zs_cvRi (pc := 79) (As := [sI a0]) (st := []) C (Or.inr rfl) (c_X5_isParted l g a0) ml_RX10_116 rfl rfl rfl rfl (Nat.le_of_ble_eq_true rfl) ⟨Nat.le_of_ble_eq_true rfl, Nat.le_of_ble_eq_true rfl⟩ ⟨Nat.le_of_ble_eq_true rfl, Nat.le_of_ble_eq_true rfl⟩ (by decide +kernel) (fun x10 => ?_)
                          refine zs_jn (pJ := 118) (kJ := 0) (sJ := 0) (fun t11 => []) (fun t11 => [sI t11]) (fun t11 => ?_) (fun J12 hJ12 => ?_)
                          · refine zs_istore (pc := 118) (i := 6) (ls' := [(6, sI t11)]) C (by decide +kernel) (Nat.le_of_ble_eq_true rfl) rfl ?_
                            refine zs_iload (pc := 120) (i := 6) C (by decide +kernel) rfl ?_
                            refine zs_jn (pJ := 130) (kJ := 0) (sJ := 0) (fun t13 => []) (fun t13 => [sI t13]) (fun t13 => ?_) (fun J14 hJ14 => ?_)
                            · exact zs_retWi (pc := 130) C hr ⟨Nat.le_of_ble_eq_true rfl, Nat.le_of_ble_eq_true rfl⟩ (by decide +kernel)
                            · refine zs_if_eq (pc := 122) (off := 7) (tgt := 129) C (by decide +kernel) (by decide) ?_ ?_
                              · refine zs_iconst (pc := 129) (n := 3) (x := 3) C (by decide +kernel) (by decide +kernel) ?_
                                exact zs_goj (hJ14 3) trivial
                              · refine zs_iconst (pc := 125) (n := 0) (x := 0) C (by decide +kernel) (by decide +kernel) ?_
                                refine zs_goto (pc := 126) (off := 4) (tgt := 130) C (by decide +kernel) (by decide) ?_
                                exact zs_goj (hJ14 0) trivial
                          · refine zs_jn (pJ := 113) (kJ := 0) (sJ := 0) (fun t15 => []) (fun t15 => []) (fun t15 => ?_) (fun J16 hJ16 => ?_)
                            · refine zs_iconst (pc := 113) (n := 1) (x := 1) C (by decide +kernel) (by decide +kernel) ?_
                              refine zs_goto (pc := 114) (off := 4) (tgt := 118) C (by decide +kernel) (by decide) ?_
                              exact zs_goj (hJ12 1) trivial
                            · refine zs_if_ne (pc := 82) (off := 31) (tgt := 113) C (by decide +kernel) (by decide) ?_ ?_
                              · exact zs_goj (hJ16 ()) trivial
                              · refine zs_aload_n (pc := 85) (k := 0) (i := 0) C (by decide +kernel) rfl rfl ?_
                                refine zs_getR (o' := 20) (pc := 86) (i := 12) (ci := 10) (k := 0) C (by decide +kernel) fl_RX10_12 rfl rfl rfl ?_
                                refine zs_iload (pc := 89) (i := 4) C (by decide +kernel) rfl ?_
                                refine zs_iload (pc := 91) (i := 5) C (by decide +kernel) rfl ?_
                                refine zs_cvRi (pc := 93) (As := [sI x6, sI x7]) (st := []) C (Or.inl rfl) (c_X3_apart l g x6 x7) ml_RX10_74 rfl rfl rfl rfl (Nat.le_of_ble_eq_true rfl) ⟨Nat.le_of_ble_eq_true rfl, Nat.le_of_ble_eq_true rfl⟩ ⟨Nat.le_of_ble_eq_true rfl, Nat.le_of_ble_eq_true rfl⟩ (by decide +kernel) (fun x17 => ?_)
                                refine zs_aload_n (pc := 96) (k := 0) (i := 0) C (by decide +kernel) rfl rfl ?_
                                refine zs_iload_n (pc := 97) (k := 1) (i := 1) C (by decide +kernel) rfl rfl ?_
                                refine zs_aload_n (pc := 98) (k := 0) (i := 0) C (by decide +kernel) rfl rfl ?_
                                refine zs_getR (o' := 27) (pc := 99) (i := 21) (ci := 10) (k := 1) C (by decide +kernel) fl_RX10_21 rfl rfl rfl ?_
                                refine zs_getI (pc := 102) (i := 122) (ci := 5) (k := 0) C (by decide +kernel) fl_RX10_122 rfl rfl (fun x18 => ?_)
                                refine zs_iconst (pc := 105) (n := 1) (x := 1) C (by decide +kernel) (by decide +kernel) ?_
                                refine zs_iadd (pc := 106) C (by decide +kernel) ?_
                                refine zs_cvWi (pc := 107) (As := [sI a0, sI (w32 (x18 + 1))]) (st := [sI x17]) C (fun _ _ _ => rfl) (Or.inl rfl) (c_X10_ropeIn l g a0 (w32 (x18 + 1))) ml_RX10_145 rfl rfl rfl rfl (Nat.le_of_ble_eq_true rfl) ⟨Nat.le_of_ble_eq_true rfl, Nat.le_of_ble_eq_true rfl⟩ ⟨Nat.le_of_ble_eq_true rfl, Nat.le_of_ble_eq_true rfl⟩ (by decide +kernel) (fun x19 => ?_)
                                refine zs_icmp_gt (pc := 110) (off := 7) (tgt := 117) C (by decide +kernel) (by decide) ?_ ?_
                                · refine zs_iconst (pc := 117) (n := 0) (x := 0) C (by decide +kernel) (by decide +kernel) ?_
                                  exact zs_goj (hJ12 0) trivial
                                · exact zs_goj (hJ16 ()) trivial
                        · exact zs_goj (hJ9 ()) trivial
                  · exact zs_goj (hJ5 ()) trivial
        · exact zs_goj (hJ2 ()) trivial
set_option maxRecDepth 20000 in
theorem c_X5_copyFrom (l : Launch) (g : GC) (o : Nat) (a0 : Nat) (h0 : layL[o]? = some (.inl 5)) (h0_ : layL[a0]? = some (.inl 5)) : ConV l g yX5_copyFrom cX5_copyFrom 2 (rmd 1 0 0) [sR o, sR a0] (fun mm => fX5_copyFrom o a0 mm) := by
  refine zs_ofV (by decide +kernel) (Nat.le_of_ble_eq_true rfl) ?_
  intro p e s m args below meth c C hr
  replace C : Bd g RX5 cX5_copyFrom 2 p s m args meth c := C
  unfold fX5_copyFrom
  refine zs_aload_n (pc := 0) (k := 0) (i := 0) C (by decide +kernel) rfl rfl ?_
  refine zs_aload_n (pc := 1) (k := 1) (i := 1) C (by decide +kernel) rfl rfl ?_
  refine zs_getI (pc := 2) (i := 9) (ci := 5) (k := 0) C (by decide +kernel) fl_RX5_9 h0_ rfl (fun x1 => ?_)
  refine zs_putI (pc := 5) (i := 9) (ci := 5) (k := 0) C (fun _ _ _ => rfl) (by decide +kernel) fl_RX5_9 fw_5_0 h0 rfl ?_
  refine zs_aload_n (pc := 8) (k := 0) (i := 0) C (by decide +kernel) rfl rfl ?_
  refine zs_aload_n (pc := 9) (k := 1) (i := 1) C (by decide +kernel) rfl rfl ?_
  refine zs_getI (pc := 10) (i := 15) (ci := 5) (k := 1) C (by decide +kernel) fl_RX5_15 h0_ rfl (fun x2 => ?_)
  refine zs_putI (pc := 13) (i := 15) (ci := 5) (k := 1) C (fun _ _ _ => rfl) (by decide +kernel) fl_RX5_15 fw_5_1 h0 rfl ?_
  refine zs_aload_n (pc := 16) (k := 0) (i := 0) C (by decide +kernel) rfl rfl ?_
  refine zs_aload_n (pc := 17) (k := 1) (i := 1) C (by decide +kernel) rfl rfl ?_
  refine zs_getI (pc := 18) (i := 18) (ci := 5) (k := 2) C (by decide +kernel) fl_RX5_18 h0_ rfl (fun x3 => ?_)
  refine zs_putI (pc := 21) (i := 18) (ci := 5) (k := 2) C (fun _ _ _ => rfl) (by decide +kernel) fl_RX5_18 fw_5_2 h0 rfl ?_
  refine zs_aload_n (pc := 24) (k := 0) (i := 0) C (by decide +kernel) rfl rfl ?_
  refine zs_aload_n (pc := 25) (k := 1) (i := 1) C (by decide +kernel) rfl rfl ?_
  refine zs_getI (pc := 26) (i := 21) (ci := 5) (k := 3) C (by decide +kernel) fl_RX5_21 h0_ rfl (fun x4 => ?_)
  refine zs_putI (pc := 29) (i := 21) (ci := 5) (k := 3) C (fun _ _ _ => rfl) (by decide +kernel) fl_RX5_21 fw_5_3 h0 rfl ?_
  refine zs_aload_n (pc := 32) (k := 1) (i := 1) C (by decide +kernel) rfl rfl ?_
  refine zs_getR (o' := (a0 + 1)) (pc := 33) (i := 24) (ci := 5) (k := 4) C (by decide +kernel) fl_RX5_24 h0_ rfl rfl ?_
  refine zs_iconst (pc := 36) (n := 0) (x := 0) C (by decide +kernel) (by decide +kernel) ?_
  refine zs_aload_n (pc := 37) (k := 0) (i := 0) C (by decide +kernel) rfl rfl ?_
  refine zs_getR (o' := (o + 1)) (pc := 38) (i := 24) (ci := 5) (k := 4) C (by decide +kernel) fl_RX5_24 h0 rfl rfl ?_
  refine zs_iconst (pc := 41) (n := 0) (x := 0) C (by decide +kernel) (by decide +kernel) ?_
  refine zs_iconst (pc := 42) (n := 4) (x := 4) C (by decide +kernel) (by decide +kernel) ?_
  refine zs_copyi (pc := 43) (idx := 40) (o0 := (a0 + 1)) (o1 := (o + 1)) (n0 := 4) (n1 := 4) C (fun _ _ _ => rfl) wf_713 wf_715 wf_714 wf_168 ⟨Nat.le_of_ble_eq_true rfl, Nat.le_of_ble_eq_true rfl⟩ (ly_o_5_1 h0_) (ly_o_5_1 h0) (by decide +kernel) ?_
  refine zs_aload_n (pc := 46) (k := 1) (i := 1) C (by decide +kernel) rfl rfl ?_
  refine zs_getR (o' := (a0 + 2)) (pc := 47) (i := 28) (ci := 5) (k := 5) C (by decide +kernel) fl_RX5_28 h0_ rfl rfl ?_
  refine zs_iconst (pc := 50) (n := 0) (x := 0) C (by decide +kernel) (by decide +kernel) ?_
  refine zs_aload_n (pc := 51) (k := 0) (i := 0) C (by decide +kernel) rfl rfl ?_
  refine zs_getR (o' := (o + 2)) (pc := 52) (i := 28) (ci := 5) (k := 5) C (by decide +kernel) fl_RX5_28 h0 rfl rfl ?_
  refine zs_iconst (pc := 55) (n := 0) (x := 0) C (by decide +kernel) (by decide +kernel) ?_
  refine zs_iconst (pc := 56) (n := 4) (x := 4) C (by decide +kernel) (by decide +kernel) ?_
  refine zs_copyi (pc := 57) (idx := 40) (o0 := (a0 + 2)) (o1 := (o + 2)) (n0 := 4) (n1 := 4) C (fun _ _ _ => rfl) wf_713 wf_715 wf_714 wf_168 ⟨Nat.le_of_ble_eq_true rfl, Nat.le_of_ble_eq_true rfl⟩ (ly_o_5_2 h0_) (ly_o_5_2 h0) (by decide +kernel) ?_
  refine zs_aload_n (pc := 60) (k := 1) (i := 1) C (by decide +kernel) rfl rfl ?_
  refine zs_getR (o' := (a0 + 3)) (pc := 61) (i := 31) (ci := 5) (k := 6) C (by decide +kernel) fl_RX5_31 h0_ rfl rfl ?_
  refine zs_iconst (pc := 64) (n := 0) (x := 0) C (by decide +kernel) (by decide +kernel) ?_
  refine zs_aload_n (pc := 65) (k := 0) (i := 0) C (by decide +kernel) rfl rfl ?_
  refine zs_getR (o' := (o + 3)) (pc := 66) (i := 31) (ci := 5) (k := 6) C (by decide +kernel) fl_RX5_31 h0 rfl rfl ?_
  refine zs_iconst (pc := 69) (n := 0) (x := 0) C (by decide +kernel) (by decide +kernel) ?_
  refine zs_iconst (pc := 70) (n := 4) (x := 4) C (by decide +kernel) (by decide +kernel) ?_
  refine zs_copyi (pc := 71) (idx := 40) (o0 := (a0 + 3)) (o1 := (o + 3)) (n0 := 4) (n1 := 4) C (fun _ _ _ => rfl) wf_713 wf_715 wf_714 wf_168 ⟨Nat.le_of_ble_eq_true rfl, Nat.le_of_ble_eq_true rfl⟩ (ly_o_5_3 h0_) (ly_o_5_3 h0) (by decide +kernel) ?_
  exact zs_retVv (pc := 74) C hr ⟨Nat.le_of_ble_eq_true rfl, Nat.le_of_ble_eq_true rfl⟩ (by decide +kernel)
set_option maxRecDepth 20000 in
theorem c_X10_remember (l : Launch) (g : GC)  : ConV l g yX10_remember cX10_remember 1 (rmd 2 0 0) [sR 19] (fun mm => fX10_remember  mm) := by
  refine zs_ofV (by decide +kernel) (Nat.le_of_ble_eq_true rfl) ?_
  intro p e s m args below meth c C hr
  replace C : Bd g RX10 cX10_remember 1 p s m args meth c := C
  unfold fX10_remember
  refine zs_aload_n (pc := 0) (k := 0) (i := 0) C (by decide +kernel) rfl rfl ?_
  refine zs_aload_n (pc := 1) (k := 0) (i := 0) C (by decide +kernel) rfl rfl ?_
  refine zs_getI (pc := 2) (i := 32) (ci := 10) (k := 4) C (by decide +kernel) fl_RX10_32 rfl rfl (fun x1 => ?_)
  refine zs_iconst (pc := 5) (n := 1) (x := 1) C (by decide +kernel) (by decide +kernel) ?_
  refine zs_iadd (pc := 6) C (by decide +kernel) ?_
  refine zs_bipush (pc := 7) (n := 10) (x := 10) C (by decide +kernel) (by decide +kernel) ?_
  refine zs_irem (pc := 9) C (by decide +kernel) (by decide +kernel) ?_
  refine zs_putI (pc := 10) (i := 32) (ci := 10) (k := 4) C (fun _ _ _ => rfl) (by decide +kernel) fl_RX10_32 fw_10_4 rfl rfl ?_
  refine zs_aload_n (pc := 13) (k := 0) (i := 0) C (by decide +kernel) rfl rfl ?_
  refine zs_getR (o' := 31) (pc := 14) (i := 35) (ci := 10) (k := 5) C (by decide +kernel) fl_RX10_35 rfl rfl rfl ?_
  refine zs_aload_n (pc := 17) (k := 0) (i := 0) C (by decide +kernel) rfl rfl ?_
  refine zs_getI (pc := 18) (i := 32) (ci := 10) (k := 4) C (by decide +kernel) fl_RX10_32 rfl rfl (fun x2 => ?_)
  refine zs_aald (pc := 21) (o := 31) (t := 4) (n := 10) C (by decide) (by decide +kernel) rfl (ly_arr_4_10 rfl) (fun x3 hx3 => ?_)
  refine zs_aload_n (pc := 22) (k := 0) (i := 0) C (by decide +kernel) rfl rfl ?_
  refine zs_getR (o' := 27) (pc := 23) (i := 21) (ci := 10) (k := 1) C (by decide +kernel) fl_RX10_21 rfl rfl rfl ?_
  refine zs_cvVv (pc := 26) (As := [sR 27]) (st := []) C (fun _ _ _ => rfl) (c_X5_copyFrom l g x3 27 hx3 rfl) ml_RX10_56 hx3 rfl rfl rfl (Nat.le_of_ble_eq_true rfl) ⟨Nat.le_of_ble_eq_true rfl, Nat.le_of_ble_eq_true rfl⟩ ⟨Nat.le_of_ble_eq_true rfl, Nat.le_of_ble_eq_true rfl⟩ (by decide +kernel) ?_
  refine zs_aload_n (pc := 29) (k := 0) (i := 0) C (by decide +kernel) rfl rfl ?_
  refine zs_aload_n (pc := 30) (k := 0) (i := 0) C (by decide +kernel) rfl rfl ?_
  refine zs_getI (pc := 31) (i := 25) (ci := 10) (k := 2) C (by decide +kernel) fl_RX10_25 rfl rfl (fun x4 => ?_)
  refine zs_iconst (pc := 34) (n := 1) (x := 1) C (by decide +kernel) (by decide +kernel) ?_
  refine zs_iadd (pc := 35) C (by decide +kernel) ?_
  refine zs_bipush (pc := 36) (n := 10) (x := 10) C (by decide +kernel) (by decide +kernel) ?_
  refine zs_mmin (pc := 38) (idx := 59) C wf_716 wf_717 wf_166 wf_718 ⟨Nat.le_of_ble_eq_true rfl, Nat.le_of_ble_eq_true rfl, Nat.zero_le _, Nat.zero_le _⟩ (by decide +kernel) ?_
  refine zs_putI (pc := 41) (i := 25) (ci := 10) (k := 2) C (fun _ _ _ => rfl) (by decide +kernel) fl_RX10_25 fw_10_2 rfl rfl ?_
  exact zs_retVv (pc := 44) C hr ⟨Nat.le_of_ble_eq_true rfl, Nat.le_of_ble_eq_true rfl⟩ (by decide +kernel)
set_option maxRecDepth 20000 in
theorem c_X10_walk (l : Launch) (g : GC) (a0 : Int) (a1 : Int) (a2 : Int) : ConV l g yX10_walk cX10_walk 4 (rmd 3 0 0) [sR 19, sI a0, sI a1, sI a2] (fun mm => fX10_walk a0 a1 a2 mm) := by
  refine zs_ofV (by decide +kernel) (Nat.le_of_ble_eq_true rfl) ?_
  intro p e s m args below meth c C hr
  replace C : Bd g RX10 cX10_walk 4 p s m args meth c := C
  unfold fX10_walk
  refine zs_aload_n (pc := 0) (k := 0) (i := 0) C (by decide +kernel) rfl rfl ?_
  refine zs_getR (o' := 27) (pc := 1) (i := 21) (ci := 10) (k := 1) C (by decide +kernel) fl_RX10_21 rfl rfl rfl ?_
  refine zs_getR (o' := 28) (pc := 4) (i := 68) (ci := 5) (k := 4) C (by decide +kernel) fl_RX10_68 rfl rfl rfl ?_
  refine zs_iload_n (pc := 7) (k := 1) (i := 1) C (by decide +kernel) rfl rfl ?_
  refine zs_aload_n (pc := 8) (k := 0) (i := 0) C (by decide +kernel) rfl rfl ?_
  refine zs_getR (o' := 20) (pc := 9) (i := 12) (ci := 10) (k := 0) C (by decide +kernel) fl_RX10_12 rfl rfl rfl ?_
  refine zs_aload_n (pc := 12) (k := 0) (i := 0) C (by decide +kernel) rfl rfl ?_
  refine zs_getR (o' := 27) (pc := 13) (i := 21) (ci := 10) (k := 1) C (by decide +kernel) fl_RX10_21 rfl rfl rfl ?_
  refine zs_getR (o' := 28) (pc := 16) (i := 68) (ci := 5) (k := 4) C (by decide +kernel) fl_RX10_68 rfl rfl rfl ?_
  refine zs_iload_n (pc := 19) (k := 1) (i := 1) C (by decide +kernel) rfl rfl ?_
  refine zs_iald (pc := 20) (o := 28) (n := 4) C (by decide +kernel) rfl (fun hinx1 x1 => ?_)
  refine zs_iload_n (pc := 21) (k := 2) (i := 2) C (by decide +kernel) rfl rfl ?_
  refine zs_cvRi (pc := 22) (As := [sI x1, sI a1]) (st := [sI a0, sR 28]) C (Or.inl rfl) (c_X3_beside l g x1 a1) ml_RX10_132 rfl rfl rfl rfl (Nat.le_of_ble_eq_true rfl) ⟨Nat.le_of_ble_eq_true rfl, Nat.le_of_ble_eq_true rfl⟩ ⟨Nat.le_of_ble_eq_true rfl, Nat.le_of_ble_eq_true rfl⟩ (by decide +kernel) (fun x2 => ?_)
  refine zs_iast (pc := 25) (o := 28) (n := 4) C (fun _ _ _ => rfl) (by decide +kernel) rfl ?_
  refine zs_aload_n (pc := 26) (k := 0) (i := 0) C (by decide +kernel) rfl rfl ?_
  refine zs_getR (o' := 27) (pc := 27) (i := 21) (ci := 10) (k := 1) C (by decide +kernel) fl_RX10_21 rfl rfl rfl ?_
  refine zs_getR (o' := 29) (pc := 30) (i := 71) (ci := 5) (k := 5) C (by decide +kernel) fl_RX10_71 rfl rfl rfl ?_
  refine zs_iload_n (pc := 33) (k := 1) (i := 1) C (by decide +kernel) rfl rfl ?_
  refine zs_aload_n (pc := 34) (k := 0) (i := 0) C (by decide +kernel) rfl rfl ?_
  refine zs_getR (o' := 20) (pc := 35) (i := 12) (ci := 10) (k := 0) C (by decide +kernel) fl_RX10_12 rfl rfl rfl ?_
  refine zs_aload_n (pc := 38) (k := 0) (i := 0) C (by decide +kernel) rfl rfl ?_
  refine zs_getR (o' := 27) (pc := 39) (i := 21) (ci := 10) (k := 1) C (by decide +kernel) fl_RX10_21 rfl rfl rfl ?_
  refine zs_getR (o' := 29) (pc := 42) (i := 71) (ci := 5) (k := 5) C (by decide +kernel) fl_RX10_71 rfl rfl rfl ?_
  refine zs_iload_n (pc := 45) (k := 1) (i := 1) C (by decide +kernel) rfl rfl ?_
  refine zs_iald (pc := 46) (o := 29) (n := 4) C (by decide +kernel) rfl (fun hinx3 x3 => ?_)
  refine zs_iload_n (pc := 47) (k := 3) (i := 3) C (by decide +kernel) rfl rfl ?_
  refine zs_cvRi (pc := 48) (As := [sI x3, sI a2]) (st := [sI a0, sR 29]) C (Or.inl rfl) (c_X3_beside l g x3 a2) ml_RX10_132 rfl rfl rfl rfl (Nat.le_of_ble_eq_true rfl) ⟨Nat.le_of_ble_eq_true rfl, Nat.le_of_ble_eq_true rfl⟩ ⟨Nat.le_of_ble_eq_true rfl, Nat.le_of_ble_eq_true rfl⟩ (by decide +kernel) (fun x4 => ?_)
  refine zs_iast (pc := 51) (o := 29) (n := 4) C (fun _ _ _ => rfl) (by decide +kernel) rfl ?_
  exact zs_retVv (pc := 52) C hr ⟨Nat.le_of_ble_eq_true rfl, Nat.le_of_ble_eq_true rfl⟩ (by decide +kernel)
set_option maxRecDepth 20000 in
theorem c_X10_apart (l : Launch) (g : GC) (a0 : Int) : ConR l g yX10_apart cX10_apart 2 (some .int) (rmd 2 0 0) [sR 19, sI a0] (fun mm => fX10_apart a0 mm) := by
  refine zs_ofR (by decide +kernel) (Nat.le_of_ble_eq_true rfl) ?_
  intro p e s m args below meth c C hr
  replace C : Bd g RX10 cX10_apart 2 p s m args meth c := C
  unfold fX10_apart
  refine zs_aload_n (pc := 0) (k := 0) (i := 0) C (by decide +kernel) rfl rfl ?_
  refine zs_getR (o' := 20) (pc := 1) (i := 12) (ci := 10) (k := 0) C (by decide +kernel) fl_RX10_12 rfl rfl rfl ?_
  refine zs_aload_n (pc := 4) (k := 0) (i := 0) C (by decide +kernel) rfl rfl ?_
  refine zs_getR (o' := 27) (pc := 5) (i := 21) (ci := 10) (k := 1) C (by decide +kernel) fl_RX10_21 rfl rfl rfl ?_
  refine zs_getR (o' := 28) (pc := 8) (i := 68) (ci := 5) (k := 4) C (by decide +kernel) fl_RX10_68 rfl rfl rfl ?_
  refine zs_iload_n (pc := 11) (k := 1) (i := 1) C (by decide +kernel) rfl rfl ?_
  refine zs_iald (pc := 12) (o := 28) (n := 4) C (by decide +kernel) rfl (fun hinx1 x1 => ?_)
  refine zs_aload_n (pc := 13) (k := 0) (i := 0) C (by decide +kernel) rfl rfl ?_
  refine zs_getR (o' := 27) (pc := 14) (i := 21) (ci := 10) (k := 1) C (by decide +kernel) fl_RX10_21 rfl rfl rfl ?_
  refine zs_getR (o' := 29) (pc := 17) (i := 71) (ci := 5) (k := 5) C (by decide +kernel) fl_RX10_71 rfl rfl rfl ?_
  refine zs_iload_n (pc := 20) (k := 1) (i := 1) C (by decide +kernel) rfl rfl ?_
  refine zs_iald (pc := 21) (o := 29) (n := 4) C (by decide +kernel) rfl (fun hinx2 x2 => ?_)
  refine zs_cvRi (pc := 22) (As := [sI x1, sI x2]) (st := []) C (Or.inl rfl) (c_X3_apart l g x1 x2) ml_RX10_74 rfl rfl rfl rfl (Nat.le_of_ble_eq_true rfl) ⟨Nat.le_of_ble_eq_true rfl, Nat.le_of_ble_eq_true rfl⟩ ⟨Nat.le_of_ble_eq_true rfl, Nat.le_of_ble_eq_true rfl⟩ (by decide +kernel) (fun x3 => ?_)
  exact zs_retRi (pc := 25) C hr ⟨Nat.le_of_ble_eq_true rfl, Nat.le_of_ble_eq_true rfl⟩ (by decide +kernel)
set_option maxRecDepth 20000 in
theorem c_X10_tooFarApart (l : Launch) (g : GC)  : ConW l g yX10_tooFarApart cX10_tooFarApart 3 (some .int) (rmd 3 0 0) [sR 19] (fun mm => fX10_tooFarApart  mm) := by
  refine zs_ofW (by decide +kernel) (Nat.le_of_ble_eq_true rfl) ?_
  intro p e s m args below meth c C hr
  replace C : Bd g RX10 cX10_tooFarApart 3 p s m args meth c := C
  unfold fX10_tooFarApart
  refine zs_iconst (pc := 0) (n := 0) (x := 0) C (by decide +kernel) (by decide +kernel) ?_
  refine zs_istore_n (pc := 1) (k := 1) (i := 1) (ls' := [(1, sI 0), (0, sR 19)]) C (by decide +kernel) rfl (Nat.le_of_ble_eq_true rfl) rfl ?_
  refine zs_iconst (pc := 2) (n := 0) (x := 0) C (by decide +kernel) (by decide +kernel) ?_
  refine zs_istore_n (pc := 3) (k := 2) (i := 2) (ls' := [(2, sI 0), (1, sI 0), (0, sR 19)]) C (by decide +kernel) rfl (Nat.le_of_ble_eq_true rfl) rfl ?_
  refine zs_sub (ls' := [(0, sR 19), (1, sI 0), (2, sI 0)]) ⟨rfl, rfl, rfl, trivial⟩ ?_
  refine zs_lp (pc := 4) (fun (t1 : Int × Int) => [(0, sR 19), (1, sI t1.1), (2, sI t1.2)]) (fun _ => []) (fun K2 hK2 t1 => ?_) BIG (0, 0)
  refine zs_iload_n (pc := 4) (k := 2) (i := 2) C (by decide +kernel) rfl rfl ?_
  refine zs_aload_n (pc := 5) (k := 0) (i := 0) C (by decide +kernel) rfl rfl ?_
  refine zs_getR (o' := 20) (pc := 6) (i := 12) (ci := 10) (k := 0) C (by decide +kernel) fl_RX10_12 rfl rfl rfl ?_
  refine zs_getI (pc := 9) (i := 65) (ci := 3) (k := 5) C (by decide +kernel) fl_RX10_65 rfl rfl (fun x3 => ?_)
  refine zs_jn (pJ := 72) (kJ := 0) (sJ := 0) (fun t4 => [(1, sI t1.1)]) (fun t4 => []) (fun t4 => ?_) (fun J5 hJ5 => ?_)
  · refine zs_iload_n (pc := 72) (k := 1) (i := 1) C (by decide +kernel) rfl rfl ?_
    exact zs_retWi (pc := 73) C hr ⟨Nat.le_of_ble_eq_true rfl, Nat.le_of_ble_eq_true rfl⟩ (by decide +kernel)
  · refine zs_icmp_ge (pc := 12) (off := 60) (tgt := 72) C (by decide +kernel) (by decide) ?_ ?_
    · exact zs_goj (hJ5 ()) ⟨rfl, trivial⟩
    · refine zs_iload_n (pc := 15) (k := 2) (i := 2) C (by decide +kernel) rfl rfl ?_
      refine zs_iconst (pc := 16) (n := 4) (x := 4) C (by decide +kernel) (by decide +kernel) ?_
      refine zs_icmp_ge (pc := 17) (off := 55) (tgt := 72) C (by decide +kernel) (by decide) ?_ ?_
      · exact zs_goj (hJ5 ()) ⟨rfl, trivial⟩
      · refine zs_aload_n (pc := 20) (k := 0) (i := 0) C (by decide +kernel) rfl rfl ?_
        refine zs_getR (o' := 27) (pc := 21) (i := 21) (ci := 10) (k := 1) C (by decide +kernel) fl_RX10_21 rfl rfl rfl ?_
        refine zs_iload_n (pc := 24) (k := 2) (i := 2) C (by decide +kernel) rfl rfl ?_
        refine zs_cvRi (pc := 25) (As := [sI t1.2]) (st := []) C (Or.inr rfl) (c_X5_isParted l g t1.2) ml_RX10_116 rfl rfl rfl rfl (Nat.le_of_ble_eq_true rfl) ⟨Nat.le_of_ble_eq_true rfl, Nat.le_of_ble_eq_true rfl⟩ ⟨Nat.le_of_ble_eq_true rfl, Nat.le_of_ble_eq_true rfl⟩ (by decide +kernel) (fun x6 => ?_)
        refine zs_jn (pJ := 66) (kJ := 0) (sJ := 0) (fun t7 => [(0, sR 19), (1, sI t7), (2, sI t1.2)]) (fun t7 => []) (fun t7 => ?_) (fun J8 hJ8 => ?_)
        · refine zs_iinc (pc := 66) (i := 2) (n := 1) (y := w32 (t1.2 + 1)) (ls' := [(2, sI (w32 (t1.2 + 1))), (0, sR 19), (1, sI t7)]) C (by decide +kernel) rfl rfl (Nat.le_of_ble_eq_true rfl) rfl ?_
          refine zs_goto (pc := 69) (off := (-65)) (tgt := 4) C (by decide +kernel) (by decide) ?_
          exact zs_goj (hK2 (t7, w32 (t1.2 + 1))) ⟨rfl, rfl, rfl, trivial⟩
        · refine zs_if_ne (pc := 28) (off := 38) (tgt := 66) C (by decide +kernel) (by decide) ?_ ?_
          · exact zs_goj (hJ8 t1.1) ⟨rfl, rfl, rfl, trivial⟩
          · refine zs_aload_n (pc := 31) (k := 0) (i := 0) C (by decide +kernel) rfl rfl ?_
            refine zs_iload_n (pc := 32) (k := 2) (i := 2) C (by decide +kernel) rfl rfl ?_
            refine zs_cvRi (pc := 33) (As := [sI t1.2]) (st := []) C (Or.inl rfl) (c_X10_apart l g t1.2) ml_RX10_120 rfl rfl rfl rfl (Nat.le_of_ble_eq_true rfl) ⟨Nat.le_of_ble_eq_true rfl, Nat.le_of_ble_eq_true rfl⟩ ⟨Nat.le_of_ble_eq_true rfl, Nat.le_of_ble_eq_true rfl⟩ (by decide +kernel) (fun x9 => ?_)
            refine zs_aload_n (pc := 36) (k := 0) (i := 0) C (by decide +kernel) rfl rfl ?_
            refine zs_iload_n (pc := 37) (k := 2) (i := 2) C (by decide +kernel) rfl rfl ?_
            refine zs_aload_n (pc := 38) (k := 0) (i := 0) C (by decide +kernel) rfl rfl ?_
            refine zs_getR (o' := 20) (pc := 39) (i := 12) (ci := 10) (k := 0) C (by decide +kernel) fl_RX10_12 rfl rfl rfl ?_
            refine zs_getR (o' := 22) (pc := 42) (i := 77) (ci := 3) (k := 7) C (by decide +kernel) fl_RX10_77 rfl rfl rfl ?_
            refine zs_iload_n (pc := 45) (k := 2) (i := 2) C (by decide +kernel) rfl rfl ?_
            refine zs_iald (pc := 46) (o := 22) (n := 4) C (by decide +kernel) rfl (fun hinx10 x10 => ?_)
            refine zs_aload_n (pc := 47) (k := 0) (i := 0) C (by decide +kernel) rfl rfl ?_
            refine zs_getR (o' := 27) (pc := 48) (i := 21) (ci := 10) (k := 1) C (by decide +kernel) fl_RX10_21 rfl rfl rfl ?_
            refine zs_getI (pc := 51) (i := 122) (ci := 5) (k := 0) C (by decide +kernel) fl_RX10_122 rfl rfl (fun x11 => ?_)
            refine zs_cvWi (pc := 54) (As := [sI t1.2, sI x10, sI x11]) (st := [sI x9]) C (fun _ _ _ => rfl) (Or.inl rfl) (c_X10_lengthOf l g t1.2 x10 x11) ml_RX10_80 rfl rfl rfl rfl (Nat.le_of_ble_eq_true rfl) ⟨Nat.le_of_ble_eq_true rfl, Nat.le_of_ble_eq_true rfl⟩ ⟨Nat.le_of_ble_eq_true rfl, Nat.le_of_ble_eq_true rfl⟩ (by decide +kernel) (fun x12 => ?_)
            refine zs_icmp_le (pc := 57) (off := 9) (tgt := 66) C (by decide +kernel) (by decide) ?_ ?_
            · exact zs_goj (hJ8 t1.1) ⟨rfl, rfl, rfl, trivial⟩
            · refine zs_iload_n (pc := 60) (k := 1) (i := 1) C (by decide +kernel) rfl rfl ?_
              refine zs_iconst (pc := 61) (n := 1) (x := 1) C (by decide +kernel) (by decide +kernel) ?_
              refine zs_iload_n (pc := 62) (k := 2) (i := 2) C (by decide +kernel) rfl rfl ?_
              refine zs_ishl (pc := 63) C (by decide +kernel) ?_
              refine zs_ior (pc := 64) C (by decide +kernel) ?_
              refine zs_let (fun x13 => ?_)
              refine zs_istore_n (pc := 65) (k := 1) (i := 1) (ls' := [(1, sI x13), (0, sR 19), (2, sI t1.2)]) C (by decide +kernel) rfl (Nat.le_of_ble_eq_true rfl) rfl ?_
              exact zs_goj (hJ8 x13) ⟨rfl, rfl, rfl, trivial⟩
set_option maxRecDepth 20000 in
theorem c_X10_passHour (l : Launch) (g : GC)  : ConV l g yX10_passHour cX10_passHour 1 (rmd 4 0 0) [sR 19] (fun mm => fX10_passHour  mm) := by
  refine zs_ofV (by decide +kernel) (Nat.le_of_ble_eq_true rfl) ?_
  intro p e s m args below meth c C hr
  replace C : Bd g RX10 cX10_passHour 1 p s m args meth c := C
  unfold fX10_passHour
  refine zs_aload_n (pc := 0) (k := 0) (i := 0) C (by decide +kernel) rfl rfl ?_
  refine zs_getR (o' := 27) (pc := 1) (i := 21) (ci := 10) (k := 1) C (by decide +kernel) fl_RX10_21 rfl rfl rfl ?_
  refine zs_dup (pc := 4) C rfl (by decide +kernel) ?_
  refine zs_getI (pc := 5) (i := 122) (ci := 5) (k := 0) C (by decide +kernel) fl_RX10_122 rfl rfl (fun x1 => ?_)
  refine zs_iconst (pc := 8) (n := 1) (x := 1) C (by decide +kernel) (by decide +kernel) ?_
  refine zs_iadd (pc := 9) C (by decide +kernel) ?_
  refine zs_putI (pc := 10) (i := 122) (ci := 5) (k := 0) C (fun _ _ _ => rfl) (by decide +kernel) fl_RX10_122 fw_5_0 rfl rfl ?_
  refine zs_aload_n (pc := 13) (k := 0) (i := 0) C (by decide +kernel) rfl rfl ?_
  refine zs_getR (o' := 27) (pc := 14) (i := 21) (ci := 10) (k := 1) C (by decide +kernel) fl_RX10_21 rfl rfl rfl ?_
  refine zs_dup (pc := 17) C rfl (by decide +kernel) ?_
  refine zs_getI (pc := 18) (i := 125) (ci := 5) (k := 3) C (by decide +kernel) fl_RX10_125 rfl rfl (fun x2 => ?_)
  refine zs_aload_n (pc := 21) (k := 0) (i := 0) C (by decide +kernel) rfl rfl ?_
  refine zs_cvWi (pc := 22) (As := []) (st := [sI x2, sR 27]) C (fun _ _ _ => rfl) (Or.inl rfl) (c_X10_tooFarApart l g ) ml_RX10_128 rfl rfl rfl rfl (Nat.le_of_ble_eq_true rfl) ⟨Nat.le_of_ble_eq_true rfl, Nat.le_of_ble_eq_true rfl⟩ ⟨Nat.le_of_ble_eq_true rfl, Nat.le_of_ble_eq_true rfl⟩ (by decide +kernel) (fun x3 => ?_)
  refine zs_ior (pc := 25) C (by decide +kernel) ?_
  refine zs_putI (pc := 26) (i := 125) (ci := 5) (k := 3) C (fun _ _ _ => rfl) (by decide +kernel) fl_RX10_125 fw_5_3 rfl rfl ?_
  exact zs_retVv (pc := 29) C hr ⟨Nat.le_of_ble_eq_true rfl, Nat.le_of_ble_eq_true rfl⟩ (by decide +kernel)
set_option maxRecDepth 20000 in
theorem c_X11_step (l : Launch) (g : GC) (a0 : Int) (a1 : Int) (a2 : Int) : ConW l g yX11_step cX11_step 5 (some .int) (rmd 5 0 0) [sR 0, sI a0, sI a1, sI a2] (fun mm => fX11_step a0 a1 a2 mm) := by
  refine zs_ofW (by decide +kernel) (Nat.le_of_ble_eq_true rfl) ?_
  intro p e s m args below meth c C hr
  replace C : Bd g RX11 cX11_step 5 p s m args meth c := C
  unfold fX11_step
  refine zs_aload_n (pc := 0) (k := 0) (i := 0) C (by decide +kernel) rfl rfl ?_
  refine zs_getR (o' := 19) (pc := 1) (i := 41) (ci := 11) (k := 6) C (by decide +kernel) fl_RX11_41 rfl rfl rfl ?_
  refine zs_iload_n (pc := 4) (k := 1) (i := 1) C (by decide +kernel) rfl rfl ?_
  refine zs_iload_n (pc := 5) (k := 2) (i := 2) C (by decide +kernel) rfl rfl ?_
  refine zs_iload_n (pc := 6) (k := 3) (i := 3) C (by decide +kernel) rfl rfl ?_
  refine zs_cvWi (pc := 7) (As := [sI a0, sI a1, sI a2]) (st := []) C (fun _ _ _ => rfl) (Or.inl rfl) (c_X10_whyNoStep l g a0 a1 a2) ml_RX11_192 rfl rfl rfl rfl (Nat.le_of_ble_eq_true rfl) ⟨Nat.le_of_ble_eq_true rfl, Nat.le_of_ble_eq_true rfl⟩ ⟨Nat.le_of_ble_eq_true rfl, Nat.le_of_ble_eq_true rfl⟩ (by decide +kernel) (fun x1 => ?_)
  refine zs_istore (pc := 10) (i := 4) (ls' := [(4, sI x1), (0, sR 0), (1, sI a0), (2, sI a1), (3, sI a2)]) C (by decide +kernel) (Nat.le_of_ble_eq_true rfl) rfl ?_
  refine zs_iload (pc := 12) (i := 4) C (by decide +kernel) rfl ?_
  refine zs_if_eq (pc := 14) (off := 7) (tgt := 21) C (by decide +kernel) (by decide) ?_ ?_
  · refine zs_aload_n (pc := 21) (k := 0) (i := 0) C (by decide +kernel) rfl rfl ?_
    refine zs_getR (o' := 19) (pc := 22) (i := 41) (ci := 11) (k := 6) C (by decide +kernel) fl_RX11_41 rfl rfl rfl ?_
    refine zs_cvVv (pc := 25) (As := []) (st := []) C (fun _ _ _ => rfl) (c_X10_remember l g ) ml_RX11_196 rfl rfl rfl rfl (Nat.le_of_ble_eq_true rfl) ⟨Nat.le_of_ble_eq_true rfl, Nat.le_of_ble_eq_true rfl⟩ ⟨Nat.le_of_ble_eq_true rfl, Nat.le_of_ble_eq_true rfl⟩ (by decide +kernel) ?_
    refine zs_aload_n (pc := 28) (k := 0) (i := 0) C (by decide +kernel) rfl rfl ?_
    refine zs_getR (o' := 19) (pc := 29) (i := 41) (ci := 11) (k := 6) C (by decide +kernel) fl_RX11_41 rfl rfl rfl ?_
    refine zs_iload_n (pc := 32) (k := 1) (i := 1) C (by decide +kernel) rfl rfl ?_
    refine zs_iload_n (pc := 33) (k := 2) (i := 2) C (by decide +kernel) rfl rfl ?_
    refine zs_iload_n (pc := 34) (k := 3) (i := 3) C (by decide +kernel) rfl rfl ?_
    refine zs_cvVv (pc := 35) (As := [sI a0, sI a1, sI a2]) (st := []) C (fun _ _ _ => rfl) (c_X10_walk l g a0 a1 a2) ml_RX11_199 rfl rfl rfl rfl (Nat.le_of_ble_eq_true rfl) ⟨Nat.le_of_ble_eq_true rfl, Nat.le_of_ble_eq_true rfl⟩ ⟨Nat.le_of_ble_eq_true rfl, Nat.le_of_ble_eq_true rfl⟩ (by decide +kernel) ?_
    refine zs_aload_n (pc := 38) (k := 0) (i := 0) C (by decide +kernel) rfl rfl ?_
    refine zs_getR (o' := 19) (pc := 39) (i := 41) (ci := 11) (k := 6) C (by decide +kernel) fl_RX11_41 rfl rfl rfl ?_
    refine zs_cvVv (pc := 42) (As := []) (st := []) C (fun _ _ _ => rfl) (c_X10_passHour l g ) ml_RX11_202 rfl rfl rfl rfl (Nat.le_of_ble_eq_true rfl) ⟨Nat.le_of_ble_eq_true rfl, Nat.le_of_ble_eq_true rfl⟩ ⟨Nat.le_of_ble_eq_true rfl, Nat.le_of_ble_eq_true rfl⟩ (by decide +kernel) ?_
    refine zs_aload_n (pc := 45) (k := 0) (i := 0) C (by decide +kernel) rfl rfl ?_
    refine zs_getR (o' := 19) (pc := 46) (i := 41) (ci := 11) (k := 6) C (by decide +kernel) fl_RX11_41 rfl rfl rfl ?_
    refine zs_iload_n (pc := 49) (k := 1) (i := 1) C (by decide +kernel) rfl rfl ?_
    refine zs_cvRi (pc := 50) (As := [sI a0]) (st := []) C (Or.inl rfl) (c_X10_apart l g a0) ml_RX11_153 rfl rfl rfl rfl (Nat.le_of_ble_eq_true rfl) ⟨Nat.le_of_ble_eq_true rfl, Nat.le_of_ble_eq_true rfl⟩ ⟨Nat.le_of_ble_eq_true rfl, Nat.le_of_ble_eq_true rfl⟩ (by decide +kernel) (fun x2 => ?_)
    exact zs_retWi (pc := 53) C hr ⟨Nat.le_of_ble_eq_true rfl, Nat.le_of_ble_eq_true rfl⟩ (by decide +kernel)
  · refine zs_iload (pc := 17) (i := 4) C (by decide +kernel) rfl ?_
    refine zs_ineg (pc := 19) C (by decide +kernel) ?_
    exact zs_retWi (pc := 20) C hr ⟨Nat.le_of_ble_eq_true rfl, Nat.le_of_ble_eq_true rfl⟩ (by decide +kernel)
set_option maxRecDepth 20000 in
theorem c_X2_measure (l : Launch) (g : GC)  : ConV l g yX2_measure cX2_measure 3 (rmd 4 0 0) [sR 105, sR 19] (fun mm => fX2_measure  mm) := by
  refine zs_ofV (by decide +kernel) (Nat.le_of_ble_eq_true rfl) ?_
  intro p e s m args below meth c C hr
  replace C : Bd g RX2 cX2_measure 3 p s m args meth c := C
  unfold fX2_measure
  refine zs_iconst (pc := 0) (n := 0) (x := 0) C (by decide +kernel) (by decide +kernel) ?_
  refine zs_istore_n (pc := 1) (k := 2) (i := 2) (ls' := [(2, sI 0), (0, sR 105), (1, sR 19)]) C (by decide +kernel) rfl (Nat.le_of_ble_eq_true rfl) rfl ?_
  refine zs_sub (ls' := [(0, sR 105), (1, sR 19), (2, sI 0)]) ⟨rfl, rfl, rfl, trivial⟩ ?_
  refine zs_lp (pc := 2) (fun (t1 : Int) => [(0, sR 105), (1, sR 19), (2, sI t1)]) (fun _ => []) (fun K2 hK2 t1 => ?_) BIG 0
  refine zs_iload_n (pc := 2) (k := 2) (i := 2) C (by decide +kernel) rfl rfl ?_
  refine zs_aload_n (pc := 3) (k := 1) (i := 1) C (by decide +kernel) rfl rfl ?_
  refine zs_getR (o' := 20) (pc := 4) (i := 24) (ci := 10) (k := 0) C (by decide +kernel) fl_RX2_24 rfl rfl rfl ?_
  refine zs_getI (pc := 7) (i := 30) (ci := 3) (k := 5) C (by decide +kernel) fl_RX2_30 rfl rfl (fun x3 => ?_)
  refine zs_icmp_ge (pc := 10) (off := 43) (tgt := 53) C (by decide +kernel) (by decide) ?_ ?_
  · exact zs_retVv (pc := 53) C hr ⟨Nat.le_of_ble_eq_true rfl, Nat.le_of_ble_eq_true rfl⟩ (by decide +kernel)
  · refine zs_aload_n (pc := 13) (k := 0) (i := 0) C (by decide +kernel) rfl rfl ?_
    refine zs_getR (o' := 108) (pc := 14) (i := 18) (ci := 2) (k := 2) C (by decide +kernel) fl_RX2_18 rfl rfl rfl ?_
    refine zs_iload_n (pc := 17) (k := 2) (i := 2) C (by decide +kernel) rfl rfl ?_
    refine zs_aload_n (pc := 18) (k := 1) (i := 1) C (by decide +kernel) rfl rfl ?_
    refine zs_getR (o' := 27) (pc := 19) (i := 36) (ci := 10) (k := 1) C (by decide +kernel) fl_RX2_36 rfl rfl rfl ?_
    refine zs_iload_n (pc := 22) (k := 2) (i := 2) C (by decide +kernel) rfl rfl ?_
    refine zs_cvRi (pc := 23) (As := [sI t1]) (st := [sI t1, sR 108]) C (Or.inr rfl) (c_X5_isParted l g t1) ml_RX2_40 rfl rfl rfl rfl (Nat.le_of_ble_eq_true rfl) ⟨Nat.le_of_ble_eq_true rfl, Nat.le_of_ble_eq_true rfl⟩ ⟨Nat.le_of_ble_eq_true rfl, Nat.le_of_ble_eq_true rfl⟩ (by decide +kernel) (fun x4 => ?_)
    refine zs_jn (pJ := 46) (kJ := 0) (sJ := 0) (fun t5 => [(0, sR 105), (1, sR 19), (2, sI t1)]) (fun t5 => [sI t5, sI t1, sR 108]) (fun t5 => ?_) (fun J6 hJ6 => ?_)
    · refine zs_iast (pc := 46) (o := 108) (n := 4) C (fun _ _ _ => rfl) (by decide +kernel) rfl ?_
      refine zs_iinc (pc := 47) (i := 2) (n := 1) (y := w32 (t1 + 1)) (ls' := [(2, sI (w32 (t1 + 1))), (0, sR 105), (1, sR 19)]) C (by decide +kernel) rfl rfl (Nat.le_of_ble_eq_true rfl) rfl ?_
      refine zs_goto (pc := 50) (off := (-48)) (tgt := 2) C (by decide +kernel) (by decide) ?_
      exact zs_goj (hK2 (w32 (t1 + 1))) ⟨rfl, rfl, rfl, trivial⟩
    · refine zs_if_eq (pc := 26) (off := 8) (tgt := 34) C (by decide +kernel) (by decide) ?_ ?_
      · refine zs_aload_n (pc := 34) (k := 1) (i := 1) C (by decide +kernel) rfl rfl ?_
        refine zs_iload_n (pc := 35) (k := 2) (i := 2) C (by decide +kernel) rfl rfl ?_
        refine zs_aload_n (pc := 36) (k := 1) (i := 1) C (by decide +kernel) rfl rfl ?_
        refine zs_getR (o' := 27) (pc := 37) (i := 36) (ci := 10) (k := 1) C (by decide +kernel) fl_RX2_36 rfl rfl rfl ?_
        refine zs_getI (pc := 40) (i := 46) (ci := 5) (k := 0) C (by decide +kernel) fl_RX2_46 rfl rfl (fun x7 => ?_)
        refine zs_cvWi (pc := 43) (As := [sI t1, sI x7]) (st := [sI t1, sR 108]) C (fun _ _ _ => rfl) (Or.inl rfl) (c_X10_ropeIn l g t1 x7) ml_RX2_49 rfl rfl rfl rfl (Nat.le_of_ble_eq_true rfl) ⟨Nat.le_of_ble_eq_true rfl, Nat.le_of_ble_eq_true rfl⟩ ⟨Nat.le_of_ble_eq_true rfl, Nat.le_of_ble_eq_true rfl⟩ (by decide +kernel) (fun x8 => ?_)
        exact zs_goj (hJ6 x8) ⟨rfl, rfl, rfl, trivial⟩
      · refine zs_bipush (pc := 29) (n := 8) (x := 8) C (by decide +kernel) (by decide +kernel) ?_
        refine zs_goto (pc := 31) (off := 15) (tgt := 46) C (by decide +kernel) (by decide) ?_
        exact zs_goj (hJ6 8) ⟨rfl, rfl, rfl, trivial⟩
set_option maxRecDepth 20000 in
theorem c_J7_fill_53178 (l : Launch) (g : GC) (a0 : Nat) (n0 : Nat) (a1 : Int) (h0_ : layL[a0]? = some (.inr (0, n0))) : ConV l g yJ7_fill_53178 cJ7_fill_53178 4 (rmd 1 0 0) [sR a0, sI a1] (fun mm => fJ7_fill_53178 a0 n0 a1 mm) := by
  refine zs_ofV (by decide +kernel) (Nat.le_of_ble_eq_true rfl) ?_
  intro p e s m args below meth c C hr
  replace C : Bd g RJ7 cJ7_fill_53178 4 p s m args meth c := C
  unfold fJ7_fill_53178
  refine zs_iconst (pc := 0) (n := 0) (x := 0) C (by decide +kernel) (by decide +kernel) ?_
  refine zs_istore_n (pc := 1) (k := 2) (i := 2) (ls' := [(2, sI 0), (0, sR a0), (1, sI a1)]) C (by decide +kernel) rfl (Nat.le_of_ble_eq_true rfl) rfl ?_
  refine zs_aload_n (pc := 2) (k := 0) (i := 0) C (by decide +kernel) rfl rfl ?_
  refine zs_alen (pc := 3) (o := a0) (n := n0) (x := ((n0 : Nat) : Int)) C (by decide +kernel) h0_ (by decide) (ly_len h0_) ?_
  refine zs_let (fun x1 => ?_)
  refine zs_istore_n (pc := 4) (k := 3) (i := 3) (ls' := [(3, sI x1), (2, sI 0), (0, sR a0), (1, sI a1)]) C (by decide +kernel) rfl (Nat.le_of_ble_eq_true rfl) rfl ?_
  refine zs_sub (ls' := [(0, sR a0), (1, sI a1), (2, sI 0), (3, sI x1)]) ⟨rfl, rfl, rfl, rfl, trivial⟩ ?_
  refine zs_lp (pc := 5) (fun (t2 : Int) => [(0, sR a0), (1, sI a1), (2, sI t2), (3, sI x1)]) (fun _ => []) (fun K3 hK3 t2 => ?_) BIG 0
  refine zs_iload_n (pc := 5) (k := 2) (i := 2) C (by decide +kernel) rfl rfl ?_
  refine zs_iload_n (pc := 6) (k := 3) (i := 3) C (by decide +kernel) rfl rfl ?_
  refine zs_icmp_ge (pc := 7) (off := 13) (tgt := 20) C (by decide +kernel) (by decide) ?_ ?_
  · exact zs_retVv (pc := 20) C hr ⟨Nat.le_of_ble_eq_true rfl, Nat.le_of_ble_eq_true rfl⟩ (by decide +kernel)
  · refine zs_aload_n (pc := 10) (k := 0) (i := 0) C (by decide +kernel) rfl rfl ?_
    refine zs_iload_n (pc := 11) (k := 2) (i := 2) C (by decide +kernel) rfl rfl ?_
    refine zs_iload_n (pc := 12) (k := 1) (i := 1) C (by decide +kernel) rfl rfl ?_
    refine zs_iast (pc := 13) (o := a0) (n := n0) C (fun _ _ _ => rfl) (by decide +kernel) h0_ ?_
    refine zs_iinc (pc := 14) (i := 2) (n := 1) (y := w32 (t2 + 1)) (ls' := [(2, sI (w32 (t2 + 1))), (0, sR a0), (1, sI a1), (3, sI x1)]) C (by decide +kernel) rfl rfl (Nat.le_of_ble_eq_true rfl) rfl ?_
    refine zs_goto (pc := 17) (off := (-12)) (tgt := 5) C (by decide +kernel) (by decide) ?_
    exact zs_goj (hK3 (w32 (t2 + 1))) ⟨rfl, rfl, rfl, rfl, trivial⟩
set_option maxRecDepth 20000 in
theorem c_J6_bitCount_0f7a4 (l : Launch) (g : GC) (a0 : Int) : ConR l g yJ6_bitCount_0f7a4 cJ6_bitCount_0f7a4 1 (some .int) (rmd 1 0 0) [sI a0] (fun mm => fJ6_bitCount_0f7a4 a0 mm) := by
  refine zs_ofR (by decide +kernel) (Nat.le_of_ble_eq_true rfl) ?_
  intro p e s m args below meth c C hr
  replace C : Bd g RJ6 cJ6_bitCount_0f7a4 1 p s m args meth c := C
  unfold fJ6_bitCount_0f7a4
  refine zs_iload_n (pc := 0) (k := 0) (i := 0) C (by decide +kernel) rfl rfl ?_
  refine zs_iload_n (pc := 1) (k := 0) (i := 0) C (by decide +kernel) rfl rfl ?_
  refine zs_iconst (pc := 2) (n := 1) (x := 1) C (by decide +kernel) (by decide +kernel) ?_
  refine zs_iushr (pc := 3) C (by decide +kernel) ?_
  refine zs_ldcw (pc := 4) (i := 265) (v := 1431655765) (x := 1431655765) C (by decide +kernel) wf_754 (by decide +kernel) ?_
  refine zs_iand (pc := 7) C (by decide +kernel) ?_
  refine zs_isub (pc := 8) C (by decide +kernel) ?_
  refine zs_let (fun x1 => ?_)
  refine zs_istore_n (pc := 9) (k := 0) (i := 0) (ls' := [(0, sI x1)]) C (by decide +kernel) rfl (Nat.le_of_ble_eq_true rfl) rfl ?_
  refine zs_iload_n (pc := 10) (k := 0) (i := 0) C (by decide +kernel) rfl rfl ?_
  refine zs_ldcw (pc := 11) (i := 266) (v := 858993459) (x := 858993459) C (by decide +kernel) wf_755 (by decide +kernel) ?_
  refine zs_iand (pc := 14) C (by decide +kernel) ?_
  refine zs_iload_n (pc := 15) (k := 0) (i := 0) C (by decide +kernel) rfl rfl ?_
  refine zs_iconst (pc := 16) (n := 2) (x := 2) C (by decide +kernel) (by decide +kernel) ?_
  refine zs_iushr (pc := 17) C (by decide +kernel) ?_
  refine zs_ldcw (pc := 18) (i := 266) (v := 858993459) (x := 858993459) C (by decide +kernel) wf_755 (by decide +kernel) ?_
  refine zs_iand (pc := 21) C (by decide +kernel) ?_
  refine zs_iadd (pc := 22) C (by decide +kernel) ?_
  refine zs_let (fun x2 => ?_)
  refine zs_istore_n (pc := 23) (k := 0) (i := 0) (ls' := [(0, sI x2)]) C (by decide +kernel) rfl (Nat.le_of_ble_eq_true rfl) rfl ?_
  refine zs_iload_n (pc := 24) (k := 0) (i := 0) C (by decide +kernel) rfl rfl ?_
  refine zs_iload_n (pc := 25) (k := 0) (i := 0) C (by decide +kernel) rfl rfl ?_
  refine zs_iconst (pc := 26) (n := 4) (x := 4) C (by decide +kernel) (by decide +kernel) ?_
  refine zs_iushr (pc := 27) C (by decide +kernel) ?_
  refine zs_iadd (pc := 28) C (by decide +kernel) ?_
  refine zs_ldcw (pc := 29) (i := 267) (v := 252645135) (x := 252645135) C (by decide +kernel) wf_756 (by decide +kernel) ?_
  refine zs_iand (pc := 32) C (by decide +kernel) ?_
  refine zs_let (fun x3 => ?_)
  refine zs_istore_n (pc := 33) (k := 0) (i := 0) (ls' := [(0, sI x3)]) C (by decide +kernel) rfl (Nat.le_of_ble_eq_true rfl) rfl ?_
  refine zs_iload_n (pc := 34) (k := 0) (i := 0) C (by decide +kernel) rfl rfl ?_
  refine zs_iload_n (pc := 35) (k := 0) (i := 0) C (by decide +kernel) rfl rfl ?_
  refine zs_bipush (pc := 36) (n := 8) (x := 8) C (by decide +kernel) (by decide +kernel) ?_
  refine zs_iushr (pc := 38) C (by decide +kernel) ?_
  refine zs_iadd (pc := 39) C (by decide +kernel) ?_
  refine zs_let (fun x4 => ?_)
  refine zs_istore_n (pc := 40) (k := 0) (i := 0) (ls' := [(0, sI x4)]) C (by decide +kernel) rfl (Nat.le_of_ble_eq_true rfl) rfl ?_
  refine zs_iload_n (pc := 41) (k := 0) (i := 0) C (by decide +kernel) rfl rfl ?_
  refine zs_iload_n (pc := 42) (k := 0) (i := 0) C (by decide +kernel) rfl rfl ?_
  refine zs_bipush (pc := 43) (n := 16) (x := 16) C (by decide +kernel) (by decide +kernel) ?_
  refine zs_iushr (pc := 45) C (by decide +kernel) ?_
  refine zs_iadd (pc := 46) C (by decide +kernel) ?_
  refine zs_let (fun x5 => ?_)
  refine zs_istore_n (pc := 47) (k := 0) (i := 0) (ls' := [(0, sI x5)]) C (by decide +kernel) rfl (Nat.le_of_ble_eq_true rfl) rfl ?_
  refine zs_iload_n (pc := 48) (k := 0) (i := 0) C (by decide +kernel) rfl rfl ?_
  refine zs_bipush (pc := 49) (n := 63) (x := 63) C (by decide +kernel) (by decide +kernel) ?_
  refine zs_iand (pc := 51) C (by decide +kernel) ?_
  exact zs_retRi (pc := 52) C hr ⟨Nat.le_of_ble_eq_true rfl, Nat.le_of_ble_eq_true rfl⟩ (by decide +kernel)
set_option maxRecDepth 20000 in
theorem c_X2_canHave (l : Launch) (g : GC) (a1 : Int) (a2 : Int) (a3 : Int) (a4 : Int) : ConR l g yX2_canHave cX2_canHave 7 (some .boolean) (rmd 2 0 0) [sR 105, sR 20, sI a1, sI a2, sI a3, sI a4] (fun mm => fX2_canHave a1 a2 a3 a4 mm) := by
  refine zs_ofR (by decide +kernel) (Nat.le_of_ble_eq_true rfl) ?_
  intro p e s m args below meth c C hr
  replace C : Bd g RX2 cX2_canHave 7 p s m args meth c := C
  unfold fX2_canHave
  refine zs_iload (pc := 0) (i := 4) C (by decide +kernel) rfl ?_
  refine zs_iload (pc := 2) (i := 5) C (by decide +kernel) rfl ?_
  refine zs_jn (pJ := 30) (kJ := 0) (sJ := 0) (fun t1 => [(0, sR 105), (1, sR 20), (2, sI a1), (4, sI a3), (5, sI a4)]) (fun t1 => [sI t1]) (fun t1 => ?_) (fun J2 hJ2 => ?_)
  · refine zs_istore (pc := 30) (i := 6) (ls' := [(6, sI t1), (0, sR 105), (1, sR 20), (2, sI a1), (4, sI a3), (5, sI a4)]) C (by decide +kernel) (Nat.le_of_ble_eq_true rfl) rfl ?_
    refine zs_iload (pc := 32) (i := 6) C (by decide +kernel) rfl ?_
    refine zs_jn (pJ := 69) (kJ := 0) (sJ := 0) (fun t3 => []) (fun t3 => [sI t3]) (fun t3 => ?_) (fun J4 hJ4 => ?_)
    · refine zs_chk (fun _ hx => ?_)
      exact zs_retRz (pc := 69) C hx hr ⟨Nat.le_of_ble_eq_true rfl, Nat.le_of_ble_eq_true rfl⟩ (by decide +kernel)
    · refine zs_jn (pJ := 68) (kJ := 0) (sJ := 0) (fun t5 => []) (fun t5 => []) (fun t5 => ?_) (fun J6 hJ6 => ?_)
      · refine zs_iconst (pc := 68) (n := 0) (x := 0) C (by decide +kernel) (by decide +kernel) ?_
        exact zs_goj (hJ4 0) trivial
      · refine zs_if_eq (pc := 34) (off := 34) (tgt := 68) C (by decide +kernel) (by decide) ?_ ?_
        · exact zs_goj (hJ6 ()) trivial
        · refine zs_aload_n (pc := 37) (k := 1) (i := 1) C (by decide +kernel) rfl rfl ?_
          refine zs_aload_n (pc := 38) (k := 1) (i := 1) C (by decide +kernel) rfl rfl ?_
          refine zs_getR (o' := 21) (pc := 39) (i := 53) (ci := 3) (k := 6) C (by decide +kernel) fl_RX2_53 rfl rfl rfl ?_
          refine zs_iload (pc := 42) (i := 4) C (by decide +kernel) rfl ?_
          refine zs_iald (pc := 44) (o := 21) (n := 8) C (by decide +kernel) rfl (fun hinx7 x7 => ?_)
          refine zs_aload_n (pc := 45) (k := 1) (i := 1) C (by decide +kernel) rfl rfl ?_
          refine zs_getR (o' := 21) (pc := 46) (i := 53) (ci := 3) (k := 6) C (by decide +kernel) fl_RX2_53 rfl rfl rfl ?_
          refine zs_iload (pc := 49) (i := 5) C (by decide +kernel) rfl ?_
          refine zs_iald (pc := 51) (o := 21) (n := 8) C (by decide +kernel) rfl (fun hinx8 x8 => ?_)
          refine zs_cvRi (pc := 52) (As := [sI x7, sI x8]) (st := []) C (Or.inl rfl) (c_X3_apart l g x7 x8) ml_RX2_56 rfl rfl rfl rfl (Nat.le_of_ble_eq_true rfl) ⟨Nat.le_of_ble_eq_true rfl, Nat.le_of_ble_eq_true rfl⟩ ⟨Nat.le_of_ble_eq_true rfl, Nat.le_of_ble_eq_true rfl⟩ (by decide +kernel) (fun x9 => ?_)
          refine zs_aload_n (pc := 55) (k := 0) (i := 0) C (by decide +kernel) rfl rfl ?_
          refine zs_getR (o' := 108) (pc := 56) (i := 18) (ci := 2) (k := 2) C (by decide +kernel) fl_RX2_18 rfl rfl rfl ?_
          refine zs_iload_n (pc := 59) (k := 2) (i := 2) C (by decide +kernel) rfl rfl ?_
          refine zs_iald (pc := 60) (o := 108) (n := 4) C (by decide +kernel) rfl (fun hinx10 x10 => ?_)
          refine zs_icmp_gt (pc := 61) (off := 7) (tgt := 68) C (by decide +kernel) (by decide) ?_ ?_
          · exact zs_goj (hJ6 ()) trivial
          · refine zs_iconst (pc := 64) (n := 1) (x := 1) C (by decide +kernel) (by decide +kernel) ?_
            refine zs_goto (pc := 65) (off := 4) (tgt := 69) C (by decide +kernel) (by decide) ?_
            exact zs_goj (hJ4 1) trivial
  · refine zs_jn (pJ := 29) (kJ := 0) (sJ := 0) (fun t11 => [(0, sR 105), (1, sR 20), (2, sI a1), (4, sI a3), (5, sI a4)]) (fun t11 => []) (fun t11 => ?_) (fun J12 hJ12 => ?_)
    · refine zs_iconst (pc := 29) (n := 0) (x := 0) C (by decide +kernel) (by decide +kernel) ?_
      exact zs_goj (hJ2 0) ⟨rfl, rfl, rfl, rfl, rfl, trivial⟩
    · refine zs_icmp_eq (pc := 4) (off := 25) (tgt := 29) C (by decide +kernel) (by decide) ?_ ?_
      · exact zs_goj (hJ12 ()) ⟨rfl, rfl, rfl, rfl, rfl, trivial⟩
      · refine zs_iload_n (pc := 7) (k := 3) (i := 3) C (by decide +kernel) rfl rfl ?_
        refine zs_iload (pc := 8) (i := 4) C (by decide +kernel) rfl ?_
        refine zs_iushr (pc := 10) C (by decide +kernel) ?_
        refine zs_iconst (pc := 11) (n := 1) (x := 1) C (by decide +kernel) (by decide +kernel) ?_
        refine zs_iand (pc := 12) C (by decide +kernel) ?_
        refine zs_if_ne (pc := 13) (off := 16) (tgt := 29) C (by decide +kernel) (by decide) ?_ ?_
        · exact zs_goj (hJ12 ()) ⟨rfl, rfl, rfl, rfl, rfl, trivial⟩
        · refine zs_iload_n (pc := 16) (k := 3) (i := 3) C (by decide +kernel) rfl rfl ?_
          refine zs_iload (pc := 17) (i := 5) C (by decide +kernel) rfl ?_
          refine zs_iushr (pc := 19) C (by decide +kernel) ?_
          refine zs_iconst (pc := 20) (n := 1) (x := 1) C (by decide +kernel) (by decide +kernel) ?_
          refine zs_iand (pc := 21) C (by decide +kernel) ?_
          refine zs_if_ne (pc := 22) (off := 7) (tgt := 29) C (by decide +kernel) (by decide) ?_ ?_
          · exact zs_goj (hJ12 ()) ⟨rfl, rfl, rfl, rfl, rfl, trivial⟩
          · refine zs_iconst (pc := 25) (n := 1) (x := 1) C (by decide +kernel) (by decide +kernel) ?_
            refine zs_goto (pc := 26) (off := 4) (tgt := 30) C (by decide +kernel) (by decide) ?_
            exact zs_goj (hJ2 1) ⟨rfl, rfl, rfl, rfl, rfl, trivial⟩
set_option maxRecDepth 20000 in
theorem c_X2_pushFrom (l : Launch) (g : GC) (a1 : Int) (a2 : Int) (a3 : Int) : ConV l g yX2_pushFrom cX2_pushFrom 8 (rmd 3 0 0) [sR 105, sR 19, sI a1, sI a2, sI a3] (fun mm => fX2_pushFrom a1 a2 a3 mm) := by
  refine zs_ofV (by decide +kernel) (Nat.le_of_ble_eq_true rfl) ?_
  intro p e s m args below meth c C hr
  replace C : Bd g RX2 cX2_pushFrom 8 p s m args meth c := C
  unfold fX2_pushFrom
  refine zs_aload_n (pc := 0) (k := 1) (i := 1) C (by decide +kernel) rfl rfl ?_
  refine zs_getR (o' := 20) (pc := 1) (i := 24) (ci := 10) (k := 0) C (by decide +kernel) fl_RX2_24 rfl rfl rfl ?_
  refine zs_getI (pc := 4) (i := 59) (ci := 3) (k := 4) C (by decide +kernel) fl_RX2_59 rfl rfl (fun x1 => ?_)
  refine zs_istore (pc := 7) (i := 5) (ls' := [(5, sI x1), (0, sR 105), (1, sR 19), (2, sI a1), (3, sI a2), (4, sI a3)]) C (by decide +kernel) (Nat.le_of_ble_eq_true rfl) rfl ?_
  refine zs_iconst (pc := 9) (n := 0) (x := 0) C (by decide +kernel) (by decide +kernel) ?_
  refine zs_istore (pc := 10) (i := 6) (ls' := [(6, sI 0), (5, sI x1), (0, sR 105), (1, sR 19), (2, sI a1), (3, sI a2), (4, sI a3)]) C (by decide +kernel) (Nat.le_of_ble_eq_true rfl) rfl ?_
  refine zs_sub (ls' := [(0, sR 105), (1, sR 19), (2, sI a1), (3, sI a2), (4, sI a3), (5, sI x1), (6, sI 0)]) ⟨rfl, rfl, rfl, rfl, rfl, rfl, rfl, trivial⟩ ?_
  refine zs_lp (pc := 12) (fun (t2 : Int) => [(0, sR 105), (1, sR 19), (2, sI a1), (3, sI a2), (4, sI a3), (5, sI x1), (6, sI t2)]) (fun _ => []) (fun K3 hK3 t2 => ?_) BIG 0
  refine zs_iload (pc := 12) (i := 6) C (by decide +kernel) rfl ?_
  refine zs_iload (pc := 14) (i := 5) C (by decide +kernel) rfl ?_
  refine zs_icmp_ge (pc := 16) (off := 70) (tgt := 86) C (by decide +kernel) (by decide) ?_ ?_
  · exact zs_retVv (pc := 86) C hr ⟨Nat.le_of_ble_eq_true rfl, Nat.le_of_ble_eq_true rfl⟩ (by decide +kernel)
  · refine zs_iconst (pc := 19) (n := 0) (x := 0) C (by decide +kernel) (by decide +kernel) ?_
    refine zs_istore (pc := 20) (i := 7) (ls' := [(7, sI 0), (0, sR 105), (1, sR 19), (2, sI a1), (3, sI a2), (4, sI a3), (5, sI x1), (6, sI t2)]) C (by decide +kernel) (Nat.le_of_ble_eq_true rfl) rfl ?_
    refine zs_sub (ls' := [(0, sR 105), (1, sR 19), (2, sI a1), (3, sI a2), (4, sI a3), (5, sI x1), (6, sI t2), (7, sI 0)]) ⟨rfl, rfl, rfl, rfl, rfl, rfl, rfl, rfl, trivial⟩ ?_
    refine zs_lp (pc := 22) (fun (t4 : Int) => [(0, sR 105), (1, sR 19), (2, sI a1), (3, sI a2), (4, sI a3), (5, sI x1), (6, sI t2), (7, sI t4)]) (fun _ => []) (fun K5 hK5 t4 => ?_) BIG 0
    refine zs_iload (pc := 22) (i := 7) C (by decide +kernel) rfl ?_
    refine zs_iload (pc := 24) (i := 5) C (by decide +kernel) rfl ?_
    refine zs_icmp_ge (pc := 26) (off := 54) (tgt := 80) C (by decide +kernel) (by decide) ?_ ?_
    · refine zs_iinc (pc := 80) (i := 6) (n := 1) (y := w32 (t2 + 1)) (ls' := [(6, sI (w32 (t2 + 1))), (0, sR 105), (1, sR 19), (2, sI a1), (3, sI a2), (4, sI a3), (5, sI x1), (7, sI t4)]) C (by decide +kernel) rfl rfl (Nat.le_of_ble_eq_true rfl) rfl ?_
      refine zs_goto (pc := 83) (off := (-71)) (tgt := 12) C (by decide +kernel) (by decide) ?_
      exact zs_goj (hK3 (w32 (t2 + 1))) ⟨rfl, rfl, rfl, rfl, rfl, rfl, rfl, trivial⟩
    · refine zs_aload_n (pc := 29) (k := 0) (i := 0) C (by decide +kernel) rfl rfl ?_
      refine zs_aload_n (pc := 30) (k := 1) (i := 1) C (by decide +kernel) rfl rfl ?_
      refine zs_getR (o' := 20) (pc := 31) (i := 24) (ci := 10) (k := 0) C (by decide +kernel) fl_RX2_24 rfl rfl rfl ?_
      refine zs_iload_n (pc := 34) (k := 3) (i := 3) C (by decide +kernel) rfl rfl ?_
      refine zs_iload_n (pc := 35) (k := 2) (i := 2) C (by decide +kernel) rfl rfl ?_
      refine zs_iload (pc := 36) (i := 4) C (by decide +kernel) rfl ?_
      refine zs_ior (pc := 38) C (by decide +kernel) ?_
      refine zs_iload (pc := 39) (i := 6) C (by decide +kernel) rfl ?_
      refine zs_iload (pc := 41) (i := 7) C (by decide +kernel) rfl ?_
      refine zs_cvRi (pc := 43) (As := [sR 20, sI a2, sI (ior a1 a3), sI t2, sI t4]) (st := []) C (Or.inr rfl) (c_X2_canHave l g a2 (ior a1 a3) t2 t4) ml_RX2_82 rfl rfl rfl rfl (Nat.le_of_ble_eq_true rfl) ⟨Nat.le_of_ble_eq_true rfl, Nat.le_of_ble_eq_true rfl⟩ ⟨Nat.le_of_ble_eq_true rfl, Nat.le_of_ble_eq_true rfl⟩ (by decide +kernel) (fun x6 => ?_)
      refine zs_jn (pJ := 74) (kJ := 0) (sJ := 0) (fun t7 => [(0, sR 105), (1, sR 19), (2, sI a1), (3, sI a2), (4, sI a3), (5, sI x1), (6, sI t2), (7, sI t4)]) (fun t7 => []) (fun t7 => ?_) (fun J8 hJ8 => ?_)
      · refine zs_iinc (pc := 74) (i := 7) (n := 1) (y := w32 (t4 + 1)) (ls' := [(7, sI (w32 (t4 + 1))), (0, sR 105), (1, sR 19), (2, sI a1), (3, sI a2), (4, sI a3), (5, sI x1), (6, sI t2)]) C (by decide +kernel) rfl rfl (Nat.le_of_ble_eq_true rfl) rfl ?_
        refine zs_goto (pc := 77) (off := (-55)) (tgt := 22) C (by decide +kernel) (by decide) ?_
        exact zs_goj (hK5 (w32 (t4 + 1))) ⟨rfl, rfl, rfl, rfl, rfl, rfl, rfl, rfl, trivial⟩
      · refine zs_if_eq (pc := 46) (off := 28) (tgt := 74) C (by decide +kernel) (by decide) ?_ ?_
        · exact zs_goj (hJ8 ()) ⟨rfl, rfl, rfl, rfl, rfl, rfl, rfl, rfl, trivial⟩
        · refine zs_aload_n (pc := 49) (k := 0) (i := 0) C (by decide +kernel) rfl rfl ?_
          refine zs_getR (o' := 106) (pc := 50) (i := 9) (ci := 2) (k := 0) C (by decide +kernel) fl_RX2_9 rfl rfl rfl ?_
          refine zs_iload_n (pc := 53) (k := 2) (i := 2) C (by decide +kernel) rfl rfl ?_
          refine zs_iconst (pc := 54) (n := 1) (x := 1) C (by decide +kernel) (by decide +kernel) ?_
          refine zs_iload (pc := 55) (i := 6) C (by decide +kernel) rfl ?_
          refine zs_ishl (pc := 57) C (by decide +kernel) ?_
          refine zs_ior (pc := 58) C (by decide +kernel) ?_
          refine zs_iconst (pc := 59) (n := 1) (x := 1) C (by decide +kernel) (by decide +kernel) ?_
          refine zs_iload (pc := 60) (i := 7) C (by decide +kernel) rfl ?_
          refine zs_ishl (pc := 62) C (by decide +kernel) ?_
          refine zs_ior (pc := 63) C (by decide +kernel) ?_
          refine zs_dup2 (pc := 64) C rfl rfl (by decide +kernel) ?_
          refine zs_iald (pc := 65) (o := 106) (n := 256) C (by decide +kernel) rfl (fun hinx9 x9 => ?_)
          refine zs_aload_n (pc := 66) (k := 0) (i := 0) C (by decide +kernel) rfl rfl ?_
          refine zs_getR (o' := 106) (pc := 67) (i := 9) (ci := 2) (k := 0) C (by decide +kernel) fl_RX2_9 rfl rfl rfl ?_
          refine zs_iload_n (pc := 70) (k := 2) (i := 2) C (by decide +kernel) rfl rfl ?_
          refine zs_iald (pc := 71) (o := 106) (n := 256) C (by decide +kernel) rfl (fun hinx10 x10 => ?_)
          refine zs_iadd (pc := 72) C (by decide +kernel) ?_
          refine zs_iast (pc := 73) (o := 106) (n := 256) C (fun _ _ _ => rfl) (by decide +kernel) rfl ?_
          exact zs_goj (hJ8 ()) ⟨rfl, rfl, rfl, rfl, rfl, rfl, rfl, rfl, trivial⟩
set_option maxRecDepth 20000 in
theorem c_X2_waysWithout (l : Launch) (g : GC) (a1 : Int) : ConW l g yX2_waysWithout cX2_waysWithout 8 (some .int) (rmd 5 0 0) [sR 105, sR 19, sI a1] (fun mm => fX2_waysWithout a1 mm) := by
  refine zs_ofW (by decide +kernel) (Nat.le_of_ble_eq_true rfl) ?_
  intro p e s m args below meth c C hr
  replace C : Bd g RX2 cX2_waysWithout 8 p s m args meth c := C
  unfold fX2_waysWithout
  refine zs_aload_n (pc := 0) (k := 1) (i := 1) C (by decide +kernel) rfl rfl ?_
  refine zs_getR (o' := 20) (pc := 1) (i := 24) (ci := 10) (k := 0) C (by decide +kernel) fl_RX2_24 rfl rfl rfl ?_
  refine zs_getI (pc := 4) (i := 30) (ci := 3) (k := 5) C (by decide +kernel) fl_RX2_30 rfl rfl (fun x1 => ?_)
  refine zs_istore_n (pc := 7) (k := 3) (i := 3) (ls' := [(3, sI x1), (0, sR 105), (1, sR 19), (2, sI a1)]) C (by decide +kernel) rfl (Nat.le_of_ble_eq_true rfl) rfl ?_
  refine zs_iconst (pc := 8) (n := 1) (x := 1) C (by decide +kernel) (by decide +kernel) ?_
  refine zs_aload_n (pc := 9) (k := 1) (i := 1) C (by decide +kernel) rfl rfl ?_
  refine zs_getR (o' := 20) (pc := 10) (i := 24) (ci := 10) (k := 0) C (by decide +kernel) fl_RX2_24 rfl rfl rfl ?_
  refine zs_getI (pc := 13) (i := 59) (ci := 3) (k := 4) C (by decide +kernel) fl_RX2_59 rfl rfl (fun x2 => ?_)
  refine zs_ishl (pc := 16) C (by decide +kernel) ?_
  refine zs_let (fun x3 => ?_)
  refine zs_istore (pc := 17) (i := 4) (ls' := [(4, sI x3), (3, sI x1), (0, sR 105), (1, sR 19), (2, sI a1)]) C (by decide +kernel) (Nat.le_of_ble_eq_true rfl) rfl ?_
  refine zs_iconst (pc := 19) (n := 0) (x := 0) C (by decide +kernel) (by decide +kernel) ?_
  refine zs_istore (pc := 20) (i := 5) (ls' := [(5, sI 0), (4, sI x3), (3, sI x1), (0, sR 105), (1, sR 19), (2, sI a1)]) C (by decide +kernel) (Nat.le_of_ble_eq_true rfl) rfl ?_
  refine zs_aload_n (pc := 22) (k := 0) (i := 0) C (by decide +kernel) rfl rfl ?_
  refine zs_aload_n (pc := 23) (k := 1) (i := 1) C (by decide +kernel) rfl rfl ?_
  refine zs_cvVv (pc := 24) (As := [sR 19]) (st := []) C (fun _ _ _ => rfl) (c_X2_measure l g ) ml_RX2_62 rfl rfl rfl rfl (Nat.le_of_ble_eq_true rfl) ⟨Nat.le_of_ble_eq_true rfl, Nat.le_of_ble_eq_true rfl⟩ ⟨Nat.le_of_ble_eq_true rfl, Nat.le_of_ble_eq_true rfl⟩ (by decide +kernel) ?_
  refine zs_aload_n (pc := 27) (k := 0) (i := 0) C (by decide +kernel) rfl rfl ?_
  refine zs_getR (o' := 106) (pc := 28) (i := 9) (ci := 2) (k := 0) C (by decide +kernel) fl_RX2_9 rfl rfl rfl ?_
  refine zs_iconst (pc := 31) (n := 0) (x := 0) C (by decide +kernel) (by decide +kernel) ?_
  refine zs_csVv (pc := 32) (As := [sR 106, sI 0]) (st := []) C (fun _ _ _ => rfl) (c_J7_fill_53178 l g 106 256 0 rfl) ml_RX2_66 rfl rfl (Nat.le_of_ble_eq_true rfl) ⟨Nat.le_of_ble_eq_true rfl, Nat.le_of_ble_eq_true rfl⟩ ⟨Nat.le_of_ble_eq_true rfl, Nat.le_of_ble_eq_true rfl⟩ (by decide +kernel) ?_
  refine zs_aload_n (pc := 35) (k := 0) (i := 0) C (by decide +kernel) rfl rfl ?_
  refine zs_getR (o' := 106) (pc := 36) (i := 9) (ci := 2) (k := 0) C (by decide +kernel) fl_RX2_9 rfl rfl rfl ?_
  refine zs_iconst (pc := 39) (n := 0) (x := 0) C (by decide +kernel) (by decide +kernel) ?_
  refine zs_iconst (pc := 40) (n := 1) (x := 1) C (by decide +kernel) (by decide +kernel) ?_
  refine zs_iastk (pc := 41) (o := 106) (n := 256) C (by decide) (fun _ _ _ => rfl) (by decide +kernel) rfl ?_
  refine zs_iconst (pc := 42) (n := 0) (x := 0) C (by decide +kernel) (by decide +kernel) ?_
  refine zs_istore (pc := 43) (i := 6) (ls' := [(6, sI 0), (5, sI 0), (4, sI x3), (3, sI x1), (0, sR 105), (1, sR 19), (2, sI a1)]) C (by decide +kernel) (Nat.le_of_ble_eq_true rfl) rfl ?_
  refine zs_sub (ls' := [(0, sR 105), (1, sR 19), (2, sI a1), (3, sI x1), (4, sI x3), (5, sI 0), (6, sI 0)]) ⟨rfl, rfl, rfl, rfl, rfl, rfl, rfl, trivial⟩ ?_
  refine zs_lp (pc := 45) (fun (t4 : Int × Int) => [(0, sR 105), (1, sR 19), (2, sI a1), (3, sI x1), (4, sI x3), (5, sI t4.1), (6, sI t4.2)]) (fun _ => []) (fun K5 hK5 t4 => ?_) BIG (0, 0)
  refine zs_iload (pc := 45) (i := 6) C (by decide +kernel) rfl ?_
  refine zs_iload (pc := 47) (i := 4) C (by decide +kernel) rfl ?_
  refine zs_icmp_ge (pc := 49) (off := 59) (tgt := 108) C (by decide +kernel) (by decide) ?_ ?_
  · refine zs_iload (pc := 108) (i := 5) C (by decide +kernel) rfl ?_
    exact zs_retWi (pc := 110) C hr ⟨Nat.le_of_ble_eq_true rfl, Nat.le_of_ble_eq_true rfl⟩ (by decide +kernel)
  · refine zs_iload (pc := 52) (i := 6) C (by decide +kernel) rfl ?_
    refine zs_csRi (pc := 54) (As := [sI t4.2]) (st := []) C (Or.inl rfl) (c_J6_bitCount_0f7a4 l g t4.2) ml_RX2_72 rfl rfl (Nat.le_of_ble_eq_true rfl) ⟨Nat.le_of_ble_eq_true rfl, Nat.le_of_ble_eq_true rfl⟩ ⟨Nat.le_of_ble_eq_true rfl, Nat.le_of_ble_eq_true rfl⟩ (by decide +kernel) (fun x6 => ?_)
    refine zs_iconst (pc := 57) (n := 2) (x := 2) C (by decide +kernel) (by decide +kernel) ?_
    refine zs_idiv (pc := 58) C (by decide +kernel) (by decide +kernel) ?_
    refine zs_let (fun x7 => ?_)
    refine zs_istore (pc := 59) (i := 7) (ls' := [(7, sI x7), (0, sR 105), (1, sR 19), (2, sI a1), (3, sI x1), (4, sI x3), (5, sI t4.1), (6, sI t4.2)]) C (by decide +kernel) (Nat.le_of_ble_eq_true rfl) rfl ?_
    refine zs_iload (pc := 61) (i := 7) C (by decide +kernel) rfl ?_
    refine zs_iload_n (pc := 63) (k := 3) (i := 3) C (by decide +kernel) rfl rfl ?_
    refine zs_jn (pJ := 102) (kJ := 0) (sJ := 0) (fun t8 => [(0, sR 105), (1, sR 19), (2, sI a1), (3, sI x1), (4, sI x3), (5, sI t8), (6, sI t4.2)]) (fun t8 => []) (fun t8 => ?_) (fun J9 hJ9 => ?_)
    · refine zs_iinc (pc := 102) (i := 6) (n := 1) (y := w32 (t4.2 + 1)) (ls' := [(6, sI (w32 (t4.2 + 1))), (0, sR 105), (1, sR 19), (2, sI a1), (3, sI x1), (4, sI x3), (5, sI t8)]) C (by decide +kernel) rfl rfl (Nat.le_of_ble_eq_true rfl) rfl ?_
      refine zs_goto (pc := 105) (off := (-60)) (tgt := 45) C (by decide +kernel) (by decide) ?_
      exact zs_goj (hK5 (t8, w32 (t4.2 + 1))) ⟨rfl, rfl, rfl, rfl, rfl, rfl, rfl, trivial⟩
    · refine zs_icmp_lt (pc := 64) (off := 18) (tgt := 82) C (by decide +kernel) (by decide) ?_ ?_
      · refine zs_aload_n (pc := 82) (k := 0) (i := 0) C (by decide +kernel) rfl rfl ?_
        refine zs_getR (o' := 106) (pc := 83) (i := 9) (ci := 2) (k := 0) C (by decide +kernel) fl_RX2_9 rfl rfl rfl ?_
        refine zs_iload (pc := 86) (i := 6) C (by decide +kernel) rfl ?_
        refine zs_iald (pc := 88) (o := 106) (n := 256) C (by decide +kernel) rfl (fun hinx10 x10 => ?_)
        refine zs_if_eq (pc := 89) (off := 13) (tgt := 102) C (by decide +kernel) (by decide) ?_ ?_
        · exact zs_goj (hJ9 t4.1) ⟨rfl, rfl, rfl, rfl, rfl, rfl, rfl, trivial⟩
        · refine zs_aload_n (pc := 92) (k := 0) (i := 0) C (by decide +kernel) rfl rfl ?_
          refine zs_aload_n (pc := 93) (k := 1) (i := 1) C (by decide +kernel) rfl rfl ?_
          refine zs_iload (pc := 94) (i := 6) C (by decide +kernel) rfl ?_
          refine zs_iload (pc := 96) (i := 7) C (by decide +kernel) rfl ?_
          refine zs_iload_n (pc := 98) (k := 2) (i := 2) C (by decide +kernel) rfl rfl ?_
          refine zs_cvVv (pc := 99) (As := [sR 19, sI t4.2, sI x7, sI a1]) (st := []) C (fun _ _ _ => rfl) (c_X2_pushFrom l g t4.2 x7 a1) ml_RX2_78 rfl rfl rfl rfl (Nat.le_of_ble_eq_true rfl) ⟨Nat.le_of_ble_eq_true rfl, Nat.le_of_ble_eq_true rfl⟩ ⟨Nat.le_of_ble_eq_true rfl, Nat.le_of_ble_eq_true rfl⟩ (by decide +kernel) ?_
          exact zs_goj (hJ9 t4.1) ⟨rfl, rfl, rfl, rfl, rfl, rfl, rfl, trivial⟩
      · refine zs_iload (pc := 67) (i := 5) C (by decide +kernel) rfl ?_
        refine zs_aload_n (pc := 69) (k := 0) (i := 0) C (by decide +kernel) rfl rfl ?_
        refine zs_getR (o' := 106) (pc := 70) (i := 9) (ci := 2) (k := 0) C (by decide +kernel) fl_RX2_9 rfl rfl rfl ?_
        refine zs_iload (pc := 73) (i := 6) C (by decide +kernel) rfl ?_
        refine zs_iald (pc := 75) (o := 106) (n := 256) C (by decide +kernel) rfl (fun hinx11 x11 => ?_)
        refine zs_iadd (pc := 76) C (by decide +kernel) ?_
        refine zs_let (fun x12 => ?_)
        refine zs_istore (pc := 77) (i := 5) (ls' := [(5, sI x12), (7, sI x7), (0, sR 105), (1, sR 19), (2, sI a1), (3, sI x1), (4, sI x3), (6, sI t4.2)]) C (by decide +kernel) (Nat.le_of_ble_eq_true rfl) rfl ?_
        refine zs_goto (pc := 79) (off := 23) (tgt := 102) C (by decide +kernel) (by decide) ?_
        exact zs_goj (hJ9 x12) ⟨rfl, rfl, rfl, rfl, rfl, rfl, rfl, trivial⟩
set_option maxRecDepth 20000 in
theorem c_X11_housed (l : Launch) (g : GC)  : ConW l g yX11_housed cX11_housed 1 (some .int) (rmd 6 0 0) [sR 0] (fun mm => fX11_housed  mm) := by
  refine zs_ofW (by decide +kernel) (Nat.le_of_ble_eq_true rfl) ?_
  intro p e s m args below meth c C hr
  replace C : Bd g RX11 cX11_housed 1 p s m args meth c := C
  unfold fX11_housed
  refine zs_aload_n (pc := 0) (k := 0) (i := 0) C (by decide +kernel) rfl rfl ?_
  refine zs_getR (o' := 105) (pc := 1) (i := 76) (ci := 11) (k := 12) C (by decide +kernel) fl_RX11_76 rfl rfl rfl ?_
  refine zs_aload_n (pc := 4) (k := 0) (i := 0) C (by decide +kernel) rfl rfl ?_
  refine zs_getR (o' := 19) (pc := 5) (i := 41) (ci := 11) (k := 6) C (by decide +kernel) fl_RX11_41 rfl rfl rfl ?_
  refine zs_iconst (pc := 8) (n := 0) (x := 0) C (by decide +kernel) (by decide +kernel) ?_
  refine zs_cvWi (pc := 9) (As := [sR 19, sI 0]) (st := []) C (fun _ _ _ => rfl) (Or.inl rfl) (c_X2_waysWithout l g 0) ml_RX11_323 rfl rfl rfl rfl (Nat.le_of_ble_eq_true rfl) ⟨Nat.le_of_ble_eq_true rfl, Nat.le_of_ble_eq_true rfl⟩ ⟨Nat.le_of_ble_eq_true rfl, Nat.le_of_ble_eq_true rfl⟩ (by decide +kernel) (fun x1 => ?_)
  exact zs_retWi (pc := 12) C hr ⟨Nat.le_of_ble_eq_true rfl, Nat.le_of_ble_eq_true rfl⟩ (by decide +kernel)
set_option maxRecDepth 20000 in
theorem c_X11_dear (l : Launch) (g : GC)  : ConW l g yX11_dear cX11_dear 3 (some .int) (rmd 6 0 0) [sR 0] (fun mm => fX11_dear  mm) := by
  refine zs_ofW (by decide +kernel) (Nat.le_of_ble_eq_true rfl) ?_
  intro p e s m args below meth c C hr
  replace C : Bd g RX11 cX11_dear 3 p s m args meth c := C
  unfold fX11_dear
  refine zs_aload_n (pc := 0) (k := 0) (i := 0) C (by decide +kernel) rfl rfl ?_
  refine zs_getR (o' := 105) (pc := 1) (i := 76) (ci := 11) (k := 12) C (by decide +kernel) fl_RX11_76 rfl rfl rfl ?_
  refine zs_aload_n (pc := 4) (k := 0) (i := 0) C (by decide +kernel) rfl rfl ?_
  refine zs_getR (o' := 19) (pc := 5) (i := 41) (ci := 11) (k := 6) C (by decide +kernel) fl_RX11_41 rfl rfl rfl ?_
  refine zs_iconst (pc := 8) (n := 0) (x := 0) C (by decide +kernel) (by decide +kernel) ?_
  refine zs_cvWi (pc := 9) (As := [sR 19, sI 0]) (st := []) C (fun _ _ _ => rfl) (Or.inl rfl) (c_X2_waysWithout l g 0) ml_RX11_323 rfl rfl rfl rfl (Nat.le_of_ble_eq_true rfl) ⟨Nat.le_of_ble_eq_true rfl, Nat.le_of_ble_eq_true rfl⟩ ⟨Nat.le_of_ble_eq_true rfl, Nat.le_of_ble_eq_true rfl⟩ (by decide +kernel) (fun x1 => ?_)
  refine zs_if_ne (pc := 12) (off := 5) (tgt := 17) C (by decide +kernel) (by decide) ?_ ?_
  · refine zs_iconst (pc := 17) (n := 0) (x := 0) C (by decide +kernel) (by decide +kernel) ?_
    refine zs_istore_n (pc := 18) (k := 1) (i := 1) (ls' := [(1, sI 0), (0, sR 0)]) C (by decide +kernel) rfl (Nat.le_of_ble_eq_true rfl) rfl ?_
    refine zs_iconst (pc := 19) (n := 0) (x := 0) C (by decide +kernel) (by decide +kernel) ?_
    refine zs_istore_n (pc := 20) (k := 2) (i := 2) (ls' := [(2, sI 0), (1, sI 0), (0, sR 0)]) C (by decide +kernel) rfl (Nat.le_of_ble_eq_true rfl) rfl ?_
    refine zs_sub (ls' := [(0, sR 0), (1, sI 0), (2, sI 0)]) ⟨rfl, rfl, rfl, trivial⟩ ?_
    refine zs_lp (pc := 21) (fun (t2 : Int × Int) => [(0, sR 0), (1, sI t2.1), (2, sI t2.2)]) (fun _ => []) (fun K3 hK3 t2 => ?_) BIG (0, 0)
    refine zs_iload_n (pc := 21) (k := 2) (i := 2) C (by decide +kernel) rfl rfl ?_
    refine zs_aload_n (pc := 22) (k := 0) (i := 0) C (by decide +kernel) rfl rfl ?_
    refine zs_getR (o' := 19) (pc := 23) (i := 41) (ci := 11) (k := 6) C (by decide +kernel) fl_RX11_41 rfl rfl rfl ?_
    refine zs_getR (o' := 20) (pc := 26) (i := 114) (ci := 10) (k := 0) C (by decide +kernel) fl_RX11_114 rfl rfl rfl ?_
    refine zs_getI (pc := 29) (i := 168) (ci := 3) (k := 4) C (by decide +kernel) fl_RX11_168 rfl rfl (fun x4 => ?_)
    refine zs_icmp_ge (pc := 32) (off := 32) (tgt := 64) C (by decide +kernel) (by decide) ?_ ?_
    · refine zs_iload_n (pc := 64) (k := 1) (i := 1) C (by decide +kernel) rfl rfl ?_
      exact zs_retWi (pc := 65) C hr ⟨Nat.le_of_ble_eq_true rfl, Nat.le_of_ble_eq_true rfl⟩ (by decide +kernel)
    · refine zs_aload_n (pc := 35) (k := 0) (i := 0) C (by decide +kernel) rfl rfl ?_
      refine zs_getR (o' := 105) (pc := 36) (i := 76) (ci := 11) (k := 12) C (by decide +kernel) fl_RX11_76 rfl rfl rfl ?_
      refine zs_aload_n (pc := 39) (k := 0) (i := 0) C (by decide +kernel) rfl rfl ?_
      refine zs_getR (o' := 19) (pc := 40) (i := 41) (ci := 11) (k := 6) C (by decide +kernel) fl_RX11_41 rfl rfl rfl ?_
      refine zs_iconst (pc := 43) (n := 1) (x := 1) C (by decide +kernel) (by decide +kernel) ?_
      refine zs_iload_n (pc := 44) (k := 2) (i := 2) C (by decide +kernel) rfl rfl ?_
      refine zs_ishl (pc := 45) C (by decide +kernel) ?_
      refine zs_cvWi (pc := 46) (As := [sR 19, sI (ishl 1 t2.2)]) (st := []) C (fun _ _ _ => rfl) (Or.inl rfl) (c_X2_waysWithout l g (ishl 1 t2.2)) ml_RX11_323 rfl rfl rfl rfl (Nat.le_of_ble_eq_true rfl) ⟨Nat.le_of_ble_eq_true rfl, Nat.le_of_ble_eq_true rfl⟩ ⟨Nat.le_of_ble_eq_true rfl, Nat.le_of_ble_eq_true rfl⟩ (by decide +kernel) (fun x5 => ?_)
      refine zs_jn (pJ := 58) (kJ := 0) (sJ := 0) (fun t6 => [(0, sR 0), (1, sI t6), (2, sI t2.2)]) (fun t6 => []) (fun t6 => ?_) (fun J7 hJ7 => ?_)
      · refine zs_iinc (pc := 58) (i := 2) (n := 1) (y := w32 (t2.2 + 1)) (ls' := [(2, sI (w32 (t2.2 + 1))), (0, sR 0), (1, sI t6)]) C (by decide +kernel) rfl rfl (Nat.le_of_ble_eq_true rfl) rfl ?_
        refine zs_goto (pc := 61) (off := (-40)) (tgt := 21) C (by decide +kernel) (by decide) ?_
        exact zs_goj (hK3 (t6, w32 (t2.2 + 1))) ⟨rfl, rfl, rfl, trivial⟩
      · refine zs_if_ne (pc := 49) (off := 9) (tgt := 58) C (by decide +kernel) (by decide) ?_ ?_
        · exact zs_goj (hJ7 t2.1) ⟨rfl, rfl, rfl, trivial⟩
        · refine zs_iload_n (pc := 52) (k := 1) (i := 1) C (by decide +kernel) rfl rfl ?_
          refine zs_iconst (pc := 53) (n := 1) (x := 1) C (by decide +kernel) (by decide +kernel) ?_
          refine zs_iload_n (pc := 54) (k := 2) (i := 2) C (by decide +kernel) rfl rfl ?_
          refine zs_ishl (pc := 55) C (by decide +kernel) ?_
          refine zs_ior (pc := 56) C (by decide +kernel) ?_
          refine zs_let (fun x8 => ?_)
          refine zs_istore_n (pc := 57) (k := 1) (i := 1) (ls' := [(1, sI x8), (0, sR 0), (2, sI t2.2)]) C (by decide +kernel) rfl (Nat.le_of_ble_eq_true rfl) rfl ?_
          exact zs_goj (hJ7 x8) ⟨rfl, rfl, rfl, trivial⟩
  · refine zs_iconst (pc := 15) (n := 0) (x := 0) C (by decide +kernel) (by decide +kernel) ?_
    exact zs_retWi (pc := 16) C hr ⟨Nat.le_of_ble_eq_true rfl, Nat.le_of_ble_eq_true rfl⟩ (by decide +kernel)
set_option maxRecDepth 20000 in
theorem c_X11_count (l : Launch) (g : GC) (a0 : Int) : ConR l g yX11_count cX11_count 2 (some .int) (rmd 2 0 0) [sR 0, sI a0] (fun mm => fX11_count a0 mm) := by
  refine zs_ofR (by decide +kernel) (Nat.le_of_ble_eq_true rfl) ?_
  intro p e s m args below meth c C hr
  replace C : Bd g RX11 cX11_count 2 p s m args meth c := C
  unfold fX11_count
  refine zs_iload_n (pc := 0) (k := 1) (i := 1) C (by decide +kernel) rfl rfl ?_
  refine zs_ite (fun hc0 => ?_) (fun hc0 => ?_)
  · refine zs_tswI (pc := 1) (dflt := 187) (lo := 0) (hi := 10) (offs := #[59, 70, 81, 92, 103, 114, 128, 139, 160, 174, 182]) (len := 59) (i := 0) (off := 59) (tgt := 60) C (by decide +kernel) hc0 (by decide) rfl (by decide) ?_
    refine zs_aload_n (pc := 60) (k := 0) (i := 0) C (by decide +kernel) rfl rfl ?_
    refine zs_getR (o' := 19) (pc := 61) (i := 41) (ci := 11) (k := 6) C (by decide +kernel) fl_RX11_41 rfl rfl rfl ?_
    refine zs_getR (o' := 20) (pc := 64) (i := 114) (ci := 10) (k := 0) C (by decide +kernel) fl_RX11_114 rfl rfl rfl ?_
    refine zs_getI (pc := 67) (i := 115) (ci := 3) (k := 0) C (by decide +kernel) fl_RX11_115 rfl rfl (fun x1 => ?_)
    exact zs_retRi (pc := 70) C hr ⟨Nat.le_of_ble_eq_true rfl, Nat.le_of_ble_eq_true rfl⟩ (by decide +kernel)
  · refine zs_ite (fun hc1 => ?_) (fun hc1 => ?_)
    · refine zs_tswI (pc := 1) (dflt := 187) (lo := 0) (hi := 10) (offs := #[59, 70, 81, 92, 103, 114, 128, 139, 160, 174, 182]) (len := 59) (i := 1) (off := 70) (tgt := 71) C (by decide +kernel) hc1 (by decide) rfl (by decide) ?_
      refine zs_aload_n (pc := 71) (k := 0) (i := 0) C (by decide +kernel) rfl rfl ?_
      refine zs_getR (o' := 19) (pc := 72) (i := 41) (ci := 11) (k := 6) C (by decide +kernel) fl_RX11_41 rfl rfl rfl ?_
      refine zs_getR (o' := 20) (pc := 75) (i := 114) (ci := 10) (k := 0) C (by decide +kernel) fl_RX11_114 rfl rfl rfl ?_
      refine zs_getI (pc := 78) (i := 387) (ci := 3) (k := 1) C (by decide +kernel) fl_RX11_387 rfl rfl (fun x2 => ?_)
      exact zs_retRi (pc := 81) C hr ⟨Nat.le_of_ble_eq_true rfl, Nat.le_of_ble_eq_true rfl⟩ (by decide +kernel)
    · refine zs_ite (fun hc2 => ?_) (fun hc2 => ?_)
      · refine zs_tswI (pc := 1) (dflt := 187) (lo := 0) (hi := 10) (offs := #[59, 70, 81, 92, 103, 114, 128, 139, 160, 174, 182]) (len := 59) (i := 2) (off := 81) (tgt := 82) C (by decide +kernel) hc2 (by decide) rfl (by decide) ?_
        refine zs_aload_n (pc := 82) (k := 0) (i := 0) C (by decide +kernel) rfl rfl ?_
        refine zs_getR (o' := 19) (pc := 83) (i := 41) (ci := 11) (k := 6) C (by decide +kernel) fl_RX11_41 rfl rfl rfl ?_
        refine zs_getR (o' := 20) (pc := 86) (i := 114) (ci := 10) (k := 0) C (by decide +kernel) fl_RX11_114 rfl rfl rfl ?_
        refine zs_getI (pc := 89) (i := 390) (ci := 3) (k := 2) C (by decide +kernel) fl_RX11_390 rfl rfl (fun x3 => ?_)
        exact zs_retRi (pc := 92) C hr ⟨Nat.le_of_ble_eq_true rfl, Nat.le_of_ble_eq_true rfl⟩ (by decide +kernel)
      · refine zs_ite (fun hc3 => ?_) (fun hc3 => ?_)
        · refine zs_tswI (pc := 1) (dflt := 187) (lo := 0) (hi := 10) (offs := #[59, 70, 81, 92, 103, 114, 128, 139, 160, 174, 182]) (len := 59) (i := 3) (off := 92) (tgt := 93) C (by decide +kernel) hc3 (by decide) rfl (by decide) ?_
          refine zs_aload_n (pc := 93) (k := 0) (i := 0) C (by decide +kernel) rfl rfl ?_
          refine zs_getR (o' := 19) (pc := 94) (i := 41) (ci := 11) (k := 6) C (by decide +kernel) fl_RX11_41 rfl rfl rfl ?_
          refine zs_getR (o' := 20) (pc := 97) (i := 114) (ci := 10) (k := 0) C (by decide +kernel) fl_RX11_114 rfl rfl rfl ?_
          refine zs_getI (pc := 100) (i := 333) (ci := 3) (k := 5) C (by decide +kernel) fl_RX11_333 rfl rfl (fun x4 => ?_)
          exact zs_retRi (pc := 103) C hr ⟨Nat.le_of_ble_eq_true rfl, Nat.le_of_ble_eq_true rfl⟩ (by decide +kernel)
        · refine zs_ite (fun hc4 => ?_) (fun hc4 => ?_)
          · refine zs_tswI (pc := 1) (dflt := 187) (lo := 0) (hi := 10) (offs := #[59, 70, 81, 92, 103, 114, 128, 139, 160, 174, 182]) (len := 59) (i := 4) (off := 103) (tgt := 104) C (by decide +kernel) hc4 (by decide) rfl (by decide) ?_
            refine zs_aload_n (pc := 104) (k := 0) (i := 0) C (by decide +kernel) rfl rfl ?_
            refine zs_getR (o' := 19) (pc := 105) (i := 41) (ci := 11) (k := 6) C (by decide +kernel) fl_RX11_41 rfl rfl rfl ?_
            refine zs_getR (o' := 20) (pc := 108) (i := 114) (ci := 10) (k := 0) C (by decide +kernel) fl_RX11_114 rfl rfl rfl ?_
            refine zs_getI (pc := 111) (i := 168) (ci := 3) (k := 4) C (by decide +kernel) fl_RX11_168 rfl rfl (fun x5 => ?_)
            exact zs_retRi (pc := 114) C hr ⟨Nat.le_of_ble_eq_true rfl, Nat.le_of_ble_eq_true rfl⟩ (by decide +kernel)
          · refine zs_ite (fun hc5 => ?_) (fun hc5 => ?_)
            · refine zs_tswI (pc := 1) (dflt := 187) (lo := 0) (hi := 10) (offs := #[59, 70, 81, 92, 103, 114, 128, 139, 160, 174, 182]) (len := 59) (i := 5) (off := 114) (tgt := 115) C (by decide +kernel) hc5 (by decide) rfl (by decide) ?_
              refine zs_aload_n (pc := 115) (k := 0) (i := 0) C (by decide +kernel) rfl rfl ?_
              refine zs_getR (o' := 19) (pc := 116) (i := 41) (ci := 11) (k := 6) C (by decide +kernel) fl_RX11_41 rfl rfl rfl ?_
              refine zs_getR (o' := 20) (pc := 119) (i := 114) (ci := 10) (k := 0) C (by decide +kernel) fl_RX11_114 rfl rfl rfl ?_
              refine zs_getI (pc := 122) (i := 277) (ci := 3) (k := 3) C (by decide +kernel) fl_RX11_277 rfl rfl (fun x6 => ?_)
              refine zs_csRi (pc := 125) (As := [sI x6]) (st := []) C (Or.inl rfl) (c_J6_bitCount_0f7a4 l g x6) ml_RX11_393 rfl rfl (Nat.le_of_ble_eq_true rfl) ⟨Nat.le_of_ble_eq_true rfl, Nat.le_of_ble_eq_true rfl⟩ ⟨Nat.le_of_ble_eq_true rfl, Nat.le_of_ble_eq_true rfl⟩ (by decide +kernel) (fun x7 => ?_)
              exact zs_retRi (pc := 128) C hr ⟨Nat.le_of_ble_eq_true rfl, Nat.le_of_ble_eq_true rfl⟩ (by decide +kernel)
            · refine zs_ite (fun hc6 => ?_) (fun hc6 => ?_)
              · refine zs_tswI (pc := 1) (dflt := 187) (lo := 0) (hi := 10) (offs := #[59, 70, 81, 92, 103, 114, 128, 139, 160, 174, 182]) (len := 59) (i := 6) (off := 128) (tgt := 129) C (by decide +kernel) hc6 (by decide) rfl (by decide) ?_
                refine zs_aload_n (pc := 129) (k := 0) (i := 0) C (by decide +kernel) rfl rfl ?_
                refine zs_getR (o' := 19) (pc := 130) (i := 41) (ci := 11) (k := 6) C (by decide +kernel) fl_RX11_41 rfl rfl rfl ?_
                refine zs_getR (o' := 27) (pc := 133) (i := 141) (ci := 10) (k := 1) C (by decide +kernel) fl_RX11_141 rfl rfl rfl ?_
                refine zs_getI (pc := 136) (i := 156) (ci := 5) (k := 0) C (by decide +kernel) fl_RX11_156 rfl rfl (fun x8 => ?_)
                exact zs_retRi (pc := 139) C hr ⟨Nat.le_of_ble_eq_true rfl, Nat.le_of_ble_eq_true rfl⟩ (by decide +kernel)
              · refine zs_ite (fun hc7 => ?_) (fun hc7 => ?_)
                · refine zs_tswI (pc := 1) (dflt := 187) (lo := 0) (hi := 10) (offs := #[59, 70, 81, 92, 103, 114, 128, 139, 160, 174, 182]) (len := 59) (i := 7) (off := 139) (tgt := 140) C (by decide +kernel) hc7 (by decide) rfl (by decide) ?_
                  refine zs_aload_n (pc := 140) (k := 0) (i := 0) C (by decide +kernel) rfl rfl ?_
                  refine zs_getR (o' := 19) (pc := 141) (i := 41) (ci := 11) (k := 6) C (by decide +kernel) fl_RX11_41 rfl rfl rfl ?_
                  refine zs_getR (o' := 27) (pc := 144) (i := 141) (ci := 10) (k := 1) C (by decide +kernel) fl_RX11_141 rfl rfl rfl ?_
                  refine zs_aload_n (pc := 147) (k := 0) (i := 0) C (by decide +kernel) rfl rfl ?_
                  refine zs_getR (o' := 19) (pc := 148) (i := 41) (ci := 11) (k := 6) C (by decide +kernel) fl_RX11_41 rfl rfl rfl ?_
                  refine zs_getR (o' := 27) (pc := 151) (i := 141) (ci := 10) (k := 1) C (by decide +kernel) fl_RX11_141 rfl rfl rfl ?_
                  refine zs_getI (pc := 154) (i := 156) (ci := 5) (k := 0) C (by decide +kernel) fl_RX11_156 rfl rfl (fun x9 => ?_)
                  refine zs_cvRi (pc := 157) (As := [sI x9]) (st := []) C (Or.inl rfl) (c_X5_rainIn l g x9) ml_RX11_398 rfl rfl rfl rfl (Nat.le_of_ble_eq_true rfl) ⟨Nat.le_of_ble_eq_true rfl, Nat.le_of_ble_eq_true rfl⟩ ⟨Nat.le_of_ble_eq_true rfl, Nat.le_of_ble_eq_true rfl⟩ (by decide +kernel) (fun x10 => ?_)
                  exact zs_retRi (pc := 160) C hr ⟨Nat.le_of_ble_eq_true rfl, Nat.le_of_ble_eq_true rfl⟩ (by decide +kernel)
                · refine zs_ite (fun hc8 => ?_) (fun hc8 => ?_)
                  · refine zs_tswI (pc := 1) (dflt := 187) (lo := 0) (hi := 10) (offs := #[59, 70, 81, 92, 103, 114, 128, 139, 160, 174, 182]) (len := 59) (i := 8) (off := 160) (tgt := 161) C (by decide +kernel) hc8 (by decide) rfl (by decide) ?_
                    refine zs_aload_n (pc := 161) (k := 0) (i := 0) C (by decide +kernel) rfl rfl ?_
                    refine zs_getR (o' := 19) (pc := 162) (i := 41) (ci := 11) (k := 6) C (by decide +kernel) fl_RX11_41 rfl rfl rfl ?_
                    refine zs_getR (o' := 27) (pc := 165) (i := 141) (ci := 10) (k := 1) C (by decide +kernel) fl_RX11_141 rfl rfl rfl ?_
                    refine zs_getI (pc := 168) (i := 213) (ci := 5) (k := 3) C (by decide +kernel) fl_RX11_213 rfl rfl (fun x11 => ?_)
                    refine zs_csRi (pc := 171) (As := [sI x11]) (st := []) C (Or.inl rfl) (c_J6_bitCount_0f7a4 l g x11) ml_RX11_393 rfl rfl (Nat.le_of_ble_eq_true rfl) ⟨Nat.le_of_ble_eq_true rfl, Nat.le_of_ble_eq_true rfl⟩ ⟨Nat.le_of_ble_eq_true rfl, Nat.le_of_ble_eq_true rfl⟩ (by decide +kernel) (fun x12 => ?_)
                    exact zs_retRi (pc := 174) C hr ⟨Nat.le_of_ble_eq_true rfl, Nat.le_of_ble_eq_true rfl⟩ (by decide +kernel)
                  · refine zs_ite (fun hc9 => ?_) (fun hc9 => ?_)
                    · refine zs_tswI (pc := 1) (dflt := 187) (lo := 0) (hi := 10) (offs := #[59, 70, 81, 92, 103, 114, 128, 139, 160, 174, 182]) (len := 59) (i := 9) (off := 174) (tgt := 175) C (by decide +kernel) hc9 (by decide) rfl (by decide) ?_
                      refine zs_aload_n (pc := 175) (k := 0) (i := 0) C (by decide +kernel) rfl rfl ?_
                      refine zs_getR (o' := 19) (pc := 176) (i := 41) (ci := 11) (k := 6) C (by decide +kernel) fl_RX11_41 rfl rfl rfl ?_
                      refine zs_getI (pc := 179) (i := 216) (ci := 10) (k := 2) C (by decide +kernel) fl_RX11_216 rfl rfl (fun x13 => ?_)
                      exact zs_retRi (pc := 182) C hr ⟨Nat.le_of_ble_eq_true rfl, Nat.le_of_ble_eq_true rfl⟩ (by decide +kernel)
                    · refine zs_ite (fun hc10 => ?_) (fun hc10 => ?_)
                      · refine zs_tswI (pc := 1) (dflt := 187) (lo := 0) (hi := 10) (offs := #[59, 70, 81, 92, 103, 114, 128, 139, 160, 174, 182]) (len := 59) (i := 10) (off := 182) (tgt := 183) C (by decide +kernel) hc10 (by decide) rfl (by decide) ?_
                        refine zs_aload_n (pc := 183) (k := 0) (i := 0) C (by decide +kernel) rfl rfl ?_
                        refine zs_getI (pc := 184) (i := 13) (ci := 11) (k := 1) C (by decide +kernel) fl_RX11_13 rfl rfl (fun x14 => ?_)
                        exact zs_retRi (pc := 187) C hr ⟨Nat.le_of_ble_eq_true rfl, Nat.le_of_ble_eq_true rfl⟩ (by decide +kernel)
                      · refine zs_tswD (pc := 1) (dflt := 187) (lo := 0) (hi := 10) (offs := #[59, 70, 81, 92, 103, 114, 128, 139, 160, 174, 182]) (len := 59) (tgt := 188) C (by decide +kernel) (by omega) (by decide) ?_
                        refine zs_iconst (pc := 188) (n := (-1)) (x := (-1)) C (by decide +kernel) (by decide +kernel) ?_
                        exact zs_retRi (pc := 189) C hr ⟨Nat.le_of_ble_eq_true rfl, Nat.le_of_ble_eq_true rfl⟩ (by decide +kernel)
set_option maxRecDepth 20000 in
theorem c_X0_fillNear (l : Launch) (g : GC)  : ConV l g yX0_fillNear cX0_fillNear 4 (rmd 3 0 0) [sR 18] (fun mm => fX0_fillNear  mm) := by
  refine zs_ofV (by decide +kernel) (Nat.le_of_ble_eq_true rfl) ?_
  intro p e s m args below meth c C hr
  replace C : Bd g RX0 cX0_fillNear 4 p s m args meth c := C
  unfold fX0_fillNear
  refine zs_aload_n (pc := 0) (k := 0) (i := 0) C (by decide +kernel) rfl rfl ?_
  refine zs_getR (o' := 81) (pc := 1) (i := 28) (ci := 0) (k := 4) C (by decide +kernel) fl_RX0_28 rfl rfl rfl ?_
  refine zs_iconst (pc := 4) (n := 0) (x := 0) C (by decide +kernel) (by decide +kernel) ?_
  refine zs_csVv (pc := 5) (As := [sR 81, sI 0]) (st := []) C (fun _ _ _ => rfl) (c_J7_fill_53178 l g 81 225 0 rfl) ml_RX0_102 rfl rfl (Nat.le_of_ble_eq_true rfl) ⟨Nat.le_of_ble_eq_true rfl, Nat.le_of_ble_eq_true rfl⟩ ⟨Nat.le_of_ble_eq_true rfl, Nat.le_of_ble_eq_true rfl⟩ (by decide +kernel) ?_
  refine zs_aload_n (pc := 8) (k := 0) (i := 0) C (by decide +kernel) rfl rfl ?_
  refine zs_iconst (pc := 9) (n := 0) (x := 0) C (by decide +kernel) (by decide +kernel) ?_
  refine zs_putI (pc := 10) (i := 50) (ci := 0) (k := 11) C (fun _ _ _ => rfl) (by decide +kernel) fl_RX0_50 fw_0_11 rfl rfl ?_
  refine zs_iconst (pc := 13) (n := 0) (x := 0) C (by decide +kernel) (by decide +kernel) ?_
  refine zs_istore_n (pc := 14) (k := 1) (i := 1) (ls' := [(1, sI 0), (0, sR 18)]) C (by decide +kernel) rfl (Nat.le_of_ble_eq_true rfl) rfl ?_
  refine zs_sub (ls' := [(0, sR 18), (1, sI 0)]) ⟨rfl, rfl, trivial⟩ ?_
  refine zs_lp (pc := 15) (fun (t1 : Int) => [(0, sR 18), (1, sI t1)]) (fun _ => []) (fun K2 hK2 t1 => ?_) BIG 0
  refine zs_iload_n (pc := 15) (k := 1) (i := 1) C (by decide +kernel) rfl rfl ?_
  refine zs_aload_n (pc := 16) (k := 0) (i := 0) C (by decide +kernel) rfl rfl ?_
  refine zs_getI (pc := 17) (i := 43) (ci := 0) (k := 9) C (by decide +kernel) fl_RX0_43 rfl rfl (fun x3 => ?_)
  refine zs_icmp_ge (pc := 20) (off := 99) (tgt := 119) C (by decide +kernel) (by decide) ?_ ?_
  · exact zs_retVv (pc := 119) C hr ⟨Nat.le_of_ble_eq_true rfl, Nat.le_of_ble_eq_true rfl⟩ (by decide +kernel)
  · refine zs_aload_n (pc := 23) (k := 0) (i := 0) C (by decide +kernel) rfl rfl ?_
    refine zs_dup (pc := 24) C rfl (by decide +kernel) ?_
    refine zs_getI (pc := 25) (i := 50) (ci := 0) (k := 11) C (by decide +kernel) fl_RX0_50 rfl rfl (fun x4 => ?_)
    refine zs_aload_n (pc := 28) (k := 0) (i := 0) C (by decide +kernel) rfl rfl ?_
    refine zs_getR (o' := 19) (pc := 29) (i := 12) (ci := 0) (k := 0) C (by decide +kernel) fl_RX0_12 rfl rfl rfl ?_
    refine zs_getR (o' := 20) (pc := 32) (i := 72) (ci := 10) (k := 0) C (by decide +kernel) fl_RX0_72 rfl rfl rfl ?_
    refine zs_iload_n (pc := 35) (k := 1) (i := 1) C (by decide +kernel) rfl rfl ?_
    refine zs_iconst (pc := 36) (n := 2) (x := 2) C (by decide +kernel) (by decide +kernel) ?_
    refine zs_cvRi (pc := 37) (As := [sI t1, sI 2]) (st := [sI x4, sR 18]) C (Or.inl rfl) (c_X3_beside l g t1 2) ml_RX0_108 rfl rfl rfl rfl (Nat.le_of_ble_eq_true rfl) ⟨Nat.le_of_ble_eq_true rfl, Nat.le_of_ble_eq_true rfl⟩ ⟨Nat.le_of_ble_eq_true rfl, Nat.le_of_ble_eq_true rfl⟩ (by decide +kernel) (fun x5 => ?_)
    refine zs_iconst (pc := 40) (n := (-1)) (x := (-1)) C (by decide +kernel) (by decide +kernel) ?_
    refine zs_jn (pJ := 51) (kJ := 0) (sJ := 0) (fun t6 => [(0, sR 18), (1, sI t1)]) (fun t6 => [sI t6, sI x4, sR 18]) (fun t6 => ?_) (fun J7 hJ7 => ?_)
    · refine zs_ior (pc := 51) C (by decide +kernel) ?_
      refine zs_putI (pc := 52) (i := 50) (ci := 0) (k := 11) C (fun _ _ _ => rfl) (by decide +kernel) fl_RX0_50 fw_0_11 rfl rfl ?_
      refine zs_iconst (pc := 55) (n := 0) (x := 0) C (by decide +kernel) (by decide +kernel) ?_
      refine zs_istore_n (pc := 56) (k := 2) (i := 2) (ls' := [(2, sI 0), (0, sR 18), (1, sI t1)]) C (by decide +kernel) rfl (Nat.le_of_ble_eq_true rfl) rfl ?_
      refine zs_sub (ls' := [(0, sR 18), (1, sI t1), (2, sI 0)]) ⟨rfl, rfl, rfl, trivial⟩ ?_
      refine zs_lp (pc := 57) (fun (t8 : Int) => [(0, sR 18), (1, sI t1), (2, sI t8)]) (fun _ => []) (fun K9 hK9 t8 => ?_) BIG 0
      refine zs_iload_n (pc := 57) (k := 2) (i := 2) C (by decide +kernel) rfl rfl ?_
      refine zs_aload_n (pc := 58) (k := 0) (i := 0) C (by decide +kernel) rfl rfl ?_
      refine zs_getI (pc := 59) (i := 43) (ci := 0) (k := 9) C (by decide +kernel) fl_RX0_43 rfl rfl (fun x10 => ?_)
      refine zs_icmp_ge (pc := 62) (off := 51) (tgt := 113) C (by decide +kernel) (by decide) ?_ ?_
      · refine zs_iinc (pc := 113) (i := 1) (n := 1) (y := w32 (t1 + 1)) (ls' := [(1, sI (w32 (t1 + 1))), (0, sR 18), (2, sI t8)]) C (by decide +kernel) rfl rfl (Nat.le_of_ble_eq_true rfl) rfl ?_
        refine zs_goto (pc := 116) (off := (-101)) (tgt := 15) C (by decide +kernel) (by decide) ?_
        exact zs_goj (hK2 (w32 (t1 + 1))) ⟨rfl, rfl, trivial⟩
      · refine zs_aload_n (pc := 65) (k := 0) (i := 0) C (by decide +kernel) rfl rfl ?_
        refine zs_getR (o' := 19) (pc := 66) (i := 12) (ci := 0) (k := 0) C (by decide +kernel) fl_RX0_12 rfl rfl rfl ?_
        refine zs_getR (o' := 20) (pc := 69) (i := 72) (ci := 10) (k := 0) C (by decide +kernel) fl_RX0_72 rfl rfl rfl ?_
        refine zs_iload_n (pc := 72) (k := 1) (i := 1) C (by decide +kernel) rfl rfl ?_
        refine zs_iload_n (pc := 73) (k := 2) (i := 2) C (by decide +kernel) rfl rfl ?_
        refine zs_cvRi (pc := 74) (As := [sI t1, sI t8]) (st := []) C (Or.inl rfl) (c_X3_apart l g t1 t8) ml_RX0_112 rfl rfl rfl rfl (Nat.le_of_ble_eq_true rfl) ⟨Nat.le_of_ble_eq_true rfl, Nat.le_of_ble_eq_true rfl⟩ ⟨Nat.le_of_ble_eq_true rfl, Nat.le_of_ble_eq_true rfl⟩ (by decide +kernel) (fun x11 => ?_)
        refine zs_istore_n (pc := 77) (k := 3) (i := 3) (ls' := [(3, sI x11), (0, sR 18), (1, sI t1), (2, sI t8)]) C (by decide +kernel) rfl (Nat.le_of_ble_eq_true rfl) rfl ?_
        refine zs_sub (ls' := [(0, sR 18), (1, sI t1), (2, sI t8), (3, sI x11)]) ⟨rfl, rfl, rfl, rfl, trivial⟩ ?_
        refine zs_lp (pc := 78) (fun (t12 : Int) => [(0, sR 18), (1, sI t1), (2, sI t8), (3, sI t12)]) (fun _ => []) (fun K13 hK13 t12 => ?_) BIG x11
        refine zs_iload_n (pc := 78) (k := 3) (i := 3) C (by decide +kernel) rfl rfl ?_
        refine zs_bipush (pc := 79) (n := 8) (x := 8) C (by decide +kernel) (by decide +kernel) ?_
        refine zs_icmp_gt (pc := 81) (off := 26) (tgt := 107) C (by decide +kernel) (by decide) ?_ ?_
        · refine zs_iinc (pc := 107) (i := 2) (n := 1) (y := w32 (t8 + 1)) (ls' := [(2, sI (w32 (t8 + 1))), (0, sR 18), (1, sI t1), (3, sI t12)]) C (by decide +kernel) rfl rfl (Nat.le_of_ble_eq_true rfl) rfl ?_
          refine zs_goto (pc := 110) (off := (-53)) (tgt := 57) C (by decide +kernel) (by decide) ?_
          exact zs_goj (hK9 (w32 (t8 + 1))) ⟨rfl, rfl, rfl, trivial⟩
        · refine zs_aload_n (pc := 84) (k := 0) (i := 0) C (by decide +kernel) rfl rfl ?_
          refine zs_getR (o' := 81) (pc := 85) (i := 28) (ci := 0) (k := 4) C (by decide +kernel) fl_RX0_28 rfl rfl rfl ?_
          refine zs_iload_n (pc := 88) (k := 3) (i := 3) C (by decide +kernel) rfl rfl ?_
          refine zs_bipush (pc := 89) (n := 25) (x := 25) C (by decide +kernel) (by decide +kernel) ?_
          refine zs_imul (pc := 91) C (by decide +kernel) ?_
          refine zs_iload_n (pc := 92) (k := 1) (i := 1) C (by decide +kernel) rfl rfl ?_
          refine zs_iadd (pc := 93) C (by decide +kernel) ?_
          refine zs_dup2 (pc := 94) C rfl rfl (by decide +kernel) ?_
          refine zs_iald (pc := 95) (o := 81) (n := 225) C (by decide +kernel) rfl (fun hinx14 x14 => ?_)
          refine zs_iconst (pc := 96) (n := 1) (x := 1) C (by decide +kernel) (by decide +kernel) ?_
          refine zs_iload_n (pc := 97) (k := 2) (i := 2) C (by decide +kernel) rfl rfl ?_
          refine zs_ishl (pc := 98) C (by decide +kernel) ?_
          refine zs_ior (pc := 99) C (by decide +kernel) ?_
          refine zs_iast (pc := 100) (o := 81) (n := 225) C (fun _ _ _ => rfl) (by decide +kernel) rfl ?_
          refine zs_iinc (pc := 101) (i := 3) (n := 1) (y := w32 (t12 + 1)) (ls' := [(3, sI (w32 (t12 + 1))), (0, sR 18), (1, sI t1), (2, sI t8)]) C (by decide +kernel) rfl rfl (Nat.le_of_ble_eq_true rfl) rfl ?_
          refine zs_goto (pc := 104) (off := (-26)) (tgt := 78) C (by decide +kernel) (by decide) ?_
          exact zs_goj (hK13 (w32 (t12 + 1))) ⟨rfl, rfl, rfl, rfl, trivial⟩
    · refine zs_icmp_ne (pc := 41) (off := 9) (tgt := 50) C (by decide +kernel) (by decide) ?_ ?_
      · refine zs_iconst (pc := 50) (n := 0) (x := 0) C (by decide +kernel) (by decide +kernel) ?_
        exact zs_goj (hJ7 0) ⟨rfl, rfl, trivial⟩
      · refine zs_iconst (pc := 44) (n := 1) (x := 1) C (by decide +kernel) (by decide +kernel) ?_
        refine zs_iload_n (pc := 45) (k := 1) (i := 1) C (by decide +kernel) rfl rfl ?_
        refine zs_ishl (pc := 46) C (by decide +kernel) ?_
        refine zs_goto (pc := 47) (off := 4) (tgt := 51) C (by decide +kernel) (by decide) ?_
        exact zs_goj (hJ7 (ishl 1 t1)) ⟨rfl, rfl, trivial⟩
set_option maxRecDepth 20000 in
theorem c_X0_bind (l : Launch) (g : GC) (a0 : Int) (a1 : Int) : ConV l g yX0_bind cX0_bind 3 (rmd 1 0 0) [sR 18, sI a0, sI a1] (fun mm => fX0_bind a0 a1 mm) := by
  refine zs_ofV (by decide +kernel) (Nat.le_of_ble_eq_true rfl) ?_
  intro p e s m args below meth c C hr
  replace C : Bd g RX0 cX0_bind 3 p s m args meth c := C
  unfold fX0_bind
  refine zs_aload_n (pc := 0) (k := 0) (i := 0) C (by decide +kernel) rfl rfl ?_
  refine zs_iload_n (pc := 1) (k := 1) (i := 1) C (by decide +kernel) rfl rfl ?_
  refine zs_putI (pc := 2) (i := 59) (ci := 0) (k := 14) C (fun _ _ _ => rfl) (by decide +kernel) fl_RX0_59 fw_0_14 rfl rfl ?_
  refine zs_aload_n (pc := 5) (k := 0) (i := 0) C (by decide +kernel) rfl rfl ?_
  refine zs_iload_n (pc := 6) (k := 2) (i := 2) C (by decide +kernel) rfl rfl ?_
  refine zs_putZ (pc := 7) (i := 62) (ci := 0) (k := 15) C (fun _ _ _ => rfl) (by decide +kernel) fl_RX0_62 fw_0_15 rfl rfl ?_
  refine zs_aload_n (pc := 10) (k := 0) (i := 0) C (by decide +kernel) rfl rfl ?_
  refine zs_iconst (pc := 11) (n := 0) (x := 0) C (by decide +kernel) (by decide +kernel) ?_
  refine zs_putI (pc := 12) (i := 69) (ci := 0) (k := 17) C (fun _ _ _ => rfl) (by decide +kernel) fl_RX0_69 fw_0_17 rfl rfl ?_
  exact zs_retVv (pc := 15) C hr ⟨Nat.le_of_ble_eq_true rfl, Nat.le_of_ble_eq_true rfl⟩ (by decide +kernel)
set_option maxRecDepth 20000 in
theorem c_X0_begin (l : Launch) (g : GC) (a0 : Int) : ConV l g yX0_begin cX0_begin 3 (rmd 4 0 0) [sR 18, sI a0] (fun mm => fX0_begin a0 mm) := by
  refine zs_ofV (by decide +kernel) (Nat.le_of_ble_eq_true rfl) ?_
  intro p e s m args below meth c C hr
  replace C : Bd g RX0 cX0_begin 3 p s m args meth c := C
  unfold fX0_begin
  refine zs_aload_n (pc := 0) (k := 0) (i := 0) C (by decide +kernel) rfl rfl ?_
  refine zs_getR (o' := 19) (pc := 1) (i := 12) (ci := 0) (k := 0) C (by decide +kernel) fl_RX0_12 rfl rfl rfl ?_
  refine zs_getR (o' := 20) (pc := 4) (i := 72) (ci := 10) (k := 0) C (by decide +kernel) fl_RX0_72 rfl rfl rfl ?_
  refine zs_astore_n (pc := 7) (k := 2) (i := 2) (ls' := [(2, sR 20), (0, sR 18), (1, sI a0)]) C (by decide +kernel) rfl (Nat.le_of_ble_eq_true rfl) rfl ?_
  refine zs_aload_n (pc := 8) (k := 0) (i := 0) C (by decide +kernel) rfl rfl ?_
  refine zs_iload_n (pc := 9) (k := 1) (i := 1) C (by decide +kernel) rfl rfl ?_
  refine zs_putI (pc := 10) (i := 53) (ci := 0) (k := 12) C (fun _ _ _ => rfl) (by decide +kernel) fl_RX0_53 fw_0_12 rfl rfl ?_
  refine zs_aload_n (pc := 13) (k := 0) (i := 0) C (by decide +kernel) rfl rfl ?_
  refine zs_aload_n (pc := 14) (k := 2) (i := 2) C (by decide +kernel) rfl rfl ?_
  refine zs_getI (pc := 15) (i := 76) (ci := 3) (k := 3) C (by decide +kernel) fl_RX0_76 rfl rfl (fun x1 => ?_)
  refine zs_putI (pc := 18) (i := 56) (ci := 0) (k := 13) C (fun _ _ _ => rfl) (by decide +kernel) fl_RX0_56 fw_0_13 rfl rfl ?_
  refine zs_aload_n (pc := 21) (k := 0) (i := 0) C (by decide +kernel) rfl rfl ?_
  refine zs_iconst (pc := 22) (n := 0) (x := 0) C (by decide +kernel) (by decide +kernel) ?_
  refine zs_putI (pc := 23) (i := 66) (ci := 0) (k := 16) C (fun _ _ _ => rfl) (by decide +kernel) fl_RX0_66 fw_0_16 rfl rfl ?_
  refine zs_aload_n (pc := 26) (k := 0) (i := 0) C (by decide +kernel) rfl rfl ?_
  refine zs_getI (pc := 27) (i := 47) (ci := 0) (k := 10) C (by decide +kernel) fl_RX0_47 rfl rfl (fun x2 => ?_)
  refine zs_aload_n (pc := 30) (k := 2) (i := 2) C (by decide +kernel) rfl rfl ?_
  refine zs_getI (pc := 31) (i := 79) (ci := 3) (k := 1) C (by decide +kernel) fl_RX0_79 rfl rfl (fun x3 => ?_)
  refine zs_jn (pJ := 68) (kJ := 0) (sJ := 0) (fun t4 => [(0, sR 18), (2, sR 20)]) (fun t4 => []) (fun t4 => ?_) (fun J5 hJ5 => ?_)
  · refine zs_aload_n (pc := 68) (k := 0) (i := 0) C (by decide +kernel) rfl rfl ?_
    refine zs_aload_n (pc := 69) (k := 2) (i := 2) C (by decide +kernel) rfl rfl ?_
    refine zs_getR (o' := 22) (pc := 70) (i := 86) (ci := 3) (k := 7) C (by decide +kernel) fl_RX0_86 rfl rfl rfl ?_
    refine zs_aload_n (pc := 73) (k := 0) (i := 0) C (by decide +kernel) rfl rfl ?_
    refine zs_getI (pc := 74) (i := 53) (ci := 0) (k := 12) C (by decide +kernel) fl_RX0_53 rfl rfl (fun x6 => ?_)
    refine zs_iald (pc := 77) (o := 22) (n := 4) C (by decide +kernel) rfl (fun hinx7 x7 => ?_)
    refine zs_aload_n (pc := 78) (k := 0) (i := 0) C (by decide +kernel) rfl rfl ?_
    refine zs_getR (o' := 19) (pc := 79) (i := 12) (ci := 0) (k := 0) C (by decide +kernel) fl_RX0_12 rfl rfl rfl ?_
    refine zs_getR (o' := 27) (pc := 82) (i := 88) (ci := 10) (k := 1) C (by decide +kernel) fl_RX0_88 rfl rfl rfl ?_
    refine zs_aload_n (pc := 85) (k := 0) (i := 0) C (by decide +kernel) rfl rfl ?_
    refine zs_getI (pc := 86) (i := 53) (ci := 0) (k := 12) C (by decide +kernel) fl_RX0_53 rfl rfl (fun x8 => ?_)
    refine zs_cvRi (pc := 89) (As := [sI x8]) (st := [sI x7, sR 18]) C (Or.inr rfl) (c_X5_isParted l g x8) ml_RX0_92 rfl rfl rfl rfl (Nat.le_of_ble_eq_true rfl) ⟨Nat.le_of_ble_eq_true rfl, Nat.le_of_ble_eq_true rfl⟩ ⟨Nat.le_of_ble_eq_true rfl, Nat.le_of_ble_eq_true rfl⟩ (by decide +kernel) (fun x9 => ?_)
    refine zs_jn (pJ := 100) (kJ := 0) (sJ := 0) (fun t10 => []) (fun t10 => [sI t10, sI x7, sR 18]) (fun t10 => ?_) (fun J11 hJ11 => ?_)
    · refine zs_cvVv (pc := 100) (As := [sI x7, sI t10]) (st := []) C (fun _ _ _ => rfl) (c_X0_bind l g x7 t10) ml_RX0_98 rfl rfl rfl rfl (Nat.le_of_ble_eq_true rfl) ⟨Nat.le_of_ble_eq_true rfl, Nat.le_of_ble_eq_true rfl⟩ ⟨Nat.le_of_ble_eq_true rfl, Nat.le_of_ble_eq_true rfl⟩ (by decide +kernel) ?_
      exact zs_retVv (pc := 103) C hr ⟨Nat.le_of_ble_eq_true rfl, Nat.le_of_ble_eq_true rfl⟩ (by decide +kernel)
    · refine zs_if_ne (pc := 92) (off := 7) (tgt := 99) C (by decide +kernel) (by decide) ?_ ?_
      · refine zs_iconst (pc := 99) (n := 0) (x := 0) C (by decide +kernel) (by decide +kernel) ?_
        exact zs_goj (hJ11 0) trivial
      · refine zs_iconst (pc := 95) (n := 1) (x := 1) C (by decide +kernel) (by decide +kernel) ?_
        refine zs_goto (pc := 96) (off := 4) (tgt := 100) C (by decide +kernel) (by decide) ?_
        exact zs_goj (hJ11 1) trivial
  · refine zs_jn (pJ := 48) (kJ := 0) (sJ := 0) (fun t12 => [(0, sR 18), (2, sR 20)]) (fun t12 => []) (fun t12 => ?_) (fun J13 hJ13 => ?_)
    · refine zs_aload_n (pc := 48) (k := 0) (i := 0) C (by decide +kernel) rfl rfl ?_
      refine zs_aload_n (pc := 49) (k := 2) (i := 2) C (by decide +kernel) rfl rfl ?_
      refine zs_getI (pc := 50) (i := 79) (ci := 3) (k := 1) C (by decide +kernel) fl_RX0_79 rfl rfl (fun x14 => ?_)
      refine zs_putI (pc := 53) (i := 47) (ci := 0) (k := 10) C (fun _ _ _ => rfl) (by decide +kernel) fl_RX0_47 fw_0_10 rfl rfl ?_
      refine zs_aload_n (pc := 56) (k := 0) (i := 0) C (by decide +kernel) rfl rfl ?_
      refine zs_aload_n (pc := 57) (k := 2) (i := 2) C (by decide +kernel) rfl rfl ?_
      refine zs_cvRi (pc := 58) (As := []) (st := [sR 18]) C (Or.inl rfl) (c_X3_places l g ) ml_RX0_80 rfl rfl rfl rfl (Nat.le_of_ble_eq_true rfl) ⟨Nat.le_of_ble_eq_true rfl, Nat.le_of_ble_eq_true rfl⟩ ⟨Nat.le_of_ble_eq_true rfl, Nat.le_of_ble_eq_true rfl⟩ (by decide +kernel) (fun x15 => ?_)
      refine zs_putI (pc := 61) (i := 43) (ci := 0) (k := 9) C (fun _ _ _ => rfl) (by decide +kernel) fl_RX0_43 fw_0_9 rfl rfl ?_
      refine zs_aload_n (pc := 64) (k := 0) (i := 0) C (by decide +kernel) rfl rfl ?_
      refine zs_cvVv (pc := 65) (As := []) (st := []) C (fun _ _ _ => rfl) (c_X0_fillNear l g ) ml_RX0_83 rfl rfl rfl rfl (Nat.le_of_ble_eq_true rfl) ⟨Nat.le_of_ble_eq_true rfl, Nat.le_of_ble_eq_true rfl⟩ ⟨Nat.le_of_ble_eq_true rfl, Nat.le_of_ble_eq_true rfl⟩ (by decide +kernel) ?_
      exact zs_goj (hJ5 ()) ⟨rfl, rfl, trivial⟩
    · refine zs_icmp_ne (pc := 34) (off := 14) (tgt := 48) C (by decide +kernel) (by decide) ?_ ?_
      · exact zs_goj (hJ13 ()) ⟨rfl, rfl, trivial⟩
      · refine zs_aload_n (pc := 37) (k := 0) (i := 0) C (by decide +kernel) rfl rfl ?_
        refine zs_getI (pc := 38) (i := 43) (ci := 0) (k := 9) C (by decide +kernel) fl_RX0_43 rfl rfl (fun x16 => ?_)
        refine zs_aload_n (pc := 41) (k := 2) (i := 2) C (by decide +kernel) rfl rfl ?_
        refine zs_cvRi (pc := 42) (As := []) (st := [sI x16]) C (Or.inl rfl) (c_X3_places l g ) ml_RX0_80 rfl rfl rfl rfl (Nat.le_of_ble_eq_true rfl) ⟨Nat.le_of_ble_eq_true rfl, Nat.le_of_ble_eq_true rfl⟩ ⟨Nat.le_of_ble_eq_true rfl, Nat.le_of_ble_eq_true rfl⟩ (by decide +kernel) (fun x17 => ?_)
        refine zs_icmp_eq (pc := 45) (off := 23) (tgt := 68) C (by decide +kernel) (by decide) ?_ ?_
        · exact zs_goj (hJ5 ()) ⟨rfl, rfl, trivial⟩
        · exact zs_goj (hJ13 ()) ⟨rfl, rfl, trivial⟩
set_option maxRecDepth 20000 in
theorem c_J7_fill_d0a16 (l : Launch) (g : GC) (a0 : Nat) (n0 : Nat) (a1 : Int) (h0_ : layL[a0]? = some (.inr (1, n0))) : ConV l g yJ7_fill_d0a16 cJ7_fill_d0a16 5 (rmd 1 0 0) [sR a0, sL a1] (fun mm => fJ7_fill_d0a16 a0 n0 a1 mm) := by
  refine zs_ofV (by decide +kernel) (Nat.le_of_ble_eq_true rfl) ?_
  intro p e s m args below meth c C hr
  replace C : Bd g RJ7 cJ7_fill_d0a16 5 p s m args meth c := C
  unfold fJ7_fill_d0a16
  refine zs_iconst (pc := 0) (n := 0) (x := 0) C (by decide +kernel) (by decide +kernel) ?_
  refine zs_istore_n (pc := 1) (k := 3) (i := 3) (ls' := [(3, sI 0), (0, sR a0), (1, sL a1)]) C (by decide +kernel) rfl (Nat.le_of_ble_eq_true rfl) rfl ?_
  refine zs_aload_n (pc := 2) (k := 0) (i := 0) C (by decide +kernel) rfl rfl ?_
  refine zs_alen (pc := 3) (o := a0) (n := n0) (x := ((n0 : Nat) : Int)) C (by decide +kernel) h0_ (by decide) (ly_len h0_) ?_
  refine zs_let (fun x1 => ?_)
  refine zs_istore (pc := 4) (i := 4) (ls' := [(4, sI x1), (3, sI 0), (0, sR a0), (1, sL a1)]) C (by decide +kernel) (Nat.le_of_ble_eq_true rfl) rfl ?_
  refine zs_sub (ls' := [(0, sR a0), (1, sL a1), (3, sI 0), (4, sI x1)]) ⟨rfl, rfl, rfl, rfl, trivial⟩ ?_
  refine zs_lp (pc := 6) (fun (t2 : Int) => [(0, sR a0), (1, sL a1), (3, sI t2), (4, sI x1)]) (fun _ => []) (fun K3 hK3 t2 => ?_) BIG 0
  refine zs_iload_n (pc := 6) (k := 3) (i := 3) C (by decide +kernel) rfl rfl ?_
  refine zs_iload (pc := 7) (i := 4) C (by decide +kernel) rfl ?_
  refine zs_icmp_ge (pc := 9) (off := 13) (tgt := 22) C (by decide +kernel) (by decide) ?_ ?_
  · exact zs_retVv (pc := 22) C hr ⟨Nat.le_of_ble_eq_true rfl, Nat.le_of_ble_eq_true rfl⟩ (by decide +kernel)
  · refine zs_aload_n (pc := 12) (k := 0) (i := 0) C (by decide +kernel) rfl rfl ?_
    refine zs_iload_n (pc := 13) (k := 3) (i := 3) C (by decide +kernel) rfl rfl ?_
    refine zs_lload_n (pc := 14) (k := 1) (i := 1) C (by decide +kernel) rfl rfl ?_
    refine zs_last (pc := 15) (o := a0) (n := n0) C (fun _ _ _ => rfl) (by decide +kernel) h0_ ?_
    refine zs_iinc (pc := 16) (i := 3) (n := 1) (y := w32 (t2 + 1)) (ls' := [(3, sI (w32 (t2 + 1))), (0, sR a0), (1, sL a1), (4, sI x1)]) C (by decide +kernel) rfl rfl (Nat.le_of_ble_eq_true rfl) rfl ?_
    refine zs_goto (pc := 19) (off := (-13)) (tgt := 6) C (by decide +kernel) (by decide) ?_
    exact zs_goj (hK3 (w32 (t2 + 1))) ⟨rfl, rfl, rfl, rfl, trivial⟩
set_option maxRecDepth 20000 in
theorem c_X0_startFirst (l : Launch) (g : GC)  : ConR l g yX0_startFirst cX0_startFirst 1 (some .int) (rmd 1 0 0) [sR 18] (fun mm => fX0_startFirst  mm) := by
  refine zs_ofR (by decide +kernel) (Nat.le_of_ble_eq_true rfl) ?_
  intro p e s m args below meth c C hr
  replace C : Bd g RX0 cX0_startFirst 1 p s m args meth c := C
  unfold fX0_startFirst
  refine zs_aload_n (pc := 0) (k := 0) (i := 0) C (by decide +kernel) rfl rfl ?_
  refine zs_getR (o' := 19) (pc := 1) (i := 12) (ci := 0) (k := 0) C (by decide +kernel) fl_RX0_12 rfl rfl rfl ?_
  refine zs_getR (o' := 27) (pc := 4) (i := 88) (ci := 10) (k := 1) C (by decide +kernel) fl_RX0_88 rfl rfl rfl ?_
  refine zs_getR (o' := 28) (pc := 7) (i := 150) (ci := 5) (k := 4) C (by decide +kernel) fl_RX0_150 rfl rfl rfl ?_
  refine zs_aload_n (pc := 10) (k := 0) (i := 0) C (by decide +kernel) rfl rfl ?_
  refine zs_getI (pc := 11) (i := 53) (ci := 0) (k := 12) C (by decide +kernel) fl_RX0_53 rfl rfl (fun x1 => ?_)
  refine zs_iald (pc := 14) (o := 28) (n := 4) C (by decide +kernel) rfl (fun hinx2 x2 => ?_)
  exact zs_retRi (pc := 15) C hr ⟨Nat.le_of_ble_eq_true rfl, Nat.le_of_ble_eq_true rfl⟩ (by decide +kernel)
set_option maxRecDepth 20000 in
theorem c_X0_startSecond (l : Launch) (g : GC)  : ConR l g yX0_startSecond cX0_startSecond 1 (some .int) (rmd 1 0 0) [sR 18] (fun mm => fX0_startSecond  mm) := by
  refine zs_ofR (by decide +kernel) (Nat.le_of_ble_eq_true rfl) ?_
  intro p e s m args below meth c C hr
  replace C : Bd g RX0 cX0_startSecond 1 p s m args meth c := C
  unfold fX0_startSecond
  refine zs_aload_n (pc := 0) (k := 0) (i := 0) C (by decide +kernel) rfl rfl ?_
  refine zs_getR (o' := 19) (pc := 1) (i := 12) (ci := 0) (k := 0) C (by decide +kernel) fl_RX0_12 rfl rfl rfl ?_
  refine zs_getR (o' := 27) (pc := 4) (i := 88) (ci := 10) (k := 1) C (by decide +kernel) fl_RX0_88 rfl rfl rfl ?_
  refine zs_getR (o' := 29) (pc := 7) (i := 153) (ci := 5) (k := 5) C (by decide +kernel) fl_RX0_153 rfl rfl rfl ?_
  refine zs_aload_n (pc := 10) (k := 0) (i := 0) C (by decide +kernel) rfl rfl ?_
  refine zs_getI (pc := 11) (i := 53) (ci := 0) (k := 12) C (by decide +kernel) fl_RX0_53 rfl rfl (fun x1 => ?_)
  refine zs_iald (pc := 14) (o := 29) (n := 4) C (by decide +kernel) rfl (fun hinx2 x2 => ?_)
  exact zs_retRi (pc := 15) C hr ⟨Nat.le_of_ble_eq_true rfl, Nat.le_of_ble_eq_true rfl⟩ (by decide +kernel)
set_option maxRecDepth 20000 in
theorem c_X7_start (l : Launch) (g : GC)  : ConV l g yX7_start cX7_start 2 (rmd 2 0 0) [sR 96, sR 18] (fun mm => fX7_start  mm) := by
  refine zs_ofV (by decide +kernel) (Nat.le_of_ble_eq_true rfl) ?_
  intro p e s m args below meth c C hr
  replace C : Bd g RX7 cX7_start 2 p s m args meth c := C
  unfold fX7_start
  refine zs_aload_n (pc := 0) (k := 0) (i := 0) C (by decide +kernel) rfl rfl ?_
  refine zs_aload_n (pc := 1) (k := 1) (i := 1) C (by decide +kernel) rfl rfl ?_
  refine zs_getI (pc := 2) (i := 26) (ci := 0) (k := 9) C (by decide +kernel) fl_RX7_26 rfl rfl (fun x1 => ?_)
  refine zs_putI (pc := 5) (i := 22) (ci := 7) (k := 3) C (fun _ _ _ => rfl) (by decide +kernel) fl_RX7_22 fw_7_3 rfl rfl ?_
  refine zs_aload_n (pc := 8) (k := 0) (i := 0) C (by decide +kernel) rfl rfl ?_
  refine zs_getM (pc := 9) (i := 9) (ci := 7) (k := 0) C (by decide +kernel) fl_RX7_9 rfl rfl (fun x2 => ?_)
  refine zs_need (fun hx2 => ?_)
  refine zs_lconst (pc := 12) (n := 0) (x := 0) C (by decide +kernel) (by decide +kernel) ?_
  refine zs_csVv (pc := 13) (As := [sR x2, sL 0]) (st := []) C (fun _ _ _ => rfl) (c_J7_fill_d0a16 l g x2 625 0 hx2) ml_RX7_29 rfl rfl (Nat.le_of_ble_eq_true rfl) ⟨Nat.le_of_ble_eq_true rfl, Nat.le_of_ble_eq_true rfl⟩ ⟨Nat.le_of_ble_eq_true rfl, Nat.le_of_ble_eq_true rfl⟩ (by decide +kernel) ?_
  refine zs_aload_n (pc := 16) (k := 0) (i := 0) C (by decide +kernel) rfl rfl ?_
  refine zs_getM (pc := 17) (i := 9) (ci := 7) (k := 0) C (by decide +kernel) fl_RX7_9 rfl rfl (fun x3 => ?_)
  refine zs_need (fun hx3 => ?_)
  refine zs_aload_n (pc := 20) (k := 1) (i := 1) C (by decide +kernel) rfl rfl ?_
  refine zs_cvRi (pc := 21) (As := []) (st := [sR x3]) C (Or.inl rfl) (c_X0_startFirst l g ) ml_RX7_35 rfl rfl rfl rfl (Nat.le_of_ble_eq_true rfl) ⟨Nat.le_of_ble_eq_true rfl, Nat.le_of_ble_eq_true rfl⟩ ⟨Nat.le_of_ble_eq_true rfl, Nat.le_of_ble_eq_true rfl⟩ (by decide +kernel) (fun x4 => ?_)
  refine zs_bipush (pc := 24) (n := 25) (x := 25) C (by decide +kernel) (by decide +kernel) ?_
  refine zs_imul (pc := 26) C (by decide +kernel) ?_
  refine zs_aload_n (pc := 27) (k := 1) (i := 1) C (by decide +kernel) rfl rfl ?_
  refine zs_cvRi (pc := 28) (As := []) (st := [sI (w32 (x4 * 25)), sR x3]) C (Or.inl rfl) (c_X0_startSecond l g ) ml_RX7_39 rfl rfl rfl rfl (Nat.le_of_ble_eq_true rfl) ⟨Nat.le_of_ble_eq_true rfl, Nat.le_of_ble_eq_true rfl⟩ ⟨Nat.le_of_ble_eq_true rfl, Nat.le_of_ble_eq_true rfl⟩ (by decide +kernel) (fun x5 => ?_)
  refine zs_iadd (pc := 31) C (by decide +kernel) ?_
  refine zs_lconst (pc := 32) (n := 1) (x := 1) C (by decide +kernel) (by decide +kernel) ?_
  refine zs_last (pc := 33) (o := x3) (n := 625) C (fun _ _ _ => rfl) (by decide +kernel) hx3 ?_
  exact zs_retVv (pc := 34) C hr ⟨Nat.le_of_ble_eq_true rfl, Nat.le_of_ble_eq_true rfl⟩ (by decide +kernel)
set_option maxRecDepth 20000 in
theorem c_X9_at (l : Launch) (g : GC) (a0 : Int) (a1 : Int) : ConR l g yX9_at cX9_at 3 (some .long) (rmd 1 0 0) [sR 88, sI a0, sI a1] (fun mm => fX9_at a0 a1 mm) := by
  refine zs_ofR (by decide +kernel) (Nat.le_of_ble_eq_true rfl) ?_
  intro p e s m args below meth c C hr
  replace C : Bd g RX9 cX9_at 3 p s m args meth c := C
  unfold fX9_at
  refine zs_aload_n (pc := 0) (k := 0) (i := 0) C (by decide +kernel) rfl rfl ?_
  refine zs_getR (o' := 89) (pc := 1) (i := 13) (ci := 9) (k := 0) C (by decide +kernel) fl_RX9_13 rfl rfl rfl ?_
  refine zs_iload_n (pc := 4) (k := 1) (i := 1) C (by decide +kernel) rfl rfl ?_
  refine zs_aald (pc := 5) (o := 89) (t := 6) (n := 4) C (by decide) (by decide +kernel) rfl (ly_arr_6_4 rfl) (fun x1 hx1 => ?_)
  refine zs_iload_n (pc := 6) (k := 2) (i := 2) C (by decide +kernel) rfl rfl ?_
  refine zs_lald (pc := 7) (o := x1) (n := 30) C (by decide +kernel) hx1 (fun hinx2 x2 => ?_)
  exact zs_retRl (pc := 8) C hr ⟨Nat.le_of_ble_eq_true rfl, Nat.le_of_ble_eq_true rfl⟩ (by decide +kernel)
set_option maxRecDepth 20000 in
theorem c_X0_foresee (l : Launch) (g : GC) (a0 : Int) : ConV l g yX0_foresee cX0_foresee 6 (rmd 3 0 0) [sR 18, sI a0] (fun mm => fX0_foresee a0 mm) := by
  refine zs_ofV (by decide +kernel) (Nat.le_of_ble_eq_true rfl) ?_
  intro p e s m args below meth c C hr
  replace C : Bd g RX0 cX0_foresee 6 p s m args meth c := C
  unfold fX0_foresee
  refine zs_aload_n (pc := 0) (k := 0) (i := 0) C (by decide +kernel) rfl rfl ?_
  refine zs_getR (o' := 19) (pc := 1) (i := 12) (ci := 0) (k := 0) C (by decide +kernel) fl_RX0_12 rfl rfl rfl ?_
  refine zs_getR (o' := 20) (pc := 4) (i := 72) (ci := 10) (k := 0) C (by decide +kernel) fl_RX0_72 rfl rfl rfl ?_
  refine zs_getR (o' := 25) (pc := 7) (i := 115) (ci := 3) (k := 9) C (by decide +kernel) fl_RX0_115 rfl rfl rfl ?_
  refine zs_astore_n (pc := 10) (k := 2) (i := 2) (ls' := [(2, sR 25), (0, sR 18), (1, sI a0)]) C (by decide +kernel) rfl (Nat.le_of_ble_eq_true rfl) rfl ?_
  refine zs_aload_n (pc := 11) (k := 0) (i := 0) C (by decide +kernel) rfl rfl ?_
  refine zs_getI (pc := 12) (i := 66) (ci := 0) (k := 16) C (by decide +kernel) fl_RX0_66 rfl rfl (fun x1 => ?_)
  refine zs_iconst (pc := 15) (n := 1) (x := 1) C (by decide +kernel) (by decide +kernel) ?_
  refine zs_iadd (pc := 16) C (by decide +kernel) ?_
  refine zs_let (fun x2 => ?_)
  refine zs_istore_n (pc := 17) (k := 3) (i := 3) (ls' := [(3, sI x2), (2, sR 25), (0, sR 18), (1, sI a0)]) C (by decide +kernel) rfl (Nat.le_of_ble_eq_true rfl) rfl ?_
  refine zs_sub (ls' := [(0, sR 18), (1, sI a0), (2, sR 25), (3, sI x2)]) ⟨rfl, rfl, rfl, rfl, trivial⟩ ?_
  refine zs_lp (pc := 18) (fun (t3 : Int) => [(0, sR 18), (1, sI a0), (2, sR 25), (3, sI t3)]) (fun _ => []) (fun K4 hK4 t3 => ?_) BIG x2
  refine zs_iload_n (pc := 18) (k := 3) (i := 3) C (by decide +kernel) rfl rfl ?_
  refine zs_iload_n (pc := 19) (k := 1) (i := 1) C (by decide +kernel) rfl rfl ?_
  refine zs_icmp_gt (pc := 20) (off := 164) (tgt := 184) C (by decide +kernel) (by decide) ?_ ?_
  · refine zs_aload_n (pc := 184) (k := 0) (i := 0) C (by decide +kernel) rfl rfl ?_
    refine zs_aload_n (pc := 185) (k := 0) (i := 0) C (by decide +kernel) rfl rfl ?_
    refine zs_getI (pc := 186) (i := 66) (ci := 0) (k := 16) C (by decide +kernel) fl_RX0_66 rfl rfl (fun x5 => ?_)
    refine zs_iload_n (pc := 189) (k := 1) (i := 1) C (by decide +kernel) rfl rfl ?_
    refine zs_mmax (pc := 190) (idx := 138) C wf_1359 wf_702 wf_166 wf_703 ⟨Nat.le_of_ble_eq_true rfl, Nat.le_of_ble_eq_true rfl, Nat.zero_le _, Nat.zero_le _⟩ (by decide +kernel) ?_
    refine zs_putI (pc := 193) (i := 66) (ci := 0) (k := 16) C (fun _ _ _ => rfl) (by decide +kernel) fl_RX0_66 fw_0_16 rfl rfl ?_
    refine zs_aload_n (pc := 196) (k := 0) (i := 0) C (by decide +kernel) rfl rfl ?_
    refine zs_getI (pc := 197) (i := 69) (ci := 0) (k := 17) C (by decide +kernel) fl_RX0_69 rfl rfl (fun x6 => ?_)
    refine zs_iconst (pc := 200) (n := 1) (x := 1) C (by decide +kernel) (by decide +kernel) ?_
    refine zs_iadd (pc := 201) C (by decide +kernel) ?_
    refine zs_let (fun x7 => ?_)
    refine zs_istore_n (pc := 202) (k := 3) (i := 3) (ls' := [(3, sI x7), (0, sR 18), (1, sI a0), (2, sR 25)]) C (by decide +kernel) rfl (Nat.le_of_ble_eq_true rfl) rfl ?_
    refine zs_sub (ls' := [(0, sR 18), (1, sI a0), (3, sI x7)]) ⟨rfl, rfl, rfl, trivial⟩ ?_
    refine zs_lp (pc := 203) (fun (t8 : Int) => [(0, sR 18), (1, sI a0), (3, sI t8)]) (fun _ => []) (fun K9 hK9 t8 => ?_) BIG x7
    refine zs_iload_n (pc := 203) (k := 3) (i := 3) C (by decide +kernel) rfl rfl ?_
    refine zs_iload_n (pc := 204) (k := 1) (i := 1) C (by decide +kernel) rfl rfl ?_
    refine zs_icmp_gt (pc := 205) (off := 63) (tgt := 268) C (by decide +kernel) (by decide) ?_ ?_
    · refine zs_aload_n (pc := 268) (k := 0) (i := 0) C (by decide +kernel) rfl rfl ?_
      refine zs_aload_n (pc := 269) (k := 0) (i := 0) C (by decide +kernel) rfl rfl ?_
      refine zs_getI (pc := 270) (i := 69) (ci := 0) (k := 17) C (by decide +kernel) fl_RX0_69 rfl rfl (fun x10 => ?_)
      refine zs_iload_n (pc := 273) (k := 1) (i := 1) C (by decide +kernel) rfl rfl ?_
      refine zs_mmax (pc := 274) (idx := 138) C wf_1359 wf_702 wf_166 wf_703 ⟨Nat.le_of_ble_eq_true rfl, Nat.le_of_ble_eq_true rfl, Nat.zero_le _, Nat.zero_le _⟩ (by decide +kernel) ?_
      refine zs_putI (pc := 277) (i := 69) (ci := 0) (k := 17) C (fun _ _ _ => rfl) (by decide +kernel) fl_RX0_69 fw_0_17 rfl rfl ?_
      exact zs_retVv (pc := 280) C hr ⟨Nat.le_of_ble_eq_true rfl, Nat.le_of_ble_eq_true rfl⟩ (by decide +kernel)
    · refine zs_aload_n (pc := 208) (k := 0) (i := 0) C (by decide +kernel) rfl rfl ?_
      refine zs_getI (pc := 209) (i := 62) (ci := 0) (k := 15) C (by decide +kernel) fl_RX0_62 rfl rfl (fun x11 => ?_)
      refine zs_jn (pJ := 247) (kJ := 0) (sJ := 0) (fun t12 => [(0, sR 18), (1, sI a0), (3, sI t8)]) (fun t12 => [sI t12]) (fun t12 => ?_) (fun J13 hJ13 => ?_)
      · refine zs_istore (pc := 247) (i := 4) (ls' := [(4, sI t12), (0, sR 18), (1, sI a0), (3, sI t8)]) C (by decide +kernel) (Nat.le_of_ble_eq_true rfl) rfl ?_
        refine zs_aload_n (pc := 249) (k := 0) (i := 0) C (by decide +kernel) rfl rfl ?_
        refine zs_getR (o' := 80) (pc := 250) (i := 25) (ci := 0) (k := 3) C (by decide +kernel) fl_RX0_25 rfl rfl rfl ?_
        refine zs_iload_n (pc := 253) (k := 3) (i := 3) C (by decide +kernel) rfl rfl ?_
        refine zs_bipush (pc := 254) (n := 8) (x := 8) C (by decide +kernel) (by decide +kernel) ?_
        refine zs_iload (pc := 256) (i := 4) C (by decide +kernel) rfl ?_
        refine zs_mmin (pc := 258) (idx := 147) C wf_1361 wf_717 wf_166 wf_718 ⟨Nat.le_of_ble_eq_true rfl, Nat.le_of_ble_eq_true rfl, Nat.zero_le _, Nat.zero_le _⟩ (by decide +kernel) ?_
        refine zs_iast (pc := 261) (o := 80) (n := 41) C (fun _ _ _ => rfl) (by decide +kernel) rfl ?_
        refine zs_iinc (pc := 262) (i := 3) (n := 1) (y := w32 (t8 + 1)) (ls' := [(3, sI (w32 (t8 + 1))), (4, sI t12), (0, sR 18), (1, sI a0)]) C (by decide +kernel) rfl rfl (Nat.le_of_ble_eq_true rfl) rfl ?_
        refine zs_goto (pc := 265) (off := (-62)) (tgt := 203) C (by decide +kernel) (by decide) ?_
        exact zs_goj (hK9 (w32 (t8 + 1))) ⟨rfl, rfl, rfl, trivial⟩
      · refine zs_if_eq (pc := 212) (off := 33) (tgt := 245) C (by decide +kernel) (by decide) ?_ ?_
        · refine zs_bipush (pc := 245) (n := 8) (x := 8) C (by decide +kernel) (by decide +kernel) ?_
          exact zs_goj (hJ13 8) ⟨rfl, rfl, rfl, trivial⟩
        · refine zs_aload_n (pc := 215) (k := 0) (i := 0) C (by decide +kernel) rfl rfl ?_
          refine zs_getR (o' := 19) (pc := 216) (i := 12) (ci := 0) (k := 0) C (by decide +kernel) fl_RX0_12 rfl rfl rfl ?_
          refine zs_aload_n (pc := 219) (k := 0) (i := 0) C (by decide +kernel) rfl rfl ?_
          refine zs_getI (pc := 220) (i := 53) (ci := 0) (k := 12) C (by decide +kernel) fl_RX0_53 rfl rfl (fun x14 => ?_)
          refine zs_aload_n (pc := 223) (k := 0) (i := 0) C (by decide +kernel) rfl rfl ?_
          refine zs_getI (pc := 224) (i := 59) (ci := 0) (k := 14) C (by decide +kernel) fl_RX0_59 rfl rfl (fun x15 => ?_)
          refine zs_aload_n (pc := 227) (k := 0) (i := 0) C (by decide +kernel) rfl rfl ?_
          refine zs_getR (o' := 19) (pc := 228) (i := 12) (ci := 0) (k := 0) C (by decide +kernel) fl_RX0_12 rfl rfl rfl ?_
          refine zs_getR (o' := 27) (pc := 231) (i := 88) (ci := 10) (k := 1) C (by decide +kernel) fl_RX0_88 rfl rfl rfl ?_
          refine zs_getI (pc := 234) (i := 119) (ci := 5) (k := 0) C (by decide +kernel) fl_RX0_119 rfl rfl (fun x16 => ?_)
          refine zs_iload_n (pc := 237) (k := 3) (i := 3) C (by decide +kernel) rfl rfl ?_
          refine zs_iadd (pc := 238) C (by decide +kernel) ?_
          refine zs_cvWi (pc := 239) (As := [sI x14, sI x15, sI (w32 (x16 + t8))]) (st := []) C (fun _ _ _ => rfl) (Or.inl rfl) (c_X10_lengthOf l g x14 x15 (w32 (x16 + t8))) ml_RX0_143 rfl rfl rfl rfl (Nat.le_of_ble_eq_true rfl) ⟨Nat.le_of_ble_eq_true rfl, Nat.le_of_ble_eq_true rfl⟩ ⟨Nat.le_of_ble_eq_true rfl, Nat.le_of_ble_eq_true rfl⟩ (by decide +kernel) (fun x17 => ?_)
          refine zs_goto (pc := 242) (off := 5) (tgt := 247) C (by decide +kernel) (by decide) ?_
          exact zs_goj (hJ13 x17) ⟨rfl, rfl, rfl, trivial⟩
  · refine zs_aload_n (pc := 23) (k := 0) (i := 0) C (by decide +kernel) rfl rfl ?_
    refine zs_getR (o' := 19) (pc := 24) (i := 12) (ci := 0) (k := 0) C (by decide +kernel) fl_RX0_12 rfl rfl rfl ?_
    refine zs_getR (o' := 27) (pc := 27) (i := 88) (ci := 10) (k := 1) C (by decide +kernel) fl_RX0_88 rfl rfl rfl ?_
    refine zs_getI (pc := 30) (i := 119) (ci := 5) (k := 0) C (by decide +kernel) fl_RX0_119 rfl rfl (fun x18 => ?_)
    refine zs_iload_n (pc := 33) (k := 3) (i := 3) C (by decide +kernel) rfl rfl ?_
    refine zs_iadd (pc := 34) C (by decide +kernel) ?_
    refine zs_let (fun x19 => ?_)
    refine zs_istore (pc := 35) (i := 4) (ls' := [(4, sI x19), (0, sR 18), (1, sI a0), (2, sR 25), (3, sI t3)]) C (by decide +kernel) (Nat.le_of_ble_eq_true rfl) rfl ?_
    refine zs_aload_n (pc := 37) (k := 0) (i := 0) C (by decide +kernel) rfl rfl ?_
    refine zs_getR (o' := 19) (pc := 38) (i := 12) (ci := 0) (k := 0) C (by decide +kernel) fl_RX0_12 rfl rfl rfl ?_
    refine zs_getR (o' := 27) (pc := 41) (i := 88) (ci := 10) (k := 1) C (by decide +kernel) fl_RX0_88 rfl rfl rfl ?_
    refine zs_iload (pc := 44) (i := 4) C (by decide +kernel) rfl ?_
    refine zs_cvRi (pc := 46) (As := [sI x19]) (st := []) C (Or.inl rfl) (c_X5_rainIn l g x19) ml_RX0_122 rfl rfl rfl rfl (Nat.le_of_ble_eq_true rfl) ⟨Nat.le_of_ble_eq_true rfl, Nat.le_of_ble_eq_true rfl⟩ ⟨Nat.le_of_ble_eq_true rfl, Nat.le_of_ble_eq_true rfl⟩ (by decide +kernel) (fun x20 => ?_)
    refine zs_aload_n (pc := 49) (k := 0) (i := 0) C (by decide +kernel) rfl rfl ?_
    refine zs_getR (o' := 19) (pc := 50) (i := 12) (ci := 0) (k := 0) C (by decide +kernel) fl_RX0_12 rfl rfl rfl ?_
    refine zs_getR (o' := 27) (pc := 53) (i := 88) (ci := 10) (k := 1) C (by decide +kernel) fl_RX0_88 rfl rfl rfl ?_
    refine zs_iload (pc := 56) (i := 4) C (by decide +kernel) rfl ?_
    refine zs_iconst (pc := 58) (n := 1) (x := 1) C (by decide +kernel) (by decide +kernel) ?_
    refine zs_isub (pc := 59) C (by decide +kernel) ?_
    refine zs_cvRi (pc := 60) (As := [sI (w32 (x19 - 1))]) (st := [sI x20]) C (Or.inl rfl) (c_X5_rainIn l g (w32 (x19 - 1))) ml_RX0_122 rfl rfl rfl rfl (Nat.le_of_ble_eq_true rfl) ⟨Nat.le_of_ble_eq_true rfl, Nat.le_of_ble_eq_true rfl⟩ ⟨Nat.le_of_ble_eq_true rfl, Nat.le_of_ble_eq_true rfl⟩ (by decide +kernel) (fun x21 => ?_)
    refine zs_jn (pJ := 71) (kJ := 0) (sJ := 0) (fun t22 => [(0, sR 18), (1, sI a0), (2, sR 25), (3, sI t3), (4, sI x19)]) (fun t22 => [sI t22]) (fun t22 => ?_) (fun J23 hJ23 => ?_)
    · refine zs_istore (pc := 71) (i := 5) (ls' := [(5, sI t22), (0, sR 18), (1, sI a0), (2, sR 25), (3, sI t3), (4, sI x19)]) C (by decide +kernel) (Nat.le_of_ble_eq_true rfl) rfl ?_
      refine zs_iload_n (pc := 73) (k := 3) (i := 3) C (by decide +kernel) rfl rfl ?_
      refine zs_iconst (pc := 74) (n := 1) (x := 1) C (by decide +kernel) (by decide +kernel) ?_
      refine zs_jn (pJ := 178) (kJ := 0) (sJ := 0) (fun t24 => [(0, sR 18), (1, sI a0), (2, sR 25), (3, sI t3)]) (fun t24 => []) (fun t24 => ?_) (fun J25 hJ25 => ?_)
      · refine zs_iinc (pc := 178) (i := 3) (n := 1) (y := w32 (t3 + 1)) (ls' := [(3, sI (w32 (t3 + 1))), (0, sR 18), (1, sI a0), (2, sR 25)]) C (by decide +kernel) rfl rfl (Nat.le_of_ble_eq_true rfl) rfl ?_
        refine zs_goto (pc := 181) (off := (-163)) (tgt := 18) C (by decide +kernel) (by decide) ?_
        exact zs_goj (hK4 (w32 (t3 + 1))) ⟨rfl, rfl, rfl, rfl, trivial⟩
      · refine zs_jn (pJ := 128) (kJ := 0) (sJ := 0) (fun t26 => [(0, sR 18), (1, sI a0), (2, sR 25), (3, sI t3), (4, sI x19)]) (fun t26 => []) (fun t26 => ?_) (fun J27 hJ27 => ?_)
        · refine zs_aload_n (pc := 128) (k := 0) (i := 0) C (by decide +kernel) rfl rfl ?_
          refine zs_getR (o' := 78) (pc := 129) (i := 18) (ci := 0) (k := 1) C (by decide +kernel) fl_RX0_18 rfl rfl rfl ?_
          refine zs_iload_n (pc := 132) (k := 3) (i := 3) C (by decide +kernel) rfl rfl ?_
          refine zs_aload_n (pc := 133) (k := 0) (i := 0) C (by decide +kernel) rfl rfl ?_
          refine zs_getR (o' := 19) (pc := 134) (i := 12) (ci := 0) (k := 0) C (by decide +kernel) fl_RX0_12 rfl rfl rfl ?_
          refine zs_aload_n (pc := 137) (k := 0) (i := 0) C (by decide +kernel) rfl rfl ?_
          refine zs_getI (pc := 138) (i := 53) (ci := 0) (k := 12) C (by decide +kernel) fl_RX0_53 rfl rfl (fun x28 => ?_)
          refine zs_iconst (pc := 141) (n := 0) (x := 0) C (by decide +kernel) (by decide +kernel) ?_
          refine zs_iload (pc := 142) (i := 4) C (by decide +kernel) rfl ?_
          refine zs_iconst (pc := 144) (n := 0) (x := 0) C (by decide +kernel) (by decide +kernel) ?_
          refine zs_aload_n (pc := 145) (k := 0) (i := 0) C (by decide +kernel) rfl rfl ?_
          refine zs_getI (pc := 146) (i := 43) (ci := 0) (k := 9) C (by decide +kernel) fl_RX0_43 rfl rfl (fun x29 => ?_)
          refine zs_cvWi (pc := 149) (As := [sI x28, sI 0, sI x19, sI 0, sI x29]) (st := [sI t3, sR 78]) C (fun _ _ _ => rfl) (Or.inl rfl) (c_X10_lawBits l g x28 0 x19 0 x29) ml_RX0_134 rfl rfl rfl rfl (Nat.le_of_ble_eq_true rfl) ⟨Nat.le_of_ble_eq_true rfl, Nat.le_of_ble_eq_true rfl⟩ ⟨Nat.le_of_ble_eq_true rfl, Nat.le_of_ble_eq_true rfl⟩ (by decide +kernel) (fun x30 => ?_)
          refine zs_iast (pc := 152) (o := 78) (n := 41) C (fun _ _ _ => rfl) (by decide +kernel) rfl ?_
          refine zs_aload_n (pc := 153) (k := 0) (i := 0) C (by decide +kernel) rfl rfl ?_
          refine zs_getR (o' := 79) (pc := 154) (i := 22) (ci := 0) (k := 2) C (by decide +kernel) fl_RX0_22 rfl rfl rfl ?_
          refine zs_iload_n (pc := 157) (k := 3) (i := 3) C (by decide +kernel) rfl rfl ?_
          refine zs_aload_n (pc := 158) (k := 0) (i := 0) C (by decide +kernel) rfl rfl ?_
          refine zs_getR (o' := 19) (pc := 159) (i := 12) (ci := 0) (k := 0) C (by decide +kernel) fl_RX0_12 rfl rfl rfl ?_
          refine zs_aload_n (pc := 162) (k := 0) (i := 0) C (by decide +kernel) rfl rfl ?_
          refine zs_getI (pc := 163) (i := 53) (ci := 0) (k := 12) C (by decide +kernel) fl_RX0_53 rfl rfl (fun x31 => ?_)
          refine zs_iconst (pc := 166) (n := 1) (x := 1) C (by decide +kernel) (by decide +kernel) ?_
          refine zs_iload (pc := 167) (i := 4) C (by decide +kernel) rfl ?_
          refine zs_iconst (pc := 169) (n := 0) (x := 0) C (by decide +kernel) (by decide +kernel) ?_
          refine zs_aload_n (pc := 170) (k := 0) (i := 0) C (by decide +kernel) rfl rfl ?_
          refine zs_getI (pc := 171) (i := 43) (ci := 0) (k := 9) C (by decide +kernel) fl_RX0_43 rfl rfl (fun x32 => ?_)
          refine zs_cvWi (pc := 174) (As := [sI x31, sI 1, sI x19, sI 0, sI x32]) (st := [sI t3, sR 79]) C (fun _ _ _ => rfl) (Or.inl rfl) (c_X10_lawBits l g x31 1 x19 0 x32) ml_RX0_134 rfl rfl rfl rfl (Nat.le_of_ble_eq_true rfl) ⟨Nat.le_of_ble_eq_true rfl, Nat.le_of_ble_eq_true rfl⟩ ⟨Nat.le_of_ble_eq_true rfl, Nat.le_of_ble_eq_true rfl⟩ (by decide +kernel) (fun x33 => ?_)
          refine zs_iast (pc := 177) (o := 79) (n := 41) C (fun _ _ _ => rfl) (by decide +kernel) rfl ?_
          exact zs_goj (hJ25 ()) ⟨rfl, rfl, rfl, rfl, trivial⟩
        · refine zs_icmp_le (pc := 75) (off := 53) (tgt := 128) C (by decide +kernel) (by decide) ?_ ?_
          · exact zs_goj (hJ27 ()) ⟨rfl, rfl, rfl, rfl, rfl, trivial⟩
          · refine zs_aload_n (pc := 78) (k := 2) (i := 2) C (by decide +kernel) rfl rfl ?_
            refine zs_getI (pc := 79) (i := 126) (ci := 4) (k := 5) C (by decide +kernel) fl_RX0_126 rfl rfl (fun x34 => ?_)
            refine zs_if_ne (pc := 82) (off := 46) (tgt := 128) C (by decide +kernel) (by decide) ?_ ?_
            · exact zs_goj (hJ27 ()) ⟨rfl, rfl, rfl, rfl, rfl, trivial⟩
            · refine zs_aload_n (pc := 85) (k := 2) (i := 2) C (by decide +kernel) rfl rfl ?_
              refine zs_getI (pc := 86) (i := 131) (ci := 4) (k := 6) C (by decide +kernel) fl_RX0_131 rfl rfl (fun x35 => ?_)
              refine zs_jn (pJ := 97) (kJ := 0) (sJ := 0) (fun t36 => [(0, sR 18), (1, sI a0), (2, sR 25), (3, sI t3)]) (fun t36 => []) (fun t36 => ?_) (fun J37 hJ37 => ?_)
              · refine zs_aload_n (pc := 97) (k := 0) (i := 0) C (by decide +kernel) rfl rfl ?_
                refine zs_getR (o' := 78) (pc := 98) (i := 18) (ci := 0) (k := 1) C (by decide +kernel) fl_RX0_18 rfl rfl rfl ?_
                refine zs_iload_n (pc := 101) (k := 3) (i := 3) C (by decide +kernel) rfl rfl ?_
                refine zs_aload_n (pc := 102) (k := 0) (i := 0) C (by decide +kernel) rfl rfl ?_
                refine zs_getR (o' := 78) (pc := 103) (i := 18) (ci := 0) (k := 1) C (by decide +kernel) fl_RX0_18 rfl rfl rfl ?_
                refine zs_iload_n (pc := 106) (k := 3) (i := 3) C (by decide +kernel) rfl rfl ?_
                refine zs_iconst (pc := 107) (n := 1) (x := 1) C (by decide +kernel) (by decide +kernel) ?_
                refine zs_isub (pc := 108) C (by decide +kernel) ?_
                refine zs_iald (pc := 109) (o := 78) (n := 41) C (by decide +kernel) rfl (fun hinx38 x38 => ?_)
                refine zs_iast (pc := 110) (o := 78) (n := 41) C (fun _ _ _ => rfl) (by decide +kernel) rfl ?_
                refine zs_aload_n (pc := 111) (k := 0) (i := 0) C (by decide +kernel) rfl rfl ?_
                refine zs_getR (o' := 79) (pc := 112) (i := 22) (ci := 0) (k := 2) C (by decide +kernel) fl_RX0_22 rfl rfl rfl ?_
                refine zs_iload_n (pc := 115) (k := 3) (i := 3) C (by decide +kernel) rfl rfl ?_
                refine zs_aload_n (pc := 116) (k := 0) (i := 0) C (by decide +kernel) rfl rfl ?_
                refine zs_getR (o' := 79) (pc := 117) (i := 22) (ci := 0) (k := 2) C (by decide +kernel) fl_RX0_22 rfl rfl rfl ?_
                refine zs_iload_n (pc := 120) (k := 3) (i := 3) C (by decide +kernel) rfl rfl ?_
                refine zs_iconst (pc := 121) (n := 1) (x := 1) C (by decide +kernel) (by decide +kernel) ?_
                refine zs_isub (pc := 122) C (by decide +kernel) ?_
                refine zs_iald (pc := 123) (o := 79) (n := 41) C (by decide +kernel) rfl (fun hinx39 x39 => ?_)
                refine zs_iast (pc := 124) (o := 79) (n := 41) C (fun _ _ _ => rfl) (by decide +kernel) rfl ?_
                refine zs_goto (pc := 125) (off := 53) (tgt := 178) C (by decide +kernel) (by decide) ?_
                exact zs_goj (hJ25 ()) ⟨rfl, rfl, rfl, rfl, trivial⟩
              · refine zs_if_eq (pc := 89) (off := 8) (tgt := 97) C (by decide +kernel) (by decide) ?_ ?_
                · exact zs_goj (hJ37 ()) ⟨rfl, rfl, rfl, rfl, trivial⟩
                · refine zs_iload (pc := 92) (i := 5) C (by decide +kernel) rfl ?_
                  refine zs_if_ne (pc := 94) (off := 34) (tgt := 128) C (by decide +kernel) (by decide) ?_ ?_
                  · exact zs_goj (hJ27 ()) ⟨rfl, rfl, rfl, rfl, rfl, trivial⟩
                  · exact zs_goj (hJ37 ()) ⟨rfl, rfl, rfl, rfl, trivial⟩
    · refine zs_icmp_eq (pc := 63) (off := 7) (tgt := 70) C (by decide +kernel) (by decide) ?_ ?_
      · refine zs_iconst (pc := 70) (n := 0) (x := 0) C (by decide +kernel) (by decide +kernel) ?_
        exact zs_goj (hJ23 0) ⟨rfl, rfl, rfl, rfl, rfl, trivial⟩
      · refine zs_iconst (pc := 66) (n := 1) (x := 1) C (by decide +kernel) (by decide +kernel) ?_
        refine zs_goto (pc := 67) (off := 4) (tgt := 71) C (by decide +kernel) (by decide) ?_
        exact zs_goj (hJ23 1) ⟨rfl, rfl, rfl, rfl, rfl, trivial⟩
set_option maxRecDepth 20000 in
theorem c_X0_landing (l : Launch) (g : GC) (a0 : Int) (a1 : Int) (a2 : Int) (a3 : Int) : ConR l g yX0_landing cX0_landing 7 (some .int) (rmd 3 0 0) [sR 18, sI a0, sI a1, sI a2, sI a3] (fun mm => fX0_landing a0 a1 a2 a3 mm) := by
  refine zs_ofR (by decide +kernel) (Nat.le_of_ble_eq_true rfl) ?_
  intro p e s m args below meth c C hr
  replace C : Bd g RX0 cX0_landing 7 p s m args meth c := C
  unfold fX0_landing
  refine zs_aload_n (pc := 0) (k := 0) (i := 0) C (by decide +kernel) rfl rfl ?_
  refine zs_getR (o' := 19) (pc := 1) (i := 12) (ci := 0) (k := 0) C (by decide +kernel) fl_RX0_12 rfl rfl rfl ?_
  refine zs_getR (o' := 20) (pc := 4) (i := 72) (ci := 10) (k := 0) C (by decide +kernel) fl_RX0_72 rfl rfl rfl ?_
  refine zs_iload_n (pc := 7) (k := 2) (i := 2) C (by decide +kernel) rfl rfl ?_
  refine zs_iload_n (pc := 8) (k := 3) (i := 3) C (by decide +kernel) rfl rfl ?_
  refine zs_cvRi (pc := 9) (As := [sI a1, sI a2]) (st := []) C (Or.inl rfl) (c_X3_beside l g a1 a2) ml_RX0_108 rfl rfl rfl rfl (Nat.le_of_ble_eq_true rfl) ⟨Nat.le_of_ble_eq_true rfl, Nat.le_of_ble_eq_true rfl⟩ ⟨Nat.le_of_ble_eq_true rfl, Nat.le_of_ble_eq_true rfl⟩ (by decide +kernel) (fun x1 => ?_)
  refine zs_istore (pc := 12) (i := 5) (ls' := [(5, sI x1), (0, sR 18), (1, sI a0), (2, sI a1), (3, sI a2), (4, sI a3)]) C (by decide +kernel) (Nat.le_of_ble_eq_true rfl) rfl ?_
  refine zs_iload_n (pc := 14) (k := 3) (i := 3) C (by decide +kernel) rfl rfl ?_
  refine zs_jn (pJ := 24) (kJ := 0) (sJ := 0) (fun t2 => [(5, sI x1)]) (fun t2 => []) (fun t2 => ?_) (fun J3 hJ3 => ?_)
  · refine zs_iload (pc := 24) (i := 5) C (by decide +kernel) rfl ?_
    exact zs_retRi (pc := 26) C hr ⟨Nat.le_of_ble_eq_true rfl, Nat.le_of_ble_eq_true rfl⟩ (by decide +kernel)
  · refine zs_if_eq (pc := 15) (off := 9) (tgt := 24) C (by decide +kernel) (by decide) ?_ ?_
    · exact zs_goj (hJ3 ()) ⟨rfl, trivial⟩
    · refine zs_iload (pc := 18) (i := 5) C (by decide +kernel) rfl ?_
      refine zs_iconst (pc := 20) (n := (-1)) (x := (-1)) C (by decide +kernel) (by decide +kernel) ?_
      refine zs_icmp_ne (pc := 21) (off := 6) (tgt := 27) C (by decide +kernel) (by decide) ?_ ?_
      · refine zs_iload_n (pc := 27) (k := 1) (i := 1) C (by decide +kernel) rfl rfl ?_
        refine zs_jn (pJ := 48) (kJ := 0) (sJ := 0) (fun t4 => [(0, sR 18), (5, sI x1)]) (fun t4 => [sI t4]) (fun t4 => ?_) (fun J5 hJ5 => ?_)
        · refine zs_aload_n (pc := 48) (k := 0) (i := 0) C (by decide +kernel) rfl rfl ?_
          refine zs_getI (pc := 49) (i := 56) (ci := 0) (k := 13) C (by decide +kernel) fl_RX0_56 rfl rfl (fun x6 => ?_)
          refine zs_iconst (pc := 52) (n := (-1)) (x := (-1)) C (by decide +kernel) (by decide +kernel) ?_
          refine zs_ixor (pc := 53) C (by decide +kernel) ?_
          refine zs_iand (pc := 54) C (by decide +kernel) ?_
          refine zs_let (fun x7 => ?_)
          refine zs_istore (pc := 55) (i := 6) (ls' := [(6, sI x7), (0, sR 18), (5, sI x1)]) C (by decide +kernel) (Nat.le_of_ble_eq_true rfl) rfl ?_
          refine zs_iload (pc := 57) (i := 6) C (by decide +kernel) rfl ?_
          refine zs_iload (pc := 59) (i := 5) C (by decide +kernel) rfl ?_
          refine zs_iushr (pc := 61) C (by decide +kernel) ?_
          refine zs_iconst (pc := 62) (n := 1) (x := 1) C (by decide +kernel) (by decide +kernel) ?_
          refine zs_iand (pc := 63) C (by decide +kernel) ?_
          refine zs_jn (pJ := 73) (kJ := 0) (sJ := 0) (fun t8 => []) (fun t8 => [sI t8]) (fun t8 => ?_) (fun J9 hJ9 => ?_)
          · exact zs_retRi (pc := 73) C hr ⟨Nat.le_of_ble_eq_true rfl, Nat.le_of_ble_eq_true rfl⟩ (by decide +kernel)
          · refine zs_if_eq (pc := 64) (off := 8) (tgt := 72) C (by decide +kernel) (by decide) ?_ ?_
            · refine zs_iconst (pc := 72) (n := (-1)) (x := (-1)) C (by decide +kernel) (by decide +kernel) ?_
              exact zs_goj (hJ9 (-1)) trivial
            · refine zs_iload (pc := 67) (i := 5) C (by decide +kernel) rfl ?_
              refine zs_goto (pc := 69) (off := 4) (tgt := 73) C (by decide +kernel) (by decide) ?_
              exact zs_goj (hJ9 x1) trivial
        · refine zs_if_ne (pc := 28) (off := 13) (tgt := 41) C (by decide +kernel) (by decide) ?_ ?_
          · refine zs_aload_n (pc := 41) (k := 0) (i := 0) C (by decide +kernel) rfl rfl ?_
            refine zs_getR (o' := 79) (pc := 42) (i := 22) (ci := 0) (k := 2) C (by decide +kernel) fl_RX0_22 rfl rfl rfl ?_
            refine zs_iload (pc := 45) (i := 4) C (by decide +kernel) rfl ?_
            refine zs_iald (pc := 47) (o := 79) (n := 41) C (by decide +kernel) rfl (fun hinx10 x10 => ?_)
            exact zs_goj (hJ5 x10) ⟨rfl, rfl, trivial⟩
          · refine zs_aload_n (pc := 31) (k := 0) (i := 0) C (by decide +kernel) rfl rfl ?_
            refine zs_getR (o' := 78) (pc := 32) (i := 18) (ci := 0) (k := 1) C (by decide +kernel) fl_RX0_18 rfl rfl rfl ?_
            refine zs_iload (pc := 35) (i := 4) C (by decide +kernel) rfl ?_
            refine zs_iald (pc := 37) (o := 78) (n := 41) C (by decide +kernel) rfl (fun hinx11 x11 => ?_)
            refine zs_goto (pc := 38) (off := 10) (tgt := 48) C (by decide +kernel) (by decide) ?_
            exact zs_goj (hJ5 x11) ⟨rfl, rfl, trivial⟩
      · exact zs_goj (hJ3 ()) ⟨rfl, trivial⟩
set_option maxRecDepth 20000 in
theorem c_X0_holds (l : Launch) (g : GC) (a0 : Int) (a1 : Int) (a2 : Int) : ConR l g yX0_holds cX0_holds 4 (some .boolean) (rmd 1 0 0) [sR 18, sI a0, sI a1, sI a2] (fun mm => fX0_holds a0 a1 a2 mm) := by
  refine zs_ofR (by decide +kernel) (Nat.le_of_ble_eq_true rfl) ?_
  intro p e s m args below meth c C hr
  replace C : Bd g RX0 cX0_holds 4 p s m args meth c := C
  unfold fX0_holds
  refine zs_aload_n (pc := 0) (k := 0) (i := 0) C (by decide +kernel) rfl rfl ?_
  refine zs_getR (o' := 81) (pc := 1) (i := 28) (ci := 0) (k := 4) C (by decide +kernel) fl_RX0_28 rfl rfl rfl ?_
  refine zs_aload_n (pc := 4) (k := 0) (i := 0) C (by decide +kernel) rfl rfl ?_
  refine zs_getR (o' := 80) (pc := 5) (i := 25) (ci := 0) (k := 3) C (by decide +kernel) fl_RX0_25 rfl rfl rfl ?_
  refine zs_iload_n (pc := 8) (k := 3) (i := 3) C (by decide +kernel) rfl rfl ?_
  refine zs_iald (pc := 9) (o := 80) (n := 41) C (by decide +kernel) rfl (fun hinx1 x1 => ?_)
  refine zs_bipush (pc := 10) (n := 25) (x := 25) C (by decide +kernel) (by decide +kernel) ?_
  refine zs_imul (pc := 12) C (by decide +kernel) ?_
  refine zs_iload_n (pc := 13) (k := 1) (i := 1) C (by decide +kernel) rfl rfl ?_
  refine zs_iadd (pc := 14) C (by decide +kernel) ?_
  refine zs_iald (pc := 15) (o := 81) (n := 225) C (by decide +kernel) rfl (fun hinx2 x2 => ?_)
  refine zs_iload_n (pc := 16) (k := 2) (i := 2) C (by decide +kernel) rfl rfl ?_
  refine zs_iushr (pc := 17) C (by decide +kernel) ?_
  refine zs_iconst (pc := 18) (n := 1) (x := 1) C (by decide +kernel) (by decide +kernel) ?_
  refine zs_iand (pc := 19) C (by decide +kernel) ?_
  refine zs_jn (pJ := 28) (kJ := 0) (sJ := 0) (fun t3 => []) (fun t3 => [sI t3]) (fun t3 => ?_) (fun J4 hJ4 => ?_)
  · refine zs_chk (fun _ hx => ?_)
    exact zs_retRz (pc := 28) C hx hr ⟨Nat.le_of_ble_eq_true rfl, Nat.le_of_ble_eq_true rfl⟩ (by decide +kernel)
  · refine zs_if_eq (pc := 20) (off := 7) (tgt := 27) C (by decide +kernel) (by decide) ?_ ?_
    · refine zs_iconst (pc := 27) (n := 0) (x := 0) C (by decide +kernel) (by decide +kernel) ?_
      exact zs_goj (hJ4 0) trivial
    · refine zs_iconst (pc := 23) (n := 1) (x := 1) C (by decide +kernel) (by decide +kernel) ?_
      refine zs_goto (pc := 24) (off := 4) (tgt := 28) C (by decide +kernel) (by decide) ?_
      exact zs_goj (hJ4 1) trivial
set_option maxRecDepth 20000 in
theorem c_X7_push (l : Launch) (g : GC) (a1 : Int) (a2 : Int) (a3 : Int) (a4 : Int) : ConV l g yX7_push cX7_push 12 (rmd 4 0 0) [sR 96, sR 18, sI a1, sI a2, sI a3, sI a4] (fun mm => fX7_push a1 a2 a3 a4 mm) := by
  refine zs_ofV (by decide +kernel) (Nat.le_of_ble_eq_true rfl) ?_
  intro p e s m args below meth c C hr
  replace C : Bd g RX7 cX7_push 12 p s m args meth c := C
  unfold fX7_push
  refine zs_aload_n (pc := 0) (k := 0) (i := 0) C (by decide +kernel) rfl rfl ?_
  refine zs_getM (pc := 1) (i := 9) (ci := 7) (k := 0) C (by decide +kernel) fl_RX7_9 rfl rfl (fun x1 => ?_)
  refine zs_need (fun hx1 => ?_)
  refine zs_iload_n (pc := 4) (k := 2) (i := 2) C (by decide +kernel) rfl rfl ?_
  refine zs_bipush (pc := 5) (n := 25) (x := 25) C (by decide +kernel) (by decide +kernel) ?_
  refine zs_imul (pc := 7) C (by decide +kernel) ?_
  refine zs_iload_n (pc := 8) (k := 3) (i := 3) C (by decide +kernel) rfl rfl ?_
  refine zs_iadd (pc := 9) C (by decide +kernel) ?_
  refine zs_lald (pc := 10) (o := x1) (n := 625) C (by decide +kernel) hx1 (fun hinx2 x2 => ?_)
  refine zs_lstore (pc := 11) (i := 6) (ls' := [(6, sL x2), (0, sR 96), (1, sR 18), (2, sI a1), (3, sI a2), (4, sI a3), (5, sI a4)]) C (by decide +kernel) (Nat.le_of_ble_eq_true rfl) rfl ?_
  refine zs_iconst (pc := 13) (n := 0) (x := 0) C (by decide +kernel) (by decide +kernel) ?_
  refine zs_istore (pc := 14) (i := 8) (ls' := [(8, sI 0), (6, sL x2), (0, sR 96), (1, sR 18), (2, sI a1), (3, sI a2), (4, sI a3), (5, sI a4)]) C (by decide +kernel) (Nat.le_of_ble_eq_true rfl) rfl ?_
  refine zs_sub (ls' := [(0, sR 96), (1, sR 18), (2, sI a1), (3, sI a2), (4, sI a3), (5, sI a4), (6, sL x2), (8, sI 0)]) ⟨rfl, rfl, rfl, rfl, rfl, rfl, rfl, rfl, trivial⟩ ?_
  refine zs_lp (pc := 16) (fun (t3 : Int) => [(0, sR 96), (1, sR 18), (2, sI a1), (3, sI a2), (4, sI a3), (5, sI a4), (6, sL x2), (8, sI t3)]) (fun _ => []) (fun K4 hK4 t3 => ?_) BIG 0
  refine zs_iload (pc := 16) (i := 8) C (by decide +kernel) rfl ?_
  refine zs_iconst (pc := 18) (n := 5) (x := 5) C (by decide +kernel) (by decide +kernel) ?_
  refine zs_icmp_ge (pc := 19) (off := 26) (tgt := 45) C (by decide +kernel) (by decide) ?_ ?_
  · refine zs_iconst (pc := 45) (n := 0) (x := 0) C (by decide +kernel) (by decide +kernel) ?_
    refine zs_istore (pc := 46) (i := 8) (ls' := [(8, sI 0), (0, sR 96), (1, sR 18), (2, sI a1), (3, sI a2), (4, sI a3), (5, sI a4), (6, sL x2)]) C (by decide +kernel) (Nat.le_of_ble_eq_true rfl) rfl ?_
    refine zs_sub (ls' := [(0, sR 96), (1, sR 18), (2, sI a1), (4, sI a3), (5, sI a4), (6, sL x2), (8, sI 0)]) ⟨rfl, rfl, rfl, rfl, rfl, rfl, rfl, trivial⟩ ?_
    refine zs_lp (pc := 48) (fun (t5 : Int) => [(0, sR 96), (1, sR 18), (2, sI a1), (4, sI a3), (5, sI a4), (6, sL x2), (8, sI t5)]) (fun _ => []) (fun K6 hK6 t5 => ?_) BIG 0
    refine zs_iload (pc := 48) (i := 8) C (by decide +kernel) rfl ?_
    refine zs_iconst (pc := 50) (n := 5) (x := 5) C (by decide +kernel) (by decide +kernel) ?_
    refine zs_icmp_ge (pc := 51) (off := 119) (tgt := 170) C (by decide +kernel) (by decide) ?_ ?_
    · exact zs_retVv (pc := 170) C hr ⟨Nat.le_of_ble_eq_true rfl, Nat.le_of_ble_eq_true rfl⟩ (by decide +kernel)
    · refine zs_aload_n (pc := 54) (k := 1) (i := 1) C (by decide +kernel) rfl rfl ?_
      refine zs_iconst (pc := 55) (n := 0) (x := 0) C (by decide +kernel) (by decide +kernel) ?_
      refine zs_iload_n (pc := 56) (k := 2) (i := 2) C (by decide +kernel) rfl rfl ?_
      refine zs_iload (pc := 57) (i := 8) C (by decide +kernel) rfl ?_
      refine zs_iload (pc := 59) (i := 4) C (by decide +kernel) rfl ?_
      refine zs_cvRi (pc := 61) (As := [sI 0, sI a1, sI t5, sI a3]) (st := []) C (Or.inl rfl) (c_X0_landing l g 0 a1 t5 a3) ml_RX7_50 rfl rfl rfl rfl (Nat.le_of_ble_eq_true rfl) ⟨Nat.le_of_ble_eq_true rfl, Nat.le_of_ble_eq_true rfl⟩ ⟨Nat.le_of_ble_eq_true rfl, Nat.le_of_ble_eq_true rfl⟩ (by decide +kernel) (fun x7 => ?_)
      refine zs_istore (pc := 64) (i := 9) (ls' := [(9, sI x7), (0, sR 96), (1, sR 18), (2, sI a1), (4, sI a3), (5, sI a4), (6, sL x2), (8, sI t5)]) C (by decide +kernel) (Nat.le_of_ble_eq_true rfl) rfl ?_
      refine zs_iload (pc := 66) (i := 9) C (by decide +kernel) rfl ?_
      refine zs_iconst (pc := 68) (n := (-1)) (x := (-1)) C (by decide +kernel) (by decide +kernel) ?_
      refine zs_jn (pJ := 90) (kJ := 0) (sJ := 0) (fun t8 => [(0, sR 96), (1, sR 18), (2, sI a1), (4, sI a3), (5, sI a4), (6, sL x2), (8, sI t5), (9, sI x7)]) (fun t8 => [sI t8]) (fun t8 => ?_) (fun J9 hJ9 => ?_)
      · refine zs_istore (pc := 90) (i := 10) (ls' := [(10, sI t8), (0, sR 96), (1, sR 18), (2, sI a1), (4, sI a3), (5, sI a4), (6, sL x2), (8, sI t5), (9, sI x7)]) C (by decide +kernel) (Nat.le_of_ble_eq_true rfl) rfl ?_
        refine zs_iconst (pc := 92) (n := 0) (x := 0) C (by decide +kernel) (by decide +kernel) ?_
        refine zs_istore (pc := 93) (i := 11) (ls' := [(11, sI 0), (10, sI t8), (0, sR 96), (1, sR 18), (2, sI a1), (4, sI a3), (5, sI a4), (6, sL x2), (8, sI t5), (9, sI x7)]) C (by decide +kernel) (Nat.le_of_ble_eq_true rfl) rfl ?_
        refine zs_sub (ls' := [(0, sR 96), (1, sR 18), (2, sI a1), (4, sI a3), (5, sI a4), (6, sL x2), (8, sI t5), (9, sI x7), (10, sI t8), (11, sI 0)]) ⟨rfl, rfl, rfl, rfl, rfl, rfl, rfl, rfl, rfl, rfl, trivial⟩ ?_
        refine zs_lp (pc := 95) (fun (t10 : Int) => [(0, sR 96), (1, sR 18), (2, sI a1), (4, sI a3), (5, sI a4), (6, sL x2), (8, sI t5), (9, sI x7), (10, sI t8), (11, sI t10)]) (fun _ => []) (fun K11 hK11 t10 => ?_) BIG 0
        refine zs_iload (pc := 95) (i := 11) C (by decide +kernel) rfl ?_
        refine zs_iconst (pc := 97) (n := 5) (x := 5) C (by decide +kernel) (by decide +kernel) ?_
        refine zs_jn (pJ := 164) (kJ := 0) (sJ := 0) (fun t12 => [(0, sR 96), (1, sR 18), (2, sI a1), (4, sI a3), (5, sI a4), (6, sL x2), (8, sI t5)]) (fun t12 => []) (fun t12 => ?_) (fun J13 hJ13 => ?_)
        · refine zs_iinc (pc := 164) (i := 8) (n := 1) (y := w32 (t5 + 1)) (ls' := [(8, sI (w32 (t5 + 1))), (0, sR 96), (1, sR 18), (2, sI a1), (4, sI a3), (5, sI a4), (6, sL x2)]) C (by decide +kernel) rfl rfl (Nat.le_of_ble_eq_true rfl) rfl ?_
          refine zs_goto (pc := 167) (off := (-119)) (tgt := 48) C (by decide +kernel) (by decide) ?_
          exact zs_goj (hK6 (w32 (t5 + 1))) ⟨rfl, rfl, rfl, rfl, rfl, rfl, rfl, trivial⟩
        · refine zs_icmp_ge (pc := 98) (off := 66) (tgt := 164) C (by decide +kernel) (by decide) ?_ ?_
          · exact zs_goj (hJ13 ()) ⟨rfl, rfl, rfl, rfl, rfl, rfl, rfl, trivial⟩
          · refine zs_iload (pc := 101) (i := 10) C (by decide +kernel) rfl ?_
            refine zs_if_eq (pc := 103) (off := 61) (tgt := 164) C (by decide +kernel) (by decide) ?_ ?_
            · exact zs_goj (hJ13 ()) ⟨rfl, rfl, rfl, rfl, rfl, rfl, rfl, trivial⟩
            · refine zs_aload_n (pc := 106) (k := 0) (i := 0) C (by decide +kernel) rfl rfl ?_
              refine zs_getR (o' := 99) (pc := 107) (i := 18) (ci := 7) (k := 2) C (by decide +kernel) fl_RX7_18 rfl rfl rfl ?_
              refine zs_iload (pc := 110) (i := 11) C (by decide +kernel) rfl ?_
              refine zs_iald (pc := 112) (o := 99) (n := 5) C (by decide +kernel) rfl (fun hinx14 x14 => ?_)
              refine zs_iconst (pc := 113) (n := (-1)) (x := (-1)) C (by decide +kernel) (by decide +kernel) ?_
              refine zs_jn (pJ := 158) (kJ := 0) (sJ := 0) (fun t15 => [(0, sR 96), (1, sR 18), (2, sI a1), (4, sI a3), (5, sI a4), (6, sL x2), (8, sI t5), (9, sI x7), (10, sI t8), (11, sI t10)]) (fun t15 => []) (fun t15 => ?_) (fun J16 hJ16 => ?_)
              · refine zs_iinc (pc := 158) (i := 11) (n := 1) (y := w32 (t10 + 1)) (ls' := [(11, sI (w32 (t10 + 1))), (0, sR 96), (1, sR 18), (2, sI a1), (4, sI a3), (5, sI a4), (6, sL x2), (8, sI t5), (9, sI x7), (10, sI t8)]) C (by decide +kernel) rfl rfl (Nat.le_of_ble_eq_true rfl) rfl ?_
                refine zs_goto (pc := 161) (off := (-66)) (tgt := 95) C (by decide +kernel) (by decide) ?_
                exact zs_goj (hK11 (w32 (t10 + 1))) ⟨rfl, rfl, rfl, rfl, rfl, rfl, rfl, rfl, rfl, rfl, trivial⟩
              · refine zs_icmp_eq (pc := 114) (off := 44) (tgt := 158) C (by decide +kernel) (by decide) ?_ ?_
                · exact zs_goj (hJ16 ()) ⟨rfl, rfl, rfl, rfl, rfl, rfl, rfl, rfl, rfl, rfl, trivial⟩
                · refine zs_aload_n (pc := 117) (k := 1) (i := 1) C (by decide +kernel) rfl rfl ?_
                  refine zs_iload (pc := 118) (i := 9) C (by decide +kernel) rfl ?_
                  refine zs_aload_n (pc := 120) (k := 0) (i := 0) C (by decide +kernel) rfl rfl ?_
                  refine zs_getR (o' := 99) (pc := 121) (i := 18) (ci := 7) (k := 2) C (by decide +kernel) fl_RX7_18 rfl rfl rfl ?_
                  refine zs_iload (pc := 124) (i := 11) C (by decide +kernel) rfl ?_
                  refine zs_iald (pc := 126) (o := 99) (n := 5) C (by decide +kernel) rfl (fun hinx17 x17 => ?_)
                  refine zs_iload (pc := 127) (i := 4) C (by decide +kernel) rfl ?_
                  refine zs_cvRi (pc := 129) (As := [sI x7, sI x17, sI a3]) (st := []) C (Or.inr rfl) (c_X0_holds l g x7 x17 a3) ml_RX7_54 rfl rfl rfl rfl (Nat.le_of_ble_eq_true rfl) ⟨Nat.le_of_ble_eq_true rfl, Nat.le_of_ble_eq_true rfl⟩ ⟨Nat.le_of_ble_eq_true rfl, Nat.le_of_ble_eq_true rfl⟩ (by decide +kernel) (fun x18 => ?_)
                  refine zs_if_eq (pc := 132) (off := 26) (tgt := 158) C (by decide +kernel) (by decide) ?_ ?_
                  · exact zs_goj (hJ16 ()) ⟨rfl, rfl, rfl, rfl, rfl, rfl, rfl, rfl, rfl, rfl, trivial⟩
                  · refine zs_aload_n (pc := 135) (k := 0) (i := 0) C (by decide +kernel) rfl rfl ?_
                    refine zs_getM (pc := 136) (i := 15) (ci := 7) (k := 1) C (by decide +kernel) fl_RX7_15 rfl rfl (fun x19 => ?_)
                    refine zs_need (fun hx19 => ?_)
                    refine zs_iload (pc := 139) (i := 9) C (by decide +kernel) rfl ?_
                    refine zs_bipush (pc := 141) (n := 25) (x := 25) C (by decide +kernel) (by decide +kernel) ?_
                    refine zs_imul (pc := 143) C (by decide +kernel) ?_
                    refine zs_aload_n (pc := 144) (k := 0) (i := 0) C (by decide +kernel) rfl rfl ?_
                    refine zs_getR (o' := 99) (pc := 145) (i := 18) (ci := 7) (k := 2) C (by decide +kernel) fl_RX7_18 rfl rfl rfl ?_
                    refine zs_iload (pc := 148) (i := 11) C (by decide +kernel) rfl ?_
                    refine zs_iald (pc := 150) (o := 99) (n := 5) C (by decide +kernel) rfl (fun hinx20 x20 => ?_)
                    refine zs_iadd (pc := 151) C (by decide +kernel) ?_
                    refine zs_dup2 (pc := 152) C rfl rfl (by decide +kernel) ?_
                    refine zs_lald (pc := 153) (o := x19) (n := 625) C (by decide +kernel) hx19 (fun hinx21 x21 => ?_)
                    refine zs_lload (pc := 154) (i := 6) C (by decide +kernel) rfl ?_
                    refine zs_ladd (pc := 156) C (by decide +kernel) ?_
                    refine zs_last (pc := 157) (o := x19) (n := 625) C (fun _ _ _ => rfl) (by decide +kernel) hx19 ?_
                    exact zs_goj (hJ16 ()) ⟨rfl, rfl, rfl, rfl, rfl, rfl, rfl, rfl, rfl, rfl, trivial⟩
      · refine zs_jn (pJ := 89) (kJ := 0) (sJ := 0) (fun t22 => [(0, sR 96), (1, sR 18), (2, sI a1), (4, sI a3), (5, sI a4), (6, sL x2), (8, sI t5), (9, sI x7)]) (fun t22 => []) (fun t22 => ?_) (fun J23 hJ23 => ?_)
        · refine zs_iconst (pc := 89) (n := 0) (x := 0) C (by decide +kernel) (by decide +kernel) ?_
          exact zs_goj (hJ9 0) ⟨rfl, rfl, rfl, rfl, rfl, rfl, rfl, rfl, trivial⟩
        · refine zs_icmp_eq (pc := 69) (off := 20) (tgt := 89) C (by decide +kernel) (by decide) ?_ ?_
          · exact zs_goj (hJ23 ()) ⟨rfl, rfl, rfl, rfl, rfl, rfl, rfl, rfl, trivial⟩
          · refine zs_iload (pc := 72) (i := 5) C (by decide +kernel) rfl ?_
            refine zs_iconst (pc := 74) (n := (-1)) (x := (-1)) C (by decide +kernel) (by decide +kernel) ?_
            refine zs_jn (pJ := 85) (kJ := 0) (sJ := 0) (fun t24 => [(0, sR 96), (1, sR 18), (2, sI a1), (4, sI a3), (5, sI a4), (6, sL x2), (8, sI t5), (9, sI x7)]) (fun t24 => []) (fun t24 => ?_) (fun J25 hJ25 => ?_)
            · refine zs_iconst (pc := 85) (n := 1) (x := 1) C (by decide +kernel) (by decide +kernel) ?_
              refine zs_goto (pc := 86) (off := 4) (tgt := 90) C (by decide +kernel) (by decide) ?_
              exact zs_goj (hJ9 1) ⟨rfl, rfl, rfl, rfl, rfl, rfl, rfl, rfl, trivial⟩
            · refine zs_icmp_eq (pc := 75) (off := 10) (tgt := 85) C (by decide +kernel) (by decide) ?_ ?_
              · exact zs_goj (hJ25 ()) ⟨rfl, rfl, rfl, rfl, rfl, rfl, rfl, rfl, trivial⟩
              · refine zs_iload (pc := 78) (i := 9) C (by decide +kernel) rfl ?_
                refine zs_iload (pc := 80) (i := 5) C (by decide +kernel) rfl ?_
                refine zs_icmp_ne (pc := 82) (off := 7) (tgt := 89) C (by decide +kernel) (by decide) ?_ ?_
                · exact zs_goj (hJ23 ()) ⟨rfl, rfl, rfl, rfl, rfl, rfl, rfl, rfl, trivial⟩
                · exact zs_goj (hJ25 ()) ⟨rfl, rfl, rfl, rfl, rfl, rfl, rfl, rfl, trivial⟩
  · refine zs_aload_n (pc := 22) (k := 0) (i := 0) C (by decide +kernel) rfl rfl ?_
    refine zs_getR (o' := 99) (pc := 23) (i := 18) (ci := 7) (k := 2) C (by decide +kernel) fl_RX7_18 rfl rfl rfl ?_
    refine zs_iload (pc := 26) (i := 8) C (by decide +kernel) rfl ?_
    refine zs_aload_n (pc := 28) (k := 1) (i := 1) C (by decide +kernel) rfl rfl ?_
    refine zs_iconst (pc := 29) (n := 1) (x := 1) C (by decide +kernel) (by decide +kernel) ?_
    refine zs_iload_n (pc := 30) (k := 3) (i := 3) C (by decide +kernel) rfl rfl ?_
    refine zs_iload (pc := 31) (i := 8) C (by decide +kernel) rfl ?_
    refine zs_iload (pc := 33) (i := 4) C (by decide +kernel) rfl ?_
    refine zs_cvRi (pc := 35) (As := [sI 1, sI a2, sI t3, sI a3]) (st := [sI t3, sR 99]) C (Or.inl rfl) (c_X0_landing l g 1 a2 t3 a3) ml_RX7_50 rfl rfl rfl rfl (Nat.le_of_ble_eq_true rfl) ⟨Nat.le_of_ble_eq_true rfl, Nat.le_of_ble_eq_true rfl⟩ ⟨Nat.le_of_ble_eq_true rfl, Nat.le_of_ble_eq_true rfl⟩ (by decide +kernel) (fun x26 => ?_)
    refine zs_iast (pc := 38) (o := 99) (n := 5) C (fun _ _ _ => rfl) (by decide +kernel) rfl ?_
    refine zs_iinc (pc := 39) (i := 8) (n := 1) (y := w32 (t3 + 1)) (ls' := [(8, sI (w32 (t3 + 1))), (0, sR 96), (1, sR 18), (2, sI a1), (3, sI a2), (4, sI a3), (5, sI a4), (6, sL x2)]) C (by decide +kernel) rfl rfl (Nat.le_of_ble_eq_true rfl) rfl ?_
    refine zs_goto (pc := 42) (off := (-26)) (tgt := 16) C (by decide +kernel) (by decide) ?_
    exact zs_goj (hK4 (w32 (t3 + 1))) ⟨rfl, rfl, rfl, rfl, rfl, rfl, rfl, rfl, trivial⟩
set_option maxRecDepth 20000 in
theorem c_X7_goOn (l : Launch) (g : GC) (a1 : Int) (a2 : Int) : ConV l g yX7_goOn cX7_goOn 6 (rmd 5 0 0) [sR 96, sR 18, sI a1, sI a2] (fun mm => fX7_goOn a1 a2 mm) := by
  refine zs_ofV (by decide +kernel) (Nat.le_of_ble_eq_true rfl) ?_
  intro p e s m args below meth c C hr
  replace C : Bd g RX7 cX7_goOn 6 p s m args meth c := C
  unfold fX7_goOn
  refine zs_aload_n (pc := 0) (k := 1) (i := 1) C (by decide +kernel) rfl rfl ?_
  refine zs_iload_n (pc := 1) (k := 2) (i := 2) C (by decide +kernel) rfl rfl ?_
  refine zs_cvVv (pc := 2) (As := [sI a1]) (st := []) C (fun _ _ _ => rfl) (c_X0_foresee l g a1) ml_RX7_42 rfl rfl rfl rfl (Nat.le_of_ble_eq_true rfl) ⟨Nat.le_of_ble_eq_true rfl, Nat.le_of_ble_eq_true rfl⟩ ⟨Nat.le_of_ble_eq_true rfl, Nat.le_of_ble_eq_true rfl⟩ (by decide +kernel) ?_
  refine zs_aload_n (pc := 5) (k := 0) (i := 0) C (by decide +kernel) rfl rfl ?_
  refine zs_getM (pc := 6) (i := 15) (ci := 7) (k := 1) C (by decide +kernel) fl_RX7_15 rfl rfl (fun x1 => ?_)
  refine zs_need (fun hx1 => ?_)
  refine zs_lconst (pc := 9) (n := 0) (x := 0) C (by decide +kernel) (by decide +kernel) ?_
  refine zs_csVv (pc := 10) (As := [sR x1, sL 0]) (st := []) C (fun _ _ _ => rfl) (c_J7_fill_d0a16 l g x1 625 0 hx1) ml_RX7_29 rfl rfl (Nat.le_of_ble_eq_true rfl) ⟨Nat.le_of_ble_eq_true rfl, Nat.le_of_ble_eq_true rfl⟩ ⟨Nat.le_of_ble_eq_true rfl, Nat.le_of_ble_eq_true rfl⟩ (by decide +kernel) ?_
  refine zs_iconst (pc := 13) (n := 0) (x := 0) C (by decide +kernel) (by decide +kernel) ?_
  refine zs_istore (pc := 14) (i := 4) (ls' := [(4, sI 0), (0, sR 96), (1, sR 18), (2, sI a1), (3, sI a2)]) C (by decide +kernel) (Nat.le_of_ble_eq_true rfl) rfl ?_
  refine zs_sub (ls' := [(0, sR 96), (1, sR 18), (2, sI a1), (3, sI a2), (4, sI 0)]) ⟨rfl, rfl, rfl, rfl, rfl, trivial⟩ ?_
  refine zs_lp (pc := 16) (fun (t2 : Int) => [(0, sR 96), (1, sR 18), (2, sI a1), (3, sI a2), (4, sI t2)]) (fun _ => []) (fun K3 hK3 t2 => ?_) BIG 0
  refine zs_iload (pc := 16) (i := 4) C (by decide +kernel) rfl ?_
  refine zs_aload_n (pc := 18) (k := 0) (i := 0) C (by decide +kernel) rfl rfl ?_
  refine zs_getI (pc := 19) (i := 22) (ci := 7) (k := 3) C (by decide +kernel) fl_RX7_22 rfl rfl (fun x4 => ?_)
  refine zs_icmp_ge (pc := 22) (off := 56) (tgt := 78) C (by decide +kernel) (by decide) ?_ ?_
  · refine zs_aload_n (pc := 78) (k := 0) (i := 0) C (by decide +kernel) rfl rfl ?_
    refine zs_getM (pc := 79) (i := 9) (ci := 7) (k := 0) C (by decide +kernel) fl_RX7_9 rfl rfl (fun x5 => ?_)
    refine zs_need (fun hx5 => ?_)
    refine zs_astore (pc := 82) (i := 4) (ls' := [(4, sR x5), (0, sR 96), (1, sR 18), (2, sI a1), (3, sI a2)]) C (by decide +kernel) (Nat.le_of_ble_eq_true rfl) rfl ?_
    refine zs_aload_n (pc := 84) (k := 0) (i := 0) C (by decide +kernel) rfl rfl ?_
    refine zs_aload_n (pc := 85) (k := 0) (i := 0) C (by decide +kernel) rfl rfl ?_
    refine zs_getM (pc := 86) (i := 15) (ci := 7) (k := 1) C (by decide +kernel) fl_RX7_15 rfl rfl (fun x6 => ?_)
    refine zs_need (fun hx6 => ?_)
    refine zs_putM (hty := rfl) (pc := 89) (i := 9) (ci := 7) (k := 0) C (fun _ _ _ => rfl) (by decide +kernel) fl_RX7_9 fw_7_0 rfl rfl ?_
    refine zs_aload_n (pc := 92) (k := 0) (i := 0) C (by decide +kernel) rfl rfl ?_
    refine zs_aload (pc := 93) (i := 4) C (by decide +kernel) rfl ?_
    refine zs_putM (hty := rfl) (pc := 95) (i := 15) (ci := 7) (k := 1) C (fun _ _ _ => rfl) (by decide +kernel) fl_RX7_15 fw_7_1 rfl rfl ?_
    exact zs_retVv (pc := 98) C hr ⟨Nat.le_of_ble_eq_true rfl, Nat.le_of_ble_eq_true rfl⟩ (by decide +kernel)
  · refine zs_iconst (pc := 25) (n := 0) (x := 0) C (by decide +kernel) (by decide +kernel) ?_
    refine zs_istore (pc := 26) (i := 5) (ls' := [(5, sI 0), (0, sR 96), (1, sR 18), (2, sI a1), (3, sI a2), (4, sI t2)]) C (by decide +kernel) (Nat.le_of_ble_eq_true rfl) rfl ?_
    refine zs_sub (ls' := [(0, sR 96), (1, sR 18), (2, sI a1), (3, sI a2), (4, sI t2), (5, sI 0)]) ⟨rfl, rfl, rfl, rfl, rfl, rfl, trivial⟩ ?_
    refine zs_lp (pc := 28) (fun (t7 : Int) => [(0, sR 96), (1, sR 18), (2, sI a1), (3, sI a2), (4, sI t2), (5, sI t7)]) (fun _ => []) (fun K8 hK8 t7 => ?_) BIG 0
    refine zs_iload (pc := 28) (i := 5) C (by decide +kernel) rfl ?_
    refine zs_aload_n (pc := 30) (k := 0) (i := 0) C (by decide +kernel) rfl rfl ?_
    refine zs_getI (pc := 31) (i := 22) (ci := 7) (k := 3) C (by decide +kernel) fl_RX7_22 rfl rfl (fun x9 => ?_)
    refine zs_icmp_ge (pc := 34) (off := 38) (tgt := 72) C (by decide +kernel) (by decide) ?_ ?_
    · refine zs_iinc (pc := 72) (i := 4) (n := 1) (y := w32 (t2 + 1)) (ls' := [(4, sI (w32 (t2 + 1))), (0, sR 96), (1, sR 18), (2, sI a1), (3, sI a2), (5, sI t7)]) C (by decide +kernel) rfl rfl (Nat.le_of_ble_eq_true rfl) rfl ?_
      refine zs_goto (pc := 75) (off := (-59)) (tgt := 16) C (by decide +kernel) (by decide) ?_
      exact zs_goj (hK3 (w32 (t2 + 1))) ⟨rfl, rfl, rfl, rfl, rfl, trivial⟩
    · refine zs_aload_n (pc := 37) (k := 0) (i := 0) C (by decide +kernel) rfl rfl ?_
      refine zs_getM (pc := 38) (i := 9) (ci := 7) (k := 0) C (by decide +kernel) fl_RX7_9 rfl rfl (fun x10 => ?_)
      refine zs_need (fun hx10 => ?_)
      refine zs_iload (pc := 41) (i := 4) C (by decide +kernel) rfl ?_
      refine zs_bipush (pc := 43) (n := 25) (x := 25) C (by decide +kernel) (by decide +kernel) ?_
      refine zs_imul (pc := 45) C (by decide +kernel) ?_
      refine zs_iload (pc := 46) (i := 5) C (by decide +kernel) rfl ?_
      refine zs_iadd (pc := 48) C (by decide +kernel) ?_
      refine zs_lald (pc := 49) (o := x10) (n := 625) C (by decide +kernel) hx10 (fun hinx11 x11 => ?_)
      refine zs_lconst (pc := 50) (n := 0) (x := 0) C (by decide +kernel) (by decide +kernel) ?_
      refine zs_jn (pJ := 66) (kJ := 0) (sJ := 0) (fun t12 => [(0, sR 96), (1, sR 18), (2, sI a1), (3, sI a2), (4, sI t2), (5, sI t7)]) (fun t12 => []) (fun t12 => ?_) (fun J13 hJ13 => ?_)
      · refine zs_iinc (pc := 66) (i := 5) (n := 1) (y := w32 (t7 + 1)) (ls' := [(5, sI (w32 (t7 + 1))), (0, sR 96), (1, sR 18), (2, sI a1), (3, sI a2), (4, sI t2)]) C (by decide +kernel) rfl rfl (Nat.le_of_ble_eq_true rfl) rfl ?_
        refine zs_goto (pc := 69) (off := (-41)) (tgt := 28) C (by decide +kernel) (by decide) ?_
        exact zs_goj (hK8 (w32 (t7 + 1))) ⟨rfl, rfl, rfl, rfl, rfl, rfl, trivial⟩
      · refine zs_lcmp_eq (pc := 51) (off := 14) (tgt := 66) C (by decide +kernel) (by decide +kernel) (by decide) ?_ ?_
        · exact zs_goj (hJ13 ()) ⟨rfl, rfl, rfl, rfl, rfl, rfl, trivial⟩
        · refine zs_aload_n (pc := 55) (k := 0) (i := 0) C (by decide +kernel) rfl rfl ?_
          refine zs_aload_n (pc := 56) (k := 1) (i := 1) C (by decide +kernel) rfl rfl ?_
          refine zs_iload (pc := 57) (i := 4) C (by decide +kernel) rfl ?_
          refine zs_iload (pc := 59) (i := 5) C (by decide +kernel) rfl ?_
          refine zs_iload_n (pc := 61) (k := 2) (i := 2) C (by decide +kernel) rfl rfl ?_
          refine zs_iload_n (pc := 62) (k := 3) (i := 3) C (by decide +kernel) rfl rfl ?_
          refine zs_cvVv (pc := 63) (As := [sR 18, sI t2, sI t7, sI a1, sI a2]) (st := []) C (fun _ _ _ => rfl) (c_X7_push l g t2 t7 a1 a2) ml_RX7_46 rfl rfl rfl rfl (Nat.le_of_ble_eq_true rfl) ⟨Nat.le_of_ble_eq_true rfl, Nat.le_of_ble_eq_true rfl⟩ ⟨Nat.le_of_ble_eq_true rfl, Nat.le_of_ble_eq_true rfl⟩ (by decide +kernel) ?_
          exact zs_goj (hJ13 ()) ⟨rfl, rfl, rfl, rfl, rfl, rfl, trivial⟩
set_option maxRecDepth 20000 in
theorem c_X11_countSeen (l : Launch) (g : GC) (a0 : Int) (a1 : Int) : ConV l g yX11_countSeen cX11_countSeen 5 (rmd 6 0 0) [sR 0, sI a0, sI a1] (fun mm => fX11_countSeen a0 a1 mm) := by
  refine zs_ofV (by decide +kernel) (Nat.le_of_ble_eq_true rfl) ?_
  intro p e s m args below meth c C hr
  replace C : Bd g RX11 cX11_countSeen 5 p s m args meth c := C
  unfold fX11_countSeen
  refine zs_aload_n (pc := 0) (k := 0) (i := 0) C (by decide +kernel) rfl rfl ?_
  refine zs_getR (o' := 18) (pc := 1) (i := 33) (ci := 11) (k := 5) C (by decide +kernel) fl_RX11_33 rfl rfl rfl ?_
  refine zs_iload_n (pc := 4) (k := 1) (i := 1) C (by decide +kernel) rfl rfl ?_
  refine zs_cvVv (pc := 5) (As := [sI a0]) (st := []) C (fun _ _ _ => rfl) (c_X0_begin l g a0) ml_RX11_251 rfl rfl rfl rfl (Nat.le_of_ble_eq_true rfl) ⟨Nat.le_of_ble_eq_true rfl, Nat.le_of_ble_eq_true rfl⟩ ⟨Nat.le_of_ble_eq_true rfl, Nat.le_of_ble_eq_true rfl⟩ (by decide +kernel) ?_
  refine zs_aload_n (pc := 8) (k := 0) (i := 0) C (by decide +kernel) rfl rfl ?_
  refine zs_getR (o' := 96) (pc := 9) (i := 62) (ci := 11) (k := 10) C (by decide +kernel) fl_RX11_62 rfl rfl rfl ?_
  refine zs_aload_n (pc := 12) (k := 0) (i := 0) C (by decide +kernel) rfl rfl ?_
  refine zs_getR (o' := 18) (pc := 13) (i := 33) (ci := 11) (k := 5) C (by decide +kernel) fl_RX11_33 rfl rfl rfl ?_
  refine zs_cvVv (pc := 16) (As := [sR 18]) (st := []) C (fun _ _ _ => rfl) (c_X7_start l g ) ml_RX11_291 rfl rfl rfl rfl (Nat.le_of_ble_eq_true rfl) ⟨Nat.le_of_ble_eq_true rfl, Nat.le_of_ble_eq_true rfl⟩ ⟨Nat.le_of_ble_eq_true rfl, Nat.le_of_ble_eq_true rfl⟩ (by decide +kernel) ?_
  refine zs_aload_n (pc := 19) (k := 0) (i := 0) C (by decide +kernel) rfl rfl ?_
  refine zs_getR (o' := 88) (pc := 20) (i := 55) (ci := 11) (k := 9) C (by decide +kernel) fl_RX11_55 rfl rfl rfl ?_
  refine zs_getR (o' := 95) (pc := 23) (i := 227) (ci := 9) (k := 2) C (by decide +kernel) fl_RX11_227 rfl rfl rfl ?_
  refine zs_iload_n (pc := 26) (k := 2) (i := 2) C (by decide +kernel) rfl rfl ?_
  refine zs_iald (pc := 27) (o := 95) (n := 4) C (by decide +kernel) rfl (fun hinx1 x1 => ?_)
  refine zs_istore_n (pc := 28) (k := 3) (i := 3) (ls' := [(3, sI x1), (0, sR 0), (1, sI a0), (2, sI a1)]) C (by decide +kernel) rfl (Nat.le_of_ble_eq_true rfl) rfl ?_
  refine zs_iconst (pc := 29) (n := 1) (x := 1) C (by decide +kernel) (by decide +kernel) ?_
  refine zs_istore (pc := 30) (i := 4) (ls' := [(4, sI 1), (3, sI x1), (0, sR 0), (1, sI a0), (2, sI a1)]) C (by decide +kernel) (Nat.le_of_ble_eq_true rfl) rfl ?_
  refine zs_sub (ls' := [(0, sR 0), (2, sI a1), (3, sI x1), (4, sI 1)]) ⟨rfl, rfl, rfl, rfl, trivial⟩ ?_
  refine zs_lp (pc := 32) (fun (t2 : Int) => [(0, sR 0), (2, sI a1), (3, sI x1), (4, sI t2)]) (fun _ => []) (fun K3 hK3 t2 => ?_) BIG 1
  refine zs_iload (pc := 32) (i := 4) C (by decide +kernel) rfl ?_
  refine zs_iload_n (pc := 34) (k := 3) (i := 3) C (by decide +kernel) rfl rfl ?_
  refine zs_icmp_gt (pc := 35) (off := 35) (tgt := 70) C (by decide +kernel) (by decide) ?_ ?_
  · exact zs_retVv (pc := 70) C hr ⟨Nat.le_of_ble_eq_true rfl, Nat.le_of_ble_eq_true rfl⟩ (by decide +kernel)
  · refine zs_aload_n (pc := 38) (k := 0) (i := 0) C (by decide +kernel) rfl rfl ?_
    refine zs_getR (o' := 96) (pc := 39) (i := 62) (ci := 11) (k := 10) C (by decide +kernel) fl_RX11_62 rfl rfl rfl ?_
    refine zs_aload_n (pc := 42) (k := 0) (i := 0) C (by decide +kernel) rfl rfl ?_
    refine zs_getR (o' := 18) (pc := 43) (i := 33) (ci := 11) (k := 5) C (by decide +kernel) fl_RX11_33 rfl rfl rfl ?_
    refine zs_iload (pc := 46) (i := 4) C (by decide +kernel) rfl ?_
    refine zs_aload_n (pc := 48) (k := 0) (i := 0) C (by decide +kernel) rfl rfl ?_
    refine zs_getR (o' := 88) (pc := 49) (i := 55) (ci := 11) (k := 9) C (by decide +kernel) fl_RX11_55 rfl rfl rfl ?_
    refine zs_iload_n (pc := 52) (k := 2) (i := 2) C (by decide +kernel) rfl rfl ?_
    refine zs_iload (pc := 53) (i := 4) C (by decide +kernel) rfl ?_
    refine zs_iconst (pc := 55) (n := 1) (x := 1) C (by decide +kernel) (by decide +kernel) ?_
    refine zs_isub (pc := 56) C (by decide +kernel) ?_
    refine zs_cvRl (pc := 57) (As := [sI a1, sI (w32 (t2 - 1))]) (st := [sI t2, sR 18, sR 96]) C (c_X9_at l g a1 (w32 (t2 - 1))) ml_RX11_233 rfl rfl rfl rfl (Nat.le_of_ble_eq_true rfl) ⟨Nat.le_of_ble_eq_true rfl, Nat.le_of_ble_eq_true rfl⟩ ⟨Nat.le_of_ble_eq_true rfl, Nat.le_of_ble_eq_true rfl⟩ (by decide +kernel) (fun x4 => ?_)
    refine zs_l2i (pc := 60) C (by decide +kernel) ?_
    refine zs_cvVv (pc := 61) (As := [sR 18, sI t2, sI (w32 x4)]) (st := []) C (fun _ _ _ => rfl) (c_X7_goOn l g t2 (w32 x4)) ml_RX11_295 rfl rfl rfl rfl (Nat.le_of_ble_eq_true rfl) ⟨Nat.le_of_ble_eq_true rfl, Nat.le_of_ble_eq_true rfl⟩ ⟨Nat.le_of_ble_eq_true rfl, Nat.le_of_ble_eq_true rfl⟩ (by decide +kernel) ?_
    refine zs_iinc (pc := 64) (i := 4) (n := 1) (y := w32 (t2 + 1)) (ls' := [(4, sI (w32 (t2 + 1))), (0, sR 0), (2, sI a1), (3, sI x1)]) C (by decide +kernel) rfl rfl (Nat.le_of_ble_eq_true rfl) rfl ?_
    refine zs_goto (pc := 67) (off := (-35)) (tgt := 32) C (by decide +kernel) (by decide) ?_
    exact zs_goj (hK3 (w32 (t2 + 1))) ⟨rfl, rfl, rfl, rfl, trivial⟩
set_option maxRecDepth 20000 in
theorem c_X11_lowest (l : Launch) (g : GC) (a0 : Int) : ConR l g yX11_lowest cX11_lowest 2 (some .int) (rmd 1 0 0) [sI a0] (fun mm => fX11_lowest a0 mm) := by
  refine zs_ofR (by decide +kernel) (Nat.le_of_ble_eq_true rfl) ?_
  intro p e s m args below meth c C hr
  replace C : Bd g RX11 cX11_lowest 2 p s m args meth c := C
  unfold fX11_lowest
  refine zs_iconst (pc := 0) (n := 0) (x := 0) C (by decide +kernel) (by decide +kernel) ?_
  refine zs_istore_n (pc := 1) (k := 1) (i := 1) (ls' := [(1, sI 0), (0, sI a0)]) C (by decide +kernel) rfl (Nat.le_of_ble_eq_true rfl) rfl ?_
  refine zs_sub (ls' := [(0, sI a0), (1, sI 0)]) ⟨rfl, rfl, trivial⟩ ?_
  refine zs_lp (pc := 2) (fun (t1 : Int) => [(0, sI a0), (1, sI t1)]) (fun _ => []) (fun K2 hK2 t1 => ?_) BIG 0
  refine zs_iload_n (pc := 2) (k := 1) (i := 1) C (by decide +kernel) rfl rfl ?_
  refine zs_bipush (pc := 3) (n := 25) (x := 25) C (by decide +kernel) (by decide +kernel) ?_
  refine zs_icmp_ge (pc := 5) (off := 19) (tgt := 24) C (by decide +kernel) (by decide) ?_ ?_
  · refine zs_iconst (pc := 24) (n := (-1)) (x := (-1)) C (by decide +kernel) (by decide +kernel) ?_
    exact zs_retRi (pc := 25) C hr ⟨Nat.le_of_ble_eq_true rfl, Nat.le_of_ble_eq_true rfl⟩ (by decide +kernel)
  · refine zs_iload_n (pc := 8) (k := 0) (i := 0) C (by decide +kernel) rfl rfl ?_
    refine zs_iload_n (pc := 9) (k := 1) (i := 1) C (by decide +kernel) rfl rfl ?_
    refine zs_iushr (pc := 10) C (by decide +kernel) ?_
    refine zs_iconst (pc := 11) (n := 1) (x := 1) C (by decide +kernel) (by decide +kernel) ?_
    refine zs_iand (pc := 12) C (by decide +kernel) ?_
    refine zs_if_eq (pc := 13) (off := 5) (tgt := 18) C (by decide +kernel) (by decide) ?_ ?_
    · refine zs_iinc (pc := 18) (i := 1) (n := 1) (y := w32 (t1 + 1)) (ls' := [(1, sI (w32 (t1 + 1))), (0, sI a0)]) C (by decide +kernel) rfl rfl (Nat.le_of_ble_eq_true rfl) rfl ?_
      refine zs_goto (pc := 21) (off := (-19)) (tgt := 2) C (by decide +kernel) (by decide) ?_
      exact zs_goj (hK2 (w32 (t1 + 1))) ⟨rfl, rfl, trivial⟩
    · refine zs_iload_n (pc := 16) (k := 1) (i := 1) C (by decide +kernel) rfl rfl ?_
      exact zs_retRi (pc := 17) C hr ⟨Nat.le_of_ble_eq_true rfl, Nat.le_of_ble_eq_true rfl⟩ (by decide +kernel)
set_option maxRecDepth 20000 in
theorem c_X12_thrown (l : Launch) (g : GC)  : ConR l g yX12_thrown cX12_thrown 1 (some .int) (rmd 1 0 0) [sR 287] (fun mm => fX12_thrown  mm) := by
  refine zs_ofR (by decide +kernel) (Nat.le_of_ble_eq_true rfl) ?_
  intro p e s m args below meth c C hr
  replace C : Bd g RX12 cX12_thrown 1 p s m args meth c := C
  unfold fX12_thrown
  refine zs_aload_n (pc := 0) (k := 0) (i := 0) C (by decide +kernel) rfl rfl ?_
  refine zs_getI (pc := 1) (i := 88) (ci := 12) (k := 4) C (by decide +kernel) fl_RX12_88 rfl rfl (fun x1 => ?_)
  exact zs_retRi (pc := 4) C hr ⟨Nat.le_of_ble_eq_true rfl, Nat.le_of_ble_eq_true rfl⟩ (by decide +kernel)
set_option maxRecDepth 20000 in
theorem c_X12_fails (l : Launch) (g : GC) (a0 : Int) : ConW l g yX12_fails cX12_fails 2 (some .int) (rmd 1 0 0) [sR 287, sI a0] (fun mm => fX12_fails a0 mm) := by
  refine zs_ofW (by decide +kernel) (Nat.le_of_ble_eq_true rfl) ?_
  intro p e s m args below meth c C hr
  replace C : Bd g RX12 cX12_fails 2 p s m args meth c := C
  unfold fX12_fails
  refine zs_aload_n (pc := 0) (k := 0) (i := 0) C (by decide +kernel) rfl rfl ?_
  refine zs_iload_n (pc := 1) (k := 1) (i := 1) C (by decide +kernel) rfl rfl ?_
  refine zs_putI (pc := 2) (i := 88) (ci := 12) (k := 4) C (fun _ _ _ => rfl) (by decide +kernel) fl_RX12_88 fw_12_4 rfl rfl ?_
  refine zs_iconst (pc := 5) (n := 0) (x := 0) C (by decide +kernel) (by decide +kernel) ?_
  exact zs_retWi (pc := 6) C hr ⟨Nat.le_of_ble_eq_true rfl, Nat.le_of_ble_eq_true rfl⟩ (by decide +kernel)
set_option maxRecDepth 20000 in
theorem c_X12_within (l : Launch) (g : GC) (a0 : Int) (a1 : Int) (a2 : Int) : ConR l g yX12_within cX12_within 6 (some .boolean) (rmd 1 0 0) [sL a0, sL a1, sL a2] (fun mm => fX12_within a0 a1 a2 mm) := by
  refine zs_ofR (by decide +kernel) (Nat.le_of_ble_eq_true rfl) ?_
  intro p e s m args below meth c C hr
  replace C : Bd g RX12 cX12_within 6 p s m args meth c := C
  unfold fX12_within
  refine zs_lload_n (pc := 0) (k := 0) (i := 0) C (by decide +kernel) rfl rfl ?_
  refine zs_lload_n (pc := 1) (k := 2) (i := 2) C (by decide +kernel) rfl rfl ?_
  refine zs_jn (pJ := 18) (kJ := 0) (sJ := 0) (fun t1 => []) (fun t1 => [sI t1]) (fun t1 => ?_) (fun J2 hJ2 => ?_)
  · refine zs_chk (fun _ hx => ?_)
    exact zs_retRz (pc := 18) C hx hr ⟨Nat.le_of_ble_eq_true rfl, Nat.le_of_ble_eq_true rfl⟩ (by decide +kernel)
  · refine zs_jn (pJ := 17) (kJ := 0) (sJ := 0) (fun t3 => []) (fun t3 => []) (fun t3 => ?_) (fun J4 hJ4 => ?_)
    · refine zs_iconst (pc := 17) (n := 0) (x := 0) C (by decide +kernel) (by decide +kernel) ?_
      exact zs_goj (hJ2 0) trivial
    · refine zs_lcmp_lt (pc := 2) (off := 14) (tgt := 17) C (by decide +kernel) (by decide +kernel) (by decide) ?_ ?_
      · exact zs_goj (hJ4 ()) trivial
      · refine zs_lload_n (pc := 6) (k := 0) (i := 0) C (by decide +kernel) rfl rfl ?_
        refine zs_lload (pc := 7) (i := 4) C (by decide +kernel) rfl ?_
        refine zs_lcmp_gt (pc := 9) (off := 7) (tgt := 17) C (by decide +kernel) (by decide +kernel) (by decide) ?_ ?_
        · exact zs_goj (hJ4 ()) trivial
        · refine zs_iconst (pc := 13) (n := 1) (x := 1) C (by decide +kernel) (by decide +kernel) ?_
          refine zs_goto (pc := 14) (off := 4) (tgt := 18) C (by decide +kernel) (by decide) ?_
          exact zs_goj (hJ2 1) trivial
set_option maxRecDepth 20000 in
theorem c_X12_has (l : Launch) (g : GC) (a0 : Int) (a1 : Int) : ConR l g yX12_has cX12_has 2 (some .boolean) (rmd 1 0 0) [sI a0, sI a1] (fun mm => fX12_has a0 a1 mm) := by
  refine zs_ofR (by decide +kernel) (Nat.le_of_ble_eq_true rfl) ?_
  intro p e s m args below meth c C hr
  replace C : Bd g RX12 cX12_has 2 p s m args meth c := C
  unfold fX12_has
  refine zs_iload_n (pc := 0) (k := 0) (i := 0) C (by decide +kernel) rfl rfl ?_
  refine zs_iload_n (pc := 1) (k := 1) (i := 1) C (by decide +kernel) rfl rfl ?_
  refine zs_ishr (pc := 2) C (by decide +kernel) ?_
  refine zs_iconst (pc := 3) (n := 1) (x := 1) C (by decide +kernel) (by decide +kernel) ?_
  refine zs_iand (pc := 4) C (by decide +kernel) ?_
  refine zs_iconst (pc := 5) (n := 1) (x := 1) C (by decide +kernel) (by decide +kernel) ?_
  refine zs_jn (pJ := 14) (kJ := 0) (sJ := 0) (fun t1 => []) (fun t1 => [sI t1]) (fun t1 => ?_) (fun J2 hJ2 => ?_)
  · refine zs_chk (fun _ hx => ?_)
    exact zs_retRz (pc := 14) C hx hr ⟨Nat.le_of_ble_eq_true rfl, Nat.le_of_ble_eq_true rfl⟩ (by decide +kernel)
  · refine zs_icmp_ne (pc := 6) (off := 7) (tgt := 13) C (by decide +kernel) (by decide) ?_ ?_
    · refine zs_iconst (pc := 13) (n := 0) (x := 0) C (by decide +kernel) (by decide +kernel) ?_
      exact zs_goj (hJ2 0) trivial
    · refine zs_iconst (pc := 9) (n := 1) (x := 1) C (by decide +kernel) (by decide +kernel) ?_
      refine zs_goto (pc := 10) (off := 4) (tgt := 14) C (by decide +kernel) (by decide) ?_
      exact zs_goj (hJ2 1) trivial
set_option maxRecDepth 20000 in
theorem c_X12_size (l : Launch) (g : GC) (a0 : Int) : ConR l g yX12_size cX12_size 3 (some .int) (rmd 1 0 0) [sI a0] (fun mm => fX12_size a0 mm) := by
  refine zs_ofR (by decide +kernel) (Nat.le_of_ble_eq_true rfl) ?_
  intro p e s m args below meth c C hr
  replace C : Bd g RX12 cX12_size 3 p s m args meth c := C
  unfold fX12_size
  refine zs_iconst (pc := 0) (n := 0) (x := 0) C (by decide +kernel) (by decide +kernel) ?_
  refine zs_istore_n (pc := 1) (k := 1) (i := 1) (ls' := [(1, sI 0), (0, sI a0)]) C (by decide +kernel) rfl (Nat.le_of_ble_eq_true rfl) rfl ?_
  refine zs_iload_n (pc := 2) (k := 0) (i := 0) C (by decide +kernel) rfl rfl ?_
  refine zs_istore_n (pc := 3) (k := 2) (i := 2) (ls' := [(2, sI a0), (1, sI 0), (0, sI a0)]) C (by decide +kernel) rfl (Nat.le_of_ble_eq_true rfl) rfl ?_
  refine zs_sub (ls' := [(1, sI 0), (2, sI a0)]) ⟨rfl, rfl, trivial⟩ ?_
  refine zs_lp (pc := 4) (fun (t1 : Int × Int) => [(1, sI t1.1), (2, sI t1.2)]) (fun _ => []) (fun K2 hK2 t1 => ?_) BIG (0, a0)
  refine zs_iload_n (pc := 4) (k := 2) (i := 2) C (by decide +kernel) rfl rfl ?_
  refine zs_if_eq (pc := 5) (off := 15) (tgt := 20) C (by decide +kernel) (by decide) ?_ ?_
  · refine zs_iload_n (pc := 20) (k := 1) (i := 1) C (by decide +kernel) rfl rfl ?_
    exact zs_retRi (pc := 21) C hr ⟨Nat.le_of_ble_eq_true rfl, Nat.le_of_ble_eq_true rfl⟩ (by decide +kernel)
  · refine zs_iinc (pc := 8) (i := 1) (n := 1) (y := w32 (t1.1 + 1)) (ls' := [(1, sI (w32 (t1.1 + 1))), (2, sI t1.2)]) C (by decide +kernel) rfl rfl (Nat.le_of_ble_eq_true rfl) rfl ?_
    refine zs_iload_n (pc := 11) (k := 2) (i := 2) C (by decide +kernel) rfl rfl ?_
    refine zs_iload_n (pc := 12) (k := 2) (i := 2) C (by decide +kernel) rfl rfl ?_
    refine zs_iconst (pc := 13) (n := 1) (x := 1) C (by decide +kernel) (by decide +kernel) ?_
    refine zs_isub (pc := 14) C (by decide +kernel) ?_
    refine zs_iand (pc := 15) C (by decide +kernel) ?_
    refine zs_let (fun x3 => ?_)
    refine zs_istore_n (pc := 16) (k := 2) (i := 2) (ls' := [(2, sI x3), (1, sI (w32 (t1.1 + 1)))]) C (by decide +kernel) rfl (Nat.le_of_ble_eq_true rfl) rfl ?_
    refine zs_goto (pc := 17) (off := (-13)) (tgt := 4) C (by decide +kernel) (by decide) ?_
    exact zs_goj (hK2 (w32 (t1.1 + 1), x3)) ⟨rfl, rfl, trivial⟩
set_option maxRecDepth 20000 in
theorem c_X12_feed (l : Launch) (g : GC) (a0 : Int) (a1 : Int) (a2 : Int) (a3 : Int) (a4 : Int) : ConW l g yX12_feed cX12_feed 8 (some .int) (rmd 1 0 0) [sR 287, sI a0, sI a1, sI a2, sI a3, sI a4] (fun mm => fX12_feed a0 a1 a2 a3 a4 mm) := by
  refine zs_ofW (by decide +kernel) (Nat.le_of_ble_eq_true rfl) ?_
  intro p e s m args below meth c C hr
  replace C : Bd g RX12 cX12_feed 8 p s m args meth c := C
  unfold fX12_feed
  refine zs_aload_n (pc := 0) (k := 0) (i := 0) C (by decide +kernel) rfl rfl ?_
  refine zs_iconst (pc := 1) (n := 0) (x := 0) C (by decide +kernel) (by decide +kernel) ?_
  refine zs_putI (pc := 2) (i := 88) (ci := 12) (k := 4) C (fun _ _ _ => rfl) (by decide +kernel) fl_RX12_88 fw_12_4 rfl rfl ?_
  refine zs_aload_n (pc := 5) (k := 0) (i := 0) C (by decide +kernel) rfl rfl ?_
  refine zs_getI (pc := 6) (i := 91) (ci := 12) (k := 6) C (by decide +kernel) fl_RX12_91 rfl rfl (fun x1 => ?_)
  refine zs_bipush (pc := 9) (n := 20) (x := 20) C (by decide +kernel) (by decide +kernel) ?_
  refine zs_iadd (pc := 11) C (by decide +kernel) ?_
  refine zs_sipush (pc := 12) (n := 900) (x := 900) C (by decide +kernel) (by decide +kernel) ?_
  refine zs_icmp_le (pc := 15) (off := 5) (tgt := 20) C (by decide +kernel) (by decide) ?_ ?_
  · refine zs_iconst (pc := 20) (n := 0) (x := 0) C (by decide +kernel) (by decide +kernel) ?_
    refine zs_istore (pc := 21) (i := 6) (ls' := [(6, sI 0), (0, sR 287), (1, sI a0), (2, sI a1), (3, sI a2), (4, sI a3), (5, sI a4)]) C (by decide +kernel) (Nat.le_of_ble_eq_true rfl) rfl ?_
    refine zs_sub (ls' := [(0, sR 287), (1, sI a0), (2, sI a1), (3, sI a2), (4, sI a3), (5, sI a4), (6, sI 0)]) ⟨rfl, rfl, rfl, rfl, rfl, rfl, rfl, trivial⟩ ?_
    refine zs_lp (pc := 23) (fun (t2 : Int) => [(0, sR 287), (1, sI a0), (2, sI a1), (3, sI a2), (4, sI a3), (5, sI a4), (6, sI t2)]) (fun _ => []) (fun K3 hK3 t2 => ?_) BIG 0
    refine zs_iload (pc := 23) (i := 6) C (by decide +kernel) rfl ?_
    refine zs_bipush (pc := 25) (n := 20) (x := 20) C (by decide +kernel) (by decide +kernel) ?_
    refine zs_icmp_ge (pc := 27) (off := 93) (tgt := 120) C (by decide +kernel) (by decide) ?_ ?_
    · refine zs_aload_n (pc := 120) (k := 0) (i := 0) C (by decide +kernel) rfl rfl ?_
      refine zs_getI (pc := 121) (i := 91) (ci := 12) (k := 6) C (by decide +kernel) fl_RX12_91 rfl rfl (fun x4 => ?_)
      exact zs_retWi (pc := 124) C hr ⟨Nat.le_of_ble_eq_true rfl, Nat.le_of_ble_eq_true rfl⟩ (by decide +kernel)
    · refine zs_iload (pc := 30) (i := 6) C (by decide +kernel) rfl ?_
      refine zs_iconst (pc := 32) (n := 4) (x := 4) C (by decide +kernel) (by decide +kernel) ?_
      refine zs_jn (pJ := 76) (kJ := 0) (sJ := 0) (fun t5 => [(0, sR 287), (1, sI a0), (2, sI a1), (3, sI a2), (4, sI a3), (5, sI a4), (6, sI t2)]) (fun t5 => [sI t5]) (fun t5 => ?_) (fun J6 hJ6 => ?_)
      · refine zs_istore (pc := 76) (i := 7) (ls' := [(7, sI t5), (0, sR 287), (1, sI a0), (2, sI a1), (3, sI a2), (4, sI a3), (5, sI a4), (6, sI t2)]) C (by decide +kernel) (Nat.le_of_ble_eq_true rfl) rfl ?_
        refine zs_aload_n (pc := 78) (k := 0) (i := 0) C (by decide +kernel) rfl rfl ?_
        refine zs_getR (o' := 292) (pc := 79) (i := 23) (ci := 12) (k := 5) C (by decide +kernel) fl_RX12_23 rfl rfl rfl ?_
        refine zs_aload_n (pc := 82) (k := 0) (i := 0) C (by decide +kernel) rfl rfl ?_
        refine zs_getI (pc := 83) (i := 91) (ci := 12) (k := 6) C (by decide +kernel) fl_RX12_91 rfl rfl (fun x7 => ?_)
        refine zs_iload (pc := 86) (i := 7) C (by decide +kernel) rfl ?_
        refine zs_bipush (pc := 88) (n := 24) (x := 24) C (by decide +kernel) (by decide +kernel) ?_
        refine zs_bipush (pc := 90) (n := 8) (x := 8) C (by decide +kernel) (by decide +kernel) ?_
        refine zs_iload (pc := 92) (i := 6) C (by decide +kernel) rfl ?_
        refine zs_iconst (pc := 94) (n := 3) (x := 3) C (by decide +kernel) (by decide +kernel) ?_
        refine zs_iand (pc := 95) C (by decide +kernel) ?_
        refine zs_imul (pc := 96) C (by decide +kernel) ?_
        refine zs_isub (pc := 97) C (by decide +kernel) ?_
        refine zs_iushr (pc := 98) C (by decide +kernel) ?_
        refine zs_sipush (pc := 99) (n := 255) (x := 255) C (by decide +kernel) (by decide +kernel) ?_
        refine zs_iand (pc := 102) C (by decide +kernel) ?_
        refine zs_iast (pc := 103) (o := 292) (n := 900) C (fun _ _ _ => rfl) (by decide +kernel) rfl ?_
        refine zs_aload_n (pc := 104) (k := 0) (i := 0) C (by decide +kernel) rfl rfl ?_
        refine zs_dup (pc := 105) C rfl (by decide +kernel) ?_
        refine zs_getI (pc := 106) (i := 91) (ci := 12) (k := 6) C (by decide +kernel) fl_RX12_91 rfl rfl (fun x8 => ?_)
        refine zs_iconst (pc := 109) (n := 1) (x := 1) C (by decide +kernel) (by decide +kernel) ?_
        refine zs_iadd (pc := 110) C (by decide +kernel) ?_
        refine zs_putI (pc := 111) (i := 91) (ci := 12) (k := 6) C (fun _ _ _ => rfl) (by decide +kernel) fl_RX12_91 fw_12_6 rfl rfl ?_
        refine zs_iinc (pc := 114) (i := 6) (n := 1) (y := w32 (t2 + 1)) (ls' := [(6, sI (w32 (t2 + 1))), (7, sI t5), (0, sR 287), (1, sI a0), (2, sI a1), (3, sI a2), (4, sI a3), (5, sI a4)]) C (by decide +kernel) rfl rfl (Nat.le_of_ble_eq_true rfl) rfl ?_
        refine zs_goto (pc := 117) (off := (-94)) (tgt := 23) C (by decide +kernel) (by decide) ?_
        exact zs_goj (hK3 (w32 (t2 + 1))) ⟨rfl, rfl, rfl, rfl, rfl, rfl, rfl, trivial⟩
      · refine zs_icmp_ge (pc := 33) (off := 7) (tgt := 40) C (by decide +kernel) (by decide) ?_ ?_
        · refine zs_iload (pc := 40) (i := 6) C (by decide +kernel) rfl ?_
          refine zs_bipush (pc := 42) (n := 8) (x := 8) C (by decide +kernel) (by decide +kernel) ?_
          refine zs_icmp_ge (pc := 44) (off := 7) (tgt := 51) C (by decide +kernel) (by decide) ?_ ?_
          · refine zs_iload (pc := 51) (i := 6) C (by decide +kernel) rfl ?_
            refine zs_bipush (pc := 53) (n := 12) (x := 12) C (by decide +kernel) (by decide +kernel) ?_
            refine zs_icmp_ge (pc := 55) (off := 7) (tgt := 62) C (by decide +kernel) (by decide) ?_ ?_
            · refine zs_iload (pc := 62) (i := 6) C (by decide +kernel) rfl ?_
              refine zs_bipush (pc := 64) (n := 16) (x := 16) C (by decide +kernel) (by decide +kernel) ?_
              refine zs_icmp_ge (pc := 66) (off := 8) (tgt := 74) C (by decide +kernel) (by decide) ?_ ?_
              · refine zs_iload (pc := 74) (i := 5) C (by decide +kernel) rfl ?_
                exact zs_goj (hJ6 a4) ⟨rfl, rfl, rfl, rfl, rfl, rfl, rfl, trivial⟩
              · refine zs_iload (pc := 69) (i := 4) C (by decide +kernel) rfl ?_
                refine zs_goto (pc := 71) (off := 5) (tgt := 76) C (by decide +kernel) (by decide) ?_
                exact zs_goj (hJ6 a3) ⟨rfl, rfl, rfl, rfl, rfl, rfl, rfl, trivial⟩
            · refine zs_iload_n (pc := 58) (k := 3) (i := 3) C (by decide +kernel) rfl rfl ?_
              refine zs_goto (pc := 59) (off := 17) (tgt := 76) C (by decide +kernel) (by decide) ?_
              exact zs_goj (hJ6 a2) ⟨rfl, rfl, rfl, rfl, rfl, rfl, rfl, trivial⟩
          · refine zs_iload_n (pc := 47) (k := 2) (i := 2) C (by decide +kernel) rfl rfl ?_
            refine zs_goto (pc := 48) (off := 28) (tgt := 76) C (by decide +kernel) (by decide) ?_
            exact zs_goj (hJ6 a1) ⟨rfl, rfl, rfl, rfl, rfl, rfl, rfl, trivial⟩
        · refine zs_iload_n (pc := 36) (k := 1) (i := 1) C (by decide +kernel) rfl rfl ?_
          refine zs_goto (pc := 37) (off := 39) (tgt := 76) C (by decide +kernel) (by decide) ?_
          exact zs_goj (hJ6 a0) ⟨rfl, rfl, rfl, rfl, rfl, rfl, rfl, trivial⟩
  · refine zs_iconst (pc := 18) (n := (-1)) (x := (-1)) C (by decide +kernel) (by decide +kernel) ?_
    exact zs_retWi (pc := 19) C hr ⟨Nat.le_of_ble_eq_true rfl, Nat.le_of_ble_eq_true rfl⟩ (by decide +kernel)

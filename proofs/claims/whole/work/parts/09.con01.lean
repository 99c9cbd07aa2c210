set_option maxRecDepth 20000 in
theorem c_X10_lengthOf (l : Launch) (g : GC) (a0 : Int) (a1 : Int) (a2 : Int) : ConW l g yX10_lengthOf cX10_lengthOf 6 (some .int) (rmd 2 0 0) [sR 19, sI a0, sI a1, sI a2] (fun mm => fX10_lengthOf a0 a1 a2 mm) := by
  refine zs_ofW (by decide +kernel) (Nat.le_of_ble_eq_true rfl) ?_
  intro p e s m args below meth c C hr
  replace C : Bd g RX10 cX10_lengthOf 6 p s m args meth c := C
  unfold fX10_lengthOf
  refine zs_aload_n (pc := 0) (k := 0) (i := 0) C (by decide +kernel) rfl rfl ?_
  refine zs_getR (o' := 20) (pc := 1) (i := 12) (ci := 10) (k := 0) C (by decide +kernel) fl_RX10_12 rfl rfl rfl ?_
  refine zs_getR (o' := 23) (pc := 4) (i := 84) (ci := 3) (k := 8) C (by decide +kernel) fl_RX10_84 rfl rfl rfl ?_
  refine zs_getI (pc := 7) (i := 88) (ci := 4) (k := 4) C (by decide +kernel) fl_RX10_88 rfl rfl (fun x1 => ?_)
  refine zs_if_ne (pc := 10) (off := 19) (tgt := 29) C (by decide +kernel) (by decide) ?_ ?_
  · refine zs_aload_n (pc := 29) (k := 0) (i := 0) C (by decide +kernel) rfl rfl ?_
    refine zs_getR (o' := 36) (pc := 30) (i := 42) (ci := 10) (k := 7) C (by decide +kernel) fl_RX10_42 rfl rfl rfl ?_
    refine zs_iconst (pc := 33) (n := 0) (x := 0) C (by decide +kernel) (by decide +kernel) ?_
    refine zs_iload_n (pc := 34) (k := 2) (i := 2) C (by decide +kernel) rfl rfl ?_
    refine zs_iastk (pc := 35) (o := 36) (n := 8) C (by decide) (fun _ _ _ => rfl) (by decide +kernel) rfl ?_
    refine zs_aload_n (pc := 36) (k := 0) (i := 0) C (by decide +kernel) rfl rfl ?_
    refine zs_getR (o' := 36) (pc := 37) (i := 42) (ci := 10) (k := 7) C (by decide +kernel) fl_RX10_42 rfl rfl rfl ?_
    refine zs_iconst (pc := 40) (n := 1) (x := 1) C (by decide +kernel) (by decide +kernel) ?_
    refine zs_aload_n (pc := 41) (k := 0) (i := 0) C (by decide +kernel) rfl rfl ?_
    refine zs_getR (o' := 27) (pc := 42) (i := 21) (ci := 10) (k := 1) C (by decide +kernel) fl_RX10_21 rfl rfl rfl ?_
    refine zs_getR (o' := 30) (pc := 45) (i := 92) (ci := 5) (k := 6) C (by decide +kernel) fl_RX10_92 rfl rfl rfl ?_
    refine zs_iload_n (pc := 48) (k := 1) (i := 1) C (by decide +kernel) rfl rfl ?_
    refine zs_iald (pc := 49) (o := 30) (n := 4) C (by decide +kernel) rfl (fun hinx2 x2 => ?_)
    refine zs_iastk (pc := 50) (o := 36) (n := 8) C (by decide) (fun _ _ _ => rfl) (by decide +kernel) rfl ?_
    refine zs_aload_n (pc := 51) (k := 0) (i := 0) C (by decide +kernel) rfl rfl ?_
    refine zs_getR (o' := 36) (pc := 52) (i := 42) (ci := 10) (k := 7) C (by decide +kernel) fl_RX10_42 rfl rfl rfl ?_
    refine zs_iconst (pc := 55) (n := 2) (x := 2) C (by decide +kernel) (by decide +kernel) ?_
    refine zs_aload_n (pc := 56) (k := 0) (i := 0) C (by decide +kernel) rfl rfl ?_
    refine zs_getR (o' := 27) (pc := 57) (i := 21) (ci := 10) (k := 1) C (by decide +kernel) fl_RX10_21 rfl rfl rfl ?_
    refine zs_iload_n (pc := 60) (k := 3) (i := 3) C (by decide +kernel) rfl rfl ?_
    refine zs_cvRi (pc := 61) (As := [sI a2]) (st := [sI 2, sR 36]) C rfl (c_X5_rainIn l g a2) ml_RX10_100 rfl rfl rfl rfl (Nat.le_of_ble_eq_true rfl) ⟨Nat.le_of_ble_eq_true rfl, Nat.le_of_ble_eq_true rfl⟩ ⟨Nat.le_of_ble_eq_true rfl, Nat.le_of_ble_eq_true rfl⟩ (by decide +kernel) (fun x3 => ?_)
    refine zs_iastk (pc := 64) (o := 36) (n := 8) C (by decide) (fun _ _ _ => rfl) (by decide +kernel) rfl ?_
    refine zs_aload_n (pc := 65) (k := 0) (i := 0) C (by decide +kernel) rfl rfl ?_
    refine zs_getR (o' := 36) (pc := 66) (i := 42) (ci := 10) (k := 7) C (by decide +kernel) fl_RX10_42 rfl rfl rfl ?_
    refine zs_iconst (pc := 69) (n := 3) (x := 3) C (by decide +kernel) (by decide +kernel) ?_
    refine zs_iload_n (pc := 70) (k := 3) (i := 3) C (by decide +kernel) rfl rfl ?_
    refine zs_bipush (pc := 71) (n := 24) (x := 24) C (by decide +kernel) (by decide +kernel) ?_
    refine zs_irem (pc := 73) C (by decide +kernel) (by decide +kernel) ?_
    refine zs_iastk (pc := 74) (o := 36) (n := 8) C (by decide) (fun _ _ _ => rfl) (by decide +kernel) rfl ?_
    refine zs_aload_n (pc := 75) (k := 0) (i := 0) C (by decide +kernel) rfl rfl ?_
    refine zs_getR (o' := 36) (pc := 76) (i := 42) (ci := 10) (k := 7) C (by decide +kernel) fl_RX10_42 rfl rfl rfl ?_
    refine zs_iconst (pc := 79) (n := 4) (x := 4) C (by decide +kernel) (by decide +kernel) ?_
    refine zs_iload_n (pc := 80) (k := 1) (i := 1) C (by decide +kernel) rfl rfl ?_
    refine zs_iastk (pc := 81) (o := 36) (n := 8) C (by decide) (fun _ _ _ => rfl) (by decide +kernel) rfl ?_
    refine zs_aload_n (pc := 82) (k := 0) (i := 0) C (by decide +kernel) rfl rfl ?_
    refine zs_getR (o' := 20) (pc := 83) (i := 12) (ci := 10) (k := 0) C (by decide +kernel) fl_RX10_12 rfl rfl rfl ?_
    refine zs_getR (o' := 23) (pc := 86) (i := 84) (ci := 3) (k := 8) C (by decide +kernel) fl_RX10_84 rfl rfl rfl ?_
    refine zs_aload_n (pc := 89) (k := 0) (i := 0) C (by decide +kernel) rfl rfl ?_
    refine zs_getR (o' := 36) (pc := 90) (i := 42) (ci := 10) (k := 7) C (by decide +kernel) fl_RX10_42 rfl rfl rfl ?_
    refine zs_aload_n (pc := 93) (k := 0) (i := 0) C (by decide +kernel) rfl rfl ?_
    refine zs_getR (o' := 37) (pc := 94) (i := 48) (ci := 10) (k := 8) C (by decide +kernel) fl_RX10_48 rfl rfl rfl ?_
    refine zs_cvWl (pc := 97) (As := [sR 36, sR 37]) (st := []) C (fun _ _ _ => rfl) (c_X4_worth l g 23 rfl) ml_RX10_104 rfl rfl rfl rfl (Nat.le_of_ble_eq_true rfl) ⟨Nat.le_of_ble_eq_true rfl, Nat.le_of_ble_eq_true rfl⟩ ⟨Nat.le_of_ble_eq_true rfl, Nat.le_of_ble_eq_true rfl⟩ (by decide +kernel) (fun x4 => ?_)
    refine zs_lstore (pc := 100) (i := 4) (ls' := [(4, sL x4), (0, sR 19), (1, sI a0), (2, sI a1), (3, sI a2)]) C (by decide +kernel) (Nat.le_of_ble_eq_true rfl) rfl ?_
    refine zs_lload (pc := 102) (i := 4) C (by decide +kernel) rfl ?_
    refine zs_lconst (pc := 104) (n := 0) (x := 0) C (by decide +kernel) (by decide +kernel) ?_
    refine zs_jn (pJ := 130) (kJ := 0) (sJ := 0) (fun t5 => []) (fun t5 => [sI t5]) (fun t5 => ?_) (fun J6 hJ6 => ?_)
    · exact zs_retWi (pc := 130) C hr ⟨Nat.le_of_ble_eq_true rfl, Nat.le_of_ble_eq_true rfl⟩ (by decide +kernel)
    · refine zs_lcmp_ge (pc := 105) (off := 7) (tgt := 113) C (by decide +kernel) (by decide +kernel) (by decide) ?_ ?_
      · refine zs_lload (pc := 113) (i := 4) C (by decide +kernel) rfl ?_
        refine zs_ldc2 (pc := 115) (i := 108) (v := 99) (x := 99) C (by decide +kernel) wf_704 (by decide +kernel) ?_
        refine zs_lcmp_le (pc := 118) (off := 8) (tgt := 127) C (by decide +kernel) (by decide +kernel) (by decide) ?_ ?_
        · refine zs_lload (pc := 127) (i := 4) C (by decide +kernel) rfl ?_
          refine zs_l2i (pc := 129) C (by decide +kernel) ?_
          exact zs_goj (hJ6 (w32 x4)) trivial
        · refine zs_bipush (pc := 122) (n := 99) (x := 99) C (by decide +kernel) (by decide +kernel) ?_
          refine zs_goto (pc := 124) (off := 6) (tgt := 130) C (by decide +kernel) (by decide) ?_
          exact zs_goj (hJ6 99) trivial
      · refine zs_iconst (pc := 109) (n := 0) (x := 0) C (by decide +kernel) (by decide +kernel) ?_
        refine zs_goto (pc := 110) (off := 20) (tgt := 130) C (by decide +kernel) (by decide) ?_
        exact zs_goj (hJ6 0) trivial
  · refine zs_iconst (pc := 13) (n := 0) (x := 0) C (by decide +kernel) (by decide +kernel) ?_
    refine zs_iload_n (pc := 14) (k := 2) (i := 2) C (by decide +kernel) rfl rfl ?_
    refine zs_aload_n (pc := 15) (k := 0) (i := 0) C (by decide +kernel) rfl rfl ?_
    refine zs_getR (o' := 27) (pc := 16) (i := 21) (ci := 10) (k := 1) C (by decide +kernel) fl_RX10_21 rfl rfl rfl ?_
    refine zs_getR (o' := 30) (pc := 19) (i := 92) (ci := 5) (k := 6) C (by decide +kernel) fl_RX10_92 rfl rfl rfl ?_
    refine zs_iload_n (pc := 22) (k := 1) (i := 1) C (by decide +kernel) rfl rfl ?_
    refine zs_iald (pc := 23) (o := 30) (n := 4) C (by decide +kernel) rfl (fun hinx7 x7 => ?_)
    refine zs_isub (pc := 24) C (by decide +kernel) ?_
    refine zs_mmax (pc := 25) (idx := 95) C wf_701 wf_702 wf_166 wf_703 ⟨Nat.le_of_ble_eq_true rfl, Nat.le_of_ble_eq_true rfl, Nat.le_of_ble_eq_true rfl, Nat.le_of_ble_eq_true rfl⟩ (by decide +kernel) ?_
    exact zs_retWi (pc := 28) C hr ⟨Nat.le_of_ble_eq_true rfl, Nat.le_of_ble_eq_true rfl⟩ (by decide +kernel)
set_option maxRecDepth 20000 in
theorem c_X10_ropeIn (l : Launch) (g : GC) (a0 : Int) (a1 : Int) : ConW l g yX10_ropeIn cX10_ropeIn 3 (some .int) (rmd 3 0 0) [sR 19, sI a0, sI a1] (fun mm => fX10_ropeIn a0 a1 mm) := by
  refine zs_ofW (by decide +kernel) (Nat.le_of_ble_eq_true rfl) ?_
  intro p e s m args below meth c C hr
  replace C : Bd g RX10 cX10_ropeIn 3 p s m args meth c := C
  unfold fX10_ropeIn
  refine zs_aload_n (pc := 0) (k := 0) (i := 0) C (by decide +kernel) rfl rfl ?_
  refine zs_iload_n (pc := 1) (k := 1) (i := 1) C (by decide +kernel) rfl rfl ?_
  refine zs_aload_n (pc := 2) (k := 0) (i := 0) C (by decide +kernel) rfl rfl ?_
  refine zs_getR (o' := 20) (pc := 3) (i := 12) (ci := 10) (k := 0) C (by decide +kernel) fl_RX10_12 rfl rfl rfl ?_
  refine zs_getR (o' := 22) (pc := 6) (i := 77) (ci := 3) (k := 7) C (by decide +kernel) fl_RX10_77 rfl rfl rfl ?_
  refine zs_iload_n (pc := 9) (k := 1) (i := 1) C (by decide +kernel) rfl rfl ?_
  refine zs_iald (pc := 10) (o := 22) (n := 4) C (by decide +kernel) rfl (fun hinx1 x1 => ?_)
  refine zs_iload_n (pc := 11) (k := 2) (i := 2) C (by decide +kernel) rfl rfl ?_
  refine zs_cvWi (pc := 12) (As := [sI a0, sI x1, sI a1]) (st := []) C (fun _ _ _ => rfl) rfl (c_X10_lengthOf l g a0 x1 a1) ml_RX10_80 rfl rfl rfl rfl (Nat.le_of_ble_eq_true rfl) ⟨Nat.le_of_ble_eq_true rfl, Nat.le_of_ble_eq_true rfl⟩ ⟨Nat.le_of_ble_eq_true rfl, Nat.le_of_ble_eq_true rfl⟩ (by decide +kernel) (fun x2 => ?_)
  exact zs_retWi (pc := 15) C hr ⟨Nat.le_of_ble_eq_true rfl, Nat.le_of_ble_eq_true rfl⟩ (by decide +kernel)
set_option maxRecDepth 20000 in
theorem c_X5_isParted (l : Launch) (g : GC) (a0 : Int) : ConR l g yX5_isParted cX5_isParted 2 (some .boolean) (rmd 1 0 0) [sR 27, sI a0] (fun mm => fX5_isParted a0 mm) := by
  refine zs_ofR (by decide +kernel) (Nat.le_of_ble_eq_true rfl) ?_
  intro p e s m args below meth c C hr
  replace C : Bd g RX5 cX5_isParted 2 p s m args meth c := C
  unfold fX5_isParted
  refine zs_aload_n (pc := 0) (k := 0) (i := 0) C (by decide +kernel) rfl rfl ?_
  refine zs_getI (pc := 1) (i := 21) (ci := 5) (k := 3) C (by decide +kernel) fl_RX5_21 rfl rfl (fun x1 => ?_)
  refine zs_iload_n (pc := 4) (k := 1) (i := 1) C (by decide +kernel) rfl rfl ?_
  refine zs_iushr (pc := 5) C (by decide +kernel) ?_
  refine zs_iconst (pc := 6) (n := 1) (x := 1) C (by decide +kernel) (by decide +kernel) ?_
  refine zs_iand (pc := 7) C (by decide +kernel) ?_
  refine zs_jn (pJ := 16) (kJ := 0) (sJ := 0) (fun t2 => []) (fun t2 => [sI t2]) (fun t2 => ?_) (fun J3 hJ3 => ?_)
  · refine zs_chk (fun _ hx => ?_)
    exact zs_retRz (pc := 16) C hx hr ⟨Nat.le_of_ble_eq_true rfl, Nat.le_of_ble_eq_true rfl⟩ (by decide +kernel)
  · refine zs_if_eq (pc := 8) (off := 7) (tgt := 15) C (by decide +kernel) (by decide) ?_ ?_
    · refine zs_iconst (pc := 15) (n := 0) (x := 0) C (by decide +kernel) (by decide +kernel) ?_
      exact zs_goj (hJ3 0) trivial
    · refine zs_iconst (pc := 11) (n := 1) (x := 1) C (by decide +kernel) (by decide +kernel) ?_
      refine zs_goto (pc := 12) (off := 4) (tgt := 16) C (by decide +kernel) (by decide) ?_
      exact zs_goj (hJ3 1) trivial
set_option maxRecDepth 20000 in
theorem c_X11_pair (l : Launch) (g : GC) (hl : l.stackTraces = false) (a0 : Int) (a1 : Int) : ConT l g yX11_pair cX11_pair 3 (some .int) (rmd 8 2 12) [sR 0, sI a0, sI a1] (fun mm => fX11_pair a0 a1 mm) := by
  refine zs_ofT (by decide +kernel) (Nat.le_of_ble_eq_true rfl) ?_
  intro p e s m args below meth c C hr hE
  replace C : Bd g RX11 cX11_pair 3 p s m args meth c := C
  unfold fX11_pair
  refine zs_aload_n (pc := 0) (k := 0) (i := 0) C (by decide +kernel) rfl rfl ?_
  refine zs_iload_n (pc := 1) (k := 1) (i := 1) C (by decide +kernel) rfl rfl ?_
  refine zs_cvTv (pc := 2) (As := [sI a0]) (st := []) C hE (c_X11_needPair l g hl a0) ml_RX11_134 rfl rfl rfl rfl (Nat.le_of_ble_eq_true rfl) ⟨Nat.le_of_ble_eq_true rfl, Nat.le_of_ble_eq_true rfl⟩ ⟨Nat.le_of_ble_eq_true rfl, Nat.le_of_ble_eq_true rfl⟩ ⟨Nat.le_of_ble_eq_true rfl, Nat.le_of_ble_eq_true rfl⟩ (by decide +kernel) ?_
  refine zs_iload_n (pc := 5) (k := 2) (i := 2) C (by decide +kernel) rfl rfl ?_
  refine zs_ite (fun hc0 => ?_) (fun hc0 => ?_)
  · refine zs_tswI (pc := 6) (dflt := 142) (lo := 0) (hi := 6) (offs := #[42, 55, 68, 81, 94, 103, 122]) (len := 42) (i := 0) (off := 42) (tgt := 48) C (by decide +kernel) hc0 (by decide) rfl (by decide) ?_
    refine zs_aload_n (pc := 48) (k := 0) (i := 0) C (by decide +kernel) rfl rfl ?_
    refine zs_getR (o' := 19) (pc := 49) (i := 41) (ci := 11) (k := 6) C (by decide +kernel) fl_RX11_41 rfl rfl rfl ?_
    refine zs_getR (o' := 20) (pc := 52) (i := 114) (ci := 10) (k := 0) C (by decide +kernel) fl_RX11_114 rfl rfl rfl ?_
    refine zs_getR (o' := 22) (pc := 55) (i := 137) (ci := 3) (k := 7) C (by decide +kernel) fl_RX11_137 rfl rfl rfl ?_
    refine zs_iload_n (pc := 58) (k := 1) (i := 1) C (by decide +kernel) rfl rfl ?_
    refine zs_iald (pc := 59) (o := 22) (n := 4) C (by decide +kernel) rfl (fun hinx1 x1 => ?_)
    exact zs_retTi (pc := 60) C hr ⟨Nat.le_of_ble_eq_true rfl, Nat.le_of_ble_eq_true rfl⟩ (by decide +kernel)
  · refine zs_ite (fun hc1 => ?_) (fun hc1 => ?_)
    · refine zs_tswI (pc := 6) (dflt := 142) (lo := 0) (hi := 6) (offs := #[42, 55, 68, 81, 94, 103, 122]) (len := 42) (i := 1) (off := 55) (tgt := 61) C (by decide +kernel) hc1 (by decide) rfl (by decide) ?_
      refine zs_aload_n (pc := 61) (k := 0) (i := 0) C (by decide +kernel) rfl rfl ?_
      refine zs_getR (o' := 19) (pc := 62) (i := 41) (ci := 11) (k := 6) C (by decide +kernel) fl_RX11_41 rfl rfl rfl ?_
      refine zs_getR (o' := 27) (pc := 65) (i := 141) (ci := 10) (k := 1) C (by decide +kernel) fl_RX11_141 rfl rfl rfl ?_
      refine zs_getR (o' := 30) (pc := 68) (i := 142) (ci := 5) (k := 6) C (by decide +kernel) fl_RX11_142 rfl rfl rfl ?_
      refine zs_iload_n (pc := 71) (k := 1) (i := 1) C (by decide +kernel) rfl rfl ?_
      refine zs_iald (pc := 72) (o := 30) (n := 4) C (by decide +kernel) rfl (fun hinx2 x2 => ?_)
      exact zs_retTi (pc := 73) C hr ⟨Nat.le_of_ble_eq_true rfl, Nat.le_of_ble_eq_true rfl⟩ (by decide +kernel)
    · refine zs_ite (fun hc2 => ?_) (fun hc2 => ?_)
      · refine zs_tswI (pc := 6) (dflt := 142) (lo := 0) (hi := 6) (offs := #[42, 55, 68, 81, 94, 103, 122]) (len := 42) (i := 2) (off := 68) (tgt := 74) C (by decide +kernel) hc2 (by decide) rfl (by decide) ?_
        refine zs_aload_n (pc := 74) (k := 0) (i := 0) C (by decide +kernel) rfl rfl ?_
        refine zs_getR (o' := 19) (pc := 75) (i := 41) (ci := 11) (k := 6) C (by decide +kernel) fl_RX11_41 rfl rfl rfl ?_
        refine zs_getR (o' := 27) (pc := 78) (i := 141) (ci := 10) (k := 1) C (by decide +kernel) fl_RX11_141 rfl rfl rfl ?_
        refine zs_getR (o' := 28) (pc := 81) (i := 147) (ci := 5) (k := 4) C (by decide +kernel) fl_RX11_147 rfl rfl rfl ?_
        refine zs_iload_n (pc := 84) (k := 1) (i := 1) C (by decide +kernel) rfl rfl ?_
        refine zs_iald (pc := 85) (o := 28) (n := 4) C (by decide +kernel) rfl (fun hinx3 x3 => ?_)
        exact zs_retTi (pc := 86) C hr ⟨Nat.le_of_ble_eq_true rfl, Nat.le_of_ble_eq_true rfl⟩ (by decide +kernel)
      · refine zs_ite (fun hc3 => ?_) (fun hc3 => ?_)
        · refine zs_tswI (pc := 6) (dflt := 142) (lo := 0) (hi := 6) (offs := #[42, 55, 68, 81, 94, 103, 122]) (len := 42) (i := 3) (off := 81) (tgt := 87) C (by decide +kernel) hc3 (by decide) rfl (by decide) ?_
          refine zs_aload_n (pc := 87) (k := 0) (i := 0) C (by decide +kernel) rfl rfl ?_
          refine zs_getR (o' := 19) (pc := 88) (i := 41) (ci := 11) (k := 6) C (by decide +kernel) fl_RX11_41 rfl rfl rfl ?_
          refine zs_getR (o' := 27) (pc := 91) (i := 141) (ci := 10) (k := 1) C (by decide +kernel) fl_RX11_141 rfl rfl rfl ?_
          refine zs_getR (o' := 29) (pc := 94) (i := 150) (ci := 5) (k := 5) C (by decide +kernel) fl_RX11_150 rfl rfl rfl ?_
          refine zs_iload_n (pc := 97) (k := 1) (i := 1) C (by decide +kernel) rfl rfl ?_
          refine zs_iald (pc := 98) (o := 29) (n := 4) C (by decide +kernel) rfl (fun hinx4 x4 => ?_)
          exact zs_retTi (pc := 99) C hr ⟨Nat.le_of_ble_eq_true rfl, Nat.le_of_ble_eq_true rfl⟩ (by decide +kernel)
        · refine zs_ite (fun hc4 => ?_) (fun hc4 => ?_)
          · refine zs_tswI (pc := 6) (dflt := 142) (lo := 0) (hi := 6) (offs := #[42, 55, 68, 81, 94, 103, 122]) (len := 42) (i := 4) (off := 94) (tgt := 100) C (by decide +kernel) hc4 (by decide) rfl (by decide) ?_
            refine zs_aload_n (pc := 100) (k := 0) (i := 0) C (by decide +kernel) rfl rfl ?_
            refine zs_getR (o' := 19) (pc := 101) (i := 41) (ci := 11) (k := 6) C (by decide +kernel) fl_RX11_41 rfl rfl rfl ?_
            refine zs_iload_n (pc := 104) (k := 1) (i := 1) C (by decide +kernel) rfl rfl ?_
            refine zs_cvRi (pc := 105) (As := [sI a0]) (st := []) C rfl (c_X10_apart l g a0) ml_RX11_153 rfl rfl rfl rfl (Nat.le_of_ble_eq_true rfl) ⟨Nat.le_of_ble_eq_true rfl, Nat.le_of_ble_eq_true rfl⟩ ⟨Nat.le_of_ble_eq_true rfl, Nat.le_of_ble_eq_true rfl⟩ (by decide +kernel) (fun x5 => ?_)
            exact zs_retTi (pc := 108) C hr ⟨Nat.le_of_ble_eq_true rfl, Nat.le_of_ble_eq_true rfl⟩ (by decide +kernel)
          · refine zs_ite (fun hc5 => ?_) (fun hc5 => ?_)
            · refine zs_tswI (pc := 6) (dflt := 142) (lo := 0) (hi := 6) (offs := #[42, 55, 68, 81, 94, 103, 122]) (len := 42) (i := 5) (off := 103) (tgt := 109) C (by decide +kernel) hc5 (by decide) rfl (by decide) ?_
              refine zs_aload_n (pc := 109) (k := 0) (i := 0) C (by decide +kernel) rfl rfl ?_
              refine zs_getR (o' := 19) (pc := 110) (i := 41) (ci := 11) (k := 6) C (by decide +kernel) fl_RX11_41 rfl rfl rfl ?_
              refine zs_iload_n (pc := 113) (k := 1) (i := 1) C (by decide +kernel) rfl rfl ?_
              refine zs_aload_n (pc := 114) (k := 0) (i := 0) C (by decide +kernel) rfl rfl ?_
              refine zs_getR (o' := 19) (pc := 115) (i := 41) (ci := 11) (k := 6) C (by decide +kernel) fl_RX11_41 rfl rfl rfl ?_
              refine zs_getR (o' := 27) (pc := 118) (i := 141) (ci := 10) (k := 1) C (by decide +kernel) fl_RX11_141 rfl rfl rfl ?_
              refine zs_getI (pc := 121) (i := 156) (ci := 5) (k := 0) C (by decide +kernel) fl_RX11_156 rfl rfl (fun x6 => ?_)
              refine zs_cvWi (pc := 124) (As := [sI a0, sI x6]) (st := []) C (fun _ _ _ => rfl) rfl (c_X10_ropeIn l g a0 x6) ml_RX11_159 rfl rfl rfl rfl (Nat.le_of_ble_eq_true rfl) ⟨Nat.le_of_ble_eq_true rfl, Nat.le_of_ble_eq_true rfl⟩ ⟨Nat.le_of_ble_eq_true rfl, Nat.le_of_ble_eq_true rfl⟩ (by decide +kernel) (fun x7 => ?_)
              exact zs_retTi (pc := 127) C hr ⟨Nat.le_of_ble_eq_true rfl, Nat.le_of_ble_eq_true rfl⟩ (by decide +kernel)
            · refine zs_ite (fun hc6 => ?_) (fun hc6 => ?_)
              · refine zs_tswI (pc := 6) (dflt := 142) (lo := 0) (hi := 6) (offs := #[42, 55, 68, 81, 94, 103, 122]) (len := 42) (i := 6) (off := 122) (tgt := 128) C (by decide +kernel) hc6 (by decide) rfl (by decide) ?_
                refine zs_aload_n (pc := 128) (k := 0) (i := 0) C (by decide +kernel) rfl rfl ?_
                refine zs_getR (o' := 19) (pc := 129) (i := 41) (ci := 11) (k := 6) C (by decide +kernel) fl_RX11_41 rfl rfl rfl ?_
                refine zs_getR (o' := 27) (pc := 132) (i := 141) (ci := 10) (k := 1) C (by decide +kernel) fl_RX11_141 rfl rfl rfl ?_
                refine zs_iload_n (pc := 135) (k := 1) (i := 1) C (by decide +kernel) rfl rfl ?_
                refine zs_cvRi (pc := 136) (As := [sI a0]) (st := []) C rfl (c_X5_isParted l g a0) ml_RX11_163 rfl rfl rfl rfl (Nat.le_of_ble_eq_true rfl) ⟨Nat.le_of_ble_eq_true rfl, Nat.le_of_ble_eq_true rfl⟩ ⟨Nat.le_of_ble_eq_true rfl, Nat.le_of_ble_eq_true rfl⟩ (by decide +kernel) (fun x8 => ?_)
                refine zs_jn (pJ := 147) (kJ := 1) (sJ := 6) (fun t9 => []) (fun t9 => [sI t9]) (fun t9 => ?_) (fun J10 hJ10 => ?_)
                · exact zs_retTi (pc := 147) C hr ⟨Nat.le_of_ble_eq_true rfl, Nat.le_of_ble_eq_true rfl⟩ (by decide +kernel)
                · refine zs_if_eq (pc := 139) (off := 7) (tgt := 146) C (by decide +kernel) (by decide) ?_ ?_
                  · refine zs_iconst (pc := 146) (n := 0) (x := 0) C (by decide +kernel) (by decide +kernel) ?_
                    exact zs_goj (hJ10 0) trivial
                  · refine zs_iconst (pc := 142) (n := 1) (x := 1) C (by decide +kernel) (by decide +kernel) ?_
                    refine zs_goto (pc := 143) (off := 4) (tgt := 147) C (by decide +kernel) (by decide) ?_
                    exact zs_goj (hJ10 1) trivial
              · refine zs_tswD (pc := 6) (dflt := 142) (lo := 0) (hi := 6) (offs := #[42, 55, 68, 81, 94, 103, 122]) (len := 42) (tgt := 148) C (by decide +kernel) (by omega) (by decide) ?_
                exact zs_throw (pc := 148) (text := "what is 0 to 6") (ik := 85) (is_ := 166) (ic := 89) (k := 1) C hE hl ⟨by decide, rfl⟩ ⟨by decide +kernel, by decide +kernel⟩ wf_784 wf_161 (by decide +kernel) ex_RX11_89.1 ex_RX11_89.2 ⟨Nat.le_of_ble_eq_true rfl, Nat.le_of_ble_eq_true rfl, Nat.le_of_ble_eq_true rfl, Nat.le_of_ble_eq_true rfl⟩ ⟨Nat.le_of_ble_eq_true rfl, Nat.le_of_ble_eq_true rfl⟩ (by decide +kernel) (by decide +kernel) (by decide +kernel) (by decide +kernel) (by decide +kernel)
set_option maxRecDepth 20000 in
theorem c_X11_house (l : Launch) (g : GC) (hl : l.stackTraces = false) (a0 : Int) : ConT l g yX11_house cX11_house 2 (some .int) (rmd 7 1 6) [sR 0, sI a0] (fun mm => fX11_house a0 mm) := by
  refine zs_ofT (by decide +kernel) (Nat.le_of_ble_eq_true rfl) ?_
  intro p e s m args below meth c C hr hE
  replace C : Bd g RX11 cX11_house 2 p s m args meth c := C
  unfold fX11_house
  refine zs_iload_n (pc := 0) (k := 1) (i := 1) C (by decide +kernel) rfl rfl ?_
  refine zs_jn (pJ := 24) (kJ := 0) (sJ := 0) (fun t1 => []) (fun t1 => []) (fun t1 => ?_) (fun J2 hJ2 => ?_)
  · exact zs_throwN (pc := 24) (text := "no such house") (ik := 171) (is_ := 173) (ic := 175) (k := 3) (ix := 13) (rx := prog_34_method_4_code) (Y1 := "java/lang/RuntimeException") C hE hl ⟨by decide, rfl⟩ ⟨by decide +kernel, by decide +kernel, by decide +kernel⟩ wf_1119 wf_169 (by decide +kernel) ex_RX11_175.1 ex_RX11_175.2 (by decide +kernel) (by decide +kernel) (by decide +kernel) (by decide +kernel) ⟨Nat.le_of_ble_eq_true rfl, Nat.le_of_ble_eq_true rfl, Nat.le_of_ble_eq_true rfl, Nat.le_of_ble_eq_true rfl⟩ ⟨Nat.le_of_ble_eq_true rfl, Nat.le_of_ble_eq_true rfl⟩ (by decide +kernel) (by decide +kernel) (by decide +kernel) (by decide +kernel) (by decide +kernel)
  · refine zs_if_lt (pc := 1) (off := 23) (tgt := 24) C (by decide +kernel) (by decide) ?_ ?_
    · exact zs_goj (hJ2 ()) trivial
    · refine zs_iload_n (pc := 4) (k := 1) (i := 1) C (by decide +kernel) rfl rfl ?_
      refine zs_aload_n (pc := 5) (k := 0) (i := 0) C (by decide +kernel) rfl rfl ?_
      refine zs_getR (o' := 19) (pc := 6) (i := 41) (ci := 11) (k := 6) C (by decide +kernel) fl_RX11_41 rfl rfl rfl ?_
      refine zs_getR (o' := 20) (pc := 9) (i := 114) (ci := 10) (k := 0) C (by decide +kernel) fl_RX11_114 rfl rfl rfl ?_
      refine zs_getI (pc := 12) (i := 168) (ci := 3) (k := 4) C (by decide +kernel) fl_RX11_168 rfl rfl (fun x3 => ?_)
      refine zs_icmp_ge (pc := 15) (off := 9) (tgt := 24) C (by decide +kernel) (by decide) ?_ ?_
      · exact zs_goj (hJ2 ()) trivial
      · refine zs_iload_n (pc := 18) (k := 1) (i := 1) C (by decide +kernel) rfl rfl ?_
        refine zs_bipush (pc := 19) (n := 8) (x := 8) C (by decide +kernel) (by decide +kernel) ?_
        refine zs_icmp_lt (pc := 21) (off := 13) (tgt := 34) C (by decide +kernel) (by decide) ?_ ?_
        · refine zs_aload_n (pc := 34) (k := 0) (i := 0) C (by decide +kernel) rfl rfl ?_
          refine zs_getR (o' := 19) (pc := 35) (i := 41) (ci := 11) (k := 6) C (by decide +kernel) fl_RX11_41 rfl rfl rfl ?_
          refine zs_getR (o' := 20) (pc := 38) (i := 114) (ci := 10) (k := 0) C (by decide +kernel) fl_RX11_114 rfl rfl rfl ?_
          refine zs_getR (o' := 21) (pc := 41) (i := 176) (ci := 3) (k := 6) C (by decide +kernel) fl_RX11_176 rfl rfl rfl ?_
          refine zs_iload_n (pc := 44) (k := 1) (i := 1) C (by decide +kernel) rfl rfl ?_
          refine zs_iald (pc := 45) (o := 21) (n := 8) C (by decide +kernel) rfl (fun hinx4 x4 => ?_)
          exact zs_retTi (pc := 46) C hr ⟨Nat.le_of_ble_eq_true rfl, Nat.le_of_ble_eq_true rfl⟩ (by decide +kernel)
        · exact zs_goj (hJ2 ()) trivial
set_option maxRecDepth 20000 in
theorem c_X11_needWithin (l : Launch) (g : GC) (hl : l.stackTraces = false) (a0 : Int) (a1 : Int) (a2 : Int) : ConT l g yX11_needWithin cX11_needWithin 4 none (rmd 7 1 6) [sR 0, sI a0, sI a1, sI a2] (fun mm => fX11_needWithin a0 a1 a2 mm) := by
  refine zs_ofT (by decide +kernel) (Nat.le_of_ble_eq_true rfl) ?_
  intro p e s m args below meth c C hr hE
  replace C : Bd g RX11 cX11_needWithin 4 p s m args meth c := C
  unfold fX11_needWithin
  refine zs_iload_n (pc := 0) (k := 1) (i := 1) C (by decide +kernel) rfl rfl ?_
  refine zs_iload_n (pc := 1) (k := 2) (i := 2) C (by decide +kernel) rfl rfl ?_
  refine zs_jn (pJ := 10) (kJ := 0) (sJ := 0) (fun t1 => []) (fun t1 => []) (fun t1 => ?_) (fun J2 hJ2 => ?_)
  · exact zs_throwW (pc := 10) (text := "a number is out of its bounds") (ik := 85) (is_ := 401) (ic := 89) (k := 1) C hE hl ⟨by decide, rfl⟩ ⟨by decide +kernel, by decide +kernel⟩ wf_784 wf_161 (by decide +kernel) ex_RX11_89.1 ex_RX11_89.2 ⟨Nat.le_of_ble_eq_true rfl, Nat.le_of_ble_eq_true rfl, Nat.le_of_ble_eq_true rfl, Nat.le_of_ble_eq_true rfl⟩ ⟨Nat.le_of_ble_eq_true rfl, Nat.le_of_ble_eq_true rfl⟩ (by decide +kernel) (by decide +kernel) (by decide +kernel) (by decide +kernel) (by decide +kernel)
  · refine zs_icmp_lt (pc := 2) (off := 8) (tgt := 10) C (by decide +kernel) (by decide) ?_ ?_
    · exact zs_goj (hJ2 ()) trivial
    · refine zs_iload_n (pc := 5) (k := 1) (i := 1) C (by decide +kernel) rfl rfl ?_
      refine zs_iload_n (pc := 6) (k := 3) (i := 3) C (by decide +kernel) rfl rfl ?_
      refine zs_icmp_le (pc := 7) (off := 14) (tgt := 21) C (by decide +kernel) (by decide) ?_ ?_
      · exact zs_retTv (pc := 21) C hr ⟨Nat.le_of_ble_eq_true rfl, Nat.le_of_ble_eq_true rfl⟩ (by decide +kernel)
      · exact zs_goj (hJ2 ()) trivial
set_option maxRecDepth 20000 in
theorem c_X11_length (l : Launch) (g : GC) (hl : l.stackTraces = false) (a0 : Int) (a1 : Int) : ConT l g yX11_length cX11_length 3 (some .int) (rmd 8 2 12) [sR 0, sI a0, sI a1] (fun mm => fX11_length a0 a1 mm) := by
  refine zs_ofT (by decide +kernel) (Nat.le_of_ble_eq_true rfl) ?_
  intro p e s m args below meth c C hr hE
  replace C : Bd g RX11 cX11_length 3 p s m args meth c := C
  unfold fX11_length
  refine zs_aload_n (pc := 0) (k := 0) (i := 0) C (by decide +kernel) rfl rfl ?_
  refine zs_iload_n (pc := 1) (k := 1) (i := 1) C (by decide +kernel) rfl rfl ?_
  refine zs_cvTv (pc := 2) (As := [sI a0]) (st := []) C hE (c_X11_needPair l g hl a0) ml_RX11_134 rfl rfl rfl rfl (Nat.le_of_ble_eq_true rfl) ⟨Nat.le_of_ble_eq_true rfl, Nat.le_of_ble_eq_true rfl⟩ ⟨Nat.le_of_ble_eq_true rfl, Nat.le_of_ble_eq_true rfl⟩ ⟨Nat.le_of_ble_eq_true rfl, Nat.le_of_ble_eq_true rfl⟩ (by decide +kernel) ?_
  refine zs_aload_n (pc := 5) (k := 0) (i := 0) C (by decide +kernel) rfl rfl ?_
  refine zs_iload_n (pc := 6) (k := 2) (i := 2) C (by decide +kernel) rfl rfl ?_
  refine zs_iconst (pc := 7) (n := 0) (x := 0) C (by decide +kernel) (by decide +kernel) ?_
  refine zs_sipush (pc := 8) (n := 999) (x := 999) C (by decide +kernel) (by decide +kernel) ?_
  refine zs_cvTv (pc := 11) (As := [sI a1, sI 0, sI 999]) (st := []) C hE (c_X11_needWithin l g hl a1 0 999) ml_RX11_179 rfl rfl rfl rfl (Nat.le_of_ble_eq_true rfl) ⟨Nat.le_of_ble_eq_true rfl, Nat.le_of_ble_eq_true rfl⟩ ⟨Nat.le_of_ble_eq_true rfl, Nat.le_of_ble_eq_true rfl⟩ ⟨Nat.le_of_ble_eq_true rfl, Nat.le_of_ble_eq_true rfl⟩ (by decide +kernel) ?_
  refine zs_aload_n (pc := 14) (k := 0) (i := 0) C (by decide +kernel) rfl rfl ?_
  refine zs_getR (o' := 19) (pc := 15) (i := 41) (ci := 11) (k := 6) C (by decide +kernel) fl_RX11_41 rfl rfl rfl ?_
  refine zs_iload_n (pc := 18) (k := 1) (i := 1) C (by decide +kernel) rfl rfl ?_
  refine zs_aload_n (pc := 19) (k := 0) (i := 0) C (by decide +kernel) rfl rfl ?_
  refine zs_getR (o' := 19) (pc := 20) (i := 41) (ci := 11) (k := 6) C (by decide +kernel) fl_RX11_41 rfl rfl rfl ?_
  refine zs_getR (o' := 27) (pc := 23) (i := 141) (ci := 10) (k := 1) C (by decide +kernel) fl_RX11_141 rfl rfl rfl ?_
  refine zs_getI (pc := 26) (i := 156) (ci := 5) (k := 0) C (by decide +kernel) fl_RX11_156 rfl rfl (fun x1 => ?_)
  refine zs_iload_n (pc := 29) (k := 2) (i := 2) C (by decide +kernel) rfl rfl ?_
  refine zs_iadd (pc := 30) C (by decide +kernel) ?_
  refine zs_cvWi (pc := 31) (As := [sI a0, sI (w32 (x1 + a1))]) (st := []) C (fun _ _ _ => rfl) rfl (c_X10_ropeIn l g a0 (w32 (x1 + a1))) ml_RX11_159 rfl rfl rfl rfl (Nat.le_of_ble_eq_true rfl) ⟨Nat.le_of_ble_eq_true rfl, Nat.le_of_ble_eq_true rfl⟩ ⟨Nat.le_of_ble_eq_true rfl, Nat.le_of_ble_eq_true rfl⟩ (by decide +kernel) (fun x2 => ?_)
  exact zs_retTi (pc := 34) C hr ⟨Nat.le_of_ble_eq_true rfl, Nat.le_of_ble_eq_true rfl⟩ (by decide +kernel)
set_option maxRecDepth 20000 in
theorem c_X10_lawBits (l : Launch) (g : GC) (a0 : Int) (a1 : Int) (a2 : Int) (a3 : Int) (a4 : Int) : ConW l g yX10_lawBits cX10_lawBits 9 (some .int) (rmd 2 0 0) [sR 19, sI a0, sI a1, sI a2, sI a3, sI a4] (fun mm => fX10_lawBits a0 a1 a2 a3 a4 mm) := by
  refine zs_ofW (by decide +kernel) (Nat.le_of_ble_eq_true rfl) ?_
  intro p e s m args below meth c C hr
  replace C : Bd g RX10 cX10_lawBits 9 p s m args meth c := C
  unfold fX10_lawBits
  refine zs_aload_n (pc := 0) (k := 0) (i := 0) C (by decide +kernel) rfl rfl ?_
  refine zs_getR (o' := 20) (pc := 1) (i := 12) (ci := 10) (k := 0) C (by decide +kernel) fl_RX10_12 rfl rfl rfl ?_
  refine zs_getI (pc := 4) (i := 110) (ci := 3) (k := 1) C (by decide +kernel) fl_RX10_110 rfl rfl (fun x1 => ?_)
  refine zs_istore (pc := 7) (i := 6) (ls' := [(6, sI x1), (0, sR 19), (1, sI a0), (2, sI a1), (3, sI a2), (4, sI a3), (5, sI a4)]) C (by decide +kernel) (Nat.le_of_ble_eq_true rfl) rfl ?_
  refine zs_iconst (pc := 9) (n := 0) (x := 0) C (by decide +kernel) (by decide +kernel) ?_
  refine zs_istore (pc := 10) (i := 7) (ls' := [(7, sI 0), (6, sI x1), (0, sR 19), (1, sI a0), (2, sI a1), (3, sI a2), (4, sI a3), (5, sI a4)]) C (by decide +kernel) (Nat.le_of_ble_eq_true rfl) rfl ?_
  refine zs_aload_n (pc := 12) (k := 0) (i := 0) C (by decide +kernel) rfl rfl ?_
  refine zs_getR (o' := 36) (pc := 13) (i := 42) (ci := 10) (k := 7) C (by decide +kernel) fl_RX10_42 rfl rfl rfl ?_
  refine zs_bipush (pc := 16) (n := 7) (x := 7) C (by decide +kernel) (by decide +kernel) ?_
  refine zs_iload_n (pc := 18) (k := 2) (i := 2) C (by decide +kernel) rfl rfl ?_
  refine zs_iastk (pc := 19) (o := 36) (n := 8) C (by decide) (fun _ _ _ => rfl) (by decide +kernel) rfl ?_
  refine zs_aload_n (pc := 20) (k := 0) (i := 0) C (by decide +kernel) rfl rfl ?_
  refine zs_getR (o' := 36) (pc := 21) (i := 42) (ci := 10) (k := 7) C (by decide +kernel) fl_RX10_42 rfl rfl rfl ?_
  refine zs_iconst (pc := 24) (n := 4) (x := 4) C (by decide +kernel) (by decide +kernel) ?_
  refine zs_iload_n (pc := 25) (k := 1) (i := 1) C (by decide +kernel) rfl rfl ?_
  refine zs_iastk (pc := 26) (o := 36) (n := 8) C (by decide) (fun _ _ _ => rfl) (by decide +kernel) rfl ?_
  refine zs_aload_n (pc := 27) (k := 0) (i := 0) C (by decide +kernel) rfl rfl ?_
  refine zs_getR (o' := 36) (pc := 28) (i := 42) (ci := 10) (k := 7) C (by decide +kernel) fl_RX10_42 rfl rfl rfl ?_
  refine zs_iconst (pc := 31) (n := 2) (x := 2) C (by decide +kernel) (by decide +kernel) ?_
  refine zs_aload_n (pc := 32) (k := 0) (i := 0) C (by decide +kernel) rfl rfl ?_
  refine zs_getR (o' := 27) (pc := 33) (i := 21) (ci := 10) (k := 1) C (by decide +kernel) fl_RX10_21 rfl rfl rfl ?_
  refine zs_iload_n (pc := 36) (k := 3) (i := 3) C (by decide +kernel) rfl rfl ?_
  refine zs_cvRi (pc := 37) (As := [sI a2]) (st := [sI 2, sR 36]) C rfl (c_X5_rainIn l g a2) ml_RX10_100 rfl rfl rfl rfl (Nat.le_of_ble_eq_true rfl) ⟨Nat.le_of_ble_eq_true rfl, Nat.le_of_ble_eq_true rfl⟩ ⟨Nat.le_of_ble_eq_true rfl, Nat.le_of_ble_eq_true rfl⟩ (by decide +kernel) (fun x2 => ?_)
  refine zs_iastk (pc := 40) (o := 36) (n := 8) C (by decide) (fun _ _ _ => rfl) (by decide +kernel) rfl ?_
  refine zs_aload_n (pc := 41) (k := 0) (i := 0) C (by decide +kernel) rfl rfl ?_
  refine zs_getR (o' := 36) (pc := 42) (i := 42) (ci := 10) (k := 7) C (by decide +kernel) fl_RX10_42 rfl rfl rfl ?_
  refine zs_iconst (pc := 45) (n := 3) (x := 3) C (by decide +kernel) (by decide +kernel) ?_
  refine zs_iload_n (pc := 46) (k := 3) (i := 3) C (by decide +kernel) rfl rfl ?_
  refine zs_bipush (pc := 47) (n := 24) (x := 24) C (by decide +kernel) (by decide +kernel) ?_
  refine zs_irem (pc := 49) C (by decide +kernel) (by decide +kernel) ?_
  refine zs_iastk (pc := 50) (o := 36) (n := 8) C (by decide) (fun _ _ _ => rfl) (by decide +kernel) rfl ?_
  refine zs_iload (pc := 51) (i := 4) C (by decide +kernel) rfl ?_
  refine zs_istore (pc := 53) (i := 8) (ls' := [(8, sI a3), (7, sI 0), (6, sI x1), (0, sR 19), (1, sI a0), (2, sI a1), (3, sI a2), (4, sI a3), (5, sI a4)]) C (by decide +kernel) (Nat.le_of_ble_eq_true rfl) rfl ?_
  refine zs_sub (ls' := [(0, sR 19), (5, sI a4), (6, sI x1), (7, sI 0), (8, sI a3)]) ⟨rfl, rfl, rfl, rfl, rfl, trivial⟩ ?_
  refine zs_lp (pc := 55) (fun (t3 : Int × Int) => [(0, sR 19), (5, sI a4), (6, sI x1), (7, sI t3.1), (8, sI t3.2)]) (fun _ => []) (fun K4 hK4 t3 => ?_) BIG (0, a3)
  refine zs_iload (pc := 55) (i := 8) C (by decide +kernel) rfl ?_
  refine zs_iload (pc := 57) (i := 5) C (by decide +kernel) rfl ?_
  refine zs_jn (pJ := 141) (kJ := 0) (sJ := 0) (fun t5 => [(7, sI t3.1)]) (fun t5 => []) (fun t5 => ?_) (fun J6 hJ6 => ?_)
  · refine zs_iload (pc := 141) (i := 7) C (by decide +kernel) rfl ?_
    exact zs_retWi (pc := 143) C hr ⟨Nat.le_of_ble_eq_true rfl, Nat.le_of_ble_eq_true rfl⟩ (by decide +kernel)
  · refine zs_icmp_ge (pc := 59) (off := 82) (tgt := 141) C (by decide +kernel) (by decide) ?_ ?_
    · exact zs_goj (hJ6 ()) ⟨rfl, trivial⟩
    · refine zs_iload (pc := 62) (i := 6) C (by decide +kernel) rfl ?_
      refine zs_if_le (pc := 64) (off := 77) (tgt := 141) C (by decide +kernel) (by decide) ?_ ?_
      · exact zs_goj (hJ6 ()) ⟨rfl, trivial⟩
      · refine zs_aload_n (pc := 67) (k := 0) (i := 0) C (by decide +kernel) rfl rfl ?_
        refine zs_getR (o' := 36) (pc := 68) (i := 42) (ci := 10) (k := 7) C (by decide +kernel) fl_RX10_42 rfl rfl rfl ?_
        refine zs_iconst (pc := 71) (n := 5) (x := 5) C (by decide +kernel) (by decide +kernel) ?_
        refine zs_iload (pc := 72) (i := 8) C (by decide +kernel) rfl ?_
        refine zs_iload (pc := 74) (i := 6) C (by decide +kernel) rfl ?_
        refine zs_chk (fun _ hy => ?_)
        refine zs_irem (pc := 76) C hy (by decide +kernel) ?_
        refine zs_iastk (pc := 77) (o := 36) (n := 8) C (by decide) (fun _ _ _ => rfl) (by decide +kernel) rfl ?_
        refine zs_aload_n (pc := 78) (k := 0) (i := 0) C (by decide +kernel) rfl rfl ?_
        refine zs_getR (o' := 36) (pc := 79) (i := 42) (ci := 10) (k := 7) C (by decide +kernel) fl_RX10_42 rfl rfl rfl ?_
        refine zs_bipush (pc := 82) (n := 6) (x := 6) C (by decide +kernel) (by decide +kernel) ?_
        refine zs_iload (pc := 84) (i := 8) C (by decide +kernel) rfl ?_
        refine zs_iload (pc := 86) (i := 6) C (by decide +kernel) rfl ?_
        refine zs_chk (fun _ hy => ?_)
        refine zs_idiv (pc := 88) C hy (by decide +kernel) ?_
        refine zs_iastk (pc := 89) (o := 36) (n := 8) C (by decide) (fun _ _ _ => rfl) (by decide +kernel) rfl ?_
        refine zs_aload_n (pc := 90) (k := 0) (i := 0) C (by decide +kernel) rfl rfl ?_
        refine zs_getR (o' := 20) (pc := 91) (i := 12) (ci := 10) (k := 0) C (by decide +kernel) fl_RX10_12 rfl rfl rfl ?_
        refine zs_getR (o' := 25) (pc := 94) (i := 113) (ci := 3) (k := 9) C (by decide +kernel) fl_RX10_113 rfl rfl rfl ?_
        refine zs_getI (pc := 97) (i := 88) (ci := 4) (k := 4) C (by decide +kernel) fl_RX10_88 rfl rfl (fun x7 => ?_)
        refine zs_jn (pJ := 135) (kJ := 0) (sJ := 0) (fun t8 => [(0, sR 19), (5, sI a4), (6, sI x1), (7, sI t8), (8, sI t3.2)]) (fun t8 => []) (fun t8 => ?_) (fun J9 hJ9 => ?_)
        · refine zs_iinc (pc := 135) (i := 8) (n := 1) (y := w32 (t3.2 + 1)) (ls' := [(8, sI (w32 (t3.2 + 1))), (0, sR 19), (5, sI a4), (6, sI x1), (7, sI t8)]) C (by decide +kernel) rfl rfl (Nat.le_of_ble_eq_true rfl) rfl ?_
          refine zs_goto (pc := 138) (off := (-83)) (tgt := 55) C (by decide +kernel) (by decide) ?_
          exact zs_goj (hK4 (t8, w32 (t3.2 + 1))) ⟨rfl, rfl, rfl, rfl, rfl, trivial⟩
        · refine zs_jn (pJ := 126) (kJ := 0) (sJ := 0) (fun t10 => [(0, sR 19), (5, sI a4), (6, sI x1), (7, sI t3.1), (8, sI t3.2)]) (fun t10 => []) (fun t10 => ?_) (fun J11 hJ11 => ?_)
          · refine zs_iload (pc := 126) (i := 7) C (by decide +kernel) rfl ?_
            refine zs_iconst (pc := 128) (n := 1) (x := 1) C (by decide +kernel) (by decide +kernel) ?_
            refine zs_iload (pc := 129) (i := 8) C (by decide +kernel) rfl ?_
            refine zs_ishl (pc := 131) C (by decide +kernel) ?_
            refine zs_ior (pc := 132) C (by decide +kernel) ?_
            refine zs_let (fun x12 => ?_)
            refine zs_istore (pc := 133) (i := 7) (ls' := [(7, sI x12), (0, sR 19), (5, sI a4), (6, sI x1), (8, sI t3.2)]) C (by decide +kernel) (Nat.le_of_ble_eq_true rfl) rfl ?_
            exact zs_goj (hJ9 x12) ⟨rfl, rfl, rfl, rfl, rfl, trivial⟩
          · refine zs_if_eq (pc := 100) (off := 26) (tgt := 126) C (by decide +kernel) (by decide) ?_ ?_
            · exact zs_goj (hJ11 ()) ⟨rfl, rfl, rfl, rfl, rfl, trivial⟩
            · refine zs_aload_n (pc := 103) (k := 0) (i := 0) C (by decide +kernel) rfl rfl ?_
              refine zs_getR (o' := 20) (pc := 104) (i := 12) (ci := 10) (k := 0) C (by decide +kernel) fl_RX10_12 rfl rfl rfl ?_
              refine zs_getR (o' := 25) (pc := 107) (i := 113) (ci := 3) (k := 9) C (by decide +kernel) fl_RX10_113 rfl rfl rfl ?_
              refine zs_aload_n (pc := 110) (k := 0) (i := 0) C (by decide +kernel) rfl rfl ?_
              refine zs_getR (o' := 36) (pc := 111) (i := 42) (ci := 10) (k := 7) C (by decide +kernel) fl_RX10_42 rfl rfl rfl ?_
              refine zs_aload_n (pc := 114) (k := 0) (i := 0) C (by decide +kernel) rfl rfl ?_
              refine zs_getR (o' := 37) (pc := 115) (i := 48) (ci := 10) (k := 8) C (by decide +kernel) fl_RX10_48 rfl rfl rfl ?_
              refine zs_cvWl (pc := 118) (As := [sR 36, sR 37]) (st := []) C (fun _ _ _ => rfl) (c_X4_worth l g 25 rfl) ml_RX10_104 rfl rfl rfl rfl (Nat.le_of_ble_eq_true rfl) ⟨Nat.le_of_ble_eq_true rfl, Nat.le_of_ble_eq_true rfl⟩ ⟨Nat.le_of_ble_eq_true rfl, Nat.le_of_ble_eq_true rfl⟩ (by decide +kernel) (fun x13 => ?_)
              refine zs_lconst (pc := 121) (n := 0) (x := 0) C (by decide +kernel) (by decide +kernel) ?_
              refine zs_lcmp_eq (pc := 122) (off := 12) (tgt := 135) C (by decide +kernel) (by decide +kernel) (by decide) ?_ ?_
              · exact zs_goj (hJ9 t3.1) ⟨rfl, rfl, rfl, rfl, rfl, trivial⟩
              · exact zs_goj (hJ11 ()) ⟨rfl, rfl, rfl, rfl, rfl, trivial⟩
set_option maxRecDepth 20000 in
theorem c_X11_may (l : Launch) (g : GC) (hl : l.stackTraces = false) (a0 : Int) (a1 : Int) (a2 : Int) (a3 : Int) : ConT l g yX11_may cX11_may 5 (some .boolean) (rmd 8 5 30) [sR 0, sI a0, sI a1, sI a2, sI a3] (fun mm => fX11_may a0 a1 a2 a3 mm) := by
  refine zs_ofT (by decide +kernel) (Nat.le_of_ble_eq_true rfl) ?_
  intro p e s m args below meth c C hr hE
  replace C : Bd g RX11 cX11_may 5 p s m args meth c := C
  unfold fX11_may
  refine zs_aload_n (pc := 0) (k := 0) (i := 0) C (by decide +kernel) rfl rfl ?_
  refine zs_iload_n (pc := 1) (k := 1) (i := 1) C (by decide +kernel) rfl rfl ?_
  refine zs_cvTv (pc := 2) (As := [sI a0]) (st := []) C hE (c_X11_needPair l g hl a0) ml_RX11_134 rfl rfl rfl rfl (Nat.le_of_ble_eq_true rfl) ⟨Nat.le_of_ble_eq_true rfl, Nat.le_of_ble_eq_true rfl⟩ ⟨Nat.le_of_ble_eq_true rfl, Nat.le_of_ble_eq_true rfl⟩ ⟨Nat.le_of_ble_eq_true rfl, Nat.le_of_ble_eq_true rfl⟩ (by decide +kernel) ?_
  refine zs_aload_n (pc := 5) (k := 0) (i := 0) C (by decide +kernel) rfl rfl ?_
  refine zs_iload_n (pc := 6) (k := 3) (i := 3) C (by decide +kernel) rfl rfl ?_
  refine zs_cvTv (pc := 7) (As := [sI a2]) (st := []) C hE (c_X11_needPlace l g hl a2) ml_RX11_120 rfl rfl rfl rfl (Nat.le_of_ble_eq_true rfl) ⟨Nat.le_of_ble_eq_true rfl, Nat.le_of_ble_eq_true rfl⟩ ⟨Nat.le_of_ble_eq_true rfl, Nat.le_of_ble_eq_true rfl⟩ ⟨Nat.le_of_ble_eq_true rfl, Nat.le_of_ble_eq_true rfl⟩ (by decide +kernel) ?_
  refine zs_aload_n (pc := 10) (k := 0) (i := 0) C (by decide +kernel) rfl rfl ?_
  refine zs_iload_n (pc := 11) (k := 2) (i := 2) C (by decide +kernel) rfl rfl ?_
  refine zs_iconst (pc := 12) (n := 0) (x := 0) C (by decide +kernel) (by decide +kernel) ?_
  refine zs_iconst (pc := 13) (n := 1) (x := 1) C (by decide +kernel) (by decide +kernel) ?_
  refine zs_cvTv (pc := 14) (As := [sI a1, sI 0, sI 1]) (st := []) C hE (c_X11_needWithin l g hl a1 0 1) ml_RX11_179 rfl rfl rfl rfl (Nat.le_of_ble_eq_true rfl) ⟨Nat.le_of_ble_eq_true rfl, Nat.le_of_ble_eq_true rfl⟩ ⟨Nat.le_of_ble_eq_true rfl, Nat.le_of_ble_eq_true rfl⟩ ⟨Nat.le_of_ble_eq_true rfl, Nat.le_of_ble_eq_true rfl⟩ (by decide +kernel) ?_
  refine zs_aload_n (pc := 17) (k := 0) (i := 0) C (by decide +kernel) rfl rfl ?_
  refine zs_iload (pc := 18) (i := 4) C (by decide +kernel) rfl ?_
  refine zs_iconst (pc := 20) (n := 0) (x := 0) C (by decide +kernel) (by decide +kernel) ?_
  refine zs_sipush (pc := 21) (n := 999) (x := 999) C (by decide +kernel) (by decide +kernel) ?_
  refine zs_cvTv (pc := 24) (As := [sI a3, sI 0, sI 999]) (st := []) C hE (c_X11_needWithin l g hl a3 0 999) ml_RX11_179 rfl rfl rfl rfl (Nat.le_of_ble_eq_true rfl) ⟨Nat.le_of_ble_eq_true rfl, Nat.le_of_ble_eq_true rfl⟩ ⟨Nat.le_of_ble_eq_true rfl, Nat.le_of_ble_eq_true rfl⟩ ⟨Nat.le_of_ble_eq_true rfl, Nat.le_of_ble_eq_true rfl⟩ (by decide +kernel) ?_
  refine zs_aload_n (pc := 27) (k := 0) (i := 0) C (by decide +kernel) rfl rfl ?_
  refine zs_getR (o' := 19) (pc := 28) (i := 41) (ci := 11) (k := 6) C (by decide +kernel) fl_RX11_41 rfl rfl rfl ?_
  refine zs_getR (o' := 20) (pc := 31) (i := 114) (ci := 10) (k := 0) C (by decide +kernel) fl_RX11_114 rfl rfl rfl ?_
  refine zs_iload_n (pc := 34) (k := 3) (i := 3) C (by decide +kernel) rfl rfl ?_
  refine zs_cvRi (pc := 35) (As := [sI a2]) (st := []) C rfl (c_X3_isRock l g a2) ml_RX11_123 rfl rfl rfl rfl (Nat.le_of_ble_eq_true rfl) ⟨Nat.le_of_ble_eq_true rfl, Nat.le_of_ble_eq_true rfl⟩ ⟨Nat.le_of_ble_eq_true rfl, Nat.le_of_ble_eq_true rfl⟩ (by decide +kernel) (fun x1 => ?_)
  refine zs_if_eq (pc := 38) (off := 13) (tgt := 51) C (by decide +kernel) (by decide) ?_ ?_
  · refine zs_aload_n (pc := 51) (k := 0) (i := 0) C (by decide +kernel) rfl rfl ?_
    refine zs_getR (o' := 19) (pc := 52) (i := 41) (ci := 11) (k := 6) C (by decide +kernel) fl_RX11_41 rfl rfl rfl ?_
    refine zs_iload_n (pc := 55) (k := 1) (i := 1) C (by decide +kernel) rfl rfl ?_
    refine zs_iload_n (pc := 56) (k := 2) (i := 2) C (by decide +kernel) rfl rfl ?_
    refine zs_aload_n (pc := 57) (k := 0) (i := 0) C (by decide +kernel) rfl rfl ?_
    refine zs_getR (o' := 19) (pc := 58) (i := 41) (ci := 11) (k := 6) C (by decide +kernel) fl_RX11_41 rfl rfl rfl ?_
    refine zs_getR (o' := 27) (pc := 61) (i := 141) (ci := 10) (k := 1) C (by decide +kernel) fl_RX11_141 rfl rfl rfl ?_
    refine zs_getI (pc := 64) (i := 156) (ci := 5) (k := 0) C (by decide +kernel) fl_RX11_156 rfl rfl (fun x2 => ?_)
    refine zs_iload (pc := 67) (i := 4) C (by decide +kernel) rfl ?_
    refine zs_iadd (pc := 69) C (by decide +kernel) ?_
    refine zs_iload_n (pc := 70) (k := 3) (i := 3) C (by decide +kernel) rfl rfl ?_
    refine zs_iload_n (pc := 71) (k := 3) (i := 3) C (by decide +kernel) rfl rfl ?_
    refine zs_iconst (pc := 72) (n := 1) (x := 1) C (by decide +kernel) (by decide +kernel) ?_
    refine zs_iadd (pc := 73) C (by decide +kernel) ?_
    refine zs_cvWi (pc := 74) (As := [sI a0, sI a1, sI (w32 (x2 + a3)), sI a2, sI (w32 (a2 + 1))]) (st := []) C (fun _ _ _ => rfl) rfl (c_X10_lawBits l g a0 a1 (w32 (x2 + a3)) a2 (w32 (a2 + 1))) ml_RX11_188 rfl rfl rfl rfl (Nat.le_of_ble_eq_true rfl) ⟨Nat.le_of_ble_eq_true rfl, Nat.le_of_ble_eq_true rfl⟩ ⟨Nat.le_of_ble_eq_true rfl, Nat.le_of_ble_eq_true rfl⟩ (by decide +kernel) (fun x3 => ?_)
    refine zs_jn (pJ := 85) (kJ := 4) (sJ := 24) (fun t4 => []) (fun t4 => [sI t4]) (fun t4 => ?_) (fun J5 hJ5 => ?_)
    · refine zs_chk (fun _ hx => ?_)
      exact zs_retTz (pc := 85) C hx hr ⟨Nat.le_of_ble_eq_true rfl, Nat.le_of_ble_eq_true rfl⟩ (by decide +kernel)
    · refine zs_if_eq (pc := 77) (off := 7) (tgt := 84) C (by decide +kernel) (by decide) ?_ ?_
      · refine zs_iconst (pc := 84) (n := 0) (x := 0) C (by decide +kernel) (by decide +kernel) ?_
        exact zs_goj (hJ5 0) trivial
      · refine zs_iconst (pc := 80) (n := 1) (x := 1) C (by decide +kernel) (by decide +kernel) ?_
        refine zs_goto (pc := 81) (off := 4) (tgt := 85) C (by decide +kernel) (by decide) ?_
        exact zs_goj (hJ5 1) trivial
  · exact zs_throw (pc := 41) (text := "it is a rock") (ik := 183) (is_ := 185) (ic := 187) (k := 2) C hE hl ⟨by decide, rfl⟩ ⟨by decide +kernel, by decide +kernel⟩ wf_1187 wf_170 (by decide +kernel) ex_RX11_187.1 ex_RX11_187.2 ⟨Nat.le_of_ble_eq_true rfl, Nat.le_of_ble_eq_true rfl, Nat.le_of_ble_eq_true rfl, Nat.le_of_ble_eq_true rfl⟩ ⟨Nat.le_of_ble_eq_true rfl, Nat.le_of_ble_eq_true rfl⟩ (by decide +kernel) (by decide +kernel) (by decide +kernel) (by decide +kernel) (by decide +kernel)
set_option maxRecDepth 20000 in
theorem c_X3_beside (l : Launch) (g : GC) (a0 : Int) (a1 : Int) : ConR l g yX3_beside cX3_beside 4 (some .int) (rmd 2 0 0) [sR 20, sI a0, sI a1] (fun mm => fX3_beside a0 a1 mm) := by
  refine zs_ofR (by decide +kernel) (Nat.le_of_ble_eq_true rfl) ?_
  intro p e s m args below meth c C hr
  replace C : Bd g RX3 cX3_beside 4 p s m args meth c := C
  unfold fX3_beside
  refine zs_aload_n (pc := 0) (k := 0) (i := 0) C (by decide +kernel) rfl rfl ?_
  refine zs_getI (pc := 1) (i := 15) (ci := 3) (k := 1) C (by decide +kernel) fl_RX3_15 rfl rfl (fun x1 => ?_)
  refine zs_iconst (pc := 4) (n := 1) (x := 1) C (by decide +kernel) (by decide +kernel) ?_
  refine zs_icmp_ge (pc := 5) (off := 5) (tgt := 10) C (by decide +kernel) (by decide) ?_ ?_
  · refine zs_iload_n (pc := 10) (k := 1) (i := 1) C (by decide +kernel) rfl rfl ?_
    refine zs_aload_n (pc := 11) (k := 0) (i := 0) C (by decide +kernel) rfl rfl ?_
    refine zs_getI (pc := 12) (i := 15) (ci := 3) (k := 1) C (by decide +kernel) fl_RX3_15 rfl rfl (fun x2 => ?_)
    refine zs_chk (fun _ hy => ?_)
    refine zs_irem (pc := 15) C hy (by decide +kernel) ?_
    refine zs_let (fun x3 => ?_)
    refine zs_istore_n (pc := 16) (k := 3) (i := 3) (ls' := [(3, sI x3), (0, sR 20), (1, sI a0), (2, sI a1)]) C (by decide +kernel) rfl (Nat.le_of_ble_eq_true rfl) rfl ?_
    refine zs_iload_n (pc := 17) (k := 2) (i := 2) C (by decide +kernel) rfl rfl ?_
    refine zs_ite (fun hc0 => ?_) (fun hc0 => ?_)
    · refine zs_tswI (pc := 18) (dflt := 109) (lo := 0) (hi := 4) (offs := #[34, 36, 55, 73, 97]) (len := 34) (i := 0) (off := 34) (tgt := 52) C (by decide +kernel) hc0 (by decide) rfl (by decide) ?_
      refine zs_iload_n (pc := 52) (k := 1) (i := 1) C (by decide +kernel) rfl rfl ?_
      exact zs_retRi (pc := 53) C hr ⟨Nat.le_of_ble_eq_true rfl, Nat.le_of_ble_eq_true rfl⟩ (by decide +kernel)
    · refine zs_ite (fun hc1 => ?_) (fun hc1 => ?_)
      · refine zs_tswI (pc := 18) (dflt := 109) (lo := 0) (hi := 4) (offs := #[34, 36, 55, 73, 97]) (len := 34) (i := 1) (off := 36) (tgt := 54) C (by decide +kernel) hc1 (by decide) rfl (by decide) ?_
        refine zs_iload_n (pc := 54) (k := 1) (i := 1) C (by decide +kernel) rfl rfl ?_
        refine zs_aload_n (pc := 55) (k := 0) (i := 0) C (by decide +kernel) rfl rfl ?_
        refine zs_getI (pc := 56) (i := 15) (ci := 3) (k := 1) C (by decide +kernel) fl_RX3_15 rfl rfl (fun x4 => ?_)
        refine zs_jn (pJ := 72) (kJ := 0) (sJ := 0) (fun t5 => []) (fun t5 => [sI t5]) (fun t5 => ?_) (fun J6 hJ6 => ?_)
        · exact zs_retRi (pc := 72) C hr ⟨Nat.le_of_ble_eq_true rfl, Nat.le_of_ble_eq_true rfl⟩ (by decide +kernel)
        · refine zs_icmp_lt (pc := 59) (off := 12) (tgt := 71) C (by decide +kernel) (by decide) ?_ ?_
          · refine zs_iconst (pc := 71) (n := (-1)) (x := (-1)) C (by decide +kernel) (by decide +kernel) ?_
            exact zs_goj (hJ6 (-1)) trivial
          · refine zs_iload_n (pc := 62) (k := 1) (i := 1) C (by decide +kernel) rfl rfl ?_
            refine zs_aload_n (pc := 63) (k := 0) (i := 0) C (by decide +kernel) rfl rfl ?_
            refine zs_getI (pc := 64) (i := 15) (ci := 3) (k := 1) C (by decide +kernel) fl_RX3_15 rfl rfl (fun x7 => ?_)
            refine zs_isub (pc := 67) C (by decide +kernel) ?_
            refine zs_goto (pc := 68) (off := 4) (tgt := 72) C (by decide +kernel) (by decide) ?_
            exact zs_goj (hJ6 (w32 (a0 - x7))) trivial
      · refine zs_ite (fun hc2 => ?_) (fun hc2 => ?_)
        · refine zs_tswI (pc := 18) (dflt := 109) (lo := 0) (hi := 4) (offs := #[34, 36, 55, 73, 97]) (len := 34) (i := 2) (off := 55) (tgt := 73) C (by decide +kernel) hc2 (by decide) rfl (by decide) ?_
          refine zs_iload_n (pc := 73) (k := 3) (i := 3) C (by decide +kernel) rfl rfl ?_
          refine zs_aload_n (pc := 74) (k := 0) (i := 0) C (by decide +kernel) rfl rfl ?_
          refine zs_getI (pc := 75) (i := 15) (ci := 3) (k := 1) C (by decide +kernel) fl_RX3_15 rfl rfl (fun x8 => ?_)
          refine zs_iconst (pc := 78) (n := 1) (x := 1) C (by decide +kernel) (by decide +kernel) ?_
          refine zs_isub (pc := 79) C (by decide +kernel) ?_
          refine zs_jn (pJ := 90) (kJ := 0) (sJ := 0) (fun t9 => []) (fun t9 => [sI t9]) (fun t9 => ?_) (fun J10 hJ10 => ?_)
          · exact zs_retRi (pc := 90) C hr ⟨Nat.le_of_ble_eq_true rfl, Nat.le_of_ble_eq_true rfl⟩ (by decide +kernel)
          · refine zs_icmp_ge (pc := 80) (off := 9) (tgt := 89) C (by decide +kernel) (by decide) ?_ ?_
            · refine zs_iconst (pc := 89) (n := (-1)) (x := (-1)) C (by decide +kernel) (by decide +kernel) ?_
              exact zs_goj (hJ10 (-1)) trivial
            · refine zs_iload_n (pc := 83) (k := 1) (i := 1) C (by decide +kernel) rfl rfl ?_
              refine zs_iconst (pc := 84) (n := 1) (x := 1) C (by decide +kernel) (by decide +kernel) ?_
              refine zs_iadd (pc := 85) C (by decide +kernel) ?_
              refine zs_goto (pc := 86) (off := 4) (tgt := 90) C (by decide +kernel) (by decide) ?_
              exact zs_goj (hJ10 (w32 (a0 + 1))) trivial
        · refine zs_ite (fun hc3 => ?_) (fun hc3 => ?_)
          · refine zs_tswI (pc := 18) (dflt := 109) (lo := 0) (hi := 4) (offs := #[34, 36, 55, 73, 97]) (len := 34) (i := 3) (off := 73) (tgt := 91) C (by decide +kernel) hc3 (by decide) rfl (by decide) ?_
            refine zs_iload_n (pc := 91) (k := 1) (i := 1) C (by decide +kernel) rfl rfl ?_
            refine zs_aload_n (pc := 92) (k := 0) (i := 0) C (by decide +kernel) rfl rfl ?_
            refine zs_getI (pc := 93) (i := 15) (ci := 3) (k := 1) C (by decide +kernel) fl_RX3_15 rfl rfl (fun x11 => ?_)
            refine zs_iadd (pc := 96) C (by decide +kernel) ?_
            refine zs_aload_n (pc := 97) (k := 0) (i := 0) C (by decide +kernel) rfl rfl ?_
            refine zs_cvRi (pc := 98) (As := []) (st := [sI (w32 (a0 + x11))]) C rfl (c_X3_places l g ) ml_RX3_60 rfl rfl rfl rfl (Nat.le_of_ble_eq_true rfl) ⟨Nat.le_of_ble_eq_true rfl, Nat.le_of_ble_eq_true rfl⟩ ⟨Nat.le_of_ble_eq_true rfl, Nat.le_of_ble_eq_true rfl⟩ (by decide +kernel) (fun x12 => ?_)
            refine zs_jn (pJ := 114) (kJ := 0) (sJ := 0) (fun t13 => []) (fun t13 => [sI t13]) (fun t13 => ?_) (fun J14 hJ14 => ?_)
            · exact zs_retRi (pc := 114) C hr ⟨Nat.le_of_ble_eq_true rfl, Nat.le_of_ble_eq_true rfl⟩ (by decide +kernel)
            · refine zs_icmp_ge (pc := 101) (off := 12) (tgt := 113) C (by decide +kernel) (by decide) ?_ ?_
              · refine zs_iconst (pc := 113) (n := (-1)) (x := (-1)) C (by decide +kernel) (by decide +kernel) ?_
                exact zs_goj (hJ14 (-1)) trivial
              · refine zs_iload_n (pc := 104) (k := 1) (i := 1) C (by decide +kernel) rfl rfl ?_
                refine zs_aload_n (pc := 105) (k := 0) (i := 0) C (by decide +kernel) rfl rfl ?_
                refine zs_getI (pc := 106) (i := 15) (ci := 3) (k := 1) C (by decide +kernel) fl_RX3_15 rfl rfl (fun x15 => ?_)
                refine zs_iadd (pc := 109) C (by decide +kernel) ?_
                refine zs_goto (pc := 110) (off := 4) (tgt := 114) C (by decide +kernel) (by decide) ?_
                exact zs_goj (hJ14 (w32 (a0 + x15))) trivial
          · refine zs_ite (fun hc4 => ?_) (fun hc4 => ?_)
            · refine zs_tswI (pc := 18) (dflt := 109) (lo := 0) (hi := 4) (offs := #[34, 36, 55, 73, 97]) (len := 34) (i := 4) (off := 97) (tgt := 115) C (by decide +kernel) hc4 (by decide) rfl (by decide) ?_
              refine zs_iload_n (pc := 115) (k := 3) (i := 3) C (by decide +kernel) rfl rfl ?_
              refine zs_jn (pJ := 126) (kJ := 0) (sJ := 0) (fun t16 => []) (fun t16 => [sI t16]) (fun t16 => ?_) (fun J17 hJ17 => ?_)
              · exact zs_retRi (pc := 126) C hr ⟨Nat.le_of_ble_eq_true rfl, Nat.le_of_ble_eq_true rfl⟩ (by decide +kernel)
              · refine zs_if_le (pc := 116) (off := 9) (tgt := 125) C (by decide +kernel) (by decide) ?_ ?_
                · refine zs_iconst (pc := 125) (n := (-1)) (x := (-1)) C (by decide +kernel) (by decide +kernel) ?_
                  exact zs_goj (hJ17 (-1)) trivial
                · refine zs_iload_n (pc := 119) (k := 1) (i := 1) C (by decide +kernel) rfl rfl ?_
                  refine zs_iconst (pc := 120) (n := 1) (x := 1) C (by decide +kernel) (by decide +kernel) ?_
                  refine zs_isub (pc := 121) C (by decide +kernel) ?_
                  refine zs_goto (pc := 122) (off := 4) (tgt := 126) C (by decide +kernel) (by decide) ?_
                  exact zs_goj (hJ17 (w32 (a0 - 1))) trivial
            · refine zs_tswD (pc := 18) (dflt := 109) (lo := 0) (hi := 4) (offs := #[34, 36, 55, 73, 97]) (len := 34) (tgt := 127) C (by decide +kernel) (by omega) (by decide) ?_
              refine zs_iconst (pc := 127) (n := (-1)) (x := (-1)) C (by decide +kernel) (by decide +kernel) ?_
              exact zs_retRi (pc := 128) C hr ⟨Nat.le_of_ble_eq_true rfl, Nat.le_of_ble_eq_true rfl⟩ (by decide +kernel)
  · refine zs_iconst (pc := 8) (n := (-1)) (x := (-1)) C (by decide +kernel) (by decide +kernel) ?_
    exact zs_retRi (pc := 9) C hr ⟨Nat.le_of_ble_eq_true rfl, Nat.le_of_ble_eq_true rfl⟩ (by decide +kernel)
set_option maxRecDepth 20000 in
theorem c_X10_turned (l : Launch) (g : GC) (a0 : Int) (a1 : Int) (a2 : Int) : ConW l g yX10_turned cX10_turned 7 (some .int) (rmd 3 0 0) [sR 19, sI a0, sI a1, sI a2] (fun mm => fX10_turned a0 a1 a2 mm) := by
  refine zs_ofW (by decide +kernel) (Nat.le_of_ble_eq_true rfl) ?_
  intro p e s m args below meth c C hr
  replace C : Bd g RX10 cX10_turned 7 p s m args meth c := C
  unfold fX10_turned
  refine zs_iload_n (pc := 0) (k := 2) (i := 2) C (by decide +kernel) rfl rfl ?_
  refine zs_jn (pJ := 25) (kJ := 0) (sJ := 0) (fun t1 => [(0, sR 19), (1, sI a0), (2, sI a1), (3, sI a2)]) (fun t1 => [sI t1]) (fun t1 => ?_) (fun J2 hJ2 => ?_)
  · refine zs_istore (pc := 25) (i := 4) (ls' := [(4, sI t1), (0, sR 19), (1, sI a0), (2, sI a1), (3, sI a2)]) C (by decide +kernel) (Nat.le_of_ble_eq_true rfl) rfl ?_
    refine zs_aload_n (pc := 27) (k := 0) (i := 0) C (by decide +kernel) rfl rfl ?_
    refine zs_getR (o' := 20) (pc := 28) (i := 12) (ci := 10) (k := 0) C (by decide +kernel) fl_RX10_12 rfl rfl rfl ?_
    refine zs_iload (pc := 31) (i := 4) C (by decide +kernel) rfl ?_
    refine zs_iload_n (pc := 33) (k := 3) (i := 3) C (by decide +kernel) rfl rfl ?_
    refine zs_cvRi (pc := 34) (As := [sI t1, sI a2]) (st := []) C rfl (c_X3_beside l g t1 a2) ml_RX10_132 rfl rfl rfl rfl (Nat.le_of_ble_eq_true rfl) ⟨Nat.le_of_ble_eq_true rfl, Nat.le_of_ble_eq_true rfl⟩ ⟨Nat.le_of_ble_eq_true rfl, Nat.le_of_ble_eq_true rfl⟩ (by decide +kernel) (fun x3 => ?_)
    refine zs_istore (pc := 37) (i := 5) (ls' := [(5, sI x3), (4, sI t1), (0, sR 19), (1, sI a0), (2, sI a1), (3, sI a2)]) C (by decide +kernel) (Nat.le_of_ble_eq_true rfl) rfl ?_
    refine zs_iload_n (pc := 39) (k := 3) (i := 3) C (by decide +kernel) rfl rfl ?_
    refine zs_jn (pJ := 49) (kJ := 0) (sJ := 0) (fun t4 => [(5, sI x3)]) (fun t4 => []) (fun t4 => ?_) (fun J5 hJ5 => ?_)
    · refine zs_iload (pc := 49) (i := 5) C (by decide +kernel) rfl ?_
      exact zs_retWi (pc := 51) C hr ⟨Nat.le_of_ble_eq_true rfl, Nat.le_of_ble_eq_true rfl⟩ (by decide +kernel)
    · refine zs_if_eq (pc := 40) (off := 9) (tgt := 49) C (by decide +kernel) (by decide) ?_ ?_
      · exact zs_goj (hJ5 ()) ⟨rfl, trivial⟩
      · refine zs_iload (pc := 43) (i := 5) C (by decide +kernel) rfl ?_
        refine zs_iconst (pc := 45) (n := (-1)) (x := (-1)) C (by decide +kernel) (by decide +kernel) ?_
        refine zs_icmp_ne (pc := 46) (off := 6) (tgt := 52) C (by decide +kernel) (by decide) ?_ ?_
        · refine zs_aload_n (pc := 52) (k := 0) (i := 0) C (by decide +kernel) rfl rfl ?_
          refine zs_getR (o' := 20) (pc := 53) (i := 12) (ci := 10) (k := 0) C (by decide +kernel) fl_RX10_12 rfl rfl rfl ?_
          refine zs_iload (pc := 56) (i := 5) C (by decide +kernel) rfl ?_
          refine zs_cvRi (pc := 58) (As := [sI x3]) (st := []) C rfl (c_X3_isRock l g x3) ml_RX10_135 rfl rfl rfl rfl (Nat.le_of_ble_eq_true rfl) ⟨Nat.le_of_ble_eq_true rfl, Nat.le_of_ble_eq_true rfl⟩ ⟨Nat.le_of_ble_eq_true rfl, Nat.le_of_ble_eq_true rfl⟩ (by decide +kernel) (fun x6 => ?_)
          refine zs_jn (pJ := 93) (kJ := 0) (sJ := 0) (fun t7 => [(5, sI x3)]) (fun t7 => [sI t7]) (fun t7 => ?_) (fun J8 hJ8 => ?_)
          · refine zs_istore (pc := 93) (i := 6) (ls' := [(6, sI t7), (5, sI x3)]) C (by decide +kernel) (Nat.le_of_ble_eq_true rfl) rfl ?_
            refine zs_iload (pc := 95) (i := 6) C (by decide +kernel) rfl ?_
            refine zs_jn (pJ := 106) (kJ := 0) (sJ := 0) (fun t9 => []) (fun t9 => [sI t9]) (fun t9 => ?_) (fun J10 hJ10 => ?_)
            · exact zs_retWi (pc := 106) C hr ⟨Nat.le_of_ble_eq_true rfl, Nat.le_of_ble_eq_true rfl⟩ (by decide +kernel)
            · refine zs_if_eq (pc := 97) (off := 8) (tgt := 105) C (by decide +kernel) (by decide) ?_ ?_
              · refine zs_iconst (pc := 105) (n := (-1)) (x := (-1)) C (by decide +kernel) (by decide +kernel) ?_
                exact zs_goj (hJ10 (-1)) trivial
              · refine zs_iload (pc := 100) (i := 5) C (by decide +kernel) rfl ?_
                refine zs_goto (pc := 102) (off := 4) (tgt := 106) C (by decide +kernel) (by decide) ?_
                exact zs_goj (hJ10 x3) trivial
          · refine zs_jn (pJ := 92) (kJ := 0) (sJ := 0) (fun t11 => [(5, sI x3)]) (fun t11 => []) (fun t11 => ?_) (fun J12 hJ12 => ?_)
            · refine zs_iconst (pc := 92) (n := 0) (x := 0) C (by decide +kernel) (by decide +kernel) ?_
              exact zs_goj (hJ8 0) ⟨rfl, trivial⟩
            · refine zs_if_ne (pc := 61) (off := 31) (tgt := 92) C (by decide +kernel) (by decide) ?_ ?_
              · exact zs_goj (hJ12 ()) ⟨rfl, trivial⟩
              · refine zs_aload_n (pc := 64) (k := 0) (i := 0) C (by decide +kernel) rfl rfl ?_
                refine zs_iload_n (pc := 65) (k := 1) (i := 1) C (by decide +kernel) rfl rfl ?_
                refine zs_iload_n (pc := 66) (k := 2) (i := 2) C (by decide +kernel) rfl rfl ?_
                refine zs_aload_n (pc := 67) (k := 0) (i := 0) C (by decide +kernel) rfl rfl ?_
                refine zs_getR (o' := 27) (pc := 68) (i := 21) (ci := 10) (k := 1) C (by decide +kernel) fl_RX10_21 rfl rfl rfl ?_
                refine zs_getI (pc := 71) (i := 122) (ci := 5) (k := 0) C (by decide +kernel) fl_RX10_122 rfl rfl (fun x13 => ?_)
                refine zs_iconst (pc := 74) (n := 1) (x := 1) C (by decide +kernel) (by decide +kernel) ?_
                refine zs_iadd (pc := 75) C (by decide +kernel) ?_
                refine zs_iload (pc := 76) (i := 5) C (by decide +kernel) rfl ?_
                refine zs_iload (pc := 78) (i := 5) C (by decide +kernel) rfl ?_
                refine zs_iconst (pc := 80) (n := 1) (x := 1) C (by decide +kernel) (by decide +kernel) ?_
                refine zs_iadd (pc := 81) C (by decide +kernel) ?_
                refine zs_cvWi (pc := 82) (As := [sI a0, sI a1, sI (w32 (x13 + 1)), sI x3, sI (w32 (x3 + 1))]) (st := []) C (fun _ _ _ => rfl) rfl (c_X10_lawBits l g a0 a1 (w32 (x13 + 1)) x3 (w32 (x3 + 1))) ml_RX10_138 rfl rfl rfl rfl (Nat.le_of_ble_eq_true rfl) ⟨Nat.le_of_ble_eq_true rfl, Nat.le_of_ble_eq_true rfl⟩ ⟨Nat.le_of_ble_eq_true rfl, Nat.le_of_ble_eq_true rfl⟩ (by decide +kernel) (fun x14 => ?_)
                refine zs_if_eq (pc := 85) (off := 7) (tgt := 92) C (by decide +kernel) (by decide) ?_ ?_
                · exact zs_goj (hJ12 ()) ⟨rfl, trivial⟩
                · refine zs_iconst (pc := 88) (n := 1) (x := 1) C (by decide +kernel) (by decide +kernel) ?_
                  refine zs_goto (pc := 89) (off := 4) (tgt := 93) C (by decide +kernel) (by decide) ?_
                  exact zs_goj (hJ8 1) ⟨rfl, trivial⟩
        · exact zs_goj (hJ5 ()) ⟨rfl, trivial⟩
  · refine zs_if_ne (pc := 1) (off := 15) (tgt := 16) C (by decide +kernel) (by decide) ?_ ?_
    · refine zs_aload_n (pc := 16) (k := 0) (i := 0) C (by decide +kernel) rfl rfl ?_
      refine zs_getR (o' := 27) (pc := 17) (i := 21) (ci := 10) (k := 1) C (by decide +kernel) fl_RX10_21 rfl rfl rfl ?_
      refine zs_getR (o' := 29) (pc := 20) (i := 71) (ci := 5) (k := 5) C (by decide +kernel) fl_RX10_71 rfl rfl rfl ?_
      refine zs_iload_n (pc := 23) (k := 1) (i := 1) C (by decide +kernel) rfl rfl ?_
      refine zs_iald (pc := 24) (o := 29) (n := 4) C (by decide +kernel) rfl (fun hinx15 x15 => ?_)
      exact zs_goj (hJ2 x15) ⟨rfl, rfl, rfl, rfl, trivial⟩
    · refine zs_aload_n (pc := 4) (k := 0) (i := 0) C (by decide +kernel) rfl rfl ?_
      refine zs_getR (o' := 27) (pc := 5) (i := 21) (ci := 10) (k := 1) C (by decide +kernel) fl_RX10_21 rfl rfl rfl ?_
      refine zs_getR (o' := 28) (pc := 8) (i := 68) (ci := 5) (k := 4) C (by decide +kernel) fl_RX10_68 rfl rfl rfl ?_
      refine zs_iload_n (pc := 11) (k := 1) (i := 1) C (by decide +kernel) rfl rfl ?_
      refine zs_iald (pc := 12) (o := 28) (n := 4) C (by decide +kernel) rfl (fun hinx16 x16 => ?_)
      refine zs_goto (pc := 13) (off := 12) (tgt := 25) C (by decide +kernel) (by decide) ?_
      exact zs_goj (hJ2 x16) ⟨rfl, rfl, rfl, rfl, trivial⟩
set_option maxRecDepth 20000 in
theorem c_X10_whyNoStep (l : Launch) (g : GC) (a0 : Int) (a1 : Int) (a2 : Int) : ConW l g yX10_whyNoStep cX10_whyNoStep 7 (some .int) (rmd 4 0 0) [sR 19, sI a0, sI a1, sI a2] (fun mm => fX10_whyNoStep a0 a1 a2 mm) := by
  refine zs_ofW (by decide +kernel) (Nat.le_of_ble_eq_true rfl) ?_
  intro p e s m args below meth c C hr
  replace C : Bd g RX10 cX10_whyNoStep 7 p s m args meth c := C
  unfold fX10_whyNoStep
  refine zs_iload_n (pc := 0) (k := 1) (i := 1) C (by decide +kernel) rfl rfl ?_
  refine zs_jn (pJ := 20) (kJ := 0) (sJ := 0) (fun t1 => []) (fun t1 => []) (fun t1 => ?_) (fun J2 hJ2 => ?_)
  · refine zs_iconst (pc := 20) (n := 1) (x := 1) C (by decide +kernel) (by decide +kernel) ?_
    exact zs_retWi (pc := 21) C hr ⟨Nat.le_of_ble_eq_true rfl, Nat.le_of_ble_eq_true rfl⟩ (by decide +kernel)
  · refine zs_if_lt (pc := 1) (off := 19) (tgt := 20) C (by decide +kernel) (by decide) ?_ ?_
    · exact zs_goj (hJ2 ()) trivial
    · refine zs_iload_n (pc := 4) (k := 1) (i := 1) C (by decide +kernel) rfl rfl ?_
      refine zs_aload_n (pc := 5) (k := 0) (i := 0) C (by decide +kernel) rfl rfl ?_
      refine zs_getR (o' := 20) (pc := 6) (i := 12) (ci := 10) (k := 0) C (by decide +kernel) fl_RX10_12 rfl rfl rfl ?_
      refine zs_getI (pc := 9) (i := 65) (ci := 3) (k := 5) C (by decide +kernel) fl_RX10_65 rfl rfl (fun x3 => ?_)
      refine zs_icmp_ge (pc := 12) (off := 8) (tgt := 20) C (by decide +kernel) (by decide) ?_ ?_
      · exact zs_goj (hJ2 ()) trivial
      · refine zs_iload_n (pc := 15) (k := 1) (i := 1) C (by decide +kernel) rfl rfl ?_
        refine zs_iconst (pc := 16) (n := 4) (x := 4) C (by decide +kernel) (by decide +kernel) ?_
        refine zs_icmp_lt (pc := 17) (off := 5) (tgt := 22) C (by decide +kernel) (by decide) ?_ ?_
        · refine zs_iload_n (pc := 22) (k := 2) (i := 2) C (by decide +kernel) rfl rfl ?_
          refine zs_jn (pJ := 40) (kJ := 0) (sJ := 0) (fun t4 => []) (fun t4 => []) (fun t4 => ?_) (fun J5 hJ5 => ?_)
          · refine zs_iconst (pc := 40) (n := 1) (x := 1) C (by decide +kernel) (by decide +kernel) ?_
            exact zs_retWi (pc := 41) C hr ⟨Nat.le_of_ble_eq_true rfl, Nat.le_of_ble_eq_true rfl⟩ (by decide +kernel)
          · refine zs_if_lt (pc := 23) (off := 17) (tgt := 40) C (by decide +kernel) (by decide) ?_ ?_
            · exact zs_goj (hJ5 ()) trivial
            · refine zs_iload_n (pc := 26) (k := 2) (i := 2) C (by decide +kernel) rfl rfl ?_
              refine zs_iconst (pc := 27) (n := 5) (x := 5) C (by decide +kernel) (by decide +kernel) ?_
              refine zs_icmp_ge (pc := 28) (off := 12) (tgt := 40) C (by decide +kernel) (by decide) ?_ ?_
              · exact zs_goj (hJ5 ()) trivial
              · refine zs_iload_n (pc := 31) (k := 3) (i := 3) C (by decide +kernel) rfl rfl ?_
                refine zs_if_lt (pc := 32) (off := 8) (tgt := 40) C (by decide +kernel) (by decide) ?_ ?_
                · exact zs_goj (hJ5 ()) trivial
                · refine zs_iload_n (pc := 35) (k := 3) (i := 3) C (by decide +kernel) rfl rfl ?_
                  refine zs_iconst (pc := 36) (n := 5) (x := 5) C (by decide +kernel) (by decide +kernel) ?_
                  refine zs_icmp_lt (pc := 37) (off := 5) (tgt := 42) C (by decide +kernel) (by decide) ?_ ?_
                  · refine zs_aload_n (pc := 42) (k := 0) (i := 0) C (by decide +kernel) rfl rfl ?_
                    refine zs_iload_n (pc := 43) (k := 1) (i := 1) C (by decide +kernel) rfl rfl ?_
                    refine zs_iconst (pc := 44) (n := 0) (x := 0) C (by decide +kernel) (by decide +kernel) ?_
                    refine zs_iload_n (pc := 45) (k := 2) (i := 2) C (by decide +kernel) rfl rfl ?_
                    refine zs_cvWi (pc := 46) (As := [sI a0, sI 0, sI a1]) (st := []) C (fun _ _ _ => rfl) rfl (c_X10_turned l g a0 0 a1) ml_RX10_142 rfl rfl rfl rfl (Nat.le_of_ble_eq_true rfl) ⟨Nat.le_of_ble_eq_true rfl, Nat.le_of_ble_eq_true rfl⟩ ⟨Nat.le_of_ble_eq_true rfl, Nat.le_of_ble_eq_true rfl⟩ (by decide +kernel) (fun x6 => ?_)
                    refine zs_istore (pc := 49) (i := 4) (ls' := [(4, sI x6), (0, sR 19), (1, sI a0), (2, sI a1), (3, sI a2)]) C (by decide +kernel) (Nat.le_of_ble_eq_true rfl) rfl ?_
                    refine zs_aload_n (pc := 51) (k := 0) (i := 0) C (by decide +kernel) rfl rfl ?_
                    refine zs_iload_n (pc := 52) (k := 1) (i := 1) C (by decide +kernel) rfl rfl ?_
                    refine zs_iconst (pc := 53) (n := 1) (x := 1) C (by decide +kernel) (by decide +kernel) ?_
                    refine zs_iload_n (pc := 54) (k := 3) (i := 3) C (by decide +kernel) rfl rfl ?_
                    refine zs_cvWi (pc := 55) (As := [sI a0, sI 1, sI a2]) (st := []) C (fun _ _ _ => rfl) rfl (c_X10_turned l g a0 1 a2) ml_RX10_142 rfl rfl rfl rfl (Nat.le_of_ble_eq_true rfl) ⟨Nat.le_of_ble_eq_true rfl, Nat.le_of_ble_eq_true rfl⟩ ⟨Nat.le_of_ble_eq_true rfl, Nat.le_of_ble_eq_true rfl⟩ (by decide +kernel) (fun x7 => ?_)
                    refine zs_istore (pc := 58) (i := 5) (ls' := [(5, sI x7), (4, sI x6), (0, sR 19), (1, sI a0), (2, sI a1), (3, sI a2)]) C (by decide +kernel) (Nat.le_of_ble_eq_true rfl) rfl ?_
                    refine zs_iload (pc := 60) (i := 4) C (by decide +kernel) rfl ?_
                    refine zs_iconst (pc := 62) (n := (-1)) (x := (-1)) C (by decide +kernel) (by decide +kernel) ?_
                    refine zs_jn (pJ := 72) (kJ := 0) (sJ := 0) (fun t8 => []) (fun t8 => []) (fun t8 => ?_) (fun J9 hJ9 => ?_)
                    · refine zs_iconst (pc := 72) (n := 2) (x := 2) C (by decide +kernel) (by decide +kernel) ?_
                      exact zs_retWi (pc := 73) C hr ⟨Nat.le_of_ble_eq_true rfl, Nat.le_of_ble_eq_true rfl⟩ (by decide +kernel)
                    · refine zs_icmp_eq (pc := 63) (off := 9) (tgt := 72) C (by decide +kernel) (by decide) ?_ ?_
                      · exact zs_goj (hJ9 ()) trivial
                      · refine zs_iload (pc := 66) (i := 5) C (by decide +kernel) rfl ?_
                        refine zs_iconst (pc := 68) (n := (-1)) (x := (-1)) C (by decide +kernel) (by decide +kernel) ?_
                        refine zs_icmp_ne (pc := 69) (off := 5) (tgt := 74) C (by decide +kernel) (by decide) ?_ ?_
                        · refine zs_aload_n (pc := 74) (k := 0) (i := 0) C (by decide +kernel) rfl rfl ?_
                          refine zs_getR (o' := 27) (pc := 75) (i := 21) (ci := 10) (k := 1) C (by decide +kernel) fl_RX10_21 rfl rfl rfl ?_
                          refine zs_iload_n (pc := 78) (k := 1) (i := 1) C (by decide +kernel) rfl rfl ?_
                          refine zs_cvRi (pc := 79) (As := [sI a0]) (st := []) C rfl (c_X5_isParted l g a0) ml_RX10_116 rfl rfl rfl rfl (Nat.le_of_ble_eq_true rfl) ⟨Nat.le_of_ble_eq_true rfl, Nat.le_of_ble_eq_true rfl⟩ ⟨Nat.le_of_ble_eq_true rfl, Nat.le_of_ble_eq_true rfl⟩ (by decide +kernel) (fun x10 => ?_)
                          refine zs_jn (pJ := 118) (kJ := 0) (sJ := 0) (fun t11 => []) (fun t11 => [sI t11]) (fun t11 => ?_) (fun J12 hJ12 => ?_)
                          · refine zs_istore (pc := 118) (i := 6) (ls' := [(6, sI t11)]) C (by decide +kernel) (Nat.le_of_ble_eq_true rfl) rfl ?_
                            refine zs_iload (pc := 120) (i := 6) C (by decide +kernel) rfl ?_
                            refine zs_jn (pJ := 130) (kJ := 0) (sJ := 0) (fun t13 => []) (fun t13 => [sI t13]) (fun t13 => ?_) (fun J14 hJ14 => ?_)
                            · exact zs_retWi (pc := 130) C hr ⟨Nat.le_of_ble_eq_true rfl, Nat.le_of_ble_eq_true rfl⟩ (by decide +kernel)
                            · refine zs_if_eq (pc := 122) (off := 7) (tgt := 129) C (by decide +kernel) (by decide) ?_ ?_
                              · refine zs_iconst (pc := 129) (n := 3) (x := 3) C (by decide +kernel) (by decide +kernel) ?_
                                exact zs_goj (hJ14 3) trivial
                              · refine zs_iconst (pc := 125) (n := 0) (x := 0) C (by decide +kernel) (by decide +kernel) ?_
                                refine zs_goto (pc := 126) (off := 4) (tgt := 130) C (by decide +kernel) (by decide) ?_
                                exact zs_goj (hJ14 0) trivial
                          · refine zs_jn (pJ := 113) (kJ := 0) (sJ := 0) (fun t15 => []) (fun t15 => []) (fun t15 => ?_) (fun J16 hJ16 => ?_)
                            · refine zs_iconst (pc := 113) (n := 1) (x := 1) C (by decide +kernel) (by decide +kernel) ?_
                              refine zs_goto (pc := 114) (off := 4) (tgt := 118) C (by decide +kernel) (by decide) ?_
                              exact zs_goj (hJ12 1) trivial
                            · refine zs_if_ne (pc := 82) (off := 31) (tgt := 113) C (by decide +kernel) (by decide) ?_ ?_
                              · exact zs_goj (hJ16 ()) trivial
                              · refine zs_aload_n (pc := 85) (k := 0) (i := 0) C (by decide +kernel) rfl rfl ?_
                                refine zs_getR (o' := 20) (pc := 86) (i := 12) (ci := 10) (k := 0) C (by decide +kernel) fl_RX10_12 rfl rfl rfl ?_
                                refine zs_iload (pc := 89) (i := 4) C (by decide +kernel) rfl ?_
                                refine zs_iload (pc := 91) (i := 5) C (by decide +kernel) rfl ?_
                                refine zs_cvRi (pc := 93) (As := [sI x6, sI x7]) (st := []) C rfl (c_X3_apart l g x6 x7) ml_RX10_74 rfl rfl rfl rfl (Nat.le_of_ble_eq_true rfl) ⟨Nat.le_of_ble_eq_true rfl, Nat.le_of_ble_eq_true rfl⟩ ⟨Nat.le_of_ble_eq_true rfl, Nat.le_of_ble_eq_true rfl⟩ (by decide +kernel) (fun x17 => ?_)
                                refine zs_aload_n (pc := 96) (k := 0) (i := 0) C (by decide +kernel) rfl rfl ?_
                                refine zs_iload_n (pc := 97) (k := 1) (i := 1) C (by decide +kernel) rfl rfl ?_
                                refine zs_aload_n (pc := 98) (k := 0) (i := 0) C (by decide +kernel) rfl rfl ?_
                                refine zs_getR (o' := 27) (pc := 99) (i := 21) (ci := 10) (k := 1) C (by decide +kernel) fl_RX10_21 rfl rfl rfl ?_
                                refine zs_getI (pc := 102) (i := 122) (ci := 5) (k := 0) C (by decide +kernel) fl_RX10_122 rfl rfl (fun x18 => ?_)
                                refine zs_iconst (pc := 105) (n := 1) (x := 1) C (by decide +kernel) (by decide +kernel) ?_
                                refine zs_iadd (pc := 106) C (by decide +kernel) ?_
                                refine zs_cvWi (pc := 107) (As := [sI a0, sI (w32 (x18 + 1))]) (st := [sI x17]) C (fun _ _ _ => rfl) rfl (c_X10_ropeIn l g a0 (w32 (x18 + 1))) ml_RX10_145 rfl rfl rfl rfl (Nat.le_of_ble_eq_true rfl) ⟨Nat.le_of_ble_eq_true rfl, Nat.le_of_ble_eq_true rfl⟩ ⟨Nat.le_of_ble_eq_true rfl, Nat.le_of_ble_eq_true rfl⟩ (by decide +kernel) (fun x19 => ?_)
                                refine zs_icmp_gt (pc := 110) (off := 7) (tgt := 117) C (by decide +kernel) (by decide) ?_ ?_
                                · refine zs_iconst (pc := 117) (n := 0) (x := 0) C (by decide +kernel) (by decide +kernel) ?_
                                  exact zs_goj (hJ12 0) trivial
                                · exact zs_goj (hJ16 ()) trivial
                        · exact zs_goj (hJ9 ()) trivial
                  · exact zs_goj (hJ5 ()) trivial
        · exact zs_goj (hJ2 ()) trivial
set_option maxRecDepth 20000 in
theorem c_X10_remember (l : Launch) (g : GC)  : ConV l g yX10_remember cX10_remember 1 (rmd 2 0 0) [sR 19] (fun mm => fX10_remember  mm) := by
  refine zs_ofV (by decide +kernel) (Nat.le_of_ble_eq_true rfl) ?_
  intro p e s m args below meth c C hr
  replace C : Bd g RX10 cX10_remember 1 p s m args meth c := C
  unfold fX10_remember
  refine zs_aload_n (pc := 0) (k := 0) (i := 0) C (by decide +kernel) rfl rfl ?_
  refine zs_aload_n (pc := 1) (k := 0) (i := 0) C (by decide +kernel) rfl rfl ?_
  refine zs_getI (pc := 2) (i := 32) (ci := 10) (k := 4) C (by decide +kernel) fl_RX10_32 rfl rfl (fun x1 => ?_)
  refine zs_iconst (pc := 5) (n := 1) (x := 1) C (by decide +kernel) (by decide +kernel) ?_
  refine zs_iadd (pc := 6) C (by decide +kernel) ?_
  refine zs_bipush (pc := 7) (n := 10) (x := 10) C (by decide +kernel) (by decide +kernel) ?_
  refine zs_irem (pc := 9) C (by decide +kernel) (by decide +kernel) ?_
  refine zs_putI (pc := 10) (i := 32) (ci := 10) (k := 4) C (fun _ _ _ => rfl) (by decide +kernel) fl_RX10_32 fw_10_4 rfl rfl ?_
  refine zs_aload_n (pc := 13) (k := 0) (i := 0) C (by decide +kernel) rfl rfl ?_
  refine zs_getR (o' := 31) (pc := 14) (i := 35) (ci := 10) (k := 5) C (by decide +kernel) fl_RX10_35 rfl rfl rfl ?_
  refine zs_aload_n (pc := 17) (k := 0) (i := 0) C (by decide +kernel) rfl rfl ?_
  refine zs_getI (pc := 18) (i := 32) (ci := 10) (k := 4) C (by decide +kernel) fl_RX10_32 rfl rfl (fun x2 => ?_)
  refine zs_aald (pc := 21) (o := 31) (t := 4) (n := 10) C (by decide) (by decide +kernel) rfl (ly_arr_4_10 rfl) (fun x3 hx3 => ?_)
  refine zs_aload_n (pc := 22) (k := 0) (i := 0) C (by decide +kernel) rfl rfl ?_
  refine zs_getR (o' := 27) (pc := 23) (i := 21) (ci := 10) (k := 1) C (by decide +kernel) fl_RX10_21 rfl rfl rfl ?_
  refine zs_cvVv (pc := 26) (As := [sR 27]) (st := []) C (fun _ _ _ => rfl) (c_X5_copyFrom l g x3 27 hx3 rfl) ml_RX10_56 hx3 rfl rfl rfl (Nat.le_of_ble_eq_true rfl) ⟨Nat.le_of_ble_eq_true rfl, Nat.le_of_ble_eq_true rfl⟩ ⟨Nat.le_of_ble_eq_true rfl, Nat.le_of_ble_eq_true rfl⟩ (by decide +kernel) ?_
  refine zs_aload_n (pc := 29) (k := 0) (i := 0) C (by decide +kernel) rfl rfl ?_
  refine zs_aload_n (pc := 30) (k := 0) (i := 0) C (by decide +kernel) rfl rfl ?_
  refine zs_getI (pc := 31) (i := 25) (ci := 10) (k := 2) C (by decide +kernel) fl_RX10_25 rfl rfl (fun x4 => ?_)
  refine zs_iconst (pc := 34) (n := 1) (x := 1) C (by decide +kernel) (by decide +kernel) ?_
  refine zs_iadd (pc := 35) C (by decide +kernel) ?_
  refine zs_bipush (pc := 36) (n := 10) (x := 10) C (by decide +kernel) (by decide +kernel) ?_
  refine zs_mmin (pc := 38) (idx := 59) C wf_716 wf_717 wf_166 wf_718 ⟨Nat.le_of_ble_eq_true rfl, Nat.le_of_ble_eq_true rfl, Nat.le_of_ble_eq_true rfl, Nat.le_of_ble_eq_true rfl⟩ (by decide +kernel) ?_
  refine zs_putI (pc := 41) (i := 25) (ci := 10) (k := 2) C (fun _ _ _ => rfl) (by decide +kernel) fl_RX10_25 fw_10_2 rfl rfl ?_
  exact zs_retVv (pc := 44) C hr ⟨Nat.le_of_ble_eq_true rfl, Nat.le_of_ble_eq_true rfl⟩ (by decide +kernel)
set_option maxRecDepth 20000 in
theorem c_X10_walk (l : Launch) (g : GC) (a0 : Int) (a1 : Int) (a2 : Int) : ConV l g yX10_walk cX10_walk 4 (rmd 3 0 0) [sR 19, sI a0, sI a1, sI a2] (fun mm => fX10_walk a0 a1 a2 mm) := by
  refine zs_ofV (by decide +kernel) (Nat.le_of_ble_eq_true rfl) ?_
  intro p e s m args below meth c C hr
  replace C : Bd g RX10 cX10_walk 4 p s m args meth c := C
  unfold fX10_walk
  refine zs_aload_n (pc := 0) (k := 0) (i := 0) C (by decide +kernel) rfl rfl ?_
  refine zs_getR (o' := 27) (pc := 1) (i := 21) (ci := 10) (k := 1) C (by decide +kernel) fl_RX10_21 rfl rfl rfl ?_
  refine zs_getR (o' := 28) (pc := 4) (i := 68) (ci := 5) (k := 4) C (by decide +kernel) fl_RX10_68 rfl rfl rfl ?_
  refine zs_iload_n (pc := 7) (k := 1) (i := 1) C (by decide +kernel) rfl rfl ?_
  refine zs_aload_n (pc := 8) (k := 0) (i := 0) C (by decide +kernel) rfl rfl ?_
  refine zs_getR (o' := 20) (pc := 9) (i := 12) (ci := 10) (k := 0) C (by decide +kernel) fl_RX10_12 rfl rfl rfl ?_
  refine zs_aload_n (pc := 12) (k := 0) (i := 0) C (by decide +kernel) rfl rfl ?_
  refine zs_getR (o' := 27) (pc := 13) (i := 21) (ci := 10) (k := 1) C (by decide +kernel) fl_RX10_21 rfl rfl rfl ?_
  refine zs_getR (o' := 28) (pc := 16) (i := 68) (ci := 5) (k := 4) C (by decide +kernel) fl_RX10_68 rfl rfl rfl ?_
  refine zs_iload_n (pc := 19) (k := 1) (i := 1) C (by decide +kernel) rfl rfl ?_
  refine zs_iald (pc := 20) (o := 28) (n := 4) C (by decide +kernel) rfl (fun hinx1 x1 => ?_)
  refine zs_iload_n (pc := 21) (k := 2) (i := 2) C (by decide +kernel) rfl rfl ?_
  refine zs_cvRi (pc := 22) (As := [sI x1, sI a1]) (st := [sI a0, sR 28]) C rfl (c_X3_beside l g x1 a1) ml_RX10_132 rfl rfl rfl rfl (Nat.le_of_ble_eq_true rfl) ⟨Nat.le_of_ble_eq_true rfl, Nat.le_of_ble_eq_true rfl⟩ ⟨Nat.le_of_ble_eq_true rfl, Nat.le_of_ble_eq_true rfl⟩ (by decide +kernel) (fun x2 => ?_)
  refine zs_iast (pc := 25) (o := 28) (n := 4) C (fun _ _ _ => rfl) (by decide +kernel) rfl ?_
  refine zs_aload_n (pc := 26) (k := 0) (i := 0) C (by decide +kernel) rfl rfl ?_
  refine zs_getR (o' := 27) (pc := 27) (i := 21) (ci := 10) (k := 1) C (by decide +kernel) fl_RX10_21 rfl rfl rfl ?_
  refine zs_getR (o' := 29) (pc := 30) (i := 71) (ci := 5) (k := 5) C (by decide +kernel) fl_RX10_71 rfl rfl rfl ?_
  refine zs_iload_n (pc := 33) (k := 1) (i := 1) C (by decide +kernel) rfl rfl ?_
  refine zs_aload_n (pc := 34) (k := 0) (i := 0) C (by decide +kernel) rfl rfl ?_
  refine zs_getR (o' := 20) (pc := 35) (i := 12) (ci := 10) (k := 0) C (by decide +kernel) fl_RX10_12 rfl rfl rfl ?_
  refine zs_aload_n (pc := 38) (k := 0) (i := 0) C (by decide +kernel) rfl rfl ?_
  refine zs_getR (o' := 27) (pc := 39) (i := 21) (ci := 10) (k := 1) C (by decide +kernel) fl_RX10_21 rfl rfl rfl ?_
  refine zs_getR (o' := 29) (pc := 42) (i := 71) (ci := 5) (k := 5) C (by decide +kernel) fl_RX10_71 rfl rfl rfl ?_
  refine zs_iload_n (pc := 45) (k := 1) (i := 1) C (by decide +kernel) rfl rfl ?_
  refine zs_iald (pc := 46) (o := 29) (n := 4) C (by decide +kernel) rfl (fun hinx3 x3 => ?_)
  refine zs_iload_n (pc := 47) (k := 3) (i := 3) C (by decide +kernel) rfl rfl ?_
  refine zs_cvRi (pc := 48) (As := [sI x3, sI a2]) (st := [sI a0, sR 29]) C rfl (c_X3_beside l g x3 a2) ml_RX10_132 rfl rfl rfl rfl (Nat.le_of_ble_eq_true rfl) ⟨Nat.le_of_ble_eq_true rfl, Nat.le_of_ble_eq_true rfl⟩ ⟨Nat.le_of_ble_eq_true rfl, Nat.le_of_ble_eq_true rfl⟩ (by decide +kernel) (fun x4 => ?_)
  refine zs_iast (pc := 51) (o := 29) (n := 4) C (fun _ _ _ => rfl) (by decide +kernel) rfl ?_
  exact zs_retVv (pc := 52) C hr ⟨Nat.le_of_ble_eq_true rfl, Nat.le_of_ble_eq_true rfl⟩ (by decide +kernel)
set_option maxRecDepth 20000 in
theorem c_X10_tooFarApart (l : Launch) (g : GC)  : ConW l g yX10_tooFarApart cX10_tooFarApart 3 (some .int) (rmd 3 0 0) [sR 19] (fun mm => fX10_tooFarApart  mm) := by
  refine zs_ofW (by decide +kernel) (Nat.le_of_ble_eq_true rfl) ?_
  intro p e s m args below meth c C hr
  replace C : Bd g RX10 cX10_tooFarApart 3 p s m args meth c := C
  unfold fX10_tooFarApart
  refine zs_iconst (pc := 0) (n := 0) (x := 0) C (by decide +kernel) (by decide +kernel) ?_
  refine zs_istore_n (pc := 1) (k := 1) (i := 1) (ls' := [(1, sI 0), (0, sR 19)]) C (by decide +kernel) rfl (Nat.le_of_ble_eq_true rfl) rfl ?_
  refine zs_iconst (pc := 2) (n := 0) (x := 0) C (by decide +kernel) (by decide +kernel) ?_
  refine zs_istore_n (pc := 3) (k := 2) (i := 2) (ls' := [(2, sI 0), (1, sI 0), (0, sR 19)]) C (by decide +kernel) rfl (Nat.le_of_ble_eq_true rfl) rfl ?_
  refine zs_sub (ls' := [(0, sR 19), (1, sI 0), (2, sI 0)]) ⟨rfl, rfl, rfl, trivial⟩ ?_
  refine zs_lp (pc := 4) (fun (t1 : Int × Int) => [(0, sR 19), (1, sI t1.1), (2, sI t1.2)]) (fun _ => []) (fun K2 hK2 t1 => ?_) BIG (0, 0)
  refine zs_iload_n (pc := 4) (k := 2) (i := 2) C (by decide +kernel) rfl rfl ?_
  refine zs_aload_n (pc := 5) (k := 0) (i := 0) C (by decide +kernel) rfl rfl ?_
  refine zs_getR (o' := 20) (pc := 6) (i := 12) (ci := 10) (k := 0) C (by decide +kernel) fl_RX10_12 rfl rfl rfl ?_
  refine zs_getI (pc := 9) (i := 65) (ci := 3) (k := 5) C (by decide +kernel) fl_RX10_65 rfl rfl (fun x3 => ?_)
  refine zs_jn (pJ := 72) (kJ := 0) (sJ := 0) (fun t4 => [(1, sI t1.1)]) (fun t4 => []) (fun t4 => ?_) (fun J5 hJ5 => ?_)
  · refine zs_iload_n (pc := 72) (k := 1) (i := 1) C (by decide +kernel) rfl rfl ?_
    exact zs_retWi (pc := 73) C hr ⟨Nat.le_of_ble_eq_true rfl, Nat.le_of_ble_eq_true rfl⟩ (by decide +kernel)
  · refine zs_icmp_ge (pc := 12) (off := 60) (tgt := 72) C (by decide +kernel) (by decide) ?_ ?_
    · exact zs_goj (hJ5 ()) ⟨rfl, trivial⟩
    · refine zs_iload_n (pc := 15) (k := 2) (i := 2) C (by decide +kernel) rfl rfl ?_
      refine zs_iconst (pc := 16) (n := 4) (x := 4) C (by decide +kernel) (by decide +kernel) ?_
      refine zs_icmp_ge (pc := 17) (off := 55) (tgt := 72) C (by decide +kernel) (by decide) ?_ ?_
      · exact zs_goj (hJ5 ()) ⟨rfl, trivial⟩
      · refine zs_aload_n (pc := 20) (k := 0) (i := 0) C (by decide +kernel) rfl rfl ?_
        refine zs_getR (o' := 27) (pc := 21) (i := 21) (ci := 10) (k := 1) C (by decide +kernel) fl_RX10_21 rfl rfl rfl ?_
        refine zs_iload_n (pc := 24) (k := 2) (i := 2) C (by decide +kernel) rfl rfl ?_
        refine zs_cvRi (pc := 25) (As := [sI t1.2]) (st := []) C rfl (c_X5_isParted l g t1.2) ml_RX10_116 rfl rfl rfl rfl (Nat.le_of_ble_eq_true rfl) ⟨Nat.le_of_ble_eq_true rfl, Nat.le_of_ble_eq_true rfl⟩ ⟨Nat.le_of_ble_eq_true rfl, Nat.le_of_ble_eq_true rfl⟩ (by decide +kernel) (fun x6 => ?_)
        refine zs_jn (pJ := 66) (kJ := 0) (sJ := 0) (fun t7 => [(0, sR 19), (1, sI t7), (2, sI t1.2)]) (fun t7 => []) (fun t7 => ?_) (fun J8 hJ8 => ?_)
        · refine zs_iinc (pc := 66) (i := 2) (n := 1) (y := w32 (t1.2 + 1)) (ls' := [(2, sI (w32 (t1.2 + 1))), (0, sR 19), (1, sI t7)]) C (by decide +kernel) rfl rfl (Nat.le_of_ble_eq_true rfl) rfl ?_
          refine zs_goto (pc := 69) (off := (-65)) (tgt := 4) C (by decide +kernel) (by decide) ?_
          exact zs_goj (hK2 (t7, w32 (t1.2 + 1))) ⟨rfl, rfl, rfl, trivial⟩
        · refine zs_if_ne (pc := 28) (off := 38) (tgt := 66) C (by decide +kernel) (by decide) ?_ ?_
          · exact zs_goj (hJ8 t1.1) ⟨rfl, rfl, rfl, trivial⟩
          · refine zs_aload_n (pc := 31) (k := 0) (i := 0) C (by decide +kernel) rfl rfl ?_
            refine zs_iload_n (pc := 32) (k := 2) (i := 2) C (by decide +kernel) rfl rfl ?_
            refine zs_cvRi (pc := 33) (As := [sI t1.2]) (st := []) C rfl (c_X10_apart l g t1.2) ml_RX10_120 rfl rfl rfl rfl (Nat.le_of_ble_eq_true rfl) ⟨Nat.le_of_ble_eq_true rfl, Nat.le_of_ble_eq_true rfl⟩ ⟨Nat.le_of_ble_eq_true rfl, Nat.le_of_ble_eq_true rfl⟩ (by decide +kernel) (fun x9 => ?_)
            refine zs_aload_n (pc := 36) (k := 0) (i := 0) C (by decide +kernel) rfl rfl ?_
            refine zs_iload_n (pc := 37) (k := 2) (i := 2) C (by decide +kernel) rfl rfl ?_
            refine zs_aload_n (pc := 38) (k := 0) (i := 0) C (by decide +kernel) rfl rfl ?_
            refine zs_getR (o' := 20) (pc := 39) (i := 12) (ci := 10) (k := 0) C (by decide +kernel) fl_RX10_12 rfl rfl rfl ?_
            refine zs_getR (o' := 22) (pc := 42) (i := 77) (ci := 3) (k := 7) C (by decide +kernel) fl_RX10_77 rfl rfl rfl ?_
            refine zs_iload_n (pc := 45) (k := 2) (i := 2) C (by decide +kernel) rfl rfl ?_
            refine zs_iald (pc := 46) (o := 22) (n := 4) C (by decide +kernel) rfl (fun hinx10 x10 => ?_)
            refine zs_aload_n (pc := 47) (k := 0) (i := 0) C (by decide +kernel) rfl rfl ?_
            refine zs_getR (o' := 27) (pc := 48) (i := 21) (ci := 10) (k := 1) C (by decide +kernel) fl_RX10_21 rfl rfl rfl ?_
            refine zs_getI (pc := 51) (i := 122) (ci := 5) (k := 0) C (by decide +kernel) fl_RX10_122 rfl rfl (fun x11 => ?_)
            refine zs_cvWi (pc := 54) (As := [sI t1.2, sI x10, sI x11]) (st := [sI x9]) C (fun _ _ _ => rfl) rfl (c_X10_lengthOf l g t1.2 x10 x11) ml_RX10_80 rfl rfl rfl rfl (Nat.le_of_ble_eq_true rfl) ⟨Nat.le_of_ble_eq_true rfl, Nat.le_of_ble_eq_true rfl⟩ ⟨Nat.le_of_ble_eq_true rfl, Nat.le_of_ble_eq_true rfl⟩ (by decide +kernel) (fun x12 => ?_)
            refine zs_icmp_le (pc := 57) (off := 9) (tgt := 66) C (by decide +kernel) (by decide) ?_ ?_
            · exact zs_goj (hJ8 t1.1) ⟨rfl, rfl, rfl, trivial⟩
            · refine zs_iload_n (pc := 60) (k := 1) (i := 1) C (by decide +kernel) rfl rfl ?_
              refine zs_iconst (pc := 61) (n := 1) (x := 1) C (by decide +kernel) (by decide +kernel) ?_
              refine zs_iload_n (pc := 62) (k := 2) (i := 2) C (by decide +kernel) rfl rfl ?_
              refine zs_ishl (pc := 63) C (by decide +kernel) ?_
              refine zs_ior (pc := 64) C (by decide +kernel) ?_
              refine zs_let (fun x13 => ?_)
              refine zs_istore_n (pc := 65) (k := 1) (i := 1) (ls' := [(1, sI x13), (0, sR 19), (2, sI t1.2)]) C (by decide +kernel) rfl (Nat.le_of_ble_eq_true rfl) rfl ?_
              exact zs_goj (hJ8 x13) ⟨rfl, rfl, rfl, trivial⟩
set_option maxRecDepth 20000 in
theorem c_X10_passHour (l : Launch) (g : GC)  : ConV l g yX10_passHour cX10_passHour 1 (rmd 4 0 0) [sR 19] (fun mm => fX10_passHour  mm) := by
  refine zs_ofV (by decide +kernel) (Nat.le_of_ble_eq_true rfl) ?_
  intro p e s m args below meth c C hr
  replace C : Bd g RX10 cX10_passHour 1 p s m args meth c := C
  unfold fX10_passHour
  refine zs_aload_n (pc := 0) (k := 0) (i := 0) C (by decide +kernel) rfl rfl ?_
  refine zs_getR (o' := 27) (pc := 1) (i := 21) (ci := 10) (k := 1) C (by decide +kernel) fl_RX10_21 rfl rfl rfl ?_
  refine zs_dup (pc := 4) C rfl (by decide +kernel) ?_
  refine zs_getI (pc := 5) (i := 122) (ci := 5) (k := 0) C (by decide +kernel) fl_RX10_122 rfl rfl (fun x1 => ?_)
  refine zs_iconst (pc := 8) (n := 1) (x := 1) C (by decide +kernel) (by decide +kernel) ?_
  refine zs_iadd (pc := 9) C (by decide +kernel) ?_
  refine zs_putI (pc := 10) (i := 122) (ci := 5) (k := 0) C (fun _ _ _ => rfl) (by decide +kernel) fl_RX10_122 fw_5_0 rfl rfl ?_
  refine zs_aload_n (pc := 13) (k := 0) (i := 0) C (by decide +kernel) rfl rfl ?_
  refine zs_getR (o' := 27) (pc := 14) (i := 21) (ci := 10) (k := 1) C (by decide +kernel) fl_RX10_21 rfl rfl rfl ?_
  refine zs_dup (pc := 17) C rfl (by decide +kernel) ?_
  refine zs_getI (pc := 18) (i := 125) (ci := 5) (k := 3) C (by decide +kernel) fl_RX10_125 rfl rfl (fun x2 => ?_)
  refine zs_aload_n (pc := 21) (k := 0) (i := 0) C (by decide +kernel) rfl rfl ?_
  refine zs_cvWi (pc := 22) (As := []) (st := [sI x2, sR 27]) C (fun _ _ _ => rfl) rfl (c_X10_tooFarApart l g ) ml_RX10_128 rfl rfl rfl rfl (Nat.le_of_ble_eq_true rfl) ⟨Nat.le_of_ble_eq_true rfl, Nat.le_of_ble_eq_true rfl⟩ ⟨Nat.le_of_ble_eq_true rfl, Nat.le_of_ble_eq_true rfl⟩ (by decide +kernel) (fun x3 => ?_)
  refine zs_ior (pc := 25) C (by decide +kernel) ?_
  refine zs_putI (pc := 26) (i := 125) (ci := 5) (k := 3) C (fun _ _ _ => rfl) (by decide +kernel) fl_RX10_125 fw_5_3 rfl rfl ?_
  exact zs_retVv (pc := 29) C hr ⟨Nat.le_of_ble_eq_true rfl, Nat.le_of_ble_eq_true rfl⟩ (by decide +kernel)
set_option maxRecDepth 20000 in
theorem c_X11_step (l : Launch) (g : GC) (a0 : Int) (a1 : Int) (a2 : Int) : ConW l g yX11_step cX11_step 5 (some .int) (rmd 5 0 0) [sR 0, sI a0, sI a1, sI a2] (fun mm => fX11_step a0 a1 a2 mm) := by
  refine zs_ofW (by decide +kernel) (Nat.le_of_ble_eq_true rfl) ?_
  intro p e s m args below meth c C hr
  replace C : Bd g RX11 cX11_step 5 p s m args meth c := C
  unfold fX11_step
  refine zs_aload_n (pc := 0) (k := 0) (i := 0) C (by decide +kernel) rfl rfl ?_
  refine zs_getR (o' := 19) (pc := 1) (i := 41) (ci := 11) (k := 6) C (by decide +kernel) fl_RX11_41 rfl rfl rfl ?_
  refine zs_iload_n (pc := 4) (k := 1) (i := 1) C (by decide +kernel) rfl rfl ?_
  refine zs_iload_n (pc := 5) (k := 2) (i := 2) C (by decide +kernel) rfl rfl ?_
  refine zs_iload_n (pc := 6) (k := 3) (i := 3) C (by decide +kernel) rfl rfl ?_
  refine zs_cvWi (pc := 7) (As := [sI a0, sI a1, sI a2]) (st := []) C (fun _ _ _ => rfl) rfl (c_X10_whyNoStep l g a0 a1 a2) ml_RX11_192 rfl rfl rfl rfl (Nat.le_of_ble_eq_true rfl) ⟨Nat.le_of_ble_eq_true rfl, Nat.le_of_ble_eq_true rfl⟩ ⟨Nat.le_of_ble_eq_true rfl, Nat.le_of_ble_eq_true rfl⟩ (by decide +kernel) (fun x1 => ?_)
  refine zs_istore (pc := 10) (i := 4) (ls' := [(4, sI x1), (0, sR 0), (1, sI a0), (2, sI a1), (3, sI a2)]) C (by decide +kernel) (Nat.le_of_ble_eq_true rfl) rfl ?_
  refine zs_iload (pc := 12) (i := 4) C (by decide +kernel) rfl ?_
  refine zs_if_eq (pc := 14) (off := 7) (tgt := 21) C (by decide +kernel) (by decide) ?_ ?_
  · refine zs_aload_n (pc := 21) (k := 0) (i := 0) C (by decide +kernel) rfl rfl ?_
    refine zs_getR (o' := 19) (pc := 22) (i := 41) (ci := 11) (k := 6) C (by decide +kernel) fl_RX11_41 rfl rfl rfl ?_
    refine zs_cvVv (pc := 25) (As := []) (st := []) C (fun _ _ _ => rfl) (c_X10_remember l g ) ml_RX11_196 rfl rfl rfl rfl (Nat.le_of_ble_eq_true rfl) ⟨Nat.le_of_ble_eq_true rfl, Nat.le_of_ble_eq_true rfl⟩ ⟨Nat.le_of_ble_eq_true rfl, Nat.le_of_ble_eq_true rfl⟩ (by decide +kernel) ?_
    refine zs_aload_n (pc := 28) (k := 0) (i := 0) C (by decide +kernel) rfl rfl ?_
    refine zs_getR (o' := 19) (pc := 29) (i := 41) (ci := 11) (k := 6) C (by decide +kernel) fl_RX11_41 rfl rfl rfl ?_
    refine zs_iload_n (pc := 32) (k := 1) (i := 1) C (by decide +kernel) rfl rfl ?_
    refine zs_iload_n (pc := 33) (k := 2) (i := 2) C (by decide +kernel) rfl rfl ?_
    refine zs_iload_n (pc := 34) (k := 3) (i := 3) C (by decide +kernel) rfl rfl ?_
    refine zs_cvVv (pc := 35) (As := [sI a0, sI a1, sI a2]) (st := []) C (fun _ _ _ => rfl) (c_X10_walk l g a0 a1 a2) ml_RX11_199 rfl rfl rfl rfl (Nat.le_of_ble_eq_true rfl) ⟨Nat.le_of_ble_eq_true rfl, Nat.le_of_ble_eq_true rfl⟩ ⟨Nat.le_of_ble_eq_true rfl, Nat.le_of_ble_eq_true rfl⟩ (by decide +kernel) ?_
    refine zs_aload_n (pc := 38) (k := 0) (i := 0) C (by decide +kernel) rfl rfl ?_
    refine zs_getR (o' := 19) (pc := 39) (i := 41) (ci := 11) (k := 6) C (by decide +kernel) fl_RX11_41 rfl rfl rfl ?_
    refine zs_cvVv (pc := 42) (As := []) (st := []) C (fun _ _ _ => rfl) (c_X10_passHour l g ) ml_RX11_202 rfl rfl rfl rfl (Nat.le_of_ble_eq_true rfl) ⟨Nat.le_of_ble_eq_true rfl, Nat.le_of_ble_eq_true rfl⟩ ⟨Nat.le_of_ble_eq_true rfl, Nat.le_of_ble_eq_true rfl⟩ (by decide +kernel) ?_
    refine zs_aload_n (pc := 45) (k := 0) (i := 0) C (by decide +kernel) rfl rfl ?_
    refine zs_getR (o' := 19) (pc := 46) (i := 41) (ci := 11) (k := 6) C (by decide +kernel) fl_RX11_41 rfl rfl rfl ?_
    refine zs_iload_n (pc := 49) (k := 1) (i := 1) C (by decide +kernel) rfl rfl ?_
    refine zs_cvRi (pc := 50) (As := [sI a0]) (st := []) C rfl (c_X10_apart l g a0) ml_RX11_153 rfl rfl rfl rfl (Nat.le_of_ble_eq_true rfl) ⟨Nat.le_of_ble_eq_true rfl, Nat.le_of_ble_eq_true rfl⟩ ⟨Nat.le_of_ble_eq_true rfl, Nat.le_of_ble_eq_true rfl⟩ (by decide +kernel) (fun x2 => ?_)
    exact zs_retWi (pc := 53) C hr ⟨Nat.le_of_ble_eq_true rfl, Nat.le_of_ble_eq_true rfl⟩ (by decide +kernel)
  · refine zs_iload (pc := 17) (i := 4) C (by decide +kernel) rfl ?_
    refine zs_ineg (pc := 19) C (by decide +kernel) ?_
    exact zs_retWi (pc := 20) C hr ⟨Nat.le_of_ble_eq_true rfl, Nat.le_of_ble_eq_true rfl⟩ (by decide +kernel)
set_option maxRecDepth 20000 in
theorem c_X11_tie (l : Launch) (g : GC) (hl : l.stackTraces = false) (a0 : Int) (a1 : Int) : ConT l g yX11_tie cX11_tie 3 (some .int) (rmd 8 2 12) [sR 0, sI a0, sI a1] (fun mm => fX11_tie a0 a1 mm) := by
  refine zs_ofT (by decide +kernel) (Nat.le_of_ble_eq_true rfl) ?_
  intro p e s m args below meth c C hr hE
  replace C : Bd g RX11 cX11_tie 3 p s m args meth c := C
  unfold fX11_tie
  refine zs_aload_n (pc := 0) (k := 0) (i := 0) C (by decide +kernel) rfl rfl ?_
  refine zs_iload_n (pc := 1) (k := 1) (i := 1) C (by decide +kernel) rfl rfl ?_
  refine zs_cvTv (pc := 2) (As := [sI a0]) (st := []) C hE (c_X11_needPair l g hl a0) ml_RX11_134 rfl rfl rfl rfl (Nat.le_of_ble_eq_true rfl) ⟨Nat.le_of_ble_eq_true rfl, Nat.le_of_ble_eq_true rfl⟩ ⟨Nat.le_of_ble_eq_true rfl, Nat.le_of_ble_eq_true rfl⟩ ⟨Nat.le_of_ble_eq_true rfl, Nat.le_of_ble_eq_true rfl⟩ (by decide +kernel) ?_
  refine zs_aload_n (pc := 5) (k := 0) (i := 0) C (by decide +kernel) rfl rfl ?_
  refine zs_iload_n (pc := 6) (k := 2) (i := 2) C (by decide +kernel) rfl rfl ?_
  refine zs_iconst (pc := 7) (n := 0) (x := 0) C (by decide +kernel) (by decide +kernel) ?_
  refine zs_bipush (pc := 8) (n := 9) (x := 9) C (by decide +kernel) (by decide +kernel) ?_
  refine zs_cvTv (pc := 10) (As := [sI a1, sI 0, sI 9]) (st := []) C hE (c_X11_needWithin l g hl a1 0 9) ml_RX11_179 rfl rfl rfl rfl (Nat.le_of_ble_eq_true rfl) ⟨Nat.le_of_ble_eq_true rfl, Nat.le_of_ble_eq_true rfl⟩ ⟨Nat.le_of_ble_eq_true rfl, Nat.le_of_ble_eq_true rfl⟩ ⟨Nat.le_of_ble_eq_true rfl, Nat.le_of_ble_eq_true rfl⟩ (by decide +kernel) ?_
  refine zs_aload_n (pc := 13) (k := 0) (i := 0) C (by decide +kernel) rfl rfl ?_
  refine zs_getR (o' := 19) (pc := 14) (i := 41) (ci := 11) (k := 6) C (by decide +kernel) fl_RX11_41 rfl rfl rfl ?_
  refine zs_cvVv (pc := 17) (As := []) (st := []) C (fun _ _ _ => rfl) (c_X10_remember l g ) ml_RX11_196 rfl rfl rfl rfl (Nat.le_of_ble_eq_true rfl) ⟨Nat.le_of_ble_eq_true rfl, Nat.le_of_ble_eq_true rfl⟩ ⟨Nat.le_of_ble_eq_true rfl, Nat.le_of_ble_eq_true rfl⟩ (by decide +kernel) ?_
  refine zs_aload_n (pc := 20) (k := 0) (i := 0) C (by decide +kernel) rfl rfl ?_
  refine zs_getR (o' := 19) (pc := 21) (i := 41) (ci := 11) (k := 6) C (by decide +kernel) fl_RX11_41 rfl rfl rfl ?_
  refine zs_getR (o' := 27) (pc := 24) (i := 141) (ci := 10) (k := 1) C (by decide +kernel) fl_RX11_141 rfl rfl rfl ?_
  refine zs_getR (o' := 30) (pc := 27) (i := 142) (ci := 5) (k := 6) C (by decide +kernel) fl_RX11_142 rfl rfl rfl ?_
  refine zs_iload_n (pc := 30) (k := 1) (i := 1) C (by decide +kernel) rfl rfl ?_
  refine zs_iload_n (pc := 31) (k := 2) (i := 2) C (by decide +kernel) rfl rfl ?_
  refine zs_iast (pc := 32) (o := 30) (n := 4) C (fun _ _ _ => rfl) (by decide +kernel) rfl ?_
  refine zs_aload_n (pc := 33) (k := 0) (i := 0) C (by decide +kernel) rfl rfl ?_
  refine zs_getR (o' := 19) (pc := 34) (i := 41) (ci := 11) (k := 6) C (by decide +kernel) fl_RX11_41 rfl rfl rfl ?_
  refine zs_iload_n (pc := 37) (k := 1) (i := 1) C (by decide +kernel) rfl rfl ?_
  refine zs_aload_n (pc := 38) (k := 0) (i := 0) C (by decide +kernel) rfl rfl ?_
  refine zs_getR (o' := 19) (pc := 39) (i := 41) (ci := 11) (k := 6) C (by decide +kernel) fl_RX11_41 rfl rfl rfl ?_
  refine zs_getR (o' := 27) (pc := 42) (i := 141) (ci := 10) (k := 1) C (by decide +kernel) fl_RX11_141 rfl rfl rfl ?_
  refine zs_getI (pc := 45) (i := 156) (ci := 5) (k := 0) C (by decide +kernel) fl_RX11_156 rfl rfl (fun x1 => ?_)
  refine zs_cvWi (pc := 48) (As := [sI a0, sI x1]) (st := []) C (fun _ _ _ => rfl) rfl (c_X10_ropeIn l g a0 x1) ml_RX11_159 rfl rfl rfl rfl (Nat.le_of_ble_eq_true rfl) ⟨Nat.le_of_ble_eq_true rfl, Nat.le_of_ble_eq_true rfl⟩ ⟨Nat.le_of_ble_eq_true rfl, Nat.le_of_ble_eq_true rfl⟩ (by decide +kernel) (fun x2 => ?_)
  exact zs_retTi (pc := 51) C hr ⟨Nat.le_of_ble_eq_true rfl, Nat.le_of_ble_eq_true rfl⟩ (by decide +kernel)
set_option maxRecDepth 20000 in
theorem c_X5_letRain (l : Launch) (g : GC) (a0 : Int) (a1 : Int) : ConV l g yX5_letRain cX5_letRain 3 (rmd 1 0 0) [sR 27, sI a0, sI a1] (fun mm => fX5_letRain a0 a1 mm) := by
  refine zs_ofV (by decide +kernel) (Nat.le_of_ble_eq_true rfl) ?_
  intro p e s m args below meth c C hr
  replace C : Bd g RX5 cX5_letRain 3 p s m args meth c := C
  unfold fX5_letRain
  refine zs_aload_n (pc := 0) (k := 0) (i := 0) C (by decide +kernel) rfl rfl ?_
  refine zs_iload_n (pc := 1) (k := 1) (i := 1) C (by decide +kernel) rfl rfl ?_
  refine zs_putI (pc := 2) (i := 15) (ci := 5) (k := 1) C (fun _ _ _ => rfl) (by decide +kernel) fl_RX5_15 fw_5_1 rfl rfl ?_
  refine zs_aload_n (pc := 5) (k := 0) (i := 0) C (by decide +kernel) rfl rfl ?_
  refine zs_aload_n (pc := 6) (k := 0) (i := 0) C (by decide +kernel) rfl rfl ?_
  refine zs_getI (pc := 7) (i := 9) (ci := 5) (k := 0) C (by decide +kernel) fl_RX5_9 rfl rfl (fun x1 => ?_)
  refine zs_iload_n (pc := 10) (k := 2) (i := 2) C (by decide +kernel) rfl rfl ?_
  refine zs_iadd (pc := 11) C (by decide +kernel) ?_
  refine zs_putI (pc := 12) (i := 18) (ci := 5) (k := 2) C (fun _ _ _ => rfl) (by decide +kernel) fl_RX5_18 fw_5_2 rfl rfl ?_
  exact zs_retVv (pc := 15) C hr ⟨Nat.le_of_ble_eq_true rfl, Nat.le_of_ble_eq_true rfl⟩ (by decide +kernel)
set_option maxRecDepth 20000 in
theorem c_X11_rain (l : Launch) (g : GC) (hl : l.stackTraces = false) (a0 : Int) (a1 : Int) : ConT l g yX11_rain cX11_rain 3 (some .int) (rmd 8 2 12) [sR 0, sI a0, sI a1] (fun mm => fX11_rain a0 a1 mm) := by
  refine zs_ofT (by decide +kernel) (Nat.le_of_ble_eq_true rfl) ?_
  intro p e s m args below meth c C hr hE
  replace C : Bd g RX11 cX11_rain 3 p s m args meth c := C
  unfold fX11_rain
  refine zs_aload_n (pc := 0) (k := 0) (i := 0) C (by decide +kernel) rfl rfl ?_
  refine zs_iload_n (pc := 1) (k := 1) (i := 1) C (by decide +kernel) rfl rfl ?_
  refine zs_iconst (pc := 2) (n := 0) (x := 0) C (by decide +kernel) (by decide +kernel) ?_
  refine zs_bipush (pc := 3) (n := 9) (x := 9) C (by decide +kernel) (by decide +kernel) ?_
  refine zs_cvTv (pc := 5) (As := [sI a0, sI 0, sI 9]) (st := []) C hE (c_X11_needWithin l g hl a0 0 9) ml_RX11_179 rfl rfl rfl rfl (Nat.le_of_ble_eq_true rfl) ⟨Nat.le_of_ble_eq_true rfl, Nat.le_of_ble_eq_true rfl⟩ ⟨Nat.le_of_ble_eq_true rfl, Nat.le_of_ble_eq_true rfl⟩ ⟨Nat.le_of_ble_eq_true rfl, Nat.le_of_ble_eq_true rfl⟩ (by decide +kernel) ?_
  refine zs_aload_n (pc := 8) (k := 0) (i := 0) C (by decide +kernel) rfl rfl ?_
  refine zs_iload_n (pc := 9) (k := 2) (i := 2) C (by decide +kernel) rfl rfl ?_
  refine zs_iconst (pc := 10) (n := 1) (x := 1) C (by decide +kernel) (by decide +kernel) ?_
  refine zs_bipush (pc := 11) (n := 99) (x := 99) C (by decide +kernel) (by decide +kernel) ?_
  refine zs_cvTv (pc := 13) (As := [sI a1, sI 1, sI 99]) (st := []) C hE (c_X11_needWithin l g hl a1 1 99) ml_RX11_179 rfl rfl rfl rfl (Nat.le_of_ble_eq_true rfl) ⟨Nat.le_of_ble_eq_true rfl, Nat.le_of_ble_eq_true rfl⟩ ⟨Nat.le_of_ble_eq_true rfl, Nat.le_of_ble_eq_true rfl⟩ ⟨Nat.le_of_ble_eq_true rfl, Nat.le_of_ble_eq_true rfl⟩ (by decide +kernel) ?_
  refine zs_aload_n (pc := 16) (k := 0) (i := 0) C (by decide +kernel) rfl rfl ?_
  refine zs_getR (o' := 19) (pc := 17) (i := 41) (ci := 11) (k := 6) C (by decide +kernel) fl_RX11_41 rfl rfl rfl ?_
  refine zs_cvVv (pc := 20) (As := []) (st := []) C (fun _ _ _ => rfl) (c_X10_remember l g ) ml_RX11_196 rfl rfl rfl rfl (Nat.le_of_ble_eq_true rfl) ⟨Nat.le_of_ble_eq_true rfl, Nat.le_of_ble_eq_true rfl⟩ ⟨Nat.le_of_ble_eq_true rfl, Nat.le_of_ble_eq_true rfl⟩ (by decide +kernel) ?_
  refine zs_aload_n (pc := 23) (k := 0) (i := 0) C (by decide +kernel) rfl rfl ?_
  refine zs_getR (o' := 19) (pc := 24) (i := 41) (ci := 11) (k := 6) C (by decide +kernel) fl_RX11_41 rfl rfl rfl ?_
  refine zs_getR (o' := 27) (pc := 27) (i := 141) (ci := 10) (k := 1) C (by decide +kernel) fl_RX11_141 rfl rfl rfl ?_
  refine zs_iload_n (pc := 30) (k := 1) (i := 1) C (by decide +kernel) rfl rfl ?_
  refine zs_iload_n (pc := 31) (k := 2) (i := 2) C (by decide +kernel) rfl rfl ?_
  refine zs_cvVv (pc := 32) (As := [sI a0, sI a1]) (st := []) C (fun _ _ _ => rfl) (c_X5_letRain l g a0 a1) ml_RX11_205 rfl rfl rfl rfl (Nat.le_of_ble_eq_true rfl) ⟨Nat.le_of_ble_eq_true rfl, Nat.le_of_ble_eq_true rfl⟩ ⟨Nat.le_of_ble_eq_true rfl, Nat.le_of_ble_eq_true rfl⟩ (by decide +kernel) ?_
  refine zs_aload_n (pc := 35) (k := 0) (i := 0) C (by decide +kernel) rfl rfl ?_
  refine zs_getR (o' := 19) (pc := 36) (i := 41) (ci := 11) (k := 6) C (by decide +kernel) fl_RX11_41 rfl rfl rfl ?_
  refine zs_cvWi (pc := 39) (As := []) (st := []) C (fun _ _ _ => rfl) rfl (c_X10_tooFarApart l g ) ml_RX11_209 rfl rfl rfl rfl (Nat.le_of_ble_eq_true rfl) ⟨Nat.le_of_ble_eq_true rfl, Nat.le_of_ble_eq_true rfl⟩ ⟨Nat.le_of_ble_eq_true rfl, Nat.le_of_ble_eq_true rfl⟩ (by decide +kernel) (fun x1 => ?_)
  exact zs_retTi (pc := 42) C hr ⟨Nat.le_of_ble_eq_true rfl, Nat.le_of_ble_eq_true rfl⟩ (by decide +kernel)
set_option maxRecDepth 20000 in
theorem c_X11_hours (l : Launch) (g : GC) (hl : l.stackTraces = false) (a0 : Int) : ConT l g yX11_hours cX11_hours 4 (some .int) (rmd 8 1 6) [sR 0, sI a0] (fun mm => fX11_hours a0 mm) := by
  refine zs_ofT (by decide +kernel) (Nat.le_of_ble_eq_true rfl) ?_
  intro p e s m args below meth c C hr hE
  replace C : Bd g RX11 cX11_hours 4 p s m args meth c := C
  unfold fX11_hours
  refine zs_aload_n (pc := 0) (k := 0) (i := 0) C (by decide +kernel) rfl rfl ?_
  refine zs_iload_n (pc := 1) (k := 1) (i := 1) C (by decide +kernel) rfl rfl ?_
  refine zs_iconst (pc := 2) (n := 1) (x := 1) C (by decide +kernel) (by decide +kernel) ?_
  refine zs_bipush (pc := 3) (n := 99) (x := 99) C (by decide +kernel) (by decide +kernel) ?_
  refine zs_cvTv (pc := 5) (As := [sI a0, sI 1, sI 99]) (st := []) C hE (c_X11_needWithin l g hl a0 1 99) ml_RX11_179 rfl rfl rfl rfl (Nat.le_of_ble_eq_true rfl) ⟨Nat.le_of_ble_eq_true rfl, Nat.le_of_ble_eq_true rfl⟩ ⟨Nat.le_of_ble_eq_true rfl, Nat.le_of_ble_eq_true rfl⟩ ⟨Nat.le_of_ble_eq_true rfl, Nat.le_of_ble_eq_true rfl⟩ (by decide +kernel) ?_
  refine zs_aload_n (pc := 8) (k := 0) (i := 0) C (by decide +kernel) rfl rfl ?_
  refine zs_getR (o' := 19) (pc := 9) (i := 41) (ci := 11) (k := 6) C (by decide +kernel) fl_RX11_41 rfl rfl rfl ?_
  refine zs_cvVv (pc := 12) (As := []) (st := []) C (fun _ _ _ => rfl) (c_X10_remember l g ) ml_RX11_196 rfl rfl rfl rfl (Nat.le_of_ble_eq_true rfl) ⟨Nat.le_of_ble_eq_true rfl, Nat.le_of_ble_eq_true rfl⟩ ⟨Nat.le_of_ble_eq_true rfl, Nat.le_of_ble_eq_true rfl⟩ (by decide +kernel) ?_
  refine zs_aload_n (pc := 15) (k := 0) (i := 0) C (by decide +kernel) rfl rfl ?_
  refine zs_getR (o' := 19) (pc := 16) (i := 41) (ci := 11) (k := 6) C (by decide +kernel) fl_RX11_41 rfl rfl rfl ?_
  refine zs_getR (o' := 27) (pc := 19) (i := 141) (ci := 10) (k := 1) C (by decide +kernel) fl_RX11_141 rfl rfl rfl ?_
  refine zs_getI (pc := 22) (i := 213) (ci := 5) (k := 3) C (by decide +kernel) fl_RX11_213 rfl rfl (fun x1 => ?_)
  refine zs_istore_n (pc := 25) (k := 2) (i := 2) (ls' := [(2, sI x1), (0, sR 0), (1, sI a0)]) C (by decide +kernel) rfl (Nat.le_of_ble_eq_true rfl) rfl ?_
  refine zs_iconst (pc := 26) (n := 0) (x := 0) C (by decide +kernel) (by decide +kernel) ?_
  refine zs_istore_n (pc := 27) (k := 3) (i := 3) (ls' := [(3, sI 0), (2, sI x1), (0, sR 0), (1, sI a0)]) C (by decide +kernel) rfl (Nat.le_of_ble_eq_true rfl) rfl ?_
  refine zs_sub (ls' := [(0, sR 0), (1, sI a0), (2, sI x1), (3, sI 0)]) ⟨rfl, rfl, rfl, rfl, trivial⟩ ?_
  refine zs_lp (pc := 28) (fun (t2 : Int) => [(0, sR 0), (1, sI a0), (2, sI x1), (3, sI t2)]) (fun _ => []) (fun K3 hK3 t2 => ?_) BIG 0
  refine zs_iload_n (pc := 28) (k := 3) (i := 3) C (by decide +kernel) rfl rfl ?_
  refine zs_iload_n (pc := 29) (k := 1) (i := 1) C (by decide +kernel) rfl rfl ?_
  refine zs_icmp_ge (pc := 30) (off := 16) (tgt := 46) C (by decide +kernel) (by decide) ?_ ?_
  · refine zs_aload_n (pc := 46) (k := 0) (i := 0) C (by decide +kernel) rfl rfl ?_
    refine zs_getR (o' := 19) (pc := 47) (i := 41) (ci := 11) (k := 6) C (by decide +kernel) fl_RX11_41 rfl rfl rfl ?_
    refine zs_getR (o' := 27) (pc := 50) (i := 141) (ci := 10) (k := 1) C (by decide +kernel) fl_RX11_141 rfl rfl rfl ?_
    refine zs_getI (pc := 53) (i := 213) (ci := 5) (k := 3) C (by decide +kernel) fl_RX11_213 rfl rfl (fun x4 => ?_)
    refine zs_iload_n (pc := 56) (k := 2) (i := 2) C (by decide +kernel) rfl rfl ?_
    refine zs_iconst (pc := 57) (n := (-1)) (x := (-1)) C (by decide +kernel) (by decide +kernel) ?_
    refine zs_ixor (pc := 58) C (by decide +kernel) ?_
    refine zs_iand (pc := 59) C (by decide +kernel) ?_
    exact zs_retTi (pc := 60) C hr ⟨Nat.le_of_ble_eq_true rfl, Nat.le_of_ble_eq_true rfl⟩ (by decide +kernel)
  · refine zs_aload_n (pc := 33) (k := 0) (i := 0) C (by decide +kernel) rfl rfl ?_
    refine zs_getR (o' := 19) (pc := 34) (i := 41) (ci := 11) (k := 6) C (by decide +kernel) fl_RX11_41 rfl rfl rfl ?_
    refine zs_cvVv (pc := 37) (As := []) (st := []) C (fun _ _ _ => rfl) (c_X10_passHour l g ) ml_RX11_202 rfl rfl rfl rfl (Nat.le_of_ble_eq_true rfl) ⟨Nat.le_of_ble_eq_true rfl, Nat.le_of_ble_eq_true rfl⟩ ⟨Nat.le_of_ble_eq_true rfl, Nat.le_of_ble_eq_true rfl⟩ (by decide +kernel) ?_
    refine zs_iinc (pc := 40) (i := 3) (n := 1) (y := w32 (t2 + 1)) (ls' := [(3, sI (w32 (t2 + 1))), (0, sR 0), (1, sI a0), (2, sI x1)]) C (by decide +kernel) rfl rfl (Nat.le_of_ble_eq_true rfl) rfl ?_
    refine zs_goto (pc := 43) (off := (-15)) (tgt := 28) C (by decide +kernel) (by decide) ?_
    exact zs_goj (hK3 (w32 (t2 + 1))) ⟨rfl, rfl, rfl, rfl, trivial⟩
set_option maxRecDepth 20000 in
theorem c_X10_goBack (l : Launch) (g : GC) (a0 : Int) : ConV l g yX10_goBack cX10_goBack 3 (rmd 2 0 0) [sR 19, sI a0] (fun mm => fX10_goBack a0 mm) := by
  refine zs_ofV (by decide +kernel) (Nat.le_of_ble_eq_true rfl) ?_
  intro p e s m args below meth c C hr
  replace C : Bd g RX10 cX10_goBack 3 p s m args meth c := C
  unfold fX10_goBack
  refine zs_aload_n (pc := 0) (k := 0) (i := 0) C (by decide +kernel) rfl rfl ?_
  refine zs_getI (pc := 1) (i := 32) (ci := 10) (k := 4) C (by decide +kernel) fl_RX10_32 rfl rfl (fun x1 => ?_)
  refine zs_iconst (pc := 4) (n := 1) (x := 1) C (by decide +kernel) (by decide +kernel) ?_
  refine zs_iadd (pc := 5) C (by decide +kernel) ?_
  refine zs_iload_n (pc := 6) (k := 1) (i := 1) C (by decide +kernel) rfl rfl ?_
  refine zs_isub (pc := 7) C (by decide +kernel) ?_
  refine zs_bipush (pc := 8) (n := 10) (x := 10) C (by decide +kernel) (by decide +kernel) ?_
  refine zs_iadd (pc := 10) C (by decide +kernel) ?_
  refine zs_bipush (pc := 11) (n := 10) (x := 10) C (by decide +kernel) (by decide +kernel) ?_
  refine zs_irem (pc := 13) C (by decide +kernel) (by decide +kernel) ?_
  refine zs_let (fun x2 => ?_)
  refine zs_istore_n (pc := 14) (k := 2) (i := 2) (ls' := [(2, sI x2), (0, sR 19), (1, sI a0)]) C (by decide +kernel) rfl (Nat.le_of_ble_eq_true rfl) rfl ?_
  refine zs_aload_n (pc := 15) (k := 0) (i := 0) C (by decide +kernel) rfl rfl ?_
  refine zs_getR (o' := 27) (pc := 16) (i := 21) (ci := 10) (k := 1) C (by decide +kernel) fl_RX10_21 rfl rfl rfl ?_
  refine zs_aload_n (pc := 19) (k := 0) (i := 0) C (by decide +kernel) rfl rfl ?_
  refine zs_getR (o' := 31) (pc := 20) (i := 35) (ci := 10) (k := 5) C (by decide +kernel) fl_RX10_35 rfl rfl rfl ?_
  refine zs_iload_n (pc := 23) (k := 2) (i := 2) C (by decide +kernel) rfl rfl ?_
  refine zs_aald (pc := 24) (o := 31) (t := 4) (n := 10) C (by decide) (by decide +kernel) rfl (ly_arr_4_10 rfl) (fun x3 hx3 => ?_)
  refine zs_cvVv (pc := 25) (As := [sR x3]) (st := []) C (fun _ _ _ => rfl) (c_X5_copyFrom l g 27 x3 rfl hx3) ml_RX10_56 rfl rfl rfl rfl (Nat.le_of_ble_eq_true rfl) ⟨Nat.le_of_ble_eq_true rfl, Nat.le_of_ble_eq_true rfl⟩ ⟨Nat.le_of_ble_eq_true rfl, Nat.le_of_ble_eq_true rfl⟩ (by decide +kernel) ?_
  refine zs_aload_n (pc := 28) (k := 0) (i := 0) C (by decide +kernel) rfl rfl ?_
  refine zs_aload_n (pc := 29) (k := 0) (i := 0) C (by decide +kernel) rfl rfl ?_
  refine zs_getI (pc := 30) (i := 32) (ci := 10) (k := 4) C (by decide +kernel) fl_RX10_32 rfl rfl (fun x4 => ?_)
  refine zs_iload_n (pc := 33) (k := 1) (i := 1) C (by decide +kernel) rfl rfl ?_
  refine zs_isub (pc := 34) C (by decide +kernel) ?_
  refine zs_bipush (pc := 35) (n := 10) (x := 10) C (by decide +kernel) (by decide +kernel) ?_
  refine zs_iadd (pc := 37) C (by decide +kernel) ?_
  refine zs_bipush (pc := 38) (n := 10) (x := 10) C (by decide +kernel) (by decide +kernel) ?_
  refine zs_irem (pc := 40) C (by decide +kernel) (by decide +kernel) ?_
  refine zs_putI (pc := 41) (i := 32) (ci := 10) (k := 4) C (fun _ _ _ => rfl) (by decide +kernel) fl_RX10_32 fw_10_4 rfl rfl ?_
  refine zs_aload_n (pc := 44) (k := 0) (i := 0) C (by decide +kernel) rfl rfl ?_
  refine zs_dup (pc := 45) C rfl (by decide +kernel) ?_
  refine zs_getI (pc := 46) (i := 25) (ci := 10) (k := 2) C (by decide +kernel) fl_RX10_25 rfl rfl (fun x5 => ?_)
  refine zs_iload_n (pc := 49) (k := 1) (i := 1) C (by decide +kernel) rfl rfl ?_
  refine zs_isub (pc := 50) C (by decide +kernel) ?_
  refine zs_putI (pc := 51) (i := 25) (ci := 10) (k := 2) C (fun _ _ _ => rfl) (by decide +kernel) fl_RX10_25 fw_10_2 rfl rfl ?_
  exact zs_retVv (pc := 54) C hr ⟨Nat.le_of_ble_eq_true rfl, Nat.le_of_ble_eq_true rfl⟩ (by decide +kernel)
set_option maxRecDepth 20000 in
theorem c_X11_undo (l : Launch) (g : GC) (hl : l.stackTraces = false) (a0 : Int) : ConT l g yX11_undo cX11_undo 2 (some .int) (rmd 7 1 6) [sR 0, sI a0] (fun mm => fX11_undo a0 mm) := by
  refine zs_ofT (by decide +kernel) (Nat.le_of_ble_eq_true rfl) ?_
  intro p e s m args below meth c C hr hE
  replace C : Bd g RX11 cX11_undo 2 p s m args meth c := C
  unfold fX11_undo
  refine zs_iload_n (pc := 0) (k := 1) (i := 1) C (by decide +kernel) rfl rfl ?_
  refine zs_iconst (pc := 1) (n := 1) (x := 1) C (by decide +kernel) (by decide +kernel) ?_
  refine zs_jn (pJ := 22) (kJ := 0) (sJ := 0) (fun t1 => []) (fun t1 => []) (fun t1 => ?_) (fun J2 hJ2 => ?_)
  · exact zs_throw (pc := 22) (text := "not so many deeds can be undone") (ik := 85) (is_ := 219) (ic := 89) (k := 1) C hE hl ⟨by decide, rfl⟩ ⟨by decide +kernel, by decide +kernel⟩ wf_784 wf_161 (by decide +kernel) ex_RX11_89.1 ex_RX11_89.2 ⟨Nat.le_of_ble_eq_true rfl, Nat.le_of_ble_eq_true rfl, Nat.le_of_ble_eq_true rfl, Nat.le_of_ble_eq_true rfl⟩ ⟨Nat.le_of_ble_eq_true rfl, Nat.le_of_ble_eq_true rfl⟩ (by decide +kernel) (by decide +kernel) (by decide +kernel) (by decide +kernel) (by decide +kernel)
  · refine zs_icmp_lt (pc := 2) (off := 20) (tgt := 22) C (by decide +kernel) (by decide) ?_ ?_
    · exact zs_goj (hJ2 ()) trivial
    · refine zs_iload_n (pc := 5) (k := 1) (i := 1) C (by decide +kernel) rfl rfl ?_
      refine zs_bipush (pc := 6) (n := 10) (x := 10) C (by decide +kernel) (by decide +kernel) ?_
      refine zs_icmp_gt (pc := 8) (off := 14) (tgt := 22) C (by decide +kernel) (by decide) ?_ ?_
      · exact zs_goj (hJ2 ()) trivial
      · refine zs_iload_n (pc := 11) (k := 1) (i := 1) C (by decide +kernel) rfl rfl ?_
        refine zs_aload_n (pc := 12) (k := 0) (i := 0) C (by decide +kernel) rfl rfl ?_
        refine zs_getR (o' := 19) (pc := 13) (i := 41) (ci := 11) (k := 6) C (by decide +kernel) fl_RX11_41 rfl rfl rfl ?_
        refine zs_getI (pc := 16) (i := 216) (ci := 10) (k := 2) C (by decide +kernel) fl_RX11_216 rfl rfl (fun x3 => ?_)
        refine zs_icmp_le (pc := 19) (off := 13) (tgt := 32) C (by decide +kernel) (by decide) ?_ ?_
        · refine zs_aload_n (pc := 32) (k := 0) (i := 0) C (by decide +kernel) rfl rfl ?_
          refine zs_getR (o' := 19) (pc := 33) (i := 41) (ci := 11) (k := 6) C (by decide +kernel) fl_RX11_41 rfl rfl rfl ?_
          refine zs_iload_n (pc := 36) (k := 1) (i := 1) C (by decide +kernel) rfl rfl ?_
          refine zs_cvVv (pc := 37) (As := [sI a0]) (st := []) C (fun _ _ _ => rfl) (c_X10_goBack l g a0) ml_RX11_221 rfl rfl rfl rfl (Nat.le_of_ble_eq_true rfl) ⟨Nat.le_of_ble_eq_true rfl, Nat.le_of_ble_eq_true rfl⟩ ⟨Nat.le_of_ble_eq_true rfl, Nat.le_of_ble_eq_true rfl⟩ (by decide +kernel) ?_
          refine zs_aload_n (pc := 40) (k := 0) (i := 0) C (by decide +kernel) rfl rfl ?_
          refine zs_getR (o' := 19) (pc := 41) (i := 41) (ci := 11) (k := 6) C (by decide +kernel) fl_RX11_41 rfl rfl rfl ?_
          refine zs_getI (pc := 44) (i := 216) (ci := 10) (k := 2) C (by decide +kernel) fl_RX11_216 rfl rfl (fun x4 => ?_)
          exact zs_retTi (pc := 47) C hr ⟨Nat.le_of_ble_eq_true rfl, Nat.le_of_ble_eq_true rfl⟩ (by decide +kernel)
        · exact zs_goj (hJ2 ()) trivial
set_option maxRecDepth 20000 in
theorem c_X11_needTray (l : Launch) (g : GC) (hl : l.stackTraces = false) (a0 : Int) : ConT l g yX11_needTray cX11_needTray 2 none (rmd 7 1 6) [sR 0, sI a0] (fun mm => fX11_needTray a0 mm) := by
  refine zs_ofT (by decide +kernel) (Nat.le_of_ble_eq_true rfl) ?_
  intro p e s m args below meth c C hr hE
  replace C : Bd g RX11 cX11_needTray 2 p s m args meth c := C
  unfold fX11_needTray
  refine zs_iload_n (pc := 0) (k := 1) (i := 1) C (by decide +kernel) rfl rfl ?_
  refine zs_jn (pJ := 9) (kJ := 0) (sJ := 0) (fun t1 => []) (fun t1 => []) (fun t1 => ?_) (fun J2 hJ2 => ?_)
  · exact zs_throwNW (pc := 9) (text := "no such tray") (ik := 171) (is_ := 410) (ic := 175) (k := 3) (ix := 13) (rx := prog_34_method_4_code) (Y1 := "java/lang/RuntimeException") C hE hl ⟨by decide, rfl⟩ ⟨by decide +kernel, by decide +kernel, by decide +kernel⟩ wf_1119 wf_169 (by decide +kernel) ex_RX11_175.1 ex_RX11_175.2 (by decide +kernel) (by decide +kernel) (by decide +kernel) (by decide +kernel) ⟨Nat.le_of_ble_eq_true rfl, Nat.le_of_ble_eq_true rfl, Nat.le_of_ble_eq_true rfl, Nat.le_of_ble_eq_true rfl⟩ ⟨Nat.le_of_ble_eq_true rfl, Nat.le_of_ble_eq_true rfl⟩ (by decide +kernel) (by decide +kernel) (by decide +kernel) (by decide +kernel) (by decide +kernel)
  · refine zs_if_lt (pc := 1) (off := 8) (tgt := 9) C (by decide +kernel) (by decide) ?_ ?_
    · exact zs_goj (hJ2 ()) trivial
    · refine zs_iload_n (pc := 4) (k := 1) (i := 1) C (by decide +kernel) rfl rfl ?_
      refine zs_iconst (pc := 5) (n := 4) (x := 4) C (by decide +kernel) (by decide +kernel) ?_
      refine zs_icmp_lt (pc := 6) (off := 14) (tgt := 20) C (by decide +kernel) (by decide) ?_ ?_
      · exact zs_retTv (pc := 20) C hr ⟨Nat.le_of_ble_eq_true rfl, Nat.le_of_ble_eq_true rfl⟩ (by decide +kernel)
      · exact zs_goj (hJ2 ()) trivial
set_option maxRecDepth 20000 in
theorem c_X11_needRow (l : Launch) (g : GC) (hl : l.stackTraces = false) (a0 : Int) : ConT l g yX11_needRow cX11_needRow 2 none (rmd 8 2 12) [sR 0, sI a0] (fun mm => fX11_needRow a0 mm) := by
  refine zs_ofT (by decide +kernel) (Nat.le_of_ble_eq_true rfl) ?_
  intro p e s m args below meth c C hr hE
  replace C : Bd g RX11 cX11_needRow 2 p s m args meth c := C
  unfold fX11_needRow
  refine zs_aload_n (pc := 0) (k := 0) (i := 0) C (by decide +kernel) rfl rfl ?_
  refine zs_iload_n (pc := 1) (k := 1) (i := 1) C (by decide +kernel) rfl rfl ?_
  refine zs_cvTv (pc := 2) (As := [sI a0]) (st := []) C hE (c_X11_needTray l g hl a0) ml_RX11_358 rfl rfl rfl rfl (Nat.le_of_ble_eq_true rfl) ⟨Nat.le_of_ble_eq_true rfl, Nat.le_of_ble_eq_true rfl⟩ ⟨Nat.le_of_ble_eq_true rfl, Nat.le_of_ble_eq_true rfl⟩ ⟨Nat.le_of_ble_eq_true rfl, Nat.le_of_ble_eq_true rfl⟩ (by decide +kernel) ?_
  refine zs_aload_n (pc := 5) (k := 0) (i := 0) C (by decide +kernel) rfl rfl ?_
  refine zs_getR (o' := 88) (pc := 6) (i := 55) (ci := 11) (k := 9) C (by decide +kernel) fl_RX11_55 rfl rfl rfl ?_
  refine zs_getR (o' := 95) (pc := 9) (i := 227) (ci := 9) (k := 2) C (by decide +kernel) fl_RX11_227 rfl rfl rfl ?_
  refine zs_iload_n (pc := 12) (k := 1) (i := 1) C (by decide +kernel) rfl rfl ?_
  refine zs_iald (pc := 13) (o := 95) (n := 4) C (by decide +kernel) rfl (fun hinx1 x1 => ?_)
  refine zs_iconst (pc := 14) (n := (-1)) (x := (-1)) C (by decide +kernel) (by decide +kernel) ?_
  refine zs_icmp_ne (pc := 15) (off := 14) (tgt := 29) C (by decide +kernel) (by decide) ?_ ?_
  · exact zs_retTv (pc := 29) C hr ⟨Nat.le_of_ble_eq_true rfl, Nat.le_of_ble_eq_true rfl⟩ (by decide +kernel)
  · exact zs_throwW (pc := 18) (text := "the tray is missing") (ik := 183) (is_ := 412) (ic := 187) (k := 2) C hE hl ⟨by decide, rfl⟩ ⟨by decide +kernel, by decide +kernel⟩ wf_1187 wf_170 (by decide +kernel) ex_RX11_187.1 ex_RX11_187.2 ⟨Nat.le_of_ble_eq_true rfl, Nat.le_of_ble_eq_true rfl, Nat.le_of_ble_eq_true rfl, Nat.le_of_ble_eq_true rfl⟩ ⟨Nat.le_of_ble_eq_true rfl, Nat.le_of_ble_eq_true rfl⟩ (by decide +kernel) (by decide +kernel) (by decide +kernel) (by decide +kernel) (by decide +kernel)
set_option maxRecDepth 20000 in
theorem c_X10_setAside (l : Launch) (g : GC)  : ConV l g yX10_setAside cX10_setAside 1 (rmd 2 0 0) [sR 19] (fun mm => fX10_setAside  mm) := by
  refine zs_ofV (by decide +kernel) (Nat.le_of_ble_eq_true rfl) ?_
  intro p e s m args below meth c C hr
  replace C : Bd g RX10 cX10_setAside 1 p s m args meth c := C
  unfold fX10_setAside
  refine zs_aload_n (pc := 0) (k := 0) (i := 0) C (by decide +kernel) rfl rfl ?_
  refine zs_getR (o' := 32) (pc := 1) (i := 39) (ci := 10) (k := 6) C (by decide +kernel) fl_RX10_39 rfl rfl rfl ?_
  refine zs_aload_n (pc := 4) (k := 0) (i := 0) C (by decide +kernel) rfl rfl ?_
  refine zs_getR (o' := 27) (pc := 5) (i := 21) (ci := 10) (k := 1) C (by decide +kernel) fl_RX10_21 rfl rfl rfl ?_
  refine zs_cvVv (pc := 8) (As := [sR 27]) (st := []) C (fun _ _ _ => rfl) (c_X5_copyFrom l g 32 27 rfl rfl) ml_RX10_56 rfl rfl rfl rfl (Nat.le_of_ble_eq_true rfl) ⟨Nat.le_of_ble_eq_true rfl, Nat.le_of_ble_eq_true rfl⟩ ⟨Nat.le_of_ble_eq_true rfl, Nat.le_of_ble_eq_true rfl⟩ (by decide +kernel) ?_
  exact zs_retVv (pc := 11) C hr ⟨Nat.le_of_ble_eq_true rfl, Nat.le_of_ble_eq_true rfl⟩ (by decide +kernel)
set_option maxRecDepth 20000 in
theorem c_X9_at (l : Launch) (g : GC) (a0 : Int) (a1 : Int) : ConR l g yX9_at cX9_at 3 (some .long) (rmd 1 0 0) [sR 88, sI a0, sI a1] (fun mm => fX9_at a0 a1 mm) := by
  refine zs_ofR (by decide +kernel) (Nat.le_of_ble_eq_true rfl) ?_
  intro p e s m args below meth c C hr
  replace C : Bd g RX9 cX9_at 3 p s m args meth c := C
  unfold fX9_at
  refine zs_aload_n (pc := 0) (k := 0) (i := 0) C (by decide +kernel) rfl rfl ?_
  refine zs_getR (o' := 89) (pc := 1) (i := 13) (ci := 9) (k := 0) C (by decide +kernel) fl_RX9_13 rfl rfl rfl ?_
  refine zs_iload_n (pc := 4) (k := 1) (i := 1) C (by decide +kernel) rfl rfl ?_
  refine zs_aald (pc := 5) (o := 89) (t := 6) (n := 4) C (by decide) (by decide +kernel) rfl (ly_arr_6_4 rfl) (fun x1 hx1 => ?_)
  refine zs_iload_n (pc := 6) (k := 2) (i := 2) C (by decide +kernel) rfl rfl ?_
  refine zs_lald (pc := 7) (o := x1) (n := 30) C (by decide +kernel) hx1 (fun hinx2 x2 => ?_)
  exact zs_retRl (pc := 8) C hr ⟨Nat.le_of_ble_eq_true rfl, Nat.le_of_ble_eq_true rfl⟩ (by decide +kernel)
set_option maxRecDepth 20000 in
theorem c_X10_doTold (l : Launch) (g : GC) (a0 : Int) (a1 : Int) : ConW l g yX10_doTold cX10_doTold 9 (some .int) (rmd 5 0 0) [sR 19, sL a0, sI a1] (fun mm => fX10_doTold a0 a1 mm) := by
  refine zs_ofW (by decide +kernel) (Nat.le_of_ble_eq_true rfl) ?_
  intro p e s m args below meth c C hr
  replace C : Bd g RX10 cX10_doTold 9 p s m args meth c := C
  unfold fX10_doTold
  refine zs_lload_n (pc := 0) (k := 1) (i := 1) C (by decide +kernel) rfl rfl ?_
  refine zs_ldc2 (pc := 1) (i := 148) (v := (-1)) (x := (-1)) C (by decide +kernel) wf_1271 (by decide +kernel) ?_
  refine zs_jn (pJ := 23) (kJ := 0) (sJ := 0) (fun t1 => [(0, sR 19), (3, sI a1)]) (fun t1 => [sI t1]) (fun t1 => ?_) (fun J2 hJ2 => ?_)
  · refine zs_istore (pc := 23) (i := 4) (ls' := [(4, sI t1), (0, sR 19), (3, sI a1)]) C (by decide +kernel) (Nat.le_of_ble_eq_true rfl) rfl ?_
    refine zs_iload (pc := 25) (i := 4) C (by decide +kernel) rfl ?_
    refine zs_jn (pJ := 43) (kJ := 0) (sJ := 0) (fun t3 => [(0, sR 19), (3, sI a1), (4, sI t1)]) (fun t3 => [sI t3]) (fun t3 => ?_) (fun J4 hJ4 => ?_)
    · refine zs_istore (pc := 43) (i := 5) (ls' := [(5, sI t3), (0, sR 19), (3, sI a1), (4, sI t1)]) C (by decide +kernel) (Nat.le_of_ble_eq_true rfl) rfl ?_
      refine zs_iload (pc := 45) (i := 4) C (by decide +kernel) rfl ?_
      refine zs_sipush (pc := 47) (n := 1000) (x := 1000) C (by decide +kernel) (by decide +kernel) ?_
      refine zs_jn (pJ := 85) (kJ := 0) (sJ := 0) (fun t5 => [(0, sR 19), (3, sI a1), (4, sI t1), (5, sI t3)]) (fun t5 => [sI t5]) (fun t5 => ?_) (fun J6 hJ6 => ?_)
      · refine zs_istore (pc := 85) (i := 6) (ls' := [(6, sI t5), (0, sR 19), (3, sI a1), (4, sI t1), (5, sI t3)]) C (by decide +kernel) (Nat.le_of_ble_eq_true rfl) rfl ?_
        refine zs_iload (pc := 87) (i := 5) C (by decide +kernel) rfl ?_
        refine zs_jn (pJ := 116) (kJ := 0) (sJ := 0) (fun t7 => [(0, sR 19), (3, sI a1), (4, sI t1), (5, sI t3), (6, sI t5)]) (fun t7 => [sI t7]) (fun t7 => ?_) (fun J8 hJ8 => ?_)
        · refine zs_istore (pc := 116) (i := 7) (ls' := [(7, sI t7), (0, sR 19), (3, sI a1), (4, sI t1), (5, sI t3), (6, sI t5)]) C (by decide +kernel) (Nat.le_of_ble_eq_true rfl) rfl ?_
          refine zs_iload (pc := 118) (i := 5) C (by decide +kernel) rfl ?_
          refine zs_jn (pJ := 158) (kJ := 0) (sJ := 0) (fun t9 => [(0, sR 19), (3, sI a1), (4, sI t1), (5, sI t3), (6, sI t5)]) (fun t9 => [sI t9]) (fun t9 => ?_) (fun J10 hJ10 => ?_)
          · refine zs_istore (pc := 158) (i := 8) (ls' := [(8, sI t9), (0, sR 19), (3, sI a1), (4, sI t1), (5, sI t3), (6, sI t5)]) C (by decide +kernel) (Nat.le_of_ble_eq_true rfl) rfl ?_
            refine zs_iload (pc := 160) (i := 8) C (by decide +kernel) rfl ?_
            refine zs_if_eq (pc := 162) (off := 6) (tgt := 168) C (by decide +kernel) (by decide) ?_ ?_
            · refine zs_iload_n (pc := 168) (k := 3) (i := 3) C (by decide +kernel) rfl rfl ?_
              refine zs_jn (pJ := 176) (kJ := 0) (sJ := 0) (fun t11 => [(0, sR 19), (4, sI t1), (5, sI t3), (6, sI t5)]) (fun t11 => []) (fun t11 => ?_) (fun J12 hJ12 => ?_)
              · refine zs_iload (pc := 176) (i := 6) C (by decide +kernel) rfl ?_
                refine zs_jn (pJ := 263) (kJ := 0) (sJ := 0) (fun t13 => []) (fun t13 => []) (fun t13 => ?_) (fun J14 hJ14 => ?_)
                · refine zs_iconst (pc := 263) (n := 0) (x := 0) C (by decide +kernel) (by decide +kernel) ?_
                  exact zs_retWi (pc := 264) C hr ⟨Nat.le_of_ble_eq_true rfl, Nat.le_of_ble_eq_true rfl⟩ (by decide +kernel)
                · refine zs_if_eq (pc := 178) (off := 28) (tgt := 206) C (by decide +kernel) (by decide) ?_ ?_
                  · refine zs_iload (pc := 206) (i := 4) C (by decide +kernel) rfl ?_
                    refine zs_sipush (pc := 208) (n := 2000) (x := 2000) C (by decide +kernel) (by decide +kernel) ?_
                    refine zs_icmp_lt (pc := 211) (off := 21) (tgt := 232) C (by decide +kernel) (by decide) ?_ ?_
                    · refine zs_iload (pc := 232) (i := 5) C (by decide +kernel) rfl ?_
                      refine zs_jn (pJ := 259) (kJ := 0) (sJ := 0) (fun t15 => [(0, sR 19)]) (fun t15 => []) (fun t15 => ?_) (fun J16 hJ16 => ?_)
                      · refine zs_aload_n (pc := 259) (k := 0) (i := 0) C (by decide +kernel) rfl rfl ?_
                        refine zs_cvVv (pc := 260) (As := []) (st := []) C (fun _ _ _ => rfl) (c_X10_passHour l g ) ml_RX10_166 rfl rfl rfl rfl (Nat.le_of_ble_eq_true rfl) ⟨Nat.le_of_ble_eq_true rfl, Nat.le_of_ble_eq_true rfl⟩ ⟨Nat.le_of_ble_eq_true rfl, Nat.le_of_ble_eq_true rfl⟩ (by decide +kernel) ?_
                        exact zs_goj (hJ14 ()) trivial
                      · refine zs_if_eq (pc := 234) (off := 25) (tgt := 259) C (by decide +kernel) (by decide) ?_ ?_
                        · exact zs_goj (hJ16 ()) ⟨rfl, trivial⟩
                        · refine zs_aload_n (pc := 237) (k := 0) (i := 0) C (by decide +kernel) rfl rfl ?_
                          refine zs_iload (pc := 238) (i := 4) C (by decide +kernel) rfl ?_
                          refine zs_bipush (pc := 240) (n := 100) (x := 100) C (by decide +kernel) (by decide +kernel) ?_
                          refine zs_idiv (pc := 242) C (by decide +kernel) (by decide +kernel) ?_
                          refine zs_iload (pc := 243) (i := 4) C (by decide +kernel) rfl ?_
                          refine zs_bipush (pc := 245) (n := 10) (x := 10) C (by decide +kernel) (by decide +kernel) ?_
                          refine zs_idiv (pc := 247) C (by decide +kernel) (by decide +kernel) ?_
                          refine zs_bipush (pc := 248) (n := 10) (x := 10) C (by decide +kernel) (by decide +kernel) ?_
                          refine zs_irem (pc := 250) C (by decide +kernel) (by decide +kernel) ?_
                          refine zs_iload (pc := 251) (i := 4) C (by decide +kernel) rfl ?_
                          refine zs_bipush (pc := 253) (n := 10) (x := 10) C (by decide +kernel) (by decide +kernel) ?_
                          refine zs_irem (pc := 255) C (by decide +kernel) (by decide +kernel) ?_
                          refine zs_cvVv (pc := 256) (As := [sI (Int.tdiv t1 100), sI (Int.tmod (Int.tdiv t1 10) 10), sI (Int.tmod t1 10)]) (st := []) C (fun _ _ _ => rfl) (c_X10_walk l g (Int.tdiv t1 100) (Int.tmod (Int.tdiv t1 10) 10) (Int.tmod t1 10)) ml_RX10_162 rfl rfl rfl rfl (Nat.le_of_ble_eq_true rfl) ⟨Nat.le_of_ble_eq_true rfl, Nat.le_of_ble_eq_true rfl⟩ ⟨Nat.le_of_ble_eq_true rfl, Nat.le_of_ble_eq_true rfl⟩ (by decide +kernel) ?_
                          exact zs_goj (hJ16 ()) ⟨rfl, trivial⟩
                    · refine zs_aload_n (pc := 214) (k := 0) (i := 0) C (by decide +kernel) rfl rfl ?_
                      refine zs_getR (o' := 27) (pc := 215) (i := 21) (ci := 10) (k := 1) C (by decide +kernel) fl_RX10_21 rfl rfl rfl ?_
                      refine zs_iload (pc := 218) (i := 4) C (by decide +kernel) rfl ?_
                      refine zs_sipush (pc := 220) (n := 2000) (x := 2000) C (by decide +kernel) (by decide +kernel) ?_
                      refine zs_isub (pc := 223) C (by decide +kernel) ?_
                      refine zs_bipush (pc := 224) (n := 6) (x := 6) C (by decide +kernel) (by decide +kernel) ?_
                      refine zs_cvVv (pc := 226) (As := [sI (w32 (t1 - 2000)), sI 6]) (st := []) C (fun _ _ _ => rfl) (c_X5_letRain l g (w32 (t1 - 2000)) 6) ml_RX10_158 rfl rfl rfl rfl (Nat.le_of_ble_eq_true rfl) ⟨Nat.le_of_ble_eq_true rfl, Nat.le_of_ble_eq_true rfl⟩ ⟨Nat.le_of_ble_eq_true rfl, Nat.le_of_ble_eq_true rfl⟩ (by decide +kernel) ?_
                      refine zs_goto (pc := 229) (off := 34) (tgt := 263) C (by decide +kernel) (by decide) ?_
                      exact zs_goj (hJ14 ()) trivial
                  · refine zs_aload_n (pc := 181) (k := 0) (i := 0) C (by decide +kernel) rfl rfl ?_
                    refine zs_getR (o' := 27) (pc := 182) (i := 21) (ci := 10) (k := 1) C (by decide +kernel) fl_RX10_21 rfl rfl rfl ?_
                    refine zs_getR (o' := 30) (pc := 185) (i := 92) (ci := 5) (k := 6) C (by decide +kernel) fl_RX10_92 rfl rfl rfl ?_
                    refine zs_iload (pc := 188) (i := 4) C (by decide +kernel) rfl ?_
                    refine zs_sipush (pc := 190) (n := 1000) (x := 1000) C (by decide +kernel) (by decide +kernel) ?_
                    refine zs_isub (pc := 193) C (by decide +kernel) ?_
                    refine zs_bipush (pc := 194) (n := 10) (x := 10) C (by decide +kernel) (by decide +kernel) ?_
                    refine zs_idiv (pc := 196) C (by decide +kernel) (by decide +kernel) ?_
                    refine zs_iload (pc := 197) (i := 4) C (by decide +kernel) rfl ?_
                    refine zs_bipush (pc := 199) (n := 10) (x := 10) C (by decide +kernel) (by decide +kernel) ?_
                    refine zs_irem (pc := 201) C (by decide +kernel) (by decide +kernel) ?_
                    refine zs_iast (pc := 202) (o := 30) (n := 4) C (fun _ _ _ => rfl) (by decide +kernel) rfl ?_
                    refine zs_goto (pc := 203) (off := 60) (tgt := 263) C (by decide +kernel) (by decide) ?_
                    exact zs_goj (hJ14 ()) trivial
              · refine zs_if_eq (pc := 169) (off := 7) (tgt := 176) C (by decide +kernel) (by decide) ?_ ?_
                · exact zs_goj (hJ12 ()) ⟨rfl, rfl, rfl, rfl, trivial⟩
                · refine zs_aload_n (pc := 172) (k := 0) (i := 0) C (by decide +kernel) rfl rfl ?_
                  refine zs_cvVv (pc := 173) (As := []) (st := []) C (fun _ _ _ => rfl) (c_X10_remember l g ) ml_RX10_155 rfl rfl rfl rfl (Nat.le_of_ble_eq_true rfl) ⟨Nat.le_of_ble_eq_true rfl, Nat.le_of_ble_eq_true rfl⟩ ⟨Nat.le_of_ble_eq_true rfl, Nat.le_of_ble_eq_true rfl⟩ (by decide +kernel) ?_
                  exact zs_goj (hJ12 ()) ⟨rfl, rfl, rfl, rfl, trivial⟩
            · refine zs_iload (pc := 165) (i := 8) C (by decide +kernel) rfl ?_
              exact zs_retWi (pc := 167) C hr ⟨Nat.le_of_ble_eq_true rfl, Nat.le_of_ble_eq_true rfl⟩ (by decide +kernel)
          · refine zs_if_eq (pc := 120) (off := 28) (tgt := 148) C (by decide +kernel) (by decide) ?_ ?_
            · refine zs_iload (pc := 148) (i := 7) C (by decide +kernel) rfl ?_
              refine zs_if_eq (pc := 150) (off := 7) (tgt := 157) C (by decide +kernel) (by decide) ?_ ?_
              · refine zs_iconst (pc := 157) (n := 1) (x := 1) C (by decide +kernel) (by decide +kernel) ?_
                exact zs_goj (hJ10 1) ⟨rfl, rfl, rfl, rfl, rfl, trivial⟩
              · refine zs_iconst (pc := 153) (n := 0) (x := 0) C (by decide +kernel) (by decide +kernel) ?_
                refine zs_goto (pc := 154) (off := 4) (tgt := 158) C (by decide +kernel) (by decide) ?_
                exact zs_goj (hJ10 0) ⟨rfl, rfl, rfl, rfl, rfl, trivial⟩
            · refine zs_aload_n (pc := 123) (k := 0) (i := 0) C (by decide +kernel) rfl rfl ?_
              refine zs_iload (pc := 124) (i := 4) C (by decide +kernel) rfl ?_
              refine zs_bipush (pc := 126) (n := 100) (x := 100) C (by decide +kernel) (by decide +kernel) ?_
              refine zs_idiv (pc := 128) C (by decide +kernel) (by decide +kernel) ?_
              refine zs_iload (pc := 129) (i := 4) C (by decide +kernel) rfl ?_
              refine zs_bipush (pc := 131) (n := 10) (x := 10) C (by decide +kernel) (by decide +kernel) ?_
              refine zs_idiv (pc := 133) C (by decide +kernel) (by decide +kernel) ?_
              refine zs_bipush (pc := 134) (n := 10) (x := 10) C (by decide +kernel) (by decide +kernel) ?_
              refine zs_irem (pc := 136) C (by decide +kernel) (by decide +kernel) ?_
              refine zs_iload (pc := 137) (i := 4) C (by decide +kernel) rfl ?_
              refine zs_bipush (pc := 139) (n := 10) (x := 10) C (by decide +kernel) (by decide +kernel) ?_
              refine zs_irem (pc := 141) C (by decide +kernel) (by decide +kernel) ?_
              refine zs_cvWi (pc := 142) (As := [sI (Int.tdiv t1 100), sI (Int.tmod (Int.tdiv t1 10) 10), sI (Int.tmod t1 10)]) (st := []) C (fun _ _ _ => rfl) rfl (c_X10_whyNoStep l g (Int.tdiv t1 100) (Int.tmod (Int.tdiv t1 10) 10) (Int.tmod t1 10)) ml_RX10_152 rfl rfl rfl rfl (Nat.le_of_ble_eq_true rfl) ⟨Nat.le_of_ble_eq_true rfl, Nat.le_of_ble_eq_true rfl⟩ ⟨Nat.le_of_ble_eq_true rfl, Nat.le_of_ble_eq_true rfl⟩ (by decide +kernel) (fun x17 => ?_)
              refine zs_goto (pc := 145) (off := 13) (tgt := 158) C (by decide +kernel) (by decide) ?_
              exact zs_goj (hJ10 x17) ⟨rfl, rfl, rfl, rfl, rfl, trivial⟩
        · refine zs_jn (pJ := 111) (kJ := 0) (sJ := 0) (fun t18 => [(0, sR 19), (3, sI a1), (4, sI t1), (5, sI t3), (6, sI t5)]) (fun t18 => []) (fun t18 => ?_) (fun J19 hJ19 => ?_)
          · refine zs_iconst (pc := 111) (n := 1) (x := 1) C (by decide +kernel) (by decide +kernel) ?_
            refine zs_goto (pc := 112) (off := 4) (tgt := 116) C (by decide +kernel) (by decide) ?_
            exact zs_goj (hJ8 1) ⟨rfl, rfl, rfl, rfl, rfl, trivial⟩
          · refine zs_if_ne (pc := 89) (off := 22) (tgt := 111) C (by decide +kernel) (by decide) ?_ ?_
            · exact zs_goj (hJ19 ()) ⟨rfl, rfl, rfl, rfl, rfl, trivial⟩
            · refine zs_iload (pc := 92) (i := 6) C (by decide +kernel) rfl ?_
              refine zs_if_ne (pc := 94) (off := 17) (tgt := 111) C (by decide +kernel) (by decide) ?_ ?_
              · exact zs_goj (hJ19 ()) ⟨rfl, rfl, rfl, rfl, rfl, trivial⟩
              · refine zs_iload (pc := 97) (i := 4) C (by decide +kernel) rfl ?_
                refine zs_iconst (pc := 99) (n := (-1)) (x := (-1)) C (by decide +kernel) (by decide +kernel) ?_
                refine zs_icmp_eq (pc := 100) (off := 11) (tgt := 111) C (by decide +kernel) (by decide) ?_ ?_
                · exact zs_goj (hJ19 ()) ⟨rfl, rfl, rfl, rfl, rfl, trivial⟩
                · refine zs_iload (pc := 103) (i := 4) C (by decide +kernel) rfl ?_
                  refine zs_sipush (pc := 105) (n := 2000) (x := 2000) C (by decide +kernel) (by decide +kernel) ?_
                  refine zs_icmp_lt (pc := 108) (off := 7) (tgt := 115) C (by decide +kernel) (by decide) ?_ ?_
                  · refine zs_iconst (pc := 115) (n := 0) (x := 0) C (by decide +kernel) (by decide +kernel) ?_
                    exact zs_goj (hJ8 0) ⟨rfl, rfl, rfl, rfl, rfl, trivial⟩
                  · exact zs_goj (hJ19 ()) ⟨rfl, rfl, rfl, rfl, rfl, trivial⟩
      · refine zs_jn (pJ := 84) (kJ := 0) (sJ := 0) (fun t20 => [(0, sR 19), (3, sI a1), (4, sI t1), (5, sI t3)]) (fun t20 => []) (fun t20 => ?_) (fun J21 hJ21 => ?_)
        · refine zs_iconst (pc := 84) (n := 0) (x := 0) C (by decide +kernel) (by decide +kernel) ?_
          exact zs_goj (hJ6 0) ⟨rfl, rfl, rfl, rfl, trivial⟩
        · refine zs_icmp_lt (pc := 50) (off := 34) (tgt := 84) C (by decide +kernel) (by decide) ?_ ?_
          · exact zs_goj (hJ21 ()) ⟨rfl, rfl, rfl, rfl, trivial⟩
          · refine zs_iload (pc := 53) (i := 4) C (by decide +kernel) rfl ?_
            refine zs_sipush (pc := 55) (n := 1040) (x := 1040) C (by decide +kernel) (by decide +kernel) ?_
            refine zs_icmp_ge (pc := 58) (off := 26) (tgt := 84) C (by decide +kernel) (by decide) ?_ ?_
            · exact zs_goj (hJ21 ()) ⟨rfl, rfl, rfl, rfl, trivial⟩
            · refine zs_iload (pc := 61) (i := 4) C (by decide +kernel) rfl ?_
              refine zs_sipush (pc := 63) (n := 1000) (x := 1000) C (by decide +kernel) (by decide +kernel) ?_
              refine zs_isub (pc := 66) C (by decide +kernel) ?_
              refine zs_bipush (pc := 67) (n := 10) (x := 10) C (by decide +kernel) (by decide +kernel) ?_
              refine zs_idiv (pc := 69) C (by decide +kernel) (by decide +kernel) ?_
              refine zs_aload_n (pc := 70) (k := 0) (i := 0) C (by decide +kernel) rfl rfl ?_
              refine zs_getR (o' := 20) (pc := 71) (i := 12) (ci := 10) (k := 0) C (by decide +kernel) fl_RX10_12 rfl rfl rfl ?_
              refine zs_getI (pc := 74) (i := 65) (ci := 3) (k := 5) C (by decide +kernel) fl_RX10_65 rfl rfl (fun x22 => ?_)
              refine zs_icmp_ge (pc := 77) (off := 7) (tgt := 84) C (by decide +kernel) (by decide) ?_ ?_
              · exact zs_goj (hJ21 ()) ⟨rfl, rfl, rfl, rfl, trivial⟩
              · refine zs_iconst (pc := 80) (n := 1) (x := 1) C (by decide +kernel) (by decide +kernel) ?_
                refine zs_goto (pc := 81) (off := 4) (tgt := 85) C (by decide +kernel) (by decide) ?_
                exact zs_goj (hJ6 1) ⟨rfl, rfl, rfl, rfl, trivial⟩
    · refine zs_jn (pJ := 42) (kJ := 0) (sJ := 0) (fun t23 => [(0, sR 19), (3, sI a1), (4, sI t1)]) (fun t23 => []) (fun t23 => ?_) (fun J24 hJ24 => ?_)
      · refine zs_iconst (pc := 42) (n := 0) (x := 0) C (by decide +kernel) (by decide +kernel) ?_
        exact zs_goj (hJ4 0) ⟨rfl, rfl, rfl, trivial⟩
      · refine zs_if_lt (pc := 27) (off := 15) (tgt := 42) C (by decide +kernel) (by decide) ?_ ?_
        · exact zs_goj (hJ24 ()) ⟨rfl, rfl, rfl, trivial⟩
        · refine zs_iload (pc := 30) (i := 4) C (by decide +kernel) rfl ?_
          refine zs_sipush (pc := 32) (n := 400) (x := 400) C (by decide +kernel) (by decide +kernel) ?_
          refine zs_icmp_ge (pc := 35) (off := 7) (tgt := 42) C (by decide +kernel) (by decide) ?_ ?_
          · exact zs_goj (hJ24 ()) ⟨rfl, rfl, rfl, trivial⟩
          · refine zs_iconst (pc := 38) (n := 1) (x := 1) C (by decide +kernel) (by decide +kernel) ?_
            refine zs_goto (pc := 39) (off := 4) (tgt := 43) C (by decide +kernel) (by decide) ?_
            exact zs_goj (hJ4 1) ⟨rfl, rfl, rfl, trivial⟩
  · refine zs_jn (pJ := 16) (kJ := 0) (sJ := 0) (fun t25 => [(0, sR 19), (3, sI a1)]) (fun t25 => []) (fun t25 => ?_) (fun J26 hJ26 => ?_)
    · refine zs_bipush (pc := 16) (n := (-2)) (x := (-2)) C (by decide +kernel) (by decide +kernel) ?_
      refine zs_goto (pc := 18) (off := 5) (tgt := 23) C (by decide +kernel) (by decide) ?_
      exact zs_goj (hJ2 (-2)) ⟨rfl, rfl, trivial⟩
    · refine zs_lcmp_lt (pc := 4) (off := 11) (tgt := 16) C (by decide +kernel) (by decide +kernel) (by decide) ?_ ?_
      · exact zs_goj (hJ26 ()) ⟨rfl, rfl, trivial⟩
      · refine zs_lload_n (pc := 8) (k := 1) (i := 1) C (by decide +kernel) rfl rfl ?_
        refine zs_ldc2 (pc := 9) (i := 150) (v := 2009) (x := 2009) C (by decide +kernel) wf_1272 (by decide +kernel) ?_
        refine zs_lcmp_le (pc := 12) (off := 8) (tgt := 21) C (by decide +kernel) (by decide +kernel) (by decide) ?_ ?_
        · refine zs_lload_n (pc := 21) (k := 1) (i := 1) C (by decide +kernel) rfl rfl ?_
          refine zs_l2i (pc := 22) C (by decide +kernel) ?_
          exact zs_goj (hJ2 (w32 a0)) ⟨rfl, rfl, trivial⟩
        · exact zs_goj (hJ26 ()) ⟨rfl, rfl, trivial⟩
set_option maxRecDepth 20000 in
theorem c_X10_takeUpAgain (l : Launch) (g : GC)  : ConV l g yX10_takeUpAgain cX10_takeUpAgain 1 (rmd 2 0 0) [sR 19] (fun mm => fX10_takeUpAgain  mm) := by
  refine zs_ofV (by decide +kernel) (Nat.le_of_ble_eq_true rfl) ?_
  intro p e s m args below meth c C hr
  replace C : Bd g RX10 cX10_takeUpAgain 1 p s m args meth c := C
  unfold fX10_takeUpAgain
  refine zs_aload_n (pc := 0) (k := 0) (i := 0) C (by decide +kernel) rfl rfl ?_
  refine zs_getR (o' := 27) (pc := 1) (i := 21) (ci := 10) (k := 1) C (by decide +kernel) fl_RX10_21 rfl rfl rfl ?_
  refine zs_aload_n (pc := 4) (k := 0) (i := 0) C (by decide +kernel) rfl rfl ?_
  refine zs_getR (o' := 32) (pc := 5) (i := 39) (ci := 10) (k := 6) C (by decide +kernel) fl_RX10_39 rfl rfl rfl ?_
  refine zs_cvVv (pc := 8) (As := [sR 32]) (st := []) C (fun _ _ _ => rfl) (c_X5_copyFrom l g 27 32 rfl rfl) ml_RX10_56 rfl rfl rfl rfl (Nat.le_of_ble_eq_true rfl) ⟨Nat.le_of_ble_eq_true rfl, Nat.le_of_ble_eq_true rfl⟩ ⟨Nat.le_of_ble_eq_true rfl, Nat.le_of_ble_eq_true rfl⟩ (by decide +kernel) ?_
  exact zs_retVv (pc := 11) C hr ⟨Nat.le_of_ble_eq_true rfl, Nat.le_of_ble_eq_true rfl⟩ (by decide +kernel)
set_option maxRecDepth 20000 in
theorem c_X11_judge (l : Launch) (g : GC) (hl : l.stackTraces = false) (a0 : Int) (a1 : Int) : ConT l g yX11_judge cX11_judge 8 (some .int) (rmd 9 3 18) [sR 0, sI a0, sI a1] (fun mm => fX11_judge a0 a1 mm) := by
  refine zs_ofT (by decide +kernel) (Nat.le_of_ble_eq_true rfl) ?_
  intro p e s m args below meth c C hr hE
  replace C : Bd g RX11 cX11_judge 8 p s m args meth c := C
  unfold fX11_judge
  refine zs_aload_n (pc := 0) (k := 0) (i := 0) C (by decide +kernel) rfl rfl ?_
  refine zs_iload_n (pc := 1) (k := 1) (i := 1) C (by decide +kernel) rfl rfl ?_
  refine zs_cvTv (pc := 2) (As := [sI a0]) (st := []) C hE (c_X11_needRow l g hl a0) ml_RX11_224 rfl rfl rfl rfl (Nat.le_of_ble_eq_true rfl) ⟨Nat.le_of_ble_eq_true rfl, Nat.le_of_ble_eq_true rfl⟩ ⟨Nat.le_of_ble_eq_true rfl, Nat.le_of_ble_eq_true rfl⟩ ⟨Nat.le_of_ble_eq_true rfl, Nat.le_of_ble_eq_true rfl⟩ (by decide +kernel) ?_
  refine zs_aload_n (pc := 5) (k := 0) (i := 0) C (by decide +kernel) rfl rfl ?_
  refine zs_iload_n (pc := 6) (k := 2) (i := 2) C (by decide +kernel) rfl rfl ?_
  refine zs_iconst (pc := 7) (n := 0) (x := 0) C (by decide +kernel) (by decide +kernel) ?_
  refine zs_iconst (pc := 8) (n := 3) (x := 3) C (by decide +kernel) (by decide +kernel) ?_
  refine zs_cvTv (pc := 9) (As := [sI a1, sI 0, sI 3]) (st := []) C hE (c_X11_needWithin l g hl a1 0 3) ml_RX11_179 rfl rfl rfl rfl (Nat.le_of_ble_eq_true rfl) ⟨Nat.le_of_ble_eq_true rfl, Nat.le_of_ble_eq_true rfl⟩ ⟨Nat.le_of_ble_eq_true rfl, Nat.le_of_ble_eq_true rfl⟩ ⟨Nat.le_of_ble_eq_true rfl, Nat.le_of_ble_eq_true rfl⟩ (by decide +kernel) ?_
  refine zs_aload_n (pc := 12) (k := 0) (i := 0) C (by decide +kernel) rfl rfl ?_
  refine zs_getR (o' := 88) (pc := 13) (i := 55) (ci := 11) (k := 9) C (by decide +kernel) fl_RX11_55 rfl rfl rfl ?_
  refine zs_getR (o' := 95) (pc := 16) (i := 227) (ci := 9) (k := 2) C (by decide +kernel) fl_RX11_227 rfl rfl rfl ?_
  refine zs_iload_n (pc := 19) (k := 1) (i := 1) C (by decide +kernel) rfl rfl ?_
  refine zs_iald (pc := 20) (o := 95) (n := 4) C (by decide +kernel) rfl (fun hinx1 x1 => ?_)
  refine zs_istore_n (pc := 21) (k := 3) (i := 3) (ls' := [(3, sI x1), (0, sR 0), (1, sI a0), (2, sI a1)]) C (by decide +kernel) rfl (Nat.le_of_ble_eq_true rfl) rfl ?_
  refine zs_iconst (pc := 22) (n := 0) (x := 0) C (by decide +kernel) (by decide +kernel) ?_
  refine zs_istore (pc := 23) (i := 4) (ls' := [(4, sI 0), (3, sI x1), (0, sR 0), (1, sI a0), (2, sI a1)]) C (by decide +kernel) (Nat.le_of_ble_eq_true rfl) rfl ?_
  refine zs_iconst (pc := 25) (n := 0) (x := 0) C (by decide +kernel) (by decide +kernel) ?_
  refine zs_istore (pc := 26) (i := 5) (ls' := [(5, sI 0), (4, sI 0), (3, sI x1), (0, sR 0), (1, sI a0), (2, sI a1)]) C (by decide +kernel) (Nat.le_of_ble_eq_true rfl) rfl ?_
  refine zs_aload_n (pc := 28) (k := 0) (i := 0) C (by decide +kernel) rfl rfl ?_
  refine zs_getR (o' := 19) (pc := 29) (i := 41) (ci := 11) (k := 6) C (by decide +kernel) fl_RX11_41 rfl rfl rfl ?_
  refine zs_cvVv (pc := 32) (As := []) (st := []) C (fun _ _ _ => rfl) (c_X10_setAside l g ) ml_RX11_230 rfl rfl rfl rfl (Nat.le_of_ble_eq_true rfl) ⟨Nat.le_of_ble_eq_true rfl, Nat.le_of_ble_eq_true rfl⟩ ⟨Nat.le_of_ble_eq_true rfl, Nat.le_of_ble_eq_true rfl⟩ (by decide +kernel) ?_
  refine zs_iconst (pc := 35) (n := 0) (x := 0) C (by decide +kernel) (by decide +kernel) ?_
  refine zs_istore (pc := 36) (i := 6) (ls' := [(6, sI 0), (5, sI 0), (4, sI 0), (3, sI x1), (0, sR 0), (1, sI a0), (2, sI a1)]) C (by decide +kernel) (Nat.le_of_ble_eq_true rfl) rfl ?_
  refine zs_sub (ls' := [(0, sR 0), (1, sI a0), (2, sI a1), (3, sI x1), (4, sI 0), (5, sI 0), (6, sI 0)]) ⟨rfl, rfl, rfl, rfl, rfl, rfl, rfl, trivial⟩ ?_
  refine zs_lp (pc := 38) (fun (t2 : Int × Int × Int) => [(0, sR 0), (1, sI a0), (2, sI a1), (3, sI x1), (4, sI t2.1), (5, sI t2.2.1), (6, sI t2.2.2)]) (fun _ => []) (fun K3 hK3 t2 => ?_) BIG (0, 0, 0)
  refine zs_iload (pc := 38) (i := 6) C (by decide +kernel) rfl ?_
  refine zs_iload_n (pc := 40) (k := 3) (i := 3) C (by decide +kernel) rfl rfl ?_
  refine zs_jn (pJ := 90) (kJ := 3) (sJ := 18) (fun t4 => [(0, sR 0), (2, sI a1), (4, sI t2.1), (5, sI t2.2.1)]) (fun t4 => []) (fun t4 => ?_) (fun J5 hJ5 => ?_)
  · refine zs_aload_n (pc := 90) (k := 0) (i := 0) C (by decide +kernel) rfl rfl ?_
    refine zs_getR (o' := 19) (pc := 91) (i := 41) (ci := 11) (k := 6) C (by decide +kernel) fl_RX11_41 rfl rfl rfl ?_
    refine zs_getR (o' := 27) (pc := 94) (i := 141) (ci := 10) (k := 1) C (by decide +kernel) fl_RX11_141 rfl rfl rfl ?_
    refine zs_getI (pc := 97) (i := 156) (ci := 5) (k := 0) C (by decide +kernel) fl_RX11_156 rfl rfl (fun x6 => ?_)
    refine zs_istore (pc := 100) (i := 6) (ls' := [(6, sI x6), (0, sR 0), (2, sI a1), (4, sI t2.1), (5, sI t2.2.1)]) C (by decide +kernel) (Nat.le_of_ble_eq_true rfl) rfl ?_
    refine zs_aload_n (pc := 102) (k := 0) (i := 0) C (by decide +kernel) rfl rfl ?_
    refine zs_getR (o' := 19) (pc := 103) (i := 41) (ci := 11) (k := 6) C (by decide +kernel) fl_RX11_41 rfl rfl rfl ?_
    refine zs_getR (o' := 27) (pc := 106) (i := 141) (ci := 10) (k := 1) C (by decide +kernel) fl_RX11_141 rfl rfl rfl ?_
    refine zs_getI (pc := 109) (i := 213) (ci := 5) (k := 3) C (by decide +kernel) fl_RX11_213 rfl rfl (fun x7 => ?_)
    refine zs_istore (pc := 112) (i := 7) (ls' := [(7, sI x7), (6, sI x6), (0, sR 0), (2, sI a1), (4, sI t2.1), (5, sI t2.2.1)]) C (by decide +kernel) (Nat.le_of_ble_eq_true rfl) rfl ?_
    refine zs_aload_n (pc := 114) (k := 0) (i := 0) C (by decide +kernel) rfl rfl ?_
    refine zs_getR (o' := 19) (pc := 115) (i := 41) (ci := 11) (k := 6) C (by decide +kernel) fl_RX11_41 rfl rfl rfl ?_
    refine zs_cvVv (pc := 118) (As := []) (st := []) C (fun _ _ _ => rfl) (c_X10_takeUpAgain l g ) ml_RX11_241 rfl rfl rfl rfl (Nat.le_of_ble_eq_true rfl) ⟨Nat.le_of_ble_eq_true rfl, Nat.le_of_ble_eq_true rfl⟩ ⟨Nat.le_of_ble_eq_true rfl, Nat.le_of_ble_eq_true rfl⟩ (by decide +kernel) ?_
    refine zs_iload_n (pc := 121) (k := 2) (i := 2) C (by decide +kernel) rfl rfl ?_
    refine zs_ite (fun hc0 => ?_) (fun hc0 => ?_)
    · refine zs_tswI (pc := 122) (dflt := 44) (lo := 0) (hi := 2) (offs := #[26, 38, 41]) (len := 26) (i := 0) (off := 26) (tgt := 148) C (by decide +kernel) hc0 (by decide) rfl (by decide) ?_
      refine zs_iload (pc := 148) (i := 5) C (by decide +kernel) rfl ?_
      refine zs_jn (pJ := 159) (kJ := 3) (sJ := 18) (fun t8 => []) (fun t8 => [sI t8]) (fun t8 => ?_) (fun J9 hJ9 => ?_)
      · exact zs_retTi (pc := 159) C hr ⟨Nat.le_of_ble_eq_true rfl, Nat.le_of_ble_eq_true rfl⟩ (by decide +kernel)
      · refine zs_if_ne (pc := 150) (off := 7) (tgt := 157) C (by decide +kernel) (by decide) ?_ ?_
        · refine zs_iload (pc := 157) (i := 4) C (by decide +kernel) rfl ?_
          exact zs_goj (hJ9 t2.1) trivial
        · refine zs_iconst (pc := 153) (n := (-1)) (x := (-1)) C (by decide +kernel) (by decide +kernel) ?_
          refine zs_goto (pc := 154) (off := 5) (tgt := 159) C (by decide +kernel) (by decide) ?_
          exact zs_goj (hJ9 (-1)) trivial
    · refine zs_ite (fun hc1 => ?_) (fun hc1 => ?_)
      · refine zs_tswI (pc := 122) (dflt := 44) (lo := 0) (hi := 2) (offs := #[26, 38, 41]) (len := 26) (i := 1) (off := 38) (tgt := 160) C (by decide +kernel) hc1 (by decide) rfl (by decide) ?_
        refine zs_iload (pc := 160) (i := 5) C (by decide +kernel) rfl ?_
        exact zs_retTi (pc := 162) C hr ⟨Nat.le_of_ble_eq_true rfl, Nat.le_of_ble_eq_true rfl⟩ (by decide +kernel)
      · refine zs_ite (fun hc2 => ?_) (fun hc2 => ?_)
        · refine zs_tswI (pc := 122) (dflt := 44) (lo := 0) (hi := 2) (offs := #[26, 38, 41]) (len := 26) (i := 2) (off := 41) (tgt := 163) C (by decide +kernel) hc2 (by decide) rfl (by decide) ?_
          refine zs_iload (pc := 163) (i := 6) C (by decide +kernel) rfl ?_
          exact zs_retTi (pc := 165) C hr ⟨Nat.le_of_ble_eq_true rfl, Nat.le_of_ble_eq_true rfl⟩ (by decide +kernel)
        · refine zs_tswD (pc := 122) (dflt := 44) (lo := 0) (hi := 2) (offs := #[26, 38, 41]) (len := 26) (tgt := 166) C (by decide +kernel) (by omega) (by decide) ?_
          refine zs_iload (pc := 166) (i := 7) C (by decide +kernel) rfl ?_
          exact zs_retTi (pc := 168) C hr ⟨Nat.le_of_ble_eq_true rfl, Nat.le_of_ble_eq_true rfl⟩ (by decide +kernel)
  · refine zs_icmp_ge (pc := 41) (off := 49) (tgt := 90) C (by decide +kernel) (by decide) ?_ ?_
    · exact zs_goj (hJ5 ()) ⟨rfl, rfl, rfl, rfl, trivial⟩
    · refine zs_iload (pc := 44) (i := 5) C (by decide +kernel) rfl ?_
      refine zs_if_ne (pc := 46) (off := 44) (tgt := 90) C (by decide +kernel) (by decide) ?_ ?_
      · exact zs_goj (hJ5 ()) ⟨rfl, rfl, rfl, rfl, trivial⟩
      · refine zs_aload_n (pc := 49) (k := 0) (i := 0) C (by decide +kernel) rfl rfl ?_
        refine zs_getR (o' := 19) (pc := 50) (i := 41) (ci := 11) (k := 6) C (by decide +kernel) fl_RX11_41 rfl rfl rfl ?_
        refine zs_aload_n (pc := 53) (k := 0) (i := 0) C (by decide +kernel) rfl rfl ?_
        refine zs_getR (o' := 88) (pc := 54) (i := 55) (ci := 11) (k := 9) C (by decide +kernel) fl_RX11_55 rfl rfl rfl ?_
        refine zs_iload_n (pc := 57) (k := 1) (i := 1) C (by decide +kernel) rfl rfl ?_
        refine zs_iload (pc := 58) (i := 6) C (by decide +kernel) rfl ?_
        refine zs_cvRl (pc := 60) (As := [sI a0, sI t2.2.2]) (st := [sR 19]) C (c_X9_at l g a0 t2.2.2) ml_RX11_233 rfl rfl rfl rfl (Nat.le_of_ble_eq_true rfl) ⟨Nat.le_of_ble_eq_true rfl, Nat.le_of_ble_eq_true rfl⟩ ⟨Nat.le_of_ble_eq_true rfl, Nat.le_of_ble_eq_true rfl⟩ (by decide +kernel) (fun x10 => ?_)
        refine zs_iconst (pc := 63) (n := 0) (x := 0) C (by decide +kernel) (by decide +kernel) ?_
        refine zs_cvWi (pc := 64) (As := [sL x10, sI 0]) (st := []) C (fun _ _ _ => rfl) rfl (c_X10_doTold l g x10 0) ml_RX11_237 rfl rfl rfl rfl (Nat.le_of_ble_eq_true rfl) ⟨Nat.le_of_ble_eq_true rfl, Nat.le_of_ble_eq_true rfl⟩ ⟨Nat.le_of_ble_eq_true rfl, Nat.le_of_ble_eq_true rfl⟩ (by decide +kernel) (fun x11 => ?_)
        refine zs_istore (pc := 67) (i := 5) (ls' := [(5, sI x11), (0, sR 0), (1, sI a0), (2, sI a1), (3, sI x1), (4, sI t2.1), (6, sI t2.2.2)]) C (by decide +kernel) (Nat.le_of_ble_eq_true rfl) rfl ?_
        refine zs_iload (pc := 69) (i := 4) C (by decide +kernel) rfl ?_
        refine zs_iload (pc := 71) (i := 5) C (by decide +kernel) rfl ?_
        refine zs_jn (pJ := 81) (kJ := 3) (sJ := 18) (fun t12 => [(0, sR 0), (1, sI a0), (2, sI a1), (3, sI x1), (5, sI x11), (6, sI t2.2.2)]) (fun t12 => [sI t12, sI t2.1]) (fun t12 => ?_) (fun J13 hJ13 => ?_)
        · refine zs_iadd (pc := 81) C (by decide +kernel) ?_
          refine zs_let (fun x14 => ?_)
          refine zs_istore (pc := 82) (i := 4) (ls' := [(4, sI x14), (0, sR 0), (1, sI a0), (2, sI a1), (3, sI x1), (5, sI x11), (6, sI t2.2.2)]) C (by decide +kernel) (Nat.le_of_ble_eq_true rfl) rfl ?_
          refine zs_iinc (pc := 84) (i := 6) (n := 1) (y := w32 (t2.2.2 + 1)) (ls' := [(6, sI (w32 (t2.2.2 + 1))), (4, sI x14), (0, sR 0), (1, sI a0), (2, sI a1), (3, sI x1), (5, sI x11)]) C (by decide +kernel) rfl rfl (Nat.le_of_ble_eq_true rfl) rfl ?_
          refine zs_goto (pc := 87) (off := (-49)) (tgt := 38) C (by decide +kernel) (by decide) ?_
          exact zs_goj (hK3 (x14, x11, w32 (t2.2.2 + 1))) ⟨rfl, rfl, rfl, rfl, rfl, rfl, rfl, trivial⟩
        · refine zs_if_ne (pc := 73) (off := 7) (tgt := 80) C (by decide +kernel) (by decide) ?_ ?_
          · refine zs_iconst (pc := 80) (n := 0) (x := 0) C (by decide +kernel) (by decide +kernel) ?_
            exact zs_goj (hJ13 0) ⟨rfl, rfl, rfl, rfl, rfl, rfl, trivial⟩
          · refine zs_iconst (pc := 76) (n := 1) (x := 1) C (by decide +kernel) (by decide +kernel) ?_
            refine zs_goto (pc := 77) (off := 4) (tgt := 81) C (by decide +kernel) (by decide) ?_
            exact zs_goj (hJ13 1) ⟨rfl, rfl, rfl, rfl, rfl, rfl, trivial⟩
set_option maxRecDepth 20000 in
theorem c_X11_perform (l : Launch) (g : GC) (hl : l.stackTraces = false) (a0 : Int) : ConT l g yX11_perform cX11_perform 4 (some .int) (rmd 9 2 12) [sR 0, sI a0] (fun mm => fX11_perform a0 mm) := by
  refine zs_ofT (by decide +kernel) (Nat.le_of_ble_eq_true rfl) ?_
  intro p e s m args below meth c C hr hE
  replace C : Bd g RX11 cX11_perform 4 p s m args meth c := C
  unfold fX11_perform
  refine zs_aload_n (pc := 0) (k := 0) (i := 0) C (by decide +kernel) rfl rfl ?_
  refine zs_iload_n (pc := 1) (k := 1) (i := 1) C (by decide +kernel) rfl rfl ?_
  refine zs_cvTv (pc := 2) (As := [sI a0]) (st := []) C hE (c_X11_needRow l g hl a0) ml_RX11_224 rfl rfl rfl rfl (Nat.le_of_ble_eq_true rfl) ⟨Nat.le_of_ble_eq_true rfl, Nat.le_of_ble_eq_true rfl⟩ ⟨Nat.le_of_ble_eq_true rfl, Nat.le_of_ble_eq_true rfl⟩ ⟨Nat.le_of_ble_eq_true rfl, Nat.le_of_ble_eq_true rfl⟩ (by decide +kernel) ?_
  refine zs_aload_n (pc := 5) (k := 0) (i := 0) C (by decide +kernel) rfl rfl ?_
  refine zs_getR (o' := 88) (pc := 6) (i := 55) (ci := 11) (k := 9) C (by decide +kernel) fl_RX11_55 rfl rfl rfl ?_
  refine zs_getR (o' := 95) (pc := 9) (i := 227) (ci := 9) (k := 2) C (by decide +kernel) fl_RX11_227 rfl rfl rfl ?_
  refine zs_iload_n (pc := 12) (k := 1) (i := 1) C (by decide +kernel) rfl rfl ?_
  refine zs_iald (pc := 13) (o := 95) (n := 4) C (by decide +kernel) rfl (fun hinx1 x1 => ?_)
  refine zs_istore_n (pc := 14) (k := 2) (i := 2) (ls' := [(2, sI x1), (0, sR 0), (1, sI a0)]) C (by decide +kernel) rfl (Nat.le_of_ble_eq_true rfl) rfl ?_
  refine zs_iconst (pc := 15) (n := 0) (x := 0) C (by decide +kernel) (by decide +kernel) ?_
  refine zs_istore_n (pc := 16) (k := 3) (i := 3) (ls' := [(3, sI 0), (2, sI x1), (0, sR 0), (1, sI a0)]) C (by decide +kernel) rfl (Nat.le_of_ble_eq_true rfl) rfl ?_
  refine zs_sub (ls' := [(0, sR 0), (1, sI a0), (2, sI x1), (3, sI 0)]) ⟨rfl, rfl, rfl, rfl, trivial⟩ ?_
  refine zs_lp (pc := 17) (fun (t2 : Int) => [(0, sR 0), (1, sI a0), (2, sI x1), (3, sI t2)]) (fun _ => []) (fun K3 hK3 t2 => ?_) BIG 0
  refine zs_iload_n (pc := 17) (k := 3) (i := 3) C (by decide +kernel) rfl rfl ?_
  refine zs_iload_n (pc := 18) (k := 2) (i := 2) C (by decide +kernel) rfl rfl ?_
  refine zs_icmp_ge (pc := 19) (off := 31) (tgt := 50) C (by decide +kernel) (by decide) ?_ ?_
  · refine zs_iload_n (pc := 50) (k := 2) (i := 2) C (by decide +kernel) rfl rfl ?_
    exact zs_retTi (pc := 51) C hr ⟨Nat.le_of_ble_eq_true rfl, Nat.le_of_ble_eq_true rfl⟩ (by decide +kernel)
  · refine zs_aload_n (pc := 22) (k := 0) (i := 0) C (by decide +kernel) rfl rfl ?_
    refine zs_getR (o' := 19) (pc := 23) (i := 41) (ci := 11) (k := 6) C (by decide +kernel) fl_RX11_41 rfl rfl rfl ?_
    refine zs_aload_n (pc := 26) (k := 0) (i := 0) C (by decide +kernel) rfl rfl ?_
    refine zs_getR (o' := 88) (pc := 27) (i := 55) (ci := 11) (k := 9) C (by decide +kernel) fl_RX11_55 rfl rfl rfl ?_
    refine zs_iload_n (pc := 30) (k := 1) (i := 1) C (by decide +kernel) rfl rfl ?_
    refine zs_iload_n (pc := 31) (k := 3) (i := 3) C (by decide +kernel) rfl rfl ?_
    refine zs_cvRl (pc := 32) (As := [sI a0, sI t2]) (st := [sR 19]) C (c_X9_at l g a0 t2) ml_RX11_233 rfl rfl rfl rfl (Nat.le_of_ble_eq_true rfl) ⟨Nat.le_of_ble_eq_true rfl, Nat.le_of_ble_eq_true rfl⟩ ⟨Nat.le_of_ble_eq_true rfl, Nat.le_of_ble_eq_true rfl⟩ (by decide +kernel) (fun x4 => ?_)
    refine zs_iconst (pc := 35) (n := 1) (x := 1) C (by decide +kernel) (by decide +kernel) ?_
    refine zs_cvWi (pc := 36) (As := [sL x4, sI 1]) (st := []) C (fun _ _ _ => rfl) rfl (c_X10_doTold l g x4 1) ml_RX11_237 rfl rfl rfl rfl (Nat.le_of_ble_eq_true rfl) ⟨Nat.le_of_ble_eq_true rfl, Nat.le_of_ble_eq_true rfl⟩ ⟨Nat.le_of_ble_eq_true rfl, Nat.le_of_ble_eq_true rfl⟩ (by decide +kernel) (fun x5 => ?_)
    refine zs_if_eq (pc := 39) (off := 5) (tgt := 44) C (by decide +kernel) (by decide) ?_ ?_
    · refine zs_iinc (pc := 44) (i := 3) (n := 1) (y := w32 (t2 + 1)) (ls' := [(3, sI (w32 (t2 + 1))), (0, sR 0), (1, sI a0), (2, sI x1)]) C (by decide +kernel) rfl rfl (Nat.le_of_ble_eq_true rfl) rfl ?_
      refine zs_goto (pc := 47) (off := (-30)) (tgt := 17) C (by decide +kernel) (by decide) ?_
      exact zs_goj (hK3 (w32 (t2 + 1))) ⟨rfl, rfl, rfl, rfl, trivial⟩
    · refine zs_iload_n (pc := 42) (k := 3) (i := 3) C (by decide +kernel) rfl rfl ?_
      exact zs_retTi (pc := 43) C hr ⟨Nat.le_of_ble_eq_true rfl, Nat.le_of_ble_eq_true rfl⟩ (by decide +kernel)
set_option maxRecDepth 20000 in
theorem c_X10_drawBelow (l : Launch) (g : GC) (a0 : Int) : ConW l g yX10_drawBelow cX10_drawBelow 2 (some .int) (rmd 1 0 0) [sR 19, sI a0] (fun mm => fX10_drawBelow a0 mm) := by
  refine zs_ofW (by decide +kernel) (Nat.le_of_ble_eq_true rfl) ?_
  intro p e s m args below meth c C hr
  replace C : Bd g RX10 cX10_drawBelow 2 p s m args meth c := C
  unfold fX10_drawBelow
  refine zs_aload_n (pc := 0) (k := 0) (i := 0) C (by decide +kernel) rfl rfl ?_
  refine zs_ldc (pc := 1) (i := 169) (v := 1103515245) (x := 1103515245) C (by decide +kernel) wf_1304 (by decide +kernel) ?_
  refine zs_aload_n (pc := 3) (k := 0) (i := 0) C (by decide +kernel) rfl rfl ?_
  refine zs_getI (pc := 4) (i := 29) (ci := 10) (k := 3) C (by decide +kernel) fl_RX10_29 rfl rfl (fun x1 => ?_)
  refine zs_imul (pc := 7) C (by decide +kernel) ?_
  refine zs_sipush (pc := 8) (n := 12345) (x := 12345) C (by decide +kernel) (by decide +kernel) ?_
  refine zs_iadd (pc := 11) C (by decide +kernel) ?_
  refine zs_putI (pc := 12) (i := 29) (ci := 10) (k := 3) C (fun _ _ _ => rfl) (by decide +kernel) fl_RX10_29 fw_10_3 rfl rfl ?_
  refine zs_iload_n (pc := 15) (k := 1) (i := 1) C (by decide +kernel) rfl rfl ?_
  refine zs_iconst (pc := 16) (n := 1) (x := 1) C (by decide +kernel) (by decide +kernel) ?_
  refine zs_jn (pJ := 33) (kJ := 0) (sJ := 0) (fun t2 => []) (fun t2 => [sI t2]) (fun t2 => ?_) (fun J3 hJ3 => ?_)
  · exact zs_retWi (pc := 33) C hr ⟨Nat.le_of_ble_eq_true rfl, Nat.le_of_ble_eq_true rfl⟩ (by decide +kernel)
  · refine zs_icmp_ge (pc := 17) (off := 7) (tgt := 24) C (by decide +kernel) (by decide) ?_ ?_
    · refine zs_aload_n (pc := 24) (k := 0) (i := 0) C (by decide +kernel) rfl rfl ?_
      refine zs_getI (pc := 25) (i := 29) (ci := 10) (k := 3) C (by decide +kernel) fl_RX10_29 rfl rfl (fun x4 => ?_)
      refine zs_bipush (pc := 28) (n := 16) (x := 16) C (by decide +kernel) (by decide +kernel) ?_
      refine zs_iushr (pc := 30) C (by decide +kernel) ?_
      refine zs_iload_n (pc := 31) (k := 1) (i := 1) C (by decide +kernel) rfl rfl ?_
      refine zs_chk (fun _ hy => ?_)
      refine zs_irem (pc := 32) C hy (by decide +kernel) ?_
      exact zs_goj (hJ3 (Int.tmod (iushr x4 16) a0)) trivial
    · refine zs_iconst (pc := 20) (n := 0) (x := 0) C (by decide +kernel) (by decide +kernel) ?_
      refine zs_goto (pc := 21) (off := 12) (tgt := 33) C (by decide +kernel) (by decide) ?_
      exact zs_goj (hJ3 0) trivial
set_option maxRecDepth 20000 in
theorem c_X10_drawDeed (l : Launch) (g : GC)  : ConW l g yX10_drawDeed cX10_drawDeed 5 (some .boolean) (rmd 6 0 0) [sR 19] (fun mm => fX10_drawDeed  mm) := by
  refine zs_ofW (by decide +kernel) (Nat.le_of_ble_eq_true rfl) ?_
  intro p e s m args below meth c C hr
  replace C : Bd g RX10 cX10_drawDeed 5 p s m args meth c := C
  unfold fX10_drawDeed
  refine zs_aload_n (pc := 0) (k := 0) (i := 0) C (by decide +kernel) rfl rfl ?_
  refine zs_iconst (pc := 1) (n := 5) (x := 5) C (by decide +kernel) (by decide +kernel) ?_
  refine zs_cvWi (pc := 2) (As := [sI 5]) (st := []) C (fun _ _ _ => rfl) rfl (c_X10_drawBelow l g 5) ml_RX10_170 rfl rfl rfl rfl (Nat.le_of_ble_eq_true rfl) ⟨Nat.le_of_ble_eq_true rfl, Nat.le_of_ble_eq_true rfl⟩ ⟨Nat.le_of_ble_eq_true rfl, Nat.le_of_ble_eq_true rfl⟩ (by decide +kernel) (fun x1 => ?_)
  refine zs_istore_n (pc := 5) (k := 1) (i := 1) (ls' := [(1, sI x1), (0, sR 19)]) C (by decide +kernel) rfl (Nat.le_of_ble_eq_true rfl) rfl ?_
  refine zs_iload_n (pc := 6) (k := 1) (i := 1) C (by decide +kernel) rfl rfl ?_
  refine zs_if_ne (pc := 7) (off := 20) (tgt := 27) C (by decide +kernel) (by decide) ?_ ?_
  · refine zs_aload_n (pc := 27) (k := 0) (i := 0) C (by decide +kernel) rfl rfl ?_
    refine zs_getR (o' := 20) (pc := 28) (i := 12) (ci := 10) (k := 0) C (by decide +kernel) fl_RX10_12 rfl rfl rfl ?_
    refine zs_getI (pc := 31) (i := 65) (ci := 3) (k := 5) C (by decide +kernel) fl_RX10_65 rfl rfl (fun x2 => ?_)
    refine zs_if_ne (pc := 34) (off := 5) (tgt := 39) C (by decide +kernel) (by decide) ?_ ?_
    · refine zs_iload_n (pc := 39) (k := 1) (i := 1) C (by decide +kernel) rfl rfl ?_
      refine zs_iconst (pc := 40) (n := 4) (x := 4) C (by decide +kernel) (by decide +kernel) ?_
      refine zs_icmp_ne (pc := 41) (off := 28) (tgt := 69) C (by decide +kernel) (by decide) ?_ ?_
      · refine zs_aload_n (pc := 69) (k := 0) (i := 0) C (by decide +kernel) rfl rfl ?_
        refine zs_aload_n (pc := 70) (k := 0) (i := 0) C (by decide +kernel) rfl rfl ?_
        refine zs_getR (o' := 20) (pc := 71) (i := 12) (ci := 10) (k := 0) C (by decide +kernel) fl_RX10_12 rfl rfl rfl ?_
        refine zs_getI (pc := 74) (i := 65) (ci := 3) (k := 5) C (by decide +kernel) fl_RX10_65 rfl rfl (fun x3 => ?_)
        refine zs_cvWi (pc := 77) (As := [sI x3]) (st := []) C (fun _ _ _ => rfl) rfl (c_X10_drawBelow l g x3) ml_RX10_170 rfl rfl rfl rfl (Nat.le_of_ble_eq_true rfl) ⟨Nat.le_of_ble_eq_true rfl, Nat.le_of_ble_eq_true rfl⟩ ⟨Nat.le_of_ble_eq_true rfl, Nat.le_of_ble_eq_true rfl⟩ (by decide +kernel) (fun x4 => ?_)
        refine zs_istore_n (pc := 80) (k := 2) (i := 2) (ls' := [(2, sI x4), (1, sI x1), (0, sR 19)]) C (by decide +kernel) rfl (Nat.le_of_ble_eq_true rfl) rfl ?_
        refine zs_iload_n (pc := 81) (k := 1) (i := 1) C (by decide +kernel) rfl rfl ?_
        refine zs_iconst (pc := 82) (n := 3) (x := 3) C (by decide +kernel) (by decide +kernel) ?_
        refine zs_icmp_ne (pc := 83) (off := 33) (tgt := 116) C (by decide +kernel) (by decide) ?_ ?_
        · refine zs_aload_n (pc := 116) (k := 0) (i := 0) C (by decide +kernel) rfl rfl ?_
          refine zs_iconst (pc := 117) (n := 5) (x := 5) C (by decide +kernel) (by decide +kernel) ?_
          refine zs_cvWi (pc := 118) (As := [sI 5]) (st := []) C (fun _ _ _ => rfl) rfl (c_X10_drawBelow l g 5) ml_RX10_170 rfl rfl rfl rfl (Nat.le_of_ble_eq_true rfl) ⟨Nat.le_of_ble_eq_true rfl, Nat.le_of_ble_eq_true rfl⟩ ⟨Nat.le_of_ble_eq_true rfl, Nat.le_of_ble_eq_true rfl⟩ (by decide +kernel) (fun x5 => ?_)
          refine zs_istore_n (pc := 121) (k := 3) (i := 3) (ls' := [(3, sI x5), (2, sI x4), (1, sI x1), (0, sR 19)]) C (by decide +kernel) rfl (Nat.le_of_ble_eq_true rfl) rfl ?_
          refine zs_aload_n (pc := 122) (k := 0) (i := 0) C (by decide +kernel) rfl rfl ?_
          refine zs_iconst (pc := 123) (n := 5) (x := 5) C (by decide +kernel) (by decide +kernel) ?_
          refine zs_cvWi (pc := 124) (As := [sI 5]) (st := []) C (fun _ _ _ => rfl) rfl (c_X10_drawBelow l g 5) ml_RX10_170 rfl rfl rfl rfl (Nat.le_of_ble_eq_true rfl) ⟨Nat.le_of_ble_eq_true rfl, Nat.le_of_ble_eq_true rfl⟩ ⟨Nat.le_of_ble_eq_true rfl, Nat.le_of_ble_eq_true rfl⟩ (by decide +kernel) (fun x6 => ?_)
          refine zs_istore (pc := 127) (i := 4) (ls' := [(4, sI x6), (3, sI x5), (2, sI x4), (1, sI x1), (0, sR 19)]) C (by decide +kernel) (Nat.le_of_ble_eq_true rfl) rfl ?_
          refine zs_aload_n (pc := 129) (k := 0) (i := 0) C (by decide +kernel) rfl rfl ?_
          refine zs_bipush (pc := 130) (n := 100) (x := 100) C (by decide +kernel) (by decide +kernel) ?_
          refine zs_iload_n (pc := 132) (k := 2) (i := 2) C (by decide +kernel) rfl rfl ?_
          refine zs_imul (pc := 133) C (by decide +kernel) ?_
          refine zs_bipush (pc := 134) (n := 10) (x := 10) C (by decide +kernel) (by decide +kernel) ?_
          refine zs_iload_n (pc := 136) (k := 3) (i := 3) C (by decide +kernel) rfl rfl ?_
          refine zs_imul (pc := 137) C (by decide +kernel) ?_
          refine zs_iadd (pc := 138) C (by decide +kernel) ?_
          refine zs_iload (pc := 139) (i := 4) C (by decide +kernel) rfl ?_
          refine zs_iadd (pc := 141) C (by decide +kernel) ?_
          refine zs_i2l (pc := 142) C (by decide +kernel) ?_
          refine zs_iconst (pc := 143) (n := 1) (x := 1) C (by decide +kernel) (by decide +kernel) ?_
          refine zs_cvWi (pc := 144) (As := [sL (w32 ((w32 ((w32 (100 * x4)) + (w32 (10 * x5)))) + x6)), sI 1]) (st := []) C (fun _ _ _ => rfl) rfl (c_X10_doTold l g (w32 ((w32 ((w32 (100 * x4)) + (w32 (10 * x5)))) + x6)) 1) ml_RX10_173 rfl rfl rfl rfl (Nat.le_of_ble_eq_true rfl) ⟨Nat.le_of_ble_eq_true rfl, Nat.le_of_ble_eq_true rfl⟩ ⟨Nat.le_of_ble_eq_true rfl, Nat.le_of_ble_eq_true rfl⟩ (by decide +kernel) (fun x7 => ?_)
          refine zs_jn (pJ := 155) (kJ := 0) (sJ := 0) (fun t8 => []) (fun t8 => [sI t8]) (fun t8 => ?_) (fun J9 hJ9 => ?_)
          · refine zs_chk (fun _ hx => ?_)
            exact zs_retWz (pc := 155) C hx hr ⟨Nat.le_of_ble_eq_true rfl, Nat.le_of_ble_eq_true rfl⟩ (by decide +kernel)
          · refine zs_if_ne (pc := 147) (off := 7) (tgt := 154) C (by decide +kernel) (by decide) ?_ ?_
            · refine zs_iconst (pc := 154) (n := 0) (x := 0) C (by decide +kernel) (by decide +kernel) ?_
              exact zs_goj (hJ9 0) trivial
            · refine zs_iconst (pc := 150) (n := 1) (x := 1) C (by decide +kernel) (by decide +kernel) ?_
              refine zs_goto (pc := 151) (off := 4) (tgt := 155) C (by decide +kernel) (by decide) ?_
              exact zs_goj (hJ9 1) trivial
        · refine zs_aload_n (pc := 86) (k := 0) (i := 0) C (by decide +kernel) rfl rfl ?_
          refine zs_sipush (pc := 87) (n := 1000) (x := 1000) C (by decide +kernel) (by decide +kernel) ?_
          refine zs_bipush (pc := 90) (n := 10) (x := 10) C (by decide +kernel) (by decide +kernel) ?_
          refine zs_iload_n (pc := 92) (k := 2) (i := 2) C (by decide +kernel) rfl rfl ?_
          refine zs_imul (pc := 93) C (by decide +kernel) ?_
          refine zs_iadd (pc := 94) C (by decide +kernel) ?_
          refine zs_aload_n (pc := 95) (k := 0) (i := 0) C (by decide +kernel) rfl rfl ?_
          refine zs_bipush (pc := 96) (n := 10) (x := 10) C (by decide +kernel) (by decide +kernel) ?_
          refine zs_cvWi (pc := 98) (As := [sI 10]) (st := [sI (w32 (1000 + (w32 (10 * x4)))), sR 19]) C (fun _ _ _ => rfl) rfl (c_X10_drawBelow l g 10) ml_RX10_170 rfl rfl rfl rfl (Nat.le_of_ble_eq_true rfl) ⟨Nat.le_of_ble_eq_true rfl, Nat.le_of_ble_eq_true rfl⟩ ⟨Nat.le_of_ble_eq_true rfl, Nat.le_of_ble_eq_true rfl⟩ (by decide +kernel) (fun x10 => ?_)
          refine zs_iadd (pc := 101) C (by decide +kernel) ?_
          refine zs_i2l (pc := 102) C (by decide +kernel) ?_
          refine zs_iconst (pc := 103) (n := 1) (x := 1) C (by decide +kernel) (by decide +kernel) ?_
          refine zs_cvWi (pc := 104) (As := [sL (w32 ((w32 (1000 + (w32 (10 * x4)))) + x10)), sI 1]) (st := []) C (fun _ _ _ => rfl) rfl (c_X10_doTold l g (w32 ((w32 (1000 + (w32 (10 * x4)))) + x10)) 1) ml_RX10_173 rfl rfl rfl rfl (Nat.le_of_ble_eq_true rfl) ⟨Nat.le_of_ble_eq_true rfl, Nat.le_of_ble_eq_true rfl⟩ ⟨Nat.le_of_ble_eq_true rfl, Nat.le_of_ble_eq_true rfl⟩ (by decide +kernel) (fun x11 => ?_)
          refine zs_jn (pJ := 115) (kJ := 0) (sJ := 0) (fun t12 => []) (fun t12 => [sI t12]) (fun t12 => ?_) (fun J13 hJ13 => ?_)
          · refine zs_chk (fun _ hx => ?_)
            exact zs_retWz (pc := 115) C hx hr ⟨Nat.le_of_ble_eq_true rfl, Nat.le_of_ble_eq_true rfl⟩ (by decide +kernel)
          · refine zs_if_ne (pc := 107) (off := 7) (tgt := 114) C (by decide +kernel) (by decide) ?_ ?_
            · refine zs_iconst (pc := 114) (n := 0) (x := 0) C (by decide +kernel) (by decide +kernel) ?_
              exact zs_goj (hJ13 0) trivial
            · refine zs_iconst (pc := 110) (n := 1) (x := 1) C (by decide +kernel) (by decide +kernel) ?_
              refine zs_goto (pc := 111) (off := 4) (tgt := 115) C (by decide +kernel) (by decide) ?_
              exact zs_goj (hJ13 1) trivial
      · refine zs_aload_n (pc := 44) (k := 0) (i := 0) C (by decide +kernel) rfl rfl ?_
        refine zs_sipush (pc := 45) (n := 2000) (x := 2000) C (by decide +kernel) (by decide +kernel) ?_
        refine zs_aload_n (pc := 48) (k := 0) (i := 0) C (by decide +kernel) rfl rfl ?_
        refine zs_bipush (pc := 49) (n := 10) (x := 10) C (by decide +kernel) (by decide +kernel) ?_
        refine zs_cvWi (pc := 51) (As := [sI 10]) (st := [sI 2000, sR 19]) C (fun _ _ _ => rfl) rfl (c_X10_drawBelow l g 10) ml_RX10_170 rfl rfl rfl rfl (Nat.le_of_ble_eq_true rfl) ⟨Nat.le_of_ble_eq_true rfl, Nat.le_of_ble_eq_true rfl⟩ ⟨Nat.le_of_ble_eq_true rfl, Nat.le_of_ble_eq_true rfl⟩ (by decide +kernel) (fun x14 => ?_)
        refine zs_iadd (pc := 54) C (by decide +kernel) ?_
        refine zs_i2l (pc := 55) C (by decide +kernel) ?_
        refine zs_iconst (pc := 56) (n := 1) (x := 1) C (by decide +kernel) (by decide +kernel) ?_
        refine zs_cvWi (pc := 57) (As := [sL (w32 (2000 + x14)), sI 1]) (st := []) C (fun _ _ _ => rfl) rfl (c_X10_doTold l g (w32 (2000 + x14)) 1) ml_RX10_173 rfl rfl rfl rfl (Nat.le_of_ble_eq_true rfl) ⟨Nat.le_of_ble_eq_true rfl, Nat.le_of_ble_eq_true rfl⟩ ⟨Nat.le_of_ble_eq_true rfl, Nat.le_of_ble_eq_true rfl⟩ (by decide +kernel) (fun x15 => ?_)
        refine zs_jn (pJ := 68) (kJ := 0) (sJ := 0) (fun t16 => []) (fun t16 => [sI t16]) (fun t16 => ?_) (fun J17 hJ17 => ?_)
        · refine zs_chk (fun _ hx => ?_)
          exact zs_retWz (pc := 68) C hx hr ⟨Nat.le_of_ble_eq_true rfl, Nat.le_of_ble_eq_true rfl⟩ (by decide +kernel)
        · refine zs_if_ne (pc := 60) (off := 7) (tgt := 67) C (by decide +kernel) (by decide) ?_ ?_
          · refine zs_iconst (pc := 67) (n := 0) (x := 0) C (by decide +kernel) (by decide +kernel) ?_
            exact zs_goj (hJ17 0) trivial
          · refine zs_iconst (pc := 63) (n := 1) (x := 1) C (by decide +kernel) (by decide +kernel) ?_
            refine zs_goto (pc := 64) (off := 4) (tgt := 68) C (by decide +kernel) (by decide) ?_
            exact zs_goj (hJ17 1) trivial
    · refine zs_iconst (pc := 37) (n := 0) (x := 0) C (by decide +kernel) (by decide +kernel) ?_
      exact zs_retWz (pc := 38) C (by decide) hr ⟨Nat.le_of_ble_eq_true rfl, Nat.le_of_ble_eq_true rfl⟩ (by decide +kernel)
  · refine zs_aload_n (pc := 10) (k := 0) (i := 0) C (by decide +kernel) rfl rfl ?_
    refine zs_ldc2 (pc := 11) (i := 148) (v := (-1)) (x := (-1)) C (by decide +kernel) wf_1271 (by decide +kernel) ?_
    refine zs_iconst (pc := 14) (n := 1) (x := 1) C (by decide +kernel) (by decide +kernel) ?_
    refine zs_cvWi (pc := 15) (As := [sL ((-1)), sI 1]) (st := []) C (fun _ _ _ => rfl) rfl (c_X10_doTold l g (-1) 1) ml_RX10_173 rfl rfl rfl rfl (Nat.le_of_ble_eq_true rfl) ⟨Nat.le_of_ble_eq_true rfl, Nat.le_of_ble_eq_true rfl⟩ ⟨Nat.le_of_ble_eq_true rfl, Nat.le_of_ble_eq_true rfl⟩ (by decide +kernel) (fun x18 => ?_)
    refine zs_jn (pJ := 26) (kJ := 0) (sJ := 0) (fun t19 => []) (fun t19 => [sI t19]) (fun t19 => ?_) (fun J20 hJ20 => ?_)
    · refine zs_chk (fun _ hx => ?_)
      exact zs_retWz (pc := 26) C hx hr ⟨Nat.le_of_ble_eq_true rfl, Nat.le_of_ble_eq_true rfl⟩ (by decide +kernel)
    · refine zs_if_ne (pc := 18) (off := 7) (tgt := 25) C (by decide +kernel) (by decide) ?_ ?_
      · refine zs_iconst (pc := 25) (n := 0) (x := 0) C (by decide +kernel) (by decide +kernel) ?_
        exact zs_goj (hJ20 0) trivial
      · refine zs_iconst (pc := 21) (n := 1) (x := 1) C (by decide +kernel) (by decide +kernel) ?_
        refine zs_goto (pc := 22) (off := 4) (tgt := 26) C (by decide +kernel) (by decide) ?_
        exact zs_goj (hJ20 1) trivial
set_option maxRecDepth 20000 in
theorem c_X11_season (l : Launch) (g : GC) (hl : l.stackTraces = false) (a0 : Int) (a1 : Int) : ConT l g yX11_season cX11_season 5 (some .int) (rmd 8 1 6) [sR 0, sI a0, sI a1] (fun mm => fX11_season a0 a1 mm) := by
  refine zs_ofT (by decide +kernel) (Nat.le_of_ble_eq_true rfl) ?_
  intro p e s m args below meth c C hr hE
  replace C : Bd g RX11 cX11_season 5 p s m args meth c := C
  unfold fX11_season
  refine zs_aload_n (pc := 0) (k := 0) (i := 0) C (by decide +kernel) rfl rfl ?_
  refine zs_iload_n (pc := 1) (k := 2) (i := 2) C (by decide +kernel) rfl rfl ?_
  refine zs_iconst (pc := 2) (n := 1) (x := 1) C (by decide +kernel) (by decide +kernel) ?_
  refine zs_bipush (pc := 3) (n := 30) (x := 30) C (by decide +kernel) (by decide +kernel) ?_
  refine zs_cvTv (pc := 5) (As := [sI a1, sI 1, sI 30]) (st := []) C hE (c_X11_needWithin l g hl a1 1 30) ml_RX11_179 rfl rfl rfl rfl (Nat.le_of_ble_eq_true rfl) ⟨Nat.le_of_ble_eq_true rfl, Nat.le_of_ble_eq_true rfl⟩ ⟨Nat.le_of_ble_eq_true rfl, Nat.le_of_ble_eq_true rfl⟩ ⟨Nat.le_of_ble_eq_true rfl, Nat.le_of_ble_eq_true rfl⟩ (by decide +kernel) ?_
  refine zs_iconst (pc := 8) (n := 0) (x := 0) C (by decide +kernel) (by decide +kernel) ?_
  refine zs_istore_n (pc := 9) (k := 3) (i := 3) (ls' := [(3, sI 0), (0, sR 0), (1, sI a0), (2, sI a1)]) C (by decide +kernel) rfl (Nat.le_of_ble_eq_true rfl) rfl ?_
  refine zs_aload_n (pc := 10) (k := 0) (i := 0) C (by decide +kernel) rfl rfl ?_
  refine zs_getR (o' := 19) (pc := 11) (i := 41) (ci := 11) (k := 6) C (by decide +kernel) fl_RX11_41 rfl rfl rfl ?_
  refine zs_iload_n (pc := 14) (k := 1) (i := 1) C (by decide +kernel) rfl rfl ?_
  refine zs_putI (pc := 15) (i := 244) (ci := 10) (k := 3) C (fun _ _ _ => rfl) (by decide +kernel) fl_RX11_244 fw_10_3 rfl rfl ?_
  refine zs_iconst (pc := 18) (n := 0) (x := 0) C (by decide +kernel) (by decide +kernel) ?_
  refine zs_istore (pc := 19) (i := 4) (ls' := [(4, sI 0), (3, sI 0), (0, sR 0), (1, sI a0), (2, sI a1)]) C (by decide +kernel) (Nat.le_of_ble_eq_true rfl) rfl ?_
  refine zs_sub (ls' := [(0, sR 0), (2, sI a1), (3, sI 0), (4, sI 0)]) ⟨rfl, rfl, rfl, rfl, trivial⟩ ?_
  refine zs_lp (pc := 21) (fun (t1 : Int × Int) => [(0, sR 0), (2, sI a1), (3, sI t1.1), (4, sI t1.2)]) (fun _ => []) (fun K2 hK2 t1 => ?_) BIG (0, 0)
  refine zs_iload (pc := 21) (i := 4) C (by decide +kernel) rfl ?_
  refine zs_iload_n (pc := 23) (k := 2) (i := 2) C (by decide +kernel) rfl rfl ?_
  refine zs_icmp_ge (pc := 24) (off := 27) (tgt := 51) C (by decide +kernel) (by decide) ?_ ?_
  · refine zs_iload_n (pc := 51) (k := 3) (i := 3) C (by decide +kernel) rfl rfl ?_
    exact zs_retTi (pc := 52) C hr ⟨Nat.le_of_ble_eq_true rfl, Nat.le_of_ble_eq_true rfl⟩ (by decide +kernel)
  · refine zs_iload_n (pc := 27) (k := 3) (i := 3) C (by decide +kernel) rfl rfl ?_
    refine zs_aload_n (pc := 28) (k := 0) (i := 0) C (by decide +kernel) rfl rfl ?_
    refine zs_getR (o' := 19) (pc := 29) (i := 41) (ci := 11) (k := 6) C (by decide +kernel) fl_RX11_41 rfl rfl rfl ?_
    refine zs_cvWi (pc := 32) (As := []) (st := [sI t1.1]) C (fun _ _ _ => rfl) rfl (c_X10_drawDeed l g ) ml_RX11_247 rfl rfl rfl rfl (Nat.le_of_ble_eq_true rfl) ⟨Nat.le_of_ble_eq_true rfl, Nat.le_of_ble_eq_true rfl⟩ ⟨Nat.le_of_ble_eq_true rfl, Nat.le_of_ble_eq_true rfl⟩ (by decide +kernel) (fun x3 => ?_)
    refine zs_jn (pJ := 43) (kJ := 1) (sJ := 6) (fun t4 => [(0, sR 0), (2, sI a1), (4, sI t1.2)]) (fun t4 => [sI t4, sI t1.1]) (fun t4 => ?_) (fun J5 hJ5 => ?_)
    · refine zs_iadd (pc := 43) C (by decide +kernel) ?_
      refine zs_let (fun x6 => ?_)
      refine zs_istore_n (pc := 44) (k := 3) (i := 3) (ls' := [(3, sI x6), (0, sR 0), (2, sI a1), (4, sI t1.2)]) C (by decide +kernel) rfl (Nat.le_of_ble_eq_true rfl) rfl ?_
      refine zs_iinc (pc := 45) (i := 4) (n := 1) (y := w32 (t1.2 + 1)) (ls' := [(4, sI (w32 (t1.2 + 1))), (3, sI x6), (0, sR 0), (2, sI a1)]) C (by decide +kernel) rfl rfl (Nat.le_of_ble_eq_true rfl) rfl ?_
      refine zs_goto (pc := 48) (off := (-27)) (tgt := 21) C (by decide +kernel) (by decide) ?_
      exact zs_goj (hK2 (x6, w32 (t1.2 + 1))) ⟨rfl, rfl, rfl, rfl, trivial⟩
    · refine zs_if_eq (pc := 35) (off := 7) (tgt := 42) C (by decide +kernel) (by decide) ?_ ?_
      · refine zs_iconst (pc := 42) (n := 0) (x := 0) C (by decide +kernel) (by decide +kernel) ?_
        exact zs_goj (hJ5 0) ⟨rfl, rfl, rfl, trivial⟩
      · refine zs_iconst (pc := 38) (n := 1) (x := 1) C (by decide +kernel) (by decide +kernel) ?_
        refine zs_goto (pc := 39) (off := 4) (tgt := 43) C (by decide +kernel) (by decide) ?_
        exact zs_goj (hJ5 1) ⟨rfl, rfl, rfl, trivial⟩
set_option maxRecDepth 20000 in
theorem c_X11_partsIn (l : Launch) (g : GC) (hl : l.stackTraces = false) (a0 : Int) : ConT l g yX11_partsIn cX11_partsIn 4 (some .int) (rmd 8 1 6) [sR 0, sI a0] (fun mm => fX11_partsIn a0 mm) := by
  refine zs_ofT (by decide +kernel) (Nat.le_of_ble_eq_true rfl) ?_
  intro p e s m args below meth c C hr hE
  replace C : Bd g RX11 cX11_partsIn 4 p s m args meth c := C
  unfold fX11_partsIn
  refine zs_aload_n (pc := 0) (k := 0) (i := 0) C (by decide +kernel) rfl rfl ?_
  refine zs_iload_n (pc := 1) (k := 1) (i := 1) C (by decide +kernel) rfl rfl ?_
  refine zs_cvTv (pc := 2) (As := [sI a0]) (st := []) C hE (c_X11_needPair l g hl a0) ml_RX11_134 rfl rfl rfl rfl (Nat.le_of_ble_eq_true rfl) ⟨Nat.le_of_ble_eq_true rfl, Nat.le_of_ble_eq_true rfl⟩ ⟨Nat.le_of_ble_eq_true rfl, Nat.le_of_ble_eq_true rfl⟩ ⟨Nat.le_of_ble_eq_true rfl, Nat.le_of_ble_eq_true rfl⟩ (by decide +kernel) ?_
  refine zs_aload_n (pc := 5) (k := 0) (i := 0) C (by decide +kernel) rfl rfl ?_
  refine zs_getR (o' := 19) (pc := 6) (i := 41) (ci := 11) (k := 6) C (by decide +kernel) fl_RX11_41 rfl rfl rfl ?_
  refine zs_getR (o' := 27) (pc := 9) (i := 141) (ci := 10) (k := 1) C (by decide +kernel) fl_RX11_141 rfl rfl rfl ?_
  refine zs_iload_n (pc := 12) (k := 1) (i := 1) C (by decide +kernel) rfl rfl ?_
  refine zs_cvRi (pc := 13) (As := [sI a0]) (st := []) C rfl (c_X5_isParted l g a0) ml_RX11_163 rfl rfl rfl rfl (Nat.le_of_ble_eq_true rfl) ⟨Nat.le_of_ble_eq_true rfl, Nat.le_of_ble_eq_true rfl⟩ ⟨Nat.le_of_ble_eq_true rfl, Nat.le_of_ble_eq_true rfl⟩ (by decide +kernel) (fun x1 => ?_)
  refine zs_if_eq (pc := 16) (off := 5) (tgt := 21) C (by decide +kernel) (by decide) ?_ ?_
  · refine zs_aload_n (pc := 21) (k := 0) (i := 0) C (by decide +kernel) rfl rfl ?_
    refine zs_getR (o' := 19) (pc := 22) (i := 41) (ci := 11) (k := 6) C (by decide +kernel) fl_RX11_41 rfl rfl rfl ?_
    refine zs_iload_n (pc := 25) (k := 1) (i := 1) C (by decide +kernel) rfl rfl ?_
    refine zs_cvRi (pc := 26) (As := [sI a0]) (st := []) C rfl (c_X10_apart l g a0) ml_RX11_153 rfl rfl rfl rfl (Nat.le_of_ble_eq_true rfl) ⟨Nat.le_of_ble_eq_true rfl, Nat.le_of_ble_eq_true rfl⟩ ⟨Nat.le_of_ble_eq_true rfl, Nat.le_of_ble_eq_true rfl⟩ (by decide +kernel) (fun x2 => ?_)
    refine zs_istore_n (pc := 29) (k := 2) (i := 2) (ls' := [(2, sI x2), (0, sR 0), (1, sI a0)]) C (by decide +kernel) rfl (Nat.le_of_ble_eq_true rfl) rfl ?_
    refine zs_iconst (pc := 30) (n := 1) (x := 1) C (by decide +kernel) (by decide +kernel) ?_
    refine zs_istore_n (pc := 31) (k := 3) (i := 3) (ls' := [(3, sI 1), (2, sI x2), (0, sR 0), (1, sI a0)]) C (by decide +kernel) rfl (Nat.le_of_ble_eq_true rfl) rfl ?_
    refine zs_sub (ls' := [(0, sR 0), (1, sI a0), (2, sI x2), (3, sI 1)]) ⟨rfl, rfl, rfl, rfl, trivial⟩ ?_
    refine zs_lp (pc := 32) (fun (t3 : Int) => [(0, sR 0), (1, sI a0), (2, sI x2), (3, sI t3)]) (fun _ => []) (fun K4 hK4 t3 => ?_) BIG 1
    refine zs_iload_n (pc := 32) (k := 3) (i := 3) C (by decide +kernel) rfl rfl ?_
    refine zs_sipush (pc := 33) (n := 999) (x := 999) C (by decide +kernel) (by decide +kernel) ?_
    refine zs_icmp_gt (pc := 36) (off := 35) (tgt := 71) C (by decide +kernel) (by decide) ?_ ?_
    · refine zs_iconst (pc := 71) (n := (-1)) (x := (-1)) C (by decide +kernel) (by decide +kernel) ?_
      exact zs_retTi (pc := 72) C hr ⟨Nat.le_of_ble_eq_true rfl, Nat.le_of_ble_eq_true rfl⟩ (by decide +kernel)
    · refine zs_iload_n (pc := 39) (k := 2) (i := 2) C (by decide +kernel) rfl rfl ?_
      refine zs_aload_n (pc := 40) (k := 0) (i := 0) C (by decide +kernel) rfl rfl ?_
      refine zs_getR (o' := 19) (pc := 41) (i := 41) (ci := 11) (k := 6) C (by decide +kernel) fl_RX11_41 rfl rfl rfl ?_
      refine zs_iload_n (pc := 44) (k := 1) (i := 1) C (by decide +kernel) rfl rfl ?_
      refine zs_aload_n (pc := 45) (k := 0) (i := 0) C (by decide +kernel) rfl rfl ?_
      refine zs_getR (o' := 19) (pc := 46) (i := 41) (ci := 11) (k := 6) C (by decide +kernel) fl_RX11_41 rfl rfl rfl ?_
      refine zs_getR (o' := 27) (pc := 49) (i := 141) (ci := 10) (k := 1) C (by decide +kernel) fl_RX11_141 rfl rfl rfl ?_
      refine zs_getI (pc := 52) (i := 156) (ci := 5) (k := 0) C (by decide +kernel) fl_RX11_156 rfl rfl (fun x5 => ?_)
      refine zs_iload_n (pc := 55) (k := 3) (i := 3) C (by decide +kernel) rfl rfl ?_
      refine zs_iadd (pc := 56) C (by decide +kernel) ?_
      refine zs_cvWi (pc := 57) (As := [sI a0, sI (w32 (x5 + t3))]) (st := [sI x2]) C (fun _ _ _ => rfl) rfl (c_X10_ropeIn l g a0 (w32 (x5 + t3))) ml_RX11_159 rfl rfl rfl rfl (Nat.le_of_ble_eq_true rfl) ⟨Nat.le_of_ble_eq_true rfl, Nat.le_of_ble_eq_true rfl⟩ ⟨Nat.le_of_ble_eq_true rfl, Nat.le_of_ble_eq_true rfl⟩ (by decide +kernel) (fun x6 => ?_)
      refine zs_icmp_le (pc := 60) (off := 5) (tgt := 65) C (by decide +kernel) (by decide) ?_ ?_
      · refine zs_iinc (pc := 65) (i := 3) (n := 1) (y := w32 (t3 + 1)) (ls' := [(3, sI (w32 (t3 + 1))), (0, sR 0), (1, sI a0), (2, sI x2)]) C (by decide +kernel) rfl rfl (Nat.le_of_ble_eq_true rfl) rfl ?_
        refine zs_goto (pc := 68) (off := (-36)) (tgt := 32) C (by decide +kernel) (by decide) ?_
        exact zs_goj (hK4 (w32 (t3 + 1))) ⟨rfl, rfl, rfl, rfl, trivial⟩
      · refine zs_iload_n (pc := 63) (k := 3) (i := 3) C (by decide +kernel) rfl rfl ?_
        exact zs_retTi (pc := 64) C hr ⟨Nat.le_of_ble_eq_true rfl, Nat.le_of_ble_eq_true rfl⟩ (by decide +kernel)
  · refine zs_iconst (pc := 19) (n := 0) (x := 0) C (by decide +kernel) (by decide +kernel) ?_
    exact zs_retTi (pc := 20) C hr ⟨Nat.le_of_ble_eq_true rfl, Nat.le_of_ble_eq_true rfl⟩ (by decide +kernel)
set_option maxRecDepth 20000 in
theorem c_X0_fillNear (l : Launch) (g : GC)  : ConV l g yX0_fillNear cX0_fillNear 4 (rmd 3 0 0) [sR 18] (fun mm => fX0_fillNear  mm) := by
  refine zs_ofV (by decide +kernel) (Nat.le_of_ble_eq_true rfl) ?_
  intro p e s m args below meth c C hr
  replace C : Bd g RX0 cX0_fillNear 4 p s m args meth c := C
  unfold fX0_fillNear
  refine zs_aload_n (pc := 0) (k := 0) (i := 0) C (by decide +kernel) rfl rfl ?_
  refine zs_getR (o' := 81) (pc := 1) (i := 28) (ci := 0) (k := 4) C (by decide +kernel) fl_RX0_28 rfl rfl rfl ?_
  refine zs_iconst (pc := 4) (n := 0) (x := 0) C (by decide +kernel) (by decide +kernel) ?_
  refine zs_csVv (pc := 5) (As := [sR 81, sI 0]) (st := []) C (fun _ _ _ => rfl) (c_J7_fill_53178 l g 81 225 0 rfl) ml_RX0_102 rfl rfl (Nat.le_of_ble_eq_true rfl) ⟨Nat.le_of_ble_eq_true rfl, Nat.le_of_ble_eq_true rfl⟩ ⟨Nat.le_of_ble_eq_true rfl, Nat.le_of_ble_eq_true rfl⟩ (by decide +kernel) ?_
  refine zs_aload_n (pc := 8) (k := 0) (i := 0) C (by decide +kernel) rfl rfl ?_
  refine zs_iconst (pc := 9) (n := 0) (x := 0) C (by decide +kernel) (by decide +kernel) ?_
  refine zs_putI (pc := 10) (i := 50) (ci := 0) (k := 11) C (fun _ _ _ => rfl) (by decide +kernel) fl_RX0_50 fw_0_11 rfl rfl ?_
  refine zs_iconst (pc := 13) (n := 0) (x := 0) C (by decide +kernel) (by decide +kernel) ?_
  refine zs_istore_n (pc := 14) (k := 1) (i := 1) (ls' := [(1, sI 0), (0, sR 18)]) C (by decide +kernel) rfl (Nat.le_of_ble_eq_true rfl) rfl ?_
  refine zs_sub (ls' := [(0, sR 18), (1, sI 0)]) ⟨rfl, rfl, trivial⟩ ?_
  refine zs_lp (pc := 15) (fun (t1 : Int) => [(0, sR 18), (1, sI t1)]) (fun _ => []) (fun K2 hK2 t1 => ?_) BIG 0
  refine zs_iload_n (pc := 15) (k := 1) (i := 1) C (by decide +kernel) rfl rfl ?_
  refine zs_aload_n (pc := 16) (k := 0) (i := 0) C (by decide +kernel) rfl rfl ?_
  refine zs_getI (pc := 17) (i := 43) (ci := 0) (k := 9) C (by decide +kernel) fl_RX0_43 rfl rfl (fun x3 => ?_)
  refine zs_icmp_ge (pc := 20) (off := 99) (tgt := 119) C (by decide +kernel) (by decide) ?_ ?_
  · exact zs_retVv (pc := 119) C hr ⟨Nat.le_of_ble_eq_true rfl, Nat.le_of_ble_eq_true rfl⟩ (by decide +kernel)
  · refine zs_aload_n (pc := 23) (k := 0) (i := 0) C (by decide +kernel) rfl rfl ?_
    refine zs_dup (pc := 24) C rfl (by decide +kernel) ?_
    refine zs_getI (pc := 25) (i := 50) (ci := 0) (k := 11) C (by decide +kernel) fl_RX0_50 rfl rfl (fun x4 => ?_)
    refine zs_aload_n (pc := 28) (k := 0) (i := 0) C (by decide +kernel) rfl rfl ?_
    refine zs_getR (o' := 19) (pc := 29) (i := 12) (ci := 0) (k := 0) C (by decide +kernel) fl_RX0_12 rfl rfl rfl ?_
    refine zs_getR (o' := 20) (pc := 32) (i := 72) (ci := 10) (k := 0) C (by decide +kernel) fl_RX0_72 rfl rfl rfl ?_
    refine zs_iload_n (pc := 35) (k := 1) (i := 1) C (by decide +kernel) rfl rfl ?_
    refine zs_iconst (pc := 36) (n := 2) (x := 2) C (by decide +kernel) (by decide +kernel) ?_
    refine zs_cvRi (pc := 37) (As := [sI t1, sI 2]) (st := [sI x4, sR 18]) C rfl (c_X3_beside l g t1 2) ml_RX0_108 rfl rfl rfl rfl (Nat.le_of_ble_eq_true rfl) ⟨Nat.le_of_ble_eq_true rfl, Nat.le_of_ble_eq_true rfl⟩ ⟨Nat.le_of_ble_eq_true rfl, Nat.le_of_ble_eq_true rfl⟩ (by decide +kernel) (fun x5 => ?_)
    refine zs_iconst (pc := 40) (n := (-1)) (x := (-1)) C (by decide +kernel) (by decide +kernel) ?_
    refine zs_jn (pJ := 51) (kJ := 0) (sJ := 0) (fun t6 => [(0, sR 18), (1, sI t1)]) (fun t6 => [sI t6, sI x4, sR 18]) (fun t6 => ?_) (fun J7 hJ7 => ?_)
    · refine zs_ior (pc := 51) C (by decide +kernel) ?_
      refine zs_putI (pc := 52) (i := 50) (ci := 0) (k := 11) C (fun _ _ _ => rfl) (by decide +kernel) fl_RX0_50 fw_0_11 rfl rfl ?_
      refine zs_iconst (pc := 55) (n := 0) (x := 0) C (by decide +kernel) (by decide +kernel) ?_
      refine zs_istore_n (pc := 56) (k := 2) (i := 2) (ls' := [(2, sI 0), (0, sR 18), (1, sI t1)]) C (by decide +kernel) rfl (Nat.le_of_ble_eq_true rfl) rfl ?_
      refine zs_sub (ls' := [(0, sR 18), (1, sI t1), (2, sI 0)]) ⟨rfl, rfl, rfl, trivial⟩ ?_
      refine zs_lp (pc := 57) (fun (t8 : Int) => [(0, sR 18), (1, sI t1), (2, sI t8)]) (fun _ => []) (fun K9 hK9 t8 => ?_) BIG 0
      refine zs_iload_n (pc := 57) (k := 2) (i := 2) C (by decide +kernel) rfl rfl ?_
      refine zs_aload_n (pc := 58) (k := 0) (i := 0) C (by decide +kernel) rfl rfl ?_
      refine zs_getI (pc := 59) (i := 43) (ci := 0) (k := 9) C (by decide +kernel) fl_RX0_43 rfl rfl (fun x10 => ?_)
      refine zs_icmp_ge (pc := 62) (off := 51) (tgt := 113) C (by decide +kernel) (by decide) ?_ ?_
      · refine zs_iinc (pc := 113) (i := 1) (n := 1) (y := w32 (t1 + 1)) (ls' := [(1, sI (w32 (t1 + 1))), (0, sR 18), (2, sI t8)]) C (by decide +kernel) rfl rfl (Nat.le_of_ble_eq_true rfl) rfl ?_
        refine zs_goto (pc := 116) (off := (-101)) (tgt := 15) C (by decide +kernel) (by decide) ?_
        exact zs_goj (hK2 (w32 (t1 + 1))) ⟨rfl, rfl, trivial⟩
      · refine zs_aload_n (pc := 65) (k := 0) (i := 0) C (by decide +kernel) rfl rfl ?_
        refine zs_getR (o' := 19) (pc := 66) (i := 12) (ci := 0) (k := 0) C (by decide +kernel) fl_RX0_12 rfl rfl rfl ?_
        refine zs_getR (o' := 20) (pc := 69) (i := 72) (ci := 10) (k := 0) C (by decide +kernel) fl_RX0_72 rfl rfl rfl ?_
        refine zs_iload_n (pc := 72) (k := 1) (i := 1) C (by decide +kernel) rfl rfl ?_
        refine zs_iload_n (pc := 73) (k := 2) (i := 2) C (by decide +kernel) rfl rfl ?_
        refine zs_cvRi (pc := 74) (As := [sI t1, sI t8]) (st := []) C rfl (c_X3_apart l g t1 t8) ml_RX0_112 rfl rfl rfl rfl (Nat.le_of_ble_eq_true rfl) ⟨Nat.le_of_ble_eq_true rfl, Nat.le_of_ble_eq_true rfl⟩ ⟨Nat.le_of_ble_eq_true rfl, Nat.le_of_ble_eq_true rfl⟩ (by decide +kernel) (fun x11 => ?_)
        refine zs_istore_n (pc := 77) (k := 3) (i := 3) (ls' := [(3, sI x11), (0, sR 18), (1, sI t1), (2, sI t8)]) C (by decide +kernel) rfl (Nat.le_of_ble_eq_true rfl) rfl ?_
        refine zs_sub (ls' := [(0, sR 18), (1, sI t1), (2, sI t8), (3, sI x11)]) ⟨rfl, rfl, rfl, rfl, trivial⟩ ?_
        refine zs_lp (pc := 78) (fun (t12 : Int) => [(0, sR 18), (1, sI t1), (2, sI t8), (3, sI t12)]) (fun _ => []) (fun K13 hK13 t12 => ?_) BIG x11
        refine zs_iload_n (pc := 78) (k := 3) (i := 3) C (by decide +kernel) rfl rfl ?_
        refine zs_bipush (pc := 79) (n := 8) (x := 8) C (by decide +kernel) (by decide +kernel) ?_
        refine zs_icmp_gt (pc := 81) (off := 26) (tgt := 107) C (by decide +kernel) (by decide) ?_ ?_
        · refine zs_iinc (pc := 107) (i := 2) (n := 1) (y := w32 (t8 + 1)) (ls' := [(2, sI (w32 (t8 + 1))), (0, sR 18), (1, sI t1), (3, sI t12)]) C (by decide +kernel) rfl rfl (Nat.le_of_ble_eq_true rfl) rfl ?_
          refine zs_goto (pc := 110) (off := (-53)) (tgt := 57) C (by decide +kernel) (by decide) ?_
          exact zs_goj (hK9 (w32 (t8 + 1))) ⟨rfl, rfl, rfl, trivial⟩
        · refine zs_aload_n (pc := 84) (k := 0) (i := 0) C (by decide +kernel) rfl rfl ?_
          refine zs_getR (o' := 81) (pc := 85) (i := 28) (ci := 0) (k := 4) C (by decide +kernel) fl_RX0_28 rfl rfl rfl ?_
          refine zs_iload_n (pc := 88) (k := 3) (i := 3) C (by decide +kernel) rfl rfl ?_
          refine zs_bipush (pc := 89) (n := 25) (x := 25) C (by decide +kernel) (by decide +kernel) ?_
          refine zs_imul (pc := 91) C (by decide +kernel) ?_
          refine zs_iload_n (pc := 92) (k := 1) (i := 1) C (by decide +kernel) rfl rfl ?_
          refine zs_iadd (pc := 93) C (by decide +kernel) ?_
          refine zs_dup2 (pc := 94) C rfl rfl (by decide +kernel) ?_
          refine zs_iald (pc := 95) (o := 81) (n := 225) C (by decide +kernel) rfl (fun hinx14 x14 => ?_)
          refine zs_iconst (pc := 96) (n := 1) (x := 1) C (by decide +kernel) (by decide +kernel) ?_
          refine zs_iload_n (pc := 97) (k := 2) (i := 2) C (by decide +kernel) rfl rfl ?_
          refine zs_ishl (pc := 98) C (by decide +kernel) ?_
          refine zs_ior (pc := 99) C (by decide +kernel) ?_
          refine zs_iast (pc := 100) (o := 81) (n := 225) C (fun _ _ _ => rfl) (by decide +kernel) rfl ?_
          refine zs_iinc (pc := 101) (i := 3) (n := 1) (y := w32 (t12 + 1)) (ls' := [(3, sI (w32 (t12 + 1))), (0, sR 18), (1, sI t1), (2, sI t8)]) C (by decide +kernel) rfl rfl (Nat.le_of_ble_eq_true rfl) rfl ?_
          refine zs_goto (pc := 104) (off := (-26)) (tgt := 78) C (by decide +kernel) (by decide) ?_
          exact zs_goj (hK13 (w32 (t12 + 1))) ⟨rfl, rfl, rfl, rfl, trivial⟩
    · refine zs_icmp_ne (pc := 41) (off := 9) (tgt := 50) C (by decide +kernel) (by decide) ?_ ?_
      · refine zs_iconst (pc := 50) (n := 0) (x := 0) C (by decide +kernel) (by decide +kernel) ?_
        exact zs_goj (hJ7 0) ⟨rfl, rfl, trivial⟩
      · refine zs_iconst (pc := 44) (n := 1) (x := 1) C (by decide +kernel) (by decide +kernel) ?_
        refine zs_iload_n (pc := 45) (k := 1) (i := 1) C (by decide +kernel) rfl rfl ?_
        refine zs_ishl (pc := 46) C (by decide +kernel) ?_
        refine zs_goto (pc := 47) (off := 4) (tgt := 51) C (by decide +kernel) (by decide) ?_
        exact zs_goj (hJ7 (ishl 1 t1)) ⟨rfl, rfl, trivial⟩
set_option maxRecDepth 20000 in
theorem c_X0_bind (l : Launch) (g : GC) (a0 : Int) (a1 : Int) : ConV l g yX0_bind cX0_bind 3 (rmd 1 0 0) [sR 18, sI a0, sI a1] (fun mm => fX0_bind a0 a1 mm) := by
  refine zs_ofV (by decide +kernel) (Nat.le_of_ble_eq_true rfl) ?_
  intro p e s m args below meth c C hr
  replace C : Bd g RX0 cX0_bind 3 p s m args meth c := C
  unfold fX0_bind
  refine zs_aload_n (pc := 0) (k := 0) (i := 0) C (by decide +kernel) rfl rfl ?_
  refine zs_iload_n (pc := 1) (k := 1) (i := 1) C (by decide +kernel) rfl rfl ?_
  refine zs_putI (pc := 2) (i := 59) (ci := 0) (k := 14) C (fun _ _ _ => rfl) (by decide +kernel) fl_RX0_59 fw_0_14 rfl rfl ?_
  refine zs_aload_n (pc := 5) (k := 0) (i := 0) C (by decide +kernel) rfl rfl ?_
  refine zs_iload_n (pc := 6) (k := 2) (i := 2) C (by decide +kernel) rfl rfl ?_
  refine zs_putZ (pc := 7) (i := 62) (ci := 0) (k := 15) C (fun _ _ _ => rfl) (by decide +kernel) fl_RX0_62 fw_0_15 rfl rfl ?_
  refine zs_aload_n (pc := 10) (k := 0) (i := 0) C (by decide +kernel) rfl rfl ?_
  refine zs_iconst (pc := 11) (n := 0) (x := 0) C (by decide +kernel) (by decide +kernel) ?_
  refine zs_putI (pc := 12) (i := 69) (ci := 0) (k := 17) C (fun _ _ _ => rfl) (by decide +kernel) fl_RX0_69 fw_0_17 rfl rfl ?_
  exact zs_retVv (pc := 15) C hr ⟨Nat.le_of_ble_eq_true rfl, Nat.le_of_ble_eq_true rfl⟩ (by decide +kernel)
set_option maxRecDepth 20000 in
theorem c_X0_begin (l : Launch) (g : GC) (a0 : Int) : ConV l g yX0_begin cX0_begin 3 (rmd 4 0 0) [sR 18, sI a0] (fun mm => fX0_begin a0 mm) := by
  refine zs_ofV (by decide +kernel) (Nat.le_of_ble_eq_true rfl) ?_
  intro p e s m args below meth c C hr
  replace C : Bd g RX0 cX0_begin 3 p s m args meth c := C
  unfold fX0_begin
  refine zs_aload_n (pc := 0) (k := 0) (i := 0) C (by decide +kernel) rfl rfl ?_
  refine zs_getR (o' := 19) (pc := 1) (i := 12) (ci := 0) (k := 0) C (by decide +kernel) fl_RX0_12 rfl rfl rfl ?_
  refine zs_getR (o' := 20) (pc := 4) (i := 72) (ci := 10) (k := 0) C (by decide +kernel) fl_RX0_72 rfl rfl rfl ?_
  refine zs_astore_n (pc := 7) (k := 2) (i := 2) (ls' := [(2, sR 20), (0, sR 18), (1, sI a0)]) C (by decide +kernel) rfl (Nat.le_of_ble_eq_true rfl) rfl ?_
  refine zs_aload_n (pc := 8) (k := 0) (i := 0) C (by decide +kernel) rfl rfl ?_
  refine zs_iload_n (pc := 9) (k := 1) (i := 1) C (by decide +kernel) rfl rfl ?_
  refine zs_putI (pc := 10) (i := 53) (ci := 0) (k := 12) C (fun _ _ _ => rfl) (by decide +kernel) fl_RX0_53 fw_0_12 rfl rfl ?_
  refine zs_aload_n (pc := 13) (k := 0) (i := 0) C (by decide +kernel) rfl rfl ?_
  refine zs_aload_n (pc := 14) (k := 2) (i := 2) C (by decide +kernel) rfl rfl ?_
  refine zs_getI (pc := 15) (i := 76) (ci := 3) (k := 3) C (by decide +kernel) fl_RX0_76 rfl rfl (fun x1 => ?_)
  refine zs_putI (pc := 18) (i := 56) (ci := 0) (k := 13) C (fun _ _ _ => rfl) (by decide +kernel) fl_RX0_56 fw_0_13 rfl rfl ?_
  refine zs_aload_n (pc := 21) (k := 0) (i := 0) C (by decide +kernel) rfl rfl ?_
  refine zs_iconst (pc := 22) (n := 0) (x := 0) C (by decide +kernel) (by decide +kernel) ?_
  refine zs_putI (pc := 23) (i := 66) (ci := 0) (k := 16) C (fun _ _ _ => rfl) (by decide +kernel) fl_RX0_66 fw_0_16 rfl rfl ?_
  refine zs_aload_n (pc := 26) (k := 0) (i := 0) C (by decide +kernel) rfl rfl ?_
  refine zs_getI (pc := 27) (i := 47) (ci := 0) (k := 10) C (by decide +kernel) fl_RX0_47 rfl rfl (fun x2 => ?_)
  refine zs_aload_n (pc := 30) (k := 2) (i := 2) C (by decide +kernel) rfl rfl ?_
  refine zs_getI (pc := 31) (i := 79) (ci := 3) (k := 1) C (by decide +kernel) fl_RX0_79 rfl rfl (fun x3 => ?_)
  refine zs_jn (pJ := 68) (kJ := 0) (sJ := 0) (fun t4 => [(0, sR 18), (2, sR 20)]) (fun t4 => []) (fun t4 => ?_) (fun J5 hJ5 => ?_)
  · refine zs_aload_n (pc := 68) (k := 0) (i := 0) C (by decide +kernel) rfl rfl ?_
    refine zs_aload_n (pc := 69) (k := 2) (i := 2) C (by decide +kernel) rfl rfl ?_
    refine zs_getR (o' := 22) (pc := 70) (i := 86) (ci := 3) (k := 7) C (by decide +kernel) fl_RX0_86 rfl rfl rfl ?_
    refine zs_aload_n (pc := 73) (k := 0) (i := 0) C (by decide +kernel) rfl rfl ?_
    refine zs_getI (pc := 74) (i := 53) (ci := 0) (k := 12) C (by decide +kernel) fl_RX0_53 rfl rfl (fun x6 => ?_)
    refine zs_iald (pc := 77) (o := 22) (n := 4) C (by decide +kernel) rfl (fun hinx7 x7 => ?_)
    refine zs_aload_n (pc := 78) (k := 0) (i := 0) C (by decide +kernel) rfl rfl ?_
    refine zs_getR (o' := 19) (pc := 79) (i := 12) (ci := 0) (k := 0) C (by decide +kernel) fl_RX0_12 rfl rfl rfl ?_
    refine zs_getR (o' := 27) (pc := 82) (i := 88) (ci := 10) (k := 1) C (by decide +kernel) fl_RX0_88 rfl rfl rfl ?_
    refine zs_aload_n (pc := 85) (k := 0) (i := 0) C (by decide +kernel) rfl rfl ?_
    refine zs_getI (pc := 86) (i := 53) (ci := 0) (k := 12) C (by decide +kernel) fl_RX0_53 rfl rfl (fun x8 => ?_)
    refine zs_cvRi (pc := 89) (As := [sI x8]) (st := [sI x7, sR 18]) C rfl (c_X5_isParted l g x8) ml_RX0_92 rfl rfl rfl rfl (Nat.le_of_ble_eq_true rfl) ⟨Nat.le_of_ble_eq_true rfl, Nat.le_of_ble_eq_true rfl⟩ ⟨Nat.le_of_ble_eq_true rfl, Nat.le_of_ble_eq_true rfl⟩ (by decide +kernel) (fun x9 => ?_)
    refine zs_jn (pJ := 100) (kJ := 0) (sJ := 0) (fun t10 => []) (fun t10 => [sI t10, sI x7, sR 18]) (fun t10 => ?_) (fun J11 hJ11 => ?_)
    · refine zs_cvVv (pc := 100) (As := [sI x7, sI t10]) (st := []) C (fun _ _ _ => rfl) (c_X0_bind l g x7 t10) ml_RX0_98 rfl rfl rfl rfl (Nat.le_of_ble_eq_true rfl) ⟨Nat.le_of_ble_eq_true rfl, Nat.le_of_ble_eq_true rfl⟩ ⟨Nat.le_of_ble_eq_true rfl, Nat.le_of_ble_eq_true rfl⟩ (by decide +kernel) ?_
      exact zs_retVv (pc := 103) C hr ⟨Nat.le_of_ble_eq_true rfl, Nat.le_of_ble_eq_true rfl⟩ (by decide +kernel)
    · refine zs_if_ne (pc := 92) (off := 7) (tgt := 99) C (by decide +kernel) (by decide) ?_ ?_
      · refine zs_iconst (pc := 99) (n := 0) (x := 0) C (by decide +kernel) (by decide +kernel) ?_
        exact zs_goj (hJ11 0) trivial
      · refine zs_iconst (pc := 95) (n := 1) (x := 1) C (by decide +kernel) (by decide +kernel) ?_
        refine zs_goto (pc := 96) (off := 4) (tgt := 100) C (by decide +kernel) (by decide) ?_
        exact zs_goj (hJ11 1) trivial
  · refine zs_jn (pJ := 48) (kJ := 0) (sJ := 0) (fun t12 => [(0, sR 18), (2, sR 20)]) (fun t12 => []) (fun t12 => ?_) (fun J13 hJ13 => ?_)
    · refine zs_aload_n (pc := 48) (k := 0) (i := 0) C (by decide +kernel) rfl rfl ?_
      refine zs_aload_n (pc := 49) (k := 2) (i := 2) C (by decide +kernel) rfl rfl ?_
      refine zs_getI (pc := 50) (i := 79) (ci := 3) (k := 1) C (by decide +kernel) fl_RX0_79 rfl rfl (fun x14 => ?_)
      refine zs_putI (pc := 53) (i := 47) (ci := 0) (k := 10) C (fun _ _ _ => rfl) (by decide +kernel) fl_RX0_47 fw_0_10 rfl rfl ?_
      refine zs_aload_n (pc := 56) (k := 0) (i := 0) C (by decide +kernel) rfl rfl ?_
      refine zs_aload_n (pc := 57) (k := 2) (i := 2) C (by decide +kernel) rfl rfl ?_
      refine zs_cvRi (pc := 58) (As := []) (st := [sR 18]) C rfl (c_X3_places l g ) ml_RX0_80 rfl rfl rfl rfl (Nat.le_of_ble_eq_true rfl) ⟨Nat.le_of_ble_eq_true rfl, Nat.le_of_ble_eq_true rfl⟩ ⟨Nat.le_of_ble_eq_true rfl, Nat.le_of_ble_eq_true rfl⟩ (by decide +kernel) (fun x15 => ?_)
      refine zs_putI (pc := 61) (i := 43) (ci := 0) (k := 9) C (fun _ _ _ => rfl) (by decide +kernel) fl_RX0_43 fw_0_9 rfl rfl ?_
      refine zs_aload_n (pc := 64) (k := 0) (i := 0) C (by decide +kernel) rfl rfl ?_
      refine zs_cvVv (pc := 65) (As := []) (st := []) C (fun _ _ _ => rfl) (c_X0_fillNear l g ) ml_RX0_83 rfl rfl rfl rfl (Nat.le_of_ble_eq_true rfl) ⟨Nat.le_of_ble_eq_true rfl, Nat.le_of_ble_eq_true rfl⟩ ⟨Nat.le_of_ble_eq_true rfl, Nat.le_of_ble_eq_true rfl⟩ (by decide +kernel) ?_
      exact zs_goj (hJ5 ()) ⟨rfl, rfl, trivial⟩
    · refine zs_icmp_ne (pc := 34) (off := 14) (tgt := 48) C (by decide +kernel) (by decide) ?_ ?_
      · exact zs_goj (hJ13 ()) ⟨rfl, rfl, trivial⟩
      · refine zs_aload_n (pc := 37) (k := 0) (i := 0) C (by decide +kernel) rfl rfl ?_
        refine zs_getI (pc := 38) (i := 43) (ci := 0) (k := 9) C (by decide +kernel) fl_RX0_43 rfl rfl (fun x16 => ?_)
        refine zs_aload_n (pc := 41) (k := 2) (i := 2) C (by decide +kernel) rfl rfl ?_
        refine zs_cvRi (pc := 42) (As := []) (st := [sI x16]) C rfl (c_X3_places l g ) ml_RX0_80 rfl rfl rfl rfl (Nat.le_of_ble_eq_true rfl) ⟨Nat.le_of_ble_eq_true rfl, Nat.le_of_ble_eq_true rfl⟩ ⟨Nat.le_of_ble_eq_true rfl, Nat.le_of_ble_eq_true rfl⟩ (by decide +kernel) (fun x17 => ?_)
        refine zs_icmp_eq (pc := 45) (off := 23) (tgt := 68) C (by decide +kernel) (by decide) ?_ ?_
        · exact zs_goj (hJ5 ()) ⟨rfl, rfl, trivial⟩
        · exact zs_goj (hJ13 ()) ⟨rfl, rfl, trivial⟩
set_option maxRecDepth 20000 in
theorem c_X0_start (l : Launch) (g : GC)  : ConV l g yX0_start cX0_start 2 (rmd 1 0 0) [sR 18] (fun mm => fX0_start  mm) := by
  refine zs_ofV (by decide +kernel) (Nat.le_of_ble_eq_true rfl) ?_
  intro p e s m args below meth c C hr
  replace C : Bd g RX0 cX0_start 2 p s m args meth c := C
  unfold fX0_start
  refine zs_iconst (pc := 0) (n := 0) (x := 0) C (by decide +kernel) (by decide +kernel) ?_
  refine zs_istore_n (pc := 1) (k := 1) (i := 1) (ls' := [(1, sI 0), (0, sR 18)]) C (by decide +kernel) rfl (Nat.le_of_ble_eq_true rfl) rfl ?_
  refine zs_sub (ls' := [(0, sR 18), (1, sI 0)]) ⟨rfl, rfl, trivial⟩ ?_
  refine zs_lp (pc := 2) (fun (t1 : Int) => [(0, sR 18), (1, sI t1)]) (fun _ => []) (fun K2 hK2 t1 => ?_) BIG 0
  refine zs_iload_n (pc := 2) (k := 1) (i := 1) C (by decide +kernel) rfl rfl ?_
  refine zs_bipush (pc := 3) (n := 25) (x := 25) C (by decide +kernel) (by decide +kernel) ?_
  refine zs_icmp_ge (pc := 5) (off := 16) (tgt := 21) C (by decide +kernel) (by decide) ?_ ?_
  · refine zs_aload_n (pc := 21) (k := 0) (i := 0) C (by decide +kernel) rfl rfl ?_
    refine zs_getR (o' := 82) (pc := 22) (i := 31) (ci := 0) (k := 5) C (by decide +kernel) fl_RX0_31 rfl rfl rfl ?_
    refine zs_aload_n (pc := 25) (k := 0) (i := 0) C (by decide +kernel) rfl rfl ?_
    refine zs_getR (o' := 19) (pc := 26) (i := 12) (ci := 0) (k := 0) C (by decide +kernel) fl_RX0_12 rfl rfl rfl ?_
    refine zs_getR (o' := 27) (pc := 29) (i := 88) (ci := 10) (k := 1) C (by decide +kernel) fl_RX0_88 rfl rfl rfl ?_
    refine zs_getR (o' := 28) (pc := 32) (i := 150) (ci := 5) (k := 4) C (by decide +kernel) fl_RX0_150 rfl rfl rfl ?_
    refine zs_aload_n (pc := 35) (k := 0) (i := 0) C (by decide +kernel) rfl rfl ?_
    refine zs_getI (pc := 36) (i := 53) (ci := 0) (k := 12) C (by decide +kernel) fl_RX0_53 rfl rfl (fun x3 => ?_)
    refine zs_iald (pc := 39) (o := 28) (n := 4) C (by decide +kernel) rfl (fun hinx4 x4 => ?_)
    refine zs_iconst (pc := 40) (n := 1) (x := 1) C (by decide +kernel) (by decide +kernel) ?_
    refine zs_aload_n (pc := 41) (k := 0) (i := 0) C (by decide +kernel) rfl rfl ?_
    refine zs_getR (o' := 19) (pc := 42) (i := 12) (ci := 0) (k := 0) C (by decide +kernel) fl_RX0_12 rfl rfl rfl ?_
    refine zs_getR (o' := 27) (pc := 45) (i := 88) (ci := 10) (k := 1) C (by decide +kernel) fl_RX0_88 rfl rfl rfl ?_
    refine zs_getR (o' := 29) (pc := 48) (i := 153) (ci := 5) (k := 5) C (by decide +kernel) fl_RX0_153 rfl rfl rfl ?_
    refine zs_aload_n (pc := 51) (k := 0) (i := 0) C (by decide +kernel) rfl rfl ?_
    refine zs_getI (pc := 52) (i := 53) (ci := 0) (k := 12) C (by decide +kernel) fl_RX0_53 rfl rfl (fun x5 => ?_)
    refine zs_iald (pc := 55) (o := 29) (n := 4) C (by decide +kernel) rfl (fun hinx6 x6 => ?_)
    refine zs_ishl (pc := 56) C (by decide +kernel) ?_
    refine zs_iast (pc := 57) (o := 82) (n := 1025) C (fun _ _ _ => rfl) (by decide +kernel) rfl ?_
    exact zs_retVv (pc := 58) C hr ⟨Nat.le_of_ble_eq_true rfl, Nat.le_of_ble_eq_true rfl⟩ (by decide +kernel)
  · refine zs_aload_n (pc := 8) (k := 0) (i := 0) C (by decide +kernel) rfl rfl ?_
    refine zs_getR (o' := 82) (pc := 9) (i := 31) (ci := 0) (k := 5) C (by decide +kernel) fl_RX0_31 rfl rfl rfl ?_
    refine zs_iload_n (pc := 12) (k := 1) (i := 1) C (by decide +kernel) rfl rfl ?_
    refine zs_iconst (pc := 13) (n := 0) (x := 0) C (by decide +kernel) (by decide +kernel) ?_
    refine zs_iast (pc := 14) (o := 82) (n := 1025) C (fun _ _ _ => rfl) (by decide +kernel) rfl ?_
    refine zs_iinc (pc := 15) (i := 1) (n := 1) (y := w32 (t1 + 1)) (ls' := [(1, sI (w32 (t1 + 1))), (0, sR 18)]) C (by decide +kernel) rfl rfl (Nat.le_of_ble_eq_true rfl) rfl ?_
    refine zs_goto (pc := 18) (off := (-16)) (tgt := 2) C (by decide +kernel) (by decide) ?_
    exact zs_goj (hK2 (w32 (t1 + 1))) ⟨rfl, rfl, trivial⟩
set_option maxRecDepth 20000 in
theorem c_X0_foresee (l : Launch) (g : GC) (a0 : Int) : ConV l g yX0_foresee cX0_foresee 6 (rmd 3 0 0) [sR 18, sI a0] (fun mm => fX0_foresee a0 mm) := by
  refine zs_ofV (by decide +kernel) (Nat.le_of_ble_eq_true rfl) ?_
  intro p e s m args below meth c C hr
  replace C : Bd g RX0 cX0_foresee 6 p s m args meth c := C
  unfold fX0_foresee
  refine zs_aload_n (pc := 0) (k := 0) (i := 0) C (by decide +kernel) rfl rfl ?_
  refine zs_getR (o' := 19) (pc := 1) (i := 12) (ci := 0) (k := 0) C (by decide +kernel) fl_RX0_12 rfl rfl rfl ?_
  refine zs_getR (o' := 20) (pc := 4) (i := 72) (ci := 10) (k := 0) C (by decide +kernel) fl_RX0_72 rfl rfl rfl ?_
  refine zs_getR (o' := 25) (pc := 7) (i := 115) (ci := 3) (k := 9) C (by decide +kernel) fl_RX0_115 rfl rfl rfl ?_
  refine zs_astore_n (pc := 10) (k := 2) (i := 2) (ls' := [(2, sR 25), (0, sR 18), (1, sI a0)]) C (by decide +kernel) rfl (Nat.le_of_ble_eq_true rfl) rfl ?_
  refine zs_aload_n (pc := 11) (k := 0) (i := 0) C (by decide +kernel) rfl rfl ?_
  refine zs_getI (pc := 12) (i := 66) (ci := 0) (k := 16) C (by decide +kernel) fl_RX0_66 rfl rfl (fun x1 => ?_)
  refine zs_iconst (pc := 15) (n := 1) (x := 1) C (by decide +kernel) (by decide +kernel) ?_
  refine zs_iadd (pc := 16) C (by decide +kernel) ?_
  refine zs_let (fun x2 => ?_)
  refine zs_istore_n (pc := 17) (k := 3) (i := 3) (ls' := [(3, sI x2), (2, sR 25), (0, sR 18), (1, sI a0)]) C (by decide +kernel) rfl (Nat.le_of_ble_eq_true rfl) rfl ?_
  refine zs_sub (ls' := [(0, sR 18), (1, sI a0), (2, sR 25), (3, sI x2)]) ⟨rfl, rfl, rfl, rfl, trivial⟩ ?_
  refine zs_lp (pc := 18) (fun (t3 : Int) => [(0, sR 18), (1, sI a0), (2, sR 25), (3, sI t3)]) (fun _ => []) (fun K4 hK4 t3 => ?_) BIG x2
  refine zs_iload_n (pc := 18) (k := 3) (i := 3) C (by decide +kernel) rfl rfl ?_
  refine zs_iload_n (pc := 19) (k := 1) (i := 1) C (by decide +kernel) rfl rfl ?_
  refine zs_icmp_gt (pc := 20) (off := 164) (tgt := 184) C (by decide +kernel) (by decide) ?_ ?_
  · refine zs_aload_n (pc := 184) (k := 0) (i := 0) C (by decide +kernel) rfl rfl ?_
    refine zs_aload_n (pc := 185) (k := 0) (i := 0) C (by decide +kernel) rfl rfl ?_
    refine zs_getI (pc := 186) (i := 66) (ci := 0) (k := 16) C (by decide +kernel) fl_RX0_66 rfl rfl (fun x5 => ?_)
    refine zs_iload_n (pc := 189) (k := 1) (i := 1) C (by decide +kernel) rfl rfl ?_
    refine zs_mmax (pc := 190) (idx := 138) C wf_1359 wf_702 wf_166 wf_703 ⟨Nat.le_of_ble_eq_true rfl, Nat.le_of_ble_eq_true rfl, Nat.le_of_ble_eq_true rfl, Nat.le_of_ble_eq_true rfl⟩ (by decide +kernel) ?_
    refine zs_putI (pc := 193) (i := 66) (ci := 0) (k := 16) C (fun _ _ _ => rfl) (by decide +kernel) fl_RX0_66 fw_0_16 rfl rfl ?_
    refine zs_aload_n (pc := 196) (k := 0) (i := 0) C (by decide +kernel) rfl rfl ?_
    refine zs_getI (pc := 197) (i := 69) (ci := 0) (k := 17) C (by decide +kernel) fl_RX0_69 rfl rfl (fun x6 => ?_)
    refine zs_iconst (pc := 200) (n := 1) (x := 1) C (by decide +kernel) (by decide +kernel) ?_
    refine zs_iadd (pc := 201) C (by decide +kernel) ?_
    refine zs_let (fun x7 => ?_)
    refine zs_istore_n (pc := 202) (k := 3) (i := 3) (ls' := [(3, sI x7), (0, sR 18), (1, sI a0), (2, sR 25)]) C (by decide +kernel) rfl (Nat.le_of_ble_eq_true rfl) rfl ?_
    refine zs_sub (ls' := [(0, sR 18), (1, sI a0), (3, sI x7)]) ⟨rfl, rfl, rfl, trivial⟩ ?_
    refine zs_lp (pc := 203) (fun (t8 : Int) => [(0, sR 18), (1, sI a0), (3, sI t8)]) (fun _ => []) (fun K9 hK9 t8 => ?_) BIG x7
    refine zs_iload_n (pc := 203) (k := 3) (i := 3) C (by decide +kernel) rfl rfl ?_
    refine zs_iload_n (pc := 204) (k := 1) (i := 1) C (by decide +kernel) rfl rfl ?_
    refine zs_icmp_gt (pc := 205) (off := 63) (tgt := 268) C (by decide +kernel) (by decide) ?_ ?_
    · refine zs_aload_n (pc := 268) (k := 0) (i := 0) C (by decide +kernel) rfl rfl ?_
      refine zs_aload_n (pc := 269) (k := 0) (i := 0) C (by decide +kernel) rfl rfl ?_
      refine zs_getI (pc := 270) (i := 69) (ci := 0) (k := 17) C (by decide +kernel) fl_RX0_69 rfl rfl (fun x10 => ?_)
      refine zs_iload_n (pc := 273) (k := 1) (i := 1) C (by decide +kernel) rfl rfl ?_
      refine zs_mmax (pc := 274) (idx := 138) C wf_1359 wf_702 wf_166 wf_703 ⟨Nat.le_of_ble_eq_true rfl, Nat.le_of_ble_eq_true rfl, Nat.le_of_ble_eq_true rfl, Nat.le_of_ble_eq_true rfl⟩ (by decide +kernel) ?_
      refine zs_putI (pc := 277) (i := 69) (ci := 0) (k := 17) C (fun _ _ _ => rfl) (by decide +kernel) fl_RX0_69 fw_0_17 rfl rfl ?_
      exact zs_retVv (pc := 280) C hr ⟨Nat.le_of_ble_eq_true rfl, Nat.le_of_ble_eq_true rfl⟩ (by decide +kernel)
    · refine zs_aload_n (pc := 208) (k := 0) (i := 0) C (by decide +kernel) rfl rfl ?_
      refine zs_getI (pc := 209) (i := 62) (ci := 0) (k := 15) C (by decide +kernel) fl_RX0_62 rfl rfl (fun x11 => ?_)
      refine zs_jn (pJ := 247) (kJ := 0) (sJ := 0) (fun t12 => [(0, sR 18), (1, sI a0), (3, sI t8)]) (fun t12 => [sI t12]) (fun t12 => ?_) (fun J13 hJ13 => ?_)
      · refine zs_istore (pc := 247) (i := 4) (ls' := [(4, sI t12), (0, sR 18), (1, sI a0), (3, sI t8)]) C (by decide +kernel) (Nat.le_of_ble_eq_true rfl) rfl ?_
        refine zs_aload_n (pc := 249) (k := 0) (i := 0) C (by decide +kernel) rfl rfl ?_
        refine zs_getR (o' := 80) (pc := 250) (i := 25) (ci := 0) (k := 3) C (by decide +kernel) fl_RX0_25 rfl rfl rfl ?_
        refine zs_iload_n (pc := 253) (k := 3) (i := 3) C (by decide +kernel) rfl rfl ?_
        refine zs_bipush (pc := 254) (n := 8) (x := 8) C (by decide +kernel) (by decide +kernel) ?_
        refine zs_iload (pc := 256) (i := 4) C (by decide +kernel) rfl ?_
        refine zs_mmin (pc := 258) (idx := 147) C wf_1361 wf_717 wf_166 wf_718 ⟨Nat.le_of_ble_eq_true rfl, Nat.le_of_ble_eq_true rfl, Nat.le_of_ble_eq_true rfl, Nat.le_of_ble_eq_true rfl⟩ (by decide +kernel) ?_
        refine zs_iast (pc := 261) (o := 80) (n := 41) C (fun _ _ _ => rfl) (by decide +kernel) rfl ?_
        refine zs_iinc (pc := 262) (i := 3) (n := 1) (y := w32 (t8 + 1)) (ls' := [(3, sI (w32 (t8 + 1))), (4, sI t12), (0, sR 18), (1, sI a0)]) C (by decide +kernel) rfl rfl (Nat.le_of_ble_eq_true rfl) rfl ?_
        refine zs_goto (pc := 265) (off := (-62)) (tgt := 203) C (by decide +kernel) (by decide) ?_
        exact zs_goj (hK9 (w32 (t8 + 1))) ⟨rfl, rfl, rfl, trivial⟩
      · refine zs_if_eq (pc := 212) (off := 33) (tgt := 245) C (by decide +kernel) (by decide) ?_ ?_
        · refine zs_bipush (pc := 245) (n := 8) (x := 8) C (by decide +kernel) (by decide +kernel) ?_
          exact zs_goj (hJ13 8) ⟨rfl, rfl, rfl, trivial⟩
        · refine zs_aload_n (pc := 215) (k := 0) (i := 0) C (by decide +kernel) rfl rfl ?_
          refine zs_getR (o' := 19) (pc := 216) (i := 12) (ci := 0) (k := 0) C (by decide +kernel) fl_RX0_12 rfl rfl rfl ?_
          refine zs_aload_n (pc := 219) (k := 0) (i := 0) C (by decide +kernel) rfl rfl ?_
          refine zs_getI (pc := 220) (i := 53) (ci := 0) (k := 12) C (by decide +kernel) fl_RX0_53 rfl rfl (fun x14 => ?_)
          refine zs_aload_n (pc := 223) (k := 0) (i := 0) C (by decide +kernel) rfl rfl ?_
          refine zs_getI (pc := 224) (i := 59) (ci := 0) (k := 14) C (by decide +kernel) fl_RX0_59 rfl rfl (fun x15 => ?_)
          refine zs_aload_n (pc := 227) (k := 0) (i := 0) C (by decide +kernel) rfl rfl ?_
          refine zs_getR (o' := 19) (pc := 228) (i := 12) (ci := 0) (k := 0) C (by decide +kernel) fl_RX0_12 rfl rfl rfl ?_
          refine zs_getR (o' := 27) (pc := 231) (i := 88) (ci := 10) (k := 1) C (by decide +kernel) fl_RX0_88 rfl rfl rfl ?_
          refine zs_getI (pc := 234) (i := 119) (ci := 5) (k := 0) C (by decide +kernel) fl_RX0_119 rfl rfl (fun x16 => ?_)
          refine zs_iload_n (pc := 237) (k := 3) (i := 3) C (by decide +kernel) rfl rfl ?_
          refine zs_iadd (pc := 238) C (by decide +kernel) ?_
          refine zs_cvWi (pc := 239) (As := [sI x14, sI x15, sI (w32 (x16 + t8))]) (st := []) C (fun _ _ _ => rfl) rfl (c_X10_lengthOf l g x14 x15 (w32 (x16 + t8))) ml_RX0_143 rfl rfl rfl rfl (Nat.le_of_ble_eq_true rfl) ⟨Nat.le_of_ble_eq_true rfl, Nat.le_of_ble_eq_true rfl⟩ ⟨Nat.le_of_ble_eq_true rfl, Nat.le_of_ble_eq_true rfl⟩ (by decide +kernel) (fun x17 => ?_)
          refine zs_goto (pc := 242) (off := 5) (tgt := 247) C (by decide +kernel) (by decide) ?_
          exact zs_goj (hJ13 x17) ⟨rfl, rfl, rfl, trivial⟩
  · refine zs_aload_n (pc := 23) (k := 0) (i := 0) C (by decide +kernel) rfl rfl ?_
    refine zs_getR (o' := 19) (pc := 24) (i := 12) (ci := 0) (k := 0) C (by decide +kernel) fl_RX0_12 rfl rfl rfl ?_
    refine zs_getR (o' := 27) (pc := 27) (i := 88) (ci := 10) (k := 1) C (by decide +kernel) fl_RX0_88 rfl rfl rfl ?_
    refine zs_getI (pc := 30) (i := 119) (ci := 5) (k := 0) C (by decide +kernel) fl_RX0_119 rfl rfl (fun x18 => ?_)
    refine zs_iload_n (pc := 33) (k := 3) (i := 3) C (by decide +kernel) rfl rfl ?_
    refine zs_iadd (pc := 34) C (by decide +kernel) ?_
    refine zs_let (fun x19 => ?_)
    refine zs_istore (pc := 35) (i := 4) (ls' := [(4, sI x19), (0, sR 18), (1, sI a0), (2, sR 25), (3, sI t3)]) C (by decide +kernel) (Nat.le_of_ble_eq_true rfl) rfl ?_
    refine zs_aload_n (pc := 37) (k := 0) (i := 0) C (by decide +kernel) rfl rfl ?_
    refine zs_getR (o' := 19) (pc := 38) (i := 12) (ci := 0) (k := 0) C (by decide +kernel) fl_RX0_12 rfl rfl rfl ?_
    refine zs_getR (o' := 27) (pc := 41) (i := 88) (ci := 10) (k := 1) C (by decide +kernel) fl_RX0_88 rfl rfl rfl ?_
    refine zs_iload (pc := 44) (i := 4) C (by decide +kernel) rfl ?_
    refine zs_cvRi (pc := 46) (As := [sI x19]) (st := []) C rfl (c_X5_rainIn l g x19) ml_RX0_122 rfl rfl rfl rfl (Nat.le_of_ble_eq_true rfl) ⟨Nat.le_of_ble_eq_true rfl, Nat.le_of_ble_eq_true rfl⟩ ⟨Nat.le_of_ble_eq_true rfl, Nat.le_of_ble_eq_true rfl⟩ (by decide +kernel) (fun x20 => ?_)
    refine zs_aload_n (pc := 49) (k := 0) (i := 0) C (by decide +kernel) rfl rfl ?_
    refine zs_getR (o' := 19) (pc := 50) (i := 12) (ci := 0) (k := 0) C (by decide +kernel) fl_RX0_12 rfl rfl rfl ?_
    refine zs_getR (o' := 27) (pc := 53) (i := 88) (ci := 10) (k := 1) C (by decide +kernel) fl_RX0_88 rfl rfl rfl ?_
    refine zs_iload (pc := 56) (i := 4) C (by decide +kernel) rfl ?_
    refine zs_iconst (pc := 58) (n := 1) (x := 1) C (by decide +kernel) (by decide +kernel) ?_
    refine zs_isub (pc := 59) C (by decide +kernel) ?_
    refine zs_cvRi (pc := 60) (As := [sI (w32 (x19 - 1))]) (st := [sI x20]) C rfl (c_X5_rainIn l g (w32 (x19 - 1))) ml_RX0_122 rfl rfl rfl rfl (Nat.le_of_ble_eq_true rfl) ⟨Nat.le_of_ble_eq_true rfl, Nat.le_of_ble_eq_true rfl⟩ ⟨Nat.le_of_ble_eq_true rfl, Nat.le_of_ble_eq_true rfl⟩ (by decide +kernel) (fun x21 => ?_)
    refine zs_jn (pJ := 71) (kJ := 0) (sJ := 0) (fun t22 => [(0, sR 18), (1, sI a0), (2, sR 25), (3, sI t3), (4, sI x19)]) (fun t22 => [sI t22]) (fun t22 => ?_) (fun J23 hJ23 => ?_)
    · refine zs_istore (pc := 71) (i := 5) (ls' := [(5, sI t22), (0, sR 18), (1, sI a0), (2, sR 25), (3, sI t3), (4, sI x19)]) C (by decide +kernel) (Nat.le_of_ble_eq_true rfl) rfl ?_
      refine zs_iload_n (pc := 73) (k := 3) (i := 3) C (by decide +kernel) rfl rfl ?_
      refine zs_iconst (pc := 74) (n := 1) (x := 1) C (by decide +kernel) (by decide +kernel) ?_
      refine zs_jn (pJ := 178) (kJ := 0) (sJ := 0) (fun t24 => [(0, sR 18), (1, sI a0), (2, sR 25), (3, sI t3)]) (fun t24 => []) (fun t24 => ?_) (fun J25 hJ25 => ?_)
      · refine zs_iinc (pc := 178) (i := 3) (n := 1) (y := w32 (t3 + 1)) (ls' := [(3, sI (w32 (t3 + 1))), (0, sR 18), (1, sI a0), (2, sR 25)]) C (by decide +kernel) rfl rfl (Nat.le_of_ble_eq_true rfl) rfl ?_
        refine zs_goto (pc := 181) (off := (-163)) (tgt := 18) C (by decide +kernel) (by decide) ?_
        exact zs_goj (hK4 (w32 (t3 + 1))) ⟨rfl, rfl, rfl, rfl, trivial⟩
      · refine zs_jn (pJ := 128) (kJ := 0) (sJ := 0) (fun t26 => [(0, sR 18), (1, sI a0), (2, sR 25), (3, sI t3), (4, sI x19)]) (fun t26 => []) (fun t26 => ?_) (fun J27 hJ27 => ?_)
        · refine zs_aload_n (pc := 128) (k := 0) (i := 0) C (by decide +kernel) rfl rfl ?_
          refine zs_getR (o' := 78) (pc := 129) (i := 18) (ci := 0) (k := 1) C (by decide +kernel) fl_RX0_18 rfl rfl rfl ?_
          refine zs_iload_n (pc := 132) (k := 3) (i := 3) C (by decide +kernel) rfl rfl ?_
          refine zs_aload_n (pc := 133) (k := 0) (i := 0) C (by decide +kernel) rfl rfl ?_
          refine zs_getR (o' := 19) (pc := 134) (i := 12) (ci := 0) (k := 0) C (by decide +kernel) fl_RX0_12 rfl rfl rfl ?_
          refine zs_aload_n (pc := 137) (k := 0) (i := 0) C (by decide +kernel) rfl rfl ?_
          refine zs_getI (pc := 138) (i := 53) (ci := 0) (k := 12) C (by decide +kernel) fl_RX0_53 rfl rfl (fun x28 => ?_)
          refine zs_iconst (pc := 141) (n := 0) (x := 0) C (by decide +kernel) (by decide +kernel) ?_
          refine zs_iload (pc := 142) (i := 4) C (by decide +kernel) rfl ?_
          refine zs_iconst (pc := 144) (n := 0) (x := 0) C (by decide +kernel) (by decide +kernel) ?_
          refine zs_aload_n (pc := 145) (k := 0) (i := 0) C (by decide +kernel) rfl rfl ?_
          refine zs_getI (pc := 146) (i := 43) (ci := 0) (k := 9) C (by decide +kernel) fl_RX0_43 rfl rfl (fun x29 => ?_)
          refine zs_cvWi (pc := 149) (As := [sI x28, sI 0, sI x19, sI 0, sI x29]) (st := [sI t3, sR 78]) C (fun _ _ _ => rfl) rfl (c_X10_lawBits l g x28 0 x19 0 x29) ml_RX0_134 rfl rfl rfl rfl (Nat.le_of_ble_eq_true rfl) ⟨Nat.le_of_ble_eq_true rfl, Nat.le_of_ble_eq_true rfl⟩ ⟨Nat.le_of_ble_eq_true rfl, Nat.le_of_ble_eq_true rfl⟩ (by decide +kernel) (fun x30 => ?_)
          refine zs_iast (pc := 152) (o := 78) (n := 41) C (fun _ _ _ => rfl) (by decide +kernel) rfl ?_
          refine zs_aload_n (pc := 153) (k := 0) (i := 0) C (by decide +kernel) rfl rfl ?_
          refine zs_getR (o' := 79) (pc := 154) (i := 22) (ci := 0) (k := 2) C (by decide +kernel) fl_RX0_22 rfl rfl rfl ?_
          refine zs_iload_n (pc := 157) (k := 3) (i := 3) C (by decide +kernel) rfl rfl ?_
          refine zs_aload_n (pc := 158) (k := 0) (i := 0) C (by decide +kernel) rfl rfl ?_
          refine zs_getR (o' := 19) (pc := 159) (i := 12) (ci := 0) (k := 0) C (by decide +kernel) fl_RX0_12 rfl rfl rfl ?_
          refine zs_aload_n (pc := 162) (k := 0) (i := 0) C (by decide +kernel) rfl rfl ?_
          refine zs_getI (pc := 163) (i := 53) (ci := 0) (k := 12) C (by decide +kernel) fl_RX0_53 rfl rfl (fun x31 => ?_)
          refine zs_iconst (pc := 166) (n := 1) (x := 1) C (by decide +kernel) (by decide +kernel) ?_
          refine zs_iload (pc := 167) (i := 4) C (by decide +kernel) rfl ?_
          refine zs_iconst (pc := 169) (n := 0) (x := 0) C (by decide +kernel) (by decide +kernel) ?_
          refine zs_aload_n (pc := 170) (k := 0) (i := 0) C (by decide +kernel) rfl rfl ?_
          refine zs_getI (pc := 171) (i := 43) (ci := 0) (k := 9) C (by decide +kernel) fl_RX0_43 rfl rfl (fun x32 => ?_)
          refine zs_cvWi (pc := 174) (As := [sI x31, sI 1, sI x19, sI 0, sI x32]) (st := [sI t3, sR 79]) C (fun _ _ _ => rfl) rfl (c_X10_lawBits l g x31 1 x19 0 x32) ml_RX0_134 rfl rfl rfl rfl (Nat.le_of_ble_eq_true rfl) ⟨Nat.le_of_ble_eq_true rfl, Nat.le_of_ble_eq_true rfl⟩ ⟨Nat.le_of_ble_eq_true rfl, Nat.le_of_ble_eq_true rfl⟩ (by decide +kernel) (fun x33 => ?_)
          refine zs_iast (pc := 177) (o := 79) (n := 41) C (fun _ _ _ => rfl) (by decide +kernel) rfl ?_
          exact zs_goj (hJ25 ()) ⟨rfl, rfl, rfl, rfl, trivial⟩
        · refine zs_icmp_le (pc := 75) (off := 53) (tgt := 128) C (by decide +kernel) (by decide) ?_ ?_
          · exact zs_goj (hJ27 ()) ⟨rfl, rfl, rfl, rfl, rfl, trivial⟩
          · refine zs_aload_n (pc := 78) (k := 2) (i := 2) C (by decide +kernel) rfl rfl ?_
            refine zs_getI (pc := 79) (i := 126) (ci := 4) (k := 5) C (by decide +kernel) fl_RX0_126 rfl rfl (fun x34 => ?_)
            refine zs_if_ne (pc := 82) (off := 46) (tgt := 128) C (by decide +kernel) (by decide) ?_ ?_
            · exact zs_goj (hJ27 ()) ⟨rfl, rfl, rfl, rfl, rfl, trivial⟩
            · refine zs_aload_n (pc := 85) (k := 2) (i := 2) C (by decide +kernel) rfl rfl ?_
              refine zs_getI (pc := 86) (i := 131) (ci := 4) (k := 6) C (by decide +kernel) fl_RX0_131 rfl rfl (fun x35 => ?_)
              refine zs_jn (pJ := 97) (kJ := 0) (sJ := 0) (fun t36 => [(0, sR 18), (1, sI a0), (2, sR 25), (3, sI t3)]) (fun t36 => []) (fun t36 => ?_) (fun J37 hJ37 => ?_)
              · refine zs_aload_n (pc := 97) (k := 0) (i := 0) C (by decide +kernel) rfl rfl ?_
                refine zs_getR (o' := 78) (pc := 98) (i := 18) (ci := 0) (k := 1) C (by decide +kernel) fl_RX0_18 rfl rfl rfl ?_
                refine zs_iload_n (pc := 101) (k := 3) (i := 3) C (by decide +kernel) rfl rfl ?_
                refine zs_aload_n (pc := 102) (k := 0) (i := 0) C (by decide +kernel) rfl rfl ?_
                refine zs_getR (o' := 78) (pc := 103) (i := 18) (ci := 0) (k := 1) C (by decide +kernel) fl_RX0_18 rfl rfl rfl ?_
                refine zs_iload_n (pc := 106) (k := 3) (i := 3) C (by decide +kernel) rfl rfl ?_
                refine zs_iconst (pc := 107) (n := 1) (x := 1) C (by decide +kernel) (by decide +kernel) ?_
                refine zs_isub (pc := 108) C (by decide +kernel) ?_
                refine zs_iald (pc := 109) (o := 78) (n := 41) C (by decide +kernel) rfl (fun hinx38 x38 => ?_)
                refine zs_iast (pc := 110) (o := 78) (n := 41) C (fun _ _ _ => rfl) (by decide +kernel) rfl ?_
                refine zs_aload_n (pc := 111) (k := 0) (i := 0) C (by decide +kernel) rfl rfl ?_
                refine zs_getR (o' := 79) (pc := 112) (i := 22) (ci := 0) (k := 2) C (by decide +kernel) fl_RX0_22 rfl rfl rfl ?_
                refine zs_iload_n (pc := 115) (k := 3) (i := 3) C (by decide +kernel) rfl rfl ?_
                refine zs_aload_n (pc := 116) (k := 0) (i := 0) C (by decide +kernel) rfl rfl ?_
                refine zs_getR (o' := 79) (pc := 117) (i := 22) (ci := 0) (k := 2) C (by decide +kernel) fl_RX0_22 rfl rfl rfl ?_
                refine zs_iload_n (pc := 120) (k := 3) (i := 3) C (by decide +kernel) rfl rfl ?_
                refine zs_iconst (pc := 121) (n := 1) (x := 1) C (by decide +kernel) (by decide +kernel) ?_
                refine zs_isub (pc := 122) C (by decide +kernel) ?_
                refine zs_iald (pc := 123) (o := 79) (n := 41) C (by decide +kernel) rfl (fun hinx39 x39 => ?_)
                refine zs_iast (pc := 124) (o := 79) (n := 41) C (fun _ _ _ => rfl) (by decide +kernel) rfl ?_
                refine zs_goto (pc := 125) (off := 53) (tgt := 178) C (by decide +kernel) (by decide) ?_
                exact zs_goj (hJ25 ()) ⟨rfl, rfl, rfl, rfl, trivial⟩
              · refine zs_if_eq (pc := 89) (off := 8) (tgt := 97) C (by decide +kernel) (by decide) ?_ ?_
                · exact zs_goj (hJ37 ()) ⟨rfl, rfl, rfl, rfl, trivial⟩
                · refine zs_iload (pc := 92) (i := 5) C (by decide +kernel) rfl ?_
                  refine zs_if_ne (pc := 94) (off := 34) (tgt := 128) C (by decide +kernel) (by decide) ?_ ?_
                  · exact zs_goj (hJ27 ()) ⟨rfl, rfl, rfl, rfl, rfl, trivial⟩
                  · exact zs_goj (hJ37 ()) ⟨rfl, rfl, rfl, rfl, trivial⟩
    · refine zs_icmp_eq (pc := 63) (off := 7) (tgt := 70) C (by decide +kernel) (by decide) ?_ ?_
      · refine zs_iconst (pc := 70) (n := 0) (x := 0) C (by decide +kernel) (by decide +kernel) ?_
        exact zs_goj (hJ23 0) ⟨rfl, rfl, rfl, rfl, rfl, trivial⟩
      · refine zs_iconst (pc := 66) (n := 1) (x := 1) C (by decide +kernel) (by decide +kernel) ?_
        refine zs_goto (pc := 67) (off := 4) (tgt := 71) C (by decide +kernel) (by decide) ?_
        exact zs_goj (hJ23 1) ⟨rfl, rfl, rfl, rfl, rfl, trivial⟩
set_option maxRecDepth 20000 in
theorem c_X0_around (l : Launch) (g : GC) (a0 : Int) : ConR l g yX0_around cX0_around 3 (some .int) (rmd 1 0 0) [sR 18, sI a0] (fun mm => fX0_around a0 mm) := by
  refine zs_ofR (by decide +kernel) (Nat.le_of_ble_eq_true rfl) ?_
  intro p e s m args below meth c C hr
  replace C : Bd g RX0 cX0_around 3 p s m args meth c := C
  unfold fX0_around
  refine zs_iconst (pc := 0) (n := 1) (x := 1) C (by decide +kernel) (by decide +kernel) ?_
  refine zs_aload_n (pc := 1) (k := 0) (i := 0) C (by decide +kernel) rfl rfl ?_
  refine zs_getI (pc := 2) (i := 43) (ci := 0) (k := 9) C (by decide +kernel) fl_RX0_43 rfl rfl (fun x1 => ?_)
  refine zs_ishl (pc := 5) C (by decide +kernel) ?_
  refine zs_iconst (pc := 6) (n := 1) (x := 1) C (by decide +kernel) (by decide +kernel) ?_
  refine zs_isub (pc := 7) C (by decide +kernel) ?_
  refine zs_let (fun x2 => ?_)
  refine zs_istore_n (pc := 8) (k := 2) (i := 2) (ls' := [(2, sI x2), (0, sR 18), (1, sI a0)]) C (by decide +kernel) rfl (Nat.le_of_ble_eq_true rfl) rfl ?_
  refine zs_iload_n (pc := 9) (k := 1) (i := 1) C (by decide +kernel) rfl rfl ?_
  refine zs_aload_n (pc := 10) (k := 0) (i := 0) C (by decide +kernel) rfl rfl ?_
  refine zs_getI (pc := 11) (i := 47) (ci := 0) (k := 10) C (by decide +kernel) fl_RX0_47 rfl rfl (fun x3 => ?_)
  refine zs_iushr (pc := 14) C (by decide +kernel) ?_
  refine zs_iload_n (pc := 15) (k := 1) (i := 1) C (by decide +kernel) rfl rfl ?_
  refine zs_aload_n (pc := 16) (k := 0) (i := 0) C (by decide +kernel) rfl rfl ?_
  refine zs_getI (pc := 17) (i := 47) (ci := 0) (k := 10) C (by decide +kernel) fl_RX0_47 rfl rfl (fun x4 => ?_)
  refine zs_ishl (pc := 20) C (by decide +kernel) ?_
  refine zs_iload_n (pc := 21) (k := 2) (i := 2) C (by decide +kernel) rfl rfl ?_
  refine zs_iand (pc := 22) C (by decide +kernel) ?_
  refine zs_ior (pc := 23) C (by decide +kernel) ?_
  refine zs_iload_n (pc := 24) (k := 1) (i := 1) C (by decide +kernel) rfl rfl ?_
  refine zs_aload_n (pc := 25) (k := 0) (i := 0) C (by decide +kernel) rfl rfl ?_
  refine zs_getI (pc := 26) (i := 50) (ci := 0) (k := 11) C (by decide +kernel) fl_RX0_50 rfl rfl (fun x5 => ?_)
  refine zs_iconst (pc := 29) (n := (-1)) (x := (-1)) C (by decide +kernel) (by decide +kernel) ?_
  refine zs_ixor (pc := 30) C (by decide +kernel) ?_
  refine zs_iand (pc := 31) C (by decide +kernel) ?_
  refine zs_iconst (pc := 32) (n := 1) (x := 1) C (by decide +kernel) (by decide +kernel) ?_
  refine zs_ishl (pc := 33) C (by decide +kernel) ?_
  refine zs_ior (pc := 34) C (by decide +kernel) ?_
  refine zs_iload_n (pc := 35) (k := 1) (i := 1) C (by decide +kernel) rfl rfl ?_
  refine zs_iconst (pc := 36) (n := 1) (x := 1) C (by decide +kernel) (by decide +kernel) ?_
  refine zs_iushr (pc := 37) C (by decide +kernel) ?_
  refine zs_aload_n (pc := 38) (k := 0) (i := 0) C (by decide +kernel) rfl rfl ?_
  refine zs_getI (pc := 39) (i := 50) (ci := 0) (k := 11) C (by decide +kernel) fl_RX0_50 rfl rfl (fun x6 => ?_)
  refine zs_iconst (pc := 42) (n := (-1)) (x := (-1)) C (by decide +kernel) (by decide +kernel) ?_
  refine zs_ixor (pc := 43) C (by decide +kernel) ?_
  refine zs_iand (pc := 44) C (by decide +kernel) ?_
  refine zs_ior (pc := 45) C (by decide +kernel) ?_
  exact zs_retRi (pc := 46) C hr ⟨Nat.le_of_ble_eq_true rfl, Nat.le_of_ble_eq_true rfl⟩ (by decide +kernel)
set_option maxRecDepth 20000 in
theorem c_X0_spreadAround (l : Launch) (g : GC) (a0 : Int) : ConR l g yX0_spreadAround cX0_spreadAround 6 (some .int) (rmd 1 0 0) [sR 18, sI a0] (fun mm => fX0_spreadAround a0 mm) := by
  refine zs_ofR (by decide +kernel) (Nat.le_of_ble_eq_true rfl) ?_
  intro p e s m args below meth c C hr
  replace C : Bd g RX0 cX0_spreadAround 6 p s m args meth c := C
  unfold fX0_spreadAround
  refine zs_iload_n (pc := 0) (k := 1) (i := 1) C (by decide +kernel) rfl rfl ?_
  refine zs_aload_n (pc := 1) (k := 0) (i := 0) C (by decide +kernel) rfl rfl ?_
  refine zs_getI (pc := 2) (i := 47) (ci := 0) (k := 10) C (by decide +kernel) fl_RX0_47 rfl rfl (fun x1 => ?_)
  refine zs_jn (pJ := 23) (kJ := 0) (sJ := 0) (fun t2 => [(0, sR 18), (1, sI a0)]) (fun t2 => [sI t2]) (fun t2 => ?_) (fun J3 hJ3 => ?_)
  · refine zs_istore_n (pc := 23) (k := 2) (i := 2) (ls' := [(2, sI t2), (0, sR 18), (1, sI a0)]) C (by decide +kernel) rfl (Nat.le_of_ble_eq_true rfl) rfl ?_
    refine zs_aload_n (pc := 24) (k := 0) (i := 0) C (by decide +kernel) rfl rfl ?_
    refine zs_getI (pc := 25) (i := 50) (ci := 0) (k := 11) C (by decide +kernel) fl_RX0_50 rfl rfl (fun x4 => ?_)
    refine zs_iload_n (pc := 28) (k := 1) (i := 1) C (by decide +kernel) rfl rfl ?_
    refine zs_iushr (pc := 29) C (by decide +kernel) ?_
    refine zs_iconst (pc := 30) (n := 1) (x := 1) C (by decide +kernel) (by decide +kernel) ?_
    refine zs_iand (pc := 31) C (by decide +kernel) ?_
    refine zs_jn (pJ := 47) (kJ := 0) (sJ := 0) (fun t5 => [(0, sR 18), (1, sI a0), (2, sI t2)]) (fun t5 => [sI t5]) (fun t5 => ?_) (fun J6 hJ6 => ?_)
    · refine zs_istore_n (pc := 47) (k := 3) (i := 3) (ls' := [(3, sI t5), (0, sR 18), (1, sI a0), (2, sI t2)]) C (by decide +kernel) rfl (Nat.le_of_ble_eq_true rfl) rfl ?_
      refine zs_iload_n (pc := 48) (k := 1) (i := 1) C (by decide +kernel) rfl rfl ?_
      refine zs_aload_n (pc := 49) (k := 0) (i := 0) C (by decide +kernel) rfl rfl ?_
      refine zs_getI (pc := 50) (i := 47) (ci := 0) (k := 10) C (by decide +kernel) fl_RX0_47 rfl rfl (fun x7 => ?_)
      refine zs_iadd (pc := 53) C (by decide +kernel) ?_
      refine zs_aload_n (pc := 54) (k := 0) (i := 0) C (by decide +kernel) rfl rfl ?_
      refine zs_getI (pc := 55) (i := 43) (ci := 0) (k := 9) C (by decide +kernel) fl_RX0_43 rfl rfl (fun x8 => ?_)
      refine zs_jn (pJ := 76) (kJ := 0) (sJ := 0) (fun t9 => [(0, sR 18), (1, sI a0), (2, sI t2), (3, sI t5)]) (fun t9 => [sI t9]) (fun t9 => ?_) (fun J10 hJ10 => ?_)
      · refine zs_istore (pc := 76) (i := 4) (ls' := [(4, sI t9), (0, sR 18), (1, sI a0), (2, sI t2), (3, sI t5)]) C (by decide +kernel) (Nat.le_of_ble_eq_true rfl) rfl ?_
        refine zs_iload_n (pc := 78) (k := 1) (i := 1) C (by decide +kernel) rfl rfl ?_
        refine zs_jn (pJ := 107) (kJ := 0) (sJ := 0) (fun t11 => [(2, sI t2), (3, sI t5), (4, sI t9)]) (fun t11 => [sI t11]) (fun t11 => ?_) (fun J12 hJ12 => ?_)
        · refine zs_istore (pc := 107) (i := 5) (ls' := [(5, sI t11), (2, sI t2), (3, sI t5), (4, sI t9)]) C (by decide +kernel) (Nat.le_of_ble_eq_true rfl) rfl ?_
          refine zs_iload_n (pc := 109) (k := 2) (i := 2) C (by decide +kernel) rfl rfl ?_
          refine zs_iload_n (pc := 110) (k := 3) (i := 3) C (by decide +kernel) rfl rfl ?_
          refine zs_ior (pc := 111) C (by decide +kernel) ?_
          refine zs_iload (pc := 112) (i := 4) C (by decide +kernel) rfl ?_
          refine zs_ior (pc := 114) C (by decide +kernel) ?_
          refine zs_iload (pc := 115) (i := 5) C (by decide +kernel) rfl ?_
          refine zs_ior (pc := 117) C (by decide +kernel) ?_
          exact zs_retRi (pc := 118) C hr ⟨Nat.le_of_ble_eq_true rfl, Nat.le_of_ble_eq_true rfl⟩ (by decide +kernel)
        · refine zs_jn (pJ := 106) (kJ := 0) (sJ := 0) (fun t13 => [(2, sI t2), (3, sI t5), (4, sI t9)]) (fun t13 => []) (fun t13 => ?_) (fun J14 hJ14 => ?_)
          · refine zs_iconst (pc := 106) (n := 0) (x := 0) C (by decide +kernel) (by decide +kernel) ?_
            exact zs_goj (hJ12 0) ⟨rfl, rfl, rfl, trivial⟩
          · refine zs_if_le (pc := 79) (off := 27) (tgt := 106) C (by decide +kernel) (by decide) ?_ ?_
            · exact zs_goj (hJ14 ()) ⟨rfl, rfl, rfl, trivial⟩
            · refine zs_aload_n (pc := 82) (k := 0) (i := 0) C (by decide +kernel) rfl rfl ?_
              refine zs_getI (pc := 83) (i := 50) (ci := 0) (k := 11) C (by decide +kernel) fl_RX0_50 rfl rfl (fun x15 => ?_)
              refine zs_iload_n (pc := 86) (k := 1) (i := 1) C (by decide +kernel) rfl rfl ?_
              refine zs_iconst (pc := 87) (n := 1) (x := 1) C (by decide +kernel) (by decide +kernel) ?_
              refine zs_isub (pc := 88) C (by decide +kernel) ?_
              refine zs_iushr (pc := 89) C (by decide +kernel) ?_
              refine zs_iconst (pc := 90) (n := 1) (x := 1) C (by decide +kernel) (by decide +kernel) ?_
              refine zs_iand (pc := 91) C (by decide +kernel) ?_
              refine zs_if_ne (pc := 92) (off := 14) (tgt := 106) C (by decide +kernel) (by decide) ?_ ?_
              · exact zs_goj (hJ14 ()) ⟨rfl, rfl, rfl, trivial⟩
              · refine zs_aload_n (pc := 95) (k := 0) (i := 0) C (by decide +kernel) rfl rfl ?_
                refine zs_getR (o' := 84) (pc := 96) (i := 37) (ci := 0) (k := 7) C (by decide +kernel) fl_RX0_37 rfl rfl rfl ?_
                refine zs_iload_n (pc := 99) (k := 1) (i := 1) C (by decide +kernel) rfl rfl ?_
                refine zs_iconst (pc := 100) (n := 1) (x := 1) C (by decide +kernel) (by decide +kernel) ?_
                refine zs_isub (pc := 101) C (by decide +kernel) ?_
                refine zs_iald (pc := 102) (o := 84) (n := 25) C (by decide +kernel) rfl (fun hinx16 x16 => ?_)
                refine zs_goto (pc := 103) (off := 4) (tgt := 107) C (by decide +kernel) (by decide) ?_
                exact zs_goj (hJ12 x16) ⟨rfl, rfl, rfl, trivial⟩
      · refine zs_icmp_ge (pc := 58) (off := 17) (tgt := 75) C (by decide +kernel) (by decide) ?_ ?_
        · refine zs_iconst (pc := 75) (n := 0) (x := 0) C (by decide +kernel) (by decide +kernel) ?_
          exact zs_goj (hJ10 0) ⟨rfl, rfl, rfl, rfl, trivial⟩
        · refine zs_aload_n (pc := 61) (k := 0) (i := 0) C (by decide +kernel) rfl rfl ?_
          refine zs_getR (o' := 84) (pc := 62) (i := 37) (ci := 0) (k := 7) C (by decide +kernel) fl_RX0_37 rfl rfl rfl ?_
          refine zs_iload_n (pc := 65) (k := 1) (i := 1) C (by decide +kernel) rfl rfl ?_
          refine zs_aload_n (pc := 66) (k := 0) (i := 0) C (by decide +kernel) rfl rfl ?_
          refine zs_getI (pc := 67) (i := 47) (ci := 0) (k := 10) C (by decide +kernel) fl_RX0_47 rfl rfl (fun x17 => ?_)
          refine zs_iadd (pc := 70) C (by decide +kernel) ?_
          refine zs_iald (pc := 71) (o := 84) (n := 25) C (by decide +kernel) rfl (fun hinx18 x18 => ?_)
          refine zs_goto (pc := 72) (off := 4) (tgt := 76) C (by decide +kernel) (by decide) ?_
          exact zs_goj (hJ10 x18) ⟨rfl, rfl, rfl, rfl, trivial⟩
    · refine zs_if_ne (pc := 32) (off := 14) (tgt := 46) C (by decide +kernel) (by decide) ?_ ?_
      · refine zs_iconst (pc := 46) (n := 0) (x := 0) C (by decide +kernel) (by decide +kernel) ?_
        exact zs_goj (hJ6 0) ⟨rfl, rfl, rfl, trivial⟩
      · refine zs_aload_n (pc := 35) (k := 0) (i := 0) C (by decide +kernel) rfl rfl ?_
        refine zs_getR (o' := 84) (pc := 36) (i := 37) (ci := 0) (k := 7) C (by decide +kernel) fl_RX0_37 rfl rfl rfl ?_
        refine zs_iload_n (pc := 39) (k := 1) (i := 1) C (by decide +kernel) rfl rfl ?_
        refine zs_iconst (pc := 40) (n := 1) (x := 1) C (by decide +kernel) (by decide +kernel) ?_
        refine zs_iadd (pc := 41) C (by decide +kernel) ?_
        refine zs_iald (pc := 42) (o := 84) (n := 25) C (by decide +kernel) rfl (fun hinx19 x19 => ?_)
        refine zs_goto (pc := 43) (off := 4) (tgt := 47) C (by decide +kernel) (by decide) ?_
        exact zs_goj (hJ6 x19) ⟨rfl, rfl, rfl, trivial⟩
  · refine zs_icmp_lt (pc := 5) (off := 17) (tgt := 22) C (by decide +kernel) (by decide) ?_ ?_
    · refine zs_iconst (pc := 22) (n := 0) (x := 0) C (by decide +kernel) (by decide +kernel) ?_
      exact zs_goj (hJ3 0) ⟨rfl, rfl, trivial⟩
    · refine zs_aload_n (pc := 8) (k := 0) (i := 0) C (by decide +kernel) rfl rfl ?_
      refine zs_getR (o' := 84) (pc := 9) (i := 37) (ci := 0) (k := 7) C (by decide +kernel) fl_RX0_37 rfl rfl rfl ?_
      refine zs_iload_n (pc := 12) (k := 1) (i := 1) C (by decide +kernel) rfl rfl ?_
      refine zs_aload_n (pc := 13) (k := 0) (i := 0) C (by decide +kernel) rfl rfl ?_
      refine zs_getI (pc := 14) (i := 47) (ci := 0) (k := 10) C (by decide +kernel) fl_RX0_47 rfl rfl (fun x20 => ?_)
      refine zs_isub (pc := 17) C (by decide +kernel) ?_
      refine zs_iald (pc := 18) (o := 84) (n := 25) C (by decide +kernel) rfl (fun hinx21 x21 => ?_)
      refine zs_goto (pc := 19) (off := 4) (tgt := 23) C (by decide +kernel) (by decide) ?_
      exact zs_goj (hJ3 x21) ⟨rfl, rfl, trivial⟩
set_option maxRecDepth 20000 in
theorem c_X0_stepOn (l : Launch) (g : GC) (a0 : Nat) (n0 : Nat) (a1 : Int) (a2 : Nat) (n2 : Nat) (a3 : Int) (a4 : Int) (h0_ : layL[a0]? = some (.inr (0, n0))) (h2_ : layL[a2]? = some (.inr (0, n2))) : ConW l g yX0_stepOn cX0_stepOn 11 (some .boolean) (rmd 4 0 0) [sR 18, sR a0, sI a1, sR a2, sI a3, sI a4] (fun mm => fX0_stepOn a0 n0 a1 a2 n2 a3 a4 mm) := by
  refine zs_ofW (by decide +kernel) (Nat.le_of_ble_eq_true rfl) ?_
  intro p e s m args below meth c C hr
  replace C : Bd g RX0 cX0_stepOn 11 p s m args meth c := C
  unfold fX0_stepOn
  refine zs_aload_n (pc := 0) (k := 0) (i := 0) C (by decide +kernel) rfl rfl ?_
  refine zs_iload (pc := 1) (i := 5) C (by decide +kernel) rfl ?_
  refine zs_cvVv (pc := 3) (As := [sI a4]) (st := []) C (fun _ _ _ => rfl) (c_X0_foresee l g a4) ml_RX0_156 rfl rfl rfl rfl (Nat.le_of_ble_eq_true rfl) ⟨Nat.le_of_ble_eq_true rfl, Nat.le_of_ble_eq_true rfl⟩ ⟨Nat.le_of_ble_eq_true rfl, Nat.le_of_ble_eq_true rfl⟩ (by decide +kernel) ?_
  refine zs_aload_n (pc := 6) (k := 0) (i := 0) C (by decide +kernel) rfl rfl ?_
  refine zs_getR (o' := 78) (pc := 7) (i := 18) (ci := 0) (k := 1) C (by decide +kernel) fl_RX0_18 rfl rfl rfl ?_
  refine zs_iload (pc := 10) (i := 5) C (by decide +kernel) rfl ?_
  refine zs_iald (pc := 12) (o := 78) (n := 41) C (by decide +kernel) rfl (fun hinx1 x1 => ?_)
  refine zs_aload_n (pc := 13) (k := 0) (i := 0) C (by decide +kernel) rfl rfl ?_
  refine zs_getI (pc := 14) (i := 56) (ci := 0) (k := 13) C (by decide +kernel) fl_RX0_56 rfl rfl (fun x2 => ?_)
  refine zs_iconst (pc := 17) (n := (-1)) (x := (-1)) C (by decide +kernel) (by decide +kernel) ?_
  refine zs_ixor (pc := 18) C (by decide +kernel) ?_
  refine zs_iand (pc := 19) C (by decide +kernel) ?_
  refine zs_let (fun x3 => ?_)
  refine zs_istore (pc := 20) (i := 6) (ls' := [(6, sI x3), (0, sR 18), (1, sR a0), (2, sI a1), (3, sR a2), (4, sI a3), (5, sI a4)]) C (by decide +kernel) (Nat.le_of_ble_eq_true rfl) rfl ?_
  refine zs_aload_n (pc := 22) (k := 0) (i := 0) C (by decide +kernel) rfl rfl ?_
  refine zs_getR (o' := 79) (pc := 23) (i := 22) (ci := 0) (k := 2) C (by decide +kernel) fl_RX0_22 rfl rfl rfl ?_
  refine zs_iload (pc := 26) (i := 5) C (by decide +kernel) rfl ?_
  refine zs_iald (pc := 28) (o := 79) (n := 41) C (by decide +kernel) rfl (fun hinx4 x4 => ?_)
  refine zs_aload_n (pc := 29) (k := 0) (i := 0) C (by decide +kernel) rfl rfl ?_
  refine zs_getI (pc := 30) (i := 56) (ci := 0) (k := 13) C (by decide +kernel) fl_RX0_56 rfl rfl (fun x5 => ?_)
  refine zs_iconst (pc := 33) (n := (-1)) (x := (-1)) C (by decide +kernel) (by decide +kernel) ?_
  refine zs_ixor (pc := 34) C (by decide +kernel) ?_
  refine zs_iand (pc := 35) C (by decide +kernel) ?_
  refine zs_let (fun x6 => ?_)
  refine zs_istore (pc := 36) (i := 7) (ls' := [(7, sI x6), (6, sI x3), (0, sR 18), (1, sR a0), (2, sI a1), (3, sR a2), (4, sI a3), (5, sI a4)]) C (by decide +kernel) (Nat.le_of_ble_eq_true rfl) rfl ?_
  refine zs_iconst (pc := 38) (n := 0) (x := 0) C (by decide +kernel) (by decide +kernel) ?_
  refine zs_istore (pc := 39) (i := 8) (ls' := [(8, sI 0), (7, sI x6), (6, sI x3), (0, sR 18), (1, sR a0), (2, sI a1), (3, sR a2), (4, sI a3), (5, sI a4)]) C (by decide +kernel) (Nat.le_of_ble_eq_true rfl) rfl ?_
  refine zs_sub (ls' := [(0, sR 18), (1, sR a0), (2, sI a1), (3, sR a2), (4, sI a3), (5, sI a4), (6, sI x3), (7, sI x6), (8, sI 0)]) ⟨rfl, rfl, rfl, rfl, rfl, rfl, rfl, rfl, rfl, trivial⟩ ?_
  refine zs_lp (pc := 41) (fun (t7 : Int) => [(0, sR 18), (1, sR a0), (2, sI a1), (3, sR a2), (4, sI a3), (5, sI a4), (6, sI x3), (7, sI x6), (8, sI t7)]) (fun _ => []) (fun K8 hK8 t7 => ?_) BIG 0
  refine zs_iload (pc := 41) (i := 8) C (by decide +kernel) rfl ?_
  refine zs_aload_n (pc := 43) (k := 0) (i := 0) C (by decide +kernel) rfl rfl ?_
  refine zs_getI (pc := 44) (i := 43) (ci := 0) (k := 9) C (by decide +kernel) fl_RX0_43 rfl rfl (fun x9 => ?_)
  refine zs_icmp_ge (pc := 47) (off := 45) (tgt := 92) C (by decide +kernel) (by decide) ?_ ?_
  · refine zs_iconst (pc := 92) (n := 0) (x := 0) C (by decide +kernel) (by decide +kernel) ?_
    refine zs_istore (pc := 93) (i := 8) (ls' := [(8, sI 0), (0, sR 18), (1, sR a0), (2, sI a1), (3, sR a2), (4, sI a3), (5, sI a4), (6, sI x3), (7, sI x6)]) C (by decide +kernel) (Nat.le_of_ble_eq_true rfl) rfl ?_
    refine zs_iconst (pc := 95) (n := 0) (x := 0) C (by decide +kernel) (by decide +kernel) ?_
    refine zs_istore (pc := 96) (i := 9) (ls' := [(9, sI 0), (8, sI 0), (0, sR 18), (1, sR a0), (2, sI a1), (3, sR a2), (4, sI a3), (5, sI a4), (6, sI x3), (7, sI x6)]) C (by decide +kernel) (Nat.le_of_ble_eq_true rfl) rfl ?_
    refine zs_sub (ls' := [(0, sR 18), (3, sR a2), (4, sI a3), (5, sI a4), (6, sI x3), (8, sI 0), (9, sI 0)]) ⟨rfl, rfl, rfl, rfl, rfl, rfl, rfl, trivial⟩ ?_
    refine zs_lp (pc := 98) (fun (t10 : Int × Int) => [(0, sR 18), (3, sR a2), (4, sI a3), (5, sI a4), (6, sI x3), (8, sI t10.1), (9, sI t10.2)]) (fun _ => []) (fun K11 hK11 t10 => ?_) BIG (0, 0)
    refine zs_iload (pc := 98) (i := 9) C (by decide +kernel) rfl ?_
    refine zs_aload_n (pc := 100) (k := 0) (i := 0) C (by decide +kernel) rfl rfl ?_
    refine zs_getI (pc := 101) (i := 43) (ci := 0) (k := 9) C (by decide +kernel) fl_RX0_43 rfl rfl (fun x12 => ?_)
    refine zs_icmp_ge (pc := 104) (off := 79) (tgt := 183) C (by decide +kernel) (by decide) ?_ ?_
    · refine zs_iload (pc := 183) (i := 8) C (by decide +kernel) rfl ?_
      refine zs_jn (pJ := 193) (kJ := 0) (sJ := 0) (fun t13 => []) (fun t13 => [sI t13]) (fun t13 => ?_) (fun J14 hJ14 => ?_)
      · refine zs_chk (fun _ hx => ?_)
        exact zs_retWz (pc := 193) C hx hr ⟨Nat.le_of_ble_eq_true rfl, Nat.le_of_ble_eq_true rfl⟩ (by decide +kernel)
      · refine zs_if_eq (pc := 185) (off := 7) (tgt := 192) C (by decide +kernel) (by decide) ?_ ?_
        · refine zs_iconst (pc := 192) (n := 0) (x := 0) C (by decide +kernel) (by decide +kernel) ?_
          exact zs_goj (hJ14 0) trivial
        · refine zs_iconst (pc := 188) (n := 1) (x := 1) C (by decide +kernel) (by decide +kernel) ?_
          refine zs_goto (pc := 189) (off := 4) (tgt := 193) C (by decide +kernel) (by decide) ?_
          exact zs_goj (hJ14 1) trivial
    · refine zs_aload_n (pc := 107) (k := 0) (i := 0) C (by decide +kernel) rfl rfl ?_
      refine zs_getR (o' := 84) (pc := 108) (i := 37) (ci := 0) (k := 7) C (by decide +kernel) fl_RX0_37 rfl rfl rfl ?_
      refine zs_iload (pc := 111) (i := 9) C (by decide +kernel) rfl ?_
      refine zs_iald (pc := 113) (o := 84) (n := 25) C (by decide +kernel) rfl (fun hinx15 x15 => ?_)
      refine zs_istore (pc := 114) (i := 10) (ls' := [(10, sI x15), (0, sR 18), (3, sR a2), (4, sI a3), (5, sI a4), (6, sI x3), (8, sI t10.1), (9, sI t10.2)]) C (by decide +kernel) (Nat.le_of_ble_eq_true rfl) rfl ?_
      refine zs_iload (pc := 116) (i := 6) C (by decide +kernel) rfl ?_
      refine zs_iload (pc := 118) (i := 9) C (by decide +kernel) rfl ?_
      refine zs_iushr (pc := 120) C (by decide +kernel) ?_
      refine zs_iconst (pc := 121) (n := 1) (x := 1) C (by decide +kernel) (by decide +kernel) ?_
      refine zs_iand (pc := 122) C (by decide +kernel) ?_
      refine zs_jn (pJ := 137) (kJ := 0) (sJ := 0) (fun t16 => [(0, sR 18), (3, sR a2), (4, sI a3), (5, sI a4), (6, sI x3), (8, sI t10.1), (9, sI t10.2), (10, sI t16)]) (fun t16 => []) (fun t16 => ?_) (fun J17 hJ17 => ?_)
      · refine zs_aload_n (pc := 137) (k := 3) (i := 3) C (by decide +kernel) rfl rfl ?_
        refine zs_iload (pc := 138) (i := 4) C (by decide +kernel) rfl ?_
        refine zs_iload (pc := 140) (i := 9) C (by decide +kernel) rfl ?_
        refine zs_iadd (pc := 142) C (by decide +kernel) ?_
        refine zs_iload (pc := 143) (i := 10) C (by decide +kernel) rfl ?_
        refine zs_aload_n (pc := 145) (k := 0) (i := 0) C (by decide +kernel) rfl rfl ?_
        refine zs_getR (o' := 81) (pc := 146) (i := 28) (ci := 0) (k := 4) C (by decide +kernel) fl_RX0_28 rfl rfl rfl ?_
        refine zs_aload_n (pc := 149) (k := 0) (i := 0) C (by decide +kernel) rfl rfl ?_
        refine zs_getR (o' := 80) (pc := 150) (i := 25) (ci := 0) (k := 3) C (by decide +kernel) fl_RX0_25 rfl rfl rfl ?_
        refine zs_iload (pc := 153) (i := 5) C (by decide +kernel) rfl ?_
        refine zs_iald (pc := 155) (o := 80) (n := 41) C (by decide +kernel) rfl (fun hinx18 x18 => ?_)
        refine zs_bipush (pc := 156) (n := 25) (x := 25) C (by decide +kernel) (by decide +kernel) ?_
        refine zs_imul (pc := 158) C (by decide +kernel) ?_
        refine zs_iload (pc := 159) (i := 9) C (by decide +kernel) rfl ?_
        refine zs_iadd (pc := 161) C (by decide +kernel) ?_
        refine zs_iald (pc := 162) (o := 81) (n := 225) C (by decide +kernel) rfl (fun hinx19 x19 => ?_)
        refine zs_iand (pc := 163) C (by decide +kernel) ?_
        refine zs_iast (pc := 164) (o := a2) (n := n2) C (fun _ _ _ => rfl) (by decide +kernel) h2_ ?_
        refine zs_iload (pc := 165) (i := 8) C (by decide +kernel) rfl ?_
        refine zs_aload_n (pc := 167) (k := 3) (i := 3) C (by decide +kernel) rfl rfl ?_
        refine zs_iload (pc := 168) (i := 4) C (by decide +kernel) rfl ?_
        refine zs_iload (pc := 170) (i := 9) C (by decide +kernel) rfl ?_
        refine zs_iadd (pc := 172) C (by decide +kernel) ?_
        refine zs_iald (pc := 173) (o := a2) (n := n2) C (by decide +kernel) h2_ (fun hinx20 x20 => ?_)
        refine zs_ior (pc := 174) C (by decide +kernel) ?_
        refine zs_let (fun x21 => ?_)
        refine zs_istore (pc := 175) (i := 8) (ls' := [(8, sI x21), (0, sR 18), (3, sR a2), (4, sI a3), (5, sI a4), (6, sI x3), (9, sI t10.2), (10, sI t16)]) C (by decide +kernel) (Nat.le_of_ble_eq_true rfl) rfl ?_
        refine zs_iinc (pc := 177) (i := 9) (n := 1) (y := w32 (t10.2 + 1)) (ls' := [(9, sI (w32 (t10.2 + 1))), (8, sI x21), (0, sR 18), (3, sR a2), (4, sI a3), (5, sI a4), (6, sI x3), (10, sI t16)]) C (by decide +kernel) rfl rfl (Nat.le_of_ble_eq_true rfl) rfl ?_
        refine zs_goto (pc := 180) (off := (-82)) (tgt := 98) C (by decide +kernel) (by decide) ?_
        exact zs_goj (hK11 (x21, w32 (t10.2 + 1))) ⟨rfl, rfl, rfl, rfl, rfl, rfl, rfl, trivial⟩
      · refine zs_if_eq (pc := 123) (off := 14) (tgt := 137) C (by decide +kernel) (by decide) ?_ ?_
        · exact zs_goj (hJ17 x15) ⟨rfl, rfl, rfl, rfl, rfl, rfl, rfl, rfl, trivial⟩
        · refine zs_iload (pc := 126) (i := 10) C (by decide +kernel) rfl ?_
          refine zs_aload_n (pc := 128) (k := 0) (i := 0) C (by decide +kernel) rfl rfl ?_
          refine zs_iload (pc := 129) (i := 9) C (by decide +kernel) rfl ?_
          refine zs_cvRi (pc := 131) (As := [sI t10.2]) (st := [sI x15]) C rfl (c_X0_spreadAround l g t10.2) ml_RX0_163 rfl rfl rfl rfl (Nat.le_of_ble_eq_true rfl) ⟨Nat.le_of_ble_eq_true rfl, Nat.le_of_ble_eq_true rfl⟩ ⟨Nat.le_of_ble_eq_true rfl, Nat.le_of_ble_eq_true rfl⟩ (by decide +kernel) (fun x22 => ?_)
          refine zs_ior (pc := 134) C (by decide +kernel) ?_
          refine zs_let (fun x23 => ?_)
          refine zs_istore (pc := 135) (i := 10) (ls' := [(10, sI x23), (0, sR 18), (3, sR a2), (4, sI a3), (5, sI a4), (6, sI x3), (8, sI t10.1), (9, sI t10.2)]) C (by decide +kernel) (Nat.le_of_ble_eq_true rfl) rfl ?_
          exact zs_goj (hJ17 x23) ⟨rfl, rfl, rfl, rfl, rfl, rfl, rfl, rfl, trivial⟩
  · refine zs_aload_n (pc := 50) (k := 1) (i := 1) C (by decide +kernel) rfl rfl ?_
    refine zs_iload_n (pc := 51) (k := 2) (i := 2) C (by decide +kernel) rfl rfl ?_
    refine zs_iload (pc := 52) (i := 8) C (by decide +kernel) rfl ?_
    refine zs_iadd (pc := 54) C (by decide +kernel) ?_
    refine zs_iald (pc := 55) (o := a0) (n := n0) C (by decide +kernel) h0_ (fun hinx24 x24 => ?_)
    refine zs_istore (pc := 56) (i := 9) (ls' := [(9, sI x24), (0, sR 18), (1, sR a0), (2, sI a1), (3, sR a2), (4, sI a3), (5, sI a4), (6, sI x3), (7, sI x6), (8, sI t7)]) C (by decide +kernel) (Nat.le_of_ble_eq_true rfl) rfl ?_
    refine zs_aload_n (pc := 58) (k := 0) (i := 0) C (by decide +kernel) rfl rfl ?_
    refine zs_getR (o' := 84) (pc := 59) (i := 37) (ci := 0) (k := 7) C (by decide +kernel) fl_RX0_37 rfl rfl rfl ?_
    refine zs_iload (pc := 62) (i := 8) C (by decide +kernel) rfl ?_
    refine zs_iload (pc := 64) (i := 9) C (by decide +kernel) rfl ?_
    refine zs_jn (pJ := 85) (kJ := 0) (sJ := 0) (fun t25 => [(0, sR 18), (1, sR a0), (2, sI a1), (3, sR a2), (4, sI a3), (5, sI a4), (6, sI x3), (7, sI x6), (8, sI t7)]) (fun t25 => [sI t25, sI t7, sR 84]) (fun t25 => ?_) (fun J26 hJ26 => ?_)
    · refine zs_iast (pc := 85) (o := 84) (n := 25) C (fun _ _ _ => rfl) (by decide +kernel) rfl ?_
      refine zs_iinc (pc := 86) (i := 8) (n := 1) (y := w32 (t7 + 1)) (ls' := [(8, sI (w32 (t7 + 1))), (0, sR 18), (1, sR a0), (2, sI a1), (3, sR a2), (4, sI a3), (5, sI a4), (6, sI x3), (7, sI x6)]) C (by decide +kernel) rfl rfl (Nat.le_of_ble_eq_true rfl) rfl ?_
      refine zs_goto (pc := 89) (off := (-48)) (tgt := 41) C (by decide +kernel) (by decide) ?_
      exact zs_goj (hK8 (w32 (t7 + 1))) ⟨rfl, rfl, rfl, rfl, rfl, rfl, rfl, rfl, rfl, trivial⟩
    · refine zs_if_ne (pc := 66) (off := 7) (tgt := 73) C (by decide +kernel) (by decide) ?_ ?_
      · refine zs_iload (pc := 73) (i := 9) C (by decide +kernel) rfl ?_
        refine zs_aload_n (pc := 75) (k := 0) (i := 0) C (by decide +kernel) rfl rfl ?_
        refine zs_iload (pc := 76) (i := 9) C (by decide +kernel) rfl ?_
        refine zs_cvRi (pc := 78) (As := [sI x24]) (st := [sI x24, sI t7, sR 84]) C rfl (c_X0_around l g x24) ml_RX0_160 rfl rfl rfl rfl (Nat.le_of_ble_eq_true rfl) ⟨Nat.le_of_ble_eq_true rfl, Nat.le_of_ble_eq_true rfl⟩ ⟨Nat.le_of_ble_eq_true rfl, Nat.le_of_ble_eq_true rfl⟩ (by decide +kernel) (fun x27 => ?_)
        refine zs_iload (pc := 81) (i := 7) C (by decide +kernel) rfl ?_
        refine zs_iand (pc := 83) C (by decide +kernel) ?_
        refine zs_ior (pc := 84) C (by decide +kernel) ?_
        exact zs_goj (hJ26 (ior x24 (iand x27 x6))) ⟨rfl, rfl, rfl, rfl, rfl, rfl, rfl, rfl, rfl, trivial⟩
      · refine zs_iconst (pc := 69) (n := 0) (x := 0) C (by decide +kernel) (by decide +kernel) ?_
        refine zs_goto (pc := 70) (off := 15) (tgt := 85) C (by decide +kernel) (by decide) ?_
        exact zs_goj (hJ26 0) ⟨rfl, rfl, rfl, rfl, rfl, rfl, rfl, rfl, rfl, trivial⟩
set_option maxRecDepth 20000 in
theorem c_X0_goOn (l : Launch) (g : GC) (a0 : Int) : ConW l g yX0_goOn cX0_goOn 2 (some .boolean) (rmd 5 0 0) [sR 18, sI a0] (fun mm => fX0_goOn a0 mm) := by
  refine zs_ofW (by decide +kernel) (Nat.le_of_ble_eq_true rfl) ?_
  intro p e s m args below meth c C hr
  replace C : Bd g RX0 cX0_goOn 2 p s m args meth c := C
  unfold fX0_goOn
  refine zs_aload_n (pc := 0) (k := 0) (i := 0) C (by decide +kernel) rfl rfl ?_
  refine zs_aload_n (pc := 1) (k := 0) (i := 0) C (by decide +kernel) rfl rfl ?_
  refine zs_getR (o' := 82) (pc := 2) (i := 31) (ci := 0) (k := 5) C (by decide +kernel) fl_RX0_31 rfl rfl rfl ?_
  refine zs_iload_n (pc := 5) (k := 1) (i := 1) C (by decide +kernel) rfl rfl ?_
  refine zs_iconst (pc := 6) (n := 1) (x := 1) C (by decide +kernel) (by decide +kernel) ?_
  refine zs_isub (pc := 7) C (by decide +kernel) ?_
  refine zs_bipush (pc := 8) (n := 25) (x := 25) C (by decide +kernel) (by decide +kernel) ?_
  refine zs_imul (pc := 10) C (by decide +kernel) ?_
  refine zs_aload_n (pc := 11) (k := 0) (i := 0) C (by decide +kernel) rfl rfl ?_
  refine zs_getR (o' := 82) (pc := 12) (i := 31) (ci := 0) (k := 5) C (by decide +kernel) fl_RX0_31 rfl rfl rfl ?_
  refine zs_iload_n (pc := 15) (k := 1) (i := 1) C (by decide +kernel) rfl rfl ?_
  refine zs_bipush (pc := 16) (n := 25) (x := 25) C (by decide +kernel) (by decide +kernel) ?_
  refine zs_imul (pc := 18) C (by decide +kernel) ?_
  refine zs_iload_n (pc := 19) (k := 1) (i := 1) C (by decide +kernel) rfl rfl ?_
  refine zs_cvWi (pc := 20) (As := [sR 82, sI (w32 ((w32 (a0 - 1)) * 25)), sR 82, sI (w32 (a0 * 25)), sI a0]) (st := []) C (fun _ _ _ => rfl) rfl (c_X0_stepOn l g 82 1025 (w32 ((w32 (a0 - 1)) * 25)) 82 1025 (w32 (a0 * 25)) a0 rfl rfl) ml_RX0_166 rfl rfl rfl rfl (Nat.le_of_ble_eq_true rfl) ⟨Nat.le_of_ble_eq_true rfl, Nat.le_of_ble_eq_true rfl⟩ ⟨Nat.le_of_ble_eq_true rfl, Nat.le_of_ble_eq_true rfl⟩ (by decide +kernel) (fun x1 => ?_)
  refine zs_chk (fun _ hx => ?_)
  exact zs_retWz (pc := 23) C hx hr ⟨Nat.le_of_ble_eq_true rfl, Nat.le_of_ble_eq_true rfl⟩ (by decide +kernel)
set_option maxRecDepth 20000 in
theorem c_X0_lastHour (l : Launch) (g : GC)  : ConW l g yX0_lastHour cX0_lastHour 2 (some .int) (rmd 6 0 0) [sR 18] (fun mm => fX0_lastHour  mm) := by
  refine zs_ofW (by decide +kernel) (Nat.le_of_ble_eq_true rfl) ?_
  intro p e s m args below meth c C hr
  replace C : Bd g RX0 cX0_lastHour 2 p s m args meth c := C
  unfold fX0_lastHour
  refine zs_aload_n (pc := 0) (k := 0) (i := 0) C (by decide +kernel) rfl rfl ?_
  refine zs_cvVv (pc := 1) (As := []) (st := []) C (fun _ _ _ => rfl) (c_X0_start l g ) ml_RX0_170 rfl rfl rfl rfl (Nat.le_of_ble_eq_true rfl) ⟨Nat.le_of_ble_eq_true rfl, Nat.le_of_ble_eq_true rfl⟩ ⟨Nat.le_of_ble_eq_true rfl, Nat.le_of_ble_eq_true rfl⟩ (by decide +kernel) ?_
  refine zs_iconst (pc := 4) (n := 1) (x := 1) C (by decide +kernel) (by decide +kernel) ?_
  refine zs_istore_n (pc := 5) (k := 1) (i := 1) (ls' := [(1, sI 1), (0, sR 18)]) C (by decide +kernel) rfl (Nat.le_of_ble_eq_true rfl) rfl ?_
  refine zs_sub (ls' := [(0, sR 18), (1, sI 1)]) ⟨rfl, rfl, trivial⟩ ?_
  refine zs_lp (pc := 6) (fun (t1 : Int) => [(0, sR 18), (1, sI t1)]) (fun _ => []) (fun K2 hK2 t1 => ?_) BIG 1
  refine zs_iload_n (pc := 6) (k := 1) (i := 1) C (by decide +kernel) rfl rfl ?_
  refine zs_bipush (pc := 7) (n := 40) (x := 40) C (by decide +kernel) (by decide +kernel) ?_
  refine zs_icmp_gt (pc := 9) (off := 21) (tgt := 30) C (by decide +kernel) (by decide) ?_ ?_
  · refine zs_bipush (pc := 30) (n := 40) (x := 40) C (by decide +kernel) (by decide +kernel) ?_
    exact zs_retWi (pc := 32) C hr ⟨Nat.le_of_ble_eq_true rfl, Nat.le_of_ble_eq_true rfl⟩ (by decide +kernel)
  · refine zs_aload_n (pc := 12) (k := 0) (i := 0) C (by decide +kernel) rfl rfl ?_
    refine zs_iload_n (pc := 13) (k := 1) (i := 1) C (by decide +kernel) rfl rfl ?_
    refine zs_cvWi (pc := 14) (As := [sI t1]) (st := []) C (fun _ _ _ => rfl) rfl (c_X0_goOn l g t1) ml_RX0_173 rfl rfl rfl rfl (Nat.le_of_ble_eq_true rfl) ⟨Nat.le_of_ble_eq_true rfl, Nat.le_of_ble_eq_true rfl⟩ ⟨Nat.le_of_ble_eq_true rfl, Nat.le_of_ble_eq_true rfl⟩ (by decide +kernel) (fun x3 => ?_)
    refine zs_if_ne (pc := 17) (off := 7) (tgt := 24) C (by decide +kernel) (by decide) ?_ ?_
    · refine zs_iinc (pc := 24) (i := 1) (n := 1) (y := w32 (t1 + 1)) (ls' := [(1, sI (w32 (t1 + 1))), (0, sR 18)]) C (by decide +kernel) rfl rfl (Nat.le_of_ble_eq_true rfl) rfl ?_
      refine zs_goto (pc := 27) (off := (-21)) (tgt := 6) C (by decide +kernel) (by decide) ?_
      exact zs_goj (hK2 (w32 (t1 + 1))) ⟨rfl, rfl, trivial⟩
    · refine zs_iload_n (pc := 20) (k := 1) (i := 1) C (by decide +kernel) rfl rfl ?_
      refine zs_iconst (pc := 21) (n := 1) (x := 1) C (by decide +kernel) (by decide +kernel) ?_
      refine zs_isub (pc := 22) C (by decide +kernel) ?_
      exact zs_retWi (pc := 23) C hr ⟨Nat.le_of_ble_eq_true rfl, Nat.le_of_ble_eq_true rfl⟩ (by decide +kernel)
set_option maxRecDepth 20000 in
theorem c_X11_lasts (l : Launch) (g : GC) (hl : l.stackTraces = false) (a0 : Int) : ConT l g yX11_lasts cX11_lasts 2 (some .int) (rmd 8 1 6) [sR 0, sI a0] (fun mm => fX11_lasts a0 mm) := by
  refine zs_ofT (by decide +kernel) (Nat.le_of_ble_eq_true rfl) ?_
  intro p e s m args below meth c C hr hE
  replace C : Bd g RX11 cX11_lasts 2 p s m args meth c := C
  unfold fX11_lasts
  refine zs_aload_n (pc := 0) (k := 0) (i := 0) C (by decide +kernel) rfl rfl ?_
  refine zs_iload_n (pc := 1) (k := 1) (i := 1) C (by decide +kernel) rfl rfl ?_
  refine zs_cvTv (pc := 2) (As := [sI a0]) (st := []) C hE (c_X11_needPair l g hl a0) ml_RX11_134 rfl rfl rfl rfl (Nat.le_of_ble_eq_true rfl) ⟨Nat.le_of_ble_eq_true rfl, Nat.le_of_ble_eq_true rfl⟩ ⟨Nat.le_of_ble_eq_true rfl, Nat.le_of_ble_eq_true rfl⟩ ⟨Nat.le_of_ble_eq_true rfl, Nat.le_of_ble_eq_true rfl⟩ (by decide +kernel) ?_
  refine zs_aload_n (pc := 5) (k := 0) (i := 0) C (by decide +kernel) rfl rfl ?_
  refine zs_getR (o' := 18) (pc := 6) (i := 33) (ci := 11) (k := 5) C (by decide +kernel) fl_RX11_33 rfl rfl rfl ?_
  refine zs_iload_n (pc := 9) (k := 1) (i := 1) C (by decide +kernel) rfl rfl ?_
  refine zs_cvVv (pc := 10) (As := [sI a0]) (st := []) C (fun _ _ _ => rfl) (c_X0_begin l g a0) ml_RX11_251 rfl rfl rfl rfl (Nat.le_of_ble_eq_true rfl) ⟨Nat.le_of_ble_eq_true rfl, Nat.le_of_ble_eq_true rfl⟩ ⟨Nat.le_of_ble_eq_true rfl, Nat.le_of_ble_eq_true rfl⟩ (by decide +kernel) ?_
  refine zs_aload_n (pc := 13) (k := 0) (i := 0) C (by decide +kernel) rfl rfl ?_
  refine zs_getR (o' := 18) (pc := 14) (i := 33) (ci := 11) (k := 5) C (by decide +kernel) fl_RX11_33 rfl rfl rfl ?_
  refine zs_cvWi (pc := 17) (As := []) (st := []) C (fun _ _ _ => rfl) rfl (c_X0_lastHour l g ) ml_RX11_253 rfl rfl rfl rfl (Nat.le_of_ble_eq_true rfl) ⟨Nat.le_of_ble_eq_true rfl, Nat.le_of_ble_eq_true rfl⟩ ⟨Nat.le_of_ble_eq_true rfl, Nat.le_of_ble_eq_true rfl⟩ (by decide +kernel) (fun x1 => ?_)
  exact zs_retTi (pc := 20) C hr ⟨Nat.le_of_ble_eq_true rfl, Nat.le_of_ble_eq_true rfl⟩ (by decide +kernel)
set_option maxRecDepth 20000 in
theorem c_X0_goTo (l : Launch) (g : GC) (a0 : Int) : ConW l g yX0_goTo cX0_goTo 3 (some .boolean) (rmd 6 0 0) [sR 18, sI a0] (fun mm => fX0_goTo a0 mm) := by
  refine zs_ofW (by decide +kernel) (Nat.le_of_ble_eq_true rfl) ?_
  intro p e s m args below meth c C hr
  replace C : Bd g RX0 cX0_goTo 3 p s m args meth c := C
  unfold fX0_goTo
  refine zs_aload_n (pc := 0) (k := 0) (i := 0) C (by decide +kernel) rfl rfl ?_
  refine zs_cvVv (pc := 1) (As := []) (st := []) C (fun _ _ _ => rfl) (c_X0_start l g ) ml_RX0_170 rfl rfl rfl rfl (Nat.le_of_ble_eq_true rfl) ⟨Nat.le_of_ble_eq_true rfl, Nat.le_of_ble_eq_true rfl⟩ ⟨Nat.le_of_ble_eq_true rfl, Nat.le_of_ble_eq_true rfl⟩ (by decide +kernel) ?_
  refine zs_iconst (pc := 4) (n := 1) (x := 1) C (by decide +kernel) (by decide +kernel) ?_
  refine zs_istore_n (pc := 5) (k := 2) (i := 2) (ls' := [(2, sI 1), (0, sR 18), (1, sI a0)]) C (by decide +kernel) rfl (Nat.le_of_ble_eq_true rfl) rfl ?_
  refine zs_sub (ls' := [(0, sR 18), (1, sI a0), (2, sI 1)]) ⟨rfl, rfl, rfl, trivial⟩ ?_
  refine zs_lp (pc := 6) (fun (t1 : Int) => [(0, sR 18), (1, sI a0), (2, sI t1)]) (fun _ => []) (fun K2 hK2 t1 => ?_) BIG 1
  refine zs_iload_n (pc := 6) (k := 2) (i := 2) C (by decide +kernel) rfl rfl ?_
  refine zs_iload_n (pc := 7) (k := 1) (i := 1) C (by decide +kernel) rfl rfl ?_
  refine zs_icmp_gt (pc := 8) (off := 19) (tgt := 27) C (by decide +kernel) (by decide) ?_ ?_
  · refine zs_iconst (pc := 27) (n := 1) (x := 1) C (by decide +kernel) (by decide +kernel) ?_
    exact zs_retWz (pc := 28) C (by decide) hr ⟨Nat.le_of_ble_eq_true rfl, Nat.le_of_ble_eq_true rfl⟩ (by decide +kernel)
  · refine zs_aload_n (pc := 11) (k := 0) (i := 0) C (by decide +kernel) rfl rfl ?_
    refine zs_iload_n (pc := 12) (k := 2) (i := 2) C (by decide +kernel) rfl rfl ?_
    refine zs_cvWi (pc := 13) (As := [sI t1]) (st := []) C (fun _ _ _ => rfl) rfl (c_X0_goOn l g t1) ml_RX0_173 rfl rfl rfl rfl (Nat.le_of_ble_eq_true rfl) ⟨Nat.le_of_ble_eq_true rfl, Nat.le_of_ble_eq_true rfl⟩ ⟨Nat.le_of_ble_eq_true rfl, Nat.le_of_ble_eq_true rfl⟩ (by decide +kernel) (fun x3 => ?_)
    refine zs_if_ne (pc := 16) (off := 5) (tgt := 21) C (by decide +kernel) (by decide) ?_ ?_
    · refine zs_iinc (pc := 21) (i := 2) (n := 1) (y := w32 (t1 + 1)) (ls' := [(2, sI (w32 (t1 + 1))), (0, sR 18), (1, sI a0)]) C (by decide +kernel) rfl rfl (Nat.le_of_ble_eq_true rfl) rfl ?_
      refine zs_goto (pc := 24) (off := (-18)) (tgt := 6) C (by decide +kernel) (by decide) ?_
      exact zs_goj (hK2 (w32 (t1 + 1))) ⟨rfl, rfl, rfl, trivial⟩
    · refine zs_iconst (pc := 19) (n := 0) (x := 0) C (by decide +kernel) (by decide +kernel) ?_
      exact zs_retWz (pc := 20) C (by decide) hr ⟨Nat.le_of_ble_eq_true rfl, Nat.le_of_ble_eq_true rfl⟩ (by decide +kernel)
set_option maxRecDepth 20000 in
theorem c_X0_whereIs (l : Launch) (g : GC) (a0 : Int) (a1 : Int) : ConR l g yX0_whereIs cX0_whereIs 6 (some .int) (rmd 1 0 0) [sR 18, sI a0, sI a1] (fun mm => fX0_whereIs a0 a1 mm) := by
  refine zs_ofR (by decide +kernel) (Nat.le_of_ble_eq_true rfl) ?_
  intro p e s m args below meth c C hr
  replace C : Bd g RX0 cX0_whereIs 6 p s m args meth c := C
  unfold fX0_whereIs
  refine zs_iconst (pc := 0) (n := 0) (x := 0) C (by decide +kernel) (by decide +kernel) ?_
  refine zs_istore_n (pc := 1) (k := 3) (i := 3) (ls' := [(3, sI 0), (0, sR 18), (1, sI a0), (2, sI a1)]) C (by decide +kernel) rfl (Nat.le_of_ble_eq_true rfl) rfl ?_
  refine zs_iconst (pc := 2) (n := 0) (x := 0) C (by decide +kernel) (by decide +kernel) ?_
  refine zs_istore (pc := 3) (i := 4) (ls' := [(4, sI 0), (3, sI 0), (0, sR 18), (1, sI a0), (2, sI a1)]) C (by decide +kernel) (Nat.le_of_ble_eq_true rfl) rfl ?_
  refine zs_sub (ls' := [(0, sR 18), (1, sI a0), (2, sI a1), (3, sI 0), (4, sI 0)]) ⟨rfl, rfl, rfl, rfl, rfl, trivial⟩ ?_
  refine zs_lp (pc := 5) (fun (t1 : Int × Int) => [(0, sR 18), (1, sI a0), (2, sI a1), (3, sI t1.1), (4, sI t1.2)]) (fun _ => []) (fun K2 hK2 t1 => ?_) BIG (0, 0)
  refine zs_iload (pc := 5) (i := 4) C (by decide +kernel) rfl ?_
  refine zs_aload_n (pc := 7) (k := 0) (i := 0) C (by decide +kernel) rfl rfl ?_
  refine zs_getI (pc := 8) (i := 43) (ci := 0) (k := 9) C (by decide +kernel) fl_RX0_43 rfl rfl (fun x3 => ?_)
  refine zs_icmp_ge (pc := 11) (off := 48) (tgt := 59) C (by decide +kernel) (by decide) ?_ ?_
  · refine zs_iload_n (pc := 59) (k := 3) (i := 3) C (by decide +kernel) rfl rfl ?_
    exact zs_retRi (pc := 60) C hr ⟨Nat.le_of_ble_eq_true rfl, Nat.le_of_ble_eq_true rfl⟩ (by decide +kernel)
  · refine zs_aload_n (pc := 14) (k := 0) (i := 0) C (by decide +kernel) rfl rfl ?_
    refine zs_getR (o' := 82) (pc := 15) (i := 31) (ci := 0) (k := 5) C (by decide +kernel) fl_RX0_31 rfl rfl rfl ?_
    refine zs_iload_n (pc := 18) (k := 2) (i := 2) C (by decide +kernel) rfl rfl ?_
    refine zs_bipush (pc := 19) (n := 25) (x := 25) C (by decide +kernel) (by decide +kernel) ?_
    refine zs_imul (pc := 21) C (by decide +kernel) ?_
    refine zs_iload (pc := 22) (i := 4) C (by decide +kernel) rfl ?_
    refine zs_iadd (pc := 24) C (by decide +kernel) ?_
    refine zs_iald (pc := 25) (o := 82) (n := 1025) C (by decide +kernel) rfl (fun hinx4 x4 => ?_)
    refine zs_istore (pc := 26) (i := 5) (ls' := [(5, sI x4), (0, sR 18), (1, sI a0), (2, sI a1), (3, sI t1.1), (4, sI t1.2)]) C (by decide +kernel) (Nat.le_of_ble_eq_true rfl) rfl ?_
    refine zs_iload_n (pc := 28) (k := 1) (i := 1) C (by decide +kernel) rfl rfl ?_
    refine zs_iconst (pc := 29) (n := 1) (x := 1) C (by decide +kernel) (by decide +kernel) ?_
    refine zs_jn (pJ := 53) (kJ := 0) (sJ := 0) (fun t5 => [(0, sR 18), (1, sI a0), (2, sI a1), (3, sI t5), (4, sI t1.2)]) (fun t5 => []) (fun t5 => ?_) (fun J6 hJ6 => ?_)
    · refine zs_iinc (pc := 53) (i := 4) (n := 1) (y := w32 (t1.2 + 1)) (ls' := [(4, sI (w32 (t1.2 + 1))), (0, sR 18), (1, sI a0), (2, sI a1), (3, sI t5)]) C (by decide +kernel) rfl rfl (Nat.le_of_ble_eq_true rfl) rfl ?_
      refine zs_goto (pc := 56) (off := (-51)) (tgt := 5) C (by decide +kernel) (by decide) ?_
      exact zs_goj (hK2 (t5, w32 (t1.2 + 1))) ⟨rfl, rfl, rfl, rfl, rfl, trivial⟩
    · refine zs_icmp_ne (pc := 30) (off := 11) (tgt := 41) C (by decide +kernel) (by decide) ?_ ?_
      · refine zs_iload (pc := 41) (i := 5) C (by decide +kernel) rfl ?_
        refine zs_if_eq (pc := 43) (off := 10) (tgt := 53) C (by decide +kernel) (by decide) ?_ ?_
        · exact zs_goj (hJ6 t1.1) ⟨rfl, rfl, rfl, rfl, rfl, trivial⟩
        · refine zs_iload_n (pc := 46) (k := 3) (i := 3) C (by decide +kernel) rfl rfl ?_
          refine zs_iconst (pc := 47) (n := 1) (x := 1) C (by decide +kernel) (by decide +kernel) ?_
          refine zs_iload (pc := 48) (i := 4) C (by decide +kernel) rfl ?_
          refine zs_ishl (pc := 50) C (by decide +kernel) ?_
          refine zs_ior (pc := 51) C (by decide +kernel) ?_
          refine zs_let (fun x7 => ?_)
          refine zs_istore_n (pc := 52) (k := 3) (i := 3) (ls' := [(3, sI x7), (5, sI x4), (0, sR 18), (1, sI a0), (2, sI a1), (4, sI t1.2)]) C (by decide +kernel) rfl (Nat.le_of_ble_eq_true rfl) rfl ?_
          exact zs_goj (hJ6 x7) ⟨rfl, rfl, rfl, rfl, rfl, trivial⟩
      · refine zs_iload_n (pc := 33) (k := 3) (i := 3) C (by decide +kernel) rfl rfl ?_
        refine zs_iload (pc := 34) (i := 5) C (by decide +kernel) rfl ?_
        refine zs_ior (pc := 36) C (by decide +kernel) ?_
        refine zs_let (fun x8 => ?_)
        refine zs_istore_n (pc := 37) (k := 3) (i := 3) (ls' := [(3, sI x8), (5, sI x4), (0, sR 18), (1, sI a0), (2, sI a1), (4, sI t1.2)]) C (by decide +kernel) rfl (Nat.le_of_ble_eq_true rfl) rfl ?_
        refine zs_goto (pc := 38) (off := 15) (tgt := 53) C (by decide +kernel) (by decide) ?_
        exact zs_goj (hJ6 x8) ⟨rfl, rfl, rfl, rfl, rfl, trivial⟩
set_option maxRecDepth 20000 in
theorem c_X11_reach (l : Launch) (g : GC) (hl : l.stackTraces = false) (a0 : Int) (a1 : Int) (a2 : Int) : ConT l g yX11_reach cX11_reach 4 (some .int) (rmd 8 3 18) [sR 0, sI a0, sI a1, sI a2] (fun mm => fX11_reach a0 a1 a2 mm) := by
  refine zs_ofT (by decide +kernel) (Nat.le_of_ble_eq_true rfl) ?_
  intro p e s m args below meth c C hr hE
  replace C : Bd g RX11 cX11_reach 4 p s m args meth c := C
  unfold fX11_reach
  refine zs_aload_n (pc := 0) (k := 0) (i := 0) C (by decide +kernel) rfl rfl ?_
  refine zs_iload_n (pc := 1) (k := 1) (i := 1) C (by decide +kernel) rfl rfl ?_
  refine zs_cvTv (pc := 2) (As := [sI a0]) (st := []) C hE (c_X11_needPair l g hl a0) ml_RX11_134 rfl rfl rfl rfl (Nat.le_of_ble_eq_true rfl) ⟨Nat.le_of_ble_eq_true rfl, Nat.le_of_ble_eq_true rfl⟩ ⟨Nat.le_of_ble_eq_true rfl, Nat.le_of_ble_eq_true rfl⟩ ⟨Nat.le_of_ble_eq_true rfl, Nat.le_of_ble_eq_true rfl⟩ (by decide +kernel) ?_
  refine zs_aload_n (pc := 5) (k := 0) (i := 0) C (by decide +kernel) rfl rfl ?_
  refine zs_iload_n (pc := 6) (k := 2) (i := 2) C (by decide +kernel) rfl rfl ?_
  refine zs_iconst (pc := 7) (n := 0) (x := 0) C (by decide +kernel) (by decide +kernel) ?_
  refine zs_iconst (pc := 8) (n := 1) (x := 1) C (by decide +kernel) (by decide +kernel) ?_
  refine zs_cvTv (pc := 9) (As := [sI a1, sI 0, sI 1]) (st := []) C hE (c_X11_needWithin l g hl a1 0 1) ml_RX11_179 rfl rfl rfl rfl (Nat.le_of_ble_eq_true rfl) ⟨Nat.le_of_ble_eq_true rfl, Nat.le_of_ble_eq_true rfl⟩ ⟨Nat.le_of_ble_eq_true rfl, Nat.le_of_ble_eq_true rfl⟩ ⟨Nat.le_of_ble_eq_true rfl, Nat.le_of_ble_eq_true rfl⟩ (by decide +kernel) ?_
  refine zs_aload_n (pc := 12) (k := 0) (i := 0) C (by decide +kernel) rfl rfl ?_
  refine zs_iload_n (pc := 13) (k := 3) (i := 3) C (by decide +kernel) rfl rfl ?_
  refine zs_iconst (pc := 14) (n := 0) (x := 0) C (by decide +kernel) (by decide +kernel) ?_
  refine zs_bipush (pc := 15) (n := 40) (x := 40) C (by decide +kernel) (by decide +kernel) ?_
  refine zs_cvTv (pc := 17) (As := [sI a2, sI 0, sI 40]) (st := []) C hE (c_X11_needWithin l g hl a2 0 40) ml_RX11_179 rfl rfl rfl rfl (Nat.le_of_ble_eq_true rfl) ⟨Nat.le_of_ble_eq_true rfl, Nat.le_of_ble_eq_true rfl⟩ ⟨Nat.le_of_ble_eq_true rfl, Nat.le_of_ble_eq_true rfl⟩ ⟨Nat.le_of_ble_eq_true rfl, Nat.le_of_ble_eq_true rfl⟩ (by decide +kernel) ?_
  refine zs_aload_n (pc := 20) (k := 0) (i := 0) C (by decide +kernel) rfl rfl ?_
  refine zs_getR (o' := 18) (pc := 21) (i := 33) (ci := 11) (k := 5) C (by decide +kernel) fl_RX11_33 rfl rfl rfl ?_
  refine zs_iload_n (pc := 24) (k := 1) (i := 1) C (by decide +kernel) rfl rfl ?_
  refine zs_cvVv (pc := 25) (As := [sI a0]) (st := []) C (fun _ _ _ => rfl) (c_X0_begin l g a0) ml_RX11_251 rfl rfl rfl rfl (Nat.le_of_ble_eq_true rfl) ⟨Nat.le_of_ble_eq_true rfl, Nat.le_of_ble_eq_true rfl⟩ ⟨Nat.le_of_ble_eq_true rfl, Nat.le_of_ble_eq_true rfl⟩ (by decide +kernel) ?_
  refine zs_aload_n (pc := 28) (k := 0) (i := 0) C (by decide +kernel) rfl rfl ?_
  refine zs_getR (o' := 18) (pc := 29) (i := 33) (ci := 11) (k := 5) C (by decide +kernel) fl_RX11_33 rfl rfl rfl ?_
  refine zs_iload_n (pc := 32) (k := 3) (i := 3) C (by decide +kernel) rfl rfl ?_
  refine zs_cvWi (pc := 33) (As := [sI a2]) (st := []) C (fun _ _ _ => rfl) rfl (c_X0_goTo l g a2) ml_RX11_256 rfl rfl rfl rfl (Nat.le_of_ble_eq_true rfl) ⟨Nat.le_of_ble_eq_true rfl, Nat.le_of_ble_eq_true rfl⟩ ⟨Nat.le_of_ble_eq_true rfl, Nat.le_of_ble_eq_true rfl⟩ (by decide +kernel) (fun x1 => ?_)
  refine zs_jn (pJ := 52) (kJ := 3) (sJ := 18) (fun t2 => []) (fun t2 => [sI t2]) (fun t2 => ?_) (fun J3 hJ3 => ?_)
  · exact zs_retTi (pc := 52) C hr ⟨Nat.le_of_ble_eq_true rfl, Nat.le_of_ble_eq_true rfl⟩ (by decide +kernel)
  · refine zs_if_eq (pc := 36) (off := 15) (tgt := 51) C (by decide +kernel) (by decide) ?_ ?_
    · refine zs_iconst (pc := 51) (n := 0) (x := 0) C (by decide +kernel) (by decide +kernel) ?_
      exact zs_goj (hJ3 0) trivial
    · refine zs_aload_n (pc := 39) (k := 0) (i := 0) C (by decide +kernel) rfl rfl ?_
      refine zs_getR (o' := 18) (pc := 40) (i := 33) (ci := 11) (k := 5) C (by decide +kernel) fl_RX11_33 rfl rfl rfl ?_
      refine zs_iload_n (pc := 43) (k := 2) (i := 2) C (by decide +kernel) rfl rfl ?_
      refine zs_iload_n (pc := 44) (k := 3) (i := 3) C (by decide +kernel) rfl rfl ?_
      refine zs_cvRi (pc := 45) (As := [sI a1, sI a2]) (st := []) C rfl (c_X0_whereIs l g a1 a2) ml_RX11_259 rfl rfl rfl rfl (Nat.le_of_ble_eq_true rfl) ⟨Nat.le_of_ble_eq_true rfl, Nat.le_of_ble_eq_true rfl⟩ ⟨Nat.le_of_ble_eq_true rfl, Nat.le_of_ble_eq_true rfl⟩ (by decide +kernel) (fun x4 => ?_)
      refine zs_goto (pc := 48) (off := 4) (tgt := 52) C (by decide +kernel) (by decide) ?_
      exact zs_goj (hJ3 x4) trivial
set_option maxRecDepth 20000 in
theorem c_X0_whereBoth (l : Launch) (g : GC) (a0 : Int) : ConR l g yX0_whereBoth cX0_whereBoth 4 (some .int) (rmd 1 0 0) [sR 18, sI a0] (fun mm => fX0_whereBoth a0 mm) := by
  refine zs_ofR (by decide +kernel) (Nat.le_of_ble_eq_true rfl) ?_
  intro p e s m args below meth c C hr
  replace C : Bd g RX0 cX0_whereBoth 4 p s m args meth c := C
  unfold fX0_whereBoth
  refine zs_iconst (pc := 0) (n := 0) (x := 0) C (by decide +kernel) (by decide +kernel) ?_
  refine zs_istore_n (pc := 1) (k := 2) (i := 2) (ls' := [(2, sI 0), (0, sR 18), (1, sI a0)]) C (by decide +kernel) rfl (Nat.le_of_ble_eq_true rfl) rfl ?_
  refine zs_iconst (pc := 2) (n := 0) (x := 0) C (by decide +kernel) (by decide +kernel) ?_
  refine zs_istore_n (pc := 3) (k := 3) (i := 3) (ls' := [(3, sI 0), (2, sI 0), (0, sR 18), (1, sI a0)]) C (by decide +kernel) rfl (Nat.le_of_ble_eq_true rfl) rfl ?_
  refine zs_sub (ls' := [(0, sR 18), (1, sI a0), (2, sI 0), (3, sI 0)]) ⟨rfl, rfl, rfl, rfl, trivial⟩ ?_
  refine zs_lp (pc := 4) (fun (t1 : Int × Int) => [(0, sR 18), (1, sI a0), (2, sI t1.1), (3, sI t1.2)]) (fun _ => []) (fun K2 hK2 t1 => ?_) BIG (0, 0)
  refine zs_iload_n (pc := 4) (k := 3) (i := 3) C (by decide +kernel) rfl rfl ?_
  refine zs_aload_n (pc := 5) (k := 0) (i := 0) C (by decide +kernel) rfl rfl ?_
  refine zs_getI (pc := 6) (i := 43) (ci := 0) (k := 9) C (by decide +kernel) fl_RX0_43 rfl rfl (fun x3 => ?_)
  refine zs_icmp_ge (pc := 9) (off := 27) (tgt := 36) C (by decide +kernel) (by decide) ?_ ?_
  · refine zs_iload_n (pc := 36) (k := 2) (i := 2) C (by decide +kernel) rfl rfl ?_
    exact zs_retRi (pc := 37) C hr ⟨Nat.le_of_ble_eq_true rfl, Nat.le_of_ble_eq_true rfl⟩ (by decide +kernel)
  · refine zs_iload_n (pc := 12) (k := 2) (i := 2) C (by decide +kernel) rfl rfl ?_
    refine zs_aload_n (pc := 13) (k := 0) (i := 0) C (by decide +kernel) rfl rfl ?_
    refine zs_getR (o' := 82) (pc := 14) (i := 31) (ci := 0) (k := 5) C (by decide +kernel) fl_RX0_31 rfl rfl rfl ?_
    refine zs_iload_n (pc := 17) (k := 1) (i := 1) C (by decide +kernel) rfl rfl ?_
    refine zs_bipush (pc := 18) (n := 25) (x := 25) C (by decide +kernel) (by decide +kernel) ?_
    refine zs_imul (pc := 20) C (by decide +kernel) ?_
    refine zs_iload_n (pc := 21) (k := 3) (i := 3) C (by decide +kernel) rfl rfl ?_
    refine zs_iadd (pc := 22) C (by decide +kernel) ?_
    refine zs_iald (pc := 23) (o := 82) (n := 1025) C (by decide +kernel) rfl (fun hinx4 x4 => ?_)
    refine zs_iconst (pc := 24) (n := 1) (x := 1) C (by decide +kernel) (by decide +kernel) ?_
    refine zs_iload_n (pc := 25) (k := 3) (i := 3) C (by decide +kernel) rfl rfl ?_
    refine zs_ishl (pc := 26) C (by decide +kernel) ?_
    refine zs_iand (pc := 27) C (by decide +kernel) ?_
    refine zs_ior (pc := 28) C (by decide +kernel) ?_
    refine zs_let (fun x5 => ?_)
    refine zs_istore_n (pc := 29) (k := 2) (i := 2) (ls' := [(2, sI x5), (0, sR 18), (1, sI a0), (3, sI t1.2)]) C (by decide +kernel) rfl (Nat.le_of_ble_eq_true rfl) rfl ?_
    refine zs_iinc (pc := 30) (i := 3) (n := 1) (y := w32 (t1.2 + 1)) (ls' := [(3, sI (w32 (t1.2 + 1))), (2, sI x5), (0, sR 18), (1, sI a0)]) C (by decide +kernel) rfl rfl (Nat.le_of_ble_eq_true rfl) rfl ?_
    refine zs_goto (pc := 33) (off := (-29)) (tgt := 4) C (by decide +kernel) (by decide) ?_
    exact zs_goj (hK2 (x5, w32 (t1.2 + 1))) ⟨rfl, rfl, rfl, rfl, trivial⟩

set_option maxRecDepth 20000 in
theorem c_X11_tapeOn (l : Launch) (g : GC) (a0 : Int) : ConV l g yX11_tapeOn cX11_tapeOn 3 (rmd 1 0 0) [sR 0, sI a0] (fun mm => fX11_tapeOn a0 mm) := by
  refine zs_ofV (by decide +kernel) (Nat.le_of_ble_eq_true rfl) ?_
  intro p e s m args below meth c C hr
  replace C : Bd g RX11 cX11_tapeOn 3 p s m args meth c := C
  unfold fX11_tapeOn
  refine zs_bipush (pc := 0) (n := 24) (x := 24) C (by decide +kernel) (by decide +kernel) ?_
  refine zs_istore_n (pc := 2) (k := 2) (i := 2) (ls' := [(2, sI 24), (0, sR 0), (1, sI a0)]) C (by decide +kernel) rfl (Nat.le_of_ble_eq_true rfl) rfl ?_
  refine zs_sub (ls' := [(0, sR 0), (1, sI a0), (2, sI 24)]) ⟨rfl, rfl, rfl, trivial⟩ ?_
  refine zs_lp (pc := 3) (fun (t1 : Int) => [(0, sR 0), (1, sI a0), (2, sI t1)]) (fun _ => []) (fun K2 hK2 t1 => ?_) BIG 24
  refine zs_iload_n (pc := 3) (k := 2) (i := 2) C (by decide +kernel) rfl rfl ?_
  refine zs_jn (pJ := 46) (kJ := 0) (sJ := 0) (fun t3 => []) (fun t3 => []) (fun t3 => ?_) (fun J4 hJ4 => ?_)
  · exact zs_retVv (pc := 46) C hr ⟨Nat.le_of_ble_eq_true rfl, Nat.le_of_ble_eq_true rfl⟩ (by decide +kernel)
  · refine zs_if_lt (pc := 4) (off := 42) (tgt := 46) C (by decide +kernel) (by decide) ?_ ?_
    · exact zs_goj (hJ4 ()) trivial
    · refine zs_aload_n (pc := 7) (k := 0) (i := 0) C (by decide +kernel) rfl rfl ?_
      refine zs_getI (pc := 8) (i := 13) (ci := 11) (k := 1) C (by decide +kernel) fl_RX11_13 rfl rfl (fun x5 => ?_)
      refine zs_sipush (pc := 11) (n := 900) (x := 900) C (by decide +kernel) (by decide +kernel) ?_
      refine zs_icmp_ge (pc := 14) (off := 32) (tgt := 46) C (by decide +kernel) (by decide) ?_ ?_
      · exact zs_goj (hJ4 ()) trivial
      · refine zs_aload_n (pc := 17) (k := 0) (i := 0) C (by decide +kernel) rfl rfl ?_
        refine zs_getR (o' := 1) (pc := 18) (i := 9) (ci := 11) (k := 0) C (by decide +kernel) fl_RX11_9 rfl rfl rfl ?_
        refine zs_aload_n (pc := 21) (k := 0) (i := 0) C (by decide +kernel) rfl rfl ?_
        refine zs_getI (pc := 22) (i := 13) (ci := 11) (k := 1) C (by decide +kernel) fl_RX11_13 rfl rfl (fun x6 => ?_)
        refine zs_iload_n (pc := 25) (k := 1) (i := 1) C (by decide +kernel) rfl rfl ?_
        refine zs_iload_n (pc := 26) (k := 2) (i := 2) C (by decide +kernel) rfl rfl ?_
        refine zs_iushr (pc := 27) C (by decide +kernel) ?_
        refine zs_i2b (pc := 28) C (by decide +kernel) ?_
        refine zs_bast (pc := 29) (o := 1) (n := 900) C (fun _ _ _ => rfl) (by decide +kernel) rfl ?_
        refine zs_aload_n (pc := 30) (k := 0) (i := 0) C (by decide +kernel) rfl rfl ?_
        refine zs_dup (pc := 31) C rfl (by decide +kernel) ?_
        refine zs_getI (pc := 32) (i := 13) (ci := 11) (k := 1) C (by decide +kernel) fl_RX11_13 rfl rfl (fun x7 => ?_)
        refine zs_iconst (pc := 35) (n := 1) (x := 1) C (by decide +kernel) (by decide +kernel) ?_
        refine zs_iadd (pc := 36) C (by decide +kernel) ?_
        refine zs_putI (pc := 37) (i := 13) (ci := 11) (k := 1) C (fun _ _ _ => rfl) (by decide +kernel) fl_RX11_13 fw_11_1 rfl rfl ?_
        refine zs_iinc (pc := 40) (i := 2) (n := (-8)) (y := w32 (t1 + (-8))) (ls' := [(2, sI (w32 (t1 + (-8)))), (0, sR 0), (1, sI a0)]) C (by decide +kernel) rfl rfl (Nat.le_of_ble_eq_true rfl) rfl ?_
        refine zs_goto (pc := 43) (off := (-40)) (tgt := 3) C (by decide +kernel) (by decide) ?_
        exact zs_goj (hK2 (w32 (t1 + (-8)))) ⟨rfl, rfl, rfl, trivial⟩
set_option maxRecDepth 20000 in
theorem c_X11_feed (l : Launch) (g : GC) (a0 : Int) (a1 : Int) (a2 : Int) (a3 : Int) (a4 : Int) : ConW l g yX11_feed cX11_feed 6 (some .int) (rmd 2 0 0) [sR 0, sI a0, sI a1, sI a2, sI a3, sI a4] (fun mm => fX11_feed a0 a1 a2 a3 a4 mm) := by
  refine zs_ofW (by decide +kernel) (Nat.le_of_ble_eq_true rfl) ?_
  intro p e s m args below meth c C hr
  replace C : Bd g RX11 cX11_feed 6 p s m args meth c := C
  unfold fX11_feed
  refine zs_aload_n (pc := 0) (k := 0) (i := 0) C (by decide +kernel) rfl rfl ?_
  refine zs_getI (pc := 1) (i := 13) (ci := 11) (k := 1) C (by decide +kernel) fl_RX11_13 rfl rfl (fun x1 => ?_)
  refine zs_bipush (pc := 4) (n := 20) (x := 20) C (by decide +kernel) (by decide +kernel) ?_
  refine zs_iadd (pc := 6) C (by decide +kernel) ?_
  refine zs_sipush (pc := 7) (n := 900) (x := 900) C (by decide +kernel) (by decide +kernel) ?_
  refine zs_icmp_le (pc := 10) (off := 5) (tgt := 15) C (by decide +kernel) (by decide) ?_ ?_
  · refine zs_aload_n (pc := 15) (k := 0) (i := 0) C (by decide +kernel) rfl rfl ?_
    refine zs_iload_n (pc := 16) (k := 1) (i := 1) C (by decide +kernel) rfl rfl ?_
    refine zs_cvVv (pc := 17) (As := [sI a0]) (st := []) C (fun _ _ _ => rfl) (c_X11_tapeOn l g a0) ml_RX11_81 rfl rfl rfl rfl (Nat.le_of_ble_eq_true rfl) ⟨Nat.le_of_ble_eq_true rfl, Nat.le_of_ble_eq_true rfl⟩ ⟨Nat.le_of_ble_eq_true rfl, Nat.le_of_ble_eq_true rfl⟩ (by decide +kernel) ?_
    refine zs_aload_n (pc := 20) (k := 0) (i := 0) C (by decide +kernel) rfl rfl ?_
    refine zs_iload_n (pc := 21) (k := 2) (i := 2) C (by decide +kernel) rfl rfl ?_
    refine zs_cvVv (pc := 22) (As := [sI a1]) (st := []) C (fun _ _ _ => rfl) (c_X11_tapeOn l g a1) ml_RX11_81 rfl rfl rfl rfl (Nat.le_of_ble_eq_true rfl) ⟨Nat.le_of_ble_eq_true rfl, Nat.le_of_ble_eq_true rfl⟩ ⟨Nat.le_of_ble_eq_true rfl, Nat.le_of_ble_eq_true rfl⟩ (by decide +kernel) ?_
    refine zs_aload_n (pc := 25) (k := 0) (i := 0) C (by decide +kernel) rfl rfl ?_
    refine zs_iload_n (pc := 26) (k := 3) (i := 3) C (by decide +kernel) rfl rfl ?_
    refine zs_cvVv (pc := 27) (As := [sI a2]) (st := []) C (fun _ _ _ => rfl) (c_X11_tapeOn l g a2) ml_RX11_81 rfl rfl rfl rfl (Nat.le_of_ble_eq_true rfl) ⟨Nat.le_of_ble_eq_true rfl, Nat.le_of_ble_eq_true rfl⟩ ⟨Nat.le_of_ble_eq_true rfl, Nat.le_of_ble_eq_true rfl⟩ (by decide +kernel) ?_
    refine zs_aload_n (pc := 30) (k := 0) (i := 0) C (by decide +kernel) rfl rfl ?_
    refine zs_iload (pc := 31) (i := 4) C (by decide +kernel) rfl ?_
    refine zs_cvVv (pc := 33) (As := [sI a3]) (st := []) C (fun _ _ _ => rfl) (c_X11_tapeOn l g a3) ml_RX11_81 rfl rfl rfl rfl (Nat.le_of_ble_eq_true rfl) ⟨Nat.le_of_ble_eq_true rfl, Nat.le_of_ble_eq_true rfl⟩ ⟨Nat.le_of_ble_eq_true rfl, Nat.le_of_ble_eq_true rfl⟩ (by decide +kernel) ?_
    refine zs_aload_n (pc := 36) (k := 0) (i := 0) C (by decide +kernel) rfl rfl ?_
    refine zs_iload (pc := 37) (i := 5) C (by decide +kernel) rfl ?_
    refine zs_cvVv (pc := 39) (As := [sI a4]) (st := []) C (fun _ _ _ => rfl) (c_X11_tapeOn l g a4) ml_RX11_81 rfl rfl rfl rfl (Nat.le_of_ble_eq_true rfl) ⟨Nat.le_of_ble_eq_true rfl, Nat.le_of_ble_eq_true rfl⟩ ⟨Nat.le_of_ble_eq_true rfl, Nat.le_of_ble_eq_true rfl⟩ (by decide +kernel) ?_
    refine zs_aload_n (pc := 42) (k := 0) (i := 0) C (by decide +kernel) rfl rfl ?_
    refine zs_getI (pc := 43) (i := 13) (ci := 11) (k := 1) C (by decide +kernel) fl_RX11_13 rfl rfl (fun x2 => ?_)
    exact zs_retWi (pc := 46) C hr ⟨Nat.le_of_ble_eq_true rfl, Nat.le_of_ble_eq_true rfl⟩ (by decide +kernel)
  · refine zs_iconst (pc := 13) (n := (-1)) (x := (-1)) C (by decide +kernel) (by decide +kernel) ?_
    exact zs_retWi (pc := 14) C hr ⟨Nat.le_of_ble_eq_true rfl, Nat.le_of_ble_eq_true rfl⟩ (by decide +kernel)
set_option maxRecDepth 20000 in
theorem c_X8_isLetter (l : Launch) (g : GC) (a0 : Int) : ConR l g yX8_isLetter cX8_isLetter 1 (some .boolean) (rmd 1 0 0) [sI a0] (fun mm => fX8_isLetter a0 mm) := by
  refine zs_ofR (by decide +kernel) (Nat.le_of_ble_eq_true rfl) ?_
  intro p e s m args below meth c C hr
  replace C : Bd g RX8 cX8_isLetter 1 p s m args meth c := C
  unfold fX8_isLetter
  refine zs_iload_n (pc := 0) (k := 0) (i := 0) C (by decide +kernel) rfl rfl ?_
  refine zs_bipush (pc := 1) (n := 97) (x := 97) C (by decide +kernel) (by decide +kernel) ?_
  refine zs_jn (pJ := 17) (kJ := 0) (sJ := 0) (fun t1 => []) (fun t1 => [sI t1]) (fun t1 => ?_) (fun J2 hJ2 => ?_)
  · refine zs_chk (fun _ hx => ?_)
    exact zs_retRz (pc := 17) C hx hr ⟨Nat.le_of_ble_eq_true rfl, Nat.le_of_ble_eq_true rfl⟩ (by decide +kernel)
  · refine zs_jn (pJ := 16) (kJ := 0) (sJ := 0) (fun t3 => []) (fun t3 => []) (fun t3 => ?_) (fun J4 hJ4 => ?_)
    · refine zs_iconst (pc := 16) (n := 0) (x := 0) C (by decide +kernel) (by decide +kernel) ?_
      exact zs_goj (hJ2 0) trivial
    · refine zs_icmp_lt (pc := 3) (off := 13) (tgt := 16) C (by decide +kernel) (by decide) ?_ ?_
      · exact zs_goj (hJ4 ()) trivial
      · refine zs_iload_n (pc := 6) (k := 0) (i := 0) C (by decide +kernel) rfl rfl ?_
        refine zs_bipush (pc := 7) (n := 122) (x := 122) C (by decide +kernel) (by decide +kernel) ?_
        refine zs_icmp_gt (pc := 9) (off := 7) (tgt := 16) C (by decide +kernel) (by decide) ?_ ?_
        · exact zs_goj (hJ4 ()) trivial
        · refine zs_iconst (pc := 12) (n := 1) (x := 1) C (by decide +kernel) (by decide +kernel) ?_
          refine zs_goto (pc := 13) (off := 4) (tgt := 17) C (by decide +kernel) (by decide) ?_
          exact zs_goj (hJ2 1) trivial
set_option maxRecDepth 20000 in
theorem c_J0_coder_7d493 (l : Launch) (g : GC) (o : Nat) (h0 : o < strT.length) : ConR l g yJ0_coder_7d493 cJ0_coder_7d493 1 (some .byte) (rmd 1 0 0) [sT o] (fun mm => fJ0_coder_7d493 o mm) := by
  refine zs_ofR (by decide +kernel) (Nat.le_of_ble_eq_true rfl) ?_
  intro p e s m args below meth c C hr
  replace C : Bd g RJ0 cJ0_coder_7d493 1 p s m args meth c := C
  unfold fJ0_coder_7d493
  refine zs_getsC (pc := 0) (i := 38) C (by decide +kernel) wf_879 ?_
  refine zs_jn (pJ := 14) (kJ := 0) (sJ := 0) (fun t1 => []) (fun t1 => [sI t1]) (fun t1 => ?_) (fun J2 hJ2 => ?_)
  · refine zs_chk (fun _ hx => ?_)
    exact zs_retRb (pc := 14) C hx hr ⟨Nat.le_of_ble_eq_true rfl, Nat.le_of_ble_eq_true rfl⟩ (by decide +kernel)
  · refine zs_if_eq (pc := 3) (off := 10) (tgt := 13) C (by decide +kernel) (by decide) ?_ ?_
    · refine zs_iconst (pc := 13) (n := 1) (x := 1) C (by decide +kernel) (by decide +kernel) ?_
      exact zs_goj (hJ2 1) trivial
    · refine zs_aload_nT (pc := 6) (k := 0) (i := 0) C (by decide +kernel) rfl rfl ?_
      refine zs_strcoder (pc := 7) (i := 15) C h0 (by decide +kernel) wf_2532 ?_
      refine zs_goto (pc := 10) (off := 4) (tgt := 14) C (by decide +kernel) (by decide) ?_
      exact zs_goj (hJ2 0) trivial
set_option maxRecDepth 20000 in
theorem c_J0_length_8abf5 (l : Launch) (g : GC) (o : Nat) (h0 : o < strT.length) : ConR l g yJ0_length_8abf5 cJ0_length_8abf5 1 (some .int) (rmd 2 0 0) [sT o] (fun mm => fJ0_length_8abf5 o mm) := by
  refine zs_ofR (by decide +kernel) (Nat.le_of_ble_eq_true rfl) ?_
  intro p e s m args below meth c C hr
  replace C : Bd g RJ0 cJ0_length_8abf5 1 p s m args meth c := C
  unfold fJ0_length_8abf5
  refine zs_aload_nT (pc := 0) (k := 0) (i := 0) C (by decide +kernel) rfl rfl ?_
  refine zs_strval (pc := 1) (i := 9) C h0 (by decide +kernel) wf_2531 ?_
  refine zs_alenT (pc := 4) C h0 (slen_ok h0) (by decide +kernel) ?_
  refine zs_aload_nT (pc := 5) (k := 0) (i := 0) C (by decide +kernel) rfl rfl ?_
  refine zs_ctRi (pc := 6) (As := []) (st := [sI (slen o)]) C h0 rfl (c_J0_coder_7d493 l g o h0) ml_RJ0_335 rfl rfl (Nat.le_of_ble_eq_true rfl) ⟨Nat.le_of_ble_eq_true rfl, Nat.le_of_ble_eq_true rfl⟩ ⟨Nat.le_of_ble_eq_true rfl, Nat.le_of_ble_eq_true rfl⟩ (by decide +kernel) (fun x1 => ?_)
  refine zs_ishr (pc := 9) C (by decide +kernel) ?_
  exact zs_retRi (pc := 10) C hr ⟨Nat.le_of_ble_eq_true rfl, Nat.le_of_ble_eq_true rfl⟩ (by decide +kernel)
set_option maxRecDepth 20000 in
theorem c_J0_isLatin1_aae02 (l : Launch) (g : GC) (o : Nat) (h0 : o < strT.length) : ConR l g yJ0_isLatin1_aae02 cJ0_isLatin1_aae02 1 (some .boolean) (rmd 1 0 0) [sT o] (fun mm => fJ0_isLatin1_aae02 o mm) := by
  refine zs_ofR (by decide +kernel) (Nat.le_of_ble_eq_true rfl) ?_
  intro p e s m args below meth c C hr
  replace C : Bd g RJ0 cJ0_isLatin1_aae02 1 p s m args meth c := C
  unfold fJ0_isLatin1_aae02
  refine zs_getsC (pc := 0) (i := 38) C (by decide +kernel) wf_879 ?_
  refine zs_jn (pJ := 18) (kJ := 0) (sJ := 0) (fun t1 => []) (fun t1 => [sI t1]) (fun t1 => ?_) (fun J2 hJ2 => ?_)
  · refine zs_chk (fun _ hx => ?_)
    exact zs_retRz (pc := 18) C hx hr ⟨Nat.le_of_ble_eq_true rfl, Nat.le_of_ble_eq_true rfl⟩ (by decide +kernel)
  · refine zs_jn (pJ := 17) (kJ := 0) (sJ := 0) (fun t3 => []) (fun t3 => []) (fun t3 => ?_) (fun J4 hJ4 => ?_)
    · refine zs_iconst (pc := 17) (n := 0) (x := 0) C (by decide +kernel) (by decide +kernel) ?_
      exact zs_goj (hJ2 0) trivial
    · refine zs_if_eq (pc := 3) (off := 14) (tgt := 17) C (by decide +kernel) (by decide) ?_ ?_
      · exact zs_goj (hJ4 ()) trivial
      · refine zs_aload_nT (pc := 6) (k := 0) (i := 0) C (by decide +kernel) rfl rfl ?_
        refine zs_strcoder (pc := 7) (i := 15) C h0 (by decide +kernel) wf_2532 ?_
        refine zs_if_ne (pc := 10) (off := 7) (tgt := 17) C (by decide +kernel) (by decide) ?_ ?_
        · exact zs_goj (hJ4 ()) trivial
        · refine zs_iconst (pc := 13) (n := 1) (x := 1) C (by decide +kernel) (by decide +kernel) ?_
          refine zs_goto (pc := 14) (off := 4) (tgt := 18) C (by decide +kernel) (by decide) ?_
          exact zs_goj (hJ2 1) trivial
set_option maxRecDepth 20000 in
theorem c_J3_checkIndex_8e157 (l : Launch) (g : GC) (a0 : Int) (a1 : Int) : ConR l g yJ3_checkIndex_8e157 cJ3_checkIndex_8e157 3 (some .int) (rmd 1 0 0) [sI a0, sI a1, sQ] (fun mm => fJ3_checkIndex_8e157 a0 a1 mm) := by
  refine zs_ofR (by decide +kernel) (Nat.le_of_ble_eq_true rfl) ?_
  intro p e s m args below meth c C hr
  replace C : Bd g RJ3 cJ3_checkIndex_8e157 3 p s m args meth c := C
  unfold fJ3_checkIndex_8e157
  refine zs_iload_n (pc := 0) (k := 0) (i := 0) C (by decide +kernel) rfl rfl ?_
  refine zs_jn (pJ := 9) (kJ := 0) (sJ := 0) (fun t1 => [(0, sI a0), (1, sI a1), (2, sQ)]) (fun t1 => []) (fun t1 => ?_) (fun J2 hJ2 => ?_)
  · exact zs_none
  · refine zs_if_lt (pc := 1) (off := 8) (tgt := 9) C (by decide +kernel) (by decide) ?_ ?_
    · exact zs_goj (hJ2 ()) ⟨rfl, rfl, rfl, trivial⟩
    · refine zs_iload_n (pc := 4) (k := 0) (i := 0) C (by decide +kernel) rfl rfl ?_
      refine zs_iload_n (pc := 5) (k := 1) (i := 1) C (by decide +kernel) rfl rfl ?_
      refine zs_icmp_lt (pc := 6) (off := 10) (tgt := 16) C (by decide +kernel) (by decide) ?_ ?_
      · refine zs_iload_n (pc := 16) (k := 0) (i := 0) C (by decide +kernel) rfl rfl ?_
        exact zs_retRi (pc := 17) C hr ⟨Nat.le_of_ble_eq_true rfl, Nat.le_of_ble_eq_true rfl⟩ (by decide +kernel)
      · exact zs_goj (hJ2 ()) ⟨rfl, rfl, rfl, trivial⟩
set_option maxRecDepth 20000 in
theorem c_J0_checkIndex_df160 (l : Launch) (g : GC) (a0 : Int) (a1 : Int) : ConR l g yJ0_checkIndex_df160 cJ0_checkIndex_df160 2 none (rmd 2 0 0) [sI a0, sI a1] (fun mm => fJ0_checkIndex_df160 a0 a1 mm) := by
  refine zs_ofR (by decide +kernel) (Nat.le_of_ble_eq_true rfl) ?_
  intro p e s m args below meth c C hr
  replace C : Bd g RJ0 cJ0_checkIndex_df160 2 p s m args meth c := C
  unfold fJ0_checkIndex_df160
  refine zs_iload_n (pc := 0) (k := 0) (i := 0) C (by decide +kernel) rfl rfl ?_
  refine zs_iload_n (pc := 1) (k := 1) (i := 1) C (by decide +kernel) rfl rfl ?_
  refine zs_getsQ (pc := 2) (i := 1053) C (by decide +kernel) wf_895 ?_
  refine zs_csRi (pc := 5) (As := [sI a0, sI a1, sQ]) (st := []) C rfl (c_J3_checkIndex_8e157 l g a0 a1) ml_RJ0_1059 rfl rfl (Nat.le_of_ble_eq_true rfl) ⟨Nat.le_of_ble_eq_true rfl, Nat.le_of_ble_eq_true rfl⟩ ⟨Nat.le_of_ble_eq_true rfl, Nat.le_of_ble_eq_true rfl⟩ (by decide +kernel) (fun x1 => ?_)
  refine zs_pop (pc := 8) C rfl (by decide +kernel) ?_
  exact zs_retRv (pc := 9) C hr ⟨Nat.le_of_ble_eq_true rfl, Nat.le_of_ble_eq_true rfl⟩ (by decide +kernel)
set_option maxRecDepth 20000 in
theorem c_J1_charAt_3b067 (l : Launch) (g : GC) (a0 : Nat) (a1 : Int) (h0_ : a0 < strT.length) : ConR l g yJ1_charAt_3b067 cJ1_charAt_3b067 2 (some .char) (rmd 3 0 0) [sT (a0 + 1000), sI a1] (fun mm => fJ1_charAt_3b067 a0 a1 mm) := by
  refine zs_ofR (by decide +kernel) (Nat.le_of_ble_eq_true rfl) ?_
  intro p e s m args below meth c C hr
  replace C : Bd g RJ1 cJ1_charAt_3b067 2 p s m args meth c := C
  unfold fJ1_charAt_3b067
  refine zs_iload_n (pc := 0) (k := 1) (i := 1) C (by decide +kernel) rfl rfl ?_
  refine zs_aload_nT (pc := 1) (k := 0) (i := 0) C (by decide +kernel) rfl rfl ?_
  refine zs_alenT (pc := 2) C h0_ (slen_ok h0_) (by decide +kernel) ?_
  refine zs_csRv (pc := 3) (As := [sI a1, sI (slen a0)]) (st := []) C (c_J0_checkIndex_df160 l g a1 (slen a0)) ml_RJ1_9 rfl rfl (Nat.le_of_ble_eq_true rfl) ⟨Nat.le_of_ble_eq_true rfl, Nat.le_of_ble_eq_true rfl⟩ ⟨Nat.le_of_ble_eq_true rfl, Nat.le_of_ble_eq_true rfl⟩ (by decide +kernel) (fun x1 => ?_)
  refine zs_aload_nT (pc := 6) (k := 0) (i := 0) C (by decide +kernel) rfl rfl ?_
  refine zs_iload_n (pc := 7) (k := 1) (i := 1) C (by decide +kernel) rfl rfl ?_
  refine zs_baldT (pc := 8) C h0_ (by decide +kernel) (fun hinx2 x2 => ?_)
  refine zs_sipush (pc := 9) (n := 255) (x := 255) C (by decide +kernel) (by decide +kernel) ?_
  refine zs_iand (pc := 12) C (by decide +kernel) ?_
  refine zs_i2c (pc := 13) C (by decide +kernel) ?_
  refine zs_chk (fun _ hx => ?_)
  exact zs_retRc (pc := 14) C hx hr ⟨Nat.le_of_ble_eq_true rfl, Nat.le_of_ble_eq_true rfl⟩ (by decide +kernel)
set_option maxRecDepth 20000 in
theorem c_J0_charAt_5068e (l : Launch) (g : GC) (o : Nat) (a0 : Int) (h0 : o < strT.length) : ConR l g yJ0_charAt_5068e cJ0_charAt_5068e 2 (some .char) (rmd 5 0 0) [sT o, sI a0] (fun mm => fJ0_charAt_5068e o a0 mm) := by
  refine zs_ofR (by decide +kernel) (Nat.le_of_ble_eq_true rfl) ?_
  intro p e s m args below meth c C hr
  replace C : Bd g RJ0 cJ0_charAt_5068e 2 p s m args meth c := C
  unfold fJ0_charAt_5068e
  refine zs_aload_nT (pc := 0) (k := 0) (i := 0) C (by decide +kernel) rfl rfl ?_
  refine zs_ctRi (pc := 1) (As := []) (st := []) C h0 rfl (c_J0_isLatin1_aae02 l g o h0) ml_RJ0_492 rfl rfl (Nat.le_of_ble_eq_true rfl) ⟨Nat.le_of_ble_eq_true rfl, Nat.le_of_ble_eq_true rfl⟩ ⟨Nat.le_of_ble_eq_true rfl, Nat.le_of_ble_eq_true rfl⟩ (by decide +kernel) (fun x1 => ?_)
  refine zs_if_eq (pc := 4) (off := 12) (tgt := 16) C (by decide +kernel) (by decide) ?_ ?_
  · exact zs_none
  · refine zs_aload_nT (pc := 7) (k := 0) (i := 0) C (by decide +kernel) rfl rfl ?_
    refine zs_strval (pc := 8) (i := 9) C h0 (by decide +kernel) wf_2531 ?_
    refine zs_iload_n (pc := 11) (k := 1) (i := 1) C (by decide +kernel) rfl rfl ?_
    refine zs_csRi (pc := 12) (As := [sT (o + 1000), sI a0]) (st := []) C rfl (c_J1_charAt_3b067 l g o a0 h0) ml_RJ0_495 rfl rfl (Nat.le_of_ble_eq_true rfl) ⟨Nat.le_of_ble_eq_true rfl, Nat.le_of_ble_eq_true rfl⟩ ⟨Nat.le_of_ble_eq_true rfl, Nat.le_of_ble_eq_true rfl⟩ (by decide +kernel) (fun x2 => ?_)
    refine zs_chk (fun _ hx => ?_)
    exact zs_retRc (pc := 15) C hx hr ⟨Nat.le_of_ble_eq_true rfl, Nat.le_of_ble_eq_true rfl⟩ (by decide +kernel)
set_option maxRecDepth 20000 in
theorem c_X8_wordOf (l : Launch) (g : GC) (a1 : Int) (a2 : Int) : ConR l g yX8_wordOf cX8_wordOf 8 (some .int) (rmd 6 0 0) [sR 1, sI a1, sI a2] (fun mm => fX8_wordOf a1 a2 mm) := by
  refine zs_ofR (by decide +kernel) (Nat.le_of_ble_eq_true rfl) ?_
  intro p e s m args below meth c C hr
  replace C : Bd g RX8 cX8_wordOf 8 p s m args meth c := C
  unfold fX8_wordOf
  refine zs_sipush (pc := 0) (n := 128) (x := 128) C (by decide +kernel) (by decide +kernel) ?_
  refine zs_istore_n (pc := 3) (k := 3) (i := 3) (ls' := [(3, sI 128), (0, sR 1), (1, sI a1), (2, sI a2)]) C (by decide +kernel) rfl (Nat.le_of_ble_eq_true rfl) rfl ?_
  refine zs_iload_n (pc := 4) (k := 1) (i := 1) C (by decide +kernel) rfl rfl ?_
  refine zs_istore (pc := 5) (i := 4) (ls' := [(4, sI a1), (3, sI 128), (0, sR 1), (1, sI a1), (2, sI a2)]) C (by decide +kernel) (Nat.le_of_ble_eq_true rfl) rfl ?_
  refine zs_iconst (pc := 7) (n := 1) (x := 1) C (by decide +kernel) (by decide +kernel) ?_
  refine zs_istore (pc := 8) (i := 5) (ls' := [(5, sI 1), (4, sI a1), (3, sI 128), (0, sR 1), (1, sI a1), (2, sI a2)]) C (by decide +kernel) (Nat.le_of_ble_eq_true rfl) rfl ?_
  refine zs_iconst (pc := 10) (n := 0) (x := 0) C (by decide +kernel) (by decide +kernel) ?_
  refine zs_istore (pc := 11) (i := 6) (ls' := [(6, sI 0), (5, sI 1), (4, sI a1), (3, sI 128), (0, sR 1), (1, sI a1), (2, sI a2)]) C (by decide +kernel) (Nat.le_of_ble_eq_true rfl) rfl ?_
  refine zs_sub (ls' := [(0, sR 1), (1, sI a1), (2, sI a2), (3, sI 128), (4, sI a1), (5, sI 1), (6, sI 0)]) ⟨rfl, rfl, rfl, rfl, rfl, rfl, rfl, trivial⟩ ?_
  refine zs_lp (pc := 13) (fun (t1 : Int × Int × Int × Int) => [(0, sR 1), (1, sI a1), (2, sI a2), (3, sI t1.1), (4, sI t1.2.1), (5, sI t1.2.2.1), (6, sI t1.2.2.2)]) (fun _ => []) (fun K2 hK2 t1 => ?_) BIG (128, a1, 1, 0)
  refine zs_iload (pc := 13) (i := 6) C (by decide +kernel) rfl ?_
  refine zs_ldcS (pc := 15) (i := 51) (k := 1) C (by decide +kernel) rfl ?_
  refine zs_ctRi (pc := 17) (As := []) (st := [sI t1.2.2.2]) C (by decide) rfl (c_J0_length_8abf5 l g 1 (by decide)) ml_RX8_53 rfl rfl (Nat.le_of_ble_eq_true rfl) ⟨Nat.le_of_ble_eq_true rfl, Nat.le_of_ble_eq_true rfl⟩ ⟨Nat.le_of_ble_eq_true rfl, Nat.le_of_ble_eq_true rfl⟩ (by decide +kernel) (fun x3 => ?_)
  refine zs_icmp_ge (pc := 20) (off := 80) (tgt := 100) C (by decide +kernel) (by decide) ?_ ?_
  · refine zs_iconst (pc := 100) (n := 3) (x := 3) C (by decide +kernel) (by decide +kernel) ?_
    exact zs_retRi (pc := 101) C hr ⟨Nat.le_of_ble_eq_true rfl, Nat.le_of_ble_eq_true rfl⟩ (by decide +kernel)
  · refine zs_ldcS (pc := 23) (i := 51) (k := 1) C (by decide +kernel) rfl ?_
    refine zs_iload (pc := 25) (i := 6) C (by decide +kernel) rfl ?_
    refine zs_ctRi (pc := 27) (As := [sI t1.2.2.2]) (st := []) C (by decide) rfl (c_J0_charAt_5068e l g 1 t1.2.2.2 (by decide)) ml_RX8_57 rfl rfl (Nat.le_of_ble_eq_true rfl) ⟨Nat.le_of_ble_eq_true rfl, Nat.le_of_ble_eq_true rfl⟩ ⟨Nat.le_of_ble_eq_true rfl, Nat.le_of_ble_eq_true rfl⟩ (by decide +kernel) (fun x4 => ?_)
    refine zs_istore (pc := 30) (i := 7) (ls' := [(7, sI x4), (0, sR 1), (1, sI a1), (2, sI a2), (3, sI t1.1), (4, sI t1.2.1), (5, sI t1.2.2.1), (6, sI t1.2.2.2)]) C (by decide +kernel) (Nat.le_of_ble_eq_true rfl) rfl ?_
    refine zs_iload (pc := 32) (i := 7) C (by decide +kernel) rfl ?_
    refine zs_bipush (pc := 34) (n := 32) (x := 32) C (by decide +kernel) (by decide +kernel) ?_
    refine zs_jn (pJ := 94) (kJ := 0) (sJ := 0) (fun t5 => [(0, sR 1), (1, sI a1), (2, sI a2), (3, sI t5.1), (4, sI t5.2.1), (5, sI t5.2.2), (6, sI t1.2.2.2)]) (fun t5 => []) (fun t5 => ?_) (fun J6 hJ6 => ?_)
    · refine zs_iinc (pc := 94) (i := 6) (n := 1) (y := w32 (t1.2.2.2 + 1)) (ls' := [(6, sI (w32 (t1.2.2.2 + 1))), (0, sR 1), (1, sI a1), (2, sI a2), (3, sI t5.1), (4, sI t5.2.1), (5, sI t5.2.2)]) C (by decide +kernel) rfl rfl (Nat.le_of_ble_eq_true rfl) rfl ?_
      refine zs_goto (pc := 97) (off := (-84)) (tgt := 13) C (by decide +kernel) (by decide) ?_
      exact zs_goj (hK2 (t5.1, t5.2.1, t5.2.2, w32 (t1.2.2.2 + 1))) ⟨rfl, rfl, rfl, rfl, rfl, rfl, rfl, trivial⟩
    · refine zs_icmp_eq (pc := 36) (off := 36) (tgt := 72) C (by decide +kernel) (by decide) ?_ ?_
      · refine zs_iload (pc := 72) (i := 5) C (by decide +kernel) rfl ?_
        refine zs_jn (pJ := 85) (kJ := 0) (sJ := 0) (fun t7 => [(0, sR 1), (1, sI a1), (2, sI a2), (3, sI t1.1), (6, sI t1.2.2.2)]) (fun t7 => []) (fun t7 => ?_) (fun J8 hJ8 => ?_)
        · refine zs_iinc (pc := 85) (i := 3) (n := 1) (y := w32 (t1.1 + 1)) (ls' := [(3, sI (w32 (t1.1 + 1))), (0, sR 1), (1, sI a1), (2, sI a2), (6, sI t1.2.2.2)]) C (by decide +kernel) rfl rfl (Nat.le_of_ble_eq_true rfl) rfl ?_
          refine zs_iload_n (pc := 88) (k := 1) (i := 1) C (by decide +kernel) rfl rfl ?_
          refine zs_istore (pc := 89) (i := 4) (ls' := [(4, sI a1), (3, sI (w32 (t1.1 + 1))), (0, sR 1), (1, sI a1), (2, sI a2), (6, sI t1.2.2.2)]) C (by decide +kernel) (Nat.le_of_ble_eq_true rfl) rfl ?_
          refine zs_iconst (pc := 91) (n := 1) (x := 1) C (by decide +kernel) (by decide +kernel) ?_
          refine zs_istore (pc := 92) (i := 5) (ls' := [(5, sI 1), (4, sI a1), (3, sI (w32 (t1.1 + 1))), (0, sR 1), (1, sI a1), (2, sI a2), (6, sI t1.2.2.2)]) C (by decide +kernel) (Nat.le_of_ble_eq_true rfl) rfl ?_
          exact zs_goj (hJ6 (w32 (t1.1 + 1), a1, 1)) ⟨rfl, rfl, rfl, rfl, rfl, rfl, rfl, trivial⟩
        · refine zs_if_eq (pc := 74) (off := 11) (tgt := 85) C (by decide +kernel) (by decide) ?_ ?_
          · exact zs_goj (hJ8 ()) ⟨rfl, rfl, rfl, rfl, rfl, trivial⟩
          · refine zs_iload (pc := 77) (i := 4) C (by decide +kernel) rfl ?_
            refine zs_iload_n (pc := 79) (k := 2) (i := 2) C (by decide +kernel) rfl rfl ?_
            refine zs_icmp_ne (pc := 80) (off := 5) (tgt := 85) C (by decide +kernel) (by decide) ?_ ?_
            · exact zs_goj (hJ8 ()) ⟨rfl, rfl, rfl, rfl, rfl, trivial⟩
            · refine zs_iload_n (pc := 83) (k := 3) (i := 3) C (by decide +kernel) rfl rfl ?_
              exact zs_retRi (pc := 84) C hr ⟨Nat.le_of_ble_eq_true rfl, Nat.le_of_ble_eq_true rfl⟩ (by decide +kernel)
      · refine zs_iload (pc := 39) (i := 5) C (by decide +kernel) rfl ?_
        refine zs_jn (pJ := 64) (kJ := 0) (sJ := 0) (fun t9 => [(0, sR 1), (1, sI a1), (2, sI a2), (3, sI t1.1), (4, sI t1.2.1), (6, sI t1.2.2.2)]) (fun t9 => [sI t9]) (fun t9 => ?_) (fun J10 hJ10 => ?_)
        · refine zs_istore (pc := 64) (i := 5) (ls' := [(5, sI t9), (0, sR 1), (1, sI a1), (2, sI a2), (3, sI t1.1), (4, sI t1.2.1), (6, sI t1.2.2.2)]) C (by decide +kernel) (Nat.le_of_ble_eq_true rfl) rfl ?_
          refine zs_iinc (pc := 66) (i := 4) (n := 1) (y := w32 (t1.2.1 + 1)) (ls' := [(4, sI (w32 (t1.2.1 + 1))), (5, sI t9), (0, sR 1), (1, sI a1), (2, sI a2), (3, sI t1.1), (6, sI t1.2.2.2)]) C (by decide +kernel) rfl rfl (Nat.le_of_ble_eq_true rfl) rfl ?_
          refine zs_goto (pc := 69) (off := 25) (tgt := 94) C (by decide +kernel) (by decide) ?_
          exact zs_goj (hJ6 (t1.1, w32 (t1.2.1 + 1), t9)) ⟨rfl, rfl, rfl, rfl, rfl, rfl, rfl, trivial⟩
        · refine zs_jn (pJ := 63) (kJ := 0) (sJ := 0) (fun t11 => [(0, sR 1), (1, sI a1), (2, sI a2), (3, sI t1.1), (4, sI t1.2.1), (6, sI t1.2.2.2)]) (fun t11 => []) (fun t11 => ?_) (fun J12 hJ12 => ?_)
          · refine zs_iconst (pc := 63) (n := 0) (x := 0) C (by decide +kernel) (by decide +kernel) ?_
            exact zs_goj (hJ10 0) ⟨rfl, rfl, rfl, rfl, rfl, rfl, trivial⟩
          · refine zs_if_eq (pc := 41) (off := 22) (tgt := 63) C (by decide +kernel) (by decide) ?_ ?_
            · exact zs_goj (hJ12 ()) ⟨rfl, rfl, rfl, rfl, rfl, rfl, trivial⟩
            · refine zs_iload (pc := 44) (i := 4) C (by decide +kernel) rfl ?_
              refine zs_iload_n (pc := 46) (k := 2) (i := 2) C (by decide +kernel) rfl rfl ?_
              refine zs_icmp_ge (pc := 47) (off := 16) (tgt := 63) C (by decide +kernel) (by decide) ?_ ?_
              · exact zs_goj (hJ12 ()) ⟨rfl, rfl, rfl, rfl, rfl, rfl, trivial⟩
              · refine zs_aload_n (pc := 50) (k := 0) (i := 0) C (by decide +kernel) rfl rfl ?_
                refine zs_iload (pc := 51) (i := 4) C (by decide +kernel) rfl ?_
                refine zs_bald (pc := 53) (o := 1) (n := 900) C (by decide +kernel) rfl (fun hinx13 x13 => ?_)
                refine zs_iload (pc := 54) (i := 7) C (by decide +kernel) rfl ?_
                refine zs_icmp_ne (pc := 56) (off := 7) (tgt := 63) C (by decide +kernel) (by decide) ?_ ?_
                · exact zs_goj (hJ12 ()) ⟨rfl, rfl, rfl, rfl, rfl, rfl, trivial⟩
                · refine zs_iconst (pc := 59) (n := 1) (x := 1) C (by decide +kernel) (by decide +kernel) ?_
                  refine zs_goto (pc := 60) (off := 4) (tgt := 64) C (by decide +kernel) (by decide) ?_
                  exact zs_goj (hJ10 1) ⟨rfl, rfl, rfl, rfl, rfl, rfl, trivial⟩
set_option maxRecDepth 20000 in
theorem c_X8_put (l : Launch) (g : GC) (a0 : Int) (a1 : Int) (a2 : Int) : ConV l g yX8_put cX8_put 4 (rmd 1 0 0) [sR 3, sI a0, sI a1, sI a2] (fun mm => fX8_put a0 a1 a2 mm) := by
  refine zs_ofV (by decide +kernel) (Nat.le_of_ble_eq_true rfl) ?_
  intro p e s m args below meth c C hr
  replace C : Bd g RX8 cX8_put 4 p s m args meth c := C
  unfold fX8_put
  refine zs_aload_n (pc := 0) (k := 0) (i := 0) C (by decide +kernel) rfl rfl ?_
  refine zs_getI (pc := 1) (i := 21) (ci := 8) (k := 3) C (by decide +kernel) fl_RX8_21 rfl rfl (fun x1 => ?_)
  refine zs_sipush (pc := 4) (n := 900) (x := 900) C (by decide +kernel) (by decide +kernel) ?_
  refine zs_jn (pJ := 50) (kJ := 0) (sJ := 0) (fun t2 => []) (fun t2 => []) (fun t2 => ?_) (fun J3 hJ3 => ?_)
  · exact zs_retVv (pc := 50) C hr ⟨Nat.le_of_ble_eq_true rfl, Nat.le_of_ble_eq_true rfl⟩ (by decide +kernel)
  · refine zs_icmp_gt (pc := 7) (off := 43) (tgt := 50) C (by decide +kernel) (by decide) ?_ ?_
    · exact zs_goj (hJ3 ()) trivial
    · refine zs_aload_n (pc := 10) (k := 0) (i := 0) C (by decide +kernel) rfl rfl ?_
      refine zs_getR (o' := 4) (pc := 11) (i := 9) (ci := 8) (k := 0) C (by decide +kernel) fl_RX8_9 rfl rfl rfl ?_
      refine zs_aload_n (pc := 14) (k := 0) (i := 0) C (by decide +kernel) rfl rfl ?_
      refine zs_getI (pc := 15) (i := 21) (ci := 8) (k := 3) C (by decide +kernel) fl_RX8_21 rfl rfl (fun x4 => ?_)
      refine zs_iload_n (pc := 18) (k := 1) (i := 1) C (by decide +kernel) rfl rfl ?_
      refine zs_iast (pc := 19) (o := 4) (n := 901) C (fun _ _ _ => rfl) (by decide +kernel) rfl ?_
      refine zs_aload_n (pc := 20) (k := 0) (i := 0) C (by decide +kernel) rfl rfl ?_
      refine zs_getR (o' := 5) (pc := 21) (i := 15) (ci := 8) (k := 1) C (by decide +kernel) fl_RX8_15 rfl rfl rfl ?_
      refine zs_aload_n (pc := 24) (k := 0) (i := 0) C (by decide +kernel) rfl rfl ?_
      refine zs_getI (pc := 25) (i := 21) (ci := 8) (k := 3) C (by decide +kernel) fl_RX8_21 rfl rfl (fun x5 => ?_)
      refine zs_iload_n (pc := 28) (k := 2) (i := 2) C (by decide +kernel) rfl rfl ?_
      refine zs_iast (pc := 29) (o := 5) (n := 901) C (fun _ _ _ => rfl) (by decide +kernel) rfl ?_
      refine zs_aload_n (pc := 30) (k := 0) (i := 0) C (by decide +kernel) rfl rfl ?_
      refine zs_getR (o' := 6) (pc := 31) (i := 18) (ci := 8) (k := 2) C (by decide +kernel) fl_RX8_18 rfl rfl rfl ?_
      refine zs_aload_n (pc := 34) (k := 0) (i := 0) C (by decide +kernel) rfl rfl ?_
      refine zs_getI (pc := 35) (i := 21) (ci := 8) (k := 3) C (by decide +kernel) fl_RX8_21 rfl rfl (fun x6 => ?_)
      refine zs_iload_n (pc := 38) (k := 3) (i := 3) C (by decide +kernel) rfl rfl ?_
      refine zs_iast (pc := 39) (o := 6) (n := 901) C (fun _ _ _ => rfl) (by decide +kernel) rfl ?_
      refine zs_aload_n (pc := 40) (k := 0) (i := 0) C (by decide +kernel) rfl rfl ?_
      refine zs_dup (pc := 41) C rfl (by decide +kernel) ?_
      refine zs_getI (pc := 42) (i := 21) (ci := 8) (k := 3) C (by decide +kernel) fl_RX8_21 rfl rfl (fun x7 => ?_)
      refine zs_iconst (pc := 45) (n := 1) (x := 1) C (by decide +kernel) (by decide +kernel) ?_
      refine zs_iadd (pc := 46) C (by decide +kernel) ?_
      refine zs_putI (pc := 47) (i := 21) (ci := 8) (k := 3) C (fun _ _ _ => rfl) (by decide +kernel) fl_RX8_21 fw_8_3 rfl rfl ?_
      exact zs_goj (hJ3 ()) trivial
set_option maxRecDepth 20000 in
theorem c_X8_isDigit (l : Launch) (g : GC) (a0 : Int) : ConR l g yX8_isDigit cX8_isDigit 1 (some .boolean) (rmd 1 0 0) [sI a0] (fun mm => fX8_isDigit a0 mm) := by
  refine zs_ofR (by decide +kernel) (Nat.le_of_ble_eq_true rfl) ?_
  intro p e s m args below meth c C hr
  replace C : Bd g RX8 cX8_isDigit 1 p s m args meth c := C
  unfold fX8_isDigit
  refine zs_iload_n (pc := 0) (k := 0) (i := 0) C (by decide +kernel) rfl rfl ?_
  refine zs_bipush (pc := 1) (n := 48) (x := 48) C (by decide +kernel) (by decide +kernel) ?_
  refine zs_jn (pJ := 17) (kJ := 0) (sJ := 0) (fun t1 => []) (fun t1 => [sI t1]) (fun t1 => ?_) (fun J2 hJ2 => ?_)
  · refine zs_chk (fun _ hx => ?_)
    exact zs_retRz (pc := 17) C hx hr ⟨Nat.le_of_ble_eq_true rfl, Nat.le_of_ble_eq_true rfl⟩ (by decide +kernel)
  · refine zs_jn (pJ := 16) (kJ := 0) (sJ := 0) (fun t3 => []) (fun t3 => []) (fun t3 => ?_) (fun J4 hJ4 => ?_)
    · refine zs_iconst (pc := 16) (n := 0) (x := 0) C (by decide +kernel) (by decide +kernel) ?_
      exact zs_goj (hJ2 0) trivial
    · refine zs_icmp_lt (pc := 3) (off := 13) (tgt := 16) C (by decide +kernel) (by decide) ?_ ?_
      · exact zs_goj (hJ4 ()) trivial
      · refine zs_iload_n (pc := 6) (k := 0) (i := 0) C (by decide +kernel) rfl rfl ?_
        refine zs_bipush (pc := 7) (n := 57) (x := 57) C (by decide +kernel) (by decide +kernel) ?_
        refine zs_icmp_gt (pc := 9) (off := 7) (tgt := 16) C (by decide +kernel) (by decide) ?_ ?_
        · exact zs_goj (hJ4 ()) trivial
        · refine zs_iconst (pc := 12) (n := 1) (x := 1) C (by decide +kernel) (by decide +kernel) ?_
          refine zs_goto (pc := 13) (off := 4) (tgt := 17) C (by decide +kernel) (by decide) ?_
          exact zs_goj (hJ2 1) trivial
set_option maxRecDepth 20000 in
theorem c_J1_canEncode_9a6ad (l : Launch) (g : GC) (a0 : Int) : ConR l g yJ1_canEncode_9a6ad cJ1_canEncode_9a6ad 1 (some .boolean) (rmd 1 0 0) [sI a0] (fun mm => fJ1_canEncode_9a6ad a0 mm) := by
  refine zs_ofR (by decide +kernel) (Nat.le_of_ble_eq_true rfl) ?_
  intro p e s m args below meth c C hr
  replace C : Bd g RJ1 cJ1_canEncode_9a6ad 1 p s m args meth c := C
  unfold fJ1_canEncode_9a6ad
  refine zs_iload_n (pc := 0) (k := 0) (i := 0) C (by decide +kernel) rfl rfl ?_
  refine zs_jn (pJ := 16) (kJ := 0) (sJ := 0) (fun t1 => []) (fun t1 => [sI t1]) (fun t1 => ?_) (fun J2 hJ2 => ?_)
  · refine zs_chk (fun _ hx => ?_)
    exact zs_retRz (pc := 16) C hx hr ⟨Nat.le_of_ble_eq_true rfl, Nat.le_of_ble_eq_true rfl⟩ (by decide +kernel)
  · refine zs_jn (pJ := 15) (kJ := 0) (sJ := 0) (fun t3 => []) (fun t3 => []) (fun t3 => ?_) (fun J4 hJ4 => ?_)
    · refine zs_iconst (pc := 15) (n := 0) (x := 0) C (by decide +kernel) (by decide +kernel) ?_
      exact zs_goj (hJ2 0) trivial
    · refine zs_if_lt (pc := 1) (off := 14) (tgt := 15) C (by decide +kernel) (by decide) ?_ ?_
      · exact zs_goj (hJ4 ()) trivial
      · refine zs_iload_n (pc := 4) (k := 0) (i := 0) C (by decide +kernel) rfl rfl ?_
        refine zs_sipush (pc := 5) (n := 255) (x := 255) C (by decide +kernel) (by decide +kernel) ?_
        refine zs_icmp_gt (pc := 8) (off := 7) (tgt := 15) C (by decide +kernel) (by decide) ?_ ?_
        · exact zs_goj (hJ4 ()) trivial
        · refine zs_iconst (pc := 11) (n := 1) (x := 1) C (by decide +kernel) (by decide +kernel) ?_
          refine zs_goto (pc := 12) (off := 4) (tgt := 16) C (by decide +kernel) (by decide) ?_
          exact zs_goj (hJ2 1) trivial
set_option maxRecDepth 20000 in
theorem c_J1_indexOfChar_4cfef (l : Launch) (g : GC) (a0 : Nat) (a1 : Int) (a2 : Int) (a3 : Int) (h0_ : a0 < strT.length) : ConR l g yJ1_indexOfChar_4cfef cJ1_indexOfChar_4cfef 6 (some .int) (rmd 1 0 0) [sT (a0 + 1000), sI a1, sI a2, sI a3] (fun mm => fJ1_indexOfChar_4cfef a0 a1 a2 a3 mm) := by
  refine zs_ofR (by decide +kernel) (Nat.le_of_ble_eq_true rfl) ?_
  intro p e s m args below meth c C hr
  replace C : Bd g RJ1 cJ1_indexOfChar_4cfef 6 p s m args meth c := C
  unfold fJ1_indexOfChar_4cfef
  refine zs_iload_n (pc := 0) (k := 1) (i := 1) C (by decide +kernel) rfl rfl ?_
  refine zs_i2b (pc := 1) C (by decide +kernel) ?_
  refine zs_let (fun x1 => ?_)
  refine zs_istore (pc := 2) (i := 4) (ls' := [(4, sI x1), (0, sT (a0 + 1000)), (1, sI a1), (2, sI a2), (3, sI a3)]) C (by decide +kernel) (Nat.le_of_ble_eq_true rfl) rfl ?_
  refine zs_iload_n (pc := 4) (k := 2) (i := 2) C (by decide +kernel) rfl rfl ?_
  refine zs_istore (pc := 5) (i := 5) (ls' := [(5, sI a2), (4, sI x1), (0, sT (a0 + 1000)), (1, sI a1), (2, sI a2), (3, sI a3)]) C (by decide +kernel) (Nat.le_of_ble_eq_true rfl) rfl ?_
  refine zs_sub (ls' := [(0, sT (a0 + 1000)), (3, sI a3), (4, sI x1), (5, sI a2)]) ⟨rfl, rfl, rfl, rfl, trivial⟩ ?_
  refine zs_lp (pc := 7) (fun (t2 : Int) => [(0, sT (a0 + 1000)), (3, sI a3), (4, sI x1), (5, sI t2)]) (fun _ => []) (fun K3 hK3 t2 => ?_) BIG a2
  refine zs_iload (pc := 7) (i := 5) C (by decide +kernel) rfl ?_
  refine zs_iload_n (pc := 9) (k := 3) (i := 3) C (by decide +kernel) rfl rfl ?_
  refine zs_icmp_ge (pc := 10) (off := 21) (tgt := 31) C (by decide +kernel) (by decide) ?_ ?_
  · refine zs_iconst (pc := 31) (n := (-1)) (x := (-1)) C (by decide +kernel) (by decide +kernel) ?_
    exact zs_retRi (pc := 32) C hr ⟨Nat.le_of_ble_eq_true rfl, Nat.le_of_ble_eq_true rfl⟩ (by decide +kernel)
  · refine zs_aload_nT (pc := 13) (k := 0) (i := 0) C (by decide +kernel) rfl rfl ?_
    refine zs_iload (pc := 14) (i := 5) C (by decide +kernel) rfl ?_
    refine zs_baldT (pc := 16) C h0_ (by decide +kernel) (fun hinx4 x4 => ?_)
    refine zs_iload (pc := 17) (i := 4) C (by decide +kernel) rfl ?_
    refine zs_icmp_ne (pc := 19) (off := 6) (tgt := 25) C (by decide +kernel) (by decide) ?_ ?_
    · refine zs_iinc (pc := 25) (i := 5) (n := 1) (y := w32 (t2 + 1)) (ls' := [(5, sI (w32 (t2 + 1))), (0, sT (a0 + 1000)), (3, sI a3), (4, sI x1)]) C (by decide +kernel) rfl rfl (Nat.le_of_ble_eq_true rfl) rfl ?_
      refine zs_goto (pc := 28) (off := (-21)) (tgt := 7) C (by decide +kernel) (by decide) ?_
      exact zs_goj (hK3 (w32 (t2 + 1))) ⟨rfl, rfl, rfl, rfl, trivial⟩
    · refine zs_iload (pc := 22) (i := 5) C (by decide +kernel) rfl ?_
      exact zs_retRi (pc := 24) C hr ⟨Nat.le_of_ble_eq_true rfl, Nat.le_of_ble_eq_true rfl⟩ (by decide +kernel)
set_option maxRecDepth 20000 in
theorem c_J1_indexOf_4cfef (l : Launch) (g : GC) (a0 : Nat) (a1 : Int) (a2 : Int) (a3 : Int) (h0_ : a0 < strT.length) : ConR l g yJ1_indexOf_4cfef cJ1_indexOf_4cfef 4 (some .int) (rmd 2 0 0) [sT (a0 + 1000), sI a1, sI a2, sI a3] (fun mm => fJ1_indexOf_4cfef a0 a1 a2 a3 mm) := by
  refine zs_ofR (by decide +kernel) (Nat.le_of_ble_eq_true rfl) ?_
  intro p e s m args below meth c C hr
  replace C : Bd g RJ1 cJ1_indexOf_4cfef 4 p s m args meth c := C
  unfold fJ1_indexOf_4cfef
  refine zs_iload_n (pc := 0) (k := 1) (i := 1) C (by decide +kernel) rfl rfl ?_
  refine zs_csRi (pc := 1) (As := [sI a1]) (st := []) C rfl (c_J1_canEncode_9a6ad l g a1) ml_RJ1_88 rfl rfl (Nat.le_of_ble_eq_true rfl) ⟨Nat.le_of_ble_eq_true rfl, Nat.le_of_ble_eq_true rfl⟩ ⟨Nat.le_of_ble_eq_true rfl, Nat.le_of_ble_eq_true rfl⟩ (by decide +kernel) (fun x1 => ?_)
  refine zs_if_ne (pc := 4) (off := 5) (tgt := 9) C (by decide +kernel) (by decide) ?_ ?_
  · refine zs_iload_n (pc := 9) (k := 2) (i := 2) C (by decide +kernel) rfl rfl ?_
    refine zs_iconst (pc := 10) (n := 0) (x := 0) C (by decide +kernel) (by decide +kernel) ?_
    refine zs_mmax (pc := 11) (idx := 92) C wf_942 wf_702 wf_166 wf_703 ⟨Nat.le_of_ble_eq_true rfl, Nat.le_of_ble_eq_true rfl, Nat.le_of_ble_eq_true rfl, Nat.le_of_ble_eq_true rfl⟩ (by decide +kernel) ?_
    refine zs_let (fun x2 => ?_)
    refine zs_istore_n (pc := 14) (k := 2) (i := 2) (ls' := [(2, sI x2), (0, sT (a0 + 1000)), (1, sI a1), (3, sI a3)]) C (by decide +kernel) rfl (Nat.le_of_ble_eq_true rfl) rfl ?_
    refine zs_iload_n (pc := 15) (k := 3) (i := 3) C (by decide +kernel) rfl rfl ?_
    refine zs_aload_nT (pc := 16) (k := 0) (i := 0) C (by decide +kernel) rfl rfl ?_
    refine zs_alenT (pc := 17) C h0_ (slen_ok h0_) (by decide +kernel) ?_
    refine zs_mmin (pc := 18) (idx := 38) C wf_943 wf_717 wf_166 wf_718 ⟨Nat.le_of_ble_eq_true rfl, Nat.le_of_ble_eq_true rfl, Nat.le_of_ble_eq_true rfl, Nat.le_of_ble_eq_true rfl⟩ (by decide +kernel) ?_
    refine zs_let (fun x3 => ?_)
    refine zs_istore_n (pc := 21) (k := 3) (i := 3) (ls' := [(3, sI x3), (2, sI x2), (0, sT (a0 + 1000)), (1, sI a1)]) C (by decide +kernel) rfl (Nat.le_of_ble_eq_true rfl) rfl ?_
    refine zs_iload_n (pc := 22) (k := 2) (i := 2) C (by decide +kernel) rfl rfl ?_
    refine zs_iload_n (pc := 23) (k := 3) (i := 3) C (by decide +kernel) rfl rfl ?_
    refine zs_icmp_lt (pc := 24) (off := 5) (tgt := 29) C (by decide +kernel) (by decide) ?_ ?_
    · refine zs_aload_nT (pc := 29) (k := 0) (i := 0) C (by decide +kernel) rfl rfl ?_
      refine zs_iload_n (pc := 30) (k := 1) (i := 1) C (by decide +kernel) rfl rfl ?_
      refine zs_iload_n (pc := 31) (k := 2) (i := 2) C (by decide +kernel) rfl rfl ?_
      refine zs_iload_n (pc := 32) (k := 3) (i := 3) C (by decide +kernel) rfl rfl ?_
      refine zs_csRi (pc := 33) (As := [sT (a0 + 1000), sI a1, sI x2, sI x3]) (st := []) C rfl (c_J1_indexOfChar_4cfef l g a0 a1 x2 x3 h0_) ml_RJ1_95 rfl rfl (Nat.le_of_ble_eq_true rfl) ⟨Nat.le_of_ble_eq_true rfl, Nat.le_of_ble_eq_true rfl⟩ ⟨Nat.le_of_ble_eq_true rfl, Nat.le_of_ble_eq_true rfl⟩ (by decide +kernel) (fun x4 => ?_)
      exact zs_retRi (pc := 36) C hr ⟨Nat.le_of_ble_eq_true rfl, Nat.le_of_ble_eq_true rfl⟩ (by decide +kernel)
    · refine zs_iconst (pc := 27) (n := (-1)) (x := (-1)) C (by decide +kernel) (by decide +kernel) ?_
      exact zs_retRi (pc := 28) C hr ⟨Nat.le_of_ble_eq_true rfl, Nat.le_of_ble_eq_true rfl⟩ (by decide +kernel)
  · refine zs_iconst (pc := 7) (n := (-1)) (x := (-1)) C (by decide +kernel) (by decide +kernel) ?_
    exact zs_retRi (pc := 8) C hr ⟨Nat.le_of_ble_eq_true rfl, Nat.le_of_ble_eq_true rfl⟩ (by decide +kernel)
set_option maxRecDepth 20000 in
theorem c_J0_indexOf_7cf53 (l : Launch) (g : GC) (o : Nat) (a0 : Int) (a1 : Int) (h0 : o < strT.length) : ConR l g yJ0_indexOf_7cf53 cJ0_indexOf_7cf53 3 (some .int) (rmd 6 0 0) [sT o, sI a0, sI a1] (fun mm => fJ0_indexOf_7cf53 o a0 a1 mm) := by
  refine zs_ofR (by decide +kernel) (Nat.le_of_ble_eq_true rfl) ?_
  intro p e s m args below meth c C hr
  replace C : Bd g RJ0 cJ0_indexOf_7cf53 3 p s m args meth c := C
  unfold fJ0_indexOf_7cf53
  refine zs_aload_nT (pc := 0) (k := 0) (i := 0) C (by decide +kernel) rfl rfl ?_
  refine zs_ctRi (pc := 1) (As := []) (st := []) C h0 rfl (c_J0_isLatin1_aae02 l g o h0) ml_RJ0_492 rfl rfl (Nat.le_of_ble_eq_true rfl) ⟨Nat.le_of_ble_eq_true rfl, Nat.le_of_ble_eq_true rfl⟩ ⟨Nat.le_of_ble_eq_true rfl, Nat.le_of_ble_eq_true rfl⟩ (by decide +kernel) (fun x1 => ?_)
  refine zs_jn (pJ := 36) (kJ := 0) (sJ := 0) (fun t2 => []) (fun t2 => [sI t2]) (fun t2 => ?_) (fun J3 hJ3 => ?_)
  · exact zs_retRi (pc := 36) C hr ⟨Nat.le_of_ble_eq_true rfl, Nat.le_of_ble_eq_true rfl⟩ (by decide +kernel)
  · refine zs_if_eq (pc := 4) (off := 19) (tgt := 23) C (by decide +kernel) (by decide) ?_ ?_
    · exact zs_none
    · refine zs_aload_nT (pc := 7) (k := 0) (i := 0) C (by decide +kernel) rfl rfl ?_
      refine zs_strval (pc := 8) (i := 9) C h0 (by decide +kernel) wf_2531 ?_
      refine zs_iload_n (pc := 11) (k := 1) (i := 1) C (by decide +kernel) rfl rfl ?_
      refine zs_iload_n (pc := 12) (k := 2) (i := 2) C (by decide +kernel) rfl rfl ?_
      refine zs_aload_nT (pc := 13) (k := 0) (i := 0) C (by decide +kernel) rfl rfl ?_
      refine zs_ctRi (pc := 14) (As := []) (st := [sI a1, sI a0, sT (o + 1000)]) C h0 rfl (c_J0_length_8abf5 l g o h0) ml_RJ0_505 rfl rfl (Nat.le_of_ble_eq_true rfl) ⟨Nat.le_of_ble_eq_true rfl, Nat.le_of_ble_eq_true rfl⟩ ⟨Nat.le_of_ble_eq_true rfl, Nat.le_of_ble_eq_true rfl⟩ (by decide +kernel) (fun x4 => ?_)
      refine zs_csRi (pc := 17) (As := [sT (o + 1000), sI a0, sI a1, sI x4]) (st := []) C rfl (c_J1_indexOf_4cfef l g o a0 a1 x4 h0) ml_RJ0_637 rfl rfl (Nat.le_of_ble_eq_true rfl) ⟨Nat.le_of_ble_eq_true rfl, Nat.le_of_ble_eq_true rfl⟩ ⟨Nat.le_of_ble_eq_true rfl, Nat.le_of_ble_eq_true rfl⟩ (by decide +kernel) (fun x5 => ?_)
      refine zs_goto (pc := 20) (off := 16) (tgt := 36) C (by decide +kernel) (by decide) ?_
      exact zs_goj (hJ3 x5) trivial
set_option maxRecDepth 20000 in
theorem c_J0_indexOf_0f7a4 (l : Launch) (g : GC) (o : Nat) (a0 : Int) (h0 : o < strT.length) : ConR l g yJ0_indexOf_0f7a4 cJ0_indexOf_0f7a4 2 (some .int) (rmd 7 0 0) [sT o, sI a0] (fun mm => fJ0_indexOf_0f7a4 o a0 mm) := by
  refine zs_ofR (by decide +kernel) (Nat.le_of_ble_eq_true rfl) ?_
  intro p e s m args below meth c C hr
  replace C : Bd g RJ0 cJ0_indexOf_0f7a4 2 p s m args meth c := C
  unfold fJ0_indexOf_0f7a4
  refine zs_aload_nT (pc := 0) (k := 0) (i := 0) C (by decide +kernel) rfl rfl ?_
  refine zs_iload_n (pc := 1) (k := 1) (i := 1) C (by decide +kernel) rfl rfl ?_
  refine zs_iconst (pc := 2) (n := 0) (x := 0) C (by decide +kernel) (by decide +kernel) ?_
  refine zs_ctRi (pc := 3) (As := [sI a0, sI 0]) (st := []) C h0 rfl (c_J0_indexOf_7cf53 l g o a0 0 h0) ml_RJ0_633 rfl rfl (Nat.le_of_ble_eq_true rfl) ⟨Nat.le_of_ble_eq_true rfl, Nat.le_of_ble_eq_true rfl⟩ ⟨Nat.le_of_ble_eq_true rfl, Nat.le_of_ble_eq_true rfl⟩ (by decide +kernel) (fun x1 => ?_)
  exact zs_retRi (pc := 6) C hr ⟨Nat.le_of_ble_eq_true rfl, Nat.le_of_ble_eq_true rfl⟩ (by decide +kernel)
set_option maxRecDepth 20000 in
theorem c_X8_cutOne (l : Launch) (g : GC) (a1 : Int) (a2 : Int) : ConW l g yX8_cutOne cX8_cutOne 6 (some .int) (rmd 8 0 0) [sR 3, sR 1, sI a1, sI a2] (fun mm => fX8_cutOne a1 a2 mm) := by
  refine zs_ofW (by decide +kernel) (Nat.le_of_ble_eq_true rfl) ?_
  intro p e s m args below meth c C hr
  replace C : Bd g RX8 cX8_cutOne 6 p s m args meth c := C
  unfold fX8_cutOne
  refine zs_iload_n (pc := 0) (k := 2) (i := 2) C (by decide +kernel) rfl rfl ?_
  refine zs_iconst (pc := 1) (n := 1) (x := 1) C (by decide +kernel) (by decide +kernel) ?_
  refine zs_iadd (pc := 2) C (by decide +kernel) ?_
  refine zs_let (fun x1 => ?_)
  refine zs_istore (pc := 3) (i := 4) (ls' := [(4, sI x1), (0, sR 3), (1, sR 1), (2, sI a1), (3, sI a2)]) C (by decide +kernel) (Nat.le_of_ble_eq_true rfl) rfl ?_
  refine zs_aload_n (pc := 5) (k := 1) (i := 1) C (by decide +kernel) rfl rfl ?_
  refine zs_iload_n (pc := 6) (k := 2) (i := 2) C (by decide +kernel) rfl rfl ?_
  refine zs_bald (pc := 7) (o := 1) (n := 900) C (by decide +kernel) rfl (fun hinx2 x2 => ?_)
  refine zs_csRi (pc := 8) (As := [sI x2]) (st := []) C rfl (c_X8_isLetter l g x2) ml_RX8_33 rfl rfl (Nat.le_of_ble_eq_true rfl) ⟨Nat.le_of_ble_eq_true rfl, Nat.le_of_ble_eq_true rfl⟩ ⟨Nat.le_of_ble_eq_true rfl, Nat.le_of_ble_eq_true rfl⟩ (by decide +kernel) (fun x3 => ?_)
  refine zs_jn (pJ := 174) (kJ := 0) (sJ := 0) (fun t4 => [(4, sI t4)]) (fun t4 => []) (fun t4 => ?_) (fun J5 hJ5 => ?_)
  · refine zs_iload (pc := 174) (i := 4) C (by decide +kernel) rfl ?_
    exact zs_retWi (pc := 176) C hr ⟨Nat.le_of_ble_eq_true rfl, Nat.le_of_ble_eq_true rfl⟩ (by decide +kernel)
  · refine zs_if_eq (pc := 11) (off := 41) (tgt := 52) C (by decide +kernel) (by decide) ?_ ?_
    · refine zs_aload_n (pc := 52) (k := 1) (i := 1) C (by decide +kernel) rfl rfl ?_
      refine zs_iload_n (pc := 53) (k := 2) (i := 2) C (by decide +kernel) rfl rfl ?_
      refine zs_bald (pc := 54) (o := 1) (n := 900) C (by decide +kernel) rfl (fun hinx6 x6 => ?_)
      refine zs_csRi (pc := 55) (As := [sI x6]) (st := []) C rfl (c_X8_isDigit l g x6) ml_RX8_40 rfl rfl (Nat.le_of_ble_eq_true rfl) ⟨Nat.le_of_ble_eq_true rfl, Nat.le_of_ble_eq_true rfl⟩ ⟨Nat.le_of_ble_eq_true rfl, Nat.le_of_ble_eq_true rfl⟩ (by decide +kernel) (fun x7 => ?_)
      refine zs_if_eq (pc := 58) (off := 84) (tgt := 142) C (by decide +kernel) (by decide) ?_ ?_
      · refine zs_aload_n (pc := 142) (k := 1) (i := 1) C (by decide +kernel) rfl rfl ?_
        refine zs_iload_n (pc := 143) (k := 2) (i := 2) C (by decide +kernel) rfl rfl ?_
        refine zs_bald (pc := 144) (o := 1) (n := 900) C (by decide +kernel) rfl (fun hinx8 x8 => ?_)
        refine zs_sipush (pc := 145) (n := 255) (x := 255) C (by decide +kernel) (by decide +kernel) ?_
        refine zs_iand (pc := 148) C (by decide +kernel) ?_
        refine zs_i2c (pc := 149) C (by decide +kernel) ?_
        refine zs_let (fun x9 => ?_)
        refine zs_istore (pc := 150) (i := 5) (ls' := [(5, sI x9), (4, sI x1), (0, sR 3), (1, sR 1), (2, sI a1), (3, sI a2)]) C (by decide +kernel) (Nat.le_of_ble_eq_true rfl) rfl ?_
        refine zs_aload_n (pc := 152) (k := 0) (i := 0) C (by decide +kernel) rfl rfl ?_
        refine zs_ldcS (pc := 153) (i := 43) (k := 0) C (by decide +kernel) rfl ?_
        refine zs_iload (pc := 155) (i := 5) C (by decide +kernel) rfl ?_
        refine zs_ctRi (pc := 157) (As := [sI x9]) (st := [sR 3]) C (by decide) rfl (c_J0_indexOf_0f7a4 l g 0 x9 (by decide)) ml_RX8_45 rfl rfl (Nat.le_of_ble_eq_true rfl) ⟨Nat.le_of_ble_eq_true rfl, Nat.le_of_ble_eq_true rfl⟩ ⟨Nat.le_of_ble_eq_true rfl, Nat.le_of_ble_eq_true rfl⟩ (by decide +kernel) (fun x10 => ?_)
        refine zs_jn (pJ := 169) (kJ := 0) (sJ := 0) (fun t11 => [(2, sI a1), (4, sI x1)]) (fun t11 => [sI t11, sR 3]) (fun t11 => ?_) (fun J12 hJ12 => ?_)
        · refine zs_iconst (pc := 169) (n := 0) (x := 0) C (by decide +kernel) (by decide +kernel) ?_
          refine zs_iload_n (pc := 170) (k := 2) (i := 2) C (by decide +kernel) rfl rfl ?_
          refine zs_cvVv (pc := 171) (As := [sI t11, sI 0, sI a1]) (st := []) C (fun _ _ _ => rfl) (c_X8_put l g t11 0 a1) ml_RX8_29 rfl rfl rfl rfl (Nat.le_of_ble_eq_true rfl) ⟨Nat.le_of_ble_eq_true rfl, Nat.le_of_ble_eq_true rfl⟩ ⟨Nat.le_of_ble_eq_true rfl, Nat.le_of_ble_eq_true rfl⟩ (by decide +kernel) ?_
          exact zs_goj (hJ5 x1) ⟨rfl, trivial⟩
        · refine zs_if_lt (pc := 160) (off := 8) (tgt := 168) C (by decide +kernel) (by decide) ?_ ?_
          · refine zs_iconst (pc := 168) (n := 2) (x := 2) C (by decide +kernel) (by decide +kernel) ?_
            exact zs_goj (hJ12 2) ⟨rfl, rfl, trivial⟩
          · refine zs_iload (pc := 163) (i := 5) C (by decide +kernel) rfl ?_
            refine zs_goto (pc := 165) (off := 4) (tgt := 169) C (by decide +kernel) (by decide) ?_
            exact zs_goj (hJ12 x9) ⟨rfl, rfl, trivial⟩
      · refine zs_aload_n (pc := 61) (k := 1) (i := 1) C (by decide +kernel) rfl rfl ?_
        refine zs_iload_n (pc := 62) (k := 2) (i := 2) C (by decide +kernel) rfl rfl ?_
        refine zs_bald (pc := 63) (o := 1) (n := 900) C (by decide +kernel) rfl (fun hinx13 x13 => ?_)
        refine zs_bipush (pc := 64) (n := 48) (x := 48) C (by decide +kernel) (by decide +kernel) ?_
        refine zs_isub (pc := 66) C (by decide +kernel) ?_
        refine zs_let (fun x14 => ?_)
        refine zs_istore (pc := 67) (i := 5) (ls' := [(5, sI x14), (4, sI x1), (0, sR 3), (1, sR 1), (2, sI a1), (3, sI a2)]) C (by decide +kernel) (Nat.le_of_ble_eq_true rfl) rfl ?_
        refine zs_sub (ls' := [(0, sR 3), (1, sR 1), (2, sI a1), (3, sI a2), (4, sI x1), (5, sI x14)]) ⟨rfl, rfl, rfl, rfl, rfl, rfl, trivial⟩ ?_
        refine zs_lp (pc := 69) (fun (t15 : Int × Int) => [(0, sR 3), (1, sR 1), (2, sI a1), (3, sI a2), (4, sI t15.1), (5, sI t15.2)]) (fun _ => []) (fun K16 hK16 t15 => ?_) BIG (x1, x14)
        refine zs_iload (pc := 69) (i := 4) C (by decide +kernel) rfl ?_
        refine zs_iload_n (pc := 71) (k := 3) (i := 3) C (by decide +kernel) rfl rfl ?_
        refine zs_jn (pJ := 119) (kJ := 0) (sJ := 0) (fun t17 => [(0, sR 3), (2, sI a1), (4, sI t15.1), (5, sI t15.2)]) (fun t17 => []) (fun t17 => ?_) (fun J18 hJ18 => ?_)
        · refine zs_aload_n (pc := 119) (k := 0) (i := 0) C (by decide +kernel) rfl rfl ?_
          refine zs_iload (pc := 120) (i := 4) C (by decide +kernel) rfl ?_
          refine zs_iload_n (pc := 122) (k := 2) (i := 2) C (by decide +kernel) rfl rfl ?_
          refine zs_isub (pc := 123) C (by decide +kernel) ?_
          refine zs_iconst (pc := 124) (n := 3) (x := 3) C (by decide +kernel) (by decide +kernel) ?_
          refine zs_jn (pJ := 133) (kJ := 0) (sJ := 0) (fun t19 => [(2, sI a1), (4, sI t15.1), (5, sI t15.2)]) (fun t19 => [sI t19, sR 3]) (fun t19 => ?_) (fun J20 hJ20 => ?_)
          · refine zs_iload (pc := 133) (i := 5) C (by decide +kernel) rfl ?_
            refine zs_iload_n (pc := 135) (k := 2) (i := 2) C (by decide +kernel) rfl rfl ?_
            refine zs_cvVv (pc := 136) (As := [sI t19, sI t15.2, sI a1]) (st := []) C (fun _ _ _ => rfl) (c_X8_put l g t19 t15.2 a1) ml_RX8_29 rfl rfl rfl rfl (Nat.le_of_ble_eq_true rfl) ⟨Nat.le_of_ble_eq_true rfl, Nat.le_of_ble_eq_true rfl⟩ ⟨Nat.le_of_ble_eq_true rfl, Nat.le_of_ble_eq_true rfl⟩ (by decide +kernel) ?_
            refine zs_goto (pc := 139) (off := 35) (tgt := 174) C (by decide +kernel) (by decide) ?_
            exact zs_goj (hJ5 t15.1) ⟨rfl, trivial⟩
          · refine zs_icmp_le (pc := 125) (off := 7) (tgt := 132) C (by decide +kernel) (by decide) ?_ ?_
            · refine zs_iconst (pc := 132) (n := 1) (x := 1) C (by decide +kernel) (by decide +kernel) ?_
              exact zs_goj (hJ20 1) ⟨rfl, rfl, rfl, trivial⟩
            · refine zs_iconst (pc := 128) (n := 2) (x := 2) C (by decide +kernel) (by decide +kernel) ?_
              refine zs_goto (pc := 129) (off := 4) (tgt := 133) C (by decide +kernel) (by decide) ?_
              exact zs_goj (hJ20 2) ⟨rfl, rfl, rfl, trivial⟩
        · refine zs_icmp_ge (pc := 72) (off := 47) (tgt := 119) C (by decide +kernel) (by decide) ?_ ?_
          · exact zs_goj (hJ18 ()) ⟨rfl, rfl, rfl, rfl, trivial⟩
          · refine zs_aload_n (pc := 75) (k := 1) (i := 1) C (by decide +kernel) rfl rfl ?_
            refine zs_iload (pc := 76) (i := 4) C (by decide +kernel) rfl ?_
            refine zs_bald (pc := 78) (o := 1) (n := 900) C (by decide +kernel) rfl (fun hinx21 x21 => ?_)
            refine zs_csRi (pc := 79) (As := [sI x21]) (st := []) C rfl (c_X8_isDigit l g x21) ml_RX8_40 rfl rfl (Nat.le_of_ble_eq_true rfl) ⟨Nat.le_of_ble_eq_true rfl, Nat.le_of_ble_eq_true rfl⟩ ⟨Nat.le_of_ble_eq_true rfl, Nat.le_of_ble_eq_true rfl⟩ (by decide +kernel) (fun x22 => ?_)
            refine zs_if_eq (pc := 82) (off := 37) (tgt := 119) C (by decide +kernel) (by decide) ?_ ?_
            · exact zs_goj (hJ18 ()) ⟨rfl, rfl, rfl, rfl, trivial⟩
            · refine zs_iload (pc := 85) (i := 4) C (by decide +kernel) rfl ?_
              refine zs_iload_n (pc := 87) (k := 2) (i := 2) C (by decide +kernel) rfl rfl ?_
              refine zs_isub (pc := 88) C (by decide +kernel) ?_
              refine zs_iconst (pc := 89) (n := 3) (x := 3) C (by decide +kernel) (by decide +kernel) ?_
              refine zs_jn (pJ := 111) (kJ := 0) (sJ := 0) (fun t23 => [(0, sR 3), (1, sR 1), (2, sI a1), (3, sI a2), (4, sI t15.1)]) (fun t23 => [sI t23]) (fun t23 => ?_) (fun J24 hJ24 => ?_)
              · refine zs_istore (pc := 111) (i := 5) (ls' := [(5, sI t23), (0, sR 3), (1, sR 1), (2, sI a1), (3, sI a2), (4, sI t15.1)]) C (by decide +kernel) (Nat.le_of_ble_eq_true rfl) rfl ?_
                refine zs_iinc (pc := 113) (i := 4) (n := 1) (y := w32 (t15.1 + 1)) (ls' := [(4, sI (w32 (t15.1 + 1))), (5, sI t23), (0, sR 3), (1, sR 1), (2, sI a1), (3, sI a2)]) C (by decide +kernel) rfl rfl (Nat.le_of_ble_eq_true rfl) rfl ?_
                refine zs_goto (pc := 116) (off := (-47)) (tgt := 69) C (by decide +kernel) (by decide) ?_
                exact zs_goj (hK16 (w32 (t15.1 + 1), t23)) ⟨rfl, rfl, rfl, rfl, rfl, rfl, trivial⟩
              · refine zs_icmp_ge (pc := 90) (off := 19) (tgt := 109) C (by decide +kernel) (by decide) ?_ ?_
                · refine zs_iload (pc := 109) (i := 5) C (by decide +kernel) rfl ?_
                  exact zs_goj (hJ24 t15.2) ⟨rfl, rfl, rfl, rfl, rfl, trivial⟩
                · refine zs_bipush (pc := 93) (n := 10) (x := 10) C (by decide +kernel) (by decide +kernel) ?_
                  refine zs_iload (pc := 95) (i := 5) C (by decide +kernel) rfl ?_
                  refine zs_imul (pc := 97) C (by decide +kernel) ?_
                  refine zs_aload_n (pc := 98) (k := 1) (i := 1) C (by decide +kernel) rfl rfl ?_
                  refine zs_iload (pc := 99) (i := 4) C (by decide +kernel) rfl ?_
                  refine zs_bald (pc := 101) (o := 1) (n := 900) C (by decide +kernel) rfl (fun hinx25 x25 => ?_)
                  refine zs_iadd (pc := 102) C (by decide +kernel) ?_
                  refine zs_bipush (pc := 103) (n := 48) (x := 48) C (by decide +kernel) (by decide +kernel) ?_
                  refine zs_isub (pc := 105) C (by decide +kernel) ?_
                  refine zs_goto (pc := 106) (off := 5) (tgt := 111) C (by decide +kernel) (by decide) ?_
                  exact zs_goj (hJ24 (w32 ((w32 ((w32 (10 * t15.2)) + x25)) - 48))) ⟨rfl, rfl, rfl, rfl, rfl, trivial⟩
    · refine zs_sub (ls' := [(0, sR 3), (1, sR 1), (2, sI a1), (3, sI a2), (4, sI x1)]) ⟨rfl, rfl, rfl, rfl, rfl, trivial⟩ ?_
      refine zs_lp (pc := 14) (fun (t26 : Int) => [(0, sR 3), (1, sR 1), (2, sI a1), (3, sI a2), (4, sI t26)]) (fun _ => []) (fun K27 hK27 t26 => ?_) BIG x1
      refine zs_iload (pc := 14) (i := 4) C (by decide +kernel) rfl ?_
      refine zs_iload_n (pc := 16) (k := 3) (i := 3) C (by decide +kernel) rfl rfl ?_
      refine zs_jn (pJ := 36) (kJ := 0) (sJ := 0) (fun t28 => [(0, sR 3), (1, sR 1), (2, sI a1), (4, sI t26)]) (fun t28 => []) (fun t28 => ?_) (fun J29 hJ29 => ?_)
      · refine zs_aload_n (pc := 36) (k := 0) (i := 0) C (by decide +kernel) rfl rfl ?_
        refine zs_aload_n (pc := 37) (k := 1) (i := 1) C (by decide +kernel) rfl rfl ?_
        refine zs_iload_n (pc := 38) (k := 2) (i := 2) C (by decide +kernel) rfl rfl ?_
        refine zs_iload (pc := 39) (i := 4) C (by decide +kernel) rfl ?_
        refine zs_csRi (pc := 41) (As := [sR 1, sI a1, sI t26]) (st := [sR 3]) C rfl (c_X8_wordOf l g a1 t26) ml_RX8_37 rfl rfl (Nat.le_of_ble_eq_true rfl) ⟨Nat.le_of_ble_eq_true rfl, Nat.le_of_ble_eq_true rfl⟩ ⟨Nat.le_of_ble_eq_true rfl, Nat.le_of_ble_eq_true rfl⟩ (by decide +kernel) (fun x30 => ?_)
        refine zs_iconst (pc := 44) (n := 0) (x := 0) C (by decide +kernel) (by decide +kernel) ?_
        refine zs_iload_n (pc := 45) (k := 2) (i := 2) C (by decide +kernel) rfl rfl ?_
        refine zs_cvVv (pc := 46) (As := [sI x30, sI 0, sI a1]) (st := []) C (fun _ _ _ => rfl) (c_X8_put l g x30 0 a1) ml_RX8_29 rfl rfl rfl rfl (Nat.le_of_ble_eq_true rfl) ⟨Nat.le_of_ble_eq_true rfl, Nat.le_of_ble_eq_true rfl⟩ ⟨Nat.le_of_ble_eq_true rfl, Nat.le_of_ble_eq_true rfl⟩ (by decide +kernel) ?_
        refine zs_goto (pc := 49) (off := 125) (tgt := 174) C (by decide +kernel) (by decide) ?_
        exact zs_goj (hJ5 t26) ⟨rfl, trivial⟩
      · refine zs_icmp_ge (pc := 17) (off := 19) (tgt := 36) C (by decide +kernel) (by decide) ?_ ?_
        · exact zs_goj (hJ29 ()) ⟨rfl, rfl, rfl, rfl, trivial⟩
        · refine zs_aload_n (pc := 20) (k := 1) (i := 1) C (by decide +kernel) rfl rfl ?_
          refine zs_iload (pc := 21) (i := 4) C (by decide +kernel) rfl ?_
          refine zs_bald (pc := 23) (o := 1) (n := 900) C (by decide +kernel) rfl (fun hinx31 x31 => ?_)
          refine zs_csRi (pc := 24) (As := [sI x31]) (st := []) C rfl (c_X8_isLetter l g x31) ml_RX8_33 rfl rfl (Nat.le_of_ble_eq_true rfl) ⟨Nat.le_of_ble_eq_true rfl, Nat.le_of_ble_eq_true rfl⟩ ⟨Nat.le_of_ble_eq_true rfl, Nat.le_of_ble_eq_true rfl⟩ (by decide +kernel) (fun x32 => ?_)
          refine zs_if_eq (pc := 27) (off := 9) (tgt := 36) C (by decide +kernel) (by decide) ?_ ?_
          · exact zs_goj (hJ29 ()) ⟨rfl, rfl, rfl, rfl, trivial⟩
          · refine zs_iinc (pc := 30) (i := 4) (n := 1) (y := w32 (t26 + 1)) (ls' := [(4, sI (w32 (t26 + 1))), (0, sR 3), (1, sR 1), (2, sI a1), (3, sI a2)]) C (by decide +kernel) rfl rfl (Nat.le_of_ble_eq_true rfl) rfl ?_
            refine zs_goto (pc := 33) (off := (-19)) (tgt := 14) C (by decide +kernel) (by decide) ?_
            exact zs_goj (hK27 (w32 (t26 + 1))) ⟨rfl, rfl, rfl, rfl, rfl, trivial⟩
set_option maxRecDepth 20000 in
theorem c_X8_cut (l : Launch) (g : GC) (a1 : Int) : ConV l g yX8_cut cX8_cut 5 (rmd 9 0 0) [sR 3, sR 1, sI a1] (fun mm => fX8_cut a1 mm) := by
  refine zs_ofV (by decide +kernel) (Nat.le_of_ble_eq_true rfl) ?_
  intro p e s m args below meth c C hr
  replace C : Bd g RX8 cX8_cut 5 p s m args meth c := C
  unfold fX8_cut
  refine zs_aload_n (pc := 0) (k := 0) (i := 0) C (by decide +kernel) rfl rfl ?_
  refine zs_iconst (pc := 1) (n := 0) (x := 0) C (by decide +kernel) (by decide +kernel) ?_
  refine zs_putI (pc := 2) (i := 21) (ci := 8) (k := 3) C (fun _ _ _ => rfl) (by decide +kernel) fl_RX8_21 fw_8_3 rfl rfl ?_
  refine zs_iconst (pc := 5) (n := 0) (x := 0) C (by decide +kernel) (by decide +kernel) ?_
  refine zs_istore_n (pc := 6) (k := 3) (i := 3) (ls' := [(3, sI 0), (0, sR 3), (1, sR 1), (2, sI a1)]) C (by decide +kernel) rfl (Nat.le_of_ble_eq_true rfl) rfl ?_
  refine zs_iconst (pc := 7) (n := 0) (x := 0) C (by decide +kernel) (by decide +kernel) ?_
  refine zs_istore (pc := 8) (i := 4) (ls' := [(4, sI 0), (3, sI 0), (0, sR 3), (1, sR 1), (2, sI a1)]) C (by decide +kernel) (Nat.le_of_ble_eq_true rfl) rfl ?_
  refine zs_sub (ls' := [(0, sR 3), (1, sR 1), (2, sI a1), (3, sI 0), (4, sI 0)]) ⟨rfl, rfl, rfl, rfl, rfl, trivial⟩ ?_
  refine zs_lp (pc := 10) (fun (t1 : Int × Int) => [(0, sR 3), (1, sR 1), (2, sI a1), (3, sI t1.1), (4, sI t1.2)]) (fun _ => []) (fun K2 hK2 t1 => ?_) BIG (0, 0)
  refine zs_iload (pc := 10) (i := 4) C (by decide +kernel) rfl ?_
  refine zs_iload_n (pc := 12) (k := 2) (i := 2) C (by decide +kernel) rfl rfl ?_
  refine zs_icmp_ge (pc := 13) (off := 42) (tgt := 55) C (by decide +kernel) (by decide) ?_ ?_
  · refine zs_aload_n (pc := 55) (k := 0) (i := 0) C (by decide +kernel) rfl rfl ?_
    refine zs_iconst (pc := 56) (n := 0) (x := 0) C (by decide +kernel) (by decide +kernel) ?_
    refine zs_iconst (pc := 57) (n := 0) (x := 0) C (by decide +kernel) (by decide +kernel) ?_
    refine zs_iload_n (pc := 58) (k := 2) (i := 2) C (by decide +kernel) rfl rfl ?_
    refine zs_cvVv (pc := 59) (As := [sI 0, sI 0, sI a1]) (st := []) C (fun _ _ _ => rfl) (c_X8_put l g 0 0 a1) ml_RX8_29 rfl rfl rfl rfl (Nat.le_of_ble_eq_true rfl) ⟨Nat.le_of_ble_eq_true rfl, Nat.le_of_ble_eq_true rfl⟩ ⟨Nat.le_of_ble_eq_true rfl, Nat.le_of_ble_eq_true rfl⟩ (by decide +kernel) ?_
    exact zs_retVv (pc := 62) C hr ⟨Nat.le_of_ble_eq_true rfl, Nat.le_of_ble_eq_true rfl⟩ (by decide +kernel)
  · refine zs_iload (pc := 16) (i := 4) C (by decide +kernel) rfl ?_
    refine zs_iload_n (pc := 18) (k := 3) (i := 3) C (by decide +kernel) rfl rfl ?_
    refine zs_jn (pJ := 49) (kJ := 0) (sJ := 0) (fun t3 => [(0, sR 3), (1, sR 1), (2, sI a1), (3, sI t3), (4, sI t1.2)]) (fun t3 => []) (fun t3 => ?_) (fun J4 hJ4 => ?_)
    · refine zs_iinc (pc := 49) (i := 4) (n := 1) (y := w32 (t1.2 + 1)) (ls' := [(4, sI (w32 (t1.2 + 1))), (0, sR 3), (1, sR 1), (2, sI a1), (3, sI t3)]) C (by decide +kernel) rfl rfl (Nat.le_of_ble_eq_true rfl) rfl ?_
      refine zs_goto (pc := 52) (off := (-42)) (tgt := 10) C (by decide +kernel) (by decide) ?_
      exact zs_goj (hK2 (t3, w32 (t1.2 + 1))) ⟨rfl, rfl, rfl, rfl, rfl, trivial⟩
    · refine zs_icmp_lt (pc := 19) (off := 30) (tgt := 49) C (by decide +kernel) (by decide) ?_ ?_
      · exact zs_goj (hJ4 t1.1) ⟨rfl, rfl, rfl, rfl, rfl, trivial⟩
      · refine zs_aload_n (pc := 22) (k := 1) (i := 1) C (by decide +kernel) rfl rfl ?_
        refine zs_iload (pc := 23) (i := 4) C (by decide +kernel) rfl ?_
        refine zs_bald (pc := 25) (o := 1) (n := 900) C (by decide +kernel) rfl (fun hinx5 x5 => ?_)
        refine zs_bipush (pc := 26) (n := 32) (x := 32) C (by decide +kernel) (by decide +kernel) ?_
        refine zs_icmp_eq (pc := 28) (off := 21) (tgt := 49) C (by decide +kernel) (by decide) ?_ ?_
        · exact zs_goj (hJ4 t1.1) ⟨rfl, rfl, rfl, rfl, rfl, trivial⟩
        · refine zs_aload_n (pc := 31) (k := 1) (i := 1) C (by decide +kernel) rfl rfl ?_
          refine zs_iload (pc := 32) (i := 4) C (by decide +kernel) rfl ?_
          refine zs_bald (pc := 34) (o := 1) (n := 900) C (by decide +kernel) rfl (fun hinx6 x6 => ?_)
          refine zs_bipush (pc := 35) (n := 10) (x := 10) C (by decide +kernel) (by decide +kernel) ?_
          refine zs_icmp_eq (pc := 37) (off := 12) (tgt := 49) C (by decide +kernel) (by decide) ?_ ?_
          · exact zs_goj (hJ4 t1.1) ⟨rfl, rfl, rfl, rfl, rfl, trivial⟩
          · refine zs_aload_n (pc := 40) (k := 0) (i := 0) C (by decide +kernel) rfl rfl ?_
            refine zs_aload_n (pc := 41) (k := 1) (i := 1) C (by decide +kernel) rfl rfl ?_
            refine zs_iload (pc := 42) (i := 4) C (by decide +kernel) rfl ?_
            refine zs_iload_n (pc := 44) (k := 2) (i := 2) C (by decide +kernel) rfl rfl ?_
            refine zs_cvWi (pc := 45) (As := [sR 1, sI t1.2, sI a1]) (st := []) C (fun _ _ _ => rfl) rfl (c_X8_cutOne l g t1.2 a1) ml_RX8_25 rfl rfl rfl rfl (Nat.le_of_ble_eq_true rfl) ⟨Nat.le_of_ble_eq_true rfl, Nat.le_of_ble_eq_true rfl⟩ ⟨Nat.le_of_ble_eq_true rfl, Nat.le_of_ble_eq_true rfl⟩ (by decide +kernel) (fun x7 => ?_)
            refine zs_istore_n (pc := 48) (k := 3) (i := 3) (ls' := [(3, sI x7), (0, sR 3), (1, sR 1), (2, sI a1), (4, sI t1.2)]) C (by decide +kernel) rfl (Nat.le_of_ble_eq_true rfl) rfl ?_
            exact zs_goj (hJ4 x7) ⟨rfl, rfl, rfl, rfl, rfl, trivial⟩
set_option maxRecDepth 20000 in
theorem c_X4_wipe (l : Launch) (g : GC) (o : Nat) (h0 : layL[o]? = some (.inl 4)) : ConV l g yX4_wipe cX4_wipe 1 (rmd 1 0 0) [sR o] (fun mm => fX4_wipe o mm) := by
  refine zs_ofV (by decide +kernel) (Nat.le_of_ble_eq_true rfl) ?_
  intro p e s m args below meth c C hr
  replace C : Bd g RX4 cX4_wipe 1 p s m args meth c := C
  unfold fX4_wipe
  refine zs_aload_n (pc := 0) (k := 0) (i := 0) C (by decide +kernel) rfl rfl ?_
  refine zs_iconst (pc := 1) (n := 0) (x := 0) C (by decide +kernel) (by decide +kernel) ?_
  refine zs_putZ (pc := 2) (i := 25) (ci := 4) (k := 4) C (fun _ _ _ => rfl) (by decide +kernel) fl_RX4_25 fw_4_4 h0 rfl ?_
  refine zs_aload_n (pc := 5) (k := 0) (i := 0) C (by decide +kernel) rfl rfl ?_
  refine zs_iconst (pc := 6) (n := 0) (x := 0) C (by decide +kernel) (by decide +kernel) ?_
  refine zs_putI (pc := 7) (i := 15) (ci := 4) (k := 1) C (fun _ _ _ => rfl) (by decide +kernel) fl_RX4_15 fw_4_1 h0 rfl ?_
  refine zs_aload_n (pc := 10) (k := 0) (i := 0) C (by decide +kernel) rfl rfl ?_
  refine zs_iconst (pc := 11) (n := 0) (x := 0) C (by decide +kernel) (by decide +kernel) ?_
  refine zs_putZ (pc := 12) (i := 29) (ci := 4) (k := 5) C (fun _ _ _ => rfl) (by decide +kernel) fl_RX4_29 fw_4_5 h0 rfl ?_
  refine zs_aload_n (pc := 15) (k := 0) (i := 0) C (by decide +kernel) rfl rfl ?_
  refine zs_iconst (pc := 16) (n := 0) (x := 0) C (by decide +kernel) (by decide +kernel) ?_
  refine zs_putZ (pc := 17) (i := 32) (ci := 4) (k := 6) C (fun _ _ _ => rfl) (by decide +kernel) fl_RX4_32 fw_4_6 h0 rfl ?_
  exact zs_retVv (pc := 20) C hr ⟨Nat.le_of_ble_eq_true rfl, Nat.le_of_ble_eq_true rfl⟩ (by decide +kernel)
set_option maxRecDepth 20000 in
theorem c_X3_wipe (l : Launch) (g : GC)  : ConV l g yX3_wipe cX3_wipe 1 (rmd 2 0 0) [sR 7] (fun mm => fX3_wipe  mm) := by
  refine zs_ofV (by decide +kernel) (Nat.le_of_ble_eq_true rfl) ?_
  intro p e s m args below meth c C hr
  replace C : Bd g RX3 cX3_wipe 1 p s m args meth c := C
  unfold fX3_wipe
  refine zs_aload_n (pc := 0) (k := 0) (i := 0) C (by decide +kernel) rfl rfl ?_
  refine zs_iconst (pc := 1) (n := 0) (x := 0) C (by decide +kernel) (by decide +kernel) ?_
  refine zs_putI (pc := 2) (i := 9) (ci := 3) (k := 0) C (fun _ _ _ => rfl) (by decide +kernel) fl_RX3_9 fw_3_0 rfl rfl ?_
  refine zs_aload_n (pc := 5) (k := 0) (i := 0) C (by decide +kernel) rfl rfl ?_
  refine zs_iconst (pc := 6) (n := 0) (x := 0) C (by decide +kernel) (by decide +kernel) ?_
  refine zs_putI (pc := 7) (i := 15) (ci := 3) (k := 1) C (fun _ _ _ => rfl) (by decide +kernel) fl_RX3_15 fw_3_1 rfl rfl ?_
  refine zs_aload_n (pc := 10) (k := 0) (i := 0) C (by decide +kernel) rfl rfl ?_
  refine zs_iconst (pc := 11) (n := 0) (x := 0) C (by decide +kernel) (by decide +kernel) ?_
  refine zs_putI (pc := 12) (i := 18) (ci := 3) (k := 2) C (fun _ _ _ => rfl) (by decide +kernel) fl_RX3_18 fw_3_2 rfl rfl ?_
  refine zs_aload_n (pc := 15) (k := 0) (i := 0) C (by decide +kernel) rfl rfl ?_
  refine zs_iconst (pc := 16) (n := 0) (x := 0) C (by decide +kernel) (by decide +kernel) ?_
  refine zs_putI (pc := 17) (i := 21) (ci := 3) (k := 3) C (fun _ _ _ => rfl) (by decide +kernel) fl_RX3_21 fw_3_3 rfl rfl ?_
  refine zs_aload_n (pc := 20) (k := 0) (i := 0) C (by decide +kernel) rfl rfl ?_
  refine zs_iconst (pc := 21) (n := 0) (x := 0) C (by decide +kernel) (by decide +kernel) ?_
  refine zs_putI (pc := 22) (i := 24) (ci := 3) (k := 4) C (fun _ _ _ => rfl) (by decide +kernel) fl_RX3_24 fw_3_4 rfl rfl ?_
  refine zs_aload_n (pc := 25) (k := 0) (i := 0) C (by decide +kernel) rfl rfl ?_
  refine zs_iconst (pc := 26) (n := 0) (x := 0) C (by decide +kernel) (by decide +kernel) ?_
  refine zs_putI (pc := 27) (i := 27) (ci := 3) (k := 5) C (fun _ _ _ => rfl) (by decide +kernel) fl_RX3_27 fw_3_5 rfl rfl ?_
  refine zs_aload_n (pc := 30) (k := 0) (i := 0) C (by decide +kernel) rfl rfl ?_
  refine zs_getR (o' := 10) (pc := 31) (i := 40) (ci := 3) (k := 8) C (by decide +kernel) fl_RX3_40 rfl rfl rfl ?_
  refine zs_cvVv (pc := 34) (As := []) (st := []) C (fun _ _ _ => rfl) (c_X4_wipe l g 10 rfl) ml_RX3_47 rfl rfl rfl rfl (Nat.le_of_ble_eq_true rfl) ⟨Nat.le_of_ble_eq_true rfl, Nat.le_of_ble_eq_true rfl⟩ ⟨Nat.le_of_ble_eq_true rfl, Nat.le_of_ble_eq_true rfl⟩ (by decide +kernel) ?_
  refine zs_aload_n (pc := 37) (k := 0) (i := 0) C (by decide +kernel) rfl rfl ?_
  refine zs_getR (o' := 12) (pc := 38) (i := 44) (ci := 3) (k := 9) C (by decide +kernel) fl_RX3_44 rfl rfl rfl ?_
  refine zs_cvVv (pc := 41) (As := []) (st := []) C (fun _ _ _ => rfl) (c_X4_wipe l g 12 rfl) ml_RX3_47 rfl rfl rfl rfl (Nat.le_of_ble_eq_true rfl) ⟨Nat.le_of_ble_eq_true rfl, Nat.le_of_ble_eq_true rfl⟩ ⟨Nat.le_of_ble_eq_true rfl, Nat.le_of_ble_eq_true rfl⟩ (by decide +kernel) ?_
  exact zs_retVv (pc := 44) C hr ⟨Nat.le_of_ble_eq_true rfl, Nat.le_of_ble_eq_true rfl⟩ (by decide +kernel)
set_option maxRecDepth 20000 in
theorem c_J7_fill_53178 (l : Launch) (g : GC) (a0 : Nat) (n0 : Nat) (a1 : Int) (h0_ : layL[a0]? = some (.inr (0, n0))) : ConV l g yJ7_fill_53178 cJ7_fill_53178 4 (rmd 1 0 0) [sR a0, sI a1] (fun mm => fJ7_fill_53178 a0 n0 a1 mm) := by
  refine zs_ofV (by decide +kernel) (Nat.le_of_ble_eq_true rfl) ?_
  intro p e s m args below meth c C hr
  replace C : Bd g RJ7 cJ7_fill_53178 4 p s m args meth c := C
  unfold fJ7_fill_53178
  refine zs_iconst (pc := 0) (n := 0) (x := 0) C (by decide +kernel) (by decide +kernel) ?_
  refine zs_istore_n (pc := 1) (k := 2) (i := 2) (ls' := [(2, sI 0), (0, sR a0), (1, sI a1)]) C (by decide +kernel) rfl (Nat.le_of_ble_eq_true rfl) rfl ?_
  refine zs_aload_n (pc := 2) (k := 0) (i := 0) C (by decide +kernel) rfl rfl ?_
  refine zs_alen (pc := 3) (o := a0) (n := n0) (x := ((n0 : Nat) : Int)) C (by decide +kernel) h0_ (by decide) (ly_len h0_) ?_
  refine zs_let (fun x1 => ?_)
  refine zs_istore_n (pc := 4) (k := 3) (i := 3) (ls' := [(3, sI x1), (2, sI 0), (0, sR a0), (1, sI a1)]) C (by decide +kernel) rfl (Nat.le_of_ble_eq_true rfl) rfl ?_
  refine zs_sub (ls' := [(0, sR a0), (1, sI a1), (2, sI 0), (3, sI x1)]) ⟨rfl, rfl, rfl, rfl, trivial⟩ ?_
  refine zs_lp (pc := 5) (fun (t2 : Int) => [(0, sR a0), (1, sI a1), (2, sI t2), (3, sI x1)]) (fun _ => []) (fun K3 hK3 t2 => ?_) BIG 0
  refine zs_iload_n (pc := 5) (k := 2) (i := 2) C (by decide +kernel) rfl rfl ?_
  refine zs_iload_n (pc := 6) (k := 3) (i := 3) C (by decide +kernel) rfl rfl ?_
  refine zs_icmp_ge (pc := 7) (off := 13) (tgt := 20) C (by decide +kernel) (by decide) ?_ ?_
  · exact zs_retVv (pc := 20) C hr ⟨Nat.le_of_ble_eq_true rfl, Nat.le_of_ble_eq_true rfl⟩ (by decide +kernel)
  · refine zs_aload_n (pc := 10) (k := 0) (i := 0) C (by decide +kernel) rfl rfl ?_
    refine zs_iload_n (pc := 11) (k := 2) (i := 2) C (by decide +kernel) rfl rfl ?_
    refine zs_iload_n (pc := 12) (k := 1) (i := 1) C (by decide +kernel) rfl rfl ?_
    refine zs_iast (pc := 13) (o := a0) (n := n0) C (fun _ _ _ => rfl) (by decide +kernel) h0_ ?_
    refine zs_iinc (pc := 14) (i := 2) (n := 1) (y := w32 (t2 + 1)) (ls' := [(2, sI (w32 (t2 + 1))), (0, sR a0), (1, sI a1), (3, sI x1)]) C (by decide +kernel) rfl rfl (Nat.le_of_ble_eq_true rfl) rfl ?_
    refine zs_goto (pc := 17) (off := (-12)) (tgt := 5) C (by decide +kernel) (by decide) ?_
    exact zs_goj (hK3 (w32 (t2 + 1))) ⟨rfl, rfl, rfl, rfl, trivial⟩
set_option maxRecDepth 20000 in
theorem c_X5_wipe (l : Launch) (g : GC)  : ConV l g yX5_wipe cX5_wipe 1 (rmd 2 0 0) [sR 14] (fun mm => fX5_wipe  mm) := by
  refine zs_ofV (by decide +kernel) (Nat.le_of_ble_eq_true rfl) ?_
  intro p e s m args below meth c C hr
  replace C : Bd g RX5 cX5_wipe 1 p s m args meth c := C
  unfold fX5_wipe
  refine zs_aload_n (pc := 0) (k := 0) (i := 0) C (by decide +kernel) rfl rfl ?_
  refine zs_iconst (pc := 1) (n := 0) (x := 0) C (by decide +kernel) (by decide +kernel) ?_
  refine zs_putI (pc := 2) (i := 9) (ci := 5) (k := 0) C (fun _ _ _ => rfl) (by decide +kernel) fl_RX5_9 fw_5_0 rfl rfl ?_
  refine zs_aload_n (pc := 5) (k := 0) (i := 0) C (by decide +kernel) rfl rfl ?_
  refine zs_iconst (pc := 6) (n := 0) (x := 0) C (by decide +kernel) (by decide +kernel) ?_
  refine zs_putI (pc := 7) (i := 15) (ci := 5) (k := 1) C (fun _ _ _ => rfl) (by decide +kernel) fl_RX5_15 fw_5_1 rfl rfl ?_
  refine zs_aload_n (pc := 10) (k := 0) (i := 0) C (by decide +kernel) rfl rfl ?_
  refine zs_iconst (pc := 11) (n := 0) (x := 0) C (by decide +kernel) (by decide +kernel) ?_
  refine zs_putI (pc := 12) (i := 18) (ci := 5) (k := 2) C (fun _ _ _ => rfl) (by decide +kernel) fl_RX5_18 fw_5_2 rfl rfl ?_
  refine zs_aload_n (pc := 15) (k := 0) (i := 0) C (by decide +kernel) rfl rfl ?_
  refine zs_iconst (pc := 16) (n := 0) (x := 0) C (by decide +kernel) (by decide +kernel) ?_
  refine zs_putI (pc := 17) (i := 21) (ci := 5) (k := 3) C (fun _ _ _ => rfl) (by decide +kernel) fl_RX5_21 fw_5_3 rfl rfl ?_
  refine zs_aload_n (pc := 20) (k := 0) (i := 0) C (by decide +kernel) rfl rfl ?_
  refine zs_getR (o' := 15) (pc := 21) (i := 24) (ci := 5) (k := 4) C (by decide +kernel) fl_RX5_24 rfl rfl rfl ?_
  refine zs_iconst (pc := 24) (n := 0) (x := 0) C (by decide +kernel) (by decide +kernel) ?_
  refine zs_csVv (pc := 25) (As := [sR 15, sI 0]) (st := []) C (fun _ _ _ => rfl) (c_J7_fill_53178 l g 15 4 0 rfl) ml_RX5_34 rfl rfl (Nat.le_of_ble_eq_true rfl) ⟨Nat.le_of_ble_eq_true rfl, Nat.le_of_ble_eq_true rfl⟩ ⟨Nat.le_of_ble_eq_true rfl, Nat.le_of_ble_eq_true rfl⟩ (by decide +kernel) ?_
  refine zs_aload_n (pc := 28) (k := 0) (i := 0) C (by decide +kernel) rfl rfl ?_
  refine zs_getR (o' := 16) (pc := 29) (i := 28) (ci := 5) (k := 5) C (by decide +kernel) fl_RX5_28 rfl rfl rfl ?_
  refine zs_iconst (pc := 32) (n := 0) (x := 0) C (by decide +kernel) (by decide +kernel) ?_
  refine zs_csVv (pc := 33) (As := [sR 16, sI 0]) (st := []) C (fun _ _ _ => rfl) (c_J7_fill_53178 l g 16 4 0 rfl) ml_RX5_34 rfl rfl (Nat.le_of_ble_eq_true rfl) ⟨Nat.le_of_ble_eq_true rfl, Nat.le_of_ble_eq_true rfl⟩ ⟨Nat.le_of_ble_eq_true rfl, Nat.le_of_ble_eq_true rfl⟩ (by decide +kernel) ?_
  refine zs_aload_n (pc := 36) (k := 0) (i := 0) C (by decide +kernel) rfl rfl ?_
  refine zs_getR (o' := 17) (pc := 37) (i := 31) (ci := 5) (k := 6) C (by decide +kernel) fl_RX5_31 rfl rfl rfl ?_
  refine zs_iconst (pc := 40) (n := 0) (x := 0) C (by decide +kernel) (by decide +kernel) ?_
  refine zs_csVv (pc := 41) (As := [sR 17, sI 0]) (st := []) C (fun _ _ _ => rfl) (c_J7_fill_53178 l g 17 4 0 rfl) ml_RX5_34 rfl rfl (Nat.le_of_ble_eq_true rfl) ⟨Nat.le_of_ble_eq_true rfl, Nat.le_of_ble_eq_true rfl⟩ ⟨Nat.le_of_ble_eq_true rfl, Nat.le_of_ble_eq_true rfl⟩ (by decide +kernel) ?_
  exact zs_retVv (pc := 44) C hr ⟨Nat.le_of_ble_eq_true rfl, Nat.le_of_ble_eq_true rfl⟩ (by decide +kernel)
set_option maxRecDepth 20000 in
theorem c_X6_token (l : Launch) (g : GC)  : ConR l g yX6_token cX6_token 1 (some .int) (rmd 1 0 0) [sR 2] (fun mm => fX6_token  mm) := by
  refine zs_ofR (by decide +kernel) (Nat.le_of_ble_eq_true rfl) ?_
  intro p e s m args below meth c C hr
  replace C : Bd g RX6 cX6_token 1 p s m args meth c := C
  unfold fX6_token
  refine zs_aload_n (pc := 0) (k := 0) (i := 0) C (by decide +kernel) rfl rfl ?_
  refine zs_getI (pc := 1) (i := 32) (ci := 6) (k := 3) C (by decide +kernel) fl_RX6_32 rfl rfl (fun x1 => ?_)
  refine zs_jn (pJ := 33) (kJ := 0) (sJ := 0) (fun t2 => []) (fun t2 => [sI t2]) (fun t2 => ?_) (fun J3 hJ3 => ?_)
  · exact zs_retRi (pc := 33) C hr ⟨Nat.le_of_ble_eq_true rfl, Nat.le_of_ble_eq_true rfl⟩ (by decide +kernel)
  · refine zs_jn (pJ := 17) (kJ := 0) (sJ := 0) (fun t4 => []) (fun t4 => []) (fun t4 => ?_) (fun J5 hJ5 => ?_)
    · refine zs_iconst (pc := 17) (n := 0) (x := 0) C (by decide +kernel) (by decide +kernel) ?_
      refine zs_goto (pc := 18) (off := 15) (tgt := 33) C (by decide +kernel) (by decide) ?_
      exact zs_goj (hJ3 0) trivial
    · refine zs_if_ne (pc := 4) (off := 13) (tgt := 17) C (by decide +kernel) (by decide) ?_ ?_
      · exact zs_goj (hJ5 ()) trivial
      · refine zs_aload_n (pc := 7) (k := 0) (i := 0) C (by decide +kernel) rfl rfl ?_
        refine zs_getI (pc := 8) (i := 39) (ci := 6) (k := 5) C (by decide +kernel) fl_RX6_39 rfl rfl (fun x6 => ?_)
        refine zs_sipush (pc := 11) (n := 900) (x := 900) C (by decide +kernel) (by decide +kernel) ?_
        refine zs_icmp_le (pc := 14) (off := 7) (tgt := 21) C (by decide +kernel) (by decide) ?_ ?_
        · refine zs_aload_n (pc := 21) (k := 0) (i := 0) C (by decide +kernel) rfl rfl ?_
          refine zs_getR (o' := 3) (pc := 22) (i := 12) (ci := 6) (k := 0) C (by decide +kernel) fl_RX6_12 rfl rfl rfl ?_
          refine zs_getR (o' := 4) (pc := 25) (i := 79) (ci := 8) (k := 0) C (by decide +kernel) fl_RX6_79 rfl rfl rfl ?_
          refine zs_aload_n (pc := 28) (k := 0) (i := 0) C (by decide +kernel) rfl rfl ?_
          refine zs_getI (pc := 29) (i := 39) (ci := 6) (k := 5) C (by decide +kernel) fl_RX6_39 rfl rfl (fun x7 => ?_)
          refine zs_iald (pc := 32) (o := 4) (n := 901) C (by decide +kernel) rfl (fun hinx8 x8 => ?_)
          exact zs_goj (hJ3 x8) trivial
        · exact zs_goj (hJ5 ()) trivial
set_option maxRecDepth 20000 in
theorem c_X6_refuse (l : Launch) (g : GC) (a0 : Int) : ConV l g yX6_refuse cX6_refuse 2 (rmd 1 0 0) [sR 2, sI a0] (fun mm => fX6_refuse a0 mm) := by
  refine zs_ofV (by decide +kernel) (Nat.le_of_ble_eq_true rfl) ?_
  intro p e s m args below meth c C hr
  replace C : Bd g RX6 cX6_refuse 2 p s m args meth c := C
  unfold fX6_refuse
  refine zs_aload_n (pc := 0) (k := 0) (i := 0) C (by decide +kernel) rfl rfl ?_
  refine zs_getI (pc := 1) (i := 32) (ci := 6) (k := 3) C (by decide +kernel) fl_RX6_32 rfl rfl (fun x1 => ?_)
  refine zs_jn (pJ := 58) (kJ := 0) (sJ := 0) (fun t2 => []) (fun t2 => []) (fun t2 => ?_) (fun J3 hJ3 => ?_)
  · exact zs_retVv (pc := 58) C hr ⟨Nat.le_of_ble_eq_true rfl, Nat.le_of_ble_eq_true rfl⟩ (by decide +kernel)
  · refine zs_if_ne (pc := 4) (off := 54) (tgt := 58) C (by decide +kernel) (by decide) ?_ ?_
    · exact zs_goj (hJ3 ()) trivial
    · refine zs_aload_n (pc := 7) (k := 0) (i := 0) C (by decide +kernel) rfl rfl ?_
      refine zs_getI (pc := 8) (i := 39) (ci := 6) (k := 5) C (by decide +kernel) fl_RX6_39 rfl rfl (fun x4 => ?_)
      refine zs_sipush (pc := 11) (n := 900) (x := 900) C (by decide +kernel) (by decide +kernel) ?_
      refine zs_icmp_gt (pc := 14) (off := 44) (tgt := 58) C (by decide +kernel) (by decide) ?_ ?_
      · exact zs_goj (hJ3 ()) trivial
      · refine zs_aload_n (pc := 17) (k := 0) (i := 0) C (by decide +kernel) rfl rfl ?_
        refine zs_aload_n (pc := 18) (k := 0) (i := 0) C (by decide +kernel) rfl rfl ?_
        refine zs_getR (o' := 3) (pc := 19) (i := 12) (ci := 6) (k := 0) C (by decide +kernel) fl_RX6_12 rfl rfl rfl ?_
        refine zs_getR (o' := 4) (pc := 22) (i := 79) (ci := 8) (k := 0) C (by decide +kernel) fl_RX6_79 rfl rfl rfl ?_
        refine zs_aload_n (pc := 25) (k := 0) (i := 0) C (by decide +kernel) rfl rfl ?_
        refine zs_getI (pc := 26) (i := 39) (ci := 6) (k := 5) C (by decide +kernel) fl_RX6_39 rfl rfl (fun x5 => ?_)
        refine zs_iald (pc := 29) (o := 4) (n := 901) C (by decide +kernel) rfl (fun hinx6 x6 => ?_)
        refine zs_iconst (pc := 30) (n := 2) (x := 2) C (by decide +kernel) (by decide +kernel) ?_
        refine zs_jn (pJ := 39) (kJ := 0) (sJ := 0) (fun t7 => [(0, sR 2)]) (fun t7 => [sI t7, sR 2]) (fun t7 => ?_) (fun J8 hJ8 => ?_)
        · refine zs_putI (pc := 39) (i := 32) (ci := 6) (k := 3) C (fun _ _ _ => rfl) (by decide +kernel) fl_RX6_32 fw_6_3 rfl rfl ?_
          refine zs_aload_n (pc := 42) (k := 0) (i := 0) C (by decide +kernel) rfl rfl ?_
          refine zs_aload_n (pc := 43) (k := 0) (i := 0) C (by decide +kernel) rfl rfl ?_
          refine zs_getR (o' := 3) (pc := 44) (i := 12) (ci := 6) (k := 0) C (by decide +kernel) fl_RX6_12 rfl rfl rfl ?_
          refine zs_getR (o' := 6) (pc := 47) (i := 83) (ci := 8) (k := 2) C (by decide +kernel) fl_RX6_83 rfl rfl rfl ?_
          refine zs_aload_n (pc := 50) (k := 0) (i := 0) C (by decide +kernel) rfl rfl ?_
          refine zs_getI (pc := 51) (i := 39) (ci := 6) (k := 5) C (by decide +kernel) fl_RX6_39 rfl rfl (fun x9 => ?_)
          refine zs_iald (pc := 54) (o := 6) (n := 901) C (by decide +kernel) rfl (fun hinx10 x10 => ?_)
          refine zs_putI (pc := 55) (i := 36) (ci := 6) (k := 4) C (fun _ _ _ => rfl) (by decide +kernel) fl_RX6_36 fw_6_4 rfl rfl ?_
          exact zs_goj (hJ3 ()) trivial
        · refine zs_icmp_ne (pc := 31) (off := 7) (tgt := 38) C (by decide +kernel) (by decide) ?_ ?_
          · refine zs_iload_n (pc := 38) (k := 1) (i := 1) C (by decide +kernel) rfl rfl ?_
            exact zs_goj (hJ8 a0) ⟨rfl, trivial⟩
          · refine zs_iconst (pc := 34) (n := 1) (x := 1) C (by decide +kernel) (by decide +kernel) ?_
            refine zs_goto (pc := 35) (off := 4) (tgt := 39) C (by decide +kernel) (by decide) ?_
            exact zs_goj (hJ8 1) ⟨rfl, trivial⟩
set_option maxRecDepth 20000 in
theorem c_X6_take (l : Launch) (g : GC) (a0 : Int) : ConV l g yX6_take cX6_take 2 (rmd 2 0 0) [sR 2, sI a0] (fun mm => fX6_take a0 mm) := by
  refine zs_ofV (by decide +kernel) (Nat.le_of_ble_eq_true rfl) ?_
  intro p e s m args below meth c C hr
  replace C : Bd g RX6 cX6_take 2 p s m args meth c := C
  unfold fX6_take
  refine zs_aload_n (pc := 0) (k := 0) (i := 0) C (by decide +kernel) rfl rfl ?_
  refine zs_cvRi (pc := 1) (As := []) (st := []) C rfl (c_X6_token l g ) ml_RX6_66 rfl rfl rfl rfl (Nat.le_of_ble_eq_true rfl) ⟨Nat.le_of_ble_eq_true rfl, Nat.le_of_ble_eq_true rfl⟩ ⟨Nat.le_of_ble_eq_true rfl, Nat.le_of_ble_eq_true rfl⟩ (by decide +kernel) (fun x1 => ?_)
  refine zs_iload_n (pc := 4) (k := 1) (i := 1) C (by decide +kernel) rfl rfl ?_
  refine zs_jn (pJ := 26) (kJ := 0) (sJ := 0) (fun t2 => []) (fun t2 => []) (fun t2 => ?_) (fun J3 hJ3 => ?_)
  · exact zs_retVv (pc := 26) C hr ⟨Nat.le_of_ble_eq_true rfl, Nat.le_of_ble_eq_true rfl⟩ (by decide +kernel)
  · refine zs_icmp_ne (pc := 5) (off := 16) (tgt := 21) C (by decide +kernel) (by decide) ?_ ?_
    · refine zs_aload_n (pc := 21) (k := 0) (i := 0) C (by decide +kernel) rfl rfl ?_
      refine zs_iconst (pc := 22) (n := 2) (x := 2) C (by decide +kernel) (by decide +kernel) ?_
      refine zs_cvVv (pc := 23) (As := [sI 2]) (st := []) C (fun _ _ _ => rfl) (c_X6_refuse l g 2) ml_RX6_86 rfl rfl rfl rfl (Nat.le_of_ble_eq_true rfl) ⟨Nat.le_of_ble_eq_true rfl, Nat.le_of_ble_eq_true rfl⟩ ⟨Nat.le_of_ble_eq_true rfl, Nat.le_of_ble_eq_true rfl⟩ (by decide +kernel) ?_
      exact zs_goj (hJ3 ()) trivial
    · refine zs_aload_n (pc := 8) (k := 0) (i := 0) C (by decide +kernel) rfl rfl ?_
      refine zs_dup (pc := 9) C rfl (by decide +kernel) ?_
      refine zs_getI (pc := 10) (i := 39) (ci := 6) (k := 5) C (by decide +kernel) fl_RX6_39 rfl rfl (fun x4 => ?_)
      refine zs_iconst (pc := 13) (n := 1) (x := 1) C (by decide +kernel) (by decide +kernel) ?_
      refine zs_iadd (pc := 14) C (by decide +kernel) ?_
      refine zs_putI (pc := 15) (i := 39) (ci := 6) (k := 5) C (fun _ _ _ => rfl) (by decide +kernel) fl_RX6_39 fw_6_5 rfl rfl ?_
      refine zs_goto (pc := 18) (off := 8) (tgt := 26) C (by decide +kernel) (by decide) ?_
      exact zs_goj (hJ3 ()) trivial
set_option maxRecDepth 20000 in
theorem c_X6_number (l : Launch) (g : GC) (a0 : Int) (a1 : Int) : ConW l g yX6_number cX6_number 4 (some .int) (rmd 2 0 0) [sR 2, sI a0, sI a1] (fun mm => fX6_number a0 a1 mm) := by
  refine zs_ofW (by decide +kernel) (Nat.le_of_ble_eq_true rfl) ?_
  intro p e s m args below meth c C hr
  replace C : Bd g RX6 cX6_number 4 p s m args meth c := C
  unfold fX6_number
  refine zs_aload_n (pc := 0) (k := 0) (i := 0) C (by decide +kernel) rfl rfl ?_
  refine zs_cvRi (pc := 1) (As := []) (st := []) C rfl (c_X6_token l g ) ml_RX6_66 rfl rfl rfl rfl (Nat.le_of_ble_eq_true rfl) ⟨Nat.le_of_ble_eq_true rfl, Nat.le_of_ble_eq_true rfl⟩ ⟨Nat.le_of_ble_eq_true rfl, Nat.le_of_ble_eq_true rfl⟩ (by decide +kernel) (fun x1 => ?_)
  refine zs_iconst (pc := 4) (n := 1) (x := 1) C (by decide +kernel) (by decide +kernel) ?_
  refine zs_icmp_eq (pc := 5) (off := 10) (tgt := 15) C (by decide +kernel) (by decide) ?_ ?_
  · refine zs_aload_n (pc := 15) (k := 0) (i := 0) C (by decide +kernel) rfl rfl ?_
    refine zs_getR (o' := 3) (pc := 16) (i := 12) (ci := 6) (k := 0) C (by decide +kernel) fl_RX6_12 rfl rfl rfl ?_
    refine zs_getR (o' := 5) (pc := 19) (i := 90) (ci := 8) (k := 1) C (by decide +kernel) fl_RX6_90 rfl rfl rfl ?_
    refine zs_aload_n (pc := 22) (k := 0) (i := 0) C (by decide +kernel) rfl rfl ?_
    refine zs_getI (pc := 23) (i := 39) (ci := 6) (k := 5) C (by decide +kernel) fl_RX6_39 rfl rfl (fun x2 => ?_)
    refine zs_iald (pc := 26) (o := 5) (n := 901) C (by decide +kernel) rfl (fun hinx3 x3 => ?_)
    refine zs_istore_n (pc := 27) (k := 3) (i := 3) (ls' := [(3, sI x3), (0, sR 2), (1, sI a0), (2, sI a1)]) C (by decide +kernel) rfl (Nat.le_of_ble_eq_true rfl) rfl ?_
    refine zs_iload_n (pc := 28) (k := 3) (i := 3) C (by decide +kernel) rfl rfl ?_
    refine zs_iload_n (pc := 29) (k := 1) (i := 1) C (by decide +kernel) rfl rfl ?_
    refine zs_jn (pJ := 38) (kJ := 0) (sJ := 0) (fun t4 => [(0, sR 2)]) (fun t4 => []) (fun t4 => ?_) (fun J5 hJ5 => ?_)
    · refine zs_aload_n (pc := 38) (k := 0) (i := 0) C (by decide +kernel) rfl rfl ?_
      refine zs_iconst (pc := 39) (n := 3) (x := 3) C (by decide +kernel) (by decide +kernel) ?_
      refine zs_cvVv (pc := 40) (As := [sI 3]) (st := []) C (fun _ _ _ => rfl) (c_X6_refuse l g 3) ml_RX6_86 rfl rfl rfl rfl (Nat.le_of_ble_eq_true rfl) ⟨Nat.le_of_ble_eq_true rfl, Nat.le_of_ble_eq_true rfl⟩ ⟨Nat.le_of_ble_eq_true rfl, Nat.le_of_ble_eq_true rfl⟩ (by decide +kernel) ?_
      refine zs_iconst (pc := 43) (n := 0) (x := 0) C (by decide +kernel) (by decide +kernel) ?_
      exact zs_retWi (pc := 44) C hr ⟨Nat.le_of_ble_eq_true rfl, Nat.le_of_ble_eq_true rfl⟩ (by decide +kernel)
    · refine zs_icmp_lt (pc := 30) (off := 8) (tgt := 38) C (by decide +kernel) (by decide) ?_ ?_
      · exact zs_goj (hJ5 ()) ⟨rfl, trivial⟩
      · refine zs_iload_n (pc := 33) (k := 3) (i := 3) C (by decide +kernel) rfl rfl ?_
        refine zs_iload_n (pc := 34) (k := 2) (i := 2) C (by decide +kernel) rfl rfl ?_
        refine zs_icmp_le (pc := 35) (off := 10) (tgt := 45) C (by decide +kernel) (by decide) ?_ ?_
        · refine zs_aload_n (pc := 45) (k := 0) (i := 0) C (by decide +kernel) rfl rfl ?_
          refine zs_dup (pc := 46) C rfl (by decide +kernel) ?_
          refine zs_getI (pc := 47) (i := 39) (ci := 6) (k := 5) C (by decide +kernel) fl_RX6_39 rfl rfl (fun x6 => ?_)
          refine zs_iconst (pc := 50) (n := 1) (x := 1) C (by decide +kernel) (by decide +kernel) ?_
          refine zs_iadd (pc := 51) C (by decide +kernel) ?_
          refine zs_putI (pc := 52) (i := 39) (ci := 6) (k := 5) C (fun _ _ _ => rfl) (by decide +kernel) fl_RX6_39 fw_6_5 rfl rfl ?_
          refine zs_iload_n (pc := 55) (k := 3) (i := 3) C (by decide +kernel) rfl rfl ?_
          exact zs_retWi (pc := 56) C hr ⟨Nat.le_of_ble_eq_true rfl, Nat.le_of_ble_eq_true rfl⟩ (by decide +kernel)
        · exact zs_goj (hJ5 ()) ⟨rfl, trivial⟩
  · refine zs_aload_n (pc := 8) (k := 0) (i := 0) C (by decide +kernel) rfl rfl ?_
    refine zs_iconst (pc := 9) (n := 2) (x := 2) C (by decide +kernel) (by decide +kernel) ?_
    refine zs_cvVv (pc := 10) (As := [sI 2]) (st := []) C (fun _ _ _ => rfl) (c_X6_refuse l g 2) ml_RX6_86 rfl rfl rfl rfl (Nat.le_of_ble_eq_true rfl) ⟨Nat.le_of_ble_eq_true rfl, Nat.le_of_ble_eq_true rfl⟩ ⟨Nat.le_of_ble_eq_true rfl, Nat.le_of_ble_eq_true rfl⟩ (by decide +kernel) ?_
    refine zs_iconst (pc := 13) (n := 0) (x := 0) C (by decide +kernel) (by decide +kernel) ?_
    exact zs_retWi (pc := 14) C hr ⟨Nat.le_of_ble_eq_true rfl, Nat.le_of_ble_eq_true rfl⟩ (by decide +kernel)
set_option maxRecDepth 20000 in
theorem c_X6_readHead (l : Launch) (g : GC)  : ConV l g yX6_readHead cX6_readHead 1 (rmd 3 0 0) [sR 2] (fun mm => fX6_readHead  mm) := by
  refine zs_ofV (by decide +kernel) (Nat.le_of_ble_eq_true rfl) ?_
  intro p e s m args below meth c C hr
  replace C : Bd g RX6 cX6_readHead 1 p s m args meth c := C
  unfold fX6_readHead
  refine zs_aload_n (pc := 0) (k := 0) (i := 0) C (by decide +kernel) rfl rfl ?_
  refine zs_sipush (pc := 1) (n := 136) (x := 136) C (by decide +kernel) (by decide +kernel) ?_
  refine zs_cvVv (pc := 4) (As := [sI 136]) (st := []) C (fun _ _ _ => rfl) (c_X6_take l g 136) ml_RX6_103 rfl rfl rfl rfl (Nat.le_of_ble_eq_true rfl) ⟨Nat.le_of_ble_eq_true rfl, Nat.le_of_ble_eq_true rfl⟩ ⟨Nat.le_of_ble_eq_true rfl, Nat.le_of_ble_eq_true rfl⟩ (by decide +kernel) ?_
  refine zs_aload_n (pc := 7) (k := 0) (i := 0) C (by decide +kernel) rfl rfl ?_
  refine zs_getR (o' := 7) (pc := 8) (i := 21) (ci := 6) (k := 1) C (by decide +kernel) fl_RX6_21 rfl rfl rfl ?_
  refine zs_aload_n (pc := 11) (k := 0) (i := 0) C (by decide +kernel) rfl rfl ?_
  refine zs_iconst (pc := 12) (n := 2) (x := 2) C (by decide +kernel) (by decide +kernel) ?_
  refine zs_iconst (pc := 13) (n := 5) (x := 5) C (by decide +kernel) (by decide +kernel) ?_
  refine zs_cvWi (pc := 14) (As := [sI 2, sI 5]) (st := [sR 7]) C (fun _ _ _ => rfl) rfl (c_X6_number l g 2 5) ml_RX6_96 rfl rfl rfl rfl (Nat.le_of_ble_eq_true rfl) ⟨Nat.le_of_ble_eq_true rfl, Nat.le_of_ble_eq_true rfl⟩ ⟨Nat.le_of_ble_eq_true rfl, Nat.le_of_ble_eq_true rfl⟩ (by decide +kernel) (fun x1 => ?_)
  refine zs_putI (pc := 17) (i := 93) (ci := 3) (k := 1) C (fun _ _ _ => rfl) (by decide +kernel) fl_RX6_93 fw_3_1 rfl rfl ?_
  refine zs_aload_n (pc := 20) (k := 0) (i := 0) C (by decide +kernel) rfl rfl ?_
  refine zs_getR (o' := 7) (pc := 21) (i := 21) (ci := 6) (k := 1) C (by decide +kernel) fl_RX6_21 rfl rfl rfl ?_
  refine zs_aload_n (pc := 24) (k := 0) (i := 0) C (by decide +kernel) rfl rfl ?_
  refine zs_iconst (pc := 25) (n := 2) (x := 2) C (by decide +kernel) (by decide +kernel) ?_
  refine zs_iconst (pc := 26) (n := 5) (x := 5) C (by decide +kernel) (by decide +kernel) ?_
  refine zs_cvWi (pc := 27) (As := [sI 2, sI 5]) (st := [sR 7]) C (fun _ _ _ => rfl) rfl (c_X6_number l g 2 5) ml_RX6_96 rfl rfl rfl rfl (Nat.le_of_ble_eq_true rfl) ⟨Nat.le_of_ble_eq_true rfl, Nat.le_of_ble_eq_true rfl⟩ ⟨Nat.le_of_ble_eq_true rfl, Nat.le_of_ble_eq_true rfl⟩ (by decide +kernel) (fun x2 => ?_)
  refine zs_putI (pc := 30) (i := 100) (ci := 3) (k := 2) C (fun _ _ _ => rfl) (by decide +kernel) fl_RX6_100 fw_3_2 rfl rfl ?_
  refine zs_aload_n (pc := 33) (k := 0) (i := 0) C (by decide +kernel) rfl rfl ?_
  refine zs_bipush (pc := 34) (n := 59) (x := 59) C (by decide +kernel) (by decide +kernel) ?_
  refine zs_cvVv (pc := 36) (As := [sI 59]) (st := []) C (fun _ _ _ => rfl) (c_X6_take l g 59) ml_RX6_103 rfl rfl rfl rfl (Nat.le_of_ble_eq_true rfl) ⟨Nat.le_of_ble_eq_true rfl, Nat.le_of_ble_eq_true rfl⟩ ⟨Nat.le_of_ble_eq_true rfl, Nat.le_of_ble_eq_true rfl⟩ (by decide +kernel) ?_
  refine zs_aload_n (pc := 39) (k := 0) (i := 0) C (by decide +kernel) rfl rfl ?_
  refine zs_getR (o' := 7) (pc := 40) (i := 21) (ci := 6) (k := 1) C (by decide +kernel) fl_RX6_21 rfl rfl rfl ?_
  refine zs_iconst (pc := 43) (n := 1) (x := 1) C (by decide +kernel) (by decide +kernel) ?_
  refine zs_putI (pc := 44) (i := 106) (ci := 3) (k := 0) C (fun _ _ _ => rfl) (by decide +kernel) fl_RX6_106 fw_3_0 rfl rfl ?_
  exact zs_retVv (pc := 47) C hr ⟨Nat.le_of_ble_eq_true rfl, Nat.le_of_ble_eq_true rfl⟩ (by decide +kernel)
set_option maxRecDepth 20000 in
theorem c_X6_takePlace (l : Launch) (g : GC) (a0 : Int) : ConW l g yX6_takePlace cX6_takePlace 5 (some .int) (rmd 3 0 0) [sR 2, sI a0] (fun mm => fX6_takePlace a0 mm) := by
  refine zs_ofW (by decide +kernel) (Nat.le_of_ble_eq_true rfl) ?_
  intro p e s m args below meth c C hr
  replace C : Bd g RX6 cX6_takePlace 5 p s m args meth c := C
  unfold fX6_takePlace
  refine zs_aload_n (pc := 0) (k := 0) (i := 0) C (by decide +kernel) rfl rfl ?_
  refine zs_iconst (pc := 1) (n := 0) (x := 0) C (by decide +kernel) (by decide +kernel) ?_
  refine zs_aload_n (pc := 2) (k := 0) (i := 0) C (by decide +kernel) rfl rfl ?_
  refine zs_getR (o' := 7) (pc := 3) (i := 21) (ci := 6) (k := 1) C (by decide +kernel) fl_RX6_21 rfl rfl rfl ?_
  refine zs_getI (pc := 6) (i := 93) (ci := 3) (k := 1) C (by decide +kernel) fl_RX6_93 rfl rfl (fun x1 => ?_)
  refine zs_iconst (pc := 9) (n := 1) (x := 1) C (by decide +kernel) (by decide +kernel) ?_
  refine zs_isub (pc := 10) C (by decide +kernel) ?_
  refine zs_cvWi (pc := 11) (As := [sI 0, sI (w32 (x1 - 1))]) (st := []) C (fun _ _ _ => rfl) rfl (c_X6_number l g 0 (w32 (x1 - 1))) ml_RX6_96 rfl rfl rfl rfl (Nat.le_of_ble_eq_true rfl) ⟨Nat.le_of_ble_eq_true rfl, Nat.le_of_ble_eq_true rfl⟩ ⟨Nat.le_of_ble_eq_true rfl, Nat.le_of_ble_eq_true rfl⟩ (by decide +kernel) (fun x2 => ?_)
  refine zs_istore_n (pc := 14) (k := 2) (i := 2) (ls' := [(2, sI x2), (0, sR 2), (1, sI a0)]) C (by decide +kernel) rfl (Nat.le_of_ble_eq_true rfl) rfl ?_
  refine zs_aload_n (pc := 15) (k := 0) (i := 0) C (by decide +kernel) rfl rfl ?_
  refine zs_iconst (pc := 16) (n := 0) (x := 0) C (by decide +kernel) (by decide +kernel) ?_
  refine zs_aload_n (pc := 17) (k := 0) (i := 0) C (by decide +kernel) rfl rfl ?_
  refine zs_getR (o' := 7) (pc := 18) (i := 21) (ci := 6) (k := 1) C (by decide +kernel) fl_RX6_21 rfl rfl rfl ?_
  refine zs_getI (pc := 21) (i := 100) (ci := 3) (k := 2) C (by decide +kernel) fl_RX6_100 rfl rfl (fun x3 => ?_)
  refine zs_iconst (pc := 24) (n := 1) (x := 1) C (by decide +kernel) (by decide +kernel) ?_
  refine zs_isub (pc := 25) C (by decide +kernel) ?_
  refine zs_cvWi (pc := 26) (As := [sI 0, sI (w32 (x3 - 1))]) (st := []) C (fun _ _ _ => rfl) rfl (c_X6_number l g 0 (w32 (x3 - 1))) ml_RX6_96 rfl rfl rfl rfl (Nat.le_of_ble_eq_true rfl) ⟨Nat.le_of_ble_eq_true rfl, Nat.le_of_ble_eq_true rfl⟩ ⟨Nat.le_of_ble_eq_true rfl, Nat.le_of_ble_eq_true rfl⟩ (by decide +kernel) (fun x4 => ?_)
  refine zs_istore_n (pc := 29) (k := 3) (i := 3) (ls' := [(3, sI x4), (2, sI x2), (0, sR 2), (1, sI a0)]) C (by decide +kernel) rfl (Nat.le_of_ble_eq_true rfl) rfl ?_
  refine zs_aload_n (pc := 30) (k := 0) (i := 0) C (by decide +kernel) rfl rfl ?_
  refine zs_getR (o' := 7) (pc := 31) (i := 21) (ci := 6) (k := 1) C (by decide +kernel) fl_RX6_21 rfl rfl rfl ?_
  refine zs_getI (pc := 34) (i := 93) (ci := 3) (k := 1) C (by decide +kernel) fl_RX6_93 rfl rfl (fun x5 => ?_)
  refine zs_iload_n (pc := 37) (k := 3) (i := 3) C (by decide +kernel) rfl rfl ?_
  refine zs_imul (pc := 38) C (by decide +kernel) ?_
  refine zs_iload_n (pc := 39) (k := 2) (i := 2) C (by decide +kernel) rfl rfl ?_
  refine zs_iadd (pc := 40) C (by decide +kernel) ?_
  refine zs_let (fun x6 => ?_)
  refine zs_istore (pc := 41) (i := 4) (ls' := [(4, sI x6), (3, sI x4), (2, sI x2), (0, sR 2), (1, sI a0)]) C (by decide +kernel) (Nat.le_of_ble_eq_true rfl) rfl ?_
  refine zs_aload_n (pc := 43) (k := 0) (i := 0) C (by decide +kernel) rfl rfl ?_
  refine zs_getI (pc := 44) (i := 32) (ci := 6) (k := 3) C (by decide +kernel) fl_RX6_32 rfl rfl (fun x7 => ?_)
  refine zs_jn (pJ := 74) (kJ := 0) (sJ := 0) (fun t8 => [(4, sI x6)]) (fun t8 => []) (fun t8 => ?_) (fun J9 hJ9 => ?_)
  · refine zs_iload (pc := 74) (i := 4) C (by decide +kernel) rfl ?_
    exact zs_retWi (pc := 76) C hr ⟨Nat.le_of_ble_eq_true rfl, Nat.le_of_ble_eq_true rfl⟩ (by decide +kernel)
  · refine zs_if_ne (pc := 47) (off := 27) (tgt := 74) C (by decide +kernel) (by decide) ?_ ?_
    · exact zs_goj (hJ9 ()) ⟨rfl, trivial⟩
    · refine zs_iload_n (pc := 50) (k := 1) (i := 1) C (by decide +kernel) rfl rfl ?_
      refine zs_iload (pc := 51) (i := 4) C (by decide +kernel) rfl ?_
      refine zs_iushr (pc := 53) C (by decide +kernel) ?_
      refine zs_iconst (pc := 54) (n := 1) (x := 1) C (by decide +kernel) (by decide +kernel) ?_
      refine zs_iand (pc := 55) C (by decide +kernel) ?_
      refine zs_if_eq (pc := 56) (off := 18) (tgt := 74) C (by decide +kernel) (by decide) ?_ ?_
      · exact zs_goj (hJ9 ()) ⟨rfl, trivial⟩
      · refine zs_aload_n (pc := 59) (k := 0) (i := 0) C (by decide +kernel) rfl rfl ?_
        refine zs_dup (pc := 60) C rfl (by decide +kernel) ?_
        refine zs_getI (pc := 61) (i := 39) (ci := 6) (k := 5) C (by decide +kernel) fl_RX6_39 rfl rfl (fun x10 => ?_)
        refine zs_iconst (pc := 64) (n := 1) (x := 1) C (by decide +kernel) (by decide +kernel) ?_
        refine zs_isub (pc := 65) C (by decide +kernel) ?_
        refine zs_putI (pc := 66) (i := 39) (ci := 6) (k := 5) C (fun _ _ _ => rfl) (by decide +kernel) fl_RX6_39 fw_6_5 rfl rfl ?_
        refine zs_aload_n (pc := 69) (k := 0) (i := 0) C (by decide +kernel) rfl rfl ?_
        refine zs_iconst (pc := 70) (n := 3) (x := 3) C (by decide +kernel) (by decide +kernel) ?_
        refine zs_cvVv (pc := 71) (As := [sI 3]) (st := []) C (fun _ _ _ => rfl) (c_X6_refuse l g 3) ml_RX6_86 rfl rfl rfl rfl (Nat.le_of_ble_eq_true rfl) ⟨Nat.le_of_ble_eq_true rfl, Nat.le_of_ble_eq_true rfl⟩ ⟨Nat.le_of_ble_eq_true rfl, Nat.le_of_ble_eq_true rfl⟩ (by decide +kernel) ?_
        exact zs_goj (hJ9 ()) ⟨rfl, trivial⟩
set_option maxRecDepth 20000 in
theorem c_X6_readRock (l : Launch) (g : GC)  : ConV l g yX6_readRock cX6_readRock 1 (rmd 4 0 0) [sR 2] (fun mm => fX6_readRock  mm) := by
  refine zs_ofV (by decide +kernel) (Nat.le_of_ble_eq_true rfl) ?_
  intro p e s m args below meth c C hr
  replace C : Bd g RX6 cX6_readRock 1 p s m args meth c := C
  unfold fX6_readRock
  refine zs_aload_n (pc := 0) (k := 0) (i := 0) C (by decide +kernel) rfl rfl ?_
  refine zs_dup (pc := 1) C rfl (by decide +kernel) ?_
  refine zs_getI (pc := 2) (i := 39) (ci := 6) (k := 5) C (by decide +kernel) fl_RX6_39 rfl rfl (fun x1 => ?_)
  refine zs_iconst (pc := 5) (n := 1) (x := 1) C (by decide +kernel) (by decide +kernel) ?_
  refine zs_iadd (pc := 6) C (by decide +kernel) ?_
  refine zs_putI (pc := 7) (i := 39) (ci := 6) (k := 5) C (fun _ _ _ => rfl) (by decide +kernel) fl_RX6_39 fw_6_5 rfl rfl ?_
  refine zs_aload_n (pc := 10) (k := 0) (i := 0) C (by decide +kernel) rfl rfl ?_
  refine zs_getR (o' := 7) (pc := 11) (i := 21) (ci := 6) (k := 1) C (by decide +kernel) fl_RX6_21 rfl rfl rfl ?_
  refine zs_dup (pc := 14) C rfl (by decide +kernel) ?_
  refine zs_getI (pc := 15) (i := 130) (ci := 3) (k := 3) C (by decide +kernel) fl_RX6_130 rfl rfl (fun x2 => ?_)
  refine zs_iconst (pc := 18) (n := 1) (x := 1) C (by decide +kernel) (by decide +kernel) ?_
  refine zs_aload_n (pc := 19) (k := 0) (i := 0) C (by decide +kernel) rfl rfl ?_
  refine zs_aload_n (pc := 20) (k := 0) (i := 0) C (by decide +kernel) rfl rfl ?_
  refine zs_getI (pc := 21) (i := 42) (ci := 6) (k := 6) C (by decide +kernel) fl_RX6_42 rfl rfl (fun x3 => ?_)
  refine zs_aload_n (pc := 24) (k := 0) (i := 0) C (by decide +kernel) rfl rfl ?_
  refine zs_getI (pc := 25) (i := 45) (ci := 6) (k := 7) C (by decide +kernel) fl_RX6_45 rfl rfl (fun x4 => ?_)
  refine zs_ior (pc := 28) C (by decide +kernel) ?_
  refine zs_cvWi (pc := 29) (As := [sI (ior x3 x4)]) (st := [sI 1, sI x2, sR 7]) C (fun _ _ _ => rfl) rfl (c_X6_takePlace l g (ior x3 x4)) ml_RX6_133 rfl rfl rfl rfl (Nat.le_of_ble_eq_true rfl) ⟨Nat.le_of_ble_eq_true rfl, Nat.le_of_ble_eq_true rfl⟩ ⟨Nat.le_of_ble_eq_true rfl, Nat.le_of_ble_eq_true rfl⟩ (by decide +kernel) (fun x5 => ?_)
  refine zs_ishl (pc := 32) C (by decide +kernel) ?_
  refine zs_ior (pc := 33) C (by decide +kernel) ?_
  refine zs_putI (pc := 34) (i := 130) (ci := 3) (k := 3) C (fun _ _ _ => rfl) (by decide +kernel) fl_RX6_130 fw_3_3 rfl rfl ?_
  exact zs_retVv (pc := 37) C hr ⟨Nat.le_of_ble_eq_true rfl, Nat.le_of_ble_eq_true rfl⟩ (by decide +kernel)
set_option maxRecDepth 20000 in
theorem c_X6_readHouse (l : Launch) (g : GC)  : ConV l g yX6_readHouse cX6_readHouse 2 (rmd 4 0 0) [sR 2] (fun mm => fX6_readHouse  mm) := by
  refine zs_ofV (by decide +kernel) (Nat.le_of_ble_eq_true rfl) ?_
  intro p e s m args below meth c C hr
  replace C : Bd g RX6 cX6_readHouse 2 p s m args meth c := C
  unfold fX6_readHouse
  refine zs_aload_n (pc := 0) (k := 0) (i := 0) C (by decide +kernel) rfl rfl ?_
  refine zs_getR (o' := 7) (pc := 1) (i := 21) (ci := 6) (k := 1) C (by decide +kernel) fl_RX6_21 rfl rfl rfl ?_
  refine zs_getI (pc := 4) (i := 137) (ci := 3) (k := 4) C (by decide +kernel) fl_RX6_137 rfl rfl (fun x1 => ?_)
  refine zs_bipush (pc := 7) (n := 8) (x := 8) C (by decide +kernel) (by decide +kernel) ?_
  refine zs_icmp_lt (pc := 9) (off := 9) (tgt := 18) C (by decide +kernel) (by decide) ?_ ?_
  · refine zs_aload_n (pc := 18) (k := 0) (i := 0) C (by decide +kernel) rfl rfl ?_
    refine zs_dup (pc := 19) C rfl (by decide +kernel) ?_
    refine zs_getI (pc := 20) (i := 39) (ci := 6) (k := 5) C (by decide +kernel) fl_RX6_39 rfl rfl (fun x2 => ?_)
    refine zs_iconst (pc := 23) (n := 1) (x := 1) C (by decide +kernel) (by decide +kernel) ?_
    refine zs_iadd (pc := 24) C (by decide +kernel) ?_
    refine zs_putI (pc := 25) (i := 39) (ci := 6) (k := 5) C (fun _ _ _ => rfl) (by decide +kernel) fl_RX6_39 fw_6_5 rfl rfl ?_
    refine zs_aload_n (pc := 28) (k := 0) (i := 0) C (by decide +kernel) rfl rfl ?_
    refine zs_aload_n (pc := 29) (k := 0) (i := 0) C (by decide +kernel) rfl rfl ?_
    refine zs_getR (o' := 7) (pc := 30) (i := 21) (ci := 6) (k := 1) C (by decide +kernel) fl_RX6_21 rfl rfl rfl ?_
    refine zs_getI (pc := 33) (i := 130) (ci := 3) (k := 3) C (by decide +kernel) fl_RX6_130 rfl rfl (fun x3 => ?_)
    refine zs_aload_n (pc := 36) (k := 0) (i := 0) C (by decide +kernel) rfl rfl ?_
    refine zs_getI (pc := 37) (i := 42) (ci := 6) (k := 6) C (by decide +kernel) fl_RX6_42 rfl rfl (fun x4 => ?_)
    refine zs_ior (pc := 40) C (by decide +kernel) ?_
    refine zs_cvWi (pc := 41) (As := [sI (ior x3 x4)]) (st := []) C (fun _ _ _ => rfl) rfl (c_X6_takePlace l g (ior x3 x4)) ml_RX6_133 rfl rfl rfl rfl (Nat.le_of_ble_eq_true rfl) ⟨Nat.le_of_ble_eq_true rfl, Nat.le_of_ble_eq_true rfl⟩ ⟨Nat.le_of_ble_eq_true rfl, Nat.le_of_ble_eq_true rfl⟩ (by decide +kernel) (fun x5 => ?_)
    refine zs_istore_n (pc := 44) (k := 1) (i := 1) (ls' := [(1, sI x5), (0, sR 2)]) C (by decide +kernel) rfl (Nat.le_of_ble_eq_true rfl) rfl ?_
    refine zs_aload_n (pc := 45) (k := 0) (i := 0) C (by decide +kernel) rfl rfl ?_
    refine zs_dup (pc := 46) C rfl (by decide +kernel) ?_
    refine zs_getI (pc := 47) (i := 42) (ci := 6) (k := 6) C (by decide +kernel) fl_RX6_42 rfl rfl (fun x6 => ?_)
    refine zs_iconst (pc := 50) (n := 1) (x := 1) C (by decide +kernel) (by decide +kernel) ?_
    refine zs_iload_n (pc := 51) (k := 1) (i := 1) C (by decide +kernel) rfl rfl ?_
    refine zs_ishl (pc := 52) C (by decide +kernel) ?_
    refine zs_ior (pc := 53) C (by decide +kernel) ?_
    refine zs_putI (pc := 54) (i := 42) (ci := 6) (k := 6) C (fun _ _ _ => rfl) (by decide +kernel) fl_RX6_42 fw_6_6 rfl rfl ?_
    refine zs_aload_n (pc := 57) (k := 0) (i := 0) C (by decide +kernel) rfl rfl ?_
    refine zs_getR (o' := 7) (pc := 58) (i := 21) (ci := 6) (k := 1) C (by decide +kernel) fl_RX6_21 rfl rfl rfl ?_
    refine zs_getR (o' := 8) (pc := 61) (i := 140) (ci := 3) (k := 6) C (by decide +kernel) fl_RX6_140 rfl rfl rfl ?_
    refine zs_aload_n (pc := 64) (k := 0) (i := 0) C (by decide +kernel) rfl rfl ?_
    refine zs_getR (o' := 7) (pc := 65) (i := 21) (ci := 6) (k := 1) C (by decide +kernel) fl_RX6_21 rfl rfl rfl ?_
    refine zs_getI (pc := 68) (i := 137) (ci := 3) (k := 4) C (by decide +kernel) fl_RX6_137 rfl rfl (fun x7 => ?_)
    refine zs_iload_n (pc := 71) (k := 1) (i := 1) C (by decide +kernel) rfl rfl ?_
    refine zs_iast (pc := 72) (o := 8) (n := 8) C (fun _ _ _ => rfl) (by decide +kernel) rfl ?_
    refine zs_aload_n (pc := 73) (k := 0) (i := 0) C (by decide +kernel) rfl rfl ?_
    refine zs_getR (o' := 7) (pc := 74) (i := 21) (ci := 6) (k := 1) C (by decide +kernel) fl_RX6_21 rfl rfl rfl ?_
    refine zs_dup (pc := 77) C rfl (by decide +kernel) ?_
    refine zs_getI (pc := 78) (i := 137) (ci := 3) (k := 4) C (by decide +kernel) fl_RX6_137 rfl rfl (fun x8 => ?_)
    refine zs_iconst (pc := 81) (n := 1) (x := 1) C (by decide +kernel) (by decide +kernel) ?_
    refine zs_iadd (pc := 82) C (by decide +kernel) ?_
    refine zs_putI (pc := 83) (i := 137) (ci := 3) (k := 4) C (fun _ _ _ => rfl) (by decide +kernel) fl_RX6_137 fw_3_4 rfl rfl ?_
    exact zs_retVv (pc := 86) C hr ⟨Nat.le_of_ble_eq_true rfl, Nat.le_of_ble_eq_true rfl⟩ (by decide +kernel)
  · refine zs_aload_n (pc := 12) (k := 0) (i := 0) C (by decide +kernel) rfl rfl ?_
    refine zs_iconst (pc := 13) (n := 4) (x := 4) C (by decide +kernel) (by decide +kernel) ?_
    refine zs_cvVv (pc := 14) (As := [sI 4]) (st := []) C (fun _ _ _ => rfl) (c_X6_refuse l g 4) ml_RX6_86 rfl rfl rfl rfl (Nat.le_of_ble_eq_true rfl) ⟨Nat.le_of_ble_eq_true rfl, Nat.le_of_ble_eq_true rfl⟩ ⟨Nat.le_of_ble_eq_true rfl, Nat.le_of_ble_eq_true rfl⟩ (by decide +kernel) ?_
    exact zs_retVv (pc := 17) C hr ⟨Nat.le_of_ble_eq_true rfl, Nat.le_of_ble_eq_true rfl⟩ (by decide +kernel)
set_option maxRecDepth 20000 in
theorem c_X6_readPair (l : Launch) (g : GC)  : ConV l g yX6_readPair cX6_readPair 2 (rmd 4 0 0) [sR 2] (fun mm => fX6_readPair  mm) := by
  refine zs_ofV (by decide +kernel) (Nat.le_of_ble_eq_true rfl) ?_
  intro p e s m args below meth c C hr
  replace C : Bd g RX6 cX6_readPair 2 p s m args meth c := C
  unfold fX6_readPair
  refine zs_aload_n (pc := 0) (k := 0) (i := 0) C (by decide +kernel) rfl rfl ?_
  refine zs_getR (o' := 7) (pc := 1) (i := 21) (ci := 6) (k := 1) C (by decide +kernel) fl_RX6_21 rfl rfl rfl ?_
  refine zs_getI (pc := 4) (i := 143) (ci := 3) (k := 5) C (by decide +kernel) fl_RX6_143 rfl rfl (fun x1 => ?_)
  refine zs_istore_n (pc := 7) (k := 1) (i := 1) (ls' := [(1, sI x1), (0, sR 2)]) C (by decide +kernel) rfl (Nat.le_of_ble_eq_true rfl) rfl ?_
  refine zs_iload_n (pc := 8) (k := 1) (i := 1) C (by decide +kernel) rfl rfl ?_
  refine zs_iconst (pc := 9) (n := 4) (x := 4) C (by decide +kernel) (by decide +kernel) ?_
  refine zs_icmp_lt (pc := 10) (off := 9) (tgt := 19) C (by decide +kernel) (by decide) ?_ ?_
  · refine zs_aload_n (pc := 19) (k := 0) (i := 0) C (by decide +kernel) rfl rfl ?_
    refine zs_dup (pc := 20) C rfl (by decide +kernel) ?_
    refine zs_getI (pc := 21) (i := 39) (ci := 6) (k := 5) C (by decide +kernel) fl_RX6_39 rfl rfl (fun x2 => ?_)
    refine zs_iconst (pc := 24) (n := 1) (x := 1) C (by decide +kernel) (by decide +kernel) ?_
    refine zs_iadd (pc := 25) C (by decide +kernel) ?_
    refine zs_putI (pc := 26) (i := 39) (ci := 6) (k := 5) C (fun _ _ _ => rfl) (by decide +kernel) fl_RX6_39 fw_6_5 rfl rfl ?_
    refine zs_aload_n (pc := 29) (k := 0) (i := 0) C (by decide +kernel) rfl rfl ?_
    refine zs_getR (o' := 7) (pc := 30) (i := 21) (ci := 6) (k := 1) C (by decide +kernel) fl_RX6_21 rfl rfl rfl ?_
    refine zs_getR (o' := 9) (pc := 33) (i := 146) (ci := 3) (k := 7) C (by decide +kernel) fl_RX6_146 rfl rfl rfl ?_
    refine zs_iload_n (pc := 36) (k := 1) (i := 1) C (by decide +kernel) rfl rfl ?_
    refine zs_aload_n (pc := 37) (k := 0) (i := 0) C (by decide +kernel) rfl rfl ?_
    refine zs_iconst (pc := 38) (n := 1) (x := 1) C (by decide +kernel) (by decide +kernel) ?_
    refine zs_bipush (pc := 39) (n := 20) (x := 20) C (by decide +kernel) (by decide +kernel) ?_
    refine zs_cvWi (pc := 41) (As := [sI 1, sI 20]) (st := [sI x1, sR 9]) C (fun _ _ _ => rfl) rfl (c_X6_number l g 1 20) ml_RX6_96 rfl rfl rfl rfl (Nat.le_of_ble_eq_true rfl) ⟨Nat.le_of_ble_eq_true rfl, Nat.le_of_ble_eq_true rfl⟩ ⟨Nat.le_of_ble_eq_true rfl, Nat.le_of_ble_eq_true rfl⟩ (by decide +kernel) (fun x3 => ?_)
    refine zs_iast (pc := 44) (o := 9) (n := 4) C (fun _ _ _ => rfl) (by decide +kernel) rfl ?_
    refine zs_aload_n (pc := 45) (k := 0) (i := 0) C (by decide +kernel) rfl rfl ?_
    refine zs_sipush (pc := 46) (n := 139) (x := 139) C (by decide +kernel) (by decide +kernel) ?_
    refine zs_cvVv (pc := 49) (As := [sI 139]) (st := []) C (fun _ _ _ => rfl) (c_X6_take l g 139) ml_RX6_103 rfl rfl rfl rfl (Nat.le_of_ble_eq_true rfl) ⟨Nat.le_of_ble_eq_true rfl, Nat.le_of_ble_eq_true rfl⟩ ⟨Nat.le_of_ble_eq_true rfl, Nat.le_of_ble_eq_true rfl⟩ (by decide +kernel) ?_
    refine zs_aload_n (pc := 52) (k := 0) (i := 0) C (by decide +kernel) rfl rfl ?_
    refine zs_getR (o' := 14) (pc := 53) (i := 28) (ci := 6) (k := 2) C (by decide +kernel) fl_RX6_28 rfl rfl rfl ?_
    refine zs_getR (o' := 15) (pc := 56) (i := 149) (ci := 5) (k := 4) C (by decide +kernel) fl_RX6_149 rfl rfl rfl ?_
    refine zs_iload_n (pc := 59) (k := 1) (i := 1) C (by decide +kernel) rfl rfl ?_
    refine zs_aload_n (pc := 60) (k := 0) (i := 0) C (by decide +kernel) rfl rfl ?_
    refine zs_aload_n (pc := 61) (k := 0) (i := 0) C (by decide +kernel) rfl rfl ?_
    refine zs_getR (o' := 7) (pc := 62) (i := 21) (ci := 6) (k := 1) C (by decide +kernel) fl_RX6_21 rfl rfl rfl ?_
    refine zs_getI (pc := 65) (i := 130) (ci := 3) (k := 3) C (by decide +kernel) fl_RX6_130 rfl rfl (fun x4 => ?_)
    refine zs_cvWi (pc := 68) (As := [sI x4]) (st := [sI x1, sR 15]) C (fun _ _ _ => rfl) rfl (c_X6_takePlace l g x4) ml_RX6_133 rfl rfl rfl rfl (Nat.le_of_ble_eq_true rfl) ⟨Nat.le_of_ble_eq_true rfl, Nat.le_of_ble_eq_true rfl⟩ ⟨Nat.le_of_ble_eq_true rfl, Nat.le_of_ble_eq_true rfl⟩ (by decide +kernel) (fun x5 => ?_)
    refine zs_iast (pc := 71) (o := 15) (n := 4) C (fun _ _ _ => rfl) (by decide +kernel) rfl ?_
    refine zs_aload_n (pc := 72) (k := 0) (i := 0) C (by decide +kernel) rfl rfl ?_
    refine zs_sipush (pc := 73) (n := 140) (x := 140) C (by decide +kernel) (by decide +kernel) ?_
    refine zs_cvVv (pc := 76) (As := [sI 140]) (st := []) C (fun _ _ _ => rfl) (c_X6_take l g 140) ml_RX6_103 rfl rfl rfl rfl (Nat.le_of_ble_eq_true rfl) ⟨Nat.le_of_ble_eq_true rfl, Nat.le_of_ble_eq_true rfl⟩ ⟨Nat.le_of_ble_eq_true rfl, Nat.le_of_ble_eq_true rfl⟩ (by decide +kernel) ?_
    refine zs_aload_n (pc := 79) (k := 0) (i := 0) C (by decide +kernel) rfl rfl ?_
    refine zs_getR (o' := 14) (pc := 80) (i := 28) (ci := 6) (k := 2) C (by decide +kernel) fl_RX6_28 rfl rfl rfl ?_
    refine zs_getR (o' := 16) (pc := 83) (i := 152) (ci := 5) (k := 5) C (by decide +kernel) fl_RX6_152 rfl rfl rfl ?_
    refine zs_iload_n (pc := 86) (k := 1) (i := 1) C (by decide +kernel) rfl rfl ?_
    refine zs_aload_n (pc := 87) (k := 0) (i := 0) C (by decide +kernel) rfl rfl ?_
    refine zs_aload_n (pc := 88) (k := 0) (i := 0) C (by decide +kernel) rfl rfl ?_
    refine zs_getR (o' := 7) (pc := 89) (i := 21) (ci := 6) (k := 1) C (by decide +kernel) fl_RX6_21 rfl rfl rfl ?_
    refine zs_getI (pc := 92) (i := 130) (ci := 3) (k := 3) C (by decide +kernel) fl_RX6_130 rfl rfl (fun x6 => ?_)
    refine zs_cvWi (pc := 95) (As := [sI x6]) (st := [sI x1, sR 16]) C (fun _ _ _ => rfl) rfl (c_X6_takePlace l g x6) ml_RX6_133 rfl rfl rfl rfl (Nat.le_of_ble_eq_true rfl) ⟨Nat.le_of_ble_eq_true rfl, Nat.le_of_ble_eq_true rfl⟩ ⟨Nat.le_of_ble_eq_true rfl, Nat.le_of_ble_eq_true rfl⟩ (by decide +kernel) (fun x7 => ?_)
    refine zs_iast (pc := 98) (o := 16) (n := 4) C (fun _ _ _ => rfl) (by decide +kernel) rfl ?_
    refine zs_aload_n (pc := 99) (k := 0) (i := 0) C (by decide +kernel) rfl rfl ?_
    refine zs_cvRi (pc := 100) (As := []) (st := []) C rfl (c_X6_token l g ) ml_RX6_66 rfl rfl rfl rfl (Nat.le_of_ble_eq_true rfl) ⟨Nat.le_of_ble_eq_true rfl, Nat.le_of_ble_eq_true rfl⟩ ⟨Nat.le_of_ble_eq_true rfl, Nat.le_of_ble_eq_true rfl⟩ (by decide +kernel) (fun x8 => ?_)
    refine zs_sipush (pc := 103) (n := 129) (x := 129) C (by decide +kernel) (by decide +kernel) ?_
    refine zs_jn (pJ := 135) (kJ := 0) (sJ := 0) (fun t9 => [(0, sR 2), (1, sI x1)]) (fun t9 => []) (fun t9 => ?_) (fun J10 hJ10 => ?_)
    · refine zs_aload_n (pc := 135) (k := 0) (i := 0) C (by decide +kernel) rfl rfl ?_
      refine zs_dup (pc := 136) C rfl (by decide +kernel) ?_
      refine zs_getI (pc := 137) (i := 45) (ci := 6) (k := 7) C (by decide +kernel) fl_RX6_45 rfl rfl (fun x11 => ?_)
      refine zs_iconst (pc := 140) (n := 1) (x := 1) C (by decide +kernel) (by decide +kernel) ?_
      refine zs_aload_n (pc := 141) (k := 0) (i := 0) C (by decide +kernel) rfl rfl ?_
      refine zs_getR (o' := 14) (pc := 142) (i := 28) (ci := 6) (k := 2) C (by decide +kernel) fl_RX6_28 rfl rfl rfl ?_
      refine zs_getR (o' := 15) (pc := 145) (i := 149) (ci := 5) (k := 4) C (by decide +kernel) fl_RX6_149 rfl rfl rfl ?_
      refine zs_iload_n (pc := 148) (k := 1) (i := 1) C (by decide +kernel) rfl rfl ?_
      refine zs_iald (pc := 149) (o := 15) (n := 4) C (by decide +kernel) rfl (fun hinx12 x12 => ?_)
      refine zs_ishl (pc := 150) C (by decide +kernel) ?_
      refine zs_iconst (pc := 151) (n := 1) (x := 1) C (by decide +kernel) (by decide +kernel) ?_
      refine zs_aload_n (pc := 152) (k := 0) (i := 0) C (by decide +kernel) rfl rfl ?_
      refine zs_getR (o' := 14) (pc := 153) (i := 28) (ci := 6) (k := 2) C (by decide +kernel) fl_RX6_28 rfl rfl rfl ?_
      refine zs_getR (o' := 16) (pc := 156) (i := 152) (ci := 5) (k := 5) C (by decide +kernel) fl_RX6_152 rfl rfl rfl ?_
      refine zs_iload_n (pc := 159) (k := 1) (i := 1) C (by decide +kernel) rfl rfl ?_
      refine zs_iald (pc := 160) (o := 16) (n := 4) C (by decide +kernel) rfl (fun hinx13 x13 => ?_)
      refine zs_ishl (pc := 161) C (by decide +kernel) ?_
      refine zs_ior (pc := 162) C (by decide +kernel) ?_
      refine zs_ior (pc := 163) C (by decide +kernel) ?_
      refine zs_putI (pc := 164) (i := 45) (ci := 6) (k := 7) C (fun _ _ _ => rfl) (by decide +kernel) fl_RX6_45 fw_6_7 rfl rfl ?_
      refine zs_aload_n (pc := 167) (k := 0) (i := 0) C (by decide +kernel) rfl rfl ?_
      refine zs_getR (o' := 7) (pc := 168) (i := 21) (ci := 6) (k := 1) C (by decide +kernel) fl_RX6_21 rfl rfl rfl ?_
      refine zs_dup (pc := 171) C rfl (by decide +kernel) ?_
      refine zs_getI (pc := 172) (i := 143) (ci := 3) (k := 5) C (by decide +kernel) fl_RX6_143 rfl rfl (fun x14 => ?_)
      refine zs_iconst (pc := 175) (n := 1) (x := 1) C (by decide +kernel) (by decide +kernel) ?_
      refine zs_iadd (pc := 176) C (by decide +kernel) ?_
      refine zs_putI (pc := 177) (i := 143) (ci := 3) (k := 5) C (fun _ _ _ => rfl) (by decide +kernel) fl_RX6_143 fw_3_5 rfl rfl ?_
      exact zs_retVv (pc := 180) C hr ⟨Nat.le_of_ble_eq_true rfl, Nat.le_of_ble_eq_true rfl⟩ (by decide +kernel)
    · refine zs_icmp_ne (pc := 106) (off := 29) (tgt := 135) C (by decide +kernel) (by decide) ?_ ?_
      · exact zs_goj (hJ10 ()) ⟨rfl, rfl, trivial⟩
      · refine zs_aload_n (pc := 109) (k := 0) (i := 0) C (by decide +kernel) rfl rfl ?_
        refine zs_dup (pc := 110) C rfl (by decide +kernel) ?_
        refine zs_getI (pc := 111) (i := 39) (ci := 6) (k := 5) C (by decide +kernel) fl_RX6_39 rfl rfl (fun x15 => ?_)
        refine zs_iconst (pc := 114) (n := 1) (x := 1) C (by decide +kernel) (by decide +kernel) ?_
        refine zs_iadd (pc := 115) C (by decide +kernel) ?_
        refine zs_putI (pc := 116) (i := 39) (ci := 6) (k := 5) C (fun _ _ _ => rfl) (by decide +kernel) fl_RX6_39 fw_6_5 rfl rfl ?_
        refine zs_aload_n (pc := 119) (k := 0) (i := 0) C (by decide +kernel) rfl rfl ?_
        refine zs_getR (o' := 14) (pc := 120) (i := 28) (ci := 6) (k := 2) C (by decide +kernel) fl_RX6_28 rfl rfl rfl ?_
        refine zs_getR (o' := 17) (pc := 123) (i := 155) (ci := 5) (k := 6) C (by decide +kernel) fl_RX6_155 rfl rfl rfl ?_
        refine zs_iload_n (pc := 126) (k := 1) (i := 1) C (by decide +kernel) rfl rfl ?_
        refine zs_aload_n (pc := 127) (k := 0) (i := 0) C (by decide +kernel) rfl rfl ?_
        refine zs_iconst (pc := 128) (n := 0) (x := 0) C (by decide +kernel) (by decide +kernel) ?_
        refine zs_bipush (pc := 129) (n := 9) (x := 9) C (by decide +kernel) (by decide +kernel) ?_
        refine zs_cvWi (pc := 131) (As := [sI 0, sI 9]) (st := [sI x1, sR 17]) C (fun _ _ _ => rfl) rfl (c_X6_number l g 0 9) ml_RX6_96 rfl rfl rfl rfl (Nat.le_of_ble_eq_true rfl) ⟨Nat.le_of_ble_eq_true rfl, Nat.le_of_ble_eq_true rfl⟩ ⟨Nat.le_of_ble_eq_true rfl, Nat.le_of_ble_eq_true rfl⟩ (by decide +kernel) (fun x16 => ?_)
        refine zs_iast (pc := 134) (o := 17) (n := 4) C (fun _ _ _ => rfl) (by decide +kernel) rfl ?_
        exact zs_goj (hJ10 ()) ⟨rfl, rfl, trivial⟩
  · refine zs_aload_n (pc := 13) (k := 0) (i := 0) C (by decide +kernel) rfl rfl ?_
    refine zs_iconst (pc := 14) (n := 4) (x := 4) C (by decide +kernel) (by decide +kernel) ?_
    refine zs_cvVv (pc := 15) (As := [sI 4]) (st := []) C (fun _ _ _ => rfl) (c_X6_refuse l g 4) ml_RX6_86 rfl rfl rfl rfl (Nat.le_of_ble_eq_true rfl) ⟨Nat.le_of_ble_eq_true rfl, Nat.le_of_ble_eq_true rfl⟩ ⟨Nat.le_of_ble_eq_true rfl, Nat.le_of_ble_eq_true rfl⟩ (by decide +kernel) ?_
    exact zs_retVv (pc := 18) C hr ⟨Nat.le_of_ble_eq_true rfl, Nat.le_of_ble_eq_true rfl⟩ (by decide +kernel)
set_option maxRecDepth 20000 in
theorem c_X4_begin (l : Launch) (g : GC) (o : Nat) (a0 : Int) (a1 : Int) (h0 : layL[o]? = some (.inl 4)) : ConV l g yX4_begin cX4_begin 3 (rmd 2 0 0) [sR o, sI a0, sI a1] (fun mm => fX4_begin o a0 a1 mm) := by
  refine zs_ofV (by decide +kernel) (Nat.le_of_ble_eq_true rfl) ?_
  intro p e s m args below meth c C hr
  replace C : Bd g RX4 cX4_begin 3 p s m args meth c := C
  unfold fX4_begin
  refine zs_aload_n (pc := 0) (k := 0) (i := 0) C (by decide +kernel) rfl rfl ?_
  refine zs_cvVv (pc := 1) (As := []) (st := []) C (fun _ _ _ => rfl) (c_X4_wipe l g o h0) ml_RX4_35 h0 rfl rfl rfl (Nat.le_of_ble_eq_true rfl) ⟨Nat.le_of_ble_eq_true rfl, Nat.le_of_ble_eq_true rfl⟩ ⟨Nat.le_of_ble_eq_true rfl, Nat.le_of_ble_eq_true rfl⟩ (by decide +kernel) ?_
  refine zs_aload_n (pc := 4) (k := 0) (i := 0) C (by decide +kernel) rfl rfl ?_
  refine zs_iconst (pc := 5) (n := 1) (x := 1) C (by decide +kernel) (by decide +kernel) ?_
  refine zs_putZ (pc := 6) (i := 25) (ci := 4) (k := 4) C (fun _ _ _ => rfl) (by decide +kernel) fl_RX4_25 fw_4_4 h0 rfl ?_
  refine zs_aload_n (pc := 9) (k := 0) (i := 0) C (by decide +kernel) rfl rfl ?_
  refine zs_iload_n (pc := 10) (k := 1) (i := 1) C (by decide +kernel) rfl rfl ?_
  refine zs_putI (pc := 11) (i := 19) (ci := 4) (k := 2) C (fun _ _ _ => rfl) (by decide +kernel) fl_RX4_19 fw_4_2 h0 rfl ?_
  refine zs_aload_n (pc := 14) (k := 0) (i := 0) C (by decide +kernel) rfl rfl ?_
  refine zs_iload_n (pc := 15) (k := 2) (i := 2) C (by decide +kernel) rfl rfl ?_
  refine zs_putI (pc := 16) (i := 22) (ci := 4) (k := 3) C (fun _ _ _ => rfl) (by decide +kernel) fl_RX4_22 fw_4_3 h0 rfl ?_
  exact zs_retVv (pc := 19) C hr ⟨Nat.le_of_ble_eq_true rfl, Nat.le_of_ble_eq_true rfl⟩ (by decide +kernel)
set_option maxRecDepth 20000 in
theorem c_X6_opens (l : Launch) (g : GC) (a0 : Int) : ConW l g yX6_opens cX6_opens 2 (some .boolean) (rmd 2 0 0) [sR 2, sI a0] (fun mm => fX6_opens a0 mm) := by
  refine zs_ofW (by decide +kernel) (Nat.le_of_ble_eq_true rfl) ?_
  intro p e s m args below meth c C hr
  replace C : Bd g RX6 cX6_opens 2 p s m args meth c := C
  unfold fX6_opens
  refine zs_iload_n (pc := 0) (k := 1) (i := 1) C (by decide +kernel) rfl rfl ?_
  refine zs_bipush (pc := 1) (n := 6) (x := 6) C (by decide +kernel) (by decide +kernel) ?_
  refine zs_icmp_lt (pc := 3) (off := 10) (tgt := 13) C (by decide +kernel) (by decide) ?_ ?_
  · refine zs_aload_n (pc := 13) (k := 0) (i := 0) C (by decide +kernel) rfl rfl ?_
    refine zs_dup (pc := 14) C rfl (by decide +kernel) ?_
    refine zs_getI (pc := 15) (i := 39) (ci := 6) (k := 5) C (by decide +kernel) fl_RX6_39 rfl rfl (fun x1 => ?_)
    refine zs_iconst (pc := 18) (n := 1) (x := 1) C (by decide +kernel) (by decide +kernel) ?_
    refine zs_iadd (pc := 19) C (by decide +kernel) ?_
    refine zs_putI (pc := 20) (i := 39) (ci := 6) (k := 5) C (fun _ _ _ => rfl) (by decide +kernel) fl_RX6_39 fw_6_5 rfl rfl ?_
    refine zs_iconst (pc := 23) (n := 1) (x := 1) C (by decide +kernel) (by decide +kernel) ?_
    exact zs_retWz (pc := 24) C (by decide) hr ⟨Nat.le_of_ble_eq_true rfl, Nat.le_of_ble_eq_true rfl⟩ (by decide +kernel)
  · refine zs_aload_n (pc := 6) (k := 0) (i := 0) C (by decide +kernel) rfl rfl ?_
    refine zs_iconst (pc := 7) (n := 4) (x := 4) C (by decide +kernel) (by decide +kernel) ?_
    refine zs_cvVv (pc := 8) (As := [sI 4]) (st := []) C (fun _ _ _ => rfl) (c_X6_refuse l g 4) ml_RX6_86 rfl rfl rfl rfl (Nat.le_of_ble_eq_true rfl) ⟨Nat.le_of_ble_eq_true rfl, Nat.le_of_ble_eq_true rfl⟩ ⟨Nat.le_of_ble_eq_true rfl, Nat.le_of_ble_eq_true rfl⟩ (by decide +kernel) ?_
    refine zs_iconst (pc := 11) (n := 0) (x := 0) C (by decide +kernel) (by decide +kernel) ?_
    exact zs_retWz (pc := 12) C (by decide) hr ⟨Nat.le_of_ble_eq_true rfl, Nat.le_of_ble_eq_true rfl⟩ (by decide +kernel)
set_option maxRecDepth 20000 in
theorem c_X4_put (l : Launch) (g : GC) (o : Nat) (a0 : Int) (h0 : layL[o]? = some (.inl 4)) : ConV l g yX4_put cX4_put 2 (rmd 1 0 0) [sR o, sI a0] (fun mm => fX4_put o a0 mm) := by
  refine zs_ofV (by decide +kernel) (Nat.le_of_ble_eq_true rfl) ?_
  intro p e s m args below meth c C hr
  replace C : Bd g RX4 cX4_put 2 p s m args meth c := C
  unfold fX4_put
  refine zs_aload_n (pc := 0) (k := 0) (i := 0) C (by decide +kernel) rfl rfl ?_
  refine zs_dup (pc := 1) C rfl (by decide +kernel) ?_
  refine zs_getI (pc := 2) (i := 29) (ci := 4) (k := 5) C (by decide +kernel) fl_RX4_29 h0 rfl (fun x1 => ?_)
  refine zs_iload_n (pc := 5) (k := 1) (i := 1) C (by decide +kernel) rfl rfl ?_
  refine zs_sipush (pc := 6) (n := 131) (x := 131) C (by decide +kernel) (by decide +kernel) ?_
  refine zs_jn (pJ := 17) (kJ := 0) (sJ := 0) (fun t2 => [(0, sR o), (1, sI a0)]) (fun t2 => [sI t2, sI x1, sR o]) (fun t2 => ?_) (fun J3 hJ3 => ?_)
  · refine zs_ior (pc := 17) C (by decide +kernel) ?_
    refine zs_putZ (pc := 18) (i := 29) (ci := 4) (k := 5) C (fun _ _ _ => rfl) (by decide +kernel) fl_RX4_29 fw_4_5 h0 rfl ?_
    refine zs_aload_n (pc := 21) (k := 0) (i := 0) C (by decide +kernel) rfl rfl ?_
    refine zs_dup (pc := 22) C rfl (by decide +kernel) ?_
    refine zs_getI (pc := 23) (i := 32) (ci := 4) (k := 6) C (by decide +kernel) fl_RX4_32 h0 rfl (fun x4 => ?_)
    refine zs_iload_n (pc := 26) (k := 1) (i := 1) C (by decide +kernel) rfl rfl ?_
    refine zs_sipush (pc := 27) (n := 130) (x := 130) C (by decide +kernel) (by decide +kernel) ?_
    refine zs_jn (pJ := 38) (kJ := 0) (sJ := 0) (fun t5 => [(0, sR o), (1, sI a0)]) (fun t5 => [sI t5, sI x4, sR o]) (fun t5 => ?_) (fun J6 hJ6 => ?_)
    · refine zs_ior (pc := 38) C (by decide +kernel) ?_
      refine zs_putZ (pc := 39) (i := 32) (ci := 4) (k := 6) C (fun _ _ _ => rfl) (by decide +kernel) fl_RX4_32 fw_4_6 h0 rfl ?_
      refine zs_aload_n (pc := 42) (k := 0) (i := 0) C (by decide +kernel) rfl rfl ?_
      refine zs_getI (pc := 43) (i := 15) (ci := 4) (k := 1) C (by decide +kernel) fl_RX4_15 h0 rfl (fun x7 => ?_)
      refine zs_sipush (pc := 46) (n := 900) (x := 900) C (by decide +kernel) (by decide +kernel) ?_
      refine zs_jn (pJ := 72) (kJ := 0) (sJ := 0) (fun t8 => []) (fun t8 => []) (fun t8 => ?_) (fun J9 hJ9 => ?_)
      · exact zs_retVv (pc := 72) C hr ⟨Nat.le_of_ble_eq_true rfl, Nat.le_of_ble_eq_true rfl⟩ (by decide +kernel)
      · refine zs_icmp_ge (pc := 49) (off := 23) (tgt := 72) C (by decide +kernel) (by decide) ?_ ?_
        · exact zs_goj (hJ9 ()) trivial
        · refine zs_aload_n (pc := 52) (k := 0) (i := 0) C (by decide +kernel) rfl rfl ?_
          refine zs_getR (o' := (o + 1)) (pc := 53) (i := 9) (ci := 4) (k := 0) C (by decide +kernel) fl_RX4_9 h0 rfl rfl ?_
          refine zs_aload_n (pc := 56) (k := 0) (i := 0) C (by decide +kernel) rfl rfl ?_
          refine zs_getI (pc := 57) (i := 15) (ci := 4) (k := 1) C (by decide +kernel) fl_RX4_15 h0 rfl (fun x10 => ?_)
          refine zs_iload_n (pc := 60) (k := 1) (i := 1) C (by decide +kernel) rfl rfl ?_
          refine zs_iast (pc := 61) (o := (o + 1)) (n := 900) C (fun _ _ _ => rfl) (by decide +kernel) (ly_o_4_1 h0) ?_
          refine zs_aload_n (pc := 62) (k := 0) (i := 0) C (by decide +kernel) rfl rfl ?_
          refine zs_dup (pc := 63) C rfl (by decide +kernel) ?_
          refine zs_getI (pc := 64) (i := 15) (ci := 4) (k := 1) C (by decide +kernel) fl_RX4_15 h0 rfl (fun x11 => ?_)
          refine zs_iconst (pc := 67) (n := 1) (x := 1) C (by decide +kernel) (by decide +kernel) ?_
          refine zs_iadd (pc := 68) C (by decide +kernel) ?_
          refine zs_putI (pc := 69) (i := 15) (ci := 4) (k := 1) C (fun _ _ _ => rfl) (by decide +kernel) fl_RX4_15 fw_4_1 h0 rfl ?_
          exact zs_goj (hJ9 ()) trivial
    · refine zs_icmp_ne (pc := 30) (off := 7) (tgt := 37) C (by decide +kernel) (by decide) ?_ ?_
      · refine zs_iconst (pc := 37) (n := 0) (x := 0) C (by decide +kernel) (by decide +kernel) ?_
        exact zs_goj (hJ6 0) ⟨rfl, rfl, trivial⟩
      · refine zs_iconst (pc := 33) (n := 1) (x := 1) C (by decide +kernel) (by decide +kernel) ?_
        refine zs_goto (pc := 34) (off := 4) (tgt := 38) C (by decide +kernel) (by decide) ?_
        exact zs_goj (hJ6 1) ⟨rfl, rfl, trivial⟩
  · refine zs_icmp_ne (pc := 9) (off := 7) (tgt := 16) C (by decide +kernel) (by decide) ?_ ?_
    · refine zs_iconst (pc := 16) (n := 0) (x := 0) C (by decide +kernel) (by decide +kernel) ?_
      exact zs_goj (hJ3 0) ⟨rfl, rfl, trivial⟩
    · refine zs_iconst (pc := 12) (n := 1) (x := 1) C (by decide +kernel) (by decide +kernel) ?_
      refine zs_goto (pc := 13) (off := 4) (tgt := 17) C (by decide +kernel) (by decide) ?_
      exact zs_goj (hJ3 1) ⟨rfl, rfl, trivial⟩
set_option maxRecDepth 20000 in
theorem c_X4_knows (l : Launch) (g : GC) (o : Nat) (a0 : Int) (h0 : layL[o]? = some (.inl 4)) : ConR l g yX4_knows cX4_knows 2 (some .boolean) (rmd 1 0 0) [sR o, sI a0] (fun mm => fX4_knows o a0 mm) := by
  refine zs_ofR (by decide +kernel) (Nat.le_of_ble_eq_true rfl) ?_
  intro p e s m args below meth c C hr
  replace C : Bd g RX4 cX4_knows 2 p s m args meth c := C
  unfold fX4_knows
  refine zs_iload_n (pc := 0) (k := 1) (i := 1) C (by decide +kernel) rfl rfl ?_
  refine zs_aload_n (pc := 1) (k := 0) (i := 0) C (by decide +kernel) rfl rfl ?_
  refine zs_getI (pc := 2) (i := 19) (ci := 4) (k := 2) C (by decide +kernel) fl_RX4_19 h0 rfl (fun x1 => ?_)
  refine zs_jn (pJ := 21) (kJ := 0) (sJ := 0) (fun t2 => []) (fun t2 => [sI t2]) (fun t2 => ?_) (fun J3 hJ3 => ?_)
  · refine zs_chk (fun _ hx => ?_)
    exact zs_retRz (pc := 21) C hx hr ⟨Nat.le_of_ble_eq_true rfl, Nat.le_of_ble_eq_true rfl⟩ (by decide +kernel)
  · refine zs_jn (pJ := 20) (kJ := 0) (sJ := 0) (fun t4 => []) (fun t4 => []) (fun t4 => ?_) (fun J5 hJ5 => ?_)
    · refine zs_iconst (pc := 20) (n := 0) (x := 0) C (by decide +kernel) (by decide +kernel) ?_
      exact zs_goj (hJ3 0) trivial
    · refine zs_icmp_lt (pc := 5) (off := 15) (tgt := 20) C (by decide +kernel) (by decide) ?_ ?_
      · exact zs_goj (hJ5 ()) trivial
      · refine zs_iload_n (pc := 8) (k := 1) (i := 1) C (by decide +kernel) rfl rfl ?_
        refine zs_aload_n (pc := 9) (k := 0) (i := 0) C (by decide +kernel) rfl rfl ?_
        refine zs_getI (pc := 10) (i := 22) (ci := 4) (k := 3) C (by decide +kernel) fl_RX4_22 h0 rfl (fun x6 => ?_)
        refine zs_icmp_gt (pc := 13) (off := 7) (tgt := 20) C (by decide +kernel) (by decide) ?_ ?_
        · exact zs_goj (hJ5 ()) trivial
        · refine zs_iconst (pc := 16) (n := 1) (x := 1) C (by decide +kernel) (by decide +kernel) ?_
          refine zs_goto (pc := 17) (off := 4) (tgt := 21) C (by decide +kernel) (by decide) ?_
          exact zs_goj (hJ3 1) trivial
set_option maxRecDepth 20000 in
theorem cg_X6_readSum (l : Launch) (g : GC) : ∀ n : Nat, (∀ (a0 : Int), ConV l g yX6_readSum cX6_readSum 4 (rmd (3 + n) 0 0) [sR 2, sI a0] (fun mm => gX6_readSum n 0 a0 mm)) ∧ (∀ (a0 : Int), ConV l g yX6_readTerm cX6_readTerm 3 (rmd (3 + n) 0 0) [sR 2, sI a0] (fun mm => gX6_readSum n 1 a0 mm)) ∧ (∀ (a0 : Int), ConV l g yX6_readAtom cX6_readAtom 3 (rmd (3 + n) 0 0) [sR 2, sI a0] (fun mm => gX6_readSum n 2 a0 mm)) := by
  intro n
  induction n with
  | zero => exact ⟨(fun _ _ _ h => by cases h), (fun _ _ _ h => by cases h), (fun _ _ _ h => by cases h)⟩
  | succ n ih =>
    refine ⟨?_, ?_, ?_⟩
    · intro a0
      show ConV l g yX6_readSum cX6_readSum 4 (rmd (3 + (n + 1)) 0 0) [sR 2, sI a0] (fun mm => fX6_readSum_F (gX6_readSum n) a0 mm)
      refine zs_ofV (by decide +kernel) (Nat.le_of_ble_eq_true rfl) ?_
      intro p e s m args below meth c C hr
      replace C : Bd g RX6 cX6_readSum 4 p s m args meth c := C
      unfold fX6_readSum_F
      refine zs_aload_n (pc := 0) (k := 0) (i := 0) C (by decide +kernel) rfl rfl ?_
      refine zs_iload_n (pc := 1) (k := 1) (i := 1) C (by decide +kernel) rfl rfl ?_
      refine zs_cvVv (pc := 2) (As := [sI a0]) (st := []) C (fun _ _ _ => rfl) (ih.2.1 a0) ml_RX6_189 rfl rfl rfl rfl (Nat.le_of_ble_eq_true rfl) (by constructor <;> simp only [rmd] <;> omega) (by constructor <;> simp only [rmd] <;> omega) (by decide +kernel) ?_
      refine zs_iconst (pc := 5) (n := 0) (x := 0) C (by decide +kernel) (by decide +kernel) ?_
      refine zs_istore_n (pc := 6) (k := 2) (i := 2) (ls' := [(2, sI 0), (0, sR 2), (1, sI a0)]) C (by decide +kernel) rfl (Nat.le_of_ble_eq_true rfl) rfl ?_
      refine zs_sub (ls' := [(0, sR 2), (1, sI a0), (2, sI 0)]) ⟨rfl, rfl, rfl, trivial⟩ ?_
      refine zs_lp (pc := 7) (fun (t1 : Int) => [(0, sR 2), (1, sI a0), (2, sI t1)]) (fun _ => []) (fun K2 hK2 t1 => ?_) BIG 0
      refine zs_iload_n (pc := 7) (k := 2) (i := 2) C (by decide +kernel) rfl rfl ?_
      refine zs_sipush (pc := 8) (n := 900) (x := 900) C (by decide +kernel) (by decide +kernel) ?_
      refine zs_jn (pJ := 66) (kJ := 0) (sJ := 0) (fun t3 => []) (fun t3 => []) (fun t3 => ?_) (fun J4 hJ4 => ?_)
      · exact zs_retVv (pc := 66) C hr ⟨Nat.zero_le _, Nat.zero_le _⟩ (by decide +kernel)
      · refine zs_icmp_ge (pc := 11) (off := 55) (tgt := 66) C (by decide +kernel) (by decide) ?_ ?_
        · exact zs_goj (hJ4 ()) trivial
        · refine zs_aload_n (pc := 14) (k := 0) (i := 0) C (by decide +kernel) rfl rfl ?_
          refine zs_cvRi (pc := 15) (As := []) (st := []) C rfl (c_X6_token l g ) ml_RX6_66 rfl rfl rfl rfl (Nat.le_of_ble_eq_true rfl) (by constructor <;> simp only [rmd] <;> omega) (by constructor <;> simp only [rmd] <;> omega) (by decide +kernel) (fun x5 => ?_)
          refine zs_bipush (pc := 18) (n := 43) (x := 43) C (by decide +kernel) (by decide +kernel) ?_
          refine zs_jn (pJ := 32) (kJ := 0) (sJ := 0) (fun t6 => [(0, sR 2), (1, sI a0), (2, sI t1)]) (fun t6 => []) (fun t6 => ?_) (fun J7 hJ7 => ?_)
          · refine zs_aload_n (pc := 32) (k := 0) (i := 0) C (by decide +kernel) rfl rfl ?_
            refine zs_cvRi (pc := 33) (As := []) (st := []) C rfl (c_X6_token l g ) ml_RX6_66 rfl rfl rfl rfl (Nat.le_of_ble_eq_true rfl) (by constructor <;> simp only [rmd] <;> omega) (by constructor <;> simp only [rmd] <;> omega) (by decide +kernel) (fun x8 => ?_)
            refine zs_istore_n (pc := 36) (k := 3) (i := 3) (ls' := [(3, sI x8), (0, sR 2), (1, sI a0), (2, sI t1)]) C (by decide +kernel) rfl (Nat.le_of_ble_eq_true rfl) rfl ?_
            refine zs_aload_n (pc := 37) (k := 0) (i := 0) C (by decide +kernel) rfl rfl ?_
            refine zs_dup (pc := 38) C rfl (by decide +kernel) ?_
            refine zs_getI (pc := 39) (i := 39) (ci := 6) (k := 5) C (by decide +kernel) fl_RX6_39 rfl rfl (fun x9 => ?_)
            refine zs_iconst (pc := 42) (n := 1) (x := 1) C (by decide +kernel) (by decide +kernel) ?_
            refine zs_iadd (pc := 43) C (by decide +kernel) ?_
            refine zs_putI (pc := 44) (i := 39) (ci := 6) (k := 5) C (fun _ _ _ => rfl) (by decide +kernel) fl_RX6_39 fw_6_5 rfl rfl ?_
            refine zs_aload_n (pc := 47) (k := 0) (i := 0) C (by decide +kernel) rfl rfl ?_
            refine zs_iload_n (pc := 48) (k := 1) (i := 1) C (by decide +kernel) rfl rfl ?_
            refine zs_cvVv (pc := 49) (As := [sI a0]) (st := []) C (fun _ _ _ => rfl) (ih.2.1 a0) ml_RX6_189 rfl rfl rfl rfl (Nat.le_of_ble_eq_true rfl) (by constructor <;> simp only [rmd] <;> omega) (by constructor <;> simp only [rmd] <;> omega) (by decide +kernel) ?_
            refine zs_aload_n (pc := 52) (k := 0) (i := 0) C (by decide +kernel) rfl rfl ?_
            refine zs_getM (pc := 53) (i := 52) (ci := 6) (k := 8) C (by decide +kernel) fl_RX6_52 rfl rfl (fun x10 => ?_)
            refine zs_need (fun hx10 => ?_)
            refine zs_iload_n (pc := 56) (k := 3) (i := 3) C (by decide +kernel) rfl rfl ?_
            refine zs_cvVv (pc := 57) (As := [sI x8]) (st := []) C (fun _ _ _ => rfl) (c_X4_put l g x10 x8 hx10) ml_RX6_179 hx10 rfl rfl rfl (Nat.le_of_ble_eq_true rfl) (by constructor <;> simp only [rmd] <;> omega) (by constructor <;> simp only [rmd] <;> omega) (by decide +kernel) ?_
            refine zs_iinc (pc := 60) (i := 2) (n := 1) (y := w32 (t1 + 1)) (ls' := [(2, sI (w32 (t1 + 1))), (3, sI x8), (0, sR 2), (1, sI a0)]) C (by decide +kernel) rfl rfl (Nat.le_of_ble_eq_true rfl) rfl ?_
            refine zs_goto (pc := 63) (off := (-56)) (tgt := 7) C (by decide +kernel) (by decide) ?_
            exact zs_goj (hK2 (w32 (t1 + 1))) ⟨rfl, rfl, rfl, trivial⟩
          · refine zs_icmp_eq (pc := 20) (off := 12) (tgt := 32) C (by decide +kernel) (by decide) ?_ ?_
            · exact zs_goj (hJ7 ()) ⟨rfl, rfl, rfl, trivial⟩
            · refine zs_aload_n (pc := 23) (k := 0) (i := 0) C (by decide +kernel) rfl rfl ?_
              refine zs_cvRi (pc := 24) (As := []) (st := []) C rfl (c_X6_token l g ) ml_RX6_66 rfl rfl rfl rfl (Nat.le_of_ble_eq_true rfl) (by constructor <;> simp only [rmd] <;> omega) (by constructor <;> simp only [rmd] <;> omega) (by decide +kernel) (fun x11 => ?_)
              refine zs_bipush (pc := 27) (n := 45) (x := 45) C (by decide +kernel) (by decide +kernel) ?_
              refine zs_icmp_ne (pc := 29) (off := 37) (tgt := 66) C (by decide +kernel) (by decide) ?_ ?_
              · exact zs_goj (hJ4 ()) trivial
              · exact zs_goj (hJ7 ()) ⟨rfl, rfl, rfl, trivial⟩
    · intro a0
      show ConV l g yX6_readTerm cX6_readTerm 3 (rmd (3 + (n + 1)) 0 0) [sR 2, sI a0] (fun mm => fX6_readTerm_F (gX6_readSum n) a0 mm)
      refine zs_ofV (by decide +kernel) (Nat.le_of_ble_eq_true rfl) ?_
      intro p e s m args below meth c C hr
      replace C : Bd g RX6 cX6_readTerm 3 p s m args meth c := C
      unfold fX6_readTerm_F
      refine zs_aload_n (pc := 0) (k := 0) (i := 0) C (by decide +kernel) rfl rfl ?_
      refine zs_iload_n (pc := 1) (k := 1) (i := 1) C (by decide +kernel) rfl rfl ?_
      refine zs_cvVv (pc := 2) (As := [sI a0]) (st := []) C (fun _ _ _ => rfl) (ih.2.2 a0) ml_RX6_192 rfl rfl rfl rfl (Nat.le_of_ble_eq_true rfl) (by constructor <;> simp only [rmd] <;> omega) (by constructor <;> simp only [rmd] <;> omega) (by decide +kernel) ?_
      refine zs_iconst (pc := 5) (n := 0) (x := 0) C (by decide +kernel) (by decide +kernel) ?_
      refine zs_istore_n (pc := 6) (k := 2) (i := 2) (ls' := [(2, sI 0), (0, sR 2), (1, sI a0)]) C (by decide +kernel) rfl (Nat.le_of_ble_eq_true rfl) rfl ?_
      refine zs_sub (ls' := [(0, sR 2), (1, sI a0), (2, sI 0)]) ⟨rfl, rfl, rfl, trivial⟩ ?_
      refine zs_lp (pc := 7) (fun (t1 : Int) => [(0, sR 2), (1, sI a0), (2, sI t1)]) (fun _ => []) (fun K2 hK2 t1 => ?_) BIG 0
      refine zs_iload_n (pc := 7) (k := 2) (i := 2) C (by decide +kernel) rfl rfl ?_
      refine zs_sipush (pc := 8) (n := 900) (x := 900) C (by decide +kernel) (by decide +kernel) ?_
      refine zs_jn (pJ := 53) (kJ := 0) (sJ := 0) (fun t3 => []) (fun t3 => []) (fun t3 => ?_) (fun J4 hJ4 => ?_)
      · exact zs_retVv (pc := 53) C hr ⟨Nat.zero_le _, Nat.zero_le _⟩ (by decide +kernel)
      · refine zs_icmp_ge (pc := 11) (off := 42) (tgt := 53) C (by decide +kernel) (by decide) ?_ ?_
        · exact zs_goj (hJ4 ()) trivial
        · refine zs_aload_n (pc := 14) (k := 0) (i := 0) C (by decide +kernel) rfl rfl ?_
          refine zs_cvRi (pc := 15) (As := []) (st := []) C rfl (c_X6_token l g ) ml_RX6_66 rfl rfl rfl rfl (Nat.le_of_ble_eq_true rfl) (by constructor <;> simp only [rmd] <;> omega) (by constructor <;> simp only [rmd] <;> omega) (by decide +kernel) (fun x5 => ?_)
          refine zs_bipush (pc := 18) (n := 42) (x := 42) C (by decide +kernel) (by decide +kernel) ?_
          refine zs_icmp_ne (pc := 20) (off := 33) (tgt := 53) C (by decide +kernel) (by decide) ?_ ?_
          · exact zs_goj (hJ4 ()) trivial
          · refine zs_aload_n (pc := 23) (k := 0) (i := 0) C (by decide +kernel) rfl rfl ?_
            refine zs_dup (pc := 24) C rfl (by decide +kernel) ?_
            refine zs_getI (pc := 25) (i := 39) (ci := 6) (k := 5) C (by decide +kernel) fl_RX6_39 rfl rfl (fun x6 => ?_)
            refine zs_iconst (pc := 28) (n := 1) (x := 1) C (by decide +kernel) (by decide +kernel) ?_
            refine zs_iadd (pc := 29) C (by decide +kernel) ?_
            refine zs_putI (pc := 30) (i := 39) (ci := 6) (k := 5) C (fun _ _ _ => rfl) (by decide +kernel) fl_RX6_39 fw_6_5 rfl rfl ?_
            refine zs_aload_n (pc := 33) (k := 0) (i := 0) C (by decide +kernel) rfl rfl ?_
            refine zs_iload_n (pc := 34) (k := 1) (i := 1) C (by decide +kernel) rfl rfl ?_
            refine zs_cvVv (pc := 35) (As := [sI a0]) (st := []) C (fun _ _ _ => rfl) (ih.2.2 a0) ml_RX6_192 rfl rfl rfl rfl (Nat.le_of_ble_eq_true rfl) (by constructor <;> simp only [rmd] <;> omega) (by constructor <;> simp only [rmd] <;> omega) (by decide +kernel) ?_
            refine zs_aload_n (pc := 38) (k := 0) (i := 0) C (by decide +kernel) rfl rfl ?_
            refine zs_getM (pc := 39) (i := 52) (ci := 6) (k := 8) C (by decide +kernel) fl_RX6_52 rfl rfl (fun x7 => ?_)
            refine zs_need (fun hx7 => ?_)
            refine zs_bipush (pc := 42) (n := 42) (x := 42) C (by decide +kernel) (by decide +kernel) ?_
            refine zs_cvVv (pc := 44) (As := [sI 42]) (st := []) C (fun _ _ _ => rfl) (c_X4_put l g x7 42 hx7) ml_RX6_179 hx7 rfl rfl rfl (Nat.le_of_ble_eq_true rfl) (by constructor <;> simp only [rmd] <;> omega) (by constructor <;> simp only [rmd] <;> omega) (by decide +kernel) ?_
            refine zs_iinc (pc := 47) (i := 2) (n := 1) (y := w32 (t1 + 1)) (ls' := [(2, sI (w32 (t1 + 1))), (0, sR 2), (1, sI a0)]) C (by decide +kernel) rfl rfl (Nat.le_of_ble_eq_true rfl) rfl ?_
            refine zs_goto (pc := 50) (off := (-43)) (tgt := 7) C (by decide +kernel) (by decide) ?_
            exact zs_goj (hK2 (w32 (t1 + 1))) ⟨rfl, rfl, rfl, trivial⟩
    · intro a0
      show ConV l g yX6_readAtom cX6_readAtom 3 (rmd (3 + (n + 1)) 0 0) [sR 2, sI a0] (fun mm => fX6_readAtom_F (gX6_readSum n) a0 mm)
      refine zs_ofV (by decide +kernel) (Nat.le_of_ble_eq_true rfl) ?_
      intro p e s m args below meth c C hr
      replace C : Bd g RX6 cX6_readAtom 3 p s m args meth c := C
      unfold fX6_readAtom_F
      refine zs_aload_n (pc := 0) (k := 0) (i := 0) C (by decide +kernel) rfl rfl ?_
      refine zs_cvRi (pc := 1) (As := []) (st := []) C rfl (c_X6_token l g ) ml_RX6_66 rfl rfl rfl rfl (Nat.le_of_ble_eq_true rfl) (by constructor <;> simp only [rmd] <;> omega) (by constructor <;> simp only [rmd] <;> omega) (by decide +kernel) (fun x1 => ?_)
      refine zs_istore_n (pc := 4) (k := 2) (i := 2) (ls' := [(2, sI x1), (0, sR 2), (1, sI a0)]) C (by decide +kernel) rfl (Nat.le_of_ble_eq_true rfl) rfl ?_
      refine zs_iload_n (pc := 5) (k := 2) (i := 2) C (by decide +kernel) rfl rfl ?_
      refine zs_bipush (pc := 6) (n := 40) (x := 40) C (by decide +kernel) (by decide +kernel) ?_
      refine zs_jn (pJ := 113) (kJ := 0) (sJ := 0) (fun t2 => []) (fun t2 => []) (fun t2 => ?_) (fun J3 hJ3 => ?_)
      · exact zs_retVv (pc := 113) C hr ⟨Nat.zero_le _, Nat.zero_le _⟩ (by decide +kernel)
      · refine zs_icmp_ne (pc := 8) (off := 27) (tgt := 35) C (by decide +kernel) (by decide) ?_ ?_
        · refine zs_iload_n (pc := 35) (k := 2) (i := 2) C (by decide +kernel) rfl rfl ?_
          refine zs_iconst (pc := 36) (n := 1) (x := 1) C (by decide +kernel) (by decide +kernel) ?_
          refine zs_icmp_ne (pc := 37) (off := 39) (tgt := 76) C (by decide +kernel) (by decide) ?_ ?_
          · refine zs_aload_n (pc := 76) (k := 0) (i := 0) C (by decide +kernel) rfl rfl ?_
            refine zs_getM (pc := 77) (i := 52) (ci := 6) (k := 8) C (by decide +kernel) fl_RX6_52 rfl rfl (fun x4 => ?_)
            refine zs_need (fun hx4 => ?_)
            refine zs_iload_n (pc := 80) (k := 2) (i := 2) C (by decide +kernel) rfl rfl ?_
            refine zs_cvRi (pc := 81) (As := [sI x1]) (st := []) C rfl (c_X4_knows l g x4 x1 hx4) ml_RX6_195 hx4 rfl rfl rfl (Nat.le_of_ble_eq_true rfl) (by constructor <;> simp only [rmd] <;> omega) (by constructor <;> simp only [rmd] <;> omega) (by decide +kernel) (fun x5 => ?_)
            refine zs_if_eq (pc := 84) (off := 24) (tgt := 108) C (by decide +kernel) (by decide) ?_ ?_
            · refine zs_aload_n (pc := 108) (k := 0) (i := 0) C (by decide +kernel) rfl rfl ?_
              refine zs_iconst (pc := 109) (n := 2) (x := 2) C (by decide +kernel) (by decide +kernel) ?_
              refine zs_cvVv (pc := 110) (As := [sI 2]) (st := []) C (fun _ _ _ => rfl) (c_X6_refuse l g 2) ml_RX6_86 rfl rfl rfl rfl (Nat.le_of_ble_eq_true rfl) (by constructor <;> simp only [rmd] <;> omega) (by constructor <;> simp only [rmd] <;> omega) (by decide +kernel) ?_
              exact zs_goj (hJ3 ()) trivial
            · refine zs_aload_n (pc := 87) (k := 0) (i := 0) C (by decide +kernel) rfl rfl ?_
              refine zs_getM (pc := 88) (i := 52) (ci := 6) (k := 8) C (by decide +kernel) fl_RX6_52 rfl rfl (fun x6 => ?_)
              refine zs_need (fun hx6 => ?_)
              refine zs_iload_n (pc := 91) (k := 2) (i := 2) C (by decide +kernel) rfl rfl ?_
              refine zs_cvVv (pc := 92) (As := [sI x1]) (st := []) C (fun _ _ _ => rfl) (c_X4_put l g x6 x1 hx6) ml_RX6_179 hx6 rfl rfl rfl (Nat.le_of_ble_eq_true rfl) (by constructor <;> simp only [rmd] <;> omega) (by constructor <;> simp only [rmd] <;> omega) (by decide +kernel) ?_
              refine zs_aload_n (pc := 95) (k := 0) (i := 0) C (by decide +kernel) rfl rfl ?_
              refine zs_dup (pc := 96) C rfl (by decide +kernel) ?_
              refine zs_getI (pc := 97) (i := 39) (ci := 6) (k := 5) C (by decide +kernel) fl_RX6_39 rfl rfl (fun x7 => ?_)
              refine zs_iconst (pc := 100) (n := 1) (x := 1) C (by decide +kernel) (by decide +kernel) ?_
              refine zs_iadd (pc := 101) C (by decide +kernel) ?_
              refine zs_putI (pc := 102) (i := 39) (ci := 6) (k := 5) C (fun _ _ _ => rfl) (by decide +kernel) fl_RX6_39 fw_6_5 rfl rfl ?_
              refine zs_goto (pc := 105) (off := 8) (tgt := 113) C (by decide +kernel) (by decide) ?_
              exact zs_goj (hJ3 ()) trivial
          · refine zs_aload_n (pc := 40) (k := 0) (i := 0) C (by decide +kernel) rfl rfl ?_
            refine zs_getM (pc := 41) (i := 52) (ci := 6) (k := 8) C (by decide +kernel) fl_RX6_52 rfl rfl (fun x8 => ?_)
            refine zs_need (fun hx8 => ?_)
            refine zs_sipush (pc := 44) (n := 1000) (x := 1000) C (by decide +kernel) (by decide +kernel) ?_
            refine zs_aload_n (pc := 47) (k := 0) (i := 0) C (by decide +kernel) rfl rfl ?_
            refine zs_getR (o' := 3) (pc := 48) (i := 12) (ci := 6) (k := 0) C (by decide +kernel) fl_RX6_12 rfl rfl rfl ?_
            refine zs_getR (o' := 5) (pc := 51) (i := 90) (ci := 8) (k := 1) C (by decide +kernel) fl_RX6_90 rfl rfl rfl ?_
            refine zs_aload_n (pc := 54) (k := 0) (i := 0) C (by decide +kernel) rfl rfl ?_
            refine zs_getI (pc := 55) (i := 39) (ci := 6) (k := 5) C (by decide +kernel) fl_RX6_39 rfl rfl (fun x9 => ?_)
            refine zs_iald (pc := 58) (o := 5) (n := 901) C (by decide +kernel) rfl (fun hinx10 x10 => ?_)
            refine zs_iadd (pc := 59) C (by decide +kernel) ?_
            refine zs_cvVv (pc := 60) (As := [sI (w32 (1000 + x10))]) (st := []) C (fun _ _ _ => rfl) (c_X4_put l g x8 (w32 (1000 + x10)) hx8) ml_RX6_179 hx8 rfl rfl rfl (Nat.le_of_ble_eq_true rfl) (by constructor <;> simp only [rmd] <;> omega) (by constructor <;> simp only [rmd] <;> omega) (by decide +kernel) ?_
            refine zs_aload_n (pc := 63) (k := 0) (i := 0) C (by decide +kernel) rfl rfl ?_
            refine zs_dup (pc := 64) C rfl (by decide +kernel) ?_
            refine zs_getI (pc := 65) (i := 39) (ci := 6) (k := 5) C (by decide +kernel) fl_RX6_39 rfl rfl (fun x11 => ?_)
            refine zs_iconst (pc := 68) (n := 1) (x := 1) C (by decide +kernel) (by decide +kernel) ?_
            refine zs_iadd (pc := 69) C (by decide +kernel) ?_
            refine zs_putI (pc := 70) (i := 39) (ci := 6) (k := 5) C (fun _ _ _ => rfl) (by decide +kernel) fl_RX6_39 fw_6_5 rfl rfl ?_
            refine zs_goto (pc := 73) (off := 40) (tgt := 113) C (by decide +kernel) (by decide) ?_
            exact zs_goj (hJ3 ()) trivial
        · refine zs_aload_n (pc := 11) (k := 0) (i := 0) C (by decide +kernel) rfl rfl ?_
          refine zs_iload_n (pc := 12) (k := 1) (i := 1) C (by decide +kernel) rfl rfl ?_
          refine zs_cvWi (pc := 13) (As := [sI a0]) (st := []) C (fun _ _ _ => rfl) rfl (c_X6_opens l g a0) ml_RX6_185 rfl rfl rfl rfl (Nat.le_of_ble_eq_true rfl) (by constructor <;> simp only [rmd] <;> omega) (by constructor <;> simp only [rmd] <;> omega) (by decide +kernel) (fun x12 => ?_)
          refine zs_if_eq (pc := 16) (off := 97) (tgt := 113) C (by decide +kernel) (by decide) ?_ ?_
          · exact zs_goj (hJ3 ()) trivial
          · refine zs_aload_n (pc := 19) (k := 0) (i := 0) C (by decide +kernel) rfl rfl ?_
            refine zs_iload_n (pc := 20) (k := 1) (i := 1) C (by decide +kernel) rfl rfl ?_
            refine zs_iconst (pc := 21) (n := 1) (x := 1) C (by decide +kernel) (by decide +kernel) ?_
            refine zs_iadd (pc := 22) C (by decide +kernel) ?_
            refine zs_cvVv (pc := 23) (As := [sI (w32 (a0 + 1))]) (st := []) C (fun _ _ _ => rfl) (ih.1 (w32 (a0 + 1))) ml_RX6_167 rfl rfl rfl rfl (Nat.le_of_ble_eq_true rfl) (by constructor <;> simp only [rmd] <;> omega) (by constructor <;> simp only [rmd] <;> omega) (by decide +kernel) ?_
            refine zs_aload_n (pc := 26) (k := 0) (i := 0) C (by decide +kernel) rfl rfl ?_
            refine zs_bipush (pc := 27) (n := 41) (x := 41) C (by decide +kernel) (by decide +kernel) ?_
            refine zs_cvVv (pc := 29) (As := [sI 41]) (st := []) C (fun _ _ _ => rfl) (c_X6_take l g 41) ml_RX6_103 rfl rfl rfl rfl (Nat.le_of_ble_eq_true rfl) (by constructor <;> simp only [rmd] <;> omega) (by constructor <;> simp only [rmd] <;> omega) (by decide +kernel) ?_
            refine zs_goto (pc := 32) (off := 81) (tgt := 113) C (by decide +kernel) (by decide) ?_
            exact zs_goj (hJ3 ()) trivial
set_option maxRecDepth 20000 in
theorem c_X6_readLengthLaw (l : Launch) (g : GC)  : ConV l g yX6_readLengthLaw cX6_readLengthLaw 1 (rmd 34 0 0) [sR 2] (fun mm => fX6_readLengthLaw  mm) := by
  refine zs_ofV (by decide +kernel) (Nat.le_of_ble_eq_true rfl) ?_
  intro p e s m args below meth c C hr
  replace C : Bd g RX6 cX6_readLengthLaw 1 p s m args meth c := C
  unfold fX6_readLengthLaw
  refine zs_aload_n (pc := 0) (k := 0) (i := 0) C (by decide +kernel) rfl rfl ?_
  refine zs_dup (pc := 1) C rfl (by decide +kernel) ?_
  refine zs_getI (pc := 2) (i := 39) (ci := 6) (k := 5) C (by decide +kernel) fl_RX6_39 rfl rfl (fun x1 => ?_)
  refine zs_iconst (pc := 5) (n := 1) (x := 1) C (by decide +kernel) (by decide +kernel) ?_
  refine zs_iadd (pc := 6) C (by decide +kernel) ?_
  refine zs_putI (pc := 7) (i := 39) (ci := 6) (k := 5) C (fun _ _ _ => rfl) (by decide +kernel) fl_RX6_39 fw_6_5 rfl rfl ?_
  refine zs_aload_n (pc := 10) (k := 0) (i := 0) C (by decide +kernel) rfl rfl ?_
  refine zs_bipush (pc := 11) (n := 58) (x := 58) C (by decide +kernel) (by decide +kernel) ?_
  refine zs_cvVv (pc := 13) (As := [sI 58]) (st := []) C (fun _ _ _ => rfl) (c_X6_take l g 58) ml_RX6_103 rfl rfl rfl rfl (Nat.le_of_ble_eq_true rfl) ⟨Nat.le_of_ble_eq_true rfl, Nat.le_of_ble_eq_true rfl⟩ ⟨Nat.le_of_ble_eq_true rfl, Nat.le_of_ble_eq_true rfl⟩ (by decide +kernel) ?_
  refine zs_aload_n (pc := 16) (k := 0) (i := 0) C (by decide +kernel) rfl rfl ?_
  refine zs_aload_n (pc := 17) (k := 0) (i := 0) C (by decide +kernel) rfl rfl ?_
  refine zs_getR (o' := 7) (pc := 18) (i := 21) (ci := 6) (k := 1) C (by decide +kernel) fl_RX6_21 rfl rfl rfl ?_
  refine zs_getR (o' := 10) (pc := 21) (i := 48) (ci := 3) (k := 8) C (by decide +kernel) fl_RX6_48 rfl rfl rfl ?_
  refine zs_putM (hty := rfl) (pc := 24) (i := 52) (ci := 6) (k := 8) C (fun _ _ _ => rfl) (by decide +kernel) fl_RX6_52 fw_6_8 rfl rfl ?_
  refine zs_aload_n (pc := 27) (k := 0) (i := 0) C (by decide +kernel) rfl rfl ?_
  refine zs_getM (pc := 28) (i := 52) (ci := 6) (k := 8) C (by decide +kernel) fl_RX6_52 rfl rfl (fun x2 => ?_)
  refine zs_need (fun hx2 => ?_)
  refine zs_sipush (pc := 31) (n := 128) (x := 128) C (by decide +kernel) (by decide +kernel) ?_
  refine zs_sipush (pc := 34) (n := 132) (x := 132) C (by decide +kernel) (by decide +kernel) ?_
  refine zs_cvVv (pc := 37) (As := [sI 128, sI 132]) (st := []) C (fun _ _ _ => rfl) (c_X4_begin l g x2 128 132 hx2) ml_RX6_161 hx2 rfl rfl rfl (Nat.le_of_ble_eq_true rfl) ⟨Nat.le_of_ble_eq_true rfl, Nat.le_of_ble_eq_true rfl⟩ ⟨Nat.le_of_ble_eq_true rfl, Nat.le_of_ble_eq_true rfl⟩ (by decide +kernel) ?_
  refine zs_aload_n (pc := 40) (k := 0) (i := 0) C (by decide +kernel) rfl rfl ?_
  refine zs_iconst (pc := 41) (n := 0) (x := 0) C (by decide +kernel) (by decide +kernel) ?_
  refine zs_cvVv (pc := 42) (As := [sI 0]) (st := []) C (fun _ _ _ => rfl) ((cg_X6_readSum l g 30).1 0) ml_RX6_167 rfl rfl rfl rfl (Nat.le_of_ble_eq_true rfl) (by constructor <;> simp only [rmd] <;> omega) (by constructor <;> simp only [rmd] <;> omega) (by decide +kernel) ?_
  exact zs_retVv (pc := 45) C hr ⟨Nat.le_of_ble_eq_true rfl, Nat.le_of_ble_eq_true rfl⟩ (by decide +kernel)
set_option maxRecDepth 20000 in
theorem cg_X6_readTruth (l : Launch) (g : GC) : ∀ n : Nat, (∀ (a0 : Int), ConV l g yX6_readTruth cX6_readTruth 3 (rmd (34 + n) 0 0) [sR 2, sI a0] (fun mm => gX6_readTruth n 0 a0 mm)) ∧ (∀ (a0 : Int), ConV l g yX6_readBoth cX6_readBoth 3 (rmd (34 + n) 0 0) [sR 2, sI a0] (fun mm => gX6_readTruth n 1 a0 mm)) ∧ (∀ (a0 : Int), ConV l g yX6_readUnit cX6_readUnit 4 (rmd (34 + n) 0 0) [sR 2, sI a0] (fun mm => gX6_readTruth n 2 a0 mm)) := by
  intro n
  induction n with
  | zero => exact ⟨(fun _ _ _ h => by cases h), (fun _ _ _ h => by cases h), (fun _ _ _ h => by cases h)⟩
  | succ n ih =>
    refine ⟨?_, ?_, ?_⟩
    · intro a0
      show ConV l g yX6_readTruth cX6_readTruth 3 (rmd (34 + (n + 1)) 0 0) [sR 2, sI a0] (fun mm => fX6_readTruth_F (gX6_readTruth n) a0 mm)
      refine zs_ofV (by decide +kernel) (Nat.le_of_ble_eq_true rfl) ?_
      intro p e s m args below meth c C hr
      replace C : Bd g RX6 cX6_readTruth 3 p s m args meth c := C
      unfold fX6_readTruth_F
      refine zs_aload_n (pc := 0) (k := 0) (i := 0) C (by decide +kernel) rfl rfl ?_
      refine zs_iload_n (pc := 1) (k := 1) (i := 1) C (by decide +kernel) rfl rfl ?_
      refine zs_cvVv (pc := 2) (As := [sI a0]) (st := []) C (fun _ _ _ => rfl) (ih.2.1 a0) ml_RX6_176 rfl rfl rfl rfl (Nat.le_of_ble_eq_true rfl) (by constructor <;> simp only [rmd] <;> omega) (by constructor <;> simp only [rmd] <;> omega) (by decide +kernel) ?_
      refine zs_iconst (pc := 5) (n := 0) (x := 0) C (by decide +kernel) (by decide +kernel) ?_
      refine zs_istore_n (pc := 6) (k := 2) (i := 2) (ls' := [(2, sI 0), (0, sR 2), (1, sI a0)]) C (by decide +kernel) rfl (Nat.le_of_ble_eq_true rfl) rfl ?_
      refine zs_sub (ls' := [(0, sR 2), (1, sI a0), (2, sI 0)]) ⟨rfl, rfl, rfl, trivial⟩ ?_
      refine zs_lp (pc := 7) (fun (t1 : Int) => [(0, sR 2), (1, sI a0), (2, sI t1)]) (fun _ => []) (fun K2 hK2 t1 => ?_) BIG 0
      refine zs_iload_n (pc := 7) (k := 2) (i := 2) C (by decide +kernel) rfl rfl ?_
      refine zs_sipush (pc := 8) (n := 900) (x := 900) C (by decide +kernel) (by decide +kernel) ?_
      refine zs_jn (pJ := 55) (kJ := 0) (sJ := 0) (fun t3 => []) (fun t3 => []) (fun t3 => ?_) (fun J4 hJ4 => ?_)
      · exact zs_retVv (pc := 55) C hr ⟨Nat.zero_le _, Nat.zero_le _⟩ (by decide +kernel)
      · refine zs_icmp_ge (pc := 11) (off := 44) (tgt := 55) C (by decide +kernel) (by decide) ?_ ?_
        · exact zs_goj (hJ4 ()) trivial
        · refine zs_aload_n (pc := 14) (k := 0) (i := 0) C (by decide +kernel) rfl rfl ?_
          refine zs_cvRi (pc := 15) (As := []) (st := []) C rfl (c_X6_token l g ) ml_RX6_66 rfl rfl rfl rfl (Nat.le_of_ble_eq_true rfl) (by constructor <;> simp only [rmd] <;> omega) (by constructor <;> simp only [rmd] <;> omega) (by decide +kernel) (fun x5 => ?_)
          refine zs_sipush (pc := 18) (n := 144) (x := 144) C (by decide +kernel) (by decide +kernel) ?_
          refine zs_icmp_ne (pc := 21) (off := 34) (tgt := 55) C (by decide +kernel) (by decide) ?_ ?_
          · exact zs_goj (hJ4 ()) trivial
          · refine zs_aload_n (pc := 24) (k := 0) (i := 0) C (by decide +kernel) rfl rfl ?_
            refine zs_dup (pc := 25) C rfl (by decide +kernel) ?_
            refine zs_getI (pc := 26) (i := 39) (ci := 6) (k := 5) C (by decide +kernel) fl_RX6_39 rfl rfl (fun x6 => ?_)
            refine zs_iconst (pc := 29) (n := 1) (x := 1) C (by decide +kernel) (by decide +kernel) ?_
            refine zs_iadd (pc := 30) C (by decide +kernel) ?_
            refine zs_putI (pc := 31) (i := 39) (ci := 6) (k := 5) C (fun _ _ _ => rfl) (by decide +kernel) fl_RX6_39 fw_6_5 rfl rfl ?_
            refine zs_aload_n (pc := 34) (k := 0) (i := 0) C (by decide +kernel) rfl rfl ?_
            refine zs_iload_n (pc := 35) (k := 1) (i := 1) C (by decide +kernel) rfl rfl ?_
            refine zs_cvVv (pc := 36) (As := [sI a0]) (st := []) C (fun _ _ _ => rfl) (ih.2.1 a0) ml_RX6_176 rfl rfl rfl rfl (Nat.le_of_ble_eq_true rfl) (by constructor <;> simp only [rmd] <;> omega) (by constructor <;> simp only [rmd] <;> omega) (by decide +kernel) ?_
            refine zs_aload_n (pc := 39) (k := 0) (i := 0) C (by decide +kernel) rfl rfl ?_
            refine zs_getM (pc := 40) (i := 52) (ci := 6) (k := 8) C (by decide +kernel) fl_RX6_52 rfl rfl (fun x7 => ?_)
            refine zs_need (fun hx7 => ?_)
            refine zs_sipush (pc := 43) (n := 144) (x := 144) C (by decide +kernel) (by decide +kernel) ?_
            refine zs_cvVv (pc := 46) (As := [sI 144]) (st := []) C (fun _ _ _ => rfl) (c_X4_put l g x7 144 hx7) ml_RX6_179 hx7 rfl rfl rfl (Nat.le_of_ble_eq_true rfl) (by constructor <;> simp only [rmd] <;> omega) (by constructor <;> simp only [rmd] <;> omega) (by decide +kernel) ?_
            refine zs_iinc (pc := 49) (i := 2) (n := 1) (y := w32 (t1 + 1)) (ls' := [(2, sI (w32 (t1 + 1))), (0, sR 2), (1, sI a0)]) C (by decide +kernel) rfl rfl (Nat.le_of_ble_eq_true rfl) rfl ?_
            refine zs_goto (pc := 52) (off := (-45)) (tgt := 7) C (by decide +kernel) (by decide) ?_
            exact zs_goj (hK2 (w32 (t1 + 1))) ⟨rfl, rfl, rfl, trivial⟩
    · intro a0
      show ConV l g yX6_readBoth cX6_readBoth 3 (rmd (34 + (n + 1)) 0 0) [sR 2, sI a0] (fun mm => fX6_readBoth_F (gX6_readTruth n) a0 mm)
      refine zs_ofV (by decide +kernel) (Nat.le_of_ble_eq_true rfl) ?_
      intro p e s m args below meth c C hr
      replace C : Bd g RX6 cX6_readBoth 3 p s m args meth c := C
      unfold fX6_readBoth_F
      refine zs_aload_n (pc := 0) (k := 0) (i := 0) C (by decide +kernel) rfl rfl ?_
      refine zs_iload_n (pc := 1) (k := 1) (i := 1) C (by decide +kernel) rfl rfl ?_
      refine zs_cvVv (pc := 2) (As := [sI a0]) (st := []) C (fun _ _ _ => rfl) (ih.2.2 a0) ml_RX6_182 rfl rfl rfl rfl (Nat.le_of_ble_eq_true rfl) (by constructor <;> simp only [rmd] <;> omega) (by constructor <;> simp only [rmd] <;> omega) (by decide +kernel) ?_
      refine zs_iconst (pc := 5) (n := 0) (x := 0) C (by decide +kernel) (by decide +kernel) ?_
      refine zs_istore_n (pc := 6) (k := 2) (i := 2) (ls' := [(2, sI 0), (0, sR 2), (1, sI a0)]) C (by decide +kernel) rfl (Nat.le_of_ble_eq_true rfl) rfl ?_
      refine zs_sub (ls' := [(0, sR 2), (1, sI a0), (2, sI 0)]) ⟨rfl, rfl, rfl, trivial⟩ ?_
      refine zs_lp (pc := 7) (fun (t1 : Int) => [(0, sR 2), (1, sI a0), (2, sI t1)]) (fun _ => []) (fun K2 hK2 t1 => ?_) BIG 0
      refine zs_iload_n (pc := 7) (k := 2) (i := 2) C (by decide +kernel) rfl rfl ?_
      refine zs_sipush (pc := 8) (n := 900) (x := 900) C (by decide +kernel) (by decide +kernel) ?_
      refine zs_jn (pJ := 55) (kJ := 0) (sJ := 0) (fun t3 => []) (fun t3 => []) (fun t3 => ?_) (fun J4 hJ4 => ?_)
      · exact zs_retVv (pc := 55) C hr ⟨Nat.zero_le _, Nat.zero_le _⟩ (by decide +kernel)
      · refine zs_icmp_ge (pc := 11) (off := 44) (tgt := 55) C (by decide +kernel) (by decide) ?_ ?_
        · exact zs_goj (hJ4 ()) trivial
        · refine zs_aload_n (pc := 14) (k := 0) (i := 0) C (by decide +kernel) rfl rfl ?_
          refine zs_cvRi (pc := 15) (As := []) (st := []) C rfl (c_X6_token l g ) ml_RX6_66 rfl rfl rfl rfl (Nat.le_of_ble_eq_true rfl) (by constructor <;> simp only [rmd] <;> omega) (by constructor <;> simp only [rmd] <;> omega) (by decide +kernel) (fun x5 => ?_)
          refine zs_sipush (pc := 18) (n := 140) (x := 140) C (by decide +kernel) (by decide +kernel) ?_
          refine zs_icmp_ne (pc := 21) (off := 34) (tgt := 55) C (by decide +kernel) (by decide) ?_ ?_
          · exact zs_goj (hJ4 ()) trivial
          · refine zs_aload_n (pc := 24) (k := 0) (i := 0) C (by decide +kernel) rfl rfl ?_
            refine zs_dup (pc := 25) C rfl (by decide +kernel) ?_
            refine zs_getI (pc := 26) (i := 39) (ci := 6) (k := 5) C (by decide +kernel) fl_RX6_39 rfl rfl (fun x6 => ?_)
            refine zs_iconst (pc := 29) (n := 1) (x := 1) C (by decide +kernel) (by decide +kernel) ?_
            refine zs_iadd (pc := 30) C (by decide +kernel) ?_
            refine zs_putI (pc := 31) (i := 39) (ci := 6) (k := 5) C (fun _ _ _ => rfl) (by decide +kernel) fl_RX6_39 fw_6_5 rfl rfl ?_
            refine zs_aload_n (pc := 34) (k := 0) (i := 0) C (by decide +kernel) rfl rfl ?_
            refine zs_iload_n (pc := 35) (k := 1) (i := 1) C (by decide +kernel) rfl rfl ?_
            refine zs_cvVv (pc := 36) (As := [sI a0]) (st := []) C (fun _ _ _ => rfl) (ih.2.2 a0) ml_RX6_182 rfl rfl rfl rfl (Nat.le_of_ble_eq_true rfl) (by constructor <;> simp only [rmd] <;> omega) (by constructor <;> simp only [rmd] <;> omega) (by decide +kernel) ?_
            refine zs_aload_n (pc := 39) (k := 0) (i := 0) C (by decide +kernel) rfl rfl ?_
            refine zs_getM (pc := 40) (i := 52) (ci := 6) (k := 8) C (by decide +kernel) fl_RX6_52 rfl rfl (fun x7 => ?_)
            refine zs_need (fun hx7 => ?_)
            refine zs_sipush (pc := 43) (n := 140) (x := 140) C (by decide +kernel) (by decide +kernel) ?_
            refine zs_cvVv (pc := 46) (As := [sI 140]) (st := []) C (fun _ _ _ => rfl) (c_X4_put l g x7 140 hx7) ml_RX6_179 hx7 rfl rfl rfl (Nat.le_of_ble_eq_true rfl) (by constructor <;> simp only [rmd] <;> omega) (by constructor <;> simp only [rmd] <;> omega) (by decide +kernel) ?_
            refine zs_iinc (pc := 49) (i := 2) (n := 1) (y := w32 (t1 + 1)) (ls' := [(2, sI (w32 (t1 + 1))), (0, sR 2), (1, sI a0)]) C (by decide +kernel) rfl rfl (Nat.le_of_ble_eq_true rfl) rfl ?_
            refine zs_goto (pc := 52) (off := (-45)) (tgt := 7) C (by decide +kernel) (by decide) ?_
            exact zs_goj (hK2 (w32 (t1 + 1))) ⟨rfl, rfl, rfl, trivial⟩
    · intro a0
      show ConV l g yX6_readUnit cX6_readUnit 4 (rmd (34 + (n + 1)) 0 0) [sR 2, sI a0] (fun mm => fX6_readUnit_F (gX6_readTruth n) a0 mm)
      refine zs_ofV (by decide +kernel) (Nat.le_of_ble_eq_true rfl) ?_
      intro p e s m args below meth c C hr
      replace C : Bd g RX6 cX6_readUnit 4 p s m args meth c := C
      unfold fX6_readUnit_F
      refine zs_aload_n (pc := 0) (k := 0) (i := 0) C (by decide +kernel) rfl rfl ?_
      refine zs_cvRi (pc := 1) (As := []) (st := []) C rfl (c_X6_token l g ) ml_RX6_66 rfl rfl rfl rfl (Nat.le_of_ble_eq_true rfl) (by constructor <;> simp only [rmd] <;> omega) (by constructor <;> simp only [rmd] <;> omega) (by decide +kernel) (fun x1 => ?_)
      refine zs_istore_n (pc := 4) (k := 2) (i := 2) (ls' := [(2, sI x1), (0, sR 2), (1, sI a0)]) C (by decide +kernel) rfl (Nat.le_of_ble_eq_true rfl) rfl ?_
      refine zs_iload_n (pc := 5) (k := 2) (i := 2) C (by decide +kernel) rfl rfl ?_
      refine zs_sipush (pc := 6) (n := 145) (x := 145) C (by decide +kernel) (by decide +kernel) ?_
      refine zs_jn (pJ := 129) (kJ := 0) (sJ := 0) (fun t2 => []) (fun t2 => []) (fun t2 => ?_) (fun J3 hJ3 => ?_)
      · exact zs_retVv (pc := 129) C hr ⟨Nat.zero_le _, Nat.zero_le _⟩ (by decide +kernel)
      · refine zs_icmp_ne (pc := 9) (off := 31) (tgt := 40) C (by decide +kernel) (by decide) ?_ ?_
        · refine zs_iload_n (pc := 40) (k := 2) (i := 2) C (by decide +kernel) rfl rfl ?_
          refine zs_bipush (pc := 41) (n := 91) (x := 91) C (by decide +kernel) (by decide +kernel) ?_
          refine zs_icmp_ne (pc := 43) (off := 27) (tgt := 70) C (by decide +kernel) (by decide) ?_ ?_
          · refine zs_aload_n (pc := 70) (k := 0) (i := 0) C (by decide +kernel) rfl rfl ?_
            refine zs_iload_n (pc := 71) (k := 1) (i := 1) C (by decide +kernel) rfl rfl ?_
            refine zs_cvVv (pc := 72) (As := [sI a0]) (st := []) C (fun _ _ _ => rfl) ((cg_X6_readSum l g 30).1 a0) ml_RX6_167 rfl rfl rfl rfl (Nat.le_of_ble_eq_true rfl) (by constructor <;> simp only [rmd] <;> omega) (by constructor <;> simp only [rmd] <;> omega) (by decide +kernel) ?_
            refine zs_aload_n (pc := 75) (k := 0) (i := 0) C (by decide +kernel) rfl rfl ?_
            refine zs_cvRi (pc := 76) (As := []) (st := []) C rfl (c_X6_token l g ) ml_RX6_66 rfl rfl rfl rfl (Nat.le_of_ble_eq_true rfl) (by constructor <;> simp only [rmd] <;> omega) (by constructor <;> simp only [rmd] <;> omega) (by decide +kernel) (fun x4 => ?_)
            refine zs_istore_n (pc := 79) (k := 3) (i := 3) (ls' := [(3, sI x4), (2, sI x1), (0, sR 2), (1, sI a0)]) C (by decide +kernel) rfl (Nat.le_of_ble_eq_true rfl) rfl ?_
            refine zs_iload_n (pc := 80) (k := 3) (i := 3) C (by decide +kernel) rfl rfl ?_
            refine zs_bipush (pc := 81) (n := 61) (x := 61) C (by decide +kernel) (by decide +kernel) ?_
            refine zs_jn (pJ := 98) (kJ := 0) (sJ := 0) (fun t5 => [(0, sR 2), (1, sI a0), (3, sI x4)]) (fun t5 => []) (fun t5 => ?_) (fun J6 hJ6 => ?_)
            · refine zs_aload_n (pc := 98) (k := 0) (i := 0) C (by decide +kernel) rfl rfl ?_
              refine zs_dup (pc := 99) C rfl (by decide +kernel) ?_
              refine zs_getI (pc := 100) (i := 39) (ci := 6) (k := 5) C (by decide +kernel) fl_RX6_39 rfl rfl (fun x7 => ?_)
              refine zs_iconst (pc := 103) (n := 1) (x := 1) C (by decide +kernel) (by decide +kernel) ?_
              refine zs_iadd (pc := 104) C (by decide +kernel) ?_
              refine zs_putI (pc := 105) (i := 39) (ci := 6) (k := 5) C (fun _ _ _ => rfl) (by decide +kernel) fl_RX6_39 fw_6_5 rfl rfl ?_
              refine zs_aload_n (pc := 108) (k := 0) (i := 0) C (by decide +kernel) rfl rfl ?_
              refine zs_iload_n (pc := 109) (k := 1) (i := 1) C (by decide +kernel) rfl rfl ?_
              refine zs_cvVv (pc := 110) (As := [sI a0]) (st := []) C (fun _ _ _ => rfl) ((cg_X6_readSum l g 30).1 a0) ml_RX6_167 rfl rfl rfl rfl (Nat.le_of_ble_eq_true rfl) (by constructor <;> simp only [rmd] <;> omega) (by constructor <;> simp only [rmd] <;> omega) (by decide +kernel) ?_
              refine zs_aload_n (pc := 113) (k := 0) (i := 0) C (by decide +kernel) rfl rfl ?_
              refine zs_getM (pc := 114) (i := 52) (ci := 6) (k := 8) C (by decide +kernel) fl_RX6_52 rfl rfl (fun x8 => ?_)
              refine zs_need (fun hx8 => ?_)
              refine zs_iload_n (pc := 117) (k := 3) (i := 3) C (by decide +kernel) rfl rfl ?_
              refine zs_cvVv (pc := 118) (As := [sI x4]) (st := []) C (fun _ _ _ => rfl) (c_X4_put l g x8 x4 hx8) ml_RX6_179 hx8 rfl rfl rfl (Nat.le_of_ble_eq_true rfl) (by constructor <;> simp only [rmd] <;> omega) (by constructor <;> simp only [rmd] <;> omega) (by decide +kernel) ?_
              refine zs_goto (pc := 121) (off := 8) (tgt := 129) C (by decide +kernel) (by decide) ?_
              exact zs_goj (hJ3 ()) trivial
            · refine zs_icmp_eq (pc := 83) (off := 15) (tgt := 98) C (by decide +kernel) (by decide) ?_ ?_
              · exact zs_goj (hJ6 ()) ⟨rfl, rfl, rfl, trivial⟩
              · refine zs_iload_n (pc := 86) (k := 3) (i := 3) C (by decide +kernel) rfl rfl ?_
                refine zs_bipush (pc := 87) (n := 60) (x := 60) C (by decide +kernel) (by decide +kernel) ?_
                refine zs_icmp_eq (pc := 89) (off := 9) (tgt := 98) C (by decide +kernel) (by decide) ?_ ?_
                · exact zs_goj (hJ6 ()) ⟨rfl, rfl, rfl, trivial⟩
                · refine zs_iload_n (pc := 92) (k := 3) (i := 3) C (by decide +kernel) rfl rfl ?_
                  refine zs_bipush (pc := 93) (n := 62) (x := 62) C (by decide +kernel) (by decide +kernel) ?_
                  refine zs_icmp_ne (pc := 95) (off := 29) (tgt := 124) C (by decide +kernel) (by decide) ?_ ?_
                  · refine zs_aload_n (pc := 124) (k := 0) (i := 0) C (by decide +kernel) rfl rfl ?_
                    refine zs_iconst (pc := 125) (n := 2) (x := 2) C (by decide +kernel) (by decide +kernel) ?_
                    refine zs_cvVv (pc := 126) (As := [sI 2]) (st := []) C (fun _ _ _ => rfl) (c_X6_refuse l g 2) ml_RX6_86 rfl rfl rfl rfl (Nat.le_of_ble_eq_true rfl) (by constructor <;> simp only [rmd] <;> omega) (by constructor <;> simp only [rmd] <;> omega) (by decide +kernel) ?_
                    exact zs_goj (hJ3 ()) trivial
                  · exact zs_goj (hJ6 ()) ⟨rfl, rfl, rfl, trivial⟩
          · refine zs_aload_n (pc := 46) (k := 0) (i := 0) C (by decide +kernel) rfl rfl ?_
            refine zs_iload_n (pc := 47) (k := 1) (i := 1) C (by decide +kernel) rfl rfl ?_
            refine zs_cvWi (pc := 48) (As := [sI a0]) (st := []) C (fun _ _ _ => rfl) rfl (c_X6_opens l g a0) ml_RX6_185 rfl rfl rfl rfl (Nat.le_of_ble_eq_true rfl) (by constructor <;> simp only [rmd] <;> omega) (by constructor <;> simp only [rmd] <;> omega) (by decide +kernel) (fun x9 => ?_)
            refine zs_if_eq (pc := 51) (off := 78) (tgt := 129) C (by decide +kernel) (by decide) ?_ ?_
            · exact zs_goj (hJ3 ()) trivial
            · refine zs_aload_n (pc := 54) (k := 0) (i := 0) C (by decide +kernel) rfl rfl ?_
              refine zs_iload_n (pc := 55) (k := 1) (i := 1) C (by decide +kernel) rfl rfl ?_
              refine zs_iconst (pc := 56) (n := 1) (x := 1) C (by decide +kernel) (by decide +kernel) ?_
              refine zs_iadd (pc := 57) C (by decide +kernel) ?_
              refine zs_cvVv (pc := 58) (As := [sI (w32 (a0 + 1))]) (st := []) C (fun _ _ _ => rfl) (ih.1 (w32 (a0 + 1))) ml_RX6_173 rfl rfl rfl rfl (Nat.le_of_ble_eq_true rfl) (by constructor <;> simp only [rmd] <;> omega) (by constructor <;> simp only [rmd] <;> omega) (by decide +kernel) ?_
              refine zs_aload_n (pc := 61) (k := 0) (i := 0) C (by decide +kernel) rfl rfl ?_
              refine zs_bipush (pc := 62) (n := 93) (x := 93) C (by decide +kernel) (by decide +kernel) ?_
              refine zs_cvVv (pc := 64) (As := [sI 93]) (st := []) C (fun _ _ _ => rfl) (c_X6_take l g 93) ml_RX6_103 rfl rfl rfl rfl (Nat.le_of_ble_eq_true rfl) (by constructor <;> simp only [rmd] <;> omega) (by constructor <;> simp only [rmd] <;> omega) (by decide +kernel) ?_
              refine zs_goto (pc := 67) (off := 62) (tgt := 129) C (by decide +kernel) (by decide) ?_
              exact zs_goj (hJ3 ()) trivial
        · refine zs_aload_n (pc := 12) (k := 0) (i := 0) C (by decide +kernel) rfl rfl ?_
          refine zs_iload_n (pc := 13) (k := 1) (i := 1) C (by decide +kernel) rfl rfl ?_
          refine zs_cvWi (pc := 14) (As := [sI a0]) (st := []) C (fun _ _ _ => rfl) rfl (c_X6_opens l g a0) ml_RX6_185 rfl rfl rfl rfl (Nat.le_of_ble_eq_true rfl) (by constructor <;> simp only [rmd] <;> omega) (by constructor <;> simp only [rmd] <;> omega) (by decide +kernel) (fun x10 => ?_)
          refine zs_if_eq (pc := 17) (off := 112) (tgt := 129) C (by decide +kernel) (by decide) ?_ ?_
          · exact zs_goj (hJ3 ()) trivial
          · refine zs_aload_n (pc := 20) (k := 0) (i := 0) C (by decide +kernel) rfl rfl ?_
            refine zs_iload_n (pc := 21) (k := 1) (i := 1) C (by decide +kernel) rfl rfl ?_
            refine zs_iconst (pc := 22) (n := 1) (x := 1) C (by decide +kernel) (by decide +kernel) ?_
            refine zs_iadd (pc := 23) C (by decide +kernel) ?_
            refine zs_cvVv (pc := 24) (As := [sI (w32 (a0 + 1))]) (st := []) C (fun _ _ _ => rfl) (ih.2.2 (w32 (a0 + 1))) ml_RX6_182 rfl rfl rfl rfl (Nat.le_of_ble_eq_true rfl) (by constructor <;> simp only [rmd] <;> omega) (by constructor <;> simp only [rmd] <;> omega) (by decide +kernel) ?_
            refine zs_aload_n (pc := 27) (k := 0) (i := 0) C (by decide +kernel) rfl rfl ?_
            refine zs_getM (pc := 28) (i := 52) (ci := 6) (k := 8) C (by decide +kernel) fl_RX6_52 rfl rfl (fun x11 => ?_)
            refine zs_need (fun hx11 => ?_)
            refine zs_sipush (pc := 31) (n := 145) (x := 145) C (by decide +kernel) (by decide +kernel) ?_
            refine zs_cvVv (pc := 34) (As := [sI 145]) (st := []) C (fun _ _ _ => rfl) (c_X4_put l g x11 145 hx11) ml_RX6_179 hx11 rfl rfl rfl (Nat.le_of_ble_eq_true rfl) (by constructor <;> simp only [rmd] <;> omega) (by constructor <;> simp only [rmd] <;> omega) (by decide +kernel) ?_
            refine zs_goto (pc := 37) (off := 92) (tgt := 129) C (by decide +kernel) (by decide) ?_
            exact zs_goj (hJ3 ()) trivial
set_option maxRecDepth 20000 in
theorem c_X6_readMayLaw (l : Launch) (g : GC)  : ConV l g yX6_readMayLaw cX6_readMayLaw 1 (rmd 65 0 0) [sR 2] (fun mm => fX6_readMayLaw  mm) := by
  refine zs_ofV (by decide +kernel) (Nat.le_of_ble_eq_true rfl) ?_
  intro p e s m args below meth c C hr
  replace C : Bd g RX6 cX6_readMayLaw 1 p s m args meth c := C
  unfold fX6_readMayLaw
  refine zs_aload_n (pc := 0) (k := 0) (i := 0) C (by decide +kernel) rfl rfl ?_
  refine zs_dup (pc := 1) C rfl (by decide +kernel) ?_
  refine zs_getI (pc := 2) (i := 39) (ci := 6) (k := 5) C (by decide +kernel) fl_RX6_39 rfl rfl (fun x1 => ?_)
  refine zs_iconst (pc := 5) (n := 1) (x := 1) C (by decide +kernel) (by decide +kernel) ?_
  refine zs_iadd (pc := 6) C (by decide +kernel) ?_
  refine zs_putI (pc := 7) (i := 39) (ci := 6) (k := 5) C (fun _ _ _ => rfl) (by decide +kernel) fl_RX6_39 fw_6_5 rfl rfl ?_
  refine zs_aload_n (pc := 10) (k := 0) (i := 0) C (by decide +kernel) rfl rfl ?_
  refine zs_bipush (pc := 11) (n := 58) (x := 58) C (by decide +kernel) (by decide +kernel) ?_
  refine zs_cvVv (pc := 13) (As := [sI 58]) (st := []) C (fun _ _ _ => rfl) (c_X6_take l g 58) ml_RX6_103 rfl rfl rfl rfl (Nat.le_of_ble_eq_true rfl) ⟨Nat.le_of_ble_eq_true rfl, Nat.le_of_ble_eq_true rfl⟩ ⟨Nat.le_of_ble_eq_true rfl, Nat.le_of_ble_eq_true rfl⟩ (by decide +kernel) ?_
  refine zs_aload_n (pc := 16) (k := 0) (i := 0) C (by decide +kernel) rfl rfl ?_
  refine zs_aload_n (pc := 17) (k := 0) (i := 0) C (by decide +kernel) rfl rfl ?_
  refine zs_getR (o' := 7) (pc := 18) (i := 21) (ci := 6) (k := 1) C (by decide +kernel) fl_RX6_21 rfl rfl rfl ?_
  refine zs_getR (o' := 12) (pc := 21) (i := 170) (ci := 3) (k := 9) C (by decide +kernel) fl_RX6_170 rfl rfl rfl ?_
  refine zs_putM (hty := rfl) (pc := 24) (i := 52) (ci := 6) (k := 8) C (fun _ _ _ => rfl) (by decide +kernel) fl_RX6_52 fw_6_8 rfl rfl ?_
  refine zs_aload_n (pc := 27) (k := 0) (i := 0) C (by decide +kernel) rfl rfl ?_
  refine zs_getM (pc := 28) (i := 52) (ci := 6) (k := 8) C (by decide +kernel) fl_RX6_52 rfl rfl (fun x2 => ?_)
  refine zs_need (fun hx2 => ?_)
  refine zs_sipush (pc := 31) (n := 130) (x := 130) C (by decide +kernel) (by decide +kernel) ?_
  refine zs_sipush (pc := 34) (n := 135) (x := 135) C (by decide +kernel) (by decide +kernel) ?_
  refine zs_cvVv (pc := 37) (As := [sI 130, sI 135]) (st := []) C (fun _ _ _ => rfl) (c_X4_begin l g x2 130 135 hx2) ml_RX6_161 hx2 rfl rfl rfl (Nat.le_of_ble_eq_true rfl) ⟨Nat.le_of_ble_eq_true rfl, Nat.le_of_ble_eq_true rfl⟩ ⟨Nat.le_of_ble_eq_true rfl, Nat.le_of_ble_eq_true rfl⟩ (by decide +kernel) ?_
  refine zs_aload_n (pc := 40) (k := 0) (i := 0) C (by decide +kernel) rfl rfl ?_
  refine zs_iconst (pc := 41) (n := 0) (x := 0) C (by decide +kernel) (by decide +kernel) ?_
  refine zs_cvVv (pc := 42) (As := [sI 0]) (st := []) C (fun _ _ _ => rfl) ((cg_X6_readTruth l g 30).1 0) ml_RX6_173 rfl rfl rfl rfl (Nat.le_of_ble_eq_true rfl) (by constructor <;> simp only [rmd] <;> omega) (by constructor <;> simp only [rmd] <;> omega) (by decide +kernel) ?_
  exact zs_retVv (pc := 45) C hr ⟨Nat.le_of_ble_eq_true rfl, Nat.le_of_ble_eq_true rfl⟩ (by decide +kernel)
set_option maxRecDepth 20000 in
theorem c_X6_readRain (l : Launch) (g : GC)  : ConV l g yX6_readRain cX6_readRain 1 (rmd 3 0 0) [sR 2] (fun mm => fX6_readRain  mm) := by
  refine zs_ofV (by decide +kernel) (Nat.le_of_ble_eq_true rfl) ?_
  intro p e s m args below meth c C hr
  replace C : Bd g RX6 cX6_readRain 1 p s m args meth c := C
  unfold fX6_readRain
  refine zs_aload_n (pc := 0) (k := 0) (i := 0) C (by decide +kernel) rfl rfl ?_
  refine zs_dup (pc := 1) C rfl (by decide +kernel) ?_
  refine zs_getI (pc := 2) (i := 39) (ci := 6) (k := 5) C (by decide +kernel) fl_RX6_39 rfl rfl (fun x1 => ?_)
  refine zs_iconst (pc := 5) (n := 1) (x := 1) C (by decide +kernel) (by decide +kernel) ?_
  refine zs_iadd (pc := 6) C (by decide +kernel) ?_
  refine zs_putI (pc := 7) (i := 39) (ci := 6) (k := 5) C (fun _ _ _ => rfl) (by decide +kernel) fl_RX6_39 fw_6_5 rfl rfl ?_
  refine zs_aload_n (pc := 10) (k := 0) (i := 0) C (by decide +kernel) rfl rfl ?_
  refine zs_getR (o' := 14) (pc := 11) (i := 28) (ci := 6) (k := 2) C (by decide +kernel) fl_RX6_28 rfl rfl rfl ?_
  refine zs_aload_n (pc := 14) (k := 0) (i := 0) C (by decide +kernel) rfl rfl ?_
  refine zs_iconst (pc := 15) (n := 0) (x := 0) C (by decide +kernel) (by decide +kernel) ?_
  refine zs_bipush (pc := 16) (n := 9) (x := 9) C (by decide +kernel) (by decide +kernel) ?_
  refine zs_cvWi (pc := 18) (As := [sI 0, sI 9]) (st := [sR 14]) C (fun _ _ _ => rfl) rfl (c_X6_number l g 0 9) ml_RX6_96 rfl rfl rfl rfl (Nat.le_of_ble_eq_true rfl) ⟨Nat.le_of_ble_eq_true rfl, Nat.le_of_ble_eq_true rfl⟩ ⟨Nat.le_of_ble_eq_true rfl, Nat.le_of_ble_eq_true rfl⟩ (by decide +kernel) (fun x2 => ?_)
  refine zs_putI (pc := 21) (i := 158) (ci := 5) (k := 1) C (fun _ _ _ => rfl) (by decide +kernel) fl_RX6_158 fw_5_1 rfl rfl ?_
  refine zs_aload_n (pc := 24) (k := 0) (i := 0) C (by decide +kernel) rfl rfl ?_
  refine zs_sipush (pc := 25) (n := 143) (x := 143) C (by decide +kernel) (by decide +kernel) ?_
  refine zs_cvVv (pc := 28) (As := [sI 143]) (st := []) C (fun _ _ _ => rfl) (c_X6_take l g 143) ml_RX6_103 rfl rfl rfl rfl (Nat.le_of_ble_eq_true rfl) ⟨Nat.le_of_ble_eq_true rfl, Nat.le_of_ble_eq_true rfl⟩ ⟨Nat.le_of_ble_eq_true rfl, Nat.le_of_ble_eq_true rfl⟩ (by decide +kernel) ?_
  refine zs_aload_n (pc := 31) (k := 0) (i := 0) C (by decide +kernel) rfl rfl ?_
  refine zs_getR (o' := 14) (pc := 32) (i := 28) (ci := 6) (k := 2) C (by decide +kernel) fl_RX6_28 rfl rfl rfl ?_
  refine zs_aload_n (pc := 35) (k := 0) (i := 0) C (by decide +kernel) rfl rfl ?_
  refine zs_iconst (pc := 36) (n := 1) (x := 1) C (by decide +kernel) (by decide +kernel) ?_
  refine zs_bipush (pc := 37) (n := 99) (x := 99) C (by decide +kernel) (by decide +kernel) ?_
  refine zs_cvWi (pc := 39) (As := [sI 1, sI 99]) (st := [sR 14]) C (fun _ _ _ => rfl) rfl (c_X6_number l g 1 99) ml_RX6_96 rfl rfl rfl rfl (Nat.le_of_ble_eq_true rfl) ⟨Nat.le_of_ble_eq_true rfl, Nat.le_of_ble_eq_true rfl⟩ ⟨Nat.le_of_ble_eq_true rfl, Nat.le_of_ble_eq_true rfl⟩ (by decide +kernel) (fun x3 => ?_)
  refine zs_putI (pc := 42) (i := 73) (ci := 5) (k := 2) C (fun _ _ _ => rfl) (by decide +kernel) fl_RX6_73 fw_5_2 rfl rfl ?_
  exact zs_retVv (pc := 45) C hr ⟨Nat.le_of_ble_eq_true rfl, Nat.le_of_ble_eq_true rfl⟩ (by decide +kernel)
set_option maxRecDepth 20000 in
theorem c_X6_readHour (l : Launch) (g : GC)  : ConV l g yX6_readHour cX6_readHour 1 (rmd 3 0 0) [sR 2] (fun mm => fX6_readHour  mm) := by
  refine zs_ofV (by decide +kernel) (Nat.le_of_ble_eq_true rfl) ?_
  intro p e s m args below meth c C hr
  replace C : Bd g RX6 cX6_readHour 1 p s m args meth c := C
  unfold fX6_readHour
  refine zs_aload_n (pc := 0) (k := 0) (i := 0) C (by decide +kernel) rfl rfl ?_
  refine zs_dup (pc := 1) C rfl (by decide +kernel) ?_
  refine zs_getI (pc := 2) (i := 39) (ci := 6) (k := 5) C (by decide +kernel) fl_RX6_39 rfl rfl (fun x1 => ?_)
  refine zs_iconst (pc := 5) (n := 1) (x := 1) C (by decide +kernel) (by decide +kernel) ?_
  refine zs_iadd (pc := 6) C (by decide +kernel) ?_
  refine zs_putI (pc := 7) (i := 39) (ci := 6) (k := 5) C (fun _ _ _ => rfl) (by decide +kernel) fl_RX6_39 fw_6_5 rfl rfl ?_
  refine zs_aload_n (pc := 10) (k := 0) (i := 0) C (by decide +kernel) rfl rfl ?_
  refine zs_getR (o' := 14) (pc := 11) (i := 28) (ci := 6) (k := 2) C (by decide +kernel) fl_RX6_28 rfl rfl rfl ?_
  refine zs_aload_n (pc := 14) (k := 0) (i := 0) C (by decide +kernel) rfl rfl ?_
  refine zs_iconst (pc := 15) (n := 0) (x := 0) C (by decide +kernel) (by decide +kernel) ?_
  refine zs_sipush (pc := 16) (n := 999) (x := 999) C (by decide +kernel) (by decide +kernel) ?_
  refine zs_cvWi (pc := 19) (As := [sI 0, sI 999]) (st := [sR 14]) C (fun _ _ _ => rfl) rfl (c_X6_number l g 0 999) ml_RX6_96 rfl rfl rfl rfl (Nat.le_of_ble_eq_true rfl) ⟨Nat.le_of_ble_eq_true rfl, Nat.le_of_ble_eq_true rfl⟩ ⟨Nat.le_of_ble_eq_true rfl, Nat.le_of_ble_eq_true rfl⟩ (by decide +kernel) (fun x2 => ?_)
  refine zs_putI (pc := 22) (i := 76) (ci := 5) (k := 0) C (fun _ _ _ => rfl) (by decide +kernel) fl_RX6_76 fw_5_0 rfl rfl ?_
  exact zs_retVv (pc := 25) C hr ⟨Nat.le_of_ble_eq_true rfl, Nat.le_of_ble_eq_true rfl⟩ (by decide +kernel)
set_option maxRecDepth 20000 in
theorem c_X6_readLine (l : Launch) (g : GC)  : ConV l g yX6_readLine cX6_readLine 1 (rmd 66 0 0) [sR 2] (fun mm => fX6_readLine  mm) := by
  refine zs_ofV (by decide +kernel) (Nat.le_of_ble_eq_true rfl) ?_
  intro p e s m args below meth c C hr
  replace C : Bd g RX6 cX6_readLine 1 p s m args meth c := C
  unfold fX6_readLine
  refine zs_aload_n (pc := 0) (k := 0) (i := 0) C (by decide +kernel) rfl rfl ?_
  refine zs_cvRi (pc := 1) (As := []) (st := []) C rfl (c_X6_token l g ) ml_RX6_66 rfl rfl rfl rfl (Nat.le_of_ble_eq_true rfl) ⟨Nat.le_of_ble_eq_true rfl, Nat.le_of_ble_eq_true rfl⟩ ⟨Nat.le_of_ble_eq_true rfl, Nat.le_of_ble_eq_true rfl⟩ (by decide +kernel) (fun x1 => ?_)
  refine zs_jn (pJ := 126) (kJ := 0) (sJ := 0) (fun t2 => [(0, sR 2)]) (fun t2 => []) (fun t2 => ?_) (fun J3 hJ3 => ?_)
  · refine zs_aload_n (pc := 126) (k := 0) (i := 0) C (by decide +kernel) rfl rfl ?_
    refine zs_bipush (pc := 127) (n := 59) (x := 59) C (by decide +kernel) (by decide +kernel) ?_
    refine zs_cvVv (pc := 129) (As := [sI 59]) (st := []) C (fun _ _ _ => rfl) (c_X6_take l g 59) ml_RX6_103 rfl rfl rfl rfl (Nat.le_of_ble_eq_true rfl) ⟨Nat.le_of_ble_eq_true rfl, Nat.le_of_ble_eq_true rfl⟩ ⟨Nat.le_of_ble_eq_true rfl, Nat.le_of_ble_eq_true rfl⟩ (by decide +kernel) ?_
    refine zs_aload_n (pc := 132) (k := 0) (i := 0) C (by decide +kernel) rfl rfl ?_
    refine zs_getR (o' := 7) (pc := 133) (i := 21) (ci := 6) (k := 1) C (by decide +kernel) fl_RX6_21 rfl rfl rfl ?_
    refine zs_dup (pc := 136) C rfl (by decide +kernel) ?_
    refine zs_getI (pc := 137) (i := 106) (ci := 3) (k := 0) C (by decide +kernel) fl_RX6_106 rfl rfl (fun x4 => ?_)
    refine zs_iconst (pc := 140) (n := 1) (x := 1) C (by decide +kernel) (by decide +kernel) ?_
    refine zs_iadd (pc := 141) C (by decide +kernel) ?_
    refine zs_putI (pc := 142) (i := 106) (ci := 3) (k := 0) C (fun _ _ _ => rfl) (by decide +kernel) fl_RX6_106 fw_3_0 rfl rfl ?_
    exact zs_retVv (pc := 145) C hr ⟨Nat.le_of_ble_eq_true rfl, Nat.le_of_ble_eq_true rfl⟩ (by decide +kernel)
  · refine zs_ite (fun hc0 => ?_) (fun hc0 => ?_)
    · refine zs_tswI (pc := 4) (dflt := 117) (lo := 130) (hi := 142) (offs := #[103, 110, 82, 117, 117, 117, 117, 68, 75, 117, 117, 89, 96]) (len := 68) (i := 0) (off := 103) (tgt := 107) C (by decide +kernel) hc0 (by decide) rfl (by decide) ?_
      refine zs_aload_n (pc := 107) (k := 0) (i := 0) C (by decide +kernel) rfl rfl ?_
      refine zs_cvVv (pc := 108) (As := []) (st := []) C (fun _ _ _ => rfl) (c_X6_readRain l g ) ml_RX6_124 rfl rfl rfl rfl (Nat.le_of_ble_eq_true rfl) ⟨Nat.le_of_ble_eq_true rfl, Nat.le_of_ble_eq_true rfl⟩ ⟨Nat.le_of_ble_eq_true rfl, Nat.le_of_ble_eq_true rfl⟩ (by decide +kernel) ?_
      refine zs_goto (pc := 111) (off := 15) (tgt := 126) C (by decide +kernel) (by decide) ?_
      exact zs_goj (hJ3 ()) ⟨rfl, trivial⟩
    · refine zs_ite (fun hc1 => ?_) (fun hc1 => ?_)
      · refine zs_tswI (pc := 4) (dflt := 117) (lo := 130) (hi := 142) (offs := #[103, 110, 82, 117, 117, 117, 117, 68, 75, 117, 117, 89, 96]) (len := 68) (i := 1) (off := 110) (tgt := 114) C (by decide +kernel) hc1 (by decide) rfl (by decide) ?_
        refine zs_aload_n (pc := 114) (k := 0) (i := 0) C (by decide +kernel) rfl rfl ?_
        refine zs_cvVv (pc := 115) (As := []) (st := []) C (fun _ _ _ => rfl) (c_X6_readHour l g ) ml_RX6_127 rfl rfl rfl rfl (Nat.le_of_ble_eq_true rfl) ⟨Nat.le_of_ble_eq_true rfl, Nat.le_of_ble_eq_true rfl⟩ ⟨Nat.le_of_ble_eq_true rfl, Nat.le_of_ble_eq_true rfl⟩ (by decide +kernel) ?_
        refine zs_goto (pc := 118) (off := 8) (tgt := 126) C (by decide +kernel) (by decide) ?_
        exact zs_goj (hJ3 ()) ⟨rfl, trivial⟩
      · refine zs_ite (fun hc2 => ?_) (fun hc2 => ?_)
        · refine zs_tswI (pc := 4) (dflt := 117) (lo := 130) (hi := 142) (offs := #[103, 110, 82, 117, 117, 117, 117, 68, 75, 117, 117, 89, 96]) (len := 68) (i := 2) (off := 82) (tgt := 86) C (by decide +kernel) hc2 (by decide) rfl (by decide) ?_
          refine zs_aload_n (pc := 86) (k := 0) (i := 0) C (by decide +kernel) rfl rfl ?_
          refine zs_cvVv (pc := 87) (As := []) (st := []) C (fun _ _ _ => rfl) (c_X6_readPair l g ) ml_RX6_115 rfl rfl rfl rfl (Nat.le_of_ble_eq_true rfl) ⟨Nat.le_of_ble_eq_true rfl, Nat.le_of_ble_eq_true rfl⟩ ⟨Nat.le_of_ble_eq_true rfl, Nat.le_of_ble_eq_true rfl⟩ (by decide +kernel) ?_
          refine zs_goto (pc := 90) (off := 36) (tgt := 126) C (by decide +kernel) (by decide) ?_
          exact zs_goj (hJ3 ()) ⟨rfl, trivial⟩
        · refine zs_ite (fun hc3 => ?_) (fun hc3 => ?_)
          · refine zs_tswI (pc := 4) (dflt := 117) (lo := 130) (hi := 142) (offs := #[103, 110, 82, 117, 117, 117, 117, 68, 75, 117, 117, 89, 96]) (len := 68) (i := 3) (off := 117) (tgt := 121) C (by decide +kernel) hc3 (by decide) rfl (by decide) ?_
            refine zs_aload_n (pc := 121) (k := 0) (i := 0) C (by decide +kernel) rfl rfl ?_
            refine zs_iconst (pc := 122) (n := 2) (x := 2) C (by decide +kernel) (by decide +kernel) ?_
            refine zs_cvVv (pc := 123) (As := [sI 2]) (st := []) C (fun _ _ _ => rfl) (c_X6_refuse l g 2) ml_RX6_86 rfl rfl rfl rfl (Nat.le_of_ble_eq_true rfl) ⟨Nat.le_of_ble_eq_true rfl, Nat.le_of_ble_eq_true rfl⟩ ⟨Nat.le_of_ble_eq_true rfl, Nat.le_of_ble_eq_true rfl⟩ (by decide +kernel) ?_
            exact zs_goj (hJ3 ()) ⟨rfl, trivial⟩
          · refine zs_ite (fun hc4 => ?_) (fun hc4 => ?_)
            · refine zs_tswI (pc := 4) (dflt := 117) (lo := 130) (hi := 142) (offs := #[103, 110, 82, 117, 117, 117, 117, 68, 75, 117, 117, 89, 96]) (len := 68) (i := 4) (off := 117) (tgt := 121) C (by decide +kernel) hc4 (by decide) rfl (by decide) ?_
              refine zs_aload_n (pc := 121) (k := 0) (i := 0) C (by decide +kernel) rfl rfl ?_
              refine zs_iconst (pc := 122) (n := 2) (x := 2) C (by decide +kernel) (by decide +kernel) ?_
              refine zs_cvVv (pc := 123) (As := [sI 2]) (st := []) C (fun _ _ _ => rfl) (c_X6_refuse l g 2) ml_RX6_86 rfl rfl rfl rfl (Nat.le_of_ble_eq_true rfl) ⟨Nat.le_of_ble_eq_true rfl, Nat.le_of_ble_eq_true rfl⟩ ⟨Nat.le_of_ble_eq_true rfl, Nat.le_of_ble_eq_true rfl⟩ (by decide +kernel) ?_
              exact zs_goj (hJ3 ()) ⟨rfl, trivial⟩
            · refine zs_ite (fun hc5 => ?_) (fun hc5 => ?_)
              · refine zs_tswI (pc := 4) (dflt := 117) (lo := 130) (hi := 142) (offs := #[103, 110, 82, 117, 117, 117, 117, 68, 75, 117, 117, 89, 96]) (len := 68) (i := 5) (off := 117) (tgt := 121) C (by decide +kernel) hc5 (by decide) rfl (by decide) ?_
                refine zs_aload_n (pc := 121) (k := 0) (i := 0) C (by decide +kernel) rfl rfl ?_
                refine zs_iconst (pc := 122) (n := 2) (x := 2) C (by decide +kernel) (by decide +kernel) ?_
                refine zs_cvVv (pc := 123) (As := [sI 2]) (st := []) C (fun _ _ _ => rfl) (c_X6_refuse l g 2) ml_RX6_86 rfl rfl rfl rfl (Nat.le_of_ble_eq_true rfl) ⟨Nat.le_of_ble_eq_true rfl, Nat.le_of_ble_eq_true rfl⟩ ⟨Nat.le_of_ble_eq_true rfl, Nat.le_of_ble_eq_true rfl⟩ (by decide +kernel) ?_
                exact zs_goj (hJ3 ()) ⟨rfl, trivial⟩
              · refine zs_ite (fun hc6 => ?_) (fun hc6 => ?_)
                · refine zs_tswI (pc := 4) (dflt := 117) (lo := 130) (hi := 142) (offs := #[103, 110, 82, 117, 117, 117, 117, 68, 75, 117, 117, 89, 96]) (len := 68) (i := 6) (off := 117) (tgt := 121) C (by decide +kernel) hc6 (by decide) rfl (by decide) ?_
                  refine zs_aload_n (pc := 121) (k := 0) (i := 0) C (by decide +kernel) rfl rfl ?_
                  refine zs_iconst (pc := 122) (n := 2) (x := 2) C (by decide +kernel) (by decide +kernel) ?_
                  refine zs_cvVv (pc := 123) (As := [sI 2]) (st := []) C (fun _ _ _ => rfl) (c_X6_refuse l g 2) ml_RX6_86 rfl rfl rfl rfl (Nat.le_of_ble_eq_true rfl) ⟨Nat.le_of_ble_eq_true rfl, Nat.le_of_ble_eq_true rfl⟩ ⟨Nat.le_of_ble_eq_true rfl, Nat.le_of_ble_eq_true rfl⟩ (by decide +kernel) ?_
                  exact zs_goj (hJ3 ()) ⟨rfl, trivial⟩
                · refine zs_ite (fun hc7 => ?_) (fun hc7 => ?_)
                  · refine zs_tswI (pc := 4) (dflt := 117) (lo := 130) (hi := 142) (offs := #[103, 110, 82, 117, 117, 117, 117, 68, 75, 117, 117, 89, 96]) (len := 68) (i := 7) (off := 68) (tgt := 72) C (by decide +kernel) hc7 (by decide) rfl (by decide) ?_
                    refine zs_aload_n (pc := 72) (k := 0) (i := 0) C (by decide +kernel) rfl rfl ?_
                    refine zs_cvVv (pc := 73) (As := []) (st := []) C (fun _ _ _ => rfl) (c_X6_readRock l g ) ml_RX6_109 rfl rfl rfl rfl (Nat.le_of_ble_eq_true rfl) ⟨Nat.le_of_ble_eq_true rfl, Nat.le_of_ble_eq_true rfl⟩ ⟨Nat.le_of_ble_eq_true rfl, Nat.le_of_ble_eq_true rfl⟩ (by decide +kernel) ?_
                    refine zs_goto (pc := 76) (off := 50) (tgt := 126) C (by decide +kernel) (by decide) ?_
                    exact zs_goj (hJ3 ()) ⟨rfl, trivial⟩
                  · refine zs_ite (fun hc8 => ?_) (fun hc8 => ?_)
                    · refine zs_tswI (pc := 4) (dflt := 117) (lo := 130) (hi := 142) (offs := #[103, 110, 82, 117, 117, 117, 117, 68, 75, 117, 117, 89, 96]) (len := 68) (i := 8) (off := 75) (tgt := 79) C (by decide +kernel) hc8 (by decide) rfl (by decide) ?_
                      refine zs_aload_n (pc := 79) (k := 0) (i := 0) C (by decide +kernel) rfl rfl ?_
                      refine zs_cvVv (pc := 80) (As := []) (st := []) C (fun _ _ _ => rfl) (c_X6_readHouse l g ) ml_RX6_112 rfl rfl rfl rfl (Nat.le_of_ble_eq_true rfl) ⟨Nat.le_of_ble_eq_true rfl, Nat.le_of_ble_eq_true rfl⟩ ⟨Nat.le_of_ble_eq_true rfl, Nat.le_of_ble_eq_true rfl⟩ (by decide +kernel) ?_
                      refine zs_goto (pc := 83) (off := 43) (tgt := 126) C (by decide +kernel) (by decide) ?_
                      exact zs_goj (hJ3 ()) ⟨rfl, trivial⟩
                    · refine zs_ite (fun hc9 => ?_) (fun hc9 => ?_)
                      · refine zs_tswI (pc := 4) (dflt := 117) (lo := 130) (hi := 142) (offs := #[103, 110, 82, 117, 117, 117, 117, 68, 75, 117, 117, 89, 96]) (len := 68) (i := 9) (off := 117) (tgt := 121) C (by decide +kernel) hc9 (by decide) rfl (by decide) ?_
                        refine zs_aload_n (pc := 121) (k := 0) (i := 0) C (by decide +kernel) rfl rfl ?_
                        refine zs_iconst (pc := 122) (n := 2) (x := 2) C (by decide +kernel) (by decide +kernel) ?_
                        refine zs_cvVv (pc := 123) (As := [sI 2]) (st := []) C (fun _ _ _ => rfl) (c_X6_refuse l g 2) ml_RX6_86 rfl rfl rfl rfl (Nat.le_of_ble_eq_true rfl) ⟨Nat.le_of_ble_eq_true rfl, Nat.le_of_ble_eq_true rfl⟩ ⟨Nat.le_of_ble_eq_true rfl, Nat.le_of_ble_eq_true rfl⟩ (by decide +kernel) ?_
                        exact zs_goj (hJ3 ()) ⟨rfl, trivial⟩
                      · refine zs_ite (fun hc10 => ?_) (fun hc10 => ?_)
                        · refine zs_tswI (pc := 4) (dflt := 117) (lo := 130) (hi := 142) (offs := #[103, 110, 82, 117, 117, 117, 117, 68, 75, 117, 117, 89, 96]) (len := 68) (i := 10) (off := 117) (tgt := 121) C (by decide +kernel) hc10 (by decide) rfl (by decide) ?_
                          refine zs_aload_n (pc := 121) (k := 0) (i := 0) C (by decide +kernel) rfl rfl ?_
                          refine zs_iconst (pc := 122) (n := 2) (x := 2) C (by decide +kernel) (by decide +kernel) ?_
                          refine zs_cvVv (pc := 123) (As := [sI 2]) (st := []) C (fun _ _ _ => rfl) (c_X6_refuse l g 2) ml_RX6_86 rfl rfl rfl rfl (Nat.le_of_ble_eq_true rfl) ⟨Nat.le_of_ble_eq_true rfl, Nat.le_of_ble_eq_true rfl⟩ ⟨Nat.le_of_ble_eq_true rfl, Nat.le_of_ble_eq_true rfl⟩ (by decide +kernel) ?_
                          exact zs_goj (hJ3 ()) ⟨rfl, trivial⟩
                        · refine zs_ite (fun hc11 => ?_) (fun hc11 => ?_)
                          · refine zs_tswI (pc := 4) (dflt := 117) (lo := 130) (hi := 142) (offs := #[103, 110, 82, 117, 117, 117, 117, 68, 75, 117, 117, 89, 96]) (len := 68) (i := 11) (off := 89) (tgt := 93) C (by decide +kernel) hc11 (by decide) rfl (by decide) ?_
                            refine zs_aload_n (pc := 93) (k := 0) (i := 0) C (by decide +kernel) rfl rfl ?_
                            refine zs_cvVv (pc := 94) (As := []) (st := []) C (fun _ _ _ => rfl) (c_X6_readLengthLaw l g ) ml_RX6_118 rfl rfl rfl rfl (Nat.le_of_ble_eq_true rfl) ⟨Nat.le_of_ble_eq_true rfl, Nat.le_of_ble_eq_true rfl⟩ ⟨Nat.le_of_ble_eq_true rfl, Nat.le_of_ble_eq_true rfl⟩ (by decide +kernel) ?_
                            refine zs_goto (pc := 97) (off := 29) (tgt := 126) C (by decide +kernel) (by decide) ?_
                            exact zs_goj (hJ3 ()) ⟨rfl, trivial⟩
                          · refine zs_ite (fun hc12 => ?_) (fun hc12 => ?_)
                            · refine zs_tswI (pc := 4) (dflt := 117) (lo := 130) (hi := 142) (offs := #[103, 110, 82, 117, 117, 117, 117, 68, 75, 117, 117, 89, 96]) (len := 68) (i := 12) (off := 96) (tgt := 100) C (by decide +kernel) hc12 (by decide) rfl (by decide) ?_
                              refine zs_aload_n (pc := 100) (k := 0) (i := 0) C (by decide +kernel) rfl rfl ?_
                              refine zs_cvVv (pc := 101) (As := []) (st := []) C (fun _ _ _ => rfl) (c_X6_readMayLaw l g ) ml_RX6_121 rfl rfl rfl rfl (Nat.le_of_ble_eq_true rfl) ⟨Nat.le_of_ble_eq_true rfl, Nat.le_of_ble_eq_true rfl⟩ ⟨Nat.le_of_ble_eq_true rfl, Nat.le_of_ble_eq_true rfl⟩ (by decide +kernel) ?_
                              refine zs_goto (pc := 104) (off := 22) (tgt := 126) C (by decide +kernel) (by decide) ?_
                              exact zs_goj (hJ3 ()) ⟨rfl, trivial⟩
                            · refine zs_tswD (pc := 4) (dflt := 117) (lo := 130) (hi := 142) (offs := #[103, 110, 82, 117, 117, 117, 117, 68, 75, 117, 117, 89, 96]) (len := 68) (tgt := 121) C (by decide +kernel) (by omega) (by decide) ?_
                              refine zs_aload_n (pc := 121) (k := 0) (i := 0) C (by decide +kernel) rfl rfl ?_
                              refine zs_iconst (pc := 122) (n := 2) (x := 2) C (by decide +kernel) (by decide +kernel) ?_
                              refine zs_cvVv (pc := 123) (As := [sI 2]) (st := []) C (fun _ _ _ => rfl) (c_X6_refuse l g 2) ml_RX6_86 rfl rfl rfl rfl (Nat.le_of_ble_eq_true rfl) ⟨Nat.le_of_ble_eq_true rfl, Nat.le_of_ble_eq_true rfl⟩ ⟨Nat.le_of_ble_eq_true rfl, Nat.le_of_ble_eq_true rfl⟩ (by decide +kernel) ?_
                              exact zs_goj (hJ3 ()) ⟨rfl, trivial⟩
set_option maxRecDepth 20000 in
theorem c_X6_read (l : Launch) (g : GC) (a1 : Int) : ConV l g yX6_read cX6_read 4 (rmd 67 0 0) [sR 2, sR 1, sI a1] (fun mm => fX6_read a1 mm) := by
  refine zs_ofV (by decide +kernel) (Nat.le_of_ble_eq_true rfl) ?_
  intro p e s m args below meth c C hr
  replace C : Bd g RX6 cX6_read 4 p s m args meth c := C
  unfold fX6_read
  refine zs_aload_n (pc := 0) (k := 0) (i := 0) C (by decide +kernel) rfl rfl ?_
  refine zs_getR (o' := 3) (pc := 1) (i := 12) (ci := 6) (k := 0) C (by decide +kernel) fl_RX6_12 rfl rfl rfl ?_
  refine zs_aload_n (pc := 4) (k := 1) (i := 1) C (by decide +kernel) rfl rfl ?_
  refine zs_iload_n (pc := 5) (k := 2) (i := 2) C (by decide +kernel) rfl rfl ?_
  refine zs_cvVv (pc := 6) (As := [sR 1, sI a1]) (st := []) C (fun _ _ _ => rfl) (c_X8_cut l g a1) ml_RX6_55 rfl rfl rfl rfl (Nat.le_of_ble_eq_true rfl) ⟨Nat.le_of_ble_eq_true rfl, Nat.le_of_ble_eq_true rfl⟩ ⟨Nat.le_of_ble_eq_true rfl, Nat.le_of_ble_eq_true rfl⟩ (by decide +kernel) ?_
  refine zs_aload_n (pc := 9) (k := 0) (i := 0) C (by decide +kernel) rfl rfl ?_
  refine zs_iconst (pc := 10) (n := 0) (x := 0) C (by decide +kernel) (by decide +kernel) ?_
  refine zs_putI (pc := 11) (i := 32) (ci := 6) (k := 3) C (fun _ _ _ => rfl) (by decide +kernel) fl_RX6_32 fw_6_3 rfl rfl ?_
  refine zs_aload_n (pc := 14) (k := 0) (i := 0) C (by decide +kernel) rfl rfl ?_
  refine zs_iconst (pc := 15) (n := (-1)) (x := (-1)) C (by decide +kernel) (by decide +kernel) ?_
  refine zs_putI (pc := 16) (i := 36) (ci := 6) (k := 4) C (fun _ _ _ => rfl) (by decide +kernel) fl_RX6_36 fw_6_4 rfl rfl ?_
  refine zs_aload_n (pc := 19) (k := 0) (i := 0) C (by decide +kernel) rfl rfl ?_
  refine zs_iconst (pc := 20) (n := 0) (x := 0) C (by decide +kernel) (by decide +kernel) ?_
  refine zs_putI (pc := 21) (i := 39) (ci := 6) (k := 5) C (fun _ _ _ => rfl) (by decide +kernel) fl_RX6_39 fw_6_5 rfl rfl ?_
  refine zs_aload_n (pc := 24) (k := 0) (i := 0) C (by decide +kernel) rfl rfl ?_
  refine zs_iconst (pc := 25) (n := 0) (x := 0) C (by decide +kernel) (by decide +kernel) ?_
  refine zs_putI (pc := 26) (i := 42) (ci := 6) (k := 6) C (fun _ _ _ => rfl) (by decide +kernel) fl_RX6_42 fw_6_6 rfl rfl ?_
  refine zs_aload_n (pc := 29) (k := 0) (i := 0) C (by decide +kernel) rfl rfl ?_
  refine zs_iconst (pc := 30) (n := 0) (x := 0) C (by decide +kernel) (by decide +kernel) ?_
  refine zs_putI (pc := 31) (i := 45) (ci := 6) (k := 7) C (fun _ _ _ => rfl) (by decide +kernel) fl_RX6_45 fw_6_7 rfl rfl ?_
  refine zs_aload_n (pc := 34) (k := 0) (i := 0) C (by decide +kernel) rfl rfl ?_
  refine zs_getR (o' := 7) (pc := 35) (i := 21) (ci := 6) (k := 1) C (by decide +kernel) fl_RX6_21 rfl rfl rfl ?_
  refine zs_cvVv (pc := 38) (As := []) (st := []) C (fun _ _ _ => rfl) (c_X3_wipe l g ) ml_RX6_59 rfl rfl rfl rfl (Nat.le_of_ble_eq_true rfl) ⟨Nat.le_of_ble_eq_true rfl, Nat.le_of_ble_eq_true rfl⟩ ⟨Nat.le_of_ble_eq_true rfl, Nat.le_of_ble_eq_true rfl⟩ (by decide +kernel) ?_
  refine zs_aload_n (pc := 41) (k := 0) (i := 0) C (by decide +kernel) rfl rfl ?_
  refine zs_getR (o' := 14) (pc := 42) (i := 28) (ci := 6) (k := 2) C (by decide +kernel) fl_RX6_28 rfl rfl rfl ?_
  refine zs_cvVv (pc := 45) (As := []) (st := []) C (fun _ _ _ => rfl) (c_X5_wipe l g ) ml_RX6_62 rfl rfl rfl rfl (Nat.le_of_ble_eq_true rfl) ⟨Nat.le_of_ble_eq_true rfl, Nat.le_of_ble_eq_true rfl⟩ ⟨Nat.le_of_ble_eq_true rfl, Nat.le_of_ble_eq_true rfl⟩ (by decide +kernel) ?_
  refine zs_aload_n (pc := 48) (k := 0) (i := 0) C (by decide +kernel) rfl rfl ?_
  refine zs_cvVv (pc := 49) (As := []) (st := []) C (fun _ _ _ => rfl) (c_X6_readHead l g ) ml_RX6_63 rfl rfl rfl rfl (Nat.le_of_ble_eq_true rfl) ⟨Nat.le_of_ble_eq_true rfl, Nat.le_of_ble_eq_true rfl⟩ ⟨Nat.le_of_ble_eq_true rfl, Nat.le_of_ble_eq_true rfl⟩ (by decide +kernel) ?_
  refine zs_iconst (pc := 52) (n := 0) (x := 0) C (by decide +kernel) (by decide +kernel) ?_
  refine zs_istore_n (pc := 53) (k := 3) (i := 3) (ls' := [(3, sI 0), (0, sR 2), (1, sR 1), (2, sI a1)]) C (by decide +kernel) rfl (Nat.le_of_ble_eq_true rfl) rfl ?_
  refine zs_sub (ls' := [(0, sR 2), (3, sI 0)]) ⟨rfl, rfl, trivial⟩ ?_
  refine zs_lp (pc := 54) (fun (t1 : Int) => [(0, sR 2), (3, sI t1)]) (fun _ => []) (fun K2 hK2 t1 => ?_) BIG 0
  refine zs_iload_n (pc := 54) (k := 3) (i := 3) C (by decide +kernel) rfl rfl ?_
  refine zs_sipush (pc := 55) (n := 900) (x := 900) C (by decide +kernel) (by decide +kernel) ?_
  refine zs_jn (pJ := 78) (kJ := 0) (sJ := 0) (fun t3 => [(0, sR 2)]) (fun t3 => []) (fun t3 => ?_) (fun J4 hJ4 => ?_)
  · refine zs_aload_n (pc := 78) (k := 0) (i := 0) C (by decide +kernel) rfl rfl ?_
    refine zs_getR (o' := 14) (pc := 79) (i := 28) (ci := 6) (k := 2) C (by decide +kernel) fl_RX6_28 rfl rfl rfl ?_
    refine zs_dup (pc := 82) C rfl (by decide +kernel) ?_
    refine zs_getI (pc := 83) (i := 73) (ci := 5) (k := 2) C (by decide +kernel) fl_RX6_73 rfl rfl (fun x5 => ?_)
    refine zs_aload_n (pc := 86) (k := 0) (i := 0) C (by decide +kernel) rfl rfl ?_
    refine zs_getR (o' := 14) (pc := 87) (i := 28) (ci := 6) (k := 2) C (by decide +kernel) fl_RX6_28 rfl rfl rfl ?_
    refine zs_getI (pc := 90) (i := 76) (ci := 5) (k := 0) C (by decide +kernel) fl_RX6_76 rfl rfl (fun x6 => ?_)
    refine zs_iadd (pc := 93) C (by decide +kernel) ?_
    refine zs_putI (pc := 94) (i := 73) (ci := 5) (k := 2) C (fun _ _ _ => rfl) (by decide +kernel) fl_RX6_73 fw_5_2 rfl rfl ?_
    exact zs_retVv (pc := 97) C hr ⟨Nat.le_of_ble_eq_true rfl, Nat.le_of_ble_eq_true rfl⟩ (by decide +kernel)
  · refine zs_icmp_ge (pc := 58) (off := 20) (tgt := 78) C (by decide +kernel) (by decide) ?_ ?_
    · exact zs_goj (hJ4 ()) ⟨rfl, trivial⟩
    · refine zs_aload_n (pc := 61) (k := 0) (i := 0) C (by decide +kernel) rfl rfl ?_
      refine zs_cvRi (pc := 62) (As := []) (st := []) C rfl (c_X6_token l g ) ml_RX6_66 rfl rfl rfl rfl (Nat.le_of_ble_eq_true rfl) ⟨Nat.le_of_ble_eq_true rfl, Nat.le_of_ble_eq_true rfl⟩ ⟨Nat.le_of_ble_eq_true rfl, Nat.le_of_ble_eq_true rfl⟩ (by decide +kernel) (fun x7 => ?_)
      refine zs_if_eq (pc := 65) (off := 13) (tgt := 78) C (by decide +kernel) (by decide) ?_ ?_
      · exact zs_goj (hJ4 ()) ⟨rfl, trivial⟩
      · refine zs_aload_n (pc := 68) (k := 0) (i := 0) C (by decide +kernel) rfl rfl ?_
        refine zs_cvVv (pc := 69) (As := []) (st := []) C (fun _ _ _ => rfl) (c_X6_readLine l g ) ml_RX6_70 rfl rfl rfl rfl (Nat.le_of_ble_eq_true rfl) ⟨Nat.le_of_ble_eq_true rfl, Nat.le_of_ble_eq_true rfl⟩ ⟨Nat.le_of_ble_eq_true rfl, Nat.le_of_ble_eq_true rfl⟩ (by decide +kernel) ?_
        refine zs_iinc (pc := 72) (i := 3) (n := 1) (y := w32 (t1 + 1)) (ls' := [(3, sI (w32 (t1 + 1))), (0, sR 2)]) C (by decide +kernel) rfl rfl (Nat.le_of_ble_eq_true rfl) rfl ?_
        refine zs_goto (pc := 75) (off := (-21)) (tgt := 54) C (by decide +kernel) (by decide) ?_
        exact zs_goj (hK2 (w32 (t1 + 1))) ⟨rfl, rfl, trivial⟩
set_option maxRecDepth 20000 in
theorem c_X4_copyFrom (l : Launch) (g : GC) (o : Nat) (a0 : Nat) (h0 : layL[o]? = some (.inl 4)) (h0_ : layL[a0]? = some (.inl 4)) : ConV l g yX4_copyFrom cX4_copyFrom 2 (rmd 1 0 0) [sR o, sR a0] (fun mm => fX4_copyFrom o a0 mm) := by
  refine zs_ofV (by decide +kernel) (Nat.le_of_ble_eq_true rfl) ?_
  intro p e s m args below meth c C hr
  replace C : Bd g RX4 cX4_copyFrom 2 p s m args meth c := C
  unfold fX4_copyFrom
  refine zs_aload_n (pc := 0) (k := 1) (i := 1) C (by decide +kernel) rfl rfl ?_
  refine zs_getR (o' := (a0 + 1)) (pc := 1) (i := 9) (ci := 4) (k := 0) C (by decide +kernel) fl_RX4_9 h0_ rfl rfl ?_
  refine zs_iconst (pc := 4) (n := 0) (x := 0) C (by decide +kernel) (by decide +kernel) ?_
  refine zs_aload_n (pc := 5) (k := 0) (i := 0) C (by decide +kernel) rfl rfl ?_
  refine zs_getR (o' := (o + 1)) (pc := 6) (i := 9) (ci := 4) (k := 0) C (by decide +kernel) fl_RX4_9 h0 rfl rfl ?_
  refine zs_iconst (pc := 9) (n := 0) (x := 0) C (by decide +kernel) (by decide +kernel) ?_
  refine zs_aload_n (pc := 10) (k := 1) (i := 1) C (by decide +kernel) rfl rfl ?_
  refine zs_getI (pc := 11) (i := 15) (ci := 4) (k := 1) C (by decide +kernel) fl_RX4_15 h0_ rfl (fun x1 => ?_)
  refine zs_copyi (pc := 14) (idx := 40) (o0 := (a0 + 1)) (o1 := (o + 1)) (n0 := 900) (n1 := 900) C (fun _ _ _ => rfl) wf_1105 wf_715 wf_714 wf_168 ⟨Nat.le_of_ble_eq_true rfl, Nat.le_of_ble_eq_true rfl⟩ (ly_o_4_1 h0_) (ly_o_4_1 h0) (by decide +kernel) ?_
  refine zs_aload_n (pc := 17) (k := 0) (i := 0) C (by decide +kernel) rfl rfl ?_
  refine zs_aload_n (pc := 18) (k := 1) (i := 1) C (by decide +kernel) rfl rfl ?_
  refine zs_getI (pc := 19) (i := 15) (ci := 4) (k := 1) C (by decide +kernel) fl_RX4_15 h0_ rfl (fun x2 => ?_)
  refine zs_putI (pc := 22) (i := 15) (ci := 4) (k := 1) C (fun _ _ _ => rfl) (by decide +kernel) fl_RX4_15 fw_4_1 h0 rfl ?_
  refine zs_aload_n (pc := 25) (k := 0) (i := 0) C (by decide +kernel) rfl rfl ?_
  refine zs_aload_n (pc := 26) (k := 1) (i := 1) C (by decide +kernel) rfl rfl ?_
  refine zs_getI (pc := 27) (i := 25) (ci := 4) (k := 4) C (by decide +kernel) fl_RX4_25 h0_ rfl (fun x3 => ?_)
  refine zs_putZ (pc := 30) (i := 25) (ci := 4) (k := 4) C (fun _ _ _ => rfl) (by decide +kernel) fl_RX4_25 fw_4_4 h0 rfl ?_
  refine zs_aload_n (pc := 33) (k := 0) (i := 0) C (by decide +kernel) rfl rfl ?_
  refine zs_aload_n (pc := 34) (k := 1) (i := 1) C (by decide +kernel) rfl rfl ?_
  refine zs_getI (pc := 35) (i := 29) (ci := 4) (k := 5) C (by decide +kernel) fl_RX4_29 h0_ rfl (fun x4 => ?_)
  refine zs_putZ (pc := 38) (i := 29) (ci := 4) (k := 5) C (fun _ _ _ => rfl) (by decide +kernel) fl_RX4_29 fw_4_5 h0 rfl ?_
  refine zs_aload_n (pc := 41) (k := 0) (i := 0) C (by decide +kernel) rfl rfl ?_
  refine zs_aload_n (pc := 42) (k := 1) (i := 1) C (by decide +kernel) rfl rfl ?_
  refine zs_getI (pc := 43) (i := 32) (ci := 4) (k := 6) C (by decide +kernel) fl_RX4_32 h0_ rfl (fun x5 => ?_)
  refine zs_putZ (pc := 46) (i := 32) (ci := 4) (k := 6) C (fun _ _ _ => rfl) (by decide +kernel) fl_RX4_32 fw_4_6 h0 rfl ?_
  exact zs_retVv (pc := 49) C hr ⟨Nat.le_of_ble_eq_true rfl, Nat.le_of_ble_eq_true rfl⟩ (by decide +kernel)
set_option maxRecDepth 20000 in
theorem c_X3_copyFrom (l : Launch) (g : GC) (o : Nat) (a0 : Nat) (h0 : layL[o]? = some (.inl 3)) (h0_ : layL[a0]? = some (.inl 3)) : ConV l g yX3_copyFrom cX3_copyFrom 2 (rmd 2 0 0) [sR o, sR a0] (fun mm => fX3_copyFrom o a0 mm) := by
  refine zs_ofV (by decide +kernel) (Nat.le_of_ble_eq_true rfl) ?_
  intro p e s m args below meth c C hr
  replace C : Bd g RX3 cX3_copyFrom 2 p s m args meth c := C
  unfold fX3_copyFrom
  refine zs_aload_n (pc := 0) (k := 0) (i := 0) C (by decide +kernel) rfl rfl ?_
  refine zs_aload_n (pc := 1) (k := 1) (i := 1) C (by decide +kernel) rfl rfl ?_
  refine zs_getI (pc := 2) (i := 9) (ci := 3) (k := 0) C (by decide +kernel) fl_RX3_9 h0_ rfl (fun x1 => ?_)
  refine zs_putI (pc := 5) (i := 9) (ci := 3) (k := 0) C (fun _ _ _ => rfl) (by decide +kernel) fl_RX3_9 fw_3_0 h0 rfl ?_
  refine zs_aload_n (pc := 8) (k := 0) (i := 0) C (by decide +kernel) rfl rfl ?_
  refine zs_aload_n (pc := 9) (k := 1) (i := 1) C (by decide +kernel) rfl rfl ?_
  refine zs_getI (pc := 10) (i := 15) (ci := 3) (k := 1) C (by decide +kernel) fl_RX3_15 h0_ rfl (fun x2 => ?_)
  refine zs_putI (pc := 13) (i := 15) (ci := 3) (k := 1) C (fun _ _ _ => rfl) (by decide +kernel) fl_RX3_15 fw_3_1 h0 rfl ?_
  refine zs_aload_n (pc := 16) (k := 0) (i := 0) C (by decide +kernel) rfl rfl ?_
  refine zs_aload_n (pc := 17) (k := 1) (i := 1) C (by decide +kernel) rfl rfl ?_
  refine zs_getI (pc := 18) (i := 18) (ci := 3) (k := 2) C (by decide +kernel) fl_RX3_18 h0_ rfl (fun x3 => ?_)
  refine zs_putI (pc := 21) (i := 18) (ci := 3) (k := 2) C (fun _ _ _ => rfl) (by decide +kernel) fl_RX3_18 fw_3_2 h0 rfl ?_
  refine zs_aload_n (pc := 24) (k := 0) (i := 0) C (by decide +kernel) rfl rfl ?_
  refine zs_aload_n (pc := 25) (k := 1) (i := 1) C (by decide +kernel) rfl rfl ?_
  refine zs_getI (pc := 26) (i := 21) (ci := 3) (k := 3) C (by decide +kernel) fl_RX3_21 h0_ rfl (fun x4 => ?_)
  refine zs_putI (pc := 29) (i := 21) (ci := 3) (k := 3) C (fun _ _ _ => rfl) (by decide +kernel) fl_RX3_21 fw_3_3 h0 rfl ?_
  refine zs_aload_n (pc := 32) (k := 0) (i := 0) C (by decide +kernel) rfl rfl ?_
  refine zs_aload_n (pc := 33) (k := 1) (i := 1) C (by decide +kernel) rfl rfl ?_
  refine zs_getI (pc := 34) (i := 24) (ci := 3) (k := 4) C (by decide +kernel) fl_RX3_24 h0_ rfl (fun x5 => ?_)
  refine zs_putI (pc := 37) (i := 24) (ci := 3) (k := 4) C (fun _ _ _ => rfl) (by decide +kernel) fl_RX3_24 fw_3_4 h0 rfl ?_
  refine zs_aload_n (pc := 40) (k := 0) (i := 0) C (by decide +kernel) rfl rfl ?_
  refine zs_aload_n (pc := 41) (k := 1) (i := 1) C (by decide +kernel) rfl rfl ?_
  refine zs_getI (pc := 42) (i := 27) (ci := 3) (k := 5) C (by decide +kernel) fl_RX3_27 h0_ rfl (fun x6 => ?_)
  refine zs_putI (pc := 45) (i := 27) (ci := 3) (k := 5) C (fun _ _ _ => rfl) (by decide +kernel) fl_RX3_27 fw_3_5 h0 rfl ?_
  refine zs_aload_n (pc := 48) (k := 1) (i := 1) C (by decide +kernel) rfl rfl ?_
  refine zs_getR (o' := (a0 + 1)) (pc := 49) (i := 30) (ci := 3) (k := 6) C (by decide +kernel) fl_RX3_30 h0_ rfl rfl ?_
  refine zs_iconst (pc := 52) (n := 0) (x := 0) C (by decide +kernel) (by decide +kernel) ?_
  refine zs_aload_n (pc := 53) (k := 0) (i := 0) C (by decide +kernel) rfl rfl ?_
  refine zs_getR (o' := (o + 1)) (pc := 54) (i := 30) (ci := 3) (k := 6) C (by decide +kernel) fl_RX3_30 h0 rfl rfl ?_
  refine zs_iconst (pc := 57) (n := 0) (x := 0) C (by decide +kernel) (by decide +kernel) ?_
  refine zs_bipush (pc := 58) (n := 8) (x := 8) C (by decide +kernel) (by decide +kernel) ?_
  refine zs_copyi (pc := 60) (idx := 50) (o0 := (a0 + 1)) (o1 := (o + 1)) (n0 := 8) (n1 := 8) C (fun _ _ _ => rfl) wf_1100 wf_715 wf_714 wf_168 ⟨Nat.le_of_ble_eq_true rfl, Nat.le_of_ble_eq_true rfl⟩ (ly_o_3_1 h0_) (ly_o_3_1 h0) (by decide +kernel) ?_
  refine zs_aload_n (pc := 63) (k := 1) (i := 1) C (by decide +kernel) rfl rfl ?_
  refine zs_getR (o' := (a0 + 2)) (pc := 64) (i := 34) (ci := 3) (k := 7) C (by decide +kernel) fl_RX3_34 h0_ rfl rfl ?_
  refine zs_iconst (pc := 67) (n := 0) (x := 0) C (by decide +kernel) (by decide +kernel) ?_
  refine zs_aload_n (pc := 68) (k := 0) (i := 0) C (by decide +kernel) rfl rfl ?_
  refine zs_getR (o' := (o + 2)) (pc := 69) (i := 34) (ci := 3) (k := 7) C (by decide +kernel) fl_RX3_34 h0 rfl rfl ?_
  refine zs_iconst (pc := 72) (n := 0) (x := 0) C (by decide +kernel) (by decide +kernel) ?_
  refine zs_iconst (pc := 73) (n := 4) (x := 4) C (by decide +kernel) (by decide +kernel) ?_
  refine zs_copyi (pc := 74) (idx := 50) (o0 := (a0 + 2)) (o1 := (o + 2)) (n0 := 4) (n1 := 4) C (fun _ _ _ => rfl) wf_1100 wf_715 wf_714 wf_168 ⟨Nat.le_of_ble_eq_true rfl, Nat.le_of_ble_eq_true rfl⟩ (ly_o_3_2 h0_) (ly_o_3_2 h0) (by decide +kernel) ?_
  refine zs_aload_n (pc := 77) (k := 0) (i := 0) C (by decide +kernel) rfl rfl ?_
  refine zs_getR (o' := (o + 3)) (pc := 78) (i := 40) (ci := 3) (k := 8) C (by decide +kernel) fl_RX3_40 h0 rfl rfl ?_
  refine zs_aload_n (pc := 81) (k := 1) (i := 1) C (by decide +kernel) rfl rfl ?_
  refine zs_getR (o' := (a0 + 3)) (pc := 82) (i := 40) (ci := 3) (k := 8) C (by decide +kernel) fl_RX3_40 h0_ rfl rfl ?_
  refine zs_cvVv (pc := 85) (As := [sR (a0 + 3)]) (st := []) C (fun _ _ _ => rfl) (c_X4_copyFrom l g (o + 3) (a0 + 3) (ly_o_3_3 h0) (ly_o_3_3 h0_)) ml_RX3_56 (ly_o_3_3 h0) rfl rfl rfl (Nat.le_of_ble_eq_true rfl) ⟨Nat.le_of_ble_eq_true rfl, Nat.le_of_ble_eq_true rfl⟩ ⟨Nat.le_of_ble_eq_true rfl, Nat.le_of_ble_eq_true rfl⟩ (by decide +kernel) ?_
  refine zs_aload_n (pc := 88) (k := 0) (i := 0) C (by decide +kernel) rfl rfl ?_
  refine zs_getR (o' := (o + 5)) (pc := 89) (i := 44) (ci := 3) (k := 9) C (by decide +kernel) fl_RX3_44 h0 rfl rfl ?_
  refine zs_aload_n (pc := 92) (k := 1) (i := 1) C (by decide +kernel) rfl rfl ?_
  refine zs_getR (o' := (a0 + 5)) (pc := 93) (i := 44) (ci := 3) (k := 9) C (by decide +kernel) fl_RX3_44 h0_ rfl rfl ?_
  refine zs_cvVv (pc := 96) (As := [sR (a0 + 5)]) (st := []) C (fun _ _ _ => rfl) (c_X4_copyFrom l g (o + 5) (a0 + 5) (ly_o_3_5 h0) (ly_o_3_5 h0_)) ml_RX3_56 (ly_o_3_5 h0) rfl rfl rfl (Nat.le_of_ble_eq_true rfl) ⟨Nat.le_of_ble_eq_true rfl, Nat.le_of_ble_eq_true rfl⟩ ⟨Nat.le_of_ble_eq_true rfl, Nat.le_of_ble_eq_true rfl⟩ (by decide +kernel) ?_
  exact zs_retVv (pc := 99) C hr ⟨Nat.le_of_ble_eq_true rfl, Nat.le_of_ble_eq_true rfl⟩ (by decide +kernel)
set_option maxRecDepth 20000 in
theorem c_X5_copyFrom (l : Launch) (g : GC) (o : Nat) (a0 : Nat) (h0 : layL[o]? = some (.inl 5)) (h0_ : layL[a0]? = some (.inl 5)) : ConV l g yX5_copyFrom cX5_copyFrom 2 (rmd 1 0 0) [sR o, sR a0] (fun mm => fX5_copyFrom o a0 mm) := by
  refine zs_ofV (by decide +kernel) (Nat.le_of_ble_eq_true rfl) ?_
  intro p e s m args below meth c C hr
  replace C : Bd g RX5 cX5_copyFrom 2 p s m args meth c := C
  unfold fX5_copyFrom
  refine zs_aload_n (pc := 0) (k := 0) (i := 0) C (by decide +kernel) rfl rfl ?_
  refine zs_aload_n (pc := 1) (k := 1) (i := 1) C (by decide +kernel) rfl rfl ?_
  refine zs_getI (pc := 2) (i := 9) (ci := 5) (k := 0) C (by decide +kernel) fl_RX5_9 h0_ rfl (fun x1 => ?_)
  refine zs_putI (pc := 5) (i := 9) (ci := 5) (k := 0) C (fun _ _ _ => rfl) (by decide +kernel) fl_RX5_9 fw_5_0 h0 rfl ?_
  refine zs_aload_n (pc := 8) (k := 0) (i := 0) C (by decide +kernel) rfl rfl ?_
  refine zs_aload_n (pc := 9) (k := 1) (i := 1) C (by decide +kernel) rfl rfl ?_
  refine zs_getI (pc := 10) (i := 15) (ci := 5) (k := 1) C (by decide +kernel) fl_RX5_15 h0_ rfl (fun x2 => ?_)
  refine zs_putI (pc := 13) (i := 15) (ci := 5) (k := 1) C (fun _ _ _ => rfl) (by decide +kernel) fl_RX5_15 fw_5_1 h0 rfl ?_
  refine zs_aload_n (pc := 16) (k := 0) (i := 0) C (by decide +kernel) rfl rfl ?_
  refine zs_aload_n (pc := 17) (k := 1) (i := 1) C (by decide +kernel) rfl rfl ?_
  refine zs_getI (pc := 18) (i := 18) (ci := 5) (k := 2) C (by decide +kernel) fl_RX5_18 h0_ rfl (fun x3 => ?_)
  refine zs_putI (pc := 21) (i := 18) (ci := 5) (k := 2) C (fun _ _ _ => rfl) (by decide +kernel) fl_RX5_18 fw_5_2 h0 rfl ?_
  refine zs_aload_n (pc := 24) (k := 0) (i := 0) C (by decide +kernel) rfl rfl ?_
  refine zs_aload_n (pc := 25) (k := 1) (i := 1) C (by decide +kernel) rfl rfl ?_
  refine zs_getI (pc := 26) (i := 21) (ci := 5) (k := 3) C (by decide +kernel) fl_RX5_21 h0_ rfl (fun x4 => ?_)
  refine zs_putI (pc := 29) (i := 21) (ci := 5) (k := 3) C (fun _ _ _ => rfl) (by decide +kernel) fl_RX5_21 fw_5_3 h0 rfl ?_
  refine zs_aload_n (pc := 32) (k := 1) (i := 1) C (by decide +kernel) rfl rfl ?_
  refine zs_getR (o' := (a0 + 1)) (pc := 33) (i := 24) (ci := 5) (k := 4) C (by decide +kernel) fl_RX5_24 h0_ rfl rfl ?_
  refine zs_iconst (pc := 36) (n := 0) (x := 0) C (by decide +kernel) (by decide +kernel) ?_
  refine zs_aload_n (pc := 37) (k := 0) (i := 0) C (by decide +kernel) rfl rfl ?_
  refine zs_getR (o' := (o + 1)) (pc := 38) (i := 24) (ci := 5) (k := 4) C (by decide +kernel) fl_RX5_24 h0 rfl rfl ?_
  refine zs_iconst (pc := 41) (n := 0) (x := 0) C (by decide +kernel) (by decide +kernel) ?_
  refine zs_iconst (pc := 42) (n := 4) (x := 4) C (by decide +kernel) (by decide +kernel) ?_
  refine zs_copyi (pc := 43) (idx := 40) (o0 := (a0 + 1)) (o1 := (o + 1)) (n0 := 4) (n1 := 4) C (fun _ _ _ => rfl) wf_713 wf_715 wf_714 wf_168 ⟨Nat.le_of_ble_eq_true rfl, Nat.le_of_ble_eq_true rfl⟩ (ly_o_5_1 h0_) (ly_o_5_1 h0) (by decide +kernel) ?_
  refine zs_aload_n (pc := 46) (k := 1) (i := 1) C (by decide +kernel) rfl rfl ?_
  refine zs_getR (o' := (a0 + 2)) (pc := 47) (i := 28) (ci := 5) (k := 5) C (by decide +kernel) fl_RX5_28 h0_ rfl rfl ?_
  refine zs_iconst (pc := 50) (n := 0) (x := 0) C (by decide +kernel) (by decide +kernel) ?_
  refine zs_aload_n (pc := 51) (k := 0) (i := 0) C (by decide +kernel) rfl rfl ?_
  refine zs_getR (o' := (o + 2)) (pc := 52) (i := 28) (ci := 5) (k := 5) C (by decide +kernel) fl_RX5_28 h0 rfl rfl ?_
  refine zs_iconst (pc := 55) (n := 0) (x := 0) C (by decide +kernel) (by decide +kernel) ?_
  refine zs_iconst (pc := 56) (n := 4) (x := 4) C (by decide +kernel) (by decide +kernel) ?_
  refine zs_copyi (pc := 57) (idx := 40) (o0 := (a0 + 2)) (o1 := (o + 2)) (n0 := 4) (n1 := 4) C (fun _ _ _ => rfl) wf_713 wf_715 wf_714 wf_168 ⟨Nat.le_of_ble_eq_true rfl, Nat.le_of_ble_eq_true rfl⟩ (ly_o_5_2 h0_) (ly_o_5_2 h0) (by decide +kernel) ?_
  refine zs_aload_n (pc := 60) (k := 1) (i := 1) C (by decide +kernel) rfl rfl ?_
  refine zs_getR (o' := (a0 + 3)) (pc := 61) (i := 31) (ci := 5) (k := 6) C (by decide +kernel) fl_RX5_31 h0_ rfl rfl ?_
  refine zs_iconst (pc := 64) (n := 0) (x := 0) C (by decide +kernel) (by decide +kernel) ?_
  refine zs_aload_n (pc := 65) (k := 0) (i := 0) C (by decide +kernel) rfl rfl ?_
  refine zs_getR (o' := (o + 3)) (pc := 66) (i := 31) (ci := 5) (k := 6) C (by decide +kernel) fl_RX5_31 h0 rfl rfl ?_
  refine zs_iconst (pc := 69) (n := 0) (x := 0) C (by decide +kernel) (by decide +kernel) ?_
  refine zs_iconst (pc := 70) (n := 4) (x := 4) C (by decide +kernel) (by decide +kernel) ?_
  refine zs_copyi (pc := 71) (idx := 40) (o0 := (a0 + 3)) (o1 := (o + 3)) (n0 := 4) (n1 := 4) C (fun _ _ _ => rfl) wf_713 wf_715 wf_714 wf_168 ⟨Nat.le_of_ble_eq_true rfl, Nat.le_of_ble_eq_true rfl⟩ (ly_o_5_3 h0_) (ly_o_5_3 h0) (by decide +kernel) ?_
  exact zs_retVv (pc := 74) C hr ⟨Nat.le_of_ble_eq_true rfl, Nat.le_of_ble_eq_true rfl⟩ (by decide +kernel)
set_option maxRecDepth 20000 in
theorem c_X10_begin (l : Launch) (g : GC)  : ConV l g yX10_begin cX10_begin 3 (rmd 3 0 0) [sR 19, sR 7, sR 14] (fun mm => fX10_begin  mm) := by
  refine zs_ofV (by decide +kernel) (Nat.le_of_ble_eq_true rfl) ?_
  intro p e s m args below meth c C hr
  replace C : Bd g RX10 cX10_begin 3 p s m args meth c := C
  unfold fX10_begin
  refine zs_aload_n (pc := 0) (k := 0) (i := 0) C (by decide +kernel) rfl rfl ?_
  refine zs_getR (o' := 20) (pc := 1) (i := 12) (ci := 10) (k := 0) C (by decide +kernel) fl_RX10_12 rfl rfl rfl ?_
  refine zs_aload_n (pc := 4) (k := 1) (i := 1) C (by decide +kernel) rfl rfl ?_
  refine zs_cvVv (pc := 5) (As := [sR 7]) (st := []) C (fun _ _ _ => rfl) (c_X3_copyFrom l g 20 7 rfl rfl) ml_RX10_52 rfl rfl rfl rfl (Nat.le_of_ble_eq_true rfl) ⟨Nat.le_of_ble_eq_true rfl, Nat.le_of_ble_eq_true rfl⟩ ⟨Nat.le_of_ble_eq_true rfl, Nat.le_of_ble_eq_true rfl⟩ (by decide +kernel) ?_
  refine zs_aload_n (pc := 8) (k := 0) (i := 0) C (by decide +kernel) rfl rfl ?_
  refine zs_getR (o' := 27) (pc := 9) (i := 21) (ci := 10) (k := 1) C (by decide +kernel) fl_RX10_21 rfl rfl rfl ?_
  refine zs_aload_n (pc := 12) (k := 2) (i := 2) C (by decide +kernel) rfl rfl ?_
  refine zs_cvVv (pc := 13) (As := [sR 14]) (st := []) C (fun _ _ _ => rfl) (c_X5_copyFrom l g 27 14 rfl rfl) ml_RX10_56 rfl rfl rfl rfl (Nat.le_of_ble_eq_true rfl) ⟨Nat.le_of_ble_eq_true rfl, Nat.le_of_ble_eq_true rfl⟩ ⟨Nat.le_of_ble_eq_true rfl, Nat.le_of_ble_eq_true rfl⟩ (by decide +kernel) ?_
  refine zs_aload_n (pc := 16) (k := 0) (i := 0) C (by decide +kernel) rfl rfl ?_
  refine zs_iconst (pc := 17) (n := 0) (x := 0) C (by decide +kernel) (by decide +kernel) ?_
  refine zs_putI (pc := 18) (i := 25) (ci := 10) (k := 2) C (fun _ _ _ => rfl) (by decide +kernel) fl_RX10_25 fw_10_2 rfl rfl ?_
  exact zs_retVv (pc := 21) C hr ⟨Nat.le_of_ble_eq_true rfl, Nat.le_of_ble_eq_true rfl⟩ (by decide +kernel)
set_option maxRecDepth 20000 in
theorem c_X11_island (l : Launch) (g : GC) (hl : l.stackTraces = false) (a0 : Int) : ConT l g yX11_island cX11_island 2 (some .int) (rmd 68 1 6) [sR 0, sI a0] (fun mm => fX11_island a0 mm) := by
  refine zs_ofT (by decide +kernel) (Nat.le_of_ble_eq_true rfl) ?_
  intro p e s m args below meth c C hr hE
  replace C : Bd g RX11 cX11_island 2 p s m args meth c := C
  unfold fX11_island
  refine zs_iload_n (pc := 0) (k := 1) (i := 1) C (by decide +kernel) rfl rfl ?_
  refine zs_jn (pJ := 12) (kJ := 0) (sJ := 0) (fun t1 => []) (fun t1 => []) (fun t1 => ?_) (fun J2 hJ2 => ?_)
  · exact zs_throw (pc := 12) (text := "not so many bytes on the tape") (ik := 85) (is_ := 87) (ic := 89) (k := 1) C hE hl ⟨by decide, rfl⟩ ⟨by decide +kernel, by decide +kernel⟩ wf_784 wf_161 (by decide +kernel) ex_RX11_89.1 ex_RX11_89.2 ⟨Nat.le_of_ble_eq_true rfl, Nat.le_of_ble_eq_true rfl, Nat.le_of_ble_eq_true rfl, Nat.le_of_ble_eq_true rfl⟩ ⟨Nat.le_of_ble_eq_true rfl, Nat.le_of_ble_eq_true rfl⟩ (by decide +kernel) (by decide +kernel) (by decide +kernel) (by decide +kernel) (by decide +kernel)
  · refine zs_if_lt (pc := 1) (off := 11) (tgt := 12) C (by decide +kernel) (by decide) ?_ ?_
    · exact zs_goj (hJ2 ()) trivial
    · refine zs_iload_n (pc := 4) (k := 1) (i := 1) C (by decide +kernel) rfl rfl ?_
      refine zs_aload_n (pc := 5) (k := 0) (i := 0) C (by decide +kernel) rfl rfl ?_
      refine zs_getI (pc := 6) (i := 13) (ci := 11) (k := 1) C (by decide +kernel) fl_RX11_13 rfl rfl (fun x3 => ?_)
      refine zs_icmp_le (pc := 9) (off := 13) (tgt := 22) C (by decide +kernel) (by decide) ?_ ?_
      · refine zs_aload_n (pc := 22) (k := 0) (i := 0) C (by decide +kernel) rfl rfl ?_
        refine zs_iconst (pc := 23) (n := 0) (x := 0) C (by decide +kernel) (by decide +kernel) ?_
        refine zs_putI (pc := 24) (i := 13) (ci := 11) (k := 1) C (fun _ _ _ => rfl) (by decide +kernel) fl_RX11_13 fw_11_1 rfl rfl ?_
        refine zs_aload_n (pc := 27) (k := 0) (i := 0) C (by decide +kernel) rfl rfl ?_
        refine zs_getR (o' := 2) (pc := 28) (i := 26) (ci := 11) (k := 4) C (by decide +kernel) fl_RX11_26 rfl rfl rfl ?_
        refine zs_aload_n (pc := 31) (k := 0) (i := 0) C (by decide +kernel) rfl rfl ?_
        refine zs_getR (o' := 1) (pc := 32) (i := 9) (ci := 11) (k := 0) C (by decide +kernel) fl_RX11_9 rfl rfl rfl ?_
        refine zs_iload_n (pc := 35) (k := 1) (i := 1) C (by decide +kernel) rfl rfl ?_
        refine zs_cvVv (pc := 36) (As := [sR 1, sI a0]) (st := []) C (fun _ _ _ => rfl) (c_X6_read l g a0) ml_RX11_92 rfl rfl rfl rfl (Nat.le_of_ble_eq_true rfl) ⟨Nat.le_of_ble_eq_true rfl, Nat.le_of_ble_eq_true rfl⟩ ⟨Nat.le_of_ble_eq_true rfl, Nat.le_of_ble_eq_true rfl⟩ (by decide +kernel) ?_
        refine zs_aload_n (pc := 39) (k := 0) (i := 0) C (by decide +kernel) rfl rfl ?_
        refine zs_aload_n (pc := 40) (k := 0) (i := 0) C (by decide +kernel) rfl rfl ?_
        refine zs_getR (o' := 2) (pc := 41) (i := 26) (ci := 11) (k := 4) C (by decide +kernel) fl_RX11_26 rfl rfl rfl ?_
        refine zs_getI (pc := 44) (i := 96) (ci := 6) (k := 3) C (by decide +kernel) fl_RX11_96 rfl rfl (fun x4 => ?_)
        refine zs_putI (pc := 47) (i := 17) (ci := 11) (k := 2) C (fun _ _ _ => rfl) (by decide +kernel) fl_RX11_17 fw_11_2 rfl rfl ?_
        refine zs_aload_n (pc := 50) (k := 0) (i := 0) C (by decide +kernel) rfl rfl ?_
        refine zs_aload_n (pc := 51) (k := 0) (i := 0) C (by decide +kernel) rfl rfl ?_
        refine zs_getR (o' := 2) (pc := 52) (i := 26) (ci := 11) (k := 4) C (by decide +kernel) fl_RX11_26 rfl rfl rfl ?_
        refine zs_getI (pc := 55) (i := 99) (ci := 6) (k := 4) C (by decide +kernel) fl_RX11_99 rfl rfl (fun x5 => ?_)
        refine zs_putI (pc := 58) (i := 20) (ci := 11) (k := 3) C (fun _ _ _ => rfl) (by decide +kernel) fl_RX11_20 fw_11_3 rfl rfl ?_
        refine zs_aload_n (pc := 61) (k := 0) (i := 0) C (by decide +kernel) rfl rfl ?_
        refine zs_getI (pc := 62) (i := 17) (ci := 11) (k := 2) C (by decide +kernel) fl_RX11_17 rfl rfl (fun x6 => ?_)
        refine zs_if_eq (pc := 65) (off := 11) (tgt := 76) C (by decide +kernel) (by decide) ?_ ?_
        · refine zs_aload_n (pc := 76) (k := 0) (i := 0) C (by decide +kernel) rfl rfl ?_
          refine zs_getR (o' := 19) (pc := 77) (i := 41) (ci := 11) (k := 6) C (by decide +kernel) fl_RX11_41 rfl rfl rfl ?_
          refine zs_aload_n (pc := 80) (k := 0) (i := 0) C (by decide +kernel) rfl rfl ?_
          refine zs_getR (o' := 2) (pc := 81) (i := 26) (ci := 11) (k := 4) C (by decide +kernel) fl_RX11_26 rfl rfl rfl ?_
          refine zs_getR (o' := 7) (pc := 84) (i := 102) (ci := 6) (k := 1) C (by decide +kernel) fl_RX11_102 rfl rfl rfl ?_
          refine zs_aload_n (pc := 87) (k := 0) (i := 0) C (by decide +kernel) rfl rfl ?_
          refine zs_getR (o' := 2) (pc := 88) (i := 26) (ci := 11) (k := 4) C (by decide +kernel) fl_RX11_26 rfl rfl rfl ?_
          refine zs_getR (o' := 14) (pc := 91) (i := 106) (ci := 6) (k := 2) C (by decide +kernel) fl_RX11_106 rfl rfl rfl ?_
          refine zs_cvVv (pc := 94) (As := [sR 7, sR 14]) (st := []) C (fun _ _ _ => rfl) (c_X10_begin l g ) ml_RX11_110 rfl rfl rfl rfl (Nat.le_of_ble_eq_true rfl) ⟨Nat.le_of_ble_eq_true rfl, Nat.le_of_ble_eq_true rfl⟩ ⟨Nat.le_of_ble_eq_true rfl, Nat.le_of_ble_eq_true rfl⟩ (by decide +kernel) ?_
          refine zs_aload_n (pc := 97) (k := 0) (i := 0) C (by decide +kernel) rfl rfl ?_
          refine zs_getR (o' := 19) (pc := 98) (i := 41) (ci := 11) (k := 6) C (by decide +kernel) fl_RX11_41 rfl rfl rfl ?_
          refine zs_getR (o' := 20) (pc := 101) (i := 114) (ci := 10) (k := 0) C (by decide +kernel) fl_RX11_114 rfl rfl rfl ?_
          refine zs_getI (pc := 104) (i := 115) (ci := 3) (k := 0) C (by decide +kernel) fl_RX11_115 rfl rfl (fun x7 => ?_)
          exact zs_retTi (pc := 107) C hr ⟨Nat.le_of_ble_eq_true rfl, Nat.le_of_ble_eq_true rfl⟩ (by decide +kernel)
        · refine zs_bipush (pc := 68) (n := (-10)) (x := (-10)) C (by decide +kernel) (by decide +kernel) ?_
          refine zs_aload_n (pc := 70) (k := 0) (i := 0) C (by decide +kernel) rfl rfl ?_
          refine zs_getI (pc := 71) (i := 17) (ci := 11) (k := 2) C (by decide +kernel) fl_RX11_17 rfl rfl (fun x8 => ?_)
          refine zs_isub (pc := 74) C (by decide +kernel) ?_
          exact zs_retTi (pc := 75) C hr ⟨Nat.le_of_ble_eq_true rfl, Nat.le_of_ble_eq_true rfl⟩ (by decide +kernel)
      · exact zs_goj (hJ2 ()) trivial
set_option maxRecDepth 20000 in
theorem c_X11_fault (l : Launch) (g : GC) (a0 : Int) : ConR l g yX11_fault cX11_fault 2 (some .int) (rmd 1 0 0) [sR 0, sI a0] (fun mm => fX11_fault a0 mm) := by
  refine zs_ofR (by decide +kernel) (Nat.le_of_ble_eq_true rfl) ?_
  intro p e s m args below meth c C hr
  replace C : Bd g RX11 cX11_fault 2 p s m args meth c := C
  unfold fX11_fault
  refine zs_iload_n (pc := 0) (k := 1) (i := 1) C (by decide +kernel) rfl rfl ?_
  refine zs_ite (fun hc0 => ?_) (fun hc0 => ?_)
  · refine zs_lsw (pc := 1) (dflt := 37) (ps := #[(0, 27), (1, 32)]) (len := 27) (off := 27) (tgt := 28) C (by decide +kernel) (by decide +kernel) (by rw [hc0]; rfl) (by decide) ?_
    refine zs_aload_n (pc := 28) (k := 0) (i := 0) C (by decide +kernel) rfl rfl ?_
    refine zs_getI (pc := 29) (i := 17) (ci := 11) (k := 2) C (by decide +kernel) fl_RX11_17 rfl rfl (fun x1 => ?_)
    exact zs_retRi (pc := 32) C hr ⟨Nat.le_of_ble_eq_true rfl, Nat.le_of_ble_eq_true rfl⟩ (by decide +kernel)
  · refine zs_ite (fun hc1 => ?_) (fun hc1 => ?_)
    · refine zs_lsw (pc := 1) (dflt := 37) (ps := #[(0, 27), (1, 32)]) (len := 27) (off := 32) (tgt := 33) C (by decide +kernel) (by decide +kernel) (by rw [hc1]; rfl) (by decide) ?_
      refine zs_aload_n (pc := 33) (k := 0) (i := 0) C (by decide +kernel) rfl rfl ?_
      refine zs_getI (pc := 34) (i := 20) (ci := 11) (k := 3) C (by decide +kernel) fl_RX11_20 rfl rfl (fun x2 => ?_)
      exact zs_retRi (pc := 37) C hr ⟨Nat.le_of_ble_eq_true rfl, Nat.le_of_ble_eq_true rfl⟩ (by decide +kernel)
    · refine zs_lsw (pc := 1) (dflt := 37) (ps := #[(0, 27), (1, 32)]) (len := 27) (off := 37) (tgt := 38) C (by decide +kernel) (by decide +kernel) (by simp [Op.lookupswitch.offset, hc0, Ne.symm hc0, hc1, Ne.symm hc1]) (by decide) ?_
      refine zs_iconst (pc := 38) (n := (-1)) (x := (-1)) C (by decide +kernel) (by decide +kernel) ?_
      exact zs_retRi (pc := 39) C hr ⟨Nat.le_of_ble_eq_true rfl, Nat.le_of_ble_eq_true rfl⟩ (by decide +kernel)
set_option maxRecDepth 20000 in
theorem c_X3_places (l : Launch) (g : GC)  : ConR l g yX3_places cX3_places 1 (some .int) (rmd 1 0 0) [sR 20] (fun mm => fX3_places  mm) := by
  refine zs_ofR (by decide +kernel) (Nat.le_of_ble_eq_true rfl) ?_
  intro p e s m args below meth c C hr
  replace C : Bd g RX3 cX3_places 1 p s m args meth c := C
  unfold fX3_places
  refine zs_aload_n (pc := 0) (k := 0) (i := 0) C (by decide +kernel) rfl rfl ?_
  refine zs_getI (pc := 1) (i := 15) (ci := 3) (k := 1) C (by decide +kernel) fl_RX3_15 rfl rfl (fun x1 => ?_)
  refine zs_aload_n (pc := 4) (k := 0) (i := 0) C (by decide +kernel) rfl rfl ?_
  refine zs_getI (pc := 5) (i := 18) (ci := 3) (k := 2) C (by decide +kernel) fl_RX3_18 rfl rfl (fun x2 => ?_)
  refine zs_imul (pc := 8) C (by decide +kernel) ?_
  exact zs_retRi (pc := 9) C hr ⟨Nat.le_of_ble_eq_true rfl, Nat.le_of_ble_eq_true rfl⟩ (by decide +kernel)
set_option maxRecDepth 20000 in
theorem c_X11_needPlace (l : Launch) (g : GC) (hl : l.stackTraces = false) (a0 : Int) : ConT l g yX11_needPlace cX11_needPlace 2 none (rmd 7 1 6) [sR 0, sI a0] (fun mm => fX11_needPlace a0 mm) := by
  refine zs_ofT (by decide +kernel) (Nat.le_of_ble_eq_true rfl) ?_
  intro p e s m args below meth c C hr hE
  replace C : Bd g RX11 cX11_needPlace 2 p s m args meth c := C
  unfold fX11_needPlace
  refine zs_iload_n (pc := 0) (k := 1) (i := 1) C (by decide +kernel) rfl rfl ?_
  refine zs_jn (pJ := 18) (kJ := 0) (sJ := 0) (fun t1 => []) (fun t1 => []) (fun t1 => ?_) (fun J2 hJ2 => ?_)
  · exact zs_throwNW (pc := 18) (text := "no such place") (ik := 171) (is_ := 406) (ic := 175) (k := 3) (ix := 13) (rx := prog_34_method_4_code) (Y1 := "java/lang/RuntimeException") C hE hl ⟨by decide, rfl⟩ ⟨by decide +kernel, by decide +kernel, by decide +kernel⟩ wf_1119 wf_169 (by decide +kernel) ex_RX11_175.1 ex_RX11_175.2 (by decide +kernel) (by decide +kernel) (by decide +kernel) (by decide +kernel) ⟨Nat.le_of_ble_eq_true rfl, Nat.le_of_ble_eq_true rfl, Nat.le_of_ble_eq_true rfl, Nat.le_of_ble_eq_true rfl⟩ ⟨Nat.le_of_ble_eq_true rfl, Nat.le_of_ble_eq_true rfl⟩ (by decide +kernel) (by decide +kernel) (by decide +kernel) (by decide +kernel) (by decide +kernel)
  · refine zs_if_lt (pc := 1) (off := 17) (tgt := 18) C (by decide +kernel) (by decide) ?_ ?_
    · exact zs_goj (hJ2 ()) trivial
    · refine zs_iload_n (pc := 4) (k := 1) (i := 1) C (by decide +kernel) rfl rfl ?_
      refine zs_aload_n (pc := 5) (k := 0) (i := 0) C (by decide +kernel) rfl rfl ?_
      refine zs_getR (o' := 19) (pc := 6) (i := 41) (ci := 11) (k := 6) C (by decide +kernel) fl_RX11_41 rfl rfl rfl ?_
      refine zs_getR (o' := 20) (pc := 9) (i := 114) (ci := 10) (k := 0) C (by decide +kernel) fl_RX11_114 rfl rfl rfl ?_
      refine zs_cvRi (pc := 12) (As := []) (st := [sI a0]) C rfl (c_X3_places l g ) ml_RX11_403 rfl rfl rfl rfl (Nat.le_of_ble_eq_true rfl) ⟨Nat.le_of_ble_eq_true rfl, Nat.le_of_ble_eq_true rfl⟩ ⟨Nat.le_of_ble_eq_true rfl, Nat.le_of_ble_eq_true rfl⟩ (by decide +kernel) (fun x3 => ?_)
      refine zs_icmp_lt (pc := 15) (off := 14) (tgt := 29) C (by decide +kernel) (by decide) ?_ ?_
      · exact zs_retTv (pc := 29) C hr ⟨Nat.le_of_ble_eq_true rfl, Nat.le_of_ble_eq_true rfl⟩ (by decide +kernel)
      · exact zs_goj (hJ2 ()) trivial
set_option maxRecDepth 20000 in
theorem c_X3_isRock (l : Launch) (g : GC) (a0 : Int) : ConR l g yX3_isRock cX3_isRock 2 (some .boolean) (rmd 1 0 0) [sR 20, sI a0] (fun mm => fX3_isRock a0 mm) := by
  refine zs_ofR (by decide +kernel) (Nat.le_of_ble_eq_true rfl) ?_
  intro p e s m args below meth c C hr
  replace C : Bd g RX3 cX3_isRock 2 p s m args meth c := C
  unfold fX3_isRock
  refine zs_aload_n (pc := 0) (k := 0) (i := 0) C (by decide +kernel) rfl rfl ?_
  refine zs_getI (pc := 1) (i := 21) (ci := 3) (k := 3) C (by decide +kernel) fl_RX3_21 rfl rfl (fun x1 => ?_)
  refine zs_iload_n (pc := 4) (k := 1) (i := 1) C (by decide +kernel) rfl rfl ?_
  refine zs_iushr (pc := 5) C (by decide +kernel) ?_
  refine zs_iconst (pc := 6) (n := 1) (x := 1) C (by decide +kernel) (by decide +kernel) ?_
  refine zs_iand (pc := 7) C (by decide +kernel) ?_
  refine zs_jn (pJ := 16) (kJ := 0) (sJ := 0) (fun t2 => []) (fun t2 => [sI t2]) (fun t2 => ?_) (fun J3 hJ3 => ?_)
  · refine zs_chk (fun _ hx => ?_)
    exact zs_retRz (pc := 16) C hx hr ⟨Nat.le_of_ble_eq_true rfl, Nat.le_of_ble_eq_true rfl⟩ (by decide +kernel)
  · refine zs_if_eq (pc := 8) (off := 7) (tgt := 15) C (by decide +kernel) (by decide) ?_ ?_
    · refine zs_iconst (pc := 15) (n := 0) (x := 0) C (by decide +kernel) (by decide +kernel) ?_
      exact zs_goj (hJ3 0) trivial
    · refine zs_iconst (pc := 11) (n := 1) (x := 1) C (by decide +kernel) (by decide +kernel) ?_
      refine zs_goto (pc := 12) (off := 4) (tgt := 16) C (by decide +kernel) (by decide) ?_
      exact zs_goj (hJ3 1) trivial
set_option maxRecDepth 20000 in
theorem c_X10_peopleAt (l : Launch) (g : GC) (a0 : Int) : ConR l g yX10_peopleAt cX10_peopleAt 4 (some .int) (rmd 1 0 0) [sR 19, sI a0] (fun mm => fX10_peopleAt a0 mm) := by
  refine zs_ofR (by decide +kernel) (Nat.le_of_ble_eq_true rfl) ?_
  intro p e s m args below meth c C hr
  replace C : Bd g RX10 cX10_peopleAt 4 p s m args meth c := C
  unfold fX10_peopleAt
  refine zs_iconst (pc := 0) (n := 0) (x := 0) C (by decide +kernel) (by decide +kernel) ?_
  refine zs_istore_n (pc := 1) (k := 2) (i := 2) (ls' := [(2, sI 0), (0, sR 19), (1, sI a0)]) C (by decide +kernel) rfl (Nat.le_of_ble_eq_true rfl) rfl ?_
  refine zs_iconst (pc := 2) (n := 0) (x := 0) C (by decide +kernel) (by decide +kernel) ?_
  refine zs_istore_n (pc := 3) (k := 3) (i := 3) (ls' := [(3, sI 0), (2, sI 0), (0, sR 19), (1, sI a0)]) C (by decide +kernel) rfl (Nat.le_of_ble_eq_true rfl) rfl ?_
  refine zs_sub (ls' := [(0, sR 19), (1, sI a0), (2, sI 0), (3, sI 0)]) ⟨rfl, rfl, rfl, rfl, trivial⟩ ?_
  refine zs_lp (pc := 4) (fun (t1 : Int × Int) => [(0, sR 19), (1, sI a0), (2, sI t1.1), (3, sI t1.2)]) (fun _ => []) (fun K2 hK2 t1 => ?_) BIG (0, 0)
  refine zs_iload_n (pc := 4) (k := 3) (i := 3) C (by decide +kernel) rfl rfl ?_
  refine zs_aload_n (pc := 5) (k := 0) (i := 0) C (by decide +kernel) rfl rfl ?_
  refine zs_getR (o' := 20) (pc := 6) (i := 12) (ci := 10) (k := 0) C (by decide +kernel) fl_RX10_12 rfl rfl rfl ?_
  refine zs_getI (pc := 9) (i := 65) (ci := 3) (k := 5) C (by decide +kernel) fl_RX10_65 rfl rfl (fun x3 => ?_)
  refine zs_jn (pJ := 68) (kJ := 0) (sJ := 0) (fun t4 => [(2, sI t1.1)]) (fun t4 => []) (fun t4 => ?_) (fun J5 hJ5 => ?_)
  · refine zs_iload_n (pc := 68) (k := 2) (i := 2) C (by decide +kernel) rfl rfl ?_
    exact zs_retRi (pc := 69) C hr ⟨Nat.le_of_ble_eq_true rfl, Nat.le_of_ble_eq_true rfl⟩ (by decide +kernel)
  · refine zs_icmp_ge (pc := 12) (off := 56) (tgt := 68) C (by decide +kernel) (by decide) ?_ ?_
    · exact zs_goj (hJ5 ()) ⟨rfl, trivial⟩
    · refine zs_iload_n (pc := 15) (k := 3) (i := 3) C (by decide +kernel) rfl rfl ?_
      refine zs_iconst (pc := 16) (n := 4) (x := 4) C (by decide +kernel) (by decide +kernel) ?_
      refine zs_icmp_ge (pc := 17) (off := 51) (tgt := 68) C (by decide +kernel) (by decide) ?_ ?_
      · exact zs_goj (hJ5 ()) ⟨rfl, trivial⟩
      · refine zs_iload_n (pc := 20) (k := 2) (i := 2) C (by decide +kernel) rfl rfl ?_
        refine zs_aload_n (pc := 21) (k := 0) (i := 0) C (by decide +kernel) rfl rfl ?_
        refine zs_getR (o' := 27) (pc := 22) (i := 21) (ci := 10) (k := 1) C (by decide +kernel) fl_RX10_21 rfl rfl rfl ?_
        refine zs_getR (o' := 28) (pc := 25) (i := 68) (ci := 5) (k := 4) C (by decide +kernel) fl_RX10_68 rfl rfl rfl ?_
        refine zs_iload_n (pc := 28) (k := 3) (i := 3) C (by decide +kernel) rfl rfl ?_
        refine zs_iald (pc := 29) (o := 28) (n := 4) C (by decide +kernel) rfl (fun hinx6 x6 => ?_)
        refine zs_iload_n (pc := 30) (k := 1) (i := 1) C (by decide +kernel) rfl rfl ?_
        refine zs_jn (pJ := 39) (kJ := 0) (sJ := 0) (fun t7 => [(0, sR 19), (1, sI a0), (3, sI t1.2)]) (fun t7 => [sI t7, sI t1.1]) (fun t7 => ?_) (fun J8 hJ8 => ?_)
        · refine zs_iadd (pc := 39) C (by decide +kernel) ?_
          refine zs_let (fun x9 => ?_)
          refine zs_istore_n (pc := 40) (k := 2) (i := 2) (ls' := [(2, sI x9), (0, sR 19), (1, sI a0), (3, sI t1.2)]) C (by decide +kernel) rfl (Nat.le_of_ble_eq_true rfl) rfl ?_
          refine zs_iload_n (pc := 41) (k := 2) (i := 2) C (by decide +kernel) rfl rfl ?_
          refine zs_aload_n (pc := 42) (k := 0) (i := 0) C (by decide +kernel) rfl rfl ?_
          refine zs_getR (o' := 27) (pc := 43) (i := 21) (ci := 10) (k := 1) C (by decide +kernel) fl_RX10_21 rfl rfl rfl ?_
          refine zs_getR (o' := 29) (pc := 46) (i := 71) (ci := 5) (k := 5) C (by decide +kernel) fl_RX10_71 rfl rfl rfl ?_
          refine zs_iload_n (pc := 49) (k := 3) (i := 3) C (by decide +kernel) rfl rfl ?_
          refine zs_iald (pc := 50) (o := 29) (n := 4) C (by decide +kernel) rfl (fun hinx10 x10 => ?_)
          refine zs_iload_n (pc := 51) (k := 1) (i := 1) C (by decide +kernel) rfl rfl ?_
          refine zs_jn (pJ := 60) (kJ := 0) (sJ := 0) (fun t11 => [(0, sR 19), (1, sI a0), (3, sI t1.2)]) (fun t11 => [sI t11, sI x9]) (fun t11 => ?_) (fun J12 hJ12 => ?_)
          · refine zs_iadd (pc := 60) C (by decide +kernel) ?_
            refine zs_let (fun x13 => ?_)
            refine zs_istore_n (pc := 61) (k := 2) (i := 2) (ls' := [(2, sI x13), (0, sR 19), (1, sI a0), (3, sI t1.2)]) C (by decide +kernel) rfl (Nat.le_of_ble_eq_true rfl) rfl ?_
            refine zs_iinc (pc := 62) (i := 3) (n := 1) (y := w32 (t1.2 + 1)) (ls' := [(3, sI (w32 (t1.2 + 1))), (2, sI x13), (0, sR 19), (1, sI a0)]) C (by decide +kernel) rfl rfl (Nat.le_of_ble_eq_true rfl) rfl ?_
            refine zs_goto (pc := 65) (off := (-61)) (tgt := 4) C (by decide +kernel) (by decide) ?_
            exact zs_goj (hK2 (x13, w32 (t1.2 + 1))) ⟨rfl, rfl, rfl, rfl, trivial⟩
          · refine zs_icmp_ne (pc := 52) (off := 7) (tgt := 59) C (by decide +kernel) (by decide) ?_ ?_
            · refine zs_iconst (pc := 59) (n := 0) (x := 0) C (by decide +kernel) (by decide +kernel) ?_
              exact zs_goj (hJ12 0) ⟨rfl, rfl, rfl, trivial⟩
            · refine zs_iconst (pc := 55) (n := 1) (x := 1) C (by decide +kernel) (by decide +kernel) ?_
              refine zs_goto (pc := 56) (off := 4) (tgt := 60) C (by decide +kernel) (by decide) ?_
              exact zs_goj (hJ12 1) ⟨rfl, rfl, rfl, trivial⟩
        · refine zs_icmp_ne (pc := 31) (off := 7) (tgt := 38) C (by decide +kernel) (by decide) ?_ ?_
          · refine zs_iconst (pc := 38) (n := 0) (x := 0) C (by decide +kernel) (by decide +kernel) ?_
            exact zs_goj (hJ8 0) ⟨rfl, rfl, rfl, trivial⟩
          · refine zs_iconst (pc := 34) (n := 1) (x := 1) C (by decide +kernel) (by decide +kernel) ?_
            refine zs_goto (pc := 35) (off := 4) (tgt := 39) C (by decide +kernel) (by decide) ?_
            exact zs_goj (hJ8 1) ⟨rfl, rfl, rfl, trivial⟩
set_option maxRecDepth 20000 in
theorem c_X3_houseStandsAt (l : Launch) (g : GC) (a0 : Int) : ConR l g yX3_houseStandsAt cX3_houseStandsAt 3 (some .boolean) (rmd 1 0 0) [sR 20, sI a0] (fun mm => fX3_houseStandsAt a0 mm) := by
  refine zs_ofR (by decide +kernel) (Nat.le_of_ble_eq_true rfl) ?_
  intro p e s m args below meth c C hr
  replace C : Bd g RX3 cX3_houseStandsAt 3 p s m args meth c := C
  unfold fX3_houseStandsAt
  refine zs_iconst (pc := 0) (n := 0) (x := 0) C (by decide +kernel) (by decide +kernel) ?_
  refine zs_istore_n (pc := 1) (k := 2) (i := 2) (ls' := [(2, sI 0), (0, sR 20), (1, sI a0)]) C (by decide +kernel) rfl (Nat.le_of_ble_eq_true rfl) rfl ?_
  refine zs_sub (ls' := [(0, sR 20), (1, sI a0), (2, sI 0)]) ⟨rfl, rfl, rfl, trivial⟩ ?_
  refine zs_lp (pc := 2) (fun (t1 : Int) => [(0, sR 20), (1, sI a0), (2, sI t1)]) (fun _ => []) (fun K2 hK2 t1 => ?_) BIG 0
  refine zs_iload_n (pc := 2) (k := 2) (i := 2) C (by decide +kernel) rfl rfl ?_
  refine zs_aload_n (pc := 3) (k := 0) (i := 0) C (by decide +kernel) rfl rfl ?_
  refine zs_getI (pc := 4) (i := 24) (ci := 3) (k := 4) C (by decide +kernel) fl_RX3_24 rfl rfl (fun x3 => ?_)
  refine zs_jn (pJ := 34) (kJ := 0) (sJ := 0) (fun t4 => []) (fun t4 => []) (fun t4 => ?_) (fun J5 hJ5 => ?_)
  · refine zs_iconst (pc := 34) (n := 0) (x := 0) C (by decide +kernel) (by decide +kernel) ?_
    exact zs_retRz (pc := 35) C (by decide) hr ⟨Nat.le_of_ble_eq_true rfl, Nat.le_of_ble_eq_true rfl⟩ (by decide +kernel)
  · refine zs_icmp_ge (pc := 7) (off := 27) (tgt := 34) C (by decide +kernel) (by decide) ?_ ?_
    · exact zs_goj (hJ5 ()) trivial
    · refine zs_iload_n (pc := 10) (k := 2) (i := 2) C (by decide +kernel) rfl rfl ?_
      refine zs_bipush (pc := 11) (n := 8) (x := 8) C (by decide +kernel) (by decide +kernel) ?_
      refine zs_icmp_ge (pc := 13) (off := 21) (tgt := 34) C (by decide +kernel) (by decide) ?_ ?_
      · exact zs_goj (hJ5 ()) trivial
      · refine zs_aload_n (pc := 16) (k := 0) (i := 0) C (by decide +kernel) rfl rfl ?_
        refine zs_getR (o' := 21) (pc := 17) (i := 30) (ci := 3) (k := 6) C (by decide +kernel) fl_RX3_30 rfl rfl rfl ?_
        refine zs_iload_n (pc := 20) (k := 2) (i := 2) C (by decide +kernel) rfl rfl ?_
        refine zs_iald (pc := 21) (o := 21) (n := 8) C (by decide +kernel) rfl (fun hinx6 x6 => ?_)
        refine zs_iload_n (pc := 22) (k := 1) (i := 1) C (by decide +kernel) rfl rfl ?_
        refine zs_icmp_ne (pc := 23) (off := 5) (tgt := 28) C (by decide +kernel) (by decide) ?_ ?_
        · refine zs_iinc (pc := 28) (i := 2) (n := 1) (y := w32 (t1 + 1)) (ls' := [(2, sI (w32 (t1 + 1))), (0, sR 20), (1, sI a0)]) C (by decide +kernel) rfl rfl (Nat.le_of_ble_eq_true rfl) rfl ?_
          refine zs_goto (pc := 31) (off := (-29)) (tgt := 2) C (by decide +kernel) (by decide) ?_
          exact zs_goj (hK2 (w32 (t1 + 1))) ⟨rfl, rfl, rfl, trivial⟩
        · refine zs_iconst (pc := 26) (n := 1) (x := 1) C (by decide +kernel) (by decide +kernel) ?_
          exact zs_retRz (pc := 27) C (by decide) hr ⟨Nat.le_of_ble_eq_true rfl, Nat.le_of_ble_eq_true rfl⟩ (by decide +kernel)
set_option maxRecDepth 20000 in
theorem c_X11_place (l : Launch) (g : GC) (hl : l.stackTraces = false) (a0 : Int) : ConT l g yX11_place cX11_place 2 (some .int) (rmd 8 1 6) [sR 0, sI a0] (fun mm => fX11_place a0 mm) := by
  refine zs_ofT (by decide +kernel) (Nat.le_of_ble_eq_true rfl) ?_
  intro p e s m args below meth c C hr hE
  replace C : Bd g RX11 cX11_place 2 p s m args meth c := C
  unfold fX11_place
  refine zs_aload_n (pc := 0) (k := 0) (i := 0) C (by decide +kernel) rfl rfl ?_
  refine zs_iload_n (pc := 1) (k := 1) (i := 1) C (by decide +kernel) rfl rfl ?_
  refine zs_cvTv (pc := 2) (As := [sI a0]) (st := []) C hE (c_X11_needPlace l g hl a0) ml_RX11_120 rfl rfl rfl rfl (Nat.le_of_ble_eq_true rfl) ⟨Nat.le_of_ble_eq_true rfl, Nat.le_of_ble_eq_true rfl⟩ ⟨Nat.le_of_ble_eq_true rfl, Nat.le_of_ble_eq_true rfl⟩ ⟨Nat.le_of_ble_eq_true rfl, Nat.le_of_ble_eq_true rfl⟩ (by decide +kernel) ?_
  refine zs_aload_n (pc := 5) (k := 0) (i := 0) C (by decide +kernel) rfl rfl ?_
  refine zs_getR (o' := 19) (pc := 6) (i := 41) (ci := 11) (k := 6) C (by decide +kernel) fl_RX11_41 rfl rfl rfl ?_
  refine zs_getR (o' := 20) (pc := 9) (i := 114) (ci := 10) (k := 0) C (by decide +kernel) fl_RX11_114 rfl rfl rfl ?_
  refine zs_iload_n (pc := 12) (k := 1) (i := 1) C (by decide +kernel) rfl rfl ?_
  refine zs_cvRi (pc := 13) (As := [sI a0]) (st := []) C rfl (c_X3_isRock l g a0) ml_RX11_123 rfl rfl rfl rfl (Nat.le_of_ble_eq_true rfl) ⟨Nat.le_of_ble_eq_true rfl, Nat.le_of_ble_eq_true rfl⟩ ⟨Nat.le_of_ble_eq_true rfl, Nat.le_of_ble_eq_true rfl⟩ (by decide +kernel) (fun x1 => ?_)
  refine zs_if_eq (pc := 16) (off := 6) (tgt := 22) C (by decide +kernel) (by decide) ?_ ?_
  · refine zs_bipush (pc := 22) (n := 10) (x := 10) C (by decide +kernel) (by decide +kernel) ?_
    refine zs_aload_n (pc := 24) (k := 0) (i := 0) C (by decide +kernel) rfl rfl ?_
    refine zs_getR (o' := 19) (pc := 25) (i := 41) (ci := 11) (k := 6) C (by decide +kernel) fl_RX11_41 rfl rfl rfl ?_
    refine zs_iload_n (pc := 28) (k := 1) (i := 1) C (by decide +kernel) rfl rfl ?_
    refine zs_cvRi (pc := 29) (As := [sI a0]) (st := [sI 10]) C rfl (c_X10_peopleAt l g a0) ml_RX11_127 rfl rfl rfl rfl (Nat.le_of_ble_eq_true rfl) ⟨Nat.le_of_ble_eq_true rfl, Nat.le_of_ble_eq_true rfl⟩ ⟨Nat.le_of_ble_eq_true rfl, Nat.le_of_ble_eq_true rfl⟩ (by decide +kernel) (fun x2 => ?_)
    refine zs_imul (pc := 32) C (by decide +kernel) ?_
    refine zs_aload_n (pc := 33) (k := 0) (i := 0) C (by decide +kernel) rfl rfl ?_
    refine zs_getR (o' := 19) (pc := 34) (i := 41) (ci := 11) (k := 6) C (by decide +kernel) fl_RX11_41 rfl rfl rfl ?_
    refine zs_getR (o' := 20) (pc := 37) (i := 114) (ci := 10) (k := 0) C (by decide +kernel) fl_RX11_114 rfl rfl rfl ?_
    refine zs_iload_n (pc := 40) (k := 1) (i := 1) C (by decide +kernel) rfl rfl ?_
    refine zs_cvRi (pc := 41) (As := [sI a0]) (st := [sI (w32 (10 * x2))]) C rfl (c_X3_houseStandsAt l g a0) ml_RX11_131 rfl rfl rfl rfl (Nat.le_of_ble_eq_true rfl) ⟨Nat.le_of_ble_eq_true rfl, Nat.le_of_ble_eq_true rfl⟩ ⟨Nat.le_of_ble_eq_true rfl, Nat.le_of_ble_eq_true rfl⟩ (by decide +kernel) (fun x3 => ?_)
    refine zs_jn (pJ := 52) (kJ := 1) (sJ := 6) (fun t4 => []) (fun t4 => [sI t4, sI (w32 (10 * x2))]) (fun t4 => ?_) (fun J5 hJ5 => ?_)
    · refine zs_iadd (pc := 52) C (by decide +kernel) ?_
      exact zs_retTi (pc := 53) C hr ⟨Nat.le_of_ble_eq_true rfl, Nat.le_of_ble_eq_true rfl⟩ (by decide +kernel)
    · refine zs_if_eq (pc := 44) (off := 7) (tgt := 51) C (by decide +kernel) (by decide) ?_ ?_
      · refine zs_iconst (pc := 51) (n := 0) (x := 0) C (by decide +kernel) (by decide +kernel) ?_
        exact zs_goj (hJ5 0) trivial
      · refine zs_iconst (pc := 47) (n := 1) (x := 1) C (by decide +kernel) (by decide +kernel) ?_
        refine zs_goto (pc := 48) (off := 4) (tgt := 52) C (by decide +kernel) (by decide) ?_
        exact zs_goj (hJ5 1) trivial
  · refine zs_bipush (pc := 19) (n := (-2)) (x := (-2)) C (by decide +kernel) (by decide +kernel) ?_
    exact zs_retTi (pc := 21) C hr ⟨Nat.le_of_ble_eq_true rfl, Nat.le_of_ble_eq_true rfl⟩ (by decide +kernel)
set_option maxRecDepth 20000 in
theorem c_X11_needPair (l : Launch) (g : GC) (hl : l.stackTraces = false) (a0 : Int) : ConT l g yX11_needPair cX11_needPair 2 none (rmd 7 1 6) [sR 0, sI a0] (fun mm => fX11_needPair a0 mm) := by
  refine zs_ofT (by decide +kernel) (Nat.le_of_ble_eq_true rfl) ?_
  intro p e s m args below meth c C hr hE
  replace C : Bd g RX11 cX11_needPair 2 p s m args meth c := C
  unfold fX11_needPair
  refine zs_iload_n (pc := 0) (k := 1) (i := 1) C (by decide +kernel) rfl rfl ?_
  refine zs_jn (pJ := 23) (kJ := 0) (sJ := 0) (fun t1 => []) (fun t1 => []) (fun t1 => ?_) (fun J2 hJ2 => ?_)
  · exact zs_throwNW (pc := 23) (text := "no such pair") (ik := 171) (is_ := 408) (ic := 175) (k := 3) (ix := 13) (rx := prog_34_method_4_code) (Y1 := "java/lang/RuntimeException") C hE hl ⟨by decide, rfl⟩ ⟨by decide +kernel, by decide +kernel, by decide +kernel⟩ wf_1119 wf_169 (by decide +kernel) ex_RX11_175.1 ex_RX11_175.2 (by decide +kernel) (by decide +kernel) (by decide +kernel) (by decide +kernel) ⟨Nat.le_of_ble_eq_true rfl, Nat.le_of_ble_eq_true rfl, Nat.le_of_ble_eq_true rfl, Nat.le_of_ble_eq_true rfl⟩ ⟨Nat.le_of_ble_eq_true rfl, Nat.le_of_ble_eq_true rfl⟩ (by decide +kernel) (by decide +kernel) (by decide +kernel) (by decide +kernel) (by decide +kernel)
  · refine zs_if_lt (pc := 1) (off := 22) (tgt := 23) C (by decide +kernel) (by decide) ?_ ?_
    · exact zs_goj (hJ2 ()) trivial
    · refine zs_iload_n (pc := 4) (k := 1) (i := 1) C (by decide +kernel) rfl rfl ?_
      refine zs_aload_n (pc := 5) (k := 0) (i := 0) C (by decide +kernel) rfl rfl ?_
      refine zs_getR (o' := 19) (pc := 6) (i := 41) (ci := 11) (k := 6) C (by decide +kernel) fl_RX11_41 rfl rfl rfl ?_
      refine zs_getR (o' := 20) (pc := 9) (i := 114) (ci := 10) (k := 0) C (by decide +kernel) fl_RX11_114 rfl rfl rfl ?_
      refine zs_getI (pc := 12) (i := 333) (ci := 3) (k := 5) C (by decide +kernel) fl_RX11_333 rfl rfl (fun x3 => ?_)
      refine zs_icmp_ge (pc := 15) (off := 8) (tgt := 23) C (by decide +kernel) (by decide) ?_ ?_
      · exact zs_goj (hJ2 ()) trivial
      · refine zs_iload_n (pc := 18) (k := 1) (i := 1) C (by decide +kernel) rfl rfl ?_
        refine zs_iconst (pc := 19) (n := 4) (x := 4) C (by decide +kernel) (by decide +kernel) ?_
        refine zs_icmp_lt (pc := 20) (off := 14) (tgt := 34) C (by decide +kernel) (by decide) ?_ ?_
        · exact zs_retTv (pc := 34) C hr ⟨Nat.le_of_ble_eq_true rfl, Nat.le_of_ble_eq_true rfl⟩ (by decide +kernel)
        · exact zs_goj (hJ2 ()) trivial
set_option maxRecDepth 20000 in
theorem c_X3_apart (l : Launch) (g : GC) (a0 : Int) (a1 : Int) : ConR l g yX3_apart cX3_apart 5 (some .int) (rmd 1 0 0) [sR 20, sI a0, sI a1] (fun mm => fX3_apart a0 a1 mm) := by
  refine zs_ofR (by decide +kernel) (Nat.le_of_ble_eq_true rfl) ?_
  intro p e s m args below meth c C hr
  replace C : Bd g RX3 cX3_apart 5 p s m args meth c := C
  unfold fX3_apart
  refine zs_aload_n (pc := 0) (k := 0) (i := 0) C (by decide +kernel) rfl rfl ?_
  refine zs_getI (pc := 1) (i := 15) (ci := 3) (k := 1) C (by decide +kernel) fl_RX3_15 rfl rfl (fun x1 => ?_)
  refine zs_iconst (pc := 4) (n := 1) (x := 1) C (by decide +kernel) (by decide +kernel) ?_
  refine zs_icmp_ge (pc := 5) (off := 5) (tgt := 10) C (by decide +kernel) (by decide) ?_ ?_
  · refine zs_iload_n (pc := 10) (k := 1) (i := 1) C (by decide +kernel) rfl rfl ?_
    refine zs_aload_n (pc := 11) (k := 0) (i := 0) C (by decide +kernel) rfl rfl ?_
    refine zs_getI (pc := 12) (i := 15) (ci := 3) (k := 1) C (by decide +kernel) fl_RX3_15 rfl rfl (fun x2 => ?_)
    refine zs_chk (fun _ hy => ?_)
    refine zs_irem (pc := 15) C hy (by decide +kernel) ?_
    refine zs_iload_n (pc := 16) (k := 2) (i := 2) C (by decide +kernel) rfl rfl ?_
    refine zs_aload_n (pc := 17) (k := 0) (i := 0) C (by decide +kernel) rfl rfl ?_
    refine zs_getI (pc := 18) (i := 15) (ci := 3) (k := 1) C (by decide +kernel) fl_RX3_15 rfl rfl (fun x3 => ?_)
    refine zs_chk (fun _ hy => ?_)
    refine zs_irem (pc := 21) C hy (by decide +kernel) ?_
    refine zs_isub (pc := 22) C (by decide +kernel) ?_
    refine zs_let (fun x4 => ?_)
    refine zs_istore_n (pc := 23) (k := 3) (i := 3) (ls' := [(3, sI x4), (0, sR 20), (1, sI a0), (2, sI a1)]) C (by decide +kernel) rfl (Nat.le_of_ble_eq_true rfl) rfl ?_
    refine zs_iload_n (pc := 24) (k := 1) (i := 1) C (by decide +kernel) rfl rfl ?_
    refine zs_aload_n (pc := 25) (k := 0) (i := 0) C (by decide +kernel) rfl rfl ?_
    refine zs_getI (pc := 26) (i := 15) (ci := 3) (k := 1) C (by decide +kernel) fl_RX3_15 rfl rfl (fun x5 => ?_)
    refine zs_chk (fun _ hy => ?_)
    refine zs_idiv (pc := 29) C hy (by decide +kernel) ?_
    refine zs_iload_n (pc := 30) (k := 2) (i := 2) C (by decide +kernel) rfl rfl ?_
    refine zs_aload_n (pc := 31) (k := 0) (i := 0) C (by decide +kernel) rfl rfl ?_
    refine zs_getI (pc := 32) (i := 15) (ci := 3) (k := 1) C (by decide +kernel) fl_RX3_15 rfl rfl (fun x6 => ?_)
    refine zs_chk (fun _ hy => ?_)
    refine zs_idiv (pc := 35) C hy (by decide +kernel) ?_
    refine zs_isub (pc := 36) C (by decide +kernel) ?_
    refine zs_let (fun x7 => ?_)
    refine zs_istore (pc := 37) (i := 4) (ls' := [(4, sI x7), (3, sI x4), (0, sR 20), (1, sI a0), (2, sI a1)]) C (by decide +kernel) (Nat.le_of_ble_eq_true rfl) rfl ?_
    refine zs_iload_n (pc := 39) (k := 3) (i := 3) C (by decide +kernel) rfl rfl ?_
    refine zs_jn (pJ := 49) (kJ := 0) (sJ := 0) (fun t8 => [(4, sI x7)]) (fun t8 => [sI t8]) (fun t8 => ?_) (fun J9 hJ9 => ?_)
    · refine zs_iload (pc := 49) (i := 4) C (by decide +kernel) rfl ?_
      refine zs_jn (pJ := 62) (kJ := 0) (sJ := 0) (fun t10 => []) (fun t10 => [sI t10, sI t8]) (fun t10 => ?_) (fun J11 hJ11 => ?_)
      · refine zs_iadd (pc := 62) C (by decide +kernel) ?_
        exact zs_retRi (pc := 63) C hr ⟨Nat.le_of_ble_eq_true rfl, Nat.le_of_ble_eq_true rfl⟩ (by decide +kernel)
      · refine zs_if_ge (pc := 51) (off := 9) (tgt := 60) C (by decide +kernel) (by decide) ?_ ?_
        · refine zs_iload (pc := 60) (i := 4) C (by decide +kernel) rfl ?_
          exact zs_goj (hJ11 x7) trivial
        · refine zs_iload (pc := 54) (i := 4) C (by decide +kernel) rfl ?_
          refine zs_ineg (pc := 56) C (by decide +kernel) ?_
          refine zs_goto (pc := 57) (off := 5) (tgt := 62) C (by decide +kernel) (by decide) ?_
          exact zs_goj (hJ11 (w32 (-x7))) trivial
    · refine zs_if_ge (pc := 40) (off := 8) (tgt := 48) C (by decide +kernel) (by decide) ?_ ?_
      · refine zs_iload_n (pc := 48) (k := 3) (i := 3) C (by decide +kernel) rfl rfl ?_
        exact zs_goj (hJ9 x4) ⟨rfl, trivial⟩
      · refine zs_iload_n (pc := 43) (k := 3) (i := 3) C (by decide +kernel) rfl rfl ?_
        refine zs_ineg (pc := 44) C (by decide +kernel) ?_
        refine zs_goto (pc := 45) (off := 4) (tgt := 49) C (by decide +kernel) (by decide) ?_
        exact zs_goj (hJ9 (w32 (-x4))) ⟨rfl, trivial⟩
  · refine zs_iconst (pc := 8) (n := 0) (x := 0) C (by decide +kernel) (by decide +kernel) ?_
    exact zs_retRi (pc := 9) C hr ⟨Nat.le_of_ble_eq_true rfl, Nat.le_of_ble_eq_true rfl⟩ (by decide +kernel)
set_option maxRecDepth 20000 in
theorem c_X10_apart (l : Launch) (g : GC) (a0 : Int) : ConR l g yX10_apart cX10_apart 2 (some .int) (rmd 2 0 0) [sR 19, sI a0] (fun mm => fX10_apart a0 mm) := by
  refine zs_ofR (by decide +kernel) (Nat.le_of_ble_eq_true rfl) ?_
  intro p e s m args below meth c C hr
  replace C : Bd g RX10 cX10_apart 2 p s m args meth c := C
  unfold fX10_apart
  refine zs_aload_n (pc := 0) (k := 0) (i := 0) C (by decide +kernel) rfl rfl ?_
  refine zs_getR (o' := 20) (pc := 1) (i := 12) (ci := 10) (k := 0) C (by decide +kernel) fl_RX10_12 rfl rfl rfl ?_
  refine zs_aload_n (pc := 4) (k := 0) (i := 0) C (by decide +kernel) rfl rfl ?_
  refine zs_getR (o' := 27) (pc := 5) (i := 21) (ci := 10) (k := 1) C (by decide +kernel) fl_RX10_21 rfl rfl rfl ?_
  refine zs_getR (o' := 28) (pc := 8) (i := 68) (ci := 5) (k := 4) C (by decide +kernel) fl_RX10_68 rfl rfl rfl ?_
  refine zs_iload_n (pc := 11) (k := 1) (i := 1) C (by decide +kernel) rfl rfl ?_
  refine zs_iald (pc := 12) (o := 28) (n := 4) C (by decide +kernel) rfl (fun hinx1 x1 => ?_)
  refine zs_aload_n (pc := 13) (k := 0) (i := 0) C (by decide +kernel) rfl rfl ?_
  refine zs_getR (o' := 27) (pc := 14) (i := 21) (ci := 10) (k := 1) C (by decide +kernel) fl_RX10_21 rfl rfl rfl ?_
  refine zs_getR (o' := 29) (pc := 17) (i := 71) (ci := 5) (k := 5) C (by decide +kernel) fl_RX10_71 rfl rfl rfl ?_
  refine zs_iload_n (pc := 20) (k := 1) (i := 1) C (by decide +kernel) rfl rfl ?_
  refine zs_iald (pc := 21) (o := 29) (n := 4) C (by decide +kernel) rfl (fun hinx2 x2 => ?_)
  refine zs_cvRi (pc := 22) (As := [sI x1, sI x2]) (st := []) C rfl (c_X3_apart l g x1 x2) ml_RX10_74 rfl rfl rfl rfl (Nat.le_of_ble_eq_true rfl) ⟨Nat.le_of_ble_eq_true rfl, Nat.le_of_ble_eq_true rfl⟩ ⟨Nat.le_of_ble_eq_true rfl, Nat.le_of_ble_eq_true rfl⟩ (by decide +kernel) (fun x3 => ?_)
  exact zs_retRi (pc := 25) C hr ⟨Nat.le_of_ble_eq_true rfl, Nat.le_of_ble_eq_true rfl⟩ (by decide +kernel)
set_option maxRecDepth 20000 in
theorem c_X5_rainIn (l : Launch) (g : GC) (a0 : Int) : ConR l g yX5_rainIn cX5_rainIn 2 (some .int) (rmd 1 0 0) [sR 27, sI a0] (fun mm => fX5_rainIn a0 mm) := by
  refine zs_ofR (by decide +kernel) (Nat.le_of_ble_eq_true rfl) ?_
  intro p e s m args below meth c C hr
  replace C : Bd g RX5 cX5_rainIn 2 p s m args meth c := C
  unfold fX5_rainIn
  refine zs_iload_n (pc := 0) (k := 1) (i := 1) C (by decide +kernel) rfl rfl ?_
  refine zs_aload_n (pc := 1) (k := 0) (i := 0) C (by decide +kernel) rfl rfl ?_
  refine zs_getI (pc := 2) (i := 18) (ci := 5) (k := 2) C (by decide +kernel) fl_RX5_18 rfl rfl (fun x1 => ?_)
  refine zs_jn (pJ := 16) (kJ := 0) (sJ := 0) (fun t2 => []) (fun t2 => [sI t2]) (fun t2 => ?_) (fun J3 hJ3 => ?_)
  · exact zs_retRi (pc := 16) C hr ⟨Nat.le_of_ble_eq_true rfl, Nat.le_of_ble_eq_true rfl⟩ (by decide +kernel)
  · refine zs_icmp_ge (pc := 5) (off := 10) (tgt := 15) C (by decide +kernel) (by decide) ?_ ?_
    · refine zs_iconst (pc := 15) (n := 0) (x := 0) C (by decide +kernel) (by decide +kernel) ?_
      exact zs_goj (hJ3 0) trivial
    · refine zs_aload_n (pc := 8) (k := 0) (i := 0) C (by decide +kernel) rfl rfl ?_
      refine zs_getI (pc := 9) (i := 15) (ci := 5) (k := 1) C (by decide +kernel) fl_RX5_15 rfl rfl (fun x4 => ?_)
      refine zs_goto (pc := 12) (off := 4) (tgt := 16) C (by decide +kernel) (by decide) ?_
      exact zs_goj (hJ3 x4) trivial
set_option maxRecDepth 20000 in
theorem c_X4_worth (l : Launch) (g : GC) (o : Nat) (h0 : layL[o]? = some (.inl 4)) : ConW l g yX4_worth cX4_worth 13 (some .long) (rmd 1 0 0) [sR o, sR 36, sR 37] (fun mm => fX4_worth o mm) := by
  refine zs_ofW (by decide +kernel) (Nat.le_of_ble_eq_true rfl) ?_
  intro p e s m args below meth c C hr
  replace C : Bd g RX4 cX4_worth 13 p s m args meth c := C
  unfold fX4_worth
  refine zs_iconst (pc := 0) (n := (-1)) (x := (-1)) C (by decide +kernel) (by decide +kernel) ?_
  refine zs_istore_n (pc := 1) (k := 3) (i := 3) (ls' := [(3, sI ((-1))), (0, sR o), (1, sR 36), (2, sR 37)]) C (by decide +kernel) rfl (Nat.le_of_ble_eq_true rfl) rfl ?_
  refine zs_iconst (pc := 2) (n := 0) (x := 0) C (by decide +kernel) (by decide +kernel) ?_
  refine zs_istore (pc := 3) (i := 4) (ls' := [(4, sI 0), (3, sI ((-1))), (0, sR o), (1, sR 36), (2, sR 37)]) C (by decide +kernel) (Nat.le_of_ble_eq_true rfl) rfl ?_
  refine zs_sub (ls' := [(0, sR o), (1, sR 36), (2, sR 37), (3, sI ((-1))), (4, sI 0)]) ⟨rfl, rfl, rfl, rfl, rfl, trivial⟩ ?_
  refine zs_lp (pc := 5) (fun (t1 : Int × Int) => [(0, sR o), (1, sR 36), (2, sR 37), (3, sI t1.1), (4, sI t1.2)]) (fun _ => []) (fun K2 hK2 t1 => ?_) BIG ((-1), 0)
  refine zs_iload (pc := 5) (i := 4) C (by decide +kernel) rfl ?_
  refine zs_aload_n (pc := 7) (k := 0) (i := 0) C (by decide +kernel) rfl rfl ?_
  refine zs_getI (pc := 8) (i := 15) (ci := 4) (k := 1) C (by decide +kernel) fl_RX4_15 h0 rfl (fun x3 => ?_)
  refine zs_icmp_ge (pc := 11) (off := 347) (tgt := 358) C (by decide +kernel) (by decide) ?_ ?_
  · refine zs_iload_n (pc := 358) (k := 3) (i := 3) C (by decide +kernel) rfl rfl ?_
    refine zs_jn (pJ := 369) (kJ := 0) (sJ := 0) (fun t4 => []) (fun t4 => [sL t4]) (fun t4 => ?_) (fun J5 hJ5 => ?_)
    · exact zs_retWl (pc := 369) C hr ⟨Nat.le_of_ble_eq_true rfl, Nat.le_of_ble_eq_true rfl⟩ (by decide +kernel)
    · refine zs_if_ge (pc := 359) (off := 7) (tgt := 366) C (by decide +kernel) (by decide) ?_ ?_
      · refine zs_aload_n (pc := 366) (k := 2) (i := 2) C (by decide +kernel) rfl rfl ?_
        refine zs_iconst (pc := 367) (n := 0) (x := 0) C (by decide +kernel) (by decide +kernel) ?_
        refine zs_laldk (pc := 368) (o := 37) (n := 64) C (by decide) (by decide +kernel) rfl (fun x6 => ?_)
        exact zs_goj (hJ5 x6) trivial
      · refine zs_lconst (pc := 362) (n := 0) (x := 0) C (by decide +kernel) (by decide +kernel) ?_
        refine zs_goto (pc := 363) (off := 6) (tgt := 369) C (by decide +kernel) (by decide) ?_
        exact zs_goj (hJ5 0) trivial
  · refine zs_aload_n (pc := 14) (k := 0) (i := 0) C (by decide +kernel) rfl rfl ?_
    refine zs_getR (o' := (o + 1)) (pc := 15) (i := 9) (ci := 4) (k := 0) C (by decide +kernel) fl_RX4_9 h0 rfl rfl ?_
    refine zs_iload (pc := 18) (i := 4) C (by decide +kernel) rfl ?_
    refine zs_iald (pc := 20) (o := (o + 1)) (n := 900) C (by decide +kernel) (ly_o_4_1 h0) (fun hinx7 x7 => ?_)
    refine zs_istore (pc := 21) (i := 5) (ls' := [(5, sI x7), (0, sR o), (1, sR 36), (2, sR 37), (3, sI t1.1), (4, sI t1.2)]) C (by decide +kernel) (Nat.le_of_ble_eq_true rfl) rfl ?_
    refine zs_iload (pc := 23) (i := 5) C (by decide +kernel) rfl ?_
    refine zs_sipush (pc := 25) (n := 128) (x := 128) C (by decide +kernel) (by decide +kernel) ?_
    refine zs_jn (pJ := 352) (kJ := 0) (sJ := 0) (fun t8 => [(0, sR o), (1, sR 36), (2, sR 37), (3, sI t8), (4, sI t1.2)]) (fun t8 => []) (fun t8 => ?_) (fun J9 hJ9 => ?_)
    · refine zs_iinc (pc := 352) (i := 4) (n := 1) (y := w32 (t1.2 + 1)) (ls' := [(4, sI (w32 (t1.2 + 1))), (0, sR o), (1, sR 36), (2, sR 37), (3, sI t8)]) C (by decide +kernel) rfl rfl (Nat.le_of_ble_eq_true rfl) rfl ?_
      refine zs_goto (pc := 355) (off := (-350)) (tgt := 5) C (by decide +kernel) (by decide) ?_
      exact zs_goj (hK2 (t8, w32 (t1.2 + 1))) ⟨rfl, rfl, rfl, rfl, rfl, trivial⟩
    · refine zs_jn (pJ := 47) (kJ := 0) (sJ := 0) (fun t10 => [(0, sR o), (1, sR 36), (2, sR 37), (3, sI t1.1), (4, sI t1.2), (5, sI x7)]) (fun t10 => []) (fun t10 => ?_) (fun J11 hJ11 => ?_)
      · refine zs_iload_n (pc := 47) (k := 3) (i := 3) C (by decide +kernel) rfl rfl ?_
        refine zs_bipush (pc := 48) (n := 63) (x := 63) C (by decide +kernel) (by decide +kernel) ?_
        refine zs_icmp_lt (pc := 50) (off := 5) (tgt := 55) C (by decide +kernel) (by decide) ?_ ?_
        · refine zs_iinc (pc := 55) (i := 3) (n := 1) (y := w32 (t1.1 + 1)) (ls' := [(3, sI (w32 (t1.1 + 1))), (0, sR o), (1, sR 36), (2, sR 37), (4, sI t1.2), (5, sI x7)]) C (by decide +kernel) rfl rfl (Nat.le_of_ble_eq_true rfl) rfl ?_
          refine zs_aload_n (pc := 58) (k := 2) (i := 2) C (by decide +kernel) rfl rfl ?_
          refine zs_iload_n (pc := 59) (k := 3) (i := 3) C (by decide +kernel) rfl rfl ?_
          refine zs_iload (pc := 60) (i := 5) C (by decide +kernel) rfl ?_
          refine zs_sipush (pc := 62) (n := 1000) (x := 1000) C (by decide +kernel) (by decide +kernel) ?_
          refine zs_jn (pJ := 87) (kJ := 0) (sJ := 0) (fun t12 => [(0, sR o), (1, sR 36), (2, sR 37), (3, sI (w32 (t1.1 + 1))), (4, sI t1.2)]) (fun t12 => [sL t12, sI (w32 (t1.1 + 1)), sR 37]) (fun t12 => ?_) (fun J13 hJ13 => ?_)
          · refine zs_last (pc := 87) (o := 37) (n := 64) C (fun _ _ _ => rfl) (by decide +kernel) rfl ?_
            refine zs_goto (pc := 88) (off := 264) (tgt := 352) C (by decide +kernel) (by decide) ?_
            exact zs_goj (hJ9 (w32 (t1.1 + 1))) ⟨rfl, rfl, rfl, rfl, rfl, trivial⟩
          · refine zs_icmp_lt (pc := 65) (off := 13) (tgt := 78) C (by decide +kernel) (by decide) ?_ ?_
            · refine zs_aload_n (pc := 78) (k := 1) (i := 1) C (by decide +kernel) rfl rfl ?_
              refine zs_iload (pc := 79) (i := 5) C (by decide +kernel) rfl ?_
              refine zs_sipush (pc := 81) (n := 128) (x := 128) C (by decide +kernel) (by decide +kernel) ?_
              refine zs_isub (pc := 84) C (by decide +kernel) ?_
              refine zs_iald (pc := 85) (o := 36) (n := 8) C (by decide +kernel) rfl (fun hinx14 x14 => ?_)
              refine zs_i2l (pc := 86) C (by decide +kernel) ?_
              exact zs_goj (hJ13 x14) ⟨rfl, rfl, rfl, rfl, rfl, trivial⟩
            · refine zs_iload (pc := 68) (i := 5) C (by decide +kernel) rfl ?_
              refine zs_sipush (pc := 70) (n := 1000) (x := 1000) C (by decide +kernel) (by decide +kernel) ?_
              refine zs_isub (pc := 73) C (by decide +kernel) ?_
              refine zs_i2l (pc := 74) C (by decide +kernel) ?_
              refine zs_goto (pc := 75) (off := 12) (tgt := 87) C (by decide +kernel) (by decide) ?_
              exact zs_goj (hJ13 (w32 (x7 - 1000))) ⟨rfl, rfl, rfl, rfl, rfl, trivial⟩
        · refine zs_lconst (pc := 53) (n := 0) (x := 0) C (by decide +kernel) (by decide +kernel) ?_
          exact zs_retWl (pc := 54) C hr ⟨Nat.le_of_ble_eq_true rfl, Nat.le_of_ble_eq_true rfl⟩ (by decide +kernel)
      · refine zs_jn (pJ := 39) (kJ := 0) (sJ := 0) (fun t15 => [(0, sR o), (1, sR 36), (2, sR 37), (3, sI t1.1), (4, sI t1.2), (5, sI x7)]) (fun t15 => []) (fun t15 => ?_) (fun J16 hJ16 => ?_)
        · refine zs_iload (pc := 39) (i := 5) C (by decide +kernel) rfl ?_
          refine zs_sipush (pc := 41) (n := 1000) (x := 1000) C (by decide +kernel) (by decide +kernel) ?_
          refine zs_icmp_lt (pc := 44) (off := 47) (tgt := 91) C (by decide +kernel) (by decide) ?_ ?_
          · refine zs_iload (pc := 91) (i := 5) C (by decide +kernel) rfl ?_
            refine zs_sipush (pc := 93) (n := 145) (x := 145) C (by decide +kernel) (by decide +kernel) ?_
            refine zs_jn (pJ := 106) (kJ := 0) (sJ := 0) (fun t17 => [(0, sR o), (1, sR 36), (2, sR 37), (3, sI t1.1), (4, sI t1.2), (5, sI x7)]) (fun t17 => [sI t17]) (fun t17 => ?_) (fun J18 hJ18 => ?_)
            · refine zs_istore (pc := 106) (i := 6) (ls' := [(6, sI t17), (0, sR o), (1, sR 36), (2, sR 37), (3, sI t1.1), (4, sI t1.2), (5, sI x7)]) C (by decide +kernel) (Nat.le_of_ble_eq_true rfl) rfl ?_
              refine zs_iload (pc := 108) (i := 6) C (by decide +kernel) rfl ?_
              refine zs_if_ge (pc := 110) (off := 5) (tgt := 115) C (by decide +kernel) (by decide) ?_ ?_
              · refine zs_aload_n (pc := 115) (k := 2) (i := 2) C (by decide +kernel) rfl rfl ?_
                refine zs_iload (pc := 116) (i := 6) C (by decide +kernel) rfl ?_
                refine zs_lald (pc := 118) (o := 37) (n := 64) C (by decide +kernel) rfl (fun hinx19 x19 => ?_)
                refine zs_lstore (pc := 119) (i := 7) (ls' := [(7, sL x19), (6, sI t17), (0, sR o), (1, sR 36), (2, sR 37), (3, sI t1.1), (4, sI t1.2), (5, sI x7)]) C (by decide +kernel) (Nat.le_of_ble_eq_true rfl) rfl ?_
                refine zs_aload_n (pc := 121) (k := 2) (i := 2) C (by decide +kernel) rfl rfl ?_
                refine zs_iload_n (pc := 122) (k := 3) (i := 3) C (by decide +kernel) rfl rfl ?_
                refine zs_lald (pc := 123) (o := 37) (n := 64) C (by decide +kernel) rfl (fun hinx20 x20 => ?_)
                refine zs_lstore (pc := 124) (i := 9) (ls' := [(9, sL x20), (7, sL x19), (6, sI t17), (0, sR o), (1, sR 36), (2, sR 37), (3, sI t1.1), (4, sI t1.2), (5, sI x7)]) C (by decide +kernel) (Nat.le_of_ble_eq_true rfl) rfl ?_
                refine zs_iload (pc := 126) (i := 5) C (by decide +kernel) rfl ?_
                refine zs_jn (pJ := 314) (kJ := 0) (sJ := 0) (fun t21 => [(0, sR o), (1, sR 36), (2, sR 37), (4, sI t1.2), (6, sI t17), (11, sL t21)]) (fun t21 => []) (fun t21 => ?_) (fun J22 hJ22 => ?_)
                · refine zs_iload (pc := 314) (i := 6) C (by decide +kernel) rfl ?_
                  refine zs_istore_n (pc := 316) (k := 3) (i := 3) (ls' := [(3, sI t17), (0, sR o), (1, sR 36), (2, sR 37), (4, sI t1.2), (6, sI t17), (11, sL t21)]) C (by decide +kernel) rfl (Nat.le_of_ble_eq_true rfl) rfl ?_
                  refine zs_aload_n (pc := 317) (k := 2) (i := 2) C (by decide +kernel) rfl rfl ?_
                  refine zs_iload_n (pc := 318) (k := 3) (i := 3) C (by decide +kernel) rfl rfl ?_
                  refine zs_lload (pc := 319) (i := 11) C (by decide +kernel) rfl ?_
                  refine zs_ldc2 (pc := 321) (i := 46) (v := 1000000) (x := 1000000) C (by decide +kernel) wf_683 (by decide +kernel) ?_
                  refine zs_jn (pJ := 351) (kJ := 0) (sJ := 0) (fun t23 => [(0, sR o), (1, sR 36), (2, sR 37), (3, sI t17), (4, sI t1.2)]) (fun t23 => [sL t23, sI t17, sR 37]) (fun t23 => ?_) (fun J24 hJ24 => ?_)
                  · refine zs_last (pc := 351) (o := 37) (n := 64) C (fun _ _ _ => rfl) (by decide +kernel) rfl ?_
                    exact zs_goj (hJ9 t17) ⟨rfl, rfl, rfl, rfl, rfl, trivial⟩
                  · refine zs_lcmp_le (pc := 324) (off := 9) (tgt := 334) C (by decide +kernel) (by decide +kernel) (by decide) ?_ ?_
                    · refine zs_lload (pc := 334) (i := 11) C (by decide +kernel) rfl ?_
                      refine zs_ldc2 (pc := 336) (i := 48) (v := (-1000000)) (x := (-1000000)) C (by decide +kernel) wf_684 (by decide +kernel) ?_
                      refine zs_lcmp_ge (pc := 339) (off := 9) (tgt := 349) C (by decide +kernel) (by decide +kernel) (by decide) ?_ ?_
                      · refine zs_lload (pc := 349) (i := 11) C (by decide +kernel) rfl ?_
                        exact zs_goj (hJ24 t21) ⟨rfl, rfl, rfl, rfl, rfl, trivial⟩
                      · refine zs_ldc2 (pc := 343) (i := 48) (v := (-1000000)) (x := (-1000000)) C (by decide +kernel) wf_684 (by decide +kernel) ?_
                        refine zs_goto (pc := 346) (off := 5) (tgt := 351) C (by decide +kernel) (by decide) ?_
                        exact zs_goj (hJ24 (-1000000)) ⟨rfl, rfl, rfl, rfl, rfl, trivial⟩
                    · refine zs_ldc2 (pc := 328) (i := 46) (v := 1000000) (x := 1000000) C (by decide +kernel) wf_683 (by decide +kernel) ?_
                      refine zs_goto (pc := 331) (off := 20) (tgt := 351) C (by decide +kernel) (by decide) ?_
                      exact zs_goj (hJ24 1000000) ⟨rfl, rfl, rfl, rfl, rfl, trivial⟩
                · refine zs_ite (fun hc0 => ?_) (fun hc0 => ?_)
                  · refine zs_lsw (pc := 128) (dflt := 179) (ps := #[(43, 159), (45, 169), (60, 123), (61, 105), (62, 141), (140, 85), (144, 95), (145, 76)]) (len := 76) (off := 159) (tgt := 287) C (by decide +kernel) (by decide +kernel) (by rw [hc0]; rfl) (by decide) ?_
                    refine zs_lload (pc := 287) (i := 7) C (by decide +kernel) rfl ?_
                    refine zs_lload (pc := 289) (i := 9) C (by decide +kernel) rfl ?_
                    refine zs_ladd (pc := 291) C (by decide +kernel) ?_
                    refine zs_letL (fun x25 => ?_)
                    refine zs_lstore (pc := 292) (i := 11) (ls' := [(11, sL x25), (9, sL x20), (7, sL x19), (6, sI t17), (0, sR o), (1, sR 36), (2, sR 37), (3, sI t1.1), (4, sI t1.2), (5, sI x7)]) C (by decide +kernel) (Nat.le_of_ble_eq_true rfl) rfl ?_
                    refine zs_goto (pc := 294) (off := 20) (tgt := 314) C (by decide +kernel) (by decide) ?_
                    exact zs_goj (hJ22 x25) ⟨rfl, rfl, rfl, rfl, rfl, rfl, trivial⟩
                  · refine zs_ite (fun hc1 => ?_) (fun hc1 => ?_)
                    · refine zs_lsw (pc := 128) (dflt := 179) (ps := #[(43, 159), (45, 169), (60, 123), (61, 105), (62, 141), (140, 85), (144, 95), (145, 76)]) (len := 76) (off := 169) (tgt := 297) C (by decide +kernel) (by decide +kernel) (by rw [hc1]; rfl) (by decide) ?_
                      refine zs_lload (pc := 297) (i := 7) C (by decide +kernel) rfl ?_
                      refine zs_lload (pc := 299) (i := 9) C (by decide +kernel) rfl ?_
                      refine zs_lsub (pc := 301) C (by decide +kernel) ?_
                      refine zs_letL (fun x26 => ?_)
                      refine zs_lstore (pc := 302) (i := 11) (ls' := [(11, sL x26), (9, sL x20), (7, sL x19), (6, sI t17), (0, sR o), (1, sR 36), (2, sR 37), (3, sI t1.1), (4, sI t1.2), (5, sI x7)]) C (by decide +kernel) (Nat.le_of_ble_eq_true rfl) rfl ?_
                      refine zs_goto (pc := 304) (off := 10) (tgt := 314) C (by decide +kernel) (by decide) ?_
                      exact zs_goj (hJ22 x26) ⟨rfl, rfl, rfl, rfl, rfl, rfl, trivial⟩
                    · refine zs_ite (fun hc2 => ?_) (fun hc2 => ?_)
                      · refine zs_lsw (pc := 128) (dflt := 179) (ps := #[(43, 159), (45, 169), (60, 123), (61, 105), (62, 141), (140, 85), (144, 95), (145, 76)]) (len := 76) (off := 123) (tgt := 251) C (by decide +kernel) (by decide +kernel) (by rw [hc2]; rfl) (by decide) ?_
                        refine zs_lload (pc := 251) (i := 7) C (by decide +kernel) rfl ?_
                        refine zs_lload (pc := 253) (i := 9) C (by decide +kernel) rfl ?_
                        refine zs_jn (pJ := 264) (kJ := 0) (sJ := 0) (fun t27 => [(0, sR o), (1, sR 36), (2, sR 37), (4, sI t1.2), (6, sI t17)]) (fun t27 => [sL t27]) (fun t27 => ?_) (fun J28 hJ28 => ?_)
                        · refine zs_lstore (pc := 264) (i := 11) (ls' := [(11, sL t27), (0, sR o), (1, sR 36), (2, sR 37), (4, sI t1.2), (6, sI t17)]) C (by decide +kernel) (Nat.le_of_ble_eq_true rfl) rfl ?_
                          refine zs_goto (pc := 266) (off := 48) (tgt := 314) C (by decide +kernel) (by decide) ?_
                          exact zs_goj (hJ22 t27) ⟨rfl, rfl, rfl, rfl, rfl, rfl, trivial⟩
                        · refine zs_lcmp_ge (pc := 255) (off := 7) (tgt := 263) C (by decide +kernel) (by decide +kernel) (by decide) ?_ ?_
                          · refine zs_lconst (pc := 263) (n := 0) (x := 0) C (by decide +kernel) (by decide +kernel) ?_
                            exact zs_goj (hJ28 0) ⟨rfl, rfl, rfl, rfl, rfl, trivial⟩
                          · refine zs_lconst (pc := 259) (n := 1) (x := 1) C (by decide +kernel) (by decide +kernel) ?_
                            refine zs_goto (pc := 260) (off := 4) (tgt := 264) C (by decide +kernel) (by decide) ?_
                            exact zs_goj (hJ28 1) ⟨rfl, rfl, rfl, rfl, rfl, trivial⟩
                      · refine zs_ite (fun hc3 => ?_) (fun hc3 => ?_)
                        · refine zs_lsw (pc := 128) (dflt := 179) (ps := #[(43, 159), (45, 169), (60, 123), (61, 105), (62, 141), (140, 85), (144, 95), (145, 76)]) (len := 76) (off := 105) (tgt := 233) C (by decide +kernel) (by decide +kernel) (by rw [hc3]; rfl) (by decide) ?_
                          refine zs_lload (pc := 233) (i := 7) C (by decide +kernel) rfl ?_
                          refine zs_lload (pc := 235) (i := 9) C (by decide +kernel) rfl ?_
                          refine zs_jn (pJ := 246) (kJ := 0) (sJ := 0) (fun t29 => [(0, sR o), (1, sR 36), (2, sR 37), (4, sI t1.2), (6, sI t17)]) (fun t29 => [sL t29]) (fun t29 => ?_) (fun J30 hJ30 => ?_)
                          · refine zs_lstore (pc := 246) (i := 11) (ls' := [(11, sL t29), (0, sR o), (1, sR 36), (2, sR 37), (4, sI t1.2), (6, sI t17)]) C (by decide +kernel) (Nat.le_of_ble_eq_true rfl) rfl ?_
                            refine zs_goto (pc := 248) (off := 66) (tgt := 314) C (by decide +kernel) (by decide) ?_
                            exact zs_goj (hJ22 t29) ⟨rfl, rfl, rfl, rfl, rfl, rfl, trivial⟩
                          · refine zs_lcmp_ne (pc := 237) (off := 7) (tgt := 245) C (by decide +kernel) (by decide +kernel) (by decide) ?_ ?_
                            · refine zs_lconst (pc := 245) (n := 0) (x := 0) C (by decide +kernel) (by decide +kernel) ?_
                              exact zs_goj (hJ30 0) ⟨rfl, rfl, rfl, rfl, rfl, trivial⟩
                            · refine zs_lconst (pc := 241) (n := 1) (x := 1) C (by decide +kernel) (by decide +kernel) ?_
                              refine zs_goto (pc := 242) (off := 4) (tgt := 246) C (by decide +kernel) (by decide) ?_
                              exact zs_goj (hJ30 1) ⟨rfl, rfl, rfl, rfl, rfl, trivial⟩
                        · refine zs_ite (fun hc4 => ?_) (fun hc4 => ?_)
                          · refine zs_lsw (pc := 128) (dflt := 179) (ps := #[(43, 159), (45, 169), (60, 123), (61, 105), (62, 141), (140, 85), (144, 95), (145, 76)]) (len := 76) (off := 141) (tgt := 269) C (by decide +kernel) (by decide +kernel) (by rw [hc4]; rfl) (by decide) ?_
                            refine zs_lload (pc := 269) (i := 7) C (by decide +kernel) rfl ?_
                            refine zs_lload (pc := 271) (i := 9) C (by decide +kernel) rfl ?_
                            refine zs_jn (pJ := 282) (kJ := 0) (sJ := 0) (fun t31 => [(0, sR o), (1, sR 36), (2, sR 37), (4, sI t1.2), (6, sI t17)]) (fun t31 => [sL t31]) (fun t31 => ?_) (fun J32 hJ32 => ?_)
                            · refine zs_lstore (pc := 282) (i := 11) (ls' := [(11, sL t31), (0, sR o), (1, sR 36), (2, sR 37), (4, sI t1.2), (6, sI t17)]) C (by decide +kernel) (Nat.le_of_ble_eq_true rfl) rfl ?_
                              refine zs_goto (pc := 284) (off := 30) (tgt := 314) C (by decide +kernel) (by decide) ?_
                              exact zs_goj (hJ22 t31) ⟨rfl, rfl, rfl, rfl, rfl, rfl, trivial⟩
                            · refine zs_lcmp_le (pc := 273) (off := 7) (tgt := 281) C (by decide +kernel) (by decide +kernel) (by decide) ?_ ?_
                              · refine zs_lconst (pc := 281) (n := 0) (x := 0) C (by decide +kernel) (by decide +kernel) ?_
                                exact zs_goj (hJ32 0) ⟨rfl, rfl, rfl, rfl, rfl, trivial⟩
                              · refine zs_lconst (pc := 277) (n := 1) (x := 1) C (by decide +kernel) (by decide +kernel) ?_
                                refine zs_goto (pc := 278) (off := 4) (tgt := 282) C (by decide +kernel) (by decide) ?_
                                exact zs_goj (hJ32 1) ⟨rfl, rfl, rfl, rfl, rfl, trivial⟩
                          · refine zs_ite (fun hc5 => ?_) (fun hc5 => ?_)
                            · refine zs_lsw (pc := 128) (dflt := 179) (ps := #[(43, 159), (45, 169), (60, 123), (61, 105), (62, 141), (140, 85), (144, 95), (145, 76)]) (len := 76) (off := 85) (tgt := 213) C (by decide +kernel) (by decide +kernel) (by rw [hc5]; rfl) (by decide) ?_
                              refine zs_lload (pc := 213) (i := 7) C (by decide +kernel) rfl ?_
                              refine zs_lload (pc := 215) (i := 9) C (by decide +kernel) rfl ?_
                              refine zs_land (pc := 217) C (by decide +kernel) ?_
                              refine zs_letL (fun x33 => ?_)
                              refine zs_lstore (pc := 218) (i := 11) (ls' := [(11, sL x33), (9, sL x20), (7, sL x19), (6, sI t17), (0, sR o), (1, sR 36), (2, sR 37), (3, sI t1.1), (4, sI t1.2), (5, sI x7)]) C (by decide +kernel) (Nat.le_of_ble_eq_true rfl) rfl ?_
                              refine zs_goto (pc := 220) (off := 94) (tgt := 314) C (by decide +kernel) (by decide) ?_
                              exact zs_goj (hJ22 x33) ⟨rfl, rfl, rfl, rfl, rfl, rfl, trivial⟩
                            · refine zs_ite (fun hc6 => ?_) (fun hc6 => ?_)
                              · refine zs_lsw (pc := 128) (dflt := 179) (ps := #[(43, 159), (45, 169), (60, 123), (61, 105), (62, 141), (140, 85), (144, 95), (145, 76)]) (len := 76) (off := 95) (tgt := 223) C (by decide +kernel) (by decide +kernel) (by rw [hc6]; rfl) (by decide) ?_
                                refine zs_lload (pc := 223) (i := 7) C (by decide +kernel) rfl ?_
                                refine zs_lload (pc := 225) (i := 9) C (by decide +kernel) rfl ?_
                                refine zs_lor (pc := 227) C (by decide +kernel) ?_
                                refine zs_letL (fun x34 => ?_)
                                refine zs_lstore (pc := 228) (i := 11) (ls' := [(11, sL x34), (9, sL x20), (7, sL x19), (6, sI t17), (0, sR o), (1, sR 36), (2, sR 37), (3, sI t1.1), (4, sI t1.2), (5, sI x7)]) C (by decide +kernel) (Nat.le_of_ble_eq_true rfl) rfl ?_
                                refine zs_goto (pc := 230) (off := 84) (tgt := 314) C (by decide +kernel) (by decide) ?_
                                exact zs_goj (hJ22 x34) ⟨rfl, rfl, rfl, rfl, rfl, rfl, trivial⟩
                              · refine zs_ite (fun hc7 => ?_) (fun hc7 => ?_)
                                · refine zs_lsw (pc := 128) (dflt := 179) (ps := #[(43, 159), (45, 169), (60, 123), (61, 105), (62, 141), (140, 85), (144, 95), (145, 76)]) (len := 76) (off := 76) (tgt := 204) C (by decide +kernel) (by decide +kernel) (by rw [hc7]; rfl) (by decide) ?_
                                  refine zs_lconst (pc := 204) (n := 1) (x := 1) C (by decide +kernel) (by decide +kernel) ?_
                                  refine zs_lload (pc := 205) (i := 7) C (by decide +kernel) rfl ?_
                                  refine zs_lsub (pc := 207) C (by decide +kernel) ?_
                                  refine zs_letL (fun x35 => ?_)
                                  refine zs_lstore (pc := 208) (i := 11) (ls' := [(11, sL x35), (9, sL x20), (7, sL x19), (6, sI t17), (0, sR o), (1, sR 36), (2, sR 37), (3, sI t1.1), (4, sI t1.2), (5, sI x7)]) C (by decide +kernel) (Nat.le_of_ble_eq_true rfl) rfl ?_
                                  refine zs_goto (pc := 210) (off := 104) (tgt := 314) C (by decide +kernel) (by decide) ?_
                                  exact zs_goj (hJ22 x35) ⟨rfl, rfl, rfl, rfl, rfl, rfl, trivial⟩
                                · refine zs_lsw (pc := 128) (dflt := 179) (ps := #[(43, 159), (45, 169), (60, 123), (61, 105), (62, 141), (140, 85), (144, 95), (145, 76)]) (len := 76) (off := 179) (tgt := 307) C (by decide +kernel) (by decide +kernel) (by simp [Op.lookupswitch.offset, hc0, Ne.symm hc0, hc1, Ne.symm hc1, hc2, Ne.symm hc2, hc3, Ne.symm hc3, hc4, Ne.symm hc4, hc5, Ne.symm hc5, hc6, Ne.symm hc6, hc7, Ne.symm hc7]) (by decide) ?_
                                  refine zs_lload (pc := 307) (i := 7) C (by decide +kernel) rfl ?_
                                  refine zs_lload (pc := 309) (i := 9) C (by decide +kernel) rfl ?_
                                  refine zs_lmul (pc := 311) C (by decide +kernel) ?_
                                  refine zs_letL (fun x36 => ?_)
                                  refine zs_lstore (pc := 312) (i := 11) (ls' := [(11, sL x36), (9, sL x20), (7, sL x19), (6, sI t17), (0, sR o), (1, sR 36), (2, sR 37), (3, sI t1.1), (4, sI t1.2), (5, sI x7)]) C (by decide +kernel) (Nat.le_of_ble_eq_true rfl) rfl ?_
                                  exact zs_goj (hJ22 x36) ⟨rfl, rfl, rfl, rfl, rfl, rfl, trivial⟩
              · refine zs_lconst (pc := 113) (n := 0) (x := 0) C (by decide +kernel) (by decide +kernel) ?_
                exact zs_retWl (pc := 114) C hr ⟨Nat.le_of_ble_eq_true rfl, Nat.le_of_ble_eq_true rfl⟩ (by decide +kernel)
            · refine zs_icmp_ne (pc := 96) (off := 7) (tgt := 103) C (by decide +kernel) (by decide) ?_ ?_
              · refine zs_iload_n (pc := 103) (k := 3) (i := 3) C (by decide +kernel) rfl rfl ?_
                refine zs_iconst (pc := 104) (n := 1) (x := 1) C (by decide +kernel) (by decide +kernel) ?_
                refine zs_isub (pc := 105) C (by decide +kernel) ?_
                exact zs_goj (hJ18 (w32 (t1.1 - 1))) ⟨rfl, rfl, rfl, rfl, rfl, rfl, trivial⟩
              · refine zs_iload_n (pc := 99) (k := 3) (i := 3) C (by decide +kernel) rfl rfl ?_
                refine zs_goto (pc := 100) (off := 6) (tgt := 106) C (by decide +kernel) (by decide) ?_
                exact zs_goj (hJ18 t1.1) ⟨rfl, rfl, rfl, rfl, rfl, rfl, trivial⟩
          · exact zs_goj (hJ11 ()) ⟨rfl, rfl, rfl, rfl, rfl, rfl, trivial⟩
        · refine zs_icmp_lt (pc := 28) (off := 11) (tgt := 39) C (by decide +kernel) (by decide) ?_ ?_
          · exact zs_goj (hJ16 ()) ⟨rfl, rfl, rfl, rfl, rfl, rfl, trivial⟩
          · refine zs_iload (pc := 31) (i := 5) C (by decide +kernel) rfl ?_
            refine zs_sipush (pc := 33) (n := 135) (x := 135) C (by decide +kernel) (by decide +kernel) ?_
            refine zs_icmp_le (pc := 36) (off := 11) (tgt := 47) C (by decide +kernel) (by decide) ?_ ?_
            · exact zs_goj (hJ11 ()) ⟨rfl, rfl, rfl, rfl, rfl, rfl, trivial⟩
            · exact zs_goj (hJ16 ()) ⟨rfl, rfl, rfl, rfl, rfl, rfl, trivial⟩

set_option maxRecDepth 20000 in
theorem c_X12_doneBy (l : Launch) (g : GC) (a0 : Int) (a1 : Int) (a2 : Int) : ConW l g yX12_doneBy cX12_doneBy 7 (some .int) (rmd 5 0 0) [sR 287, sI a0, sI a1, sI a2] (fun mm => fX12_doneBy a0 a1 a2 mm) := by
  refine zs_ofW (by decide +kernel) (Nat.le_of_ble_eq_true rfl) ?_
  intro p e s m args below meth c C hr
  replace C : Bd g RX12 cX12_doneBy 7 p s m args meth c := C
  unfold fX12_doneBy
  refine zs_iconst (pc := 0) (n := 1) (x := 1) C (by decide +kernel) (by decide +kernel) ?_
  refine zs_aload_n (pc := 1) (k := 0) (i := 0) C (by decide +kernel) rfl rfl ?_
  refine zs_getR (o' := 310) (pc := 2) (i := 82) (ci := 12) (k := 40) C (by decide +kernel) fl_RX12_82 rfl rfl rfl ?_
  refine zs_iload_n (pc := 5) (k := 2) (i := 2) C (by decide +kernel) rfl rfl ?_
  refine zs_iald (pc := 6) (o := 310) (n := 4) C (by decide +kernel) rfl (fun hinx1 x1 => ?_)
  refine zs_ishl (pc := 7) C (by decide +kernel) ?_
  refine zs_iconst (pc := 8) (n := 1) (x := 1) C (by decide +kernel) (by decide +kernel) ?_
  refine zs_isub (pc := 9) C (by decide +kernel) ?_
  refine zs_let (fun x2 => ?_)
  refine zs_istore (pc := 10) (i := 4) (ls' := [(4, sI x2), (0, sR 287), (1, sI a0), (2, sI a1), (3, sI a2)]) C (by decide +kernel) (Nat.le_of_ble_eq_true rfl) rfl ?_
  refine zs_iconst (pc := 12) (n := 0) (x := 0) C (by decide +kernel) (by decide +kernel) ?_
  refine zs_istore (pc := 13) (i := 5) (ls' := [(5, sI 0), (4, sI x2), (0, sR 287), (1, sI a0), (2, sI a1), (3, sI a2)]) C (by decide +kernel) (Nat.le_of_ble_eq_true rfl) rfl ?_
  refine zs_sub (ls' := [(0, sR 287), (1, sI a0), (2, sI a1), (3, sI a2), (4, sI x2), (5, sI 0)]) ⟨rfl, rfl, rfl, rfl, rfl, rfl, trivial⟩ ?_
  refine zs_lp (pc := 15) (fun (t3 : Int) => [(0, sR 287), (1, sI a0), (2, sI a1), (3, sI a2), (4, sI x2), (5, sI t3)]) (fun _ => []) (fun K4 hK4 t3 => ?_) BIG 0
  refine zs_iload (pc := 15) (i := 5) C (by decide +kernel) rfl ?_
  refine zs_sipush (pc := 17) (n := 10000) (x := 10000) C (by decide +kernel) (by decide +kernel) ?_
  refine zs_icmp_ge (pc := 20) (off := 17) (tgt := 37) C (by decide +kernel) (by decide) ?_ ?_
  · refine zs_aload_n (pc := 37) (k := 0) (i := 0) C (by decide +kernel) rfl rfl ?_
    refine zs_getR (o' := 305) (pc := 38) (i := 67) (ci := 12) (k := 33) C (by decide +kernel) fl_RX12_67 rfl rfl rfl ?_
    refine zs_sipush (pc := 41) (n := 625) (x := 625) C (by decide +kernel) (by decide +kernel) ?_
    refine zs_aload_n (pc := 44) (k := 0) (i := 0) C (by decide +kernel) rfl rfl ?_
    refine zs_iload_n (pc := 45) (k := 2) (i := 2) C (by decide +kernel) rfl rfl ?_
    refine zs_aload_n (pc := 46) (k := 0) (i := 0) C (by decide +kernel) rfl rfl ?_
    refine zs_iload_n (pc := 47) (k := 1) (i := 1) C (by decide +kernel) rfl rfl ?_
    refine zs_cvRi (pc := 48) (As := [sI a0]) (st := [sI a1, sR 287, sI 625, sR 305]) C (Or.inl rfl) (c_X12_bothNow l g a0) ml_RX12_452 rfl rfl rfl rfl (Nat.le_of_ble_eq_true rfl) ⟨Nat.le_of_ble_eq_true rfl, Nat.le_of_ble_eq_true rfl⟩ ⟨Nat.le_of_ble_eq_true rfl, Nat.le_of_ble_eq_true rfl⟩ (by decide +kernel) (fun x5 => ?_)
    refine zs_iload_n (pc := 51) (k := 3) (i := 3) C (by decide +kernel) rfl rfl ?_
    refine zs_cvRi (pc := 52) (As := [sI a1, sI x5, sI a2]) (st := [sI 625, sR 305]) C (Or.inl rfl) (c_X12_doneAt l g a1 x5 a2) ml_RX12_513 rfl rfl rfl rfl (Nat.le_of_ble_eq_true rfl) ⟨Nat.le_of_ble_eq_true rfl, Nat.le_of_ble_eq_true rfl⟩ ⟨Nat.le_of_ble_eq_true rfl, Nat.le_of_ble_eq_true rfl⟩ (by decide +kernel) (fun x6 => ?_)
    refine zs_imul (pc := 55) C (by decide +kernel) ?_
    refine zs_aload_n (pc := 56) (k := 0) (i := 0) C (by decide +kernel) rfl rfl ?_
    refine zs_iload_n (pc := 57) (k := 1) (i := 1) C (by decide +kernel) rfl rfl ?_
    refine zs_cvRi (pc := 58) (As := [sI a0]) (st := [sI (w32 (625 * x6)), sR 305]) C (Or.inl rfl) (c_X12_bothNow l g a0) ml_RX12_452 rfl rfl rfl rfl (Nat.le_of_ble_eq_true rfl) ⟨Nat.le_of_ble_eq_true rfl, Nat.le_of_ble_eq_true rfl⟩ ⟨Nat.le_of_ble_eq_true rfl, Nat.le_of_ble_eq_true rfl⟩ (by decide +kernel) (fun x7 => ?_)
    refine zs_iadd (pc := 61) C (by decide +kernel) ?_
    refine zs_iconst (pc := 62) (n := 1) (x := 1) C (by decide +kernel) (by decide +kernel) ?_
    refine zs_zast (pc := 63) (o := 305) (n := 10000) C (fun _ _ _ => rfl) (by decide +kernel) rfl ?_
    refine zs_iconst (pc := 64) (n := 0) (x := 0) C (by decide +kernel) (by decide +kernel) ?_
    refine zs_istore (pc := 65) (i := 5) (ls' := [(5, sI 0), (0, sR 287), (1, sI a0), (2, sI a1), (3, sI a2), (4, sI x2)]) C (by decide +kernel) (Nat.le_of_ble_eq_true rfl) rfl ?_
    refine zs_sub (ls' := [(0, sR 287), (2, sI a1), (4, sI x2), (5, sI 0)]) ⟨rfl, rfl, rfl, rfl, trivial⟩ ?_
    refine zs_lp (pc := 67) (fun (t8 : Int) => [(0, sR 287), (2, sI a1), (4, sI x2), (5, sI t8)]) (fun _ => []) (fun K9 hK9 t8 => ?_) BIG 0
    refine zs_iload (pc := 67) (i := 5) C (by decide +kernel) rfl ?_
    refine zs_bipush (pc := 69) (n := 40) (x := 40) C (by decide +kernel) (by decide +kernel) ?_
    refine zs_icmp_gt (pc := 71) (off := 58) (tgt := 129) C (by decide +kernel) (by decide) ?_ ?_
    · refine zs_iconst (pc := 129) (n := (-1)) (x := (-1)) C (by decide +kernel) (by decide +kernel) ?_
      exact zs_retWi (pc := 130) C hr ⟨Nat.le_of_ble_eq_true rfl, Nat.le_of_ble_eq_true rfl⟩ (by decide +kernel)
    · refine zs_iload (pc := 74) (i := 5) C (by decide +kernel) rfl ?_
      refine zs_jn (pJ := 86) (kJ := 0) (sJ := 0) (fun t10 => [(0, sR 287), (2, sI a1), (4, sI x2), (5, sI t8)]) (fun t10 => []) (fun t10 => ?_) (fun J11 hJ11 => ?_)
      · refine zs_iconst (pc := 86) (n := 0) (x := 0) C (by decide +kernel) (by decide +kernel) ?_
        refine zs_istore (pc := 87) (i := 6) (ls' := [(6, sI 0), (0, sR 287), (2, sI a1), (4, sI x2), (5, sI t8)]) C (by decide +kernel) (Nat.le_of_ble_eq_true rfl) rfl ?_
        refine zs_sub (ls' := [(0, sR 287), (2, sI a1), (4, sI x2), (5, sI t8), (6, sI 0)]) ⟨rfl, rfl, rfl, rfl, rfl, trivial⟩ ?_
        refine zs_lp (pc := 89) (fun (t12 : Int) => [(0, sR 287), (2, sI a1), (4, sI x2), (5, sI t8), (6, sI t12)]) (fun _ => []) (fun K13 hK13 t12 => ?_) BIG 0
        refine zs_iload (pc := 89) (i := 6) C (by decide +kernel) rfl ?_
        refine zs_sipush (pc := 91) (n := 625) (x := 625) C (by decide +kernel) (by decide +kernel) ?_
        refine zs_icmp_ge (pc := 94) (off := 29) (tgt := 123) C (by decide +kernel) (by decide) ?_ ?_
        · refine zs_iinc (pc := 123) (i := 5) (n := 1) (y := w32 (t8 + 1)) (ls' := [(5, sI (w32 (t8 + 1))), (0, sR 287), (2, sI a1), (4, sI x2), (6, sI t12)]) C (by decide +kernel) rfl rfl (Nat.le_of_ble_eq_true rfl) rfl ?_
          refine zs_goto (pc := 126) (off := (-59)) (tgt := 67) C (by decide +kernel) (by decide) ?_
          exact zs_goj (hK9 (w32 (t8 + 1))) ⟨rfl, rfl, rfl, rfl, trivial⟩
        · refine zs_aload_n (pc := 97) (k := 0) (i := 0) C (by decide +kernel) rfl rfl ?_
          refine zs_getR (o' := 305) (pc := 98) (i := 67) (ci := 12) (k := 33) C (by decide +kernel) fl_RX12_67 rfl rfl rfl ?_
          refine zs_sipush (pc := 101) (n := 625) (x := 625) C (by decide +kernel) (by decide +kernel) ?_
          refine zs_iload (pc := 104) (i := 4) C (by decide +kernel) rfl ?_
          refine zs_imul (pc := 106) C (by decide +kernel) ?_
          refine zs_iload (pc := 107) (i := 6) C (by decide +kernel) rfl ?_
          refine zs_iadd (pc := 109) C (by decide +kernel) ?_
          refine zs_zald (pc := 110) (o := 305) (n := 10000) C (by decide +kernel) rfl (fun hinx14 x14 => ?_)
          refine zs_if_eq (pc := 111) (off := 6) (tgt := 117) C (by decide +kernel) (by decide) ?_ ?_
          · refine zs_iinc (pc := 117) (i := 6) (n := 1) (y := w32 (t12 + 1)) (ls' := [(6, sI (w32 (t12 + 1))), (0, sR 287), (2, sI a1), (4, sI x2), (5, sI t8)]) C (by decide +kernel) rfl rfl (Nat.le_of_ble_eq_true rfl) rfl ?_
            refine zs_goto (pc := 120) (off := (-31)) (tgt := 89) C (by decide +kernel) (by decide) ?_
            exact zs_goj (hK13 (w32 (t12 + 1))) ⟨rfl, rfl, rfl, rfl, rfl, trivial⟩
          · refine zs_iload (pc := 114) (i := 5) C (by decide +kernel) rfl ?_
            exact zs_retWi (pc := 116) C hr ⟨Nat.le_of_ble_eq_true rfl, Nat.le_of_ble_eq_true rfl⟩ (by decide +kernel)
      · refine zs_if_le (pc := 76) (off := 10) (tgt := 86) C (by decide +kernel) (by decide) ?_ ?_
        · exact zs_goj (hJ11 ()) ⟨rfl, rfl, rfl, rfl, trivial⟩
        · refine zs_aload_n (pc := 79) (k := 0) (i := 0) C (by decide +kernel) rfl rfl ?_
          refine zs_iload_n (pc := 80) (k := 2) (i := 2) C (by decide +kernel) rfl rfl ?_
          refine zs_iload (pc := 81) (i := 5) C (by decide +kernel) rfl ?_
          refine zs_cvVv (pc := 83) (As := [sI a1, sI t8]) (st := []) C (fun _ _ _ => rfl) (c_X12_goesErrands l g a1 t8) ml_RX12_516 rfl rfl rfl rfl (Nat.le_of_ble_eq_true rfl) ⟨Nat.le_of_ble_eq_true rfl, Nat.le_of_ble_eq_true rfl⟩ ⟨Nat.le_of_ble_eq_true rfl, Nat.le_of_ble_eq_true rfl⟩ (by decide +kernel) ?_
          exact zs_goj (hJ11 ()) ⟨rfl, rfl, rfl, rfl, trivial⟩
  · refine zs_aload_n (pc := 23) (k := 0) (i := 0) C (by decide +kernel) rfl rfl ?_
    refine zs_getR (o' := 305) (pc := 24) (i := 67) (ci := 12) (k := 33) C (by decide +kernel) fl_RX12_67 rfl rfl rfl ?_
    refine zs_iload (pc := 27) (i := 5) C (by decide +kernel) rfl ?_
    refine zs_iconst (pc := 29) (n := 0) (x := 0) C (by decide +kernel) (by decide +kernel) ?_
    refine zs_zast (pc := 30) (o := 305) (n := 10000) C (fun _ _ _ => rfl) (by decide +kernel) rfl ?_
    refine zs_iinc (pc := 31) (i := 5) (n := 1) (y := w32 (t3 + 1)) (ls' := [(5, sI (w32 (t3 + 1))), (0, sR 287), (1, sI a0), (2, sI a1), (3, sI a2), (4, sI x2)]) C (by decide +kernel) rfl rfl (Nat.le_of_ble_eq_true rfl) rfl ?_
    refine zs_goto (pc := 34) (off := (-19)) (tgt := 15) C (by decide +kernel) (by decide) ?_
    exact zs_goj (hK4 (w32 (t3 + 1))) ⟨rfl, rfl, rfl, rfl, rfl, rfl, trivial⟩
set_option maxRecDepth 20000 in
theorem c_X12_errands (l : Launch) (g : GC) (a0 : Int) (a1 : Int) : ConW l g yX12_errands cX12_errands 3 (some .int) (rmd 7 0 0) [sR 287, sI a0, sI a1] (fun mm => fX12_errands a0 a1 mm) := by
  refine zs_ofW (by decide +kernel) (Nat.le_of_ble_eq_true rfl) ?_
  intro p e s m args below meth c C hr
  replace C : Bd g RX12 cX12_errands 3 p s m args meth c := C
  unfold fX12_errands
  refine zs_aload_n (pc := 0) (k := 0) (i := 0) C (by decide +kernel) rfl rfl ?_
  refine zs_aload_n (pc := 1) (k := 0) (i := 0) C (by decide +kernel) rfl rfl ?_
  refine zs_iload_n (pc := 2) (k := 1) (i := 1) C (by decide +kernel) rfl rfl ?_
  refine zs_i2l (pc := 3) C (by decide +kernel) ?_
  refine zs_cvRi (pc := 4) (As := [sL a0]) (st := [sR 287]) C (Or.inr rfl) (c_X12_isPair l g a0) ml_RX12_338 rfl rfl rfl rfl (Nat.le_of_ble_eq_true rfl) ⟨Nat.le_of_ble_eq_true rfl, Nat.le_of_ble_eq_true rfl⟩ ⟨Nat.le_of_ble_eq_true rfl, Nat.le_of_ble_eq_true rfl⟩ (by decide +kernel) (fun x1 => ?_)
  refine zs_jn (pJ := 19) (kJ := 0) (sJ := 0) (fun t2 => [(0, sR 287), (1, sI a0), (2, sI a1)]) (fun t2 => [sI t2, sR 287]) (fun t2 => ?_) (fun J3 hJ3 => ?_)
  · refine zs_putI (pc := 19) (i := 88) (ci := 12) (k := 4) C (fun _ _ _ => rfl) (by decide +kernel) fl_RX12_88 fw_12_4 rfl rfl ?_
    refine zs_aload_n (pc := 22) (k := 0) (i := 0) C (by decide +kernel) rfl rfl ?_
    refine zs_getI (pc := 23) (i := 88) (ci := 12) (k := 4) C (by decide +kernel) fl_RX12_88 rfl rfl (fun x4 => ?_)
    refine zs_if_le (pc := 26) (off := 5) (tgt := 31) C (by decide +kernel) (by decide) ?_ ?_
    · refine zs_aload_n (pc := 31) (k := 0) (i := 0) C (by decide +kernel) rfl rfl ?_
      refine zs_iload_n (pc := 32) (k := 1) (i := 1) C (by decide +kernel) rfl rfl ?_
      refine zs_cvVv (pc := 33) (As := [sI a0]) (st := []) C (fun _ _ _ => rfl) (c_X12_laysOwn l g a0) ml_RX12_461 rfl rfl rfl rfl (Nat.le_of_ble_eq_true rfl) ⟨Nat.le_of_ble_eq_true rfl, Nat.le_of_ble_eq_true rfl⟩ ⟨Nat.le_of_ble_eq_true rfl, Nat.le_of_ble_eq_true rfl⟩ (by decide +kernel) ?_
      refine zs_aload_n (pc := 36) (k := 0) (i := 0) C (by decide +kernel) rfl rfl ?_
      refine zs_iload_n (pc := 37) (k := 1) (i := 1) C (by decide +kernel) rfl rfl ?_
      refine zs_iload_n (pc := 38) (k := 2) (i := 2) C (by decide +kernel) rfl rfl ?_
      refine zs_iconst (pc := 39) (n := 0) (x := 0) C (by decide +kernel) (by decide +kernel) ?_
      refine zs_cvWi (pc := 40) (As := [sI a0, sI a1, sI 0]) (st := []) C (fun _ _ _ => rfl) (Or.inl rfl) (c_X12_doneBy l g a0 a1 0) ml_RX12_522 rfl rfl rfl rfl (Nat.le_of_ble_eq_true rfl) ⟨Nat.le_of_ble_eq_true rfl, Nat.le_of_ble_eq_true rfl⟩ ⟨Nat.le_of_ble_eq_true rfl, Nat.le_of_ble_eq_true rfl⟩ (by decide +kernel) (fun x5 => ?_)
      exact zs_retWi (pc := 43) C hr ⟨Nat.le_of_ble_eq_true rfl, Nat.le_of_ble_eq_true rfl⟩ (by decide +kernel)
    · refine zs_iconst (pc := 29) (n := 0) (x := 0) C (by decide +kernel) (by decide +kernel) ?_
      exact zs_retWi (pc := 30) C hr ⟨Nat.le_of_ble_eq_true rfl, Nat.le_of_ble_eq_true rfl⟩ (by decide +kernel)
  · refine zs_if_eq (pc := 7) (off := 11) (tgt := 18) C (by decide +kernel) (by decide) ?_ ?_
    · refine zs_iconst (pc := 18) (n := 1) (x := 1) C (by decide +kernel) (by decide +kernel) ?_
      exact zs_goj (hJ3 1) ⟨rfl, rfl, rfl, trivial⟩
    · refine zs_aload_n (pc := 10) (k := 0) (i := 0) C (by decide +kernel) rfl rfl ?_
      refine zs_iload_n (pc := 11) (k := 2) (i := 2) C (by decide +kernel) rfl rfl ?_
      refine zs_cvRi (pc := 12) (As := [sI a1]) (st := [sR 287]) C (Or.inl rfl) (c_X12_errandsFault l g a1) ml_RX12_519 rfl rfl rfl rfl (Nat.le_of_ble_eq_true rfl) ⟨Nat.le_of_ble_eq_true rfl, Nat.le_of_ble_eq_true rfl⟩ ⟨Nat.le_of_ble_eq_true rfl, Nat.le_of_ble_eq_true rfl⟩ (by decide +kernel) (fun x6 => ?_)
      refine zs_goto (pc := 15) (off := 4) (tgt := 19) C (by decide +kernel) (by decide) ?_
      exact zs_goj (hJ3 x6) ⟨rfl, rfl, rfl, trivial⟩
set_option maxRecDepth 20000 in
theorem c_X12_dropped (l : Launch) (g : GC) (a0 : Int) (a1 : Int) : ConW l g yX12_dropped cX12_dropped 7 (some .int) (rmd 7 0 0) [sR 287, sI a0, sI a1] (fun mm => fX12_dropped a0 a1 mm) := by
  refine zs_ofW (by decide +kernel) (Nat.le_of_ble_eq_true rfl) ?_
  intro p e s m args below meth c C hr
  replace C : Bd g RX12 cX12_dropped 7 p s m args meth c := C
  unfold fX12_dropped
  refine zs_aload_n (pc := 0) (k := 0) (i := 0) C (by decide +kernel) rfl rfl ?_
  refine zs_aload_n (pc := 1) (k := 0) (i := 0) C (by decide +kernel) rfl rfl ?_
  refine zs_iload_n (pc := 2) (k := 1) (i := 1) C (by decide +kernel) rfl rfl ?_
  refine zs_i2l (pc := 3) C (by decide +kernel) ?_
  refine zs_cvRi (pc := 4) (As := [sL a0]) (st := [sR 287]) C (Or.inr rfl) (c_X12_isPair l g a0) ml_RX12_338 rfl rfl rfl rfl (Nat.le_of_ble_eq_true rfl) ⟨Nat.le_of_ble_eq_true rfl, Nat.le_of_ble_eq_true rfl⟩ ⟨Nat.le_of_ble_eq_true rfl, Nat.le_of_ble_eq_true rfl⟩ (by decide +kernel) (fun x1 => ?_)
  refine zs_jn (pJ := 19) (kJ := 0) (sJ := 0) (fun t2 => [(0, sR 287), (1, sI a0), (2, sI a1)]) (fun t2 => [sI t2, sR 287]) (fun t2 => ?_) (fun J3 hJ3 => ?_)
  · refine zs_putI (pc := 19) (i := 88) (ci := 12) (k := 4) C (fun _ _ _ => rfl) (by decide +kernel) fl_RX12_88 fw_12_4 rfl rfl ?_
    refine zs_aload_n (pc := 22) (k := 0) (i := 0) C (by decide +kernel) rfl rfl ?_
    refine zs_getI (pc := 23) (i := 88) (ci := 12) (k := 4) C (by decide +kernel) fl_RX12_88 rfl rfl (fun x4 => ?_)
    refine zs_if_le (pc := 26) (off := 5) (tgt := 31) C (by decide +kernel) (by decide) ?_ ?_
    · refine zs_aload_n (pc := 31) (k := 0) (i := 0) C (by decide +kernel) rfl rfl ?_
      refine zs_iload_n (pc := 32) (k := 1) (i := 1) C (by decide +kernel) rfl rfl ?_
      refine zs_cvVv (pc := 33) (As := [sI a0]) (st := []) C (fun _ _ _ => rfl) (c_X12_laysOwn l g a0) ml_RX12_461 rfl rfl rfl rfl (Nat.le_of_ble_eq_true rfl) ⟨Nat.le_of_ble_eq_true rfl, Nat.le_of_ble_eq_true rfl⟩ ⟨Nat.le_of_ble_eq_true rfl, Nat.le_of_ble_eq_true rfl⟩ (by decide +kernel) ?_
      refine zs_iconst (pc := 36) (n := (-1)) (x := (-1)) C (by decide +kernel) (by decide +kernel) ?_
      refine zs_istore_n (pc := 37) (k := 3) (i := 3) (ls' := [(3, sI ((-1))), (0, sR 287), (1, sI a0), (2, sI a1)]) C (by decide +kernel) rfl (Nat.le_of_ble_eq_true rfl) rfl ?_
      refine zs_ldcw (pc := 38) (i := 441) (v := 536870912) (x := 536870912) C (by decide +kernel) wf_2282 (by decide +kernel) ?_
      refine zs_istore (pc := 41) (i := 4) (ls' := [(4, sI 536870912), (3, sI ((-1))), (0, sR 287), (1, sI a0), (2, sI a1)]) C (by decide +kernel) (Nat.le_of_ble_eq_true rfl) rfl ?_
      refine zs_iconst (pc := 43) (n := 0) (x := 0) C (by decide +kernel) (by decide +kernel) ?_
      refine zs_istore (pc := 44) (i := 5) (ls' := [(5, sI 0), (4, sI 536870912), (3, sI ((-1))), (0, sR 287), (1, sI a0), (2, sI a1)]) C (by decide +kernel) (Nat.le_of_ble_eq_true rfl) rfl ?_
      refine zs_sub (ls' := [(0, sR 287), (1, sI a0), (2, sI a1), (3, sI ((-1))), (4, sI 536870912), (5, sI 0)]) ⟨rfl, rfl, rfl, rfl, rfl, rfl, trivial⟩ ?_
      refine zs_lp (pc := 46) (fun (t5 : Int × Int × Int) => [(0, sR 287), (1, sI a0), (2, sI a1), (3, sI t5.1), (4, sI t5.2.1), (5, sI t5.2.2)]) (fun _ => []) (fun K6 hK6 t5 => ?_) BIG ((-1), 536870912, 0)
      refine zs_iload (pc := 46) (i := 5) C (by decide +kernel) rfl ?_
      refine zs_aload_n (pc := 48) (k := 0) (i := 0) C (by decide +kernel) rfl rfl ?_
      refine zs_getR (o' := 310) (pc := 49) (i := 82) (ci := 12) (k := 40) C (by decide +kernel) fl_RX12_82 rfl rfl rfl ?_
      refine zs_iload_n (pc := 52) (k := 2) (i := 2) C (by decide +kernel) rfl rfl ?_
      refine zs_iald (pc := 53) (o := 310) (n := 4) C (by decide +kernel) rfl (fun hinx7 x7 => ?_)
      refine zs_icmp_ge (pc := 54) (off := 44) (tgt := 98) C (by decide +kernel) (by decide) ?_ ?_
      · refine zs_iload_n (pc := 98) (k := 3) (i := 3) C (by decide +kernel) rfl rfl ?_
        exact zs_retWi (pc := 99) C hr ⟨Nat.le_of_ble_eq_true rfl, Nat.le_of_ble_eq_true rfl⟩ (by decide +kernel)
      · refine zs_aload_n (pc := 57) (k := 0) (i := 0) C (by decide +kernel) rfl rfl ?_
        refine zs_iload_n (pc := 58) (k := 1) (i := 1) C (by decide +kernel) rfl rfl ?_
        refine zs_iload_n (pc := 59) (k := 2) (i := 2) C (by decide +kernel) rfl rfl ?_
        refine zs_iconst (pc := 60) (n := 1) (x := 1) C (by decide +kernel) (by decide +kernel) ?_
        refine zs_iload (pc := 61) (i := 5) C (by decide +kernel) rfl ?_
        refine zs_ishl (pc := 63) C (by decide +kernel) ?_
        refine zs_cvWi (pc := 64) (As := [sI a0, sI a1, sI (ishl 1 t5.2.2)]) (st := []) C (fun _ _ _ => rfl) (Or.inl rfl) (c_X12_doneBy l g a0 a1 (ishl 1 t5.2.2)) ml_RX12_522 rfl rfl rfl rfl (Nat.le_of_ble_eq_true rfl) ⟨Nat.le_of_ble_eq_true rfl, Nat.le_of_ble_eq_true rfl⟩ ⟨Nat.le_of_ble_eq_true rfl, Nat.le_of_ble_eq_true rfl⟩ (by decide +kernel) (fun x8 => ?_)
        refine zs_istore (pc := 67) (i := 6) (ls' := [(6, sI x8), (0, sR 287), (1, sI a0), (2, sI a1), (3, sI t5.1), (4, sI t5.2.1), (5, sI t5.2.2)]) C (by decide +kernel) (Nat.le_of_ble_eq_true rfl) rfl ?_
        refine zs_iload (pc := 69) (i := 6) C (by decide +kernel) rfl ?_
        refine zs_iconst (pc := 71) (n := (-1)) (x := (-1)) C (by decide +kernel) (by decide +kernel) ?_
        refine zs_jn (pJ := 92) (kJ := 0) (sJ := 0) (fun t9 => [(0, sR 287), (1, sI a0), (2, sI a1), (3, sI t9.1), (4, sI t9.2), (5, sI t5.2.2)]) (fun t9 => []) (fun t9 => ?_) (fun J10 hJ10 => ?_)
        · refine zs_iinc (pc := 92) (i := 5) (n := 1) (y := w32 (t5.2.2 + 1)) (ls' := [(5, sI (w32 (t5.2.2 + 1))), (0, sR 287), (1, sI a0), (2, sI a1), (3, sI t9.1), (4, sI t9.2)]) C (by decide +kernel) rfl rfl (Nat.le_of_ble_eq_true rfl) rfl ?_
          refine zs_goto (pc := 95) (off := (-49)) (tgt := 46) C (by decide +kernel) (by decide) ?_
          exact zs_goj (hK6 (t9.1, t9.2, w32 (t5.2.2 + 1))) ⟨rfl, rfl, rfl, rfl, rfl, rfl, trivial⟩
        · refine zs_icmp_eq (pc := 72) (off := 20) (tgt := 92) C (by decide +kernel) (by decide) ?_ ?_
          · exact zs_goj (hJ10 (t5.1, t5.2.1)) ⟨rfl, rfl, rfl, rfl, rfl, rfl, trivial⟩
          · refine zs_iload (pc := 75) (i := 6) C (by decide +kernel) rfl ?_
            refine zs_iload (pc := 77) (i := 4) C (by decide +kernel) rfl ?_
            refine zs_icmp_lt (pc := 79) (off := 6) (tgt := 85) C (by decide +kernel) (by decide) ?_ ?_
            · refine zs_iload (pc := 85) (i := 5) C (by decide +kernel) rfl ?_
              refine zs_istore_n (pc := 87) (k := 3) (i := 3) (ls' := [(3, sI t5.2.2), (6, sI x8), (0, sR 287), (1, sI a0), (2, sI a1), (4, sI t5.2.1), (5, sI t5.2.2)]) C (by decide +kernel) rfl (Nat.le_of_ble_eq_true rfl) rfl ?_
              refine zs_iload (pc := 88) (i := 6) C (by decide +kernel) rfl ?_
              refine zs_istore (pc := 90) (i := 4) (ls' := [(4, sI x8), (3, sI t5.2.2), (6, sI x8), (0, sR 287), (1, sI a0), (2, sI a1), (5, sI t5.2.2)]) C (by decide +kernel) (Nat.le_of_ble_eq_true rfl) rfl ?_
              exact zs_goj (hJ10 (t5.2.2, x8)) ⟨rfl, rfl, rfl, rfl, rfl, rfl, trivial⟩
            · refine zs_goto (pc := 82) (off := 10) (tgt := 92) C (by decide +kernel) (by decide) ?_
              exact zs_goj (hJ10 (t5.1, t5.2.1)) ⟨rfl, rfl, rfl, rfl, rfl, rfl, trivial⟩
    · refine zs_iconst (pc := 29) (n := 0) (x := 0) C (by decide +kernel) (by decide +kernel) ?_
      exact zs_retWi (pc := 30) C hr ⟨Nat.le_of_ble_eq_true rfl, Nat.le_of_ble_eq_true rfl⟩ (by decide +kernel)
  · refine zs_if_eq (pc := 7) (off := 11) (tgt := 18) C (by decide +kernel) (by decide) ?_ ?_
    · refine zs_iconst (pc := 18) (n := 1) (x := 1) C (by decide +kernel) (by decide +kernel) ?_
      exact zs_goj (hJ3 1) ⟨rfl, rfl, rfl, trivial⟩
    · refine zs_aload_n (pc := 10) (k := 0) (i := 0) C (by decide +kernel) rfl rfl ?_
      refine zs_iload_n (pc := 11) (k := 2) (i := 2) C (by decide +kernel) rfl rfl ?_
      refine zs_cvRi (pc := 12) (As := [sI a1]) (st := [sR 287]) C (Or.inl rfl) (c_X12_errandsFault l g a1) ml_RX12_519 rfl rfl rfl rfl (Nat.le_of_ble_eq_true rfl) ⟨Nat.le_of_ble_eq_true rfl, Nat.le_of_ble_eq_true rfl⟩ ⟨Nat.le_of_ble_eq_true rfl, Nat.le_of_ble_eq_true rfl⟩ (by decide +kernel) (fun x11 => ?_)
      refine zs_goto (pc := 15) (off := 4) (tgt := 19) C (by decide +kernel) (by decide) ?_
      exact zs_goj (hJ3 x11) ⟨rfl, rfl, rfl, trivial⟩
set_option maxRecDepth 20000 in
theorem c_X12_people (l : Launch) (g : GC)  : ConR l g yX12_people cX12_people 1 (some .int) (rmd 1 0 0) [sR 287] (fun mm => fX12_people  mm) := by
  refine zs_ofR (by decide +kernel) (Nat.le_of_ble_eq_true rfl) ?_
  intro p e s m args below meth c C hr
  replace C : Bd g RX12 cX12_people 1 p s m args meth c := C
  unfold fX12_people
  refine zs_iconst (pc := 0) (n := 2) (x := 2) C (by decide +kernel) (by decide +kernel) ?_
  refine zs_aload_n (pc := 1) (k := 0) (i := 0) C (by decide +kernel) rfl rfl ?_
  refine zs_getR (o' := 288) (pc := 2) (i := 9) (ci := 12) (k := 0) C (by decide +kernel) fl_RX12_9 rfl rfl rfl ?_
  refine zs_iconst (pc := 5) (n := 3) (x := 3) C (by decide +kernel) (by decide +kernel) ?_
  refine zs_ialdk (pc := 6) (o := 288) (n := 2005) C (by decide) (by decide +kernel) rfl (fun x1 => ?_)
  refine zs_imul (pc := 7) C (by decide +kernel) ?_
  exact zs_retRi (pc := 8) C hr ⟨Nat.le_of_ble_eq_true rfl, Nat.le_of_ble_eq_true rfl⟩ (by decide +kernel)
set_option maxRecDepth 20000 in
theorem c_X12_whereIs (l : Launch) (g : GC) (a0 : Int) : ConR l g yX12_whereIs cX12_whereIs 2 (some .int) (rmd 1 0 0) [sR 287, sI a0] (fun mm => fX12_whereIs a0 mm) := by
  refine zs_ofR (by decide +kernel) (Nat.le_of_ble_eq_true rfl) ?_
  intro p e s m args below meth c C hr
  replace C : Bd g RX12 cX12_whereIs 2 p s m args meth c := C
  unfold fX12_whereIs
  refine zs_aload_n (pc := 0) (k := 0) (i := 0) C (by decide +kernel) rfl rfl ?_
  refine zs_getR (o' := 288) (pc := 1) (i := 9) (ci := 12) (k := 0) C (by decide +kernel) fl_RX12_9 rfl rfl rfl ?_
  refine zs_iload_n (pc := 4) (k := 1) (i := 1) C (by decide +kernel) rfl rfl ?_
  refine zs_iconst (pc := 5) (n := 2) (x := 2) C (by decide +kernel) (by decide +kernel) ?_
  refine zs_irem (pc := 6) C (by decide +kernel) (by decide +kernel) ?_
  refine zs_jn (pJ := 17) (kJ := 0) (sJ := 0) (fun t1 => [(1, sI a0)]) (fun t1 => [sI t1, sR 288]) (fun t1 => ?_) (fun J2 hJ2 => ?_)
  · refine zs_iload_n (pc := 17) (k := 1) (i := 1) C (by decide +kernel) rfl rfl ?_
    refine zs_iconst (pc := 18) (n := 2) (x := 2) C (by decide +kernel) (by decide +kernel) ?_
    refine zs_idiv (pc := 19) C (by decide +kernel) (by decide +kernel) ?_
    refine zs_iadd (pc := 20) C (by decide +kernel) ?_
    refine zs_iald (pc := 21) (o := 288) (n := 2005) C (by decide +kernel) rfl (fun hinx3 x3 => ?_)
    exact zs_retRi (pc := 22) C hr ⟨Nat.le_of_ble_eq_true rfl, Nat.le_of_ble_eq_true rfl⟩ (by decide +kernel)
  · refine zs_if_ne (pc := 7) (off := 8) (tgt := 15) C (by decide +kernel) (by decide) ?_ ?_
    · refine zs_bipush (pc := 15) (n := 17) (x := 17) C (by decide +kernel) (by decide +kernel) ?_
      exact zs_goj (hJ2 17) ⟨rfl, trivial⟩
    · refine zs_bipush (pc := 10) (n := 13) (x := 13) C (by decide +kernel) (by decide +kernel) ?_
      refine zs_goto (pc := 12) (off := 5) (tgt := 17) C (by decide +kernel) (by decide) ?_
      exact zs_goj (hJ2 13) ⟨rfl, trivial⟩
set_option maxRecDepth 20000 in
theorem c_X12_mayHave (l : Launch) (g : GC) (a0 : Int) (a1 : Int) : ConW l g yX12_mayHave cX12_mayHave 4 (some .boolean) (rmd 6 0 0) [sR 287, sI a0, sI a1] (fun mm => fX12_mayHave a0 a1 mm) := by
  refine zs_ofW (by decide +kernel) (Nat.le_of_ble_eq_true rfl) ?_
  intro p e s m args below meth c C hr
  replace C : Bd g RX12 cX12_mayHave 4 p s m args meth c := C
  unfold fX12_mayHave
  refine zs_iload_n (pc := 0) (k := 1) (i := 1) C (by decide +kernel) rfl rfl ?_
  refine zs_iconst (pc := 1) (n := 2) (x := 2) C (by decide +kernel) (by decide +kernel) ?_
  refine zs_idiv (pc := 2) C (by decide +kernel) (by decide +kernel) ?_
  refine zs_let (fun x1 => ?_)
  refine zs_istore_n (pc := 3) (k := 3) (i := 3) (ls' := [(3, sI x1), (0, sR 287), (1, sI a0), (2, sI a1)]) C (by decide +kernel) rfl (Nat.le_of_ble_eq_true rfl) rfl ?_
  refine zs_iload_n (pc := 4) (k := 1) (i := 1) C (by decide +kernel) rfl rfl ?_
  refine zs_iconst (pc := 5) (n := 2) (x := 2) C (by decide +kernel) (by decide +kernel) ?_
  refine zs_irem (pc := 6) C (by decide +kernel) (by decide +kernel) ?_
  refine zs_jn (pJ := 60) (kJ := 0) (sJ := 0) (fun t2 => []) (fun t2 => [sI t2]) (fun t2 => ?_) (fun J3 hJ3 => ?_)
  · refine zs_chk (fun _ hx => ?_)
    exact zs_retWz (pc := 60) C hx hr ⟨Nat.le_of_ble_eq_true rfl, Nat.le_of_ble_eq_true rfl⟩ (by decide +kernel)
  · refine zs_jn (pJ := 55) (kJ := 0) (sJ := 0) (fun t4 => []) (fun t4 => []) (fun t4 => ?_) (fun J5 hJ5 => ?_)
    · refine zs_iconst (pc := 55) (n := 1) (x := 1) C (by decide +kernel) (by decide +kernel) ?_
      refine zs_goto (pc := 56) (off := 4) (tgt := 60) C (by decide +kernel) (by decide) ?_
      exact zs_goj (hJ3 1) trivial
    · refine zs_if_eq (pc := 7) (off := 48) (tgt := 55) C (by decide +kernel) (by decide) ?_ ?_
      · exact zs_goj (hJ5 ()) trivial
      · refine zs_aload_n (pc := 10) (k := 0) (i := 0) C (by decide +kernel) rfl rfl ?_
        refine zs_iload_n (pc := 11) (k := 3) (i := 3) C (by decide +kernel) rfl rfl ?_
        refine zs_cvRi (pc := 12) (As := [sI x1]) (st := []) C (Or.inr rfl) (c_X12_isParted l g x1) ml_RX12_349 rfl rfl rfl rfl (Nat.le_of_ble_eq_true rfl) ⟨Nat.le_of_ble_eq_true rfl, Nat.le_of_ble_eq_true rfl⟩ ⟨Nat.le_of_ble_eq_true rfl, Nat.le_of_ble_eq_true rfl⟩ (by decide +kernel) (fun x6 => ?_)
        refine zs_if_ne (pc := 15) (off := 40) (tgt := 55) C (by decide +kernel) (by decide) ?_ ?_
        · exact zs_goj (hJ5 ()) trivial
        · refine zs_aload_n (pc := 18) (k := 0) (i := 0) C (by decide +kernel) rfl rfl ?_
          refine zs_aload_n (pc := 19) (k := 0) (i := 0) C (by decide +kernel) rfl rfl ?_
          refine zs_getR (o' := 288) (pc := 20) (i := 9) (ci := 12) (k := 0) C (by decide +kernel) fl_RX12_9 rfl rfl rfl ?_
          refine zs_bipush (pc := 23) (n := 29) (x := 29) C (by decide +kernel) (by decide +kernel) ?_
          refine zs_aload_n (pc := 25) (k := 0) (i := 0) C (by decide +kernel) rfl rfl ?_
          refine zs_getR (o' := 307) (pc := 26) (i := 73) (ci := 12) (k := 35) C (by decide +kernel) fl_RX12_73 rfl rfl rfl ?_
          refine zs_iload_n (pc := 29) (k := 1) (i := 1) C (by decide +kernel) rfl rfl ?_
          refine zs_iconst (pc := 30) (n := 1) (x := 1) C (by decide +kernel) (by decide +kernel) ?_
          refine zs_isub (pc := 31) C (by decide +kernel) ?_
          refine zs_iald (pc := 32) (o := 307) (n := 8) C (by decide +kernel) rfl (fun hinx7 x7 => ?_)
          refine zs_iadd (pc := 33) C (by decide +kernel) ?_
          refine zs_iald (pc := 34) (o := 288) (n := 2005) C (by decide +kernel) rfl (fun hinx8 x8 => ?_)
          refine zs_aload_n (pc := 35) (k := 0) (i := 0) C (by decide +kernel) rfl rfl ?_
          refine zs_getR (o' := 288) (pc := 36) (i := 9) (ci := 12) (k := 0) C (by decide +kernel) fl_RX12_9 rfl rfl rfl ?_
          refine zs_bipush (pc := 39) (n := 29) (x := 29) C (by decide +kernel) (by decide +kernel) ?_
          refine zs_iload_n (pc := 41) (k := 2) (i := 2) C (by decide +kernel) rfl rfl ?_
          refine zs_iadd (pc := 42) C (by decide +kernel) ?_
          refine zs_iald (pc := 43) (o := 288) (n := 2005) C (by decide +kernel) rfl (fun hinx9 x9 => ?_)
          refine zs_cvRi (pc := 44) (As := [sI x8, sI x9]) (st := []) C (Or.inl rfl) (c_X12_apart l g x8 x9) ml_RX12_298 rfl rfl rfl rfl (Nat.le_of_ble_eq_true rfl) ⟨Nat.le_of_ble_eq_true rfl, Nat.le_of_ble_eq_true rfl⟩ ⟨Nat.le_of_ble_eq_true rfl, Nat.le_of_ble_eq_true rfl⟩ (by decide +kernel) (fun x10 => ?_)
          refine zs_aload_n (pc := 47) (k := 0) (i := 0) C (by decide +kernel) rfl rfl ?_
          refine zs_iload_n (pc := 48) (k := 3) (i := 3) C (by decide +kernel) rfl rfl ?_
          refine zs_cvWi (pc := 49) (As := [sI x1]) (st := [sI x10]) C (fun _ _ _ => rfl) (Or.inl rfl) (c_X12_lengthNow l g x1) ml_RX12_346 rfl rfl rfl rfl (Nat.le_of_ble_eq_true rfl) ⟨Nat.le_of_ble_eq_true rfl, Nat.le_of_ble_eq_true rfl⟩ ⟨Nat.le_of_ble_eq_true rfl, Nat.le_of_ble_eq_true rfl⟩ (by decide +kernel) (fun x11 => ?_)
          refine zs_icmp_gt (pc := 52) (off := 7) (tgt := 59) C (by decide +kernel) (by decide) ?_ ?_
          · refine zs_iconst (pc := 59) (n := 0) (x := 0) C (by decide +kernel) (by decide +kernel) ?_
            exact zs_goj (hJ3 0) trivial
          · exact zs_goj (hJ5 ()) trivial
set_option maxRecDepth 20000 in
theorem cg_X12_goesHousing (l : Launch) (g : GC) : ∀ n : Nat, (∀ (a0 : Int) (a1 : Int) (a2 : Int), ConV l g yX12_goesHousing cX12_goesHousing 5 (rmd (7 + n) 0 0) [sR 287, sI a0, sI a1, sI a2] (fun mm => gX12_goesHousing n 0 a0 a1 a2 mm)) := by
  intro n
  induction n with
  | zero => exact (fun _ _ _ _ _ h => by cases h)
  | succ n ih =>
    intro a0 a1 a2
    show ConV l g yX12_goesHousing cX12_goesHousing 5 (rmd (7 + (n + 1)) 0 0) [sR 287, sI a0, sI a1, sI a2] (fun mm => fX12_goesHousing_F (gX12_goesHousing n) a0 a1 a2 mm)
    refine zs_ofV (by decide +kernel) (Nat.le_of_ble_eq_true rfl) ?_
    intro p e s m args below meth c C hr
    replace C : Bd g RX12 cX12_goesHousing 5 p s m args meth c := C
    unfold fX12_goesHousing_F
    refine zs_iload_n (pc := 0) (k := 1) (i := 1) C (by decide +kernel) rfl rfl ?_
    refine zs_aload_n (pc := 1) (k := 0) (i := 0) C (by decide +kernel) rfl rfl ?_
    refine zs_cvRi (pc := 2) (As := []) (st := [sI a0]) C (Or.inl rfl) (c_X12_people l g ) ml_RX12_525 rfl rfl rfl rfl (Nat.le_of_ble_eq_true rfl) (by constructor <;> simp only [rmd] <;> omega) (by constructor <;> simp only [rmd] <;> omega) (by decide +kernel) (fun x1 => ?_)
    refine zs_icmp_ne (pc := 5) (off := 57) (tgt := 62) C (by decide +kernel) (by decide) ?_ ?_
    · refine zs_iconst (pc := 62) (n := 0) (x := 0) C (by decide +kernel) (by decide +kernel) ?_
      refine zs_istore (pc := 63) (i := 4) (ls' := [(4, sI 0), (0, sR 287), (1, sI a0), (2, sI a1), (3, sI a2)]) C (by decide +kernel) (Nat.le_of_ble_eq_true rfl) rfl ?_
      refine zs_sub (ls' := [(0, sR 287), (1, sI a0), (2, sI a1), (3, sI a2), (4, sI 0)]) ⟨rfl, rfl, rfl, rfl, rfl, trivial⟩ ?_
      refine zs_lp (pc := 65) (fun (t2 : Int) => [(0, sR 287), (1, sI a0), (2, sI a1), (3, sI a2), (4, sI t2)]) (fun _ => []) (fun K3 hK3 t2 => ?_) BIG 0
      refine zs_iload (pc := 65) (i := 4) C (by decide +kernel) rfl ?_
      refine zs_aload_n (pc := 67) (k := 0) (i := 0) C (by decide +kernel) rfl rfl ?_
      refine zs_getR (o' := 288) (pc := 68) (i := 9) (ci := 12) (k := 0) C (by decide +kernel) fl_RX12_9 rfl rfl rfl ?_
      refine zs_iconst (pc := 71) (n := 4) (x := 4) C (by decide +kernel) (by decide +kernel) ?_
      refine zs_ialdk (pc := 72) (o := 288) (n := 2005) C (by decide) (by decide +kernel) rfl (fun x4 => ?_)
      refine zs_icmp_ge (pc := 73) (off := 73) (tgt := 146) C (by decide +kernel) (by decide) ?_ ?_
      · exact zs_retVv (pc := 146) C hr ⟨Nat.zero_le _, Nat.zero_le _⟩ (by decide +kernel)
      · refine zs_iload_n (pc := 76) (k := 2) (i := 2) C (by decide +kernel) rfl rfl ?_
        refine zs_iload (pc := 77) (i := 4) C (by decide +kernel) rfl ?_
        refine zs_csRi (pc := 79) (As := [sI a1, sI t2]) (st := []) C (Or.inr rfl) (c_X12_has l g a1 t2) ml_RX12_230 rfl rfl (Nat.le_of_ble_eq_true rfl) (by constructor <;> simp only [rmd] <;> omega) (by constructor <;> simp only [rmd] <;> omega) (by decide +kernel) (fun x5 => ?_)
        refine zs_jn (pJ := 140) (kJ := 0) (sJ := 0) (fun t6 => [(0, sR 287), (1, sI a0), (2, sI a1), (3, sI a2), (4, sI t2)]) (fun t6 => []) (fun t6 => ?_) (fun J7 hJ7 => ?_)
        · refine zs_iinc (pc := 140) (i := 4) (n := 1) (y := w32 (t2 + 1)) (ls' := [(4, sI (w32 (t2 + 1))), (0, sR 287), (1, sI a0), (2, sI a1), (3, sI a2)]) C (by decide +kernel) rfl rfl (Nat.le_of_ble_eq_true rfl) rfl ?_
          refine zs_goto (pc := 143) (off := (-78)) (tgt := 65) C (by decide +kernel) (by decide) ?_
          exact zs_goj (hK3 (w32 (t2 + 1))) ⟨rfl, rfl, rfl, rfl, rfl, trivial⟩
        · refine zs_if_ne (pc := 82) (off := 58) (tgt := 140) C (by decide +kernel) (by decide) ?_ ?_
          · exact zs_goj (hJ7 ()) ⟨rfl, rfl, rfl, rfl, rfl, trivial⟩
          · refine zs_aload_n (pc := 85) (k := 0) (i := 0) C (by decide +kernel) rfl rfl ?_
            refine zs_iload_n (pc := 86) (k := 1) (i := 1) C (by decide +kernel) rfl rfl ?_
            refine zs_iload (pc := 87) (i := 4) C (by decide +kernel) rfl ?_
            refine zs_cvWi (pc := 89) (As := [sI a0, sI t2]) (st := []) C (fun _ _ _ => rfl) (Or.inr rfl) (c_X12_mayHave l g a0 t2) ml_RX12_534 rfl rfl rfl rfl (Nat.le_of_ble_eq_true rfl) (by constructor <;> simp only [rmd] <;> omega) (by constructor <;> simp only [rmd] <;> omega) (by decide +kernel) (fun x8 => ?_)
            refine zs_if_ne (pc := 92) (off := 6) (tgt := 98) C (by decide +kernel) (by decide) ?_ ?_
            · refine zs_aload_n (pc := 98) (k := 0) (i := 0) C (by decide +kernel) rfl rfl ?_
              refine zs_getR (o' := 307) (pc := 99) (i := 73) (ci := 12) (k := 35) C (by decide +kernel) fl_RX12_73 rfl rfl rfl ?_
              refine zs_iload_n (pc := 102) (k := 1) (i := 1) C (by decide +kernel) rfl rfl ?_
              refine zs_iload (pc := 103) (i := 4) C (by decide +kernel) rfl ?_
              refine zs_iast (pc := 105) (o := 307) (n := 8) C (fun _ _ _ => rfl) (by decide +kernel) rfl ?_
              refine zs_aload_n (pc := 106) (k := 0) (i := 0) C (by decide +kernel) rfl rfl ?_
              refine zs_iload_n (pc := 107) (k := 1) (i := 1) C (by decide +kernel) rfl rfl ?_
              refine zs_iconst (pc := 108) (n := 1) (x := 1) C (by decide +kernel) (by decide +kernel) ?_
              refine zs_iadd (pc := 109) C (by decide +kernel) ?_
              refine zs_iload_n (pc := 110) (k := 2) (i := 2) C (by decide +kernel) rfl rfl ?_
              refine zs_iconst (pc := 111) (n := 1) (x := 1) C (by decide +kernel) (by decide +kernel) ?_
              refine zs_iload (pc := 112) (i := 4) C (by decide +kernel) rfl ?_
              refine zs_ishl (pc := 114) C (by decide +kernel) ?_
              refine zs_ior (pc := 115) C (by decide +kernel) ?_
              refine zs_iload_n (pc := 116) (k := 3) (i := 3) C (by decide +kernel) rfl rfl ?_
              refine zs_aload_n (pc := 117) (k := 0) (i := 0) C (by decide +kernel) rfl rfl ?_
              refine zs_aload_n (pc := 118) (k := 0) (i := 0) C (by decide +kernel) rfl rfl ?_
              refine zs_iload_n (pc := 119) (k := 1) (i := 1) C (by decide +kernel) rfl rfl ?_
              refine zs_cvRi (pc := 120) (As := [sI a0]) (st := [sR 287, sI a2, sI (ior a1 (ishl 1 t2)), sI (w32 (a0 + 1)), sR 287]) C (Or.inl rfl) (c_X12_whereIs l g a0) ml_RX12_537 rfl rfl rfl rfl (Nat.le_of_ble_eq_true rfl) (by constructor <;> simp only [rmd] <;> omega) (by constructor <;> simp only [rmd] <;> omega) (by decide +kernel) (fun x9 => ?_)
              refine zs_aload_n (pc := 123) (k := 0) (i := 0) C (by decide +kernel) rfl rfl ?_
              refine zs_getR (o' := 288) (pc := 124) (i := 9) (ci := 12) (k := 0) C (by decide +kernel) fl_RX12_9 rfl rfl rfl ?_
              refine zs_bipush (pc := 127) (n := 29) (x := 29) C (by decide +kernel) (by decide +kernel) ?_
              refine zs_iload (pc := 129) (i := 4) C (by decide +kernel) rfl ?_
              refine zs_iadd (pc := 131) C (by decide +kernel) ?_
              refine zs_iald (pc := 132) (o := 288) (n := 2005) C (by decide +kernel) rfl (fun hinx10 x10 => ?_)
              refine zs_cvRi (pc := 133) (As := [sI x9, sI x10]) (st := [sI a2, sI (ior a1 (ishl 1 t2)), sI (w32 (a0 + 1)), sR 287]) C (Or.inl rfl) (c_X12_apart l g x9 x10) ml_RX12_298 rfl rfl rfl rfl (Nat.le_of_ble_eq_true rfl) (by constructor <;> simp only [rmd] <;> omega) (by constructor <;> simp only [rmd] <;> omega) (by decide +kernel) (fun x11 => ?_)
              refine zs_iadd (pc := 136) C (by decide +kernel) ?_
              refine zs_cvVv (pc := 137) (As := [sI (w32 (a0 + 1)), sI (ior a1 (ishl 1 t2)), sI (w32 (a2 + x11))]) (st := []) C (fun _ _ _ => rfl) (ih (w32 (a0 + 1)) (ior a1 (ishl 1 t2)) (w32 (a2 + x11))) ml_RX12_540 rfl rfl rfl rfl (Nat.le_of_ble_eq_true rfl) (by constructor <;> simp only [rmd] <;> omega) (by constructor <;> simp only [rmd] <;> omega) (by decide +kernel) ?_
              exact zs_goj (hJ7 ()) ⟨rfl, rfl, rfl, rfl, rfl, trivial⟩
            · refine zs_goto (pc := 95) (off := 45) (tgt := 140) C (by decide +kernel) (by decide) ?_
              exact zs_goj (hJ7 ()) ⟨rfl, rfl, rfl, rfl, rfl, trivial⟩
    · refine zs_aload_n (pc := 8) (k := 0) (i := 0) C (by decide +kernel) rfl rfl ?_
      refine zs_dup (pc := 9) C rfl (by decide +kernel) ?_
      refine zs_getI (pc := 10) (i := 528) (ci := 12) (k := 37) C (by decide +kernel) fl_RX12_528 rfl rfl (fun x12 => ?_)
      refine zs_iconst (pc := 13) (n := 1) (x := 1) C (by decide +kernel) (by decide +kernel) ?_
      refine zs_iadd (pc := 14) C (by decide +kernel) ?_
      refine zs_putI (pc := 15) (i := 528) (ci := 12) (k := 37) C (fun _ _ _ => rfl) (by decide +kernel) fl_RX12_528 fw_12_37 rfl rfl ?_
      refine zs_iload_n (pc := 18) (k := 3) (i := 3) C (by decide +kernel) rfl rfl ?_
      refine zs_aload_n (pc := 19) (k := 0) (i := 0) C (by decide +kernel) rfl rfl ?_
      refine zs_getI (pc := 20) (i := 531) (ci := 12) (k := 38) C (by decide +kernel) fl_RX12_531 rfl rfl (fun x13 => ?_)
      refine zs_icmp_lt (pc := 23) (off := 4) (tgt := 27) C (by decide +kernel) (by decide) ?_ ?_
      · refine zs_aload_n (pc := 27) (k := 0) (i := 0) C (by decide +kernel) rfl rfl ?_
        refine zs_iload_n (pc := 28) (k := 3) (i := 3) C (by decide +kernel) rfl rfl ?_
        refine zs_putI (pc := 29) (i := 531) (ci := 12) (k := 38) C (fun _ _ _ => rfl) (by decide +kernel) fl_RX12_531 fw_12_38 rfl rfl ?_
        refine zs_iconst (pc := 32) (n := 0) (x := 0) C (by decide +kernel) (by decide +kernel) ?_
        refine zs_istore (pc := 33) (i := 4) (ls' := [(4, sI 0), (0, sR 287), (1, sI a0), (2, sI a1), (3, sI a2)]) C (by decide +kernel) (Nat.le_of_ble_eq_true rfl) rfl ?_
        refine zs_sub (ls' := [(0, sR 287), (1, sI a0), (4, sI 0)]) ⟨rfl, rfl, rfl, trivial⟩ ?_
        refine zs_lp (pc := 35) (fun (t14 : Int) => [(0, sR 287), (1, sI a0), (4, sI t14)]) (fun _ => []) (fun K15 hK15 t14 => ?_) BIG 0
        refine zs_iload (pc := 35) (i := 4) C (by decide +kernel) rfl ?_
        refine zs_iload_n (pc := 37) (k := 1) (i := 1) C (by decide +kernel) rfl rfl ?_
        refine zs_icmp_ge (pc := 38) (off := 23) (tgt := 61) C (by decide +kernel) (by decide) ?_ ?_
        · exact zs_retVv (pc := 61) C hr ⟨Nat.zero_le _, Nat.zero_le _⟩ (by decide +kernel)
        · refine zs_aload_n (pc := 41) (k := 0) (i := 0) C (by decide +kernel) rfl rfl ?_
          refine zs_getR (o' := 308) (pc := 42) (i := 76) (ci := 12) (k := 36) C (by decide +kernel) fl_RX12_76 rfl rfl rfl ?_
          refine zs_iload (pc := 45) (i := 4) C (by decide +kernel) rfl ?_
          refine zs_aload_n (pc := 47) (k := 0) (i := 0) C (by decide +kernel) rfl rfl ?_
          refine zs_getR (o' := 307) (pc := 48) (i := 73) (ci := 12) (k := 35) C (by decide +kernel) fl_RX12_73 rfl rfl rfl ?_
          refine zs_iload (pc := 51) (i := 4) C (by decide +kernel) rfl ?_
          refine zs_iald (pc := 53) (o := 307) (n := 8) C (by decide +kernel) rfl (fun hinx16 x16 => ?_)
          refine zs_iast (pc := 54) (o := 308) (n := 8) C (fun _ _ _ => rfl) (by decide +kernel) rfl ?_
          refine zs_iinc (pc := 55) (i := 4) (n := 1) (y := w32 (t14 + 1)) (ls' := [(4, sI (w32 (t14 + 1))), (0, sR 287), (1, sI a0)]) C (by decide +kernel) rfl rfl (Nat.le_of_ble_eq_true rfl) rfl ?_
          refine zs_goto (pc := 58) (off := (-23)) (tgt := 35) C (by decide +kernel) (by decide) ?_
          exact zs_goj (hK15 (w32 (t14 + 1))) ⟨rfl, rfl, rfl, trivial⟩
      · exact zs_retVv (pc := 26) C hr ⟨Nat.zero_le _, Nat.zero_le _⟩ (by decide +kernel)
set_option maxRecDepth 20000 in
theorem c_X12_laysHoused (l : Launch) (g : GC) (a0 : Int) : ConW l g yX12_laysHoused cX12_laysHoused 2 (some .int) (rmd 38 0 0) [sR 287, sI a0] (fun mm => fX12_laysHoused a0 mm) := by
  refine zs_ofW (by decide +kernel) (Nat.le_of_ble_eq_true rfl) ?_
  intro p e s m args below meth c C hr
  replace C : Bd g RX12 cX12_laysHoused 2 p s m args meth c := C
  unfold fX12_laysHoused
  refine zs_aload_n (pc := 0) (k := 0) (i := 0) C (by decide +kernel) rfl rfl ?_
  refine zs_iconst (pc := 1) (n := 0) (x := 0) C (by decide +kernel) (by decide +kernel) ?_
  refine zs_putI (pc := 2) (i := 528) (ci := 12) (k := 37) C (fun _ _ _ => rfl) (by decide +kernel) fl_RX12_528 fw_12_37 rfl rfl ?_
  refine zs_aload_n (pc := 5) (k := 0) (i := 0) C (by decide +kernel) rfl rfl ?_
  refine zs_ldcw (pc := 6) (i := 441) (v := 536870912) (x := 536870912) C (by decide +kernel) wf_2282 (by decide +kernel) ?_
  refine zs_putI (pc := 9) (i := 531) (ci := 12) (k := 38) C (fun _ _ _ => rfl) (by decide +kernel) fl_RX12_531 fw_12_38 rfl rfl ?_
  refine zs_aload_n (pc := 12) (k := 0) (i := 0) C (by decide +kernel) rfl rfl ?_
  refine zs_iconst (pc := 13) (n := 0) (x := 0) C (by decide +kernel) (by decide +kernel) ?_
  refine zs_iload_n (pc := 14) (k := 1) (i := 1) C (by decide +kernel) rfl rfl ?_
  refine zs_iconst (pc := 15) (n := 0) (x := 0) C (by decide +kernel) (by decide +kernel) ?_
  refine zs_cvVv (pc := 16) (As := [sI 0, sI a0, sI 0]) (st := []) C (fun _ _ _ => rfl) ((cg_X12_goesHousing l g 30) 0 a0 0) ml_RX12_540 rfl rfl rfl rfl (Nat.le_of_ble_eq_true rfl) (by constructor <;> simp only [rmd] <;> omega) (by constructor <;> simp only [rmd] <;> omega) (by decide +kernel) ?_
  refine zs_aload_n (pc := 19) (k := 0) (i := 0) C (by decide +kernel) rfl rfl ?_
  refine zs_getI (pc := 20) (i := 528) (ci := 12) (k := 37) C (by decide +kernel) fl_RX12_528 rfl rfl (fun x1 => ?_)
  exact zs_retWi (pc := 23) C hr ⟨Nat.le_of_ble_eq_true rfl, Nat.le_of_ble_eq_true rfl⟩ (by decide +kernel)
set_option maxRecDepth 20000 in
theorem c_X12_housed (l : Launch) (g : GC)  : ConW l g yX12_housed cX12_housed 1 (some .int) (rmd 39 0 0) [sR 287] (fun mm => fX12_housed  mm) := by
  refine zs_ofW (by decide +kernel) (Nat.le_of_ble_eq_true rfl) ?_
  intro p e s m args below meth c C hr
  replace C : Bd g RX12 cX12_housed 1 p s m args meth c := C
  unfold fX12_housed
  refine zs_aload_n (pc := 0) (k := 0) (i := 0) C (by decide +kernel) rfl rfl ?_
  refine zs_iconst (pc := 1) (n := 0) (x := 0) C (by decide +kernel) (by decide +kernel) ?_
  refine zs_putI (pc := 2) (i := 88) (ci := 12) (k := 4) C (fun _ _ _ => rfl) (by decide +kernel) fl_RX12_88 fw_12_4 rfl rfl ?_
  refine zs_aload_n (pc := 5) (k := 0) (i := 0) C (by decide +kernel) rfl rfl ?_
  refine zs_iconst (pc := 6) (n := 0) (x := 0) C (by decide +kernel) (by decide +kernel) ?_
  refine zs_cvWi (pc := 7) (As := [sI 0]) (st := []) C (fun _ _ _ => rfl) (Or.inl rfl) (c_X12_laysHoused l g 0) ml_RX12_543 rfl rfl rfl rfl (Nat.le_of_ble_eq_true rfl) ⟨Nat.le_of_ble_eq_true rfl, Nat.le_of_ble_eq_true rfl⟩ ⟨Nat.le_of_ble_eq_true rfl, Nat.le_of_ble_eq_true rfl⟩ (by decide +kernel) (fun x1 => ?_)
  exact zs_retWi (pc := 10) C hr ⟨Nat.le_of_ble_eq_true rfl, Nat.le_of_ble_eq_true rfl⟩ (by decide +kernel)
set_option maxRecDepth 20000 in
theorem c_X12_shortest (l : Launch) (g : GC) (a0 : Int) : ConW l g yX12_shortest cX12_shortest 2 (some .int) (rmd 39 0 0) [sR 287, sI a0] (fun mm => fX12_shortest a0 mm) := by
  refine zs_ofW (by decide +kernel) (Nat.le_of_ble_eq_true rfl) ?_
  intro p e s m args below meth c C hr
  replace C : Bd g RX12 cX12_shortest 2 p s m args meth c := C
  unfold fX12_shortest
  refine zs_aload_n (pc := 0) (k := 0) (i := 0) C (by decide +kernel) rfl rfl ?_
  refine zs_iconst (pc := 1) (n := 0) (x := 0) C (by decide +kernel) (by decide +kernel) ?_
  refine zs_putI (pc := 2) (i := 88) (ci := 12) (k := 4) C (fun _ _ _ => rfl) (by decide +kernel) fl_RX12_88 fw_12_4 rfl rfl ?_
  refine zs_iload_n (pc := 5) (k := 1) (i := 1) C (by decide +kernel) rfl rfl ?_
  refine zs_jn (pJ := 29) (kJ := 0) (sJ := 0) (fun t1 => [(0, sR 287), (1, sI a0)]) (fun t1 => []) (fun t1 => ?_) (fun J2 hJ2 => ?_)
  · refine zs_aload_n (pc := 29) (k := 0) (i := 0) C (by decide +kernel) rfl rfl ?_
    refine zs_iconst (pc := 30) (n := 0) (x := 0) C (by decide +kernel) (by decide +kernel) ?_
    refine zs_cvWi (pc := 31) (As := [sI 0]) (st := []) C (fun _ _ _ => rfl) (Or.inl rfl) (c_X12_laysHoused l g 0) ml_RX12_543 rfl rfl rfl rfl (Nat.le_of_ble_eq_true rfl) ⟨Nat.le_of_ble_eq_true rfl, Nat.le_of_ble_eq_true rfl⟩ ⟨Nat.le_of_ble_eq_true rfl, Nat.le_of_ble_eq_true rfl⟩ (by decide +kernel) (fun x3 => ?_)
    refine zs_if_ne (pc := 34) (off := 5) (tgt := 39) C (by decide +kernel) (by decide) ?_ ?_
    · refine zs_iload_n (pc := 39) (k := 1) (i := 1) C (by decide +kernel) rfl rfl ?_
      refine zs_jn (pJ := 74) (kJ := 0) (sJ := 0) (fun t4 => []) (fun t4 => [sI t4]) (fun t4 => ?_) (fun J5 hJ5 => ?_)
      · exact zs_retWi (pc := 74) C hr ⟨Nat.le_of_ble_eq_true rfl, Nat.le_of_ble_eq_true rfl⟩ (by decide +kernel)
      · refine zs_if_ne (pc := 40) (off := 10) (tgt := 50) C (by decide +kernel) (by decide) ?_ ?_
        · refine zs_iload_n (pc := 50) (k := 1) (i := 1) C (by decide +kernel) rfl rfl ?_
          refine zs_bipush (pc := 51) (n := 10) (x := 10) C (by decide +kernel) (by decide +kernel) ?_
          refine zs_isub (pc := 53) C (by decide +kernel) ?_
          refine zs_aload_n (pc := 54) (k := 0) (i := 0) C (by decide +kernel) rfl rfl ?_
          refine zs_cvRi (pc := 55) (As := []) (st := [sI (w32 (a0 - 10))]) C (Or.inl rfl) (c_X12_people l g ) ml_RX12_525 rfl rfl rfl rfl (Nat.le_of_ble_eq_true rfl) ⟨Nat.le_of_ble_eq_true rfl, Nat.le_of_ble_eq_true rfl⟩ ⟨Nat.le_of_ble_eq_true rfl, Nat.le_of_ble_eq_true rfl⟩ (by decide +kernel) (fun x6 => ?_)
          refine zs_icmp_ge (pc := 58) (off := 15) (tgt := 73) C (by decide +kernel) (by decide) ?_ ?_
          · refine zs_iconst (pc := 73) (n := (-1)) (x := (-1)) C (by decide +kernel) (by decide +kernel) ?_
            exact zs_goj (hJ5 (-1)) trivial
          · refine zs_aload_n (pc := 61) (k := 0) (i := 0) C (by decide +kernel) rfl rfl ?_
            refine zs_getR (o' := 308) (pc := 62) (i := 76) (ci := 12) (k := 36) C (by decide +kernel) fl_RX12_76 rfl rfl rfl ?_
            refine zs_iload_n (pc := 65) (k := 1) (i := 1) C (by decide +kernel) rfl rfl ?_
            refine zs_bipush (pc := 66) (n := 10) (x := 10) C (by decide +kernel) (by decide +kernel) ?_
            refine zs_isub (pc := 68) C (by decide +kernel) ?_
            refine zs_iald (pc := 69) (o := 308) (n := 8) C (by decide +kernel) rfl (fun hinx7 x7 => ?_)
            refine zs_goto (pc := 70) (off := 4) (tgt := 74) C (by decide +kernel) (by decide) ?_
            exact zs_goj (hJ5 x7) trivial
        · refine zs_aload_n (pc := 43) (k := 0) (i := 0) C (by decide +kernel) rfl rfl ?_
          refine zs_getI (pc := 44) (i := 531) (ci := 12) (k := 38) C (by decide +kernel) fl_RX12_531 rfl rfl (fun x8 => ?_)
          refine zs_goto (pc := 47) (off := 27) (tgt := 74) C (by decide +kernel) (by decide) ?_
          exact zs_goj (hJ5 x8) trivial
    · refine zs_iconst (pc := 37) (n := (-1)) (x := (-1)) C (by decide +kernel) (by decide +kernel) ?_
      exact zs_retWi (pc := 38) C hr ⟨Nat.le_of_ble_eq_true rfl, Nat.le_of_ble_eq_true rfl⟩ (by decide +kernel)
  · refine zs_if_eq (pc := 6) (off := 23) (tgt := 29) C (by decide +kernel) (by decide) ?_ ?_
    · exact zs_goj (hJ2 ()) ⟨rfl, rfl, trivial⟩
    · refine zs_iload_n (pc := 9) (k := 1) (i := 1) C (by decide +kernel) rfl rfl ?_
      refine zs_i2l (pc := 10) C (by decide +kernel) ?_
      refine zs_ldc2 (pc := 11) (i := 390) (v := 10) (x := 10) C (by decide +kernel) wf_2208 (by decide +kernel) ?_
      refine zs_ldc2 (pc := 14) (i := 546) (v := 17) (x := 17) C (by decide +kernel) wf_2453 (by decide +kernel) ?_
      refine zs_csRi (pc := 17) (As := [sL a0, sL 10, sL 17]) (st := []) C (Or.inr rfl) (c_X12_within l g a0 10 17) ml_RX12_149 rfl rfl (Nat.le_of_ble_eq_true rfl) ⟨Nat.le_of_ble_eq_true rfl, Nat.le_of_ble_eq_true rfl⟩ ⟨Nat.le_of_ble_eq_true rfl, Nat.le_of_ble_eq_true rfl⟩ (by decide +kernel) (fun x9 => ?_)
      refine zs_if_ne (pc := 20) (off := 9) (tgt := 29) C (by decide +kernel) (by decide) ?_ ?_
      · exact zs_goj (hJ2 ()) ⟨rfl, rfl, trivial⟩
      · refine zs_aload_n (pc := 23) (k := 0) (i := 0) C (by decide +kernel) rfl rfl ?_
        refine zs_iconst (pc := 24) (n := 1) (x := 1) C (by decide +kernel) (by decide +kernel) ?_
        refine zs_cvWi (pc := 25) (As := [sI 1]) (st := []) C (fun _ _ _ => rfl) (Or.inl rfl) (c_X12_fails l g 1) ml_RX12_279 rfl rfl rfl rfl (Nat.le_of_ble_eq_true rfl) ⟨Nat.le_of_ble_eq_true rfl, Nat.le_of_ble_eq_true rfl⟩ ⟨Nat.le_of_ble_eq_true rfl, Nat.le_of_ble_eq_true rfl⟩ (by decide +kernel) (fun x10 => ?_)
        exact zs_retWi (pc := 28) C hr ⟨Nat.le_of_ble_eq_true rfl, Nat.le_of_ble_eq_true rfl⟩ (by decide +kernel)
set_option maxRecDepth 20000 in
theorem c_X12_dear (l : Launch) (g : GC)  : ConW l g yX12_dear cX12_dear 3 (some .int) (rmd 39 0 0) [sR 287] (fun mm => fX12_dear  mm) := by
  refine zs_ofW (by decide +kernel) (Nat.le_of_ble_eq_true rfl) ?_
  intro p e s m args below meth c C hr
  replace C : Bd g RX12 cX12_dear 3 p s m args meth c := C
  unfold fX12_dear
  refine zs_aload_n (pc := 0) (k := 0) (i := 0) C (by decide +kernel) rfl rfl ?_
  refine zs_iconst (pc := 1) (n := 0) (x := 0) C (by decide +kernel) (by decide +kernel) ?_
  refine zs_putI (pc := 2) (i := 88) (ci := 12) (k := 4) C (fun _ _ _ => rfl) (by decide +kernel) fl_RX12_88 fw_12_4 rfl rfl ?_
  refine zs_iconst (pc := 5) (n := 0) (x := 0) C (by decide +kernel) (by decide +kernel) ?_
  refine zs_istore_n (pc := 6) (k := 1) (i := 1) (ls' := [(1, sI 0), (0, sR 287)]) C (by decide +kernel) rfl (Nat.le_of_ble_eq_true rfl) rfl ?_
  refine zs_aload_n (pc := 7) (k := 0) (i := 0) C (by decide +kernel) rfl rfl ?_
  refine zs_iconst (pc := 8) (n := 0) (x := 0) C (by decide +kernel) (by decide +kernel) ?_
  refine zs_cvWi (pc := 9) (As := [sI 0]) (st := []) C (fun _ _ _ => rfl) (Or.inl rfl) (c_X12_laysHoused l g 0) ml_RX12_543 rfl rfl rfl rfl (Nat.le_of_ble_eq_true rfl) ⟨Nat.le_of_ble_eq_true rfl, Nat.le_of_ble_eq_true rfl⟩ ⟨Nat.le_of_ble_eq_true rfl, Nat.le_of_ble_eq_true rfl⟩ (by decide +kernel) (fun x1 => ?_)
  refine zs_if_ne (pc := 12) (off := 5) (tgt := 17) C (by decide +kernel) (by decide) ?_ ?_
  · refine zs_iconst (pc := 17) (n := 0) (x := 0) C (by decide +kernel) (by decide +kernel) ?_
    refine zs_istore_n (pc := 18) (k := 2) (i := 2) (ls' := [(2, sI 0), (1, sI 0), (0, sR 287)]) C (by decide +kernel) rfl (Nat.le_of_ble_eq_true rfl) rfl ?_
    refine zs_sub (ls' := [(0, sR 287), (1, sI 0), (2, sI 0)]) ⟨rfl, rfl, rfl, trivial⟩ ?_
    refine zs_lp (pc := 19) (fun (t2 : Int × Int) => [(0, sR 287), (1, sI t2.1), (2, sI t2.2)]) (fun _ => []) (fun K3 hK3 t2 => ?_) BIG (0, 0)
    refine zs_iload_n (pc := 19) (k := 2) (i := 2) C (by decide +kernel) rfl rfl ?_
    refine zs_aload_n (pc := 20) (k := 0) (i := 0) C (by decide +kernel) rfl rfl ?_
    refine zs_getR (o' := 288) (pc := 21) (i := 9) (ci := 12) (k := 0) C (by decide +kernel) fl_RX12_9 rfl rfl rfl ?_
    refine zs_iconst (pc := 24) (n := 4) (x := 4) C (by decide +kernel) (by decide +kernel) ?_
    refine zs_ialdk (pc := 25) (o := 288) (n := 2005) C (by decide) (by decide +kernel) rfl (fun x4 => ?_)
    refine zs_icmp_ge (pc := 26) (off := 29) (tgt := 55) C (by decide +kernel) (by decide) ?_ ?_
    · refine zs_iload_n (pc := 55) (k := 1) (i := 1) C (by decide +kernel) rfl rfl ?_
      exact zs_retWi (pc := 56) C hr ⟨Nat.le_of_ble_eq_true rfl, Nat.le_of_ble_eq_true rfl⟩ (by decide +kernel)
    · refine zs_iload_n (pc := 29) (k := 1) (i := 1) C (by decide +kernel) rfl rfl ?_
      refine zs_aload_n (pc := 30) (k := 0) (i := 0) C (by decide +kernel) rfl rfl ?_
      refine zs_iconst (pc := 31) (n := 1) (x := 1) C (by decide +kernel) (by decide +kernel) ?_
      refine zs_iload_n (pc := 32) (k := 2) (i := 2) C (by decide +kernel) rfl rfl ?_
      refine zs_ishl (pc := 33) C (by decide +kernel) ?_
      refine zs_cvWi (pc := 34) (As := [sI (ishl 1 t2.2)]) (st := [sI t2.1]) C (fun _ _ _ => rfl) (Or.inl rfl) (c_X12_laysHoused l g (ishl 1 t2.2)) ml_RX12_543 rfl rfl rfl rfl (Nat.le_of_ble_eq_true rfl) ⟨Nat.le_of_ble_eq_true rfl, Nat.le_of_ble_eq_true rfl⟩ ⟨Nat.le_of_ble_eq_true rfl, Nat.le_of_ble_eq_true rfl⟩ (by decide +kernel) (fun x5 => ?_)
      refine zs_jn (pJ := 47) (kJ := 0) (sJ := 0) (fun t6 => [(0, sR 287), (2, sI t2.2)]) (fun t6 => [sI t6, sI t2.1]) (fun t6 => ?_) (fun J7 hJ7 => ?_)
      · refine zs_ior (pc := 47) C (by decide +kernel) ?_
        refine zs_let (fun x8 => ?_)
        refine zs_istore_n (pc := 48) (k := 1) (i := 1) (ls' := [(1, sI x8), (0, sR 287), (2, sI t2.2)]) C (by decide +kernel) rfl (Nat.le_of_ble_eq_true rfl) rfl ?_
        refine zs_iinc (pc := 49) (i := 2) (n := 1) (y := w32 (t2.2 + 1)) (ls' := [(2, sI (w32 (t2.2 + 1))), (1, sI x8), (0, sR 287)]) C (by decide +kernel) rfl rfl (Nat.le_of_ble_eq_true rfl) rfl ?_
        refine zs_goto (pc := 52) (off := (-33)) (tgt := 19) C (by decide +kernel) (by decide) ?_
        exact zs_goj (hK3 (x8, w32 (t2.2 + 1))) ⟨rfl, rfl, rfl, trivial⟩
      · refine zs_if_ne (pc := 37) (off := 9) (tgt := 46) C (by decide +kernel) (by decide) ?_ ?_
        · refine zs_iconst (pc := 46) (n := 0) (x := 0) C (by decide +kernel) (by decide +kernel) ?_
          exact zs_goj (hJ7 0) ⟨rfl, rfl, trivial⟩
        · refine zs_iconst (pc := 40) (n := 1) (x := 1) C (by decide +kernel) (by decide +kernel) ?_
          refine zs_iload_n (pc := 41) (k := 2) (i := 2) C (by decide +kernel) rfl rfl ?_
          refine zs_ishl (pc := 42) C (by decide +kernel) ?_
          refine zs_goto (pc := 43) (off := 4) (tgt := 47) C (by decide +kernel) (by decide) ?_
          exact zs_goj (hJ7 (ishl 1 t2.2)) ⟨rfl, rfl, trivial⟩
  · refine zs_iload_n (pc := 15) (k := 1) (i := 1) C (by decide +kernel) rfl rfl ?_
    exact zs_retWi (pc := 16) C hr ⟨Nat.le_of_ble_eq_true rfl, Nat.le_of_ble_eq_true rfl⟩ (by decide +kernel)
set_option maxRecDepth 20000 in
theorem c_X12_watchedFault (l : Launch) (g : GC) (a0 : Int) (a1 : Int) (a2 : Int) : ConR l g yX12_watchedFault cX12_watchedFault 6 (some .int) (rmd 3 0 0) [sR 287, sI a0, sI a1, sI a2] (fun mm => fX12_watchedFault a0 a1 a2 mm) := by
  refine zs_ofR (by decide +kernel) (Nat.le_of_ble_eq_true rfl) ?_
  intro p e s m args below meth c C hr
  replace C : Bd g RX12 cX12_watchedFault 6 p s m args meth c := C
  unfold fX12_watchedFault
  refine zs_aload_n (pc := 0) (k := 0) (i := 0) C (by decide +kernel) rfl rfl ?_
  refine zs_iload_n (pc := 1) (k := 1) (i := 1) C (by decide +kernel) rfl rfl ?_
  refine zs_i2l (pc := 2) C (by decide +kernel) ?_
  refine zs_cvRi (pc := 3) (As := [sL a0]) (st := []) C (Or.inr rfl) (c_X12_isPair l g a0) ml_RX12_338 rfl rfl rfl rfl (Nat.le_of_ble_eq_true rfl) ⟨Nat.le_of_ble_eq_true rfl, Nat.le_of_ble_eq_true rfl⟩ ⟨Nat.le_of_ble_eq_true rfl, Nat.le_of_ble_eq_true rfl⟩ (by decide +kernel) (fun x1 => ?_)
  refine zs_jn (pJ := 16) (kJ := 0) (sJ := 0) (fun t2 => []) (fun t2 => []) (fun t2 => ?_) (fun J3 hJ3 => ?_)
  · refine zs_iconst (pc := 16) (n := 1) (x := 1) C (by decide +kernel) (by decide +kernel) ?_
    exact zs_retRi (pc := 17) C hr ⟨Nat.le_of_ble_eq_true rfl, Nat.le_of_ble_eq_true rfl⟩ (by decide +kernel)
  · refine zs_if_eq (pc := 6) (off := 10) (tgt := 16) C (by decide +kernel) (by decide) ?_ ?_
    · exact zs_goj (hJ3 ()) trivial
    · refine zs_iload_n (pc := 9) (k := 2) (i := 2) C (by decide +kernel) rfl rfl ?_
      refine zs_csRi (pc := 10) (As := [sI a1]) (st := []) C (Or.inr rfl) (c_X12_isTray l g a1) ml_RX12_392 rfl rfl (Nat.le_of_ble_eq_true rfl) ⟨Nat.le_of_ble_eq_true rfl, Nat.le_of_ble_eq_true rfl⟩ ⟨Nat.le_of_ble_eq_true rfl, Nat.le_of_ble_eq_true rfl⟩ (by decide +kernel) (fun x4 => ?_)
      refine zs_if_ne (pc := 13) (off := 5) (tgt := 18) C (by decide +kernel) (by decide) ?_ ?_
      · refine zs_aload_n (pc := 18) (k := 0) (i := 0) C (by decide +kernel) rfl rfl ?_
        refine zs_getR (o' := 309) (pc := 19) (i := 79) (ci := 12) (k := 39) C (by decide +kernel) fl_RX12_79 rfl rfl rfl ?_
        refine zs_iload_n (pc := 22) (k := 2) (i := 2) C (by decide +kernel) rfl rfl ?_
        refine zs_iald (pc := 23) (o := 309) (n := 4) C (by decide +kernel) rfl (fun hinx5 x5 => ?_)
        refine zs_iconst (pc := 24) (n := (-1)) (x := (-1)) C (by decide +kernel) (by decide +kernel) ?_
        refine zs_icmp_ne (pc := 25) (off := 5) (tgt := 30) C (by decide +kernel) (by decide) ?_ ?_
        · refine zs_aload_n (pc := 30) (k := 0) (i := 0) C (by decide +kernel) rfl rfl ?_
          refine zs_getR (o' := 310) (pc := 31) (i := 82) (ci := 12) (k := 40) C (by decide +kernel) fl_RX12_82 rfl rfl rfl ?_
          refine zs_iload_n (pc := 34) (k := 2) (i := 2) C (by decide +kernel) rfl rfl ?_
          refine zs_iald (pc := 35) (o := 310) (n := 4) C (by decide +kernel) rfl (fun hinx6 x6 => ?_)
          refine zs_i2l (pc := 36) C (by decide +kernel) ?_
          refine zs_lconst (pc := 37) (n := 1) (x := 1) C (by decide +kernel) (by decide +kernel) ?_
          refine zs_iload_n (pc := 38) (k := 3) (i := 3) C (by decide +kernel) rfl rfl ?_
          refine zs_i2l (pc := 39) C (by decide +kernel) ?_
          refine zs_csRi (pc := 40) (As := [sL x6, sL 1, sL a2]) (st := []) C (Or.inr rfl) (c_X12_within l g x6 1 a2) ml_RX12_149 rfl rfl (Nat.le_of_ble_eq_true rfl) ⟨Nat.le_of_ble_eq_true rfl, Nat.le_of_ble_eq_true rfl⟩ ⟨Nat.le_of_ble_eq_true rfl, Nat.le_of_ble_eq_true rfl⟩ (by decide +kernel) (fun x7 => ?_)
          refine zs_istore (pc := 43) (i := 4) (ls' := [(4, sI x7), (0, sR 287), (1, sI a0), (2, sI a1), (3, sI a2)]) C (by decide +kernel) (Nat.le_of_ble_eq_true rfl) rfl ?_
          refine zs_iconst (pc := 45) (n := 0) (x := 0) C (by decide +kernel) (by decide +kernel) ?_
          refine zs_istore (pc := 46) (i := 5) (ls' := [(5, sI 0), (4, sI x7), (0, sR 287), (1, sI a0), (2, sI a1), (3, sI a2)]) C (by decide +kernel) (Nat.le_of_ble_eq_true rfl) rfl ?_
          refine zs_sub (ls' := [(0, sR 287), (2, sI a1), (4, sI x7), (5, sI 0)]) ⟨rfl, rfl, rfl, rfl, trivial⟩ ?_
          refine zs_lp (pc := 48) (fun (t8 : Int × Int) => [(0, sR 287), (2, sI a1), (4, sI t8.1), (5, sI t8.2)]) (fun _ => []) (fun K9 hK9 t8 => ?_) BIG (x7, 0)
          refine zs_iload (pc := 48) (i := 5) C (by decide +kernel) rfl ?_
          refine zs_aload_n (pc := 50) (k := 0) (i := 0) C (by decide +kernel) rfl rfl ?_
          refine zs_getR (o' := 310) (pc := 51) (i := 82) (ci := 12) (k := 40) C (by decide +kernel) fl_RX12_82 rfl rfl rfl ?_
          refine zs_iload_n (pc := 54) (k := 2) (i := 2) C (by decide +kernel) rfl rfl ?_
          refine zs_iald (pc := 55) (o := 310) (n := 4) C (by decide +kernel) rfl (fun hinx10 x10 => ?_)
          refine zs_jn (pJ := 115) (kJ := 0) (sJ := 0) (fun t11 => [(4, sI t8.1)]) (fun t11 => []) (fun t11 => ?_) (fun J12 hJ12 => ?_)
          · refine zs_iload (pc := 115) (i := 4) C (by decide +kernel) rfl ?_
            refine zs_jn (pJ := 125) (kJ := 0) (sJ := 0) (fun t13 => []) (fun t13 => [sI t13]) (fun t13 => ?_) (fun J14 hJ14 => ?_)
            · exact zs_retRi (pc := 125) C hr ⟨Nat.le_of_ble_eq_true rfl, Nat.le_of_ble_eq_true rfl⟩ (by decide +kernel)
            · refine zs_if_eq (pc := 117) (off := 7) (tgt := 124) C (by decide +kernel) (by decide) ?_ ?_
              · refine zs_iconst (pc := 124) (n := 3) (x := 3) C (by decide +kernel) (by decide +kernel) ?_
                exact zs_goj (hJ14 3) trivial
              · refine zs_iconst (pc := 120) (n := 0) (x := 0) C (by decide +kernel) (by decide +kernel) ?_
                refine zs_goto (pc := 121) (off := 4) (tgt := 125) C (by decide +kernel) (by decide) ?_
                exact zs_goj (hJ14 0) trivial
          · refine zs_icmp_ge (pc := 56) (off := 59) (tgt := 115) C (by decide +kernel) (by decide) ?_ ?_
            · exact zs_goj (hJ12 ()) ⟨rfl, trivial⟩
            · refine zs_iload (pc := 59) (i := 4) C (by decide +kernel) rfl ?_
              refine zs_if_eq (pc := 61) (off := 54) (tgt := 115) C (by decide +kernel) (by decide) ?_ ?_
              · exact zs_goj (hJ12 ()) ⟨rfl, trivial⟩
              · refine zs_aload_n (pc := 64) (k := 0) (i := 0) C (by decide +kernel) rfl rfl ?_
                refine zs_getR (o' := 311) (pc := 65) (i := 85) (ci := 12) (k := 41) C (by decide +kernel) fl_RX12_85 rfl rfl rfl ?_
                refine zs_bipush (pc := 68) (n := 30) (x := 30) C (by decide +kernel) (by decide +kernel) ?_
                refine zs_iload_n (pc := 70) (k := 2) (i := 2) C (by decide +kernel) rfl rfl ?_
                refine zs_imul (pc := 71) C (by decide +kernel) ?_
                refine zs_iload (pc := 72) (i := 5) C (by decide +kernel) rfl ?_
                refine zs_iadd (pc := 74) C (by decide +kernel) ?_
                refine zs_lald (pc := 75) (o := 311) (n := 120) C (by decide +kernel) rfl (fun hinx15 x15 => ?_)
                refine zs_ldc2 (pc := 76) (i := 395) (v := (-1)) (x := (-1)) C (by decide +kernel) wf_2229 (by decide +kernel) ?_
                refine zs_jn (pJ := 107) (kJ := 0) (sJ := 0) (fun t16 => [(0, sR 287), (2, sI a1), (5, sI t8.2)]) (fun t16 => [sI t16]) (fun t16 => ?_) (fun J17 hJ17 => ?_)
                · refine zs_istore (pc := 107) (i := 4) (ls' := [(4, sI t16), (0, sR 287), (2, sI a1), (5, sI t8.2)]) C (by decide +kernel) (Nat.le_of_ble_eq_true rfl) rfl ?_
                  refine zs_iinc (pc := 109) (i := 5) (n := 1) (y := w32 (t8.2 + 1)) (ls' := [(5, sI (w32 (t8.2 + 1))), (4, sI t16), (0, sR 287), (2, sI a1)]) C (by decide +kernel) rfl rfl (Nat.le_of_ble_eq_true rfl) rfl ?_
                  refine zs_goto (pc := 112) (off := (-64)) (tgt := 48) C (by decide +kernel) (by decide) ?_
                  exact zs_goj (hK9 (t16, w32 (t8.2 + 1))) ⟨rfl, rfl, rfl, rfl, trivial⟩
                · refine zs_jn (pJ := 102) (kJ := 0) (sJ := 0) (fun t18 => [(0, sR 287), (2, sI a1), (5, sI t8.2)]) (fun t18 => []) (fun t18 => ?_) (fun J19 hJ19 => ?_)
                  · refine zs_iconst (pc := 102) (n := 1) (x := 1) C (by decide +kernel) (by decide +kernel) ?_
                    refine zs_goto (pc := 103) (off := 4) (tgt := 107) C (by decide +kernel) (by decide) ?_
                    exact zs_goj (hJ17 1) ⟨rfl, rfl, rfl, trivial⟩
                  · refine zs_lcmp_eq (pc := 79) (off := 22) (tgt := 102) C (by decide +kernel) (by decide +kernel) (by decide) ?_ ?_
                    · exact zs_goj (hJ19 ()) ⟨rfl, rfl, rfl, trivial⟩
                    · refine zs_aload_n (pc := 83) (k := 0) (i := 0) C (by decide +kernel) rfl rfl ?_
                      refine zs_aload_n (pc := 84) (k := 0) (i := 0) C (by decide +kernel) rfl rfl ?_
                      refine zs_getR (o' := 311) (pc := 85) (i := 85) (ci := 12) (k := 41) C (by decide +kernel) fl_RX12_85 rfl rfl rfl ?_
                      refine zs_bipush (pc := 88) (n := 30) (x := 30) C (by decide +kernel) (by decide +kernel) ?_
                      refine zs_iload_n (pc := 90) (k := 2) (i := 2) C (by decide +kernel) rfl rfl ?_
                      refine zs_imul (pc := 91) C (by decide +kernel) ?_
                      refine zs_iload (pc := 92) (i := 5) C (by decide +kernel) rfl ?_
                      refine zs_iadd (pc := 94) C (by decide +kernel) ?_
                      refine zs_lald (pc := 95) (o := 311) (n := 120) C (by decide +kernel) rfl (fun hinx20 x20 => ?_)
                      refine zs_cvRi (pc := 96) (As := [sL x20]) (st := []) C (Or.inr rfl) (c_X12_isPlace l g x20) ml_RX12_334 rfl rfl rfl rfl (Nat.le_of_ble_eq_true rfl) ⟨Nat.le_of_ble_eq_true rfl, Nat.le_of_ble_eq_true rfl⟩ ⟨Nat.le_of_ble_eq_true rfl, Nat.le_of_ble_eq_true rfl⟩ (by decide +kernel) (fun x21 => ?_)
                      refine zs_if_eq (pc := 99) (off := 7) (tgt := 106) C (by decide +kernel) (by decide) ?_ ?_
                      · refine zs_iconst (pc := 106) (n := 0) (x := 0) C (by decide +kernel) (by decide +kernel) ?_
                        exact zs_goj (hJ17 0) ⟨rfl, rfl, rfl, trivial⟩
                      · exact zs_goj (hJ19 ()) ⟨rfl, rfl, rfl, trivial⟩
        · refine zs_iconst (pc := 28) (n := 2) (x := 2) C (by decide +kernel) (by decide +kernel) ?_
          exact zs_retRi (pc := 29) C hr ⟨Nat.le_of_ble_eq_true rfl, Nat.le_of_ble_eq_true rfl⟩ (by decide +kernel)
      · exact zs_goj (hJ3 ()) trivial
set_option maxRecDepth 20000 in
theorem c_X12_other (l : Launch) (g : GC) (a0 : Int) (a1 : Int) : ConW l g yX12_other cX12_other 5 (some .int) (rmd 8 0 0) [sR 287, sI a0, sI a1] (fun mm => fX12_other a0 a1 mm) := by
  refine zs_ofW (by decide +kernel) (Nat.le_of_ble_eq_true rfl) ?_
  intro p e s m args below meth c C hr
  replace C : Bd g RX12 cX12_other 5 p s m args meth c := C
  unfold fX12_other
  refine zs_aload_n (pc := 0) (k := 0) (i := 0) C (by decide +kernel) rfl rfl ?_
  refine zs_aload_n (pc := 1) (k := 0) (i := 0) C (by decide +kernel) rfl rfl ?_
  refine zs_iload_n (pc := 2) (k := 1) (i := 1) C (by decide +kernel) rfl rfl ?_
  refine zs_iload_n (pc := 3) (k := 2) (i := 2) C (by decide +kernel) rfl rfl ?_
  refine zs_bipush (pc := 4) (n := 20) (x := 20) C (by decide +kernel) (by decide +kernel) ?_
  refine zs_cvRi (pc := 6) (As := [sI a0, sI a1, sI 20]) (st := [sR 287]) C (Or.inl rfl) (c_X12_watchedFault l g a0 a1 20) ml_RX12_548 rfl rfl rfl rfl (Nat.le_of_ble_eq_true rfl) ⟨Nat.le_of_ble_eq_true rfl, Nat.le_of_ble_eq_true rfl⟩ ⟨Nat.le_of_ble_eq_true rfl, Nat.le_of_ble_eq_true rfl⟩ (by decide +kernel) (fun x1 => ?_)
  refine zs_putI (pc := 9) (i := 88) (ci := 12) (k := 4) C (fun _ _ _ => rfl) (by decide +kernel) fl_RX12_88 fw_12_4 rfl rfl ?_
  refine zs_aload_n (pc := 12) (k := 0) (i := 0) C (by decide +kernel) rfl rfl ?_
  refine zs_getI (pc := 13) (i := 88) (ci := 12) (k := 4) C (by decide +kernel) fl_RX12_88 rfl rfl (fun x2 => ?_)
  refine zs_if_le (pc := 16) (off := 5) (tgt := 21) C (by decide +kernel) (by decide) ?_ ?_
  · refine zs_aload_n (pc := 21) (k := 0) (i := 0) C (by decide +kernel) rfl rfl ?_
    refine zs_iload_n (pc := 22) (k := 1) (i := 1) C (by decide +kernel) rfl rfl ?_
    refine zs_cvVv (pc := 23) (As := [sI a0]) (st := []) C (fun _ _ _ => rfl) (c_X12_beginsCount l g a0) ml_RX12_496 rfl rfl rfl rfl (Nat.le_of_ble_eq_true rfl) ⟨Nat.le_of_ble_eq_true rfl, Nat.le_of_ble_eq_true rfl⟩ ⟨Nat.le_of_ble_eq_true rfl, Nat.le_of_ble_eq_true rfl⟩ (by decide +kernel) ?_
    refine zs_iconst (pc := 26) (n := 0) (x := 0) C (by decide +kernel) (by decide +kernel) ?_
    refine zs_istore_n (pc := 27) (k := 3) (i := 3) (ls' := [(3, sI 0), (0, sR 287), (1, sI a0), (2, sI a1)]) C (by decide +kernel) rfl (Nat.le_of_ble_eq_true rfl) rfl ?_
    refine zs_sub (ls' := [(0, sR 287), (2, sI a1), (3, sI 0)]) ⟨rfl, rfl, rfl, trivial⟩ ?_
    refine zs_lp (pc := 28) (fun (t3 : Int) => [(0, sR 287), (2, sI a1), (3, sI t3)]) (fun _ => []) (fun K4 hK4 t3 => ?_) BIG 0
    refine zs_iload_n (pc := 28) (k := 3) (i := 3) C (by decide +kernel) rfl rfl ?_
    refine zs_aload_n (pc := 29) (k := 0) (i := 0) C (by decide +kernel) rfl rfl ?_
    refine zs_getR (o' := 310) (pc := 30) (i := 82) (ci := 12) (k := 40) C (by decide +kernel) fl_RX12_82 rfl rfl rfl ?_
    refine zs_iload_n (pc := 33) (k := 2) (i := 2) C (by decide +kernel) rfl rfl ?_
    refine zs_iald (pc := 34) (o := 310) (n := 4) C (by decide +kernel) rfl (fun hinx5 x5 => ?_)
    refine zs_icmp_ge (pc := 35) (off := 62) (tgt := 97) C (by decide +kernel) (by decide) ?_ ?_
    · refine zs_iconst (pc := 97) (n := 0) (x := 0) C (by decide +kernel) (by decide +kernel) ?_
      refine zs_istore_n (pc := 98) (k := 3) (i := 3) (ls' := [(3, sI 0), (0, sR 287), (2, sI a1)]) C (by decide +kernel) rfl (Nat.le_of_ble_eq_true rfl) rfl ?_
      refine zs_iconst (pc := 99) (n := 0) (x := 0) C (by decide +kernel) (by decide +kernel) ?_
      refine zs_istore (pc := 100) (i := 4) (ls' := [(4, sI 0), (3, sI 0), (0, sR 287), (2, sI a1)]) C (by decide +kernel) (Nat.le_of_ble_eq_true rfl) rfl ?_
      refine zs_sub (ls' := [(0, sR 287), (3, sI 0), (4, sI 0)]) ⟨rfl, rfl, rfl, trivial⟩ ?_
      refine zs_lp (pc := 102) (fun (t6 : Int × Int) => [(0, sR 287), (3, sI t6.1), (4, sI t6.2)]) (fun _ => []) (fun K7 hK7 t6 => ?_) BIG (0, 0)
      refine zs_iload (pc := 102) (i := 4) C (by decide +kernel) rfl ?_
      refine zs_sipush (pc := 104) (n := 625) (x := 625) C (by decide +kernel) (by decide +kernel) ?_
      refine zs_icmp_ge (pc := 107) (off := 35) (tgt := 142) C (by decide +kernel) (by decide) ?_ ?_
      · refine zs_iload_n (pc := 142) (k := 3) (i := 3) C (by decide +kernel) rfl rfl ?_
        exact zs_retWi (pc := 143) C hr ⟨Nat.le_of_ble_eq_true rfl, Nat.le_of_ble_eq_true rfl⟩ (by decide +kernel)
      · refine zs_iload_n (pc := 110) (k := 3) (i := 3) C (by decide +kernel) rfl rfl ?_
        refine zs_aload_n (pc := 111) (k := 0) (i := 0) C (by decide +kernel) rfl rfl ?_
        refine zs_getR (o' := 303) (pc := 112) (i := 60) (ci := 12) (k := 31) C (by decide +kernel) fl_RX12_60 rfl rfl rfl ?_
        refine zs_iload (pc := 115) (i := 4) C (by decide +kernel) rfl ?_
        refine zs_lald (pc := 117) (o := 303) (n := 625) C (by decide +kernel) rfl (fun hinx8 x8 => ?_)
        refine zs_lconst (pc := 118) (n := 0) (x := 0) C (by decide +kernel) (by decide +kernel) ?_
        refine zs_jn (pJ := 134) (kJ := 0) (sJ := 0) (fun t9 => [(0, sR 287), (4, sI t6.2)]) (fun t9 => [sI t9, sI t6.1]) (fun t9 => ?_) (fun J10 hJ10 => ?_)
        · refine zs_ior (pc := 134) C (by decide +kernel) ?_
          refine zs_let (fun x11 => ?_)
          refine zs_istore_n (pc := 135) (k := 3) (i := 3) (ls' := [(3, sI x11), (0, sR 287), (4, sI t6.2)]) C (by decide +kernel) rfl (Nat.le_of_ble_eq_true rfl) rfl ?_
          refine zs_iinc (pc := 136) (i := 4) (n := 1) (y := w32 (t6.2 + 1)) (ls' := [(4, sI (w32 (t6.2 + 1))), (3, sI x11), (0, sR 287)]) C (by decide +kernel) rfl rfl (Nat.le_of_ble_eq_true rfl) rfl ?_
          refine zs_goto (pc := 139) (off := (-37)) (tgt := 102) C (by decide +kernel) (by decide) ?_
          exact zs_goj (hK7 (x11, w32 (t6.2 + 1))) ⟨rfl, rfl, rfl, trivial⟩
        · refine zs_lcmp_le (pc := 119) (off := 13) (tgt := 133) C (by decide +kernel) (by decide +kernel) (by decide) ?_ ?_
          · refine zs_iconst (pc := 133) (n := 0) (x := 0) C (by decide +kernel) (by decide +kernel) ?_
            exact zs_goj (hJ10 0) ⟨rfl, rfl, trivial⟩
          · refine zs_iconst (pc := 123) (n := 1) (x := 1) C (by decide +kernel) (by decide +kernel) ?_
            refine zs_iload (pc := 124) (i := 4) C (by decide +kernel) rfl ?_
            refine zs_bipush (pc := 126) (n := 25) (x := 25) C (by decide +kernel) (by decide +kernel) ?_
            refine zs_irem (pc := 128) C (by decide +kernel) (by decide +kernel) ?_
            refine zs_ishl (pc := 129) C (by decide +kernel) ?_
            refine zs_goto (pc := 130) (off := 4) (tgt := 134) C (by decide +kernel) (by decide) ?_
            exact zs_goj (hJ10 (ishl 1 (Int.tmod t6.2 25))) ⟨rfl, rfl, trivial⟩
    · refine zs_aload_n (pc := 38) (k := 0) (i := 0) C (by decide +kernel) rfl rfl ?_
      refine zs_iload_n (pc := 39) (k := 3) (i := 3) C (by decide +kernel) rfl rfl ?_
      refine zs_iconst (pc := 40) (n := 1) (x := 1) C (by decide +kernel) (by decide +kernel) ?_
      refine zs_iadd (pc := 41) C (by decide +kernel) ?_
      refine zs_aload_n (pc := 42) (k := 0) (i := 0) C (by decide +kernel) rfl rfl ?_
      refine zs_getR (o' := 311) (pc := 43) (i := 85) (ci := 12) (k := 41) C (by decide +kernel) fl_RX12_85 rfl rfl rfl ?_
      refine zs_bipush (pc := 46) (n := 30) (x := 30) C (by decide +kernel) (by decide +kernel) ?_
      refine zs_iload_n (pc := 48) (k := 2) (i := 2) C (by decide +kernel) rfl rfl ?_
      refine zs_imul (pc := 49) C (by decide +kernel) ?_
      refine zs_iload_n (pc := 50) (k := 3) (i := 3) C (by decide +kernel) rfl rfl ?_
      refine zs_iadd (pc := 51) C (by decide +kernel) ?_
      refine zs_lald (pc := 52) (o := 311) (n := 120) C (by decide +kernel) rfl (fun hinx12 x12 => ?_)
      refine zs_cvVv (pc := 53) (As := [sI (w32 (t3 + 1)), sL x12]) (st := []) C (fun _ _ _ => rfl) (c_X12_countsOn l g (w32 (t3 + 1)) x12) ml_RX12_499 rfl rfl rfl rfl (Nat.le_of_ble_eq_true rfl) ⟨Nat.le_of_ble_eq_true rfl, Nat.le_of_ble_eq_true rfl⟩ ⟨Nat.le_of_ble_eq_true rfl, Nat.le_of_ble_eq_true rfl⟩ (by decide +kernel) ?_
      refine zs_iconst (pc := 56) (n := 0) (x := 0) C (by decide +kernel) (by decide +kernel) ?_
      refine zs_istore (pc := 57) (i := 4) (ls' := [(4, sI 0), (0, sR 287), (2, sI a1), (3, sI t3)]) C (by decide +kernel) (Nat.le_of_ble_eq_true rfl) rfl ?_
      refine zs_sub (ls' := [(0, sR 287), (2, sI a1), (3, sI t3), (4, sI 0)]) ⟨rfl, rfl, rfl, rfl, trivial⟩ ?_
      refine zs_lp (pc := 59) (fun (t13 : Int) => [(0, sR 287), (2, sI a1), (3, sI t3), (4, sI t13)]) (fun _ => []) (fun K14 hK14 t13 => ?_) BIG 0
      refine zs_iload (pc := 59) (i := 4) C (by decide +kernel) rfl ?_
      refine zs_sipush (pc := 61) (n := 625) (x := 625) C (by decide +kernel) (by decide +kernel) ?_
      refine zs_icmp_ge (pc := 64) (off := 27) (tgt := 91) C (by decide +kernel) (by decide) ?_ ?_
      · refine zs_iinc (pc := 91) (i := 3) (n := 1) (y := w32 (t3 + 1)) (ls' := [(3, sI (w32 (t3 + 1))), (0, sR 287), (2, sI a1), (4, sI t13)]) C (by decide +kernel) rfl rfl (Nat.le_of_ble_eq_true rfl) rfl ?_
        refine zs_goto (pc := 94) (off := (-66)) (tgt := 28) C (by decide +kernel) (by decide) ?_
        exact zs_goj (hK4 (w32 (t3 + 1))) ⟨rfl, rfl, rfl, trivial⟩
      · refine zs_aload_n (pc := 67) (k := 0) (i := 0) C (by decide +kernel) rfl rfl ?_
        refine zs_getR (o' := 303) (pc := 68) (i := 60) (ci := 12) (k := 31) C (by decide +kernel) fl_RX12_60 rfl rfl rfl ?_
        refine zs_iload (pc := 71) (i := 4) C (by decide +kernel) rfl ?_
        refine zs_lconst (pc := 73) (n := 1) (x := 1) C (by decide +kernel) (by decide +kernel) ?_
        refine zs_aload_n (pc := 74) (k := 0) (i := 0) C (by decide +kernel) rfl rfl ?_
        refine zs_getR (o' := 303) (pc := 75) (i := 60) (ci := 12) (k := 31) C (by decide +kernel) fl_RX12_60 rfl rfl rfl ?_
        refine zs_iload (pc := 78) (i := 4) C (by decide +kernel) rfl ?_
        refine zs_lald (pc := 80) (o := 303) (n := 625) C (by decide +kernel) rfl (fun hinx15 x15 => ?_)
        refine zs_mminL (pc := 81) (idx := 305) C wf_2128 wf_1682 wf_166 wf_1683 ⟨Nat.le_of_ble_eq_true rfl, Nat.le_of_ble_eq_true rfl, Nat.zero_le _, Nat.zero_le _⟩ (by decide +kernel) ?_
        refine zs_last (pc := 84) (o := 303) (n := 625) C (fun _ _ _ => rfl) (by decide +kernel) rfl ?_
        refine zs_iinc (pc := 85) (i := 4) (n := 1) (y := w32 (t13 + 1)) (ls' := [(4, sI (w32 (t13 + 1))), (0, sR 287), (2, sI a1), (3, sI t3)]) C (by decide +kernel) rfl rfl (Nat.le_of_ble_eq_true rfl) rfl ?_
        refine zs_goto (pc := 88) (off := (-29)) (tgt := 59) C (by decide +kernel) (by decide) ?_
        exact zs_goj (hK14 (w32 (t13 + 1))) ⟨rfl, rfl, rfl, rfl, trivial⟩
  · refine zs_iconst (pc := 19) (n := 0) (x := 0) C (by decide +kernel) (by decide +kernel) ?_
    exact zs_retWi (pc := 20) C hr ⟨Nat.le_of_ble_eq_true rfl, Nat.le_of_ble_eq_true rfl⟩ (by decide +kernel)
set_option maxRecDepth 20000 in
theorem c_X12_countsFits (l : Launch) (g : GC) (a0 : Int) (a1 : Int) : ConW l g yX12_countsFits cX12_countsFits 6 (some .long) (rmd 8 0 0) [sR 287, sI a0, sI a1] (fun mm => fX12_countsFits a0 a1 mm) := by
  refine zs_ofW (by decide +kernel) (Nat.le_of_ble_eq_true rfl) ?_
  intro p e s m args below meth c C hr
  replace C : Bd g RX12 cX12_countsFits 6 p s m args meth c := C
  unfold fX12_countsFits
  refine zs_aload_n (pc := 0) (k := 0) (i := 0) C (by decide +kernel) rfl rfl ?_
  refine zs_iload_n (pc := 1) (k := 1) (i := 1) C (by decide +kernel) rfl rfl ?_
  refine zs_cvVv (pc := 2) (As := [sI a0]) (st := []) C (fun _ _ _ => rfl) (c_X12_beginsCount l g a0) ml_RX12_496 rfl rfl rfl rfl (Nat.le_of_ble_eq_true rfl) ⟨Nat.le_of_ble_eq_true rfl, Nat.le_of_ble_eq_true rfl⟩ ⟨Nat.le_of_ble_eq_true rfl, Nat.le_of_ble_eq_true rfl⟩ (by decide +kernel) ?_
  refine zs_iconst (pc := 5) (n := 0) (x := 0) C (by decide +kernel) (by decide +kernel) ?_
  refine zs_istore_n (pc := 6) (k := 3) (i := 3) (ls' := [(3, sI 0), (0, sR 287), (1, sI a0), (2, sI a1)]) C (by decide +kernel) rfl (Nat.le_of_ble_eq_true rfl) rfl ?_
  refine zs_sub (ls' := [(0, sR 287), (2, sI a1), (3, sI 0)]) ⟨rfl, rfl, rfl, trivial⟩ ?_
  refine zs_lp (pc := 7) (fun (t1 : Int) => [(0, sR 287), (2, sI a1), (3, sI t1)]) (fun _ => []) (fun K2 hK2 t1 => ?_) BIG 0
  refine zs_iload_n (pc := 7) (k := 3) (i := 3) C (by decide +kernel) rfl rfl ?_
  refine zs_aload_n (pc := 8) (k := 0) (i := 0) C (by decide +kernel) rfl rfl ?_
  refine zs_getR (o' := 310) (pc := 9) (i := 82) (ci := 12) (k := 40) C (by decide +kernel) fl_RX12_82 rfl rfl rfl ?_
  refine zs_iload_n (pc := 12) (k := 2) (i := 2) C (by decide +kernel) rfl rfl ?_
  refine zs_iald (pc := 13) (o := 310) (n := 4) C (by decide +kernel) rfl (fun hinx3 x3 => ?_)
  refine zs_icmp_ge (pc := 14) (off := 27) (tgt := 41) C (by decide +kernel) (by decide) ?_ ?_
  · refine zs_lconst (pc := 41) (n := 0) (x := 0) C (by decide +kernel) (by decide +kernel) ?_
    refine zs_lstore_n (pc := 42) (k := 3) (i := 3) (ls' := [(3, sL 0), (0, sR 287), (2, sI a1)]) C (by decide +kernel) rfl (Nat.le_of_ble_eq_true rfl) rfl ?_
    refine zs_iconst (pc := 43) (n := 0) (x := 0) C (by decide +kernel) (by decide +kernel) ?_
    refine zs_istore (pc := 44) (i := 5) (ls' := [(5, sI 0), (3, sL 0), (0, sR 287), (2, sI a1)]) C (by decide +kernel) (Nat.le_of_ble_eq_true rfl) rfl ?_
    refine zs_sub (ls' := [(0, sR 287), (3, sL 0), (5, sI 0)]) ⟨rfl, rfl, rfl, trivial⟩ ?_
    refine zs_lp (pc := 46) (fun (t4 : Int × Int) => [(0, sR 287), (3, sL t4.1), (5, sI t4.2)]) (fun _ => []) (fun K5 hK5 t4 => ?_) BIG (0, 0)
    refine zs_iload (pc := 46) (i := 5) C (by decide +kernel) rfl ?_
    refine zs_sipush (pc := 48) (n := 625) (x := 625) C (by decide +kernel) (by decide +kernel) ?_
    refine zs_icmp_ge (pc := 51) (off := 19) (tgt := 70) C (by decide +kernel) (by decide) ?_ ?_
    · refine zs_lload_n (pc := 70) (k := 3) (i := 3) C (by decide +kernel) rfl rfl ?_
      exact zs_retWl (pc := 71) C hr ⟨Nat.le_of_ble_eq_true rfl, Nat.le_of_ble_eq_true rfl⟩ (by decide +kernel)
    · refine zs_lload_n (pc := 54) (k := 3) (i := 3) C (by decide +kernel) rfl rfl ?_
      refine zs_aload_n (pc := 55) (k := 0) (i := 0) C (by decide +kernel) rfl rfl ?_
      refine zs_getR (o' := 303) (pc := 56) (i := 60) (ci := 12) (k := 31) C (by decide +kernel) fl_RX12_60 rfl rfl rfl ?_
      refine zs_iload (pc := 59) (i := 5) C (by decide +kernel) rfl ?_
      refine zs_lald (pc := 61) (o := 303) (n := 625) C (by decide +kernel) rfl (fun hinx6 x6 => ?_)
      refine zs_ladd (pc := 62) C (by decide +kernel) ?_
      refine zs_letL (fun x7 => ?_)
      refine zs_lstore_n (pc := 63) (k := 3) (i := 3) (ls' := [(3, sL x7), (0, sR 287), (5, sI t4.2)]) C (by decide +kernel) rfl (Nat.le_of_ble_eq_true rfl) rfl ?_
      refine zs_iinc (pc := 64) (i := 5) (n := 1) (y := w32 (t4.2 + 1)) (ls' := [(5, sI (w32 (t4.2 + 1))), (3, sL x7), (0, sR 287)]) C (by decide +kernel) rfl rfl (Nat.le_of_ble_eq_true rfl) rfl ?_
      refine zs_goto (pc := 67) (off := (-21)) (tgt := 46) C (by decide +kernel) (by decide) ?_
      exact zs_goj (hK5 (x7, w32 (t4.2 + 1))) ⟨rfl, rfl, rfl, trivial⟩
  · refine zs_aload_n (pc := 17) (k := 0) (i := 0) C (by decide +kernel) rfl rfl ?_
    refine zs_iload_n (pc := 18) (k := 3) (i := 3) C (by decide +kernel) rfl rfl ?_
    refine zs_iconst (pc := 19) (n := 1) (x := 1) C (by decide +kernel) (by decide +kernel) ?_
    refine zs_iadd (pc := 20) C (by decide +kernel) ?_
    refine zs_aload_n (pc := 21) (k := 0) (i := 0) C (by decide +kernel) rfl rfl ?_
    refine zs_getR (o' := 311) (pc := 22) (i := 85) (ci := 12) (k := 41) C (by decide +kernel) fl_RX12_85 rfl rfl rfl ?_
    refine zs_bipush (pc := 25) (n := 30) (x := 30) C (by decide +kernel) (by decide +kernel) ?_
    refine zs_iload_n (pc := 27) (k := 2) (i := 2) C (by decide +kernel) rfl rfl ?_
    refine zs_imul (pc := 28) C (by decide +kernel) ?_
    refine zs_iload_n (pc := 29) (k := 3) (i := 3) C (by decide +kernel) rfl rfl ?_
    refine zs_iadd (pc := 30) C (by decide +kernel) ?_
    refine zs_lald (pc := 31) (o := 311) (n := 120) C (by decide +kernel) rfl (fun hinx8 x8 => ?_)
    refine zs_cvVv (pc := 32) (As := [sI (w32 (t1 + 1)), sL x8]) (st := []) C (fun _ _ _ => rfl) (c_X12_countsOn l g (w32 (t1 + 1)) x8) ml_RX12_499 rfl rfl rfl rfl (Nat.le_of_ble_eq_true rfl) ⟨Nat.le_of_ble_eq_true rfl, Nat.le_of_ble_eq_true rfl⟩ ⟨Nat.le_of_ble_eq_true rfl, Nat.le_of_ble_eq_true rfl⟩ (by decide +kernel) ?_
    refine zs_iinc (pc := 35) (i := 3) (n := 1) (y := w32 (t1 + 1)) (ls' := [(3, sI (w32 (t1 + 1))), (0, sR 287), (2, sI a1)]) C (by decide +kernel) rfl rfl (Nat.le_of_ble_eq_true rfl) rfl ?_
    refine zs_goto (pc := 38) (off := (-31)) (tgt := 7) C (by decide +kernel) (by decide) ?_
    exact zs_goj (hK2 (w32 (t1 + 1))) ⟨rfl, rfl, rfl, trivial⟩
set_option maxRecDepth 20000 in
theorem c_X12_fits (l : Launch) (g : GC) (a0 : Int) (a1 : Int) : ConW l g yX12_fits cX12_fits 3 (some .long) (rmd 9 0 0) [sR 287, sI a0, sI a1] (fun mm => fX12_fits a0 a1 mm) := by
  refine zs_ofW (by decide +kernel) (Nat.le_of_ble_eq_true rfl) ?_
  intro p e s m args below meth c C hr
  replace C : Bd g RX12 cX12_fits 3 p s m args meth c := C
  unfold fX12_fits
  refine zs_aload_n (pc := 0) (k := 0) (i := 0) C (by decide +kernel) rfl rfl ?_
  refine zs_aload_n (pc := 1) (k := 0) (i := 0) C (by decide +kernel) rfl rfl ?_
  refine zs_iload_n (pc := 2) (k := 1) (i := 1) C (by decide +kernel) rfl rfl ?_
  refine zs_iload_n (pc := 3) (k := 2) (i := 2) C (by decide +kernel) rfl rfl ?_
  refine zs_bipush (pc := 4) (n := 8) (x := 8) C (by decide +kernel) (by decide +kernel) ?_
  refine zs_cvRi (pc := 6) (As := [sI a0, sI a1, sI 8]) (st := [sR 287]) C (Or.inl rfl) (c_X12_watchedFault l g a0 a1 8) ml_RX12_548 rfl rfl rfl rfl (Nat.le_of_ble_eq_true rfl) ⟨Nat.le_of_ble_eq_true rfl, Nat.le_of_ble_eq_true rfl⟩ ⟨Nat.le_of_ble_eq_true rfl, Nat.le_of_ble_eq_true rfl⟩ (by decide +kernel) (fun x1 => ?_)
  refine zs_putI (pc := 9) (i := 88) (ci := 12) (k := 4) C (fun _ _ _ => rfl) (by decide +kernel) fl_RX12_88 fw_12_4 rfl rfl ?_
  refine zs_aload_n (pc := 12) (k := 0) (i := 0) C (by decide +kernel) rfl rfl ?_
  refine zs_getI (pc := 13) (i := 88) (ci := 12) (k := 4) C (by decide +kernel) fl_RX12_88 rfl rfl (fun x2 => ?_)
  refine zs_jn (pJ := 29) (kJ := 0) (sJ := 0) (fun t3 => []) (fun t3 => [sL t3]) (fun t3 => ?_) (fun J4 hJ4 => ?_)
  · exact zs_retWl (pc := 29) C hr ⟨Nat.le_of_ble_eq_true rfl, Nat.le_of_ble_eq_true rfl⟩ (by decide +kernel)
  · refine zs_if_le (pc := 16) (off := 7) (tgt := 23) C (by decide +kernel) (by decide) ?_ ?_
    · refine zs_aload_n (pc := 23) (k := 0) (i := 0) C (by decide +kernel) rfl rfl ?_
      refine zs_iload_n (pc := 24) (k := 1) (i := 1) C (by decide +kernel) rfl rfl ?_
      refine zs_iload_n (pc := 25) (k := 2) (i := 2) C (by decide +kernel) rfl rfl ?_
      refine zs_cvWl (pc := 26) (As := [sI a0, sI a1]) (st := []) C (fun _ _ _ => rfl) (c_X12_countsFits l g a0 a1) ml_RX12_551 rfl rfl rfl rfl (Nat.le_of_ble_eq_true rfl) ⟨Nat.le_of_ble_eq_true rfl, Nat.le_of_ble_eq_true rfl⟩ ⟨Nat.le_of_ble_eq_true rfl, Nat.le_of_ble_eq_true rfl⟩ (by decide +kernel) (fun x5 => ?_)
      exact zs_goj (hJ4 x5) trivial
    · refine zs_lconst (pc := 19) (n := 0) (x := 0) C (by decide +kernel) (by decide +kernel) ?_
      refine zs_goto (pc := 20) (off := 9) (tgt := 29) C (by decide +kernel) (by decide) ?_
      exact zs_goj (hJ4 0) trivial
set_option maxRecDepth 20000 in
theorem c_X12_look (l : Launch) (g : GC) (a0 : Int) (a1 : Int) : ConW l g yX12_look cX12_look 13 (some .int) (rmd 9 0 0) [sR 287, sI a0, sI a1] (fun mm => fX12_look a0 a1 mm) := by
  refine zs_ofW (by decide +kernel) (Nat.le_of_ble_eq_true rfl) ?_
  intro p e s m args below meth c C hr
  replace C : Bd g RX12 cX12_look 13 p s m args meth c := C
  unfold fX12_look
  refine zs_aload_n (pc := 0) (k := 0) (i := 0) C (by decide +kernel) rfl rfl ?_
  refine zs_aload_n (pc := 1) (k := 0) (i := 0) C (by decide +kernel) rfl rfl ?_
  refine zs_iload_n (pc := 2) (k := 1) (i := 1) C (by decide +kernel) rfl rfl ?_
  refine zs_iload_n (pc := 3) (k := 2) (i := 2) C (by decide +kernel) rfl rfl ?_
  refine zs_bipush (pc := 4) (n := 8) (x := 8) C (by decide +kernel) (by decide +kernel) ?_
  refine zs_cvRi (pc := 6) (As := [sI a0, sI a1, sI 8]) (st := [sR 287]) C (Or.inl rfl) (c_X12_watchedFault l g a0 a1 8) ml_RX12_548 rfl rfl rfl rfl (Nat.le_of_ble_eq_true rfl) ⟨Nat.le_of_ble_eq_true rfl, Nat.le_of_ble_eq_true rfl⟩ ⟨Nat.le_of_ble_eq_true rfl, Nat.le_of_ble_eq_true rfl⟩ (by decide +kernel) (fun x1 => ?_)
  refine zs_putI (pc := 9) (i := 88) (ci := 12) (k := 4) C (fun _ _ _ => rfl) (by decide +kernel) fl_RX12_88 fw_12_4 rfl rfl ?_
  refine zs_aload_n (pc := 12) (k := 0) (i := 0) C (by decide +kernel) rfl rfl ?_
  refine zs_getI (pc := 13) (i := 88) (ci := 12) (k := 4) C (by decide +kernel) fl_RX12_88 rfl rfl (fun x2 => ?_)
  refine zs_if_le (pc := 16) (off := 5) (tgt := 21) C (by decide +kernel) (by decide) ?_ ?_
  · refine zs_aload_n (pc := 21) (k := 0) (i := 0) C (by decide +kernel) rfl rfl ?_
    refine zs_iload_n (pc := 22) (k := 1) (i := 1) C (by decide +kernel) rfl rfl ?_
    refine zs_iload_n (pc := 23) (k := 2) (i := 2) C (by decide +kernel) rfl rfl ?_
    refine zs_cvWl (pc := 24) (As := [sI a0, sI a1]) (st := []) C (fun _ _ _ => rfl) (c_X12_countsFits l g a0 a1) ml_RX12_551 rfl rfl rfl rfl (Nat.le_of_ble_eq_true rfl) ⟨Nat.le_of_ble_eq_true rfl, Nat.le_of_ble_eq_true rfl⟩ ⟨Nat.le_of_ble_eq_true rfl, Nat.le_of_ble_eq_true rfl⟩ (by decide +kernel) (fun x3 => ?_)
    refine zs_lstore_n (pc := 27) (k := 3) (i := 3) (ls' := [(3, sL x3), (0, sR 287), (1, sI a0), (2, sI a1)]) C (by decide +kernel) rfl (Nat.le_of_ble_eq_true rfl) rfl ?_
    refine zs_lload_n (pc := 28) (k := 3) (i := 3) C (by decide +kernel) rfl rfl ?_
    refine zs_lconst (pc := 29) (n := 0) (x := 0) C (by decide +kernel) (by decide +kernel) ?_
    refine zs_lcmp_ne (pc := 30) (off := 5) (tgt := 36) C (by decide +kernel) (by decide +kernel) (by decide) ?_ ?_
    · refine zs_iconst (pc := 36) (n := (-1)) (x := (-1)) C (by decide +kernel) (by decide +kernel) ?_
      refine zs_istore (pc := 37) (i := 5) (ls' := [(5, sI ((-1))), (3, sL x3), (0, sR 287), (1, sI a0), (2, sI a1)]) C (by decide +kernel) (Nat.le_of_ble_eq_true rfl) rfl ?_
      refine zs_ldc2 (pc := 39) (i := 395) (v := (-1)) (x := (-1)) C (by decide +kernel) wf_2229 (by decide +kernel) ?_
      refine zs_lstore (pc := 42) (i := 6) (ls' := [(6, sL ((-1))), (5, sI ((-1))), (3, sL x3), (0, sR 287), (1, sI a0), (2, sI a1)]) C (by decide +kernel) (Nat.le_of_ble_eq_true rfl) rfl ?_
      refine zs_iconst (pc := 44) (n := 0) (x := 0) C (by decide +kernel) (by decide +kernel) ?_
      refine zs_istore (pc := 45) (i := 8) (ls' := [(8, sI 0), (6, sL ((-1))), (5, sI ((-1))), (3, sL x3), (0, sR 287), (1, sI a0), (2, sI a1)]) C (by decide +kernel) (Nat.le_of_ble_eq_true rfl) rfl ?_
      refine zs_sub (ls' := [(0, sR 287), (3, sL x3), (5, sI ((-1))), (6, sL ((-1))), (8, sI 0)]) ⟨rfl, rfl, rfl, rfl, rfl, trivial⟩ ?_
      refine zs_lp (pc := 47) (fun (t4 : Int × Int × Int) => [(0, sR 287), (3, sL x3), (5, sI t4.1), (6, sL t4.2.1), (8, sI t4.2.2)]) (fun _ => []) (fun K5 hK5 t4 => ?_) BIG ((-1), (-1), 0)
      refine zs_iload (pc := 47) (i := 8) C (by decide +kernel) rfl ?_
      refine zs_aload_n (pc := 49) (k := 0) (i := 0) C (by decide +kernel) rfl rfl ?_
      refine zs_cvRi (pc := 50) (As := []) (st := [sI t4.2.2]) C (Or.inl rfl) (c_X12_places l g ) ml_RX12_290 rfl rfl rfl rfl (Nat.le_of_ble_eq_true rfl) ⟨Nat.le_of_ble_eq_true rfl, Nat.le_of_ble_eq_true rfl⟩ ⟨Nat.le_of_ble_eq_true rfl, Nat.le_of_ble_eq_true rfl⟩ (by decide +kernel) (fun x6 => ?_)
      refine zs_icmp_ge (pc := 53) (off := 76) (tgt := 129) C (by decide +kernel) (by decide) ?_ ?_
      · refine zs_iload (pc := 129) (i := 5) C (by decide +kernel) rfl ?_
        exact zs_retWi (pc := 131) C hr ⟨Nat.le_of_ble_eq_true rfl, Nat.le_of_ble_eq_true rfl⟩ (by decide +kernel)
      · refine zs_lconst (pc := 56) (n := 0) (x := 0) C (by decide +kernel) (by decide +kernel) ?_
        refine zs_lstore (pc := 57) (i := 9) (ls' := [(9, sL 0), (0, sR 287), (3, sL x3), (5, sI t4.1), (6, sL t4.2.1), (8, sI t4.2.2)]) C (by decide +kernel) (Nat.le_of_ble_eq_true rfl) rfl ?_
        refine zs_iconst (pc := 59) (n := 0) (x := 0) C (by decide +kernel) (by decide +kernel) ?_
        refine zs_istore (pc := 60) (i := 11) (ls' := [(11, sI 0), (9, sL 0), (0, sR 287), (3, sL x3), (5, sI t4.1), (6, sL t4.2.1), (8, sI t4.2.2)]) C (by decide +kernel) (Nat.le_of_ble_eq_true rfl) rfl ?_
        refine zs_sub (ls' := [(0, sR 287), (3, sL x3), (5, sI t4.1), (6, sL t4.2.1), (8, sI t4.2.2), (9, sL 0), (11, sI 0)]) ⟨rfl, rfl, rfl, rfl, rfl, rfl, rfl, trivial⟩ ?_
        refine zs_lp (pc := 62) (fun (t7 : Int × Int) => [(0, sR 287), (3, sL x3), (5, sI t4.1), (6, sL t4.2.1), (8, sI t4.2.2), (9, sL t7.1), (11, sI t7.2)]) (fun _ => []) (fun K8 hK8 t7 => ?_) BIG (0, 0)
        refine zs_iload (pc := 62) (i := 11) C (by decide +kernel) rfl ?_
        refine zs_bipush (pc := 64) (n := 25) (x := 25) C (by decide +kernel) (by decide +kernel) ?_
        refine zs_icmp_ge (pc := 66) (off := 27) (tgt := 93) C (by decide +kernel) (by decide) ?_ ?_
        · refine zs_lload (pc := 93) (i := 9) C (by decide +kernel) rfl ?_
          refine zs_lload_n (pc := 95) (k := 3) (i := 3) C (by decide +kernel) rfl rfl ?_
          refine zs_lload (pc := 96) (i := 9) C (by decide +kernel) rfl ?_
          refine zs_lsub (pc := 98) C (by decide +kernel) ?_
          refine zs_mminL (pc := 99) (idx := 305) C wf_2128 wf_1682 wf_166 wf_1683 ⟨Nat.le_of_ble_eq_true rfl, Nat.le_of_ble_eq_true rfl, Nat.zero_le _, Nat.zero_le _⟩ (by decide +kernel) ?_
          refine zs_letL (fun x9 => ?_)
          refine zs_lstore (pc := 102) (i := 11) (ls' := [(11, sL x9), (0, sR 287), (3, sL x3), (5, sI t4.1), (6, sL t4.2.1), (8, sI t4.2.2), (9, sL t7.1)]) C (by decide +kernel) (Nat.le_of_ble_eq_true rfl) rfl ?_
          refine zs_lload (pc := 104) (i := 11) C (by decide +kernel) rfl ?_
          refine zs_lload (pc := 106) (i := 6) C (by decide +kernel) rfl ?_
          refine zs_jn (pJ := 123) (kJ := 0) (sJ := 0) (fun t10 => [(0, sR 287), (3, sL x3), (5, sI t10.1), (6, sL t10.2), (8, sI t4.2.2)]) (fun t10 => []) (fun t10 => ?_) (fun J11 hJ11 => ?_)
          · refine zs_iinc (pc := 123) (i := 8) (n := 1) (y := w32 (t4.2.2 + 1)) (ls' := [(8, sI (w32 (t4.2.2 + 1))), (0, sR 287), (3, sL x3), (5, sI t10.1), (6, sL t10.2)]) C (by decide +kernel) rfl rfl (Nat.le_of_ble_eq_true rfl) rfl ?_
            refine zs_goto (pc := 126) (off := (-79)) (tgt := 47) C (by decide +kernel) (by decide) ?_
            exact zs_goj (hK5 (t10.1, t10.2, w32 (t4.2.2 + 1))) ⟨rfl, rfl, rfl, rfl, rfl, trivial⟩
          · refine zs_lcmp_gt (pc := 108) (off := 6) (tgt := 115) C (by decide +kernel) (by decide +kernel) (by decide) ?_ ?_
            · refine zs_iload (pc := 115) (i := 8) C (by decide +kernel) rfl ?_
              refine zs_istore (pc := 117) (i := 5) (ls' := [(5, sI t4.2.2), (11, sL x9), (0, sR 287), (3, sL x3), (6, sL t4.2.1), (8, sI t4.2.2), (9, sL t7.1)]) C (by decide +kernel) (Nat.le_of_ble_eq_true rfl) rfl ?_
              refine zs_lload (pc := 119) (i := 11) C (by decide +kernel) rfl ?_
              refine zs_lstore (pc := 121) (i := 6) (ls' := [(6, sL x9), (5, sI t4.2.2), (11, sL x9), (0, sR 287), (3, sL x3), (8, sI t4.2.2), (9, sL t7.1)]) C (by decide +kernel) (Nat.le_of_ble_eq_true rfl) rfl ?_
              exact zs_goj (hJ11 (t4.2.2, x9)) ⟨rfl, rfl, rfl, rfl, rfl, trivial⟩
            · refine zs_goto (pc := 112) (off := 11) (tgt := 123) C (by decide +kernel) (by decide) ?_
              exact zs_goj (hJ11 (t4.1, t4.2.1)) ⟨rfl, rfl, rfl, rfl, rfl, trivial⟩
        · refine zs_lload (pc := 69) (i := 9) C (by decide +kernel) rfl ?_
          refine zs_aload_n (pc := 71) (k := 0) (i := 0) C (by decide +kernel) rfl rfl ?_
          refine zs_getR (o' := 303) (pc := 72) (i := 60) (ci := 12) (k := 31) C (by decide +kernel) fl_RX12_60 rfl rfl rfl ?_
          refine zs_bipush (pc := 75) (n := 25) (x := 25) C (by decide +kernel) (by decide +kernel) ?_
          refine zs_iload (pc := 77) (i := 11) C (by decide +kernel) rfl ?_
          refine zs_imul (pc := 79) C (by decide +kernel) ?_
          refine zs_iload (pc := 80) (i := 8) C (by decide +kernel) rfl ?_
          refine zs_iadd (pc := 82) C (by decide +kernel) ?_
          refine zs_lald (pc := 83) (o := 303) (n := 625) C (by decide +kernel) rfl (fun hinx12 x12 => ?_)
          refine zs_ladd (pc := 84) C (by decide +kernel) ?_
          refine zs_letL (fun x13 => ?_)
          refine zs_lstore (pc := 85) (i := 9) (ls' := [(9, sL x13), (0, sR 287), (3, sL x3), (5, sI t4.1), (6, sL t4.2.1), (8, sI t4.2.2), (11, sI t7.2)]) C (by decide +kernel) (Nat.le_of_ble_eq_true rfl) rfl ?_
          refine zs_iinc (pc := 87) (i := 11) (n := 1) (y := w32 (t7.2 + 1)) (ls' := [(11, sI (w32 (t7.2 + 1))), (9, sL x13), (0, sR 287), (3, sL x3), (5, sI t4.1), (6, sL t4.2.1), (8, sI t4.2.2)]) C (by decide +kernel) rfl rfl (Nat.le_of_ble_eq_true rfl) rfl ?_
          refine zs_goto (pc := 90) (off := (-28)) (tgt := 62) C (by decide +kernel) (by decide) ?_
          exact zs_goj (hK8 (x13, w32 (t7.2 + 1))) ⟨rfl, rfl, rfl, rfl, rfl, rfl, rfl, trivial⟩
    · refine zs_iconst (pc := 34) (n := (-1)) (x := (-1)) C (by decide +kernel) (by decide +kernel) ?_
      exact zs_retWi (pc := 35) C hr ⟨Nat.le_of_ble_eq_true rfl, Nat.le_of_ble_eq_true rfl⟩ (by decide +kernel)
  · refine zs_iconst (pc := 19) (n := 0) (x := 0) C (by decide +kernel) (by decide +kernel) ?_
    exact zs_retWi (pc := 20) C hr ⟨Nat.le_of_ble_eq_true rfl, Nat.le_of_ble_eq_true rfl⟩ (by decide +kernel)
set_option maxRecDepth 20000 in
theorem c_X12_tray (l : Launch) (g : GC) (a0 : Int) (a1 : Int) (a2 : Int) : ConV l g yX12_tray cX12_tray 5 (rmd 3 0 0) [sR 287, sI a0, sI a1, sI a2] (fun mm => fX12_tray a0 a1 a2 mm) := by
  refine zs_ofV (by decide +kernel) (Nat.le_of_ble_eq_true rfl) ?_
  intro p e s m args below meth c C hr
  replace C : Bd g RX12 cX12_tray 5 p s m args meth c := C
  unfold fX12_tray
  refine zs_aload_n (pc := 0) (k := 0) (i := 0) C (by decide +kernel) rfl rfl ?_
  refine zs_iload_n (pc := 1) (k := 1) (i := 1) C (by decide +kernel) rfl rfl ?_
  refine zs_csRi (pc := 2) (As := [sI a0]) (st := [sR 287]) C (Or.inr rfl) (c_X12_isTray l g a0) ml_RX12_392 rfl rfl (Nat.le_of_ble_eq_true rfl) ⟨Nat.le_of_ble_eq_true rfl, Nat.le_of_ble_eq_true rfl⟩ ⟨Nat.le_of_ble_eq_true rfl, Nat.le_of_ble_eq_true rfl⟩ (by decide +kernel) (fun x1 => ?_)
  refine zs_jn (pJ := 41) (kJ := 0) (sJ := 0) (fun t2 => [(0, sR 287), (1, sI a0), (2, sI a1), (3, sI a2)]) (fun t2 => [sI t2, sR 287]) (fun t2 => ?_) (fun J3 hJ3 => ?_)
  · refine zs_putI (pc := 41) (i := 88) (ci := 12) (k := 4) C (fun _ _ _ => rfl) (by decide +kernel) fl_RX12_88 fw_12_4 rfl rfl ?_
    refine zs_aload_n (pc := 44) (k := 0) (i := 0) C (by decide +kernel) rfl rfl ?_
    refine zs_getI (pc := 45) (i := 88) (ci := 12) (k := 4) C (by decide +kernel) fl_RX12_88 rfl rfl (fun x4 => ?_)
    refine zs_if_le (pc := 48) (off := 4) (tgt := 52) C (by decide +kernel) (by decide) ?_ ?_
    · refine zs_aload_n (pc := 52) (k := 0) (i := 0) C (by decide +kernel) rfl rfl ?_
      refine zs_getR (o' := 309) (pc := 53) (i := 79) (ci := 12) (k := 39) C (by decide +kernel) fl_RX12_79 rfl rfl rfl ?_
      refine zs_iload_n (pc := 56) (k := 1) (i := 1) C (by decide +kernel) rfl rfl ?_
      refine zs_iload_n (pc := 57) (k := 2) (i := 2) C (by decide +kernel) rfl rfl ?_
      refine zs_iast (pc := 58) (o := 309) (n := 4) C (fun _ _ _ => rfl) (by decide +kernel) rfl ?_
      refine zs_aload_n (pc := 59) (k := 0) (i := 0) C (by decide +kernel) rfl rfl ?_
      refine zs_getR (o' := 310) (pc := 60) (i := 82) (ci := 12) (k := 40) C (by decide +kernel) fl_RX12_82 rfl rfl rfl ?_
      refine zs_iload_n (pc := 63) (k := 1) (i := 1) C (by decide +kernel) rfl rfl ?_
      refine zs_iload_n (pc := 64) (k := 3) (i := 3) C (by decide +kernel) rfl rfl ?_
      refine zs_iast (pc := 65) (o := 310) (n := 4) C (fun _ _ _ => rfl) (by decide +kernel) rfl ?_
      refine zs_iconst (pc := 66) (n := 0) (x := 0) C (by decide +kernel) (by decide +kernel) ?_
      refine zs_istore (pc := 67) (i := 4) (ls' := [(4, sI 0), (0, sR 287), (1, sI a0), (2, sI a1), (3, sI a2)]) C (by decide +kernel) (Nat.le_of_ble_eq_true rfl) rfl ?_
      refine zs_sub (ls' := [(0, sR 287), (1, sI a0), (4, sI 0)]) ⟨rfl, rfl, rfl, trivial⟩ ?_
      refine zs_lp (pc := 69) (fun (t5 : Int) => [(0, sR 287), (1, sI a0), (4, sI t5)]) (fun _ => []) (fun K6 hK6 t5 => ?_) BIG 0
      refine zs_iload (pc := 69) (i := 4) C (by decide +kernel) rfl ?_
      refine zs_bipush (pc := 71) (n := 30) (x := 30) C (by decide +kernel) (by decide +kernel) ?_
      refine zs_icmp_ge (pc := 73) (off := 22) (tgt := 95) C (by decide +kernel) (by decide) ?_ ?_
      · exact zs_retVv (pc := 95) C hr ⟨Nat.le_of_ble_eq_true rfl, Nat.le_of_ble_eq_true rfl⟩ (by decide +kernel)
      · refine zs_aload_n (pc := 76) (k := 0) (i := 0) C (by decide +kernel) rfl rfl ?_
        refine zs_getR (o' := 311) (pc := 77) (i := 85) (ci := 12) (k := 41) C (by decide +kernel) fl_RX12_85 rfl rfl rfl ?_
        refine zs_bipush (pc := 80) (n := 30) (x := 30) C (by decide +kernel) (by decide +kernel) ?_
        refine zs_iload_n (pc := 82) (k := 1) (i := 1) C (by decide +kernel) rfl rfl ?_
        refine zs_imul (pc := 83) C (by decide +kernel) ?_
        refine zs_iload (pc := 84) (i := 4) C (by decide +kernel) rfl ?_
        refine zs_iadd (pc := 86) C (by decide +kernel) ?_
        refine zs_lconst (pc := 87) (n := 0) (x := 0) C (by decide +kernel) (by decide +kernel) ?_
        refine zs_last (pc := 88) (o := 311) (n := 120) C (fun _ _ _ => rfl) (by decide +kernel) rfl ?_
        refine zs_iinc (pc := 89) (i := 4) (n := 1) (y := w32 (t5 + 1)) (ls' := [(4, sI (w32 (t5 + 1))), (0, sR 287), (1, sI a0)]) C (by decide +kernel) rfl rfl (Nat.le_of_ble_eq_true rfl) rfl ?_
        refine zs_goto (pc := 92) (off := (-23)) (tgt := 69) C (by decide +kernel) (by decide) ?_
        exact zs_goj (hK6 (w32 (t5 + 1))) ⟨rfl, rfl, rfl, trivial⟩
    · exact zs_retVv (pc := 51) C hr ⟨Nat.le_of_ble_eq_true rfl, Nat.le_of_ble_eq_true rfl⟩ (by decide +kernel)
  · refine zs_if_ne (pc := 5) (off := 7) (tgt := 12) C (by decide +kernel) (by decide) ?_ ?_
    · refine zs_iload_n (pc := 12) (k := 2) (i := 2) C (by decide +kernel) rfl rfl ?_
      refine zs_i2l (pc := 13) C (by decide +kernel) ?_
      refine zs_lconst (pc := 14) (n := 0) (x := 0) C (by decide +kernel) (by decide +kernel) ?_
      refine zs_ldc2 (pc := 15) (i := 412) (v := 3) (x := 3) C (by decide +kernel) wf_2220 (by decide +kernel) ?_
      refine zs_csRi (pc := 18) (As := [sL a1, sL 0, sL 3]) (st := [sR 287]) C (Or.inr rfl) (c_X12_within l g a1 0 3) ml_RX12_149 rfl rfl (Nat.le_of_ble_eq_true rfl) ⟨Nat.le_of_ble_eq_true rfl, Nat.le_of_ble_eq_true rfl⟩ ⟨Nat.le_of_ble_eq_true rfl, Nat.le_of_ble_eq_true rfl⟩ (by decide +kernel) (fun x7 => ?_)
      refine zs_jn (pJ := 36) (kJ := 0) (sJ := 0) (fun t8 => [(0, sR 287), (1, sI a0), (2, sI a1), (3, sI a2)]) (fun t8 => [sR 287]) (fun t8 => ?_) (fun J9 hJ9 => ?_)
      · refine zs_iconst (pc := 36) (n := 2) (x := 2) C (by decide +kernel) (by decide +kernel) ?_
        refine zs_goto (pc := 37) (off := 4) (tgt := 41) C (by decide +kernel) (by decide) ?_
        exact zs_goj (hJ3 2) ⟨rfl, rfl, rfl, rfl, trivial⟩
      · refine zs_if_eq (pc := 21) (off := 15) (tgt := 36) C (by decide +kernel) (by decide) ?_ ?_
        · exact zs_goj (hJ9 ()) ⟨rfl, rfl, rfl, rfl, trivial⟩
        · refine zs_iload_n (pc := 24) (k := 3) (i := 3) C (by decide +kernel) rfl rfl ?_
          refine zs_i2l (pc := 25) C (by decide +kernel) ?_
          refine zs_lconst (pc := 26) (n := 0) (x := 0) C (by decide +kernel) (by decide +kernel) ?_
          refine zs_ldc2 (pc := 27) (i := 430) (v := 30) (x := 30) C (by decide +kernel) wf_2252 (by decide +kernel) ?_
          refine zs_csRi (pc := 30) (As := [sL a2, sL 0, sL 30]) (st := [sR 287]) C (Or.inr rfl) (c_X12_within l g a2 0 30) ml_RX12_149 rfl rfl (Nat.le_of_ble_eq_true rfl) ⟨Nat.le_of_ble_eq_true rfl, Nat.le_of_ble_eq_true rfl⟩ ⟨Nat.le_of_ble_eq_true rfl, Nat.le_of_ble_eq_true rfl⟩ (by decide +kernel) (fun x10 => ?_)
          refine zs_if_ne (pc := 33) (off := 7) (tgt := 40) C (by decide +kernel) (by decide) ?_ ?_
          · refine zs_iconst (pc := 40) (n := 0) (x := 0) C (by decide +kernel) (by decide +kernel) ?_
            exact zs_goj (hJ3 0) ⟨rfl, rfl, rfl, rfl, trivial⟩
          · exact zs_goj (hJ9 ()) ⟨rfl, rfl, rfl, rfl, trivial⟩
    · refine zs_iconst (pc := 8) (n := 1) (x := 1) C (by decide +kernel) (by decide +kernel) ?_
      refine zs_goto (pc := 9) (off := 32) (tgt := 41) C (by decide +kernel) (by decide) ?_
      exact zs_goj (hJ3 1) ⟨rfl, rfl, rfl, rfl, trivial⟩
set_option maxRecDepth 20000 in
theorem c_X12_cut (l : Launch) (g : GC) (a0 : Int) (a1 : Int) (a2 : Int) : ConW l g yX12_cut cX12_cut 6 (some .long) (rmd 1 0 0) [sR 287, sI a0, sI a1, sL a2] (fun mm => fX12_cut a0 a1 a2 mm) := by
  refine zs_ofW (by decide +kernel) (Nat.le_of_ble_eq_true rfl) ?_
  intro p e s m args below meth c C hr
  replace C : Bd g RX12 cX12_cut 6 p s m args meth c := C
  unfold fX12_cut
  refine zs_bipush (pc := 0) (n := 64) (x := 64) C (by decide +kernel) (by decide +kernel) ?_
  refine zs_bipush (pc := 2) (n := 8) (x := 8) C (by decide +kernel) (by decide +kernel) ?_
  refine zs_aload_n (pc := 4) (k := 0) (i := 0) C (by decide +kernel) rfl rfl ?_
  refine zs_getR (o' := 309) (pc := 5) (i := 79) (ci := 12) (k := 39) C (by decide +kernel) fl_RX12_79 rfl rfl rfl ?_
  refine zs_iload_n (pc := 8) (k := 1) (i := 1) C (by decide +kernel) rfl rfl ?_
  refine zs_iald (pc := 9) (o := 309) (n := 4) C (by decide +kernel) rfl (fun hinx1 x1 => ?_)
  refine zs_ishl (pc := 10) C (by decide +kernel) ?_
  refine zs_isub (pc := 11) C (by decide +kernel) ?_
  refine zs_let (fun x2 => ?_)
  refine zs_istore (pc := 12) (i := 5) (ls' := [(5, sI x2), (0, sR 287), (1, sI a0), (2, sI a1), (3, sL a2)]) C (by decide +kernel) (Nat.le_of_ble_eq_true rfl) rfl ?_
  refine zs_aload_n (pc := 14) (k := 0) (i := 0) C (by decide +kernel) rfl rfl ?_
  refine zs_getR (o' := 311) (pc := 15) (i := 85) (ci := 12) (k := 41) C (by decide +kernel) fl_RX12_85 rfl rfl rfl ?_
  refine zs_bipush (pc := 18) (n := 30) (x := 30) C (by decide +kernel) (by decide +kernel) ?_
  refine zs_iload_n (pc := 20) (k := 1) (i := 1) C (by decide +kernel) rfl rfl ?_
  refine zs_imul (pc := 21) C (by decide +kernel) ?_
  refine zs_iload_n (pc := 22) (k := 2) (i := 2) C (by decide +kernel) rfl rfl ?_
  refine zs_iadd (pc := 23) C (by decide +kernel) ?_
  refine zs_lload_n (pc := 24) (k := 3) (i := 3) C (by decide +kernel) rfl rfl ?_
  refine zs_iload (pc := 25) (i := 5) C (by decide +kernel) rfl ?_
  refine zs_lshl (pc := 27) C (by decide +kernel) ?_
  refine zs_iload (pc := 28) (i := 5) C (by decide +kernel) rfl ?_
  refine zs_lshr (pc := 30) C (by decide +kernel) ?_
  refine zs_last (pc := 31) (o := 311) (n := 120) C (fun _ _ _ => rfl) (by decide +kernel) rfl ?_
  refine zs_aload_n (pc := 32) (k := 0) (i := 0) C (by decide +kernel) rfl rfl ?_
  refine zs_getR (o' := 311) (pc := 33) (i := 85) (ci := 12) (k := 41) C (by decide +kernel) fl_RX12_85 rfl rfl rfl ?_
  refine zs_bipush (pc := 36) (n := 30) (x := 30) C (by decide +kernel) (by decide +kernel) ?_
  refine zs_iload_n (pc := 38) (k := 1) (i := 1) C (by decide +kernel) rfl rfl ?_
  refine zs_imul (pc := 39) C (by decide +kernel) ?_
  refine zs_iload_n (pc := 40) (k := 2) (i := 2) C (by decide +kernel) rfl rfl ?_
  refine zs_iadd (pc := 41) C (by decide +kernel) ?_
  refine zs_lald (pc := 42) (o := 311) (n := 120) C (by decide +kernel) rfl (fun hinx3 x3 => ?_)
  exact zs_retWl (pc := 43) C hr ⟨Nat.le_of_ble_eq_true rfl, Nat.le_of_ble_eq_true rfl⟩ (by decide +kernel)
set_option maxRecDepth 20000 in
theorem c_X12_write (l : Launch) (g : GC) (a0 : Int) (a1 : Int) (a2 : Int) : ConW l g yX12_write cX12_write 5 (some .long) (rmd 4 0 0) [sR 287, sI a0, sI a1, sL a2] (fun mm => fX12_write a0 a1 a2 mm) := by
  refine zs_ofW (by decide +kernel) (Nat.le_of_ble_eq_true rfl) ?_
  intro p e s m args below meth c C hr
  replace C : Bd g RX12 cX12_write 5 p s m args meth c := C
  unfold fX12_write
  refine zs_aload_n (pc := 0) (k := 0) (i := 0) C (by decide +kernel) rfl rfl ?_
  refine zs_aload_n (pc := 1) (k := 0) (i := 0) C (by decide +kernel) rfl rfl ?_
  refine zs_iload_n (pc := 2) (k := 1) (i := 1) C (by decide +kernel) rfl rfl ?_
  refine zs_cvRi (pc := 3) (As := [sI a0]) (st := [sR 287]) C (Or.inl rfl) (c_X12_trayFault l g a0) ml_RX12_409 rfl rfl rfl rfl (Nat.le_of_ble_eq_true rfl) ⟨Nat.le_of_ble_eq_true rfl, Nat.le_of_ble_eq_true rfl⟩ ⟨Nat.le_of_ble_eq_true rfl, Nat.le_of_ble_eq_true rfl⟩ (by decide +kernel) (fun x1 => ?_)
  refine zs_putI (pc := 6) (i := 88) (ci := 12) (k := 4) C (fun _ _ _ => rfl) (by decide +kernel) fl_RX12_88 fw_12_4 rfl rfl ?_
  refine zs_aload_n (pc := 9) (k := 0) (i := 0) C (by decide +kernel) rfl rfl ?_
  refine zs_getI (pc := 10) (i := 88) (ci := 12) (k := 4) C (by decide +kernel) fl_RX12_88 rfl rfl (fun x2 => ?_)
  refine zs_if_le (pc := 13) (off := 5) (tgt := 18) C (by decide +kernel) (by decide) ?_ ?_
  · refine zs_iload_n (pc := 18) (k := 2) (i := 2) C (by decide +kernel) rfl rfl ?_
    refine zs_i2l (pc := 19) C (by decide +kernel) ?_
    refine zs_lconst (pc := 20) (n := 0) (x := 0) C (by decide +kernel) (by decide +kernel) ?_
    refine zs_aload_n (pc := 21) (k := 0) (i := 0) C (by decide +kernel) rfl rfl ?_
    refine zs_getR (o' := 310) (pc := 22) (i := 82) (ci := 12) (k := 40) C (by decide +kernel) fl_RX12_82 rfl rfl rfl ?_
    refine zs_iload_n (pc := 25) (k := 1) (i := 1) C (by decide +kernel) rfl rfl ?_
    refine zs_iald (pc := 26) (o := 310) (n := 4) C (by decide +kernel) rfl (fun hinx3 x3 => ?_)
    refine zs_iconst (pc := 27) (n := 1) (x := 1) C (by decide +kernel) (by decide +kernel) ?_
    refine zs_isub (pc := 28) C (by decide +kernel) ?_
    refine zs_i2l (pc := 29) C (by decide +kernel) ?_
    refine zs_csRi (pc := 30) (As := [sL a1, sL 0, sL (w32 (x3 - 1))]) (st := []) C (Or.inr rfl) (c_X12_within l g a1 0 (w32 (x3 - 1))) ml_RX12_149 rfl rfl (Nat.le_of_ble_eq_true rfl) ⟨Nat.le_of_ble_eq_true rfl, Nat.le_of_ble_eq_true rfl⟩ ⟨Nat.le_of_ble_eq_true rfl, Nat.le_of_ble_eq_true rfl⟩ (by decide +kernel) (fun x4 => ?_)
    refine zs_jn (pJ := 52) (kJ := 0) (sJ := 0) (fun t5 => []) (fun t5 => [sL t5]) (fun t5 => ?_) (fun J6 hJ6 => ?_)
    · exact zs_retWl (pc := 52) C hr ⟨Nat.le_of_ble_eq_true rfl, Nat.le_of_ble_eq_true rfl⟩ (by decide +kernel)
    · refine zs_if_eq (pc := 33) (off := 13) (tgt := 46) C (by decide +kernel) (by decide) ?_ ?_
      · refine zs_aload_n (pc := 46) (k := 0) (i := 0) C (by decide +kernel) rfl rfl ?_
        refine zs_iconst (pc := 47) (n := 3) (x := 3) C (by decide +kernel) (by decide +kernel) ?_
        refine zs_cvWi (pc := 48) (As := [sI 3]) (st := []) C (fun _ _ _ => rfl) (Or.inl rfl) (c_X12_fails l g 3) ml_RX12_279 rfl rfl rfl rfl (Nat.le_of_ble_eq_true rfl) ⟨Nat.le_of_ble_eq_true rfl, Nat.le_of_ble_eq_true rfl⟩ ⟨Nat.le_of_ble_eq_true rfl, Nat.le_of_ble_eq_true rfl⟩ (by decide +kernel) (fun x7 => ?_)
        refine zs_i2l (pc := 51) C (by decide +kernel) ?_
        exact zs_goj (hJ6 x7) trivial
      · refine zs_aload_n (pc := 36) (k := 0) (i := 0) C (by decide +kernel) rfl rfl ?_
        refine zs_iload_n (pc := 37) (k := 1) (i := 1) C (by decide +kernel) rfl rfl ?_
        refine zs_iload_n (pc := 38) (k := 2) (i := 2) C (by decide +kernel) rfl rfl ?_
        refine zs_lload_n (pc := 39) (k := 3) (i := 3) C (by decide +kernel) rfl rfl ?_
        refine zs_cvWl (pc := 40) (As := [sI a0, sI a1, sL a2]) (st := []) C (fun _ _ _ => rfl) (c_X12_cut l g a0 a1 a2) ml_RX12_555 rfl rfl rfl rfl (Nat.le_of_ble_eq_true rfl) ⟨Nat.le_of_ble_eq_true rfl, Nat.le_of_ble_eq_true rfl⟩ ⟨Nat.le_of_ble_eq_true rfl, Nat.le_of_ble_eq_true rfl⟩ (by decide +kernel) (fun x8 => ?_)
        refine zs_goto (pc := 43) (off := 9) (tgt := 52) C (by decide +kernel) (by decide) ?_
        exact zs_goj (hJ6 x8) trivial
  · refine zs_lconst (pc := 16) (n := 0) (x := 0) C (by decide +kernel) (by decide +kernel) ?_
    exact zs_retWl (pc := 17) C hr ⟨Nat.le_of_ble_eq_true rfl, Nat.le_of_ble_eq_true rfl⟩ (by decide +kernel)
set_option maxRecDepth 20000 in
theorem c_X12_copy (l : Launch) (g : GC) (a0 : Int) (a1 : Int) (a2 : Int) (a3 : Int) : ConW l g yX12_copy cX12_copy 8 (some .int) (rmd 8 0 0) [sR 287, sI a0, sI a1, sI a2, sI a3] (fun mm => fX12_copy a0 a1 a2 a3 mm) := by
  refine zs_ofW (by decide +kernel) (Nat.le_of_ble_eq_true rfl) ?_
  intro p e s m args below meth c C hr
  replace C : Bd g RX12 cX12_copy 8 p s m args meth c := C
  unfold fX12_copy
  refine zs_aload_n (pc := 0) (k := 0) (i := 0) C (by decide +kernel) rfl rfl ?_
  refine zs_iload_n (pc := 1) (k := 1) (i := 1) C (by decide +kernel) rfl rfl ?_
  refine zs_csRi (pc := 2) (As := [sI a0]) (st := [sR 287]) C (Or.inr rfl) (c_X12_isTray l g a0) ml_RX12_392 rfl rfl (Nat.le_of_ble_eq_true rfl) ⟨Nat.le_of_ble_eq_true rfl, Nat.le_of_ble_eq_true rfl⟩ ⟨Nat.le_of_ble_eq_true rfl, Nat.le_of_ble_eq_true rfl⟩ (by decide +kernel) (fun x1 => ?_)
  refine zs_jn (pJ := 55) (kJ := 0) (sJ := 0) (fun t2 => [(0, sR 287), (1, sI a0), (2, sI a1), (3, sI a2), (4, sI a3)]) (fun t2 => [sI t2, sR 287]) (fun t2 => ?_) (fun J3 hJ3 => ?_)
  · refine zs_putI (pc := 55) (i := 88) (ci := 12) (k := 4) C (fun _ _ _ => rfl) (by decide +kernel) fl_RX12_88 fw_12_4 rfl rfl ?_
    refine zs_aload_n (pc := 58) (k := 0) (i := 0) C (by decide +kernel) rfl rfl ?_
    refine zs_getI (pc := 59) (i := 88) (ci := 12) (k := 4) C (by decide +kernel) fl_RX12_88 rfl rfl (fun x4 => ?_)
    refine zs_if_le (pc := 62) (off := 5) (tgt := 67) C (by decide +kernel) (by decide) ?_ ?_
    · refine zs_aload_n (pc := 67) (k := 0) (i := 0) C (by decide +kernel) rfl rfl ?_
      refine zs_iload_n (pc := 68) (k := 2) (i := 2) C (by decide +kernel) rfl rfl ?_
      refine zs_iload_n (pc := 69) (k := 3) (i := 3) C (by decide +kernel) rfl rfl ?_
      refine zs_iload (pc := 70) (i := 4) C (by decide +kernel) rfl ?_
      refine zs_cvWi (pc := 72) (As := [sI a1, sI a2, sI a3]) (st := []) C (fun _ _ _ => rfl) (Or.inl rfl) (c_X12_laysWay l g a1 a2 a3) ml_RX12_491 rfl rfl rfl rfl (Nat.le_of_ble_eq_true rfl) ⟨Nat.le_of_ble_eq_true rfl, Nat.le_of_ble_eq_true rfl⟩ ⟨Nat.le_of_ble_eq_true rfl, Nat.le_of_ble_eq_true rfl⟩ (by decide +kernel) (fun x5 => ?_)
      refine zs_istore (pc := 75) (i := 5) (ls' := [(5, sI x5), (0, sR 287), (1, sI a0), (2, sI a1), (3, sI a2), (4, sI a3)]) C (by decide +kernel) (Nat.le_of_ble_eq_true rfl) rfl ?_
      refine zs_iload (pc := 77) (i := 5) C (by decide +kernel) rfl ?_
      refine zs_iconst (pc := 79) (n := (-1)) (x := (-1)) C (by decide +kernel) (by decide +kernel) ?_
      refine zs_icmp_ne (pc := 80) (off := 5) (tgt := 85) C (by decide +kernel) (by decide) ?_ ?_
      · refine zs_iload (pc := 85) (i := 5) C (by decide +kernel) rfl ?_
        refine zs_aload_n (pc := 87) (k := 0) (i := 0) C (by decide +kernel) rfl rfl ?_
        refine zs_getR (o' := 310) (pc := 88) (i := 82) (ci := 12) (k := 40) C (by decide +kernel) fl_RX12_82 rfl rfl rfl ?_
        refine zs_iload_n (pc := 91) (k := 1) (i := 1) C (by decide +kernel) rfl rfl ?_
        refine zs_iald (pc := 92) (o := 310) (n := 4) C (by decide +kernel) rfl (fun hinx6 x6 => ?_)
        refine zs_mmin (pc := 93) (idx := 328) C wf_2132 wf_717 wf_166 wf_718 ⟨Nat.le_of_ble_eq_true rfl, Nat.le_of_ble_eq_true rfl, Nat.zero_le _, Nat.zero_le _⟩ (by decide +kernel) ?_
        refine zs_let (fun x7 => ?_)
        refine zs_istore (pc := 96) (i := 6) (ls' := [(6, sI x7), (5, sI x5), (0, sR 287), (1, sI a0), (2, sI a1), (3, sI a2), (4, sI a3)]) C (by decide +kernel) (Nat.le_of_ble_eq_true rfl) rfl ?_
        refine zs_iconst (pc := 98) (n := 0) (x := 0) C (by decide +kernel) (by decide +kernel) ?_
        refine zs_istore (pc := 99) (i := 7) (ls' := [(7, sI 0), (6, sI x7), (5, sI x5), (0, sR 287), (1, sI a0), (2, sI a1), (3, sI a2), (4, sI a3)]) C (by decide +kernel) (Nat.le_of_ble_eq_true rfl) rfl ?_
        refine zs_sub (ls' := [(0, sR 287), (1, sI a0), (2, sI a1), (6, sI x7), (7, sI 0)]) ⟨rfl, rfl, rfl, rfl, rfl, trivial⟩ ?_
        refine zs_lp (pc := 101) (fun (t8 : Int) => [(0, sR 287), (1, sI a0), (2, sI a1), (6, sI x7), (7, sI t8)]) (fun _ => []) (fun K9 hK9 t8 => ?_) BIG 0
        refine zs_iload (pc := 101) (i := 7) C (by decide +kernel) rfl ?_
        refine zs_iload (pc := 103) (i := 6) C (by decide +kernel) rfl ?_
        refine zs_icmp_ge (pc := 105) (off := 32) (tgt := 137) C (by decide +kernel) (by decide) ?_ ?_
        · refine zs_iload (pc := 137) (i := 6) C (by decide +kernel) rfl ?_
          exact zs_retWi (pc := 139) C hr ⟨Nat.le_of_ble_eq_true rfl, Nat.le_of_ble_eq_true rfl⟩ (by decide +kernel)
        · refine zs_aload_n (pc := 108) (k := 0) (i := 0) C (by decide +kernel) rfl rfl ?_
          refine zs_iload_n (pc := 109) (k := 1) (i := 1) C (by decide +kernel) rfl rfl ?_
          refine zs_iload (pc := 110) (i := 7) C (by decide +kernel) rfl ?_
          refine zs_bipush (pc := 112) (n := 100) (x := 100) C (by decide +kernel) (by decide +kernel) ?_
          refine zs_iload_n (pc := 114) (k := 2) (i := 2) C (by decide +kernel) rfl rfl ?_
          refine zs_imul (pc := 115) C (by decide +kernel) ?_
          refine zs_aload_n (pc := 116) (k := 0) (i := 0) C (by decide +kernel) rfl rfl ?_
          refine zs_getR (o' := 302) (pc := 117) (i := 57) (ci := 12) (k := 30) C (by decide +kernel) fl_RX12_57 rfl rfl rfl ?_
          refine zs_iload (pc := 120) (i := 7) C (by decide +kernel) rfl ?_
          refine zs_iconst (pc := 122) (n := 1) (x := 1) C (by decide +kernel) (by decide +kernel) ?_
          refine zs_iadd (pc := 123) C (by decide +kernel) ?_
          refine zs_iald (pc := 124) (o := 302) (n := 41) C (by decide +kernel) rfl (fun hinx10 x10 => ?_)
          refine zs_iadd (pc := 125) C (by decide +kernel) ?_
          refine zs_i2l (pc := 126) C (by decide +kernel) ?_
          refine zs_cvWl (pc := 127) (As := [sI a0, sI t8, sL (w32 ((w32 (100 * a1)) + x10))]) (st := []) C (fun _ _ _ => rfl) (c_X12_cut l g a0 t8 (w32 ((w32 (100 * a1)) + x10))) ml_RX12_555 rfl rfl rfl rfl (Nat.le_of_ble_eq_true rfl) ⟨Nat.le_of_ble_eq_true rfl, Nat.le_of_ble_eq_true rfl⟩ ⟨Nat.le_of_ble_eq_true rfl, Nat.le_of_ble_eq_true rfl⟩ (by decide +kernel) (fun x11 => ?_)
          refine zs_pop2 (pc := 130) C (by decide +kernel) ?_
          refine zs_iinc (pc := 131) (i := 7) (n := 1) (y := w32 (t8 + 1)) (ls' := [(7, sI (w32 (t8 + 1))), (0, sR 287), (1, sI a0), (2, sI a1), (6, sI x7)]) C (by decide +kernel) rfl rfl (Nat.le_of_ble_eq_true rfl) rfl ?_
          refine zs_goto (pc := 134) (off := (-33)) (tgt := 101) C (by decide +kernel) (by decide) ?_
          exact zs_goj (hK9 (w32 (t8 + 1))) ⟨rfl, rfl, rfl, rfl, rfl, trivial⟩
      · refine zs_iconst (pc := 83) (n := (-1)) (x := (-1)) C (by decide +kernel) (by decide +kernel) ?_
        exact zs_retWi (pc := 84) C hr ⟨Nat.le_of_ble_eq_true rfl, Nat.le_of_ble_eq_true rfl⟩ (by decide +kernel)
    · refine zs_iconst (pc := 65) (n := 0) (x := 0) C (by decide +kernel) (by decide +kernel) ?_
      exact zs_retWi (pc := 66) C hr ⟨Nat.le_of_ble_eq_true rfl, Nat.le_of_ble_eq_true rfl⟩ (by decide +kernel)
  · refine zs_jn (pJ := 36) (kJ := 0) (sJ := 0) (fun t12 => [(0, sR 287), (1, sI a0), (2, sI a1), (3, sI a2), (4, sI a3)]) (fun t12 => [sR 287]) (fun t12 => ?_) (fun J13 hJ13 => ?_)
    · refine zs_iconst (pc := 36) (n := 1) (x := 1) C (by decide +kernel) (by decide +kernel) ?_
      refine zs_goto (pc := 37) (off := 18) (tgt := 55) C (by decide +kernel) (by decide) ?_
      exact zs_goj (hJ3 1) ⟨rfl, rfl, rfl, rfl, rfl, trivial⟩
    · refine zs_if_eq (pc := 5) (off := 31) (tgt := 36) C (by decide +kernel) (by decide) ?_ ?_
      · exact zs_goj (hJ13 ()) ⟨rfl, rfl, rfl, rfl, rfl, trivial⟩
      · refine zs_aload_n (pc := 8) (k := 0) (i := 0) C (by decide +kernel) rfl rfl ?_
        refine zs_iload_n (pc := 9) (k := 2) (i := 2) C (by decide +kernel) rfl rfl ?_
        refine zs_i2l (pc := 10) C (by decide +kernel) ?_
        refine zs_cvRi (pc := 11) (As := [sL a1]) (st := [sR 287]) C (Or.inr rfl) (c_X12_isPair l g a1) ml_RX12_338 rfl rfl rfl rfl (Nat.le_of_ble_eq_true rfl) ⟨Nat.le_of_ble_eq_true rfl, Nat.le_of_ble_eq_true rfl⟩ ⟨Nat.le_of_ble_eq_true rfl, Nat.le_of_ble_eq_true rfl⟩ (by decide +kernel) (fun x14 => ?_)
        refine zs_if_eq (pc := 14) (off := 22) (tgt := 36) C (by decide +kernel) (by decide) ?_ ?_
        · exact zs_goj (hJ13 ()) ⟨rfl, rfl, rfl, rfl, rfl, trivial⟩
        · refine zs_aload_n (pc := 17) (k := 0) (i := 0) C (by decide +kernel) rfl rfl ?_
          refine zs_iload_n (pc := 18) (k := 3) (i := 3) C (by decide +kernel) rfl rfl ?_
          refine zs_i2l (pc := 19) C (by decide +kernel) ?_
          refine zs_cvRi (pc := 20) (As := [sL a2]) (st := [sR 287]) C (Or.inr rfl) (c_X12_isPlace l g a2) ml_RX12_334 rfl rfl rfl rfl (Nat.le_of_ble_eq_true rfl) ⟨Nat.le_of_ble_eq_true rfl, Nat.le_of_ble_eq_true rfl⟩ ⟨Nat.le_of_ble_eq_true rfl, Nat.le_of_ble_eq_true rfl⟩ (by decide +kernel) (fun x15 => ?_)
          refine zs_if_eq (pc := 23) (off := 13) (tgt := 36) C (by decide +kernel) (by decide) ?_ ?_
          · exact zs_goj (hJ13 ()) ⟨rfl, rfl, rfl, rfl, rfl, trivial⟩
          · refine zs_aload_n (pc := 26) (k := 0) (i := 0) C (by decide +kernel) rfl rfl ?_
            refine zs_iload (pc := 27) (i := 4) C (by decide +kernel) rfl ?_
            refine zs_i2l (pc := 29) C (by decide +kernel) ?_
            refine zs_cvRi (pc := 30) (As := [sL a3]) (st := [sR 287]) C (Or.inr rfl) (c_X12_isPlace l g a3) ml_RX12_334 rfl rfl rfl rfl (Nat.le_of_ble_eq_true rfl) ⟨Nat.le_of_ble_eq_true rfl, Nat.le_of_ble_eq_true rfl⟩ ⟨Nat.le_of_ble_eq_true rfl, Nat.le_of_ble_eq_true rfl⟩ (by decide +kernel) (fun x16 => ?_)
            refine zs_if_ne (pc := 33) (off := 7) (tgt := 40) C (by decide +kernel) (by decide) ?_ ?_
            · refine zs_aload_n (pc := 40) (k := 0) (i := 0) C (by decide +kernel) rfl rfl ?_
              refine zs_getR (o' := 309) (pc := 41) (i := 79) (ci := 12) (k := 39) C (by decide +kernel) fl_RX12_79 rfl rfl rfl ?_
              refine zs_iload_n (pc := 44) (k := 1) (i := 1) C (by decide +kernel) rfl rfl ?_
              refine zs_iald (pc := 45) (o := 309) (n := 4) C (by decide +kernel) rfl (fun hinx17 x17 => ?_)
              refine zs_iconst (pc := 46) (n := (-1)) (x := (-1)) C (by decide +kernel) (by decide +kernel) ?_
              refine zs_icmp_ne (pc := 47) (off := 7) (tgt := 54) C (by decide +kernel) (by decide) ?_ ?_
              · refine zs_iconst (pc := 54) (n := 0) (x := 0) C (by decide +kernel) (by decide +kernel) ?_
                exact zs_goj (hJ3 0) ⟨rfl, rfl, rfl, rfl, rfl, trivial⟩
              · refine zs_iconst (pc := 50) (n := 2) (x := 2) C (by decide +kernel) (by decide +kernel) ?_
                refine zs_goto (pc := 51) (off := 4) (tgt := 55) C (by decide +kernel) (by decide) ?_
                exact zs_goj (hJ3 2) ⟨rfl, rfl, rfl, rfl, rfl, trivial⟩
            · exact zs_goj (hJ13 ()) ⟨rfl, rfl, rfl, rfl, rfl, trivial⟩
set_option maxRecDepth 20000 in
theorem c_X12_image (l : Launch) (g : GC) (a0 : Int) : ConV l g yX12_image cX12_image 3 (rmd 2 0 0) [sR 287, sI a0] (fun mm => fX12_image a0 mm) := by
  refine zs_ofV (by decide +kernel) (Nat.le_of_ble_eq_true rfl) ?_
  intro p e s m args below meth c C hr
  replace C : Bd g RX12 cX12_image 3 p s m args meth c := C
  unfold fX12_image
  refine zs_aload_n (pc := 0) (k := 0) (i := 0) C (by decide +kernel) rfl rfl ?_
  refine zs_iload_n (pc := 1) (k := 1) (i := 1) C (by decide +kernel) rfl rfl ?_
  refine zs_i2l (pc := 2) C (by decide +kernel) ?_
  refine zs_lconst (pc := 3) (n := 0) (x := 0) C (by decide +kernel) (by decide +kernel) ?_
  refine zs_ldc2 (pc := 4) (i := 559) (v := 2) (x := 2) C (by decide +kernel) wf_2498 (by decide +kernel) ?_
  refine zs_csRi (pc := 7) (As := [sL a0, sL 0, sL 2]) (st := [sR 287]) C (Or.inr rfl) (c_X12_within l g a0 0 2) ml_RX12_149 rfl rfl (Nat.le_of_ble_eq_true rfl) ⟨Nat.le_of_ble_eq_true rfl, Nat.le_of_ble_eq_true rfl⟩ ⟨Nat.le_of_ble_eq_true rfl, Nat.le_of_ble_eq_true rfl⟩ (by decide +kernel) (fun x1 => ?_)
  refine zs_jn (pJ := 18) (kJ := 0) (sJ := 0) (fun t2 => [(0, sR 287), (1, sI a0)]) (fun t2 => [sI t2, sR 287]) (fun t2 => ?_) (fun J3 hJ3 => ?_)
  · refine zs_putI (pc := 18) (i := 88) (ci := 12) (k := 4) C (fun _ _ _ => rfl) (by decide +kernel) fl_RX12_88 fw_12_4 rfl rfl ?_
    refine zs_aload_n (pc := 21) (k := 0) (i := 0) C (by decide +kernel) rfl rfl ?_
    refine zs_getI (pc := 22) (i := 88) (ci := 12) (k := 4) C (by decide +kernel) fl_RX12_88 rfl rfl (fun x4 => ?_)
    refine zs_if_le (pc := 25) (off := 4) (tgt := 29) C (by decide +kernel) (by decide) ?_ ?_
    · refine zs_aload_n (pc := 29) (k := 0) (i := 0) C (by decide +kernel) rfl rfl ?_
      refine zs_getR (o' := 291) (pc := 30) (i := 19) (ci := 12) (k := 3) C (by decide +kernel) fl_RX12_19 rfl rfl rfl ?_
      refine zs_iload_n (pc := 33) (k := 1) (i := 1) C (by decide +kernel) rfl rfl ?_
      refine zs_iconst (pc := 34) (n := 1) (x := 1) C (by decide +kernel) (by decide +kernel) ?_
      refine zs_zast (pc := 35) (o := 291) (n := 3) C (fun _ _ _ => rfl) (by decide +kernel) rfl ?_
      refine zs_iconst (pc := 36) (n := 0) (x := 0) C (by decide +kernel) (by decide +kernel) ?_
      refine zs_istore_n (pc := 37) (k := 2) (i := 2) (ls' := [(2, sI 0), (0, sR 287), (1, sI a0)]) C (by decide +kernel) rfl (Nat.le_of_ble_eq_true rfl) rfl ?_
      refine zs_sub (ls' := [(0, sR 287), (1, sI a0), (2, sI 0)]) ⟨rfl, rfl, rfl, trivial⟩ ?_
      refine zs_lp (pc := 38) (fun (t5 : Int) => [(0, sR 287), (1, sI a0), (2, sI t5)]) (fun _ => []) (fun K6 hK6 t5 => ?_) BIG 0
      refine zs_iload_n (pc := 38) (k := 2) (i := 2) C (by decide +kernel) rfl rfl ?_
      refine zs_sipush (pc := 39) (n := 2005) (x := 2005) C (by decide +kernel) (by decide +kernel) ?_
      refine zs_icmp_ge (pc := 42) (off := 27) (tgt := 69) C (by decide +kernel) (by decide) ?_ ?_
      · exact zs_retVv (pc := 69) C hr ⟨Nat.le_of_ble_eq_true rfl, Nat.le_of_ble_eq_true rfl⟩ (by decide +kernel)
      · refine zs_aload_n (pc := 45) (k := 0) (i := 0) C (by decide +kernel) rfl rfl ?_
        refine zs_getR (o' := 290) (pc := 46) (i := 16) (ci := 12) (k := 2) C (by decide +kernel) fl_RX12_16 rfl rfl rfl ?_
        refine zs_sipush (pc := 49) (n := 2005) (x := 2005) C (by decide +kernel) (by decide +kernel) ?_
        refine zs_iload_n (pc := 52) (k := 1) (i := 1) C (by decide +kernel) rfl rfl ?_
        refine zs_imul (pc := 53) C (by decide +kernel) ?_
        refine zs_iload_n (pc := 54) (k := 2) (i := 2) C (by decide +kernel) rfl rfl ?_
        refine zs_iadd (pc := 55) C (by decide +kernel) ?_
        refine zs_aload_n (pc := 56) (k := 0) (i := 0) C (by decide +kernel) rfl rfl ?_
        refine zs_getR (o' := 288) (pc := 57) (i := 9) (ci := 12) (k := 0) C (by decide +kernel) fl_RX12_9 rfl rfl rfl ?_
        refine zs_iload_n (pc := 60) (k := 2) (i := 2) C (by decide +kernel) rfl rfl ?_
        refine zs_iald (pc := 61) (o := 288) (n := 2005) C (by decide +kernel) rfl (fun hinx7 x7 => ?_)
        refine zs_iast (pc := 62) (o := 290) (n := 6015) C (fun _ _ _ => rfl) (by decide +kernel) rfl ?_
        refine zs_iinc (pc := 63) (i := 2) (n := 1) (y := w32 (t5 + 1)) (ls' := [(2, sI (w32 (t5 + 1))), (0, sR 287), (1, sI a0)]) C (by decide +kernel) rfl rfl (Nat.le_of_ble_eq_true rfl) rfl ?_
        refine zs_goto (pc := 66) (off := (-28)) (tgt := 38) C (by decide +kernel) (by decide) ?_
        exact zs_goj (hK6 (w32 (t5 + 1))) ⟨rfl, rfl, rfl, trivial⟩
    · exact zs_retVv (pc := 28) C hr ⟨Nat.le_of_ble_eq_true rfl, Nat.le_of_ble_eq_true rfl⟩ (by decide +kernel)
  · refine zs_if_eq (pc := 10) (off := 7) (tgt := 17) C (by decide +kernel) (by decide) ?_ ?_
    · refine zs_iconst (pc := 17) (n := 1) (x := 1) C (by decide +kernel) (by decide +kernel) ?_
      exact zs_goj (hJ3 1) ⟨rfl, rfl, trivial⟩
    · refine zs_iconst (pc := 13) (n := 0) (x := 0) C (by decide +kernel) (by decide +kernel) ?_
      refine zs_goto (pc := 14) (off := 4) (tgt := 18) C (by decide +kernel) (by decide) ?_
      exact zs_goj (hJ3 0) ⟨rfl, rfl, trivial⟩
set_option maxRecDepth 20000 in
theorem c_X12_restore (l : Launch) (g : GC) (a0 : Int) : ConV l g yX12_restore cX12_restore 3 (rmd 2 0 0) [sR 287, sI a0] (fun mm => fX12_restore a0 mm) := by
  refine zs_ofV (by decide +kernel) (Nat.le_of_ble_eq_true rfl) ?_
  intro p e s m args below meth c C hr
  replace C : Bd g RX12 cX12_restore 3 p s m args meth c := C
  unfold fX12_restore
  refine zs_aload_n (pc := 0) (k := 0) (i := 0) C (by decide +kernel) rfl rfl ?_
  refine zs_iload_n (pc := 1) (k := 1) (i := 1) C (by decide +kernel) rfl rfl ?_
  refine zs_i2l (pc := 2) C (by decide +kernel) ?_
  refine zs_lconst (pc := 3) (n := 0) (x := 0) C (by decide +kernel) (by decide +kernel) ?_
  refine zs_ldc2 (pc := 4) (i := 559) (v := 2) (x := 2) C (by decide +kernel) wf_2498 (by decide +kernel) ?_
  refine zs_csRi (pc := 7) (As := [sL a0, sL 0, sL 2]) (st := [sR 287]) C (Or.inr rfl) (c_X12_within l g a0 0 2) ml_RX12_149 rfl rfl (Nat.le_of_ble_eq_true rfl) ⟨Nat.le_of_ble_eq_true rfl, Nat.le_of_ble_eq_true rfl⟩ ⟨Nat.le_of_ble_eq_true rfl, Nat.le_of_ble_eq_true rfl⟩ (by decide +kernel) (fun x1 => ?_)
  refine zs_jn (pJ := 31) (kJ := 0) (sJ := 0) (fun t2 => [(0, sR 287), (1, sI a0)]) (fun t2 => [sI t2, sR 287]) (fun t2 => ?_) (fun J3 hJ3 => ?_)
  · refine zs_putI (pc := 31) (i := 88) (ci := 12) (k := 4) C (fun _ _ _ => rfl) (by decide +kernel) fl_RX12_88 fw_12_4 rfl rfl ?_
    refine zs_aload_n (pc := 34) (k := 0) (i := 0) C (by decide +kernel) rfl rfl ?_
    refine zs_getI (pc := 35) (i := 88) (ci := 12) (k := 4) C (by decide +kernel) fl_RX12_88 rfl rfl (fun x4 => ?_)
    refine zs_if_le (pc := 38) (off := 4) (tgt := 42) C (by decide +kernel) (by decide) ?_ ?_
    · refine zs_iconst (pc := 42) (n := 0) (x := 0) C (by decide +kernel) (by decide +kernel) ?_
      refine zs_istore_n (pc := 43) (k := 2) (i := 2) (ls' := [(2, sI 0), (0, sR 287), (1, sI a0)]) C (by decide +kernel) rfl (Nat.le_of_ble_eq_true rfl) rfl ?_
      refine zs_sub (ls' := [(0, sR 287), (1, sI a0), (2, sI 0)]) ⟨rfl, rfl, rfl, trivial⟩ ?_
      refine zs_lp (pc := 44) (fun (t5 : Int) => [(0, sR 287), (1, sI a0), (2, sI t5)]) (fun _ => []) (fun K6 hK6 t5 => ?_) BIG 0
      refine zs_iload_n (pc := 44) (k := 2) (i := 2) C (by decide +kernel) rfl rfl ?_
      refine zs_sipush (pc := 45) (n := 2005) (x := 2005) C (by decide +kernel) (by decide +kernel) ?_
      refine zs_icmp_ge (pc := 48) (off := 27) (tgt := 75) C (by decide +kernel) (by decide) ?_ ?_
      · exact zs_retVv (pc := 75) C hr ⟨Nat.le_of_ble_eq_true rfl, Nat.le_of_ble_eq_true rfl⟩ (by decide +kernel)
      · refine zs_aload_n (pc := 51) (k := 0) (i := 0) C (by decide +kernel) rfl rfl ?_
        refine zs_getR (o' := 288) (pc := 52) (i := 9) (ci := 12) (k := 0) C (by decide +kernel) fl_RX12_9 rfl rfl rfl ?_
        refine zs_iload_n (pc := 55) (k := 2) (i := 2) C (by decide +kernel) rfl rfl ?_
        refine zs_aload_n (pc := 56) (k := 0) (i := 0) C (by decide +kernel) rfl rfl ?_
        refine zs_getR (o' := 290) (pc := 57) (i := 16) (ci := 12) (k := 2) C (by decide +kernel) fl_RX12_16 rfl rfl rfl ?_
        refine zs_sipush (pc := 60) (n := 2005) (x := 2005) C (by decide +kernel) (by decide +kernel) ?_
        refine zs_iload_n (pc := 63) (k := 1) (i := 1) C (by decide +kernel) rfl rfl ?_
        refine zs_imul (pc := 64) C (by decide +kernel) ?_
        refine zs_iload_n (pc := 65) (k := 2) (i := 2) C (by decide +kernel) rfl rfl ?_
        refine zs_iadd (pc := 66) C (by decide +kernel) ?_
        refine zs_iald (pc := 67) (o := 290) (n := 6015) C (by decide +kernel) rfl (fun hinx7 x7 => ?_)
        refine zs_iast (pc := 68) (o := 288) (n := 2005) C (fun _ _ _ => rfl) (by decide +kernel) rfl ?_
        refine zs_iinc (pc := 69) (i := 2) (n := 1) (y := w32 (t5 + 1)) (ls' := [(2, sI (w32 (t5 + 1))), (0, sR 287), (1, sI a0)]) C (by decide +kernel) rfl rfl (Nat.le_of_ble_eq_true rfl) rfl ?_
        refine zs_goto (pc := 72) (off := (-28)) (tgt := 44) C (by decide +kernel) (by decide) ?_
        exact zs_goj (hK6 (w32 (t5 + 1))) ⟨rfl, rfl, rfl, trivial⟩
    · exact zs_retVv (pc := 41) C hr ⟨Nat.le_of_ble_eq_true rfl, Nat.le_of_ble_eq_true rfl⟩ (by decide +kernel)
  · refine zs_if_ne (pc := 10) (off := 7) (tgt := 17) C (by decide +kernel) (by decide) ?_ ?_
    · refine zs_aload_n (pc := 17) (k := 0) (i := 0) C (by decide +kernel) rfl rfl ?_
      refine zs_getR (o' := 291) (pc := 18) (i := 19) (ci := 12) (k := 3) C (by decide +kernel) fl_RX12_19 rfl rfl rfl ?_
      refine zs_iload_n (pc := 21) (k := 1) (i := 1) C (by decide +kernel) rfl rfl ?_
      refine zs_zald (pc := 22) (o := 291) (n := 3) C (by decide +kernel) rfl (fun hinx8 x8 => ?_)
      refine zs_if_ne (pc := 23) (off := 7) (tgt := 30) C (by decide +kernel) (by decide) ?_ ?_
      · refine zs_iconst (pc := 30) (n := 0) (x := 0) C (by decide +kernel) (by decide +kernel) ?_
        exact zs_goj (hJ3 0) ⟨rfl, rfl, trivial⟩
      · refine zs_iconst (pc := 26) (n := 2) (x := 2) C (by decide +kernel) (by decide +kernel) ?_
        refine zs_goto (pc := 27) (off := 4) (tgt := 31) C (by decide +kernel) (by decide) ?_
        exact zs_goj (hJ3 2) ⟨rfl, rfl, trivial⟩
    · refine zs_iconst (pc := 13) (n := 1) (x := 1) C (by decide +kernel) (by decide +kernel) ?_
      refine zs_goto (pc := 14) (off := 17) (tgt := 31) C (by decide +kernel) (by decide) ?_
      exact zs_goj (hJ3 1) ⟨rfl, rfl, trivial⟩
set_option maxRecDepth 20000 in
theorem c_X12_count (l : Launch) (g : GC) (a0 : Int) : ConW l g yX12_count cX12_count 2 (some .int) (rmd 2 0 0) [sR 287, sI a0] (fun mm => fX12_count a0 mm) := by
  refine zs_ofW (by decide +kernel) (Nat.le_of_ble_eq_true rfl) ?_
  intro p e s m args below meth c C hr
  replace C : Bd g RX12 cX12_count 2 p s m args meth c := C
  unfold fX12_count
  refine zs_aload_n (pc := 0) (k := 0) (i := 0) C (by decide +kernel) rfl rfl ?_
  refine zs_iconst (pc := 1) (n := 0) (x := 0) C (by decide +kernel) (by decide +kernel) ?_
  refine zs_putI (pc := 2) (i := 88) (ci := 12) (k := 4) C (fun _ _ _ => rfl) (by decide +kernel) fl_RX12_88 fw_12_4 rfl rfl ?_
  refine zs_iload_n (pc := 5) (k := 1) (i := 1) C (by decide +kernel) rfl rfl ?_
  refine zs_ite (fun hc0 => ?_) (fun hc0 => ?_)
  · refine zs_tswI (pc := 6) (dflt := 148) (lo := 0) (hi := 10) (offs := #[58, 65, 72, 79, 86, 93, 104, 112, 124, 135, 143]) (len := 58) (i := 0) (off := 58) (tgt := 64) C (by decide +kernel) hc0 (by decide) rfl (by decide) ?_
    refine zs_aload_n (pc := 64) (k := 0) (i := 0) C (by decide +kernel) rfl rfl ?_
    refine zs_getR (o' := 288) (pc := 65) (i := 9) (ci := 12) (k := 0) C (by decide +kernel) fl_RX12_9 rfl rfl rfl ?_
    refine zs_iconst (pc := 68) (n := 0) (x := 0) C (by decide +kernel) (by decide +kernel) ?_
    refine zs_ialdk (pc := 69) (o := 288) (n := 2005) C (by decide) (by decide +kernel) rfl (fun x1 => ?_)
    exact zs_retWi (pc := 70) C hr ⟨Nat.le_of_ble_eq_true rfl, Nat.le_of_ble_eq_true rfl⟩ (by decide +kernel)
  · refine zs_ite (fun hc1 => ?_) (fun hc1 => ?_)
    · refine zs_tswI (pc := 6) (dflt := 148) (lo := 0) (hi := 10) (offs := #[58, 65, 72, 79, 86, 93, 104, 112, 124, 135, 143]) (len := 58) (i := 1) (off := 65) (tgt := 71) C (by decide +kernel) hc1 (by decide) rfl (by decide) ?_
      refine zs_aload_n (pc := 71) (k := 0) (i := 0) C (by decide +kernel) rfl rfl ?_
      refine zs_getR (o' := 288) (pc := 72) (i := 9) (ci := 12) (k := 0) C (by decide +kernel) fl_RX12_9 rfl rfl rfl ?_
      refine zs_iconst (pc := 75) (n := 1) (x := 1) C (by decide +kernel) (by decide +kernel) ?_
      refine zs_ialdk (pc := 76) (o := 288) (n := 2005) C (by decide) (by decide +kernel) rfl (fun x2 => ?_)
      exact zs_retWi (pc := 77) C hr ⟨Nat.le_of_ble_eq_true rfl, Nat.le_of_ble_eq_true rfl⟩ (by decide +kernel)
    · refine zs_ite (fun hc2 => ?_) (fun hc2 => ?_)
      · refine zs_tswI (pc := 6) (dflt := 148) (lo := 0) (hi := 10) (offs := #[58, 65, 72, 79, 86, 93, 104, 112, 124, 135, 143]) (len := 58) (i := 2) (off := 72) (tgt := 78) C (by decide +kernel) hc2 (by decide) rfl (by decide) ?_
        refine zs_aload_n (pc := 78) (k := 0) (i := 0) C (by decide +kernel) rfl rfl ?_
        refine zs_getR (o' := 288) (pc := 79) (i := 9) (ci := 12) (k := 0) C (by decide +kernel) fl_RX12_9 rfl rfl rfl ?_
        refine zs_iconst (pc := 82) (n := 2) (x := 2) C (by decide +kernel) (by decide +kernel) ?_
        refine zs_ialdk (pc := 83) (o := 288) (n := 2005) C (by decide) (by decide +kernel) rfl (fun x3 => ?_)
        exact zs_retWi (pc := 84) C hr ⟨Nat.le_of_ble_eq_true rfl, Nat.le_of_ble_eq_true rfl⟩ (by decide +kernel)
      · refine zs_ite (fun hc3 => ?_) (fun hc3 => ?_)
        · refine zs_tswI (pc := 6) (dflt := 148) (lo := 0) (hi := 10) (offs := #[58, 65, 72, 79, 86, 93, 104, 112, 124, 135, 143]) (len := 58) (i := 3) (off := 79) (tgt := 85) C (by decide +kernel) hc3 (by decide) rfl (by decide) ?_
          refine zs_aload_n (pc := 85) (k := 0) (i := 0) C (by decide +kernel) rfl rfl ?_
          refine zs_getR (o' := 288) (pc := 86) (i := 9) (ci := 12) (k := 0) C (by decide +kernel) fl_RX12_9 rfl rfl rfl ?_
          refine zs_iconst (pc := 89) (n := 3) (x := 3) C (by decide +kernel) (by decide +kernel) ?_
          refine zs_ialdk (pc := 90) (o := 288) (n := 2005) C (by decide) (by decide +kernel) rfl (fun x4 => ?_)
          exact zs_retWi (pc := 91) C hr ⟨Nat.le_of_ble_eq_true rfl, Nat.le_of_ble_eq_true rfl⟩ (by decide +kernel)
        · refine zs_ite (fun hc4 => ?_) (fun hc4 => ?_)
          · refine zs_tswI (pc := 6) (dflt := 148) (lo := 0) (hi := 10) (offs := #[58, 65, 72, 79, 86, 93, 104, 112, 124, 135, 143]) (len := 58) (i := 4) (off := 86) (tgt := 92) C (by decide +kernel) hc4 (by decide) rfl (by decide) ?_
            refine zs_aload_n (pc := 92) (k := 0) (i := 0) C (by decide +kernel) rfl rfl ?_
            refine zs_getR (o' := 288) (pc := 93) (i := 9) (ci := 12) (k := 0) C (by decide +kernel) fl_RX12_9 rfl rfl rfl ?_
            refine zs_iconst (pc := 96) (n := 4) (x := 4) C (by decide +kernel) (by decide +kernel) ?_
            refine zs_ialdk (pc := 97) (o := 288) (n := 2005) C (by decide) (by decide +kernel) rfl (fun x5 => ?_)
            exact zs_retWi (pc := 98) C hr ⟨Nat.le_of_ble_eq_true rfl, Nat.le_of_ble_eq_true rfl⟩ (by decide +kernel)
          · refine zs_ite (fun hc5 => ?_) (fun hc5 => ?_)
            · refine zs_tswI (pc := 6) (dflt := 148) (lo := 0) (hi := 10) (offs := #[58, 65, 72, 79, 86, 93, 104, 112, 124, 135, 143]) (len := 58) (i := 5) (off := 93) (tgt := 99) C (by decide +kernel) hc5 (by decide) rfl (by decide) ?_
              refine zs_aload_n (pc := 99) (k := 0) (i := 0) C (by decide +kernel) rfl rfl ?_
              refine zs_getR (o' := 288) (pc := 100) (i := 9) (ci := 12) (k := 0) C (by decide +kernel) fl_RX12_9 rfl rfl rfl ?_
              refine zs_bipush (pc := 103) (n := 8) (x := 8) C (by decide +kernel) (by decide +kernel) ?_
              refine zs_ialdk (pc := 105) (o := 288) (n := 2005) C (by decide) (by decide +kernel) rfl (fun x6 => ?_)
              refine zs_csRi (pc := 106) (As := [sI x6]) (st := []) C (Or.inl rfl) (c_X12_size l g x6) ml_RX12_561 rfl rfl (Nat.le_of_ble_eq_true rfl) ⟨Nat.le_of_ble_eq_true rfl, Nat.le_of_ble_eq_true rfl⟩ ⟨Nat.le_of_ble_eq_true rfl, Nat.le_of_ble_eq_true rfl⟩ (by decide +kernel) (fun x7 => ?_)
              exact zs_retWi (pc := 109) C hr ⟨Nat.le_of_ble_eq_true rfl, Nat.le_of_ble_eq_true rfl⟩ (by decide +kernel)
            · refine zs_ite (fun hc6 => ?_) (fun hc6 => ?_)
              · refine zs_tswI (pc := 6) (dflt := 148) (lo := 0) (hi := 10) (offs := #[58, 65, 72, 79, 86, 93, 104, 112, 124, 135, 143]) (len := 58) (i := 6) (off := 104) (tgt := 110) C (by decide +kernel) hc6 (by decide) rfl (by decide) ?_
                refine zs_aload_n (pc := 110) (k := 0) (i := 0) C (by decide +kernel) rfl rfl ?_
                refine zs_getR (o' := 288) (pc := 111) (i := 9) (ci := 12) (k := 0) C (by decide +kernel) fl_RX12_9 rfl rfl rfl ?_
                refine zs_bipush (pc := 114) (n := 24) (x := 24) C (by decide +kernel) (by decide +kernel) ?_
                refine zs_ialdk (pc := 116) (o := 288) (n := 2005) C (by decide) (by decide +kernel) rfl (fun x8 => ?_)
                exact zs_retWi (pc := 117) C hr ⟨Nat.le_of_ble_eq_true rfl, Nat.le_of_ble_eq_true rfl⟩ (by decide +kernel)
              · refine zs_ite (fun hc7 => ?_) (fun hc7 => ?_)
                · refine zs_tswI (pc := 6) (dflt := 148) (lo := 0) (hi := 10) (offs := #[58, 65, 72, 79, 86, 93, 104, 112, 124, 135, 143]) (len := 58) (i := 7) (off := 112) (tgt := 118) C (by decide +kernel) hc7 (by decide) rfl (by decide) ?_
                  refine zs_aload_n (pc := 118) (k := 0) (i := 0) C (by decide +kernel) rfl rfl ?_
                  refine zs_aload_n (pc := 119) (k := 0) (i := 0) C (by decide +kernel) rfl rfl ?_
                  refine zs_getR (o' := 288) (pc := 120) (i := 9) (ci := 12) (k := 0) C (by decide +kernel) fl_RX12_9 rfl rfl rfl ?_
                  refine zs_bipush (pc := 123) (n := 24) (x := 24) C (by decide +kernel) (by decide +kernel) ?_
                  refine zs_ialdk (pc := 125) (o := 288) (n := 2005) C (by decide) (by decide +kernel) rfl (fun x9 => ?_)
                  refine zs_cvRi (pc := 126) (As := [sI x9]) (st := []) C (Or.inl rfl) (c_X12_rainIn l g x9) ml_RX12_322 rfl rfl rfl rfl (Nat.le_of_ble_eq_true rfl) ⟨Nat.le_of_ble_eq_true rfl, Nat.le_of_ble_eq_true rfl⟩ ⟨Nat.le_of_ble_eq_true rfl, Nat.le_of_ble_eq_true rfl⟩ (by decide +kernel) (fun x10 => ?_)
                  exact zs_retWi (pc := 129) C hr ⟨Nat.le_of_ble_eq_true rfl, Nat.le_of_ble_eq_true rfl⟩ (by decide +kernel)
                · refine zs_ite (fun hc8 => ?_) (fun hc8 => ?_)
                  · refine zs_tswI (pc := 6) (dflt := 148) (lo := 0) (hi := 10) (offs := #[58, 65, 72, 79, 86, 93, 104, 112, 124, 135, 143]) (len := 58) (i := 8) (off := 124) (tgt := 130) C (by decide +kernel) hc8 (by decide) rfl (by decide) ?_
                    refine zs_aload_n (pc := 130) (k := 0) (i := 0) C (by decide +kernel) rfl rfl ?_
                    refine zs_getR (o' := 288) (pc := 131) (i := 9) (ci := 12) (k := 0) C (by decide +kernel) fl_RX12_9 rfl rfl rfl ?_
                    refine zs_bipush (pc := 134) (n := 21) (x := 21) C (by decide +kernel) (by decide +kernel) ?_
                    refine zs_ialdk (pc := 136) (o := 288) (n := 2005) C (by decide) (by decide +kernel) rfl (fun x11 => ?_)
                    refine zs_csRi (pc := 137) (As := [sI x11]) (st := []) C (Or.inl rfl) (c_X12_size l g x11) ml_RX12_561 rfl rfl (Nat.le_of_ble_eq_true rfl) ⟨Nat.le_of_ble_eq_true rfl, Nat.le_of_ble_eq_true rfl⟩ ⟨Nat.le_of_ble_eq_true rfl, Nat.le_of_ble_eq_true rfl⟩ (by decide +kernel) (fun x12 => ?_)
                    exact zs_retWi (pc := 140) C hr ⟨Nat.le_of_ble_eq_true rfl, Nat.le_of_ble_eq_true rfl⟩ (by decide +kernel)
                  · refine zs_ite (fun hc9 => ?_) (fun hc9 => ?_)
                    · refine zs_tswI (pc := 6) (dflt := 148) (lo := 0) (hi := 10) (offs := #[58, 65, 72, 79, 86, 93, 104, 112, 124, 135, 143]) (len := 58) (i := 9) (off := 135) (tgt := 141) C (by decide +kernel) hc9 (by decide) rfl (by decide) ?_
                      refine zs_aload_n (pc := 141) (k := 0) (i := 0) C (by decide +kernel) rfl rfl ?_
                      refine zs_getR (o' := 288) (pc := 142) (i := 9) (ci := 12) (k := 0) C (by decide +kernel) fl_RX12_9 rfl rfl rfl ?_
                      refine zs_bipush (pc := 145) (n := 7) (x := 7) C (by decide +kernel) (by decide +kernel) ?_
                      refine zs_ialdk (pc := 147) (o := 288) (n := 2005) C (by decide) (by decide +kernel) rfl (fun x13 => ?_)
                      exact zs_retWi (pc := 148) C hr ⟨Nat.le_of_ble_eq_true rfl, Nat.le_of_ble_eq_true rfl⟩ (by decide +kernel)
                    · refine zs_ite (fun hc10 => ?_) (fun hc10 => ?_)
                      · refine zs_tswI (pc := 6) (dflt := 148) (lo := 0) (hi := 10) (offs := #[58, 65, 72, 79, 86, 93, 104, 112, 124, 135, 143]) (len := 58) (i := 10) (off := 143) (tgt := 149) C (by decide +kernel) hc10 (by decide) rfl (by decide) ?_
                        refine zs_aload_n (pc := 149) (k := 0) (i := 0) C (by decide +kernel) rfl rfl ?_
                        refine zs_getI (pc := 150) (i := 91) (ci := 12) (k := 6) C (by decide +kernel) fl_RX12_91 rfl rfl (fun x14 => ?_)
                        exact zs_retWi (pc := 153) C hr ⟨Nat.le_of_ble_eq_true rfl, Nat.le_of_ble_eq_true rfl⟩ (by decide +kernel)
                      · refine zs_tswD (pc := 6) (dflt := 148) (lo := 0) (hi := 10) (offs := #[58, 65, 72, 79, 86, 93, 104, 112, 124, 135, 143]) (len := 58) (tgt := 154) C (by decide +kernel) (by omega) (by decide) ?_
                        refine zs_iconst (pc := 154) (n := (-1)) (x := (-1)) C (by decide +kernel) (by decide +kernel) ?_
                        exact zs_retWi (pc := 155) C hr ⟨Nat.le_of_ble_eq_true rfl, Nat.le_of_ble_eq_true rfl⟩ (by decide +kernel)
set_option maxRecDepth 20000 in
theorem c_X0_around (l : Launch) (g : GC) (a0 : Int) : ConR l g yX0_around cX0_around 3 (some .int) (rmd 1 0 0) [sR 18, sI a0] (fun mm => fX0_around a0 mm) := by
  refine zs_ofR (by decide +kernel) (Nat.le_of_ble_eq_true rfl) ?_
  intro p e s m args below meth c C hr
  replace C : Bd g RX0 cX0_around 3 p s m args meth c := C
  unfold fX0_around
  refine zs_iconst (pc := 0) (n := 1) (x := 1) C (by decide +kernel) (by decide +kernel) ?_
  refine zs_aload_n (pc := 1) (k := 0) (i := 0) C (by decide +kernel) rfl rfl ?_
  refine zs_getI (pc := 2) (i := 43) (ci := 0) (k := 9) C (by decide +kernel) fl_RX0_43 rfl rfl (fun x1 => ?_)
  refine zs_ishl (pc := 5) C (by decide +kernel) ?_
  refine zs_iconst (pc := 6) (n := 1) (x := 1) C (by decide +kernel) (by decide +kernel) ?_
  refine zs_isub (pc := 7) C (by decide +kernel) ?_
  refine zs_let (fun x2 => ?_)
  refine zs_istore_n (pc := 8) (k := 2) (i := 2) (ls' := [(2, sI x2), (0, sR 18), (1, sI a0)]) C (by decide +kernel) rfl (Nat.le_of_ble_eq_true rfl) rfl ?_
  refine zs_iload_n (pc := 9) (k := 1) (i := 1) C (by decide +kernel) rfl rfl ?_
  refine zs_aload_n (pc := 10) (k := 0) (i := 0) C (by decide +kernel) rfl rfl ?_
  refine zs_getI (pc := 11) (i := 47) (ci := 0) (k := 10) C (by decide +kernel) fl_RX0_47 rfl rfl (fun x3 => ?_)
  refine zs_iushr (pc := 14) C (by decide +kernel) ?_
  refine zs_iload_n (pc := 15) (k := 1) (i := 1) C (by decide +kernel) rfl rfl ?_
  refine zs_aload_n (pc := 16) (k := 0) (i := 0) C (by decide +kernel) rfl rfl ?_
  refine zs_getI (pc := 17) (i := 47) (ci := 0) (k := 10) C (by decide +kernel) fl_RX0_47 rfl rfl (fun x4 => ?_)
  refine zs_ishl (pc := 20) C (by decide +kernel) ?_
  refine zs_iload_n (pc := 21) (k := 2) (i := 2) C (by decide +kernel) rfl rfl ?_
  refine zs_iand (pc := 22) C (by decide +kernel) ?_
  refine zs_ior (pc := 23) C (by decide +kernel) ?_
  refine zs_iload_n (pc := 24) (k := 1) (i := 1) C (by decide +kernel) rfl rfl ?_
  refine zs_aload_n (pc := 25) (k := 0) (i := 0) C (by decide +kernel) rfl rfl ?_
  refine zs_getI (pc := 26) (i := 50) (ci := 0) (k := 11) C (by decide +kernel) fl_RX0_50 rfl rfl (fun x5 => ?_)
  refine zs_iconst (pc := 29) (n := (-1)) (x := (-1)) C (by decide +kernel) (by decide +kernel) ?_
  refine zs_ixor (pc := 30) C (by decide +kernel) ?_
  refine zs_iand (pc := 31) C (by decide +kernel) ?_
  refine zs_iconst (pc := 32) (n := 1) (x := 1) C (by decide +kernel) (by decide +kernel) ?_
  refine zs_ishl (pc := 33) C (by decide +kernel) ?_
  refine zs_ior (pc := 34) C (by decide +kernel) ?_
  refine zs_iload_n (pc := 35) (k := 1) (i := 1) C (by decide +kernel) rfl rfl ?_
  refine zs_iconst (pc := 36) (n := 1) (x := 1) C (by decide +kernel) (by decide +kernel) ?_
  refine zs_iushr (pc := 37) C (by decide +kernel) ?_
  refine zs_aload_n (pc := 38) (k := 0) (i := 0) C (by decide +kernel) rfl rfl ?_
  refine zs_getI (pc := 39) (i := 50) (ci := 0) (k := 11) C (by decide +kernel) fl_RX0_50 rfl rfl (fun x6 => ?_)
  refine zs_iconst (pc := 42) (n := (-1)) (x := (-1)) C (by decide +kernel) (by decide +kernel) ?_
  refine zs_ixor (pc := 43) C (by decide +kernel) ?_
  refine zs_iand (pc := 44) C (by decide +kernel) ?_
  refine zs_ior (pc := 45) C (by decide +kernel) ?_
  exact zs_retRi (pc := 46) C hr ⟨Nat.le_of_ble_eq_true rfl, Nat.le_of_ble_eq_true rfl⟩ (by decide +kernel)
set_option maxRecDepth 20000 in
theorem c_X0_start (l : Launch) (g : GC)  : ConV l g yX0_start cX0_start 2 (rmd 1 0 0) [sR 18] (fun mm => fX0_start  mm) := by
  refine zs_ofV (by decide +kernel) (Nat.le_of_ble_eq_true rfl) ?_
  intro p e s m args below meth c C hr
  replace C : Bd g RX0 cX0_start 2 p s m args meth c := C
  unfold fX0_start
  refine zs_iconst (pc := 0) (n := 0) (x := 0) C (by decide +kernel) (by decide +kernel) ?_
  refine zs_istore_n (pc := 1) (k := 1) (i := 1) (ls' := [(1, sI 0), (0, sR 18)]) C (by decide +kernel) rfl (Nat.le_of_ble_eq_true rfl) rfl ?_
  refine zs_sub (ls' := [(0, sR 18), (1, sI 0)]) ⟨rfl, rfl, trivial⟩ ?_
  refine zs_lp (pc := 2) (fun (t1 : Int) => [(0, sR 18), (1, sI t1)]) (fun _ => []) (fun K2 hK2 t1 => ?_) BIG 0
  refine zs_iload_n (pc := 2) (k := 1) (i := 1) C (by decide +kernel) rfl rfl ?_
  refine zs_bipush (pc := 3) (n := 25) (x := 25) C (by decide +kernel) (by decide +kernel) ?_
  refine zs_icmp_ge (pc := 5) (off := 16) (tgt := 21) C (by decide +kernel) (by decide) ?_ ?_
  · refine zs_aload_n (pc := 21) (k := 0) (i := 0) C (by decide +kernel) rfl rfl ?_
    refine zs_getR (o' := 82) (pc := 22) (i := 31) (ci := 0) (k := 5) C (by decide +kernel) fl_RX0_31 rfl rfl rfl ?_
    refine zs_aload_n (pc := 25) (k := 0) (i := 0) C (by decide +kernel) rfl rfl ?_
    refine zs_getR (o' := 19) (pc := 26) (i := 12) (ci := 0) (k := 0) C (by decide +kernel) fl_RX0_12 rfl rfl rfl ?_
    refine zs_getR (o' := 27) (pc := 29) (i := 88) (ci := 10) (k := 1) C (by decide +kernel) fl_RX0_88 rfl rfl rfl ?_
    refine zs_getR (o' := 28) (pc := 32) (i := 150) (ci := 5) (k := 4) C (by decide +kernel) fl_RX0_150 rfl rfl rfl ?_
    refine zs_aload_n (pc := 35) (k := 0) (i := 0) C (by decide +kernel) rfl rfl ?_
    refine zs_getI (pc := 36) (i := 53) (ci := 0) (k := 12) C (by decide +kernel) fl_RX0_53 rfl rfl (fun x3 => ?_)
    refine zs_iald (pc := 39) (o := 28) (n := 4) C (by decide +kernel) rfl (fun hinx4 x4 => ?_)
    refine zs_iconst (pc := 40) (n := 1) (x := 1) C (by decide +kernel) (by decide +kernel) ?_
    refine zs_aload_n (pc := 41) (k := 0) (i := 0) C (by decide +kernel) rfl rfl ?_
    refine zs_getR (o' := 19) (pc := 42) (i := 12) (ci := 0) (k := 0) C (by decide +kernel) fl_RX0_12 rfl rfl rfl ?_
    refine zs_getR (o' := 27) (pc := 45) (i := 88) (ci := 10) (k := 1) C (by decide +kernel) fl_RX0_88 rfl rfl rfl ?_
    refine zs_getR (o' := 29) (pc := 48) (i := 153) (ci := 5) (k := 5) C (by decide +kernel) fl_RX0_153 rfl rfl rfl ?_
    refine zs_aload_n (pc := 51) (k := 0) (i := 0) C (by decide +kernel) rfl rfl ?_
    refine zs_getI (pc := 52) (i := 53) (ci := 0) (k := 12) C (by decide +kernel) fl_RX0_53 rfl rfl (fun x5 => ?_)
    refine zs_iald (pc := 55) (o := 29) (n := 4) C (by decide +kernel) rfl (fun hinx6 x6 => ?_)
    refine zs_ishl (pc := 56) C (by decide +kernel) ?_
    refine zs_iast (pc := 57) (o := 82) (n := 1025) C (fun _ _ _ => rfl) (by decide +kernel) rfl ?_
    exact zs_retVv (pc := 58) C hr ⟨Nat.le_of_ble_eq_true rfl, Nat.le_of_ble_eq_true rfl⟩ (by decide +kernel)
  · refine zs_aload_n (pc := 8) (k := 0) (i := 0) C (by decide +kernel) rfl rfl ?_
    refine zs_getR (o' := 82) (pc := 9) (i := 31) (ci := 0) (k := 5) C (by decide +kernel) fl_RX0_31 rfl rfl rfl ?_
    refine zs_iload_n (pc := 12) (k := 1) (i := 1) C (by decide +kernel) rfl rfl ?_
    refine zs_iconst (pc := 13) (n := 0) (x := 0) C (by decide +kernel) (by decide +kernel) ?_
    refine zs_iast (pc := 14) (o := 82) (n := 1025) C (fun _ _ _ => rfl) (by decide +kernel) rfl ?_
    refine zs_iinc (pc := 15) (i := 1) (n := 1) (y := w32 (t1 + 1)) (ls' := [(1, sI (w32 (t1 + 1))), (0, sR 18)]) C (by decide +kernel) rfl rfl (Nat.le_of_ble_eq_true rfl) rfl ?_
    refine zs_goto (pc := 18) (off := (-16)) (tgt := 2) C (by decide +kernel) (by decide) ?_
    exact zs_goj (hK2 (w32 (t1 + 1))) ⟨rfl, rfl, trivial⟩
set_option maxRecDepth 20000 in
theorem c_X0_spreadAround (l : Launch) (g : GC) (a0 : Int) : ConR l g yX0_spreadAround cX0_spreadAround 6 (some .int) (rmd 1 0 0) [sR 18, sI a0] (fun mm => fX0_spreadAround a0 mm) := by
  refine zs_ofR (by decide +kernel) (Nat.le_of_ble_eq_true rfl) ?_
  intro p e s m args below meth c C hr
  replace C : Bd g RX0 cX0_spreadAround 6 p s m args meth c := C
  unfold fX0_spreadAround
  refine zs_iload_n (pc := 0) (k := 1) (i := 1) C (by decide +kernel) rfl rfl ?_
  refine zs_aload_n (pc := 1) (k := 0) (i := 0) C (by decide +kernel) rfl rfl ?_
  refine zs_getI (pc := 2) (i := 47) (ci := 0) (k := 10) C (by decide +kernel) fl_RX0_47 rfl rfl (fun x1 => ?_)
  refine zs_jn (pJ := 23) (kJ := 0) (sJ := 0) (fun t2 => [(0, sR 18), (1, sI a0)]) (fun t2 => [sI t2]) (fun t2 => ?_) (fun J3 hJ3 => ?_)
  · refine zs_istore_n (pc := 23) (k := 2) (i := 2) (ls' := [(2, sI t2), (0, sR 18), (1, sI a0)]) C (by decide +kernel) rfl (Nat.le_of_ble_eq_true rfl) rfl ?_
    refine zs_aload_n (pc := 24) (k := 0) (i := 0) C (by decide +kernel) rfl rfl ?_
    refine zs_getI (pc := 25) (i := 50) (ci := 0) (k := 11) C (by decide +kernel) fl_RX0_50 rfl rfl (fun x4 => ?_)
    refine zs_iload_n (pc := 28) (k := 1) (i := 1) C (by decide +kernel) rfl rfl ?_
    refine zs_iushr (pc := 29) C (by decide +kernel) ?_
    refine zs_iconst (pc := 30) (n := 1) (x := 1) C (by decide +kernel) (by decide +kernel) ?_
    refine zs_iand (pc := 31) C (by decide +kernel) ?_
    refine zs_jn (pJ := 47) (kJ := 0) (sJ := 0) (fun t5 => [(0, sR 18), (1, sI a0), (2, sI t2)]) (fun t5 => [sI t5]) (fun t5 => ?_) (fun J6 hJ6 => ?_)
    · refine zs_istore_n (pc := 47) (k := 3) (i := 3) (ls' := [(3, sI t5), (0, sR 18), (1, sI a0), (2, sI t2)]) C (by decide +kernel) rfl (Nat.le_of_ble_eq_true rfl) rfl ?_
      refine zs_iload_n (pc := 48) (k := 1) (i := 1) C (by decide +kernel) rfl rfl ?_
      refine zs_aload_n (pc := 49) (k := 0) (i := 0) C (by decide +kernel) rfl rfl ?_
      refine zs_getI (pc := 50) (i := 47) (ci := 0) (k := 10) C (by decide +kernel) fl_RX0_47 rfl rfl (fun x7 => ?_)
      refine zs_iadd (pc := 53) C (by decide +kernel) ?_
      refine zs_aload_n (pc := 54) (k := 0) (i := 0) C (by decide +kernel) rfl rfl ?_
      refine zs_getI (pc := 55) (i := 43) (ci := 0) (k := 9) C (by decide +kernel) fl_RX0_43 rfl rfl (fun x8 => ?_)
      refine zs_jn (pJ := 76) (kJ := 0) (sJ := 0) (fun t9 => [(0, sR 18), (1, sI a0), (2, sI t2), (3, sI t5)]) (fun t9 => [sI t9]) (fun t9 => ?_) (fun J10 hJ10 => ?_)
      · refine zs_istore (pc := 76) (i := 4) (ls' := [(4, sI t9), (0, sR 18), (1, sI a0), (2, sI t2), (3, sI t5)]) C (by decide +kernel) (Nat.le_of_ble_eq_true rfl) rfl ?_
        refine zs_iload_n (pc := 78) (k := 1) (i := 1) C (by decide +kernel) rfl rfl ?_
        refine zs_jn (pJ := 107) (kJ := 0) (sJ := 0) (fun t11 => [(2, sI t2), (3, sI t5), (4, sI t9)]) (fun t11 => [sI t11]) (fun t11 => ?_) (fun J12 hJ12 => ?_)
        · refine zs_istore (pc := 107) (i := 5) (ls' := [(5, sI t11), (2, sI t2), (3, sI t5), (4, sI t9)]) C (by decide +kernel) (Nat.le_of_ble_eq_true rfl) rfl ?_
          refine zs_iload_n (pc := 109) (k := 2) (i := 2) C (by decide +kernel) rfl rfl ?_
          refine zs_iload_n (pc := 110) (k := 3) (i := 3) C (by decide +kernel) rfl rfl ?_
          refine zs_ior (pc := 111) C (by decide +kernel) ?_
          refine zs_iload (pc := 112) (i := 4) C (by decide +kernel) rfl ?_
          refine zs_ior (pc := 114) C (by decide +kernel) ?_
          refine zs_iload (pc := 115) (i := 5) C (by decide +kernel) rfl ?_
          refine zs_ior (pc := 117) C (by decide +kernel) ?_
          exact zs_retRi (pc := 118) C hr ⟨Nat.le_of_ble_eq_true rfl, Nat.le_of_ble_eq_true rfl⟩ (by decide +kernel)
        · refine zs_jn (pJ := 106) (kJ := 0) (sJ := 0) (fun t13 => [(2, sI t2), (3, sI t5), (4, sI t9)]) (fun t13 => []) (fun t13 => ?_) (fun J14 hJ14 => ?_)
          · refine zs_iconst (pc := 106) (n := 0) (x := 0) C (by decide +kernel) (by decide +kernel) ?_
            exact zs_goj (hJ12 0) ⟨rfl, rfl, rfl, trivial⟩
          · refine zs_if_le (pc := 79) (off := 27) (tgt := 106) C (by decide +kernel) (by decide) ?_ ?_
            · exact zs_goj (hJ14 ()) ⟨rfl, rfl, rfl, trivial⟩
            · refine zs_aload_n (pc := 82) (k := 0) (i := 0) C (by decide +kernel) rfl rfl ?_
              refine zs_getI (pc := 83) (i := 50) (ci := 0) (k := 11) C (by decide +kernel) fl_RX0_50 rfl rfl (fun x15 => ?_)
              refine zs_iload_n (pc := 86) (k := 1) (i := 1) C (by decide +kernel) rfl rfl ?_
              refine zs_iconst (pc := 87) (n := 1) (x := 1) C (by decide +kernel) (by decide +kernel) ?_
              refine zs_isub (pc := 88) C (by decide +kernel) ?_
              refine zs_iushr (pc := 89) C (by decide +kernel) ?_
              refine zs_iconst (pc := 90) (n := 1) (x := 1) C (by decide +kernel) (by decide +kernel) ?_
              refine zs_iand (pc := 91) C (by decide +kernel) ?_
              refine zs_if_ne (pc := 92) (off := 14) (tgt := 106) C (by decide +kernel) (by decide) ?_ ?_
              · exact zs_goj (hJ14 ()) ⟨rfl, rfl, rfl, trivial⟩
              · refine zs_aload_n (pc := 95) (k := 0) (i := 0) C (by decide +kernel) rfl rfl ?_
                refine zs_getR (o' := 84) (pc := 96) (i := 37) (ci := 0) (k := 7) C (by decide +kernel) fl_RX0_37 rfl rfl rfl ?_
                refine zs_iload_n (pc := 99) (k := 1) (i := 1) C (by decide +kernel) rfl rfl ?_
                refine zs_iconst (pc := 100) (n := 1) (x := 1) C (by decide +kernel) (by decide +kernel) ?_
                refine zs_isub (pc := 101) C (by decide +kernel) ?_
                refine zs_iald (pc := 102) (o := 84) (n := 25) C (by decide +kernel) rfl (fun hinx16 x16 => ?_)
                refine zs_goto (pc := 103) (off := 4) (tgt := 107) C (by decide +kernel) (by decide) ?_
                exact zs_goj (hJ12 x16) ⟨rfl, rfl, rfl, trivial⟩
      · refine zs_icmp_ge (pc := 58) (off := 17) (tgt := 75) C (by decide +kernel) (by decide) ?_ ?_
        · refine zs_iconst (pc := 75) (n := 0) (x := 0) C (by decide +kernel) (by decide +kernel) ?_
          exact zs_goj (hJ10 0) ⟨rfl, rfl, rfl, rfl, trivial⟩
        · refine zs_aload_n (pc := 61) (k := 0) (i := 0) C (by decide +kernel) rfl rfl ?_
          refine zs_getR (o' := 84) (pc := 62) (i := 37) (ci := 0) (k := 7) C (by decide +kernel) fl_RX0_37 rfl rfl rfl ?_
          refine zs_iload_n (pc := 65) (k := 1) (i := 1) C (by decide +kernel) rfl rfl ?_
          refine zs_aload_n (pc := 66) (k := 0) (i := 0) C (by decide +kernel) rfl rfl ?_
          refine zs_getI (pc := 67) (i := 47) (ci := 0) (k := 10) C (by decide +kernel) fl_RX0_47 rfl rfl (fun x17 => ?_)
          refine zs_iadd (pc := 70) C (by decide +kernel) ?_
          refine zs_iald (pc := 71) (o := 84) (n := 25) C (by decide +kernel) rfl (fun hinx18 x18 => ?_)
          refine zs_goto (pc := 72) (off := 4) (tgt := 76) C (by decide +kernel) (by decide) ?_
          exact zs_goj (hJ10 x18) ⟨rfl, rfl, rfl, rfl, trivial⟩
    · refine zs_if_ne (pc := 32) (off := 14) (tgt := 46) C (by decide +kernel) (by decide) ?_ ?_
      · refine zs_iconst (pc := 46) (n := 0) (x := 0) C (by decide +kernel) (by decide +kernel) ?_
        exact zs_goj (hJ6 0) ⟨rfl, rfl, rfl, trivial⟩
      · refine zs_aload_n (pc := 35) (k := 0) (i := 0) C (by decide +kernel) rfl rfl ?_
        refine zs_getR (o' := 84) (pc := 36) (i := 37) (ci := 0) (k := 7) C (by decide +kernel) fl_RX0_37 rfl rfl rfl ?_
        refine zs_iload_n (pc := 39) (k := 1) (i := 1) C (by decide +kernel) rfl rfl ?_
        refine zs_iconst (pc := 40) (n := 1) (x := 1) C (by decide +kernel) (by decide +kernel) ?_
        refine zs_iadd (pc := 41) C (by decide +kernel) ?_
        refine zs_iald (pc := 42) (o := 84) (n := 25) C (by decide +kernel) rfl (fun hinx19 x19 => ?_)
        refine zs_goto (pc := 43) (off := 4) (tgt := 47) C (by decide +kernel) (by decide) ?_
        exact zs_goj (hJ6 x19) ⟨rfl, rfl, rfl, trivial⟩
  · refine zs_icmp_lt (pc := 5) (off := 17) (tgt := 22) C (by decide +kernel) (by decide) ?_ ?_
    · refine zs_iconst (pc := 22) (n := 0) (x := 0) C (by decide +kernel) (by decide +kernel) ?_
      exact zs_goj (hJ3 0) ⟨rfl, rfl, trivial⟩
    · refine zs_aload_n (pc := 8) (k := 0) (i := 0) C (by decide +kernel) rfl rfl ?_
      refine zs_getR (o' := 84) (pc := 9) (i := 37) (ci := 0) (k := 7) C (by decide +kernel) fl_RX0_37 rfl rfl rfl ?_
      refine zs_iload_n (pc := 12) (k := 1) (i := 1) C (by decide +kernel) rfl rfl ?_
      refine zs_aload_n (pc := 13) (k := 0) (i := 0) C (by decide +kernel) rfl rfl ?_
      refine zs_getI (pc := 14) (i := 47) (ci := 0) (k := 10) C (by decide +kernel) fl_RX0_47 rfl rfl (fun x20 => ?_)
      refine zs_isub (pc := 17) C (by decide +kernel) ?_
      refine zs_iald (pc := 18) (o := 84) (n := 25) C (by decide +kernel) rfl (fun hinx21 x21 => ?_)
      refine zs_goto (pc := 19) (off := 4) (tgt := 23) C (by decide +kernel) (by decide) ?_
      exact zs_goj (hJ3 x21) ⟨rfl, rfl, trivial⟩
set_option maxRecDepth 20000 in
theorem c_X0_stepOn (l : Launch) (g : GC) (a0 : Nat) (n0 : Nat) (a1 : Int) (a2 : Nat) (n2 : Nat) (a3 : Int) (a4 : Int) (h0_ : layL[a0]? = some (.inr (0, n0))) (h2_ : layL[a2]? = some (.inr (0, n2))) : ConW l g yX0_stepOn cX0_stepOn 11 (some .boolean) (rmd 4 0 0) [sR 18, sR a0, sI a1, sR a2, sI a3, sI a4] (fun mm => fX0_stepOn a0 n0 a1 a2 n2 a3 a4 mm) := by
  refine zs_ofW (by decide +kernel) (Nat.le_of_ble_eq_true rfl) ?_
  intro p e s m args below meth c C hr
  replace C : Bd g RX0 cX0_stepOn 11 p s m args meth c := C
  unfold fX0_stepOn
  refine zs_aload_n (pc := 0) (k := 0) (i := 0) C (by decide +kernel) rfl rfl ?_
  refine zs_iload (pc := 1) (i := 5) C (by decide +kernel) rfl ?_
  refine zs_cvVv (pc := 3) (As := [sI a4]) (st := []) C (fun _ _ _ => rfl) (c_X0_foresee l g a4) ml_RX0_156 rfl rfl rfl rfl (Nat.le_of_ble_eq_true rfl) ⟨Nat.le_of_ble_eq_true rfl, Nat.le_of_ble_eq_true rfl⟩ ⟨Nat.le_of_ble_eq_true rfl, Nat.le_of_ble_eq_true rfl⟩ (by decide +kernel) ?_
  refine zs_aload_n (pc := 6) (k := 0) (i := 0) C (by decide +kernel) rfl rfl ?_
  refine zs_getR (o' := 78) (pc := 7) (i := 18) (ci := 0) (k := 1) C (by decide +kernel) fl_RX0_18 rfl rfl rfl ?_
  refine zs_iload (pc := 10) (i := 5) C (by decide +kernel) rfl ?_
  refine zs_iald (pc := 12) (o := 78) (n := 41) C (by decide +kernel) rfl (fun hinx1 x1 => ?_)
  refine zs_aload_n (pc := 13) (k := 0) (i := 0) C (by decide +kernel) rfl rfl ?_
  refine zs_getI (pc := 14) (i := 56) (ci := 0) (k := 13) C (by decide +kernel) fl_RX0_56 rfl rfl (fun x2 => ?_)
  refine zs_iconst (pc := 17) (n := (-1)) (x := (-1)) C (by decide +kernel) (by decide +kernel) ?_
  refine zs_ixor (pc := 18) C (by decide +kernel) ?_
  refine zs_iand (pc := 19) C (by decide +kernel) ?_
  refine zs_let (fun x3 => ?_)
  refine zs_istore (pc := 20) (i := 6) (ls' := [(6, sI x3), (0, sR 18), (1, sR a0), (2, sI a1), (3, sR a2), (4, sI a3), (5, sI a4)]) C (by decide +kernel) (Nat.le_of_ble_eq_true rfl) rfl ?_
  refine zs_aload_n (pc := 22) (k := 0) (i := 0) C (by decide +kernel) rfl rfl ?_
  refine zs_getR (o' := 79) (pc := 23) (i := 22) (ci := 0) (k := 2) C (by decide +kernel) fl_RX0_22 rfl rfl rfl ?_
  refine zs_iload (pc := 26) (i := 5) C (by decide +kernel) rfl ?_
  refine zs_iald (pc := 28) (o := 79) (n := 41) C (by decide +kernel) rfl (fun hinx4 x4 => ?_)
  refine zs_aload_n (pc := 29) (k := 0) (i := 0) C (by decide +kernel) rfl rfl ?_
  refine zs_getI (pc := 30) (i := 56) (ci := 0) (k := 13) C (by decide +kernel) fl_RX0_56 rfl rfl (fun x5 => ?_)
  refine zs_iconst (pc := 33) (n := (-1)) (x := (-1)) C (by decide +kernel) (by decide +kernel) ?_
  refine zs_ixor (pc := 34) C (by decide +kernel) ?_
  refine zs_iand (pc := 35) C (by decide +kernel) ?_
  refine zs_let (fun x6 => ?_)
  refine zs_istore (pc := 36) (i := 7) (ls' := [(7, sI x6), (6, sI x3), (0, sR 18), (1, sR a0), (2, sI a1), (3, sR a2), (4, sI a3), (5, sI a4)]) C (by decide +kernel) (Nat.le_of_ble_eq_true rfl) rfl ?_
  refine zs_iconst (pc := 38) (n := 0) (x := 0) C (by decide +kernel) (by decide +kernel) ?_
  refine zs_istore (pc := 39) (i := 8) (ls' := [(8, sI 0), (7, sI x6), (6, sI x3), (0, sR 18), (1, sR a0), (2, sI a1), (3, sR a2), (4, sI a3), (5, sI a4)]) C (by decide +kernel) (Nat.le_of_ble_eq_true rfl) rfl ?_
  refine zs_sub (ls' := [(0, sR 18), (1, sR a0), (2, sI a1), (3, sR a2), (4, sI a3), (5, sI a4), (6, sI x3), (7, sI x6), (8, sI 0)]) ⟨rfl, rfl, rfl, rfl, rfl, rfl, rfl, rfl, rfl, trivial⟩ ?_
  refine zs_lp (pc := 41) (fun (t7 : Int) => [(0, sR 18), (1, sR a0), (2, sI a1), (3, sR a2), (4, sI a3), (5, sI a4), (6, sI x3), (7, sI x6), (8, sI t7)]) (fun _ => []) (fun K8 hK8 t7 => ?_) BIG 0
  refine zs_iload (pc := 41) (i := 8) C (by decide +kernel) rfl ?_
  refine zs_aload_n (pc := 43) (k := 0) (i := 0) C (by decide +kernel) rfl rfl ?_
  refine zs_getI (pc := 44) (i := 43) (ci := 0) (k := 9) C (by decide +kernel) fl_RX0_43 rfl rfl (fun x9 => ?_)
  refine zs_icmp_ge (pc := 47) (off := 45) (tgt := 92) C (by decide +kernel) (by decide) ?_ ?_
  · refine zs_iconst (pc := 92) (n := 0) (x := 0) C (by decide +kernel) (by decide +kernel) ?_
    refine zs_istore (pc := 93) (i := 8) (ls' := [(8, sI 0), (0, sR 18), (1, sR a0), (2, sI a1), (3, sR a2), (4, sI a3), (5, sI a4), (6, sI x3), (7, sI x6)]) C (by decide +kernel) (Nat.le_of_ble_eq_true rfl) rfl ?_
    refine zs_iconst (pc := 95) (n := 0) (x := 0) C (by decide +kernel) (by decide +kernel) ?_
    refine zs_istore (pc := 96) (i := 9) (ls' := [(9, sI 0), (8, sI 0), (0, sR 18), (1, sR a0), (2, sI a1), (3, sR a2), (4, sI a3), (5, sI a4), (6, sI x3), (7, sI x6)]) C (by decide +kernel) (Nat.le_of_ble_eq_true rfl) rfl ?_
    refine zs_sub (ls' := [(0, sR 18), (3, sR a2), (4, sI a3), (5, sI a4), (6, sI x3), (8, sI 0), (9, sI 0)]) ⟨rfl, rfl, rfl, rfl, rfl, rfl, rfl, trivial⟩ ?_
    refine zs_lp (pc := 98) (fun (t10 : Int × Int) => [(0, sR 18), (3, sR a2), (4, sI a3), (5, sI a4), (6, sI x3), (8, sI t10.1), (9, sI t10.2)]) (fun _ => []) (fun K11 hK11 t10 => ?_) BIG (0, 0)
    refine zs_iload (pc := 98) (i := 9) C (by decide +kernel) rfl ?_
    refine zs_aload_n (pc := 100) (k := 0) (i := 0) C (by decide +kernel) rfl rfl ?_
    refine zs_getI (pc := 101) (i := 43) (ci := 0) (k := 9) C (by decide +kernel) fl_RX0_43 rfl rfl (fun x12 => ?_)
    refine zs_icmp_ge (pc := 104) (off := 79) (tgt := 183) C (by decide +kernel) (by decide) ?_ ?_
    · refine zs_iload (pc := 183) (i := 8) C (by decide +kernel) rfl ?_
      refine zs_jn (pJ := 193) (kJ := 0) (sJ := 0) (fun t13 => []) (fun t13 => [sI t13]) (fun t13 => ?_) (fun J14 hJ14 => ?_)
      · refine zs_chk (fun _ hx => ?_)
        exact zs_retWz (pc := 193) C hx hr ⟨Nat.le_of_ble_eq_true rfl, Nat.le_of_ble_eq_true rfl⟩ (by decide +kernel)
      · refine zs_if_eq (pc := 185) (off := 7) (tgt := 192) C (by decide +kernel) (by decide) ?_ ?_
        · refine zs_iconst (pc := 192) (n := 0) (x := 0) C (by decide +kernel) (by decide +kernel) ?_
          exact zs_goj (hJ14 0) trivial
        · refine zs_iconst (pc := 188) (n := 1) (x := 1) C (by decide +kernel) (by decide +kernel) ?_
          refine zs_goto (pc := 189) (off := 4) (tgt := 193) C (by decide +kernel) (by decide) ?_
          exact zs_goj (hJ14 1) trivial
    · refine zs_aload_n (pc := 107) (k := 0) (i := 0) C (by decide +kernel) rfl rfl ?_
      refine zs_getR (o' := 84) (pc := 108) (i := 37) (ci := 0) (k := 7) C (by decide +kernel) fl_RX0_37 rfl rfl rfl ?_
      refine zs_iload (pc := 111) (i := 9) C (by decide +kernel) rfl ?_
      refine zs_iald (pc := 113) (o := 84) (n := 25) C (by decide +kernel) rfl (fun hinx15 x15 => ?_)
      refine zs_istore (pc := 114) (i := 10) (ls' := [(10, sI x15), (0, sR 18), (3, sR a2), (4, sI a3), (5, sI a4), (6, sI x3), (8, sI t10.1), (9, sI t10.2)]) C (by decide +kernel) (Nat.le_of_ble_eq_true rfl) rfl ?_
      refine zs_iload (pc := 116) (i := 6) C (by decide +kernel) rfl ?_
      refine zs_iload (pc := 118) (i := 9) C (by decide +kernel) rfl ?_
      refine zs_iushr (pc := 120) C (by decide +kernel) ?_
      refine zs_iconst (pc := 121) (n := 1) (x := 1) C (by decide +kernel) (by decide +kernel) ?_
      refine zs_iand (pc := 122) C (by decide +kernel) ?_
      refine zs_jn (pJ := 137) (kJ := 0) (sJ := 0) (fun t16 => [(0, sR 18), (3, sR a2), (4, sI a3), (5, sI a4), (6, sI x3), (8, sI t10.1), (9, sI t10.2), (10, sI t16)]) (fun t16 => []) (fun t16 => ?_) (fun J17 hJ17 => ?_)
      · refine zs_aload_n (pc := 137) (k := 3) (i := 3) C (by decide +kernel) rfl rfl ?_
        refine zs_iload (pc := 138) (i := 4) C (by decide +kernel) rfl ?_
        refine zs_iload (pc := 140) (i := 9) C (by decide +kernel) rfl ?_
        refine zs_iadd (pc := 142) C (by decide +kernel) ?_
        refine zs_iload (pc := 143) (i := 10) C (by decide +kernel) rfl ?_
        refine zs_aload_n (pc := 145) (k := 0) (i := 0) C (by decide +kernel) rfl rfl ?_
        refine zs_getR (o' := 81) (pc := 146) (i := 28) (ci := 0) (k := 4) C (by decide +kernel) fl_RX0_28 rfl rfl rfl ?_
        refine zs_aload_n (pc := 149) (k := 0) (i := 0) C (by decide +kernel) rfl rfl ?_
        refine zs_getR (o' := 80) (pc := 150) (i := 25) (ci := 0) (k := 3) C (by decide +kernel) fl_RX0_25 rfl rfl rfl ?_
        refine zs_iload (pc := 153) (i := 5) C (by decide +kernel) rfl ?_
        refine zs_iald (pc := 155) (o := 80) (n := 41) C (by decide +kernel) rfl (fun hinx18 x18 => ?_)
        refine zs_bipush (pc := 156) (n := 25) (x := 25) C (by decide +kernel) (by decide +kernel) ?_
        refine zs_imul (pc := 158) C (by decide +kernel) ?_
        refine zs_iload (pc := 159) (i := 9) C (by decide +kernel) rfl ?_
        refine zs_iadd (pc := 161) C (by decide +kernel) ?_
        refine zs_iald (pc := 162) (o := 81) (n := 225) C (by decide +kernel) rfl (fun hinx19 x19 => ?_)
        refine zs_iand (pc := 163) C (by decide +kernel) ?_
        refine zs_iast (pc := 164) (o := a2) (n := n2) C (fun _ _ _ => rfl) (by decide +kernel) h2_ ?_
        refine zs_iload (pc := 165) (i := 8) C (by decide +kernel) rfl ?_
        refine zs_aload_n (pc := 167) (k := 3) (i := 3) C (by decide +kernel) rfl rfl ?_
        refine zs_iload (pc := 168) (i := 4) C (by decide +kernel) rfl ?_
        refine zs_iload (pc := 170) (i := 9) C (by decide +kernel) rfl ?_
        refine zs_iadd (pc := 172) C (by decide +kernel) ?_
        refine zs_iald (pc := 173) (o := a2) (n := n2) C (by decide +kernel) h2_ (fun hinx20 x20 => ?_)
        refine zs_ior (pc := 174) C (by decide +kernel) ?_
        refine zs_let (fun x21 => ?_)
        refine zs_istore (pc := 175) (i := 8) (ls' := [(8, sI x21), (0, sR 18), (3, sR a2), (4, sI a3), (5, sI a4), (6, sI x3), (9, sI t10.2), (10, sI t16)]) C (by decide +kernel) (Nat.le_of_ble_eq_true rfl) rfl ?_
        refine zs_iinc (pc := 177) (i := 9) (n := 1) (y := w32 (t10.2 + 1)) (ls' := [(9, sI (w32 (t10.2 + 1))), (8, sI x21), (0, sR 18), (3, sR a2), (4, sI a3), (5, sI a4), (6, sI x3), (10, sI t16)]) C (by decide +kernel) rfl rfl (Nat.le_of_ble_eq_true rfl) rfl ?_
        refine zs_goto (pc := 180) (off := (-82)) (tgt := 98) C (by decide +kernel) (by decide) ?_
        exact zs_goj (hK11 (x21, w32 (t10.2 + 1))) ⟨rfl, rfl, rfl, rfl, rfl, rfl, rfl, trivial⟩
      · refine zs_if_eq (pc := 123) (off := 14) (tgt := 137) C (by decide +kernel) (by decide) ?_ ?_
        · exact zs_goj (hJ17 x15) ⟨rfl, rfl, rfl, rfl, rfl, rfl, rfl, rfl, trivial⟩
        · refine zs_iload (pc := 126) (i := 10) C (by decide +kernel) rfl ?_
          refine zs_aload_n (pc := 128) (k := 0) (i := 0) C (by decide +kernel) rfl rfl ?_
          refine zs_iload (pc := 129) (i := 9) C (by decide +kernel) rfl ?_
          refine zs_cvRi (pc := 131) (As := [sI t10.2]) (st := [sI x15]) C (Or.inl rfl) (c_X0_spreadAround l g t10.2) ml_RX0_163 rfl rfl rfl rfl (Nat.le_of_ble_eq_true rfl) ⟨Nat.le_of_ble_eq_true rfl, Nat.le_of_ble_eq_true rfl⟩ ⟨Nat.le_of_ble_eq_true rfl, Nat.le_of_ble_eq_true rfl⟩ (by decide +kernel) (fun x22 => ?_)
          refine zs_ior (pc := 134) C (by decide +kernel) ?_
          refine zs_let (fun x23 => ?_)
          refine zs_istore (pc := 135) (i := 10) (ls' := [(10, sI x23), (0, sR 18), (3, sR a2), (4, sI a3), (5, sI a4), (6, sI x3), (8, sI t10.1), (9, sI t10.2)]) C (by decide +kernel) (Nat.le_of_ble_eq_true rfl) rfl ?_
          exact zs_goj (hJ17 x23) ⟨rfl, rfl, rfl, rfl, rfl, rfl, rfl, rfl, trivial⟩
  · refine zs_aload_n (pc := 50) (k := 1) (i := 1) C (by decide +kernel) rfl rfl ?_
    refine zs_iload_n (pc := 51) (k := 2) (i := 2) C (by decide +kernel) rfl rfl ?_
    refine zs_iload (pc := 52) (i := 8) C (by decide +kernel) rfl ?_
    refine zs_iadd (pc := 54) C (by decide +kernel) ?_
    refine zs_iald (pc := 55) (o := a0) (n := n0) C (by decide +kernel) h0_ (fun hinx24 x24 => ?_)
    refine zs_istore (pc := 56) (i := 9) (ls' := [(9, sI x24), (0, sR 18), (1, sR a0), (2, sI a1), (3, sR a2), (4, sI a3), (5, sI a4), (6, sI x3), (7, sI x6), (8, sI t7)]) C (by decide +kernel) (Nat.le_of_ble_eq_true rfl) rfl ?_
    refine zs_aload_n (pc := 58) (k := 0) (i := 0) C (by decide +kernel) rfl rfl ?_
    refine zs_getR (o' := 84) (pc := 59) (i := 37) (ci := 0) (k := 7) C (by decide +kernel) fl_RX0_37 rfl rfl rfl ?_
    refine zs_iload (pc := 62) (i := 8) C (by decide +kernel) rfl ?_
    refine zs_iload (pc := 64) (i := 9) C (by decide +kernel) rfl ?_
    refine zs_jn (pJ := 85) (kJ := 0) (sJ := 0) (fun t25 => [(0, sR 18), (1, sR a0), (2, sI a1), (3, sR a2), (4, sI a3), (5, sI a4), (6, sI x3), (7, sI x6), (8, sI t7)]) (fun t25 => [sI t25, sI t7, sR 84]) (fun t25 => ?_) (fun J26 hJ26 => ?_)
    · refine zs_iast (pc := 85) (o := 84) (n := 25) C (fun _ _ _ => rfl) (by decide +kernel) rfl ?_
      refine zs_iinc (pc := 86) (i := 8) (n := 1) (y := w32 (t7 + 1)) (ls' := [(8, sI (w32 (t7 + 1))), (0, sR 18), (1, sR a0), (2, sI a1), (3, sR a2), (4, sI a3), (5, sI a4), (6, sI x3), (7, sI x6)]) C (by decide +kernel) rfl rfl (Nat.le_of_ble_eq_true rfl) rfl ?_
      refine zs_goto (pc := 89) (off := (-48)) (tgt := 41) C (by decide +kernel) (by decide) ?_
      exact zs_goj (hK8 (w32 (t7 + 1))) ⟨rfl, rfl, rfl, rfl, rfl, rfl, rfl, rfl, rfl, trivial⟩
    · refine zs_if_ne (pc := 66) (off := 7) (tgt := 73) C (by decide +kernel) (by decide) ?_ ?_
      · refine zs_iload (pc := 73) (i := 9) C (by decide +kernel) rfl ?_
        refine zs_aload_n (pc := 75) (k := 0) (i := 0) C (by decide +kernel) rfl rfl ?_
        refine zs_iload (pc := 76) (i := 9) C (by decide +kernel) rfl ?_
        refine zs_cvRi (pc := 78) (As := [sI x24]) (st := [sI x24, sI t7, sR 84]) C (Or.inl rfl) (c_X0_around l g x24) ml_RX0_160 rfl rfl rfl rfl (Nat.le_of_ble_eq_true rfl) ⟨Nat.le_of_ble_eq_true rfl, Nat.le_of_ble_eq_true rfl⟩ ⟨Nat.le_of_ble_eq_true rfl, Nat.le_of_ble_eq_true rfl⟩ (by decide +kernel) (fun x27 => ?_)
        refine zs_iload (pc := 81) (i := 7) C (by decide +kernel) rfl ?_
        refine zs_iand (pc := 83) C (by decide +kernel) ?_
        refine zs_ior (pc := 84) C (by decide +kernel) ?_
        exact zs_goj (hJ26 (ior x24 (iand x27 x6))) ⟨rfl, rfl, rfl, rfl, rfl, rfl, rfl, rfl, rfl, trivial⟩
      · refine zs_iconst (pc := 69) (n := 0) (x := 0) C (by decide +kernel) (by decide +kernel) ?_
        refine zs_goto (pc := 70) (off := 15) (tgt := 85) C (by decide +kernel) (by decide) ?_
        exact zs_goj (hJ26 0) ⟨rfl, rfl, rfl, rfl, rfl, rfl, rfl, rfl, rfl, trivial⟩
set_option maxRecDepth 20000 in
theorem c_X0_goOn (l : Launch) (g : GC) (a0 : Int) : ConW l g yX0_goOn cX0_goOn 2 (some .boolean) (rmd 5 0 0) [sR 18, sI a0] (fun mm => fX0_goOn a0 mm) := by
  refine zs_ofW (by decide +kernel) (Nat.le_of_ble_eq_true rfl) ?_
  intro p e s m args below meth c C hr
  replace C : Bd g RX0 cX0_goOn 2 p s m args meth c := C
  unfold fX0_goOn
  refine zs_aload_n (pc := 0) (k := 0) (i := 0) C (by decide +kernel) rfl rfl ?_
  refine zs_aload_n (pc := 1) (k := 0) (i := 0) C (by decide +kernel) rfl rfl ?_
  refine zs_getR (o' := 82) (pc := 2) (i := 31) (ci := 0) (k := 5) C (by decide +kernel) fl_RX0_31 rfl rfl rfl ?_
  refine zs_iload_n (pc := 5) (k := 1) (i := 1) C (by decide +kernel) rfl rfl ?_
  refine zs_iconst (pc := 6) (n := 1) (x := 1) C (by decide +kernel) (by decide +kernel) ?_
  refine zs_isub (pc := 7) C (by decide +kernel) ?_
  refine zs_bipush (pc := 8) (n := 25) (x := 25) C (by decide +kernel) (by decide +kernel) ?_
  refine zs_imul (pc := 10) C (by decide +kernel) ?_
  refine zs_aload_n (pc := 11) (k := 0) (i := 0) C (by decide +kernel) rfl rfl ?_
  refine zs_getR (o' := 82) (pc := 12) (i := 31) (ci := 0) (k := 5) C (by decide +kernel) fl_RX0_31 rfl rfl rfl ?_
  refine zs_iload_n (pc := 15) (k := 1) (i := 1) C (by decide +kernel) rfl rfl ?_
  refine zs_bipush (pc := 16) (n := 25) (x := 25) C (by decide +kernel) (by decide +kernel) ?_
  refine zs_imul (pc := 18) C (by decide +kernel) ?_
  refine zs_iload_n (pc := 19) (k := 1) (i := 1) C (by decide +kernel) rfl rfl ?_
  refine zs_cvWi (pc := 20) (As := [sR 82, sI (w32 ((w32 (a0 - 1)) * 25)), sR 82, sI (w32 (a0 * 25)), sI a0]) (st := []) C (fun _ _ _ => rfl) (Or.inr rfl) (c_X0_stepOn l g 82 1025 (w32 ((w32 (a0 - 1)) * 25)) 82 1025 (w32 (a0 * 25)) a0 rfl rfl) ml_RX0_166 rfl rfl rfl rfl (Nat.le_of_ble_eq_true rfl) ⟨Nat.le_of_ble_eq_true rfl, Nat.le_of_ble_eq_true rfl⟩ ⟨Nat.le_of_ble_eq_true rfl, Nat.le_of_ble_eq_true rfl⟩ (by decide +kernel) (fun x1 => ?_)
  refine zs_chk (fun _ hx => ?_)
  exact zs_retWz (pc := 23) C hx hr ⟨Nat.le_of_ble_eq_true rfl, Nat.le_of_ble_eq_true rfl⟩ (by decide +kernel)
set_option maxRecDepth 20000 in
theorem c_X0_goTo (l : Launch) (g : GC) (a0 : Int) : ConW l g yX0_goTo cX0_goTo 3 (some .boolean) (rmd 6 0 0) [sR 18, sI a0] (fun mm => fX0_goTo a0 mm) := by
  refine zs_ofW (by decide +kernel) (Nat.le_of_ble_eq_true rfl) ?_
  intro p e s m args below meth c C hr
  replace C : Bd g RX0 cX0_goTo 3 p s m args meth c := C
  unfold fX0_goTo
  refine zs_aload_n (pc := 0) (k := 0) (i := 0) C (by decide +kernel) rfl rfl ?_
  refine zs_cvVv (pc := 1) (As := []) (st := []) C (fun _ _ _ => rfl) (c_X0_start l g ) ml_RX0_170 rfl rfl rfl rfl (Nat.le_of_ble_eq_true rfl) ⟨Nat.le_of_ble_eq_true rfl, Nat.le_of_ble_eq_true rfl⟩ ⟨Nat.le_of_ble_eq_true rfl, Nat.le_of_ble_eq_true rfl⟩ (by decide +kernel) ?_
  refine zs_iconst (pc := 4) (n := 1) (x := 1) C (by decide +kernel) (by decide +kernel) ?_
  refine zs_istore_n (pc := 5) (k := 2) (i := 2) (ls' := [(2, sI 1), (0, sR 18), (1, sI a0)]) C (by decide +kernel) rfl (Nat.le_of_ble_eq_true rfl) rfl ?_
  refine zs_sub (ls' := [(0, sR 18), (1, sI a0), (2, sI 1)]) ⟨rfl, rfl, rfl, trivial⟩ ?_
  refine zs_lp (pc := 6) (fun (t1 : Int) => [(0, sR 18), (1, sI a0), (2, sI t1)]) (fun _ => []) (fun K2 hK2 t1 => ?_) BIG 1
  refine zs_iload_n (pc := 6) (k := 2) (i := 2) C (by decide +kernel) rfl rfl ?_
  refine zs_iload_n (pc := 7) (k := 1) (i := 1) C (by decide +kernel) rfl rfl ?_
  refine zs_icmp_gt (pc := 8) (off := 19) (tgt := 27) C (by decide +kernel) (by decide) ?_ ?_
  · refine zs_iconst (pc := 27) (n := 1) (x := 1) C (by decide +kernel) (by decide +kernel) ?_
    exact zs_retWz (pc := 28) C (by decide) hr ⟨Nat.le_of_ble_eq_true rfl, Nat.le_of_ble_eq_true rfl⟩ (by decide +kernel)
  · refine zs_aload_n (pc := 11) (k := 0) (i := 0) C (by decide +kernel) rfl rfl ?_
    refine zs_iload_n (pc := 12) (k := 2) (i := 2) C (by decide +kernel) rfl rfl ?_
    refine zs_cvWi (pc := 13) (As := [sI t1]) (st := []) C (fun _ _ _ => rfl) (Or.inr rfl) (c_X0_goOn l g t1) ml_RX0_173 rfl rfl rfl rfl (Nat.le_of_ble_eq_true rfl) ⟨Nat.le_of_ble_eq_true rfl, Nat.le_of_ble_eq_true rfl⟩ ⟨Nat.le_of_ble_eq_true rfl, Nat.le_of_ble_eq_true rfl⟩ (by decide +kernel) (fun x3 => ?_)
    refine zs_if_ne (pc := 16) (off := 5) (tgt := 21) C (by decide +kernel) (by decide) ?_ ?_
    · refine zs_iinc (pc := 21) (i := 2) (n := 1) (y := w32 (t1 + 1)) (ls' := [(2, sI (w32 (t1 + 1))), (0, sR 18), (1, sI a0)]) C (by decide +kernel) rfl rfl (Nat.le_of_ble_eq_true rfl) rfl ?_
      refine zs_goto (pc := 24) (off := (-18)) (tgt := 6) C (by decide +kernel) (by decide) ?_
      exact zs_goj (hK2 (w32 (t1 + 1))) ⟨rfl, rfl, rfl, trivial⟩
    · refine zs_iconst (pc := 19) (n := 0) (x := 0) C (by decide +kernel) (by decide +kernel) ?_
      exact zs_retWz (pc := 20) C (by decide) hr ⟨Nat.le_of_ble_eq_true rfl, Nat.le_of_ble_eq_true rfl⟩ (by decide +kernel)
set_option maxRecDepth 20000 in
theorem c_X0_lastHour (l : Launch) (g : GC)  : ConW l g yX0_lastHour cX0_lastHour 2 (some .int) (rmd 6 0 0) [sR 18] (fun mm => fX0_lastHour  mm) := by
  refine zs_ofW (by decide +kernel) (Nat.le_of_ble_eq_true rfl) ?_
  intro p e s m args below meth c C hr
  replace C : Bd g RX0 cX0_lastHour 2 p s m args meth c := C
  unfold fX0_lastHour
  refine zs_aload_n (pc := 0) (k := 0) (i := 0) C (by decide +kernel) rfl rfl ?_
  refine zs_cvVv (pc := 1) (As := []) (st := []) C (fun _ _ _ => rfl) (c_X0_start l g ) ml_RX0_170 rfl rfl rfl rfl (Nat.le_of_ble_eq_true rfl) ⟨Nat.le_of_ble_eq_true rfl, Nat.le_of_ble_eq_true rfl⟩ ⟨Nat.le_of_ble_eq_true rfl, Nat.le_of_ble_eq_true rfl⟩ (by decide +kernel) ?_
  refine zs_iconst (pc := 4) (n := 1) (x := 1) C (by decide +kernel) (by decide +kernel) ?_
  refine zs_istore_n (pc := 5) (k := 1) (i := 1) (ls' := [(1, sI 1), (0, sR 18)]) C (by decide +kernel) rfl (Nat.le_of_ble_eq_true rfl) rfl ?_
  refine zs_sub (ls' := [(0, sR 18), (1, sI 1)]) ⟨rfl, rfl, trivial⟩ ?_
  refine zs_lp (pc := 6) (fun (t1 : Int) => [(0, sR 18), (1, sI t1)]) (fun _ => []) (fun K2 hK2 t1 => ?_) BIG 1
  refine zs_iload_n (pc := 6) (k := 1) (i := 1) C (by decide +kernel) rfl rfl ?_
  refine zs_bipush (pc := 7) (n := 40) (x := 40) C (by decide +kernel) (by decide +kernel) ?_
  refine zs_icmp_gt (pc := 9) (off := 21) (tgt := 30) C (by decide +kernel) (by decide) ?_ ?_
  · refine zs_bipush (pc := 30) (n := 40) (x := 40) C (by decide +kernel) (by decide +kernel) ?_
    exact zs_retWi (pc := 32) C hr ⟨Nat.le_of_ble_eq_true rfl, Nat.le_of_ble_eq_true rfl⟩ (by decide +kernel)
  · refine zs_aload_n (pc := 12) (k := 0) (i := 0) C (by decide +kernel) rfl rfl ?_
    refine zs_iload_n (pc := 13) (k := 1) (i := 1) C (by decide +kernel) rfl rfl ?_
    refine zs_cvWi (pc := 14) (As := [sI t1]) (st := []) C (fun _ _ _ => rfl) (Or.inr rfl) (c_X0_goOn l g t1) ml_RX0_173 rfl rfl rfl rfl (Nat.le_of_ble_eq_true rfl) ⟨Nat.le_of_ble_eq_true rfl, Nat.le_of_ble_eq_true rfl⟩ ⟨Nat.le_of_ble_eq_true rfl, Nat.le_of_ble_eq_true rfl⟩ (by decide +kernel) (fun x3 => ?_)
    refine zs_if_ne (pc := 17) (off := 7) (tgt := 24) C (by decide +kernel) (by decide) ?_ ?_
    · refine zs_iinc (pc := 24) (i := 1) (n := 1) (y := w32 (t1 + 1)) (ls' := [(1, sI (w32 (t1 + 1))), (0, sR 18)]) C (by decide +kernel) rfl rfl (Nat.le_of_ble_eq_true rfl) rfl ?_
      refine zs_goto (pc := 27) (off := (-21)) (tgt := 6) C (by decide +kernel) (by decide) ?_
      exact zs_goj (hK2 (w32 (t1 + 1))) ⟨rfl, rfl, trivial⟩
    · refine zs_iload_n (pc := 20) (k := 1) (i := 1) C (by decide +kernel) rfl rfl ?_
      refine zs_iconst (pc := 21) (n := 1) (x := 1) C (by decide +kernel) (by decide +kernel) ?_
      refine zs_isub (pc := 22) C (by decide +kernel) ?_
      exact zs_retWi (pc := 23) C hr ⟨Nat.le_of_ble_eq_true rfl, Nat.le_of_ble_eq_true rfl⟩ (by decide +kernel)
set_option maxRecDepth 20000 in
theorem c_X0_watchTo (l : Launch) (g : GC) (a0 : Int) (a1 : Int) : ConW l g yX0_watchTo cX0_watchTo 5 (some .boolean) (rmd 6 0 0) [sR 18, sI a0, sI a1] (fun mm => fX0_watchTo a0 a1 mm) := by
  refine zs_ofW (by decide +kernel) (Nat.le_of_ble_eq_true rfl) ?_
  intro p e s m args below meth c C hr
  replace C : Bd g RX0 cX0_watchTo 5 p s m args meth c := C
  unfold fX0_watchTo
  refine zs_aload_n (pc := 0) (k := 0) (i := 0) C (by decide +kernel) rfl rfl ?_
  refine zs_iload_n (pc := 1) (k := 1) (i := 1) C (by decide +kernel) rfl rfl ?_
  refine zs_cvWi (pc := 2) (As := [sI a0]) (st := []) C (fun _ _ _ => rfl) (Or.inr rfl) (c_X0_goOn l g a0) ml_RX0_173 rfl rfl rfl rfl (Nat.le_of_ble_eq_true rfl) ⟨Nat.le_of_ble_eq_true rfl, Nat.le_of_ble_eq_true rfl⟩ ⟨Nat.le_of_ble_eq_true rfl, Nat.le_of_ble_eq_true rfl⟩ (by decide +kernel) (fun x1 => ?_)
  refine zs_if_ne (pc := 5) (off := 5) (tgt := 10) C (by decide +kernel) (by decide) ?_ ?_
  · refine zs_iconst (pc := 10) (n := 0) (x := 0) C (by decide +kernel) (by decide +kernel) ?_
    refine zs_istore_n (pc := 11) (k := 3) (i := 3) (ls' := [(3, sI 0), (0, sR 18), (1, sI a0), (2, sI a1)]) C (by decide +kernel) rfl (Nat.le_of_ble_eq_true rfl) rfl ?_
    refine zs_iconst (pc := 12) (n := 0) (x := 0) C (by decide +kernel) (by decide +kernel) ?_
    refine zs_istore (pc := 13) (i := 4) (ls' := [(4, sI 0), (3, sI 0), (0, sR 18), (1, sI a0), (2, sI a1)]) C (by decide +kernel) (Nat.le_of_ble_eq_true rfl) rfl ?_
    refine zs_sub (ls' := [(0, sR 18), (1, sI a0), (2, sI a1), (3, sI 0), (4, sI 0)]) ⟨rfl, rfl, rfl, rfl, rfl, trivial⟩ ?_
    refine zs_lp (pc := 15) (fun (t2 : Int × Int) => [(0, sR 18), (1, sI a0), (2, sI a1), (3, sI t2.1), (4, sI t2.2)]) (fun _ => []) (fun K3 hK3 t2 => ?_) BIG (0, 0)
    refine zs_iload (pc := 15) (i := 4) C (by decide +kernel) rfl ?_
    refine zs_aload_n (pc := 17) (k := 0) (i := 0) C (by decide +kernel) rfl rfl ?_
    refine zs_getI (pc := 18) (i := 43) (ci := 0) (k := 9) C (by decide +kernel) fl_RX0_43 rfl rfl (fun x4 => ?_)
    refine zs_icmp_ge (pc := 21) (off := 48) (tgt := 69) C (by decide +kernel) (by decide) ?_ ?_
    · refine zs_iload_n (pc := 69) (k := 3) (i := 3) C (by decide +kernel) rfl rfl ?_
      refine zs_jn (pJ := 78) (kJ := 0) (sJ := 0) (fun t5 => []) (fun t5 => [sI t5]) (fun t5 => ?_) (fun J6 hJ6 => ?_)
      · refine zs_chk (fun _ hx => ?_)
        exact zs_retWz (pc := 78) C hx hr ⟨Nat.le_of_ble_eq_true rfl, Nat.le_of_ble_eq_true rfl⟩ (by decide +kernel)
      · refine zs_if_eq (pc := 70) (off := 7) (tgt := 77) C (by decide +kernel) (by decide) ?_ ?_
        · refine zs_iconst (pc := 77) (n := 0) (x := 0) C (by decide +kernel) (by decide +kernel) ?_
          exact zs_goj (hJ6 0) trivial
        · refine zs_iconst (pc := 73) (n := 1) (x := 1) C (by decide +kernel) (by decide +kernel) ?_
          refine zs_goto (pc := 74) (off := 4) (tgt := 78) C (by decide +kernel) (by decide) ?_
          exact zs_goj (hJ6 1) trivial
    · refine zs_iload_n (pc := 24) (k := 2) (i := 2) C (by decide +kernel) rfl rfl ?_
      refine zs_iconst (pc := 25) (n := (-1)) (x := (-1)) C (by decide +kernel) (by decide +kernel) ?_
      refine zs_jn (pJ := 48) (kJ := 0) (sJ := 0) (fun t7 => [(0, sR 18), (1, sI a0), (2, sI a1), (3, sI t2.1), (4, sI t2.2)]) (fun t7 => []) (fun t7 => ?_) (fun J8 hJ8 => ?_)
      · refine zs_iload_n (pc := 48) (k := 3) (i := 3) C (by decide +kernel) rfl rfl ?_
        refine zs_aload_n (pc := 49) (k := 0) (i := 0) C (by decide +kernel) rfl rfl ?_
        refine zs_getR (o' := 82) (pc := 50) (i := 31) (ci := 0) (k := 5) C (by decide +kernel) fl_RX0_31 rfl rfl rfl ?_
        refine zs_iload_n (pc := 53) (k := 1) (i := 1) C (by decide +kernel) rfl rfl ?_
        refine zs_bipush (pc := 54) (n := 25) (x := 25) C (by decide +kernel) (by decide +kernel) ?_
        refine zs_imul (pc := 56) C (by decide +kernel) ?_
        refine zs_iload (pc := 57) (i := 4) C (by decide +kernel) rfl ?_
        refine zs_iadd (pc := 59) C (by decide +kernel) ?_
        refine zs_iald (pc := 60) (o := 82) (n := 1025) C (by decide +kernel) rfl (fun hinx9 x9 => ?_)
        refine zs_ior (pc := 61) C (by decide +kernel) ?_
        refine zs_let (fun x10 => ?_)
        refine zs_istore_n (pc := 62) (k := 3) (i := 3) (ls' := [(3, sI x10), (0, sR 18), (1, sI a0), (2, sI a1), (4, sI t2.2)]) C (by decide +kernel) rfl (Nat.le_of_ble_eq_true rfl) rfl ?_
        refine zs_iinc (pc := 63) (i := 4) (n := 1) (y := w32 (t2.2 + 1)) (ls' := [(4, sI (w32 (t2.2 + 1))), (3, sI x10), (0, sR 18), (1, sI a0), (2, sI a1)]) C (by decide +kernel) rfl rfl (Nat.le_of_ble_eq_true rfl) rfl ?_
        refine zs_goto (pc := 66) (off := (-51)) (tgt := 15) C (by decide +kernel) (by decide) ?_
        exact zs_goj (hK3 (x10, w32 (t2.2 + 1))) ⟨rfl, rfl, rfl, rfl, rfl, trivial⟩
      · refine zs_icmp_eq (pc := 26) (off := 22) (tgt := 48) C (by decide +kernel) (by decide) ?_ ?_
        · exact zs_goj (hJ8 ()) ⟨rfl, rfl, rfl, rfl, rfl, trivial⟩
        · refine zs_iload (pc := 29) (i := 4) C (by decide +kernel) rfl ?_
          refine zs_iload_n (pc := 31) (k := 2) (i := 2) C (by decide +kernel) rfl rfl ?_
          refine zs_icmp_eq (pc := 32) (off := 16) (tgt := 48) C (by decide +kernel) (by decide) ?_ ?_
          · exact zs_goj (hJ8 ()) ⟨rfl, rfl, rfl, rfl, rfl, trivial⟩
          · refine zs_aload_n (pc := 35) (k := 0) (i := 0) C (by decide +kernel) rfl rfl ?_
            refine zs_getR (o' := 82) (pc := 36) (i := 31) (ci := 0) (k := 5) C (by decide +kernel) fl_RX0_31 rfl rfl rfl ?_
            refine zs_iload_n (pc := 39) (k := 1) (i := 1) C (by decide +kernel) rfl rfl ?_
            refine zs_bipush (pc := 40) (n := 25) (x := 25) C (by decide +kernel) (by decide +kernel) ?_
            refine zs_imul (pc := 42) C (by decide +kernel) ?_
            refine zs_iload (pc := 43) (i := 4) C (by decide +kernel) rfl ?_
            refine zs_iadd (pc := 45) C (by decide +kernel) ?_
            refine zs_iconst (pc := 46) (n := 0) (x := 0) C (by decide +kernel) (by decide +kernel) ?_
            refine zs_iast (pc := 47) (o := 82) (n := 1025) C (fun _ _ _ => rfl) (by decide +kernel) rfl ?_
            exact zs_goj (hJ8 ()) ⟨rfl, rfl, rfl, rfl, rfl, trivial⟩
  · refine zs_iconst (pc := 8) (n := 0) (x := 0) C (by decide +kernel) (by decide +kernel) ?_
    exact zs_retWz (pc := 9) C (by decide) hr ⟨Nat.le_of_ble_eq_true rfl, Nat.le_of_ble_eq_true rfl⟩ (by decide +kernel)
set_option maxRecDepth 20000 in
theorem c_X0_whereIs (l : Launch) (g : GC) (a0 : Int) (a1 : Int) : ConR l g yX0_whereIs cX0_whereIs 6 (some .int) (rmd 1 0 0) [sR 18, sI a0, sI a1] (fun mm => fX0_whereIs a0 a1 mm) := by
  refine zs_ofR (by decide +kernel) (Nat.le_of_ble_eq_true rfl) ?_
  intro p e s m args below meth c C hr
  replace C : Bd g RX0 cX0_whereIs 6 p s m args meth c := C
  unfold fX0_whereIs
  refine zs_iconst (pc := 0) (n := 0) (x := 0) C (by decide +kernel) (by decide +kernel) ?_
  refine zs_istore_n (pc := 1) (k := 3) (i := 3) (ls' := [(3, sI 0), (0, sR 18), (1, sI a0), (2, sI a1)]) C (by decide +kernel) rfl (Nat.le_of_ble_eq_true rfl) rfl ?_
  refine zs_iconst (pc := 2) (n := 0) (x := 0) C (by decide +kernel) (by decide +kernel) ?_
  refine zs_istore (pc := 3) (i := 4) (ls' := [(4, sI 0), (3, sI 0), (0, sR 18), (1, sI a0), (2, sI a1)]) C (by decide +kernel) (Nat.le_of_ble_eq_true rfl) rfl ?_
  refine zs_sub (ls' := [(0, sR 18), (1, sI a0), (2, sI a1), (3, sI 0), (4, sI 0)]) ⟨rfl, rfl, rfl, rfl, rfl, trivial⟩ ?_
  refine zs_lp (pc := 5) (fun (t1 : Int × Int) => [(0, sR 18), (1, sI a0), (2, sI a1), (3, sI t1.1), (4, sI t1.2)]) (fun _ => []) (fun K2 hK2 t1 => ?_) BIG (0, 0)
  refine zs_iload (pc := 5) (i := 4) C (by decide +kernel) rfl ?_
  refine zs_aload_n (pc := 7) (k := 0) (i := 0) C (by decide +kernel) rfl rfl ?_
  refine zs_getI (pc := 8) (i := 43) (ci := 0) (k := 9) C (by decide +kernel) fl_RX0_43 rfl rfl (fun x3 => ?_)
  refine zs_icmp_ge (pc := 11) (off := 48) (tgt := 59) C (by decide +kernel) (by decide) ?_ ?_
  · refine zs_iload_n (pc := 59) (k := 3) (i := 3) C (by decide +kernel) rfl rfl ?_
    exact zs_retRi (pc := 60) C hr ⟨Nat.le_of_ble_eq_true rfl, Nat.le_of_ble_eq_true rfl⟩ (by decide +kernel)
  · refine zs_aload_n (pc := 14) (k := 0) (i := 0) C (by decide +kernel) rfl rfl ?_
    refine zs_getR (o' := 82) (pc := 15) (i := 31) (ci := 0) (k := 5) C (by decide +kernel) fl_RX0_31 rfl rfl rfl ?_
    refine zs_iload_n (pc := 18) (k := 2) (i := 2) C (by decide +kernel) rfl rfl ?_
    refine zs_bipush (pc := 19) (n := 25) (x := 25) C (by decide +kernel) (by decide +kernel) ?_
    refine zs_imul (pc := 21) C (by decide +kernel) ?_
    refine zs_iload (pc := 22) (i := 4) C (by decide +kernel) rfl ?_
    refine zs_iadd (pc := 24) C (by decide +kernel) ?_
    refine zs_iald (pc := 25) (o := 82) (n := 1025) C (by decide +kernel) rfl (fun hinx4 x4 => ?_)
    refine zs_istore (pc := 26) (i := 5) (ls' := [(5, sI x4), (0, sR 18), (1, sI a0), (2, sI a1), (3, sI t1.1), (4, sI t1.2)]) C (by decide +kernel) (Nat.le_of_ble_eq_true rfl) rfl ?_
    refine zs_iload_n (pc := 28) (k := 1) (i := 1) C (by decide +kernel) rfl rfl ?_
    refine zs_iconst (pc := 29) (n := 1) (x := 1) C (by decide +kernel) (by decide +kernel) ?_
    refine zs_jn (pJ := 53) (kJ := 0) (sJ := 0) (fun t5 => [(0, sR 18), (1, sI a0), (2, sI a1), (3, sI t5), (4, sI t1.2)]) (fun t5 => []) (fun t5 => ?_) (fun J6 hJ6 => ?_)
    · refine zs_iinc (pc := 53) (i := 4) (n := 1) (y := w32 (t1.2 + 1)) (ls' := [(4, sI (w32 (t1.2 + 1))), (0, sR 18), (1, sI a0), (2, sI a1), (3, sI t5)]) C (by decide +kernel) rfl rfl (Nat.le_of_ble_eq_true rfl) rfl ?_
      refine zs_goto (pc := 56) (off := (-51)) (tgt := 5) C (by decide +kernel) (by decide) ?_
      exact zs_goj (hK2 (t5, w32 (t1.2 + 1))) ⟨rfl, rfl, rfl, rfl, rfl, trivial⟩
    · refine zs_icmp_ne (pc := 30) (off := 11) (tgt := 41) C (by decide +kernel) (by decide) ?_ ?_
      · refine zs_iload (pc := 41) (i := 5) C (by decide +kernel) rfl ?_
        refine zs_if_eq (pc := 43) (off := 10) (tgt := 53) C (by decide +kernel) (by decide) ?_ ?_
        · exact zs_goj (hJ6 t1.1) ⟨rfl, rfl, rfl, rfl, rfl, trivial⟩
        · refine zs_iload_n (pc := 46) (k := 3) (i := 3) C (by decide +kernel) rfl rfl ?_
          refine zs_iconst (pc := 47) (n := 1) (x := 1) C (by decide +kernel) (by decide +kernel) ?_
          refine zs_iload (pc := 48) (i := 4) C (by decide +kernel) rfl ?_
          refine zs_ishl (pc := 50) C (by decide +kernel) ?_
          refine zs_ior (pc := 51) C (by decide +kernel) ?_
          refine zs_let (fun x7 => ?_)
          refine zs_istore_n (pc := 52) (k := 3) (i := 3) (ls' := [(3, sI x7), (5, sI x4), (0, sR 18), (1, sI a0), (2, sI a1), (4, sI t1.2)]) C (by decide +kernel) rfl (Nat.le_of_ble_eq_true rfl) rfl ?_
          exact zs_goj (hJ6 x7) ⟨rfl, rfl, rfl, rfl, rfl, trivial⟩
      · refine zs_iload_n (pc := 33) (k := 3) (i := 3) C (by decide +kernel) rfl rfl ?_
        refine zs_iload (pc := 34) (i := 5) C (by decide +kernel) rfl ?_
        refine zs_ior (pc := 36) C (by decide +kernel) ?_
        refine zs_let (fun x8 => ?_)
        refine zs_istore_n (pc := 37) (k := 3) (i := 3) (ls' := [(3, sI x8), (5, sI x4), (0, sR 18), (1, sI a0), (2, sI a1), (4, sI t1.2)]) C (by decide +kernel) rfl (Nat.le_of_ble_eq_true rfl) rfl ?_
        refine zs_goto (pc := 38) (off := 15) (tgt := 53) C (by decide +kernel) (by decide) ?_
        exact zs_goj (hJ6 x8) ⟨rfl, rfl, rfl, rfl, rfl, trivial⟩
set_option maxRecDepth 20000 in
theorem c_X0_whereBoth (l : Launch) (g : GC) (a0 : Int) : ConR l g yX0_whereBoth cX0_whereBoth 4 (some .int) (rmd 1 0 0) [sR 18, sI a0] (fun mm => fX0_whereBoth a0 mm) := by
  refine zs_ofR (by decide +kernel) (Nat.le_of_ble_eq_true rfl) ?_
  intro p e s m args below meth c C hr
  replace C : Bd g RX0 cX0_whereBoth 4 p s m args meth c := C
  unfold fX0_whereBoth
  refine zs_iconst (pc := 0) (n := 0) (x := 0) C (by decide +kernel) (by decide +kernel) ?_
  refine zs_istore_n (pc := 1) (k := 2) (i := 2) (ls' := [(2, sI 0), (0, sR 18), (1, sI a0)]) C (by decide +kernel) rfl (Nat.le_of_ble_eq_true rfl) rfl ?_
  refine zs_iconst (pc := 2) (n := 0) (x := 0) C (by decide +kernel) (by decide +kernel) ?_
  refine zs_istore_n (pc := 3) (k := 3) (i := 3) (ls' := [(3, sI 0), (2, sI 0), (0, sR 18), (1, sI a0)]) C (by decide +kernel) rfl (Nat.le_of_ble_eq_true rfl) rfl ?_
  refine zs_sub (ls' := [(0, sR 18), (1, sI a0), (2, sI 0), (3, sI 0)]) ⟨rfl, rfl, rfl, rfl, trivial⟩ ?_
  refine zs_lp (pc := 4) (fun (t1 : Int × Int) => [(0, sR 18), (1, sI a0), (2, sI t1.1), (3, sI t1.2)]) (fun _ => []) (fun K2 hK2 t1 => ?_) BIG (0, 0)
  refine zs_iload_n (pc := 4) (k := 3) (i := 3) C (by decide +kernel) rfl rfl ?_
  refine zs_aload_n (pc := 5) (k := 0) (i := 0) C (by decide +kernel) rfl rfl ?_
  refine zs_getI (pc := 6) (i := 43) (ci := 0) (k := 9) C (by decide +kernel) fl_RX0_43 rfl rfl (fun x3 => ?_)
  refine zs_icmp_ge (pc := 9) (off := 27) (tgt := 36) C (by decide +kernel) (by decide) ?_ ?_
  · refine zs_iload_n (pc := 36) (k := 2) (i := 2) C (by decide +kernel) rfl rfl ?_
    exact zs_retRi (pc := 37) C hr ⟨Nat.le_of_ble_eq_true rfl, Nat.le_of_ble_eq_true rfl⟩ (by decide +kernel)
  · refine zs_iload_n (pc := 12) (k := 2) (i := 2) C (by decide +kernel) rfl rfl ?_
    refine zs_aload_n (pc := 13) (k := 0) (i := 0) C (by decide +kernel) rfl rfl ?_
    refine zs_getR (o' := 82) (pc := 14) (i := 31) (ci := 0) (k := 5) C (by decide +kernel) fl_RX0_31 rfl rfl rfl ?_
    refine zs_iload_n (pc := 17) (k := 1) (i := 1) C (by decide +kernel) rfl rfl ?_
    refine zs_bipush (pc := 18) (n := 25) (x := 25) C (by decide +kernel) (by decide +kernel) ?_
    refine zs_imul (pc := 20) C (by decide +kernel) ?_
    refine zs_iload_n (pc := 21) (k := 3) (i := 3) C (by decide +kernel) rfl rfl ?_
    refine zs_iadd (pc := 22) C (by decide +kernel) ?_
    refine zs_iald (pc := 23) (o := 82) (n := 1025) C (by decide +kernel) rfl (fun hinx4 x4 => ?_)
    refine zs_iconst (pc := 24) (n := 1) (x := 1) C (by decide +kernel) (by decide +kernel) ?_
    refine zs_iload_n (pc := 25) (k := 3) (i := 3) C (by decide +kernel) rfl rfl ?_
    refine zs_ishl (pc := 26) C (by decide +kernel) ?_
    refine zs_iand (pc := 27) C (by decide +kernel) ?_
    refine zs_ior (pc := 28) C (by decide +kernel) ?_
    refine zs_let (fun x5 => ?_)
    refine zs_istore_n (pc := 29) (k := 2) (i := 2) (ls' := [(2, sI x5), (0, sR 18), (1, sI a0), (3, sI t1.2)]) C (by decide +kernel) rfl (Nat.le_of_ble_eq_true rfl) rfl ?_
    refine zs_iinc (pc := 30) (i := 3) (n := 1) (y := w32 (t1.2 + 1)) (ls' := [(3, sI (w32 (t1.2 + 1))), (2, sI x5), (0, sR 18), (1, sI a0)]) C (by decide +kernel) rfl rfl (Nat.le_of_ble_eq_true rfl) rfl ?_
    refine zs_goto (pc := 33) (off := (-29)) (tgt := 4) C (by decide +kernel) (by decide) ?_
    exact zs_goj (hK2 (x5, w32 (t1.2 + 1))) ⟨rfl, rfl, rfl, rfl, trivial⟩
set_option maxRecDepth 20000 in
theorem c_X0_mealHour (l : Launch) (g : GC)  : ConW l g yX0_mealHour cX0_mealHour 2 (some .int) (rmd 6 0 0) [sR 18] (fun mm => fX0_mealHour  mm) := by
  refine zs_ofW (by decide +kernel) (Nat.le_of_ble_eq_true rfl) ?_
  intro p e s m args below meth c C hr
  replace C : Bd g RX0 cX0_mealHour 2 p s m args meth c := C
  unfold fX0_mealHour
  refine zs_aload_n (pc := 0) (k := 0) (i := 0) C (by decide +kernel) rfl rfl ?_
  refine zs_cvVv (pc := 1) (As := []) (st := []) C (fun _ _ _ => rfl) (c_X0_start l g ) ml_RX0_170 rfl rfl rfl rfl (Nat.le_of_ble_eq_true rfl) ⟨Nat.le_of_ble_eq_true rfl, Nat.le_of_ble_eq_true rfl⟩ ⟨Nat.le_of_ble_eq_true rfl, Nat.le_of_ble_eq_true rfl⟩ (by decide +kernel) ?_
  refine zs_iconst (pc := 4) (n := 0) (x := 0) C (by decide +kernel) (by decide +kernel) ?_
  refine zs_istore_n (pc := 5) (k := 1) (i := 1) (ls' := [(1, sI 0), (0, sR 18)]) C (by decide +kernel) rfl (Nat.le_of_ble_eq_true rfl) rfl ?_
  refine zs_sub (ls' := [(0, sR 18), (1, sI 0)]) ⟨rfl, rfl, trivial⟩ ?_
  refine zs_lp (pc := 6) (fun (t1 : Int) => [(0, sR 18), (1, sI t1)]) (fun _ => []) (fun K2 hK2 t1 => ?_) BIG 0
  refine zs_iload_n (pc := 6) (k := 1) (i := 1) C (by decide +kernel) rfl rfl ?_
  refine zs_bipush (pc := 7) (n := 40) (x := 40) C (by decide +kernel) (by decide +kernel) ?_
  refine zs_icmp_gt (pc := 9) (off := 33) (tgt := 42) C (by decide +kernel) (by decide) ?_ ?_
  · refine zs_iconst (pc := 42) (n := (-1)) (x := (-1)) C (by decide +kernel) (by decide +kernel) ?_
    exact zs_retWi (pc := 43) C hr ⟨Nat.le_of_ble_eq_true rfl, Nat.le_of_ble_eq_true rfl⟩ (by decide +kernel)
  · refine zs_iload_n (pc := 12) (k := 1) (i := 1) C (by decide +kernel) rfl rfl ?_
    refine zs_jn (pJ := 26) (kJ := 0) (sJ := 0) (fun t3 => [(0, sR 18), (1, sI t1)]) (fun t3 => []) (fun t3 => ?_) (fun J4 hJ4 => ?_)
    · refine zs_aload_n (pc := 26) (k := 0) (i := 0) C (by decide +kernel) rfl rfl ?_
      refine zs_iload_n (pc := 27) (k := 1) (i := 1) C (by decide +kernel) rfl rfl ?_
      refine zs_cvRi (pc := 28) (As := [sI t1]) (st := []) C (Or.inl rfl) (c_X0_whereBoth l g t1) ml_RX0_176 rfl rfl rfl rfl (Nat.le_of_ble_eq_true rfl) ⟨Nat.le_of_ble_eq_true rfl, Nat.le_of_ble_eq_true rfl⟩ ⟨Nat.le_of_ble_eq_true rfl, Nat.le_of_ble_eq_true rfl⟩ (by decide +kernel) (fun x5 => ?_)
      refine zs_if_eq (pc := 31) (off := 5) (tgt := 36) C (by decide +kernel) (by decide) ?_ ?_
      · refine zs_iinc (pc := 36) (i := 1) (n := 1) (y := w32 (t1 + 1)) (ls' := [(1, sI (w32 (t1 + 1))), (0, sR 18)]) C (by decide +kernel) rfl rfl (Nat.le_of_ble_eq_true rfl) rfl ?_
        refine zs_goto (pc := 39) (off := (-33)) (tgt := 6) C (by decide +kernel) (by decide) ?_
        exact zs_goj (hK2 (w32 (t1 + 1))) ⟨rfl, rfl, trivial⟩
      · refine zs_iload_n (pc := 34) (k := 1) (i := 1) C (by decide +kernel) rfl rfl ?_
        exact zs_retWi (pc := 35) C hr ⟨Nat.le_of_ble_eq_true rfl, Nat.le_of_ble_eq_true rfl⟩ (by decide +kernel)
    · refine zs_if_le (pc := 13) (off := 13) (tgt := 26) C (by decide +kernel) (by decide) ?_ ?_
      · exact zs_goj (hJ4 ()) ⟨rfl, rfl, trivial⟩
      · refine zs_aload_n (pc := 16) (k := 0) (i := 0) C (by decide +kernel) rfl rfl ?_
        refine zs_iload_n (pc := 17) (k := 1) (i := 1) C (by decide +kernel) rfl rfl ?_
        refine zs_cvWi (pc := 18) (As := [sI t1]) (st := []) C (fun _ _ _ => rfl) (Or.inr rfl) (c_X0_goOn l g t1) ml_RX0_173 rfl rfl rfl rfl (Nat.le_of_ble_eq_true rfl) ⟨Nat.le_of_ble_eq_true rfl, Nat.le_of_ble_eq_true rfl⟩ ⟨Nat.le_of_ble_eq_true rfl, Nat.le_of_ble_eq_true rfl⟩ (by decide +kernel) (fun x6 => ?_)
        refine zs_if_ne (pc := 21) (off := 5) (tgt := 26) C (by decide +kernel) (by decide) ?_ ?_
        · exact zs_goj (hJ4 ()) ⟨rfl, rfl, trivial⟩
        · refine zs_iconst (pc := 24) (n := (-1)) (x := (-1)) C (by decide +kernel) (by decide +kernel) ?_
          exact zs_retWi (pc := 25) C hr ⟨Nat.le_of_ble_eq_true rfl, Nat.le_of_ble_eq_true rfl⟩ (by decide +kernel)
set_option maxRecDepth 20000 in
theorem c_X0_widest (l : Launch) (g : GC) (a0 : Int) : ConR l g yX0_widest cX0_widest 5 (some .int) (rmd 2 0 0) [sR 18, sI a0] (fun mm => fX0_widest a0 mm) := by
  refine zs_ofR (by decide +kernel) (Nat.le_of_ble_eq_true rfl) ?_
  intro p e s m args below meth c C hr
  replace C : Bd g RX0 cX0_widest 5 p s m args meth c := C
  unfold fX0_widest
  refine zs_iconst (pc := 0) (n := (-1)) (x := (-1)) C (by decide +kernel) (by decide +kernel) ?_
  refine zs_istore_n (pc := 1) (k := 2) (i := 2) (ls' := [(2, sI ((-1))), (0, sR 18), (1, sI a0)]) C (by decide +kernel) rfl (Nat.le_of_ble_eq_true rfl) rfl ?_
  refine zs_iconst (pc := 2) (n := 0) (x := 0) C (by decide +kernel) (by decide +kernel) ?_
  refine zs_istore_n (pc := 3) (k := 3) (i := 3) (ls' := [(3, sI 0), (2, sI ((-1))), (0, sR 18), (1, sI a0)]) C (by decide +kernel) rfl (Nat.le_of_ble_eq_true rfl) rfl ?_
  refine zs_sub (ls' := [(0, sR 18), (1, sI a0), (2, sI ((-1))), (3, sI 0)]) ⟨rfl, rfl, rfl, rfl, trivial⟩ ?_
  refine zs_lp (pc := 4) (fun (t1 : Int × Int) => [(0, sR 18), (1, sI a0), (2, sI t1.1), (3, sI t1.2)]) (fun _ => []) (fun K2 hK2 t1 => ?_) BIG ((-1), 0)
  refine zs_iload_n (pc := 4) (k := 3) (i := 3) C (by decide +kernel) rfl rfl ?_
  refine zs_aload_n (pc := 5) (k := 0) (i := 0) C (by decide +kernel) rfl rfl ?_
  refine zs_getI (pc := 6) (i := 43) (ci := 0) (k := 9) C (by decide +kernel) fl_RX0_43 rfl rfl (fun x3 => ?_)
  refine zs_icmp_ge (pc := 9) (off := 64) (tgt := 73) C (by decide +kernel) (by decide) ?_ ?_
  · refine zs_iload_n (pc := 73) (k := 2) (i := 2) C (by decide +kernel) rfl rfl ?_
    exact zs_retRi (pc := 74) C hr ⟨Nat.le_of_ble_eq_true rfl, Nat.le_of_ble_eq_true rfl⟩ (by decide +kernel)
  · refine zs_iconst (pc := 12) (n := 0) (x := 0) C (by decide +kernel) (by decide +kernel) ?_
    refine zs_istore (pc := 13) (i := 4) (ls' := [(4, sI 0), (0, sR 18), (1, sI a0), (2, sI t1.1), (3, sI t1.2)]) C (by decide +kernel) (Nat.le_of_ble_eq_true rfl) rfl ?_
    refine zs_sub (ls' := [(0, sR 18), (1, sI a0), (2, sI t1.1), (3, sI t1.2), (4, sI 0)]) ⟨rfl, rfl, rfl, rfl, rfl, trivial⟩ ?_
    refine zs_lp (pc := 15) (fun (t4 : Int × Int) => [(0, sR 18), (1, sI a0), (2, sI t4.1), (3, sI t1.2), (4, sI t4.2)]) (fun _ => []) (fun K5 hK5 t4 => ?_) BIG (t1.1, 0)
    refine zs_iload (pc := 15) (i := 4) C (by decide +kernel) rfl ?_
    refine zs_aload_n (pc := 17) (k := 0) (i := 0) C (by decide +kernel) rfl rfl ?_
    refine zs_getI (pc := 18) (i := 43) (ci := 0) (k := 9) C (by decide +kernel) fl_RX0_43 rfl rfl (fun x6 => ?_)
    refine zs_icmp_ge (pc := 21) (off := 46) (tgt := 67) C (by decide +kernel) (by decide) ?_ ?_
    · refine zs_iinc (pc := 67) (i := 3) (n := 1) (y := w32 (t1.2 + 1)) (ls' := [(3, sI (w32 (t1.2 + 1))), (0, sR 18), (1, sI a0), (2, sI t4.1), (4, sI t4.2)]) C (by decide +kernel) rfl rfl (Nat.le_of_ble_eq_true rfl) rfl ?_
      refine zs_goto (pc := 70) (off := (-66)) (tgt := 4) C (by decide +kernel) (by decide) ?_
      exact zs_goj (hK2 (t4.1, w32 (t1.2 + 1))) ⟨rfl, rfl, rfl, rfl, trivial⟩
    · refine zs_aload_n (pc := 24) (k := 0) (i := 0) C (by decide +kernel) rfl rfl ?_
      refine zs_getR (o' := 82) (pc := 25) (i := 31) (ci := 0) (k := 5) C (by decide +kernel) fl_RX0_31 rfl rfl rfl ?_
      refine zs_iload_n (pc := 28) (k := 1) (i := 1) C (by decide +kernel) rfl rfl ?_
      refine zs_bipush (pc := 29) (n := 25) (x := 25) C (by decide +kernel) (by decide +kernel) ?_
      refine zs_imul (pc := 31) C (by decide +kernel) ?_
      refine zs_iload_n (pc := 32) (k := 3) (i := 3) C (by decide +kernel) rfl rfl ?_
      refine zs_iadd (pc := 33) C (by decide +kernel) ?_
      refine zs_iald (pc := 34) (o := 82) (n := 1025) C (by decide +kernel) rfl (fun hinx7 x7 => ?_)
      refine zs_iload (pc := 35) (i := 4) C (by decide +kernel) rfl ?_
      refine zs_iushr (pc := 37) C (by decide +kernel) ?_
      refine zs_iconst (pc := 38) (n := 1) (x := 1) C (by decide +kernel) (by decide +kernel) ?_
      refine zs_iand (pc := 39) C (by decide +kernel) ?_
      refine zs_jn (pJ := 61) (kJ := 0) (sJ := 0) (fun t8 => [(0, sR 18), (1, sI a0), (2, sI t8), (3, sI t1.2), (4, sI t4.2)]) (fun t8 => []) (fun t8 => ?_) (fun J9 hJ9 => ?_)
      · refine zs_iinc (pc := 61) (i := 4) (n := 1) (y := w32 (t4.2 + 1)) (ls' := [(4, sI (w32 (t4.2 + 1))), (0, sR 18), (1, sI a0), (2, sI t8), (3, sI t1.2)]) C (by decide +kernel) rfl rfl (Nat.le_of_ble_eq_true rfl) rfl ?_
        refine zs_goto (pc := 64) (off := (-49)) (tgt := 15) C (by decide +kernel) (by decide) ?_
        exact zs_goj (hK5 (t8, w32 (t4.2 + 1))) ⟨rfl, rfl, rfl, rfl, rfl, trivial⟩
      · refine zs_if_eq (pc := 40) (off := 21) (tgt := 61) C (by decide +kernel) (by decide) ?_ ?_
        · exact zs_goj (hJ9 t4.1) ⟨rfl, rfl, rfl, rfl, rfl, trivial⟩
        · refine zs_iload_n (pc := 43) (k := 2) (i := 2) C (by decide +kernel) rfl rfl ?_
          refine zs_aload_n (pc := 44) (k := 0) (i := 0) C (by decide +kernel) rfl rfl ?_
          refine zs_getR (o' := 19) (pc := 45) (i := 12) (ci := 0) (k := 0) C (by decide +kernel) fl_RX0_12 rfl rfl rfl ?_
          refine zs_getR (o' := 20) (pc := 48) (i := 72) (ci := 10) (k := 0) C (by decide +kernel) fl_RX0_72 rfl rfl rfl ?_
          refine zs_iload_n (pc := 51) (k := 3) (i := 3) C (by decide +kernel) rfl rfl ?_
          refine zs_iload (pc := 52) (i := 4) C (by decide +kernel) rfl ?_
          refine zs_cvRi (pc := 54) (As := [sI t1.2, sI t4.2]) (st := [sI t4.1]) C (Or.inl rfl) (c_X3_apart l g t1.2 t4.2) ml_RX0_112 rfl rfl rfl rfl (Nat.le_of_ble_eq_true rfl) ⟨Nat.le_of_ble_eq_true rfl, Nat.le_of_ble_eq_true rfl⟩ ⟨Nat.le_of_ble_eq_true rfl, Nat.le_of_ble_eq_true rfl⟩ (by decide +kernel) (fun x10 => ?_)
          refine zs_mmax (pc := 57) (idx := 138) C wf_1359 wf_702 wf_166 wf_703 ⟨Nat.le_of_ble_eq_true rfl, Nat.le_of_ble_eq_true rfl, Nat.zero_le _, Nat.zero_le _⟩ (by decide +kernel) ?_
          refine zs_let (fun x11 => ?_)
          refine zs_istore_n (pc := 60) (k := 2) (i := 2) (ls' := [(2, sI x11), (0, sR 18), (1, sI a0), (3, sI t1.2), (4, sI t4.2)]) C (by decide +kernel) rfl (Nat.le_of_ble_eq_true rfl) rfl ?_
          exact zs_goj (hJ9 x11) ⟨rfl, rfl, rfl, rfl, rfl, trivial⟩
set_option maxRecDepth 20000 in
theorem c_X0_hoursOfOne (l : Launch) (g : GC) (a0 : Int) (a1 : Int) : ConW l g yX0_hoursOfOne cX0_hoursOfOne 4 (some .int) (rmd 6 0 0) [sR 18, sI a0, sI a1] (fun mm => fX0_hoursOfOne a0 a1 mm) := by
  refine zs_ofW (by decide +kernel) (Nat.le_of_ble_eq_true rfl) ?_
  intro p e s m args below meth c C hr
  replace C : Bd g RX0 cX0_hoursOfOne 4 p s m args meth c := C
  unfold fX0_hoursOfOne
  refine zs_aload_n (pc := 0) (k := 0) (i := 0) C (by decide +kernel) rfl rfl ?_
  refine zs_cvVv (pc := 1) (As := []) (st := []) C (fun _ _ _ => rfl) (c_X0_start l g ) ml_RX0_170 rfl rfl rfl rfl (Nat.le_of_ble_eq_true rfl) ⟨Nat.le_of_ble_eq_true rfl, Nat.le_of_ble_eq_true rfl⟩ ⟨Nat.le_of_ble_eq_true rfl, Nat.le_of_ble_eq_true rfl⟩ (by decide +kernel) ?_
  refine zs_iconst (pc := 4) (n := 0) (x := 0) C (by decide +kernel) (by decide +kernel) ?_
  refine zs_istore_n (pc := 5) (k := 3) (i := 3) (ls' := [(3, sI 0), (0, sR 18), (1, sI a0), (2, sI a1)]) C (by decide +kernel) rfl (Nat.le_of_ble_eq_true rfl) rfl ?_
  refine zs_sub (ls' := [(0, sR 18), (1, sI a0), (2, sI a1), (3, sI 0)]) ⟨rfl, rfl, rfl, rfl, trivial⟩ ?_
  refine zs_lp (pc := 6) (fun (t1 : Int) => [(0, sR 18), (1, sI a0), (2, sI a1), (3, sI t1)]) (fun _ => []) (fun K2 hK2 t1 => ?_) BIG 0
  refine zs_iload_n (pc := 6) (k := 3) (i := 3) C (by decide +kernel) rfl rfl ?_
  refine zs_bipush (pc := 7) (n := 40) (x := 40) C (by decide +kernel) (by decide +kernel) ?_
  refine zs_icmp_gt (pc := 9) (off := 38) (tgt := 47) C (by decide +kernel) (by decide) ?_ ?_
  · refine zs_iconst (pc := 47) (n := (-1)) (x := (-1)) C (by decide +kernel) (by decide +kernel) ?_
    exact zs_retWi (pc := 48) C hr ⟨Nat.le_of_ble_eq_true rfl, Nat.le_of_ble_eq_true rfl⟩ (by decide +kernel)
  · refine zs_iload_n (pc := 12) (k := 3) (i := 3) C (by decide +kernel) rfl rfl ?_
    refine zs_jn (pJ := 26) (kJ := 0) (sJ := 0) (fun t3 => [(0, sR 18), (1, sI a0), (2, sI a1), (3, sI t1)]) (fun t3 => []) (fun t3 => ?_) (fun J4 hJ4 => ?_)
    · refine zs_aload_n (pc := 26) (k := 0) (i := 0) C (by decide +kernel) rfl rfl ?_
      refine zs_iload_n (pc := 27) (k := 1) (i := 1) C (by decide +kernel) rfl rfl ?_
      refine zs_iload_n (pc := 28) (k := 3) (i := 3) C (by decide +kernel) rfl rfl ?_
      refine zs_cvRi (pc := 29) (As := [sI a0, sI t1]) (st := []) C (Or.inl rfl) (c_X0_whereIs l g a0 t1) ml_RX0_179 rfl rfl rfl rfl (Nat.le_of_ble_eq_true rfl) ⟨Nat.le_of_ble_eq_true rfl, Nat.le_of_ble_eq_true rfl⟩ ⟨Nat.le_of_ble_eq_true rfl, Nat.le_of_ble_eq_true rfl⟩ (by decide +kernel) (fun x5 => ?_)
      refine zs_iload_n (pc := 32) (k := 2) (i := 2) C (by decide +kernel) rfl rfl ?_
      refine zs_iushr (pc := 33) C (by decide +kernel) ?_
      refine zs_iconst (pc := 34) (n := 1) (x := 1) C (by decide +kernel) (by decide +kernel) ?_
      refine zs_iand (pc := 35) C (by decide +kernel) ?_
      refine zs_if_eq (pc := 36) (off := 5) (tgt := 41) C (by decide +kernel) (by decide) ?_ ?_
      · refine zs_iinc (pc := 41) (i := 3) (n := 1) (y := w32 (t1 + 1)) (ls' := [(3, sI (w32 (t1 + 1))), (0, sR 18), (1, sI a0), (2, sI a1)]) C (by decide +kernel) rfl rfl (Nat.le_of_ble_eq_true rfl) rfl ?_
        refine zs_goto (pc := 44) (off := (-38)) (tgt := 6) C (by decide +kernel) (by decide) ?_
        exact zs_goj (hK2 (w32 (t1 + 1))) ⟨rfl, rfl, rfl, rfl, trivial⟩
      · refine zs_iload_n (pc := 39) (k := 3) (i := 3) C (by decide +kernel) rfl rfl ?_
        exact zs_retWi (pc := 40) C hr ⟨Nat.le_of_ble_eq_true rfl, Nat.le_of_ble_eq_true rfl⟩ (by decide +kernel)
    · refine zs_if_le (pc := 13) (off := 13) (tgt := 26) C (by decide +kernel) (by decide) ?_ ?_
      · exact zs_goj (hJ4 ()) ⟨rfl, rfl, rfl, rfl, trivial⟩
      · refine zs_aload_n (pc := 16) (k := 0) (i := 0) C (by decide +kernel) rfl rfl ?_
        refine zs_iload_n (pc := 17) (k := 3) (i := 3) C (by decide +kernel) rfl rfl ?_
        refine zs_cvWi (pc := 18) (As := [sI t1]) (st := []) C (fun _ _ _ => rfl) (Or.inr rfl) (c_X0_goOn l g t1) ml_RX0_173 rfl rfl rfl rfl (Nat.le_of_ble_eq_true rfl) ⟨Nat.le_of_ble_eq_true rfl, Nat.le_of_ble_eq_true rfl⟩ ⟨Nat.le_of_ble_eq_true rfl, Nat.le_of_ble_eq_true rfl⟩ (by decide +kernel) (fun x6 => ?_)
        refine zs_if_ne (pc := 21) (off := 5) (tgt := 26) C (by decide +kernel) (by decide) ?_ ?_
        · exact zs_goj (hJ4 ()) ⟨rfl, rfl, rfl, rfl, trivial⟩
        · refine zs_iconst (pc := 24) (n := (-1)) (x := (-1)) C (by decide +kernel) (by decide +kernel) ?_
          exact zs_retWi (pc := 25) C hr ⟨Nat.le_of_ble_eq_true rfl, Nat.le_of_ble_eq_true rfl⟩ (by decide +kernel)
set_option maxRecDepth 20000 in
theorem c_X0_hoursTo (l : Launch) (g : GC) (a0 : Int) (a1 : Int) (a2 : Int) : ConW l g yX0_hoursTo cX0_hoursTo 5 (some .int) (rmd 5 0 0) [sR 18, sI a0, sI a1, sI a2] (fun mm => fX0_hoursTo a0 a1 a2 mm) := by
  refine zs_ofW (by decide +kernel) (Nat.le_of_ble_eq_true rfl) ?_
  intro p e s m args below meth c C hr
  replace C : Bd g RX0 cX0_hoursTo 5 p s m args meth c := C
  unfold fX0_hoursTo
  refine zs_aload_n (pc := 0) (k := 0) (i := 0) C (by decide +kernel) rfl rfl ?_
  refine zs_iload_n (pc := 1) (k := 3) (i := 3) C (by decide +kernel) rfl rfl ?_
  refine zs_putI (pc := 2) (i := 56) (ci := 0) (k := 13) C (fun _ _ _ => rfl) (by decide +kernel) fl_RX0_56 fw_0_13 rfl rfl ?_
  refine zs_aload_n (pc := 5) (k := 0) (i := 0) C (by decide +kernel) rfl rfl ?_
  refine zs_cvVv (pc := 6) (As := []) (st := []) C (fun _ _ _ => rfl) (c_X0_start l g ) ml_RX0_170 rfl rfl rfl rfl (Nat.le_of_ble_eq_true rfl) ⟨Nat.le_of_ble_eq_true rfl, Nat.le_of_ble_eq_true rfl⟩ ⟨Nat.le_of_ble_eq_true rfl, Nat.le_of_ble_eq_true rfl⟩ (by decide +kernel) ?_
  refine zs_iconst (pc := 9) (n := 0) (x := 0) C (by decide +kernel) (by decide +kernel) ?_
  refine zs_istore (pc := 10) (i := 4) (ls' := [(4, sI 0), (0, sR 18), (1, sI a0), (2, sI a1), (3, sI a2)]) C (by decide +kernel) (Nat.le_of_ble_eq_true rfl) rfl ?_
  refine zs_sub (ls' := [(0, sR 18), (1, sI a0), (2, sI a1), (4, sI 0)]) ⟨rfl, rfl, rfl, rfl, trivial⟩ ?_
  refine zs_lp (pc := 12) (fun (t1 : Int) => [(0, sR 18), (1, sI a0), (2, sI a1), (4, sI t1)]) (fun _ => []) (fun K2 hK2 t1 => ?_) BIG 0
  refine zs_iload (pc := 12) (i := 4) C (by decide +kernel) rfl ?_
  refine zs_bipush (pc := 14) (n := 40) (x := 40) C (by decide +kernel) (by decide +kernel) ?_
  refine zs_icmp_gt (pc := 16) (off := 67) (tgt := 83) C (by decide +kernel) (by decide) ?_ ?_
  · refine zs_iconst (pc := 83) (n := (-1)) (x := (-1)) C (by decide +kernel) (by decide +kernel) ?_
    exact zs_retWi (pc := 84) C hr ⟨Nat.le_of_ble_eq_true rfl, Nat.le_of_ble_eq_true rfl⟩ (by decide +kernel)
  · refine zs_iload (pc := 19) (i := 4) C (by decide +kernel) rfl ?_
    refine zs_jn (pJ := 55) (kJ := 0) (sJ := 0) (fun t3 => [(0, sR 18), (1, sI a0), (2, sI a1), (4, sI t1)]) (fun t3 => []) (fun t3 => ?_) (fun J4 hJ4 => ?_)
    · refine zs_aload_n (pc := 55) (k := 0) (i := 0) C (by decide +kernel) rfl rfl ?_
      refine zs_getR (o' := 82) (pc := 56) (i := 31) (ci := 0) (k := 5) C (by decide +kernel) fl_RX0_31 rfl rfl rfl ?_
      refine zs_iload (pc := 59) (i := 4) C (by decide +kernel) rfl ?_
      refine zs_bipush (pc := 61) (n := 25) (x := 25) C (by decide +kernel) (by decide +kernel) ?_
      refine zs_imul (pc := 63) C (by decide +kernel) ?_
      refine zs_iload_n (pc := 64) (k := 1) (i := 1) C (by decide +kernel) rfl rfl ?_
      refine zs_iadd (pc := 65) C (by decide +kernel) ?_
      refine zs_iald (pc := 66) (o := 82) (n := 1025) C (by decide +kernel) rfl (fun hinx5 x5 => ?_)
      refine zs_iload_n (pc := 67) (k := 2) (i := 2) C (by decide +kernel) rfl rfl ?_
      refine zs_iushr (pc := 68) C (by decide +kernel) ?_
      refine zs_iconst (pc := 69) (n := 1) (x := 1) C (by decide +kernel) (by decide +kernel) ?_
      refine zs_iand (pc := 70) C (by decide +kernel) ?_
      refine zs_if_eq (pc := 71) (off := 6) (tgt := 77) C (by decide +kernel) (by decide) ?_ ?_
      · refine zs_iinc (pc := 77) (i := 4) (n := 1) (y := w32 (t1 + 1)) (ls' := [(4, sI (w32 (t1 + 1))), (0, sR 18), (1, sI a0), (2, sI a1)]) C (by decide +kernel) rfl rfl (Nat.le_of_ble_eq_true rfl) rfl ?_
        refine zs_goto (pc := 80) (off := (-68)) (tgt := 12) C (by decide +kernel) (by decide) ?_
        exact zs_goj (hK2 (w32 (t1 + 1))) ⟨rfl, rfl, rfl, rfl, trivial⟩
      · refine zs_iload (pc := 74) (i := 4) C (by decide +kernel) rfl ?_
        exact zs_retWi (pc := 76) C hr ⟨Nat.le_of_ble_eq_true rfl, Nat.le_of_ble_eq_true rfl⟩ (by decide +kernel)
    · refine zs_if_le (pc := 21) (off := 34) (tgt := 55) C (by decide +kernel) (by decide) ?_ ?_
      · exact zs_goj (hJ4 ()) ⟨rfl, rfl, rfl, rfl, trivial⟩
      · refine zs_aload_n (pc := 24) (k := 0) (i := 0) C (by decide +kernel) rfl rfl ?_
        refine zs_aload_n (pc := 25) (k := 0) (i := 0) C (by decide +kernel) rfl rfl ?_
        refine zs_getR (o' := 82) (pc := 26) (i := 31) (ci := 0) (k := 5) C (by decide +kernel) fl_RX0_31 rfl rfl rfl ?_
        refine zs_iload (pc := 29) (i := 4) C (by decide +kernel) rfl ?_
        refine zs_iconst (pc := 31) (n := 1) (x := 1) C (by decide +kernel) (by decide +kernel) ?_
        refine zs_isub (pc := 32) C (by decide +kernel) ?_
        refine zs_bipush (pc := 33) (n := 25) (x := 25) C (by decide +kernel) (by decide +kernel) ?_
        refine zs_imul (pc := 35) C (by decide +kernel) ?_
        refine zs_aload_n (pc := 36) (k := 0) (i := 0) C (by decide +kernel) rfl rfl ?_
        refine zs_getR (o' := 82) (pc := 37) (i := 31) (ci := 0) (k := 5) C (by decide +kernel) fl_RX0_31 rfl rfl rfl ?_
        refine zs_iload (pc := 40) (i := 4) C (by decide +kernel) rfl ?_
        refine zs_bipush (pc := 42) (n := 25) (x := 25) C (by decide +kernel) (by decide +kernel) ?_
        refine zs_imul (pc := 44) C (by decide +kernel) ?_
        refine zs_iload (pc := 45) (i := 4) C (by decide +kernel) rfl ?_
        refine zs_cvWi (pc := 47) (As := [sR 82, sI (w32 ((w32 (t1 - 1)) * 25)), sR 82, sI (w32 (t1 * 25)), sI t1]) (st := []) C (fun _ _ _ => rfl) (Or.inr rfl) (c_X0_stepOn l g 82 1025 (w32 ((w32 (t1 - 1)) * 25)) 82 1025 (w32 (t1 * 25)) t1 rfl rfl) ml_RX0_166 rfl rfl rfl rfl (Nat.le_of_ble_eq_true rfl) ⟨Nat.le_of_ble_eq_true rfl, Nat.le_of_ble_eq_true rfl⟩ ⟨Nat.le_of_ble_eq_true rfl, Nat.le_of_ble_eq_true rfl⟩ (by decide +kernel) (fun x6 => ?_)
        refine zs_if_ne (pc := 50) (off := 5) (tgt := 55) C (by decide +kernel) (by decide) ?_ ?_
        · exact zs_goj (hJ4 ()) ⟨rfl, rfl, rfl, rfl, trivial⟩
        · refine zs_iconst (pc := 53) (n := (-1)) (x := (-1)) C (by decide +kernel) (by decide +kernel) ?_
          exact zs_retWi (pc := 54) C hr ⟨Nat.le_of_ble_eq_true rfl, Nat.le_of_ble_eq_true rfl⟩ (by decide +kernel)
set_option maxRecDepth 20000 in
theorem c_X0_traceBack (l : Launch) (g : GC) (a0 : Int) (a1 : Int) (a2 : Int) : ConV l g yX0_traceBack cX0_traceBack 10 (rmd 2 0 0) [sR 18, sI a0, sI a1, sI a2] (fun mm => fX0_traceBack a0 a1 a2 mm) := by
  refine zs_ofV (by decide +kernel) (Nat.le_of_ble_eq_true rfl) ?_
  intro p e s m args below meth c C hr
  replace C : Bd g RX0 cX0_traceBack 10 p s m args meth c := C
  unfold fX0_traceBack
  refine zs_aload_n (pc := 0) (k := 0) (i := 0) C (by decide +kernel) rfl rfl ?_
  refine zs_getR (o' := 83) (pc := 1) (i := 34) (ci := 0) (k := 6) C (by decide +kernel) fl_RX0_34 rfl rfl rfl ?_
  refine zs_iconst (pc := 4) (n := 0) (x := 0) C (by decide +kernel) (by decide +kernel) ?_
  refine zs_csVv (pc := 5) (As := [sR 83, sI 0]) (st := []) C (fun _ _ _ => rfl) (c_J7_fill_53178 l g 83 1025 0 rfl) ml_RX0_102 rfl rfl (Nat.le_of_ble_eq_true rfl) ⟨Nat.le_of_ble_eq_true rfl, Nat.le_of_ble_eq_true rfl⟩ ⟨Nat.le_of_ble_eq_true rfl, Nat.le_of_ble_eq_true rfl⟩ (by decide +kernel) ?_
  refine zs_aload_n (pc := 8) (k := 0) (i := 0) C (by decide +kernel) rfl rfl ?_
  refine zs_getR (o' := 83) (pc := 9) (i := 34) (ci := 0) (k := 6) C (by decide +kernel) fl_RX0_34 rfl rfl rfl ?_
  refine zs_iload_n (pc := 12) (k := 3) (i := 3) C (by decide +kernel) rfl rfl ?_
  refine zs_bipush (pc := 13) (n := 25) (x := 25) C (by decide +kernel) (by decide +kernel) ?_
  refine zs_imul (pc := 15) C (by decide +kernel) ?_
  refine zs_iload_n (pc := 16) (k := 1) (i := 1) C (by decide +kernel) rfl rfl ?_
  refine zs_iadd (pc := 17) C (by decide +kernel) ?_
  refine zs_iconst (pc := 18) (n := 1) (x := 1) C (by decide +kernel) (by decide +kernel) ?_
  refine zs_iload_n (pc := 19) (k := 2) (i := 2) C (by decide +kernel) rfl rfl ?_
  refine zs_ishl (pc := 20) C (by decide +kernel) ?_
  refine zs_iast (pc := 21) (o := 83) (n := 1025) C (fun _ _ _ => rfl) (by decide +kernel) rfl ?_
  refine zs_iload_n (pc := 22) (k := 3) (i := 3) C (by decide +kernel) rfl rfl ?_
  refine zs_istore (pc := 23) (i := 4) (ls' := [(4, sI a2), (0, sR 18), (1, sI a0), (2, sI a1), (3, sI a2)]) C (by decide +kernel) (Nat.le_of_ble_eq_true rfl) rfl ?_
  refine zs_sub (ls' := [(0, sR 18), (4, sI a2)]) ⟨rfl, rfl, trivial⟩ ?_
  refine zs_lp (pc := 25) (fun (t1 : Int) => [(0, sR 18), (4, sI t1)]) (fun _ => []) (fun K2 hK2 t1 => ?_) BIG a2
  refine zs_iload (pc := 25) (i := 4) C (by decide +kernel) rfl ?_
  refine zs_iconst (pc := 27) (n := 1) (x := 1) C (by decide +kernel) (by decide +kernel) ?_
  refine zs_icmp_lt (pc := 28) (off := 218) (tgt := 246) C (by decide +kernel) (by decide) ?_ ?_
  · exact zs_retVv (pc := 246) C hr ⟨Nat.le_of_ble_eq_true rfl, Nat.le_of_ble_eq_true rfl⟩ (by decide +kernel)
  · refine zs_iload (pc := 31) (i := 4) C (by decide +kernel) rfl ?_
    refine zs_bipush (pc := 33) (n := 25) (x := 25) C (by decide +kernel) (by decide +kernel) ?_
    refine zs_imul (pc := 35) C (by decide +kernel) ?_
    refine zs_let (fun x3 => ?_)
    refine zs_istore (pc := 36) (i := 5) (ls' := [(5, sI x3), (0, sR 18), (4, sI t1)]) C (by decide +kernel) (Nat.le_of_ble_eq_true rfl) rfl ?_
    refine zs_aload_n (pc := 38) (k := 0) (i := 0) C (by decide +kernel) rfl rfl ?_
    refine zs_getR (o' := 79) (pc := 39) (i := 22) (ci := 0) (k := 2) C (by decide +kernel) fl_RX0_22 rfl rfl rfl ?_
    refine zs_iload (pc := 42) (i := 4) C (by decide +kernel) rfl ?_
    refine zs_iald (pc := 44) (o := 79) (n := 41) C (by decide +kernel) rfl (fun hinx4 x4 => ?_)
    refine zs_aload_n (pc := 45) (k := 0) (i := 0) C (by decide +kernel) rfl rfl ?_
    refine zs_getI (pc := 46) (i := 56) (ci := 0) (k := 13) C (by decide +kernel) fl_RX0_56 rfl rfl (fun x5 => ?_)
    refine zs_iconst (pc := 49) (n := (-1)) (x := (-1)) C (by decide +kernel) (by decide +kernel) ?_
    refine zs_ixor (pc := 50) C (by decide +kernel) ?_
    refine zs_iand (pc := 51) C (by decide +kernel) ?_
    refine zs_let (fun x6 => ?_)
    refine zs_istore (pc := 52) (i := 6) (ls' := [(6, sI x6), (5, sI x3), (0, sR 18), (4, sI t1)]) C (by decide +kernel) (Nat.le_of_ble_eq_true rfl) rfl ?_
    refine zs_aload_n (pc := 54) (k := 0) (i := 0) C (by decide +kernel) rfl rfl ?_
    refine zs_getR (o' := 78) (pc := 55) (i := 18) (ci := 0) (k := 1) C (by decide +kernel) fl_RX0_18 rfl rfl rfl ?_
    refine zs_iload (pc := 58) (i := 4) C (by decide +kernel) rfl ?_
    refine zs_iald (pc := 60) (o := 78) (n := 41) C (by decide +kernel) rfl (fun hinx7 x7 => ?_)
    refine zs_aload_n (pc := 61) (k := 0) (i := 0) C (by decide +kernel) rfl rfl ?_
    refine zs_getI (pc := 62) (i := 56) (ci := 0) (k := 13) C (by decide +kernel) fl_RX0_56 rfl rfl (fun x8 => ?_)
    refine zs_iconst (pc := 65) (n := (-1)) (x := (-1)) C (by decide +kernel) (by decide +kernel) ?_
    refine zs_ixor (pc := 66) C (by decide +kernel) ?_
    refine zs_iand (pc := 67) C (by decide +kernel) ?_
    refine zs_let (fun x9 => ?_)
    refine zs_istore (pc := 68) (i := 7) (ls' := [(7, sI x9), (6, sI x6), (5, sI x3), (0, sR 18), (4, sI t1)]) C (by decide +kernel) (Nat.le_of_ble_eq_true rfl) rfl ?_
    refine zs_aload_n (pc := 70) (k := 0) (i := 0) C (by decide +kernel) rfl rfl ?_
    refine zs_getR (o' := 84) (pc := 71) (i := 37) (ci := 0) (k := 7) C (by decide +kernel) fl_RX0_37 rfl rfl rfl ?_
    refine zs_iconst (pc := 74) (n := 0) (x := 0) C (by decide +kernel) (by decide +kernel) ?_
    refine zs_csVv (pc := 75) (As := [sR 84, sI 0]) (st := []) C (fun _ _ _ => rfl) (c_J7_fill_53178 l g 84 25 0 rfl) ml_RX0_102 rfl rfl (Nat.le_of_ble_eq_true rfl) ⟨Nat.le_of_ble_eq_true rfl, Nat.le_of_ble_eq_true rfl⟩ ⟨Nat.le_of_ble_eq_true rfl, Nat.le_of_ble_eq_true rfl⟩ (by decide +kernel) ?_
    refine zs_iconst (pc := 78) (n := 0) (x := 0) C (by decide +kernel) (by decide +kernel) ?_
    refine zs_istore (pc := 79) (i := 8) (ls' := [(8, sI 0), (7, sI x9), (6, sI x6), (5, sI x3), (0, sR 18), (4, sI t1)]) C (by decide +kernel) (Nat.le_of_ble_eq_true rfl) rfl ?_
    refine zs_sub (ls' := [(0, sR 18), (4, sI t1), (5, sI x3), (6, sI x6), (7, sI x9), (8, sI 0)]) ⟨rfl, rfl, rfl, rfl, rfl, rfl, trivial⟩ ?_
    refine zs_lp (pc := 81) (fun (t10 : Int) => [(0, sR 18), (4, sI t1), (5, sI x3), (6, sI x6), (7, sI x9), (8, sI t10)]) (fun _ => []) (fun K11 hK11 t10 => ?_) BIG 0
    refine zs_iload (pc := 81) (i := 8) C (by decide +kernel) rfl ?_
    refine zs_aload_n (pc := 83) (k := 0) (i := 0) C (by decide +kernel) rfl rfl ?_
    refine zs_getI (pc := 84) (i := 43) (ci := 0) (k := 9) C (by decide +kernel) fl_RX0_43 rfl rfl (fun x12 => ?_)
    refine zs_icmp_ge (pc := 87) (off := 84) (tgt := 171) C (by decide +kernel) (by decide) ?_ ?_
    · refine zs_iconst (pc := 171) (n := 0) (x := 0) C (by decide +kernel) (by decide +kernel) ?_
      refine zs_istore (pc := 172) (i := 8) (ls' := [(8, sI 0), (0, sR 18), (4, sI t1), (5, sI x3), (6, sI x6), (7, sI x9)]) C (by decide +kernel) (Nat.le_of_ble_eq_true rfl) rfl ?_
      refine zs_sub (ls' := [(0, sR 18), (4, sI t1), (5, sI x3), (8, sI 0)]) ⟨rfl, rfl, rfl, rfl, trivial⟩ ?_
      refine zs_lp (pc := 174) (fun (t13 : Int) => [(0, sR 18), (4, sI t1), (5, sI x3), (8, sI t13)]) (fun _ => []) (fun K14 hK14 t13 => ?_) BIG 0
      refine zs_iload (pc := 174) (i := 8) C (by decide +kernel) rfl ?_
      refine zs_aload_n (pc := 176) (k := 0) (i := 0) C (by decide +kernel) rfl rfl ?_
      refine zs_getI (pc := 177) (i := 43) (ci := 0) (k := 9) C (by decide +kernel) fl_RX0_43 rfl rfl (fun x15 => ?_)
      refine zs_icmp_ge (pc := 180) (off := 60) (tgt := 240) C (by decide +kernel) (by decide) ?_ ?_
      · refine zs_iinc (pc := 240) (i := 4) (n := (-1)) (y := w32 (t1 + (-1))) (ls' := [(4, sI (w32 (t1 + (-1)))), (0, sR 18), (5, sI x3), (8, sI t13)]) C (by decide +kernel) rfl rfl (Nat.le_of_ble_eq_true rfl) rfl ?_
        refine zs_goto (pc := 243) (off := (-218)) (tgt := 25) C (by decide +kernel) (by decide) ?_
        exact zs_goj (hK2 (w32 (t1 + (-1)))) ⟨rfl, rfl, trivial⟩
      · refine zs_aload_n (pc := 183) (k := 0) (i := 0) C (by decide +kernel) rfl rfl ?_
        refine zs_getR (o' := 83) (pc := 184) (i := 34) (ci := 0) (k := 6) C (by decide +kernel) fl_RX0_34 rfl rfl rfl ?_
        refine zs_iload (pc := 187) (i := 5) C (by decide +kernel) rfl ?_
        refine zs_bipush (pc := 189) (n := 25) (x := 25) C (by decide +kernel) (by decide +kernel) ?_
        refine zs_isub (pc := 191) C (by decide +kernel) ?_
        refine zs_iload (pc := 192) (i := 8) C (by decide +kernel) rfl ?_
        refine zs_iadd (pc := 194) C (by decide +kernel) ?_
        refine zs_iald (pc := 195) (o := 83) (n := 1025) C (by decide +kernel) rfl (fun hinx16 x16 => ?_)
        refine zs_aload_n (pc := 196) (k := 0) (i := 0) C (by decide +kernel) rfl rfl ?_
        refine zs_iload (pc := 197) (i := 8) C (by decide +kernel) rfl ?_
        refine zs_cvRi (pc := 199) (As := [sI t13]) (st := [sI x16]) C (Or.inl rfl) (c_X0_spreadAround l g t13) ml_RX0_163 rfl rfl rfl rfl (Nat.le_of_ble_eq_true rfl) ⟨Nat.le_of_ble_eq_true rfl, Nat.le_of_ble_eq_true rfl⟩ ⟨Nat.le_of_ble_eq_true rfl, Nat.le_of_ble_eq_true rfl⟩ (by decide +kernel) (fun x17 => ?_)
        refine zs_ior (pc := 202) C (by decide +kernel) ?_
        refine zs_let (fun x18 => ?_)
        refine zs_istore (pc := 203) (i := 9) (ls' := [(9, sI x18), (0, sR 18), (4, sI t1), (5, sI x3), (8, sI t13)]) C (by decide +kernel) (Nat.le_of_ble_eq_true rfl) rfl ?_
        refine zs_aload_n (pc := 205) (k := 0) (i := 0) C (by decide +kernel) rfl rfl ?_
        refine zs_getR (o' := 83) (pc := 206) (i := 34) (ci := 0) (k := 6) C (by decide +kernel) fl_RX0_34 rfl rfl rfl ?_
        refine zs_iload (pc := 209) (i := 5) C (by decide +kernel) rfl ?_
        refine zs_bipush (pc := 211) (n := 25) (x := 25) C (by decide +kernel) (by decide +kernel) ?_
        refine zs_isub (pc := 213) C (by decide +kernel) ?_
        refine zs_iload (pc := 214) (i := 8) C (by decide +kernel) rfl ?_
        refine zs_iadd (pc := 216) C (by decide +kernel) ?_
        refine zs_iload (pc := 217) (i := 9) C (by decide +kernel) rfl ?_
        refine zs_aload_n (pc := 219) (k := 0) (i := 0) C (by decide +kernel) rfl rfl ?_
        refine zs_getR (o' := 82) (pc := 220) (i := 31) (ci := 0) (k := 5) C (by decide +kernel) fl_RX0_31 rfl rfl rfl ?_
        refine zs_iload (pc := 223) (i := 5) C (by decide +kernel) rfl ?_
        refine zs_bipush (pc := 225) (n := 25) (x := 25) C (by decide +kernel) (by decide +kernel) ?_
        refine zs_isub (pc := 227) C (by decide +kernel) ?_
        refine zs_iload (pc := 228) (i := 8) C (by decide +kernel) rfl ?_
        refine zs_iadd (pc := 230) C (by decide +kernel) ?_
        refine zs_iald (pc := 231) (o := 82) (n := 1025) C (by decide +kernel) rfl (fun hinx19 x19 => ?_)
        refine zs_iand (pc := 232) C (by decide +kernel) ?_
        refine zs_iast (pc := 233) (o := 83) (n := 1025) C (fun _ _ _ => rfl) (by decide +kernel) rfl ?_
        refine zs_iinc (pc := 234) (i := 8) (n := 1) (y := w32 (t13 + 1)) (ls' := [(8, sI (w32 (t13 + 1))), (9, sI x18), (0, sR 18), (4, sI t1), (5, sI x3)]) C (by decide +kernel) rfl rfl (Nat.le_of_ble_eq_true rfl) rfl ?_
        refine zs_goto (pc := 237) (off := (-63)) (tgt := 174) C (by decide +kernel) (by decide) ?_
        exact zs_goj (hK14 (w32 (t13 + 1))) ⟨rfl, rfl, rfl, rfl, trivial⟩
    · refine zs_aload_n (pc := 90) (k := 0) (i := 0) C (by decide +kernel) rfl rfl ?_
      refine zs_getR (o' := 83) (pc := 91) (i := 34) (ci := 0) (k := 6) C (by decide +kernel) fl_RX0_34 rfl rfl rfl ?_
      refine zs_iload (pc := 94) (i := 5) C (by decide +kernel) rfl ?_
      refine zs_bipush (pc := 96) (n := 25) (x := 25) C (by decide +kernel) (by decide +kernel) ?_
      refine zs_isub (pc := 98) C (by decide +kernel) ?_
      refine zs_iload (pc := 99) (i := 8) C (by decide +kernel) rfl ?_
      refine zs_iadd (pc := 101) C (by decide +kernel) ?_
      refine zs_aload_n (pc := 102) (k := 0) (i := 0) C (by decide +kernel) rfl rfl ?_
      refine zs_getR (o' := 83) (pc := 103) (i := 34) (ci := 0) (k := 6) C (by decide +kernel) fl_RX0_34 rfl rfl rfl ?_
      refine zs_iload (pc := 106) (i := 5) C (by decide +kernel) rfl ?_
      refine zs_iload (pc := 108) (i := 8) C (by decide +kernel) rfl ?_
      refine zs_iadd (pc := 110) C (by decide +kernel) ?_
      refine zs_iald (pc := 111) (o := 83) (n := 1025) C (by decide +kernel) rfl (fun hinx20 x20 => ?_)
      refine zs_aload_n (pc := 112) (k := 0) (i := 0) C (by decide +kernel) rfl rfl ?_
      refine zs_aload_n (pc := 113) (k := 0) (i := 0) C (by decide +kernel) rfl rfl ?_
      refine zs_getR (o' := 83) (pc := 114) (i := 34) (ci := 0) (k := 6) C (by decide +kernel) fl_RX0_34 rfl rfl rfl ?_
      refine zs_iload (pc := 117) (i := 5) C (by decide +kernel) rfl ?_
      refine zs_iload (pc := 119) (i := 8) C (by decide +kernel) rfl ?_
      refine zs_iadd (pc := 121) C (by decide +kernel) ?_
      refine zs_iald (pc := 122) (o := 83) (n := 1025) C (by decide +kernel) rfl (fun hinx21 x21 => ?_)
      refine zs_iload (pc := 123) (i := 6) C (by decide +kernel) rfl ?_
      refine zs_iand (pc := 125) C (by decide +kernel) ?_
      refine zs_cvRi (pc := 126) (As := [sI (iand x21 x6)]) (st := [sI x20, sI (w32 ((w32 (x3 - 25)) + t10)), sR 83]) C (Or.inl rfl) (c_X0_around l g (iand x21 x6)) ml_RX0_160 rfl rfl rfl rfl (Nat.le_of_ble_eq_true rfl) ⟨Nat.le_of_ble_eq_true rfl, Nat.le_of_ble_eq_true rfl⟩ ⟨Nat.le_of_ble_eq_true rfl, Nat.le_of_ble_eq_true rfl⟩ (by decide +kernel) (fun x22 => ?_)
      refine zs_ior (pc := 129) C (by decide +kernel) ?_
      refine zs_iast (pc := 130) (o := 83) (n := 1025) C (fun _ _ _ => rfl) (by decide +kernel) rfl ?_
      refine zs_aload_n (pc := 131) (k := 0) (i := 0) C (by decide +kernel) rfl rfl ?_
      refine zs_getR (o' := 84) (pc := 132) (i := 37) (ci := 0) (k := 7) C (by decide +kernel) fl_RX0_37 rfl rfl rfl ?_
      refine zs_iload (pc := 135) (i := 8) C (by decide +kernel) rfl ?_
      refine zs_iload (pc := 137) (i := 7) C (by decide +kernel) rfl ?_
      refine zs_iload (pc := 139) (i := 8) C (by decide +kernel) rfl ?_
      refine zs_iushr (pc := 141) C (by decide +kernel) ?_
      refine zs_iconst (pc := 142) (n := 1) (x := 1) C (by decide +kernel) (by decide +kernel) ?_
      refine zs_iand (pc := 143) C (by decide +kernel) ?_
      refine zs_jn (pJ := 164) (kJ := 0) (sJ := 0) (fun t23 => [(0, sR 18), (4, sI t1), (5, sI x3), (6, sI x6), (7, sI x9), (8, sI t10)]) (fun t23 => [sI t23, sI t10, sR 84]) (fun t23 => ?_) (fun J24 hJ24 => ?_)
      · refine zs_iast (pc := 164) (o := 84) (n := 25) C (fun _ _ _ => rfl) (by decide +kernel) rfl ?_
        refine zs_iinc (pc := 165) (i := 8) (n := 1) (y := w32 (t10 + 1)) (ls' := [(8, sI (w32 (t10 + 1))), (0, sR 18), (4, sI t1), (5, sI x3), (6, sI x6), (7, sI x9)]) C (by decide +kernel) rfl rfl (Nat.le_of_ble_eq_true rfl) rfl ?_
        refine zs_goto (pc := 168) (off := (-87)) (tgt := 81) C (by decide +kernel) (by decide) ?_
        exact zs_goj (hK11 (w32 (t10 + 1))) ⟨rfl, rfl, rfl, rfl, rfl, rfl, trivial⟩
      · refine zs_if_eq (pc := 144) (off := 19) (tgt := 163) C (by decide +kernel) (by decide) ?_ ?_
        · refine zs_iconst (pc := 163) (n := 0) (x := 0) C (by decide +kernel) (by decide +kernel) ?_
          exact zs_goj (hJ24 0) ⟨rfl, rfl, rfl, rfl, rfl, rfl, trivial⟩
        · refine zs_aload_n (pc := 147) (k := 0) (i := 0) C (by decide +kernel) rfl rfl ?_
          refine zs_getR (o' := 83) (pc := 148) (i := 34) (ci := 0) (k := 6) C (by decide +kernel) fl_RX0_34 rfl rfl rfl ?_
          refine zs_iload (pc := 151) (i := 5) C (by decide +kernel) rfl ?_
          refine zs_bipush (pc := 153) (n := 25) (x := 25) C (by decide +kernel) (by decide +kernel) ?_
          refine zs_isub (pc := 155) C (by decide +kernel) ?_
          refine zs_iload (pc := 156) (i := 8) C (by decide +kernel) rfl ?_
          refine zs_iadd (pc := 158) C (by decide +kernel) ?_
          refine zs_iald (pc := 159) (o := 83) (n := 1025) C (by decide +kernel) rfl (fun hinx25 x25 => ?_)
          refine zs_goto (pc := 160) (off := 4) (tgt := 164) C (by decide +kernel) (by decide) ?_
          exact zs_goj (hJ24 x25) ⟨rfl, rfl, rfl, rfl, rfl, rfl, trivial⟩
set_option maxRecDepth 20000 in
theorem c_X0_bestTurns (l : Launch) (g : GC) (a0 : Int) (a1 : Int) (a2 : Int) : ConR l g yX0_bestTurns cX0_bestTurns 9 (some .int) (rmd 4 0 0) [sR 18, sI a0, sI a1, sI a2] (fun mm => fX0_bestTurns a0 a1 a2 mm) := by
  refine zs_ofR (by decide +kernel) (Nat.le_of_ble_eq_true rfl) ?_
  intro p e s m args below meth c C hr
  replace C : Bd g RX0 cX0_bestTurns 9 p s m args meth c := C
  unfold fX0_bestTurns
  refine zs_iconst (pc := 0) (n := 0) (x := 0) C (by decide +kernel) (by decide +kernel) ?_
  refine zs_istore (pc := 1) (i := 4) (ls' := [(4, sI 0), (0, sR 18), (1, sI a0), (2, sI a1), (3, sI a2)]) C (by decide +kernel) (Nat.le_of_ble_eq_true rfl) rfl ?_
  refine zs_sub (ls' := [(0, sR 18), (1, sI a0), (2, sI a1), (3, sI a2), (4, sI 0)]) ⟨rfl, rfl, rfl, rfl, rfl, trivial⟩ ?_
  refine zs_lp (pc := 3) (fun (t1 : Int) => [(0, sR 18), (1, sI a0), (2, sI a1), (3, sI a2), (4, sI t1)]) (fun _ => []) (fun K2 hK2 t1 => ?_) BIG 0
  refine zs_iload (pc := 3) (i := 4) C (by decide +kernel) rfl ?_
  refine zs_iconst (pc := 5) (n := 5) (x := 5) C (by decide +kernel) (by decide +kernel) ?_
  refine zs_icmp_ge (pc := 6) (off := 100) (tgt := 106) C (by decide +kernel) (by decide) ?_ ?_
  · refine zs_iconst (pc := 106) (n := 0) (x := 0) C (by decide +kernel) (by decide +kernel) ?_
    exact zs_retRi (pc := 107) C hr ⟨Nat.le_of_ble_eq_true rfl, Nat.le_of_ble_eq_true rfl⟩ (by decide +kernel)
  · refine zs_aload_n (pc := 9) (k := 0) (i := 0) C (by decide +kernel) rfl rfl ?_
    refine zs_iconst (pc := 10) (n := 0) (x := 0) C (by decide +kernel) (by decide +kernel) ?_
    refine zs_iload_n (pc := 11) (k := 1) (i := 1) C (by decide +kernel) rfl rfl ?_
    refine zs_iload (pc := 12) (i := 4) C (by decide +kernel) rfl ?_
    refine zs_iload_n (pc := 14) (k := 3) (i := 3) C (by decide +kernel) rfl rfl ?_
    refine zs_cvRi (pc := 15) (As := [sI 0, sI a0, sI t1, sI a2]) (st := []) C (Or.inl rfl) (c_X0_landing l g 0 a0 t1 a2) ml_RX0_192 rfl rfl rfl rfl (Nat.le_of_ble_eq_true rfl) ⟨Nat.le_of_ble_eq_true rfl, Nat.le_of_ble_eq_true rfl⟩ ⟨Nat.le_of_ble_eq_true rfl, Nat.le_of_ble_eq_true rfl⟩ (by decide +kernel) (fun x3 => ?_)
    refine zs_istore (pc := 18) (i := 5) (ls' := [(5, sI x3), (0, sR 18), (1, sI a0), (2, sI a1), (3, sI a2), (4, sI t1)]) C (by decide +kernel) (Nat.le_of_ble_eq_true rfl) rfl ?_
    refine zs_iload (pc := 20) (i := 5) C (by decide +kernel) rfl ?_
    refine zs_iconst (pc := 22) (n := (-1)) (x := (-1)) C (by decide +kernel) (by decide +kernel) ?_
    refine zs_jn (pJ := 42) (kJ := 0) (sJ := 0) (fun t4 => [(0, sR 18), (1, sI a0), (2, sI a1), (3, sI a2), (4, sI t1)]) (fun t4 => [sI t4]) (fun t4 => ?_) (fun J5 hJ5 => ?_)
    · refine zs_istore (pc := 42) (i := 6) (ls' := [(6, sI t4), (0, sR 18), (1, sI a0), (2, sI a1), (3, sI a2), (4, sI t1)]) C (by decide +kernel) (Nat.le_of_ble_eq_true rfl) rfl ?_
      refine zs_iconst (pc := 44) (n := 0) (x := 0) C (by decide +kernel) (by decide +kernel) ?_
      refine zs_istore (pc := 45) (i := 7) (ls' := [(7, sI 0), (6, sI t4), (0, sR 18), (1, sI a0), (2, sI a1), (3, sI a2), (4, sI t1)]) C (by decide +kernel) (Nat.le_of_ble_eq_true rfl) rfl ?_
      refine zs_sub (ls' := [(0, sR 18), (1, sI a0), (2, sI a1), (3, sI a2), (4, sI t1), (6, sI t4), (7, sI 0)]) ⟨rfl, rfl, rfl, rfl, rfl, rfl, rfl, trivial⟩ ?_
      refine zs_lp (pc := 47) (fun (t6 : Int) => [(0, sR 18), (1, sI a0), (2, sI a1), (3, sI a2), (4, sI t1), (6, sI t4), (7, sI t6)]) (fun _ => []) (fun K7 hK7 t6 => ?_) BIG 0
      refine zs_iload (pc := 47) (i := 7) C (by decide +kernel) rfl ?_
      refine zs_iconst (pc := 49) (n := 5) (x := 5) C (by decide +kernel) (by decide +kernel) ?_
      refine zs_jn (pJ := 100) (kJ := 0) (sJ := 0) (fun t8 => [(0, sR 18), (1, sI a0), (2, sI a1), (3, sI a2), (4, sI t1)]) (fun t8 => []) (fun t8 => ?_) (fun J9 hJ9 => ?_)
      · refine zs_iinc (pc := 100) (i := 4) (n := 1) (y := w32 (t1 + 1)) (ls' := [(4, sI (w32 (t1 + 1))), (0, sR 18), (1, sI a0), (2, sI a1), (3, sI a2)]) C (by decide +kernel) rfl rfl (Nat.le_of_ble_eq_true rfl) rfl ?_
        refine zs_goto (pc := 103) (off := (-100)) (tgt := 3) C (by decide +kernel) (by decide) ?_
        exact zs_goj (hK2 (w32 (t1 + 1))) ⟨rfl, rfl, rfl, rfl, rfl, trivial⟩
      · refine zs_icmp_ge (pc := 50) (off := 50) (tgt := 100) C (by decide +kernel) (by decide) ?_ ?_
        · exact zs_goj (hJ9 ()) ⟨rfl, rfl, rfl, rfl, rfl, trivial⟩
        · refine zs_iload (pc := 53) (i := 6) C (by decide +kernel) rfl ?_
          refine zs_if_eq (pc := 55) (off := 45) (tgt := 100) C (by decide +kernel) (by decide) ?_ ?_
          · exact zs_goj (hJ9 ()) ⟨rfl, rfl, rfl, rfl, rfl, trivial⟩
          · refine zs_aload_n (pc := 58) (k := 0) (i := 0) C (by decide +kernel) rfl rfl ?_
            refine zs_iconst (pc := 59) (n := 1) (x := 1) C (by decide +kernel) (by decide +kernel) ?_
            refine zs_iload_n (pc := 60) (k := 2) (i := 2) C (by decide +kernel) rfl rfl ?_
            refine zs_iload (pc := 61) (i := 7) C (by decide +kernel) rfl ?_
            refine zs_iload_n (pc := 63) (k := 3) (i := 3) C (by decide +kernel) rfl rfl ?_
            refine zs_cvRi (pc := 64) (As := [sI 1, sI a1, sI t6, sI a2]) (st := []) C (Or.inl rfl) (c_X0_landing l g 1 a1 t6 a2) ml_RX0_192 rfl rfl rfl rfl (Nat.le_of_ble_eq_true rfl) ⟨Nat.le_of_ble_eq_true rfl, Nat.le_of_ble_eq_true rfl⟩ ⟨Nat.le_of_ble_eq_true rfl, Nat.le_of_ble_eq_true rfl⟩ (by decide +kernel) (fun x10 => ?_)
            refine zs_istore (pc := 67) (i := 8) (ls' := [(8, sI x10), (0, sR 18), (1, sI a0), (2, sI a1), (3, sI a2), (4, sI t1), (6, sI t4), (7, sI t6)]) C (by decide +kernel) (Nat.le_of_ble_eq_true rfl) rfl ?_
            refine zs_iload (pc := 69) (i := 8) C (by decide +kernel) rfl ?_
            refine zs_iconst (pc := 71) (n := (-1)) (x := (-1)) C (by decide +kernel) (by decide +kernel) ?_
            refine zs_jn (pJ := 94) (kJ := 0) (sJ := 0) (fun t11 => [(0, sR 18), (1, sI a0), (2, sI a1), (3, sI a2), (4, sI t1), (6, sI t4), (7, sI t6)]) (fun t11 => []) (fun t11 => ?_) (fun J12 hJ12 => ?_)
            · refine zs_iinc (pc := 94) (i := 7) (n := 1) (y := w32 (t6 + 1)) (ls' := [(7, sI (w32 (t6 + 1))), (0, sR 18), (1, sI a0), (2, sI a1), (3, sI a2), (4, sI t1), (6, sI t4)]) C (by decide +kernel) rfl rfl (Nat.le_of_ble_eq_true rfl) rfl ?_
              refine zs_goto (pc := 97) (off := (-50)) (tgt := 47) C (by decide +kernel) (by decide) ?_
              exact zs_goj (hK7 (w32 (t6 + 1))) ⟨rfl, rfl, rfl, rfl, rfl, rfl, rfl, trivial⟩
            · refine zs_icmp_eq (pc := 72) (off := 22) (tgt := 94) C (by decide +kernel) (by decide) ?_ ?_
              · exact zs_goj (hJ12 ()) ⟨rfl, rfl, rfl, rfl, rfl, rfl, rfl, trivial⟩
              · refine zs_iload (pc := 75) (i := 6) C (by decide +kernel) rfl ?_
                refine zs_iload (pc := 77) (i := 8) C (by decide +kernel) rfl ?_
                refine zs_iushr (pc := 79) C (by decide +kernel) ?_
                refine zs_iconst (pc := 80) (n := 1) (x := 1) C (by decide +kernel) (by decide +kernel) ?_
                refine zs_iand (pc := 81) C (by decide +kernel) ?_
                refine zs_if_eq (pc := 82) (off := 12) (tgt := 94) C (by decide +kernel) (by decide) ?_ ?_
                · exact zs_goj (hJ12 ()) ⟨rfl, rfl, rfl, rfl, rfl, rfl, rfl, trivial⟩
                · refine zs_bipush (pc := 85) (n := 10) (x := 10) C (by decide +kernel) (by decide +kernel) ?_
                  refine zs_iload (pc := 87) (i := 4) C (by decide +kernel) rfl ?_
                  refine zs_imul (pc := 89) C (by decide +kernel) ?_
                  refine zs_iload (pc := 90) (i := 7) C (by decide +kernel) rfl ?_
                  refine zs_iadd (pc := 92) C (by decide +kernel) ?_
                  exact zs_retRi (pc := 93) C hr ⟨Nat.le_of_ble_eq_true rfl, Nat.le_of_ble_eq_true rfl⟩ (by decide +kernel)
    · refine zs_icmp_ne (pc := 23) (off := 7) (tgt := 30) C (by decide +kernel) (by decide) ?_ ?_
      · refine zs_aload_n (pc := 30) (k := 0) (i := 0) C (by decide +kernel) rfl rfl ?_
        refine zs_getR (o' := 83) (pc := 31) (i := 34) (ci := 0) (k := 6) C (by decide +kernel) fl_RX0_34 rfl rfl rfl ?_
        refine zs_iload_n (pc := 34) (k := 3) (i := 3) C (by decide +kernel) rfl rfl ?_
        refine zs_bipush (pc := 35) (n := 25) (x := 25) C (by decide +kernel) (by decide +kernel) ?_
        refine zs_imul (pc := 37) C (by decide +kernel) ?_
        refine zs_iload (pc := 38) (i := 5) C (by decide +kernel) rfl ?_
        refine zs_iadd (pc := 40) C (by decide +kernel) ?_
        refine zs_iald (pc := 41) (o := 83) (n := 1025) C (by decide +kernel) rfl (fun hinx13 x13 => ?_)
        exact zs_goj (hJ5 x13) ⟨rfl, rfl, rfl, rfl, rfl, trivial⟩
      · refine zs_iconst (pc := 26) (n := 0) (x := 0) C (by decide +kernel) (by decide +kernel) ?_
        refine zs_goto (pc := 27) (off := 15) (tgt := 42) C (by decide +kernel) (by decide) ?_
        exact zs_goj (hJ5 0) ⟨rfl, rfl, rfl, rfl, rfl, trivial⟩
set_option maxRecDepth 20000 in
theorem c_X0_findWay (l : Launch) (g : GC) (a0 : Int) (a1 : Int) : ConW l g yX0_findWay cX0_findWay 7 (some .int) (rmd 6 0 0) [sR 18, sI a0, sI a1] (fun mm => fX0_findWay a0 a1 mm) := by
  refine zs_ofW (by decide +kernel) (Nat.le_of_ble_eq_true rfl) ?_
  intro p e s m args below meth c C hr
  replace C : Bd g RX0 cX0_findWay 7 p s m args meth c := C
  unfold fX0_findWay
  refine zs_aload_n (pc := 0) (k := 0) (i := 0) C (by decide +kernel) rfl rfl ?_
  refine zs_iload_n (pc := 1) (k := 1) (i := 1) C (by decide +kernel) rfl rfl ?_
  refine zs_iload_n (pc := 2) (k := 2) (i := 2) C (by decide +kernel) rfl rfl ?_
  refine zs_aload_n (pc := 3) (k := 0) (i := 0) C (by decide +kernel) rfl rfl ?_
  refine zs_getI (pc := 4) (i := 56) (ci := 0) (k := 13) C (by decide +kernel) fl_RX0_56 rfl rfl (fun x1 => ?_)
  refine zs_cvWi (pc := 7) (As := [sI a0, sI a1, sI x1]) (st := []) C (fun _ _ _ => rfl) (Or.inl rfl) (c_X0_hoursTo l g a0 a1 x1) ml_RX0_182 rfl rfl rfl rfl (Nat.le_of_ble_eq_true rfl) ⟨Nat.le_of_ble_eq_true rfl, Nat.le_of_ble_eq_true rfl⟩ ⟨Nat.le_of_ble_eq_true rfl, Nat.le_of_ble_eq_true rfl⟩ (by decide +kernel) (fun x2 => ?_)
  refine zs_istore_n (pc := 10) (k := 3) (i := 3) (ls' := [(3, sI x2), (0, sR 18), (1, sI a0), (2, sI a1)]) C (by decide +kernel) rfl (Nat.le_of_ble_eq_true rfl) rfl ?_
  refine zs_iload_n (pc := 11) (k := 3) (i := 3) C (by decide +kernel) rfl rfl ?_
  refine zs_iconst (pc := 12) (n := (-1)) (x := (-1)) C (by decide +kernel) (by decide +kernel) ?_
  refine zs_icmp_ne (pc := 13) (off := 5) (tgt := 18) C (by decide +kernel) (by decide) ?_ ?_
  · refine zs_aload_n (pc := 18) (k := 0) (i := 0) C (by decide +kernel) rfl rfl ?_
    refine zs_iload_n (pc := 19) (k := 1) (i := 1) C (by decide +kernel) rfl rfl ?_
    refine zs_iload_n (pc := 20) (k := 2) (i := 2) C (by decide +kernel) rfl rfl ?_
    refine zs_iload_n (pc := 21) (k := 3) (i := 3) C (by decide +kernel) rfl rfl ?_
    refine zs_cvVv (pc := 22) (As := [sI a0, sI a1, sI x2]) (st := []) C (fun _ _ _ => rfl) (c_X0_traceBack l g a0 a1 x2) ml_RX0_185 rfl rfl rfl rfl (Nat.le_of_ble_eq_true rfl) ⟨Nat.le_of_ble_eq_true rfl, Nat.le_of_ble_eq_true rfl⟩ ⟨Nat.le_of_ble_eq_true rfl, Nat.le_of_ble_eq_true rfl⟩ (by decide +kernel) ?_
    refine zs_aload_n (pc := 25) (k := 0) (i := 0) C (by decide +kernel) rfl rfl ?_
    refine zs_getR (o' := 19) (pc := 26) (i := 12) (ci := 0) (k := 0) C (by decide +kernel) fl_RX0_12 rfl rfl rfl ?_
    refine zs_getR (o' := 27) (pc := 29) (i := 88) (ci := 10) (k := 1) C (by decide +kernel) fl_RX0_88 rfl rfl rfl ?_
    refine zs_getR (o' := 28) (pc := 32) (i := 150) (ci := 5) (k := 4) C (by decide +kernel) fl_RX0_150 rfl rfl rfl ?_
    refine zs_aload_n (pc := 35) (k := 0) (i := 0) C (by decide +kernel) rfl rfl ?_
    refine zs_getI (pc := 36) (i := 53) (ci := 0) (k := 12) C (by decide +kernel) fl_RX0_53 rfl rfl (fun x3 => ?_)
    refine zs_iald (pc := 39) (o := 28) (n := 4) C (by decide +kernel) rfl (fun hinx4 x4 => ?_)
    refine zs_istore (pc := 40) (i := 4) (ls' := [(4, sI x4), (3, sI x2), (0, sR 18), (1, sI a0), (2, sI a1)]) C (by decide +kernel) (Nat.le_of_ble_eq_true rfl) rfl ?_
    refine zs_aload_n (pc := 42) (k := 0) (i := 0) C (by decide +kernel) rfl rfl ?_
    refine zs_getR (o' := 19) (pc := 43) (i := 12) (ci := 0) (k := 0) C (by decide +kernel) fl_RX0_12 rfl rfl rfl ?_
    refine zs_getR (o' := 27) (pc := 46) (i := 88) (ci := 10) (k := 1) C (by decide +kernel) fl_RX0_88 rfl rfl rfl ?_
    refine zs_getR (o' := 29) (pc := 49) (i := 153) (ci := 5) (k := 5) C (by decide +kernel) fl_RX0_153 rfl rfl rfl ?_
    refine zs_aload_n (pc := 52) (k := 0) (i := 0) C (by decide +kernel) rfl rfl ?_
    refine zs_getI (pc := 53) (i := 53) (ci := 0) (k := 12) C (by decide +kernel) fl_RX0_53 rfl rfl (fun x5 => ?_)
    refine zs_iald (pc := 56) (o := 29) (n := 4) C (by decide +kernel) rfl (fun hinx6 x6 => ?_)
    refine zs_istore (pc := 57) (i := 5) (ls' := [(5, sI x6), (4, sI x4), (3, sI x2), (0, sR 18), (1, sI a0), (2, sI a1)]) C (by decide +kernel) (Nat.le_of_ble_eq_true rfl) rfl ?_
    refine zs_iconst (pc := 59) (n := 1) (x := 1) C (by decide +kernel) (by decide +kernel) ?_
    refine zs_istore (pc := 60) (i := 6) (ls' := [(6, sI 1), (5, sI x6), (4, sI x4), (3, sI x2), (0, sR 18), (1, sI a0), (2, sI a1)]) C (by decide +kernel) (Nat.le_of_ble_eq_true rfl) rfl ?_
    refine zs_sub (ls' := [(0, sR 18), (3, sI x2), (4, sI x4), (5, sI x6), (6, sI 1)]) ⟨rfl, rfl, rfl, rfl, rfl, trivial⟩ ?_
    refine zs_lp (pc := 62) (fun (t7 : Int × Int × Int) => [(0, sR 18), (3, sI x2), (4, sI t7.1), (5, sI t7.2.1), (6, sI t7.2.2)]) (fun _ => []) (fun K8 hK8 t7 => ?_) BIG (x4, x6, 1)
    refine zs_iload (pc := 62) (i := 6) C (by decide +kernel) rfl ?_
    refine zs_iload_n (pc := 64) (k := 3) (i := 3) C (by decide +kernel) rfl rfl ?_
    refine zs_icmp_gt (pc := 65) (off := 74) (tgt := 139) C (by decide +kernel) (by decide) ?_ ?_
    · refine zs_iload_n (pc := 139) (k := 3) (i := 3) C (by decide +kernel) rfl rfl ?_
      exact zs_retWi (pc := 140) C hr ⟨Nat.le_of_ble_eq_true rfl, Nat.le_of_ble_eq_true rfl⟩ (by decide +kernel)
    · refine zs_aload_n (pc := 68) (k := 0) (i := 0) C (by decide +kernel) rfl rfl ?_
      refine zs_getR (o' := 85) (pc := 69) (i := 40) (ci := 0) (k := 8) C (by decide +kernel) fl_RX0_40 rfl rfl rfl ?_
      refine zs_iload (pc := 72) (i := 6) C (by decide +kernel) rfl ?_
      refine zs_aload_n (pc := 74) (k := 0) (i := 0) C (by decide +kernel) rfl rfl ?_
      refine zs_iload (pc := 75) (i := 4) C (by decide +kernel) rfl ?_
      refine zs_iload (pc := 77) (i := 5) C (by decide +kernel) rfl ?_
      refine zs_iload (pc := 79) (i := 6) C (by decide +kernel) rfl ?_
      refine zs_cvRi (pc := 81) (As := [sI t7.1, sI t7.2.1, sI t7.2.2]) (st := [sI t7.2.2, sR 85]) C (Or.inl rfl) (c_X0_bestTurns l g t7.1 t7.2.1 t7.2.2) ml_RX0_189 rfl rfl rfl rfl (Nat.le_of_ble_eq_true rfl) ⟨Nat.le_of_ble_eq_true rfl, Nat.le_of_ble_eq_true rfl⟩ ⟨Nat.le_of_ble_eq_true rfl, Nat.le_of_ble_eq_true rfl⟩ (by decide +kernel) (fun x9 => ?_)
      refine zs_iast (pc := 84) (o := 85) (n := 41) C (fun _ _ _ => rfl) (by decide +kernel) rfl ?_
      refine zs_aload_n (pc := 85) (k := 0) (i := 0) C (by decide +kernel) rfl rfl ?_
      refine zs_getR (o' := 19) (pc := 86) (i := 12) (ci := 0) (k := 0) C (by decide +kernel) fl_RX0_12 rfl rfl rfl ?_
      refine zs_getR (o' := 20) (pc := 89) (i := 72) (ci := 10) (k := 0) C (by decide +kernel) fl_RX0_72 rfl rfl rfl ?_
      refine zs_iload (pc := 92) (i := 4) C (by decide +kernel) rfl ?_
      refine zs_aload_n (pc := 94) (k := 0) (i := 0) C (by decide +kernel) rfl rfl ?_
      refine zs_getR (o' := 85) (pc := 95) (i := 40) (ci := 0) (k := 8) C (by decide +kernel) fl_RX0_40 rfl rfl rfl ?_
      refine zs_iload (pc := 98) (i := 6) C (by decide +kernel) rfl ?_
      refine zs_iald (pc := 100) (o := 85) (n := 41) C (by decide +kernel) rfl (fun hinx10 x10 => ?_)
      refine zs_bipush (pc := 101) (n := 10) (x := 10) C (by decide +kernel) (by decide +kernel) ?_
      refine zs_idiv (pc := 103) C (by decide +kernel) (by decide +kernel) ?_
      refine zs_cvRi (pc := 104) (As := [sI t7.1, sI (Int.tdiv x10 10)]) (st := []) C (Or.inl rfl) (c_X3_beside l g t7.1 (Int.tdiv x10 10)) ml_RX0_108 rfl rfl rfl rfl (Nat.le_of_ble_eq_true rfl) ⟨Nat.le_of_ble_eq_true rfl, Nat.le_of_ble_eq_true rfl⟩ ⟨Nat.le_of_ble_eq_true rfl, Nat.le_of_ble_eq_true rfl⟩ (by decide +kernel) (fun x11 => ?_)
      refine zs_istore (pc := 107) (i := 4) (ls' := [(4, sI x11), (0, sR 18), (3, sI x2), (5, sI t7.2.1), (6, sI t7.2.2)]) C (by decide +kernel) (Nat.le_of_ble_eq_true rfl) rfl ?_
      refine zs_aload_n (pc := 109) (k := 0) (i := 0) C (by decide +kernel) rfl rfl ?_
      refine zs_getR (o' := 19) (pc := 110) (i := 12) (ci := 0) (k := 0) C (by decide +kernel) fl_RX0_12 rfl rfl rfl ?_
      refine zs_getR (o' := 20) (pc := 113) (i := 72) (ci := 10) (k := 0) C (by decide +kernel) fl_RX0_72 rfl rfl rfl ?_
      refine zs_iload (pc := 116) (i := 5) C (by decide +kernel) rfl ?_
      refine zs_aload_n (pc := 118) (k := 0) (i := 0) C (by decide +kernel) rfl rfl ?_
      refine zs_getR (o' := 85) (pc := 119) (i := 40) (ci := 0) (k := 8) C (by decide +kernel) fl_RX0_40 rfl rfl rfl ?_
      refine zs_iload (pc := 122) (i := 6) C (by decide +kernel) rfl ?_
      refine zs_iald (pc := 124) (o := 85) (n := 41) C (by decide +kernel) rfl (fun hinx12 x12 => ?_)
      refine zs_bipush (pc := 125) (n := 10) (x := 10) C (by decide +kernel) (by decide +kernel) ?_
      refine zs_irem (pc := 127) C (by decide +kernel) (by decide +kernel) ?_
      refine zs_cvRi (pc := 128) (As := [sI t7.2.1, sI (Int.tmod x12 10)]) (st := []) C (Or.inl rfl) (c_X3_beside l g t7.2.1 (Int.tmod x12 10)) ml_RX0_108 rfl rfl rfl rfl (Nat.le_of_ble_eq_true rfl) ⟨Nat.le_of_ble_eq_true rfl, Nat.le_of_ble_eq_true rfl⟩ ⟨Nat.le_of_ble_eq_true rfl, Nat.le_of_ble_eq_true rfl⟩ (by decide +kernel) (fun x13 => ?_)
      refine zs_istore (pc := 131) (i := 5) (ls' := [(5, sI x13), (4, sI x11), (0, sR 18), (3, sI x2), (6, sI t7.2.2)]) C (by decide +kernel) (Nat.le_of_ble_eq_true rfl) rfl ?_
      refine zs_iinc (pc := 133) (i := 6) (n := 1) (y := w32 (t7.2.2 + 1)) (ls' := [(6, sI (w32 (t7.2.2 + 1))), (5, sI x13), (4, sI x11), (0, sR 18), (3, sI x2)]) C (by decide +kernel) rfl rfl (Nat.le_of_ble_eq_true rfl) rfl ?_
      refine zs_goto (pc := 136) (off := (-74)) (tgt := 62) C (by decide +kernel) (by decide) ?_
      exact zs_goj (hK8 (x11, x13, w32 (t7.2.2 + 1))) ⟨rfl, rfl, rfl, rfl, rfl, trivial⟩
  · refine zs_iconst (pc := 16) (n := (-1)) (x := (-1)) C (by decide +kernel) (by decide +kernel) ?_
    exact zs_retWi (pc := 17) C hr ⟨Nat.le_of_ble_eq_true rfl, Nat.le_of_ble_eq_true rfl⟩ (by decide +kernel)
set_option maxRecDepth 20000 in
theorem c_X0_neededPlaces (l : Launch) (g : GC) (a0 : Int) (a1 : Int) (a2 : Int) : ConW l g yX0_neededPlaces cX0_neededPlaces 11 (some .int) (rmd 6 0 0) [sR 18, sI a0, sI a1, sI a2] (fun mm => fX0_neededPlaces a0 a1 a2 mm) := by
  refine zs_ofW (by decide +kernel) (Nat.le_of_ble_eq_true rfl) ?_
  intro p e s m args below meth c C hr
  replace C : Bd g RX0 cX0_neededPlaces 11 p s m args meth c := C
  unfold fX0_neededPlaces
  refine zs_aload_n (pc := 0) (k := 0) (i := 0) C (by decide +kernel) rfl rfl ?_
  refine zs_cvRi (pc := 1) (As := []) (st := []) C (Or.inl rfl) (c_X0_startFirst l g ) ml_RX0_196 rfl rfl rfl rfl (Nat.le_of_ble_eq_true rfl) ⟨Nat.le_of_ble_eq_true rfl, Nat.le_of_ble_eq_true rfl⟩ ⟨Nat.le_of_ble_eq_true rfl, Nat.le_of_ble_eq_true rfl⟩ (by decide +kernel) (fun x1 => ?_)
  refine zs_istore (pc := 4) (i := 4) (ls' := [(4, sI x1), (0, sR 18), (1, sI a0), (2, sI a1), (3, sI a2)]) C (by decide +kernel) (Nat.le_of_ble_eq_true rfl) rfl ?_
  refine zs_aload_n (pc := 6) (k := 0) (i := 0) C (by decide +kernel) rfl rfl ?_
  refine zs_cvRi (pc := 7) (As := []) (st := []) C (Or.inl rfl) (c_X0_startSecond l g ) ml_RX0_199 rfl rfl rfl rfl (Nat.le_of_ble_eq_true rfl) ⟨Nat.le_of_ble_eq_true rfl, Nat.le_of_ble_eq_true rfl⟩ ⟨Nat.le_of_ble_eq_true rfl, Nat.le_of_ble_eq_true rfl⟩ (by decide +kernel) (fun x2 => ?_)
  refine zs_istore (pc := 10) (i := 5) (ls' := [(5, sI x2), (4, sI x1), (0, sR 18), (1, sI a0), (2, sI a1), (3, sI a2)]) C (by decide +kernel) (Nat.le_of_ble_eq_true rfl) rfl ?_
  refine zs_iconst (pc := 12) (n := 1) (x := 1) C (by decide +kernel) (by decide +kernel) ?_
  refine zs_iload (pc := 13) (i := 4) C (by decide +kernel) rfl ?_
  refine zs_ishl (pc := 15) C (by decide +kernel) ?_
  refine zs_iconst (pc := 16) (n := 1) (x := 1) C (by decide +kernel) (by decide +kernel) ?_
  refine zs_iload (pc := 17) (i := 5) C (by decide +kernel) rfl ?_
  refine zs_ishl (pc := 19) C (by decide +kernel) ?_
  refine zs_ior (pc := 20) C (by decide +kernel) ?_
  refine zs_iconst (pc := 21) (n := 1) (x := 1) C (by decide +kernel) (by decide +kernel) ?_
  refine zs_iload_n (pc := 22) (k := 1) (i := 1) C (by decide +kernel) rfl rfl ?_
  refine zs_ishl (pc := 23) C (by decide +kernel) ?_
  refine zs_ior (pc := 24) C (by decide +kernel) ?_
  refine zs_iconst (pc := 25) (n := 1) (x := 1) C (by decide +kernel) (by decide +kernel) ?_
  refine zs_iload_n (pc := 26) (k := 2) (i := 2) C (by decide +kernel) rfl rfl ?_
  refine zs_ishl (pc := 27) C (by decide +kernel) ?_
  refine zs_ior (pc := 28) C (by decide +kernel) ?_
  refine zs_let (fun x3 => ?_)
  refine zs_istore (pc := 29) (i := 6) (ls' := [(6, sI x3), (5, sI x2), (4, sI x1), (0, sR 18), (1, sI a0), (2, sI a1), (3, sI a2)]) C (by decide +kernel) (Nat.le_of_ble_eq_true rfl) rfl ?_
  refine zs_iconst (pc := 31) (n := 0) (x := 0) C (by decide +kernel) (by decide +kernel) ?_
  refine zs_istore (pc := 32) (i := 7) (ls' := [(7, sI 0), (6, sI x3), (5, sI x2), (4, sI x1), (0, sR 18), (1, sI a0), (2, sI a1), (3, sI a2)]) C (by decide +kernel) (Nat.le_of_ble_eq_true rfl) rfl ?_
  refine zs_iconst (pc := 34) (n := 1) (x := 1) C (by decide +kernel) (by decide +kernel) ?_
  refine zs_istore (pc := 35) (i := 8) (ls' := [(8, sI 1), (7, sI 0), (6, sI x3), (5, sI x2), (4, sI x1), (0, sR 18), (1, sI a0), (2, sI a1), (3, sI a2)]) C (by decide +kernel) (Nat.le_of_ble_eq_true rfl) rfl ?_
  refine zs_sub (ls' := [(0, sR 18), (1, sI a0), (2, sI a1), (3, sI a2), (4, sI x1), (5, sI x2), (6, sI x3), (7, sI 0), (8, sI 1)]) ⟨rfl, rfl, rfl, rfl, rfl, rfl, rfl, rfl, rfl, trivial⟩ ?_
  refine zs_lp (pc := 37) (fun (t4 : Int × Int × Int × Int) => [(0, sR 18), (1, sI a0), (2, sI a1), (3, sI a2), (4, sI t4.1), (5, sI t4.2.1), (6, sI x3), (7, sI t4.2.2.1), (8, sI t4.2.2.2)]) (fun _ => []) (fun K5 hK5 t4 => ?_) BIG (x1, x2, 0, 1)
  refine zs_iload (pc := 37) (i := 8) C (by decide +kernel) rfl ?_
  refine zs_iload_n (pc := 39) (k := 3) (i := 3) C (by decide +kernel) rfl rfl ?_
  refine zs_icmp_gt (pc := 40) (off := 71) (tgt := 111) C (by decide +kernel) (by decide) ?_ ?_
  · refine zs_iconst (pc := 111) (n := 0) (x := 0) C (by decide +kernel) (by decide +kernel) ?_
    refine zs_istore (pc := 112) (i := 8) (ls' := [(8, sI 0), (0, sR 18), (1, sI a0), (2, sI a1), (3, sI a2), (4, sI t4.1), (5, sI t4.2.1), (6, sI x3), (7, sI t4.2.2.1)]) C (by decide +kernel) (Nat.le_of_ble_eq_true rfl) rfl ?_
    refine zs_iconst (pc := 114) (n := 0) (x := 0) C (by decide +kernel) (by decide +kernel) ?_
    refine zs_istore (pc := 115) (i := 9) (ls' := [(9, sI 0), (8, sI 0), (0, sR 18), (1, sI a0), (2, sI a1), (3, sI a2), (4, sI t4.1), (5, sI t4.2.1), (6, sI x3), (7, sI t4.2.2.1)]) C (by decide +kernel) (Nat.le_of_ble_eq_true rfl) rfl ?_
    refine zs_sub (ls' := [(0, sR 18), (1, sI a0), (2, sI a1), (6, sI x3), (7, sI t4.2.2.1), (8, sI 0), (9, sI 0)]) ⟨rfl, rfl, rfl, rfl, rfl, rfl, rfl, trivial⟩ ?_
    refine zs_lp (pc := 117) (fun (t6 : Int × Int) => [(0, sR 18), (1, sI a0), (2, sI a1), (6, sI x3), (7, sI t4.2.2.1), (8, sI t6.1), (9, sI t6.2)]) (fun _ => []) (fun K7 hK7 t6 => ?_) BIG (0, 0)
    refine zs_iload (pc := 117) (i := 9) C (by decide +kernel) rfl ?_
    refine zs_aload_n (pc := 119) (k := 0) (i := 0) C (by decide +kernel) rfl rfl ?_
    refine zs_getI (pc := 120) (i := 43) (ci := 0) (k := 9) C (by decide +kernel) fl_RX0_43 rfl rfl (fun x8 => ?_)
    refine zs_icmp_ge (pc := 123) (off := 70) (tgt := 193) C (by decide +kernel) (by decide) ?_ ?_
    · refine zs_iload (pc := 193) (i := 8) C (by decide +kernel) rfl ?_
      exact zs_retWi (pc := 195) C hr ⟨Nat.le_of_ble_eq_true rfl, Nat.le_of_ble_eq_true rfl⟩ (by decide +kernel)
    · refine zs_iload (pc := 126) (i := 7) C (by decide +kernel) rfl ?_
      refine zs_iload (pc := 128) (i := 6) C (by decide +kernel) rfl ?_
      refine zs_iconst (pc := 130) (n := (-1)) (x := (-1)) C (by decide +kernel) (by decide +kernel) ?_
      refine zs_ixor (pc := 131) C (by decide +kernel) ?_
      refine zs_iand (pc := 132) C (by decide +kernel) ?_
      refine zs_iconst (pc := 133) (n := 1) (x := 1) C (by decide +kernel) (by decide +kernel) ?_
      refine zs_iload (pc := 134) (i := 9) C (by decide +kernel) rfl ?_
      refine zs_ishl (pc := 136) C (by decide +kernel) ?_
      refine zs_iand (pc := 137) C (by decide +kernel) ?_
      refine zs_jn (pJ := 146) (kJ := 0) (sJ := 0) (fun t9 => [(0, sR 18), (1, sI a0), (2, sI a1), (6, sI x3), (7, sI t4.2.2.1), (8, sI t6.1), (9, sI t6.2)]) (fun t9 => [sI t9]) (fun t9 => ?_) (fun J10 hJ10 => ?_)
      · refine zs_istore (pc := 146) (i := 10) (ls' := [(10, sI t9), (0, sR 18), (1, sI a0), (2, sI a1), (6, sI x3), (7, sI t4.2.2.1), (8, sI t6.1), (9, sI t6.2)]) C (by decide +kernel) (Nat.le_of_ble_eq_true rfl) rfl ?_
        refine zs_iload (pc := 148) (i := 10) C (by decide +kernel) rfl ?_
        refine zs_jn (pJ := 187) (kJ := 0) (sJ := 0) (fun t11 => [(0, sR 18), (1, sI a0), (2, sI a1), (6, sI x3), (7, sI t4.2.2.1), (8, sI t11), (9, sI t6.2)]) (fun t11 => []) (fun t11 => ?_) (fun J12 hJ12 => ?_)
        · refine zs_iinc (pc := 187) (i := 9) (n := 1) (y := w32 (t6.2 + 1)) (ls' := [(9, sI (w32 (t6.2 + 1))), (0, sR 18), (1, sI a0), (2, sI a1), (6, sI x3), (7, sI t4.2.2.1), (8, sI t11)]) C (by decide +kernel) rfl rfl (Nat.le_of_ble_eq_true rfl) rfl ?_
          refine zs_goto (pc := 190) (off := (-73)) (tgt := 117) C (by decide +kernel) (by decide) ?_
          exact zs_goj (hK7 (t11, w32 (t6.2 + 1))) ⟨rfl, rfl, rfl, rfl, rfl, rfl, rfl, trivial⟩
        · refine zs_if_eq (pc := 150) (off := 37) (tgt := 187) C (by decide +kernel) (by decide) ?_ ?_
          · exact zs_goj (hJ12 t6.1) ⟨rfl, rfl, rfl, rfl, rfl, rfl, rfl, trivial⟩
          · refine zs_aload_n (pc := 153) (k := 0) (i := 0) C (by decide +kernel) rfl rfl ?_
            refine zs_iload_n (pc := 154) (k := 1) (i := 1) C (by decide +kernel) rfl rfl ?_
            refine zs_iload_n (pc := 155) (k := 2) (i := 2) C (by decide +kernel) rfl rfl ?_
            refine zs_aload_n (pc := 156) (k := 0) (i := 0) C (by decide +kernel) rfl rfl ?_
            refine zs_getR (o' := 19) (pc := 157) (i := 12) (ci := 0) (k := 0) C (by decide +kernel) fl_RX0_12 rfl rfl rfl ?_
            refine zs_getR (o' := 20) (pc := 160) (i := 72) (ci := 10) (k := 0) C (by decide +kernel) fl_RX0_72 rfl rfl rfl ?_
            refine zs_getI (pc := 163) (i := 76) (ci := 3) (k := 3) C (by decide +kernel) fl_RX0_76 rfl rfl (fun x13 => ?_)
            refine zs_iconst (pc := 166) (n := 1) (x := 1) C (by decide +kernel) (by decide +kernel) ?_
            refine zs_iload (pc := 167) (i := 9) C (by decide +kernel) rfl ?_
            refine zs_ishl (pc := 169) C (by decide +kernel) ?_
            refine zs_ior (pc := 170) C (by decide +kernel) ?_
            refine zs_cvWi (pc := 171) (As := [sI a0, sI a1, sI (ior x13 (ishl 1 t6.2))]) (st := []) C (fun _ _ _ => rfl) (Or.inl rfl) (c_X0_hoursTo l g a0 a1 (ior x13 (ishl 1 t6.2))) ml_RX0_182 rfl rfl rfl rfl (Nat.le_of_ble_eq_true rfl) ⟨Nat.le_of_ble_eq_true rfl, Nat.le_of_ble_eq_true rfl⟩ ⟨Nat.le_of_ble_eq_true rfl, Nat.le_of_ble_eq_true rfl⟩ (by decide +kernel) (fun x14 => ?_)
            refine zs_iconst (pc := 174) (n := (-1)) (x := (-1)) C (by decide +kernel) (by decide +kernel) ?_
            refine zs_icmp_ne (pc := 175) (off := 12) (tgt := 187) C (by decide +kernel) (by decide) ?_ ?_
            · exact zs_goj (hJ12 t6.1) ⟨rfl, rfl, rfl, rfl, rfl, rfl, rfl, trivial⟩
            · refine zs_iload (pc := 178) (i := 8) C (by decide +kernel) rfl ?_
              refine zs_iconst (pc := 180) (n := 1) (x := 1) C (by decide +kernel) (by decide +kernel) ?_
              refine zs_iload (pc := 181) (i := 9) C (by decide +kernel) rfl ?_
              refine zs_ishl (pc := 183) C (by decide +kernel) ?_
              refine zs_ior (pc := 184) C (by decide +kernel) ?_
              refine zs_let (fun x15 => ?_)
              refine zs_istore (pc := 185) (i := 8) (ls' := [(8, sI x15), (10, sI t9), (0, sR 18), (1, sI a0), (2, sI a1), (6, sI x3), (7, sI t4.2.2.1), (9, sI t6.2)]) C (by decide +kernel) (Nat.le_of_ble_eq_true rfl) rfl ?_
              exact zs_goj (hJ12 x15) ⟨rfl, rfl, rfl, rfl, rfl, rfl, rfl, trivial⟩
      · refine zs_if_eq (pc := 138) (off := 7) (tgt := 145) C (by decide +kernel) (by decide) ?_ ?_
        · refine zs_iconst (pc := 145) (n := 0) (x := 0) C (by decide +kernel) (by decide +kernel) ?_
          exact zs_goj (hJ10 0) ⟨rfl, rfl, rfl, rfl, rfl, rfl, rfl, trivial⟩
        · refine zs_iconst (pc := 141) (n := 1) (x := 1) C (by decide +kernel) (by decide +kernel) ?_
          refine zs_goto (pc := 142) (off := 4) (tgt := 146) C (by decide +kernel) (by decide) ?_
          exact zs_goj (hJ10 1) ⟨rfl, rfl, rfl, rfl, rfl, rfl, rfl, trivial⟩
  · refine zs_aload_n (pc := 43) (k := 0) (i := 0) C (by decide +kernel) rfl rfl ?_
    refine zs_getR (o' := 19) (pc := 44) (i := 12) (ci := 0) (k := 0) C (by decide +kernel) fl_RX0_12 rfl rfl rfl ?_
    refine zs_getR (o' := 20) (pc := 47) (i := 72) (ci := 10) (k := 0) C (by decide +kernel) fl_RX0_72 rfl rfl rfl ?_
    refine zs_iload (pc := 50) (i := 4) C (by decide +kernel) rfl ?_
    refine zs_aload_n (pc := 52) (k := 0) (i := 0) C (by decide +kernel) rfl rfl ?_
    refine zs_getR (o' := 85) (pc := 53) (i := 40) (ci := 0) (k := 8) C (by decide +kernel) fl_RX0_40 rfl rfl rfl ?_
    refine zs_iload (pc := 56) (i := 8) C (by decide +kernel) rfl ?_
    refine zs_iald (pc := 58) (o := 85) (n := 41) C (by decide +kernel) rfl (fun hinx16 x16 => ?_)
    refine zs_bipush (pc := 59) (n := 10) (x := 10) C (by decide +kernel) (by decide +kernel) ?_
    refine zs_idiv (pc := 61) C (by decide +kernel) (by decide +kernel) ?_
    refine zs_cvRi (pc := 62) (As := [sI t4.1, sI (Int.tdiv x16 10)]) (st := []) C (Or.inl rfl) (c_X3_beside l g t4.1 (Int.tdiv x16 10)) ml_RX0_108 rfl rfl rfl rfl (Nat.le_of_ble_eq_true rfl) ⟨Nat.le_of_ble_eq_true rfl, Nat.le_of_ble_eq_true rfl⟩ ⟨Nat.le_of_ble_eq_true rfl, Nat.le_of_ble_eq_true rfl⟩ (by decide +kernel) (fun x17 => ?_)
    refine zs_istore (pc := 65) (i := 4) (ls' := [(4, sI x17), (0, sR 18), (1, sI a0), (2, sI a1), (3, sI a2), (5, sI t4.2.1), (6, sI x3), (7, sI t4.2.2.1), (8, sI t4.2.2.2)]) C (by decide +kernel) (Nat.le_of_ble_eq_true rfl) rfl ?_
    refine zs_aload_n (pc := 67) (k := 0) (i := 0) C (by decide +kernel) rfl rfl ?_
    refine zs_getR (o' := 19) (pc := 68) (i := 12) (ci := 0) (k := 0) C (by decide +kernel) fl_RX0_12 rfl rfl rfl ?_
    refine zs_getR (o' := 20) (pc := 71) (i := 72) (ci := 10) (k := 0) C (by decide +kernel) fl_RX0_72 rfl rfl rfl ?_
    refine zs_iload (pc := 74) (i := 5) C (by decide +kernel) rfl ?_
    refine zs_aload_n (pc := 76) (k := 0) (i := 0) C (by decide +kernel) rfl rfl ?_
    refine zs_getR (o' := 85) (pc := 77) (i := 40) (ci := 0) (k := 8) C (by decide +kernel) fl_RX0_40 rfl rfl rfl ?_
    refine zs_iload (pc := 80) (i := 8) C (by decide +kernel) rfl ?_
    refine zs_iald (pc := 82) (o := 85) (n := 41) C (by decide +kernel) rfl (fun hinx18 x18 => ?_)
    refine zs_bipush (pc := 83) (n := 10) (x := 10) C (by decide +kernel) (by decide +kernel) ?_
    refine zs_irem (pc := 85) C (by decide +kernel) (by decide +kernel) ?_
    refine zs_cvRi (pc := 86) (As := [sI t4.2.1, sI (Int.tmod x18 10)]) (st := []) C (Or.inl rfl) (c_X3_beside l g t4.2.1 (Int.tmod x18 10)) ml_RX0_108 rfl rfl rfl rfl (Nat.le_of_ble_eq_true rfl) ⟨Nat.le_of_ble_eq_true rfl, Nat.le_of_ble_eq_true rfl⟩ ⟨Nat.le_of_ble_eq_true rfl, Nat.le_of_ble_eq_true rfl⟩ (by decide +kernel) (fun x19 => ?_)
    refine zs_istore (pc := 89) (i := 5) (ls' := [(5, sI x19), (4, sI x17), (0, sR 18), (1, sI a0), (2, sI a1), (3, sI a2), (6, sI x3), (7, sI t4.2.2.1), (8, sI t4.2.2.2)]) C (by decide +kernel) (Nat.le_of_ble_eq_true rfl) rfl ?_
    refine zs_iload (pc := 91) (i := 7) C (by decide +kernel) rfl ?_
    refine zs_iconst (pc := 93) (n := 1) (x := 1) C (by decide +kernel) (by decide +kernel) ?_
    refine zs_iload (pc := 94) (i := 4) C (by decide +kernel) rfl ?_
    refine zs_ishl (pc := 96) C (by decide +kernel) ?_
    refine zs_iconst (pc := 97) (n := 1) (x := 1) C (by decide +kernel) (by decide +kernel) ?_
    refine zs_iload (pc := 98) (i := 5) C (by decide +kernel) rfl ?_
    refine zs_ishl (pc := 100) C (by decide +kernel) ?_
    refine zs_ior (pc := 101) C (by decide +kernel) ?_
    refine zs_ior (pc := 102) C (by decide +kernel) ?_
    refine zs_let (fun x20 => ?_)
    refine zs_istore (pc := 103) (i := 7) (ls' := [(7, sI x20), (5, sI x19), (4, sI x17), (0, sR 18), (1, sI a0), (2, sI a1), (3, sI a2), (6, sI x3), (8, sI t4.2.2.2)]) C (by decide +kernel) (Nat.le_of_ble_eq_true rfl) rfl ?_
    refine zs_iinc (pc := 105) (i := 8) (n := 1) (y := w32 (t4.2.2.2 + 1)) (ls' := [(8, sI (w32 (t4.2.2.2 + 1))), (7, sI x20), (5, sI x19), (4, sI x17), (0, sR 18), (1, sI a0), (2, sI a1), (3, sI a2), (6, sI x3)]) C (by decide +kernel) rfl rfl (Nat.le_of_ble_eq_true rfl) rfl ?_
    refine zs_goto (pc := 108) (off := (-71)) (tgt := 37) C (by decide +kernel) (by decide) ?_
    exact zs_goj (hK5 (x17, x19, x20, w32 (t4.2.2.2 + 1))) ⟨rfl, rfl, rfl, rfl, rfl, rfl, rfl, rfl, rfl, trivial⟩

set_option maxRecDepth 20000 in
theorem c_X12_readRain (l : Launch) (g : GC)  : ConV l g yX12_readRain cX12_readRain 3 (rmd 9 0 0) [sR 287] (fun mm => fX12_readRain  mm) := by
  refine zs_ofV (by decide +kernel) (Nat.le_of_ble_eq_true rfl) ?_
  intro p e s m args below meth c C hr
  replace C : Bd g RX12 cX12_readRain 3 p s m args meth c := C
  unfold fX12_readRain
  refine zs_aload_n (pc := 0) (k := 0) (i := 0) C (by decide +kernel) rfl rfl ?_
  refine zs_iconst (pc := 1) (n := 0) (x := 0) C (by decide +kernel) (by decide +kernel) ?_
  refine zs_bipush (pc := 2) (n := 9) (x := 9) C (by decide +kernel) (by decide +kernel) ?_
  refine zs_cvWi (pc := 4) (As := [sI 0, sI 9]) (st := []) C (fun _ _ _ => rfl) rfl (c_X12_number l g 0 9) ml_RX12_226 rfl rfl rfl rfl (Nat.le_of_ble_eq_true rfl) ⟨Nat.le_of_ble_eq_true rfl, Nat.le_of_ble_eq_true rfl⟩ ⟨Nat.le_of_ble_eq_true rfl, Nat.le_of_ble_eq_true rfl⟩ (by decide +kernel) (fun x1 => ?_)
  refine zs_istore_n (pc := 7) (k := 1) (i := 1) (ls' := [(1, sI x1), (0, sR 287)]) C (by decide +kernel) rfl (Nat.le_of_ble_eq_true rfl) rfl ?_
  refine zs_aload_n (pc := 8) (k := 0) (i := 0) C (by decide +kernel) rfl rfl ?_
  refine zs_ldcS (pc := 9) (i := 251) (k := 14) C (by decide +kernel) rfl ?_
  refine zs_cvVv (pc := 11) (As := [sT 14]) (st := []) C (fun _ _ _ => rfl) (c_X12_mustWord l g 14 (by decide)) ml_RX12_247 rfl rfl rfl rfl (Nat.le_of_ble_eq_true rfl) ⟨Nat.le_of_ble_eq_true rfl, Nat.le_of_ble_eq_true rfl⟩ ⟨Nat.le_of_ble_eq_true rfl, Nat.le_of_ble_eq_true rfl⟩ (by decide +kernel) ?_
  refine zs_aload_n (pc := 14) (k := 0) (i := 0) C (by decide +kernel) rfl rfl ?_
  refine zs_iconst (pc := 15) (n := 1) (x := 1) C (by decide +kernel) (by decide +kernel) ?_
  refine zs_bipush (pc := 16) (n := 99) (x := 99) C (by decide +kernel) (by decide +kernel) ?_
  refine zs_cvWi (pc := 18) (As := [sI 1, sI 99]) (st := []) C (fun _ _ _ => rfl) rfl (c_X12_number l g 1 99) ml_RX12_226 rfl rfl rfl rfl (Nat.le_of_ble_eq_true rfl) ⟨Nat.le_of_ble_eq_true rfl, Nat.le_of_ble_eq_true rfl⟩ ⟨Nat.le_of_ble_eq_true rfl, Nat.le_of_ble_eq_true rfl⟩ (by decide +kernel) (fun x2 => ?_)
  refine zs_istore_n (pc := 21) (k := 2) (i := 2) (ls' := [(2, sI x2), (1, sI x1), (0, sR 287)]) C (by decide +kernel) rfl (Nat.le_of_ble_eq_true rfl) rfl ?_
  refine zs_aload_n (pc := 22) (k := 0) (i := 0) C (by decide +kernel) rfl rfl ?_
  refine zs_getI (pc := 23) (i := 123) (ci := 12) (k := 12) C (by decide +kernel) fl_RX12_123 rfl rfl (fun x3 => ?_)
  refine zs_if_eq (pc := 26) (off := 4) (tgt := 30) C (by decide +kernel) (by decide) ?_ ?_
  · refine zs_aload_n (pc := 30) (k := 0) (i := 0) C (by decide +kernel) rfl rfl ?_
    refine zs_getR (o' := 289) (pc := 31) (i := 13) (ci := 12) (k := 1) C (by decide +kernel) fl_RX12_13 rfl rfl rfl ?_
    refine zs_bipush (pc := 34) (n := 22) (x := 22) C (by decide +kernel) (by decide +kernel) ?_
    refine zs_iload_n (pc := 36) (k := 1) (i := 1) C (by decide +kernel) rfl rfl ?_
    refine zs_iastk (pc := 37) (o := 289) (n := 2005) C (by decide) (fun _ _ _ => rfl) (by decide +kernel) rfl ?_
    refine zs_aload_n (pc := 38) (k := 0) (i := 0) C (by decide +kernel) rfl rfl ?_
    refine zs_getR (o' := 289) (pc := 39) (i := 13) (ci := 12) (k := 1) C (by decide +kernel) fl_RX12_13 rfl rfl rfl ?_
    refine zs_bipush (pc := 42) (n := 23) (x := 23) C (by decide +kernel) (by decide +kernel) ?_
    refine zs_iload_n (pc := 44) (k := 2) (i := 2) C (by decide +kernel) rfl rfl ?_
    refine zs_iastk (pc := 45) (o := 289) (n := 2005) C (by decide) (fun _ _ _ => rfl) (by decide +kernel) rfl ?_
    exact zs_retVv (pc := 46) C hr ⟨Nat.le_of_ble_eq_true rfl, Nat.le_of_ble_eq_true rfl⟩ (by decide +kernel)
  · exact zs_retVv (pc := 29) C hr ⟨Nat.le_of_ble_eq_true rfl, Nat.le_of_ble_eq_true rfl⟩ (by decide +kernel)
set_option maxRecDepth 20000 in
theorem c_X12_readStop (l : Launch) (g : GC)  : ConV l g yX12_readStop cX12_readStop 1 (rmd 4 0 0) [sR 287] (fun mm => fX12_readStop  mm) := by
  refine zs_ofV (by decide +kernel) (Nat.le_of_ble_eq_true rfl) ?_
  intro p e s m args below meth c C hr
  replace C : Bd g RX12 cX12_readStop 1 p s m args meth c := C
  unfold fX12_readStop
  refine zs_aload_n (pc := 0) (k := 0) (i := 0) C (by decide +kernel) rfl rfl ?_
  refine zs_bipush (pc := 1) (n := 59) (x := 59) C (by decide +kernel) (by decide +kernel) ?_
  refine zs_cvVv (pc := 3) (As := [sI 59]) (st := []) C (fun _ _ _ => rfl) (c_X12_mustSign l g 59) ml_RX12_162 rfl rfl rfl rfl (Nat.le_of_ble_eq_true rfl) ⟨Nat.le_of_ble_eq_true rfl, Nat.le_of_ble_eq_true rfl⟩ ⟨Nat.le_of_ble_eq_true rfl, Nat.le_of_ble_eq_true rfl⟩ (by decide +kernel) ?_
  refine zs_aload_n (pc := 6) (k := 0) (i := 0) C (by decide +kernel) rfl rfl ?_
  refine zs_getI (pc := 7) (i := 123) (ci := 12) (k := 12) C (by decide +kernel) fl_RX12_123 rfl rfl (fun x1 => ?_)
  refine zs_jn (pJ := 23) (kJ := 0) (sJ := 0) (fun t2 => []) (fun t2 => []) (fun t2 => ?_) (fun J3 hJ3 => ?_)
  · exact zs_retVv (pc := 23) C hr ⟨Nat.le_of_ble_eq_true rfl, Nat.le_of_ble_eq_true rfl⟩ (by decide +kernel)
  · refine zs_if_ne (pc := 10) (off := 13) (tgt := 23) C (by decide +kernel) (by decide) ?_ ?_
    · exact zs_goj (hJ3 ()) trivial
    · refine zs_aload_n (pc := 13) (k := 0) (i := 0) C (by decide +kernel) rfl rfl ?_
      refine zs_getR (o' := 289) (pc := 14) (i := 13) (ci := 12) (k := 1) C (by decide +kernel) fl_RX12_13 rfl rfl rfl ?_
      refine zs_iconst (pc := 17) (n := 0) (x := 0) C (by decide +kernel) (by decide +kernel) ?_
      refine zs_dup2 (pc := 18) C rfl rfl (by decide +kernel) ?_
      refine zs_ialdk (pc := 19) (o := 289) (n := 2005) C (by decide) (by decide +kernel) rfl (fun x4 => ?_)
      refine zs_iconst (pc := 20) (n := 1) (x := 1) C (by decide +kernel) (by decide +kernel) ?_
      refine zs_iadd (pc := 21) C (by decide +kernel) ?_
      refine zs_iastk (pc := 22) (o := 289) (n := 2005) C (by decide) (fun _ _ _ => rfl) (by decide +kernel) rfl ?_
      exact zs_goj (hJ3 ()) trivial
set_option maxRecDepth 20000 in
theorem c_X12_readLine (l : Launch) (g : GC)  : ConV l g yX12_readLine cX12_readLine 1 (rmd 72 0 0) [sR 287] (fun mm => fX12_readLine  mm) := by
  refine zs_ofV (by decide +kernel) (Nat.le_of_ble_eq_true rfl) ?_
  intro p e s m args below meth c C hr
  replace C : Bd g RX12 cX12_readLine 1 p s m args meth c := C
  unfold fX12_readLine
  refine zs_aload_n (pc := 0) (k := 0) (i := 0) C (by decide +kernel) rfl rfl ?_
  refine zs_ldcS (pc := 1) (i := 253) (k := 15) C (by decide +kernel) rfl ?_
  refine zs_cvWi (pc := 3) (As := [sT 15]) (st := []) C (fun _ _ _ => rfl) rfl (c_X12_took l g 15 (by decide)) ml_RX12_153 rfl rfl rfl rfl (Nat.le_of_ble_eq_true rfl) ⟨Nat.le_of_ble_eq_true rfl, Nat.le_of_ble_eq_true rfl⟩ ⟨Nat.le_of_ble_eq_true rfl, Nat.le_of_ble_eq_true rfl⟩ (by decide +kernel) (fun x1 => ?_)
  refine zs_jn (pJ := 148) (kJ := 0) (sJ := 0) (fun t2 => [(0, sR 287)]) (fun t2 => []) (fun t2 => ?_) (fun J3 hJ3 => ?_)
  · refine zs_aload_n (pc := 148) (k := 0) (i := 0) C (by decide +kernel) rfl rfl ?_
    refine zs_cvVv (pc := 149) (As := []) (st := []) C (fun _ _ _ => rfl) (c_X12_readStop l g ) ml_RX12_276 rfl rfl rfl rfl (Nat.le_of_ble_eq_true rfl) ⟨Nat.le_of_ble_eq_true rfl, Nat.le_of_ble_eq_true rfl⟩ ⟨Nat.le_of_ble_eq_true rfl, Nat.le_of_ble_eq_true rfl⟩ (by decide +kernel) ?_
    exact zs_retVv (pc := 152) C hr ⟨Nat.le_of_ble_eq_true rfl, Nat.le_of_ble_eq_true rfl⟩ (by decide +kernel)
  · refine zs_if_eq (pc := 6) (off := 10) (tgt := 16) C (by decide +kernel) (by decide) ?_ ?_
    · refine zs_aload_n (pc := 16) (k := 0) (i := 0) C (by decide +kernel) rfl rfl ?_
      refine zs_ldc_wS (pc := 17) (i := 258) (k := 16) C (by decide +kernel) rfl ?_
      refine zs_cvRi (pc := 20) (As := [sT 16]) (st := []) C rfl (c_X12_isWord l g 16 (by decide)) ml_RX12_138 rfl rfl rfl rfl (Nat.le_of_ble_eq_true rfl) ⟨Nat.le_of_ble_eq_true rfl, Nat.le_of_ble_eq_true rfl⟩ ⟨Nat.le_of_ble_eq_true rfl, Nat.le_of_ble_eq_true rfl⟩ (by decide +kernel) (fun x4 => ?_)
      refine zs_if_eq (pc := 23) (off := 10) (tgt := 33) C (by decide +kernel) (by decide) ?_ ?_
      · refine zs_aload_n (pc := 33) (k := 0) (i := 0) C (by decide +kernel) rfl rfl ?_
        refine zs_ldcS (pc := 34) (i := 209) (k := 9) C (by decide +kernel) rfl ?_
        refine zs_cvRi (pc := 36) (As := [sT 9]) (st := []) C rfl (c_X12_isWord l g 9 (by decide)) ml_RX12_138 rfl rfl rfl rfl (Nat.le_of_ble_eq_true rfl) ⟨Nat.le_of_ble_eq_true rfl, Nat.le_of_ble_eq_true rfl⟩ ⟨Nat.le_of_ble_eq_true rfl, Nat.le_of_ble_eq_true rfl⟩ (by decide +kernel) (fun x5 => ?_)
        refine zs_if_eq (pc := 39) (off := 10) (tgt := 49) C (by decide +kernel) (by decide) ?_ ?_
        · refine zs_aload_n (pc := 49) (k := 0) (i := 0) C (by decide +kernel) rfl rfl ?_
          refine zs_ldcS (pc := 50) (i := 205) (k := 7) C (by decide +kernel) rfl ?_
          refine zs_cvWi (pc := 52) (As := [sT 7]) (st := []) C (fun _ _ _ => rfl) rfl (c_X12_took l g 7 (by decide)) ml_RX12_153 rfl rfl rfl rfl (Nat.le_of_ble_eq_true rfl) ⟨Nat.le_of_ble_eq_true rfl, Nat.le_of_ble_eq_true rfl⟩ ⟨Nat.le_of_ble_eq_true rfl, Nat.le_of_ble_eq_true rfl⟩ (by decide +kernel) (fun x6 => ?_)
          refine zs_if_eq (pc := 55) (off := 10) (tgt := 65) C (by decide +kernel) (by decide) ?_ ?_
          · refine zs_aload_n (pc := 65) (k := 0) (i := 0) C (by decide +kernel) rfl rfl ?_
            refine zs_ldcS (pc := 66) (i := 207) (k := 8) C (by decide +kernel) rfl ?_
            refine zs_cvWi (pc := 68) (As := [sT 8]) (st := []) C (fun _ _ _ => rfl) rfl (c_X12_took l g 8 (by decide)) ml_RX12_153 rfl rfl rfl rfl (Nat.le_of_ble_eq_true rfl) ⟨Nat.le_of_ble_eq_true rfl, Nat.le_of_ble_eq_true rfl⟩ ⟨Nat.le_of_ble_eq_true rfl, Nat.le_of_ble_eq_true rfl⟩ (by decide +kernel) (fun x7 => ?_)
            refine zs_if_eq (pc := 71) (off := 21) (tgt := 92) C (by decide +kernel) (by decide) ?_ ?_
            · refine zs_aload_n (pc := 92) (k := 0) (i := 0) C (by decide +kernel) rfl rfl ?_
              refine zs_ldc_wS (pc := 93) (i := 269) (k := 17) C (by decide +kernel) rfl ?_
              refine zs_cvWi (pc := 96) (As := [sT 17]) (st := []) C (fun _ _ _ => rfl) rfl (c_X12_took l g 17 (by decide)) ml_RX12_153 rfl rfl rfl rfl (Nat.le_of_ble_eq_true rfl) ⟨Nat.le_of_ble_eq_true rfl, Nat.le_of_ble_eq_true rfl⟩ ⟨Nat.le_of_ble_eq_true rfl, Nat.le_of_ble_eq_true rfl⟩ (by decide +kernel) (fun x8 => ?_)
              refine zs_if_eq (pc := 99) (off := 18) (tgt := 117) C (by decide +kernel) (by decide) ?_ ?_
              · refine zs_aload_n (pc := 117) (k := 0) (i := 0) C (by decide +kernel) rfl rfl ?_
                refine zs_ldc_wS (pc := 118) (i := 274) (k := 18) C (by decide +kernel) rfl ?_
                refine zs_cvWi (pc := 121) (As := [sT 18]) (st := []) C (fun _ _ _ => rfl) rfl (c_X12_took l g 18 (by decide)) ml_RX12_153 rfl rfl rfl rfl (Nat.le_of_ble_eq_true rfl) ⟨Nat.le_of_ble_eq_true rfl, Nat.le_of_ble_eq_true rfl⟩ ⟨Nat.le_of_ble_eq_true rfl, Nat.le_of_ble_eq_true rfl⟩ (by decide +kernel) (fun x9 => ?_)
                refine zs_if_eq (pc := 124) (off := 19) (tgt := 143) C (by decide +kernel) (by decide) ?_ ?_
                · refine zs_aload_n (pc := 143) (k := 0) (i := 0) C (by decide +kernel) rfl rfl ?_
                  refine zs_iconst (pc := 144) (n := 2) (x := 2) C (by decide +kernel) (by decide +kernel) ?_
                  refine zs_cvVv (pc := 145) (As := [sI 2]) (st := []) C (fun _ _ _ => rfl) (c_X12_blames l g 2) ml_RX12_145 rfl rfl rfl rfl (Nat.le_of_ble_eq_true rfl) ⟨Nat.le_of_ble_eq_true rfl, Nat.le_of_ble_eq_true rfl⟩ ⟨Nat.le_of_ble_eq_true rfl, Nat.le_of_ble_eq_true rfl⟩ (by decide +kernel) ?_
                  exact zs_goj (hJ3 ()) ⟨rfl, trivial⟩
                · refine zs_aload_n (pc := 127) (k := 0) (i := 0) C (by decide +kernel) rfl rfl ?_
                  refine zs_bipush (pc := 128) (n := 6) (x := 6) C (by decide +kernel) (by decide +kernel) ?_
                  refine zs_sipush (pc := 130) (n := 1097) (x := 1097) C (by decide +kernel) (by decide +kernel) ?_
                  refine zs_cvVv (pc := 133) (As := [sI 6, sI 1097]) (st := []) C (fun _ _ _ => rfl) (c_X12_beginsLaw l g 6 1097) ml_RX12_270 rfl rfl rfl rfl (Nat.le_of_ble_eq_true rfl) ⟨Nat.le_of_ble_eq_true rfl, Nat.le_of_ble_eq_true rfl⟩ ⟨Nat.le_of_ble_eq_true rfl, Nat.le_of_ble_eq_true rfl⟩ (by decide +kernel) ?_
                  refine zs_aload_n (pc := 136) (k := 0) (i := 0) C (by decide +kernel) rfl rfl ?_
                  refine zs_cvVv (pc := 137) (As := []) (st := []) C (fun _ _ _ => rfl) ((cg_X12_readTruth l g 30).1 ) ml_RX12_189 rfl rfl rfl rfl (Nat.le_of_ble_eq_true rfl) (by constructor <;> simp only [rmd] <;> omega) (by constructor <;> simp only [rmd] <;> omega) (by decide +kernel) ?_
                  refine zs_goto (pc := 140) (off := 8) (tgt := 148) C (by decide +kernel) (by decide) ?_
                  exact zs_goj (hJ3 ()) ⟨rfl, trivial⟩
              · refine zs_aload_n (pc := 102) (k := 0) (i := 0) C (by decide +kernel) rfl rfl ?_
                refine zs_iconst (pc := 103) (n := 5) (x := 5) C (by decide +kernel) (by decide +kernel) ?_
                refine zs_sipush (pc := 104) (n := 197) (x := 197) C (by decide +kernel) (by decide +kernel) ?_
                refine zs_cvVv (pc := 107) (As := [sI 5, sI 197]) (st := []) C (fun _ _ _ => rfl) (c_X12_beginsLaw l g 5 197) ml_RX12_270 rfl rfl rfl rfl (Nat.le_of_ble_eq_true rfl) ⟨Nat.le_of_ble_eq_true rfl, Nat.le_of_ble_eq_true rfl⟩ ⟨Nat.le_of_ble_eq_true rfl, Nat.le_of_ble_eq_true rfl⟩ (by decide +kernel) ?_
                refine zs_aload_n (pc := 110) (k := 0) (i := 0) C (by decide +kernel) rfl rfl ?_
                refine zs_cvVv (pc := 111) (As := []) (st := []) C (fun _ _ _ => rfl) ((cg_X12_readSum l g 30).1 ) ml_RX12_192 rfl rfl rfl rfl (Nat.le_of_ble_eq_true rfl) (by constructor <;> simp only [rmd] <;> omega) (by constructor <;> simp only [rmd] <;> omega) (by decide +kernel) ?_
                refine zs_goto (pc := 114) (off := 34) (tgt := 148) C (by decide +kernel) (by decide) ?_
                exact zs_goj (hJ3 ()) ⟨rfl, trivial⟩
            · refine zs_aload_n (pc := 74) (k := 0) (i := 0) C (by decide +kernel) rfl rfl ?_
              refine zs_getR (o' := 289) (pc := 75) (i := 13) (ci := 12) (k := 1) C (by decide +kernel) fl_RX12_13 rfl rfl rfl ?_
              refine zs_bipush (pc := 78) (n := 24) (x := 24) C (by decide +kernel) (by decide +kernel) ?_
              refine zs_aload_n (pc := 80) (k := 0) (i := 0) C (by decide +kernel) rfl rfl ?_
              refine zs_iconst (pc := 81) (n := 0) (x := 0) C (by decide +kernel) (by decide +kernel) ?_
              refine zs_sipush (pc := 82) (n := 999) (x := 999) C (by decide +kernel) (by decide +kernel) ?_
              refine zs_cvWi (pc := 85) (As := [sI 0, sI 999]) (st := [sI 24, sR 289]) C (fun _ _ _ => rfl) rfl (c_X12_number l g 0 999) ml_RX12_226 rfl rfl rfl rfl (Nat.le_of_ble_eq_true rfl) ⟨Nat.le_of_ble_eq_true rfl, Nat.le_of_ble_eq_true rfl⟩ ⟨Nat.le_of_ble_eq_true rfl, Nat.le_of_ble_eq_true rfl⟩ (by decide +kernel) (fun x10 => ?_)
              refine zs_iastk (pc := 88) (o := 289) (n := 2005) C (by decide) (fun _ _ _ => rfl) (by decide +kernel) rfl ?_
              refine zs_goto (pc := 89) (off := 59) (tgt := 148) C (by decide +kernel) (by decide) ?_
              exact zs_goj (hJ3 ()) ⟨rfl, trivial⟩
          · refine zs_aload_n (pc := 58) (k := 0) (i := 0) C (by decide +kernel) rfl rfl ?_
            refine zs_cvVv (pc := 59) (As := []) (st := []) C (fun _ _ _ => rfl) (c_X12_readRain l g ) ml_RX12_266 rfl rfl rfl rfl (Nat.le_of_ble_eq_true rfl) ⟨Nat.le_of_ble_eq_true rfl, Nat.le_of_ble_eq_true rfl⟩ ⟨Nat.le_of_ble_eq_true rfl, Nat.le_of_ble_eq_true rfl⟩ (by decide +kernel) ?_
            refine zs_goto (pc := 62) (off := 86) (tgt := 148) C (by decide +kernel) (by decide) ?_
            exact zs_goj (hJ3 ()) ⟨rfl, trivial⟩
        · refine zs_aload_n (pc := 42) (k := 0) (i := 0) C (by decide +kernel) rfl rfl ?_
          refine zs_cvVv (pc := 43) (As := []) (st := []) C (fun _ _ _ => rfl) (c_X12_readPair l g ) ml_RX12_263 rfl rfl rfl rfl (Nat.le_of_ble_eq_true rfl) ⟨Nat.le_of_ble_eq_true rfl, Nat.le_of_ble_eq_true rfl⟩ ⟨Nat.le_of_ble_eq_true rfl, Nat.le_of_ble_eq_true rfl⟩ (by decide +kernel) ?_
          refine zs_goto (pc := 46) (off := 102) (tgt := 148) C (by decide +kernel) (by decide) ?_
          exact zs_goj (hJ3 ()) ⟨rfl, trivial⟩
      · refine zs_aload_n (pc := 26) (k := 0) (i := 0) C (by decide +kernel) rfl rfl ?_
        refine zs_cvVv (pc := 27) (As := []) (st := []) C (fun _ _ _ => rfl) (c_X12_readHouse l g ) ml_RX12_260 rfl rfl rfl rfl (Nat.le_of_ble_eq_true rfl) ⟨Nat.le_of_ble_eq_true rfl, Nat.le_of_ble_eq_true rfl⟩ ⟨Nat.le_of_ble_eq_true rfl, Nat.le_of_ble_eq_true rfl⟩ (by decide +kernel) ?_
        refine zs_goto (pc := 30) (off := 118) (tgt := 148) C (by decide +kernel) (by decide) ?_
        exact zs_goj (hJ3 ()) ⟨rfl, trivial⟩
    · refine zs_aload_n (pc := 9) (k := 0) (i := 0) C (by decide +kernel) rfl rfl ?_
      refine zs_cvVv (pc := 10) (As := []) (st := []) C (fun _ _ _ => rfl) (c_X12_readRock l g ) ml_RX12_255 rfl rfl rfl rfl (Nat.le_of_ble_eq_true rfl) ⟨Nat.le_of_ble_eq_true rfl, Nat.le_of_ble_eq_true rfl⟩ ⟨Nat.le_of_ble_eq_true rfl, Nat.le_of_ble_eq_true rfl⟩ (by decide +kernel) ?_
      refine zs_goto (pc := 13) (off := 135) (tgt := 148) C (by decide +kernel) (by decide) ?_
      exact zs_goj (hJ3 ()) ⟨rfl, trivial⟩
set_option maxRecDepth 20000 in
theorem c_X12_island (l : Launch) (g : GC) (a0 : Int) : ConW l g yX12_island cX12_island 3 (some .int) (rmd 73 0 0) [sR 287, sI a0] (fun mm => fX12_island a0 mm) := by
  refine zs_ofW (by decide +kernel) (Nat.le_of_ble_eq_true rfl) ?_
  intro p e s m args below meth c C hr
  replace C : Bd g RX12 cX12_island 3 p s m args meth c := C
  unfold fX12_island
  refine zs_aload_n (pc := 0) (k := 0) (i := 0) C (by decide +kernel) rfl rfl ?_
  refine zs_iconst (pc := 1) (n := 0) (x := 0) C (by decide +kernel) (by decide +kernel) ?_
  refine zs_putI (pc := 2) (i := 88) (ci := 12) (k := 4) C (fun _ _ _ => rfl) (by decide +kernel) fl_RX12_88 fw_12_4 rfl rfl ?_
  refine zs_iload_n (pc := 5) (k := 1) (i := 1) C (by decide +kernel) rfl rfl ?_
  refine zs_i2l (pc := 6) C (by decide +kernel) ?_
  refine zs_lconst (pc := 7) (n := 0) (x := 0) C (by decide +kernel) (by decide +kernel) ?_
  refine zs_aload_n (pc := 8) (k := 0) (i := 0) C (by decide +kernel) rfl rfl ?_
  refine zs_getI (pc := 9) (i := 91) (ci := 12) (k := 6) C (by decide +kernel) fl_RX12_91 rfl rfl (fun x1 => ?_)
  refine zs_i2l (pc := 12) C (by decide +kernel) ?_
  refine zs_csRi (pc := 13) (As := [sL a0, sL 0, sL x1]) (st := []) C rfl (c_X12_within l g a0 0 x1) ml_RX12_149 rfl rfl (Nat.le_of_ble_eq_true rfl) ⟨Nat.le_of_ble_eq_true rfl, Nat.le_of_ble_eq_true rfl⟩ ⟨Nat.le_of_ble_eq_true rfl, Nat.le_of_ble_eq_true rfl⟩ (by decide +kernel) (fun x2 => ?_)
  refine zs_if_ne (pc := 16) (off := 9) (tgt := 25) C (by decide +kernel) (by decide) ?_ ?_
  · refine zs_aload_n (pc := 25) (k := 0) (i := 0) C (by decide +kernel) rfl rfl ?_
    refine zs_iload_n (pc := 26) (k := 1) (i := 1) C (by decide +kernel) rfl rfl ?_
    refine zs_putI (pc := 27) (i := 94) (ci := 12) (k := 7) C (fun _ _ _ => rfl) (by decide +kernel) fl_RX12_94 fw_12_7 rfl rfl ?_
    refine zs_aload_n (pc := 30) (k := 0) (i := 0) C (by decide +kernel) rfl rfl ?_
    refine zs_iconst (pc := 31) (n := 0) (x := 0) C (by decide +kernel) (by decide +kernel) ?_
    refine zs_putI (pc := 32) (i := 91) (ci := 12) (k := 6) C (fun _ _ _ => rfl) (by decide +kernel) fl_RX12_91 fw_12_6 rfl rfl ?_
    refine zs_aload_n (pc := 35) (k := 0) (i := 0) C (by decide +kernel) rfl rfl ?_
    refine zs_iconst (pc := 36) (n := 0) (x := 0) C (by decide +kernel) (by decide +kernel) ?_
    refine zs_putI (pc := 37) (i := 97) (ci := 12) (k := 8) C (fun _ _ _ => rfl) (by decide +kernel) fl_RX12_97 fw_12_8 rfl rfl ?_
    refine zs_aload_n (pc := 40) (k := 0) (i := 0) C (by decide +kernel) rfl rfl ?_
    refine zs_iconst (pc := 41) (n := 0) (x := 0) C (by decide +kernel) (by decide +kernel) ?_
    refine zs_putI (pc := 42) (i := 123) (ci := 12) (k := 12) C (fun _ _ _ => rfl) (by decide +kernel) fl_RX12_123 fw_12_12 rfl rfl ?_
    refine zs_aload_n (pc := 45) (k := 0) (i := 0) C (by decide +kernel) rfl rfl ?_
    refine zs_iconst (pc := 46) (n := 0) (x := 0) C (by decide +kernel) (by decide +kernel) ?_
    refine zs_putI (pc := 47) (i := 165) (ci := 12) (k := 16) C (fun _ _ _ => rfl) (by decide +kernel) fl_RX12_165 fw_12_16 rfl rfl ?_
    refine zs_iconst (pc := 50) (n := 0) (x := 0) C (by decide +kernel) (by decide +kernel) ?_
    refine zs_istore_n (pc := 51) (k := 2) (i := 2) (ls' := [(2, sI 0), (0, sR 287), (1, sI a0)]) C (by decide +kernel) rfl (Nat.le_of_ble_eq_true rfl) rfl ?_
    refine zs_sub (ls' := [(0, sR 287), (2, sI 0)]) ⟨rfl, rfl, trivial⟩ ?_
    refine zs_lp (pc := 52) (fun (t3 : Int) => [(0, sR 287), (2, sI t3)]) (fun _ => []) (fun K4 hK4 t3 => ?_) BIG 0
    refine zs_iload_n (pc := 52) (k := 2) (i := 2) C (by decide +kernel) rfl rfl ?_
    refine zs_sipush (pc := 53) (n := 2005) (x := 2005) C (by decide +kernel) (by decide +kernel) ?_
    refine zs_icmp_ge (pc := 56) (off := 16) (tgt := 72) C (by decide +kernel) (by decide) ?_ ?_
    · refine zs_aload_n (pc := 72) (k := 0) (i := 0) C (by decide +kernel) rfl rfl ?_
      refine zs_cvVv (pc := 73) (As := []) (st := []) C (fun _ _ _ => rfl) (c_X12_readsOn l g ) ml_RX12_142 rfl rfl rfl rfl (Nat.le_of_ble_eq_true rfl) ⟨Nat.le_of_ble_eq_true rfl, Nat.le_of_ble_eq_true rfl⟩ ⟨Nat.le_of_ble_eq_true rfl, Nat.le_of_ble_eq_true rfl⟩ (by decide +kernel) ?_
      refine zs_aload_n (pc := 76) (k := 0) (i := 0) C (by decide +kernel) rfl rfl ?_
      refine zs_ldc_wS (pc := 77) (i := 282) (k := 19) C (by decide +kernel) rfl ?_
      refine zs_cvVv (pc := 80) (As := [sT 19]) (st := []) C (fun _ _ _ => rfl) (c_X12_mustWord l g 19 (by decide)) ml_RX12_247 rfl rfl rfl rfl (Nat.le_of_ble_eq_true rfl) ⟨Nat.le_of_ble_eq_true rfl, Nat.le_of_ble_eq_true rfl⟩ ⟨Nat.le_of_ble_eq_true rfl, Nat.le_of_ble_eq_true rfl⟩ (by decide +kernel) ?_
      refine zs_aload_n (pc := 83) (k := 0) (i := 0) C (by decide +kernel) rfl rfl ?_
      refine zs_getR (o' := 289) (pc := 84) (i := 13) (ci := 12) (k := 1) C (by decide +kernel) fl_RX12_13 rfl rfl rfl ?_
      refine zs_iconst (pc := 87) (n := 1) (x := 1) C (by decide +kernel) (by decide +kernel) ?_
      refine zs_aload_n (pc := 88) (k := 0) (i := 0) C (by decide +kernel) rfl rfl ?_
      refine zs_iconst (pc := 89) (n := 2) (x := 2) C (by decide +kernel) (by decide +kernel) ?_
      refine zs_iconst (pc := 90) (n := 5) (x := 5) C (by decide +kernel) (by decide +kernel) ?_
      refine zs_cvWi (pc := 91) (As := [sI 2, sI 5]) (st := [sI 1, sR 289]) C (fun _ _ _ => rfl) rfl (c_X12_number l g 2 5) ml_RX12_226 rfl rfl rfl rfl (Nat.le_of_ble_eq_true rfl) ⟨Nat.le_of_ble_eq_true rfl, Nat.le_of_ble_eq_true rfl⟩ ⟨Nat.le_of_ble_eq_true rfl, Nat.le_of_ble_eq_true rfl⟩ (by decide +kernel) (fun x5 => ?_)
      refine zs_iastk (pc := 94) (o := 289) (n := 2005) C (by decide) (fun _ _ _ => rfl) (by decide +kernel) rfl ?_
      refine zs_aload_n (pc := 95) (k := 0) (i := 0) C (by decide +kernel) rfl rfl ?_
      refine zs_getR (o' := 289) (pc := 96) (i := 13) (ci := 12) (k := 1) C (by decide +kernel) fl_RX12_13 rfl rfl rfl ?_
      refine zs_iconst (pc := 99) (n := 2) (x := 2) C (by decide +kernel) (by decide +kernel) ?_
      refine zs_aload_n (pc := 100) (k := 0) (i := 0) C (by decide +kernel) rfl rfl ?_
      refine zs_iconst (pc := 101) (n := 2) (x := 2) C (by decide +kernel) (by decide +kernel) ?_
      refine zs_iconst (pc := 102) (n := 5) (x := 5) C (by decide +kernel) (by decide +kernel) ?_
      refine zs_cvWi (pc := 103) (As := [sI 2, sI 5]) (st := [sI 2, sR 289]) C (fun _ _ _ => rfl) rfl (c_X12_number l g 2 5) ml_RX12_226 rfl rfl rfl rfl (Nat.le_of_ble_eq_true rfl) ⟨Nat.le_of_ble_eq_true rfl, Nat.le_of_ble_eq_true rfl⟩ ⟨Nat.le_of_ble_eq_true rfl, Nat.le_of_ble_eq_true rfl⟩ (by decide +kernel) (fun x6 => ?_)
      refine zs_iastk (pc := 106) (o := 289) (n := 2005) C (by decide) (fun _ _ _ => rfl) (by decide +kernel) rfl ?_
      refine zs_aload_n (pc := 107) (k := 0) (i := 0) C (by decide +kernel) rfl rfl ?_
      refine zs_cvVv (pc := 108) (As := []) (st := []) C (fun _ _ _ => rfl) (c_X12_readStop l g ) ml_RX12_276 rfl rfl rfl rfl (Nat.le_of_ble_eq_true rfl) ⟨Nat.le_of_ble_eq_true rfl, Nat.le_of_ble_eq_true rfl⟩ ⟨Nat.le_of_ble_eq_true rfl, Nat.le_of_ble_eq_true rfl⟩ (by decide +kernel) ?_
      refine zs_sub (ls' := [(0, sR 287)]) ⟨rfl, trivial⟩ ?_
      refine zs_lp (pc := 111) (fun (t7 : Unit) => [(0, sR 287)]) (fun _ => []) (fun K8 hK8 t7 => ?_) BIG ()
      refine zs_aload_n (pc := 111) (k := 0) (i := 0) C (by decide +kernel) rfl rfl ?_
      refine zs_getI (pc := 112) (i := 123) (ci := 12) (k := 12) C (by decide +kernel) fl_RX12_123 rfl rfl (fun x9 => ?_)
      refine zs_jn (pJ := 132) (kJ := 0) (sJ := 0) (fun t10 => [(0, sR 287)]) (fun t10 => []) (fun t10 => ?_) (fun J11 hJ11 => ?_)
      · refine zs_aload_n (pc := 132) (k := 0) (i := 0) C (by decide +kernel) rfl rfl ?_
        refine zs_aload_n (pc := 133) (k := 0) (i := 0) C (by decide +kernel) rfl rfl ?_
        refine zs_getI (pc := 134) (i := 123) (ci := 12) (k := 12) C (by decide +kernel) fl_RX12_123 rfl rfl (fun x12 => ?_)
        refine zs_putI (pc := 137) (i := 287) (ci := 12) (k := 14) C (fun _ _ _ => rfl) (by decide +kernel) fl_RX12_287 fw_12_14 rfl rfl ?_
        refine zs_aload_n (pc := 140) (k := 0) (i := 0) C (by decide +kernel) rfl rfl ?_
        refine zs_aload_n (pc := 141) (k := 0) (i := 0) C (by decide +kernel) rfl rfl ?_
        refine zs_getI (pc := 142) (i := 123) (ci := 12) (k := 12) C (by decide +kernel) fl_RX12_123 rfl rfl (fun x13 => ?_)
        refine zs_jn (pJ := 156) (kJ := 0) (sJ := 0) (fun t14 => [(0, sR 287)]) (fun t14 => [sI t14, sR 287]) (fun t14 => ?_) (fun J15 hJ15 => ?_)
        · refine zs_putI (pc := 156) (i := 26) (ci := 12) (k := 15) C (fun _ _ _ => rfl) (by decide +kernel) fl_RX12_26 fw_12_15 rfl rfl ?_
          refine zs_aload_n (pc := 159) (k := 0) (i := 0) C (by decide +kernel) rfl rfl ?_
          refine zs_getI (pc := 160) (i := 123) (ci := 12) (k := 12) C (by decide +kernel) fl_RX12_123 rfl rfl (fun x16 => ?_)
          refine zs_if_eq (pc := 163) (off := 11) (tgt := 174) C (by decide +kernel) (by decide) ?_ ?_
          · refine zs_iconst (pc := 174) (n := 0) (x := 0) C (by decide +kernel) (by decide +kernel) ?_
            refine zs_istore_n (pc := 175) (k := 2) (i := 2) (ls' := [(2, sI 0), (0, sR 287)]) C (by decide +kernel) rfl (Nat.le_of_ble_eq_true rfl) rfl ?_
            refine zs_sub (ls' := [(0, sR 287), (2, sI 0)]) ⟨rfl, rfl, trivial⟩ ?_
            refine zs_lp (pc := 176) (fun (t17 : Int) => [(0, sR 287), (2, sI t17)]) (fun _ => []) (fun K18 hK18 t17 => ?_) BIG 0
            refine zs_iload_n (pc := 176) (k := 2) (i := 2) C (by decide +kernel) rfl rfl ?_
            refine zs_sipush (pc := 177) (n := 2005) (x := 2005) C (by decide +kernel) (by decide +kernel) ?_
            refine zs_icmp_ge (pc := 180) (off := 21) (tgt := 201) C (by decide +kernel) (by decide) ?_ ?_
            · refine zs_aload_n (pc := 201) (k := 0) (i := 0) C (by decide +kernel) rfl rfl ?_
              refine zs_getR (o' := 288) (pc := 202) (i := 9) (ci := 12) (k := 0) C (by decide +kernel) fl_RX12_9 rfl rfl rfl ?_
              refine zs_bipush (pc := 205) (n := 23) (x := 23) C (by decide +kernel) (by decide +kernel) ?_
              refine zs_dup2 (pc := 207) C rfl rfl (by decide +kernel) ?_
              refine zs_ialdk (pc := 208) (o := 288) (n := 2005) C (by decide) (by decide +kernel) rfl (fun x19 => ?_)
              refine zs_aload_n (pc := 209) (k := 0) (i := 0) C (by decide +kernel) rfl rfl ?_
              refine zs_getR (o' := 288) (pc := 210) (i := 9) (ci := 12) (k := 0) C (by decide +kernel) fl_RX12_9 rfl rfl rfl ?_
              refine zs_bipush (pc := 213) (n := 24) (x := 24) C (by decide +kernel) (by decide +kernel) ?_
              refine zs_ialdk (pc := 215) (o := 288) (n := 2005) C (by decide) (by decide +kernel) rfl (fun x20 => ?_)
              refine zs_iadd (pc := 216) C (by decide +kernel) ?_
              refine zs_iastk (pc := 217) (o := 288) (n := 2005) C (by decide) (fun _ _ _ => rfl) (by decide +kernel) rfl ?_
              refine zs_aload_n (pc := 218) (k := 0) (i := 0) C (by decide +kernel) rfl rfl ?_
              refine zs_getR (o' := 288) (pc := 219) (i := 9) (ci := 12) (k := 0) C (by decide +kernel) fl_RX12_9 rfl rfl rfl ?_
              refine zs_iconst (pc := 222) (n := 0) (x := 0) C (by decide +kernel) (by decide +kernel) ?_
              refine zs_ialdk (pc := 223) (o := 288) (n := 2005) C (by decide) (by decide +kernel) rfl (fun x21 => ?_)
              exact zs_retWi (pc := 224) C hr ⟨Nat.le_of_ble_eq_true rfl, Nat.le_of_ble_eq_true rfl⟩ (by decide +kernel)
            · refine zs_aload_n (pc := 183) (k := 0) (i := 0) C (by decide +kernel) rfl rfl ?_
              refine zs_getR (o' := 288) (pc := 184) (i := 9) (ci := 12) (k := 0) C (by decide +kernel) fl_RX12_9 rfl rfl rfl ?_
              refine zs_iload_n (pc := 187) (k := 2) (i := 2) C (by decide +kernel) rfl rfl ?_
              refine zs_aload_n (pc := 188) (k := 0) (i := 0) C (by decide +kernel) rfl rfl ?_
              refine zs_getR (o' := 289) (pc := 189) (i := 13) (ci := 12) (k := 1) C (by decide +kernel) fl_RX12_13 rfl rfl rfl ?_
              refine zs_iload_n (pc := 192) (k := 2) (i := 2) C (by decide +kernel) rfl rfl ?_
              refine zs_iald (pc := 193) (o := 289) (n := 2005) C (by decide +kernel) rfl (fun hinx22 x22 => ?_)
              refine zs_iast (pc := 194) (o := 288) (n := 2005) C (fun _ _ _ => rfl) (by decide +kernel) rfl ?_
              refine zs_iinc (pc := 195) (i := 2) (n := 1) (y := w32 (t17 + 1)) (ls' := [(2, sI (w32 (t17 + 1))), (0, sR 287)]) C (by decide +kernel) rfl rfl (Nat.le_of_ble_eq_true rfl) rfl ?_
              refine zs_goto (pc := 198) (off := (-22)) (tgt := 176) C (by decide +kernel) (by decide) ?_
              exact zs_goj (hK18 (w32 (t17 + 1))) ⟨rfl, rfl, trivial⟩
          · refine zs_bipush (pc := 166) (n := (-10)) (x := (-10)) C (by decide +kernel) (by decide +kernel) ?_
            refine zs_aload_n (pc := 168) (k := 0) (i := 0) C (by decide +kernel) rfl rfl ?_
            refine zs_getI (pc := 169) (i := 123) (ci := 12) (k := 12) C (by decide +kernel) fl_RX12_123 rfl rfl (fun x23 => ?_)
            refine zs_isub (pc := 172) C (by decide +kernel) ?_
            exact zs_retWi (pc := 173) C hr ⟨Nat.le_of_ble_eq_true rfl, Nat.le_of_ble_eq_true rfl⟩ (by decide +kernel)
        · refine zs_if_ne (pc := 145) (off := 7) (tgt := 152) C (by decide +kernel) (by decide) ?_ ?_
          · refine zs_aload_n (pc := 152) (k := 0) (i := 0) C (by decide +kernel) rfl rfl ?_
            refine zs_getI (pc := 153) (i := 126) (ci := 12) (k := 13) C (by decide +kernel) fl_RX12_126 rfl rfl (fun x24 => ?_)
            exact zs_goj (hJ15 x24) ⟨rfl, trivial⟩
          · refine zs_iconst (pc := 148) (n := (-1)) (x := (-1)) C (by decide +kernel) (by decide +kernel) ?_
            refine zs_goto (pc := 149) (off := 7) (tgt := 156) C (by decide +kernel) (by decide) ?_
            exact zs_goj (hJ15 (-1)) ⟨rfl, trivial⟩
      · refine zs_if_ne (pc := 115) (off := 17) (tgt := 132) C (by decide +kernel) (by decide) ?_ ?_
        · exact zs_goj (hJ11 ()) ⟨rfl, trivial⟩
        · refine zs_aload_n (pc := 118) (k := 0) (i := 0) C (by decide +kernel) rfl rfl ?_
          refine zs_getI (pc := 119) (i := 103) (ci := 12) (k := 10) C (by decide +kernel) fl_RX12_103 rfl rfl (fun x25 => ?_)
          refine zs_if_eq (pc := 122) (off := 10) (tgt := 132) C (by decide +kernel) (by decide) ?_ ?_
          · exact zs_goj (hJ11 ()) ⟨rfl, trivial⟩
          · refine zs_aload_n (pc := 125) (k := 0) (i := 0) C (by decide +kernel) rfl rfl ?_
            refine zs_cvVv (pc := 126) (As := []) (st := []) C (fun _ _ _ => rfl) (c_X12_readLine l g ) ml_RX12_284 rfl rfl rfl rfl (Nat.le_of_ble_eq_true rfl) ⟨Nat.le_of_ble_eq_true rfl, Nat.le_of_ble_eq_true rfl⟩ ⟨Nat.le_of_ble_eq_true rfl, Nat.le_of_ble_eq_true rfl⟩ (by decide +kernel) ?_
            refine zs_goto (pc := 129) (off := (-18)) (tgt := 111) C (by decide +kernel) (by decide) ?_
            exact zs_goj (hK8 ()) ⟨rfl, trivial⟩
    · refine zs_aload_n (pc := 59) (k := 0) (i := 0) C (by decide +kernel) rfl rfl ?_
      refine zs_getR (o' := 289) (pc := 60) (i := 13) (ci := 12) (k := 1) C (by decide +kernel) fl_RX12_13 rfl rfl rfl ?_
      refine zs_iload_n (pc := 63) (k := 2) (i := 2) C (by decide +kernel) rfl rfl ?_
      refine zs_iconst (pc := 64) (n := 0) (x := 0) C (by decide +kernel) (by decide +kernel) ?_
      refine zs_iast (pc := 65) (o := 289) (n := 2005) C (fun _ _ _ => rfl) (by decide +kernel) rfl ?_
      refine zs_iinc (pc := 66) (i := 2) (n := 1) (y := w32 (t3 + 1)) (ls' := [(2, sI (w32 (t3 + 1))), (0, sR 287)]) C (by decide +kernel) rfl rfl (Nat.le_of_ble_eq_true rfl) rfl ?_
      refine zs_goto (pc := 69) (off := (-17)) (tgt := 52) C (by decide +kernel) (by decide) ?_
      exact zs_goj (hK4 (w32 (t3 + 1))) ⟨rfl, rfl, trivial⟩
  · refine zs_aload_n (pc := 19) (k := 0) (i := 0) C (by decide +kernel) rfl rfl ?_
    refine zs_iconst (pc := 20) (n := 1) (x := 1) C (by decide +kernel) (by decide +kernel) ?_
    refine zs_cvWi (pc := 21) (As := [sI 1]) (st := []) C (fun _ _ _ => rfl) rfl (c_X12_fails l g 1) ml_RX12_279 rfl rfl rfl rfl (Nat.le_of_ble_eq_true rfl) ⟨Nat.le_of_ble_eq_true rfl, Nat.le_of_ble_eq_true rfl⟩ ⟨Nat.le_of_ble_eq_true rfl, Nat.le_of_ble_eq_true rfl⟩ (by decide +kernel) (fun x26 => ?_)
    exact zs_retWi (pc := 24) C hr ⟨Nat.le_of_ble_eq_true rfl, Nat.le_of_ble_eq_true rfl⟩ (by decide +kernel)
set_option maxRecDepth 20000 in
theorem c_X12_fault (l : Launch) (g : GC) (a0 : Int) : ConW l g yX12_fault cX12_fault 2 (some .int) (rmd 1 0 0) [sR 287, sI a0] (fun mm => fX12_fault a0 mm) := by
  refine zs_ofW (by decide +kernel) (Nat.le_of_ble_eq_true rfl) ?_
  intro p e s m args below meth c C hr
  replace C : Bd g RX12 cX12_fault 2 p s m args meth c := C
  unfold fX12_fault
  refine zs_aload_n (pc := 0) (k := 0) (i := 0) C (by decide +kernel) rfl rfl ?_
  refine zs_iconst (pc := 1) (n := 0) (x := 0) C (by decide +kernel) (by decide +kernel) ?_
  refine zs_putI (pc := 2) (i := 88) (ci := 12) (k := 4) C (fun _ _ _ => rfl) (by decide +kernel) fl_RX12_88 fw_12_4 rfl rfl ?_
  refine zs_iload_n (pc := 5) (k := 1) (i := 1) C (by decide +kernel) rfl rfl ?_
  refine zs_jn (pJ := 29) (kJ := 0) (sJ := 0) (fun t1 => []) (fun t1 => [sI t1]) (fun t1 => ?_) (fun J2 hJ2 => ?_)
  · exact zs_retWi (pc := 29) C hr ⟨Nat.le_of_ble_eq_true rfl, Nat.le_of_ble_eq_true rfl⟩ (by decide +kernel)
  · refine zs_if_ne (pc := 6) (off := 10) (tgt := 16) C (by decide +kernel) (by decide) ?_ ?_
    · refine zs_iload_n (pc := 16) (k := 1) (i := 1) C (by decide +kernel) rfl rfl ?_
      refine zs_iconst (pc := 17) (n := 1) (x := 1) C (by decide +kernel) (by decide +kernel) ?_
      refine zs_icmp_ne (pc := 18) (off := 10) (tgt := 28) C (by decide +kernel) (by decide) ?_ ?_
      · refine zs_iconst (pc := 28) (n := (-1)) (x := (-1)) C (by decide +kernel) (by decide +kernel) ?_
        exact zs_goj (hJ2 (-1)) trivial
      · refine zs_aload_n (pc := 21) (k := 0) (i := 0) C (by decide +kernel) rfl rfl ?_
        refine zs_getI (pc := 22) (i := 26) (ci := 12) (k := 15) C (by decide +kernel) fl_RX12_26 rfl rfl (fun x3 => ?_)
        refine zs_goto (pc := 25) (off := 4) (tgt := 29) C (by decide +kernel) (by decide) ?_
        exact zs_goj (hJ2 x3) trivial
    · refine zs_aload_n (pc := 9) (k := 0) (i := 0) C (by decide +kernel) rfl rfl ?_
      refine zs_getI (pc := 10) (i := 287) (ci := 12) (k := 14) C (by decide +kernel) fl_RX12_287 rfl rfl (fun x4 => ?_)
      refine zs_goto (pc := 13) (off := 16) (tgt := 29) C (by decide +kernel) (by decide) ?_
      exact zs_goj (hJ2 x4) trivial
set_option maxRecDepth 20000 in
theorem c_X12_places (l : Launch) (g : GC)  : ConR l g yX12_places cX12_places 1 (some .int) (rmd 1 0 0) [sR 287] (fun mm => fX12_places  mm) := by
  refine zs_ofR (by decide +kernel) (Nat.le_of_ble_eq_true rfl) ?_
  intro p e s m args below meth c C hr
  replace C : Bd g RX12 cX12_places 1 p s m args meth c := C
  unfold fX12_places
  refine zs_aload_n (pc := 0) (k := 0) (i := 0) C (by decide +kernel) rfl rfl ?_
  refine zs_getR (o' := 288) (pc := 1) (i := 9) (ci := 12) (k := 0) C (by decide +kernel) fl_RX12_9 rfl rfl rfl ?_
  refine zs_iconst (pc := 4) (n := 1) (x := 1) C (by decide +kernel) (by decide +kernel) ?_
  refine zs_ialdk (pc := 5) (o := 288) (n := 2005) C (by decide) (by decide +kernel) rfl (fun x1 => ?_)
  refine zs_aload_n (pc := 6) (k := 0) (i := 0) C (by decide +kernel) rfl rfl ?_
  refine zs_getR (o' := 288) (pc := 7) (i := 9) (ci := 12) (k := 0) C (by decide +kernel) fl_RX12_9 rfl rfl rfl ?_
  refine zs_iconst (pc := 10) (n := 2) (x := 2) C (by decide +kernel) (by decide +kernel) ?_
  refine zs_ialdk (pc := 11) (o := 288) (n := 2005) C (by decide) (by decide +kernel) rfl (fun x2 => ?_)
  refine zs_imul (pc := 12) C (by decide +kernel) ?_
  exact zs_retRi (pc := 13) C hr ⟨Nat.le_of_ble_eq_true rfl, Nat.le_of_ble_eq_true rfl⟩ (by decide +kernel)
set_option maxRecDepth 20000 in
theorem c_X12_isPlace (l : Launch) (g : GC) (a0 : Int) : ConR l g yX12_isPlace cX12_isPlace 3 (some .boolean) (rmd 2 0 0) [sR 287, sL a0] (fun mm => fX12_isPlace a0 mm) := by
  refine zs_ofR (by decide +kernel) (Nat.le_of_ble_eq_true rfl) ?_
  intro p e s m args below meth c C hr
  replace C : Bd g RX12 cX12_isPlace 3 p s m args meth c := C
  unfold fX12_isPlace
  refine zs_lload_n (pc := 0) (k := 1) (i := 1) C (by decide +kernel) rfl rfl ?_
  refine zs_lconst (pc := 1) (n := 0) (x := 0) C (by decide +kernel) (by decide +kernel) ?_
  refine zs_aload_n (pc := 2) (k := 0) (i := 0) C (by decide +kernel) rfl rfl ?_
  refine zs_cvRi (pc := 3) (As := []) (st := [sL 0, sL a0]) C rfl (c_X12_places l g ) ml_RX12_290 rfl rfl rfl rfl (Nat.le_of_ble_eq_true rfl) ⟨Nat.le_of_ble_eq_true rfl, Nat.le_of_ble_eq_true rfl⟩ ⟨Nat.le_of_ble_eq_true rfl, Nat.le_of_ble_eq_true rfl⟩ (by decide +kernel) (fun x1 => ?_)
  refine zs_iconst (pc := 6) (n := 1) (x := 1) C (by decide +kernel) (by decide +kernel) ?_
  refine zs_isub (pc := 7) C (by decide +kernel) ?_
  refine zs_i2l (pc := 8) C (by decide +kernel) ?_
  refine zs_csRi (pc := 9) (As := [sL a0, sL 0, sL (w32 (x1 - 1))]) (st := []) C rfl (c_X12_within l g a0 0 (w32 (x1 - 1))) ml_RX12_149 rfl rfl (Nat.le_of_ble_eq_true rfl) ⟨Nat.le_of_ble_eq_true rfl, Nat.le_of_ble_eq_true rfl⟩ ⟨Nat.le_of_ble_eq_true rfl, Nat.le_of_ble_eq_true rfl⟩ (by decide +kernel) (fun x2 => ?_)
  refine zs_chk (fun _ hx => ?_)
  exact zs_retRz (pc := 12) C hx hr ⟨Nat.le_of_ble_eq_true rfl, Nat.le_of_ble_eq_true rfl⟩ (by decide +kernel)
set_option maxRecDepth 20000 in
theorem c_X12_isPair (l : Launch) (g : GC) (a0 : Int) : ConR l g yX12_isPair cX12_isPair 3 (some .boolean) (rmd 2 0 0) [sR 287, sL a0] (fun mm => fX12_isPair a0 mm) := by
  refine zs_ofR (by decide +kernel) (Nat.le_of_ble_eq_true rfl) ?_
  intro p e s m args below meth c C hr
  replace C : Bd g RX12 cX12_isPair 3 p s m args meth c := C
  unfold fX12_isPair
  refine zs_lload_n (pc := 0) (k := 1) (i := 1) C (by decide +kernel) rfl rfl ?_
  refine zs_lconst (pc := 1) (n := 0) (x := 0) C (by decide +kernel) (by decide +kernel) ?_
  refine zs_aload_n (pc := 2) (k := 0) (i := 0) C (by decide +kernel) rfl rfl ?_
  refine zs_getR (o' := 288) (pc := 3) (i := 9) (ci := 12) (k := 0) C (by decide +kernel) fl_RX12_9 rfl rfl rfl ?_
  refine zs_iconst (pc := 6) (n := 3) (x := 3) C (by decide +kernel) (by decide +kernel) ?_
  refine zs_ialdk (pc := 7) (o := 288) (n := 2005) C (by decide) (by decide +kernel) rfl (fun x1 => ?_)
  refine zs_iconst (pc := 8) (n := 1) (x := 1) C (by decide +kernel) (by decide +kernel) ?_
  refine zs_isub (pc := 9) C (by decide +kernel) ?_
  refine zs_i2l (pc := 10) C (by decide +kernel) ?_
  refine zs_csRi (pc := 11) (As := [sL a0, sL 0, sL (w32 (x1 - 1))]) (st := []) C rfl (c_X12_within l g a0 0 (w32 (x1 - 1))) ml_RX12_149 rfl rfl (Nat.le_of_ble_eq_true rfl) ⟨Nat.le_of_ble_eq_true rfl, Nat.le_of_ble_eq_true rfl⟩ ⟨Nat.le_of_ble_eq_true rfl, Nat.le_of_ble_eq_true rfl⟩ (by decide +kernel) (fun x2 => ?_)
  refine zs_chk (fun _ hx => ?_)
  exact zs_retRz (pc := 14) C hx hr ⟨Nat.le_of_ble_eq_true rfl, Nat.le_of_ble_eq_true rfl⟩ (by decide +kernel)
set_option maxRecDepth 20000 in
theorem c_X12_isWho (l : Launch) (g : GC) (a0 : Int) : ConR l g yX12_isWho cX12_isWho 1 (some .boolean) (rmd 2 0 0) [sI a0] (fun mm => fX12_isWho a0 mm) := by
  refine zs_ofR (by decide +kernel) (Nat.le_of_ble_eq_true rfl) ?_
  intro p e s m args below meth c C hr
  replace C : Bd g RX12 cX12_isWho 1 p s m args meth c := C
  unfold fX12_isWho
  refine zs_iload_n (pc := 0) (k := 0) (i := 0) C (by decide +kernel) rfl rfl ?_
  refine zs_i2l (pc := 1) C (by decide +kernel) ?_
  refine zs_lconst (pc := 2) (n := 0) (x := 0) C (by decide +kernel) (by decide +kernel) ?_
  refine zs_lconst (pc := 3) (n := 1) (x := 1) C (by decide +kernel) (by decide +kernel) ?_
  refine zs_csRi (pc := 4) (As := [sL a0, sL 0, sL 1]) (st := []) C rfl (c_X12_within l g a0 0 1) ml_RX12_149 rfl rfl (Nat.le_of_ble_eq_true rfl) ⟨Nat.le_of_ble_eq_true rfl, Nat.le_of_ble_eq_true rfl⟩ ⟨Nat.le_of_ble_eq_true rfl, Nat.le_of_ble_eq_true rfl⟩ (by decide +kernel) (fun x1 => ?_)
  refine zs_chk (fun _ hx => ?_)
  exact zs_retRz (pc := 7) C hx hr ⟨Nat.le_of_ble_eq_true rfl, Nat.le_of_ble_eq_true rfl⟩ (by decide +kernel)
set_option maxRecDepth 20000 in
theorem c_X12_isParted (l : Launch) (g : GC) (a0 : Int) : ConR l g yX12_isParted cX12_isParted 2 (some .boolean) (rmd 2 0 0) [sR 287, sI a0] (fun mm => fX12_isParted a0 mm) := by
  refine zs_ofR (by decide +kernel) (Nat.le_of_ble_eq_true rfl) ?_
  intro p e s m args below meth c C hr
  replace C : Bd g RX12 cX12_isParted 2 p s m args meth c := C
  unfold fX12_isParted
  refine zs_aload_n (pc := 0) (k := 0) (i := 0) C (by decide +kernel) rfl rfl ?_
  refine zs_getR (o' := 288) (pc := 1) (i := 9) (ci := 12) (k := 0) C (by decide +kernel) fl_RX12_9 rfl rfl rfl ?_
  refine zs_bipush (pc := 4) (n := 21) (x := 21) C (by decide +kernel) (by decide +kernel) ?_
  refine zs_ialdk (pc := 6) (o := 288) (n := 2005) C (by decide) (by decide +kernel) rfl (fun x1 => ?_)
  refine zs_iload_n (pc := 7) (k := 1) (i := 1) C (by decide +kernel) rfl rfl ?_
  refine zs_csRi (pc := 8) (As := [sI x1, sI a0]) (st := []) C rfl (c_X12_has l g x1 a0) ml_RX12_230 rfl rfl (Nat.le_of_ble_eq_true rfl) ⟨Nat.le_of_ble_eq_true rfl, Nat.le_of_ble_eq_true rfl⟩ ⟨Nat.le_of_ble_eq_true rfl, Nat.le_of_ble_eq_true rfl⟩ (by decide +kernel) (fun x2 => ?_)
  refine zs_chk (fun _ hx => ?_)
  exact zs_retRz (pc := 11) C hx hr ⟨Nat.le_of_ble_eq_true rfl, Nat.le_of_ble_eq_true rfl⟩ (by decide +kernel)
set_option maxRecDepth 20000 in
theorem c_X12_rainIn (l : Launch) (g : GC) (a0 : Int) : ConR l g yX12_rainIn cX12_rainIn 2 (some .int) (rmd 1 0 0) [sR 287, sI a0] (fun mm => fX12_rainIn a0 mm) := by
  refine zs_ofR (by decide +kernel) (Nat.le_of_ble_eq_true rfl) ?_
  intro p e s m args below meth c C hr
  replace C : Bd g RX12 cX12_rainIn 2 p s m args meth c := C
  unfold fX12_rainIn
  refine zs_iload_n (pc := 0) (k := 1) (i := 1) C (by decide +kernel) rfl rfl ?_
  refine zs_aload_n (pc := 1) (k := 0) (i := 0) C (by decide +kernel) rfl rfl ?_
  refine zs_getR (o' := 288) (pc := 2) (i := 9) (ci := 12) (k := 0) C (by decide +kernel) fl_RX12_9 rfl rfl rfl ?_
  refine zs_bipush (pc := 5) (n := 23) (x := 23) C (by decide +kernel) (by decide +kernel) ?_
  refine zs_ialdk (pc := 7) (o := 288) (n := 2005) C (by decide) (by decide +kernel) rfl (fun x1 => ?_)
  refine zs_jn (pJ := 22) (kJ := 0) (sJ := 0) (fun t2 => []) (fun t2 => [sI t2]) (fun t2 => ?_) (fun J3 hJ3 => ?_)
  · exact zs_retRi (pc := 22) C hr ⟨Nat.le_of_ble_eq_true rfl, Nat.le_of_ble_eq_true rfl⟩ (by decide +kernel)
  · refine zs_icmp_ge (pc := 8) (off := 13) (tgt := 21) C (by decide +kernel) (by decide) ?_ ?_
    · refine zs_iconst (pc := 21) (n := 0) (x := 0) C (by decide +kernel) (by decide +kernel) ?_
      exact zs_goj (hJ3 0) trivial
    · refine zs_aload_n (pc := 11) (k := 0) (i := 0) C (by decide +kernel) rfl rfl ?_
      refine zs_getR (o' := 288) (pc := 12) (i := 9) (ci := 12) (k := 0) C (by decide +kernel) fl_RX12_9 rfl rfl rfl ?_
      refine zs_bipush (pc := 15) (n := 22) (x := 22) C (by decide +kernel) (by decide +kernel) ?_
      refine zs_ialdk (pc := 17) (o := 288) (n := 2005) C (by decide) (by decide +kernel) rfl (fun x4 => ?_)
      refine zs_goto (pc := 18) (off := 4) (tgt := 22) C (by decide +kernel) (by decide) ?_
      exact zs_goj (hJ3 x4) trivial
set_option maxRecDepth 20000 in
theorem c_X12_apart (l : Launch) (g : GC) (a0 : Int) (a1 : Int) : ConR l g yX12_apart cX12_apart 3 (some .int) (rmd 1 0 0) [sR 287, sI a0, sI a1] (fun mm => fX12_apart a0 a1 mm) := by
  refine zs_ofR (by decide +kernel) (Nat.le_of_ble_eq_true rfl) ?_
  intro p e s m args below meth c C hr
  replace C : Bd g RX12 cX12_apart 3 p s m args meth c := C
  unfold fX12_apart
  refine zs_iload_n (pc := 0) (k := 1) (i := 1) C (by decide +kernel) rfl rfl ?_
  refine zs_aload_n (pc := 1) (k := 0) (i := 0) C (by decide +kernel) rfl rfl ?_
  refine zs_getR (o' := 288) (pc := 2) (i := 9) (ci := 12) (k := 0) C (by decide +kernel) fl_RX12_9 rfl rfl rfl ?_
  refine zs_iconst (pc := 5) (n := 1) (x := 1) C (by decide +kernel) (by decide +kernel) ?_
  refine zs_ialdk (pc := 6) (o := 288) (n := 2005) C (by decide) (by decide +kernel) rfl (fun x1 => ?_)
  refine zs_chk (fun _ hy => ?_)
  refine zs_irem (pc := 7) C hy (by decide +kernel) ?_
  refine zs_iload_n (pc := 8) (k := 2) (i := 2) C (by decide +kernel) rfl rfl ?_
  refine zs_aload_n (pc := 9) (k := 0) (i := 0) C (by decide +kernel) rfl rfl ?_
  refine zs_getR (o' := 288) (pc := 10) (i := 9) (ci := 12) (k := 0) C (by decide +kernel) fl_RX12_9 rfl rfl rfl ?_
  refine zs_iconst (pc := 13) (n := 1) (x := 1) C (by decide +kernel) (by decide +kernel) ?_
  refine zs_ialdk (pc := 14) (o := 288) (n := 2005) C (by decide) (by decide +kernel) rfl (fun x2 => ?_)
  refine zs_chk (fun _ hy => ?_)
  refine zs_irem (pc := 15) C hy (by decide +kernel) ?_
  refine zs_isub (pc := 16) C (by decide +kernel) ?_
  refine zs_mabs (pc := 17) (idx := 293) C wf_2100 wf_2101 wf_166 wf_2102 ⟨Nat.le_of_ble_eq_true rfl, Nat.le_of_ble_eq_true rfl, Nat.le_of_ble_eq_true rfl, Nat.le_of_ble_eq_true rfl⟩ (by decide +kernel) ?_
  refine zs_iload_n (pc := 20) (k := 1) (i := 1) C (by decide +kernel) rfl rfl ?_
  refine zs_aload_n (pc := 21) (k := 0) (i := 0) C (by decide +kernel) rfl rfl ?_
  refine zs_getR (o' := 288) (pc := 22) (i := 9) (ci := 12) (k := 0) C (by decide +kernel) fl_RX12_9 rfl rfl rfl ?_
  refine zs_iconst (pc := 25) (n := 1) (x := 1) C (by decide +kernel) (by decide +kernel) ?_
  refine zs_ialdk (pc := 26) (o := 288) (n := 2005) C (by decide) (by decide +kernel) rfl (fun x3 => ?_)
  refine zs_chk (fun _ hy => ?_)
  refine zs_idiv (pc := 27) C hy (by decide +kernel) ?_
  refine zs_iload_n (pc := 28) (k := 2) (i := 2) C (by decide +kernel) rfl rfl ?_
  refine zs_aload_n (pc := 29) (k := 0) (i := 0) C (by decide +kernel) rfl rfl ?_
  refine zs_getR (o' := 288) (pc := 30) (i := 9) (ci := 12) (k := 0) C (by decide +kernel) fl_RX12_9 rfl rfl rfl ?_
  refine zs_iconst (pc := 33) (n := 1) (x := 1) C (by decide +kernel) (by decide +kernel) ?_
  refine zs_ialdk (pc := 34) (o := 288) (n := 2005) C (by decide) (by decide +kernel) rfl (fun x4 => ?_)
  refine zs_chk (fun _ hy => ?_)
  refine zs_idiv (pc := 35) C hy (by decide +kernel) ?_
  refine zs_isub (pc := 36) C (by decide +kernel) ?_
  refine zs_mabs (pc := 37) (idx := 293) C wf_2100 wf_2101 wf_166 wf_2102 ⟨Nat.le_of_ble_eq_true rfl, Nat.le_of_ble_eq_true rfl, Nat.le_of_ble_eq_true rfl, Nat.le_of_ble_eq_true rfl⟩ (by decide +kernel) ?_
  refine zs_iadd (pc := 40) C (by decide +kernel) ?_
  exact zs_retRi (pc := 41) C hr ⟨Nat.le_of_ble_eq_true rfl, Nat.le_of_ble_eq_true rfl⟩ (by decide +kernel)
set_option maxRecDepth 20000 in
theorem c_X12_apartOf (l : Launch) (g : GC) (a0 : Int) : ConR l g yX12_apartOf cX12_apartOf 2 (some .int) (rmd 2 0 0) [sR 287, sI a0] (fun mm => fX12_apartOf a0 mm) := by
  refine zs_ofR (by decide +kernel) (Nat.le_of_ble_eq_true rfl) ?_
  intro p e s m args below meth c C hr
  replace C : Bd g RX12 cX12_apartOf 2 p s m args meth c := C
  unfold fX12_apartOf
  refine zs_aload_n (pc := 0) (k := 0) (i := 0) C (by decide +kernel) rfl rfl ?_
  refine zs_aload_n (pc := 1) (k := 0) (i := 0) C (by decide +kernel) rfl rfl ?_
  refine zs_getR (o' := 288) (pc := 2) (i := 9) (ci := 12) (k := 0) C (by decide +kernel) fl_RX12_9 rfl rfl rfl ?_
  refine zs_bipush (pc := 5) (n := 13) (x := 13) C (by decide +kernel) (by decide +kernel) ?_
  refine zs_iload_n (pc := 7) (k := 1) (i := 1) C (by decide +kernel) rfl rfl ?_
  refine zs_iadd (pc := 8) C (by decide +kernel) ?_
  refine zs_iald (pc := 9) (o := 288) (n := 2005) C (by decide +kernel) rfl (fun hinx1 x1 => ?_)
  refine zs_aload_n (pc := 10) (k := 0) (i := 0) C (by decide +kernel) rfl rfl ?_
  refine zs_getR (o' := 288) (pc := 11) (i := 9) (ci := 12) (k := 0) C (by decide +kernel) fl_RX12_9 rfl rfl rfl ?_
  refine zs_bipush (pc := 14) (n := 17) (x := 17) C (by decide +kernel) (by decide +kernel) ?_
  refine zs_iload_n (pc := 16) (k := 1) (i := 1) C (by decide +kernel) rfl rfl ?_
  refine zs_iadd (pc := 17) C (by decide +kernel) ?_
  refine zs_iald (pc := 18) (o := 288) (n := 2005) C (by decide +kernel) rfl (fun hinx2 x2 => ?_)
  refine zs_cvRi (pc := 19) (As := [sI x1, sI x2]) (st := []) C rfl (c_X12_apart l g x1 x2) ml_RX12_298 rfl rfl rfl rfl (Nat.le_of_ble_eq_true rfl) ⟨Nat.le_of_ble_eq_true rfl, Nat.le_of_ble_eq_true rfl⟩ ⟨Nat.le_of_ble_eq_true rfl, Nat.le_of_ble_eq_true rfl⟩ (by decide +kernel) (fun x3 => ?_)
  exact zs_retRi (pc := 22) C hr ⟨Nat.le_of_ble_eq_true rfl, Nat.le_of_ble_eq_true rfl⟩ (by decide +kernel)
set_option maxRecDepth 20000 in
theorem c_X12_bound (l : Launch) (g : GC) (a0 : Int) : ConR l g yX12_bound cX12_bound 2 (some .int) (rmd 1 0 0) [sL a0] (fun mm => fX12_bound a0 mm) := by
  refine zs_ofR (by decide +kernel) (Nat.le_of_ble_eq_true rfl) ?_
  intro p e s m args below meth c C hr
  replace C : Bd g RX12 cX12_bound 2 p s m args meth c := C
  unfold fX12_bound
  refine zs_ldc2 (pc := 0) (i := 301) (v := (-1000000)) (x := (-1000000)) C (by decide +kernel) wf_2126 (by decide +kernel) ?_
  refine zs_ldc2 (pc := 3) (i := 303) (v := 1000000) (x := 1000000) C (by decide +kernel) wf_2127 (by decide +kernel) ?_
  refine zs_lload_n (pc := 6) (k := 0) (i := 0) C (by decide +kernel) rfl rfl ?_
  refine zs_mminL (pc := 7) (idx := 305) C wf_2128 wf_1682 wf_166 wf_1683 ⟨Nat.le_of_ble_eq_true rfl, Nat.le_of_ble_eq_true rfl, Nat.le_of_ble_eq_true rfl, Nat.le_of_ble_eq_true rfl⟩ (by decide +kernel) ?_
  refine zs_mmaxL (pc := 10) (idx := 309) C wf_2129 wf_2130 wf_166 wf_2131 ⟨Nat.le_of_ble_eq_true rfl, Nat.le_of_ble_eq_true rfl, Nat.le_of_ble_eq_true rfl, Nat.le_of_ble_eq_true rfl⟩ (by decide +kernel) ?_
  refine zs_l2i (pc := 13) C (by decide +kernel) ?_
  exact zs_retRi (pc := 14) C hr ⟨Nat.le_of_ble_eq_true rfl, Nat.le_of_ble_eq_true rfl⟩ (by decide +kernel)
set_option maxRecDepth 20000 in
theorem c_X12_done (l : Launch) (g : GC) (a0 : Int) (a1 : Int) (a2 : Int) : ConR l g yX12_done cX12_done 5 (some .int) (rmd 2 0 0) [sI a0, sL a1, sL a2] (fun mm => fX12_done a0 a1 a2 mm) := by
  refine zs_ofR (by decide +kernel) (Nat.le_of_ble_eq_true rfl) ?_
  intro p e s m args below meth c C hr
  replace C : Bd g RX12 cX12_done 5 p s m args meth c := C
  unfold fX12_done
  refine zs_iload_n (pc := 0) (k := 0) (i := 0) C (by decide +kernel) rfl rfl ?_
  refine zs_ite (fun hc0 => ?_) (fun hc0 => ?_)
  · refine zs_tswI (pc := 1) (dflt := 114) (lo := 10) (hi := 16) (offs := #[43, 50, 57, 64, 76, 88, 100]) (len := 43) (i := 0) (off := 43) (tgt := 44) C (by decide +kernel) hc0 (by decide) rfl (by decide) ?_
    refine zs_lload_n (pc := 44) (k := 1) (i := 1) C (by decide +kernel) rfl rfl ?_
    refine zs_lload_n (pc := 45) (k := 3) (i := 3) C (by decide +kernel) rfl rfl ?_
    refine zs_ladd (pc := 46) C (by decide +kernel) ?_
    refine zs_csRi (pc := 47) (As := [sL (w64 (a1 + a2))]) (st := []) C rfl (c_X12_bound l g (w64 (a1 + a2))) ml_RX12_312 rfl rfl (Nat.le_of_ble_eq_true rfl) ⟨Nat.le_of_ble_eq_true rfl, Nat.le_of_ble_eq_true rfl⟩ ⟨Nat.le_of_ble_eq_true rfl, Nat.le_of_ble_eq_true rfl⟩ (by decide +kernel) (fun x1 => ?_)
    exact zs_retRi (pc := 50) C hr ⟨Nat.le_of_ble_eq_true rfl, Nat.le_of_ble_eq_true rfl⟩ (by decide +kernel)
  · refine zs_ite (fun hc1 => ?_) (fun hc1 => ?_)
    · refine zs_tswI (pc := 1) (dflt := 114) (lo := 10) (hi := 16) (offs := #[43, 50, 57, 64, 76, 88, 100]) (len := 43) (i := 1) (off := 50) (tgt := 51) C (by decide +kernel) hc1 (by decide) rfl (by decide) ?_
      refine zs_lload_n (pc := 51) (k := 1) (i := 1) C (by decide +kernel) rfl rfl ?_
      refine zs_lload_n (pc := 52) (k := 3) (i := 3) C (by decide +kernel) rfl rfl ?_
      refine zs_lsub (pc := 53) C (by decide +kernel) ?_
      refine zs_csRi (pc := 54) (As := [sL (w64 (a1 - a2))]) (st := []) C rfl (c_X12_bound l g (w64 (a1 - a2))) ml_RX12_312 rfl rfl (Nat.le_of_ble_eq_true rfl) ⟨Nat.le_of_ble_eq_true rfl, Nat.le_of_ble_eq_true rfl⟩ ⟨Nat.le_of_ble_eq_true rfl, Nat.le_of_ble_eq_true rfl⟩ (by decide +kernel) (fun x2 => ?_)
      exact zs_retRi (pc := 57) C hr ⟨Nat.le_of_ble_eq_true rfl, Nat.le_of_ble_eq_true rfl⟩ (by decide +kernel)
    · refine zs_ite (fun hc2 => ?_) (fun hc2 => ?_)
      · refine zs_tswI (pc := 1) (dflt := 114) (lo := 10) (hi := 16) (offs := #[43, 50, 57, 64, 76, 88, 100]) (len := 43) (i := 2) (off := 57) (tgt := 58) C (by decide +kernel) hc2 (by decide) rfl (by decide) ?_
        refine zs_lload_n (pc := 58) (k := 1) (i := 1) C (by decide +kernel) rfl rfl ?_
        refine zs_lload_n (pc := 59) (k := 3) (i := 3) C (by decide +kernel) rfl rfl ?_
        refine zs_lmul (pc := 60) C (by decide +kernel) ?_
        refine zs_csRi (pc := 61) (As := [sL (w64 (a1 * a2))]) (st := []) C rfl (c_X12_bound l g (w64 (a1 * a2))) ml_RX12_312 rfl rfl (Nat.le_of_ble_eq_true rfl) ⟨Nat.le_of_ble_eq_true rfl, Nat.le_of_ble_eq_true rfl⟩ ⟨Nat.le_of_ble_eq_true rfl, Nat.le_of_ble_eq_true rfl⟩ (by decide +kernel) (fun x3 => ?_)
        exact zs_retRi (pc := 64) C hr ⟨Nat.le_of_ble_eq_true rfl, Nat.le_of_ble_eq_true rfl⟩ (by decide +kernel)
      · refine zs_ite (fun hc3 => ?_) (fun hc3 => ?_)
        · refine zs_tswI (pc := 1) (dflt := 114) (lo := 10) (hi := 16) (offs := #[43, 50, 57, 64, 76, 88, 100]) (len := 43) (i := 3) (off := 64) (tgt := 65) C (by decide +kernel) hc3 (by decide) rfl (by decide) ?_
          refine zs_lload_n (pc := 65) (k := 1) (i := 1) C (by decide +kernel) rfl rfl ?_
          refine zs_lload_n (pc := 66) (k := 3) (i := 3) C (by decide +kernel) rfl rfl ?_
          refine zs_jn (pJ := 76) (kJ := 0) (sJ := 0) (fun t4 => []) (fun t4 => [sI t4]) (fun t4 => ?_) (fun J5 hJ5 => ?_)
          · exact zs_retRi (pc := 76) C hr ⟨Nat.le_of_ble_eq_true rfl, Nat.le_of_ble_eq_true rfl⟩ (by decide +kernel)
          · refine zs_lcmp_ne (pc := 67) (off := 7) (tgt := 75) C (by decide +kernel) (by decide +kernel) (by decide) ?_ ?_
            · refine zs_iconst (pc := 75) (n := 0) (x := 0) C (by decide +kernel) (by decide +kernel) ?_
              exact zs_goj (hJ5 0) trivial
            · refine zs_iconst (pc := 71) (n := 1) (x := 1) C (by decide +kernel) (by decide +kernel) ?_
              refine zs_goto (pc := 72) (off := 4) (tgt := 76) C (by decide +kernel) (by decide) ?_
              exact zs_goj (hJ5 1) trivial
        · refine zs_ite (fun hc4 => ?_) (fun hc4 => ?_)
          · refine zs_tswI (pc := 1) (dflt := 114) (lo := 10) (hi := 16) (offs := #[43, 50, 57, 64, 76, 88, 100]) (len := 43) (i := 4) (off := 76) (tgt := 77) C (by decide +kernel) hc4 (by decide) rfl (by decide) ?_
            refine zs_lload_n (pc := 77) (k := 1) (i := 1) C (by decide +kernel) rfl rfl ?_
            refine zs_lload_n (pc := 78) (k := 3) (i := 3) C (by decide +kernel) rfl rfl ?_
            refine zs_jn (pJ := 88) (kJ := 0) (sJ := 0) (fun t6 => []) (fun t6 => [sI t6]) (fun t6 => ?_) (fun J7 hJ7 => ?_)
            · exact zs_retRi (pc := 88) C hr ⟨Nat.le_of_ble_eq_true rfl, Nat.le_of_ble_eq_true rfl⟩ (by decide +kernel)
            · refine zs_lcmp_ge (pc := 79) (off := 7) (tgt := 87) C (by decide +kernel) (by decide +kernel) (by decide) ?_ ?_
              · refine zs_iconst (pc := 87) (n := 0) (x := 0) C (by decide +kernel) (by decide +kernel) ?_
                exact zs_goj (hJ7 0) trivial
              · refine zs_iconst (pc := 83) (n := 1) (x := 1) C (by decide +kernel) (by decide +kernel) ?_
                refine zs_goto (pc := 84) (off := 4) (tgt := 88) C (by decide +kernel) (by decide) ?_
                exact zs_goj (hJ7 1) trivial
          · refine zs_ite (fun hc5 => ?_) (fun hc5 => ?_)
            · refine zs_tswI (pc := 1) (dflt := 114) (lo := 10) (hi := 16) (offs := #[43, 50, 57, 64, 76, 88, 100]) (len := 43) (i := 5) (off := 88) (tgt := 89) C (by decide +kernel) hc5 (by decide) rfl (by decide) ?_
              refine zs_lload_n (pc := 89) (k := 1) (i := 1) C (by decide +kernel) rfl rfl ?_
              refine zs_lload_n (pc := 90) (k := 3) (i := 3) C (by decide +kernel) rfl rfl ?_
              refine zs_jn (pJ := 100) (kJ := 0) (sJ := 0) (fun t8 => []) (fun t8 => [sI t8]) (fun t8 => ?_) (fun J9 hJ9 => ?_)
              · exact zs_retRi (pc := 100) C hr ⟨Nat.le_of_ble_eq_true rfl, Nat.le_of_ble_eq_true rfl⟩ (by decide +kernel)
              · refine zs_lcmp_le (pc := 91) (off := 7) (tgt := 99) C (by decide +kernel) (by decide +kernel) (by decide) ?_ ?_
                · refine zs_iconst (pc := 99) (n := 0) (x := 0) C (by decide +kernel) (by decide +kernel) ?_
                  exact zs_goj (hJ9 0) trivial
                · refine zs_iconst (pc := 95) (n := 1) (x := 1) C (by decide +kernel) (by decide +kernel) ?_
                  refine zs_goto (pc := 96) (off := 4) (tgt := 100) C (by decide +kernel) (by decide) ?_
                  exact zs_goj (hJ9 1) trivial
            · refine zs_ite (fun hc6 => ?_) (fun hc6 => ?_)
              · refine zs_tswI (pc := 1) (dflt := 114) (lo := 10) (hi := 16) (offs := #[43, 50, 57, 64, 76, 88, 100]) (len := 43) (i := 6) (off := 100) (tgt := 101) C (by decide +kernel) hc6 (by decide) rfl (by decide) ?_
                refine zs_lload_n (pc := 101) (k := 1) (i := 1) C (by decide +kernel) rfl rfl ?_
                refine zs_lload_n (pc := 102) (k := 3) (i := 3) C (by decide +kernel) rfl rfl ?_
                refine zs_ladd (pc := 103) C (by decide +kernel) ?_
                refine zs_lconst (pc := 104) (n := 1) (x := 1) C (by decide +kernel) (by decide +kernel) ?_
                refine zs_jn (pJ := 114) (kJ := 0) (sJ := 0) (fun t10 => []) (fun t10 => [sI t10]) (fun t10 => ?_) (fun J11 hJ11 => ?_)
                · exact zs_retRi (pc := 114) C hr ⟨Nat.le_of_ble_eq_true rfl, Nat.le_of_ble_eq_true rfl⟩ (by decide +kernel)
                · refine zs_lcmp_le (pc := 105) (off := 7) (tgt := 113) C (by decide +kernel) (by decide +kernel) (by decide) ?_ ?_
                  · refine zs_iconst (pc := 113) (n := 0) (x := 0) C (by decide +kernel) (by decide +kernel) ?_
                    exact zs_goj (hJ11 0) trivial
                  · refine zs_iconst (pc := 109) (n := 1) (x := 1) C (by decide +kernel) (by decide +kernel) ?_
                    refine zs_goto (pc := 110) (off := 4) (tgt := 114) C (by decide +kernel) (by decide) ?_
                    exact zs_goj (hJ11 1) trivial
              · refine zs_tswD (pc := 1) (dflt := 114) (lo := 10) (hi := 16) (offs := #[43, 50, 57, 64, 76, 88, 100]) (len := 43) (tgt := 115) C (by decide +kernel) (by omega) (by decide) ?_
                refine zs_lload_n (pc := 115) (k := 1) (i := 1) C (by decide +kernel) rfl rfl ?_
                refine zs_lload_n (pc := 116) (k := 3) (i := 3) C (by decide +kernel) rfl rfl ?_
                refine zs_ladd (pc := 117) C (by decide +kernel) ?_
                refine zs_lconst (pc := 118) (n := 0) (x := 0) C (by decide +kernel) (by decide +kernel) ?_
                refine zs_jn (pJ := 128) (kJ := 0) (sJ := 0) (fun t12 => []) (fun t12 => [sI t12]) (fun t12 => ?_) (fun J13 hJ13 => ?_)
                · exact zs_retRi (pc := 128) C hr ⟨Nat.le_of_ble_eq_true rfl, Nat.le_of_ble_eq_true rfl⟩ (by decide +kernel)
                · refine zs_lcmp_le (pc := 119) (off := 7) (tgt := 127) C (by decide +kernel) (by decide +kernel) (by decide) ?_ ?_
                  · refine zs_iconst (pc := 127) (n := 0) (x := 0) C (by decide +kernel) (by decide +kernel) ?_
                    exact zs_goj (hJ13 0) trivial
                  · refine zs_iconst (pc := 123) (n := 1) (x := 1) C (by decide +kernel) (by decide +kernel) ?_
                    refine zs_goto (pc := 124) (off := 4) (tgt := 128) C (by decide +kernel) (by decide) ?_
                    exact zs_goj (hJ13 1) trivial
set_option maxRecDepth 20000 in
theorem c_X12_lawOf (l : Launch) (g : GC) (a0 : Int) (a1 : Int) : ConW l g yX12_lawOf cX12_lawOf 6 (some .int) (rmd 3 0 0) [sR 287, sI a0, sI a1] (fun mm => fX12_lawOf a0 a1 mm) := by
  refine zs_ofW (by decide +kernel) (Nat.le_of_ble_eq_true rfl) ?_
  intro p e s m args below meth c C hr
  replace C : Bd g RX12 cX12_lawOf 6 p s m args meth c := C
  unfold fX12_lawOf
  refine zs_iconst (pc := 0) (n := 0) (x := 0) C (by decide +kernel) (by decide +kernel) ?_
  refine zs_istore_n (pc := 1) (k := 3) (i := 3) (ls' := [(3, sI 0), (0, sR 287), (1, sI a0), (2, sI a1)]) C (by decide +kernel) rfl (Nat.le_of_ble_eq_true rfl) rfl ?_
  refine zs_iconst (pc := 2) (n := 0) (x := 0) C (by decide +kernel) (by decide +kernel) ?_
  refine zs_istore (pc := 3) (i := 4) (ls' := [(4, sI 0), (3, sI 0), (0, sR 287), (1, sI a0), (2, sI a1)]) C (by decide +kernel) (Nat.le_of_ble_eq_true rfl) rfl ?_
  refine zs_sub (ls' := [(0, sR 287), (1, sI a0), (2, sI a1), (3, sI 0), (4, sI 0)]) ⟨rfl, rfl, rfl, rfl, rfl, trivial⟩ ?_
  refine zs_lp (pc := 5) (fun (t1 : Int × Int) => [(0, sR 287), (1, sI a0), (2, sI a1), (3, sI t1.1), (4, sI t1.2)]) (fun _ => []) (fun K2 hK2 t1 => ?_) BIG (0, 0)
  refine zs_iload (pc := 5) (i := 4) C (by decide +kernel) rfl ?_
  refine zs_aload_n (pc := 7) (k := 0) (i := 0) C (by decide +kernel) rfl rfl ?_
  refine zs_getR (o' := 288) (pc := 8) (i := 9) (ci := 12) (k := 0) C (by decide +kernel) fl_RX12_9 rfl rfl rfl ?_
  refine zs_iload_n (pc := 11) (k := 1) (i := 1) C (by decide +kernel) rfl rfl ?_
  refine zs_iald (pc := 12) (o := 288) (n := 2005) C (by decide +kernel) rfl (fun hinx3 x3 => ?_)
  refine zs_icmp_ge (pc := 13) (off := 126) (tgt := 139) C (by decide +kernel) (by decide) ?_ ?_
  · refine zs_aload_n (pc := 139) (k := 0) (i := 0) C (by decide +kernel) rfl rfl ?_
    refine zs_getR (o' := 293) (pc := 140) (i := 30) (ci := 12) (k := 19) C (by decide +kernel) fl_RX12_30 rfl rfl rfl ?_
    refine zs_iconst (pc := 143) (n := 0) (x := 0) C (by decide +kernel) (by decide +kernel) ?_
    refine zs_ialdk (pc := 144) (o := 293) (n := 64) C (by decide) (by decide +kernel) rfl (fun x4 => ?_)
    exact zs_retWi (pc := 145) C hr ⟨Nat.le_of_ble_eq_true rfl, Nat.le_of_ble_eq_true rfl⟩ (by decide +kernel)
  · refine zs_aload_n (pc := 16) (k := 0) (i := 0) C (by decide +kernel) rfl rfl ?_
    refine zs_getR (o' := 288) (pc := 17) (i := 9) (ci := 12) (k := 0) C (by decide +kernel) fl_RX12_9 rfl rfl rfl ?_
    refine zs_iload_n (pc := 20) (k := 2) (i := 2) C (by decide +kernel) rfl rfl ?_
    refine zs_iload (pc := 21) (i := 4) C (by decide +kernel) rfl ?_
    refine zs_iadd (pc := 23) C (by decide +kernel) ?_
    refine zs_iald (pc := 24) (o := 288) (n := 2005) C (by decide +kernel) rfl (fun hinx5 x5 => ?_)
    refine zs_istore (pc := 25) (i := 5) (ls' := [(5, sI x5), (0, sR 287), (1, sI a0), (2, sI a1), (3, sI t1.1), (4, sI t1.2)]) C (by decide +kernel) (Nat.le_of_ble_eq_true rfl) rfl ?_
    refine zs_iload (pc := 27) (i := 5) C (by decide +kernel) rfl ?_
    refine zs_bipush (pc := 29) (n := 100) (x := 100) C (by decide +kernel) (by decide +kernel) ?_
    refine zs_jn (pJ := 133) (kJ := 0) (sJ := 0) (fun t6 => [(0, sR 287), (1, sI a0), (2, sI a1), (3, sI t6), (4, sI t1.2)]) (fun t6 => []) (fun t6 => ?_) (fun J7 hJ7 => ?_)
    · refine zs_iinc (pc := 133) (i := 4) (n := 1) (y := w32 (t1.2 + 1)) (ls' := [(4, sI (w32 (t1.2 + 1))), (0, sR 287), (1, sI a0), (2, sI a1), (3, sI t6)]) C (by decide +kernel) rfl rfl (Nat.le_of_ble_eq_true rfl) rfl ?_
      refine zs_goto (pc := 136) (off := (-131)) (tgt := 5) C (by decide +kernel) (by decide) ?_
      exact zs_goj (hK2 (t6, w32 (t1.2 + 1))) ⟨rfl, rfl, rfl, rfl, rfl, trivial⟩
    · refine zs_icmp_lt (pc := 31) (off := 42) (tgt := 73) C (by decide +kernel) (by decide) ?_ ?_
      · refine zs_iload (pc := 73) (i := 5) C (by decide +kernel) rfl ?_
        refine zs_bipush (pc := 75) (n := 18) (x := 18) C (by decide +kernel) (by decide +kernel) ?_
        refine zs_icmp_ne (pc := 77) (off := 24) (tgt := 101) C (by decide +kernel) (by decide) ?_ ?_
        · refine zs_iinc (pc := 101) (i := 3) (n := (-1)) (y := w32 (t1.1 + (-1))) (ls' := [(3, sI (w32 (t1.1 + (-1)))), (5, sI x5), (0, sR 287), (1, sI a0), (2, sI a1), (4, sI t1.2)]) C (by decide +kernel) rfl rfl (Nat.le_of_ble_eq_true rfl) rfl ?_
          refine zs_aload_n (pc := 104) (k := 0) (i := 0) C (by decide +kernel) rfl rfl ?_
          refine zs_getR (o' := 293) (pc := 105) (i := 30) (ci := 12) (k := 19) C (by decide +kernel) fl_RX12_30 rfl rfl rfl ?_
          refine zs_iload_n (pc := 108) (k := 3) (i := 3) C (by decide +kernel) rfl rfl ?_
          refine zs_iconst (pc := 109) (n := 1) (x := 1) C (by decide +kernel) (by decide +kernel) ?_
          refine zs_isub (pc := 110) C (by decide +kernel) ?_
          refine zs_iload (pc := 111) (i := 5) C (by decide +kernel) rfl ?_
          refine zs_aload_n (pc := 113) (k := 0) (i := 0) C (by decide +kernel) rfl rfl ?_
          refine zs_getR (o' := 293) (pc := 114) (i := 30) (ci := 12) (k := 19) C (by decide +kernel) fl_RX12_30 rfl rfl rfl ?_
          refine zs_iload_n (pc := 117) (k := 3) (i := 3) C (by decide +kernel) rfl rfl ?_
          refine zs_iconst (pc := 118) (n := 1) (x := 1) C (by decide +kernel) (by decide +kernel) ?_
          refine zs_isub (pc := 119) C (by decide +kernel) ?_
          refine zs_iald (pc := 120) (o := 293) (n := 64) C (by decide +kernel) rfl (fun hinx8 x8 => ?_)
          refine zs_i2l (pc := 121) C (by decide +kernel) ?_
          refine zs_aload_n (pc := 122) (k := 0) (i := 0) C (by decide +kernel) rfl rfl ?_
          refine zs_getR (o' := 293) (pc := 123) (i := 30) (ci := 12) (k := 19) C (by decide +kernel) fl_RX12_30 rfl rfl rfl ?_
          refine zs_iload_n (pc := 126) (k := 3) (i := 3) C (by decide +kernel) rfl rfl ?_
          refine zs_iald (pc := 127) (o := 293) (n := 64) C (by decide +kernel) rfl (fun hinx9 x9 => ?_)
          refine zs_i2l (pc := 128) C (by decide +kernel) ?_
          refine zs_csRi (pc := 129) (As := [sI x5, sL x8, sL x9]) (st := [sI (w32 ((w32 (t1.1 + (-1))) - 1)), sR 293]) C rfl (c_X12_done l g x5 x8 x9) ml_RX12_316 rfl rfl (Nat.le_of_ble_eq_true rfl) ⟨Nat.le_of_ble_eq_true rfl, Nat.le_of_ble_eq_true rfl⟩ ⟨Nat.le_of_ble_eq_true rfl, Nat.le_of_ble_eq_true rfl⟩ (by decide +kernel) (fun x10 => ?_)
          refine zs_iast (pc := 132) (o := 293) (n := 64) C (fun _ _ _ => rfl) (by decide +kernel) rfl ?_
          exact zs_goj (hJ7 (w32 (t1.1 + (-1)))) ⟨rfl, rfl, rfl, rfl, rfl, trivial⟩
        · refine zs_aload_n (pc := 80) (k := 0) (i := 0) C (by decide +kernel) rfl rfl ?_
          refine zs_getR (o' := 293) (pc := 81) (i := 30) (ci := 12) (k := 19) C (by decide +kernel) fl_RX12_30 rfl rfl rfl ?_
          refine zs_iload_n (pc := 84) (k := 3) (i := 3) C (by decide +kernel) rfl rfl ?_
          refine zs_iconst (pc := 85) (n := 1) (x := 1) C (by decide +kernel) (by decide +kernel) ?_
          refine zs_isub (pc := 86) C (by decide +kernel) ?_
          refine zs_iconst (pc := 87) (n := 1) (x := 1) C (by decide +kernel) (by decide +kernel) ?_
          refine zs_aload_n (pc := 88) (k := 0) (i := 0) C (by decide +kernel) rfl rfl ?_
          refine zs_getR (o' := 293) (pc := 89) (i := 30) (ci := 12) (k := 19) C (by decide +kernel) fl_RX12_30 rfl rfl rfl ?_
          refine zs_iload_n (pc := 92) (k := 3) (i := 3) C (by decide +kernel) rfl rfl ?_
          refine zs_iconst (pc := 93) (n := 1) (x := 1) C (by decide +kernel) (by decide +kernel) ?_
          refine zs_isub (pc := 94) C (by decide +kernel) ?_
          refine zs_iald (pc := 95) (o := 293) (n := 64) C (by decide +kernel) rfl (fun hinx11 x11 => ?_)
          refine zs_isub (pc := 96) C (by decide +kernel) ?_
          refine zs_iast (pc := 97) (o := 293) (n := 64) C (fun _ _ _ => rfl) (by decide +kernel) rfl ?_
          refine zs_goto (pc := 98) (off := 35) (tgt := 133) C (by decide +kernel) (by decide) ?_
          exact zs_goj (hJ7 t1.1) ⟨rfl, rfl, rfl, rfl, rfl, trivial⟩
      · refine zs_aload_n (pc := 34) (k := 0) (i := 0) C (by decide +kernel) rfl rfl ?_
        refine zs_getR (o' := 293) (pc := 35) (i := 30) (ci := 12) (k := 19) C (by decide +kernel) fl_RX12_30 rfl rfl rfl ?_
        refine zs_iload_n (pc := 38) (k := 3) (i := 3) C (by decide +kernel) rfl rfl ?_
        refine zs_iload (pc := 39) (i := 5) C (by decide +kernel) rfl ?_
        refine zs_sipush (pc := 41) (n := 1000) (x := 1000) C (by decide +kernel) (by decide +kernel) ?_
        refine zs_jn (pJ := 66) (kJ := 0) (sJ := 0) (fun t12 => [(0, sR 287), (1, sI a0), (2, sI a1), (3, sI t1.1), (4, sI t1.2)]) (fun t12 => [sI t12, sI t1.1, sR 293]) (fun t12 => ?_) (fun J13 hJ13 => ?_)
        · refine zs_iast (pc := 66) (o := 293) (n := 64) C (fun _ _ _ => rfl) (by decide +kernel) rfl ?_
          refine zs_iinc (pc := 67) (i := 3) (n := 1) (y := w32 (t1.1 + 1)) (ls' := [(3, sI (w32 (t1.1 + 1))), (0, sR 287), (1, sI a0), (2, sI a1), (4, sI t1.2)]) C (by decide +kernel) rfl rfl (Nat.le_of_ble_eq_true rfl) rfl ?_
          refine zs_goto (pc := 70) (off := 63) (tgt := 133) C (by decide +kernel) (by decide) ?_
          exact zs_goj (hJ7 (w32 (t1.1 + 1))) ⟨rfl, rfl, rfl, rfl, rfl, trivial⟩
        · refine zs_icmp_lt (pc := 44) (off := 12) (tgt := 56) C (by decide +kernel) (by decide) ?_ ?_
          · refine zs_aload_n (pc := 56) (k := 0) (i := 0) C (by decide +kernel) rfl rfl ?_
            refine zs_getR (o' := 294) (pc := 57) (i := 33) (ci := 12) (k := 20) C (by decide +kernel) fl_RX12_33 rfl rfl rfl ?_
            refine zs_iload (pc := 60) (i := 5) C (by decide +kernel) rfl ?_
            refine zs_bipush (pc := 62) (n := 100) (x := 100) C (by decide +kernel) (by decide +kernel) ?_
            refine zs_isub (pc := 64) C (by decide +kernel) ?_
            refine zs_iald (pc := 65) (o := 294) (n := 6) C (by decide +kernel) rfl (fun hinx14 x14 => ?_)
            exact zs_goj (hJ13 x14) ⟨rfl, rfl, rfl, rfl, rfl, trivial⟩
          · refine zs_iload (pc := 47) (i := 5) C (by decide +kernel) rfl ?_
            refine zs_sipush (pc := 49) (n := 1000) (x := 1000) C (by decide +kernel) (by decide +kernel) ?_
            refine zs_isub (pc := 52) C (by decide +kernel) ?_
            refine zs_goto (pc := 53) (off := 13) (tgt := 66) C (by decide +kernel) (by decide) ?_
            exact zs_goj (hJ13 (w32 (x5 - 1000))) ⟨rfl, rfl, rfl, rfl, rfl, trivial⟩
set_option maxRecDepth 20000 in
theorem c_X12_lengthIn (l : Launch) (g : GC) (a0 : Int) (a1 : Int) (a2 : Int) : ConW l g yX12_lengthIn cX12_lengthIn 4 (some .int) (rmd 4 0 0) [sR 287, sI a0, sI a1, sI a2] (fun mm => fX12_lengthIn a0 a1 a2 mm) := by
  refine zs_ofW (by decide +kernel) (Nat.le_of_ble_eq_true rfl) ?_
  intro p e s m args below meth c C hr
  replace C : Bd g RX12 cX12_lengthIn 4 p s m args meth c := C
  unfold fX12_lengthIn
  refine zs_aload_n (pc := 0) (k := 0) (i := 0) C (by decide +kernel) rfl rfl ?_
  refine zs_getR (o' := 288) (pc := 1) (i := 9) (ci := 12) (k := 0) C (by decide +kernel) fl_RX12_9 rfl rfl rfl ?_
  refine zs_iconst (pc := 4) (n := 5) (x := 5) C (by decide +kernel) (by decide +kernel) ?_
  refine zs_ialdk (pc := 5) (o := 288) (n := 2005) C (by decide) (by decide +kernel) rfl (fun x1 => ?_)
  refine zs_if_ne (pc := 6) (off := 19) (tgt := 25) C (by decide +kernel) (by decide) ?_ ?_
  · refine zs_aload_n (pc := 25) (k := 0) (i := 0) C (by decide +kernel) rfl rfl ?_
    refine zs_getR (o' := 294) (pc := 26) (i := 33) (ci := 12) (k := 20) C (by decide +kernel) fl_RX12_33 rfl rfl rfl ?_
    refine zs_iconst (pc := 29) (n := 0) (x := 0) C (by decide +kernel) (by decide +kernel) ?_
    refine zs_iload_n (pc := 30) (k := 2) (i := 2) C (by decide +kernel) rfl rfl ?_
    refine zs_iastk (pc := 31) (o := 294) (n := 6) C (by decide) (fun _ _ _ => rfl) (by decide +kernel) rfl ?_
    refine zs_aload_n (pc := 32) (k := 0) (i := 0) C (by decide +kernel) rfl rfl ?_
    refine zs_getR (o' := 294) (pc := 33) (i := 33) (ci := 12) (k := 20) C (by decide +kernel) fl_RX12_33 rfl rfl rfl ?_
    refine zs_iconst (pc := 36) (n := 1) (x := 1) C (by decide +kernel) (by decide +kernel) ?_
    refine zs_aload_n (pc := 37) (k := 0) (i := 0) C (by decide +kernel) rfl rfl ?_
    refine zs_getR (o' := 288) (pc := 38) (i := 9) (ci := 12) (k := 0) C (by decide +kernel) fl_RX12_9 rfl rfl rfl ?_
    refine zs_bipush (pc := 41) (n := 9) (x := 9) C (by decide +kernel) (by decide +kernel) ?_
    refine zs_iload_n (pc := 43) (k := 1) (i := 1) C (by decide +kernel) rfl rfl ?_
    refine zs_iadd (pc := 44) C (by decide +kernel) ?_
    refine zs_iald (pc := 45) (o := 288) (n := 2005) C (by decide +kernel) rfl (fun hinx2 x2 => ?_)
    refine zs_iastk (pc := 46) (o := 294) (n := 6) C (by decide) (fun _ _ _ => rfl) (by decide +kernel) rfl ?_
    refine zs_aload_n (pc := 47) (k := 0) (i := 0) C (by decide +kernel) rfl rfl ?_
    refine zs_getR (o' := 294) (pc := 48) (i := 33) (ci := 12) (k := 20) C (by decide +kernel) fl_RX12_33 rfl rfl rfl ?_
    refine zs_iconst (pc := 51) (n := 2) (x := 2) C (by decide +kernel) (by decide +kernel) ?_
    refine zs_aload_n (pc := 52) (k := 0) (i := 0) C (by decide +kernel) rfl rfl ?_
    refine zs_iload_n (pc := 53) (k := 3) (i := 3) C (by decide +kernel) rfl rfl ?_
    refine zs_cvRi (pc := 54) (As := [sI a2]) (st := [sI 2, sR 294]) C rfl (c_X12_rainIn l g a2) ml_RX12_322 rfl rfl rfl rfl (Nat.le_of_ble_eq_true rfl) ⟨Nat.le_of_ble_eq_true rfl, Nat.le_of_ble_eq_true rfl⟩ ⟨Nat.le_of_ble_eq_true rfl, Nat.le_of_ble_eq_true rfl⟩ (by decide +kernel) (fun x3 => ?_)
    refine zs_iastk (pc := 57) (o := 294) (n := 6) C (by decide) (fun _ _ _ => rfl) (by decide +kernel) rfl ?_
    refine zs_aload_n (pc := 58) (k := 0) (i := 0) C (by decide +kernel) rfl rfl ?_
    refine zs_getR (o' := 294) (pc := 59) (i := 33) (ci := 12) (k := 20) C (by decide +kernel) fl_RX12_33 rfl rfl rfl ?_
    refine zs_iconst (pc := 62) (n := 3) (x := 3) C (by decide +kernel) (by decide +kernel) ?_
    refine zs_iload_n (pc := 63) (k := 3) (i := 3) C (by decide +kernel) rfl rfl ?_
    refine zs_bipush (pc := 64) (n := 24) (x := 24) C (by decide +kernel) (by decide +kernel) ?_
    refine zs_irem (pc := 66) C (by decide +kernel) (by decide +kernel) ?_
    refine zs_iastk (pc := 67) (o := 294) (n := 6) C (by decide) (fun _ _ _ => rfl) (by decide +kernel) rfl ?_
    refine zs_aload_n (pc := 68) (k := 0) (i := 0) C (by decide +kernel) rfl rfl ?_
    refine zs_getR (o' := 294) (pc := 69) (i := 33) (ci := 12) (k := 20) C (by decide +kernel) fl_RX12_33 rfl rfl rfl ?_
    refine zs_iconst (pc := 72) (n := 4) (x := 4) C (by decide +kernel) (by decide +kernel) ?_
    refine zs_iload_n (pc := 73) (k := 1) (i := 1) C (by decide +kernel) rfl rfl ?_
    refine zs_iastk (pc := 74) (o := 294) (n := 6) C (by decide) (fun _ _ _ => rfl) (by decide +kernel) rfl ?_
    refine zs_iconst (pc := 75) (n := 0) (x := 0) C (by decide +kernel) (by decide +kernel) ?_
    refine zs_bipush (pc := 76) (n := 99) (x := 99) C (by decide +kernel) (by decide +kernel) ?_
    refine zs_aload_n (pc := 78) (k := 0) (i := 0) C (by decide +kernel) rfl rfl ?_
    refine zs_iconst (pc := 79) (n := 5) (x := 5) C (by decide +kernel) (by decide +kernel) ?_
    refine zs_sipush (pc := 80) (n := 197) (x := 197) C (by decide +kernel) (by decide +kernel) ?_
    refine zs_cvWi (pc := 83) (As := [sI 5, sI 197]) (st := [sI 99, sI 0]) C (fun _ _ _ => rfl) rfl (c_X12_lawOf l g 5 197) ml_RX12_325 rfl rfl rfl rfl (Nat.le_of_ble_eq_true rfl) ⟨Nat.le_of_ble_eq_true rfl, Nat.le_of_ble_eq_true rfl⟩ ⟨Nat.le_of_ble_eq_true rfl, Nat.le_of_ble_eq_true rfl⟩ (by decide +kernel) (fun x4 => ?_)
    refine zs_mmin (pc := 86) (idx := 328) C wf_2132 wf_717 wf_166 wf_718 ⟨Nat.le_of_ble_eq_true rfl, Nat.le_of_ble_eq_true rfl, Nat.le_of_ble_eq_true rfl, Nat.le_of_ble_eq_true rfl⟩ (by decide +kernel) ?_
    refine zs_mmax (pc := 89) (idx := 320) C wf_2111 wf_702 wf_166 wf_703 ⟨Nat.le_of_ble_eq_true rfl, Nat.le_of_ble_eq_true rfl, Nat.le_of_ble_eq_true rfl, Nat.le_of_ble_eq_true rfl⟩ (by decide +kernel) ?_
    exact zs_retWi (pc := 92) C hr ⟨Nat.le_of_ble_eq_true rfl, Nat.le_of_ble_eq_true rfl⟩ (by decide +kernel)
  · refine zs_iconst (pc := 9) (n := 0) (x := 0) C (by decide +kernel) (by decide +kernel) ?_
    refine zs_iload_n (pc := 10) (k := 2) (i := 2) C (by decide +kernel) rfl rfl ?_
    refine zs_aload_n (pc := 11) (k := 0) (i := 0) C (by decide +kernel) rfl rfl ?_
    refine zs_getR (o' := 288) (pc := 12) (i := 9) (ci := 12) (k := 0) C (by decide +kernel) fl_RX12_9 rfl rfl rfl ?_
    refine zs_bipush (pc := 15) (n := 9) (x := 9) C (by decide +kernel) (by decide +kernel) ?_
    refine zs_iload_n (pc := 17) (k := 1) (i := 1) C (by decide +kernel) rfl rfl ?_
    refine zs_iadd (pc := 18) C (by decide +kernel) ?_
    refine zs_iald (pc := 19) (o := 288) (n := 2005) C (by decide +kernel) rfl (fun hinx5 x5 => ?_)
    refine zs_isub (pc := 20) C (by decide +kernel) ?_
    refine zs_mmax (pc := 21) (idx := 320) C wf_2111 wf_702 wf_166 wf_703 ⟨Nat.le_of_ble_eq_true rfl, Nat.le_of_ble_eq_true rfl, Nat.le_of_ble_eq_true rfl, Nat.le_of_ble_eq_true rfl⟩ (by decide +kernel) ?_
    exact zs_retWi (pc := 24) C hr ⟨Nat.le_of_ble_eq_true rfl, Nat.le_of_ble_eq_true rfl⟩ (by decide +kernel)
set_option maxRecDepth 20000 in
theorem c_X12_lengthNow (l : Launch) (g : GC) (a0 : Int) : ConW l g yX12_lengthNow cX12_lengthNow 2 (some .int) (rmd 5 0 0) [sR 287, sI a0] (fun mm => fX12_lengthNow a0 mm) := by
  refine zs_ofW (by decide +kernel) (Nat.le_of_ble_eq_true rfl) ?_
  intro p e s m args below meth c C hr
  replace C : Bd g RX12 cX12_lengthNow 2 p s m args meth c := C
  unfold fX12_lengthNow
  refine zs_aload_n (pc := 0) (k := 0) (i := 0) C (by decide +kernel) rfl rfl ?_
  refine zs_iload_n (pc := 1) (k := 1) (i := 1) C (by decide +kernel) rfl rfl ?_
  refine zs_aload_n (pc := 2) (k := 0) (i := 0) C (by decide +kernel) rfl rfl ?_
  refine zs_getR (o' := 288) (pc := 3) (i := 9) (ci := 12) (k := 0) C (by decide +kernel) fl_RX12_9 rfl rfl rfl ?_
  refine zs_bipush (pc := 6) (n := 25) (x := 25) C (by decide +kernel) (by decide +kernel) ?_
  refine zs_iload_n (pc := 8) (k := 1) (i := 1) C (by decide +kernel) rfl rfl ?_
  refine zs_iadd (pc := 9) C (by decide +kernel) ?_
  refine zs_iald (pc := 10) (o := 288) (n := 2005) C (by decide +kernel) rfl (fun hinx1 x1 => ?_)
  refine zs_aload_n (pc := 11) (k := 0) (i := 0) C (by decide +kernel) rfl rfl ?_
  refine zs_getR (o' := 288) (pc := 12) (i := 9) (ci := 12) (k := 0) C (by decide +kernel) fl_RX12_9 rfl rfl rfl ?_
  refine zs_bipush (pc := 15) (n := 24) (x := 24) C (by decide +kernel) (by decide +kernel) ?_
  refine zs_ialdk (pc := 17) (o := 288) (n := 2005) C (by decide) (by decide +kernel) rfl (fun x2 => ?_)
  refine zs_cvWi (pc := 18) (As := [sI a0, sI x1, sI x2]) (st := []) C (fun _ _ _ => rfl) rfl (c_X12_lengthIn l g a0 x1 x2) ml_RX12_330 rfl rfl rfl rfl (Nat.le_of_ble_eq_true rfl) ⟨Nat.le_of_ble_eq_true rfl, Nat.le_of_ble_eq_true rfl⟩ ⟨Nat.le_of_ble_eq_true rfl, Nat.le_of_ble_eq_true rfl⟩ (by decide +kernel) (fun x3 => ?_)
  exact zs_retWi (pc := 21) C hr ⟨Nat.le_of_ble_eq_true rfl, Nat.le_of_ble_eq_true rfl⟩ (by decide +kernel)
set_option maxRecDepth 20000 in
theorem c_X12_mayGo (l : Launch) (g : GC) (a0 : Int) (a1 : Int) (a2 : Int) (a3 : Int) : ConW l g yX12_mayGo cX12_mayGo 5 (some .boolean) (rmd 4 0 0) [sR 287, sI a0, sI a1, sI a2, sI a3] (fun mm => fX12_mayGo a0 a1 a2 a3 mm) := by
  refine zs_ofW (by decide +kernel) (Nat.le_of_ble_eq_true rfl) ?_
  intro p e s m args below meth c C hr
  replace C : Bd g RX12 cX12_mayGo 5 p s m args meth c := C
  unfold fX12_mayGo
  refine zs_aload_n (pc := 0) (k := 0) (i := 0) C (by decide +kernel) rfl rfl ?_
  refine zs_getR (o' := 288) (pc := 1) (i := 9) (ci := 12) (k := 0) C (by decide +kernel) fl_RX12_9 rfl rfl rfl ?_
  refine zs_bipush (pc := 4) (n := 6) (x := 6) C (by decide +kernel) (by decide +kernel) ?_
  refine zs_ialdk (pc := 6) (o := 288) (n := 2005) C (by decide) (by decide +kernel) rfl (fun x1 => ?_)
  refine zs_if_ne (pc := 7) (off := 5) (tgt := 12) C (by decide +kernel) (by decide) ?_ ?_
  · refine zs_aload_n (pc := 12) (k := 0) (i := 0) C (by decide +kernel) rfl rfl ?_
    refine zs_getR (o' := 294) (pc := 13) (i := 33) (ci := 12) (k := 20) C (by decide +kernel) fl_RX12_33 rfl rfl rfl ?_
    refine zs_iconst (pc := 16) (n := 0) (x := 0) C (by decide +kernel) (by decide +kernel) ?_
    refine zs_iload_n (pc := 17) (k := 3) (i := 3) C (by decide +kernel) rfl rfl ?_
    refine zs_aload_n (pc := 18) (k := 0) (i := 0) C (by decide +kernel) rfl rfl ?_
    refine zs_getR (o' := 288) (pc := 19) (i := 9) (ci := 12) (k := 0) C (by decide +kernel) fl_RX12_9 rfl rfl rfl ?_
    refine zs_iconst (pc := 22) (n := 1) (x := 1) C (by decide +kernel) (by decide +kernel) ?_
    refine zs_ialdk (pc := 23) (o := 288) (n := 2005) C (by decide) (by decide +kernel) rfl (fun x2 => ?_)
    refine zs_chk (fun _ hy => ?_)
    refine zs_irem (pc := 24) C hy (by decide +kernel) ?_
    refine zs_iastk (pc := 25) (o := 294) (n := 6) C (by decide) (fun _ _ _ => rfl) (by decide +kernel) rfl ?_
    refine zs_aload_n (pc := 26) (k := 0) (i := 0) C (by decide +kernel) rfl rfl ?_
    refine zs_getR (o' := 294) (pc := 27) (i := 33) (ci := 12) (k := 20) C (by decide +kernel) fl_RX12_33 rfl rfl rfl ?_
    refine zs_iconst (pc := 30) (n := 1) (x := 1) C (by decide +kernel) (by decide +kernel) ?_
    refine zs_iload_n (pc := 31) (k := 3) (i := 3) C (by decide +kernel) rfl rfl ?_
    refine zs_aload_n (pc := 32) (k := 0) (i := 0) C (by decide +kernel) rfl rfl ?_
    refine zs_getR (o' := 288) (pc := 33) (i := 9) (ci := 12) (k := 0) C (by decide +kernel) fl_RX12_9 rfl rfl rfl ?_
    refine zs_iconst (pc := 36) (n := 1) (x := 1) C (by decide +kernel) (by decide +kernel) ?_
    refine zs_ialdk (pc := 37) (o := 288) (n := 2005) C (by decide) (by decide +kernel) rfl (fun x3 => ?_)
    refine zs_chk (fun _ hy => ?_)
    refine zs_idiv (pc := 38) C hy (by decide +kernel) ?_
    refine zs_iastk (pc := 39) (o := 294) (n := 6) C (by decide) (fun _ _ _ => rfl) (by decide +kernel) rfl ?_
    refine zs_aload_n (pc := 40) (k := 0) (i := 0) C (by decide +kernel) rfl rfl ?_
    refine zs_getR (o' := 294) (pc := 41) (i := 33) (ci := 12) (k := 20) C (by decide +kernel) fl_RX12_33 rfl rfl rfl ?_
    refine zs_iconst (pc := 44) (n := 2) (x := 2) C (by decide +kernel) (by decide +kernel) ?_
    refine zs_iload_n (pc := 45) (k := 2) (i := 2) C (by decide +kernel) rfl rfl ?_
    refine zs_iastk (pc := 46) (o := 294) (n := 6) C (by decide) (fun _ _ _ => rfl) (by decide +kernel) rfl ?_
    refine zs_aload_n (pc := 47) (k := 0) (i := 0) C (by decide +kernel) rfl rfl ?_
    refine zs_getR (o' := 294) (pc := 48) (i := 33) (ci := 12) (k := 20) C (by decide +kernel) fl_RX12_33 rfl rfl rfl ?_
    refine zs_iconst (pc := 51) (n := 3) (x := 3) C (by decide +kernel) (by decide +kernel) ?_
    refine zs_iload_n (pc := 52) (k := 1) (i := 1) C (by decide +kernel) rfl rfl ?_
    refine zs_iastk (pc := 53) (o := 294) (n := 6) C (by decide) (fun _ _ _ => rfl) (by decide +kernel) rfl ?_
    refine zs_aload_n (pc := 54) (k := 0) (i := 0) C (by decide +kernel) rfl rfl ?_
    refine zs_getR (o' := 294) (pc := 55) (i := 33) (ci := 12) (k := 20) C (by decide +kernel) fl_RX12_33 rfl rfl rfl ?_
    refine zs_iconst (pc := 58) (n := 4) (x := 4) C (by decide +kernel) (by decide +kernel) ?_
    refine zs_aload_n (pc := 59) (k := 0) (i := 0) C (by decide +kernel) rfl rfl ?_
    refine zs_iload (pc := 60) (i := 4) C (by decide +kernel) rfl ?_
    refine zs_cvRi (pc := 62) (As := [sI a3]) (st := [sI 4, sR 294]) C rfl (c_X12_rainIn l g a3) ml_RX12_322 rfl rfl rfl rfl (Nat.le_of_ble_eq_true rfl) ⟨Nat.le_of_ble_eq_true rfl, Nat.le_of_ble_eq_true rfl⟩ ⟨Nat.le_of_ble_eq_true rfl, Nat.le_of_ble_eq_true rfl⟩ (by decide +kernel) (fun x4 => ?_)
    refine zs_iastk (pc := 65) (o := 294) (n := 6) C (by decide) (fun _ _ _ => rfl) (by decide +kernel) rfl ?_
    refine zs_aload_n (pc := 66) (k := 0) (i := 0) C (by decide +kernel) rfl rfl ?_
    refine zs_getR (o' := 294) (pc := 67) (i := 33) (ci := 12) (k := 20) C (by decide +kernel) fl_RX12_33 rfl rfl rfl ?_
    refine zs_iconst (pc := 70) (n := 5) (x := 5) C (by decide +kernel) (by decide +kernel) ?_
    refine zs_iload (pc := 71) (i := 4) C (by decide +kernel) rfl ?_
    refine zs_bipush (pc := 73) (n := 24) (x := 24) C (by decide +kernel) (by decide +kernel) ?_
    refine zs_irem (pc := 75) C (by decide +kernel) (by decide +kernel) ?_
    refine zs_iastk (pc := 76) (o := 294) (n := 6) C (by decide) (fun _ _ _ => rfl) (by decide +kernel) rfl ?_
    refine zs_aload_n (pc := 77) (k := 0) (i := 0) C (by decide +kernel) rfl rfl ?_
    refine zs_bipush (pc := 78) (n := 6) (x := 6) C (by decide +kernel) (by decide +kernel) ?_
    refine zs_sipush (pc := 80) (n := 1097) (x := 1097) C (by decide +kernel) (by decide +kernel) ?_
    refine zs_cvWi (pc := 83) (As := [sI 6, sI 1097]) (st := []) C (fun _ _ _ => rfl) rfl (c_X12_lawOf l g 6 1097) ml_RX12_325 rfl rfl rfl rfl (Nat.le_of_ble_eq_true rfl) ⟨Nat.le_of_ble_eq_true rfl, Nat.le_of_ble_eq_true rfl⟩ ⟨Nat.le_of_ble_eq_true rfl, Nat.le_of_ble_eq_true rfl⟩ (by decide +kernel) (fun x5 => ?_)
    refine zs_iconst (pc := 86) (n := 1) (x := 1) C (by decide +kernel) (by decide +kernel) ?_
    refine zs_jn (pJ := 95) (kJ := 0) (sJ := 0) (fun t6 => []) (fun t6 => [sI t6]) (fun t6 => ?_) (fun J7 hJ7 => ?_)
    · refine zs_chk (fun _ hx => ?_)
      exact zs_retWz (pc := 95) C hx hr ⟨Nat.le_of_ble_eq_true rfl, Nat.le_of_ble_eq_true rfl⟩ (by decide +kernel)
    · refine zs_icmp_ne (pc := 87) (off := 7) (tgt := 94) C (by decide +kernel) (by decide) ?_ ?_
      · refine zs_iconst (pc := 94) (n := 0) (x := 0) C (by decide +kernel) (by decide +kernel) ?_
        exact zs_goj (hJ7 0) trivial
      · refine zs_iconst (pc := 90) (n := 1) (x := 1) C (by decide +kernel) (by decide +kernel) ?_
        refine zs_goto (pc := 91) (off := 4) (tgt := 95) C (by decide +kernel) (by decide) ?_
        exact zs_goj (hJ7 1) trivial
  · refine zs_iconst (pc := 10) (n := 1) (x := 1) C (by decide +kernel) (by decide +kernel) ?_
    exact zs_retWz (pc := 11) C (by decide) hr ⟨Nat.le_of_ble_eq_true rfl, Nat.le_of_ble_eq_true rfl⟩ (by decide +kernel)
set_option maxRecDepth 20000 in
theorem c_X12_turned (l : Launch) (g : GC) (a0 : Int) (a1 : Int) : ConR l g yX12_turned cX12_turned 5 (some .int) (rmd 2 0 0) [sR 287, sI a0, sI a1] (fun mm => fX12_turned a0 a1 mm) := by
  refine zs_ofR (by decide +kernel) (Nat.le_of_ble_eq_true rfl) ?_
  intro p e s m args below meth c C hr
  replace C : Bd g RX12 cX12_turned 5 p s m args meth c := C
  unfold fX12_turned
  refine zs_iload_n (pc := 0) (k := 1) (i := 1) C (by decide +kernel) rfl rfl ?_
  refine zs_aload_n (pc := 1) (k := 0) (i := 0) C (by decide +kernel) rfl rfl ?_
  refine zs_getR (o' := 288) (pc := 2) (i := 9) (ci := 12) (k := 0) C (by decide +kernel) fl_RX12_9 rfl rfl rfl ?_
  refine zs_iconst (pc := 5) (n := 1) (x := 1) C (by decide +kernel) (by decide +kernel) ?_
  refine zs_ialdk (pc := 6) (o := 288) (n := 2005) C (by decide) (by decide +kernel) rfl (fun x1 => ?_)
  refine zs_chk (fun _ hy => ?_)
  refine zs_irem (pc := 7) C hy (by decide +kernel) ?_
  refine zs_iload_n (pc := 8) (k := 2) (i := 2) C (by decide +kernel) rfl rfl ?_
  refine zs_iconst (pc := 9) (n := 2) (x := 2) C (by decide +kernel) (by decide +kernel) ?_
  refine zs_jn (pJ := 27) (kJ := 0) (sJ := 0) (fun t2 => [(0, sR 287), (1, sI a0), (2, sI a1)]) (fun t2 => [sI t2, sI (Int.tmod a0 x1)]) (fun t2 => ?_) (fun J3 hJ3 => ?_)
  · refine zs_iadd (pc := 27) C (by decide +kernel) ?_
    refine zs_let (fun x4 => ?_)
    refine zs_istore_n (pc := 28) (k := 3) (i := 3) (ls' := [(3, sI x4), (0, sR 287), (1, sI a0), (2, sI a1)]) C (by decide +kernel) rfl (Nat.le_of_ble_eq_true rfl) rfl ?_
    refine zs_iload_n (pc := 29) (k := 1) (i := 1) C (by decide +kernel) rfl rfl ?_
    refine zs_aload_n (pc := 30) (k := 0) (i := 0) C (by decide +kernel) rfl rfl ?_
    refine zs_getR (o' := 288) (pc := 31) (i := 9) (ci := 12) (k := 0) C (by decide +kernel) fl_RX12_9 rfl rfl rfl ?_
    refine zs_iconst (pc := 34) (n := 1) (x := 1) C (by decide +kernel) (by decide +kernel) ?_
    refine zs_ialdk (pc := 35) (o := 288) (n := 2005) C (by decide) (by decide +kernel) rfl (fun x5 => ?_)
    refine zs_chk (fun _ hy => ?_)
    refine zs_idiv (pc := 36) C hy (by decide +kernel) ?_
    refine zs_iload_n (pc := 37) (k := 2) (i := 2) C (by decide +kernel) rfl rfl ?_
    refine zs_iconst (pc := 38) (n := 3) (x := 3) C (by decide +kernel) (by decide +kernel) ?_
    refine zs_jn (pJ := 56) (kJ := 0) (sJ := 0) (fun t6 => [(0, sR 287), (3, sI x4)]) (fun t6 => [sI t6, sI (Int.tdiv a0 x5)]) (fun t6 => ?_) (fun J7 hJ7 => ?_)
    · refine zs_iadd (pc := 56) C (by decide +kernel) ?_
      refine zs_let (fun x8 => ?_)
      refine zs_istore (pc := 57) (i := 4) (ls' := [(4, sI x8), (0, sR 287), (3, sI x4)]) C (by decide +kernel) (Nat.le_of_ble_eq_true rfl) rfl ?_
      refine zs_iload_n (pc := 59) (k := 3) (i := 3) C (by decide +kernel) rfl rfl ?_
      refine zs_i2l (pc := 60) C (by decide +kernel) ?_
      refine zs_lconst (pc := 61) (n := 0) (x := 0) C (by decide +kernel) (by decide +kernel) ?_
      refine zs_aload_n (pc := 62) (k := 0) (i := 0) C (by decide +kernel) rfl rfl ?_
      refine zs_getR (o' := 288) (pc := 63) (i := 9) (ci := 12) (k := 0) C (by decide +kernel) fl_RX12_9 rfl rfl rfl ?_
      refine zs_iconst (pc := 66) (n := 1) (x := 1) C (by decide +kernel) (by decide +kernel) ?_
      refine zs_ialdk (pc := 67) (o := 288) (n := 2005) C (by decide) (by decide +kernel) rfl (fun x9 => ?_)
      refine zs_iconst (pc := 68) (n := 1) (x := 1) C (by decide +kernel) (by decide +kernel) ?_
      refine zs_isub (pc := 69) C (by decide +kernel) ?_
      refine zs_i2l (pc := 70) C (by decide +kernel) ?_
      refine zs_csRi (pc := 71) (As := [sL x4, sL 0, sL (w32 (x9 - 1))]) (st := []) C rfl (c_X12_within l g x4 0 (w32 (x9 - 1))) ml_RX12_149 rfl rfl (Nat.le_of_ble_eq_true rfl) ⟨Nat.le_of_ble_eq_true rfl, Nat.le_of_ble_eq_true rfl⟩ ⟨Nat.le_of_ble_eq_true rfl, Nat.le_of_ble_eq_true rfl⟩ (by decide +kernel) (fun x10 => ?_)
      refine zs_jn (pJ := 111) (kJ := 0) (sJ := 0) (fun t11 => []) (fun t11 => [sI t11]) (fun t11 => ?_) (fun J12 hJ12 => ?_)
      · exact zs_retRi (pc := 111) C hr ⟨Nat.le_of_ble_eq_true rfl, Nat.le_of_ble_eq_true rfl⟩ (by decide +kernel)
      · refine zs_jn (pJ := 110) (kJ := 0) (sJ := 0) (fun t13 => []) (fun t13 => []) (fun t13 => ?_) (fun J14 hJ14 => ?_)
        · refine zs_iconst (pc := 110) (n := (-1)) (x := (-1)) C (by decide +kernel) (by decide +kernel) ?_
          exact zs_goj (hJ12 (-1)) trivial
        · refine zs_if_eq (pc := 74) (off := 36) (tgt := 110) C (by decide +kernel) (by decide) ?_ ?_
          · exact zs_goj (hJ14 ()) trivial
          · refine zs_iload (pc := 77) (i := 4) C (by decide +kernel) rfl ?_
            refine zs_i2l (pc := 79) C (by decide +kernel) ?_
            refine zs_lconst (pc := 80) (n := 0) (x := 0) C (by decide +kernel) (by decide +kernel) ?_
            refine zs_aload_n (pc := 81) (k := 0) (i := 0) C (by decide +kernel) rfl rfl ?_
            refine zs_getR (o' := 288) (pc := 82) (i := 9) (ci := 12) (k := 0) C (by decide +kernel) fl_RX12_9 rfl rfl rfl ?_
            refine zs_iconst (pc := 85) (n := 2) (x := 2) C (by decide +kernel) (by decide +kernel) ?_
            refine zs_ialdk (pc := 86) (o := 288) (n := 2005) C (by decide) (by decide +kernel) rfl (fun x15 => ?_)
            refine zs_iconst (pc := 87) (n := 1) (x := 1) C (by decide +kernel) (by decide +kernel) ?_
            refine zs_isub (pc := 88) C (by decide +kernel) ?_
            refine zs_i2l (pc := 89) C (by decide +kernel) ?_
            refine zs_csRi (pc := 90) (As := [sL x8, sL 0, sL (w32 (x15 - 1))]) (st := []) C rfl (c_X12_within l g x8 0 (w32 (x15 - 1))) ml_RX12_149 rfl rfl (Nat.le_of_ble_eq_true rfl) ⟨Nat.le_of_ble_eq_true rfl, Nat.le_of_ble_eq_true rfl⟩ ⟨Nat.le_of_ble_eq_true rfl, Nat.le_of_ble_eq_true rfl⟩ (by decide +kernel) (fun x16 => ?_)
            refine zs_if_eq (pc := 93) (off := 17) (tgt := 110) C (by decide +kernel) (by decide) ?_ ?_
            · exact zs_goj (hJ14 ()) trivial
            · refine zs_aload_n (pc := 96) (k := 0) (i := 0) C (by decide +kernel) rfl rfl ?_
              refine zs_getR (o' := 288) (pc := 97) (i := 9) (ci := 12) (k := 0) C (by decide +kernel) fl_RX12_9 rfl rfl rfl ?_
              refine zs_iconst (pc := 100) (n := 1) (x := 1) C (by decide +kernel) (by decide +kernel) ?_
              refine zs_ialdk (pc := 101) (o := 288) (n := 2005) C (by decide) (by decide +kernel) rfl (fun x17 => ?_)
              refine zs_iload (pc := 102) (i := 4) C (by decide +kernel) rfl ?_
              refine zs_imul (pc := 104) C (by decide +kernel) ?_
              refine zs_iload_n (pc := 105) (k := 3) (i := 3) C (by decide +kernel) rfl rfl ?_
              refine zs_iadd (pc := 106) C (by decide +kernel) ?_
              refine zs_goto (pc := 107) (off := 4) (tgt := 111) C (by decide +kernel) (by decide) ?_
              exact zs_goj (hJ12 (w32 ((w32 (x17 * x8)) + x4))) trivial
    · refine zs_icmp_ne (pc := 39) (off := 7) (tgt := 46) C (by decide +kernel) (by decide) ?_ ?_
      · refine zs_iload_n (pc := 46) (k := 2) (i := 2) C (by decide +kernel) rfl rfl ?_
        refine zs_iconst (pc := 47) (n := 1) (x := 1) C (by decide +kernel) (by decide +kernel) ?_
        refine zs_icmp_ne (pc := 48) (off := 7) (tgt := 55) C (by decide +kernel) (by decide) ?_ ?_
        · refine zs_iconst (pc := 55) (n := 0) (x := 0) C (by decide +kernel) (by decide +kernel) ?_
          exact zs_goj (hJ7 0) ⟨rfl, rfl, trivial⟩
        · refine zs_iconst (pc := 51) (n := (-1)) (x := (-1)) C (by decide +kernel) (by decide +kernel) ?_
          refine zs_goto (pc := 52) (off := 4) (tgt := 56) C (by decide +kernel) (by decide) ?_
          exact zs_goj (hJ7 (-1)) ⟨rfl, rfl, trivial⟩
      · refine zs_iconst (pc := 42) (n := 1) (x := 1) C (by decide +kernel) (by decide +kernel) ?_
        refine zs_goto (pc := 43) (off := 13) (tgt := 56) C (by decide +kernel) (by decide) ?_
        exact zs_goj (hJ7 1) ⟨rfl, rfl, trivial⟩
  · refine zs_icmp_ne (pc := 10) (off := 7) (tgt := 17) C (by decide +kernel) (by decide) ?_ ?_
    · refine zs_iload_n (pc := 17) (k := 2) (i := 2) C (by decide +kernel) rfl rfl ?_
      refine zs_iconst (pc := 18) (n := 4) (x := 4) C (by decide +kernel) (by decide +kernel) ?_
      refine zs_icmp_ne (pc := 19) (off := 7) (tgt := 26) C (by decide +kernel) (by decide) ?_ ?_
      · refine zs_iconst (pc := 26) (n := 0) (x := 0) C (by decide +kernel) (by decide +kernel) ?_
        exact zs_goj (hJ3 0) ⟨rfl, rfl, rfl, trivial⟩
      · refine zs_iconst (pc := 22) (n := (-1)) (x := (-1)) C (by decide +kernel) (by decide +kernel) ?_
        refine zs_goto (pc := 23) (off := 4) (tgt := 27) C (by decide +kernel) (by decide) ?_
        exact zs_goj (hJ3 (-1)) ⟨rfl, rfl, rfl, trivial⟩
    · refine zs_iconst (pc := 13) (n := 1) (x := 1) C (by decide +kernel) (by decide +kernel) ?_
      refine zs_goto (pc := 14) (off := 13) (tgt := 27) C (by decide +kernel) (by decide) ?_
      exact zs_goj (hJ3 1) ⟨rfl, rfl, rfl, trivial⟩
set_option maxRecDepth 20000 in
theorem c_X12_place (l : Launch) (g : GC) (a0 : Int) : ConW l g yX12_place cX12_place 4 (some .int) (rmd 3 0 0) [sR 287, sI a0] (fun mm => fX12_place a0 mm) := by
  refine zs_ofW (by decide +kernel) (Nat.le_of_ble_eq_true rfl) ?_
  intro p e s m args below meth c C hr
  replace C : Bd g RX12 cX12_place 4 p s m args meth c := C
  unfold fX12_place
  refine zs_aload_n (pc := 0) (k := 0) (i := 0) C (by decide +kernel) rfl rfl ?_
  refine zs_iconst (pc := 1) (n := 0) (x := 0) C (by decide +kernel) (by decide +kernel) ?_
  refine zs_putI (pc := 2) (i := 88) (ci := 12) (k := 4) C (fun _ _ _ => rfl) (by decide +kernel) fl_RX12_88 fw_12_4 rfl rfl ?_
  refine zs_aload_n (pc := 5) (k := 0) (i := 0) C (by decide +kernel) rfl rfl ?_
  refine zs_iload_n (pc := 6) (k := 1) (i := 1) C (by decide +kernel) rfl rfl ?_
  refine zs_i2l (pc := 7) C (by decide +kernel) ?_
  refine zs_cvRi (pc := 8) (As := [sL a0]) (st := []) C rfl (c_X12_isPlace l g a0) ml_RX12_334 rfl rfl rfl rfl (Nat.le_of_ble_eq_true rfl) ⟨Nat.le_of_ble_eq_true rfl, Nat.le_of_ble_eq_true rfl⟩ ⟨Nat.le_of_ble_eq_true rfl, Nat.le_of_ble_eq_true rfl⟩ (by decide +kernel) (fun x1 => ?_)
  refine zs_if_ne (pc := 11) (off := 9) (tgt := 20) C (by decide +kernel) (by decide) ?_ ?_
  · refine zs_aload_n (pc := 20) (k := 0) (i := 0) C (by decide +kernel) rfl rfl ?_
    refine zs_getR (o' := 288) (pc := 21) (i := 9) (ci := 12) (k := 0) C (by decide +kernel) fl_RX12_9 rfl rfl rfl ?_
    refine zs_bipush (pc := 24) (n := 8) (x := 8) C (by decide +kernel) (by decide +kernel) ?_
    refine zs_ialdk (pc := 26) (o := 288) (n := 2005) C (by decide) (by decide +kernel) rfl (fun x2 => ?_)
    refine zs_iload_n (pc := 27) (k := 1) (i := 1) C (by decide +kernel) rfl rfl ?_
    refine zs_csRi (pc := 28) (As := [sI x2, sI a0]) (st := []) C rfl (c_X12_has l g x2 a0) ml_RX12_230 rfl rfl (Nat.le_of_ble_eq_true rfl) ⟨Nat.le_of_ble_eq_true rfl, Nat.le_of_ble_eq_true rfl⟩ ⟨Nat.le_of_ble_eq_true rfl, Nat.le_of_ble_eq_true rfl⟩ (by decide +kernel) (fun x3 => ?_)
    refine zs_if_eq (pc := 31) (off := 6) (tgt := 37) C (by decide +kernel) (by decide) ?_ ?_
    · refine zs_iconst (pc := 37) (n := 0) (x := 0) C (by decide +kernel) (by decide +kernel) ?_
      refine zs_istore_n (pc := 38) (k := 2) (i := 2) (ls' := [(2, sI 0), (0, sR 287), (1, sI a0)]) C (by decide +kernel) rfl (Nat.le_of_ble_eq_true rfl) rfl ?_
      refine zs_iconst (pc := 39) (n := 0) (x := 0) C (by decide +kernel) (by decide +kernel) ?_
      refine zs_istore_n (pc := 40) (k := 3) (i := 3) (ls' := [(3, sI 0), (2, sI 0), (0, sR 287), (1, sI a0)]) C (by decide +kernel) rfl (Nat.le_of_ble_eq_true rfl) rfl ?_
      refine zs_sub (ls' := [(0, sR 287), (1, sI a0), (2, sI 0), (3, sI 0)]) ⟨rfl, rfl, rfl, rfl, trivial⟩ ?_
      refine zs_lp (pc := 41) (fun (t4 : Int × Int) => [(0, sR 287), (1, sI a0), (2, sI t4.1), (3, sI t4.2)]) (fun _ => []) (fun K5 hK5 t4 => ?_) BIG (0, 0)
      refine zs_iload_n (pc := 41) (k := 3) (i := 3) C (by decide +kernel) rfl rfl ?_
      refine zs_aload_n (pc := 42) (k := 0) (i := 0) C (by decide +kernel) rfl rfl ?_
      refine zs_getR (o' := 288) (pc := 43) (i := 9) (ci := 12) (k := 0) C (by decide +kernel) fl_RX12_9 rfl rfl rfl ?_
      refine zs_iconst (pc := 46) (n := 3) (x := 3) C (by decide +kernel) (by decide +kernel) ?_
      refine zs_ialdk (pc := 47) (o := 288) (n := 2005) C (by decide) (by decide +kernel) rfl (fun x6 => ?_)
      refine zs_icmp_ge (pc := 48) (off := 51) (tgt := 99) C (by decide +kernel) (by decide) ?_ ?_
      · refine zs_iconst (pc := 99) (n := 0) (x := 0) C (by decide +kernel) (by decide +kernel) ?_
        refine zs_istore_n (pc := 100) (k := 3) (i := 3) (ls' := [(3, sI 0), (0, sR 287), (1, sI a0), (2, sI t4.1)]) C (by decide +kernel) rfl (Nat.le_of_ble_eq_true rfl) rfl ?_
        refine zs_sub (ls' := [(0, sR 287), (1, sI a0), (2, sI t4.1), (3, sI 0)]) ⟨rfl, rfl, rfl, rfl, trivial⟩ ?_
        refine zs_lp (pc := 101) (fun (t7 : Int × Int) => [(0, sR 287), (1, sI a0), (2, sI t7.1), (3, sI t7.2)]) (fun _ => []) (fun K8 hK8 t7 => ?_) BIG (t4.1, 0)
        refine zs_iload_n (pc := 101) (k := 3) (i := 3) C (by decide +kernel) rfl rfl ?_
        refine zs_aload_n (pc := 102) (k := 0) (i := 0) C (by decide +kernel) rfl rfl ?_
        refine zs_getR (o' := 288) (pc := 103) (i := 9) (ci := 12) (k := 0) C (by decide +kernel) fl_RX12_9 rfl rfl rfl ?_
        refine zs_iconst (pc := 106) (n := 4) (x := 4) C (by decide +kernel) (by decide +kernel) ?_
        refine zs_ialdk (pc := 107) (o := 288) (n := 2005) C (by decide) (by decide +kernel) rfl (fun x9 => ?_)
        refine zs_icmp_ge (pc := 108) (off := 30) (tgt := 138) C (by decide +kernel) (by decide) ?_ ?_
        · refine zs_iload_n (pc := 138) (k := 2) (i := 2) C (by decide +kernel) rfl rfl ?_
          exact zs_retWi (pc := 139) C hr ⟨Nat.le_of_ble_eq_true rfl, Nat.le_of_ble_eq_true rfl⟩ (by decide +kernel)
        · refine zs_iload_n (pc := 111) (k := 2) (i := 2) C (by decide +kernel) rfl rfl ?_
          refine zs_aload_n (pc := 112) (k := 0) (i := 0) C (by decide +kernel) rfl rfl ?_
          refine zs_getR (o' := 288) (pc := 113) (i := 9) (ci := 12) (k := 0) C (by decide +kernel) fl_RX12_9 rfl rfl rfl ?_
          refine zs_bipush (pc := 116) (n := 29) (x := 29) C (by decide +kernel) (by decide +kernel) ?_
          refine zs_iload_n (pc := 118) (k := 3) (i := 3) C (by decide +kernel) rfl rfl ?_
          refine zs_iadd (pc := 119) C (by decide +kernel) ?_
          refine zs_iald (pc := 120) (o := 288) (n := 2005) C (by decide +kernel) rfl (fun hinx10 x10 => ?_)
          refine zs_iload_n (pc := 121) (k := 1) (i := 1) C (by decide +kernel) rfl rfl ?_
          refine zs_jn (pJ := 130) (kJ := 0) (sJ := 0) (fun t11 => [(0, sR 287), (1, sI a0), (3, sI t7.2)]) (fun t11 => [sI t11, sI t7.1]) (fun t11 => ?_) (fun J12 hJ12 => ?_)
          · refine zs_iadd (pc := 130) C (by decide +kernel) ?_
            refine zs_let (fun x13 => ?_)
            refine zs_istore_n (pc := 131) (k := 2) (i := 2) (ls' := [(2, sI x13), (0, sR 287), (1, sI a0), (3, sI t7.2)]) C (by decide +kernel) rfl (Nat.le_of_ble_eq_true rfl) rfl ?_
            refine zs_iinc (pc := 132) (i := 3) (n := 1) (y := w32 (t7.2 + 1)) (ls' := [(3, sI (w32 (t7.2 + 1))), (2, sI x13), (0, sR 287), (1, sI a0)]) C (by decide +kernel) rfl rfl (Nat.le_of_ble_eq_true rfl) rfl ?_
            refine zs_goto (pc := 135) (off := (-34)) (tgt := 101) C (by decide +kernel) (by decide) ?_
            exact zs_goj (hK8 (x13, w32 (t7.2 + 1))) ⟨rfl, rfl, rfl, rfl, trivial⟩
          · refine zs_icmp_ne (pc := 122) (off := 7) (tgt := 129) C (by decide +kernel) (by decide) ?_ ?_
            · refine zs_iconst (pc := 129) (n := 0) (x := 0) C (by decide +kernel) (by decide +kernel) ?_
              exact zs_goj (hJ12 0) ⟨rfl, rfl, rfl, trivial⟩
            · refine zs_iconst (pc := 125) (n := 1) (x := 1) C (by decide +kernel) (by decide +kernel) ?_
              refine zs_goto (pc := 126) (off := 4) (tgt := 130) C (by decide +kernel) (by decide) ?_
              exact zs_goj (hJ12 1) ⟨rfl, rfl, rfl, trivial⟩
      · refine zs_iload_n (pc := 51) (k := 2) (i := 2) C (by decide +kernel) rfl rfl ?_
        refine zs_aload_n (pc := 52) (k := 0) (i := 0) C (by decide +kernel) rfl rfl ?_
        refine zs_getR (o' := 288) (pc := 53) (i := 9) (ci := 12) (k := 0) C (by decide +kernel) fl_RX12_9 rfl rfl rfl ?_
        refine zs_bipush (pc := 56) (n := 13) (x := 13) C (by decide +kernel) (by decide +kernel) ?_
        refine zs_iload_n (pc := 58) (k := 3) (i := 3) C (by decide +kernel) rfl rfl ?_
        refine zs_iadd (pc := 59) C (by decide +kernel) ?_
        refine zs_iald (pc := 60) (o := 288) (n := 2005) C (by decide +kernel) rfl (fun hinx14 x14 => ?_)
        refine zs_iload_n (pc := 61) (k := 1) (i := 1) C (by decide +kernel) rfl rfl ?_
        refine zs_jn (pJ := 71) (kJ := 0) (sJ := 0) (fun t15 => [(0, sR 287), (1, sI a0), (3, sI t4.2)]) (fun t15 => [sI t15, sI t4.1]) (fun t15 => ?_) (fun J16 hJ16 => ?_)
        · refine zs_aload_n (pc := 71) (k := 0) (i := 0) C (by decide +kernel) rfl rfl ?_
          refine zs_getR (o' := 288) (pc := 72) (i := 9) (ci := 12) (k := 0) C (by decide +kernel) fl_RX12_9 rfl rfl rfl ?_
          refine zs_bipush (pc := 75) (n := 17) (x := 17) C (by decide +kernel) (by decide +kernel) ?_
          refine zs_iload_n (pc := 77) (k := 3) (i := 3) C (by decide +kernel) rfl rfl ?_
          refine zs_iadd (pc := 78) C (by decide +kernel) ?_
          refine zs_iald (pc := 79) (o := 288) (n := 2005) C (by decide +kernel) rfl (fun hinx17 x17 => ?_)
          refine zs_iload_n (pc := 80) (k := 1) (i := 1) C (by decide +kernel) rfl rfl ?_
          refine zs_jn (pJ := 90) (kJ := 0) (sJ := 0) (fun t18 => [(0, sR 287), (1, sI a0), (3, sI t4.2)]) (fun t18 => [sI t18, sI t15, sI t4.1]) (fun t18 => ?_) (fun J19 hJ19 => ?_)
          · refine zs_iadd (pc := 90) C (by decide +kernel) ?_
            refine zs_iadd (pc := 91) C (by decide +kernel) ?_
            refine zs_let (fun x20 => ?_)
            refine zs_istore_n (pc := 92) (k := 2) (i := 2) (ls' := [(2, sI x20), (0, sR 287), (1, sI a0), (3, sI t4.2)]) C (by decide +kernel) rfl (Nat.le_of_ble_eq_true rfl) rfl ?_
            refine zs_iinc (pc := 93) (i := 3) (n := 1) (y := w32 (t4.2 + 1)) (ls' := [(3, sI (w32 (t4.2 + 1))), (2, sI x20), (0, sR 287), (1, sI a0)]) C (by decide +kernel) rfl rfl (Nat.le_of_ble_eq_true rfl) rfl ?_
            refine zs_goto (pc := 96) (off := (-55)) (tgt := 41) C (by decide +kernel) (by decide) ?_
            exact zs_goj (hK5 (x20, w32 (t4.2 + 1))) ⟨rfl, rfl, rfl, rfl, trivial⟩
          · refine zs_icmp_ne (pc := 81) (off := 8) (tgt := 89) C (by decide +kernel) (by decide) ?_ ?_
            · refine zs_iconst (pc := 89) (n := 0) (x := 0) C (by decide +kernel) (by decide +kernel) ?_
              exact zs_goj (hJ19 0) ⟨rfl, rfl, rfl, trivial⟩
            · refine zs_bipush (pc := 84) (n := 10) (x := 10) C (by decide +kernel) (by decide +kernel) ?_
              refine zs_goto (pc := 86) (off := 4) (tgt := 90) C (by decide +kernel) (by decide) ?_
              exact zs_goj (hJ19 10) ⟨rfl, rfl, rfl, trivial⟩
        · refine zs_icmp_ne (pc := 62) (off := 8) (tgt := 70) C (by decide +kernel) (by decide) ?_ ?_
          · refine zs_iconst (pc := 70) (n := 0) (x := 0) C (by decide +kernel) (by decide +kernel) ?_
            exact zs_goj (hJ16 0) ⟨rfl, rfl, rfl, trivial⟩
          · refine zs_bipush (pc := 65) (n := 10) (x := 10) C (by decide +kernel) (by decide +kernel) ?_
            refine zs_goto (pc := 67) (off := 4) (tgt := 71) C (by decide +kernel) (by decide) ?_
            exact zs_goj (hJ16 10) ⟨rfl, rfl, rfl, trivial⟩
    · refine zs_bipush (pc := 34) (n := (-2)) (x := (-2)) C (by decide +kernel) (by decide +kernel) ?_
      exact zs_retWi (pc := 36) C hr ⟨Nat.le_of_ble_eq_true rfl, Nat.le_of_ble_eq_true rfl⟩ (by decide +kernel)
  · refine zs_aload_n (pc := 14) (k := 0) (i := 0) C (by decide +kernel) rfl rfl ?_
    refine zs_iconst (pc := 15) (n := 1) (x := 1) C (by decide +kernel) (by decide +kernel) ?_
    refine zs_cvWi (pc := 16) (As := [sI 1]) (st := []) C (fun _ _ _ => rfl) rfl (c_X12_fails l g 1) ml_RX12_279 rfl rfl rfl rfl (Nat.le_of_ble_eq_true rfl) ⟨Nat.le_of_ble_eq_true rfl, Nat.le_of_ble_eq_true rfl⟩ ⟨Nat.le_of_ble_eq_true rfl, Nat.le_of_ble_eq_true rfl⟩ (by decide +kernel) (fun x21 => ?_)
    exact zs_retWi (pc := 19) C hr ⟨Nat.le_of_ble_eq_true rfl, Nat.le_of_ble_eq_true rfl⟩ (by decide +kernel)
set_option maxRecDepth 20000 in
theorem c_X12_pair (l : Launch) (g : GC) (a0 : Int) (a1 : Int) : ConW l g yX12_pair cX12_pair 3 (some .int) (rmd 6 0 0) [sR 287, sI a0, sI a1] (fun mm => fX12_pair a0 a1 mm) := by
  refine zs_ofW (by decide +kernel) (Nat.le_of_ble_eq_true rfl) ?_
  intro p e s m args below meth c C hr
  replace C : Bd g RX12 cX12_pair 3 p s m args meth c := C
  unfold fX12_pair
  refine zs_aload_n (pc := 0) (k := 0) (i := 0) C (by decide +kernel) rfl rfl ?_
  refine zs_aload_n (pc := 1) (k := 0) (i := 0) C (by decide +kernel) rfl rfl ?_
  refine zs_iload_n (pc := 2) (k := 1) (i := 1) C (by decide +kernel) rfl rfl ?_
  refine zs_i2l (pc := 3) C (by decide +kernel) ?_
  refine zs_cvRi (pc := 4) (As := [sL a0]) (st := [sR 287]) C rfl (c_X12_isPair l g a0) ml_RX12_338 rfl rfl rfl rfl (Nat.le_of_ble_eq_true rfl) ⟨Nat.le_of_ble_eq_true rfl, Nat.le_of_ble_eq_true rfl⟩ ⟨Nat.le_of_ble_eq_true rfl, Nat.le_of_ble_eq_true rfl⟩ (by decide +kernel) (fun x1 => ?_)
  refine zs_jn (pJ := 31) (kJ := 0) (sJ := 0) (fun t2 => [(0, sR 287), (1, sI a0), (2, sI a1)]) (fun t2 => [sI t2, sR 287]) (fun t2 => ?_) (fun J3 hJ3 => ?_)
  · refine zs_putI (pc := 31) (i := 88) (ci := 12) (k := 4) C (fun _ _ _ => rfl) (by decide +kernel) fl_RX12_88 fw_12_4 rfl rfl ?_
    refine zs_aload_n (pc := 34) (k := 0) (i := 0) C (by decide +kernel) rfl rfl ?_
    refine zs_getI (pc := 35) (i := 88) (ci := 12) (k := 4) C (by decide +kernel) fl_RX12_88 rfl rfl (fun x4 => ?_)
    refine zs_if_le (pc := 38) (off := 5) (tgt := 43) C (by decide +kernel) (by decide) ?_ ?_
    · refine zs_iload_n (pc := 43) (k := 2) (i := 2) C (by decide +kernel) rfl rfl ?_
      refine zs_ite (fun hc0 => ?_) (fun hc0 => ?_)
      · refine zs_tswI (pc := 44) (dflt := 92) (lo := 0) (hi := 5) (offs := #[40, 50, 60, 70, 80, 86]) (len := 40) (i := 0) (off := 40) (tgt := 84) C (by decide +kernel) hc0 (by decide) rfl (by decide) ?_
        refine zs_aload_n (pc := 84) (k := 0) (i := 0) C (by decide +kernel) rfl rfl ?_
        refine zs_getR (o' := 288) (pc := 85) (i := 9) (ci := 12) (k := 0) C (by decide +kernel) fl_RX12_9 rfl rfl rfl ?_
        refine zs_bipush (pc := 88) (n := 25) (x := 25) C (by decide +kernel) (by decide +kernel) ?_
        refine zs_iload_n (pc := 90) (k := 1) (i := 1) C (by decide +kernel) rfl rfl ?_
        refine zs_iadd (pc := 91) C (by decide +kernel) ?_
        refine zs_iald (pc := 92) (o := 288) (n := 2005) C (by decide +kernel) rfl (fun hinx5 x5 => ?_)
        exact zs_retWi (pc := 93) C hr ⟨Nat.le_of_ble_eq_true rfl, Nat.le_of_ble_eq_true rfl⟩ (by decide +kernel)
      · refine zs_ite (fun hc1 => ?_) (fun hc1 => ?_)
        · refine zs_tswI (pc := 44) (dflt := 92) (lo := 0) (hi := 5) (offs := #[40, 50, 60, 70, 80, 86]) (len := 40) (i := 1) (off := 50) (tgt := 94) C (by decide +kernel) hc1 (by decide) rfl (by decide) ?_
          refine zs_aload_n (pc := 94) (k := 0) (i := 0) C (by decide +kernel) rfl rfl ?_
          refine zs_getR (o' := 288) (pc := 95) (i := 9) (ci := 12) (k := 0) C (by decide +kernel) fl_RX12_9 rfl rfl rfl ?_
          refine zs_bipush (pc := 98) (n := 9) (x := 9) C (by decide +kernel) (by decide +kernel) ?_
          refine zs_iload_n (pc := 100) (k := 1) (i := 1) C (by decide +kernel) rfl rfl ?_
          refine zs_iadd (pc := 101) C (by decide +kernel) ?_
          refine zs_iald (pc := 102) (o := 288) (n := 2005) C (by decide +kernel) rfl (fun hinx6 x6 => ?_)
          exact zs_retWi (pc := 103) C hr ⟨Nat.le_of_ble_eq_true rfl, Nat.le_of_ble_eq_true rfl⟩ (by decide +kernel)
        · refine zs_ite (fun hc2 => ?_) (fun hc2 => ?_)
          · refine zs_tswI (pc := 44) (dflt := 92) (lo := 0) (hi := 5) (offs := #[40, 50, 60, 70, 80, 86]) (len := 40) (i := 2) (off := 60) (tgt := 104) C (by decide +kernel) hc2 (by decide) rfl (by decide) ?_
            refine zs_aload_n (pc := 104) (k := 0) (i := 0) C (by decide +kernel) rfl rfl ?_
            refine zs_getR (o' := 288) (pc := 105) (i := 9) (ci := 12) (k := 0) C (by decide +kernel) fl_RX12_9 rfl rfl rfl ?_
            refine zs_bipush (pc := 108) (n := 13) (x := 13) C (by decide +kernel) (by decide +kernel) ?_
            refine zs_iload_n (pc := 110) (k := 1) (i := 1) C (by decide +kernel) rfl rfl ?_
            refine zs_iadd (pc := 111) C (by decide +kernel) ?_
            refine zs_iald (pc := 112) (o := 288) (n := 2005) C (by decide +kernel) rfl (fun hinx7 x7 => ?_)
            exact zs_retWi (pc := 113) C hr ⟨Nat.le_of_ble_eq_true rfl, Nat.le_of_ble_eq_true rfl⟩ (by decide +kernel)
          · refine zs_ite (fun hc3 => ?_) (fun hc3 => ?_)
            · refine zs_tswI (pc := 44) (dflt := 92) (lo := 0) (hi := 5) (offs := #[40, 50, 60, 70, 80, 86]) (len := 40) (i := 3) (off := 70) (tgt := 114) C (by decide +kernel) hc3 (by decide) rfl (by decide) ?_
              refine zs_aload_n (pc := 114) (k := 0) (i := 0) C (by decide +kernel) rfl rfl ?_
              refine zs_getR (o' := 288) (pc := 115) (i := 9) (ci := 12) (k := 0) C (by decide +kernel) fl_RX12_9 rfl rfl rfl ?_
              refine zs_bipush (pc := 118) (n := 17) (x := 17) C (by decide +kernel) (by decide +kernel) ?_
              refine zs_iload_n (pc := 120) (k := 1) (i := 1) C (by decide +kernel) rfl rfl ?_
              refine zs_iadd (pc := 121) C (by decide +kernel) ?_
              refine zs_iald (pc := 122) (o := 288) (n := 2005) C (by decide +kernel) rfl (fun hinx8 x8 => ?_)
              exact zs_retWi (pc := 123) C hr ⟨Nat.le_of_ble_eq_true rfl, Nat.le_of_ble_eq_true rfl⟩ (by decide +kernel)
            · refine zs_ite (fun hc4 => ?_) (fun hc4 => ?_)
              · refine zs_tswI (pc := 44) (dflt := 92) (lo := 0) (hi := 5) (offs := #[40, 50, 60, 70, 80, 86]) (len := 40) (i := 4) (off := 80) (tgt := 124) C (by decide +kernel) hc4 (by decide) rfl (by decide) ?_
                refine zs_aload_n (pc := 124) (k := 0) (i := 0) C (by decide +kernel) rfl rfl ?_
                refine zs_iload_n (pc := 125) (k := 1) (i := 1) C (by decide +kernel) rfl rfl ?_
                refine zs_cvRi (pc := 126) (As := [sI a0]) (st := []) C rfl (c_X12_apartOf l g a0) ml_RX12_343 rfl rfl rfl rfl (Nat.le_of_ble_eq_true rfl) ⟨Nat.le_of_ble_eq_true rfl, Nat.le_of_ble_eq_true rfl⟩ ⟨Nat.le_of_ble_eq_true rfl, Nat.le_of_ble_eq_true rfl⟩ (by decide +kernel) (fun x9 => ?_)
                exact zs_retWi (pc := 129) C hr ⟨Nat.le_of_ble_eq_true rfl, Nat.le_of_ble_eq_true rfl⟩ (by decide +kernel)
              · refine zs_ite (fun hc5 => ?_) (fun hc5 => ?_)
                · refine zs_tswI (pc := 44) (dflt := 92) (lo := 0) (hi := 5) (offs := #[40, 50, 60, 70, 80, 86]) (len := 40) (i := 5) (off := 86) (tgt := 130) C (by decide +kernel) hc5 (by decide) rfl (by decide) ?_
                  refine zs_aload_n (pc := 130) (k := 0) (i := 0) C (by decide +kernel) rfl rfl ?_
                  refine zs_iload_n (pc := 131) (k := 1) (i := 1) C (by decide +kernel) rfl rfl ?_
                  refine zs_cvWi (pc := 132) (As := [sI a0]) (st := []) C (fun _ _ _ => rfl) rfl (c_X12_lengthNow l g a0) ml_RX12_346 rfl rfl rfl rfl (Nat.le_of_ble_eq_true rfl) ⟨Nat.le_of_ble_eq_true rfl, Nat.le_of_ble_eq_true rfl⟩ ⟨Nat.le_of_ble_eq_true rfl, Nat.le_of_ble_eq_true rfl⟩ (by decide +kernel) (fun x10 => ?_)
                  exact zs_retWi (pc := 135) C hr ⟨Nat.le_of_ble_eq_true rfl, Nat.le_of_ble_eq_true rfl⟩ (by decide +kernel)
                · refine zs_tswD (pc := 44) (dflt := 92) (lo := 0) (hi := 5) (offs := #[40, 50, 60, 70, 80, 86]) (len := 40) (tgt := 136) C (by decide +kernel) (by omega) (by decide) ?_
                  refine zs_aload_n (pc := 136) (k := 0) (i := 0) C (by decide +kernel) rfl rfl ?_
                  refine zs_iload_n (pc := 137) (k := 1) (i := 1) C (by decide +kernel) rfl rfl ?_
                  refine zs_cvRi (pc := 138) (As := [sI a0]) (st := []) C rfl (c_X12_isParted l g a0) ml_RX12_349 rfl rfl rfl rfl (Nat.le_of_ble_eq_true rfl) ⟨Nat.le_of_ble_eq_true rfl, Nat.le_of_ble_eq_true rfl⟩ ⟨Nat.le_of_ble_eq_true rfl, Nat.le_of_ble_eq_true rfl⟩ (by decide +kernel) (fun x11 => ?_)
                  refine zs_jn (pJ := 149) (kJ := 0) (sJ := 0) (fun t12 => []) (fun t12 => [sI t12]) (fun t12 => ?_) (fun J13 hJ13 => ?_)
                  · exact zs_retWi (pc := 149) C hr ⟨Nat.le_of_ble_eq_true rfl, Nat.le_of_ble_eq_true rfl⟩ (by decide +kernel)
                  · refine zs_if_eq (pc := 141) (off := 7) (tgt := 148) C (by decide +kernel) (by decide) ?_ ?_
                    · refine zs_iconst (pc := 148) (n := 0) (x := 0) C (by decide +kernel) (by decide +kernel) ?_
                      exact zs_goj (hJ13 0) trivial
                    · refine zs_iconst (pc := 144) (n := 1) (x := 1) C (by decide +kernel) (by decide +kernel) ?_
                      refine zs_goto (pc := 145) (off := 4) (tgt := 149) C (by decide +kernel) (by decide) ?_
                      exact zs_goj (hJ13 1) trivial
    · refine zs_iconst (pc := 41) (n := 0) (x := 0) C (by decide +kernel) (by decide +kernel) ?_
      exact zs_retWi (pc := 42) C hr ⟨Nat.le_of_ble_eq_true rfl, Nat.le_of_ble_eq_true rfl⟩ (by decide +kernel)
  · refine zs_if_ne (pc := 7) (off := 7) (tgt := 14) C (by decide +kernel) (by decide) ?_ ?_
    · refine zs_iload_n (pc := 14) (k := 2) (i := 2) C (by decide +kernel) rfl rfl ?_
      refine zs_i2l (pc := 15) C (by decide +kernel) ?_
      refine zs_lconst (pc := 16) (n := 0) (x := 0) C (by decide +kernel) (by decide +kernel) ?_
      refine zs_ldc2 (pc := 17) (i := 341) (v := 6) (x := 6) C (by decide +kernel) wf_2091 (by decide +kernel) ?_
      refine zs_csRi (pc := 20) (As := [sL a1, sL 0, sL 6]) (st := [sR 287]) C rfl (c_X12_within l g a1 0 6) ml_RX12_149 rfl rfl (Nat.le_of_ble_eq_true rfl) ⟨Nat.le_of_ble_eq_true rfl, Nat.le_of_ble_eq_true rfl⟩ ⟨Nat.le_of_ble_eq_true rfl, Nat.le_of_ble_eq_true rfl⟩ (by decide +kernel) (fun x14 => ?_)
      refine zs_if_eq (pc := 23) (off := 7) (tgt := 30) C (by decide +kernel) (by decide) ?_ ?_
      · refine zs_iconst (pc := 30) (n := 2) (x := 2) C (by decide +kernel) (by decide +kernel) ?_
        exact zs_goj (hJ3 2) ⟨rfl, rfl, rfl, trivial⟩
      · refine zs_iconst (pc := 26) (n := 0) (x := 0) C (by decide +kernel) (by decide +kernel) ?_
        refine zs_goto (pc := 27) (off := 4) (tgt := 31) C (by decide +kernel) (by decide) ?_
        exact zs_goj (hJ3 0) ⟨rfl, rfl, rfl, trivial⟩
    · refine zs_iconst (pc := 10) (n := 1) (x := 1) C (by decide +kernel) (by decide +kernel) ?_
      refine zs_goto (pc := 11) (off := 20) (tgt := 31) C (by decide +kernel) (by decide) ?_
      exact zs_goj (hJ3 1) ⟨rfl, rfl, rfl, trivial⟩
set_option maxRecDepth 20000 in
theorem c_X12_house (l : Launch) (g : GC) (a0 : Int) : ConW l g yX12_house cX12_house 2 (some .int) (rmd 2 0 0) [sR 287, sI a0] (fun mm => fX12_house a0 mm) := by
  refine zs_ofW (by decide +kernel) (Nat.le_of_ble_eq_true rfl) ?_
  intro p e s m args below meth c C hr
  replace C : Bd g RX12 cX12_house 2 p s m args meth c := C
  unfold fX12_house
  refine zs_aload_n (pc := 0) (k := 0) (i := 0) C (by decide +kernel) rfl rfl ?_
  refine zs_iconst (pc := 1) (n := 0) (x := 0) C (by decide +kernel) (by decide +kernel) ?_
  refine zs_putI (pc := 2) (i := 88) (ci := 12) (k := 4) C (fun _ _ _ => rfl) (by decide +kernel) fl_RX12_88 fw_12_4 rfl rfl ?_
  refine zs_iload_n (pc := 5) (k := 1) (i := 1) C (by decide +kernel) rfl rfl ?_
  refine zs_i2l (pc := 6) C (by decide +kernel) ?_
  refine zs_lconst (pc := 7) (n := 0) (x := 0) C (by decide +kernel) (by decide +kernel) ?_
  refine zs_aload_n (pc := 8) (k := 0) (i := 0) C (by decide +kernel) rfl rfl ?_
  refine zs_getR (o' := 288) (pc := 9) (i := 9) (ci := 12) (k := 0) C (by decide +kernel) fl_RX12_9 rfl rfl rfl ?_
  refine zs_iconst (pc := 12) (n := 4) (x := 4) C (by decide +kernel) (by decide +kernel) ?_
  refine zs_ialdk (pc := 13) (o := 288) (n := 2005) C (by decide) (by decide +kernel) rfl (fun x1 => ?_)
  refine zs_iconst (pc := 14) (n := 1) (x := 1) C (by decide +kernel) (by decide +kernel) ?_
  refine zs_isub (pc := 15) C (by decide +kernel) ?_
  refine zs_i2l (pc := 16) C (by decide +kernel) ?_
  refine zs_csRi (pc := 17) (As := [sL a0, sL 0, sL (w32 (x1 - 1))]) (st := []) C rfl (c_X12_within l g a0 0 (w32 (x1 - 1))) ml_RX12_149 rfl rfl (Nat.le_of_ble_eq_true rfl) ⟨Nat.le_of_ble_eq_true rfl, Nat.le_of_ble_eq_true rfl⟩ ⟨Nat.le_of_ble_eq_true rfl, Nat.le_of_ble_eq_true rfl⟩ (by decide +kernel) (fun x2 => ?_)
  refine zs_jn (pJ := 40) (kJ := 0) (sJ := 0) (fun t3 => []) (fun t3 => [sI t3]) (fun t3 => ?_) (fun J4 hJ4 => ?_)
  · exact zs_retWi (pc := 40) C hr ⟨Nat.le_of_ble_eq_true rfl, Nat.le_of_ble_eq_true rfl⟩ (by decide +kernel)
  · refine zs_if_eq (pc := 20) (off := 15) (tgt := 35) C (by decide +kernel) (by decide) ?_ ?_
    · refine zs_aload_n (pc := 35) (k := 0) (i := 0) C (by decide +kernel) rfl rfl ?_
      refine zs_iconst (pc := 36) (n := 1) (x := 1) C (by decide +kernel) (by decide +kernel) ?_
      refine zs_cvWi (pc := 37) (As := [sI 1]) (st := []) C (fun _ _ _ => rfl) rfl (c_X12_fails l g 1) ml_RX12_279 rfl rfl rfl rfl (Nat.le_of_ble_eq_true rfl) ⟨Nat.le_of_ble_eq_true rfl, Nat.le_of_ble_eq_true rfl⟩ ⟨Nat.le_of_ble_eq_true rfl, Nat.le_of_ble_eq_true rfl⟩ (by decide +kernel) (fun x5 => ?_)
      exact zs_goj (hJ4 x5) trivial
    · refine zs_aload_n (pc := 23) (k := 0) (i := 0) C (by decide +kernel) rfl rfl ?_
      refine zs_getR (o' := 288) (pc := 24) (i := 9) (ci := 12) (k := 0) C (by decide +kernel) fl_RX12_9 rfl rfl rfl ?_
      refine zs_bipush (pc := 27) (n := 29) (x := 29) C (by decide +kernel) (by decide +kernel) ?_
      refine zs_iload_n (pc := 29) (k := 1) (i := 1) C (by decide +kernel) rfl rfl ?_
      refine zs_iadd (pc := 30) C (by decide +kernel) ?_
      refine zs_iald (pc := 31) (o := 288) (n := 2005) C (by decide +kernel) rfl (fun hinx6 x6 => ?_)
      refine zs_goto (pc := 32) (off := 8) (tgt := 40) C (by decide +kernel) (by decide) ?_
      exact zs_goj (hJ4 x6) trivial
set_option maxRecDepth 20000 in
theorem c_X12_length (l : Launch) (g : GC) (a0 : Int) (a1 : Int) : ConW l g yX12_length cX12_length 3 (some .int) (rmd 5 0 0) [sR 287, sI a0, sI a1] (fun mm => fX12_length a0 a1 mm) := by
  refine zs_ofW (by decide +kernel) (Nat.le_of_ble_eq_true rfl) ?_
  intro p e s m args below meth c C hr
  replace C : Bd g RX12 cX12_length 3 p s m args meth c := C
  unfold fX12_length
  refine zs_aload_n (pc := 0) (k := 0) (i := 0) C (by decide +kernel) rfl rfl ?_
  refine zs_aload_n (pc := 1) (k := 0) (i := 0) C (by decide +kernel) rfl rfl ?_
  refine zs_iload_n (pc := 2) (k := 1) (i := 1) C (by decide +kernel) rfl rfl ?_
  refine zs_i2l (pc := 3) C (by decide +kernel) ?_
  refine zs_cvRi (pc := 4) (As := [sL a0]) (st := [sR 287]) C rfl (c_X12_isPair l g a0) ml_RX12_338 rfl rfl rfl rfl (Nat.le_of_ble_eq_true rfl) ⟨Nat.le_of_ble_eq_true rfl, Nat.le_of_ble_eq_true rfl⟩ ⟨Nat.le_of_ble_eq_true rfl, Nat.le_of_ble_eq_true rfl⟩ (by decide +kernel) (fun x1 => ?_)
  refine zs_jn (pJ := 31) (kJ := 0) (sJ := 0) (fun t2 => [(0, sR 287), (1, sI a0), (2, sI a1)]) (fun t2 => [sI t2, sR 287]) (fun t2 => ?_) (fun J3 hJ3 => ?_)
  · refine zs_putI (pc := 31) (i := 88) (ci := 12) (k := 4) C (fun _ _ _ => rfl) (by decide +kernel) fl_RX12_88 fw_12_4 rfl rfl ?_
    refine zs_aload_n (pc := 34) (k := 0) (i := 0) C (by decide +kernel) rfl rfl ?_
    refine zs_getI (pc := 35) (i := 88) (ci := 12) (k := 4) C (by decide +kernel) fl_RX12_88 rfl rfl (fun x4 => ?_)
    refine zs_jn (pJ := 68) (kJ := 0) (sJ := 0) (fun t5 => []) (fun t5 => [sI t5]) (fun t5 => ?_) (fun J6 hJ6 => ?_)
    · exact zs_retWi (pc := 68) C hr ⟨Nat.le_of_ble_eq_true rfl, Nat.le_of_ble_eq_true rfl⟩ (by decide +kernel)
    · refine zs_if_le (pc := 38) (off := 7) (tgt := 45) C (by decide +kernel) (by decide) ?_ ?_
      · refine zs_aload_n (pc := 45) (k := 0) (i := 0) C (by decide +kernel) rfl rfl ?_
        refine zs_iload_n (pc := 46) (k := 1) (i := 1) C (by decide +kernel) rfl rfl ?_
        refine zs_aload_n (pc := 47) (k := 0) (i := 0) C (by decide +kernel) rfl rfl ?_
        refine zs_getR (o' := 288) (pc := 48) (i := 9) (ci := 12) (k := 0) C (by decide +kernel) fl_RX12_9 rfl rfl rfl ?_
        refine zs_bipush (pc := 51) (n := 25) (x := 25) C (by decide +kernel) (by decide +kernel) ?_
        refine zs_iload_n (pc := 53) (k := 1) (i := 1) C (by decide +kernel) rfl rfl ?_
        refine zs_iadd (pc := 54) C (by decide +kernel) ?_
        refine zs_iald (pc := 55) (o := 288) (n := 2005) C (by decide +kernel) rfl (fun hinx7 x7 => ?_)
        refine zs_aload_n (pc := 56) (k := 0) (i := 0) C (by decide +kernel) rfl rfl ?_
        refine zs_getR (o' := 288) (pc := 57) (i := 9) (ci := 12) (k := 0) C (by decide +kernel) fl_RX12_9 rfl rfl rfl ?_
        refine zs_bipush (pc := 60) (n := 24) (x := 24) C (by decide +kernel) (by decide +kernel) ?_
        refine zs_ialdk (pc := 62) (o := 288) (n := 2005) C (by decide) (by decide +kernel) rfl (fun x8 => ?_)
        refine zs_iload_n (pc := 63) (k := 2) (i := 2) C (by decide +kernel) rfl rfl ?_
        refine zs_iadd (pc := 64) C (by decide +kernel) ?_
        refine zs_cvWi (pc := 65) (As := [sI a0, sI x7, sI (w32 (x8 + a1))]) (st := []) C (fun _ _ _ => rfl) rfl (c_X12_lengthIn l g a0 x7 (w32 (x8 + a1))) ml_RX12_330 rfl rfl rfl rfl (Nat.le_of_ble_eq_true rfl) ⟨Nat.le_of_ble_eq_true rfl, Nat.le_of_ble_eq_true rfl⟩ ⟨Nat.le_of_ble_eq_true rfl, Nat.le_of_ble_eq_true rfl⟩ (by decide +kernel) (fun x9 => ?_)
        exact zs_goj (hJ6 x9) trivial
      · refine zs_iconst (pc := 41) (n := 0) (x := 0) C (by decide +kernel) (by decide +kernel) ?_
        refine zs_goto (pc := 42) (off := 26) (tgt := 68) C (by decide +kernel) (by decide) ?_
        exact zs_goj (hJ6 0) trivial
  · refine zs_if_ne (pc := 7) (off := 7) (tgt := 14) C (by decide +kernel) (by decide) ?_ ?_
    · refine zs_iload_n (pc := 14) (k := 2) (i := 2) C (by decide +kernel) rfl rfl ?_
      refine zs_i2l (pc := 15) C (by decide +kernel) ?_
      refine zs_lconst (pc := 16) (n := 0) (x := 0) C (by decide +kernel) (by decide +kernel) ?_
      refine zs_ldc2 (pc := 17) (i := 352) (v := 999) (x := 999) C (by decide +kernel) wf_2145 (by decide +kernel) ?_
      refine zs_csRi (pc := 20) (As := [sL a1, sL 0, sL 999]) (st := [sR 287]) C rfl (c_X12_within l g a1 0 999) ml_RX12_149 rfl rfl (Nat.le_of_ble_eq_true rfl) ⟨Nat.le_of_ble_eq_true rfl, Nat.le_of_ble_eq_true rfl⟩ ⟨Nat.le_of_ble_eq_true rfl, Nat.le_of_ble_eq_true rfl⟩ (by decide +kernel) (fun x10 => ?_)
      refine zs_if_eq (pc := 23) (off := 7) (tgt := 30) C (by decide +kernel) (by decide) ?_ ?_
      · refine zs_iconst (pc := 30) (n := 2) (x := 2) C (by decide +kernel) (by decide +kernel) ?_
        exact zs_goj (hJ3 2) ⟨rfl, rfl, rfl, trivial⟩
      · refine zs_iconst (pc := 26) (n := 0) (x := 0) C (by decide +kernel) (by decide +kernel) ?_
        refine zs_goto (pc := 27) (off := 4) (tgt := 31) C (by decide +kernel) (by decide) ?_
        exact zs_goj (hJ3 0) ⟨rfl, rfl, rfl, trivial⟩
    · refine zs_iconst (pc := 10) (n := 1) (x := 1) C (by decide +kernel) (by decide +kernel) ?_
      refine zs_goto (pc := 11) (off := 20) (tgt := 31) C (by decide +kernel) (by decide) ?_
      exact zs_goj (hJ3 1) ⟨rfl, rfl, rfl, trivial⟩
set_option maxRecDepth 20000 in
theorem c_X12_may (l : Launch) (g : GC) (a0 : Int) (a1 : Int) (a2 : Int) (a3 : Int) : ConW l g yX12_may cX12_may 5 (some .boolean) (rmd 5 0 0) [sR 287, sI a0, sI a1, sI a2, sI a3] (fun mm => fX12_may a0 a1 a2 a3 mm) := by
  refine zs_ofW (by decide +kernel) (Nat.le_of_ble_eq_true rfl) ?_
  intro p e s m args below meth c C hr
  replace C : Bd g RX12 cX12_may 5 p s m args meth c := C
  unfold fX12_may
  refine zs_aload_n (pc := 0) (k := 0) (i := 0) C (by decide +kernel) rfl rfl ?_
  refine zs_aload_n (pc := 1) (k := 0) (i := 0) C (by decide +kernel) rfl rfl ?_
  refine zs_iload_n (pc := 2) (k := 1) (i := 1) C (by decide +kernel) rfl rfl ?_
  refine zs_i2l (pc := 3) C (by decide +kernel) ?_
  refine zs_cvRi (pc := 4) (As := [sL a0]) (st := [sR 287]) C rfl (c_X12_isPair l g a0) ml_RX12_338 rfl rfl rfl rfl (Nat.le_of_ble_eq_true rfl) ⟨Nat.le_of_ble_eq_true rfl, Nat.le_of_ble_eq_true rfl⟩ ⟨Nat.le_of_ble_eq_true rfl, Nat.le_of_ble_eq_true rfl⟩ (by decide +kernel) (fun x1 => ?_)
  refine zs_jn (pJ := 66) (kJ := 0) (sJ := 0) (fun t2 => [(0, sR 287), (1, sI a0), (2, sI a1), (3, sI a2), (4, sI a3)]) (fun t2 => [sI t2, sR 287]) (fun t2 => ?_) (fun J3 hJ3 => ?_)
  · refine zs_putI (pc := 66) (i := 88) (ci := 12) (k := 4) C (fun _ _ _ => rfl) (by decide +kernel) fl_RX12_88 fw_12_4 rfl rfl ?_
    refine zs_aload_n (pc := 69) (k := 0) (i := 0) C (by decide +kernel) rfl rfl ?_
    refine zs_getI (pc := 70) (i := 88) (ci := 12) (k := 4) C (by decide +kernel) fl_RX12_88 rfl rfl (fun x4 => ?_)
    refine zs_jn (pJ := 101) (kJ := 0) (sJ := 0) (fun t5 => []) (fun t5 => [sI t5]) (fun t5 => ?_) (fun J6 hJ6 => ?_)
    · refine zs_chk (fun _ hx => ?_)
      exact zs_retWz (pc := 101) C hx hr ⟨Nat.le_of_ble_eq_true rfl, Nat.le_of_ble_eq_true rfl⟩ (by decide +kernel)
    · refine zs_jn (pJ := 100) (kJ := 0) (sJ := 0) (fun t7 => []) (fun t7 => []) (fun t7 => ?_) (fun J8 hJ8 => ?_)
      · refine zs_iconst (pc := 100) (n := 0) (x := 0) C (by decide +kernel) (by decide +kernel) ?_
        exact zs_goj (hJ6 0) trivial
      · refine zs_if_ne (pc := 73) (off := 27) (tgt := 100) C (by decide +kernel) (by decide) ?_ ?_
        · exact zs_goj (hJ8 ()) trivial
        · refine zs_aload_n (pc := 76) (k := 0) (i := 0) C (by decide +kernel) rfl rfl ?_
          refine zs_iload_n (pc := 77) (k := 1) (i := 1) C (by decide +kernel) rfl rfl ?_
          refine zs_iload_n (pc := 78) (k := 2) (i := 2) C (by decide +kernel) rfl rfl ?_
          refine zs_iload_n (pc := 79) (k := 3) (i := 3) C (by decide +kernel) rfl rfl ?_
          refine zs_aload_n (pc := 80) (k := 0) (i := 0) C (by decide +kernel) rfl rfl ?_
          refine zs_getR (o' := 288) (pc := 81) (i := 9) (ci := 12) (k := 0) C (by decide +kernel) fl_RX12_9 rfl rfl rfl ?_
          refine zs_bipush (pc := 84) (n := 24) (x := 24) C (by decide +kernel) (by decide +kernel) ?_
          refine zs_ialdk (pc := 86) (o := 288) (n := 2005) C (by decide) (by decide +kernel) rfl (fun x9 => ?_)
          refine zs_iload (pc := 87) (i := 4) C (by decide +kernel) rfl ?_
          refine zs_iadd (pc := 89) C (by decide +kernel) ?_
          refine zs_cvWi (pc := 90) (As := [sI a0, sI a1, sI a2, sI (w32 (x9 + a3))]) (st := []) C (fun _ _ _ => rfl) rfl (c_X12_mayGo l g a0 a1 a2 (w32 (x9 + a3))) ml_RX12_357 rfl rfl rfl rfl (Nat.le_of_ble_eq_true rfl) ⟨Nat.le_of_ble_eq_true rfl, Nat.le_of_ble_eq_true rfl⟩ ⟨Nat.le_of_ble_eq_true rfl, Nat.le_of_ble_eq_true rfl⟩ (by decide +kernel) (fun x10 => ?_)
          refine zs_if_eq (pc := 93) (off := 7) (tgt := 100) C (by decide +kernel) (by decide) ?_ ?_
          · exact zs_goj (hJ8 ()) trivial
          · refine zs_iconst (pc := 96) (n := 1) (x := 1) C (by decide +kernel) (by decide +kernel) ?_
            refine zs_goto (pc := 97) (off := 4) (tgt := 101) C (by decide +kernel) (by decide) ?_
            exact zs_goj (hJ6 1) trivial
  · refine zs_jn (pJ := 19) (kJ := 0) (sJ := 0) (fun t11 => [(0, sR 287), (1, sI a0), (2, sI a1), (3, sI a2), (4, sI a3)]) (fun t11 => [sR 287]) (fun t11 => ?_) (fun J12 hJ12 => ?_)
    · refine zs_iconst (pc := 19) (n := 1) (x := 1) C (by decide +kernel) (by decide +kernel) ?_
      refine zs_goto (pc := 20) (off := 46) (tgt := 66) C (by decide +kernel) (by decide) ?_
      exact zs_goj (hJ3 1) ⟨rfl, rfl, rfl, rfl, rfl, trivial⟩
    · refine zs_if_eq (pc := 7) (off := 12) (tgt := 19) C (by decide +kernel) (by decide) ?_ ?_
      · exact zs_goj (hJ12 ()) ⟨rfl, rfl, rfl, rfl, rfl, trivial⟩
      · refine zs_aload_n (pc := 10) (k := 0) (i := 0) C (by decide +kernel) rfl rfl ?_
        refine zs_iload_n (pc := 11) (k := 3) (i := 3) C (by decide +kernel) rfl rfl ?_
        refine zs_i2l (pc := 12) C (by decide +kernel) ?_
        refine zs_cvRi (pc := 13) (As := [sL a2]) (st := [sR 287]) C rfl (c_X12_isPlace l g a2) ml_RX12_334 rfl rfl rfl rfl (Nat.le_of_ble_eq_true rfl) ⟨Nat.le_of_ble_eq_true rfl, Nat.le_of_ble_eq_true rfl⟩ ⟨Nat.le_of_ble_eq_true rfl, Nat.le_of_ble_eq_true rfl⟩ (by decide +kernel) (fun x13 => ?_)
        refine zs_if_ne (pc := 16) (off := 7) (tgt := 23) C (by decide +kernel) (by decide) ?_ ?_
        · refine zs_iload_n (pc := 23) (k := 2) (i := 2) C (by decide +kernel) rfl rfl ?_
          refine zs_csRi (pc := 24) (As := [sI a1]) (st := [sR 287]) C rfl (c_X12_isWho l g a1) ml_RX12_354 rfl rfl (Nat.le_of_ble_eq_true rfl) ⟨Nat.le_of_ble_eq_true rfl, Nat.le_of_ble_eq_true rfl⟩ ⟨Nat.le_of_ble_eq_true rfl, Nat.le_of_ble_eq_true rfl⟩ (by decide +kernel) (fun x14 => ?_)
          refine zs_jn (pJ := 43) (kJ := 0) (sJ := 0) (fun t15 => [(0, sR 287), (1, sI a0), (2, sI a1), (3, sI a2), (4, sI a3)]) (fun t15 => [sR 287]) (fun t15 => ?_) (fun J16 hJ16 => ?_)
          · refine zs_iconst (pc := 43) (n := 2) (x := 2) C (by decide +kernel) (by decide +kernel) ?_
            refine zs_goto (pc := 44) (off := 22) (tgt := 66) C (by decide +kernel) (by decide) ?_
            exact zs_goj (hJ3 2) ⟨rfl, rfl, rfl, rfl, rfl, trivial⟩
          · refine zs_if_eq (pc := 27) (off := 16) (tgt := 43) C (by decide +kernel) (by decide) ?_ ?_
            · exact zs_goj (hJ16 ()) ⟨rfl, rfl, rfl, rfl, rfl, trivial⟩
            · refine zs_iload (pc := 30) (i := 4) C (by decide +kernel) rfl ?_
              refine zs_i2l (pc := 32) C (by decide +kernel) ?_
              refine zs_lconst (pc := 33) (n := 0) (x := 0) C (by decide +kernel) (by decide +kernel) ?_
              refine zs_ldc2 (pc := 34) (i := 352) (v := 999) (x := 999) C (by decide +kernel) wf_2145 (by decide +kernel) ?_
              refine zs_csRi (pc := 37) (As := [sL a3, sL 0, sL 999]) (st := [sR 287]) C rfl (c_X12_within l g a3 0 999) ml_RX12_149 rfl rfl (Nat.le_of_ble_eq_true rfl) ⟨Nat.le_of_ble_eq_true rfl, Nat.le_of_ble_eq_true rfl⟩ ⟨Nat.le_of_ble_eq_true rfl, Nat.le_of_ble_eq_true rfl⟩ (by decide +kernel) (fun x17 => ?_)
              refine zs_if_ne (pc := 40) (off := 7) (tgt := 47) C (by decide +kernel) (by decide) ?_ ?_
              · refine zs_aload_n (pc := 47) (k := 0) (i := 0) C (by decide +kernel) rfl rfl ?_
                refine zs_getR (o' := 288) (pc := 48) (i := 9) (ci := 12) (k := 0) C (by decide +kernel) fl_RX12_9 rfl rfl rfl ?_
                refine zs_bipush (pc := 51) (n := 8) (x := 8) C (by decide +kernel) (by decide +kernel) ?_
                refine zs_ialdk (pc := 53) (o := 288) (n := 2005) C (by decide) (by decide +kernel) rfl (fun x18 => ?_)
                refine zs_iload_n (pc := 54) (k := 3) (i := 3) C (by decide +kernel) rfl rfl ?_
                refine zs_csRi (pc := 55) (As := [sI x18, sI a2]) (st := [sR 287]) C rfl (c_X12_has l g x18 a2) ml_RX12_230 rfl rfl (Nat.le_of_ble_eq_true rfl) ⟨Nat.le_of_ble_eq_true rfl, Nat.le_of_ble_eq_true rfl⟩ ⟨Nat.le_of_ble_eq_true rfl, Nat.le_of_ble_eq_true rfl⟩ (by decide +kernel) (fun x19 => ?_)
                refine zs_if_eq (pc := 58) (off := 7) (tgt := 65) C (by decide +kernel) (by decide) ?_ ?_
                · refine zs_iconst (pc := 65) (n := 0) (x := 0) C (by decide +kernel) (by decide +kernel) ?_
                  exact zs_goj (hJ3 0) ⟨rfl, rfl, rfl, rfl, rfl, trivial⟩
                · refine zs_iconst (pc := 61) (n := 3) (x := 3) C (by decide +kernel) (by decide +kernel) ?_
                  refine zs_goto (pc := 62) (off := 4) (tgt := 66) C (by decide +kernel) (by decide) ?_
                  exact zs_goj (hJ3 3) ⟨rfl, rfl, rfl, rfl, rfl, trivial⟩
              · exact zs_goj (hJ16 ()) ⟨rfl, rfl, rfl, rfl, rfl, trivial⟩
        · exact zs_goj (hJ12 ()) ⟨rfl, rfl, rfl, rfl, rfl, trivial⟩
set_option maxRecDepth 20000 in
theorem c_X12_keeps (l : Launch) (g : GC)  : ConV l g yX12_keeps cX12_keeps 2 (rmd 1 0 0) [sR 287] (fun mm => fX12_keeps  mm) := by
  refine zs_ofV (by decide +kernel) (Nat.le_of_ble_eq_true rfl) ?_
  intro p e s m args below meth c C hr
  replace C : Bd g RX12 cX12_keeps 2 p s m args meth c := C
  unfold fX12_keeps
  refine zs_aload_n (pc := 0) (k := 0) (i := 0) C (by decide +kernel) rfl rfl ?_
  refine zs_getR (o' := 288) (pc := 1) (i := 9) (ci := 12) (k := 0) C (by decide +kernel) fl_RX12_9 rfl rfl rfl ?_
  refine zs_bipush (pc := 4) (n := 7) (x := 7) C (by decide +kernel) (by decide +kernel) ?_
  refine zs_ialdk (pc := 6) (o := 288) (n := 2005) C (by decide) (by decide +kernel) rfl (fun x1 => ?_)
  refine zs_bipush (pc := 7) (n := 10) (x := 10) C (by decide +kernel) (by decide +kernel) ?_
  refine zs_jn (pJ := 54) (kJ := 0) (sJ := 0) (fun t2 => [(0, sR 287)]) (fun t2 => []) (fun t2 => ?_) (fun J3 hJ3 => ?_)
  · refine zs_iconst (pc := 54) (n := 0) (x := 0) C (by decide +kernel) (by decide +kernel) ?_
    refine zs_istore_n (pc := 55) (k := 1) (i := 1) (ls' := [(1, sI 0), (0, sR 287)]) C (by decide +kernel) rfl (Nat.le_of_ble_eq_true rfl) rfl ?_
    refine zs_sub (ls' := [(0, sR 287), (1, sI 0)]) ⟨rfl, rfl, trivial⟩ ?_
    refine zs_lp (pc := 56) (fun (t4 : Int) => [(0, sR 287), (1, sI t4)]) (fun _ => []) (fun K5 hK5 t4 => ?_) BIG 0
    refine zs_iload_n (pc := 56) (k := 1) (i := 1) C (by decide +kernel) rfl rfl ?_
    refine zs_bipush (pc := 57) (n := 16) (x := 16) C (by decide +kernel) (by decide +kernel) ?_
    refine zs_icmp_ge (pc := 59) (off := 38) (tgt := 97) C (by decide +kernel) (by decide) ?_ ?_
    · refine zs_aload_n (pc := 97) (k := 0) (i := 0) C (by decide +kernel) rfl rfl ?_
      refine zs_getR (o' := 288) (pc := 98) (i := 9) (ci := 12) (k := 0) C (by decide +kernel) fl_RX12_9 rfl rfl rfl ?_
      refine zs_bipush (pc := 101) (n := 7) (x := 7) C (by decide +kernel) (by decide +kernel) ?_
      refine zs_dup2 (pc := 103) C rfl rfl (by decide +kernel) ?_
      refine zs_ialdk (pc := 104) (o := 288) (n := 2005) C (by decide) (by decide +kernel) rfl (fun x6 => ?_)
      refine zs_iconst (pc := 105) (n := 1) (x := 1) C (by decide +kernel) (by decide +kernel) ?_
      refine zs_iadd (pc := 106) C (by decide +kernel) ?_
      refine zs_iastk (pc := 107) (o := 288) (n := 2005) C (by decide) (fun _ _ _ => rfl) (by decide +kernel) rfl ?_
      exact zs_retVv (pc := 108) C hr ⟨Nat.le_of_ble_eq_true rfl, Nat.le_of_ble_eq_true rfl⟩ (by decide +kernel)
    · refine zs_aload_n (pc := 62) (k := 0) (i := 0) C (by decide +kernel) rfl rfl ?_
      refine zs_getR (o' := 288) (pc := 63) (i := 9) (ci := 12) (k := 0) C (by decide +kernel) fl_RX12_9 rfl rfl rfl ?_
      refine zs_bipush (pc := 66) (n := 37) (x := 37) C (by decide +kernel) (by decide +kernel) ?_
      refine zs_bipush (pc := 68) (n := 16) (x := 16) C (by decide +kernel) (by decide +kernel) ?_
      refine zs_aload_n (pc := 70) (k := 0) (i := 0) C (by decide +kernel) rfl rfl ?_
      refine zs_getR (o' := 288) (pc := 71) (i := 9) (ci := 12) (k := 0) C (by decide +kernel) fl_RX12_9 rfl rfl rfl ?_
      refine zs_bipush (pc := 74) (n := 7) (x := 7) C (by decide +kernel) (by decide +kernel) ?_
      refine zs_ialdk (pc := 76) (o := 288) (n := 2005) C (by decide) (by decide +kernel) rfl (fun x7 => ?_)
      refine zs_imul (pc := 77) C (by decide +kernel) ?_
      refine zs_iadd (pc := 78) C (by decide +kernel) ?_
      refine zs_iload_n (pc := 79) (k := 1) (i := 1) C (by decide +kernel) rfl rfl ?_
      refine zs_iadd (pc := 80) C (by decide +kernel) ?_
      refine zs_aload_n (pc := 81) (k := 0) (i := 0) C (by decide +kernel) rfl rfl ?_
      refine zs_getR (o' := 288) (pc := 82) (i := 9) (ci := 12) (k := 0) C (by decide +kernel) fl_RX12_9 rfl rfl rfl ?_
      refine zs_bipush (pc := 85) (n := 9) (x := 9) C (by decide +kernel) (by decide +kernel) ?_
      refine zs_iload_n (pc := 87) (k := 1) (i := 1) C (by decide +kernel) rfl rfl ?_
      refine zs_iadd (pc := 88) C (by decide +kernel) ?_
      refine zs_iald (pc := 89) (o := 288) (n := 2005) C (by decide +kernel) rfl (fun hinx8 x8 => ?_)
      refine zs_iast (pc := 90) (o := 288) (n := 2005) C (fun _ _ _ => rfl) (by decide +kernel) rfl ?_
      refine zs_iinc (pc := 91) (i := 1) (n := 1) (y := w32 (t4 + 1)) (ls' := [(1, sI (w32 (t4 + 1))), (0, sR 287)]) C (by decide +kernel) rfl rfl (Nat.le_of_ble_eq_true rfl) rfl ?_
      refine zs_goto (pc := 94) (off := (-38)) (tgt := 56) C (by decide +kernel) (by decide) ?_
      exact zs_goj (hK5 (w32 (t4 + 1))) ⟨rfl, rfl, trivial⟩
  · refine zs_icmp_ne (pc := 9) (off := 45) (tgt := 54) C (by decide +kernel) (by decide) ?_ ?_
    · exact zs_goj (hJ3 ()) ⟨rfl, trivial⟩
    · refine zs_bipush (pc := 12) (n := 37) (x := 37) C (by decide +kernel) (by decide +kernel) ?_
      refine zs_istore_n (pc := 14) (k := 1) (i := 1) (ls' := [(1, sI 37), (0, sR 287)]) C (by decide +kernel) rfl (Nat.le_of_ble_eq_true rfl) rfl ?_
      refine zs_sub (ls' := [(0, sR 287), (1, sI 37)]) ⟨rfl, rfl, trivial⟩ ?_
      refine zs_lp (pc := 15) (fun (t9 : Int) => [(0, sR 287), (1, sI t9)]) (fun _ => []) (fun K10 hK10 t9 => ?_) BIG 37
      refine zs_iload_n (pc := 15) (k := 1) (i := 1) C (by decide +kernel) rfl rfl ?_
      refine zs_sipush (pc := 16) (n := 181) (x := 181) C (by decide +kernel) (by decide +kernel) ?_
      refine zs_icmp_ge (pc := 19) (off := 24) (tgt := 43) C (by decide +kernel) (by decide) ?_ ?_
      · refine zs_aload_n (pc := 43) (k := 0) (i := 0) C (by decide +kernel) rfl rfl ?_
        refine zs_getR (o' := 288) (pc := 44) (i := 9) (ci := 12) (k := 0) C (by decide +kernel) fl_RX12_9 rfl rfl rfl ?_
        refine zs_bipush (pc := 47) (n := 7) (x := 7) C (by decide +kernel) (by decide +kernel) ?_
        refine zs_dup2 (pc := 49) C rfl rfl (by decide +kernel) ?_
        refine zs_ialdk (pc := 50) (o := 288) (n := 2005) C (by decide) (by decide +kernel) rfl (fun x11 => ?_)
        refine zs_iconst (pc := 51) (n := 1) (x := 1) C (by decide +kernel) (by decide +kernel) ?_
        refine zs_isub (pc := 52) C (by decide +kernel) ?_
        refine zs_iastk (pc := 53) (o := 288) (n := 2005) C (by decide) (fun _ _ _ => rfl) (by decide +kernel) rfl ?_
        exact zs_goj (hJ3 ()) ⟨rfl, trivial⟩
      · refine zs_aload_n (pc := 22) (k := 0) (i := 0) C (by decide +kernel) rfl rfl ?_
        refine zs_getR (o' := 288) (pc := 23) (i := 9) (ci := 12) (k := 0) C (by decide +kernel) fl_RX12_9 rfl rfl rfl ?_
        refine zs_iload_n (pc := 26) (k := 1) (i := 1) C (by decide +kernel) rfl rfl ?_
        refine zs_aload_n (pc := 27) (k := 0) (i := 0) C (by decide +kernel) rfl rfl ?_
        refine zs_getR (o' := 288) (pc := 28) (i := 9) (ci := 12) (k := 0) C (by decide +kernel) fl_RX12_9 rfl rfl rfl ?_
        refine zs_iload_n (pc := 31) (k := 1) (i := 1) C (by decide +kernel) rfl rfl ?_
        refine zs_bipush (pc := 32) (n := 16) (x := 16) C (by decide +kernel) (by decide +kernel) ?_
        refine zs_iadd (pc := 34) C (by decide +kernel) ?_
        refine zs_iald (pc := 35) (o := 288) (n := 2005) C (by decide +kernel) rfl (fun hinx12 x12 => ?_)
        refine zs_iast (pc := 36) (o := 288) (n := 2005) C (fun _ _ _ => rfl) (by decide +kernel) rfl ?_
        refine zs_iinc (pc := 37) (i := 1) (n := 1) (y := w32 (t9 + 1)) (ls' := [(1, sI (w32 (t9 + 1))), (0, sR 287)]) C (by decide +kernel) rfl rfl (Nat.le_of_ble_eq_true rfl) rfl ?_
        refine zs_goto (pc := 40) (off := (-25)) (tgt := 15) C (by decide +kernel) (by decide) ?_
        exact zs_goj (hK10 (w32 (t9 + 1))) ⟨rfl, rfl, trivial⟩
set_option maxRecDepth 20000 in
theorem c_X12_putsAside (l : Launch) (g : GC)  : ConV l g yX12_putsAside cX12_putsAside 2 (rmd 1 0 0) [sR 287] (fun mm => fX12_putsAside  mm) := by
  refine zs_ofV (by decide +kernel) (Nat.le_of_ble_eq_true rfl) ?_
  intro p e s m args below meth c C hr
  replace C : Bd g RX12 cX12_putsAside 2 p s m args meth c := C
  unfold fX12_putsAside
  refine zs_iconst (pc := 0) (n := 0) (x := 0) C (by decide +kernel) (by decide +kernel) ?_
  refine zs_istore_n (pc := 1) (k := 1) (i := 1) (ls' := [(1, sI 0), (0, sR 287)]) C (by decide +kernel) rfl (Nat.le_of_ble_eq_true rfl) rfl ?_
  refine zs_sub (ls' := [(0, sR 287), (1, sI 0)]) ⟨rfl, rfl, trivial⟩ ?_
  refine zs_lp (pc := 2) (fun (t1 : Int) => [(0, sR 287), (1, sI t1)]) (fun _ => []) (fun K2 hK2 t1 => ?_) BIG 0
  refine zs_iload_n (pc := 2) (k := 1) (i := 1) C (by decide +kernel) rfl rfl ?_
  refine zs_bipush (pc := 3) (n := 16) (x := 16) C (by decide +kernel) (by decide +kernel) ?_
  refine zs_icmp_ge (pc := 5) (off := 24) (tgt := 29) C (by decide +kernel) (by decide) ?_ ?_
  · exact zs_retVv (pc := 29) C hr ⟨Nat.le_of_ble_eq_true rfl, Nat.le_of_ble_eq_true rfl⟩ (by decide +kernel)
  · refine zs_aload_n (pc := 8) (k := 0) (i := 0) C (by decide +kernel) rfl rfl ?_
    refine zs_getR (o' := 295) (pc := 9) (i := 36) (ci := 12) (k := 21) C (by decide +kernel) fl_RX12_36 rfl rfl rfl ?_
    refine zs_iload_n (pc := 12) (k := 1) (i := 1) C (by decide +kernel) rfl rfl ?_
    refine zs_aload_n (pc := 13) (k := 0) (i := 0) C (by decide +kernel) rfl rfl ?_
    refine zs_getR (o' := 288) (pc := 14) (i := 9) (ci := 12) (k := 0) C (by decide +kernel) fl_RX12_9 rfl rfl rfl ?_
    refine zs_bipush (pc := 17) (n := 9) (x := 9) C (by decide +kernel) (by decide +kernel) ?_
    refine zs_iload_n (pc := 19) (k := 1) (i := 1) C (by decide +kernel) rfl rfl ?_
    refine zs_iadd (pc := 20) C (by decide +kernel) ?_
    refine zs_iald (pc := 21) (o := 288) (n := 2005) C (by decide +kernel) rfl (fun hinx3 x3 => ?_)
    refine zs_iast (pc := 22) (o := 295) (n := 16) C (fun _ _ _ => rfl) (by decide +kernel) rfl ?_
    refine zs_iinc (pc := 23) (i := 1) (n := 1) (y := w32 (t1 + 1)) (ls' := [(1, sI (w32 (t1 + 1))), (0, sR 287)]) C (by decide +kernel) rfl rfl (Nat.le_of_ble_eq_true rfl) rfl ?_
    refine zs_goto (pc := 26) (off := (-24)) (tgt := 2) C (by decide +kernel) (by decide) ?_
    exact zs_goj (hK2 (w32 (t1 + 1))) ⟨rfl, rfl, trivial⟩
set_option maxRecDepth 20000 in
theorem c_X12_putsBack (l : Launch) (g : GC)  : ConV l g yX12_putsBack cX12_putsBack 2 (rmd 1 0 0) [sR 287] (fun mm => fX12_putsBack  mm) := by
  refine zs_ofV (by decide +kernel) (Nat.le_of_ble_eq_true rfl) ?_
  intro p e s m args below meth c C hr
  replace C : Bd g RX12 cX12_putsBack 2 p s m args meth c := C
  unfold fX12_putsBack
  refine zs_iconst (pc := 0) (n := 0) (x := 0) C (by decide +kernel) (by decide +kernel) ?_
  refine zs_istore_n (pc := 1) (k := 1) (i := 1) (ls' := [(1, sI 0), (0, sR 287)]) C (by decide +kernel) rfl (Nat.le_of_ble_eq_true rfl) rfl ?_
  refine zs_sub (ls' := [(0, sR 287), (1, sI 0)]) ⟨rfl, rfl, trivial⟩ ?_
  refine zs_lp (pc := 2) (fun (t1 : Int) => [(0, sR 287), (1, sI t1)]) (fun _ => []) (fun K2 hK2 t1 => ?_) BIG 0
  refine zs_iload_n (pc := 2) (k := 1) (i := 1) C (by decide +kernel) rfl rfl ?_
  refine zs_bipush (pc := 3) (n := 16) (x := 16) C (by decide +kernel) (by decide +kernel) ?_
  refine zs_icmp_ge (pc := 5) (off := 24) (tgt := 29) C (by decide +kernel) (by decide) ?_ ?_
  · exact zs_retVv (pc := 29) C hr ⟨Nat.le_of_ble_eq_true rfl, Nat.le_of_ble_eq_true rfl⟩ (by decide +kernel)
  · refine zs_aload_n (pc := 8) (k := 0) (i := 0) C (by decide +kernel) rfl rfl ?_
    refine zs_getR (o' := 288) (pc := 9) (i := 9) (ci := 12) (k := 0) C (by decide +kernel) fl_RX12_9 rfl rfl rfl ?_
    refine zs_bipush (pc := 12) (n := 9) (x := 9) C (by decide +kernel) (by decide +kernel) ?_
    refine zs_iload_n (pc := 14) (k := 1) (i := 1) C (by decide +kernel) rfl rfl ?_
    refine zs_iadd (pc := 15) C (by decide +kernel) ?_
    refine zs_aload_n (pc := 16) (k := 0) (i := 0) C (by decide +kernel) rfl rfl ?_
    refine zs_getR (o' := 295) (pc := 17) (i := 36) (ci := 12) (k := 21) C (by decide +kernel) fl_RX12_36 rfl rfl rfl ?_
    refine zs_iload_n (pc := 20) (k := 1) (i := 1) C (by decide +kernel) rfl rfl ?_
    refine zs_iald (pc := 21) (o := 295) (n := 16) C (by decide +kernel) rfl (fun hinx3 x3 => ?_)
    refine zs_iast (pc := 22) (o := 288) (n := 2005) C (fun _ _ _ => rfl) (by decide +kernel) rfl ?_
    refine zs_iinc (pc := 23) (i := 1) (n := 1) (y := w32 (t1 + 1)) (ls' := [(1, sI (w32 (t1 + 1))), (0, sR 287)]) C (by decide +kernel) rfl rfl (Nat.le_of_ble_eq_true rfl) rfl ?_
    refine zs_goto (pc := 26) (off := (-24)) (tgt := 2) C (by decide +kernel) (by decide) ?_
    exact zs_goj (hK2 (w32 (t1 + 1))) ⟨rfl, rfl, trivial⟩
set_option maxRecDepth 20000 in
theorem c_X12_goesTo (l : Launch) (g : GC) (a0 : Int) (a1 : Int) (a2 : Int) (a3 : Int) : ConW l g yX12_goesTo cX12_goesTo 6 (some .int) (rmd 5 0 0) [sR 287, sI a0, sI a1, sI a2, sI a3] (fun mm => fX12_goesTo a0 a1 a2 a3 mm) := by
  refine zs_ofW (by decide +kernel) (Nat.le_of_ble_eq_true rfl) ?_
  intro p e s m args below meth c C hr
  replace C : Bd g RX12 cX12_goesTo 6 p s m args meth c := C
  unfold fX12_goesTo
  refine zs_aload_n (pc := 0) (k := 0) (i := 0) C (by decide +kernel) rfl rfl ?_
  refine zs_iload_n (pc := 1) (k := 3) (i := 3) C (by decide +kernel) rfl rfl ?_
  refine zs_iload (pc := 2) (i := 4) C (by decide +kernel) rfl ?_
  refine zs_cvRi (pc := 4) (As := [sI a2, sI a3]) (st := []) C rfl (c_X12_turned l g a2 a3) ml_RX12_361 rfl rfl rfl rfl (Nat.le_of_ble_eq_true rfl) ⟨Nat.le_of_ble_eq_true rfl, Nat.le_of_ble_eq_true rfl⟩ ⟨Nat.le_of_ble_eq_true rfl, Nat.le_of_ble_eq_true rfl⟩ (by decide +kernel) (fun x1 => ?_)
  refine zs_istore (pc := 7) (i := 5) (ls' := [(5, sI x1), (0, sR 287), (1, sI a0), (2, sI a1), (3, sI a2), (4, sI a3)]) C (by decide +kernel) (Nat.le_of_ble_eq_true rfl) rfl ?_
  refine zs_iload (pc := 9) (i := 4) C (by decide +kernel) rfl ?_
  refine zs_jn (pJ := 61) (kJ := 0) (sJ := 0) (fun t2 => []) (fun t2 => [sI t2]) (fun t2 => ?_) (fun J3 hJ3 => ?_)
  · exact zs_retWi (pc := 61) C hr ⟨Nat.le_of_ble_eq_true rfl, Nat.le_of_ble_eq_true rfl⟩ (by decide +kernel)
  · refine zs_jn (pJ := 55) (kJ := 0) (sJ := 0) (fun t4 => [(5, sI x1)]) (fun t4 => []) (fun t4 => ?_) (fun J5 hJ5 => ?_)
    · refine zs_iload (pc := 55) (i := 5) C (by decide +kernel) rfl ?_
      refine zs_goto (pc := 57) (off := 4) (tgt := 61) C (by decide +kernel) (by decide) ?_
      exact zs_goj (hJ3 x1) trivial
    · refine zs_if_eq (pc := 11) (off := 44) (tgt := 55) C (by decide +kernel) (by decide) ?_ ?_
      · exact zs_goj (hJ5 ()) ⟨rfl, trivial⟩
      · refine zs_iload (pc := 14) (i := 5) C (by decide +kernel) rfl ?_
        refine zs_iconst (pc := 16) (n := (-1)) (x := (-1)) C (by decide +kernel) (by decide +kernel) ?_
        refine zs_jn (pJ := 60) (kJ := 0) (sJ := 0) (fun t6 => []) (fun t6 => []) (fun t6 => ?_) (fun J7 hJ7 => ?_)
        · refine zs_iconst (pc := 60) (n := (-1)) (x := (-1)) C (by decide +kernel) (by decide +kernel) ?_
          exact zs_goj (hJ3 (-1)) trivial
        · refine zs_icmp_eq (pc := 17) (off := 43) (tgt := 60) C (by decide +kernel) (by decide) ?_ ?_
          · exact zs_goj (hJ7 ()) trivial
          · refine zs_aload_n (pc := 20) (k := 0) (i := 0) C (by decide +kernel) rfl rfl ?_
            refine zs_getR (o' := 288) (pc := 21) (i := 9) (ci := 12) (k := 0) C (by decide +kernel) fl_RX12_9 rfl rfl rfl ?_
            refine zs_bipush (pc := 24) (n := 8) (x := 8) C (by decide +kernel) (by decide +kernel) ?_
            refine zs_ialdk (pc := 26) (o := 288) (n := 2005) C (by decide) (by decide +kernel) rfl (fun x8 => ?_)
            refine zs_iload (pc := 27) (i := 5) C (by decide +kernel) rfl ?_
            refine zs_csRi (pc := 29) (As := [sI x8, sI x1]) (st := []) C rfl (c_X12_has l g x8 x1) ml_RX12_230 rfl rfl (Nat.le_of_ble_eq_true rfl) ⟨Nat.le_of_ble_eq_true rfl, Nat.le_of_ble_eq_true rfl⟩ ⟨Nat.le_of_ble_eq_true rfl, Nat.le_of_ble_eq_true rfl⟩ (by decide +kernel) (fun x9 => ?_)
            refine zs_if_ne (pc := 32) (off := 28) (tgt := 60) C (by decide +kernel) (by decide) ?_ ?_
            · exact zs_goj (hJ7 ()) trivial
            · refine zs_aload_n (pc := 35) (k := 0) (i := 0) C (by decide +kernel) rfl rfl ?_
              refine zs_iload_n (pc := 36) (k := 1) (i := 1) C (by decide +kernel) rfl rfl ?_
              refine zs_iload_n (pc := 37) (k := 2) (i := 2) C (by decide +kernel) rfl rfl ?_
              refine zs_iload (pc := 38) (i := 5) C (by decide +kernel) rfl ?_
              refine zs_aload_n (pc := 40) (k := 0) (i := 0) C (by decide +kernel) rfl rfl ?_
              refine zs_getR (o' := 288) (pc := 41) (i := 9) (ci := 12) (k := 0) C (by decide +kernel) fl_RX12_9 rfl rfl rfl ?_
              refine zs_bipush (pc := 44) (n := 24) (x := 24) C (by decide +kernel) (by decide +kernel) ?_
              refine zs_ialdk (pc := 46) (o := 288) (n := 2005) C (by decide) (by decide +kernel) rfl (fun x10 => ?_)
              refine zs_iconst (pc := 47) (n := 1) (x := 1) C (by decide +kernel) (by decide +kernel) ?_
              refine zs_iadd (pc := 48) C (by decide +kernel) ?_
              refine zs_cvWi (pc := 49) (As := [sI a0, sI a1, sI x1, sI (w32 (x10 + 1))]) (st := []) C (fun _ _ _ => rfl) rfl (c_X12_mayGo l g a0 a1 x1 (w32 (x10 + 1))) ml_RX12_357 rfl rfl rfl rfl (Nat.le_of_ble_eq_true rfl) ⟨Nat.le_of_ble_eq_true rfl, Nat.le_of_ble_eq_true rfl⟩ ⟨Nat.le_of_ble_eq_true rfl, Nat.le_of_ble_eq_true rfl⟩ (by decide +kernel) (fun x11 => ?_)
              refine zs_if_eq (pc := 52) (off := 8) (tgt := 60) C (by decide +kernel) (by decide) ?_ ?_
              · exact zs_goj (hJ7 ()) trivial
              · exact zs_goj (hJ5 ()) ⟨rfl, trivial⟩
set_option maxRecDepth 20000 in
theorem c_X12_whyStep (l : Launch) (g : GC) (a0 : Int) (a1 : Int) (a2 : Int) : ConW l g yX12_whyStep cX12_whyStep 10 (some .int) (rmd 6 0 0) [sR 287, sL a0, sL a1, sL a2] (fun mm => fX12_whyStep a0 a1 a2 mm) := by
  refine zs_ofW (by decide +kernel) (Nat.le_of_ble_eq_true rfl) ?_
  intro p e s m args below meth c C hr
  replace C : Bd g RX12 cX12_whyStep 10 p s m args meth c := C
  unfold fX12_whyStep
  refine zs_aload_n (pc := 0) (k := 0) (i := 0) C (by decide +kernel) rfl rfl ?_
  refine zs_lload_n (pc := 1) (k := 1) (i := 1) C (by decide +kernel) rfl rfl ?_
  refine zs_cvRi (pc := 2) (As := [sL a0]) (st := []) C rfl (c_X12_isPair l g a0) ml_RX12_338 rfl rfl rfl rfl (Nat.le_of_ble_eq_true rfl) ⟨Nat.le_of_ble_eq_true rfl, Nat.le_of_ble_eq_true rfl⟩ ⟨Nat.le_of_ble_eq_true rfl, Nat.le_of_ble_eq_true rfl⟩ (by decide +kernel) (fun x1 => ?_)
  refine zs_jn (pJ := 31) (kJ := 0) (sJ := 0) (fun t2 => []) (fun t2 => []) (fun t2 => ?_) (fun J3 hJ3 => ?_)
  · refine zs_iconst (pc := 31) (n := 1) (x := 1) C (by decide +kernel) (by decide +kernel) ?_
    exact zs_retWi (pc := 32) C hr ⟨Nat.le_of_ble_eq_true rfl, Nat.le_of_ble_eq_true rfl⟩ (by decide +kernel)
  · refine zs_if_eq (pc := 5) (off := 26) (tgt := 31) C (by decide +kernel) (by decide) ?_ ?_
    · exact zs_goj (hJ3 ()) trivial
    · refine zs_lload_n (pc := 8) (k := 3) (i := 3) C (by decide +kernel) rfl rfl ?_
      refine zs_lconst (pc := 9) (n := 0) (x := 0) C (by decide +kernel) (by decide +kernel) ?_
      refine zs_ldc2 (pc := 10) (i := 364) (v := 4) (x := 4) C (by decide +kernel) wf_2165 (by decide +kernel) ?_
      refine zs_csRi (pc := 13) (As := [sL a1, sL 0, sL 4]) (st := []) C rfl (c_X12_within l g a1 0 4) ml_RX12_149 rfl rfl (Nat.le_of_ble_eq_true rfl) ⟨Nat.le_of_ble_eq_true rfl, Nat.le_of_ble_eq_true rfl⟩ ⟨Nat.le_of_ble_eq_true rfl, Nat.le_of_ble_eq_true rfl⟩ (by decide +kernel) (fun x4 => ?_)
      refine zs_if_eq (pc := 16) (off := 15) (tgt := 31) C (by decide +kernel) (by decide) ?_ ?_
      · exact zs_goj (hJ3 ()) trivial
      · refine zs_lload (pc := 19) (i := 5) C (by decide +kernel) rfl ?_
        refine zs_lconst (pc := 21) (n := 0) (x := 0) C (by decide +kernel) (by decide +kernel) ?_
        refine zs_ldc2 (pc := 22) (i := 364) (v := 4) (x := 4) C (by decide +kernel) wf_2165 (by decide +kernel) ?_
        refine zs_csRi (pc := 25) (As := [sL a2, sL 0, sL 4]) (st := []) C rfl (c_X12_within l g a2 0 4) ml_RX12_149 rfl rfl (Nat.le_of_ble_eq_true rfl) ⟨Nat.le_of_ble_eq_true rfl, Nat.le_of_ble_eq_true rfl⟩ ⟨Nat.le_of_ble_eq_true rfl, Nat.le_of_ble_eq_true rfl⟩ (by decide +kernel) (fun x5 => ?_)
        refine zs_if_ne (pc := 28) (off := 5) (tgt := 33) C (by decide +kernel) (by decide) ?_ ?_
        · refine zs_lload_n (pc := 33) (k := 1) (i := 1) C (by decide +kernel) rfl rfl ?_
          refine zs_l2i (pc := 34) C (by decide +kernel) ?_
          refine zs_let (fun x6 => ?_)
          refine zs_istore (pc := 35) (i := 7) (ls' := [(7, sI x6), (0, sR 287), (1, sL a0), (3, sL a1), (5, sL a2)]) C (by decide +kernel) (Nat.le_of_ble_eq_true rfl) rfl ?_
          refine zs_aload_n (pc := 37) (k := 0) (i := 0) C (by decide +kernel) rfl rfl ?_
          refine zs_iload (pc := 38) (i := 7) C (by decide +kernel) rfl ?_
          refine zs_iconst (pc := 40) (n := 0) (x := 0) C (by decide +kernel) (by decide +kernel) ?_
          refine zs_aload_n (pc := 41) (k := 0) (i := 0) C (by decide +kernel) rfl rfl ?_
          refine zs_getR (o' := 288) (pc := 42) (i := 9) (ci := 12) (k := 0) C (by decide +kernel) fl_RX12_9 rfl rfl rfl ?_
          refine zs_bipush (pc := 45) (n := 13) (x := 13) C (by decide +kernel) (by decide +kernel) ?_
          refine zs_iload (pc := 47) (i := 7) C (by decide +kernel) rfl ?_
          refine zs_iadd (pc := 49) C (by decide +kernel) ?_
          refine zs_iald (pc := 50) (o := 288) (n := 2005) C (by decide +kernel) rfl (fun hinx7 x7 => ?_)
          refine zs_lload_n (pc := 51) (k := 3) (i := 3) C (by decide +kernel) rfl rfl ?_
          refine zs_l2i (pc := 52) C (by decide +kernel) ?_
          refine zs_cvWi (pc := 53) (As := [sI x6, sI 0, sI x7, sI (w32 a1)]) (st := []) C (fun _ _ _ => rfl) rfl (c_X12_goesTo l g x6 0 x7 (w32 a1)) ml_RX12_366 rfl rfl rfl rfl (Nat.le_of_ble_eq_true rfl) ⟨Nat.le_of_ble_eq_true rfl, Nat.le_of_ble_eq_true rfl⟩ ⟨Nat.le_of_ble_eq_true rfl, Nat.le_of_ble_eq_true rfl⟩ (by decide +kernel) (fun x8 => ?_)
          refine zs_istore (pc := 56) (i := 8) (ls' := [(8, sI x8), (7, sI x6), (0, sR 287), (1, sL a0), (3, sL a1), (5, sL a2)]) C (by decide +kernel) (Nat.le_of_ble_eq_true rfl) rfl ?_
          refine zs_aload_n (pc := 58) (k := 0) (i := 0) C (by decide +kernel) rfl rfl ?_
          refine zs_iload (pc := 59) (i := 7) C (by decide +kernel) rfl ?_
          refine zs_iconst (pc := 61) (n := 1) (x := 1) C (by decide +kernel) (by decide +kernel) ?_
          refine zs_aload_n (pc := 62) (k := 0) (i := 0) C (by decide +kernel) rfl rfl ?_
          refine zs_getR (o' := 288) (pc := 63) (i := 9) (ci := 12) (k := 0) C (by decide +kernel) fl_RX12_9 rfl rfl rfl ?_
          refine zs_bipush (pc := 66) (n := 17) (x := 17) C (by decide +kernel) (by decide +kernel) ?_
          refine zs_iload (pc := 68) (i := 7) C (by decide +kernel) rfl ?_
          refine zs_iadd (pc := 70) C (by decide +kernel) ?_
          refine zs_iald (pc := 71) (o := 288) (n := 2005) C (by decide +kernel) rfl (fun hinx9 x9 => ?_)
          refine zs_lload (pc := 72) (i := 5) C (by decide +kernel) rfl ?_
          refine zs_l2i (pc := 74) C (by decide +kernel) ?_
          refine zs_cvWi (pc := 75) (As := [sI x6, sI 1, sI x9, sI (w32 a2)]) (st := []) C (fun _ _ _ => rfl) rfl (c_X12_goesTo l g x6 1 x9 (w32 a2)) ml_RX12_366 rfl rfl rfl rfl (Nat.le_of_ble_eq_true rfl) ⟨Nat.le_of_ble_eq_true rfl, Nat.le_of_ble_eq_true rfl⟩ ⟨Nat.le_of_ble_eq_true rfl, Nat.le_of_ble_eq_true rfl⟩ (by decide +kernel) (fun x10 => ?_)
          refine zs_istore (pc := 78) (i := 9) (ls' := [(9, sI x10), (8, sI x8), (7, sI x6), (0, sR 287), (1, sL a0), (3, sL a1), (5, sL a2)]) C (by decide +kernel) (Nat.le_of_ble_eq_true rfl) rfl ?_
          refine zs_iload (pc := 80) (i := 8) C (by decide +kernel) rfl ?_
          refine zs_iconst (pc := 82) (n := (-1)) (x := (-1)) C (by decide +kernel) (by decide +kernel) ?_
          refine zs_jn (pJ := 92) (kJ := 0) (sJ := 0) (fun t11 => []) (fun t11 => []) (fun t11 => ?_) (fun J12 hJ12 => ?_)
          · refine zs_iconst (pc := 92) (n := 2) (x := 2) C (by decide +kernel) (by decide +kernel) ?_
            exact zs_retWi (pc := 93) C hr ⟨Nat.le_of_ble_eq_true rfl, Nat.le_of_ble_eq_true rfl⟩ (by decide +kernel)
          · refine zs_icmp_eq (pc := 83) (off := 9) (tgt := 92) C (by decide +kernel) (by decide) ?_ ?_
            · exact zs_goj (hJ12 ()) trivial
            · refine zs_iload (pc := 86) (i := 9) C (by decide +kernel) rfl ?_
              refine zs_iconst (pc := 88) (n := (-1)) (x := (-1)) C (by decide +kernel) (by decide +kernel) ?_
              refine zs_icmp_ne (pc := 89) (off := 5) (tgt := 94) C (by decide +kernel) (by decide) ?_ ?_
              · refine zs_aload_n (pc := 94) (k := 0) (i := 0) C (by decide +kernel) rfl rfl ?_
                refine zs_iload (pc := 95) (i := 7) C (by decide +kernel) rfl ?_
                refine zs_cvRi (pc := 97) (As := [sI x6]) (st := []) C rfl (c_X12_isParted l g x6) ml_RX12_349 rfl rfl rfl rfl (Nat.le_of_ble_eq_true rfl) ⟨Nat.le_of_ble_eq_true rfl, Nat.le_of_ble_eq_true rfl⟩ ⟨Nat.le_of_ble_eq_true rfl, Nat.le_of_ble_eq_true rfl⟩ (by decide +kernel) (fun x13 => ?_)
                refine zs_jn (pJ := 144) (kJ := 0) (sJ := 0) (fun t14 => []) (fun t14 => [sI t14]) (fun t14 => ?_) (fun J15 hJ15 => ?_)
                · exact zs_retWi (pc := 144) C hr ⟨Nat.le_of_ble_eq_true rfl, Nat.le_of_ble_eq_true rfl⟩ (by decide +kernel)
                · refine zs_jn (pJ := 139) (kJ := 0) (sJ := 0) (fun t16 => []) (fun t16 => []) (fun t16 => ?_) (fun J17 hJ17 => ?_)
                  · refine zs_iconst (pc := 139) (n := 0) (x := 0) C (by decide +kernel) (by decide +kernel) ?_
                    refine zs_goto (pc := 140) (off := 4) (tgt := 144) C (by decide +kernel) (by decide) ?_
                    exact zs_goj (hJ15 0) trivial
                  · refine zs_if_ne (pc := 100) (off := 39) (tgt := 139) C (by decide +kernel) (by decide) ?_ ?_
                    · exact zs_goj (hJ17 ()) trivial
                    · refine zs_aload_n (pc := 103) (k := 0) (i := 0) C (by decide +kernel) rfl rfl ?_
                      refine zs_iload (pc := 104) (i := 8) C (by decide +kernel) rfl ?_
                      refine zs_iload (pc := 106) (i := 9) C (by decide +kernel) rfl ?_
                      refine zs_cvRi (pc := 108) (As := [sI x8, sI x10]) (st := []) C rfl (c_X12_apart l g x8 x10) ml_RX12_298 rfl rfl rfl rfl (Nat.le_of_ble_eq_true rfl) ⟨Nat.le_of_ble_eq_true rfl, Nat.le_of_ble_eq_true rfl⟩ ⟨Nat.le_of_ble_eq_true rfl, Nat.le_of_ble_eq_true rfl⟩ (by decide +kernel) (fun x18 => ?_)
                      refine zs_aload_n (pc := 111) (k := 0) (i := 0) C (by decide +kernel) rfl rfl ?_
                      refine zs_iload (pc := 112) (i := 7) C (by decide +kernel) rfl ?_
                      refine zs_aload_n (pc := 114) (k := 0) (i := 0) C (by decide +kernel) rfl rfl ?_
                      refine zs_getR (o' := 288) (pc := 115) (i := 9) (ci := 12) (k := 0) C (by decide +kernel) fl_RX12_9 rfl rfl rfl ?_
                      refine zs_bipush (pc := 118) (n := 25) (x := 25) C (by decide +kernel) (by decide +kernel) ?_
                      refine zs_iload (pc := 120) (i := 7) C (by decide +kernel) rfl ?_
                      refine zs_iadd (pc := 122) C (by decide +kernel) ?_
                      refine zs_iald (pc := 123) (o := 288) (n := 2005) C (by decide +kernel) rfl (fun hinx19 x19 => ?_)
                      refine zs_aload_n (pc := 124) (k := 0) (i := 0) C (by decide +kernel) rfl rfl ?_
                      refine zs_getR (o' := 288) (pc := 125) (i := 9) (ci := 12) (k := 0) C (by decide +kernel) fl_RX12_9 rfl rfl rfl ?_
                      refine zs_bipush (pc := 128) (n := 24) (x := 24) C (by decide +kernel) (by decide +kernel) ?_
                      refine zs_ialdk (pc := 130) (o := 288) (n := 2005) C (by decide) (by decide +kernel) rfl (fun x20 => ?_)
                      refine zs_iconst (pc := 131) (n := 1) (x := 1) C (by decide +kernel) (by decide +kernel) ?_
                      refine zs_iadd (pc := 132) C (by decide +kernel) ?_
                      refine zs_cvWi (pc := 133) (As := [sI x6, sI x19, sI (w32 (x20 + 1))]) (st := [sI x18]) C (fun _ _ _ => rfl) rfl (c_X12_lengthIn l g x6 x19 (w32 (x20 + 1))) ml_RX12_330 rfl rfl rfl rfl (Nat.le_of_ble_eq_true rfl) ⟨Nat.le_of_ble_eq_true rfl, Nat.le_of_ble_eq_true rfl⟩ ⟨Nat.le_of_ble_eq_true rfl, Nat.le_of_ble_eq_true rfl⟩ (by decide +kernel) (fun x21 => ?_)
                      refine zs_icmp_gt (pc := 136) (off := 7) (tgt := 143) C (by decide +kernel) (by decide) ?_ ?_
                      · refine zs_iconst (pc := 143) (n := 3) (x := 3) C (by decide +kernel) (by decide +kernel) ?_
                        exact zs_goj (hJ15 3) trivial
                      · exact zs_goj (hJ17 ()) trivial
              · exact zs_goj (hJ12 ()) trivial
        · exact zs_goj (hJ3 ()) trivial
set_option maxRecDepth 20000 in
theorem c_X12_hour (l : Launch) (g : GC)  : ConW l g yX12_hour cX12_hour 3 (some .int) (rmd 6 0 0) [sR 287] (fun mm => fX12_hour  mm) := by
  refine zs_ofW (by decide +kernel) (Nat.le_of_ble_eq_true rfl) ?_
  intro p e s m args below meth c C hr
  replace C : Bd g RX12 cX12_hour 3 p s m args meth c := C
  unfold fX12_hour
  refine zs_aload_n (pc := 0) (k := 0) (i := 0) C (by decide +kernel) rfl rfl ?_
  refine zs_getR (o' := 288) (pc := 1) (i := 9) (ci := 12) (k := 0) C (by decide +kernel) fl_RX12_9 rfl rfl rfl ?_
  refine zs_bipush (pc := 4) (n := 24) (x := 24) C (by decide +kernel) (by decide +kernel) ?_
  refine zs_dup2 (pc := 6) C rfl rfl (by decide +kernel) ?_
  refine zs_ialdk (pc := 7) (o := 288) (n := 2005) C (by decide) (by decide +kernel) rfl (fun x1 => ?_)
  refine zs_iconst (pc := 8) (n := 1) (x := 1) C (by decide +kernel) (by decide +kernel) ?_
  refine zs_iadd (pc := 9) C (by decide +kernel) ?_
  refine zs_iastk (pc := 10) (o := 288) (n := 2005) C (by decide) (fun _ _ _ => rfl) (by decide +kernel) rfl ?_
  refine zs_iconst (pc := 11) (n := 0) (x := 0) C (by decide +kernel) (by decide +kernel) ?_
  refine zs_istore_n (pc := 12) (k := 1) (i := 1) (ls' := [(1, sI 0), (0, sR 287)]) C (by decide +kernel) rfl (Nat.le_of_ble_eq_true rfl) rfl ?_
  refine zs_iconst (pc := 13) (n := 0) (x := 0) C (by decide +kernel) (by decide +kernel) ?_
  refine zs_istore_n (pc := 14) (k := 2) (i := 2) (ls' := [(2, sI 0), (1, sI 0), (0, sR 287)]) C (by decide +kernel) rfl (Nat.le_of_ble_eq_true rfl) rfl ?_
  refine zs_sub (ls' := [(0, sR 287), (1, sI 0), (2, sI 0)]) ⟨rfl, rfl, rfl, trivial⟩ ?_
  refine zs_lp (pc := 15) (fun (t2 : Int × Int) => [(0, sR 287), (1, sI t2.1), (2, sI t2.2)]) (fun _ => []) (fun K3 hK3 t2 => ?_) BIG (0, 0)
  refine zs_iload_n (pc := 15) (k := 2) (i := 2) C (by decide +kernel) rfl rfl ?_
  refine zs_aload_n (pc := 16) (k := 0) (i := 0) C (by decide +kernel) rfl rfl ?_
  refine zs_getR (o' := 288) (pc := 17) (i := 9) (ci := 12) (k := 0) C (by decide +kernel) fl_RX12_9 rfl rfl rfl ?_
  refine zs_iconst (pc := 20) (n := 3) (x := 3) C (by decide +kernel) (by decide +kernel) ?_
  refine zs_ialdk (pc := 21) (o := 288) (n := 2005) C (by decide) (by decide +kernel) rfl (fun x4 => ?_)
  refine zs_icmp_ge (pc := 22) (off := 40) (tgt := 62) C (by decide +kernel) (by decide) ?_ ?_
  · refine zs_aload_n (pc := 62) (k := 0) (i := 0) C (by decide +kernel) rfl rfl ?_
    refine zs_getR (o' := 288) (pc := 63) (i := 9) (ci := 12) (k := 0) C (by decide +kernel) fl_RX12_9 rfl rfl rfl ?_
    refine zs_bipush (pc := 66) (n := 21) (x := 21) C (by decide +kernel) (by decide +kernel) ?_
    refine zs_dup2 (pc := 68) C rfl rfl (by decide +kernel) ?_
    refine zs_ialdk (pc := 69) (o := 288) (n := 2005) C (by decide) (by decide +kernel) rfl (fun x5 => ?_)
    refine zs_iload_n (pc := 70) (k := 1) (i := 1) C (by decide +kernel) rfl rfl ?_
    refine zs_ior (pc := 71) C (by decide +kernel) ?_
    refine zs_iastk (pc := 72) (o := 288) (n := 2005) C (by decide) (fun _ _ _ => rfl) (by decide +kernel) rfl ?_
    refine zs_iload_n (pc := 73) (k := 1) (i := 1) C (by decide +kernel) rfl rfl ?_
    exact zs_retWi (pc := 74) C hr ⟨Nat.le_of_ble_eq_true rfl, Nat.le_of_ble_eq_true rfl⟩ (by decide +kernel)
  · refine zs_iload_n (pc := 25) (k := 1) (i := 1) C (by decide +kernel) rfl rfl ?_
    refine zs_aload_n (pc := 26) (k := 0) (i := 0) C (by decide +kernel) rfl rfl ?_
    refine zs_iload_n (pc := 27) (k := 2) (i := 2) C (by decide +kernel) rfl rfl ?_
    refine zs_cvRi (pc := 28) (As := [sI t2.2]) (st := [sI t2.1]) C rfl (c_X12_isParted l g t2.2) ml_RX12_349 rfl rfl rfl rfl (Nat.le_of_ble_eq_true rfl) ⟨Nat.le_of_ble_eq_true rfl, Nat.le_of_ble_eq_true rfl⟩ ⟨Nat.le_of_ble_eq_true rfl, Nat.le_of_ble_eq_true rfl⟩ (by decide +kernel) (fun x6 => ?_)
    refine zs_jn (pJ := 54) (kJ := 0) (sJ := 0) (fun t7 => [(0, sR 287), (2, sI t2.2)]) (fun t7 => [sI t7, sI t2.1]) (fun t7 => ?_) (fun J8 hJ8 => ?_)
    · refine zs_ior (pc := 54) C (by decide +kernel) ?_
      refine zs_let (fun x9 => ?_)
      refine zs_istore_n (pc := 55) (k := 1) (i := 1) (ls' := [(1, sI x9), (0, sR 287), (2, sI t2.2)]) C (by decide +kernel) rfl (Nat.le_of_ble_eq_true rfl) rfl ?_
      refine zs_iinc (pc := 56) (i := 2) (n := 1) (y := w32 (t2.2 + 1)) (ls' := [(2, sI (w32 (t2.2 + 1))), (1, sI x9), (0, sR 287)]) C (by decide +kernel) rfl rfl (Nat.le_of_ble_eq_true rfl) rfl ?_
      refine zs_goto (pc := 59) (off := (-44)) (tgt := 15) C (by decide +kernel) (by decide) ?_
      exact zs_goj (hK3 (x9, w32 (t2.2 + 1))) ⟨rfl, rfl, rfl, trivial⟩
    · refine zs_jn (pJ := 53) (kJ := 0) (sJ := 0) (fun t10 => [(0, sR 287), (2, sI t2.2)]) (fun t10 => [sI t2.1]) (fun t10 => ?_) (fun J11 hJ11 => ?_)
      · refine zs_iconst (pc := 53) (n := 0) (x := 0) C (by decide +kernel) (by decide +kernel) ?_
        exact zs_goj (hJ8 0) ⟨rfl, rfl, trivial⟩
      · refine zs_if_ne (pc := 31) (off := 22) (tgt := 53) C (by decide +kernel) (by decide) ?_ ?_
        · exact zs_goj (hJ11 ()) ⟨rfl, rfl, trivial⟩
        · refine zs_aload_n (pc := 34) (k := 0) (i := 0) C (by decide +kernel) rfl rfl ?_
          refine zs_iload_n (pc := 35) (k := 2) (i := 2) C (by decide +kernel) rfl rfl ?_
          refine zs_cvRi (pc := 36) (As := [sI t2.2]) (st := [sI t2.1]) C rfl (c_X12_apartOf l g t2.2) ml_RX12_343 rfl rfl rfl rfl (Nat.le_of_ble_eq_true rfl) ⟨Nat.le_of_ble_eq_true rfl, Nat.le_of_ble_eq_true rfl⟩ ⟨Nat.le_of_ble_eq_true rfl, Nat.le_of_ble_eq_true rfl⟩ (by decide +kernel) (fun x12 => ?_)
          refine zs_aload_n (pc := 39) (k := 0) (i := 0) C (by decide +kernel) rfl rfl ?_
          refine zs_iload_n (pc := 40) (k := 2) (i := 2) C (by decide +kernel) rfl rfl ?_
          refine zs_cvWi (pc := 41) (As := [sI t2.2]) (st := [sI x12, sI t2.1]) C (fun _ _ _ => rfl) rfl (c_X12_lengthNow l g t2.2) ml_RX12_346 rfl rfl rfl rfl (Nat.le_of_ble_eq_true rfl) ⟨Nat.le_of_ble_eq_true rfl, Nat.le_of_ble_eq_true rfl⟩ ⟨Nat.le_of_ble_eq_true rfl, Nat.le_of_ble_eq_true rfl⟩ (by decide +kernel) (fun x13 => ?_)
          refine zs_icmp_le (pc := 44) (off := 9) (tgt := 53) C (by decide +kernel) (by decide) ?_ ?_
          · exact zs_goj (hJ11 ()) ⟨rfl, rfl, trivial⟩
          · refine zs_iconst (pc := 47) (n := 1) (x := 1) C (by decide +kernel) (by decide +kernel) ?_
            refine zs_iload_n (pc := 48) (k := 2) (i := 2) C (by decide +kernel) rfl rfl ?_
            refine zs_ishl (pc := 49) C (by decide +kernel) ?_
            refine zs_goto (pc := 50) (off := 4) (tgt := 54) C (by decide +kernel) (by decide) ?_
            exact zs_goj (hJ8 (ishl 1 t2.2)) ⟨rfl, rfl, trivial⟩
set_option maxRecDepth 20000 in
theorem c_X12_steps (l : Launch) (g : GC) (a0 : Int) (a1 : Int) (a2 : Int) : ConV l g yX12_steps cX12_steps 4 (rmd 7 0 0) [sR 287, sI a0, sI a1, sI a2] (fun mm => fX12_steps a0 a1 a2 mm) := by
  refine zs_ofV (by decide +kernel) (Nat.le_of_ble_eq_true rfl) ?_
  intro p e s m args below meth c C hr
  replace C : Bd g RX12 cX12_steps 4 p s m args meth c := C
  unfold fX12_steps
  refine zs_aload_n (pc := 0) (k := 0) (i := 0) C (by decide +kernel) rfl rfl ?_
  refine zs_getR (o' := 288) (pc := 1) (i := 9) (ci := 12) (k := 0) C (by decide +kernel) fl_RX12_9 rfl rfl rfl ?_
  refine zs_bipush (pc := 4) (n := 13) (x := 13) C (by decide +kernel) (by decide +kernel) ?_
  refine zs_iload_n (pc := 6) (k := 1) (i := 1) C (by decide +kernel) rfl rfl ?_
  refine zs_iadd (pc := 7) C (by decide +kernel) ?_
  refine zs_aload_n (pc := 8) (k := 0) (i := 0) C (by decide +kernel) rfl rfl ?_
  refine zs_aload_n (pc := 9) (k := 0) (i := 0) C (by decide +kernel) rfl rfl ?_
  refine zs_getR (o' := 288) (pc := 10) (i := 9) (ci := 12) (k := 0) C (by decide +kernel) fl_RX12_9 rfl rfl rfl ?_
  refine zs_bipush (pc := 13) (n := 13) (x := 13) C (by decide +kernel) (by decide +kernel) ?_
  refine zs_iload_n (pc := 15) (k := 1) (i := 1) C (by decide +kernel) rfl rfl ?_
  refine zs_iadd (pc := 16) C (by decide +kernel) ?_
  refine zs_iald (pc := 17) (o := 288) (n := 2005) C (by decide +kernel) rfl (fun hinx1 x1 => ?_)
  refine zs_iload_n (pc := 18) (k := 2) (i := 2) C (by decide +kernel) rfl rfl ?_
  refine zs_cvRi (pc := 19) (As := [sI x1, sI a1]) (st := [sI (w32 (13 + a0)), sR 288]) C rfl (c_X12_turned l g x1 a1) ml_RX12_361 rfl rfl rfl rfl (Nat.le_of_ble_eq_true rfl) ⟨Nat.le_of_ble_eq_true rfl, Nat.le_of_ble_eq_true rfl⟩ ⟨Nat.le_of_ble_eq_true rfl, Nat.le_of_ble_eq_true rfl⟩ (by decide +kernel) (fun x2 => ?_)
  refine zs_iast (pc := 22) (o := 288) (n := 2005) C (fun _ _ _ => rfl) (by decide +kernel) rfl ?_
  refine zs_aload_n (pc := 23) (k := 0) (i := 0) C (by decide +kernel) rfl rfl ?_
  refine zs_getR (o' := 288) (pc := 24) (i := 9) (ci := 12) (k := 0) C (by decide +kernel) fl_RX12_9 rfl rfl rfl ?_
  refine zs_bipush (pc := 27) (n := 17) (x := 17) C (by decide +kernel) (by decide +kernel) ?_
  refine zs_iload_n (pc := 29) (k := 1) (i := 1) C (by decide +kernel) rfl rfl ?_
  refine zs_iadd (pc := 30) C (by decide +kernel) ?_
  refine zs_aload_n (pc := 31) (k := 0) (i := 0) C (by decide +kernel) rfl rfl ?_
  refine zs_aload_n (pc := 32) (k := 0) (i := 0) C (by decide +kernel) rfl rfl ?_
  refine zs_getR (o' := 288) (pc := 33) (i := 9) (ci := 12) (k := 0) C (by decide +kernel) fl_RX12_9 rfl rfl rfl ?_
  refine zs_bipush (pc := 36) (n := 17) (x := 17) C (by decide +kernel) (by decide +kernel) ?_
  refine zs_iload_n (pc := 38) (k := 1) (i := 1) C (by decide +kernel) rfl rfl ?_
  refine zs_iadd (pc := 39) C (by decide +kernel) ?_
  refine zs_iald (pc := 40) (o := 288) (n := 2005) C (by decide +kernel) rfl (fun hinx3 x3 => ?_)
  refine zs_iload_n (pc := 41) (k := 3) (i := 3) C (by decide +kernel) rfl rfl ?_
  refine zs_cvRi (pc := 42) (As := [sI x3, sI a2]) (st := [sI (w32 (17 + a0)), sR 288]) C rfl (c_X12_turned l g x3 a2) ml_RX12_361 rfl rfl rfl rfl (Nat.le_of_ble_eq_true rfl) ⟨Nat.le_of_ble_eq_true rfl, Nat.le_of_ble_eq_true rfl⟩ ⟨Nat.le_of_ble_eq_true rfl, Nat.le_of_ble_eq_true rfl⟩ (by decide +kernel) (fun x4 => ?_)
  refine zs_iast (pc := 45) (o := 288) (n := 2005) C (fun _ _ _ => rfl) (by decide +kernel) rfl ?_
  refine zs_aload_n (pc := 46) (k := 0) (i := 0) C (by decide +kernel) rfl rfl ?_
  refine zs_cvWi (pc := 47) (As := []) (st := []) C (fun _ _ _ => rfl) rfl (c_X12_hour l g ) ml_RX12_370 rfl rfl rfl rfl (Nat.le_of_ble_eq_true rfl) ⟨Nat.le_of_ble_eq_true rfl, Nat.le_of_ble_eq_true rfl⟩ ⟨Nat.le_of_ble_eq_true rfl, Nat.le_of_ble_eq_true rfl⟩ (by decide +kernel) (fun x5 => ?_)
  refine zs_pop (pc := 50) C rfl (by decide +kernel) ?_
  exact zs_retVv (pc := 51) C hr ⟨Nat.le_of_ble_eq_true rfl, Nat.le_of_ble_eq_true rfl⟩ (by decide +kernel)
set_option maxRecDepth 20000 in
theorem c_X12_rains (l : Launch) (g : GC) (a0 : Int) (a1 : Int) : ConV l g yX12_rains cX12_rains 3 (rmd 1 0 0) [sR 287, sI a0, sI a1] (fun mm => fX12_rains a0 a1 mm) := by
  refine zs_ofV (by decide +kernel) (Nat.le_of_ble_eq_true rfl) ?_
  intro p e s m args below meth c C hr
  replace C : Bd g RX12 cX12_rains 3 p s m args meth c := C
  unfold fX12_rains
  refine zs_aload_n (pc := 0) (k := 0) (i := 0) C (by decide +kernel) rfl rfl ?_
  refine zs_getR (o' := 288) (pc := 1) (i := 9) (ci := 12) (k := 0) C (by decide +kernel) fl_RX12_9 rfl rfl rfl ?_
  refine zs_bipush (pc := 4) (n := 22) (x := 22) C (by decide +kernel) (by decide +kernel) ?_
  refine zs_iload_n (pc := 6) (k := 1) (i := 1) C (by decide +kernel) rfl rfl ?_
  refine zs_iastk (pc := 7) (o := 288) (n := 2005) C (by decide) (fun _ _ _ => rfl) (by decide +kernel) rfl ?_
  refine zs_aload_n (pc := 8) (k := 0) (i := 0) C (by decide +kernel) rfl rfl ?_
  refine zs_getR (o' := 288) (pc := 9) (i := 9) (ci := 12) (k := 0) C (by decide +kernel) fl_RX12_9 rfl rfl rfl ?_
  refine zs_bipush (pc := 12) (n := 23) (x := 23) C (by decide +kernel) (by decide +kernel) ?_
  refine zs_aload_n (pc := 14) (k := 0) (i := 0) C (by decide +kernel) rfl rfl ?_
  refine zs_getR (o' := 288) (pc := 15) (i := 9) (ci := 12) (k := 0) C (by decide +kernel) fl_RX12_9 rfl rfl rfl ?_
  refine zs_bipush (pc := 18) (n := 24) (x := 24) C (by decide +kernel) (by decide +kernel) ?_
  refine zs_ialdk (pc := 20) (o := 288) (n := 2005) C (by decide) (by decide +kernel) rfl (fun x1 => ?_)
  refine zs_iload_n (pc := 21) (k := 2) (i := 2) C (by decide +kernel) rfl rfl ?_
  refine zs_iadd (pc := 22) C (by decide +kernel) ?_
  refine zs_iastk (pc := 23) (o := 288) (n := 2005) C (by decide) (fun _ _ _ => rfl) (by decide +kernel) rfl ?_
  exact zs_retVv (pc := 24) C hr ⟨Nat.le_of_ble_eq_true rfl, Nat.le_of_ble_eq_true rfl⟩ (by decide +kernel)
set_option maxRecDepth 20000 in
theorem c_X12_step (l : Launch) (g : GC) (a0 : Int) (a1 : Int) (a2 : Int) : ConW l g yX12_step cX12_step 5 (some .int) (rmd 8 0 0) [sR 287, sI a0, sI a1, sI a2] (fun mm => fX12_step a0 a1 a2 mm) := by
  refine zs_ofW (by decide +kernel) (Nat.le_of_ble_eq_true rfl) ?_
  intro p e s m args below meth c C hr
  replace C : Bd g RX12 cX12_step 5 p s m args meth c := C
  unfold fX12_step
  refine zs_aload_n (pc := 0) (k := 0) (i := 0) C (by decide +kernel) rfl rfl ?_
  refine zs_iconst (pc := 1) (n := 0) (x := 0) C (by decide +kernel) (by decide +kernel) ?_
  refine zs_putI (pc := 2) (i := 88) (ci := 12) (k := 4) C (fun _ _ _ => rfl) (by decide +kernel) fl_RX12_88 fw_12_4 rfl rfl ?_
  refine zs_aload_n (pc := 5) (k := 0) (i := 0) C (by decide +kernel) rfl rfl ?_
  refine zs_iload_n (pc := 6) (k := 1) (i := 1) C (by decide +kernel) rfl rfl ?_
  refine zs_i2l (pc := 7) C (by decide +kernel) ?_
  refine zs_iload_n (pc := 8) (k := 2) (i := 2) C (by decide +kernel) rfl rfl ?_
  refine zs_i2l (pc := 9) C (by decide +kernel) ?_
  refine zs_iload_n (pc := 10) (k := 3) (i := 3) C (by decide +kernel) rfl rfl ?_
  refine zs_i2l (pc := 11) C (by decide +kernel) ?_
  refine zs_cvWi (pc := 12) (As := [sL a0, sL a1, sL a2]) (st := []) C (fun _ _ _ => rfl) rfl (c_X12_whyStep l g a0 a1 a2) ml_RX12_372 rfl rfl rfl rfl (Nat.le_of_ble_eq_true rfl) ⟨Nat.le_of_ble_eq_true rfl, Nat.le_of_ble_eq_true rfl⟩ ⟨Nat.le_of_ble_eq_true rfl, Nat.le_of_ble_eq_true rfl⟩ (by decide +kernel) (fun x1 => ?_)
  refine zs_istore (pc := 15) (i := 4) (ls' := [(4, sI x1), (0, sR 287), (1, sI a0), (2, sI a1), (3, sI a2)]) C (by decide +kernel) (Nat.le_of_ble_eq_true rfl) rfl ?_
  refine zs_iload (pc := 17) (i := 4) C (by decide +kernel) rfl ?_
  refine zs_if_eq (pc := 19) (off := 7) (tgt := 26) C (by decide +kernel) (by decide) ?_ ?_
  · refine zs_aload_n (pc := 26) (k := 0) (i := 0) C (by decide +kernel) rfl rfl ?_
    refine zs_cvVv (pc := 27) (As := []) (st := []) C (fun _ _ _ => rfl) (c_X12_keeps l g ) ml_RX12_376 rfl rfl rfl rfl (Nat.le_of_ble_eq_true rfl) ⟨Nat.le_of_ble_eq_true rfl, Nat.le_of_ble_eq_true rfl⟩ ⟨Nat.le_of_ble_eq_true rfl, Nat.le_of_ble_eq_true rfl⟩ (by decide +kernel) ?_
    refine zs_aload_n (pc := 30) (k := 0) (i := 0) C (by decide +kernel) rfl rfl ?_
    refine zs_iload_n (pc := 31) (k := 1) (i := 1) C (by decide +kernel) rfl rfl ?_
    refine zs_iload_n (pc := 32) (k := 2) (i := 2) C (by decide +kernel) rfl rfl ?_
    refine zs_iload_n (pc := 33) (k := 3) (i := 3) C (by decide +kernel) rfl rfl ?_
    refine zs_cvVv (pc := 34) (As := [sI a0, sI a1, sI a2]) (st := []) C (fun _ _ _ => rfl) (c_X12_steps l g a0 a1 a2) ml_RX12_379 rfl rfl rfl rfl (Nat.le_of_ble_eq_true rfl) ⟨Nat.le_of_ble_eq_true rfl, Nat.le_of_ble_eq_true rfl⟩ ⟨Nat.le_of_ble_eq_true rfl, Nat.le_of_ble_eq_true rfl⟩ (by decide +kernel) ?_
    refine zs_aload_n (pc := 37) (k := 0) (i := 0) C (by decide +kernel) rfl rfl ?_
    refine zs_iload_n (pc := 38) (k := 1) (i := 1) C (by decide +kernel) rfl rfl ?_
    refine zs_cvRi (pc := 39) (As := [sI a0]) (st := []) C rfl (c_X12_apartOf l g a0) ml_RX12_343 rfl rfl rfl rfl (Nat.le_of_ble_eq_true rfl) ⟨Nat.le_of_ble_eq_true rfl, Nat.le_of_ble_eq_true rfl⟩ ⟨Nat.le_of_ble_eq_true rfl, Nat.le_of_ble_eq_true rfl⟩ (by decide +kernel) (fun x2 => ?_)
    exact zs_retWi (pc := 42) C hr ⟨Nat.le_of_ble_eq_true rfl, Nat.le_of_ble_eq_true rfl⟩ (by decide +kernel)
  · refine zs_iload (pc := 22) (i := 4) C (by decide +kernel) rfl ?_
    refine zs_ineg (pc := 24) C (by decide +kernel) ?_
    exact zs_retWi (pc := 25) C hr ⟨Nat.le_of_ble_eq_true rfl, Nat.le_of_ble_eq_true rfl⟩ (by decide +kernel)
set_option maxRecDepth 20000 in
theorem c_X12_tie (l : Launch) (g : GC) (a0 : Int) (a1 : Int) : ConW l g yX12_tie cX12_tie 3 (some .int) (rmd 6 0 0) [sR 287, sI a0, sI a1] (fun mm => fX12_tie a0 a1 mm) := by
  refine zs_ofW (by decide +kernel) (Nat.le_of_ble_eq_true rfl) ?_
  intro p e s m args below meth c C hr
  replace C : Bd g RX12 cX12_tie 3 p s m args meth c := C
  unfold fX12_tie
  refine zs_aload_n (pc := 0) (k := 0) (i := 0) C (by decide +kernel) rfl rfl ?_
  refine zs_aload_n (pc := 1) (k := 0) (i := 0) C (by decide +kernel) rfl rfl ?_
  refine zs_iload_n (pc := 2) (k := 1) (i := 1) C (by decide +kernel) rfl rfl ?_
  refine zs_i2l (pc := 3) C (by decide +kernel) ?_
  refine zs_cvRi (pc := 4) (As := [sL a0]) (st := [sR 287]) C rfl (c_X12_isPair l g a0) ml_RX12_338 rfl rfl rfl rfl (Nat.le_of_ble_eq_true rfl) ⟨Nat.le_of_ble_eq_true rfl, Nat.le_of_ble_eq_true rfl⟩ ⟨Nat.le_of_ble_eq_true rfl, Nat.le_of_ble_eq_true rfl⟩ (by decide +kernel) (fun x1 => ?_)
  refine zs_jn (pJ := 31) (kJ := 0) (sJ := 0) (fun t2 => [(0, sR 287), (1, sI a0), (2, sI a1)]) (fun t2 => [sI t2, sR 287]) (fun t2 => ?_) (fun J3 hJ3 => ?_)
  · refine zs_putI (pc := 31) (i := 88) (ci := 12) (k := 4) C (fun _ _ _ => rfl) (by decide +kernel) fl_RX12_88 fw_12_4 rfl rfl ?_
    refine zs_aload_n (pc := 34) (k := 0) (i := 0) C (by decide +kernel) rfl rfl ?_
    refine zs_getI (pc := 35) (i := 88) (ci := 12) (k := 4) C (by decide +kernel) fl_RX12_88 rfl rfl (fun x4 => ?_)
    refine zs_if_le (pc := 38) (off := 5) (tgt := 43) C (by decide +kernel) (by decide) ?_ ?_
    · refine zs_aload_n (pc := 43) (k := 0) (i := 0) C (by decide +kernel) rfl rfl ?_
      refine zs_cvVv (pc := 44) (As := []) (st := []) C (fun _ _ _ => rfl) (c_X12_keeps l g ) ml_RX12_376 rfl rfl rfl rfl (Nat.le_of_ble_eq_true rfl) ⟨Nat.le_of_ble_eq_true rfl, Nat.le_of_ble_eq_true rfl⟩ ⟨Nat.le_of_ble_eq_true rfl, Nat.le_of_ble_eq_true rfl⟩ (by decide +kernel) ?_
      refine zs_aload_n (pc := 47) (k := 0) (i := 0) C (by decide +kernel) rfl rfl ?_
      refine zs_getR (o' := 288) (pc := 48) (i := 9) (ci := 12) (k := 0) C (by decide +kernel) fl_RX12_9 rfl rfl rfl ?_
      refine zs_bipush (pc := 51) (n := 9) (x := 9) C (by decide +kernel) (by decide +kernel) ?_
      refine zs_iload_n (pc := 53) (k := 1) (i := 1) C (by decide +kernel) rfl rfl ?_
      refine zs_iadd (pc := 54) C (by decide +kernel) ?_
      refine zs_iload_n (pc := 55) (k := 2) (i := 2) C (by decide +kernel) rfl rfl ?_
      refine zs_iast (pc := 56) (o := 288) (n := 2005) C (fun _ _ _ => rfl) (by decide +kernel) rfl ?_
      refine zs_aload_n (pc := 57) (k := 0) (i := 0) C (by decide +kernel) rfl rfl ?_
      refine zs_iload_n (pc := 58) (k := 1) (i := 1) C (by decide +kernel) rfl rfl ?_
      refine zs_cvWi (pc := 59) (As := [sI a0]) (st := []) C (fun _ _ _ => rfl) rfl (c_X12_lengthNow l g a0) ml_RX12_346 rfl rfl rfl rfl (Nat.le_of_ble_eq_true rfl) ⟨Nat.le_of_ble_eq_true rfl, Nat.le_of_ble_eq_true rfl⟩ ⟨Nat.le_of_ble_eq_true rfl, Nat.le_of_ble_eq_true rfl⟩ (by decide +kernel) (fun x5 => ?_)
      exact zs_retWi (pc := 62) C hr ⟨Nat.le_of_ble_eq_true rfl, Nat.le_of_ble_eq_true rfl⟩ (by decide +kernel)
    · refine zs_iconst (pc := 41) (n := 0) (x := 0) C (by decide +kernel) (by decide +kernel) ?_
      exact zs_retWi (pc := 42) C hr ⟨Nat.le_of_ble_eq_true rfl, Nat.le_of_ble_eq_true rfl⟩ (by decide +kernel)
  · refine zs_if_ne (pc := 7) (off := 7) (tgt := 14) C (by decide +kernel) (by decide) ?_ ?_
    · refine zs_iload_n (pc := 14) (k := 2) (i := 2) C (by decide +kernel) rfl rfl ?_
      refine zs_i2l (pc := 15) C (by decide +kernel) ?_
      refine zs_lconst (pc := 16) (n := 0) (x := 0) C (by decide +kernel) (by decide +kernel) ?_
      refine zs_ldc2 (pc := 17) (i := 383) (v := 9) (x := 9) C (by decide +kernel) wf_2190 (by decide +kernel) ?_
      refine zs_csRi (pc := 20) (As := [sL a1, sL 0, sL 9]) (st := [sR 287]) C rfl (c_X12_within l g a1 0 9) ml_RX12_149 rfl rfl (Nat.le_of_ble_eq_true rfl) ⟨Nat.le_of_ble_eq_true rfl, Nat.le_of_ble_eq_true rfl⟩ ⟨Nat.le_of_ble_eq_true rfl, Nat.le_of_ble_eq_true rfl⟩ (by decide +kernel) (fun x6 => ?_)
      refine zs_if_eq (pc := 23) (off := 7) (tgt := 30) C (by decide +kernel) (by decide) ?_ ?_
      · refine zs_iconst (pc := 30) (n := 2) (x := 2) C (by decide +kernel) (by decide +kernel) ?_
        exact zs_goj (hJ3 2) ⟨rfl, rfl, rfl, trivial⟩
      · refine zs_iconst (pc := 26) (n := 0) (x := 0) C (by decide +kernel) (by decide +kernel) ?_
        refine zs_goto (pc := 27) (off := 4) (tgt := 31) C (by decide +kernel) (by decide) ?_
        exact zs_goj (hJ3 0) ⟨rfl, rfl, rfl, trivial⟩
    · refine zs_iconst (pc := 10) (n := 1) (x := 1) C (by decide +kernel) (by decide +kernel) ?_
      refine zs_goto (pc := 11) (off := 20) (tgt := 31) C (by decide +kernel) (by decide) ?_
      exact zs_goj (hJ3 1) ⟨rfl, rfl, rfl, trivial⟩
set_option maxRecDepth 20000 in
theorem c_X12_rain (l : Launch) (g : GC) (a0 : Int) (a1 : Int) : ConW l g yX12_rain cX12_rain 5 (some .int) (rmd 6 0 0) [sR 287, sI a0, sI a1] (fun mm => fX12_rain a0 a1 mm) := by
  refine zs_ofW (by decide +kernel) (Nat.le_of_ble_eq_true rfl) ?_
  intro p e s m args below meth c C hr
  replace C : Bd g RX12 cX12_rain 5 p s m args meth c := C
  unfold fX12_rain
  refine zs_aload_n (pc := 0) (k := 0) (i := 0) C (by decide +kernel) rfl rfl ?_
  refine zs_iconst (pc := 1) (n := 0) (x := 0) C (by decide +kernel) (by decide +kernel) ?_
  refine zs_putI (pc := 2) (i := 88) (ci := 12) (k := 4) C (fun _ _ _ => rfl) (by decide +kernel) fl_RX12_88 fw_12_4 rfl rfl ?_
  refine zs_iload_n (pc := 5) (k := 1) (i := 1) C (by decide +kernel) rfl rfl ?_
  refine zs_i2l (pc := 6) C (by decide +kernel) ?_
  refine zs_lconst (pc := 7) (n := 0) (x := 0) C (by decide +kernel) (by decide +kernel) ?_
  refine zs_ldc2 (pc := 8) (i := 383) (v := 9) (x := 9) C (by decide +kernel) wf_2190 (by decide +kernel) ?_
  refine zs_csRi (pc := 11) (As := [sL a0, sL 0, sL 9]) (st := []) C rfl (c_X12_within l g a0 0 9) ml_RX12_149 rfl rfl (Nat.le_of_ble_eq_true rfl) ⟨Nat.le_of_ble_eq_true rfl, Nat.le_of_ble_eq_true rfl⟩ ⟨Nat.le_of_ble_eq_true rfl, Nat.le_of_ble_eq_true rfl⟩ (by decide +kernel) (fun x1 => ?_)
  refine zs_jn (pJ := 29) (kJ := 0) (sJ := 0) (fun t2 => [(0, sR 287)]) (fun t2 => []) (fun t2 => ?_) (fun J3 hJ3 => ?_)
  · refine zs_aload_n (pc := 29) (k := 0) (i := 0) C (by decide +kernel) rfl rfl ?_
    refine zs_iconst (pc := 30) (n := 1) (x := 1) C (by decide +kernel) (by decide +kernel) ?_
    refine zs_cvWi (pc := 31) (As := [sI 1]) (st := []) C (fun _ _ _ => rfl) rfl (c_X12_fails l g 1) ml_RX12_279 rfl rfl rfl rfl (Nat.le_of_ble_eq_true rfl) ⟨Nat.le_of_ble_eq_true rfl, Nat.le_of_ble_eq_true rfl⟩ ⟨Nat.le_of_ble_eq_true rfl, Nat.le_of_ble_eq_true rfl⟩ (by decide +kernel) (fun x4 => ?_)
    exact zs_retWi (pc := 34) C hr ⟨Nat.le_of_ble_eq_true rfl, Nat.le_of_ble_eq_true rfl⟩ (by decide +kernel)
  · refine zs_if_eq (pc := 14) (off := 15) (tgt := 29) C (by decide +kernel) (by decide) ?_ ?_
    · exact zs_goj (hJ3 ()) ⟨rfl, trivial⟩
    · refine zs_iload_n (pc := 17) (k := 2) (i := 2) C (by decide +kernel) rfl rfl ?_
      refine zs_i2l (pc := 18) C (by decide +kernel) ?_
      refine zs_lconst (pc := 19) (n := 1) (x := 1) C (by decide +kernel) (by decide +kernel) ?_
      refine zs_ldc2 (pc := 20) (i := 385) (v := 99) (x := 99) C (by decide +kernel) wf_2195 (by decide +kernel) ?_
      refine zs_csRi (pc := 23) (As := [sL a1, sL 1, sL 99]) (st := []) C rfl (c_X12_within l g a1 1 99) ml_RX12_149 rfl rfl (Nat.le_of_ble_eq_true rfl) ⟨Nat.le_of_ble_eq_true rfl, Nat.le_of_ble_eq_true rfl⟩ ⟨Nat.le_of_ble_eq_true rfl, Nat.le_of_ble_eq_true rfl⟩ (by decide +kernel) (fun x5 => ?_)
      refine zs_if_ne (pc := 26) (off := 9) (tgt := 35) C (by decide +kernel) (by decide) ?_ ?_
      · refine zs_aload_n (pc := 35) (k := 0) (i := 0) C (by decide +kernel) rfl rfl ?_
        refine zs_cvVv (pc := 36) (As := []) (st := []) C (fun _ _ _ => rfl) (c_X12_keeps l g ) ml_RX12_376 rfl rfl rfl rfl (Nat.le_of_ble_eq_true rfl) ⟨Nat.le_of_ble_eq_true rfl, Nat.le_of_ble_eq_true rfl⟩ ⟨Nat.le_of_ble_eq_true rfl, Nat.le_of_ble_eq_true rfl⟩ (by decide +kernel) ?_
        refine zs_aload_n (pc := 39) (k := 0) (i := 0) C (by decide +kernel) rfl rfl ?_
        refine zs_iload_n (pc := 40) (k := 1) (i := 1) C (by decide +kernel) rfl rfl ?_
        refine zs_iload_n (pc := 41) (k := 2) (i := 2) C (by decide +kernel) rfl rfl ?_
        refine zs_cvVv (pc := 42) (As := [sI a0, sI a1]) (st := []) C (fun _ _ _ => rfl) (c_X12_rains l g a0 a1) ml_RX12_387 rfl rfl rfl rfl (Nat.le_of_ble_eq_true rfl) ⟨Nat.le_of_ble_eq_true rfl, Nat.le_of_ble_eq_true rfl⟩ ⟨Nat.le_of_ble_eq_true rfl, Nat.le_of_ble_eq_true rfl⟩ (by decide +kernel) ?_
        refine zs_iconst (pc := 45) (n := 0) (x := 0) C (by decide +kernel) (by decide +kernel) ?_
        refine zs_istore_n (pc := 46) (k := 3) (i := 3) (ls' := [(3, sI 0), (0, sR 287), (1, sI a0), (2, sI a1)]) C (by decide +kernel) rfl (Nat.le_of_ble_eq_true rfl) rfl ?_
        refine zs_iconst (pc := 47) (n := 0) (x := 0) C (by decide +kernel) (by decide +kernel) ?_
        refine zs_istore (pc := 48) (i := 4) (ls' := [(4, sI 0), (3, sI 0), (0, sR 287), (1, sI a0), (2, sI a1)]) C (by decide +kernel) (Nat.le_of_ble_eq_true rfl) rfl ?_
        refine zs_sub (ls' := [(0, sR 287), (3, sI 0), (4, sI 0)]) ⟨rfl, rfl, rfl, trivial⟩ ?_
        refine zs_lp (pc := 50) (fun (t6 : Int × Int) => [(0, sR 287), (3, sI t6.1), (4, sI t6.2)]) (fun _ => []) (fun K7 hK7 t6 => ?_) BIG (0, 0)
        refine zs_iload (pc := 50) (i := 4) C (by decide +kernel) rfl ?_
        refine zs_aload_n (pc := 52) (k := 0) (i := 0) C (by decide +kernel) rfl rfl ?_
        refine zs_getR (o' := 288) (pc := 53) (i := 9) (ci := 12) (k := 0) C (by decide +kernel) fl_RX12_9 rfl rfl rfl ?_
        refine zs_iconst (pc := 56) (n := 3) (x := 3) C (by decide +kernel) (by decide +kernel) ?_
        refine zs_ialdk (pc := 57) (o := 288) (n := 2005) C (by decide) (by decide +kernel) rfl (fun x8 => ?_)
        refine zs_icmp_ge (pc := 58) (off := 44) (tgt := 102) C (by decide +kernel) (by decide) ?_ ?_
        · refine zs_iload_n (pc := 102) (k := 3) (i := 3) C (by decide +kernel) rfl rfl ?_
          exact zs_retWi (pc := 103) C hr ⟨Nat.le_of_ble_eq_true rfl, Nat.le_of_ble_eq_true rfl⟩ (by decide +kernel)
        · refine zs_iload_n (pc := 61) (k := 3) (i := 3) C (by decide +kernel) rfl rfl ?_
          refine zs_aload_n (pc := 62) (k := 0) (i := 0) C (by decide +kernel) rfl rfl ?_
          refine zs_iload (pc := 63) (i := 4) C (by decide +kernel) rfl ?_
          refine zs_cvRi (pc := 65) (As := [sI t6.2]) (st := [sI t6.1]) C rfl (c_X12_isParted l g t6.2) ml_RX12_349 rfl rfl rfl rfl (Nat.le_of_ble_eq_true rfl) ⟨Nat.le_of_ble_eq_true rfl, Nat.le_of_ble_eq_true rfl⟩ ⟨Nat.le_of_ble_eq_true rfl, Nat.le_of_ble_eq_true rfl⟩ (by decide +kernel) (fun x9 => ?_)
          refine zs_jn (pJ := 94) (kJ := 0) (sJ := 0) (fun t10 => [(0, sR 287), (4, sI t6.2)]) (fun t10 => [sI t10, sI t6.1]) (fun t10 => ?_) (fun J11 hJ11 => ?_)
          · refine zs_ior (pc := 94) C (by decide +kernel) ?_
            refine zs_let (fun x12 => ?_)
            refine zs_istore_n (pc := 95) (k := 3) (i := 3) (ls' := [(3, sI x12), (0, sR 287), (4, sI t6.2)]) C (by decide +kernel) rfl (Nat.le_of_ble_eq_true rfl) rfl ?_
            refine zs_iinc (pc := 96) (i := 4) (n := 1) (y := w32 (t6.2 + 1)) (ls' := [(4, sI (w32 (t6.2 + 1))), (3, sI x12), (0, sR 287)]) C (by decide +kernel) rfl rfl (Nat.le_of_ble_eq_true rfl) rfl ?_
            refine zs_goto (pc := 99) (off := (-49)) (tgt := 50) C (by decide +kernel) (by decide) ?_
            exact zs_goj (hK7 (x12, w32 (t6.2 + 1))) ⟨rfl, rfl, rfl, trivial⟩
          · refine zs_jn (pJ := 93) (kJ := 0) (sJ := 0) (fun t13 => [(0, sR 287), (4, sI t6.2)]) (fun t13 => [sI t6.1]) (fun t13 => ?_) (fun J14 hJ14 => ?_)
            · refine zs_iconst (pc := 93) (n := 0) (x := 0) C (by decide +kernel) (by decide +kernel) ?_
              exact zs_goj (hJ11 0) ⟨rfl, rfl, trivial⟩
            · refine zs_if_ne (pc := 68) (off := 25) (tgt := 93) C (by decide +kernel) (by decide) ?_ ?_
              · exact zs_goj (hJ14 ()) ⟨rfl, rfl, trivial⟩
              · refine zs_aload_n (pc := 71) (k := 0) (i := 0) C (by decide +kernel) rfl rfl ?_
                refine zs_iload (pc := 72) (i := 4) C (by decide +kernel) rfl ?_
                refine zs_cvRi (pc := 74) (As := [sI t6.2]) (st := [sI t6.1]) C rfl (c_X12_apartOf l g t6.2) ml_RX12_343 rfl rfl rfl rfl (Nat.le_of_ble_eq_true rfl) ⟨Nat.le_of_ble_eq_true rfl, Nat.le_of_ble_eq_true rfl⟩ ⟨Nat.le_of_ble_eq_true rfl, Nat.le_of_ble_eq_true rfl⟩ (by decide +kernel) (fun x15 => ?_)
                refine zs_aload_n (pc := 77) (k := 0) (i := 0) C (by decide +kernel) rfl rfl ?_
                refine zs_iload (pc := 78) (i := 4) C (by decide +kernel) rfl ?_
                refine zs_cvWi (pc := 80) (As := [sI t6.2]) (st := [sI x15, sI t6.1]) C (fun _ _ _ => rfl) rfl (c_X12_lengthNow l g t6.2) ml_RX12_346 rfl rfl rfl rfl (Nat.le_of_ble_eq_true rfl) ⟨Nat.le_of_ble_eq_true rfl, Nat.le_of_ble_eq_true rfl⟩ ⟨Nat.le_of_ble_eq_true rfl, Nat.le_of_ble_eq_true rfl⟩ (by decide +kernel) (fun x16 => ?_)
                refine zs_icmp_le (pc := 83) (off := 10) (tgt := 93) C (by decide +kernel) (by decide) ?_ ?_
                · exact zs_goj (hJ14 ()) ⟨rfl, rfl, trivial⟩
                · refine zs_iconst (pc := 86) (n := 1) (x := 1) C (by decide +kernel) (by decide +kernel) ?_
                  refine zs_iload (pc := 87) (i := 4) C (by decide +kernel) rfl ?_
                  refine zs_ishl (pc := 89) C (by decide +kernel) ?_
                  refine zs_goto (pc := 90) (off := 4) (tgt := 94) C (by decide +kernel) (by decide) ?_
                  exact zs_goj (hJ11 (ishl 1 t6.2)) ⟨rfl, rfl, trivial⟩
      · exact zs_goj (hJ3 ()) ⟨rfl, trivial⟩
set_option maxRecDepth 20000 in
theorem c_X12_hours (l : Launch) (g : GC) (a0 : Int) : ConW l g yX12_hours cX12_hours 4 (some .int) (rmd 7 0 0) [sR 287, sI a0] (fun mm => fX12_hours a0 mm) := by
  refine zs_ofW (by decide +kernel) (Nat.le_of_ble_eq_true rfl) ?_
  intro p e s m args below meth c C hr
  replace C : Bd g RX12 cX12_hours 4 p s m args meth c := C
  unfold fX12_hours
  refine zs_aload_n (pc := 0) (k := 0) (i := 0) C (by decide +kernel) rfl rfl ?_
  refine zs_iconst (pc := 1) (n := 0) (x := 0) C (by decide +kernel) (by decide +kernel) ?_
  refine zs_putI (pc := 2) (i := 88) (ci := 12) (k := 4) C (fun _ _ _ => rfl) (by decide +kernel) fl_RX12_88 fw_12_4 rfl rfl ?_
  refine zs_iload_n (pc := 5) (k := 1) (i := 1) C (by decide +kernel) rfl rfl ?_
  refine zs_i2l (pc := 6) C (by decide +kernel) ?_
  refine zs_lconst (pc := 7) (n := 1) (x := 1) C (by decide +kernel) (by decide +kernel) ?_
  refine zs_ldc2 (pc := 8) (i := 385) (v := 99) (x := 99) C (by decide +kernel) wf_2195 (by decide +kernel) ?_
  refine zs_csRi (pc := 11) (As := [sL a0, sL 1, sL 99]) (st := []) C rfl (c_X12_within l g a0 1 99) ml_RX12_149 rfl rfl (Nat.le_of_ble_eq_true rfl) ⟨Nat.le_of_ble_eq_true rfl, Nat.le_of_ble_eq_true rfl⟩ ⟨Nat.le_of_ble_eq_true rfl, Nat.le_of_ble_eq_true rfl⟩ (by decide +kernel) (fun x1 => ?_)
  refine zs_if_ne (pc := 14) (off := 9) (tgt := 23) C (by decide +kernel) (by decide) ?_ ?_
  · refine zs_aload_n (pc := 23) (k := 0) (i := 0) C (by decide +kernel) rfl rfl ?_
    refine zs_cvVv (pc := 24) (As := []) (st := []) C (fun _ _ _ => rfl) (c_X12_keeps l g ) ml_RX12_376 rfl rfl rfl rfl (Nat.le_of_ble_eq_true rfl) ⟨Nat.le_of_ble_eq_true rfl, Nat.le_of_ble_eq_true rfl⟩ ⟨Nat.le_of_ble_eq_true rfl, Nat.le_of_ble_eq_true rfl⟩ (by decide +kernel) ?_
    refine zs_iconst (pc := 27) (n := 0) (x := 0) C (by decide +kernel) (by decide +kernel) ?_
    refine zs_istore_n (pc := 28) (k := 2) (i := 2) (ls' := [(2, sI 0), (0, sR 287), (1, sI a0)]) C (by decide +kernel) rfl (Nat.le_of_ble_eq_true rfl) rfl ?_
    refine zs_iconst (pc := 29) (n := 0) (x := 0) C (by decide +kernel) (by decide +kernel) ?_
    refine zs_istore_n (pc := 30) (k := 3) (i := 3) (ls' := [(3, sI 0), (2, sI 0), (0, sR 287), (1, sI a0)]) C (by decide +kernel) rfl (Nat.le_of_ble_eq_true rfl) rfl ?_
    refine zs_sub (ls' := [(0, sR 287), (1, sI a0), (2, sI 0), (3, sI 0)]) ⟨rfl, rfl, rfl, rfl, trivial⟩ ?_
    refine zs_lp (pc := 31) (fun (t2 : Int × Int) => [(0, sR 287), (1, sI a0), (2, sI t2.1), (3, sI t2.2)]) (fun _ => []) (fun K3 hK3 t2 => ?_) BIG (0, 0)
    refine zs_iload_n (pc := 31) (k := 3) (i := 3) C (by decide +kernel) rfl rfl ?_
    refine zs_iload_n (pc := 32) (k := 1) (i := 1) C (by decide +kernel) rfl rfl ?_
    refine zs_icmp_ge (pc := 33) (off := 16) (tgt := 49) C (by decide +kernel) (by decide) ?_ ?_
    · refine zs_iload_n (pc := 49) (k := 2) (i := 2) C (by decide +kernel) rfl rfl ?_
      exact zs_retWi (pc := 50) C hr ⟨Nat.le_of_ble_eq_true rfl, Nat.le_of_ble_eq_true rfl⟩ (by decide +kernel)
    · refine zs_iload_n (pc := 36) (k := 2) (i := 2) C (by decide +kernel) rfl rfl ?_
      refine zs_aload_n (pc := 37) (k := 0) (i := 0) C (by decide +kernel) rfl rfl ?_
      refine zs_cvWi (pc := 38) (As := []) (st := [sI t2.1]) C (fun _ _ _ => rfl) rfl (c_X12_hour l g ) ml_RX12_370 rfl rfl rfl rfl (Nat.le_of_ble_eq_true rfl) ⟨Nat.le_of_ble_eq_true rfl, Nat.le_of_ble_eq_true rfl⟩ ⟨Nat.le_of_ble_eq_true rfl, Nat.le_of_ble_eq_true rfl⟩ (by decide +kernel) (fun x4 => ?_)
      refine zs_ior (pc := 41) C (by decide +kernel) ?_
      refine zs_let (fun x5 => ?_)
      refine zs_istore_n (pc := 42) (k := 2) (i := 2) (ls' := [(2, sI x5), (0, sR 287), (1, sI a0), (3, sI t2.2)]) C (by decide +kernel) rfl (Nat.le_of_ble_eq_true rfl) rfl ?_
      refine zs_iinc (pc := 43) (i := 3) (n := 1) (y := w32 (t2.2 + 1)) (ls' := [(3, sI (w32 (t2.2 + 1))), (2, sI x5), (0, sR 287), (1, sI a0)]) C (by decide +kernel) rfl rfl (Nat.le_of_ble_eq_true rfl) rfl ?_
      refine zs_goto (pc := 46) (off := (-15)) (tgt := 31) C (by decide +kernel) (by decide) ?_
      exact zs_goj (hK3 (x5, w32 (t2.2 + 1))) ⟨rfl, rfl, rfl, rfl, trivial⟩
  · refine zs_aload_n (pc := 17) (k := 0) (i := 0) C (by decide +kernel) rfl rfl ?_
    refine zs_iconst (pc := 18) (n := 1) (x := 1) C (by decide +kernel) (by decide +kernel) ?_
    refine zs_cvWi (pc := 19) (As := [sI 1]) (st := []) C (fun _ _ _ => rfl) rfl (c_X12_fails l g 1) ml_RX12_279 rfl rfl rfl rfl (Nat.le_of_ble_eq_true rfl) ⟨Nat.le_of_ble_eq_true rfl, Nat.le_of_ble_eq_true rfl⟩ ⟨Nat.le_of_ble_eq_true rfl, Nat.le_of_ble_eq_true rfl⟩ (by decide +kernel) (fun x6 => ?_)
    exact zs_retWi (pc := 22) C hr ⟨Nat.le_of_ble_eq_true rfl, Nat.le_of_ble_eq_true rfl⟩ (by decide +kernel)
set_option maxRecDepth 20000 in
theorem c_X12_undo (l : Launch) (g : GC) (a0 : Int) : ConW l g yX12_undo cX12_undo 3 (some .int) (rmd 2 0 0) [sR 287, sI a0] (fun mm => fX12_undo a0 mm) := by
  refine zs_ofW (by decide +kernel) (Nat.le_of_ble_eq_true rfl) ?_
  intro p e s m args below meth c C hr
  replace C : Bd g RX12 cX12_undo 3 p s m args meth c := C
  unfold fX12_undo
  refine zs_aload_n (pc := 0) (k := 0) (i := 0) C (by decide +kernel) rfl rfl ?_
  refine zs_iconst (pc := 1) (n := 0) (x := 0) C (by decide +kernel) (by decide +kernel) ?_
  refine zs_putI (pc := 2) (i := 88) (ci := 12) (k := 4) C (fun _ _ _ => rfl) (by decide +kernel) fl_RX12_88 fw_12_4 rfl rfl ?_
  refine zs_iload_n (pc := 5) (k := 1) (i := 1) C (by decide +kernel) rfl rfl ?_
  refine zs_i2l (pc := 6) C (by decide +kernel) ?_
  refine zs_lconst (pc := 7) (n := 1) (x := 1) C (by decide +kernel) (by decide +kernel) ?_
  refine zs_ldc2 (pc := 8) (i := 390) (v := 10) (x := 10) C (by decide +kernel) wf_2208 (by decide +kernel) ?_
  refine zs_csRi (pc := 11) (As := [sL a0, sL 1, sL 10]) (st := []) C rfl (c_X12_within l g a0 1 10) ml_RX12_149 rfl rfl (Nat.le_of_ble_eq_true rfl) ⟨Nat.le_of_ble_eq_true rfl, Nat.le_of_ble_eq_true rfl⟩ ⟨Nat.le_of_ble_eq_true rfl, Nat.le_of_ble_eq_true rfl⟩ (by decide +kernel) (fun x1 => ?_)
  refine zs_jn (pJ := 28) (kJ := 0) (sJ := 0) (fun t2 => [(0, sR 287)]) (fun t2 => []) (fun t2 => ?_) (fun J3 hJ3 => ?_)
  · refine zs_aload_n (pc := 28) (k := 0) (i := 0) C (by decide +kernel) rfl rfl ?_
    refine zs_iconst (pc := 29) (n := 1) (x := 1) C (by decide +kernel) (by decide +kernel) ?_
    refine zs_cvWi (pc := 30) (As := [sI 1]) (st := []) C (fun _ _ _ => rfl) rfl (c_X12_fails l g 1) ml_RX12_279 rfl rfl rfl rfl (Nat.le_of_ble_eq_true rfl) ⟨Nat.le_of_ble_eq_true rfl, Nat.le_of_ble_eq_true rfl⟩ ⟨Nat.le_of_ble_eq_true rfl, Nat.le_of_ble_eq_true rfl⟩ (by decide +kernel) (fun x4 => ?_)
    exact zs_retWi (pc := 33) C hr ⟨Nat.le_of_ble_eq_true rfl, Nat.le_of_ble_eq_true rfl⟩ (by decide +kernel)
  · refine zs_if_eq (pc := 14) (off := 14) (tgt := 28) C (by decide +kernel) (by decide) ?_ ?_
    · exact zs_goj (hJ3 ()) ⟨rfl, trivial⟩
    · refine zs_iload_n (pc := 17) (k := 1) (i := 1) C (by decide +kernel) rfl rfl ?_
      refine zs_aload_n (pc := 18) (k := 0) (i := 0) C (by decide +kernel) rfl rfl ?_
      refine zs_getR (o' := 288) (pc := 19) (i := 9) (ci := 12) (k := 0) C (by decide +kernel) fl_RX12_9 rfl rfl rfl ?_
      refine zs_bipush (pc := 22) (n := 7) (x := 7) C (by decide +kernel) (by decide +kernel) ?_
      refine zs_ialdk (pc := 24) (o := 288) (n := 2005) C (by decide) (by decide +kernel) rfl (fun x5 => ?_)
      refine zs_icmp_le (pc := 25) (off := 9) (tgt := 34) C (by decide +kernel) (by decide) ?_ ?_
      · refine zs_aload_n (pc := 34) (k := 0) (i := 0) C (by decide +kernel) rfl rfl ?_
        refine zs_getR (o' := 288) (pc := 35) (i := 9) (ci := 12) (k := 0) C (by decide +kernel) fl_RX12_9 rfl rfl rfl ?_
        refine zs_bipush (pc := 38) (n := 7) (x := 7) C (by decide +kernel) (by decide +kernel) ?_
        refine zs_dup2 (pc := 40) C rfl rfl (by decide +kernel) ?_
        refine zs_ialdk (pc := 41) (o := 288) (n := 2005) C (by decide) (by decide +kernel) rfl (fun x6 => ?_)
        refine zs_iload_n (pc := 42) (k := 1) (i := 1) C (by decide +kernel) rfl rfl ?_
        refine zs_isub (pc := 43) C (by decide +kernel) ?_
        refine zs_iastk (pc := 44) (o := 288) (n := 2005) C (by decide) (fun _ _ _ => rfl) (by decide +kernel) rfl ?_
        refine zs_iconst (pc := 45) (n := 0) (x := 0) C (by decide +kernel) (by decide +kernel) ?_
        refine zs_istore_n (pc := 46) (k := 2) (i := 2) (ls' := [(2, sI 0), (0, sR 287), (1, sI a0)]) C (by decide +kernel) rfl (Nat.le_of_ble_eq_true rfl) rfl ?_
        refine zs_sub (ls' := [(0, sR 287), (2, sI 0)]) ⟨rfl, rfl, trivial⟩ ?_
        refine zs_lp (pc := 47) (fun (t7 : Int) => [(0, sR 287), (2, sI t7)]) (fun _ => []) (fun K8 hK8 t7 => ?_) BIG 0
        refine zs_iload_n (pc := 47) (k := 2) (i := 2) C (by decide +kernel) rfl rfl ?_
        refine zs_bipush (pc := 48) (n := 16) (x := 16) C (by decide +kernel) (by decide +kernel) ?_
        refine zs_icmp_ge (pc := 50) (off := 38) (tgt := 88) C (by decide +kernel) (by decide) ?_ ?_
        · refine zs_aload_n (pc := 88) (k := 0) (i := 0) C (by decide +kernel) rfl rfl ?_
          refine zs_getR (o' := 288) (pc := 89) (i := 9) (ci := 12) (k := 0) C (by decide +kernel) fl_RX12_9 rfl rfl rfl ?_
          refine zs_bipush (pc := 92) (n := 7) (x := 7) C (by decide +kernel) (by decide +kernel) ?_
          refine zs_ialdk (pc := 94) (o := 288) (n := 2005) C (by decide) (by decide +kernel) rfl (fun x9 => ?_)
          exact zs_retWi (pc := 95) C hr ⟨Nat.le_of_ble_eq_true rfl, Nat.le_of_ble_eq_true rfl⟩ (by decide +kernel)
        · refine zs_aload_n (pc := 53) (k := 0) (i := 0) C (by decide +kernel) rfl rfl ?_
          refine zs_getR (o' := 288) (pc := 54) (i := 9) (ci := 12) (k := 0) C (by decide +kernel) fl_RX12_9 rfl rfl rfl ?_
          refine zs_bipush (pc := 57) (n := 9) (x := 9) C (by decide +kernel) (by decide +kernel) ?_
          refine zs_iload_n (pc := 59) (k := 2) (i := 2) C (by decide +kernel) rfl rfl ?_
          refine zs_iadd (pc := 60) C (by decide +kernel) ?_
          refine zs_aload_n (pc := 61) (k := 0) (i := 0) C (by decide +kernel) rfl rfl ?_
          refine zs_getR (o' := 288) (pc := 62) (i := 9) (ci := 12) (k := 0) C (by decide +kernel) fl_RX12_9 rfl rfl rfl ?_
          refine zs_bipush (pc := 65) (n := 37) (x := 37) C (by decide +kernel) (by decide +kernel) ?_
          refine zs_bipush (pc := 67) (n := 16) (x := 16) C (by decide +kernel) (by decide +kernel) ?_
          refine zs_aload_n (pc := 69) (k := 0) (i := 0) C (by decide +kernel) rfl rfl ?_
          refine zs_getR (o' := 288) (pc := 70) (i := 9) (ci := 12) (k := 0) C (by decide +kernel) fl_RX12_9 rfl rfl rfl ?_
          refine zs_bipush (pc := 73) (n := 7) (x := 7) C (by decide +kernel) (by decide +kernel) ?_
          refine zs_ialdk (pc := 75) (o := 288) (n := 2005) C (by decide) (by decide +kernel) rfl (fun x10 => ?_)
          refine zs_imul (pc := 76) C (by decide +kernel) ?_
          refine zs_iadd (pc := 77) C (by decide +kernel) ?_
          refine zs_iload_n (pc := 78) (k := 2) (i := 2) C (by decide +kernel) rfl rfl ?_
          refine zs_iadd (pc := 79) C (by decide +kernel) ?_
          refine zs_iald (pc := 80) (o := 288) (n := 2005) C (by decide +kernel) rfl (fun hinx11 x11 => ?_)
          refine zs_iast (pc := 81) (o := 288) (n := 2005) C (fun _ _ _ => rfl) (by decide +kernel) rfl ?_
          refine zs_iinc (pc := 82) (i := 2) (n := 1) (y := w32 (t7 + 1)) (ls' := [(2, sI (w32 (t7 + 1))), (0, sR 287)]) C (by decide +kernel) rfl rfl (Nat.le_of_ble_eq_true rfl) rfl ?_
          refine zs_goto (pc := 85) (off := (-38)) (tgt := 47) C (by decide +kernel) (by decide) ?_
          exact zs_goj (hK8 (w32 (t7 + 1))) ⟨rfl, rfl, trivial⟩
      · exact zs_goj (hJ3 ()) ⟨rfl, trivial⟩
set_option maxRecDepth 20000 in
theorem c_X12_isTray (l : Launch) (g : GC) (a0 : Int) : ConR l g yX12_isTray cX12_isTray 1 (some .boolean) (rmd 2 0 0) [sI a0] (fun mm => fX12_isTray a0 mm) := by
  refine zs_ofR (by decide +kernel) (Nat.le_of_ble_eq_true rfl) ?_
  intro p e s m args below meth c C hr
  replace C : Bd g RX12 cX12_isTray 1 p s m args meth c := C
  unfold fX12_isTray
  refine zs_iload_n (pc := 0) (k := 0) (i := 0) C (by decide +kernel) rfl rfl ?_
  refine zs_i2l (pc := 1) C (by decide +kernel) ?_
  refine zs_lconst (pc := 2) (n := 0) (x := 0) C (by decide +kernel) (by decide +kernel) ?_
  refine zs_ldc2 (pc := 3) (i := 412) (v := 3) (x := 3) C (by decide +kernel) wf_2220 (by decide +kernel) ?_
  refine zs_csRi (pc := 6) (As := [sL a0, sL 0, sL 3]) (st := []) C rfl (c_X12_within l g a0 0 3) ml_RX12_149 rfl rfl (Nat.le_of_ble_eq_true rfl) ⟨Nat.le_of_ble_eq_true rfl, Nat.le_of_ble_eq_true rfl⟩ ⟨Nat.le_of_ble_eq_true rfl, Nat.le_of_ble_eq_true rfl⟩ (by decide +kernel) (fun x1 => ?_)
  refine zs_chk (fun _ hx => ?_)
  exact zs_retRz (pc := 9) C hx hr ⟨Nat.le_of_ble_eq_true rfl, Nat.le_of_ble_eq_true rfl⟩ (by decide +kernel)
set_option maxRecDepth 20000 in
theorem c_X12_trayFault (l : Launch) (g : GC) (a0 : Int) : ConR l g yX12_trayFault cX12_trayFault 2 (some .int) (rmd 3 0 0) [sR 287, sI a0] (fun mm => fX12_trayFault a0 mm) := by
  refine zs_ofR (by decide +kernel) (Nat.le_of_ble_eq_true rfl) ?_
  intro p e s m args below meth c C hr
  replace C : Bd g RX12 cX12_trayFault 2 p s m args meth c := C
  unfold fX12_trayFault
  refine zs_iload_n (pc := 0) (k := 1) (i := 1) C (by decide +kernel) rfl rfl ?_
  refine zs_csRi (pc := 1) (As := [sI a0]) (st := []) C rfl (c_X12_isTray l g a0) ml_RX12_392 rfl rfl (Nat.le_of_ble_eq_true rfl) ⟨Nat.le_of_ble_eq_true rfl, Nat.le_of_ble_eq_true rfl⟩ ⟨Nat.le_of_ble_eq_true rfl, Nat.le_of_ble_eq_true rfl⟩ (by decide +kernel) (fun x1 => ?_)
  refine zs_jn (pJ := 26) (kJ := 0) (sJ := 0) (fun t2 => []) (fun t2 => [sI t2]) (fun t2 => ?_) (fun J3 hJ3 => ?_)
  · exact zs_retRi (pc := 26) C hr ⟨Nat.le_of_ble_eq_true rfl, Nat.le_of_ble_eq_true rfl⟩ (by decide +kernel)
  · refine zs_if_ne (pc := 4) (off := 7) (tgt := 11) C (by decide +kernel) (by decide) ?_ ?_
    · refine zs_aload_n (pc := 11) (k := 0) (i := 0) C (by decide +kernel) rfl rfl ?_
      refine zs_getR (o' := 309) (pc := 12) (i := 79) (ci := 12) (k := 39) C (by decide +kernel) fl_RX12_79 rfl rfl rfl ?_
      refine zs_iload_n (pc := 15) (k := 1) (i := 1) C (by decide +kernel) rfl rfl ?_
      refine zs_iald (pc := 16) (o := 309) (n := 4) C (by decide +kernel) rfl (fun hinx4 x4 => ?_)
      refine zs_iconst (pc := 17) (n := (-1)) (x := (-1)) C (by decide +kernel) (by decide +kernel) ?_
      refine zs_icmp_ne (pc := 18) (off := 7) (tgt := 25) C (by decide +kernel) (by decide) ?_ ?_
      · refine zs_iconst (pc := 25) (n := 0) (x := 0) C (by decide +kernel) (by decide +kernel) ?_
        exact zs_goj (hJ3 0) trivial
      · refine zs_iconst (pc := 21) (n := 2) (x := 2) C (by decide +kernel) (by decide +kernel) ?_
        refine zs_goto (pc := 22) (off := 4) (tgt := 26) C (by decide +kernel) (by decide) ?_
        exact zs_goj (hJ3 2) trivial
    · refine zs_iconst (pc := 7) (n := 1) (x := 1) C (by decide +kernel) (by decide +kernel) ?_
      refine zs_goto (pc := 8) (off := 18) (tgt := 26) C (by decide +kernel) (by decide) ?_
      exact zs_goj (hJ3 1) trivial
set_option maxRecDepth 20000 in
theorem c_X12_whyTold (l : Launch) (g : GC) (a0 : Int) : ConW l g yX12_whyTold cX12_whyTold 3 (some .int) (rmd 7 0 0) [sR 287, sL a0] (fun mm => fX12_whyTold a0 mm) := by
  refine zs_ofW (by decide +kernel) (Nat.le_of_ble_eq_true rfl) ?_
  intro p e s m args below meth c C hr
  replace C : Bd g RX12 cX12_whyTold 3 p s m args meth c := C
  unfold fX12_whyTold
  refine zs_lload_n (pc := 0) (k := 1) (i := 1) C (by decide +kernel) rfl rfl ?_
  refine zs_ldc2 (pc := 1) (i := 395) (v := (-1)) (x := (-1)) C (by decide +kernel) wf_2229 (by decide +kernel) ?_
  refine zs_jn (pJ := 21) (kJ := 0) (sJ := 0) (fun t1 => []) (fun t1 => []) (fun t1 => ?_) (fun J2 hJ2 => ?_)
  · refine zs_iconst (pc := 21) (n := 0) (x := 0) C (by decide +kernel) (by decide +kernel) ?_
    exact zs_retWi (pc := 22) C hr ⟨Nat.le_of_ble_eq_true rfl, Nat.le_of_ble_eq_true rfl⟩ (by decide +kernel)
  · refine zs_lcmp_eq (pc := 4) (off := 16) (tgt := 21) C (by decide +kernel) (by decide +kernel) (by decide) ?_ ?_
    · exact zs_goj (hJ2 ()) trivial
    · refine zs_lload_n (pc := 8) (k := 1) (i := 1) C (by decide +kernel) rfl rfl ?_
      refine zs_ldc2 (pc := 9) (i := 397) (v := 2000) (x := 2000) C (by decide +kernel) wf_2230 (by decide +kernel) ?_
      refine zs_ldc2 (pc := 12) (i := 399) (v := 2009) (x := 2009) C (by decide +kernel) wf_2231 (by decide +kernel) ?_
      refine zs_csRi (pc := 15) (As := [sL a0, sL 2000, sL 2009]) (st := []) C rfl (c_X12_within l g a0 2000 2009) ml_RX12_149 rfl rfl (Nat.le_of_ble_eq_true rfl) ⟨Nat.le_of_ble_eq_true rfl, Nat.le_of_ble_eq_true rfl⟩ ⟨Nat.le_of_ble_eq_true rfl, Nat.le_of_ble_eq_true rfl⟩ (by decide +kernel) (fun x3 => ?_)
      refine zs_if_eq (pc := 18) (off := 5) (tgt := 23) C (by decide +kernel) (by decide) ?_ ?_
      · refine zs_lload_n (pc := 23) (k := 1) (i := 1) C (by decide +kernel) rfl rfl ?_
        refine zs_lconst (pc := 24) (n := 0) (x := 0) C (by decide +kernel) (by decide +kernel) ?_
        refine zs_ldc2 (pc := 25) (i := 401) (v := 399) (x := 399) C (by decide +kernel) wf_2232 (by decide +kernel) ?_
        refine zs_csRi (pc := 28) (As := [sL a0, sL 0, sL 399]) (st := []) C rfl (c_X12_within l g a0 0 399) ml_RX12_149 rfl rfl (Nat.le_of_ble_eq_true rfl) ⟨Nat.le_of_ble_eq_true rfl, Nat.le_of_ble_eq_true rfl⟩ ⟨Nat.le_of_ble_eq_true rfl, Nat.le_of_ble_eq_true rfl⟩ (by decide +kernel) (fun x4 => ?_)
        refine zs_if_eq (pc := 31) (off := 27) (tgt := 58) C (by decide +kernel) (by decide) ?_ ?_
        · refine zs_lload_n (pc := 58) (k := 1) (i := 1) C (by decide +kernel) rfl rfl ?_
          refine zs_ldc2 (pc := 59) (i := 405) (v := 1000) (x := 1000) C (by decide +kernel) wf_2234 (by decide +kernel) ?_
          refine zs_ldc2 (pc := 62) (i := 407) (v := 1039) (x := 1039) C (by decide +kernel) wf_2235 (by decide +kernel) ?_
          refine zs_csRi (pc := 65) (As := [sL a0, sL 1000, sL 1039]) (st := []) C rfl (c_X12_within l g a0 1000 1039) ml_RX12_149 rfl rfl (Nat.le_of_ble_eq_true rfl) ⟨Nat.le_of_ble_eq_true rfl, Nat.le_of_ble_eq_true rfl⟩ ⟨Nat.le_of_ble_eq_true rfl, Nat.le_of_ble_eq_true rfl⟩ (by decide +kernel) (fun x5 => ?_)
          refine zs_jn (pJ := 92) (kJ := 0) (sJ := 0) (fun t6 => []) (fun t6 => [sI t6]) (fun t6 => ?_) (fun J7 hJ7 => ?_)
          · exact zs_retWi (pc := 92) C hr ⟨Nat.le_of_ble_eq_true rfl, Nat.le_of_ble_eq_true rfl⟩ (by decide +kernel)
          · refine zs_jn (pJ := 91) (kJ := 0) (sJ := 0) (fun t8 => []) (fun t8 => []) (fun t8 => ?_) (fun J9 hJ9 => ?_)
            · refine zs_iconst (pc := 91) (n := 1) (x := 1) C (by decide +kernel) (by decide +kernel) ?_
              exact zs_goj (hJ7 1) trivial
            · refine zs_if_eq (pc := 68) (off := 23) (tgt := 91) C (by decide +kernel) (by decide) ?_ ?_
              · exact zs_goj (hJ9 ()) trivial
              · refine zs_aload_n (pc := 71) (k := 0) (i := 0) C (by decide +kernel) rfl rfl ?_
                refine zs_lload_n (pc := 72) (k := 1) (i := 1) C (by decide +kernel) rfl rfl ?_
                refine zs_ldc2 (pc := 73) (i := 405) (v := 1000) (x := 1000) C (by decide +kernel) wf_2234 (by decide +kernel) ?_
                refine zs_lsub (pc := 76) C (by decide +kernel) ?_
                refine zs_ldc2 (pc := 77) (i := 390) (v := 10) (x := 10) C (by decide +kernel) wf_2208 (by decide +kernel) ?_
                refine zs_ldiv (pc := 80) C (by decide +kernel) (by decide +kernel) ?_
                refine zs_cvRi (pc := 81) (As := [sL (Int.tdiv (w64 (a0 - 1000)) 10)]) (st := []) C rfl (c_X12_isPair l g (Int.tdiv (w64 (a0 - 1000)) 10)) ml_RX12_338 rfl rfl rfl rfl (Nat.le_of_ble_eq_true rfl) ⟨Nat.le_of_ble_eq_true rfl, Nat.le_of_ble_eq_true rfl⟩ ⟨Nat.le_of_ble_eq_true rfl, Nat.le_of_ble_eq_true rfl⟩ (by decide +kernel) (fun x10 => ?_)
                refine zs_if_eq (pc := 84) (off := 7) (tgt := 91) C (by decide +kernel) (by decide) ?_ ?_
                · exact zs_goj (hJ9 ()) trivial
                · refine zs_iconst (pc := 87) (n := 0) (x := 0) C (by decide +kernel) (by decide +kernel) ?_
                  refine zs_goto (pc := 88) (off := 4) (tgt := 92) C (by decide +kernel) (by decide) ?_
                  exact zs_goj (hJ7 0) trivial
        · refine zs_aload_n (pc := 34) (k := 0) (i := 0) C (by decide +kernel) rfl rfl ?_
          refine zs_lload_n (pc := 35) (k := 1) (i := 1) C (by decide +kernel) rfl rfl ?_
          refine zs_ldc2 (pc := 36) (i := 403) (v := 100) (x := 100) C (by decide +kernel) wf_2233 (by decide +kernel) ?_
          refine zs_ldiv (pc := 39) C (by decide +kernel) (by decide +kernel) ?_
          refine zs_lload_n (pc := 40) (k := 1) (i := 1) C (by decide +kernel) rfl rfl ?_
          refine zs_ldc2 (pc := 41) (i := 390) (v := 10) (x := 10) C (by decide +kernel) wf_2208 (by decide +kernel) ?_
          refine zs_ldiv (pc := 44) C (by decide +kernel) (by decide +kernel) ?_
          refine zs_ldc2 (pc := 45) (i := 390) (v := 10) (x := 10) C (by decide +kernel) wf_2208 (by decide +kernel) ?_
          refine zs_lrem (pc := 48) C (by decide +kernel) (by decide +kernel) ?_
          refine zs_lload_n (pc := 49) (k := 1) (i := 1) C (by decide +kernel) rfl rfl ?_
          refine zs_ldc2 (pc := 50) (i := 390) (v := 10) (x := 10) C (by decide +kernel) wf_2208 (by decide +kernel) ?_
          refine zs_lrem (pc := 53) C (by decide +kernel) (by decide +kernel) ?_
          refine zs_cvWi (pc := 54) (As := [sL (Int.tdiv a0 100), sL (Int.tmod (Int.tdiv a0 10) 10), sL (Int.tmod a0 10)]) (st := []) C (fun _ _ _ => rfl) rfl (c_X12_whyStep l g (Int.tdiv a0 100) (Int.tmod (Int.tdiv a0 10) 10) (Int.tmod a0 10)) ml_RX12_372 rfl rfl rfl rfl (Nat.le_of_ble_eq_true rfl) ⟨Nat.le_of_ble_eq_true rfl, Nat.le_of_ble_eq_true rfl⟩ ⟨Nat.le_of_ble_eq_true rfl, Nat.le_of_ble_eq_true rfl⟩ (by decide +kernel) (fun x11 => ?_)
          exact zs_retWi (pc := 57) C hr ⟨Nat.le_of_ble_eq_true rfl, Nat.le_of_ble_eq_true rfl⟩ (by decide +kernel)
      · exact zs_goj (hJ2 ()) trivial
set_option maxRecDepth 20000 in
theorem c_X12_does (l : Launch) (g : GC) (a0 : Int) : ConV l g yX12_does cX12_does 2 (rmd 8 0 0) [sR 287, sI a0] (fun mm => fX12_does a0 mm) := by
  refine zs_ofV (by decide +kernel) (Nat.le_of_ble_eq_true rfl) ?_
  intro p e s m args below meth c C hr
  replace C : Bd g RX12 cX12_does 2 p s m args meth c := C
  unfold fX12_does
  refine zs_iload_n (pc := 0) (k := 1) (i := 1) C (by decide +kernel) rfl rfl ?_
  refine zs_iconst (pc := 1) (n := (-1)) (x := (-1)) C (by decide +kernel) (by decide +kernel) ?_
  refine zs_jn (pJ := 83) (kJ := 0) (sJ := 0) (fun t1 => []) (fun t1 => []) (fun t1 => ?_) (fun J2 hJ2 => ?_)
  · exact zs_retVv (pc := 83) C hr ⟨Nat.le_of_ble_eq_true rfl, Nat.le_of_ble_eq_true rfl⟩ (by decide +kernel)
  · refine zs_icmp_ne (pc := 2) (off := 11) (tgt := 13) C (by decide +kernel) (by decide) ?_ ?_
    · refine zs_iload_n (pc := 13) (k := 1) (i := 1) C (by decide +kernel) rfl rfl ?_
      refine zs_sipush (pc := 14) (n := 1000) (x := 1000) C (by decide +kernel) (by decide +kernel) ?_
      refine zs_icmp_ge (pc := 17) (off := 25) (tgt := 42) C (by decide +kernel) (by decide) ?_ ?_
      · refine zs_iload_n (pc := 42) (k := 1) (i := 1) C (by decide +kernel) rfl rfl ?_
        refine zs_sipush (pc := 43) (n := 2000) (x := 2000) C (by decide +kernel) (by decide +kernel) ?_
        refine zs_icmp_ge (pc := 46) (off := 26) (tgt := 72) C (by decide +kernel) (by decide) ?_ ?_
        · refine zs_aload_n (pc := 72) (k := 0) (i := 0) C (by decide +kernel) rfl rfl ?_
          refine zs_iload_n (pc := 73) (k := 1) (i := 1) C (by decide +kernel) rfl rfl ?_
          refine zs_sipush (pc := 74) (n := 2000) (x := 2000) C (by decide +kernel) (by decide +kernel) ?_
          refine zs_isub (pc := 77) C (by decide +kernel) ?_
          refine zs_bipush (pc := 78) (n := 6) (x := 6) C (by decide +kernel) (by decide +kernel) ?_
          refine zs_cvVv (pc := 80) (As := [sI (w32 (a0 - 2000)), sI 6]) (st := []) C (fun _ _ _ => rfl) (c_X12_rains l g (w32 (a0 - 2000)) 6) ml_RX12_387 rfl rfl rfl rfl (Nat.le_of_ble_eq_true rfl) ⟨Nat.le_of_ble_eq_true rfl, Nat.le_of_ble_eq_true rfl⟩ ⟨Nat.le_of_ble_eq_true rfl, Nat.le_of_ble_eq_true rfl⟩ (by decide +kernel) ?_
          exact zs_goj (hJ2 ()) trivial
        · refine zs_aload_n (pc := 49) (k := 0) (i := 0) C (by decide +kernel) rfl rfl ?_
          refine zs_getR (o' := 288) (pc := 50) (i := 9) (ci := 12) (k := 0) C (by decide +kernel) fl_RX12_9 rfl rfl rfl ?_
          refine zs_bipush (pc := 53) (n := 9) (x := 9) C (by decide +kernel) (by decide +kernel) ?_
          refine zs_iload_n (pc := 55) (k := 1) (i := 1) C (by decide +kernel) rfl rfl ?_
          refine zs_sipush (pc := 56) (n := 1000) (x := 1000) C (by decide +kernel) (by decide +kernel) ?_
          refine zs_isub (pc := 59) C (by decide +kernel) ?_
          refine zs_bipush (pc := 60) (n := 10) (x := 10) C (by decide +kernel) (by decide +kernel) ?_
          refine zs_idiv (pc := 62) C (by decide +kernel) (by decide +kernel) ?_
          refine zs_iadd (pc := 63) C (by decide +kernel) ?_
          refine zs_iload_n (pc := 64) (k := 1) (i := 1) C (by decide +kernel) rfl rfl ?_
          refine zs_bipush (pc := 65) (n := 10) (x := 10) C (by decide +kernel) (by decide +kernel) ?_
          refine zs_irem (pc := 67) C (by decide +kernel) (by decide +kernel) ?_
          refine zs_iast (pc := 68) (o := 288) (n := 2005) C (fun _ _ _ => rfl) (by decide +kernel) rfl ?_
          refine zs_goto (pc := 69) (off := 14) (tgt := 83) C (by decide +kernel) (by decide) ?_
          exact zs_goj (hJ2 ()) trivial
      · refine zs_aload_n (pc := 20) (k := 0) (i := 0) C (by decide +kernel) rfl rfl ?_
        refine zs_iload_n (pc := 21) (k := 1) (i := 1) C (by decide +kernel) rfl rfl ?_
        refine zs_bipush (pc := 22) (n := 100) (x := 100) C (by decide +kernel) (by decide +kernel) ?_
        refine zs_idiv (pc := 24) C (by decide +kernel) (by decide +kernel) ?_
        refine zs_iload_n (pc := 25) (k := 1) (i := 1) C (by decide +kernel) rfl rfl ?_
        refine zs_bipush (pc := 26) (n := 10) (x := 10) C (by decide +kernel) (by decide +kernel) ?_
        refine zs_idiv (pc := 28) C (by decide +kernel) (by decide +kernel) ?_
        refine zs_bipush (pc := 29) (n := 10) (x := 10) C (by decide +kernel) (by decide +kernel) ?_
        refine zs_irem (pc := 31) C (by decide +kernel) (by decide +kernel) ?_
        refine zs_iload_n (pc := 32) (k := 1) (i := 1) C (by decide +kernel) rfl rfl ?_
        refine zs_bipush (pc := 33) (n := 10) (x := 10) C (by decide +kernel) (by decide +kernel) ?_
        refine zs_irem (pc := 35) C (by decide +kernel) (by decide +kernel) ?_
        refine zs_cvVv (pc := 36) (As := [sI (Int.tdiv a0 100), sI (Int.tmod (Int.tdiv a0 10) 10), sI (Int.tmod a0 10)]) (st := []) C (fun _ _ _ => rfl) (c_X12_steps l g (Int.tdiv a0 100) (Int.tmod (Int.tdiv a0 10) 10) (Int.tmod a0 10)) ml_RX12_379 rfl rfl rfl rfl (Nat.le_of_ble_eq_true rfl) ⟨Nat.le_of_ble_eq_true rfl, Nat.le_of_ble_eq_true rfl⟩ ⟨Nat.le_of_ble_eq_true rfl, Nat.le_of_ble_eq_true rfl⟩ (by decide +kernel) ?_
        refine zs_goto (pc := 39) (off := 44) (tgt := 83) C (by decide +kernel) (by decide) ?_
        exact zs_goj (hJ2 ()) trivial
    · refine zs_aload_n (pc := 5) (k := 0) (i := 0) C (by decide +kernel) rfl rfl ?_
      refine zs_cvWi (pc := 6) (As := []) (st := []) C (fun _ _ _ => rfl) rfl (c_X12_hour l g ) ml_RX12_370 rfl rfl rfl rfl (Nat.le_of_ble_eq_true rfl) ⟨Nat.le_of_ble_eq_true rfl, Nat.le_of_ble_eq_true rfl⟩ ⟨Nat.le_of_ble_eq_true rfl, Nat.le_of_ble_eq_true rfl⟩ (by decide +kernel) (fun x3 => ?_)
      refine zs_pop (pc := 9) C rfl (by decide +kernel) ?_
      refine zs_goto (pc := 10) (off := 73) (tgt := 83) C (by decide +kernel) (by decide) ?_
      exact zs_goj (hJ2 ()) trivial
set_option maxRecDepth 20000 in
theorem c_X12_judge (l : Launch) (g : GC) (a0 : Int) (a1 : Int) : ConW l g yX12_judge cX12_judge 7 (some .int) (rmd 9 0 0) [sR 287, sI a0, sI a1] (fun mm => fX12_judge a0 a1 mm) := by
  refine zs_ofW (by decide +kernel) (Nat.le_of_ble_eq_true rfl) ?_
  intro p e s m args below meth c C hr
  replace C : Bd g RX12 cX12_judge 7 p s m args meth c := C
  unfold fX12_judge
  refine zs_aload_n (pc := 0) (k := 0) (i := 0) C (by decide +kernel) rfl rfl ?_
  refine zs_aload_n (pc := 1) (k := 0) (i := 0) C (by decide +kernel) rfl rfl ?_
  refine zs_iload_n (pc := 2) (k := 1) (i := 1) C (by decide +kernel) rfl rfl ?_
  refine zs_cvRi (pc := 3) (As := [sI a0]) (st := [sR 287]) C rfl (c_X12_trayFault l g a0) ml_RX12_409 rfl rfl rfl rfl (Nat.le_of_ble_eq_true rfl) ⟨Nat.le_of_ble_eq_true rfl, Nat.le_of_ble_eq_true rfl⟩ ⟨Nat.le_of_ble_eq_true rfl, Nat.le_of_ble_eq_true rfl⟩ (by decide +kernel) (fun x1 => ?_)
  refine zs_putI (pc := 6) (i := 88) (ci := 12) (k := 4) C (fun _ _ _ => rfl) (by decide +kernel) fl_RX12_88 fw_12_4 rfl rfl ?_
  refine zs_aload_n (pc := 9) (k := 0) (i := 0) C (by decide +kernel) rfl rfl ?_
  refine zs_getI (pc := 10) (i := 88) (ci := 12) (k := 4) C (by decide +kernel) fl_RX12_88 rfl rfl (fun x2 => ?_)
  refine zs_jn (pJ := 33) (kJ := 0) (sJ := 0) (fun t3 => [(0, sR 287), (1, sI a0), (2, sI a1)]) (fun t3 => []) (fun t3 => ?_) (fun J4 hJ4 => ?_)
  · refine zs_aload_n (pc := 33) (k := 0) (i := 0) C (by decide +kernel) rfl rfl ?_
    refine zs_getI (pc := 34) (i := 88) (ci := 12) (k := 4) C (by decide +kernel) fl_RX12_88 rfl rfl (fun x5 => ?_)
    refine zs_if_le (pc := 37) (off := 5) (tgt := 42) C (by decide +kernel) (by decide) ?_ ?_
    · refine zs_aload_n (pc := 42) (k := 0) (i := 0) C (by decide +kernel) rfl rfl ?_
      refine zs_cvVv (pc := 43) (As := []) (st := []) C (fun _ _ _ => rfl) (c_X12_putsAside l g ) ml_RX12_414 rfl rfl rfl rfl (Nat.le_of_ble_eq_true rfl) ⟨Nat.le_of_ble_eq_true rfl, Nat.le_of_ble_eq_true rfl⟩ ⟨Nat.le_of_ble_eq_true rfl, Nat.le_of_ble_eq_true rfl⟩ (by decide +kernel) ?_
      refine zs_iconst (pc := 46) (n := (-1)) (x := (-1)) C (by decide +kernel) (by decide +kernel) ?_
      refine zs_istore_n (pc := 47) (k := 3) (i := 3) (ls' := [(3, sI ((-1))), (0, sR 287), (1, sI a0), (2, sI a1)]) C (by decide +kernel) rfl (Nat.le_of_ble_eq_true rfl) rfl ?_
      refine zs_iconst (pc := 48) (n := 0) (x := 0) C (by decide +kernel) (by decide +kernel) ?_
      refine zs_istore (pc := 49) (i := 4) (ls' := [(4, sI 0), (3, sI ((-1))), (0, sR 287), (1, sI a0), (2, sI a1)]) C (by decide +kernel) (Nat.le_of_ble_eq_true rfl) rfl ?_
      refine zs_iconst (pc := 51) (n := 0) (x := 0) C (by decide +kernel) (by decide +kernel) ?_
      refine zs_istore (pc := 52) (i := 5) (ls' := [(5, sI 0), (4, sI 0), (3, sI ((-1))), (0, sR 287), (1, sI a0), (2, sI a1)]) C (by decide +kernel) (Nat.le_of_ble_eq_true rfl) rfl ?_
      refine zs_sub (ls' := [(0, sR 287), (1, sI a0), (2, sI a1), (3, sI ((-1))), (4, sI 0), (5, sI 0)]) ⟨rfl, rfl, rfl, rfl, rfl, rfl, trivial⟩ ?_
      refine zs_lp (pc := 54) (fun (t6 : Int × Int × Int) => [(0, sR 287), (1, sI a0), (2, sI a1), (3, sI t6.1), (4, sI t6.2.1), (5, sI t6.2.2)]) (fun _ => []) (fun K7 hK7 t6 => ?_) BIG ((-1), 0, 0)
      refine zs_iload (pc := 54) (i := 5) C (by decide +kernel) rfl ?_
      refine zs_aload_n (pc := 56) (k := 0) (i := 0) C (by decide +kernel) rfl rfl ?_
      refine zs_getR (o' := 310) (pc := 57) (i := 82) (ci := 12) (k := 40) C (by decide +kernel) fl_RX12_82 rfl rfl rfl ?_
      refine zs_iload_n (pc := 60) (k := 1) (i := 1) C (by decide +kernel) rfl rfl ?_
      refine zs_iald (pc := 61) (o := 310) (n := 4) C (by decide +kernel) rfl (fun hinx8 x8 => ?_)
      refine zs_jn (pJ := 122) (kJ := 0) (sJ := 0) (fun t9 => [(0, sR 287), (2, sI a1), (3, sI t6.1), (4, sI t6.2.1)]) (fun t9 => []) (fun t9 => ?_) (fun J10 hJ10 => ?_)
      · refine zs_aload_n (pc := 122) (k := 0) (i := 0) C (by decide +kernel) rfl rfl ?_
        refine zs_getR (o' := 288) (pc := 123) (i := 9) (ci := 12) (k := 0) C (by decide +kernel) fl_RX12_9 rfl rfl rfl ?_
        refine zs_bipush (pc := 126) (n := 24) (x := 24) C (by decide +kernel) (by decide +kernel) ?_
        refine zs_ialdk (pc := 128) (o := 288) (n := 2005) C (by decide) (by decide +kernel) rfl (fun x11 => ?_)
        refine zs_istore (pc := 129) (i := 5) (ls' := [(5, sI x11), (0, sR 287), (2, sI a1), (3, sI t6.1), (4, sI t6.2.1)]) C (by decide +kernel) (Nat.le_of_ble_eq_true rfl) rfl ?_
        refine zs_aload_n (pc := 131) (k := 0) (i := 0) C (by decide +kernel) rfl rfl ?_
        refine zs_getR (o' := 288) (pc := 132) (i := 9) (ci := 12) (k := 0) C (by decide +kernel) fl_RX12_9 rfl rfl rfl ?_
        refine zs_bipush (pc := 135) (n := 21) (x := 21) C (by decide +kernel) (by decide +kernel) ?_
        refine zs_ialdk (pc := 137) (o := 288) (n := 2005) C (by decide) (by decide +kernel) rfl (fun x12 => ?_)
        refine zs_istore (pc := 138) (i := 6) (ls' := [(6, sI x12), (5, sI x11), (0, sR 287), (2, sI a1), (3, sI t6.1), (4, sI t6.2.1)]) C (by decide +kernel) (Nat.le_of_ble_eq_true rfl) rfl ?_
        refine zs_aload_n (pc := 140) (k := 0) (i := 0) C (by decide +kernel) rfl rfl ?_
        refine zs_cvVv (pc := 141) (As := []) (st := []) C (fun _ _ _ => rfl) (c_X12_putsBack l g ) ml_RX12_423 rfl rfl rfl rfl (Nat.le_of_ble_eq_true rfl) ⟨Nat.le_of_ble_eq_true rfl, Nat.le_of_ble_eq_true rfl⟩ ⟨Nat.le_of_ble_eq_true rfl, Nat.le_of_ble_eq_true rfl⟩ (by decide +kernel) ?_
        refine zs_iload_n (pc := 144) (k := 2) (i := 2) C (by decide +kernel) rfl rfl ?_
        refine zs_jn (pJ := 174) (kJ := 0) (sJ := 0) (fun t13 => []) (fun t13 => [sI t13]) (fun t13 => ?_) (fun J14 hJ14 => ?_)
        · exact zs_retWi (pc := 174) C hr ⟨Nat.le_of_ble_eq_true rfl, Nat.le_of_ble_eq_true rfl⟩ (by decide +kernel)
        · refine zs_if_ne (pc := 145) (off := 7) (tgt := 152) C (by decide +kernel) (by decide) ?_ ?_
          · refine zs_iload_n (pc := 152) (k := 2) (i := 2) C (by decide +kernel) rfl rfl ?_
            refine zs_iconst (pc := 153) (n := 1) (x := 1) C (by decide +kernel) (by decide +kernel) ?_
            refine zs_icmp_ne (pc := 154) (off := 8) (tgt := 162) C (by decide +kernel) (by decide) ?_ ?_
            · refine zs_iload_n (pc := 162) (k := 2) (i := 2) C (by decide +kernel) rfl rfl ?_
              refine zs_iconst (pc := 163) (n := 2) (x := 2) C (by decide +kernel) (by decide +kernel) ?_
              refine zs_icmp_ne (pc := 164) (off := 8) (tgt := 172) C (by decide +kernel) (by decide) ?_ ?_
              · refine zs_iload (pc := 172) (i := 6) C (by decide +kernel) rfl ?_
                exact zs_goj (hJ14 x12) trivial
              · refine zs_iload (pc := 167) (i := 5) C (by decide +kernel) rfl ?_
                refine zs_goto (pc := 169) (off := 5) (tgt := 174) C (by decide +kernel) (by decide) ?_
                exact zs_goj (hJ14 x11) trivial
            · refine zs_iload (pc := 157) (i := 4) C (by decide +kernel) rfl ?_
              refine zs_goto (pc := 159) (off := 15) (tgt := 174) C (by decide +kernel) (by decide) ?_
              exact zs_goj (hJ14 t6.2.1) trivial
          · refine zs_iload_n (pc := 148) (k := 3) (i := 3) C (by decide +kernel) rfl rfl ?_
            refine zs_goto (pc := 149) (off := 25) (tgt := 174) C (by decide +kernel) (by decide) ?_
            exact zs_goj (hJ14 t6.1) trivial
      · refine zs_icmp_ge (pc := 62) (off := 60) (tgt := 122) C (by decide +kernel) (by decide) ?_ ?_
        · exact zs_goj (hJ10 ()) ⟨rfl, rfl, rfl, rfl, trivial⟩
        · refine zs_iload_n (pc := 65) (k := 3) (i := 3) C (by decide +kernel) rfl rfl ?_
          refine zs_iconst (pc := 66) (n := (-1)) (x := (-1)) C (by decide +kernel) (by decide +kernel) ?_
          refine zs_icmp_ne (pc := 67) (off := 55) (tgt := 122) C (by decide +kernel) (by decide) ?_ ?_
          · exact zs_goj (hJ10 ()) ⟨rfl, rfl, rfl, rfl, trivial⟩
          · refine zs_aload_n (pc := 70) (k := 0) (i := 0) C (by decide +kernel) rfl rfl ?_
            refine zs_aload_n (pc := 71) (k := 0) (i := 0) C (by decide +kernel) rfl rfl ?_
            refine zs_getR (o' := 311) (pc := 72) (i := 85) (ci := 12) (k := 41) C (by decide +kernel) fl_RX12_85 rfl rfl rfl ?_
            refine zs_bipush (pc := 75) (n := 30) (x := 30) C (by decide +kernel) (by decide +kernel) ?_
            refine zs_iload_n (pc := 77) (k := 1) (i := 1) C (by decide +kernel) rfl rfl ?_
            refine zs_imul (pc := 78) C (by decide +kernel) ?_
            refine zs_iload (pc := 79) (i := 5) C (by decide +kernel) rfl ?_
            refine zs_iadd (pc := 81) C (by decide +kernel) ?_
            refine zs_lald (pc := 82) (o := 311) (n := 120) C (by decide +kernel) rfl (fun hinx15 x15 => ?_)
            refine zs_cvWi (pc := 83) (As := [sL x15]) (st := []) C (fun _ _ _ => rfl) rfl (c_X12_whyTold l g x15) ml_RX12_417 rfl rfl rfl rfl (Nat.le_of_ble_eq_true rfl) ⟨Nat.le_of_ble_eq_true rfl, Nat.le_of_ble_eq_true rfl⟩ ⟨Nat.le_of_ble_eq_true rfl, Nat.le_of_ble_eq_true rfl⟩ (by decide +kernel) (fun x16 => ?_)
            refine zs_istore (pc := 86) (i := 4) (ls' := [(4, sI x16), (0, sR 287), (1, sI a0), (2, sI a1), (3, sI t6.1), (5, sI t6.2.2)]) C (by decide +kernel) (Nat.le_of_ble_eq_true rfl) rfl ?_
            refine zs_iload (pc := 88) (i := 4) C (by decide +kernel) rfl ?_
            refine zs_jn (pJ := 116) (kJ := 0) (sJ := 0) (fun t17 => [(0, sR 287), (1, sI a0), (2, sI a1), (3, sI t17), (4, sI x16), (5, sI t6.2.2)]) (fun t17 => []) (fun t17 => ?_) (fun J18 hJ18 => ?_)
            · refine zs_iinc (pc := 116) (i := 5) (n := 1) (y := w32 (t6.2.2 + 1)) (ls' := [(5, sI (w32 (t6.2.2 + 1))), (0, sR 287), (1, sI a0), (2, sI a1), (3, sI t17), (4, sI x16)]) C (by decide +kernel) rfl rfl (Nat.le_of_ble_eq_true rfl) rfl ?_
              refine zs_goto (pc := 119) (off := (-65)) (tgt := 54) C (by decide +kernel) (by decide) ?_
              exact zs_goj (hK7 (t17, x16, w32 (t6.2.2 + 1))) ⟨rfl, rfl, rfl, rfl, rfl, rfl, trivial⟩
            · refine zs_if_ne (pc := 90) (off := 23) (tgt := 113) C (by decide +kernel) (by decide) ?_ ?_
              · refine zs_iload (pc := 113) (i := 5) C (by decide +kernel) rfl ?_
                refine zs_istore_n (pc := 115) (k := 3) (i := 3) (ls' := [(3, sI t6.2.2), (4, sI x16), (0, sR 287), (1, sI a0), (2, sI a1), (5, sI t6.2.2)]) C (by decide +kernel) rfl (Nat.le_of_ble_eq_true rfl) rfl ?_
                exact zs_goj (hJ18 t6.2.2) ⟨rfl, rfl, rfl, rfl, rfl, rfl, trivial⟩
              · refine zs_aload_n (pc := 93) (k := 0) (i := 0) C (by decide +kernel) rfl rfl ?_
                refine zs_aload_n (pc := 94) (k := 0) (i := 0) C (by decide +kernel) rfl rfl ?_
                refine zs_getR (o' := 311) (pc := 95) (i := 85) (ci := 12) (k := 41) C (by decide +kernel) fl_RX12_85 rfl rfl rfl ?_
                refine zs_bipush (pc := 98) (n := 30) (x := 30) C (by decide +kernel) (by decide +kernel) ?_
                refine zs_iload_n (pc := 100) (k := 1) (i := 1) C (by decide +kernel) rfl rfl ?_
                refine zs_imul (pc := 101) C (by decide +kernel) ?_
                refine zs_iload (pc := 102) (i := 5) C (by decide +kernel) rfl ?_
                refine zs_iadd (pc := 104) C (by decide +kernel) ?_
                refine zs_lald (pc := 105) (o := 311) (n := 120) C (by decide +kernel) rfl (fun hinx19 x19 => ?_)
                refine zs_l2i (pc := 106) C (by decide +kernel) ?_
                refine zs_cvVv (pc := 107) (As := [sI (w32 x19)]) (st := []) C (fun _ _ _ => rfl) (c_X12_does l g (w32 x19)) ml_RX12_420 rfl rfl rfl rfl (Nat.le_of_ble_eq_true rfl) ⟨Nat.le_of_ble_eq_true rfl, Nat.le_of_ble_eq_true rfl⟩ ⟨Nat.le_of_ble_eq_true rfl, Nat.le_of_ble_eq_true rfl⟩ (by decide +kernel) ?_
                refine zs_goto (pc := 110) (off := 6) (tgt := 116) C (by decide +kernel) (by decide) ?_
                exact zs_goj (hJ18 t6.1) ⟨rfl, rfl, rfl, rfl, rfl, rfl, trivial⟩
    · refine zs_iconst (pc := 40) (n := 0) (x := 0) C (by decide +kernel) (by decide +kernel) ?_
      exact zs_retWi (pc := 41) C hr ⟨Nat.le_of_ble_eq_true rfl, Nat.le_of_ble_eq_true rfl⟩ (by decide +kernel)
  · refine zs_if_ne (pc := 13) (off := 20) (tgt := 33) C (by decide +kernel) (by decide) ?_ ?_
    · exact zs_goj (hJ4 ()) ⟨rfl, rfl, rfl, trivial⟩
    · refine zs_iload_n (pc := 16) (k := 2) (i := 2) C (by decide +kernel) rfl rfl ?_
      refine zs_i2l (pc := 17) C (by decide +kernel) ?_
      refine zs_lconst (pc := 18) (n := 0) (x := 0) C (by decide +kernel) (by decide +kernel) ?_
      refine zs_ldc2 (pc := 19) (i := 412) (v := 3) (x := 3) C (by decide +kernel) wf_2220 (by decide +kernel) ?_
      refine zs_csRi (pc := 22) (As := [sL a1, sL 0, sL 3]) (st := []) C rfl (c_X12_within l g a1 0 3) ml_RX12_149 rfl rfl (Nat.le_of_ble_eq_true rfl) ⟨Nat.le_of_ble_eq_true rfl, Nat.le_of_ble_eq_true rfl⟩ ⟨Nat.le_of_ble_eq_true rfl, Nat.le_of_ble_eq_true rfl⟩ (by decide +kernel) (fun x20 => ?_)
      refine zs_if_ne (pc := 25) (off := 8) (tgt := 33) C (by decide +kernel) (by decide) ?_ ?_
      · exact zs_goj (hJ4 ()) ⟨rfl, rfl, rfl, trivial⟩
      · refine zs_aload_n (pc := 28) (k := 0) (i := 0) C (by decide +kernel) rfl rfl ?_
        refine zs_iconst (pc := 29) (n := 3) (x := 3) C (by decide +kernel) (by decide +kernel) ?_
        refine zs_putI (pc := 30) (i := 88) (ci := 12) (k := 4) C (fun _ _ _ => rfl) (by decide +kernel) fl_RX12_88 fw_12_4 rfl rfl ?_
        exact zs_goj (hJ4 ()) ⟨rfl, rfl, rfl, trivial⟩
set_option maxRecDepth 20000 in
theorem c_X12_perform (l : Launch) (g : GC) (a0 : Int) : ConW l g yX12_perform cX12_perform 3 (some .int) (rmd 9 0 0) [sR 287, sI a0] (fun mm => fX12_perform a0 mm) := by
  refine zs_ofW (by decide +kernel) (Nat.le_of_ble_eq_true rfl) ?_
  intro p e s m args below meth c C hr
  replace C : Bd g RX12 cX12_perform 3 p s m args meth c := C
  unfold fX12_perform
  refine zs_aload_n (pc := 0) (k := 0) (i := 0) C (by decide +kernel) rfl rfl ?_
  refine zs_aload_n (pc := 1) (k := 0) (i := 0) C (by decide +kernel) rfl rfl ?_
  refine zs_iload_n (pc := 2) (k := 1) (i := 1) C (by decide +kernel) rfl rfl ?_
  refine zs_cvRi (pc := 3) (As := [sI a0]) (st := [sR 287]) C rfl (c_X12_trayFault l g a0) ml_RX12_409 rfl rfl rfl rfl (Nat.le_of_ble_eq_true rfl) ⟨Nat.le_of_ble_eq_true rfl, Nat.le_of_ble_eq_true rfl⟩ ⟨Nat.le_of_ble_eq_true rfl, Nat.le_of_ble_eq_true rfl⟩ (by decide +kernel) (fun x1 => ?_)
  refine zs_putI (pc := 6) (i := 88) (ci := 12) (k := 4) C (fun _ _ _ => rfl) (by decide +kernel) fl_RX12_88 fw_12_4 rfl rfl ?_
  refine zs_aload_n (pc := 9) (k := 0) (i := 0) C (by decide +kernel) rfl rfl ?_
  refine zs_getI (pc := 10) (i := 88) (ci := 12) (k := 4) C (by decide +kernel) fl_RX12_88 rfl rfl (fun x2 => ?_)
  refine zs_if_le (pc := 13) (off := 5) (tgt := 18) C (by decide +kernel) (by decide) ?_ ?_
  · refine zs_iconst (pc := 18) (n := 0) (x := 0) C (by decide +kernel) (by decide +kernel) ?_
    refine zs_istore_n (pc := 19) (k := 2) (i := 2) (ls' := [(2, sI 0), (0, sR 287), (1, sI a0)]) C (by decide +kernel) rfl (Nat.le_of_ble_eq_true rfl) rfl ?_
    refine zs_sub (ls' := [(0, sR 287), (1, sI a0), (2, sI 0)]) ⟨rfl, rfl, rfl, trivial⟩ ?_
    refine zs_lp (pc := 20) (fun (t3 : Int) => [(0, sR 287), (1, sI a0), (2, sI t3)]) (fun _ => []) (fun K4 hK4 t3 => ?_) BIG 0
    refine zs_iload_n (pc := 20) (k := 2) (i := 2) C (by decide +kernel) rfl rfl ?_
    refine zs_aload_n (pc := 21) (k := 0) (i := 0) C (by decide +kernel) rfl rfl ?_
    refine zs_getR (o' := 310) (pc := 22) (i := 82) (ci := 12) (k := 40) C (by decide +kernel) fl_RX12_82 rfl rfl rfl ?_
    refine zs_iload_n (pc := 25) (k := 1) (i := 1) C (by decide +kernel) rfl rfl ?_
    refine zs_iald (pc := 26) (o := 310) (n := 4) C (by decide +kernel) rfl (fun hinx5 x5 => ?_)
    refine zs_jn (pJ := 74) (kJ := 0) (sJ := 0) (fun t6 => [(2, sI t3)]) (fun t6 => []) (fun t6 => ?_) (fun J7 hJ7 => ?_)
    · refine zs_iload_n (pc := 74) (k := 2) (i := 2) C (by decide +kernel) rfl rfl ?_
      exact zs_retWi (pc := 75) C hr ⟨Nat.le_of_ble_eq_true rfl, Nat.le_of_ble_eq_true rfl⟩ (by decide +kernel)
    · refine zs_icmp_ge (pc := 27) (off := 47) (tgt := 74) C (by decide +kernel) (by decide) ?_ ?_
      · exact zs_goj (hJ7 ()) ⟨rfl, trivial⟩
      · refine zs_aload_n (pc := 30) (k := 0) (i := 0) C (by decide +kernel) rfl rfl ?_
        refine zs_aload_n (pc := 31) (k := 0) (i := 0) C (by decide +kernel) rfl rfl ?_
        refine zs_getR (o' := 311) (pc := 32) (i := 85) (ci := 12) (k := 41) C (by decide +kernel) fl_RX12_85 rfl rfl rfl ?_
        refine zs_bipush (pc := 35) (n := 30) (x := 30) C (by decide +kernel) (by decide +kernel) ?_
        refine zs_iload_n (pc := 37) (k := 1) (i := 1) C (by decide +kernel) rfl rfl ?_
        refine zs_imul (pc := 38) C (by decide +kernel) ?_
        refine zs_iload_n (pc := 39) (k := 2) (i := 2) C (by decide +kernel) rfl rfl ?_
        refine zs_iadd (pc := 40) C (by decide +kernel) ?_
        refine zs_lald (pc := 41) (o := 311) (n := 120) C (by decide +kernel) rfl (fun hinx8 x8 => ?_)
        refine zs_cvWi (pc := 42) (As := [sL x8]) (st := []) C (fun _ _ _ => rfl) rfl (c_X12_whyTold l g x8) ml_RX12_417 rfl rfl rfl rfl (Nat.le_of_ble_eq_true rfl) ⟨Nat.le_of_ble_eq_true rfl, Nat.le_of_ble_eq_true rfl⟩ ⟨Nat.le_of_ble_eq_true rfl, Nat.le_of_ble_eq_true rfl⟩ (by decide +kernel) (fun x9 => ?_)
        refine zs_if_ne (pc := 45) (off := 29) (tgt := 74) C (by decide +kernel) (by decide) ?_ ?_
        · exact zs_goj (hJ7 ()) ⟨rfl, trivial⟩
        · refine zs_aload_n (pc := 48) (k := 0) (i := 0) C (by decide +kernel) rfl rfl ?_
          refine zs_cvVv (pc := 49) (As := []) (st := []) C (fun _ _ _ => rfl) (c_X12_keeps l g ) ml_RX12_376 rfl rfl rfl rfl (Nat.le_of_ble_eq_true rfl) ⟨Nat.le_of_ble_eq_true rfl, Nat.le_of_ble_eq_true rfl⟩ ⟨Nat.le_of_ble_eq_true rfl, Nat.le_of_ble_eq_true rfl⟩ (by decide +kernel) ?_
          refine zs_aload_n (pc := 52) (k := 0) (i := 0) C (by decide +kernel) rfl rfl ?_
          refine zs_aload_n (pc := 53) (k := 0) (i := 0) C (by decide +kernel) rfl rfl ?_
          refine zs_getR (o' := 311) (pc := 54) (i := 85) (ci := 12) (k := 41) C (by decide +kernel) fl_RX12_85 rfl rfl rfl ?_
          refine zs_bipush (pc := 57) (n := 30) (x := 30) C (by decide +kernel) (by decide +kernel) ?_
          refine zs_iload_n (pc := 59) (k := 1) (i := 1) C (by decide +kernel) rfl rfl ?_
          refine zs_imul (pc := 60) C (by decide +kernel) ?_
          refine zs_iload_n (pc := 61) (k := 2) (i := 2) C (by decide +kernel) rfl rfl ?_
          refine zs_iadd (pc := 62) C (by decide +kernel) ?_
          refine zs_lald (pc := 63) (o := 311) (n := 120) C (by decide +kernel) rfl (fun hinx10 x10 => ?_)
          refine zs_l2i (pc := 64) C (by decide +kernel) ?_
          refine zs_cvVv (pc := 65) (As := [sI (w32 x10)]) (st := []) C (fun _ _ _ => rfl) (c_X12_does l g (w32 x10)) ml_RX12_420 rfl rfl rfl rfl (Nat.le_of_ble_eq_true rfl) ⟨Nat.le_of_ble_eq_true rfl, Nat.le_of_ble_eq_true rfl⟩ ⟨Nat.le_of_ble_eq_true rfl, Nat.le_of_ble_eq_true rfl⟩ (by decide +kernel) ?_
          refine zs_iinc (pc := 68) (i := 2) (n := 1) (y := w32 (t3 + 1)) (ls' := [(2, sI (w32 (t3 + 1))), (0, sR 287), (1, sI a0)]) C (by decide +kernel) rfl rfl (Nat.le_of_ble_eq_true rfl) rfl ?_
          refine zs_goto (pc := 71) (off := (-51)) (tgt := 20) C (by decide +kernel) (by decide) ?_
          exact zs_goj (hK4 (w32 (t3 + 1))) ⟨rfl, rfl, rfl, trivial⟩
  · refine zs_iconst (pc := 16) (n := 0) (x := 0) C (by decide +kernel) (by decide +kernel) ?_
    exact zs_retWi (pc := 17) C hr ⟨Nat.le_of_ble_eq_true rfl, Nat.le_of_ble_eq_true rfl⟩ (by decide +kernel)
set_option maxRecDepth 20000 in
theorem c_X12_draw (l : Launch) (g : GC) (a0 : Int) : ConW l g yX12_draw cX12_draw 2 (some .int) (rmd 1 0 0) [sR 287, sI a0] (fun mm => fX12_draw a0 mm) := by
  refine zs_ofW (by decide +kernel) (Nat.le_of_ble_eq_true rfl) ?_
  intro p e s m args below meth c C hr
  replace C : Bd g RX12 cX12_draw 2 p s m args meth c := C
  unfold fX12_draw
  refine zs_aload_n (pc := 0) (k := 0) (i := 0) C (by decide +kernel) rfl rfl ?_
  refine zs_ldcw (pc := 1) (i := 426) (v := 1103515245) (x := 1103515245) C (by decide +kernel) wf_2257 (by decide +kernel) ?_
  refine zs_aload_n (pc := 4) (k := 0) (i := 0) C (by decide +kernel) rfl rfl ?_
  refine zs_getI (pc := 5) (i := 427) (ci := 12) (k := 22) C (by decide +kernel) fl_RX12_427 rfl rfl (fun x1 => ?_)
  refine zs_imul (pc := 8) C (by decide +kernel) ?_
  refine zs_sipush (pc := 9) (n := 12345) (x := 12345) C (by decide +kernel) (by decide +kernel) ?_
  refine zs_iadd (pc := 12) C (by decide +kernel) ?_
  refine zs_putI (pc := 13) (i := 427) (ci := 12) (k := 22) C (fun _ _ _ => rfl) (by decide +kernel) fl_RX12_427 fw_12_22 rfl rfl ?_
  refine zs_aload_n (pc := 16) (k := 0) (i := 0) C (by decide +kernel) rfl rfl ?_
  refine zs_getI (pc := 17) (i := 427) (ci := 12) (k := 22) C (by decide +kernel) fl_RX12_427 rfl rfl (fun x2 => ?_)
  refine zs_bipush (pc := 20) (n := 16) (x := 16) C (by decide +kernel) (by decide +kernel) ?_
  refine zs_iushr (pc := 22) C (by decide +kernel) ?_
  refine zs_iload_n (pc := 23) (k := 1) (i := 1) C (by decide +kernel) rfl rfl ?_
  refine zs_chk (fun _ hy => ?_)
  refine zs_irem (pc := 24) C hy (by decide +kernel) ?_
  exact zs_retWi (pc := 25) C hr ⟨Nat.le_of_ble_eq_true rfl, Nat.le_of_ble_eq_true rfl⟩ (by decide +kernel)
set_option maxRecDepth 20000 in
theorem c_X12_drawn (l : Launch) (g : GC) (a0 : Int) : ConW l g yX12_drawn cX12_drawn 4 (some .int) (rmd 2 0 0) [sR 287, sI a0] (fun mm => fX12_drawn a0 mm) := by
  refine zs_ofW (by decide +kernel) (Nat.le_of_ble_eq_true rfl) ?_
  intro p e s m args below meth c C hr
  replace C : Bd g RX12 cX12_drawn 4 p s m args meth c := C
  unfold fX12_drawn
  refine zs_iload_n (pc := 0) (k := 1) (i := 1) C (by decide +kernel) rfl rfl ?_
  refine zs_iconst (pc := 1) (n := 4) (x := 4) C (by decide +kernel) (by decide +kernel) ?_
  refine zs_icmp_ne (pc := 2) (off := 14) (tgt := 16) C (by decide +kernel) (by decide) ?_ ?_
  · refine zs_aload_n (pc := 16) (k := 0) (i := 0) C (by decide +kernel) rfl rfl ?_
    refine zs_aload_n (pc := 17) (k := 0) (i := 0) C (by decide +kernel) rfl rfl ?_
    refine zs_getR (o' := 288) (pc := 18) (i := 9) (ci := 12) (k := 0) C (by decide +kernel) fl_RX12_9 rfl rfl rfl ?_
    refine zs_iconst (pc := 21) (n := 3) (x := 3) C (by decide +kernel) (by decide +kernel) ?_
    refine zs_ialdk (pc := 22) (o := 288) (n := 2005) C (by decide) (by decide +kernel) rfl (fun x1 => ?_)
    refine zs_cvWi (pc := 23) (As := [sI x1]) (st := []) C (fun _ _ _ => rfl) rfl (c_X12_draw l g x1) ml_RX12_432 rfl rfl rfl rfl (Nat.le_of_ble_eq_true rfl) ⟨Nat.le_of_ble_eq_true rfl, Nat.le_of_ble_eq_true rfl⟩ ⟨Nat.le_of_ble_eq_true rfl, Nat.le_of_ble_eq_true rfl⟩ (by decide +kernel) (fun x2 => ?_)
    refine zs_istore_n (pc := 26) (k := 2) (i := 2) (ls' := [(2, sI x2), (0, sR 287), (1, sI a0)]) C (by decide +kernel) rfl (Nat.le_of_ble_eq_true rfl) rfl ?_
    refine zs_iload_n (pc := 27) (k := 1) (i := 1) C (by decide +kernel) rfl rfl ?_
    refine zs_iconst (pc := 28) (n := 3) (x := 3) C (by decide +kernel) (by decide +kernel) ?_
    refine zs_jn (pJ := 46) (kJ := 0) (sJ := 0) (fun t3 => [(0, sR 287), (1, sI a0), (2, sI x2)]) (fun t3 => [sI t3]) (fun t3 => ?_) (fun J4 hJ4 => ?_)
    · refine zs_istore_n (pc := 46) (k := 3) (i := 3) (ls' := [(3, sI t3), (0, sR 287), (1, sI a0), (2, sI x2)]) C (by decide +kernel) rfl (Nat.le_of_ble_eq_true rfl) rfl ?_
      refine zs_iload_n (pc := 47) (k := 1) (i := 1) C (by decide +kernel) rfl rfl ?_
      refine zs_iconst (pc := 48) (n := 3) (x := 3) C (by decide +kernel) (by decide +kernel) ?_
      refine zs_jn (pJ := 80) (kJ := 0) (sJ := 0) (fun t5 => []) (fun t5 => [sI t5]) (fun t5 => ?_) (fun J6 hJ6 => ?_)
      · exact zs_retWi (pc := 80) C hr ⟨Nat.le_of_ble_eq_true rfl, Nat.le_of_ble_eq_true rfl⟩ (by decide +kernel)
      · refine zs_icmp_ne (pc := 49) (off := 16) (tgt := 65) C (by decide +kernel) (by decide) ?_ ?_
        · refine zs_bipush (pc := 65) (n := 100) (x := 100) C (by decide +kernel) (by decide +kernel) ?_
          refine zs_iload_n (pc := 67) (k := 2) (i := 2) C (by decide +kernel) rfl rfl ?_
          refine zs_imul (pc := 68) C (by decide +kernel) ?_
          refine zs_bipush (pc := 69) (n := 10) (x := 10) C (by decide +kernel) (by decide +kernel) ?_
          refine zs_iload_n (pc := 71) (k := 3) (i := 3) C (by decide +kernel) rfl rfl ?_
          refine zs_imul (pc := 72) C (by decide +kernel) ?_
          refine zs_iadd (pc := 73) C (by decide +kernel) ?_
          refine zs_aload_n (pc := 74) (k := 0) (i := 0) C (by decide +kernel) rfl rfl ?_
          refine zs_iconst (pc := 75) (n := 5) (x := 5) C (by decide +kernel) (by decide +kernel) ?_
          refine zs_cvWi (pc := 76) (As := [sI 5]) (st := [sI (w32 ((w32 (100 * x2)) + (w32 (10 * t3))))]) C (fun _ _ _ => rfl) rfl (c_X12_draw l g 5) ml_RX12_432 rfl rfl rfl rfl (Nat.le_of_ble_eq_true rfl) ⟨Nat.le_of_ble_eq_true rfl, Nat.le_of_ble_eq_true rfl⟩ ⟨Nat.le_of_ble_eq_true rfl, Nat.le_of_ble_eq_true rfl⟩ (by decide +kernel) (fun x7 => ?_)
          refine zs_iadd (pc := 79) C (by decide +kernel) ?_
          exact zs_goj (hJ6 (w32 ((w32 ((w32 (100 * x2)) + (w32 (10 * t3)))) + x7))) trivial
        · refine zs_sipush (pc := 52) (n := 1000) (x := 1000) C (by decide +kernel) (by decide +kernel) ?_
          refine zs_bipush (pc := 55) (n := 10) (x := 10) C (by decide +kernel) (by decide +kernel) ?_
          refine zs_iload_n (pc := 57) (k := 2) (i := 2) C (by decide +kernel) rfl rfl ?_
          refine zs_imul (pc := 58) C (by decide +kernel) ?_
          refine zs_iadd (pc := 59) C (by decide +kernel) ?_
          refine zs_iload_n (pc := 60) (k := 3) (i := 3) C (by decide +kernel) rfl rfl ?_
          refine zs_iadd (pc := 61) C (by decide +kernel) ?_
          refine zs_goto (pc := 62) (off := 18) (tgt := 80) C (by decide +kernel) (by decide) ?_
          exact zs_goj (hJ6 (w32 ((w32 (1000 + (w32 (10 * x2)))) + t3))) trivial
    · refine zs_icmp_ne (pc := 29) (off := 12) (tgt := 41) C (by decide +kernel) (by decide) ?_ ?_
      · refine zs_aload_n (pc := 41) (k := 0) (i := 0) C (by decide +kernel) rfl rfl ?_
        refine zs_iconst (pc := 42) (n := 5) (x := 5) C (by decide +kernel) (by decide +kernel) ?_
        refine zs_cvWi (pc := 43) (As := [sI 5]) (st := []) C (fun _ _ _ => rfl) rfl (c_X12_draw l g 5) ml_RX12_432 rfl rfl rfl rfl (Nat.le_of_ble_eq_true rfl) ⟨Nat.le_of_ble_eq_true rfl, Nat.le_of_ble_eq_true rfl⟩ ⟨Nat.le_of_ble_eq_true rfl, Nat.le_of_ble_eq_true rfl⟩ (by decide +kernel) (fun x8 => ?_)
        exact zs_goj (hJ4 x8) ⟨rfl, rfl, rfl, trivial⟩
      · refine zs_aload_n (pc := 32) (k := 0) (i := 0) C (by decide +kernel) rfl rfl ?_
        refine zs_bipush (pc := 33) (n := 10) (x := 10) C (by decide +kernel) (by decide +kernel) ?_
        refine zs_cvWi (pc := 35) (As := [sI 10]) (st := []) C (fun _ _ _ => rfl) rfl (c_X12_draw l g 10) ml_RX12_432 rfl rfl rfl rfl (Nat.le_of_ble_eq_true rfl) ⟨Nat.le_of_ble_eq_true rfl, Nat.le_of_ble_eq_true rfl⟩ ⟨Nat.le_of_ble_eq_true rfl, Nat.le_of_ble_eq_true rfl⟩ (by decide +kernel) (fun x9 => ?_)
        refine zs_goto (pc := 38) (off := 8) (tgt := 46) C (by decide +kernel) (by decide) ?_
        exact zs_goj (hJ4 x9) ⟨rfl, rfl, rfl, trivial⟩
  · refine zs_sipush (pc := 5) (n := 2000) (x := 2000) C (by decide +kernel) (by decide +kernel) ?_
    refine zs_aload_n (pc := 8) (k := 0) (i := 0) C (by decide +kernel) rfl rfl ?_
    refine zs_bipush (pc := 9) (n := 10) (x := 10) C (by decide +kernel) (by decide +kernel) ?_
    refine zs_cvWi (pc := 11) (As := [sI 10]) (st := [sI 2000]) C (fun _ _ _ => rfl) rfl (c_X12_draw l g 10) ml_RX12_432 rfl rfl rfl rfl (Nat.le_of_ble_eq_true rfl) ⟨Nat.le_of_ble_eq_true rfl, Nat.le_of_ble_eq_true rfl⟩ ⟨Nat.le_of_ble_eq_true rfl, Nat.le_of_ble_eq_true rfl⟩ (by decide +kernel) (fun x10 => ?_)
    refine zs_iadd (pc := 14) C (by decide +kernel) ?_
    exact zs_retWi (pc := 15) C hr ⟨Nat.le_of_ble_eq_true rfl, Nat.le_of_ble_eq_true rfl⟩ (by decide +kernel)
set_option maxRecDepth 20000 in
theorem c_X12_season (l : Launch) (g : GC) (a0 : Int) (a1 : Int) : ConW l g yX12_season cX12_season 7 (some .int) (rmd 9 0 0) [sR 287, sI a0, sI a1] (fun mm => fX12_season a0 a1 mm) := by
  refine zs_ofW (by decide +kernel) (Nat.le_of_ble_eq_true rfl) ?_
  intro p e s m args below meth c C hr
  replace C : Bd g RX12 cX12_season 7 p s m args meth c := C
  unfold fX12_season
  refine zs_aload_n (pc := 0) (k := 0) (i := 0) C (by decide +kernel) rfl rfl ?_
  refine zs_iconst (pc := 1) (n := 0) (x := 0) C (by decide +kernel) (by decide +kernel) ?_
  refine zs_putI (pc := 2) (i := 88) (ci := 12) (k := 4) C (fun _ _ _ => rfl) (by decide +kernel) fl_RX12_88 fw_12_4 rfl rfl ?_
  refine zs_iload_n (pc := 5) (k := 2) (i := 2) C (by decide +kernel) rfl rfl ?_
  refine zs_i2l (pc := 6) C (by decide +kernel) ?_
  refine zs_lconst (pc := 7) (n := 1) (x := 1) C (by decide +kernel) (by decide +kernel) ?_
  refine zs_ldc2 (pc := 8) (i := 430) (v := 30) (x := 30) C (by decide +kernel) wf_2252 (by decide +kernel) ?_
  refine zs_csRi (pc := 11) (As := [sL a1, sL 1, sL 30]) (st := []) C rfl (c_X12_within l g a1 1 30) ml_RX12_149 rfl rfl (Nat.le_of_ble_eq_true rfl) ⟨Nat.le_of_ble_eq_true rfl, Nat.le_of_ble_eq_true rfl⟩ ⟨Nat.le_of_ble_eq_true rfl, Nat.le_of_ble_eq_true rfl⟩ (by decide +kernel) (fun x1 => ?_)
  refine zs_if_ne (pc := 14) (off := 9) (tgt := 23) C (by decide +kernel) (by decide) ?_ ?_
  · refine zs_aload_n (pc := 23) (k := 0) (i := 0) C (by decide +kernel) rfl rfl ?_
    refine zs_iload_n (pc := 24) (k := 1) (i := 1) C (by decide +kernel) rfl rfl ?_
    refine zs_putI (pc := 25) (i := 427) (ci := 12) (k := 22) C (fun _ _ _ => rfl) (by decide +kernel) fl_RX12_427 fw_12_22 rfl rfl ?_
    refine zs_iconst (pc := 28) (n := 0) (x := 0) C (by decide +kernel) (by decide +kernel) ?_
    refine zs_istore_n (pc := 29) (k := 3) (i := 3) (ls' := [(3, sI 0), (0, sR 287), (1, sI a0), (2, sI a1)]) C (by decide +kernel) rfl (Nat.le_of_ble_eq_true rfl) rfl ?_
    refine zs_iconst (pc := 30) (n := 0) (x := 0) C (by decide +kernel) (by decide +kernel) ?_
    refine zs_istore (pc := 31) (i := 4) (ls' := [(4, sI 0), (3, sI 0), (0, sR 287), (1, sI a0), (2, sI a1)]) C (by decide +kernel) (Nat.le_of_ble_eq_true rfl) rfl ?_
    refine zs_sub (ls' := [(0, sR 287), (2, sI a1), (3, sI 0), (4, sI 0)]) ⟨rfl, rfl, rfl, rfl, trivial⟩ ?_
    refine zs_lp (pc := 33) (fun (t2 : Int × Int) => [(0, sR 287), (2, sI a1), (3, sI t2.1), (4, sI t2.2)]) (fun _ => []) (fun K3 hK3 t2 => ?_) BIG (0, 0)
    refine zs_iload (pc := 33) (i := 4) C (by decide +kernel) rfl ?_
    refine zs_iload_n (pc := 35) (k := 2) (i := 2) C (by decide +kernel) rfl rfl ?_
    refine zs_icmp_ge (pc := 36) (off := 76) (tgt := 112) C (by decide +kernel) (by decide) ?_ ?_
    · refine zs_iload_n (pc := 112) (k := 3) (i := 3) C (by decide +kernel) rfl rfl ?_
      exact zs_retWi (pc := 113) C hr ⟨Nat.le_of_ble_eq_true rfl, Nat.le_of_ble_eq_true rfl⟩ (by decide +kernel)
    · refine zs_aload_n (pc := 39) (k := 0) (i := 0) C (by decide +kernel) rfl rfl ?_
      refine zs_iconst (pc := 40) (n := 5) (x := 5) C (by decide +kernel) (by decide +kernel) ?_
      refine zs_cvWi (pc := 41) (As := [sI 5]) (st := []) C (fun _ _ _ => rfl) rfl (c_X12_draw l g 5) ml_RX12_432 rfl rfl rfl rfl (Nat.le_of_ble_eq_true rfl) ⟨Nat.le_of_ble_eq_true rfl, Nat.le_of_ble_eq_true rfl⟩ ⟨Nat.le_of_ble_eq_true rfl, Nat.le_of_ble_eq_true rfl⟩ (by decide +kernel) (fun x4 => ?_)
      refine zs_istore (pc := 44) (i := 5) (ls' := [(5, sI x4), (0, sR 287), (2, sI a1), (3, sI t2.1), (4, sI t2.2)]) C (by decide +kernel) (Nat.le_of_ble_eq_true rfl) rfl ?_
      refine zs_iload (pc := 46) (i := 5) C (by decide +kernel) rfl ?_
      refine zs_jn (pJ := 106) (kJ := 0) (sJ := 0) (fun t5 => [(0, sR 287), (2, sI a1), (3, sI t5), (4, sI t2.2)]) (fun t5 => []) (fun t5 => ?_) (fun J6 hJ6 => ?_)
      · refine zs_iinc (pc := 106) (i := 4) (n := 1) (y := w32 (t2.2 + 1)) (ls' := [(4, sI (w32 (t2.2 + 1))), (0, sR 287), (2, sI a1), (3, sI t5)]) C (by decide +kernel) rfl rfl (Nat.le_of_ble_eq_true rfl) rfl ?_
        refine zs_goto (pc := 109) (off := (-76)) (tgt := 33) C (by decide +kernel) (by decide) ?_
        exact zs_goj (hK3 (t5, w32 (t2.2 + 1))) ⟨rfl, rfl, rfl, rfl, trivial⟩
      · refine zs_jn (pJ := 63) (kJ := 0) (sJ := 0) (fun t7 => [(0, sR 287), (2, sI a1), (3, sI t2.1), (4, sI t2.2), (5, sI x4)]) (fun t7 => []) (fun t7 => ?_) (fun J8 hJ8 => ?_)
        · refine zs_iload (pc := 63) (i := 5) C (by decide +kernel) rfl ?_
          refine zs_jn (pJ := 78) (kJ := 0) (sJ := 0) (fun t9 => [(0, sR 287), (2, sI a1), (3, sI t2.1), (4, sI t2.2)]) (fun t9 => [sI t9]) (fun t9 => ?_) (fun J10 hJ10 => ?_)
          · refine zs_istore (pc := 78) (i := 6) (ls' := [(6, sI t9), (0, sR 287), (2, sI a1), (3, sI t2.1), (4, sI t2.2)]) C (by decide +kernel) (Nat.le_of_ble_eq_true rfl) rfl ?_
            refine zs_aload_n (pc := 80) (k := 0) (i := 0) C (by decide +kernel) rfl rfl ?_
            refine zs_iload (pc := 81) (i := 6) C (by decide +kernel) rfl ?_
            refine zs_i2l (pc := 83) C (by decide +kernel) ?_
            refine zs_cvWi (pc := 84) (As := [sL t9]) (st := []) C (fun _ _ _ => rfl) rfl (c_X12_whyTold l g t9) ml_RX12_417 rfl rfl rfl rfl (Nat.le_of_ble_eq_true rfl) ⟨Nat.le_of_ble_eq_true rfl, Nat.le_of_ble_eq_true rfl⟩ ⟨Nat.le_of_ble_eq_true rfl, Nat.le_of_ble_eq_true rfl⟩ (by decide +kernel) (fun x11 => ?_)
            refine zs_if_eq (pc := 87) (off := 6) (tgt := 93) C (by decide +kernel) (by decide) ?_ ?_
            · refine zs_aload_n (pc := 93) (k := 0) (i := 0) C (by decide +kernel) rfl rfl ?_
              refine zs_cvVv (pc := 94) (As := []) (st := []) C (fun _ _ _ => rfl) (c_X12_keeps l g ) ml_RX12_376 rfl rfl rfl rfl (Nat.le_of_ble_eq_true rfl) ⟨Nat.le_of_ble_eq_true rfl, Nat.le_of_ble_eq_true rfl⟩ ⟨Nat.le_of_ble_eq_true rfl, Nat.le_of_ble_eq_true rfl⟩ (by decide +kernel) ?_
              refine zs_aload_n (pc := 97) (k := 0) (i := 0) C (by decide +kernel) rfl rfl ?_
              refine zs_iload (pc := 98) (i := 6) C (by decide +kernel) rfl ?_
              refine zs_cvVv (pc := 100) (As := [sI t9]) (st := []) C (fun _ _ _ => rfl) (c_X12_does l g t9) ml_RX12_420 rfl rfl rfl rfl (Nat.le_of_ble_eq_true rfl) ⟨Nat.le_of_ble_eq_true rfl, Nat.le_of_ble_eq_true rfl⟩ ⟨Nat.le_of_ble_eq_true rfl, Nat.le_of_ble_eq_true rfl⟩ (by decide +kernel) ?_
              refine zs_iinc (pc := 103) (i := 3) (n := 1) (y := w32 (t2.1 + 1)) (ls' := [(3, sI (w32 (t2.1 + 1))), (6, sI t9), (0, sR 287), (2, sI a1), (4, sI t2.2)]) C (by decide +kernel) rfl rfl (Nat.le_of_ble_eq_true rfl) rfl ?_
              exact zs_goj (hJ6 (w32 (t2.1 + 1))) ⟨rfl, rfl, rfl, rfl, trivial⟩
            · refine zs_goto (pc := 90) (off := 16) (tgt := 106) C (by decide +kernel) (by decide) ?_
              exact zs_goj (hJ6 t2.1) ⟨rfl, rfl, rfl, rfl, trivial⟩
          · refine zs_if_ne (pc := 65) (off := 7) (tgt := 72) C (by decide +kernel) (by decide) ?_ ?_
            · refine zs_aload_n (pc := 72) (k := 0) (i := 0) C (by decide +kernel) rfl rfl ?_
              refine zs_iload (pc := 73) (i := 5) C (by decide +kernel) rfl ?_
              refine zs_cvWi (pc := 75) (As := [sI x4]) (st := []) C (fun _ _ _ => rfl) rfl (c_X12_drawn l g x4) ml_RX12_435 rfl rfl rfl rfl (Nat.le_of_ble_eq_true rfl) ⟨Nat.le_of_ble_eq_true rfl, Nat.le_of_ble_eq_true rfl⟩ ⟨Nat.le_of_ble_eq_true rfl, Nat.le_of_ble_eq_true rfl⟩ (by decide +kernel) (fun x12 => ?_)
              exact zs_goj (hJ10 x12) ⟨rfl, rfl, rfl, rfl, trivial⟩
            · refine zs_iconst (pc := 68) (n := (-1)) (x := (-1)) C (by decide +kernel) (by decide +kernel) ?_
              refine zs_goto (pc := 69) (off := 9) (tgt := 78) C (by decide +kernel) (by decide) ?_
              exact zs_goj (hJ10 (-1)) ⟨rfl, rfl, rfl, rfl, trivial⟩
        · refine zs_if_le (pc := 48) (off := 15) (tgt := 63) C (by decide +kernel) (by decide) ?_ ?_
          · exact zs_goj (hJ8 ()) ⟨rfl, rfl, rfl, rfl, rfl, trivial⟩
          · refine zs_aload_n (pc := 51) (k := 0) (i := 0) C (by decide +kernel) rfl rfl ?_
            refine zs_getR (o' := 288) (pc := 52) (i := 9) (ci := 12) (k := 0) C (by decide +kernel) fl_RX12_9 rfl rfl rfl ?_
            refine zs_iconst (pc := 55) (n := 3) (x := 3) C (by decide +kernel) (by decide +kernel) ?_
            refine zs_ialdk (pc := 56) (o := 288) (n := 2005) C (by decide) (by decide +kernel) rfl (fun x13 => ?_)
            refine zs_if_ne (pc := 57) (off := 6) (tgt := 63) C (by decide +kernel) (by decide) ?_ ?_
            · exact zs_goj (hJ8 ()) ⟨rfl, rfl, rfl, rfl, rfl, trivial⟩
            · refine zs_goto (pc := 60) (off := 46) (tgt := 106) C (by decide +kernel) (by decide) ?_
              exact zs_goj (hJ6 t2.1) ⟨rfl, rfl, rfl, rfl, trivial⟩
  · refine zs_aload_n (pc := 17) (k := 0) (i := 0) C (by decide +kernel) rfl rfl ?_
    refine zs_iconst (pc := 18) (n := 1) (x := 1) C (by decide +kernel) (by decide +kernel) ?_
    refine zs_cvWi (pc := 19) (As := [sI 1]) (st := []) C (fun _ _ _ => rfl) rfl (c_X12_fails l g 1) ml_RX12_279 rfl rfl rfl rfl (Nat.le_of_ble_eq_true rfl) ⟨Nat.le_of_ble_eq_true rfl, Nat.le_of_ble_eq_true rfl⟩ ⟨Nat.le_of_ble_eq_true rfl, Nat.le_of_ble_eq_true rfl⟩ (by decide +kernel) (fun x14 => ?_)
    exact zs_retWi (pc := 22) C hr ⟨Nat.le_of_ble_eq_true rfl, Nat.le_of_ble_eq_true rfl⟩ (by decide +kernel)
set_option maxRecDepth 20000 in
theorem c_X12_partsIn (l : Launch) (g : GC) (a0 : Int) : ConW l g yX12_partsIn cX12_partsIn 3 (some .int) (rmd 5 0 0) [sR 287, sI a0] (fun mm => fX12_partsIn a0 mm) := by
  refine zs_ofW (by decide +kernel) (Nat.le_of_ble_eq_true rfl) ?_
  intro p e s m args below meth c C hr
  replace C : Bd g RX12 cX12_partsIn 3 p s m args meth c := C
  unfold fX12_partsIn
  refine zs_aload_n (pc := 0) (k := 0) (i := 0) C (by decide +kernel) rfl rfl ?_
  refine zs_iconst (pc := 1) (n := 0) (x := 0) C (by decide +kernel) (by decide +kernel) ?_
  refine zs_putI (pc := 2) (i := 88) (ci := 12) (k := 4) C (fun _ _ _ => rfl) (by decide +kernel) fl_RX12_88 fw_12_4 rfl rfl ?_
  refine zs_aload_n (pc := 5) (k := 0) (i := 0) C (by decide +kernel) rfl rfl ?_
  refine zs_iload_n (pc := 6) (k := 1) (i := 1) C (by decide +kernel) rfl rfl ?_
  refine zs_i2l (pc := 7) C (by decide +kernel) ?_
  refine zs_cvRi (pc := 8) (As := [sL a0]) (st := []) C rfl (c_X12_isPair l g a0) ml_RX12_338 rfl rfl rfl rfl (Nat.le_of_ble_eq_true rfl) ⟨Nat.le_of_ble_eq_true rfl, Nat.le_of_ble_eq_true rfl⟩ ⟨Nat.le_of_ble_eq_true rfl, Nat.le_of_ble_eq_true rfl⟩ (by decide +kernel) (fun x1 => ?_)
  refine zs_if_ne (pc := 11) (off := 9) (tgt := 20) C (by decide +kernel) (by decide) ?_ ?_
  · refine zs_aload_n (pc := 20) (k := 0) (i := 0) C (by decide +kernel) rfl rfl ?_
    refine zs_iload_n (pc := 21) (k := 1) (i := 1) C (by decide +kernel) rfl rfl ?_
    refine zs_cvRi (pc := 22) (As := [sI a0]) (st := []) C rfl (c_X12_isParted l g a0) ml_RX12_349 rfl rfl rfl rfl (Nat.le_of_ble_eq_true rfl) ⟨Nat.le_of_ble_eq_true rfl, Nat.le_of_ble_eq_true rfl⟩ ⟨Nat.le_of_ble_eq_true rfl, Nat.le_of_ble_eq_true rfl⟩ (by decide +kernel) (fun x2 => ?_)
    refine zs_if_eq (pc := 25) (off := 5) (tgt := 30) C (by decide +kernel) (by decide) ?_ ?_
    · refine zs_iconst (pc := 30) (n := 1) (x := 1) C (by decide +kernel) (by decide +kernel) ?_
      refine zs_istore_n (pc := 31) (k := 2) (i := 2) (ls' := [(2, sI 1), (0, sR 287), (1, sI a0)]) C (by decide +kernel) rfl (Nat.le_of_ble_eq_true rfl) rfl ?_
      refine zs_sub (ls' := [(0, sR 287), (1, sI a0), (2, sI 1)]) ⟨rfl, rfl, rfl, trivial⟩ ?_
      refine zs_lp (pc := 32) (fun (t3 : Int) => [(0, sR 287), (1, sI a0), (2, sI t3)]) (fun _ => []) (fun K4 hK4 t3 => ?_) BIG 1
      refine zs_iload_n (pc := 32) (k := 2) (i := 2) C (by decide +kernel) rfl rfl ?_
      refine zs_sipush (pc := 33) (n := 999) (x := 999) C (by decide +kernel) (by decide +kernel) ?_
      refine zs_icmp_gt (pc := 36) (off := 42) (tgt := 78) C (by decide +kernel) (by decide) ?_ ?_
      · refine zs_iconst (pc := 78) (n := (-1)) (x := (-1)) C (by decide +kernel) (by decide +kernel) ?_
        exact zs_retWi (pc := 79) C hr ⟨Nat.le_of_ble_eq_true rfl, Nat.le_of_ble_eq_true rfl⟩ (by decide +kernel)
      · refine zs_aload_n (pc := 39) (k := 0) (i := 0) C (by decide +kernel) rfl rfl ?_
        refine zs_iload_n (pc := 40) (k := 1) (i := 1) C (by decide +kernel) rfl rfl ?_
        refine zs_cvRi (pc := 41) (As := [sI a0]) (st := []) C rfl (c_X12_apartOf l g a0) ml_RX12_343 rfl rfl rfl rfl (Nat.le_of_ble_eq_true rfl) ⟨Nat.le_of_ble_eq_true rfl, Nat.le_of_ble_eq_true rfl⟩ ⟨Nat.le_of_ble_eq_true rfl, Nat.le_of_ble_eq_true rfl⟩ (by decide +kernel) (fun x5 => ?_)
        refine zs_aload_n (pc := 44) (k := 0) (i := 0) C (by decide +kernel) rfl rfl ?_
        refine zs_iload_n (pc := 45) (k := 1) (i := 1) C (by decide +kernel) rfl rfl ?_
        refine zs_aload_n (pc := 46) (k := 0) (i := 0) C (by decide +kernel) rfl rfl ?_
        refine zs_getR (o' := 288) (pc := 47) (i := 9) (ci := 12) (k := 0) C (by decide +kernel) fl_RX12_9 rfl rfl rfl ?_
        refine zs_bipush (pc := 50) (n := 25) (x := 25) C (by decide +kernel) (by decide +kernel) ?_
        refine zs_iload_n (pc := 52) (k := 1) (i := 1) C (by decide +kernel) rfl rfl ?_
        refine zs_iadd (pc := 53) C (by decide +kernel) ?_
        refine zs_iald (pc := 54) (o := 288) (n := 2005) C (by decide +kernel) rfl (fun hinx6 x6 => ?_)
        refine zs_aload_n (pc := 55) (k := 0) (i := 0) C (by decide +kernel) rfl rfl ?_
        refine zs_getR (o' := 288) (pc := 56) (i := 9) (ci := 12) (k := 0) C (by decide +kernel) fl_RX12_9 rfl rfl rfl ?_
        refine zs_bipush (pc := 59) (n := 24) (x := 24) C (by decide +kernel) (by decide +kernel) ?_
        refine zs_ialdk (pc := 61) (o := 288) (n := 2005) C (by decide) (by decide +kernel) rfl (fun x7 => ?_)
        refine zs_iload_n (pc := 62) (k := 2) (i := 2) C (by decide +kernel) rfl rfl ?_
        refine zs_iadd (pc := 63) C (by decide +kernel) ?_
        refine zs_cvWi (pc := 64) (As := [sI a0, sI x6, sI (w32 (x7 + t3))]) (st := [sI x5]) C (fun _ _ _ => rfl) rfl (c_X12_lengthIn l g a0 x6 (w32 (x7 + t3))) ml_RX12_330 rfl rfl rfl rfl (Nat.le_of_ble_eq_true rfl) ⟨Nat.le_of_ble_eq_true rfl, Nat.le_of_ble_eq_true rfl⟩ ⟨Nat.le_of_ble_eq_true rfl, Nat.le_of_ble_eq_true rfl⟩ (by decide +kernel) (fun x8 => ?_)
        refine zs_icmp_le (pc := 67) (off := 5) (tgt := 72) C (by decide +kernel) (by decide) ?_ ?_
        · refine zs_iinc (pc := 72) (i := 2) (n := 1) (y := w32 (t3 + 1)) (ls' := [(2, sI (w32 (t3 + 1))), (0, sR 287), (1, sI a0)]) C (by decide +kernel) rfl rfl (Nat.le_of_ble_eq_true rfl) rfl ?_
          refine zs_goto (pc := 75) (off := (-43)) (tgt := 32) C (by decide +kernel) (by decide) ?_
          exact zs_goj (hK4 (w32 (t3 + 1))) ⟨rfl, rfl, rfl, trivial⟩
        · refine zs_iload_n (pc := 70) (k := 2) (i := 2) C (by decide +kernel) rfl rfl ?_
          exact zs_retWi (pc := 71) C hr ⟨Nat.le_of_ble_eq_true rfl, Nat.le_of_ble_eq_true rfl⟩ (by decide +kernel)
    · refine zs_iconst (pc := 28) (n := 0) (x := 0) C (by decide +kernel) (by decide +kernel) ?_
      exact zs_retWi (pc := 29) C hr ⟨Nat.le_of_ble_eq_true rfl, Nat.le_of_ble_eq_true rfl⟩ (by decide +kernel)
  · refine zs_aload_n (pc := 14) (k := 0) (i := 0) C (by decide +kernel) rfl rfl ?_
    refine zs_iconst (pc := 15) (n := 1) (x := 1) C (by decide +kernel) (by decide +kernel) ?_
    refine zs_cvWi (pc := 16) (As := [sI 1]) (st := []) C (fun _ _ _ => rfl) rfl (c_X12_fails l g 1) ml_RX12_279 rfl rfl rfl rfl (Nat.le_of_ble_eq_true rfl) ⟨Nat.le_of_ble_eq_true rfl, Nat.le_of_ble_eq_true rfl⟩ ⟨Nat.le_of_ble_eq_true rfl, Nat.le_of_ble_eq_true rfl⟩ (by decide +kernel) (fun x9 => ?_)
    exact zs_retWi (pc := 19) C hr ⟨Nat.le_of_ble_eq_true rfl, Nat.le_of_ble_eq_true rfl⟩ (by decide +kernel)
set_option maxRecDepth 20000 in
theorem c_X12_laysSteps (l : Launch) (g : GC) (a0 : Int) : ConV l g yX12_laysSteps cX12_laysSteps 5 (rmd 3 0 0) [sR 287, sI a0] (fun mm => fX12_laysSteps a0 mm) := by
  refine zs_ofV (by decide +kernel) (Nat.le_of_ble_eq_true rfl) ?_
  intro p e s m args below meth c C hr
  replace C : Bd g RX12 cX12_laysSteps 5 p s m args meth c := C
  unfold fX12_laysSteps
  refine zs_iconst (pc := 0) (n := 0) (x := 0) C (by decide +kernel) (by decide +kernel) ?_
  refine zs_istore_n (pc := 1) (k := 2) (i := 2) (ls' := [(2, sI 0), (0, sR 287), (1, sI a0)]) C (by decide +kernel) rfl (Nat.le_of_ble_eq_true rfl) rfl ?_
  refine zs_sub (ls' := [(0, sR 287), (1, sI a0), (2, sI 0)]) ⟨rfl, rfl, rfl, trivial⟩ ?_
  refine zs_lp (pc := 2) (fun (t1 : Int) => [(0, sR 287), (1, sI a0), (2, sI t1)]) (fun _ => []) (fun K2 hK2 t1 => ?_) BIG 0
  refine zs_iload_n (pc := 2) (k := 2) (i := 2) C (by decide +kernel) rfl rfl ?_
  refine zs_sipush (pc := 3) (n := 250) (x := 250) C (by decide +kernel) (by decide +kernel) ?_
  refine zs_icmp_ge (pc := 6) (off := 87) (tgt := 93) C (by decide +kernel) (by decide) ?_ ?_
  · exact zs_retVv (pc := 93) C hr ⟨Nat.le_of_ble_eq_true rfl, Nat.le_of_ble_eq_true rfl⟩ (by decide +kernel)
  · refine zs_iload_n (pc := 9) (k := 2) (i := 2) C (by decide +kernel) rfl rfl ?_
    refine zs_iconst (pc := 10) (n := 5) (x := 5) C (by decide +kernel) (by decide +kernel) ?_
    refine zs_idiv (pc := 11) C (by decide +kernel) (by decide +kernel) ?_
    refine zs_bipush (pc := 12) (n := 25) (x := 25) C (by decide +kernel) (by decide +kernel) ?_
    refine zs_irem (pc := 14) C (by decide +kernel) (by decide +kernel) ?_
    refine zs_let (fun x3 => ?_)
    refine zs_istore_n (pc := 15) (k := 3) (i := 3) (ls' := [(3, sI x3), (0, sR 287), (1, sI a0), (2, sI t1)]) C (by decide +kernel) rfl (Nat.le_of_ble_eq_true rfl) rfl ?_
    refine zs_aload_n (pc := 16) (k := 0) (i := 0) C (by decide +kernel) rfl rfl ?_
    refine zs_iload_n (pc := 17) (k := 3) (i := 3) C (by decide +kernel) rfl rfl ?_
    refine zs_i2l (pc := 18) C (by decide +kernel) ?_
    refine zs_cvRi (pc := 19) (As := [sL x3]) (st := []) C rfl (c_X12_isPlace l g x3) ml_RX12_334 rfl rfl rfl rfl (Nat.le_of_ble_eq_true rfl) ⟨Nat.le_of_ble_eq_true rfl, Nat.le_of_ble_eq_true rfl⟩ ⟨Nat.le_of_ble_eq_true rfl, Nat.le_of_ble_eq_true rfl⟩ (by decide +kernel) (fun x4 => ?_)
    refine zs_jn (pJ := 37) (kJ := 0) (sJ := 0) (fun t5 => [(0, sR 287), (1, sI a0), (2, sI t1)]) (fun t5 => [sI t5]) (fun t5 => ?_) (fun J6 hJ6 => ?_)
    · refine zs_istore (pc := 37) (i := 4) (ls' := [(4, sI t5), (0, sR 287), (1, sI a0), (2, sI t1)]) C (by decide +kernel) (Nat.le_of_ble_eq_true rfl) rfl ?_
      refine zs_aload_n (pc := 39) (k := 0) (i := 0) C (by decide +kernel) rfl rfl ?_
      refine zs_getR (o' := 299) (pc := 40) (i := 48) (ci := 12) (k := 26) C (by decide +kernel) fl_RX12_48 rfl rfl rfl ?_
      refine zs_sipush (pc := 43) (n := 250) (x := 250) C (by decide +kernel) (by decide +kernel) ?_
      refine zs_iload_n (pc := 46) (k := 1) (i := 1) C (by decide +kernel) rfl rfl ?_
      refine zs_imul (pc := 47) C (by decide +kernel) ?_
      refine zs_iload_n (pc := 48) (k := 2) (i := 2) C (by decide +kernel) rfl rfl ?_
      refine zs_iadd (pc := 49) C (by decide +kernel) ?_
      refine zs_iload_n (pc := 50) (k := 2) (i := 2) C (by decide +kernel) rfl rfl ?_
      refine zs_iconst (pc := 51) (n := 5) (x := 5) C (by decide +kernel) (by decide +kernel) ?_
      refine zs_irem (pc := 52) C (by decide +kernel) (by decide +kernel) ?_
      refine zs_jn (pJ := 86) (kJ := 0) (sJ := 0) (fun t7 => [(0, sR 287), (1, sI a0), (2, sI t1)]) (fun t7 => [sI t7, sI (w32 ((w32 (250 * a0)) + t1)), sR 299]) (fun t7 => ?_) (fun J8 hJ8 => ?_)
      · refine zs_iast (pc := 86) (o := 299) (n := 10250) C (fun _ _ _ => rfl) (by decide +kernel) rfl ?_
        refine zs_iinc (pc := 87) (i := 2) (n := 1) (y := w32 (t1 + 1)) (ls' := [(2, sI (w32 (t1 + 1))), (0, sR 287), (1, sI a0)]) C (by decide +kernel) rfl rfl (Nat.le_of_ble_eq_true rfl) rfl ?_
        refine zs_goto (pc := 90) (off := (-88)) (tgt := 2) C (by decide +kernel) (by decide) ?_
        exact zs_goj (hK2 (w32 (t1 + 1))) ⟨rfl, rfl, rfl, trivial⟩
      · refine zs_jn (pJ := 80) (kJ := 0) (sJ := 0) (fun t9 => [(0, sR 287), (1, sI a0), (2, sI t1), (4, sI t5)]) (fun t9 => [sI (w32 ((w32 (250 * a0)) + t1)), sR 299]) (fun t9 => ?_) (fun J10 hJ10 => ?_)
        · refine zs_iload (pc := 80) (i := 4) C (by decide +kernel) rfl ?_
          refine zs_goto (pc := 82) (off := 4) (tgt := 86) C (by decide +kernel) (by decide) ?_
          exact zs_goj (hJ8 t5) ⟨rfl, rfl, rfl, trivial⟩
        · refine zs_if_eq (pc := 53) (off := 27) (tgt := 80) C (by decide +kernel) (by decide) ?_ ?_
          · exact zs_goj (hJ10 ()) ⟨rfl, rfl, rfl, rfl, trivial⟩
          · refine zs_iload (pc := 56) (i := 4) C (by decide +kernel) rfl ?_
            refine zs_iconst (pc := 58) (n := (-1)) (x := (-1)) C (by decide +kernel) (by decide +kernel) ?_
            refine zs_jn (pJ := 85) (kJ := 0) (sJ := 0) (fun t11 => [(0, sR 287), (1, sI a0), (2, sI t1)]) (fun t11 => [sI (w32 ((w32 (250 * a0)) + t1)), sR 299]) (fun t11 => ?_) (fun J12 hJ12 => ?_)
            · refine zs_iconst (pc := 85) (n := (-1)) (x := (-1)) C (by decide +kernel) (by decide +kernel) ?_
              exact zs_goj (hJ8 (-1)) ⟨rfl, rfl, rfl, trivial⟩
            · refine zs_icmp_eq (pc := 59) (off := 26) (tgt := 85) C (by decide +kernel) (by decide) ?_ ?_
              · exact zs_goj (hJ12 ()) ⟨rfl, rfl, rfl, trivial⟩
              · refine zs_aload_n (pc := 62) (k := 0) (i := 0) C (by decide +kernel) rfl rfl ?_
                refine zs_getR (o' := 297) (pc := 63) (i := 42) (ci := 12) (k := 24) C (by decide +kernel) fl_RX12_42 rfl rfl rfl ?_
                refine zs_iload_n (pc := 66) (k := 2) (i := 2) C (by decide +kernel) rfl rfl ?_
                refine zs_bipush (pc := 67) (n := 125) (x := 125) C (by decide +kernel) (by decide +kernel) ?_
                refine zs_idiv (pc := 69) C (by decide +kernel) (by decide +kernel) ?_
                refine zs_bipush (pc := 70) (n := 25) (x := 25) C (by decide +kernel) (by decide +kernel) ?_
                refine zs_imul (pc := 72) C (by decide +kernel) ?_
                refine zs_iload (pc := 73) (i := 4) C (by decide +kernel) rfl ?_
                refine zs_iadd (pc := 75) C (by decide +kernel) ?_
                refine zs_zald (pc := 76) (o := 297) (n := 50) C (by decide +kernel) rfl (fun hinx13 x13 => ?_)
                refine zs_if_eq (pc := 77) (off := 8) (tgt := 85) C (by decide +kernel) (by decide) ?_ ?_
                · exact zs_goj (hJ12 ()) ⟨rfl, rfl, rfl, trivial⟩
                · exact zs_goj (hJ10 ()) ⟨rfl, rfl, rfl, rfl, trivial⟩
    · refine zs_if_eq (pc := 22) (off := 14) (tgt := 36) C (by decide +kernel) (by decide) ?_ ?_
      · refine zs_iconst (pc := 36) (n := (-1)) (x := (-1)) C (by decide +kernel) (by decide +kernel) ?_
        exact zs_goj (hJ6 (-1)) ⟨rfl, rfl, rfl, trivial⟩
      · refine zs_aload_n (pc := 25) (k := 0) (i := 0) C (by decide +kernel) rfl rfl ?_
        refine zs_iload_n (pc := 26) (k := 3) (i := 3) C (by decide +kernel) rfl rfl ?_
        refine zs_iload_n (pc := 27) (k := 2) (i := 2) C (by decide +kernel) rfl rfl ?_
        refine zs_iconst (pc := 28) (n := 5) (x := 5) C (by decide +kernel) (by decide +kernel) ?_
        refine zs_irem (pc := 29) C (by decide +kernel) (by decide +kernel) ?_
        refine zs_cvRi (pc := 30) (As := [sI x3, sI (Int.tmod t1 5)]) (st := []) C rfl (c_X12_turned l g x3 (Int.tmod t1 5)) ml_RX12_361 rfl rfl rfl rfl (Nat.le_of_ble_eq_true rfl) ⟨Nat.le_of_ble_eq_true rfl, Nat.le_of_ble_eq_true rfl⟩ ⟨Nat.le_of_ble_eq_true rfl, Nat.le_of_ble_eq_true rfl⟩ (by decide +kernel) (fun x14 => ?_)
        refine zs_goto (pc := 33) (off := 4) (tgt := 37) C (by decide +kernel) (by decide) ?_
        exact zs_goj (hJ6 x14) ⟨rfl, rfl, rfl, trivial⟩

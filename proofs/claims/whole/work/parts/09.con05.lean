set_option maxRecDepth 20000 in
theorem c_X10_doTold (l : Launch) (g : GC) (a0 : Int) (a1 : Int) : ConW l g yX10_doTold cX10_doTold 9 (some .int) (rmd 5 0 0) [sR 19, sL a0, sI a1] (fun mm => fX10_doTold a0 a1 mm) := by
  refine zs_ofW (by decide +kernel) (Nat.le_of_ble_eq_true rfl) ?_
  intro p e s m args below meth c C hr
  replace C : Bd g RX10 cX10_doTold 9 p s m args meth c := C
  unfold fX10_doTold
  refine zs_lload_n (pc := 0) (k := 1) (i := 1) C (by decide +kernel) rfl rfl ?_
  refine zs_ldc2 (pc := 1) (i := 148) (v := (-1)) (x := (-1)) C (by decide +kernel) wf_1271 (by decide +kernel) ?_
  refine zs_jn (pJ := 23) (kJ := 0) (sJ := 0) (fun t1 => [(0, sR 19), (3, sI a1)]) (fun t1 => [sI t1]) (fun t1 => ?_) (fun J2 hJ2 => ?_)
  · refine zs_istore (pc := 23) (i := 4) (ls' := [(4, sI t1), (0, sR 19), (3, sI a1)]) C (by decide +kernel) (Nat.le_of_ble_eq_true rfl) rfl ?_
    refine zs_iload (pc := 25) (i := 4) C (by decide +kernel) rfl ?_
    refine zs_jn (pJ := 43) (kJ := 0) (sJ := 0) (fun t3 => [(0, sR 19), (3, sI a1), (4, sI t1)]) (fun t3 => [sI t3]) (fun t3 => ?_) (fun J4 hJ4 => ?_)
    · refine zs_istore (pc := 43) (i := 5) (ls' := [(5, sI t3), (0, sR 19), (3, sI a1), (4, sI t1)]) C (by decide +kernel) (Nat.le_of_ble_eq_true rfl) rfl ?_
      refine zs_iload (pc := 45) (i := 4) C (by decide +kernel) rfl ?_
      refine zs_sipush (pc := 47) (n := 1000) (x := 1000) C (by decide +kernel) (by decide +kernel) ?_
      refine zs_jn (pJ := 85) (kJ := 0) (sJ := 0) (fun t5 => [(0, sR 19), (3, sI a1), (4, sI t1), (5, sI t3)]) (fun t5 => [sI t5]) (fun t5 => ?_) (fun J6 hJ6 => ?_)
      · refine zs_istore (pc := 85) (i := 6) (ls' := [(6, sI t5), (0, sR 19), (3, sI a1), (4, sI t1), (5, sI t3)]) C (by decide +kernel) (Nat.le_of_ble_eq_true rfl) rfl ?_
        refine zs_iload (pc := 87) (i := 5) C (by decide +kernel) rfl ?_
        refine zs_jn (pJ := 116) (kJ := 0) (sJ := 0) (fun t7 => [(0, sR 19), (3, sI a1), (4, sI t1), (5, sI t3), (6, sI t5)]) (fun t7 => [sI t7]) (fun t7 => ?_) (fun J8 hJ8 => ?_)
        · refine zs_istore (pc := 116) (i := 7) (ls' := [(7, sI t7), (0, sR 19), (3, sI a1), (4, sI t1), (5, sI t3), (6, sI t5)]) C (by decide +kernel) (Nat.le_of_ble_eq_true rfl) rfl ?_
          refine zs_iload (pc := 118) (i := 5) C (by decide +kernel) rfl ?_
          refine zs_jn (pJ := 158) (kJ := 0) (sJ := 0) (fun t9 => [(0, sR 19), (3, sI a1), (4, sI t1), (5, sI t3), (6, sI t5)]) (fun t9 => [sI t9]) (fun t9 => ?_) (fun J10 hJ10 => ?_)
          · refine zs_istore (pc := 158) (i := 8) (ls' := [(8, sI t9), (0, sR 19), (3, sI a1), (4, sI t1), (5, sI t3), (6, sI t5)]) C (by decide +kernel) (Nat.le_of_ble_eq_true rfl) rfl ?_
            refine zs_iload (pc := 160) (i := 8) C (by decide +kernel) rfl ?_
            refine zs_if_eq (pc := 162) (off := 6) (tgt := 168) C (by decide +kernel) (by decide) ?_ ?_
            · refine zs_iload_n (pc := 168) (k := 3) (i := 3) C (by decide +kernel) rfl rfl ?_
              refine zs_jn (pJ := 176) (kJ := 0) (sJ := 0) (fun t11 => [(0, sR 19), (4, sI t1), (5, sI t3), (6, sI t5)]) (fun t11 => []) (fun t11 => ?_) (fun J12 hJ12 => ?_)
              · refine zs_iload (pc := 176) (i := 6) C (by decide +kernel) rfl ?_
                refine zs_jn (pJ := 263) (kJ := 0) (sJ := 0) (fun t13 => []) (fun t13 => []) (fun t13 => ?_) (fun J14 hJ14 => ?_)
                · refine zs_iconst (pc := 263) (n := 0) (x := 0) C (by decide +kernel) (by decide +kernel) ?_
                  exact zs_retWi (pc := 264) C hr ⟨Nat.le_of_ble_eq_true rfl, Nat.le_of_ble_eq_true rfl⟩ (by decide +kernel)
                · refine zs_if_eq (pc := 178) (off := 28) (tgt := 206) C (by decide +kernel) (by decide) ?_ ?_
                  · refine zs_iload (pc := 206) (i := 4) C (by decide +kernel) rfl ?_
                    refine zs_sipush (pc := 208) (n := 2000) (x := 2000) C (by decide +kernel) (by decide +kernel) ?_
                    refine zs_icmp_lt (pc := 211) (off := 21) (tgt := 232) C (by decide +kernel) (by decide) ?_ ?_
                    · refine zs_iload (pc := 232) (i := 5) C (by decide +kernel) rfl ?_
                      refine zs_jn (pJ := 259) (kJ := 0) (sJ := 0) (fun t15 => [(0, sR 19)]) (fun t15 => []) (fun t15 => ?_) (fun J16 hJ16 => ?_)
                      · refine zs_aload_n (pc := 259) (k := 0) (i := 0) C (by decide +kernel) rfl rfl ?_
                        refine zs_cvVv (pc := 260) (As := []) (st := []) C (fun _ _ _ => rfl) (c_X10_passHour l g ) ml_RX10_166 rfl rfl rfl rfl (Nat.le_of_ble_eq_true rfl) ⟨Nat.le_of_ble_eq_true rfl, Nat.le_of_ble_eq_true rfl⟩ ⟨Nat.le_of_ble_eq_true rfl, Nat.le_of_ble_eq_true rfl⟩ (by decide +kernel) ?_
                        exact zs_goj (hJ14 ()) trivial
                      · refine zs_if_eq (pc := 234) (off := 25) (tgt := 259) C (by decide +kernel) (by decide) ?_ ?_
                        · exact zs_goj (hJ16 ()) ⟨rfl, trivial⟩
                        · refine zs_aload_n (pc := 237) (k := 0) (i := 0) C (by decide +kernel) rfl rfl ?_
                          refine zs_iload (pc := 238) (i := 4) C (by decide +kernel) rfl ?_
                          refine zs_bipush (pc := 240) (n := 100) (x := 100) C (by decide +kernel) (by decide +kernel) ?_
                          refine zs_idiv (pc := 242) C (by decide +kernel) (by decide +kernel) ?_
                          refine zs_iload (pc := 243) (i := 4) C (by decide +kernel) rfl ?_
                          refine zs_bipush (pc := 245) (n := 10) (x := 10) C (by decide +kernel) (by decide +kernel) ?_
                          refine zs_idiv (pc := 247) C (by decide +kernel) (by decide +kernel) ?_
                          refine zs_bipush (pc := 248) (n := 10) (x := 10) C (by decide +kernel) (by decide +kernel) ?_
                          refine zs_irem (pc := 250) C (by decide +kernel) (by decide +kernel) ?_
                          refine zs_iload (pc := 251) (i := 4) C (by decide +kernel) rfl ?_
                          refine zs_bipush (pc := 253) (n := 10) (x := 10) C (by decide +kernel) (by decide +kernel) ?_
                          refine zs_irem (pc := 255) C (by decide +kernel) (by decide +kernel) ?_
                          refine zs_cvVv (pc := 256) (As := [sI (Int.tdiv t1 100), sI (Int.tmod (Int.tdiv t1 10) 10), sI (Int.tmod t1 10)]) (st := []) C (fun _ _ _ => rfl) (c_X10_walk l g (Int.tdiv t1 100) (Int.tmod (Int.tdiv t1 10) 10) (Int.tmod t1 10)) ml_RX10_162 rfl rfl rfl rfl (Nat.le_of_ble_eq_true rfl) ⟨Nat.le_of_ble_eq_true rfl, Nat.le_of_ble_eq_true rfl⟩ ⟨Nat.le_of_ble_eq_true rfl, Nat.le_of_ble_eq_true rfl⟩ (by decide +kernel) ?_
                          exact zs_goj (hJ16 ()) ⟨rfl, trivial⟩
                    · refine zs_aload_n (pc := 214) (k := 0) (i := 0) C (by decide +kernel) rfl rfl ?_
                      refine zs_getR (o' := 27) (pc := 215) (i := 21) (ci := 10) (k := 1) C (by decide +kernel) fl_RX10_21 rfl rfl rfl ?_
                      refine zs_iload (pc := 218) (i := 4) C (by decide +kernel) rfl ?_
                      refine zs_sipush (pc := 220) (n := 2000) (x := 2000) C (by decide +kernel) (by decide +kernel) ?_
                      refine zs_isub (pc := 223) C (by decide +kernel) ?_
                      refine zs_bipush (pc := 224) (n := 6) (x := 6) C (by decide +kernel) (by decide +kernel) ?_
                      refine zs_cvVv (pc := 226) (As := [sI (w32 (t1 - 2000)), sI 6]) (st := []) C (fun _ _ _ => rfl) (c_X5_letRain l g (w32 (t1 - 2000)) 6) ml_RX10_158 rfl rfl rfl rfl (Nat.le_of_ble_eq_true rfl) ⟨Nat.le_of_ble_eq_true rfl, Nat.le_of_ble_eq_true rfl⟩ ⟨Nat.le_of_ble_eq_true rfl, Nat.le_of_ble_eq_true rfl⟩ (by decide +kernel) ?_
                      refine zs_goto (pc := 229) (off := 34) (tgt := 263) C (by decide +kernel) (by decide) ?_
                      exact zs_goj (hJ14 ()) trivial
                  · refine zs_aload_n (pc := 181) (k := 0) (i := 0) C (by decide +kernel) rfl rfl ?_
                    refine zs_getR (o' := 27) (pc := 182) (i := 21) (ci := 10) (k := 1) C (by decide +kernel) fl_RX10_21 rfl rfl rfl ?_
                    refine zs_getR (o' := 30) (pc := 185) (i := 92) (ci := 5) (k := 6) C (by decide +kernel) fl_RX10_92 rfl rfl rfl ?_
                    refine zs_iload (pc := 188) (i := 4) C (by decide +kernel) rfl ?_
                    refine zs_sipush (pc := 190) (n := 1000) (x := 1000) C (by decide +kernel) (by decide +kernel) ?_
                    refine zs_isub (pc := 193) C (by decide +kernel) ?_
                    refine zs_bipush (pc := 194) (n := 10) (x := 10) C (by decide +kernel) (by decide +kernel) ?_
                    refine zs_idiv (pc := 196) C (by decide +kernel) (by decide +kernel) ?_
                    refine zs_iload (pc := 197) (i := 4) C (by decide +kernel) rfl ?_
                    refine zs_bipush (pc := 199) (n := 10) (x := 10) C (by decide +kernel) (by decide +kernel) ?_
                    refine zs_irem (pc := 201) C (by decide +kernel) (by decide +kernel) ?_
                    refine zs_iast (pc := 202) (o := 30) (n := 4) C (fun _ _ _ => rfl) (by decide +kernel) rfl ?_
                    refine zs_goto (pc := 203) (off := 60) (tgt := 263) C (by decide +kernel) (by decide) ?_
                    exact zs_goj (hJ14 ()) trivial
              · refine zs_if_eq (pc := 169) (off := 7) (tgt := 176) C (by decide +kernel) (by decide) ?_ ?_
                · exact zs_goj (hJ12 ()) ⟨rfl, rfl, rfl, rfl, trivial⟩
                · refine zs_aload_n (pc := 172) (k := 0) (i := 0) C (by decide +kernel) rfl rfl ?_
                  refine zs_cvVv (pc := 173) (As := []) (st := []) C (fun _ _ _ => rfl) (c_X10_remember l g ) ml_RX10_155 rfl rfl rfl rfl (Nat.le_of_ble_eq_true rfl) ⟨Nat.le_of_ble_eq_true rfl, Nat.le_of_ble_eq_true rfl⟩ ⟨Nat.le_of_ble_eq_true rfl, Nat.le_of_ble_eq_true rfl⟩ (by decide +kernel) ?_
                  exact zs_goj (hJ12 ()) ⟨rfl, rfl, rfl, rfl, trivial⟩
            · refine zs_iload (pc := 165) (i := 8) C (by decide +kernel) rfl ?_
              exact zs_retWi (pc := 167) C hr ⟨Nat.le_of_ble_eq_true rfl, Nat.le_of_ble_eq_true rfl⟩ (by decide +kernel)
          · refine zs_if_eq (pc := 120) (off := 28) (tgt := 148) C (by decide +kernel) (by decide) ?_ ?_
            · refine zs_iload (pc := 148) (i := 7) C (by decide +kernel) rfl ?_
              refine zs_if_eq (pc := 150) (off := 7) (tgt := 157) C (by decide +kernel) (by decide) ?_ ?_
              · refine zs_iconst (pc := 157) (n := 1) (x := 1) C (by decide +kernel) (by decide +kernel) ?_
                exact zs_goj (hJ10 1) ⟨rfl, rfl, rfl, rfl, rfl, trivial⟩
              · refine zs_iconst (pc := 153) (n := 0) (x := 0) C (by decide +kernel) (by decide +kernel) ?_
                refine zs_goto (pc := 154) (off := 4) (tgt := 158) C (by decide +kernel) (by decide) ?_
                exact zs_goj (hJ10 0) ⟨rfl, rfl, rfl, rfl, rfl, trivial⟩
            · refine zs_aload_n (pc := 123) (k := 0) (i := 0) C (by decide +kernel) rfl rfl ?_
              refine zs_iload (pc := 124) (i := 4) C (by decide +kernel) rfl ?_
              refine zs_bipush (pc := 126) (n := 100) (x := 100) C (by decide +kernel) (by decide +kernel) ?_
              refine zs_idiv (pc := 128) C (by decide +kernel) (by decide +kernel) ?_
              refine zs_iload (pc := 129) (i := 4) C (by decide +kernel) rfl ?_
              refine zs_bipush (pc := 131) (n := 10) (x := 10) C (by decide +kernel) (by decide +kernel) ?_
              refine zs_idiv (pc := 133) C (by decide +kernel) (by decide +kernel) ?_
              refine zs_bipush (pc := 134) (n := 10) (x := 10) C (by decide +kernel) (by decide +kernel) ?_
              refine zs_irem (pc := 136) C (by decide +kernel) (by decide +kernel) ?_
              refine zs_iload (pc := 137) (i := 4) C (by decide +kernel) rfl ?_
              refine zs_bipush (pc := 139) (n := 10) (x := 10) C (by decide +kernel) (by decide +kernel) ?_
              refine zs_irem (pc := 141) C (by decide +kernel) (by decide +kernel) ?_
              refine zs_cvWi (pc := 142) (As := [sI (Int.tdiv t1 100), sI (Int.tmod (Int.tdiv t1 10) 10), sI (Int.tmod t1 10)]) (st := []) C (fun _ _ _ => rfl) (Or.inl rfl) (c_X10_whyNoStep l g (Int.tdiv t1 100) (Int.tmod (Int.tdiv t1 10) 10) (Int.tmod t1 10)) ml_RX10_152 rfl rfl rfl rfl (Nat.le_of_ble_eq_true rfl) ⟨Nat.le_of_ble_eq_true rfl, Nat.le_of_ble_eq_true rfl⟩ ⟨Nat.le_of_ble_eq_true rfl, Nat.le_of_ble_eq_true rfl⟩ (by decide +kernel) (fun x17 => ?_)
              refine zs_goto (pc := 145) (off := 13) (tgt := 158) C (by decide +kernel) (by decide) ?_
              exact zs_goj (hJ10 x17) ⟨rfl, rfl, rfl, rfl, rfl, trivial⟩
        · refine zs_jn (pJ := 111) (kJ := 0) (sJ := 0) (fun t18 => [(0, sR 19), (3, sI a1), (4, sI t1), (5, sI t3), (6, sI t5)]) (fun t18 => []) (fun t18 => ?_) (fun J19 hJ19 => ?_)
          · refine zs_iconst (pc := 111) (n := 1) (x := 1) C (by decide +kernel) (by decide +kernel) ?_
            refine zs_goto (pc := 112) (off := 4) (tgt := 116) C (by decide +kernel) (by decide) ?_
            exact zs_goj (hJ8 1) ⟨rfl, rfl, rfl, rfl, rfl, trivial⟩
          · refine zs_if_ne (pc := 89) (off := 22) (tgt := 111) C (by decide +kernel) (by decide) ?_ ?_
            · exact zs_goj (hJ19 ()) ⟨rfl, rfl, rfl, rfl, rfl, trivial⟩
            · refine zs_iload (pc := 92) (i := 6) C (by decide +kernel) rfl ?_
              refine zs_if_ne (pc := 94) (off := 17) (tgt := 111) C (by decide +kernel) (by decide) ?_ ?_
              · exact zs_goj (hJ19 ()) ⟨rfl, rfl, rfl, rfl, rfl, trivial⟩
              · refine zs_iload (pc := 97) (i := 4) C (by decide +kernel) rfl ?_
                refine zs_iconst (pc := 99) (n := (-1)) (x := (-1)) C (by decide +kernel) (by decide +kernel) ?_
                refine zs_icmp_eq (pc := 100) (off := 11) (tgt := 111) C (by decide +kernel) (by decide) ?_ ?_
                · exact zs_goj (hJ19 ()) ⟨rfl, rfl, rfl, rfl, rfl, trivial⟩
                · refine zs_iload (pc := 103) (i := 4) C (by decide +kernel) rfl ?_
                  refine zs_sipush (pc := 105) (n := 2000) (x := 2000) C (by decide +kernel) (by decide +kernel) ?_
                  refine zs_icmp_lt (pc := 108) (off := 7) (tgt := 115) C (by decide +kernel) (by decide) ?_ ?_
                  · refine zs_iconst (pc := 115) (n := 0) (x := 0) C (by decide +kernel) (by decide +kernel) ?_
                    exact zs_goj (hJ8 0) ⟨rfl, rfl, rfl, rfl, rfl, trivial⟩
                  · exact zs_goj (hJ19 ()) ⟨rfl, rfl, rfl, rfl, rfl, trivial⟩
      · refine zs_jn (pJ := 84) (kJ := 0) (sJ := 0) (fun t20 => [(0, sR 19), (3, sI a1), (4, sI t1), (5, sI t3)]) (fun t20 => []) (fun t20 => ?_) (fun J21 hJ21 => ?_)
        · refine zs_iconst (pc := 84) (n := 0) (x := 0) C (by decide +kernel) (by decide +kernel) ?_
          exact zs_goj (hJ6 0) ⟨rfl, rfl, rfl, rfl, trivial⟩
        · refine zs_icmp_lt (pc := 50) (off := 34) (tgt := 84) C (by decide +kernel) (by decide) ?_ ?_
          · exact zs_goj (hJ21 ()) ⟨rfl, rfl, rfl, rfl, trivial⟩
          · refine zs_iload (pc := 53) (i := 4) C (by decide +kernel) rfl ?_
            refine zs_sipush (pc := 55) (n := 1040) (x := 1040) C (by decide +kernel) (by decide +kernel) ?_
            refine zs_icmp_ge (pc := 58) (off := 26) (tgt := 84) C (by decide +kernel) (by decide) ?_ ?_
            · exact zs_goj (hJ21 ()) ⟨rfl, rfl, rfl, rfl, trivial⟩
            · refine zs_iload (pc := 61) (i := 4) C (by decide +kernel) rfl ?_
              refine zs_sipush (pc := 63) (n := 1000) (x := 1000) C (by decide +kernel) (by decide +kernel) ?_
              refine zs_isub (pc := 66) C (by decide +kernel) ?_
              refine zs_bipush (pc := 67) (n := 10) (x := 10) C (by decide +kernel) (by decide +kernel) ?_
              refine zs_idiv (pc := 69) C (by decide +kernel) (by decide +kernel) ?_
              refine zs_aload_n (pc := 70) (k := 0) (i := 0) C (by decide +kernel) rfl rfl ?_
              refine zs_getR (o' := 20) (pc := 71) (i := 12) (ci := 10) (k := 0) C (by decide +kernel) fl_RX10_12 rfl rfl rfl ?_
              refine zs_getI (pc := 74) (i := 65) (ci := 3) (k := 5) C (by decide +kernel) fl_RX10_65 rfl rfl (fun x22 => ?_)
              refine zs_icmp_ge (pc := 77) (off := 7) (tgt := 84) C (by decide +kernel) (by decide) ?_ ?_
              · exact zs_goj (hJ21 ()) ⟨rfl, rfl, rfl, rfl, trivial⟩
              · refine zs_iconst (pc := 80) (n := 1) (x := 1) C (by decide +kernel) (by decide +kernel) ?_
                refine zs_goto (pc := 81) (off := 4) (tgt := 85) C (by decide +kernel) (by decide) ?_
                exact zs_goj (hJ6 1) ⟨rfl, rfl, rfl, rfl, trivial⟩
    · refine zs_jn (pJ := 42) (kJ := 0) (sJ := 0) (fun t23 => [(0, sR 19), (3, sI a1), (4, sI t1)]) (fun t23 => []) (fun t23 => ?_) (fun J24 hJ24 => ?_)
      · refine zs_iconst (pc := 42) (n := 0) (x := 0) C (by decide +kernel) (by decide +kernel) ?_
        exact zs_goj (hJ4 0) ⟨rfl, rfl, rfl, trivial⟩
      · refine zs_if_lt (pc := 27) (off := 15) (tgt := 42) C (by decide +kernel) (by decide) ?_ ?_
        · exact zs_goj (hJ24 ()) ⟨rfl, rfl, rfl, trivial⟩
        · refine zs_iload (pc := 30) (i := 4) C (by decide +kernel) rfl ?_
          refine zs_sipush (pc := 32) (n := 400) (x := 400) C (by decide +kernel) (by decide +kernel) ?_
          refine zs_icmp_ge (pc := 35) (off := 7) (tgt := 42) C (by decide +kernel) (by decide) ?_ ?_
          · exact zs_goj (hJ24 ()) ⟨rfl, rfl, rfl, trivial⟩
          · refine zs_iconst (pc := 38) (n := 1) (x := 1) C (by decide +kernel) (by decide +kernel) ?_
            refine zs_goto (pc := 39) (off := 4) (tgt := 43) C (by decide +kernel) (by decide) ?_
            exact zs_goj (hJ4 1) ⟨rfl, rfl, rfl, trivial⟩
  · refine zs_jn (pJ := 16) (kJ := 0) (sJ := 0) (fun t25 => [(0, sR 19), (3, sI a1)]) (fun t25 => []) (fun t25 => ?_) (fun J26 hJ26 => ?_)
    · refine zs_bipush (pc := 16) (n := (-2)) (x := (-2)) C (by decide +kernel) (by decide +kernel) ?_
      refine zs_goto (pc := 18) (off := 5) (tgt := 23) C (by decide +kernel) (by decide) ?_
      exact zs_goj (hJ2 (-2)) ⟨rfl, rfl, trivial⟩
    · refine zs_lcmp_lt (pc := 4) (off := 11) (tgt := 16) C (by decide +kernel) (by decide +kernel) (by decide) ?_ ?_
      · exact zs_goj (hJ26 ()) ⟨rfl, rfl, trivial⟩
      · refine zs_lload_n (pc := 8) (k := 1) (i := 1) C (by decide +kernel) rfl rfl ?_
        refine zs_ldc2 (pc := 9) (i := 150) (v := 2009) (x := 2009) C (by decide +kernel) wf_1272 (by decide +kernel) ?_
        refine zs_lcmp_le (pc := 12) (off := 8) (tgt := 21) C (by decide +kernel) (by decide +kernel) (by decide) ?_ ?_
        · refine zs_lload_n (pc := 21) (k := 1) (i := 1) C (by decide +kernel) rfl rfl ?_
          refine zs_l2i (pc := 22) C (by decide +kernel) ?_
          exact zs_goj (hJ2 (w32 a0)) ⟨rfl, rfl, trivial⟩
        · exact zs_goj (hJ26 ()) ⟨rfl, rfl, trivial⟩
set_option maxRecDepth 20000 in
theorem c_X10_drawBelow (l : Launch) (g : GC) (a0 : Int) : ConW l g yX10_drawBelow cX10_drawBelow 2 (some .int) (rmd 1 0 0) [sR 19, sI a0] (fun mm => fX10_drawBelow a0 mm) := by
  refine zs_ofW (by decide +kernel) (Nat.le_of_ble_eq_true rfl) ?_
  intro p e s m args below meth c C hr
  replace C : Bd g RX10 cX10_drawBelow 2 p s m args meth c := C
  unfold fX10_drawBelow
  refine zs_aload_n (pc := 0) (k := 0) (i := 0) C (by decide +kernel) rfl rfl ?_
  refine zs_ldc (pc := 1) (i := 169) (v := 1103515245) (x := 1103515245) C (by decide +kernel) wf_1304 (by decide +kernel) ?_
  refine zs_aload_n (pc := 3) (k := 0) (i := 0) C (by decide +kernel) rfl rfl ?_
  refine zs_getI (pc := 4) (i := 29) (ci := 10) (k := 3) C (by decide +kernel) fl_RX10_29 rfl rfl (fun x1 => ?_)
  refine zs_imul (pc := 7) C (by decide +kernel) ?_
  refine zs_sipush (pc := 8) (n := 12345) (x := 12345) C (by decide +kernel) (by decide +kernel) ?_
  refine zs_iadd (pc := 11) C (by decide +kernel) ?_
  refine zs_putI (pc := 12) (i := 29) (ci := 10) (k := 3) C (fun _ _ _ => rfl) (by decide +kernel) fl_RX10_29 fw_10_3 rfl rfl ?_
  refine zs_iload_n (pc := 15) (k := 1) (i := 1) C (by decide +kernel) rfl rfl ?_
  refine zs_iconst (pc := 16) (n := 1) (x := 1) C (by decide +kernel) (by decide +kernel) ?_
  refine zs_jn (pJ := 33) (kJ := 0) (sJ := 0) (fun t2 => []) (fun t2 => [sI t2]) (fun t2 => ?_) (fun J3 hJ3 => ?_)
  · exact zs_retWi (pc := 33) C hr ⟨Nat.le_of_ble_eq_true rfl, Nat.le_of_ble_eq_true rfl⟩ (by decide +kernel)
  · refine zs_icmp_ge (pc := 17) (off := 7) (tgt := 24) C (by decide +kernel) (by decide) ?_ ?_
    · refine zs_aload_n (pc := 24) (k := 0) (i := 0) C (by decide +kernel) rfl rfl ?_
      refine zs_getI (pc := 25) (i := 29) (ci := 10) (k := 3) C (by decide +kernel) fl_RX10_29 rfl rfl (fun x4 => ?_)
      refine zs_bipush (pc := 28) (n := 16) (x := 16) C (by decide +kernel) (by decide +kernel) ?_
      refine zs_iushr (pc := 30) C (by decide +kernel) ?_
      refine zs_iload_n (pc := 31) (k := 1) (i := 1) C (by decide +kernel) rfl rfl ?_
      refine zs_chk (fun _ hy => ?_)
      refine zs_irem (pc := 32) C hy (by decide +kernel) ?_
      exact zs_goj (hJ3 (Int.tmod (iushr x4 16) a0)) trivial
    · refine zs_iconst (pc := 20) (n := 0) (x := 0) C (by decide +kernel) (by decide +kernel) ?_
      refine zs_goto (pc := 21) (off := 12) (tgt := 33) C (by decide +kernel) (by decide) ?_
      exact zs_goj (hJ3 0) trivial
set_option maxRecDepth 20000 in
theorem c_X10_drawDeed (l : Launch) (g : GC)  : ConW l g yX10_drawDeed cX10_drawDeed 5 (some .boolean) (rmd 6 0 0) [sR 19] (fun mm => fX10_drawDeed  mm) := by
  refine zs_ofW (by decide +kernel) (Nat.le_of_ble_eq_true rfl) ?_
  intro p e s m args below meth c C hr
  replace C : Bd g RX10 cX10_drawDeed 5 p s m args meth c := C
  unfold fX10_drawDeed
  refine zs_aload_n (pc := 0) (k := 0) (i := 0) C (by decide +kernel) rfl rfl ?_
  refine zs_iconst (pc := 1) (n := 5) (x := 5) C (by decide +kernel) (by decide +kernel) ?_
  refine zs_cvWi (pc := 2) (As := [sI 5]) (st := []) C (fun _ _ _ => rfl) (Or.inl rfl) (c_X10_drawBelow l g 5) ml_RX10_170 rfl rfl rfl rfl (Nat.le_of_ble_eq_true rfl) ⟨Nat.le_of_ble_eq_true rfl, Nat.le_of_ble_eq_true rfl⟩ ⟨Nat.le_of_ble_eq_true rfl, Nat.le_of_ble_eq_true rfl⟩ (by decide +kernel) (fun x1 => ?_)
  refine zs_istore_n (pc := 5) (k := 1) (i := 1) (ls' := [(1, sI x1), (0, sR 19)]) C (by decide +kernel) rfl (Nat.le_of_ble_eq_true rfl) rfl ?_
  refine zs_iload_n (pc := 6) (k := 1) (i := 1) C (by decide +kernel) rfl rfl ?_
  refine zs_if_ne (pc := 7) (off := 20) (tgt := 27) C (by decide +kernel) (by decide) ?_ ?_
  · refine zs_aload_n (pc := 27) (k := 0) (i := 0) C (by decide +kernel) rfl rfl ?_
    refine zs_getR (o' := 20) (pc := 28) (i := 12) (ci := 10) (k := 0) C (by decide +kernel) fl_RX10_12 rfl rfl rfl ?_
    refine zs_getI (pc := 31) (i := 65) (ci := 3) (k := 5) C (by decide +kernel) fl_RX10_65 rfl rfl (fun x2 => ?_)
    refine zs_if_ne (pc := 34) (off := 5) (tgt := 39) C (by decide +kernel) (by decide) ?_ ?_
    · refine zs_iload_n (pc := 39) (k := 1) (i := 1) C (by decide +kernel) rfl rfl ?_
      refine zs_iconst (pc := 40) (n := 4) (x := 4) C (by decide +kernel) (by decide +kernel) ?_
      refine zs_icmp_ne (pc := 41) (off := 28) (tgt := 69) C (by decide +kernel) (by decide) ?_ ?_
      · refine zs_aload_n (pc := 69) (k := 0) (i := 0) C (by decide +kernel) rfl rfl ?_
        refine zs_aload_n (pc := 70) (k := 0) (i := 0) C (by decide +kernel) rfl rfl ?_
        refine zs_getR (o' := 20) (pc := 71) (i := 12) (ci := 10) (k := 0) C (by decide +kernel) fl_RX10_12 rfl rfl rfl ?_
        refine zs_getI (pc := 74) (i := 65) (ci := 3) (k := 5) C (by decide +kernel) fl_RX10_65 rfl rfl (fun x3 => ?_)
        refine zs_cvWi (pc := 77) (As := [sI x3]) (st := []) C (fun _ _ _ => rfl) (Or.inl rfl) (c_X10_drawBelow l g x3) ml_RX10_170 rfl rfl rfl rfl (Nat.le_of_ble_eq_true rfl) ⟨Nat.le_of_ble_eq_true rfl, Nat.le_of_ble_eq_true rfl⟩ ⟨Nat.le_of_ble_eq_true rfl, Nat.le_of_ble_eq_true rfl⟩ (by decide +kernel) (fun x4 => ?_)
        refine zs_istore_n (pc := 80) (k := 2) (i := 2) (ls' := [(2, sI x4), (1, sI x1), (0, sR 19)]) C (by decide +kernel) rfl (Nat.le_of_ble_eq_true rfl) rfl ?_
        refine zs_iload_n (pc := 81) (k := 1) (i := 1) C (by decide +kernel) rfl rfl ?_
        refine zs_iconst (pc := 82) (n := 3) (x := 3) C (by decide +kernel) (by decide +kernel) ?_
        refine zs_icmp_ne (pc := 83) (off := 33) (tgt := 116) C (by decide +kernel) (by decide) ?_ ?_
        · refine zs_aload_n (pc := 116) (k := 0) (i := 0) C (by decide +kernel) rfl rfl ?_
          refine zs_iconst (pc := 117) (n := 5) (x := 5) C (by decide +kernel) (by decide +kernel) ?_
          refine zs_cvWi (pc := 118) (As := [sI 5]) (st := []) C (fun _ _ _ => rfl) (Or.inl rfl) (c_X10_drawBelow l g 5) ml_RX10_170 rfl rfl rfl rfl (Nat.le_of_ble_eq_true rfl) ⟨Nat.le_of_ble_eq_true rfl, Nat.le_of_ble_eq_true rfl⟩ ⟨Nat.le_of_ble_eq_true rfl, Nat.le_of_ble_eq_true rfl⟩ (by decide +kernel) (fun x5 => ?_)
          refine zs_istore_n (pc := 121) (k := 3) (i := 3) (ls' := [(3, sI x5), (2, sI x4), (1, sI x1), (0, sR 19)]) C (by decide +kernel) rfl (Nat.le_of_ble_eq_true rfl) rfl ?_
          refine zs_aload_n (pc := 122) (k := 0) (i := 0) C (by decide +kernel) rfl rfl ?_
          refine zs_iconst (pc := 123) (n := 5) (x := 5) C (by decide +kernel) (by decide +kernel) ?_
          refine zs_cvWi (pc := 124) (As := [sI 5]) (st := []) C (fun _ _ _ => rfl) (Or.inl rfl) (c_X10_drawBelow l g 5) ml_RX10_170 rfl rfl rfl rfl (Nat.le_of_ble_eq_true rfl) ⟨Nat.le_of_ble_eq_true rfl, Nat.le_of_ble_eq_true rfl⟩ ⟨Nat.le_of_ble_eq_true rfl, Nat.le_of_ble_eq_true rfl⟩ (by decide +kernel) (fun x6 => ?_)
          refine zs_istore (pc := 127) (i := 4) (ls' := [(4, sI x6), (3, sI x5), (2, sI x4), (1, sI x1), (0, sR 19)]) C (by decide +kernel) (Nat.le_of_ble_eq_true rfl) rfl ?_
          refine zs_aload_n (pc := 129) (k := 0) (i := 0) C (by decide +kernel) rfl rfl ?_
          refine zs_bipush (pc := 130) (n := 100) (x := 100) C (by decide +kernel) (by decide +kernel) ?_
          refine zs_iload_n (pc := 132) (k := 2) (i := 2) C (by decide +kernel) rfl rfl ?_
          refine zs_imul (pc := 133) C (by decide +kernel) ?_
          refine zs_bipush (pc := 134) (n := 10) (x := 10) C (by decide +kernel) (by decide +kernel) ?_
          refine zs_iload_n (pc := 136) (k := 3) (i := 3) C (by decide +kernel) rfl rfl ?_
          refine zs_imul (pc := 137) C (by decide +kernel) ?_
          refine zs_iadd (pc := 138) C (by decide +kernel) ?_
          refine zs_iload (pc := 139) (i := 4) C (by decide +kernel) rfl ?_
          refine zs_iadd (pc := 141) C (by decide +kernel) ?_
          refine zs_i2l (pc := 142) C (by decide +kernel) ?_
          refine zs_iconst (pc := 143) (n := 1) (x := 1) C (by decide +kernel) (by decide +kernel) ?_
          refine zs_cvWi (pc := 144) (As := [sL (w32 ((w32 ((w32 (100 * x4)) + (w32 (10 * x5)))) + x6)), sI 1]) (st := []) C (fun _ _ _ => rfl) (Or.inl rfl) (c_X10_doTold l g (w32 ((w32 ((w32 (100 * x4)) + (w32 (10 * x5)))) + x6)) 1) ml_RX10_173 rfl rfl rfl rfl (Nat.le_of_ble_eq_true rfl) ⟨Nat.le_of_ble_eq_true rfl, Nat.le_of_ble_eq_true rfl⟩ ⟨Nat.le_of_ble_eq_true rfl, Nat.le_of_ble_eq_true rfl⟩ (by decide +kernel) (fun x7 => ?_)
          refine zs_jn (pJ := 155) (kJ := 0) (sJ := 0) (fun t8 => []) (fun t8 => [sI t8]) (fun t8 => ?_) (fun J9 hJ9 => ?_)
          · refine zs_chk (fun _ hx => ?_)
            exact zs_retWz (pc := 155) C hx hr ⟨Nat.le_of_ble_eq_true rfl, Nat.le_of_ble_eq_true rfl⟩ (by decide +kernel)
          · refine zs_if_ne (pc := 147) (off := 7) (tgt := 154) C (by decide +kernel) (by decide) ?_ ?_
            · refine zs_iconst (pc := 154) (n := 0) (x := 0) C (by decide +kernel) (by decide +kernel) ?_
              exact zs_goj (hJ9 0) trivial
            · refine zs_iconst (pc := 150) (n := 1) (x := 1) C (by decide +kernel) (by decide +kernel) ?_
              refine zs_goto (pc := 151) (off := 4) (tgt := 155) C (by decide +kernel) (by decide) ?_
              exact zs_goj (hJ9 1) trivial
        · refine zs_aload_n (pc := 86) (k := 0) (i := 0) C (by decide +kernel) rfl rfl ?_
          refine zs_sipush (pc := 87) (n := 1000) (x := 1000) C (by decide +kernel) (by decide +kernel) ?_
          refine zs_bipush (pc := 90) (n := 10) (x := 10) C (by decide +kernel) (by decide +kernel) ?_
          refine zs_iload_n (pc := 92) (k := 2) (i := 2) C (by decide +kernel) rfl rfl ?_
          refine zs_imul (pc := 93) C (by decide +kernel) ?_
          refine zs_iadd (pc := 94) C (by decide +kernel) ?_
          refine zs_aload_n (pc := 95) (k := 0) (i := 0) C (by decide +kernel) rfl rfl ?_
          refine zs_bipush (pc := 96) (n := 10) (x := 10) C (by decide +kernel) (by decide +kernel) ?_
          refine zs_cvWi (pc := 98) (As := [sI 10]) (st := [sI (w32 (1000 + (w32 (10 * x4)))), sR 19]) C (fun _ _ _ => rfl) (Or.inl rfl) (c_X10_drawBelow l g 10) ml_RX10_170 rfl rfl rfl rfl (Nat.le_of_ble_eq_true rfl) ⟨Nat.le_of_ble_eq_true rfl, Nat.le_of_ble_eq_true rfl⟩ ⟨Nat.le_of_ble_eq_true rfl, Nat.le_of_ble_eq_true rfl⟩ (by decide +kernel) (fun x10 => ?_)
          refine zs_iadd (pc := 101) C (by decide +kernel) ?_
          refine zs_i2l (pc := 102) C (by decide +kernel) ?_
          refine zs_iconst (pc := 103) (n := 1) (x := 1) C (by decide +kernel) (by decide +kernel) ?_
          refine zs_cvWi (pc := 104) (As := [sL (w32 ((w32 (1000 + (w32 (10 * x4)))) + x10)), sI 1]) (st := []) C (fun _ _ _ => rfl) (Or.inl rfl) (c_X10_doTold l g (w32 ((w32 (1000 + (w32 (10 * x4)))) + x10)) 1) ml_RX10_173 rfl rfl rfl rfl (Nat.le_of_ble_eq_true rfl) ⟨Nat.le_of_ble_eq_true rfl, Nat.le_of_ble_eq_true rfl⟩ ⟨Nat.le_of_ble_eq_true rfl, Nat.le_of_ble_eq_true rfl⟩ (by decide +kernel) (fun x11 => ?_)
          refine zs_jn (pJ := 115) (kJ := 0) (sJ := 0) (fun t12 => []) (fun t12 => [sI t12]) (fun t12 => ?_) (fun J13 hJ13 => ?_)
          · refine zs_chk (fun _ hx => ?_)
            exact zs_retWz (pc := 115) C hx hr ⟨Nat.le_of_ble_eq_true rfl, Nat.le_of_ble_eq_true rfl⟩ (by decide +kernel)
          · refine zs_if_ne (pc := 107) (off := 7) (tgt := 114) C (by decide +kernel) (by decide) ?_ ?_
            · refine zs_iconst (pc := 114) (n := 0) (x := 0) C (by decide +kernel) (by decide +kernel) ?_
              exact zs_goj (hJ13 0) trivial
            · refine zs_iconst (pc := 110) (n := 1) (x := 1) C (by decide +kernel) (by decide +kernel) ?_
              refine zs_goto (pc := 111) (off := 4) (tgt := 115) C (by decide +kernel) (by decide) ?_
              exact zs_goj (hJ13 1) trivial
      · refine zs_aload_n (pc := 44) (k := 0) (i := 0) C (by decide +kernel) rfl rfl ?_
        refine zs_sipush (pc := 45) (n := 2000) (x := 2000) C (by decide +kernel) (by decide +kernel) ?_
        refine zs_aload_n (pc := 48) (k := 0) (i := 0) C (by decide +kernel) rfl rfl ?_
        refine zs_bipush (pc := 49) (n := 10) (x := 10) C (by decide +kernel) (by decide +kernel) ?_
        refine zs_cvWi (pc := 51) (As := [sI 10]) (st := [sI 2000, sR 19]) C (fun _ _ _ => rfl) (Or.inl rfl) (c_X10_drawBelow l g 10) ml_RX10_170 rfl rfl rfl rfl (Nat.le_of_ble_eq_true rfl) ⟨Nat.le_of_ble_eq_true rfl, Nat.le_of_ble_eq_true rfl⟩ ⟨Nat.le_of_ble_eq_true rfl, Nat.le_of_ble_eq_true rfl⟩ (by decide +kernel) (fun x14 => ?_)
        refine zs_iadd (pc := 54) C (by decide +kernel) ?_
        refine zs_i2l (pc := 55) C (by decide +kernel) ?_
        refine zs_iconst (pc := 56) (n := 1) (x := 1) C (by decide +kernel) (by decide +kernel) ?_
        refine zs_cvWi (pc := 57) (As := [sL (w32 (2000 + x14)), sI 1]) (st := []) C (fun _ _ _ => rfl) (Or.inl rfl) (c_X10_doTold l g (w32 (2000 + x14)) 1) ml_RX10_173 rfl rfl rfl rfl (Nat.le_of_ble_eq_true rfl) ⟨Nat.le_of_ble_eq_true rfl, Nat.le_of_ble_eq_true rfl⟩ ⟨Nat.le_of_ble_eq_true rfl, Nat.le_of_ble_eq_true rfl⟩ (by decide +kernel) (fun x15 => ?_)
        refine zs_jn (pJ := 68) (kJ := 0) (sJ := 0) (fun t16 => []) (fun t16 => [sI t16]) (fun t16 => ?_) (fun J17 hJ17 => ?_)
        · refine zs_chk (fun _ hx => ?_)
          exact zs_retWz (pc := 68) C hx hr ⟨Nat.le_of_ble_eq_true rfl, Nat.le_of_ble_eq_true rfl⟩ (by decide +kernel)
        · refine zs_if_ne (pc := 60) (off := 7) (tgt := 67) C (by decide +kernel) (by decide) ?_ ?_
          · refine zs_iconst (pc := 67) (n := 0) (x := 0) C (by decide +kernel) (by decide +kernel) ?_
            exact zs_goj (hJ17 0) trivial
          · refine zs_iconst (pc := 63) (n := 1) (x := 1) C (by decide +kernel) (by decide +kernel) ?_
            refine zs_goto (pc := 64) (off := 4) (tgt := 68) C (by decide +kernel) (by decide) ?_
            exact zs_goj (hJ17 1) trivial
    · refine zs_iconst (pc := 37) (n := 0) (x := 0) C (by decide +kernel) (by decide +kernel) ?_
      exact zs_retWz (pc := 38) C (by decide) hr ⟨Nat.le_of_ble_eq_true rfl, Nat.le_of_ble_eq_true rfl⟩ (by decide +kernel)
  · refine zs_aload_n (pc := 10) (k := 0) (i := 0) C (by decide +kernel) rfl rfl ?_
    refine zs_ldc2 (pc := 11) (i := 148) (v := (-1)) (x := (-1)) C (by decide +kernel) wf_1271 (by decide +kernel) ?_
    refine zs_iconst (pc := 14) (n := 1) (x := 1) C (by decide +kernel) (by decide +kernel) ?_
    refine zs_cvWi (pc := 15) (As := [sL ((-1)), sI 1]) (st := []) C (fun _ _ _ => rfl) (Or.inl rfl) (c_X10_doTold l g (-1) 1) ml_RX10_173 rfl rfl rfl rfl (Nat.le_of_ble_eq_true rfl) ⟨Nat.le_of_ble_eq_true rfl, Nat.le_of_ble_eq_true rfl⟩ ⟨Nat.le_of_ble_eq_true rfl, Nat.le_of_ble_eq_true rfl⟩ (by decide +kernel) (fun x18 => ?_)
    refine zs_jn (pJ := 26) (kJ := 0) (sJ := 0) (fun t19 => []) (fun t19 => [sI t19]) (fun t19 => ?_) (fun J20 hJ20 => ?_)
    · refine zs_chk (fun _ hx => ?_)
      exact zs_retWz (pc := 26) C hx hr ⟨Nat.le_of_ble_eq_true rfl, Nat.le_of_ble_eq_true rfl⟩ (by decide +kernel)
    · refine zs_if_ne (pc := 18) (off := 7) (tgt := 25) C (by decide +kernel) (by decide) ?_ ?_
      · refine zs_iconst (pc := 25) (n := 0) (x := 0) C (by decide +kernel) (by decide +kernel) ?_
        exact zs_goj (hJ20 0) trivial
      · refine zs_iconst (pc := 21) (n := 1) (x := 1) C (by decide +kernel) (by decide +kernel) ?_
        refine zs_goto (pc := 22) (off := 4) (tgt := 26) C (by decide +kernel) (by decide) ?_
        exact zs_goj (hJ20 1) trivial

/-! ===== the constructors: words, first contents ===== -/
theorem vrel_toB1 {g : GC} {x : Int} (v : Value) (hv : vrel g (sI x) v) (hx : x = 1) : v = toV g (0, x) ∧ narrow .boolean v = v ∧ fits .boolean v = true := by
  obtain ⟨i, rfl, hi⟩ := hv
  subst hx
  have : i = 1 := Int32.toInt_inj.mp (by rw [hi]; rfl)
  subst this
  exact ⟨rfl, rfl, rfl⟩
theorem NW_t1 {w : Cond} (j : Nat) (h : tables_1_1[j]? = some w) (hg : isNest w = true) : w ∈ nestW := List.mem_filter.mpr ⟨List.mem_append_right _ (List.mem_append_left _ (List.mem_of_getElem? h)), hg⟩
theorem NW_t2 {w : Cond} (j : Nat) (h : tables_1_2[j]? = some w) (hg : isNest w = true) : w ∈ nestW := List.mem_filter.mpr ⟨List.mem_append_right _ (List.mem_append_right _ (List.mem_append_left _ (List.mem_of_getElem? h))), hg⟩
theorem NW_t3 {w : Cond} (j : Nat) (h : tables_1_3[j]? = some w) (hg : isNest w = true) : w ∈ nestW := List.mem_filter.mpr ⟨List.mem_append_right _ (List.mem_append_right _ (List.mem_append_right _ (List.mem_append_left _ (List.mem_of_getElem? h)))), hg⟩
theorem NW_t4 {w : Cond} (j : Nat) (h : tables_1_4[j]? = some w) (hg : isNest w = true) : w ∈ nestW := List.mem_filter.mpr ⟨List.mem_append_right _ (List.mem_append_right _ (List.mem_append_right _ (List.mem_append_right _ (List.mem_append_left _ (List.mem_of_getElem? h))))), hg⟩
theorem NW_t5 {w : Cond} (j : Nat) (h : tables_1_5[j]? = some w) (hg : isNest w = true) : w ∈ nestW := List.mem_filter.mpr ⟨List.mem_append_right _ (List.mem_append_right _ (List.mem_append_right _ (List.mem_append_right _ (List.mem_append_right _ (List.mem_append_left _ (List.mem_of_getElem? h)))))), hg⟩
theorem NW_t6 {w : Cond} (j : Nat) (h : tables_1_6[j]? = some w) (hg : isNest w = true) : w ∈ nestW := List.mem_filter.mpr ⟨List.mem_append_right _ (List.mem_append_right _ (List.mem_append_right _ (List.mem_append_right _ (List.mem_append_right _ (List.mem_append_right _ (List.mem_append_left _ (List.mem_of_getElem? h))))))), hg⟩
theorem NW_t7 {w : Cond} (j : Nat) (h : tables_1_7[j]? = some w) (hg : isNest w = true) : w ∈ nestW := List.mem_filter.mpr ⟨List.mem_append_right _ (List.mem_append_right _ (List.mem_append_right _ (List.mem_append_right _ (List.mem_append_right _ (List.mem_append_right _ (List.mem_append_right _ (List.mem_append_left _ (List.mem_of_getElem? h)))))))), hg⟩
theorem NW_t8 {w : Cond} (j : Nat) (h : tables_1_8[j]? = some w) (hg : isNest w = true) : w ∈ nestW := List.mem_filter.mpr ⟨List.mem_append_right _ (List.mem_append_right _ (List.mem_append_right _ (List.mem_append_right _ (List.mem_append_right _ (List.mem_append_right _ (List.mem_append_right _ (List.mem_append_right _ (List.mem_append_left _ (List.mem_of_getElem? h))))))))), hg⟩
theorem NW_t9 {w : Cond} (j : Nat) (h : tables_1_9[j]? = some w) (hg : isNest w = true) : w ∈ nestW := List.mem_filter.mpr ⟨List.mem_append_right _ (List.mem_append_right _ (List.mem_append_right _ (List.mem_append_right _ (List.mem_append_right _ (List.mem_append_right _ (List.mem_append_right _ (List.mem_append_right _ (List.mem_append_right _ (List.mem_append_left _ (List.mem_of_getElem? h)))))))))), hg⟩
theorem NW_t10 {w : Cond} (j : Nat) (h : tables_1_10[j]? = some w) (hg : isNest w = true) : w ∈ nestW := List.mem_filter.mpr ⟨List.mem_append_right _ (List.mem_append_right _ (List.mem_append_right _ (List.mem_append_right _ (List.mem_append_right _ (List.mem_append_right _ (List.mem_append_right _ (List.mem_append_right _ (List.mem_append_right _ (List.mem_append_right _ ((List.mem_of_getElem? h))))))))))), hg⟩
theorem wf_314 : Cond.methodLink RX5 3 Lib.objectInit ∈ LW := LW_t1 171 rfl rfl
theorem wf_179 : Cond.instanceMethod Lib.objectInit ∈ LW := LW_t1 36 rfl rfl
theorem wf_180 : Cond.code Lib.objectInit ⟨#[0xb1]⟩ 1 none ∈ LW := LW_t1 37 rfl rfl
theorem wf_210 : Cond.arrayClass .int ∈ LW := LW_t1 67 rfl rfl
theorem fwf_5_4 : FWF RX5 5 4 (.array .int) := ⟨_, _, _, _, rfl, rfl, tyX5_ok, nmX5, rfl, rfl, rfl⟩
theorem fwf_5_5 : FWF RX5 5 5 (.array .int) := ⟨_, _, _, _, rfl, rfl, tyX5_ok, nmX5, rfl, rfl, rfl⟩
theorem fwf_5_6 : FWF RX5 5 6 (.array .int) := ⟨_, _, _, _, rfl, rfl, tyX5_ok, nmX5, rfl, rfl, rfl⟩
theorem wf_222 : Cond.methodLink RX4 3 Lib.objectInit ∈ LW := LW_t1 79 rfl rfl
theorem fwf_4_0 : FWF RX4 4 0 (.array .int) := ⟨_, _, _, _, rfl, rfl, tyX4_ok, nmX4, rfl, rfl, rfl⟩
theorem wf_216 : Cond.methodLink RX3 3 Lib.objectInit ∈ LW := LW_t1 73 rfl rfl
theorem fwf_3_6 : FWF RX3 3 6 (.array .int) := ⟨_, _, _, _, rfl, rfl, tyX3_ok, nmX3, rfl, rfl, rfl⟩
theorem fwf_3_7 : FWF RX3 3 7 (.array .int) := ⟨_, _, _, _, rfl, rfl, tyX3_ok, nmX3, rfl, rfl, rfl⟩
theorem wf_217 : Cond.classLink RX3 37 RX4 ∈ LW := LW_t1 74 rfl rfl
theorem wf_218 : Cond.instantiable RX4 7 ∈ LW := LW_t1 75 rfl rfl
theorem wf_220 : Cond.instanceMethod yX4_init ∈ LW := LW_t1 77 rfl rfl
theorem wf_221 : Cond.code yX4_init cX4_init 1 none ∈ LW := LW_t1 78 rfl rfl
theorem nw_RX3_39 : Cond.methodLinkNest RX3 39 yX4_init "RopeWeds" ∈ nestW := NW_t1 76 rfl rfl
theorem fwf_3_8 : FWF RX3 3 8 (.object "RopeWeds$Law") := ⟨_, _, _, _, rfl, rfl, tyX3_ok, nmX3, rfl, rfl, rfl⟩
theorem fwf_3_9 : FWF RX3 3 9 (.object "RopeWeds$Law") := ⟨_, _, _, _, rfl, rfl, tyX3_ok, nmX3, rfl, rfl, rfl⟩
theorem wf_192 : Cond.methodLink RX8 3 Lib.objectInit ∈ LW := LW_t1 49 rfl rfl
theorem fwf_8_0 : FWF RX8 8 0 (.array .int) := ⟨_, _, _, _, rfl, rfl, tyX8_ok, nmX8, rfl, rfl, rfl⟩
theorem fwf_8_1 : FWF RX8 8 1 (.array .int) := ⟨_, _, _, _, rfl, rfl, tyX8_ok, nmX8, rfl, rfl, rfl⟩
theorem fwf_8_2 : FWF RX8 8 2 (.array .int) := ⟨_, _, _, _, rfl, rfl, tyX8_ok, nmX8, rfl, rfl, rfl⟩
theorem wf_186 : Cond.methodLink RX6 3 Lib.objectInit ∈ LW := LW_t1 43 rfl rfl
theorem wf_187 : Cond.classLink RX6 9 RX8 ∈ LW := LW_t1 44 rfl rfl
theorem wf_188 : Cond.instantiable RX8 4 ∈ LW := LW_t1 45 rfl rfl
theorem wf_190 : Cond.instanceMethod yX8_init ∈ LW := LW_t1 47 rfl rfl
theorem wf_191 : Cond.code yX8_init cX8_init 1 none ∈ LW := LW_t1 48 rfl rfl
theorem nw_RX6_11 : Cond.methodLinkNest RX6 11 yX8_init "RopeWeds" ∈ nestW := NW_t1 46 rfl rfl
theorem fwf_6_0 : FWF RX6 6 0 (.object "RopeWeds$Tokens") := ⟨_, _, _, _, rfl, rfl, tyX6_ok, nmX6, rfl, rfl, rfl⟩
theorem wf_211 : Cond.classLink RX6 18 RX3 ∈ LW := LW_t1 68 rfl rfl
theorem wf_212 : Cond.instantiable RX3 10 ∈ LW := LW_t1 69 rfl rfl
theorem wf_214 : Cond.instanceMethod yX3_init ∈ LW := LW_t1 71 rfl rfl
theorem wf_215 : Cond.code yX3_init cX3_init 1 none ∈ LW := LW_t1 72 rfl rfl
theorem nw_RX6_20 : Cond.methodLinkNest RX6 20 yX3_init "RopeWeds" ∈ nestW := NW_t1 70 rfl rfl
theorem fwf_6_1 : FWF RX6 6 1 (.object "RopeWeds$Isle") := ⟨_, _, _, _, rfl, rfl, tyX6_ok, nmX6, rfl, rfl, rfl⟩
theorem wf_309 : Cond.classLink RX6 25 RX5 ∈ LW := LW_t1 166 rfl rfl
theorem wf_310 : Cond.instantiable RX5 7 ∈ LW := LW_t1 167 rfl rfl
theorem wf_312 : Cond.instanceMethod yX5_init ∈ LW := LW_t1 169 rfl rfl
theorem wf_313 : Cond.code yX5_init cX5_init 1 none ∈ LW := LW_t1 170 rfl rfl
theorem nw_RX6_27 : Cond.methodLinkNest RX6 27 yX5_init "RopeWeds" ∈ nestW := NW_t1 168 rfl rfl
theorem fwf_6_2 : FWF RX6 6 2 (.object "RopeWeds$Life") := ⟨_, _, _, _, rfl, rfl, tyX6_ok, nmX6, rfl, rfl, rfl⟩
theorem wf_402 : Cond.methodLink RX10 3 Lib.objectInit ∈ LW := LW_t2 19 rfl rfl
theorem wf_403 : Cond.classLink RX10 9 RX3 ∈ LW := LW_t2 20 rfl rfl
theorem nw_RX10_11 : Cond.methodLinkNest RX10 11 yX3_init "RopeWeds" ∈ nestW := NW_t2 21 rfl rfl
theorem fwf_10_0 : FWF RX10 10 0 (.object "RopeWeds$Isle") := ⟨_, _, _, _, rfl, rfl, tyX10_ok, nmX10, rfl, rfl, rfl⟩
theorem wf_405 : Cond.classLink RX10 18 RX5 ∈ LW := LW_t2 22 rfl rfl
theorem nw_RX10_20 : Cond.methodLinkNest RX10 20 yX5_init "RopeWeds" ∈ nestW := NW_t2 23 rfl rfl
theorem fwf_10_1 : FWF RX10 10 1 (.object "RopeWeds$Life") := ⟨_, _, _, _, rfl, rfl, tyX10_ok, nmX10, rfl, rfl, rfl⟩
theorem fwf_10_5 : FWF RX10 10 5 (.array (.object "RopeWeds$Life")) := ⟨_, _, _, _, rfl, rfl, tyX10_ok, nmX10, rfl, rfl, rfl⟩
theorem fwf_10_6 : FWF RX10 10 6 (.object "RopeWeds$Life") := ⟨_, _, _, _, rfl, rfl, tyX10_ok, nmX10, rfl, rfl, rfl⟩
theorem fwf_10_7 : FWF RX10 10 7 (.array .int) := ⟨_, _, _, _, rfl, rfl, tyX10_ok, nmX10, rfl, rfl, rfl⟩
theorem wf_444 : Cond.arrayClass .long ∈ LW := LW_t2 61 rfl rfl
theorem fwf_10_8 : FWF RX10 10 8 (.array .long) := ⟨_, _, _, _, rfl, rfl, tyX10_ok, nmX10, rfl, rfl, rfl⟩
theorem wf_396 : Cond.methodLink RX0 3 Lib.objectInit ∈ LW := LW_t2 13 rfl rfl
theorem wf_397 : Cond.classLink RX0 9 RX10 ∈ LW := LW_t2 14 rfl rfl
theorem wf_398 : Cond.instantiable RX10 9 ∈ LW := LW_t2 15 rfl rfl
theorem wf_400 : Cond.instanceMethod yX10_init ∈ LW := LW_t2 17 rfl rfl
theorem wf_401 : Cond.code yX10_init cX10_init 2 none ∈ LW := LW_t2 18 rfl rfl
theorem wf_399 : Cond.methodLink RX0 11 yX10_init ∈ LW := LW_t2 16 rfl rfl
theorem fwf_0_0 : FWF RX0 0 0 (.object "RopeWeds$World") := ⟨_, _, _, _, rfl, rfl, tyX0_ok, nmX0, rfl, rfl, rfl⟩
theorem fwf_0_1 : FWF RX0 0 1 (.array .int) := ⟨_, _, _, _, rfl, rfl, tyX0_ok, nmX0, rfl, rfl, rfl⟩
theorem fwf_0_2 : FWF RX0 0 2 (.array .int) := ⟨_, _, _, _, rfl, rfl, tyX0_ok, nmX0, rfl, rfl, rfl⟩
theorem fwf_0_3 : FWF RX0 0 3 (.array .int) := ⟨_, _, _, _, rfl, rfl, tyX0_ok, nmX0, rfl, rfl, rfl⟩
theorem fwf_0_4 : FWF RX0 0 4 (.array .int) := ⟨_, _, _, _, rfl, rfl, tyX0_ok, nmX0, rfl, rfl, rfl⟩
theorem fwf_0_5 : FWF RX0 0 5 (.array .int) := ⟨_, _, _, _, rfl, rfl, tyX0_ok, nmX0, rfl, rfl, rfl⟩
theorem fwf_0_6 : FWF RX0 0 6 (.array .int) := ⟨_, _, _, _, rfl, rfl, tyX0_ok, nmX0, rfl, rfl, rfl⟩
theorem fwf_0_7 : FWF RX0 0 7 (.array .int) := ⟨_, _, _, _, rfl, rfl, tyX0_ok, nmX0, rfl, rfl, rfl⟩
theorem fwf_0_8 : FWF RX0 0 8 (.array .int) := ⟨_, _, _, _, rfl, rfl, tyX0_ok, nmX0, rfl, rfl, rfl⟩
theorem wf_510 : Cond.methodLink RX9 3 Lib.objectInit ∈ LW := LW_t2 127 rfl rfl
theorem wf_511 : Cond.classLink RX9 11 "[[J" ∈ LW := LW_t2 128 rfl rfl
theorem fwf_9_0 : FWF RX9 9 0 (.array (.array .long)) := ⟨_, _, _, _, rfl, rfl, tyX9_ok, nmX9, rfl, rfl, rfl⟩
theorem fwf_9_1 : FWF RX9 9 1 (.array .int) := ⟨_, _, _, _, rfl, rfl, tyX9_ok, nmX9, rfl, rfl, rfl⟩
theorem fwf_9_2 : FWF RX9 9 2 (.array .int) := ⟨_, _, _, _, rfl, rfl, tyX9_ok, nmX9, rfl, rfl, rfl⟩
theorem wf_513 : Cond.methodLink RX9 23 yJ7_fill_53178 ∈ LW := LW_t2 130 rfl rfl
theorem ml_RX9_23 : MS RX9 23 yJ7_fill_53178 cJ7_fill_53178 4 none 2 := ⟨⟨wf_513, wf_514, wf_153, wf_515⟩, by decide +kernel, by decide +kernel, by decide +kernel⟩
theorem wf_533 : Cond.methodLink RX7 3 Lib.objectInit ∈ LW := LW_t2 150 rfl rfl
theorem fwf_7_2 : FWF RX7 7 2 (.array .int) := ⟨_, _, _, _, rfl, rfl, tyX7_ok, nmX7, rfl, rfl, rfl⟩
theorem wf_552 : Cond.methodLink RX1 3 Lib.objectInit ∈ LW := LW_t2 169 rfl rfl
theorem fwf_1_0 : FWF RX1 1 0 (.array .int) := ⟨_, _, _, _, rfl, rfl, tyX1_ok, nmX1, rfl, rfl, rfl⟩
theorem fwf_1_4 : FWF RX1 1 4 (.array .int) := ⟨_, _, _, _, rfl, rfl, tyX1_ok, nmX1, rfl, rfl, rfl⟩
theorem wf_579 : Cond.methodLink RX2 3 Lib.objectInit ∈ LW := LW_t2 196 rfl rfl
theorem fwf_2_0 : FWF RX2 2 0 (.array .int) := ⟨_, _, _, _, rfl, rfl, tyX2_ok, nmX2, rfl, rfl, rfl⟩
theorem fwf_2_1 : FWF RX2 2 1 (.array .int) := ⟨_, _, _, _, rfl, rfl, tyX2_ok, nmX2, rfl, rfl, rfl⟩
theorem fwf_2_2 : FWF RX2 2 2 (.array .int) := ⟨_, _, _, _, rfl, rfl, tyX2_ok, nmX2, rfl, rfl, rfl⟩
theorem fwf_2_3 : FWF RX2 2 3 (.array .int) := ⟨_, _, _, _, rfl, rfl, tyX2_ok, nmX2, rfl, rfl, rfl⟩
theorem wf_178 : Cond.methodLink RX11 1 Lib.objectInit ∈ LW := LW_t1 35 rfl rfl
theorem wf_209 : Cond.arrayClass .byte ∈ LW := LW_t1 66 rfl rfl
theorem fwf_11_0 : FWF RX11 11 0 (.array .byte) := ⟨_, _, _, _, rfl, rfl, tyX11_ok, nmX11, rfl, rfl, rfl⟩
theorem wf_181 : Cond.classLink RX11 23 RX6 ∈ LW := LW_t1 38 rfl rfl
theorem wf_182 : Cond.instantiable RX6 9 ∈ LW := LW_t1 39 rfl rfl
theorem wf_184 : Cond.instanceMethod yX6_init ∈ LW := LW_t1 41 rfl rfl
theorem wf_185 : Cond.code yX6_init cX6_init 1 none ∈ LW := LW_t1 42 rfl rfl
theorem nw_RX11_25 : Cond.methodLinkNest RX11 25 yX6_init "RopeWeds" ∈ nestW := NW_t1 40 rfl rfl
theorem fwf_11_4 : FWF RX11 11 4 (.object "RopeWeds$Reader") := ⟨_, _, _, _, rfl, rfl, tyX11_ok, nmX11, rfl, rfl, rfl⟩
theorem wf_391 : Cond.classLink RX11 30 RX0 ∈ LW := LW_t2 8 rfl rfl
theorem wf_392 : Cond.instantiable RX0 18 ∈ LW := LW_t2 9 rfl rfl
theorem wf_394 : Cond.instanceMethod yX0_init ∈ LW := LW_t2 11 rfl rfl
theorem wf_395 : Cond.code yX0_init cX0_init 1 none ∈ LW := LW_t2 12 rfl rfl
theorem nw_RX11_32 : Cond.methodLinkNest RX11 32 yX0_init "RopeWeds" ∈ nestW := NW_t2 10 rfl rfl
theorem fwf_11_5 : FWF RX11 11 5 (.object "RopeWeds$Ahead") := ⟨_, _, _, _, rfl, rfl, tyX11_ok, nmX11, rfl, rfl, rfl⟩
theorem wf_446 : Cond.fieldLink RX11 37 "RopeWeds$Ahead" "world" "LRopeWeds$World;" ∈ LW := LW_t2 63 rfl rfl
theorem fl_RX11_37 : FL RX11 37 0 0 := ⟨_, _, _, rfl, Nat.le_of_ble_eq_true rfl, iw_0, wf_446⟩
theorem fwf_11_6 : FWF RX11 11 6 (.object "RopeWeds$World") := ⟨_, _, _, _, rfl, rfl, tyX11_ok, nmX11, rfl, rfl, rfl⟩
theorem wf_503 : Cond.classLink RX11 42 RX10 ∈ LW := LW_t2 120 rfl rfl
theorem fwf_11_7 : FWF RX11 11 7 (.array (.object "RopeWeds$World")) := ⟨_, _, _, _, rfl, rfl, tyX11_ok, nmX11, rfl, rfl, rfl⟩
theorem wf_527 : Cond.arrayClass .boolean ∈ LW := LW_t2 144 rfl rfl
theorem fwf_11_8 : FWF RX11 11 8 (.array .boolean) := ⟨_, _, _, _, rfl, rfl, tyX11_ok, nmX11, rfl, rfl, rfl⟩
theorem wf_505 : Cond.classLink RX11 52 RX9 ∈ LW := LW_t2 122 rfl rfl
theorem wf_506 : Cond.instantiable RX9 3 ∈ LW := LW_t2 123 rfl rfl
theorem wf_508 : Cond.instanceMethod yX9_init ∈ LW := LW_t2 125 rfl rfl
theorem wf_509 : Cond.code yX9_init cX9_init 1 none ∈ LW := LW_t2 126 rfl rfl
theorem wf_507 : Cond.methodLink RX11 54 yX9_init ∈ LW := LW_t2 124 rfl rfl
theorem fwf_11_9 : FWF RX11 11 9 (.object "RopeWeds$Trays") := ⟨_, _, _, _, rfl, rfl, tyX11_ok, nmX11, rfl, rfl, rfl⟩
theorem wf_528 : Cond.classLink RX11 59 RX7 ∈ LW := LW_t2 145 rfl rfl
theorem wf_529 : Cond.instantiable RX7 4 ∈ LW := LW_t2 146 rfl rfl
theorem wf_531 : Cond.instanceMethod yX7_init ∈ LW := LW_t2 148 rfl rfl
theorem wf_532 : Cond.code yX7_init cX7_init 1 none ∈ LW := LW_t2 149 rfl rfl
theorem nw_RX11_61 : Cond.methodLinkNest RX11 61 yX7_init "RopeWeds" ∈ nestW := NW_t2 147 rfl rfl
theorem fwf_11_10 : FWF RX11 11 10 (.object "RopeWeds$Tally") := ⟨_, _, _, _, rfl, rfl, tyX11_ok, nmX11, rfl, rfl, rfl⟩
theorem wf_547 : Cond.classLink RX11 66 RX1 ∈ LW := LW_t2 164 rfl rfl
theorem wf_548 : Cond.instantiable RX1 6 ∈ LW := LW_t2 165 rfl rfl
theorem wf_550 : Cond.instanceMethod yX1_init ∈ LW := LW_t2 167 rfl rfl
theorem wf_551 : Cond.code yX1_init cX1_init 1 none ∈ LW := LW_t2 168 rfl rfl
theorem nw_RX11_68 : Cond.methodLinkNest RX11 68 yX1_init "RopeWeds" ∈ nestW := NW_t2 166 rfl rfl
theorem fwf_11_11 : FWF RX11 11 11 (.object "RopeWeds$Chores") := ⟨_, _, _, _, rfl, rfl, tyX11_ok, nmX11, rfl, rfl, rfl⟩
theorem wf_574 : Cond.classLink RX11 73 RX2 ∈ LW := LW_t2 191 rfl rfl
theorem wf_575 : Cond.instantiable RX2 4 ∈ LW := LW_t2 192 rfl rfl
theorem wf_577 : Cond.instanceMethod yX2_init ∈ LW := LW_t2 194 rfl rfl
theorem wf_578 : Cond.code yX2_init cX2_init 1 none ∈ LW := LW_t2 195 rfl rfl
theorem nw_RX11_75 : Cond.methodLinkNest RX11 75 yX2_init "RopeWeds" ∈ nestW := NW_t2 193 rfl rfl
theorem fwf_11_12 : FWF RX11 11 12 (.object "RopeWeds$Homes") := ⟨_, _, _, _, rfl, rfl, tyX11_ok, nmX11, rfl, rfl, rfl⟩
theorem wf_594 : Cond.methodLink RX11 80 yX10_init ∈ LW := LW_t2 211 rfl rfl
theorem wf_1764 : Cond.methodLink RX12 1 Lib.objectInit ∈ LW := LW_t7 181 rfl rfl
theorem fwf_12_0 : FWF RX12 12 0 (.array .int) := ⟨_, _, _, _, rfl, rfl, tyX12_ok, nmX12, rfl, rfl, rfl⟩
theorem fwf_12_1 : FWF RX12 12 1 (.array .int) := ⟨_, _, _, _, rfl, rfl, tyX12_ok, nmX12, rfl, rfl, rfl⟩
theorem fwf_12_2 : FWF RX12 12 2 (.array .int) := ⟨_, _, _, _, rfl, rfl, tyX12_ok, nmX12, rfl, rfl, rfl⟩
theorem fwf_12_3 : FWF RX12 12 3 (.array .boolean) := ⟨_, _, _, _, rfl, rfl, tyX12_ok, nmX12, rfl, rfl, rfl⟩
theorem fwf_12_5 : FWF RX12 12 5 (.array .int) := ⟨_, _, _, _, rfl, rfl, tyX12_ok, nmX12, rfl, rfl, rfl⟩
theorem fwf_12_19 : FWF RX12 12 19 (.array .int) := ⟨_, _, _, _, rfl, rfl, tyX12_ok, nmX12, rfl, rfl, rfl⟩
theorem fwf_12_20 : FWF RX12 12 20 (.array .int) := ⟨_, _, _, _, rfl, rfl, tyX12_ok, nmX12, rfl, rfl, rfl⟩
theorem fwf_12_21 : FWF RX12 12 21 (.array .int) := ⟨_, _, _, _, rfl, rfl, tyX12_ok, nmX12, rfl, rfl, rfl⟩
theorem fwf_12_23 : FWF RX12 12 23 (.array .int) := ⟨_, _, _, _, rfl, rfl, tyX12_ok, nmX12, rfl, rfl, rfl⟩
theorem fwf_12_24 : FWF RX12 12 24 (.array .boolean) := ⟨_, _, _, _, rfl, rfl, tyX12_ok, nmX12, rfl, rfl, rfl⟩
theorem fwf_12_25 : FWF RX12 12 25 (.array .boolean) := ⟨_, _, _, _, rfl, rfl, tyX12_ok, nmX12, rfl, rfl, rfl⟩
theorem fwf_12_26 : FWF RX12 12 26 (.array .int) := ⟨_, _, _, _, rfl, rfl, tyX12_ok, nmX12, rfl, rfl, rfl⟩
theorem fwf_12_27 : FWF RX12 12 27 (.array .int) := ⟨_, _, _, _, rfl, rfl, tyX12_ok, nmX12, rfl, rfl, rfl⟩
theorem fwf_12_29 : FWF RX12 12 29 (.array .boolean) := ⟨_, _, _, _, rfl, rfl, tyX12_ok, nmX12, rfl, rfl, rfl⟩
theorem fwf_12_30 : FWF RX12 12 30 (.array .int) := ⟨_, _, _, _, rfl, rfl, tyX12_ok, nmX12, rfl, rfl, rfl⟩
theorem fwf_12_31 : FWF RX12 12 31 (.array .long) := ⟨_, _, _, _, rfl, rfl, tyX12_ok, nmX12, rfl, rfl, rfl⟩
theorem fwf_12_32 : FWF RX12 12 32 (.array .long) := ⟨_, _, _, _, rfl, rfl, tyX12_ok, nmX12, rfl, rfl, rfl⟩
theorem fwf_12_33 : FWF RX12 12 33 (.array .boolean) := ⟨_, _, _, _, rfl, rfl, tyX12_ok, nmX12, rfl, rfl, rfl⟩
theorem fwf_12_34 : FWF RX12 12 34 (.array .boolean) := ⟨_, _, _, _, rfl, rfl, tyX12_ok, nmX12, rfl, rfl, rfl⟩
theorem fwf_12_35 : FWF RX12 12 35 (.array .int) := ⟨_, _, _, _, rfl, rfl, tyX12_ok, nmX12, rfl, rfl, rfl⟩
theorem fwf_12_36 : FWF RX12 12 36 (.array .int) := ⟨_, _, _, _, rfl, rfl, tyX12_ok, nmX12, rfl, rfl, rfl⟩
theorem fwf_12_39 : FWF RX12 12 39 (.array .int) := ⟨_, _, _, _, rfl, rfl, tyX12_ok, nmX12, rfl, rfl, rfl⟩
theorem fwf_12_40 : FWF RX12 12 40 (.array .int) := ⟨_, _, _, _, rfl, rfl, tyX12_ok, nmX12, rfl, rfl, rfl⟩
theorem fwf_12_41 : FWF RX12 12 41 (.array .long) := ⟨_, _, _, _, rfl, rfl, tyX12_ok, nmX12, rfl, rfl, rfl⟩
theorem df_5 : ∀ j, j < 7 → ∀ g : GC, defaultValue (tyX5 j) = vp_V (([(0, 0), (0, 0), (0, 0), (0, 0), (3, 0), (3, 0), (3, 0)] : List (Nat × Int)).map (toV g)) j := dfl_ok (by decide +kernel)
theorem df_4 : ∀ j, j < 7 → ∀ g : GC, defaultValue (tyX4 j) = vp_V (([(3, 0), (0, 0), (0, 0), (0, 0), (0, 0), (0, 0), (0, 0)] : List (Nat × Int)).map (toV g)) j := dfl_ok (by decide +kernel)
theorem df_3 : ∀ j, j < 10 → ∀ g : GC, defaultValue (tyX3 j) = vp_V (([(0, 0), (0, 0), (0, 0), (0, 0), (0, 0), (0, 0), (3, 0), (3, 0), (3, 0), (3, 0)] : List (Nat × Int)).map (toV g)) j := dfl_ok (by decide +kernel)
theorem df_8 : ∀ j, j < 4 → ∀ g : GC, defaultValue (tyX8 j) = vp_V (([(3, 0), (3, 0), (3, 0), (0, 0)] : List (Nat × Int)).map (toV g)) j := dfl_ok (by decide +kernel)
theorem df_6 : ∀ j, j < 9 → ∀ g : GC, defaultValue (tyX6 j) = vp_V (([(3, 0), (3, 0), (3, 0), (0, 0), (0, 0), (0, 0), (0, 0), (0, 0), (3, 0)] : List (Nat × Int)).map (toV g)) j := dfl_ok (by decide +kernel)
theorem df_10 : ∀ j, j < 9 → ∀ g : GC, defaultValue (tyX10 j) = vp_V (([(3, 0), (3, 0), (0, 0), (0, 0), (0, 0), (3, 0), (3, 0), (3, 0), (3, 0)] : List (Nat × Int)).map (toV g)) j := dfl_ok (by decide +kernel)
theorem df_0 : ∀ j, j < 18 → ∀ g : GC, defaultValue (tyX0 j) = vp_V (([(3, 0), (3, 0), (3, 0), (3, 0), (3, 0), (3, 0), (3, 0), (3, 0), (3, 0), (0, 0), (0, 0), (0, 0), (0, 0), (0, 0), (0, 0), (0, 0), (0, 0), (0, 0)] : List (Nat × Int)).map (toV g)) j := dfl_ok (by decide +kernel)
theorem df_9 : ∀ j, j < 3 → ∀ g : GC, defaultValue (tyX9 j) = vp_V (([(3, 0), (3, 0), (3, 0)] : List (Nat × Int)).map (toV g)) j := dfl_ok (by decide +kernel)
theorem df_7 : ∀ j, j < 4 → ∀ g : GC, defaultValue (tyX7 j) = vp_V (([(3, 0), (3, 0), (3, 0), (0, 0)] : List (Nat × Int)).map (toV g)) j := dfl_ok (by decide +kernel)
theorem df_1 : ∀ j, j < 6 → ∀ g : GC, defaultValue (tyX1 j) = vp_V (([(3, 0), (0, 0), (3, 0), (3, 0), (3, 0), (0, 0)] : List (Nat × Int)).map (toV g)) j := dfl_ok (by decide +kernel)
theorem df_2 : ∀ j, j < 4 → ∀ g : GC, defaultValue (tyX2 j) = vp_V (([(3, 0), (3, 0), (3, 0), (3, 0)] : List (Nat × Int)).map (toV g)) j := dfl_ok (by decide +kernel)
theorem df_11 : ∀ j, j < 13 → ∀ g : GC, defaultValue (tyX11 j) = vp_V (([(3, 0), (0, 0), (0, 0), (0, 0), (3, 0), (3, 0), (3, 0), (3, 0), (3, 0), (3, 0), (3, 0), (3, 0), (3, 0)] : List (Nat × Int)).map (toV g)) j := dfl_ok (by decide +kernel)
theorem df_12 : ∀ j, j < 42 → ∀ g : GC, defaultValue (tyX12 j) = vp_V (([(3, 0), (3, 0), (3, 0), (3, 0), (0, 0), (3, 0), (0, 0), (0, 0), (0, 0), (0, 0), (0, 0), (0, 0), (0, 0), (0, 0), (0, 0), (0, 0), (0, 0), (0, 0), (0, 0), (3, 0), (3, 0), (3, 0), (0, 0), (3, 0), (3, 0), (3, 0), (3, 0), (3, 0), (0, 0), (3, 0), (3, 0), (3, 0), (3, 0), (3, 0), (3, 0), (3, 0), (3, 0), (0, 0), (0, 0), (3, 0), (3, 0), (3, 0)] : List (Nat × Int)).map (toV g)) j := dfl_ok (by decide +kernel)

theorem ex_RX11_89 : (∀ w ∈ vx_atS RX11 89 "java/lang/IllegalArgumentException" ["java/lang/RuntimeException", "java/lang/Exception"], w ∈ LW ∨ w ∈ exW) ∧ (∀ {ik : Nat}, ∀ w ∈ Cond.classLink RX11 ik "java/lang/IllegalArgumentException" :: Cond.initialized "java/lang/IllegalArgumentException" :: vx_atS RX11 89 "java/lang/IllegalArgumentException" ["java/lang/RuntimeException", "java/lang/Exception"], vx_ot w = true) := by
  have h1 : ∀ w ∈ vx_atS RX11 89 "java/lang/IllegalArgumentException" ["java/lang/RuntimeException", "java/lang/Exception"], w ∈ lw_tbl := by decide +kernel
  have h2 : ∀ w ∈ vx_atS RX11 89 "java/lang/IllegalArgumentException" ["java/lang/RuntimeException", "java/lang/Exception"], goodWord w = true ∨ w ∈ exW := by decide +kernel
  have h3 : ∀ w ∈ vx_atS RX11 89 "java/lang/IllegalArgumentException" ["java/lang/RuntimeException", "java/lang/Exception"], vx_ot w = true := by decide +kernel
  exact ⟨fun w hw => (h2 w hw).imp_left (fun q => List.mem_filter.mpr ⟨h1 w hw, q⟩), fun {ik} w hw => by
    rcases List.mem_cons.mp hw with rfl | hw
    · rfl
    · rcases List.mem_cons.mp hw with rfl | hw
      · rfl
      · exact h3 w hw⟩
theorem ex_RX11_175 : (∀ w ∈ (zx_words RX11 175 "java/util/NoSuchElementException" 13 prog_34_method_4_code "java/lang/RuntimeException" ["java/lang/Exception"]).filter vx_no, w ∈ LW ∨ w ∈ exW) ∧ (∀ {ik : Nat}, ∀ w ∈ Cond.classLink RX11 ik "java/util/NoSuchElementException" :: Cond.initialized "java/util/NoSuchElementException" :: (zx_words RX11 175 "java/util/NoSuchElementException" 13 prog_34_method_4_code "java/lang/RuntimeException" ["java/lang/Exception"]).filter vx_no, vx_ot w = true) := by
  have h1 : ∀ w ∈ (zx_words RX11 175 "java/util/NoSuchElementException" 13 prog_34_method_4_code "java/lang/RuntimeException" ["java/lang/Exception"]).filter vx_no, w ∈ lw_tbl := by decide +kernel
  have h2 : ∀ w ∈ (zx_words RX11 175 "java/util/NoSuchElementException" 13 prog_34_method_4_code "java/lang/RuntimeException" ["java/lang/Exception"]).filter vx_no, goodWord w = true ∨ w ∈ exW := by decide +kernel
  have h3 : ∀ w ∈ (zx_words RX11 175 "java/util/NoSuchElementException" 13 prog_34_method_4_code "java/lang/RuntimeException" ["java/lang/Exception"]).filter vx_no, vx_ot w = true := by decide +kernel
  exact ⟨fun w hw => (h2 w hw).imp_left (fun q => List.mem_filter.mpr ⟨h1 w hw, q⟩), fun {ik} w hw => by
    rcases List.mem_cons.mp hw with rfl | hw
    · rfl
    · rcases List.mem_cons.mp hw with rfl | hw
      · rfl
      · exact h3 w hw⟩
theorem ex_RX11_187 : (∀ w ∈ vx_atS RX11 187 "java/lang/IllegalStateException" ["java/lang/RuntimeException", "java/lang/Exception"], w ∈ LW ∨ w ∈ exW) ∧ (∀ {ik : Nat}, ∀ w ∈ Cond.classLink RX11 ik "java/lang/IllegalStateException" :: Cond.initialized "java/lang/IllegalStateException" :: vx_atS RX11 187 "java/lang/IllegalStateException" ["java/lang/RuntimeException", "java/lang/Exception"], vx_ot w = true) := by
  have h1 : ∀ w ∈ vx_atS RX11 187 "java/lang/IllegalStateException" ["java/lang/RuntimeException", "java/lang/Exception"], w ∈ lw_tbl := by decide +kernel
  have h2 : ∀ w ∈ vx_atS RX11 187 "java/lang/IllegalStateException" ["java/lang/RuntimeException", "java/lang/Exception"], goodWord w = true ∨ w ∈ exW := by decide +kernel
  have h3 : ∀ w ∈ vx_atS RX11 187 "java/lang/IllegalStateException" ["java/lang/RuntimeException", "java/lang/Exception"], vx_ot w = true := by decide +kernel
  exact ⟨fun w hw => (h2 w hw).imp_left (fun q => List.mem_filter.mpr ⟨h1 w hw, q⟩), fun {ik} w hw => by
    rcases List.mem_cons.mp hw with rfl | hw
    · rfl
    · rcases List.mem_cons.mp hw with rfl | hw
      · rfl
      · exact h3 w hw⟩
theorem ex_RX11_368 : (∀ w ∈ vx_atS RX11 368 "java/lang/IndexOutOfBoundsException" ["java/lang/RuntimeException", "java/lang/Exception"], w ∈ LW ∨ w ∈ exW) ∧ (∀ {ik : Nat}, ∀ w ∈ Cond.classLink RX11 ik "java/lang/IndexOutOfBoundsException" :: Cond.initialized "java/lang/IndexOutOfBoundsException" :: vx_atS RX11 368 "java/lang/IndexOutOfBoundsException" ["java/lang/RuntimeException", "java/lang/Exception"], vx_ot w = true) := by
  have h1 : ∀ w ∈ vx_atS RX11 368 "java/lang/IndexOutOfBoundsException" ["java/lang/RuntimeException", "java/lang/Exception"], w ∈ lw_tbl := by decide +kernel
  have h2 : ∀ w ∈ vx_atS RX11 368 "java/lang/IndexOutOfBoundsException" ["java/lang/RuntimeException", "java/lang/Exception"], goodWord w = true ∨ w ∈ exW := by decide +kernel
  have h3 : ∀ w ∈ vx_atS RX11 368 "java/lang/IndexOutOfBoundsException" ["java/lang/RuntimeException", "java/lang/Exception"], vx_ot w = true := by decide +kernel
  exact ⟨fun w hw => (h2 w hw).imp_left (fun q => List.mem_filter.mpr ⟨h1 w hw, q⟩), fun {ik} w hw => by
    rcases List.mem_cons.mp hw with rfl | hw
    · rfl
    · rcases List.mem_cons.mp hw with rfl | hw
      · rfl
      · exact h3 w hw⟩

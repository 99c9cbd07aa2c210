/-! numbers behind the words -/
theorem zs_eq32 {i j : Int32} {x y : Int} (hi : i.toInt = x) (hj : j.toInt = y) : i = j ↔ x = y := by rw [← hi, ← hj, Int32.toInt_inj]
theorem zs_lt32 {i j : Int32} {x y : Int} (hi : i.toInt = x) (hj : j.toInt = y) : i < j ↔ x < y := by rw [← hi, ← hj, Int32.lt_iff_toInt_lt]
theorem zs_le32 {i j : Int32} {x y : Int} (hi : i.toInt = x) (hj : j.toInt = y) : i ≤ j ↔ x ≤ y := by rw [← hi, ← hj, Int32.le_iff_toInt_le]
theorem zs_eq0 {i : Int32} {x : Int} (hi : i.toInt = x) : i = 0 ↔ x = 0 := zs_eq32 hi Int32.toInt_zero
theorem zs_ne0 {i : Int32} {x : Int} (hi : i.toInt = x) : (¬ i = 0) ↔ ¬ x = 0 := not_congr (zs_eq0 hi)
theorem zs_lt0 {i : Int32} {x : Int} (hi : i.toInt = x) : i < 0 ↔ x < 0 := zs_lt32 hi Int32.toInt_zero
theorem zs_ge0 {i : Int32} {x : Int} (hi : i.toInt = x) : 0 ≤ i ↔ 0 ≤ x := zs_le32 Int32.toInt_zero hi
theorem zs_gt0 {i : Int32} {x : Int} (hi : i.toInt = x) : 0 < i ↔ 0 < x := zs_lt32 Int32.toInt_zero hi
theorem zs_le0 {i : Int32} {x : Int} (hi : i.toInt = x) : i ≤ 0 ↔ x ≤ 0 := zs_le32 hi Int32.toInt_zero
theorem zs_cmp_val {i j : Int64} {x y : Int} (hi : i.toInt = x) (hj : j.toInt = y) : (lg_cmp i j).toInt = if y < x then 1 else if x = y then 0 else -1 := by
  unfold lg_cmp
  simp only [gt_iff_lt, Int64.lt_iff_toInt_lt, ← Int64.toInt_inj, hi, hj]
  by_cases h : y < x
  · rw [if_pos h, if_pos h]; rfl
  · rw [if_neg h, if_neg h]
    by_cases h2 : x = y
    · rw [if_pos h2, if_pos h2]; rfl
    · rw [if_neg h2, if_neg h2]; rfl
theorem zs_cmp_eq {i j : Int64} {x y : Int} (hi : i.toInt = x) (hj : j.toInt = y) : lg_cmp i j = 0 ↔ x = y := by
  rw [zs_eq0 (zs_cmp_val hi hj)]; split <;> (try split) <;> omega
theorem zs_cmp_ne {i j : Int64} {x y : Int} (hi : i.toInt = x) (hj : j.toInt = y) : (¬ lg_cmp i j = 0) ↔ ¬ x = y := not_congr (zs_cmp_eq hi hj)
theorem zs_cmp_lt {i j : Int64} {x y : Int} (hi : i.toInt = x) (hj : j.toInt = y) : lg_cmp i j < 0 ↔ x < y := by
  rw [zs_lt0 (zs_cmp_val hi hj)]; split <;> (try split) <;> omega
theorem zs_cmp_ge {i j : Int64} {x y : Int} (hi : i.toInt = x) (hj : j.toInt = y) : 0 ≤ lg_cmp i j ↔ y ≤ x := by
  rw [zs_ge0 (zs_cmp_val hi hj)]; split <;> (try split) <;> omega
theorem zs_cmp_gt {i j : Int64} {x y : Int} (hi : i.toInt = x) (hj : j.toInt = y) : 0 < lg_cmp i j ↔ y < x := by
  rw [zs_gt0 (zs_cmp_val hi hj)]; split <;> (try split) <;> omega
theorem zs_cmp_le {i j : Int64} {x y : Int} (hi : i.toInt = x) (hj : j.toInt = y) : lg_cmp i j ≤ 0 ↔ x ≤ y := by
  rw [zs_le0 (zs_cmp_val hi hj)]; split <;> (try split) <;> omega
theorem zs_i2c_val (i : Int32) : ((i.toUInt32 % 65536).toInt32).toInt = i.toInt % 65536 := by
  have h1 : (i.toUInt32 % 65536).toNat = i.toUInt32.toNat % 65536 := by simp [UInt32.toNat_mod]
  have h2 : ((i.toUInt32 % 65536).toInt32).toInt = (((i.toUInt32 % 65536).toBitVec).toInt) := rfl
  have h3 : i.toInt = i.toUInt32.toBitVec.toInt := rfl
  have h4 : i.toUInt32.toBitVec.toNat = i.toUInt32.toNat := rfl
  rw [h2, h3, BitVec.toInt_eq_toNat_cond, BitVec.toInt_eq_toNat_cond]
  have h5 : (i.toUInt32 % 65536).toBitVec.toNat = i.toUInt32.toNat % 65536 := h1
  rw [h5, h4]
  have h6 := i.toUInt32.toNat_lt
  split <;> split <;> omega
theorem zs_ne32 {j : Int32} {y : Int} (hj : j.toInt = y) (hy : 0 < y) : ¬ j = 0 := fun q => by rw [q, Int32.toInt_zero] at hj; omega
theorem zs_ne64 {j : Int64} {y : Int} (hj : j.toInt = y) (hy : 0 < y) : ¬ j = 0 := fun q => by rw [q, Int64.toInt_zero] at hj; omega
theorem zs_tdiv_abs {x y : Int} (hy : 0 < y) : (x.tdiv y).natAbs ≤ x.natAbs := by
  rw [Int.natAbs_tdiv]; exact Nat.div_le_self _ _
theorem zs_tdiv_rng {x y : Int} (hy : 0 < y) : -(x.natAbs : Int) ≤ x.tdiv y ∧ (x.tdiv y ≤ x ∨ x.tdiv y ≤ 0) := by
  have h := zs_tdiv_abs (x := x) hy
  by_cases hx : 0 ≤ x
  · have h2 := Int.tdiv_nonneg hx (Int.le_of_lt hy)
    omega
  · have h2 := Int.tdiv_nonneg (a := -x) (by omega) (Int.le_of_lt hy)
    rw [Int.neg_tdiv] at h2
    omega
theorem zs_tmod_eq {x y : Int} : x - x.tdiv y * y = x.tmod y := by
  have h := Int.mul_tdiv_add_tmod x y
  rw [Int.mul_comm] at h
  omega
theorem zs_tmod_rng {x y : Int} (hy : 0 < y) : -y < x.tmod y ∧ x.tmod y < y := by
  by_cases hx : 0 ≤ x
  · have h1 := Int.tmod_nonneg y hx
    have h2 := Int.tmod_lt_of_pos x hy
    omega
  · have h1 := Int.tmod_nonneg y (a := -x) (by omega)
    have h2 := Int.tmod_lt_of_pos (-x) hy
    rw [Int.neg_tmod] at h1 h2
    have h3 := Int.tmod_lt_of_pos x hy
    omega
theorem zs_div32 {i j : Int32} {x y : Int} (hi : i.toInt = x) (hj : j.toInt = y) (hy : 0 < y) : (i / j).toInt = Int.tdiv x y := by
  have h1 := Int32.le_toInt i
  have h2 := Int32.toInt_lt i
  rw [Int32.toInt_div, hi, hj]
  rw [hi] at h1 h2
  obtain ⟨h3, h4⟩ := zs_tdiv_rng (x := x) hy
  exact Int.bmod_eq_of_le (by omega) (by omega)
theorem zs_rem32 {i j : Int32} {x y : Int} (hi : i.toInt = x) (hj : j.toInt = y) (hy : 0 < y) : (i - i / j * j).toInt = Int.tmod x y := by
  have h3 := Int32.toInt_lt j
  rw [Int32.toInt_sub, Int32.toInt_mul, zs_div32 hi hj hy, hi, hj, Int.sub_bmod_bmod]
  rw [hj] at h3
  rw [zs_tmod_eq]
  obtain ⟨h4, h5⟩ := zs_tmod_rng (x := x) hy
  exact Int.bmod_eq_of_le (by omega) (by omega)
theorem zs_div64 {i j : Int64} {x y : Int} (hi : i.toInt = x) (hj : j.toInt = y) (hy : 0 < y) : (i / j).toInt = Int.tdiv x y := by
  have h1 := Int64.le_toInt i
  have h2 := Int64.toInt_lt i
  rw [Int64.toInt_div, hi, hj]
  rw [hi] at h1 h2
  obtain ⟨h3, h4⟩ := zs_tdiv_rng (x := x) hy
  exact Int.bmod_eq_of_le (by omega) (by omega)
theorem zs_rem64 {i j : Int64} {x y : Int} (hi : i.toInt = x) (hj : j.toInt = y) (hy : 0 < y) : (i - i / j * j).toInt = Int.tmod x y := by
  have h3 := Int64.toInt_lt j
  rw [Int64.toInt_sub, Int64.toInt_mul, zs_div64 hi hj hy, hi, hj, Int.sub_bmod_bmod]
  rw [hj] at h3
  rw [zs_tmod_eq]
  obtain ⟨h4, h5⟩ := zs_tmod_rng (x := x) hy
  exact Int.bmod_eq_of_le (by omega) (by omega)
/-! ===== CORE 2: one step of the machine, over the memory of whole numbers ===== -/
def LW : List Cond := lw_tbl.filter goodWord
theorem LW_good : ∀ w ∈ LW, (w.onTables && w.keeps) = true ∨ ∃ ty, w = .arrayClass ty := fun w h => good_of_word (List.mem_filter.mp h).2
theorem LW_t1 {w : Cond} (j : Nat) (h : tables_1_1[j]? = some w) (hg : goodWord w = true) : w ∈ LW := List.mem_filter.mpr ⟨List.mem_append_right _ (List.mem_append_left _ (List.mem_of_getElem? h)), hg⟩
theorem LW_t2 {w : Cond} (j : Nat) (h : tables_1_2[j]? = some w) (hg : goodWord w = true) : w ∈ LW := List.mem_filter.mpr ⟨List.mem_append_right _ (List.mem_append_right _ (List.mem_append_left _ (List.mem_of_getElem? h))), hg⟩
theorem LW_t3 {w : Cond} (j : Nat) (h : tables_1_3[j]? = some w) (hg : goodWord w = true) : w ∈ LW := List.mem_filter.mpr ⟨List.mem_append_right _ (List.mem_append_right _ (List.mem_append_right _ (List.mem_append_left _ (List.mem_of_getElem? h)))), hg⟩
theorem LW_t4 {w : Cond} (j : Nat) (h : tables_1_4[j]? = some w) (hg : goodWord w = true) : w ∈ LW := List.mem_filter.mpr ⟨List.mem_append_right _ (List.mem_append_right _ (List.mem_append_right _ (List.mem_append_right _ (List.mem_append_left _ (List.mem_of_getElem? h))))), hg⟩
theorem LW_t5 {w : Cond} (j : Nat) (h : tables_1_5[j]? = some w) (hg : goodWord w = true) : w ∈ LW := List.mem_filter.mpr ⟨List.mem_append_right _ (List.mem_append_right _ (List.mem_append_right _ (List.mem_append_right _ (List.mem_append_right _ (List.mem_append_left _ (List.mem_of_getElem? h)))))), hg⟩
theorem LW_t6 {w : Cond} (j : Nat) (h : tables_1_6[j]? = some w) (hg : goodWord w = true) : w ∈ LW := List.mem_filter.mpr ⟨List.mem_append_right _ (List.mem_append_right _ (List.mem_append_right _ (List.mem_append_right _ (List.mem_append_right _ (List.mem_append_right _ (List.mem_append_left _ (List.mem_of_getElem? h))))))), hg⟩
theorem LW_t7 {w : Cond} (j : Nat) (h : tables_1_7[j]? = some w) (hg : goodWord w = true) : w ∈ LW := List.mem_filter.mpr ⟨List.mem_append_right _ (List.mem_append_right _ (List.mem_append_right _ (List.mem_append_right _ (List.mem_append_right _ (List.mem_append_right _ (List.mem_append_right _ (List.mem_append_left _ (List.mem_of_getElem? h)))))))), hg⟩
theorem LW_t8 {w : Cond} (j : Nat) (h : tables_1_8[j]? = some w) (hg : goodWord w = true) : w ∈ LW := List.mem_filter.mpr ⟨List.mem_append_right _ (List.mem_append_right _ (List.mem_append_right _ (List.mem_append_right _ (List.mem_append_right _ (List.mem_append_right _ (List.mem_append_right _ (List.mem_append_right _ (List.mem_append_left _ (List.mem_of_getElem? h))))))))), hg⟩
theorem LW_t9 {w : Cond} (j : Nat) (h : tables_1_9[j]? = some w) (hg : goodWord w = true) : w ∈ LW := List.mem_filter.mpr ⟨List.mem_append_right _ (List.mem_append_right _ (List.mem_append_right _ (List.mem_append_right _ (List.mem_append_right _ (List.mem_append_right _ (List.mem_append_right _ (List.mem_append_right _ (List.mem_append_right _ (List.mem_append_left _ (List.mem_of_getElem? h)))))))))), hg⟩
theorem LW_t10 {w : Cond} (j : Nat) (h : tables_1_10[j]? = some w) (hg : goodWord w = true) : w ∈ LW := List.mem_filter.mpr ⟨List.mem_append_right _ (List.mem_append_right _ (List.mem_append_right _ (List.mem_append_right _ (List.mem_append_right _ (List.mem_append_right _ (List.mem_append_right _ (List.mem_append_right _ (List.mem_append_right _ (List.mem_append_right _ (List.mem_of_getElem? h)))))))))), hg⟩
theorem LW_p1 {y : MethodName} {n : Nat} (j : Nat) (h : lw_privs_1[j]? = some (y, n)) (hg : goodWord (Cond.selects y.cls y y) = true) : Cond.selects y.cls y y ∈ LW := List.mem_filter.mpr ⟨List.mem_append_left _ (List.mem_map.mpr ⟨(y, n), List.mem_append_left _ (List.mem_of_getElem? h), rfl⟩), hg⟩
theorem LW_p2 {y : MethodName} {n : Nat} (j : Nat) (h : lw_privs_2[j]? = some (y, n)) (hg : goodWord (Cond.selects y.cls y y) = true) : Cond.selects y.cls y y ∈ LW := List.mem_filter.mpr ⟨List.mem_append_left _ (List.mem_map.mpr ⟨(y, n), List.mem_append_right _ (List.mem_append_left _ (List.mem_of_getElem? h)), rfl⟩), hg⟩
theorem LW_p3 {y : MethodName} {n : Nat} (j : Nat) (h : lw_privs_3[j]? = some (y, n)) (hg : goodWord (Cond.selects y.cls y y) = true) : Cond.selects y.cls y y ∈ LW := List.mem_filter.mpr ⟨List.mem_append_left _ (List.mem_map.mpr ⟨(y, n), List.mem_append_right _ (List.mem_append_right _ (List.mem_append_left _ (List.mem_of_getElem? h))), rfl⟩), hg⟩
theorem LW_p4 {y : MethodName} {n : Nat} (j : Nat) (h : lw_privs_4[j]? = some (y, n)) (hg : goodWord (Cond.selects y.cls y y) = true) : Cond.selects y.cls y y ∈ LW := List.mem_filter.mpr ⟨List.mem_append_left _ (List.mem_map.mpr ⟨(y, n), List.mem_append_right _ (List.mem_append_right _ (List.mem_append_right _ (List.mem_append_left _ (List.mem_of_getElem? h)))), rfl⟩), hg⟩
theorem LW_p5 {y : MethodName} {n : Nat} (j : Nat) (h : lw_privs_5[j]? = some (y, n)) (hg : goodWord (Cond.selects y.cls y y) = true) : Cond.selects y.cls y y ∈ LW := List.mem_filter.mpr ⟨List.mem_append_left _ (List.mem_map.mpr ⟨(y, n), List.mem_append_right _ (List.mem_append_right _ (List.mem_append_right _ (List.mem_append_right _ (List.mem_append_left _ (List.mem_of_getElem? h))))), rfl⟩), hg⟩
theorem LW_p6 {y : MethodName} {n : Nat} (j : Nat) (h : lw_privs_6[j]? = some (y, n)) (hg : goodWord (Cond.selects y.cls y y) = true) : Cond.selects y.cls y y ∈ LW := List.mem_filter.mpr ⟨List.mem_append_left _ (List.mem_map.mpr ⟨(y, n), List.mem_append_right _ (List.mem_append_right _ (List.mem_append_right _ (List.mem_append_right _ (List.mem_append_right _ (List.mem_append_left _ (List.mem_of_getElem? h)))))), rfl⟩), hg⟩
theorem LW_p7 {y : MethodName} {n : Nat} (j : Nat) (h : lw_privs_7[j]? = some (y, n)) (hg : goodWord (Cond.selects y.cls y y) = true) : Cond.selects y.cls y y ∈ LW := List.mem_filter.mpr ⟨List.mem_append_left _ (List.mem_map.mpr ⟨(y, n), List.mem_append_right _ (List.mem_append_right _ (List.mem_append_right _ (List.mem_append_right _ (List.mem_append_right _ (List.mem_append_right _ (List.mem_append_left _ (List.mem_of_getElem? h))))))), rfl⟩), hg⟩
theorem LW_p8 {y : MethodName} {n : Nat} (j : Nat) (h : lw_privs_8[j]? = some (y, n)) (hg : goodWord (Cond.selects y.cls y y) = true) : Cond.selects y.cls y y ∈ LW := List.mem_filter.mpr ⟨List.mem_append_left _ (List.mem_map.mpr ⟨(y, n), List.mem_append_right _ (List.mem_append_right _ (List.mem_append_right _ (List.mem_append_right _ (List.mem_append_right _ (List.mem_append_right _ (List.mem_append_right _ (List.mem_append_left _ (List.mem_of_getElem? h)))))))), rfl⟩), hg⟩
theorem LW_p9 {y : MethodName} {n : Nat} (j : Nat) (h : lw_privs_9[j]? = some (y, n)) (hg : goodWord (Cond.selects y.cls y y) = true) : Cond.selects y.cls y y ∈ LW := List.mem_filter.mpr ⟨List.mem_append_left _ (List.mem_map.mpr ⟨(y, n), List.mem_append_right _ (List.mem_append_right _ (List.mem_append_right _ (List.mem_append_right _ (List.mem_append_right _ (List.mem_append_right _ (List.mem_append_right _ (List.mem_append_right _ (List.mem_of_getElem? h)))))))), rfl⟩), hg⟩
def Bd (g : GC) (own : String) (cc : ByteArray) (nL : Nat) (p : Program) (s : State) (m : MethodId) (args : Array Value) (meth : Method) (c : Code) : Prop :=
  p.tables.exec = Jvm.exec ∧ c.code = cc ∧ c.maxLocals = nL ∧ s.vm.findClass own = some m.cls ∧ (∀ w ∈ LW, w.before args s = true) ∧ Kn g s ∧ meth.locks = false ∧ g.1 ≤ s.heap.size
def Sim (p : Program) (l : Launch) (e : Env) (R : Room) (s : State) (m : MethodId) (args : Array Value) (below : List Frame) (meth : Method) (c : Code) (g : GC) (nL : Nat) {ρ : Type} (Q : ρ → Mem → State → Prop) (kc ks pc : Nat) (ls : List (Nat × SV)) (st : List SV) (P : Mem → Option ρ) : Prop :=
  ∀ (H : Heap) (locs : List Loc) (lsA : Array Slot) (lv : List (Nat × Value)) (vst : List Value) (mm : Mem) (r : ρ), lv_has lsA nL lv → lrel g ls lv → srel g st vst → Rel g mm H → va_S (fun q => g.1 ≤ q) s.heap H locs → P mm = some r →
    W p l e R s m args below meth c H locs kc ks (Q r mm) (F0 m pc lsA vst)
section SIMS
variable {p : Program} {l : Launch} {e : Env} {R : Room} {s : State} {m : MethodId} {args : Array Value} {below : List Frame} {meth : Method} {c : Code}
variable {g : GC} {own : String} {cc : ByteArray} {nL kc ks pc : Nat} {ρ : Type} {Q : ρ → Mem → State → Prop} {ls : List (Nat × SV)} {st : List SV} {P : Mem → Option ρ}
/-- fewer locals, as they stand at a place where roads meet -/
theorem zs_sub {ls' : List (Nat × SV)} (h : lsub ls ls') (K : Sim p l e R s m args below meth c g nL Q kc ks pc ls' st P) : Sim p l e R s m args below meth c g nL Q kc ks pc ls st P := by
  intro H locs lsA lv vst mm r h1 h2 h3 h4 h5 h6
  obtain ⟨lv', a, b⟩ := lrel_sub h2 h
  exact K H locs lsA lv' vst mm r ⟨h1.1, h1.2.1, fun q hq => h1.2.2 q (b q hq)⟩ a h3 h4 h5 h6
theorem zs_goj {ls' : List (Nat × SV)} (K : Sim p l e R s m args below meth c g nL Q kc ks pc ls' st P) (h : lsub ls ls') : Sim p l e R s m args below meth c g nL Q kc ks pc ls st P := zs_sub h K
theorem zs_widen {k n : Nat} (h1 : kc ≤ k) (h2 : ks ≤ n) (K : Sim p l e R s m args below meth c g nL Q k n pc ls st P) : Sim p l e R s m args below meth c g nL Q kc ks pc ls st P :=
  fun H locs lsA lv vst mm r a1 a2 a3 a4 a5 a6 => W.widen h1 h2 (K H locs lsA lv vst mm r a1 a2 a3 a4 a5 a6)
theorem zs_congr {P' : Mem → Option ρ} (h : ∀ mm, P mm = P' mm) (K : Sim p l e R s m args below meth c g nL Q kc ks pc ls st P') : Sim p l e R s m args below meth c g nL Q kc ks pc ls st P :=
  fun H locs lsA lv vst mm r a1 a2 a3 a4 a5 a6 => K H locs lsA lv vst mm r a1 a2 a3 a4 a5 ((h mm) ▸ a6)
theorem zs_none : Sim p l e R s m args below meth c g nL Q kc ks pc ls st (fun _ => none) := by
  intro H locs lsA lv vst mm r h1 h2 h3 h4 h5 h6
  cases h6
theorem zs_chk {cnd : Mem → Prop} {hd : ∀ mm, Decidable (cnd mm)} (K : ∀ mm0, cnd mm0 → Sim p l e R s m args below meth c g nL Q kc ks pc ls st P) : Sim p l e R s m args below meth c g nL Q kc ks pc ls st (fun mm => @chk _ (cnd mm) (hd mm) (P mm)) := by
  intro H locs lsA lv vst mm r h1 h2 h3 h4 h5 h6
  replace h6 : @chk _ (cnd mm) (hd mm) (P mm) = some r := h6
  unfold chk at h6
  split at h6
  next h => exact K mm h H locs lsA lv vst mm r h1 h2 h3 h4 h5 h6
  next h => cases h6
theorem zs_let {x : Int} {P : Int → Mem → Option ρ} (K : ∀ x, Sim p l e R s m args below meth c g nL Q kc ks pc ls (sI x :: st) (P x)) : Sim p l e R s m args below meth c g nL Q kc ks pc ls (sI x :: st) (fun mm => rd x (fun x => P x mm)) := K x
theorem zs_letL {x : Int} {P : Int → Mem → Option ρ} (K : ∀ x, Sim p l e R s m args below meth c g nL Q kc ks pc ls (sL x :: st) (P x)) : Sim p l e R s m args below meth c g nL Q kc ks pc ls (sL x :: st) (fun mm => rd x (fun x => P x mm)) := K x
theorem zs_jn {τ : Type} {J : τ → Mem → Option ρ} {P : (τ → Mem → Option ρ) → Mem → Option ρ} {kJ sJ pJ : Nat} (lJ : τ → List (Nat × SV)) (tJ : τ → List SV) (hJ : ∀ t, Sim p l e R s m args below meth c g nL Q kJ sJ pJ (lJ t) (tJ t) (J t)) (K : ∀ J', (∀ t, Sim p l e R s m args below meth c g nL Q kJ sJ pJ (lJ t) (tJ t) (J' t)) → Sim p l e R s m args below meth c g nL Q kc ks pc ls st (P J')) : Sim p l e R s m args below meth c g nL Q kc ks pc ls st (fun mm => jn J (fun J' => P J' mm)) := K J hJ
theorem zs_lp {τ : Type} {F : (τ → Mem → Option ρ) → τ → Mem → Option ρ} (lL : τ → List (Nat × SV)) (tL : τ → List SV) (hF : ∀ K, (∀ t, Sim p l e R s m args below meth c g nL Q kc ks pc (lL t) (tL t) (K t)) → ∀ t, Sim p l e R s m args below meth c g nL Q kc ks pc (lL t) (tL t) (F K t)) : ∀ (n : Nat) (t : τ), Sim p l e R s m args below meth c g nL Q kc ks pc (lL t) (tL t) (fun mm => lp n F t mm)
  | 0, _ => zs_none
  | n + 1, t => hF (fun t mm => lp n F t mm) (zs_lp lL tL hF n) t
theorem zs_need {x : Nat} {d : Nat ⊕ (Nat × Nat)} {hd : Mem → Decidable (layL[x]? = some d)} (K : layL[x]? = some d → Sim p l e R s m args below meth c g nL Q kc ks pc ls st P) : Sim p l e R s m args below meth c g nL Q kc ks pc ls st (fun mm => @chk _ (layL[x]? = some d) (hd mm) (P mm)) := zs_chk (P := P) (fun _ h => K h)
theorem zs_iload_n (C : Bd g own cc nL p s m args meth c) {k : Fin 4} {i : Nat} {x : Int} (d : decode cc pc = .ok (.iload_n k, 1)) (hi : (k : Nat) = i) (hl : ls.lookup i = some (sI x)) (K : Sim p l e R s m args below meth c g nL Q kc ks (pc+1) ls (sI x :: st) P) : Sim p l e R s m args below meth c g nL Q kc ks pc ls st P := by
  intro H locs lsA lv vst mm r h1 h2 h3 h4 h5 h6
  obtain ⟨j, v, hj, z, rfl, hz⟩ := lrel_at h2 hl
  exact lv_iload_n C.1 C.2.1 d hi (lv_at h1 j hj) (K H locs lsA lv _ mm r h1 h2 ⟨⟨z, rfl, hz⟩, h3⟩ h4 h5 h6)
theorem zs_iload (C : Bd g own cc nL p s m args meth c) {i : Nat} {x : Int} (d : decode cc pc = .ok (.iload i, 2)) (hl : ls.lookup i = some (sI x)) (K : Sim p l e R s m args below meth c g nL Q kc ks (pc+2) ls (sI x :: st) P) : Sim p l e R s m args below meth c g nL Q kc ks pc ls st P := by
  intro H locs lsA lv vst mm r h1 h2 h3 h4 h5 h6
  obtain ⟨j, v, hj, z, rfl, hz⟩ := lrel_at h2 hl
  exact lv_iload C.1 C.2.1 d (lv_at h1 j hj) (K H locs lsA lv _ mm r h1 h2 ⟨⟨z, rfl, hz⟩, h3⟩ h4 h5 h6)
theorem zs_lload_n (C : Bd g own cc nL p s m args meth c) {k : Fin 4} {i : Nat} {x : Int} (d : decode cc pc = .ok (.lload_n k, 1)) (hi : (k : Nat) = i) (hl : ls.lookup i = some (sL x)) (K : Sim p l e R s m args below meth c g nL Q kc ks (pc+1) ls (sL x :: st) P) : Sim p l e R s m args below meth c g nL Q kc ks pc ls st P := by
  intro H locs lsA lv vst mm r h1 h2 h3 h4 h5 h6
  obtain ⟨j, v, hj, z, rfl, hz⟩ := lrel_at h2 hl
  exact lv_lload_n C.1 C.2.1 d hi (lv_at h1 j hj) (K H locs lsA lv _ mm r h1 h2 ⟨⟨z, rfl, hz⟩, h3⟩ h4 h5 h6)
theorem zs_lload (C : Bd g own cc nL p s m args meth c) {i : Nat} {x : Int} (d : decode cc pc = .ok (.lload i, 2)) (hl : ls.lookup i = some (sL x)) (K : Sim p l e R s m args below meth c g nL Q kc ks (pc+2) ls (sL x :: st) P) : Sim p l e R s m args below meth c g nL Q kc ks pc ls st P := by
  intro H locs lsA lv vst mm r h1 h2 h3 h4 h5 h6
  obtain ⟨j, v, hj, z, rfl, hz⟩ := lrel_at h2 hl
  exact lv_lload C.1 C.2.1 d (lv_at h1 j hj) (K H locs lsA lv _ mm r h1 h2 ⟨⟨z, rfl, hz⟩, h3⟩ h4 h5 h6)
theorem zs_aload_n (C : Bd g own cc nL p s m args meth c) {k : Fin 4} {i : Nat} {o : Nat} (d : decode cc pc = .ok (.aload_n k, 1)) (hi : (k : Nat) = i) (hl : ls.lookup i = some (sR o)) (K : Sim p l e R s m args below meth c g nL Q kc ks (pc+1) ls (sR o :: st) P) : Sim p l e R s m args below meth c g nL Q kc ks pc ls st P := by
  intro H locs lsA lv vst mm r h1 h2 h3 h4 h5 h6
  obtain ⟨j, v, hj, hz⟩ := lrel_at h2 hl
  cases hz
  exact lv_aload_n C.1 C.2.1 d hi (lv_at h1 j hj) (K H locs lsA lv _ mm r h1 h2 ⟨rfl, h3⟩ h4 h5 h6)
theorem zs_aload (C : Bd g own cc nL p s m args meth c) {i : Nat} {o : Nat} (d : decode cc pc = .ok (.aload i, 2)) (hl : ls.lookup i = some (sR o)) (K : Sim p l e R s m args below meth c g nL Q kc ks (pc+2) ls (sR o :: st) P) : Sim p l e R s m args below meth c g nL Q kc ks pc ls st P := by
  intro H locs lsA lv vst mm r h1 h2 h3 h4 h5 h6
  obtain ⟨j, v, hj, hz⟩ := lrel_at h2 hl
  cases hz
  exact lv_aload C.1 C.2.1 d (lv_at h1 j hj) (K H locs lsA lv _ mm r h1 h2 ⟨rfl, h3⟩ h4 h5 h6)
theorem zs_aload_nT (C : Bd g own cc nL p s m args meth c) {k : Fin 4} {i : Nat} {o : Nat} (d : decode cc pc = .ok (.aload_n k, 1)) (hi : (k : Nat) = i) (hl : ls.lookup i = some (sT o)) (K : Sim p l e R s m args below meth c g nL Q kc ks (pc+1) ls (sT o :: st) P) : Sim p l e R s m args below meth c g nL Q kc ks pc ls st P := by
  intro H locs lsA lv vst mm r h1 h2 h3 h4 h5 h6
  obtain ⟨j, v, hj, hz⟩ := lrel_at h2 hl
  cases hz
  exact lv_aload_n C.1 C.2.1 d hi (lv_at h1 j hj) (K H locs lsA lv _ mm r h1 h2 ⟨rfl, h3⟩ h4 h5 h6)
theorem zs_aloadT (C : Bd g own cc nL p s m args meth c) {i : Nat} {o : Nat} (d : decode cc pc = .ok (.aload i, 2)) (hl : ls.lookup i = some (sT o)) (K : Sim p l e R s m args below meth c g nL Q kc ks (pc+2) ls (sT o :: st) P) : Sim p l e R s m args below meth c g nL Q kc ks pc ls st P := by
  intro H locs lsA lv vst mm r h1 h2 h3 h4 h5 h6
  obtain ⟨j, v, hj, hz⟩ := lrel_at h2 hl
  cases hz
  exact lv_aload C.1 C.2.1 d (lv_at h1 j hj) (K H locs lsA lv _ mm r h1 h2 ⟨rfl, h3⟩ h4 h5 h6)
theorem zs_aload_nS (C : Bd g own cc nL p s m args meth c) {k : Fin 4} {i : Nat}  (d : decode cc pc = .ok (.aload_n k, 1)) (hi : (k : Nat) = i) (hl : ls.lookup i = some (sS)) (K : Sim p l e R s m args below meth c g nL Q kc ks (pc+1) ls (sS :: st) P) : Sim p l e R s m args below meth c g nL Q kc ks pc ls st P := by
  intro H locs lsA lv vst mm r h1 h2 h3 h4 h5 h6
  obtain ⟨j, v, hj, hz⟩ := lrel_at h2 hl
  cases hz
  exact lv_aload_n C.1 C.2.1 d hi (lv_at h1 j hj) (K H locs lsA lv _ mm r h1 h2 ⟨rfl, h3⟩ h4 h5 h6)
theorem zs_aloadS (C : Bd g own cc nL p s m args meth c) {i : Nat}  (d : decode cc pc = .ok (.aload i, 2)) (hl : ls.lookup i = some (sS)) (K : Sim p l e R s m args below meth c g nL Q kc ks (pc+2) ls (sS :: st) P) : Sim p l e R s m args below meth c g nL Q kc ks pc ls st P := by
  intro H locs lsA lv vst mm r h1 h2 h3 h4 h5 h6
  obtain ⟨j, v, hj, hz⟩ := lrel_at h2 hl
  cases hz
  exact lv_aload C.1 C.2.1 d (lv_at h1 j hj) (K H locs lsA lv _ mm r h1 h2 ⟨rfl, h3⟩ h4 h5 h6)
theorem zs_istore_n (C : Bd g own cc nL p s m args meth c) {k : Fin 4} {i : Nat} {x : Int} {ls' : List (Nat × SV)} (d : decode cc pc = .ok (.istore_n k, 1)) (hi : (k : Nat) = i) (hn : i < nL) (hf : (i, sI x) :: ls.filter (fun q => !(q.1 == i) && !(q.1 + 1 == i && isL q.2)) = ls') (K : Sim p l e R s m args below meth c g nL Q kc ks (pc+1) ls' st P) : Sim p l e R s m args below meth c g nL Q kc ks pc ls (sI x :: st) P := by
  intro H locs lsA lv vst mm r h1 h2 h3 h4 h5 h6
  obtain ⟨_, vst1, rfl, ⟨z, rfl, hz⟩, k1_⟩ := srel_cons h3
  refine lv_istore_n C.1 C.2.1 d hi h1 hn rfl (fun lsA' h1' => K H locs lsA' _ _ mm r h1' ?_ k1_ h4 h5 h6)
  rw [← hf]
  exact ⟨⟨rfl, ⟨z, rfl, hz⟩⟩, lrel_filter (fun a b hab hv => by rw [vrel_cat hv, hab]) h2⟩
theorem zs_lstore_n (C : Bd g own cc nL p s m args meth c) {k : Fin 4} {i : Nat} {x : Int} {ls' : List (Nat × SV)} (d : decode cc pc = .ok (.lstore_n k, 1)) (hi : (k : Nat) = i) (hn : i + 1 < nL) (hf : (i, sL x) :: ls.filter (fun q => !(q.1 == i) && (!(q.1 == i + 1) && !(q.1 + 1 == i && isL q.2))) = ls') (K : Sim p l e R s m args below meth c g nL Q kc ks (pc+1) ls' st P) : Sim p l e R s m args below meth c g nL Q kc ks pc ls (sL x :: st) P := by
  intro H locs lsA lv vst mm r h1 h2 h3 h4 h5 h6
  obtain ⟨_, vst1, rfl, ⟨z, rfl, hz⟩, k1_⟩ := srel_cons h3
  refine lv_lstore_n C.1 C.2.1 d hi h1 hn rfl (fun lsA' h1' => K H locs lsA' _ _ mm r h1' ?_ k1_ h4 h5 h6)
  rw [← hf]
  exact ⟨⟨rfl, ⟨z, rfl, hz⟩⟩, lrel_filter (fun a b hab hv => by rw [vrel_cat hv, hab]) h2⟩
theorem zs_astore_n (C : Bd g own cc nL p s m args meth c) {k : Fin 4} {i : Nat} {x : Nat} {ls' : List (Nat × SV)} (d : decode cc pc = .ok (.astore_n k, 1)) (hi : (k : Nat) = i) (hn : i < nL) (hf : (i, sR x) :: ls.filter (fun q => !(q.1 == i) && !(q.1 + 1 == i && isL q.2)) = ls') (K : Sim p l e R s m args below meth c g nL Q kc ks (pc+1) ls' st P) : Sim p l e R s m args below meth c g nL Q kc ks pc ls (sR x :: st) P := by
  intro H locs lsA lv vst mm r h1 h2 h3 h4 h5 h6
  obtain ⟨_, vst1, rfl, hz, k1_⟩ := srel_cons h3
  cases hz
  refine lv_astore_n C.1 C.2.1 d hi h1 hn rfl (fun lsA' h1' => K H locs lsA' _ _ mm r h1' ?_ k1_ h4 h5 h6)
  rw [← hf]
  exact ⟨⟨rfl, rfl⟩, lrel_filter (fun a b hab hv => by rw [vrel_cat hv, hab]) h2⟩
theorem zs_istore (C : Bd g own cc nL p s m args meth c) {i : Nat} {x : Int} {ls' : List (Nat × SV)} (d : decode cc pc = .ok (.istore i, 2)) (hn : i < nL) (hf : (i, sI x) :: ls.filter (fun q => !(q.1 == i) && !(q.1 + 1 == i && isL q.2)) = ls') (K : Sim p l e R s m args below meth c g nL Q kc ks (pc+2) ls' st P) : Sim p l e R s m args below meth c g nL Q kc ks pc ls (sI x :: st) P := by
  intro H locs lsA lv vst mm r h1 h2 h3 h4 h5 h6
  obtain ⟨_, vst1, rfl, ⟨z, rfl, hz⟩, k1_⟩ := srel_cons h3
  refine lv_istore C.1 C.2.1 d h1 hn rfl (fun lsA' h1' => K H locs lsA' _ _ mm r h1' ?_ k1_ h4 h5 h6)
  rw [← hf]
  exact ⟨⟨rfl, ⟨z, rfl, hz⟩⟩, lrel_filter (fun a b hab hv => by rw [vrel_cat hv, hab]) h2⟩
theorem zs_lstore (C : Bd g own cc nL p s m args meth c) {i : Nat} {x : Int} {ls' : List (Nat × SV)} (d : decode cc pc = .ok (.lstore i, 2)) (hn : i + 1 < nL) (hf : (i, sL x) :: ls.filter (fun q => !(q.1 == i) && (!(q.1 == i + 1) && !(q.1 + 1 == i && isL q.2))) = ls') (K : Sim p l e R s m args below meth c g nL Q kc ks (pc+2) ls' st P) : Sim p l e R s m args below meth c g nL Q kc ks pc ls (sL x :: st) P := by
  intro H locs lsA lv vst mm r h1 h2 h3 h4 h5 h6
  obtain ⟨_, vst1, rfl, ⟨z, rfl, hz⟩, k1_⟩ := srel_cons h3
  refine lv_lstore C.1 C.2.1 d h1 hn rfl (fun lsA' h1' => K H locs lsA' _ _ mm r h1' ?_ k1_ h4 h5 h6)
  rw [← hf]
  exact ⟨⟨rfl, ⟨z, rfl, hz⟩⟩, lrel_filter (fun a b hab hv => by rw [vrel_cat hv, hab]) h2⟩
theorem zs_astore (C : Bd g own cc nL p s m args meth c) {i : Nat} {x : Nat} {ls' : List (Nat × SV)} (d : decode cc pc = .ok (.astore i, 2)) (hn : i < nL) (hf : (i, sR x) :: ls.filter (fun q => !(q.1 == i) && !(q.1 + 1 == i && isL q.2)) = ls') (K : Sim p l e R s m args below meth c g nL Q kc ks (pc+2) ls' st P) : Sim p l e R s m args below meth c g nL Q kc ks pc ls (sR x :: st) P := by
  intro H locs lsA lv vst mm r h1 h2 h3 h4 h5 h6
  obtain ⟨_, vst1, rfl, hz, k1_⟩ := srel_cons h3
  cases hz
  refine lv_astore C.1 C.2.1 d h1 hn rfl (fun lsA' h1' => K H locs lsA' _ _ mm r h1' ?_ k1_ h4 h5 h6)
  rw [← hf]
  exact ⟨⟨rfl, rfl⟩, lrel_filter (fun a b hab hv => by rw [vrel_cat hv, hab]) h2⟩
theorem zs_iconst (C : Bd g own cc nL p s m args meth c) {n : Int} {x : Int} (d : decode cc pc = .ok (.iconst n, 1)) (hx : (Int32.ofInt n).toInt = x) (K : Sim p l e R s m args below meth c g nL Q kc ks (pc+1) ls (sI x :: st) P) : Sim p l e R s m args below meth c g nL Q kc ks pc ls st P := by
  intro H locs lsA lv vst mm r h1 h2 h3 h4 h5 h6
  exact lv_iconst C.1 C.2.1 d rfl (K H locs lsA lv _ mm r h1 h2 ⟨⟨_, rfl, hx⟩, h3⟩ h4 h5 h6)
theorem zs_bipush (C : Bd g own cc nL p s m args meth c) {n : Int} {x : Int} (d : decode cc pc = .ok (.bipush n, 2)) (hx : (Int8.ofInt n).toInt32.toInt = x) (K : Sim p l e R s m args below meth c g nL Q kc ks (pc+2) ls (sI x :: st) P) : Sim p l e R s m args below meth c g nL Q kc ks pc ls st P := by
  intro H locs lsA lv vst mm r h1 h2 h3 h4 h5 h6
  exact lv_bipush C.1 C.2.1 d rfl (K H locs lsA lv _ mm r h1 h2 ⟨⟨_, rfl, hx⟩, h3⟩ h4 h5 h6)
theorem zs_sipush (C : Bd g own cc nL p s m args meth c) {n : Int} {x : Int} (d : decode cc pc = .ok (.sipush n, 3)) (hx : (Int16.ofInt n).toInt32.toInt = x) (K : Sim p l e R s m args below meth c g nL Q kc ks (pc+3) ls (sI x :: st) P) : Sim p l e R s m args below meth c g nL Q kc ks pc ls st P := by
  intro H locs lsA lv vst mm r h1 h2 h3 h4 h5 h6
  exact lv_sipush C.1 C.2.1 d rfl (K H locs lsA lv _ mm r h1 h2 ⟨⟨_, rfl, hx⟩, h3⟩ h4 h5 h6)
theorem zs_lconst (C : Bd g own cc nL p s m args meth c) {n : Fin 2} {x : Int} (d : decode cc pc = .ok (.lconst n, 1)) (hx : (Int64.ofNat (n : Nat)).toInt = x) (K : Sim p l e R s m args below meth c g nL Q kc ks (pc+1) ls (sL x :: st) P) : Sim p l e R s m args below meth c g nL Q kc ks pc ls st P := by
  intro H locs lsA lv vst mm r h1 h2 h3 h4 h5 h6
  exact lv_lconst C.1 C.2.1 d rfl (K H locs lsA lv _ mm r h1 h2 ⟨⟨_, rfl, hx⟩, h3⟩ h4 h5 h6)
theorem zs_ldc (C : Bd g own cc nL p s m args meth c) {i : Nat} {v : Int32} {x : Int} (d : decode cc pc = .ok (.ldc i, 2)) (hw : Cond.constant own i v ∈ LW) (hx : v.toInt = x) (K : Sim p l e R s m args below meth c g nL Q kc ks (pc+2) ls (sI x :: st) P) : Sim p l e R s m args below meth c g nL Q kc ks pc ls st P := by
  intro H locs lsA lv vst mm r h1 h2 h3 h4 h5 h6
  exact lv_ldc C.1 C.2.1 C.2.2.2.1 (C.2.2.2.2.1 _ hw) d (K H locs lsA lv _ mm r h1 h2 ⟨⟨_, rfl, hx⟩, h3⟩ h4 h5 h6)
theorem zs_ldcw (C : Bd g own cc nL p s m args meth c) {i : Nat} {v : Int32} {x : Int} (d : decode cc pc = .ok (.ldc_w i, 3)) (hw : Cond.constant own i v ∈ LW) (hx : v.toInt = x) (K : Sim p l e R s m args below meth c g nL Q kc ks (pc+3) ls (sI x :: st) P) : Sim p l e R s m args below meth c g nL Q kc ks pc ls st P := by
  intro H locs lsA lv vst mm r h1 h2 h3 h4 h5 h6
  exact lv_ldcw C.1 C.2.1 C.2.2.2.1 (C.2.2.2.2.1 _ hw) d (K H locs lsA lv _ mm r h1 h2 ⟨⟨_, rfl, hx⟩, h3⟩ h4 h5 h6)
theorem zs_ldc2 (C : Bd g own cc nL p s m args meth c) {i : Nat} {v : Int64} {x : Int} (d : decode cc pc = .ok (.ldc2_w i, 3)) (hw : Cond.constantLong own i v ∈ LW) (hx : v.toInt = x) (K : Sim p l e R s m args below meth c g nL Q kc ks (pc+3) ls (sL x :: st) P) : Sim p l e R s m args below meth c g nL Q kc ks pc ls st P := by
  intro H locs lsA lv vst mm r h1 h2 h3 h4 h5 h6
  exact lv_ldc2 C.1 C.2.1 C.2.2.2.1 (C.2.2.2.2.1 _ hw) d (K H locs lsA lv _ mm r h1 h2 ⟨⟨_, rfl, hx⟩, h3⟩ h4 h5 h6)
theorem zs_dup (C : Bd g own cc nL p s m args meth c) {a : SV} (ha : isL a = false) (d : decode cc pc = .ok (.dup, 1)) (K : Sim p l e R s m args below meth c g nL Q kc ks (pc+1) ls (a :: a :: st) P) : Sim p l e R s m args below meth c g nL Q kc ks pc ls (a :: st) P := by
  intro H locs lsA lv vst mm r h1 h2 h3 h4 h5 h6
  obtain ⟨v, vst1, rfl, hv, k1_⟩ := srel_cons h3
  exact lv_dup C.1 C.2.1 d (by have := vrel_cat hv; rw [ha] at this; rcases lv_cat v with q | q <;> simp_all) (K H locs lsA lv _ mm r h1 h2 ⟨hv, hv, k1_⟩ h4 h5 h6)
theorem zs_dup2 (C : Bd g own cc nL p s m args meth c) {a b : SV} (ha : isL a = false) (hb : isL b = false) (d : decode cc pc = .ok (.dup2, 1)) (K : Sim p l e R s m args below meth c g nL Q kc ks (pc+1) ls (a :: b :: a :: b :: st) P) : Sim p l e R s m args below meth c g nL Q kc ks pc ls (a :: b :: st) P := by
  intro H locs lsA lv vst mm r h1 h2 h3 h4 h5 h6
  obtain ⟨v, vst1, rfl, hv, k1_⟩ := srel_cons h3
  obtain ⟨w, vst2, rfl, hw, k2_⟩ := srel_cons k1_
  exact lv_dup2_11 C.1 C.2.1 d (by have := vrel_cat hv; rw [ha] at this; rcases lv_cat v with q | q <;> simp_all) (by have := vrel_cat hw; rw [hb] at this; rcases lv_cat w with q | q <;> simp_all) (K H locs lsA lv _ mm r h1 h2 ⟨hv, hw, hv, hw, k2_⟩ h4 h5 h6)
theorem zs_pop (C : Bd g own cc nL p s m args meth c) {a : SV} (ha : isL a = false) (d : decode cc pc = .ok (.pop, 1)) (K : Sim p l e R s m args below meth c g nL Q kc ks (pc+1) ls st P) : Sim p l e R s m args below meth c g nL Q kc ks pc ls (a :: st) P := by
  intro H locs lsA lv vst mm r h1 h2 h3 h4 h5 h6
  obtain ⟨v, vst1, rfl, hv, k1_⟩ := srel_cons h3
  exact lv_pop C.1 C.2.1 d (by have := vrel_cat hv; rw [ha] at this; rcases lv_cat v with q | q <;> simp_all) (K H locs lsA lv _ mm r h1 h2 k1_ h4 h5 h6)
theorem zs_pop2 (C : Bd g own cc nL p s m args meth c) {x : Int} (d : decode cc pc = .ok (.pop2, 1)) (K : Sim p l e R s m args below meth c g nL Q kc ks (pc+1) ls st P) : Sim p l e R s m args below meth c g nL Q kc ks pc ls (sL x :: st) P := by
  intro H locs lsA lv vst mm r h1 h2 h3 h4 h5 h6
  obtain ⟨v, vst1, rfl, hv, k1_⟩ := srel_cons h3
  exact lv_pop2_2 C.1 C.2.1 d (by have := vrel_cat hv; simpa [isL] using this) (K H locs lsA lv _ mm r h1 h2 k1_ h4 h5 h6)
theorem zs_iinc (C : Bd g own cc nL p s m args meth c) {i : Nat} {n : Int} {x y : Int} {ls' : List (Nat × SV)} (d : decode cc pc = .ok (.iinc i n, 3)) (hl : ls.lookup i = some (sI x)) (hy : w32 (x + n) = y) (hn : i < nL) (hf : (i, sI y) :: ls.filter (fun q => !(q.1 == i) && !(q.1 + 1 == i && isL q.2)) = ls') (K : Sim p l e R s m args below meth c g nL Q kc ks (pc+3) ls' st P) : Sim p l e R s m args below meth c g nL Q kc ks pc ls st P := by
  intro H locs lsA lv vst mm r h1 h2 h3 h4 h5 h6
  obtain ⟨j, v, hj, z, rfl, hz⟩ := lrel_at h2 hl
  refine lv_iinc C.1 C.2.1 d h1 hj rfl hn rfl (fun lsA' h1' => K H locs lsA' _ _ mm r h1' ?_ h3 h4 h5 h6)
  rw [← hf]
  refine ⟨⟨rfl, _, rfl, ?_⟩, lrel_filter (fun a b hab hv => by rw [vrel_cat hv, hab]) h2⟩
  rw [Int32.toInt_add, hz, ← hy]
  unfold w32
  have : (Int32.ofInt n).toInt = n.bmod (2 ^ 32) := Int32.toInt_ofInt
  rw [this, Int.add_bmod_bmod]
theorem zs_iadd (C : Bd g own cc nL p s m args meth c) {x y : Int} (d : decode cc pc = .ok (.iadd, 1)) (K : Sim p l e R s m args below meth c g nL Q kc ks (pc+1) ls (sI (w32 (x + y)) :: st) P) : Sim p l e R s m args below meth c g nL Q kc ks pc ls (sI y :: sI x :: st) P := by
  intro H locs lsA lv vst mm r h1 h2 h3 h4 h5 h6
  obtain ⟨_, vst1, rfl, ⟨j, rfl, hj⟩, k1_⟩ := srel_cons h3
  obtain ⟨_, vst2, rfl, ⟨i, rfl, hi⟩, k2_⟩ := srel_cons k1_
  exact lv_iadd C.1 C.2.1 d (K H locs lsA lv _ mm r h1 h2 ⟨⟨_, rfl, by rw [Int32.toInt_add, hi, hj]; rfl⟩, k2_⟩ h4 h5 h6)
theorem zs_isub (C : Bd g own cc nL p s m args meth c) {x y : Int} (d : decode cc pc = .ok (.isub, 1)) (K : Sim p l e R s m args below meth c g nL Q kc ks (pc+1) ls (sI (w32 (x - y)) :: st) P) : Sim p l e R s m args below meth c g nL Q kc ks pc ls (sI y :: sI x :: st) P := by
  intro H locs lsA lv vst mm r h1 h2 h3 h4 h5 h6
  obtain ⟨_, vst1, rfl, ⟨j, rfl, hj⟩, k1_⟩ := srel_cons h3
  obtain ⟨_, vst2, rfl, ⟨i, rfl, hi⟩, k2_⟩ := srel_cons k1_
  exact lv_isub C.1 C.2.1 d (K H locs lsA lv _ mm r h1 h2 ⟨⟨_, rfl, by rw [Int32.toInt_sub, hi, hj]; rfl⟩, k2_⟩ h4 h5 h6)
theorem zs_imul (C : Bd g own cc nL p s m args meth c) {x y : Int} (d : decode cc pc = .ok (.imul, 1)) (K : Sim p l e R s m args below meth c g nL Q kc ks (pc+1) ls (sI (w32 (x * y)) :: st) P) : Sim p l e R s m args below meth c g nL Q kc ks pc ls (sI y :: sI x :: st) P := by
  intro H locs lsA lv vst mm r h1 h2 h3 h4 h5 h6
  obtain ⟨_, vst1, rfl, ⟨j, rfl, hj⟩, k1_⟩ := srel_cons h3
  obtain ⟨_, vst2, rfl, ⟨i, rfl, hi⟩, k2_⟩ := srel_cons k1_
  exact lv_imul C.1 C.2.1 d (K H locs lsA lv _ mm r h1 h2 ⟨⟨_, rfl, by rw [Int32.toInt_mul, hi, hj]; rfl⟩, k2_⟩ h4 h5 h6)
theorem zs_ladd (C : Bd g own cc nL p s m args meth c) {x y : Int} (d : decode cc pc = .ok (.ladd, 1)) (K : Sim p l e R s m args below meth c g nL Q kc ks (pc+1) ls (sL (w64 (x + y)) :: st) P) : Sim p l e R s m args below meth c g nL Q kc ks pc ls (sL y :: sL x :: st) P := by
  intro H locs lsA lv vst mm r h1 h2 h3 h4 h5 h6
  obtain ⟨_, vst1, rfl, ⟨j, rfl, hj⟩, k1_⟩ := srel_cons h3
  obtain ⟨_, vst2, rfl, ⟨i, rfl, hi⟩, k2_⟩ := srel_cons k1_
  exact lv_ladd C.1 C.2.1 d (K H locs lsA lv _ mm r h1 h2 ⟨⟨_, rfl, by rw [Int64.toInt_add, hi, hj]; rfl⟩, k2_⟩ h4 h5 h6)
theorem zs_lsub (C : Bd g own cc nL p s m args meth c) {x y : Int} (d : decode cc pc = .ok (.lsub, 1)) (K : Sim p l e R s m args below meth c g nL Q kc ks (pc+1) ls (sL (w64 (x - y)) :: st) P) : Sim p l e R s m args below meth c g nL Q kc ks pc ls (sL y :: sL x :: st) P := by
  intro H locs lsA lv vst mm r h1 h2 h3 h4 h5 h6
  obtain ⟨_, vst1, rfl, ⟨j, rfl, hj⟩, k1_⟩ := srel_cons h3
  obtain ⟨_, vst2, rfl, ⟨i, rfl, hi⟩, k2_⟩ := srel_cons k1_
  exact lv_lsub C.1 C.2.1 d (K H locs lsA lv _ mm r h1 h2 ⟨⟨_, rfl, by rw [Int64.toInt_sub, hi, hj]; rfl⟩, k2_⟩ h4 h5 h6)
theorem zs_lmul (C : Bd g own cc nL p s m args meth c) {x y : Int} (d : decode cc pc = .ok (.lmul, 1)) (K : Sim p l e R s m args below meth c g nL Q kc ks (pc+1) ls (sL (w64 (x * y)) :: st) P) : Sim p l e R s m args below meth c g nL Q kc ks pc ls (sL y :: sL x :: st) P := by
  intro H locs lsA lv vst mm r h1 h2 h3 h4 h5 h6
  obtain ⟨_, vst1, rfl, ⟨j, rfl, hj⟩, k1_⟩ := srel_cons h3
  obtain ⟨_, vst2, rfl, ⟨i, rfl, hi⟩, k2_⟩ := srel_cons k1_
  exact lv_lmul C.1 C.2.1 d (K H locs lsA lv _ mm r h1 h2 ⟨⟨_, rfl, by rw [Int64.toInt_mul, hi, hj]; rfl⟩, k2_⟩ h4 h5 h6)
theorem zs_iand (C : Bd g own cc nL p s m args meth c) {x y : Int} (d : decode cc pc = .ok (.iand, 1)) (K : Sim p l e R s m args below meth c g nL Q kc ks (pc+1) ls (sI (iand x y) :: st) P) : Sim p l e R s m args below meth c g nL Q kc ks pc ls (sI y :: sI x :: st) P := by
  intro H locs lsA lv vst mm r h1 h2 h3 h4 h5 h6
  obtain ⟨_, vst1, rfl, ⟨j, rfl, hj⟩, k1_⟩ := srel_cons h3
  obtain ⟨_, vst2, rfl, ⟨i, rfl, hi⟩, k2_⟩ := srel_cons k1_
  exact lv_iand C.1 C.2.1 d (K H locs lsA lv _ mm r h1 h2 ⟨⟨_, rfl, by unfold iand; rw [← hi, ← hj, Int32.ofInt_toInt, Int32.ofInt_toInt]⟩, k2_⟩ h4 h5 h6)
theorem zs_ior (C : Bd g own cc nL p s m args meth c) {x y : Int} (d : decode cc pc = .ok (.ior, 1)) (K : Sim p l e R s m args below meth c g nL Q kc ks (pc+1) ls (sI (ior x y) :: st) P) : Sim p l e R s m args below meth c g nL Q kc ks pc ls (sI y :: sI x :: st) P := by
  intro H locs lsA lv vst mm r h1 h2 h3 h4 h5 h6
  obtain ⟨_, vst1, rfl, ⟨j, rfl, hj⟩, k1_⟩ := srel_cons h3
  obtain ⟨_, vst2, rfl, ⟨i, rfl, hi⟩, k2_⟩ := srel_cons k1_
  exact lv_ior C.1 C.2.1 d (K H locs lsA lv _ mm r h1 h2 ⟨⟨_, rfl, by unfold ior; rw [← hi, ← hj, Int32.ofInt_toInt, Int32.ofInt_toInt]⟩, k2_⟩ h4 h5 h6)
theorem zs_ixor (C : Bd g own cc nL p s m args meth c) {x y : Int} (d : decode cc pc = .ok (.ixor, 1)) (K : Sim p l e R s m args below meth c g nL Q kc ks (pc+1) ls (sI (ixor x y) :: st) P) : Sim p l e R s m args below meth c g nL Q kc ks pc ls (sI y :: sI x :: st) P := by
  intro H locs lsA lv vst mm r h1 h2 h3 h4 h5 h6
  obtain ⟨_, vst1, rfl, ⟨j, rfl, hj⟩, k1_⟩ := srel_cons h3
  obtain ⟨_, vst2, rfl, ⟨i, rfl, hi⟩, k2_⟩ := srel_cons k1_
  exact lv_ixor C.1 C.2.1 d (K H locs lsA lv _ mm r h1 h2 ⟨⟨_, rfl, by unfold ixor; rw [← hi, ← hj, Int32.ofInt_toInt, Int32.ofInt_toInt]⟩, k2_⟩ h4 h5 h6)
theorem zs_ishl (C : Bd g own cc nL p s m args meth c) {x y : Int} (d : decode cc pc = .ok (.ishl, 1)) (K : Sim p l e R s m args below meth c g nL Q kc ks (pc+1) ls (sI (ishl x y) :: st) P) : Sim p l e R s m args below meth c g nL Q kc ks pc ls (sI y :: sI x :: st) P := by
  intro H locs lsA lv vst mm r h1 h2 h3 h4 h5 h6
  obtain ⟨_, vst1, rfl, ⟨j, rfl, hj⟩, k1_⟩ := srel_cons h3
  obtain ⟨_, vst2, rfl, ⟨i, rfl, hi⟩, k2_⟩ := srel_cons k1_
  exact lv_ishl C.1 C.2.1 d (K H locs lsA lv _ mm r h1 h2 ⟨⟨_, rfl, by unfold ishl; rw [← hi, ← hj, Int32.ofInt_toInt, Int32.ofInt_toInt]⟩, k2_⟩ h4 h5 h6)
theorem zs_ishr (C : Bd g own cc nL p s m args meth c) {x y : Int} (d : decode cc pc = .ok (.ishr, 1)) (K : Sim p l e R s m args below meth c g nL Q kc ks (pc+1) ls (sI (ishr x y) :: st) P) : Sim p l e R s m args below meth c g nL Q kc ks pc ls (sI y :: sI x :: st) P := by
  intro H locs lsA lv vst mm r h1 h2 h3 h4 h5 h6
  obtain ⟨_, vst1, rfl, ⟨j, rfl, hj⟩, k1_⟩ := srel_cons h3
  obtain ⟨_, vst2, rfl, ⟨i, rfl, hi⟩, k2_⟩ := srel_cons k1_
  exact lv_ishr C.1 C.2.1 d (K H locs lsA lv _ mm r h1 h2 ⟨⟨_, rfl, by unfold ishr; rw [← hi, ← hj, Int32.ofInt_toInt, Int32.ofInt_toInt]⟩, k2_⟩ h4 h5 h6)
theorem zs_iushr (C : Bd g own cc nL p s m args meth c) {x y : Int} (d : decode cc pc = .ok (.iushr, 1)) (K : Sim p l e R s m args below meth c g nL Q kc ks (pc+1) ls (sI (iushr x y) :: st) P) : Sim p l e R s m args below meth c g nL Q kc ks pc ls (sI y :: sI x :: st) P := by
  intro H locs lsA lv vst mm r h1 h2 h3 h4 h5 h6
  obtain ⟨_, vst1, rfl, ⟨j, rfl, hj⟩, k1_⟩ := srel_cons h3
  obtain ⟨_, vst2, rfl, ⟨i, rfl, hi⟩, k2_⟩ := srel_cons k1_
  exact lv_iushr C.1 C.2.1 d rfl (K H locs lsA lv _ mm r h1 h2 ⟨⟨_, rfl, by unfold iushr; rw [← hi, ← hj, Int32.ofInt_toInt, Int32.ofInt_toInt]⟩, k2_⟩ h4 h5 h6)
theorem zs_land (C : Bd g own cc nL p s m args meth c) {x y : Int} (d : decode cc pc = .ok (.land, 1)) (K : Sim p l e R s m args below meth c g nL Q kc ks (pc+1) ls (sL (land x y) :: st) P) : Sim p l e R s m args below meth c g nL Q kc ks pc ls (sL y :: sL x :: st) P := by
  intro H locs lsA lv vst mm r h1 h2 h3 h4 h5 h6
  obtain ⟨_, vst1, rfl, ⟨j, rfl, hj⟩, k1_⟩ := srel_cons h3
  obtain ⟨_, vst2, rfl, ⟨i, rfl, hi⟩, k2_⟩ := srel_cons k1_
  exact lv_land C.1 C.2.1 d (K H locs lsA lv _ mm r h1 h2 ⟨⟨_, rfl, by unfold land; rw [← hi, ← hj, Int64.ofInt_toInt, Int64.ofInt_toInt]⟩, k2_⟩ h4 h5 h6)
theorem zs_lor (C : Bd g own cc nL p s m args meth c) {x y : Int} (d : decode cc pc = .ok (.lor, 1)) (K : Sim p l e R s m args below meth c g nL Q kc ks (pc+1) ls (sL (lor x y) :: st) P) : Sim p l e R s m args below meth c g nL Q kc ks pc ls (sL y :: sL x :: st) P := by
  intro H locs lsA lv vst mm r h1 h2 h3 h4 h5 h6
  obtain ⟨_, vst1, rfl, ⟨j, rfl, hj⟩, k1_⟩ := srel_cons h3
  obtain ⟨_, vst2, rfl, ⟨i, rfl, hi⟩, k2_⟩ := srel_cons k1_
  exact lv_lor C.1 C.2.1 d (K H locs lsA lv _ mm r h1 h2 ⟨⟨_, rfl, by unfold lor; rw [← hi, ← hj, Int64.ofInt_toInt, Int64.ofInt_toInt]⟩, k2_⟩ h4 h5 h6)
theorem zs_lshl (C : Bd g own cc nL p s m args meth c) {x y : Int} (d : decode cc pc = .ok (.lshl, 1)) (K : Sim p l e R s m args below meth c g nL Q kc ks (pc+1) ls (sL (lshl x y) :: st) P) : Sim p l e R s m args below meth c g nL Q kc ks pc ls (sI y :: sL x :: st) P := by
  intro H locs lsA lv vst mm r h1 h2 h3 h4 h5 h6
  obtain ⟨_, vst1, rfl, ⟨j, rfl, hj⟩, k1_⟩ := srel_cons h3
  obtain ⟨_, vst2, rfl, ⟨i, rfl, hi⟩, k2_⟩ := srel_cons k1_
  exact lv_lshl C.1 C.2.1 d rfl (K H locs lsA lv _ mm r h1 h2 ⟨⟨_, rfl, by unfold lshl; rw [← hi, ← hj, Int64.ofInt_toInt, Int32.ofInt_toInt]⟩, k2_⟩ h4 h5 h6)
theorem zs_lshr (C : Bd g own cc nL p s m args meth c) {x y : Int} (d : decode cc pc = .ok (.lshr, 1)) (K : Sim p l e R s m args below meth c g nL Q kc ks (pc+1) ls (sL (lshr x y) :: st) P) : Sim p l e R s m args below meth c g nL Q kc ks pc ls (sI y :: sL x :: st) P := by
  intro H locs lsA lv vst mm r h1 h2 h3 h4 h5 h6
  obtain ⟨_, vst1, rfl, ⟨j, rfl, hj⟩, k1_⟩ := srel_cons h3
  obtain ⟨_, vst2, rfl, ⟨i, rfl, hi⟩, k2_⟩ := srel_cons k1_
  exact lv_lshr C.1 C.2.1 d rfl (K H locs lsA lv _ mm r h1 h2 ⟨⟨_, rfl, by unfold lshr; rw [← hi, ← hj, Int64.ofInt_toInt, Int32.ofInt_toInt]⟩, k2_⟩ h4 h5 h6)
theorem zs_idiv (C : Bd g own cc nL p s m args meth c) {x y : Int} (hy : 0 < y) (d : decode cc pc = .ok (.idiv, 1)) (K : Sim p l e R s m args below meth c g nL Q kc ks (pc+1) ls (sI (Int.tdiv x y) :: st) P) : Sim p l e R s m args below meth c g nL Q kc ks pc ls (sI y :: sI x :: st) P := by
  intro H locs lsA lv vst mm r h1 h2 h3 h4 h5 h6
  obtain ⟨_, vst1, rfl, ⟨j, rfl, hj⟩, k1_⟩ := srel_cons h3
  obtain ⟨_, vst2, rfl, ⟨i, rfl, hi⟩, k2_⟩ := srel_cons k1_
  exact lv_idiv C.1 C.2.1 d (zs_ne32 hj hy) (K H locs lsA lv _ mm r h1 h2 ⟨⟨_, rfl, by exact zs_div32 hi hj hy⟩, k2_⟩ h4 h5 h6)
theorem zs_irem (C : Bd g own cc nL p s m args meth c) {x y : Int} (hy : 0 < y) (d : decode cc pc = .ok (.irem, 1)) (K : Sim p l e R s m args below meth c g nL Q kc ks (pc+1) ls (sI (Int.tmod x y) :: st) P) : Sim p l e R s m args below meth c g nL Q kc ks pc ls (sI y :: sI x :: st) P := by
  intro H locs lsA lv vst mm r h1 h2 h3 h4 h5 h6
  obtain ⟨_, vst1, rfl, ⟨j, rfl, hj⟩, k1_⟩ := srel_cons h3
  obtain ⟨_, vst2, rfl, ⟨i, rfl, hi⟩, k2_⟩ := srel_cons k1_
  exact lv_irem C.1 C.2.1 d (zs_ne32 hj hy) (K H locs lsA lv _ mm r h1 h2 ⟨⟨_, rfl, by exact zs_rem32 hi hj hy⟩, k2_⟩ h4 h5 h6)
theorem zs_ldiv (C : Bd g own cc nL p s m args meth c) {x y : Int} (hy : 0 < y) (d : decode cc pc = .ok (.ldiv, 1)) (K : Sim p l e R s m args below meth c g nL Q kc ks (pc+1) ls (sL (Int.tdiv x y) :: st) P) : Sim p l e R s m args below meth c g nL Q kc ks pc ls (sL y :: sL x :: st) P := by
  intro H locs lsA lv vst mm r h1 h2 h3 h4 h5 h6
  obtain ⟨_, vst1, rfl, ⟨j, rfl, hj⟩, k1_⟩ := srel_cons h3
  obtain ⟨_, vst2, rfl, ⟨i, rfl, hi⟩, k2_⟩ := srel_cons k1_
  exact lv_ldiv C.1 C.2.1 d (zs_ne64 hj hy) (K H locs lsA lv _ mm r h1 h2 ⟨⟨_, rfl, by exact zs_div64 hi hj hy⟩, k2_⟩ h4 h5 h6)
theorem zs_lrem (C : Bd g own cc nL p s m args meth c) {x y : Int} (hy : 0 < y) (d : decode cc pc = .ok (.lrem, 1)) (K : Sim p l e R s m args below meth c g nL Q kc ks (pc+1) ls (sL (Int.tmod x y) :: st) P) : Sim p l e R s m args below meth c g nL Q kc ks pc ls (sL y :: sL x :: st) P := by
  intro H locs lsA lv vst mm r h1 h2 h3 h4 h5 h6
  obtain ⟨_, vst1, rfl, ⟨j, rfl, hj⟩, k1_⟩ := srel_cons h3
  obtain ⟨_, vst2, rfl, ⟨i, rfl, hi⟩, k2_⟩ := srel_cons k1_
  exact lv_lrem C.1 C.2.1 d (zs_ne64 hj hy) (K H locs lsA lv _ mm r h1 h2 ⟨⟨_, rfl, by exact zs_rem64 hi hj hy⟩, k2_⟩ h4 h5 h6)
theorem zs_ineg (C : Bd g own cc nL p s m args meth c) {x : Int} (d : decode cc pc = .ok (.ineg, 1)) (K : Sim p l e R s m args below meth c g nL Q kc ks (pc+1) ls (sI (w32 (-x)) :: st) P) : Sim p l e R s m args below meth c g nL Q kc ks pc ls (sI x :: st) P := by
  intro H locs lsA lv vst mm r h1 h2 h3 h4 h5 h6
  obtain ⟨_, vst1, rfl, ⟨i, rfl, hi⟩, k1_⟩ := srel_cons h3
  exact lv_ineg C.1 C.2.1 d (K H locs lsA lv _ mm r h1 h2 ⟨⟨-i, rfl, by rw [Int32.toInt_neg, hi]; rfl⟩, k1_⟩ h4 h5 h6)
theorem zs_i2l (C : Bd g own cc nL p s m args meth c) {x : Int} (d : decode cc pc = .ok (.i2l, 1)) (K : Sim p l e R s m args below meth c g nL Q kc ks (pc+1) ls (sL x :: st) P) : Sim p l e R s m args below meth c g nL Q kc ks pc ls (sI x :: st) P := by
  intro H locs lsA lv vst mm r h1 h2 h3 h4 h5 h6
  obtain ⟨_, vst1, rfl, ⟨i, rfl, hi⟩, k1_⟩ := srel_cons h3
  exact lv_i2l C.1 C.2.1 d rfl (K H locs lsA lv _ mm r h1 h2 ⟨⟨_, rfl, by rw [Int32.toInt_toInt64, hi]⟩, k1_⟩ h4 h5 h6)
theorem zs_l2i (C : Bd g own cc nL p s m args meth c) {x : Int} (d : decode cc pc = .ok (.l2i, 1)) (K : Sim p l e R s m args below meth c g nL Q kc ks (pc+1) ls (sI (w32 x) :: st) P) : Sim p l e R s m args below meth c g nL Q kc ks pc ls (sL x :: st) P := by
  intro H locs lsA lv vst mm r h1 h2 h3 h4 h5 h6
  obtain ⟨_, vst1, rfl, ⟨i, rfl, hi⟩, k1_⟩ := srel_cons h3
  exact lv_l2i C.1 C.2.1 d rfl (K H locs lsA lv _ mm r h1 h2 ⟨⟨_, rfl, by rw [Int64.toInt_toInt32, hi]; rfl⟩, k1_⟩ h4 h5 h6)
theorem zs_i2b (C : Bd g own cc nL p s m args meth c) {x : Int} (d : decode cc pc = .ok (.i2b, 1)) (K : Sim p l e R s m args below meth c g nL Q kc ks (pc+1) ls (sI (w8 x) :: st) P) : Sim p l e R s m args below meth c g nL Q kc ks pc ls (sI x :: st) P := by
  intro H locs lsA lv vst mm r h1 h2 h3 h4 h5 h6
  obtain ⟨_, vst1, rfl, ⟨i, rfl, hi⟩, k1_⟩ := srel_cons h3
  exact lv_i2b C.1 C.2.1 d rfl (K H locs lsA lv _ mm r h1 h2 ⟨⟨_, rfl, by rw [Int8.toInt_toInt32, Int32.toInt_toInt8, hi]; rfl⟩, k1_⟩ h4 h5 h6)
theorem zs_i2s (C : Bd g own cc nL p s m args meth c) {x : Int} (d : decode cc pc = .ok (.i2s, 1)) (K : Sim p l e R s m args below meth c g nL Q kc ks (pc+1) ls (sI (w16 x) :: st) P) : Sim p l e R s m args below meth c g nL Q kc ks pc ls (sI x :: st) P := by
  intro H locs lsA lv vst mm r h1 h2 h3 h4 h5 h6
  obtain ⟨_, vst1, rfl, ⟨i, rfl, hi⟩, k1_⟩ := srel_cons h3
  exact lv_i2s C.1 C.2.1 d rfl (K H locs lsA lv _ mm r h1 h2 ⟨⟨_, rfl, by rw [Int16.toInt_toInt32, Int32.toInt_toInt16, hi]; rfl⟩, k1_⟩ h4 h5 h6)
theorem zs_i2c (C : Bd g own cc nL p s m args meth c) {x : Int} (d : decode cc pc = .ok (.i2c, 1)) (K : Sim p l e R s m args below meth c g nL Q kc ks (pc+1) ls (sI (x % 65536) :: st) P) : Sim p l e R s m args below meth c g nL Q kc ks pc ls (sI x :: st) P := by
  intro H locs lsA lv vst mm r h1 h2 h3 h4 h5 h6
  obtain ⟨_, vst1, rfl, ⟨i, rfl, hi⟩, k1_⟩ := srel_cons h3
  exact lv_i2c C.1 C.2.1 d rfl (K H locs lsA lv _ mm r h1 h2 ⟨⟨_, rfl, by rw [zs_i2c_val, hi]⟩, k1_⟩ h4 h5 h6)
theorem zs_if_eq (C : Bd g own cc nL p s m args meth c) {x : Int} {off : Int} {tgt : Nat} {hdc : Decidable (x = 0)} {P1 P2 : Mem → Option ρ} (d : decode cc pc = .ok (.ifCond .eq off, 3)) (ht : (pc : Int) + off = (tgt : Int)) (K1 : Sim p l e R s m args below meth c g nL Q kc ks tgt ls st P1) (K2 : Sim p l e R s m args below meth c g nL Q kc ks (pc+3) ls st P2) : Sim p l e R s m args below meth c g nL Q kc ks pc ls (sI x :: st) (fun mm => @ite _ (x = 0) hdc (P1 mm) (P2 mm)) := by
  intro H locs lsA lv vst mm r h1 h2 h3 h4 h5 h6
  obtain ⟨_, vst1, rfl, ⟨i, rfl, hi⟩, k1_⟩ := srel_cons h3
  refine lv_if_eq C.1 C.2.1 d ht (fun hc => K1 H locs lsA lv _ mm r h1 h2 k1_ h4 h5 ?_) (fun hc => K2 H locs lsA lv _ mm r h1 h2 k1_ h4 h5 ?_)
  · replace h6 : @ite _ (x = 0) hdc (P1 mm) (P2 mm) = some r := h6
    rw [if_pos ((zs_eq0 hi).mp hc)] at h6; exact h6
  · replace h6 : @ite _ (x = 0) hdc (P1 mm) (P2 mm) = some r := h6
    rw [if_neg (fun q => hc ((zs_eq0 hi).mpr q))] at h6; exact h6
theorem zs_icmp_eq (C : Bd g own cc nL p s m args meth c) {x y : Int} {off : Int} {tgt : Nat} {hdc : Decidable (x = y)} {P1 P2 : Mem → Option ρ} (d : decode cc pc = .ok (.if_icmp .eq off, 3)) (ht : (pc : Int) + off = (tgt : Int)) (K1 : Sim p l e R s m args below meth c g nL Q kc ks tgt ls st P1) (K2 : Sim p l e R s m args below meth c g nL Q kc ks (pc+3) ls st P2) : Sim p l e R s m args below meth c g nL Q kc ks pc ls (sI y :: sI x :: st) (fun mm => @ite _ (x = y) hdc (P1 mm) (P2 mm)) := by
  intro H locs lsA lv vst mm r h1 h2 h3 h4 h5 h6
  obtain ⟨_, vst1, rfl, ⟨j, rfl, hj⟩, k1_⟩ := srel_cons h3
  obtain ⟨_, vst2, rfl, ⟨i, rfl, hi⟩, k2_⟩ := srel_cons k1_
  refine lv_icmp_eq C.1 C.2.1 d ht (fun hc => K1 H locs lsA lv _ mm r h1 h2 k2_ h4 h5 ?_) (fun hc => K2 H locs lsA lv _ mm r h1 h2 k2_ h4 h5 ?_)
  · replace h6 : @ite _ (x = y) hdc (P1 mm) (P2 mm) = some r := h6
    rw [if_pos ((zs_eq32 hi hj).mp hc)] at h6; exact h6
  · replace h6 : @ite _ (x = y) hdc (P1 mm) (P2 mm) = some r := h6
    rw [if_neg (fun q => hc ((zs_eq32 hi hj).mpr q))] at h6; exact h6
theorem zs_if_ne (C : Bd g own cc nL p s m args meth c) {x : Int} {off : Int} {tgt : Nat} {hdc : Decidable (¬ x = 0)} {P1 P2 : Mem → Option ρ} (d : decode cc pc = .ok (.ifCond .ne off, 3)) (ht : (pc : Int) + off = (tgt : Int)) (K1 : Sim p l e R s m args below meth c g nL Q kc ks tgt ls st P1) (K2 : Sim p l e R s m args below meth c g nL Q kc ks (pc+3) ls st P2) : Sim p l e R s m args below meth c g nL Q kc ks pc ls (sI x :: st) (fun mm => @ite _ (¬ x = 0) hdc (P1 mm) (P2 mm)) := by
  intro H locs lsA lv vst mm r h1 h2 h3 h4 h5 h6
  obtain ⟨_, vst1, rfl, ⟨i, rfl, hi⟩, k1_⟩ := srel_cons h3
  refine lv_if_ne C.1 C.2.1 d ht (fun hc => K1 H locs lsA lv _ mm r h1 h2 k1_ h4 h5 ?_) (fun hc => K2 H locs lsA lv _ mm r h1 h2 k1_ h4 h5 ?_)
  · replace h6 : @ite _ (¬ x = 0) hdc (P1 mm) (P2 mm) = some r := h6
    rw [if_pos ((zs_ne0 hi).mp hc)] at h6; exact h6
  · replace h6 : @ite _ (¬ x = 0) hdc (P1 mm) (P2 mm) = some r := h6
    rw [if_neg (fun q => q ((zs_eq0 hi).mp hc))] at h6; exact h6
theorem zs_icmp_ne (C : Bd g own cc nL p s m args meth c) {x y : Int} {off : Int} {tgt : Nat} {hdc : Decidable (¬ x = y)} {P1 P2 : Mem → Option ρ} (d : decode cc pc = .ok (.if_icmp .ne off, 3)) (ht : (pc : Int) + off = (tgt : Int)) (K1 : Sim p l e R s m args below meth c g nL Q kc ks tgt ls st P1) (K2 : Sim p l e R s m args below meth c g nL Q kc ks (pc+3) ls st P2) : Sim p l e R s m args below meth c g nL Q kc ks pc ls (sI y :: sI x :: st) (fun mm => @ite _ (¬ x = y) hdc (P1 mm) (P2 mm)) := by
  intro H locs lsA lv vst mm r h1 h2 h3 h4 h5 h6
  obtain ⟨_, vst1, rfl, ⟨j, rfl, hj⟩, k1_⟩ := srel_cons h3
  obtain ⟨_, vst2, rfl, ⟨i, rfl, hi⟩, k2_⟩ := srel_cons k1_
  refine lv_icmp_ne C.1 C.2.1 d ht (fun hc => K1 H locs lsA lv _ mm r h1 h2 k2_ h4 h5 ?_) (fun hc => K2 H locs lsA lv _ mm r h1 h2 k2_ h4 h5 ?_)
  · replace h6 : @ite _ (¬ x = y) hdc (P1 mm) (P2 mm) = some r := h6
    rw [if_pos ((not_congr (zs_eq32 hi hj)).mp hc)] at h6; exact h6
  · replace h6 : @ite _ (¬ x = y) hdc (P1 mm) (P2 mm) = some r := h6
    rw [if_neg (fun q => q ((zs_eq32 hi hj).mp hc))] at h6; exact h6
theorem zs_if_lt (C : Bd g own cc nL p s m args meth c) {x : Int} {off : Int} {tgt : Nat} {hdc : Decidable (x < 0)} {P1 P2 : Mem → Option ρ} (d : decode cc pc = .ok (.ifCond .lt off, 3)) (ht : (pc : Int) + off = (tgt : Int)) (K1 : Sim p l e R s m args below meth c g nL Q kc ks tgt ls st P1) (K2 : Sim p l e R s m args below meth c g nL Q kc ks (pc+3) ls st P2) : Sim p l e R s m args below meth c g nL Q kc ks pc ls (sI x :: st) (fun mm => @ite _ (x < 0) hdc (P1 mm) (P2 mm)) := by
  intro H locs lsA lv vst mm r h1 h2 h3 h4 h5 h6
  obtain ⟨_, vst1, rfl, ⟨i, rfl, hi⟩, k1_⟩ := srel_cons h3
  refine lv_if_lt C.1 C.2.1 d ht (fun hc => K1 H locs lsA lv _ mm r h1 h2 k1_ h4 h5 ?_) (fun hc => K2 H locs lsA lv _ mm r h1 h2 k1_ h4 h5 ?_)
  · replace h6 : @ite _ (x < 0) hdc (P1 mm) (P2 mm) = some r := h6
    rw [if_pos ((zs_lt0 hi).mp hc)] at h6; exact h6
  · replace h6 : @ite _ (x < 0) hdc (P1 mm) (P2 mm) = some r := h6
    rw [if_neg (fun q => hc ((zs_lt0 hi).mpr q))] at h6; exact h6
theorem zs_icmp_lt (C : Bd g own cc nL p s m args meth c) {x y : Int} {off : Int} {tgt : Nat} {hdc : Decidable (x < y)} {P1 P2 : Mem → Option ρ} (d : decode cc pc = .ok (.if_icmp .lt off, 3)) (ht : (pc : Int) + off = (tgt : Int)) (K1 : Sim p l e R s m args below meth c g nL Q kc ks tgt ls st P1) (K2 : Sim p l e R s m args below meth c g nL Q kc ks (pc+3) ls st P2) : Sim p l e R s m args below meth c g nL Q kc ks pc ls (sI y :: sI x :: st) (fun mm => @ite _ (x < y) hdc (P1 mm) (P2 mm)) := by
  intro H locs lsA lv vst mm r h1 h2 h3 h4 h5 h6
  obtain ⟨_, vst1, rfl, ⟨j, rfl, hj⟩, k1_⟩ := srel_cons h3
  obtain ⟨_, vst2, rfl, ⟨i, rfl, hi⟩, k2_⟩ := srel_cons k1_
  refine lv_icmp_lt C.1 C.2.1 d ht (fun hc => K1 H locs lsA lv _ mm r h1 h2 k2_ h4 h5 ?_) (fun hc => K2 H locs lsA lv _ mm r h1 h2 k2_ h4 h5 ?_)
  · replace h6 : @ite _ (x < y) hdc (P1 mm) (P2 mm) = some r := h6
    rw [if_pos ((zs_lt32 hi hj).mp hc)] at h6; exact h6
  · replace h6 : @ite _ (x < y) hdc (P1 mm) (P2 mm) = some r := h6
    rw [if_neg (fun q => hc ((zs_lt32 hi hj).mpr q))] at h6; exact h6
theorem zs_if_ge (C : Bd g own cc nL p s m args meth c) {x : Int} {off : Int} {tgt : Nat} {hdc : Decidable (0 ≤ x)} {P1 P2 : Mem → Option ρ} (d : decode cc pc = .ok (.ifCond .ge off, 3)) (ht : (pc : Int) + off = (tgt : Int)) (K1 : Sim p l e R s m args below meth c g nL Q kc ks tgt ls st P1) (K2 : Sim p l e R s m args below meth c g nL Q kc ks (pc+3) ls st P2) : Sim p l e R s m args below meth c g nL Q kc ks pc ls (sI x :: st) (fun mm => @ite _ (0 ≤ x) hdc (P1 mm) (P2 mm)) := by
  intro H locs lsA lv vst mm r h1 h2 h3 h4 h5 h6
  obtain ⟨_, vst1, rfl, ⟨i, rfl, hi⟩, k1_⟩ := srel_cons h3
  refine lv_if_ge C.1 C.2.1 d ht (fun hc => K1 H locs lsA lv _ mm r h1 h2 k1_ h4 h5 ?_) (fun hc => K2 H locs lsA lv _ mm r h1 h2 k1_ h4 h5 ?_)
  · replace h6 : @ite _ (0 ≤ x) hdc (P1 mm) (P2 mm) = some r := h6
    rw [if_pos ((zs_ge0 hi).mp hc)] at h6; exact h6
  · replace h6 : @ite _ (0 ≤ x) hdc (P1 mm) (P2 mm) = some r := h6
    rw [if_neg (fun q => hc ((zs_ge0 hi).mpr q))] at h6; exact h6
theorem zs_icmp_ge (C : Bd g own cc nL p s m args meth c) {x y : Int} {off : Int} {tgt : Nat} {hdc : Decidable (y ≤ x)} {P1 P2 : Mem → Option ρ} (d : decode cc pc = .ok (.if_icmp .ge off, 3)) (ht : (pc : Int) + off = (tgt : Int)) (K1 : Sim p l e R s m args below meth c g nL Q kc ks tgt ls st P1) (K2 : Sim p l e R s m args below meth c g nL Q kc ks (pc+3) ls st P2) : Sim p l e R s m args below meth c g nL Q kc ks pc ls (sI y :: sI x :: st) (fun mm => @ite _ (y ≤ x) hdc (P1 mm) (P2 mm)) := by
  intro H locs lsA lv vst mm r h1 h2 h3 h4 h5 h6
  obtain ⟨_, vst1, rfl, ⟨j, rfl, hj⟩, k1_⟩ := srel_cons h3
  obtain ⟨_, vst2, rfl, ⟨i, rfl, hi⟩, k2_⟩ := srel_cons k1_
  refine lv_icmp_ge C.1 C.2.1 d ht (fun hc => K1 H locs lsA lv _ mm r h1 h2 k2_ h4 h5 ?_) (fun hc => K2 H locs lsA lv _ mm r h1 h2 k2_ h4 h5 ?_)
  · replace h6 : @ite _ (y ≤ x) hdc (P1 mm) (P2 mm) = some r := h6
    rw [if_pos ((zs_le32 hj hi).mp hc)] at h6; exact h6
  · replace h6 : @ite _ (y ≤ x) hdc (P1 mm) (P2 mm) = some r := h6
    rw [if_neg (fun q => hc ((zs_le32 hj hi).mpr q))] at h6; exact h6
theorem zs_if_gt (C : Bd g own cc nL p s m args meth c) {x : Int} {off : Int} {tgt : Nat} {hdc : Decidable (0 < x)} {P1 P2 : Mem → Option ρ} (d : decode cc pc = .ok (.ifCond .gt off, 3)) (ht : (pc : Int) + off = (tgt : Int)) (K1 : Sim p l e R s m args below meth c g nL Q kc ks tgt ls st P1) (K2 : Sim p l e R s m args below meth c g nL Q kc ks (pc+3) ls st P2) : Sim p l e R s m args below meth c g nL Q kc ks pc ls (sI x :: st) (fun mm => @ite _ (0 < x) hdc (P1 mm) (P2 mm)) := by
  intro H locs lsA lv vst mm r h1 h2 h3 h4 h5 h6
  obtain ⟨_, vst1, rfl, ⟨i, rfl, hi⟩, k1_⟩ := srel_cons h3
  refine lv_if_gt C.1 C.2.1 d ht (fun hc => K1 H locs lsA lv _ mm r h1 h2 k1_ h4 h5 ?_) (fun hc => K2 H locs lsA lv _ mm r h1 h2 k1_ h4 h5 ?_)
  · replace h6 : @ite _ (0 < x) hdc (P1 mm) (P2 mm) = some r := h6
    rw [if_pos ((zs_gt0 hi).mp hc)] at h6; exact h6
  · replace h6 : @ite _ (0 < x) hdc (P1 mm) (P2 mm) = some r := h6
    rw [if_neg (fun q => hc ((zs_gt0 hi).mpr q))] at h6; exact h6
theorem zs_icmp_gt (C : Bd g own cc nL p s m args meth c) {x y : Int} {off : Int} {tgt : Nat} {hdc : Decidable (y < x)} {P1 P2 : Mem → Option ρ} (d : decode cc pc = .ok (.if_icmp .gt off, 3)) (ht : (pc : Int) + off = (tgt : Int)) (K1 : Sim p l e R s m args below meth c g nL Q kc ks tgt ls st P1) (K2 : Sim p l e R s m args below meth c g nL Q kc ks (pc+3) ls st P2) : Sim p l e R s m args below meth c g nL Q kc ks pc ls (sI y :: sI x :: st) (fun mm => @ite _ (y < x) hdc (P1 mm) (P2 mm)) := by
  intro H locs lsA lv vst mm r h1 h2 h3 h4 h5 h6
  obtain ⟨_, vst1, rfl, ⟨j, rfl, hj⟩, k1_⟩ := srel_cons h3
  obtain ⟨_, vst2, rfl, ⟨i, rfl, hi⟩, k2_⟩ := srel_cons k1_
  refine lv_icmp_gt C.1 C.2.1 d ht (fun hc => K1 H locs lsA lv _ mm r h1 h2 k2_ h4 h5 ?_) (fun hc => K2 H locs lsA lv _ mm r h1 h2 k2_ h4 h5 ?_)
  · replace h6 : @ite _ (y < x) hdc (P1 mm) (P2 mm) = some r := h6
    rw [if_pos ((zs_lt32 hj hi).mp hc)] at h6; exact h6
  · replace h6 : @ite _ (y < x) hdc (P1 mm) (P2 mm) = some r := h6
    rw [if_neg (fun q => hc ((zs_lt32 hj hi).mpr q))] at h6; exact h6
theorem zs_if_le (C : Bd g own cc nL p s m args meth c) {x : Int} {off : Int} {tgt : Nat} {hdc : Decidable (x ≤ 0)} {P1 P2 : Mem → Option ρ} (d : decode cc pc = .ok (.ifCond .le off, 3)) (ht : (pc : Int) + off = (tgt : Int)) (K1 : Sim p l e R s m args below meth c g nL Q kc ks tgt ls st P1) (K2 : Sim p l e R s m args below meth c g nL Q kc ks (pc+3) ls st P2) : Sim p l e R s m args below meth c g nL Q kc ks pc ls (sI x :: st) (fun mm => @ite _ (x ≤ 0) hdc (P1 mm) (P2 mm)) := by
  intro H locs lsA lv vst mm r h1 h2 h3 h4 h5 h6
  obtain ⟨_, vst1, rfl, ⟨i, rfl, hi⟩, k1_⟩ := srel_cons h3
  refine lv_if_le C.1 C.2.1 d ht (fun hc => K1 H locs lsA lv _ mm r h1 h2 k1_ h4 h5 ?_) (fun hc => K2 H locs lsA lv _ mm r h1 h2 k1_ h4 h5 ?_)
  · replace h6 : @ite _ (x ≤ 0) hdc (P1 mm) (P2 mm) = some r := h6
    rw [if_pos ((zs_le0 hi).mp hc)] at h6; exact h6
  · replace h6 : @ite _ (x ≤ 0) hdc (P1 mm) (P2 mm) = some r := h6
    rw [if_neg (fun q => hc ((zs_le0 hi).mpr q))] at h6; exact h6
theorem zs_icmp_le (C : Bd g own cc nL p s m args meth c) {x y : Int} {off : Int} {tgt : Nat} {hdc : Decidable (x ≤ y)} {P1 P2 : Mem → Option ρ} (d : decode cc pc = .ok (.if_icmp .le off, 3)) (ht : (pc : Int) + off = (tgt : Int)) (K1 : Sim p l e R s m args below meth c g nL Q kc ks tgt ls st P1) (K2 : Sim p l e R s m args below meth c g nL Q kc ks (pc+3) ls st P2) : Sim p l e R s m args below meth c g nL Q kc ks pc ls (sI y :: sI x :: st) (fun mm => @ite _ (x ≤ y) hdc (P1 mm) (P2 mm)) := by
  intro H locs lsA lv vst mm r h1 h2 h3 h4 h5 h6
  obtain ⟨_, vst1, rfl, ⟨j, rfl, hj⟩, k1_⟩ := srel_cons h3
  obtain ⟨_, vst2, rfl, ⟨i, rfl, hi⟩, k2_⟩ := srel_cons k1_
  refine lv_icmp_le C.1 C.2.1 d ht (fun hc => K1 H locs lsA lv _ mm r h1 h2 k2_ h4 h5 ?_) (fun hc => K2 H locs lsA lv _ mm r h1 h2 k2_ h4 h5 ?_)
  · replace h6 : @ite _ (x ≤ y) hdc (P1 mm) (P2 mm) = some r := h6
    rw [if_pos ((zs_le32 hi hj).mp hc)] at h6; exact h6
  · replace h6 : @ite _ (x ≤ y) hdc (P1 mm) (P2 mm) = some r := h6
    rw [if_neg (fun q => hc ((zs_le32 hi hj).mpr q))] at h6; exact h6
theorem zs_lcmp_eq (C : Bd g own cc nL p s m args meth c) {x y : Int} {off : Int} {tgt : Nat} {hdc : Decidable (x = y)} {P1 P2 : Mem → Option ρ} (d0 : decode cc pc = .ok (.lcmp, 1)) (d : decode cc (pc+1) = .ok (.ifCond .eq off, 3)) (ht : ((pc+1 : Nat) : Int) + off = (tgt : Int)) (K1 : Sim p l e R s m args below meth c g nL Q kc ks tgt ls st P1) (K2 : Sim p l e R s m args below meth c g nL Q kc ks (pc+4) ls st P2) : Sim p l e R s m args below meth c g nL Q kc ks pc ls (sL y :: sL x :: st) (fun mm => @ite _ (x = y) hdc (P1 mm) (P2 mm)) := by
  intro H locs lsA lv vst mm r h1 h2 h3 h4 h5 h6
  obtain ⟨_, vst1, rfl, ⟨j, rfl, hj⟩, k1_⟩ := srel_cons h3
  obtain ⟨_, vst2, rfl, ⟨i, rfl, hi⟩, k2_⟩ := srel_cons k1_
  refine W.lcmp C.1 C.2.1 d0 (lv_if_eq C.1 C.2.1 d ht (fun hc => K1 H locs lsA lv _ mm r h1 h2 k2_ h4 h5 ?_) (fun hc => K2 H locs lsA lv _ mm r h1 h2 k2_ h4 h5 ?_))
  · replace h6 : @ite _ (x = y) hdc (P1 mm) (P2 mm) = some r := h6
    rw [if_pos ((zs_cmp_eq hi hj).mp hc)] at h6; exact h6
  · replace h6 : @ite _ (x = y) hdc (P1 mm) (P2 mm) = some r := h6
    rw [if_neg (fun q => hc ((zs_cmp_eq hi hj).mpr q))] at h6; exact h6
theorem zs_lcmp_ne (C : Bd g own cc nL p s m args meth c) {x y : Int} {off : Int} {tgt : Nat} {hdc : Decidable (¬ x = y)} {P1 P2 : Mem → Option ρ} (d0 : decode cc pc = .ok (.lcmp, 1)) (d : decode cc (pc+1) = .ok (.ifCond .ne off, 3)) (ht : ((pc+1 : Nat) : Int) + off = (tgt : Int)) (K1 : Sim p l e R s m args below meth c g nL Q kc ks tgt ls st P1) (K2 : Sim p l e R s m args below meth c g nL Q kc ks (pc+4) ls st P2) : Sim p l e R s m args below meth c g nL Q kc ks pc ls (sL y :: sL x :: st) (fun mm => @ite _ (¬ x = y) hdc (P1 mm) (P2 mm)) := by
  intro H locs lsA lv vst mm r h1 h2 h3 h4 h5 h6
  obtain ⟨_, vst1, rfl, ⟨j, rfl, hj⟩, k1_⟩ := srel_cons h3
  obtain ⟨_, vst2, rfl, ⟨i, rfl, hi⟩, k2_⟩ := srel_cons k1_
  refine W.lcmp C.1 C.2.1 d0 (lv_if_ne C.1 C.2.1 d ht (fun hc => K1 H locs lsA lv _ mm r h1 h2 k2_ h4 h5 ?_) (fun hc => K2 H locs lsA lv _ mm r h1 h2 k2_ h4 h5 ?_))
  · replace h6 : @ite _ (¬ x = y) hdc (P1 mm) (P2 mm) = some r := h6
    rw [if_pos ((zs_cmp_ne hi hj).mp hc)] at h6; exact h6
  · replace h6 : @ite _ (¬ x = y) hdc (P1 mm) (P2 mm) = some r := h6
    rw [if_neg (fun q => q ((zs_cmp_eq hi hj).mp hc))] at h6; exact h6
theorem zs_lcmp_lt (C : Bd g own cc nL p s m args meth c) {x y : Int} {off : Int} {tgt : Nat} {hdc : Decidable (x < y)} {P1 P2 : Mem → Option ρ} (d0 : decode cc pc = .ok (.lcmp, 1)) (d : decode cc (pc+1) = .ok (.ifCond .lt off, 3)) (ht : ((pc+1 : Nat) : Int) + off = (tgt : Int)) (K1 : Sim p l e R s m args below meth c g nL Q kc ks tgt ls st P1) (K2 : Sim p l e R s m args below meth c g nL Q kc ks (pc+4) ls st P2) : Sim p l e R s m args below meth c g nL Q kc ks pc ls (sL y :: sL x :: st) (fun mm => @ite _ (x < y) hdc (P1 mm) (P2 mm)) := by
  intro H locs lsA lv vst mm r h1 h2 h3 h4 h5 h6
  obtain ⟨_, vst1, rfl, ⟨j, rfl, hj⟩, k1_⟩ := srel_cons h3
  obtain ⟨_, vst2, rfl, ⟨i, rfl, hi⟩, k2_⟩ := srel_cons k1_
  refine W.lcmp C.1 C.2.1 d0 (lv_if_lt C.1 C.2.1 d ht (fun hc => K1 H locs lsA lv _ mm r h1 h2 k2_ h4 h5 ?_) (fun hc => K2 H locs lsA lv _ mm r h1 h2 k2_ h4 h5 ?_))
  · replace h6 : @ite _ (x < y) hdc (P1 mm) (P2 mm) = some r := h6
    rw [if_pos ((zs_cmp_lt hi hj).mp hc)] at h6; exact h6
  · replace h6 : @ite _ (x < y) hdc (P1 mm) (P2 mm) = some r := h6
    rw [if_neg (fun q => hc ((zs_cmp_lt hi hj).mpr q))] at h6; exact h6
theorem zs_lcmp_ge (C : Bd g own cc nL p s m args meth c) {x y : Int} {off : Int} {tgt : Nat} {hdc : Decidable (y ≤ x)} {P1 P2 : Mem → Option ρ} (d0 : decode cc pc = .ok (.lcmp, 1)) (d : decode cc (pc+1) = .ok (.ifCond .ge off, 3)) (ht : ((pc+1 : Nat) : Int) + off = (tgt : Int)) (K1 : Sim p l e R s m args below meth c g nL Q kc ks tgt ls st P1) (K2 : Sim p l e R s m args below meth c g nL Q kc ks (pc+4) ls st P2) : Sim p l e R s m args below meth c g nL Q kc ks pc ls (sL y :: sL x :: st) (fun mm => @ite _ (y ≤ x) hdc (P1 mm) (P2 mm)) := by
  intro H locs lsA lv vst mm r h1 h2 h3 h4 h5 h6
  obtain ⟨_, vst1, rfl, ⟨j, rfl, hj⟩, k1_⟩ := srel_cons h3
  obtain ⟨_, vst2, rfl, ⟨i, rfl, hi⟩, k2_⟩ := srel_cons k1_
  refine W.lcmp C.1 C.2.1 d0 (lv_if_ge C.1 C.2.1 d ht (fun hc => K1 H locs lsA lv _ mm r h1 h2 k2_ h4 h5 ?_) (fun hc => K2 H locs lsA lv _ mm r h1 h2 k2_ h4 h5 ?_))
  · replace h6 : @ite _ (y ≤ x) hdc (P1 mm) (P2 mm) = some r := h6
    rw [if_pos ((zs_cmp_ge hi hj).mp hc)] at h6; exact h6
  · replace h6 : @ite _ (y ≤ x) hdc (P1 mm) (P2 mm) = some r := h6
    rw [if_neg (fun q => hc ((zs_cmp_ge hi hj).mpr q))] at h6; exact h6
theorem zs_lcmp_gt (C : Bd g own cc nL p s m args meth c) {x y : Int} {off : Int} {tgt : Nat} {hdc : Decidable (y < x)} {P1 P2 : Mem → Option ρ} (d0 : decode cc pc = .ok (.lcmp, 1)) (d : decode cc (pc+1) = .ok (.ifCond .gt off, 3)) (ht : ((pc+1 : Nat) : Int) + off = (tgt : Int)) (K1 : Sim p l e R s m args below meth c g nL Q kc ks tgt ls st P1) (K2 : Sim p l e R s m args below meth c g nL Q kc ks (pc+4) ls st P2) : Sim p l e R s m args below meth c g nL Q kc ks pc ls (sL y :: sL x :: st) (fun mm => @ite _ (y < x) hdc (P1 mm) (P2 mm)) := by
  intro H locs lsA lv vst mm r h1 h2 h3 h4 h5 h6
  obtain ⟨_, vst1, rfl, ⟨j, rfl, hj⟩, k1_⟩ := srel_cons h3
  obtain ⟨_, vst2, rfl, ⟨i, rfl, hi⟩, k2_⟩ := srel_cons k1_
  refine W.lcmp C.1 C.2.1 d0 (lv_if_gt C.1 C.2.1 d ht (fun hc => K1 H locs lsA lv _ mm r h1 h2 k2_ h4 h5 ?_) (fun hc => K2 H locs lsA lv _ mm r h1 h2 k2_ h4 h5 ?_))
  · replace h6 : @ite _ (y < x) hdc (P1 mm) (P2 mm) = some r := h6
    rw [if_pos ((zs_cmp_gt hi hj).mp hc)] at h6; exact h6
  · replace h6 : @ite _ (y < x) hdc (P1 mm) (P2 mm) = some r := h6
    rw [if_neg (fun q => hc ((zs_cmp_gt hi hj).mpr q))] at h6; exact h6
theorem zs_lcmp_le (C : Bd g own cc nL p s m args meth c) {x y : Int} {off : Int} {tgt : Nat} {hdc : Decidable (x ≤ y)} {P1 P2 : Mem → Option ρ} (d0 : decode cc pc = .ok (.lcmp, 1)) (d : decode cc (pc+1) = .ok (.ifCond .le off, 3)) (ht : ((pc+1 : Nat) : Int) + off = (tgt : Int)) (K1 : Sim p l e R s m args below meth c g nL Q kc ks tgt ls st P1) (K2 : Sim p l e R s m args below meth c g nL Q kc ks (pc+4) ls st P2) : Sim p l e R s m args below meth c g nL Q kc ks pc ls (sL y :: sL x :: st) (fun mm => @ite _ (x ≤ y) hdc (P1 mm) (P2 mm)) := by
  intro H locs lsA lv vst mm r h1 h2 h3 h4 h5 h6
  obtain ⟨_, vst1, rfl, ⟨j, rfl, hj⟩, k1_⟩ := srel_cons h3
  obtain ⟨_, vst2, rfl, ⟨i, rfl, hi⟩, k2_⟩ := srel_cons k1_
  refine W.lcmp C.1 C.2.1 d0 (lv_if_le C.1 C.2.1 d ht (fun hc => K1 H locs lsA lv _ mm r h1 h2 k2_ h4 h5 ?_) (fun hc => K2 H locs lsA lv _ mm r h1 h2 k2_ h4 h5 ?_))
  · replace h6 : @ite _ (x ≤ y) hdc (P1 mm) (P2 mm) = some r := h6
    rw [if_pos ((zs_cmp_le hi hj).mp hc)] at h6; exact h6
  · replace h6 : @ite _ (x ≤ y) hdc (P1 mm) (P2 mm) = some r := h6
    rw [if_neg (fun q => hc ((zs_cmp_le hi hj).mpr q))] at h6; exact h6
theorem zs_ite {cnd : Prop} {hdc : Decidable cnd} {P1 P2 : Mem → Option ρ} (K1 : cnd → Sim p l e R s m args below meth c g nL Q kc ks pc ls st P1) (K2 : ¬ cnd → Sim p l e R s m args below meth c g nL Q kc ks pc ls st P2) : Sim p l e R s m args below meth c g nL Q kc ks pc ls st (fun mm => @ite _ cnd hdc (P1 mm) (P2 mm)) := by
  intro H locs lsA lv vst mm r h1 h2 h3 h4 h5 h6
  by_cases hc : cnd
  · replace h6 : @ite _ cnd hdc (P1 mm) (P2 mm) = some r := h6
    rw [if_pos hc] at h6
    exact K1 hc H locs lsA lv vst mm r h1 h2 h3 h4 h5 h6
  · replace h6 : @ite _ cnd hdc (P1 mm) (P2 mm) = some r := h6
    rw [if_neg hc] at h6
    exact K2 hc H locs lsA lv vst mm r h1 h2 h3 h4 h5 h6
theorem zs_tswI (C : Bd g own cc nL p s m args meth c) {dflt lo hi : Int} {offs : Array Int} {len i tgt : Nat} {x off : Int} (d : decode cc pc = .ok (.tableswitch dflt lo hi offs, len)) (hx : x = lo + (i : Int)) (hh : ¬ hi < lo + (i : Int)) (ho : offs[i]? = some off) (ht : (pc : Int) + off = (tgt : Int)) (K : Sim p l e R s m args below meth c g nL Q kc ks tgt ls st P) : Sim p l e R s m args below meth c g nL Q kc ks pc ls (sI x :: st) P := by
  intro H locs lsA lv vst mm r h1 h2 h3 h4 h5 h6
  obtain ⟨_, vst1, rfl, ⟨j, rfl, hj⟩, k1_⟩ := srel_cons h3
  have hti : (lo + (i : Int) - lo).toNat = i := by omega
  refine lv_tableIn C.1 C.2.1 d (by rw [hj, hx]; omega) (by rw [hj, hx]; exact hh) (off := off) (by rw [hj, hx, hti]; exact ho) ht (K H locs lsA lv _ mm r h1 h2 k1_ h4 h5 h6)
theorem zs_tswD (C : Bd g own cc nL p s m args meth c) {dflt lo hi : Int} {offs : Array Int} {len tgt : Nat} {x : Int} (d : decode cc pc = .ok (.tableswitch dflt lo hi offs, len)) (hx : x < lo ∨ hi < x) (ht : (pc : Int) + dflt = (tgt : Int)) (K : Sim p l e R s m args below meth c g nL Q kc ks tgt ls st P) : Sim p l e R s m args below meth c g nL Q kc ks pc ls (sI x :: st) P := by
  intro H locs lsA lv vst mm r h1 h2 h3 h4 h5 h6
  obtain ⟨_, vst1, rfl, ⟨j, rfl, hj⟩, k1_⟩ := srel_cons h3
  exact lv_tableOut C.1 C.2.1 d (by rw [hj]; exact hx) ht (K H locs lsA lv _ mm r h1 h2 k1_ h4 h5 h6)
theorem zs_lsw (C : Bd g own cc nL p s m args meth c) {dflt : Int} {ps : Array (Int × Int)} {len tgt : Nat} {x off : Int} (d : decode cc pc = .ok (.lookupswitch dflt ps, len)) (hp : (ps.toList.zip (ps.toList.drop 1)).all (fun (a, next) => a.1 < next.1) = true) (ho : Op.lookupswitch.offset ps.toList dflt x = off) (ht : (pc : Int) + off = (tgt : Int)) (K : Sim p l e R s m args below meth c g nL Q kc ks tgt ls st P) : Sim p l e R s m args below meth c g nL Q kc ks pc ls (sI x :: st) P := by
  intro H locs lsA lv vst mm r h1 h2 h3 h4 h5 h6
  obtain ⟨_, vst1, rfl, ⟨j, rfl, hj⟩, k1_⟩ := srel_cons h3
  exact lv_lookup C.1 C.2.1 d hp (by rw [hj]; exact ho) ht (K H locs lsA lv _ mm r h1 h2 k1_ h4 h5 h6)
theorem zs_goto (C : Bd g own cc nL p s m args meth c) {off : Int} {tgt : Nat} (d : decode cc pc = .ok (.goto off, 3)) (ht : (pc : Int) + off = (tgt : Int)) (K : Sim p l e R s m args below meth c g nL Q kc ks tgt ls st P) : Sim p l e R s m args below meth c g nL Q kc ks pc ls st P := by
  intro H locs lsA lv vst mm r h1 h2 h3 h4 h5 h6
  exact lv_goto C.1 C.2.1 d ht (K H locs lsA lv _ mm r h1 h2 h3 h4 h5 h6)
end SIMS

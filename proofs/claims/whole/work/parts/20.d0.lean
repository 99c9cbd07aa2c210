/-! ===== D0: runs that end well, loops, bits of 32-bit words ===== -/
def Ok {α : Type} (x : Option α) (P : α → Prop) : Prop := ∃ a, x = some a ∧ P a
theorem ok_some {α : Type} {a : α} {P : α → Prop} (h : P a) : Ok (some a) P := ⟨a, rfl, h⟩
theorem ok_of {α : Type} {x : Option α} {a : α} {P : α → Prop} (e : x = some a) (h : P a) : Ok x P := ⟨a, e, h⟩
theorem ok_imp {α : Type} {x : Option α} {P Q : α → Prop} (h : Ok x P) (i : ∀ a, P a → Q a) : Ok x Q := h.imp fun _ q => ⟨q.1, i _ q.2⟩
theorem ok_bR {ρ : Type} {x : Option Int} {f : Int → Option ρ} {P : Int → Prop} {Q : ρ → Prop} (h : Ok x P) (k : ∀ v, P v → Ok (f v) Q) : Ok (bR x f) Q := by
  obtain ⟨a, rfl, ha⟩ := h; exact k a ha
theorem ok_bW {ρ : Type} {x : Option (Int × Mem)} {f : Int → Mem → Option ρ} {P : Int × Mem → Prop} {Q : ρ → Prop} (h : Ok x P) (k : ∀ v m, P (v, m) → Ok (f v m) Q) : Ok (bW x f) Q := by
  obtain ⟨⟨a, m⟩, rfl, ha⟩ := h; exact k a m ha
theorem ok_bV {ρ : Type} {x : Option Mem} {f : Mem → Option ρ} {P : Mem → Prop} {Q : ρ → Prop} (h : Ok x P) (k : ∀ m, P m → Ok (f m) Q) : Ok (bV x f) Q := by
  obtain ⟨a, rfl, ha⟩ := h; exact k a ha
theorem ok_bX {x : Option (Int × Int × Mem)} {f : Mem → Option (Int × Int × Mem)} {P : Int × Int × Mem → Prop} {Q : Int × Int × Mem → Prop} (h : Ok x P) (k0 : ∀ v m, P (0, v, m) → Ok (f m) Q) (k1 : ∀ k v m, k ≠ 0 → P (k, v, m) → Q (k, 0, m)) : Ok (bX x f) Q := by
  obtain ⟨⟨k, v, m⟩, rfl, ha⟩ := h
  by_cases hk : k = 0
  · subst hk; exact k0 v m ha
  · exact ⟨(k, 0, m), if_neg hk, k1 k v m hk ha⟩
theorem bR_some {ρ : Type} (v : Int) (f : Int → Option ρ) : bR (some v) f = f v := rfl
theorem bW_some {ρ : Type} (v : Int) (m : Mem) (f : Int → Mem → Option ρ) : bW (some (v, m)) f = f v m := rfl
theorem bV_some {ρ : Type} (m : Mem) (f : Mem → Option ρ) : bV (some m) f = f m := rfl
theorem bX_some0 (v : Int) (m : Mem) (f : Mem → Option (Int × Int × Mem)) : bX (some (0, v, m)) f = f m := rfl
theorem bX_some1 (v : Int) (m : Mem) (f : Mem → Option (Int × Int × Mem)) : bX (some (1, v, m)) f = some (1, 0, m) := rfl
theorem bX_some2 (v : Int) (m : Mem) (f : Mem → Option (Int × Int × Mem)) : bX (some (2, v, m)) f = some (2, 0, m) := rfl
theorem bX_some3 (v : Int) (m : Mem) (f : Mem → Option (Int × Int × Mem)) : bX (some (3, v, m)) f = some (3, 0, m) := rfl
theorem bX_some4 (v : Int) (m : Mem) (f : Mem → Option (Int × Int × Mem)) : bX (some (4, v, m)) f = some (4, 0, m) := rfl
theorem chk_of {α : Type} {c : Prop} {hd : Decidable c} {x : Option α} (h : c) : chk c x = x := if_pos h
theorem rd_eq {ρ : Type} (x : Int) (f : Int → Option ρ) : rd x f = f x := rfl
theorem rdn_eq {ρ : Type} (x : Nat) (f : Nat → Option ρ) : rdn x f = f x := rfl
theorem wr_eq {ρ : Type} (m : Mem) (f : Mem → Option ρ) : wr m f = f m := rfl
theorem jn_eq {τ ρ : Type} (J : τ → Mem → Option ρ) (f : (τ → Mem → Option ρ) → Option ρ) : jn J f = f J := rfl
theorem ok_jn {τ ρ : Type} {J : τ → Mem → Option ρ} {f : (τ → Mem → Option ρ) → Option ρ} {P : ρ → Prop} (R : τ → Mem → Prop) (hJ : ∀ t m, R t m → Ok (J t m) P) (h : ∀ K, (∀ t m, R t m → Ok (K t m) P) → Ok (f K) P) : Ok (jn J f) P := h J hJ
theorem lp_fuel {τ ρ : Type} {F : (τ → Mem → Option ρ) → τ → Mem → Option ρ} {P : ρ → Prop} (I : τ → Mem → Prop) (μ : τ → Mem → Nat)
    (h : ∀ K t mm, I t mm → (∀ t' mm', I t' mm' → μ t' mm' < μ t mm → Ok (K t' mm') P) → Ok (F K t mm) P) : ∀ (N : Nat) (t : τ) (mm : Mem), I t mm → μ t mm < N → Ok (lp N F t mm) P := by
  intro N
  induction N with
  | zero => intro t mm _ hm; exact absurd hm (Nat.not_lt_zero _)
  | succ n ih =>
    intro t mm hI hm
    exact h (lp n F) t mm hI (fun t' mm' hI' hm' => ih t' mm' hI' (Nat.lt_of_lt_of_le hm' (Nat.le_of_lt_succ hm)))
/-- a loop with an invariant and a measure -/
theorem lp_ok {τ ρ : Type} {F : (τ → Mem → Option ρ) → τ → Mem → Option ρ} {P : ρ → Prop} (I : τ → Mem → Prop) (μ : τ → Mem → Nat) {t : τ} {mm : Mem} (hI : I t mm) (hm : μ t mm < 1000000)
    (h : ∀ K t mm, I t mm → (∀ t' mm', I t' mm' → μ t' mm' < μ t mm → Ok (K t' mm') P) → Ok (F K t mm) P) : Ok (lp BIG F t mm) P :=
  lp_fuel I μ h BIG t mm hI (Nat.lt_of_lt_of_le hm BIG_ge)
/-- the same for a loop that counts from i up to n -/
theorem lp_for {ρ : Type} {F : (Int → Mem → Option ρ) → Int → Mem → Option ρ} {P : ρ → Prop} (n : Int) (I : Int → Mem → Prop) {i : Int} {mm : Mem} (hI : I i mm) (h0 : i ≤ n) (hm : n - i < 1000000)
    (h : ∀ K i mm, i < n → I i mm → (∀ mm', I (i + 1) mm' → Ok (K (i + 1) mm') P) → Ok (F K i mm) P)
    (hx : ∀ K mm, I n mm → Ok (F K n mm) P) : Ok (lp BIG F i mm) P := by
  refine lp_ok (fun i mm => i ≤ n ∧ I i mm) (fun i _ => (n - i).toNat) ⟨h0, hI⟩ (by omega) ?_
  intro K i mm ⟨h1, h2⟩ ih
  by_cases hi : i < n
  · exact h K i mm hi h2 (fun mm' h' => ih (i + 1) mm' ⟨by omega, h'⟩ (by show (n - (i + 1)).toNat < (n - i).toNat; omega))
  · have : i = n := by omega
    subst this
    exact hx K mm h2
/-- the same with something carried along -/
theorem lp_for2 {τ ρ : Type} {F : (τ × Int → Mem → Option ρ) → τ × Int → Mem → Option ρ} {P : ρ → Prop} (n : Int) (I : τ → Int → Mem → Prop) {t : τ} {i : Int} {mm : Mem} (hI : I t i mm) (h0 : i ≤ n) (hm : n - i < 1000000)
    (h : ∀ K t i mm, i < n → I t i mm → (∀ t' mm', I t' (i + 1) mm' → Ok (K (t', i + 1) mm') P) → Ok (F K (t, i) mm) P)
    (hx : ∀ K t mm, I t n mm → Ok (F K (t, n) mm) P) : Ok (lp BIG F (t, i) mm) P := by
  refine lp_ok (fun q mm => q.2 ≤ n ∧ I q.1 q.2 mm) (fun q _ => (n - q.2).toNat) ⟨h0, hI⟩ (by show (n - i).toNat < _; omega) ?_
  intro K ⟨t, i⟩ mm ⟨h1, h2⟩ ih
  by_cases hi : i < n
  · exact h K t i mm hi h2 (fun t' mm' h' => ih (t', i + 1) mm' ⟨(by show i + 1 ≤ n; omega), h'⟩ (by show (n - (i + 1)).toNat < (n - i).toNat; omega))
  · have : i = n := by have : i ≤ n := h1; omega
    subst this
    exact hx K t mm h2
/-! memory -/
theorem up_same (m : Mem) (o : Nat) (i v : Int) : up m o i v o i = v := by simp [up]
theorem up_cell {m : Mem} {o o' : Nat} {i v : Int} (h : o' ≠ o) : up m o i v o' = m o' := funext fun j => by simp [up, h]
theorem up_idx {m : Mem} {o : Nat} {i i' v : Int} (h : i' ≠ i) : up m o i v o i' = m o i' := by simp [up, h]
theorem up_at (m : Mem) (o : Nat) (i v i' : Int) : up m o i v o i' = if i' = i then v else m o i' := by simp [up]
theorem cpy_cell {m : Mem} {a b o : Nat} {i j n : Int} (h : o ≠ b) : cpy m a i b j n o = m o := funext fun k => by simp [cpy, h]
theorem cpy_at (m : Mem) (a b : Nat) (i j n k : Int) : cpy m a i b j n b k = if j ≤ k ∧ k < j + n then m a (k - j + i) else m b k := by simp [cpy]
/-- nothing but the cells S has changed -/
def Fr (S : List Nat) (m m' : Mem) : Prop := ∀ o, o ∉ S → m' o = m o
theorem fr_refl {S : List Nat} {m : Mem} : Fr S m m := fun _ _ => rfl
theorem fr_trans {S : List Nat} {a b c : Mem} (h : Fr S a b) (k : Fr S b c) : Fr S a c := fun o ho => (k o ho).trans (h o ho)
theorem fr_up {S : List Nat} {m m' : Mem} {o : Nat} {i v : Int} (ho : o ∈ S) (h : Fr S m m') : Fr S m (up m' o i v) := fun q hq => (up_cell (fun e => hq (by subst e; exact ho))).trans (h q hq)
theorem fr_cpy {S : List Nat} {m m' : Mem} {a b : Nat} {i j n : Int} (ho : b ∈ S) (h : Fr S m m') : Fr S m (cpy m' a i b j n) := fun q hq => (cpy_cell (fun e => hq (by subst e; exact ho))).trans (h q hq)
theorem fr_mono {S T : List Nat} {m m' : Mem} (h : Fr S m m') (st : ∀ o, o ∈ S → o ∈ T) : Fr T m m' := fun o ho => h o (fun q => ho (st o q))
theorem fr_mono' {S T : List Nat} {m m' : Mem} (h : Fr S m m') (st : S.all (fun o => T.contains o) = true) : Fr T m m' := fr_mono h (fun o ho => by
  have := List.all_eq_true.mp st o ho
  simpa using this)
/-! the words' numbers -/
theorem w32_id {x : Int} (h1 : -2147483648 ≤ x) (h2 : x < 2147483648) : w32 x = x := by unfold w32; rw [Int.bmod_def]; split <;> omega
theorem w64_id {x : Int} (h1 : -9223372036854775808 ≤ x) (h2 : x < 9223372036854775808) : w64 x = x := by unfold w64; rw [Int.bmod_def]; split <;> omega
theorem w8_id {x : Int} (h1 : -128 ≤ x) (h2 : x < 128) : w8 x = x := by unfold w8; rw [Int.bmod_def]; split <;> omega
theorem w16_id {x : Int} (h1 : -32768 ≤ x) (h2 : x < 32768) : w16 x = x := by unfold w16; rw [Int.bmod_def]; split <;> omega
theorem w32_rg (x : Int) : -2147483648 ≤ w32 x ∧ w32 x < 2147483648 := by unfold w32; rw [Int.bmod_def]; split <;> omega
/-- bit i of a word -/
def tb (x : Int) (i : Nat) : Bool := (BitVec.ofInt 32 x).getLsbD i
theorem tb_big {x : Int} {i : Nat} (h : 32 ≤ i) : tb x i = false := BitVec.getLsbD_of_ge _ _ h
theorem i32_tb (x : Int32) (i : Nat) : tb x.toInt i = x.toBitVec.getLsbD i := by
  unfold tb
  rw [← Int32.toInt_toBitVec, BitVec.ofInt_toInt]
theorem i32_rg (x : Int32) : -2147483648 ≤ x.toInt ∧ x.toInt < 2147483648 := by
  have h1 := x.minValue_le_toInt
  have h2 := x.toInt_le
  exact ⟨h1, Int.lt_of_le_of_lt h2 (by decide)⟩
theorem tb_ext {x y : Int} (hx : -2147483648 ≤ x ∧ x < 2147483648) (hy : -2147483648 ≤ y ∧ y < 2147483648) (h : ∀ i, i < 32 → tb x i = tb y i) : x = y := by
  have e : BitVec.ofInt 32 x = BitVec.ofInt 32 y := BitVec.eq_of_getLsbD_eq (fun i hi => h i hi)
  have q := congrArg BitVec.toInt e
  rw [BitVec.toInt_ofInt, BitVec.toInt_ofInt] at q
  have f : ∀ z : Int, -2147483648 ≤ z ∧ z < 2147483648 → z.bmod (2 ^ 32) = z := fun z hz => w32_id hz.1 hz.2
  rwa [f x hx, f y hy] at q
theorem iand_rg (x y : Int) : -2147483648 ≤ iand x y ∧ iand x y < 2147483648 := i32_rg _
theorem ior_rg (x y : Int) : -2147483648 ≤ ior x y ∧ ior x y < 2147483648 := i32_rg _
theorem ixor_rg (x y : Int) : -2147483648 ≤ ixor x y ∧ ixor x y < 2147483648 := i32_rg _
theorem ishl_rg (x y : Int) : -2147483648 ≤ ishl x y ∧ ishl x y < 2147483648 := i32_rg _
theorem ishr_rg (x y : Int) : -2147483648 ≤ ishr x y ∧ ishr x y < 2147483648 := i32_rg _
theorem iushr_rg (x y : Int) : -2147483648 ≤ iushr x y ∧ iushr x y < 2147483648 := i32_rg _
theorem tb_and (x y : Int) (i : Nat) : tb (iand x y) i = (tb x i && tb y i) := by
  unfold iand; rw [i32_tb, Int32.toBitVec_and, BitVec.getLsbD_and, Int32.toBitVec_ofInt, Int32.toBitVec_ofInt]; rfl
theorem tb_or (x y : Int) (i : Nat) : tb (ior x y) i = (tb x i || tb y i) := by
  unfold ior; rw [i32_tb, Int32.toBitVec_or, BitVec.getLsbD_or, Int32.toBitVec_ofInt, Int32.toBitVec_ofInt]; rfl
theorem tb_xor (x y : Int) (i : Nat) : tb (ixor x y) i = (tb x i ^^ tb y i) := by
  unfold ixor; rw [i32_tb, Int32.toBitVec_xor, BitVec.getLsbD_xor, Int32.toBitVec_ofInt, Int32.toBitVec_ofInt]; rfl
theorem tb_m1 : ∀ i, i < 32 → tb (-1) i = true := by decide +kernel
theorem tb_zero (i : Nat) : tb 0 i = false := by unfold tb; simp
theorem tb_one (i : Nat) : tb 1 i = decide (i = 0) := by
  unfold tb
  by_cases hi : i < 32
  · revert i; decide +kernel
  · rw [BitVec.getLsbD_of_ge _ _ (by omega)]; simp; omega
theorem tb_not (x : Int) {i : Nat} (hi : i < 32) : tb (ixor x (-1)) i = !tb x i := by rw [tb_xor, tb_m1 i hi]; simp
theorem sl_s : ∀ n, n < 32 → ((Int32.ofInt ((n : Nat) : Int) &&& 31).toBitVec.smod 32).toNat = n := by decide +kernel
theorem sl_u : ∀ n, n < 32 → (((Int32.ofInt ((n : Nat) : Int)).toUInt32 &&& Int32.toUInt32 31).toBitVec % 32).toNat = n := by decide +kernel
theorem tb_shl (x : Int) {n i : Nat} (hn : n < 32) (hi : i < 32) : tb (ishl x (n : Int)) i = (decide (n ≤ i) && tb x (i - n)) := by
  unfold ishl
  rw [i32_tb, Int32.toBitVec_shiftLeft, BitVec.shiftLeft_eq', BitVec.getLsbD_shiftLeft, sl_s n hn]
  by_cases h : n ≤ i
  · simp [hi, h, Nat.not_lt.mpr h, tb]
  · simp [h, Nat.not_le.mp h]
theorem tb_ushr (x : Int) {n : Nat} (hn : n < 32) (i : Nat) : tb (iushr x (n : Int)) i = tb x (n + i) := by
  unfold iushr
  rw [i32_tb]
  show (((Int32.ofInt x).toUInt32 >>> ((Int32.ofInt (n : Int)).toUInt32 &&& Int32.toUInt32 31)).toBitVec).getLsbD i = _
  rw [UInt32.toBitVec_shiftRight, BitVec.ushiftRight_eq', BitVec.getLsbD_ushiftRight, sl_u n hn]
  rfl
theorem tb_shr (x : Int) {n i : Nat} (hn : n < 32) (h : n + i < 32) : tb (ishr x (n : Int)) i = tb x (n + i) := by
  unfold ishr
  rw [i32_tb, Int32.toBitVec_shiftRight, BitVec.sshiftRight_eq', BitVec.getLsbD_sshiftRight, sl_s n hn]
  simp [h, tb]
  omega
theorem tb_pow {n i : Nat} (hn : n < 32) (hi : i < 32) : tb (ishl 1 (n : Int)) i = decide (i = n) := by
  rw [tb_shl 1 hn hi, tb_one]
  by_cases h : i = n
  · subst h; simp
  · simp [h]; omega
theorem tb_nonneg {x : Int} (hx : -2147483648 ≤ x ∧ x < 2147483648) : tb x 31 = false ↔ 0 ≤ x := by
  unfold tb
  rw [show (BitVec.ofInt 32 x).getLsbD 31 = (BitVec.ofInt 32 x).msb from (BitVec.msb_eq_getLsbD_last _).symm]
  rw [BitVec.msb_eq_toInt, BitVec.toInt_ofInt]
  rw [show x.bmod (2 ^ 32) = x from w32_id hx.1 hx.2]
  simp
theorem tb_and1 (x : Int) : iand x 1 = if tb x 0 then 1 else 0 := by
  apply tb_ext (iand_rg _ _) (by split <;> omega)
  intro i hi
  rw [tb_and, tb_one]
  by_cases h : i = 0
  · subst h; cases tb x 0 <;> simp [tb_one, tb_zero]
  · cases tb x 0 <;> simp [h, tb_one, tb_zero]
theorem bit_u (x : Int) {n : Nat} (hn : n < 32) : iand (iushr x (n : Int)) 1 = if tb x n then 1 else 0 := by
  rw [tb_and1, tb_ushr x hn]; rfl
theorem bit_s (x : Int) {n : Nat} (hn : n < 32) : iand (ishr x (n : Int)) 1 = if tb x n then 1 else 0 := by
  rw [tb_and1, tb_shr x hn (by omega)]; rfl
/-- the same with a whole number as place -/
theorem bit_ui (x : Int) {k : Int} (h0 : 0 ≤ k) (h1 : k < 32) : iand (iushr x k) 1 = if tb x k.toNat then 1 else 0 := by
  have := bit_u x (n := k.toNat) (by omega); rwa [Int.toNat_of_nonneg h0] at this
theorem bit_si (x : Int) {k : Int} (h0 : 0 ≤ k) (h1 : k < 32) : iand (ishr x k) 1 = if tb x k.toNat then 1 else 0 := by
  have := bit_s x (n := k.toNat) (by omega); rwa [Int.toNat_of_nonneg h0] at this
theorem tb_powi {k : Int} {i : Nat} (h0 : 0 ≤ k) (h1 : k < 32) (hi : i < 32) : tb (ishl 1 k) i = decide (i = k.toNat) := by
  have := tb_pow (n := k.toNat) (by omega) hi; rwa [Int.toNat_of_nonneg h0] at this
theorem tb_eq0 {x : Int} (hx : -2147483648 ≤ x ∧ x < 2147483648) : x = 0 ↔ ∀ i, i < 32 → tb x i = false := by
  constructor
  · intro h i _; subst h; exact tb_zero i
  · intro h; exact tb_ext hx (by omega) (fun i hi => by rw [h i hi, tb_zero])

/-! ===== D76: words, signs, numbers of a text ===== -/
def ltrP (c : Int) : Prop := 97 ≤ c ∧ c ≤ 122
def digP (c : Int) : Prop := 48 ≤ c ∧ c ≤ 57
def blkP (c : Int) : Prop := c = 32 ∨ c = 10
def SgnB (c : Int) : Prop := c = 59 ∨ c = 58 ∨ c = 43 ∨ c = 45 ∨ c = 42 ∨ c = 40 ∨ c = 41 ∨ c = 91 ∨ c = 93 ∨ c = 61 ∨ c = 60 ∨ c = 62
def RunTo (P : Int → Prop) (T : Int → Int) (n h p : Int) : Prop := h ≤ p ∧ (∀ q, h ≤ q → q < p → q < n ∧ P (T q)) ∧ ¬ (p < n ∧ P (T p))
theorem run_uq {P : Int → Prop} {T : Int → Int} {n h p q : Int} (a : RunTo P T n h p) (b : RunTo P T n h q) : p = q := by
  have n1 : ¬ p < q := fun z => a.2.2 (b.2.1 p a.1 z)
  have n2 : ¬ q < p := fun z => b.2.2 (a.2.1 q b.1 z)
  omega
theorem run_le {P : Int → Prop} {T : Int → Int} {n h p : Int} (a : RunTo P T n h p) (h0 : h ≤ n) : p ≤ n := by
  by_cases z : h < p
  · have := (a.2.1 (p - 1) (by omega) (by omega)).1; omega
  · have := a.1; omega
/-- the words' strings in the order of the class's -/
def widL : List Nat := [5, 6, 7, 8, 9, 10, 11, 12, 19, 15, 16, 13, 3, 17, 18, 14, 2, 4]
def wid (j : Nat) : Nat := widL.getD j 0
def sgL : List Nat := [0, 5, 11, 16, 21, 26, 28, 30, 34, 41, 46, 52, 55, 59, 66, 70, 74, 77, 81]
def sg (j : Nat) : Nat := sgL.getD j 0
theorem wf_ch : ∀ j, j < 18 → ∀ t, t < 6 → ((t : Nat) : Int) < slen (wid j) → schr 1 ((sg j + t : Nat) : Int) = schr (wid j) ((t : Nat) : Int) ∧ 97 ≤ schr (wid j) ((t : Nat) : Int) ∧ schr (wid j) ((t : Nat) : Int) ≤ 122 := by decide +kernel
theorem wf_sp : ∀ j, j < 18 → schr 1 ((sg j : Nat) + slen (wid j)) = 32 ∧ ((sg (j + 1) : Nat) : Int) = (sg j : Nat) + slen (wid j) + 1 ∧ 1 ≤ slen (wid j) ∧ slen (wid j) ≤ 6 ∧ wid j < 20 := by decide +kernel
theorem wf_ne : ∀ j, j < 18 → ∀ k, k < 18 → j ≠ k → slen (wid j) ≠ slen (wid k) ∨ ∃ t, t < 6 ∧ ((t : Nat) : Int) < slen (wid j) ∧ schr (wid j) ((t : Nat) : Int) ≠ schr (wid k) ((t : Nat) : Int) := by decide +kernel
theorem sl_all : ∀ o, o < 20 → ishr (slen o) 0 = slen o ∧ 0 ≤ slen o ∧ slen o ≤ 81 := by decide +kernel
theorem ch_all : ∀ c, c < 128 → iand ((c : Nat) : Int) 255 % 65536 = ((c : Nat) : Int) := by decide +kernel
theorem sg_all : ∀ t, t < 12 → SgnB (schr 0 ((t : Nat) : Int)) := by
  unfold SgnB; decide +kernel
theorem sg_has : slen 0 = 12 ∧ (schr 0 0 = 59 ∧ schr 0 1 = 58 ∧ schr 0 2 = 43 ∧ schr 0 3 = 45 ∧ schr 0 4 = 42 ∧ schr 0 5 = 40 ∧ schr 0 6 = 41 ∧ schr 0 7 = 91 ∧ schr 0 8 = 93 ∧ schr 0 9 = 61 ∧ schr 0 10 = 60 ∧ schr 0 11 = 62) := by decide +kernel
theorem s_length {o : Nat} {m : Mem} (ho : o < 20) : fJ0_length_8abf5 o m = some (slen o) := by
  unfold fJ0_length_8abf5 fJ0_coder_7d493
  simp only [jn_eq]
  rw [if_neg (by decide), chk_of (by decide), bR_some, (sl_all o ho).1]
theorem s_char {o : Nat} {i : Int} {m : Mem} (i0 : 0 ≤ i) (i1 : i < slen o) (c0 : 0 ≤ schr o i) (c1 : schr o i < 128) : fJ0_charAt_5068e o i m = some (schr o i) := by
  have e := ch_all (schr o i).toNat (by omega)
  rw [Int.toNat_of_nonneg c0] at e
  unfold fJ0_charAt_5068e fJ0_isLatin1_aae02 fJ1_charAt_3b067 fJ0_checkIndex_df160 fJ3_checkIndex_8e157
  simp only [jn_eq, rd_eq]
  rw [if_neg (by decide), if_neg (by decide), chk_of (by decide), bR_some, if_neg (by decide), if_neg (by omega), if_pos i1, bR_some, bR_some, chk_of ⟨i0, i1⟩, e, chk_of (by omega), bR_some, chk_of (by omega)]
def EqW (T : Int → Int) (b e : Int) (s : Nat) : Prop := e - b = slen s ∧ ∀ k, 0 ≤ k → k < slen s → T (b + k) = schr s k
def WordK (T : Int → Int) (b e k : Int) : Prop := (∃ j : Nat, j < 18 ∧ k = 128 + (j : Int) ∧ EqW T b e (wid j)) ∨ (k = 3 ∧ ∀ j : Nat, j < 18 → ¬ EqW T b e (wid j))
theorem eqW_uq {T : Int → Int} {b e : Int} {j k : Nat} (hj : j < 18) (hk : k < 18) (a : EqW T b e (wid j)) (c : EqW T b e (wid k)) : j = k := by
  by_cases z : j = k
  · exact z
  · rcases wf_ne j hj k hk z with q | ⟨t, t6, t1, t2⟩
    · have := a.1; have := c.1; omega
    · have h1 := a.2 (t : Int) (by omega) t1
      have h2 := c.2 (t : Int) (by omega) (by have := a.1; have := c.1; omega)
      omega
theorem wordK_is {T : Int → Int} {b e k : Int} {j : Nat} (h : WordK T b e k) (hj : j < 18) : EqW T b e (wid j) ↔ k = 128 + (j : Int) := by
  rcases h with ⟨i, hi, e1, e2⟩ | ⟨e1, e2⟩
  · constructor
    · intro q; rw [eqW_uq hj hi q e2]; exact e1
    · intro q
      have : i = j := by omega
      rw [← this]; exact e2
  · exact ⟨fun q => absurd q (e2 j hj), fun q => by omega⟩
theorem wordK_uq {T : Int → Int} {b e k k' : Int} (h : WordK T b e k) (h' : WordK T b e k') : k = k' := by
  rcases h with ⟨i, hi, e1, e2⟩ | ⟨e1, e2⟩
  · rw [e1, (wordK_is h' hi).mp e2]
  · rcases h' with ⟨i, hi, f1, f2⟩ | ⟨f1, f2⟩
    · exact absurd f2 (e2 i hi)
    · omega
def nv (T : Int → Int) (b : Int) : Nat → Int
  | 0 => 0
  | j + 1 => if j < 3 then 10 * nv T b j + T (b + (j : Int)) - 48 else nv T b j
theorem nv_rg {T : Int → Int} {b : Int} : ∀ j : Nat, (∀ q : Int, 0 ≤ q → q < (j : Int) → digP (T (b + q))) → 0 ≤ nv T b j ∧ nv T b j ≤ 999 ∧ (j = 0 → nv T b j = 0) ∧ (j ≤ 1 → nv T b j ≤ 9) ∧ (j ≤ 2 → nv T b j ≤ 99)
  | 0, _ => by show (0 : Int) ≤ 0 ∧ (0 : Int) ≤ 999 ∧ (0 = 0 → (0 : Int) = 0) ∧ (0 ≤ 1 → (0 : Int) ≤ 9) ∧ (0 ≤ 2 → (0 : Int) ≤ 99); simp
  | j + 1, h => by
    have i := nv_rg (T := T) (b := b) j (fun q a c => h q a (by omega))
    have d := h (j : Int) (by omega) (by omega)
    unfold digP at d
    show 0 ≤ (if j < 3 then 10 * nv T b j + T (b + (j : Int)) - 48 else nv T b j) ∧ (if j < 3 then 10 * nv T b j + T (b + (j : Int)) - 48 else nv T b j) ≤ 999 ∧ (j + 1 = 0 → (if j < 3 then 10 * nv T b j + T (b + (j : Int)) - 48 else nv T b j) = 0) ∧ (j + 1 ≤ 1 → (if j < 3 then 10 * nv T b j + T (b + (j : Int)) - 48 else nv T b j) ≤ 9) ∧ (j + 1 ≤ 2 → (if j < 3 then 10 * nv T b j + T (b + (j : Int)) - 48 else nv T b j) ≤ 99)
    by_cases z : j < 3
    · rw [if_pos z]; omega
    · rw [if_neg z]; omega
/-- what a token is that begins at b -/
def TokB (T : Int → Int) (n b e k v : Int) : Prop :=
  (ltrP (T b) ∧ RunTo ltrP T n (b + 1) e ∧ WordK T b e k ∧ v = 0) ∨ (digP (T b) ∧ RunTo digP T n (b + 1) e ∧ k = (if e - b ≤ 3 then 1 else 2) ∧ v = nv T b (e - b).toNat) ∨
  (¬ ltrP (T b) ∧ ¬ digP (T b) ∧ e = b + 1 ∧ ((SgnB (T b) ∧ k = T b) ∨ (¬ SgnB (T b) ∧ k = 2)) ∧ v = 0)
def TokAt (T : Int → Int) (n h b e k v : Int) : Prop := RunTo blkP T n h b ∧ b < n ∧ TokB T n b e k v
theorem tokB_uq {T : Int → Int} {n b e k v e' k' v' : Int} (h : TokB T n b e k v) (h' : TokB T n b e' k' v') : e = e' ∧ k = k' ∧ v = v' := by
  rcases h with ⟨a1, a2, a3, a4⟩ | ⟨a1, a2, a3, a4⟩ | ⟨a1, a2, a3, a4, a5⟩ <;> rcases h' with ⟨b1, b2, b3, b4⟩ | ⟨b1, b2, b3, b4⟩ | ⟨b1, b2, b3, b4, b5⟩
  · have := run_uq a2 b2
    subst this
    exact ⟨rfl, wordK_uq a3 b3, by omega⟩
  · unfold ltrP digP at *; omega
  · exact absurd a1 b1
  · unfold ltrP digP at *; omega
  · have := run_uq a2 b2
    subst this
    exact ⟨rfl, a3.trans b3.symm, a4.trans b4.symm⟩
  · exact absurd a1 b2
  · exact absurd b1 a1
  · exact absurd b1 a2
  · refine ⟨by omega, ?_, by omega⟩
    rcases a4 with ⟨q, e1⟩ | ⟨q, e1⟩ <;> rcases b4 with ⟨r, e2⟩ | ⟨r, e2⟩
    · omega
    · exact absurd q r
    · exact absurd r q
    · omega
theorem tok_uq {T : Int → Int} {n h b e k v b' e' k' v' : Int} (a : TokAt T n h b e k v) (c : TokAt T n h b' e' k' v') : b = b' ∧ e = e' ∧ k = k' ∧ v = v' := by
  have e1 := run_uq a.1 c.1
  have a2 := a.2.2
  rw [e1] at a2
  exact ⟨e1, tokB_uq a2 c.2.2⟩
theorem tok_rg {T : Int → Int} {n h b e k v : Int} (a : TokAt T n h b e k v) : h ≤ b ∧ b < e ∧ e ≤ n := by
  obtain ⟨a1, a2, a3⟩ := a
  refine ⟨a1.1, ?_⟩
  rcases a3 with ⟨_, q, _⟩ | ⟨_, q, _⟩ | ⟨_, _, q, _⟩
  · have := q.1; have := run_le q (by omega); omega
  · have := q.1; have := run_le q (by omega); omega
  · omega
/-- kinds -/
theorem tok_kd {T : Int → Int} {n h b e k v : Int} (a : TokAt T n h b e k v) : (k = 1 ∨ k = 2 ∨ k = 3 ∨ (128 ≤ k ∧ k < 146) ∨ SgnB k) ∧ (k = 1 → 0 ≤ v ∧ v ≤ 999) := by
  obtain ⟨_, _, a3⟩ := a
  rcases a3 with ⟨_, _, q, _⟩ | ⟨d, q, e1, e2⟩ | ⟨_, _, _, q, _⟩
  · rcases q with ⟨j, hj, ek, _⟩ | ⟨ek, _⟩
    · exact ⟨by omega, fun z => by omega⟩
    · exact ⟨by omega, fun z => by omega⟩
  · have le := q.1
    have := nv_rg (T := T) (b := b) (e - b).toNat (fun i i0 i1 => by
      by_cases z : i = 0
      · rw [z, Int.add_zero]; exact d
      · exact (q.2.1 (b + i) (by omega) (by omega)).2)
    rw [← e2] at this
    refine ⟨?_, fun _ => ⟨this.1, this.2.1⟩⟩
    by_cases z : e - b ≤ 3
    · rw [if_pos z] at e1; exact .inl e1
    · rw [if_neg z] at e1; exact .inr (.inl e1)
  · rcases q with ⟨q, e1⟩ | ⟨_, e1⟩
    · rw [← e1] at q
      exact ⟨.inr (.inr (.inr (.inr q))), fun z => by rw [z] at q; unfold SgnB at q; omega⟩
    · exact ⟨.inr (.inl e1), fun z => by omega⟩
/-! the class's side -/
def TxtR (T : Int → Int) (n : Int) (m : Mem) : Prop := ∀ i, 0 ≤ i → i < n → m 1 i = w8 (T i) ∧ 0 ≤ T i ∧ T i < 256
theorem w8_lo {c : Int} (h0 : 0 ≤ c) (h1 : c < 256) {a : Int} (a0 : 0 ≤ a) (a1 : a < 128) : (w8 c = a ↔ c = a) ∧ (a ≤ w8 c ↔ a ≤ c ∧ c < 128) := by
  by_cases z : c < 128
  · rw [w8_id (by omega) z]; omega
  · have : w8 c = c - 256 := by unfold w8; rw [Int.bmod_def]; split <;> omega
    rw [this]; omega
theorem c_isLetter {c : Int} {m : Mem} (h0 : 0 ≤ c) (h1 : c < 256) : ∃ v, fX8_isLetter (w8 c) m = some v ∧ (v = 0 ∨ v = 1) ∧ (v = 1 ↔ ltrP c) := by
  have a1 := (w8_lo h0 h1 (a := 97) (by decide) (by decide)).2
  have a2 := (w8_lo h0 h1 (a := 123) (by decide) (by decide)).2
  unfold fX8_isLetter ltrP
  simp only [jn_eq]
  by_cases z1 : w8 c < 97
  · rw [if_pos z1, chk_of (by decide)]; exact ⟨0, rfl, .inl rfl, fun q => by omega, fun q => by omega⟩
  · rw [if_neg z1]
    by_cases z2 : 122 < w8 c
    · rw [if_pos z2, chk_of (by decide)]; exact ⟨0, rfl, .inl rfl, fun q => by omega, fun q => by omega⟩
    · rw [if_neg z2, chk_of (by decide)]; exact ⟨1, rfl, .inr rfl, fun _ => by omega, fun _ => rfl⟩
theorem c_isDigit {c : Int} {m : Mem} (h0 : 0 ≤ c) (h1 : c < 256) : ∃ v, fX8_isDigit (w8 c) m = some v ∧ (v = 0 ∨ v = 1) ∧ (v = 1 ↔ digP c) := by
  have a1 := (w8_lo h0 h1 (a := 48) (by decide) (by decide)).2
  have a2 := (w8_lo h0 h1 (a := 58) (by decide) (by decide)).2
  unfold fX8_isDigit digP
  simp only [jn_eq]
  by_cases z1 : w8 c < 48
  · rw [if_pos z1, chk_of (by decide)]; exact ⟨0, rfl, .inl rfl, fun q => by omega, fun q => by omega⟩
  · rw [if_neg z1]
    by_cases z2 : 57 < w8 c
    · rw [if_pos z2, chk_of (by decide)]; exact ⟨0, rfl, .inl rfl, fun q => by omega, fun q => by omega⟩
    · rw [if_neg z2, chk_of (by decide)]; exact ⟨1, rfl, .inr rfl, fun _ => by omega, fun _ => rfl⟩
theorem c_signAt {c : Int} {m : Mem} (h0 : 0 ≤ c) (h1 : c < 256) : ∃ v, fJ0_indexOf_0f7a4 0 c m = some v ∧ (v < 0 ↔ ¬ SgnB c) := by
  have key : Ok (fJ0_indexOf_0f7a4 0 c m) (fun v => v < 0 ↔ ¬ SgnB c) := by
    unfold fJ0_indexOf_0f7a4 fJ0_indexOf_7cf53 fJ0_isLatin1_aae02 fJ1_indexOf_4cfef fJ1_canEncode_9a6ad fJ1_indexOfChar_4cfef
    simp only [jn_eq, rd_eq]
    rw [if_neg (by decide), if_neg (by decide), chk_of (by decide), bR_some, if_neg (by decide), s_length (by decide), bR_some, if_neg (show ¬ c < 0 by omega), if_neg (show ¬ 255 < c by omega), bR_some, if_pos (by decide), sg_has.1, if_pos (by decide)]
    refine ok_bR (P := fun v => v < 0 ↔ ¬ SgnB c) (ok_bR (P := fun v => v < 0 ↔ ¬ SgnB c) (ok_bR (P := fun v => v < 0 ↔ ¬ SgnB c) ?_ (fun v h => ok_some h)) (fun v h => ok_some h)) (fun v h => ok_some h)
    rw [show imax 0 0 = 0 from rfl, show imin 12 12 = 12 from rfl]
    refine lp_for 12 (fun i mm => 0 ≤ i ∧ mm = m ∧ ∀ t : Int, 0 ≤ t → t < i → schr 0 t ≠ w8 c) ⟨by omega, rfl, fun _ _ _ => by omega⟩ (by omega) (by omega) ?_ ?_
    · rintro G i mm hi ⟨i0, rfl, hno⟩ ih
      rw [if_neg (by omega), chk_of (by omega), w32_id (x := i + 1) (by omega) (by omega)]
      by_cases q : schr 0 i = w8 c
      · rw [if_neg (fun z => z q)]
        have s := sg_all i.toNat (by omega)
        rw [Int.toNat_of_nonneg i0] at s
        have : c = schr 0 i := by
          refine ((w8_lo h0 h1 (a := schr 0 i) ?_ ?_).1).mp q.symm <;> (unfold SgnB at s; omega)
        exact ok_some ⟨fun z => by omega, fun z => absurd (by rw [this]; exact s) z⟩
      · rw [if_pos q]
        refine ih _ ⟨by omega, rfl, fun t a b => ?_⟩
        by_cases e : t = i
        · rw [e]; exact q
        · exact hno t a (by omega)
    · rintro G mm ⟨_, rfl, hno⟩
      rw [if_pos (by decide)]
      refine ok_some ⟨fun _ s => ?_, fun _ => by decide⟩
      obtain ⟨_, g0, g1, g2, g3, g4, g5, g6, g7, g8, g9, g10, g11⟩ := sg_has
      have nn : ∀ t : Int, 0 ≤ t → t < 12 → schr 0 t ≠ c := fun t a b e => by
        have s := sg_all t.toNat (by omega)
        rw [Int.toNat_of_nonneg a] at s
        exact hno t a b (((w8_lo h0 h1 (a := schr 0 t) (by unfold SgnB at s; omega) (by unfold SgnB at s; omega)).1).mpr e.symm).symm
      have n0 := nn 0 (by decide) (by decide); have n1 := nn 1 (by decide) (by decide); have n2 := nn 2 (by decide) (by decide); have n3 := nn 3 (by decide) (by decide)
      have n4 := nn 4 (by decide) (by decide); have n5 := nn 5 (by decide) (by decide); have n6 := nn 6 (by decide) (by decide); have n7 := nn 7 (by decide) (by decide)
      have n8 := nn 8 (by decide) (by decide); have n9 := nn 9 (by decide) (by decide); have n10 := nn 10 (by decide) (by decide); have n11 := nn 11 (by decide) (by decide)
      unfold SgnB at s
      omega
  obtain ⟨v, e, hv⟩ := key
  exact ⟨v, e, hv⟩
theorem c_wordOf {T : Int → Int} {n b e : Int} {m : Mem} (hT : TxtR T n m) (b0 : 0 ≤ b) (be : b ≤ e) (en : e ≤ n) (n9 : n ≤ 900) : ∃ k, fX8_wordOf b e m = some k ∧ WordK T b e k := by
  have key : Ok (fX8_wordOf b e m) (WordK T b e) := by
    unfold fX8_wordOf
    simp only [jn_eq, rd_eq]
    refine lp_ok (fun (q : Int × Int × Int × Int) (mm : Mem) => mm = m ∧ ∃ j t : Nat, j ≤ 18 ∧ (j < 18 → (t : Int) ≤ slen (wid j)) ∧ (j = 18 → t = 0) ∧ q.1 = 128 + (j : Int) ∧ q.2.1 = b + (t : Int) ∧ q.2.2.2 = ((sg j + t : Nat) : Int) ∧ (q.2.2.1 = 0 ∨ q.2.2.1 = 1) ∧ (q.2.2.1 = 1 ↔ (b + (t : Int) ≤ e ∧ ∀ k, 0 ≤ k → k < (t : Int) → T (b + k) = schr (wid j) k)) ∧ ∀ j' : Nat, j' < j → ¬ EqW T b e (wid j')) (fun q _ => (81 - q.2.2.2).toNat) ⟨rfl, 0, 0, by omega, fun _ => by have := (wf_sp 0 (by decide)).2.2.1; omega, fun _ => rfl, rfl, by show b = b + ((0 : Nat) : Int); omega, rfl, .inr rfl, ⟨fun _ => ⟨by omega, fun k k0 k1 => by omega⟩, fun _ => rfl⟩, fun j' z => by omega⟩ (by show ((81 : Int) - 0).toNat < 1000000; decide) ?_
    rintro G ⟨w, at_, same, i⟩ mm ⟨rfl, j, t, j18, tl, tz, rfl, rfl, rfl, s01, hs, hno⟩ ih
    simp only at s01 hs ih ⊢
    rw [s_length (by decide), bR_some]
    have e81 : slen 1 = 81 := rfl
    rw [e81]
    by_cases hj : j = 18
    · have t0 := tz hj
      subst hj
      subst t0
      rw [if_pos (by decide)]
      exact ok_some (.inr ⟨rfl, fun j' z => hno j' z⟩)
    · obtain ⟨p1, p2, p3, p4, p5⟩ := wf_sp j (by omega)
      have tl' := tl (by omega)
      have sgl : ∀ j, j < 18 → sg (j + 1) ≤ 81 := by decide +kernel
      have sg1 := sgl j (by omega)
      rw [if_neg (by omega)]
      by_cases ht : (t : Int) = slen (wid j)
      · have ec : schr 1 ((sg j + t : Nat) : Int) = 32 := by rw [show ((sg j + t : Nat) : Int) = (sg j : Nat) + slen (wid j) by omega]; exact p1
        rw [s_char (by omega) (by rw [e81]; omega) (by omega) (by omega), bR_some, ec, if_pos rfl, w32_id (x := ((sg j + t : Nat) : Int) + 1) (by omega) (by omega), w32_id (x := 128 + (j : Int) + 1) (by omega) (by omega)]
        have next : ¬ EqW T b e (wid j) → Ok (G (128 + (j : Int) + 1, b, 1, ((sg j + t : Nat) : Int) + 1) mm) (WordK T b e) := by
          intro z
          refine ih (128 + (j : Int) + 1, b, 1, ((sg j + t : Nat) : Int) + 1) mm ⟨rfl, j + 1, 0, by omega, fun q => by have := (wf_sp (j + 1) q).2.2.1; omega, fun _ => rfl, by show 128 + (j : Int) + 1 = 128 + ((j + 1 : Nat) : Int); omega, by show b = b + ((0 : Nat) : Int); omega, by show ((sg j + t : Nat) : Int) + 1 = ((sg (j + 1) + 0 : Nat) : Int); omega, .inr rfl, ⟨fun _ => ⟨by omega, fun k k0 k1 => by omega⟩, fun _ => rfl⟩, fun j' hj' => ?_⟩ (by show (81 - (((sg j + t : Nat) : Int) + 1)).toNat < (81 - ((sg j + t : Nat) : Int)).toNat; omega)
          by_cases q : j' = j
          · rw [q]; exact z
          · exact hno j' (by omega)
        by_cases hs0 : same = 0
        · rw [if_pos hs0]
          refine next (fun q => ?_)
          have := hs.mpr ⟨by have := q.1; omega, fun k k0 k1 => q.2 k k0 (by omega)⟩
          omega
        · rw [if_neg hs0]
          have h1 := hs.mp (by omega)
          by_cases hat : b + (t : Int) = e
          · rw [if_neg (fun z => z hat)]
            exact ok_some (.inl ⟨j, by omega, rfl, by omega, fun k k0 k1 => h1.2 k k0 (by omega)⟩)
          · rw [if_pos hat]
            exact next (fun q => by have := q.1; omega)
      · obtain ⟨c1, c2, c3⟩ := wf_ch j (by omega) t (by omega) (by omega)
        rw [s_char (by omega) (by rw [e81]; omega) (by omega) (by omega), bR_some, c1, if_neg (by omega), w32_id (x := ((sg j + t : Nat) : Int) + 1) (by omega) (by omega), w32_id (x := b + (t : Int) + 1) (by omega) (by omega)]
        have next : ∀ v : Int, (v = 0 ∨ v = 1) → (v = 1 ↔ (b + (t : Int) + 1 ≤ e ∧ ∀ k, 0 ≤ k → k < (t : Int) + 1 → T (b + k) = schr (wid j) k)) → Ok (G (128 + (j : Int), b + (t : Int) + 1, v, ((sg j + t : Nat) : Int) + 1) mm) (WordK T b e) := by
          intro v v01 hv
          refine ih (128 + (j : Int), b + (t : Int) + 1, v, ((sg j + t : Nat) : Int) + 1) mm ⟨rfl, j, t + 1, j18, fun _ => by omega, fun q => absurd q hj, rfl, by show b + (t : Int) + 1 = b + ((t + 1 : Nat) : Int); omega, by show ((sg j + t : Nat) : Int) + 1 = ((sg j + (t + 1) : Nat) : Int); omega, v01, ?_, hno⟩ (by show (81 - (((sg j + t : Nat) : Int) + 1)).toNat < (81 - ((sg j + t : Nat) : Int)).toNat; omega)
          rw [show ((t + 1 : Nat) : Int) = (t : Int) + 1 by omega, show b + ((t : Int) + 1) = b + (t : Int) + 1 by omega]; exact hv
        have no : ¬ (b + (t : Int) + 1 ≤ e ∧ ∀ k, 0 ≤ k → k < (t : Int) + 1 → T (b + k) = schr (wid j) k) → Ok (G (128 + (j : Int), b + (t : Int) + 1, 0, ((sg j + t : Nat) : Int) + 1) mm) (WordK T b e) := fun z => next 0 (.inl rfl) ⟨fun q => by omega, fun q => absurd q z⟩
        by_cases hs0 : same = 0
        · rw [if_pos hs0]
          refine no (fun q => ?_)
          have := hs.mpr ⟨by omega, fun k k0 k1 => q.2 k k0 (by omega)⟩
          omega
        · rw [if_neg hs0]
          have h1 := hs.mp (by omega)
          by_cases hat : e ≤ b + (t : Int)
          · rw [if_pos hat]; exact no (fun q => by omega)
          · obtain ⟨x1, x2, x3⟩ := hT (b + (t : Int)) (by omega) (by omega)
            have xc := (w8_lo x2 x3 (a := schr (wid j) (t : Int)) (by omega) (by omega)).1
            rw [if_neg hat, chk_of (by omega), x1]
            by_cases hc : w8 (T (b + (t : Int))) = schr (wid j) (t : Int)
            · rw [if_neg (fun z => z hc)]
              refine next 1 (.inr rfl) ⟨fun _ => ⟨by omega, fun k k0 k1 => ?_⟩, fun _ => rfl⟩
              by_cases e2 : k = t
              · rw [e2]; exact xc.mp hc
              · exact h1.2 k k0 (by omega)
            · rw [if_pos hc]
              exact no (fun q => hc (xc.mpr (q.2 (t : Int) (by omega) (by omega))))
  obtain ⟨k, e1, e2⟩ := key
  exact ⟨k, e1, e2⟩

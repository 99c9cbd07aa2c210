/-! ===== D2: an island as the model's row tells it ===== -/
def rainF (K : Int → Int) (h : Int) : Int := if h < K 23 then K 22 else 0
def nmL (K : Int → Int) (p rope h w : Int) : Int := if w = 0 then rope else if w = 1 then K (9 + p) else if w = 2 then rainF K h else if w = 3 then h % 24 else p
def nmM (K : Int → Int) (p who k h w : Int) : Int := if w = 0 then k % K 1 else if w = 1 then k / K 1 else if w = 2 then who else if w = 3 then p else if w = 4 then rainF K h else h % 24
def lenF (K : Int → Int) (p rope h : Int) : Int :=
  if K 5 = 0 then (if rope - K (9 + p) < 0 then 0 else rope - K (9 + p))
  else (if lawF (fun i => K (197 + i)) (nmL K p rope h) (K 5) < 0 then 0 else if 99 < lawF (fun i => K (197 + i)) (nmL K p rope h) (K 5) then 99 else lawF (fun i => K (197 + i)) (nmL K p rope h) (K 5))
def mayF (K : Int → Int) (p who k h : Int) : Bool := decide (K 6 = 0) || decide (lawF (fun i => K (1097 + i)) (nmM K p who k h) (K 6) = 1)
def fL (w : Int) : Int := 128 + w
def fM (w : Int) : Int := if w < 3 then 133 + w else if w = 3 then 132 else if w = 4 then 130 else 131
/-- a state (knots, firsts, seconds, who is parted, hard, till, hour) that can be; c bounds the hour -/
def StV (K : Int → Int) (c : Int) (S : Int → Int) : Prop :=
  (∀ p, 0 ≤ p → p < K 3 → (0 ≤ S p ∧ S p ≤ 9) ∧ (0 ≤ S (4 + p) ∧ S (4 + p) < K 1 * K 2 ∧ tb (K 8) (S (4 + p)).toNat = false) ∧ (0 ≤ S (8 + p) ∧ S (8 + p) < K 1 * K 2 ∧ tb (K 8) (S (8 + p)).toNat = false)) ∧
  (0 ≤ S 12 ∧ S 12 < 16 ∧ ∀ i, tb (S 12) i = true → (i : Int) < K 3) ∧ (0 ≤ S 13 ∧ S 13 ≤ 9) ∧ (0 ≤ S 14 ∧ S 14 ≤ c + 1100) ∧ (0 ≤ S 15 ∧ S 15 ≤ c)
def IsV (K : Int → Int) : Prop :=
  ((K 1 = 0 ∧ K 2 = 0 ∧ K 3 = 0 ∧ K 4 = 0 ∧ K 8 = 0) ∨ (2 ≤ K 1 ∧ K 1 ≤ 5 ∧ 2 ≤ K 2 ∧ K 2 ≤ 5)) ∧ (0 ≤ K 3 ∧ K 3 ≤ 4) ∧ (0 ≤ K 4 ∧ K 4 ≤ 8) ∧
  (0 ≤ K 8 ∧ K 8 < 2147483648 ∧ ∀ i, tb (K 8) i = true → (i : Int) < K 1 * K 2) ∧
  (∀ h, 0 ≤ h → h < K 4 → 0 ≤ K (29 + h) ∧ K (29 + h) < K 1 * K 2) ∧ (∀ g h, 0 ≤ g → g < h → h < K 4 → K (29 + g) ≠ K (29 + h)) ∧
  (∀ p, 0 ≤ p → p < K 3 → 1 ≤ K (25 + p) ∧ K (25 + p) ≤ 20) ∧
  LawV (fun i => K (197 + i)) 5 (K 5) false ∧ LawV (fun i => K (1097 + i)) 6 (K 6) true
def KV (c : Int) (K : Int → Int) : Prop := IsV K ∧ StV K c (fun i => K (9 + i)) ∧ (0 ≤ K 7 ∧ K 7 ≤ 10) ∧ ∀ s, 0 ≤ s → s < K 7 → StV K c (fun i => K (37 + 16 * s + i))
/-! the class's cells that tell the same -/
def LawR (o : Nat) (f c : Int → Int) (n : Int) (m : Mem) : Prop :=
  m o 4 = (if n = 0 then 0 else 1) ∧ m o 1 = n ∧ (∀ i, 0 ≤ i → i < n → m (o + 1) i = trO f (c i)) ∧ (m o 5 = 0 ∨ m o 5 = 1) ∧ (m o 6 = 0 ∨ m o 6 = 1) ∧
  (m o 5 = 0 → ∀ i, 0 ≤ i → i < n → trO f (c i) ≠ 131) ∧ (m o 6 = 0 → ∀ i, 0 ≤ i → i < n → trO f (c i) ≠ 130)
def IsR (b : Nat) (K : Int → Int) (m : Mem) : Prop :=
  (m b 0 = K 0 ∧ m b 1 = K 1 ∧ m b 2 = K 2 ∧ m b 3 = K 8 ∧ m b 4 = K 4 ∧ m b 5 = K 3) ∧ (∀ h, 0 ≤ h → h < K 4 → m (b + 1) h = K (29 + h)) ∧ (∀ p, 0 ≤ p → p < K 3 → m (b + 2) p = K (25 + p)) ∧
  LawR (b + 3) fL (fun i => K (197 + i)) (K 5) m ∧ LawR (b + 5) fM (fun i => K (1097 + i)) (K 6) m
def LfR (o : Nat) (n : Int) (S : Int → Int) (m : Mem) : Prop :=
  (m o 0 = S 15 ∧ m o 1 = S 13 ∧ m o 2 = S 14 ∧ m o 3 = S 12) ∧ ∀ p, 0 ≤ p → p < n → m (o + 1) p = S (4 + p) ∧ m (o + 2) p = S (8 + p) ∧ m (o + 3) p = S p
def pastAt (b : Nat) (newest n s : Int) : Nat := b + 19 + 4 * ((newest - (n - 1 - s)) % 10).toNat
def WRel (b : Nat) (K : Int → Int) (m : Mem) : Prop :=
  IsR (b + 1) K m ∧ LfR (b + 8) (K 3) (fun i => K (9 + i)) m ∧ m b 2 = K 7 ∧ (0 ≤ m b 4 ∧ m b 4 < 10) ∧
  ∀ s, 0 ≤ s → s < K 7 → LfR (pastAt b (m b 4) (K 7) s) (K 3) (fun i => K (37 + 16 * s + i)) m
theorem LawR_fr {o : Nat} {f c : Int → Int} {n : Int} {m m' : Mem} (h : LawR o f c n m) (h0 : m' o = m o) (h1 : m' (o + 1) = m (o + 1)) : LawR o f c n m' := by
  unfold LawR at *; rw [h0, h1]; exact h
theorem IsR_fr {b : Nat} {K : Int → Int} {m m' : Mem} (h : IsR b K m) (hq : ∀ o, b ≤ o → o < b + 7 → m' o = m o) : IsR b K m' := by
  obtain ⟨h1, h2, h3, h4, h5⟩ := h
  refine ⟨?_, ?_, ?_, LawR_fr h4 (hq _ (by omega) (by omega)) (hq _ (by omega) (by omega)), LawR_fr h5 (hq _ (by omega) (by omega)) (hq _ (by omega) (by omega))⟩
  · rw [hq b (by omega) (by omega)]; exact h1
  · rw [hq (b + 1) (by omega) (by omega)]; exact h2
  · rw [hq (b + 2) (by omega) (by omega)]; exact h3
theorem LfR_fr {o : Nat} {n : Int} {S : Int → Int} {m m' : Mem} (h : LfR o n S m) (hq : ∀ q, o ≤ q → q < o + 4 → m' q = m q) : LfR o n S m' := by
  unfold LfR at *
  rw [hq o (by omega) (by omega), hq (o + 1) (by omega) (by omega), hq (o + 2) (by omega) (by omega), hq (o + 3) (by omega) (by omega)]
  exact h
theorem WRel_fr {b : Nat} {K : Int → Int} {m m' : Mem} (h : WRel b K m) (hq : ∀ o, b ≤ o → o < b + 59 → o ≠ b + 17 → o ≠ b + 18 → m' o = m o) : WRel b K m' := by
  obtain ⟨h1, h2, h3, h4, h5⟩ := h
  have hb : m' b = m b := hq b (by omega) (by omega) (by omega) (by omega)
  refine ⟨IsR_fr h1 (fun o a1 a2 => hq o (by omega) (by omega) (by omega) (by omega)), LfR_fr h2 (fun o a1 a2 => hq o (by omega) (by omega) (by omega) (by omega)), by rw [hb]; exact h3, by rw [hb]; exact h4, fun s a1 a2 => ?_⟩
  rw [hb]
  refine LfR_fr (h5 s a1 a2) (fun q b1 b2 => ?_)
  unfold pastAt at b1 b2
  have : 0 ≤ (m b 4 - (K 7 - 1 - s)) % 10 ∧ (m b 4 - (K 7 - 1 - s)) % 10 < 10 := ⟨Int.emod_nonneg _ (by decide), Int.emod_lt_of_pos _ (by decide)⟩
  exact hq q (by omega) (by omega) (by omega) (by omega)
/-! rain, length, may -/
theorem tmod_e {x : Int} (n : Int) (h : 0 ≤ x) : Int.tmod x n = x % n := Int.tmod_eq_emod_of_nonneg h
theorem tdiv_e {x : Int} (n : Int) (h : 0 ≤ x) : Int.tdiv x n = x / n := Int.tdiv_eq_ediv_of_nonneg h
theorem c_rainIn {K : Int → Int} {S : Int → Int} {n h : Int} {m : Mem} (hL : LfR 27 n S m) (e22 : S 13 = K 22) (e23 : S 14 = K 23) : fX5_rainIn h m = some (rainF K h) := by
  obtain ⟨⟨_, h1, h2, _⟩, _⟩ := hL
  unfold fX5_rainIn rainF
  simp only [rd_eq, jn_eq, h1, h2, e22, e23]
  by_cases hh : K 23 ≤ h
  · rw [if_pos hh, if_neg (by omega)]
  · rw [if_neg hh, if_pos (by omega)]
theorem m_rainIn {h : Int} {m : Mem} : fX12_rainIn h m = some (rainF (m 288) h) := by
  unfold fX12_rainIn rainF
  simp only [rd_eq, jn_eq]
  by_cases hh : m 288 23 ≤ h
  · rw [if_pos hh, if_neg (by omega)]
  · rw [if_neg hh, if_pos (by omega)]
theorem rainF_rg {K : Int → Int} {c : Int} {h : Int} (hS : StV K c (fun i => K (9 + i))) : 0 ≤ rainF K h ∧ rainF K h ≤ 9 := by
  have := hS.2.2.1
  have e : (fun i => K (9 + i)) 13 = K 22 := rfl
  unfold rainF
  split
  · exact this
  · omega
theorem nmL_rg {K : Int → Int} {c p rope h : Int} (hI : IsV K) (hS : StV K c (fun i => K (9 + i))) (p0 : 0 ≤ p) (p1 : p < K 3) (r0 : 0 ≤ rope) (r1 : rope ≤ 20) (w : Int) : -1000000 ≤ nmL K p rope h w ∧ nmL K p rope h w ≤ 1000000 := by
  have hk := (hS.1 p p0 p1).1
  have hk' : 0 ≤ K (9 + p) ∧ K (9 + p) ≤ 9 := hk
  have hr := rainF_rg (h := h) hS
  have h3 := hI.2.1
  unfold nmL
  repeat' split
  all_goals omega
theorem dm_rg {k w : Int} (k0 : 0 ≤ k) (k1 : k < 25) (w2 : 2 ≤ w) (w5 : w ≤ 5) : (0 ≤ k % w ∧ k % w < 5) ∧ (0 ≤ k / w ∧ k / w < 25) := by
  refine ⟨⟨Int.emod_nonneg _ (by omega), ?_⟩, ⟨Int.ediv_nonneg k0 (by omega), ?_⟩⟩
  · exact Int.lt_of_lt_of_le (Int.emod_lt_of_pos k (by omega)) w5
  · exact Int.lt_of_le_of_lt (Int.ediv_le_self w k0) k1
theorem nmM_rg {K : Int → Int} {c p who k h : Int} (hI : IsV K) (hS : StV K c (fun i => K (9 + i))) (p0 : 0 ≤ p) (p1 : p < K 3) (q0 : 0 ≤ who) (q1 : who ≤ 1) (k0 : 0 ≤ k) (k1 : k < 25) (w : Int) : -1000000 ≤ nmM K p who k h w ∧ nmM K p who k h w ≤ 1000000 := by
  have hr := rainF_rg (h := h) hS
  have h3 := hI.2.1
  have h1 : 2 ≤ K 1 ∧ K 1 ≤ 5 := by rcases hI.1 with ⟨_, _, e, _⟩ | ⟨a, b, _⟩ <;> omega
  have := dm_rg k0 k1 h1.1 h1.2
  unfold nmM
  repeat' split
  all_goals omega
theorem wide_of {K : Int → Int} (hI : IsV K) {p : Int} (p0 : 0 ≤ p) (p1 : p < K 3) : (2 ≤ K 1 ∧ K 1 ≤ 5) ∧ (2 ≤ K 2 ∧ K 2 ≤ 5) := by
  rcases hI.1 with ⟨_, _, e, _⟩ | ⟨a, b, d, e⟩
  · omega
  · exact ⟨⟨a, b⟩, d, e⟩
theorem area_le {w h : Int} (a : 2 ≤ w) (b : w ≤ 5) (d : 2 ≤ h) (e : h ≤ 5) : 4 ≤ w * h ∧ w * h ≤ 25 := by
  have : w = 2 ∨ w = 3 ∨ w = 4 ∨ w = 5 := by omega
  rcases this with rfl | rfl | rfl | rfl <;> omega
theorem c_lengthOf {K : Int → Int} {c p rope h : Int} {m : Mem} (hI : IsV K) (hS : StV K c (fun i => K (9 + i))) (hR : IsR 20 K m) (hL : LfR 27 (K 3) (fun i => K (9 + i)) m)
    (p0 : 0 ≤ p) (p1 : p < K 3) (r0 : 0 ≤ rope) (r1 : rope ≤ 20) (h0 : 0 ≤ h) : Ok (fX10_lengthOf p rope h m) (fun r => r.1 = lenF K p rope h ∧ Fr [36, 37] m r.2) := by
  have hlaw := hR.2.2.2.1
  have hk : m 30 p = K (9 + p) := (hL.2 p p0 p1).2.2
  have hkr : 0 ≤ K (9 + p) ∧ K (9 + p) ≤ 9 := (hS.1 p p0 p1).1
  have p4 : p < 4 := by have := hI.2.1; omega
  have told : m 23 4 = if K 5 = 0 then 0 else 1 := hlaw.1
  unfold fX10_lengthOf
  simp only [rd_eq, wr_eq, jn_eq]
  by_cases h5 : K 5 = 0
  · rw [told, if_pos h5, if_neg (by simp), chk_of ⟨p0, by omega⟩, hk]
    refine ok_some ⟨?_, fr_refl⟩
    show imax 0 (w32 (rope - K (9 + p))) = _
    rw [w32_id (by omega) (by omega)]
    unfold lenF imax
    rw [if_pos h5]
    split <;> split <;> omega
  · have hv := hI.2.2.2.2.2.2.2.1
    have n0 : 0 < K 5 := by have := hv.1; omega
    rw [told, if_neg h5, if_pos (by decide), chk_of ⟨p0, by omega⟩, up_cell (show 30 ≠ 36 by decide), hk]
    have F2 : Fr [36, 37] m (up (up m 36 0 rope) 36 1 (K (9 + p))) := fr_up (by simp) (fr_up (by simp) fr_refl)
    rw [c_rainIn (LfR_fr hL (fun q a b => F2 q (by simp; omega))) rfl rfl, bR_some]
    have F5 : Fr [36, 37] m (up (up (up (up (up m 36 0 rope) 36 1 (K (9 + p))) 36 2 (rainF K h)) 36 3 (Int.tmod h 24)) 36 4 p) := fr_up (by simp) (fr_up (by simp) (fr_up (by simp) F2))
    obtain ⟨v, e1, e2, b1, b2, b3⟩ := lawF_end hv n0 (fun w _ _ => nmL_rg (h := h) hI hS p0 p1 r0 r1 w)
    refine ok_bW (worth_ok (o := 23) (c := fun i => K (197 + i)) (nm := nmL K p rope h) (f := fL) (.inl rfl) n0 hv (fun w _ _ => nmL_rg hI hS p0 p1 r0 r1 w) ?_ ?_ ?_) ?_
    · intro w w0 w1
      have : w = 0 ∨ w = 1 ∨ w = 2 ∨ w = 3 ∨ w = 4 := by omega
      rcases this with rfl | rfl | rfl | rfl | rfl <;> simp [fL, nmL, up, tmod_e 24 h0]
    · rw [F5 23 (by decide)]; exact hlaw.2.1
    · intro i i0 i1
      rw [F5 24 (by decide)]; exact hlaw.2.2.1 i i0 i1
    · rintro x m' ⟨e, hF⟩
      have e' : x = v := by rw [← e2]; exact e
      have F6 : Fr [36, 37] m m' := fr_trans F5 (fr_mono' hF (by decide))
      subst e'
      have e3 : lenF K p rope h = if x < 0 then 0 else if 99 < x then 99 else x := by unfold lenF; rw [if_neg h5, e2]
      simp only [e3]
      by_cases q0 : 0 ≤ x
      · by_cases q1 : x ≤ 99
        · rw [if_pos q0, if_pos q1, w32_id (by omega) (by omega)]
          refine ok_some ⟨?_, F6⟩
          rw [if_neg (by omega), if_neg (by omega)]
        · rw [if_pos q0, if_neg q1]
          refine ok_some ⟨?_, F6⟩
          rw [if_neg (by omega), if_pos (by omega)]
      · rw [if_neg q0]
        refine ok_some ⟨?_, F6⟩
        rw [if_pos (by omega)]
/-- a set of places as bits -/
def Bits (x : Int) (P : Nat → Prop) : Prop := (-2147483648 ≤ x ∧ x < 2147483648) ∧ ∀ i, i < 32 → (tb x i = true ↔ P i)
theorem bits_eq {x y : Int} {P Q : Nat → Prop} (h : Bits x P) (k : Bits y Q) (e : ∀ i, i < 32 → (P i ↔ Q i)) : x = y := by
  refine tb_ext h.1 k.1 (fun i hi => ?_)
  have := (h.2 i hi).trans ((e i hi).trans (k.2 i hi).symm)
  cases hx : tb x i <;> cases hy : tb y i <;> simp_all
theorem bits_zero {P : Nat → Prop} (h : ∀ i, i < 32 → ¬ P i) : Bits 0 P := ⟨by omega, fun i hi => by rw [tb_zero]; simp [h i hi]⟩
theorem bits_or {x k : Int} {P : Nat → Prop} (h : Bits x P) (k0 : 0 ≤ k) (k1 : k < 32) : Bits (ior x (ishl 1 k)) (fun i => P i ∨ i = k.toNat) := by
  refine ⟨ior_rg _ _, fun i hi => ?_⟩
  rw [tb_or, tb_powi k0 k1 hi, Bool.or_eq_true, h.2 i hi]
  simp
theorem bits_imp {x : Int} {P Q : Nat → Prop} (h : Bits x P) (e : ∀ i, i < 32 → (P i ↔ Q i)) : Bits x Q := ⟨h.1, fun i hi => (h.2 i hi).trans (e i hi)⟩
theorem c_lawBits {K : Int → Int} {c p who h a b : Int} {m : Mem} (hI : IsV K) (hS : StV K c (fun i => K (9 + i))) (hR : IsR 20 K m) (hL : LfR 27 (K 3) (fun i => K (9 + i)) m)
    (p0 : 0 ≤ p) (p1 : p < K 3) (q0 : 0 ≤ who) (q1 : who ≤ 1) (h0 : 0 ≤ h) (a0 : 0 ≤ a) (ab : a ≤ b) (b1 : b ≤ 25) :
    Ok (fX10_lawBits p who h a b m) (fun r => Bits r.1 (fun i => a ≤ i ∧ i < b ∧ mayF K p who i h = true) ∧ Fr [36, 37] m r.2) := by
  have hlaw := hR.2.2.2.2
  have hw := (wide_of hI p0 p1).1
  have w1 : m 20 1 = K 1 := hR.1.2.1
  have told : m 25 4 = if K 6 = 0 then 0 else 1 := hlaw.1
  have hv := hI.2.2.2.2.2.2.2.2
  unfold fX10_lawBits
  simp only [rd_eq, wr_eq, jn_eq]
  have F2 : Fr [36, 37] m (up (up m 36 7 who) 36 4 p) := fr_up (by simp) (fr_up (by simp) fr_refl)
  rw [c_rainIn (LfR_fr hL (fun q a b => F2 q (by simp; omega))) rfl rfl, bR_some, w1]
  have F4 : Fr [36, 37] m (up (up (up (up m 36 7 who) 36 4 p) 36 2 (rainF K h)) 36 3 (Int.tmod h 24)) := fr_up (by simp) (fr_up (by simp) F2)
  refine lp_for2 b (fun t k mm => a ≤ k ∧ Bits t (fun i => a ≤ i ∧ i < k ∧ mayF K p who i h = true) ∧ Fr [36, 37] m mm ∧ mm 36 7 = who ∧ mm 36 4 = p ∧ mm 36 2 = rainF K h ∧ mm 36 3 = h % 24) ⟨by omega, bits_zero (fun i _ q => by omega), F4, by simp [up], by simp [up], by simp [up], by simp [up, tmod_e 24 h0]⟩ ab (by omega) ?_ ?_
  · rintro G t k mm hk ⟨ka, hb, hF, n7, n4, n2, n3⟩ ih
    rw [if_neg (by omega), if_neg (by omega), chk_of (by omega), chk_of (by omega)]
    have hmm : Fr [36, 37] m (up (up mm 36 5 (Int.tmod k (K 1))) 36 6 (Int.tdiv k (K 1))) := fr_up (by simp) (fr_up (by simp) hF)
    rw [hmm 25 (by decide), told, w32_id (x := k + 1) (by omega) (by omega)]
    have yes : mayF K p who k h = true → ∀ m', Fr [36, 37] m m' → m' 36 7 = who → m' 36 4 = p → m' 36 2 = rainF K h → m' 36 3 = h % 24 → Ok (G (ior t (ishl 1 k), k + 1) m') (fun r => Bits r.1 (fun i => a ≤ i ∧ i < b ∧ mayF K p who i h = true) ∧ Fr [36, 37] m r.2) := by
      intro hy m' g1 g2 g3 g4 g5
      refine ih _ m' ⟨by omega, bits_imp (bits_or hb (by omega) (by omega)) (fun i hi => ?_), g1, g2, g3, g4, g5⟩
      constructor
      · rintro (⟨z1, z2, z3⟩ | z)
        · exact ⟨z1, by omega, z3⟩
        · subst z; exact ⟨by omega, by omega, by rw [Int.toNat_of_nonneg (by omega)]; exact hy⟩
      · rintro ⟨z1, z2, z3⟩
        by_cases z : (i : Int) < k
        · exact .inl ⟨z1, z, z3⟩
        · exact .inr (by omega)
    have no : mayF K p who k h = false → ∀ m', Fr [36, 37] m m' → m' 36 7 = who → m' 36 4 = p → m' 36 2 = rainF K h → m' 36 3 = h % 24 → Ok (G (t, k + 1) m') (fun r => Bits r.1 (fun i => a ≤ i ∧ i < b ∧ mayF K p who i h = true) ∧ Fr [36, 37] m r.2) := by
      intro hn m' g1 g2 g3 g4 g5
      refine ih _ m' ⟨by omega, bits_imp hb (fun i hi => ?_), g1, g2, g3, g4, g5⟩
      constructor
      · rintro ⟨z1, z2, z3⟩
        exact ⟨z1, by omega, z3⟩
      · rintro ⟨z1, z2, z3⟩
        refine ⟨z1, ?_, z3⟩
        by_cases z : (i : Int) < k
        · exact z
        · exfalso
          have : (i : Int) = k := by omega
          rw [this] at z3; rw [z3] at hn; cases hn
    by_cases h6 : K 6 = 0
    · rw [if_pos h6, if_pos rfl]
      refine yes (by simp [mayF, h6]) _ hmm ?_ ?_ ?_ ?_ <;> simp [up, n7, n4, n2, n3]
    · have n0 : 0 < K 6 := by have := hv.1; omega
      rw [if_neg h6, if_neg (by decide)]
      obtain ⟨v, e1, e2, b1', b2, b3⟩ := lawF_end hv n0 (fun w _ _ => nmM_rg (who := who) (h := h) hI hS p0 p1 q0 q1 (show 0 ≤ k by omega) (by omega) w)
      refine ok_bW (worth_ok (o := 25) (c := fun i => K (1097 + i)) (nm := nmM K p who k h) (f := fM) (.inr rfl) n0 hv (fun w _ _ => nmM_rg hI hS p0 p1 q0 q1 (by omega) (by omega) w) ?_ ?_ ?_) ?_
      · intro w w0 w1
        have : w = 0 ∨ w = 1 ∨ w = 2 ∨ w = 3 ∨ w = 4 ∨ w = 5 := by omega
        rcases this with rfl | rfl | rfl | rfl | rfl | rfl <;> simp [fM, nmM, up, n7, n4, n2, n3, tmod_e (K 1) (show 0 ≤ k by omega), tdiv_e (K 1) (show 0 ≤ k by omega)]
      · rw [hmm 25 (by decide)]; exact hlaw.2.1
      · intro i i0 i1
        rw [hmm 26 (by decide)]; exact hlaw.2.2.1 i i0 i1
      · rintro x m' ⟨e, hF'⟩
        have e' : x = v := by rw [← e2]; exact e
        have F6 : Fr [36, 37] m m' := fr_trans hmm (fr_mono' hF' (by decide))
        have e36 : m' 36 = (up (up mm 36 5 (Int.tmod k (K 1))) 36 6 (Int.tdiv k (K 1))) 36 := hF' 36 (by decide)
        subst e'
        have hx := b3 rfl
        have em : mayF K p who k h = decide (x = 1) := by simp [mayF, h6, e2]
        by_cases hx0 : x = 0
        · rw [if_pos hx0]
          refine no (by rw [em, hx0]; rfl) m' F6 ?_ ?_ ?_ ?_ <;> rw [e36] <;> simp [up, n7, n4, n2, n3]
        · rw [if_neg hx0]
          refine yes (by rw [em]; simp; omega) m' F6 ?_ ?_ ?_ ?_ <;> rw [e36] <;> simp [up, n7, n4, n2, n3]
  · rintro G t mm ⟨ka, hb, hF, _⟩
    rw [if_pos (by omega)]
    exact ok_some ⟨hb, hF⟩

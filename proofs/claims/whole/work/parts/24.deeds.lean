/-! ===== D4: the island's state, hours, turns ===== -/
def ku (K : Int → Int) (i v : Int) : Int → Int := fun j => if j = i then v else K j
theorem ku_at (K : Int → Int) (i v : Int) : ku K i v i = v := if_pos rfl
theorem ku_ne {K : Int → Int} {i v j : Int} (h : j ≠ i) : ku K i v j = K j := if_neg h
theorem up_row (m : Mem) (o : Nat) (i v : Int) : up m o i v o = ku (m o) i v := funext fun q => up_at _ _ _ _ _
def CR (K : Int → Int) (m : Mem) : Prop := IsR 20 K m ∧ LfR 27 (K 3) (fun i => K (9 + i)) m
def CV (c : Int) (K : Int → Int) : Prop := IsV K ∧ StV K c (fun i => K (9 + i))
def CurV (K : Int → Int) (c : Int) : Prop :=
  (∀ p, 0 ≤ p → p < K 3 → (0 ≤ K (9 + p) ∧ K (9 + p) ≤ 9) ∧ (0 ≤ K (13 + p) ∧ K (13 + p) < K 1 * K 2 ∧ tb (K 8) (K (13 + p)).toNat = false) ∧ (0 ≤ K (17 + p) ∧ K (17 + p) < K 1 * K 2 ∧ tb (K 8) (K (17 + p)).toNat = false)) ∧
  (0 ≤ K 21 ∧ K 21 < 16 ∧ ∀ i, tb (K 21) i = true → (i : Int) < K 3) ∧ (0 ≤ K 22 ∧ K 22 ≤ 9) ∧ (0 ≤ K 23 ∧ K 23 ≤ c + 1100) ∧ (0 ≤ K 24 ∧ K 24 ≤ c)
theorem curV_iff {K : Int → Int} {c : Int} : StV K c (fun i => K (9 + i)) ↔ CurV K c := by
  have e1 : ∀ p : Int, 9 + (4 + p) = 13 + p := fun p => by omega
  have e2 : ∀ p : Int, 9 + (8 + p) = 17 + p := fun p => by omega
  unfold StV CurV
  simp only [e1, e2, Int.reduceAdd]
def CurR (K : Int → Int) (m : Mem) : Prop :=
  (m 27 0 = K 24 ∧ m 27 1 = K 22 ∧ m 27 2 = K 23 ∧ m 27 3 = K 21) ∧ ∀ p, 0 ≤ p → p < K 3 → m 28 p = K (13 + p) ∧ m 29 p = K (17 + p) ∧ m 30 p = K (9 + p)
theorem curR_iff {K : Int → Int} {m : Mem} : LfR 27 (K 3) (fun i => K (9 + i)) m ↔ CurR K m := by
  have e1 : ∀ p : Int, 9 + (4 + p) = 13 + p := fun p => by omega
  have e2 : ∀ p : Int, 9 + (8 + p) = 17 + p := fun p => by omega
  unfold LfR CurR
  simp only [e1, e2, Int.reduceAdd, Nat.reduceAdd]
/-- the island itself is the same -/
def SameI (K K' : Int → Int) : Prop := ∀ j, (j < 7 ∨ j = 8 ∨ (25 ≤ j ∧ j < 37) ∨ 197 ≤ j) → K' j = K j
theorem sameI_ku {K : Int → Int} {i v : Int} (h : i = 7 ∨ (9 ≤ i ∧ i < 25) ∨ (37 ≤ i ∧ i < 197)) : SameI K (ku K i v) := fun j hj => ku_ne (by omega)
theorem sameI_trans {K K' K'' : Int → Int} (h : SameI K K') (h' : SameI K' K'') : SameI K K'' := fun j hj => (h' j hj).trans (h j hj)
theorem LawV_same {c c' : Int → Int} {nw n : Int} {t : Bool} (h : ∀ i, 0 ≤ i → c' i = c i) (hv : LawV c nw n t) : LawV c' nw n t := by
  have e : ∀ j, tyN c' nw j = tyN c nw j := by
    intro j
    induction j with
    | zero => rfl
    | succ j ih => show (tyN c' nw j).bind _ = (tyN c nw j).bind _; rw [ih, h j (by omega)]
  unfold LawV at *
  simp only [e]
  exact hv
theorem IsV_same {K K' : Int → Int} (h : SameI K K') (hv : IsV K) : IsV K' := by
  have e : ∀ j : Int, (j < 7 ∨ j = 8 ∨ (25 ≤ j ∧ j < 37) ∨ 197 ≤ j) → K' j = K j := h
  obtain ⟨h1, h2, h3, h4, h5, h6, h7, h8, h9⟩ := hv
  have k1 := e 1 (by omega); have k2 := e 2 (by omega); have k3 := e 3 (by omega); have k4 := e 4 (by omega); have k5 := e 5 (by omega); have k6 := e 6 (by omega); have k8 := e 8 (by omega)
  unfold IsV
  rw [k1, k2, k3, k4, k5, k6, k8]
  refine ⟨h1, h2, h3, h4, fun h a b => ?_, fun g h a b d => ?_, fun p a b => ?_, LawV_same (fun i hi => e _ (by omega)) h8, LawV_same (fun i hi => e _ (by omega)) h9⟩
  · rw [e _ (by omega)]; exact h5 h a b
  · rw [e _ (by omega), e _ (by omega)]; exact h6 g h a b d
  · rw [e _ (by omega)]; exact h7 p a b
theorem LawR_same {o : Nat} {f c c' : Int → Int} {n : Int} {m : Mem} (h : ∀ i, 0 ≤ i → c' i = c i) (hr : LawR o f c n m) : LawR o f c' n m := by
  obtain ⟨h1, h2, h3, h4, h5, h6, h7⟩ := hr
  exact ⟨h1, h2, fun i a b => by rw [h i a]; exact h3 i a b, h4, h5, fun q i a b => by rw [h i a]; exact h6 q i a b, fun q i a b => by rw [h i a]; exact h7 q i a b⟩
theorem IsR_same {b : Nat} {K K' : Int → Int} {m : Mem} (h : SameI K K') (hI : IsV K) (hr : IsR b K m) : IsR b K' m := by
  have e : ∀ j : Int, (j < 7 ∨ j = 8 ∨ (25 ≤ j ∧ j < 37) ∨ 197 ≤ j) → K' j = K j := h
  have l3 := hI.2.1
  have l4 := hI.2.2.1
  obtain ⟨h1, h2, h3, h4, h5⟩ := hr
  unfold IsR
  rw [e 0 (by omega), e 1 (by omega), e 2 (by omega), e 3 (by omega), e 4 (by omega), e 5 (by omega), e 6 (by omega), e 8 (by omega)]
  refine ⟨h1, fun h a b => ?_, fun p a b => ?_, LawR_same (fun i hi => e _ (by omega)) h4, LawR_same (fun i hi => e _ (by omega)) h5⟩
  · rw [e _ (by omega)]; exact h2 h a b
  · rw [e _ (by omega)]; exact h3 p a b
theorem CR_fr {K : Int → Int} {m m' : Mem} (h : CR K m) (hq : ∀ o, 20 ≤ o → o < 31 → m' o = m o) : CR K m' :=
  ⟨IsR_fr h.1 (fun o a b => hq o (by omega) (by omega)), LfR_fr h.2 (fun o a b => hq o (by omega) (by omega))⟩
theorem CR_fr2 {K : Int → Int} {m m' : Mem} (h : CR K m) (hF : Fr [36, 37] m m') : CR K m' := CR_fr h (fun o a b => hF o (by simp; omega))
theorem CV_mono {c d : Int} {K : Int → Int} (h : CV c K) (hd : c ≤ d) : CV d K := by
  refine ⟨h.1, h.2.1, h.2.2.1, h.2.2.2.1, ?_, ?_⟩
  · have := h.2.2.2.2.1; exact ⟨this.1, by omega⟩
  · have := h.2.2.2.2.2; exact ⟨this.1, by omega⟩
theorem StV_mono {c d : Int} {K S : Int → Int} (h : StV K c S) (hd : c ≤ d) : StV K d S := by
  refine ⟨h.1, h.2.1, h.2.2.1, ?_, ?_⟩
  · have := h.2.2.2.1; exact ⟨this.1, by omega⟩
  · have := h.2.2.2.2; exact ⟨this.1, by omega⟩
theorem StV_isl {c : Int} {K K' S : Int → Int} (h : SameI K K') (hs : StV K c S) : StV K' c S := by
  unfold StV
  rw [h 1 (by omega), h 2 (by omega), h 3 (by omega), h 8 (by omega)]
  exact hs
/-! who is parted, how far apart: both sides -/
theorem bit01 {b : Bool} : ((if b then (1 : Int) else 0) = 0) ↔ b = false := by cases b <;> simp
theorem c_isParted {K : Int → Int} {p : Int} {m : Mem} (h : CR K m) (p0 : 0 ≤ p) (p1 : p < 32) : fX5_isParted p m = some (if tb (K 21) p.toNat then 1 else 0) := by
  unfold fX5_isParted
  simp only [rd_eq, jn_eq, (curR_iff.mp h.2).1.2.2.2, bit_ui _ p0 p1]
  cases tb (K 21) p.toNat
  · simp [chk_of]
  · simp [chk_of]
theorem m_has {x k : Int} {m : Mem} (k0 : 0 ≤ k) (k1 : k < 32) : fX12_has x k m = some (if tb x k.toNat then 1 else 0) := by
  unfold fX12_has
  simp only [jn_eq, bit_si _ k0 k1]
  cases tb x k.toNat
  · simp [chk_of]
  · simp [chk_of]
theorem chk01 {b : Bool} {x : Option Int} : chk ((if b then (1 : Int) else 0) = 0 ∨ (if b then (1 : Int) else 0) = 1) x = x := by cases b <;> exact chk_of (by simp)
theorem m_isParted {K : Int → Int} {p : Int} {m : Mem} (hK : m 288 = K) (p0 : 0 ≤ p) (p1 : p < 32) : fX12_isParted p m = some (if tb (K 21) p.toNat then 1 else 0) := by
  subst hK
  unfold fX12_isParted
  simp only [rd_eq, m_has p0 p1, bR_some]
  exact chk01
theorem c_apartP {K : Int → Int} {c p : Int} {m : Mem} (h : CR K m) (hV : CV c K) (p0 : 0 ≤ p) (p1 : p < K 3) : fX10_apart p m = some (apartF (K 1) (K (13 + p)) (K (17 + p))) := by
  have hR := (curR_iff.mp h.2).2 p p0 p1
  have hS := (curV_iff.mp hV.2).1 p p0 p1
  have hw := wide_of hV.1 p0 p1
  have ar := area_le hw.1.1 hw.1.2 hw.2.1 hw.2.2
  have h3 := hV.1.2.1
  unfold fX10_apart
  simp only [rd_eq, hR.1, hR.2.1]
  rw [chk_of ⟨p0, by omega⟩, chk_of ⟨p0, by omega⟩, c_apart h.1 hw.1.1 hw.1.2 (by omega) (by omega) (by omega) (by omega)]
  rfl
theorem m_apartOf {K : Int → Int} {c p : Int} {m : Mem} (hK : m 288 = K) (hV : CV c K) (p0 : 0 ≤ p) (p1 : p < K 3) : fX12_apartOf p m = some (apartF (K 1) (K (13 + p)) (K (17 + p))) := by
  have hS := (curV_iff.mp hV.2).1 p p0 p1
  have hw := wide_of hV.1 p0 p1
  have ar := area_le hw.1.1 hw.1.2 hw.2.1 hw.2.2
  have h3 := hV.1.2.1
  unfold fX12_apartOf
  simp only [rd_eq, hK]
  rw [w32_id (x := 13 + p) (by omega) (by omega), w32_id (x := 17 + p) (by omega) (by omega), chk_of (by omega), chk_of (by omega), m_apart hK hw.1.1 hw.1.2 (by omega) (by omega) (by omega) (by omega)]
  rfl
theorem c_ropeIn {K : Int → Int} {c p h : Int} {m : Mem} (hR : CR K m) (hV : CV c K) (p0 : 0 ≤ p) (p1 : p < K 3) (h0 : 0 ≤ h) : Ok (fX10_ropeIn p h m) (fun r => r.1 = lenF K p (K (25 + p)) h ∧ Fr [36, 37] m r.2) := by
  have h3 := hV.1.2.1
  have hr := hV.1.2.2.2.2.2.2.1 p p0 p1
  unfold fX10_ropeIn
  simp only [rd_eq]
  rw [chk_of ⟨p0, by omega⟩, show m 22 p = K (25 + p) from hR.1.2.2.1 p p0 p1]
  exact ok_bW (c_lengthOf hV.1 hV.2 hR.1 hR.2 p0 p1 (by omega) (by omega) h0) (fun v m' q => ok_some q)
/-! an hour goes by -/
/-- whether a pair is parted now -/
def pdB (K : Int → Int) (i : Nat) : Bool := !tb (K 21) i && decide (lenF K i (K (25 + i)) (K 24) < apartF (K 1) (K (13 + i)) (K (17 + i)))
def pdN (K : Int → Int) : Nat → Int
  | 0 => 0
  | n + 1 => if pdB K n then ior (pdN K n) (ishl 1 n) else pdN K n
theorem pdN_yes {K : Int → Int} {n : Nat} (h : pdB K n = true) : pdN K (n + 1) = ior (pdN K n) (ishl 1 n) := by
  show (if pdB K n then ior (pdN K n) (ishl 1 n) else pdN K n) = _
  rw [if_pos h]
theorem pdN_no {K : Int → Int} {n : Nat} (h : pdB K n = false) : pdN K (n + 1) = pdN K n := by
  show (if pdB K n then ior (pdN K n) (ishl 1 n) else pdN K n) = _
  rw [if_neg (by simp [h])]
theorem pdN_bits {K : Int → Int} : ∀ n, n ≤ 31 → Bits (pdN K n) (fun i => i < n ∧ pdB K i = true) := by
  intro n
  induction n with
  | zero => intro _; exact bits_zero (fun i _ q => by omega)
  | succ n ih =>
    intro hn
    have := ih (by omega)
    unfold pdN
    split
    · refine bits_imp (bits_or this (by omega) (by omega)) (fun i hi => ?_)
      rename_i hp
      simp only [Int.toNat_natCast]
      constructor
      · rintro (⟨a, b⟩ | a)
        · exact ⟨by omega, b⟩
        · subst a; exact ⟨by omega, hp⟩
      · rintro ⟨a, b⟩
        by_cases e : i = n
        · exact .inr e
        · exact .inl ⟨by omega, b⟩
    · refine bits_imp this (fun i hi => ?_)
      rename_i hp
      constructor
      · rintro ⟨a, b⟩; exact ⟨by omega, b⟩
      · rintro ⟨a, b⟩
        by_cases e : i = n
        · subst e; exact absurd b hp
        · exact ⟨by omega, b⟩
theorem ior_zero {x : Int} (h : -2147483648 ≤ x ∧ x < 2147483648) : ior x 0 = x := tb_ext (ior_rg _ _) h (fun i _ => by rw [tb_or, tb_zero]; simp)
theorem pdN_rg {K : Int → Int} (n : Nat) : -2147483648 ≤ pdN K n ∧ pdN K n < 2147483648 := by
  induction n with
  | zero => unfold pdN; omega
  | succ n ih => unfold pdN; split; exact ior_rg _ _; exact ih
def tooF (K : Int → Int) : Int := pdN K (K 3).toNat
theorem c_tooFar {K : Int → Int} {c : Int} {m : Mem} (hR : CR K m) (hV : CV c K) (c1 : c ≤ 2000000) : Ok (fX10_tooFarApart m) (fun r => r.1 = tooF K ∧ Fr [36, 37] m r.2) := by
  have h3 := hV.1.2.1
  have hh := (curV_iff.mp hV.2).2.2.2.2
  unfold fX10_tooFarApart
  simp only [rd_eq, jn_eq]
  refine lp_for2 (K 3) (fun t i mm => ∃ j : Nat, i = (j : Int) ∧ t = pdN K j ∧ Fr [36, 37] m mm) ⟨0, rfl, rfl, fr_refl⟩ h3.1 (by omega) ?_ ?_
  · rintro G t i mm hi ⟨j, rfl, rfl, hF⟩ ih
    have hR' := CR_fr2 hR hF
    have e3 : mm 20 5 = K 3 := hR'.1.1.2.2.2.2.2
    have hr := hV.1.2.2.2.2.2.2.1 j (by omega) hi
    rw [e3, if_neg (by omega), if_neg (by omega), c_isParted hR' (by omega) (by omega), bR_some, w32_id (x := (j : Int) + 1) (by omega) (by omega)]
    have nx : ∀ m', Fr [36, 37] mm m' → Ok (G (pdN K (j + 1), (j : Int) + 1) m') (fun r => r.1 = tooF K ∧ Fr [36, 37] m r.2) := fun m' hf => ih _ m' ⟨j + 1, by simp, rfl, fr_trans hF hf⟩
    rw [Int.toNat_natCast]
    cases ht : tb (K 21) j
    · rw [if_neg (by simp), c_apartP hR' hV (by omega) hi, bR_some, chk_of ⟨by omega, by omega⟩, show mm 22 j = K (25 + j) from hR'.1.2.2.1 j (by omega) hi, (curR_iff.mp hR'.2).1.1]
      refine ok_bW (c_lengthOf hV.1 hV.2 hR'.1 hR'.2 (by omega) hi (by omega) (by omega) (by omega)) ?_
      rintro x m' ⟨ex, hf⟩
      simp only at ex hf
      subst ex
      by_cases q : apartF (K 1) (K (13 + j)) (K (17 + j)) ≤ lenF K j (K (25 + j)) (K 24)
      · rw [if_pos q]
        have := nx m' hf
        rwa [pdN_no (K := K) (by simp [pdB, ht]; omega)] at this
      · rw [if_neg q]
        have := nx m' hf
        rwa [pdN_yes (K := K) (by simp [pdB, ht]; omega)] at this
    · rw [if_pos (by simp)]
      have := nx mm fr_refl
      rwa [pdN_no (K := K) (by simp [pdB, ht])] at this
  · rintro G t mm ⟨j, hj, rfl, hF⟩
    have e3 : mm 20 5 = K 3 := (CR_fr2 hR hF).1.1.2.2.2.2.2
    rw [e3, if_pos (by omega)]
    refine ok_some ⟨?_, hF⟩
    show pdN K j = _
    rw [tooF, hj, Int.toNat_natCast]
def hourK (K : Int → Int) : Int → Int := ku (ku K 24 (K 24 + 1)) 21 (ior (K 21) (tooF (ku K 24 (K 24 + 1))))
theorem sameI_hour (K : Int → Int) : SameI K (hourK K) := sameI_trans (sameI_ku (by omega)) (sameI_ku (by omega))
theorem CV_hour1 {c : Int} {K : Int → Int} (h : CV c K) : CV (c + 1) (ku K 24 (K 24 + 1)) := by
  have hs : SameI K (ku K 24 (K 24 + 1)) := sameI_ku (by omega)
  refine ⟨IsV_same hs h.1, curV_iff.mpr ?_⟩
  obtain ⟨h1, h2, h3, h4, h5⟩ := curV_iff.mp h.2
  have h3' := h.1.2.1
  unfold CurV
  rw [hs 1 (by omega), hs 2 (by omega), hs 3 (by omega), hs 8 (by omega), ku_ne (by omega), ku_ne (by omega), ku_ne (by omega), ku_at]
  refine ⟨fun p a b => ?_, h2, h3, by omega, by omega⟩
  rw [ku_ne (by omega), ku_ne (by omega), ku_ne (by omega)]
  exact h1 p a b
theorem tooF_bits {K : Int → Int} (h : 0 ≤ K 3 ∧ K 3 ≤ 4) : Bits (tooF K) (fun i => (i : Int) < K 3 ∧ pdB K i = true) :=
  bits_imp (pdN_bits _ (by omega)) (fun i hi => by constructor <;> rintro ⟨a, b⟩ <;> exact ⟨by omega, b⟩)
theorem small_of_bits {x : Int} (h : -2147483648 ≤ x ∧ x < 2147483648) (n : Nat) (hn : n < 31) (hb : ∀ i, tb x i = true → i < n) : 0 ≤ x ∧ x < 2 ^ n := by
  have h0 : 0 ≤ x := (tb_nonneg h).mp (by cases q : tb x 31 with | false => rfl | true => have := hb 31 q; omega)
  refine ⟨h0, ?_⟩
  have e : BitVec.ofInt 32 x = BitVec.ofNat 32 x.toNat := by
    rw [← BitVec.ofInt_natCast, Int.toNat_of_nonneg h0]
  have hx : x.toNat < 2 ^ n := by
    apply Nat.lt_pow_two_of_testBit
    intro i hi
    cases q : x.toNat.testBit i with
    | false => rfl
    | true =>
      exfalso
      by_cases hi2 : i < 32
      · have : tb x i = true := by
          unfold tb; rw [e, BitVec.getLsbD_ofNat]; simp [hi2, q]
        have := hb i this; omega
      · have h2 : x.toNat < 2 ^ i := Nat.lt_of_lt_of_le (show x.toNat < 2 ^ 31 by omega) (Nat.pow_le_pow_right (by decide) (by omega))
        rw [Nat.testBit_lt_two_pow h2] at q; cases q
  have : x = (x.toNat : Int) := (Int.toNat_of_nonneg h0).symm
  rw [this]
  exact_mod_cast hx
theorem CV_hour {c : Int} {K : Int → Int} (h : CV c K) : CV (c + 1) (hourK K) := by
  have h1 := CV_hour1 h
  refine ⟨IsV_same (sameI_hour K) h.1, curV_iff.mpr ?_⟩
  obtain ⟨g1, g2, g3, g4, g5⟩ := curV_iff.mp h1.2
  have h3 := h.1.2.1
  have e3 : ku K 24 (K 24 + 1) 3 = K 3 := ku_ne (by omega)
  have e21 : ku K 24 (K 24 + 1) 21 = K 21 := ku_ne (by omega)
  have hb : ∀ i, tb (ior (K 21) (tooF (ku K 24 (K 24 + 1)))) i = true → (i : Int) < K 3 := by
    intro i hi
    rw [tb_or, Bool.or_eq_true] at hi
    rcases hi with hi | hi
    · rw [e21, e3] at g2; exact g2.2.2 i hi
    · by_cases q : i < 32
      · have := ((tooF_bits (K := ku K 24 (K 24 + 1)) (by rw [e3]; exact h3)).2 i q).mp hi
        rw [e3] at this; exact this.1
      · rw [tb_big (by omega)] at hi; cases hi
  have hsm := small_of_bits (ior_rg _ _) 4 (by decide) (fun i hi => by have := hb i hi; omega)
  have s : ∀ j : Int, j ≠ 21 → hourK K j = ku K 24 (K 24 + 1) j := fun j hj => ku_ne hj
  unfold CurV
  rw [s 1 (by omega), s 2 (by omega), s 3 (by omega), s 8 (by omega), s 22 (by omega), s 23 (by omega), s 24 (by omega), show hourK K 21 = ior (K 21) (tooF (ku K 24 (K 24 + 1))) from ku_at _ _ _]
  refine ⟨fun p a b => ?_, ⟨hsm.1, by have := hsm.2; omega, fun i hi => by rw [e3]; exact hb i hi⟩, g3, g4, g5⟩
  have p3 : p < K 3 := by rw [← e3]; exact b
  rw [s _ (by omega), s _ (by omega), s _ (by omega)]
  exact g1 p a b
theorem CR_cur {K K' : Int → Int} {m m' : Mem} (hs : SameI K K') (hI : IsV K) (h : CR K m) (hi : ∀ o, 20 ≤ o → o < 27 → m' o = m o) (hc : CurR K' m') : CR K' m' :=
  ⟨IsR_same hs hI (IsR_fr h.1 (fun o a b => hi o a (by omega))), curR_iff.mpr hc⟩
theorem c_passHour {K : Int → Int} {c : Int} {m : Mem} (hR : CR K m) (hV : CV c K) (c0 : 0 ≤ c) (c1 : c ≤ 1000000) : Ok (fX10_passHour m) (fun m' => CR (hourK K) m' ∧ Fr [27, 36, 37] m m') := by
  obtain ⟨⟨r0, r1, r2, r3⟩, r4⟩ := curR_iff.mp hR.2
  have hh := (curV_iff.mp hV.2).2.2.2.2
  have h3 := hV.1.2.1
  unfold fX10_passHour
  simp only [rd_eq, wr_eq, r0]
  rw [w32_id (x := K 24 + 1) (by omega) (by omega), up_row, ku_ne (by decide), r3]
  have hF1 : Fr [27] m (up m 27 0 (K 24 + 1)) := fr_up (by simp) fr_refl
  have hR1 : CR (ku K 24 (K 24 + 1)) (up m 27 0 (K 24 + 1)) := by
    refine CR_cur (sameI_ku (by omega)) hV.1 hR (fun o a b => hF1 o (by simp; omega)) ⟨⟨?_, ?_, ?_, ?_⟩, fun p a b => ?_⟩
    · rw [up_row, ku_at, ku_at]
    · rw [up_row, ku_ne (by decide), ku_ne (by decide), r1]
    · rw [up_row, ku_ne (by decide), ku_ne (by decide), r2]
    · rw [up_row, ku_ne (by decide), ku_ne (by decide), r3]
    · rw [ku_ne (by decide)] at b
      rw [hF1 28 (by decide), hF1 29 (by decide), hF1 30 (by decide), ku_ne (by omega), ku_ne (by omega), ku_ne (by omega)]
      exact r4 p a b
  refine ok_bW (c_tooFar hR1 (CV_hour1 hV) (by omega)) ?_
  rintro x m' ⟨ex, hf⟩
  simp only at ex hf
  subst ex
  have hR2 := CR_fr2 hR1 hf
  have hF2 : Fr [27, 36, 37] m m' := fr_trans (fr_mono' hF1 (by decide)) (fr_mono' hf (by decide))
  refine ok_some ⟨?_, fr_up (by simp) hF2⟩
  obtain ⟨⟨s0, s1, s2, s3⟩, s4⟩ := curR_iff.mp hR2.2
  have hF3 : Fr [27] m' (up m' 27 3 (ior (K 21) (tooF (ku K 24 (K 24 + 1))))) := fr_up (by simp) fr_refl
  refine CR_cur (K := ku K 24 (K 24 + 1)) (sameI_ku (by omega)) (CV_hour1 hV).1 hR2 (fun o a b => hF3 o (by simp; omega)) ⟨⟨?_, ?_, ?_, ?_⟩, fun p a b => ?_⟩
  · simp [up, hourK, ku, s0]
  · simp [up, hourK, ku, s1]
  · simp [up, hourK, ku, s2]
  · rw [up_row, ku_at, hourK, ku_at]
  · rw [hourK, ku_ne (by decide)] at b
    have : p < K 3 := by rwa [ku_ne (by decide)] at b
    rw [hF3 28 (by decide), hF3 29 (by decide), hF3 30 (by decide), hourK, ku_ne (by omega), ku_ne (i := 21) (j := 17 + p) (by omega), ku_ne (i := 21) (j := 9 + p) (by omega)]
    exact s4 p a b
theorem m_hour {K : Int → Int} {c : Int} {m : Mem} (hK : m 288 = K) (hV : CV c K) (c0 : 0 ≤ c) (c1 : c ≤ 1000000) : Ok (fX12_hour m) (fun r => r.1 = tooF (ku K 24 (K 24 + 1)) ∧ r.2 288 = hourK K ∧ Fr [288, 293, 294] m r.2) := by
  have hh := (curV_iff.mp hV.2).2.2.2.2
  have h3 := hV.1.2.1
  unfold fX12_hour
  simp only [rd_eq, wr_eq, jn_eq, hK]
  rw [w32_id (x := K 24 + 1) (by omega) (by omega)]
  have hV1 := CV_hour1 hV
  have hr1 : (up m 288 24 (K 24 + 1)) 288 = ku K 24 (K 24 + 1) := by rw [up_row, hK]
  have e3 : ku K 24 (K 24 + 1) 3 = K 3 := ku_ne (by decide)
  have hs : SameI K (ku K 24 (K 24 + 1)) := sameI_ku (by omega)
  have e21 : ku K 24 (K 24 + 1) 21 = K 21 := ku_ne (by decide)
  have FF : Fr [288, 293, 294] m (up m 288 24 (K 24 + 1)) := fr_up (by simp) fr_refl
  have hL : hourK K = ku (ku K 24 (K 24 + 1)) 21 (ior (K 21) (tooF (ku K 24 (K 24 + 1)))) := rfl
  generalize hK1 : ku K 24 (K 24 + 1) = K1 at *
  generalize up m 288 24 (K 24 + 1) = m1 at *
  refine lp_for2 (K 3) (fun t i mm => ∃ j : Nat, i = (j : Int) ∧ t = pdN K1 j ∧ Fr [293, 294] m1 mm) ⟨0, rfl, rfl, fr_refl⟩ h3.1 (by omega) ?_ ?_
  · rintro G t i mm hi ⟨j, rfl, rfl, hF⟩ ih
    have hK' : mm 288 = K1 := (hF 288 (by decide)).trans hr1
    rw [hK', e3, if_neg (by omega), m_isParted hK' (by omega) (by omega), bR_some, w32_id (x := (j : Int) + 1) (by omega) (by omega)]
    have nx : ∀ m', Fr [293, 294] mm m' → Ok (G (pdN K1 (j + 1), (j : Int) + 1) m') (fun r => r.1 = tooF K1 ∧ r.2 288 = hourK K ∧ Fr [288, 293, 294] m r.2) := fun m' hf => ih _ m' ⟨j + 1, by simp, rfl, fr_trans hF hf⟩
    rw [Int.toNat_natCast]
    cases ht : tb (K1 21) j
    · rw [if_neg (by simp), m_apartOf hK' hV1 (by omega) (by omega), bR_some]
      refine ok_bW (m_lengthNow hK' hV1.1 hV1.2 (by omega) (by omega)) ?_
      rintro x m' ⟨ex, hf⟩
      simp only at ex hf
      subst ex
      by_cases q : apartF (K1 1) (K1 (13 + j)) (K1 (17 + j)) ≤ lenF K1 j (K1 (25 + j)) (K1 24)
      · rw [if_pos q, ior_zero (pdN_rg j)]
        have := nx m' hf
        rwa [pdN_no (K := K1) (by simp [pdB, ht]; omega)] at this
      · rw [if_neg q]
        have := nx m' hf
        rwa [pdN_yes (K := K1) (by simp [pdB, ht]; omega)] at this
    · rw [if_pos (by simp), ior_zero (pdN_rg j)]
      have := nx mm fr_refl
      rwa [pdN_no (K := K1) (by simp [pdB, ht])] at this
  · rintro G t mm ⟨j, hj, rfl, hF⟩
    have hK' : mm 288 = K1 := (hF 288 (by decide)).trans hr1
    have ej : pdN K1 j = tooF K1 := by rw [tooF, e3, hj, Int.toNat_natCast]
    rw [hK', e3, if_pos (by omega), ej, e21]
    refine ok_some ⟨rfl, ?_, fr_up (by simp) (fr_trans FF (fr_mono' hF (by decide)))⟩
    show (up mm 288 21 (ior (K 21) (tooF K1))) 288 = hourK K
    rw [up_row, hK', hL]

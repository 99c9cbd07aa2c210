/-! ===== D81: a law as it is read ===== -/
def oL (b : Bool) : Nat := if b then 12 else 10
def qL (b : Bool) : Int := if b then 6 else 5
def bL (b : Bool) : Int := if b then 1097 else 197
def nwL (b : Bool) : Int := if b then 6 else 5
def fnL (b : Bool) : Int → Int := if b then fM else fL
def loL (b : Bool) : Int := if b then 130 else 128
def hiL (b : Bool) : Int := if b then 135 else 132
def LawOk (c : Int → Int) (nw : Int) (N : Nat) (T0 : List Bool) : Prop := tyN c nw N = some T0 ∧ ∀ (j : Nat) (T' : List Bool), j ≤ N → tyN c nw j = some T' → T'.length ≤ 60
theorem tyN_cong {c c' : Int → Int} {nw : Int} : ∀ n : Nat, (∀ j : Nat, j < n → c j = c' j) → tyN c nw n = tyN c' nw n
  | 0, _ => rfl
  | n + 1, e => by
    show (tyN c nw n).bind (tyS nw (c n)) = (tyN c' nw n).bind (tyS nw (c' n))
    rw [tyN_cong n (fun j hj => e j (by omega)), e n (by omega)]
theorem law_put {c : Int → Int} {nw op : Int} {N : Nat} {T0 T1 : List Bool} (h : LawOk c nw N T0) (ht : tyS nw op T0 = some T1) (hl : T1.length ≤ 60) : LawOk (ku c (N : Int) op) nw (N + 1) T1 := by
  have e : ∀ j : Nat, j ≤ N → tyN (ku c (N : Int) op) nw j = tyN c nw j := fun j hj => tyN_cong j (fun k hk => ku_ne (by omega))
  have e1 : tyN (ku c (N : Int) op) nw (N + 1) = some T1 := by
    show (tyN (ku c (N : Int) op) nw N).bind (tyS nw (ku c (N : Int) op (N : Int))) = _
    rw [e N (Nat.le_refl _), h.1, ku_at]; exact ht
  refine ⟨e1, fun j T' hj hT => ?_⟩
  by_cases z : j = N + 1
  · rw [z, e1] at hT
    cases hT; exact hl
  · rw [e j (by omega)] at hT
    exact h.2 j T' (by omega) hT
theorem law_cong {c c' : Int → Int} {nw : Int} {N : Nat} {T0 : List Bool} (e : ∀ j : Nat, j < N → c j = c' j) (h : LawOk c nw N T0) : LawOk c' nw N T0 :=
  ⟨by rw [← tyN_cong N e]; exact h.1, fun j T' hj hT => h.2 j T' hj (by rw [tyN_cong j (fun k hk => e k (by omega))]; exact hT)⟩
def LwC (S : Stm) (b : Bool) (f pl : Int) (i : Nat) (c : Int → Int) (N : Nat) (m : Mem) : Prop :=
  CC S f pl i m ∧ m 2 8 = (oL b : Int) ∧ ((m (oL b) 5 = 0 ∨ m (oL b) 5 = 1) ∧ (m (oL b) 6 = 0 ∨ m (oL b) 6 = 1) ∧ 0 ≤ m (oL b) 1 ∧ m (oL b) 1 ≤ 900) ∧ (m (oL b) 2 = loL b ∧ m (oL b) 3 = hiL b) ∧
  (f = 0 → m (oL b) 1 = (N : Int) ∧ (∀ j : Int, 0 ≤ j → j < (N : Int) → m (oL b + 1) j = trO (fnL b) (c j)) ∧ (m (oL b) 5 = 0 → ∀ j : Int, 0 ≤ j → j < (N : Int) → trO (fnL b) (c j) ≠ 131) ∧ (m (oL b) 6 = 0 → ∀ j : Int, 0 ≤ j → j < (N : Int) → trO (fnL b) (c j) ≠ 130))
def FLw (b : Bool) (m m' : Mem) : Prop := Fr [2, oL b, oL b + 1] m m' ∧ (∀ j, j ≠ 3 → j ≠ 4 → j ≠ 5 → m' 2 j = m 2 j) ∧ m' (oL b) 4 = m (oL b) 4
def LwM (S : Stm) (b : Bool) (d : Int) (f pl : Int) (i : Nat) (c : Int → Int) (N : Nat) (K0 : Int → Int) (m : Mem) : Prop :=
  MC S f pl i m ∧ (m 287 17 = qL b ∧ m 287 18 = bL b) ∧ (f = 0 → m 287 16 = d) ∧ (f = 0 → m 289 (qL b) = (N : Int) ∧ (∀ j : Int, 0 ≤ j → j < 900 → m 289 (bL b + j) = c j) ∧ ∀ x, x ≠ qL b → (x < bL b ∨ bL b + 900 ≤ x) → m 289 x = K0 x)
def GL (m m' : Mem) : Prop := Fr [287, 289] m m' ∧ ∀ j, j < 8 ∨ 14 ≤ j → j ≠ 16 → m' 287 j = m 287 j
theorem fl_refl {b : Bool} {m : Mem} : FLw b m m := ⟨fr_refl, fun _ _ _ _ => rfl, rfl⟩
theorem gl_refl {m : Mem} : GL m m := ⟨fr_refl, fun _ _ _ => rfl⟩
theorem fl_trans {b : Bool} {x y z : Mem} (h : FLw b x y) (k : FLw b y z) : FLw b x z := ⟨fr_trans h.1 k.1, fun j a c e => (k.2.1 j a c e).trans (h.2.1 j a c e), k.2.2.trans h.2.2⟩
theorem gl_trans {x y z : Mem} (h : GL x y) (k : GL y z) : GL x z := ⟨fr_trans h.1 k.1, fun j a c => (k.2 j a c).trans (h.2 j a c)⟩
theorem oL_cases (b : Bool) : oL b = 10 ∨ oL b = 12 := by cases b <;> simp [oL]
theorem fl_f2 {b : Bool} {m m' : Mem} (h : F2 m m') : FLw b m m' := by
  have := oL_cases b
  exact ⟨fr_mono h.1 (fun o ho => by simp at ho ⊢; omega), h.2, by rw [h.1 (oL b) (by simp; omega)]⟩
theorem gl_g2 {m m' : Mem} (h : G2 m m') : GL m m' := ⟨fr_mono' h.1 (by decide), fun j a _ => h.2 j a⟩
theorem lwC_f2 {S : Stm} {b : Bool} {f pl f' pl' : Int} {i i' : Nat} {c : Int → Int} {N : Nat} {m m' : Mem} (h : LwC S b f pl i c N m) (hF : F2 m m') (hC : CC S f' pl' i' m') (hf : f' = 0 → f = 0) : LwC S b f' pl' i' c N m' := by
  have o := oL_cases b
  obtain ⟨_, h2, h3, h4, h5⟩ := h
  have e0 : m' (oL b) = m (oL b) := hF.1 _ (by simp; omega)
  have e1 : m' (oL b + 1) = m (oL b + 1) := hF.1 _ (by simp; omega)
  refine ⟨hC, (hF.2 8 (by decide) (by decide) (by decide)).trans h2, by rw [e0]; exact h3, by rw [e0]; exact h4, fun z => ?_⟩
  rw [e0, e1]; exact h5 (hf z)
theorem lwM_g2 {S : Stm} {b : Bool} {d f pl f' pl' : Int} {i i' : Nat} {c : Int → Int} {N : Nat} {K0 : Int → Int} {m m' : Mem} (h : LwM S b d f pl i c N K0 m) (hG : G2 m m') (hM : MC S f' pl' i' m') (hf : f' = 0 → f = 0) : LwM S b d f' pl' i' c N K0 m' := by
  obtain ⟨_, h2, h3, h4⟩ := h
  have e : m' 289 = m 289 := hG.1 289 (by decide)
  refine ⟨hM, ⟨(hG.2 17 (by decide)).trans h2.1, (hG.2 18 (by decide)).trans h2.2⟩, fun z => (hG.2 16 (by decide)).trans (h3 (hf z)), fun z => ?_⟩
  rw [e]; exact h4 (hf z)
/-- token for token, within a law -/
def LkL (S : Stm) (b : Bool) (d f pl : Int) (i : Nat) (c : Int → Int) (N : Nat) (x : Option Mem) (mc : Mem) (y : Mem → Option Mem) (Q : Nat → (Int → Int) → Nat → Prop) : Prop :=
  Ok x (fun mc' => ∃ f' pl' i' c' N', LwC S b f' pl' i' c' N' mc' ∧ FLw b mc mc' ∧ (f' = 0 → f = 0 ∧ Q i' c' N') ∧ ∀ K0 mm, LwM S b d f pl i c N K0 mm → Ok (y mm) (fun mm' => LwM S b d f' pl' i' c' N' K0 mm' ∧ GL mm mm'))
theorem layO (b : Bool) : layL[oL b]? = some (.inl 4) := by cases b <;> decide +kernel
theorem ior_01 {v t : Int} (a : v = 0 ∨ v = 1) (e : t = 0 ∨ t = 1) : (ior v t = 0 ∨ ior v t = 1) ∧ (ior v t = 0 → (v = 0 ∧ t = 0)) := by
  have h00 : ior 0 0 = 0 ∧ ior 0 1 = 1 ∧ ior 1 0 = 1 ∧ ior 1 1 = 1 := by decide +kernel
  rcases a with rfl | rfl <;> rcases e with rfl | rfl <;> simp [h00]
def PutR (o : Nat) (xx : Int) (mc m4 : Mem) : Prop :=
  (mc o 1 < 900 → m4 o 1 = mc o 1 + 1 ∧ ∀ j, m4 (o + 1) j = if j = mc o 1 then xx else mc (o + 1) j) ∧ (900 ≤ mc o 1 → m4 o 1 = mc o 1) ∧
  ((m4 o 5 = 0 ∨ m4 o 5 = 1) ∧ (m4 o 5 = 0 → mc o 5 = 0 ∧ xx ≠ 131)) ∧ ((m4 o 6 = 0 ∨ m4 o 6 = 1) ∧ (m4 o 6 = 0 → mc o 6 = 0 ∧ xx ≠ 130)) ∧ (m4 o 2 = mc o 2 ∧ m4 o 3 = mc o 3 ∧ m4 o 4 = mc o 4) ∧ Fr [o, o + 1] mc m4
theorem c_putEnd {o : Nat} {xx t5 t6 : Int} {mc : Mem} (s3 : 0 ≤ mc o 1) (z5 : (ior (mc o 5) t5 = 0 ∨ ior (mc o 5) t5 = 1) ∧ (ior (mc o 5) t5 = 0 → mc o 5 = 0 ∧ t5 = 0)) (z6 : (ior (mc o 6) t6 = 0 ∨ ior (mc o 6) t6 = 1) ∧ (ior (mc o 6) t6 = 0 → mc o 6 = 0 ∧ t6 = 0)) (n5 : t5 = 0 → xx ≠ 131) (n6 : t6 = 0 → xx ≠ 130) {m2 : Mem} (em2 : m2 = up (up mc o 5 (ior (mc o 5) t5)) o 6 (ior (mc o 6) t6)) :
    Ok (if 900 ≤ m2 o 1 then some m2 else chk ((0 : Int) ≤ m2 o 1 ∧ m2 o 1 < ((900 : Nat) : Int)) (some (up (up m2 (o + 1) (m2 o 1) xx) o 1 (w32 (up m2 (o + 1) (m2 o 1) xx o 1 + 1))))) (PutR o xx mc) := by
  have ne : o ≠ o + 1 := Nat.ne_of_lt (Nat.lt_succ_self o)
  have F0 : Fr [o] mc m2 := by rw [em2]; exact fr_up (by simp) (fr_up (by simp) fr_refl)
  have e1 : m2 o 1 = mc o 1 := by rw [em2, up_idx (by decide), up_idx (by decide)]
  have e2 : m2 o 2 = mc o 2 := by rw [em2, up_idx (by decide), up_idx (by decide)]
  have e3 : m2 o 3 = mc o 3 := by rw [em2, up_idx (by decide), up_idx (by decide)]
  have e4 : m2 o 4 = mc o 4 := by rw [em2, up_idx (by decide), up_idx (by decide)]
  have e5 : m2 o 5 = ior (mc o 5) t5 := by rw [em2, up_idx (by decide), up_same]
  have e6 : m2 o 6 = ior (mc o 6) t6 := by rw [em2, up_same]
  have sub : ∀ q, q ∈ [o] → q ∈ [o, o + 1] := fun q hq => by rw [List.mem_singleton.mp hq]; simp
  rw [e1]
  by_cases h900 : 900 ≤ mc o 1
  · rw [if_pos h900]
    exact ok_some ⟨fun z => absurd h900 (Int.not_le.mpr z), fun _ => e1, ⟨by rw [e5]; exact z5.1, fun z => by rw [e5] at z; exact ⟨(z5.2 z).1, n5 (z5.2 z).2⟩⟩, ⟨by rw [e6]; exact z6.1, fun z => by rw [e6] at z; exact ⟨(z6.2 z).1, n6 (z6.2 z).2⟩⟩, ⟨e2, e3, e4⟩, fr_mono F0 sub⟩
  · have lt : mc o 1 < 900 := Int.not_le.mp h900
    have k1 : -2147483648 ≤ mc o 1 + 1 ∧ mc o 1 + 1 < 2147483648 := by
      clear z5 z6
      omega
    rw [if_neg h900, chk_of ⟨s3, lt⟩, up_cell ne, e1, w32_id k1.1 k1.2]
    have w : ∀ j, j ≠ 1 → up (up m2 (o + 1) (mc o 1) xx) o 1 (mc o 1 + 1) o j = m2 o j := fun j hj => by rw [up_idx hj, up_cell ne]
    refine ok_some ⟨fun _ => ⟨up_same _ _ _ _, fun j => ?_⟩, fun z => absurd z h900, ⟨by rw [w 5 (by decide), e5]; exact z5.1, fun z => by rw [w 5 (by decide), e5] at z; exact ⟨(z5.2 z).1, n5 (z5.2 z).2⟩⟩, ⟨by rw [w 6 (by decide), e6]; exact z6.1, fun z => by rw [w 6 (by decide), e6] at z; exact ⟨(z6.2 z).1, n6 (z6.2 z).2⟩⟩, ⟨(w 2 (by decide)).trans e2, (w 3 (by decide)).trans e3, (w 4 (by decide)).trans e4⟩, fr_up (by simp) (fr_up (by simp) (fr_mono F0 sub))⟩
    rw [up_cell ne.symm, up_at, F0 (o + 1) (by simp)]
theorem c_putRaw {o : Nat} {xx : Int} {mc : Mem} (s1 : mc o 5 = 0 ∨ mc o 5 = 1) (s2 : mc o 6 = 0 ∨ mc o 6 = 1) (s3 : 0 ≤ mc o 1) : Ok (fX4_put o xx mc) (PutR o xx mc) := by
  unfold fX4_put
  simp only [rd_eq]
  simp only [wr_eq]
  simp only [jn_eq]
  by_cases h131 : xx = 131
  · have n130 : xx ≠ 130 := by rw [h131]; decide
    rw [if_neg (fun z => z h131), chk_of (ior_01 s1 (.inr rfl)).1, if_pos n130, up_idx (show (6 : Int) ≠ 5 by decide), chk_of (ior_01 s2 (.inl rfl)).1]
    exact c_putEnd s3 (ior_01 s1 (.inr rfl)) (ior_01 s2 (.inl rfl)) (fun z => absurd z (by decide)) (fun _ => n130) rfl
  · rw [if_pos h131, chk_of (ior_01 s1 (.inl rfl)).1, up_idx (show (6 : Int) ≠ 5 by decide)]
    by_cases h130 : xx = 130
    · rw [if_neg (fun z => z h130), chk_of (ior_01 s2 (.inr rfl)).1]
      exact c_putEnd s3 (ior_01 s1 (.inl rfl)) (ior_01 s2 (.inr rfl)) (fun _ => h131) (fun z => absurd z (by decide)) rfl
    · rw [if_pos h130, chk_of (ior_01 s2 (.inl rfl)).1]
      exact c_putEnd s3 (ior_01 s1 (.inl rfl)) (ior_01 s2 (.inl rfl)) (fun _ => h131) (fun _ => h130) rfl
theorem bq_cases (b : Bool) : (qL b = 5 ∧ bL b = 197) ∨ (qL b = 6 ∧ bL b = 1097) := by cases b <;> simp [qL, bL]
theorem m_laysStep {S : Stm} {b : Bool} {d pl op : Int} {i : Nat} {c : Int → Int} {N : Nat} {K0 : Int → Int} {mm : Mem} (hN9 : N < 900) (hM : LwM S b d 0 pl i c N K0 mm) : Ok (fX12_laysStep op mm) (fun mm' => LwM S b d 0 pl i (ku c (N : Int) op) (N + 1) K0 mm' ∧ GL mm mm') := by
  obtain ⟨g1, ⟨g2, g3⟩, g4, g5⟩ := hM
  obtain ⟨k1, k2, k3⟩ := g5 rfl
  have bb := bq_cases b
  unfold fX12_laysStep
  simp only [rd_eq]
  simp only [wr_eq]
  have u17 : up mm 289 (bL b + (N : Int)) op 287 17 = qL b := by rw [up_cell (by decide)]; exact g2
  have u289 : up mm 289 (bL b + (N : Int)) op 289 (qL b) = (N : Int) := by rw [up_idx (by omega)]; exact k1
  rw [g1.2.1.1, if_pos rfl, g2, g3, chk_of (by omega), k1, w32_id (x := bL b + (N : Int)) (by omega) (by omega), chk_of (by omega), u17, chk_of (by omega), u289, chk_of (by omega), w32_id (x := (N : Int) + 1) (by omega) (by omega)]
  have hG : Fr [289] mm (up (up mm 289 (bL b + (N : Int)) op) 289 (qL b) ((N : Int) + 1)) := fr_up (by simp) (fr_up (by simp) fr_refl)
  have g287 : up (up mm 289 (bL b + (N : Int)) op) 289 (qL b) ((N : Int) + 1) 287 = mm 287 := hG 287 (by decide)
  refine ok_some ⟨⟨⟨⟨by rw [g287]; exact g1.1.1, fun q a e => by rw [hG 292 (by decide)]; exact g1.1.2 q a e⟩, by rw [g287]; exact g1.2.1, fun z => by unfold TokM; rw [g287]; exact g1.2.2 z⟩, by rw [g287]; exact ⟨g2, g3⟩, by rw [g287]; exact g4, fun _ => ⟨by rw [up_same]; omega, fun j j0 j1 => ?_, fun x x1 x2 => ?_⟩⟩, fr_mono' hG (by decide), fun j _ _ => by rw [g287]⟩
  · rw [up_idx (by omega), up_at]
    by_cases e : j = (N : Int)
    · rw [if_pos (by omega), e, ku_at]
    · rw [if_neg (by omega), ku_ne e]; exact k2 j j0 (by omega)
  · rw [up_idx x1, up_idx (by omega)]; exact k3 x x1 x2
theorem m_laysStepF {S : Stm} {b : Bool} {d f pl op : Int} {i : Nat} {c : Int → Int} {N : Nat} {K0 : Int → Int} {mm : Mem} (hf : f ≠ 0) (hM : LwM S b d f pl i c N K0 mm) : fX12_laysStep op mm = some mm := by
  unfold fX12_laysStep
  simp only [rd_eq]
  rw [hM.1.2.1.1, if_neg hf]
theorem cc_fr {S : Stm} {f pl : Int} {i o : Nat} {m m' : Mem} (ho : o = 10 ∨ o = 12) (hF : Fr [o, o + 1] m m') (h : CC S f pl i m) : CC S f pl i m' ∧ m' 2 = m 2 := by
  have g2 : m' 2 = m 2 := hF 2 (by simp; omega)
  have g4 : m' 4 = m 4 := hF 4 (by simp; omega)
  have g5 : m' 5 = m 5 := hF 5 (by simp; omega)
  have g6 : m' 6 = m 6 := hF 6 (by simp; omega)
  exact ⟨⟨fun j hj => by rw [g4, g5, g6]; exact h.1 j hj, by rw [g2]; exact h.2.1, by rw [g2]; exact h.2.2⟩, g2⟩
theorem c_putL {S : Stm} {b : Bool} {d f pl op xx : Int} {i : Nat} {c : Int → Int} {N : Nat} {mc : Mem} (h : LwC S b f pl i c N mc) (hN : f = 0 → N < 900) (hx : f = 0 → xx = trO (fnL b) op) :
    LkL S b d f pl i c N (fX4_put (oL b) xx mc) mc (fX12_laysStep op) (fun i' c' N' => i' = i ∧ c' = ku c (N : Int) op ∧ N' = N + 1) := by
  obtain ⟨hC, h2, ⟨s1, s2, s3, s4⟩, h4, h5⟩ := h
  refine ok_imp (c_putRaw (o := oL b) (xx := xx) s1 s2 s3) ?_
  rintro m4 ⟨p1, p2, p3, p4, p5, p6⟩
  obtain ⟨c1, c2⟩ := cc_fr (oL_cases b) p6 hC
  have fl : FLw b mc m4 := ⟨fr_mono p6 (fun q hq => List.mem_cons_of_mem _ hq), fun j _ _ _ => by rw [c2], p5.2.2⟩
  have sz : 0 ≤ m4 (oL b) 1 ∧ m4 (oL b) 1 ≤ 900 := by
    by_cases z : 900 ≤ mc (oL b) 1
    · rw [p2 z]; exact ⟨s3, s4⟩
    · have := (p1 (Int.not_le.mp z)).1
      clear s1 s2 p3 p4
      omega
  have base : ∀ c' N', (f = 0 → c' = ku c (N : Int) op ∧ N' = N + 1) → LwC S b f pl i c' N' m4 := by
    intro c' N' hc
    refine ⟨c1, by rw [c2]; exact h2, ⟨p3.1, p4.1, sz⟩, by rw [p5.1, p5.2.1]; exact h4, fun hf => ?_⟩
    obtain ⟨rfl, rfl⟩ := hc hf
    obtain ⟨q1, q2, q3, q4⟩ := h5 hf
    have hxx := hx hf
    have lt : mc (oL b) 1 < 900 := by rw [q1]; have := hN hf; omega
    obtain ⟨r1, r2⟩ := p1 lt
    rw [q1] at r1 r2
    refine ⟨by rw [r1]; rfl, fun j j0 j1 => ?_, fun z j j0 j1 => ?_, fun z j j0 j1 => ?_⟩
    · rw [r2]
      by_cases e : j = (N : Int)
      · rw [if_pos e, e, ku_at, hxx]
      · rw [if_neg e, ku_ne e]; exact q2 j j0 (by clear s1 s2 p3 p4; omega)
    · have zz := p3.2 z
      by_cases e : j = (N : Int)
      · rw [e, ku_at, ← hxx]; exact zz.2
      · rw [ku_ne e]; exact q3 zz.1 j j0 (by clear s1 s2 p3 p4; omega)
    · have zz := p4.2 z
      by_cases e : j = (N : Int)
      · rw [e, ku_at, ← hxx]; exact zz.2
      · rw [ku_ne e]; exact q4 zz.1 j j0 (by clear s1 s2 p3 p4; omega)
  by_cases hf : f = 0
  · refine ⟨f, pl, i, ku c (N : Int) op, N + 1, base _ _ (fun _ => ⟨rfl, rfl⟩), fl, fun _ => ⟨hf, rfl, rfl, rfl⟩, fun K0 mm hM => ?_⟩
    subst hf
    exact m_laysStep (hN rfl) hM
  · exact ⟨f, pl, i, c, N, base _ _ (fun z => absurd z hf), fl, fun z => absurd z hf, fun K0 mm hM => by rw [m_laysStepF hf hM]; exact ok_some ⟨hM, gl_refl⟩⟩

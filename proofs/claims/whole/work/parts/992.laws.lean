/-! ===== D81: a law as it is read ===== -/
def oL (b : Bool) : Nat := if b then 12 else 10
def qL (b : Bool) : Int := if b then 6 else 5
def bL (b : Bool) : Int := if b then 1097 else 197
def nwL (b : Bool) : Int := if b then 6 else 5
def fnL (b : Bool) : Int → Int := if b then fM else fL
def loL (b : Bool) : Int := if b then 130 else 128
def hiL (b : Bool) : Int := if b then 135 else 132
def LawOk (c : Int → Int) (nw : Int) (N : Nat) (T0 : List Bool) : Prop := tyN c nw N = some T0 ∧ ∀ (j : Nat) (T' : List Bool), j ≤ N → tyN c nw j = some T' → T'.length ≤ 60
theorem tyN_cong {c c' : Int → Int} {nw : Int} : ∀ n : Nat, (∀ j : Nat, j < n → c j = c' j) → tyN c nw n = tyN c' nw n
  | 0, _ => rfl
  | n + 1, e => by
    show (tyN c nw n).bind (tyS nw (c n)) = (tyN c' nw n).bind (tyS nw (c' n))
    rw [tyN_cong n (fun j hj => e j (by omega)), e n (by omega)]
theorem law_put {c : Int → Int} {nw op : Int} {N : Nat} {T0 T1 : List Bool} (h : LawOk c nw N T0) (ht : tyS nw op T0 = some T1) (hl : T1.length ≤ 60) : LawOk (ku c (N : Int) op) nw (N + 1) T1 := by
  have e : ∀ j : Nat, j ≤ N → tyN (ku c (N : Int) op) nw j = tyN c nw j := fun j hj => tyN_cong j (fun k hk => ku_ne (by omega))
  have e1 : tyN (ku c (N : Int) op) nw (N + 1) = some T1 := by
    show (tyN (ku c (N : Int) op) nw N).bind (tyS nw (ku c (N : Int) op (N : Int))) = _
    rw [e N (Nat.le_refl _), h.1, ku_at]; exact ht
  refine ⟨e1, fun j T' hj hT => ?_⟩
  by_cases z : j = N + 1
  · rw [z, e1] at hT
    cases hT; exact hl
  · rw [e j (by omega)] at hT
    exact h.2 j T' (by omega) hT
theorem law_cong {c c' : Int → Int} {nw : Int} {N : Nat} {T0 : List Bool} (e : ∀ j : Nat, j < N → c j = c' j) (h : LawOk c nw N T0) : LawOk c' nw N T0 :=
  ⟨by rw [← tyN_cong N e]; exact h.1, fun j T' hj hT => h.2 j T' hj (by rw [tyN_cong j (fun k hk => e k (by omega))]; exact hT)⟩
def LwC (S : Stm) (b : Bool) (f pl : Int) (i : Nat) (c : Int → Int) (N : Nat) (m : Mem) : Prop :=
  CC S f pl i m ∧ m 2 8 = (oL b : Int) ∧ ((m (oL b) 5 = 0 ∨ m (oL b) 5 = 1) ∧ (m (oL b) 6 = 0 ∨ m (oL b) 6 = 1) ∧ 0 ≤ m (oL b) 1 ∧ m (oL b) 1 ≤ 900) ∧ (m (oL b) 2 = loL b ∧ m (oL b) 3 = hiL b) ∧
  (f = 0 → m (oL b) 1 = (N : Int) ∧ (∀ j : Int, 0 ≤ j → j < (N : Int) → m (oL b + 1) j = trO (fnL b) (c j)) ∧ (m (oL b) 5 = 0 → ∀ j : Int, 0 ≤ j → j < (N : Int) → trO (fnL b) (c j) ≠ 131) ∧ (m (oL b) 6 = 0 → ∀ j : Int, 0 ≤ j → j < (N : Int) → trO (fnL b) (c j) ≠ 130))
def FLw (b : Bool) (m m' : Mem) : Prop := Fr [2, oL b, oL b + 1] m m' ∧ (∀ j, j ≠ 3 → j ≠ 4 → j ≠ 5 → m' 2 j = m 2 j) ∧ m' (oL b) 4 = m (oL b) 4
def LwM (S : Stm) (b : Bool) (d : Int) (f pl : Int) (i : Nat) (c : Int → Int) (N : Nat) (K0 : Int → Int) (m : Mem) : Prop :=
  MC S f pl i m ∧ (m 287 17 = qL b ∧ m 287 18 = bL b) ∧ (f = 0 → m 287 16 = d) ∧ (f = 0 → m 289 (qL b) = (N : Int) ∧ (∀ j : Int, 0 ≤ j → j < (N : Int) → m 289 (bL b + j) = c j) ∧ ∀ x, x ≠ qL b → (x < bL b ∨ bL b + 900 ≤ x) → m 289 x = K0 x)
def GL (m m' : Mem) : Prop := Fr [287, 289] m m' ∧ ∀ j, j < 8 ∨ 14 ≤ j → j ≠ 16 → m' 287 j = m 287 j
theorem fl_refl {b : Bool} {m : Mem} : FLw b m m := ⟨fr_refl, fun _ _ _ _ => rfl, rfl⟩
theorem gl_refl {m : Mem} : GL m m := ⟨fr_refl, fun _ _ _ => rfl⟩
theorem fl_trans {b : Bool} {x y z : Mem} (h : FLw b x y) (k : FLw b y z) : FLw b x z := ⟨fr_trans h.1 k.1, fun j a c e => (k.2.1 j a c e).trans (h.2.1 j a c e), k.2.2.trans h.2.2⟩
theorem gl_trans {x y z : Mem} (h : GL x y) (k : GL y z) : GL x z := ⟨fr_trans h.1 k.1, fun j a c => (k.2 j a c).trans (h.2 j a c)⟩
theorem oL_cases (b : Bool) : oL b = 10 ∨ oL b = 12 := by cases b <;> simp [oL]
theorem fl_f2 {b : Bool} {m m' : Mem} (h : F2 m m') : FLw b m m' := by
  have := oL_cases b
  exact ⟨fr_mono h.1 (fun o ho => by simp at ho ⊢; omega), h.2, by rw [h.1 (oL b) (by simp; omega)]⟩
theorem gl_g2 {m m' : Mem} (h : G2 m m') : GL m m' := ⟨fr_mono' h.1 (by decide), fun j a _ => h.2 j a⟩
theorem lwC_f2 {S : Stm} {b : Bool} {f pl f' pl' : Int} {i i' : Nat} {c : Int → Int} {N : Nat} {m m' : Mem} (h : LwC S b f pl i c N m) (hF : F2 m m') (hC : CC S f' pl' i' m') (hf : f' = 0 → f = 0) : LwC S b f' pl' i' c N m' := by
  have o := oL_cases b
  obtain ⟨_, h2, h3, h4, h5⟩ := h
  have e0 : m' (oL b) = m (oL b) := hF.1 _ (by simp; omega)
  have e1 : m' (oL b + 1) = m (oL b + 1) := hF.1 _ (by simp; omega)
  refine ⟨hC, (hF.2 8 (by decide) (by decide) (by decide)).trans h2, by rw [e0]; exact h3, by rw [e0]; exact h4, fun z => ?_⟩
  rw [e0, e1]; exact h5 (hf z)
theorem lwM_g2 {S : Stm} {b : Bool} {d f pl f' pl' : Int} {i i' : Nat} {c : Int → Int} {N : Nat} {K0 : Int → Int} {m m' : Mem} (h : LwM S b d f pl i c N K0 m) (hG : G2 m m') (hM : MC S f' pl' i' m') (hf : f' = 0 → f = 0) : LwM S b d f' pl' i' c N K0 m' := by
  obtain ⟨_, h2, h3, h4⟩ := h
  have e : m' 289 = m 289 := hG.1 289 (by decide)
  refine ⟨hM, ⟨(hG.2 17 (by decide)).trans h2.1, (hG.2 18 (by decide)).trans h2.2⟩, fun z => (hG.2 16 (by decide)).trans (h3 (hf z)), fun z => ?_⟩
  rw [e]; exact h4 (hf z)
/-- token for token, within a law -/
def LkL (S : Stm) (b : Bool) (d f pl : Int) (i : Nat) (c : Int → Int) (N : Nat) (x : Option Mem) (mc : Mem) (y : Mem → Option Mem) (Q : Nat → (Int → Int) → Nat → Prop) : Prop :=
  Ok x (fun mc' => ∃ f' pl' i' c' N', LwC S b f' pl' i' c' N' mc' ∧ FLw b mc mc' ∧ (f' = 0 → f = 0 ∧ Q i' c' N') ∧ ∀ K0 mm, LwM S b d f pl i c N K0 mm → Ok (y mm) (fun mm' => LwM S b d f' pl' i' c' N' K0 mm' ∧ GL mm mm'))
theorem layO (b : Bool) : layL[oL b]? = some (.inl 4) := by cases b <;> decide +kernel
theorem c_putL {S : Stm} {b : Bool} {d f pl op xx : Int} {i : Nat} {c : Int → Int} {N : Nat} {mc : Mem} (h : LwC S b f pl i c N mc) (hN : f = 0 → N < 900) (hx : f = 0 → xx = trO (fnL b) op) :
    LkL S b d f pl i c N (fX4_put (oL b) xx mc) mc (fX12_laysStep op) (fun i' c' N' => i' = i ∧ c' = ku c (N : Int) op ∧ N' = N + 1) := by
  have o := oL_cases b
  obtain ⟨hC, h2, ⟨s1, s2, s3, s4⟩, h4, h5⟩ := h
  have hor : ∀ v t : Int, (v = 0 ∨ v = 1) → (t = 0 ∨ t = 1) → (ior v t = 0 ∨ ior v t = 1) ∧ (ior v t = 0 ↔ (v = 0 ∧ t = 0)) := by
    intro v t a e
    have h00 : ior 0 0 = 0 ∧ ior 0 1 = 1 ∧ ior 1 0 = 1 ∧ ior 1 1 = 1 := by decide +kernel
    rcases a with rfl | rfl <;> rcases e with rfl | rfl <;> simp [h00]
  -- the flags
  have step : ∀ t5 t6 : Int, (t5 = 0 ∨ t5 = 1) → (t6 = 0 ∨ t6 = 1) → (t5 = 0 → xx ≠ 131) → (t6 = 0 → xx ≠ 130) → ∀ m2 : Mem, m2 = up (up mc (oL b) 5 (ior (mc (oL b) 5) t5)) (oL b) 6 (ior (mc (oL b) 6) t6) →
      Ok (if 900 ≤ m2 (oL b) 1 then some m2 else chk ((0 : Int) ≤ m2 (oL b) 1 ∧ m2 (oL b) 1 < ((900 : Nat) : Int)) (some (up (up m2 (oL b + 1) (m2 (oL b) 1) xx) (oL b) 1 (w32 (up m2 (oL b + 1) (m2 (oL b) 1) xx (oL b) 1 + 1))))) (fun mc' => ∃ f' pl' i' c' N', LwC S b f' pl' i' c' N' mc' ∧ FLw b mc mc' ∧ (f' = 0 → f = 0 ∧ (i' = i ∧ c' = ku c (N : Int) op ∧ N' = N + 1)) ∧ ∀ K0 mm, LwM S b d f pl i c N K0 mm → Ok (fX12_laysStep op mm) (fun mm' => LwM S b d f' pl' i' c' N' K0 mm' ∧ GL mm mm')) := by
    intro t5 t6 h5t h6t n5 n6 m2 em2
    have z5 := hor _ _ s1 h5t
    have z6 := hor _ _ s2 h6t
    have F0 : Fr [oL b] mc m2 := by rw [em2]; exact fr_up (by simp) (fr_up (by simp) fr_refl)
    have e1 : m2 (oL b) 1 = mc (oL b) 1 := by rw [em2, up_idx (by decide), up_idx (by decide)]
    have e2 : m2 (oL b) 2 = mc (oL b) 2 := by rw [em2, up_idx (by decide), up_idx (by decide)]
    have e3 : m2 (oL b) 3 = mc (oL b) 3 := by rw [em2, up_idx (by decide), up_idx (by decide)]
    have e4 : m2 (oL b) 4 = mc (oL b) 4 := by rw [em2, up_idx (by decide), up_idx (by decide)]
    have e5 : m2 (oL b) 5 = ior (mc (oL b) 5) t5 := by rw [em2, up_idx (by decide), up_same]
    have e6 : m2 (oL b) 6 = ior (mc (oL b) 6) t6 := by rw [em2, up_same]
    have cc : ∀ m3 : Mem, Fr [oL b, oL b + 1] mc m3 → CC S f pl i m3 ∧ m3 2 8 = (oL b : Int) := fun m3 hF => by
      have g2 : m3 2 = mc 2 := hF 2 (by simp; omega)
      exact ⟨⟨fun j hj => by rw [hF 4 (by simp; omega), hF 5 (by simp; omega), hF 6 (by simp; omega)]; exact hC.1 j hj, by rw [g2]; exact hC.2.1, by rw [g2]; exact hC.2.2⟩, by rw [g2]; exact h2⟩
    -- the model's step
    have model : f = 0 → ∀ K0 mm, LwM S b d f pl i c N K0 mm → Ok (fX12_laysStep op mm) (fun mm' => LwM S b d f pl i (ku c (N : Int) op) (N + 1) K0 mm' ∧ GL mm mm') := by
      intro hf K0 mm hM
      obtain ⟨g1, ⟨g2, g3⟩, g4, g5⟩ := hM
      obtain ⟨k1, k2, k3⟩ := g5 hf
      have bb : (qL b = 5 ∧ bL b = 197) ∨ (qL b = 6 ∧ bL b = 1097) := by cases b <;> simp [qL, bL]
      have hN9 := hN hf
      unfold fX12_laysStep
      simp only [rd_eq]
      simp only [wr_eq]
      have u17 : up mm 289 (bL b + (N : Int)) op 287 17 = qL b := by rw [up_cell (by decide)]; exact g2
      have u289 : up mm 289 (bL b + (N : Int)) op 289 (qL b) = (N : Int) := by rw [up_idx (by omega)]; exact k1
      rw [g1.2.1.1, if_pos hf, g2, g3, chk_of (by omega), k1, w32_id (x := bL b + (N : Int)) (by omega) (by omega), chk_of (by omega), u17, chk_of (by omega), u289, chk_of (by omega), w32_id (x := (N : Int) + 1) (by omega) (by omega)]
      have hG : Fr [289] mm (up (up mm 289 (bL b + (N : Int)) op) 289 (qL b) ((N : Int) + 1)) := fr_up (by simp) (fr_up (by simp) fr_refl)
      have g287 : up (up mm 289 (bL b + (N : Int)) op) 289 (qL b) ((N : Int) + 1) 287 = mm 287 := hG 287 (by decide)
      refine ok_some ⟨⟨⟨⟨by rw [g287]; exact g1.1.1, fun q a e => by rw [hG 292 (by decide)]; exact g1.1.2 q a e⟩, by rw [g287]; exact g1.2.1, fun z => by unfold TokM; rw [g287]; exact g1.2.2 z⟩, by rw [g287]; exact ⟨g2, g3⟩, by rw [g287]; exact g4, fun _ => ⟨by rw [up_same]; omega, fun j j0 j1 => ?_, fun x x1 x2 => ?_⟩⟩, fr_mono' hG (by decide), fun j _ _ => by rw [g287]⟩
      · rw [up_idx (by omega), up_at]
        by_cases e : j = (N : Int)
        · rw [if_pos (by omega), e, ku_at]
        · rw [if_neg (by omega), ku_ne e]; exact k2 j j0 (by omega)
      · rw [up_idx x1, up_idx (by omega)]; exact k3 x x1 x2
    have model1 : f ≠ 0 → ∀ K0 mm, LwM S b d f pl i c N K0 mm → Ok (fX12_laysStep op mm) (fun mm' => LwM S b d f pl i c N K0 mm' ∧ GL mm mm') := by
      intro hf K0 mm hM
      unfold fX12_laysStep
      simp only [rd_eq]
      rw [hM.1.2.1.1, if_neg hf]
      exact ok_some ⟨hM, gl_refl⟩
    rw [e1]
    by_cases h900 : 900 ≤ mc (oL b) 1
    · have hf : f ≠ 0 := fun hf => by have := (h5 hf).1; have := hN hf; omega
      rw [if_pos h900]
      obtain ⟨c1, c2⟩ := cc m2 (fr_mono F0 (fun q hq => by simp at hq ⊢; omega))
      refine ok_some ⟨f, pl, i, c, N, ⟨c1, c2, ⟨by rw [e5]; exact z5.1, by rw [e6]; exact z6.1, by rw [e1]; exact ⟨s3, s4⟩⟩, by rw [e2, e3]; exact h4, fun z => absurd z hf⟩, ⟨fr_mono F0 (fun q hq => by simp at hq ⊢; omega), fun j _ _ _ => by rw [F0 2 (by simp; omega)], e4⟩, fun z => absurd z hf, model1 hf⟩
    · rw [if_neg h900, chk_of (by omega), up_cell (show oL b ≠ oL b + 1 by omega), e1, w32_id (by omega) (by omega)]
      have Fm : Fr [oL b, oL b + 1] mc (up (up m2 (oL b + 1) (mc (oL b) 1) xx) (oL b) 1 (mc (oL b) 1 + 1)) := fr_up (by simp) (fr_up (by simp) (fr_mono F0 (fun q hq => by simp at hq ⊢; omega)))
      have w : ∀ j, j ≠ 1 → up (up m2 (oL b + 1) (mc (oL b) 1) xx) (oL b) 1 (mc (oL b) 1 + 1) (oL b) j = m2 (oL b) j := fun j hj => by rw [up_idx hj, up_cell (by omega)]
      have w1 : up (up m2 (oL b + 1) (mc (oL b) 1) xx) (oL b) 1 (mc (oL b) 1 + 1) (oL b) 1 = mc (oL b) 1 + 1 := up_same _ _ _ _
      have wc : ∀ j, up (up m2 (oL b + 1) (mc (oL b) 1) xx) (oL b) 1 (mc (oL b) 1 + 1) (oL b + 1) j = if j = mc (oL b) 1 then xx else mc (oL b + 1) j := fun j => by rw [up_cell (by omega), up_at, F0 (oL b + 1) (by simp)]
      obtain ⟨c1, c2⟩ := cc _ Fm
      generalize up (up m2 (oL b + 1) (mc (oL b) 1) xx) (oL b) 1 (mc (oL b) 1 + 1) = m4 at *
      have base : ∀ c' N', (f = 0 → c' = ku c (N : Int) op ∧ N' = N + 1) → LwC S b f pl i c' N' m4 := by
        intro c' N' hc
        refine ⟨c1, c2, ⟨by rw [w 5 (by decide), e5]; exact z5.1, by rw [w 6 (by decide), e6]; exact z6.1, by rw [w1]; omega⟩, by rw [w 2 (by decide), w 3 (by decide), e2, e3]; exact h4, fun hf => ?_⟩
        obtain ⟨rfl, rfl⟩ := hc hf
        obtain ⟨q1, q2, q3, q4⟩ := h5 hf
        have hxx := hx hf
        refine ⟨by rw [w1, q1]; omega, fun j j0 j1 => ?_, fun z j j0 j1 => ?_, fun z j j0 j1 => ?_⟩
        · rw [wc, q1]
          by_cases e : j = (N : Int)
          · rw [if_pos e, e, ku_at, hxx]
          · rw [if_neg e, ku_ne e]; exact q2 j j0 (by omega)
        · rw [w 5 (by decide), e5] at z
          have zz := z5.2.mp z
          by_cases e : j = (N : Int)
          · rw [e, ku_at, ← hxx]; exact n5 zz.2
          · rw [ku_ne e]; exact q3 zz.1 j j0 (by omega)
        · rw [w 6 (by decide), e6] at z
          have zz := z6.2.mp z
          by_cases e : j = (N : Int)
          · rw [e, ku_at, ← hxx]; exact n6 zz.2
          · rw [ku_ne e]; exact q4 zz.1 j j0 (by omega)
      have fl : FLw b mc m4 := ⟨fr_mono Fm (fun q hq => by simp at hq ⊢; omega), fun j _ _ _ => by rw [Fm 2 (by simp; omega)], by rw [w 4 (by decide), e4]⟩
      by_cases hf : f = 0
      · exact ok_some ⟨f, pl, i, ku c (N : Int) op, N + 1, base _ _ (fun _ => ⟨rfl, rfl⟩), fl, fun _ => ⟨hf, rfl, rfl, rfl⟩, model hf⟩
      · exact ok_some ⟨f, pl, i, c, N, base _ _ (fun z => absurd z hf), fl, fun z => absurd z hf, model1 hf⟩
  unfold LkL fX4_put
  simp only [rd_eq]
  simp only [wr_eq]
  simp only [jn_eq]
  by_cases h131 : xx = 131
  · rw [if_neg (fun z => z h131), chk_of (hor _ _ s1 (.inr rfl)).1, if_pos (show ¬ xx = 130 by omega), up_idx (show (6 : Int) ≠ 5 by decide), chk_of (hor _ _ s2 (.inl rfl)).1]
    exact step 1 0 (.inr rfl) (.inl rfl) (fun z => by omega) (fun _ => by omega) _ rfl
  · rw [if_pos h131, chk_of (hor _ _ s1 (.inl rfl)).1, up_idx (show (6 : Int) ≠ 5 by decide)]
    by_cases h130 : xx = 130
    · rw [if_neg (fun z => z h130), chk_of (hor _ _ s2 (.inr rfl)).1]
      exact step 0 1 (.inl rfl) (.inr rfl) (fun _ => h131) (fun z => by omega) _ rfl
    · rw [if_pos h130, chk_of (hor _ _ s2 (.inl rfl)).1]
      exact step 0 0 (.inl rfl) (.inl rfl) (fun _ => h131) (fun _ => h130) _ rfl

/-! ===== D51: the class's next hour of the count ===== -/
theorem rowT_cong {K : Int → Int} {p rope rocks h w v b : Int} {tied : Bool} {nx nx' : Int → Int} (w2 : 2 ≤ K 1) (w5 : K 1 ≤ 5) (v2 : 2 ≤ K 2) (v5 : K 2 ≤ 5) (e : ∀ q, 0 ≤ q → q < 625 → nx q = nx' q) :
    ∀ i : Nat, ∀ q, 0 ≤ q → q < 625 → rowT K p rope tied rocks h w v b nx i q = rowT K p rope tied rocks h w v b nx' i q := by
  intro i
  induction i with
  | zero => exact e
  | succ i ih =>
    intro q q0 q1
    show stT K p rope tied rocks h w v b (i : Int) (rowT K p rope tied rocks h w v b nx i) q = stT K p rope tied rocks h w v b (i : Int) (rowT K p rope tied rocks h w v b nx' i) q
    have rg := bothF_rg (K := K) (p := p) (rope := rope) (tied := tied) (rocks := rocks) (h := h) (b := b) (i := (i : Int)) w2 w5 v2 v5
    unfold stT
    generalize bothF K p rope tied rocks h b (i : Int) = x at *
    by_cases z : x ≠ -1 ∧ (w = -1 ∨ x / 25 = w)
    · rw [if_pos z, if_pos z]
      by_cases hq : q = x
      · subst hq; rw [ku_at, ku_at, ih _ q0 q1]
      · rw [ku_ne hq, ku_ne hq]; exact ih q q0 q1
    · rw [if_neg z, if_neg z]; exact ih q q0 q1
theorem all_skip {K : Int → Int} {p rope rocks h w : Int} {tied : Bool} {f : Int → Int} {lo : Nat} : ∀ d : Nat, (∀ b : Nat, lo ≤ b → b < lo + d → f b ≤ 0) → allT K p rope tied rocks h w f (lo + d) = allT K p rope tied rocks h w f lo := by
  intro d
  induction d with
  | zero => intro _; rfl
  | succ d ih =>
    intro hz
    show (if f ((lo + d : Nat) : Int) ≤ 0 then allT K p rope tied rocks h w f (lo + d) else _) = _
    rw [if_pos (hz (lo + d) (by omega) (by omega))]
    exact ih (fun b z0 z1 => hz b z0 (by omega))
theorem c_goOnT {K : Int → Int} {c p rope rocks h w : Int} {tied : Bool} {a b : Nat} {m : Mem} (hR : CR K m) (hV : CV c K) (c1 : c ≤ 1000000) (p0 : 0 ≤ p) (p1 : p < K 3) (r0 : 0 ≤ rope) (r1 : rope ≤ 20) (hA : AhR K p rope tied rocks m) (h1 : 1 ≤ h) (h40 : h ≤ 40)
    (ea : m 96 0 = (a : Int)) (eb : m 96 1 = (b : Int)) (hab : (a = 97 ∧ b = 98) ∨ (a = 98 ∧ b = 97)) (e3 : m 96 3 = K 1 * K 2)
    (hf0 : ∀ q, 0 ≤ q → q < 625 → 0 ≤ m a q) (hfv : ∀ q, 0 ≤ q → q < 625 → m a q ≠ 0 → q / 25 < K 1 * K 2 ∧ q % 25 < K 1 * K 2) :
    Ok (fX7_goOn h w m) (fun m' => (m' 96 0 = (b : Int) ∧ m' 96 1 = (a : Int) ∧ m' 96 3 = K 1 * K 2) ∧ (∀ q, 0 ≤ q → q < 625 → m' b q = allT K p rope tied rocks h w (m a) 625 q) ∧ AhR K p rope tied rocks m' ∧ Fr [18, 36, 37, 78, 79, 80, 96, 97, 98, 99] m m') := by
  have hw := wide_of hV.1 p0 p1
  have ar := area_le hw.1.1 hw.1.2 hw.2.1 hw.2.2
  have la : layL[a]? = some (.inr (1, 625)) ∧ layL[b]? = some (.inr (1, 625)) := by
    rcases hab with ⟨rfl, rfl⟩ | ⟨rfl, rfl⟩ <;> exact ⟨by decide +kernel, by decide +kernel⟩
  have hb99 : b ≠ 99 ∧ b ≠ 18 ∧ b ≠ 78 ∧ b ≠ 79 ∧ b ≠ 80 ∧ b ≠ 81 ∧ b ≠ 96 ∧ a ≠ b ∧ a ≠ 99 ∧ (b = 97 ∨ b = 98) ∧ (a = 97 ∨ a = 98) := by omega
  unfold fX7_goOn
  refine ok_bV (c_foresee hR hV c1 p0 p1 r0 r1 h1 h40 hA) ?_
  rintro m1 ⟨hA1, ⟨g16, g17⟩, F1⟩
  simp only [rd_eq, wr_eq, jn_eq, rdn_eq]
  rw [F1 96 (by decide), eb, Int.toNat_natCast, chk_of la.2]
  refine ok_bV (c_fillL (by decide)) ?_
  rintro m2 ⟨f2, _, F2⟩
  have F12 : Fr [18, 36, 37, 78, 79, 80, 96, 97, 98, 99] m m2 := fr_trans (fr_mono' F1 (by decide)) (fr_mono F2 (fun o ho => by rw [List.mem_singleton.mp ho]; simp; omega))
  have hA2 : AhR K p rope tied rocks m2 := AhR_fr hA1 (F2 18 (by simp; omega)) (F2 78 (by simp; omega)) (F2 79 (by simp; omega)) (F2 80 (by simp; omega)) (F2 81 (by simp; omega))
  have hR2 : CR K m2 := CR_fr hR (fun o z1 z2 => F12 o (by simp; omega))
  have e96 : m2 96 = m 96 := (F2 96 (by simp; omega)).trans (F1 96 (by decide))
  have ema : m2 a = m a := (F2 a (by simp; omega)).trans (F1 a (by simp; omega))
  have e18 : m2 18 = m1 18 := F2 18 (by simp; omega)
  refine lp_for (K 1 * K 2) (fun j mm => 0 ≤ j ∧ (∀ q, 0 ≤ q → q < 625 → mm b q = allT K p rope tied rocks h w (m a) (25 * j.toNat) q) ∧ Fr [99, b] m2 mm) ⟨by omega, fun q q0 q1 => f2 q q0 (by omega), fr_refl⟩ (by omega) (by omega) ?_ ?_
  · rintro G j mm hj ⟨j0, hn, hF⟩ ih
    rw [hF 96 (by simp; omega), e96, e3, if_neg (by omega)]
    refine lp_for (K 1 * K 2) (fun k m3 => 0 ≤ k ∧ (∀ q, 0 ≤ q → q < 625 → m3 b q = allT K p rope tied rocks h w (m a) (25 * j.toNat + k.toNat) q) ∧ Fr [99, b] m2 m3) ⟨by omega, hn, hF⟩ (by omega) (by omega) ?_ ?_
    · rintro G2 k m3 hk ⟨k0, hn3, hF3⟩ ih2
      have e96' : m3 96 = m 96 := (hF3 96 (by simp; omega)).trans e96
      have ema' : m3 a = m a := (hF3 a (by simp; omega)).trans ema
      rw [e96', e3, if_neg (by omega), ea, Int.toNat_natCast, chk_of la.1, w32_id (x := j * 25) (by omega) (by omega), w32_id (x := j * 25 + k) (by omega) (by omega), chk_of (by omega), ema', w32_id (x := k + 1) (by omega) (by omega), show j * 25 + k = 25 * j + k by omega]
      have nn := hf0 (25 * j + k) (by omega) (by omega)
      have ec : ((25 * j.toNat + k.toNat : Nat) : Int) = 25 * j + k := by omega
      have es : allT K p rope tied rocks h w (m a) (25 * j.toNat + (k + 1).toNat) = if m a (25 * j + k) ≤ 0 then allT K p rope tied rocks h w (m a) (25 * j.toNat + k.toNat) else rowT K p rope tied rocks h w (m a (25 * j + k)) (25 * j + k) (allT K p rope tied rocks h w (m a) (25 * j.toNat + k.toNat)) 25 := by
        rw [show 25 * j.toNat + (k + 1).toNat = 25 * j.toNat + k.toNat + 1 by omega]
        show (if m a ((25 * j.toNat + k.toNat : Nat) : Int) ≤ 0 then _ else rowT K p rope tied rocks h w (m a ((25 * j.toNat + k.toNat : Nat) : Int)) ((25 * j.toNat + k.toNat : Nat) : Int) _ 25) = _
        rw [ec]
      by_cases hz : m a (25 * j + k) = 0
      · rw [if_pos hz]
        refine ih2 _ ⟨by omega, fun q q0 q1 => ?_, hF3⟩
        rw [es, if_pos (by omega)]; exact hn3 q q0 q1
      · rw [if_neg hz]
        have hA3 : AhR K p rope tied rocks m3 := AhR_fr hA2 (hF3 18 (by simp; omega)) (hF3 78 (by simp; omega)) (hF3 79 (by simp; omega)) (hF3 80 (by simp; omega)) (hF3 81 (by simp; omega))
        have hR3 : CR K m3 := CR_fr hR2 (fun o z1 z2 => hF3 o (by simp; omega))
        have h18 : m3 18 = m1 18 := (hF3 18 (by simp; omega)).trans e18
        refine ok_bV (c_push (a := a) (b := b) (w := w) hR3 hV p0 p1 hA3 h1 h40 (by rw [h18]; exact g16) (by rw [h18]; exact g17) (by rw [e96']; exact ea) (by rw [e96']; exact eb) hab j0 hj k0 hk) ?_
        rintro m4 ⟨d1, d2⟩
        refine ih2 _ ⟨by omega, fun q q0 q1 => ?_, fr_trans hF3 d2⟩
        rw [d1 q q0 q1, es, if_neg (by omega), ema']
        exact rowT_cong hw.1.1 hw.1.2 hw.2.1 hw.2.2 hn3 25 q q0 q1
    · rintro G2 m3 ⟨_, hn3, hF3⟩
      have e96' : m3 96 = m 96 := (hF3 96 (by simp; omega)).trans e96
      rw [e96', e3, if_pos (by omega), w32_id (by omega) (by omega)]
      refine ih _ ⟨by omega, fun q q0 q1 => ?_, hF3⟩
      have sk := all_skip (K := K) (p := p) (rope := rope) (tied := tied) (rocks := rocks) (h := h) (w := w) (f := m a) (lo := 25 * j.toNat + (K 1 * K 2).toNat) (25 - (K 1 * K 2).toNat) (fun x x0 x1 => by
        by_cases hz : m a (x : Int) = 0
        · omega
        · have := (hfv x (by omega) (by omega) hz).2
          omega)
      rw [show 25 * (j + 1).toNat = 25 * j.toNat + (K 1 * K 2).toNat + (25 - (K 1 * K 2).toNat) by omega, sk]
      exact hn3 q q0 q1
  · rintro G mm ⟨_, hn, hF⟩
    have e96' : mm 96 = m 96 := (hF 96 (by simp; omega)).trans e96
    rw [e96', e3, if_pos (by omega), ea, eb, Int.toNat_natCast, Int.toNat_natCast, chk_of la.1, chk_of la.2]
    have Fm : Fr [18, 36, 37, 78, 79, 80, 96, 97, 98, 99] m mm := fr_trans F12 (fr_mono hF (fun o ho => by simp at ho ⊢; omega))
    refine ok_some ⟨⟨?_, ?_, ?_⟩, fun q q0 q1 => ?_, ?_, fr_up (by simp) (fr_up (by simp) Fm)⟩
    · rw [up_idx (by decide), up_same]
    · rw [up_same]
    · rw [up_idx (by decide), up_idx (by decide), e96', e3]
    · rw [up_cell (by omega), up_cell (by omega), hn q q0 q1]
      have sk := all_skip (K := K) (p := p) (rope := rope) (tied := tied) (rocks := rocks) (h := h) (w := w) (f := m a) (lo := 25 * (K 1 * K 2).toNat) (625 - 25 * (K 1 * K 2).toNat) (fun x x0 x1 => by
        by_cases hz : m a (x : Int) = 0
        · omega
        · have := (hfv x (by omega) (by omega) hz).1
          omega)
      rw [show 25 * (K 1 * K 2).toNat + (625 - 25 * (K 1 * K 2).toNat) = 625 by omega] at sk
      rw [sk]
    · exact AhR_fr hA2 ((up_cell (by decide)).trans ((up_cell (by decide)).trans (hF 18 (by simp; omega)))) ((up_cell (by decide)).trans ((up_cell (by decide)).trans (hF 78 (by simp; omega)))) ((up_cell (by decide)).trans ((up_cell (by decide)).trans (hF 79 (by simp; omega)))) ((up_cell (by decide)).trans ((up_cell (by decide)).trans (hF 80 (by simp; omega)))) ((up_cell (by decide)).trans ((up_cell (by decide)).trans (hF 81 (by simp; omega))))

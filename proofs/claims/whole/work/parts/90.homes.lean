/-! ===== D70: houses: sets of them, ways, the least ===== -/
theorem set8 : ∀ n, n < 9 → ∀ s, s < 256 → (∀ b, b < 8 → tb ((s : Nat) : Int) b = true → b < n) → ((s : Nat) : Int) < ishl 1 ((n : Nat) : Int) := by decide +kernel
theorem set8' : ∀ n, n < 9 → ∀ s, s < 256 → ((s : Nat) : Int) < ishl 1 ((n : Nat) : Int) → ∀ b, b < 8 → tb ((s : Nat) : Int) b = true → b < n := by decide +kernel
theorem pw_256 : ∀ n, n < 9 → 1 ≤ ishl 1 ((n : Nat) : Int) ∧ ishl 1 ((n : Nat) : Int) ≤ 256 := by decide +kernel
theorem add8 : ∀ s, s < 256 → ∀ g, g < 8 → tb ((s : Nat) : Int) g = false → ior ((s : Nat) : Int) (ishl 1 ((g : Nat) : Int)) = ((s + 2 ^ g : Nat) : Int) ∧ s + 2 ^ g < 256 ∧ cntB 32 (s + 2 ^ g) = cntB 32 s + 1 := by decide +kernel
theorem tb_255 : ∀ i, i < 32 → tb 255 i = decide (i < 8) := by decide +kernel
theorem setN8_rg {n : Nat} {s : Int} (hn : n ≤ 8) (h : SetN n s) : (0 ≤ s ∧ s < ishl 1 (n : Int)) ∧ ishl 1 (n : Int) ≤ 256 := by
  have z : 0 ≤ s := by
    refine (tb_nonneg h.1).mp ?_
    cases q : tb s 31
    · rfl
    · have := h.2 31 (by decide) q; omega
  have e : s = iand s 255 := by
    refine tb_ext h.1 (iand_rg _ _) (fun i hi => ?_)
    rw [tb_and, tb_255 i hi]
    by_cases q : i < 8
    · simp [q]
    · cases w : tb s i
      · rfl
      · have := h.2 i hi w; omega
  have h1 := h.1
  have e2 := iand_nat (a := s.toNat) (b := 255) (by omega)
  rw [Int.toNat_of_nonneg z] at e2
  have le : s.toNat &&& 255 ≤ 255 := Nat.and_le_right
  have e3 : s = ((s.toNat &&& 255 : Nat) : Int) := e.trans e2
  have hs : s < 256 := by omega
  have l := set8 n (by omega) s.toNat (by omega) (fun b hb q => by rw [Int.toNat_of_nonneg z] at q; exact h.2 b (by omega) q)
  rw [Int.toNat_of_nonneg z] at l
  exact ⟨⟨z, l⟩, (pw_256 n (by omega)).2⟩
theorem setN8_of {n : Nat} {s : Int} (hn : n ≤ 8) (h0 : 0 ≤ s) (h1 : s < ishl 1 (n : Int)) : SetN n s := by
  have p := pw_256 n (by omega)
  have l := set8' n (by omega) s.toNat (by omega) (by rw [Int.toNat_of_nonneg h0]; exact h1)
  rw [Int.toNat_of_nonneg h0] at l
  refine ⟨by omega, fun b hb q => ?_⟩
  by_cases z : b < 8
  · exact l b z q
  · exfalso
    have e := tb_nat s.toNat b hb
    rw [Int.toNat_of_nonneg h0] at e
    rw [e, Nat.testBit_lt_two_pow (Nat.lt_of_lt_of_le (show s.toNat < 2 ^ 8 by omega) (Nat.pow_le_pow_right (by decide) (by omega)))] at q
    cases q
def pcH (s : Int) : Nat := cntB 32 s.toNat
theorem add_h {s g : Int} (s0 : 0 ≤ s) (s1 : s < 256) (g0 : 0 ≤ g) (g1 : g < 8) (h : tb s g.toNat = false) : s < ior s (ishl 1 g) ∧ ior s (ishl 1 g) < 256 ∧ pcH (ior s (ishl 1 g)) = pcH s + 1 := by
  have a := add8 s.toNat (by omega) g.toNat (by omega) (by rw [Int.toNat_of_nonneg s0]; exact h)
  rw [Int.toNat_of_nonneg s0, Int.toNat_of_nonneg g0] at a
  have p := Nat.two_pow_pos g.toNat
  unfold pcH
  rw [a.1, Int.toNat_natCast]
  exact ⟨by omega, by omega, a.2.2⟩
def sGH (s g h : Int) : Int := ior (ior s (ishl 1 g)) (ishl 1 h)
theorem tb_gh {s g h : Int} (g0 : 0 ≤ g) (g1 : g < 8) (h0 : 0 ≤ h) (h1 : h < 8) {b : Nat} (hb : b < 32) : tb (sGH s g h) b = (tb s b || decide (b = g.toNat) || decide (b = h.toNat)) := by
  unfold sGH
  rw [tb_or, tb_or, tb_powi g0 (by omega) hb, tb_powi h0 (by omega) hb]
theorem setN_gh {n : Nat} {s g h : Int} (hn : n ≤ 8) (hs : SetN n s) (g0 : 0 ≤ g) (g1 : g < (n : Int)) (h0 : 0 ≤ h) (h1 : h < (n : Int)) : SetN n (sGH s g h) := by
  refine ⟨ior_rg _ _, fun b hb q => ?_⟩
  rw [tb_gh g0 (by omega) h0 (by omega) hb, Bool.or_eq_true, Bool.or_eq_true] at q
  rcases q with (q | q) | q
  · exact hs.2 b hb q
  · have := of_decide_eq_true q; omega
  · have := of_decide_eq_true q; omega
theorem gh_more {n : Nat} {s g h : Int} (hn : n ≤ 8) (hs : SetN n s) (g0 : 0 ≤ g) (g1 : g < (n : Int)) (h0 : 0 ≤ h) (h1 : h < (n : Int)) (tg : tb s g.toNat = false) (th : tb s h.toNat = false) (ne : g ≠ h) : s < sGH s g h ∧ pcH (sGH s g h) = pcH s + 2 := by
  have r := setN8_rg hn hs
  have a := add_h r.1.1 (by omega) g0 (by omega) tg
  have t2 : tb (ior s (ishl 1 g)) h.toNat = false := by
    rw [tb_or, th, tb_powi g0 (by omega) (by omega)]
    simp; omega
  have b := add_h (s := ior s (ishl 1 g)) (g := h) (by omega) (by omega) h0 (by omega) t2
  unfold sGH
  exact ⟨by omega, by omega⟩
theorem gh_ban {s g h x : Int} : ior (sGH s g h) x = sGH (ior s x) g h := by
  unfold sGH
  refine tb_ext (ior_rg _ _) (ior_rg _ _) (fun b _ => ?_)
  simp only [tb_or]
  cases tb s b <;> cases tb x b <;> cases tb (ishl 1 g) b <;> cases tb (ishl 1 h) b <;> rfl
def tetH (K : Int → Int) (p : Int) : Int := if tb (K 21) p.toNat then 8 else lenF K p (K (25 + p)) (K 24)
def canH (K : Int → Int) (p s g h : Int) : Bool := decide (g ≠ h) && !tb s g.toNat && !tb s h.toNat && decide (apartF (K 1) (K (29 + g)) (K (29 + h)) ≤ tetH K p)
theorem canH_inv {K : Int → Int} {p s g h : Int} : canH K p s g h = true ↔ (g ≠ h ∧ tb s g.toNat = false ∧ tb s h.toNat = false ∧ apartF (K 1) (K (29 + g)) (K (29 + h)) ≤ tetH K p) := by
  unfold canH
  simp only [Bool.and_eq_true, decide_eq_true_eq, Bool.not_eq_true']
  constructor
  · rintro ⟨⟨⟨a, b⟩, c⟩, d⟩; exact ⟨a, b, c, d⟩
  · rintro ⟨a, b, c, d⟩; exact ⟨⟨⟨a, b⟩, c⟩, d⟩
def rowW (F : Int → Int) (ok : Int → Bool) : Nat → Int
  | 0 => 0
  | h + 1 => rowW F ok h + (if ok (h : Int) then F (h : Int) else 0)
def sumW (F : Int → Int → Int) (ok : Int → Int → Bool) (n : Nat) : Nat → Int
  | 0 => 0
  | g + 1 => sumW F ok n g + rowW (F (g : Int)) (ok (g : Int)) n
def nH (K : Int → Int) : Nat := (K 4).toNat
def waysW (K : Int → Int) : Nat → Int → Int → Int
  | 0, _, _ => 1
  | r + 1, p, s => sumW (fun g h => waysW K r (p + 1) (sGH s g h)) (canH K p s) (nH K) (nH K)
theorem rowW_rg {F : Int → Int} {ok : Int → Bool} {B : Int} (hF : ∀ h, 0 ≤ F h ∧ F h ≤ B) : ∀ n : Nat, 0 ≤ rowW F ok n ∧ rowW F ok n ≤ n * B
  | 0 => by show (0 : Int) ≤ 0 ∧ (0 : Int) ≤ ((0 : Nat) : Int) * B; simp
  | n + 1 => by
    have i := rowW_rg (ok := ok) hF n
    have f := hF (n : Int)
    have e : ((n + 1 : Nat) : Int) * B = (n : Int) * B + B := by rw [show ((n + 1 : Nat) : Int) = (n : Int) + 1 by omega, Int.add_mul, Int.one_mul]
    show 0 ≤ rowW F ok n + (if ok (n : Int) then F (n : Int) else 0) ∧ rowW F ok n + (if ok (n : Int) then F (n : Int) else 0) ≤ _
    rw [e]
    split <;> omega
theorem sumW_rg {F : Int → Int → Int} {ok : Int → Int → Bool} {B : Int} (hF : ∀ g h, 0 ≤ F g h ∧ F g h ≤ B) (n : Nat) (hn : n ≤ 8) : ∀ g : Nat, g ≤ 8 → 0 ≤ sumW F ok n g ∧ sumW F ok n g ≤ g * (8 * B)
  | 0, _ => by show (0 : Int) ≤ 0 ∧ (0 : Int) ≤ ((0 : Nat) : Int) * (8 * B); simp
  | g + 1, hg => by
    have i := sumW_rg (ok := ok) hF n hn g (by omega)
    have f := rowW_rg (ok := ok (g : Int)) (fun h => hF (g : Int) h) n
    have b0 : 0 ≤ B := Int.le_trans (hF 0 0).1 (hF 0 0).2
    have l : (n : Int) * B ≤ 8 * B := Int.mul_le_mul_of_nonneg_right (by omega) b0
    have e : ((g + 1 : Nat) : Int) * (8 * B) = (g : Int) * (8 * B) + 8 * B := by rw [show ((g + 1 : Nat) : Int) = (g : Int) + 1 by omega, Int.add_mul, Int.one_mul]
    show 0 ≤ sumW F ok n g + rowW (F (g : Int)) (ok (g : Int)) n ∧ sumW F ok n g + rowW (F (g : Int)) (ok (g : Int)) n ≤ _
    rw [e]; omega
def pow64 : Nat → Int
  | 0 => 1
  | n + 1 => 64 * pow64 n
theorem pow64_le : ∀ n, n < 5 → 1 ≤ pow64 n ∧ pow64 n ≤ 16777216 := by decide
theorem waysW_rg {K : Int → Int} (hn : nH K ≤ 8) : ∀ (r : Nat) (p s : Int), 0 ≤ waysW K r p s ∧ waysW K r p s ≤ pow64 r
  | 0, _, _ => by show (0 : Int) ≤ 1 ∧ (1 : Int) ≤ 1; omega
  | r + 1, p, s => by
    have h := sumW_rg (F := fun g h => waysW K r (p + 1) (sGH s g h)) (ok := canH K p s) (fun g h => waysW_rg hn r (p + 1) (sGH s g h)) (nH K) hn (nH K) hn
    have b0 : 0 ≤ pow64 r := Int.le_trans (waysW_rg hn r p s).1 (waysW_rg hn r p s).2
    have l : ((nH K : Nat) : Int) * (8 * pow64 r) ≤ 8 * (8 * pow64 r) := Int.mul_le_mul_of_nonneg_right (by omega) (by omega)
    show 0 ≤ sumW _ _ _ _ ∧ sumW _ _ _ _ ≤ 64 * pow64 r
    omega
def costH (K : Int → Int) (p g h : Int) : Int := apartF (K 1) (K (13 + p)) (K (29 + g)) + apartF (K 1) (K (17 + p)) (K (29 + h))
def minR (F : Int → Int) (ok : Int → Bool) (m0 : Int) : Nat → Int
  | 0 => m0
  | h + 1 => if ok (h : Int) then imin (minR F ok m0 h) (F (h : Int)) else minR F ok m0 h
def minS (F : Int → Int → Int) (ok : Int → Int → Bool) (n : Nat) : Nat → Int
  | 0 => 1000
  | g + 1 => minR (F (g : Int)) (ok (g : Int)) (minS F ok n g) n
def bestB (K : Int → Int) : Nat → Int → Int → Int
  | 0, _, _ => 0
  | r + 1, p, s => minS (fun g h => costH K p g h + bestB K r (p + 1) (sGH s g h)) (canH K p s) (nH K) (nH K)
theorem imin_sp (x y : Int) : (imin x y = y ∧ y < x) ∨ (imin x y = x ∧ x ≤ y) := by unfold imin; split <;> omega
theorem minR_sp {F : Int → Int} {ok : Int → Bool} {m0 : Int} : ∀ n : Nat, minR F ok m0 n ≤ m0 ∧ (∀ h : Int, 0 ≤ h → h < (n : Int) → ok h = true → minR F ok m0 n ≤ F h) ∧ (minR F ok m0 n = m0 ∨ ∃ h : Int, (0 ≤ h ∧ h < (n : Int)) ∧ ok h = true ∧ minR F ok m0 n = F h)
  | 0 => ⟨Int.le_refl _, fun h a b => by omega, .inl rfl⟩
  | n + 1 => by
    obtain ⟨i1, i2, i3⟩ := minR_sp (F := F) (ok := ok) (m0 := m0) n
    show (if ok (n : Int) then imin (minR F ok m0 n) (F (n : Int)) else minR F ok m0 n) ≤ m0 ∧ (∀ h : Int, 0 ≤ h → h < ((n + 1 : Nat) : Int) → ok h = true → (if ok (n : Int) then imin (minR F ok m0 n) (F (n : Int)) else minR F ok m0 n) ≤ F h) ∧ ((if ok (n : Int) then imin (minR F ok m0 n) (F (n : Int)) else minR F ok m0 n) = m0 ∨ ∃ h : Int, (0 ≤ h ∧ h < ((n + 1 : Nat) : Int)) ∧ ok h = true ∧ (if ok (n : Int) then imin (minR F ok m0 n) (F (n : Int)) else minR F ok m0 n) = F h)
    cases hk : ok (n : Int)
    · rw [if_neg (by simp)]
      refine ⟨i1, fun h a b q => ?_, i3.imp_right (fun ⟨h, a, q⟩ => ⟨h, by omega, q⟩)⟩
      by_cases e : h = n
      · rw [e, hk] at q; cases q
      · exact i2 h a (by omega) q
    · rw [if_pos rfl]
      rcases imin_sp (minR F ok m0 n) (F (n : Int)) with ⟨e, l⟩ | ⟨e, l⟩
      · rw [e]
        refine ⟨by omega, fun h a b q => ?_, .inr ⟨(n : Int), by omega, hk, rfl⟩⟩
        by_cases e2 : h = n
        · rw [e2]; exact Int.le_refl _
        · have := i2 h a (by omega) q; omega
      · rw [e]
        refine ⟨i1, fun h a b q => ?_, i3.imp_right (fun ⟨h, a, q⟩ => ⟨h, by omega, q⟩)⟩
        by_cases e2 : h = n
        · rw [e2]; exact l
        · exact i2 h a (by omega) q
theorem minS_sp {F : Int → Int → Int} {ok : Int → Int → Bool} {n : Nat} : ∀ g0 : Nat, minS F ok n g0 ≤ 1000 ∧ (∀ g h : Int, 0 ≤ g → g < (g0 : Int) → 0 ≤ h → h < (n : Int) → ok g h = true → minS F ok n g0 ≤ F g h) ∧ (minS F ok n g0 = 1000 ∨ ∃ g h : Int, (0 ≤ g ∧ g < (g0 : Int)) ∧ (0 ≤ h ∧ h < (n : Int)) ∧ ok g h = true ∧ minS F ok n g0 = F g h)
  | 0 => ⟨Int.le_refl _, fun g h a b => by omega, .inl rfl⟩
  | g0 + 1 => by
    obtain ⟨i1, i2, i3⟩ := minS_sp (F := F) (ok := ok) (n := n) g0
    obtain ⟨j1, j2, j3⟩ := minR_sp (F := F (g0 : Int)) (ok := ok (g0 : Int)) (m0 := minS F ok n g0) n
    show minR (F (g0 : Int)) (ok (g0 : Int)) (minS F ok n g0) n ≤ 1000 ∧ (∀ g h : Int, 0 ≤ g → g < ((g0 + 1 : Nat) : Int) → 0 ≤ h → h < (n : Int) → ok g h = true → minR (F (g0 : Int)) (ok (g0 : Int)) (minS F ok n g0) n ≤ F g h) ∧ (minR (F (g0 : Int)) (ok (g0 : Int)) (minS F ok n g0) n = 1000 ∨ ∃ g h : Int, (0 ≤ g ∧ g < ((g0 + 1 : Nat) : Int)) ∧ (0 ≤ h ∧ h < (n : Int)) ∧ ok g h = true ∧ minR (F (g0 : Int)) (ok (g0 : Int)) (minS F ok n g0) n = F g h)
    refine ⟨by omega, fun g h a b a2 b2 q => ?_, ?_⟩
    · by_cases e : g = g0
      · rw [e] at q ⊢; exact j2 h a2 b2 q
      · have := i2 g h a (by omega) a2 b2 q; omega
    · rcases j3 with e | ⟨h, a, q, e⟩
      · rw [e]
        exact i3.imp_right (fun ⟨g, h, a, q⟩ => ⟨g, h, by omega, q⟩)
      · exact .inr ⟨(g0 : Int), h, by omega, a, q, e⟩

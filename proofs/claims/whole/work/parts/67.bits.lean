/-! ===== D47: how many bits ===== -/
theorem land_split (k a b : Nat) : a &&& b = 2 ^ k * ((a / 2 ^ k) &&& (b / 2 ^ k)) + ((a % 2 ^ k) &&& (b % 2 ^ k)) := by
  have h := Nat.div_add_mod (a &&& b) (2 ^ k)
  rw [Nat.and_div_two_pow, Nat.and_mod_two_pow] at h
  exact h.symm
def cntB : Nat → Nat → Nat
  | 0, _ => 0
  | f + 1, n => n % 2 + cntB f (n / 2)
theorem cntB_zero : ∀ f, cntB f 0 = 0
  | 0 => rfl
  | f + 1 => by show 0 % 2 + cntB f (0 / 2) = 0; rw [Nat.zero_div, cntB_zero f]
theorem land_2 (a b : Nat) : a &&& b = 2 * ((a / 2) &&& (b / 2)) + ((a % 2) &&& (b % 2)) := land_split 1 a b
theorem land_16 (a b : Nat) : a &&& b = 16 * ((a / 16) &&& (b / 16)) + ((a % 16) &&& (b % 16)) := land_split 4 a b
theorem kern : ∀ f n : Nat, 0 < n → n < 2 ^ f → cntB f (n &&& (n - 1)) + 1 = cntB f n ∧ (n &&& (n - 1)) < n := by
  intro f
  induction f with
  | zero => intro n h0 h1; simp at h1; omega
  | succ f ih =>
    intro n h0 h1
    have h2 : n < 2 * 2 ^ f := by rw [Nat.pow_succ] at h1; omega
    have e := land_2 n (n - 1)
    by_cases hn : n % 2 = 1
    · rw [show (n - 1) / 2 = n / 2 by omega, show (n - 1) % 2 = 0 by omega, Nat.and_self, Nat.and_zero] at e
      rw [e]
      refine ⟨?_, by omega⟩
      show (2 * (n / 2) + 0) % 2 + cntB f ((2 * (n / 2) + 0) / 2) + 1 = n % 2 + cntB f (n / 2)
      rw [show (2 * (n / 2) + 0) / 2 = n / 2 by omega]; omega
    · rw [show (n - 1) / 2 = n / 2 - 1 by omega, show n % 2 = 0 by omega, Nat.zero_and] at e
      have i := ih (n / 2) (by omega) (by omega)
      rw [e]
      refine ⟨?_, by omega⟩
      show (2 * (n / 2 &&& (n / 2 - 1)) + 0) % 2 + cntB f ((2 * (n / 2 &&& (n / 2 - 1)) + 0) / 2) + 1 = n % 2 + cntB f (n / 2)
      rw [show (2 * (n / 2 &&& (n / 2 - 1)) + 0) / 2 = (n / 2 &&& (n / 2 - 1)) by omega]; omega
def popN (d : Nat) : Nat := d % 2 + d / 2 % 2 + d / 4 % 2 + d / 8 % 2
theorem popN_le (d : Nat) : popN d ≤ 4 := by unfold popN; omega
theorem cntB_4 (f n : Nat) : cntB (f + 4) n = popN (n % 16) + cntB f (n / 16) := by
  show n % 2 + (n / 2 % 2 + (n / 2 / 2 % 2 + (n / 2 / 2 / 2 % 2 + cntB f (n / 2 / 2 / 2 / 2)))) = _
  rw [show n / 2 / 2 / 2 / 2 = n / 16 by omega]
  unfold popN; omega
/-- masks of k nibbles -/
def rep (d : Nat) : Nat → Nat
  | 0 => 0
  | k + 1 => 16 * rep d k + d
theorem rep_div {d k : Nat} (h : d < 16) : rep d (k + 1) / 16 = rep d k := by show (16 * rep d k + d) / 16 = _; omega
theorem rep_mod {d k : Nat} (h : d < 16) : rep d (k + 1) % 16 = d := by show (16 * rep d k + d) % 16 = _; omega
theorem nib5 : ∀ c, c < 2 → ∀ e, e < 8 → (8 * c + e) &&& 5 = e &&& 5 := by decide
theorem nib3 : ∀ c, c < 4 → ∀ e, e < 4 → (4 * c + e) &&& 3 = e &&& 3 := by decide
theorem nibp : ∀ d, d < 16 → (d / 2 &&& 5) ≤ d ∧ ((d - (d / 2 &&& 5)) &&& 3) + ((d - (d / 2 &&& 5)) / 4 &&& 3) = popN d ∧ d - (d / 2 &&& 5) < 16 := by decide
def hal (k n : Nat) : Nat := n - (n / 2 &&& rep 5 k)
def qua (k n : Nat) : Nat := (hal k n &&& rep 3 k) + (hal k n / 4 &&& rep 3 k)
theorem hal_step (k n : Nat) : hal (k + 1) n = 16 * hal k (n / 16) + (n % 16 - (n % 16 / 2 &&& 5)) := by
  have e := land_16 (n / 2) (rep 5 (k + 1))
  rw [rep_div (by decide), rep_mod (by decide), show n / 2 / 16 = n / 16 / 2 by omega, show n / 2 % 16 = 8 * (n / 16 % 2) + n % 16 / 2 by omega, nib5 _ (by omega) _ (by omega)] at e
  have h1 := (nibp (n % 16) (by omega)).1
  have h2 : (n / 16 / 2 &&& rep 5 k) ≤ n / 16 := Nat.le_trans Nat.and_le_left (by omega)
  unfold hal
  rw [e]
  omega
theorem qua_step (k n : Nat) : qua (k + 1) n = 16 * qua k (n / 16) + popN (n % 16) := by
  have hs := hal_step k n
  obtain ⟨_, p2, p3⟩ := nibp (n % 16) (by omega)
  unfold qua
  generalize hal (k + 1) n = x at *
  generalize hal k (n / 16) = y at *
  generalize n % 16 - (n % 16 / 2 &&& 5) = d at *
  have e1 := land_16 x (rep 3 (k + 1))
  have e2 := land_16 (x / 4) (rep 3 (k + 1))
  rw [rep_div (by decide), rep_mod (by decide), show x / 16 = y by omega, show x % 16 = d by omega] at e1
  rw [rep_div (by decide), rep_mod (by decide), show x / 4 / 16 = y / 4 by omega, show x / 4 % 16 = 4 * (y % 4) + d / 4 by omega, nib3 _ (by omega) _ (by omega)] at e2
  rw [e1, e2, ← p2]
  omega
theorem land_15 (a : Nat) : a &&& 15 = a % 16 := Nat.and_two_pow_sub_one_eq_mod a 4
theorem mask_f (q0 q1 q2 q3 q4 q5 q6 q7 : Nat) (h : q0 < 16 ∧ q1 < 16 ∧ q2 < 16 ∧ q3 < 16 ∧ q4 < 16 ∧ q5 < 16 ∧ q6 < 16 ∧ q7 < 16) :
    (q0 + 16 * (q1 + 16 * (q2 + 16 * (q3 + 16 * (q4 + 16 * (q5 + 16 * (q6 + 16 * q7))))))) &&& 252645135 = q0 + 256 * (q2 + 256 * (q4 + 256 * q6)) := by
  have s : ∀ a b x y : Nat, a < 16 → (a + 16 * x) &&& (16 * (16 * y) + 15) = a + 16 * (x &&& (16 * y)) := by
    intro a b x y ha
    have e := land_16 (a + 16 * x) (16 * (16 * y) + 15)
    rw [show (a + 16 * x) / 16 = x by omega, show (a + 16 * x) % 16 = a by omega, show (16 * (16 * y) + 15) / 16 = 16 * y by omega, show (16 * (16 * y) + 15) % 16 = 15 by omega, land_15, Nat.mod_eq_of_lt ha] at e
    omega
  have z : ∀ a x y : Nat, a < 16 → (a + 16 * x) &&& (16 * y) = 16 * (x &&& y) := by
    intro a x y ha
    have e := land_16 (a + 16 * x) (16 * y)
    rw [show (a + 16 * x) / 16 = x by omega, show (a + 16 * x) % 16 = a by omega, show 16 * y / 16 = y by omega, show 16 * y % 16 = 0 by omega, Nat.and_zero] at e
    omega
  rw [show 252645135 = 16 * (16 * 986895) + 15 from rfl, s _ 0 _ _ h.1, z _ _ _ h.2.1, show 986895 = 16 * (16 * 3855) + 15 from rfl, s _ 0 _ _ h.2.2.1, z _ _ _ h.2.2.2.1, show 3855 = 16 * (16 * 15) + 15 from rfl, s _ 0 _ _ h.2.2.2.2.1, z _ _ _ h.2.2.2.2.2.1, show 15 = 16 * (16 * 0) + 15 from rfl, s _ 0 _ _ h.2.2.2.2.2.2.1, Nat.mul_zero, Nat.and_zero]
  omega
theorem pop_32 (n : Nat) (hn : n < 4294967296) : ((((qua 8 n + qua 8 n / 16) &&& 252645135) + ((qua 8 n + qua 8 n / 16) &&& 252645135) / 256 + ((((qua 8 n + qua 8 n / 16) &&& 252645135) + ((qua 8 n + qua 8 n / 16) &&& 252645135) / 256) / 65536)) &&& 63) = cntB 32 n := by
  have c : cntB 32 n = popN (n % 16) + (popN (n / 16 % 16) + (popN (n / 16 / 16 % 16) + (popN (n / 16 / 16 / 16 % 16) + (popN (n / 16 / 16 / 16 / 16 % 16) + (popN (n / 16 / 16 / 16 / 16 / 16 % 16) + (popN (n / 16 / 16 / 16 / 16 / 16 / 16 % 16) + (popN (n / 16 / 16 / 16 / 16 / 16 / 16 / 16 % 16) + 0))))))) := by
    have e1 : cntB 32 n = popN (n % 16) + cntB 28 (n / 16) := cntB_4 28 n
    have e2 : cntB 28 (n / 16) = _ := cntB_4 24 _
    have e3 : cntB 24 (n / 16 / 16) = _ := cntB_4 20 _
    have e4 : cntB 20 (n / 16 / 16 / 16) = _ := cntB_4 16 _
    have e5 : cntB 16 (n / 16 / 16 / 16 / 16) = _ := cntB_4 12 _
    have e6 : cntB 12 (n / 16 / 16 / 16 / 16 / 16) = _ := cntB_4 8 _
    have e7 : cntB 8 (n / 16 / 16 / 16 / 16 / 16 / 16) = _ := cntB_4 4 _
    have e8 : cntB 4 (n / 16 / 16 / 16 / 16 / 16 / 16 / 16) = _ := cntB_4 0 _
    rw [e1, e2, e3, e4, e5, e6, e7, e8]
    rfl
  have z : ∀ x, qua 0 x = 0 := fun x => by unfold qua rep; rw [Nat.and_zero, Nat.and_zero]
  have q := qua_step 7 n
  rw [qua_step 6, qua_step 5, qua_step 4, qua_step 3, qua_step 2, qua_step 1, qua_step 0, z] at q
  rw [c, show (63 : Nat) = 2 ^ 6 - 1 from rfl, Nat.and_two_pow_sub_one_eq_mod, show (2 : Nat) ^ 6 = 64 from rfl]
  have l0 := popN_le (n % 16)
  have l1 := popN_le (n / 16 % 16)
  have l2 := popN_le (n / 16 / 16 % 16)
  have l3 := popN_le (n / 16 / 16 / 16 % 16)
  have l4 := popN_le (n / 16 / 16 / 16 / 16 % 16)
  have l5 := popN_le (n / 16 / 16 / 16 / 16 / 16 % 16)
  have l6 := popN_le (n / 16 / 16 / 16 / 16 / 16 / 16 % 16)
  have l7 := popN_le (n / 16 / 16 / 16 / 16 / 16 / 16 / 16 % 16)
  clear c
  generalize popN (n % 16) = p0 at *
  generalize popN (n / 16 % 16) = p1 at *
  generalize popN (n / 16 / 16 % 16) = p2 at *
  generalize popN (n / 16 / 16 / 16 % 16) = p3 at *
  generalize popN (n / 16 / 16 / 16 / 16 % 16) = p4 at *
  generalize popN (n / 16 / 16 / 16 / 16 / 16 % 16) = p5 at *
  generalize popN (n / 16 / 16 / 16 / 16 / 16 / 16 % 16) = p6 at *
  generalize popN (n / 16 / 16 / 16 / 16 / 16 / 16 / 16 % 16) = p7 at *
  generalize hx : qua 8 n = x at *
  clear hx
  have hs : x + x / 16 = (p0 + p1) + 16 * ((p1 + p2) + 16 * ((p2 + p3) + 16 * ((p3 + p4) + 16 * ((p4 + p5) + 16 * ((p5 + p6) + 16 * ((p6 + p7) + 16 * p7)))))) := by omega
  rw [hs, mask_f _ _ _ _ _ _ _ _ ⟨by omega, by omega, by omega, by omega, by omega, by omega, by omega, by omega⟩]
  clear hs q
  have b0 : p0 + p1 ≤ 8 := by omega
  have b1 : p2 + p3 ≤ 8 := by omega
  have b2 : p4 + p5 ≤ 8 := by omega
  have b3 : p6 + p7 ≤ 8 := by omega
  have g : p0 + (p1 + (p2 + (p3 + (p4 + (p5 + (p6 + (p7 + 0))))))) = (p0 + p1) + (p2 + p3) + (p4 + p5) + (p6 + p7) := by omega
  rw [g]
  clear g l0 l1 l2 l3 l4 l5 l6 l7
  generalize p0 + p1 = P0 at *
  generalize p2 + p3 = P1 at *
  generalize p4 + p5 = P2 at *
  generalize p6 + p7 = P3 at *
  have d1 : (P0 + 256 * (P1 + 256 * (P2 + 256 * P3))) / 256 = P1 + 256 * (P2 + 256 * P3) := by omega
  rw [d1]
  have d2 : (P0 + 256 * (P1 + 256 * (P2 + 256 * P3)) + (P1 + 256 * (P2 + 256 * P3))) / 65536 = (P2 + P3) + 256 * P3 := by omega
  rw [d2]
  omega

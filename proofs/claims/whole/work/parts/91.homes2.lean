/-! ===== D71: houses: the first of the least ===== -/
def valH (K : Int → Int) (r : Nat) (p s g h : Int) : Int := costH K p g h + bestB K r (p + 1) (sGH s g h)
theorem best_succ {K : Int → Int} {r : Nat} {p s : Int} : bestB K (r + 1) p s = minS (valH K r p s) (canH K p s) (nH K) (nH K) := rfl
theorem nH_8 {K : Int → Int} (hI : IsV K) : nH K ≤ 8 ∧ ((nH K : Nat) : Int) = K 4 := by
  have := hI.2.2.1
  unfold nH; omega
theorem house_rg {K : Int → Int} (hI : IsV K) {h : Int} (h0 : 0 ≤ h) (h1 : h < K 4) : 0 ≤ K (29 + h) ∧ K (29 + h) < K 1 * K 2 := hI.2.2.2.2.1 h h0 h1
theorem cost_rg {K : Int → Int} {c p g h : Int} (hV : CV c K) (p0 : 0 ≤ p) (p1 : p < K 3) (g0 : 0 ≤ g) (g1 : g < K 4) (h0 : 0 ≤ h) (h1 : h < K 4) : (0 ≤ apartF (K 1) (K (13 + p)) (K (29 + g)) ∧ apartF (K 1) (K (13 + p)) (K (29 + g)) ≤ 8) ∧ (0 ≤ apartF (K 1) (K (17 + p)) (K (29 + h)) ∧ apartF (K 1) (K (17 + p)) (K (29 + h)) ≤ 8) := by
  have hw := wide_of hV.1 p0 p1
  have N25 := pl_25 hV.1
  have hS := (curV_iff.mp hV.2).1 p p0 p1
  have hg := house_rg hV.1 g0 g1
  have hh := house_rg hV.1 h0 h1
  have a1 := apartF_8 hw.1.1 hw.1.2 hw.2.1 hw.2.2 (show 0 ≤ K (13 + p) by omega) (by omega) hg.1 hg.2
  have a2 := apartF_8 hw.1.1 hw.1.2 hw.2.1 hw.2.2 (show 0 ≤ K (17 + p) by omega) (by omega) hh.1 hh.2
  have b1 := apartF_rg hw.1.1 hw.1.2 (show 0 ≤ K (13 + p) by omega) (by omega) hg.1 (by omega)
  have b2 := apartF_rg hw.1.1 hw.1.2 (show 0 ≤ K (17 + p) by omega) (by omega) hh.1 (by omega)
  exact ⟨⟨b1.1, a1⟩, b2.1, a2⟩
theorem best_rg {K : Int → Int} {c : Int} (hV : CV c K) : ∀ (r : Nat) (p s : Int), 0 ≤ p → p + r ≤ K 3 → (0 ≤ bestB K r p s ∧ bestB K r p s ≤ 1000) ∧ (bestB K r p s < 1000 → bestB K r p s ≤ 16 * r)
  | 0, _, _, _, _ => by show ((0 : Int) ≤ 0 ∧ (0 : Int) ≤ 1000) ∧ ((0 : Int) < 1000 → (0 : Int) ≤ _); omega
  | r + 1, p, s, p0, p1 => by
    have hn := nH_8 hV.1
    have l3 := hV.1.2.1
    rw [best_succ]
    obtain ⟨i1, i2, i3⟩ := minS_sp (F := valH K r p s) (ok := canH K p s) (n := nH K) (nH K)
    rcases i3 with e | ⟨g, h, a, b, q, e⟩
    · rw [e]; omega
    · have ih := best_rg hV r (p + 1) (sGH s g h) (by omega) (by omega)
      have cr := cost_rg (g := g) (h := h) hV p0 (by omega) a.1 (by omega) b.1 (by omega)
      have ev : valH K r p s g h = apartF (K 1) (K (13 + p)) (K (29 + g)) + apartF (K 1) (K (17 + p)) (K (29 + h)) + bestB K r (p + 1) (sGH s g h) := rfl
      rw [ev] at e
      omega
theorem best_le {K : Int → Int} {r : Nat} {p s g h : Int} (g0 : 0 ≤ g) (g1 : g < (nH K : Int)) (h0 : 0 ≤ h) (h1 : h < (nH K : Int)) (q : canH K p s g h = true) : bestB K (r + 1) p s ≤ valH K r p s g h := by
  rw [best_succ]
  exact (minS_sp (F := valH K r p s) (ok := canH K p s) (n := nH K) (nH K)).2.1 g h g0 g1 h0 h1 q
theorem best_ex {K : Int → Int} {c : Int} {r : Nat} {p s : Int} (hV : CV c K) (p0 : 0 ≤ p) (p1 : p + ((r + 1 : Nat) : Int) ≤ K 3) (q : bestB K (r + 1) p s < 1000) : ∃ g h : Int, (0 ≤ g ∧ g < (nH K : Int)) ∧ (0 ≤ h ∧ h < (nH K : Int)) ∧ canH K p s g h = true ∧ bestB K r (p + 1) (sGH s g h) < 1000 ∧ bestB K (r + 1) p s = valH K r p s g h := by
  have hn := nH_8 hV.1
  rw [best_succ] at q ⊢
  rcases (minS_sp (F := valH K r p s) (ok := canH K p s) (n := nH K) (nH K)).2.2 with e | ⟨g, h, a, b, k, e⟩
  · omega
  · have ih := best_rg hV r (p + 1) (sGH s g h) (by omega) (by omega)
    have cr := cost_rg (g := g) (h := h) hV p0 (by omega) a.1 (by omega) b.1 (by omega)
    have ev : valH K r p s g h = apartF (K 1) (K (13 + p)) (K (29 + g)) + apartF (K 1) (K (17 + p)) (K (29 + h)) + bestB K r (p + 1) (sGH s g h) := rfl
    exact ⟨g, h, a, b, k, by rw [e] at q; omega, e⟩
def ltP (g h G H : Int) : Prop := g < G ∨ (g = G ∧ h < H)
def IsFirst (K : Int → Int) (r : Nat) (p s G H : Int) : Prop := ((0 ≤ G ∧ G < (nH K : Int)) ∧ (0 ≤ H ∧ H < (nH K : Int))) ∧ canH K p s G H = true ∧ valH K r p s G H = bestB K (r + 1) p s ∧ ∀ g h : Int, (0 ≤ g ∧ g < (nH K : Int)) → (0 ≤ h ∧ h < (nH K : Int)) → canH K p s g h = true → ltP g h G H → valH K r p s g h ≠ bestB K (r + 1) p s
theorem first_uq {K : Int → Int} {r : Nat} {p s G H G' H' : Int} (a : IsFirst K r p s G H) (b : IsFirst K r p s G' H') : G = G' ∧ H = H' := by
  have n1 : ¬ ltP G H G' H' := fun z => b.2.2.2 G H a.1.1 a.1.2 a.2.1 z a.2.2.1
  have n2 : ¬ ltP G' H' G H := fun z => a.2.2.2 G' H' b.1.1 b.1.2 b.2.1 z b.2.2.1
  unfold ltP at n1 n2
  omega
def ChainR (K : Int → Int) : Nat → Int → Int → (Int → Int) → Prop
  | 0, _, _, _ => True
  | r + 1, p, s, b => IsFirst K r p s (b (2 * p)) (b (2 * p + 1)) ∧ ChainR K r (p + 1) (sGH s (b (2 * p)) (b (2 * p + 1))) b
theorem chain_cong {K : Int → Int} {b b' : Int → Int} : ∀ (r : Nat) (p s : Int), (∀ i, 2 * p ≤ i → i < 2 * p + 2 * (r : Int) → b i = b' i) → ChainR K r p s b → ChainR K r p s b'
  | 0, _, _, _, _ => trivial
  | r + 1, p, s, e, h => by
    obtain ⟨h1, h2⟩ : IsFirst K r p s (b (2 * p)) (b (2 * p + 1)) ∧ ChainR K r (p + 1) (sGH s (b (2 * p)) (b (2 * p + 1))) b := h
    rw [e (2 * p) (by omega) (by omega), e (2 * p + 1) (by omega) (by omega)] at h1 h2
    exact ⟨h1, chain_cong r (p + 1) _ (fun i a c => e i (by omega) (by omega)) h2⟩
theorem chain_uq {K : Int → Int} {b b' : Int → Int} : ∀ (r : Nat) (p s : Int), ChainR K r p s b → ChainR K r p s b' → ∀ i, 2 * p ≤ i → i < 2 * p + 2 * (r : Int) → b i = b' i
  | 0, _, _, _, _ => fun i a c => by omega
  | r + 1, p, s, h, h' => by
    obtain ⟨h1, h2⟩ : IsFirst K r p s (b (2 * p)) (b (2 * p + 1)) ∧ ChainR K r (p + 1) (sGH s (b (2 * p)) (b (2 * p + 1))) b := h
    obtain ⟨g1, g2⟩ : IsFirst K r p s (b' (2 * p)) (b' (2 * p + 1)) ∧ ChainR K r (p + 1) (sGH s (b' (2 * p)) (b' (2 * p + 1))) b' := h'
    obtain ⟨e1, e2⟩ := first_uq h1 g1
    rw [← e1, ← e2] at g2
    have i := chain_uq r (p + 1) _ h2 g2
    intro j a c
    by_cases z1 : j = 2 * p
    · rw [z1]; exact e1
    by_cases z2 : j = 2 * p + 1
    · rw [z2]; exact e2
    exact i j (by omega) (by omega)
def HInv (K : Int → Int) (r : Nat) (p s f L0 : Int) (H0 b0 : Int → Int) (pr : Int → Int → Prop) (L : Int) (b : Int → Int) : Prop :=
  (L = L0 ∧ (∀ i, 0 ≤ i → i < 8 → b i = b0 i) ∧ ∀ g h, pr g h → canH K p s g h = true → ¬ (bestB K r (p + 1) (sGH s g h) < 1000 ∧ f + valH K r p s g h < L0)) ∨
  (∃ G H, pr G H ∧ canH K p s G H = true ∧ bestB K r (p + 1) (sGH s G H) < 1000 ∧ L = f + valH K r p s G H ∧ L < L0 ∧ (∀ i, 0 ≤ i → i < 2 * p → b i = H0 i) ∧ b (2 * p) = G ∧ b (2 * p + 1) = H ∧ ChainR K r (p + 1) (sGH s G H) b ∧
    ∀ g h, pr g h → canH K p s g h = true → bestB K r (p + 1) (sGH s g h) < 1000 → valH K r p s G H ≤ valH K r p s g h ∧ (ltP g h G H → valH K r p s G H < valH K r p s g h))
def HPost (K : Int → Int) (r : Nat) (p s f L0 : Int) (H0 b0 : Int → Int) (L : Int) (b : Int → Int) : Prop :=
  (¬ (bestB K r p s < 1000 ∧ f + bestB K r p s < L0) → L = L0 ∧ ∀ i, 0 ≤ i → i < 8 → b i = b0 i) ∧
  (bestB K r p s < 1000 ∧ f + bestB K r p s < L0 → L = f + bestB K r p s ∧ (∀ i, 0 ≤ i → i < 2 * p → b i = H0 i) ∧ ChainR K r p s b)
theorem h_skip {K : Int → Int} {r : Nat} {p s f L0 L : Int} {H0 b0 b : Int → Int} {pr pr' : Int → Int → Prop} (h : HInv K r p s f L0 H0 b0 pr L b) (hp : ∀ g k, pr g k → pr' g k) (hq : ∀ g k, pr' g k → canH K p s g k = true → pr g k) : HInv K r p s f L0 H0 b0 pr' L b := by
  rcases h with ⟨a1, a2, a3⟩ | ⟨G, H, a1, a2, a3, a4, a5, a6, a7, a8, a9, a10⟩
  · exact .inl ⟨a1, a2, fun g k z c => a3 g k (hq g k z c) c⟩
  · exact .inr ⟨G, H, hp G H a1, a2, a3, a4, a5, a6, a7, a8, a9, fun g k z c => a10 g k (hq g k z c) c⟩
theorem h_go {K : Int → Int} {r : Nat} {p s f L0 L L' G0 G1 : Int} {H0 H1 b0 b b' : Int → Int} {pr pr' : Int → Int → Prop} (p0 : 0 ≤ p) (p1 : 2 * p + 2 + 2 * (r : Int) ≤ 8) (h : HInv K r p s f L0 H0 b0 pr L b) (hc : canH K p s G0 G1 = true) (hlt : ∀ g k, pr g k → ltP g k G0 G1) (hp : ∀ g k, pr g k → pr' g k) (hp2 : pr' G0 G1) (hq : ∀ g k, pr' g k → pr g k ∨ (g = G0 ∧ k = G1))
    (e1 : ∀ i, 0 ≤ i → i < 2 * p → H1 i = H0 i) (e2 : H1 (2 * p) = G0) (e3 : H1 (2 * p + 1) = G1) (hP : HPost K r (p + 1) (sGH s G0 G1) (f + costH K p G0 G1) L H1 b L' b') : HInv K r p s f L0 H0 b0 pr' L' b' := by
  have ev : valH K r p s G0 G1 = costH K p G0 G1 + bestB K r (p + 1) (sGH s G0 G1) := rfl
  by_cases C : bestB K r (p + 1) (sGH s G0 G1) < 1000 ∧ f + costH K p G0 G1 + bestB K r (p + 1) (sGH s G0 G1) < L
  · obtain ⟨c1, c2, c3⟩ := hP.2 C
    have lt : f + valH K r p s G0 G1 < L := by rw [ev]; omega
    have LL : L ≤ L0 := by
      rcases h with ⟨a1, _⟩ | ⟨G, H, _, _, _, _, a5, _⟩ <;> omega
    refine .inr ⟨G0, G1, hp2, hc, C.1, by rw [ev]; omega, by omega, fun i i0 i1 => (c2 i i0 (by omega)).trans (e1 i i0 i1), (c2 _ (by omega) (by omega)).trans e2, (c2 _ (by omega) (by omega)).trans e3, c3, fun g k z c d => ?_⟩
    rcases hq g k z with z | ⟨rfl, rfl⟩
    · rcases h with ⟨a1, _, a3⟩ | ⟨G, H, a1, a2, a3, a4, a5, _, _, _, _, a10⟩
      · have := a3 g k z c
        have : ¬ (f + valH K r p s g k < L0) := fun q => this ⟨d, q⟩
        omega
      · have := (a10 g k z c d).1
        omega
    · exact ⟨Int.le_refl _, fun q => by unfold ltP at q; omega⟩
  · obtain ⟨c1, c2⟩ := hP.1 C
    rcases h with ⟨a1, a2, a3⟩ | ⟨G, H, a1, a2, a3, a4, a5, a6, a7, a8, a9, a10⟩
    · refine .inl ⟨c1.trans a1, fun i i0 i1 => (c2 i i0 i1).trans (a2 i i0 i1), fun g k z c => ?_⟩
      rcases hq g k z with z | ⟨rfl, rfl⟩
      · exact a3 g k z c
      · rw [ev]
        rintro ⟨q1, q2⟩
        exact C ⟨q1, by omega⟩
    · refine .inr ⟨G, H, hp G H a1, a2, a3, c1.trans a4, by omega, fun i i0 i1 => (c2 i i0 (by omega)).trans (a6 i i0 i1), (c2 _ (by omega) (by omega)).trans a7, (c2 _ (by omega) (by omega)).trans a8, chain_cong r (p + 1) _ (fun i i0 i1 => (c2 i (by omega) (by omega)).symm) a9, fun g k z c d => ?_⟩
      rcases hq g k z with z | ⟨rfl, rfl⟩
      · exact a10 g k z c d
      · have l := hlt G H a1
        have : ¬ (f + valH K r p s g k < L) := fun q => C ⟨d, by rw [ev] at q; omega⟩
        exact ⟨by omega, fun q => by unfold ltP at q l; omega⟩
theorem h_end {K : Int → Int} {c : Int} {r : Nat} {p s f L0 L : Int} {H0 b0 b : Int → Int} {pr : Int → Int → Prop} (hV : CV c K) (p0 : 0 ≤ p) (p1 : p + ((r + 1 : Nat) : Int) ≤ K 3) (h : HInv K r p s f L0 H0 b0 pr L b) (hp : ∀ g k, pr g k ↔ ((0 ≤ g ∧ g < (nH K : Int)) ∧ (0 ≤ k ∧ k < (nH K : Int)))) : HPost K (r + 1) p s f L0 H0 b0 L b := by
  have hn := nH_8 hV.1
  have l3 := hV.1.2.1
  rcases h with ⟨a1, a2, a3⟩ | ⟨G, H, a1, a2, a3, a4, a5, a6, a7, a8, a9, a10⟩
  · refine ⟨fun _ => ⟨a1, a2⟩, fun ⟨q1, q2⟩ => ?_⟩
    obtain ⟨g, k, z1, z2, z3, z4, z5⟩ := best_ex hV p0 p1 q1
    exact absurd ⟨z4, by omega⟩ (a3 g k ((hp g k).mpr ⟨z1, z2⟩) z3)
  · have rg := (hp G H).mp a1
    have bl := best_le (r := r) rg.1.1 rg.1.2 rg.2.1 rg.2.2 a2
    have b2 := best_rg hV r (p + 1) (sGH s G H) (by omega) (by omega)
    have cr := cost_rg (g := G) (h := H) hV p0 (by omega) rg.1.1 (by omega) rg.2.1 (by omega)
    have ev : valH K r p s G H = apartF (K 1) (K (13 + p)) (K (29 + G)) + apartF (K 1) (K (17 + p)) (K (29 + H)) + bestB K r (p + 1) (sGH s G H) := rfl
    have lt : bestB K (r + 1) p s < 1000 := by omega
    obtain ⟨g, k, z1, z2, z3, z4, z5⟩ := best_ex hV p0 p1 lt
    have := (a10 g k ((hp g k).mpr ⟨z1, z2⟩) z3 z4).1
    have eb : valH K r p s G H = bestB K (r + 1) p s := by omega
    refine ⟨fun q => absurd ⟨lt, by omega⟩ q, fun _ => ⟨by omega, a6, ?_, by rw [a7, a8]; exact a9⟩⟩
    rw [a7, a8]
    refine ⟨rg, a2, eb, fun g' k' y1 y2 y3 y4 => ?_⟩
    have b3 := best_rg hV r (p + 1) (sGH s g' k') (by omega) (by omega)
    have cr3 := cost_rg (g := g') (h := k') hV p0 (by omega) y1.1 (by omega) y2.1 (by omega)
    have ev3 : valH K r p s g' k' = apartF (K 1) (K (13 + p)) (K (29 + g')) + apartF (K 1) (K (17 + p)) (K (29 + k')) + bestB K r (p + 1) (sGH s g' k') := rfl
    by_cases w : bestB K r (p + 1) (sGH s g' k') < 1000
    · have := (a10 g' k' ((hp g' k').mpr ⟨y1, y2⟩) y3 w).2 y4
      omega
    · omega
/-- no way at all, and the least: the same -/
theorem rowW_pos {F : Int → Int} {ok : Int → Bool} (hF : ∀ h, 0 ≤ F h) : ∀ n : Nat, 0 ≤ rowW F ok n ∧ (0 < rowW F ok n ↔ ∃ h : Int, (0 ≤ h ∧ h < (n : Int)) ∧ ok h = true ∧ 0 < F h)
  | 0 => ⟨Int.le_refl 0, fun z => absurd (show (0 : Int) < 0 from z) (by decide), fun ⟨h, a, _⟩ => by omega⟩
  | n + 1 => by
    obtain ⟨i1, i2⟩ := rowW_pos (ok := ok) hF n
    have f := hF (n : Int)
    show 0 ≤ rowW F ok n + (if ok (n : Int) then F (n : Int) else 0) ∧ (0 < rowW F ok n + (if ok (n : Int) then F (n : Int) else 0) ↔ _)
    have back : (∃ h : Int, (0 ≤ h ∧ h < ((n + 1 : Nat) : Int)) ∧ ok h = true ∧ 0 < F h) ↔ ((∃ h : Int, (0 ≤ h ∧ h < (n : Int)) ∧ ok h = true ∧ 0 < F h) ∨ (ok (n : Int) = true ∧ 0 < F (n : Int))) := by
      constructor
      · rintro ⟨h, a, b, d⟩
        by_cases e : h = n
        · rw [e] at b d; exact .inr ⟨b, d⟩
        · exact .inl ⟨h, by omega, b, d⟩
      · rintro (⟨h, a, b⟩ | ⟨b, d⟩)
        · exact ⟨h, by omega, b⟩
        · exact ⟨(n : Int), by omega, b, d⟩
    rw [back, ← i2]
    cases hk : ok (n : Int)
    · rw [if_neg (by simp)]
      refine ⟨by omega, fun z => .inl (by omega), fun z => ?_⟩
      rcases z with z | z
      · omega
      · exact absurd z.1 (by simp)
    · rw [if_pos rfl]
      refine ⟨by omega, fun z => ?_, fun z => ?_⟩
      · by_cases w : 0 < F (n : Int)
        · exact .inr ⟨rfl, w⟩
        · exact .inl (by omega)
      · rcases z with z | z <;> omega
theorem sumW_pos {F : Int → Int → Int} {ok : Int → Int → Bool} {n : Nat} (hF : ∀ g h, 0 ≤ F g h) : ∀ g0 : Nat, 0 ≤ sumW F ok n g0 ∧ (0 < sumW F ok n g0 ↔ ∃ g h : Int, (0 ≤ g ∧ g < (g0 : Int)) ∧ (0 ≤ h ∧ h < (n : Int)) ∧ ok g h = true ∧ 0 < F g h)
  | 0 => ⟨Int.le_refl 0, fun z => absurd (show (0 : Int) < 0 from z) (by decide), fun ⟨g, h, a, _⟩ => by omega⟩
  | g0 + 1 => by
    obtain ⟨i1, i2⟩ := sumW_pos (ok := ok) (n := n) hF g0
    obtain ⟨j1, j2⟩ := rowW_pos (F := F (g0 : Int)) (ok := ok (g0 : Int)) (fun h => hF _ h) n
    show 0 ≤ sumW F ok n g0 + rowW (F (g0 : Int)) (ok (g0 : Int)) n ∧ (0 < sumW F ok n g0 + rowW (F (g0 : Int)) (ok (g0 : Int)) n ↔ _)
    refine ⟨by omega, fun z => ?_, fun ⟨g, h, a, b, d⟩ => ?_⟩
    · by_cases w : 0 < sumW F ok n g0
      · obtain ⟨g, h, a, b⟩ := i2.mp w
        exact ⟨g, h, by omega, b⟩
      · obtain ⟨h, a, b⟩ := j2.mp (by omega)
        exact ⟨(g0 : Int), h, by omega, a, b⟩
    · by_cases e : g = g0
      · rw [e] at d
        have := j2.mpr ⟨h, b, d⟩; omega
      · have := i2.mpr ⟨g, h, by omega, b, d⟩; omega
theorem ways_best {K : Int → Int} {c : Int} (hV : CV c K) : ∀ (r : Nat) (p s : Int), 0 ≤ p → p + (r : Int) ≤ K 3 → (0 < waysW K r p s ↔ bestB K r p s < 1000)
  | 0, _, _, _, _ => by show (0 : Int) < 1 ↔ (0 : Int) < 1000; simp
  | r + 1, p, s, p0, p1 => by
    have hn := nH_8 hV.1
    have hw : ∀ g h, 0 ≤ waysW K r (p + 1) (sGH s g h) := fun g h => (waysW_rg hn.1 r _ _).1
    refine (sumW_pos (F := fun g h => waysW K r (p + 1) (sGH s g h)) (ok := canH K p s) (n := nH K) hw (nH K)).2.trans ?_
    constructor
    · rintro ⟨g, h, a, b, d, e⟩
      have i := (ways_best hV r (p + 1) (sGH s g h) (by omega) (by omega)).mp e
      have bl := best_le (r := r) a.1 a.2 b.1 b.2 d
      have b2 := best_rg hV r (p + 1) (sGH s g h) (by omega) (by omega)
      have l3 := hV.1.2.1
      have cr := cost_rg (g := g) (h := h) hV p0 (by omega) a.1 (by omega) b.1 (by omega)
      have ev : valH K r p s g h = apartF (K 1) (K (13 + p)) (K (29 + g)) + apartF (K 1) (K (17 + p)) (K (29 + h)) + bestB K r (p + 1) (sGH s g h) := rfl
      omega
    · intro q
      obtain ⟨g, h, z1, z2, z3, z4, z5⟩ := best_ex hV p0 p1 q
      exact ⟨g, h, z1, z2, z3, (ways_best hV r (p + 1) (sGH s g h) (by omega) (by omega)).mpr z4⟩

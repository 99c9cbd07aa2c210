/-! ===== D53: the count begins ===== -/
def tab0 (K : Int → Int) (p : Int) : Int → Int := fun q => if q = 25 * K (13 + p) + K (17 + p) then 1 else 0
def cntN (K : Int → Int) (p rope : Int) (tied : Bool) (rocks : Int) (wf : Nat → Int) : Nat → Int → Int
  | 0 => tab0 K p
  | h + 1 => allT K p rope tied rocks ((h : Int) + 1) (wf h) (cntN K p rope tied rocks wf h) 625
def pow25 : Nat → Int
  | 0 => 1
  | n + 1 => 25 * pow25 n
theorem tab0_tab {K : Int → Int} {c p : Int} (hV : CV c K) (p0 : 0 ≤ p) (p1 : p < K 3) : TabV (K 1 * K 2) 1 (tab0 K p) := by
  have hw := wide_of hV.1 p0 p1
  have ar := area_le hw.1.1 hw.1.2 hw.2.1 hw.2.2
  have hS := (curV_iff.mp hV.2).1 p p0 p1
  unfold tab0
  refine ⟨fun q _ _ => by show 0 ≤ (if q = 25 * K (13 + p) + K (17 + p) then (1 : Int) else 0); split <;> omega, fun q _ _ hq => ?_, ?_⟩
  · by_cases e : q = 25 * K (13 + p) + K (17 + p)
    · omega
    · exact absurd (if_neg e) hq
  · have h : ∀ n : Nat, sumF (fun q => if q = 25 * K (13 + p) + K (17 + p) then (1 : Int) else 0) n = if 25 * K (13 + p) + K (17 + p) < n then 1 else 0 := by
      intro n
      induction n with
      | zero => rw [if_neg (by omega)]; rfl
      | succ n ih =>
        show sumF _ n + (if (n : Int) = 25 * K (13 + p) + K (17 + p) then (1 : Int) else 0) = _
        rw [ih]
        repeat' split
        all_goals omega
    rw [h]; split <;> omega
theorem pow25_le : ∀ n : Nat, n ≤ 8 → 1 ≤ pow25 n ∧ pow25 n ≤ 152587890625 := by decide
theorem cntN_tab {K : Int → Int} {c p rope rocks : Int} {tied : Bool} {wf : Nat → Int} (hV : CV c K) (p0 : 0 ≤ p) (p1 : p < K 3) : ∀ h : Nat, h ≤ 8 → TabV (K 1 * K 2) (pow25 h) (cntN K p rope tied rocks wf h) := by
  have hw := wide_of hV.1 p0 p1
  intro h
  induction h with
  | zero => intro _; exact tab0_tab hV p0 p1
  | succ h ih =>
    intro hh
    have i := ih (by omega)
    have b := pow25_le h (by omega)
    have r := allT_tab (K := K) (p := p) (rope := rope) (tied := tied) (rocks := rocks) (h := (h : Int) + 1) (w := wf h) hw.1.1 hw.1.2 hw.2.1 hw.2.2 i (by omega) 625 (Nat.le_refl _)
    exact ⟨r.1, r.2.1, Int.le_trans r.2.2 (by show 25 * sumF _ 625 ≤ 25 * pow25 h; have := i.2.2; omega)⟩
theorem allT_cong {K : Int → Int} {p rope rocks h w : Int} {tied : Bool} {f f' : Int → Int} : ∀ b : Nat, (∀ q, 0 ≤ q → q < (b : Int) → f q = f' q) → allT K p rope tied rocks h w f b = allT K p rope tied rocks h w f' b
  | 0, _ => rfl
  | b + 1, e => by
    show (if f (b : Int) ≤ 0 then allT K p rope tied rocks h w f b else rowT K p rope tied rocks h w (f (b : Int)) (b : Int) (allT K p rope tied rocks h w f b) 25) = (if f' (b : Int) ≤ 0 then allT K p rope tied rocks h w f' b else rowT K p rope tied rocks h w (f' (b : Int)) (b : Int) (allT K p rope tied rocks h w f' b) 25)
    rw [allT_cong b (fun q z0 z1 => e q z0 (by omega)), e b (by omega) (by omega)]
theorem TabV_cong {a B : Int} {g g' : Int → Int} (e : ∀ q, 0 ≤ q → q < 625 → g' q = g q) (h : TabV a B g) : TabV a B g' :=
  ⟨fun q z0 z1 => by rw [e q z0 z1]; exact h.1 q z0 z1, fun q z0 z1 hq => h.2.1 q z0 z1 (by rw [← e q z0 z1]; exact hq), by rw [sum_cong 625 e]; exact h.2.2⟩
/-- the class's table stands at hour h -/
def TalR (K : Int → Int) (p rope : Int) (tied : Bool) (rocks : Int) (wf : Nat → Int) (h : Nat) (m : Mem) : Prop :=
  ∃ a b : Nat, ((a = 97 ∧ b = 98) ∨ (a = 98 ∧ b = 97)) ∧ m 96 0 = (a : Int) ∧ m 96 1 = (b : Int) ∧ m 96 3 = K 1 * K 2 ∧ ∀ q, 0 ≤ q → q < 625 → m a q = cntN K p rope tied rocks wf h q
theorem c_startT {K : Int → Int} {c p rope rocks : Int} {tied : Bool} {wf : Nat → Int} {m : Mem} (hR : CR K m) (hV : CV c K) (p0 : 0 ≤ p) (p1 : p < K 3) (hA : AhR K p rope tied rocks m) (hp : PtrR m) :
    Ok (fX7_start m) (fun m' => TalR K p rope tied rocks wf 0 m' ∧ Fr [96, 97, 98] m m') := by
  have l3 := hV.1.2.1
  have hw := wide_of hV.1 p0 p1
  have ar := area_le hw.1.1 hw.1.2 hw.2.1 hw.2.2
  have hS := (curV_iff.mp hV.2).1 p p0 p1
  have e12 : m 18 12 = p := hA.2.2.1.1
  have e28 : m 28 p = K (13 + p) := by rw [show 13 + p = 9 + (4 + p) by omega]; exact (hR.2.2 p p0 p1).1
  have e29 : m 29 p = K (17 + p) := by rw [show 17 + p = 9 + (8 + p) by omega]; exact (hR.2.2 p p0 p1).2.1
  obtain ⟨a, b, hab, ea, eb⟩ : ∃ a b : Nat, ((a = 97 ∧ b = 98) ∨ (a = 98 ∧ b = 97)) ∧ m 96 0 = (a : Int) ∧ m 96 1 = (b : Int) := by
    rcases hp.1 with ⟨x, y⟩ | ⟨x, y⟩
    · exact ⟨97, 98, .inl ⟨rfl, rfl⟩, x, y⟩
    · exact ⟨98, 97, .inr ⟨rfl, rfl⟩, x, y⟩
  have la : layL[a]? = some (.inr (1, 625)) := by
    rcases hab with ⟨rfl, rfl⟩ | ⟨rfl, rfl⟩ <;> decide +kernel
  unfold fX7_start fX0_startFirst fX0_startSecond
  simp only [rd_eq, wr_eq, rdn_eq]
  rw [hA.1.1, up_idx (show (0 : Int) ≠ 3 by decide), ea, Int.toNat_natCast, chk_of la]
  refine ok_bV (c_fillL (by decide)) ?_
  rintro m2 ⟨f2, _, F2⟩
  have e96 : m2 96 = up m 96 3 (K 1 * K 2) 96 := F2 96 (by simp; omega)
  have o : ∀ x, x ≠ 96 → x ≠ a → m2 x = m x := fun x h1 h2 => (F2 x (by simpa using h2)).trans (up_cell h1)
  rw [e96, up_idx (show (0 : Int) ≠ 3 by decide), ea, Int.toNat_natCast, chk_of la, o 18 (by decide) (by omega), e12, chk_of (by omega), bR_some, chk_of (by omega), bR_some, o 28 (by decide) (by omega), o 29 (by decide) (by omega), e28, e29, w32_id (x := K (13 + p) * 25) (by omega) (by omega), w32_id (by omega) (by omega), chk_of (by omega)]
  have F : Fr [96, 97, 98] m (up m2 a (K (13 + p) * 25 + K (17 + p)) 1) := fr_up (by simp; omega) (fr_trans (fr_up (i := 3) (v := K 1 * K 2) (by simp) fr_refl) (fr_mono F2 (fun x hx => by simp at hx ⊢; omega)))
  refine ok_some ⟨⟨a, b, hab, ?_, ?_, ?_, fun q q0 q1 => ?_⟩, F⟩
  · rw [up_cell (by omega), e96, up_idx (by decide), ea]
  · rw [up_cell (by omega), e96, up_idx (by decide), eb]
  · rw [up_cell (by omega), e96, up_same]
  · show _ = tab0 K p q
    unfold tab0
    rw [up_at]
    by_cases e : q = 25 * K (13 + p) + K (17 + p)
    · rw [if_pos (by omega), if_pos e]
    · rw [if_neg (by omega), if_neg e]; exact f2 q q0 (by omega)

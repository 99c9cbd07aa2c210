/-! ===== D37: the class's best turns ===== -/
theorem c_landing {K : Int → Int} {p rope rocks who j t h : Int} {tied : Bool} {m : Mem} (hR : CR K m) (w2 : 2 ≤ K 1) (w5 : K 1 ≤ 5) (v2 : 2 ≤ K 2) (v5 : K 2 ≤ 5) (hA : AhR K p rope tied rocks m) (hh : h ≤ m 18 16) (h1 : 1 ≤ h) (q0 : 0 ≤ who) (q1 : who ≤ 1) (j0 : 0 ≤ j) (j1 : j < K 1 * K 2) :
    fX0_landing who j t h m = some (oneF K p rocks h who j t) := by
  have ar := area_le w2 w5 v2 v5
  have bg := besF_rg (t := t) w2 w5 v2 v5 j0 j1
  obtain ⟨_, _, ⟨_, s13, _, _⟩, ⟨t0, t1, t2⟩, _⟩ := hA
  obtain ⟨o1, o2⟩ := t2 h h1 hh
  unfold fX0_landing
  rw [c_beside hR.1 w2 w5 v2 v5 j0 j1, bR_some]
  simp only [rd_eq, jn_eq]
  unfold oneF entF
  rw [if_pos (show 0 ≤ j ∧ j < K 1 * K 2 from ⟨j0, j1⟩)]
  by_cases ht : t = 0
  · rw [if_pos ht, if_pos ht, if_pos ht, ht]; rfl
  · rw [if_neg ht, if_neg ht, if_neg ht]
    by_cases hb : besF (K 1) (K 2) j t = -1
    · rw [if_neg (by omega), if_pos hb, if_pos rfl, hb]
    · rw [if_pos hb, if_neg hb, chk_of (by omega), chk_of (by omega), s13]
      have B : Bits (if who = 0 then m 78 h else m 79 h) (openP K p who h) := by
        by_cases hw : who = 0
        · rw [if_pos hw, hw]; exact o1
        · rw [if_neg hw, show who = 1 by omega]; exact o2
      have main : ∀ x, Bits x (openP K p who h) → (if iand (iushr (iand x (ixor rocks (-1))) (besF (K 1) (K 2) j t)) 1 = 0 then some (-1) else some (besF (K 1) (K 2) j t)) =
          some (if (if mayF K p who (besF (K 1) (K 2) j t) (K 24 + h) = true then besF (K 1) (K 2) j t else -1) = -1 then -1 else if tb rocks (if mayF K p who (besF (K 1) (K 2) j t) (K 24 + h) = true then besF (K 1) (K 2) j t else -1).toNat = true then -1 else (if mayF K p who (besF (K 1) (K 2) j t) (K 24 + h) = true then besF (K 1) (K 2) j t else -1)) := by
        intro x hx
        have hx' := (bits_andn (y := rocks) hx).2 (besF (K 1) (K 2) j t).toNat (by omega)
        rw [bit_ui _ (by omega) (by omega)]
        unfold openP at hx'
        simp only at hx'
        rw [Int.toNat_of_nonneg (by omega)] at hx'
        by_cases hm : mayF K p who (besF (K 1) (K 2) j t) (K 24 + h) = true
        · rw [if_pos hm, if_neg hb]
          cases hr : tb rocks (besF (K 1) (K 2) j t).toNat
          · rw [if_pos (hx'.mpr ⟨⟨by omega, hm⟩, hr⟩)]; simp
          · rw [if_neg (show ¬ tb (iand x (ixor rocks (-1))) (besF (K 1) (K 2) j t).toNat = true from fun z => by have := (hx'.mp z).2; rw [hr] at this; cases this)]; simp
        · rw [if_neg (show ¬ tb (iand x (ixor rocks (-1))) (besF (K 1) (K 2) j t).toNat = true from fun z => hm (hx'.mp z).1.2), if_neg hm]; simp
      by_cases hw : who = 0
      · rw [if_pos hw] at B
        rw [if_neg (by omega)]
        exact main _ B
      · rw [if_neg hw] at B
        rw [if_pos hw]
        exact main _ B
/-- where the class has laid down from where one gets there -/
def BackR (K : Int → Int) (p rope : Int) (tied : Bool) (rocks : Int) (n : Nat) (jt : Int) (kt : Nat) (m : Mem) : Prop :=
  ∀ h : Nat, h ≤ n → ∀ j, 0 ≤ j → j < K 1 * K 2 → Bits (m 83 (25 * h + j)) (bakP K p rope tied rocks n jt kt h j)
theorem c_bestTurns {K : Int → Int} {c p rope rocks j k i : Int} {tied : Bool} {n h : Nat} {jt : Int} {kt : Nat} {m : Mem} (hR : CR K m) (hV : CV c K) (p0 : 0 ≤ p) (p1 : p < K 3) (hA : AhR K p rope tied rocks m) (hh : (h : Int) ≤ m 18 16) (h1 : 1 ≤ h) (h40 : h ≤ 40) (hn : h ≤ n) (hB : BackR K p rope tied rocks n jt kt m)
    (j0 : 0 ≤ j) (j1 : j < K 1 * K 2) (k0 : 0 ≤ k) (k1 : k < K 1 * K 2) (hf : FirstI (goodI K p rope tied rocks n jt kt h j k) i) :
    fX0_bestTurns j k h m = some (i / 5 * 10 + i % 5) := by
  have hw := wide_of hV.1 p0 p1
  have ar := area_le hw.1.1 hw.1.2 hw.2.1 hw.2.2
  suffices hs : Ok (fX0_bestTurns j k h m) (fun v => v = i / 5 * 10 + i % 5) by
    obtain ⟨v, e, hv⟩ := hs
    rw [e, hv]
  obtain ⟨hi, hg, hno⟩ := hf
  unfold fX0_bestTurns
  simp only [rd_eq, jn_eq]
  refine lp_for 5 (fun t mm => mm = m ∧ 0 ≤ t ∧ 5 * t ≤ i) ⟨rfl, by omega, by omega⟩ (by omega) (by omega) ?_ ?_
  · rintro G t mm ht ⟨rfl, t0, ti⟩ ih
    rw [if_neg (by omega), c_landing hR hw.1.1 hw.1.2 hw.2.1 hw.2.2 hA hh (by omega) (by decide) (by decide) j0 j1, bR_some]
    have rf := oneF_rg (K := K) (p := p) (rocks := rocks) (n := (h : Int)) (who := 0) (j := j) (t := t) hw.1.1 hw.1.2 hw.2.1 hw.2.2
    have inner : ∀ y : Int, (∀ s, 0 ≤ s → s < 5 → ∀ f2, 0 ≤ f2 → f2 < K 1 * K 2 → oneF K p rocks h 1 k s = f2 → (tb y f2.toNat = true ↔ goodI K p rope tied rocks n jt kt h j k (5 * t + s))) → (y = 0 → ∀ s, 0 ≤ s → s < 5 → ¬ goodI K p rope tied rocks n jt kt h j k (5 * t + s)) →
        Ok (lp BIG (fun K7 (t6 : Int) mm' => (if 5 ≤ t6 then G (w32 (t + 1)) mm' else (if y = (0 : Int) then G (w32 (t + 1)) mm' else bR (fX0_landing 1 k t6 h mm') fun x10 => (if x10 = -1 then K7 (w32 (t6 + 1)) mm' else (if (iand (iushr y x10) 1) = (0 : Int) then K7 (w32 (t6 + 1)) mm' else some (w32 (w32 (10 * t) + t6)))))))  0 mm) (fun v => v = i / 5 * 10 + i % 5) := by
      intro y hy hz
      refine lp_for 5 (fun s mm' => mm' = mm ∧ 0 ≤ s ∧ 5 * t + s ≤ i) ⟨rfl, by omega, by omega⟩ (by omega) (by omega) ?_ ?_
      · rintro G2 s mm' hs ⟨rfl, s0, si⟩ ih2
        rw [if_neg (by omega)]
        by_cases y0 : y = 0
        · rw [if_pos y0, w32_id (by omega) (by omega)]
          have : 5 * (t + 1) ≤ i := by
            by_cases q : i < 5 * (t + 1)
            · exact absurd hg (by rw [show i = 5 * t + (i - 5 * t) by omega]; exact hz y0 (i - 5 * t) (by omega) (by omega))
            · omega
          exact ih _ ⟨rfl, by omega, this⟩
        · rw [if_neg y0, c_landing hR hw.1.1 hw.1.2 hw.2.1 hw.2.2 hA hh (by omega) (by decide) (by decide) k0 k1, bR_some]
          have rs := oneF_rg (K := K) (p := p) (rocks := rocks) (n := (h : Int)) (who := 1) (j := k) (t := s) hw.1.1 hw.1.2 hw.2.1 hw.2.2
          rw [w32_id (x := s + 1) (by omega) (by omega)]
          by_cases hm : oneF K p rocks h 1 k s = -1
          · rw [if_pos hm]
            refine ih2 _ ⟨rfl, by omega, ?_⟩
            by_cases q : i = 5 * t + s
            · refine absurd hm ?_
              rw [show s = i % 5 by omega]; exact hg.2.1
            · omega
          · rw [if_neg hm, bit_ui _ (by omega) (by omega)]
            have hys := hy s s0 hs _ (by omega) (by omega) rfl
            by_cases q : goodI K p rope tied rocks n jt kt h j k (5 * t + s)
            · rw [if_pos (hys.mpr q), if_neg (by decide)]
              have e : i = 5 * t + s := by
                by_cases z : 5 * t + s < i
                · exact absurd q (hno _ (by omega) z)
                · omega
              rw [w32_id (x := 10 * t) (by omega) (by omega), w32_id (by omega) (by omega)]
              exact ok_some (by omega)
            · rw [if_neg (fun z => q (hys.mp z)), if_pos rfl]
              refine ih2 _ ⟨rfl, by omega, ?_⟩
              by_cases z : i = 5 * t + s
              · exact absurd hg (by rw [z]; exact q)
              · omega
      · rintro G2 mm' ⟨rfl, s0, si⟩
        rw [if_pos (by decide), w32_id (by omega) (by omega)]
        exact ih _ ⟨rfl, by omega, by omega⟩
    by_cases hx : oneF K p rocks h 0 j t = -1
    · rw [if_neg (by omega)]
      refine inner 0 (fun s s0 s5 f2 _ _ _ => ?_) (fun _ s s0 s5 q => ?_)
      · rw [tb_zero]
        refine ⟨fun z => absurd z (by decide), fun q => absurd hx ?_⟩
        rw [show t = (5 * t + s) / 5 by omega]; exact q.1
      · refine absurd hx ?_
        rw [show t = (5 * t + s) / 5 by omega]; exact q.1
    · rw [if_pos hx]
      have Bf := hB h hn (oneF K p rocks h 0 j t) (by omega) (by omega)
      rw [w32_id (x := (h : Int) * 25) (by omega) (by omega), w32_id (by omega) (by omega), chk_of (by omega), show (h : Int) * 25 + oneF K p rocks h 0 j t = 25 * (h : Int) + oneF K p rocks h 0 j t by omega]
      have gi : ∀ s, 0 ≤ s → s < 5 → (goodI K p rope tied rocks n jt kt h j k (5 * t + s) ↔ oneF K p rocks h 1 k s ≠ -1 ∧ bakP K p rope tied rocks n jt kt h (oneF K p rocks h 0 j t) (oneF K p rocks h 1 k s).toNat) := by
        intro s s0 s5
        unfold goodI
        rw [show (5 * t + s) / 5 = t by omega, show (5 * t + s) % 5 = s by omega]
        exact ⟨fun q => q.2, fun q => ⟨hx, q⟩⟩
      refine inner _ (fun s s0 s5 f2 f0 f1 e => ?_) (fun z s s0 s5 q => ?_)
      · rw [gi s s0 s5, e, Bf.2 f2.toNat (by omega)]
        exact ⟨fun q => ⟨by omega, q⟩, fun q => q.2⟩
      · have q' := (gi s s0 s5).mp q
        have rs := oneF_rg (K := K) (p := p) (rocks := rocks) (n := (h : Int)) (who := 1) (j := k) (t := s) hw.1.1 hw.1.2 hw.2.1 hw.2.2
        exact (bits_eq0 Bf).mp z _ (by omega) q'.2
  · rintro G mm ⟨rfl, t0, ti⟩
    omega

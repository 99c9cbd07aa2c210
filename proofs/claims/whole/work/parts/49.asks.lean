/-! ===== D29: what is asked of the hours: the class's side ===== -/
/-- v is the first hour where Q, -1 if there is none up to 40 -/
def FirstH (Q : Nat → Prop) (v : Int) : Prop := (∃ h : Nat, h ≤ 40 ∧ v = h ∧ Q h ∧ ∀ h', h' < h → ¬ Q h') ∨ (v = -1 ∧ ∀ h, h ≤ 40 → ¬ Q h)
theorem firstH_uq {Q : Nat → Prop} {a b : Int} (ha : FirstH Q a) (hb : FirstH Q b) : a = b := by
  rcases ha with ⟨h, h40, rfl, q, l⟩ | ⟨rfl, n⟩ <;> rcases hb with ⟨g, g40, rfl, r, s⟩ | ⟨rfl, t⟩
  · have : ¬ g < h := fun z => l g z r
    have : ¬ h < g := fun z => s h z q
    omega
  · exact absurd q (t h h40)
  · exact absurd r (n g g40)
  · rfl
theorem firstH_cong {Q R : Nat → Prop} {a : Int} (h : ∀ n, n ≤ 40 → (Q n ↔ R n)) (ha : FirstH Q a) : FirstH R a := by
  rcases ha with ⟨g, g40, e, q, l⟩ | ⟨e, n⟩
  · exact .inl ⟨g, g40, e, (h g g40).mp q, fun z hz r => l z hz ((h z (by omega)).mpr r)⟩
  · exact .inr ⟨e, fun z hz r => n z hz ((h z hz).mpr r)⟩
def tied0 (K : Int → Int) (p : Int) : Bool := !tb (K 21) p.toNat
theorem own_pair {K : Int → Int} {c p : Int} (hV : CV c K) (c1 : c ≤ 1000000) (p0 : 0 ≤ p) (p1 : p < K 3) : PairV c K p (K (25 + p)) := by
  have := hV.1.2.2.2.2.2.2.1 p p0 p1
  exact ⟨hV, c1, ⟨p0, p1⟩, by omega⟩
/-- all that the class's questions keep -/
def AheadQ (K : Int → Int) (p rope : Int) (tied : Bool) (rocks : Int) (m m' : Mem) : Prop := AhR K p rope tied rocks m' ∧ Fr AS m m'
theorem c_lastHour {K : Int → Int} {c p rope rocks : Int} {tied : Bool} {m : Mem} (hR : CR K m) (hP : PairV c K p rope) (hA : AhR K p rope tied rocks m) :
    Ok (fX0_lastHour m) (fun r => (∃ n : Nat, r.1 = n ∧ n ≤ 40 ∧ (∃ j k, rchP K p rope tied rocks n j k) ∧ (n = 40 ∨ ¬ ∃ j k, rchP K p rope tied rocks (n + 1) j k)) ∧ AhR K p rope tied rocks r.2 ∧ Fr WC m r.2) := by
  have hP' := hP
  obtain ⟨hV, c1, ⟨p0, p1⟩, ⟨r0, r1⟩⟩ := hP
  have hS := (curV_iff.mp hV.2).1 p p0 p1
  unfold fX0_lastHour
  refine ok_bV (c_start hR hV p0 p1 hA) ?_
  rintro m1 ⟨a1, a2⟩
  have hA1 : AhR K p rope tied rocks m1 := AhR_fr hA (a2 _ (by decide)) (a2 _ (by decide)) (a2 _ (by decide)) (a2 _ (by decide)) (a2 _ (by decide))
  refine lp_ok (fun (i : Int) (mm : Mem) => ∃ h : Nat, i = (h : Int) + 1 ∧ h ≤ 40 ∧ (∃ j k, rchP K p rope tied rocks h j k) ∧ SetsR K p rope tied rocks h mm ∧ AhR K p rope tied rocks mm ∧ Fr WC m mm) (fun i _ => (41 - i).toNat) ⟨0, rfl, by omega, ⟨K (13 + p), (K (17 + p)).toNat, rfl, by omega⟩, a1, hA1, fr_mono' a2 (by decide)⟩ (by decide) ?_
  rintro G i mm ⟨h, rfl, hn, b0, b1, b2, b3⟩ ih
  have hR1 : CR K mm := CR_fr hR (fun o z1 z2 => b3 o (by unfold WC; simp; omega))
  by_cases hx : h = 40
  · subst hx
    rw [if_pos (by omega)]
    exact ok_some ⟨⟨40, rfl, by omega, b0, .inl rfl⟩, b2, b3⟩
  · rw [if_neg (by omega), show ((h : Int) + 1) = ((h + 1 : Nat) : Int) by omega]
    refine ok_bW (c_goOn' hR1 hP' (by omega) (by omega) b2 (by rw [show h + 1 - 1 = h by omega]; exact b1)) ?_
    rintro x m' ⟨d1, d2, d3, d4, _, d5⟩
    simp only at d1 d2 d3 d4 d5
    by_cases hz : x = 0
    · rw [if_neg (show ¬ ¬ x = 0 from fun z => z hz), w32_id (by omega) (by omega)]
      exact ok_some ⟨⟨h, by show ((h + 1 : Nat) : Int) - 1 = h; omega, hn, b0, .inr (fun q => by have := d2.mpr q; omega)⟩, d4, fr_trans b3 (fr_mono' d5 (by decide))⟩
    · rw [if_pos hz, w32_id (by omega) (by omega)]
      exact ih _ m' ⟨h + 1, by omega, by omega, d2.mp (by omega), d3, d4, fr_trans b3 (fr_mono' d5 (by decide))⟩ (by show (41 - (((h + 1 : Nat) : Int) + 1)).toNat < (41 - ((h : Int) + 1)).toNat; omega)
/-- where one can be -/
def whereP (K : Int → Int) (p rope : Int) (tied : Bool) (rocks who : Int) (h : Nat) (i : Nat) : Prop :=
  if who = 1 then ∃ j, rchP K p rope tied rocks h j i else ∃ k, rchP K p rope tied rocks h i k
theorem c_whereIs {K : Int → Int} {c p rope rocks who : Int} {tied : Bool} {h : Nat} {m : Mem} (hP : PairV c K p rope) (hA : AhR K p rope tied rocks m) (h40 : h ≤ 40) (hS : ∀ j, 0 ≤ j → j < K 1 * K 2 → Bits (m 82 (25 * h + j)) (rchP K p rope tied rocks h j)) :
    ∃ y, fX0_whereIs who h m = some y ∧ Bits y (whereP K p rope tied rocks who h) := by
  obtain ⟨hV, c1, ⟨p0, p1⟩, ⟨r0, r1⟩⟩ := hP
  have hw := wide_of hV.1 p0 p1
  have ar := area_le hw.1.1 hw.1.2 hw.2.1 hw.2.2
  have key : Ok (fX0_whereIs who h m) (fun y => Bits y (whereP K p rope tied rocks who h)) := by
    unfold fX0_whereIs
    simp only [rd_eq, jn_eq]
    refine lp_for2 (K 1 * K 2) (fun t i mm => mm = m ∧ 0 ≤ i ∧ Bits t (fun z => if who = 1 then ∃ j, (0 ≤ j ∧ j < i) ∧ rchP K p rope tied rocks h j z else (z : Int) < i ∧ ∃ k, rchP K p rope tied rocks h z k)) ⟨rfl, by omega, bits_zero (fun z _ q => by split at q; (obtain ⟨j, q1, _⟩ := q; omega); omega)⟩ (by omega) (by omega) ?_ ?_
    · rintro G t i mm hi ⟨rfl, i0, hb⟩ ih
      have hSi := hS i i0 hi
      rw [hA.1.1, if_neg (by omega), w32_id (x := (h : Int) * 25) (by omega) (by omega), w32_id (x := (h : Int) * 25 + i) (by omega) (by omega), chk_of (by omega), w32_id (x := i + 1) (by omega) (by omega)]
      rw [show 25 * (h : Int) + i = (h : Int) * 25 + i by omega] at hSi
      by_cases hw1 : who = 1
      · rw [if_neg (by omega)]
        simp only [hw1, if_true] at hb
        refine ih _ mm ⟨rfl, by omega, ?_⟩
        simp only [hw1, if_true]
        refine bits_imp (bits_or2 hb hSi) (fun z _ => ?_)
        constructor
        · rintro (⟨j, a, b⟩ | b)
          · exact ⟨j, by omega, b⟩
          · exact ⟨i, by omega, b⟩
        · rintro ⟨j, a, b⟩
          by_cases e : j = i
          · subst e; exact .inr b
          · exact .inl ⟨j, by omega, b⟩
      · rw [if_pos hw1]
        simp only [if_neg hw1] at hb
        have hz := bits_eq0 hSi
        by_cases hq : mm 82 ((h : Int) * 25 + i) = 0
        · rw [if_pos hq]
          refine ih _ mm ⟨rfl, by omega, ?_⟩
          simp only [if_neg hw1]
          refine bits_imp hb (fun z _ => ⟨fun ⟨a, b⟩ => ⟨by omega, b⟩, fun ⟨a, k, b⟩ => ⟨?_, k, b⟩⟩)
          by_cases e : (z : Int) = i
          · rw [e] at b
            exact absurd b (hz.mp hq k (by have := (rch_rg hV p0 p1 _ _ _ b).2; omega))
          · omega
        · rw [if_neg hq]
          refine ih _ mm ⟨rfl, by omega, ?_⟩
          simp only [if_neg hw1]
          have hex : ∃ k, rchP K p rope tied rocks h i k := by
            refine Classical.byContradiction (fun hn => hq (hz.mpr (fun k _ b => hn ⟨k, b⟩)))
          refine bits_imp (bits_or hb i0 (by omega)) (fun z _ => ⟨?_, ?_⟩)
          · rintro (⟨a, b⟩ | a)
            · exact ⟨by omega, b⟩
            · rw [show (z : Int) = i by omega]; exact ⟨by omega, hex⟩
          · rintro ⟨a, b⟩
            by_cases e : (z : Int) = i
            · exact .inr (by omega)
            · exact .inl ⟨by omega, b⟩
    · rintro G t mm ⟨rfl, i0, hb⟩
      rw [hA.1.1, if_pos (by omega)]
      refine ok_some (bits_imp hb (fun z _ => ?_))
      unfold whereP
      by_cases hw1 : who = 1
      · simp only [hw1, if_true]
        exact ⟨fun ⟨j, _, b⟩ => ⟨j, b⟩, fun ⟨j, b⟩ => ⟨j, (rch_rg hV p0 p1 _ _ _ b).1, b⟩⟩
      · simp only [if_neg hw1]
        exact ⟨fun ⟨_, b⟩ => b, fun ⟨k, b⟩ => ⟨(rch_rg hV p0 p1 _ _ _ b).1.2, k, b⟩⟩
  exact key
theorem c_whereBoth {K : Int → Int} {c p rope rocks : Int} {tied : Bool} {h : Nat} {m : Mem} (hP : PairV c K p rope) (hA : AhR K p rope tied rocks m) (h40 : h ≤ 40) (hS : ∀ j, 0 ≤ j → j < K 1 * K 2 → Bits (m 82 (25 * h + j)) (rchP K p rope tied rocks h j)) :
    ∃ y, fX0_whereBoth h m = some y ∧ Bits y (fun i => rchP K p rope tied rocks h i i) := by
  obtain ⟨hV, c1, ⟨p0, p1⟩, ⟨r0, r1⟩⟩ := hP
  have hw := wide_of hV.1 p0 p1
  have ar := area_le hw.1.1 hw.1.2 hw.2.1 hw.2.2
  have key : Ok (fX0_whereBoth h m) (fun y => Bits y (fun i => rchP K p rope tied rocks h i i)) := by
    unfold fX0_whereBoth
    simp only [rd_eq]
    refine lp_for2 (K 1 * K 2) (fun t i mm => mm = m ∧ 0 ≤ i ∧ Bits t (fun z => (z : Int) < i ∧ rchP K p rope tied rocks h z z)) ⟨rfl, by omega, bits_zero (fun z _ q => by omega)⟩ (by omega) (by omega) ?_ ?_
    · rintro G t i mm hi ⟨rfl, i0, hb⟩ ih
      have hSi := hS i i0 hi
      rw [hA.1.1, if_neg (by omega), w32_id (x := (h : Int) * 25) (by omega) (by omega), w32_id (x := (h : Int) * 25 + i) (by omega) (by omega), chk_of (by omega), w32_id (x := i + 1) (by omega) (by omega)]
      rw [show 25 * (h : Int) + i = (h : Int) * 25 + i by omega] at hSi
      have hpw : Bits (ishl 1 i) (fun z => z = i.toNat) := ⟨ishl_rg _ _, fun z hz => by rw [tb_powi i0 (by omega) hz]; simp⟩
      refine ih _ mm ⟨rfl, by omega, bits_imp (bits_or2 hb (bits_and2 hSi hpw)) (fun z _ => ⟨?_, ?_⟩)⟩
      · rintro (⟨a, b⟩ | ⟨a, b⟩)
        · exact ⟨by omega, b⟩
        · have ez : (z : Int) = i := by omega
          rw [← ez] at a
          exact ⟨by omega, a⟩
      · rintro ⟨a, b⟩
        by_cases e : (z : Int) = i
        · rw [← e]; exact .inr ⟨b, by omega⟩
        · exact .inl ⟨by omega, b⟩
    · rintro G t mm ⟨rfl, i0, hb⟩
      rw [hA.1.1, if_pos (by omega)]
      exact ok_some (bits_imp hb (fun z _ => ⟨fun ⟨_, b⟩ => b, fun b => ⟨(rch_rg hV p0 p1 _ _ _ b).1.2, b⟩⟩))
  exact key
/-- the farthest apart -/
def FarP (K : Int → Int) (R : Int → Nat → Prop) (v : Int) : Prop := (v = -1 ∧ ∀ j k, ¬ R j k) ∨ ((∃ j k, R j k ∧ v = apartF (K 1) j k) ∧ ∀ j k, R j k → apartF (K 1) j k ≤ v)
theorem farP_uq {K : Int → Int} {R : Int → Nat → Prop} {a b : Int} (ha : FarP K R a) (hb : FarP K R b) : a = b := by
  rcases ha with ⟨rfl, n⟩ | ⟨⟨j, k, q, e⟩, l⟩ <;> rcases hb with ⟨rfl, n'⟩ | ⟨⟨j', k', q', e'⟩, l'⟩
  · rfl
  · exact absurd q' (n _ _)
  · exact absurd q (n' _ _)
  · have := l j' k' q'; have := l' j k q; omega
theorem c_widest {K : Int → Int} {c p rope rocks : Int} {tied : Bool} {h : Nat} {m : Mem} (hR : CR K m) (hP : PairV c K p rope) (hA : AhR K p rope tied rocks m) (h40 : h ≤ 40) (hS : ∀ j, 0 ≤ j → j < K 1 * K 2 → Bits (m 82 (25 * h + j)) (rchP K p rope tied rocks h j)) :
    Ok (fX0_widest h m) (fun v => FarP K (rchP K p rope tied rocks h) v) := by
  obtain ⟨hV, c1, ⟨p0, p1⟩, ⟨r0, r1⟩⟩ := hP
  have hw := wide_of hV.1 p0 p1
  have ar := area_le hw.1.1 hw.1.2 hw.2.1 hw.2.2
  unfold fX0_widest
  simp only [rd_eq, jn_eq]
  refine lp_for2 (K 1 * K 2) (fun t i mm => mm = m ∧ 0 ≤ i ∧ FarP K (fun j k => j < i ∧ rchP K p rope tied rocks h j k) t) ⟨rfl, by omega, .inl ⟨rfl, fun j k q => by have := (rch_rg hV p0 p1 _ _ _ q.2).1; omega⟩⟩ (by omega) (by omega) ?_ ?_
  · rintro G t i mm hi ⟨rfl, i0, hb⟩ ih
    rw [hA.1.1, if_neg (by omega)]
    refine lp_for2 (K 1 * K 2) (fun t k q => q = mm ∧ 0 ≤ k ∧ FarP K (fun j z => (j < i ∨ (j = i ∧ (z : Int) < k)) ∧ rchP K p rope tied rocks h j z) t) ⟨rfl, by omega, ?_⟩ (by omega) (by omega) ?_ ?_
    · rcases hb with ⟨e, n⟩ | ⟨⟨j, k, q, e⟩, l⟩
      · exact .inl ⟨e, fun j k q => n j k ⟨by omega, q.2⟩⟩
      · exact .inr ⟨⟨j, k, ⟨.inl q.1, q.2⟩, e⟩, fun j k q => l j k ⟨by omega, q.2⟩⟩
    · rintro G2 t k q hk ⟨rfl, k0, hb2⟩ ih2
      have hSi := hS i i0 hi
      rw [hA.1.1, if_neg (by omega), w32_id (x := (h : Int) * 25) (by omega) (by omega), w32_id (x := (h : Int) * 25 + i) (by omega) (by omega), chk_of (by omega), w32_id (x := k + 1) (by omega) (by omega), bit_ui _ k0 (by omega)]
      rw [show 25 * (h : Int) + i = (h : Int) * 25 + i by omega] at hSi
      have hbit := hSi.2 k.toNat (by omega)
      have ap := apartF_rg (j := i) (k := k) hw.1.1 hw.1.2 i0 (by omega) k0 (by omega)
      cases htb : tb (q 82 ((h : Int) * 25 + i)) k.toNat
      · rw [if_pos (by simp)]
        refine ih2 _ q ⟨rfl, by omega, ?_⟩
        have hno : ¬ rchP K p rope tied rocks h i k.toNat := fun z => by rw [hbit.mpr z] at htb; cases htb
        have hs : ∀ (j : Int) (z : Nat), ((j < i ∨ (j = i ∧ (z : Int) < k + 1)) ∧ rchP K p rope tied rocks h j z) → ((j < i ∨ (j = i ∧ (z : Int) < k)) ∧ rchP K p rope tied rocks h j z) := fun j z ⟨a, b⟩ => by
          refine ⟨?_, b⟩
          by_cases e : j = i ∧ (z : Int) = k
          · obtain ⟨e1, e2⟩ := e; subst e1
            rw [show z = k.toNat by omega] at b; exact absurd b hno
          · omega
        rcases hb2 with ⟨e, n⟩ | ⟨⟨j, z, y, e⟩, l⟩
        · exact .inl ⟨e, fun j z y => n j z (hs j z y)⟩
        · exact .inr ⟨⟨j, z, ⟨by omega, y.2⟩, e⟩, fun j z y => l j z (hs j z y)⟩
      · rw [if_neg (by simp), c_apart hR.1 hw.1.1 hw.1.2 i0 (by omega) k0 (by omega), bR_some]
        have hyes := hbit.mp htb
        have ek : ((k.toNat : Nat) : Int) = k := Int.toNat_of_nonneg k0
        refine ih2 _ q ⟨rfl, by omega, .inr ⟨?_, ?_⟩⟩
        · by_cases hmx : t < apartF (K 1) i k
          · exact ⟨i, k.toNat, ⟨.inr ⟨rfl, by omega⟩, hyes⟩, by rw [ek]; unfold imax; rw [if_pos hmx]⟩
          · rcases hb2 with ⟨e, n⟩ | ⟨⟨j, z, y, e⟩, l⟩
            · omega
            · exact ⟨j, z, ⟨by omega, y.2⟩, by unfold imax; rw [if_neg hmx]; exact e⟩
        · rintro j z ⟨a, b⟩
          have : apartF (K 1) j z ≤ t ∨ apartF (K 1) j z = apartF (K 1) i k := by
            by_cases e : j = i ∧ (z : Int) = k
            · right; rw [e.1, e.2]
            · left
              rcases hb2 with ⟨e', n⟩ | ⟨_, l⟩
              · exact absurd ⟨by omega, b⟩ (n j z)
              · exact l j z ⟨by omega, b⟩
          unfold imax; split <;> omega
    · rintro G2 t q ⟨rfl, k0, hb2⟩
      rw [hA.1.1, if_pos (by omega), w32_id (by omega) (by omega)]
      refine ih _ q ⟨rfl, by omega, ?_⟩
      rcases hb2 with ⟨e, n⟩ | ⟨⟨j, z, y, e⟩, l⟩
      · exact .inl ⟨e, fun j z y => n j z ⟨by have := (rch_rg hV p0 p1 _ _ _ y.2).2; omega, y.2⟩⟩
      · exact .inr ⟨⟨j, z, ⟨by omega, y.2⟩, e⟩, fun j z y => l j z ⟨by have := (rch_rg hV p0 p1 _ _ _ y.2).2; omega, y.2⟩⟩
  · rintro G t mm ⟨rfl, i0, hb⟩
    rw [hA.1.1, if_pos (by omega)]
    refine ok_some ?_
    rcases hb with ⟨e, n⟩ | ⟨⟨j, k, q, e⟩, l⟩
    · exact .inl ⟨e, fun j k q => n j k ⟨(rch_rg hV p0 p1 _ _ _ q).1.2, q⟩⟩
    · exact .inr ⟨⟨j, k, q.2, e⟩, fun j k q => l j k ⟨(rch_rg hV p0 p1 _ _ _ q).1.2, q⟩⟩

/-! ===== D77: the text cut by the class ===== -/
theorem c_put8 {k v a : Int} {x : Nat} {m : Mem} (hx : m 3 3 = (x : Int)) (x9 : x ≤ 900) : fX8_put k v a m = some (up (up (up (up m 4 x k) 5 x v) 6 x a) 3 3 ((x : Int) + 1)) := by
  unfold fX8_put
  simp only [rd_eq, wr_eq, jn_eq]
  have e1 : up m 4 x k 3 3 = (x : Int) := by rw [up_cell (by decide)]; exact hx
  have e2 : up (up m 4 x k) 5 x v 3 3 = (x : Int) := by rw [up_cell (by decide)]; exact e1
  have e3 : up (up (up m 4 x k) 5 x v) 6 x a 3 3 = (x : Int) := by rw [up_cell (by decide)]; exact e2
  rw [hx, if_neg (by omega), chk_of (by omega), e1, chk_of (by omega), e2, chk_of (by omega), e3, w32_id (by omega) (by omega)]
def putM (m : Mem) (x : Nat) (k v a : Int) : Mem := up (up (up (up m 4 x k) 5 x v) 6 x a) 3 3 ((x : Int) + 1)
theorem c_cutOne {T : Int → Int} {n a : Int} {x : Nat} {m : Mem} (hT : TxtR T n m) (n9 : n ≤ 900) (a0 : 0 ≤ a) (a1 : a < n) (hx : m 3 3 = (x : Int)) (x9 : x ≤ 900) :
    Ok (fX8_cutOne a n m) (fun r => ∃ k v, TokB T n a r.1 k v ∧ r.2 = putM m x k v a) := by
  obtain ⟨t1, t2, t3⟩ := hT a a0 a1
  unfold fX8_cutOne
  simp only [rd_eq]
  rw [w32_id (x := a + 1) (by omega) (by omega), chk_of (by omega), t1]
  obtain ⟨v1, ev1, v01, hv1⟩ := c_isLetter (m := m) t2 t3
  rw [ev1, bR_some]
  simp only [jn_eq]
  by_cases hl : ltrP (T a)
  · rw [if_neg (show ¬ v1 = 0 by have := hv1.mpr hl; omega)]
    refine lp_ok (fun (t : Int) (mm : Mem) => mm = m ∧ (a + 1 ≤ t ∧ t ≤ n) ∧ ∀ q, a + 1 ≤ q → q < t → q < n ∧ ltrP (T q)) (fun t _ => (n - t).toNat) ⟨rfl, by omega, fun q _ _ => by omega⟩ (by omega) ?_
    rintro G t mm ⟨rfl, ⟨z1, z2⟩, hq⟩ ih
    have done : ¬ (t < n ∧ ltrP (T t)) → Ok (bR (fX8_wordOf a t mm) fun x30 => bV (fX8_put x30 0 a mm) fun mm => some (t, mm)) (fun r => ∃ k v, TokB T n a r.1 k v ∧ r.2 = putM mm x k v a) := by
      intro hd
      obtain ⟨k, ek, hk⟩ := c_wordOf (m := mm) hT a0 (show a ≤ t by omega) z2 n9
      rw [ek, bR_some, c_put8 hx x9, bV_some]
      exact ok_some ⟨k, 0, .inl ⟨hl, ⟨z1, hq, hd⟩, hk, rfl⟩, rfl⟩
    by_cases hn : n ≤ t
    · rw [if_pos hn]; exact done (by omega)
    · obtain ⟨y1, y2, y3⟩ := hT t (by omega) (by omega)
      obtain ⟨v2, ev2, v02, hv2⟩ := c_isLetter (m := mm) y2 y3
      rw [if_neg hn, chk_of (by omega), y1, ev2, bR_some]
      by_cases hl2 : ltrP (T t)
      · rw [if_neg (show ¬ v2 = 0 by have := hv2.mpr hl2; omega), w32_id (by omega) (by omega)]
        refine ih _ _ ⟨rfl, by omega, fun q q0 q1 => ?_⟩ (by omega)
        by_cases e : q = t
        · rw [e]; exact ⟨by omega, hl2⟩
        · exact hq q q0 (by omega)
      · rw [if_pos (show v2 = 0 by
          rcases v02 with z | z
          · exact z
          · exact absurd (hv2.mp z) hl2)]
        exact done (fun z => hl2 z.2)
  · rw [if_pos (show v1 = 0 by
      rcases v01 with z | z
      · exact z
      · exact absurd (hv1.mp z) hl)]
    obtain ⟨v2, ev2, v02, hv2⟩ := c_isDigit (m := m) t2 t3
    rw [chk_of (by omega), ev2, bR_some]
    by_cases hd : digP (T a)
    · have ta : w8 (T a) = T a := by unfold digP at hd; exact w8_id (by omega) (by omega)
      rw [if_neg (show ¬ v2 = 0 by have := hv2.mpr hd; omega), chk_of (by omega), ta, w32_id (x := T a - 48) (by unfold digP at hd; omega) (by unfold digP at hd; omega)]
      refine lp_ok (fun (q : Int × Int) (mm : Mem) => mm = m ∧ (a + 1 ≤ q.1 ∧ q.1 ≤ n) ∧ (∀ y, a + 1 ≤ y → y < q.1 → y < n ∧ digP (T y)) ∧ q.2 = nv T a (q.1 - a).toNat) (fun q _ => (n - q.1).toNat) ⟨rfl, by simp only; omega, fun y _ h => by simp only at h; omega, ?_⟩ (by simp only; omega) ?_
      · show T a - 48 = nv T a (a + 1 - a).toNat
        rw [show (a + 1 - a).toNat = 0 + 1 by omega]
        show _ = (if 0 < 3 then 10 * 0 + T (a + ((0 : Nat) : Int)) - 48 else 0)
        rw [if_pos (by decide), show a + ((0 : Nat) : Int) = a by omega]; omega
      rintro G ⟨t, v⟩ mm ⟨rfl, ⟨z1, z2⟩, hq, hv⟩ ih
      simp only at z1 z2 hq hv ih ⊢
      have done : ¬ (t < n ∧ digP (T t)) → Ok (if w32 (t - a) ≤ 3 then bV (fX8_put 1 v a mm) fun mm => some (t, mm) else bV (fX8_put 2 v a mm) fun mm => some (t, mm)) (fun r => ∃ k v, TokB T n a r.1 k v ∧ r.2 = putM mm x k v a) := by
        intro hdd
        rw [w32_id (x := t - a) (by omega) (by omega), c_put8 hx x9, c_put8 hx x9, bV_some, bV_some]
        by_cases h3 : t - a ≤ 3
        · rw [if_pos h3]
          exact ok_some ⟨1, v, .inr (.inl ⟨hd, ⟨z1, hq, hdd⟩, (if_pos h3).symm, hv⟩), rfl⟩
        · rw [if_neg h3]
          exact ok_some ⟨2, v, .inr (.inl ⟨hd, ⟨z1, hq, hdd⟩, (if_neg h3).symm, hv⟩), rfl⟩
      by_cases hn : n ≤ t
      · rw [if_pos hn]; exact done (by omega)
      · obtain ⟨y1, y2, y3⟩ := hT t (by omega) (by omega)
        obtain ⟨v3, ev3, v03, hv3⟩ := c_isDigit (m := mm) y2 y3
        rw [if_neg hn, chk_of (by omega), y1, ev3, bR_some]
        by_cases hd2 : digP (T t)
        · have tt : w8 (T t) = T t := by unfold digP at hd2; exact w8_id (by omega) (by omega)
          have rg := nv_rg (T := T) (b := a) (t - a).toNat (fun i i0 i1 => by
            by_cases z : i = 0
            · rw [z, Int.add_zero]; exact hd
            · exact (hq (a + i) (by omega) (by omega)).2)
          have es : nv T a (t + 1 - a).toNat = if t - a < 3 then 10 * v + T t - 48 else v := by
            rw [show (t + 1 - a).toNat = (t - a).toNat + 1 by omega]
            show (if (t - a).toNat < 3 then 10 * nv T a (t - a).toNat + T (a + (((t - a).toNat : Nat) : Int)) - 48 else nv T a (t - a).toNat) = _
            rw [← hv, show a + (((t - a).toNat : Nat) : Int) = t by omega]
            by_cases z : t - a < 3
            · rw [if_pos z, if_pos (by omega)]
            · rw [if_neg z, if_neg (by omega)]
          rw [if_neg (show ¬ v3 = 0 by have := hv3.mpr hd2; omega), w32_id (x := t - a) (by omega) (by omega), w32_id (x := t + 1) (by omega) (by omega)]
          have hq' : ∀ y, a + 1 ≤ y → y < t + 1 → y < n ∧ digP (T y) := fun y q0 q1 => by
            by_cases e : y = t
            · rw [e]; exact ⟨by omega, hd2⟩
            · exact hq y q0 (by omega)
          by_cases h3 : 3 ≤ t - a
          · rw [if_pos h3]
            exact ih (t + 1, v) mm ⟨rfl, by simp only; omega, hq', by rw [es, if_neg (by omega)]⟩ (by simp only; omega)
          · rw [if_neg h3, chk_of (by omega), tt, w32_id (x := 10 * v) (by omega) (by omega), w32_id (x := 10 * v + T t) (by unfold digP at hd2; omega) (by unfold digP at hd2; omega), w32_id (x := 10 * v + T t - 48) (by unfold digP at hd2; omega) (by unfold digP at hd2; omega)]
            exact ih (t + 1, 10 * v + T t - 48) mm ⟨rfl, by simp only; omega, hq', by rw [es, if_pos (by omega)]⟩ (by simp only; omega)
        · rw [if_pos (show v3 = 0 by
            rcases v03 with z | z
            · exact z
            · exact absurd (hv3.mp z) hd2)]
          exact done (fun z => hd2 z.2)
    · have w255 : ∀ c, c < 256 → iand (w8 ((c : Nat) : Int)) 255 % 65536 = ((c : Nat) : Int) := by decide +kernel
      have e255 := w255 (T a).toNat (by omega)
      rw [Int.toNat_of_nonneg t2] at e255
      obtain ⟨v3, ev3, hv3⟩ := c_signAt (m := m) t2 t3
      rw [if_pos (show v2 = 0 by
        rcases v02 with z | z
        · exact z
        · exact absurd (hv2.mp z) hd), chk_of (by omega), e255, ev3, bR_some, c_put8 hx x9, c_put8 hx x9, bV_some, bV_some]
      by_cases hs : SgnB (T a)
      · rw [if_neg (fun z => (hv3.mp z) hs)]
        exact ok_some ⟨T a, 0, .inr (.inr ⟨hl, hd, rfl, .inl ⟨hs, rfl⟩, rfl⟩), rfl⟩
      · rw [if_pos (hv3.mpr hs)]
        exact ok_some ⟨2, 0, .inr (.inr ⟨hl, hd, rfl, .inr ⟨hs, rfl⟩, rfl⟩), rfl⟩
/-- the text as a row of tokens -/
def SeqT (T : Int → Int) (n : Int) (cnt : Nat) (pos kd vl st : Nat → Int) : Prop :=
  cnt ≤ 900 ∧ pos 0 = 0 ∧ (∀ i, i < cnt → TokAt T n (pos i) (st i) (pos (i + 1)) (kd i) (vl i)) ∧ RunTo blkP T n (pos cnt) n ∧ kd cnt = 0 ∧ st cnt = n ∧ pos (cnt + 1) = n
def TokC (cnt : Nat) (kd vl st : Nat → Int) (m : Mem) : Prop := ∀ i : Nat, i ≤ cnt → m 4 (i : Int) = kd i ∧ m 5 (i : Int) = vl i ∧ m 6 (i : Int) = st i
theorem put_at {m : Mem} {x j : Nat} {k v a : Int} : putM m x k v a 4 (j : Int) = (if j = x then k else m 4 j) ∧ putM m x k v a 5 (j : Int) = (if j = x then v else m 5 j) ∧ putM m x k v a 6 (j : Int) = (if j = x then a else m 6 j) ∧ putM m x k v a 3 3 = (x : Int) + 1 := by
  unfold putM
  refine ⟨?_, ?_, ?_, up_same _ _ _ _⟩
  · rw [up_cell (by decide), up_cell (by decide), up_cell (by decide), up_at]
    by_cases e : j = x
    · rw [if_pos e, if_pos (by omega)]
    · rw [if_neg e, if_neg (by omega)]
  · rw [up_cell (by decide), up_cell (by decide), up_at, up_cell (by decide)]
    by_cases e : j = x
    · rw [if_pos e, if_pos (by omega)]
    · rw [if_neg e, if_neg (by omega)]
  · rw [up_cell (by decide), up_at, up_cell (by decide), up_cell (by decide)]
    by_cases e : j = x
    · rw [if_pos e, if_pos (by omega)]
    · rw [if_neg e, if_neg (by omega)]
theorem put_fr {m : Mem} {x : Nat} {k v a : Int} : Fr [3, 4, 5, 6] m (putM m x k v a) := fr_up (by simp) (fr_up (by simp) (fr_up (by simp) (fr_up (by simp) fr_refl)))
theorem c_cut {T : Int → Int} {n : Int} {m : Mem} (hT : TxtR T n m) (n0 : 0 ≤ n) (n9 : n ≤ 900) :
    Ok (fX8_cut n m) (fun m' => ∃ cnt pos kd vl st, SeqT T n cnt pos kd vl st ∧ TokC cnt kd vl st m' ∧ Fr [3, 4, 5, 6] m m') := by
  unfold fX8_cut
  simp only [wr_eq]
  simp only [rd_eq]
  simp only [jn_eq]
  refine lp_ok (fun (q : Int × Int) (mm : Mem) => (0 ≤ q.2 ∧ q.2 ≤ n) ∧ q.1 ≤ n ∧ (q.2 < q.1 ∨ ∀ y, q.1 ≤ y → y < q.2 → blkP (T y)) ∧ (∃ (i : Nat) (pos : Nat → Int), (i : Int) ≤ q.1 ∧ pos 0 = 0 ∧ pos i = q.1 ∧ mm 3 3 = (i : Int) ∧ ∀ j : Nat, j < i → TokAt T n (pos j) (mm 6 (j : Int)) (pos (j + 1)) (mm 4 (j : Int)) (mm 5 (j : Int))) ∧ Fr [3, 4, 5, 6] m mm) (fun q _ => (n - q.2).toNat) ⟨by simp only; omega, by simp only; omega, .inr (fun y a b => by simp only at a b; omega), ⟨0, fun _ => 0, Int.le_refl _, rfl, rfl, up_same _ _ _ _, fun j z => by omega⟩, fr_up (by simp) fr_refl⟩ (by simp only; omega) ?_
  rintro G ⟨nx, a⟩ mm ⟨⟨a0, a1⟩, nx1, hb, ⟨i, pos, ip, p0, pi, hi, htok⟩, hF⟩ ih
  simp only at a0 a1 nx1 hb ip pi ih ⊢
  have hTm : TxtR T n mm := fun q q0 q1 => by rw [hF 1 (by decide)]; exact hT q q0 q1
  by_cases ha : n ≤ a
  · rw [if_pos ha, c_put8 hi (by omega), bV_some]
    have an : a = n := by omega
    subst an
    have rn : RunTo blkP T a nx a := by
      refine ⟨nx1, fun q q0 q1 => ⟨q1, ?_⟩, fun z => by omega⟩
      rcases hb with z | z
      · omega
      · exact z q q0 q1
    refine ok_some ⟨i, fun j => if j ≤ i then pos j else a, fun j => putM mm i 0 0 a 4 j, fun j => putM mm i 0 0 a 5 j, fun j => putM mm i 0 0 a 6 j, ⟨by omega, by simp only [Nat.zero_le, if_true]; exact p0, fun j hj => ?_, ?_, ?_, ?_, ?_⟩, fun j _ => ⟨rfl, rfl, rfl⟩, fr_trans hF put_fr⟩
    · obtain ⟨q1, q2, q3, _⟩ := put_at (m := mm) (x := i) (j := j) (k := 0) (v := 0) (a := a)
      rw [if_neg (by omega)] at q1 q2 q3
      simp only [q1, q2, q3]
      rw [if_pos (by omega), if_pos (by omega)]
      exact htok j hj
    · simp only [Nat.le_refl, if_true]; rw [pi]; exact rn
    · simp only; rw [put_at.1, if_pos rfl]
    · simp only; rw [put_at.2.2.1, if_pos rfl]
    · simp only; rw [if_neg (by omega)]
  · rw [if_neg ha, w32_id (x := a + 1) (by omega) (by omega)]
    by_cases hn : a < nx
    · rw [if_pos hn]
      exact ih (nx, a + 1) mm ⟨by simp only; omega, nx1, .inr (fun y y0 y1 => by simp only at y0 y1; omega), ⟨i, pos, ip, p0, pi, hi, htok⟩, hF⟩ (by simp only; omega)
    · obtain ⟨y1, y2, y3⟩ := hTm a a0 (by omega)
      have hb' := hb.resolve_left hn
      have b32 := (w8_lo y2 y3 (a := 32) (by decide) (by decide)).1
      have b10 := (w8_lo y2 y3 (a := 10) (by decide) (by decide)).1
      have blk : blkP (T a) → Ok (G (nx, a + 1) mm) (fun m' => ∃ cnt pos kd vl st, SeqT T n cnt pos kd vl st ∧ TokC cnt kd vl st m' ∧ Fr [3, 4, 5, 6] m m') := by
        intro hk
        refine ih (nx, a + 1) mm ⟨by simp only; omega, nx1, .inr (fun y q0 q1 => ?_), ⟨i, pos, ip, p0, pi, hi, htok⟩, hF⟩ (by simp only; omega)
        simp only at q0 q1
        by_cases e : y = a
        · rw [e]; exact hk
        · exact hb' y q0 (by omega)
      rw [if_neg hn, chk_of (by omega), y1]
      by_cases h32 : w8 (T a) = 32
      · rw [if_pos h32]; exact blk (.inl (b32.mp h32))
      · rw [if_neg h32, chk_of (by omega)]
        by_cases h10 : w8 (T a) = 10
        · rw [if_pos h10]; exact blk (.inr (b10.mp h10))
        · rw [if_neg h10]
          have nb : ¬ blkP (T a) := fun z => z.elim (fun z => h32 (b32.mpr z)) (fun z => h10 (b10.mpr z))
          refine ok_bW (c_cutOne hTm n9 a0 (by omega) hi (by omega)) ?_
          rintro e m2 ⟨k, v, hk, hm2⟩
          simp only at hk hm2
          subst hm2
          have tk : TokAt T n nx a e k v := ⟨⟨by omega, fun q q0 q1 => ⟨by omega, hb' q q0 q1⟩, fun z => nb z.2⟩, by omega, hk⟩
          have rg := tok_rg tk
          refine ih (e, a + 1) _ ⟨by simp only; omega, by simp only; omega, ?_, ⟨i + 1, fun j => if j ≤ i then pos j else e, by simp only; omega, by simp only [Nat.zero_le, if_true]; exact p0, by simp only; rw [if_neg (by omega)], by rw [(put_at (j := 0)).2.2.2]; omega, fun j hj => ?_⟩, fr_trans hF put_fr⟩ (by simp only; omega)
          · simp only
            by_cases z : a + 1 < e
            · exact .inl z
            · exact .inr (fun y q0 q1 => by omega)
          · obtain ⟨q1, q2, q3, _⟩ := put_at (m := mm) (x := i) (j := j) (k := k) (v := v) (a := a)
            simp only
            rw [q1, q2, q3]
            by_cases ej : j = i
            · subst ej
              rw [if_pos rfl, if_pos rfl, if_pos rfl, if_pos (Nat.le_refl _), if_neg (by omega), pi]; exact tk
            · rw [if_neg ej, if_neg ej, if_neg ej, if_pos (by omega), if_pos (by omega)]
              exact htok j (by omega)

/-! ===== D78: the model reads on ===== -/
def mtok (k : Int) : Int := if k = 0 then 0 else if k = 1 then 2 else if k = 2 then 3 else if k = 3 ∨ 128 ≤ k then 1 else k
theorem m_isLetter {c : Int} {m : Mem} : ∃ v, fX12_isLetter c m = some v ∧ (v = 0 ∨ v = 1) ∧ (v = 1 ↔ ltrP c) := by
  unfold fX12_isLetter ltrP
  simp only [jn_eq]
  by_cases z1 : c < 97
  · rw [if_pos z1, chk_of (by decide)]; exact ⟨0, rfl, .inl rfl, fun q => by omega, fun q => by omega⟩
  · rw [if_neg z1]
    by_cases z2 : 122 < c
    · rw [if_pos z2, chk_of (by decide)]; exact ⟨0, rfl, .inl rfl, fun q => by omega, fun q => by omega⟩
    · rw [if_neg z2, chk_of (by decide)]; exact ⟨1, rfl, .inr rfl, fun _ => by omega, fun _ => rfl⟩
theorem m_isDigit {c : Int} {m : Mem} : ∃ v, fX12_isDigit c m = some v ∧ (v = 0 ∨ v = 1) ∧ (v = 1 ↔ digP c) := by
  unfold fX12_isDigit digP
  simp only [jn_eq]
  by_cases z1 : c < 48
  · rw [if_pos z1, chk_of (by decide)]; exact ⟨0, rfl, .inl rfl, fun q => by omega, fun q => by omega⟩
  · rw [if_neg z1]
    by_cases z2 : 57 < c
    · rw [if_pos z2, chk_of (by decide)]; exact ⟨0, rfl, .inl rfl, fun q => by omega, fun q => by omega⟩
    · rw [if_neg z2, chk_of (by decide)]; exact ⟨1, rfl, .inr rfl, fun _ => by omega, fun _ => rfl⟩
theorem m_isSignByte {c : Int} {m : Mem} : ∃ v, fX12_isSignByte c m = some v ∧ (v = 0 ∨ v = 1) ∧ (v = 1 ↔ SgnB c) := by
  by_cases hs : SgnB c
  · refine ⟨1, ?_, .inr rfl, fun _ => hs, fun _ => rfl⟩
    unfold SgnB at hs
    rcases hs with e | e | e | e | e | e | e | e | e | e | e | e <;> (subst e; rfl)
  · refine ⟨0, ?_, .inl rfl, fun z => by omega, fun z => absurd z hs⟩
    unfold SgnB at hs
    unfold fX12_isSignByte
    simp only [jn_eq]
    rw [if_neg (by omega), if_neg (by omega), if_neg (by omega), if_neg (by omega), if_neg (by omega), if_pos (by omega), if_neg (show ¬ ¬ True from fun z => z trivial), if_neg (by omega), if_neg (by omega), if_neg (by omega), if_neg (by omega), if_neg (by omega), if_pos (by omega), chk_of (by simp)]
def TapT (T : Int → Int) (n : Int) (m : Mem) : Prop := ∀ i, 0 ≤ i → i < n → m 292 i = T i
theorem m_see {T : Int → Int} {n k : Int} {m : Mem} (hT : TapT T n m) (h7 : m 287 7 = n) (n9 : n ≤ 900) (k0 : 0 ≤ k) : fX12_see k m = some (if n ≤ k then 0 else T k) := by
  unfold fX12_see
  simp only [rd_eq, jn_eq]
  rw [h7]
  by_cases z : n ≤ k
  · rw [if_pos z, if_pos z]
  · rw [if_neg z, if_neg z, chk_of (by omega), hT k k0 (by omega)]
/-- where the model stands behind a token -/
def RdT (T : Int → Int) (n h : Int) (m' : Mem) : Prop :=
  (∃ b e k v, TokAt T n h b e k v ∧ m' 287 8 = e ∧ m' 287 9 = b ∧ m' 287 10 = mtok k ∧ (k = 1 → m' 287 11 = v)) ∨ (RunTo blkP T n h n ∧ m' 287 8 = n ∧ m' 287 9 = n ∧ m' 287 10 = 0)
theorem m_readsOn {T : Int → Int} {n h : Int} {m : Mem} (hT : TapT T n m) (h7 : m 287 7 = n) (h8 : m 287 8 = h) (n9 : n ≤ 900) (h0 : 0 ≤ h) (hn : h ≤ n) :
    Ok (fX12_readsOn m) (fun m' => RdT T n h m' ∧ (∀ i, i ≠ 8 → i ≠ 9 → i ≠ 10 → i ≠ 11 → m' 287 i = m 287 i) ∧ Fr [287] m m') := by
  unfold fX12_readsOn
  simp only [rd_eq]
  refine lp_ok (fun (_ : Unit) (mm : Mem) => ∃ b : Int, mm 287 8 = b ∧ (h ≤ b ∧ b ≤ n) ∧ (∀ q, h ≤ q → q < b → q < n ∧ blkP (T q)) ∧ (∀ i, i ≠ 8 → mm 287 i = m 287 i) ∧ Fr [287] m mm) (fun _ mm => (n - mm 287 8).toNat) ⟨h, h8, by omega, fun q _ _ => by omega, fun _ _ => rfl, fr_refl⟩ (by show (n - m 287 8).toNat < _; omega) ?_
  rintro G _ mm ⟨b, e8, ⟨b0, b1⟩, hq, h287, hF⟩ ih
  have e7 : mm 287 7 = n := (h287 7 (by decide)).trans h7
  have hTm : TapT T n mm := fun i a c => by rw [hF 292 (by decide)]; exact hT i a c
  rw [e8, e7]
  refine ok_jn (fun _ m2 => m2 = mm ∧ ¬ (b < n ∧ blkP (T b))) ?_ ?_
  · rintro _ m2 ⟨rfl, hnb⟩
    have run : RunTo blkP T n h b := ⟨b0, hq, hnb⟩
    simp only [wr_eq]
    have u8 : up m2 287 9 (m2 287 8) 287 8 = b := by rw [up_idx (by decide)]; exact e8
    have u7 : up m2 287 9 (m2 287 8) 287 7 = n := by rw [up_idx (by decide)]; exact e7
    have u9 : up m2 287 9 (m2 287 8) 287 9 = b := by rw [up_same]; exact e8
    have ui : ∀ i, i ≠ 8 → i ≠ 9 → up m2 287 9 (m2 287 8) 287 i = m 287 i := fun i z1 z2 => by rw [up_idx z2]; exact h287 i z1
    have uF : Fr [287] m (up m2 287 9 (m2 287 8)) := fr_up (by simp) hF
    generalize up m2 287 9 (m2 287 8) = m3 at *
    have hT3 : TapT T n m3 := fun i a c => by rw [uF 292 (by decide)]; exact hT i a c
    rw [u8, u7]
    by_cases hbn : b < n
    · obtain ⟨v1, ev1, v01, hv1⟩ := m_isLetter (c := T b) (m := m3)
      rw [if_pos hbn, chk_of (by omega), hT3 b (by omega) hbn, ev1, bR_some]
      have fin : ∀ (e k v : Int) (m4 : Mem), TokB T n b e k v → m4 287 8 = e → m4 287 9 = b → m4 287 10 = mtok k → (k = 1 → m4 287 11 = v) → (∀ i, i ≠ 8 → i ≠ 9 → i ≠ 10 → i ≠ 11 → m4 287 i = m 287 i) → Fr [287] m m4 → Ok (some m4) (fun m' => RdT T n h m' ∧ (∀ i, i ≠ 8 → i ≠ 9 → i ≠ 10 → i ≠ 11 → m' 287 i = m 287 i) ∧ Fr [287] m m') := fun e k v m4 a1 a2 a3 a4 a5 a6 a7 => ok_some ⟨.inl ⟨b, e, k, v, ⟨run, hbn, a1⟩, a2, a3, a4, a5⟩, a6, a7⟩
      simp only [jn_eq]
      by_cases hl : ltrP (T b)
      · rw [if_neg (show ¬ v1 = 0 by have := hv1.mpr hl; omega)]
        refine lp_ok (fun (_ : Unit) (m4 : Mem) => ∃ t : Int, m4 287 8 = t ∧ (b ≤ t ∧ t ≤ n) ∧ (∀ q, b ≤ q → q < t → q < n ∧ ltrP (T q)) ∧ (∀ i, i ≠ 8 → m4 287 i = m3 287 i) ∧ Fr [287] m3 m4) (fun _ m4 => (n - m4 287 8).toNat) ⟨b, u8, by omega, fun q _ _ => by omega, fun _ _ => rfl, fr_refl⟩ (by show (n - m3 287 8).toNat < _; omega) ?_
        rintro G2 _ m4 ⟨t, f8, ⟨t0, t1⟩, hq2, f287, hF4⟩ ih2
        have hT4 : TapT T n m4 := fun i a c => by rw [hF4 292 (by decide)]; exact hT3 i a c
        rw [f8, m_see hT4 ((f287 7 (by decide)).trans u7) n9 (by omega), bR_some]
        obtain ⟨v2, ev2, v02, hv2⟩ := m_isLetter (c := if n ≤ t then 0 else T t) (m := m4)
        rw [ev2, bR_some]
        by_cases hz : v2 = 0
        · rw [if_pos hz]
          have hstop : ¬ (t < n ∧ ltrP (T t)) := fun z => by
            rw [if_neg (show ¬ n ≤ t by omega)] at hv2
            have := hv2.mpr z.2
            omega
          have htb : b + 1 ≤ t := by
            by_cases z : t = b
            · exact absurd ⟨by omega, by rw [z]; exact hl⟩ hstop
            · omega
          have run2 : RunTo ltrP T n (b + 1) t := ⟨htb, fun q q0 q1 => hq2 q (by omega) q1, hstop⟩
          obtain ⟨k, hk⟩ : ∃ k, WordK T b t k := by
            by_cases z : ∃ j : Nat, j < 18 ∧ EqW T b t (wid j)
            · obtain ⟨j, hj, q⟩ := z
              exact ⟨128 + (j : Int), .inl ⟨j, hj, rfl, q⟩⟩
            · exact ⟨3, .inr ⟨rfl, fun j hj q => z ⟨j, hj, q⟩⟩⟩
          have mk : mtok k = 1 ∧ k ≠ 1 := by
            unfold mtok
            rcases hk with ⟨j, hj, ek, _⟩ | ⟨ek, _⟩
            · rw [if_neg (by omega), if_neg (by omega), if_neg (by omega), if_pos (by omega)]; omega
            · rw [if_neg (by omega), if_neg (by omega), if_neg (by omega), if_pos (by omega)]; omega
          exact fin t k 0 _ (.inl ⟨hl, run2, hk, rfl⟩) (by rw [up_idx (by decide)]; exact f8) (by rw [up_idx (by decide), f287 9 (by decide)]; exact u9) (by rw [up_same, mk.1]) (fun z => absurd z mk.2) (fun i z1 z2 z3 z4 => by rw [up_idx z3, f287 i z1]; exact ui i z1 z2) (fr_up (by simp) (fr_trans uF hF4))
        · have h1 := hv2.mp (by omega)
          have htn : ¬ n ≤ t := fun z => by rw [if_pos z] at h1; unfold ltrP at h1; omega
          rw [if_neg htn] at h1
          rw [if_neg hz, w32_id (by omega) (by omega)]
          refine ih2 () _ ⟨t + 1, up_same _ _ _ _, by omega, fun q q0 q1 => ?_, fun i hi => by rw [up_idx hi]; exact f287 i hi, fr_up (by simp) hF4⟩ (by rw [up_same, f8]; omega)
          by_cases e : q = t
          · rw [e]; exact ⟨by omega, h1⟩
          · exact hq2 q q0 (by omega)
      · rw [if_pos (show v1 = 0 by
          rcases v01 with z | z
          · exact z
          · exact absurd (hv1.mp z) hl)]
        obtain ⟨v2, ev2, v02, hv2⟩ := m_isDigit (c := T b) (m := m3)
        rw [ev2, bR_some]
        by_cases hd : digP (T b)
        · rw [if_neg (show ¬ v2 = 0 by have := hv2.mpr hd; omega)]
          have w8' : up m3 287 11 0 287 8 = b := by rw [up_idx (by decide)]; exact u8
          have w7' : up m3 287 11 0 287 7 = n := by rw [up_idx (by decide)]; exact u7
          have w9' : up m3 287 11 0 287 9 = b := by rw [up_idx (by decide)]; exact u9
          have w11 : up m3 287 11 0 287 11 = 0 := up_same _ _ _ _
          have wi : ∀ i, i ≠ 8 → i ≠ 9 → i ≠ 11 → up m3 287 11 0 287 i = m 287 i := fun i z1 z2 z3 => by rw [up_idx z3]; exact ui i z1 z2
          have wF : Fr [287] m (up m3 287 11 0) := fr_up (by simp) uF
          generalize up m3 287 11 0 = m5 at *
          refine lp_ok (fun (_ : Unit) (m4 : Mem) => ∃ t : Int, m4 287 8 = t ∧ (b ≤ t ∧ t ≤ n) ∧ (∀ q, b ≤ q → q < t → q < n ∧ digP (T q)) ∧ m4 287 11 = nv T b (t - b).toNat ∧ (∀ i, i ≠ 8 → i ≠ 11 → m4 287 i = m5 287 i) ∧ Fr [287] m5 m4) (fun _ m4 => (n - m4 287 8).toNat) ⟨b, w8', by omega, fun q _ _ => by omega, by rw [w11, show (b - b).toNat = 0 by omega]; rfl, fun _ _ _ => rfl, fr_refl⟩ (by show (n - m5 287 8).toNat < _; omega) ?_
          rintro G2 _ m4 ⟨t, f8, ⟨t0, t1⟩, hq2, f11, f287, hF4⟩ ih2
          have hT4 : TapT T n m4 := fun i a c => by rw [hF4 292 (by decide), wF 292 (by decide)]; exact hT i a c
          have f9 : m4 287 9 = b := (f287 9 (by decide) (by decide)).trans w9'
          rw [f8, m_see hT4 ((f287 7 (by decide) (by decide)).trans w7') n9 (by omega), bR_some, f9, w32_id (x := t - b) (by omega) (by omega)]
          obtain ⟨v3, ev3, v03, hv3⟩ := m_isDigit (c := if n ≤ t then 0 else T t) (m := m4)
          rw [ev3, bR_some]
          by_cases hz : v3 = 0
          · rw [if_pos hz]
            have hstop : ¬ (t < n ∧ digP (T t)) := fun z => by
              rw [if_neg (show ¬ n ≤ t by omega)] at hv3
              have := hv3.mpr z.2
              omega
            have htb : b + 1 ≤ t := by
              by_cases z : t = b
              · exact absurd ⟨by omega, by rw [z]; exact hd⟩ hstop
              · omega
            have run2 : RunTo digP T n (b + 1) t := ⟨htb, fun q q0 q1 => hq2 q (by omega) q1, hstop⟩
            by_cases h3 : t - b ≤ 3
            · rw [if_pos h3]
              exact fin t 1 (nv T b (t - b).toNat) _ (.inr (.inl ⟨hd, run2, (if_pos h3).symm, rfl⟩)) (by rw [up_idx (by decide)]; exact f8) (by rw [up_idx (by decide)]; exact f9) (by rw [up_same]; rfl) (fun _ => by rw [up_idx (by decide)]; exact f11) (fun i z1 z2 z3 z4 => by rw [up_idx z3, f287 i z1 z4]; exact wi i z1 z2 z4) (fr_up (by simp) (fr_trans wF hF4))
            · rw [if_neg h3]
              exact fin t 2 (nv T b (t - b).toNat) _ (.inr (.inl ⟨hd, run2, (if_neg h3).symm, rfl⟩)) (by rw [up_idx (by decide)]; exact f8) (by rw [up_idx (by decide)]; exact f9) (by rw [up_same]; rfl) (fun z => by omega) (fun i z1 z2 z3 z4 => by rw [up_idx z3, f287 i z1 z4]; exact wi i z1 z2 z4) (fr_up (by simp) (fr_trans wF hF4))
          · have h1 := hv3.mp (by omega)
            have htn : ¬ n ≤ t := fun z => by rw [if_pos z] at h1; unfold digP at h1; omega
            rw [if_neg htn] at h1
            have rg := nv_rg (T := T) (b := b) (t - b).toNat (fun i i0 i1 => (hq2 (b + i) (by omega) (by omega)).2)
            have es : nv T b (t + 1 - b).toNat = if t - b < 3 then 10 * nv T b (t - b).toNat + T t - 48 else nv T b (t - b).toNat := by
              rw [show (t + 1 - b).toNat = (t - b).toNat + 1 by omega]
              show (if (t - b).toNat < 3 then 10 * nv T b (t - b).toNat + T (b + (((t - b).toNat : Nat) : Int)) - 48 else nv T b (t - b).toNat) = _
              rw [show b + (((t - b).toNat : Nat) : Int) = t by omega]
              by_cases z : t - b < 3
              · rw [if_pos z, if_pos (by omega)]
              · rw [if_neg z, if_neg (by omega)]
            have next : ∀ v, v = nv T b (t + 1 - b).toNat → Ok (G2 () (up (up m4 287 11 v) 287 8 (w32 (up m4 287 11 v 287 8 + 1)))) (fun m' => RdT T n h m' ∧ (∀ i, i ≠ 8 → i ≠ 9 → i ≠ 10 → i ≠ 11 → m' 287 i = m 287 i) ∧ Fr [287] m m') := by
              intro v hv
              rw [up_idx (show (8 : Int) ≠ 11 by decide), f8, w32_id (x := t + 1) (by omega) (by omega)]
              refine ih2 () _ ⟨t + 1, up_same _ _ _ _, by omega, fun q q0 q1 => ?_, by rw [up_idx (by decide), up_same]; exact hv, fun i z1 z2 => by rw [up_idx z1, up_idx z2]; exact f287 i z1 z2, fr_up (by simp) (fr_up (by simp) hF4)⟩ (by rw [up_same, f8]; omega)
              by_cases e : q = t
              · rw [e]; exact ⟨by omega, h1⟩
              · exact hq2 q q0 (by omega)
            rw [if_neg hz]
            unfold digP at h1
            by_cases h3 : 3 ≤ t - b
            · rw [if_pos h3]
              exact next _ (by rw [f11, es, if_neg (by omega)])
            · rw [if_neg h3, chk_of (by omega), hT4 t (by omega) (by omega), f11, w32_id (x := 10 * nv T b (t - b).toNat) (by omega) (by omega), w32_id (x := 10 * nv T b (t - b).toNat + T t) (by omega) (by omega), w32_id (x := 10 * nv T b (t - b).toNat + T t - 48) (by omega) (by omega)]
              exact next _ (by rw [es, if_pos (by omega)])
        · rw [if_pos (show v2 = 0 by
            rcases v02 with z | z
            · exact z
            · exact absurd (hv2.mp z) hd)]
          obtain ⟨v3, ev3, v03, hv3⟩ := m_isSignByte (c := T b) (m := m3)
          rw [ev3, bR_some]
          have next : ∀ k v, TokB T n b (b + 1) k v → (k ≠ 1) → Ok (some (up (up m3 287 10 (mtok k)) 287 8 (w32 (up m3 287 10 (mtok k) 287 8 + 1)))) (fun m' => RdT T n h m' ∧ (∀ i, i ≠ 8 → i ≠ 9 → i ≠ 10 → i ≠ 11 → m' 287 i = m 287 i) ∧ Fr [287] m m') := by
            intro k v hk hk1
            rw [up_idx (show (8 : Int) ≠ 10 by decide), u8, w32_id (x := b + 1) (by omega) (by omega)]
            exact fin (b + 1) k v _ hk (up_same _ _ _ _) (by rw [up_idx (by decide), up_idx (by decide)]; exact u9) (by rw [up_idx (by decide), up_same]) (fun z => absurd z hk1) (fun i z1 z2 z3 z4 => by rw [up_idx z1, up_idx z3]; exact ui i z1 z2) (fr_up (by simp) (fr_up (by simp) uF))
          by_cases hs : SgnB (T b)
          · rw [if_neg (show ¬ v3 = 0 by have := hv3.mpr hs; omega)]
            have em : mtok (T b) = T b := by
              unfold SgnB at hs
              unfold mtok
              rw [if_neg (by omega), if_neg (by omega), if_neg (by omega), if_neg (by omega)]
            have := next (T b) 0 (.inr (.inr ⟨hl, hd, rfl, .inl ⟨hs, rfl⟩, rfl⟩)) (fun z => by rw [z] at hs; unfold SgnB at hs; omega)
            rw [em] at this; exact this
          · rw [if_pos (show v3 = 0 by
              rcases v03 with z | z
              · exact z
              · exact absurd (hv3.mp z) hs)]
            exact next 2 0 (.inr (.inr ⟨hl, hd, rfl, .inr ⟨hs, rfl⟩, rfl⟩)) (by decide)
    · have bn : b = n := by omega
      rw [if_neg hbn]
      refine ok_some ⟨.inr ⟨by rw [bn] at run; exact run, by rw [up_idx (by decide), u8, bn], by rw [up_idx (by decide), u9, bn], up_same _ _ _ _⟩, fun i z1 z2 z3 z4 => by rw [up_idx z3]; exact ui i z1 z2, fr_up (by simp) uF⟩
  · intro J hJ
    by_cases hbn : n ≤ b
    · rw [if_pos hbn]; exact hJ () mm ⟨rfl, fun z => by omega⟩
    · have go : blkP (T b) → Ok (G () (up mm 287 8 (w32 (mm 287 8 + 1)))) (fun m' => RdT T n h m' ∧ (∀ i, i ≠ 8 → i ≠ 9 → i ≠ 10 → i ≠ 11 → m' 287 i = m 287 i) ∧ Fr [287] m m') := by
        intro hk
        rw [e8, w32_id (by omega) (by omega)]
        refine ih () _ ⟨b + 1, up_same _ _ _ _, by omega, fun q q0 q1 => ?_, fun i hi => by rw [up_idx hi]; exact h287 i hi, fr_up (by simp) hF⟩ (by rw [up_same, e8]; omega)
        by_cases e : q = b
        · rw [e]; exact ⟨by omega, hk⟩
        · exact hq q q0 (by omega)
      simp only [wr_eq]
      simp only [jn_eq]
      rw [if_neg hbn, chk_of (by omega), hTm b (by omega) (by omega)]
      by_cases h32 : T b = 32
      · rw [if_pos h32]; exact go (.inl h32)
      · rw [if_neg h32, chk_of (by omega)]
        by_cases h10 : T b = 10
        · rw [if_neg (fun z => z h10)]; exact go (.inr h10)
        · rw [if_pos h10]
          exact hJ () mm ⟨rfl, fun z => z.2.elim h32 h10⟩

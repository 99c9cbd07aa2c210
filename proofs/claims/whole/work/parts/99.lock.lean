/-! ===== D79: token for token ===== -/
def Stm : Type := (Int → Int) × Int × Nat × (Nat → Int) × (Nat → Int) × (Nat → Int) × (Nat → Int)
def Stm.tx (S : Stm) : Int → Int := S.1
def Stm.n (S : Stm) : Int := S.2.1
def Stm.cnt (S : Stm) : Nat := S.2.2.1
def Stm.pos (S : Stm) : Nat → Int := S.2.2.2.1
def Stm.kd (S : Stm) : Nat → Int := S.2.2.2.2.1
def Stm.vl (S : Stm) : Nat → Int := S.2.2.2.2.2.1
def Stm.st (S : Stm) : Nat → Int := S.2.2.2.2.2.2
def StmV (S : Stm) : Prop := SeqT S.tx S.n S.cnt S.pos S.kd S.vl S.st ∧ 0 ≤ S.n ∧ S.n ≤ 900
def CC (S : Stm) (f pl : Int) (i : Nat) (m : Mem) : Prop := TokC S.cnt S.kd S.vl S.st m ∧ (m 2 3 = f ∧ m 2 4 = pl) ∧ (f = 0 → m 2 5 = (i : Int) ∧ i ≤ S.cnt ∧ pl = -1)
def TokM (S : Stm) (i : Nat) (m : Mem) : Prop := m 287 8 = S.pos (i + 1) ∧ m 287 9 = S.st i ∧ m 287 10 = mtok (S.kd i) ∧ (S.kd i = 1 → m 287 11 = S.vl i)
def MC (S : Stm) (f pl : Int) (i : Nat) (m : Mem) : Prop := (m 287 7 = S.n ∧ TapT S.tx S.n m) ∧ (m 287 12 = f ∧ (f ≠ 0 → m 287 13 = pl)) ∧ (f = 0 → TokM S i m)
def F2 (m m' : Mem) : Prop := Fr [2] m m' ∧ ∀ j, j ≠ 3 → j ≠ 4 → j ≠ 5 → m' 2 j = m 2 j
def G2 (m m' : Mem) : Prop := Fr [287] m m' ∧ ∀ j, j < 8 ∨ 14 ≤ j → m' 287 j = m 287 j
theorem f2_refl {m : Mem} : F2 m m := ⟨fr_refl, fun _ _ _ _ => rfl⟩
theorem g2_refl {m : Mem} : G2 m m := ⟨fr_refl, fun _ _ => rfl⟩
theorem f2_trans {a b c : Mem} (h : F2 a b) (k : F2 b c) : F2 a c := ⟨fr_trans h.1 k.1, fun j x y z => (k.2 j x y z).trans (h.2 j x y z)⟩
theorem g2_trans {a b c : Mem} (h : G2 a b) (k : G2 b c) : G2 a c := ⟨fr_trans h.1 k.1, fun j x => (k.2 j x).trans (h.2 j x)⟩
theorem f2_up {m : Mem} {i v : Int} (h : i = 3 ∨ i = 4 ∨ i = 5) : F2 m (up m 2 i v) := ⟨fr_up (by simp) fr_refl, fun j x y z => up_idx (by omega)⟩
theorem g2_up {m : Mem} {i v : Int} (h : 8 ≤ i ∧ i < 14) : G2 m (up m 287 i v) := ⟨fr_up (by simp) fr_refl, fun j x => up_idx (by omega)⟩
theorem tokC_f2 {S : Stm} {m m' : Mem} (h : TokC S.cnt S.kd S.vl S.st m) (k : F2 m m') : TokC S.cnt S.kd S.vl S.st m' := fun i hi => by rw [k.1 4 (by decide), k.1 5 (by decide), k.1 6 (by decide)]; exact h i hi
theorem tapT_g2 {S : Stm} {m m' : Mem} (h : m 287 7 = S.n ∧ TapT S.tx S.n m) (k : G2 m m') : m' 287 7 = S.n ∧ TapT S.tx S.n m' := ⟨(k.2 7 (by decide)).trans h.1, fun i a b => by rw [k.1 292 (by decide)]; exact h.2 i a b⟩
theorem st_end {S : Stm} (hS : StmV S) {i : Nat} (hi : i ≤ S.cnt) : (S.kd i = 0 ↔ i = S.cnt) ∧ (i < S.cnt → TokAt S.tx S.n (S.pos i) (S.st i) (S.pos (i + 1)) (S.kd i) (S.vl i)) := by
  obtain ⟨⟨h1, h2, h3, h4, h5, h6, h7⟩, h8, h9⟩ := hS
  refine ⟨⟨fun z => ?_, fun z => by rw [z]; exact h5⟩, h3 i⟩
  by_cases q : i = S.cnt
  · exact q
  · have k := (tok_kd (h3 i (by omega))).1
    unfold SgnB at k
    omega
theorem st_pos {S : Stm} (hS : StmV S) : ∀ i : Nat, i ≤ S.cnt + 1 → 0 ≤ S.pos i ∧ S.pos i ≤ S.n
  | 0, _ => by have h2 := hS.1.2.1; have := hS.2.1; omega
  | i + 1, hi => by
    have ih := st_pos hS i (by omega)
    by_cases q : i < S.cnt
    · have := tok_rg (hS.1.2.2.1 i q); omega
    · have e : i = S.cnt := by omega
      have h7 := hS.1.2.2.2.2.2.2
      rw [← e] at h7
      have := hS.2.1
      omega
theorem st_cnt {S : Stm} (hS : StmV S) : S.cnt ≤ 900 := hS.1.1
theorem c_token {S : Stm} {f pl : Int} {i : Nat} {m : Mem} (hS : StmV S) (h : CC S f pl i m) : fX6_token m = some (if f = 0 then S.kd i else 0) := by
  obtain ⟨h1, ⟨h2, h3⟩, h4⟩ := h
  have c9 := st_cnt hS
  unfold fX6_token
  simp only [rd_eq]
  simp only [jn_eq]
  rw [h2]
  by_cases hf : f = 0
  · obtain ⟨e5, ei, _⟩ := h4 hf
    rw [if_neg (show ¬ ¬ f = 0 from fun z => z hf), if_pos hf, e5, if_pos (by omega), chk_of (by omega), (h1 i ei).1]
  · rw [if_pos hf, if_neg hf]
theorem c_refuse {S : Stm} {f pl k : Int} {i : Nat} {m : Mem} (hS : StmV S) (hk : k ≠ 0) (h : CC S f pl i m) :
    Ok (fX6_refuse k m) (fun m' => ∃ f' pl', f' ≠ 0 ∧ CC S f' pl' i m' ∧ F2 m m' ∧ ∀ mm, MC S f pl i mm → Ok (fX12_blames k mm) (fun mm' => MC S f' pl' i mm' ∧ G2 mm mm')) := by
  have h0 := h
  obtain ⟨h1, ⟨h2, h3⟩, h4⟩ := h
  have c9 := st_cnt hS
  unfold fX6_refuse
  simp only [rd_eq]
  simp only [wr_eq]
  simp only [jn_eq]
  rw [h2]
  by_cases hf : f = 0
  · obtain ⟨e5, ei, _⟩ := h4 hf
    obtain ⟨t1, t2, t3⟩ := h1 i ei
    rw [if_neg (show ¬ ¬ f = 0 from fun z => z hf), e5, if_neg (by omega), chk_of (by omega), t1]
    have fin : ∀ v : Int, v ≠ 0 → v = (if S.kd i = 2 then 1 else k) → Ok (chk ((0 : Int) ≤ up m 2 3 v 2 5 ∧ up m 2 3 v 2 5 < ((901 : Nat) : Int)) (some (up (up m 2 3 v) 2 4 (up m 2 3 v 6 (up m 2 3 v 2 5))))) (fun m' => ∃ f' pl', f' ≠ 0 ∧ CC S f' pl' i m' ∧ F2 m m' ∧ ∀ mm, MC S f pl i mm → Ok (fX12_blames k mm) (fun mm' => MC S f' pl' i mm' ∧ G2 mm mm')) := by
      intro v hv ev
      rw [up_idx (show (5 : Int) ≠ 3 by decide), e5, chk_of (by omega), up_cell (show 6 ≠ 2 by decide), t3]
      have hF : F2 m (up (up m 2 3 v) 2 4 (S.st i)) := f2_trans (f2_up (by decide)) (f2_up (by decide))
      refine ok_some ⟨v, S.st i, hv, ⟨tokC_f2 h1 hF, ⟨by rw [up_idx (by decide), up_same], up_same _ _ _ _⟩, fun z => absurd z hv⟩, hF, fun mm hM => ?_⟩
      obtain ⟨g1, ⟨g2, _⟩, g4⟩ := hM
      obtain ⟨a1, a2, a3, a4⟩ := g4 hf
      unfold fX12_blames
      simp only [rd_eq]
      simp only [wr_eq]
      simp only [jn_eq]
      rw [g2, if_pos hf, a3]
      have m3 : mtok (S.kd i) = 3 ↔ S.kd i = 2 := by
        have kk : S.kd i = 0 ∨ (S.kd i = 1 ∨ S.kd i = 2 ∨ S.kd i = 3 ∨ (128 ≤ S.kd i ∧ S.kd i < 146) ∨ SgnB (S.kd i)) := by
          by_cases q : i = S.cnt
          · exact .inl ((st_end hS ei).1.mpr q)
          · exact .inr (tok_kd ((st_end hS ei).2 (by omega))).1
        unfold mtok SgnB at *
        repeat' split
        all_goals omega
      have fin2 : Ok (some (up (up mm 287 12 v) 287 13 (up mm 287 12 v 287 9))) (fun mm' => MC S v (S.st i) i mm' ∧ G2 mm mm') := by
        have hG : G2 mm (up (up mm 287 12 v) 287 13 (up mm 287 12 v 287 9)) := g2_trans (g2_up (by omega)) (g2_up (by omega))
        refine ok_some ⟨⟨tapT_g2 g1 hG, ⟨by rw [up_idx (by decide), up_same], fun _ => by rw [up_same, up_idx (by decide), a2]⟩, fun z => absurd z hv⟩, hG⟩
      by_cases q : S.kd i = 2
      · rw [if_pos q] at ev
        rw [if_neg (show ¬ ¬ mtok (S.kd i) = 3 from fun z => z (m3.mpr q)), ← ev]; exact fin2
      · rw [if_neg q] at ev
        rw [if_pos (fun z => q (m3.mp z)), ← ev]; exact fin2
    by_cases q : S.kd i = 2
    · rw [if_neg (show ¬ ¬ S.kd i = 2 from fun z => z q)]
      exact fin 1 (by decide) (if_pos q).symm
    · rw [if_pos q]
      exact fin k hk (if_neg q).symm
  · rw [if_pos hf]
    refine ok_some ⟨f, pl, hf, h0, f2_refl, fun mm hM => ?_⟩
    unfold fX12_blames
    simp only [rd_eq]
    rw [hM.2.1.1, if_neg hf]
    exact ok_some ⟨hM, g2_refl⟩
/-- a token taken -/
theorem c_adv {S : Stm} {pl : Int} {i : Nat} {m : Mem} (hS : StmV S) (h : CC S 0 pl i m) (hk : S.kd i ≠ 0) : i < S.cnt ∧ (m 2 5 = (i : Int)) ∧ CC S 0 pl (i + 1) (up m 2 5 ((i : Int) + 1)) ∧ F2 m (up m 2 5 ((i : Int) + 1)) := by
  obtain ⟨h1, ⟨h2, h3⟩, h4⟩ := h
  obtain ⟨e5, ei, ep⟩ := h4 rfl
  have hi : i < S.cnt := by
    by_cases q : i = S.cnt
    · exact absurd ((st_end hS ei).1.mpr q) hk
    · omega
  have hF : F2 m (up m 2 5 ((i : Int) + 1)) := f2_up (by decide)
  exact ⟨hi, e5, ⟨tokC_f2 h1 hF, ⟨by rw [up_idx (by decide)]; exact h2, by rw [up_idx (by decide)]; exact h3⟩, fun _ => ⟨by rw [up_same]; omega, by omega, ep⟩⟩, hF⟩
theorem rd_tok {S : Stm} {i : Nat} {mm' : Mem} (hS : StmV S) (hi : i ≤ S.cnt) (h : RdT S.tx S.n (S.pos i) mm') : TokM S i mm' := by
  have hh := hS.1
  rcases h with ⟨b, e, k, v, t, a1, a2, a3, a4⟩ | ⟨t, a1, a2, a3⟩
  · by_cases q : i < S.cnt
    · obtain ⟨e1, e2, e3, e4⟩ := tok_uq t ((st_end hS hi).2 q)
      exact ⟨a1.trans e2, a2.trans e1, by rw [a3, e3], fun z => by rw [a4 (by rw [e3]; exact z), e4]⟩
    · have ei : i = S.cnt := by omega
      rw [ei] at t
      have := run_uq t.1 hh.2.2.2.1
      have := t.2.1
      omega
  · by_cases q : i < S.cnt
    · have t2 := (st_end hS hi).2 q
      have := run_uq t t2.1
      have := t2.2.1
      omega
    · have ei : i = S.cnt := by omega
      subst ei
      exact ⟨a1.trans hh.2.2.2.2.2.2.symm, a2.trans hh.2.2.2.2.2.1.symm, by rw [a3, hh.2.2.2.2.1]; rfl, fun z => by rw [hh.2.2.2.2.1] at z; omega⟩
theorem m_adv {S : Stm} {pl : Int} {i : Nat} {mm : Mem} (hS : StmV S) (hi : i < S.cnt) (h : MC S 0 pl i mm) : Ok (fX12_readsOn mm) (fun mm' => MC S 0 pl (i + 1) mm' ∧ G2 mm mm') := by
  obtain ⟨g1, ⟨g2, _⟩, g4⟩ := h
  obtain ⟨a1, a2, a3, a4⟩ := g4 rfl
  have ps := st_pos hS (i + 1) (by omega)
  refine ok_imp (m_readsOn g1.2 g1.1 a1 hS.2.2 ps.1 ps.2) ?_
  rintro mm' ⟨r1, r2, r3⟩
  have hG : G2 mm mm' := ⟨r3, fun j z => r2 j (by omega) (by omega) (by omega) (by omega)⟩
  exact ⟨⟨tapT_g2 g1 hG, ⟨(r2 12 (by decide) (by decide) (by decide) (by decide)).trans g2, fun z => absurd rfl z⟩, fun _ => rd_tok hS (by omega) r1⟩, hG⟩
theorem mtok_in {S : Stm} {i : Nat} (hS : StmV S) (hi : i ≤ S.cnt) : S.kd i = 0 ∨ S.kd i = 1 ∨ S.kd i = 2 ∨ S.kd i = 3 ∨ (128 ≤ S.kd i ∧ S.kd i < 146) ∨ SgnB (S.kd i) := by
  by_cases q : i = S.cnt
  · exact .inl ((st_end hS hi).1.mpr q)
  · exact .inr (tok_kd ((st_end hS hi).2 (by omega))).1
theorem mtok_sgn {S : Stm} {i : Nat} {s : Int} (hS : StmV S) (hi : i ≤ S.cnt) (hs : SgnB s) : mtok (S.kd i) = s ↔ S.kd i = s := by
  have kk := mtok_in hS hi
  unfold mtok SgnB at *
  repeat' split
  all_goals omega
theorem mtok_num {S : Stm} {i : Nat} (hS : StmV S) (hi : i ≤ S.cnt) : (mtok (S.kd i) = 2 ↔ S.kd i = 1) ∧ (mtok (S.kd i) = 1 ↔ (S.kd i = 3 ∨ (128 ≤ S.kd i ∧ S.kd i < 146))) ∧ (mtok (S.kd i) = 0 ↔ S.kd i = 0) := by
  have kk := mtok_in hS hi
  unfold mtok SgnB at *
  refine ⟨?_, ?_, ?_⟩
  all_goals (repeat' split)
  all_goals omega
theorem c_take {S : Stm} {f pl s : Int} {i : Nat} {m : Mem} (hS : StmV S) (hs : SgnB s) (h : CC S f pl i m) :
    Ok (fX6_take s m) (fun m' => ∃ f' pl' i', CC S f' pl' i' m' ∧ F2 m m' ∧ (f' = 0 → f = 0 ∧ S.kd i = s ∧ i' = i + 1) ∧ ∀ mm, MC S f pl i mm → Ok (fX12_mustSign s mm) (fun mm' => MC S f' pl' i' mm' ∧ G2 mm mm')) := by
  have s0 : s ≠ 0 := by unfold SgnB at hs; omega
  unfold fX6_take
  rw [c_token hS h, bR_some]
  simp only [rd_eq]
  simp only [wr_eq]
  simp only [jn_eq]
  by_cases hf : f = 0
  · subst hf
    have ei := (h.2.2 rfl).2.1
    have c9 := st_cnt hS
    rw [if_pos rfl]
    by_cases q : S.kd i = s
    · obtain ⟨hi, e5, k1, k2⟩ := c_adv hS h (by omega)
      rw [if_neg (fun z => z q), e5, w32_id (by omega) (by omega)]
      refine ok_some ⟨0, pl, i + 1, k1, k2, fun _ => ⟨rfl, q, rfl⟩, fun mm hM => ?_⟩
      unfold fX12_mustSign
      simp only [rd_eq]
      simp only [jn_eq]
      rw [(hM.2.2 rfl).2.2.1, if_pos ((mtok_sgn hS ei hs).mpr q), hM.2.1.1, if_neg (show ¬ ¬ (0 : Int) = 0 from fun z => z rfl)]
      refine ok_bV (m_adv hS hi hM) (fun mm' hh => ok_some hh)
    · rw [if_pos q]
      refine ok_bV (c_refuse hS (by decide) h) ?_
      rintro m' ⟨f', pl', k1, k2, k3, k4⟩
      refine ok_some ⟨f', pl', i, k2, k3, fun z => absurd z k1, fun mm hM => ?_⟩
      unfold fX12_mustSign
      simp only [rd_eq]
      simp only [jn_eq]
      rw [(hM.2.2 rfl).2.2.1, if_neg (fun z => q ((mtok_sgn hS ei hs).mp z))]
      refine ok_bV (k4 mm hM) ?_
      rintro mm' ⟨j1, j2⟩
      rw [j1.2.1.1, if_pos k1]
      exact ok_some ⟨j1, j2⟩
  · rw [if_neg hf, if_pos (fun z => s0 z.symm)]
    refine ok_bV (c_refuse hS (by decide) h) ?_
    rintro m' ⟨f', pl', k1, k2, k3, k4⟩
    refine ok_some ⟨f', pl', i, k2, k3, fun z => absurd z k1, fun mm hM => ?_⟩
    unfold fX12_mustSign
    simp only [rd_eq]
    simp only [jn_eq]
    by_cases q : mm 287 10 = s
    · rw [if_pos q, hM.2.1.1, if_pos hf]
      -- the fault stays as it was
      have e := k4 mm hM
      unfold fX12_blames at e
      simp only [rd_eq] at e
      rw [hM.2.1.1, if_neg hf] at e
      exact e
    · rw [if_neg q]
      refine ok_bV (k4 mm hM) ?_
      rintro mm' ⟨j1, j2⟩
      rw [j1.2.1.1, if_pos k1]
      exact ok_some ⟨j1, j2⟩
theorem c_number {S : Stm} {f pl lo hi : Int} {i : Nat} {m : Mem} (hS : StmV S) (h : CC S f pl i m) :
    Ok (fX6_number lo hi m) (fun r => ∃ f' pl' i', CC S f' pl' i' r.2 ∧ F2 m r.2 ∧ (f' = 0 → f = 0 ∧ S.kd i = 1 ∧ i' = i + 1 ∧ r.1 = S.vl i ∧ lo ≤ r.1 ∧ r.1 ≤ hi) ∧ ∀ mm, MC S f pl i mm → Ok (fX12_number lo hi mm) (fun s => MC S f' pl' i' s.2 ∧ G2 mm s.2 ∧ (f' = 0 → s.1 = r.1))) := by
  unfold fX6_number
  rw [c_token hS h, bR_some]
  simp only [rd_eq]
  simp only [wr_eq]
  simp only [jn_eq]
  -- what both do with a fault
  have bad : ∀ k : Int, k ≠ 0 → (∀ mm, MC S f pl i mm → f = 0 → (mm 287 10 = 2 → k = 3 ∧ ¬ (lo ≤ mm 287 11 ∧ mm 287 11 ≤ hi)) ∧ (mm 287 10 ≠ 2 → k = 2)) → Ok (bV (fX6_refuse k m) fun mm => some ((0 : Int), mm)) (fun r => ∃ f' pl' i', CC S f' pl' i' r.2 ∧ F2 m r.2 ∧ (f' = 0 → f = 0 ∧ S.kd i = 1 ∧ i' = i + 1 ∧ r.1 = S.vl i ∧ lo ≤ r.1 ∧ r.1 ≤ hi) ∧ ∀ mm, MC S f pl i mm → Ok (fX12_number lo hi mm) (fun s => MC S f' pl' i' s.2 ∧ G2 mm s.2 ∧ (f' = 0 → s.1 = r.1))) := by
    intro k hk hmm
    refine ok_bV (c_refuse hS hk h) ?_
    rintro m' ⟨f', pl', k1, k2, k3, k4⟩
    refine ok_some ⟨f', pl', i, k2, k3, fun z => absurd z k1, fun mm hM => ?_⟩
    unfold fX12_number
    simp only [rd_eq]
    simp only [jn_eq]
    have stop : ∀ mm' : Mem, MC S f' pl' i mm' → G2 mm mm' → Ok (if ¬ mm' 287 12 = 0 then (if ¬ mm' 287 12 = 0 then some (lo, mm') else some (mm' 287 11, mm')) else bV (fX12_readsOn mm') fun mm_1 => if ¬ mm_1 287 12 = 0 then some (lo, mm_1) else some (mm' 287 11, mm_1)) (fun s => MC S f' pl' i s.2 ∧ G2 mm s.2 ∧ (f' = 0 → s.1 = (0 : Int))) := fun mm' a1 a2 => by
      rw [a1.2.1.1, if_pos k1, if_pos k1]
      exact ok_some ⟨a1, a2, fun z => absurd z k1⟩
    have keep : f ≠ 0 → MC S f' pl' i mm := fun hf => by
      have e := k4 mm hM
      unfold fX12_blames at e
      simp only [rd_eq] at e
      rw [hM.2.1.1, if_neg hf] at e
      obtain ⟨a, ea, eb, _⟩ := e
      cases ea; exact eb
    have anyk : ∀ k', f ≠ 0 → Ok (fX12_blames k' mm) (fun mm' => MC S f' pl' i mm' ∧ G2 mm mm') := fun k' hf => by
      unfold fX12_blames
      simp only [rd_eq]
      rw [hM.2.1.1, if_neg hf]
      exact ok_some ⟨keep hf, g2_refl⟩
    by_cases q2 : mm 287 10 = 2
    · rw [if_pos q2, m_within, bR_some]
      by_cases w : lo ≤ mm 287 11 ∧ mm 287 11 ≤ hi
      · rw [if_pos w, if_pos (show ¬ (1 : Int) = 0 by decide)]
        have hf : f ≠ 0 := fun hf => ((hmm mm hM hf).1 q2).2 w
        exact stop mm (keep hf) g2_refl
      · rw [if_neg w, if_neg (show ¬ ¬ (0 : Int) = 0 from fun z => z rfl)]
        by_cases hf : f = 0
        · have ek := ((hmm mm hM hf).1 q2).1
          rw [← ek]
          exact ok_bV (k4 mm hM) (fun mm' hh => stop mm' hh.1 hh.2)
        · exact ok_bV (anyk 3 hf) (fun mm' hh => stop mm' hh.1 hh.2)
    · rw [if_neg q2]
      by_cases hf : f = 0
      · have ek := (hmm mm hM hf).2 q2
        rw [← ek]
        exact ok_bV (k4 mm hM) (fun mm' hh => stop mm' hh.1 hh.2)
      · exact ok_bV (anyk 2 hf) (fun mm' hh => stop mm' hh.1 hh.2)
  by_cases hf : f = 0
  · subst hf
    obtain ⟨e5, ei, ep⟩ := h.2.2 rfl
    have c9 := st_cnt hS
    have mn := mtok_num hS ei
    rw [if_pos rfl]
    by_cases q : S.kd i = 1
    · obtain ⟨t1, t2, t3⟩ := h.1 i ei
      obtain ⟨hi', _, k1, k2⟩ := c_adv hS h (by omega)
      have vr := (tok_kd ((st_end hS ei).2 hi')).2 q
      rw [if_pos q, e5, chk_of (by omega), t2]
      have bad3 : ¬ (lo ≤ S.vl i ∧ S.vl i ≤ hi) → _ := fun w => bad 3 (by decide) (fun mm hM _ => ⟨fun _ => ⟨rfl, by rw [(hM.2.2 rfl).2.2.2 q]; exact w⟩, fun z => absurd (by rw [(hM.2.2 rfl).2.2.1]; exact mn.1.mpr q) z⟩)
      by_cases w1 : S.vl i < lo
      · rw [if_pos w1]; exact bad3 (by omega)
      · rw [if_neg w1]
        by_cases w2 : S.vl i ≤ hi
        · rw [if_pos w2, w32_id (by omega) (by omega)]
          refine ok_some ⟨0, pl, i + 1, k1, k2, fun _ => ⟨rfl, q, rfl, rfl, by simp only; omega, w2⟩, fun mm hM => ?_⟩
          obtain ⟨b1, b2, b3, b4⟩ := hM.2.2 rfl
          unfold fX12_number
          simp only [rd_eq]
          simp only [jn_eq]
          rw [b3, if_pos (mn.1.mpr q), b4 q, m_within, bR_some, if_pos (show lo ≤ S.vl i ∧ S.vl i ≤ hi by omega), if_pos (show ¬ (1 : Int) = 0 by decide), hM.2.1.1, if_neg (show ¬ ¬ (0 : Int) = 0 from fun z => z rfl)]
          refine ok_bV (m_adv hS hi' hM) ?_
          rintro mm' ⟨j1, j2⟩
          rw [j1.2.1.1, if_neg (show ¬ ¬ (0 : Int) = 0 from fun z => z rfl)]
          exact ok_some ⟨j1, j2, fun _ => rfl⟩
        · rw [if_neg w2]; exact bad3 (by omega)
    · rw [if_neg q]
      exact bad 2 (by decide) (fun mm hM _ => ⟨fun z => absurd (mn.1.mp (by rw [← (hM.2.2 rfl).2.2.1]; exact z)) q, fun _ => rfl⟩)
  · rw [if_neg hf, if_neg (by decide)]
    exact bad 2 (by decide) (fun mm hM z => absurd z hf)

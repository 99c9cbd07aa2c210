/-! ===== D18: trays laid and written ===== -/
def cutF (s v : Int) : Int := if s = 0 then w8 (w32 v) else if s = 1 then w16 (w32 v) else if s = 2 then w32 v else v
theorem sl_64 : ∀ n, n < 64 → (((Int32.ofInt ((n : Nat) : Int)).toInt64 &&& 63).toBitVec.smod 64).toNat = n := by decide +kernel
theorem lshl_eq (x : Int) {n : Nat} (hn : n < 64) : lshl x (n : Int) = w64 (x * 2 ^ n) := by
  unfold lshl w64
  rw [← Int64.toInt_toBitVec, Int64.toBitVec_shiftLeft, BitVec.shiftLeft_eq', sl_64 n hn, BitVec.toInt_shiftLeft, Int64.toBitVec_ofInt]
  rw [BitVec.toNat_ofInt, Nat.shiftLeft_eq]
  have e : (((x % ((2 ^ 64 : Nat) : Int)).toNat * 2 ^ n : Nat) : Int) = (x % ((2 ^ 64 : Nat) : Int)) * 2 ^ n := by
    rw [Int.natCast_mul, Int.toNat_of_nonneg (Int.emod_nonneg _ (by decide)), Int.natCast_pow]; rfl
  have k : (x % ((2 ^ 64 : Nat) : Int) * 2 ^ n) % ((2 ^ 64 : Nat) : Int) = (x * 2 ^ n) % ((2 ^ 64 : Nat) : Int) := by
    rw [Int.mul_emod, Int.emod_emod_of_dvd _ (Int.dvd_refl _), ← Int.mul_emod]
  rw [e, Int.bmod_def, Int.bmod_def, k]
theorem lshr_eq (x : Int) (h1 : -9223372036854775808 ≤ x) (h2 : x < 9223372036854775808) {n : Nat} (hn : n < 64) : lshr x (n : Int) = x / 2 ^ n := by
  unfold lshr
  rw [← Int64.toInt_toBitVec, Int64.toBitVec_shiftRight, BitVec.sshiftRight_eq', sl_64 n hn, BitVec.toInt_sshiftRight, Int64.toBitVec_ofInt, BitVec.toInt_ofInt]
  rw [show x.bmod (2 ^ 64) = x from w64_id h1 h2, Int.shiftRight_eq_div_pow]
  rfl
theorem cutF_rg {s v : Int} (h1 : -9223372036854775808 ≤ v) (h2 : v < 9223372036854775808) : -9223372036854775808 ≤ cutF s v ∧ cutF s v < 9223372036854775808 := by
  unfold cutF w8 w16 w32
  repeat' split
  all_goals first | (rw [Int.bmod_def]; split <;> omega) | omega
theorem m_cutV {s v : Int} (h1 : -9223372036854775808 ≤ v) (h2 : v < 9223372036854775808) (s0 : 0 ≤ s) (s3 : s ≤ 3) : lshr (lshl v (w32 (64 - ishl 8 s))) (w32 (64 - ishl 8 s)) = cutF s v := by
  have hs : s = 0 ∨ s = 1 ∨ s = 2 ∨ s = 3 := by omega
  have k : w32 (64 - ishl 8 0) = ((56 : Nat) : Int) ∧ w32 (64 - ishl 8 1) = ((48 : Nat) : Int) ∧ w32 (64 - ishl 8 2) = ((32 : Nat) : Int) ∧ w32 (64 - ishl 8 3) = ((0 : Nat) : Int) := by decide +kernel
  have rg : ∀ z, -9223372036854775808 ≤ w64 z ∧ w64 z < 9223372036854775808 := fun z => by unfold w64; rw [Int.bmod_def]; split <;> omega
  rcases hs with rfl | rfl | rfl | rfl
  · rw [k.1, lshl_eq _ (by decide), lshr_eq _ (rg _).1 (rg _).2 (by decide)]
    unfold cutF w64 w8 w32
    rw [if_pos rfl, Int.bmod_def, Int.bmod_def, Int.bmod_def]
    repeat' split
    all_goals omega
  · rw [k.2.1, lshl_eq _ (by decide), lshr_eq _ (rg _).1 (rg _).2 (by decide)]
    unfold cutF w64 w16 w32
    rw [if_neg (by decide), if_pos rfl, Int.bmod_def, Int.bmod_def, Int.bmod_def]
    repeat' split
    all_goals omega
  · rw [k.2.2.1, lshl_eq _ (by decide), lshr_eq _ (rg _).1 (rg _).2 (by decide)]
    unfold cutF w64 w32
    rw [if_neg (by decide), if_neg (by decide), if_pos rfl, Int.bmod_def, Int.bmod_def]
    repeat' split
    all_goals omega
  · rw [k.2.2.2, lshl_eq _ (by decide), lshr_eq _ (rg _).1 (rg _).2 (by decide)]
    unfold cutF w64
    rw [if_neg (by decide), if_neg (by decide), if_neg (by decide), Int.bmod_def]
    repeat' split
    all_goals omega
theorem c_put {m : Mem} {t i v : Int} (t0 : 0 ≤ t) (t4 : t < 4) (i0 : 0 ≤ i) (i30 : i < 30) : fX9_put t i v m = some (cutF (m 94 t) v, up m (90 + t.toNat) i (cutF (m 94 t) v)) := by
  have e : fX9_cut (m 94 t) v m = some (cutF (m 94 t) v) := by
    unfold fX9_cut cutF
    repeat' split
    all_goals rfl
  have hc : 89 + (rTab 6).1 + (rTab 6).2 * t.toNat = 90 + t.toNat := by
    show 89 + 1 + 1 * t.toNat = _; omega
  unfold fX9_put
  simp only [rd_eq, rdn_eq, wr_eq]
  rw [chk_of (by omega), chk_of (by omega), e, bR_some, chk_of (by omega), chk_of (by omega), chk_of (by omega), hc, up_same]
theorem m_cut {m : Mem} {t i v : Int} (t0 : 0 ≤ t) (t4 : t < 4) (i0 : 0 ≤ i) (i30 : i < 30) (s0 : 0 ≤ m 309 t) (s3 : m 309 t ≤ 3) (h1 : -9223372036854775808 ≤ v) (h2 : v < 9223372036854775808) :
    fX12_cut t i v m = some (cutF (m 309 t) v, up m 311 (30 * t + i) (cutF (m 309 t) v)) := by
  unfold fX12_cut
  simp only [rd_eq, wr_eq]
  rw [chk_of (by omega), w32_id (x := 30 * t) (by omega) (by omega), w32_id (x := 30 * t + i) (by omega) (by omega), chk_of (by omega), chk_of (by omega), m_cutV h1 h2 s0 s3, up_same]
/-- the class's rows and the model's, with a number changed in both -/
theorem TrayR_put {m : Mem} {t i v : Int} (h : TrayR m) (t0 : 0 ≤ t) (t4 : t < 4) (i0 : 0 ≤ i) (i30 : i < 30) (h1 : -9223372036854775808 ≤ v) (h2 : v < 9223372036854775808) : TrayR (up (up m (90 + t.toNat) i v) 311 (30 * t + i) v) := by
  intro q q0 q4
  have c1 : ∀ o, o ≠ 311 → o ≠ 90 + t.toNat → up (up m (90 + t.toNat) i v) 311 (30 * t + i) v o = m o := fun o a b => by rw [up_cell a, up_cell b]
  rw [c1 95 (by omega) (by omega), c1 309 (by omega) (by omega), c1 94 (by omega) (by omega), c1 310 (by omega) (by omega)]
  rcases h q q0 q4 with ⟨a, b⟩ | ⟨a, b, c, d, e⟩
  · exact .inl ⟨a, b⟩
  · refine .inr ⟨a, b, c, d, fun j j0 j30 => ?_⟩
    have := e j j0 j30
    rw [up_cell (show 90 + q.toNat ≠ 311 by omega), up_row, up_cell (show 311 ≠ 90 + t.toNat by omega)]
    by_cases hq : q = t
    · subst hq
      rw [up_row]
      by_cases hj : j = i
      · subst hj; rw [ku_at, ku_at]; exact ⟨rfl, h1, h2⟩
      · rw [ku_ne hj, ku_ne (by omega)]; exact this
    · rw [up_cell (by omega), ku_ne (by omega)]; exact this
theorem inv_t {c : Int} {m m' : Mem} (hI : Inv c m) (c0 : 0 ≤ c) (hF : ∀ o, ¬ (90 ≤ o ∧ o ≤ 95) → o ≠ 287 → ¬ (309 ≤ o ∧ o ≤ 312) → m' o = m o) (h287 : ∀ i, i ≠ 4 → m' 287 i = m 287 i) (hT : TrayR m') : Inv (c + 100) m' := by
  obtain ⟨i1, i2, i3, i4, i5, i6, i7, i8⟩ := hI
  have e0 := hF 0 (by omega) (by omega) (by omega)
  have e288 := hF 288 (by omega) (by omega) (by omega)
  refine Inv_mono (c := c) ⟨TapeR_fr i1 (by rw [e0]) (hF 1 (by omega) (by omega) (by omega)) (hF 292 (by omega) (by omega) (by omega)) (h287 6 (by decide)), ?_, by rw [e288]; exact i3, ?_, ImgR_fr i5 (hF _ (by omega) (by omega) (by omega)) (hF _ (by omega) (by omega) (by omega)) (hF _ (by omega) (by omega) (by omega)) (fun o a b => hF o (by omega) (by omega) (by omega)), hT, NearOk_fr i7 (by rw [hF 18 (by omega) (by omega) (by omega)]; exact ⟨rfl, rfl, rfl⟩) (hF 81 (by omega) (by omega) (by omega)), PtrR_fr i8 (hF 96 (by omega) (by omega) (by omega)) (hF 100 (by omega) (by omega) (by omega))⟩ (by omega)
  · unfold FaultR; rw [e0, h287 14 (by decide), h287 15 (by decide)]; exact i2
  · rw [e288]; exact WRel_fr' i4 (fun o a b => hF o (by omega) (by omega) (by omega))
/-! write -/
theorem d_write {c t i v : Int} {m : Mem} (hI : Inv c m) (c0 : 0 ≤ c) (h1 : -9223372036854775808 ≤ v) (h2 : v < 9223372036854775808) : Two1 c (fL_write t i v) (fX12_write t i v) m := by
  have hT := hI.2.2.2.2.2.1
  have bad : ∀ k, Inv (c + 100) (up m 287 4 k) := fun k => inv_m hI c0 (fr_up (by simp) fr_refl) (fun i h => up_idx h)
  unfold Two1 fL_write fX11_write
  rw [c_needRow hT]
  by_cases ht : 0 ≤ t ∧ t < 4
  · obtain ⟨tm, tr⟩ := tray_miss hT ht.1 ht.2
    rw [if_pos ht]
    by_cases hm : m 309 t = -1
    · rw [if_pos hm, bX_some2]
      refine ok_of (a := (2, m)) rfl ?_
      unfold fX12_write
      rw [m_trayFault, bR_some, show tryF m t = 2 by unfold tryF; rw [if_pos ht, if_pos hm]]
      simp only [rd_eq, wr_eq, jn_eq, up_same]
      rw [if_neg (by decide)]
      exact ok_some ⟨up_same m 287 4 2, fun q => by omega, bad 2⟩
    · obtain ⟨r1, r2, r3, r4, r5⟩ := tr hm
      have e0 : tryF m t = 0 := by unfold tryF; rw [if_pos ht, if_neg hm]
      rw [if_neg hm, bX_some0]
      simp only [rd_eq, jn_eq]
      by_cases hi : 0 ≤ i ∧ i < m 310 t
      · rw [if_neg (show ¬ i < 0 by omega), chk_of (by omega), r4, if_pos hi.2, c_put ht.1 ht.2 hi.1 (by omega), bW_some, r2]
        have rg := cutF_rg (s := m 309 t) h1 h2
        generalize hz : cutF (m 309 t) v = z at *
        have e1 : bC (some ((0 : Int), z, up m (90 + t.toNat) i z)) (fun k mm => if k = 2 then some (2, mm) else if k = 3 then some (1, mm) else if k = 4 then some (3, mm) else none) (fun x1 mm => wr (up mm 312 0 x1) fun mm => some (0, mm)) = some ((0 : Int), up (up m (90 + t.toNat) i z) 312 0 z) := rfl
        refine ok_of e1 ?_
        have f309 : up (up m (90 + t.toNat) i z) 312 0 z 309 = m 309 := by rw [up_cell (by omega), up_cell (by omega)]
        have f310 : up (up m (90 + t.toNat) i z) 312 0 z 310 = m 310 := by rw [up_cell (by omega), up_cell (by omega)]
        have e2 : tryF (up (up m (90 + t.toNat) i z) 312 0 z) t = 0 := by unfold tryF at *; rw [f309]; exact e0
        unfold fX12_write
        rw [m_trayFault, bR_some]
        simp only [rd_eq, wr_eq, jn_eq, m_within, bR_some, up_same, e2]
        rw [if_pos (by decide), chk_of (by omega), up_cell (show 310 ≠ 287 by decide), f310, w32_id (x := m 310 t - 1) (by omega) (by omega), if_pos (show 0 ≤ i ∧ i ≤ m 310 t - 1 by omega), if_neg (by decide)]
        have g309 : up (up (up m (90 + t.toNat) i z) 312 0 z) 287 4 0 309 = m 309 := (up_cell (by decide)).trans f309
        rw [m_cut ht.1 ht.2 hi.1 (by omega) (by rw [g309]; exact r1.1) (by rw [g309]; exact r1.2) h1 h2, bW_some, g309, hz]
        refine ok_some ⟨?_, fun _ => ?_, ?_⟩
        · show up (up (up (up m (90 + t.toNat) i z) 312 0 z) 287 4 0) 311 (30 * t + i) z 287 4 = 0
          rw [up_cell (by decide), up_same]
        · show up (up (up (up m (90 + t.toNat) i z) 312 0 z) 287 4 0) 311 (30 * t + i) z 312 0 = z
          rw [up_cell (by decide), up_cell (by decide), up_same]
        · show Inv (c + 100) (up (up (up (up m (90 + t.toNat) i z) 312 0 z) 287 4 0) 311 (30 * t + i) z)
          refine inv_t hI c0 (fun o a b d => ?_) (fun j hj => ?_) (TrayR_fr (TrayR_put hT ht.1 ht.2 hi.1 (show i < 30 by omega) rg.1 rg.2) (fun o a => ?_))
          · rw [up_cell (by omega), up_cell b, up_cell (by omega), up_cell (by omega)]
          · rw [up_cell (by decide), up_idx hj, up_cell (by decide), up_cell (by omega)]
          · by_cases h : o = 311
            · subst h
              rw [up_row, up_row, up_cell (by decide), up_cell (by decide)]
            · rw [up_cell h, up_cell h, up_cell (by omega), up_cell (by omega)]
      · have e1 : (if i < 0 then some ((4 : Int), (0 : Int), m) else chk ((0 : Int) ≤ t ∧ t < ((4 : Nat) : Int)) (if i < m 95 t then bW (fX9_put t i v m) fun x4 mm => some (0, x4, mm) else some (4, 0, m))) = some (4, 0, m) := by
          by_cases h0 : i < 0
          · rw [if_pos h0]
          · rw [if_neg h0, chk_of (by omega), if_neg (by omega)]
        rw [e1]
        refine ok_of (a := (3, m)) rfl ?_
        unfold fX12_write fX12_fails
        rw [m_trayFault, bR_some]
        simp only [rd_eq, wr_eq, jn_eq, m_within, bR_some, up_same, e0]
        rw [if_pos (by decide), chk_of (by omega), up_cell (show 310 ≠ 287 by decide), w32_id (x := m 310 t - 1) (by omega) (by omega), if_neg (show ¬ (0 ≤ i ∧ i ≤ m 310 t - 1) by omega), if_pos rfl, bW_some]
        refine ok_some ⟨up_same (up m 287 4 0) 287 4 3, fun q => by omega, ?_⟩
        exact inv_m hI c0 (fr_up (by simp) (fr_up (by simp) fr_refl)) (fun i h => (up_idx h).trans (up_idx h))
  · rw [if_neg ht, bX_some3]
    refine ok_of (a := (1, m)) rfl ?_
    unfold fX12_write
    rw [m_trayFault, bR_some, show tryF m t = 1 by unfold tryF; rw [if_neg ht]]
    simp only [rd_eq, wr_eq, jn_eq, up_same]
    rw [if_neg (by decide)]
    exact ok_some ⟨up_same m 287 4 1, fun q => by omega, bad 1⟩
/-! tray -/
def TwoV (c : Int) (F : Mem → Option (Int × Mem)) (G : Mem → Option Mem) (m : Mem) : Prop := Ok (F m) (fun r => Ok (G r.2) (fun m2 => m2 287 4 = r.1 ∧ Inv (c + 100) m2))
theorem c_fillL {a n : Nat} {v : Int} {m : Mem} (hn : n ≤ 100000) : Ok (fJ7_fill_d0a16 a n v m) (fun m' => (∀ i : Int, 0 ≤ i → i < n → m' a i = v) ∧ (∀ i : Int, i < 0 ∨ n ≤ i → m' a i = m a i) ∧ Fr [a] m m') := by
  unfold fJ7_fill_d0a16
  simp only [rd_eq, wr_eq]
  refine lp_for (n : Int) (fun i mm => 0 ≤ i ∧ (∀ j, 0 ≤ j → j < i → mm a j = v) ∧ (∀ j, j < 0 ∨ i ≤ j → mm a j = m a j) ∧ Fr [a] m mm) ⟨by omega, fun j _ _ => by omega, fun _ _ => rfl, fr_refl⟩ (by omega) (by omega) ?_ ?_
  · rintro G i mm hi ⟨i0, h1, h2, h3⟩ ih
    rw [if_neg (by omega), chk_of (by omega), w32_id (by omega) (by omega)]
    refine ih _ ⟨by omega, fun j j0 j1 => ?_, fun j hj => ?_, fr_up (by simp) h3⟩
    · rw [up_row]
      by_cases e : j = i
      · subst e; exact ku_at _ _ _
      · rw [ku_ne e]; exact h1 j j0 (by omega)
    · rw [up_row, ku_ne (by omega)]; exact h2 j (by omega)
  · rintro G mm ⟨i0, h1, h2, h3⟩
    rw [if_pos (by omega)]
    exact ok_some ⟨h1, h2, h3⟩
theorem c_fillI {a n : Nat} {v : Int} {m : Mem} (hn : n ≤ 100000) : Ok (fJ7_fill_53178 a n v m) (fun m' => (∀ i : Int, 0 ≤ i → i < n → m' a i = v) ∧ (∀ i : Int, i < 0 ∨ n ≤ i → m' a i = m a i) ∧ Fr [a] m m') := by
  have := c_fillL (a := a) (n := n) (v := v) (m := m) hn
  unfold fJ7_fill_d0a16 at this
  unfold fJ7_fill_53178
  exact this
theorem d_tray {c t s n : Int} {m : Mem} (hI : Inv c m) (c0 : 0 ≤ c) : TwoV c (fL_tray t s n) (fX12_tray t s n) m := by
  have hT := hI.2.2.2.2.2.1
  have bad : ∀ k, k ≠ 0 → Inv (c + 100) (up m 287 4 k) := fun k _ => inv_m hI c0 (fr_up (by simp) fr_refl) (fun i h => up_idx h)
  have e : fX11_needTray t m = some (if 0 ≤ t ∧ t < 4 then 0 else 3, 0, m) := by
    unfold fX11_needTray
    simp only [jn_eq]
    by_cases ht : 0 ≤ t ∧ t < 4
    · rw [if_pos ht, if_neg (by omega), if_pos (by omega)]
    · rw [if_neg ht]
      by_cases h0 : t < 0
      · rw [if_pos h0]
      · rw [if_neg h0, if_neg (by omega)]
  have it : ∀ m1 : Mem, fX12_isTray t m1 = some (if 0 ≤ t ∧ t < 4 then 1 else 0) := fun m1 => by
    unfold fX12_isTray
    simp only [m_within, bR_some]
    by_cases ht : 0 ≤ t ∧ t < 4
    · rw [if_pos ht, if_pos (by omega), chk_of (by simp)]
    · rw [if_neg ht, if_neg (by omega), chk_of (by simp)]
  unfold TwoV fL_tray fX11_tray
  rw [e, bX_if (by decide)]
  by_cases ht : 0 ≤ t ∧ t < 4
  · rw [if_pos ht, c_needWithin, bX_if (by decide)]
    by_cases hs : 0 ≤ s ∧ s ≤ 3
    · rw [if_pos hs, c_needWithin, bX_if (by decide)]
      by_cases hn : 0 ≤ n ∧ n ≤ 30
      · rw [if_pos hn]
        have hx : Ok (bV (fX9_lay t s n m) fun mm => some ((0 : Int), (0 : Int), mm)) (fun r => r.1 = 0 ∧ r.2.2 94 = ku (m 94) t s ∧ r.2.2 95 = ku (m 95) t n ∧ (∀ i, 0 ≤ i → i < 30 → r.2.2 (90 + t.toNat) i = 0) ∧ ∀ o, o ≠ 94 → o ≠ 95 → o ≠ 90 + t.toNat → r.2.2 o = m o) := by
          unfold fX9_lay
          simp only [rdn_eq, wr_eq]
          have hc : 89 + (rTab 6).1 + (rTab 6).2 * t.toNat = 90 + t.toNat := by
            show 89 + 1 + 1 * t.toNat = _; omega
          rw [chk_of (by omega), chk_of (by omega), chk_of (by omega), hc]
          refine ok_bV (ok_bV (c_fillL (by decide)) (fun m' h => ok_some h)) ?_
          rintro m1 ⟨g1, g2, g3⟩
          refine ok_some ⟨rfl, ?_, ?_, fun i a b => g1 i a (by omega), fun o a b d => ?_⟩
          · show m1 94 = _
            rw [g3 94 (by simp; omega), up_cell (by decide), up_row]
          · show m1 95 = _
            rw [g3 95 (by simp; omega), up_row, up_cell (by decide)]
          · show m1 o = _
            rw [g3 o (by simp; omega), up_cell b, up_cell a]
        refine bC_ok hx ?_ (fun k v' m1 hk hh => absurd hh.1 hk)
        rintro v' m1 ⟨_, g1, g2, g3, g4⟩
        simp only at g1 g2 g3 g4
        refine ok_some ?_
        unfold fX12_tray
        simp only [it, rd_eq, wr_eq, jn_eq, m_within, bR_some]
        rw [if_pos ht, if_pos (by decide), if_pos hs, if_neg (by decide), if_pos hn, if_pos (by decide), up_same, if_pos (by decide), chk_of (by omega), chk_of (by omega)]
        have hb : ∀ o, o ≠ 287 → o ≠ 309 → o ≠ 310 → up (up (up m1 287 4 0) 309 t s) 310 t n o = m1 o := fun o a b d => by rw [up_cell d, up_cell b, up_cell a]
        have h287 : ∀ i, i ≠ 4 → up (up (up m1 287 4 0) 309 t s) 310 t n 287 i = m 287 i := fun i hi => by rw [up_cell (by decide), up_cell (by decide), up_idx hi, g4 287 (by decide) (by decide) (by omega)]
        have h4 : up (up (up m1 287 4 0) 309 t s) 310 t n 287 4 = 0 := by rw [up_cell (by decide), up_cell (by decide), up_same]
        have h309 : up (up (up m1 287 4 0) 309 t s) 310 t n 309 = ku (m 309) t s := by rw [up_cell (by decide), up_row, up_cell (by decide), g4 309 (by decide) (by decide) (by omega)]
        have h310 : up (up (up m1 287 4 0) 309 t s) 310 t n 310 = ku (m 310) t n := by rw [up_row, up_cell (by decide), up_cell (by decide), g4 310 (by decide) (by decide) (by omega)]
        generalize up (up (up m1 287 4 0) 309 t s) 310 t n = m2 at *
        refine lp_for 30 (fun i mm => 0 ≤ i ∧ (∀ j, 0 ≤ j → j < i → mm 311 (30 * t + j) = 0) ∧ (∀ j, (j < 30 * t ∨ 30 * t + 30 ≤ j) → mm 311 j = m 311 j) ∧ Fr [311] m2 mm) ⟨by omega, fun j _ _ => by omega, fun j _ => by rw [hb 311 (by decide) (by decide) (by decide), g4 311 (by decide) (by decide) (by omega)], fr_refl⟩ (by decide) (by decide) ?_ ?_
        · rintro G i mm hi ⟨i0, a1, a2, a3⟩ ih
          rw [if_neg (by omega), w32_id (x := 30 * t) (by omega) (by omega), w32_id (x := 30 * t + i) (by omega) (by omega), chk_of (by omega), w32_id (by omega) (by omega)]
          refine ih _ ⟨by omega, fun j j0 j1 => ?_, fun j hj => ?_, fr_up (by simp) a3⟩
          · rw [up_row]
            by_cases q : j = i
            · subst q; exact ku_at _ _ _
            · rw [ku_ne (by omega)]; exact a1 j j0 (by omega)
          · rw [up_row, ku_ne (by omega)]; exact a2 j hj
        · rintro G mm ⟨i0, a1, a2, a3⟩
          rw [if_pos (by omega)]
          have k : ∀ o, o ≠ 287 → o ≠ 309 → o ≠ 310 → o ≠ 311 → mm o = m1 o := fun o z1 z2 z3 z4 => (a3 o (by simp [z4])).trans (hb o z1 z2 z3)
          have e287 : mm 287 = m2 287 := a3 287 (by decide)
          refine ok_some ⟨by rw [e287]; exact h4, inv_t hI c0 (fun o z1 z2 z3 => by rw [k o z2 (by omega) (by omega) (by omega), g4 o (by omega) (by omega) (by omega)]) (fun i hi => by rw [e287, h287 i hi]) (fun q q0 q4 => ?_)⟩
          rw [k 95 (by decide) (by decide) (by decide) (by decide), g2, a3 309 (by decide), h309, k 94 (by decide) (by decide) (by decide) (by decide), g1, a3 310 (by decide), h310]
          by_cases hq : q = t
          · subst hq
            simp only [ku_at]
            refine .inr ⟨hs, trivial, hn, trivial, fun j j0 j30 => ?_⟩
            rw [k _ (by omega) (by omega) (by omega) (by omega), g3 j j0 j30, a1 j j0 j30]
            omega
          · simp only [ku_ne hq]
            rcases hT q q0 q4 with h | ⟨h1, h2, h3, h5, h6⟩
            · exact .inl h
            · refine .inr ⟨h1, h2, h3, h5, fun j j0 j30 => ?_⟩
              rw [k _ (by omega) (by omega) (by omega) (by omega), g4 _ (by omega) (by omega) (by omega), a2 _ (by omega)]
              exact h6 j j0 j30
      · rw [if_neg hn]
        refine ok_of (a := (2, m)) rfl ?_
        unfold fX12_tray
        simp only [it, rd_eq, wr_eq, jn_eq, m_within, bR_some]
        rw [if_pos ht, if_pos (by decide), if_pos hs, if_neg (by decide), if_neg hn, if_neg (by decide), up_same, if_neg (by decide)]
        exact ok_some ⟨up_same m 287 4 2, bad 2 (by decide)⟩
    · rw [if_neg hs]
      refine ok_of (a := (2, m)) rfl ?_
      unfold fX12_tray
      simp only [it, rd_eq, wr_eq, jn_eq, m_within, bR_some]
      rw [if_pos ht, if_pos (by decide), if_neg hs, if_pos rfl, up_same, if_neg (by decide)]
      exact ok_some ⟨up_same m 287 4 2, bad 2 (by decide)⟩
  · rw [if_neg ht]
    refine ok_of (a := (1, m)) rfl ?_
    unfold fX12_tray
    simp only [it, rd_eq, wr_eq, jn_eq, m_within, bR_some]
    rw [if_neg ht, if_neg (by decide), up_same, if_neg (by decide)]
    exact ok_some ⟨up_same m 287 4 1, bad 1 (by decide)⟩

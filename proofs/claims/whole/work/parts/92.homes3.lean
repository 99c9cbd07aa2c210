/-! ===== D72: houses, the model ===== -/
def Cg (a b : Int) : Prop := (-2147483648 ≤ a ∧ a < 2147483648) ∧ ∃ k : Int, a = b + 4294967296 * k
theorem cg_refl {a b : Int} (r : -2147483648 ≤ a ∧ a < 2147483648) (h : a = b) : Cg a b := ⟨r, 0, by omega⟩
theorem w32_cg (x : Int) : Cg (w32 x) x := by
  refine ⟨w32_rg x, ?_⟩
  unfold w32
  rw [Int.bmod_def]
  split
  · exact ⟨-(x / 4294967296), by omega⟩
  · exact ⟨-(x / 4294967296) - 1, by omega⟩
theorem cg_eq {a b : Int} (h : Cg a b) (hb : -2147483648 ≤ b ∧ b < 2147483648) : a = b := by
  obtain ⟨ha, k, hk⟩ := h
  omega
theorem m_people {K : Int → Int} {m : Mem} (hK : m 288 = K) (hI : IsV K) : fX12_people m = some (2 * K 3) := by
  have := hI.2.1
  unfold fX12_people
  simp only [rd_eq]
  rw [hK, w32_id (by omega) (by omega)]
theorem m_where0 {K : Int → Int} {p : Int} {m : Mem} (hK : m 288 = K) (p0 : 0 ≤ p) (p1 : p < 4) : fX12_whereIs (2 * p) m = some (K (13 + p)) := by
  unfold fX12_whereIs
  simp only [rd_eq, jn_eq]
  rw [tmod_e 2 (by omega), tdiv_e 2 (by omega), show 2 * p % 2 = 0 by omega, show 2 * p / 2 = p by omega, if_neg (show ¬ ¬ (0 : Int) = 0 from fun z => z rfl), w32_id (by omega) (by omega), chk_of (by omega), hK]
theorem m_where1 {K : Int → Int} {p : Int} {m : Mem} (hK : m 288 = K) (p0 : 0 ≤ p) (p1 : p < 4) : fX12_whereIs (2 * p + 1) m = some (K (17 + p)) := by
  unfold fX12_whereIs
  simp only [rd_eq, jn_eq]
  rw [tmod_e 2 (by omega), tdiv_e 2 (by omega), show (2 * p + 1) % 2 = 1 by omega, show (2 * p + 1) / 2 = p by omega, if_pos (show ¬ (1 : Int) = 0 by decide), w32_id (by omega) (by omega), chk_of (by omega), hK]
theorem m_may0 {p g : Int} {m : Mem} (p0 : 0 ≤ p) : fX12_mayHave (2 * p) g m = some (1, m) := by
  unfold fX12_mayHave
  simp only [rd_eq, jn_eq]
  rw [tmod_e 2 (by omega), show 2 * p % 2 = 0 by omega, if_pos rfl, chk_of (by simp)]
theorem m_may1 {K : Int → Int} {c p g h : Int} {m : Mem} (hK : m 288 = K) (hV : CV c K) (p0 : 0 ≤ p) (p1 : p < K 3) (g0 : 0 ≤ g) (g1 : g < K 4) (h0 : 0 ≤ h) (h1 : h < K 4) (hg : m 307 (2 * p) = g) :
    Ok (fX12_mayHave (2 * p + 1) h m) (fun r => r.1 = (if apartF (K 1) (K (29 + g)) (K (29 + h)) ≤ tetH K p then 1 else 0) ∧ Fr [293, 294] m r.2) := by
  have l3 := hV.1.2.1
  have l4 := hV.1.2.2.1
  have hw := wide_of hV.1 p0 p1
  have N25 := pl_25 hV.1
  have hgr := house_rg hV.1 g0 g1
  have hhr := house_rg hV.1 h0 h1
  have a8 := apartF_8 hw.1.1 hw.1.2 hw.2.1 hw.2.2 hgr.1 hgr.2 hhr.1 hhr.2
  unfold fX12_mayHave
  simp only [rd_eq, jn_eq]
  rw [tmod_e 2 (by omega), tdiv_e 2 (by omega), show (2 * p + 1) % 2 = 1 by omega, show (2 * p + 1) / 2 = p by omega, if_neg (by decide), m_isParted hK p0 (by omega), bR_some]
  unfold tetH
  cases htp : tb (K 21) p.toNat
  · simp only [Bool.false_eq_true, if_false]
    rw [if_neg (show ¬ ¬ True from fun z => z trivial), w32_id (x := 2 * p + 1 - 1) (by omega) (by omega), show 2 * p + 1 - 1 = 2 * p by omega, chk_of (by omega), hg, w32_id (x := 29 + g) (by omega) (by omega), chk_of (by omega), w32_id (x := 29 + h) (by omega) (by omega), chk_of (by omega), hK, m_apart hK hw.1.1 hw.1.2 hgr.1 (by omega) hhr.1 (by omega), bR_some]
    refine ok_bW (m_lengthNow hK hV.1 hV.2 p0 p1) ?_
    rintro x m' ⟨e, hF⟩
    simp only at e hF
    rw [e]
    by_cases q : apartF (K 1) (K (29 + g)) (K (29 + h)) ≤ lenF K p (K (25 + p)) (K 24)
    · rw [if_neg (by omega), chk_of (by simp), if_pos q]
      exact ok_some ⟨rfl, hF⟩
    · rw [if_pos (by omega), chk_of (by simp), if_neg q]
      exact ok_some ⟨rfl, hF⟩
  · simp only [if_true]
    rw [if_pos (show ¬ (1 : Int) = 0 by decide), chk_of (by simp), if_pos a8]
    exact ok_some ⟨rfl, fr_refl⟩
def HC : List Nat := [287, 293, 294, 307, 308]
def HG (K : Int → Int) (r : Nat) (p s f : Int) (m m' : Mem) : Prop :=
  Cg (m' 287 37) (m 287 37 + waysW K r p s) ∧ HPost K r p s f (m 287 38) (m 307) (m 308) (m' 287 38) (m' 308) ∧ (∀ i, 0 ≤ i → i < 2 * p → m' 307 i = m 307 i) ∧ (∀ i, i ≠ 37 → i ≠ 38 → m' 287 i = m 287 i) ∧ Fr HC m m'
def prL (n : Nat) (g0 h0 g h : Int) : Prop := ((0 ≤ g ∧ g < (n : Int)) ∧ (0 ≤ h ∧ h < (n : Int))) ∧ ltP g h g0 h0
theorem rowW_none {F : Int → Int} {ok : Int → Bool} : ∀ n : Nat, (∀ h : Int, 0 ≤ h → h < (n : Int) → ok h = false) → rowW F ok n = 0
  | 0, _ => rfl
  | n + 1, e => by
    show rowW F ok n + (if ok (n : Int) then F (n : Int) else 0) = 0
    rw [rowW_none n (fun h a b => e h a (by omega)), e (n : Int) (by omega) (by omega), if_neg (by simp)]; rfl
theorem sumW_s {F : Int → Int → Int} {ok : Int → Int → Bool} {n : Nat} {g : Int} (g0 : 0 ≤ g) : sumW F ok n (g + 1).toNat = sumW F ok n g.toNat + rowW (F g) (ok g) n := by
  rw [show (g + 1).toNat = g.toNat + 1 by omega]
  show sumW F ok n g.toNat + rowW (F ((g.toNat : Nat) : Int)) (ok ((g.toNat : Nat) : Int)) n = _
  rw [Int.toNat_of_nonneg g0]
theorem rowW_s {F : Int → Int} {ok : Int → Bool} {h : Int} (h0 : 0 ≤ h) : rowW F ok (h + 1).toNat = rowW F ok h.toNat + (if ok h then F h else 0) := by
  rw [show (h + 1).toNat = h.toNat + 1 by omega]
  show rowW F ok h.toNat + (if ok ((h.toNat : Nat) : Int) then F ((h.toNat : Nat) : Int) else 0) = _
  rw [Int.toNat_of_nonneg h0]
theorem m_goes {K : Int → Int} {c : Int} (hV : CV c K) : ∀ (r : Nat) (p s f : Int) (fuel d : Nat) (m : Mem), m 288 = K → 0 ≤ p → p + (r : Int) = K 3 → SetN (nH K) s → 0 ≤ f → f ≤ 16 * p → 2 * r + 1 ≤ fuel → (-2147483648 ≤ m 287 37 ∧ m 287 37 < 2147483648) → Ok (gX12_goesHousing fuel d (2 * p) s f m) (HG K r p s f m) := by
  have l3 := hV.1.2.1
  have l4 := hV.1.2.2.1
  have hn := nH_8 hV.1
  have N25 := pl_25 hV.1
  intro r
  induction r with
  | zero =>
    intro p s f fuel d m hK p0 p1 hs f0 f1 hfu hr37
    obtain ⟨n1, rfl⟩ : ∃ n1, fuel = n1 + 1 := ⟨fuel - 1, by omega⟩
    show Ok (fX12_goesHousing_F (gX12_goesHousing n1) (2 * p) s f m) _
    unfold fX12_goesHousing_F
    rw [m_people hK hV.1, bR_some, if_neg (show ¬ ¬ 2 * p = 2 * K 3 from fun z => z (by omega))]
    simp only [rd_eq, wr_eq]
    have cg0 : Cg (w32 (m 287 37 + 1)) (m 287 37 + waysW K 0 p s) := w32_cg _
    have e38 : ∀ v, up m 287 37 v 287 38 = m 287 38 := fun v => up_idx (by decide)
    rw [e38]
    by_cases hl : f < m 287 38
    · rw [if_pos hl]
      refine lp_for (2 * p) (fun i mm => 0 ≤ i ∧ (∀ j, 0 ≤ j → j < i → mm 308 j = m 307 j) ∧ mm 307 = m 307 ∧ mm 287 37 = w32 (m 287 37 + 1) ∧ mm 287 38 = f ∧ (∀ i, i ≠ 37 → i ≠ 38 → mm 287 i = m 287 i) ∧ Fr HC m mm) ⟨by omega, fun j _ _ => by omega, (up_cell (by decide)).trans (up_cell (by decide)), ?_, up_same _ _ _ _, fun i h7 h8 => by rw [up_idx h8, up_idx h7], fr_up (by decide) (fr_up (by decide) fr_refl)⟩ (by omega) (by omega) ?_ ?_
      · rw [up_idx (by decide), up_same]
      · rintro G i mm hi ⟨i0, h1, h2, h3, h4, h5, hF⟩ ih
        rw [if_neg (by omega), chk_of (by omega), chk_of (by omega), w32_id (x := i + 1) (by omega) (by omega), h2]
        refine ih _ ⟨by omega, fun j j0 j1 => ?_, (up_cell (by decide)).trans h2, by rw [up_cell (by decide)]; exact h3, by rw [up_cell (by decide)]; exact h4, fun i a b => by rw [up_cell (by decide)]; exact h5 i a b, fr_up (by decide) hF⟩
        by_cases e : j = i
        · rw [e, up_same]
        · rw [up_idx e]; exact h1 j j0 (by omega)
      · rintro G mm ⟨_, h1, h2, h3, h4, h5, hF⟩
        rw [if_pos (Int.le_refl _)]
        refine ok_some ⟨by rw [h3]; exact cg0, ⟨fun q => ?_, fun _ => ⟨by rw [h4]; show f = f + 0; omega, h1, trivial⟩⟩, fun i _ _ => congrFun h2 i, h5, hF⟩
        exact absurd (show (0 : Int) < 1000 ∧ f + 0 < m 287 38 by omega) q
    · rw [if_neg hl]
      refine ok_some ⟨by rw [up_same]; exact cg0, ⟨fun _ => ⟨e38 _, fun i _ _ => by rw [up_cell (by decide)]⟩, fun q => ?_⟩, fun i _ _ => by rw [up_cell (by decide)], fun i h7 _ => up_idx h7, fr_up (by decide) fr_refl⟩
      obtain ⟨_, q⟩ : (0 : Int) < 1000 ∧ f + 0 < m 287 38 := q
      omega
  | succ r ihr =>
    intro p s f fuel d m hK p0 p1 hs f0 f1 hfu hr37
    obtain ⟨n2, rfl⟩ : ∃ n2, fuel = n2 + 2 := ⟨fuel - 2, by omega⟩
    have hw := wide_of hV.1 p0 (by omega)
    have hS := (curV_iff.mp hV.2).1 p p0 (by omega)
    show Ok (fX12_goesHousing_F (gX12_goesHousing (n2 + 1)) (2 * p) s f m) _
    unfold fX12_goesHousing_F
    rw [m_people hK hV.1, bR_some, if_pos (show ¬ 2 * p = 2 * K 3 by omega)]
    simp only [rd_eq, wr_eq, jn_eq]
    refine lp_for (K 4) (fun g mm => 0 ≤ g ∧ Cg (mm 287 37) (m 287 37 + sumW (fun g h => waysW K r (p + 1) (sGH s g h)) (canH K p s) (nH K) g.toNat) ∧ HInv K r p s f (m 287 38) (m 307) (m 308) (prL (nH K) g 0) (mm 287 38) (mm 308) ∧ (∀ i, 0 ≤ i → i < 2 * p → mm 307 i = m 307 i) ∧ (∀ i, i ≠ 37 → i ≠ 38 → mm 287 i = m 287 i) ∧ Fr HC m mm) ⟨by omega, cg_refl hr37 (by show m 287 37 = m 287 37 + 0; omega), .inl ⟨rfl, fun _ _ _ => rfl, fun g h z => by unfold prL ltP at z; omega⟩, fun _ _ _ => rfl, fun _ _ _ => rfl, fr_refl⟩ (by omega) (by omega) ?_ ?_
    · rintro G g mm hg ⟨g0, hcg, hinv, h307, h287, hF⟩ ih
      have hK1 : mm 288 = K := (hF 288 (by decide)).trans hK
      have hgr := house_rg hV.1 g0 hg
      rw [hK1, if_neg (by omega), m_has g0 (by omega), bR_some, w32_id (x := g + 1) (by omega) (by omega)]
      cases htg : tb s g.toNat
      · rw [if_neg (by simp), m_may0 p0, bW_some, if_pos (show ¬ (1 : Int) = 0 by decide), chk_of (by omega), m_where0 ((up_cell (by decide)).trans hK1) p0 (by omega), bR_some, w32_id (x := 29 + g) (by omega) (by omega), chk_of (by omega), up_cell (show 288 ≠ 307 by decide), hK1, m_apart ((up_cell (by decide)).trans hK1) hw.1.1 hw.1.2 (by omega) (by omega) hgr.1 (by omega), bR_some, w32_id (x := 2 * p + 1) (by omega) (by omega)]
        have cr0 := cost_rg (g := g) (h := g) hV p0 (by omega) g0 hg g0 hg
        rw [w32_id (x := f + apartF (K 1) (K (13 + p)) (K (29 + g))) (by omega) (by omega)]
        refine ok_bV (P := fun m' => Cg (m' 287 37) (m 287 37 + sumW (fun g h => waysW K r (p + 1) (sGH s g h)) (canH K p s) (nH K) (g + 1).toNat) ∧ HInv K r p s f (m 287 38) (m 307) (m 308) (prL (nH K) (g + 1) 0) (m' 287 38) (m' 308) ∧ (∀ i, 0 ≤ i → i < 2 * p → m' 307 i = m 307 i) ∧ (∀ i, i ≠ 37 → i ≠ 38 → m' 287 i = m 287 i) ∧ Fr HC m m') ?_ ?_
        · show Ok (fX12_goesHousing_F (gX12_goesHousing n2) (2 * p + 1) (ior s (ishl 1 g)) (f + apartF (K 1) (K (13 + p)) (K (29 + g))) (up mm 307 (2 * p) g)) _
          have hFu : Fr HC m (up mm 307 (2 * p) g) := fr_up (by decide) hF
          have u287 : up mm 307 (2 * p) g 287 = mm 287 := up_cell (by decide)
          have u308 : up mm 307 (2 * p) g 308 = mm 308 := up_cell (by decide)
          have u307 : ∀ i, 0 ≤ i → i < 2 * p → up mm 307 (2 * p) g 307 i = m 307 i := fun i a b => by rw [up_idx (by omega)]; exact h307 i a b
          have u307' : up mm 307 (2 * p) g 307 (2 * p) = g := up_same _ _ _ _
          generalize up mm 307 (2 * p) g = m1 at *
          have hKm1 : m1 288 = K := (hFu 288 (by decide)).trans hK
          unfold fX12_goesHousing_F
          rw [m_people hKm1 hV.1, bR_some, if_pos (show ¬ 2 * p + 1 = 2 * K 3 by omega)]
          simp only [rd_eq, wr_eq, jn_eq]
          refine lp_for (K 4) (fun h m2 => 0 ≤ h ∧ Cg (m2 287 37) (m 287 37 + sumW (fun g h => waysW K r (p + 1) (sGH s g h)) (canH K p s) (nH K) g.toNat + rowW (fun h => waysW K r (p + 1) (sGH s g h)) (canH K p s g) h.toNat) ∧ HInv K r p s f (m 287 38) (m 307) (m 308) (prL (nH K) g h) (m2 287 38) (m2 308) ∧ (∀ i, 0 ≤ i → i < 2 * p → m2 307 i = m 307 i) ∧ m2 307 (2 * p) = g ∧ (∀ i, i ≠ 37 → i ≠ 38 → m2 287 i = m 287 i) ∧ Fr HC m m2) ⟨by omega, by rw [u287]; obtain ⟨hr, k, hk⟩ := hcg; exact ⟨hr, k, by show _ = _ + _ + 0 + _; omega⟩, by rw [u287, u308]; exact hinv, u307, u307', by rw [u287]; exact h287, hFu⟩ (by omega) (by omega) ?_ ?_
          · rintro G2 h m2 hh ⟨h0, hcg2, hinv2, k307, k307', k287, hF2⟩ ih2
            have hK2 : m2 288 = K := (hF2 288 (by decide)).trans hK
            have hhr := house_rg hV.1 h0 hh
            have cr := cost_rg (g := g) (h := h) hV p0 (by omega) g0 hg h0 hh
            rw [hK2, if_neg (by omega), m_has h0 (by omega), bR_some, w32_id (x := h + 1) (by omega) (by omega)]
            have tbh : tb (ior s (ishl 1 g)) h.toNat = (tb s h.toNat || decide (h.toNat = g.toNat)) := by rw [tb_or, tb_powi g0 (by omega) (by omega)]
            -- what is skipped
            have skip : ∀ m3 : Mem, canH K p s g h = false → Fr [293, 294] m2 m3 → Ok (G2 (h + 1) m3) (fun m' => Cg (m' 287 37) (m 287 37 + sumW (fun g h => waysW K r (p + 1) (sGH s g h)) (canH K p s) (nH K) (g + 1).toNat) ∧ HInv K r p s f (m 287 38) (m 307) (m 308) (prL (nH K) (g + 1) 0) (m' 287 38) (m' 308) ∧ (∀ i, 0 ≤ i → i < 2 * p → m' 307 i = m 307 i) ∧ (∀ i, i ≠ 37 → i ≠ 38 → m' 287 i = m 287 i) ∧ Fr HC m m') := by
              intro m3 hno hF3
              have e287 : m3 287 = m2 287 := hF3 287 (by decide)
              have e307 : m3 307 = m2 307 := hF3 307 (by decide)
              have e308 : m3 308 = m2 308 := hF3 308 (by decide)
              refine ih2 _ ⟨by omega, ?_, ?_, by rw [e307]; exact k307, by rw [e307]; exact k307', by rw [e287]; exact k287, fr_trans hF2 (fr_mono' hF3 (by decide))⟩
              · rw [e287, rowW_s h0, hno, if_neg (by simp)]
                obtain ⟨hr, k, hk⟩ := hcg2
                exact ⟨hr, k, by omega⟩
              · rw [e287, e308]
                refine h_skip hinv2 (fun a b z => by unfold prL ltP at z ⊢; omega) (fun a b z q => ?_)
                unfold prL ltP at z ⊢
                by_cases e : a = g ∧ b = h
                · rw [e.1, e.2, hno] at q; cases q
                · omega
            cases htk : tb (ior s (ishl 1 g)) h.toNat
            · rw [if_neg (by simp)]
              rw [htk] at tbh
              have t2 : tb s h.toNat = false ∧ ¬ h = g := by
                have := Bool.or_eq_false_iff.mp tbh.symm
                exact ⟨this.1, fun e => by have := of_decide_eq_false this.2; rw [e] at this; exact this rfl⟩
              refine ok_bW (m_may1 hK2 hV p0 (by omega) g0 hg h0 hh k307') ?_
              rintro x m3 ⟨ex, hF3⟩
              simp only at ex hF3
              have e287 : m3 287 = m2 287 := hF3 287 (by decide)
              have e307 : m3 307 = m2 307 := hF3 307 (by decide)
              have e308 : m3 308 = m2 308 := hF3 308 (by decide)
              have hK3 : m3 288 = K := (hF3 288 (by decide)).trans hK2
              by_cases hq : apartF (K 1) (K (29 + g)) (K (29 + h)) ≤ tetH K p
              · rw [if_pos hq] at ex
                have hc : canH K p s g h = true := canH_inv.mpr ⟨fun e => t2.2 e.symm, htg, t2.1, hq⟩
                rw [ex, if_pos (show ¬ (1 : Int) = 0 by decide), chk_of (by omega), m_where1 ((up_cell (by decide)).trans hK3) p0 (by omega), bR_some, w32_id (x := 29 + h) (by omega) (by omega), chk_of (by omega), up_cell (show 288 ≠ 307 by decide), hK3, m_apart ((up_cell (by decide)).trans hK3) hw.1.1 hw.1.2 (by omega) (by omega) hhr.1 (by omega), bR_some, w32_id (x := 2 * p + 1 + 1) (by omega) (by omega), w32_id (x := f + apartF (K 1) (K (13 + p)) (K (29 + g)) + apartF (K 1) (K (17 + p)) (K (29 + h))) (by omega) (by omega)]
                have i0 := ihr (p + 1) (sGH s g h) (f + costH K p g h) n2 0 (up m3 307 (2 * p + 1) h) ((up_cell (by decide)).trans hK3) (by omega) (by omega) (setN_gh hn.1 hs g0 (by omega) h0 (by omega)) (by unfold costH; omega) (by unfold costH; omega) (by omega) (by rw [up_cell (by decide), e287]; exact hcg2.1)
                rw [show f + costH K p g h = f + apartF (K 1) (K (13 + p)) (K (29 + g)) + apartF (K 1) (K (17 + p)) (K (29 + h)) by unfold costH; omega, show 2 * (p + 1) = 2 * p + 1 + 1 by omega] at i0
                have v287 : up m3 307 (2 * p + 1) h 287 = m2 287 := (up_cell (by decide)).trans e287
                have v308 : up m3 307 (2 * p + 1) h 308 = m2 308 := (up_cell (by decide)).trans e308
                have v307 : ∀ i, 0 ≤ i → i < 2 * p → up m3 307 (2 * p + 1) h 307 i = m 307 i := fun i a b => by rw [up_idx (by omega), e307]; exact k307 i a b
                have v307a : up m3 307 (2 * p + 1) h 307 (2 * p) = g := by rw [up_idx (by omega), e307]; exact k307'
                have v307b : up m3 307 (2 * p + 1) h 307 (2 * p + 1) = h := up_same _ _ _ _
                have vF : Fr HC m (up m3 307 (2 * p + 1) h) := fr_up (by decide) (fr_trans hF2 (fr_mono' hF3 (by decide)))
                generalize up m3 307 (2 * p + 1) h = m4 at *
                refine ok_bV i0 ?_
                rintro m5 ⟨j1, j2, j3, j4, j5⟩
                rw [v287] at j1 j2 j4
                rw [v308] at j2
                refine ih2 _ ⟨by omega, ?_, ?_, fun i a b => (j3 i a (by omega)).trans (v307 i a b), (j3 _ (by omega) (by omega)).trans v307a, fun i a b => (j4 i a b).trans (k287 i a b), fr_trans vF j5⟩
                · rw [rowW_s h0, hc, if_pos rfl]
                  obtain ⟨hr, k, hk⟩ := hcg2
                  obtain ⟨hr', k', hk'⟩ := j1
                  exact ⟨hr', k + k', by omega⟩
                · rw [show f + apartF (K 1) (K (13 + p)) (K (29 + g)) + apartF (K 1) (K (17 + p)) (K (29 + h)) = f + costH K p g h by unfold costH; omega] at j2
                  refine h_go p0 (by omega) hinv2 hc (fun a b z => z.2) (fun a b z => by unfold prL ltP at z ⊢; omega) (by unfold prL ltP; omega) (fun a b z => ?_) v307 v307a v307b j2
                  unfold prL ltP at z ⊢
                  by_cases e : a = g ∧ b = h
                  · exact .inr e
                  · exact .inl (by omega)
              · rw [if_neg hq] at ex
                rw [ex, if_neg (show ¬ ¬ (0 : Int) = 0 from fun z => z rfl)]
                refine skip m3 ?_ hF3
                cases z : canH K p s g h
                · rfl
                · exact absurd (canH_inv.mp z).2.2.2 hq
            · rw [if_pos (by simp)]
              refine skip m2 ?_ fr_refl
              rw [htk] at tbh
              cases z : canH K p s g h
              · rfl
              · have := canH_inv.mp z
                rw [this.2.2.1, Bool.false_or] at tbh
                have := of_decide_eq_true tbh.symm
                omega
          · rintro G2 m2 ⟨_, hcg2, hinv2, k307, k307', k287, hF2⟩
            have hK2 : m2 288 = K := (hF2 288 (by decide)).trans hK
            rw [hK2, if_pos (Int.le_refl _)]
            refine ok_some ⟨?_, ?_, k307, k287, hF2⟩
            · rw [sumW_s g0]
              obtain ⟨hr, k, hk⟩ := hcg2
              exact ⟨hr, k, by rw [hk, show (K 4).toNat = nH K from rfl]; omega⟩
            · refine h_skip hinv2 (fun a b z => by unfold prL ltP at z ⊢; omega) (fun a b z _ => by unfold prL ltP at z ⊢; omega)
        · rintro m' ⟨j1, j2, j3, j4, j5⟩
          exact ih _ ⟨by omega, j1, j2, j3, j4, j5⟩
      · rw [if_pos (by simp)]
        have no : ∀ h, canH K p s g h = false := fun h => by
          cases z : canH K p s g h
          · rfl
          · rw [(canH_inv.mp z).2.1] at htg; cases htg
        refine ih _ ⟨by omega, ?_, ?_, h307, h287, hF⟩
        · rw [sumW_s g0, rowW_none (nH K) (fun h _ _ => no h)]
          obtain ⟨hr, k, hk⟩ := hcg
          exact ⟨hr, k, by omega⟩
        · refine h_skip hinv (fun a b z => by unfold prL ltP at z ⊢; omega) (fun a b z q => ?_)
          unfold prL ltP at z ⊢
          by_cases e : a = g
          · rw [e, no] at q; cases q
          · omega
    · rintro G mm ⟨_, hcg, hinv, h307, h287, hF⟩
      have hK1 : mm 288 = K := (hF 288 (by decide)).trans hK
      rw [hK1, if_pos (Int.le_refl _)]
      refine ok_some ⟨hcg, h_end hV p0 (by omega) hinv (fun a b => ?_), h307, h287, hF⟩
      unfold prL ltP
      omega

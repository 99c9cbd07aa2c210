/-! ===== D27: the model's table of where both can be ===== -/
def entF (K : Int → Int) (p n who j t : Int) : Int :=
  if 0 ≤ j ∧ j < K 1 * K 2 then (if t = 0 then j else if besF (K 1) (K 2) j t = -1 then -1 else if mayF K p who (besF (K 1) (K 2) j t) (K 24 + n) then besF (K 1) (K 2) j t else -1) else -1
def ropeF (K : Int → Int) (p rope : Int) (tied : Bool) (n : Int) : Int := if tied then lenF K p rope (K 24 + n) else 536870912
def LaidR (K : Int → Int) (p rope : Int) (tied : Bool) (m : Mem) : Prop :=
  (∀ n, 1 ≤ n → n ≤ 40 → m 296 n = ropeF K p rope tied n ∧ ∀ i, 0 ≤ i → i < 250 → m 299 (250 * n + i) = entF K p n (i / 125) (i / 5 % 25) (i % 5)) ∧
  ∀ i, 0 ≤ i → i < 625 → m 300 i = apartF (K 1) (i / 25) (i % 25)
def LC : List Nat := [293, 294, 296, 297, 299, 300]
theorem m_laysSteps {K : Int → Int} {c p n : Int} {m : Mem} (hK : m 288 = K) (hV : CV c K) (p0 : 0 ≤ p) (p1 : p < K 3) (n1 : 1 ≤ n) (n40 : n ≤ 40)
    (hm : ∀ i, 0 ≤ i → i < 50 → m 297 i = if (i % 25 < K 1 * K 2) ∧ mayF K p (i / 25) (i % 25) (K 24 + n) = true then 1 else 0) :
    Ok (fX12_laysSteps n m) (fun m' => (∀ i, 0 ≤ i → i < 250 → m' 299 (250 * n + i) = entF K p n (i / 125) (i / 5 % 25) (i % 5)) ∧ (∀ i, i < 250 * n ∨ 250 * n + 250 ≤ i → m' 299 i = m 299 i) ∧ Fr [299] m m') := by
  have hw := wide_of hV.1 p0 p1
  have ar := area_le hw.1.1 hw.1.2 hw.2.1 hw.2.2
  unfold fX12_laysSteps
  simp only [rd_eq, wr_eq]
  refine lp_for 250 (fun i mm => 0 ≤ i ∧ (∀ j, 0 ≤ j → j < i → mm 299 (250 * n + j) = entF K p n (j / 125) (j / 5 % 25) (j % 5)) ∧ (∀ j, j < 250 * n ∨ 250 * n + 250 ≤ j → mm 299 j = m 299 j) ∧ Fr [299] m mm) ⟨by omega, fun j _ _ => by omega, fun _ _ => rfl, fr_refl⟩ (by decide) (by decide) ?_ ?_
  · rintro G i mm hi ⟨i0, h1, h2, h3⟩ ih
    have hK' : mm 288 = K := (h3 288 (by decide)).trans hK
    rw [if_neg (by omega), tdiv_e 5 i0, tmod_e 25 (show 0 ≤ i / 5 by omega), tmod_e 5 i0, tdiv_e 125 i0, m_isPlace hK' hV.1, bR_some, w32_id (x := 250 * n) (by omega) (by omega), w32_id (x := 250 * n + i) (by omega) (by omega), w32_id (x := i + 1) (by omega) (by omega)]
    simp only [jn_eq]
    have next : ∀ v, v = entF K p n (i / 125) (i / 5 % 25) (i % 5) → Ok (chk ((0 : Int) ≤ 250 * n + i ∧ 250 * n + i < ((10250 : Nat) : Int)) (G (i + 1) (up mm 299 (250 * n + i) v))) (fun m' => (∀ i, 0 ≤ i → i < 250 → m' 299 (250 * n + i) = entF K p n (i / 125) (i / 5 % 25) (i % 5)) ∧ (∀ i, i < 250 * n ∨ 250 * n + 250 ≤ i → m' 299 i = m 299 i) ∧ Fr [299] m m') := by
      intro v hv
      rw [chk_of (by omega)]
      refine ih _ ⟨by omega, fun j j0 j1 => ?_, fun j hj => ?_, fr_up (by simp) h3⟩
      · rw [up_row]
        by_cases e : j = i
        · subst e; rw [ku_at]; exact hv
        · rw [ku_ne (by omega)]; exact h1 j j0 (by omega)
      · rw [up_row, ku_ne (by omega)]; exact h2 j hj
    by_cases hp : 0 ≤ i / 5 % 25 ∧ i / 5 % 25 < K 1 * K 2
    · rw [if_pos hp, if_neg (by decide), m_turned hK' hw.1.1 hw.1.2 hw.2.1 hw.2.2 hp.1 hp.2 (by omega) (by omega), bR_some]
      have hb := besF_rg (t := i % 5) hw.1.1 hw.1.2 hw.2.1 hw.2.2 hp.1 hp.2
      by_cases ht : i % 5 = 0
      · rw [if_pos ht]
        refine next _ ?_
        unfold entF
        rw [if_pos hp, if_pos ht, ht]; rfl
      · rw [if_neg ht]
        by_cases hb1 : besF (K 1) (K 2) (i / 5 % 25) (i % 5) = -1
        · rw [if_pos hb1]
          refine next _ ?_
          unfold entF
          rw [if_pos hp, if_neg ht, if_pos hb1]
        · rw [if_neg hb1]
          generalize hbe : besF (K 1) (K 2) (i / 5 % 25) (i % 5) = b at *
          rw [w32_id (x := i / 125 * 25) (by omega) (by omega), w32_id (x := i / 125 * 25 + b) (by omega) (by omega), chk_of (by omega), h3 297 (by decide), hm _ (by omega) (by omega)]
          rw [show (i / 125 * 25 + b) % 25 = b by omega, show (i / 125 * 25 + b) / 25 = i / 125 by omega]
          have ee : entF K p n (i / 125) (i / 5 % 25) (i % 5) = if mayF K p (i / 125) b (K 24 + n) then b else -1 := by
            unfold entF
            rw [hbe, if_pos hp, if_neg ht, if_neg hb1]
          by_cases hmf : mayF K p (i / 125) b (K 24 + n) = true
          · rw [if_pos (c := _ ∧ _) ⟨by omega, hmf⟩, if_neg (by decide)]
            exact next _ (by rw [ee, if_pos hmf])
          · rw [if_neg (c := _ ∧ _) (fun q => hmf q.2), if_pos rfl]
            exact next _ (by rw [ee, if_neg hmf])
    · rw [if_neg hp, if_pos rfl]
      have ee : entF K p n (i / 125) (i / 5 % 25) (i % 5) = -1 := by unfold entF; rw [if_neg hp]
      by_cases ht : i % 5 = 0
      · rw [if_pos ht]; exact next _ ee.symm
      · rw [if_neg ht, if_pos trivial]; exact next _ ee.symm
  · rintro G mm ⟨_, h1, h2, h3⟩
    rw [if_pos (by omega)]
    exact ok_some ⟨h1, h2, h3⟩
theorem m_laysHours {K : Int → Int} {c p rope rocks : Int} {tied : Bool} {m : Mem} (hK : m 288 = K) (hP : PairV c K p rope) :
    Ok (fX12_laysHours p rope rocks (if tied then 1 else 0) m) (fun m' => LaidR K p rope tied m' ∧ m' 287 28 = rocks ∧ (∀ i, i ≠ 28 → m' 287 i = m 287 i) ∧ Fr (287 :: LC) m m') := by
  obtain ⟨hV, c1, ⟨p0, p1⟩, ⟨r0, r1⟩⟩ := hP
  have hw := wide_of hV.1 p0 p1
  have ar := area_le hw.1.1 hw.1.2 hw.2.1 hw.2.2
  have hh := (curV_iff.mp hV.2).2.2.2.2
  unfold fX12_laysHours
  simp only [wr_eq, rd_eq]
  have g28 : up m 287 28 rocks 287 28 = rocks := up_same _ _ _ _
  have g287 : ∀ i, i ≠ 28 → up m 287 28 rocks 287 i = m 287 i := fun i hi => up_idx hi
  have F0 : Fr [287] m (up m 287 28 rocks) := fr_up (by simp) fr_refl
  have hK0 : up m 287 28 rocks 288 = K := (F0 288 (by decide)).trans hK
  generalize up m 287 28 rocks = m0 at *
  refine lp_ok (fun (n : Int) (mm : Mem) => (1 ≤ n ∧ n ≤ 41) ∧ (∀ j, 1 ≤ j → j < n → mm 296 j = ropeF K p rope tied j ∧ ∀ i, 0 ≤ i → i < 250 → mm 299 (250 * j + i) = entF K p j (i / 125) (i / 5 % 25) (i % 5)) ∧ Fr LC m0 mm) (fun n _ => (41 - n).toNat) ⟨by omega, fun j _ _ => by omega, fr_refl⟩ (by decide) ?_
  rintro G n mm ⟨⟨n1, n41⟩, hL, hF⟩ ih
  have hK' : mm 288 = K := (hF 288 (by decide)).trans hK0
  by_cases hx : n = 41
  · subst hx
    rw [if_pos (by decide)]
    refine lp_for 625 (fun i q => 0 ≤ i ∧ (∀ j, 0 ≤ j → j < i → q 300 j = apartF (K 1) (j / 25) (j % 25)) ∧ Fr [300] mm q) ⟨by omega, fun j _ _ => by omega, fr_refl⟩ (by decide) (by decide) ?_ ?_
    · rintro G2 i q hi ⟨i0, h1, h2⟩ ih2
      have hK2 : q 288 = K := (h2 288 (by decide)).trans hK'
      rw [if_neg (by omega), tdiv_e 25 i0, tmod_e 25 i0, m_apart hK2 hw.1.1 hw.1.2 (by omega) (by omega) (by omega) (by omega), bR_some, chk_of (by omega), w32_id (by omega) (by omega)]
      refine ih2 _ ⟨by omega, fun j j0 j1 => ?_, fr_up (by simp) h2⟩
      rw [up_row]
      by_cases e : j = i
      · subst e; exact ku_at _ _ _
      · rw [ku_ne e]; exact h1 j j0 (by omega)
    · rintro G2 q ⟨_, h1, h2⟩
      rw [if_pos (by omega)]
      refine ok_some ⟨⟨fun j j1 j40 => ?_, fun i a b => h1 i a b⟩, ?_, fun i hi => ?_, fr_trans (fr_mono' F0 (by decide)) (fr_trans (fr_mono' hF (by decide)) (fr_mono' h2 (by decide)))⟩
      · rw [h2 296 (by decide), h2 299 (by decide)]; exact hL j j1 (by omega)
      · rw [h2 287 (by decide), hF 287 (by decide)]; exact g28
      · rw [h2 287 (by decide), hF 287 (by decide)]; exact g287 i hi
  · rw [if_neg (by omega)]
    simp only [jn_eq]
    have body : ∀ (v : Int) (m1 : Mem), v = ropeF K p rope tied n → Fr [293, 294] mm m1 → Ok (chk ((0 : Int) ≤ n ∧ n < ((41 : Nat) : Int)) (lp BIG (fun K9 (t8 : Int) mm => (if 50 ≤ t8 then bV (fX12_laysSteps n mm) fun mm => G (w32 (n + 1)) mm else bR (fX12_isPlace (Int.tmod t8 25) mm) fun x10 => (if x10 = 0 then chk ((0 : Int) ≤ t8 ∧ t8 < ((50 : Nat) : Int) ∧ (True ∨ (0 : Int) = 1)) (K9 (w32 (t8 + 1)) (up mm 297 t8 0)) else bW (fX12_mayGo p (Int.tdiv t8 25) (Int.tmod t8 25) (w32 (mm 288 24 + n)) mm) fun x16 mm => (if x16 = 0 then chk ((0 : Int) ≤ t8 ∧ t8 < ((50 : Nat) : Int) ∧ (True ∨ (0 : Int) = 1)) (K9 (w32 (t8 + 1)) (up mm 297 t8 0)) else chk ((0 : Int) ≤ t8 ∧ t8 < ((50 : Nat) : Int) ∧ ((1 : Int) = 0 ∨ True)) (K9 (w32 (t8 + 1)) (up mm 297 t8 1)))))) 0 (up m1 296 n v))) (fun m' => LaidR K p rope tied m' ∧ m' 287 28 = rocks ∧ (∀ i, i ≠ 28 → m' 287 i = m 287 i) ∧ Fr (287 :: LC) m m') := by
      intro v m1 hv hf
      rw [chk_of (by omega)]
      have F1 : Fr [293, 294, 296] mm (up m1 296 n v) := fr_up (by simp) (fr_mono' hf (by decide))
      have hr : up m1 296 n v 296 = ku (mm 296) n v := by rw [up_row, hf 296 (by decide)]
      generalize up m1 296 n v = m2 at *
      refine lp_for 50 (fun i q => 0 ≤ i ∧ (∀ j, 0 ≤ j → j < i → q 297 j = if (j % 25 < K 1 * K 2) ∧ mayF K p (j / 25) (j % 25) (K 24 + n) = true then 1 else 0) ∧ Fr [293, 294, 297] m2 q) ⟨by omega, fun j _ _ => by omega, fr_refl⟩ (by decide) (by decide) ?_ ?_
      · rintro G2 i q hi ⟨i0, h1, h2⟩ ih2
        have hK2 : q 288 = K := by rw [h2 288 (by decide), F1 288 (by decide), hK']
        rw [if_neg (by omega), tmod_e 25 i0, tdiv_e 25 i0, m_isPlace hK2 hV.1, bR_some, w32_id (x := i + 1) (by omega) (by omega)]
        have next : ∀ (z : Int) (m3 : Mem), z = (if (i % 25 < K 1 * K 2) ∧ mayF K p (i / 25) (i % 25) (K 24 + n) = true then 1 else 0) → Fr [293, 294] q m3 → Ok (G2 (i + 1) (up m3 297 i z)) (fun m' => LaidR K p rope tied m' ∧ m' 287 28 = rocks ∧ (∀ i, i ≠ 28 → m' 287 i = m 287 i) ∧ Fr (287 :: LC) m m') := by
          intro z m3 hz hf3
          refine ih2 _ ⟨by omega, fun j j0 j1 => ?_, fr_up (by simp) (fr_trans h2 (fr_mono' hf3 (by decide)))⟩
          rw [up_row]
          by_cases e : j = i
          · subst e; rw [ku_at]; exact hz
          · rw [ku_ne e, hf3 297 (by decide)]; exact h1 j j0 (by omega)
        by_cases hp : 0 ≤ i % 25 ∧ i % 25 < K 1 * K 2
        · rw [if_pos hp, if_neg (by decide), hK2, w32_id (by omega) (by omega)]
          refine ok_bW (m_mayGo hK2 hV.1 hV.2 p0 p1 (show 0 ≤ i / 25 by omega) (by omega) (by omega) hp.1 (by omega)) ?_
          rintro x m3 ⟨ex, hf3⟩
          simp only at ex hf3
          cases hmf : mayF K p (i / 25) (i % 25) (K 24 + n)
          · rw [hmf, if_neg (by decide)] at ex
            rw [if_pos ex, chk_of (by simp; omega)]
            exact next 0 m3 (by rw [if_neg (fun q => by rw [hmf] at q; exact Bool.noConfusion q.2)]) hf3
          · rw [hmf, if_pos rfl] at ex
            rw [if_neg (by omega), chk_of (by simp; omega)]
            exact next 1 m3 (by rw [if_pos ⟨hp.2, hmf⟩]) hf3
        · rw [if_neg hp, if_pos rfl, chk_of (by simp; omega)]
          exact next 0 q (by rw [if_neg (fun z => hp ⟨by omega, z.1⟩)]) fr_refl
      · rintro G2 q ⟨_, h1, h2⟩
        have hK2 : q 288 = K := by rw [h2 288 (by decide), F1 288 (by decide), hK']
        rw [if_pos (by omega)]
        refine ok_bV (m_laysSteps hK2 hV p0 p1 n1 (by omega) (fun i a b => h1 i a b)) ?_
        rintro m4 ⟨s1, s2, s3⟩
        rw [w32_id (by omega) (by omega)]
        refine ih _ m4 ⟨by omega, fun j j1 jn => ?_, fr_trans hF (fr_trans (fr_mono' F1 (by decide)) (fr_trans (fr_mono' h2 (by decide)) (fr_mono' s3 (by decide))))⟩ (by show (41 - (n + 1)).toNat < (41 - n).toNat; omega)
        rw [s3 296 (by decide), h2 296 (by decide), hr]
        by_cases e : j = n
        · subst e; rw [ku_at]; exact ⟨hv, s1⟩
        · rw [ku_ne e]
          refine ⟨(hL j j1 (by omega)).1, fun i i0 i1 => ?_⟩
          rw [s2 _ (by omega), h2 299 (by decide), F1 299 (by decide)]
          exact (hL j j1 (by omega)).2 i i0 i1
    cases htd : tied
    · subst htd
      rw [if_pos (show (if false = true then (1 : Int) else 0) = 0 from rfl)]
      exact body 536870912 mm rfl fr_refl
    · subst htd
      rw [if_neg (show ¬ (if true = true then (1 : Int) else 0) = 0 by decide), hK', w32_id (x := K 24 + n) (by omega) (by omega)]
      refine ok_bW (m_lengthIn hK' hV.1 hV.2 p0 p1 r0 r1 (by omega)) ?_
      rintro x m1 ⟨ex, hf⟩
      simp only at ex hf
      exact body x m1 (ex.trans rfl) hf

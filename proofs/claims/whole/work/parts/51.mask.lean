/-! ===== D31: the model's side of what is asked of the hours ===== -/
theorem m_laysOwn {K : Int → Int} {c p : Int} {m : Mem} (hK : m 288 = K) (hV : CV c K) (c1 : c ≤ 1000000) (p0 : 0 ≤ p) (p1 : p < K 3) :
    Ok (fX12_laysOwn p m) (fun m' => LaidR K p (K (25 + p)) (tied0 K p) m' ∧ m' 287 28 = K 8 ∧ (∀ i, i ≠ 28 → m' 287 i = m 287 i) ∧ Fr (287 :: LC) m m') := by
  have l3 := hV.1.2.1
  unfold fX12_laysOwn
  simp only [rd_eq, jn_eq, hK]
  rw [w32_id (x := 25 + p) (by omega) (by omega), chk_of (by omega), m_isParted hK p0 (by omega), bR_some]
  have go : ∀ t : Bool, t = tied0 K p → Ok (bV (fX12_laysHours p (K (25 + p)) (K 8) (if t then 1 else 0) m) fun mm => some mm) (fun m' => LaidR K p (K (25 + p)) (tied0 K p) m' ∧ m' 287 28 = K 8 ∧ (∀ i, i ≠ 28 → m' 287 i = m 287 i) ∧ Fr (287 :: LC) m m') := by
    intro t ht
    refine ok_bV (m_laysHours (rocks := K 8) hK (own_pair hV c1 p0 p1)) ?_
    rintro m' h
    rw [ht] at h
    exact ok_some h
  cases htb : tb (K 21) p.toNat
  · rw [if_neg (by simp)]
    exact go true (by simp [tied0, htb])
  · rw [if_pos (by simp)]
    exact go false (by simp [tied0, htb])
theorem can_rch {K : Int → Int} {p rope rocks j k : Int} {tied : Bool} {n : Nat} (k0 : 0 ≤ k) (k1 : k < 25) : canS K p rope tied rocks n (25 * j + k) ↔ rchP K p rope tied rocks n j k.toNat := by
  unfold canS
  rw [show (25 * j + k) / 25 = j by omega, show (25 * j + k) % 25 = k by omega]
theorem m_wayOf {K : Int → Int} {c p rope rocks j k : Int} {tied : Bool} {m : Mem} (hK : m 288 = K) (hP : PairV c K p rope) (hL : LaidR K p rope tied m) (hr : m 287 28 = rocks) (j0 : 0 ≤ j) (j1 : j < K 1 * K 2) (k0 : 0 ≤ k) (k1 : k < K 1 * K 2) :
    Ok (fX12_wayOf p j k m) (fun r => FirstH (fun h => rchP K p rope tied rocks h j k.toNat) r.1 ∧ (∀ n : Nat, n ≤ 40 → RowC r.2 n (canS K p rope tied rocks n)) ∧ Fr [298] m r.2) := by
  have ar := area_rg hP.1.1
  unfold fX12_wayOf
  refine ok_bV (m_laysCan (u := 40) hK hP hL hr (by decide)) ?_
  rintro m1 ⟨a1, a2⟩
  simp only [rd_eq]
  refine lp_ok (fun (i : Int) (mm : Mem) => mm = m1 ∧ ∃ h : Nat, i = (h : Int) ∧ h ≤ 41 ∧ ∀ h', h' < h → ¬ rchP K p rope tied rocks h' j k.toNat) (fun i _ => (41 - i).toNat) ⟨rfl, 0, rfl, by omega, fun _ z => by omega⟩ (by decide) ?_
  rintro G i mm ⟨rfl, h, rfl, h41, hn⟩ ih
  by_cases hx : h = 41
  · subst hx
    rw [if_pos (by omega)]
    exact ok_some ⟨.inr ⟨rfl, fun h' z => hn h' (by omega)⟩, a1, a2⟩
  · rw [if_neg (by omega), w32_id (x := 625 * (h : Int)) (by omega) (by omega), w32_id (x := 25 * j) (by omega) (by omega), w32_id (x := 625 * (h : Int) + 25 * j) (by omega) (by omega), w32_id (x := 625 * (h : Int) + 25 * j + k) (by omega) (by omega), chk_of (by omega), show 625 * (h : Int) + 25 * j + k = 625 * h + (25 * j + k) by omega]
    have row := a1 h (by omega) (25 * j + k) (by omega) (by omega)
    rw [can_rch k0 (by omega)] at row
    by_cases hz : mm 298 (625 * (h : Int) + (25 * j + k)) = 0
    · rw [if_pos hz, w32_id (by omega) (by omega)]
      refine ih _ mm ⟨rfl, h + 1, by omega, by omega, fun h' hh => ?_⟩ (by show (41 - ((h : Int) + 1)).toNat < (41 - (h : Int)).toNat; omega)
      by_cases e : h' = h
      · subst e; intro q; have := row.2.mpr q; omega
      · exact hn h' (by omega)
    · rw [if_neg hz]
      exact ok_some ⟨.inl ⟨h, by omega, rfl, row.2.mp (by have := row.1; omega), hn⟩, a1, a2⟩
theorem m_isSome {K : Int → Int} {c p rope rocks : Int} {tied : Bool} {n : Nat} {m : Mem} (hP : PairV c K p rope) (n40 : n ≤ 40) (hrow : RowC m n (canS K p rope tied rocks n)) :
    ∃ x, fX12_isSome n m = some x ∧ (x = 0 ∨ x = 1) ∧ (x = 1 ↔ ∃ j k, rchP K p rope tied rocks n j k) := by
  have ar := area_rg hP.1.1
  have key : Ok (fX12_isSome n m) (fun x => (x = 0 ∨ x = 1) ∧ (x = 1 ↔ ∃ j k, rchP K p rope tied rocks n j k)) := by
    unfold fX12_isSome
    simp only [rd_eq]
    refine lp_for 625 (fun i mm => mm = m ∧ 0 ≤ i ∧ ∀ b, 0 ≤ b → b < i → ¬ canS K p rope tied rocks n b) ⟨rfl, by omega, fun b _ _ => by omega⟩ (by decide) (by decide) ?_ ?_
    · rintro G i mm hi ⟨rfl, i0, hn⟩ ih
      have row := hrow i i0 hi
      rw [if_neg (by omega), w32_id (x := 625 * (n : Int)) (by omega) (by omega), w32_id (x := 625 * (n : Int) + i) (by omega) (by omega), chk_of (by omega)]
      by_cases hz : mm 298 (625 * (n : Int) + i) = 0
      · rw [if_pos hz, w32_id (by omega) (by omega)]
        refine ih mm ⟨rfl, by omega, fun b b0 b1 => ?_⟩
        by_cases e : b = i
        · subst e; intro q; have := row.2.mpr q; omega
        · exact hn b b0 (by omega)
      · rw [if_neg hz]
        exact ok_some ⟨.inr rfl, fun _ => ⟨_, _, row.2.mp (by have := row.1; omega)⟩, fun _ => rfl⟩
    · rintro G mm ⟨rfl, i0, hn⟩
      rw [if_pos (by omega)]
      refine ok_some ⟨.inl rfl, fun q => by omega, fun ⟨j, k, q⟩ => ?_⟩
      have rg := rch_rg hP.1 hP.2.2.1.1 hP.2.2.1.2 _ _ _ q
      exact absurd ((can_rch (show 0 ≤ (k : Int) by omega) (by omega)).mpr (by rw [Int.toNat_natCast]; exact q)) (hn (25 * j + k) (by omega) (by omega))
  exact key
theorem m_togetherIn {K : Int → Int} {c p rope rocks : Int} {tied : Bool} {n : Nat} {m : Mem} (hP : PairV c K p rope) (n40 : n ≤ 40) (hrow : RowC m n (canS K p rope tied rocks n)) :
    ∃ y, fX12_togetherIn n m = some y ∧ Bits y (fun i => rchP K p rope tied rocks n i i) := by
  have ar := area_rg hP.1.1
  have key : Ok (fX12_togetherIn n m) (fun y => Bits y (fun i => rchP K p rope tied rocks n i i)) := by
    unfold fX12_togetherIn
    simp only [rd_eq, jn_eq]
    refine lp_for2 25 (fun t i mm => mm = m ∧ 0 ≤ i ∧ Bits t (fun z => (z : Int) < i ∧ rchP K p rope tied rocks n z z)) ⟨rfl, by omega, bits_zero (fun z _ q => by omega)⟩ (by decide) (by decide) ?_ ?_
    · rintro G t i mm hi ⟨rfl, i0, hb⟩ ih
      have row := hrow (25 * i + i) (by omega) (by omega)
      rw [can_rch i0 (by omega)] at row
      rw [if_neg (by omega), w32_id (x := 625 * (n : Int)) (by omega) (by omega), w32_id (x := 25 * i) (by omega) (by omega), w32_id (x := 625 * (n : Int) + 25 * i) (by omega) (by omega), w32_id (x := 625 * (n : Int) + 25 * i + i) (by omega) (by omega), chk_of (by omega), show 625 * (n : Int) + 25 * i + i = 625 * n + (25 * i + i) by omega, w32_id (x := i + 1) (by omega) (by omega)]
      have en : ((i.toNat : Nat) : Int) = i := Int.toNat_of_nonneg i0
      by_cases hz : mm 298 (625 * (n : Int) + (25 * i + i)) = 0
      · rw [if_pos hz, ior_zero hb.1]
        refine ih _ mm ⟨rfl, by omega, bits_imp hb (fun z _ => ⟨fun ⟨a, b⟩ => ⟨by omega, b⟩, fun ⟨a, b⟩ => ⟨?_, b⟩⟩)⟩
        by_cases e : (z : Int) = i
        · rw [e, show z = i.toNat by omega] at b
          have := row.2.mpr b; omega
        · omega
      · rw [if_neg hz]
        have hyes := row.2.mp (by have := row.1; omega)
        refine ih _ mm ⟨rfl, by omega, bits_imp (bits_or hb i0 (by omega)) (fun z _ => ⟨?_, ?_⟩)⟩
        · rintro (⟨a, b⟩ | a)
          · exact ⟨by omega, b⟩
          · subst a; rw [en]; exact ⟨by omega, hyes⟩
        · rintro ⟨a, b⟩
          by_cases e : (z : Int) = i
          · exact .inr (by omega)
          · exact .inl ⟨by omega, b⟩
    · rintro G t mm ⟨rfl, i0, hb⟩
      rw [if_pos (by omega)]
      exact ok_some (bits_imp hb (fun z _ => ⟨fun ⟨_, b⟩ => b, fun b => ⟨by have := (rch_rg hP.1 hP.2.2.1.1 hP.2.2.1.2 _ _ _ b).1.2; omega, b⟩⟩))
  exact key
theorem m_aloneOf {K : Int → Int} {c p rope rocks who k : Int} {tied : Bool} {m : Mem} (hK : m 288 = K) (hP : PairV c K p rope) (hL : LaidR K p rope tied m) (hr : m 287 28 = rocks) (q0 : 0 ≤ who) (q1 : who ≤ 1) (k0 : 0 ≤ k) (k1 : k < K 1 * K 2) :
    Ok (fX12_aloneOf p who k m) (fun r => FirstH (fun h => whereP K p rope tied rocks who h k.toNat) r.1 ∧ Fr [298] m r.2) := by
  have ar := area_rg hP.1.1
  unfold fX12_aloneOf
  refine ok_bV (m_laysCan (u := 40) hK hP hL hr (by decide)) ?_
  rintro m1 ⟨a1, a2⟩
  simp only [rd_eq, jn_eq]
  -- where the one of the pair is
  have wr' : ∀ (h : Nat) (b : Int), 0 ≤ b → b < 625 → canS K p rope tied rocks h b → (if who = 0 then b / 25 else b % 25) = k → whereP K p rope tied rocks who h k.toNat := by
    intro h b b0 b1 hc e
    unfold canS at hc
    unfold whereP
    by_cases hw : who = 0
    · rw [if_pos hw] at e
      rw [if_neg (by omega), Int.toNat_of_nonneg k0, ← e]
      exact ⟨_, hc⟩
    · rw [if_neg hw] at e
      rw [if_pos (by omega), ← e]
      exact ⟨_, hc⟩
  have wr2 : ∀ h : Nat, whereP K p rope tied rocks who h k.toNat → ∃ b, (0 ≤ b ∧ b < 625) ∧ canS K p rope tied rocks h b ∧ (if who = 0 then b / 25 else b % 25) = k := by
    intro h q
    unfold whereP at q
    by_cases hw : who = 0
    · rw [if_neg (by omega), Int.toNat_of_nonneg k0] at q
      obtain ⟨z, q⟩ := q
      have rg := rch_rg hP.1 hP.2.2.1.1 hP.2.2.1.2 _ _ _ q
      refine ⟨25 * k + z, by omega, (can_rch (by omega) (by omega)).mpr (by rw [Int.toNat_natCast]; exact q), ?_⟩
      rw [if_pos hw]; omega
    · rw [if_pos (by omega)] at q
      obtain ⟨j, q⟩ := q
      have rg := rch_rg hP.1 hP.2.2.1.1 hP.2.2.1.2 _ _ _ q
      refine ⟨25 * j + k, by omega, (can_rch k0 (by omega)).mpr q, ?_⟩
      rw [if_neg hw]; omega
  refine lp_ok (fun (i : Int) (mm : Mem) => mm = m1 ∧ ∃ h : Nat, i = (h : Int) ∧ h ≤ 41 ∧ ∀ h', h' < h → ¬ whereP K p rope tied rocks who h' k.toNat) (fun i _ => (41 - i).toNat) ⟨rfl, 0, rfl, by omega, fun _ z => by omega⟩ (by decide) ?_
  rintro G i mm ⟨rfl, h, rfl, h41, hn⟩ ih
  by_cases hx : h = 41
  · subst hx
    rw [if_pos (by omega)]
    exact ok_some ⟨.inr ⟨rfl, fun h' z => hn h' (by omega)⟩, a2⟩
  · rw [if_neg (by omega), w32_id (x := 625 * (h : Int)) (by omega) (by omega), w32_id (x := (h : Int) + 1) (by omega) (by omega)]
    refine lp_for 625 (fun b q => q = mm ∧ 0 ≤ b ∧ ∀ b', 0 ≤ b' → b' < b → ¬ (canS K p rope tied rocks h b' ∧ (if who = 0 then b' / 25 else b' % 25) = k)) ⟨rfl, by omega, fun b' _ _ => by omega⟩ (by decide) (by decide) ?_ ?_
    · rintro G2 b q hb ⟨rfl, b0, hnb⟩ ih2
      have row := a1 h (by omega) b b0 hb
      rw [if_neg (by omega), w32_id (x := 625 * (h : Int) + b) (by omega) (by omega), chk_of (by omega), tmod_e 25 b0, tdiv_e 25 b0, w32_id (x := b + 1) (by omega) (by omega)]
      have go : ¬ (canS K p rope tied rocks h b ∧ (if who = 0 then b / 25 else b % 25) = k) → Ok (G2 (b + 1) q) (fun r => FirstH (fun h => whereP K p rope tied rocks who h k.toNat) r.1 ∧ Fr [298] m r.2) := fun hno => ih2 q ⟨rfl, by omega, fun b' z0 z1 => by
        by_cases e : b' = b
        · subst e; exact hno
        · exact hnb b' z0 (by omega)⟩
      by_cases hz : q 298 (625 * (h : Int) + b) = 0
      · rw [if_pos hz]
        exact go (fun ⟨z, _⟩ => by have := row.2.mpr z; omega)
      · rw [if_neg hz]
        have hyes := row.2.mp (by have := row.1; omega)
        by_cases hw : who = 0
        · rw [if_neg (by omega)]
          by_cases e : b / 25 = k
          · rw [if_neg (by omega)]
            exact ok_some ⟨.inl ⟨h, by omega, rfl, wr' h b b0 hb hyes (by rw [if_pos hw]; exact e), hn⟩, a2⟩
          · rw [if_pos e]
            exact go (fun ⟨_, z⟩ => e (by rwa [if_pos hw] at z))
        · rw [if_pos hw]
          by_cases e : b % 25 = k
          · rw [if_neg (by omega)]
            exact ok_some ⟨.inl ⟨h, by omega, rfl, wr' h b b0 hb hyes (by rw [if_neg hw]; exact e), hn⟩, a2⟩
          · rw [if_pos e]
            exact go (fun ⟨_, z⟩ => e (by rwa [if_neg hw] at z))
    · rintro G2 q ⟨rfl, b0, hnb⟩
      rw [if_pos (by omega)]
      refine ih _ q ⟨rfl, h + 1, by omega, by omega, fun h' hh z => ?_⟩ (by show (41 - ((h : Int) + 1)).toNat < (41 - (h : Int)).toNat; omega)
      by_cases e : h' = h
      · subst e
        obtain ⟨b, z0, z1⟩ := wr2 _ z
        exact hnb b z0.1 z0.2 z1
      · exact hn h' (by omega) z

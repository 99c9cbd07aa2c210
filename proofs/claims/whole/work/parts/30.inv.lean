/-! ===== D10: what holds between calls ===== -/
def imgK (m : Mem) (i : Int) : Int → Int := fun k => m 290 (2005 * i + k)
def TapeR (m : Mem) : Prop := m 0 1 = m 287 6 ∧ (0 ≤ m 0 1 ∧ m 0 1 ≤ 900) ∧ ∀ i, 0 ≤ i → i < m 0 1 → m 1 i = w8 (m 292 i) ∧ 0 ≤ m 292 i ∧ m 292 i < 256
def FaultR (m : Mem) : Prop := m 0 2 = m 287 14 ∧ m 0 3 = m 287 15
def ImgR (c : Int) (m : Mem) : Prop := ∀ i, 0 ≤ i → i < 3 → (m 87 i = m 291 i ∧ (m 291 i = 0 ∨ m 291 i = 1)) ∧ (m 291 i = 1 → KV c (imgK m i) ∧ WRel (110 + 59 * i.toNat) (imgK m i) m)
def TrayR (m : Mem) : Prop := ∀ t, 0 ≤ t → t < 4 → (m 95 t = -1 ∧ m 309 t = -1) ∨
  ((0 ≤ m 309 t ∧ m 309 t ≤ 3) ∧ m 94 t = m 309 t ∧ (0 ≤ m 310 t ∧ m 310 t ≤ 30) ∧ m 95 t = m 310 t ∧ ∀ i, 0 ≤ i → i < 30 → m (90 + t.toNat) i = m 311 (30 * t + i) ∧ -9223372036854775808 ≤ m 311 (30 * t + i) ∧ m 311 (30 * t + i) < 9223372036854775808)
def NearR (w a : Int) (m : Mem) : Prop :=
  Bits (m 18 11) (fun j => (j : Int) < a ∧ (j : Int) % w = w - 1) ∧
  ∀ f j, 0 ≤ f → f ≤ 8 → 0 ≤ j → j < a → Bits (m 81 (25 * f + j)) (fun k => (k : Int) < a ∧ apartF w j k ≤ f)
def NearOk (m : Mem) : Prop := m 18 10 = 0 ∨ ((2 ≤ m 18 10 ∧ m 18 10 ≤ 5) ∧ ∃ h, (2 ≤ h ∧ h ≤ 5) ∧ m 18 9 = m 18 10 * h ∧ NearR (m 18 10) (m 18 9) m)
def PtrR (m : Mem) : Prop := ((m 96 0 = 97 ∧ m 96 1 = 98) ∨ (m 96 0 = 98 ∧ m 96 1 = 97)) ∧ ((m 100 2 = 102 ∧ m 100 3 = 103) ∨ (m 100 2 = 103 ∧ m 100 3 = 102))
def Inv (c : Int) (m : Mem) : Prop := TapeR m ∧ FaultR m ∧ KV c (m 288) ∧ WRel 19 (m 288) m ∧ ImgR c m ∧ TrayR m ∧ NearOk m ∧ PtrR m
theorem WRel_fr' {b : Nat} {K : Int → Int} {m m' : Mem} (h : WRel b K m) (hq : ∀ o, b ≤ o → o < b + 12 ∨ (b + 19 ≤ o ∧ o < b + 59) → m' o = m o) : WRel b K m' := by
  obtain ⟨h1, h2, h3, h4, h5⟩ := h
  have hb : m' b = m b := hq b (by omega) (by omega)
  refine ⟨IsR_fr h1 (fun o a1 a2 => hq o (by omega) (by omega)), LfR_fr h2 (fun o a1 a2 => hq o (by omega) (by omega)), by rw [hb]; exact h3, by rw [hb]; exact h4, fun s a1 a2 => ?_⟩
  rw [hb]
  refine LfR_fr (h5 s a1 a2) (fun q b1 b2 => ?_)
  unfold pastAt at b1 b2
  have : 0 ≤ (m b 4 - (K 7 - 1 - s)) % 10 ∧ (m b 4 - (K 7 - 1 - s)) % 10 < 10 := ⟨Int.emod_nonneg _ (by decide), Int.emod_lt_of_pos _ (by decide)⟩
  exact hq q (by omega) (by omega)
/-- the cells that questions leave as they are -/
def Held (o : Nat) : Prop := o ≤ 1 ∨ (19 ≤ o ∧ o ≤ 31) ∨ (38 ≤ o ∧ o ≤ 77) ∨ (86 ≤ o ∧ o ≤ 95) ∨ (110 ≤ o ∧ o ≤ 286) ∨ o = 288 ∨ (290 ≤ o ∧ o ≤ 292) ∨ (309 ≤ o ∧ o ≤ 311)
theorem StVc_mono {c d : Int} {K S : Int → Int} (h : StV K c S) (hd : c ≤ d) : StV K d S := StV_mono h hd
theorem KV_mono {c d : Int} {K : Int → Int} (h : KV c K) (hd : c ≤ d) : KV d K := ⟨h.1, StV_mono h.2.1 hd, h.2.2.1, fun s a b => StV_mono (h.2.2.2 s a b) hd⟩
theorem ImgR_mono {c d : Int} {m : Mem} (h : ImgR c m) (hd : c ≤ d) : ImgR d m := fun i a b => ⟨(h i a b).1, fun q => ⟨KV_mono ((h i a b).2 q).1 hd, ((h i a b).2 q).2⟩⟩
theorem Inv_mono {c d : Int} {m : Mem} (h : Inv c m) (hd : c ≤ d) : Inv d m := ⟨h.1, h.2.1, KV_mono h.2.2.1 hd, h.2.2.2.1, ImgR_mono h.2.2.2.2.1 hd, h.2.2.2.2.2⟩
theorem ImgR_fr {c : Int} {m m' : Mem} (h : ImgR c m) (h87 : m' 87 = m 87) (h291 : m' 291 = m 291) (h290 : m' 290 = m 290) (hq : ∀ o, 110 ≤ o → o ≤ 286 → m' o = m o) : ImgR c m' := by
  intro i a b
  unfold imgK
  rw [h87, h291, h290]
  refine ⟨(h i a b).1, fun q => ⟨((h i a b).2 q).1, WRel_fr ((h i a b).2 q).2 (fun o z1 z2 _ _ => hq o (by omega) (by omega))⟩⟩
theorem TrayR_fr {m m' : Mem} (h : TrayR m) (hq : ∀ o, (90 ≤ o ∧ o ≤ 95) ∨ (309 ≤ o ∧ o ≤ 311) → m' o = m o) : TrayR m' := by
  intro t a b
  rw [hq 95 (by omega), hq 309 (by omega), hq 94 (by omega), hq 310 (by omega), hq 311 (by omega), hq (90 + t.toNat) (by omega)]
  exact h t a b
theorem TapeR_fr {m m' : Mem} (h : TapeR m) (h0 : m' 0 1 = m 0 1) (h1 : m' 1 = m 1) (h2 : m' 292 = m 292) (h3 : m' 287 6 = m 287 6) : TapeR m' := by
  unfold TapeR; rw [h0, h1, h2, h3]; exact h
theorem NearOk_fr {m m' : Mem} (h : NearOk m) (h18 : m' 18 9 = m 18 9 ∧ m' 18 10 = m 18 10 ∧ m' 18 11 = m 18 11) (h81 : m' 81 = m 81) : NearOk m' := by
  unfold NearOk NearR; rw [h18.1, h18.2.1, h18.2.2, h81]; exact h
theorem PtrR_fr {m m' : Mem} (h : PtrR m) (h96 : m' 96 = m 96) (h100 : m' 100 = m 100) : PtrR m' := by
  unfold PtrR; rw [h96, h100]; exact h
theorem inv_q {c : Int} {m m' : Mem} (h : Inv c m) (hk : ∀ o, Held o → m' o = m o) (h287 : m' 287 6 = m 287 6 ∧ m' 287 14 = m 287 14 ∧ m' 287 15 = m 287 15) (hn : NearOk m') (hp : PtrR m') : Inv c m' := by
  obtain ⟨a1, a2, a3, a4, a5, a6, a7, a8⟩ := h
  unfold Held at hk
  have k0 : m' 0 = m 0 := hk 0 (by omega)
  have k288 : m' 288 = m 288 := hk 288 (by omega)
  refine ⟨TapeR_fr a1 (by rw [k0]) (hk 1 (by omega)) (hk 292 (by omega)) h287.1, ?_, by rw [k288]; exact a3, ?_, ImgR_fr a5 (hk _ (by omega)) (hk _ (by omega)) (hk _ (by omega)) (fun o z1 z2 => hk o (by omega)), TrayR_fr a6 (fun o z => hk o (by omega)), hn, hp⟩
  · unfold FaultR; rw [k0, h287.2.1, h287.2.2]; exact a2
  · rw [k288]; exact WRel_fr' a4 (fun o z1 z2 => hk o (by omega))
theorem bC_ok {ρ : Type} {x : Option (Int × Int × Mem)} {h f : Int → Mem → Option ρ} {P : Int × Int × Mem → Prop} {Q : ρ → Prop} (hx : Ok x P) (k0 : ∀ v m, P (0, v, m) → Ok (f v m) Q) (k1 : ∀ k v m, k ≠ 0 → P (k, v, m) → Ok (h k m) Q) : Ok (bC x h f) Q := by
  obtain ⟨⟨k, v, m⟩, rfl, hp⟩ := hx
  by_cases hk : k = 0
  · subst hk; exact k0 v m hp
  · unfold bC
    show Ok (if k = 0 then _ else _) Q
    rw [if_neg hk]; exact k1 k v m hk hp
/-- what a call of the class with throws comes to: the throw's number, the answer, what has changed -/
def CQ (S : List Nat) (k v : Int) (m : Mem) (r : Int × Int × Mem) : Prop := r.1 = k ∧ (k = 0 → r.2.1 = v) ∧ Fr S m r.2.2
/-- the same of the model -/
def MD (S : List Nat) (k v : Int) (m : Mem) (r : Int × Mem) : Prop := r.2 287 4 = k ∧ (k = 0 → r.1 = v) ∧ Fr (287 :: S) m r.2 ∧ (r.2 287 6 = m 287 6 ∧ r.2 287 14 = m 287 14 ∧ r.2 287 15 = m 287 15)
/-- both sides of a call, in the law's order -/
def Two1 (c : Int) (F G : Mem → Option (Int × Mem)) (m : Mem) : Prop := Ok (F m) (fun r => Ok (G r.2) (fun s => s.2 287 4 = r.1 ∧ (r.1 = 0 → s.2 312 0 = s.1) ∧ Inv (c + 100) s.2))
def Two0 (c : Int) (F G : Mem → Option (Int × Mem)) (m : Mem) : Prop := Ok (F m) (fun r => Ok (G r.2) (fun s => r.1 = s.1 ∧ Inv (c + 100) s.2))
/-- the wrapper of a call with an answer -/
theorem wrapV {S : List Nat} {x : Option (Int × Int × Mem)} {h f : Int → Mem → Option (Int × Mem)} {k k' v : Int} {m : Mem} (hx : Ok x (CQ S k v m)) (hf : ∀ mm, f v mm = some (0, up mm 312 0 v)) (h0 : k = 0 → k' = 0) (hh : k ≠ 0 → k' ≠ 0 ∧ ∀ mm, h k mm = some (k', mm)) :
    Ok (bC x h f) (fun r => r.1 = k' ∧ (k' = 0 → r.2 312 0 = v) ∧ Fr (312 :: S) m r.2) := by
  refine bC_ok hx ?_ ?_
  · rintro v' mm ⟨e1, e2, e3⟩
    simp only at e1 e2 e3
    have e2' := e2 e1.symm
    rw [e2', hf]
    refine ok_some ⟨(h0 e1.symm).symm, fun _ => ?_, ?_⟩
    · show up mm 312 0 v 312 0 = v
      rw [up_same]
    · exact fr_up (by simp) (fr_mono e3 (fun o ho => List.mem_cons_of_mem _ ho))
  · rintro k1 v' mm hk ⟨e1, e2, e3⟩
    simp only at e1 e2 e3
    subst e1
    obtain ⟨g1, g2⟩ := hh hk
    rw [g2]
    exact ok_some ⟨rfl, fun q => absurd q g1, fr_mono e3 (fun o ho => List.mem_cons_of_mem _ ho)⟩
theorem held_of {S : List Nat} {o : Nat} (hS : S.all (fun q => decide (¬ (q ≤ 1 ∨ (19 ≤ q ∧ q ≤ 31) ∨ (38 ≤ q ∧ q ≤ 77) ∨ (86 ≤ q ∧ q ≤ 95) ∨ (110 ≤ q ∧ q ≤ 286) ∨ q = 288 ∨ (290 ≤ q ∧ q ≤ 292) ∨ (309 ≤ q ∧ q ≤ 311)))) = true) (h : Held o) : o ∉ S := by
  intro q
  have := List.all_eq_true.mp hS o q
  simp only [decide_eq_true_eq] at this
  exact this h
/-- a question whose cells are of no account: both sides -/
theorem two_qv {c k' v : Int} {S T : List Nat} {F G : Mem → Option (Int × Mem)} {m : Mem} (hI : Inv c m) (c0 : 0 ≤ c)
    (hS : (312 :: S).all (fun q => decide (¬ (q ≤ 1 ∨ (19 ≤ q ∧ q ≤ 31) ∨ (38 ≤ q ∧ q ≤ 77) ∨ (86 ≤ q ∧ q ≤ 95) ∨ (110 ≤ q ∧ q ≤ 286) ∨ q = 288 ∨ (290 ≤ q ∧ q ≤ 292) ∨ (309 ≤ q ∧ q ≤ 311)))) = true)
    (hT : (287 :: T).all (fun q => decide (¬ (q ≤ 1 ∨ (19 ≤ q ∧ q ≤ 31) ∨ (38 ≤ q ∧ q ≤ 77) ∨ (86 ≤ q ∧ q ≤ 95) ∨ (110 ≤ q ∧ q ≤ 286) ∨ q = 288 ∨ (290 ≤ q ∧ q ≤ 292) ∨ (309 ≤ q ∧ q ≤ 311)))) = true)
    (hS2 : (S.contains 18 || S.contains 81 || S.contains 96 || S.contains 100 || S.contains 287) = false) (hT2 : (T.contains 18 || T.contains 81 || T.contains 96 || T.contains 100 || T.contains 312) = false)
    (hF : Ok (F m) (fun r => r.1 = k' ∧ (k' = 0 → r.2 312 0 = v) ∧ Fr (312 :: S) m r.2)) (hG : ∀ m1, Inv c m1 → m1 288 = m 288 → m1 309 = m 309 → m1 310 = m 310 → m1 311 = m 311 → Ok (G m1) (MD T k' v m1)) : Ok (F m) (fun r => Ok (G r.2) (fun s => s.2 287 4 = r.1 ∧ (r.1 = 0 → s.2 312 0 = s.1 ∧ s.1 = v) ∧ Inv (c + 100) s.2)) := by
  simp only [Bool.or_eq_false_iff] at hS2 hT2
  have n : ∀ (x : Nat) (L : List Nat), L.contains x = false → x ∉ L := fun x L hx hm => by
    rw [List.contains_iff_mem.mpr hm] at hx; cases hx
  refine ok_imp hF ?_
  rintro ⟨k1, m1⟩ ⟨e1, e2, e3⟩
  simp only at e1 e2 e3
  have f : ∀ o, o ≠ 312 → o ∉ S → m1 o = m o := fun o a b => e3 o (by simp [a, b])
  have hI1 : Inv c m1 := by
    refine inv_q hI (fun o ho => e3 o (held_of hS ho)) ?_ (NearOk_fr hI.2.2.2.2.2.2.1 ?_ (f 81 (by decide) (n _ _ hS2.1.1.1.2))) (PtrR_fr hI.2.2.2.2.2.2.2 (f 96 (by decide) (n _ _ hS2.1.1.2)) (f 100 (by decide) (n _ _ hS2.1.2)))
    · rw [f 287 (by decide) (n _ _ hS2.2)]; exact ⟨rfl, rfl, rfl⟩
    · rw [f 18 (by decide) (n _ _ hS2.1.1.1.1)]; exact ⟨rfl, rfl, rfl⟩
  have g : ∀ o, Held o → m1 o = m o := fun o ho => e3 o (held_of hS ho)
  refine ok_imp (hG m1 hI1 (g _ (by unfold Held; omega)) (g _ (by unfold Held; omega)) (g _ (by unfold Held; omega)) (g _ (by unfold Held; omega))) ?_
  rintro ⟨b, m2⟩ ⟨d1, d2, d3, d4⟩
  simp only at d1 d2 d3 d4
  have f2 : ∀ o, o ≠ 287 → o ∉ T → m2 o = m1 o := fun o a b => d3 o (by simp [a, b])
  refine ⟨d1.trans e1.symm, fun q => ?_, Inv_mono (inv_q hI1 (fun o ho => d3 o (held_of hT ho)) d4 (NearOk_fr hI1.2.2.2.2.2.2.1 ?_ (f2 81 (by decide) (n _ _ hT2.1.1.1.2))) (PtrR_fr hI1.2.2.2.2.2.2.2 (f2 96 (by decide) (n _ _ hT2.1.1.2)) (f2 100 (by decide) (n _ _ hT2.1.2)))) (by omega)⟩
  · show m2 312 0 = b ∧ b = v
    rw [f2 312 (by decide) (n _ _ hT2.2), e2 (e1.symm.trans q), d2 (e1.symm.trans q)]; exact ⟨rfl, rfl⟩
  · show m2 18 9 = m1 18 9 ∧ m2 18 10 = m1 18 10 ∧ m2 18 11 = m1 18 11
    rw [f2 18 (by decide) (n _ _ hT2.1.1.1.1)]; exact ⟨rfl, rfl, rfl⟩
theorem two_q {c k' v : Int} {S T : List Nat} {F G : Mem → Option (Int × Mem)} {m : Mem} (hI : Inv c m) (c0 : 0 ≤ c)
    (hS : (312 :: S).all (fun q => decide (¬ (q ≤ 1 ∨ (19 ≤ q ∧ q ≤ 31) ∨ (38 ≤ q ∧ q ≤ 77) ∨ (86 ≤ q ∧ q ≤ 95) ∨ (110 ≤ q ∧ q ≤ 286) ∨ q = 288 ∨ (290 ≤ q ∧ q ≤ 292) ∨ (309 ≤ q ∧ q ≤ 311)))) = true)
    (hT : (287 :: T).all (fun q => decide (¬ (q ≤ 1 ∨ (19 ≤ q ∧ q ≤ 31) ∨ (38 ≤ q ∧ q ≤ 77) ∨ (86 ≤ q ∧ q ≤ 95) ∨ (110 ≤ q ∧ q ≤ 286) ∨ q = 288 ∨ (290 ≤ q ∧ q ≤ 292) ∨ (309 ≤ q ∧ q ≤ 311)))) = true)
    (hS2 : (S.contains 18 || S.contains 81 || S.contains 96 || S.contains 100 || S.contains 287) = false) (hT2 : (T.contains 18 || T.contains 81 || T.contains 96 || T.contains 100 || T.contains 312) = false)
    (hF : Ok (F m) (fun r => r.1 = k' ∧ (k' = 0 → r.2 312 0 = v) ∧ Fr (312 :: S) m r.2)) (hG : ∀ m1, Inv c m1 → m1 288 = m 288 → m1 309 = m 309 → m1 310 = m 310 → m1 311 = m 311 → Ok (G m1) (MD T k' v m1)) : Two1 c F G m :=
  ok_imp (two_qv hI c0 hS hT hS2 hT2 hF hG) (fun _ h => ok_imp h (fun _ q => ⟨q.1, fun z => (q.2.1 z).1, q.2.2⟩))

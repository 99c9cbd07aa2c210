/-! ===== CORE 12: what the law does with a call ===== -/
def ar (xs : Nat → Int32) (i : Int) (j : Nat) : Int := (xs (i + (j : Int)).toNat).toInt
noncomputable def PX (F G : Mem → Option (Int × Mem)) (PK : Mem → Option Unit) : Mem → Option Unit := fun mm => bW (F mm) (fun k mm => bW (G mm) (fun v mm => bR (fX12_thrown mm) (fun t => if t = k then (if ¬ k = 0 then PK mm else rd (mm 312 0) (fun z => if z = v then PK mm else none)) else none)))
noncomputable def PM (F G : Mem → Option (Int × Mem)) (PK : Mem → Option Unit) : Mem → Option Unit := fun mm => bW (F mm) (fun k mm => bW (G mm) (fun v mm => bR (fX12_thrown mm) (fun t => if t = k then (if ¬ k = 0 then PK mm else rd (mm 312 0) (fun z => if v = 0 then (if z = 0 then PK mm else none) else (if z = 1 then PK mm else none))) else none)))
noncomputable def PV (F : Mem → Option (Int × Mem)) (G : Mem → Option Mem) (PK : Mem → Option Unit) : Mem → Option Unit := fun mm => bW (F mm) (fun k mm => bV (G mm) (fun mm => bR (fX12_thrown mm) (fun t => if t = k then PK mm else none)))
noncomputable def P0 (F G : Mem → Option (Int × Mem)) (PK : Mem → Option Unit) : Mem → Option Unit := fun mm => bW (F mm) (fun a mm => bW (G mm) (fun b mm => if a = b then PK mm else none))
noncomputable def PR (F : Mem → Option Int) (G : Mem → Option (Int × Mem)) (PK : Mem → Option Unit) : Mem → Option Unit := fun mm => bR (F mm) (fun a => bW (G mm) (fun b mm => if a = b then PK mm else none))
/-- the run goes on wherever the invariant holds -/
noncomputable def PI (c : Int) : Mem → Option Unit := fun mm => @ite _ (Inv c mm) (Classical.propDecidable _) (some ()) none
theorem pi_of {c : Int} {mm : Mem} (h : Inv c mm) : PI c mm = some () := if_pos h
theorem pi_inv {c : Int} {mm : Mem} {r : Unit} (h : PI c mm = some r) : Inv c mm := by
  unfold PI at h
  by_cases hI : Inv c mm
  · exact hI
  · rw [if_neg hI] at h; cases h
theorem px_ok {c : Int} {F G : Mem → Option (Int × Mem)} (h : ∀ mm, Inv c mm → Two1 c F G mm) {mm : Mem} {r : Unit} (hp : PI c mm = some r) : PX F G (PI (c + 100)) mm = some r := by
  obtain ⟨⟨k, m1⟩, e1, ⟨v, m2⟩, e2, a1, a2, a3⟩ := h mm (pi_inv hp)
  replace e2 : G m1 = some (v, m2) := e2
  show bW (F mm) _ = _
  rw [e1, bW_some, e2, bW_some]
  show (if m2 287 4 = k then (if ¬ k = 0 then PI (c + 100) m2 else (if m2 312 0 = v then PI (c + 100) m2 else none)) else none) = _
  rw [if_pos a1]
  by_cases hk : k = 0
  · rw [if_neg (fun q => q hk), if_pos (a2 hk)]; exact pi_of a3
  · rw [if_pos hk]; exact pi_of a3
theorem pm_ok {c : Int} {F G : Mem → Option (Int × Mem)} (h : ∀ mm, Inv c mm → Ok (F mm) (fun r => Ok (G r.2) (fun s => s.2 287 4 = r.1 ∧ (r.1 = 0 → s.2 312 0 = s.1 ∧ (s.1 = 0 ∨ s.1 = 1)) ∧ Inv (c + 100) s.2))) {mm : Mem} {r : Unit} (hp : PI c mm = some r) : PM F G (PI (c + 100)) mm = some r := by
  obtain ⟨⟨k, m1⟩, e1, ⟨v, m2⟩, e2, a1, a2, a3⟩ := h mm (pi_inv hp)
  replace e2 : G m1 = some (v, m2) := e2
  show bW (F mm) _ = _
  rw [e1, bW_some, e2, bW_some]
  show (if m2 287 4 = k then (if ¬ k = 0 then PI (c + 100) m2 else (if v = 0 then (if m2 312 0 = 0 then PI (c + 100) m2 else none) else (if m2 312 0 = 1 then PI (c + 100) m2 else none))) else none) = _
  rw [if_pos a1]
  by_cases hk : k = 0
  · obtain ⟨b1, b2⟩ := a2 hk
    have b1' : m2 312 0 = v := b1
    have b2' : v = 0 ∨ v = 1 := b2
    rw [if_neg (fun q => q hk), b1']
    rcases b2' with rfl | rfl
    · rw [if_pos rfl, if_pos rfl]; exact pi_of a3
    · rw [if_neg (by decide), if_pos rfl]; exact pi_of a3
  · rw [if_pos hk]; exact pi_of a3
theorem pv_ok {c : Int} {F : Mem → Option (Int × Mem)} {G : Mem → Option Mem} (h : ∀ mm, Inv c mm → TwoV c F G mm) {mm : Mem} {r : Unit} (hp : PI c mm = some r) : PV F G (PI (c + 100)) mm = some r := by
  obtain ⟨⟨k, m1⟩, e1, m2, e2, a1, a3⟩ := h mm (pi_inv hp)
  replace e2 : G m1 = some m2 := e2
  show bW (F mm) _ = _
  rw [e1, bW_some, e2, bV_some]
  show (if m2 287 4 = k then PI (c + 100) m2 else none) = _
  rw [if_pos a1]
  exact pi_of a3
theorem p0_ok {c : Int} {F G : Mem → Option (Int × Mem)} (h : ∀ mm, Inv c mm → Two0 c F G mm) {mm : Mem} {r : Unit} (hp : PI c mm = some r) : P0 F G (PI (c + 100)) mm = some r := by
  obtain ⟨⟨k, m1⟩, e1, ⟨v, m2⟩, e2, a1, a3⟩ := h mm (pi_inv hp)
  replace e2 : G m1 = some (v, m2) := e2
  show bW (F mm) _ = _
  rw [e1, bW_some, e2, bW_some]
  show (if k = v then PI (c + 100) m2 else none) = _
  rw [if_pos a1]
  exact pi_of a3
theorem pr_ok {c : Int} {F : Mem → Option Int} {G : Mem → Option (Int × Mem)} (h : ∀ mm, Inv c mm → TwoR c F G mm) {mm : Mem} {r : Unit} (hp : PI c mm = some r) : PR F G (PI (c + 100)) mm = some r := by
  obtain ⟨k, e1, ⟨v, m2⟩, e2, a1, a3⟩ := h mm (pi_inv hp)
  show bR (F mm) _ = _
  rw [e1, bR_some, e2, bW_some]
  show (if k = v then PI (c + 100) m2 else none) = _
  rw [if_pos a1]
  exact pi_of a3
theorem lor_rng (x y : Int) : -9223372036854775808 ≤ lor x y ∧ lor x y < 9223372036854775808 := ⟨Int64.le_toInt _, Int64.toInt_lt _⟩
section SIMS
variable {p : Program} {l : Launch} {e : Env} {R : Room} {s : State} {m : MethodId} {args : Array Value} {below : List Frame} {meth : Method} {c : Code}
variable {g : GC} {own : String} {cc : ByteArray} {nL kc ks pc : Nat} {ρ : Type} {Q : ρ → Mem → State → Prop} {ls : List (Nat × SV)} {st : List SV} {P : Mem → Option ρ}
theorem zl_arg (C : Bd g own cc nL p s m args meth c) {L : Nat} {xs : Nat → Int32} {i : Int} {j : Nat} (hX : ScrX g L xs s) (hi : 0 ≤ i ∧ i + 6 ≤ (L : Int)) (hj : j < 6) (hl0 : ls.lookup 0 = some sS) (hl4 : ls.lookup 4 = some (sI i)) (d0 : decode cc pc = .ok (.aload_n 0, 1)) (d1 : decode cc (pc+1) = .ok (.iload 4, 2)) (d2 : decode cc (pc+3) = .ok (.iconst (j : Int), 1)) (hx : (Int32.ofInt (j : Int)).toInt = (j : Int)) (d3 : decode cc (pc+4) = .ok (.iadd, 1)) (d4 : decode cc (pc+5) = .ok (.iaload, 1)) (K : Sim p l e R s m args below meth c g nL Q kc ks (pc+6) ls (sI (ar xs i j) :: st) P) : Sim p l e R s m args below meth c g nL Q kc ks pc ls st P := by
  refine zs_aload_nS (pc := pc) (k := 0) (i := 0) C d0 rfl hl0 ?_
  refine zs_iload (pc := pc + 1) (i := 4) C d1 hl4 ?_
  refine zs_iconst (pc := pc + 3) (n := (j : Int)) (x := (j : Int)) C d2 hx ?_
  refine zs_iadd (pc := pc + 4) C d3 ?_
  have hL := hX.2.2.2
  rw [show w32 (i + (j : Int)) = i + (j : Int) from w32_id (by omega) (by omega)]
  refine zs_sld (pc := pc + 5) C hX (by omega) d4 ?_
  exact K
end SIMS

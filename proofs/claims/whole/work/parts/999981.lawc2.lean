/-! ===== the law: its cases ===== -/
set_option maxRecDepth 20000 in
theorem lc_22 {p : Program} {l : Launch} {e : Env} {s : State} {m : MethodId} {args : Array Value} {below : List Frame} {meth : Method} {c : Code} {g : GC} {L : Nat} {xs : Nat → Int32} {i : Int} {kc ks : Nat} {Q : State → Prop} {PK : Mem → Option Unit} (C : Bd g RL code 8 p s m args meth c) (hX : ScrX g L xs s) (hl : l.stackTraces = false) (hi : 0 ≤ i ∧ i + 6 ≤ (L : Int)) (hk : kc + 8 ≤ room_1.cells ∧ ks + 48 ≤ room_1.slots)
    (K : ∀ kc' ks', kc' ≤ kc + 8 → ks' ≤ ks + 48 → Sim p l e room_1 s m args below meth c g 8 (fun (_ : Unit) _ => Q) kc' ks' 3062 [(0, sS), (1, sR 0), (2, sR 287), (3, sR 312), (4, sI i)] [] PK) : Sim p l e room_1 s m args below meth c g 8 (fun (_ : Unit) _ => Q) kc ks 1618 [(0, sS), (1, sR 0), (2, sR 287), (3, sR 312), (4, sI i)] [] (PX (fun mm => fL_soonest (ar xs i 1) (ar xs i 2) (ar xs i 3) mm) (fun mm => fX12_soonest (ar xs i 1) (ar xs i 2) (ar xs i 3) mm) PK) := by
  obtain ⟨hk1, hk2⟩ := hk
  unfold PX
  refine zs_aload_n (pc := 1618) (k := 1) (i := 1) C (by decide +kernel) rfl rfl ?_
  refine zl_arg (pc := 1619) (j := 1) (ls := [(0, sS), (1, sR 0), (2, sR 287), (3, sR 312), (4, sI i)]) C hX hi (by decide) rfl rfl (by decide +kernel) (by decide +kernel) (by decide +kernel) (by decide +kernel) (by decide +kernel) (by decide +kernel) ?_
  refine zl_arg (pc := 1625) (j := 2) (ls := [(0, sS), (1, sR 0), (2, sR 287), (3, sR 312), (4, sI i)]) C hX hi (by decide) rfl rfl (by decide +kernel) (by decide +kernel) (by decide +kernel) (by decide +kernel) (by decide +kernel) (by decide +kernel) ?_
  refine zl_arg (pc := 1631) (j := 3) (ls := [(0, sS), (1, sR 0), (2, sR 287), (3, sR 312), (4, sI i)]) C hX hi (by decide) rfl rfl (by decide +kernel) (by decide +kernel) (by decide +kernel) (by decide +kernel) (by decide +kernel) (by decide +kernel) ?_
  refine zs_aload_n (pc := 1637) (k := 3) (i := 3) C (by decide +kernel) rfl rfl ?_
  refine zs_csX (pc := 1638) (As := [sR 0, sI (ar xs i 1), sI (ar xs i 2), sI (ar xs i 3), sR 312]) (st := []) C (fun _ _ _ => rfl) rfl (c_L_soonest l g hl (ar xs i 1) (ar xs i 2) (ar xs i 3)) mx_225 rfl rfl (Nat.le_of_ble_eq_true rfl) ⟨Nat.le_of_ble_eq_true rfl, Nat.le_of_ble_eq_true rfl⟩ (by constructor <;> simp only [rmd] <;> omega) (by decide +kernel) (fun k1 => ?_)
  refine zs_istore (pc := 1641) (i := 5) (ls' := [(5, sI k1), (0, sS), (1, sR 0), (2, sR 287), (3, sR 312), (4, sI i)]) C (by decide +kernel) (Nat.le_of_ble_eq_true rfl) rfl ?_
  refine zs_aload_n (pc := 1643) (k := 2) (i := 2) C (by decide +kernel) rfl rfl ?_
  refine zl_arg (pc := 1644) (j := 1) (ls := [(5, sI k1), (0, sS), (1, sR 0), (2, sR 287), (3, sR 312), (4, sI i)]) C hX hi (by decide) rfl rfl (by decide +kernel) (by decide +kernel) (by decide +kernel) (by decide +kernel) (by decide +kernel) (by decide +kernel) ?_
  refine zl_arg (pc := 1650) (j := 2) (ls := [(5, sI k1), (0, sS), (1, sR 0), (2, sR 287), (3, sR 312), (4, sI i)]) C hX hi (by decide) rfl rfl (by decide +kernel) (by decide +kernel) (by decide +kernel) (by decide +kernel) (by decide +kernel) (by decide +kernel) ?_
  refine zl_arg (pc := 1656) (j := 3) (ls := [(5, sI k1), (0, sS), (1, sR 0), (2, sR 287), (3, sR 312), (4, sI i)]) C hX hi (by decide) rfl rfl (by decide +kernel) (by decide +kernel) (by decide +kernel) (by decide +kernel) (by decide +kernel) (by decide +kernel) ?_
  refine zs_cvWi (pc := 1662) (As := [sI (ar xs i 1), sI (ar xs i 2), sI (ar xs i 3)]) (st := []) C (fun _ _ _ => rfl) rfl (c_X12_soonest l g (ar xs i 1) (ar xs i 2) (ar xs i 3)) ml_RL_227 rfl rfl rfl rfl (Nat.le_of_ble_eq_true rfl) ⟨Nat.le_of_ble_eq_true rfl, Nat.le_of_ble_eq_true rfl⟩ (by constructor <;> simp only [rmd] <;> omega) (by decide +kernel) (fun v2 => ?_)
  refine zs_istore (pc := 1665) (i := 6) (ls' := [(6, sI v2), (5, sI k1), (0, sS), (1, sR 0), (2, sR 287), (3, sR 312), (4, sI i)]) C (by decide +kernel) (Nat.le_of_ble_eq_true rfl) rfl ?_
  refine zs_aload_n (pc := 1667) (k := 2) (i := 2) C (by decide +kernel) rfl rfl ?_
  refine zs_cvRi (pc := 1668) (As := []) (st := []) C rfl (c_X12_thrown l g ) ml_RL_156 rfl rfl rfl rfl (Nat.le_of_ble_eq_true rfl) ⟨Nat.le_of_ble_eq_true rfl, Nat.le_of_ble_eq_true rfl⟩ (by constructor <;> simp only [rmd] <;> omega) (by decide +kernel) (fun t3 => ?_)
  refine zs_iload (pc := 1671) (i := 5) C (by decide +kernel) rfl ?_
  refine zs_icmp_eq (pc := 1673) (off := 5) (tgt := 1678) C (by decide +kernel) (by decide) ?_ zs_none
  refine zs_iload (pc := 1678) (i := 5) C (by decide +kernel) rfl ?_
  refine zs_if_ne (pc := 1680) (off := 15) (tgt := 1695) C (by decide +kernel) (by decide) ?_ ?_
  · refine zs_goto (pc := 1695) (off := 1367) (tgt := 3062) C (by decide +kernel) (by decide) ?_
    exact zs_sub (ls' := [(0, sS), (1, sR 0), (2, sR 287), (3, sR 312), (4, sI i)]) ⟨rfl, rfl, rfl, rfl, rfl, trivial⟩ (K _ _ (by simp only [rmd]; omega) (by simp only [rmd]; omega))
  · refine zs_aload_n (pc := 1683) (k := 3) (i := 3) C (by decide +kernel) rfl rfl ?_
    refine zs_iconst (pc := 1684) (n := 0) (x := 0) C (by decide +kernel) (by decide +kernel) ?_
    refine zs_laldk (pc := 1685) (o := 312) (n := 1) (i := 0) C ⟨by decide, by decide⟩ (by decide +kernel) rfl (fun z4 => ?_)
    refine zs_iload (pc := 1686) (i := 6) C (by decide +kernel) rfl ?_
    refine zs_i2l (pc := 1688) C (by decide +kernel) ?_
    refine zs_lcmp_eq (pc := 1689) (off := 5) (tgt := 1695) C (by decide +kernel) (by decide +kernel) (by decide) ?_ zs_none
    refine zs_goto (pc := 1695) (off := 1367) (tgt := 3062) C (by decide +kernel) (by decide) ?_
    exact zs_sub (ls' := [(0, sS), (1, sR 0), (2, sR 287), (3, sR 312), (4, sI i)]) ⟨rfl, rfl, rfl, rfl, rfl, trivial⟩ (K _ _ (by simp only [rmd]; omega) (by simp only [rmd]; omega))

set_option maxRecDepth 20000 in
theorem lc_23 {p : Program} {l : Launch} {e : Env} {s : State} {m : MethodId} {args : Array Value} {below : List Frame} {meth : Method} {c : Code} {g : GC} {L : Nat} {xs : Nat → Int32} {i : Int} {kc ks : Nat} {Q : State → Prop} {PK : Mem → Option Unit} (C : Bd g RL code 8 p s m args meth c) (hX : ScrX g L xs s) (hl : l.stackTraces = false) (hi : 0 ≤ i ∧ i + 6 ≤ (L : Int)) (hk : kc + 8 ≤ room_1.cells ∧ ks + 48 ≤ room_1.slots)
    (K : ∀ kc' ks', kc' ≤ kc + 8 → ks' ≤ ks + 48 → Sim p l e room_1 s m args below meth c g 8 (fun (_ : Unit) _ => Q) kc' ks' 3062 [(0, sS), (1, sR 0), (2, sR 287), (3, sR 312), (4, sI i)] [] PK) : Sim p l e room_1 s m args below meth c g 8 (fun (_ : Unit) _ => Q) kc ks 1698 [(0, sS), (1, sR 0), (2, sR 287), (3, sR 312), (4, sI i)] [] (PX (fun mm => fL_leads (ar xs i 1) (ar xs i 2) (ar xs i 3) (ar xs i 4) mm) (fun mm => fX12_leads (ar xs i 1) (ar xs i 2) (ar xs i 3) (ar xs i 4) mm) PK) := by
  obtain ⟨hk1, hk2⟩ := hk
  unfold PX
  refine zs_aload_n (pc := 1698) (k := 1) (i := 1) C (by decide +kernel) rfl rfl ?_
  refine zl_arg (pc := 1699) (j := 1) (ls := [(0, sS), (1, sR 0), (2, sR 287), (3, sR 312), (4, sI i)]) C hX hi (by decide) rfl rfl (by decide +kernel) (by decide +kernel) (by decide +kernel) (by decide +kernel) (by decide +kernel) (by decide +kernel) ?_
  refine zl_arg (pc := 1705) (j := 2) (ls := [(0, sS), (1, sR 0), (2, sR 287), (3, sR 312), (4, sI i)]) C hX hi (by decide) rfl rfl (by decide +kernel) (by decide +kernel) (by decide +kernel) (by decide +kernel) (by decide +kernel) (by decide +kernel) ?_
  refine zl_arg (pc := 1711) (j := 3) (ls := [(0, sS), (1, sR 0), (2, sR 287), (3, sR 312), (4, sI i)]) C hX hi (by decide) rfl rfl (by decide +kernel) (by decide +kernel) (by decide +kernel) (by decide +kernel) (by decide +kernel) (by decide +kernel) ?_
  refine zl_arg (pc := 1717) (j := 4) (ls := [(0, sS), (1, sR 0), (2, sR 287), (3, sR 312), (4, sI i)]) C hX hi (by decide) rfl rfl (by decide +kernel) (by decide +kernel) (by decide +kernel) (by decide +kernel) (by decide +kernel) (by decide +kernel) ?_
  refine zs_aload_n (pc := 1723) (k := 3) (i := 3) C (by decide +kernel) rfl rfl ?_
  refine zs_csX (pc := 1724) (As := [sR 0, sI (ar xs i 1), sI (ar xs i 2), sI (ar xs i 3), sI (ar xs i 4), sR 312]) (st := []) C (fun _ _ _ => rfl) rfl (c_L_leads l g hl (ar xs i 1) (ar xs i 2) (ar xs i 3) (ar xs i 4)) mx_228 rfl rfl (Nat.le_of_ble_eq_true rfl) ⟨Nat.le_of_ble_eq_true rfl, Nat.le_of_ble_eq_true rfl⟩ (by constructor <;> simp only [rmd] <;> omega) (by decide +kernel) (fun k1 => ?_)
  refine zs_istore (pc := 1727) (i := 5) (ls' := [(5, sI k1), (0, sS), (1, sR 0), (2, sR 287), (3, sR 312), (4, sI i)]) C (by decide +kernel) (Nat.le_of_ble_eq_true rfl) rfl ?_
  refine zs_aload_n (pc := 1729) (k := 2) (i := 2) C (by decide +kernel) rfl rfl ?_
  refine zl_arg (pc := 1730) (j := 1) (ls := [(5, sI k1), (0, sS), (1, sR 0), (2, sR 287), (3, sR 312), (4, sI i)]) C hX hi (by decide) rfl rfl (by decide +kernel) (by decide +kernel) (by decide +kernel) (by decide +kernel) (by decide +kernel) (by decide +kernel) ?_
  refine zl_arg (pc := 1736) (j := 2) (ls := [(5, sI k1), (0, sS), (1, sR 0), (2, sR 287), (3, sR 312), (4, sI i)]) C hX hi (by decide) rfl rfl (by decide +kernel) (by decide +kernel) (by decide +kernel) (by decide +kernel) (by decide +kernel) (by decide +kernel) ?_
  refine zl_arg (pc := 1742) (j := 3) (ls := [(5, sI k1), (0, sS), (1, sR 0), (2, sR 287), (3, sR 312), (4, sI i)]) C hX hi (by decide) rfl rfl (by decide +kernel) (by decide +kernel) (by decide +kernel) (by decide +kernel) (by decide +kernel) (by decide +kernel) ?_
  refine zl_arg (pc := 1748) (j := 4) (ls := [(5, sI k1), (0, sS), (1, sR 0), (2, sR 287), (3, sR 312), (4, sI i)]) C hX hi (by decide) rfl rfl (by decide +kernel) (by decide +kernel) (by decide +kernel) (by decide +kernel) (by decide +kernel) (by decide +kernel) ?_
  refine zs_cvWi (pc := 1754) (As := [sI (ar xs i 1), sI (ar xs i 2), sI (ar xs i 3), sI (ar xs i 4)]) (st := []) C (fun _ _ _ => rfl) rfl (c_X12_leads l g (ar xs i 1) (ar xs i 2) (ar xs i 3) (ar xs i 4)) ml_RL_230 rfl rfl rfl rfl (Nat.le_of_ble_eq_true rfl) ⟨Nat.le_of_ble_eq_true rfl, Nat.le_of_ble_eq_true rfl⟩ (by constructor <;> simp only [rmd] <;> omega) (by decide +kernel) (fun v2 => ?_)
  refine zs_istore (pc := 1757) (i := 6) (ls' := [(6, sI v2), (5, sI k1), (0, sS), (1, sR 0), (2, sR 287), (3, sR 312), (4, sI i)]) C (by decide +kernel) (Nat.le_of_ble_eq_true rfl) rfl ?_
  refine zs_aload_n (pc := 1759) (k := 2) (i := 2) C (by decide +kernel) rfl rfl ?_
  refine zs_cvRi (pc := 1760) (As := []) (st := []) C rfl (c_X12_thrown l g ) ml_RL_156 rfl rfl rfl rfl (Nat.le_of_ble_eq_true rfl) ⟨Nat.le_of_ble_eq_true rfl, Nat.le_of_ble_eq_true rfl⟩ (by constructor <;> simp only [rmd] <;> omega) (by decide +kernel) (fun t3 => ?_)
  refine zs_iload (pc := 1763) (i := 5) C (by decide +kernel) rfl ?_
  refine zs_icmp_eq (pc := 1765) (off := 5) (tgt := 1770) C (by decide +kernel) (by decide) ?_ zs_none
  refine zs_iload (pc := 1770) (i := 5) C (by decide +kernel) rfl ?_
  refine zs_if_ne (pc := 1772) (off := 15) (tgt := 1787) C (by decide +kernel) (by decide) ?_ ?_
  · refine zs_goto (pc := 1787) (off := 1275) (tgt := 3062) C (by decide +kernel) (by decide) ?_
    exact zs_sub (ls' := [(0, sS), (1, sR 0), (2, sR 287), (3, sR 312), (4, sI i)]) ⟨rfl, rfl, rfl, rfl, rfl, trivial⟩ (K _ _ (by simp only [rmd]; omega) (by simp only [rmd]; omega))
  · refine zs_aload_n (pc := 1775) (k := 3) (i := 3) C (by decide +kernel) rfl rfl ?_
    refine zs_iconst (pc := 1776) (n := 0) (x := 0) C (by decide +kernel) (by decide +kernel) ?_
    refine zs_laldk (pc := 1777) (o := 312) (n := 1) (i := 0) C ⟨by decide, by decide⟩ (by decide +kernel) rfl (fun z4 => ?_)
    refine zs_iload (pc := 1778) (i := 6) C (by decide +kernel) rfl ?_
    refine zs_i2l (pc := 1780) C (by decide +kernel) ?_
    refine zs_lcmp_eq (pc := 1781) (off := 5) (tgt := 1787) C (by decide +kernel) (by decide +kernel) (by decide) ?_ zs_none
    refine zs_goto (pc := 1787) (off := 1275) (tgt := 3062) C (by decide +kernel) (by decide) ?_
    exact zs_sub (ls' := [(0, sS), (1, sR 0), (2, sR 287), (3, sR 312), (4, sI i)]) ⟨rfl, rfl, rfl, rfl, rfl, trivial⟩ (K _ _ (by simp only [rmd]; omega) (by simp only [rmd]; omega))

set_option maxRecDepth 20000 in
theorem lc_24 {p : Program} {l : Launch} {e : Env} {s : State} {m : MethodId} {args : Array Value} {below : List Frame} {meth : Method} {c : Code} {g : GC} {L : Nat} {xs : Nat → Int32} {i : Int} {kc ks : Nat} {Q : State → Prop} {PK : Mem → Option Unit} (C : Bd g RL code 8 p s m args meth c) (hX : ScrX g L xs s) (hl : l.stackTraces = false) (hi : 0 ≤ i ∧ i + 6 ≤ (L : Int)) (hk : kc + 8 ≤ room_1.cells ∧ ks + 48 ≤ room_1.slots)
    (K : ∀ kc' ks', kc' ≤ kc + 8 → ks' ≤ ks + 48 → Sim p l e room_1 s m args below meth c g 8 (fun (_ : Unit) _ => Q) kc' ks' 3062 [(0, sS), (1, sR 0), (2, sR 287), (3, sR 312), (4, sI i)] [] PK) : Sim p l e room_1 s m args below meth c g 8 (fun (_ : Unit) _ => Q) kc ks 1790 [(0, sS), (1, sR 0), (2, sR 287), (3, sR 312), (4, sI i)] [] (PX (fun mm => fL_ways (ar xs i 1) (ar xs i 2) (ar xs i 3) (ar xs i 4) mm) (fun mm => fX12_ways (ar xs i 1) (ar xs i 2) (ar xs i 3) (ar xs i 4) mm) PK) := by
  obtain ⟨hk1, hk2⟩ := hk
  unfold PX
  refine zs_aload_n (pc := 1790) (k := 1) (i := 1) C (by decide +kernel) rfl rfl ?_
  refine zl_arg (pc := 1791) (j := 1) (ls := [(0, sS), (1, sR 0), (2, sR 287), (3, sR 312), (4, sI i)]) C hX hi (by decide) rfl rfl (by decide +kernel) (by decide +kernel) (by decide +kernel) (by decide +kernel) (by decide +kernel) (by decide +kernel) ?_
  refine zl_arg (pc := 1797) (j := 2) (ls := [(0, sS), (1, sR 0), (2, sR 287), (3, sR 312), (4, sI i)]) C hX hi (by decide) rfl rfl (by decide +kernel) (by decide +kernel) (by decide +kernel) (by decide +kernel) (by decide +kernel) (by decide +kernel) ?_
  refine zl_arg (pc := 1803) (j := 3) (ls := [(0, sS), (1, sR 0), (2, sR 287), (3, sR 312), (4, sI i)]) C hX hi (by decide) rfl rfl (by decide +kernel) (by decide +kernel) (by decide +kernel) (by decide +kernel) (by decide +kernel) (by decide +kernel) ?_
  refine zl_arg (pc := 1809) (j := 4) (ls := [(0, sS), (1, sR 0), (2, sR 287), (3, sR 312), (4, sI i)]) C hX hi (by decide) rfl rfl (by decide +kernel) (by decide +kernel) (by decide +kernel) (by decide +kernel) (by decide +kernel) (by decide +kernel) ?_
  refine zs_aload_n (pc := 1815) (k := 3) (i := 3) C (by decide +kernel) rfl rfl ?_
  refine zs_csX (pc := 1816) (As := [sR 0, sI (ar xs i 1), sI (ar xs i 2), sI (ar xs i 3), sI (ar xs i 4), sR 312]) (st := []) C (fun _ _ _ => rfl) rfl (c_L_ways l g hl (ar xs i 1) (ar xs i 2) (ar xs i 3) (ar xs i 4)) mx_231 rfl rfl (Nat.le_of_ble_eq_true rfl) ⟨Nat.le_of_ble_eq_true rfl, Nat.le_of_ble_eq_true rfl⟩ (by constructor <;> simp only [rmd] <;> omega) (by decide +kernel) (fun k1 => ?_)
  refine zs_istore (pc := 1819) (i := 5) (ls' := [(5, sI k1), (0, sS), (1, sR 0), (2, sR 287), (3, sR 312), (4, sI i)]) C (by decide +kernel) (Nat.le_of_ble_eq_true rfl) rfl ?_
  refine zs_aload_n (pc := 1821) (k := 2) (i := 2) C (by decide +kernel) rfl rfl ?_
  refine zl_arg (pc := 1822) (j := 1) (ls := [(5, sI k1), (0, sS), (1, sR 0), (2, sR 287), (3, sR 312), (4, sI i)]) C hX hi (by decide) rfl rfl (by decide +kernel) (by decide +kernel) (by decide +kernel) (by decide +kernel) (by decide +kernel) (by decide +kernel) ?_
  refine zl_arg (pc := 1828) (j := 2) (ls := [(5, sI k1), (0, sS), (1, sR 0), (2, sR 287), (3, sR 312), (4, sI i)]) C hX hi (by decide) rfl rfl (by decide +kernel) (by decide +kernel) (by decide +kernel) (by decide +kernel) (by decide +kernel) (by decide +kernel) ?_
  refine zl_arg (pc := 1834) (j := 3) (ls := [(5, sI k1), (0, sS), (1, sR 0), (2, sR 287), (3, sR 312), (4, sI i)]) C hX hi (by decide) rfl rfl (by decide +kernel) (by decide +kernel) (by decide +kernel) (by decide +kernel) (by decide +kernel) (by decide +kernel) ?_
  refine zl_arg (pc := 1840) (j := 4) (ls := [(5, sI k1), (0, sS), (1, sR 0), (2, sR 287), (3, sR 312), (4, sI i)]) C hX hi (by decide) rfl rfl (by decide +kernel) (by decide +kernel) (by decide +kernel) (by decide +kernel) (by decide +kernel) (by decide +kernel) ?_
  refine zs_cvWl (pc := 1846) (As := [sI (ar xs i 1), sI (ar xs i 2), sI (ar xs i 3), sI (ar xs i 4)]) (st := []) C (fun _ _ _ => rfl) (c_X12_ways l g (ar xs i 1) (ar xs i 2) (ar xs i 3) (ar xs i 4)) ml_RL_233 rfl rfl rfl rfl (Nat.le_of_ble_eq_true rfl) ⟨Nat.le_of_ble_eq_true rfl, Nat.le_of_ble_eq_true rfl⟩ (by constructor <;> simp only [rmd] <;> omega) (by decide +kernel) (fun v2 => ?_)
  refine zs_lstore (pc := 1849) (i := 6) (ls' := [(6, sL v2), (5, sI k1), (0, sS), (1, sR 0), (2, sR 287), (3, sR 312), (4, sI i)]) C (by decide +kernel) (Nat.le_of_ble_eq_true rfl) rfl ?_
  refine zs_aload_n (pc := 1851) (k := 2) (i := 2) C (by decide +kernel) rfl rfl ?_
  refine zs_cvRi (pc := 1852) (As := []) (st := []) C rfl (c_X12_thrown l g ) ml_RL_156 rfl rfl rfl rfl (Nat.le_of_ble_eq_true rfl) ⟨Nat.le_of_ble_eq_true rfl, Nat.le_of_ble_eq_true rfl⟩ (by constructor <;> simp only [rmd] <;> omega) (by decide +kernel) (fun t3 => ?_)
  refine zs_iload (pc := 1855) (i := 5) C (by decide +kernel) rfl ?_
  refine zs_icmp_eq (pc := 1857) (off := 5) (tgt := 1862) C (by decide +kernel) (by decide) ?_ zs_none
  refine zs_iload (pc := 1862) (i := 5) C (by decide +kernel) rfl ?_
  refine zs_if_ne (pc := 1864) (off := 14) (tgt := 1878) C (by decide +kernel) (by decide) ?_ ?_
  · refine zs_goto (pc := 1878) (off := 1184) (tgt := 3062) C (by decide +kernel) (by decide) ?_
    exact zs_sub (ls' := [(0, sS), (1, sR 0), (2, sR 287), (3, sR 312), (4, sI i)]) ⟨rfl, rfl, rfl, rfl, rfl, trivial⟩ (K _ _ (by simp only [rmd]; omega) (by simp only [rmd]; omega))
  · refine zs_aload_n (pc := 1867) (k := 3) (i := 3) C (by decide +kernel) rfl rfl ?_
    refine zs_iconst (pc := 1868) (n := 0) (x := 0) C (by decide +kernel) (by decide +kernel) ?_
    refine zs_laldk (pc := 1869) (o := 312) (n := 1) (i := 0) C ⟨by decide, by decide⟩ (by decide +kernel) rfl (fun z4 => ?_)
    refine zs_lload (pc := 1870) (i := 6) C (by decide +kernel) rfl ?_
    refine zs_lcmp_eq (pc := 1872) (off := 5) (tgt := 1878) C (by decide +kernel) (by decide +kernel) (by decide) ?_ zs_none
    refine zs_goto (pc := 1878) (off := 1184) (tgt := 3062) C (by decide +kernel) (by decide) ?_
    exact zs_sub (ls' := [(0, sS), (1, sR 0), (2, sR 287), (3, sR 312), (4, sI i)]) ⟨rfl, rfl, rfl, rfl, rfl, trivial⟩ (K _ _ (by simp only [rmd]; omega) (by simp only [rmd]; omega))

set_option maxRecDepth 20000 in
theorem lc_25 {p : Program} {l : Launch} {e : Env} {s : State} {m : MethodId} {args : Array Value} {below : List Frame} {meth : Method} {c : Code} {g : GC} {L : Nat} {xs : Nat → Int32} {i : Int} {kc ks : Nat} {Q : State → Prop} {PK : Mem → Option Unit} (C : Bd g RL code 8 p s m args meth c) (hX : ScrX g L xs s) (hl : l.stackTraces = false) (hi : 0 ≤ i ∧ i + 6 ≤ (L : Int)) (hk : kc + 8 ≤ room_1.cells ∧ ks + 48 ≤ room_1.slots)
    (K : ∀ kc' ks', kc' ≤ kc + 8 → ks' ≤ ks + 48 → Sim p l e room_1 s m args below meth c g 8 (fun (_ : Unit) _ => Q) kc' ks' 3062 [(0, sS), (1, sR 0), (2, sR 287), (3, sR 312), (4, sI i)] [] PK) : Sim p l e room_1 s m args below meth c g 8 (fun (_ : Unit) _ => Q) kc ks 1881 [(0, sS), (1, sR 0), (2, sR 287), (3, sR 312), (4, sI i)] [] (PX (fun mm => fL_alone (ar xs i 1) (ar xs i 2) (ar xs i 3) mm) (fun mm => fX12_alone (ar xs i 1) (ar xs i 2) (ar xs i 3) mm) PK) := by
  obtain ⟨hk1, hk2⟩ := hk
  unfold PX
  refine zs_aload_n (pc := 1881) (k := 1) (i := 1) C (by decide +kernel) rfl rfl ?_
  refine zl_arg (pc := 1882) (j := 1) (ls := [(0, sS), (1, sR 0), (2, sR 287), (3, sR 312), (4, sI i)]) C hX hi (by decide) rfl rfl (by decide +kernel) (by decide +kernel) (by decide +kernel) (by decide +kernel) (by decide +kernel) (by decide +kernel) ?_
  refine zl_arg (pc := 1888) (j := 2) (ls := [(0, sS), (1, sR 0), (2, sR 287), (3, sR 312), (4, sI i)]) C hX hi (by decide) rfl rfl (by decide +kernel) (by decide +kernel) (by decide +kernel) (by decide +kernel) (by decide +kernel) (by decide +kernel) ?_
  refine zl_arg (pc := 1894) (j := 3) (ls := [(0, sS), (1, sR 0), (2, sR 287), (3, sR 312), (4, sI i)]) C hX hi (by decide) rfl rfl (by decide +kernel) (by decide +kernel) (by decide +kernel) (by decide +kernel) (by decide +kernel) (by decide +kernel) ?_
  refine zs_aload_n (pc := 1900) (k := 3) (i := 3) C (by decide +kernel) rfl rfl ?_
  refine zs_csX (pc := 1901) (As := [sR 0, sI (ar xs i 1), sI (ar xs i 2), sI (ar xs i 3), sR 312]) (st := []) C (fun _ _ _ => rfl) rfl (c_L_alone l g hl (ar xs i 1) (ar xs i 2) (ar xs i 3)) mx_234 rfl rfl (Nat.le_of_ble_eq_true rfl) ⟨Nat.le_of_ble_eq_true rfl, Nat.le_of_ble_eq_true rfl⟩ (by constructor <;> simp only [rmd] <;> omega) (by decide +kernel) (fun k1 => ?_)
  refine zs_istore (pc := 1904) (i := 5) (ls' := [(5, sI k1), (0, sS), (1, sR 0), (2, sR 287), (3, sR 312), (4, sI i)]) C (by decide +kernel) (Nat.le_of_ble_eq_true rfl) rfl ?_
  refine zs_aload_n (pc := 1906) (k := 2) (i := 2) C (by decide +kernel) rfl rfl ?_
  refine zl_arg (pc := 1907) (j := 1) (ls := [(5, sI k1), (0, sS), (1, sR 0), (2, sR 287), (3, sR 312), (4, sI i)]) C hX hi (by decide) rfl rfl (by decide +kernel) (by decide +kernel) (by decide +kernel) (by decide +kernel) (by decide +kernel) (by decide +kernel) ?_
  refine zl_arg (pc := 1913) (j := 2) (ls := [(5, sI k1), (0, sS), (1, sR 0), (2, sR 287), (3, sR 312), (4, sI i)]) C hX hi (by decide) rfl rfl (by decide +kernel) (by decide +kernel) (by decide +kernel) (by decide +kernel) (by decide +kernel) (by decide +kernel) ?_
  refine zl_arg (pc := 1919) (j := 3) (ls := [(5, sI k1), (0, sS), (1, sR 0), (2, sR 287), (3, sR 312), (4, sI i)]) C hX hi (by decide) rfl rfl (by decide +kernel) (by decide +kernel) (by decide +kernel) (by decide +kernel) (by decide +kernel) (by decide +kernel) ?_
  refine zs_cvWi (pc := 1925) (As := [sI (ar xs i 1), sI (ar xs i 2), sI (ar xs i 3)]) (st := []) C (fun _ _ _ => rfl) rfl (c_X12_alone l g (ar xs i 1) (ar xs i 2) (ar xs i 3)) ml_RL_236 rfl rfl rfl rfl (Nat.le_of_ble_eq_true rfl) ⟨Nat.le_of_ble_eq_true rfl, Nat.le_of_ble_eq_true rfl⟩ (by constructor <;> simp only [rmd] <;> omega) (by decide +kernel) (fun v2 => ?_)
  refine zs_istore (pc := 1928) (i := 6) (ls' := [(6, sI v2), (5, sI k1), (0, sS), (1, sR 0), (2, sR 287), (3, sR 312), (4, sI i)]) C (by decide +kernel) (Nat.le_of_ble_eq_true rfl) rfl ?_
  refine zs_aload_n (pc := 1930) (k := 2) (i := 2) C (by decide +kernel) rfl rfl ?_
  refine zs_cvRi (pc := 1931) (As := []) (st := []) C rfl (c_X12_thrown l g ) ml_RL_156 rfl rfl rfl rfl (Nat.le_of_ble_eq_true rfl) ⟨Nat.le_of_ble_eq_true rfl, Nat.le_of_ble_eq_true rfl⟩ (by constructor <;> simp only [rmd] <;> omega) (by decide +kernel) (fun t3 => ?_)
  refine zs_iload (pc := 1934) (i := 5) C (by decide +kernel) rfl ?_
  refine zs_icmp_eq (pc := 1936) (off := 5) (tgt := 1941) C (by decide +kernel) (by decide) ?_ zs_none
  refine zs_iload (pc := 1941) (i := 5) C (by decide +kernel) rfl ?_
  refine zs_if_ne (pc := 1943) (off := 15) (tgt := 1958) C (by decide +kernel) (by decide) ?_ ?_
  · refine zs_goto (pc := 1958) (off := 1104) (tgt := 3062) C (by decide +kernel) (by decide) ?_
    exact zs_sub (ls' := [(0, sS), (1, sR 0), (2, sR 287), (3, sR 312), (4, sI i)]) ⟨rfl, rfl, rfl, rfl, rfl, trivial⟩ (K _ _ (by simp only [rmd]; omega) (by simp only [rmd]; omega))
  · refine zs_aload_n (pc := 1946) (k := 3) (i := 3) C (by decide +kernel) rfl rfl ?_
    refine zs_iconst (pc := 1947) (n := 0) (x := 0) C (by decide +kernel) (by decide +kernel) ?_
    refine zs_laldk (pc := 1948) (o := 312) (n := 1) (i := 0) C ⟨by decide, by decide⟩ (by decide +kernel) rfl (fun z4 => ?_)
    refine zs_iload (pc := 1949) (i := 6) C (by decide +kernel) rfl ?_
    refine zs_i2l (pc := 1951) C (by decide +kernel) ?_
    refine zs_lcmp_eq (pc := 1952) (off := 5) (tgt := 1958) C (by decide +kernel) (by decide +kernel) (by decide) ?_ zs_none
    refine zs_goto (pc := 1958) (off := 1104) (tgt := 3062) C (by decide +kernel) (by decide) ?_
    exact zs_sub (ls' := [(0, sS), (1, sR 0), (2, sR 287), (3, sR 312), (4, sI i)]) ⟨rfl, rfl, rfl, rfl, rfl, trivial⟩ (K _ _ (by simp only [rmd]; omega) (by simp only [rmd]; omega))

set_option maxRecDepth 20000 in
theorem lc_26 {p : Program} {l : Launch} {e : Env} {s : State} {m : MethodId} {args : Array Value} {below : List Frame} {meth : Method} {c : Code} {g : GC} {L : Nat} {xs : Nat → Int32} {i : Int} {kc ks : Nat} {Q : State → Prop} {PK : Mem → Option Unit} (C : Bd g RL code 8 p s m args meth c) (hX : ScrX g L xs s) (hl : l.stackTraces = false) (hi : 0 ≤ i ∧ i + 6 ≤ (L : Int)) (hk : kc + 8 ≤ room_1.cells ∧ ks + 48 ≤ room_1.slots)
    (K : ∀ kc' ks', kc' ≤ kc + 8 → ks' ≤ ks + 48 → Sim p l e room_1 s m args below meth c g 8 (fun (_ : Unit) _ => Q) kc' ks' 3062 [(0, sS), (1, sR 0), (2, sR 287), (3, sR 312), (4, sI i)] [] PK) : Sim p l e room_1 s m args below meth c g 8 (fun (_ : Unit) _ => Q) kc ks 1961 [(0, sS), (1, sR 0), (2, sR 287), (3, sR 312), (4, sI i)] [] (PX (fun mm => fL_costs (ar xs i 1) (ar xs i 2) (ar xs i 3) mm) (fun mm => fX12_costs (ar xs i 1) (ar xs i 2) (ar xs i 3) mm) PK) := by
  obtain ⟨hk1, hk2⟩ := hk
  unfold PX
  refine zs_aload_n (pc := 1961) (k := 1) (i := 1) C (by decide +kernel) rfl rfl ?_
  refine zl_arg (pc := 1962) (j := 1) (ls := [(0, sS), (1, sR 0), (2, sR 287), (3, sR 312), (4, sI i)]) C hX hi (by decide) rfl rfl (by decide +kernel) (by decide +kernel) (by decide +kernel) (by decide +kernel) (by decide +kernel) (by decide +kernel) ?_
  refine zl_arg (pc := 1968) (j := 2) (ls := [(0, sS), (1, sR 0), (2, sR 287), (3, sR 312), (4, sI i)]) C hX hi (by decide) rfl rfl (by decide +kernel) (by decide +kernel) (by decide +kernel) (by decide +kernel) (by decide +kernel) (by decide +kernel) ?_
  refine zl_arg (pc := 1974) (j := 3) (ls := [(0, sS), (1, sR 0), (2, sR 287), (3, sR 312), (4, sI i)]) C hX hi (by decide) rfl rfl (by decide +kernel) (by decide +kernel) (by decide +kernel) (by decide +kernel) (by decide +kernel) (by decide +kernel) ?_
  refine zs_aload_n (pc := 1980) (k := 3) (i := 3) C (by decide +kernel) rfl rfl ?_
  refine zs_csX (pc := 1981) (As := [sR 0, sI (ar xs i 1), sI (ar xs i 2), sI (ar xs i 3), sR 312]) (st := []) C (fun _ _ _ => rfl) rfl (c_L_costs l g hl (ar xs i 1) (ar xs i 2) (ar xs i 3)) mx_237 rfl rfl (Nat.le_of_ble_eq_true rfl) ⟨Nat.le_of_ble_eq_true rfl, Nat.le_of_ble_eq_true rfl⟩ (by constructor <;> simp only [rmd] <;> omega) (by decide +kernel) (fun k1 => ?_)
  refine zs_istore (pc := 1984) (i := 5) (ls' := [(5, sI k1), (0, sS), (1, sR 0), (2, sR 287), (3, sR 312), (4, sI i)]) C (by decide +kernel) (Nat.le_of_ble_eq_true rfl) rfl ?_
  refine zs_aload_n (pc := 1986) (k := 2) (i := 2) C (by decide +kernel) rfl rfl ?_
  refine zl_arg (pc := 1987) (j := 1) (ls := [(5, sI k1), (0, sS), (1, sR 0), (2, sR 287), (3, sR 312), (4, sI i)]) C hX hi (by decide) rfl rfl (by decide +kernel) (by decide +kernel) (by decide +kernel) (by decide +kernel) (by decide +kernel) (by decide +kernel) ?_
  refine zl_arg (pc := 1993) (j := 2) (ls := [(5, sI k1), (0, sS), (1, sR 0), (2, sR 287), (3, sR 312), (4, sI i)]) C hX hi (by decide) rfl rfl (by decide +kernel) (by decide +kernel) (by decide +kernel) (by decide +kernel) (by decide +kernel) (by decide +kernel) ?_
  refine zl_arg (pc := 1999) (j := 3) (ls := [(5, sI k1), (0, sS), (1, sR 0), (2, sR 287), (3, sR 312), (4, sI i)]) C hX hi (by decide) rfl rfl (by decide +kernel) (by decide +kernel) (by decide +kernel) (by decide +kernel) (by decide +kernel) (by decide +kernel) ?_
  refine zs_cvWi (pc := 2005) (As := [sI (ar xs i 1), sI (ar xs i 2), sI (ar xs i 3)]) (st := []) C (fun _ _ _ => rfl) rfl (c_X12_costs l g (ar xs i 1) (ar xs i 2) (ar xs i 3)) ml_RL_239 rfl rfl rfl rfl (Nat.le_of_ble_eq_true rfl) ⟨Nat.le_of_ble_eq_true rfl, Nat.le_of_ble_eq_true rfl⟩ (by constructor <;> simp only [rmd] <;> omega) (by decide +kernel) (fun v2 => ?_)
  refine zs_istore (pc := 2008) (i := 6) (ls' := [(6, sI v2), (5, sI k1), (0, sS), (1, sR 0), (2, sR 287), (3, sR 312), (4, sI i)]) C (by decide +kernel) (Nat.le_of_ble_eq_true rfl) rfl ?_
  refine zs_aload_n (pc := 2010) (k := 2) (i := 2) C (by decide +kernel) rfl rfl ?_
  refine zs_cvRi (pc := 2011) (As := []) (st := []) C rfl (c_X12_thrown l g ) ml_RL_156 rfl rfl rfl rfl (Nat.le_of_ble_eq_true rfl) ⟨Nat.le_of_ble_eq_true rfl, Nat.le_of_ble_eq_true rfl⟩ (by constructor <;> simp only [rmd] <;> omega) (by decide +kernel) (fun t3 => ?_)
  refine zs_iload (pc := 2014) (i := 5) C (by decide +kernel) rfl ?_
  refine zs_icmp_eq (pc := 2016) (off := 5) (tgt := 2021) C (by decide +kernel) (by decide) ?_ zs_none
  refine zs_iload (pc := 2021) (i := 5) C (by decide +kernel) rfl ?_
  refine zs_if_ne (pc := 2023) (off := 15) (tgt := 2038) C (by decide +kernel) (by decide) ?_ ?_
  · refine zs_goto (pc := 2038) (off := 1024) (tgt := 3062) C (by decide +kernel) (by decide) ?_
    exact zs_sub (ls' := [(0, sS), (1, sR 0), (2, sR 287), (3, sR 312), (4, sI i)]) ⟨rfl, rfl, rfl, rfl, rfl, trivial⟩ (K _ _ (by simp only [rmd]; omega) (by simp only [rmd]; omega))
  · refine zs_aload_n (pc := 2026) (k := 3) (i := 3) C (by decide +kernel) rfl rfl ?_
    refine zs_iconst (pc := 2027) (n := 0) (x := 0) C (by decide +kernel) (by decide +kernel) ?_
    refine zs_laldk (pc := 2028) (o := 312) (n := 1) (i := 0) C ⟨by decide, by decide⟩ (by decide +kernel) rfl (fun z4 => ?_)
    refine zs_iload (pc := 2029) (i := 6) C (by decide +kernel) rfl ?_
    refine zs_i2l (pc := 2031) C (by decide +kernel) ?_
    refine zs_lcmp_eq (pc := 2032) (off := 5) (tgt := 2038) C (by decide +kernel) (by decide +kernel) (by decide) ?_ zs_none
    refine zs_goto (pc := 2038) (off := 1024) (tgt := 3062) C (by decide +kernel) (by decide) ?_
    exact zs_sub (ls' := [(0, sS), (1, sR 0), (2, sR 287), (3, sR 312), (4, sI i)]) ⟨rfl, rfl, rfl, rfl, rfl, trivial⟩ (K _ _ (by simp only [rmd]; omega) (by simp only [rmd]; omega))

set_option maxRecDepth 20000 in
theorem lc_27 {p : Program} {l : Launch} {e : Env} {s : State} {m : MethodId} {args : Array Value} {below : List Frame} {meth : Method} {c : Code} {g : GC} {L : Nat} {xs : Nat → Int32} {i : Int} {kc ks : Nat} {Q : State → Prop} {PK : Mem → Option Unit} (C : Bd g RL code 8 p s m args meth c) (hX : ScrX g L xs s) (hl : l.stackTraces = false) (hi : 0 ≤ i ∧ i + 6 ≤ (L : Int)) (hk : kc + 8 ≤ room_1.cells ∧ ks + 48 ≤ room_1.slots)
    (K : ∀ kc' ks', kc' ≤ kc + 8 → ks' ≤ ks + 48 → Sim p l e room_1 s m args below meth c g 8 (fun (_ : Unit) _ => Q) kc' ks' 3062 [(0, sS), (1, sR 0), (2, sR 287), (3, sR 312), (4, sI i)] [] PK) : Sim p l e room_1 s m args below meth c g 8 (fun (_ : Unit) _ => Q) kc ks 2041 [(0, sS), (1, sR 0), (2, sR 287), (3, sR 312), (4, sI i)] [] (PX (fun mm => fL_leastRope (ar xs i 1) (ar xs i 2) (ar xs i 3) mm) (fun mm => fX12_leastRope (ar xs i 1) (ar xs i 2) (ar xs i 3) mm) PK) := by
  obtain ⟨hk1, hk2⟩ := hk
  unfold PX
  refine zs_aload_n (pc := 2041) (k := 1) (i := 1) C (by decide +kernel) rfl rfl ?_
  refine zl_arg (pc := 2042) (j := 1) (ls := [(0, sS), (1, sR 0), (2, sR 287), (3, sR 312), (4, sI i)]) C hX hi (by decide) rfl rfl (by decide +kernel) (by decide +kernel) (by decide +kernel) (by decide +kernel) (by decide +kernel) (by decide +kernel) ?_
  refine zl_arg (pc := 2048) (j := 2) (ls := [(0, sS), (1, sR 0), (2, sR 287), (3, sR 312), (4, sI i)]) C hX hi (by decide) rfl rfl (by decide +kernel) (by decide +kernel) (by decide +kernel) (by decide +kernel) (by decide +kernel) (by decide +kernel) ?_
  refine zl_arg (pc := 2054) (j := 3) (ls := [(0, sS), (1, sR 0), (2, sR 287), (3, sR 312), (4, sI i)]) C hX hi (by decide) rfl rfl (by decide +kernel) (by decide +kernel) (by decide +kernel) (by decide +kernel) (by decide +kernel) (by decide +kernel) ?_
  refine zs_aload_n (pc := 2060) (k := 3) (i := 3) C (by decide +kernel) rfl rfl ?_
  refine zs_csX (pc := 2061) (As := [sR 0, sI (ar xs i 1), sI (ar xs i 2), sI (ar xs i 3), sR 312]) (st := []) C (fun _ _ _ => rfl) rfl (c_L_leastRope l g hl (ar xs i 1) (ar xs i 2) (ar xs i 3)) mx_240 rfl rfl (Nat.le_of_ble_eq_true rfl) ⟨Nat.le_of_ble_eq_true rfl, Nat.le_of_ble_eq_true rfl⟩ (by constructor <;> simp only [rmd] <;> omega) (by decide +kernel) (fun k1 => ?_)
  refine zs_istore (pc := 2064) (i := 5) (ls' := [(5, sI k1), (0, sS), (1, sR 0), (2, sR 287), (3, sR 312), (4, sI i)]) C (by decide +kernel) (Nat.le_of_ble_eq_true rfl) rfl ?_
  refine zs_aload_n (pc := 2066) (k := 2) (i := 2) C (by decide +kernel) rfl rfl ?_
  refine zl_arg (pc := 2067) (j := 1) (ls := [(5, sI k1), (0, sS), (1, sR 0), (2, sR 287), (3, sR 312), (4, sI i)]) C hX hi (by decide) rfl rfl (by decide +kernel) (by decide +kernel) (by decide +kernel) (by decide +kernel) (by decide +kernel) (by decide +kernel) ?_
  refine zl_arg (pc := 2073) (j := 2) (ls := [(5, sI k1), (0, sS), (1, sR 0), (2, sR 287), (3, sR 312), (4, sI i)]) C hX hi (by decide) rfl rfl (by decide +kernel) (by decide +kernel) (by decide +kernel) (by decide +kernel) (by decide +kernel) (by decide +kernel) ?_
  refine zl_arg (pc := 2079) (j := 3) (ls := [(5, sI k1), (0, sS), (1, sR 0), (2, sR 287), (3, sR 312), (4, sI i)]) C hX hi (by decide) rfl rfl (by decide +kernel) (by decide +kernel) (by decide +kernel) (by decide +kernel) (by decide +kernel) (by decide +kernel) ?_
  refine zs_cvWi (pc := 2085) (As := [sI (ar xs i 1), sI (ar xs i 2), sI (ar xs i 3)]) (st := []) C (fun _ _ _ => rfl) rfl (c_X12_leastRope l g (ar xs i 1) (ar xs i 2) (ar xs i 3)) ml_RL_242 rfl rfl rfl rfl (Nat.le_of_ble_eq_true rfl) ⟨Nat.le_of_ble_eq_true rfl, Nat.le_of_ble_eq_true rfl⟩ (by constructor <;> simp only [rmd] <;> omega) (by decide +kernel) (fun v2 => ?_)
  refine zs_istore (pc := 2088) (i := 6) (ls' := [(6, sI v2), (5, sI k1), (0, sS), (1, sR 0), (2, sR 287), (3, sR 312), (4, sI i)]) C (by decide +kernel) (Nat.le_of_ble_eq_true rfl) rfl ?_
  refine zs_aload_n (pc := 2090) (k := 2) (i := 2) C (by decide +kernel) rfl rfl ?_
  refine zs_cvRi (pc := 2091) (As := []) (st := []) C rfl (c_X12_thrown l g ) ml_RL_156 rfl rfl rfl rfl (Nat.le_of_ble_eq_true rfl) ⟨Nat.le_of_ble_eq_true rfl, Nat.le_of_ble_eq_true rfl⟩ (by constructor <;> simp only [rmd] <;> omega) (by decide +kernel) (fun t3 => ?_)
  refine zs_iload (pc := 2094) (i := 5) C (by decide +kernel) rfl ?_
  refine zs_icmp_eq (pc := 2096) (off := 5) (tgt := 2101) C (by decide +kernel) (by decide) ?_ zs_none
  refine zs_iload (pc := 2101) (i := 5) C (by decide +kernel) rfl ?_
  refine zs_if_ne (pc := 2103) (off := 15) (tgt := 2118) C (by decide +kernel) (by decide) ?_ ?_
  · refine zs_goto (pc := 2118) (off := 944) (tgt := 3062) C (by decide +kernel) (by decide) ?_
    exact zs_sub (ls' := [(0, sS), (1, sR 0), (2, sR 287), (3, sR 312), (4, sI i)]) ⟨rfl, rfl, rfl, rfl, rfl, trivial⟩ (K _ _ (by simp only [rmd]; omega) (by simp only [rmd]; omega))
  · refine zs_aload_n (pc := 2106) (k := 3) (i := 3) C (by decide +kernel) rfl rfl ?_
    refine zs_iconst (pc := 2107) (n := 0) (x := 0) C (by decide +kernel) (by decide +kernel) ?_
    refine zs_laldk (pc := 2108) (o := 312) (n := 1) (i := 0) C ⟨by decide, by decide⟩ (by decide +kernel) rfl (fun z4 => ?_)
    refine zs_iload (pc := 2109) (i := 6) C (by decide +kernel) rfl ?_
    refine zs_i2l (pc := 2111) C (by decide +kernel) ?_
    refine zs_lcmp_eq (pc := 2112) (off := 5) (tgt := 2118) C (by decide +kernel) (by decide +kernel) (by decide) ?_ zs_none
    refine zs_goto (pc := 2118) (off := 944) (tgt := 3062) C (by decide +kernel) (by decide) ?_
    exact zs_sub (ls' := [(0, sS), (1, sR 0), (2, sR 287), (3, sR 312), (4, sI i)]) ⟨rfl, rfl, rfl, rfl, rfl, trivial⟩ (K _ _ (by simp only [rmd]; omega) (by simp only [rmd]; omega))

set_option maxRecDepth 20000 in
theorem lc_28 {p : Program} {l : Launch} {e : Env} {s : State} {m : MethodId} {args : Array Value} {below : List Frame} {meth : Method} {c : Code} {g : GC} {L : Nat} {xs : Nat → Int32} {i : Int} {kc ks : Nat} {Q : State → Prop} {PK : Mem → Option Unit} (C : Bd g RL code 8 p s m args meth c) (hX : ScrX g L xs s) (hl : l.stackTraces = false) (hi : 0 ≤ i ∧ i + 6 ≤ (L : Int)) (hk : kc + 8 ≤ room_1.cells ∧ ks + 48 ≤ room_1.slots)
    (K : ∀ kc' ks', kc' ≤ kc + 8 → ks' ≤ ks + 48 → Sim p l e room_1 s m args below meth c g 8 (fun (_ : Unit) _ => Q) kc' ks' 3062 [(0, sS), (1, sR 0), (2, sR 287), (3, sR 312), (4, sI i)] [] PK) : Sim p l e room_1 s m args below meth c g 8 (fun (_ : Unit) _ => Q) kc ks 2121 [(0, sS), (1, sR 0), (2, sR 287), (3, sR 312), (4, sI i)] [] (PX (fun mm => fL_needed (ar xs i 1) (ar xs i 2) (ar xs i 3) mm) (fun mm => fX12_needed (ar xs i 1) (ar xs i 2) (ar xs i 3) mm) PK) := by
  obtain ⟨hk1, hk2⟩ := hk
  unfold PX
  refine zs_aload_n (pc := 2121) (k := 1) (i := 1) C (by decide +kernel) rfl rfl ?_
  refine zl_arg (pc := 2122) (j := 1) (ls := [(0, sS), (1, sR 0), (2, sR 287), (3, sR 312), (4, sI i)]) C hX hi (by decide) rfl rfl (by decide +kernel) (by decide +kernel) (by decide +kernel) (by decide +kernel) (by decide +kernel) (by decide +kernel) ?_
  refine zl_arg (pc := 2128) (j := 2) (ls := [(0, sS), (1, sR 0), (2, sR 287), (3, sR 312), (4, sI i)]) C hX hi (by decide) rfl rfl (by decide +kernel) (by decide +kernel) (by decide +kernel) (by decide +kernel) (by decide +kernel) (by decide +kernel) ?_
  refine zl_arg (pc := 2134) (j := 3) (ls := [(0, sS), (1, sR 0), (2, sR 287), (3, sR 312), (4, sI i)]) C hX hi (by decide) rfl rfl (by decide +kernel) (by decide +kernel) (by decide +kernel) (by decide +kernel) (by decide +kernel) (by decide +kernel) ?_
  refine zs_aload_n (pc := 2140) (k := 3) (i := 3) C (by decide +kernel) rfl rfl ?_
  refine zs_csX (pc := 2141) (As := [sR 0, sI (ar xs i 1), sI (ar xs i 2), sI (ar xs i 3), sR 312]) (st := []) C (fun _ _ _ => rfl) rfl (c_L_needed l g hl (ar xs i 1) (ar xs i 2) (ar xs i 3)) mx_243 rfl rfl (Nat.le_of_ble_eq_true rfl) ⟨Nat.le_of_ble_eq_true rfl, Nat.le_of_ble_eq_true rfl⟩ (by constructor <;> simp only [rmd] <;> omega) (by decide +kernel) (fun k1 => ?_)
  refine zs_istore (pc := 2144) (i := 5) (ls' := [(5, sI k1), (0, sS), (1, sR 0), (2, sR 287), (3, sR 312), (4, sI i)]) C (by decide +kernel) (Nat.le_of_ble_eq_true rfl) rfl ?_
  refine zs_aload_n (pc := 2146) (k := 2) (i := 2) C (by decide +kernel) rfl rfl ?_
  refine zl_arg (pc := 2147) (j := 1) (ls := [(5, sI k1), (0, sS), (1, sR 0), (2, sR 287), (3, sR 312), (4, sI i)]) C hX hi (by decide) rfl rfl (by decide +kernel) (by decide +kernel) (by decide +kernel) (by decide +kernel) (by decide +kernel) (by decide +kernel) ?_
  refine zl_arg (pc := 2153) (j := 2) (ls := [(5, sI k1), (0, sS), (1, sR 0), (2, sR 287), (3, sR 312), (4, sI i)]) C hX hi (by decide) rfl rfl (by decide +kernel) (by decide +kernel) (by decide +kernel) (by decide +kernel) (by decide +kernel) (by decide +kernel) ?_
  refine zl_arg (pc := 2159) (j := 3) (ls := [(5, sI k1), (0, sS), (1, sR 0), (2, sR 287), (3, sR 312), (4, sI i)]) C hX hi (by decide) rfl rfl (by decide +kernel) (by decide +kernel) (by decide +kernel) (by decide +kernel) (by decide +kernel) (by decide +kernel) ?_
  refine zs_cvWi (pc := 2165) (As := [sI (ar xs i 1), sI (ar xs i 2), sI (ar xs i 3)]) (st := []) C (fun _ _ _ => rfl) rfl (c_X12_needed l g (ar xs i 1) (ar xs i 2) (ar xs i 3)) ml_RL_245 rfl rfl rfl rfl (Nat.le_of_ble_eq_true rfl) ⟨Nat.le_of_ble_eq_true rfl, Nat.le_of_ble_eq_true rfl⟩ (by constructor <;> simp only [rmd] <;> omega) (by decide +kernel) (fun v2 => ?_)
  refine zs_istore (pc := 2168) (i := 6) (ls' := [(6, sI v2), (5, sI k1), (0, sS), (1, sR 0), (2, sR 287), (3, sR 312), (4, sI i)]) C (by decide +kernel) (Nat.le_of_ble_eq_true rfl) rfl ?_
  refine zs_aload_n (pc := 2170) (k := 2) (i := 2) C (by decide +kernel) rfl rfl ?_
  refine zs_cvRi (pc := 2171) (As := []) (st := []) C rfl (c_X12_thrown l g ) ml_RL_156 rfl rfl rfl rfl (Nat.le_of_ble_eq_true rfl) ⟨Nat.le_of_ble_eq_true rfl, Nat.le_of_ble_eq_true rfl⟩ (by constructor <;> simp only [rmd] <;> omega) (by decide +kernel) (fun t3 => ?_)
  refine zs_iload (pc := 2174) (i := 5) C (by decide +kernel) rfl ?_
  refine zs_icmp_eq (pc := 2176) (off := 5) (tgt := 2181) C (by decide +kernel) (by decide) ?_ zs_none
  refine zs_iload (pc := 2181) (i := 5) C (by decide +kernel) rfl ?_
  refine zs_if_ne (pc := 2183) (off := 15) (tgt := 2198) C (by decide +kernel) (by decide) ?_ ?_
  · refine zs_goto (pc := 2198) (off := 864) (tgt := 3062) C (by decide +kernel) (by decide) ?_
    exact zs_sub (ls' := [(0, sS), (1, sR 0), (2, sR 287), (3, sR 312), (4, sI i)]) ⟨rfl, rfl, rfl, rfl, rfl, trivial⟩ (K _ _ (by simp only [rmd]; omega) (by simp only [rmd]; omega))
  · refine zs_aload_n (pc := 2186) (k := 3) (i := 3) C (by decide +kernel) rfl rfl ?_
    refine zs_iconst (pc := 2187) (n := 0) (x := 0) C (by decide +kernel) (by decide +kernel) ?_
    refine zs_laldk (pc := 2188) (o := 312) (n := 1) (i := 0) C ⟨by decide, by decide⟩ (by decide +kernel) rfl (fun z4 => ?_)
    refine zs_iload (pc := 2189) (i := 6) C (by decide +kernel) rfl ?_
    refine zs_i2l (pc := 2191) C (by decide +kernel) ?_
    refine zs_lcmp_eq (pc := 2192) (off := 5) (tgt := 2198) C (by decide +kernel) (by decide +kernel) (by decide) ?_ zs_none
    refine zs_goto (pc := 2198) (off := 864) (tgt := 3062) C (by decide +kernel) (by decide) ?_
    exact zs_sub (ls' := [(0, sS), (1, sR 0), (2, sR 287), (3, sR 312), (4, sI i)]) ⟨rfl, rfl, rfl, rfl, rfl, trivial⟩ (K _ _ (by simp only [rmd]; omega) (by simp only [rmd]; omega))

set_option maxRecDepth 20000 in
theorem lc_29 {p : Program} {l : Launch} {e : Env} {s : State} {m : MethodId} {args : Array Value} {below : List Frame} {meth : Method} {c : Code} {g : GC} {L : Nat} {xs : Nat → Int32} {i : Int} {kc ks : Nat} {Q : State → Prop} {PK : Mem → Option Unit} (C : Bd g RL code 8 p s m args meth c) (hX : ScrX g L xs s) (hl : l.stackTraces = false) (hi : 0 ≤ i ∧ i + 6 ≤ (L : Int)) (hk : kc + 8 ≤ room_1.cells ∧ ks + 48 ≤ room_1.slots)
    (K : ∀ kc' ks', kc' ≤ kc + 8 → ks' ≤ ks + 48 → Sim p l e room_1 s m args below meth c g 8 (fun (_ : Unit) _ => Q) kc' ks' 3062 [(0, sS), (1, sR 0), (2, sR 287), (3, sR 312), (4, sI i)] [] PK) : Sim p l e room_1 s m args below meth c g 8 (fun (_ : Unit) _ => Q) kc ks 2201 [(0, sS), (1, sR 0), (2, sR 287), (3, sR 312), (4, sI i)] [] (PX (fun mm => fL_clear (ar xs i 1) (ar xs i 2) (ar xs i 3) mm) (fun mm => fX12_clear (ar xs i 1) (ar xs i 2) (ar xs i 3) mm) PK) := by
  obtain ⟨hk1, hk2⟩ := hk
  unfold PX
  refine zs_aload_n (pc := 2201) (k := 1) (i := 1) C (by decide +kernel) rfl rfl ?_
  refine zl_arg (pc := 2202) (j := 1) (ls := [(0, sS), (1, sR 0), (2, sR 287), (3, sR 312), (4, sI i)]) C hX hi (by decide) rfl rfl (by decide +kernel) (by decide +kernel) (by decide +kernel) (by decide +kernel) (by decide +kernel) (by decide +kernel) ?_
  refine zl_arg (pc := 2208) (j := 2) (ls := [(0, sS), (1, sR 0), (2, sR 287), (3, sR 312), (4, sI i)]) C hX hi (by decide) rfl rfl (by decide +kernel) (by decide +kernel) (by decide +kernel) (by decide +kernel) (by decide +kernel) (by decide +kernel) ?_
  refine zl_arg (pc := 2214) (j := 3) (ls := [(0, sS), (1, sR 0), (2, sR 287), (3, sR 312), (4, sI i)]) C hX hi (by decide) rfl rfl (by decide +kernel) (by decide +kernel) (by decide +kernel) (by decide +kernel) (by decide +kernel) (by decide +kernel) ?_
  refine zs_aload_n (pc := 2220) (k := 3) (i := 3) C (by decide +kernel) rfl rfl ?_
  refine zs_csX (pc := 2221) (As := [sR 0, sI (ar xs i 1), sI (ar xs i 2), sI (ar xs i 3), sR 312]) (st := []) C (fun _ _ _ => rfl) rfl (c_L_clear l g hl (ar xs i 1) (ar xs i 2) (ar xs i 3)) mx_246 rfl rfl (Nat.le_of_ble_eq_true rfl) ⟨Nat.le_of_ble_eq_true rfl, Nat.le_of_ble_eq_true rfl⟩ (by constructor <;> simp only [rmd] <;> omega) (by decide +kernel) (fun k1 => ?_)
  refine zs_istore (pc := 2224) (i := 5) (ls' := [(5, sI k1), (0, sS), (1, sR 0), (2, sR 287), (3, sR 312), (4, sI i)]) C (by decide +kernel) (Nat.le_of_ble_eq_true rfl) rfl ?_
  refine zs_aload_n (pc := 2226) (k := 2) (i := 2) C (by decide +kernel) rfl rfl ?_
  refine zl_arg (pc := 2227) (j := 1) (ls := [(5, sI k1), (0, sS), (1, sR 0), (2, sR 287), (3, sR 312), (4, sI i)]) C hX hi (by decide) rfl rfl (by decide +kernel) (by decide +kernel) (by decide +kernel) (by decide +kernel) (by decide +kernel) (by decide +kernel) ?_
  refine zl_arg (pc := 2233) (j := 2) (ls := [(5, sI k1), (0, sS), (1, sR 0), (2, sR 287), (3, sR 312), (4, sI i)]) C hX hi (by decide) rfl rfl (by decide +kernel) (by decide +kernel) (by decide +kernel) (by decide +kernel) (by decide +kernel) (by decide +kernel) ?_
  refine zl_arg (pc := 2239) (j := 3) (ls := [(5, sI k1), (0, sS), (1, sR 0), (2, sR 287), (3, sR 312), (4, sI i)]) C hX hi (by decide) rfl rfl (by decide +kernel) (by decide +kernel) (by decide +kernel) (by decide +kernel) (by decide +kernel) (by decide +kernel) ?_
  refine zs_cvWi (pc := 2245) (As := [sI (ar xs i 1), sI (ar xs i 2), sI (ar xs i 3)]) (st := []) C (fun _ _ _ => rfl) rfl (c_X12_clear l g (ar xs i 1) (ar xs i 2) (ar xs i 3)) ml_RL_248 rfl rfl rfl rfl (Nat.le_of_ble_eq_true rfl) ⟨Nat.le_of_ble_eq_true rfl, Nat.le_of_ble_eq_true rfl⟩ (by constructor <;> simp only [rmd] <;> omega) (by decide +kernel) (fun v2 => ?_)
  refine zs_istore (pc := 2248) (i := 6) (ls' := [(6, sI v2), (5, sI k1), (0, sS), (1, sR 0), (2, sR 287), (3, sR 312), (4, sI i)]) C (by decide +kernel) (Nat.le_of_ble_eq_true rfl) rfl ?_
  refine zs_aload_n (pc := 2250) (k := 2) (i := 2) C (by decide +kernel) rfl rfl ?_
  refine zs_cvRi (pc := 2251) (As := []) (st := []) C rfl (c_X12_thrown l g ) ml_RL_156 rfl rfl rfl rfl (Nat.le_of_ble_eq_true rfl) ⟨Nat.le_of_ble_eq_true rfl, Nat.le_of_ble_eq_true rfl⟩ (by constructor <;> simp only [rmd] <;> omega) (by decide +kernel) (fun t3 => ?_)
  refine zs_iload (pc := 2254) (i := 5) C (by decide +kernel) rfl ?_
  refine zs_icmp_eq (pc := 2256) (off := 5) (tgt := 2261) C (by decide +kernel) (by decide) ?_ zs_none
  refine zs_iload (pc := 2261) (i := 5) C (by decide +kernel) rfl ?_
  refine zs_if_ne (pc := 2263) (off := 15) (tgt := 2278) C (by decide +kernel) (by decide) ?_ ?_
  · refine zs_goto (pc := 2278) (off := 784) (tgt := 3062) C (by decide +kernel) (by decide) ?_
    exact zs_sub (ls' := [(0, sS), (1, sR 0), (2, sR 287), (3, sR 312), (4, sI i)]) ⟨rfl, rfl, rfl, rfl, rfl, trivial⟩ (K _ _ (by simp only [rmd]; omega) (by simp only [rmd]; omega))
  · refine zs_aload_n (pc := 2266) (k := 3) (i := 3) C (by decide +kernel) rfl rfl ?_
    refine zs_iconst (pc := 2267) (n := 0) (x := 0) C (by decide +kernel) (by decide +kernel) ?_
    refine zs_laldk (pc := 2268) (o := 312) (n := 1) (i := 0) C ⟨by decide, by decide⟩ (by decide +kernel) rfl (fun z4 => ?_)
    refine zs_iload (pc := 2269) (i := 6) C (by decide +kernel) rfl ?_
    refine zs_i2l (pc := 2271) C (by decide +kernel) ?_
    refine zs_lcmp_eq (pc := 2272) (off := 5) (tgt := 2278) C (by decide +kernel) (by decide +kernel) (by decide) ?_ zs_none
    refine zs_goto (pc := 2278) (off := 784) (tgt := 3062) C (by decide +kernel) (by decide) ?_
    exact zs_sub (ls' := [(0, sS), (1, sR 0), (2, sR 287), (3, sR 312), (4, sI i)]) ⟨rfl, rfl, rfl, rfl, rfl, trivial⟩ (K _ _ (by simp only [rmd]; omega) (by simp only [rmd]; omega))

set_option maxRecDepth 20000 in
theorem lc_30 {p : Program} {l : Launch} {e : Env} {s : State} {m : MethodId} {args : Array Value} {below : List Frame} {meth : Method} {c : Code} {g : GC} {L : Nat} {xs : Nat → Int32} {i : Int} {kc ks : Nat} {Q : State → Prop} {PK : Mem → Option Unit} (C : Bd g RL code 8 p s m args meth c) (hX : ScrX g L xs s) (hl : l.stackTraces = false) (hi : 0 ≤ i ∧ i + 6 ≤ (L : Int)) (hk : kc + 8 ≤ room_1.cells ∧ ks + 48 ≤ room_1.slots)
    (K : ∀ kc' ks', kc' ≤ kc + 8 → ks' ≤ ks + 48 → Sim p l e room_1 s m args below meth c g 8 (fun (_ : Unit) _ => Q) kc' ks' 3062 [(0, sS), (1, sR 0), (2, sR 287), (3, sR 312), (4, sI i)] [] PK) : Sim p l e room_1 s m args below meth c g 8 (fun (_ : Unit) _ => Q) kc ks 2281 [(0, sS), (1, sR 0), (2, sR 287), (3, sR 312), (4, sI i)] [] (PX (fun mm => fL_errands (ar xs i 1) (ar xs i 2) mm) (fun mm => fX12_errands (ar xs i 1) (ar xs i 2) mm) PK) := by
  obtain ⟨hk1, hk2⟩ := hk
  unfold PX
  refine zs_aload_n (pc := 2281) (k := 1) (i := 1) C (by decide +kernel) rfl rfl ?_
  refine zl_arg (pc := 2282) (j := 1) (ls := [(0, sS), (1, sR 0), (2, sR 287), (3, sR 312), (4, sI i)]) C hX hi (by decide) rfl rfl (by decide +kernel) (by decide +kernel) (by decide +kernel) (by decide +kernel) (by decide +kernel) (by decide +kernel) ?_
  refine zl_arg (pc := 2288) (j := 2) (ls := [(0, sS), (1, sR 0), (2, sR 287), (3, sR 312), (4, sI i)]) C hX hi (by decide) rfl rfl (by decide +kernel) (by decide +kernel) (by decide +kernel) (by decide +kernel) (by decide +kernel) (by decide +kernel) ?_
  refine zs_aload_n (pc := 2294) (k := 3) (i := 3) C (by decide +kernel) rfl rfl ?_
  refine zs_csX (pc := 2295) (As := [sR 0, sI (ar xs i 1), sI (ar xs i 2), sR 312]) (st := []) C (fun _ _ _ => rfl) rfl (c_L_errands l g hl (ar xs i 1) (ar xs i 2)) mx_249 rfl rfl (Nat.le_of_ble_eq_true rfl) ⟨Nat.le_of_ble_eq_true rfl, Nat.le_of_ble_eq_true rfl⟩ (by constructor <;> simp only [rmd] <;> omega) (by decide +kernel) (fun k1 => ?_)
  refine zs_istore (pc := 2298) (i := 5) (ls' := [(5, sI k1), (0, sS), (1, sR 0), (2, sR 287), (3, sR 312), (4, sI i)]) C (by decide +kernel) (Nat.le_of_ble_eq_true rfl) rfl ?_
  refine zs_aload_n (pc := 2300) (k := 2) (i := 2) C (by decide +kernel) rfl rfl ?_
  refine zl_arg (pc := 2301) (j := 1) (ls := [(5, sI k1), (0, sS), (1, sR 0), (2, sR 287), (3, sR 312), (4, sI i)]) C hX hi (by decide) rfl rfl (by decide +kernel) (by decide +kernel) (by decide +kernel) (by decide +kernel) (by decide +kernel) (by decide +kernel) ?_
  refine zl_arg (pc := 2307) (j := 2) (ls := [(5, sI k1), (0, sS), (1, sR 0), (2, sR 287), (3, sR 312), (4, sI i)]) C hX hi (by decide) rfl rfl (by decide +kernel) (by decide +kernel) (by decide +kernel) (by decide +kernel) (by decide +kernel) (by decide +kernel) ?_
  refine zs_cvWi (pc := 2313) (As := [sI (ar xs i 1), sI (ar xs i 2)]) (st := []) C (fun _ _ _ => rfl) rfl (c_X12_errands l g (ar xs i 1) (ar xs i 2)) ml_RL_251 rfl rfl rfl rfl (Nat.le_of_ble_eq_true rfl) ⟨Nat.le_of_ble_eq_true rfl, Nat.le_of_ble_eq_true rfl⟩ (by constructor <;> simp only [rmd] <;> omega) (by decide +kernel) (fun v2 => ?_)
  refine zs_istore (pc := 2316) (i := 6) (ls' := [(6, sI v2), (5, sI k1), (0, sS), (1, sR 0), (2, sR 287), (3, sR 312), (4, sI i)]) C (by decide +kernel) (Nat.le_of_ble_eq_true rfl) rfl ?_
  refine zs_aload_n (pc := 2318) (k := 2) (i := 2) C (by decide +kernel) rfl rfl ?_
  refine zs_cvRi (pc := 2319) (As := []) (st := []) C rfl (c_X12_thrown l g ) ml_RL_156 rfl rfl rfl rfl (Nat.le_of_ble_eq_true rfl) ⟨Nat.le_of_ble_eq_true rfl, Nat.le_of_ble_eq_true rfl⟩ (by constructor <;> simp only [rmd] <;> omega) (by decide +kernel) (fun t3 => ?_)
  refine zs_iload (pc := 2322) (i := 5) C (by decide +kernel) rfl ?_
  refine zs_icmp_eq (pc := 2324) (off := 5) (tgt := 2329) C (by decide +kernel) (by decide) ?_ zs_none
  refine zs_iload (pc := 2329) (i := 5) C (by decide +kernel) rfl ?_
  refine zs_if_ne (pc := 2331) (off := 15) (tgt := 2346) C (by decide +kernel) (by decide) ?_ ?_
  · refine zs_goto (pc := 2346) (off := 716) (tgt := 3062) C (by decide +kernel) (by decide) ?_
    exact zs_sub (ls' := [(0, sS), (1, sR 0), (2, sR 287), (3, sR 312), (4, sI i)]) ⟨rfl, rfl, rfl, rfl, rfl, trivial⟩ (K _ _ (by simp only [rmd]; omega) (by simp only [rmd]; omega))
  · refine zs_aload_n (pc := 2334) (k := 3) (i := 3) C (by decide +kernel) rfl rfl ?_
    refine zs_iconst (pc := 2335) (n := 0) (x := 0) C (by decide +kernel) (by decide +kernel) ?_
    refine zs_laldk (pc := 2336) (o := 312) (n := 1) (i := 0) C ⟨by decide, by decide⟩ (by decide +kernel) rfl (fun z4 => ?_)
    refine zs_iload (pc := 2337) (i := 6) C (by decide +kernel) rfl ?_
    refine zs_i2l (pc := 2339) C (by decide +kernel) ?_
    refine zs_lcmp_eq (pc := 2340) (off := 5) (tgt := 2346) C (by decide +kernel) (by decide +kernel) (by decide) ?_ zs_none
    refine zs_goto (pc := 2346) (off := 716) (tgt := 3062) C (by decide +kernel) (by decide) ?_
    exact zs_sub (ls' := [(0, sS), (1, sR 0), (2, sR 287), (3, sR 312), (4, sI i)]) ⟨rfl, rfl, rfl, rfl, rfl, trivial⟩ (K _ _ (by simp only [rmd]; omega) (by simp only [rmd]; omega))

set_option maxRecDepth 20000 in
theorem lc_31 {p : Program} {l : Launch} {e : Env} {s : State} {m : MethodId} {args : Array Value} {below : List Frame} {meth : Method} {c : Code} {g : GC} {L : Nat} {xs : Nat → Int32} {i : Int} {kc ks : Nat} {Q : State → Prop} {PK : Mem → Option Unit} (C : Bd g RL code 8 p s m args meth c) (hX : ScrX g L xs s) (hl : l.stackTraces = false) (hi : 0 ≤ i ∧ i + 6 ≤ (L : Int)) (hk : kc + 8 ≤ room_1.cells ∧ ks + 48 ≤ room_1.slots)
    (K : ∀ kc' ks', kc' ≤ kc + 8 → ks' ≤ ks + 48 → Sim p l e room_1 s m args below meth c g 8 (fun (_ : Unit) _ => Q) kc' ks' 3062 [(0, sS), (1, sR 0), (2, sR 287), (3, sR 312), (4, sI i)] [] PK) : Sim p l e room_1 s m args below meth c g 8 (fun (_ : Unit) _ => Q) kc ks 2349 [(0, sS), (1, sR 0), (2, sR 287), (3, sR 312), (4, sI i)] [] (PX (fun mm => fL_dropped (ar xs i 1) (ar xs i 2) mm) (fun mm => fX12_dropped (ar xs i 1) (ar xs i 2) mm) PK) := by
  obtain ⟨hk1, hk2⟩ := hk
  unfold PX
  refine zs_aload_n (pc := 2349) (k := 1) (i := 1) C (by decide +kernel) rfl rfl ?_
  refine zl_arg (pc := 2350) (j := 1) (ls := [(0, sS), (1, sR 0), (2, sR 287), (3, sR 312), (4, sI i)]) C hX hi (by decide) rfl rfl (by decide +kernel) (by decide +kernel) (by decide +kernel) (by decide +kernel) (by decide +kernel) (by decide +kernel) ?_
  refine zl_arg (pc := 2356) (j := 2) (ls := [(0, sS), (1, sR 0), (2, sR 287), (3, sR 312), (4, sI i)]) C hX hi (by decide) rfl rfl (by decide +kernel) (by decide +kernel) (by decide +kernel) (by decide +kernel) (by decide +kernel) (by decide +kernel) ?_
  refine zs_aload_n (pc := 2362) (k := 3) (i := 3) C (by decide +kernel) rfl rfl ?_
  refine zs_csX (pc := 2363) (As := [sR 0, sI (ar xs i 1), sI (ar xs i 2), sR 312]) (st := []) C (fun _ _ _ => rfl) rfl (c_L_dropped l g hl (ar xs i 1) (ar xs i 2)) mx_252 rfl rfl (Nat.le_of_ble_eq_true rfl) ⟨Nat.le_of_ble_eq_true rfl, Nat.le_of_ble_eq_true rfl⟩ (by constructor <;> simp only [rmd] <;> omega) (by decide +kernel) (fun k1 => ?_)
  refine zs_istore (pc := 2366) (i := 5) (ls' := [(5, sI k1), (0, sS), (1, sR 0), (2, sR 287), (3, sR 312), (4, sI i)]) C (by decide +kernel) (Nat.le_of_ble_eq_true rfl) rfl ?_
  refine zs_aload_n (pc := 2368) (k := 2) (i := 2) C (by decide +kernel) rfl rfl ?_
  refine zl_arg (pc := 2369) (j := 1) (ls := [(5, sI k1), (0, sS), (1, sR 0), (2, sR 287), (3, sR 312), (4, sI i)]) C hX hi (by decide) rfl rfl (by decide +kernel) (by decide +kernel) (by decide +kernel) (by decide +kernel) (by decide +kernel) (by decide +kernel) ?_
  refine zl_arg (pc := 2375) (j := 2) (ls := [(5, sI k1), (0, sS), (1, sR 0), (2, sR 287), (3, sR 312), (4, sI i)]) C hX hi (by decide) rfl rfl (by decide +kernel) (by decide +kernel) (by decide +kernel) (by decide +kernel) (by decide +kernel) (by decide +kernel) ?_
  refine zs_cvWi (pc := 2381) (As := [sI (ar xs i 1), sI (ar xs i 2)]) (st := []) C (fun _ _ _ => rfl) rfl (c_X12_dropped l g (ar xs i 1) (ar xs i 2)) ml_RL_254 rfl rfl rfl rfl (Nat.le_of_ble_eq_true rfl) ⟨Nat.le_of_ble_eq_true rfl, Nat.le_of_ble_eq_true rfl⟩ (by constructor <;> simp only [rmd] <;> omega) (by decide +kernel) (fun v2 => ?_)
  refine zs_istore (pc := 2384) (i := 6) (ls' := [(6, sI v2), (5, sI k1), (0, sS), (1, sR 0), (2, sR 287), (3, sR 312), (4, sI i)]) C (by decide +kernel) (Nat.le_of_ble_eq_true rfl) rfl ?_
  refine zs_aload_n (pc := 2386) (k := 2) (i := 2) C (by decide +kernel) rfl rfl ?_
  refine zs_cvRi (pc := 2387) (As := []) (st := []) C rfl (c_X12_thrown l g ) ml_RL_156 rfl rfl rfl rfl (Nat.le_of_ble_eq_true rfl) ⟨Nat.le_of_ble_eq_true rfl, Nat.le_of_ble_eq_true rfl⟩ (by constructor <;> simp only [rmd] <;> omega) (by decide +kernel) (fun t3 => ?_)
  refine zs_iload (pc := 2390) (i := 5) C (by decide +kernel) rfl ?_
  refine zs_icmp_eq (pc := 2392) (off := 5) (tgt := 2397) C (by decide +kernel) (by decide) ?_ zs_none
  refine zs_iload (pc := 2397) (i := 5) C (by decide +kernel) rfl ?_
  refine zs_if_ne (pc := 2399) (off := 15) (tgt := 2414) C (by decide +kernel) (by decide) ?_ ?_
  · refine zs_goto (pc := 2414) (off := 648) (tgt := 3062) C (by decide +kernel) (by decide) ?_
    exact zs_sub (ls' := [(0, sS), (1, sR 0), (2, sR 287), (3, sR 312), (4, sI i)]) ⟨rfl, rfl, rfl, rfl, rfl, trivial⟩ (K _ _ (by simp only [rmd]; omega) (by simp only [rmd]; omega))
  · refine zs_aload_n (pc := 2402) (k := 3) (i := 3) C (by decide +kernel) rfl rfl ?_
    refine zs_iconst (pc := 2403) (n := 0) (x := 0) C (by decide +kernel) (by decide +kernel) ?_
    refine zs_laldk (pc := 2404) (o := 312) (n := 1) (i := 0) C ⟨by decide, by decide⟩ (by decide +kernel) rfl (fun z4 => ?_)
    refine zs_iload (pc := 2405) (i := 6) C (by decide +kernel) rfl ?_
    refine zs_i2l (pc := 2407) C (by decide +kernel) ?_
    refine zs_lcmp_eq (pc := 2408) (off := 5) (tgt := 2414) C (by decide +kernel) (by decide +kernel) (by decide) ?_ zs_none
    refine zs_goto (pc := 2414) (off := 648) (tgt := 3062) C (by decide +kernel) (by decide) ?_
    exact zs_sub (ls' := [(0, sS), (1, sR 0), (2, sR 287), (3, sR 312), (4, sI i)]) ⟨rfl, rfl, rfl, rfl, rfl, trivial⟩ (K _ _ (by simp only [rmd]; omega) (by simp only [rmd]; omega))

set_option maxRecDepth 20000 in
theorem lc_32 {p : Program} {l : Launch} {e : Env} {s : State} {m : MethodId} {args : Array Value} {below : List Frame} {meth : Method} {c : Code} {g : GC} {L : Nat} {xs : Nat → Int32} {i : Int} {kc ks : Nat} {Q : State → Prop} {PK : Mem → Option Unit} (C : Bd g RL code 8 p s m args meth c) (hX : ScrX g L xs s) (hl : l.stackTraces = false) (hi : 0 ≤ i ∧ i + 6 ≤ (L : Int)) (hk : kc + 8 ≤ room_1.cells ∧ ks + 48 ≤ room_1.slots)
    (K : ∀ kc' ks', kc' ≤ kc + 8 → ks' ≤ ks + 48 → Sim p l e room_1 s m args below meth c g 8 (fun (_ : Unit) _ => Q) kc' ks' 3062 [(0, sS), (1, sR 0), (2, sR 287), (3, sR 312), (4, sI i)] [] PK) : Sim p l e room_1 s m args below meth c g 8 (fun (_ : Unit) _ => Q) kc ks 2417 [(0, sS), (1, sR 0), (2, sR 287), (3, sR 312), (4, sI i)] [] (P0 (fun mm => fX11_housed  mm) (fun mm => fX12_housed  mm) PK) := by
  obtain ⟨hk1, hk2⟩ := hk
  unfold P0
  refine zs_aload_n (pc := 2417) (k := 1) (i := 1) C (by decide +kernel) rfl rfl ?_
  refine zs_cvWi (pc := 2418) (As := []) (st := []) C (fun _ _ _ => rfl) rfl (c_X11_housed l g ) ml_RL_255 rfl rfl rfl rfl (Nat.le_of_ble_eq_true rfl) ⟨Nat.le_of_ble_eq_true rfl, Nat.le_of_ble_eq_true rfl⟩ (by constructor <;> simp only [rmd] <;> omega) (by decide +kernel) (fun v1 => ?_)
  refine zs_aload_n (pc := 2421) (k := 2) (i := 2) C (by decide +kernel) rfl rfl ?_
  refine zs_cvWi (pc := 2422) (As := []) (st := [sI v1]) C (fun _ _ _ => rfl) rfl (c_X12_housed l g ) ml_RL_258 rfl rfl rfl rfl (Nat.le_of_ble_eq_true rfl) ⟨Nat.le_of_ble_eq_true rfl, Nat.le_of_ble_eq_true rfl⟩ (by constructor <;> simp only [rmd] <;> omega) (by decide +kernel) (fun v2 => ?_)
  refine zs_icmp_eq (pc := 2425) (off := 637) (tgt := 3062) C (by decide +kernel) (by decide) ?_ zs_none
  exact zs_sub (ls' := [(0, sS), (1, sR 0), (2, sR 287), (3, sR 312), (4, sI i)]) ⟨rfl, rfl, rfl, rfl, rfl, trivial⟩ (K _ _ (by simp only [rmd]; omega) (by simp only [rmd]; omega))

/-! PURE: favours done; guarantors, pupils, holidays, settings. -/
def fulS (a : AS) (p1 p2 p3 p4 : Int32) : Int32 × AS :=
  bif kPr a p1 p2 then (bif kIn p3 0 3 then (bif kIn p4 1 9 then
    (if p4 ≤ sumS (mt p1 p2 p3) 0 a.1 then
      (sumS (mt p1 p2 p3) 0 ((takL (mt p1 p2 p3) 40 p4 a.1).filter pos), ((takL (mt p1 p2 p3) 40 p4 a.1).filter pos, upd a.2.1 5 (a.2.1 5 + p4), updP (updP (updP a.2.2 2 (ix p1) (a.2.2 2 (ix p1) + p4)) 2 (ix p2) (updP a.2.2 2 (ix p1) (a.2.2 2 (ix p1) + p4) 2 (ix p2) + -p4)) 3 (ix p1) (a.2.2 3 (ix p1) + p4)))
      else (-1000002, a)) else (-1000001, a)) else (-1000001, a)) else (-1000001, a)
theorem OK.okN {a : AS} (ho : OK a) : okN a.1 := by
  obtain ⟨_, P, _, _, hl, _⟩ := ho
  exact okL.okN hl
theorem sumS_n {a : AS} (ho : OK a) (P : Lot → Bool) : sumS P 0 a.1 = nI (sumN P a.1) ∧ sumN P a.1 ≤ 360 := by
  have h := ho.okN
  refine ⟨?_, by have := sumN_le (P := P) h; have := ho.1; omega⟩
  have := sumS_nat (P := P) 0 h
  rw [Nat.zero_add] at this
  exact this
theorem c_fulS {v : St} {a : AS} (h : RC v a) (ho : OK a) (p1 p2 p3 p4 : Int32) : ∃ v', X0_fulfilFavours v p1 p2 p3 p4 = some ((fulS a p1 p2 p3 p4).1, v') ∧ RC v' (fulS a p1 p2 p3 p4).2 := by
  rw [X0_fulfilFavours, q_isPair h, Option.bind_some, q_isKind, Option.bind_some, q_isMany, Option.bind_some, ifb, ifb, ifb, q_sumOwed h.1, Option.bind_some]
  unfold fulS
  cases h1 : kPr a p1 p2 with
  | false => exact ⟨v, rfl, h⟩
  | true =>
  cases h2 : kIn p3 0 3 with
  | false => exact ⟨v, rfl, h⟩
  | true =>
  cases h3 : kIn p4 1 9 with
  | false => exact ⟨v, rfl, h⟩
  | true =>
  obtain ⟨d, c, P, rfl, rfl, hd, hc, hdc, h8, hP⟩ := kPr_nat ho h1
  obtain ⟨n, rfl, hn1, hn9⟩ := kIn_nat h3 (by decide)
  simp only [cond_true]
  obtain ⟨hs, h360⟩ := sumS_n ho (mt (nI d) (nI c) p3)
  rw [ix_nI (by omega), ix_nI (by omega)]
  by_cases c1 : nI n ≤ sumS (mt (nI d) (nI c) p3) 0 a.1
  · rw [if_pos c1, if_pos c1]
    have hq : n ≤ sumN (mt (nI d) (nI c) p3) a.1 := by
      rw [hs] at c1
      exact (nI_leI (by omega) (by omega)).mp c1
    obtain ⟨u, e, l, f⟩ := q_take h.1 ho.okN (nI d) (nI c) p3 hq
    have r0 : RC u (_, a.2.1, a.2.2) := h.lots l f
    have hu2 : u 2 d = a.2.2 2 d := r0.2.2 2 d (by decide) (by decide) (by omega)
    have hu3 : u 3 d = a.2.2 3 d := r0.2.2 3 d (by decide) (by decide) (by omega)
    have hu5 : u 1 5 = a.2.1 5 := r0.2.1 5 (by decide) (by decide)
    have r1 := r0.row (r := 2) (p := d) (a.2.2 2 d + nI n) (by decide) (by decide) (by omega)
    have r2 := r1.row (r := 2) (p := c) (updP a.2.2 2 d (a.2.2 2 d + nI n) 2 c + -nI n) (by decide) (by decide) (by omega)
    rw [setA_setA, q_sA] at r2
    have r3 := r2.row (r := 3) (p := d) (a.2.2 3 d + nI n) (by decide) (by decide) (by omega)
    rw [q_sN u _ (by decide)] at r3
    have r4 := r3.num (i := 5) (a.2.1 5 + nI n) (by decide)
    rw [q_sN _ _ (by decide), q_sN u _ (by decide)] at r4
    have huc : upd (u 2) d (a.2.2 2 d + nI n) c = updP a.2.2 2 d (a.2.2 2 d + nI n) 2 c := by
      rw [q_un (Ne.symm hdc), updP_n (by omega)]
      exact r0.2.2 2 c (by decide) (by decide) (by omega)
    refine ⟨_, ?_, r4⟩
    rw [e, Option.bind_some, q_add (by omega) (by decide), Option.bind_some, q_add (by omega) (by decide), Option.bind_some, q_add (by omega) (by decide), Option.bind_some, show (5 : Int32) = nI 5 from rfl, q_add (by decide) (by decide), Option.bind_some, hu2, hu3, hu5, huc, q_sumOwed r4.1, Option.bind_some]
  · rw [if_neg c1, if_neg c1]
    exact ⟨v, rfl, h⟩
theorem filter_okN {ls : List Lot} {p : Lot → Bool} (h : okN ls) : okN (ls.filter p) := fun l hl => h l (List.mem_filter.mp hl).1
theorem takL_okN {P : Lot → Bool} : ∀ (t : Nat) (q : Nat) (ls : List Lot), q < 2 ^ 31 → okN ls → okN (takL P t (nI q) ls) := by
  intro t
  induction t with
  | zero => intro q ls _ h; exact h
  | succ t ih =>
    intro q ls hq h
    rw [takL]
    split
    · exact h
    · split
      · exact h
      · next ja heq =>
        rcases (oldF_spec P ls 0 none).1 ja.1 ja.2 heq with h1 | ⟨i, l, e1, e2, e3, e4, e5⟩
        · cases h1
        · have e1 : ja.1 = i := by omega
          obtain ⟨s, hn, h9⟩ := h l (List.mem_of_getElem? e2)
          have hg : getN ls ja.1 = nI s := by unfold getN; rw [e1, e2]; exact hn
          rw [hg, mn_nI h9 hq, q_sub (by omega), q_sub (by omega)]
          exact ih _ _ (by omega) (okN_set h (by omega))
theorem takL_len {P : Lot → Bool} : ∀ (t : Nat) (q : Int32) (ls : List Lot), (takL P t q ls).length = ls.length := by
  intro t
  induction t with
  | zero => intro q ls; rfl
  | succ t ih =>
    intro q ls
    rw [takL]
    split
    · rfl
    · split
      · rfl
      · rw [ih, setN_len]
theorem m_fulS {v : St} {a : AS} {hist : List AS} (h : RM (v 1) a) (ho : OK a) (hh : v 99 5 = 0 → HM v hist) (p1 p2 p3 p4 : Int32) : MOp v a hist (X5_fulfil v p1 p2 p3 p4) (fulS a p1 p2 p3 p4) := by
  rw [X5_fulfil, q_isPairM h ho, Option.bind_some, q_isKindM, Option.bind_some, q_inM, Option.bind_some, ifb, ifb, ifb]
  unfold fulS
  cases h1 : kPr a p1 p2 with
  | false => exact MOp.err h (by decide)
  | true =>
  cases h2 : kIn p3 0 3 with
  | false => exact MOp.err h (by decide)
  | true =>
  rw [show kIn p4 (1 : Int32).toInt (9 : Int32).toInt = kIn p4 1 9 from rfl]
  cases h3 : kIn p4 1 9 with
  | false => exact MOp.err h (by decide)
  | true =>
  obtain ⟨d, c, P, rfl, rfl, hd, hc, hdc, h8, hP⟩ := kPr_nat ho h1
  obtain ⟨n, rfl, hn1, hn9⟩ := kIn_nat h3 (by decide)
  simp only [cond_true]
  obtain ⟨hs, h360⟩ := sumS_n ho (mt (nI d) (nI c) p3)
  rw [ix_nI (by omega), ix_nI (by omega), q_owedM h.1, Option.bind_some, mt_E2 (by omega) (by omega) h2]
  by_cases c1 : nI n ≤ sumS (mt (nI d) (nI c) p3) 0 a.1
  · rw [if_pos c1, if_pos c1]
    have hq : n ≤ sumN (mt (nI d) (nI c) p3) a.1 := by
      rw [hs] at c1
      exact (nI_leI (by omega) (by omega)).mp c1
    obtain ⟨w, e, w1, cg⟩ := q_chg h hh
    obtain ⟨u, e2, l, f⟩ := q_takeM (v := w) (by rw [w1]; exact h.1) ho.okN (nI d) (nI c) p3 (q := n) (by rw [mt_E2 (by omega) (by omega) h2]; exact hq)
    rw [mt_E2 (by omega) (by omega) h2] at l
    have r0 : RM (u 1) (_, a.2.1, a.2.2) := RM.lots (v := w) (by rw [w1]; exact h) l f
    have e3 : u 1 (240 + 6 * d + 0) = a.2.2 3 d := r0.2.2 3 d (by decide) (by decide) (by omega)
    have r1 : RM (upd (u 1) (240 + 6 * d + 0) (a.2.2 3 d + nI n)) _ := r0.row (r := 3) (p := d) (a.2.2 3 d + nI n) (by decide) (by decide) (by omega)
    have e5 : upd (u 1) (240 + 6 * d + 0) (a.2.2 3 d + nI n) 292 = a.2.1 5 := r1.2.1 5 (by unfold mset; omega)
    have r2 : RM (upd (upd (u 1) (240 + 6 * d + 0) (a.2.2 3 d + nI n)) 292 (a.2.1 5 + nI n)) _ := r1.num (i := 5) (a.2.1 5 + nI n) (by unfold mset; omega)
    obtain ⟨z, ez, rz, sz⟩ := q_shifts (v := setA u 1 (upd (upd (u 1) (240 + 6 * d + 0) (a.2.2 3 d + nI n)) 292 (a.2.1 5 + nI n))) (by rw [q_sA]; exact r2) (show d < 8 by omega) (show c < 8 by omega) (nI n)
    have hpu : updP (updP (updP a.2.2 3 d (a.2.2 3 d + nI n)) 2 d (updP a.2.2 3 d (a.2.2 3 d + nI n) 2 d + nI n)) 2 c (updP (updP a.2.2 3 d (a.2.2 3 d + nI n)) 2 d (updP a.2.2 3 d (a.2.2 3 d + nI n) 2 d + nI n) 2 c - nI n) = updP (updP (updP a.2.2 2 d (a.2.2 2 d + nI n)) 2 c (updP a.2.2 2 d (a.2.2 2 d + nI n) 2 c + -nI n)) 3 d (a.2.2 3 d + nI n) := by
      rw [updP_n (r := 3) (r' := 2) (by omega), updP_comm (pu := a.2.2) (by omega), updP_comm (by omega), updP_n (r := 3) (r' := 2) (by omega), q_addneg]
    rw [hpu] at rz
    have hok : okN ((takL (mt (nI d) (nI c) p3) 40 (nI n) a.1).filter pos) := filter_okN (takL_okN 40 n a.1 (by omega) ho.okN)
    refine ⟨z, ?_, rz, fun y => absurd y (sum_pos hok ?_), fun _ => ?_⟩
    · rw [e, Option.bind_some, e2, Option.bind_some, q_atM0, Option.bind_some, q_ld (by omega) (by decide), Option.bind_some, e3, q_st (by omega) (by decide), Option.bind_some, m292, Option.bind_some, e5, w292, Option.bind_some, ez, Option.bind_some, q_owedM rz.1, mt_E2 (by omega) (by omega) h2]
      rfl
    · have := List.length_filter_le pos (takL (mt (nI d) (nI c) p3) 40 (nI n) a.1)
      rw [takL_len] at this
      have := ho.1
      omega
    · refine cg.after (SameM.of1 (fun r hr => ?_))
      rw [sz r hr, q_sN u _ hr, f.1 r hr]
  · rw [if_neg c1, if_neg c1]
    exact MOp.err h (by decide)
/-! guarantee -/
def guaS (a : AS) (p1 p2 : Int32) : Int32 × AS :=
  bif kP a p1 && (decide (p2 = -1) || (kP a p2 && decide (¬ p1 = p2))) then (a.2.2 5 (ix p1), (a.1, a.2.1, updP a.2.2 5 (ix p1) (p2 + 1))) else (-1000001, a)
theorem kP_m1 {a : AS} : kP a (-1) = false := rfl
theorem c_guaS {v : St} {a : AS} (h : RC v a) (ho : OK a) (p1 p2 : Int32) : ∃ v', X0_giveGuarantor v p1 p2 = some ((guaS a p1 p2).1, v') ∧ RC v' (guaS a p1 p2).2 := by
  rw [X0_giveGuarantor, q_isPupil h, Option.bind_some, q_isPair h, Option.bind_some, ifb, ifb]
  unfold guaS
  cases h1 : kP a p1 with
  | false => exact ⟨v, rfl, h⟩
  | true =>
  obtain ⟨_, P, h8, hP, _⟩ := id ho
  obtain ⟨d, rfl, hd⟩ := kP_nat h1 hP h8
  have good : ∃ v', X0_giveGuarantor_b25 (nI d) p2 v = some (a.2.2 5 d, v') ∧ RC v' (a.1, a.2.1, updP a.2.2 5 d (p2 + 1)) := by
    have r := RC.row (ls := a.1) (nu := a.2.1) (pu := a.2.2) h (r := 5) (p := d) (p2 + 1) (by decide) (by decide) (by omega)
    refine ⟨_, ?_, r⟩
    rw [X0_giveGuarantor_b25, q_at (by omega) (by decide), Option.bind_some, q_put (by omega) (by decide), Option.bind_some, h.2.2 5 d (by decide) (by decide) (by omega)]
  rw [ix_nI (by omega)]
  by_cases c1 : p2 = -1
  · simp only [cond_true, Bool.true_and, if_pos c1, decide_eq_true c1, Bool.true_or]
    exact good
  · simp only [cond_true, Bool.true_and, if_neg c1, decide_eq_false c1, Bool.false_or]
    have e : kPr a (nI d) p2 = (kP a p2 && decide (¬ nI d = p2)) := by unfold kPr; rw [h1, Bool.true_and]
    rw [e]
    cases hk : (kP a p2 && decide (¬ nI d = p2)) with
    | false => exact ⟨v, rfl, h⟩
    | true => exact good
theorem m_guaS {v : St} {a : AS} {hist : List AS} (h : RM (v 1) a) (ho : OK a) (hh : v 99 5 = 0 → HM v hist) (p1 p2 : Int32) : MOp v a hist (X5_guarantee v p1 p2) (guaS a p1 p2) := by
  rw [X5_guarantee, q_isPupilM h ho, Option.bind_some, q_isPupilM h ho, Option.bind_some, ifb, ifb]
  unfold guaS
  cases h1 : kP a p1 with
  | false => exact MOp.err h (by decide)
  | true =>
  obtain ⟨_, P, h8, hP, _, hg, _⟩ := id ho
  obtain ⟨d, rfl, hd⟩ := kP_nat h1 hP h8
  obtain ⟨g, hg1, hg2, _⟩ := hg d (by omega)
  have good : ¬ nI d = p2 → MOp v a hist (X5_guarantee_b21 (nI d) p2 v) (a.2.2 5 d, (a.1, a.2.1, updP a.2.2 5 d (p2 + 1))) := by
    intro hne
    obtain ⟨w, e, w1, cg⟩ := q_chg h hh
    have e5 : w 1 (240 + 6 * d + 2) = a.2.2 5 d := by rw [w1]; exact h.2.2 5 d (by decide) (by decide) (by omega)
    have r : RM (upd (w 1) (240 + 6 * d + 2) (p2 + 1)) (a.1, a.2.1, updP a.2.2 5 d (p2 + 1)) := RM.row (ls := a.1) (nu := a.2.1) (pu := a.2.2) (by rw [w1]; exact h) (r := 5) (p := d) (p2 + 1) (by decide) (by decide) (by omega)
    refine ⟨setA w 1 (upd (w 1) (240 + 6 * d + 2) (p2 + 1)), ?_, by rw [q_sA]; exact r, fun z => absurd z (by rw [hg1]; exact nI_pos (by omega)), fun _ => cg.after (SameM.of1 (fun r hr => q_sN w _ hr))⟩
    rw [X5_guarantee_b21, if_neg hne, e, Option.bind_some, q_atM2, Option.bind_some, q_ld (by omega) (by decide), Option.bind_some, e5, Option.bind_some, q_st (by omega) (by decide), Option.bind_some]
  have bad : nI d = p2 → X5_guarantee_b21 (nI d) p2 v = some (-1000001, v) := fun e => by rw [X5_guarantee_b21, if_pos e]
  rw [ix_nI (by omega)]
  by_cases c1 : p2 = -1
  · simp only [cond_true, Bool.true_and, if_pos c1, decide_eq_true c1, Bool.true_or]
    exact good (fun e => nI_m1 (by omega) (e.trans c1))
  · simp only [cond_true, Bool.true_and, if_neg c1, decide_eq_false c1, Bool.false_or]
    cases hk : kP a p2 with
    | false => exact MOp.err h (by decide)
    | true =>
      by_cases hne : nI d = p2
      · rw [bad hne]
        simp only [cond_true, Bool.true_and, hne, not_true, decide_false, cond_false]
        exact MOp.err h (by decide)
      · simp only [cond_true, Bool.true_and, decide_eq_true hne]
        exact good hne

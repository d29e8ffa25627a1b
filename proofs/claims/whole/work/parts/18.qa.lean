/- the pupil, the holidays, the settings: both sides -/
def holS (a : AS) (p1 : Int32) : Int32 × AS := (a.2.1 10, (a.1, upd a.2.1 10 (if p1 = 0 then 0 else 1), a.2.2))
def pupS (a : AS) : Int32 × AS := if a.2.1 1 = 8 then (-1000003, a) else (a.2.1 1, (a.1, upd a.2.1 1 (a.2.1 1 + 1), a.2.2))
def setS (a : AS) (p1 p2 : Int32) : Int32 × AS :=
  bif kIn p1 0 5 && kIn p2 1 (if p1 = 4 then 99 else 20) then (a.2.1 (20 + ix p1), (a.1, upd a.2.1 (20 + ix p1) p2, a.2.2)) else (-1000001, a)
theorem p26_10 (f : Nat → Int32) (x : Int32) : X4_put f 26 (10 : Int32) x = some (upd f 10 x) := q_put (k := 10) (by decide) (by decide)
theorem a26_0 (f : Nat → Int32) (x : Int32) : X4_add f 26 (0 : Int32) x = some (upd f 0 (f 0 + x)) := q_add (k := 0) (by decide) (by decide)
theorem a26_1 (f : Nat → Int32) (x : Int32) : X4_add f 26 (1 : Int32) x = some (upd f 1 (f 1 + x)) := q_add (k := 1) (by decide) (by decide)
theorem a26_6 (f : Nat → Int32) (x : Int32) : X4_add f 26 (6 : Int32) x = some (upd f 6 (f 6 + x)) := q_add (k := 6) (by decide) (by decide)
theorem a26_8 (f : Nat → Int32) (x : Int32) : X4_add f 26 (8 : Int32) x = some (upd f 8 (f 8 + x)) := q_add (k := 8) (by decide) (by decide)
theorem add1sub (x : Int32) : x + 1 - 1 = x := by
  apply Int32.toBitVec_inj.mp
  show x.toBitVec + 1#32 - 1#32 = x.toBitVec
  exact BitVec.add_sub_cancel _ _
theorem c_holS {v : St} {a : AS} (h : RC v a) (p1 : Int32) : ∃ v', X0_turnHolidays v p1 = some ((holS a p1).1, v') ∧ RC v' (holS a p1).2 := by
  have r := fun x => RC.num (ls := a.1) (nu := a.2.1) (pu := a.2.2) h (i := 10) x (by decide)
  have e : v 1 10 = a.2.1 10 := h.2.1 10 (by decide) (by decide)
  unfold holS
  rw [X0_turnHolidays, q_num10, Option.bind_some, X0_turnHolidays_b22, X0_turnHolidays_b22, e]
  by_cases c : p1 = 0
  · rw [if_pos c, if_pos c]
    exact ⟨_, by rw [p26_10, Option.bind_some], r _⟩
  · rw [if_neg c, if_neg c]
    exact ⟨_, by rw [p26_10, Option.bind_some], r _⟩
theorem m_num {v : St} {a : AS} {hist : List AS} (h : RM (v 1) a) (hh : v 99 5 = 0 → HM v hist) {i : Nat} (hi : mset i) (x : Int32) :
    ∃ w, X5_changes v = some w ∧ w 1 = v 1 ∧ RM ((setA w 1 (upd (w 1) (mapN i) x)) 1) (a.1, upd a.2.1 i x, a.2.2) ∧ Chg v (setA w 1 (upd (w 1) (mapN i) x)) hist a := by
  obtain ⟨w, e, w1, cg⟩ := q_chg h hh
  refine ⟨w, e, w1, ?_, cg.after (SameM.of1 (fun r hr => q_sN w _ hr))⟩
  rw [q_sA, w1]
  exact RM.num (ls := a.1) (nu := a.2.1) (pu := a.2.2) h x hi
theorem m_holS {v : St} {a : AS} {hist : List AS} (h : RM (v 1) a) (ho : OK a) (hh : v 99 5 = 0 → HM v hist) (p1 : Int32) : MOp v a hist (X5_holiday v p1) (holS a p1) := by
  obtain ⟨w, e, w1, r, cg⟩ := m_num h hh (i := 10) (Or.inr (Or.inl (by decide))) (if p1 = 0 then 0 else 1)
  have e5 : w 1 297 = a.2.1 10 := by rw [w1]; exact h.2.1 10 (Or.inr (Or.inl (by decide)))
  have h01 : a.2.1 10 = 0 ∨ a.2.1 10 = 1 := by
    obtain ⟨_, P, _, _, _, _, _, _, _, h01, _⟩ := id ho
    exact h01
  have hn : ¬ (holS a p1).1 < 0 := by
    show ¬ a.2.1 10 < 0
    rcases h01 with z | z <;> rw [z] <;> decide
  refine ⟨_, ?_, r, fun z => absurd z hn, fun _ => cg⟩
  rw [X5_holiday, e, Option.bind_some, m297, Option.bind_some, e5, w297, w297, Option.bind_some, Option.bind_some]
  unfold holS
  by_cases c : p1 = 0
  · rw [if_pos c, if_pos c]; rfl
  · rw [if_neg c, if_neg c]; rfl
theorem c_pupS {v : St} {a : AS} (h : RC v a) (ho : OK a) : ∃ v', X0_addPupil v = some ((pupS a).1, v') ∧ RC v' (pupS a).2 := by
  obtain ⟨_, P, h8, hP, _⟩ := id ho
  have r := RC.num (ls := a.1) (nu := a.2.1) (pu := a.2.2) h (i := 1) (v 1 1 + 1) (by decide)
  have e : v 1 1 = a.2.1 1 := h.2.1 1 (by decide) (by decide)
  unfold pupS
  rw [X0_addPupil, q_num1, Option.bind_some]
  by_cases c : P = 8
  · subst c
    rw [e, hP, if_neg (by decide), if_pos (by decide)]
    exact ⟨v, rfl, h⟩
  · have c1 : nI P < 8 := by
      have : nI P < nI 8 := nI_lt (by omega) (by decide)
      exact this
    have c2 : ¬ nI P = 8 := by
      intro z
      have : nI P = nI 8 := z
      rw [nI_eq (by omega) (by decide)] at this; exact c this
    rw [e] at r
    rw [e, hP, if_pos c1, if_neg c2, ← hP]
    refine ⟨_, ?_, r⟩
    rw [a26_1, Option.bind_some, e, q_num1, Option.bind_some, q_sA, q_up, add1sub]
theorem m_pupS {v : St} {a : AS} {hist : List AS} (h : RM (v 1) a) (ho : OK a) (hh : v 99 5 = 0 → HM v hist) : MOp v a hist (X5_pupil v) (pupS a) := by
  obtain ⟨_, P, h8, hP, _⟩ := id ho
  have e : v 1 289 = a.2.1 1 := h.pup
  obtain ⟨w, ew, w1, r, cg⟩ := m_num h hh (i := 1) (Or.inl (by decide)) (a.2.1 1 + 1)
  unfold pupS
  rw [X5_pupil, m289, Option.bind_some, e]
  by_cases c : a.2.1 1 = 8
  · rw [if_pos c, if_pos c]
    exact MOp.err h (by decide)
  · rw [if_neg c, if_neg c]
    refine ⟨_, ?_, r, fun z => absurd z ?_, fun _ => cg⟩
    · rw [ew, Option.bind_some, m289, Option.bind_some, w289, Option.bind_some, m289, Option.bind_some, q_up, w1, e, add1sub]
      rfl
    · show ¬ a.2.1 1 < 0
      rw [hP]; exact nI_pos (by omega)
theorem c_setS {v : St} {a : AS} (h : RC v a) (p1 p2 : Int32) : ∃ v', X0_changeSetting v p1 p2 = some ((setS a p1 p2).1, v') ∧ RC v' (setS a p1 p2).2 := by
  unfold setS
  rw [X0_changeSetting]
  have bad : ∃ v', some ((-1000001 : Int32), v) = some ((-1000001 : Int32), v') ∧ RC v' a := ⟨v, rfl, h⟩
  have k1 := @kIn_iff p1 0 5
  have k2 := @kIn_iff p2 1 (if p1 = 4 then 99 else 20)
  have e6 : ((6 : Int32).toInt) = 6 := by decide
  by_cases c1 : p1 < 0
  · rw [if_pos c1]
    have : kIn p1 0 5 = false := by
      rw [lt_i] at c1
      have : (0 : Int32).toInt = 0 := by decide
      cases hk : kIn p1 0 5 with
      | false => rfl
      | true => have := k1.mp hk; omega
    rw [this, Bool.false_and]; exact bad
  rw [if_neg c1]
  by_cases c2 : 6 ≤ p1
  · rw [if_pos c2]
    have : kIn p1 0 5 = false := by
      rw [le_i, e6] at c2
      cases hk : kIn p1 0 5 with
      | false => rfl
      | true => have := k1.mp hk; omega
    rw [this, Bool.false_and]; exact bad
  rw [if_neg c2]
  have hk : kIn p1 0 5 = true := by
    rw [k1]
    rw [lt_i] at c1; rw [le_i, e6] at c2
    have : (0 : Int32).toInt = 0 := by decide
    omega
  obtain ⟨i, rfl, _, hi⟩ := kIn_nat hk (by decide)
  have hi : i ≤ 5 := by omega
  rw [hk, Bool.true_and, ix_nI (by omega)]
  by_cases c3 : p2 < 1
  · rw [if_pos c3]
    have : kIn p2 1 (if nI i = 4 then 99 else 20) = false := by
      rw [lt_i, t1] at c3
      cases hq : kIn p2 1 (if nI i = 4 then 99 else 20) with
      | false => rfl
      | true => have := k2.mp hq; omega
    rw [this]; exact bad
  rw [if_neg c3]
  have m : X4_mostOfSetting (nI i) = some (if nI i = 4 then 99 else 20) := by
    rw [X4_mostOfSetting]; by_cases z : nI i = 4
    · rw [if_pos z, if_pos z]
    · rw [if_neg z, if_neg z]
  have m2 : (if nI i = (4 : Int32) then (99 : Int32) else 20).toInt = (if nI i = 4 then 99 else 20) := by
    by_cases z : nI i = 4
    · rw [if_pos z, if_pos z]; decide
    · rw [if_neg z, if_neg z]; decide
  rw [m, Option.bind_some]
  by_cases c4 : p2 ≤ (if nI i = (4 : Int32) then (99 : Int32) else 20)
  · rw [if_pos c4]
    have : kIn p2 1 (if nI i = 4 then 99 else 20) = true := by
      rw [k2, ← m2]
      rw [lt_i, t1] at c3; rw [le_i] at c4; omega
    rw [this, cond_true]
    have e20 : (20 : Int32) + nI i = nI (20 + i) := nI_add 20 i
    refine ⟨_, ?_, RC.num (ls := a.1) (nu := a.2.1) (pu := a.2.2) h (i := 20 + i) p2 (by omega)⟩
    rw [e20, q_num v (by omega), Option.bind_some, q_put (by omega) (by decide), Option.bind_some, h.2.1 (20 + i) (by omega) (by omega)]
  · rw [if_neg c4]
    have : kIn p2 1 (if nI i = 4 then 99 else 20) = false := by
      cases hq : kIn p2 1 (if nI i = 4 then 99 else 20) with
      | false => rfl
      | true =>
        have := k2.mp hq
        rw [le_i, m2] at c4; omega
    rw [this]; exact bad
theorem m_setS {v : St} {a : AS} {hist : List AS} (h : RM (v 1) a) (ho : OK a) (hh : v 99 5 = 0 → HM v hist) (p1 p2 : Int32) : MOp v a hist (X5_set v p1 p2) (setS a p1 p2) := by
  unfold setS
  have t99 : (99 : Int32).toInt = 99 := by decide
  have t20 : (20 : Int32).toInt = 20 := by decide
  have t5 : (5 : Int32).toInt = 5 := by decide
  have t0 : (0 : Int32).toInt = 0 := by decide
  rw [X5_set, q_inM, Option.bind_some, t0, t5, ifb]
  cases hk : kIn p1 0 5 with
  | false => exact MOp.err h (by decide)
  | true =>
  obtain ⟨i, rfl, _, hi⟩ := kIn_nat hk (by decide)
  have hi : i ≤ 5 := by omega
  rw [cond_true, Bool.true_and, ix_nI (by omega)]
  have key : ∀ (hi1 : Int32) (b : Int), hi1.toInt = b → MOp v a hist (X5_set_b23 (nI i) p2 v p2 1 hi1)
      (bif kIn p2 1 b then (a.2.1 (20 + i), (a.1, upd a.2.1 (20 + i) p2, a.2.2)) else (-1000001, a)) := by
    rintro hi1 _ rfl
    rw [X5_set_b23, q_inM, Option.bind_some, t1, ifb]
    cases hq : kIn p2 1 hi1.toInt with
    | false => exact MOp.err h (by decide)
    | true =>
    rw [cond_true, cond_true]
    have ms : mset (20 + i) := Or.inr (Or.inr (by omega))
    have mp : mapN (20 + i) = 298 + i := by unfold mapN; rw [if_neg (by omega), if_neg (by omega)]; omega
    obtain ⟨w, e, w1, r, cg⟩ := m_num h hh ms p2
    have e5 : w 1 (298 + i) = a.2.1 (20 + i) := by rw [w1, ← mp]; exact h.2.1 _ ms
    refine ⟨_, ?_, r, fun z => absurd z ?_, fun _ => cg⟩
    · have e20 : (298 : Int32) + nI i = nI (298 + i) := nI_add 298 i
      rw [e, Option.bind_some, e20, q_ld (by omega) (by decide), Option.bind_some, q_st (by omega) (by decide), Option.bind_some, e5, mp]
    · show ¬ a.2.1 (20 + i) < 0
      obtain ⟨_, P, _, _, _, _, s1, s2, s3, _⟩ := id ho
      have g : ∃ n : Nat, a.2.1 (20 + i) = nI n ∧ n ≤ 99 := by
        by_cases q1 : i < 4
        · obtain ⟨n, e, _, b⟩ := s1 i q1; exact ⟨n, e, by omega⟩
        · by_cases q2 : i = 4
          · subst q2; obtain ⟨n, e, _, b⟩ := s2; exact ⟨n, e, b⟩
          · have : i = 5 := by omega
            subst this; obtain ⟨n, e, _, b⟩ := s3; exact ⟨n, e, by omega⟩
      obtain ⟨n, e, b⟩ := g
      rw [e]; exact nI_pos (by omega)
  by_cases z : nI i = 4
  · rw [if_pos z, if_pos z]; exact key 99 99 t99
  · rw [if_neg z, if_neg z]; exact key 20 20 t20

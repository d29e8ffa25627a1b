/- reads at the face: owes, why, lot, pupilOf -/
theorem kP_d {a : AS} {x : Int32} (ho : OK a) (h : kP a x = true) : ∃ d : Nat, x = nI d ∧ d < 8 := by
  obtain ⟨_, P, h8, hP, _⟩ := ho
  obtain ⟨d, e, hd⟩ := kP_nat h hP h8
  exact ⟨d, e, by omega⟩
theorem f_owes {vB vM : St} {a : AS} (h : RC vB a) (hm : RM (vM 1) a) (ho : OK a) (vT vH : St) (bH : Nat → St) (vR vO : St) (p1 p2 p3 : Int32) : ∃ ans, X4_owes vB vT vH bH vR vO p1 p2 p3 = some ans ∧ X5_owes vM p1 p2 p3 = some ans := by
  rw [X4_owes, q_isPupil h, Option.bind_some, ifb, q_isPupil h, Option.bind_some, ifb, q_isKind, Option.bind_some, ifb, X5_owes, q_isPupilM hm ho, Option.bind_some, ifb, q_isPupilM hm ho, Option.bind_some, ifb, q_isKindM, Option.bind_some, ifb]
  cases h1 : kP a p1 with
  | false => exact ⟨_, rfl, rfl⟩
  | true =>
  cases h2 : kP a p2 with
  | false => exact ⟨_, rfl, rfl⟩
  | true =>
  cases h3 : kIn p3 0 3 with
  | false => exact ⟨_, rfl, rfl⟩
  | true =>
  obtain ⟨d, rfl, hd⟩ := kP_d ho h1
  obtain ⟨c, rfl, hc⟩ := kP_d ho h2
  simp only [cond_true]
  rw [q_sumOwed h.1, Option.bind_some, q_owedM hm.1, Option.bind_some, mt_E2 (by omega) (by omega) h3]
  exact ⟨_, rfl, rfl⟩
theorem f_why {vB vM : St} {a : AS} (h : RC vB a) (hm : RM (vM 1) a) (ho : OK a) (vT vH : St) (bH : Nat → St) (vR vO : St) (p1 p2 : Int32) : ∃ ans, X4_why vB vT vH bH vR vO p1 p2 = some ans ∧ X5_why vM p1 p2 = some ans := by
  rw [X4_why, q_isPupil h, Option.bind_some, ifb, q_isMany, Option.bind_some, ifb, X5_why, q_isPupilM hm ho, Option.bind_some, ifb, q_inM, Option.bind_some, ifb, show kIn p2 (1 : Int32).toInt (9 : Int32).toInt = kIn p2 1 9 from rfl]
  cases h1 : kP a p1 with
  | false => exact ⟨_, rfl, rfl⟩
  | true =>
  cases h2 : kIn p2 1 9 with
  | false => exact ⟨_, rfl, rfl⟩
  | true =>
  obtain ⟨d, rfl, hd⟩ := kP_d ho h1
  simp only [cond_true]
  rw [q_reason h ho hd, Option.bind_some, q_barM hm hd, Option.bind_some]
  exact ⟨_, rfl, rfl⟩
theorem c5 {j : Nat} (h : j < 6) : j = 0 ∨ j = 1 ∨ j = 2 ∨ j = 3 ∨ j = 4 ∨ j = 5 := by omega
theorem f_lot {vB vM : St} {a : AS} (h : RC vB a) (hm : RM (vM 1) a) (ho : OK a) (vT vH : St) (bH : Nat → St) (vR vO : St) (p1 p2 : Int32) : ∃ ans, X4_lot vB vT vH bH vR vO p1 p2 = some ans ∧ X5_lot vM p1 p2 = some ans := by
  have t6 : (6 : Int32).toInt = 6 := by decide
  have t5 : (5 : Int32).toInt = 5 := by decide
  rw [X4_lot, X5_lot]
  by_cases c1 : p1 < 0
  · rw [if_pos c1, if_pos c1]; exact ⟨_, rfl, rfl⟩
  · rw [if_neg c1, if_neg c1, q_inM, Option.bind_some, ifb, t5, Int32.toInt_zero]
    cases hk : kIn p2 0 5 with
    | false =>
      refine ⟨-1000001, ?_, rfl⟩
      by_cases c2 : p2 < 0
      · rw [if_pos c2]
      · rw [if_neg c2]
        by_cases c3 : p2 < 6
        · rw [lt_i, Int32.toInt_zero] at c2
          rw [lt_i, t6] at c3
          have : kIn p2 0 5 = true := kIn_iff.mpr (by omega)
          rw [hk] at this; cases this
        · rw [if_neg c3]
    | true =>
      obtain ⟨j, rfl, _, hj⟩ := kIn_nat hk (by decide)
      have c2 : ¬ nI j < 0 := nI_pos (by omega)
      have c3 : nI j < 6 := by rw [lt_i, t6, nI_toInt (by omega)]; omega
      obtain ⟨k, rfl, hk⟩ := pos_nat (Int32.not_lt.mp c1)
      simp only [cond_true]
      rw [if_neg c2, if_pos c3, q_num2, Option.bind_some, h.1.1, m290, Option.bind_some, hm.1.1]
      have h40 := ho.1
      have hc : (nI a.1.length ≤ nI k) = (a.1.length ≤ k) := q_le (by omega) (by omega)
      by_cases c4 : a.1.length ≤ k
      · rw [if_pos (hc.mpr c4), if_pos (hc.mpr c4)]; exact ⟨_, rfl, rfl⟩
      · rw [if_neg (fun e => c4 (hc.mp e)), if_neg (fun e => c4 (hc.mp e)), q_of vM (by omega), Option.bind_some]
        have e1 := h.1.get (k := k) (by omega)
        have e2 := hm.1.get (k := k) (by omega)
        have e3 : lotC vB k = lotM (vM 1) k := Option.some.inj (e1.symm.trans e2)
        rw [X0_tellOfLot]
        rcases c5 (j := j) (by omega) with rfl | rfl | rfl | rfl | rfl | rfl
        · rw [if_pos (by decide), q_at (by omega) (by decide)]
          exact ⟨_, rfl, congrArg some (congrArg (fun l : Lot => l.1) e3).symm⟩
        · rw [if_neg (by decide), if_pos (by decide), q_at (by omega) (by decide)]
          exact ⟨_, rfl, congrArg some (congrArg (fun l : Lot => l.2.1) e3).symm⟩
        · rw [if_neg (by decide), if_neg (by decide), if_pos (by decide), q_at (by omega) (by decide)]
          exact ⟨_, rfl, congrArg some (congrArg (fun l : Lot => l.2.2.1) e3).symm⟩
        · rw [if_neg (by decide), if_neg (by decide), if_neg (by decide), if_pos (by decide), q_at (by omega) (by decide)]
          exact ⟨_, rfl, congrArg some (congrArg (fun l : Lot => l.2.2.2.1) e3).symm⟩
        · rw [if_neg (by decide), if_neg (by decide), if_neg (by decide), if_neg (by decide), if_pos (by decide), q_at (by omega) (by decide)]
          exact ⟨_, rfl, congrArg some (congrArg (fun l : Lot => l.2.2.2.2.1) e3).symm⟩
        · rw [if_neg (by decide), if_neg (by decide), if_neg (by decide), if_neg (by decide), if_neg (by decide), q_at (by omega) (by decide)]
          exact ⟨_, rfl, congrArg some (congrArg (fun l : Lot => l.2.2.2.2.2) e3).symm⟩
/- balances -/
def balS (a : AS) (d : Nat) : Int32 := sumS (mt (-1) (nI d) (-1)) 0 a.1 - sumS (mt (nI d) (-1) (-1)) 0 a.1
theorem c_bal {v : St} {a : AS} (h : RC v a) (d : Nat) : X0_balanceByLots v (nI d) = some (balS a d) := by
  rw [X0_balanceByLots, q_sumOwed h.1, Option.bind_some, q_sumOwed h.1, Option.bind_some]; rfl
theorem m_bal {v : St} {a : AS} (h : RM (v 1) a) {d : Nat} (hd : d < 2 ^ 31) : X5_balance v (nI d) = some (balS a d) := by
  rw [X5_balance, q_sumM1 h.1 hd, Option.bind_some, q_sumM0 h.1 hd, Option.bind_some]; rfl
theorem c8 {j : Nat} (h : j < 9) : j = 0 ∨ j = 1 ∨ j = 2 ∨ j = 3 ∨ j = 4 ∨ j = 5 ∨ j = 6 ∨ j = 7 ∨ j = 8 := by omega
theorem f_pupilOf {vB vM : St} {a : AS} (h : RC vB a) (hm : RM (vM 1) a) (ho : OK a) (vT vH : St) (bH : Nat → St) (vR vO : St) (p1 p2 : Int32) : ∃ ans, X4_pupilOf vB vT vH bH vR vO p1 p2 = some ans ∧ X5_pupilOf vM p1 p2 = some ans := by
  have t9' : (9 : Int32).toInt = 9 := by decide
  have t8' : (8 : Int32).toInt = 8 := by decide
  rw [X4_pupilOf, q_isPupil h, Option.bind_some, ifb, X5_pupilOf, q_isPupilM hm ho, Option.bind_some, ifb, q_inM, Option.bind_some, ifb, t8', Int32.toInt_zero]
  cases h1 : kP a p1 with
  | false => exact ⟨_, rfl, rfl⟩
  | true =>
  obtain ⟨d, rfl, hd⟩ := kP_d ho h1
  simp only [cond_true]
  cases hk : kIn p2 0 8 with
  | false =>
    refine ⟨-1000001, ?_, rfl⟩
    by_cases c2 : p2 < 0
    · rw [if_pos c2]
    · rw [if_neg c2]
      by_cases c3 : p2 < 9
      · rw [lt_i, Int32.toInt_zero] at c2
        rw [lt_i, t9'] at c3
        have : kIn p2 0 8 = true := kIn_iff.mpr (by omega)
        rw [hk] at this; cases this
      · rw [if_neg c3]
  | true =>
    obtain ⟨j, rfl, _, hj⟩ := kIn_nat hk (by decide)
    have c2 : ¬ nI j < 0 := nI_pos (by omega)
    have c3 : nI j < 9 := by rw [lt_i, t9', nI_toInt (by omega)]; omega
    simp only [cond_true]
    rw [if_neg c2, if_pos c3, X0_tellOfPupil]
    have row : ∀ r, 2 ≤ r → r ≤ 7 → vB r d = a.2.2 r d ∧ vM 1 (240 + 6 * d + offP r) = a.2.2 r d := fun r a1 a2 => ⟨h.2.2 r d a1 a2 hd, hm.2.2 r d a1 a2 hd⟩
    rcases c8 (j := j) (by omega) with rfl | rfl | rfl | rfl | rfl | rfl | rfl | rfl | rfl
    · rw [if_pos (by decide), if_pos (by decide), q_sumOwed h.1, q_sumM0 hm.1 (by omega)]
      exact ⟨_, rfl, rfl⟩
    · rw [if_neg (by decide), if_pos (by decide), if_neg (by decide), if_pos (by decide), q_sumOwed h.1, q_sumM1 hm.1 (by omega)]
      exact ⟨_, rfl, rfl⟩
    · rw [if_neg (by decide), if_neg (by decide), if_pos (by decide), if_neg (by decide), if_neg (by decide), if_pos (by decide), c_bal h, m_bal hm (by omega)]
      exact ⟨_, rfl, rfl⟩
    · obtain ⟨r1, r2⟩ := row 2 (by decide) (by decide)
      rw [if_neg (by decide), if_neg (by decide), if_neg (by decide), if_pos (by decide), if_neg (by decide), if_neg (by decide), if_neg (by decide), if_pos (by decide), q_at (by omega) (by decide), q_atM5]
      simp only [Option.bind_some]
      rw [q_ld (by omega) (by decide)]
      simp only [Option.bind_some]
      rw [r1, show vM 1 (240 + 6 * d + 5) = a.2.2 2 d from r2]
      exact ⟨_, rfl, rfl⟩
    · obtain ⟨r1, r2⟩ := row 3 (by decide) (by decide)
      rw [if_neg (by decide), if_neg (by decide), if_neg (by decide), if_neg (by decide), if_pos (by decide), if_neg (by decide), if_neg (by decide), if_neg (by decide), if_neg (by decide), if_pos (by decide), q_at (by omega) (by decide), show nI 4 - (4 : Int32) = 0 from rfl, q_atM0]
      simp only [Option.bind_some]
      rw [q_ld (by omega) (by decide)]
      simp only [Option.bind_some]
      rw [r1, show vM 1 (240 + 6 * d + 0) = a.2.2 3 d from r2]
      exact ⟨_, rfl, rfl⟩
    · obtain ⟨r1, r2⟩ := row 4 (by decide) (by decide)
      rw [if_neg (by decide), if_neg (by decide), if_neg (by decide), if_neg (by decide), if_neg (by decide), if_pos (by decide), if_neg (by decide), if_neg (by decide), if_neg (by decide), if_neg (by decide), if_neg (by decide), if_pos (by decide), q_at (by omega) (by decide), show nI 5 - (4 : Int32) = 1 from rfl, q_atM1]
      simp only [Option.bind_some]
      rw [q_ld (by omega) (by decide)]
      simp only [Option.bind_some]
      rw [r1, show vM 1 (240 + 6 * d + 1) = a.2.2 4 d from r2]
      exact ⟨_, rfl, rfl⟩
    · obtain ⟨r1, r2⟩ := row 5 (by decide) (by decide)
      obtain ⟨_, P, h8, hP, _, hg, _⟩ := ho
      obtain ⟨gg, eg, g1, g2⟩ := hg d hd
      rw [if_neg (by decide), if_neg (by decide), if_neg (by decide), if_neg (by decide), if_neg (by decide), if_neg (by decide), if_pos (by decide), if_neg (by decide), if_neg (by decide), if_neg (by decide), if_neg (by decide), if_neg (by decide), if_neg (by decide), if_pos (by decide), q_guar h hd, q_atM2]
      simp only [Option.bind_some]
      rw [q_ld (by omega) (by decide)]
      simp only [Option.bind_some]
      rw [show vM 1 (240 + 6 * d + 2) = a.2.2 5 d from r2, eg]
      by_cases z : gg = 0
      · subst z
        rw [if_pos (by decide), if_pos (by decide)]; exact ⟨_, rfl, rfl⟩
      · obtain ⟨m, rfl⟩ : ∃ m, gg = m + 1 := ⟨gg - 1, by omega⟩
        rw [nI_pred, if_neg (nI_pos (by omega)), if_neg (show ¬ nI (m + 1) ≤ (0 : Int32) by
          have : ¬ nI (m + 1) ≤ nI 0 := by rw [q_le (by omega) (by decide)]; omega
          exact this)]
        exact ⟨_, rfl, rfl⟩
    · obtain ⟨r1, r2⟩ := row 6 (by decide) (by decide)
      rw [if_neg (by decide), if_neg (by decide), if_neg (by decide), if_neg (by decide), if_neg (by decide), if_neg (by decide), if_neg (by decide), if_pos (by decide), if_neg (by decide), if_neg (by decide), if_neg (by decide), if_neg (by decide), if_neg (by decide), if_neg (by decide), if_neg (by decide), q_at (by omega) (by decide), show nI 7 - (4 : Int32) = 3 from rfl, q_atM3]
      simp only [Option.bind_some]
      rw [q_ld (by omega) (by decide)]
      simp only [Option.bind_some]
      rw [r1, show vM 1 (240 + 6 * d + 3) = a.2.2 6 d from r2]
      exact ⟨_, rfl, rfl⟩
    · obtain ⟨r1, r2⟩ := row 7 (by decide) (by decide)
      rw [if_neg (by decide), if_neg (by decide), if_neg (by decide), if_neg (by decide), if_neg (by decide), if_neg (by decide), if_neg (by decide), if_neg (by decide), if_neg (by decide), if_neg (by decide), if_neg (by decide), if_neg (by decide), if_neg (by decide), if_neg (by decide), if_neg (by decide), q_at (by omega) (by decide), show nI 8 - (4 : Int32) = 4 from rfl, q_atM4]
      simp only [Option.bind_some]
      rw [q_ld (by omega) (by decide)]
      simp only [Option.bind_some]
      rw [r1, show vM 1 (240 + 6 * d + 4) = a.2.2 7 d from r2]
      exact ⟨_, rfl, rfl⟩

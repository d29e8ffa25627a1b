/- the class's face: changes -/
theorem face {vB vT vH : St} {bH : Nat → St} {a : AS} {hist : List AS} (hB : RC vB a) (hH : HC vH bH hist) (vR vO : St) {S : Int32 × AS} (hT : RC vT S.2) (he : S.1 < 0 → S.2 = a) :
    ∃ vB' vH' bH' hist', X4_settled vB vT vH bH vR vO S.1 = some (S.1, vB', vH', bH') ∧ RC vB' S.2 ∧ HC vH' bH' hist' := by
  by_cases c : S.1 < 0
  · exact ⟨vB, vH, bH, hist, q_settledE vB vT vH bH vR vO c, by rw [he c]; exact hB, hH⟩
  · obtain ⟨vB', vH', bH', s1, s2, s3⟩ := q_settled vR vO hB hT hH c
    exact ⟨vB', vH', bH', _, s1, s2, s3⟩
theorem fc_lend {vB vH : St} {bH : Nat → St} {a : AS} {hist : List AS} (hB : RC vB a) (ho : OK a) (hH : HC vH bH hist) (vT vR vO : St) (p1 p2 p3 p4 : Int32) (he : (lendS a p1 p2 p3 p4).1 < 0 → (lendS a p1 p2 p3 p4).2 = a) :
    ∃ vB' vT' vH' bH' hist', X4_lend vB vT vH bH vR vO p1 p2 p3 p4 = some ((lendS a p1 p2 p3 p4).1, vB', vT', vH', bH') ∧ RC vB' (lendS a p1 p2 p3 p4).2 ∧ HC vH' bH' hist' := by
  obtain ⟨w, e, r⟩ := q_fresh vT vH bH vR vO hB
  obtain ⟨w2, e2, r2⟩ := c_lendS r ho p1 p2 p3 p4
  obtain ⟨vB', vH', bH', hist', e3, r3, r4⟩ := face hB hH vR vO (S := lendS a p1 p2 p3 p4) r2 he
  exact ⟨vB', w2, vH', bH', hist', by rw [X4_lend, e, Option.bind_some, e2, Option.bind_some, e3, Option.bind_some], r3, r4⟩
theorem fc_fulfil {vB vH : St} {bH : Nat → St} {a : AS} {hist : List AS} (hB : RC vB a) (ho : OK a) (hH : HC vH bH hist) (vT vR vO : St) (p1 p2 p3 p4 : Int32) (he : (fulS a p1 p2 p3 p4).1 < 0 → (fulS a p1 p2 p3 p4).2 = a) :
    ∃ vB' vT' vH' bH' hist', X4_fulfil vB vT vH bH vR vO p1 p2 p3 p4 = some ((fulS a p1 p2 p3 p4).1, vB', vT', vH', bH') ∧ RC vB' (fulS a p1 p2 p3 p4).2 ∧ HC vH' bH' hist' := by
  obtain ⟨w, e, r⟩ := q_fresh vT vH bH vR vO hB
  obtain ⟨w2, e2, r2⟩ := c_fulS r ho p1 p2 p3 p4
  obtain ⟨vB', vH', bH', hist', e3, r3, r4⟩ := face hB hH vR vO (S := fulS a p1 p2 p3 p4) r2 he
  exact ⟨vB', w2, vH', bH', hist', by rw [X4_fulfil, e, Option.bind_some, e2, Option.bind_some, e3, Option.bind_some], r3, r4⟩
theorem fc_guarantee {vB vH : St} {bH : Nat → St} {a : AS} {hist : List AS} (hB : RC vB a) (ho : OK a) (hH : HC vH bH hist) (vT vR vO : St) (p1 p2 : Int32) (he : (guaS a p1 p2).1 < 0 → (guaS a p1 p2).2 = a) :
    ∃ vB' vT' vH' bH' hist', X4_guarantee vB vT vH bH vR vO p1 p2 = some ((guaS a p1 p2).1, vB', vT', vH', bH') ∧ RC vB' (guaS a p1 p2).2 ∧ HC vH' bH' hist' := by
  obtain ⟨w, e, r⟩ := q_fresh vT vH bH vR vO hB
  obtain ⟨w2, e2, r2⟩ := c_guaS r ho p1 p2
  obtain ⟨vB', vH', bH', hist', e3, r3, r4⟩ := face hB hH vR vO (S := guaS a p1 p2) r2 he
  exact ⟨vB', w2, vH', bH', hist', by rw [X4_guarantee, e, Option.bind_some, e2, Option.bind_some, e3, Option.bind_some], r3, r4⟩
theorem fc_weeks {vB vH : St} {bH : Nat → St} {a : AS} {hist : List AS} (hB : RC vB a) (ho : OK a) (hH : HC vH bH hist) (vT vR vO : St) (p1 : Int32) (he : (weeksS a p1).1 < 0 → (weeksS a p1).2 = a) :
    ∃ vB' vT' vH' bH' hist', X4_weeks vB vT vH bH vR vO p1 = some ((weeksS a p1).1, vB', vT', vH', bH') ∧ RC vB' (weeksS a p1).2 ∧ HC vH' bH' hist' := by
  obtain ⟨w, e, r⟩ := q_fresh vT vH bH vR vO hB
  obtain ⟨w2, e2, r2⟩ := c_weeksS r ho p1
  obtain ⟨vB', vH', bH', hist', e3, r3, r4⟩ := face hB hH vR vO (S := weeksS a p1) r2 he
  exact ⟨vB', w2, vH', bH', hist', by rw [X4_weeks, e, Option.bind_some, e2, Option.bind_some, e3, Option.bind_some], r3, r4⟩
theorem fc_holiday {vB vH : St} {bH : Nat → St} {a : AS} {hist : List AS} (hB : RC vB a) (ho : OK a) (hH : HC vH bH hist) (vT vR vO : St) (p1 : Int32) (he : (holS a p1).1 < 0 → (holS a p1).2 = a) :
    ∃ vB' vT' vH' bH' hist', X4_holiday vB vT vH bH vR vO p1 = some ((holS a p1).1, vB', vT', vH', bH') ∧ RC vB' (holS a p1).2 ∧ HC vH' bH' hist' := by
  obtain ⟨w, e, r⟩ := q_fresh vT vH bH vR vO hB
  obtain ⟨w2, e2, r2⟩ := c_holS r p1
  obtain ⟨vB', vH', bH', hist', e3, r3, r4⟩ := face hB hH vR vO (S := holS a p1) r2 he
  exact ⟨vB', w2, vH', bH', hist', by rw [X4_holiday, e, Option.bind_some, e2, Option.bind_some, e3, Option.bind_some], r3, r4⟩
theorem fc_set {vB vH : St} {bH : Nat → St} {a : AS} {hist : List AS} (hB : RC vB a) (ho : OK a) (hH : HC vH bH hist) (vT vR vO : St) (p1 p2 : Int32) (he : (setS a p1 p2).1 < 0 → (setS a p1 p2).2 = a) :
    ∃ vB' vT' vH' bH' hist', X4_set vB vT vH bH vR vO p1 p2 = some ((setS a p1 p2).1, vB', vT', vH', bH') ∧ RC vB' (setS a p1 p2).2 ∧ HC vH' bH' hist' := by
  obtain ⟨w, e, r⟩ := q_fresh vT vH bH vR vO hB
  obtain ⟨w2, e2, r2⟩ := c_setS r p1 p2
  obtain ⟨vB', vH', bH', hist', e3, r3, r4⟩ := face hB hH vR vO (S := setS a p1 p2) r2 he
  exact ⟨vB', w2, vH', bH', hist', by rw [X4_set, e, Option.bind_some, e2, Option.bind_some, e3, Option.bind_some], r3, r4⟩
theorem fc_pupil {vB vH : St} {bH : Nat → St} {a : AS} {hist : List AS} (hB : RC vB a) (ho : OK a) (hH : HC vH bH hist) (vT vR vO : St) (he : (pupS a).1 < 0 → (pupS a).2 = a) :
    ∃ vB' vT' vH' bH' hist', X4_pupil vB vT vH bH vR vO  = some ((pupS a).1, vB', vT', vH', bH') ∧ RC vB' (pupS a).2 ∧ HC vH' bH' hist' := by
  obtain ⟨w, e, r⟩ := q_fresh vT vH bH vR vO hB
  obtain ⟨w2, e2, r2⟩ := c_pupS r ho
  obtain ⟨vB', vH', bH', hist', e3, r3, r4⟩ := face hB hH vR vO (S := pupS a) r2 he
  exact ⟨vB', w2, vH', bH', hist', by rw [X4_pupil, e, Option.bind_some, e2, Option.bind_some, e3, Option.bind_some], r3, r4⟩
theorem fc_clear {vB vH : St} {bH : Nat → St} {a : AS} {hist : List AS} (hB : RC vB a) (ho : OK a) (hH : HC vH bH hist) (vT vR vO : St) (p1 : Int32) (he : (clearS a p1).1 < 0 → (clearS a p1).2 = a) :
    ∃ vB' vT' vH' bH' vR' hist', X4_clear vB vT vH bH vR vO p1 = some ((clearS a p1).1, vB', vT', vH', bH', vR') ∧ RC vB' (clearS a p1).2 ∧ HC vH' bH' hist' ∧ OK (clearS a p1).2 := by
  obtain ⟨w, e, r⟩ := q_fresh vT vH bH vR vO hB
  obtain ⟨vR', w2, e2, r2, o2⟩ := c_clearS r ho vR p1
  obtain ⟨vB', vH', bH', hist', e3, r3, r4⟩ := face hB hH vR' vO (S := clearS a p1) r2 he
  exact ⟨vB', w2, vH', bH', vR', hist', by rw [X4_clear, e, Option.bind_some, e2, Option.bind_some, e3, Option.bind_some], r3, r4, o2⟩
/- an error changes nothing -/
theorem lendS_er {a : AS} (ho : OK a) (p1 p2 p3 p4 : Int32) : (lendS a p1 p2 p3 p4).1 < 0 → (lendS a p1 p2 p3 p4).2 = a := by
  unfold lendS
  cases h1 : kPr a p1 p2 with
  | false => exact fun _ => rfl
  | true =>
  cases h2 : kIn p3 0 3 with
  | false => exact fun _ => rfl
  | true =>
  cases h3 : kIn p4 1 9 with
  | false => exact fun _ => rfl
  | true =>
  obtain ⟨d, c, P, rfl, rfl, hd, hc, hdc, h8, hP⟩ := kPr_nat ho h1
  obtain ⟨n, rfl, hn1, hn9⟩ := kIn_nat h3 (by decide)
  simp only [cond_true]
  split
  · split
    · intro z
      refine absurd z (sum_pos (okN_app ho.okN (fun l hl => ?_)) ?_)
      · rw [List.mem_singleton] at hl; subst hl; exact ⟨n, rfl, by omega⟩
      · have := ho.1; simp; omega
    · exact fun _ => rfl
  · exact fun _ => rfl
theorem fulS_er {a : AS} (ho : OK a) (p1 p2 p3 p4 : Int32) : (fulS a p1 p2 p3 p4).1 < 0 → (fulS a p1 p2 p3 p4).2 = a := by
  unfold fulS
  cases h1 : kPr a p1 p2 with
  | false => exact fun _ => rfl
  | true =>
  cases h2 : kIn p3 0 3 with
  | false => exact fun _ => rfl
  | true =>
  cases h3 : kIn p4 1 9 with
  | false => exact fun _ => rfl
  | true =>
  obtain ⟨n, rfl, hn1, hn9⟩ := kIn_nat h3 (by decide)
  simp only [cond_true]
  split
  · intro z
    refine absurd z (sum_pos (filter_okN (takL_okN 40 n a.1 (by omega) ho.okN)) ?_)
    have := List.length_filter_le pos (takL (mt p1 p2 p3) 40 (nI n) a.1)
    rw [takL_len] at this
    have := ho.1
    omega
  · exact fun _ => rfl
theorem guaS_er {a : AS} (ho : OK a) (p1 p2 : Int32) : (guaS a p1 p2).1 < 0 → (guaS a p1 p2).2 = a := by
  unfold guaS
  cases h : (kP a p1 && (decide (p2 = -1) || (kP a p2 && decide (¬ p1 = p2)))) with
  | false => exact fun _ => rfl
  | true =>
    rw [Bool.and_eq_true] at h
    obtain ⟨_, P, h8, hP, _, hg, _⟩ := ho
    obtain ⟨d, rfl, hd⟩ := kP_nat h.1 hP h8
    obtain ⟨g, e, hg1, _⟩ := hg d (by omega)
    intro z
    refine absurd (show a.2.2 5 (ix (nI d)) < 0 from z) ?_
    rw [ix_nI (by omega), e]
    exact nI_pos (by omega)
theorem holS_er {a : AS} (ho : OK a) (p1 : Int32) : (holS a p1).1 < 0 → (holS a p1).2 = a := by
  obtain ⟨_, P, _, _, _, _, _, _, _, h01, _⟩ := ho
  intro z
  refine absurd (show a.2.1 10 < 0 from z) ?_
  rcases h01 with e | e <;> rw [e] <;> decide
theorem pupS_er {a : AS} (ho : OK a) : (pupS a).1 < 0 → (pupS a).2 = a := by
  obtain ⟨_, P, h8, hP, _⟩ := ho
  unfold pupS
  split
  · exact fun _ => rfl
  · intro z
    refine absurd (show a.2.1 1 < 0 from z) ?_
    rw [hP]; exact nI_pos (by omega)
theorem setS_er {a : AS} (ho : OK a) (p1 p2 : Int32) : (setS a p1 p2).1 < 0 → (setS a p1 p2).2 = a := by
  unfold setS
  cases h : (kIn p1 0 5 && kIn p2 1 (if p1 = 4 then 99 else 20)) with
  | false => exact fun _ => rfl
  | true =>
    rw [Bool.and_eq_true] at h
    obtain ⟨d, rfl, _, hd⟩ := kIn_nat h.1 (by decide)
    obtain ⟨_, P, _, _, _, _, s1, ⟨n2, s2, _, s22⟩, ⟨n3, s3, _, s33⟩, _⟩ := ho
    intro z
    refine absurd (show a.2.1 (20 + ix (nI d)) < 0 from z) ?_
    rw [ix_nI (by omega)]
    by_cases c : d < 4
    · obtain ⟨n, e, _, hn⟩ := s1 d c
      rw [e]; exact nI_pos (by omega)
    · rcases (by omega : d = 4 ∨ d = 5) with y | y
      · subst y; rw [show 20 + 4 = 24 from rfl, s2]; exact nI_pos (by omega)
      · subst y; rw [show 20 + 5 = 25 from rfl, s3]; exact nI_pos (by omega)
theorem clr_le {k : Nat} : ∀ (n s : Nat) (a : AS), OK a → totN a.1 ≤ n → (clrN (nI k) n a s).1 ≤ s + totN a.1 := by
  intro n
  induction n with
  | zero => intro s a _ _; exact Nat.le_add_right _ _
  | succ n ih =>
    intro s a ho ht
    unfold clrN
    by_cases c : rgL (WN (nI k) a.1) = 0
    · rw [if_pos c]; exact Nat.le_add_right _ _
    · rw [if_neg c]
      obtain ⟨o1, o2, o3, _⟩ := turn_ok ho (ring_all ho (nI k)) (by omega)
      have := ih (s + rgA (WN (nI k) a.1) * rgL (WN (nI k) a.1)) _ o1 (by omega)
      omega
theorem clearS_er {a : AS} (ho : OK a) (k : Nat) : (clearS a (nI k)).1 < 0 → (clearS a (nI k)).2 = a := by
  unfold clearS
  cases kIn (nI k) 0 3 with
  | false => exact fun _ => rfl
  | true =>
    intro z
    have h1 := clr_le (k := k) 360 0 a ho (tot_le ho)
    have h2 := tot_le ho
    exact absurd (show nI (clrN (nI k) 360 a 0).1 < 0 from z) (nI_pos (by omega))
/- the class's face: questions -/
theorem kP_lt {a : AS} {d P : Nat} (hP : a.2.1 1 = nI P) (h8 : P ≤ 8) (hd : d < P) : kP a (nI d) = true := by
  rw [kP_iff, hP, nI_toInt (by omega), nI_toInt (by omega)]; omega
theorem kP_ge {a : AS} {d P : Nat} (hP : a.2.1 1 = nI P) (h8 : P ≤ 8) (hd : P ≤ d) (h9 : d < 2 ^ 31) : kP a (nI d) = false := by
  cases h : kP a (nI d) with
  | false => rfl
  | true => rw [kP_iff, hP, nI_toInt (by omega), nI_toInt (by omega)] at h; omega
theorem kIn_nI {d lo hi : Nat} (h1 : lo ≤ d) (h2 : d ≤ hi) (h3 : d < 2 ^ 31) : kIn (nI d) lo hi = true := by
  rw [kIn_iff, nI_toInt h3]; omega
theorem c_owes {vB : St} {a : AS} (h : RC vB a) {P : Nat} (hP : a.2.1 1 = nI P) (h8 : P ≤ 8) (vT vH : St) (bH : Nat → St) (vR vO : St) {d c k : Nat} (hd : d < P) (hc : c < P) (hk : k < 4) : X4_owes vB vT vH bH vR vO (nI d) (nI c) (nI k) = some (sumS (mtE (nI d) (nI c) (nI k)) 0 a.1) := by
  have h3 : kIn (nI k) 0 3 = true := kIn_nI (lo := 0) (hi := 3) (by omega) (by omega) (by omega)
  rw [X4_owes, q_isPupil h, Option.bind_some, ifb, q_isPupil h, Option.bind_some, ifb, q_isKind, Option.bind_some, ifb, kP_lt hP h8 hd, kP_lt hP h8 hc, h3]
  simp only [cond_true]
  rw [q_sumOwed h.1, Option.bind_some, mt_E2 (by omega) (by omega) h3]
theorem c_why {vB : St} {a : AS} (h : RC vB a) (ho : OK a) {P : Nat} (hP : a.2.1 1 = nI P) (h8 : P ≤ 8) (vT vH : St) (bH : Nat → St) (vR vO : St) {d n : Nat} (hd : d < P) (hn : 1 ≤ n) (h9 : n ≤ 9) : X4_why vB vT vH bH vR vO (nI d) (nI n) = some (barS a d (nI n)) := by
  have h3 : kIn (nI n) 1 9 = true := kIn_nI (lo := 1) (hi := 9) hn h9 (by omega)
  rw [X4_why, q_isPupil h, Option.bind_some, ifb, q_isMany, Option.bind_some, ifb, kP_lt hP h8 hd, h3]
  simp only [cond_true]
  rw [q_reason h ho (by omega), Option.bind_some]
theorem c_lot_no (vB vT vH : St) (bH : Nat → St) (vR vO : St) : X4_lot vB vT vH bH vR vO (-1 : Int32) (0 : Int32) = some (-1000001) ∧ X4_lot vB vT vH bH vR vO (0 : Int32) (6 : Int32) = some (-1000001) := by
  constructor
  · rw [X4_lot, if_pos (by decide)]
  · rw [X4_lot, if_neg (by decide), if_neg (by decide), if_neg (by decide)]
theorem c_lot_len {vB : St} {a : AS} (h : RC vB a) (ho : OK a) (vT vH : St) (bH : Nat → St) (vR vO : St) : X4_lot vB vT vH bH vR vO (nI a.1.length) (0 : Int32) = some (-1000004) := by
  have h40 := ho.1
  rw [X4_lot, if_neg (nI_pos (by omega)), if_neg (by decide), if_pos (by decide), q_num2, Option.bind_some, h.1.1, if_pos (nI_le (Nat.le_refl _) (by omega))]
theorem c_lot {vB : St} {a : AS} (h : RC vB a) (ho : OK a) (vT vH : St) (bH : Nat → St) (vR vO : St) {k : Nat} {l : Lot} (hk : a.1[k]? = some l) :
    X4_lot vB vT vH bH vR vO (nI k) (0 : Int32) = some l.d ∧ X4_lot vB vT vH bH vR vO (nI k) (1 : Int32) = some l.c ∧ X4_lot vB vT vH bH vR vO (nI k) (2 : Int32) = some l.k ∧ X4_lot vB vT vH bH vR vO (nI k) (3 : Int32) = some l.n ∧ X4_lot vB vT vH bH vR vO (nI k) (4 : Int32) = some l.a ∧ X4_lot vB vT vH bH vR vO (nI k) (5 : Int32) = some l.p := by
  have h40 := ho.1
  have hlt : k < a.1.length := (List.getElem?_eq_some_iff.mp hk).1
  have e1 := h.1.get (k := k) hlt
  rw [hk] at e1
  have el : l = lotC vB k := Option.some.inj e1
  have hc : ¬ nI a.1.length ≤ nI k := nI_ge hlt (by omega)
  have step : ∀ p2 : Int32, ¬ p2 < 0 → p2 < 6 → X4_lot vB vT vH bH vR vO (nI k) p2 = (X0_tellOfLot vB (nI k) p2).bind fun u6 => some u6 := by
    intro p2 b1 b2
    rw [X4_lot, if_neg (nI_pos (by omega)), if_neg b1, if_pos b2, q_num2, Option.bind_some, h.1.1, if_neg hc]
  refine ⟨?_, ?_, ?_, ?_, ?_, ?_⟩
  · rw [step _ (by decide) (by decide), X0_tellOfLot, if_pos (by decide), q_at (by omega) (by decide), el]; rfl
  · rw [step _ (by decide) (by decide), X0_tellOfLot, if_neg (by decide), if_pos (by decide), q_at (by omega) (by decide), el]; rfl
  · rw [step _ (by decide) (by decide), X0_tellOfLot, if_neg (by decide), if_neg (by decide), if_pos (by decide), q_at (by omega) (by decide), el]; rfl
  · rw [step _ (by decide) (by decide), X0_tellOfLot, if_neg (by decide), if_neg (by decide), if_neg (by decide), if_pos (by decide), q_at (by omega) (by decide), el]; rfl
  · rw [step _ (by decide) (by decide), X0_tellOfLot, if_neg (by decide), if_neg (by decide), if_neg (by decide), if_neg (by decide), if_pos (by decide), q_at (by omega) (by decide), el]; rfl
  · rw [step _ (by decide) (by decide), X0_tellOfLot, if_neg (by decide), if_neg (by decide), if_neg (by decide), if_neg (by decide), if_neg (by decide), q_at (by omega) (by decide), el]; rfl
theorem c_pup_no {vB : St} {a : AS} (h : RC vB a) {P : Nat} (hP : a.2.1 1 = nI P) (h8 : P ≤ 8) (vT vH : St) (bH : Nat → St) (vR vO : St) : X4_pupilOf vB vT vH bH vR vO (nI P) (0 : Int32) = some (-1000001) := by
  rw [X4_pupilOf, q_isPupil h, Option.bind_some, ifb, kP_ge hP h8 (Nat.le_refl _) (by omega)]; rfl
theorem c_pup {vB : St} {a : AS} (h : RC vB a) (ho : OK a) {P : Nat} (hP : a.2.1 1 = nI P) (h8 : P ≤ 8) (vT vH : St) (bH : Nat → St) (vR vO : St) {d : Nat} (hd : d < P) :
    X4_pupilOf vB vT vH bH vR vO (nI d) (0 : Int32) = some (sumS (mt (nI d) (-1) (-1)) 0 a.1) ∧ X4_pupilOf vB vT vH bH vR vO (nI d) (1 : Int32) = some (sumS (mt (-1) (nI d) (-1)) 0 a.1) ∧
    X4_pupilOf vB vT vH bH vR vO (nI d) (2 : Int32) = some ((1000 : Int32) + balS a d) ∧ X4_pupilOf vB vT vH bH vR vO (nI d) (3 : Int32) = some ((1000 : Int32) + a.2.2 2 d) ∧
    X4_pupilOf vB vT vH bH vR vO (nI d) (4 : Int32) = some (a.2.2 3 d) ∧ X4_pupilOf vB vT vH bH vR vO (nI d) (5 : Int32) = some (a.2.2 4 d) ∧
    X4_pupilOf vB vT vH bH vR vO (nI d) (6 : Int32) = some (if a.2.2 5 d ≤ 0 then -1000004 else a.2.2 5 d - 1) ∧ X4_pupilOf vB vT vH bH vR vO (nI d) (7 : Int32) = some (a.2.2 6 d) ∧ X4_pupilOf vB vT vH bH vR vO (nI d) (8 : Int32) = some (a.2.2 7 d) := by
  have step : ∀ p2 : Int32, ¬ p2 < 0 → p2 < 9 → X4_pupilOf vB vT vH bH vR vO (nI d) p2 = (X0_tellOfPupil vB (nI d) p2).bind fun u5 => some u5 := by
    intro p2 b1 b2
    rw [X4_pupilOf, q_isPupil h, Option.bind_some, ifb, kP_lt hP h8 hd]
    simp only [cond_true]
    rw [if_neg b1, if_pos b2]
  have row : ∀ r, 2 ≤ r → r ≤ 7 → vB r d = a.2.2 r d := fun r a1 a2 => h.2.2 r d a1 a2 (by omega)
  have hd8 : d < 8 := by omega
  refine ⟨?_, ?_, ?_, ?_, ?_, ?_, ?_, ?_, ?_⟩
  · rw [step _ (by decide) (by decide), X0_tellOfPupil, if_pos (by decide), q_sumOwed h.1]; rfl
  · rw [step _ (by decide) (by decide), X0_tellOfPupil, if_neg (by decide), if_pos (by decide), q_sumOwed h.1]; rfl
  · rw [step _ (by decide) (by decide), X0_tellOfPupil, if_neg (by decide), if_neg (by decide), if_pos (by decide), c_bal h]; rfl
  · rw [step _ (by decide) (by decide), X0_tellOfPupil, if_neg (by decide), if_neg (by decide), if_neg (by decide), if_pos (by decide), q_at hd8 (by decide), row 2 (by decide) (by decide)]; rfl
  · rw [step _ (by decide) (by decide), X0_tellOfPupil, if_neg (by decide), if_neg (by decide), if_neg (by decide), if_neg (by decide), if_pos (by decide), q_at hd8 (by decide), row 3 (by decide) (by decide)]; rfl
  · rw [step _ (by decide) (by decide), X0_tellOfPupil, if_neg (by decide), if_neg (by decide), if_neg (by decide), if_neg (by decide), if_neg (by decide), if_pos (by decide), q_at hd8 (by decide), row 4 (by decide) (by decide)]; rfl
  · obtain ⟨_, P', h8', hP', _, hg, _⟩ := ho
    obtain ⟨gg, eg, g1, g2⟩ := hg d hd8
    rw [step _ (by decide) (by decide), X0_tellOfPupil, if_neg (by decide), if_neg (by decide), if_neg (by decide), if_neg (by decide), if_neg (by decide), if_neg (by decide), if_pos (by decide), q_guar h hd8, eg]
    simp only [Option.bind_some]
    by_cases z : gg = 0
    · subst z
      rw [if_pos (by decide), if_pos (by decide)]; rfl
    · obtain ⟨m, rfl⟩ : ∃ m, gg = m + 1 := ⟨gg - 1, by omega⟩
      rw [nI_pred, if_neg (nI_pos (by omega)), if_neg (nI_nle (by omega) (by omega))]; rfl
  · rw [step _ (by decide) (by decide), X0_tellOfPupil, if_neg (by decide), if_neg (by decide), if_neg (by decide), if_neg (by decide), if_neg (by decide), if_neg (by decide), if_neg (by decide), if_pos (by decide), q_at hd8 (by decide), row 6 (by decide) (by decide)]; rfl
  · rw [step _ (by decide) (by decide), X0_tellOfPupil, if_neg (by decide), if_neg (by decide), if_neg (by decide), if_neg (by decide), if_neg (by decide), if_neg (by decide), if_neg (by decide), if_neg (by decide), q_at hd8 (by decide), row 7 (by decide) (by decide)]; rfl
theorem c_spoils {vB : St} {a : AS} (h : RC vB a) (ho : OK a) {P : Nat} (hP : a.2.1 1 = nI P) (h8 : P ≤ 8) (vT vH : St) (bH : Nat → St) (vR vO : St) {d : Nat} (hd : d < P) : X4_spoilsIn vB vT vH bH vR vO (nI d) = some (oN (-1000004) (spS (nI d) a.2.1 a.1 none)) := by
  obtain ⟨h40, P', h8', hP', hl, _⟩ := ho
  rw [X4_spoilsIn, q_isPupil h, Option.bind_some, ifb, kP_lt hP h8 hd]
  simp only [cond_true]
  have e1 := c_sp_l h hl (nI d) a.1 [] FU none (by show _ < 2000; omega) rfl (fun x hx => by cases hx)
  have e1' : X0_weeksUntilNextSpoils_l4 vB (nI d) FU (0 : Int32) (0 : Int32) = _ := e1.1
  rw [X0_weeksUntilNextSpoils, e1', Option.bind_some]
  cases ho' : spS (nI d) a.2.1 a.1 none with
  | none => rw [if_pos (show oN 0 none ≤ (0 : Int32) by decide)]; rfl
  | some x =>
    have hx := e1.2 x ho'
    rw [if_neg (show ¬ oN 0 (some x) ≤ (0 : Int32) from Int32.not_le.mpr hx)]; rfl
/- ranks: all unlike -/
def bef (a : AS) (x y : Nat) : Prop := balS a x < balS a y ∨ (balS a y = balS a x ∧ y < x)
noncomputable def rkN (a : AS) (x : Nat) : Nat → Nat → Nat
  | 0, _ => 0
  | n + 1, y => rkN a x n (y + 1) + @ite Nat (bef a x y) (Classical.propDecidable _) 1 0
theorem rkS_N {a : AS} {x : Nat} : ∀ (n y acc : Nat), rkS a x n y (nI acc) = nI (acc + rkN a x n y) := by
  intro n
  induction n with
  | zero => intro y acc; rfl
  | succ n ih =>
    intro y acc
    unfold rkS rkN
    by_cases c1 : balS a x < balS a y
    · rw [if_pos c1, q_1, ih, if_pos (show bef a x y from Or.inl c1)]
      congr 1; omega
    · rw [if_neg c1]
      by_cases c2 : balS a y = balS a x
      · rw [if_pos c2]
        by_cases c3 : x ≤ y
        · rw [if_pos c3, ih, if_neg (show ¬ bef a x y from fun z => z.elim c1 (fun w => by omega))]
          congr 1
        · rw [if_neg c3, q_1, ih, if_pos (show bef a x y from Or.inr ⟨c2, by omega⟩)]
          congr 1; omega
      · rw [if_neg c2, ih, if_neg (show ¬ bef a x y from fun z => z.elim c1 (fun w => c2 w.1))]
        congr 1
theorem rkN_le {a : AS} {x z : Nat} (h : ∀ y, bef a x y → bef a z y) : ∀ (n y : Nat), rkN a x n y ≤ rkN a z n y ∧ (∀ w, y ≤ w → w < y + n → ¬ bef a x w → bef a z w → rkN a x n y < rkN a z n y) := by
  intro n
  induction n with
  | zero => intro y; exact ⟨Nat.le_refl _, fun w a b => by omega⟩
  | succ n ih =>
    intro y
    obtain ⟨i1, i2⟩ := ih (y + 1)
    unfold rkN
    by_cases c1 : bef a x y
    · rw [if_pos c1, if_pos (h y c1)]
      refine ⟨by omega, fun w g1 g2 g3 g4 => ?_⟩
      by_cases z : w = y
      · rw [z] at g3; exact absurd c1 g3
      · have := i2 w (by omega) (by omega) g3 g4; omega
    · rw [if_neg c1]
      by_cases c2 : bef a z y
      · rw [if_pos c2]; exact ⟨by omega, fun _ _ _ _ _ => by omega⟩
      · rw [if_neg c2]
        refine ⟨by omega, fun w g1 g2 g3 g4 => ?_⟩
        by_cases z : w = y
        · rw [z] at g4; exact absurd g4 c2
        · have := i2 w (by omega) (by omega) g3 g4; omega
theorem rkN_lt {a : AS} {x : Nat} : ∀ (n y : Nat), rkN a x n y ≤ n ∧ (y ≤ x → x < y + n → rkN a x n y < n) := by
  intro n
  induction n with
  | zero => intro y; exact ⟨Nat.le_refl _, fun _ _ => by omega⟩
  | succ n ih =>
    intro y
    obtain ⟨i1, i2⟩ := ih (y + 1)
    unfold rkN
    by_cases c : bef a x y
    · rw [if_pos c]
      refine ⟨by omega, fun g1 g2 => ?_⟩
      by_cases z : y = x
      · subst z
        rcases c with c | c
        · exact absurd c (by rw [lt_i]; omega)
        · omega
      · have := i2 (by omega) (by omega); omega
    · rw [if_neg c]; exact ⟨by omega, fun _ _ => by omega⟩
theorem bef_tr {a : AS} {x y z : Nat} (h : bef a x y) (k : bef a y z) : bef a x z := by
  unfold bef at *
  rw [lt_i] at h k ⊢
  rcases h with h | ⟨h, h'⟩ <;> rcases k with k | ⟨k, k'⟩
  · exact Or.inl (by omega)
  · exact Or.inl (by rw [k]; exact h)
  · exact Or.inl (by rw [← h]; exact k)
  · exact Or.inr ⟨k.trans h, by omega⟩
theorem bef_irr {a : AS} {x : Nat} : ¬ bef a x x := by
  unfold bef
  rw [lt_i]
  omega
theorem bef_tot {a : AS} {x y : Nat} (h : x ≠ y) : bef a x y ∨ bef a y x := by
  unfold bef
  rw [lt_i, lt_i]
  rcases Int.lt_trichotomy (balS a x).toInt (balS a y).toInt with z | z | z
  · exact Or.inl (Or.inl z)
  · have e : balS a x = balS a y := Int32.toInt_inj.mp z
    rcases Nat.lt_or_gt_of_ne h with w | w
    · exact Or.inr (Or.inr ⟨e, w⟩)
    · exact Or.inl (Or.inr ⟨e.symm, w⟩)
  · exact Or.inr (Or.inl z)
theorem rkN_inj {a : AS} {x y P : Nat} (hx : x < P) (hy : y < P) (e : rkN a x P 0 = rkN a y P 0) : x = y := by
  have key : ∀ u v, u < P → v < P → bef a u v → rkN a v P 0 < rkN a u P 0 := fun u v hu hv h =>
    (rkN_le (a := a) (x := v) (z := u) (fun w hw => bef_tr h hw) P 0).2 v (Nat.zero_le _) (by omega) bef_irr h
  by_cases c : x = y
  · exact c
  · rcases bef_tot (a := a) c with h | h
    · have := key x y hx hy h; omega
    · have := key y x hy hx h; omega
theorem c_rich_l {vB : St} {a : AS} (h : RC vB a) (vT vH : St) (bH : Nat → St) (vR vO : St) {P : Nat} (h8 : P ≤ 8) (hP : a.2.1 1 = nI P) (q : Nat) (hq : q < 2 ^ 31) : ∀ (n fu x : Nat), n < fu → x + n = P →
    (∀ y, y < x → rkN a y P 0 ≠ q) → ((∀ y, y < P → rkN a y P 0 ≠ q) → X4_richest_l9 vB vT vH bH vR vO (nI q) fu (nI x) = some (-1000004)) ∧ (∀ z, z < P → rkN a z P 0 = q → X4_richest_l9 vB vT vH bH vR vO (nI q) fu (nI x) = some (nI z)) := by
  intro n
  induction n with
  | zero =>
    intro fu x hf hx hno
    obtain ⟨fu, rfl⟩ : ∃ f, fu = f + 1 := ⟨fu - 1, by omega⟩
    refine ⟨fun _ => ?_, fun z hz e => absurd e (hno z (by omega))⟩
    rw [X4_richest_l9, q_num1, Option.bind_some, h.2.1 1 (by decide) (by decide), hP, if_pos (nI_le (by omega) (by omega))]
  | succ n ih =>
    intro fu x hf hx hno
    obtain ⟨fu, rfl⟩ : ∃ f, fu = f + 1 := ⟨fu - 1, by omega⟩
    have er : X0_rankOf vB (nI x) = some (nI (rkN a x P 0)) := by
      rw [X0_rankOf, c_bal h, Option.bind_some]
      have := c_rank_l h h8 hP (x := x) (by omega) P FU 0 0 (by show _ < 2000; omega) (by omega)
      rw [show (0 : Int32) = nI 0 from rfl, rkS_N, Nat.zero_add] at this
      exact this
    have hr := (rkN_lt (a := a) (x := x) P 0).1
    have go : X4_richest_l9 vB vT vH bH vR vO (nI q) (fu + 1) (nI x) = (if nI (rkN a x P 0) = nI q then some (nI x) else X4_richest_l9 vB vT vH bH vR vO (nI q) fu (nI (x + 1))) := by
      rw [X4_richest_l9, q_num1, Option.bind_some, h.2.1 1 (by decide) (by decide), hP, if_neg (nI_ge (by omega) (by omega)), er, Option.bind_some, q_1]
    rw [go]
    have he : (nI (rkN a x P 0) = nI q) = (rkN a x P 0 = q) := propext (nI_eq (by omega) hq)
    by_cases c : rkN a x P 0 = q
    · rw [if_pos (he.mpr c)]
      exact ⟨fun z => absurd c (z x (by omega)), fun z hz e => by rw [rkN_inj (a := a) (x := x) (y := z) (by omega) hz (by omega)]⟩
    · rw [if_neg (fun z => c (he.mp z))]
      refine ih fu (x + 1) (by omega) (by omega) (fun y hy => ?_)
      by_cases z : y = x
      · rw [z]; exact c
      · exact hno y (by omega)
theorem c_rich {vB : St} {a : AS} (h : RC vB a) (vT vH : St) (bH : Nat → St) (vR vO : St) {P : Nat} (h8 : P ≤ 8) (hP : a.2.1 1 = nI P) :
    X4_richest vB vT vH bH vR vO (nI P) = some (-1000004) ∧ X4_richest vB vT vH bH vR vO (-1 : Int32) = some (-1000001) ∧ ∀ x, x < P → X4_richest vB vT vH bH vR vO (nI (rkN a x P 0)) = some (nI x) := by
  refine ⟨?_, ?_, fun x hx => ?_⟩
  · rw [X4_richest, if_pos (Int32.not_lt.mp (nI_pos (by omega)))]
    exact (c_rich_l h vT vH bH vR vO h8 hP P (by omega) P FU 0 (by show _ < 2000; omega) (by omega) (fun y hy => by omega)).1 (fun y hy e => by have := (rkN_lt (a := a) (x := y) P 0).2 (Nat.zero_le _) (by omega); omega)
  · rw [X4_richest, if_neg (by decide)]
  · have := (rkN_lt (a := a) (x := x) P 0).1
    rw [X4_richest, if_pos (Int32.not_lt.mp (nI_pos (by omega)))]
    exact (c_rich_l h vT vH bH vR vO h8 hP (rkN a x P 0) (by omega) P FU 0 (by show _ < 2000; omega) (by omega) (fun y hy => by omega)).2 x hx rfl
/- those without a guarantor, as a set -/
def aloN (pu : Nat → Nat → Int32) : Nat → Nat → Int32 → Int32
  | 0, _, acc => acc
  | n + 1, x, acc => aloN pu n (x + 1) (if pu 5 x = 0 then acc ||| ((1 : Int32) <<< ((nI x) &&& 31)) else acc)
theorem c_alone_l {vB : St} {a : AS} (h : RC vB a) (ho : OK a) {P : Nat} (h8 : P ≤ 8) (hP : a.2.1 1 = nI P) : ∀ (n fu x : Nat) (x1 : Int32), n < fu → x + n = P →
    X0_setWithoutGuarantor_l4 vB fu x1 (nI x) = some (aloN a.2.2 n x x1) := by
  intro n
  induction n with
  | zero =>
    intro fu x x1 hf hx
    obtain ⟨fu, rfl⟩ : ∃ f, fu = f + 1 := ⟨fu - 1, by omega⟩
    rw [X0_setWithoutGuarantor_l4, q_num1, Option.bind_some, h.2.1 1 (by decide) (by decide), hP, if_pos (nI_le (by omega) (by omega))]; rfl
  | succ n ih =>
    intro fu x x1 hf hx
    obtain ⟨fu, rfl⟩ : ∃ f, fu = f + 1 := ⟨fu - 1, by omega⟩
    have hx8 : x < 8 := by omega
    obtain ⟨P', _, _, _, hg, _⟩ := ho.2
    obtain ⟨gg, eg, g1, g2⟩ := hg x hx8
    rw [X0_setWithoutGuarantor_l4, q_num1, Option.bind_some, h.2.1 1 (by decide) (by decide), hP, if_neg (nI_ge (by omega) (by omega)), q_guar h hx8, Option.bind_some, q_1, aloN, eg]
    by_cases z : gg = 0
    · subst z
      rw [if_neg (by decide), if_pos (show nI 0 = (0 : Int32) from rfl)]
      exact ih fu (x + 1) _ (by omega) (by omega)
    · obtain ⟨m, rfl⟩ : ∃ m, gg = m + 1 := ⟨gg - 1, by omega⟩
      rw [nI_pred, if_pos (show (0 : Int32) ≤ nI m from Int32.not_lt.mp (nI_pos (by omega))), if_neg (nI_ne0 (by omega) (by omega))]
      exact ih fu (x + 1) _ (by omega) (by omega)
theorem cc_0 {vB : St} {a : AS} (h : RC vB a) (ho : OK a) (vT vH : St) (bH : Nat → St) (vR vO : St) : X4_count vB vT vH bH vR vO (0 : Int32) = some (a.2.1 0) := by
  rw [X4_count, if_neg (by decide), if_pos (by decide), X4_count_b16, if_pos (by decide), if_neg (by decide), if_neg (by decide), if_neg (by decide), if_neg (by decide), show (0 : Int32) = nI 0 from rfl, q_num vB (k := 0) (by decide), Option.bind_some, h.2.1 0 (by decide) (by decide)]
theorem cc_1 {vB : St} {a : AS} (h : RC vB a) (ho : OK a) (vT vH : St) (bH : Nat → St) (vR vO : St) : X4_count vB vT vH bH vR vO (1 : Int32) = some (a.2.1 1) := by
  rw [X4_count, if_neg (by decide), if_pos (by decide), X4_count_b16, if_pos (by decide), if_neg (by decide), if_neg (by decide), if_neg (by decide), if_neg (by decide), show (1 : Int32) = nI 1 from rfl, q_num vB (k := 1) (by decide), Option.bind_some, h.2.1 1 (by decide) (by decide)]
theorem cc_2 {vB : St} {a : AS} (h : RC vB a) (ho : OK a) (vT vH : St) (bH : Nat → St) (vR vO : St) : X4_count vB vT vH bH vR vO (2 : Int32) = some (nI a.1.length) := by
  rw [X4_count, if_neg (by decide), if_pos (by decide), X4_count_b16, if_pos (by decide), if_neg (by decide), if_neg (by decide), if_neg (by decide), if_neg (by decide), q_num2, Option.bind_some, h.1.1]
theorem cc_3 {vB : St} {a : AS} (h : RC vB a) (ho : OK a) (vT vH : St) (bH : Nat → St) (vR vO : St) : X4_count vB vT vH bH vR vO (3 : Int32) = some (sumS (mt (-1) (-1) (-1)) 0 a.1) := by
  rw [X4_count, if_neg (by decide), if_pos (by decide), X4_count_b16, if_pos (by decide), if_pos (by decide), q_sumOwed h.1, Option.bind_some]
theorem cc_4 {vB : St} {a : AS} (h : RC vB a) (ho : OK a) (vT vH : St) (bH : Nat → St) (vR vO : St) : X4_count vB vT vH bH vR vO (4 : Int32) = some (a.2.1 4) := by
  rw [X4_count, if_neg (by decide), if_pos (by decide), X4_count_b16, if_pos (by decide), if_neg (by decide), if_neg (by decide), if_neg (by decide), if_neg (by decide), show (4 : Int32) = nI 4 from rfl, q_num vB (k := 4) (by decide), Option.bind_some, h.2.1 4 (by decide) (by decide)]
theorem cc_5 {vB : St} {a : AS} (h : RC vB a) (ho : OK a) (vT vH : St) (bH : Nat → St) (vR vO : St) : X4_count vB vT vH bH vR vO (5 : Int32) = some (a.2.1 5) := by
  rw [X4_count, if_neg (by decide), if_pos (by decide), X4_count_b16, if_pos (by decide), if_neg (by decide), if_neg (by decide), if_neg (by decide), if_neg (by decide), show (5 : Int32) = nI 5 from rfl, q_num vB (k := 5) (by decide), Option.bind_some, h.2.1 5 (by decide) (by decide)]
theorem cc_6 {vB : St} {a : AS} (h : RC vB a) (ho : OK a) (vT vH : St) (bH : Nat → St) (vR vO : St) : X4_count vB vT vH bH vR vO (6 : Int32) = some (a.2.1 6) := by
  rw [X4_count, if_neg (by decide), if_pos (by decide), X4_count_b16, if_pos (by decide), if_neg (by decide), if_neg (by decide), if_neg (by decide), if_neg (by decide), show (6 : Int32) = nI 6 from rfl, q_num vB (k := 6) (by decide), Option.bind_some, h.2.1 6 (by decide) (by decide)]
theorem cc_7 {vB : St} {a : AS} (h : RC vB a) (ho : OK a) (vT vH : St) (bH : Nat → St) (vR vO : St) : X4_count vB vT vH bH vR vO (7 : Int32) = some (a.2.1 7) := by
  rw [X4_count, if_neg (by decide), if_pos (by decide), X4_count_b16, if_pos (by decide), if_neg (by decide), if_neg (by decide), if_neg (by decide), if_neg (by decide), show (7 : Int32) = nI 7 from rfl, q_num vB (k := 7) (by decide), Option.bind_some, h.2.1 7 (by decide) (by decide)]
theorem cc_8 {vB : St} {a : AS} (h : RC vB a) (ho : OK a) (vT vH : St) (bH : Nat → St) (vR vO : St) : X4_count vB vT vH bH vR vO (8 : Int32) = some (a.2.1 8) := by
  rw [X4_count, if_neg (by decide), if_pos (by decide), X4_count_b16, if_pos (by decide), if_neg (by decide), if_neg (by decide), if_neg (by decide), if_neg (by decide), show (8 : Int32) = nI 8 from rfl, q_num vB (k := 8) (by decide), Option.bind_some, h.2.1 8 (by decide) (by decide)]
theorem cc_9 {vB : St} {a : AS} (h : RC vB a) (ho : OK a) (vT vH : St) (bH : Nat → St) (vR vO : St) : X4_count vB vT vH bH vR vO (9 : Int32) = some (a.2.1 9) := by
  rw [X4_count, if_neg (by decide), if_pos (by decide), X4_count_b16, if_pos (by decide), if_neg (by decide), if_neg (by decide), if_neg (by decide), if_neg (by decide), show (9 : Int32) = nI 9 from rfl, q_num vB (k := 9) (by decide), Option.bind_some, h.2.1 9 (by decide) (by decide)]
theorem cc_10 {vB : St} {a : AS} (h : RC vB a) (ho : OK a) (vT vH : St) (bH : Nat → St) (vR vO : St) : X4_count vB vT vH bH vR vO (10 : Int32) = some (a.2.1 10) := by
  rw [X4_count, if_neg (by decide), if_pos (by decide), X4_count_b16, if_pos (by decide), if_neg (by decide), if_neg (by decide), if_neg (by decide), if_neg (by decide), show (10 : Int32) = nI 10 from rfl, q_num vB (k := 10) (by decide), Option.bind_some, h.2.1 10 (by decide) (by decide)]
theorem cc_11 {vB : St} {a : AS} (h : RC vB a) (ho : OK a) {P : Nat} (h8 : P ≤ 8) (hP : a.2.1 1 = nI P) (vT vH : St) (bH : Nat → St) (vR vO : St) : X4_count vB vT vH bH vR vO (11 : Int32) = some (aloN a.2.2 P 0 0) := by
  have e : X0_setWithoutGuarantor_l4 vB FU (0 : Int32) (0 : Int32) = _ := c_alone_l h ho h8 hP P FU 0 0 (by show _ < 2000; omega) (by omega)
  rw [X4_count, if_neg (by decide), if_pos (by decide), X4_count_b16, if_pos (by decide), if_neg (by decide), if_pos (by decide), X0_setWithoutGuarantor, e, Option.bind_some]
theorem cc_20 {vB : St} {a : AS} (h : RC vB a) (ho : OK a) (vT vH : St) (bH : Nat → St) (vR vO : St) : X4_count vB vT vH bH vR vO (20 : Int32) = some (a.2.1 20) := by
  rw [X4_count, if_neg (by decide), if_neg (by decide), if_neg (by decide), X4_count_b16, if_pos (by decide), if_neg (by decide), if_neg (by decide), if_neg (by decide), if_neg (by decide), show (20 : Int32) = nI 20 from rfl, q_num vB (k := 20) (by decide), Option.bind_some, h.2.1 20 (by decide) (by decide)]
theorem cc_21 {vB : St} {a : AS} (h : RC vB a) (ho : OK a) (vT vH : St) (bH : Nat → St) (vR vO : St) : X4_count vB vT vH bH vR vO (21 : Int32) = some (a.2.1 21) := by
  rw [X4_count, if_neg (by decide), if_neg (by decide), if_neg (by decide), X4_count_b16, if_pos (by decide), if_neg (by decide), if_neg (by decide), if_neg (by decide), if_neg (by decide), show (21 : Int32) = nI 21 from rfl, q_num vB (k := 21) (by decide), Option.bind_some, h.2.1 21 (by decide) (by decide)]
theorem cc_22 {vB : St} {a : AS} (h : RC vB a) (ho : OK a) (vT vH : St) (bH : Nat → St) (vR vO : St) : X4_count vB vT vH bH vR vO (22 : Int32) = some (a.2.1 22) := by
  rw [X4_count, if_neg (by decide), if_neg (by decide), if_neg (by decide), X4_count_b16, if_pos (by decide), if_neg (by decide), if_neg (by decide), if_neg (by decide), if_neg (by decide), show (22 : Int32) = nI 22 from rfl, q_num vB (k := 22) (by decide), Option.bind_some, h.2.1 22 (by decide) (by decide)]
theorem cc_23 {vB : St} {a : AS} (h : RC vB a) (ho : OK a) (vT vH : St) (bH : Nat → St) (vR vO : St) : X4_count vB vT vH bH vR vO (23 : Int32) = some (a.2.1 23) := by
  rw [X4_count, if_neg (by decide), if_neg (by decide), if_neg (by decide), X4_count_b16, if_pos (by decide), if_neg (by decide), if_neg (by decide), if_neg (by decide), if_neg (by decide), show (23 : Int32) = nI 23 from rfl, q_num vB (k := 23) (by decide), Option.bind_some, h.2.1 23 (by decide) (by decide)]
theorem cc_24 {vB : St} {a : AS} (h : RC vB a) (ho : OK a) (vT vH : St) (bH : Nat → St) (vR vO : St) : X4_count vB vT vH bH vR vO (24 : Int32) = some (a.2.1 24) := by
  rw [X4_count, if_neg (by decide), if_neg (by decide), if_neg (by decide), X4_count_b16, if_pos (by decide), if_neg (by decide), if_neg (by decide), if_neg (by decide), if_neg (by decide), show (24 : Int32) = nI 24 from rfl, q_num vB (k := 24) (by decide), Option.bind_some, h.2.1 24 (by decide) (by decide)]
theorem cc_25 {vB : St} {a : AS} (h : RC vB a) (ho : OK a) (vT vH : St) (bH : Nat → St) (vR vO : St) : X4_count vB vT vH bH vR vO (25 : Int32) = some (a.2.1 25) := by
  rw [X4_count, if_neg (by decide), if_neg (by decide), if_neg (by decide), X4_count_b16, if_pos (by decide), if_neg (by decide), if_neg (by decide), if_neg (by decide), if_neg (by decide), show (25 : Int32) = nI 25 from rfl, q_num vB (k := 25) (by decide), Option.bind_some, h.2.1 25 (by decide) (by decide)]

/- some weeks, both sides -/
def weeksN : Nat → AS → AS
  | 0, a => a
  | n + 1, a => weeksN n (weekS a)
def weeksS (a : AS) (p1 : Int32) : Int32 × AS :=
  bif kIn p1 1 20 then (if a.2.1 0 + p1 ≤ 999 then ((weeksN (ix p1) a).2.1 6 - a.2.1 6, weeksN (ix p1) a) else (-1000003, a)) else (-1000001, a)
theorem weeksN_ok : ∀ (n : Nat) (a : AS) (w : Nat), OK a → a.2.1 0 = nI w → w + n ≤ 999 → OK (weeksN n a) := by
  intro n
  induction n with
  | zero => intro a w h _ _; exact h
  | succ n ih =>
    intro a w h hw hn
    obtain ⟨h1, h2⟩ := weekS_ok h hw (by omega)
    exact ih (weekS a) (w + 1) h1 h2 (by omega)
theorem c_weeks_l : ∀ (n fu : Nat) (v : St) (i : Nat) (a : AS) (w : Nat) (x2 : Int32), n < fu → i + n ≤ 20 → RC v a → OK a → a.2.1 0 = nI w → w + n ≤ 999 →
    ∃ v', X0_endWeeks_l39 (nI (i + n)) fu v x2 (nI i) = some ((weeksN n a).2.1 6 - x2, v') ∧ RC v' (weeksN n a) := by
  intro n
  induction n with
  | zero =>
    intro fu v i a w x2 hf hi h ho hw hn
    obtain ⟨fu, rfl⟩ : ∃ f, fu = f + 1 := ⟨fu - 1, by omega⟩
    have hcmp : nI (i + 0) ≤ nI i := by rw [q_le (by omega) (by omega)]; omega
    refine ⟨v, ?_, h⟩
    rw [X0_endWeeks_l39, if_pos hcmp, X0_endWeeks_b54, q_num6, Option.bind_some, h.2.1 6 (by decide) (by decide)]
    rfl
  | succ n ih =>
    intro fu v i a w x2 hf hi h ho hw hn
    obtain ⟨fu, rfl⟩ : ∃ f, fu = f + 1 := ⟨fu - 1, by omega⟩
    have hcmp : ¬ nI (i + (n + 1)) ≤ nI i := by rw [q_le (by omega) (by omega)]; omega
    obtain ⟨v1, e1, r1⟩ := c_weekS h ho
    obtain ⟨h1, h2⟩ := weekS_ok ho hw (by omega)
    obtain ⟨v2, e2, r2⟩ := ih fu v1 (i + 1) (weekS a) (w + 1) x2 (by omega) (by omega) r1 h1 h2 (by omega)
    refine ⟨v2, ?_, r2⟩
    rw [Nat.add_assoc, Nat.add_comm 1 n, ← q_1 i] at e2
    rw [X0_endWeeks_l39, if_neg hcmp, e1, Option.bind_some, e2]
    rfl
theorem m_weeks_l : ∀ (n fu : Nat) (v : St) (i : Nat) (a : AS) (w : Nat) (x2 : Int32), n < fu → i + n ≤ 20 → RM (v 1) a → OK a → a.2.1 0 = nI w → w + n ≤ 999 →
    ∃ v' s, s ≤ 360 * n ∧ X5_weeks_l40 (nI (i + n)) fu v x2 (nI i) = some (x2 + nI s, v') ∧ RM (v' 1) (weeksN n a) ∧ (∀ r, r ≠ 1 → v' r = v r) ∧ (weeksN n a).2.1 6 = a.2.1 6 + nI s := by
  intro n
  induction n with
  | zero =>
    intro fu v i a w x2 hf hi h ho hw hn
    obtain ⟨fu, rfl⟩ : ∃ f, fu = f + 1 := ⟨fu - 1, by omega⟩
    have hcmp : nI (i + 0) ≤ nI i := by rw [q_le (by omega) (by omega)]; omega
    refine ⟨v, 0, by omega, ?_, h, fun _ _ => rfl, (nadd0 _).symm⟩
    rw [X5_weeks_l40, if_pos hcmp, nadd0]
  | succ n ih =>
    intro fu v i a w x2 hf hi h ho hw hn
    obtain ⟨fu, rfl⟩ : ∃ f, fu = f + 1 := ⟨fu - 1, by omega⟩
    have hcmp : ¬ nI (i + (n + 1)) ≤ nI i := by rw [q_le (by omega) (by omega)]; omega
    obtain ⟨v1, s1, b1, e1, r1, f1, g1⟩ := m_weekS h ho
    obtain ⟨h1, h2⟩ := weekS_ok ho hw (by omega)
    obtain ⟨v2, s2, b2, e2, r2, f2, g2⟩ := ih fu v1 (i + 1) (weekS a) (w + 1) (x2 + nI s1) (by omega) (by omega) r1 h1 h2 (by omega)
    refine ⟨v2, s1 + s2, by omega, ?_, r2, fun r hr => (f2 r hr).trans (f1 r hr), ?_⟩
    · rw [Nat.add_assoc, Nat.add_comm 1 n, ← q_1 i, Int32.add_assoc, nI_add] at e2
      rw [X5_weeks_l40, if_neg hcmp, e1, Option.bind_some]
      exact e2
    · show (weeksN n (weekS a)).2.1 6 = _
      rw [g2, g1, Int32.add_assoc, nI_add]
theorem kIn_pos {p1 : Int32} (h : ¬ p1 < 1) (h2 : p1 ≤ 20) : kIn p1 1 20 = true := by
  have t20 : (20 : Int32).toInt = 20 := by decide
  rw [kIn_iff]
  rw [lt_i, t1] at h
  rw [le_i, t20] at h2
  omega
theorem kIn_neg1 {p1 : Int32} (h : p1 < 1) : kIn p1 1 20 = false := by
  cases e : kIn p1 1 20 with
  | false => rfl
  | true => rw [kIn_iff] at e; rw [lt_i, t1] at h; omega
theorem kIn_neg2 {p1 : Int32} (h : ¬ p1 ≤ 20) : kIn p1 1 20 = false := by
  have t20 : (20 : Int32).toInt = 20 := by decide
  cases e : kIn p1 1 20 with
  | false => rfl
  | true => rw [kIn_iff] at e; rw [le_i, t20] at h; omega
theorem weeks_le {w n : Nat} (hw : w ≤ 999) (hn : n ≤ 20) : (nI w + nI n ≤ (999 : Int32)) = (w + n ≤ 999) := by
  rw [nI_add]; exact q_le (b := 999) (by omega) (by decide)
theorem c_weeksS {v : St} {a : AS} (h : RC v a) (ho : OK a) (p1 : Int32) : ∃ v', X0_endWeeks v p1 = some ((weeksS a p1).1, v') ∧ RC v' (weeksS a p1).2 := by
  unfold weeksS
  rw [X0_endWeeks]
  by_cases c1 : p1 < 1
  · rw [if_pos c1, kIn_neg1 c1]; exact ⟨v, rfl, h⟩
  rw [if_neg c1]
  by_cases c2 : p1 ≤ 20
  · rw [if_pos c2, kIn_pos c1 c2]
    obtain ⟨n, rfl, n1, n2⟩ := kIn_nat (kIn_pos c1 c2) (by decide)
    obtain ⟨_, _, _, _, _, _, _, _, _, _, w, hw, hw9⟩ := id ho
    have e0 : v 1 0 = nI w := (h.2.1 0 (by decide) (by decide)).trans hw
    rw [q_num0, Option.bind_some, e0, hw, ix_nI (by omega), cond_true]
    by_cases c3 : nI w + nI n ≤ (999 : Int32)
    · rw [if_pos c3, if_pos c3, q_num6, Option.bind_some, h.2.1 6 (by decide) (by decide)]
      rw [weeks_le hw9 (by omega)] at c3
      obtain ⟨v', e, r⟩ := c_weeks_l n FU v 0 a w (a.2.1 6) (by show _ < 2000; omega) (by omega) h ho hw c3
      rw [Nat.zero_add] at e
      exact ⟨v', e, r⟩
    · rw [if_neg c3, if_neg c3]; exact ⟨v, rfl, h⟩
  · rw [if_neg c2, kIn_neg2 c2]; exact ⟨v, rfl, h⟩
theorem m_weeksS {v : St} {a : AS} {hist : List AS} (h : RM (v 1) a) (ho : OK a) (hh : v 99 5 = 0 → HM v hist) (p1 : Int32) : MOp v a hist (X5_weeks v p1) (weeksS a p1) := by
  unfold weeksS
  have t20 : (20 : Int32).toInt = 20 := by decide
  rw [X5_weeks, q_inM, Option.bind_some, t1, t20, ifb]
  cases hk : kIn p1 1 20 with
  | false => exact MOp.err h (by decide)
  | true =>
  obtain ⟨n, rfl, n1, n2⟩ := kIn_nat hk (by decide)
  obtain ⟨_, _, _, _, _, _, _, _, _, _, w, hw, hw9⟩ := id ho
  have e0 : v 1 288 = nI w := (h.2.1 0 (Or.inl (by decide))).trans hw
  rw [m288, cond_true, cond_true, Option.bind_some, e0, hw, ix_nI (by omega)]
  by_cases c3 : nI w + nI n ≤ (999 : Int32)
  · rw [if_pos c3, if_pos c3]
    rw [weeks_le hw9 (by omega)] at c3
    obtain ⟨u, eu, u1, cg⟩ := q_chg h hh
    rw [← u1] at h
    obtain ⟨v', s, b, e, r, f, g⟩ := m_weeks_l n FU u 0 a w 0 (by show _ < 2000; omega) (by omega) h ho hw c3
    rw [Nat.zero_add] at e
    have es : (weeksN n a).2.1 6 - a.2.1 6 = nI s := by rw [g, addsub]
    rw [es]
    refine ⟨v', ?_, r, fun z => absurd z (nI_pos (by omega)), fun _ => cg.after (SameM.of1 f)⟩
    rw [eu, Option.bind_some]
    have e : X5_weeks_l40 (nI n) FU u 0 0 = some (0 + nI s, v') := e
    rw [e, Int32.zero_add]
  · rw [if_neg c3, if_neg c3]; exact MOp.err h (by decide)
theorem weeksS_ok {a : AS} (ho : OK a) (p1 : Int32) : OK (weeksS a p1).2 := by
  unfold weeksS
  cases hk : kIn p1 1 20 with
  | false => exact ho
  | true =>
    obtain ⟨n, rfl, n1, n2⟩ := kIn_nat hk (by decide)
    obtain ⟨_, _, _, _, _, _, _, _, _, _, w, hw, hw9⟩ := id ho
    rw [cond_true, hw, ix_nI (by omega)]
    by_cases c3 : nI w + nI n ≤ (999 : Int32)
    · rw [if_pos c3]
      rw [weeks_le hw9 (by omega)] at c3
      exact weeksN_ok n a w ho hw c3
    · rw [if_neg c3]; exact ho

/- ring, amount, ifCleared, chain: both sides -/
def SameR (v v' : St) : Prop := ∀ r, r ≠ 1 → r ≠ 4 → r ≠ 9 → r ≠ 10 → r ≠ 11 → v' r = v r
/- how a read of the reference answers -/
def MRd (v : St) (a : AS) (r : Option (Int32 × St)) (ans : Int32) : Prop := ∃ v', r = some (ans, v') ∧ RM (v' 1) a ∧ SameR v v'
theorem MRd.no {v : St} {a : AS} (h : RM (v 1) a) (c : Int32) : MRd v a (some (c, v)) c := ⟨v, rfl, h, fun _ _ _ _ _ _ => rfl⟩
noncomputable def ringS (a : AS) (p1 p2 : Int32) : Int32 := bif kIn p1 0 3 then (if 0 ≤ p2 then (if nI (rgL (WN p1 a.1)) ≤ p2 then -1000004 else nI (rgP (WN p1 a.1) (ix p2))) else -1000001) else -1000001
theorem pos_nat {x : Int32} (h : 0 ≤ x) : ∃ k : Nat, x = nI k ∧ k < 2 ^ 31 := by
  rw [le_i, Int32.toInt_zero] at h
  refine ⟨x.toInt.toNat, q_nat h, ?_⟩
  have := Int32.toInt_lt x
  omega
theorem c_ringS {vB : St} {a : AS} (h : RC vB a) (ho : OK a) (vT vH : St) (bH : Nat → St) (vR vO : St) (p1 p2 : Int32) : ∃ vR', X4_ring vB vT vH bH vR vO p1 p2 = some (ringS a p1 p2, vR') := by
  rw [X4_ring, q_isKind, Option.bind_some, ifb]
  unfold ringS
  cases h1 : kIn p1 0 3 with
  | false => exact ⟨vR, rfl⟩
  | true =>
    simp only [cond_true]
    by_cases c0 : (0 : Int32) ≤ p2
    · obtain ⟨k, rfl, hk⟩ := pos_nat c0
      obtain ⟨w, g1, g2, g3, g4, g5, g6⟩ := c_next' h ho vR (kd_ne h1)
      rw [if_pos c0, if_pos c0, g1, Option.bind_some]
      have hc : (nI (rgL (WN p1 a.1)) ≤ nI k) = (rgL (WN p1 a.1) ≤ k) := q_le (by omega) (by omega)
      have hd : (nI k < nI (rgL (WN p1 a.1))) = (k < rgL (WN p1 a.1)) := q_lt (by omega) (by omega)
      by_cases z : rgL (WN p1 a.1) = 0
      · rw [if_pos z, if_pos (show ((0 : Int32), w).1 = 0 from rfl), if_pos (hc.mpr (by omega))]
        exact ⟨w, rfl⟩
      · rw [if_neg z, if_neg (show ¬ ((1 : Int32), w).1 = 0 from (by decide : ¬ (1 : Int32) = 0)), X3_nextLength, Option.bind_some, show ((1 : Int32), w).2 99 4 = nI (rgL (WN p1 a.1)) from g4]
        dsimp only
        by_cases c : k < rgL (WN p1 a.1)
        · rw [if_pos (hd.mpr c), if_neg (fun e => by have := hc.mp e; omega), c_nextP g5 g3 c, ix_nI hk]
          exact ⟨w, rfl⟩
        · rw [if_neg (fun e => c (hd.mp e)), if_pos (hc.mpr (by omega))]
          exact ⟨w, rfl⟩
    · rw [if_neg c0, if_neg c0]; exact ⟨vR, rfl⟩
theorem m_ringS {v : St} {a : AS} (h : RM (v 1) a) (ho : OK a) (p1 p2 : Int32) : MRd v a (X5_ring v p1 p2) (ringS a p1 p2) := by
  rw [X5_ring, q_isKindM, Option.bind_some, ifb]
  unfold ringS
  cases h1 : kIn p1 0 3 with
  | false => exact MRd.no h _
  | true =>
    simp only [cond_true]
    by_cases c0 : (0 : Int32) ≤ p2
    · obtain ⟨k, rfl, hk⟩ := pos_nat c0
      obtain ⟨w, g1, g2, g3, g4, g5⟩ := m_rings' h ho p1
      rw [if_pos c0, if_pos c0, g1, Option.bind_some]
      have hc : (nI (rgL (WN p1 a.1)) ≤ nI k) = (rgL (WN p1 a.1) ≤ k) := q_le (by omega) (by omega)
      have s : SameR v w := fun r a1 _ a2 a3 a4 => g5 r a2 a3 a4
      have hr : RM (w 1) a := by rw [g5 1 (by decide) (by decide) (by decide)]; exact h
      by_cases c : rgL (WN p1 a.1) ≤ k
      · rw [if_pos (hc.mpr c), if_pos (hc.mpr c)]; exact ⟨w, rfl, hr, s⟩
      · rw [if_neg (fun e => c (hc.mp e)), if_neg (fun e => c (hc.mp e)), q_ld (by omega) (by decide), Option.bind_some]
        dsimp only
        rw [(g4 k (by omega)).2, ix_nI hk]
        exact ⟨w, rfl, hr, s⟩
    · rw [if_neg c0, if_neg c0]; exact MRd.no h _
noncomputable def amountS (a : AS) (p1 : Int32) : Int32 := bif kIn p1 0 3 then (if nI (rgL (WN p1 a.1)) ≤ 0 then -1000004 else nI (rgA (WN p1 a.1))) else -1000001
theorem c_amountS {vB : St} {a : AS} (h : RC vB a) (ho : OK a) (vT vH : St) (bH : Nat → St) (vR vO : St) (p1 : Int32) : ∃ vR', X4_amount vB vT vH bH vR vO p1 = some (amountS a p1, vR') := by
  rw [X4_amount, q_isKind, Option.bind_some, ifb]
  unfold amountS
  cases h1 : kIn p1 0 3 with
  | false => exact ⟨vR, rfl⟩
  | true =>
    simp only [cond_true]
    obtain ⟨w, g1, g2, g3, g4, g5, g6⟩ := c_next' h ho vR (kd_ne h1)
    rw [g1, Option.bind_some]
    have hc : (nI (rgL (WN p1 a.1)) ≤ (0 : Int32)) = (rgL (WN p1 a.1) ≤ 0) := q_le (b := 0) (by omega) (by omega)
    by_cases z : rgL (WN p1 a.1) = 0
    · rw [if_pos z, if_pos (show ((0 : Int32), w).1 = 0 from rfl), if_pos (hc.mpr (by omega))]
      exact ⟨w, rfl⟩
    · rw [if_neg z, if_neg (show ¬ ((1 : Int32), w).1 = 0 from (by decide : ¬ (1 : Int32) = 0)), c_amt (WN_le ho p1) g6 g4 g5 g3 (by omega), Option.bind_some, if_neg (fun e => by have := hc.mp e; omega)]
      exact ⟨w, rfl⟩
theorem m_amountS {v : St} {a : AS} (h : RM (v 1) a) (ho : OK a) (p1 : Int32) : MRd v a (X5_amount v p1) (amountS a p1) := by
  rw [X5_amount, q_isKindM, Option.bind_some, ifb]
  unfold amountS
  cases h1 : kIn p1 0 3 with
  | false => exact MRd.no h _
  | true =>
    simp only [cond_true]
    obtain ⟨w, g1, g2, g3, g4, g5⟩ := m_rings' h ho p1
    rw [g1, Option.bind_some]
    have s : SameR v w := fun r a1 _ a2 a3 a4 => g5 r a2 a3 a4
    have hr : RM (w 1) a := by rw [g5 1 (by decide) (by decide) (by decide)]; exact h
    by_cases c : nI (rgL (WN p1 a.1)) ≤ (0 : Int32)
    · rw [if_pos c, if_pos c]; exact ⟨w, rfl, hr, s⟩
    · rw [if_neg c, if_neg c, m_amt hr.1 ho.okN (WN_le ho p1) g4 g3, Option.bind_some]; exact ⟨w, rfl, hr, s⟩
noncomputable def ifS (a : AS) (p1 p2 : Int32) : Int32 := bif kIn p1 0 3 then (bif kIn p2 0 2 then (if p2 = 0 then nI (clrN p1 360 a 0).1 else if p2 = 1 then (clrN p1 360 a 0).2.2.1 9 - a.2.1 9 else nI (clrN p1 360 a 0).2.1.length) else -1000001) else -1000001
theorem t2 : (2 : Int32).toInt = 2 := by decide
theorem c_ifS {vB : St} {a : AS} (h : RC vB a) (ho : OK a) (vT vH : St) (bH : Nat → St) (vR vO : St) (p1 p2 : Int32) : ∃ vT' vR', X4_ifCleared vB vT vH bH vR vO p1 p2 = some (ifS a p1 p2, vT', vR') := by
  rw [X4_ifCleared, q_isKind, Option.bind_some, ifb]
  unfold ifS
  cases h1 : kIn p1 0 3 with
  | false => exact ⟨vT, vR, rfl⟩
  | true =>
    simp only [cond_true]
    by_cases c0 : p2 < 0
    · rw [if_pos c0]
      have : kIn p2 0 2 = false := by
        cases e : kIn p2 0 2 with
        | false => rfl
        | true => have := kIn_iff.mp e; rw [lt_i, Int32.toInt_zero] at c0; omega
      rw [this]; exact ⟨vT, vR, rfl⟩
    · rw [if_neg c0]
      by_cases c2 : p2 ≤ 2
      · have : kIn p2 0 2 = true := by
          rw [kIn_iff]; rw [lt_i, Int32.toInt_zero] at c0; rw [le_i, t2] at c2; omega
        rw [if_pos c2, this, cond_true]
        obtain ⟨u, e, hu⟩ := q_fresh vT vH bH vR vO h
        obtain ⟨vR', v', k1, k2, k3⟩ := c_clearS hu ho vR p1
        rw [e, Option.bind_some, k1, Option.bind_some]
        unfold clearS at k2 ⊢
        rw [h1, cond_true] at k2 ⊢
        dsimp only
        by_cases d0 : p2 = 0
        · rw [if_pos d0, if_pos d0]; exact ⟨v', vR', rfl⟩
        · rw [if_neg d0, if_neg d0]
          by_cases d1 : p2 = 1
          · rw [if_pos d1, if_pos d1, q_num9, Option.bind_some, q_num9, Option.bind_some, k2.2.1 9 (by decide) (by decide), h.2.1 9 (by decide) (by decide)]
            exact ⟨v', vR', rfl⟩
          · rw [if_neg d1, if_neg d1, q_num2, Option.bind_some, k2.1.1]; exact ⟨v', vR', rfl⟩
      · have : kIn p2 0 2 = false := by
          cases e : kIn p2 0 2 with
          | false => rfl
          | true => have := kIn_iff.mp e; rw [le_i, t2] at c2; omega
        rw [if_neg c2, this]; exact ⟨vT, vR, rfl⟩
theorem m_ifS {v : St} {a : AS} (h : RM (v 1) a) (ho : OK a) (p1 p2 : Int32) : MRd v a (X5_ifCleared v p1 p2) (ifS a p1 p2) := by
  rw [X5_ifCleared, q_isKindM, Option.bind_some, q_inM, Option.bind_some, ifb, ifb]
  unfold ifS
  cases h1 : kIn p1 0 3 with
  | false => exact MRd.no h _
  | true =>
    simp only [cond_true]
    rw [show kIn p2 (0 : Int32).toInt (2 : Int32).toInt = kIn p2 0 2 from rfl]
    cases h2 : kIn p2 0 2 with
    | false => exact MRd.no h _
    | true =>
      simp only [cond_true]
      obtain ⟨g, e, hg⟩ := q_copies (v 1) (v 4)
      obtain ⟨w, b1, b2, b3, b4, b5⟩ := m_clears (v := setA v 4 g) (by rw [q_sN v _ (by decide)]; exact h) ho p1
      obtain ⟨g', e', hg'⟩ := q_copies (w 4) (w 1)
      have w4 : w 4 = g := by rw [b5 4 (by decide) (by decide) (by decide) (by decide), q_sA]
      have hr : RM ((setA w 1 g') 1) a := by
        rw [q_sA]
        exact h.cong (fun j hj => by rw [hg' j hj, w4, hg j hj])
      have s : SameR v (setA w 1 g') := fun r c1 c4 c9 c10 c11 => by rw [q_sN w _ c1, b5 r c1 c9 c10 c11, q_sN v _ c4]
      have b77 : ∀ t0, X5_ifCleared_b77 p1 p2 w t0 = some (t0, setA w 1 g') := fun t0 => by rw [X5_ifCleared_b77, e', Option.bind_some]
      rw [e, Option.bind_some, b1, Option.bind_some]
      dsimp only
      by_cases d0 : p2 = 0
      · rw [if_pos d0, if_pos d0, b77]; exact ⟨_, rfl, hr, s⟩
      · rw [if_neg d0, if_neg d0]
        by_cases d1 : p2 = 1
        · have n9 : w 1 296 = (clrN p1 360 a 0).2.2.1 9 := b2.2.1 9 (by unfold mset; omega)
          have o9 : w 4 296 = a.2.1 9 := by rw [w4, hg 296 (by decide)]; exact h.2.1 9 (by unfold mset; omega)
          rw [if_pos d1, if_pos d1, m296, Option.bind_some, m296, Option.bind_some, b77, n9, o9]; exact ⟨_, rfl, hr, s⟩
        · rw [if_neg d1, if_neg d1, m290, Option.bind_some, b77, b2.1.1]; exact ⟨_, rfl, hr, s⟩

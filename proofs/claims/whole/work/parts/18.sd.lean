/- all rings of a kind cleared: both sides -/
noncomputable def turnS (kd : Int32) (a : AS) : AS :=
  ((trn kd (rgL (WN kd a.1)) (rgP (WN kd a.1)) (rgA (WN kd a.1)) (rgL (WN kd a.1)) 0 (a.1, a.2.2)).1,
    upd (upd a.2.1 7 (a.2.1 7 + nI (rgA (WN kd a.1) * rgL (WN kd a.1)))) 9 (a.2.1 9 + 1),
    (trn kd (rgL (WN kd a.1)) (rgP (WN kd a.1)) (rgA (WN kd a.1)) (rgL (WN kd a.1)) 0 (a.1, a.2.2)).2)
noncomputable def clrN (kd : Int32) : Nat → AS → Nat → Nat × AS
  | 0, a, s => (s, a)
  | n + 1, a, s => if rgL (WN kd a.1) = 0 then (s, a) else clrN kd n (turnS kd a) (s + rgA (WN kd a.1) * rgL (WN kd a.1))
theorem turn_ok {kd : Int32} {a : AS} (ho : OK a) (hR : Ring (WN kd a.1) (rgL (WN kd a.1)) (rgP (WN kd a.1))) (h0 : 0 < rgL (WN kd a.1)) :
    OK (turnS kd a) ∧ totN (turnS kd a).1 + rgA (WN kd a.1) * rgL (WN kd a.1) = totN a.1 ∧ 0 < rgA (WN kd a.1) * rgL (WN kd a.1) ∧ rgA (WN kd a.1) ≤ 1000 ∧ PI (rgL (WN kd a.1)) (rgP (WN kd a.1)) ∧ EN kd a.1 (rgL (WN kd a.1)) (rgP (WN kd a.1)) (rgA (WN kd a.1)) 0 := by
  obtain ⟨f1, f2, f3, f4, f5⟩ := hR.rf (WN_le ho kd) h0
  obtain ⟨a1, a2, a3⟩ := amN_le (W := WN kd a.1) (L := rgL (WN kd a.1)) (P := rgP (WN kd a.1)) (rgL (WN kd a.1)) 0 1000
  have hE : EN kd a.1 (rgL (WN kd a.1)) (rgP (WN kd a.1)) (rgA (WN kd a.1)) 0 := fun j _ hj => a2 j (by omega) (by omega)
  have hA : 0 < rgA (WN kd a.1) := a3 (by decide) (fun j _ hj => f5 j (by omega))
  have hA1 : rgA (WN kd a.1) ≤ 1000 := a1
  have hp : PI (rgL (WN kd a.1)) (rgP (WN kd a.1)) := ⟨f3, f4⟩
  obtain ⟨t1, t2, t3⟩ := trn_ok hp (m := rgA (WN kd a.1)) (by omega) (rgL (WN kd a.1)) 0 (a.1, a.2.2) (by omega) ho.okN ho.1 hE
  refine ⟨ho.to t2 (fun N _ _ hl => trn_L (by omega) _ _ _ hl) t3 (fun i hi => ?_), t1, Nat.mul_pos hA h0, hA1, hp, hE⟩
  show upd (upd a.2.1 7 _) 9 _ i = a.2.1 i
  rw [q_un (by omega), q_un (by omega)]
theorem c_clr {kd : Int32} (hkd : kd ≠ -1) : ∀ (n fu x4 s : Nat) (vR vB : St) (a : AS), totN a.1 ≤ n → n < fu → x4 + n < 1000 → RC vB a → OK a →
    ∃ vR' vB', X3_clearKind_l15 kd fu vR vB (nI s) (nI x4) = some (nI (clrN kd n a s).1, vR', vB') ∧ RC vB' (clrN kd n a s).2 ∧ OK (clrN kd n a s).2 ∧ (clrN kd n a s).1 ≤ s + totN a.1 := by
  intro n
  induction n with
  | zero =>
    intro fu x4 s vR vB a ht hf hx h ho
    obtain ⟨fu, rfl⟩ : ∃ f, fu = f + 1 := ⟨fu - 1, by omega⟩
    obtain ⟨w, h1, h2, h3, h4, h5, h6⟩ := c_next' h ho vR hkd
    have h0 : rgL (WN kd a.1) = 0 := by
      rcases Nat.eq_zero_or_pos (rgL (WN kd a.1)) with z | z
      · exact z
      · obtain ⟨_, t1, t2, _⟩ := turn_ok ho h2 z; omega
    rw [if_pos h0] at h1
    refine ⟨w, vB, ?_, h, ho, by unfold clrN; omega⟩
    rw [X3_clearKind_l15, if_neg (by
      have : ¬ nI 1000 ≤ nI x4 := by rw [q_le (by decide) (by omega)]; omega
      exact this), h1, Option.bind_some, if_pos rfl]
    rfl
  | succ n ih =>
    intro fu x4 s vR vB a ht hf hx h ho
    obtain ⟨fu, rfl⟩ : ∃ f, fu = f + 1 := ⟨fu - 1, by omega⟩
    obtain ⟨w, h1, h2, h3, h4, h5, h6⟩ := c_next' h ho vR hkd
    have hlim : ¬ (1000 : Int32) ≤ nI x4 := by
      have : ¬ nI 1000 ≤ nI x4 := by rw [q_le (by decide) (by omega)]; omega
      exact this
    unfold clrN
    by_cases h0 : rgL (WN kd a.1) = 0
    · rw [if_pos h0] at h1
      rw [if_pos h0]
      refine ⟨w, vB, ?_, h, ho, by dsimp only; omega⟩
      rw [X3_clearKind_l15, if_neg hlim, h1, Option.bind_some, if_pos rfl]
    · rw [if_neg h0] at h1
      rw [if_neg h0]
      have hp : 0 < rgL (WN kd a.1) := by omega
      obtain ⟨t1, t2, t3, t4, t5, t6⟩ := turn_ok ho h2 hp
      have ea := c_amt (WN_le ho kd) h6 h4 h5 h3 hp
      obtain ⟨v', a1, a2⟩ := c_trn hkd t5 h3 (by omega) h4 h5 (X3_clearKind_l15 kd fu) (nI s) (nI x4) (rgL (WN kd a.1)) FU 0 vB a.1 a.2.1 a.2.2 (by show _ < 2000; omega) (by omega) h ho.okN t6
      have n9 : v' 1 9 = a.2.1 9 := by
        rw [a2.2.1 9 (by decide) (by decide)]
        show upd a.2.1 7 (a.2.1 7 + nI (rgA (WN kd a.1) * rgL (WN kd a.1))) 9 = a.2.1 9
        exact q_un (by decide)
      have r := a2.num (i := 9) (a.2.1 9 + 1) (by decide)
      obtain ⟨vR', vB', b1, b2, b3, b4⟩ := ih fu (x4 + 1) (s + rgA (WN kd a.1) * rgL (WN kd a.1)) w (setA v' 1 (upd (v' 1) 9 (a.2.1 9 + 1))) (turnS kd a) (by omega) (by omega) (by omega) r t1
      refine ⟨vR', vB', ?_, b2, b3, by omega⟩
      have e9 : X4_add (v' 1) 26 (9 : Int32) (1 : Int32) = some (upd (v' 1) 9 (v' 1 9 + 1)) := q_add (k := 9) (by decide) (by decide)
      have em : nI s + nI (rgA (WN kd a.1)) * nI (rgL (WN kd a.1)) = nI (s + rgA (WN kd a.1) * rgL (WN kd a.1)) := by rw [pk_mul, nI_add]
      rw [X3_clearKind_l15, if_neg hlim, h1, Option.bind_some, if_neg (show ¬ (1 : Int32) = 0 by decide), ea, Option.bind_some]
      refine a1.trans ?_
      rw [X3_clearKind_b87, X0_countRing, e9, Option.bind_some, Option.bind_some, h4, em, q_1, n9]
      exact b1
theorem m_clr {kd : Int32} : ∀ (n fu s : Nat) (v : St) (a : AS), totN a.1 ≤ n → n < fu → RM (v 1) a → OK a → Ring (WN kd a.1) (rgL (WN kd a.1)) (rgP (WN kd a.1)) → rgL (WN kd a.1) ≤ 8 → (∀ j, j < rgL (WN kd a.1) → rgP (WN kd a.1) j < 8 ∧ v 11 j = nI (rgP (WN kd a.1) j)) →
    ∃ v', X5_clears_l8 kd fu v (nI s) (nI (rgL (WN kd a.1))) = some (nI (clrN kd n a s).1, v') ∧ RM (v' 1) (clrN kd n a s).2 ∧ OK (clrN kd n a s).2 ∧ (clrN kd n a s).1 ≤ s + totN a.1 ∧ SameM v v' := by
  intro n
  induction n with
  | zero =>
    intro fu s v a ht hf h ho h2 h3 h5
    obtain ⟨fu, rfl⟩ : ∃ f, fu = f + 1 := ⟨fu - 1, by omega⟩
    have h0 : rgL (WN kd a.1) = 0 := by
      rcases Nat.eq_zero_or_pos (rgL (WN kd a.1)) with z | z
      · exact z
      · obtain ⟨_, t1, t2, _⟩ := turn_ok ho h2 z; omega
    refine ⟨v, ?_, h, ho, by unfold clrN; omega, fun _ _ _ _ _ => rfl⟩
    rw [h0, X5_clears_l8, if_pos (by decide)]
    rfl
  | succ n ih =>
    intro fu s v a ht hf h ho h2 h3 h5
    obtain ⟨fu, rfl⟩ : ∃ f, fu = f + 1 := ⟨fu - 1, by omega⟩
    unfold clrN
    by_cases h0 : rgL (WN kd a.1) = 0
    · rw [if_pos h0]
      refine ⟨v, ?_, h, ho, by dsimp only; omega, fun _ _ _ _ _ => rfl⟩
      rw [h0, X5_clears_l8, if_pos (by decide)]
    · rw [if_neg h0]
      have hp : 0 < rgL (WN kd a.1) := by omega
      obtain ⟨t1, t2, t3, t4, t5, t6⟩ := turn_ok ho h2 hp
      have ea := m_amt h.1 ho.okN (WN_le ho kd) h5 h3
      obtain ⟨v', a1, a2, a3⟩ := m_trn t5 h3 (by omega) (X5_clears_l8 kd fu) (nI s) (rgL (WN kd a.1)) FU 0 v a.1 a.2.1 a.2.2 (by show _ < 2000; omega) (by omega) h ho.okN t6 (fun j hj => (h5 j hj).2)
      have n7 : v' 1 294 = a.2.1 7 := a2.2.1 7 (by unfold mset; omega)
      have n9 : v' 1 296 = a.2.1 9 := a2.2.1 9 (by unfold mset; omega)
      have em : nI (rgL (WN kd a.1)) * nI (rgA (WN kd a.1)) = nI (rgA (WN kd a.1) * rgL (WN kd a.1)) := by rw [pk_mul, Nat.mul_comm]
      have r1 := a2.num (i := 7) (a.2.1 7 + nI (rgA (WN kd a.1) * rgL (WN kd a.1))) (by unfold mset; omega)
      have r2 := r1.num (i := 9) (a.2.1 9 + 1) (by unfold mset; omega)
      have r3 : RM (upd (upd (v' 1) 294 (a.2.1 7 + nI (rgA (WN kd a.1) * rgL (WN kd a.1)))) 296 (a.2.1 9 + 1)) (turnS kd a) := r2
      have r4 : RM ((setA v' 1 (upd (upd (v' 1) 294 (a.2.1 7 + nI (rgA (WN kd a.1) * rgL (WN kd a.1)))) 296 (a.2.1 9 + 1))) 1) (turnS kd a) := by rw [q_sA]; exact r3
      obtain ⟨w, g1, g2, g3, g4, g5⟩ := m_rings' r4 t1 kd
      obtain ⟨w', b1, b2, b3, b4, b5⟩ := ih fu (s + rgA (WN kd a.1) * rgL (WN kd a.1)) w (turnS kd a) (by omega) (by omega) (by rw [g5 1 (by decide) (by decide) (by decide)]; exact r4) t1 g2 g3 g4
      refine ⟨w', ?_, b2, b3, by omega, fun r c1 c2 c3 c4 => ?_⟩
      · have hL : ¬ nI (rgL (WN kd a.1)) ≤ (0 : Int32) := by
          have : ¬ nI (rgL (WN kd a.1)) ≤ nI 0 := by rw [q_le (by omega) (by decide)]; omega
          exact this
        rw [X5_clears_l8, if_neg hL, ea, Option.bind_some]
        refine a1.trans ?_
        rw [X5_clears_b81, m294, Option.bind_some, w294, Option.bind_some, m296, Option.bind_some, w296, Option.bind_some, em, n7, q_un (by decide), n9, g1, Option.bind_some, nI_add]
        exact b1
      · rw [b5 r c1 c2 c3 c4, g5 r c2 c3 c4, q_sN _ _ c1, a3 r c1]
noncomputable def clearS (a : AS) (p1 : Int32) : Int32 × AS := bif kIn p1 0 3 then (nI (clrN p1 360 a 0).1, (clrN p1 360 a 0).2) else (-1000001, a)
theorem tot_le {a : AS} (ho : OK a) : totN a.1 ≤ 360 := by
  have := sumN_le (P := fun _ => true) ho.okN
  have := ho.1
  show sumN (fun _ => true) a.1 ≤ 360
  omega
theorem kd_ne {p1 : Int32} (h : kIn p1 0 3 = true) : p1 ≠ -1 := by
  obtain ⟨k, rfl, _, hk⟩ := kIn_nat h (by decide)
  exact nI_m1 (by omega)
theorem c_clearS {v : St} {a : AS} (h : RC v a) (ho : OK a) (vR : St) (p1 : Int32) : ∃ vR' v', X3_clearKind vR v p1 = some ((clearS a p1).1, vR', v') ∧ RC v' (clearS a p1).2 ∧ OK (clearS a p1).2 := by
  rw [X3_clearKind, q_isKind, Option.bind_some, ifb]
  unfold clearS
  cases h1 : kIn p1 0 3 with
  | false => exact ⟨vR, v, rfl, h, ho⟩
  | true =>
    obtain ⟨vR', v', b1, b2, b3, b4⟩ := c_clr (kd_ne h1) 360 FU 0 0 vR v a (tot_le ho) (by decide) (by decide) h ho
    exact ⟨vR', v', b1, b2, b3⟩
theorem clear_pos {a : AS} {p1 : Int32} {n : Nat} (h : n ≤ 360) : ¬ nI n < 0 := nI_pos (by omega)
theorem m_clears {v : St} {a : AS} (h : RM (v 1) a) (ho : OK a) (p1 : Int32) : ∃ v', X5_clears v p1 = some (nI (clrN p1 360 a 0).1, v') ∧ RM (v' 1) (clrN p1 360 a 0).2 ∧ OK (clrN p1 360 a 0).2 ∧ (clrN p1 360 a 0).1 ≤ 360 ∧ SameM v v' := by
  obtain ⟨w, g1, g2, g3, g4, g5⟩ := m_rings' h ho p1
  obtain ⟨v', b1, b2, b3, b4, b5⟩ := m_clr 360 FU 0 w a (tot_le ho) (by decide) (by rw [g5 1 (by decide) (by decide) (by decide)]; exact h) ho g2 g3 g4
  refine ⟨v', ?_, b2, b3, by have := tot_le ho; omega, fun r c1 c2 c3 c4 => by rw [b5 r c1 c2 c3 c4, g5 r c2 c3 c4]⟩
  rw [X5_clears, g1, Option.bind_some]
  exact b1
theorem m_clearS {v : St} {a : AS} {hist : List AS} (h : RM (v 1) a) (ho : OK a) (hh : v 99 5 = 0 → HM v hist) (p1 : Int32) : MOp v a hist (X5_clear v p1) (clearS a p1) := by
  rw [X5_clear, q_isKindM, Option.bind_some, ifb]
  unfold clearS
  cases h1 : kIn p1 0 3 with
  | false => exact MOp.err h (by decide)
  | true =>
    obtain ⟨w, e, w1, cg⟩ := q_chg h hh
    obtain ⟨v', b1, b2, b3, b4, b5⟩ := m_clears (v := w) (by rw [w1]; exact h) ho p1
    refine ⟨v', ?_, b2, fun z => absurd z (nI_pos (by omega)), fun _ => cg.after b5⟩
    simp only [cond_true]
    rw [e, Option.bind_some, b1, Option.bind_some]

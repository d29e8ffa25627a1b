/- an order read: class -/
theorem c_psign {v : St} {n : Nat} {ch : Nat → Nat} (h : TC v n ch) (hT : TXT n ch) {p c : Nat} (h3 : v 99 3 = nI p) (hp : p ≤ 1000) (hc : c ≤ 1000) :
    X2_passSign v (nI c) = some (if sgn n ch p = c then ((1 : Int32), setI v 3 (nI (p + 1))) else ((0 : Int32), v)) := by
  have s1 := sgn_lt hT p
  rw [X2_passSign, h3, c_sign h hT hp, Option.bind_some, q_1]
  have e : (nI (sgn n ch p) = nI c) = (sgn n ch p = c) := propext (nI_eq (by omega) (by omega))
  by_cases z : sgn n ch p = c
  · rw [if_pos (e.mpr z), if_pos z]
  · rw [if_neg (fun q => z (e.mp q)), if_neg z]
theorem c_readL {n : Nat} {ch : Nat → Nat} (hT : TXT n ch) (p1 : Int32) : ∀ (k fu j p : Nat) (vs : Nat → Nat) (v : St), k < fu → j + k ≤ 4 → TC v n ch → v 99 3 = nI p → p ≤ n → (∀ i, i < j → v 2 i = nI (vs i)) →
    ∃ v', X2_readOrder_l32 p1 fu v (nI (j + k)) (nI j) = some ((if (rdL (sgn n ch) k j p vs).1 = true then 1 else 0), v') ∧ KC v v' ∧ v' 99 3 = nI (rdL (sgn n ch) k j p vs).2.1 ∧ ((rdL (sgn n ch) k j p vs).1 = true → ∀ i, i < j + k → v' 2 i = nI ((rdL (sgn n ch) k j p vs).2.2 i)) := by
  intro k
  induction k with
  | zero =>
    intro fu j p vs v hf hj h h3 hp hv
    have hn := hT.1
    obtain ⟨fu, rfl⟩ : ∃ f, fu = f + 1 := ⟨fu - 1, by omega⟩
    have e59 : X2_passSign v (59 : Int32) = _ := c_psign h hT (p := p) (c := 59) h3 (by omega) (by decide)
    rw [X2_readOrder_l32, if_pos (by rw [q_le (by omega) (by omega)]; exact Nat.le_refl _), X2_readOrder_b66, e59, Option.bind_some]
    unfold rdL
    by_cases c : sgn n ch p = 59
    · rw [if_pos c, if_pos c]
      refine ⟨setI v 3 (nI (p + 1)), rfl, KC.pos v _, setI_s, fun _ i hi => ?_⟩
      show setI v 3 (nI (p + 1)) 2 i = nI (vs i)
      rw [setI_r (by decide)]; exact hv i hi
    · rw [if_neg c, if_neg c]
      exact ⟨v, rfl, KC.rf v, h3, fun e => by cases e⟩
  | succ k ih =>
    intro fu j p vs v hf hj h h3 hp hv
    have hn := hT.1
    obtain ⟨fu, rfl⟩ : ∃ f, fu = f + 1 := ⟨fu - 1, by omega⟩
    have hcmp : ¬ nI (j + (k + 1)) ≤ nI j := by rw [q_le (by omega) (by omega)]; omega
    have h0 : (nI j ≤ (0 : Int32)) = (j ≤ 0) := q_le (b := 0) (by omega) (by decide)
    -- the number at q, then the rest
    have num : ∀ (q : Nat) (u : St), TC u n ch → u 99 3 = nI q → q ≤ n → KC v u → (∀ i, i < j → u 2 i = nI (vs i)) →
        ∃ v', X2_readOrder_b50 p1 (X2_readOrder_l32 p1 fu) u (nI (j + (k + 1))) (nI j) = some ((if (if (rdN (sgn n ch) q).2 = q then (false, q, vs) else rdL (sgn n ch) k (j + 1) (rdN (sgn n ch) q).2 (updN vs j (rdN (sgn n ch) q).1)).1 = true then 1 else 0), v') ∧ KC v v' ∧ v' 99 3 = nI (if (rdN (sgn n ch) q).2 = q then (false, q, vs) else rdL (sgn n ch) k (j + 1) (rdN (sgn n ch) q).2 (updN vs j (rdN (sgn n ch) q).1)).2.1 ∧ ((if (rdN (sgn n ch) q).2 = q then (false, q, vs) else rdL (sgn n ch) k (j + 1) (rdN (sgn n ch) q).2 (updN vs j (rdN (sgn n ch) q).1)).1 = true → ∀ i, i < j + (k + 1) → v' 2 i = nI ((if (rdN (sgn n ch) q).2 = q then (false, q, vs) else rdL (sgn n ch) k (j + 1) (rdN (sgn n ch) q).2 (updN vs j (rdN (sgn n ch) q).1)).2.2 i)) := by
      intro q u hu hu3 hq hk hvu
      obtain ⟨w, w1, w2, w3, w4, w5⟩ := c_readN hu hT hu3 hq (j := j) (by omega)
      rw [X2_readOrder_b50, w1, Option.bind_some]
      by_cases z : (rdN (sgn n ch) q).2 = q
      · rw [if_pos z, if_pos z, if_pos (show ((0 : Int32), w).1 = 0 from rfl)]
        rw [z] at w3
        exact ⟨w, rfl, hk.tr w2, w3, fun e => by cases e⟩
      · rw [if_neg z, if_neg z, if_neg (show ¬ ((1 : Int32), w).1 = 0 from (by decide : ¬ (1 : Int32) = 0)), q_1]
        obtain ⟨r1, r2, r3⟩ := rdN_le (ch := ch) hq
        obtain ⟨v', a1, a2, a3, a4⟩ := ih fu (j + 1) (rdN (sgn n ch) q).2 (updN vs j (rdN (sgn n ch) q).1) w (by omega) (by omega) (hu.kc w2) w3 r2 (fun i hi => by
          unfold updN
          by_cases e : i = j
          · subst e; rw [if_pos rfl]; exact w4
          · rw [if_neg e, w5 i e]; exact hvu i (by omega))
        rw [show j + 1 + k = j + (k + 1) by omega] at a1 a4
        exact ⟨v', a1, (hk.tr w2).tr a2, a3, a4⟩
    rw [X2_readOrder_l32, if_neg hcmp]
    unfold rdL
    by_cases j0 : j = 0
    · rw [if_pos (h0.mpr (by omega)), if_pos j0]
      exact num p v h h3 hp (KC.rf v) hv
    · have e44 : X2_passSign v (44 : Int32) = _ := c_psign h hT (p := p) (c := 44) h3 (by omega) (by decide)
      rw [if_neg (fun e => j0 (by have := h0.mp e; omega)), if_neg j0, e44, Option.bind_some]
      by_cases c : sgn n ch p = 44
      · have hp1 := sgn_ne c (by decide)
        rw [if_pos c, if_pos c, if_neg (show ¬ ((1 : Int32), setI v 3 (nI (p + 1))).1 = 0 from (by decide : ¬ (1 : Int32) = 0))]
        exact num (p + 1) (setI v 3 (nI (p + 1))) (h.kc (KC.pos v _)) setI_s hp1 (KC.pos v _) (fun i hi => by rw [setI_r (by decide)]; exact hv i hi)
      · rw [if_neg c, if_neg c, if_pos (show ((0 : Int32), v).1 = 0 from rfl)]
        exact ⟨v, rfl, KC.rf v, h3, fun e => by cases e⟩
theorem c_cnt : ∀ c : Fin 127, X2_numbersAfter (nI c.val) = some (match cntOf c.val with
  | none => -1
  | some k => nI k) := by decide
theorem c_readO {v : St} {n : Nat} {ch : Nat → Nat} (h : TC v n ch) (hT : TXT n ch) {p : Nat} (hp : p < n) :
    ∃ v', X2_readOrder v (nI p) = some ((if (rdO (sgn n ch) p).1 = true then 1 else 0), v') ∧ KC v v' ∧ v' 99 3 = nI (rdO (sgn n ch) p).2.1 ∧ ((rdO (sgn n ch) p).1 = true → ∃ k, cntOf (sgn n ch p) = some k ∧ ∀ i, i < k → v' 2 i = nI ((rdO (sgn n ch) p).2.2 i)) := by
  have hn := hT.1
  have s1 := sgn_lt hT p
  have k0 := KC.pos v (nI p)
  have ec := c_cnt ⟨sgn n ch p, by omega⟩
  dsimp only at ec
  rw [X2_readOrder, c_sign (h.kc k0) hT (by omega), Option.bind_some, ec, Option.bind_some]
  unfold rdO
  cases hk : cntOf (sgn n ch p) with
  | none =>
    dsimp only
    rw [if_neg (by decide)]
    exact ⟨_, rfl, k0, setI_s, fun e => by cases e⟩
  | some k =>
    dsimp only
    have h4 := (cntOf_le hk).1
    have e0 : (0 : Int32) ≤ nI k := by
      have : nI 0 ≤ nI k := by rw [q_le (by decide) (by omega)]; omega
      exact this
    have k1 := KC.pos v (nI (p + 1))
    rw [if_pos e0, q_1]
    obtain ⟨v', a1, a2, a3, a4⟩ := c_readL hT (nI p) k FU 0 (p + 1) (fun _ => 0) (setI v 3 (nI (p + 1))) (by show _ < 2000; omega) (by omega) (h.kc k1) setI_s hp (fun i hi => by omega)
    rw [Nat.zero_add] at a1 a4
    exact ⟨v', a1, k1.tr a2, a3, fun e => ⟨k, rfl, a4 e⟩⟩

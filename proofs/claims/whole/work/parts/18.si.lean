/- an order read: reference -/
def TM (v : St) (n : Nat) (ch : Nat → Nat) : Prop := v 99 7 = nI n ∧ ∀ i, i < n → v 7 i = nI (ch i)
def KM (v v' : St) : Prop := (∀ r, r ≠ 18 → r ≠ 99 → v' r = v r) ∧ ∀ i, i ≠ 11 → i ≠ 16 → v' 99 i = v 99 i
theorem KM.rf (v : St) : KM v v := ⟨fun _ _ _ => rfl, fun _ _ _ => rfl⟩
theorem KM.tr {u v w : St} (h : KM u v) (k : KM v w) : KM u w := ⟨fun r a b => (k.1 r a b).trans (h.1 r a b), fun i a b => (k.2 i a b).trans (h.2 i a b)⟩
theorem KM.at (v : St) (x : Int32) : KM v (setI v 11 x) := ⟨fun r _ b => setI_r b, fun i a _ => setI_n a⟩
theorem KM.sig (v : St) (x : Int32) : KM v (setI v 16 x) := ⟨fun r _ b => setI_r b, fun i _ a => setI_n a⟩
theorem KM.nums (v : St) (f : Nat → Int32) : KM v (setA v 18 f) := ⟨fun r a _ => q_sN v _ a, fun i _ _ => by rw [q_sN v _ (by decide)]⟩
theorem TM.km {v v' : St} {n : Nat} {ch : Nat → Nat} (h : TM v n ch) (k : KM v v') : TM v' n ch := ⟨by rw [k.2 7 (by decide) (by decide)]; exact h.1, fun i hi => by rw [k.1 7 (by decide) (by decide)]; exact h.2 i hi⟩
theorem kIn_n {c lo hi : Nat} (h1 : c < 2 ^ 31) (h2 : lo < 2 ^ 31) (h3 : hi < 2 ^ 31) : kIn (nI c) (nI lo).toInt (nI hi).toInt = (decide (lo ≤ c) && decide (c ≤ hi)) := by
  unfold kIn
  rw [nI_toInt h1, nI_toInt h2, nI_toInt h3]
  congr 1
  · exact decide_eq_decide.mpr (by omega)
  · exact decide_eq_decide.mpr (by omega)
theorem m_isAt {v : St} {n : Nat} {ch : Nat → Nat} (h : TM v n ch) (hT : TXT n ch) {p lo hi : Nat} (h3 : v 99 11 = nI p) (hp : p ≤ 1000) (h1 : 1 ≤ lo) (hlo : lo ≤ 1000) (hhi : hi ≤ 1000) :
    X5_isAt v (nI lo) (nI hi) = some (if (decide (lo ≤ sgn n ch p) && decide (sgn n ch p ≤ hi)) = true then 1 else 0) := by
  have hn := hT.1
  rw [X5_isAt, h.1, h3]
  have hc : (nI n ≤ nI p) = (n ≤ p) := q_le (by omega) (by omega)
  by_cases c : p < n
  · have e : sgn n ch p = ch p := if_pos c
    have hb := (hT.2 p c).2
    rw [if_neg (fun e => by have := hc.mp e; omega), q_ld (by omega) (by decide), Option.bind_some, h.2 p c, q_inM, Option.bind_some, kIn_n (by omega) (by omega) (by omega), ifb, e]
    cases (decide (lo ≤ ch p) && decide (ch p ≤ hi)) <;> rfl
  · have e : sgn n ch p = 0 := if_neg c
    rw [if_pos (hc.mpr (by omega)), e, decide_eq_false (show ¬ lo ≤ 0 by omega)]; rfl
theorem m_psign {v : St} {n : Nat} {ch : Nat → Nat} (h : TM v n ch) (hT : TXT n ch) {p c : Nat} (h3 : v 99 11 = nI p) (hp : p ≤ 1000) (h1 : 1 ≤ c) (hc : c ≤ 1000) :
    ∃ v', X5_sign v (nI c) = some ((if sgn n ch p = c then 1 else 0), v') ∧ KM v v' ∧ v' 99 11 = nI (if sgn n ch p = c then p + 1 else p) ∧ v' 18 = v 18 ∧ v' 99 16 = v 99 16 := by
  rw [X5_sign, m_isAt h hT h3 hp h1 hc hc, Option.bind_some, h3, zb_if, Option.bind_some, Option.bind_some, ifb]
  by_cases z : sgn n ch p = c
  · rw [decide_eq_true (show c ≤ sgn n ch p by omega), decide_eq_true (show sgn n ch p ≤ c by omega), Bool.and_self, cond_true, if_pos rfl, if_pos z, if_pos z, q_1]
    exact ⟨_, rfl, KM.at v _, setI_s, setI_r (by decide), setI_n (by decide)⟩
  · have e : (decide (c ≤ sgn n ch p) && decide (sgn n ch p ≤ c)) = false := by
      rw [Bool.and_eq_false_iff, decide_eq_false_iff_not, decide_eq_false_iff_not]; omega
    rw [e, cond_false, if_neg (show ¬ false = true by decide), if_neg z, if_neg z]
    exact ⟨_, rfl, KM.at v _, by rw [setI_s]; exact Int32.add_zero _, setI_r (by decide), setI_n (by decide)⟩
theorem m_dval {v c : Nat} (h : 48 ≤ c) : (10 : Int32) * nI v + nI c - (48 : Int32) = nI (v * 10 + c - 48) := by
  have e : (10 : Int32) * nI v = nI (10 * v) := pk_mul 10 v
  rw [e, nI_add, Nat.mul_comm]
  exact q_sub (b := 48) (by omega)
theorem m_readN {v : St} {n : Nat} {ch : Nat → Nat} (h : TM v n ch) (hT : TXT n ch) {p j : Nat} (h3 : v 99 11 = nI p) (hp : p ≤ n) (hj : j < 4) :
    ∃ v', X5_numbered v (nI j) = some ((if (rdN (sgn n ch) p).2 = p then 0 else 1), v') ∧ KM v v' ∧ v' 99 11 = nI (rdN (sgn n ch) p).2 ∧ v' 18 j = nI (rdN (sgn n ch) p).1 ∧ (∀ i, i ≠ j → v' 18 i = v 18 i) ∧ v' 99 16 = v 99 16 := by
  have hn := hT.1
  have s1 := sgn_lt hT p
  have s2 := sgn_lt hT (p + 1)
  -- the end of a number
  have fin : ∀ (u : St) (q : Nat), u 99 11 = nI q → q ≤ 1000 → X5_numbered_b74 (nI j) u (nI p) = some ((if q ≤ p then 0 else 1), u) := fun u q hq h1 => by
    have hc : (nI q ≤ nI p) = (q ≤ p) := q_le (by omega) (by omega)
    rw [X5_numbered_b74, hq]
    by_cases c : q ≤ p
    · rw [if_pos (hc.mpr c), if_pos c]
    · rw [if_neg (fun e => c (hc.mp e)), if_neg c]
  have k0 := KM.nums v (upd (v 18) j 0)
  have h0 := h.km k0
  have a0 : (setA v 18 (upd (v 18) j 0)) 99 11 = nI p := by rw [q_sN v _ (by decide)]; exact h3
  have i0 : X5_isAt (setA v 18 (upd (v 18) j 0)) (48 : Int32) (57 : Int32) = some (if dg (sgn n ch p) = true then 1 else 0) := m_isAt (lo := 48) (hi := 57) h0 hT a0 (by omega) (by decide) (by decide) (by decide)
  rw [X5_numbered, q_st (by omega) (by decide), Option.bind_some, h3, show FU = 1997 + 1 + 1 + 1 from rfl, X5_numbered_l12, i0, Option.bind_some, ifb]
  unfold rdN
  cases d1 : dg (sgn n ch p) with
  | false =>
    simp only [cond_false]
    rw [fin _ p a0 (by omega), if_pos (Nat.le_refl p), if_pos trivial]
    exact ⟨_, rfl, k0, a0, by rw [q_sA, q_up]; rfl, fun i hi => by rw [q_sA, q_un hi], by rw [q_sN v _ (by decide)]⟩
  | true =>
    have g1 := (dg_iff.mp d1).1
    have l1 := sgn_dg d1
    have e1 : sgn n ch p = ch p := if_pos l1
    simp only [cond_true]
    have hz : ¬ (2 : Int32) ≤ nI p - nI p := by
      rw [q_sub (Nat.le_refl p), Nat.sub_self]; decide
    have ev : (10 : Int32) * 0 + nI (ch p) - (48 : Int32) = nI (sgn n ch p - 48) := by
      have := m_dval (v := 0) (c := ch p) (by omega)
      rw [Nat.zero_mul, Nat.zero_add, ← e1] at this
      rw [← e1]; exact this
    rw [a0, if_neg hz, q_ld (by omega) (by decide), Option.bind_some, q_ld (by omega) (by decide), Option.bind_some, q_st (by omega) (by decide), Option.bind_some, q_sA, q_up, q_sN v _ (by decide), h.2 p l1, ev, setA_setA, upd_upd, q_1]
    -- one digit read
    have k1 : KM v (setI (setA v 18 (upd (v 18) j (nI (sgn n ch p - 48)))) 11 (nI (p + 1))) := (KM.nums v _).tr (KM.at _ _)
    have a1 : (setI (setA v 18 (upd (v 18) j (nI (sgn n ch p - 48)))) 11 (nI (p + 1))) 99 11 = nI (p + 1) := setI_s
    have i1 : X5_isAt (setI (setA v 18 (upd (v 18) j (nI (sgn n ch p - 48)))) 11 (nI (p + 1))) (48 : Int32) (57 : Int32) = some (if dg (sgn n ch (p + 1)) = true then 1 else 0) := m_isAt (lo := 48) (hi := 57) (h.km k1) hT a1 (by omega) (by decide) (by decide) (by decide)
    have r1 : (setI (setA v 18 (upd (v 18) j (nI (sgn n ch p - 48)))) 11 (nI (p + 1))) 18 = upd (v 18) j (nI (sgn n ch p - 48)) := by rw [setI_r (by decide), q_sA]
    have s16 : (setI (setA v 18 (upd (v 18) j (nI (sgn n ch p - 48)))) 11 (nI (p + 1))) 99 16 = v 99 16 := by rw [setI_n (by decide), q_sN v _ (by decide)]
    generalize (setI (setA v 18 (upd (v 18) j (nI (sgn n ch p - 48)))) 11 (nI (p + 1))) = u at k1 a1 i1 r1 s16 ⊢
    rw [X5_numbered_l12, i1, Option.bind_some, ifb]
    cases d2 : dg (sgn n ch (p + 1)) with
    | false =>
      simp only [cond_false]
      rw [fin u (p + 1) a1 (by omega), if_neg (by omega), if_neg (by omega)]
      exact ⟨u, rfl, k1, a1, by rw [r1, q_up], fun i hi => by rw [r1, q_un hi], s16⟩
    | true =>
      have g2 := (dg_iff.mp d2).1
      have l2 := sgn_dg d2
      have e2 : sgn n ch (p + 1) = ch (p + 1) := if_pos l2
      simp only [cond_true]
      have hz1 : ¬ (2 : Int32) ≤ nI (p + 1) - nI p := by
        rw [q_sub (by omega), show p + 1 - p = 1 by omega]; decide
      rw [a1, if_neg hz1, q_ld (by omega) (by decide), Option.bind_some, q_ld (by omega) (by decide), Option.bind_some, q_st (by omega) (by decide), Option.bind_some, r1, q_up, k1.1 7 (by decide) (by decide), h.2 (p + 1) l2, ← e2, m_dval g2, upd_upd, q_1]
      have k2 : KM v (setI (setA u 18 (upd (v 18) j (nI ((sgn n ch p - 48) * 10 + sgn n ch (p + 1) - 48)))) 11 (nI (p + 2))) := k1.tr ((KM.nums u _).tr (KM.at _ _))
      have a2 : (setI (setA u 18 (upd (v 18) j (nI ((sgn n ch p - 48) * 10 + sgn n ch (p + 1) - 48)))) 11 (nI (p + 2))) 99 11 = nI (p + 2) := setI_s
      have i2 : X5_isAt (setI (setA u 18 (upd (v 18) j (nI ((sgn n ch p - 48) * 10 + sgn n ch (p + 1) - 48)))) 11 (nI (p + 2))) (48 : Int32) (57 : Int32) = some (if dg (sgn n ch (p + 2)) = true then 1 else 0) := m_isAt (lo := 48) (hi := 57) (h.km k2) hT a2 (by omega) (by decide) (by decide) (by decide)
      have r2 : (setI (setA u 18 (upd (v 18) j (nI ((sgn n ch p - 48) * 10 + sgn n ch (p + 1) - 48)))) 11 (nI (p + 2))) 18 = upd (v 18) j (nI ((sgn n ch p - 48) * 10 + sgn n ch (p + 1) - 48)) := by rw [setI_r (by decide), q_sA]
      have s162 : (setI (setA u 18 (upd (v 18) j (nI ((sgn n ch p - 48) * 10 + sgn n ch (p + 1) - 48)))) 11 (nI (p + 2))) 99 16 = v 99 16 := by rw [setI_n (by decide), q_sN u _ (by decide)]; exact s16
      generalize (setI (setA u 18 (upd (v 18) j (nI ((sgn n ch p - 48) * 10 + sgn n ch (p + 1) - 48)))) 11 (nI (p + 2))) = w at k2 a2 i2 r2 s162 ⊢
      rw [X5_numbered_l12, i2, Option.bind_some, ifb]
      have stop : (bif dg (sgn n ch (p + 2)) then (if (2 : Int32) ≤ (w 99 11) - nI p then X5_numbered_b74 (nI j) w (nI p) else (ldA 4 (w 18) (nI j)).bind fun y5 => (ldA 60 (w 7) (w 99 11)).bind fun y6 => (stA 4 (w 18) (nI j) ((((10 : Int32) * y5) + y6) - (48 : Int32))).bind fun g7 => X5_numbered_l12 (nI j) 1997 (setI (setA w 18 g7) 11 ((w 99 11) + (1 : Int32))) (nI p)) else X5_numbered_b74 (nI j) w (nI p)) = X5_numbered_b74 (nI j) w (nI p) := by
        cases dg (sgn n ch (p + 2)) with
        | false => rfl
        | true =>
          simp only [cond_true]
          rw [a2, q_sub (by omega), show p + 2 - p = 2 by omega, if_pos (by decide)]
      rw [stop, fin w (p + 2) a2 (by omega), if_neg (by omega), if_neg (by omega)]
      exact ⟨w, rfl, k2, a2, by rw [r2, q_up], fun i hi => by rw [r2, q_un hi], s162⟩
theorem m_l72_0 (fu : Nat) (v : St) (x1 x3 : Int32) : X5_parses_l72 (fu + 1) v x1 0 x3 = some (0, v) := by
  rw [X5_parses_l72]
  by_cases c : x1 ≤ x3
  · rw [if_pos c, X5_parses_b110, if_pos rfl]
  · rw [if_neg c, if_pos rfl, X5_parses_b110, if_pos rfl]
theorem m_b110 {v : St} {n : Nat} {ch : Nat → Nat} (h : TM v n ch) (hT : TXT n ch) {p j : Nat} {vs : Nat → Nat} (h3 : v 99 11 = nI p) (hp : p ≤ n) :
    ∃ v', X5_parses_b110 v 1 = some ((if (rdL (sgn n ch) 0 j p vs).1 = true then 1 else 0), v') ∧ KM v v' ∧ v' 99 11 = nI (rdL (sgn n ch) 0 j p vs).2.1 ∧ v' 18 = v 18 ∧ v' 99 16 = v 99 16 ∧ (rdL (sgn n ch) 0 j p vs).2.2 = vs := by
  have hn := hT.1
  obtain ⟨w, w1, w2, w3, w4, w5⟩ := m_psign h hT (c := 59) h3 (by omega) (by decide) (by decide)
  have w1' : X5_sign v (59 : Int32) = _ := w1
  rw [X5_parses_b110, if_neg (by decide), w1', Option.bind_some]
  unfold rdL
  by_cases c : sgn n ch p = 59
  · rw [if_pos c] at w3
    rw [if_pos c, if_pos c, if_neg (show ¬ ((1 : Int32), w).1 = 0 from (by decide : ¬ (1 : Int32) = 0))]
    exact ⟨w, rfl, w2, w3, w4, w5, rfl⟩
  · rw [if_neg c] at w3
    rw [if_neg c, if_neg c, if_pos (show ((0 : Int32), w).1 = 0 from rfl)]
    exact ⟨w, rfl, w2, w3, w4, w5, rfl⟩
theorem m_readL {n : Nat} {ch : Nat → Nat} (hT : TXT n ch) : ∀ (k fu j p : Nat) (vs : Nat → Nat) (v : St), k + 1 < fu → j + k ≤ 4 → 1 ≤ j → TM v n ch → v 99 11 = nI p → p ≤ n → (∀ i, i < j → v 18 i = nI (vs i)) →
    ∃ v', X5_parses_l72 fu v (nI (j + k)) 1 (nI j) = some ((if (rdL (sgn n ch) k j p vs).1 = true then 1 else 0), v') ∧ KM v v' ∧ v' 99 11 = nI (rdL (sgn n ch) k j p vs).2.1 ∧ v' 99 16 = v 99 16 ∧ ((rdL (sgn n ch) k j p vs).1 = true → ∀ i, i < j + k → v' 18 i = nI ((rdL (sgn n ch) k j p vs).2.2 i)) := by
  intro k
  induction k with
  | zero =>
    intro fu j p vs v hf hj h1 h h3 hp hv
    have hn := hT.1
    obtain ⟨fu, rfl⟩ : ∃ f, fu = f + 1 := ⟨fu - 1, by omega⟩
    obtain ⟨w, w1, w2, w3, w4, w5, w6⟩ := m_b110 h hT (j := j) (vs := vs) h3 hp
    rw [X5_parses_l72, if_pos (by rw [q_le (by omega) (by omega)]; exact Nat.le_refl _)]
    exact ⟨w, w1, w2, w3, w5, fun _ i hi => by rw [w4, w6]; exact hv i hi⟩
  | succ k ih =>
    intro fu j p vs v hf hj h1 h h3 hp hv
    have hn := hT.1
    obtain ⟨fu, rfl⟩ : ∃ f, fu = f + 1 + 1 := ⟨fu - 2, by omega⟩
    have hcmp : ¬ nI (j + (k + 1)) ≤ nI j := by rw [q_le (by omega) (by omega)]; omega
    obtain ⟨u, u1, u2, u3, u4, u5⟩ := m_psign h hT (c := 44) h3 (by omega) (by decide) (by decide)
    have u1' : X5_sign v (44 : Int32) = _ := u1
    rw [X5_parses_l72, if_neg hcmp, if_neg (show ¬ (1 : Int32) = 0 by decide), u1', Option.bind_some]
    unfold rdL
    rw [if_neg (show ¬ j = 0 by omega)]
    by_cases c : sgn n ch p = 44
    · have hp1 := sgn_ne c (by decide)
      rw [if_pos c] at u3
      obtain ⟨w, w1, w2, w3, w4, w5, w6⟩ := m_readN (h.km u2) hT u3 hp1 (j := j) (by omega)
      rw [if_pos c, if_pos c, if_neg (show ¬ ((1 : Int32), u).1 = 0 from (by decide : ¬ (1 : Int32) = 0)), w1, Option.bind_some]
      by_cases z : (rdN (sgn n ch) (p + 1)).2 = p + 1
      · rw [z] at w3
        rw [if_pos z, if_pos z, if_pos (show ((0 : Int32), w).1 = 0 from rfl), m_l72_0]
        exact ⟨w, rfl, u2.tr w2, w3, w6.trans u5, fun e => by cases e⟩
      · rw [if_neg z, if_neg z, if_neg (show ¬ ((1 : Int32), w).1 = 0 from (by decide : ¬ (1 : Int32) = 0)), q_1]
        obtain ⟨r1, r2, r3⟩ := rdN_le (n := n) (ch := ch) hp1
        obtain ⟨v', a1, a2, a3, a4, a5⟩ := ih (fu + 1) (j + 1) (rdN (sgn n ch) (p + 1)).2 (updN vs j (rdN (sgn n ch) (p + 1)).1) w (by omega) (by omega) (by omega) ((h.km u2).km w2) w3 r2 (fun i hi => by
          unfold updN
          by_cases e : i = j
          · subst e; rw [if_pos rfl]; exact w4
          · rw [if_neg e, w5 i e, u4]; exact hv i (by omega))
        rw [show j + 1 + k = j + (k + 1) by omega] at a1 a5
        exact ⟨v', a1, (u2.tr w2).tr a2, a3, a4.trans (w6.trans u5), a5⟩
    · rw [if_neg c] at u3
      rw [if_neg c, if_neg c, if_pos (show ((0 : Int32), u).1 = 0 from rfl), m_l72_0]
      exact ⟨u, rfl, u2, u3, u5, fun e => by cases e⟩
theorem m_cnt : ∀ c : Fin 127, X5_numbersOf (nI c.val) = some (match cntOf c.val with
  | none => -1000004
  | some k => nI k) := by decide
theorem m_b25 {v : St} {n : Nat} {ch : Nat → Nat} (h : TM v n ch) (hT : TXT n ch) {p c : Nat} (h3 : v 99 11 = nI p) (hp : p < n) (hc : c ≤ 126) :
    ∃ v', X5_parses_b25 v (nI c) = some ((if (match cntOf c with | none => (false, p, fun _ => 0) | some k => rdL (sgn n ch) k 0 (p + 1) (fun _ => 0) : RO).1 = true then 1 else 0), v') ∧ KM v v' ∧ v' 99 11 = nI (match cntOf c with | none => (false, p, fun _ => 0) | some k => rdL (sgn n ch) k 0 (p + 1) (fun _ => 0) : RO).2.1 ∧ v' 99 16 = nI c ∧
      ((match cntOf c with | none => (false, p, fun _ => 0) | some k => rdL (sgn n ch) k 0 (p + 1) (fun _ => 0) : RO).1 = true → ∃ k, cntOf c = some k ∧ ∀ i, i < k → v' 18 i = nI ((match cntOf c with | none => (false, p, fun _ => 0) | some k => rdL (sgn n ch) k 0 (p + 1) (fun _ => 0) : RO).2.2 i)) := by
  have hn := hT.1
  have ec := m_cnt ⟨c, by omega⟩
  dsimp only at ec
  rw [X5_parses_b25, ec, Option.bind_some]
  cases hk : cntOf c with
  | none =>
    dsimp only
    rw [if_neg (by decide)]
    exact ⟨_, rfl, KM.sig v _, by rw [setI_n (by decide)]; exact h3, setI_s, fun e => by cases e⟩
  | some k =>
    dsimp only
    have h4 := (cntOf_le hk).1
    have e0 : (0 : Int32) ≤ nI k := by
      have : nI 0 ≤ nI k := by rw [q_le (by decide) (by omega)]; omega
      exact this
    rw [if_pos e0, h3, q_1]
    have k1 : KM v (setI (setI v 16 (nI c)) 11 (nI (p + 1))) := (KM.sig v _).tr (KM.at _ _)
    have a1 : (setI (setI v 16 (nI c)) 11 (nI (p + 1))) 99 11 = nI (p + 1) := setI_s
    have s1 : (setI (setI v 16 (nI c)) 11 (nI (p + 1))) 99 16 = nI c := by rw [setI_n (by decide), setI_s]
    generalize (setI (setI v 16 (nI c)) 11 (nI (p + 1))) = u at k1 a1 s1 ⊢
    have h' := h.km k1
    by_cases k0 : k = 0
    · subst k0
      obtain ⟨w, w1, w2, w3, w4, w5, w6⟩ := m_b110 h' hT (j := 0) (vs := fun _ => 0) a1 hp
      rw [if_pos (show nI 0 = (0 : Int32) from rfl), show FU = 1999 + 1 from rfl, X5_parses_l72, if_pos (by decide)]
      exact ⟨w, w1, k1.tr w2, w3, w5.trans s1, fun _ => ⟨0, rfl, fun i hi => by omega⟩⟩
    · obtain ⟨m, rfl⟩ : ∃ m, k = m + 1 := ⟨k - 1, by omega⟩
      have en : ¬ nI (m + 1) = (0 : Int32) := fun e => by
        have := (nI_eq (a := m + 1) (b := 0) (by omega) (by decide)).mp e
        omega
      obtain ⟨w, w1, w2, w3, w4, w5, w6⟩ := m_readN h' hT a1 hp (j := 0) (by decide)
      have w1' : X5_numbered u (0 : Int32) = _ := w1
      rw [if_neg en, w1', Option.bind_some]
      unfold rdL
      rw [if_pos rfl]
      by_cases z : (rdN (sgn n ch) (p + 1)).2 = p + 1
      · rw [z] at w3
        rw [if_pos z, if_pos z, if_pos (show ((0 : Int32), w).1 = 0 from rfl), show FU = 1999 + 1 from rfl, m_l72_0]
        exact ⟨w, rfl, k1.tr w2, w3, w6.trans s1, fun e => by cases e⟩
      · rw [if_neg z, if_neg z, if_neg (show ¬ ((1 : Int32), w).1 = 0 from (by decide : ¬ (1 : Int32) = 0))]
        obtain ⟨r1, r2, r3⟩ := rdN_le (n := n) (ch := ch) hp
        obtain ⟨v', b1, b2, b3, b4, b5⟩ := m_readL hT m FU 1 (rdN (sgn n ch) (p + 1)).2 (updN (fun _ => 0) 0 (rdN (sgn n ch) (p + 1)).1) w (by show _ < 2000; omega) (by omega) (Nat.le_refl 1) (h'.km w2) w3 r2 (fun i hi => by
          have : i = 0 := by omega
          subst this
          unfold updN
          rw [if_pos rfl]; exact w4)
        rw [show 1 + m = m + 1 by omega] at b1 b5
        exact ⟨v', b1, (k1.tr w2).tr b2, b3, b4.trans (w6.trans s1), fun e => ⟨m + 1, rfl, b5 e⟩⟩
theorem m_readO {v : St} {n : Nat} {ch : Nat → Nat} (h : TM v n ch) (hT : TXT n ch) {p : Nat} (h3 : v 99 11 = nI p) (hp : p < n) :
    ∃ v', X5_parses v = some ((if (rdO (sgn n ch) p).1 = true then 1 else 0), v') ∧ KM v v' ∧ v' 99 11 = nI (rdO (sgn n ch) p).2.1 ∧
      ((rdO (sgn n ch) p).1 = true → v' 99 16 = nI (sgn n ch p) ∧ ∃ k, cntOf (sgn n ch p) = some k ∧ ∀ i, i < k → v' 18 i = nI ((rdO (sgn n ch) p).2.2 i)) := by
  have hn := hT.1
  have e : sgn n ch p = ch p := if_pos hp
  have hb := hT.2 p hp
  have i0 : X5_isAt v (33 : Int32) (126 : Int32) = _ := m_isAt (lo := 33) (hi := 126) h hT h3 (by omega) (by decide) (by decide) (by decide)
  rw [X5_parses, i0, Option.bind_some, ifb]
  by_cases c : ch p = 32
  · have eb : (decide (33 ≤ sgn n ch p) && decide (sgn n ch p ≤ 126)) = false := by
      rw [Bool.and_eq_false_iff, decide_eq_false_iff_not, decide_eq_false_iff_not]; omega
    obtain ⟨v', a1, a2, a3, a4, a5⟩ := m_b25 h hT (c := 0) h3 hp (by decide)
    have n0 : cntOf 0 = none := rfl
    have n32 : cntOf (sgn n ch p) = none := by rw [e, c]; rfl
    have hr : rdO (sgn n ch) p = (false, p, fun _ => 0) := by unfold rdO; rw [n32]
    rw [n0] at a1 a3
    rw [eb, hr]
    exact ⟨v', a1, a2, a3, fun z => by cases z⟩
  · have eb : (decide (33 ≤ sgn n ch p) && decide (sgn n ch p ≤ 126)) = true := by
      rw [Bool.and_eq_true, decide_eq_true_iff, decide_eq_true_iff]; omega
    obtain ⟨v', a1, a2, a3, a4, a5⟩ := m_b25 h hT (c := sgn n ch p) h3 hp (by omega)
    rw [eb, cond_true, h3, q_ld (by omega) (by decide), Option.bind_some, h.2 p hp, ← e]
    exact ⟨v', a1, a2, a3, fun z => ⟨a4, a5 z⟩⟩

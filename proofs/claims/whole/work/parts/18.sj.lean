/- orders done, one by one: class -/
noncomputable def doS (a : AS) (c : Nat) (vs : Nat → Nat) : Int32 × AS :=
  if c = 99 then clearS a (nI (vs 0)) else if c = 100 then fulS a (nI (vs 0)) (nI (vs 1)) (nI (vs 2)) (nI (vs 3)) else if c = 103 then guaS a (nI (vs 0)) (nI (vs 1)) else if c = 111 then lendS a (nI (vs 0)) (nI (vs 1)) (nI (vs 2)) (nI (vs 3)) else if c = 119 then weeksS a (nI (vs 0)) else holS a (if a.2.1 10 = 0 then 1 else 0)
theorem cntOf_cases {c k : Nat} (h : cntOf c = some k) : (c = 99 ∧ k = 1) ∨ (c = 100 ∧ k = 4) ∨ (c = 103 ∧ k = 2) ∨ (c = 104 ∧ k = 0) ∨ (c = 111 ∧ k = 4) ∨ (c = 119 ∧ k = 1) := by
  unfold cntOf at h
  repeat' split at h
  all_goals (try cases h)
  all_goals simp_all
theorem c_doO {vO vB : St} {a : AS} (h : RC vB a) (ho : OK a) (vR : St) {c k : Nat} {vs : Nat → Nat} (hc : cntOf c = some k) (hv : ∀ i, i < k → vO 2 i = nI (vs i)) :
    ∃ vB' vR', X2_doOrder vO vB vR (nI c) = some ((doS a c vs).1, vB', vR') ∧ RC vB' (doS a c vs).2 ∧ OK (doS a c vs).2 := by
  have e0 : X4_at (vO 2) 4 (0 : Int32) = some (vO 2 0) := q_at (k := 0) (by decide) (by decide)
  have e1 : X4_at (vO 2) 4 (1 : Int32) = some (vO 2 1) := q_at (k := 1) (by decide) (by decide)
  have e2 : X4_at (vO 2) 4 (2 : Int32) = some (vO 2 2) := q_at (k := 2) (by decide) (by decide)
  have e3 : X4_at (vO 2) 4 (3 : Int32) = some (vO 2 3) := q_at (k := 3) (by decide) (by decide)
  rw [X2_doOrder, e0, Option.bind_some, e1, Option.bind_some]
  rcases cntOf_cases hc with ⟨rfl, rfl⟩ | ⟨rfl, rfl⟩ | ⟨rfl, rfl⟩ | ⟨rfl, rfl⟩ | ⟨rfl, rfl⟩ | ⟨rfl, rfl⟩
  · rw [if_pos (show nI 99 = (99 : Int32) from rfl), hv 0 (by decide)]
    obtain ⟨vR', v', k1, k2, k3⟩ := c_clearS h ho vR (nI (vs 0))
    rw [k1, Option.bind_some]
    exact ⟨v', vR', rfl, k2, k3⟩
  · rw [if_neg (show ¬ nI 100 = (99 : Int32) by decide), if_pos (show nI 100 = (100 : Int32) from rfl), e2, Option.bind_some, e3, Option.bind_some, hv 0 (by decide), hv 1 (by decide), hv 2 (by decide), hv 3 (by decide)]
    obtain ⟨v', k1, k2⟩ := c_fulS h ho (nI (vs 0)) (nI (vs 1)) (nI (vs 2)) (nI (vs 3))
    rw [k1, Option.bind_some]
    exact ⟨v', vR, rfl, k2, fulS_ok ho _ _ _ _⟩
  · rw [if_neg (show ¬ nI 103 = (99 : Int32) by decide), if_neg (show ¬ nI 103 = (100 : Int32) by decide), if_pos (show nI 103 = (103 : Int32) from rfl), hv 0 (by decide), hv 1 (by decide)]
    obtain ⟨v', k1, k2⟩ := c_guaS h ho (nI (vs 0)) (nI (vs 1))
    rw [k1, Option.bind_some]
    exact ⟨v', vR, rfl, k2, guaS_ok ho _ _⟩
  · rw [if_neg (show ¬ nI 104 = (99 : Int32) by decide), if_neg (show ¬ nI 104 = (100 : Int32) by decide), if_neg (show ¬ nI 104 = (103 : Int32) by decide), if_neg (show ¬ nI 104 = (111 : Int32) by decide), if_neg (show ¬ nI 104 = (119 : Int32) by decide), X0_hasHolidays, q_num10, Option.bind_some, h.2.1 10 (by decide) (by decide)]
    show ∃ vB' vR', _ = some ((holS a (if a.2.1 10 = 0 then 1 else 0)).1, vB', vR') ∧ RC vB' (holS a (if a.2.1 10 = 0 then 1 else 0)).2 ∧ OK (holS a (if a.2.1 10 = 0 then 1 else 0)).2
    by_cases z : a.2.1 10 = 0
    · rw [if_pos z, if_pos z, Option.bind_some, if_pos rfl]
      obtain ⟨v', k1, k2⟩ := c_holS h 1
      rw [X2_doOrder_b159, k1, Option.bind_some]
      exact ⟨v', vR, rfl, k2, holS_ok ho _⟩
    · rw [if_neg z, if_neg z, Option.bind_some, if_neg (show ¬ (1 : Int32) = 0 by decide)]
      obtain ⟨v', k1, k2⟩ := c_holS h 0
      rw [X2_doOrder_b159, k1, Option.bind_some]
      exact ⟨v', vR, rfl, k2, holS_ok ho _⟩
  · rw [if_neg (show ¬ nI 111 = (99 : Int32) by decide), if_neg (show ¬ nI 111 = (100 : Int32) by decide), if_neg (show ¬ nI 111 = (103 : Int32) by decide), if_pos (show nI 111 = (111 : Int32) from rfl), e2, Option.bind_some, e3, Option.bind_some, hv 0 (by decide), hv 1 (by decide), hv 2 (by decide), hv 3 (by decide)]
    obtain ⟨v', k1, k2⟩ := c_lendS h ho (nI (vs 0)) (nI (vs 1)) (nI (vs 2)) (nI (vs 3))
    rw [k1, Option.bind_some]
    exact ⟨v', vR, rfl, k2, lendS_ok ho _ _ _ _⟩
  · rw [if_neg (show ¬ nI 119 = (99 : Int32) by decide), if_neg (show ¬ nI 119 = (100 : Int32) by decide), if_neg (show ¬ nI 119 = (103 : Int32) by decide), if_neg (show ¬ nI 119 = (111 : Int32) by decide), if_pos (show nI 119 = (119 : Int32) from rfl), hv 0 (by decide)]
    obtain ⟨v', k1, k2⟩ := c_weeksS h ho (nI (vs 0))
    rw [k1, Option.bind_some]
    exact ⟨v', vR, rfl, k2, weeksS_ok ho _⟩
abbrev PO : Type := Option (Nat × Int32 × Int32) × Nat × AS
noncomputable def plS (sg : SG) (n : Nat) : Nat → AS → Nat → Nat → PO
  | 0, a, _, cnt => (none, cnt, a)
  | f + 1, a, p, cnt => if n ≤ p then (none, cnt, a) else
    if (rdO sg p).1 = true then (if 0 ≤ (doS a (sg p) (rdO sg p).2.2).1 then plS sg n f (doS a (sg p) (rdO sg p).2.2).2 (rdO sg p).2.1 (cnt + 1) else (some (p, 2, (doS a (sg p) (rdO sg p).2.2).1), cnt, a))
    else (some (p, 1, nI ((rdO sg p).2.1 - p)), cnt, a)
def isN {α : Type} : Option α → Bool
  | none => true
  | some _ => false
def CP (n : Nat) (ch : Nat → Nat) (r : PO) (o : Option (Int32 × St × St × St)) : Prop :=
  ∃ vO' vB' vR', o = some ((if isN r.1 = true then 1 else 0), vO', vB', vR') ∧ TC vO' n ch ∧ (r.1 = none → vO' 99 4 = nI r.2.1 ∧ RC vB' r.2.2 ∧ OK r.2.2) ∧ ∀ pl rs cs, r.1 = some (pl, rs, cs) → vO' 99 5 = nI pl ∧ vO' 99 6 = rs ∧ vO' 99 7 = cs
theorem TC.i {v : St} {n : Nat} {ch : Nat → Nat} (h : TC v n ch) {k : Nat} (x : Int32) (hk : k ≠ 2) : TC (setI v k x) n ch := ⟨by rw [setI_n (Ne.symm hk)]; exact h.1, fun i hi => by rw [setI_r (by decide)]; exact h.2 i hi⟩
theorem c_all {n : Nat} {ch : Nat → Nat} (hT : TXT n ch) : ∀ (f fu p cnt : Nat) (vO vB vR : St) (a : AS), f ≤ fu → n - p < f → p ≤ n → 2 * cnt ≤ p → TC vO n ch → RC vB a → OK a → vO 99 4 = nI cnt →
    CP n ch (plS (sgn n ch) n f a p cnt) (X2_doAll_l10 fu vO vB vR (nI p) (nI cnt)) := by
  intro f
  induction f with
  | zero => intro fu p cnt vO vB vR a _ h; omega
  | succ f ih =>
    intro fu p cnt vO vB vR a hf hm hp hc h hB ho h4
    obtain ⟨fu, rfl⟩ : ∃ g, fu = g + 1 := ⟨fu - 1, by omega⟩
    have hn := hT.1
    have h60 : ¬ (60 : Int32) ≤ nI cnt := by
      have : ¬ nI 60 ≤ nI cnt := by rw [q_le (by decide) (by omega)]; omega
      exact this
    have hcp : (nI n ≤ nI p) = (n ≤ p) := q_le (by omega) (by omega)
    rw [X2_doAll_l10, if_neg h60, h.1]
    unfold plS
    by_cases c : n ≤ p
    · rw [if_pos (hcp.mpr c), if_pos c]
      exact ⟨vO, vB, vR, rfl, h, fun _ => ⟨h4, hB, ho⟩, fun pl rs cs e => by cases e⟩
    · rw [if_neg (fun e => c (hcp.mp e)), if_neg c]
      obtain ⟨u, u1, u2, u3, u4⟩ := c_readO h hT (p := p) (by omega)
      obtain ⟨r1, r2, r3⟩ := rdO_le (ch := ch) (show p < n by omega)
      rw [u1, Option.bind_some]
      cases hr : (rdO (sgn n ch) p).1 with
      | false =>
        rw [show (if false = true then (1 : Int32) else 0) = 0 from rfl, if_neg (show ¬ false = true by decide), if_pos (show ((0 : Int32), u).1 = 0 from rfl), X2_doAll_b33, X2_noteFault, Option.bind_some, show zbI 0 = some 0 from rfl, Option.bind_some]
        dsimp only
        rw [u3, q_sub r1]
        refine ⟨_, vB, vR, rfl, (((h.kc u2).i _ (by decide)).i _ (by decide)).i _ (by decide), fun e => (by cases e), fun pl rs cs e => ?_⟩
        cases e
        refine ⟨?_, ?_, setI_s⟩
        · rw [setI_n (by decide), setI_n (by decide), setI_s]
        · rw [setI_n (by decide), setI_s]
      | true =>
        obtain ⟨k, hk, hv⟩ := u4 hr
        have hu := h.kc u2
        rw [show (if true = true then (1 : Int32) else 0) = 1 from rfl, if_pos (show true = true from rfl), if_neg (show ¬ ((1 : Int32), u).1 = 0 from (by decide : ¬ (1 : Int32) = 0)), c_sign hu hT (by omega), Option.bind_some]
        obtain ⟨vB', vR', d1, d2, d3⟩ := c_doO hB ho vR hk hv
        rw [d1, Option.bind_some]
        have hu4 : u 99 4 = nI cnt := by rw [u2.2 4 (by decide)]; exact h4
        by_cases z : 0 ≤ (doS a (sgn n ch p) (rdO (sgn n ch) p).2.2).1
        · rw [if_pos z, if_pos z]
          dsimp only
          rw [hu4, u3, q_1]
          have := r3 hr
          exact ih fu (rdO (sgn n ch) p).2.1 (cnt + 1) (setI u 4 (nI (cnt + 1))) vB' vR' _ (by omega) (by omega) r2 (by omega) (hu.i _ (by decide)) d2 d3 setI_s
        · rw [if_neg z, if_neg z, X2_doAll_b64, X2_noteFault, Option.bind_some, show zbI 0 = some 0 from rfl, Option.bind_some]
          dsimp only
          refine ⟨_, vB', vR', rfl, ((hu.i _ (by decide)).i _ (by decide)).i _ (by decide), fun e => (by cases e), fun pl rs cs e => ?_⟩
          cases e
          refine ⟨?_, ?_, setI_s⟩
          · rw [setI_n (by decide), setI_n (by decide), setI_s]
          · rw [setI_n (by decide), setI_s]
noncomputable def plA (n : Nat) (ch : Nat → Nat) (a : AS) : PO := plS (sgn n ch) n 100 a 0 0
theorem c_doAll {n : Nat} {ch : Nat → Nat} (hT : TXT n ch) {vO vB : St} {a : AS} (vR : St) (h : TC vO n ch) (hB : RC vB a) (ho : OK a) : CP n ch (plA n ch a) (X2_doAll vO vB vR) := by
  have hn := hT.1
  rw [X2_doAll]
  exact c_all hT 100 FU 0 0 (setI vO 4 (0 : Int32)) vB vR a (by decide) (by omega) (by omega) (by omega) (h.i _ (by decide)) hB ho setI_s

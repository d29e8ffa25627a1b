/- the end of a week for one lot, reference; the loops over the lots -/
theorem setA_s1 (v : St) (f g : Nat → Int32) : setA (setA v 1 f) 1 g = setA v 1 g := setA_setA v 1 f g
theorem RM.sA {f : Nat → Int32} {a : AS} (h : RM f a) (v : St) : RM ((setA v 1 f) 1) a := by rw [q_sA]; exact h
theorem m_spoil {v : St} {dn rest : List Lot} {d c k n a p : Nat} {nu : Nat → Int32} {pu : Nat → Nat → Int32} {l : Lot} (hl : l = (nI d, nI c, nI k, nI n, nI a, nI p)) (h : RM (v 1) (dn ++ l :: rest, nu, pu))
    (hd : d < 8) (hc : c < 8) : ∃ v', X5_ends_b112 (nI dn.length) v (nI d) (nI n) = some (nI n, v') ∧ RM (v' 1) (dn ++ (spoilS l nu pu).1 :: rest, (spoilS l nu pu).2) ∧ ∀ r, r ≠ 1 → v' r = v r := by
  have hK : dn.length < 40 := by
    have h2 : (dn ++ l :: rest).length ≤ 40 := h.1.2.1
    rw [List.length_append, List.length_cons] at h2; omega
  have e4 : v 1 (240 + 6 * d + 1) = pu 4 d := h.2.2 4 d (by decide) (by decide) hd
  have e6 : v 1 293 = nu 6 := h.2.1 6 (Or.inr (Or.inl (by decide)))
  have e1 : v 1 (6 * dn.length + 1) = nI c := by rw [(h.at (j := 1) (by decide) 0).1, hl]; rfl
  have r1 : RM (upd (v 1) (240 + 6 * d + 1) (pu 4 d + nI n)) (dn ++ l :: rest, nu, updP pu 4 d (pu 4 d + nI n)) := h.row (r := 4) (p := d) _ (by decide) (by decide) hd
  have r2 : RM (upd (upd (v 1) (240 + 6 * d + 1) (pu 4 d + nI n)) 293 (nu 6 + nI n)) (dn ++ l :: rest, upd nu 6 (nu 6 + nI n), updP pu 4 d (pu 4 d + nI n)) := r1.num (i := 6) _ (Or.inr (Or.inl (by decide)))
  have h3 : RM ((setA v 1 (upd (upd (v 1) (240 + 6 * d + 1) (pu 4 d + nI n)) 293 (nu 6 + nI n))) 1) (dn ++ l :: rest, upd nu 6 (nu 6 + nI n), updP pu 4 d (pu 4 d + nI n)) := by rw [q_sA]; exact r2
  obtain ⟨w, ew, rw', hw⟩ := q_shifts h3 hd hc (nI n)
  have r5 := (rw'.at (j := 3) (by decide) 0).2
  refine ⟨setA w 1 (upd (w 1) (6 * dn.length + 3) 0), ?_, ?_, fun r hr => by rw [q_sN w _ hr, hw r hr, q_sN v _ hr]⟩
  · rw [X5_ends_b112, q_atM1, Option.bind_some, q_ld (by omega) (by decide), Option.bind_some, q_st (by omega) (by decide), Option.bind_some, m293, Option.bind_some, w293, Option.bind_some, e4, q_un (by omega), e6,
      q_of1 _ hK, Option.bind_some, q_sA, q_un (by omega), q_un (by omega), e1, ew, Option.bind_some, q_lay3 _ _ hK, Option.bind_some]
  · rw [q_sA]
    have ep : (spoilS l nu pu).2 = (upd nu 6 (nu 6 + nI n), updP (updP (updP pu 4 d (pu 4 d + nI n)) 2 d (updP pu 4 d (pu 4 d + nI n) 2 d + nI n)) 2 c (updP (updP pu 4 d (pu 4 d + nI n)) 2 d (updP pu 4 d (pu 4 d + nI n) 2 d + nI n) 2 c - nI n)) := by
      unfold spoilS
      rw [hl]
      show (_, updP (updP (updP pu 2 (ix (nI d)) _) 2 (ix (nI c)) _) 4 (ix (nI d)) _) = _
      rw [ix_nI (by omega), ix_nI (by omega), updP_n (r := 4) (r' := 2) (by omega), updP_comm (r := 4) (r' := 2) (by omega), updP_comm (r := 4) (r' := 2) (by omega), updP_n (r := 4) (r' := 2) (by omega)]
    rw [ep]
    exact r5
theorem m_ends {v : St} {dn rest : List Lot} {d c k n a p g : Nat} {nu : Nat → Int32} {pu : Nat → Nat → Int32} {l : Lot} (hl : l = (nI d, nI c, nI k, nI n, nI a, nI p)) (h : RM (v 1) (dn ++ l :: rest, nu, pu))
    (hd : d < 8) (hc : c < 8) (hp : p ≤ 1) (hg : pu 5 d = nI g) (hg8 : g ≤ 8) :
    ∃ v' x, X5_ends v (nI dn.length) = some (x, v') ∧ RM (v' 1) (dn ++ (bif spoils pu l then spoilS l nu pu else passS l nu pu).1 :: rest, (bif spoils pu l then spoilS l nu pu else passS l nu pu).2) ∧ (∀ r, r ≠ 1 → v' r = v r) ∧ x = (bif spoils pu l then nI n else 0) := by
  have hK : dn.length < 40 := by
    have h2 : (dn ++ l :: rest).length ≤ 40 := h.1.2.1
    rw [List.length_append, List.length_cons] at h2; omega
  have e8 : v 1 (6 * dn.length + 0) = nI d := by rw [(h.at (j := 0) (by decide) 0).1, hl]; rfl
  have e9 : v 1 (6 * dn.length + 1) = nI c := by rw [(h.at (j := 1) (by decide) 0).1, hl]; rfl
  have e13 : v 1 (6 * dn.length + 5) = nI p := by rw [(h.at (j := 5) (by decide) 0).1, hl]; rfl
  have e11 : v 1 (6 * dn.length + 3) = nI n := by rw [(h.at (j := 3) (by decide) 0).1, hl]; rfl
  have e5 : v 1 (240 + 6 * d + 2) = pu 5 d := h.2.2 5 d (by decide) (by decide) hd
  have eL : goP pu l = pu 5 d - 1 := by rw [hl]; unfold goP; rw [ix_nI (by omega)]
  have es : spoils pu l = (decide (pu 5 d - 1 < 0) || (decide (pu 5 d - 1 = nI c) || !decide (nI p = 0))) := by
    unfold spoils; rw [eL, hl]
  obtain ⟨w, ew, hw, hs⟩ := m_spoil hl h hd hc
  have sp : spoils pu l = true → ∀ o, o = some (nI n, w) → ∃ v' x, o = some (x, v') ∧ RM (v' 1) (dn ++ (bif spoils pu l then spoilS l nu pu else passS l nu pu).1 :: rest, (bif spoils pu l then spoilS l nu pu else passS l nu pu).2) ∧ (∀ r, r ≠ 1 → v' r = v r) ∧ x = (bif spoils pu l then nI n else 0) := by
    rintro e o rfl
    rw [e]
    exact ⟨w, nI n, rfl, hw, hs, rfl⟩
  rw [X5_ends, q_of0 _ hK, Option.bind_some, q_of3 _ hK, Option.bind_some, e8, e11, q_atM2, Option.bind_some, q_ld (by omega) (by decide), Option.bind_some, e5]
  by_cases c1 : pu 5 d - 1 < 0
  · exact sp (by rw [es, decide_eq_true c1]; rfl) _ (by rw [if_pos c1, ew])
  rw [if_neg c1, q_of1 _ hK, Option.bind_some, e9]
  by_cases c2 : pu 5 d - 1 = nI c
  · exact sp (by rw [es, decide_eq_true c2, Bool.true_or, Bool.or_true]) _ (by rw [if_pos c2, ew])
  rw [if_neg c2, q_of5 _ hK, Option.bind_some, e13]
  by_cases c3 : nI p = 0
  · have ef : spoils pu l = false := by rw [es, decide_eq_true c3, decide_eq_false c1, decide_eq_false c2]; rfl
    have g1 : 1 ≤ g := by
      rcases Nat.eq_zero_or_pos g with z | z
      · rw [hg, z] at c1; exact absurd (by decide) c1
      · exact z
    have eg1 : pu 5 d - 1 = nI (g - 1) := by rw [hg]; exact q_sub (a := g) (b := 1) g1
    have r1 := (h.at (j := 0) (by decide) (nI (g - 1))).2
    have r2 := (r1.at (j := 4) (by decide) 0).2
    have r3 := (r2.at (j := 5) (by decide) 1).2
    have r4 := r3.row (r := 6) (p := g - 1) (pu 6 (g - 1) + nI n) (by decide) (by decide) (by omega)
    have r5 := r4.num (i := 8) (nu 8 + nI n) (Or.inr (Or.inl (by decide)))
    have h3 := r5.sA v
    obtain ⟨w, ew, rw', hw⟩ := q_shifts h3 hd (y := g - 1) (by omega) (nI n)
    have e6 : v 1 (240 + 6 * (g - 1) + 3) = pu 6 (g - 1) := h.2.2 6 (g - 1) (by decide) (by decide) (by omega)
    have e1 : v 1 295 = nu 8 := h.2.1 8 (Or.inr (Or.inl (by decide)))
    have ep : passS l nu pu = (setF (setF (setF l 0 (nI (g - 1))) 4 0) 5 1, upd nu 8 (nu 8 + nI n), updP (updP (updP pu 6 (g - 1) (pu 6 (g - 1) + nI n)) 2 d (updP pu 6 (g - 1) (pu 6 (g - 1) + nI n) 2 d + nI n)) 2 (g - 1) (updP (updP pu 6 (g - 1) (pu 6 (g - 1) + nI n)) 2 d (updP pu 6 (g - 1) (pu 6 (g - 1) + nI n) 2 d + nI n) 2 (g - 1) - nI n)) := by
      unfold passS
      rw [eL, eg1, hl]
      show (_, _, updP (updP (updP pu 2 (ix (nI d)) _) 2 (ix (nI (g - 1))) _) 6 (ix (nI (g - 1))) _) = _
      rw [ix_nI (by omega), ix_nI (by omega), updP_n (r := 6) (r' := 2) (by omega), updP_comm (r := 6) (r' := 2) (by omega), updP_comm (r := 6) (r' := 2) (by omega), updP_n (r := 6) (r' := 2) (by omega)]
    rw [if_pos c3, ef, ep]
    refine ⟨w, 0, ?_, rw', fun r hr => by rw [hw r hr, q_sN v _ hr], rfl⟩
    rw [eg1, q_lay0 _ _ hK, Option.bind_some, q_lay4 _ _ hK, Option.bind_some, q_lay5 _ _ hK, Option.bind_some, q_atM3, Option.bind_some]
    simp only [q_sA, setA_s1]
    rw [q_ld (by omega) (by decide), Option.bind_some, q_st (by omega) (by decide), Option.bind_some, m295, Option.bind_some, w295, Option.bind_some, q_un (k := 6 * dn.length + 5) (by omega), q_un (k := 6 * dn.length + 4) (by omega), q_un (k := 6 * dn.length + 0) (by omega), e6,
      q_un (j := 295) (by omega), q_un (j := 295) (by omega), q_un (j := 295) (by omega), q_un (j := 295) (by omega), e1]
    have ew := ew
    rw [show mapN 8 = 295 from rfl, show offP 6 = 3 from rfl] at ew
    rw [ew]; rfl
  · exact sp (by rw [es, decide_eq_false c3]; simp) _ (by rw [if_neg c3, ew])

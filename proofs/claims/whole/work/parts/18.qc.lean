/- the end of a week for one lot: both sides -/
theorem c_pass {v : St} {dn rest : List Lot} {d c k n a p g : Nat} {nu : Nat → Int32} {pu : Nat → Nat → Int32} {l : Lot} (hl : l = (nI d, nI c, nI k, nI n, nI a, nI p)) (h : RC v (dn ++ l :: rest, nu, pu))
    (hd : d < 8) (hc : c < 8) (hp : p ≤ 1) (hg : pu 5 d = nI g) (hg8 : g ≤ 8) :
    (spoils pu l = true ∧ X0_passToGuarantor v (nI dn.length) = some (0, v)) ∨ (spoils pu l = false ∧ ∃ v', X0_passToGuarantor v (nI dn.length) = some (1, v') ∧ RC v' (dn ++ (passS l nu pu).1 :: rest, (passS l nu pu).2)) := by
  have hK : dn.length < 40 := by
    have h2 : (dn ++ l :: rest).length ≤ 40 := h.1.2.1
    rw [List.length_append, List.length_cons] at h2; omega
  have e8 : v 8 dn.length = nI d := by rw [(h.at (j := 0) (by decide) 0).1, hl]; rfl
  have e9 : v 9 dn.length = nI c := by rw [(h.at (j := 1) (by decide) 0).1, hl]; rfl
  have e13 : v 13 dn.length = nI p := by rw [(h.at (j := 5) (by decide) 0).1, hl]; rfl
  have e11 : v 11 dn.length = nI n := by rw [(h.at (j := 3) (by decide) 0).1, hl]; rfl
  have eg : X0_guarantorOf v (nI d) = some (pu 5 d - 1) := q_guar h hd
  have eL : goP pu l = pu 5 d - 1 := by rw [hl]; unfold goP; rw [ix_nI (by omega)]
  have es : spoils pu l = (decide (pu 5 d - 1 < 0) || (decide (pu 5 d - 1 = nI c) || !decide (nI p = 0))) := by
    unfold spoils; rw [eL, hl]
  rw [X0_passToGuarantor, q_at hK (by decide), Option.bind_some, e8, eg, Option.bind_some, es]
  by_cases c1 : pu 5 d - 1 < 0
  · exact Or.inl ⟨by rw [decide_eq_true c1]; rfl, by rw [if_pos c1]⟩
  rw [if_neg c1, q_at hK (by decide), Option.bind_some, e9]
  by_cases c2 : pu 5 d - 1 = nI c
  · exact Or.inl ⟨by rw [decide_eq_true c2, Bool.true_or, Bool.or_true], by rw [if_pos c2]⟩
  rw [if_neg c2, q_at hK (by decide), Option.bind_some, e13]
  by_cases c3 : nI p = 0
  · refine Or.inr ⟨by rw [decide_eq_true c3, decide_eq_false c1, decide_eq_false c2]; rfl, ?_⟩
    have g1 : 1 ≤ g := by
      rcases Nat.eq_zero_or_pos g with z | z
      · rw [hg, z] at c1; exact absurd (by decide) c1
      · exact z
    have eg1 : pu 5 d - 1 = nI (g - 1) := by rw [hg]; exact q_sub (a := g) (b := 1) g1
    have r1 := (h.at (j := 0) (by decide) (nI (g - 1))).2
    have r2 := (r1.at (j := 4) (by decide) 0).2
    have r3 := (r2.at (j := 5) (by decide) 1).2
    have r4 := r3.row (r := 2) (p := d) (pu 2 d + nI n) (by decide) (by decide) hd
    have r5 := r4.row (r := 2) (p := g - 1) (updP pu 2 d (pu 2 d + nI n) 2 (g - 1) - nI n) (by decide) (by decide) (by omega)
    have e5 := r4.2.2 2 (g - 1) (by decide) (by decide) (by omega)
    rw [setA_setA] at r5
    have r6 := r5.row (r := 6) (p := g - 1) (pu 6 (g - 1) + nI n) (by decide) (by decide) (by omega)
    have r7 := r6.num (i := 8) (nu 8 + nI n) (by decide)
    have e2 : v 2 d = pu 2 d := h.2.2 2 d (by decide) (by decide) hd
    have e6 : v 6 (g - 1) = pu 6 (g - 1) := h.2.2 6 (g - 1) (by decide) (by decide) (by omega)
    have e1 : v 1 8 = nu 8 := h.2.1 8 (by decide) (by decide)
    rw [q_sA] at e5
    have e5 : upd (v 2) d (pu 2 d + nI n) (g - 1) = updP pu 2 d (pu 2 d + nI n) 2 (g - 1) := e5
    have ep : passS l nu pu = (setF (setF (setF l 0 (nI (g - 1))) 4 0) 5 1, upd nu 8 (nu 8 + nI n), updP (updP (updP pu 2 d (pu 2 d + nI n)) 2 (g - 1) (updP pu 2 d (pu 2 d + nI n) 2 (g - 1) - nI n)) 6 (g - 1) (pu 6 (g - 1) + nI n)) := by
      unfold passS
      rw [eL, eg1, hl]
      show (_, _, updP (updP (updP pu 2 (ix (nI d)) _) 2 (ix (nI (g - 1))) _) 6 (ix (nI (g - 1))) _) = _
      rw [ix_nI (by omega), ix_nI (by omega)]
    rw [ep, if_pos c3, q_at hK (by decide), Option.bind_some, e11, eg1, q_put hK (by decide), Option.bind_some, q_put hK (by decide), Option.bind_some, q_put hK (by decide), Option.bind_some,
      q_add hd (by decide), Option.bind_some, q_add (by omega) (by decide), Option.bind_some, q_add (by omega) (by decide), Option.bind_some, a26_8, Option.bind_some, e2, e6, e1, e5, q_addneg]
    exact ⟨_, rfl, r7⟩
  · exact Or.inl ⟨by rw [decide_eq_false c3]; simp, by rw [if_neg c3]⟩
theorem c_spoil {v : St} {dn rest : List Lot} {d c k n a p : Nat} {nu : Nat → Int32} {pu : Nat → Nat → Int32} {l : Lot} (hl : l = (nI d, nI c, nI k, nI n, nI a, nI p)) (h : RC v (dn ++ l :: rest, nu, pu))
    (hd : d < 8) (hc : c < 8) : ∃ v', X0_spoilLot v (nI dn.length) = some v' ∧ RC v' (dn ++ (spoilS l nu pu).1 :: rest, (spoilS l nu pu).2) := by
  have hK : dn.length < 40 := by
    have h2 : (dn ++ l :: rest).length ≤ 40 := h.1.2.1
    rw [List.length_append, List.length_cons] at h2; omega
  have e8 : v 8 dn.length = nI d := by rw [(h.at (j := 0) (by decide) 0).1, hl]; rfl
  have e9 : v 9 dn.length = nI c := by rw [(h.at (j := 1) (by decide) 0).1, hl]; rfl
  have e11 : v 11 dn.length = nI n := by rw [(h.at (j := 3) (by decide) 0).1, hl]; rfl
  have r1 := (h.at (j := 3) (by decide) 0).2
  have r4 := r1.row (r := 2) (p := d) (pu 2 d + nI n) (by decide) (by decide) hd
  have r5 := r4.row (r := 2) (p := c) (updP pu 2 d (pu 2 d + nI n) 2 c - nI n) (by decide) (by decide) (by omega)
  have e5 := r4.2.2 2 c (by decide) (by decide) (by omega)
  rw [setA_setA] at r5
  have r6 := r5.row (r := 4) (p := d) (pu 4 d + nI n) (by decide) (by decide) (by omega)
  have r7 := r6.num (i := 6) (nu 6 + nI n) (by decide)
  have e2 : v 2 d = pu 2 d := h.2.2 2 d (by decide) (by decide) hd
  have e6 : v 4 d = pu 4 d := h.2.2 4 d (by decide) (by decide) (by omega)
  have e1 : v 1 6 = nu 6 := h.2.1 6 (by decide) (by decide)
  rw [q_sA] at e5
  have e5 : upd (v 2) d (pu 2 d + nI n) c = updP pu 2 d (pu 2 d + nI n) 2 c := e5
  have ep : spoilS l nu pu = (setF l 3 0, upd nu 6 (nu 6 + nI n), updP (updP (updP pu 2 d (pu 2 d + nI n)) 2 c (updP pu 2 d (pu 2 d + nI n) 2 c - nI n)) 4 d (pu 4 d + nI n)) := by
    unfold spoilS
    rw [hl]
    show (_, _, updP (updP (updP pu 2 (ix (nI d)) _) 2 (ix (nI c)) _) 4 (ix (nI d)) _) = _
    rw [ix_nI (by omega), ix_nI (by omega)]
  rw [ep, X0_spoilLot, q_at hK (by decide), Option.bind_some, q_at hK (by decide), Option.bind_some, q_put hK (by decide), Option.bind_some, e8, e11, q_add hd (by decide), Option.bind_some,
    q_at hK (by decide), Option.bind_some, e9, q_add (by omega) (by decide), Option.bind_some, q_add (by omega) (by decide), Option.bind_some, a26_6, Option.bind_some, e2, e6, e1, e5, q_addneg]
  exact ⟨_, rfl, r7⟩

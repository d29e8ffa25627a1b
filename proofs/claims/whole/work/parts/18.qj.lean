/- what is owed in one kind: the class's table -/
def WN (kd : Int32) (ls : List Lot) (d c : Nat) : Nat := sumN (mtE (nI d) (nI c) kd) ls
theorem mtE_nI {d c d0 c0 k n a p : Nat} {kd : Int32} (h1 : d < 2 ^ 31) (h2 : c < 2 ^ 31) (h3 : d0 < 2 ^ 31) (h4 : c0 < 2 ^ 31) (hk : nI k = kd) :
    mtE (nI d) (nI c) kd (nI d0, nI c0, nI k, nI n, nI a, nI p) = (decide (d0 = d) && decide (c0 = c)) := by
  show (decide (nI d0 = nI d) && decide (nI c0 = nI c) && decide (nI k = kd)) = _
  rw [decide_eq_true hk, Bool.and_true]
  congr 1
  · exact decide_eq_decide.mpr (nI_eq h3 h1)
  · exact decide_eq_decide.mpr (nI_eq h4 h2)
theorem c_read_l {P : Nat} (hP : P ≤ 8) {kd : Int32} (hkd : kd ≠ -1) : ∀ (rest : List Lot) (fu : Nat) (v : St) (vR : St) (dn : List Lot) (M : Nat → Nat → Nat), rest.length < fu → LC v (dn ++ rest) → (∀ l ∈ rest, okL P l) →
    (∀ d c, d < 8 → c < 8 → vR 1 (8 * d + c) = nI (M d c)) →
    ∃ w, X3_readOwed_l26 v kd fu vR (nI dn.length) = some w ∧ (∀ r, r ≠ 1 → w r = vR r) ∧ ∀ d c, d < 8 → c < 8 → w 1 (8 * d + c) = nI (M d c + WN kd rest d c) := by
  intro rest
  induction rest with
  | nil =>
    intro fu v vR dn M hf h _ hM
    obtain ⟨fu, rfl⟩ : ∃ f, fu = f + 1 := ⟨fu - 1, by simp at hf; omega⟩
    have e2 : v 1 2 = nI dn.length := by have := h.1; rw [List.append_nil] at this; exact this
    have hcmp : nI dn.length ≤ nI dn.length := by rw [q_le (by have := h.2.1; simp at this; omega) (by have := h.2.1; simp at this; omega)]; omega
    refine ⟨vR, by rw [X3_readOwed_l26, q_num2, Option.bind_some, e2, if_pos hcmp], fun _ _ => rfl, fun d c hd hc => hM d c hd hc⟩
  | cons l rest ih =>
    intro fu v vR dn M hf h hl hM
    obtain ⟨fu, rfl⟩ : ∃ f, fu = f + 1 := ⟨fu - 1, by simp at hf; omega⟩
    have h40 : dn.length + (rest.length + 1) ≤ 40 := by
      have h2 : (dn ++ l :: rest).length ≤ 40 := h.2.1
      rw [List.length_append, List.length_cons] at h2; exact h2
    have e2 : v 1 2 = nI (dn.length + (rest.length + 1)) := by
      have h2 : v 1 2 = nI (dn ++ l :: rest).length := h.1
      rw [List.length_append, List.length_cons] at h2; exact h2
    have hcmp : ¬ nI (dn.length + (rest.length + 1)) ≤ nI dn.length := by rw [q_le (by omega) (by omega)]; omega
    have eL : lotC v dn.length = l := (lotsF_at (g' := lotC v) h.2.2 (fun _ _ => rfl)).1
    obtain ⟨d0, c0, k, n, a, p, e, h1, h2, h3, h4, h5, h6, h7, h8⟩ := hl l (List.mem_cons_self)
    have h' : LC v ((dn ++ [l]) ++ rest) := by rw [List.append_assoc]; exact h
    have em : mt (-1) (-1) kd l = decide (kd = nI k) := by
      rw [e]
      show ((decide ((-1 : Int32) = -1) || _) && (decide ((-1 : Int32) = -1) || _) && (decide (kd = -1) || decide (kd = nI k))) = _
      rw [decide_eq_false hkd]; rfl
    rw [X3_readOwed_l26, q_num2, Option.bind_some, e2, if_neg hcmp, q_isLot _ _ _ _ (by omega), Option.bind_some, eL, em, ifb]
    by_cases c1 : kd = nI k
    · rw [decide_eq_true c1, cond_true]
      have e8 : v 8 dn.length = nI d0 := by have : (lotC v dn.length).1 = nI d0 := by rw [eL, e]
                                            exact this
      have e9 : v 9 dn.length = nI c0 := by have : (lotC v dn.length).2.1 = nI c0 := by rw [eL, e]
                                            exact this
      have e11 : v 11 dn.length = nI n := by have : (lotC v dn.length).2.2.2.1 = nI n := by rw [eL, e]
                                             exact this
      have ei : nI d0 * (8 : Int32) + nI c0 = nI (8 * d0 + c0) := by
        have : nI d0 * (8 : Int32) = nI (d0 * 8) := pk_mul d0 8
        rw [this, nI_add, Nat.mul_comm]
      rw [q_at (by omega) (by decide), Option.bind_some, q_at (by omega) (by decide), Option.bind_some, q_at (by omega) (by decide), Option.bind_some, e8, e9, e11, ei, q_add (by omega) (by decide), Option.bind_some]
      obtain ⟨w, w1, w2, w3⟩ := ih fu v (setA vR 1 (upd (vR 1) (8 * d0 + c0) (vR 1 (8 * d0 + c0) + nI n))) (dn ++ [l]) (fun d c => M d c + (if d0 = d ∧ c0 = c then n else 0)) (by simp at hf; omega) h' (fun x hx => hl x (List.mem_cons_of_mem _ hx)) (by
        intro d c hd hc
        rw [q_sA]
        by_cases z : d0 = d ∧ c0 = c
        · obtain ⟨rfl, rfl⟩ := z
          rw [q_up, hM d0 c0 hd hc, nI_add, if_pos ⟨rfl, rfl⟩]
        · rw [q_un (by omega), hM d c hd hc, if_neg z, Nat.add_zero])
      rw [List.length_append, List.length_singleton, ← q_1] at w1
      refine ⟨w, w1, fun r hr => (w2 r hr).trans (q_sN vR _ hr), fun d c hd hc => ?_⟩
      rw [w3 d c hd hc, Nat.add_assoc]
      congr 2
      show _ = (if mtE (nI d) (nI c) kd l then l.2.2.2.1.toNatClampNeg else 0) + _
      rw [e, mtE_nI (by omega) (by omega) (by omega) (by omega) c1.symm]
      show _ = (if _ then (nI n).toNatClampNeg else 0) + _
      rw [nI_clamp (by omega)]
      by_cases z : d0 = d ∧ c0 = c
      · rw [if_pos z, decide_eq_true z.1, decide_eq_true z.2]; rfl
      · rw [if_neg z, if_neg (by rw [Bool.and_eq_true, decide_eq_true_eq, decide_eq_true_eq]; exact z)]; rfl
    · rw [decide_eq_false c1, cond_false]
      obtain ⟨w, w1, w2, w3⟩ := ih fu v vR (dn ++ [l]) M (by simp at hf; omega) h' (fun x hx => hl x (List.mem_cons_of_mem _ hx)) hM
      rw [List.length_append, List.length_singleton, ← q_1] at w1
      refine ⟨w, w1, w2, fun d c hd hc => ?_⟩
      rw [w3 d c hd hc]
      congr 2
      show _ = (if mtE (nI d) (nI c) kd l then l.2.2.2.1.toNatClampNeg else 0) + _
      have : mtE (nI d) (nI c) kd l = false := by
        rw [e]
        show (_ && _ && decide (nI k = kd)) = false
        rw [decide_eq_false (show ¬ nI k = kd from fun z => c1 z.symm), Bool.and_false]
      rw [this, if_neg (by decide), Nat.zero_add]; rfl
theorem c_read_z (kd : Int32) (v : St) : ∀ (n fu i : Nat) (vR : St), n < fu → i + n = 64 → (∀ j, j < i → vR 1 j = 0) →
    ∃ w, X3_readOwed_l2 v kd fu vR (nI i) = X3_readOwed_l26 v kd FU w 0 ∧ (∀ r, r ≠ 1 → w r = vR r) ∧ ∀ j, j < 64 → w 1 j = 0 := by
  intro n
  induction n with
  | zero =>
    intro fu i vR hf hi h
    obtain ⟨fu, rfl⟩ : ∃ f, fu = f + 1 := ⟨fu - 1, by omega⟩
    have : i = 64 := by omega
    subst this
    exact ⟨vR, by rw [X3_readOwed_l2, if_pos (by decide)], fun _ _ => rfl, h⟩
  | succ n ih =>
    intro fu i vR hf hi h
    obtain ⟨fu, rfl⟩ : ∃ f, fu = f + 1 := ⟨fu - 1, by omega⟩
    have hcmp : ¬ (64 : Int32) ≤ nI i := by
      have : ¬ nI 64 ≤ nI i := by rw [q_le (by decide) (by omega)]; omega
      exact this
    obtain ⟨w, w1, w2, w3⟩ := ih fu (i + 1) (setA vR 1 (upd (vR 1) i 0)) (by omega) (by omega) (by
      intro j hj
      rw [q_sA]
      by_cases z : j = i
      · subst z; exact q_up
      · rw [q_un z]; exact h j (by omega))
    refine ⟨w, ?_, fun r hr => (w2 r hr).trans (q_sN vR _ hr), w3⟩
    rw [X3_readOwed_l2, if_neg hcmp, q_st (by omega) (by decide), Option.bind_some, q_1, w1]
theorem c_read {v : St} {a : AS} (h : RC v a) (ho : OK a) (vR : St) {kd : Int32} (hkd : kd ≠ -1) : ∃ w, X3_readOwed vR v kd = some w ∧ (∀ r, r ≠ 1 → w r = vR r) ∧ ∀ d c, d < 8 → c < 8 → w 1 (8 * d + c) = nI (WN kd a.1 d c) := by
  obtain ⟨h40, P, h8, hP, hl, _⟩ := ho
  obtain ⟨w, w1, w2, w3⟩ := c_read_z kd v 64 FU 0 vR (by decide) (by omega) (fun j hj => absurd hj (by omega))
  obtain ⟨u, u1, u2, u3⟩ := c_read_l h8 hkd a.1 FU v w [] (fun _ _ => 0) (by show _ < 2000; omega) h.1 hl (fun d c hd hc => w3 _ (by omega))
  refine ⟨u, ?_, fun r hr => (u2 r hr).trans (w2 r hr), fun d c hd hc => ?_⟩
  · rw [X3_readOwed]
    exact w1.trans u1
  · rw [u3 d c hd hc, Nat.zero_add]
theorem c_owed {w : St} {W : Nat → Nat → Nat} (h : ∀ d c, d < 8 → c < 8 → w 1 (8 * d + c) = nI (W d c)) {d c : Nat} (hd : d < 8) (hc : c < 8) : X3_owedBetween w (nI d) (nI c) = some (nI (W d c)) := by
  have ei : nI d * (8 : Int32) + nI c = nI (8 * d + c) := by
    have : nI d * (8 : Int32) = nI (d * 8) := pk_mul d 8
    rw [this, nI_add, Nat.mul_comm]
  have hcmp : ¬ (64 : Int32) ≤ nI (8 * d + c) := by
    have : ¬ nI 64 ≤ nI (8 * d + c) := by rw [q_le (by decide) (by omega)]; omega
    exact this
  rw [X3_owedBetween, ei, if_neg (nI_pos (by omega)), if_neg hcmp, q_ld (by omega) (by decide), Option.bind_some, h d c hd hc]

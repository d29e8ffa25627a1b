/- who owes whom, as sets: reference -/
def LKS (v : St) (W : Nat → Nat → Nat) : Prop := ∀ d, d < 8 → MKS (v 9 d) (fun c => 0 < W d c)
theorem lotM_at {s : Nat → Int32} {dn rest : List Lot} {l : Lot} (h : LM s (dn ++ l :: rest)) : lotM s dn.length = l := (lotsF_at (g' := lotM s) h.2.2 (fun _ _ => rfl)).1
theorem m_looks_l {P : Nat} (hP : P ≤ 8) {kd : Int32} : ∀ (rest : List Lot) (fu : Nat) (v : St) (dn : List Lot) (M : Nat → Nat → Nat), rest.length < fu → LM (v 1) (dn ++ rest) → (∀ l ∈ rest, okL P l) → LKS v M →
    ∃ w, X5_looks_l23 kd fu v (nI dn.length) = some w ∧ (∀ r, r ≠ 9 → w r = v r) ∧ LKS w (fun d c => M d c + WN kd rest d c) := by
  intro rest
  induction rest with
  | nil =>
    intro fu v dn M hf h _ hM
    obtain ⟨fu, rfl⟩ : ∃ f, fu = f + 1 := ⟨fu - 1, by simp at hf; omega⟩
    have e2 : v 1 290 = nI dn.length := by have := h.1; rw [List.append_nil] at this; exact this
    have hcmp : nI dn.length ≤ nI dn.length := by rw [q_le (by have := h.2.1; simp at this; omega) (by have := h.2.1; simp at this; omega)]; omega
    exact ⟨v, by rw [X5_looks_l23, m290, Option.bind_some, e2, if_pos hcmp], fun _ _ => rfl, fun d hd => hM d hd⟩
  | cons l rest ih =>
    intro fu v dn M hf h hl hM
    obtain ⟨fu, rfl⟩ : ∃ f, fu = f + 1 := ⟨fu - 1, by simp at hf; omega⟩
    have h40 : dn.length + (rest.length + 1) ≤ 40 := by
      have h2 : (dn ++ l :: rest).length ≤ 40 := h.2.1
      rw [List.length_append, List.length_cons] at h2; exact h2
    have e2 : v 1 290 = nI (dn.length + (rest.length + 1)) := by
      have h2 : v 1 290 = nI (dn ++ l :: rest).length := h.1
      rw [List.length_append, List.length_cons] at h2; exact h2
    have hcmp : ¬ nI (dn.length + (rest.length + 1)) ≤ nI dn.length := by rw [q_le (by omega) (by omega)]; omega
    have eL : lotM (v 1) dn.length = l := lotM_at h
    obtain ⟨d0, c0, k, n, a, p, e, h1, h2, h3, h4, h5, h6, h7, h8⟩ := hl l (List.mem_cons_self)
    have h' : LM (v 1) ((dn ++ [l]) ++ rest) := by rw [List.append_assoc]; exact h
    have k2 : v 1 (6 * dn.length + 2) = nI k := by
      have : (lotM (v 1) dn.length).2.2.1 = nI k := by rw [eL, e]
      exact this
    rw [X5_looks_l23, m290, Option.bind_some, e2, if_neg hcmp, q_of2 v (by omega), Option.bind_some, k2]
    by_cases c1 : nI k = kd
    · have k0 : v 1 (6 * dn.length + 0) = nI d0 := by
        have : (lotM (v 1) dn.length).1 = nI d0 := by rw [eL, e]
        exact this
      have k1 : v 1 (6 * dn.length + 1) = nI c0 := by
        have : (lotM (v 1) dn.length).2.1 = nI c0 := by rw [eL, e]
        exact this
      rw [if_pos c1, q_of0 v (by omega), Option.bind_some, k0, q_ld (by omega) (by decide), Option.bind_some, q_of1 v (by omega), Option.bind_some, k1, q_st (by omega) (by decide), Option.bind_some]
      obtain ⟨w, w1, w2, w3⟩ := ih fu (setA v 9 (upd (v 9) d0 (v 9 d0 ||| ((1 : Int32) <<< (nI c0 &&& 31))))) (dn ++ [l]) (fun d c => M d c + (if d0 = d ∧ c0 = c then n else 0)) (by simp at hf; omega) (by rw [q_sN v _ (by decide)]; exact h') (fun x hx => hl x (List.mem_cons_of_mem _ hx)) (by
        intro d hd
        rw [q_sA]
        by_cases z : d = d0
        · subst z
          rw [q_up]
          refine ((hM d hd).or (MKS.one (y := c0) (by omega))).cong (fun c _ => ?_)
          show 0 < M d c ∨ c = c0 ↔ 0 < M d c + (if d = d ∧ c0 = c then n else 0)
          by_cases z2 : c0 = c
          · rw [if_pos ⟨rfl, z2⟩]; constructor
            · intro _; omega
            · intro _; exact Or.inr z2.symm
          · rw [if_neg (fun y => z2 y.2)]; constructor
            · rintro (y | y)
              · omega
              · exact absurd y.symm z2
            · intro y; exact Or.inl (by omega)
        · rw [q_un z]
          exact (hM d hd).cong (fun c _ => by
            show 0 < M d c ↔ 0 < M d c + (if d0 = d ∧ c0 = c then n else 0)
            rw [if_neg (fun y => z y.1.symm)]; exact Iff.rfl))
      rw [List.length_append, List.length_singleton, ← q_1] at w1
      refine ⟨w, w1, fun r hr => (w2 r hr).trans (q_sN v _ hr), fun d hd => (w3 d hd).cong (fun c hc => ?_)⟩
      have ee : WN kd (l :: rest) d c = (if d0 = d ∧ c0 = c then n else 0) + WN kd rest d c := by
        show (if mtE (nI d) (nI c) kd l then l.2.2.2.1.toNatClampNeg else 0) + _ = _
        rw [e, mtE_nI (by omega) (by omega) (by omega) (by omega) c1]
        show (if _ then (nI n).toNatClampNeg else 0) + _ = _
        rw [nI_clamp (by omega)]
        by_cases z : d0 = d ∧ c0 = c
        · rw [if_pos z, decide_eq_true z.1, decide_eq_true z.2]; rfl
        · rw [if_neg z, if_neg (by rw [Bool.and_eq_true, decide_eq_true_eq, decide_eq_true_eq]; exact z)]; rfl
      show 0 < M d c + (if d0 = d ∧ c0 = c then n else 0) + WN kd rest d c ↔ 0 < M d c + WN kd (l :: rest) d c
      rw [ee, Nat.add_assoc]
    · rw [if_neg c1]
      obtain ⟨w, w1, w2, w3⟩ := ih fu v (dn ++ [l]) M (by simp at hf; omega) h' (fun x hx => hl x (List.mem_cons_of_mem _ hx)) hM
      rw [List.length_append, List.length_singleton, ← q_1] at w1
      refine ⟨w, w1, w2, fun d hd => (w3 d hd).cong (fun c hc => ?_)⟩
      have ee : WN kd (l :: rest) d c = WN kd rest d c := by
        show (if mtE (nI d) (nI c) kd l then l.2.2.2.1.toNatClampNeg else 0) + _ = _
        have : mtE (nI d) (nI c) kd l = false := by
          rw [e]
          show (_ && _ && decide (nI k = kd)) = false
          rw [decide_eq_false c1, Bool.and_false]
        rw [this, if_neg (by decide), Nat.zero_add]; rfl
      show 0 < M d c + WN kd rest d c ↔ 0 < M d c + WN kd (l :: rest) d c
      rw [ee]
theorem m_looks_z (kd : Int32) : ∀ (n fu i : Nat) (v : St), n < fu → i + n = 8 → (∀ j, j < i → v 9 j = 0) →
    ∃ w, X5_looks_l2 kd fu v (nI i) = X5_looks_l23 kd FU w 0 ∧ (∀ r, r ≠ 9 → w r = v r) ∧ ∀ j, j < 8 → w 9 j = 0 := by
  intro n
  induction n with
  | zero =>
    intro fu i v hf hi h
    obtain ⟨fu, rfl⟩ : ∃ f, fu = f + 1 := ⟨fu - 1, by omega⟩
    have : i = 8 := by omega
    subst this
    exact ⟨v, by rw [X5_looks_l2, if_pos (by decide)], fun _ _ => rfl, h⟩
  | succ n ih =>
    intro fu i v hf hi h
    obtain ⟨fu, rfl⟩ : ∃ f, fu = f + 1 := ⟨fu - 1, by omega⟩
    have hcmp : ¬ (8 : Int32) ≤ nI i := by
      have : ¬ nI 8 ≤ nI i := by rw [q_le (by decide) (by omega)]; omega
      exact this
    obtain ⟨w, w1, w2, w3⟩ := ih fu (i + 1) (setA v 9 (upd (v 9) i 0)) (by omega) (by omega) (by
      intro j hj
      rw [q_sA]
      by_cases z : j = i
      · subst z; exact q_up
      · rw [q_un z]; exact h j (by omega))
    refine ⟨w, ?_, fun r hr => (w2 r hr).trans (q_sN v _ hr), w3⟩
    rw [X5_looks_l2, if_neg hcmp, q_st (by omega) (by decide), Option.bind_some, q_1, w1]
theorem m_looks {v : St} {a : AS} (h : RM (v 1) a) (ho : OK a) (kd : Int32) : ∃ w, X5_looks v kd = some w ∧ (∀ r, r ≠ 9 → w r = v r) ∧ LKS w (WN kd a.1) := by
  obtain ⟨h40, P, h8, hP, hl, _⟩ := ho
  obtain ⟨w, w1, w2, w3⟩ := m_looks_z kd 8 FU 0 v (by decide) (by omega) (fun j hj => absurd hj (by omega))
  obtain ⟨u, u1, u2, u3⟩ := m_looks_l h8 (kd := kd) a.1 FU w [] (fun _ _ => 0) (by show _ < 2000; omega) (by rw [w2 1 (by decide)]; exact h.1) hl (fun d hd => by
    rw [w3 d hd]; exact MKS.zero.cong (fun c _ => by constructor
                                                     · intro z; exact z.elim
                                                     · intro z; exact absurd z (Nat.lt_irrefl 0)))
  refine ⟨u, ?_, fun r hr => (u2 r hr).trans (w2 r hr), fun d hd => (u3 d hd).cong (fun c _ => by
    show 0 < 0 + WN kd a.1 d c ↔ 0 < WN kd a.1 d c
    rw [Nat.zero_add])⟩
  rw [X5_looks]
  exact w1.trans u1

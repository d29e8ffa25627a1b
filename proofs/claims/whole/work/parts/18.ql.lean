/- measureSteps: the class's search from behind -/
theorem nodup_len : ∀ (n : Nat) (Q : List Nat), Q.Nodup → (∀ q ∈ Q, q < n) → Q.length ≤ n := by
  intro n
  induction n with
  | zero =>
    intro Q _ h
    cases Q with
    | nil => exact Nat.le_refl 0
    | cons q Q => exact absurd (h q (List.mem_cons_self)) (by omega)
  | succ n ih =>
    intro Q hn h
    have h1 := ih (Q.erase n) (hn.erase n) (fun q hq => by
      have := (hn.mem_erase_iff).mp hq
      have := h q this.2
      omega)
    have h2 : Q.length ≤ (Q.erase n).length + 1 := by
      rw [List.length_erase]; split <;> omega
    omega
def RQ (w : St) (W : Nat → Nat → Nat) (Q : List Nat) (D : Nat → Nat) : Prop := (∀ d c, d < 8 → c < 8 → w 1 (8 * d + c) = nI (W d c)) ∧ (∀ x, x < 8 → w 2 x = nI (D x)) ∧ (∀ i q, Q[i]? = some q → w 3 i = nI q) ∧ (∀ x, x < 8 → D x < 2 ^ 30) ∧ (∀ d c, d < 8 → c < 8 → W d c ≤ 1000)
theorem q_65 {W : Nat → Nat → Nat} {lo t h q : Nat} (ht : t < 8) (k38 : St → Int32 → Int32 → Option St) : ∀ (n fu j : Nat) (Q : List Nat) (D : Nat → Nat) (w : St), n < fu → j + n = 8 → lo ≤ j → Mid W lo t h q j Q D → RQ w W Q D → D q < 20 →
    ∃ Q' D' w', X3_measureSteps_l65 (nI t) (nI lo) k38 fu w (nI Q.length) (nI h) (nI q) (nI j) = k38 w' (nI Q'.length) (nI h + 1) ∧ Mid W lo t h q 8 Q' D' ∧ RQ w' W Q' D' ∧ (∀ r, r ≠ 2 → r ≠ 3 → w' r = w r) ∧ D' q = D q := by
  intro n
  induction n with
  | zero =>
    intro fu j Q D w hf hj hlo I R _
    obtain ⟨fu, rfl⟩ : ∃ f, fu = f + 1 := ⟨fu - 1, by omega⟩
    have : j = 8 := by omega
    subst this
    exact ⟨Q, D, w, by rw [X3_measureSteps_l65, if_pos (by decide)], I, R, fun _ _ _ => rfl, rfl⟩
  | succ n ih =>
    intro fu j Q D w hf hj hlo I R hD
    obtain ⟨fu, rfl⟩ : ∃ f, fu = f + 1 := ⟨fu - 1, by omega⟩
    have hcmp : ¬ (8 : Int32) ≤ nI j := by
      have : ¬ nI 8 ≤ nI j := by rw [q_le (by decide) (by omega)]; omega
      exact this
    have hq : q < 8 := I.lt q (List.mem_of_getElem? I.at_h)
    have skip : (j = t ∨ 0 < D j ∨ W j q = 0) → ∃ Q' D' w', X3_measureSteps_l65 (nI t) (nI lo) k38 fu w (nI Q.length) (nI h) (nI q) (nI j + 1) = k38 w' (nI Q'.length) (nI h + 1) ∧ Mid W lo t h q 8 Q' D' ∧ RQ w' W Q' D' ∧ (∀ r, r ≠ 2 → r ≠ 3 → w' r = w r) ∧ D' q = D q := by
      intro c
      rw [q_1]
      exact ih fu (j + 1) Q D w (by omega) (by omega) (by omega) (I.skip c) R hD
    rw [X3_measureSteps_l65, if_neg hcmp]
    by_cases c1 : j = t
    · rw [if_pos (by rw [c1])]
      exact skip (Or.inl c1)
    rw [if_neg (fun z => c1 ((nI_eq (by omega) (by omega)).mp z)), q_at (by omega) (by decide), Option.bind_some, R.2.1 j (by omega)]
    by_cases c2 : D j = 0
    · rw [if_pos (by rw [c2]; rfl), c_owed R.1 (by omega) hq, Option.bind_some]
      have hW := R.2.2.2.2 j q (by omega) hq
      by_cases c3 : W j q = 0
      · rw [if_pos (by rw [c3]; decide)]
        exact skip (Or.inr (Or.inr c3))
      · have hl : Q.length < 8 := by
          have := nodup_len 8 (Q ++ [j]) (I.put (by omega) hlo c1 c2 (by omega)).nd (I.put (by omega) hlo c1 c2 (by omega)).lt
          rw [List.length_append, List.length_singleton] at this; omega
        have hneg : ¬ nI (W j q) ≤ (0 : Int32) := by
          have : ¬ nI (W j q) ≤ nI 0 := by rw [q_le (by omega) (by decide)]; omega
          exact this
        have R' : RQ (setA (setA w 2 (upd (w 2) j (nI (D q) + 1))) 3 (upd (w 3) Q.length (nI j))) W (Q ++ [j]) (updN D j (D q + 1)) := by
          refine ⟨R.1, fun x hx => ?_, fun i y e => ?_, fun x hx => ?_, R.2.2.2.2⟩
          · show upd (w 2) j (nI (D q) + 1) x = nI (if x = j then D q + 1 else D x)
            by_cases z : x = j
            · rw [if_pos z, z, q_up, q_1]
            · rw [if_neg z, q_un z]; exact R.2.1 x hx
          · show upd (w 3) Q.length (nI j) i = nI y
            by_cases z : i = Q.length
            · subst z
              rw [List.getElem?_append_right (Nat.le_refl _), Nat.sub_self] at e
              rw [q_up]; congr 1; exact Option.some.inj e
            · have hi : i < (Q ++ [j]).length := (List.getElem?_eq_some_iff.mp e).1
              rw [List.length_append, List.length_singleton] at hi
              rw [List.getElem?_append_left (by omega)] at e
              rw [q_un z]; exact R.2.2.1 i y e
          · show (if x = j then D q + 1 else D x) < _
            by_cases z : x = j
            · rw [if_pos z]; omega
            · rw [if_neg z]; exact R.2.2.2.1 x hx
        have eq : updN D j (D q + 1) q = D q := if_neg (fun z : q = j => by
          have := (I.mem j (by omega) c1).mp (z ▸ List.mem_of_getElem? I.at_h); omega)
        have Dq : updN D j (D q + 1) q < 20 := by
          show (if q = j then D q + 1 else D q) < 20
          by_cases z : q = j
          · have := (I.mem j (by omega) c1).mp (z ▸ List.mem_of_getElem? I.at_h); omega
          · rw [if_neg z]; exact hD
        obtain ⟨Q', D', w', a1, a2, a3, a4, a5⟩ := ih fu (j + 1) (Q ++ [j]) (updN D j (D q + 1)) _ (by omega) (by omega) (by omega) (I.put (by omega) hlo c1 c2 (by omega)) R' Dq
        rw [List.length_append, List.length_singleton, ← q_1, ← q_1] at a1
        refine ⟨Q', D', w', ?_, a2, a3, fun r h2 h3 => (a4 r h2 h3).trans ((q_sN _ _ h3).trans (q_sN _ _ h2)), a5.trans eq⟩
        rw [if_neg hneg, q_at hq (by decide), Option.bind_some, q_put (by omega) (by decide), Option.bind_some, q_put hl (by decide), Option.bind_some, R.2.1 q hq]
        exact a1
    · have hz : ¬ nI (D j) = 0 := by
        intro z
        exact c2 ((nI_eq (by have := R.2.2.2.1 j (by omega); omega) (by decide)).mp z)
      rw [if_neg hz]
      exact skip (Or.inr (Or.inl (by omega)))
theorem q_38 {W : Nat → Nat → Nat} {lo t : Nat} (hlo : lo < 8) (ht : t < 8) : ∀ (n fu h : Nat) (Q : List Nat) (D : Nat → Nat) (w : St), n < fu → h + n = 8 → Inv W lo t h Q D → RQ w W Q D → (∀ q, Q[h]? = some q → D q ≤ h) →
    ∃ Q' D' w' h', X3_measureSteps_l38 (nI t) (nI lo) fu w (nI Q.length) (nI h) = some w' ∧ Inv W lo t h' Q' D' ∧ Q'.length ≤ h' ∧ RQ w' W Q' D' ∧ (∀ r, r ≠ 2 → r ≠ 3 → w' r = w r) := by
  intro n
  induction n with
  | zero =>
    intro fu h Q D w hf hj I R _
    obtain ⟨fu, rfl⟩ : ∃ f, fu = f + 1 := ⟨fu - 1, by omega⟩
    have : h = 8 := by omega
    subst this
    exact ⟨Q, D, w, 8, by rw [X3_measureSteps_l38, if_pos (by decide)], I, nodup_len 8 Q I.nd I.lt, R, fun _ _ _ => rfl⟩
  | succ n ih =>
    intro fu h Q D w hf hj I R hD
    obtain ⟨fu, rfl⟩ : ∃ f, fu = f + 1 := ⟨fu - 1, by omega⟩
    have hl := nodup_len 8 Q I.nd I.lt
    have hcmp : ¬ (8 : Int32) ≤ nI h := by
      have : ¬ nI 8 ≤ nI h := by rw [q_le (by decide) (by omega)]; omega
      exact this
    rw [X3_measureSteps_l38, if_neg hcmp]
    by_cases c : Q.length ≤ h
    · rw [if_pos (by rw [q_le (by omega) (by omega)]; exact c)]
      exact ⟨Q, D, w, h, rfl, I, c, R, fun _ _ _ => rfl⟩
    · rw [if_neg (by rw [q_le (by omega) (by omega)]; exact c), q_at (by omega) (by decide), Option.bind_some]
      obtain ⟨q, e⟩ : ∃ q, Q[h]? = some q := ⟨Q[h]'(by omega), List.getElem?_eq_getElem _⟩
      have hq := hD q e
      rw [R.2.2.1 h q e]
      obtain ⟨Q', D', w', a1, a2, a3, a4, a5⟩ := q_65 ht (X3_measureSteps_l38 (nI t) (nI lo) fu) (8 - lo) FU lo Q D w (by show _ < 2000; omega) (by omega) (Nat.le_refl _) (I.mid e) R (by omega)
      obtain ⟨Q2, D2, w2, h2, b1, b2, b3, b4, b5⟩ := ih fu (h + 1) Q' D' w' (by omega) (by omega) a2.out a3 (fun q' e' => by
        have := a2.bd q' (List.mem_of_getElem? e'); omega)
      rw [← q_1] at b1
      exact ⟨Q2, D2, w2, h2, a1.trans b1, b2, b3, b4, fun r x y => (b5 r x y).trans (a4 r x y)⟩

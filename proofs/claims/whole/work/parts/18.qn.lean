/- the shortest ring from one pupil: class -/
def mn0 (x y : Nat) : Nat := if x = 0 then y else if x ≤ y then x else y
def sfS (W : Nat → Nat → Nat) (D : Nat → Nat) (s : Nat) : Nat → Nat → Nat → Nat
  | 0, _, m => m
  | n + 1, x, m => sfS W D s n (x + 1) (if D x = 0 ∨ W s x = 0 then m else mn0 m (D x + 1))
theorem q_sf {W : Nat → Nat → Nat} {D : Nat → Nat} {s : Nat} (hs : s < 8) {w : St} (hW : ∀ d c, d < 8 → c < 8 → w 1 (8 * d + c) = nI (W d c)) (hb : ∀ d c, d < 8 → c < 8 → W d c ≤ 1000) (hD : ∀ x, x < 8 → w 2 x = nI (D x)) (hd : ∀ x, x < 8 → D x < 2 ^ 30) :
    ∀ (n fu x m : Nat), n < fu → x + n = 8 → m < 2 ^ 30 + 1 → X3_shortestFrom_l6 w (nI s) fu (nI m) (nI x) = some (nI (sfS W D s n x m)) := by
  intro n
  induction n with
  | zero =>
    intro fu x m hf hx hm
    obtain ⟨fu, rfl⟩ : ∃ f, fu = f + 1 := ⟨fu - 1, by omega⟩
    have : x = 8 := by omega
    subst this
    rw [X3_shortestFrom_l6, if_pos (by decide)]; rfl
  | succ n ih =>
    intro fu x m hf hx hm
    obtain ⟨fu, rfl⟩ : ∃ f, fu = f + 1 := ⟨fu - 1, by omega⟩
    have hcmp : ¬ (8 : Int32) ≤ nI x := by
      have : ¬ nI 8 ≤ nI x := by rw [q_le (by decide) (by omega)]; omega
      exact this
    have hdx := hd x (by omega)
    have h1 : (nI (D x + 1) ≤ (1 : Int32)) = (D x + 1 ≤ 1) := q_le (b := 1) (by omega) (by decide)
    have h2 : (nI (W s x) ≤ (0 : Int32)) = (W s x ≤ 0) := q_le (b := 0) (by have := hb s x hs (by omega); omega) (by decide)
    have h3 : (nI m = (0 : Int32)) = (m = 0) := propext (nI_eq (b := 0) (by omega) (by decide))
    rw [X3_shortestFrom_l6, if_neg hcmp, q_at (by omega) (by decide), Option.bind_some, hD x (by omega), q_1]
    unfold sfS
    have sk : X3_shortestFrom_b43 w (nI s) (X3_shortestFrom_l6 w (nI s) fu) (nI m) (nI x) (nI (D x + 1)) = some (nI (sfS W D s n (x + 1) m)) := by
      rw [X3_shortestFrom_b43, X3_shortestFrom_b44, if_pos rfl, q_1]
      exact ih fu (x + 1) m (by omega) (by omega) hm
    by_cases c1 : D x = 0
    · rw [if_pos (show nI (D x + 1) ≤ (1 : Int32) by rw [h1]; omega), if_pos (Or.inl c1)]; exact sk
    · rw [if_neg (show ¬ nI (D x + 1) ≤ (1 : Int32) by rw [h1]; omega), c_owed hW hs (by omega), Option.bind_some]
      by_cases c2 : W s x = 0
      · rw [if_pos (show nI (W s x) ≤ (0 : Int32) by rw [h2]; omega), if_pos (Or.inr c2)]; exact sk
      · rw [if_neg (show ¬ nI (W s x) ≤ (0 : Int32) by rw [h2]; omega), if_neg (by omega), X3_shortestFrom_b44, if_neg (by decide), q_1]
        unfold mn0
        by_cases c3 : m = 0
        · rw [if_pos (h3.mpr c3), if_pos c3]; exact ih fu (x + 1) _ (by omega) (by omega) (by omega)
        · rw [if_neg (fun z => c3 (h3.mp z)), if_neg c3]
          have h4 : (nI m ≤ nI (D x + 1)) = (m ≤ D x + 1) := q_le (by omega) (by omega)
          by_cases c4 : m ≤ D x + 1
          · rw [if_pos (h4.mpr c4), if_pos c4]; exact ih fu (x + 1) _ (by omega) (by omega) hm
          · rw [if_neg (fun z => c4 (h4.mp z)), if_neg c4]; exact ih fu (x + 1) _ (by omega) (by omega) (by omega)

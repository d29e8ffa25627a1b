/- findNext: the loop over the starts -/
theorem q_l16 {W : Nat → Nat → Nat} (hb : ∀ d c, d < 8 → c < 8 → W d c ≤ 1000) (v : St) (kd : Int32) : ∀ (n fu x : Nat) (o : Option Nat) (len : Nat) (u : St), n < fu → x + n = 8 → BS W x o len → len < 2 ^ 30 + 1 →
    (∀ d c, d < 8 → c < 8 → u 1 (8 * d + c) = nI (W d c)) → u 99 4 = nI len → (∀ b, o = some b → b < 8) →
    ∃ u' o' len', X3_findNext_l16 v kd fu u (oI o) (nI x) = X3_findNext_b72 v kd u' (oI o') ∧ BS W 8 o' len' ∧ len' < 2 ^ 30 + 1 ∧ (∀ d c, d < 8 → c < 8 → u' 1 (8 * d + c) = nI (W d c)) ∧ u' 99 4 = nI len' := by
  intro n
  induction n with
  | zero =>
    intro fu x o len u hf hx B hl hW h4 _
    obtain ⟨fu, rfl⟩ : ∃ f, fu = f + 1 := ⟨fu - 1, by omega⟩
    have : x = 8 := by omega
    subst this
    exact ⟨u, o, len, by rw [X3_findNext_l16, if_pos (by decide)], B, hl, hW, h4⟩
  | succ n ih =>
    intro fu x o len u hf hx B hl hW h4 ho
    obtain ⟨fu, rfl⟩ : ∃ f, fu = f + 1 := ⟨fu - 1, by omega⟩
    have hcmp : ¬ (8 : Int32) ≤ nI x := by
      have : ¬ nI 8 ≤ nI x := by rw [q_le (by decide) (by omega)]; omega
      exact this
    obtain ⟨w, L, e1, e2, hL, hl2, hr⟩ := q_len (s := x) (by omega) hW hb
    have hW' : ∀ d c, d < 8 → c < 8 → w 1 (8 * d + c) = nI (W d c) := fun d c a b => by rw [hr 1 (by decide) (by decide)]; exact hW d c a b
    have h4' : w 99 4 = nI len := by rw [hr 99 (by decide) (by decide)]; exact h4
    have hL0 : (nI L ≤ (0 : Int32)) = (L ≤ 0) := q_le (b := 0) (by omega) (by decide)
    rw [X3_findNext_l16, if_neg hcmp, e1, Option.bind_some, e2, Option.bind_some, q_1]
    by_cases c1 : L = 0
    · rw [if_pos (show nI L ≤ (0 : Int32) by rw [hL0]; omega)]
      exact ih fu (x + 1) o len w (by omega) (by omega) (B.skip hL (Or.inl c1)) hl hW' h4' ho
    · rw [if_neg (show ¬ nI L ≤ (0 : Int32) by rw [hL0]; omega)]
      have take : (o = none ∨ L < len) → ∃ u' o' len', X3_findNext_b57 v kd (X3_findNext_l16 v kd fu) w (nI x) (nI L) = X3_findNext_b72 v kd u' (oI o') ∧ BS W 8 o' len' ∧ len' < 2 ^ 30 + 1 ∧ (∀ d c, d < 8 → c < 8 → u' 1 (8 * d + c) = nI (W d c)) ∧ u' 99 4 = nI len' := by
        intro c
        rw [X3_findNext_b57, q_1]
        exact ih fu (x + 1) (some x) L (setI w 4 (nI L)) (by omega) (by omega) (B.put hL (by omega) c) hl2 (fun d c a b => by rw [setI_r (by decide)]; exact hW' d c a b) setI_s (fun b e => by cases e; omega)
      cases o with
      | none => rw [if_pos (show oI none < 0 by decide)]; exact take (Or.inl rfl)
      | some b =>
        rw [if_neg (show ¬ oI (some b) < 0 from nI_pos (by have := ho b rfl; omega)), h4']
        have hc : (nI len ≤ nI L) = (len ≤ L) := q_le (by omega) (by omega)
        by_cases c2 : len ≤ L
        · rw [if_pos (hc.mpr c2)]
          exact ih fu (x + 1) (some b) len w (by omega) (by omega) (B.skip hL (Or.inr ⟨b, rfl, c2⟩)) hl hW' h4' ho
        · rw [if_neg (fun z => c2 (hc.mp z))]
          exact take (Or.inr (by omega))

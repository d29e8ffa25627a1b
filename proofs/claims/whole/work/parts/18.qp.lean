/- the first place below 8 where p holds -/
def fst8 (p : Nat → Bool) : Nat → Nat → Option Nat
  | 0, _ => none
  | n + 1, x => if p x = true then some x else fst8 p n (x + 1)
theorem fst8_cong {p q : Nat → Bool} : ∀ (n x : Nat), (∀ y, x ≤ y → y < x + n → p y = q y) → fst8 p n x = fst8 q n x := by
  intro n
  induction n with
  | zero => intro x _; rfl
  | succ n ih =>
    intro x h
    unfold fst8
    rw [h x (Nat.le_refl _) (by omega), ih (x + 1) (fun y a b => h y (by omega) (by omega))]
theorem fst8_some {p : Nat → Bool} : ∀ (n x y : Nat), x ≤ y → y < x + n → p y = true → ∃ z, fst8 p n x = some z ∧ p z = true ∧ x ≤ z ∧ z ≤ y := by
  intro n
  induction n with
  | zero => intro x y h1 h2 _; omega
  | succ n ih =>
    intro x y h1 h2 hp
    unfold fst8
    by_cases c : p x = true
    · rw [if_pos c]; exact ⟨x, rfl, c, Nat.le_refl _, h1⟩
    · rw [if_neg c]
      have : x ≠ y := fun z => c (z ▸ hp)
      obtain ⟨z, a, b, c1, d⟩ := ih (x + 1) y (by omega) (by omega) hp
      exact ⟨z, a, b, by omega, d⟩
theorem lwS_fst8 {W : Nat → Nat → Nat} {D : Nat → Nat} {s j : Nat} : ∀ (n x : Nat), lwS W D s j n x = fst8 (fun y => decide (D y = j ∧ 0 < W s y)) n x := by
  intro n
  induction n with
  | zero => intro x; rfl
  | succ n ih =>
    intro x
    unfold lwS fst8
    rw [ih (x + 1)]
    by_cases c : D x = j ∧ 0 < W s x
    · rw [if_pos c, if_pos (decide_eq_true c)]
    · rw [if_neg c, if_neg (by rw [decide_eq_false c]; decide)]

/- the first place below 8 where p holds -/
def fst8 (p : Nat → Bool) : Nat → Nat → Option Nat
  | 0, _ => none
  | n + 1, x => if p x = true then some x else fst8 p n (x + 1)
theorem fst8_cong {p q : Nat → Bool} : ∀ (n x : Nat), (∀ y, x ≤ y → y < x + n → p y = q y) → fst8 p n x = fst8 q n x := by
  intro n
  induction n with
  | zero => intro x _; rfl
  | succ n ih =>
    intro x h
    unfold fst8
    rw [h x (Nat.le_refl _) (by omega), ih (x + 1) (fun y a b => h y (by omega) (by omega))]
theorem fst8_some {p : Nat → Bool} : ∀ (n x y : Nat), x ≤ y → y < x + n → p y = true → ∃ z, fst8 p n x = some z ∧ p z = true ∧ x ≤ z ∧ z ≤ y := by
  intro n
  induction n with
  | zero => intro x y h1 h2 _; omega
  | succ n ih =>
    intro x y h1 h2 hp
    unfold fst8
    by_cases c : p x = true
    · rw [if_pos c]; exact ⟨x, rfl, c, Nat.le_refl _, h1⟩
    · rw [if_neg c]
      have : x ≠ y := fun z => c (z ▸ hp)
      obtain ⟨z, a, b, c1, d⟩ := ih (x + 1) y (by omega) (by omega) hp
      exact ⟨z, a, b, by omega, d⟩
theorem lwS_fst8 {W : Nat → Nat → Nat} {D : Nat → Nat} {s j : Nat} : ∀ (n x : Nat), lwS W D s j n x = fst8 (fun y => decide (D y = j ∧ 0 < W s y)) n x := by
  intro n
  induction n with
  | zero => intro x; rfl
  | succ n ih =>
    intro x
    unfold lwS fst8
    rw [ih (x + 1)]
    by_cases c : D x = j ∧ 0 < W s x
    · rw [if_pos c, if_pos (decide_eq_true c)]
    · rw [if_neg c, if_neg (by rw [decide_eq_false c]; decide)]
theorem sfS_spec {W : Nat → Nat → Nat} {D : Nat → Nat} {s : Nat} : ∀ (n x m : Nat),
    (∀ y, x ≤ y → y < x + n → 0 < D y → 0 < W s y → 0 < sfS W D s n x m ∧ sfS W D s n x m ≤ D y + 1) ∧ (0 < m → 0 < sfS W D s n x m ∧ sfS W D s n x m ≤ m) ∧
    (0 < sfS W D s n x m → sfS W D s n x m = m ∨ ∃ y, x ≤ y ∧ y < x + n ∧ 0 < D y ∧ 0 < W s y ∧ sfS W D s n x m = D y + 1) := by
  intro n
  induction n with
  | zero => intro x m; exact ⟨fun y a b => by omega, fun h => ⟨h, Nat.le_refl _⟩, fun _ => Or.inl rfl⟩
  | succ n ih =>
    intro x m
    unfold sfS
    by_cases c : D x = 0 ∨ W s x = 0
    · rw [if_pos c]
      obtain ⟨i1, i2, i3⟩ := ih (x + 1) m
      refine ⟨fun y a b h1 h2 => i1 y (by
        have : x ≠ y := fun z => by subst z; omega
        omega) (by omega) h1 h2, i2, fun h => ?_⟩
      rcases i3 h with h | ⟨y, a, b, h⟩
      · exact Or.inl h
      · exact Or.inr ⟨y, by omega, by omega, h⟩
    · rw [if_neg c]
      have hm : 0 < mn0 m (D x + 1) ∧ mn0 m (D x + 1) ≤ D x + 1 ∧ (0 < m → mn0 m (D x + 1) ≤ m) ∧ (mn0 m (D x + 1) = m ∨ mn0 m (D x + 1) = D x + 1) := by
        unfold mn0; split
        · refine ⟨by omega, by omega, fun h => by omega, Or.inr rfl⟩
        · split
          · exact ⟨by omega, by omega, fun _ => Nat.le_refl _, Or.inl rfl⟩
          · exact ⟨by omega, by omega, fun _ => by omega, Or.inr rfl⟩
      obtain ⟨i1, i2, i3⟩ := ih (x + 1) (mn0 m (D x + 1))
      have i2 := i2 hm.1
      refine ⟨fun y a b h1 h2 => ?_, fun h => ⟨i2.1, by have := hm.2.2.1 h; omega⟩, fun h => ?_⟩
      · by_cases z : y = x
        · subst z; exact ⟨i2.1, by omega⟩
        · exact i1 y (by omega) (by omega) h1 h2
      · rcases i3 h with h | ⟨y, a, b, h⟩
        · rcases hm.2.2.2 with e | e
          · exact Or.inl (h.trans e)
          · exact Or.inr ⟨x, by omega, by omega, by omega, by omega, h.trans e⟩
        · exact Or.inr ⟨y, by omega, by omega, h⟩

/- the start of the next ring: class -/
/- best start so far: x3 (none = -1), its length in 99 4 -/
def BS (W : Nat → Nat → Nat) (x : Nat) (o : Option Nat) (len : Nat) : Prop :=
  match o with
  | none => len = 0 ∧ ∀ s, s < x → LX W s 0
  | some b => b < x ∧ 0 < len ∧ LX W b len ∧ (∀ s, s < b → ∀ L, LX W s L → 0 < L → len < L) ∧ ∀ s, s < x → ∀ L, LX W s L → 0 < L → len ≤ L
theorem LX.uniq {W : Nat → Nat → Nat} {s L M : Nat} (h : LX W s L) (k : LX W s M) : L = M := by
  have f : ∀ A B, LX W s A → LX W s B → 0 < A → 0 < B ∧ B ≤ A := by
    intro A B a b p
    obtain ⟨y, k, h1, h2, h3, h4, h5⟩ := a.1 p
    obtain ⟨q1, q2⟩ := b.2 y k h1 h2 h3 h4
    exact ⟨q1, by omega⟩
  rcases Nat.eq_zero_or_pos L with z | z
  · rcases Nat.eq_zero_or_pos M with z' | z'
    · omega
    · have := f M L k h z'; omega
  · have h1 := f L M h k z
    have h2 := f M L k h h1.1
    omega

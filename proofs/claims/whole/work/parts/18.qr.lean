/- the start of the next ring: class -/
/- best start so far: x3 (none = -1), its length in 99 4 -/
def BS (W : Nat → Nat → Nat) (x : Nat) (o : Option Nat) (len : Nat) : Prop :=
  match o with
  | none => len = 0 ∧ ∀ s, s < x → LX W s 0
  | some b => b < x ∧ 0 < len ∧ LX W b len ∧ (∀ s, s < b → ∀ L, LX W s L → 0 < L → len < L) ∧ ∀ s, s < x → ∀ L, LX W s L → 0 < L → len ≤ L
theorem LX.uniq {W : Nat → Nat → Nat} {s L M : Nat} (h : LX W s L) (k : LX W s M) : L = M := by
  have f : ∀ A B, LX W s A → LX W s B → 0 < A → 0 < B ∧ B ≤ A := by
    intro A B a b p
    obtain ⟨y, k, h1, h2, h3, h4, h5⟩ := a.1 p
    obtain ⟨q1, q2⟩ := b.2 y k h1 h2 h3 h4
    exact ⟨q1, by omega⟩
  rcases Nat.eq_zero_or_pos L with z | z
  · rcases Nat.eq_zero_or_pos M with z' | z'
    · omega
    · have := f M L k h z'; omega
  · have h1 := f L M h k z
    have h2 := f M L k h h1.1
    omega
theorem BS.skip {W : Nat → Nat → Nat} {x : Nat} {o : Option Nat} {len L : Nat} (h : BS W x o len) (hL : LX W x L) (c : L = 0 ∨ (∃ b, o = some b ∧ len ≤ L)) : BS W (x + 1) o len := by
  cases o with
  | none =>
    obtain ⟨h1, h2⟩ := h
    refine ⟨h1, fun s hs => ?_⟩
    by_cases z : s = x
    · subst z
      rcases c with c | ⟨b, e, _⟩
      · rw [← c]; exact hL
      · cases e
    · exact h2 s (by omega)
  | some b =>
    obtain ⟨h1, h2, h3, h4, h5⟩ := h
    refine ⟨by omega, h2, h3, h4, fun s hs M hM hp => ?_⟩
    by_cases z : s = x
    · subst z
      have := hM.uniq hL
      rcases c with c | ⟨_, _, c⟩ <;> omega
    · exact h5 s (by omega) M hM hp
theorem BS.put {W : Nat → Nat → Nat} {x : Nat} {o : Option Nat} {len L : Nat} (h : BS W x o len) (hL : LX W x L) (hp : 0 < L) (c : o = none ∨ L < len) : BS W (x + 1) (some x) L := by
  cases o with
  | none =>
    obtain ⟨h1, h2⟩ := h
    refine ⟨by omega, hp, hL, fun s hs M hM hm => ?_, fun s hs M hM hm => ?_⟩
    · have := hM.uniq (h2 s hs); omega
    · by_cases z : s = x
      · subst z; have := hM.uniq hL; omega
      · have := hM.uniq (h2 s (by omega)); omega
  | some b =>
    obtain ⟨h1, h2, h3, h4, h5⟩ := h
    rcases c with c | c
    · cases c
    refine ⟨by omega, hp, hL, fun s hs M hM hm => ?_, fun s hs M hM hm => ?_⟩
    · have := h5 s hs M hM hm; omega
    · by_cases z : s = x
      · subst z; have := hM.uniq hL; omega
      · have := h5 s (by omega) M hM hm; omega

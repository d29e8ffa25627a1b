/- measureSteps: the class's search from behind -/
theorem nodup_len : ∀ (n : Nat) (Q : List Nat), Q.Nodup → (∀ q ∈ Q, q < n) → Q.length ≤ n := by
  intro n
  induction n with
  | zero =>
    intro Q _ h
    cases Q with
    | nil => exact Nat.le_refl 0
    | cons q Q => exact absurd (h q (List.mem_cons_self)) (by omega)
  | succ n ih =>
    intro Q hn h
    have h1 := ih (Q.erase n) (hn.erase n) (fun q hq => by
      have := (hn.mem_erase_iff).mp hq
      have := h q this.2
      omega)
    have h2 : Q.length ≤ (Q.erase n).length + 1 := by
      rw [List.length_erase]; split <;> omega
    omega
def RQ (w : St) (W : Nat → Nat → Nat) (Q : List Nat) (D : Nat → Nat) : Prop := (∀ d c, d < 8 → c < 8 → w 1 (8 * d + c) = nI (W d c)) ∧ (∀ x, x < 8 → w 2 x = nI (D x)) ∧ (∀ i q, Q[i]? = some q → w 3 i = nI q) ∧ (∀ x, x < 8 → D x < 2 ^ 30) ∧ (∀ d c, d < 8 → c < 8 → W d c ≤ 1000)

/- the pupil next on a ring: class -/
def lwS (W : Nat → Nat → Nat) (D : Nat → Nat) (s j : Nat) : Nat → Nat → Option Nat
  | 0, _ => none
  | n + 1, x => if D x = j ∧ 0 < W s x then some x else lwS W D s j n (x + 1)
def oI : Option Nat → Int32
  | none => -1
  | some x => nI x
theorem q_lw {W : Nat → Nat → Nat} {D : Nat → Nat} {s j : Nat} (hs : s < 8) (hj : j < 2 ^ 30) {w : St} (hW : ∀ d c, d < 8 → c < 8 → w 1 (8 * d + c) = nI (W d c)) (hb : ∀ d c, d < 8 → c < 8 → W d c ≤ 1000) (hD : ∀ x, x < 8 → w 2 x = nI (D x)) (hd : ∀ x, x < 8 → D x < 2 ^ 30) :
    ∀ (n fu x : Nat), n < fu → x + n = 8 → X3_lowestBehind_l2 w (nI s) (nI j) fu (nI x) = some (oI (lwS W D s j n x)) := by
  intro n
  induction n with
  | zero =>
    intro fu x hf hx
    obtain ⟨fu, rfl⟩ : ∃ f, fu = f + 1 := ⟨fu - 1, by omega⟩
    have : x = 8 := by omega
    subst this
    rw [X3_lowestBehind_l2, if_pos (by decide)]; rfl
  | succ n ih =>
    intro fu x hf hx
    obtain ⟨fu, rfl⟩ : ∃ f, fu = f + 1 := ⟨fu - 1, by omega⟩
    have hcmp : ¬ (8 : Int32) ≤ nI x := by
      have : ¬ nI 8 ≤ nI x := by rw [q_le (by decide) (by omega)]; omega
      exact this
    have hdx := hd x (by omega)
    have h2 : (nI (W s x) ≤ (0 : Int32)) = (W s x ≤ 0) := q_le (b := 0) (by have := hb s x hs (by omega); omega) (by decide)
    have h3 : (nI (D x) = nI j) = (D x = j) := propext (nI_eq (by omega) (by omega))
    have go := ih fu (x + 1) (by omega) (by omega)
    rw [X3_lowestBehind_l2, if_neg hcmp, q_at (by omega) (by decide), Option.bind_some, hD x (by omega), q_1]
    unfold lwS
    by_cases c1 : D x = j
    · rw [if_pos (h3.mpr c1), c_owed hW hs (by omega), Option.bind_some]
      by_cases c2 : W s x = 0
      · rw [if_pos (show nI (W s x) ≤ (0 : Int32) by rw [h2]; omega), if_neg (by omega)]; exact go
      · rw [if_neg (show ¬ nI (W s x) ≤ (0 : Int32) by rw [h2]; omega), if_pos ⟨c1, by omega⟩]; rfl
    · rw [if_neg (fun z => c1 (h3.mp z)), if_neg (fun z => c1 z.1)]; exact go

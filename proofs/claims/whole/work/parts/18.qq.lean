/- the length of the shortest ring from one pupil -/
def LX (W : Nat → Nat → Nat) (s L : Nat) : Prop :=
  (0 < L → ∃ y k, s < y ∧ y < 8 ∧ 0 < W s y ∧ Bk W s s k y ∧ L = k + 1) ∧ ∀ y k, s < y → y < 8 → 0 < W s y → Bk W s s k y → 0 < L ∧ L ≤ k + 1
theorem DX_L {W : Nat → Nat → Nat} {D : Nat → Nat} {s : Nat} (hs : s < 8) (h : DX W s s D) : LX W s (sfS W D s (7 - s) (s + 1) 0) := by
  obtain ⟨i1, _, i3⟩ := sfS_spec (W := W) (D := D) (s := s) (7 - s) (s + 1) 0
  refine ⟨fun hp => ?_, fun y k a b c d => ?_⟩
  · rcases i3 hp with e | ⟨y, a, b, c, d, e⟩
    · omega
    · exact ⟨y, D y, by omega, by omega, d, (h.2 y (by omega) (by omega)).1 c, e⟩
  · obtain ⟨x1, x2⟩ := (h.2 y b (by omega)).2 k d
    obtain ⟨y1, y2⟩ := i1 y (by omega) (by omega) x1 c
    exact ⟨y1, by omega⟩
theorem q_len {W : Nat → Nat → Nat} {s : Nat} (hs : s < 8) {w : St} (hW : ∀ d c, d < 8 → c < 8 → w 1 (8 * d + c) = nI (W d c)) (hb : ∀ d c, d < 8 → c < 8 → W d c ≤ 1000) :
    ∃ w' L, X3_measureSteps w (nI s) (nI s) = some w' ∧ X3_shortestFrom w' (nI s) = some (nI L) ∧ LX W s L ∧ L < 2 ^ 30 + 1 ∧ (∀ r, r ≠ 2 → r ≠ 3 → w' r = w r) := by
  obtain ⟨w', D, e, hx, h2, hd, hr⟩ := q_ms hs hs hW hb
  have hW' : ∀ d c, d < 8 → c < 8 → w' 1 (8 * d + c) = nI (W d c) := fun d c a b => by rw [hr 1 (by decide) (by decide)]; exact hW d c a b
  have e2 := q_sf hs hW' hb h2 hd (7 - s) FU (s + 1) 0 (by show _ < 2000; omega) (by omega) (by decide)
  have hL := DX_L hs hx
  refine ⟨w', _, e, ?_, hL, ?_, hr⟩
  · rw [X3_shortestFrom, q_1]; exact e2
  · rcases Nat.eq_zero_or_pos (sfS W D s (7 - s) (s + 1) 0) with z | z
    · rw [z]; decide
    · rcases (sfS_spec (W := W) (D := D) (s := s) (7 - s) (s + 1) 0).2.2 z with z | ⟨y, a, b, c, d, e⟩
      · rw [z]; decide
      · have := hd y (by omega); omega

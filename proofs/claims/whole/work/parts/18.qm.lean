/- measureSteps whole: D x is the least number of steps of x behind t, 0 where there are none -/
theorem q_ms_z {lo t : Nat} (hlo : lo < 8) (ht : t < 8) : ∀ (n fu i : Nat) (w : St), n < fu → i + n = 8 → (∀ j, j < i → w 2 j = 0) →
    ∃ w', X3_measureSteps_l2 (nI t) (nI lo) fu w (nI i) = X3_measureSteps_b24 (nI t) (nI lo) w' ∧ (∀ r, r ≠ 2 → w' r = w r) ∧ ∀ j, j < 8 → w' 2 j = 0 := by
  intro n
  induction n with
  | zero =>
    intro fu i w hf hi h
    obtain ⟨fu, rfl⟩ : ∃ f, fu = f + 1 := ⟨fu - 1, by omega⟩
    have : i = 8 := by omega
    subst this
    exact ⟨w, by rw [X3_measureSteps_l2, if_pos (by decide)], fun _ _ => rfl, h⟩
  | succ n ih =>
    intro fu i w hf hi h
    obtain ⟨fu, rfl⟩ : ∃ f, fu = f + 1 := ⟨fu - 1, by omega⟩
    have hcmp : ¬ (8 : Int32) ≤ nI i := by
      have : ¬ nI 8 ≤ nI i := by rw [q_le (by decide) (by omega)]; omega
      exact this
    obtain ⟨w', w1, w2, w3⟩ := ih fu (i + 1) (setA w 2 (upd (w 2) i 0)) (by omega) (by omega) (by
      intro j hj
      rw [q_sA]
      by_cases z : j = i
      · subst z; exact q_up
      · rw [q_un z]; exact h j (by omega))
    refine ⟨w', ?_, fun r hr => (w2 r hr).trans (q_sN w _ hr), w3⟩
    rw [X3_measureSteps_l2, if_neg hcmp, q_st (by omega) (by decide), Option.bind_some, q_1, w1]
/- D is exact -/
def DX (W : Nat → Nat → Nat) (lo t : Nat) (D : Nat → Nat) : Prop := D t = 0 ∧ ∀ x, x < 8 → x ≠ t → (0 < D x → Bk W lo t (D x) x) ∧ ∀ k, Bk W lo t k x → 0 < D x ∧ D x ≤ k
theorem q_ms {W : Nat → Nat → Nat} {lo t : Nat} (hlo : lo < 8) (ht : t < 8) {w : St} (hW : ∀ d c, d < 8 → c < 8 → w 1 (8 * d + c) = nI (W d c)) (hb : ∀ d c, d < 8 → c < 8 → W d c ≤ 1000) :
    ∃ w' D, X3_measureSteps w (nI t) (nI lo) = some w' ∧ DX W lo t D ∧ (∀ x, x < 8 → w' 2 x = nI (D x)) ∧ (∀ x, x < 8 → D x < 2 ^ 30) ∧ (∀ r, r ≠ 2 → r ≠ 3 → w' r = w r) := by
  obtain ⟨u, u1, u2, u3⟩ := q_ms_z hlo ht 8 FU 0 w (by decide) (by omega) (fun j hj => absurd hj (by omega))
  have R : RQ (setA u 3 (upd (u 3) 0 (nI t))) W [t] (fun _ => 0) := by
    refine ⟨fun d c hd hc => ?_, fun x hx => ?_, fun i q e => ?_, fun _ _ => (by decide : (0 : Nat) < 2 ^ 30), hb⟩
    · rw [q_sN u _ (by decide), u2 1 (by decide)]; exact hW d c hd hc
    · rw [q_sN u _ (by decide)]; exact u3 x hx
    · rw [q_sA]
      cases i with
      | zero => rw [q_up]; congr 1; exact Option.some.inj e
      | succ i => simp at e
  obtain ⟨Q, D, w', h', a1, a2, a3, a4, a5⟩ := q_38 hlo ht 8 FU 0 [t] (fun _ => 0) _ (by decide) (by omega) (Inv.init W lo ht) R (fun q _ => Nat.le_refl 0)
  refine ⟨w', D, ?_, ⟨a2.t0, fun x hx hxt => a2.exact a3 hx hxt⟩, a4.2.1, a4.2.2.2.1, fun r h2 h3 => ?_⟩
  · rw [X3_measureSteps]
    refine u1.trans ?_
    have e : X4_put (u 3) 8 (0 : Int32) (nI t) = some (upd (u 3) 0 (nI t)) := q_put (k := 0) (by decide) (by decide)
    rw [X3_measureSteps_b24, e, Option.bind_some]
    exact a1
  · rw [a5 r h2 h3, q_sN u _ h3, u2 r h2]

/- the loops over the lots at the end of a week; the week -/
def GG (P : Nat) (nu : Nat → Int32) (pu : Nat → Nat → Int32) : Prop := P ≤ 8 ∧ (∀ p, p < 8 → ∃ g : Nat, pu 5 p = nI g ∧ g ≤ P ∧ g ≠ p + 1) ∧ (∀ i, i < 4 → ∃ n : Nat, nu (20 + i) = nI n ∧ 1 ≤ n ∧ n ≤ 20)
def okA (P : Nat) (l : Lot) : Prop := ∃ d c k n a p : Nat, l = (nI d, nI c, nI k, nI n, nI a, nI p) ∧ d < P ∧ c < P ∧ d ≠ c ∧ k < 4 ∧ 1 ≤ n ∧ n ≤ 9 ∧ a ≤ 20 ∧ p ≤ 1
theorem okL.age {P : Nat} {l : Lot} (h : okL P l) : okA P (age l) := by
  obtain ⟨d, c, k, n, a, p, rfl, h1, h2, h3, h4, h5, h6, h7, h8⟩ := h
  refine ⟨d, c, k, n, a + 1, p, ?_, h1, h2, h3, h4, h5, h6, by omega, h8⟩
  show (nI d, nI c, nI k, nI n, nI a + 1, nI p) = _
  rw [q_1]
theorem lotS_row {l : Lot} {nu : Nat → Int32} {pu : Nat → Nat → Int32} : ((lotS l nu pu).2.2 5 = pu 5 ∧ (lotS l nu pu).2.2 3 = pu 3 ∧ (lotS l nu pu).2.2 7 = pu 7) ∧ ∀ i, i ≠ 6 → i ≠ 8 → (lotS l nu pu).2.1 i = nu i := by
  have u : ∀ (f : Nat → Nat → Int32) (r p : Nat) (x : Int32) (r' : Nat), r' ≠ r → updP f r p x r' = f r' := fun f r p x r' h => funext fun p' => updP_n (by omega)
  unfold lotS
  cases stays nu l with
  | true => exact ⟨⟨rfl, rfl, rfl⟩, fun _ _ _ => rfl⟩
  | false =>
    cases spoils pu l with
    | true =>
      refine ⟨?_, fun i h _ => q_un h⟩
      simp only [cond_true, cond_false, spoilS]
      refine ⟨?_, ?_, ?_⟩ <;> rw [u _ _ _ _ _ (by decide), u _ _ _ _ _ (by decide), u _ _ _ _ _ (by decide)]
    | false =>
      refine ⟨?_, fun i _ h => q_un h⟩
      simp only [cond_false, passS]
      refine ⟨?_, ?_, ?_⟩ <;> rw [u _ _ _ _ _ (by decide), u _ _ _ _ _ (by decide), u _ _ _ _ _ (by decide)]
theorem lotS_GG {P : Nat} {l : Lot} {nu : Nat → Int32} {pu : Nat → Nat → Int32} (h : GG P nu pu) : GG P (lotS l nu pu).2.1 (lotS l nu pu).2.2 :=
  ⟨h.1, by rw [lotS_row.1.1]; exact h.2.1, fun i hi => by rw [lotS_row.2 (20 + i) (by omega) (by omega)]; exact h.2.2 i hi⟩
theorem stays_nI {P : Nat} {nu : Nat → Int32} {pu : Nat → Nat → Int32} (G : GG P nu pu) {d c n p : Int32} {k a : Nat} (hk : k < 4) (ha : a ≤ 20) : ∃ s, nu (20 + k) = nI s ∧ s ≤ 20 ∧ stays nu (d, c, nI k, n, nI a, p) = decide (a < s) := by
  obtain ⟨s, e, _, hs⟩ := G.2.2 k hk
  refine ⟨s, e, hs, ?_⟩
  unfold stays
  show decide (nI a < nu (20 + ix (nI k))) = _
  rw [ix_nI (by omega), e]
  by_cases c : a < s
  · rw [decide_eq_true c, decide_eq_true (nI_lt c (by omega))]
  · rw [decide_eq_false c, decide_eq_false (nI_nlt (by omega) (by omega))]
def weekL : List Lot → (Nat → Int32) → (Nat → Nat → Int32) → List Lot × (Nat → Int32) × (Nat → Nat → Int32)
  | [], nu, pu => ([], nu, pu)
  | l :: ls, nu, pu => ((lotS l nu pu).1 :: (weekL ls (lotS l nu pu).2.1 (lotS l nu pu).2.2).1, (weekL ls (lotS l nu pu).2.1 (lotS l nu pu).2.2).2)
theorem c_week_l {P : Nat} : ∀ (rest : List Lot) (fu : Nat) (v : St) (dn : List Lot) (nu : Nat → Int32) (pu : Nat → Nat → Int32), rest.length < fu → RC v (dn ++ rest, nu, pu) → (∀ l ∈ rest, okL P l) → GG P nu pu →
    ∃ v', X0_endWeek_l19 fu v (nI dn.length) = some v' ∧ RC v' ((dn ++ (weekL (rest.map age) nu pu).1).filter pos, (weekL (rest.map age) nu pu).2) := by
  intro rest
  induction rest with
  | nil =>
    intro fu v dn nu pu hf h _ _
    obtain ⟨fu, rfl⟩ : ∃ f, fu = f + 1 := ⟨fu - 1, by simp at hf; omega⟩
    have e2 : v 1 2 = nI dn.length := by have := h.1.1; rw [List.append_nil] at this; exact this
    obtain ⟨v', e, h1, h2⟩ := q_drop h.1.1 h.1.2.1 h.1.2.2
    have r := RC.lots h h1 h2
    refine ⟨v', ?_, r⟩
    rw [X0_endWeek_l19, q_num2, Option.bind_some, e2, if_pos (nI_le (Nat.le_refl _) (by have := h.1.2.1; simp at this; omega)), X0_endWeek_b64, e, Option.bind_some]
  | cons l rest ih =>
    intro fu v dn nu pu hf h hl G
    obtain ⟨fu, rfl⟩ : ∃ f, fu = f + 1 := ⟨fu - 1, by simp at hf; omega⟩
    have h40 : dn.length + (rest.length + 1) ≤ 40 := by
      have h2 : (dn ++ l :: rest).length ≤ 40 := h.1.2.1
      rw [List.length_append, List.length_cons] at h2; exact h2
    have e2 : v 1 2 = nI (dn.length + (rest.length + 1)) := by
      have h2 : v 1 2 = nI (dn ++ l :: rest).length := h.1.1
      rw [List.length_append, List.length_cons] at h2; exact h2
    obtain ⟨d, c, k, n, a, p, e, h1, h2, h3, h4, h5, h6, h7, h8⟩ := hl l (List.mem_cons_self)
    obtain ⟨g, hg, hgP, _⟩ := G.2.1 d (by have := G.1; omega)
    have P8 := G.1
    have e12 : v 12 dn.length = nI a := by rw [(h.at (j := 4) (by decide) 0).1, e]; rfl
    have ra : RC (setA v 12 (upd (v 12) dn.length (nI a + 1))) (dn ++ setF l 4 (nI a + 1) :: rest, nu, pu) := (h.at (j := 4) (by decide) (nI a + 1)).2
    have ea : setF l 4 (nI a + 1) = age l := by rw [e]; rfl
    have eb : age l = (nI d, nI c, nI k, nI n, nI (a + 1), nI p) := by rw [← ea, e, q_1]; rfl
    rw [ea] at ra
    obtain ⟨s, es, hs, est⟩ := stays_nI G (d := nI d) (c := nI c) (n := nI n) (p := nI p) h4 (a := a + 1) (by omega)
    rw [← eb] at est
    have ew : X0_weeksLeft (setA v 12 (upd (v 12) dn.length (nI a + 1))) (nI dn.length) = some (nI s - nI (a + 1)) := by
      have q1 : (setA v 12 (upd (v 12) dn.length (nI a + 1))) 10 dn.length = nI k := by rw [(ra.at (j := 2) (by decide) 0).1, eb]; rfl
      have q2 : (setA v 12 (upd (v 12) dn.length (nI a + 1))) 12 dn.length = nI (a + 1) := by rw [(ra.at (j := 4) (by decide) 0).1, eb]; rfl
      have e20 : (20 : Int32) + nI k = nI (20 + k) := nI_add 20 k
      rw [X0_weeksLeft, q_at (by omega) (by decide), Option.bind_some, q1, e20, q_num _ (by omega), Option.bind_some, q_at (by omega) (by decide), Option.bind_some, q2, ra.2.1 (20 + k) (by omega) (by omega)]
      show some (nu (20 + k) - _) = _
      rw [es]
    have hw := wl ⟨s, by omega⟩ ⟨a + 1, by omega⟩
    have hcmp : ¬ nI (dn.length + (rest.length + 1)) ≤ nI dn.length := by rw [q_le (by omega) (by omega)]; omega
    have fin : ∀ (v2 : St) (r : LS3), lotS (age l) nu pu = r → RC v2 (dn ++ r.1 :: rest, r.2) → ∃ v', X0_endWeek_l19 fu v2 (nI dn.length + 1) = some v' ∧ RC v' ((dn ++ (weekL ((l :: rest).map age) nu pu).1).filter pos, (weekL ((l :: rest).map age) nu pu).2) := by
      rintro v2 _ rfl hr
      have G2 : GG P (lotS (age l) nu pu).2.1 (lotS (age l) nu pu).2.2 := lotS_GG G
      have := ih fu v2 (dn ++ [(lotS (age l) nu pu).1]) (lotS (age l) nu pu).2.1 (lotS (age l) nu pu).2.2 (by simp at hf; omega) (by rw [List.append_assoc]; exact hr) (fun x hx => hl x (List.mem_cons_of_mem _ hx)) G2
      rw [List.length_append, List.length_singleton, ← q_1, List.append_assoc] at this
      exact this
    rw [X0_endWeek_l19, q_num2, Option.bind_some, e2, if_neg hcmp, q_add (by omega) (by decide), Option.bind_some, e12, ew, Option.bind_some]
    by_cases c1 : 0 < nI s - nI (a + 1)
    · rw [if_pos c1]
      refine fin _ (age l, nu, pu) ?_ ra
      unfold lotS; rw [est, decide_eq_true (hw.mp c1)]; rfl
    · rw [if_neg c1]
      have est : stays nu (age l) = false := by rw [est]; exact decide_eq_false (fun z => c1 (hw.mpr z))
      rcases c_pass eb ra (by omega) (by omega) h8 hg (by omega) with ⟨s1, s2⟩ | ⟨s1, v2, s2, s3⟩
      · obtain ⟨v3, s3, s4⟩ := c_spoil eb ra (by omega) (by omega)
        rw [s2, Option.bind_some, if_pos rfl, s3, Option.bind_some]
        refine fin _ _ ?_ s4
        unfold lotS; rw [est, s1]; rfl
      · rw [s2, Option.bind_some, if_neg (show ¬ (1 : Int32) = 0 by decide)]
        refine fin _ _ ?_ s3
        unfold lotS; rw [est, s1]; rfl

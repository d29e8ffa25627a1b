/- the loops over the lots at the end of a week, reference; the week and the weeks, both sides -/
theorem nadd0 (x : Int32) : x + nI 0 = x := Int32.add_zero x
theorem addsub (x y : Int32) : x + y - x = y := by
  rw [Int32.add_comm, Int32.add_sub_cancel]
theorem lotS_six {P : Nat} {l : Lot} {nu : Nat → Int32} {pu : Nat → Nat → Int32} {d c k n a p : Nat} (e : l = (nI d, nI c, nI k, nI n, nI a, nI p)) : (lotS l nu pu).2.1 6 = (bif stays nu l then nu 6 else (bif spoils pu l then nu 6 + nI n else nu 6)) := by
  unfold lotS
  cases stays nu l with
  | true => rfl
  | false =>
    cases spoils pu l with
    | true => rw [e]; rfl
    | false => rfl
theorem m_week_l64 {P : Nat} : ∀ (rest : List Lot) (fu : Nat) (v : St) (dn : List Lot) (nu : Nat → Int32) (pu : Nat → Nat → Int32) (x1 : Int32), rest.length < fu → RM (v 1) (dn ++ rest, nu, pu) → (∀ l ∈ rest, okA P l) → GG P nu pu →
    ∃ v' s, s ≤ 9 * rest.length ∧ X5_week_l64 fu v x1 (nI dn.length) = some (x1 + nI s, v') ∧ RM (v' 1) ((dn ++ (weekL rest nu pu).1).filter pos, (weekL rest nu pu).2) ∧ (∀ r, r ≠ 1 → v' r = v r) ∧ (weekL rest nu pu).2.1 6 = nu 6 + nI s := by
  intro rest
  induction rest with
  | nil =>
    intro fu v dn nu pu x1 hf h _ _
    obtain ⟨fu, rfl⟩ : ∃ f, fu = f + 1 := ⟨fu - 1, by simp at hf; omega⟩
    have e2 : v 1 290 = nI dn.length := by have := h.1.1; rw [List.append_nil] at this; exact this
    obtain ⟨v', e, h1, h2⟩ := q_dropM h.1
    have r := RM.lots h h1 h2
    have hcmp : nI dn.length ≤ nI dn.length := by rw [q_le (by have := h.1.2.1; simp at this; omega) (by have := h.1.2.1; simp at this; omega)]; omega
    refine ⟨v', 0, by omega, ?_, r, h2.1, (nadd0 _).symm⟩
    rw [X5_week_l64, m290, Option.bind_some, e2, if_pos hcmp, X5_week_b118, e, Option.bind_some, nadd0]
  | cons l rest ih =>
    intro fu v dn nu pu x1 hf h hl G
    obtain ⟨fu, rfl⟩ : ∃ f, fu = f + 1 := ⟨fu - 1, by simp at hf; omega⟩
    have h40 : dn.length + (rest.length + 1) ≤ 40 := by
      have h2 : (dn ++ l :: rest).length ≤ 40 := h.1.2.1
      rw [List.length_append, List.length_cons] at h2; exact h2
    have e2 : v 1 290 = nI (dn.length + (rest.length + 1)) := by
      have h2 : v 1 290 = nI (dn ++ l :: rest).length := h.1.1
      rw [List.length_append, List.length_cons] at h2; exact h2
    obtain ⟨d, c, k, n, a, p, e, h1, h2, h3, h4, h5, h6, h7, h8⟩ := hl l (List.mem_cons_self)
    obtain ⟨g, hg, hgP, _⟩ := G.2.1 d (by have := G.1; omega)
    have P8 := G.1
    have e4 : v 1 (6 * dn.length + 4) = nI a := by rw [(h.at (j := 4) (by decide) 0).1, e]; rfl
    have e3 : v 1 (6 * dn.length + 2) = nI k := by rw [(h.at (j := 2) (by decide) 0).1, e]; rfl
    obtain ⟨s, es, hs, est⟩ := stays_nI G (d := nI d) (c := nI c) (n := nI n) (p := nI p) h4 (a := a) (by omega)
    rw [← e] at est
    have hcmp : ¬ nI (dn.length + (rest.length + 1)) ≤ nI dn.length := by rw [q_le (by omega) (by omega)]; omega
    have e20 : (298 : Int32) + nI k = nI (298 + k) := nI_add 298 k
    have mp : mapN (20 + k) = 298 + k := by unfold mapN; rw [if_neg (by omega), if_neg (by omega)]; omega
    have e6 : v 1 (298 + k) = nI s := by rw [← mp, h.2.1 (20 + k) (Or.inr (Or.inr (by omega)))]; exact es
    have six := lotS_six (P := P) (nu := nu) (pu := pu) e
    have fin : ∀ (v2 : St) (r : LS3) (m : Nat), lotS l nu pu = r → m ≤ 9 → r.2.1 6 = nu 6 + nI m → (∀ r, r ≠ 1 → v2 r = v r) → RM (v2 1) (dn ++ r.1 :: rest, r.2) → ∃ v' s, s ≤ 9 * (l :: rest).length ∧ X5_week_l64 fu v2 (x1 + nI m) (nI dn.length + 1) = some (x1 + nI s, v') ∧ RM (v' 1) ((dn ++ (weekL (l :: rest) nu pu).1).filter pos, (weekL (l :: rest) nu pu).2) ∧ (∀ r, r ≠ 1 → v' r = v r) ∧ (weekL (l :: rest) nu pu).2.1 6 = nu 6 + nI s := by
      rintro v2 _ m rfl hm h6 hv hr
      have G2 : GG P (lotS l nu pu).2.1 (lotS l nu pu).2.2 := lotS_GG G
      obtain ⟨v', s, a1, a2, a3, a4, a5⟩ := ih fu v2 (dn ++ [(lotS l nu pu).1]) (lotS l nu pu).2.1 (lotS l nu pu).2.2 (x1 + nI m) (by simp at hf; omega) (by rw [List.append_assoc]; exact hr) (fun x hx => hl x (List.mem_cons_of_mem _ hx)) G2
      rw [List.length_append, List.length_singleton, ← q_1] at a2
      rw [List.append_assoc] at a3
      rw [Int32.add_assoc, nI_add] at a2
      rw [h6, Int32.add_assoc, nI_add] at a5
      exact ⟨v', m + s, by rw [List.length_cons]; omega, a2, a3, fun r hr => (a4 r hr).trans (hv r hr), a5⟩
    rw [X5_week_l64, m290, Option.bind_some, e2, if_neg hcmp, q_of4 _ (by omega), Option.bind_some, q_of2 _ (by omega), Option.bind_some, e4, e3, e20, q_ld (by omega) (by decide), Option.bind_some, e6]
    by_cases c1 : a < s
    · rw [if_pos (nI_lt c1 (by omega))]
      rw [decide_eq_true c1] at est
      rw [est] at six
      exact fin v (l, nu, pu) 0 (by unfold lotS; rw [est]; rfl) (by omega) (nadd0 _).symm (fun _ _ => rfl) h
    · rw [if_neg (nI_nlt (by omega) (by omega))]
      rw [decide_eq_false c1] at est
      rw [est] at six
      obtain ⟨v2, x, b1, b2, b3, b4⟩ := m_ends e h (by omega) (by omega) h8 hg (by omega)
      rw [b1, Option.bind_some, b4]
      have el : lotS l nu pu = (bif spoils pu l then spoilS l nu pu else passS l nu pu) := by unfold lotS; rw [est]; rfl
      rw [← el] at b2
      cases hsp : spoils pu l with
      | true =>
        rw [hsp] at six
        exact fin v2 _ n rfl (by omega) six b3 b2
      | false =>
        rw [hsp] at six
        exact fin v2 _ 0 rfl (by omega) (six.trans (nadd0 _).symm) b3 b2

/- the week, both sides -/
theorem m_week_l30 : ∀ (rest : List Lot) (fu : Nat) (v : St) (dn : List Lot) (nu : Nat → Int32) (pu : Nat → Nat → Int32) (x1 : Int32), rest.length < fu → RM (v 1) (dn ++ rest, nu, pu) →
    ∃ v2, X5_week_l30 fu v x1 (nI dn.length) = X5_week_l64 FU v2 x1 0 ∧ RM (v2 1) (dn ++ rest.map age, nu, pu) ∧ (∀ r, r ≠ 1 → v2 r = v r) := by
  intro rest
  induction rest with
  | nil =>
    intro fu v dn nu pu x1 hf h
    obtain ⟨fu, rfl⟩ : ∃ f, fu = f + 1 := ⟨fu - 1, by simp at hf; omega⟩
    have e2 : v 1 290 = nI dn.length := by have := h.1.1; rw [List.append_nil] at this; exact this
    have hcmp : nI dn.length ≤ nI dn.length := by rw [q_le (by have := h.1.2.1; simp at this; omega) (by have := h.1.2.1; simp at this; omega)]; omega
    exact ⟨v, by rw [X5_week_l30, m290, Option.bind_some, e2, if_pos hcmp], h, fun _ _ => rfl⟩
  | cons l rest ih =>
    intro fu v dn nu pu x1 hf h
    obtain ⟨fu, rfl⟩ : ∃ f, fu = f + 1 := ⟨fu - 1, by simp at hf; omega⟩
    have h40 : dn.length + (rest.length + 1) ≤ 40 := by
      have h2 : (dn ++ l :: rest).length ≤ 40 := h.1.2.1
      rw [List.length_append, List.length_cons] at h2; exact h2
    have e2 : v 1 290 = nI (dn.length + (rest.length + 1)) := by
      have h2 : v 1 290 = nI (dn ++ l :: rest).length := h.1.1
      rw [List.length_append, List.length_cons] at h2; exact h2
    have hcmp : ¬ nI (dn.length + (rest.length + 1)) ≤ nI dn.length := by rw [q_le (by omega) (by omega)]; omega
    have e4 : v 1 (6 * dn.length + 4) = l.2.2.2.2.1 := (h.at (j := 4) (by decide) 0).1
    have r := ((h.at (j := 4) (by decide) (l.2.2.2.2.1 + 1)).2).sA v
    obtain ⟨v2, a1, a2, a3⟩ := ih fu (setA v 1 (upd (v 1) (6 * dn.length + 4) (l.2.2.2.2.1 + 1))) (dn ++ [age l]) nu pu x1 (by simp at hf; omega) (by rw [List.append_assoc]; exact r)
    rw [List.length_append, List.length_singleton, ← q_1] at a1
    rw [List.append_assoc] at a2
    refine ⟨v2, ?_, a2, fun r hr => (a3 r hr).trans (q_sN v _ hr)⟩
    rw [X5_week_l30, m290, Option.bind_some, e2, if_neg hcmp, q_of4 _ (by omega), Option.bind_some, q_lay4 _ _ (by omega), Option.bind_some, e4, a1]
def weekS (a : AS) : AS :=
  bif decide (a.2.1 10 = 0) then ((weekL (a.1.map age) (upd a.2.1 0 (a.2.1 0 + 1)) a.2.2).1.filter pos, (weekL (a.1.map age) (upd a.2.1 0 (a.2.1 0 + 1)) a.2.2).2) else (a.1, upd a.2.1 0 (a.2.1 0 + 1), a.2.2)
theorem lotS_okL {P : Nat} {l : Lot} {nu : Nat → Int32} {pu : Nat → Nat → Int32} (h : okA P l) (G : GG P nu pu) (hp : pos (lotS l nu pu).1 = true) : okL P (lotS l nu pu).1 := by
  obtain ⟨d, c, k, n, a, p, e, h1, h2, h3, h4, h5, h6, h7, h8⟩ := h
  obtain ⟨g, hg, hgP, hgn⟩ := G.2.1 d (by have := G.1; omega)
  have P8 := G.1
  obtain ⟨s, es, hs, est⟩ := stays_nI G (d := nI d) (c := nI c) (n := nI n) (p := nI p) h4 h7
  rw [← e] at est
  have eL : goP pu l = pu 5 d - 1 := by rw [e]; unfold goP; rw [ix_nI (by omega)]
  have esp : spoils pu l = (decide (pu 5 d - 1 < 0) || (decide (pu 5 d - 1 = nI c) || !decide (nI p = 0))) := by
    unfold spoils; rw [eL, e]
  unfold lotS at hp ⊢
  rw [est] at hp ⊢
  by_cases c1 : a < s
  · rw [decide_eq_true c1]
    exact ⟨d, c, k, n, a, p, e, h1, h2, h3, h4, h5, h6, by omega, h8⟩
  · rw [decide_eq_false c1] at hp ⊢
    cases hsp : spoils pu l with
    | true =>
      rw [hsp] at hp
      exact absurd (of_decide_eq_true hp) (by show ¬ (0 : Int32) < 0; decide)
    | false =>
      rw [esp] at hsp
      have c1 : ¬ pu 5 d - 1 < 0 := fun z => by rw [decide_eq_true z] at hsp; exact Bool.noConfusion hsp
      have c2 : ¬ pu 5 d - 1 = nI c := fun z => by rw [decide_eq_true z, Bool.true_or, Bool.or_true] at hsp; exact Bool.noConfusion hsp
      have g1 : 1 ≤ g := by
        rcases Nat.eq_zero_or_pos g with z | z
        · rw [hg, z] at c1; exact absurd (by decide) c1
        · exact z
      have eg1 : pu 5 d - 1 = nI (g - 1) := by rw [hg]; exact q_sub (a := g) (b := 1) g1
      refine ⟨g - 1, c, k, n, 0, 1, ?_, by omega, h2, ?_, h4, h5, h6, by omega, by omega⟩
      · show setF (setF (setF l 0 (goP pu l)) 4 0) 5 1 = _
        rw [eL, eg1, e]; rfl
      · intro z; exact c2 (by rw [eg1, z])
theorem weekL_ok {P : Nat} : ∀ (rest : List Lot) (nu : Nat → Int32) (pu : Nat → Nat → Int32), (∀ l ∈ rest, okA P l) → GG P nu pu →
    (∀ l ∈ (weekL rest nu pu).1.filter pos, okL P l) ∧ (weekL rest nu pu).1.length = rest.length ∧ ((weekL rest nu pu).2.2 5 = pu 5) ∧ (∀ i, i ≠ 6 → i ≠ 8 → (weekL rest nu pu).2.1 i = nu i) := by
  intro rest
  induction rest with
  | nil => intro nu pu _ _; exact ⟨fun l hl => by simp [weekL] at hl, rfl, rfl, fun _ _ _ => rfl⟩
  | cons l rest ih =>
    intro nu pu hl G
    obtain ⟨i1, i2, i3, i4⟩ := ih (lotS l nu pu).2.1 (lotS l nu pu).2.2 (fun x hx => hl x (List.mem_cons_of_mem _ hx)) (lotS_GG G)
    refine ⟨fun x hx => ?_, ?_, i3.trans lotS_row.1.1, fun i a b => (i4 i a b).trans (lotS_row.2 i a b)⟩
    · obtain ⟨hx1, hx2⟩ := List.mem_filter.mp hx
      rcases List.mem_cons.mp hx1 with rfl | hx1
      · exact lotS_okL (hl l (List.mem_cons_self)) G hx2
      · exact i1 x (List.mem_filter.mpr ⟨hx1, hx2⟩)
    · show _ + 1 = _
      rw [i2]; rfl
theorem OK.GG {a : AS} (h : OK a) : ∃ P, a.2.1 1 = nI P ∧ (∀ l ∈ a.1, okL P l) ∧ GG P (upd a.2.1 0 (a.2.1 0 + 1)) a.2.2 ∧ a.1.length ≤ 40 := by
  obtain ⟨h40, P, h8, hP, hl, hg, s1, _⟩ := h
  exact ⟨P, hP, hl, ⟨h8, hg, fun i hi => by rw [q_un (by omega)]; exact s1 i hi⟩, h40⟩
theorem weekS_ok {a : AS} (h : OK a) {w : Nat} (hw : a.2.1 0 = nI w) (hw1 : w + 1 ≤ 999) : OK (weekS a) ∧ (weekS a).2.1 0 = nI (w + 1) := by
  obtain ⟨P', hP', hl', G', _⟩ := h.GG
  obtain ⟨h40, P, h8, hP, hl, hg, s1, s2, s3, s4, _⟩ := id h
  have e0 : upd a.2.1 0 (a.2.1 0 + 1) 0 = nI (w + 1) := by rw [q_up, hw, q_1]
  obtain ⟨P, hP, hl, G, _⟩ := h.GG
  have mk : ∀ b : AS, b.1.length ≤ 40 → (∀ l ∈ b.1, okL P l) → b.2.2 5 = a.2.2 5 → (∀ i, i ≠ 6 → i ≠ 8 → b.2.1 i = upd a.2.1 0 (a.2.1 0 + 1) i) → OK b ∧ b.2.1 0 = nI (w + 1) := by
    intro b b1 b2 b3 b4
    have b5 : ∀ i, i ≠ 0 → i ≠ 6 → i ≠ 8 → b.2.1 i = a.2.1 i := fun i x y z => (b4 i y z).trans (q_un x)
    have b0 : b.2.1 0 = nI (w + 1) := (b4 0 (by decide) (by decide)).trans e0
    refine ⟨⟨b1, P, G.1, by rw [b5 1 (by decide) (by decide) (by decide)]; exact hP, b2, by rw [b3]; exact G.2.1, fun i hi => ?_, ?_, ?_, ?_, w + 1, b0, hw1⟩, b0⟩
    · rw [b5 (20 + i) (by omega) (by omega) (by omega)]; exact s1 i hi
    · rw [b5 24 (by decide) (by decide) (by decide)]; exact s2
    · rw [b5 25 (by decide) (by decide) (by decide)]; exact s3
    · rw [b5 10 (by decide) (by decide) (by decide)]; exact s4
  have ha : ∀ l ∈ a.1.map age, okA P l := fun l hx => by
    obtain ⟨x, hy, rfl⟩ := List.mem_map.mp hx
    exact (hl x hy).age
  obtain ⟨k1, k2, k3, k4⟩ := weekL_ok (a.1.map age) (upd a.2.1 0 (a.2.1 0 + 1)) a.2.2 ha G
  unfold weekS
  cases decide (a.2.1 10 = 0) with
  | true =>
    refine mk _ ?_ k1 k3 k4
    exact Nat.le_trans (List.length_filter_le _ _) (by rw [k2, List.length_map]; exact h40)
  | false => exact mk _ h40 hl rfl (fun _ _ _ => rfl)
theorem c_weekS {v : St} {a : AS} (h : RC v a) (ho : OK a) : ∃ v', X0_endWeek v = some v' ∧ RC v' (weekS a) := by
  obtain ⟨P, hP, hl, G, h40⟩ := ho.GG
  have e0 : v 1 0 = a.2.1 0 := h.2.1 0 (by decide) (by decide)
  have r := RC.num (ls := a.1) (nu := a.2.1) (pu := a.2.2) h (i := 0) (a.2.1 0 + 1) (by decide)
  have e10 : (setA v 1 (upd (v 1) 0 (a.2.1 0 + 1))) 1 10 = a.2.1 10 := r.2.1 10 (by decide) (by decide)
  rw [X0_endWeek, a26_0, Option.bind_some, e0, X0_hasHolidays, q_num10, Option.bind_some, e10]
  unfold weekS
  by_cases c : a.2.1 10 = 0
  · rw [if_pos c, Option.bind_some, if_pos rfl, decide_eq_true c]
    exact c_week_l a.1 FU _ [] (upd a.2.1 0 (a.2.1 0 + 1)) a.2.2 (by show _ < 2000; omega) r hl G
  · rw [if_neg c, Option.bind_some, if_neg (show ¬ (1 : Int32) = 0 by decide), decide_eq_false c]
    exact ⟨_, rfl, r⟩
theorem m_weekS {v : St} {a : AS} (h : RM (v 1) a) (ho : OK a) : ∃ v' s, s ≤ 360 ∧ X5_week v = some (nI s, v') ∧ RM (v' 1) (weekS a) ∧ (∀ r, r ≠ 1 → v' r = v r) ∧ (weekS a).2.1 6 = a.2.1 6 + nI s := by
  obtain ⟨P, hP, hl, G, h40⟩ := ho.GG
  have h01 : a.2.1 10 = 0 ∨ a.2.1 10 = 1 := by
    obtain ⟨_, P, _, _, _, _, _, _, _, h01, _⟩ := id ho
    exact h01
  have e0 : v 1 288 = a.2.1 0 := h.2.1 0 (Or.inl (by decide))
  have r := (RM.num (ls := a.1) (nu := a.2.1) (pu := a.2.2) h (i := 0) (a.2.1 0 + 1) (Or.inl (by decide))).sA v
  have e10 : (upd (v 1) 288 (a.2.1 0 + 1)) 297 = a.2.1 10 := by rw [q_un (by decide)]; exact h.2.1 10 (Or.inr (Or.inl (by decide)))
  rw [X5_week, m288, Option.bind_some, w288, Option.bind_some, m297, Option.bind_some, e0, e10]
  unfold weekS
  rcases h01 with c | c
  · rw [c, if_neg (show ¬ (0 : Int32) = 1 by decide), decide_eq_true rfl]
    obtain ⟨v2, a1, a2, a3⟩ := m_week_l30 a.1 FU _ [] _ _ 0 (by show _ < 2000; omega) r
    have ha : ∀ l ∈ a.1.map age, okA P l := fun l hx => by
      obtain ⟨x, hy, rfl⟩ := List.mem_map.mp hx
      exact (hl x hy).age
    obtain ⟨v', s, b0, b1, b2, b3, b4⟩ := m_week_l64 (a.1.map age) FU v2 [] _ _ 0 (by rw [List.length_map]; show _ < 2000; omega) a2 ha G
    rw [List.length_map] at b0
    refine ⟨v', s, by omega, ?_, b2, fun r hr => (b3 r hr).trans ((a3 r hr).trans (q_sN v _ hr)), ?_⟩
    · have a1 : X5_week_l30 FU (setA v 1 (upd (v 1) 288 (a.2.1 0 + 1))) 0 0 = _ := a1
      have b1 : X5_week_l64 FU v2 0 0 = _ := b1
      rw [a1, b1, Int32.zero_add]
    · exact b4
  · rw [c, if_pos rfl, decide_eq_false (by decide)]
    exact ⟨_, 0, by omega, rfl, r, fun r hr => q_sN v _ hr, (nadd0 _).symm⟩

/- the invariant is kept by lend, fulfil, guarantee, pupil, holiday, set -/
def okZ (P : Nat) (l : Lot) : Prop := ∃ d c k n a p : Nat, l = (nI d, nI c, nI k, nI n, nI a, nI p) ∧ d < P ∧ c < P ∧ d ≠ c ∧ k < 4 ∧ n ≤ 9 ∧ a ≤ 19 ∧ p ≤ 1
theorem okL.z {P : Nat} {l : Lot} (h : okL P l) : okZ P l := by
  obtain ⟨d, c, k, n, a, p, e, h1, h2, h3, h4, h5, h6, h7, h8⟩ := h
  exact ⟨d, c, k, n, a, p, e, h1, h2, h3, h4, h6, h7, h8⟩
theorem okZ.l {P : Nat} {l : Lot} (h : okZ P l) (hp : pos l = true) : okL P l := by
  obtain ⟨d, c, k, n, a, p, rfl, h1, h2, h3, h4, h6, h7, h8⟩ := h
  refine ⟨d, c, k, n, a, p, rfl, h1, h2, h3, h4, ?_, h6, h7, h8⟩
  rcases Nat.eq_zero_or_pos n with z | z
  · subst z; exact absurd (of_decide_eq_true hp) (by show ¬ (0 : Int32) < nI 0; decide)
  · exact z
theorem okZ_setN {P : Nat} {x : Nat} (hx : x ≤ 9) : ∀ (ls : List Lot) (j : Nat), (∀ l ∈ ls, okZ P l) → ∀ l ∈ setN ls j (nI x), okZ P l := by
  intro ls
  induction ls with
  | nil => intro j _ l hl; exact absurd hl (by cases j <;> simp [setN])
  | cons y ys ih =>
    intro j h l hl
    cases j with
    | zero =>
      rcases List.mem_cons.mp hl with rfl | hl
      · obtain ⟨d, c, k, n, a, p, e, h1, h2, h3, h4, h6, h7, h8⟩ := h y (List.mem_cons_self)
        exact ⟨d, c, k, x, a, p, by rw [e]; rfl, h1, h2, h3, h4, hx, h7, h8⟩
      · exact h l (List.mem_cons_of_mem _ hl)
    | succ j =>
      rcases List.mem_cons.mp hl with rfl | hl
      · exact h _ (List.mem_cons_self)
      · exact ih j (fun l hl => h l (List.mem_cons_of_mem _ hl)) l hl
theorem takL_okZ {P : Nat} {M : Lot → Bool} : ∀ (t : Nat) (q : Nat) (ls : List Lot), q < 2 ^ 31 → (∀ l ∈ ls, okZ P l) → ∀ l ∈ takL M t (nI q) ls, okZ P l := by
  intro t
  induction t with
  | zero => intro q ls _ h; exact h
  | succ t ih =>
    intro q ls hq h
    rw [takL]
    split
    · exact h
    · split
      · exact h
      · next ja heq =>
        rcases (oldF_spec M ls 0 none).1 ja.1 ja.2 heq with h1 | ⟨i, l, e1, e2, e3, e4, e5⟩
        · cases h1
        · have e1 : ja.1 = i := by omega
          obtain ⟨d, c, k, s, a, p, e, _, _, _, _, h9, _⟩ := h l (List.mem_of_getElem? e2)
          have hn : l.n = nI s := by rw [e]
          have hg : getN ls ja.1 = nI s := by unfold getN; rw [e1, e2]; exact hn
          rw [hg, mn_nI h9 hq, q_sub (by omega), q_sub (by omega)]
          exact ih _ _ (by omega) (okZ_setN (by omega) ls _ h)
theorem OK.to {a b : AS} (ho : OK a) (h1 : b.1.length ≤ 40) (h2 : ∀ P, P ≤ 8 → a.2.1 1 = nI P → (∀ l ∈ a.1, okL P l) → ∀ l ∈ b.1, okL P l) (h3 : b.2.2 5 = a.2.2 5) (h4 : ∀ i, (i < 2 ∨ i = 10 ∨ 20 ≤ i) → b.2.1 i = a.2.1 i) : OK b := by
  obtain ⟨_, P, h8, hP, hl, hg, s1, s2, s3, s4, s5⟩ := ho
  refine ⟨h1, P, h8, (h4 1 (by decide)).trans hP, h2 P h8 hP hl, by rw [h3]; exact hg, fun i hi => ?_, ?_, ?_, ?_, ?_⟩
  · rw [h4 (20 + i) (by omega)]; exact s1 i hi
  · rw [h4 24 (by decide)]; exact s2
  · rw [h4 25 (by decide)]; exact s3
  · rw [h4 10 (by decide)]; exact s4
  · rw [h4 0 (by decide)]; exact s5
theorem updP_r {f : Nat → Nat → Int32} {r p : Nat} {x : Int32} {r' : Nat} (h : r' ≠ r) : updP f r p x r' = f r' := funext fun p' => updP_n (by omega)
theorem lendS_ok {a : AS} (ho : OK a) (p1 p2 p3 p4 : Int32) : OK (lendS a p1 p2 p3 p4).2 := by
  unfold lendS
  cases k1 : kPr a p1 p2 with
  | false => exact ho
  | true =>
  cases k2 : kIn p3 0 3 with
  | false => exact ho
  | true =>
  cases k3 : kIn p4 1 9 with
  | false => exact ho
  | true =>
  simp only [cond_true]
  split
  · split
    · next hl =>
      refine ho.to (by simp; omega) ?_ ?_ ?_
      · intro P h8 hP hls l hm
        rcases List.mem_append.mp hm with hm | hm
        · exact hls l hm
        · rw [List.mem_singleton] at hm
          obtain ⟨d, c, P', e1, e2, hd, hc, hne, h8', hP'⟩ := kPr_nat ho k1
          have : P' = P := (nI_eq (by omega) (by omega)).mp (hP'.symm.trans hP)
          obtain ⟨k, e3, _, hk⟩ := kIn_nat k2 (by decide)
          obtain ⟨n, e4, hn1, hn⟩ := kIn_nat k3 (by decide)
          exact ⟨d, c, k, n, 0, 0, by rw [hm, e1, e2, e3, e4]; rfl, by omega, by omega, hne, by omega, by omega, by omega, by omega, by omega⟩
      · dsimp only
        rw [updP_r (by decide), updP_r (by decide)]
      · intro i hi
        exact q_un (by omega)
    · exact ho
  · exact ho
theorem fulS_ok {a : AS} (ho : OK a) (p1 p2 p3 p4 : Int32) : OK (fulS a p1 p2 p3 p4).2 := by
  unfold fulS
  cases k1 : kPr a p1 p2 with
  | false => exact ho
  | true =>
  cases k2 : kIn p3 0 3 with
  | false => exact ho
  | true =>
  cases k3 : kIn p4 1 9 with
  | false => exact ho
  | true =>
  simp only [cond_true]
  split
  · obtain ⟨n, e4, hn1, hn⟩ := kIn_nat k3 (by decide)
    refine ho.to ?_ ?_ ?_ ?_
    · exact Nat.le_trans (List.length_filter_le _ _) (by rw [takL_len]; exact ho.1)
    · intro P h8 hP hls l hm
      obtain ⟨m1, m2⟩ := List.mem_filter.mp hm
      rw [e4] at m1
      exact (takL_okZ 40 n a.1 (by omega) (fun l hl => (hls l hl).z) l m1).l m2
    · dsimp only
      rw [updP_r (by decide), updP_r (by decide), updP_r (by decide)]
    · intro i hi
      exact q_un (by omega)
  · exact ho
theorem holS_ok {a : AS} (ho : OK a) (p1 : Int32) : OK (holS a p1).2 := by
  obtain ⟨h40, P, h8, hP, hl, hg, s1, s2, s3, s4, s5⟩ := ho
  unfold holS
  refine ⟨h40, P, h8, ?_, hl, hg, fun i hi => ?_, ?_, ?_, ?_, ?_⟩
  · dsimp only
    rw [q_un (by decide)]; exact hP
  · dsimp only
    rw [q_un (by omega)]; exact s1 i hi
  · dsimp only
    rw [q_un (by omega)]; exact s2
  · dsimp only
    rw [q_un (by omega)]; exact s3
  · dsimp only
    rw [q_up]
    by_cases c : p1 = 0
    · rw [if_pos c]; exact Or.inl rfl
    · rw [if_neg c]; exact Or.inr rfl
  · dsimp only
    rw [q_un (by omega)]; exact s5
theorem pupS_ok {a : AS} (ho : OK a) : OK (pupS a).2 := by
  unfold pupS
  by_cases c : a.2.1 1 = 8
  · rw [if_pos c]; exact ho
  rw [if_neg c]
  obtain ⟨h40, P, h8, hP, hl, hg, s1, s2, s3, s4, s5⟩ := ho
  have h7 : P ≠ 8 := fun z => c (by rw [hP, z]; rfl)
  refine ⟨h40, P + 1, by omega, ?_, ?_, ?_, fun i hi => ?_, ?_, ?_, ?_, ?_⟩
  · dsimp only
    rw [q_up, hP, q_1]
  · intro l hm
    obtain ⟨d, c, k, n, a, p, e, h1, h2, h3⟩ := hl l hm
    exact ⟨d, c, k, n, a, p, e, by omega, by omega, h3⟩
  · intro p hp
    obtain ⟨g, e, h1, h2⟩ := hg p hp
    exact ⟨g, e, by omega, h2⟩
  · dsimp only
    rw [q_un (by omega)]; exact s1 i hi
  · dsimp only
    rw [q_un (by omega)]; exact s2
  · dsimp only
    rw [q_un (by omega)]; exact s3
  · dsimp only
    rw [q_un (by omega)]; exact s4
  · dsimp only
    rw [q_un (by omega)]; exact s5
theorem guaS_ok {a : AS} (ho : OK a) (p1 p2 : Int32) : OK (guaS a p1 p2).2 := by
  unfold guaS
  cases k1 : (kP a p1 && (decide (p2 = -1) || (kP a p2 && decide (¬ p1 = p2)))) with
  | false => exact ho
  | true =>
  rw [Bool.and_eq_true, Bool.or_eq_true, Bool.and_eq_true] at k1
  obtain ⟨k1, k2⟩ := k1
  obtain ⟨h40, P, h8, hP, hl, hg, s⟩ := ho
  obtain ⟨d, rfl, hd⟩ := kP_nat k1 hP h8
  refine ⟨h40, P, h8, hP, hl, ?_, s⟩
  intro p hp
  show ∃ g, updP a.2.2 5 (ix (nI d)) (p2 + 1) 5 p = nI g ∧ _
  rw [ix_nI (by omega)]
  by_cases c : p = d
  · subst c
    rw [updP_s]
    rcases k2 with k2 | ⟨k2, k3⟩
    · have := of_decide_eq_true k2; subst this
      exact ⟨0, by decide, by omega, by omega⟩
    · obtain ⟨g, rfl, hg⟩ := kP_nat k2 hP h8
      refine ⟨g + 1, q_1 g, by omega, ?_⟩
      intro z
      have : p = g := by omega
      exact of_decide_eq_true k3 (by rw [this])
  · rw [updP_n (by omega)]; exact hg p hp
theorem setS_ok {a : AS} (ho : OK a) (p1 p2 : Int32) : OK (setS a p1 p2).2 := by
  unfold setS
  cases k1 : kIn p1 0 5 with
  | false => exact ho
  | true =>
  obtain ⟨i, rfl, _, hi⟩ := kIn_nat k1 (by decide)
  rw [Bool.true_and, ix_nI (by omega)]
  have e4 : (nI i = 4) = (i = 4) := by
    have : (nI i = nI 4) = (i = 4) := propext (nI_eq (by omega) (by decide))
    exact this
  cases k2 : kIn p2 1 (if nI i = 4 then 99 else 20) with
  | false => exact ho
  | true =>
  have hlo : (0 : Int) ≤ 1 := by decide
  obtain ⟨n, rfl, n1, n2⟩ := kIn_nat k2 hlo
  obtain ⟨h40, P, h8, hP, hl, hg, s1, s2, s3, s4, s5⟩ := ho
  have un : ∀ j, j ≠ 20 + i → upd a.2.1 (20 + i) (nI n) j = a.2.1 j := fun j hj => q_un hj
  rw [cond_true]
  refine ⟨h40, P, h8, (un 1 (by omega)).trans hP, hl, hg, fun j hj => ?_, ?_, ?_, ?_, ?_⟩
  · show ∃ m, upd a.2.1 (20 + i) (nI n) (20 + j) = _ ∧ _
    by_cases c : j = i
    · subst c
      rw [q_up]
      rw [if_neg (by rw [e4]; omega)] at n2
      exact ⟨n, rfl, by omega, by omega⟩
    · rw [un _ (by omega)]; exact s1 j hj
  · show ∃ m, upd a.2.1 (20 + i) (nI n) 24 = _ ∧ _
    by_cases c : i = 4
    · subst c
      rw [q_up]
      rw [if_pos (by rw [e4])] at n2
      exact ⟨n, rfl, by omega, by omega⟩
    · rw [un _ (by omega)]; exact s2
  · show ∃ m, upd a.2.1 (20 + i) (nI n) 25 = _ ∧ _
    by_cases c : i = 5
    · subst c
      rw [q_up]
      rw [if_neg (by rw [e4]; omega)] at n2
      exact ⟨n, rfl, by omega, by omega⟩
    · rw [un _ (by omega)]; exact s3
  · show upd a.2.1 (20 + i) (nI n) 10 = _ ∨ upd a.2.1 (20 + i) (nI n) 10 = _
    rw [un _ (by omega)]; exact s4
  · show ∃ m, upd a.2.1 (20 + i) (nI n) 0 = _ ∧ _
    rw [un _ (by omega)]; exact s5

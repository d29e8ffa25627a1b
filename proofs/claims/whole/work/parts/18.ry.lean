/- the pupils some steps behind, as sets: reference -/
theorem Bk_succ {W : Nat → Nat → Nat} {s m x : Nat} : (x < 8 ∧ Bk W s s (m + 1) x) ↔ (s + 1 ≤ x ∧ x < 8 ∧ ∃ y, y < 8 ∧ 0 < W x y ∧ Bk W s s m y) :=
  ⟨fun ⟨h1, h2, _, h3, h4⟩ => ⟨by omega, h1, h4⟩, fun ⟨h1, h2, h3⟩ => ⟨h2, by omega, h2, by omega, h3⟩⟩
theorem meet {v : St} {W : Nat → Nat → Nat} (hL : LKS v W) {x : Nat} (hx : x < 8) {m : Int32} {S : Nat → Prop} (hm : MKS m S) : (v 9 x &&& m) = 0 ↔ ¬ ∃ y, y < 8 ∧ 0 < W x y ∧ S y := by
  rw [((hL x hx).and hm).isz]
  exact ⟨fun h ⟨y, h1, h2, h3⟩ => h y h1 ⟨h2, h3⟩, fun h y h1 h2 => h ⟨y, h1, h2.1, h2.2⟩⟩
theorem m_back_l28 {W : Nat → Nat → Nat} {s m : Nat} (hm : m < 8) (p1 p2 : Int32) (k11 : St → Int32 → Option (Int32 × St)) : ∀ (n fu x : Nat) (v : St), n < fu → x + n = 8 → s + 1 ≤ x → LKS v W → MKS (v 10 m) (Bk W s s m) → MKS (v 10 (m + 1)) (fun y => y < x ∧ Bk W s s (m + 1) y) →
    ∃ w, X5_isBack_l28 p1 p2 k11 fu v (nI (m + 1)) (nI x) = k11 w (nI (m + 1 + 1)) ∧ (∀ r, r ≠ 10 → w r = v r) ∧ (∀ j, j ≠ m + 1 → w 10 j = v 10 j) ∧ MKS (w 10 (m + 1)) (Bk W s s (m + 1)) := by
  intro n
  induction n with
  | zero =>
    intro fu x v hf hx hs hL h0 h1
    obtain ⟨fu, rfl⟩ : ∃ f, fu = f + 1 := ⟨fu - 1, by omega⟩
    have : x = 8 := by omega
    subst this
    exact ⟨v, by rw [X5_isBack_l28, if_pos (by decide), q_1], fun _ _ => rfl, fun _ _ => rfl, h1.cong (fun y hy => ⟨fun z => z.2, fun z => ⟨hy, z⟩⟩)⟩
  | succ n ih =>
    intro fu x v hf hx hs hL h0 h1
    obtain ⟨fu, rfl⟩ : ∃ f, fu = f + 1 := ⟨fu - 1, by omega⟩
    have hcmp : ¬ (8 : Int32) ≤ nI x := by
      have : ¬ nI 8 ≤ nI x := by rw [q_le (by decide) (by omega)]; omega
      exact this
    have em := meet hL (x := x) (by omega) h0
    rw [X5_isBack_l28, if_neg hcmp, q_ld (by omega) (by decide), Option.bind_some, q_ld (by omega) (by decide), Option.bind_some, nI_pred, q_ld (by omega) (by decide), Option.bind_some]
    by_cases c : (v 9 x &&& v 10 m) = 0
    · rw [if_pos c, q_st (by omega) (by decide), Option.bind_some, q_1]
      obtain ⟨w, a1, a2, a3, a4⟩ := ih fu (x + 1) (setA v 10 (upd (v 10) (m + 1) (v 10 (m + 1) ||| 0))) (by omega) (by omega) (by omega)
        (fun d hd => by rw [q_sN v _ (by decide)]; exact hL d hd) (by rw [q_sA, q_un (by omega)]; exact h0) (by
          rw [q_sA, q_up]
          refine (h1.or MKS.zero).cong (fun y hy => ?_)
          constructor
          · rintro (z | z)
            · exact ⟨by omega, z.2⟩
            · exact z.elim
          · rintro ⟨z1, z2⟩
            by_cases e : y = x
            · subst e; exact absurd (Bk_succ.mp ⟨hy, z2⟩).2.2 (em.mp c)
            · exact Or.inl ⟨by omega, z2⟩)
      exact ⟨w, a1, fun r hr => (a2 r hr).trans (q_sN v _ hr), fun j hj => by rw [a3 j hj, q_sA, q_un hj], a4⟩
    · rw [if_neg c, q_st (by omega) (by decide), Option.bind_some, q_1]
      obtain ⟨w, a1, a2, a3, a4⟩ := ih fu (x + 1) (setA v 10 (upd (v 10) (m + 1) (v 10 (m + 1) ||| ((1 : Int32) <<< (nI x &&& 31))))) (by omega) (by omega) (by omega)
        (fun d hd => by rw [q_sN v _ (by decide)]; exact hL d hd) (by rw [q_sA, q_un (by omega)]; exact h0) (by
          rw [q_sA, q_up]
          refine (h1.or (MKS.one (y := x) (by omega))).cong (fun y hy => ?_)
          constructor
          · rintro (z | z)
            · exact ⟨by omega, z.2⟩
            · subst z
              refine ⟨by omega, (Bk_succ.mpr ⟨hs, hy, ?_⟩).2⟩
              by_cases q : ∃ u, u < 8 ∧ 0 < W y u ∧ Bk W s s m u
              · exact q
              · exact absurd (em.mpr q) c
          · rintro ⟨z1, z2⟩
            by_cases e : y = x
            · exact Or.inr e
            · exact Or.inl ⟨by omega, z2⟩)
      exact ⟨w, a1, fun r hr => (a2 r hr).trans (q_sN v _ hr), fun j hj => by rw [a3 j hj, q_sA, q_un hj], a4⟩
def RB (W : Nat → Nat → Nat) (s len : Nat) : Prop := ∃ y, y < 8 ∧ 0 < W s y ∧ Bk W s s (len - 1) y
/- the sets below len stand -/
def BKS (v : St) (W : Nat → Nat → Nat) (s len : Nat) : Prop := ∀ k, k < len → MKS (v 10 k) (Bk W s s k)
theorem m_back_l11 {W : Nat → Nat → Nat} {s len : Nat} (hs : s < 8) (hlen : len ≤ 9) : ∀ (n fu m : Nat) (v : St), n < fu → m + 1 + n = len → LKS v W → BKS v W s (m + 1) →
    ∃ w b, X5_isBack_l11 (nI s) (nI len) fu v (nI (m + 1)) = some (b, w) ∧ (b = 0 ↔ ¬ RB W s len) ∧ (∀ r, r ≠ 10 → w r = v r) ∧ BKS w W s len := by
  intro n
  induction n with
  | zero =>
    intro fu m v hf hm hL hB
    obtain ⟨fu, rfl⟩ : ∃ f, fu = f + 1 := ⟨fu - 1, by omega⟩
    have e : len = m + 1 := by omega
    subst e
    have em := meet hL hs (hB m (by omega))
    rw [X5_isBack_l11, if_pos (by rw [q_le (by omega) (by omega)]; exact Nat.le_refl _), X5_isBack_b83, q_ld (by omega) (by decide), Option.bind_some, nI_pred, q_ld (by omega) (by decide), Option.bind_some]
    by_cases c : (v 9 s &&& v 10 m) = 0
    · rw [if_pos c]
      exact ⟨v, 0, rfl, ⟨fun _ => em.mp c, fun _ => rfl⟩, fun _ _ => rfl, hB⟩
    · rw [if_neg c]
      exact ⟨v, 1, rfl, ⟨fun z => absurd z (by decide), fun z => absurd (em.mpr z) c⟩, fun _ _ => rfl, hB⟩
  | succ n ih =>
    intro fu m v hf hm hL hB
    obtain ⟨fu, rfl⟩ : ∃ f, fu = f + 1 := ⟨fu - 1, by omega⟩
    have hcmp : ¬ nI len ≤ nI (m + 1) := by rw [q_le (by omega) (by omega)]; omega
    rw [X5_isBack_l11, if_neg hcmp, q_st (by omega) (by decide), Option.bind_some, q_1]
    obtain ⟨w, a1, a2, a3, a4⟩ := m_back_l28 (W := W) (s := s) (m := m) (by omega) (nI s) (nI len) (X5_isBack_l11 (nI s) (nI len) fu) (8 - (s + 1)) FU (s + 1) (setA v 10 (upd (v 10) (m + 1) 0)) (by show _ < 2000; omega) (by omega) (Nat.le_refl _)
      (fun d hd => by rw [q_sN v _ (by decide)]; exact hL d hd) (by rw [q_sA, q_un (by omega)]; exact hB m (by omega)) (by
        rw [q_sA, q_up]
        exact MKS.zero.cong (fun y hy => ⟨fun z => z.elim, fun z => by have := (Bk_succ.mp ⟨hy, z.2⟩).1; omega⟩))
    obtain ⟨w', b, b1, b2, b3, b4⟩ := ih fu (m + 1) w (by omega) (by omega) (fun d hd => by rw [a2 9 (by decide), q_sN v _ (by decide)]; exact hL d hd) (fun k hk => by
      by_cases e : k = m + 1
      · subst e; exact a4
      · rw [a3 k e, q_sA, q_un e]; exact hB k (by omega))
    exact ⟨w', b, a1.trans b1, b2, fun r hr => (b3 r hr).trans ((a2 r hr).trans (q_sN v _ hr)), b4⟩
theorem m_back {W : Nat → Nat → Nat} {s len : Nat} (hs : s < 8) (h1 : 1 ≤ len) (hlen : len ≤ 9) {v : St} (hL : LKS v W) :
    ∃ w b, X5_isBack v (nI s) (nI len) = some (b, w) ∧ (b = 0 ↔ ¬ RB W s len) ∧ (∀ r, r ≠ 10 → w r = v r) ∧ BKS w W s len := by
  have e0 : stA 9 (v 10) (0 : Int32) ((1 : Int32) <<< (nI s &&& 31)) = some (upd (v 10) 0 ((1 : Int32) <<< (nI s &&& 31))) := q_st (k := 0) (by decide) (by decide)
  obtain ⟨w, b, b1, b2, b3, b4⟩ := m_back_l11 (W := W) hs hlen (len - 1) FU 0 (setA v 10 (upd (v 10) 0 ((1 : Int32) <<< (nI s &&& 31)))) (by show _ < 2000; omega) (by omega) (fun d hd => by rw [q_sN v _ (by decide)]; exact hL d hd) (fun k hk => by
    have : k = 0 := by omega
    subst this
    rw [q_sA, q_up]
    exact (MKS.one hs).cong (fun x _ => Iff.rfl))
  refine ⟨w, b, ?_, b2, fun r hr => (b3 r hr).trans (q_sN v _ hr), b4⟩
  rw [X5_isBack, e0, Option.bind_some]
  exact b1

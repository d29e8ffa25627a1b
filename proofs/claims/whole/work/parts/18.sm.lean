/- play, at the face -/
theorem plS_cnt {sg : SG} {n : Nat} : ∀ (f : Nat) (a : AS) (p cnt : Nat), (plS sg n f a p cnt).2.1 ≤ cnt + f := by
  intro f
  induction f with
  | zero => intro a p cnt; exact Nat.le_refl _
  | succ f ih =>
    intro a p cnt
    unfold plS
    split
    · dsimp only; omega
    · split
      · split
        · have := ih (doS a (sg p) (rdO sg p).2.2).2 (rdO sg p).2.1 (cnt + 1); omega
        · dsimp only; omega
      · dsimp only; omega
theorem f_play {vB vH vO vM : St} {bH : Nat → St} (R : RLs vB vH bH vO vM) (vT vR : St) :
    ∃ ans vB' vT' vH' bH' vR' vO' vM', X4_play vB vT vH bH vR vO = some (ans, vB', vT', vH', bH', vR', vO') ∧ X5_play vM = some (ans, vM') ∧ RLs vB' vH' bH' vO' vM' := by
  obtain ⟨g, hist, n, ch, h1, h2, h3, h4, h5, h6, h7, h8, h9, h10⟩ := R
  rw [X4_play, X5_play]
  obtain ⟨u, u1, u2⟩ := q_fresh vT vH bH vR vO h1
  obtain ⟨vO', vB', vR', d1, d2, d3, d4⟩ := c_doAll h5 vR h6 u2 h2
  obtain ⟨g3, g3e, g3f⟩ := q_copies (vM 1) (vM 3)
  obtain ⟨w, w1, w2, w3, w4, w5⟩ := m_plays h5 (v := setA vM 3 g3) (a := g) ⟨by rw [q_sN vM _ (by decide)]; exact h10.1, fun i hi => by rw [q_sN vM _ (by decide)]; exact h10.2 i hi⟩ (by rw [q_sN vM _ (by decide)]; exact h7) h2
  obtain ⟨g1, g1e, g1f⟩ := q_copies (w 3) (w 1)
  have ew3 : w 3 = g3 := by rw [w2.1 3 (by decide) (by decide) (by decide) (by decide) (by decide) (by decide), q_sA]
  have m1 : RM ((setA w 1 g1) 1) g := by
    rw [q_sA]
    exact h7.cong (fun j hj => by rw [g1f j hj, ew3, g3f j hj])
  have m2 : HM (setA w 1 g1) hist := by
    refine h8.eq ?_ ?_
    · rw [q_sN w _ (by decide), w2.2 4 (by decide) (by decide) (by decide) (by decide) (by decide) (by decide) (by decide), q_sN vM _ (by decide)]
    · rw [q_sN w _ (by decide), w2.1 2 (by decide) (by decide) (by decide) (by decide) (by decide) (by decide), q_sN vM _ (by decide)]
  have m3 : (setA w 1 g1) 99 5 = 0 := by rw [q_sN w _ (by decide)]; exact w3
  have m4 : TM (setA w 1 g1) n ch := by
    refine ⟨?_, fun i hi => ?_⟩
    · rw [q_sN w _ (by decide), w2.2 7 (by decide) (by decide) (by decide) (by decide) (by decide) (by decide) (by decide), q_sN vM _ (by decide)]; exact h10.1
    · rw [q_sN w _ (by decide), w2.1 7 (by decide) (by decide) (by decide) (by decide) (by decide) (by decide), q_sN vM _ (by decide)]; exact h10.2 i hi
  rw [u1, Option.bind_some, d1, Option.bind_some, g3e, Option.bind_some, w1, Option.bind_some, g1e, Option.bind_some]
  dsimp only
  generalize setA w 1 g1 = z at m1 m2 m3 m4 ⊢
  cases hr : (plA n ch g).1 with
  | some q =>
    rw [show (if isN (some q : Option (Nat × Int32 × Int32)) = true then (1 : Int32) else 0) = 0 from rfl, if_pos rfl, if_pos rfl, X4_play_b31, q_settledE _ _ _ _ _ _ (by decide), Option.bind_some]
    exact ⟨_, _, _, _, _, _, _, _, rfl, rfl, g, hist, n, ch, h1, h2, h3, h4, h5, d2, m1, m2, m3, m4⟩
  | none =>
    obtain ⟨x1, x2, x3⟩ := d3 hr
    rw [show (if isN (none : Option (Nat × Int32 × Int32)) = true then (1 : Int32) else 0) = 1 from rfl, if_neg (show ¬ (1 : Int32) = 0 by decide), if_neg (show ¬ (1 : Int32) = 0 by decide), X2_ordersDone, Option.bind_some, x1, X4_play_b31]
    have hc : (plA n ch g).2.1 ≤ 100 := by
      have := plS_cnt (sg := sgn n ch) (n := n) 100 g 0 0
      show (plS (sgn n ch) n 100 g 0 0).2.1 ≤ 100
      omega
    obtain ⟨vB2, vH2, bH2, s1, s2, s3⟩ := q_settled vR' vO' h1 x2 h3 (ans := nI (plA n ch g).2.1) (nI_pos (by omega))
    obtain ⟨y, y1, y2, c1, c2, c3⟩ := q_chg (v := z) (hist := hist) m1 (fun _ => m2)
    obtain ⟨e1, e2⟩ := c1 m3
    have ty : TM y n ch := ⟨by rw [e2 7 (by decide)]; exact m4.1, fun i hi => by rw [c3 7 (by decide) (by decide) (by decide) (by decide) (by decide) (by decide)]; exact m4.2 i hi⟩
    obtain ⟨w', k1, k2, k3, k4, k5⟩ := m_plays h5 ty (a := g) (by rw [y2]; exact m1) h2
    obtain ⟨o1, o2⟩ := k4 hr
    rw [hr] at k1
    rw [s1, Option.bind_some, y1, Option.bind_some, k1, Option.bind_some, show (if isN (none : Option (Nat × Int32 × Int32)) = true then (1 : Int32) else 0) = 1 from rfl, if_neg (show ¬ (1 : Int32) = 0 by decide)]
    dsimp only
    rw [o1]
    refine ⟨_, _, _, _, _, _, _, _, rfl, rfl, (plA n ch g).2.2, pushH hist g, n, ch, s2, x3, s3, push_ok h4 h2, h5, d2, o2, e1.eq ?_ ?_, k3, ty.kp k2⟩
    · rw [k2.2 4 (by decide) (by decide) (by decide) (by decide) (by decide) (by decide) (by decide)]
    · exact k2.1 2 (by decide) (by decide) (by decide) (by decide) (by decide) (by decide)

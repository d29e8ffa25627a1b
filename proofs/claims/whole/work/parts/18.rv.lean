/- the next ring: class -/
theorem q_l96 {W : Nat → Nat → Nat} {D : Nat → Nat} {s L : Nat} (hb : ∀ d c, d < 8 → c < 8 → W d c ≤ 1000) (hs : s < 8) (hx : DX W s s D) (hL : LX W s L) (hL8 : L ≤ 8) (v : St) (kd : Int32) :
    ∀ (n fu m : Nat) (P : Nat → Nat) (w : St), n < fu → m + 1 + n = L → (∀ d c, d < 8 → c < 8 → w 1 (8 * d + c) = nI (W d c)) → (∀ x, x < 8 → w 2 x = nI (D x)) → w 99 4 = nI L →
    (∀ j, j ≤ m → w 4 j = nI (P j)) → P 0 = s → (∀ j, j < m → stepR W s L j (P j) (P (j + 1))) → (∀ j, j ≤ m → okP W D s L j (P j)) →
    ∃ (w' : St) (Q : Nat → Nat), X3_findNext_l96 v kd fu w (nI (m + 1)) = some (1, w') ∧ (∀ j, j < L → w' 4 j = nI (Q j)) ∧ Q 0 = s ∧ (∀ j, j + 1 < L → stepR W s L j (Q j) (Q (j + 1))) ∧ (∀ j, j < L → okP W D s L j (Q j)) ∧ (∀ r, r ≠ 4 → w' r = w r) := by
  intro n
  induction n with
  | zero =>
    intro fu m P w hf hm hW hD h4 hP h0 hS hk
    obtain ⟨fu, rfl⟩ : ∃ f, fu = f + 1 := ⟨fu - 1, by omega⟩
    refine ⟨w, P, ?_, fun j hj => hP j (by omega), h0, fun j hj => hS j (by omega), fun j hj => hk j (by omega), fun _ _ => rfl⟩
    rw [X3_findNext_l96, h4, if_pos (by rw [q_le (by omega) (by omega)]; omega)]
  | succ n ih =>
    intro fu m P w hf hm hW hD h4 hP h0 hS hk
    obtain ⟨fu, rfl⟩ : ∃ f, fu = f + 1 := ⟨fu - 1, by omega⟩
    obtain ⟨x, x1, x2, x3⟩ := pth_step hs hx hL (by omega) (hk m (Nat.le_refl _))
    have x8 : x < 8 := x2.1
    have hp8 : P m < 8 := (hk m (Nat.le_refl _)).1
    have e1 : X3_nextPupil w (nI (m + 1) - (1 : Int32)) = some (nI (P m)) := by
      rw [nI_pred, X3_nextPupil, q_at (by omega) (by decide), Option.bind_some, hP m (Nat.le_refl _)]
    have e2 : X3_lowestBehind w (nI (P m)) (nI L - nI (m + 1)) = some (nI x) := by
      rw [q_sub (by omega), X3_lowestBehind]
      have e : X3_lowestBehind_l2 w (nI (P m)) (nI (L - (m + 1))) FU (0 : Int32) = some (oI (lwS W D (P m) (L - (m + 1)) 8 0)) := q_lw hp8 (by omega) hW hb hD (fun y hy => by have := DX_le hs hx hy; omega) 8 FU 0 (by decide) (by omega)
      rw [e, x1]; rfl
    have ec : ¬ nI L ≤ nI (m + 1) := by rw [q_le (by omega) (by omega)]; omega
    rw [X3_findNext_l96, h4, if_neg ec, e1, Option.bind_some, e2, Option.bind_some, q_put (by omega) (by decide), Option.bind_some, q_1]
    obtain ⟨w', Q, a1, a2, a3, a4, a5, a6⟩ := ih fu (m + 1) (updN P (m + 1) x) (setA w 4 (upd (w 4) (m + 1) (nI x))) (by omega) (by omega)
      (fun d c hd hc => by rw [q_sN w _ (by decide)]; exact hW d c hd hc) (fun y hy => by rw [q_sN w _ (by decide)]; exact hD y hy) (by rw [q_sN w _ (by decide)]; exact h4)
      (fun j hj => by
        rw [q_sA]
        by_cases z : j = m + 1
        · subst z; rw [q_up]; unfold updN; rw [if_pos rfl]
        · rw [q_un z, hP j (by omega)]; unfold updN; rw [if_neg z])
      (by unfold updN; rw [if_neg (by omega)]; exact h0)
      (fun j hj => by
        have z : j ≠ m + 1 := by omega
        unfold updN; rw [if_neg z]
        by_cases z2 : j = m
        · subst z2; rw [if_pos rfl]; exact x2
        · rw [if_neg (by omega)]; exact hS j (by omega))
      (fun j hj => by
        unfold updN
        by_cases z : j = m + 1
        · subst z; rw [if_pos rfl]; exact x3
        · rw [if_neg z]; exact hk j (by omega))
    exact ⟨w', Q, a1, a2, a3, a4, a5, fun r hr => (a6 r hr).trans (q_sN w _ hr)⟩
theorem WN_le {a : AS} (ho : OK a) (kd : Int32) : ∀ d c, d < 8 → c < 8 → WN kd a.1 d c ≤ 1000 := fun d c _ _ => by
  have := sumN_le (P := mtE (nI d) (nI c) kd) ho.okN
  have := ho.1
  show sumN (mtE (nI d) (nI c) kd) a.1 ≤ 1000
  omega
/- what a pupil's place on the ring is -/
theorem c_next {v : St} {a : AS} (h : RC v a) (ho : OK a) (vR : St) {kd : Int32} (hkd : kd ≠ -1) :
    ∃ (w : St) (L : Nat) (P : Nat → Nat), X3_findNext vR v kd = some ((if L = 0 then 0 else 1), w) ∧ Ring (WN kd a.1) L P ∧ L ≤ 8 ∧ w 99 4 = nI L ∧ (∀ j, j < L → P j < 8 ∧ w 4 j = nI (P j)) ∧ (∀ d c, d < 8 → c < 8 → w 1 (8 * d + c) = nI (WN kd a.1 d c)) := by
  have hb := WN_le ho kd
  obtain ⟨u, u1, u2, u3⟩ := c_read h ho vR hkd
  obtain ⟨u', o', len', e, B, hl, hW, h4⟩ := q_l16 hb v kd 8 FU 0 none 0 (setI u 4 (0 : Int32)) (by decide) (by omega) ⟨rfl, fun s hs => by omega⟩ (by decide) (fun d c hd hc => by rw [setI_r (by decide)]; exact u3 d c hd hc) setI_s (fun b z => by cases z)
  have e0 : X3_findNext vR v kd = X3_findNext_b72 v kd u' (oI o') := by
    rw [X3_findNext, u1, Option.bind_some]; exact e
  rw [e0]
  cases o' with
  | none =>
    obtain ⟨b1, b2⟩ := B
    subst b1
    exact ⟨u', 0, fun _ => 0, by rw [X3_findNext_b72, if_neg (by decide)]; rfl, Or.inl ⟨rfl, b2⟩, by omega, h4, fun j hj => by omega, hW⟩
  | some s =>
    obtain ⟨b1, b2, b3, b4, b5⟩ := B
    obtain ⟨u6, D, f1, hx, f2, f3, f4⟩ := q_ms (lo := s) (t := s) b1 b1 hW hb
    have hL8 := b3.le b1 hb
    have h0 : (0 : Int32) ≤ nI s := by
      have : nI 0 ≤ nI s := by rw [q_le (by decide) (by omega)]; omega
      exact this
    have ep : X4_put (u6 4) 8 (0 : Int32) (nI s) = some (upd (u6 4) 0 (nI s)) := q_put (k := 0) (by decide) (by decide)
    obtain ⟨w', Q, a1, a2, a3, a4, a5, a6⟩ := q_l96 hb b1 hx b3 hL8 v kd (len' - 1) FU 0 (fun _ => s) (setA u6 4 (upd (u6 4) 0 (nI s))) (by show _ < 2000; omega) (by omega)
      (fun d c hd hc => by rw [q_sN _ _ (by decide), f4 1 (by decide) (by decide)]; exact hW d c hd hc) (fun x hx => by rw [q_sN _ _ (by decide)]; exact f2 x hx)
      (by rw [q_sN _ _ (by decide), f4 99 (by decide) (by decide)]; exact h4)
      (fun j hj => by have : j = 0 := by omega
                      subst this; rw [q_sA, q_up]) rfl (fun j hj => by omega)
      (fun j hj => by have : j = 0 := by omega
                      subst this; exact ⟨b1, Or.inl ⟨rfl, rfl⟩⟩)
    refine ⟨w', len', Q, ?_, Or.inr ⟨b2, ?_, ?_⟩, hL8, ?_, fun j hj => ⟨(a5 j hj).1, a2 j hj⟩, fun d c hd hc => ?_⟩
    · show X3_findNext_b72 v kd u' (nI s) = _
      rw [X3_findNext_b72, if_pos h0, f1, Option.bind_some, ep, Option.bind_some, if_neg (show ¬ len' = 0 by omega)]
      exact a1
    · rw [a3]; exact ⟨b1, b2, b3, b4, b5⟩
    · rw [a3]; exact a4
    · rw [a6 99 (by decide), q_sN _ _ (by decide), f4 99 (by decide) (by decide)]; exact h4
    · rw [a6 1 (by decide), q_sN _ _ (by decide), f4 1 (by decide) (by decide)]; exact hW d c hd hc

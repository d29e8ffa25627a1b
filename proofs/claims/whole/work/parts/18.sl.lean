/- the relation at the face; changes; the text; undo; fault and play -/
abbrev Rl (vB vH : St) (bH : Nat → St) (vO vM : St) (g : AS) (hist : List AS) (n : Nat) (ch : Nat → Nat) : Prop :=
  RC vB g ∧ OK g ∧ HC vH bH hist ∧ (∀ b ∈ hist, OK b) ∧ TXT n ch ∧ TC vO n ch ∧ RM (vM 1) g ∧ HM vM hist ∧ vM 99 5 = 0 ∧ TM vM n ch
def RLs (vB vH : St) (bH : Nat → St) (vO vM : St) : Prop := ∃ g hist n ch, Rl vB vH bH vO vM g hist n ch
theorem push_mem {hist : List AS} {a b : AS} (h : b ∈ pushH hist a) : b ∈ hist ∨ b = a := by
  unfold pushH at h
  rcases List.mem_append.mp h with h | h
  · split at h
    · exact Or.inl (List.mem_of_mem_tail h)
    · exact Or.inl h
  · exact Or.inr (List.mem_singleton.mp h)
theorem push_ok {hist : List AS} {a : AS} (h : ∀ b ∈ hist, OK b) (ha : OK a) : ∀ b ∈ pushH hist a, OK b := fun b hb => by
  rcases push_mem hb with e | e
  · exact h b e
  · rw [e]; exact ha
/- a change at the face -/
theorem face_op {vB vT vH vO vM : St} {bH : Nat → St} {g : AS} {hist : List AS} {n : Nat} {ch : Nat → Nat} (R : Rl vB vH bH vO vM g hist n ch) (vR vO' : St) {S : Int32 × AS} {r : Option (Int32 × St)} (hT : RC vT S.2) (hk : OK S.2) (hm : MOp vM g hist r S) :
    ∃ s v', X4_settled vB vT vH bH vR vO' S.1 = some s ∧ r = some (S.1, v') ∧ s.1 = S.1 ∧ RLs s.2.1 s.2.2.1 s.2.2.2 vO v' := by
  obtain ⟨h1, h2, h3, h4, h5, h6, h7, h8, h9, h10⟩ := R
  obtain ⟨v', e, m1, m2, m3⟩ := hm
  by_cases c : S.1 < 0
  · obtain ⟨e1, e2⟩ := m2 c
    subst e1
    exact ⟨_, _, q_settledE vB vT vH bH vR vO' c, e, rfl, g, hist, n, ch, h1, h2, h3, h4, h5, h6, h7, h8, h9, h10⟩
  · obtain ⟨c1, c2, c3⟩ := m3 c
    obtain ⟨d1, d2⟩ := c1 h9
    obtain ⟨vB', vH', bH', s1, s2, s3⟩ := q_settled vR vO' h1 hT h3 c
    refine ⟨_, v', s1, e, rfl, S.2, pushH hist g, n, ch, s2, hk, s3, push_ok h4 h2, h5, h6, m1, d1, by rw [d2 5 (by decide)]; exact h9, by rw [d2 7 (by decide)]; exact h10.1, fun i hi => ?_⟩
    rw [c3 7 (by decide) (by decide) (by decide) (by decide) (by decide) (by decide)]; exact h10.2 i hi
/- what a read of the reference leaves -/
def KeepM (v v' : St) : Prop := v' 2 = v 2 ∧ v' 7 = v 7 ∧ v' 99 4 = v 99 4 ∧ v' 99 5 = v 99 5 ∧ v' 99 7 = v 99 7
theorem SameR.keep {v v' : St} (h : SameR v v') : KeepM v v' := by
  have h2 := h 2 (by decide) (by decide) (by decide) (by decide) (by decide)
  have h7 := h 7 (by decide) (by decide) (by decide) (by decide) (by decide)
  have h9 := h 99 (by decide) (by decide) (by decide) (by decide) (by decide)
  exact ⟨h2, h7, by rw [h9], by rw [h9], by rw [h9]⟩
theorem Rl.keep {vB vH vO vM vM' : St} {bH : Nat → St} {g : AS} {hist : List AS} {n : Nat} {ch : Nat → Nat} (R : Rl vB vH bH vO vM g hist n ch) (hr : RM (vM' 1) g) (k : KeepM vM vM') : Rl vB vH bH vO vM' g hist n ch := by
  obtain ⟨h1, h2, h3, h4, h5, h6, h7, h8, h9, h10⟩ := R
  obtain ⟨k1, k2, k3, k4, k5⟩ := k
  exact ⟨h1, h2, h3, h4, h5, h6, hr, h8.eq k3 k1, by rw [k4]; exact h9, by rw [k5]; exact h10.1, fun i hi => by rw [k2]; exact h10.2 i hi⟩
theorem Rl.read {vB vH vO vM : St} {bH : Nat → St} {g : AS} {hist : List AS} {n : Nat} {ch : Nat → Nat} (R : Rl vB vH bH vO vM g hist n ch) {r : Option (Int32 × St)} {ans : Int32} (h : MRd vM g r ans) : ∃ v', r = some (ans, v') ∧ RLs vB vH bH vO v' := by
  obtain ⟨v', e, h1, h2⟩ := h
  exact ⟨v', e, g, hist, n, ch, R.keep h1 h2.keep⟩
/- the text -/
theorem f_type {vB vH vO vM : St} {bH : Nat → St} (R : RLs vB vH bH vO vM) (vT vR : St) (p1 : Int32) :
    ∃ ans vO' vM', X4_type vB vT vH bH vR vO p1 = some (ans, vO') ∧ X5_type vM p1 = some (ans, vM') ∧ RLs vB vH bH vO' vM' := by
  obtain ⟨g, hist, n, ch, h1, h2, h3, h4, h5, h6, h7, h8, h9, h10⟩ := R
  have hn := h5.1
  have t32 : (32 : Int32).toInt = 32 := by decide
  have t126 : (126 : Int32).toInt = 126 := by decide
  rw [X4_type, X2_append, X5_type, q_inM, Option.bind_some, t32, t126, ifb]
  cases hk : kIn p1 32 126 with
  | false =>
    refine ⟨-1000001, vO, vM, ?_, rfl, g, hist, n, ch, h1, h2, h3, h4, h5, h6, h7, h8, h9, h10⟩
    by_cases c1 : p1 < 32
    · rw [if_pos c1, Option.bind_some]
    · rw [if_neg c1]
      by_cases c2 : p1 ≤ 126
      · rw [lt_i, t32] at c1
        rw [le_i, t126] at c2
        have : kIn p1 32 126 = true := kIn_iff.mpr (by omega)
        rw [hk] at this; cases this
      · rw [if_neg c2, Option.bind_some]
  | true =>
    obtain ⟨c, rfl, ca, cb⟩ := kIn_nat hk (by decide)
    simp only [cond_true]
    have c1 : ¬ nI c < (32 : Int32) := by rw [lt_i, t32, nI_toInt (by omega)]; omega
    have c2 : nI c ≤ (126 : Int32) := by rw [le_i, t126, nI_toInt (by omega)]; omega
    rw [if_neg c1, if_pos c2, h6.1, h10.1]
    have e60 : (nI n < (60 : Int32)) = (n < 60) := q_lt (b := 60) (by omega) (by decide)
    have e60' : (nI n = (60 : Int32)) = (n = 60) := propext (nI_eq (b := 60) (by omega) (by decide))
    by_cases z : n = 60
    · rw [if_neg (fun e => by have := e60.mp e; omega), if_pos (e60'.mpr z), Option.bind_some]
      exact ⟨_, _, _, rfl, rfl, g, hist, n, ch, h1, h2, h3, h4, h5, h6, h7, h8, h9, h10⟩
    · rw [if_pos (e60.mpr (by omega)), if_neg (fun e => z (e60'.mp e)), q_put (by omega) (by decide), Option.bind_some, Option.bind_some, q_st (by omega) (by decide), Option.bind_some, q_1]
      refine ⟨nI (n + 1), setI (setA vO 1 (upd (vO 1) n (nI c))) 2 (nI (n + 1)), setI (setA vM 7 (upd (vM 7) n (nI c))) 7 (nI (n + 1)), rfl, rfl, g, hist, n + 1, updN ch n c, h1, h2, h3, h4, ⟨by omega, fun i hi => ?_⟩, ⟨setI_s, fun i hi => ?_⟩, ?_, ?_, ?_, setI_s, fun i hi => ?_⟩
      · unfold updN
        by_cases e : i = n
        · rw [if_pos e]; omega
        · rw [if_neg e]; exact h5.2 i (by omega)
      · rw [setI_r (by decide), q_sA]
        unfold updN
        by_cases e : i = n
        · rw [if_pos e, e, q_up]
        · rw [if_neg e, q_un e]; exact h6.2 i (by omega)
      · rw [setI_r (by decide), q_sN vM _ (by decide)]; exact h7
      · exact h8.eq (by rw [setI_n (by decide), q_sN vM _ (by decide)]) (by rw [setI_r (by decide), q_sN vM _ (by decide)])
      · rw [setI_n (by decide), q_sN vM _ (by decide)]; exact h9
      · rw [setI_r (by decide), q_sA]
        unfold updN
        by_cases e : i = n
        · rw [if_pos e, e, q_up]
        · rw [if_neg e, q_un e]; exact h10.2 i (by omega)
theorem f_clearText {vB vH vO vM : St} {bH : Nat → St} (R : RLs vB vH bH vO vM) (vT vR : St) :
    ∃ ans vO' vM', X4_clearText vB vT vH bH vR vO = some (ans, vO') ∧ X5_clearText vM = some (ans, vM') ∧ RLs vB vH bH vO' vM' := by
  obtain ⟨g, hist, n, ch, h1, h2, h3, h4, h5, h6, h7, h8, h9, h10⟩ := R
  refine ⟨nI n, setI vO 2 (0 : Int32), setI vM 7 (0 : Int32), ?_, ?_, g, hist, 0, ch, h1, h2, h3, h4, ⟨by omega, fun i hi => by omega⟩, ⟨setI_s, fun i hi => by omega⟩, ?_, ?_, ?_, setI_s, fun i hi => by omega⟩
  · rw [X4_clearText, X2_empty, Option.bind_some, h6.1]
  · rw [X5_clearText, h10.1]
  · rw [setI_r (by decide)]; exact h7
  · exact h8.eq (setI_n (by decide)) (setI_r (by decide))
  · rw [setI_n (by decide)]; exact h9
/- undo -/
theorem m_undo_l : ∀ (n fu x h : Nat) (v : St), n < fu → x + n = 304 → h < 4 → v 99 4 = nI h →
    ∃ v', X5_undo_l22 fu v (nI x) = some (nI h, v') ∧ (∀ r, r ≠ 1 → v' r = v r) ∧ ∀ i, v' 1 i = if x ≤ i ∧ i < 304 then v 2 (304 * h + i) else v 1 i := by
  intro n
  induction n with
  | zero =>
    intro fu x h v hf hx hh h4
    obtain ⟨fu, rfl⟩ : ∃ f, fu = f + 1 := ⟨fu - 1, by omega⟩
    have : x = 304 := by omega
    subst this
    refine ⟨v, by rw [X5_undo_l22, if_pos (by decide), h4], fun _ _ => rfl, fun i => by rw [if_neg (by omega)]⟩
  | succ n ih =>
    intro fu x h v hf hx hh h4
    obtain ⟨fu, rfl⟩ : ∃ f, fu = f + 1 := ⟨fu - 1, by omega⟩
    have hcmp : ¬ (304 : Int32) ≤ nI x := by
      have : ¬ nI 304 ≤ nI x := by rw [q_le (by decide) (by omega)]; omega
      exact this
    have ei : (304 : Int32) * nI h + nI x = nI (304 * h + x) := by
      have : (304 : Int32) * nI h = nI (304 * h) := pk_mul 304 h
      rw [this, nI_add]
    obtain ⟨v', a1, a2, a3⟩ := ih fu (x + 1) h (setA v 1 (upd (v 1) x (v 2 (304 * h + x)))) (by omega) (by omega) hh (by rw [q_sN v _ (by decide)]; exact h4)
    refine ⟨v', ?_, fun r hr => (a2 r hr).trans (q_sN v _ hr), fun i => ?_⟩
    · rw [X5_undo_l22, if_neg hcmp, h4, ei, q_ld (by omega) (by decide), Option.bind_some, q_st (by omega) (by decide), Option.bind_some, q_1]
      exact a1
    · rw [a3 i, q_sN v _ (by decide), q_sA]
      by_cases e : i = x
      · subst e; rw [if_neg (by omega), q_up, if_pos (by omega)]
      · rw [q_un e]
        by_cases c : x + 1 ≤ i ∧ i < 304
        · rw [if_pos c, if_pos (by omega)]
        · rw [if_neg c, if_neg (by omega)]
theorem take_get {hist : List AS} {h i : Nat} {a : AS} (e : (hist.take h)[i]? = some a) : hist[i]? = some a := by
  rw [List.getElem?_take] at e
  split at e
  · exact e
  · cases e
theorem f_undo {vB vH vO vM : St} {bH : Nat → St} (R : RLs vB vH bH vO vM) (vT vR : St) :
    ∃ ans vB' vH' vM', X4_undo vB vT vH bH vR vO = some (ans, vB', vH') ∧ X5_undo vM = some (ans, vM') ∧ RLs vB' vH' bH vO vM' := by
  obtain ⟨g, hist, n, ch, h1, h2, h3, h4, h5, h6, h7, h8, h9, h10⟩ := R
  rw [X4_undo, X1_restoreLatest, X5_undo, h3.1, h8.1]
  rcases Nat.eq_zero_or_pos hist.length with z | z
  · rw [z, if_pos (by decide), if_pos (by decide), Option.bind_some]
    exact ⟨_, _, _, _, rfl, rfl, g, hist, n, ch, h1, h2, h3, h4, h5, h6, h7, h8, h9, h10⟩
  · obtain ⟨h, hh⟩ : ∃ h, hist.length = h + 1 := ⟨hist.length - 1, by omega⟩
    have h4' : h < 4 := by have := h3.2.1; omega
    obtain ⟨b, hb⟩ : ∃ b, hist[h]? = some b := ⟨hist[h]'(by omega), List.getElem?_eq_getElem _⟩
    have okb : OK b := h4 b (List.mem_of_getElem? hb)
    obtain ⟨u, u1, u2⟩ := q_copyFrom vB (h3.2.2 h b hb)
    have e0 : ¬ nI (h + 1) = (0 : Int32) := fun e => by
      have := (nI_eq (a := h + 1) (b := 0) (by omega) (by decide)).mp e
      omega
    have e1 : ¬ nI h < (0 : Int32) := nI_pos (by omega)
    have e2 : ¬ (4 : Int32) ≤ nI h := by
      have : ¬ nI 4 ≤ nI h := by rw [q_le (by decide) (by omega)]; omega
      exact this
    obtain ⟨w, w1, w2, w3⟩ := m_undo_l 304 FU 0 h (setI vM 4 (nI h)) (by decide) (by omega) h4' setI_s
    have w1' : X5_undo_l22 FU (setI vM 4 (nI h)) (0 : Int32) = some (nI h, w) := w1
    rw [hh, nI_pred, if_neg e1, if_neg e2, if_neg e0, w1']
    have hl : (hist.take h).length = h := by rw [List.length_take]; omega
    have fin : RLs u (setI vH 1 (nI h)) bH vO w := by
      refine ⟨b, hist.take h, n, ch, u2, okb, ⟨by rw [setI_s, hl], by omega, fun i a e => h3.2.2 i a (take_get e)⟩, fun x hx => h4 x (List.mem_of_mem_take hx), h5, h6, ?_, ⟨by rw [w2 99 (by decide), setI_s, hl], by omega, fun i a e => ?_⟩, by rw [w2 99 (by decide), setI_n (by decide)]; exact h9, by rw [w2 99 (by decide), setI_n (by decide)]; exact h10.1, fun i hi => by rw [w2 7 (by decide), setI_r (by decide)]; exact h10.2 i hi⟩
      · refine (h8.2.2 h b hb).cong (fun j hj => ?_)
        rw [w3 j, if_pos (by omega), setI_r (by decide)]
      · have := h8.2.2 i a (take_get e)
        rw [w2 2 (by decide), setI_r (by decide)]
        exact this
    have cs : h = 0 ∨ h = 1 ∨ h = 2 ∨ h = 3 := by omega
    rcases cs with rfl | rfl | rfl | rfl
    · rw [if_pos (by decide), u1, Option.bind_some, Option.bind_some]
      exact ⟨_, _, _, _, rfl, rfl, fin⟩
    · rw [if_neg (by decide), if_pos (by decide), u1, Option.bind_some, Option.bind_some]
      exact ⟨_, _, _, _, rfl, rfl, fin⟩
    · rw [if_neg (by decide), if_neg (by decide), if_pos (by decide), u1, Option.bind_some, Option.bind_some]
      exact ⟨_, _, _, _, rfl, rfl, fin⟩
    · rw [if_neg (by decide), if_neg (by decide), if_neg (by decide), if_pos (by decide), u1, Option.bind_some, Option.bind_some]
      exact ⟨_, _, _, _, rfl, rfl, fin⟩
/- fault -/
theorem f_fault {vB vH vO vM : St} {bH : Nat → St} (R : RLs vB vH bH vO vM) (vT vR : St) (p1 : Int32) :
    ∃ ans vT' vR' vO' vM', X4_fault vB vT vH bH vR vO p1 = some (ans, vT', vR', vO') ∧ X5_fault vM p1 = some (ans, vM') ∧ RLs vB vH bH vO' vM' := by
  obtain ⟨g, hist, n, ch, h1, h2, h3, h4, h5, h6, h7, h8, h9, h10⟩ := R
  rw [X4_fault, X5_fault, q_inM, Option.bind_some, ifb, show kIn p1 (0 : Int32).toInt (2 : Int32).toInt = kIn p1 0 2 from rfl]
  cases hk : kIn p1 0 2 with
  | false =>
    refine ⟨-1000001, vT, vR, vO, vM, ?_, rfl, g, hist, n, ch, h1, h2, h3, h4, h5, h6, h7, h8, h9, h10⟩
    by_cases c1 : p1 < 0
    · rw [if_pos c1]
    · rw [if_neg c1]
      by_cases c2 : p1 ≤ 2
      · rw [lt_i, Int32.toInt_zero] at c1
        rw [le_i, t2] at c2
        have : kIn p1 0 2 = true := kIn_iff.mpr (by omega)
        rw [hk] at this; cases this
      · rw [if_neg c2]
  | true =>
    have hk' := kIn_iff.mp hk
    have c1 : ¬ p1 < 0 := by rw [lt_i, Int32.toInt_zero]; omega
    have c2 : p1 ≤ 2 := by rw [le_i, t2]; omega
    simp only [cond_true]
    rw [if_neg c1, if_pos c2]
    obtain ⟨u, u1, u2⟩ := q_fresh vT vH bH vR vO h1
    obtain ⟨vO', vB', vR', d1, d2, d3, d4⟩ := c_doAll h5 vR h6 u2 h2
    obtain ⟨g3, g3e, g3f⟩ := q_copies (vM 1) (vM 3)
    obtain ⟨w, w1, w2, w3, w4, w5⟩ := m_plays h5 (v := setA vM 3 g3) (a := g) ⟨by rw [q_sN vM _ (by decide)]; exact h10.1, fun i hi => by rw [q_sN vM _ (by decide)]; exact h10.2 i hi⟩ (by rw [q_sN vM _ (by decide)]; exact h7) h2
    obtain ⟨g1, g1e, g1f⟩ := q_copies (w 3) (w 1)
    have ew3 : w 3 = g3 := by rw [w2.1 3 (by decide) (by decide) (by decide) (by decide) (by decide) (by decide), q_sA]
    have fin : RLs vB vH bH vO' (setA w 1 g1) := by
      refine ⟨g, hist, n, ch, h1, h2, h3, h4, h5, d2, ?_, h8.eq ?_ ?_, ?_, ?_, fun i hi => ?_⟩
      · rw [q_sA]
        exact h7.cong (fun j hj => by rw [g1f j hj, ew3, g3f j hj])
      · rw [q_sN w _ (by decide), w2.2 4 (by decide) (by decide) (by decide) (by decide) (by decide) (by decide) (by decide), q_sN vM _ (by decide)]
      · rw [q_sN w _ (by decide), w2.1 2 (by decide) (by decide) (by decide) (by decide) (by decide) (by decide), q_sN vM _ (by decide)]
      · rw [q_sN w _ (by decide)]; exact w3
      · rw [q_sN w _ (by decide), w2.2 7 (by decide) (by decide) (by decide) (by decide) (by decide) (by decide) (by decide), q_sN vM _ (by decide)]; exact h10.1
      · rw [q_sN w _ (by decide), w2.1 7 (by decide) (by decide) (by decide) (by decide) (by decide) (by decide), q_sN vM _ (by decide)]; exact h10.2 i hi
    rw [u1, Option.bind_some, d1, Option.bind_some, g3e, Option.bind_some, w1, Option.bind_some, g1e, Option.bind_some]
    dsimp only
    cases hr : (plA n ch g).1 with
    | none =>
      rw [show (if isN (none : Option (Nat × Int32 × Int32)) = true then (1 : Int32) else 0) = 1 from rfl, if_neg (show ¬ (1 : Int32) = 0 by decide), if_neg (show ¬ (1 : Int32) = 0 by decide)]
      exact ⟨_, _, _, _, _, rfl, rfl, fin⟩
    | some q =>
      obtain ⟨pl, rs, cs⟩ := q
      obtain ⟨x1, x2, x3⟩ := d4 pl rs cs hr
      obtain ⟨y1, y2, y3⟩ := w5 pl rs cs hr
      rw [show (if isN (some (pl, rs, cs) : Option (Nat × Int32 × Int32)) = true then (1 : Int32) else 0) = 0 from rfl, if_pos rfl, if_pos rfl]
      by_cases z0 : p1 = 0
      · rw [if_pos z0, if_pos z0, X2_faultPlace, Option.bind_some, x1, y1]
        exact ⟨_, _, _, _, _, rfl, rfl, fin⟩
      · rw [if_neg z0, if_neg z0]
        by_cases z1 : p1 = 1
        · rw [if_pos z1, if_pos z1, X2_faultReason, Option.bind_some, x2, y2]
          exact ⟨_, _, _, _, _, rfl, rfl, fin⟩
        · rw [if_neg z1, if_neg z1, X2_faultCause, Option.bind_some, x3, y3]
          exact ⟨_, _, _, _, _, rfl, rfl, fin⟩

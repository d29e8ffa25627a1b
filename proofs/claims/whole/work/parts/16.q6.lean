/-! PURE: copies, the history. -/
def cpF (n : Nat) (f g : Nat → Int32) : Nat → Int32 := fun k => if k < n then f k else g k
theorem cpF_lt {n k : Nat} {f g : Nat → Int32} (h : k < n) : cpF n f g k = f k := if_pos h
theorem q_copyRow {n : Nat} (hn : n < 2 ^ 31) (f g : Nat → Int32) : X4_copyRow f g n n = some (cpF n f g) := by
  have e : (if (Int32.ofNat n) < (Int32.ofNat n) then (Int32.ofNat n) else (Int32.ofNat n)) = nI n := by split <;> rfl
  rw [X4_copyRow, e]
  unfold cpA
  rw [if_pos ⟨by decide, by decide, by rw [nI_toInt hn]; omega, by rw [nI_toInt hn, Int32.toInt_zero]; omega, by rw [nI_toInt hn, Int32.toInt_zero]; omega⟩]
  show some (va_cpy f g 0 0 (nI n).toNatClampNeg) = some (cpF n f g)
  rw [nI_clamp hn]
  congr 1
  funext k
  unfold va_cpy cpF
  by_cases h : k < n
  · rw [if_pos (by omega), if_pos h, Nat.zero_add, Nat.sub_zero]
  · rw [if_neg (by omega), if_neg h]
theorem q_copyFrom (v : St) {w : St} {a : AS} (h : RC w a) : ∃ v', X0_copyFrom v w = some v' ∧ RC v' a := by
  obtain ⟨⟨h1, h2, h3⟩, h4, h5⟩ := h
  refine ⟨setA (setA (setA (setA (setA (setA (setA (setA (setA (setA (setA (setA (setA v 1 (cpF 26 (w 1) (v 1))) 2 (cpF 8 (w 2) (v 2))) 3 (cpF 8 (w 3) (v 3))) 4 (cpF 8 (w 4) (v 4))) 5 (cpF 8 (w 5) (v 5))) 6 (cpF 8 (w 6) (v 6))) 7 (cpF 8 (w 7) (v 7))) 8 (cpF 40 (w 8) (v 8))) 9 (cpF 40 (w 9) (v 9))) 10 (cpF 40 (w 10) (v 10))) 11 (cpF 40 (w 11) (v 11))) 12 (cpF 40 (w 12) (v 12))) 13 (cpF 40 (w 13) (v 13)), ?_, ?_⟩
  · rw [X0_copyFrom, q_copyRow (by decide), Option.bind_some, q_copyRow (by decide), Option.bind_some, q_copyRow (by decide), Option.bind_some, q_copyRow (by decide), Option.bind_some, q_copyRow (by decide), Option.bind_some, q_copyRow (by decide), Option.bind_some, q_copyRow (by decide), Option.bind_some, q_copyRow (by decide), Option.bind_some, q_copyRow (by decide), Option.bind_some, q_copyRow (by decide), Option.bind_some, q_copyRow (by decide), Option.bind_some, q_copyRow (by decide), Option.bind_some, q_copyRow (by decide), Option.bind_some]
  · refine ⟨⟨?_, h2, ?_⟩, fun i hi h => ?_, fun r p a1 a2 a3 => ?_⟩
    · show cpF 26 (w 1) (v 1) 2 = _
      rw [cpF_lt (by decide), h1]
    · rw [lotsF_cong (h := lotC w) _ _ (fun j _ hj => ?_)]
      · exact h3
      · show (cpF 40 (w 8) (v 8) j, cpF 40 (w 9) (v 9) j, cpF 40 (w 10) (v 10) j, cpF 40 (w 11) (v 11) j, cpF 40 (w 12) (v 12) j, cpF 40 (w 13) (v 13) j) = _
        rw [cpF_lt (by omega), cpF_lt (by omega), cpF_lt (by omega), cpF_lt (by omega), cpF_lt (by omega), cpF_lt (by omega)]
        rfl
    · show cpF 26 (w 1) (v 1) i = _
      rw [cpF_lt hi]
      exact h4 i hi h
    · rcases (by omega : r = 2 ∨ r = 3 ∨ r = 4 ∨ r = 5 ∨ r = 6 ∨ r = 7) with h | h | h | h | h | h <;> subst h
      · show cpF 8 (w 2) (v 2) p = _
        rw [cpF_lt a3]; exact h5 _ p a1 a2 a3
      · show cpF 8 (w 3) (v 3) p = _
        rw [cpF_lt a3]; exact h5 _ p a1 a2 a3
      · show cpF 8 (w 4) (v 4) p = _
        rw [cpF_lt a3]; exact h5 _ p a1 a2 a3
      · show cpF 8 (w 5) (v 5) p = _
        rw [cpF_lt a3]; exact h5 _ p a1 a2 a3
      · show cpF 8 (w 6) (v 6) p = _
        rw [cpF_lt a3]; exact h5 _ p a1 a2 a3
      · show cpF 8 (w 7) (v 7) p = _
        rw [cpF_lt a3]; exact h5 _ p a1 a2 a3
theorem q_fresh {vB : St} (vT vH : St) (bH : Nat → St) (vR vO : St) {a : AS} (h : RC vB a) : ∃ v', X4_freshTrial vB vT vH bH vR vO = some v' ∧ RC v' a := by
  obtain ⟨v', e, r⟩ := q_copyFrom vT h
  exact ⟨v', by rw [X4_freshTrial, e]; rfl, r⟩
theorem setB_s {b : Nat → St} {k : Nat} {v : St} : setB b k v k = v := by
  unfold setB
  rw [show Nat.beq k k = true from Nat.beq_refl k]
  rfl
theorem setB_n {b : Nat → St} {k j : Nat} {v : St} (h : j ≠ k) : setB b k v j = b j := by
  unfold setB
  rw [nbeq_ne h]
  rfl
theorem setI_s {v : St} {k : Nat} {x : Int32} : setI v k x 99 k = x := by
  show (bif Nat.beq k k then x else v 99 k) = x
  rw [show Nat.beq k k = true from Nat.beq_refl k]
  rfl
theorem setI_n {v : St} {k j : Nat} {x : Int32} (h : j ≠ k) : setI v k x 99 j = v 99 j := by
  show (bif Nat.beq j k then x else v 99 j) = v 99 j
  rw [nbeq_ne h]
  rfl
theorem setI_r {v : St} {k r : Nat} {x : Int32} (h : r ≠ 99) : setI v k x r = v r := by
  unfold setI
  rw [nbeq_ne h]
  rfl
def pushH (hist : List AS) (a : AS) : List AS := (if hist.length = 4 then hist.tail else hist) ++ [a]
def HC (vH : St) (bH : Nat → St) (hist : List AS) : Prop := vH 99 1 = nI hist.length ∧ hist.length ≤ 4 ∧ ∀ i a, hist[i]? = some a → RC (bH i) a
theorem HC.put {vH : St} {bH : Nat → St} {hist : List AS} (h : HC vH bH hist) {u : St} {a : AS} (hu : RC u a) (hl : hist.length < 4) : HC (setI vH 1 (vH 99 1 + (1 : Int32))) (setB bH hist.length u) (hist ++ [a]) := by
  obtain ⟨h1, h2, h3⟩ := h
  refine ⟨by rw [setI_s, h1, q_1]; simp, by simp; omega, fun i b hb => ?_⟩
  by_cases hi : i = hist.length
  · subst hi
    rw [List.getElem?_append_right (Nat.le_refl _), Nat.sub_self] at hb
    cases hb
    rw [setB_s]; exact hu
  · rw [setB_n hi]
    by_cases hi2 : i < hist.length
    · rw [List.getElem?_append_left hi2] at hb; exact h3 i b hb
    · rw [List.getElem?_eq_none (by simp; omega)] at hb; cases hb
theorem q_keep12 {vB vH : St} {bH : Nat → St} {hist : List AS} {a : AS} (h : HC vH bH hist) (hB : RC vB a) (hl : hist.length < 4) : ∃ o, X1_keep_b12 vB vH bH = some o ∧ HC o.1 o.2 (hist ++ [a]) := by
  have h1 := h.1
  obtain ⟨u, e, r⟩ := q_copyFrom (bH hist.length) hB
  have hp := h.put r hl
  refine ⟨(_, _), ?_, hp⟩
  rw [X1_keep_b12, h1, if_neg (nI_pos (by omega)), if_neg (show ¬ ((4 : Int32) ≤ nI hist.length) from nI_ge (a := hist.length) (b := 4) hl (by decide))]
  rcases (by omega : hist.length = 0 ∨ hist.length = 1 ∨ hist.length = 2 ∨ hist.length = 3) with z | z | z | z <;> rw [z] at e ⊢
  · rw [if_pos (by decide), e]; rfl
  · rw [if_neg (by decide), if_pos (by decide), e]; rfl
  · rw [if_neg (by decide), if_neg (by decide), if_pos (by decide), e]; rfl
  · rw [if_neg (by decide), if_neg (by decide), if_neg (by decide), if_pos (by decide), e]; rfl
theorem q_dropOld {vH : St} {bH : Nat → St} {hist : List AS} (h : HC vH bH hist) (hl : hist.length = 4) : ∃ o, X1_dropOldest vH bH = some o ∧ HC o.1 o.2 hist.tail := by
  obtain ⟨h1, h2, h3⟩ := h
  match hist, hl with
  | [a0, a1, a2, a3], _ =>
    obtain ⟨u1, e1, r1⟩ := q_copyFrom (bH 0) (h3 1 a1 rfl)
    obtain ⟨u2, e2, r2⟩ := q_copyFrom (bH 1) (h3 2 a2 rfl)
    obtain ⟨u3, e3, r3⟩ := q_copyFrom (bH 2) (h3 3 a3 rfl)
    have e9 : setI vH 1 ((vH 99 1) - (1 : Int32)) 99 1 = nI 3 := by
      rw [setI_s, h1]
      exact nI_pred 3
    refine ⟨(setI vH 1 ((vH 99 1) - (1 : Int32)), setB (setB (setB bH 0 u1) 1 u2) 2 u3), by rw [X1_dropOldest, e1, Option.bind_some, e2, Option.bind_some, e3, Option.bind_some], e9, Nat.le_of_ble_eq_true rfl, fun i b hb => ?_⟩
    match i, hb with
    | 0, hb => cases hb; exact r1
    | 1, hb => cases hb; exact r2
    | 2, hb => cases hb; exact r3
    | i + 3, hb => simp at hb
theorem q_keep {vB vH : St} {bH : Nat → St} {hist : List AS} {a : AS} (h : HC vH bH hist) (hB : RC vB a) : ∃ o, X1_keep vH bH vB = some o ∧ HC o.1 o.2 (pushH hist a) := by
  by_cases hl : hist.length = 4
  · obtain ⟨o, e, r⟩ := q_dropOld h hl
    obtain ⟨o2, e2, r2⟩ := q_keep12 r hB (by simp; omega)
    refine ⟨o2, ?_, by unfold pushH; rw [if_pos hl]; exact r2⟩
    rw [X1_keep, h.1, hl, if_neg (by decide), e, Option.bind_some, e2]
  · have hl4 : hist.length < 4 := by have := h.2.1; omega
    obtain ⟨o2, e2, r2⟩ := q_keep12 h hB hl4
    refine ⟨o2, ?_, by unfold pushH; rw [if_neg hl]; exact r2⟩
    rw [X1_keep, h.1, if_pos (show nI hist.length < (4 : Int32) from nI_lt (a := hist.length) (b := 4) hl4 (by decide)), e2]
theorem q_settledE (vB vT vH : St) (bH : Nat → St) (vR vO : St) {ans : Int32} (h : ans < 0) : X4_settled vB vT vH bH vR vO ans = some (ans, vB, vH, bH) := by
  rw [X4_settled, if_pos h]
theorem q_settled {vB vT vH : St} {bH : Nat → St} (vR vO : St) {hist : List AS} {a a' : AS} {ans : Int32} (hB : RC vB a) (hT : RC vT a') (hH : HC vH bH hist) (h : ¬ ans < 0) :
    ∃ vB' vH' bH', X4_settled vB vT vH bH vR vO ans = some (ans, vB', vH', bH') ∧ RC vB' a' ∧ HC vH' bH' (pushH hist a) := by
  obtain ⟨o, e, r⟩ := q_keep hH hB
  obtain ⟨u, e2, r2⟩ := q_copyFrom vB hT
  exact ⟨u, o.1, o.2, by rw [X4_settled, if_neg h, e, Option.bind_some, e2, Option.bind_some], r2, r⟩
/-! the reference's history -/
theorem RM.cong {s s' : Nat → Int32} {a : AS} (h : RM s a) (e : ∀ j, j < 304 → s' j = s j) : RM s' a := by
  refine ⟨h.1.fr (e _ (by decide)) (fun i hi => e i (by omega)), fun i hi => ?_, fun r p a1 a2 a3 => ?_⟩
  · rw [e _ (mapN_ge hi).2.2]; exact h.2.1 i hi
  · have := offP_lt a1 a2
    rw [e _ (by omega)]; exact h.2.2 r p a1 a2 a3
def HM (v : St) (hist : List AS) : Prop := v 99 4 = nI hist.length ∧ hist.length ≤ 4 ∧ ∀ i a, hist[i]? = some a → RM (fun j => v 2 (304 * i + j)) a
theorem q_chg59 : ∀ (n fu x h : Nat) (v : St), n < fu → x + n = 304 → h < 4 → v 99 4 = nI h →
    ∃ v', X5_changes_l59 fu v (nI x) = some v' ∧ v' 99 4 = nI (h + 1) ∧ (∀ i, i ≠ 4 → v' 99 i = v 99 i) ∧ (∀ i, v' 2 i = if 304 * h + x ≤ i ∧ i < 304 * h + 304 then v 1 (i - 304 * h) else v 2 i) ∧ (∀ r, r ≠ 2 → r ≠ 99 → v' r = v r) := by
  intro n
  induction n with
  | zero =>
    intro fu x h v hf hx h4 hv
    cases fu with
    | zero => omega
    | succ fu =>
      refine ⟨setI v 4 (v 99 4 + 1), ?_, by rw [setI_s, hv, q_1], fun i hi => setI_n hi, fun i => by rw [setI_r (by decide), if_neg (by omega)], fun r _ h2 => setI_r h2⟩
      rw [X5_changes_l59, if_pos (show (304 : Int32) ≤ nI x from nI_le (a := 304) (b := x) (by omega) (by omega)), X5_changes_b93]
  | succ n ih =>
    intro fu x h v hf hx h4 hv
    cases fu with
    | zero => omega
    | succ fu =>
      obtain ⟨v', e, a, b, c, d⟩ := ih fu (x + 1) h (setA v 2 (upd (v 2) (304 * h + x) (v 1 x))) (by omega) (by omega) h4 (by rw [q_sN v _ (by decide), hv])
      refine ⟨v', ?_, a, fun i hi => by rw [b i hi, q_sN v _ (by decide)], fun i => ?_, fun r h2 h9 => by rw [d r h2 h9, q_sN v _ h2]⟩
      · rw [X5_changes_l59, if_neg (show ¬ ((304 : Int32) ≤ nI x) from nI_ge (a := x) (b := 304) (by omega) (by decide)), q_ld (by omega) (by decide), Option.bind_some, hv, show (304 : Int32) = nI 304 from rfl, pk_mul, nI_add, q_st (by omega) (by decide), Option.bind_some, q_1]
        exact e
      · rw [c i, q_sN v _ (by decide), q_sA]
        by_cases h1 : 304 * h + (x + 1) ≤ i ∧ i < 304 * h + 304
        · rw [if_pos h1, if_pos (by omega)]
        · rw [if_neg h1]
          by_cases h2 : i = 304 * h + x
          · subst h2
            rw [q_up, if_pos (by omega)]
            congr 1; omega
          · rw [q_un h2, if_neg (by omega)]
theorem q_chg18 : ∀ (n fu x : Nat) (v : St), n < fu → x + n = 912 →
    ∃ v', X5_changes_l18 fu v (nI x) = X5_changes_b47 v' ∧ (∀ i, v' 2 i = if x ≤ i ∧ i < 912 then v 2 (i + 304) else v 2 i) ∧ (∀ r, r ≠ 2 → v' r = v r) := by
  intro n
  induction n with
  | zero =>
    intro fu x v hf hx
    cases fu with
    | zero => omega
    | succ fu =>
      refine ⟨v, ?_, fun i => by rw [if_neg (by omega)], fun r _ => rfl⟩
      rw [X5_changes_l18, if_pos (show (912 : Int32) ≤ nI x from nI_le (a := 912) (b := x) (by omega) (by omega))]
  | succ n ih =>
    intro fu x v hf hx
    cases fu with
    | zero => omega
    | succ fu =>
      obtain ⟨v', e, a, b⟩ := ih fu (x + 1) (setA v 2 (upd (v 2) x (v 2 (x + 304)))) (by omega) (by omega)
      refine ⟨v', ?_, fun i => ?_, fun r h2 => by rw [b r h2, q_sN v _ h2]⟩
      · rw [X5_changes_l18, if_neg (show ¬ ((912 : Int32) ≤ nI x) from nI_ge (a := x) (b := 912) (by omega) (by decide)), show (304 : Int32) = nI 304 from rfl, nI_add, q_ld (by omega) (by decide), Option.bind_some, q_st (by omega) (by decide), Option.bind_some, q_1]
        exact e
      · rw [a i, q_sA]
        by_cases h1 : x + 1 ≤ i ∧ i < 912
        · rw [if_pos h1, if_pos (by omega), q_un (by omega)]
        · rw [if_neg h1]
          by_cases h2 : i = x
          · subst h2
            rw [q_up, if_pos (by omega)]
          · rw [q_un h2, if_neg (by omega)]
theorem HM.put {v v' : St} {hist : List AS} {a : AS} (h : HM v hist) (hr : RM (v 1) a) (hl : hist.length < 4) (h4 : v' 99 4 = nI (hist.length + 1)) (h2 : ∀ i, v' 2 i = if 304 * hist.length + 0 ≤ i ∧ i < 304 * hist.length + 304 then v 1 (i - 304 * hist.length) else v 2 i) : HM v' (hist ++ [a]) := by
  obtain ⟨a1, a2, a3⟩ := h
  refine ⟨by rw [h4]; simp, by simp; omega, fun i b hb => ?_⟩
  by_cases hi : i = hist.length
  · subst hi
    rw [List.getElem?_append_right (Nat.le_refl _), Nat.sub_self] at hb
    cases hb
    refine hr.cong (fun j hj => ?_)
    show v' 2 _ = _
    rw [h2, if_pos (by omega)]
    congr 1; omega
  · by_cases hi2 : i < hist.length
    · rw [List.getElem?_append_left hi2] at hb
      refine (a3 i b hb).cong (fun j hj => ?_)
      show v' 2 _ = v 2 _
      rw [h2, if_neg (by omega)]
    · rw [List.getElem?_eq_none (by simp; omega)] at hb; cases hb
theorem q_changes {v : St} {hist : List AS} {a : AS} (hr : v 99 5 = 0) (h : HM v hist) (hm : RM (v 1) a) :
    ∃ v', X5_changes v = some v' ∧ HM v' (pushH hist a) ∧ (∀ i, i ≠ 4 → v' 99 i = v 99 i) ∧ (∀ r, r ≠ 2 → r ≠ 99 → v' r = v r) := by
  by_cases hl : hist.length = 4
  · obtain ⟨w, e1, a1, a2⟩ := q_chg18 912 FU 0 v (by unfold FU; omega) rfl
    have hw4 : w 99 4 = nI 4 := by rw [a2 99 (by decide), h.1, hl]
    generalize hz : setI w 4 (w 99 4 - 1) = z
    have hz4 : z 99 4 = nI 3 := by rw [← hz, setI_s, hw4]; rfl
    have hz2 : ∀ i, z 2 i = if 0 ≤ i ∧ i < 912 then v 2 (i + 304) else v 2 i := fun i => by rw [← hz, setI_r (by decide), a1 i]
    have hz1 : z 1 = v 1 := by rw [← hz, setI_r (by decide), a2 1 (by decide)]
    obtain ⟨v', e2, b1, b2, b3, b4⟩ := q_chg59 304 FU 0 3 z (by unfold FU; omega) rfl (by decide) hz4
    have hHM : HM z hist.tail := by
      refine ⟨by rw [hz4]; simp [hl], by simp; omega, fun i b hb => ?_⟩
      rw [List.getElem?_tail] at hb
      have hi : i + 1 < hist.length := (List.getElem?_eq_some_iff.mp hb).1
      refine (h.2.2 (i + 1) b hb).cong (fun j hj => ?_)
      show z 2 _ = v 2 _
      rw [hz2, if_pos (by omega), show 304 * i + j + 304 = 304 * (i + 1) + j by omega]
    have hlt : hist.tail.length = 3 := by simp [hl]
    refine ⟨v', ?_, ?_, fun i hi => ?_, fun r h2 h9 => ?_⟩
    · rw [X5_changes, if_pos hr, h.1, hl, if_pos (by decide)]
      refine e1.trans ?_
      rw [X5_changes_b47, hz]
      exact e2
    · unfold pushH
      rw [if_pos hl]
      refine hHM.put (by rw [hz1]; exact hm) (by omega) (by rw [b1, hlt]) (fun i => ?_)
      rw [b3 i, hlt]
    · rw [b2 i hi, ← hz, setI_n hi, a2 99 (by decide)]
    · rw [b4 r h2 h9, ← hz, setI_r h9, a2 r h2]
  · have hl4 : hist.length < 4 := by have := h.2.1; omega
    obtain ⟨v', e2, b1, b2, b3, b4⟩ := q_chg59 304 FU 0 hist.length v (by unfold FU; omega) rfl hl4 h.1
    refine ⟨v', ?_, ?_, b2, b4⟩
    · rw [X5_changes, if_pos hr, if_neg (fun e => hl ?_)]
      · exact e2
      · rw [h.1] at e
        exact (nI_eq (a := hist.length) (b := 4) (by omega) (by decide)).mp e
    · unfold pushH
      rw [if_neg hl]
      exact h.put hm hl4 b1 b3
theorem q_changes1 {v : St} (hr : ¬ v 99 5 = 0) : X5_changes v = some v := by rw [X5_changes, if_neg hr]
theorem q_copies_l (f : Nat → Int32) : ∀ (n fu x : Nat) (g : Nat → Int32), n < fu → x + n = 304 → ∃ g', X5_copies_l2 f 304 304 fu g (nI x) = some g' ∧ ∀ i, g' i = if x ≤ i ∧ i < 304 then f i else g i := by
  intro n
  induction n with
  | zero =>
    intro fu x g hf hx
    cases fu with
    | zero => omega
    | succ fu =>
      refine ⟨g, ?_, fun i => by rw [if_neg (by omega)]⟩
      rw [X5_copies_l2, if_pos (show (304 : Int32) ≤ nI x from nI_le (a := 304) (b := x) (by omega) (by omega))]
  | succ n ih =>
    intro fu x g hf hx
    cases fu with
    | zero => omega
    | succ fu =>
      obtain ⟨g', e, a⟩ := ih fu (x + 1) (upd g x (f x)) (by omega) (by omega)
      refine ⟨g', ?_, fun i => ?_⟩
      · rw [X5_copies_l2, if_neg (show ¬ ((304 : Int32) ≤ nI x) from nI_ge (a := x) (b := 304) (by omega) (by decide)), q_ld (by omega) (by decide), Option.bind_some, q_st (by omega) (by decide), Option.bind_some, q_1]
        exact e
      · rw [a i]
        by_cases h1 : x + 1 ≤ i ∧ i < 304
        · rw [if_pos h1, if_pos (by omega)]
        · rw [if_neg h1]
          by_cases h2 : i = x
          · subst h2; rw [q_up, if_pos (by omega)]
          · rw [q_un h2, if_neg (by omega)]
theorem q_copies (f g : Nat → Int32) : ∃ g', X5_copies f g 304 304 = some g' ∧ ∀ i, i < 304 → g' i = f i := by
  obtain ⟨g', e, a⟩ := q_copies_l f 304 FU 0 g (by unfold FU; omega) rfl
  exact ⟨g', e, fun i hi => by rw [a i, if_pos (by omega)]⟩

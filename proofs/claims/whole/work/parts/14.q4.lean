/-! PURE: the reference's lot that is taken first, and its taking. -/
theorem q_oldest_l (v : St) (d c kd : Int32) : ∀ (n fu k : Nat) (cur : Option (Nat × Int32)), n < fu → k + n ≤ 40 → v 1 290 = nI (k + n) → (∀ j a, cur = some (j, a) → j < 40 ∧ v 1 (6 * j + 4) = a) →
    X5_oldest_l7 v d c kd fu (fIdx (-1000004) cur) (nI k) = some (fIdx (-1000004) (oldF (mtE d c kd) (lotsF (lotM (v 1)) k n) k cur)) := by
  intro n
  induction n with
  | zero =>
    intro fu k cur hf hk hL hc
    cases fu with
    | zero => omega
    | succ fu =>
      rw [X5_oldest_l7, m290, Option.bind_some, hL, if_pos (nI_le (by omega) (by omega))]
      rfl
  | succ n ih =>
    intro fu k cur hf hk hL hc
    cases fu with
    | zero => omega
    | succ fu =>
      have hk40 : k < 40 := by omega
      have e := fun cur hc => ih fu (k + 1) cur (by omega) (by omega) (by rw [hL]; congr 1; omega) hc
      have h67 : ∀ x, X5_oldest_b67 v d c kd (X5_oldest_l7 v d c kd fu) x (nI k) = X5_oldest_l7 v d c kd fu x (nI (k + 1)) := by
        intro x
        rw [X5_oldest_b67, X5_oldest_b68, if_pos rfl, q_1]
      rw [X5_oldest_l7, m290, Option.bind_some, hL, if_neg (nI_ge (by omega) (by omega)), q_of0 v hk40, Option.bind_some, q_of1 v hk40, Option.bind_some, q_of2 v hk40, Option.bind_some, q_of3 v hk40, Option.bind_some, h67, lotsF_cons, oldF]
      have skip : ∀ x : Bool, (mtE d c kd (lotM (v 1) k) && pos (lotM (v 1) k)) = false → X5_oldest_l7 v d c kd fu (fIdx (-1000004) cur) (nI (k + 1)) = some (fIdx (-1000004) (oldF (mtE d c kd) (lotsF (lotM (v 1)) (k + 1) n) (k + 1) (if (mtE d c kd (lotM (v 1) k) && pos (lotM (v 1) k) && x) = true then some (k, (lotM (v 1) k).a) else cur))) := by
        intro x hx
        rw [hx, e cur hc]
        rfl
      by_cases h1 : v 1 (6 * k + 0) = d
      · rw [if_pos h1]
        by_cases h2 : v 1 (6 * k + 1) = c
        · rw [if_pos h2]
          by_cases h3 : v 1 (6 * k + 2) = kd
          · rw [if_pos h3]
            have hm : mtE d c kd (lotM (v 1) k) = true := mtE_t (l := lotM (v 1) k) h1 h2 h3
            by_cases hp : v 1 (6 * k + 3) ≤ 0
            · rw [if_pos hp]
              exact skip _ (by rw [pos_f (l := lotM (v 1) k) hp, Bool.and_false])
            · rw [if_neg hp, hm, pos_t (l := lotM (v 1) k) hp, X5_oldest_b68, if_neg (by decide), q_of4 v hk40, q_1]
              have hnew : ∀ j a, some (k, (lotM (v 1) k).a) = some (j, a) → j < 40 ∧ v 1 (6 * j + 4) = a := by
                intro j a h
                cases h
                exact ⟨hk40, rfl⟩
              match cur, hc with
              | none, hc =>
                rw [if_pos (show fIdx (-1000004) none < (0 : Int32) by decide)]
                exact e (some (k, (lotM (v 1) k).a)) hnew
              | some (j, b), hc =>
                obtain ⟨hj, hb⟩ := hc j b rfl
                rw [if_neg (show ¬ fIdx (-1000004) (some (j, b)) < (0 : Int32) from nI_pos (by omega)), Option.bind_some, show fIdx (-1000004) (some (j, b)) = nI j from rfl, q_of4 v hj, Option.bind_some]
                by_cases ha : v 1 (6 * k + 4) ≤ v 1 (6 * j + 4)
                · rw [if_pos ha]
                  have hbt : better (some (j, b)) (lotM (v 1) k).a = false := by
                    rw [← hb]
                    exact decide_eq_false (Int32.not_lt.mpr ha)
                  rw [hbt]
                  exact e (some (j, b)) hc
                · rw [if_neg ha]
                  have hbt : better (some (j, b)) (lotM (v 1) k).a = true := by
                    rw [← hb]
                    exact decide_eq_true (Int32.not_le.mp ha)
                  rw [hbt]
                  exact e (some (k, (lotM (v 1) k).a)) hnew
          · rw [if_neg h3]
            exact skip _ (by rw [Bool.eq_false_iff.mpr (mtE_f (l := lotM (v 1) k) (fun z => h3 z.2.2)), Bool.false_and])
        · rw [if_neg h2]
          exact skip _ (by rw [Bool.eq_false_iff.mpr (mtE_f (l := lotM (v 1) k) (fun z => h2 z.2.1)), Bool.false_and])
      · rw [if_neg h1]
        exact skip _ (by rw [Bool.eq_false_iff.mpr (mtE_f (l := lotM (v 1) k) (fun z => h1 z.1)), Bool.false_and])
theorem q_oldest {v : St} {ls : List Lot} (h : LM (v 1) ls) (d c kd : Int32) : X5_oldest v d c kd = some (fIdx (-1000004) (oldF (mtE d c kd) ls 0 none)) := by
  have e := q_oldest_l v d c kd ls.length FU 0 none (by unfold FU; have := h.2.1; omega) (by have := h.2.1; omega) (by rw [h.1]; congr 1; omega) (fun j a h => by cases h)
  rw [← h.2.2] at e
  exact e
/-- a field of one lot written -/
theorem lotM_upd (s : Nat → Int32) {k i : Nat} (x : Int32) (h : i < 6 * k ∨ 6 * k + 6 ≤ i) : lotM (upd s i x) k = lotM s k := by
  simp only [lotM]
  rw [q_un (by omega), q_un (by omega), q_un (by omega), q_un (by omega), q_un (by omega), q_un (by omega)]
theorem lotM_n (s : Nat → Int32) (k : Nat) (x : Int32) : lotM (upd s (6 * k + 3) x) k = withN (lotM s k) x := by
  simp only [lotM, withN, Lot.d, Lot.c, Lot.k, Lot.a, Lot.p]
  rw [q_up, q_un (by omega), q_un (by omega), q_un (by omega), q_un (by omega), q_un (by omega)]
theorem lotM_set {v : St} {ls : List Lot} (h : LM (v 1) ls) {j : Nat} (hj : j < ls.length) (x : Int32) : LM ((setA v 1 (upd (v 1) (6 * j + 3) x)) 1) (setN ls j x) := by
  have h40 := h.2.1
  refine ⟨by rw [setN_len, q_sA, q_un (by omega)]; exact h.1, by rw [setN_len]; exact h.2.1, ?_⟩
  rw [setN_len, q_sA]
  apply List.ext_getElem?
  intro k
  rw [setN_get]
  by_cases hk : k < ls.length
  · rw [lotsF_get _ _ _ _ hk, Nat.zero_add, LM.get h hk]
    by_cases hkj : k = j
    · subst hkj
      rw [if_pos rfl, lotM_n]
      rfl
    · rw [if_neg hkj, lotM_upd _ _ (by omega)]
  · have hn : ls[k]? = none := List.getElem?_eq_none (by omega)
    have hn2 : (lotsF (lotM (upd (v 1) (6 * j + 3) x)) 0 ls.length)[k]? = none := List.getElem?_eq_none (by rw [lotsF_len]; omega)
    rw [hn, hn2]
    split <;> rfl
theorem mtE_nfree (d c k : Int32) : nfree (mtE d c k) := fun _ _ => rfl
theorem q_takeM_l (d c kd m : Int32) : ∀ (t fu : Nat) (v : St) (q : Nat) (ls : List Lot), t < fu → (q = 0 ∨ cntN (mtE d c kd) ls ≤ t) → q ≤ sumN (mtE d c kd) ls → okN ls → LM (v 1) ls →
    ∃ v', X5_takes_l4 d c kd m fu v (nI q) = some v' ∧ LM (v' 1) ((takL (mtE d c kd) t (nI q) ls).filter pos) ∧ FM v v' := by
  intro t
  have stop : ∀ (fu : Nat) (v : St) (ls : List Lot), LM (v 1) ls → ∃ v', X5_takes_l4 d c kd m (fu + 1) v (nI 0) = some v' ∧ LM (v' 1) (ls.filter pos) ∧ FM v v' := by
    intro fu v ls h
    obtain ⟨v', e, a, b⟩ := q_dropM h
    refine ⟨v', ?_, a, b⟩
    rw [X5_takes_l4, if_pos (show nI 0 ≤ (0 : Int32) by decide), X5_takes_b71, e]
    rfl
  induction t with
  | zero =>
    intro fu v q ls hf hq hs hok h
    have h0 : q = 0 := by
      rcases hq with h0 | h0
      · exact h0
      · have := sum0_of_cnt0 hok (by omega : cntN (mtE d c kd) ls = 0)
        omega
    subst h0
    cases fu with
    | zero => omega
    | succ fu => exact stop fu v ls h
  | succ t ih =>
    intro fu v q ls hf hq hs hok h
    cases fu with
    | zero => omega
    | succ fu =>
      by_cases h0 : q = 0
      · subst h0
        rw [takL, if_pos (show nI 0 ≤ (0 : Int32) by decide)]
        exact stop fu v ls h
      · have hq0 : 0 < q := by omega
        have h360 : sumN (mtE d c kd) ls ≤ 9 * ls.length := sumN_le hok
        have hl40 := h.2.1
        obtain ⟨j, a, l, s, e1, e2, e3, e4, e5, e6, e7, e8, e9, e10, e11, e12, e13⟩ := tak_step (mtE_nfree d c kd) hok hq0 hs (by omega)
        have hj : j < ls.length := (List.getElem?_eq_some_iff.mp e2).1
        have hv : v 1 (6 * j + 3) = nI s := by
          have := LM.get h hj
          rw [e2] at this
          have := congrArg Lot.n (Option.some.inj this)
          rw [e3] at this
          exact this.symm
        rw [takL, if_neg (nI_nle hq0 (by omega)), e1]
        show ∃ v', _ ∧ LM (v' 1) (List.filter pos (takL (mtE d c kd) t (nI q - mn (getN ls j) (nI q)) (setN ls j (getN ls j - mn (getN ls j) (nI q))))) ∧ FM v v'
        rw [e8, e7, e9, e10]
        obtain ⟨v', g1, g2, g3⟩ := ih fu (setA v 1 (upd (v 1) (6 * j + 3) (nI (s - min s q)))) (q - min s q) (setN ls j (nI (s - min s q))) (by omega) (by rcases e13 with e | e; exact Or.inl e; rcases hq with z | z; exact absurd z h0; exact Or.inr (by omega)) (by omega) e11 (lotM_set h hj _)
        refine ⟨v', ?_, g2, (FM.set (Or.inl (by omega))).tr g3⟩
        have hb : ∀ x, x = nI (min s q) → X5_takes_b42 d c kd m (X5_takes_l4 d c kd m fu) v (nI q) (nI j) x = some v' := by
          intro x hx
          rw [X5_takes_b42, q_of3 v (by omega), Option.bind_some, hv, hx, e10, q_lay3 v _ (by omega), Option.bind_some, e9]
          exact g1
        rw [X5_takes_l4, if_neg (nI_nle hq0 (by omega)), q_oldest h, e1, Option.bind_some, show fIdx (-1000004) (some (j, a)) = nI j from rfl, q_of3 v (by omega), Option.bind_some, hv, Option.bind_some]
        by_cases hsq : q ≤ s
        · rw [if_pos (nI_le hsq (by omega)), hb _ (by rw [Nat.min_eq_right hsq])]
        · rw [if_neg (nI_ge (by omega) (by omega)), hb _ (by rw [Nat.min_eq_left (by omega)])]
theorem q_takeM {v : St} {ls : List Lot} (h : LM (v 1) ls) (hok : okN ls) (d c kd : Int32) {q : Nat} (hq : q ≤ sumN (mtE d c kd) ls) : ∃ v', X5_takes v d c kd (nI q) = some v' ∧ LM (v' 1) ((takL (mtE d c kd) 40 (nI q) ls).filter pos) ∧ FM v v' :=
  q_takeM_l d c kd (nI q) 40 FU v q ls (by unfold FU; omega) (Or.inr (Nat.le_trans cntN_le h.2.1)) hq hok h

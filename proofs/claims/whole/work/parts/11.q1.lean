/-! PURE: the class's lots, written. -/
/-- rows and numbers that a change of lots leaves -/
def FR (v v' : St) : Prop := (∀ r, r ≠ 1 → (r < 8 ∨ 13 < r) → v' r = v r) ∧ (∀ i, i ≠ 2 → v' 1 i = v 1 i)
theorem FR.rf (v : St) : FR v v := ⟨fun _ _ _ => rfl, fun _ _ => rfl⟩
theorem FR.tr {u v w : St} (h : FR u v) (k : FR v w) : FR u w := ⟨fun r a b => (k.1 r a b).trans (h.1 r a b), fun i a => (k.2 i a).trans (h.2 i a)⟩
theorem FR.row {v : St} {f : Nat → Int32} {k : Nat} (h : 8 ≤ k) (h2 : k ≤ 13) : FR v (setA v k f) :=
  ⟨fun r _ hr => q_sN v f (by omega), fun i _ => by rw [q_sN v f (by omega)]⟩
theorem FR.cnt {v : St} {x : Int32} : FR v (setA v 1 (upd (v 1) 2 x)) :=
  ⟨fun r hr _ => q_sN v _ (by omega), fun i hi => by rw [q_sA, q_un hi]⟩
theorem FR.six (v : St) (f1 f2 f3 f4 f5 f6 : Nat → Int32) : FR v (setA (setA (setA (setA (setA (setA v 8 f1) 9 f2) 10 f3) 11 f4) 12 f5) 13 f6) :=
  ⟨fun r h1 h2 => by rw [q_sN _ _ (by omega), q_sN _ _ (by omega), q_sN _ _ (by omega), q_sN _ _ (by omega), q_sN _ _ (by omega), q_sN _ _ (by omega)], fun i _ => rfl⟩
def pos (l : Lot) : Bool := decide (0 < l.n)
theorem pos_f {l : Lot} (h : l.n ≤ 0) : pos l = false := decide_eq_false (Int32.not_lt.mpr h)
theorem pos_t {l : Lot} (h : ¬ l.n ≤ 0) : pos l = true := decide_eq_true (Int32.not_le.mp h)
theorem LC.fr {v v' : St} {ls : List Lot} (h : LC v ls) (h1 : v' 1 2 = v 1 2) (h2 : ∀ r, 8 ≤ r → r ≤ 13 → v' r = v r) : LC v' ls := by
  obtain ⟨a, b, c⟩ := h
  refine ⟨by rw [h1, a], b, ?_⟩
  rw [show lotC v' = lotC v from funext fun k => by simp only [lotC]; rw [h2 8 (by decide) (by decide), h2 9 (by decide) (by decide), h2 10 (by decide) (by decide), h2 11 (by decide) (by decide), h2 12 (by decide) (by decide), h2 13 (by decide) (by decide)]]
  exact c
theorem LC.get {v : St} {ls : List Lot} (h : LC v ls) {k : Nat} (hk : k < ls.length) : ls[k]? = some (lotC v k) := by
  have := lotsF_get (lotC v) ls.length 0 k hk
  rw [← h.2.2, Nat.zero_add] at this
  exact this
theorem q_addLot {v : St} {ls : List Lot} (h : LC v ls) (hl : ls.length < 40) (d c k m : Int32) : ∃ v', X0_addLot v d c k m = some v' ∧ LC v' (ls ++ [(d, c, k, m, 0, 0)]) ∧ FR v v' := by
  obtain ⟨h1, h2, h3⟩ := h
  have e : X0_addLot v d c k m = some (setA (setA (setA (setA (setA (setA (setA v 8 (upd (v 8) ls.length d)) 9 (upd (v 9) ls.length c)) 10 (upd (v 10) ls.length k)) 11 (upd (v 11) ls.length m)) 12 (upd (v 12) ls.length 0)) 13 (upd (v 13) ls.length 0)) 1 (upd (v 1) 2 (v 1 2 + 1))) := by
    rw [X0_addLot, q_num2, Option.bind_some, h1, q_put hl (by decide), Option.bind_some, q_put hl (by decide), Option.bind_some, q_put hl (by decide), Option.bind_some, q_put hl (by decide), Option.bind_some, q_put hl (by decide), Option.bind_some, q_put hl (by decide), Option.bind_some, show (2 : Int32) = nI 2 from rfl, q_add (by decide) (by decide), Option.bind_some, h1]
  refine ⟨_, e, ?_, ?_⟩
  · refine ⟨?_, by simp; omega, ?_⟩
    · show upd (v 1) 2 (v 1 2 + 1) 2 = _
      rw [q_up, h1, q_1]
      simp
    · rw [List.length_append, show [(d, c, k, m, (0 : Int32), (0 : Int32))].length = 1 from rfl, lotsF_snoc]
      congr 1
      · rw [h3, lotsF_len]
        refine lotsF_cong _ _ (fun j _ hj => ?_)
        have hj : j ≠ ls.length := by omega
        show (v 8 j, v 9 j, v 10 j, v 11 j, v 12 j, v 13 j) = (upd (v 8) _ _ j, upd (v 9) _ _ j, upd (v 10) _ _ j, upd (v 11) _ _ j, upd (v 12) _ _ j, upd (v 13) _ _ j)
        rw [q_un hj, q_un hj, q_un hj, q_un hj, q_un hj, q_un hj]
      · rw [Nat.zero_add]
        show _ = [(upd (v 8) _ _ _, upd (v 9) _ _ _, upd (v 10) _ _ _, upd (v 11) _ _ _, upd (v 12) _ _ _, upd (v 13) _ _ _)]
        rw [q_up, q_up, q_up, q_up, q_up, q_up]
  · exact (FR.six v (upd (v 8) ls.length d) (upd (v 9) ls.length c) (upd (v 10) ls.length k) (upd (v 11) ls.length m) (upd (v 12) ls.length 0) (upd (v 13) ls.length 0)).tr FR.cnt
theorem q_drop_l : ∀ (n fu : Nat) (v : St) (left k : Nat), n < fu → left ≤ k → k + n ≤ 40 → v 1 2 = nI (k + n) →
    ∃ v', X0_dropEmptyLots_l4 fu v (nI left) (nI k) = some v' ∧ LC v' (lotsF (lotC v) 0 left ++ (lotsF (lotC v) k n).filter pos) ∧ FR v v' := by
  intro n
  induction n with
  | zero =>
    intro fu v left k hf hk h40 hL
    cases fu with
    | zero => omega
    | succ fu =>
      refine ⟨setA v 1 (upd (v 1) 2 (nI left)), ?_, ?_, FR.cnt⟩
      · rw [X0_dropEmptyLots_l4, q_num2, Option.bind_some, hL, if_pos (nI_le (by omega) (by omega)), X0_dropEmptyLots_b129, show (2 : Int32) = nI 2 from rfl, q_put (by decide) (by decide), Option.bind_some]
      · have hl : (lotsF (lotC v) 0 left ++ (lotsF (lotC v) k 0).filter pos) = lotsF (lotC v) 0 left := by simp [lotsF]
        rw [hl]
        refine ⟨?_, by rw [lotsF_len]; omega, ?_⟩
        · rw [lotsF_len]
          rw [q_sA, q_up]
        · rw [lotsF_len]; rfl
  | succ n ih =>
    intro fu v left k hf hk h40 hL
    cases fu with
    | zero => omega
    | succ fu =>
      have hk40 : k < 40 := by omega
      have hl40 : left < 40 := by omega
      rw [X0_dropEmptyLots_l4, q_num2, Option.bind_some, hL, if_neg (nI_ge (by omega) (by omega)), q_at hk40 (by decide), Option.bind_some, q_1]
      by_cases hp : v 11 k ≤ 0
      · rw [if_pos hp]
        obtain ⟨v', e, a, b⟩ := ih fu v left (k + 1) (by omega) (by omega) (by omega) (by rw [hL]; congr 1; omega)
        refine ⟨v', e, ?_, b⟩
        have hn : pos (lotC v k) = false := pos_f (l := lotC v k) hp
        rw [lotsF_cons, List.filter_cons, hn]
        exact a
      · rw [if_neg hp, q_at hk40 (by decide), Option.bind_some, q_put hl40 (by decide), Option.bind_some, q_at hk40 (by decide), Option.bind_some, q_put hl40 (by decide), Option.bind_some, q_at hk40 (by decide), Option.bind_some, q_put hl40 (by decide), Option.bind_some, Option.bind_some, q_put hl40 (by decide), Option.bind_some, q_at hk40 (by decide), Option.bind_some, q_put hl40 (by decide), Option.bind_some, q_at hk40 (by decide), Option.bind_some, q_put hl40 (by decide), Option.bind_some, q_1]
        generalize hw : setA (setA (setA (setA (setA (setA v 8 (upd (v 8) left (v 8 k))) 9 (upd (v 9) left (v 9 k))) 10 (upd (v 10) left (v 10 k))) 11 (upd (v 11) left (v 11 k))) 12 (upd (v 12) left (v 12 k))) 13 (upd (v 13) left (v 13 k)) = w
        have hw1 : w 1 = v 1 := by rw [← hw]; rfl
        have hfr : FR v w := by
          rw [← hw]
          exact FR.six v _ _ _ _ _ _
        have hlot : ∀ j, lotC w j = if j = left then lotC v k else lotC v j := by
          intro j
          rw [← hw]
          show (upd (v 8) _ _ j, upd (v 9) _ _ j, upd (v 10) _ _ j, upd (v 11) _ _ j, upd (v 12) _ _ j, upd (v 13) _ _ j) = _
          by_cases hj : j = left
          · subst hj; rw [q_up, q_up, q_up, q_up, q_up, q_up, if_pos rfl]; rfl
          · rw [q_un hj, q_un hj, q_un hj, q_un hj, q_un hj, q_un hj, if_neg hj]; rfl
        obtain ⟨v', e, a, b⟩ := ih fu w (left + 1) (k + 1) (by omega) (by omega) (by omega) (by rw [hw1, hL]; congr 1; omega)
        refine ⟨v', e, ?_, hfr.tr b⟩
        have hn : pos (lotC v k) = true := pos_t (l := lotC v k) hp
        have e1 : lotsF (lotC w) 0 (left + 1) = lotsF (lotC v) 0 left ++ [lotC v k] := by
          rw [lotsF_snoc, Nat.zero_add, hlot left, if_pos rfl]
          congr 1
          exact lotsF_cong _ _ (fun j _ hj => by rw [hlot j, if_neg (by omega)])
        have e2 : lotsF (lotC w) (k + 1) n = lotsF (lotC v) (k + 1) n := lotsF_cong _ _ (fun j hj _ => by rw [hlot j, if_neg (by omega)])
        rw [e1, e2, List.append_assoc] at a
        rw [lotsF_cons, List.filter_cons, hn]
        exact a
theorem q_drop {v : St} {ls : List Lot} (h1 : v 1 2 = nI ls.length) (h2 : ls.length ≤ 40) (h3 : ls = lotsF (lotC v) 0 ls.length) : ∃ v', X0_dropEmptyLots v = some v' ∧ LC v' (ls.filter pos) ∧ FR v v' := by
  obtain ⟨v', e, a, b⟩ := q_drop_l ls.length FU v 0 0 (by unfold FU; omega) (by omega) (by omega) (by rw [h1]; congr 1; omega)
  refine ⟨v', e, ?_, b⟩
  rw [← h3] at a
  exact a
/-! The lot that is taken first: of the greatest age, the earliest. -/
def better (cur : Option (Nat × Int32)) (a : Int32) : Bool := match cur with
  | none => true
  | some q => decide (q.2 < a)
def oldF (P : Lot → Bool) : List Lot → Nat → Option (Nat × Int32) → Option (Nat × Int32)
  | [], _, cur => cur
  | l :: ls, k, cur => oldF P ls (k + 1) (if P l && pos l && better cur l.a then some (k, l.a) else cur)
def fIdx (z : Int32) (cur : Option (Nat × Int32)) : Int32 := match cur with
  | none => z
  | some q => nI q.1
theorem q_first_l (v : St) (d c kd : Int32) : ∀ (n fu k : Nat) (cur : Option (Nat × Int32)), n < fu → k + n ≤ 40 → v 1 2 = nI (k + n) → (∀ j a, cur = some (j, a) → j < 40 ∧ v 12 j = a) →
    X0_firstToTake_l6 v d c kd fu (fIdx (-1) cur) (nI k) = some (fIdx (-1) (oldF (mt d c kd) (lotsF (lotC v) k n) k cur)) := by
  intro n
  induction n with
  | zero =>
    intro fu k cur hf hk hL hc
    cases fu with
    | zero => omega
    | succ fu =>
      rw [X0_firstToTake_l6, q_num2, Option.bind_some, hL, if_pos (nI_le (by omega) (by omega))]
      rfl
  | succ n ih =>
    intro fu k cur hf hk hL hc
    cases fu with
    | zero => omega
    | succ fu =>
      have hk40 : k < 40 := by omega
      have e := fun cur hc => ih fu (k + 1) cur (by omega) (by omega) (by rw [hL]; congr 1; omega) hc
      rw [X0_firstToTake_l6, q_num2, Option.bind_some, hL, if_neg (nI_ge (by omega) (by omega)), q_isLot v d c kd hk40, Option.bind_some, q_at hk40 (by decide), q_at hk40 (by decide), q_1, lotsF_cons, oldF]
      by_cases hm : mt d c kd (lotC v k) = true
      · rw [if_pos hm, if_neg (by decide), Option.bind_some, hm]
        by_cases hp : v 11 k ≤ 0
        · have hn : pos (lotC v k) = false := pos_f (l := lotC v k) hp
          rw [if_pos hp, e cur hc, hn]
          rfl
        · have hn : pos (lotC v k) = true := pos_t (l := lotC v k) hp
          rw [if_neg hp, hn]
          have hnew : ∀ j a, some (k, (lotC v k).a) = some (j, a) → j < 40 ∧ v 12 j = a := by
            intro j a h
            cases h
            exact ⟨hk40, rfl⟩
          match cur, hc with
          | none, hc =>
            rw [if_pos (show fIdx (-1) none < (0 : Int32) by decide)]
            exact e (some (k, (lotC v k).a)) hnew
          | some (j, b), hc =>
            obtain ⟨hj, hb⟩ := hc j b rfl
            rw [if_neg (show ¬ fIdx (-1) (some (j, b)) < (0 : Int32) from nI_pos (by omega)), Option.bind_some, show fIdx (-1) (some (j, b)) = nI j from rfl, q_at hj (by decide), Option.bind_some]
            by_cases ha : v 12 k ≤ v 12 j
            · rw [if_pos ha]
              have hbt : better (some (j, b)) (lotC v k).a = false := by
                rw [← hb]
                exact decide_eq_false (Int32.not_lt.mpr ha)
              rw [hbt]
              exact e (some (j, b)) hc
            · rw [if_neg ha]
              have hbt : better (some (j, b)) (lotC v k).a = true := by
                rw [← hb]
                exact decide_eq_true (Int32.not_le.mp ha)
              rw [hbt]
              exact e (some (k, (lotC v k).a)) hnew
      · rw [if_neg hm, if_pos rfl, e cur hc, show mt d c kd (lotC v k) = false by simpa using hm]
        rfl
theorem q_first {v : St} {ls : List Lot} (h : LC v ls) (d c kd : Int32) : X0_firstToTake v d c kd = some (fIdx (-1) (oldF (mt d c kd) ls 0 none)) := by
  have e := q_first_l v d c kd ls.length FU 0 none (by unfold FU; have := h.2.1; omega) (by have := h.2.1; omega) (by rw [h.1]; congr 1; omega) (fun j a h => by cases h)
  rw [← h.2.2] at e
  exact e

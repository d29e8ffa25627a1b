/-! PURE: reads and writes of arrays at a number. -/
theorem q_ld {n k : Nat} {f : Nat → Int32} (h : k < n) (hn : n < 2 ^ 31) : ldA n f (nI k) = some (f k) := by
  unfold ldA
  have hk : k < 2 ^ 31 := by omega
  rw [if_pos ⟨by rw [nI_toInt hk]; omega, by rw [nI_toInt hk]; omega⟩, nI_clamp hk]
theorem q_st {n k : Nat} {f : Nat → Int32} {x : Int32} (h : k < n) (hn : n < 2 ^ 31) : stA n f (nI k) x = some (upd f k x) := by
  unfold stA
  have hk : k < 2 ^ 31 := by omega
  rw [if_pos ⟨by rw [nI_toInt hk]; omega, by rw [nI_toInt hk]; omega⟩, nI_clamp hk]
theorem q_at {n k : Nat} {f : Nat → Int32} (h : k < n) (hn : n < 2 ^ 31) : X4_at f n (nI k) = some (f k) := by
  unfold X4_at
  rw [if_neg (nI_pos (by omega : k < 2 ^ 31)), if_neg (show ¬ (Int32.ofNat n ≤ nI k) from nI_ge h hn), q_ld h hn]
  rfl
theorem q_put {n k : Nat} {f : Nat → Int32} {x : Int32} (h : k < n) (hn : n < 2 ^ 31) : X4_put f n (nI k) x = some (upd f k x) := by
  unfold X4_put
  rw [if_neg (nI_pos (by omega : k < 2 ^ 31)), if_neg (show ¬ (Int32.ofNat n ≤ nI k) from nI_ge h hn), q_st h hn]
  rfl
theorem q_add {n k : Nat} {f : Nat → Int32} {x : Int32} (h : k < n) (hn : n < 2 ^ 31) : X4_add f n (nI k) x = some (upd f k (f k + x)) := by
  unfold X4_add
  rw [if_neg (nI_pos (by omega : k < 2 ^ 31)), if_neg (show ¬ (Int32.ofNat n ≤ nI k) from nI_ge h hn), q_ld h hn, Option.bind_some, q_st h hn]
  rfl
theorem q_num {k : Nat} (v : St) (h : k < 26) : X0_number v (nI k) = some (v 1 k) := by
  unfold X0_number
  rw [if_neg (nI_pos (by omega : k < 2 ^ 31)), if_neg (show ¬ ((26 : Int32) ≤ nI k) from nI_ge h (by decide)), q_ld h (by decide)]
  rfl
theorem q_num0 (v : St) : X0_number v (0 : Int32) = some (v 1 0) := q_num v (k := 0) (by decide)
theorem q_num1 (v : St) : X0_number v (1 : Int32) = some (v 1 1) := q_num v (k := 1) (by decide)
theorem q_num2 (v : St) : X0_number v (2 : Int32) = some (v 1 2) := q_num v (k := 2) (by decide)
theorem q_num6 (v : St) : X0_number v (6 : Int32) = some (v 1 6) := q_num v (k := 6) (by decide)
theorem q_num9 (v : St) : X0_number v (9 : Int32) = some (v 1 9) := q_num v (k := 9) (by decide)
theorem q_num10 (v : St) : X0_number v (10 : Int32) = some (v 1 10) := q_num v (k := 10) (by decide)
theorem q_num24 (v : St) : X0_number v (24 : Int32) = some (v 1 24) := q_num v (k := 24) (by decide)
theorem q_num25 (v : St) : X0_number v (25 : Int32) = some (v 1 25) := q_num v (k := 25) (by decide)
theorem q_up {f : Nat → Int32} {k : Nat} {x : Int32} : upd f k x k = x := by simp [upd]
theorem q_un {f : Nat → Int32} {k j : Nat} {x : Int32} (h : j ≠ k) : upd f k x j = f j := by simp [upd, h]
theorem q_sA (v : St) (k : Nat) (f : Nat → Int32) : setA v k f k = f := by simp [setA]
theorem q_sN (v : St) {k j : Nat} (f : Nat → Int32) (h : j ≠ k) : setA v k f j = v j := by
  simp [setA, nbeq_ne h]
/-- a number that is at least 0 and small is the number of a Nat -/
theorem q_nat {x : Int32} (h : 0 ≤ x.toInt) : x = nI x.toInt.toNat := by
  apply Int32.toInt_inj.mp
  rw [nI_toInt (by have := x.toInt_lt; omega)]
  omega
theorem q_int {x : Int32} {k : Nat} (h : x = nI k) (hk : k < 2 ^ 31) : x.toInt = k := by rw [h, nI_toInt hk]
/-! The lots: debtor, creditor, kind, size, age, passed. -/
abbrev Lot : Type := Int32 × Int32 × Int32 × Int32 × Int32 × Int32
abbrev Lot.d (l : Lot) : Int32 := l.1
abbrev Lot.c (l : Lot) : Int32 := l.2.1
abbrev Lot.k (l : Lot) : Int32 := l.2.2.1
abbrev Lot.n (l : Lot) : Int32 := l.2.2.2.1
abbrev Lot.a (l : Lot) : Int32 := l.2.2.2.2.1
abbrev Lot.p (l : Lot) : Int32 := l.2.2.2.2.2
def lotC (v : St) (k : Nat) : Lot := (v 8 k, v 9 k, v 10 k, v 11 k, v 12 k, v 13 k)
def lotM (s : Nat → Int32) (k : Nat) : Lot := (s (6 * k), s (6 * k + 1), s (6 * k + 2), s (6 * k + 3), s (6 * k + 4), s (6 * k + 5))
def lotsF (g : Nat → Lot) : Nat → Nat → List Lot
  | _, 0 => []
  | k, n + 1 => g k :: lotsF g (k + 1) n
theorem lotsF_len (g : Nat → Lot) : ∀ (n k : Nat), (lotsF g k n).length = n := by
  intro n
  induction n with
  | zero => intro k; rfl
  | succ n ih => intro k; simp [lotsF, ih]
theorem lotsF_cong {g h : Nat → Lot} : ∀ (n k : Nat), (∀ j, k ≤ j → j < k + n → g j = h j) → lotsF g k n = lotsF h k n := by
  intro n
  induction n with
  | zero => intro k _; rfl
  | succ n ih =>
    intro k hj
    simp only [lotsF]
    rw [hj k (by omega) (by omega), ih (k + 1) (fun j a b => hj j (by omega) (by omega))]
theorem lotsF_app (g : Nat → Lot) : ∀ (n k m : Nat), lotsF g k (n + m) = lotsF g k n ++ lotsF g (k + n) m := by
  intro n
  induction n with
  | zero => intro k m; simp [lotsF]
  | succ n ih =>
    intro k m
    rw [show n + 1 + m = (n + m) + 1 by omega]
    simp only [lotsF, List.cons_append]
    rw [ih (k + 1) m, show k + 1 + n = k + (n + 1) by omega]
theorem lotsF_get (g : Nat → Lot) : ∀ (n k j : Nat), j < n → (lotsF g k n)[j]? = some (g (k + j)) := by
  intro n
  induction n with
  | zero => intro k j h; omega
  | succ n ih =>
    intro k j h
    cases j with
    | zero => simp [lotsF]
    | succ j =>
      simp only [lotsF, List.getElem?_cons_succ]
      rw [ih (k + 1) j (by omega), show k + 1 + j = k + (j + 1) by omega]
theorem lotsF_snoc (g : Nat → Lot) (n k : Nat) : lotsF g k (n + 1) = lotsF g k n ++ [g (k + n)] := by
  rw [lotsF_app g n k 1]; rfl
/-- which lots: -1 for any -/
def mt (d c k : Int32) (l : Lot) : Bool := (decide (d = -1) || decide (d = l.d)) && (decide (c = -1) || decide (c = l.c)) && (decide (k = -1) || decide (k = l.k))
def sumS (P : Lot → Bool) (a : Int32) (ls : List Lot) : Int32 := ls.foldl (fun a l => if P l then a + l.n else a) a
theorem sumS_cons (P : Lot → Bool) (a : Int32) (l : Lot) (ls : List Lot) : sumS P a (l :: ls) = sumS P (if P l then a + l.n else a) ls := rfl
theorem lotsF_cons (g : Nat → Lot) (k n : Nat) : lotsF g k (n + 1) = g k :: lotsF g (k + 1) n := rfl
theorem q_isLot (v : St) (d c kd : Int32) {k : Nat} (h : k < 40) : X0_isLotOf v (nI k) d c kd = some (if mt d c kd (lotC v k) then 1 else 0) := by
  have h42 : X0_isLotOf_b42 v (nI k) d c kd = some (if (decide (kd = -1) || decide (kd = (lotC v k).k)) = true then 1 else 0) := by
    unfold X0_isLotOf_b42
    rw [q_ld h (by decide)]
    by_cases h1 : kd = -1
    · simp [h1]
    · by_cases h2 : kd = v 10 k <;> simp [h1, h2, lotC, Lot.k]
  have h27 : X0_isLotOf_b27 v (nI k) d c kd = some (if ((decide (c = -1) || decide (c = (lotC v k).c)) && (decide (kd = -1) || decide (kd = (lotC v k).k))) = true then 1 else 0) := by
    unfold X0_isLotOf_b27
    rw [h42, q_ld h (by decide)]
    by_cases h1 : c = -1
    · simp [h1]
    · by_cases h2 : c = v 9 k <;> simp [h1, h2, lotC, Lot.c]
  unfold X0_isLotOf
  rw [if_neg (nI_pos (by omega : k < 2 ^ 31)), if_pos (show nI k < (40 : Int32) from nI_lt h (by decide)), h27, q_ld h (by decide)]
  unfold mt
  by_cases h1 : d = -1
  · simp [h1]
  · by_cases h2 : d = v 8 k <;> simp [h1, h2, lotC, Lot.d]
theorem q_le {a b : Nat} (ha : a < 2 ^ 31) (hb : b < 2 ^ 31) : (nI a ≤ nI b) = (a ≤ b) := propext (nI_leI ha hb)
theorem q_lt {a b : Nat} (ha : a < 2 ^ 31) (hb : b < 2 ^ 31) : (nI a < nI b) = (a < b) := propext (nI_ltI ha hb)
theorem q_1 (k : Nat) : nI k + (1 : Int32) = nI (k + 1) := nI_1 k
theorem q_sumOwed_l (v : St) (d c kd : Int32) : ∀ (n fu k : Nat) (acc : Int32), n < fu → k + n ≤ 40 → v 1 2 = nI (k + n) → X0_sumOwed_l6 v d c kd fu acc (nI k) = some (sumS (mt d c kd) acc (lotsF (lotC v) k n)) := by
  intro n
  induction n with
  | zero =>
    intro fu k acc hf hk hL
    cases fu with
    | zero => omega
    | succ fu =>
      rw [X0_sumOwed_l6, q_num2, Option.bind_some, hL, if_pos (nI_le (by omega) (by omega))]
      rfl
  | succ n ih =>
    intro fu k acc hf hk hL
    cases fu with
    | zero => omega
    | succ fu =>
      rw [X0_sumOwed_l6, q_num2, Option.bind_some, hL, if_neg (nI_ge (by omega) (by omega)), q_isLot v d c kd (by omega), Option.bind_some, q_at (by omega) (by decide), q_1]
      have e := fun acc => ih fu (k + 1) acc (by omega) (by omega) (by rw [hL]; congr 1; omega)
      by_cases hm : mt d c kd (lotC v k) = true
      · rw [if_pos hm, if_neg (by decide), Option.bind_some, e, lotsF_cons, sumS_cons, if_pos hm]
        rfl
      · rw [if_neg hm, if_pos rfl, e, lotsF_cons, sumS_cons, if_neg hm]
/-- the class's lots -/
def LC (v : St) (ls : List Lot) : Prop := v 1 2 = nI ls.length ∧ ls.length ≤ 40 ∧ ls = lotsF (lotC v) 0 ls.length
theorem q_sumOwed {v : St} {ls : List Lot} (h : LC v ls) (d c kd : Int32) : X0_sumOwed v d c kd = some (sumS (mt d c kd) 0 ls) := by
  obtain ⟨h1, h2, h3⟩ := h
  unfold X0_sumOwed
  have e := q_sumOwed_l v d c kd ls.length FU 0 0 (by unfold FU; omega) (by omega) (by rw [h1]; congr 1; omega)
  rw [← h3] at e
  exact e

/-! PURE: the class's lots, written. -/
/-- rows and numbers that a change of lots leaves -/
def FR (v v' : St) : Prop := (∀ r, r ≠ 1 → (r < 8 ∨ 13 < r) → v' r = v r) ∧ (∀ i, i ≠ 2 → v' 1 i = v 1 i)
theorem FR.rf (v : St) : FR v v := ⟨fun _ _ _ => rfl, fun _ _ => rfl⟩
theorem FR.tr {u v w : St} (h : FR u v) (k : FR v w) : FR u w := ⟨fun r a b => (k.1 r a b).trans (h.1 r a b), fun i a => (k.2 i a).trans (h.2 i a)⟩
theorem FR.row {v : St} {f : Nat → Int32} {k : Nat} (h : 8 ≤ k) (h2 : k ≤ 13) : FR v (setA v k f) :=
  ⟨fun r _ hr => q_sN v f (by omega), fun i _ => by rw [q_sN v f (by omega)]⟩
theorem FR.cnt {v : St} {x : Int32} : FR v (setA v 1 (upd (v 1) 2 x)) :=
  ⟨fun r hr _ => q_sN v _ (by omega), fun i hi => by rw [q_sA, q_un hi]⟩
theorem FR.six (v : St) (f1 f2 f3 f4 f5 f6 : Nat → Int32) : FR v (setA (setA (setA (setA (setA (setA v 8 f1) 9 f2) 10 f3) 11 f4) 12 f5) 13 f6) :=
  ⟨fun r h1 h2 => by rw [q_sN _ _ (by omega), q_sN _ _ (by omega), q_sN _ _ (by omega), q_sN _ _ (by omega), q_sN _ _ (by omega), q_sN _ _ (by omega)], fun i _ => rfl⟩
def pos (l : Lot) : Bool := decide (0 < l.n)
theorem pos_f {l : Lot} (h : l.n ≤ 0) : pos l = false := decide_eq_false (Int32.not_lt.mpr h)
theorem pos_t {l : Lot} (h : ¬ l.n ≤ 0) : pos l = true := decide_eq_true (Int32.not_le.mp h)
theorem LC.fr {v v' : St} {ls : List Lot} (h : LC v ls) (h1 : v' 1 2 = v 1 2) (h2 : ∀ r, 8 ≤ r → r ≤ 13 → v' r = v r) : LC v' ls := by
  obtain ⟨a, b, c⟩ := h
  refine ⟨by rw [h1, a], b, ?_⟩
  rw [show lotC v' = lotC v from funext fun k => by simp only [lotC]; rw [h2 8 (by decide) (by decide), h2 9 (by decide) (by decide), h2 10 (by decide) (by decide), h2 11 (by decide) (by decide), h2 12 (by decide) (by decide), h2 13 (by decide) (by decide)]]
  exact c
theorem LC.get {v : St} {ls : List Lot} (h : LC v ls) {k : Nat} (hk : k < ls.length) : ls[k]? = some (lotC v k) := by
  have := lotsF_get (lotC v) ls.length 0 k hk
  rw [← h.2.2, Nat.zero_add] at this
  exact this
theorem q_addLot {v : St} {ls : List Lot} (h : LC v ls) (hl : ls.length < 40) (d c k m : Int32) : ∃ v', X0_addLot v d c k m = some v' ∧ LC v' (ls ++ [(d, c, k, m, 0, 0)]) ∧ FR v v' := by
  obtain ⟨h1, h2, h3⟩ := h
  have e : X0_addLot v d c k m = some (setA (setA (setA (setA (setA (setA (setA v 8 (upd (v 8) ls.length d)) 9 (upd (v 9) ls.length c)) 10 (upd (v 10) ls.length k)) 11 (upd (v 11) ls.length m)) 12 (upd (v 12) ls.length 0)) 13 (upd (v 13) ls.length 0)) 1 (upd (v 1) 2 (v 1 2 + 1))) := by
    rw [X0_addLot, q_num2, Option.bind_some, h1, q_put hl (by decide), Option.bind_some, q_put hl (by decide), Option.bind_some, q_put hl (by decide), Option.bind_some, q_put hl (by decide), Option.bind_some, q_put hl (by decide), Option.bind_some, q_put hl (by decide), Option.bind_some, show (2 : Int32) = nI 2 from rfl, q_add (by decide) (by decide), Option.bind_some, h1]
  refine ⟨_, e, ?_, ?_⟩
  · refine ⟨?_, by simp; omega, ?_⟩
    · show upd (v 1) 2 (v 1 2 + 1) 2 = _
      rw [q_up, h1, q_1]
      simp
    · rw [List.length_append, show [(d, c, k, m, (0 : Int32), (0 : Int32))].length = 1 from rfl, lotsF_snoc]
      congr 1
      · rw [h3, lotsF_len]
        refine lotsF_cong _ _ (fun j _ hj => ?_)
        have hj : j ≠ ls.length := by omega
        show (v 8 j, v 9 j, v 10 j, v 11 j, v 12 j, v 13 j) = (upd (v 8) _ _ j, upd (v 9) _ _ j, upd (v 10) _ _ j, upd (v 11) _ _ j, upd (v 12) _ _ j, upd (v 13) _ _ j)
        rw [q_un hj, q_un hj, q_un hj, q_un hj, q_un hj, q_un hj]
      · rw [Nat.zero_add]
        show _ = [(upd (v 8) _ _ _, upd (v 9) _ _ _, upd (v 10) _ _ _, upd (v 11) _ _ _, upd (v 12) _ _ _, upd (v 13) _ _ _)]
        rw [q_up, q_up, q_up, q_up, q_up, q_up]
  · exact (FR.six v (upd (v 8) ls.length d) (upd (v 9) ls.length c) (upd (v 10) ls.length k) (upd (v 11) ls.length m) (upd (v 12) ls.length 0) (upd (v 13) ls.length 0)).tr FR.cnt
theorem q_drop_l : ∀ (n fu : Nat) (v : St) (left k : Nat), n < fu → left ≤ k → k + n ≤ 40 → v 1 2 = nI (k + n) →
    ∃ v', X0_dropEmptyLots_l4 fu v (nI left) (nI k) = some v' ∧ LC v' (lotsF (lotC v) 0 left ++ (lotsF (lotC v) k n).filter pos) ∧ FR v v' := by
  intro n
  induction n with
  | zero =>
    intro fu v left k hf hk h40 hL
    cases fu with
    | zero => omega
    | succ fu =>
      refine ⟨setA v 1 (upd (v 1) 2 (nI left)), ?_, ?_, FR.cnt⟩
      · rw [X0_dropEmptyLots_l4, q_num2, Option.bind_some, hL, if_pos (nI_le (by omega) (by omega)), X0_dropEmptyLots_b129, show (2 : Int32) = nI 2 from rfl, q_put (by decide) (by decide), Option.bind_some]
      · have hl : (lotsF (lotC v) 0 left ++ (lotsF (lotC v) k 0).filter pos) = lotsF (lotC v) 0 left := by simp [lotsF]
        rw [hl]
        refine ⟨?_, by rw [lotsF_len]; omega, ?_⟩
        · rw [lotsF_len]
          rw [q_sA, q_up]
        · rw [lotsF_len]; rfl
  | succ n ih =>
    intro fu v left k hf hk h40 hL
    cases fu with
    | zero => omega
    | succ fu =>
      have hk40 : k < 40 := by omega
      have hl40 : left < 40 := by omega
      rw [X0_dropEmptyLots_l4, q_num2, Option.bind_some, hL, if_neg (nI_ge (by omega) (by omega)), q_at hk40 (by decide), Option.bind_some, q_1]
      by_cases hp : v 11 k ≤ 0
      · rw [if_pos hp]
        obtain ⟨v', e, a, b⟩ := ih fu v left (k + 1) (by omega) (by omega) (by omega) (by rw [hL]; congr 1; omega)
        refine ⟨v', e, ?_, b⟩
        have hn : pos (lotC v k) = false := pos_f (l := lotC v k) hp
        rw [lotsF_cons, List.filter_cons, hn]
        exact a
      · rw [if_neg hp, q_at hk40 (by decide), Option.bind_some, q_put hl40 (by decide), Option.bind_some, q_at hk40 (by decide), Option.bind_some, q_put hl40 (by decide), Option.bind_some, q_at hk40 (by decide), Option.bind_some, q_put hl40 (by decide), Option.bind_some, Option.bind_some, q_put hl40 (by decide), Option.bind_some, q_at hk40 (by decide), Option.bind_some, q_put hl40 (by decide), Option.bind_some, q_at hk40 (by decide), Option.bind_some, q_put hl40 (by decide), Option.bind_some, q_1]
        generalize hw : setA (setA (setA (setA (setA (setA v 8 (upd (v 8) left (v 8 k))) 9 (upd (v 9) left (v 9 k))) 10 (upd (v 10) left (v 10 k))) 11 (upd (v 11) left (v 11 k))) 12 (upd (v 12) left (v 12 k))) 13 (upd (v 13) left (v 13 k)) = w
        have hw1 : w 1 = v 1 := by rw [← hw]; rfl
        have hfr : FR v w := by
          rw [← hw]
          exact FR.six v _ _ _ _ _ _
        have hlot : ∀ j, lotC w j = if j = left then lotC v k else lotC v j := by
          intro j
          rw [← hw]
          show (upd (v 8) _ _ j, upd (v 9) _ _ j, upd (v 10) _ _ j, upd (v 11) _ _ j, upd (v 12) _ _ j, upd (v 13) _ _ j) = _
          by_cases hj : j = left
          · subst hj; rw [q_up, q_up, q_up, q_up, q_up, q_up, if_pos rfl]; rfl
          · rw [q_un hj, q_un hj, q_un hj, q_un hj, q_un hj, q_un hj, if_neg hj]; rfl
        obtain ⟨v', e, a, b⟩ := ih fu w (left + 1) (k + 1) (by omega) (by omega) (by omega) (by rw [hw1, hL]; congr 1; omega)
        refine ⟨v', e, ?_, hfr.tr b⟩
        have hn : pos (lotC v k) = true := pos_t (l := lotC v k) hp
        have e1 : lotsF (lotC w) 0 (left + 1) = lotsF (lotC v) 0 left ++ [lotC v k] := by
          rw [lotsF_snoc, Nat.zero_add, hlot left, if_pos rfl]
          congr 1
          exact lotsF_cong _ _ (fun j _ hj => by rw [hlot j, if_neg (by omega)])
        have e2 : lotsF (lotC w) (k + 1) n = lotsF (lotC v) (k + 1) n := lotsF_cong _ _ (fun j hj _ => by rw [hlot j, if_neg (by omega)])
        rw [e1, e2, List.append_assoc] at a
        rw [lotsF_cons, List.filter_cons, hn]
        exact a
theorem q_drop {v : St} {ls : List Lot} (h1 : v 1 2 = nI ls.length) (h2 : ls.length ≤ 40) (h3 : ls = lotsF (lotC v) 0 ls.length) : ∃ v', X0_dropEmptyLots v = some v' ∧ LC v' (ls.filter pos) ∧ FR v v' := by
  obtain ⟨v', e, a, b⟩ := q_drop_l ls.length FU v 0 0 (by unfold FU; omega) (by omega) (by omega) (by rw [h1]; congr 1; omega)
  refine ⟨v', e, ?_, b⟩
  rw [← h3] at a
  exact a
/-! The lot that is taken first: of the greatest age, the earliest. -/
def better (cur : Option (Nat × Int32)) (a : Int32) : Bool := match cur with
  | none => true
  | some q => decide (q.2 < a)
def oldF (P : Lot → Bool) : List Lot → Nat → Option (Nat × Int32) → Option (Nat × Int32)
  | [], _, cur => cur
  | l :: ls, k, cur => oldF P ls (k + 1) (if P l && pos l && better cur l.a then some (k, l.a) else cur)
def fIdx (z : Int32) (cur : Option (Nat × Int32)) : Int32 := match cur with
  | none => z
  | some q => nI q.1
theorem q_first_l (v : St) (d c kd : Int32) : ∀ (n fu k : Nat) (cur : Option (Nat × Int32)), n < fu → k + n ≤ 40 → v 1 2 = nI (k + n) → (∀ j a, cur = some (j, a) → j < 40 ∧ v 12 j = a) →
    X0_firstToTake_l6 v d c kd fu (fIdx (-1) cur) (nI k) = some (fIdx (-1) (oldF (mt d c kd) (lotsF (lotC v) k n) k cur)) := by
  intro n
  induction n with
  | zero =>
    intro fu k cur hf hk hL hc
    cases fu with
    | zero => omega
    | succ fu =>
      rw [X0_firstToTake_l6, q_num2, Option.bind_some, hL, if_pos (nI_le (by omega) (by omega))]
      rfl
  | succ n ih =>
    intro fu k cur hf hk hL hc
    cases fu with
    | zero => omega
    | succ fu =>
      have hk40 : k < 40 := by omega
      have e := fun cur hc => ih fu (k + 1) cur (by omega) (by omega) (by rw [hL]; congr 1; omega) hc
      rw [X0_firstToTake_l6, q_num2, Option.bind_some, hL, if_neg (nI_ge (by omega) (by omega)), q_isLot v d c kd hk40, Option.bind_some, q_at hk40 (by decide), q_at hk40 (by decide), q_1, lotsF_cons, oldF]
      by_cases hm : mt d c kd (lotC v k) = true
      · rw [if_pos hm, if_neg (by decide), Option.bind_some, hm]
        by_cases hp : v 11 k ≤ 0
        · have hn : pos (lotC v k) = false := pos_f (l := lotC v k) hp
          rw [if_pos hp, e cur hc, hn]
          rfl
        · have hn : pos (lotC v k) = true := pos_t (l := lotC v k) hp
          rw [if_neg hp, hn]
          have hnew : ∀ j a, some (k, (lotC v k).a) = some (j, a) → j < 40 ∧ v 12 j = a := by
            intro j a h
            cases h
            exact ⟨hk40, rfl⟩
          match cur, hc with
          | none, hc =>
            rw [if_pos (show fIdx (-1) none < (0 : Int32) by decide)]
            exact e (some (k, (lotC v k).a)) hnew
          | some (j, b), hc =>
            obtain ⟨hj, hb⟩ := hc j b rfl
            rw [if_neg (show ¬ fIdx (-1) (some (j, b)) < (0 : Int32) from nI_pos (by omega)), Option.bind_some, show fIdx (-1) (some (j, b)) = nI j from rfl, q_at hj (by decide), Option.bind_some]
            by_cases ha : v 12 k ≤ v 12 j
            · rw [if_pos ha]
              have hbt : better (some (j, b)) (lotC v k).a = false := by
                rw [← hb]
                exact decide_eq_false (Int32.not_lt.mpr ha)
              rw [hbt]
              exact e (some (j, b)) hc
            · rw [if_neg ha]
              have hbt : better (some (j, b)) (lotC v k).a = true := by
                rw [← hb]
                exact decide_eq_true (Int32.not_le.mp ha)
              rw [hbt]
              exact e (some (k, (lotC v k).a)) hnew
      · rw [if_neg hm, if_pos rfl, e cur hc, show mt d c kd (lotC v k) = false by simpa using hm]
        rfl
theorem q_first {v : St} {ls : List Lot} (h : LC v ls) (d c kd : Int32) : X0_firstToTake v d c kd = some (fIdx (-1) (oldF (mt d c kd) ls 0 none)) := by
  have e := q_first_l v d c kd ls.length FU 0 none (by unfold FU; have := h.2.1; omega) (by have := h.2.1; omega) (by rw [h.1]; congr 1; omega) (fun j a h => by cases h)
  rw [← h.2.2] at e
  exact e

/-! PURE: favours taken. -/
theorem q_sub {a b : Nat} (h : b ≤ a) : nI a - nI b = nI (a - b) := pk_sub h
theorem q_addneg (a b : Int32) : a + -b = a - b := (Int32.sub_eq_add_neg a b).symm
def okN (ls : List Lot) : Prop := ∀ l ∈ ls, ∃ s : Nat, l.n = nI s ∧ s ≤ 9
def sumN (P : Lot → Bool) : List Lot → Nat
  | [] => 0
  | l :: ls => (if P l then l.n.toNatClampNeg else 0) + sumN P ls
def cntN (P : Lot → Bool) : List Lot → Nat
  | [] => 0
  | l :: ls => (if P l && pos l then 1 else 0) + cntN P ls
def withN (l : Lot) (x : Int32) : Lot := (l.d, l.c, l.k, x, l.a, l.p)
def setN : List Lot → Nat → Int32 → List Lot
  | [], _, _ => []
  | l :: ls, 0, x => withN l x :: ls
  | l :: ls, j + 1, x => l :: setN ls j x
def getN (ls : List Lot) (j : Nat) : Int32 := match ls[j]? with
  | some l => l.n
  | none => 0
def mn (s left : Int32) : Int32 := if s < left then s else left
def takL (P : Lot → Bool) : Nat → Int32 → List Lot → List Lot
  | 0, _, ls => ls
  | t + 1, left, ls => if left ≤ 0 then ls else match oldF P ls 0 none with
    | none => ls
    | some q => takL P t (left - mn (getN ls q.1) left) (setN ls q.1 (getN ls q.1 - mn (getN ls q.1) left))
theorem sumS_nat {P : Lot → Bool} : ∀ {ls : List Lot} (a : Nat), okN ls → sumS P (nI a) ls = nI (a + sumN P ls) := by
  intro ls
  induction ls with
  | nil => intro a _; rfl
  | cons l ls ih =>
    intro a h
    obtain ⟨s, hs, h9⟩ := h l List.mem_cons_self
    have h2 : okN ls := fun x hx => h x (List.mem_cons_of_mem _ hx)
    rw [sumS_cons, sumN]
    by_cases hp : P l = true
    · rw [if_pos hp, if_pos hp, hs, nI_add, ih _ h2, nI_clamp (by omega)]
      congr 1; omega
    · rw [if_neg hp, if_neg hp, ih _ h2]
      congr 1; omega
theorem sumN_le {P : Lot → Bool} : ∀ {ls : List Lot}, okN ls → sumN P ls ≤ 9 * ls.length := by
  intro ls
  induction ls with
  | nil => intro _; exact Nat.le_refl _
  | cons l ls ih =>
    intro h
    obtain ⟨s, hs, h9⟩ := h l List.mem_cons_self
    have h2 := ih (fun x hx => h x (List.mem_cons_of_mem _ hx))
    rw [sumN, List.length_cons]
    by_cases hp : P l = true
    · rw [if_pos hp, hs, nI_clamp (by omega)]; omega
    · rw [if_neg hp]; omega
theorem cntN_le {P : Lot → Bool} : ∀ {ls : List Lot}, cntN P ls ≤ ls.length := by
  intro ls
  induction ls with
  | nil => exact Nat.le_refl _
  | cons l ls ih => rw [cntN, List.length_cons]; split <;> omega
theorem pos_nI {l : Lot} {s : Nat} (h : l.n = nI s) (hs : s ≤ 9) : pos l = decide (0 < s) := by
  unfold pos
  rw [h]
  by_cases h0 : s = 0
  · subst h0; rfl
  · have h1 : 0 < s := by omega
    rw [decide_eq_true h1, decide_eq_true]
    exact nI_lt h1 (by omega)
theorem sum0_of_cnt0 {P : Lot → Bool} : ∀ {ls : List Lot}, okN ls → cntN P ls = 0 → sumN P ls = 0 := by
  intro ls
  induction ls with
  | nil => intro _ _; rfl
  | cons l ls ih =>
    intro h hc
    obtain ⟨s, hs, h9⟩ := h l List.mem_cons_self
    rw [cntN] at hc
    rw [sumN, ih (fun x hx => h x (List.mem_cons_of_mem _ hx)) (by omega)]
    by_cases hp : P l = true
    · rw [if_pos hp, hs, nI_clamp (by omega)]
      rw [hp, pos_nI hs h9] at hc
      by_cases h0 : 0 < s
      · simp [h0] at hc
      · omega
    · rw [if_neg hp]
theorem oldF_spec (P : Lot → Bool) : ∀ (ls : List Lot) (k : Nat) (cur : Option (Nat × Int32)),
    (∀ j a, oldF P ls k cur = some (j, a) → cur = some (j, a) ∨ ∃ i l, j = k + i ∧ ls[i]? = some l ∧ P l = true ∧ pos l = true ∧ a = l.a) ∧
    (oldF P ls k cur = none → cur = none ∧ cntN P ls = 0) := by
  intro ls
  induction ls with
  | nil => intro k cur; exact ⟨fun j a h => Or.inl h, fun h => ⟨h, rfl⟩⟩
  | cons l ls ih =>
    intro k cur
    rw [oldF, cntN]
    by_cases hc : (P l && pos l && better cur l.a) = true
    · rw [if_pos hc]
      obtain ⟨h1, h2⟩ := ih (k + 1) (some (k, l.a))
      simp only [Bool.and_eq_true] at hc
      refine ⟨fun j a h => ?_, fun h => ?_⟩
      · rcases h1 j a h with h3 | ⟨i, x, e1, e2, e3, e4, e5⟩
        · cases h3
          exact Or.inr ⟨0, l, rfl, rfl, hc.1.1, hc.1.2, rfl⟩
        · exact Or.inr ⟨i + 1, x, by omega, e2, e3, e4, e5⟩
      · cases (h2 h).1
    · rw [if_neg hc]
      obtain ⟨h1, h2⟩ := ih (k + 1) cur
      refine ⟨fun j a h => ?_, fun h => ?_⟩
      · rcases h1 j a h with h3 | ⟨i, x, e1, e2, e3, e4, e5⟩
        · exact Or.inl h3
        · exact Or.inr ⟨i + 1, x, by omega, e2, e3, e4, e5⟩
      · obtain ⟨h3, h4⟩ := h2 h
        subst h3
        refine ⟨rfl, ?_⟩
        have hpp : (P l && pos l) = false := by
          cases hq : (P l && pos l) with
          | false => rfl
          | true => rw [hq] at hc; exact absurd rfl hc
        rw [hpp, h4]
        rfl
theorem setN_len : ∀ (ls : List Lot) (j : Nat) (x : Int32), (setN ls j x).length = ls.length := by
  intro ls
  induction ls with
  | nil => intro j x; rfl
  | cons l ls ih => intro j x; cases j <;> simp [setN, ih]
theorem setN_get : ∀ (ls : List Lot) (j k : Nat) (x : Int32), (setN ls j x)[k]? = if k = j then (ls[k]?).map (fun l => withN l x) else ls[k]? := by
  intro ls
  induction ls with
  | nil => intro j k x; simp [setN]
  | cons l ls ih =>
    intro j k x
    cases j with
    | zero => cases k with
      | zero => simp [setN]
      | succ k => simp [setN]
    | succ j => cases k with
      | zero => simp [setN]
      | succ k =>
        simp only [setN, List.getElem?_cons_succ]
        rw [ih j k x]
        by_cases h : k = j
        · rw [if_pos h, if_pos (by omega)]
        · rw [if_neg h, if_neg (by omega)]
theorem setN_mem {ls : List Lot} {j : Nat} {x : Int32} {l' : Lot} (h : l' ∈ setN ls j x) : l' ∈ ls ∨ ∃ l, ls[j]? = some l ∧ l' = withN l x := by
  obtain ⟨k, hk⟩ := List.getElem?_of_mem h
  rw [setN_get] at hk
  split at hk
  · next e =>
    subst e
    cases hl : ls[k]? with
    | none => rw [hl] at hk; cases hk
    | some l => rw [hl] at hk; exact Or.inr ⟨l, rfl, (Option.some.inj hk).symm⟩
  · exact Or.inl (List.mem_of_getElem? hk)
/-- a predicate that the sizes don't matter to -/
def nfree (P : Lot → Bool) : Prop := ∀ l x, P (withN l x) = P l
theorem mt_nfree (d c k : Int32) : nfree (mt d c k) := fun _ _ => rfl
theorem sumN_set {P : Lot → Bool} (hP : nfree P) : ∀ {ls : List Lot} {j : Nat} {l : Lot} (x : Int32), ls[j]? = some l → sumN P (setN ls j x) + (if P l then l.n.toNatClampNeg else 0) = sumN P ls + (if P l then x.toNatClampNeg else 0) := by
  intro ls
  induction ls with
  | nil => intro j l x h; simp at h
  | cons y ls ih =>
    intro j l x h
    cases j with
    | zero =>
      simp at h
      subst h
      rw [setN, sumN, sumN, hP]
      by_cases hp : P y = true
      · simp only [hp, if_true]; show x.toNatClampNeg + _ + _ = _; omega
      · simp only [hp]; simp
    | succ j =>
      simp only [List.getElem?_cons_succ] at h
      have := ih x h
      rw [setN, sumN, sumN]
      omega
theorem cntN_set0 {P : Lot → Bool} (hP : nfree P) : ∀ {ls : List Lot} {j : Nat} {l : Lot}, ls[j]? = some l → P l = true → pos l = true → cntN P (setN ls j 0) + 1 = cntN P ls := by
  intro ls
  induction ls with
  | nil => intro j l h; simp at h
  | cons y ls ih =>
    intro j l h h1 h2
    cases j with
    | zero =>
      simp at h
      subst h
      rw [setN, cntN, cntN, hP, h1, h2, show pos (withN y 0) = false from rfl]
      simp; omega
    | succ j =>
      simp only [List.getElem?_cons_succ] at h
      have := ih h h1 h2
      rw [setN, cntN, cntN]
      omega
theorem okN_set {ls : List Lot} (h : okN ls) {j s : Nat} (hs : s ≤ 9) : okN (setN ls j (nI s)) := by
  intro l' hl
  rcases setN_mem hl with h1 | ⟨l, -, rfl⟩
  · exact h l' h1
  · exact ⟨s, rfl, hs⟩
theorem mn_nI {s q : Nat} (hs : s ≤ 9) (hq : q < 2 ^ 31) : mn (nI s) (nI q) = nI (min s q) := by
  unfold mn
  by_cases h : s < q
  · rw [if_pos (nI_lt h hq), Nat.min_eq_left (by omega)]
  · rw [if_neg (nI_nlt (by omega) (by omega)), Nat.min_eq_right (by omega)]
/-- one turn of the taking, by numbers -/
theorem tak_step {P : Lot → Bool} (hP : nfree P) {ls : List Lot} (hok : okN ls) {q : Nat} (hq : 0 < q) (hs : q ≤ sumN P ls) (hq31 : q < 2 ^ 31) :
    ∃ j a l s, oldF P ls 0 none = some (j, a) ∧ ls[j]? = some l ∧ l.n = nI s ∧ s ≤ 9 ∧ P l = true ∧ 0 < s ∧ getN ls j = nI s ∧ mn (getN ls j) (nI q) = nI (min s q) ∧ nI q - nI (min s q) = nI (q - min s q) ∧ nI s - nI (min s q) = nI (s - min s q) ∧
      okN (setN ls j (nI (s - min s q))) ∧ sumN P (setN ls j (nI (s - min s q))) + min s q = sumN P ls ∧ (q - min s q = 0 ∨ cntN P (setN ls j (nI (s - min s q))) + 1 = cntN P ls) := by
  cases h : oldF P ls 0 none with
  | none =>
    have h1 := ((oldF_spec P ls 0 none).2 h).2
    have := sum0_of_cnt0 hok h1
    omega
  | some ja =>
    obtain ⟨j, a⟩ := ja
    rcases (oldF_spec P ls 0 none).1 j a h with h1 | ⟨i, l, e1, e2, e3, e4, e5⟩
    · cases h1
    · have e1 : j = i := by omega
      subst e1
      obtain ⟨s, hn, h9⟩ := hok l (List.mem_of_getElem? e2)
      have hs0 : 0 < s := by
        rw [pos_nI hn h9] at e4
        simpa using e4
      have hg : getN ls j = nI s := by unfold getN; rw [e2]; exact hn
      have hset := sumN_set hP (nI (s - min s q)) e2
      rw [e3, hn, nI_clamp (by omega), nI_clamp (by omega)] at hset
      simp only [if_true] at hset
      refine ⟨j, a, l, s, rfl, e2, hn, h9, e3, hs0, hg, by rw [hg]; exact mn_nI h9 hq31, q_sub (by omega), q_sub (by omega), okN_set hok (by omega), by omega, ?_⟩
      by_cases hsq : s < q
      · refine Or.inr ?_
        rw [show s - min s q = 0 by omega, nI_0]
        exact cntN_set0 hP e2 e3 e4
      · exact Or.inl (by omega)
theorem lotC_set {v : St} {ls : List Lot} (h : LC v ls) {j : Nat} (hj : j < ls.length) (x : Int32) : LC (setA v 11 (upd (v 11) j x)) (setN ls j x) := by
  obtain ⟨h1, h2, h3⟩ := h
  refine ⟨by rw [setN_len]; exact h1, by rw [setN_len]; exact h2, ?_⟩
  rw [setN_len]
  apply List.ext_getElem?
  intro k
  rw [setN_get]
  by_cases hk : k < ls.length
  · rw [lotsF_get _ _ _ _ hk, Nat.zero_add, LC.get ⟨h1, h2, h3⟩ hk]
    by_cases hkj : k = j
    · subst hkj
      rw [if_pos rfl]
      show some (v 8 k, v 9 k, v 10 k, x, v 12 k, v 13 k) = some (v 8 k, v 9 k, v 10 k, upd (v 11) k x k, v 12 k, v 13 k)
      rw [q_up]
    · rw [if_neg hkj]
      show some (v 8 k, v 9 k, v 10 k, v 11 k, v 12 k, v 13 k) = some (v 8 k, v 9 k, v 10 k, upd (v 11) j x k, v 12 k, v 13 k)
      rw [q_un hkj]
  · have hn : ls[k]? = none := List.getElem?_eq_none (by omega)
    have hn2 : (lotsF (lotC (setA v 11 (upd (v 11) j x))) 0 ls.length)[k]? = none := List.getElem?_eq_none (by rw [lotsF_len]; omega)
    rw [hn, hn2]
    split <;> rfl
theorem q_take_l (d c kd m : Int32) : ∀ (t fu turn : Nat) (v : St) (q : Nat) (ls : List Lot), t < fu → turn + t ≤ 40 → (q = 0 ∨ cntN (mt d c kd) ls ≤ t) → q ≤ sumN (mt d c kd) ls → okN ls → LC v ls →
    ∃ v', X0_takeFavours_l7 d c kd m fu v (nI q) (nI turn) = some v' ∧ LC v' ((takL (mt d c kd) t (nI q) ls).filter pos) ∧ FR v v' := by
  intro t
  have h69 : ∀ (v : St) (ls : List Lot), LC v ls → ∃ v', X0_takeFavours_b69 d c kd m v = some v' ∧ LC v' (ls.filter pos) ∧ FR v v' := by
    intro v ls h
    obtain ⟨v', e, a, b⟩ := q_drop h.1 h.2.1 h.2.2
    exact ⟨v', by rw [X0_takeFavours_b69, e]; rfl, a, b⟩
  have stop : ∀ (fu turn : Nat) (v : St) (ls : List Lot), turn ≤ 40 → LC v ls → ∃ v', X0_takeFavours_l7 d c kd m (fu + 1) v (nI 0) (nI turn) = some v' ∧ LC v' (ls.filter pos) ∧ FR v v' := by
    intro fu turn v ls ht h
    obtain ⟨v', e, a, b⟩ := h69 v ls h
    refine ⟨v', ?_, a, b⟩
    rw [X0_takeFavours_l7, if_pos (show nI 0 ≤ (0 : Int32) by decide), e]
    split <;> rfl
  induction t with
  | zero =>
    intro fu turn v q ls hf ht hq hs hok h
    have h0 : q = 0 := by
      rcases hq with h0 | h0
      · exact h0
      · have := sum0_of_cnt0 hok (by omega : cntN (mt d c kd) ls = 0)
        omega
    subst h0
    cases fu with
    | zero => omega
    | succ fu => exact stop fu turn v ls (by omega) h
  | succ t ih =>
    intro fu turn v q ls hf ht hq hs hok h
    cases fu with
    | zero => omega
    | succ fu =>
      by_cases h0 : q = 0
      · subst h0
        rw [takL, if_pos (show nI 0 ≤ (0 : Int32) by decide)]
        exact stop fu turn v ls (by omega) h
      · have hq0 : 0 < q := by omega
        have h360 : sumN (mt d c kd) ls ≤ 9 * ls.length := sumN_le hok
        have hl40 := h.2.1
        obtain ⟨j, a, l, s, e1, e2, e3, e4, e5, e6, e7, e8, e9, e10, e11, e12, e13⟩ := tak_step (mt_nfree d c kd) hok hq0 hs (by omega)
        have hj : j < ls.length := (List.getElem?_eq_some_iff.mp e2).1
        have hv : v 11 j = nI s := by
          have := LC.get h hj
          rw [e2] at this
          have := congrArg Lot.n (Option.some.inj this)
          rw [e3] at this
          exact this.symm
        rw [takL, if_neg (nI_nle hq0 (by omega)), e1]
        show ∃ v', _ ∧ LC v' (List.filter pos (takL (mt d c kd) t (nI q - mn (getN ls j) (nI q)) (setN ls j (getN ls j - mn (getN ls j) (nI q))))) ∧ FR v v'
        rw [e8, e7, e9, e10]
        obtain ⟨v', g1, g2, g3⟩ := ih fu (turn + 1) (setA v 11 (upd (v 11) j (nI (s - min s q)))) (q - min s q) (setN ls j (nI (s - min s q))) (by omega) (by omega) (by rcases e13 with e | e; exact Or.inl e; rcases hq with z | z; exact absurd z h0; exact Or.inr (by omega)) (by omega) e11 (lotC_set h hj _)
        refine ⟨v', ?_, g2, (FR.row (k := 11) (by decide) (by decide)).tr g3⟩
        rw [X0_takeFavours_l7, if_neg (show ¬ ((40 : Int32) ≤ nI turn) from nI_ge (a := turn) (b := 40) (by omega) (by decide)), if_neg (nI_nle hq0 (by omega)), q_first h, e1, Option.bind_some, show fIdx (-1) (some (j, a)) = nI j from rfl, q_at (by omega) (by decide), Option.bind_some, hv]
        have hmn : (if nI s < nI q then nI s else nI q) = nI (min s q) := by
          have := e8; rw [e7] at this; exact this
        rw [hmn, q_add (by omega) (by decide), Option.bind_some, hv, q_addneg, e10, e9, q_1]
        exact g1
theorem q_take {v : St} {ls : List Lot} (h : LC v ls) (hok : okN ls) (d c kd : Int32) {q : Nat} (hq : q ≤ sumN (mt d c kd) ls) : ∃ v', X0_takeFavours v d c kd (nI q) = some v' ∧ LC v' ((takL (mt d c kd) 40 (nI q) ls).filter pos) ∧ FR v v' :=
  q_take_l d c kd (nI q) 40 FU 0 v q ls (by unfold FU; omega) (by omega) (Or.inr (Nat.le_trans cntN_le h.2.1)) hq hok h

/-! PURE: the reference's cells, read and written. -/
theorem m288 (f : Nat → Int32) : ldA 304 f (288 : Int32) = some (f 288) := q_ld (k := 288) (by decide) (by decide)
theorem w288 (f : Nat → Int32) (x : Int32) : stA 304 f (288 : Int32) x = some (upd f 288 x) := q_st (k := 288) (by decide) (by decide)
theorem m289 (f : Nat → Int32) : ldA 304 f (289 : Int32) = some (f 289) := q_ld (k := 289) (by decide) (by decide)
theorem w289 (f : Nat → Int32) (x : Int32) : stA 304 f (289 : Int32) x = some (upd f 289 x) := q_st (k := 289) (by decide) (by decide)
theorem m290 (f : Nat → Int32) : ldA 304 f (290 : Int32) = some (f 290) := q_ld (k := 290) (by decide) (by decide)
theorem w290 (f : Nat → Int32) (x : Int32) : stA 304 f (290 : Int32) x = some (upd f 290 x) := q_st (k := 290) (by decide) (by decide)
theorem m291 (f : Nat → Int32) : ldA 304 f (291 : Int32) = some (f 291) := q_ld (k := 291) (by decide) (by decide)
theorem w291 (f : Nat → Int32) (x : Int32) : stA 304 f (291 : Int32) x = some (upd f 291 x) := q_st (k := 291) (by decide) (by decide)
theorem m292 (f : Nat → Int32) : ldA 304 f (292 : Int32) = some (f 292) := q_ld (k := 292) (by decide) (by decide)
theorem w292 (f : Nat → Int32) (x : Int32) : stA 304 f (292 : Int32) x = some (upd f 292 x) := q_st (k := 292) (by decide) (by decide)
theorem m293 (f : Nat → Int32) : ldA 304 f (293 : Int32) = some (f 293) := q_ld (k := 293) (by decide) (by decide)
theorem w293 (f : Nat → Int32) (x : Int32) : stA 304 f (293 : Int32) x = some (upd f 293 x) := q_st (k := 293) (by decide) (by decide)
theorem m294 (f : Nat → Int32) : ldA 304 f (294 : Int32) = some (f 294) := q_ld (k := 294) (by decide) (by decide)
theorem w294 (f : Nat → Int32) (x : Int32) : stA 304 f (294 : Int32) x = some (upd f 294 x) := q_st (k := 294) (by decide) (by decide)
theorem m295 (f : Nat → Int32) : ldA 304 f (295 : Int32) = some (f 295) := q_ld (k := 295) (by decide) (by decide)
theorem w295 (f : Nat → Int32) (x : Int32) : stA 304 f (295 : Int32) x = some (upd f 295 x) := q_st (k := 295) (by decide) (by decide)
theorem m296 (f : Nat → Int32) : ldA 304 f (296 : Int32) = some (f 296) := q_ld (k := 296) (by decide) (by decide)
theorem w296 (f : Nat → Int32) (x : Int32) : stA 304 f (296 : Int32) x = some (upd f 296 x) := q_st (k := 296) (by decide) (by decide)
theorem m297 (f : Nat → Int32) : ldA 304 f (297 : Int32) = some (f 297) := q_ld (k := 297) (by decide) (by decide)
theorem w297 (f : Nat → Int32) (x : Int32) : stA 304 f (297 : Int32) x = some (upd f 297 x) := q_st (k := 297) (by decide) (by decide)
theorem m298 (f : Nat → Int32) : ldA 304 f (298 : Int32) = some (f 298) := q_ld (k := 298) (by decide) (by decide)
theorem w298 (f : Nat → Int32) (x : Int32) : stA 304 f (298 : Int32) x = some (upd f 298 x) := q_st (k := 298) (by decide) (by decide)
theorem m299 (f : Nat → Int32) : ldA 304 f (299 : Int32) = some (f 299) := q_ld (k := 299) (by decide) (by decide)
theorem w299 (f : Nat → Int32) (x : Int32) : stA 304 f (299 : Int32) x = some (upd f 299 x) := q_st (k := 299) (by decide) (by decide)
theorem m300 (f : Nat → Int32) : ldA 304 f (300 : Int32) = some (f 300) := q_ld (k := 300) (by decide) (by decide)
theorem w300 (f : Nat → Int32) (x : Int32) : stA 304 f (300 : Int32) x = some (upd f 300 x) := q_st (k := 300) (by decide) (by decide)
theorem m301 (f : Nat → Int32) : ldA 304 f (301 : Int32) = some (f 301) := q_ld (k := 301) (by decide) (by decide)
theorem w301 (f : Nat → Int32) (x : Int32) : stA 304 f (301 : Int32) x = some (upd f 301 x) := q_st (k := 301) (by decide) (by decide)
theorem m302 (f : Nat → Int32) : ldA 304 f (302 : Int32) = some (f 302) := q_ld (k := 302) (by decide) (by decide)
theorem w302 (f : Nat → Int32) (x : Int32) : stA 304 f (302 : Int32) x = some (upd f 302 x) := q_st (k := 302) (by decide) (by decide)
theorem m303 (f : Nat → Int32) : ldA 304 f (303 : Int32) = some (f 303) := q_ld (k := 303) (by decide) (by decide)
theorem w303 (f : Nat → Int32) (x : Int32) : stA 304 f (303 : Int32) x = some (upd f 303 x) := q_st (k := 303) (by decide) (by decide)
theorem q_6 (k j : Nat) : (6 : Int32) * nI k + nI j = nI (6 * k + j) := by rw [show (6 : Int32) = nI 6 from rfl, pk_mul, nI_add]
/-- the reference's lots -/
def LM (s : Nat → Int32) (ls : List Lot) : Prop := s 290 = nI ls.length ∧ ls.length ≤ 40 ∧ ls = lotsF (lotM s) 0 ls.length
def FM (v v' : St) : Prop := (∀ r, r ≠ 1 → v' r = v r) ∧ (∀ i, 240 ≤ i → i ≠ 290 → v' 1 i = v 1 i)
theorem FM.rf (v : St) : FM v v := ⟨fun _ _ => rfl, fun _ _ _ => rfl⟩
theorem FM.tr {u v w : St} (h : FM u v) (k : FM v w) : FM u w := ⟨fun r a => (k.1 r a).trans (h.1 r a), fun i a b => (k.2 i a b).trans (h.2 i a b)⟩
theorem FM.set {v : St} {k : Nat} {x : Int32} (h : k < 240 ∨ k = 290) : FM v (setA v 1 (upd (v 1) k x)) :=
  ⟨fun r hr => q_sN v _ hr, fun i hi h2 => by rw [q_sA, q_un (by omega)]⟩
theorem FM.setf {v : St} {f : Nat → Int32} (h : ∀ i, 240 ≤ i → i ≠ 290 → f i = v 1 i) : FM v (setA v 1 f) :=
  ⟨fun r hr => q_sN v _ hr, fun i hi h2 => by rw [q_sA]; exact h i hi h2⟩
theorem LM.get {s : Nat → Int32} {ls : List Lot} (h : LM s ls) {k : Nat} (hk : k < ls.length) : ls[k]? = some (lotM s k) := by
  have := lotsF_get (lotM s) ls.length 0 k hk
  rw [← h.2.2, Nat.zero_add] at this
  exact this
theorem LM.fr {s s' : Nat → Int32} {ls : List Lot} (h : LM s ls) (h1 : s' 290 = s 290) (h2 : ∀ i, i < 240 → s' i = s i) : LM s' ls := by
  obtain ⟨a, b, c⟩ := h
  refine ⟨by rw [h1, a], b, ?_⟩
  have e : lotsF (lotM s') 0 ls.length = lotsF (lotM s) 0 ls.length := lotsF_cong _ _ (fun j _ hj => by
    simp only [lotM]
    rw [h2 _ (by omega), h2 _ (by omega), h2 _ (by omega), h2 _ (by omega), h2 _ (by omega), h2 _ (by omega)])
  rw [e]
  exact c
/-- which lots, no number standing for any -/
def mtE (d c k : Int32) (l : Lot) : Bool := decide (l.d = d) && decide (l.c = c) && decide (l.k = k)
theorem mtE_t {d c k : Int32} {l : Lot} (h1 : l.d = d) (h2 : l.c = c) (h3 : l.k = k) : mtE d c k l = true := by
  unfold mtE
  rw [decide_eq_true h1, decide_eq_true h2, decide_eq_true h3]
  rfl
theorem mtE_f {d c k : Int32} {l : Lot} (h : ¬ (l.d = d ∧ l.c = c ∧ l.k = k)) : ¬ mtE d c k l = true := by
  intro e
  unfold mtE at e
  rw [Bool.and_eq_true, Bool.and_eq_true] at e
  exact h ⟨of_decide_eq_true e.1.1, of_decide_eq_true e.1.2, of_decide_eq_true e.2⟩
theorem mt_E {d c k : Int32} (hd : d ≠ -1) (hc : c ≠ -1) (hk : k ≠ -1) : mt d c k = mtE d c k := by
  funext l
  simp only [mt, mtE, hd, hc, hk, decide_false, Bool.false_or]
  rw [show decide (d = l.d) = decide (l.d = d) from by congr 1; exact propext eq_comm, show decide (c = l.c) = decide (l.c = c) from by congr 1; exact propext eq_comm, show decide (k = l.k) = decide (l.k = k) from by congr 1; exact propext eq_comm]
theorem mt_d {d : Int32} (hd : d ≠ -1) (l : Lot) : mt d (-1) (-1) l = decide (l.d = d) := by
  simp only [mt, hd, decide_false, Bool.false_or, decide_true, Bool.true_or, Bool.and_true]
  congr 1; exact propext eq_comm
theorem mt_c {c : Int32} (hc : c ≠ -1) (l : Lot) : mt (-1) c (-1) l = decide (l.c = c) := by
  simp only [mt, hc, decide_false, Bool.false_or, decide_true, Bool.true_or, Bool.and_true, Bool.true_and]
  congr 1; exact propext eq_comm
theorem mt_any (l : Lot) : mt (-1) (-1) (-1) l = true := rfl
theorem nI_m1 {k : Nat} (h : k < 2 ^ 31) : nI k ≠ -1 := by
  intro e
  have := nI_toInt h
  rw [e] at this
  have h2 : (-1 : Int32).toInt = -1 := by decide
  omega
theorem q_0 (x : Int32) : x + (0 : Int32) = x := Int32.add_zero x
theorem sumS_cong {P Q : Lot → Bool} (h : ∀ l, P l = Q l) (a : Int32) (ls : List Lot) : sumS P a ls = sumS Q a ls := by
  rw [show P = Q from funext h]
/-! dropsEmpty -/
def cp6 (f : Nat → Int32) (to k : Nat) : Nat → Nat → Nat → Int32
  | _, 0 => f
  | j, n + 1 => cp6 (upd f (6 * to + j) (f (6 * k + j))) to k (j + 1) n
theorem cp6_at {to k : Nat} (h : to ≤ k) : ∀ (n j : Nat) (f : Nat → Int32) (i : Nat), j + n = 6 → cp6 f to k j n i = if 6 * to + j ≤ i ∧ i < 6 * to + 6 then f (6 * k + (i - 6 * to)) else f i := by
  intro n
  induction n with
  | zero =>
    intro j f i hj
    rw [cp6, if_neg (by omega)]
  | succ n ih =>
    intro j f i hj
    rw [cp6, ih (j + 1) _ i (by omega)]
    by_cases h1 : 6 * to + (j + 1) ≤ i ∧ i < 6 * to + 6
    · rw [if_pos h1, if_pos (by omega)]
      by_cases h2 : to = k
      · subst h2
        by_cases h3 : 6 * to + (i - 6 * to) = 6 * to + j
        · omega
        · rw [q_un h3]
      · rw [q_un (by omega)]
    · rw [if_neg h1]
      by_cases h2 : i = 6 * to + j
      · subst h2
        rw [q_up, if_pos (by omega)]
        congr 1; omega
      · rw [q_un h2, if_neg (by omega)]

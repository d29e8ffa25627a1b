/-! PURE: reads and writes of arrays at a number. -/
theorem q_ld {n k : Nat} {f : Nat → Int32} (h : k < n) (hn : n < 2 ^ 31) : ldA n f (nI k) = some (f k) := by
  unfold ldA
  have hk : k < 2 ^ 31 := by omega
  rw [if_pos ⟨by rw [nI_toInt hk]; omega, by rw [nI_toInt hk]; omega⟩, nI_clamp hk]
theorem q_st {n k : Nat} {f : Nat → Int32} {x : Int32} (h : k < n) (hn : n < 2 ^ 31) : stA n f (nI k) x = some (upd f k x) := by
  unfold stA
  have hk : k < 2 ^ 31 := by omega
  rw [if_pos ⟨by rw [nI_toInt hk]; omega, by rw [nI_toInt hk]; omega⟩, nI_clamp hk]
theorem q_at {n k : Nat} {f : Nat → Int32} (h : k < n) (hn : n < 2 ^ 31) : X4_at f n (nI k) = some (f k) := by
  unfold X4_at
  rw [if_neg (nI_pos (by omega : k < 2 ^ 31)), if_neg (show ¬ (Int32.ofNat n ≤ nI k) from nI_ge h hn), q_ld h hn]
  rfl
theorem q_put {n k : Nat} {f : Nat → Int32} {x : Int32} (h : k < n) (hn : n < 2 ^ 31) : X4_put f n (nI k) x = some (upd f k x) := by
  unfold X4_put
  rw [if_neg (nI_pos (by omega : k < 2 ^ 31)), if_neg (show ¬ (Int32.ofNat n ≤ nI k) from nI_ge h hn), q_st h hn]
  rfl
theorem q_add {n k : Nat} {f : Nat → Int32} {x : Int32} (h : k < n) (hn : n < 2 ^ 31) : X4_add f n (nI k) x = some (upd f k (f k + x)) := by
  unfold X4_add
  rw [if_neg (nI_pos (by omega : k < 2 ^ 31)), if_neg (show ¬ (Int32.ofNat n ≤ nI k) from nI_ge h hn), q_ld h hn, Option.bind_some, q_st h hn]
  rfl
theorem q_num {k : Nat} (v : St) (h : k < 26) : X0_number v (nI k) = some (v 1 k) := by
  unfold X0_number
  rw [if_neg (nI_pos (by omega : k < 2 ^ 31)), if_neg (show ¬ ((26 : Int32) ≤ nI k) from nI_ge h (by decide)), q_ld h (by decide)]
  rfl
theorem q_num0 (v : St) : X0_number v (0 : Int32) = some (v 1 0) := q_num v (k := 0) (by decide)
theorem q_num1 (v : St) : X0_number v (1 : Int32) = some (v 1 1) := q_num v (k := 1) (by decide)
theorem q_num2 (v : St) : X0_number v (2 : Int32) = some (v 1 2) := q_num v (k := 2) (by decide)
theorem q_num6 (v : St) : X0_number v (6 : Int32) = some (v 1 6) := q_num v (k := 6) (by decide)
theorem q_num9 (v : St) : X0_number v (9 : Int32) = some (v 1 9) := q_num v (k := 9) (by decide)
theorem q_num10 (v : St) : X0_number v (10 : Int32) = some (v 1 10) := q_num v (k := 10) (by decide)
theorem q_num24 (v : St) : X0_number v (24 : Int32) = some (v 1 24) := q_num v (k := 24) (by decide)
theorem q_num25 (v : St) : X0_number v (25 : Int32) = some (v 1 25) := q_num v (k := 25) (by decide)
theorem q_up {f : Nat → Int32} {k : Nat} {x : Int32} : upd f k x k = x := by simp [upd]
theorem q_un {f : Nat → Int32} {k j : Nat} {x : Int32} (h : j ≠ k) : upd f k x j = f j := by simp [upd, h]
theorem q_sA (v : St) (k : Nat) (f : Nat → Int32) : setA v k f k = f := by simp [setA]
theorem q_sN (v : St) {k j : Nat} (f : Nat → Int32) (h : j ≠ k) : setA v k f j = v j := by
  simp [setA, nbeq_ne h]
/-- a number that is at least 0 and small is the number of a Nat -/
theorem q_nat {x : Int32} (h : 0 ≤ x.toInt) : x = nI x.toInt.toNat := by
  apply Int32.toInt_inj.mp
  rw [nI_toInt (by have := x.toInt_lt; omega)]
  omega
theorem q_int {x : Int32} {k : Nat} (h : x = nI k) (hk : k < 2 ^ 31) : x.toInt = k := by rw [h, nI_toInt hk]
/-! The lots: debtor, creditor, kind, size, age, passed. -/
abbrev Lot : Type := Int32 × Int32 × Int32 × Int32 × Int32 × Int32
abbrev Lot.d (l : Lot) : Int32 := l.1
abbrev Lot.c (l : Lot) : Int32 := l.2.1
abbrev Lot.k (l : Lot) : Int32 := l.2.2.1
abbrev Lot.n (l : Lot) : Int32 := l.2.2.2.1
abbrev Lot.a (l : Lot) : Int32 := l.2.2.2.2.1
abbrev Lot.p (l : Lot) : Int32 := l.2.2.2.2.2
def lotC (v : St) (k : Nat) : Lot := (v 8 k, v 9 k, v 10 k, v 11 k, v 12 k, v 13 k)
def lotM (s : Nat → Int32) (k : Nat) : Lot := (s (6 * k), s (6 * k + 1), s (6 * k + 2), s (6 * k + 3), s (6 * k + 4), s (6 * k + 5))
def lotsF (g : Nat → Lot) : Nat → Nat → List Lot
  | _, 0 => []
  | k, n + 1 => g k :: lotsF g (k + 1) n
theorem lotsF_len (g : Nat → Lot) : ∀ (n k : Nat), (lotsF g k n).length = n := by
  intro n
  induction n with
  | zero => intro k; rfl
  | succ n ih => intro k; simp [lotsF, ih]
theorem lotsF_cong {g h : Nat → Lot} : ∀ (n k : Nat), (∀ j, k ≤ j → j < k + n → g j = h j) → lotsF g k n = lotsF h k n := by
  intro n
  induction n with
  | zero => intro k _; rfl
  | succ n ih =>
    intro k hj
    simp only [lotsF]
    rw [hj k (by omega) (by omega), ih (k + 1) (fun j a b => hj j (by omega) (by omega))]
theorem lotsF_app (g : Nat → Lot) : ∀ (n k m : Nat), lotsF g k (n + m) = lotsF g k n ++ lotsF g (k + n) m := by
  intro n
  induction n with
  | zero => intro k m; simp [lotsF]
  | succ n ih =>
    intro k m
    rw [show n + 1 + m = (n + m) + 1 by omega]
    simp only [lotsF, List.cons_append]
    rw [ih (k + 1) m, show k + 1 + n = k + (n + 1) by omega]
theorem lotsF_get (g : Nat → Lot) : ∀ (n k j : Nat), j < n → (lotsF g k n)[j]? = some (g (k + j)) := by
  intro n
  induction n with
  | zero => intro k j h; omega
  | succ n ih =>
    intro k j h
    cases j with
    | zero => simp [lotsF]
    | succ j =>
      simp only [lotsF, List.getElem?_cons_succ]
      rw [ih (k + 1) j (by omega), show k + 1 + j = k + (j + 1) by omega]
theorem lotsF_snoc (g : Nat → Lot) (n k : Nat) : lotsF g k (n + 1) = lotsF g k n ++ [g (k + n)] := by
  rw [lotsF_app g n k 1]; rfl
/-- which lots: -1 for any -/
def mt (d c k : Int32) (l : Lot) : Bool := (decide (d = -1) || decide (d = l.d)) && (decide (c = -1) || decide (c = l.c)) && (decide (k = -1) || decide (k = l.k))
def sumS (P : Lot → Bool) (a : Int32) (ls : List Lot) : Int32 := ls.foldl (fun a l => if P l then a + l.n else a) a
theorem sumS_cons (P : Lot → Bool) (a : Int32) (l : Lot) (ls : List Lot) : sumS P a (l :: ls) = sumS P (if P l then a + l.n else a) ls := rfl
theorem lotsF_cons (g : Nat → Lot) (k n : Nat) : lotsF g k (n + 1) = g k :: lotsF g (k + 1) n := rfl
theorem q_isLot (v : St) (d c kd : Int32) {k : Nat} (h : k < 40) : X0_isLotOf v (nI k) d c kd = some (if mt d c kd (lotC v k) then 1 else 0) := by
  have h42 : X0_isLotOf_b42 v (nI k) d c kd = some (if (decide (kd = -1) || decide (kd = (lotC v k).k)) = true then 1 else 0) := by
    unfold X0_isLotOf_b42
    rw [q_ld h (by decide)]
    by_cases h1 : kd = -1
    · simp [h1]
    · by_cases h2 : kd = v 10 k <;> simp [h1, h2, lotC, Lot.k]
  have h27 : X0_isLotOf_b27 v (nI k) d c kd = some (if ((decide (c = -1) || decide (c = (lotC v k).c)) && (decide (kd = -1) || decide (kd = (lotC v k).k))) = true then 1 else 0) := by
    unfold X0_isLotOf_b27
    rw [h42, q_ld h (by decide)]
    by_cases h1 : c = -1
    · simp [h1]
    · by_cases h2 : c = v 9 k <;> simp [h1, h2, lotC, Lot.c]
  unfold X0_isLotOf
  rw [if_neg (nI_pos (by omega : k < 2 ^ 31)), if_pos (show nI k < (40 : Int32) from nI_lt h (by decide)), h27, q_ld h (by decide)]
  unfold mt
  by_cases h1 : d = -1
  · simp [h1]
  · by_cases h2 : d = v 8 k <;> simp [h1, h2, lotC, Lot.d]
theorem q_le {a b : Nat} (ha : a < 2 ^ 31) (hb : b < 2 ^ 31) : (nI a ≤ nI b) = (a ≤ b) := propext (nI_leI ha hb)
theorem q_lt {a b : Nat} (ha : a < 2 ^ 31) (hb : b < 2 ^ 31) : (nI a < nI b) = (a < b) := propext (nI_ltI ha hb)
theorem q_1 (k : Nat) : nI k + (1 : Int32) = nI (k + 1) := nI_1 k
theorem q_sumOwed_l (v : St) (d c kd : Int32) : ∀ (n fu k : Nat) (acc : Int32), n < fu → k + n ≤ 40 → v 1 2 = nI (k + n) → X0_sumOwed_l6 v d c kd fu acc (nI k) = some (sumS (mt d c kd) acc (lotsF (lotC v) k n)) := by
  intro n
  induction n with
  | zero =>
    intro fu k acc hf hk hL
    cases fu with
    | zero => omega
    | succ fu =>
      rw [X0_sumOwed_l6, q_num2, Option.bind_some, hL, if_pos (nI_le (by omega) (by omega))]
      rfl
  | succ n ih =>
    intro fu k acc hf hk hL
    cases fu with
    | zero => omega
    | succ fu =>
      rw [X0_sumOwed_l6, q_num2, Option.bind_some, hL, if_neg (nI_ge (by omega) (by omega)), q_isLot v d c kd (by omega), Option.bind_some, q_at (by omega) (by decide), q_1]
      have e := fun acc => ih fu (k + 1) acc (by omega) (by omega) (by rw [hL]; congr 1; omega)
      by_cases hm : mt d c kd (lotC v k) = true
      · rw [if_pos hm, if_neg (by decide), Option.bind_some, e, lotsF_cons, sumS_cons, if_pos hm]
        rfl
      · rw [if_neg hm, if_pos rfl, e, lotsF_cons, sumS_cons, if_neg hm]
/-- the class's lots -/
def LC (v : St) (ls : List Lot) : Prop := v 1 2 = nI ls.length ∧ ls.length ≤ 40 ∧ ls = lotsF (lotC v) 0 ls.length
theorem q_sumOwed {v : St} {ls : List Lot} (h : LC v ls) (d c kd : Int32) : X0_sumOwed v d c kd = some (sumS (mt d c kd) 0 ls) := by
  obtain ⟨h1, h2, h3⟩ := h
  unfold X0_sumOwed
  have e := q_sumOwed_l v d c kd ls.length FU 0 0 (by unfold FU; omega) (by omega) (by rw [h1]; congr 1; omega)
  rw [← h3] at e
  exact e

/-! PURE: the state of the document; the class's and the reference's pictures of it. -/
abbrev AS : Type := List Lot × (Nat → Int32) × (Nat → Nat → Int32)
def updP (pu : Nat → Nat → Int32) (r p : Nat) (x : Int32) : Nat → Nat → Int32 := fun r' p' => if r' = r ∧ p' = p then x else pu r' p'
theorem updP_s {pu : Nat → Nat → Int32} {r p : Nat} {x : Int32} : updP pu r p x r p = x := by simp [updP]
theorem updP_n {pu : Nat → Nat → Int32} {r p r' p' : Nat} {x : Int32} (h : ¬ (r' = r ∧ p' = p)) : updP pu r p x r' p' = pu r' p' := by simp only [updP, if_neg h]
def RC (v : St) (a : AS) : Prop := LC v a.1 ∧ (∀ i, i < 26 → i ≠ 2 → v 1 i = a.2.1 i) ∧ (∀ r p, 2 ≤ r → r ≤ 7 → p < 8 → v r p = a.2.2 r p)
def mapN (i : Nat) : Nat := if i < 2 then 288 + i else if i ≤ 10 then 287 + i else 278 + i
def mset (i : Nat) : Prop := i < 2 ∨ (4 ≤ i ∧ i ≤ 10) ∨ (20 ≤ i ∧ i ≤ 25)
def offP (r : Nat) : Nat := if r = 2 then 5 else r - 3
def RM (s : Nat → Int32) (a : AS) : Prop := LM s a.1 ∧ (∀ i, mset i → s (mapN i) = a.2.1 i) ∧ (∀ r p, 2 ≤ r → r ≤ 7 → p < 8 → s (240 + 6 * p + offP r) = a.2.2 r p)
theorem setA_setA (v : St) (k : Nat) (f g : Nat → Int32) : setA (setA v k f) k g = setA v k g := by
  funext r
  by_cases h : r = k
  · subst h; rw [q_sA, q_sA]
  · rw [q_sN _ _ h, q_sN _ _ h, q_sN _ _ h]
theorem RC.row {v : St} {ls : List Lot} {nu : Nat → Int32} {pu : Nat → Nat → Int32} (h : RC v (ls, nu, pu)) {r p : Nat} (x : Int32) (h1 : 2 ≤ r) (h2 : r ≤ 7) (hp : p < 8) : RC (setA v r (upd (v r) p x)) (ls, nu, updP pu r p x) := by
  refine ⟨h.1.fr (by rw [q_sN v _ (by omega)]) (fun q a b => q_sN v _ (by omega)), fun i a b => by rw [q_sN v _ (by omega)]; exact h.2.1 i a b, fun r' p' a b c => ?_⟩
  show setA v r (upd (v r) p x) r' p' = updP pu r p x r' p'
  by_cases hr : r' = r
  · subst hr
    rw [q_sA]
    by_cases hpp : p' = p
    · subst hpp; rw [q_up, updP_s]
    · rw [q_un hpp, updP_n (by omega)]; exact h.2.2 r' p' a b c
  · rw [q_sN v _ hr, updP_n (by omega)]; exact h.2.2 r' p' a b c
theorem RC.num {v : St} {ls : List Lot} {nu : Nat → Int32} {pu : Nat → Nat → Int32} (h : RC v (ls, nu, pu)) {i : Nat} (x : Int32) (h2 : i ≠ 2) : RC (setA v 1 (upd (v 1) i x)) (ls, upd nu i x, pu) := by
  refine ⟨h.1.fr (by rw [q_sA, q_un (by omega)]) (fun q a b => q_sN v _ (by omega)), fun j a b => ?_, fun r' p' a b c => by rw [q_sN v _ (by omega)]; exact h.2.2 r' p' a b c⟩
  rw [q_sA]
  by_cases hj : j = i
  · subst hj; rw [q_up]; exact q_up.symm
  · rw [q_un hj]; exact (h.2.1 j a b).trans (q_un hj).symm
theorem RC.lots {v v' : St} {a : AS} {ls : List Lot} (h : RC v a) (h1 : LC v' ls) (h2 : FR v v') : RC v' (ls, a.2.1, a.2.2) :=
  ⟨h1, fun i a b => (h2.2 i b).trans (h.2.1 i a b), fun r p a b c => by rw [h2.1 r (by omega) (by omega)]; exact h.2.2 r p a b c⟩
theorem mapN_inj {i j : Nat} (hi : mset i) (hj : mset j) (h : mapN i = mapN j) : i = j := by
  unfold mset at hi hj
  unfold mapN at h
  split at h <;> split at h <;> (try split at h) <;> (try split at h) <;> omega
theorem mapN_ge {i : Nat} (hi : mset i) : 288 ≤ mapN i ∧ mapN i ≠ 290 ∧ mapN i < 304 := by
  unfold mset at hi
  unfold mapN
  split
  · omega
  · split <;> omega
theorem offP_lt {r : Nat} (h1 : 2 ≤ r) (h2 : r ≤ 7) : offP r < 6 := by
  unfold offP; split <;> omega
theorem offP_inj {r q : Nat} (h1 : 2 ≤ r) (h2 : r ≤ 7) (h3 : 2 ≤ q) (h4 : q ≤ 7) (h : offP r = offP q) : r = q := by
  unfold offP at h; split at h <;> split at h <;> omega
theorem RM.row {s : Nat → Int32} {ls : List Lot} {nu : Nat → Int32} {pu : Nat → Nat → Int32} (h : RM s (ls, nu, pu)) {r p : Nat} (x : Int32) (h1 : 2 ≤ r) (h2 : r ≤ 7) (hp : p < 8) : RM (upd s (240 + 6 * p + offP r) x) (ls, nu, updP pu r p x) := by
  have ho := offP_lt h1 h2
  refine ⟨h.1.fr (q_un (by omega)) (fun i hi => q_un (by omega)), fun i hi => ?_, fun r' p' a b c => ?_⟩
  · have := mapN_ge hi
    rw [q_un (by omega)]; exact h.2.1 i hi
  · have ho' := offP_lt a b
    show upd s (240 + 6 * p + offP r) x (240 + 6 * p' + offP r') = updP pu r p x r' p'
    by_cases hh : r' = r ∧ p' = p
    · obtain ⟨rfl, rfl⟩ := hh; rw [q_up, updP_s]
    · rw [updP_n hh, q_un ?_]
      · exact h.2.2 r' p' a b c
      · intro e
        have hpp : p' = p := by omega
        subst hpp
        exact hh ⟨offP_inj a b h1 h2 (by omega), rfl⟩
theorem RM.num {s : Nat → Int32} {ls : List Lot} {nu : Nat → Int32} {pu : Nat → Nat → Int32} (h : RM s (ls, nu, pu)) {i : Nat} (x : Int32) (hi : mset i) : RM (upd s (mapN i) x) (ls, upd nu i x, pu) := by
  have hm := mapN_ge hi
  refine ⟨h.1.fr (q_un (by omega)) (fun j hj => q_un (by omega)), fun j hj => ?_, fun r' p' a b c => ?_⟩
  · by_cases hji : j = i
    · subst hji; rw [q_up]; exact q_up.symm
    · rw [q_un (fun e => hji (mapN_inj hj hi e))]; exact (h.2.1 j hj).trans (q_un hji).symm
  · have ho := offP_lt a b
    rw [q_un (by omega)]; exact h.2.2 r' p' a b c
theorem RM.lots {v v' : St} {a : AS} {ls : List Lot} (h : RM (v 1) a) (h1 : LM (v' 1) ls) (h2 : FM v v') : RM (v' 1) (ls, a.2.1, a.2.2) :=
  ⟨h1, fun i hi => by have := mapN_ge hi; rw [h2.2 _ (by omega) (by omega)]; exact h.2.1 i hi, fun r p a b c => by have := offP_lt a b; rw [h2.2 _ (by omega) (by omega)]; exact h.2.2 r p a b c⟩
/-! What always holds. -/
def okL (P : Nat) (l : Lot) : Prop := ∃ d c k n a p : Nat, l = (nI d, nI c, nI k, nI n, nI a, nI p) ∧ d < P ∧ c < P ∧ d ≠ c ∧ k < 4 ∧ 1 ≤ n ∧ n ≤ 9 ∧ a ≤ 19 ∧ p ≤ 1
def OK (a : AS) : Prop := a.1.length ≤ 40 ∧ ∃ P : Nat, P ≤ 8 ∧ a.2.1 1 = nI P ∧ (∀ l ∈ a.1, okL P l) ∧ (∀ p, p < 8 → ∃ g : Nat, a.2.2 5 p = nI g ∧ g ≤ P ∧ g ≠ p + 1) ∧ (∀ i, i < 4 → ∃ n : Nat, a.2.1 (20 + i) = nI n ∧ 1 ≤ n ∧ n ≤ 20) ∧ (∃ n : Nat, a.2.1 24 = nI n ∧ 1 ≤ n ∧ n ≤ 99) ∧ (∃ n : Nat, a.2.1 25 = nI n ∧ 1 ≤ n ∧ n ≤ 20) ∧ (a.2.1 10 = 0 ∨ a.2.1 10 = 1) ∧ (∃ w : Nat, a.2.1 0 = nI w ∧ w ≤ 999)
theorem okL.okN {P : Nat} {ls : List Lot} (h : ∀ l ∈ ls, okL P l) : okN ls := by
  intro l hl
  obtain ⟨d, c, k, n, a, p, rfl, _, _, _, _, h1, h2, _⟩ := h l hl
  exact ⟨n, rfl, h2⟩
/-! The arguments. -/
def kP (a : AS) (x : Int32) : Bool := decide (0 ≤ x.toInt) && decide (x.toInt < (a.2.1 1).toInt)
def kPr (a : AS) (x y : Int32) : Bool := kP a x && kP a y && decide (¬ x = y)
def kIn (x : Int32) (lo hi : Int) : Bool := decide (lo ≤ x.toInt) && decide (x.toInt ≤ hi)
theorem t1 : (1 : Int32).toInt = 1 := by decide
theorem t4 : (4 : Int32).toInt = 4 := by decide
theorem t9 : (9 : Int32).toInt = 9 := by decide
theorem lt_i {x y : Int32} : (x < y) = (x.toInt < y.toInt) := propext Int32.lt_iff_toInt_lt
theorem le_i {x y : Int32} : (x ≤ y) = (x.toInt ≤ y.toInt) := propext Int32.le_iff_toInt_le
theorem bAnd {p q : Prop} [Decidable p] [Decidable q] : (decide p && decide q) = true ↔ p ∧ q := by
  rw [Bool.and_eq_true]
  exact ⟨fun h => ⟨of_decide_eq_true h.1, of_decide_eq_true h.2⟩, fun h => ⟨decide_eq_true h.1, decide_eq_true h.2⟩⟩
theorem kP_iff {a : AS} {x : Int32} : kP a x = true ↔ 0 ≤ x.toInt ∧ x.toInt < (a.2.1 1).toInt := bAnd
theorem kIn_iff {x : Int32} {lo hi : Int} : kIn x lo hi = true ↔ lo ≤ x.toInt ∧ x.toInt ≤ hi := bAnd
theorem kP_nat {a : AS} {x : Int32} {P : Nat} (h : kP a x = true) (hP : a.2.1 1 = nI P) (h8 : P ≤ 8) : ∃ d : Nat, x = nI d ∧ d < P := by
  obtain ⟨h1, h2⟩ := kP_iff.mp h
  rw [hP, nI_toInt (by omega)] at h2
  exact ⟨x.toInt.toNat, q_nat h1, by omega⟩
theorem kIn_nat {x : Int32} {lo hi : Int} (h : kIn x lo hi = true) (h0 : 0 ≤ lo) : ∃ d : Nat, x = nI d ∧ lo ≤ d ∧ (d : Int) ≤ hi := by
  obtain ⟨h1, h2⟩ := kIn_iff.mp h
  exact ⟨x.toInt.toNat, q_nat (by omega), by omega, by omega⟩
theorem q_isPupil {v : St} {a : AS} (h : RC v a) (x : Int32) : X0_isPupil v x = some (if kP a x then 1 else 0) := by
  rw [X0_isPupil, q_num1, Option.bind_some, h.2.1 1 (by decide) (by decide)]
  simp only [lt_i, le_i, Int32.toInt_zero]
  by_cases h1 : x.toInt < 0
  · rw [if_pos h1, if_neg (fun e => by have := kP_iff.mp e; omega)]
  · rw [if_neg h1]
    by_cases h2 : (a.2.1 1).toInt ≤ x.toInt
    · rw [if_pos h2, if_neg (fun e => by have := kP_iff.mp e; omega)]
    · rw [if_neg h2, if_pos (kP_iff.mpr (by omega))]
theorem q_isPair {v : St} {a : AS} (h : RC v a) (x y : Int32) : X0_isPair v x y = some (if kPr a x y then 1 else 0) := by
  rw [X0_isPair, q_isPupil h, Option.bind_some, q_isPupil h, Option.bind_some]
  unfold kPr
  cases hx : kP a x with
  | false => rfl
  | true =>
    cases hy : kP a y with
    | false => rfl
    | true =>
      by_cases he : x = y
      · simp [he]
      · simp [he]
theorem q_isKind (x : Int32) : X4_isKind x = some (if kIn x 0 3 then 1 else 0) := by
  rw [X4_isKind]
  simp only [lt_i, le_i, Int32.toInt_zero, t4]
  by_cases h1 : x.toInt < 0
  · rw [if_pos h1, if_neg (fun e => by have := kIn_iff.mp e; omega)]
  · rw [if_neg h1]
    by_cases h2 : 4 ≤ x.toInt
    · rw [if_pos h2, if_neg (fun e => by have := kIn_iff.mp e; omega)]
    · rw [if_neg h2, if_pos (kIn_iff.mpr (by omega))]
theorem q_isMany (x : Int32) : X4_isMany x = some (if kIn x 1 9 then 1 else 0) := by
  rw [X4_isMany]
  simp only [lt_i, t1, t9]
  by_cases h1 : x.toInt < 1
  · rw [if_pos h1, if_neg (fun e => by have := kIn_iff.mp e; omega)]
  · rw [if_neg h1]
    by_cases h2 : 9 < x.toInt
    · rw [if_pos h2, if_neg (fun e => by have := kIn_iff.mp e; omega)]
    · rw [if_neg h2, if_pos (kIn_iff.mpr (by omega))]
theorem q_inM (x lo hi : Int32) : X5_in x lo hi = some (if kIn x lo.toInt hi.toInt then 1 else 0) := by
  rw [X5_in]
  simp only [lt_i]
  by_cases h1 : x.toInt < lo.toInt
  · rw [if_pos h1, if_neg (fun e => by have := kIn_iff.mp e; omega)]
  · rw [if_neg h1]
    by_cases h2 : hi.toInt < x.toInt
    · rw [if_pos h2, if_neg (fun e => by have := kIn_iff.mp e; omega)]
    · rw [if_neg h2, if_pos (kIn_iff.mpr (by omega))]
theorem zb_if (b : Bool) : zbI (if b = true then 1 else 0) = some (if b = true then 1 else 0) := by cases b <;> rfl
theorem q_isKindM (x : Int32) : X5_isKind x = some (if kIn x 0 3 then 1 else 0) := by
  rw [X5_isKind, q_inM, Option.bind_some, zb_if]
  rfl
theorem RM.pup {s : Nat → Int32} {a : AS} (h : RM s a) : s 289 = a.2.1 1 := h.2.1 1 (Or.inl (by decide))
theorem q_isPupilM {v : St} {a : AS} (h : RM (v 1) a) (ho : OK a) (x : Int32) : X5_isPupil v x = some (if kP a x then 1 else 0) := by
  obtain ⟨_, P, h8, hP, _⟩ := ho
  rw [X5_isPupil, m289, Option.bind_some, h.pup, q_inM, Option.bind_some, zb_if]
  have e : kIn x (0 : Int32).toInt (a.2.1 1 - 1).toInt = kP a x := by
    rw [Bool.eq_iff_iff, kIn_iff, kP_iff, hP]
    have h1 : (nI P - 1).toInt = (P : Int) - 1 := by
      cases P with
      | zero => decide
      | succ n => rw [nI_pred, nI_toInt (by omega)]; omega
    rw [h1, nI_toInt (by omega), Int32.toInt_zero]
    omega
  rw [e]
  rfl
theorem q_isPairM {v : St} {a : AS} (h : RM (v 1) a) (ho : OK a) (x y : Int32) : X5_isPair v x y = some (if kPr a x y then 1 else 0) := by
  rw [X5_isPair, q_isPupilM h ho, Option.bind_some, q_isPupilM h ho, Option.bind_some]
  unfold kPr
  cases hx : kP a x with
  | false => rfl
  | true =>
    cases hy : kP a y with
    | false => rfl
    | true =>
      by_cases he : x = y
      · simp [he]
      · simp [he]

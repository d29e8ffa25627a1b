/- the text: what is read, and the class's reading -/
abbrev SG : Type := Nat → Nat
def sgn (n : Nat) (ch : Nat → Nat) : SG := fun i => if i < n then ch i else 0
def dg (c : Nat) : Bool := decide (48 ≤ c) && decide (c ≤ 57)
def rdN (sg : SG) (p : Nat) : Nat × Nat :=
  bif dg (sg p) then (bif dg (sg (p + 1)) then ((sg p - 48) * 10 + sg (p + 1) - 48, p + 2) else (sg p - 48, p + 1)) else (0, p)
def cntOf (c : Nat) : Option Nat := if c = 99 then some 1 else if c = 100 then some 4 else if c = 103 then some 2 else if c = 104 then some 0 else if c = 111 then some 4 else if c = 119 then some 1 else none
abbrev RO : Type := Bool × Nat × (Nat → Nat)
def rdL (sg : SG) : Nat → Nat → Nat → (Nat → Nat) → RO
  | 0, _, p, vs => if sg p = 59 then (true, p + 1, vs) else (false, p, vs)
  | k + 1, j, p, vs => if j = 0 then (if (rdN sg p).2 = p then (false, p, vs) else rdL sg k (j + 1) (rdN sg p).2 (updN vs j (rdN sg p).1))
    else (if sg p = 44 then (if (rdN sg (p + 1)).2 = p + 1 then (false, p + 1, vs) else rdL sg k (j + 1) (rdN sg (p + 1)).2 (updN vs j (rdN sg (p + 1)).1)) else (false, p, vs))
def rdO (sg : SG) (p : Nat) : RO := match cntOf (sg p) with
  | none => (false, p, fun _ => 0)
  | some k => rdL sg k 0 (p + 1) (fun _ => 0)
theorem dg_iff {c : Nat} : dg c = true ↔ 48 ≤ c ∧ c ≤ 57 := by
  unfold dg; rw [Bool.and_eq_true, decide_eq_true_iff, decide_eq_true_iff]
theorem sgn_dg {n p : Nat} {ch : Nat → Nat} (h : dg (sgn n ch p) = true) : p < n := by
  unfold sgn at h
  split at h
  · assumption
  · exact absurd h (by decide)
theorem sgn_ne {n p c : Nat} {ch : Nat → Nat} (h : sgn n ch p = c) (hc : c ≠ 0) : p < n := by
  unfold sgn at h
  split at h
  · assumption
  · exact absurd h.symm hc
theorem rdN_le {n : Nat} {ch : Nat → Nat} {p : Nat} (hp : p ≤ n) : p ≤ (rdN (sgn n ch) p).2 ∧ (rdN (sgn n ch) p).2 ≤ n ∧ (rdN (sgn n ch) p).1 ≤ 99 := by
  unfold rdN
  cases h : dg (sgn n ch p) with
  | false => exact ⟨Nat.le_refl _, hp, by show 0 ≤ 99; omega⟩
  | true =>
    have h1 := sgn_dg h
    have h2 := dg_iff.mp h
    cases k : dg (sgn n ch (p + 1)) with
    | false => simp only [cond_true, cond_false]; omega
    | true =>
      have k1 := sgn_dg k
      have k2 := dg_iff.mp k
      simp only [cond_true]; omega
theorem cntOf_le {c k : Nat} (h : cntOf c = some k) : k ≤ 4 ∧ c ≠ 0 ∧ c ≤ 126 := by
  unfold cntOf at h
  repeat' split at h
  all_goals (try cases h)
  all_goals omega
theorem rdL_le {n : Nat} {ch : Nat → Nat} : ∀ (k j p : Nat) (vs : Nat → Nat), p ≤ n → p ≤ (rdL (sgn n ch) k j p vs).2.1 ∧ (rdL (sgn n ch) k j p vs).2.1 ≤ n ∧ ((rdL (sgn n ch) k j p vs).1 = true → p + 1 ≤ (rdL (sgn n ch) k j p vs).2.1) := by
  intro k
  induction k with
  | zero =>
    intro j p vs hp
    unfold rdL
    by_cases c : sgn n ch p = 59
    · rw [if_pos c]
      have := sgn_ne c (by decide)
      dsimp only; omega
    · rw [if_neg c]; exact ⟨Nat.le_refl _, hp, fun h => by cases h⟩
  | succ k ih =>
    intro j p vs hp
    unfold rdL
    by_cases j0 : j = 0
    · rw [if_pos j0]
      obtain ⟨r1, r2, _⟩ := rdN_le (ch := ch) hp
      split
      · exact ⟨Nat.le_refl _, hp, fun h => by cases h⟩
      · obtain ⟨i1, i2, i3⟩ := ih (j + 1) _ (updN vs j (rdN (sgn n ch) p).1) r2
        exact ⟨by omega, i2, fun h => by have := i3 h; omega⟩
    · rw [if_neg j0]
      by_cases c : sgn n ch p = 44
      · rw [if_pos c]
        have hp1 := sgn_ne c (by decide)
        obtain ⟨r1, r2, _⟩ := rdN_le (n := n) (ch := ch) (p := p + 1) hp1
        split
        · exact ⟨by dsimp only; omega, hp1, fun h => by cases h⟩
        · obtain ⟨i1, i2, i3⟩ := ih (j + 1) _ (updN vs j (rdN (sgn n ch) (p + 1)).1) r2
          exact ⟨by omega, i2, fun h => by have := i3 h; omega⟩
      · rw [if_neg c]; exact ⟨Nat.le_refl _, hp, fun h => by cases h⟩
theorem rdO_le {n : Nat} {ch : Nat → Nat} {p : Nat} (hp : p < n) : p ≤ (rdO (sgn n ch) p).2.1 ∧ (rdO (sgn n ch) p).2.1 ≤ n ∧ ((rdO (sgn n ch) p).1 = true → p + 2 ≤ (rdO (sgn n ch) p).2.1) := by
  unfold rdO
  cases cntOf (sgn n ch p) with
  | none => exact ⟨Nat.le_refl _, by dsimp only; omega, fun h => by cases h⟩
  | some k =>
    obtain ⟨i1, i2, i3⟩ := rdL_le (ch := ch) k 0 (p + 1) (fun _ => 0) hp
    exact ⟨by dsimp only; omega, i2, fun h => by have := i3 h; dsimp only; omega⟩
/- the class's text -/
def TXT (n : Nat) (ch : Nat → Nat) : Prop := n ≤ 60 ∧ ∀ i, i < n → 32 ≤ ch i ∧ ch i ≤ 126
def TC (v : St) (n : Nat) (ch : Nat → Nat) : Prop := v 99 2 = nI n ∧ ∀ i, i < n → v 1 i = nI (ch i)
def KC (v v' : St) : Prop := v' 1 = v 1 ∧ ∀ i, i ≠ 3 → v' 99 i = v 99 i
theorem KC.rf (v : St) : KC v v := ⟨rfl, fun _ _ => rfl⟩
theorem KC.tr {u v w : St} (h : KC u v) (k : KC v w) : KC u w := ⟨k.1.trans h.1, fun i a => (k.2 i a).trans (h.2 i a)⟩
theorem KC.pos (v : St) (x : Int32) : KC v (setI v 3 x) := ⟨setI_r (by decide), fun i a => setI_n a⟩
theorem KC.row2 (v : St) (f : Nat → Int32) : KC v (setA v 2 f) := ⟨q_sN v _ (by decide), fun i _ => by rw [q_sN v _ (by decide)]⟩
theorem TC.kc {v v' : St} {n : Nat} {ch : Nat → Nat} (h : TC v n ch) (k : KC v v') : TC v' n ch := ⟨by rw [k.2 2 (by decide)]; exact h.1, fun i hi => by rw [k.1]; exact h.2 i hi⟩
theorem sgn_lt {n : Nat} {ch : Nat → Nat} (hT : TXT n ch) (i : Nat) : sgn n ch i ≤ 126 := by
  unfold sgn
  split
  · next h => exact (hT.2 i h).2
  · omega
theorem c_sign {v : St} {n : Nat} {ch : Nat → Nat} (h : TC v n ch) (hT : TXT n ch) {i : Nat} (hi : i ≤ 1000) : X2_signAt v (nI i) = some (nI (sgn n ch i)) := by
  have hn := hT.1
  rw [X2_signAt, h.1]
  have hc : (nI n ≤ nI i) = (n ≤ i) := q_le (by omega) (by omega)
  unfold sgn
  by_cases c : i < n
  · rw [if_neg (fun e => by have := hc.mp e; omega), if_pos c, q_at (by omega) (by decide), Option.bind_some, h.2 i c]
  · rw [if_pos (hc.mpr (by omega)), if_neg c]; rfl
theorem c_digit {c : Nat} (hc : c ≤ 1000) : X2_isDigit (nI c) = some (if dg c = true then 1 else 0) := by
  rw [X2_isDigit]
  have h1 : (nI c < (48 : Int32)) = (c < 48) := q_lt (b := 48) (by omega) (by decide)
  have h2 : ((57 : Int32) < nI c) = (57 < c) := q_lt (a := 57) (by decide) (by omega)
  by_cases c1 : c < 48
  · rw [if_pos (h1.mpr c1), if_neg (fun e => by have := dg_iff.mp e; omega)]
  · rw [if_neg (fun e => c1 (h1.mp e))]
    by_cases c2 : 57 < c
    · rw [if_pos (h2.mpr c2), if_neg (fun e => by have := dg_iff.mp e; omega)]
    · rw [if_neg (fun e => c2 (h2.mp e)), if_pos (dg_iff.mpr (by omega))]
theorem c_dval {v c : Nat} (h : 48 ≤ c) : nI v * (10 : Int32) + nI c - (48 : Int32) = nI (v * 10 + c - 48) := by
  have e : nI v * (10 : Int32) = nI (v * 10) := pk_mul v 10
  rw [e, nI_add]
  exact q_sub (b := 48) (by omega)
theorem c_readN {v : St} {n : Nat} {ch : Nat → Nat} (h : TC v n ch) (hT : TXT n ch) {p j : Nat} (h3 : v 99 3 = nI p) (hp : p ≤ n) (hj : j < 4) :
    ∃ v', X2_readNumber v (nI j) = some ((if (rdN (sgn n ch) p).2 = p then 0 else 1), v') ∧ KC v v' ∧ v' 99 3 = nI (rdN (sgn n ch) p).2 ∧ v' 2 j = nI (rdN (sgn n ch) p).1 ∧ ∀ i, i ≠ j → v' 2 i = v 2 i := by
  have hn := hT.1
  have s1 := sgn_lt hT p
  have s2 := sgn_lt hT (p + 1)
  have l2 : ¬ (2 : Int32) ≤ (0 : Int32) := by decide
  have l21 : ¬ (2 : Int32) ≤ (0 : Int32) + 1 := by decide
  have l22 : (2 : Int32) ≤ (0 : Int32) + 1 + 1 := by decide
  rw [X2_readNumber, show FU = 1997 + 1 + 1 + 1 from rfl, X2_readNumber_l4, if_neg l2, h3, c_sign h hT (by omega), Option.bind_some, c_digit (by omega), Option.bind_some, ifb]
  unfold rdN
  cases d1 : dg (sgn n ch p) with
  | false =>
    simp only [cond_false]
    rw [X2_readNumber_b56, q_put (by omega) (by decide), Option.bind_some, if_pos (by decide), if_pos trivial]
    exact ⟨_, rfl, KC.row2 v _, by rw [q_sN v _ (by decide)]; exact h3, by rw [q_sA, q_up]; rfl, fun i hi => by rw [q_sA, q_un hi]⟩
  | true =>
    simp only [cond_true]
    have g1 := (dg_iff.mp d1).1
    have k1 := KC.pos v (nI (p + 1))
    have h' := h.kc k1
    have e0 : (0 : Int32) * (10 : Int32) + nI (sgn n ch p) - (48 : Int32) = nI (sgn n ch p - 48) := by
      have := c_dval (v := 0) g1
      rw [Nat.zero_mul, Nat.zero_add] at this
      exact this
    rw [Option.bind_some, q_1, e0, X2_readNumber_l4, if_neg l21, setI_s, c_sign h' hT (by omega), Option.bind_some, c_digit (by omega), Option.bind_some, ifb]
    cases d2 : dg (sgn n ch (p + 1)) with
    | false =>
      simp only [cond_false]
      rw [X2_readNumber_b56, q_put (by omega) (by decide), Option.bind_some, if_neg (by decide), if_neg (by omega)]
      exact ⟨_, rfl, k1.tr (KC.row2 _ _), by rw [q_sN _ _ (by decide), setI_s], by rw [q_sA, q_up], fun i hi => by rw [q_sA, q_un hi, setI_r (by decide)]⟩
    | true =>
      simp only [cond_true]
      have g2 := (dg_iff.mp d2).1
      rw [Option.bind_some, q_1, c_dval g2, X2_readNumber_l4, if_pos l22, X2_readNumber_b56, q_put (by omega) (by decide), Option.bind_some, if_neg (by decide), if_neg (by omega)]
      exact ⟨_, rfl, (k1.tr (KC.pos _ _)).tr (KC.row2 _ _), by rw [q_sN _ _ (by decide), setI_s], by rw [q_sA, q_up], fun i hi => by rw [q_sA, q_un hi, setI_r (by decide), setI_r (by decide)]⟩

/-! PURE: favours taken. -/
theorem q_sub {a b : Nat} (h : b ≤ a) : nI a - nI b = nI (a - b) := pk_sub h
theorem q_addneg (a b : Int32) : a + -b = a - b := (Int32.sub_eq_add_neg a b).symm
def okN (ls : List Lot) : Prop := ∀ l ∈ ls, ∃ s : Nat, l.n = nI s ∧ s ≤ 9
def sumN (P : Lot → Bool) : List Lot → Nat
  | [] => 0
  | l :: ls => (if P l then l.n.toNatClampNeg else 0) + sumN P ls
def cntN (P : Lot → Bool) : List Lot → Nat
  | [] => 0
  | l :: ls => (if P l && pos l then 1 else 0) + cntN P ls
def withN (l : Lot) (x : Int32) : Lot := (l.d, l.c, l.k, x, l.a, l.p)
def setN : List Lot → Nat → Int32 → List Lot
  | [], _, _ => []
  | l :: ls, 0, x => withN l x :: ls
  | l :: ls, j + 1, x => l :: setN ls j x
def getN (ls : List Lot) (j : Nat) : Int32 := match ls[j]? with
  | some l => l.n
  | none => 0
def mn (s left : Int32) : Int32 := if s < left then s else left
def takL (P : Lot → Bool) : Nat → Int32 → List Lot → List Lot
  | 0, _, ls => ls
  | t + 1, left, ls => if left ≤ 0 then ls else match oldF P ls 0 none with
    | none => ls
    | some q => takL P t (left - mn (getN ls q.1) left) (setN ls q.1 (getN ls q.1 - mn (getN ls q.1) left))
theorem sumS_nat {P : Lot → Bool} : ∀ {ls : List Lot} (a : Nat), okN ls → sumS P (nI a) ls = nI (a + sumN P ls) := by
  intro ls
  induction ls with
  | nil => intro a _; rfl
  | cons l ls ih =>
    intro a h
    obtain ⟨s, hs, h9⟩ := h l List.mem_cons_self
    have h2 : okN ls := fun x hx => h x (List.mem_cons_of_mem _ hx)
    rw [sumS_cons, sumN]
    by_cases hp : P l = true
    · rw [if_pos hp, if_pos hp, hs, nI_add, ih _ h2, nI_clamp (by omega)]
      congr 1; omega
    · rw [if_neg hp, if_neg hp, ih _ h2]
      congr 1; omega
theorem sumN_le {P : Lot → Bool} : ∀ {ls : List Lot}, okN ls → sumN P ls ≤ 9 * ls.length := by
  intro ls
  induction ls with
  | nil => intro _; exact Nat.le_refl _
  | cons l ls ih =>
    intro h
    obtain ⟨s, hs, h9⟩ := h l List.mem_cons_self
    have h2 := ih (fun x hx => h x (List.mem_cons_of_mem _ hx))
    rw [sumN, List.length_cons]
    by_cases hp : P l = true
    · rw [if_pos hp, hs, nI_clamp (by omega)]; omega
    · rw [if_neg hp]; omega
theorem cntN_le {P : Lot → Bool} : ∀ {ls : List Lot}, cntN P ls ≤ ls.length := by
  intro ls
  induction ls with
  | nil => exact Nat.le_refl _
  | cons l ls ih => rw [cntN, List.length_cons]; split <;> omega
theorem pos_nI {l : Lot} {s : Nat} (h : l.n = nI s) (hs : s ≤ 9) : pos l = decide (0 < s) := by
  unfold pos
  rw [h]
  by_cases h0 : s = 0
  · subst h0; rfl
  · have h1 : 0 < s := by omega
    rw [decide_eq_true h1, decide_eq_true]
    exact nI_lt h1 (by omega)
theorem sum0_of_cnt0 {P : Lot → Bool} : ∀ {ls : List Lot}, okN ls → cntN P ls = 0 → sumN P ls = 0 := by
  intro ls
  induction ls with
  | nil => intro _ _; rfl
  | cons l ls ih =>
    intro h hc
    obtain ⟨s, hs, h9⟩ := h l List.mem_cons_self
    rw [cntN] at hc
    rw [sumN, ih (fun x hx => h x (List.mem_cons_of_mem _ hx)) (by omega)]
    by_cases hp : P l = true
    · rw [if_pos hp, hs, nI_clamp (by omega)]
      rw [hp, pos_nI hs h9] at hc
      by_cases h0 : 0 < s
      · simp [h0] at hc
      · omega
    · rw [if_neg hp]
theorem oldF_spec (P : Lot → Bool) : ∀ (ls : List Lot) (k : Nat) (cur : Option (Nat × Int32)),
    (∀ j a, oldF P ls k cur = some (j, a) → cur = some (j, a) ∨ ∃ i l, j = k + i ∧ ls[i]? = some l ∧ P l = true ∧ pos l = true ∧ a = l.a) ∧
    (oldF P ls k cur = none → cur = none ∧ cntN P ls = 0) := by
  intro ls
  induction ls with
  | nil => intro k cur; exact ⟨fun j a h => Or.inl h, fun h => ⟨h, rfl⟩⟩
  | cons l ls ih =>
    intro k cur
    rw [oldF, cntN]
    by_cases hc : (P l && pos l && better cur l.a) = true
    · rw [if_pos hc]
      obtain ⟨h1, h2⟩ := ih (k + 1) (some (k, l.a))
      simp only [Bool.and_eq_true] at hc
      refine ⟨fun j a h => ?_, fun h => ?_⟩
      · rcases h1 j a h with h3 | ⟨i, x, e1, e2, e3, e4, e5⟩
        · cases h3
          exact Or.inr ⟨0, l, rfl, rfl, hc.1.1, hc.1.2, rfl⟩
        · exact Or.inr ⟨i + 1, x, by omega, e2, e3, e4, e5⟩
      · cases (h2 h).1
    · rw [if_neg hc]
      obtain ⟨h1, h2⟩ := ih (k + 1) cur
      refine ⟨fun j a h => ?_, fun h => ?_⟩
      · rcases h1 j a h with h3 | ⟨i, x, e1, e2, e3, e4, e5⟩
        · exact Or.inl h3
        · exact Or.inr ⟨i + 1, x, by omega, e2, e3, e4, e5⟩
      · obtain ⟨h3, h4⟩ := h2 h
        subst h3
        refine ⟨rfl, ?_⟩
        have hpp : (P l && pos l) = false := by
          cases hq : (P l && pos l) with
          | false => rfl
          | true => rw [hq] at hc; exact absurd rfl hc
        rw [hpp, h4]
        rfl
theorem setN_len : ∀ (ls : List Lot) (j : Nat) (x : Int32), (setN ls j x).length = ls.length := by
  intro ls
  induction ls with
  | nil => intro j x; rfl
  | cons l ls ih => intro j x; cases j <;> simp [setN, ih]
theorem setN_get : ∀ (ls : List Lot) (j k : Nat) (x : Int32), (setN ls j x)[k]? = if k = j then (ls[k]?).map (fun l => withN l x) else ls[k]? := by
  intro ls
  induction ls with
  | nil => intro j k x; simp [setN]
  | cons l ls ih =>
    intro j k x
    cases j with
    | zero => cases k with
      | zero => simp [setN]
      | succ k => simp [setN]
    | succ j => cases k with
      | zero => simp [setN]
      | succ k =>
        simp only [setN, List.getElem?_cons_succ]
        rw [ih j k x]
        by_cases h : k = j
        · rw [if_pos h, if_pos (by omega)]
        · rw [if_neg h, if_neg (by omega)]
theorem setN_mem {ls : List Lot} {j : Nat} {x : Int32} {l' : Lot} (h : l' ∈ setN ls j x) : l' ∈ ls ∨ ∃ l, ls[j]? = some l ∧ l' = withN l x := by
  obtain ⟨k, hk⟩ := List.getElem?_of_mem h
  rw [setN_get] at hk
  split at hk
  · next e =>
    subst e
    cases hl : ls[k]? with
    | none => rw [hl] at hk; cases hk
    | some l => rw [hl] at hk; exact Or.inr ⟨l, rfl, (Option.some.inj hk).symm⟩
  · exact Or.inl (List.mem_of_getElem? hk)
/-- a predicate that the sizes don't matter to -/
def nfree (P : Lot → Bool) : Prop := ∀ l x, P (withN l x) = P l
theorem mt_nfree (d c k : Int32) : nfree (mt d c k) := fun _ _ => rfl
theorem sumN_set {P : Lot → Bool} (hP : nfree P) : ∀ {ls : List Lot} {j : Nat} {l : Lot} (x : Int32), ls[j]? = some l → sumN P (setN ls j x) + (if P l then l.n.toNatClampNeg else 0) = sumN P ls + (if P l then x.toNatClampNeg else 0) := by
  intro ls
  induction ls with
  | nil => intro j l x h; simp at h
  | cons y ls ih =>
    intro j l x h
    cases j with
    | zero =>
      simp at h
      subst h
      rw [setN, sumN, sumN, hP]
      by_cases hp : P y = true
      · simp only [hp, if_true]; show x.toNatClampNeg + _ + _ = _; omega
      · simp only [hp]; simp
    | succ j =>
      simp only [List.getElem?_cons_succ] at h
      have := ih x h
      rw [setN, sumN, sumN]
      omega
theorem cntN_set0 {P : Lot → Bool} (hP : nfree P) : ∀ {ls : List Lot} {j : Nat} {l : Lot}, ls[j]? = some l → P l = true → pos l = true → cntN P (setN ls j 0) + 1 = cntN P ls := by
  intro ls
  induction ls with
  | nil => intro j l h; simp at h
  | cons y ls ih =>
    intro j l h h1 h2
    cases j with
    | zero =>
      simp at h
      subst h
      rw [setN, cntN, cntN, hP, h1, h2, show pos (withN y 0) = false from rfl]
      simp; omega
    | succ j =>
      simp only [List.getElem?_cons_succ] at h
      have := ih h h1 h2
      rw [setN, cntN, cntN]
      omega
theorem okN_set {ls : List Lot} (h : okN ls) {j s : Nat} (hs : s ≤ 9) : okN (setN ls j (nI s)) := by
  intro l' hl
  rcases setN_mem hl with h1 | ⟨l, -, rfl⟩
  · exact h l' h1
  · exact ⟨s, rfl, hs⟩
theorem mn_nI {s q : Nat} (hs : s ≤ 9) (hq : q < 2 ^ 31) : mn (nI s) (nI q) = nI (min s q) := by
  unfold mn
  by_cases h : s < q
  · rw [if_pos (nI_lt h hq), Nat.min_eq_left (by omega)]
  · rw [if_neg (nI_nlt (by omega) (by omega)), Nat.min_eq_right (by omega)]
/-- one turn of the taking, by numbers -/
theorem tak_step {P : Lot → Bool} (hP : nfree P) {ls : List Lot} (hok : okN ls) {q : Nat} (hq : 0 < q) (hs : q ≤ sumN P ls) (hq31 : q < 2 ^ 31) :
    ∃ j a l s, oldF P ls 0 none = some (j, a) ∧ ls[j]? = some l ∧ l.n = nI s ∧ s ≤ 9 ∧ P l = true ∧ 0 < s ∧ getN ls j = nI s ∧ mn (getN ls j) (nI q) = nI (min s q) ∧ nI q - nI (min s q) = nI (q - min s q) ∧ nI s - nI (min s q) = nI (s - min s q) ∧
      okN (setN ls j (nI (s - min s q))) ∧ sumN P (setN ls j (nI (s - min s q))) + min s q = sumN P ls ∧ (q - min s q = 0 ∨ cntN P (setN ls j (nI (s - min s q))) + 1 = cntN P ls) := by
  cases h : oldF P ls 0 none with
  | none =>
    have h1 := ((oldF_spec P ls 0 none).2 h).2
    have := sum0_of_cnt0 hok h1
    omega
  | some ja =>
    obtain ⟨j, a⟩ := ja
    rcases (oldF_spec P ls 0 none).1 j a h with h1 | ⟨i, l, e1, e2, e3, e4, e5⟩
    · cases h1
    · have e1 : j = i := by omega
      subst e1
      obtain ⟨s, hn, h9⟩ := hok l (List.mem_of_getElem? e2)
      have hs0 : 0 < s := by
        rw [pos_nI hn h9] at e4
        simpa using e4
      have hg : getN ls j = nI s := by unfold getN; rw [e2]; exact hn
      have hset := sumN_set hP (nI (s - min s q)) e2
      rw [e3, hn, nI_clamp (by omega), nI_clamp (by omega)] at hset
      simp only [if_true] at hset
      refine ⟨j, a, l, s, rfl, e2, hn, h9, e3, hs0, hg, by rw [hg]; exact mn_nI h9 hq31, q_sub (by omega), q_sub (by omega), okN_set hok (by omega), by omega, ?_⟩
      by_cases hsq : s < q
      · refine Or.inr ?_
        rw [show s - min s q = 0 by omega, nI_0]
        exact cntN_set0 hP e2 e3 e4
      · exact Or.inl (by omega)
theorem lotC_set {v : St} {ls : List Lot} (h : LC v ls) {j : Nat} (hj : j < ls.length) (x : Int32) : LC (setA v 11 (upd (v 11) j x)) (setN ls j x) := by
  obtain ⟨h1, h2, h3⟩ := h
  refine ⟨by rw [setN_len]; exact h1, by rw [setN_len]; exact h2, ?_⟩
  rw [setN_len]
  apply List.ext_getElem?
  intro k
  rw [setN_get]
  by_cases hk : k < ls.length
  · rw [lotsF_get _ _ _ _ hk, Nat.zero_add, LC.get ⟨h1, h2, h3⟩ hk]
    by_cases hkj : k = j
    · subst hkj
      rw [if_pos rfl]
      show some (v 8 k, v 9 k, v 10 k, x, v 12 k, v 13 k) = some (v 8 k, v 9 k, v 10 k, upd (v 11) k x k, v 12 k, v 13 k)
      rw [q_up]
    · rw [if_neg hkj]
      show some (v 8 k, v 9 k, v 10 k, v 11 k, v 12 k, v 13 k) = some (v 8 k, v 9 k, v 10 k, upd (v 11) j x k, v 12 k, v 13 k)
      rw [q_un hkj]
  · have hn : ls[k]? = none := List.getElem?_eq_none (by omega)
    have hn2 : (lotsF (lotC (setA v 11 (upd (v 11) j x))) 0 ls.length)[k]? = none := List.getElem?_eq_none (by rw [lotsF_len]; omega)
    rw [hn, hn2]
    split <;> rfl
theorem q_take_l (d c kd m : Int32) : ∀ (t fu turn : Nat) (v : St) (q : Nat) (ls : List Lot), t < fu → turn + t ≤ 40 → (q = 0 ∨ cntN (mt d c kd) ls ≤ t) → q ≤ sumN (mt d c kd) ls → okN ls → LC v ls →
    ∃ v', X0_takeFavours_l7 d c kd m fu v (nI q) (nI turn) = some v' ∧ LC v' ((takL (mt d c kd) t (nI q) ls).filter pos) ∧ FR v v' := by
  intro t
  have h69 : ∀ (v : St) (ls : List Lot), LC v ls → ∃ v', X0_takeFavours_b69 d c kd m v = some v' ∧ LC v' (ls.filter pos) ∧ FR v v' := by
    intro v ls h
    obtain ⟨v', e, a, b⟩ := q_drop h.1 h.2.1 h.2.2
    exact ⟨v', by rw [X0_takeFavours_b69, e]; rfl, a, b⟩
  have stop : ∀ (fu turn : Nat) (v : St) (ls : List Lot), turn ≤ 40 → LC v ls → ∃ v', X0_takeFavours_l7 d c kd m (fu + 1) v (nI 0) (nI turn) = some v' ∧ LC v' (ls.filter pos) ∧ FR v v' := by
    intro fu turn v ls ht h
    obtain ⟨v', e, a, b⟩ := h69 v ls h
    refine ⟨v', ?_, a, b⟩
    rw [X0_takeFavours_l7, if_pos (show nI 0 ≤ (0 : Int32) by decide), e]
    split <;> rfl
  induction t with
  | zero =>
    intro fu turn v q ls hf ht hq hs hok h
    have h0 : q = 0 := by
      rcases hq with h0 | h0
      · exact h0
      · have := sum0_of_cnt0 hok (by omega : cntN (mt d c kd) ls = 0)
        omega
    subst h0
    cases fu with
    | zero => omega
    | succ fu => exact stop fu turn v ls (by omega) h
  | succ t ih =>
    intro fu turn v q ls hf ht hq hs hok h
    cases fu with
    | zero => omega
    | succ fu =>
      by_cases h0 : q = 0
      · subst h0
        rw [takL, if_pos (show nI 0 ≤ (0 : Int32) by decide)]
        exact stop fu turn v ls (by omega) h
      · have hq0 : 0 < q := by omega
        have h360 : sumN (mt d c kd) ls ≤ 9 * ls.length := sumN_le hok
        have hl40 := h.2.1
        obtain ⟨j, a, l, s, e1, e2, e3, e4, e5, e6, e7, e8, e9, e10, e11, e12, e13⟩ := tak_step (mt_nfree d c kd) hok hq0 hs (by omega)
        have hj : j < ls.length := (List.getElem?_eq_some_iff.mp e2).1
        have hv : v 11 j = nI s := by
          have := LC.get h hj
          rw [e2] at this
          have := congrArg Lot.n (Option.some.inj this)
          rw [e3] at this
          exact this.symm
        rw [takL, if_neg (nI_nle hq0 (by omega)), e1]
        show ∃ v', _ ∧ LC v' (List.filter pos (takL (mt d c kd) t (nI q - mn (getN ls j) (nI q)) (setN ls j (getN ls j - mn (getN ls j) (nI q))))) ∧ FR v v'
        rw [e8, e7, e9, e10]
        obtain ⟨v', g1, g2, g3⟩ := ih fu (turn + 1) (setA v 11 (upd (v 11) j (nI (s - min s q)))) (q - min s q) (setN ls j (nI (s - min s q))) (by omega) (by omega) (by rcases e13 with e | e; exact Or.inl e; rcases hq with z | z; exact absurd z h0; exact Or.inr (by omega)) (by omega) e11 (lotC_set h hj _)
        refine ⟨v', ?_, g2, (FR.row (k := 11) (by decide) (by decide)).tr g3⟩
        rw [X0_takeFavours_l7, if_neg (show ¬ ((40 : Int32) ≤ nI turn) from nI_ge (a := turn) (b := 40) (by omega) (by decide)), if_neg (nI_nle hq0 (by omega)), q_first h, e1, Option.bind_some, show fIdx (-1) (some (j, a)) = nI j from rfl, q_at (by omega) (by decide), Option.bind_some, hv]
        have hmn : (if nI s < nI q then nI s else nI q) = nI (min s q) := by
          have := e8; rw [e7] at this; exact this
        rw [hmn, q_add (by omega) (by decide), Option.bind_some, hv, q_addneg, e10, e9, q_1]
        exact g1
theorem q_take {v : St} {ls : List Lot} (h : LC v ls) (hok : okN ls) (d c kd : Int32) {q : Nat} (hq : q ≤ sumN (mt d c kd) ls) : ∃ v', X0_takeFavours v d c kd (nI q) = some v' ∧ LC v' ((takL (mt d c kd) 40 (nI q) ls).filter pos) ∧ FR v v' :=
  q_take_l d c kd (nI q) 40 FU 0 v q ls (by unfold FU; omega) (by omega) (Or.inr (Nat.le_trans cntN_le h.2.1)) hq hok h

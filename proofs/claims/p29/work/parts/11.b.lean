/-- a field of one lot written -/
theorem lotM_upd (s : Nat → Int32) {k i : Nat} (x : Int32) (h : i < 6 * k ∨ 6 * k + 6 ≤ i) : lotM (upd s i x) k = lotM s k := by
  simp only [lotM]
  rw [q_un (by omega), q_un (by omega), q_un (by omega), q_un (by omega), q_un (by omega), q_un (by omega)]
theorem lotM_n (s : Nat → Int32) (k : Nat) (x : Int32) : lotM (upd s (6 * k + 3) x) k = withN (lotM s k) x := by
  simp only [lotM, withN, Lot.d, Lot.c, Lot.k, Lot.a, Lot.p]
  rw [q_up, q_un (by omega), q_un (by omega), q_un (by omega), q_un (by omega), q_un (by omega)]
theorem lotM_set {v : St} {ls : List Lot} (h : LM (v 1) ls) {j : Nat} (hj : j < ls.length) (x : Int32) : LM ((setA v 1 (upd (v 1) (6 * j + 3) x)) 1) (setN ls j x) := by
  have h40 := h.2.1
  refine ⟨by rw [setN_len, q_sA, q_un (by omega)]; exact h.1, by rw [setN_len]; exact h.2.1, ?_⟩
  rw [setN_len, q_sA]
  apply List.ext_getElem?
  intro k
  rw [setN_get]
  by_cases hk : k < ls.length
  · rw [lotsF_get _ _ _ _ hk, Nat.zero_add, LM.get h hk]
    by_cases hkj : k = j
    · subst hkj
      rw [if_pos rfl, lotM_n]
      rfl
    · rw [if_neg hkj, lotM_upd _ _ (by omega)]
  · have hn : ls[k]? = none := List.getElem?_eq_none (by omega)
    have hn2 : (lotsF (lotM (upd (v 1) (6 * j + 3) x)) 0 ls.length)[k]? = none := List.getElem?_eq_none (by rw [lotsF_len]; omega)
    rw [hn, hn2]
    split <;> rfl
theorem mtE_nfree (d c k : Int32) : nfree (mtE d c k) := fun _ _ => rfl
/-! PURE: the state of the document; the class's and the reference's pictures of it. -/
abbrev AS : Type := List Lot × (Nat → Int32) × (Nat → Nat → Int32)
def updP (pu : Nat → Nat → Int32) (r p : Nat) (x : Int32) : Nat → Nat → Int32 := fun r' p' => if r' = r ∧ p' = p then x else pu r' p'
theorem updP_s {pu : Nat → Nat → Int32} {r p : Nat} {x : Int32} : updP pu r p x r p = x := by simp [updP]
theorem updP_n {pu : Nat → Nat → Int32} {r p r' p' : Nat} {x : Int32} (h : ¬ (r' = r ∧ p' = p)) : updP pu r p x r' p' = pu r' p' := by simp only [updP, if_neg h]
def RC (v : St) (a : AS) : Prop := LC v a.1 ∧ (∀ i, i < 26 → i ≠ 2 → v 1 i = a.2.1 i) ∧ (∀ r p, 2 ≤ r → r ≤ 7 → p < 8 → v r p = a.2.2 r p)
def mapN (i : Nat) : Nat := if i < 2 then 288 + i else if i ≤ 10 then 287 + i else 278 + i
def mset (i : Nat) : Prop := i < 2 ∨ (4 ≤ i ∧ i ≤ 10) ∨ (20 ≤ i ∧ i ≤ 25)
def offP (r : Nat) : Nat := if r = 2 then 5 else r - 3
def RM (s : Nat → Int32) (a : AS) : Prop := LM s a.1 ∧ (∀ i, mset i → s (mapN i) = a.2.1 i) ∧ (∀ r p, 2 ≤ r → r ≤ 7 → p < 8 → s (240 + 6 * p + offP r) = a.2.2 r p)
theorem setA_setA (v : St) (k : Nat) (f g : Nat → Int32) : setA (setA v k f) k g = setA v k g := by
  funext r
  by_cases h : r = k
  · subst h; rw [q_sA, q_sA]
  · rw [q_sN _ _ h, q_sN _ _ h, q_sN _ _ h]
theorem RC.row {v : St} {ls : List Lot} {nu : Nat → Int32} {pu : Nat → Nat → Int32} (h : RC v (ls, nu, pu)) {r p : Nat} (x : Int32) (h1 : 2 ≤ r) (h2 : r ≤ 7) (hp : p < 8) : RC (setA v r (upd (v r) p x)) (ls, nu, updP pu r p x) := by
  refine ⟨h.1.fr (by rw [q_sN v _ (by omega)]) (fun q a b => q_sN v _ (by omega)), fun i a b => by rw [q_sN v _ (by omega)]; exact h.2.1 i a b, fun r' p' a b c => ?_⟩
  show setA v r (upd (v r) p x) r' p' = updP pu r p x r' p'
  by_cases hr : r' = r
  · subst hr
    rw [q_sA]
    by_cases hpp : p' = p
    · subst hpp; rw [q_up, updP_s]
    · rw [q_un hpp, updP_n (by omega)]; exact h.2.2 r' p' a b c
  · rw [q_sN v _ hr, updP_n (by omega)]; exact h.2.2 r' p' a b c
theorem RC.num {v : St} {ls : List Lot} {nu : Nat → Int32} {pu : Nat → Nat → Int32} (h : RC v (ls, nu, pu)) {i : Nat} (x : Int32) (h2 : i ≠ 2) : RC (setA v 1 (upd (v 1) i x)) (ls, upd nu i x, pu) := by
  refine ⟨h.1.fr (by rw [q_sA, q_un (by omega)]) (fun q a b => q_sN v _ (by omega)), fun j a b => ?_, fun r' p' a b c => by rw [q_sN v _ (by omega)]; exact h.2.2 r' p' a b c⟩
  rw [q_sA]
  by_cases hj : j = i
  · subst hj; rw [q_up]; exact q_up.symm
  · rw [q_un hj]; exact (h.2.1 j a b).trans (q_un hj).symm
theorem RC.lots {v v' : St} {a : AS} {ls : List Lot} (h : RC v a) (h1 : LC v' ls) (h2 : FR v v') : RC v' (ls, a.2.1, a.2.2) :=
  ⟨h1, fun i a b => (h2.2 i b).trans (h.2.1 i a b), fun r p a b c => by rw [h2.1 r (by omega) (by omega)]; exact h.2.2 r p a b c⟩
theorem mapN_inj {i j : Nat} (hi : mset i) (hj : mset j) (h : mapN i = mapN j) : i = j := by
  unfold mset at hi hj
  unfold mapN at h
  split at h <;> split at h <;> (try split at h) <;> (try split at h) <;> omega
theorem mapN_ge {i : Nat} (hi : mset i) : 288 ≤ mapN i ∧ mapN i ≠ 290 ∧ mapN i < 304 := by
  unfold mset at hi
  unfold mapN
  split
  · omega
  · split <;> omega
theorem offP_lt {r : Nat} (h1 : 2 ≤ r) (h2 : r ≤ 7) : offP r < 6 := by
  unfold offP; split <;> omega
theorem offP_inj {r q : Nat} (h1 : 2 ≤ r) (h2 : r ≤ 7) (h3 : 2 ≤ q) (h4 : q ≤ 7) (h : offP r = offP q) : r = q := by
  unfold offP at h; split at h <;> split at h <;> omega
theorem RM.row {s : Nat → Int32} {ls : List Lot} {nu : Nat → Int32} {pu : Nat → Nat → Int32} (h : RM s (ls, nu, pu)) {r p : Nat} (x : Int32) (h1 : 2 ≤ r) (h2 : r ≤ 7) (hp : p < 8) : RM (upd s (240 + 6 * p + offP r) x) (ls, nu, updP pu r p x) := by
  have ho := offP_lt h1 h2
  refine ⟨h.1.fr (q_un (by omega)) (fun i hi => q_un (by omega)), fun i hi => ?_, fun r' p' a b c => ?_⟩
  · have := mapN_ge hi
    rw [q_un (by omega)]; exact h.2.1 i hi
  · have ho' := offP_lt a b
    show upd s (240 + 6 * p + offP r) x (240 + 6 * p' + offP r') = updP pu r p x r' p'
    by_cases hh : r' = r ∧ p' = p
    · obtain ⟨rfl, rfl⟩ := hh; rw [q_up, updP_s]
    · rw [updP_n hh, q_un ?_]
      · exact h.2.2 r' p' a b c
      · intro e
        have hpp : p' = p := by omega
        subst hpp
        exact hh ⟨offP_inj a b h1 h2 (by omega), rfl⟩
theorem RM.num {s : Nat → Int32} {ls : List Lot} {nu : Nat → Int32} {pu : Nat → Nat → Int32} (h : RM s (ls, nu, pu)) {i : Nat} (x : Int32) (hi : mset i) : RM (upd s (mapN i) x) (ls, upd nu i x, pu) := by
  have hm := mapN_ge hi
  refine ⟨h.1.fr (q_un (by omega)) (fun j hj => q_un (by omega)), fun j hj => ?_, fun r' p' a b c => ?_⟩
  · by_cases hji : j = i
    · subst hji; rw [q_up]; exact q_up.symm
    · rw [q_un (fun e => hji (mapN_inj hj hi e))]; exact (h.2.1 j hj).trans (q_un hji).symm
  · have ho := offP_lt a b
    rw [q_un (by omega)]; exact h.2.2 r' p' a b c
theorem RM.lots {v v' : St} {a : AS} {ls : List Lot} (h : RM (v 1) a) (h1 : LM (v' 1) ls) (h2 : FM v v') : RM (v' 1) (ls, a.2.1, a.2.2) :=
  ⟨h1, fun i hi => by have := mapN_ge hi; rw [h2.2 _ (by omega) (by omega)]; exact h.2.1 i hi, fun r p a b c => by have := offP_lt a b; rw [h2.2 _ (by omega) (by omega)]; exact h.2.2 r p a b c⟩
/-! What always holds. -/
def okL (P : Nat) (l : Lot) : Prop := ∃ d c k n a p : Nat, l = (nI d, nI c, nI k, nI n, nI a, nI p) ∧ d < P ∧ c < P ∧ d ≠ c ∧ k < 4 ∧ 1 ≤ n ∧ n ≤ 9 ∧ a ≤ 19 ∧ p ≤ 1
def OK (a : AS) : Prop := a.1.length ≤ 40 ∧ ∃ P : Nat, P ≤ 8 ∧ a.2.1 1 = nI P ∧ (∀ l ∈ a.1, okL P l) ∧ (∀ p, p < 8 → ∃ g : Nat, a.2.2 5 p = nI g ∧ g ≤ P ∧ g ≠ p + 1) ∧ (∀ i, i < 4 → ∃ n : Nat, a.2.1 (20 + i) = nI n ∧ 1 ≤ n ∧ n ≤ 20) ∧ (∃ n : Nat, a.2.1 24 = nI n ∧ 1 ≤ n ∧ n ≤ 99) ∧ (∃ n : Nat, a.2.1 25 = nI n ∧ 1 ≤ n ∧ n ≤ 20) ∧ (a.2.1 10 = 0 ∨ a.2.1 10 = 1) ∧ (∃ w : Nat, a.2.1 0 = nI w ∧ w ≤ 999)
theorem okL.okN {P : Nat} {ls : List Lot} (h : ∀ l ∈ ls, okL P l) : okN ls := by
  intro l hl
  obtain ⟨d, c, k, n, a, p, rfl, _, _, _, _, h1, h2, _⟩ := h l hl
  exact ⟨n, rfl, h2⟩
/-! The arguments. -/
def kP (a : AS) (x : Int32) : Bool := decide (0 ≤ x.toInt) && decide (x.toInt < (a.2.1 1).toInt)
def kPr (a : AS) (x y : Int32) : Bool := kP a x && kP a y && decide (¬ x = y)
def kIn (x : Int32) (lo hi : Int) : Bool := decide (lo ≤ x.toInt) && decide (x.toInt ≤ hi)
theorem t1 : (1 : Int32).toInt = 1 := by decide
theorem t4 : (4 : Int32).toInt = 4 := by decide
theorem t9 : (9 : Int32).toInt = 9 := by decide
theorem lt_i {x y : Int32} : (x < y) = (x.toInt < y.toInt) := propext Int32.lt_iff_toInt_lt
theorem le_i {x y : Int32} : (x ≤ y) = (x.toInt ≤ y.toInt) := propext Int32.le_iff_toInt_le
theorem bAnd {p q : Prop} [Decidable p] [Decidable q] : (decide p && decide q) = true ↔ p ∧ q := by
  rw [Bool.and_eq_true]
  exact ⟨fun h => ⟨of_decide_eq_true h.1, of_decide_eq_true h.2⟩, fun h => ⟨decide_eq_true h.1, decide_eq_true h.2⟩⟩
theorem kP_iff {a : AS} {x : Int32} : kP a x = true ↔ 0 ≤ x.toInt ∧ x.toInt < (a.2.1 1).toInt := bAnd
theorem kIn_iff {x : Int32} {lo hi : Int} : kIn x lo hi = true ↔ lo ≤ x.toInt ∧ x.toInt ≤ hi := bAnd
theorem kP_nat {a : AS} {x : Int32} {P : Nat} (h : kP a x = true) (hP : a.2.1 1 = nI P) (h8 : P ≤ 8) : ∃ d : Nat, x = nI d ∧ d < P := by
  obtain ⟨h1, h2⟩ := kP_iff.mp h
  rw [hP, nI_toInt (by omega)] at h2
  exact ⟨x.toInt.toNat, q_nat h1, by omega⟩
theorem kIn_nat {x : Int32} {lo hi : Int} (h : kIn x lo hi = true) (h0 : 0 ≤ lo) : ∃ d : Nat, x = nI d ∧ lo ≤ d ∧ (d : Int) ≤ hi := by
  obtain ⟨h1, h2⟩ := kIn_iff.mp h
  exact ⟨x.toInt.toNat, q_nat (by omega), by omega, by omega⟩
theorem q_isPupil {v : St} {a : AS} (h : RC v a) (x : Int32) : X0_isPupil v x = some (if kP a x then 1 else 0) := by
  rw [X0_isPupil, q_num1, Option.bind_some, h.2.1 1 (by decide) (by decide)]
  simp only [lt_i, le_i, Int32.toInt_zero]
  by_cases h1 : x.toInt < 0
  · rw [if_pos h1, if_neg (fun e => by have := kP_iff.mp e; omega)]
  · rw [if_neg h1]
    by_cases h2 : (a.2.1 1).toInt ≤ x.toInt
    · rw [if_pos h2, if_neg (fun e => by have := kP_iff.mp e; omega)]
    · rw [if_neg h2, if_pos (kP_iff.mpr (by omega))]
theorem q_isPair {v : St} {a : AS} (h : RC v a) (x y : Int32) : X0_isPair v x y = some (if kPr a x y then 1 else 0) := by
  rw [X0_isPair, q_isPupil h, Option.bind_some, q_isPupil h, Option.bind_some]
  unfold kPr
  cases hx : kP a x with
  | false => rfl
  | true =>
    cases hy : kP a y with
    | false => rfl
    | true =>
      by_cases he : x = y
      · simp [he]
      · simp [he]
theorem q_isKind (x : Int32) : X4_isKind x = some (if kIn x 0 3 then 1 else 0) := by
  rw [X4_isKind]
  simp only [lt_i, le_i, Int32.toInt_zero, t4]
  by_cases h1 : x.toInt < 0
  · rw [if_pos h1, if_neg (fun e => by have := kIn_iff.mp e; omega)]
  · rw [if_neg h1]
    by_cases h2 : 4 ≤ x.toInt
    · rw [if_pos h2, if_neg (fun e => by have := kIn_iff.mp e; omega)]
    · rw [if_neg h2, if_pos (kIn_iff.mpr (by omega))]
theorem q_isMany (x : Int32) : X4_isMany x = some (if kIn x 1 9 then 1 else 0) := by
  rw [X4_isMany]
  simp only [lt_i, t1, t9]
  by_cases h1 : x.toInt < 1
  · rw [if_pos h1, if_neg (fun e => by have := kIn_iff.mp e; omega)]
  · rw [if_neg h1]
    by_cases h2 : 9 < x.toInt
    · rw [if_pos h2, if_neg (fun e => by have := kIn_iff.mp e; omega)]
    · rw [if_neg h2, if_pos (kIn_iff.mpr (by omega))]
theorem zb_if (b : Bool) : zbI (if b = true then 1 else 0) = some (if b = true then 1 else 0) := by cases b <;> rfl
theorem RM.pup {s : Nat → Int32} {a : AS} (h : RM s a) : s 289 = a.2.1 1 := h.2.1 1 (Or.inl (by decide))
/-! PURE: copies, the history. -/
def cpF (n : Nat) (f g : Nat → Int32) : Nat → Int32 := fun k => if k < n then f k else g k
theorem cpF_lt {n k : Nat} {f g : Nat → Int32} (h : k < n) : cpF n f g k = f k := if_pos h
theorem q_copyRow {n : Nat} (hn : n < 2 ^ 31) (f g : Nat → Int32) : X4_copyRow f g n n = some (cpF n f g) := by
  have e : (if (Int32.ofNat n) < (Int32.ofNat n) then (Int32.ofNat n) else (Int32.ofNat n)) = nI n := by split <;> rfl
  rw [X4_copyRow, e]
  unfold cpA
  rw [if_pos ⟨by decide, by decide, by rw [nI_toInt hn]; omega, by rw [nI_toInt hn, Int32.toInt_zero]; omega, by rw [nI_toInt hn, Int32.toInt_zero]; omega⟩]
  show some (va_cpy f g 0 0 (nI n).toNatClampNeg) = some (cpF n f g)
  rw [nI_clamp hn]
  congr 1
  funext k
  unfold va_cpy cpF
  by_cases h : k < n
  · rw [if_pos (by omega), if_pos h, Nat.zero_add, Nat.sub_zero]
  · rw [if_neg (by omega), if_neg h]
theorem q_copyFrom (v : St) {w : St} {a : AS} (h : RC w a) : ∃ v', X0_copyFrom v w = some v' ∧ RC v' a := by
  obtain ⟨⟨h1, h2, h3⟩, h4, h5⟩ := h
  refine ⟨setA (setA (setA (setA (setA (setA (setA (setA (setA (setA (setA (setA (setA v 1 (cpF 26 (w 1) (v 1))) 2 (cpF 8 (w 2) (v 2))) 3 (cpF 8 (w 3) (v 3))) 4 (cpF 8 (w 4) (v 4))) 5 (cpF 8 (w 5) (v 5))) 6 (cpF 8 (w 6) (v 6))) 7 (cpF 8 (w 7) (v 7))) 8 (cpF 40 (w 8) (v 8))) 9 (cpF 40 (w 9) (v 9))) 10 (cpF 40 (w 10) (v 10))) 11 (cpF 40 (w 11) (v 11))) 12 (cpF 40 (w 12) (v 12))) 13 (cpF 40 (w 13) (v 13)), ?_, ?_⟩
  · rw [X0_copyFrom, q_copyRow (by decide), Option.bind_some, q_copyRow (by decide), Option.bind_some, q_copyRow (by decide), Option.bind_some, q_copyRow (by decide), Option.bind_some, q_copyRow (by decide), Option.bind_some, q_copyRow (by decide), Option.bind_some, q_copyRow (by decide), Option.bind_some, q_copyRow (by decide), Option.bind_some, q_copyRow (by decide), Option.bind_some, q_copyRow (by decide), Option.bind_some, q_copyRow (by decide), Option.bind_some, q_copyRow (by decide), Option.bind_some, q_copyRow (by decide), Option.bind_some]
  · refine ⟨⟨?_, h2, ?_⟩, fun i hi h => ?_, fun r p a1 a2 a3 => ?_⟩
    · show cpF 26 (w 1) (v 1) 2 = _
      rw [cpF_lt (by decide), h1]
    · rw [lotsF_cong (h := lotC w) _ _ (fun j _ hj => ?_)]
      · exact h3
      · show (cpF 40 (w 8) (v 8) j, cpF 40 (w 9) (v 9) j, cpF 40 (w 10) (v 10) j, cpF 40 (w 11) (v 11) j, cpF 40 (w 12) (v 12) j, cpF 40 (w 13) (v 13) j) = _
        rw [cpF_lt (by omega), cpF_lt (by omega), cpF_lt (by omega), cpF_lt (by omega), cpF_lt (by omega), cpF_lt (by omega)]
        rfl
    · show cpF 26 (w 1) (v 1) i = _
      rw [cpF_lt hi]
      exact h4 i hi h
    · rcases (by omega : r = 2 ∨ r = 3 ∨ r = 4 ∨ r = 5 ∨ r = 6 ∨ r = 7) with h | h | h | h | h | h <;> subst h
      · show cpF 8 (w 2) (v 2) p = _
        rw [cpF_lt a3]; exact h5 _ p a1 a2 a3
      · show cpF 8 (w 3) (v 3) p = _
        rw [cpF_lt a3]; exact h5 _ p a1 a2 a3
      · show cpF 8 (w 4) (v 4) p = _
        rw [cpF_lt a3]; exact h5 _ p a1 a2 a3
      · show cpF 8 (w 5) (v 5) p = _
        rw [cpF_lt a3]; exact h5 _ p a1 a2 a3
      · show cpF 8 (w 6) (v 6) p = _
        rw [cpF_lt a3]; exact h5 _ p a1 a2 a3
      · show cpF 8 (w 7) (v 7) p = _
        rw [cpF_lt a3]; exact h5 _ p a1 a2 a3
theorem q_fresh {vB : St} (vT vH : St) (bH : Nat → St) (vR vO : St) {a : AS} (h : RC vB a) : ∃ v', X4_freshTrial vB vT vH bH vR vO = some v' ∧ RC v' a := by
  obtain ⟨v', e, r⟩ := q_copyFrom vT h
  exact ⟨v', by rw [X4_freshTrial, e]; rfl, r⟩
theorem setB_s {b : Nat → St} {k : Nat} {v : St} : setB b k v k = v := by
  unfold setB
  rw [show Nat.beq k k = true from Nat.beq_refl k]
  rfl
theorem setB_n {b : Nat → St} {k j : Nat} {v : St} (h : j ≠ k) : setB b k v j = b j := by
  unfold setB
  rw [nbeq_ne h]
  rfl
theorem setI_s {v : St} {k : Nat} {x : Int32} : setI v k x 99 k = x := by
  show (bif Nat.beq k k then x else v 99 k) = x
  rw [show Nat.beq k k = true from Nat.beq_refl k]
  rfl
theorem setI_n {v : St} {k j : Nat} {x : Int32} (h : j ≠ k) : setI v k x 99 j = v 99 j := by
  show (bif Nat.beq j k then x else v 99 j) = v 99 j
  rw [nbeq_ne h]
  rfl
theorem setI_r {v : St} {k r : Nat} {x : Int32} (h : r ≠ 99) : setI v k x r = v r := by
  unfold setI
  rw [nbeq_ne h]
  rfl
def pushH (hist : List AS) (a : AS) : List AS := (if hist.length = 4 then hist.tail else hist) ++ [a]
def HC (vH : St) (bH : Nat → St) (hist : List AS) : Prop := vH 99 1 = nI hist.length ∧ hist.length ≤ 4 ∧ ∀ i a, hist[i]? = some a → RC (bH i) a
theorem HC.put {vH : St} {bH : Nat → St} {hist : List AS} (h : HC vH bH hist) {u : St} {a : AS} (hu : RC u a) (hl : hist.length < 4) : HC (setI vH 1 (vH 99 1 + (1 : Int32))) (setB bH hist.length u) (hist ++ [a]) := by
  obtain ⟨h1, h2, h3⟩ := h
  refine ⟨by rw [setI_s, h1, q_1]; simp, by simp; omega, fun i b hb => ?_⟩
  by_cases hi : i = hist.length
  · subst hi
    rw [List.getElem?_append_right (Nat.le_refl _), Nat.sub_self] at hb
    cases hb
    rw [setB_s]; exact hu
  · rw [setB_n hi]
    by_cases hi2 : i < hist.length
    · rw [List.getElem?_append_left hi2] at hb; exact h3 i b hb
    · rw [List.getElem?_eq_none (by simp; omega)] at hb; cases hb
theorem q_keep12 {vB vH : St} {bH : Nat → St} {hist : List AS} {a : AS} (h : HC vH bH hist) (hB : RC vB a) (hl : hist.length < 4) : ∃ o, X1_keep_b12 vB vH bH = some o ∧ HC o.1 o.2 (hist ++ [a]) := by
  have h1 := h.1
  obtain ⟨u, e, r⟩ := q_copyFrom (bH hist.length) hB
  have hp := h.put r hl
  refine ⟨(_, _), ?_, hp⟩
  rw [X1_keep_b12, h1, if_neg (nI_pos (by omega)), if_neg (show ¬ ((4 : Int32) ≤ nI hist.length) from nI_ge (a := hist.length) (b := 4) hl (by decide))]
  rcases (by omega : hist.length = 0 ∨ hist.length = 1 ∨ hist.length = 2 ∨ hist.length = 3) with z | z | z | z <;> rw [z] at e ⊢
  · rw [if_pos (by decide), e]; rfl
  · rw [if_neg (by decide), if_pos (by decide), e]; rfl
  · rw [if_neg (by decide), if_neg (by decide), if_pos (by decide), e]; rfl
  · rw [if_neg (by decide), if_neg (by decide), if_neg (by decide), if_pos (by decide), e]; rfl
theorem q_dropOld {vH : St} {bH : Nat → St} {hist : List AS} (h : HC vH bH hist) (hl : hist.length = 4) : ∃ o, X1_dropOldest vH bH = some o ∧ HC o.1 o.2 hist.tail := by
  obtain ⟨h1, h2, h3⟩ := h
  match hist, hl with
  | [a0, a1, a2, a3], _ =>
    obtain ⟨u1, e1, r1⟩ := q_copyFrom (bH 0) (h3 1 a1 rfl)
    obtain ⟨u2, e2, r2⟩ := q_copyFrom (bH 1) (h3 2 a2 rfl)
    obtain ⟨u3, e3, r3⟩ := q_copyFrom (bH 2) (h3 3 a3 rfl)
    have e9 : setI vH 1 ((vH 99 1) - (1 : Int32)) 99 1 = nI 3 := by
      rw [setI_s, h1]
      exact nI_pred 3
    refine ⟨(setI vH 1 ((vH 99 1) - (1 : Int32)), setB (setB (setB bH 0 u1) 1 u2) 2 u3), by rw [X1_dropOldest, e1, Option.bind_some, e2, Option.bind_some, e3, Option.bind_some], e9, Nat.le_of_ble_eq_true rfl, fun i b hb => ?_⟩
    match i, hb with
    | 0, hb => cases hb; exact r1
    | 1, hb => cases hb; exact r2
    | 2, hb => cases hb; exact r3
    | i + 3, hb => simp at hb
theorem q_keep {vB vH : St} {bH : Nat → St} {hist : List AS} {a : AS} (h : HC vH bH hist) (hB : RC vB a) : ∃ o, X1_keep vH bH vB = some o ∧ HC o.1 o.2 (pushH hist a) := by
  by_cases hl : hist.length = 4
  · obtain ⟨o, e, r⟩ := q_dropOld h hl
    obtain ⟨o2, e2, r2⟩ := q_keep12 r hB (by simp; omega)
    refine ⟨o2, ?_, by unfold pushH; rw [if_pos hl]; exact r2⟩
    rw [X1_keep, h.1, hl, if_neg (by decide), e, Option.bind_some, e2]
  · have hl4 : hist.length < 4 := by have := h.2.1; omega
    obtain ⟨o2, e2, r2⟩ := q_keep12 h hB hl4
    refine ⟨o2, ?_, by unfold pushH; rw [if_neg hl]; exact r2⟩
    rw [X1_keep, h.1, if_pos (show nI hist.length < (4 : Int32) from nI_lt (a := hist.length) (b := 4) hl4 (by decide)), e2]
theorem q_settledE (vB vT vH : St) (bH : Nat → St) (vR vO : St) {ans : Int32} (h : ans < 0) : X4_settled vB vT vH bH vR vO ans = some (ans, vB, vH, bH) := by
  rw [X4_settled, if_pos h]
theorem q_settled {vB vT vH : St} {bH : Nat → St} (vR vO : St) {hist : List AS} {a a' : AS} {ans : Int32} (hB : RC vB a) (hT : RC vT a') (hH : HC vH bH hist) (h : ¬ ans < 0) :
    ∃ vB' vH' bH', X4_settled vB vT vH bH vR vO ans = some (ans, vB', vH', bH') ∧ RC vB' a' ∧ HC vH' bH' (pushH hist a) := by
  obtain ⟨o, e, r⟩ := q_keep hH hB
  obtain ⟨u, e2, r2⟩ := q_copyFrom vB hT
  exact ⟨u, o.1, o.2, by rw [X4_settled, if_neg h, e, Option.bind_some, e2, Option.bind_some], r2, r⟩
/-! the reference's history -/
theorem RM.cong {s s' : Nat → Int32} {a : AS} (h : RM s a) (e : ∀ j, j < 304 → s' j = s j) : RM s' a := by
  refine ⟨h.1.fr (e _ (by decide)) (fun i hi => e i (by omega)), fun i hi => ?_, fun r p a1 a2 a3 => ?_⟩
  · rw [e _ (mapN_ge hi).2.2]; exact h.2.1 i hi
  · have := offP_lt a1 a2
    rw [e _ (by omega)]; exact h.2.2 r p a1 a2 a3
def HM (v : St) (hist : List AS) : Prop := v 99 4 = nI hist.length ∧ hist.length ≤ 4 ∧ ∀ i a, hist[i]? = some a → RM (fun j => v 2 (304 * i + j)) a
theorem HM.put {v v' : St} {hist : List AS} {a : AS} (h : HM v hist) (hr : RM (v 1) a) (hl : hist.length < 4) (h4 : v' 99 4 = nI (hist.length + 1)) (h2 : ∀ i, v' 2 i = if 304 * hist.length + 0 ≤ i ∧ i < 304 * hist.length + 304 then v 1 (i - 304 * hist.length) else v 2 i) : HM v' (hist ++ [a]) := by
  obtain ⟨a1, a2, a3⟩ := h
  refine ⟨by rw [h4]; simp, by simp; omega, fun i b hb => ?_⟩
  by_cases hi : i = hist.length
  · subst hi
    rw [List.getElem?_append_right (Nat.le_refl _), Nat.sub_self] at hb
    cases hb
    refine hr.cong (fun j hj => ?_)
    show v' 2 _ = _
    rw [h2, if_pos (by omega)]
    congr 1; omega
  · by_cases hi2 : i < hist.length
    · rw [List.getElem?_append_left hi2] at hb
      refine (a3 i b hb).cong (fun j hj => ?_)
      show v' 2 _ = v 2 _
      rw [h2, if_neg (by omega)]
    · rw [List.getElem?_eq_none (by simp; omega)] at hb; cases hb
/-! PURE: lending. -/
theorem ifb {α : Type} (b : Bool) (A B : α) : (if (if b = true then (1 : Int32) else 0) = (0 : Int32) then A else B) = (bif b then B else A) := by cases b <;> rfl
def barS (a : AS) (d : Nat) (m : Int32) : Int32 := if sumS (mt (nI d) (-1) (-1)) 0 a.1 + m ≤ a.2.1 24 then (if a.2.2 4 d < a.2.1 25 then 0 else if a.2.2 5 d = 0 then 2 else 0) else 1
def ix (x : Int32) : Nat := x.toNatClampNeg
theorem ix_nI {k : Nat} (h : k < 2 ^ 31) : ix (nI k) = k := nI_clamp h
theorem q_guar {v : St} {a : AS} (h : RC v a) {d : Nat} (hd : d < 8) : X0_guarantorOf v (nI d) = some (a.2.2 5 d - 1) := by
  rw [X0_guarantorOf, if_neg (nI_pos (by omega)), if_neg (show ¬ ((8 : Int32) ≤ nI d) from nI_ge (a := d) (b := 8) hd (by decide)), q_ld hd (by decide), Option.bind_some, h.2.2 5 d (by decide) (by decide) hd]
theorem q_reason {v : St} {a : AS} (h : RC v a) (ho : OK a) {d : Nat} (hd : d < 8) (m : Int32) : X0_reasonAgainst v (nI d) m = some (barS a d m) := by
  obtain ⟨_, P, h8, _, _, hg, _⟩ := ho
  obtain ⟨g, e1, e2, e3⟩ := hg d hd
  rw [X0_reasonAgainst, q_sumOwed h.1, Option.bind_some, q_num24, Option.bind_some, h.2.1 24 (by decide) (by decide), q_at hd (by decide), Option.bind_some, q_num25, Option.bind_some, h.2.1 25 (by decide) (by decide), h.2.2 4 d (by decide) (by decide) hd]
  unfold barS
  by_cases c1 : sumS (mt (nI d) (-1) (-1)) 0 a.1 + m ≤ a.2.1 24
  · rw [if_pos c1, if_pos c1]
    by_cases c2 : a.2.2 4 d < a.2.1 25
    · rw [if_pos c2, if_pos c2]; rfl
    · rw [if_neg c2, if_neg c2, X0_reasonAgainst_b42, if_neg (by decide), q_guar h hd, Option.bind_some, e1]
      cases g with
      | zero => rfl
      | succ g =>
        rw [nI_pred, if_pos (show (0 : Int32) ≤ nI g from nI_le (a := 0) (b := g) (by omega) (by omega)), if_neg (nI_ne0 (by omega) (by omega))]
  · rw [if_neg c1, if_neg c1]
def lendS (a : AS) (p1 p2 p3 p4 : Int32) : Int32 × AS :=
  bif kPr a p1 p2 then (bif kIn p3 0 3 then (bif kIn p4 1 9 then
    (if barS a (ix p1) p4 = 0 then (if a.1.length < 40 then
      (sumS (mt p1 p2 p3) 0 (a.1 ++ [(p1, p2, p3, p4, 0, 0)]), (a.1 ++ [(p1, p2, p3, p4, 0, 0)], upd a.2.1 4 (a.2.1 4 + p4), updP (updP a.2.2 2 (ix p1) (a.2.2 2 (ix p1) + -p4)) 2 (ix p2) (updP a.2.2 2 (ix p1) (a.2.2 2 (ix p1) + -p4) 2 (ix p2) + p4)))
      else (-1000003, a)) else (-1000002, a)) else (-1000001, a)) else (-1000001, a)) else (-1000001, a)
theorem kPr_nat {a : AS} {x y : Int32} (ho : OK a) (h : kPr a x y = true) : ∃ d c P : Nat, x = nI d ∧ y = nI c ∧ d < P ∧ c < P ∧ d ≠ c ∧ P ≤ 8 ∧ a.2.1 1 = nI P := by
  obtain ⟨_, P, h8, hP, _⟩ := ho
  unfold kPr at h
  rw [Bool.and_eq_true, Bool.and_eq_true] at h
  obtain ⟨d, rfl, h1⟩ := kP_nat h.1.1 hP h8
  obtain ⟨c, rfl, h2⟩ := kP_nat h.1.2 hP h8
  have h3 := of_decide_eq_true h.2
  exact ⟨d, c, P, rfl, rfl, h1, h2, fun e => h3 (by rw [e]), h8, hP⟩
theorem c_lendS {v : St} {a : AS} (h : RC v a) (ho : OK a) (p1 p2 p3 p4 : Int32) : ∃ v', X0_lendFavours v p1 p2 p3 p4 = some ((lendS a p1 p2 p3 p4).1, v') ∧ RC v' (lendS a p1 p2 p3 p4).2 := by
  rw [X0_lendFavours, q_isPair h, Option.bind_some, q_isKind, Option.bind_some, q_isMany, Option.bind_some, ifb, ifb, ifb]
  unfold lendS
  cases h1 : kPr a p1 p2 with
  | false => exact ⟨v, rfl, h⟩
  | true =>
  cases h2 : kIn p3 0 3 with
  | false => exact ⟨v, rfl, h⟩
  | true =>
  cases h3 : kIn p4 1 9 with
  | false => exact ⟨v, rfl, h⟩
  | true =>
  obtain ⟨d, c, P, rfl, rfl, hd, hc, hdc, h8, hP⟩ := kPr_nat ho h1
  simp only [cond_true]
  rw [ix_nI (by omega), ix_nI (by omega), q_reason h ho (by omega), Option.bind_some]
  by_cases c1 : barS a d p4 = 0
  · rw [if_pos c1, if_pos c1, q_num2, Option.bind_some, h.1.1]
    by_cases c2 : a.1.length < 40
    · rw [if_pos (show nI a.1.length < (40 : Int32) from nI_lt (a := a.1.length) (b := 40) c2 (by decide)), if_pos c2]
      obtain ⟨u, e, l, f⟩ := q_addLot h.1 c2 (nI d) (nI c) p3 p4
      have r0 : RC u (a.1 ++ [(nI d, nI c, p3, p4, 0, 0)], a.2.1, a.2.2) := h.lots l f
      have hu2 : u 2 d = a.2.2 2 d := r0.2.2 2 d (by decide) (by decide) (by omega)
      have r1 := r0.row (r := 2) (p := d) (a.2.2 2 d + -p4) (by decide) (by decide) (by omega)
      have r2 := r1.row (r := 2) (p := c) (updP a.2.2 2 d (a.2.2 2 d + -p4) 2 c + p4) (by decide) (by decide) (by omega)
      rw [setA_setA, q_sA] at r2
      have r3 := r2.num (i := 4) (a.2.1 4 + p4) (by decide)
      rw [q_sN u _ (by decide)] at r3
      have hu4 : u 1 4 = a.2.1 4 := r0.2.1 4 (by decide) (by decide)
      have huc : upd (u 2) d (a.2.2 2 d + -p4) c = updP a.2.2 2 d (a.2.2 2 d + -p4) 2 c := by
        rw [q_un (Ne.symm hdc), updP_n (by omega)]
        exact r0.2.2 2 c (by decide) (by decide) (by omega)
      refine ⟨_, ?_, r3⟩
      rw [e, Option.bind_some, q_add (by omega) (by decide), Option.bind_some, q_add (by omega) (by decide), Option.bind_some, show (4 : Int32) = nI 4 from rfl, q_add (by decide) (by decide), Option.bind_some, hu2, hu4, huc, q_sumOwed r3.1, Option.bind_some]
    · rw [if_neg (show ¬ nI a.1.length < (40 : Int32) from nI_nlt (a := a.1.length) (b := 40) (by omega) (by have := h.1.2.1; omega)), if_neg c2]
      exact ⟨v, rfl, h⟩
  · rw [if_neg c1, if_neg c1]
    exact ⟨v, rfl, h⟩
/-! the reference -/
theorem nI_240 (p : Nat) {r : Nat} : nI (240 + 6 * p + r) = nI (240 + 6 * p + r) := rfl
theorem updP_comm {pu : Nat → Nat → Int32} {r p r' p' : Nat} {x y : Int32} (h : ¬ (r = r' ∧ p = p')) : updP (updP pu r p x) r' p' y = updP (updP pu r' p' y) r p x := by
  funext q t
  unfold updP
  by_cases h1 : q = r' ∧ t = p'
  · rw [if_pos h1, if_neg (by omega), if_pos h1]
  · rw [if_neg h1]
    by_cases h2 : q = r ∧ t = p
    · rw [if_pos h2, if_pos h2]
    · rw [if_neg h2, if_neg h2, if_neg h1]
/-- what a change of the reference leaves behind its record -/
def SameM (v v' : St) : Prop := ∀ r, r ≠ 1 → r ≠ 9 → r ≠ 10 → r ≠ 11 → v' r = v r
theorem LM.snoc {s : Nat → Int32} {ls : List Lot} (h : LM s ls) (hl : ls.length < 40) (d c k m : Int32) :
    LM (upd (upd (upd (upd (upd (upd (upd s 290 (nI (ls.length + 1))) (6 * ls.length + 0) d) (6 * ls.length + 1) c) (6 * ls.length + 2) k) (6 * ls.length + 3) m) (6 * ls.length + 4) 0) (6 * ls.length + 5) 0) (ls ++ [(d, c, k, m, 0, 0)]) := by
  obtain ⟨h1, h2, h3⟩ := h
  refine ⟨by rw [q_un (by omega), q_un (by omega), q_un (by omega), q_un (by omega), q_un (by omega), q_un (by omega), q_up]; simp, by simp; omega, ?_⟩
  rw [List.length_append, show [(d, c, k, m, (0 : Int32), (0 : Int32))].length = 1 from rfl, lotsF_snoc, Nat.zero_add]
  congr 1
  · rw [lotsF_cong (h := lotM s) _ _ (fun j _ hj => by
      rw [lotM_upd _ _ (by omega), lotM_upd _ _ (by omega), lotM_upd _ _ (by omega), lotM_upd _ _ (by omega), lotM_upd _ _ (by omega), lotM_upd _ _ (by omega), lotM_upd _ _ (by omega)])]
    exact h3
  · simp only [lotM]
    simp [upd]

/-! PURE: changes of the reference: what they record; its lending. -/
def Chg (v w : St) (hist : List AS) (a : AS) : Prop := (v 99 5 = 0 → HM w (pushH hist a) ∧ ∀ i, i ≠ 4 → w 99 i = v 99 i) ∧ (¬ v 99 5 = 0 → w 2 = v 2 ∧ w 99 = v 99) ∧ (∀ r, r ≠ 1 → r ≠ 2 → r ≠ 9 → r ≠ 10 → r ≠ 11 → r ≠ 99 → w r = v r)
theorem HM.eq {v w : St} {hist : List AS} (h : HM v hist) (h1 : w 99 4 = v 99 4) (h2 : w 2 = v 2) : HM w hist := ⟨by rw [h1]; exact h.1, h.2.1, fun i a e => by rw [h2]; exact h.2.2 i a e⟩
theorem Chg.after {v w w' : St} {hist : List AS} {a : AS} (h : Chg v w hist a) (s : SameM w w') : Chg v w' hist a := by
  obtain ⟨h1, h2, h3⟩ := h
  have e2 := s 2 (by decide) (by decide) (by decide) (by decide)
  have e9 := s 99 (by decide) (by decide) (by decide) (by decide)
  refine ⟨fun z => ⟨(h1 z).1.eq (by rw [e9]) e2, fun i hi => by rw [e9]; exact (h1 z).2 i hi⟩, fun z => by rw [e2, e9]; exact h2 z, fun r a1 a2 a3 a4 a5 a6 => ?_⟩
  rw [s r a1 a3 a4 a5]
  exact h3 r a1 a2 a3 a4 a5 a6
theorem SameM.tr {u v w : St} (h : SameM u v) (k : SameM v w) : SameM u w := fun r a b c d => (k r a b c d).trans (h r a b c d)
theorem SameM.of1 {v v' : St} (h : ∀ r, r ≠ 1 → v' r = v r) : SameM v v' := fun r a _ _ _ => h r a
theorem barS_le (a : AS) (d : Nat) (m : Int32) : (barS a d m ≤ 0) ↔ barS a d m = 0 := by
  unfold barS
  split
  · split
    · decide
    · split <;> decide
  · decide
theorem mt_E2 {d c : Nat} {p3 : Int32} (hd : d < 2 ^ 31) (hc : c < 2 ^ 31) (h3 : kIn p3 0 3 = true) : mtE (nI d) (nI c) p3 = mt (nI d) (nI c) p3 := by
  obtain ⟨k, rfl, _, hk⟩ := kIn_nat h3 (by decide)
  exact (mt_E (nI_m1 hd) (nI_m1 hc) (nI_m1 (by omega))).symm
/-- how a change of the reference answers -/
def MOp (v : St) (a : AS) (hist : List AS) (r : Option (Int32 × St)) (sp : Int32 × AS) : Prop := ∃ v', r = some (sp.1, v') ∧ RM (v' 1) sp.2 ∧ (sp.1 < 0 → v' = v ∧ sp.2 = a) ∧ (¬ sp.1 < 0 → Chg v v' hist a)
theorem MOp.err {v : St} {a : AS} {hist : List AS} (h : RM (v 1) a) {c : Int32} (hc : c < 0) : MOp v a hist (some (c, v)) (c, a) := ⟨v, rfl, h, fun _ => ⟨rfl, rfl⟩, fun z => absurd hc z⟩
theorem sum_pos {P : Lot → Bool} {ls : List Lot} (h : okN ls) (hl : ls.length ≤ 1000) : ¬ sumS P 0 ls < 0 := by
  rw [show (0 : Int32) = nI 0 from rfl, sumS_nat 0 h]
  exact nI_pos (by have := sumN_le (P := P) h; omega)
theorem okN_app {l1 l2 : List Lot} (h1 : okN l1) (h2 : okN l2) : okN (l1 ++ l2) := fun l hl => (List.mem_append.mp hl).elim (h1 l) (h2 l)
/-! PURE: favours done; guarantors, pupils, holidays, settings. -/
def fulS (a : AS) (p1 p2 p3 p4 : Int32) : Int32 × AS :=
  bif kPr a p1 p2 then (bif kIn p3 0 3 then (bif kIn p4 1 9 then
    (if p4 ≤ sumS (mt p1 p2 p3) 0 a.1 then
      (sumS (mt p1 p2 p3) 0 ((takL (mt p1 p2 p3) 40 p4 a.1).filter pos), ((takL (mt p1 p2 p3) 40 p4 a.1).filter pos, upd a.2.1 5 (a.2.1 5 + p4), updP (updP (updP a.2.2 2 (ix p1) (a.2.2 2 (ix p1) + p4)) 2 (ix p2) (updP a.2.2 2 (ix p1) (a.2.2 2 (ix p1) + p4) 2 (ix p2) + -p4)) 3 (ix p1) (a.2.2 3 (ix p1) + p4)))
      else (-1000002, a)) else (-1000001, a)) else (-1000001, a)) else (-1000001, a)
theorem OK.okN {a : AS} (ho : OK a) : okN a.1 := by
  obtain ⟨_, P, _, _, hl, _⟩ := ho
  exact okL.okN hl
theorem sumS_n {a : AS} (ho : OK a) (P : Lot → Bool) : sumS P 0 a.1 = nI (sumN P a.1) ∧ sumN P a.1 ≤ 360 := by
  have h := ho.okN
  refine ⟨?_, by have := sumN_le (P := P) h; have := ho.1; omega⟩
  have := sumS_nat (P := P) 0 h
  rw [Nat.zero_add] at this
  exact this
theorem c_fulS {v : St} {a : AS} (h : RC v a) (ho : OK a) (p1 p2 p3 p4 : Int32) : ∃ v', X0_fulfilFavours v p1 p2 p3 p4 = some ((fulS a p1 p2 p3 p4).1, v') ∧ RC v' (fulS a p1 p2 p3 p4).2 := by
  rw [X0_fulfilFavours, q_isPair h, Option.bind_some, q_isKind, Option.bind_some, q_isMany, Option.bind_some, ifb, ifb, ifb, q_sumOwed h.1, Option.bind_some]
  unfold fulS
  cases h1 : kPr a p1 p2 with
  | false => exact ⟨v, rfl, h⟩
  | true =>
  cases h2 : kIn p3 0 3 with
  | false => exact ⟨v, rfl, h⟩
  | true =>
  cases h3 : kIn p4 1 9 with
  | false => exact ⟨v, rfl, h⟩
  | true =>
  obtain ⟨d, c, P, rfl, rfl, hd, hc, hdc, h8, hP⟩ := kPr_nat ho h1
  obtain ⟨n, rfl, hn1, hn9⟩ := kIn_nat h3 (by decide)
  simp only [cond_true]
  obtain ⟨hs, h360⟩ := sumS_n ho (mt (nI d) (nI c) p3)
  rw [ix_nI (by omega), ix_nI (by omega)]
  by_cases c1 : nI n ≤ sumS (mt (nI d) (nI c) p3) 0 a.1
  · rw [if_pos c1, if_pos c1]
    have hq : n ≤ sumN (mt (nI d) (nI c) p3) a.1 := by
      rw [hs] at c1
      exact (nI_leI (by omega) (by omega)).mp c1
    obtain ⟨u, e, l, f⟩ := q_take h.1 ho.okN (nI d) (nI c) p3 hq
    have r0 : RC u (_, a.2.1, a.2.2) := h.lots l f
    have hu2 : u 2 d = a.2.2 2 d := r0.2.2 2 d (by decide) (by decide) (by omega)
    have hu3 : u 3 d = a.2.2 3 d := r0.2.2 3 d (by decide) (by decide) (by omega)
    have hu5 : u 1 5 = a.2.1 5 := r0.2.1 5 (by decide) (by decide)
    have r1 := r0.row (r := 2) (p := d) (a.2.2 2 d + nI n) (by decide) (by decide) (by omega)
    have r2 := r1.row (r := 2) (p := c) (updP a.2.2 2 d (a.2.2 2 d + nI n) 2 c + -nI n) (by decide) (by decide) (by omega)
    rw [setA_setA, q_sA] at r2
    have r3 := r2.row (r := 3) (p := d) (a.2.2 3 d + nI n) (by decide) (by decide) (by omega)
    rw [q_sN u _ (by decide)] at r3
    have r4 := r3.num (i := 5) (a.2.1 5 + nI n) (by decide)
    rw [q_sN _ _ (by decide), q_sN u _ (by decide)] at r4
    have huc : upd (u 2) d (a.2.2 2 d + nI n) c = updP a.2.2 2 d (a.2.2 2 d + nI n) 2 c := by
      rw [q_un (Ne.symm hdc), updP_n (by omega)]
      exact r0.2.2 2 c (by decide) (by decide) (by omega)
    refine ⟨_, ?_, r4⟩
    rw [e, Option.bind_some, q_add (by omega) (by decide), Option.bind_some, q_add (by omega) (by decide), Option.bind_some, q_add (by omega) (by decide), Option.bind_some, show (5 : Int32) = nI 5 from rfl, q_add (by decide) (by decide), Option.bind_some, hu2, hu3, hu5, huc, q_sumOwed r4.1, Option.bind_some]
  · rw [if_neg c1, if_neg c1]
    exact ⟨v, rfl, h⟩
theorem filter_okN {ls : List Lot} {p : Lot → Bool} (h : okN ls) : okN (ls.filter p) := fun l hl => h l (List.mem_filter.mp hl).1
theorem takL_okN {P : Lot → Bool} : ∀ (t : Nat) (q : Nat) (ls : List Lot), q < 2 ^ 31 → okN ls → okN (takL P t (nI q) ls) := by
  intro t
  induction t with
  | zero => intro q ls _ h; exact h
  | succ t ih =>
    intro q ls hq h
    rw [takL]
    split
    · exact h
    · split
      · exact h
      · next ja heq =>
        rcases (oldF_spec P ls 0 none).1 ja.1 ja.2 heq with h1 | ⟨i, l, e1, e2, e3, e4, e5⟩
        · cases h1
        · have e1 : ja.1 = i := by omega
          obtain ⟨s, hn, h9⟩ := h l (List.mem_of_getElem? e2)
          have hg : getN ls ja.1 = nI s := by unfold getN; rw [e1, e2]; exact hn
          rw [hg, mn_nI h9 hq, q_sub (by omega), q_sub (by omega)]
          exact ih _ _ (by omega) (okN_set h (by omega))
theorem takL_len {P : Lot → Bool} : ∀ (t : Nat) (q : Int32) (ls : List Lot), (takL P t q ls).length = ls.length := by
  intro t
  induction t with
  | zero => intro q ls; rfl
  | succ t ih =>
    intro q ls
    rw [takL]
    split
    · rfl
    · split
      · rfl
      · rw [ih, setN_len]
/-! guarantee -/
def guaS (a : AS) (p1 p2 : Int32) : Int32 × AS :=
  bif kP a p1 && (decide (p2 = -1) || (kP a p2 && decide (¬ p1 = p2))) then (a.2.2 5 (ix p1), (a.1, a.2.1, updP a.2.2 5 (ix p1) (p2 + 1))) else (-1000001, a)
theorem kP_m1 {a : AS} : kP a (-1) = false := rfl
theorem c_guaS {v : St} {a : AS} (h : RC v a) (ho : OK a) (p1 p2 : Int32) : ∃ v', X0_giveGuarantor v p1 p2 = some ((guaS a p1 p2).1, v') ∧ RC v' (guaS a p1 p2).2 := by
  rw [X0_giveGuarantor, q_isPupil h, Option.bind_some, q_isPair h, Option.bind_some, ifb, ifb]
  unfold guaS
  cases h1 : kP a p1 with
  | false => exact ⟨v, rfl, h⟩
  | true =>
  obtain ⟨_, P, h8, hP, _⟩ := id ho
  obtain ⟨d, rfl, hd⟩ := kP_nat h1 hP h8
  have good : ∃ v', X0_giveGuarantor_b25 (nI d) p2 v = some (a.2.2 5 d, v') ∧ RC v' (a.1, a.2.1, updP a.2.2 5 d (p2 + 1)) := by
    have r := RC.row (ls := a.1) (nu := a.2.1) (pu := a.2.2) h (r := 5) (p := d) (p2 + 1) (by decide) (by decide) (by omega)
    refine ⟨_, ?_, r⟩
    rw [X0_giveGuarantor_b25, q_at (by omega) (by decide), Option.bind_some, q_put (by omega) (by decide), Option.bind_some, h.2.2 5 d (by decide) (by decide) (by omega)]
  rw [ix_nI (by omega)]
  by_cases c1 : p2 = -1
  · simp only [cond_true, Bool.true_and, if_pos c1, decide_eq_true c1, Bool.true_or]
    exact good
  · simp only [cond_true, Bool.true_and, if_neg c1, decide_eq_false c1, Bool.false_or]
    have e : kPr a (nI d) p2 = (kP a p2 && decide (¬ nI d = p2)) := by unfold kPr; rw [h1, Bool.true_and]
    rw [e]
    cases hk : (kP a p2 && decide (¬ nI d = p2)) with
    | false => exact ⟨v, rfl, h⟩
    | true => exact good

/- the law's own state: packed lots, rows of pupils, numbers -/
theorem r16_0 (f : Nat → Int32) : ldA 16 f (0 : Int32) = some (f 0) := q_ld (k := 0) (by decide) (by decide)
theorem r16_1 (f : Nat → Int32) : ldA 16 f (1 : Int32) = some (f 1) := q_ld (k := 1) (by decide) (by decide)
theorem r16_2 (f : Nat → Int32) : ldA 16 f (2 : Int32) = some (f 2) := q_ld (k := 2) (by decide) (by decide)
theorem r16_3 (f : Nat → Int32) : ldA 16 f (3 : Int32) = some (f 3) := q_ld (k := 3) (by decide) (by decide)
theorem r16_4 (f : Nat → Int32) : ldA 16 f (4 : Int32) = some (f 4) := q_ld (k := 4) (by decide) (by decide)
theorem r16_5 (f : Nat → Int32) : ldA 16 f (5 : Int32) = some (f 5) := q_ld (k := 5) (by decide) (by decide)
theorem r16_6 (f : Nat → Int32) : ldA 16 f (6 : Int32) = some (f 6) := q_ld (k := 6) (by decide) (by decide)
theorem r16_7 (f : Nat → Int32) : ldA 16 f (7 : Int32) = some (f 7) := q_ld (k := 7) (by decide) (by decide)
theorem r16_8 (f : Nat → Int32) : ldA 16 f (8 : Int32) = some (f 8) := q_ld (k := 8) (by decide) (by decide)
theorem r16_9 (f : Nat → Int32) : ldA 16 f (9 : Int32) = some (f 9) := q_ld (k := 9) (by decide) (by decide)
theorem r16_14 (f : Nat → Int32) : ldA 16 f (14 : Int32) = some (f 14) := q_ld (k := 14) (by decide) (by decide)
theorem r16_15 (f : Nat → Int32) : ldA 16 f (15 : Int32) = some (f 15) := q_ld (k := 15) (by decide) (by decide)
theorem w16_0 (f : Nat → Int32) (x : Int32) : stA 16 f (0 : Int32) x = some (upd f 0 x) := q_st (k := 0) (by decide) (by decide)
theorem w16_1 (f : Nat → Int32) (x : Int32) : stA 16 f (1 : Int32) x = some (upd f 1 x) := q_st (k := 1) (by decide) (by decide)
theorem w16_2 (f : Nat → Int32) (x : Int32) : stA 16 f (2 : Int32) x = some (upd f 2 x) := q_st (k := 2) (by decide) (by decide)
theorem w16_3 (f : Nat → Int32) (x : Int32) : stA 16 f (3 : Int32) x = some (upd f 3 x) := q_st (k := 3) (by decide) (by decide)
theorem w16_4 (f : Nat → Int32) (x : Int32) : stA 16 f (4 : Int32) x = some (upd f 4 x) := q_st (k := 4) (by decide) (by decide)
theorem w16_5 (f : Nat → Int32) (x : Int32) : stA 16 f (5 : Int32) x = some (upd f 5 x) := q_st (k := 5) (by decide) (by decide)
theorem w16_6 (f : Nat → Int32) (x : Int32) : stA 16 f (6 : Int32) x = some (upd f 6 x) := q_st (k := 6) (by decide) (by decide)
theorem w16_7 (f : Nat → Int32) (x : Int32) : stA 16 f (7 : Int32) x = some (upd f 7 x) := q_st (k := 7) (by decide) (by decide)
theorem w16_8 (f : Nat → Int32) (x : Int32) : stA 16 f (8 : Int32) x = some (upd f 8 x) := q_st (k := 8) (by decide) (by decide)
theorem w16_9 (f : Nat → Int32) (x : Int32) : stA 16 f (9 : Int32) x = some (upd f 9 x) := q_st (k := 9) (by decide) (by decide)
def pkN (d c k n a p : Nat) : Nat := d + 8 * c + 64 * k + 256 * n + 4096 * a + 1048576 * p
def PK (x : Int32) (l : Lot) : Prop := ∃ d c k n a p : Nat, l = (nI d, nI c, nI k, nI n, nI a, nI p) ∧ x = nI (pkN d c k n a p) ∧ d < 8 ∧ c < 8 ∧ k < 4 ∧ n ≤ 15 ∧ a ≤ 255 ∧ p ≤ 1
theorem l_debtor {x : Int32} {l : Lot} (h : PK x l) : L_debtor x = some l.d := by
  obtain ⟨d, c, k, n, a, p, rfl, rfl, h1, h2, h3, h4, h5, h6⟩ := h
  unfold L_debtor
  rw [pk_andN (n := pkN d c k n a p) (by unfold pkN; omega) 3 (by decide)]
  congr 2
  unfold pkN; omega
theorem l_creditor {x : Int32} {l : Lot} (h : PK x l) : L_creditor x = some l.c := by
  obtain ⟨d, c, k, n, a, p, rfl, rfl, h1, h2, h3, h4, h5, h6⟩ := h
  unfold L_creditor
  rw [pk_shrN (n := pkN d c k n a p) (by unfold pkN; omega) _ 3 (by decide), pk_andN (by unfold pkN; omega) 3 (by decide)]
  congr 2
  unfold pkN; omega
theorem l_kind {x : Int32} {l : Lot} (h : PK x l) : L_kind x = some l.k := by
  obtain ⟨d, c, k, n, a, p, rfl, rfl, h1, h2, h3, h4, h5, h6⟩ := h
  unfold L_kind
  rw [pk_shrN (n := pkN d c k n a p) (by unfold pkN; omega) _ 6 (by decide), pk_andN (by unfold pkN; omega) 2 (by decide)]
  congr 2
  unfold pkN; omega
theorem l_many {x : Int32} {l : Lot} (h : PK x l) : L_many x = some l.n := by
  obtain ⟨d, c, k, n, a, p, rfl, rfl, h1, h2, h3, h4, h5, h6⟩ := h
  unfold L_many
  rw [pk_shrN (n := pkN d c k n a p) (by unfold pkN; omega) _ 8 (by decide), pk_andN (by unfold pkN; omega) 4 (by decide)]
  congr 2
  unfold pkN; omega
theorem l_age {x : Int32} {l : Lot} (h : PK x l) : L_age x = some l.a := by
  obtain ⟨d, c, k, n, a, p, rfl, rfl, h1, h2, h3, h4, h5, h6⟩ := h
  unfold L_age
  rw [pk_shrN (n := pkN d c k n a p) (by unfold pkN; omega) _ 12 (by decide), pk_andN (by unfold pkN; omega) 8 (by decide)]
  congr 2
  unfold pkN; omega
theorem l_passed {x : Int32} {l : Lot} (h : PK x l) : x >>> ((20 : Int32) &&& 31) = l.p := by
  obtain ⟨d, c, k, n, a, p, rfl, rfl, h1, h2, h3, h4, h5, h6⟩ := h
  rw [pk_shrN (n := pkN d c k n a p) (by unfold pkN; omega) _ 20 (by decide)]
  show nI _ = nI p
  congr 1
  unfold pkN; omega
theorem l_key {x : Int32} {l : Lot} (h : PK x l) {d c k : Nat} (hd : d < 8) (hc : c < 8) (hk : k < 4) :
    ((x &&& (255 : Int32)) = ((nI d + ((8 : Int32) * nI c)) + ((64 : Int32) * nI k))) = (mtE (nI d) (nI c) (nI k) l = true) := by
  obtain ⟨d', c', k', n, a, p, rfl, rfl, h1, h2, h3, h4, h5, h6⟩ := h
  have e1 : (nI d + ((8 : Int32) * nI c)) + ((64 : Int32) * nI k) = nI (d + 8 * c + 64 * k) := by
    rw [show (8 : Int32) = nI 8 from rfl, show (64 : Int32) = nI 64 from rfl, pk_mul, pk_mul, nI_add, nI_add]
  have e2 : (nI (pkN d' c' k' n a p) &&& (255 : Int32)) = nI (d' + 8 * c' + 64 * k') := by
    rw [pk_andN (n := pkN d' c' k' n a p) (by unfold pkN; omega) 8 (by decide)]
    congr 1
    unfold pkN; omega
  rw [e1, e2, nI_eq (by omega) (by omega)]
  apply propext
  unfold mtE
  rw [Bool.and_eq_true, Bool.and_eq_true]
  constructor
  · intro e
    exact ⟨⟨decide_eq_true ((nI_eq (by omega) (by omega)).mpr (by omega)), decide_eq_true ((nI_eq (by omega) (by omega)).mpr (by omega))⟩, decide_eq_true ((nI_eq (by omega) (by omega)).mpr (by omega))⟩
  · rintro ⟨⟨a1, a2⟩, a3⟩
    have b1 := (nI_eq (a := d') (b := d) (by omega) (by omega)).mp (of_decide_eq_true a1)
    have b2 := (nI_eq (a := c') (b := c) (by omega) (by omega)).mp (of_decide_eq_true a2)
    have b3 := (nI_eq (a := k') (b := k) (by omega) (by omega)).mp (of_decide_eq_true a3)
    omega
/- the law's lots -/
def LW (fl ft : Nat → Int32) (ls : List Lot) : Prop := ft 2 = nI ls.length ∧ ls.length ≤ 40 ∧ ∀ i l, ls[i]? = some l → PK (fl i) l
theorem LW.at {fl ft : Nat → Int32} {dn rest : List Lot} {l : Lot} (h : LW fl ft (dn ++ l :: rest)) : PK (fl dn.length) l := h.2.2 dn.length l (by simp)
theorem LW.len {fl ft : Nat → Int32} {dn rest : List Lot} (h : LW fl ft (dn ++ rest)) : ft 2 = nI (dn.length + rest.length) ∧ dn.length + rest.length ≤ 40 := by
  have a := h.1; have b := h.2.1
  rw [List.length_append] at a b
  exact ⟨a, b⟩
theorem snoc_app {dn rest : List Lot} {l : Lot} : dn ++ l :: rest = (dn ++ [l]) ++ rest := by simp
theorem snoc_len {dn : List Lot} {l : Lot} : (dn ++ [l]).length = dn.length + 1 := by simp
theorem l_owed_l {fl ft : Nat → Int32} {d c k : Nat} (hd : d < 8) (hc : c < 8) (hk : k < 4) : ∀ (rest dn : List Lot) (fu : Nat) (acc : Int32), rest.length < fu → LW fl ft (dn ++ rest) →
    L_owed_l6 fl ft (nI d) (nI c) (nI k) fu acc (nI dn.length) = some (sumS (mtE (nI d) (nI c) (nI k)) acc rest) := by
  intro rest
  induction rest with
  | nil =>
    intro dn fu acc hf h
    obtain ⟨fu, rfl⟩ : ∃ f, fu = f + 1 := ⟨fu - 1, by omega⟩
    obtain ⟨h1, h2⟩ := h.len
    simp only [List.length_nil] at h1 h2
    rw [L_owed_l6, r16_2, Option.bind_some, h1, if_pos (nI_le (by omega) (by omega))]
    rfl
  | cons l rest ih =>
    intro dn fu acc hf h
    simp only [List.length_cons] at hf
    obtain ⟨fu, rfl⟩ : ∃ f, fu = f + 1 := ⟨fu - 1, by omega⟩
    obtain ⟨h1, h2⟩ := h.len
    have hp := h.at
    rw [snoc_app] at h
    simp only [List.length_cons] at h1 h2
    have ihh := fun acc => ih (dn ++ [l]) fu acc (by omega) h
    rw [snoc_len] at ihh
    rw [L_owed_l6, r16_2, Option.bind_some, h1, if_neg (nI_ge (by omega) (by omega)), q_ld (by omega) (by decide), Option.bind_some, Option.bind_some, l_many hp, Option.bind_some, q_1, q_0, sumS_cons]
    by_cases e : mtE (nI d) (nI c) (nI k) l = true
    · rw [if_pos ((l_key hp hd hc hk).mpr e), ihh, if_pos e]
    · rw [if_neg (fun z => e ((l_key hp hd hc hk).mp z)), ihh, if_neg e]
theorem l_owed {fl ft : Nat → Int32} {ls : List Lot} (h : LW fl ft ls) {d c k : Nat} (hd : d < 8) (hc : c < 8) (hk : k < 4) : L_owed fl ft (nI d) (nI c) (nI k) = some (sumS (mtE (nI d) (nI c) (nI k)) 0 ls) := by
  have := l_owed_l hd hc hk ls [] FU 0 (by unfold FU; have := h.2.1; omega) h
  exact this
theorem l_owing_l {fl ft : Nat → Int32} {d : Nat} (hd : d < 8) : ∀ (rest dn : List Lot) (fu : Nat) (acc : Int32), rest.length < fu → LW fl ft (dn ++ rest) →
    L_owing_l5 fl ft (nI d) fu acc (nI dn.length) = some (sumS (mt (nI d) (-1) (-1)) acc rest) := by
  intro rest
  induction rest with
  | nil =>
    intro dn fu acc hf h
    obtain ⟨fu, rfl⟩ : ∃ f, fu = f + 1 := ⟨fu - 1, by omega⟩
    obtain ⟨h1, h2⟩ := h.len
    simp only [List.length_nil] at h1 h2
    rw [L_owing_l5, r16_2, Option.bind_some, h1, if_pos (nI_le (by omega) (by omega))]
    rfl
  | cons l rest ih =>
    intro dn fu acc hf h
    simp only [List.length_cons] at hf
    obtain ⟨fu, rfl⟩ : ∃ f, fu = f + 1 := ⟨fu - 1, by omega⟩
    obtain ⟨h1, h2⟩ := h.len
    have hp := h.at
    rw [snoc_app] at h
    simp only [List.length_cons] at h1 h2
    have ihh := fun acc => ih (dn ++ [l]) fu acc (by omega) h
    rw [snoc_len] at ihh
    rw [L_owing_l5, r16_2, Option.bind_some, h1, if_neg (nI_ge (by omega) (by omega)), q_ld (by omega) (by decide), Option.bind_some, l_debtor hp, Option.bind_some, Option.bind_some, l_many hp, Option.bind_some, q_1, q_0, sumS_cons, mt_d (nI_m1 (by omega))]
    by_cases e : l.d = nI d
    · rw [if_pos e, ihh, if_pos (decide_eq_true e)]
    · rw [if_neg e, ihh, if_neg (fun z => e (of_decide_eq_true z))]
theorem l_owing {fl ft : Nat → Int32} {ls : List Lot} (h : LW fl ft ls) {d : Nat} (hd : d < 8) : L_owing fl ft (nI d) = some (sumS (mt (nI d) (-1) (-1)) 0 ls) :=
  l_owing_l hd ls [] FU 0 (by unfold FU; have := h.2.1; omega) h
theorem l_had_l {fl ft : Nat → Int32} {d : Nat} (hd : d < 8) : ∀ (rest dn : List Lot) (fu : Nat) (acc : Int32), rest.length < fu → LW fl ft (dn ++ rest) →
    L_had_l5 fl ft (nI d) fu acc (nI dn.length) = some (sumS (mt (-1) (nI d) (-1)) acc rest) := by
  intro rest
  induction rest with
  | nil =>
    intro dn fu acc hf h
    obtain ⟨fu, rfl⟩ : ∃ f, fu = f + 1 := ⟨fu - 1, by omega⟩
    obtain ⟨h1, h2⟩ := h.len
    simp only [List.length_nil] at h1 h2
    rw [L_had_l5, r16_2, Option.bind_some, h1, if_pos (nI_le (by omega) (by omega))]
    rfl
  | cons l rest ih =>
    intro dn fu acc hf h
    simp only [List.length_cons] at hf
    obtain ⟨fu, rfl⟩ : ∃ f, fu = f + 1 := ⟨fu - 1, by omega⟩
    obtain ⟨h1, h2⟩ := h.len
    have hp := h.at
    rw [snoc_app] at h
    simp only [List.length_cons] at h1 h2
    have ihh := fun acc => ih (dn ++ [l]) fu acc (by omega) h
    rw [snoc_len] at ihh
    rw [L_had_l5, r16_2, Option.bind_some, h1, if_neg (nI_ge (by omega) (by omega)), q_ld (by omega) (by decide), Option.bind_some, l_creditor hp, Option.bind_some, Option.bind_some, l_many hp, Option.bind_some, q_1, q_0, sumS_cons, mt_c (nI_m1 (by omega))]
    by_cases e : l.c = nI d
    · rw [if_pos e, ihh, if_pos (decide_eq_true e)]
    · rw [if_neg e, ihh, if_neg (fun z => e (of_decide_eq_true z))]
theorem l_had {fl ft : Nat → Int32} {ls : List Lot} (h : LW fl ft ls) {d : Nat} (hd : d < 8) : L_had fl ft (nI d) = some (sumS (mt (-1) (nI d) (-1)) 0 ls) :=
  l_had_l hd ls [] FU 0 (by unfold FU; have := h.2.1; omega) h
/- a lot taken out: those behind it move up -/
theorem l_out_l {p2 : Int32} {ft : Nat → Int32} : ∀ (n fu k : Nat) (fl : Nat → Int32), n < fu → k + n ≤ 40 → ft 2 = nI (k + n) →
    ∃ fl', L_out_l9 p2 fu fl ft (nI k) = some (fl', ft) ∧ (∀ i, i < k → fl' i = fl i) ∧ ∀ i, k ≤ i → i < k + n → fl' i = fl (i + 1) := by
  intro n
  induction n with
  | zero =>
    intro fu k fl hf hk h2
    obtain ⟨fu, rfl⟩ : ∃ f, fu = f + 1 := ⟨fu - 1, by omega⟩
    exact ⟨fl, by rw [L_out_l9, r16_2, Option.bind_some, h2, if_pos (nI_le (by omega) (by omega))], fun _ _ => rfl, fun i a b => by omega⟩
  | succ n ih =>
    intro fu k fl hf hk h2
    obtain ⟨fu, rfl⟩ : ∃ f, fu = f + 1 := ⟨fu - 1, by omega⟩
    obtain ⟨fl', e, a, b⟩ := ih fu (k + 1) (upd fl k (fl (k + 1))) (by omega) (by omega) (by rw [h2]; congr 1; omega)
    refine ⟨fl', ?_, fun i hi => by rw [a i (by omega), q_un (by omega)], fun i h3 h4 => ?_⟩
    · rw [L_out_l9, r16_2, Option.bind_some, h2, if_neg (nI_ge (by omega) (by omega)), q_1, q_ld (by omega) (by decide), Option.bind_some, q_st (by omega) (by decide), Option.bind_some]
      exact e
    · by_cases z : i = k
      · subst z; rw [a i (by omega), q_up]
      · rw [b i (by omega) (by omega), q_un (by omega)]
theorem l_out {fl ft : Nat → Int32} {dn rest : List Lot} {l : Lot} (h : LW fl ft (dn ++ l :: rest)) : ∃ fl', L_out fl ft (nI dn.length) = some (fl', upd ft 2 (nI (dn.length + rest.length))) ∧ LW fl' (upd ft 2 (nI (dn.length + rest.length))) (dn ++ rest) := by
  obtain ⟨h1, h2⟩ := h.len
  simp only [List.length_cons] at h1 h2
  have e2 : nI (dn.length + (rest.length + 1)) - (1 : Int32) = nI (dn.length + rest.length) := nI_pred (dn.length + rest.length)
  obtain ⟨fl', e, a, b⟩ := l_out_l (p2 := nI dn.length) (ft := upd ft 2 (nI (dn.length + rest.length))) rest.length FU dn.length fl (by unfold FU; omega) (by omega) (by rw [q_up])
  refine ⟨fl', ?_, by rw [q_up, List.length_append], by rw [List.length_append]; omega, fun i x hx => ?_⟩
  · rw [L_out, r16_2, Option.bind_some, w16_2, Option.bind_some, h1, e2]
    exact e
  · by_cases c : i < dn.length
    · rw [a i c]
      rw [List.getElem?_append_left c] at hx
      exact h.2.2 i x (by rw [List.getElem?_append_left c]; exact hx)
    · have c' : dn.length ≤ i := by omega
      rw [List.getElem?_append_right c'] at hx
      have hlt : i - dn.length < rest.length := (List.getElem?_eq_some_iff.mp hx).1
      rw [b i c' (by omega)]
      refine h.2.2 (i + 1) x ?_
      rw [List.getElem?_append_right (by omega), show i + 1 - dn.length = (i - dn.length) + 1 by omega, List.getElem?_cons_succ]
      exact hx

/-! PURE: the reference's cells, read and written. -/
theorem m288 (f : Nat → Int32) : ldA 304 f (288 : Int32) = some (f 288) := q_ld (k := 288) (by decide) (by decide)
theorem w288 (f : Nat → Int32) (x : Int32) : stA 304 f (288 : Int32) x = some (upd f 288 x) := q_st (k := 288) (by decide) (by decide)
theorem m289 (f : Nat → Int32) : ldA 304 f (289 : Int32) = some (f 289) := q_ld (k := 289) (by decide) (by decide)
theorem w289 (f : Nat → Int32) (x : Int32) : stA 304 f (289 : Int32) x = some (upd f 289 x) := q_st (k := 289) (by decide) (by decide)
theorem m290 (f : Nat → Int32) : ldA 304 f (290 : Int32) = some (f 290) := q_ld (k := 290) (by decide) (by decide)
theorem w290 (f : Nat → Int32) (x : Int32) : stA 304 f (290 : Int32) x = some (upd f 290 x) := q_st (k := 290) (by decide) (by decide)
theorem m291 (f : Nat → Int32) : ldA 304 f (291 : Int32) = some (f 291) := q_ld (k := 291) (by decide) (by decide)
theorem w291 (f : Nat → Int32) (x : Int32) : stA 304 f (291 : Int32) x = some (upd f 291 x) := q_st (k := 291) (by decide) (by decide)
theorem m292 (f : Nat → Int32) : ldA 304 f (292 : Int32) = some (f 292) := q_ld (k := 292) (by decide) (by decide)
theorem w292 (f : Nat → Int32) (x : Int32) : stA 304 f (292 : Int32) x = some (upd f 292 x) := q_st (k := 292) (by decide) (by decide)
theorem m293 (f : Nat → Int32) : ldA 304 f (293 : Int32) = some (f 293) := q_ld (k := 293) (by decide) (by decide)
theorem w293 (f : Nat → Int32) (x : Int32) : stA 304 f (293 : Int32) x = some (upd f 293 x) := q_st (k := 293) (by decide) (by decide)
theorem m294 (f : Nat → Int32) : ldA 304 f (294 : Int32) = some (f 294) := q_ld (k := 294) (by decide) (by decide)
theorem w294 (f : Nat → Int32) (x : Int32) : stA 304 f (294 : Int32) x = some (upd f 294 x) := q_st (k := 294) (by decide) (by decide)
theorem m295 (f : Nat → Int32) : ldA 304 f (295 : Int32) = some (f 295) := q_ld (k := 295) (by decide) (by decide)
theorem w295 (f : Nat → Int32) (x : Int32) : stA 304 f (295 : Int32) x = some (upd f 295 x) := q_st (k := 295) (by decide) (by decide)
theorem m296 (f : Nat → Int32) : ldA 304 f (296 : Int32) = some (f 296) := q_ld (k := 296) (by decide) (by decide)
theorem w296 (f : Nat → Int32) (x : Int32) : stA 304 f (296 : Int32) x = some (upd f 296 x) := q_st (k := 296) (by decide) (by decide)
theorem m297 (f : Nat → Int32) : ldA 304 f (297 : Int32) = some (f 297) := q_ld (k := 297) (by decide) (by decide)
theorem w297 (f : Nat → Int32) (x : Int32) : stA 304 f (297 : Int32) x = some (upd f 297 x) := q_st (k := 297) (by decide) (by decide)
theorem m298 (f : Nat → Int32) : ldA 304 f (298 : Int32) = some (f 298) := q_ld (k := 298) (by decide) (by decide)
theorem w298 (f : Nat → Int32) (x : Int32) : stA 304 f (298 : Int32) x = some (upd f 298 x) := q_st (k := 298) (by decide) (by decide)
theorem m299 (f : Nat → Int32) : ldA 304 f (299 : Int32) = some (f 299) := q_ld (k := 299) (by decide) (by decide)
theorem w299 (f : Nat → Int32) (x : Int32) : stA 304 f (299 : Int32) x = some (upd f 299 x) := q_st (k := 299) (by decide) (by decide)
theorem m300 (f : Nat → Int32) : ldA 304 f (300 : Int32) = some (f 300) := q_ld (k := 300) (by decide) (by decide)
theorem w300 (f : Nat → Int32) (x : Int32) : stA 304 f (300 : Int32) x = some (upd f 300 x) := q_st (k := 300) (by decide) (by decide)
theorem m301 (f : Nat → Int32) : ldA 304 f (301 : Int32) = some (f 301) := q_ld (k := 301) (by decide) (by decide)
theorem w301 (f : Nat → Int32) (x : Int32) : stA 304 f (301 : Int32) x = some (upd f 301 x) := q_st (k := 301) (by decide) (by decide)
theorem m302 (f : Nat → Int32) : ldA 304 f (302 : Int32) = some (f 302) := q_ld (k := 302) (by decide) (by decide)
theorem w302 (f : Nat → Int32) (x : Int32) : stA 304 f (302 : Int32) x = some (upd f 302 x) := q_st (k := 302) (by decide) (by decide)
theorem m303 (f : Nat → Int32) : ldA 304 f (303 : Int32) = some (f 303) := q_ld (k := 303) (by decide) (by decide)
theorem w303 (f : Nat → Int32) (x : Int32) : stA 304 f (303 : Int32) x = some (upd f 303 x) := q_st (k := 303) (by decide) (by decide)
theorem q_6 (k j : Nat) : (6 : Int32) * nI k + nI j = nI (6 * k + j) := by rw [show (6 : Int32) = nI 6 from rfl, pk_mul, nI_add]
theorem q_of (v : St) {k j : Nat} (h : 6 * k + j < 304) : X5_of v (nI k) (nI j) = some (v 1 (6 * k + j)) := by
  unfold X5_of
  rw [q_6, q_ld h (by decide)]
  rfl
theorem q_lay (v : St) {k j : Nat} (x : Int32) (h : 6 * k + j < 304) : X5_lay v (nI k) (nI j) x = some (setA v 1 (upd (v 1) (6 * k + j) x)) := by
  unfold X5_lay
  rw [q_6, q_st h (by decide)]
  rfl
theorem q_of0 (v : St) {k : Nat} (h : k < 40) : X5_of v (nI k) (0 : Int32) = some (v 1 (6 * k + 0)) := q_of v (j := 0) (by omega)
theorem q_lay0 (v : St) {k : Nat} (x : Int32) (h : k < 40) : X5_lay v (nI k) (0 : Int32) x = some (setA v 1 (upd (v 1) (6 * k + 0) x)) := q_lay v (j := 0) x (by omega)
theorem q_atM0 (p : Nat) : X5_at (nI p) (0 : Int32) = some (nI (240 + 6 * p + 0)) := by
  unfold X5_at
  rw [show (6 : Int32) = nI 6 from rfl, show (240 : Int32) = nI 240 from rfl, show (0 : Int32) = nI 0 from rfl, pk_mul, nI_add, nI_add]
theorem q_of1 (v : St) {k : Nat} (h : k < 40) : X5_of v (nI k) (1 : Int32) = some (v 1 (6 * k + 1)) := q_of v (j := 1) (by omega)
theorem q_lay1 (v : St) {k : Nat} (x : Int32) (h : k < 40) : X5_lay v (nI k) (1 : Int32) x = some (setA v 1 (upd (v 1) (6 * k + 1) x)) := q_lay v (j := 1) x (by omega)
theorem q_atM1 (p : Nat) : X5_at (nI p) (1 : Int32) = some (nI (240 + 6 * p + 1)) := by
  unfold X5_at
  rw [show (6 : Int32) = nI 6 from rfl, show (240 : Int32) = nI 240 from rfl, show (1 : Int32) = nI 1 from rfl, pk_mul, nI_add, nI_add]
theorem q_of2 (v : St) {k : Nat} (h : k < 40) : X5_of v (nI k) (2 : Int32) = some (v 1 (6 * k + 2)) := q_of v (j := 2) (by omega)
theorem q_lay2 (v : St) {k : Nat} (x : Int32) (h : k < 40) : X5_lay v (nI k) (2 : Int32) x = some (setA v 1 (upd (v 1) (6 * k + 2) x)) := q_lay v (j := 2) x (by omega)
theorem q_atM2 (p : Nat) : X5_at (nI p) (2 : Int32) = some (nI (240 + 6 * p + 2)) := by
  unfold X5_at
  rw [show (6 : Int32) = nI 6 from rfl, show (240 : Int32) = nI 240 from rfl, show (2 : Int32) = nI 2 from rfl, pk_mul, nI_add, nI_add]
theorem q_of3 (v : St) {k : Nat} (h : k < 40) : X5_of v (nI k) (3 : Int32) = some (v 1 (6 * k + 3)) := q_of v (j := 3) (by omega)
theorem q_lay3 (v : St) {k : Nat} (x : Int32) (h : k < 40) : X5_lay v (nI k) (3 : Int32) x = some (setA v 1 (upd (v 1) (6 * k + 3) x)) := q_lay v (j := 3) x (by omega)
theorem q_atM3 (p : Nat) : X5_at (nI p) (3 : Int32) = some (nI (240 + 6 * p + 3)) := by
  unfold X5_at
  rw [show (6 : Int32) = nI 6 from rfl, show (240 : Int32) = nI 240 from rfl, show (3 : Int32) = nI 3 from rfl, pk_mul, nI_add, nI_add]
theorem q_of4 (v : St) {k : Nat} (h : k < 40) : X5_of v (nI k) (4 : Int32) = some (v 1 (6 * k + 4)) := q_of v (j := 4) (by omega)
theorem q_lay4 (v : St) {k : Nat} (x : Int32) (h : k < 40) : X5_lay v (nI k) (4 : Int32) x = some (setA v 1 (upd (v 1) (6 * k + 4) x)) := q_lay v (j := 4) x (by omega)
theorem q_atM4 (p : Nat) : X5_at (nI p) (4 : Int32) = some (nI (240 + 6 * p + 4)) := by
  unfold X5_at
  rw [show (6 : Int32) = nI 6 from rfl, show (240 : Int32) = nI 240 from rfl, show (4 : Int32) = nI 4 from rfl, pk_mul, nI_add, nI_add]
theorem q_of5 (v : St) {k : Nat} (h : k < 40) : X5_of v (nI k) (5 : Int32) = some (v 1 (6 * k + 5)) := q_of v (j := 5) (by omega)
theorem q_lay5 (v : St) {k : Nat} (x : Int32) (h : k < 40) : X5_lay v (nI k) (5 : Int32) x = some (setA v 1 (upd (v 1) (6 * k + 5) x)) := q_lay v (j := 5) x (by omega)
theorem q_atM5 (p : Nat) : X5_at (nI p) (5 : Int32) = some (nI (240 + 6 * p + 5)) := by
  unfold X5_at
  rw [show (6 : Int32) = nI 6 from rfl, show (240 : Int32) = nI 240 from rfl, show (5 : Int32) = nI 5 from rfl, pk_mul, nI_add, nI_add]
/-- the reference's lots -/
def LM (s : Nat → Int32) (ls : List Lot) : Prop := s 290 = nI ls.length ∧ ls.length ≤ 40 ∧ ls = lotsF (lotM s) 0 ls.length
def FM (v v' : St) : Prop := (∀ r, r ≠ 1 → v' r = v r) ∧ (∀ i, 240 ≤ i → i ≠ 290 → v' 1 i = v 1 i)
theorem FM.rf (v : St) : FM v v := ⟨fun _ _ => rfl, fun _ _ _ => rfl⟩
theorem FM.tr {u v w : St} (h : FM u v) (k : FM v w) : FM u w := ⟨fun r a => (k.1 r a).trans (h.1 r a), fun i a b => (k.2 i a b).trans (h.2 i a b)⟩
theorem FM.set {v : St} {k : Nat} {x : Int32} (h : k < 240 ∨ k = 290) : FM v (setA v 1 (upd (v 1) k x)) :=
  ⟨fun r hr => q_sN v _ hr, fun i hi h2 => by rw [q_sA, q_un (by omega)]⟩
theorem FM.setf {v : St} {f : Nat → Int32} (h : ∀ i, 240 ≤ i → i ≠ 290 → f i = v 1 i) : FM v (setA v 1 f) :=
  ⟨fun r hr => q_sN v _ hr, fun i hi h2 => by rw [q_sA]; exact h i hi h2⟩
theorem LM.get {s : Nat → Int32} {ls : List Lot} (h : LM s ls) {k : Nat} (hk : k < ls.length) : ls[k]? = some (lotM s k) := by
  have := lotsF_get (lotM s) ls.length 0 k hk
  rw [← h.2.2, Nat.zero_add] at this
  exact this
theorem LM.fr {s s' : Nat → Int32} {ls : List Lot} (h : LM s ls) (h1 : s' 290 = s 290) (h2 : ∀ i, i < 240 → s' i = s i) : LM s' ls := by
  obtain ⟨a, b, c⟩ := h
  refine ⟨by rw [h1, a], b, ?_⟩
  have e : lotsF (lotM s') 0 ls.length = lotsF (lotM s) 0 ls.length := lotsF_cong _ _ (fun j _ hj => by
    simp only [lotM]
    rw [h2 _ (by omega), h2 _ (by omega), h2 _ (by omega), h2 _ (by omega), h2 _ (by omega), h2 _ (by omega)])
  rw [e]
  exact c
/-- which lots, no number standing for any -/
def mtE (d c k : Int32) (l : Lot) : Bool := decide (l.d = d) && decide (l.c = c) && decide (l.k = k)
theorem mtE_t {d c k : Int32} {l : Lot} (h1 : l.d = d) (h2 : l.c = c) (h3 : l.k = k) : mtE d c k l = true := by
  unfold mtE
  rw [decide_eq_true h1, decide_eq_true h2, decide_eq_true h3]
  rfl
theorem mtE_f {d c k : Int32} {l : Lot} (h : ¬ (l.d = d ∧ l.c = c ∧ l.k = k)) : ¬ mtE d c k l = true := by
  intro e
  unfold mtE at e
  rw [Bool.and_eq_true, Bool.and_eq_true] at e
  exact h ⟨of_decide_eq_true e.1.1, of_decide_eq_true e.1.2, of_decide_eq_true e.2⟩
theorem mt_E {d c k : Int32} (hd : d ≠ -1) (hc : c ≠ -1) (hk : k ≠ -1) : mt d c k = mtE d c k := by
  funext l
  simp only [mt, mtE, hd, hc, hk, decide_false, Bool.false_or]
  rw [show decide (d = l.d) = decide (l.d = d) from by congr 1; exact propext eq_comm, show decide (c = l.c) = decide (l.c = c) from by congr 1; exact propext eq_comm, show decide (k = l.k) = decide (l.k = k) from by congr 1; exact propext eq_comm]
theorem mt_d {d : Int32} (hd : d ≠ -1) (l : Lot) : mt d (-1) (-1) l = decide (l.d = d) := by
  simp only [mt, hd, decide_false, Bool.false_or, decide_true, Bool.true_or, Bool.and_true]
  congr 1; exact propext eq_comm
theorem mt_c {c : Int32} (hc : c ≠ -1) (l : Lot) : mt (-1) c (-1) l = decide (l.c = c) := by
  simp only [mt, hc, decide_false, Bool.false_or, decide_true, Bool.true_or, Bool.and_true, Bool.true_and]
  congr 1; exact propext eq_comm
theorem mt_any (l : Lot) : mt (-1) (-1) (-1) l = true := rfl
theorem nI_m1 {k : Nat} (h : k < 2 ^ 31) : nI k ≠ -1 := by
  intro e
  have := nI_toInt h
  rw [e] at this
  have h2 : (-1 : Int32).toInt = -1 := by decide
  omega
theorem q_0 (x : Int32) : x + (0 : Int32) = x := Int32.add_zero x
theorem q_owedM_l (v : St) (d c kd : Int32) : ∀ (n fu k : Nat) (acc : Int32), n < fu → k + n ≤ 40 → v 1 290 = nI (k + n) → X5_owed_l6 v d c kd fu acc (nI k) = some (sumS (mtE d c kd) acc (lotsF (lotM (v 1)) k n)) := by
  intro n
  induction n with
  | zero =>
    intro fu k acc hf hk hL
    cases fu with
    | zero => omega
    | succ fu =>
      rw [X5_owed_l6, m290, Option.bind_some, hL, if_pos (nI_le (by omega) (by omega))]
      rfl
  | succ n ih =>
    intro fu k acc hf hk hL
    cases fu with
    | zero => omega
    | succ fu =>
      have hk40 : k < 40 := by omega
      have e := fun acc => ih fu (k + 1) acc (by omega) (by omega) (by rw [hL]; congr 1; omega)
      rw [X5_owed_l6, m290, Option.bind_some, hL, if_neg (nI_ge (by omega) (by omega)), q_of0 v hk40, Option.bind_some, q_of1 v hk40, Option.bind_some, q_of2 v hk40, Option.bind_some, q_of3 v hk40, Option.bind_some, q_1, q_0, lotsF_cons, sumS_cons, e, e]
      by_cases h1 : v 1 (6 * k + 0) = d
      · rw [if_pos h1]
        by_cases h2 : v 1 (6 * k + 1) = c
        · rw [if_pos h2]
          by_cases h3 : v 1 (6 * k + 2) = kd
          · rw [if_pos h3, if_pos (mtE_t (l := lotM (v 1) k) h1 h2 h3)]
            rfl
          · rw [if_neg h3, if_neg (mtE_f (l := lotM (v 1) k) (fun z => h3 z.2.2))]
        · rw [if_neg h2, if_neg (mtE_f (l := lotM (v 1) k) (fun z => h2 z.2.1))]
      · rw [if_neg h1, if_neg (mtE_f (l := lotM (v 1) k) (fun z => h1 z.1))]
theorem q_owedM {v : St} {ls : List Lot} (h : LM (v 1) ls) (d c kd : Int32) : X5_owed v d c kd = some (sumS (mtE d c kd) 0 ls) := by
  obtain ⟨h1, h2, h3⟩ := h
  unfold X5_owed
  have e := q_owedM_l v d c kd ls.length FU 0 0 (by unfold FU; omega) (by omega) (by rw [h1]; congr 1; omega)
  rw [← h3] at e
  exact e
theorem q_sumM_l (v : St) (p : Int32) {j : Nat} (hj : j < 2) : ∀ (n fu k : Nat) (acc : Int32), n < fu → k + n ≤ 40 → v 1 290 = nI (k + n) → X5_sumOf_l5 v p (nI j) fu acc (nI k) = some (sumS (fun l => if j = 0 then decide (l.d = p) else decide (l.c = p)) acc (lotsF (lotM (v 1)) k n)) := by
  intro n
  induction n with
  | zero =>
    intro fu k acc hf hk hL
    cases fu with
    | zero => omega
    | succ fu =>
      rw [X5_sumOf_l5, m290, Option.bind_some, hL, if_pos (nI_le (by omega) (by omega))]
      rfl
  | succ n ih =>
    intro fu k acc hf hk hL
    cases fu with
    | zero => omega
    | succ fu =>
      have hk40 : k < 40 := by omega
      have e := fun acc => ih fu (k + 1) acc (by omega) (by omega) (by rw [hL]; congr 1; omega)
      rw [X5_sumOf_l5, m290, Option.bind_some, hL, if_neg (nI_ge (by omega) (by omega)), q_of v (by omega : 6 * k + j < 304), Option.bind_some, q_of3 v hk40, Option.bind_some, q_1, q_0, lotsF_cons, sumS_cons, e, e]
      rcases (by omega : j = 0 ∨ j = 1) with h0 | h0
      · subst h0
        by_cases h1 : v 1 (6 * k + 0) = p
        · rw [if_pos h1, if_pos (show (if (0 : Nat) = 0 then decide ((lotM (v 1) k).d = p) else decide ((lotM (v 1) k).c = p)) = true from decide_eq_true h1)]; rfl
        · rw [if_neg h1, if_neg (show ¬ ((if (0 : Nat) = 0 then decide ((lotM (v 1) k).d = p) else decide ((lotM (v 1) k).c = p)) = true) from fun z => h1 (of_decide_eq_true z))]
      · subst h0
        by_cases h1 : v 1 (6 * k + 1) = p
        · rw [if_pos h1, if_pos (show (if (1 : Nat) = 0 then decide ((lotM (v 1) k).d = p) else decide ((lotM (v 1) k).c = p)) = true from decide_eq_true h1)]; rfl
        · rw [if_neg h1, if_neg (show ¬ ((if (1 : Nat) = 0 then decide ((lotM (v 1) k).d = p) else decide ((lotM (v 1) k).c = p)) = true) from fun z => h1 (of_decide_eq_true z))]
theorem sumS_cong {P Q : Lot → Bool} (h : ∀ l, P l = Q l) (a : Int32) (ls : List Lot) : sumS P a ls = sumS Q a ls := by
  rw [show P = Q from funext h]
theorem q_sumM0 {v : St} {ls : List Lot} (h : LM (v 1) ls) {p : Nat} (hp : p < 2 ^ 31) : X5_sumOf v (nI p) (0 : Int32) = some (sumS (mt (nI p) (-1) (-1)) 0 ls) := by
  obtain ⟨h1, h2, h3⟩ := h
  unfold X5_sumOf
  have e := q_sumM_l v (nI p) (j := 0) (by decide) ls.length FU 0 0 (by unfold FU; omega) (by omega) (by rw [h1]; congr 1; omega)
  rw [← h3] at e
  rw [sumS_cong (Q := mt (nI p) (-1) (-1)) (fun l => by rw [mt_d (nI_m1 hp)]; rfl)] at e
  exact e
theorem q_sumM1 {v : St} {ls : List Lot} (h : LM (v 1) ls) {p : Nat} (hp : p < 2 ^ 31) : X5_sumOf v (nI p) (1 : Int32) = some (sumS (mt (-1) (nI p) (-1)) 0 ls) := by
  obtain ⟨h1, h2, h3⟩ := h
  unfold X5_sumOf
  have e := q_sumM_l v (nI p) (j := 1) (by decide) ls.length FU 0 0 (by unfold FU; omega) (by omega) (by rw [h1]; congr 1; omega)
  rw [← h3] at e
  rw [sumS_cong (Q := mt (-1) (nI p) (-1)) (fun l => by rw [mt_c (nI_m1 hp)]; rfl)] at e
  exact e
theorem q_allM_l (v : St) : ∀ (n fu k : Nat) (acc : Int32), n < fu → k + n ≤ 40 → v 1 290 = nI (k + n) → X5_owedInAll_l4 v fu acc (nI k) = some (sumS (mt (-1) (-1) (-1)) acc (lotsF (lotM (v 1)) k n)) := by
  intro n
  induction n with
  | zero =>
    intro fu k acc hf hk hL
    cases fu with
    | zero => omega
    | succ fu =>
      rw [X5_owedInAll_l4, m290, Option.bind_some, hL, if_pos (nI_le (by omega) (by omega))]
      rfl
  | succ n ih =>
    intro fu k acc hf hk hL
    cases fu with
    | zero => omega
    | succ fu =>
      have e := fun acc => ih fu (k + 1) acc (by omega) (by omega) (by rw [hL]; congr 1; omega)
      rw [X5_owedInAll_l4, m290, Option.bind_some, hL, if_neg (nI_ge (by omega) (by omega)), q_of3 v (by omega), Option.bind_some, q_1, e, lotsF_cons, sumS_cons, if_pos (mt_any _)]
      rfl
theorem q_allM {v : St} {ls : List Lot} (h : LM (v 1) ls) : X5_owedInAll v = some (sumS (mt (-1) (-1) (-1)) 0 ls) := by
  obtain ⟨h1, h2, h3⟩ := h
  unfold X5_owedInAll
  have e := q_allM_l v ls.length FU 0 0 (by unfold FU; omega) (by omega) (by rw [h1]; congr 1; omega)
  rw [← h3] at e
  exact e
/-! dropsEmpty -/
def cp6 (f : Nat → Int32) (to k : Nat) : Nat → Nat → Nat → Int32
  | _, 0 => f
  | j, n + 1 => cp6 (upd f (6 * to + j) (f (6 * k + j))) to k (j + 1) n
theorem cp6_at {to k : Nat} (h : to ≤ k) : ∀ (n j : Nat) (f : Nat → Int32) (i : Nat), j + n = 6 → cp6 f to k j n i = if 6 * to + j ≤ i ∧ i < 6 * to + 6 then f (6 * k + (i - 6 * to)) else f i := by
  intro n
  induction n with
  | zero =>
    intro j f i hj
    rw [cp6, if_neg (by omega)]
  | succ n ih =>
    intro j f i hj
    rw [cp6, ih (j + 1) _ i (by omega)]
    by_cases h1 : 6 * to + (j + 1) ≤ i ∧ i < 6 * to + 6
    · rw [if_pos h1, if_pos (by omega)]
      by_cases h2 : to = k
      · subst h2
        by_cases h3 : 6 * to + (i - 6 * to) = 6 * to + j
        · omega
        · rw [q_un h3]
      · rw [q_un (by omega)]
    · rw [if_neg h1]
      by_cases h2 : i = 6 * to + j
      · subst h2
        rw [q_up, if_pos (by omega)]
        congr 1; omega
      · rw [q_un h2, if_neg (by omega)]
theorem q_dropM_c (k4 : St → Int32 → Int32 → Option St) {to k : Nat} (ht : to < 40) (hk : k < 40) : ∀ (n fu j : Nat) (v : St), n < fu → j + n = 6 → X5_dropsEmpty_l27 k4 fu v (nI to) (nI k) (nI j) = k4 (setA v 1 (cp6 (v 1) to k j n)) (nI (to + 1)) (nI (k + 1)) := by
  intro n
  induction n with
  | zero =>
    intro fu j v hf hj
    cases fu with
    | zero => omega
    | succ fu =>
      rw [X5_dropsEmpty_l27, if_pos (show (6 : Int32) ≤ nI j from nI_le (a := 6) (b := j) (by omega) (by omega)), q_1, q_1, cp6]
      congr 1
      funext r
      by_cases hr : r = 1
      · subst hr; rw [q_sA]
      · rw [q_sN v _ hr]
  | succ n ih =>
    intro fu j v hf hj
    cases fu with
    | zero => omega
    | succ fu =>
      rw [X5_dropsEmpty_l27, if_neg (show ¬ (6 : Int32) ≤ nI j from nI_ge (a := j) (b := 6) (by omega) (by omega)), q_6, q_6, q_ld (by omega) (by decide), Option.bind_some, q_st (by omega) (by decide), Option.bind_some, q_1, ih fu (j + 1) _ (by omega) (by omega), cp6, q_sA]
      congr 1
      funext r
      by_cases hr : r = 1
      · subst hr; rw [q_sA, q_sA]
      · rw [q_sN _ _ hr, q_sN v _ hr, q_sN v _ hr]
theorem q_dropM_z {to : Nat} (ht : to ≤ 40) : ∀ (n fu i L : Nat) (v : St), n < fu → i + n = 6 * L → L ≤ 40 → 6 * to ≤ i → v 1 290 = nI L →
    ∃ v', X5_dropsEmpty_l75 fu v (nI to) (nI i) = some v' ∧ v' 1 290 = nI to ∧ (∀ j, j < i → v' 1 j = v 1 j) ∧ FM v v' := by
  intro n
  induction n with
  | zero =>
    intro fu i L v hf hi hL h6 hs
    cases fu with
    | zero => omega
    | succ fu =>
      refine ⟨setA v 1 (upd (v 1) 290 (nI to)), ?_, by rw [q_sA, q_up], fun j hj => by rw [q_sA, q_un (by omega)], FM.set (Or.inr rfl)⟩
      rw [X5_dropsEmpty_l75, m290, Option.bind_some, hs, show (6 : Int32) = nI 6 from rfl, pk_mul, if_pos (nI_le (by omega) (by omega)), w290]
      rfl
  | succ n ih =>
    intro fu i L v hf hi hL h6 hs
    cases fu with
    | zero => omega
    | succ fu =>
      obtain ⟨v', e, a, b, c⟩ := ih fu (i + 1) L (setA v 1 (upd (v 1) i 0)) (by omega) (by omega) hL (by omega) (by rw [q_sA, q_un (by omega), hs])
      refine ⟨v', ?_, a, fun j hj => ?_, (FM.set (Or.inl (by omega))).tr c⟩
      · rw [X5_dropsEmpty_l75, m290, Option.bind_some, hs, show (6 : Int32) = nI 6 from rfl, pk_mul, if_neg (nI_ge (by omega) (by omega)), q_st (by omega) (by decide), Option.bind_some, q_1]
        exact e
      · rw [b j (by omega), q_sA, q_un (by omega)]
theorem q_dropM_l : ∀ (n fu : Nat) (v : St) (left k : Nat), n < fu → left ≤ k → k + n ≤ 40 → v 1 290 = nI (k + n) →
    ∃ v', X5_dropsEmpty_l4 fu v (nI left) (nI k) = some v' ∧ LM (v' 1) (lotsF (lotM (v 1)) 0 left ++ (lotsF (lotM (v 1)) k n).filter pos) ∧ FM v v' := by
  intro n
  induction n with
  | zero =>
    intro fu v left k hf hk h40 hL
    cases fu with
    | zero => omega
    | succ fu =>
      obtain ⟨v', e, a, b, c⟩ := q_dropM_z (to := left) (by omega) (6 * k - 6 * left) FU (6 * left) k v (by unfold FU; omega) (by omega) (by omega) (Nat.le_refl _) (by rw [hL]; congr 1)
      refine ⟨v', ?_, ?_, c⟩
      · rw [X5_dropsEmpty_l4, m290, Option.bind_some, hL, if_pos (nI_le (by omega) (by omega)), show (6 : Int32) = nI 6 from rfl, pk_mul]
        exact e
      · have hl : (lotsF (lotM (v 1)) 0 left ++ (lotsF (lotM (v 1)) k 0).filter pos) = lotsF (lotM (v 1)) 0 left := by simp [lotsF]
        rw [hl]
        refine ⟨by rw [lotsF_len, a], by rw [lotsF_len]; omega, ?_⟩
        rw [lotsF_len]
        refine lotsF_cong _ _ (fun j _ hj => ?_)
        simp only [lotM]
        rw [b _ (by omega), b _ (by omega), b _ (by omega), b _ (by omega), b _ (by omega), b _ (by omega)]
  | succ n ih =>
    intro fu v left k hf hk h40 hL
    cases fu with
    | zero => omega
    | succ fu =>
      have hk40 : k < 40 := by omega
      rw [X5_dropsEmpty_l4, m290, Option.bind_some, hL, if_neg (nI_ge (by omega) (by omega)), q_of3 v hk40, Option.bind_some, q_1]
      by_cases hp : v 1 (6 * k + 3) ≤ 0
      · rw [if_pos hp]
        obtain ⟨v', e, a, b⟩ := ih fu v left (k + 1) (by omega) (by omega) (by omega) (by rw [hL]; congr 1; omega)
        refine ⟨v', e, ?_, b⟩
        have hn : pos (lotM (v 1) k) = false := pos_f (l := lotM (v 1) k) hp
        rw [lotsF_cons, List.filter_cons, hn]
        exact a
      · rw [if_neg hp, show (0 : Int32) = nI 0 from rfl, q_dropM_c _ (by omega) hk40 6 FU 0 v (by unfold FU; omega) (by omega)]
        generalize hw : setA v 1 (cp6 (v 1) left k 0 6) = w
        have hw1 : ∀ i, w 1 i = if 6 * left ≤ i ∧ i < 6 * left + 6 then v 1 (6 * k + (i - 6 * left)) else v 1 i := by
          intro i
          rw [← hw, q_sA, cp6_at hk 6 0 (v 1) i rfl]
          rfl
        have hfr : FM v w := by
          rw [← hw]
          refine FM.setf (fun i hi h2 => ?_)
          rw [cp6_at hk 6 0 (v 1) i rfl, if_neg (by omega)]
        have hlot : ∀ j, j ≠ left → lotM (w 1) j = lotM (v 1) j := by
          intro j hj
          simp only [lotM]
          rw [hw1, hw1, hw1, hw1, hw1, hw1, if_neg (by omega), if_neg (by omega), if_neg (by omega), if_neg (by omega), if_neg (by omega), if_neg (by omega)]
        have hlot2 : lotM (w 1) left = lotM (v 1) k := by
          simp only [lotM]
          rw [hw1, hw1, hw1, hw1, hw1, hw1, if_pos (by omega), if_pos (by omega), if_pos (by omega), if_pos (by omega), if_pos (by omega), if_pos (by omega)]
          rw [show 6 * k + (6 * left - 6 * left) = 6 * k by omega, show 6 * k + (6 * left + 1 - 6 * left) = 6 * k + 1 by omega, show 6 * k + (6 * left + 2 - 6 * left) = 6 * k + 2 by omega, show 6 * k + (6 * left + 3 - 6 * left) = 6 * k + 3 by omega, show 6 * k + (6 * left + 4 - 6 * left) = 6 * k + 4 by omega, show 6 * k + (6 * left + 5 - 6 * left) = 6 * k + 5 by omega]
        obtain ⟨v', e, a, b⟩ := ih fu w (left + 1) (k + 1) (by omega) (by omega) (by omega) (by rw [hw1, if_neg (by omega), hL]; congr 1; omega)
        refine ⟨v', e, ?_, hfr.tr b⟩
        have hn : pos (lotM (v 1) k) = true := pos_t (l := lotM (v 1) k) hp
        have e1 : lotsF (lotM (w 1)) 0 (left + 1) = lotsF (lotM (v 1)) 0 left ++ [lotM (v 1) k] := by
          rw [lotsF_snoc, Nat.zero_add, hlot2]
          congr 1
          exact lotsF_cong _ _ (fun j _ hj => hlot j (by omega))
        have e2 : lotsF (lotM (w 1)) (k + 1) n = lotsF (lotM (v 1)) (k + 1) n := lotsF_cong _ _ (fun j hj _ => hlot j (by omega))
        rw [e1, e2, List.append_assoc] at a
        rw [lotsF_cons, List.filter_cons, hn]
        exact a
theorem q_dropM {v : St} {ls : List Lot} (h : LM (v 1) ls) : ∃ v', X5_dropsEmpty v = some v' ∧ LM (v' 1) (ls.filter pos) ∧ FM v v' := by
  obtain ⟨h1, h2, h3⟩ := h
  obtain ⟨v', e, a, b⟩ := q_dropM_l ls.length FU v 0 0 (by unfold FU; omega) (by omega) (by omega) (by rw [h1]; congr 1; omega)
  refine ⟨v', e, ?_, b⟩
  rw [← h3] at a
  exact a

/- the pupil, the holidays, the settings: both sides -/
def holS (a : AS) (p1 : Int32) : Int32 × AS := (a.2.1 10, (a.1, upd a.2.1 10 (if p1 = 0 then 0 else 1), a.2.2))
def pupS (a : AS) : Int32 × AS := if a.2.1 1 = 8 then (-1000003, a) else (a.2.1 1, (a.1, upd a.2.1 1 (a.2.1 1 + 1), a.2.2))
def setS (a : AS) (p1 p2 : Int32) : Int32 × AS :=
  bif kIn p1 0 5 && kIn p2 1 (if p1 = 4 then 99 else 20) then (a.2.1 (20 + ix p1), (a.1, upd a.2.1 (20 + ix p1) p2, a.2.2)) else (-1000001, a)
theorem p26_10 (f : Nat → Int32) (x : Int32) : X4_put f 26 (10 : Int32) x = some (upd f 10 x) := q_put (k := 10) (by decide) (by decide)
theorem a26_0 (f : Nat → Int32) (x : Int32) : X4_add f 26 (0 : Int32) x = some (upd f 0 (f 0 + x)) := q_add (k := 0) (by decide) (by decide)
theorem a26_1 (f : Nat → Int32) (x : Int32) : X4_add f 26 (1 : Int32) x = some (upd f 1 (f 1 + x)) := q_add (k := 1) (by decide) (by decide)
theorem a26_6 (f : Nat → Int32) (x : Int32) : X4_add f 26 (6 : Int32) x = some (upd f 6 (f 6 + x)) := q_add (k := 6) (by decide) (by decide)
theorem a26_8 (f : Nat → Int32) (x : Int32) : X4_add f 26 (8 : Int32) x = some (upd f 8 (f 8 + x)) := q_add (k := 8) (by decide) (by decide)
theorem add1sub (x : Int32) : x + 1 - 1 = x := by
  apply Int32.toBitVec_inj.mp
  show x.toBitVec + 1#32 - 1#32 = x.toBitVec
  exact BitVec.add_sub_cancel _ _
theorem c_holS {v : St} {a : AS} (h : RC v a) (p1 : Int32) : ∃ v', X0_turnHolidays v p1 = some ((holS a p1).1, v') ∧ RC v' (holS a p1).2 := by
  have r := fun x => RC.num (ls := a.1) (nu := a.2.1) (pu := a.2.2) h (i := 10) x (by decide)
  have e : v 1 10 = a.2.1 10 := h.2.1 10 (by decide) (by decide)
  unfold holS
  rw [X0_turnHolidays, q_num10, Option.bind_some, X0_turnHolidays_b22, X0_turnHolidays_b22, e]
  by_cases c : p1 = 0
  · rw [if_pos c, if_pos c]
    exact ⟨_, by rw [p26_10, Option.bind_some], r _⟩
  · rw [if_neg c, if_neg c]
    exact ⟨_, by rw [p26_10, Option.bind_some], r _⟩
theorem c_pupS {v : St} {a : AS} (h : RC v a) (ho : OK a) : ∃ v', X0_addPupil v = some ((pupS a).1, v') ∧ RC v' (pupS a).2 := by
  obtain ⟨_, P, h8, hP, _⟩ := id ho
  have r := RC.num (ls := a.1) (nu := a.2.1) (pu := a.2.2) h (i := 1) (v 1 1 + 1) (by decide)
  have e : v 1 1 = a.2.1 1 := h.2.1 1 (by decide) (by decide)
  unfold pupS
  rw [X0_addPupil, q_num1, Option.bind_some]
  by_cases c : P = 8
  · subst c
    rw [e, hP, if_neg (by decide), if_pos (by decide)]
    exact ⟨v, rfl, h⟩
  · have c1 : nI P < 8 := by
      have : nI P < nI 8 := nI_lt (by omega) (by decide)
      exact this
    have c2 : ¬ nI P = 8 := by
      intro z
      have : nI P = nI 8 := z
      rw [nI_eq (by omega) (by decide)] at this; exact c this
    rw [e] at r
    rw [e, hP, if_pos c1, if_neg c2, ← hP]
    refine ⟨_, ?_, r⟩
    rw [a26_1, Option.bind_some, e, q_num1, Option.bind_some, q_sA, q_up, add1sub]
theorem c_setS {v : St} {a : AS} (h : RC v a) (p1 p2 : Int32) : ∃ v', X0_changeSetting v p1 p2 = some ((setS a p1 p2).1, v') ∧ RC v' (setS a p1 p2).2 := by
  unfold setS
  rw [X0_changeSetting]
  have bad : ∃ v', some ((-1000001 : Int32), v) = some ((-1000001 : Int32), v') ∧ RC v' a := ⟨v, rfl, h⟩
  have k1 := @kIn_iff p1 0 5
  have k2 := @kIn_iff p2 1 (if p1 = 4 then 99 else 20)
  have e6 : ((6 : Int32).toInt) = 6 := by decide
  by_cases c1 : p1 < 0
  · rw [if_pos c1]
    have : kIn p1 0 5 = false := by
      rw [lt_i] at c1
      have : (0 : Int32).toInt = 0 := by decide
      cases hk : kIn p1 0 5 with
      | false => rfl
      | true => have := k1.mp hk; omega
    rw [this, Bool.false_and]; exact bad
  rw [if_neg c1]
  by_cases c2 : 6 ≤ p1
  · rw [if_pos c2]
    have : kIn p1 0 5 = false := by
      rw [le_i, e6] at c2
      cases hk : kIn p1 0 5 with
      | false => rfl
      | true => have := k1.mp hk; omega
    rw [this, Bool.false_and]; exact bad
  rw [if_neg c2]
  have hk : kIn p1 0 5 = true := by
    rw [k1]
    rw [lt_i] at c1; rw [le_i, e6] at c2
    have : (0 : Int32).toInt = 0 := by decide
    omega
  obtain ⟨i, rfl, _, hi⟩ := kIn_nat hk (by decide)
  have hi : i ≤ 5 := by omega
  rw [hk, Bool.true_and, ix_nI (by omega)]
  by_cases c3 : p2 < 1
  · rw [if_pos c3]
    have : kIn p2 1 (if nI i = 4 then 99 else 20) = false := by
      rw [lt_i, t1] at c3
      cases hq : kIn p2 1 (if nI i = 4 then 99 else 20) with
      | false => rfl
      | true => have := k2.mp hq; omega
    rw [this]; exact bad
  rw [if_neg c3]
  have m : X4_mostOfSetting (nI i) = some (if nI i = 4 then 99 else 20) := by
    rw [X4_mostOfSetting]; by_cases z : nI i = 4
    · rw [if_pos z, if_pos z]
    · rw [if_neg z, if_neg z]
  have m2 : (if nI i = (4 : Int32) then (99 : Int32) else 20).toInt = (if nI i = 4 then 99 else 20) := by
    by_cases z : nI i = 4
    · rw [if_pos z, if_pos z]; decide
    · rw [if_neg z, if_neg z]; decide
  rw [m, Option.bind_some]
  by_cases c4 : p2 ≤ (if nI i = (4 : Int32) then (99 : Int32) else 20)
  · rw [if_pos c4]
    have : kIn p2 1 (if nI i = 4 then 99 else 20) = true := by
      rw [k2, ← m2]
      rw [lt_i, t1] at c3; rw [le_i] at c4; omega
    rw [this, cond_true]
    have e20 : (20 : Int32) + nI i = nI (20 + i) := nI_add 20 i
    refine ⟨_, ?_, RC.num (ls := a.1) (nu := a.2.1) (pu := a.2.2) h (i := 20 + i) p2 (by omega)⟩
    rw [e20, q_num v (by omega), Option.bind_some, q_put (by omega) (by decide), Option.bind_some, h.2.1 (20 + i) (by omega) (by omega)]
  · rw [if_neg c4]
    have : kIn p2 1 (if nI i = 4 then 99 else 20) = false := by
      cases hq : kIn p2 1 (if nI i = 4 then 99 else 20) with
      | false => rfl
      | true =>
        have := k2.mp hq
        rw [le_i, m2] at c4; omega
    rw [this]; exact bad
/- one lot of a list, field by field; the end of a week for one lot -/
def setF (l : Lot) (j : Nat) (x : Int32) : Lot :=
  match j with
  | 0 => (x, l.2)
  | 1 => (l.1, x, l.2.2)
  | 2 => (l.1, l.2.1, x, l.2.2.2)
  | 3 => (l.1, l.2.1, l.2.2.1, x, l.2.2.2.2)
  | 4 => (l.1, l.2.1, l.2.2.1, l.2.2.2.1, x, l.2.2.2.2.2)
  | _ => (l.1, l.2.1, l.2.2.1, l.2.2.2.1, l.2.2.2.2.1, x)
def fld (l : Lot) (j : Nat) : Int32 :=
  match j with
  | 0 => l.1
  | 1 => l.2.1
  | 2 => l.2.2.1
  | 3 => l.2.2.2.1
  | 4 => l.2.2.2.2.1
  | _ => l.2.2.2.2.2
theorem lotsF_at {g g' : Nat → Lot} {dn rest : List Lot} {l : Lot} (h : dn ++ l :: rest = lotsF g 0 (dn ++ l :: rest).length) (h2 : ∀ j, j ≠ dn.length → g' j = g j) :
    g dn.length = l ∧ dn ++ g' dn.length :: rest = lotsF g' 0 (dn ++ g' dn.length :: rest).length := by
  have len : ∀ l : Lot, (dn ++ l :: rest).length = dn.length + (rest.length + 1) := fun l => by rw [List.length_append, List.length_cons]
  rw [len, lotsF_app, lotsF_cons, Nat.zero_add] at h
  obtain ⟨e1, e2⟩ := List.append_inj h (by rw [lotsF_len])
  injection e2 with e3 e4
  refine ⟨e3.symm, ?_⟩
  rw [len, lotsF_app, lotsF_cons, Nat.zero_add]
  rw [lotsF_cong (g := g') (h := g) dn.length 0 (fun j _ hj => h2 j (by omega)), lotsF_cong (g := g') (h := g) rest.length (dn.length + 1) (fun j hj _ => h2 j (by omega)), ← e1, ← e4]
theorem lotC_set1 (v : St) {j : Nat} (hj : j < 6) (k : Nat) (x : Int32) : lotC (setA v (8 + j) (upd (v (8 + j)) k x)) k = setF (lotC v k) j x ∧ (∀ i, i ≠ k → lotC (setA v (8 + j) (upd (v (8 + j)) k x)) i = lotC v i) ∧ v (8 + j) k = fld (lotC v k) j := by
  refine ⟨?_, fun i hi => ?_, ?_⟩
  · have : j = 0 ∨ j = 1 ∨ j = 2 ∨ j = 3 ∨ j = 4 ∨ j = 5 := by omega
    rcases this with rfl | rfl | rfl | rfl | rfl | rfl <;> simp [lotC, setF, setA, upd] <;> exact ⟨rfl, rfl, rfl, rfl, rfl⟩
  · have key : ∀ r, setA v (8 + j) (upd (v (8 + j)) k x) r i = v r i := by
      intro r
      by_cases e : r = 8 + j
      · subst e; rw [q_sA, q_un hi]
      · rw [q_sN v _ e]
    simp only [lotC, key]
  · have : j = 0 ∨ j = 1 ∨ j = 2 ∨ j = 3 ∨ j = 4 ∨ j = 5 := by omega
    rcases this with rfl | rfl | rfl | rfl | rfl | rfl <;> rfl
theorem RC.at {v : St} {dn rest : List Lot} {l : Lot} {nu : Nat → Int32} {pu : Nat → Nat → Int32} (h : RC v (dn ++ l :: rest, nu, pu)) {j : Nat} (hj : j < 6) (x : Int32) :
    v (8 + j) dn.length = fld l j ∧ RC (setA v (8 + j) (upd (v (8 + j)) dn.length x)) (dn ++ setF l j x :: rest, nu, pu) := by
  obtain ⟨⟨h1, h2, h3⟩, hn, hr⟩ := h
  obtain ⟨s1, s2, s3⟩ := lotC_set1 v hj dn.length x
  obtain ⟨e1, e2⟩ := lotsF_at h3 s2
  rw [e1] at s3
  rw [s1, e1] at e2
  have len : (dn ++ setF l j x :: rest).length = (dn ++ l :: rest).length := by simp
  refine ⟨s3, ⟨?_, by rw [len]; exact h2, e2⟩, fun i a b => ?_, fun r p a b c => ?_⟩
  · show (setA v (8 + j) (upd (v (8 + j)) dn.length x)) 1 2 = _
    rw [q_sN v _ (by omega), h1, len]
  · rw [q_sN v _ (by omega)]; exact hn i a b
  · rw [q_sN v _ (by omega)]; exact hr r p a b c
theorem lotM_set1 (s : Nat → Int32) {j : Nat} (hj : j < 6) (k : Nat) (x : Int32) : lotM (upd s (6 * k + j) x) k = setF (lotM s k) j x ∧ (∀ i, i ≠ k → lotM (upd s (6 * k + j) x) i = lotM s i) ∧ s (6 * k + j) = fld (lotM s k) j := by
  refine ⟨?_, fun i hi => lotM_upd s x (by omega), ?_⟩
  · have : j = 0 ∨ j = 1 ∨ j = 2 ∨ j = 3 ∨ j = 4 ∨ j = 5 := by omega
    rcases this with rfl | rfl | rfl | rfl | rfl | rfl <;> simp [lotM, setF, upd]
  · have : j = 0 ∨ j = 1 ∨ j = 2 ∨ j = 3 ∨ j = 4 ∨ j = 5 := by omega
    rcases this with rfl | rfl | rfl | rfl | rfl | rfl <;> rfl
theorem RM.at {s : Nat → Int32} {dn rest : List Lot} {l : Lot} {nu : Nat → Int32} {pu : Nat → Nat → Int32} (h : RM s (dn ++ l :: rest, nu, pu)) {j : Nat} (hj : j < 6) (x : Int32) :
    s (6 * dn.length + j) = fld l j ∧ RM (upd s (6 * dn.length + j) x) (dn ++ setF l j x :: rest, nu, pu) := by
  obtain ⟨⟨h1, h2, h3⟩, hn, hr⟩ := h
  obtain ⟨s1, s2, s3⟩ := lotM_set1 s hj dn.length x
  obtain ⟨e1, e2⟩ := lotsF_at h3 s2
  rw [e1] at s3
  rw [s1, e1] at e2
  have len : ∀ l : Lot, (dn ++ l :: rest).length = dn.length + (rest.length + 1) := fun l => by rw [List.length_append, List.length_cons]
  have hl : dn.length < 40 := by have h2 : (dn ++ l :: rest).length ≤ 40 := h2; rw [len] at h2; omega
  refine ⟨s3, ⟨?_, ?_, e2⟩, fun i a => ?_, fun r p a b c => ?_⟩
  · show upd s (6 * dn.length + j) x 290 = _
    rw [q_un (by omega), h1]
    show nI (dn ++ l :: rest).length = nI (dn ++ setF l j x :: rest).length
    rw [len, len]
  · show (dn ++ setF l j x :: rest).length ≤ 40
    have h2 : (dn ++ l :: rest).length ≤ 40 := h2
    rw [len] at h2 ⊢; exact h2
  · have := (mapN_ge a).1
    rw [q_un (by omega)]; exact hn i a
  · have := offP_lt a b
    rw [q_un (by omega)]; exact hr r p a b c
def age (l : Lot) : Lot := setF l 4 (l.2.2.2.2.1 + 1)
def goP (pu : Nat → Nat → Int32) (l : Lot) : Int32 := pu 5 (ix l.1) - 1
def stays (nu : Nat → Int32) (l : Lot) : Bool := decide (l.2.2.2.2.1 < nu (20 + ix l.2.2.1))
def spoils (pu : Nat → Nat → Int32) (l : Lot) : Bool := decide (goP pu l < 0) || (decide (goP pu l = l.2.1) || !decide (l.2.2.2.2.2 = 0))
abbrev LS3 : Type := Lot × (Nat → Int32) × (Nat → Nat → Int32)
def spoilS (l : Lot) (nu : Nat → Int32) (pu : Nat → Nat → Int32) : LS3 :=
  (setF l 3 0, upd nu 6 (nu 6 + l.2.2.2.1), updP (updP (updP pu 2 (ix l.1) (pu 2 (ix l.1) + l.2.2.2.1)) 2 (ix l.2.1) (updP pu 2 (ix l.1) (pu 2 (ix l.1) + l.2.2.2.1) 2 (ix l.2.1) - l.2.2.2.1)) 4 (ix l.1) (pu 4 (ix l.1) + l.2.2.2.1))
def passS (l : Lot) (nu : Nat → Int32) (pu : Nat → Nat → Int32) : LS3 :=
  (setF (setF (setF l 0 (goP pu l)) 4 0) 5 1, upd nu 8 (nu 8 + l.2.2.2.1), updP (updP (updP pu 2 (ix l.1) (pu 2 (ix l.1) + l.2.2.2.1)) 2 (ix (goP pu l)) (updP pu 2 (ix l.1) (pu 2 (ix l.1) + l.2.2.2.1) 2 (ix (goP pu l)) - l.2.2.2.1)) 6 (ix (goP pu l)) (pu 6 (ix (goP pu l)) + l.2.2.2.1))
def lotS (l : Lot) (nu : Nat → Int32) (pu : Nat → Nat → Int32) : LS3 :=
  bif stays nu l then (l, nu, pu) else (bif spoils pu l then spoilS l nu pu else passS l nu pu)
theorem wl : ∀ s a : Fin 21, (0 < nI s.val - nI a.val) ↔ a.val < s.val := by decide

/- the end of a week for one lot: both sides -/
theorem c_pass {v : St} {dn rest : List Lot} {d c k n a p g : Nat} {nu : Nat → Int32} {pu : Nat → Nat → Int32} {l : Lot} (hl : l = (nI d, nI c, nI k, nI n, nI a, nI p)) (h : RC v (dn ++ l :: rest, nu, pu))
    (hd : d < 8) (hc : c < 8) (hp : p ≤ 1) (hg : pu 5 d = nI g) (hg8 : g ≤ 8) :
    (spoils pu l = true ∧ X0_passToGuarantor v (nI dn.length) = some (0, v)) ∨ (spoils pu l = false ∧ ∃ v', X0_passToGuarantor v (nI dn.length) = some (1, v') ∧ RC v' (dn ++ (passS l nu pu).1 :: rest, (passS l nu pu).2)) := by
  have hK : dn.length < 40 := by
    have h2 : (dn ++ l :: rest).length ≤ 40 := h.1.2.1
    rw [List.length_append, List.length_cons] at h2; omega
  have e8 : v 8 dn.length = nI d := by rw [(h.at (j := 0) (by decide) 0).1, hl]; rfl
  have e9 : v 9 dn.length = nI c := by rw [(h.at (j := 1) (by decide) 0).1, hl]; rfl
  have e13 : v 13 dn.length = nI p := by rw [(h.at (j := 5) (by decide) 0).1, hl]; rfl
  have e11 : v 11 dn.length = nI n := by rw [(h.at (j := 3) (by decide) 0).1, hl]; rfl
  have eg : X0_guarantorOf v (nI d) = some (pu 5 d - 1) := q_guar h hd
  have eL : goP pu l = pu 5 d - 1 := by rw [hl]; unfold goP; rw [ix_nI (by omega)]
  have es : spoils pu l = (decide (pu 5 d - 1 < 0) || (decide (pu 5 d - 1 = nI c) || !decide (nI p = 0))) := by
    unfold spoils; rw [eL, hl]
  rw [X0_passToGuarantor, q_at hK (by decide), Option.bind_some, e8, eg, Option.bind_some, es]
  by_cases c1 : pu 5 d - 1 < 0
  · exact Or.inl ⟨by rw [decide_eq_true c1]; rfl, by rw [if_pos c1]⟩
  rw [if_neg c1, q_at hK (by decide), Option.bind_some, e9]
  by_cases c2 : pu 5 d - 1 = nI c
  · exact Or.inl ⟨by rw [decide_eq_true c2, Bool.true_or, Bool.or_true], by rw [if_pos c2]⟩
  rw [if_neg c2, q_at hK (by decide), Option.bind_some, e13]
  by_cases c3 : nI p = 0
  · refine Or.inr ⟨by rw [decide_eq_true c3, decide_eq_false c1, decide_eq_false c2]; rfl, ?_⟩
    have g1 : 1 ≤ g := by
      rcases Nat.eq_zero_or_pos g with z | z
      · rw [hg, z] at c1; exact absurd (by decide) c1
      · exact z
    have eg1 : pu 5 d - 1 = nI (g - 1) := by rw [hg]; exact q_sub (a := g) (b := 1) g1
    have r1 := (h.at (j := 0) (by decide) (nI (g - 1))).2
    have r2 := (r1.at (j := 4) (by decide) 0).2
    have r3 := (r2.at (j := 5) (by decide) 1).2
    have r4 := r3.row (r := 2) (p := d) (pu 2 d + nI n) (by decide) (by decide) hd
    have r5 := r4.row (r := 2) (p := g - 1) (updP pu 2 d (pu 2 d + nI n) 2 (g - 1) - nI n) (by decide) (by decide) (by omega)
    have e5 := r4.2.2 2 (g - 1) (by decide) (by decide) (by omega)
    rw [setA_setA] at r5
    have r6 := r5.row (r := 6) (p := g - 1) (pu 6 (g - 1) + nI n) (by decide) (by decide) (by omega)
    have r7 := r6.num (i := 8) (nu 8 + nI n) (by decide)
    have e2 : v 2 d = pu 2 d := h.2.2 2 d (by decide) (by decide) hd
    have e6 : v 6 (g - 1) = pu 6 (g - 1) := h.2.2 6 (g - 1) (by decide) (by decide) (by omega)
    have e1 : v 1 8 = nu 8 := h.2.1 8 (by decide) (by decide)
    rw [q_sA] at e5
    have e5 : upd (v 2) d (pu 2 d + nI n) (g - 1) = updP pu 2 d (pu 2 d + nI n) 2 (g - 1) := e5
    have ep : passS l nu pu = (setF (setF (setF l 0 (nI (g - 1))) 4 0) 5 1, upd nu 8 (nu 8 + nI n), updP (updP (updP pu 2 d (pu 2 d + nI n)) 2 (g - 1) (updP pu 2 d (pu 2 d + nI n) 2 (g - 1) - nI n)) 6 (g - 1) (pu 6 (g - 1) + nI n)) := by
      unfold passS
      rw [eL, eg1, hl]
      show (_, _, updP (updP (updP pu 2 (ix (nI d)) _) 2 (ix (nI (g - 1))) _) 6 (ix (nI (g - 1))) _) = _
      rw [ix_nI (by omega), ix_nI (by omega)]
    rw [ep, if_pos c3, q_at hK (by decide), Option.bind_some, e11, eg1, q_put hK (by decide), Option.bind_some, q_put hK (by decide), Option.bind_some, q_put hK (by decide), Option.bind_some,
      q_add hd (by decide), Option.bind_some, q_add (by omega) (by decide), Option.bind_some, q_add (by omega) (by decide), Option.bind_some, a26_8, Option.bind_some, e2, e6, e1, e5, q_addneg]
    exact ⟨_, rfl, r7⟩
  · exact Or.inl ⟨by rw [decide_eq_false c3]; simp, by rw [if_neg c3]⟩
theorem c_spoil {v : St} {dn rest : List Lot} {d c k n a p : Nat} {nu : Nat → Int32} {pu : Nat → Nat → Int32} {l : Lot} (hl : l = (nI d, nI c, nI k, nI n, nI a, nI p)) (h : RC v (dn ++ l :: rest, nu, pu))
    (hd : d < 8) (hc : c < 8) : ∃ v', X0_spoilLot v (nI dn.length) = some v' ∧ RC v' (dn ++ (spoilS l nu pu).1 :: rest, (spoilS l nu pu).2) := by
  have hK : dn.length < 40 := by
    have h2 : (dn ++ l :: rest).length ≤ 40 := h.1.2.1
    rw [List.length_append, List.length_cons] at h2; omega
  have e8 : v 8 dn.length = nI d := by rw [(h.at (j := 0) (by decide) 0).1, hl]; rfl
  have e9 : v 9 dn.length = nI c := by rw [(h.at (j := 1) (by decide) 0).1, hl]; rfl
  have e11 : v 11 dn.length = nI n := by rw [(h.at (j := 3) (by decide) 0).1, hl]; rfl
  have r1 := (h.at (j := 3) (by decide) 0).2
  have r4 := r1.row (r := 2) (p := d) (pu 2 d + nI n) (by decide) (by decide) hd
  have r5 := r4.row (r := 2) (p := c) (updP pu 2 d (pu 2 d + nI n) 2 c - nI n) (by decide) (by decide) (by omega)
  have e5 := r4.2.2 2 c (by decide) (by decide) (by omega)
  rw [setA_setA] at r5
  have r6 := r5.row (r := 4) (p := d) (pu 4 d + nI n) (by decide) (by decide) (by omega)
  have r7 := r6.num (i := 6) (nu 6 + nI n) (by decide)
  have e2 : v 2 d = pu 2 d := h.2.2 2 d (by decide) (by decide) hd
  have e6 : v 4 d = pu 4 d := h.2.2 4 d (by decide) (by decide) (by omega)
  have e1 : v 1 6 = nu 6 := h.2.1 6 (by decide) (by decide)
  rw [q_sA] at e5
  have e5 : upd (v 2) d (pu 2 d + nI n) c = updP pu 2 d (pu 2 d + nI n) 2 c := e5
  have ep : spoilS l nu pu = (setF l 3 0, upd nu 6 (nu 6 + nI n), updP (updP (updP pu 2 d (pu 2 d + nI n)) 2 c (updP pu 2 d (pu 2 d + nI n) 2 c - nI n)) 4 d (pu 4 d + nI n)) := by
    unfold spoilS
    rw [hl]
    show (_, _, updP (updP (updP pu 2 (ix (nI d)) _) 2 (ix (nI c)) _) 4 (ix (nI d)) _) = _
    rw [ix_nI (by omega), ix_nI (by omega)]
  rw [ep, X0_spoilLot, q_at hK (by decide), Option.bind_some, q_at hK (by decide), Option.bind_some, q_put hK (by decide), Option.bind_some, e8, e11, q_add hd (by decide), Option.bind_some,
    q_at hK (by decide), Option.bind_some, e9, q_add (by omega) (by decide), Option.bind_some, q_add (by omega) (by decide), Option.bind_some, a26_6, Option.bind_some, e2, e6, e1, e5, q_addneg]
  exact ⟨_, rfl, r7⟩

/- the end of a week for one lot, reference; the loops over the lots -/
theorem setA_s1 (v : St) (f g : Nat → Int32) : setA (setA v 1 f) 1 g = setA v 1 g := setA_setA v 1 f g
theorem RM.sA {f : Nat → Int32} {a : AS} (h : RM f a) (v : St) : RM ((setA v 1 f) 1) a := by rw [q_sA]; exact h
/- the loops over the lots at the end of a week; the week -/
def GG (P : Nat) (nu : Nat → Int32) (pu : Nat → Nat → Int32) : Prop := P ≤ 8 ∧ (∀ p, p < 8 → ∃ g : Nat, pu 5 p = nI g ∧ g ≤ P ∧ g ≠ p + 1) ∧ (∀ i, i < 4 → ∃ n : Nat, nu (20 + i) = nI n ∧ 1 ≤ n ∧ n ≤ 20)
def okA (P : Nat) (l : Lot) : Prop := ∃ d c k n a p : Nat, l = (nI d, nI c, nI k, nI n, nI a, nI p) ∧ d < P ∧ c < P ∧ d ≠ c ∧ k < 4 ∧ 1 ≤ n ∧ n ≤ 9 ∧ a ≤ 20 ∧ p ≤ 1
theorem okL.age {P : Nat} {l : Lot} (h : okL P l) : okA P (age l) := by
  obtain ⟨d, c, k, n, a, p, rfl, h1, h2, h3, h4, h5, h6, h7, h8⟩ := h
  refine ⟨d, c, k, n, a + 1, p, ?_, h1, h2, h3, h4, h5, h6, by omega, h8⟩
  show (nI d, nI c, nI k, nI n, nI a + 1, nI p) = _
  rw [q_1]
theorem lotS_row {l : Lot} {nu : Nat → Int32} {pu : Nat → Nat → Int32} : ((lotS l nu pu).2.2 5 = pu 5 ∧ (lotS l nu pu).2.2 3 = pu 3 ∧ (lotS l nu pu).2.2 7 = pu 7) ∧ ∀ i, i ≠ 6 → i ≠ 8 → (lotS l nu pu).2.1 i = nu i := by
  have u : ∀ (f : Nat → Nat → Int32) (r p : Nat) (x : Int32) (r' : Nat), r' ≠ r → updP f r p x r' = f r' := fun f r p x r' h => funext fun p' => updP_n (by omega)
  unfold lotS
  cases stays nu l with
  | true => exact ⟨⟨rfl, rfl, rfl⟩, fun _ _ _ => rfl⟩
  | false =>
    cases spoils pu l with
    | true =>
      refine ⟨?_, fun i h _ => q_un h⟩
      simp only [cond_true, cond_false, spoilS]
      refine ⟨?_, ?_, ?_⟩ <;> rw [u _ _ _ _ _ (by decide), u _ _ _ _ _ (by decide), u _ _ _ _ _ (by decide)]
    | false =>
      refine ⟨?_, fun i _ h => q_un h⟩
      simp only [cond_false, passS]
      refine ⟨?_, ?_, ?_⟩ <;> rw [u _ _ _ _ _ (by decide), u _ _ _ _ _ (by decide), u _ _ _ _ _ (by decide)]
theorem lotS_GG {P : Nat} {l : Lot} {nu : Nat → Int32} {pu : Nat → Nat → Int32} (h : GG P nu pu) : GG P (lotS l nu pu).2.1 (lotS l nu pu).2.2 :=
  ⟨h.1, by rw [lotS_row.1.1]; exact h.2.1, fun i hi => by rw [lotS_row.2 (20 + i) (by omega) (by omega)]; exact h.2.2 i hi⟩
theorem stays_nI {P : Nat} {nu : Nat → Int32} {pu : Nat → Nat → Int32} (G : GG P nu pu) {d c n p : Int32} {k a : Nat} (hk : k < 4) (ha : a ≤ 20) : ∃ s, nu (20 + k) = nI s ∧ s ≤ 20 ∧ stays nu (d, c, nI k, n, nI a, p) = decide (a < s) := by
  obtain ⟨s, e, _, hs⟩ := G.2.2 k hk
  refine ⟨s, e, hs, ?_⟩
  unfold stays
  show decide (nI a < nu (20 + ix (nI k))) = _
  rw [ix_nI (by omega), e]
  by_cases c : a < s
  · rw [decide_eq_true c, decide_eq_true (nI_lt c (by omega))]
  · rw [decide_eq_false c, decide_eq_false (nI_nlt (by omega) (by omega))]
def weekL : List Lot → (Nat → Int32) → (Nat → Nat → Int32) → List Lot × (Nat → Int32) × (Nat → Nat → Int32)
  | [], nu, pu => ([], nu, pu)
  | l :: ls, nu, pu => ((lotS l nu pu).1 :: (weekL ls (lotS l nu pu).2.1 (lotS l nu pu).2.2).1, (weekL ls (lotS l nu pu).2.1 (lotS l nu pu).2.2).2)
theorem c_week_l {P : Nat} : ∀ (rest : List Lot) (fu : Nat) (v : St) (dn : List Lot) (nu : Nat → Int32) (pu : Nat → Nat → Int32), rest.length < fu → RC v (dn ++ rest, nu, pu) → (∀ l ∈ rest, okL P l) → GG P nu pu →
    ∃ v', X0_endWeek_l19 fu v (nI dn.length) = some v' ∧ RC v' ((dn ++ (weekL (rest.map age) nu pu).1).filter pos, (weekL (rest.map age) nu pu).2) := by
  intro rest
  induction rest with
  | nil =>
    intro fu v dn nu pu hf h _ _
    obtain ⟨fu, rfl⟩ : ∃ f, fu = f + 1 := ⟨fu - 1, by simp at hf; omega⟩
    have e2 : v 1 2 = nI dn.length := by have := h.1.1; rw [List.append_nil] at this; exact this
    obtain ⟨v', e, h1, h2⟩ := q_drop h.1.1 h.1.2.1 h.1.2.2
    have r := RC.lots h h1 h2
    refine ⟨v', ?_, r⟩
    rw [X0_endWeek_l19, q_num2, Option.bind_some, e2, if_pos (nI_le (Nat.le_refl _) (by have := h.1.2.1; simp at this; omega)), X0_endWeek_b64, e, Option.bind_some]
  | cons l rest ih =>
    intro fu v dn nu pu hf h hl G
    obtain ⟨fu, rfl⟩ : ∃ f, fu = f + 1 := ⟨fu - 1, by simp at hf; omega⟩
    have h40 : dn.length + (rest.length + 1) ≤ 40 := by
      have h2 : (dn ++ l :: rest).length ≤ 40 := h.1.2.1
      rw [List.length_append, List.length_cons] at h2; exact h2
    have e2 : v 1 2 = nI (dn.length + (rest.length + 1)) := by
      have h2 : v 1 2 = nI (dn ++ l :: rest).length := h.1.1
      rw [List.length_append, List.length_cons] at h2; exact h2
    obtain ⟨d, c, k, n, a, p, e, h1, h2, h3, h4, h5, h6, h7, h8⟩ := hl l (List.mem_cons_self)
    obtain ⟨g, hg, hgP, _⟩ := G.2.1 d (by have := G.1; omega)
    have P8 := G.1
    have e12 : v 12 dn.length = nI a := by rw [(h.at (j := 4) (by decide) 0).1, e]; rfl
    have ra : RC (setA v 12 (upd (v 12) dn.length (nI a + 1))) (dn ++ setF l 4 (nI a + 1) :: rest, nu, pu) := (h.at (j := 4) (by decide) (nI a + 1)).2
    have ea : setF l 4 (nI a + 1) = age l := by rw [e]; rfl
    have eb : age l = (nI d, nI c, nI k, nI n, nI (a + 1), nI p) := by rw [← ea, e, q_1]; rfl
    rw [ea] at ra
    obtain ⟨s, es, hs, est⟩ := stays_nI G (d := nI d) (c := nI c) (n := nI n) (p := nI p) h4 (a := a + 1) (by omega)
    rw [← eb] at est
    have ew : X0_weeksLeft (setA v 12 (upd (v 12) dn.length (nI a + 1))) (nI dn.length) = some (nI s - nI (a + 1)) := by
      have q1 : (setA v 12 (upd (v 12) dn.length (nI a + 1))) 10 dn.length = nI k := by rw [(ra.at (j := 2) (by decide) 0).1, eb]; rfl
      have q2 : (setA v 12 (upd (v 12) dn.length (nI a + 1))) 12 dn.length = nI (a + 1) := by rw [(ra.at (j := 4) (by decide) 0).1, eb]; rfl
      have e20 : (20 : Int32) + nI k = nI (20 + k) := nI_add 20 k
      rw [X0_weeksLeft, q_at (by omega) (by decide), Option.bind_some, q1, e20, q_num _ (by omega), Option.bind_some, q_at (by omega) (by decide), Option.bind_some, q2, ra.2.1 (20 + k) (by omega) (by omega)]
      show some (nu (20 + k) - _) = _
      rw [es]
    have hw := wl ⟨s, by omega⟩ ⟨a + 1, by omega⟩
    have hcmp : ¬ nI (dn.length + (rest.length + 1)) ≤ nI dn.length := by rw [q_le (by omega) (by omega)]; omega
    have fin : ∀ (v2 : St) (r : LS3), lotS (age l) nu pu = r → RC v2 (dn ++ r.1 :: rest, r.2) → ∃ v', X0_endWeek_l19 fu v2 (nI dn.length + 1) = some v' ∧ RC v' ((dn ++ (weekL ((l :: rest).map age) nu pu).1).filter pos, (weekL ((l :: rest).map age) nu pu).2) := by
      rintro v2 _ rfl hr
      have G2 : GG P (lotS (age l) nu pu).2.1 (lotS (age l) nu pu).2.2 := lotS_GG G
      have := ih fu v2 (dn ++ [(lotS (age l) nu pu).1]) (lotS (age l) nu pu).2.1 (lotS (age l) nu pu).2.2 (by simp at hf; omega) (by rw [List.append_assoc]; exact hr) (fun x hx => hl x (List.mem_cons_of_mem _ hx)) G2
      rw [List.length_append, List.length_singleton, ← q_1, List.append_assoc] at this
      exact this
    rw [X0_endWeek_l19, q_num2, Option.bind_some, e2, if_neg hcmp, q_add (by omega) (by decide), Option.bind_some, e12, ew, Option.bind_some]
    by_cases c1 : 0 < nI s - nI (a + 1)
    · rw [if_pos c1]
      refine fin _ (age l, nu, pu) ?_ ra
      unfold lotS; rw [est, decide_eq_true (hw.mp c1)]; rfl
    · rw [if_neg c1]
      have est : stays nu (age l) = false := by rw [est]; exact decide_eq_false (fun z => c1 (hw.mpr z))
      rcases c_pass eb ra (by omega) (by omega) h8 hg (by omega) with ⟨s1, s2⟩ | ⟨s1, v2, s2, s3⟩
      · obtain ⟨v3, s3, s4⟩ := c_spoil eb ra (by omega) (by omega)
        rw [s2, Option.bind_some, if_pos rfl, s3, Option.bind_some]
        refine fin _ _ ?_ s4
        unfold lotS; rw [est, s1]; rfl
      · rw [s2, Option.bind_some, if_neg (show ¬ (1 : Int32) = 0 by decide)]
        refine fin _ _ ?_ s3
        unfold lotS; rw [est, s1]; rfl

/- the loops over the lots at the end of a week, reference; the week and the weeks, both sides -/
theorem nadd0 (x : Int32) : x + nI 0 = x := Int32.add_zero x
theorem addsub (x y : Int32) : x + y - x = y := by
  rw [Int32.add_comm, Int32.add_sub_cancel]
theorem lotS_six {P : Nat} {l : Lot} {nu : Nat → Int32} {pu : Nat → Nat → Int32} {d c k n a p : Nat} (e : l = (nI d, nI c, nI k, nI n, nI a, nI p)) : (lotS l nu pu).2.1 6 = (bif stays nu l then nu 6 else (bif spoils pu l then nu 6 + nI n else nu 6)) := by
  unfold lotS
  cases stays nu l with
  | true => rfl
  | false =>
    cases spoils pu l with
    | true => rw [e]; rfl
    | false => rfl
def weekS (a : AS) : AS :=
  bif decide (a.2.1 10 = 0) then ((weekL (a.1.map age) (upd a.2.1 0 (a.2.1 0 + 1)) a.2.2).1.filter pos, (weekL (a.1.map age) (upd a.2.1 0 (a.2.1 0 + 1)) a.2.2).2) else (a.1, upd a.2.1 0 (a.2.1 0 + 1), a.2.2)
theorem lotS_okL {P : Nat} {l : Lot} {nu : Nat → Int32} {pu : Nat → Nat → Int32} (h : okA P l) (G : GG P nu pu) (hp : pos (lotS l nu pu).1 = true) : okL P (lotS l nu pu).1 := by
  obtain ⟨d, c, k, n, a, p, e, h1, h2, h3, h4, h5, h6, h7, h8⟩ := h
  obtain ⟨g, hg, hgP, hgn⟩ := G.2.1 d (by have := G.1; omega)
  have P8 := G.1
  obtain ⟨s, es, hs, est⟩ := stays_nI G (d := nI d) (c := nI c) (n := nI n) (p := nI p) h4 h7
  rw [← e] at est
  have eL : goP pu l = pu 5 d - 1 := by rw [e]; unfold goP; rw [ix_nI (by omega)]
  have esp : spoils pu l = (decide (pu 5 d - 1 < 0) || (decide (pu 5 d - 1 = nI c) || !decide (nI p = 0))) := by
    unfold spoils; rw [eL, e]
  unfold lotS at hp ⊢
  rw [est] at hp ⊢
  by_cases c1 : a < s
  · rw [decide_eq_true c1]
    exact ⟨d, c, k, n, a, p, e, h1, h2, h3, h4, h5, h6, by omega, h8⟩
  · rw [decide_eq_false c1] at hp ⊢
    cases hsp : spoils pu l with
    | true =>
      rw [hsp] at hp
      exact absurd (of_decide_eq_true hp) (by show ¬ (0 : Int32) < 0; decide)
    | false =>
      rw [esp] at hsp
      have c1 : ¬ pu 5 d - 1 < 0 := fun z => by rw [decide_eq_true z] at hsp; exact Bool.noConfusion hsp
      have c2 : ¬ pu 5 d - 1 = nI c := fun z => by rw [decide_eq_true z, Bool.true_or, Bool.or_true] at hsp; exact Bool.noConfusion hsp
      have g1 : 1 ≤ g := by
        rcases Nat.eq_zero_or_pos g with z | z
        · rw [hg, z] at c1; exact absurd (by decide) c1
        · exact z
      have eg1 : pu 5 d - 1 = nI (g - 1) := by rw [hg]; exact q_sub (a := g) (b := 1) g1
      refine ⟨g - 1, c, k, n, 0, 1, ?_, by omega, h2, ?_, h4, h5, h6, by omega, by omega⟩
      · show setF (setF (setF l 0 (goP pu l)) 4 0) 5 1 = _
        rw [eL, eg1, e]; rfl
      · intro z; exact c2 (by rw [eg1, z])
theorem weekL_ok {P : Nat} : ∀ (rest : List Lot) (nu : Nat → Int32) (pu : Nat → Nat → Int32), (∀ l ∈ rest, okA P l) → GG P nu pu →
    (∀ l ∈ (weekL rest nu pu).1.filter pos, okL P l) ∧ (weekL rest nu pu).1.length = rest.length ∧ ((weekL rest nu pu).2.2 5 = pu 5) ∧ (∀ i, i ≠ 6 → i ≠ 8 → (weekL rest nu pu).2.1 i = nu i) := by
  intro rest
  induction rest with
  | nil => intro nu pu _ _; exact ⟨fun l hl => by simp [weekL] at hl, rfl, rfl, fun _ _ _ => rfl⟩
  | cons l rest ih =>
    intro nu pu hl G
    obtain ⟨i1, i2, i3, i4⟩ := ih (lotS l nu pu).2.1 (lotS l nu pu).2.2 (fun x hx => hl x (List.mem_cons_of_mem _ hx)) (lotS_GG G)
    refine ⟨fun x hx => ?_, ?_, i3.trans lotS_row.1.1, fun i a b => (i4 i a b).trans (lotS_row.2 i a b)⟩
    · obtain ⟨hx1, hx2⟩ := List.mem_filter.mp hx
      rcases List.mem_cons.mp hx1 with rfl | hx1
      · exact lotS_okL (hl l (List.mem_cons_self)) G hx2
      · exact i1 x (List.mem_filter.mpr ⟨hx1, hx2⟩)
    · show _ + 1 = _
      rw [i2]; rfl
theorem OK.GG {a : AS} (h : OK a) : ∃ P, a.2.1 1 = nI P ∧ (∀ l ∈ a.1, okL P l) ∧ GG P (upd a.2.1 0 (a.2.1 0 + 1)) a.2.2 ∧ a.1.length ≤ 40 := by
  obtain ⟨h40, P, h8, hP, hl, hg, s1, _⟩ := h
  exact ⟨P, hP, hl, ⟨h8, hg, fun i hi => by rw [q_un (by omega)]; exact s1 i hi⟩, h40⟩
theorem weekS_ok {a : AS} (h : OK a) {w : Nat} (hw : a.2.1 0 = nI w) (hw1 : w + 1 ≤ 999) : OK (weekS a) ∧ (weekS a).2.1 0 = nI (w + 1) := by
  obtain ⟨P', hP', hl', G', _⟩ := h.GG
  obtain ⟨h40, P, h8, hP, hl, hg, s1, s2, s3, s4, _⟩ := id h
  have e0 : upd a.2.1 0 (a.2.1 0 + 1) 0 = nI (w + 1) := by rw [q_up, hw, q_1]
  obtain ⟨P, hP, hl, G, _⟩ := h.GG
  have mk : ∀ b : AS, b.1.length ≤ 40 → (∀ l ∈ b.1, okL P l) → b.2.2 5 = a.2.2 5 → (∀ i, i ≠ 6 → i ≠ 8 → b.2.1 i = upd a.2.1 0 (a.2.1 0 + 1) i) → OK b ∧ b.2.1 0 = nI (w + 1) := by
    intro b b1 b2 b3 b4
    have b5 : ∀ i, i ≠ 0 → i ≠ 6 → i ≠ 8 → b.2.1 i = a.2.1 i := fun i x y z => (b4 i y z).trans (q_un x)
    have b0 : b.2.1 0 = nI (w + 1) := (b4 0 (by decide) (by decide)).trans e0
    refine ⟨⟨b1, P, G.1, by rw [b5 1 (by decide) (by decide) (by decide)]; exact hP, b2, by rw [b3]; exact G.2.1, fun i hi => ?_, ?_, ?_, ?_, w + 1, b0, hw1⟩, b0⟩
    · rw [b5 (20 + i) (by omega) (by omega) (by omega)]; exact s1 i hi
    · rw [b5 24 (by decide) (by decide) (by decide)]; exact s2
    · rw [b5 25 (by decide) (by decide) (by decide)]; exact s3
    · rw [b5 10 (by decide) (by decide) (by decide)]; exact s4
  have ha : ∀ l ∈ a.1.map age, okA P l := fun l hx => by
    obtain ⟨x, hy, rfl⟩ := List.mem_map.mp hx
    exact (hl x hy).age
  obtain ⟨k1, k2, k3, k4⟩ := weekL_ok (a.1.map age) (upd a.2.1 0 (a.2.1 0 + 1)) a.2.2 ha G
  unfold weekS
  cases decide (a.2.1 10 = 0) with
  | true =>
    refine mk _ ?_ k1 k3 k4
    exact Nat.le_trans (List.length_filter_le _ _) (by rw [k2, List.length_map]; exact h40)
  | false => exact mk _ h40 hl rfl (fun _ _ _ => rfl)
theorem c_weekS {v : St} {a : AS} (h : RC v a) (ho : OK a) : ∃ v', X0_endWeek v = some v' ∧ RC v' (weekS a) := by
  obtain ⟨P, hP, hl, G, h40⟩ := ho.GG
  have e0 : v 1 0 = a.2.1 0 := h.2.1 0 (by decide) (by decide)
  have r := RC.num (ls := a.1) (nu := a.2.1) (pu := a.2.2) h (i := 0) (a.2.1 0 + 1) (by decide)
  have e10 : (setA v 1 (upd (v 1) 0 (a.2.1 0 + 1))) 1 10 = a.2.1 10 := r.2.1 10 (by decide) (by decide)
  rw [X0_endWeek, a26_0, Option.bind_some, e0, X0_hasHolidays, q_num10, Option.bind_some, e10]
  unfold weekS
  by_cases c : a.2.1 10 = 0
  · rw [if_pos c, Option.bind_some, if_pos rfl, decide_eq_true c]
    exact c_week_l a.1 FU _ [] (upd a.2.1 0 (a.2.1 0 + 1)) a.2.2 (by show _ < 2000; omega) r hl G
  · rw [if_neg c, Option.bind_some, if_neg (show ¬ (1 : Int32) = 0 by decide), decide_eq_false c]
    exact ⟨_, rfl, r⟩
/- some weeks, both sides -/
def weeksN : Nat → AS → AS
  | 0, a => a
  | n + 1, a => weeksN n (weekS a)
def weeksS (a : AS) (p1 : Int32) : Int32 × AS :=
  bif kIn p1 1 20 then (if a.2.1 0 + p1 ≤ 999 then ((weeksN (ix p1) a).2.1 6 - a.2.1 6, weeksN (ix p1) a) else (-1000003, a)) else (-1000001, a)
theorem weeksN_ok : ∀ (n : Nat) (a : AS) (w : Nat), OK a → a.2.1 0 = nI w → w + n ≤ 999 → OK (weeksN n a) := by
  intro n
  induction n with
  | zero => intro a w h _ _; exact h
  | succ n ih =>
    intro a w h hw hn
    obtain ⟨h1, h2⟩ := weekS_ok h hw (by omega)
    exact ih (weekS a) (w + 1) h1 h2 (by omega)
theorem c_weeks_l : ∀ (n fu : Nat) (v : St) (i : Nat) (a : AS) (w : Nat) (x2 : Int32), n < fu → i + n ≤ 20 → RC v a → OK a → a.2.1 0 = nI w → w + n ≤ 999 →
    ∃ v', X0_endWeeks_l39 (nI (i + n)) fu v x2 (nI i) = some ((weeksN n a).2.1 6 - x2, v') ∧ RC v' (weeksN n a) := by
  intro n
  induction n with
  | zero =>
    intro fu v i a w x2 hf hi h ho hw hn
    obtain ⟨fu, rfl⟩ : ∃ f, fu = f + 1 := ⟨fu - 1, by omega⟩
    have hcmp : nI (i + 0) ≤ nI i := by rw [q_le (by omega) (by omega)]; omega
    refine ⟨v, ?_, h⟩
    rw [X0_endWeeks_l39, if_pos hcmp, X0_endWeeks_b54, q_num6, Option.bind_some, h.2.1 6 (by decide) (by decide)]
    rfl
  | succ n ih =>
    intro fu v i a w x2 hf hi h ho hw hn
    obtain ⟨fu, rfl⟩ : ∃ f, fu = f + 1 := ⟨fu - 1, by omega⟩
    have hcmp : ¬ nI (i + (n + 1)) ≤ nI i := by rw [q_le (by omega) (by omega)]; omega
    obtain ⟨v1, e1, r1⟩ := c_weekS h ho
    obtain ⟨h1, h2⟩ := weekS_ok ho hw (by omega)
    obtain ⟨v2, e2, r2⟩ := ih fu v1 (i + 1) (weekS a) (w + 1) x2 (by omega) (by omega) r1 h1 h2 (by omega)
    refine ⟨v2, ?_, r2⟩
    rw [Nat.add_assoc, Nat.add_comm 1 n, ← q_1 i] at e2
    rw [X0_endWeeks_l39, if_neg hcmp, e1, Option.bind_some, e2]
    rfl
theorem kIn_pos {p1 : Int32} (h : ¬ p1 < 1) (h2 : p1 ≤ 20) : kIn p1 1 20 = true := by
  have t20 : (20 : Int32).toInt = 20 := by decide
  rw [kIn_iff]
  rw [lt_i, t1] at h
  rw [le_i, t20] at h2
  omega
theorem kIn_neg1 {p1 : Int32} (h : p1 < 1) : kIn p1 1 20 = false := by
  cases e : kIn p1 1 20 with
  | false => rfl
  | true => rw [kIn_iff] at e; rw [lt_i, t1] at h; omega
theorem kIn_neg2 {p1 : Int32} (h : ¬ p1 ≤ 20) : kIn p1 1 20 = false := by
  have t20 : (20 : Int32).toInt = 20 := by decide
  cases e : kIn p1 1 20 with
  | false => rfl
  | true => rw [kIn_iff] at e; rw [le_i, t20] at h; omega
theorem weeks_le {w n : Nat} (hw : w ≤ 999) (hn : n ≤ 20) : (nI w + nI n ≤ (999 : Int32)) = (w + n ≤ 999) := by
  rw [nI_add]; exact q_le (b := 999) (by omega) (by decide)
theorem c_weeksS {v : St} {a : AS} (h : RC v a) (ho : OK a) (p1 : Int32) : ∃ v', X0_endWeeks v p1 = some ((weeksS a p1).1, v') ∧ RC v' (weeksS a p1).2 := by
  unfold weeksS
  rw [X0_endWeeks]
  by_cases c1 : p1 < 1
  · rw [if_pos c1, kIn_neg1 c1]; exact ⟨v, rfl, h⟩
  rw [if_neg c1]
  by_cases c2 : p1 ≤ 20
  · rw [if_pos c2, kIn_pos c1 c2]
    obtain ⟨n, rfl, n1, n2⟩ := kIn_nat (kIn_pos c1 c2) (by decide)
    obtain ⟨_, _, _, _, _, _, _, _, _, _, w, hw, hw9⟩ := id ho
    have e0 : v 1 0 = nI w := (h.2.1 0 (by decide) (by decide)).trans hw
    rw [q_num0, Option.bind_some, e0, hw, ix_nI (by omega), cond_true]
    by_cases c3 : nI w + nI n ≤ (999 : Int32)
    · rw [if_pos c3, if_pos c3, q_num6, Option.bind_some, h.2.1 6 (by decide) (by decide)]
      rw [weeks_le hw9 (by omega)] at c3
      obtain ⟨v', e, r⟩ := c_weeks_l n FU v 0 a w (a.2.1 6) (by show _ < 2000; omega) (by omega) h ho hw c3
      rw [Nat.zero_add] at e
      exact ⟨v', e, r⟩
    · rw [if_neg c3, if_neg c3]; exact ⟨v, rfl, h⟩
  · rw [if_neg c2, kIn_neg2 c2]; exact ⟨v, rfl, h⟩
theorem weeksS_ok {a : AS} (ho : OK a) (p1 : Int32) : OK (weeksS a p1).2 := by
  unfold weeksS
  cases hk : kIn p1 1 20 with
  | false => exact ho
  | true =>
    obtain ⟨n, rfl, n1, n2⟩ := kIn_nat hk (by decide)
    obtain ⟨_, _, _, _, _, _, _, _, _, _, w, hw, hw9⟩ := id ho
    rw [cond_true, hw, ix_nI (by omega)]
    by_cases c3 : nI w + nI n ≤ (999 : Int32)
    · rw [if_pos c3]
      rw [weeks_le hw9 (by omega)] at c3
      exact weeksN_ok n a w ho hw c3
    · rw [if_neg c3]; exact ho

/- the invariant is kept by lend, fulfil, guarantee, pupil, holiday, set -/
def okZ (P : Nat) (l : Lot) : Prop := ∃ d c k n a p : Nat, l = (nI d, nI c, nI k, nI n, nI a, nI p) ∧ d < P ∧ c < P ∧ d ≠ c ∧ k < 4 ∧ n ≤ 9 ∧ a ≤ 19 ∧ p ≤ 1
theorem okL.z {P : Nat} {l : Lot} (h : okL P l) : okZ P l := by
  obtain ⟨d, c, k, n, a, p, e, h1, h2, h3, h4, h5, h6, h7, h8⟩ := h
  exact ⟨d, c, k, n, a, p, e, h1, h2, h3, h4, h6, h7, h8⟩
theorem okZ.l {P : Nat} {l : Lot} (h : okZ P l) (hp : pos l = true) : okL P l := by
  obtain ⟨d, c, k, n, a, p, rfl, h1, h2, h3, h4, h6, h7, h8⟩ := h
  refine ⟨d, c, k, n, a, p, rfl, h1, h2, h3, h4, ?_, h6, h7, h8⟩
  rcases Nat.eq_zero_or_pos n with z | z
  · subst z; exact absurd (of_decide_eq_true hp) (by show ¬ (0 : Int32) < nI 0; decide)
  · exact z
theorem okZ_setN {P : Nat} {x : Nat} (hx : x ≤ 9) : ∀ (ls : List Lot) (j : Nat), (∀ l ∈ ls, okZ P l) → ∀ l ∈ setN ls j (nI x), okZ P l := by
  intro ls
  induction ls with
  | nil => intro j _ l hl; exact absurd hl (by cases j <;> simp [setN])
  | cons y ys ih =>
    intro j h l hl
    cases j with
    | zero =>
      rcases List.mem_cons.mp hl with rfl | hl
      · obtain ⟨d, c, k, n, a, p, e, h1, h2, h3, h4, h6, h7, h8⟩ := h y (List.mem_cons_self)
        exact ⟨d, c, k, x, a, p, by rw [e]; rfl, h1, h2, h3, h4, hx, h7, h8⟩
      · exact h l (List.mem_cons_of_mem _ hl)
    | succ j =>
      rcases List.mem_cons.mp hl with rfl | hl
      · exact h _ (List.mem_cons_self)
      · exact ih j (fun l hl => h l (List.mem_cons_of_mem _ hl)) l hl
theorem takL_okZ {P : Nat} {M : Lot → Bool} : ∀ (t : Nat) (q : Nat) (ls : List Lot), q < 2 ^ 31 → (∀ l ∈ ls, okZ P l) → ∀ l ∈ takL M t (nI q) ls, okZ P l := by
  intro t
  induction t with
  | zero => intro q ls _ h; exact h
  | succ t ih =>
    intro q ls hq h
    rw [takL]
    split
    · exact h
    · split
      · exact h
      · next ja heq =>
        rcases (oldF_spec M ls 0 none).1 ja.1 ja.2 heq with h1 | ⟨i, l, e1, e2, e3, e4, e5⟩
        · cases h1
        · have e1 : ja.1 = i := by omega
          obtain ⟨d, c, k, s, a, p, e, _, _, _, _, h9, _⟩ := h l (List.mem_of_getElem? e2)
          have hn : l.n = nI s := by rw [e]
          have hg : getN ls ja.1 = nI s := by unfold getN; rw [e1, e2]; exact hn
          rw [hg, mn_nI h9 hq, q_sub (by omega), q_sub (by omega)]
          exact ih _ _ (by omega) (okZ_setN (by omega) ls _ h)
theorem OK.to {a b : AS} (ho : OK a) (h1 : b.1.length ≤ 40) (h2 : ∀ P, P ≤ 8 → a.2.1 1 = nI P → (∀ l ∈ a.1, okL P l) → ∀ l ∈ b.1, okL P l) (h3 : b.2.2 5 = a.2.2 5) (h4 : ∀ i, (i < 2 ∨ i = 10 ∨ 20 ≤ i) → b.2.1 i = a.2.1 i) : OK b := by
  obtain ⟨_, P, h8, hP, hl, hg, s1, s2, s3, s4, s5⟩ := ho
  refine ⟨h1, P, h8, (h4 1 (by decide)).trans hP, h2 P h8 hP hl, by rw [h3]; exact hg, fun i hi => ?_, ?_, ?_, ?_, ?_⟩
  · rw [h4 (20 + i) (by omega)]; exact s1 i hi
  · rw [h4 24 (by decide)]; exact s2
  · rw [h4 25 (by decide)]; exact s3
  · rw [h4 10 (by decide)]; exact s4
  · rw [h4 0 (by decide)]; exact s5
theorem updP_r {f : Nat → Nat → Int32} {r p : Nat} {x : Int32} {r' : Nat} (h : r' ≠ r) : updP f r p x r' = f r' := funext fun p' => updP_n (by omega)
theorem lendS_ok {a : AS} (ho : OK a) (p1 p2 p3 p4 : Int32) : OK (lendS a p1 p2 p3 p4).2 := by
  unfold lendS
  cases k1 : kPr a p1 p2 with
  | false => exact ho
  | true =>
  cases k2 : kIn p3 0 3 with
  | false => exact ho
  | true =>
  cases k3 : kIn p4 1 9 with
  | false => exact ho
  | true =>
  simp only [cond_true]
  split
  · split
    · next hl =>
      refine ho.to (by simp; omega) ?_ ?_ ?_
      · intro P h8 hP hls l hm
        rcases List.mem_append.mp hm with hm | hm
        · exact hls l hm
        · rw [List.mem_singleton] at hm
          obtain ⟨d, c, P', e1, e2, hd, hc, hne, h8', hP'⟩ := kPr_nat ho k1
          have : P' = P := (nI_eq (by omega) (by omega)).mp (hP'.symm.trans hP)
          obtain ⟨k, e3, _, hk⟩ := kIn_nat k2 (by decide)
          obtain ⟨n, e4, hn1, hn⟩ := kIn_nat k3 (by decide)
          exact ⟨d, c, k, n, 0, 0, by rw [hm, e1, e2, e3, e4]; rfl, by omega, by omega, hne, by omega, by omega, by omega, by omega, by omega⟩
      · dsimp only
        rw [updP_r (by decide), updP_r (by decide)]
      · intro i hi
        exact q_un (by omega)
    · exact ho
  · exact ho
theorem fulS_ok {a : AS} (ho : OK a) (p1 p2 p3 p4 : Int32) : OK (fulS a p1 p2 p3 p4).2 := by
  unfold fulS
  cases k1 : kPr a p1 p2 with
  | false => exact ho
  | true =>
  cases k2 : kIn p3 0 3 with
  | false => exact ho
  | true =>
  cases k3 : kIn p4 1 9 with
  | false => exact ho
  | true =>
  simp only [cond_true]
  split
  · obtain ⟨n, e4, hn1, hn⟩ := kIn_nat k3 (by decide)
    refine ho.to ?_ ?_ ?_ ?_
    · exact Nat.le_trans (List.length_filter_le _ _) (by rw [takL_len]; exact ho.1)
    · intro P h8 hP hls l hm
      obtain ⟨m1, m2⟩ := List.mem_filter.mp hm
      rw [e4] at m1
      exact (takL_okZ 40 n a.1 (by omega) (fun l hl => (hls l hl).z) l m1).l m2
    · dsimp only
      rw [updP_r (by decide), updP_r (by decide), updP_r (by decide)]
    · intro i hi
      exact q_un (by omega)
  · exact ho
theorem holS_ok {a : AS} (ho : OK a) (p1 : Int32) : OK (holS a p1).2 := by
  obtain ⟨h40, P, h8, hP, hl, hg, s1, s2, s3, s4, s5⟩ := ho
  unfold holS
  refine ⟨h40, P, h8, ?_, hl, hg, fun i hi => ?_, ?_, ?_, ?_, ?_⟩
  · dsimp only
    rw [q_un (by decide)]; exact hP
  · dsimp only
    rw [q_un (by omega)]; exact s1 i hi
  · dsimp only
    rw [q_un (by omega)]; exact s2
  · dsimp only
    rw [q_un (by omega)]; exact s3
  · dsimp only
    rw [q_up]
    by_cases c : p1 = 0
    · rw [if_pos c]; exact Or.inl rfl
    · rw [if_neg c]; exact Or.inr rfl
  · dsimp only
    rw [q_un (by omega)]; exact s5
theorem pupS_ok {a : AS} (ho : OK a) : OK (pupS a).2 := by
  unfold pupS
  by_cases c : a.2.1 1 = 8
  · rw [if_pos c]; exact ho
  rw [if_neg c]
  obtain ⟨h40, P, h8, hP, hl, hg, s1, s2, s3, s4, s5⟩ := ho
  have h7 : P ≠ 8 := fun z => c (by rw [hP, z]; rfl)
  refine ⟨h40, P + 1, by omega, ?_, ?_, ?_, fun i hi => ?_, ?_, ?_, ?_, ?_⟩
  · dsimp only
    rw [q_up, hP, q_1]
  · intro l hm
    obtain ⟨d, c, k, n, a, p, e, h1, h2, h3⟩ := hl l hm
    exact ⟨d, c, k, n, a, p, e, by omega, by omega, h3⟩
  · intro p hp
    obtain ⟨g, e, h1, h2⟩ := hg p hp
    exact ⟨g, e, by omega, h2⟩
  · dsimp only
    rw [q_un (by omega)]; exact s1 i hi
  · dsimp only
    rw [q_un (by omega)]; exact s2
  · dsimp only
    rw [q_un (by omega)]; exact s3
  · dsimp only
    rw [q_un (by omega)]; exact s4
  · dsimp only
    rw [q_un (by omega)]; exact s5
theorem guaS_ok {a : AS} (ho : OK a) (p1 p2 : Int32) : OK (guaS a p1 p2).2 := by
  unfold guaS
  cases k1 : (kP a p1 && (decide (p2 = -1) || (kP a p2 && decide (¬ p1 = p2)))) with
  | false => exact ho
  | true =>
  rw [Bool.and_eq_true, Bool.or_eq_true, Bool.and_eq_true] at k1
  obtain ⟨k1, k2⟩ := k1
  obtain ⟨h40, P, h8, hP, hl, hg, s⟩ := ho
  obtain ⟨d, rfl, hd⟩ := kP_nat k1 hP h8
  refine ⟨h40, P, h8, hP, hl, ?_, s⟩
  intro p hp
  show ∃ g, updP a.2.2 5 (ix (nI d)) (p2 + 1) 5 p = nI g ∧ _
  rw [ix_nI (by omega)]
  by_cases c : p = d
  · subst c
    rw [updP_s]
    rcases k2 with k2 | ⟨k2, k3⟩
    · have := of_decide_eq_true k2; subst this
      exact ⟨0, by decide, by omega, by omega⟩
    · obtain ⟨g, rfl, hg⟩ := kP_nat k2 hP h8
      refine ⟨g + 1, q_1 g, by omega, ?_⟩
      intro z
      have : p = g := by omega
      exact of_decide_eq_true k3 (by rw [this])
  · rw [updP_n (by omega)]; exact hg p hp
theorem setS_ok {a : AS} (ho : OK a) (p1 p2 : Int32) : OK (setS a p1 p2).2 := by
  unfold setS
  cases k1 : kIn p1 0 5 with
  | false => exact ho
  | true =>
  obtain ⟨i, rfl, _, hi⟩ := kIn_nat k1 (by decide)
  rw [Bool.true_and, ix_nI (by omega)]
  have e4 : (nI i = 4) = (i = 4) := by
    have : (nI i = nI 4) = (i = 4) := propext (nI_eq (by omega) (by decide))
    exact this
  cases k2 : kIn p2 1 (if nI i = 4 then 99 else 20) with
  | false => exact ho
  | true =>
  have hlo : (0 : Int) ≤ 1 := by decide
  obtain ⟨n, rfl, n1, n2⟩ := kIn_nat k2 hlo
  obtain ⟨h40, P, h8, hP, hl, hg, s1, s2, s3, s4, s5⟩ := ho
  have un : ∀ j, j ≠ 20 + i → upd a.2.1 (20 + i) (nI n) j = a.2.1 j := fun j hj => q_un hj
  rw [cond_true]
  refine ⟨h40, P, h8, (un 1 (by omega)).trans hP, hl, hg, fun j hj => ?_, ?_, ?_, ?_, ?_⟩
  · show ∃ m, upd a.2.1 (20 + i) (nI n) (20 + j) = _ ∧ _
    by_cases c : j = i
    · subst c
      rw [q_up]
      rw [if_neg (by rw [e4]; omega)] at n2
      exact ⟨n, rfl, by omega, by omega⟩
    · rw [un _ (by omega)]; exact s1 j hj
  · show ∃ m, upd a.2.1 (20 + i) (nI n) 24 = _ ∧ _
    by_cases c : i = 4
    · subst c
      rw [q_up]
      rw [if_pos (by rw [e4])] at n2
      exact ⟨n, rfl, by omega, by omega⟩
    · rw [un _ (by omega)]; exact s2
  · show ∃ m, upd a.2.1 (20 + i) (nI n) 25 = _ ∧ _
    by_cases c : i = 5
    · subst c
      rw [q_up]
      rw [if_neg (by rw [e4]; omega)] at n2
      exact ⟨n, rfl, by omega, by omega⟩
    · rw [un _ (by omega)]; exact s3
  · show upd a.2.1 (20 + i) (nI n) 10 = _ ∨ upd a.2.1 (20 + i) (nI n) 10 = _
    rw [un _ (by omega)]; exact s4
  · show ∃ m, upd a.2.1 (20 + i) (nI n) 0 = _ ∧ _
    rw [un _ (by omega)]; exact s5


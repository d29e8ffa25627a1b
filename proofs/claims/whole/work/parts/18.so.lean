/- reads at the face: deepest, spoilsIn, richest -/
def mD (d k : Int32) (l : Lot) : Bool := decide (l.d = d) && decide (l.k = k)
theorem mt_D {d k : Int32} (hd : d ≠ -1) (hk : k ≠ -1) (l : Lot) : mt d (-1) k l = mD d k l := by
  simp only [mt, mD, hd, hk, decide_false, Bool.false_or, decide_true, Bool.true_or, Bool.and_true]
  congr 1
  · congr 1; exact propext eq_comm
  · congr 1; exact propext eq_comm
theorem m_deep_l37 (v : St) (p1 : Int32) (k18 : Int32 → Int32 → Int32 → Option Int32) (x2 x3 x4 : Int32) : ∀ (n fu k : Nat) (acc : Int32), n < fu → k + n ≤ 40 → v 1 290 = nI (k + n) → X5_deepest_l37 v p1 k18 fu x2 x3 x4 acc (nI k) = X5_deepest_b95 v p1 k18 x2 x3 x4 (sumS (mD x4 p1) acc (lotsF (lotM (v 1)) k n)) := by
  intro n
  induction n with
  | zero =>
    intro fu k acc hf hk hL
    obtain ⟨fu, rfl⟩ : ∃ f, fu = f + 1 := ⟨fu - 1, by omega⟩
    rw [X5_deepest_l37, m290, Option.bind_some, hL, if_pos (by rw [q_le (by omega) (by omega)]; omega)]; rfl
  | succ n ih =>
    intro fu k acc hf hk hL
    obtain ⟨fu, rfl⟩ : ∃ f, fu = f + 1 := ⟨fu - 1, by omega⟩
    have e := fun acc => ih fu (k + 1) acc (by omega) (by omega) (by rw [hL]; congr 1; omega)
    rw [X5_deepest_l37, m290, Option.bind_some, hL, if_neg (by rw [q_le (by omega) (by omega)]; omega), q_of0 v (by omega), Option.bind_some, q_of2 v (by omega), Option.bind_some, q_of3 v (by omega), Option.bind_some, q_1, q_0, lotsF_cons, sumS_cons, e, e]
    by_cases h1 : v 1 (6 * k + 0) = x4
    · rw [if_pos h1]
      by_cases h2 : v 1 (6 * k + 2) = p1
      · rw [if_pos h2, if_pos (show mD x4 p1 (lotM (v 1) k) = true by
          unfold mD; rw [Bool.and_eq_true]; exact ⟨decide_eq_true h1, decide_eq_true h2⟩)]; rfl
      · rw [if_neg h2, if_neg (show ¬ mD x4 p1 (lotM (v 1) k) = true by
          unfold mD; rw [Bool.and_eq_true]; exact fun z => h2 (of_decide_eq_true z.2))]
    · rw [if_neg h1, if_neg (show ¬ mD x4 p1 (lotM (v 1) k) = true by
        unfold mD; rw [Bool.and_eq_true]; exact fun z => h1 (of_decide_eq_true z.1))]
theorem m_deep_s {v : St} {ls : List Lot} (h : LM (v 1) ls) {p1 : Int32} (hk : p1 ≠ -1) (k18 : Int32 → Int32 → Int32 → Option Int32) (x2 x3 : Int32) {x : Nat} (hx : x < 2 ^ 31) : X5_deepest_l37 v p1 k18 FU x2 x3 (nI x) (0 : Int32) (0 : Int32) = X5_deepest_b95 v p1 k18 x2 x3 (nI x) (sumS (mt (nI x) (-1) p1) 0 ls) := by
  obtain ⟨h1, h2, h3⟩ := h
  have e := m_deep_l37 v p1 k18 x2 x3 (nI x) ls.length FU 0 0 (by unfold FU; omega) (by omega) (by rw [h1]; congr 1; omega)
  rw [← h3] at e
  rw [sumS_cong (Q := mD (nI x) p1) (fun l => mt_D (nI_m1 hx) hk l)]
  exact e
theorem f_deep_l {vB vM : St} {a : AS} (h : RC vB a) (hm : RM (vM 1) a) (vT vH : St) (bH : Nat → St) (vR vO : St) {p1 : Int32} (hk : p1 ≠ -1) {P : Nat} (h8 : P ≤ 8) (hP : a.2.1 1 = nI P) : ∀ (n fu x : Nat) (x2 x3 : Int32), n < fu → x + n = P →
    ∃ ans, X4_deepest_l18 vB vT vH bH vR vO p1 fu x2 x3 (nI x) = some ans ∧ X5_deepest_l18 vM p1 fu x2 x3 (nI x) = some ans := by
  intro n
  induction n with
  | zero =>
    intro fu x x2 x3 hf hx
    obtain ⟨fu, rfl⟩ : ∃ f, fu = f + 1 := ⟨fu - 1, by omega⟩
    rw [X4_deepest_l18, q_num1, Option.bind_some, h.2.1 1 (by decide) (by decide), X5_deepest_l18, m289, Option.bind_some, hm.pup, hP, if_pos (by rw [q_le (by omega) (by omega)]; omega), if_pos (by rw [q_le (by omega) (by omega)]; omega)]
    exact ⟨_, rfl, rfl⟩
  | succ n ih =>
    intro fu x x2 x3 hf hx
    obtain ⟨fu, rfl⟩ : ∃ f, fu = f + 1 := ⟨fu - 1, by omega⟩
    rw [X4_deepest_l18, q_num1, Option.bind_some, h.2.1 1 (by decide) (by decide), X5_deepest_l18, m289, Option.bind_some, hm.pup, hP, if_neg (by rw [q_le (by omega) (by omega)]; omega), if_neg (by rw [q_le (by omega) (by omega)]; omega), q_sumOwed h.1, Option.bind_some, m_deep_s hm.1 hk _ _ _ (by omega), X5_deepest_b95]
    by_cases c : sumS (mt (nI x) (-1) p1) 0 a.1 ≤ x3
    · rw [if_pos c, if_pos c, X5_deepest_b107, if_pos c, q_1]
      exact ih fu (x + 1) x2 x3 (by omega) (by omega)
    · rw [if_neg c, if_neg c, X5_deepest_b107, if_neg c, q_1]
      exact ih fu (x + 1) _ _ (by omega) (by omega)
theorem f_deepest {vB vM : St} {a : AS} (h : RC vB a) (hm : RM (vM 1) a) (ho : OK a) (vT vH : St) (bH : Nat → St) (vR vO : St) (p1 : Int32) : ∃ ans, X4_deepest vB vT vH bH vR vO p1 = some ans ∧ X5_deepest vM p1 = some ans := by
  rw [X4_deepest, q_isKind, Option.bind_some, ifb, X5_deepest, q_isKindM, Option.bind_some, ifb]
  cases h1 : kIn p1 0 3 with
  | false => exact ⟨_, rfl, rfl⟩
  | true =>
    obtain ⟨_, P, h8, hP, _⟩ := ho
    have e := f_deep_l h hm vT vH bH vR vO (kd_ne h1) h8 hP P FU 0 (-1000004 : Int32) (0 : Int32) (by show _ < 2000; omega) (by omega)
    rw [show nI 0 = (0 : Int32) from rfl] at e
    rw [cond_true, cond_true]
    exact e
/- when the next of a pupil's lots spoils -/
def tW (nu : Nat → Int32) (l : Lot) : Int32 := if 1 < nu (20 + ix l.2.2.1) - l.2.2.2.2.1 then nu (20 + ix l.2.2.1) - l.2.2.2.2.1 else 1
theorem tW_pos (nu : Nat → Int32) (l : Lot) : 0 < tW nu l := by
  unfold tW
  split
  · next c => exact Int32.lt_trans (by decide) c
  · decide
theorem tW_M (x : Int32) : (if 1 ≤ x then x else 1) = if 1 < x then x else 1 := by
  by_cases c : 1 < x
  · rw [if_pos c, if_pos (Int32.le_of_lt c)]
  · rw [if_neg c]
    by_cases d : 1 ≤ x
    · rw [if_pos d]; exact Int32.le_antisymm (Int32.not_lt.mp c) d
    · rw [if_neg d]
def spS (p : Int32) (nu : Nat → Int32) : List Lot → Option Int32 → Option Int32
  | [], o => o
  | l :: ls, o => spS p nu ls (if mt p (-1) (-1) l = true then (match o with
    | none => some (tW nu l)
    | some x => some (if tW nu l < x then tW nu l else x)) else o)
def oN (z : Int32) : Option Int32 → Int32
  | none => z
  | some x => x
def opos (o : Option Int32) : Prop := ∀ x, o = some x → 0 < x
theorem c_weeksLeft {v : St} {a : AS} (h : RC v a) {dn rest : List Lot} {l : Lot} (he : a.1 = dn ++ l :: rest) {P : Nat} (hl : okL P l) : X0_weeksLeft v (nI dn.length) = some (a.2.1 (20 + ix l.2.2.1) - l.2.2.2.2.1) := by
  have h40 : dn.length < 40 := by
    have := h.1.2.1
    rw [he, List.length_append, List.length_cons] at this; omega
  have eL : lotC v dn.length = l := (lotsF_at (g' := lotC v) (dn := dn) (rest := rest) (by rw [← he]; exact h.1.2.2) (fun _ _ => rfl)).1
  obtain ⟨d, c, k, n, ag, p, e, h1, h2, h3, h4, h5, h6, h7, h8⟩ := hl
  have k10 : v 10 dn.length = nI k := by
    have : (lotC v dn.length).2.2.1 = nI k := by rw [eL, e]
    exact this
  have k12 : v 12 dn.length = nI ag := by
    have : (lotC v dn.length).2.2.2.2.1 = nI ag := by rw [eL, e]
    exact this
  have e20 : (20 : Int32) + nI k = nI (20 + k) := nI_add 20 k
  rw [X0_weeksLeft, q_at h40 (by decide), Option.bind_some, k10, e20, q_num v (by omega), Option.bind_some, q_at h40 (by decide), Option.bind_some, k12, h.2.1 (20 + k) (by omega) (by omega), e]
  show some (a.2.1 (20 + k) - nI ag) = some (a.2.1 (20 + ix (nI k)) - nI ag)
  rw [ix_nI (by omega)]
theorem c_sp_l {v : St} {a : AS} (h : RC v a) {P : Nat} (hl : ∀ l ∈ a.1, okL P l) (p : Int32) : ∀ (rest dn : List Lot) (fu : Nat) (o : Option Int32), rest.length < fu → a.1 = dn ++ rest → opos o →
    X0_weeksUntilNextSpoils_l4 v p fu (oN 0 o) (nI dn.length) = some (oN 0 (spS p a.2.1 rest o)) ∧ opos (spS p a.2.1 rest o) := by
  intro rest
  induction rest with
  | nil =>
    intro dn fu o hf he ho
    obtain ⟨fu, rfl⟩ : ∃ f, fu = f + 1 := ⟨fu - 1, by simp at hf; omega⟩
    have h40 := h.1.2.1
    rw [List.append_nil] at he
    rw [X0_weeksUntilNextSpoils_l4, q_num2, Option.bind_some, h.1.1, he, if_pos (by rw [he] at h40; rw [q_le (by omega) (by omega)]; exact Nat.le_refl _)]
    exact ⟨rfl, ho⟩
  | cons l rest ih =>
    intro dn fu o hf he ho
    obtain ⟨fu, rfl⟩ : ∃ f, fu = f + 1 := ⟨fu - 1, by simp at hf; omega⟩
    have h40 := h.1.2.1
    have hln : a.1.length = dn.length + (rest.length + 1) := by rw [he, List.length_append, List.length_cons]
    have eL : lotC v dn.length = l := (lotsF_at (g' := lotC v) (dn := dn) (rest := rest) (by rw [← he]; exact h.1.2.2) (fun _ _ => rfl)).1
    have hok : okL P l := hl l (by rw [he]; exact List.mem_append_right _ List.mem_cons_self)
    have he' : a.1 = (dn ++ [l]) ++ rest := by rw [he, List.append_assoc]; rfl
    have hcmp : ¬ nI (dn.length + (rest.length + 1)) ≤ nI dn.length := by rw [q_le (by omega) (by omega)]; omega
    have go := fun (o' : Option Int32) (ho' : opos o') => ih (dn ++ [l]) fu o' (by simp at hf; omega) he' ho'
    simp only [List.length_append, List.length_singleton, ← q_1] at go
    rw [X0_weeksUntilNextSpoils_l4, q_num2, Option.bind_some, h.1.1, hln, if_neg hcmp, q_isLot v _ _ _ (by omega), Option.bind_some, eL, ifb, c_weeksLeft h he hok, Option.bind_some]
    unfold spS
    have tp := tW_pos a.2.1 l
    have et : (if 1 < a.2.1 (20 + ix l.2.2.1) - l.2.2.2.2.1 then a.2.1 (20 + ix l.2.2.1) - l.2.2.2.2.1 else (1 : Int32)) = tW a.2.1 l := rfl
    rw [et]
    cases hmt : mt p (-1) (-1) l with
    | false =>
      simp only [cond_false, Bool.false_eq_true, if_false]
      exact go o ho
    | true =>
      simp only [cond_true, if_true]
      cases o with
      | none =>
        rw [if_pos (show oN 0 none = (0 : Int32) from rfl)]
        exact go (some (tW a.2.1 l)) (fun x hx => by cases hx; exact tp)
      | some x =>
        have hx : 0 < x := ho x rfl
        have hx0 : ¬ x = 0 := fun e => by subst e; exact absurd hx (by decide)
        rw [if_neg (show ¬ oN 0 (some x) = (0 : Int32) from hx0)]
        exact go (some (if tW a.2.1 l < x then tW a.2.1 l else x)) (fun y hy => by
          cases hy
          split
          · exact tp
          · exact hx)
theorem m_sp_l {v : St} {a : AS} (h : RM (v 1) a) {P : Nat} (hl : ∀ l ∈ a.1, okL P l) {d : Nat} (hd : d < 2 ^ 31) : ∀ (rest dn : List Lot) (fu : Nat) (o : Option Int32), rest.length < fu → a.1 = dn ++ rest → opos o →
    X5_spoilsIn_l16 v (nI d) fu (oN (-1000004) o) (nI dn.length) = some (oN (-1000004) (spS (nI d) a.2.1 rest o)) := by
  intro rest
  induction rest with
  | nil =>
    intro dn fu o hf he ho
    obtain ⟨fu, rfl⟩ : ∃ f, fu = f + 1 := ⟨fu - 1, by simp at hf; omega⟩
    have h40 := h.1.2.1
    rw [List.append_nil] at he
    rw [X5_spoilsIn_l16, m290, Option.bind_some, h.1.1, he, if_pos (by rw [he] at h40; rw [q_le (by omega) (by omega)]; exact Nat.le_refl _)]
    rfl
  | cons l rest ih =>
    intro dn fu o hf he ho
    obtain ⟨fu, rfl⟩ : ∃ f, fu = f + 1 := ⟨fu - 1, by simp at hf; omega⟩
    have h40 := h.1.2.1
    have hln : a.1.length = dn.length + (rest.length + 1) := by rw [he, List.length_append, List.length_cons]
    have eL : lotM (v 1) dn.length = l := lotM_at (rest := rest) (by rw [← he]; exact h.1)
    have hok : okL P l := hl l (by rw [he]; exact List.mem_append_right _ List.mem_cons_self)
    have he' : a.1 = (dn ++ [l]) ++ rest := by rw [he, List.append_assoc]; rfl
    have hcmp : ¬ nI (dn.length + (rest.length + 1)) ≤ nI dn.length := by rw [q_le (by omega) (by omega)]; omega
    have go := fun (o' : Option Int32) (ho' : opos o') => ih (dn ++ [l]) fu o' (by simp at hf; omega) he' ho'
    simp only [List.length_append, List.length_singleton, ← q_1] at go
    have tp := tW_pos a.2.1 l
    obtain ⟨d0, c0, k, n, ag, p, e, h1, h2, h3, h4, h5, h6, h7, h8⟩ := hok
    have k2 : v 1 (6 * dn.length + 2) = nI k := by
      have : (lotM (v 1) dn.length).2.2.1 = nI k := by rw [eL, e]
      exact this
    have k4 : v 1 (6 * dn.length + 4) = l.2.2.2.2.1 := by
      have : (lotM (v 1) dn.length).2.2.2.2.1 = l.2.2.2.2.1 := by rw [eL]
      exact this
    have k0 : v 1 (6 * dn.length + 0) = l.1 := by
      have : (lotM (v 1) dn.length).1 = l.1 := by rw [eL]
      exact this
    have e298 : (298 : Int32) + nI k = nI (298 + k) := nI_add 298 k
    have n20 : v 1 (298 + k) = a.2.1 (20 + ix l.2.2.1) := by
      have := h.2.1 (20 + k) (by unfold mset; omega)
      have em : mapN (20 + k) = 298 + k := by unfold mapN; rw [if_neg (by omega), if_neg (by omega)]; omega
      rw [em] at this
      rw [this, e]
      show _ = a.2.1 (20 + ix (nI k))
      rw [ix_nI (by omega)]
    have b64 : ∀ t0, t0 = tW a.2.1 l → X5_spoilsIn_b64 v (nI d) (X5_spoilsIn_l16 v (nI d) fu) (oN (-1000004) o) (nI dn.length) t0 = some (oN (-1000004) (spS (nI d) a.2.1 (l :: rest) o)) := by
      rintro t0 rfl
      rw [X5_spoilsIn_b64, q_of0 v (by omega), Option.bind_some, k0]
      unfold spS
      have em := mt_d (nI_m1 hd) l
      by_cases c : l.1 = nI d
      · have em' : mt (nI d) (-1) (-1) l = true := by rw [em]; exact decide_eq_true c
        rw [if_pos c, if_pos em']
        cases o with
        | none =>
          rw [if_pos (show oN (-1000004) none < 0 by decide)]
          exact go (some (tW a.2.1 l)) (fun x hx => by cases hx; exact tp)
        | some x =>
          have hx : 0 < x := ho x rfl
          rw [if_neg (show ¬ oN (-1000004) (some x) < 0 from fun z => absurd (Int32.lt_trans hx z) (by decide : ¬ (0 : Int32) < 0))]
          have g := go (some (if tW a.2.1 l < x then tW a.2.1 l else x)) (fun y hy => by
            cases hy
            split
            · exact tp
            · exact hx)
          dsimp only
          by_cases c2 : tW a.2.1 l < x
          · rw [if_pos c2] at g ⊢
            rw [if_neg (show ¬ oN (-1000004) (some x) ≤ tW a.2.1 l from Int32.not_le.mpr c2)]
            exact g
          · rw [if_neg c2] at g ⊢
            rw [if_pos (show oN (-1000004) (some x) ≤ tW a.2.1 l from Int32.not_lt.mp c2)]
            exact g
      · have em' : mt (nI d) (-1) (-1) l = false := by rw [em]; exact decide_eq_false c
        rw [if_neg c, if_neg (by rw [em']; decide)]
        exact go o ho
    rw [X5_spoilsIn_l16, m290, Option.bind_some, h.1.1, hln, if_neg hcmp, q_of2 v (by omega), Option.bind_some, k2, e298, q_ld (by omega) (by decide), Option.bind_some, q_of4 v (by omega), Option.bind_some, k4, n20]
    have eM := tW_M (a.2.1 (20 + ix l.2.2.1) - l.2.2.2.2.1)
    by_cases c : 1 ≤ a.2.1 (20 + ix l.2.2.1) - l.2.2.2.2.1
    · rw [if_pos c] at eM ⊢
      exact b64 _ eM
    · rw [if_neg c] at eM ⊢
      exact b64 _ eM
theorem f_spoilsIn {vB vM : St} {a : AS} (h : RC vB a) (hm : RM (vM 1) a) (ho : OK a) (vT vH : St) (bH : Nat → St) (vR vO : St) (p1 : Int32) : ∃ ans, X4_spoilsIn vB vT vH bH vR vO p1 = some ans ∧ X5_spoilsIn vM p1 = some ans := by
  rw [X4_spoilsIn, q_isPupil h, Option.bind_some, ifb, X5_spoilsIn, q_isPupilM hm ho, Option.bind_some, ifb]
  cases h1 : kP a p1 with
  | false => exact ⟨_, rfl, rfl⟩
  | true =>
    obtain ⟨d, rfl, hd⟩ := kP_d ho h1
    obtain ⟨h40, P, h8, hP, hl, _⟩ := ho
    simp only [cond_true]
    have e1 := c_sp_l h hl (nI d) a.1 [] FU none (by show _ < 2000; omega) rfl (fun x hx => by cases hx)
    have e2 := m_sp_l hm hl (d := d) (by omega) a.1 [] FU none (by show _ < 2000; omega) rfl (fun x hx => by cases hx)
    have e1' : X0_weeksUntilNextSpoils_l4 vB (nI d) FU (0 : Int32) (0 : Int32) = _ := e1.1
    have e2' : X5_spoilsIn_l16 vM (nI d) FU (-1000004 : Int32) (0 : Int32) = _ := e2
    rw [X0_weeksUntilNextSpoils, e1', e2', Option.bind_some]
    cases ho' : spS (nI d) a.2.1 a.1 none with
    | none => rw [if_pos (show oN 0 none ≤ (0 : Int32) by decide)]; exact ⟨_, rfl, rfl⟩
    | some x =>
      have hx := e1.2 x ho'
      rw [if_neg (show ¬ oN 0 (some x) ≤ (0 : Int32) from Int32.not_le.mpr hx)]
      exact ⟨_, rfl, rfl⟩
/- richest -/
theorem sub_toInt {s t : Nat} (hs : s ≤ 1000) (ht : t ≤ 1000) : (nI s - nI t).toInt = (s : Int) - t := by
  rw [Int32.toInt_sub, nI_toInt (by omega), nI_toInt (by omega)]
  exact Int.bmod_eq_of_le (by omega) (by omega)
theorem bal_bd {a : AS} (ho : OK a) (d : Nat) : -360 ≤ (balS a d).toInt ∧ (balS a d).toInt ≤ 360 := by
  unfold balS
  obtain ⟨e1, b1⟩ := sumS_n ho (mt (-1) (nI d) (-1))
  obtain ⟨e2, b2⟩ := sumS_n ho (mt (nI d) (-1) (-1))
  rw [e1, e2, sub_toInt (by omega) (by omega)]
  omega
theorem diff_toInt {x y : Int32} (hx : -360 ≤ x.toInt ∧ x.toInt ≤ 360) (hy : -360 ≤ y.toInt ∧ y.toInt ≤ 360) : (x - y).toInt = x.toInt - y.toInt := by
  rw [Int32.toInt_sub]
  exact Int.bmod_eq_of_le (by omega) (by omega)
def rkS (a : AS) (x : Nat) : Nat → Nat → Int32 → Int32
  | 0, _, acc => acc
  | n + 1, y, acc => rkS a x n (y + 1) (if balS a x < balS a y then acc + 1 else if balS a y = balS a x then (if x ≤ y then acc else acc + 1) else acc)
theorem c_rank_l {vB : St} {a : AS} (h : RC vB a) {P x : Nat} (h8 : P ≤ 8) (hP : a.2.1 1 = nI P) (hx : x < 8) : ∀ (n fu y : Nat) (acc : Int32), n < fu → y + n = P → X0_rankOf_l11 vB (nI x) fu (balS a x) acc (nI y) = some (rkS a x n y acc) := by
  intro n
  induction n with
  | zero =>
    intro fu y acc hf hy
    obtain ⟨fu, rfl⟩ : ∃ f, fu = f + 1 := ⟨fu - 1, by omega⟩
    rw [X0_rankOf_l11, q_num1, Option.bind_some, h.2.1 1 (by decide) (by decide), hP, if_pos (by rw [q_le (by omega) (by omega)]; omega)]; rfl
  | succ n ih =>
    intro fu y acc hf hy
    obtain ⟨fu, rfl⟩ : ∃ f, fu = f + 1 := ⟨fu - 1, by omega⟩
    have go := fun acc => ih fu (y + 1) acc (by omega) (by omega)
    have hc : (nI x ≤ nI y) = (x ≤ y) := q_le (by omega) (by omega)
    rw [X0_rankOf_l11, q_num1, Option.bind_some, h.2.1 1 (by decide) (by decide), hP, if_neg (by rw [q_le (by omega) (by omega)]; omega), c_bal h, Option.bind_some, q_1, go, go]
    rw [rkS]
    by_cases c1 : balS a x < balS a y
    · rw [if_pos c1, if_pos c1]
    · rw [if_neg c1, if_neg c1]
      by_cases c2 : balS a y = balS a x
      · rw [if_pos c2, if_pos c2]
        by_cases c3 : x ≤ y
        · rw [if_pos (hc.mpr c3), if_pos c3]
        · rw [if_neg (fun e => c3 (hc.mp e)), if_neg c3]
      · rw [if_neg c2, if_neg c2]
theorem m_rank_l {vM : St} {a : AS} (h : RM (vM 1) a) (ho : OK a) (p1 : Int32) (k9 : Int32 → Option Int32) {P x : Nat} (h8 : P ≤ 8) (hP : a.2.1 1 = nI P) (hx : x < 8) : ∀ (n fu y : Nat) (acc : Int32), n < fu → y + n = P → X5_richest_l26 vM p1 k9 fu (nI x) acc (nI y) = X5_richest_b83 vM p1 k9 (nI x) (rkS a x n y acc) := by
  intro n
  induction n with
  | zero =>
    intro fu y acc hf hy
    obtain ⟨fu, rfl⟩ : ∃ f, fu = f + 1 := ⟨fu - 1, by omega⟩
    rw [X5_richest_l26, m289, Option.bind_some, h.pup, hP, if_pos (by rw [q_le (by omega) (by omega)]; omega)]; rfl
  | succ n ih =>
    intro fu y acc hf hy
    obtain ⟨fu, rfl⟩ : ∃ f, fu = f + 1 := ⟨fu - 1, by omega⟩
    have go := fun acc => ih fu (y + 1) acc (by omega) (by omega)
    have hc : (nI x ≤ nI y) = (x ≤ y) := q_le (by omega) (by omega)
    have bx := bal_bd ho x
    have bY := bal_bd ho y
    have hd := diff_toInt bY bx
    rw [X5_richest_l26, m289, Option.bind_some, h.pup, hP, if_neg (by rw [q_le (by omega) (by omega)]; omega), m_bal h (by omega), Option.bind_some, m_bal h (by omega), Option.bind_some, X5_richest_b70, q_1, q_0, go, go]
    rw [rkS]
    have e1 : (0 < balS a y - balS a x) = (balS a x < balS a y) := by
      rw [lt_i, lt_i, hd, Int32.toInt_zero]; exact propext (by omega)
    have e2 : (balS a y - balS a x = 0) = (balS a y = balS a x) := by
      refine propext ⟨fun e => ?_, fun e => ?_⟩
      · apply Int32.toInt_inj.mp
        have := congrArg Int32.toInt e
        rw [hd, Int32.toInt_zero] at this
        omega
      · apply Int32.toInt_inj.mp
        rw [hd, e, Int32.toInt_zero]; omega
    by_cases c1 : balS a x < balS a y
    · rw [if_pos (e1.mpr c1), if_pos c1]
    · rw [if_neg (fun e => c1 (e1.mp e)), if_neg c1]
      by_cases c2 : balS a y = balS a x
      · rw [if_pos (e2.mpr c2), if_pos c2]
        by_cases c3 : x ≤ y
        · rw [if_pos (hc.mpr c3), if_pos c3]
        · rw [if_neg (fun e => c3 (hc.mp e)), if_neg c3]
      · rw [if_neg (fun e => c2 (e2.mp e)), if_neg c2]
theorem f_rich_l {vB vM : St} {a : AS} (h : RC vB a) (hm : RM (vM 1) a) (ho : OK a) (vT vH : St) (bH : Nat → St) (vR vO : St) (p1 : Int32) {P : Nat} (h8 : P ≤ 8) (hP : a.2.1 1 = nI P) : ∀ (n fu x : Nat), n < fu → x + n = P →
    ∃ ans, X4_richest_l9 vB vT vH bH vR vO p1 fu (nI x) = some ans ∧ X5_richest_l9 vM p1 fu (nI x) = some ans := by
  intro n
  induction n with
  | zero =>
    intro fu x hf hx
    obtain ⟨fu, rfl⟩ : ∃ f, fu = f + 1 := ⟨fu - 1, by omega⟩
    rw [X4_richest_l9, q_num1, Option.bind_some, h.2.1 1 (by decide) (by decide), X5_richest_l9, m289, Option.bind_some, hm.pup, hP, if_pos (by rw [q_le (by omega) (by omega)]; omega), if_pos (by rw [q_le (by omega) (by omega)]; omega)]
    exact ⟨_, rfl, rfl⟩
  | succ n ih =>
    intro fu x hf hx
    obtain ⟨fu, rfl⟩ : ∃ f, fu = f + 1 := ⟨fu - 1, by omega⟩
    have er : X0_rankOf vB (nI x) = some (rkS a x P 0 0) := by
      rw [X0_rankOf, c_bal h, Option.bind_some]
      exact c_rank_l h h8 hP (by omega) P FU 0 0 (by show _ < 2000; omega) (by omega)
    have em : X5_richest_l26 vM p1 (X5_richest_l9 vM p1 fu) FU (nI x) (0 : Int32) (0 : Int32) = _ := m_rank_l hm ho p1 (X5_richest_l9 vM p1 fu) h8 hP (x := x) (by omega) P FU 0 0 (by show _ < 2000; omega) (by omega)
    rw [X4_richest_l9, q_num1, Option.bind_some, h.2.1 1 (by decide) (by decide), X5_richest_l9, m289, Option.bind_some, hm.pup, hP, if_neg (by rw [q_le (by omega) (by omega)]; omega), if_neg (by rw [q_le (by omega) (by omega)]; omega), er, Option.bind_some, em, X5_richest_b83]
    by_cases c : rkS a x P 0 0 = p1
    · rw [if_pos c, if_pos c]; exact ⟨_, rfl, rfl⟩
    · rw [if_neg c, if_neg c, q_1]
      exact ih fu (x + 1) (by omega) (by omega)
theorem f_richest {vB vM : St} {a : AS} (h : RC vB a) (hm : RM (vM 1) a) (ho : OK a) (vT vH : St) (bH : Nat → St) (vR vO : St) (p1 : Int32) : ∃ ans, X4_richest vB vT vH bH vR vO p1 = some ans ∧ X5_richest vM p1 = some ans := by
  rw [X4_richest, X5_richest]
  by_cases c : 0 ≤ p1
  · rw [if_pos c, if_pos c]
    have ho' := ho
    obtain ⟨_, P, h8, hP, _⟩ := ho
    exact f_rich_l h hm ho' vT vH bH vR vO p1 h8 hP P FU 0 (by show _ < 2000; omega) (by omega)
  · rw [if_neg c, if_neg c]; exact ⟨_, rfl, rfl⟩

/-! PURE: lending. -/
theorem ifb {α : Type} (b : Bool) (A B : α) : (if (if b = true then (1 : Int32) else 0) = (0 : Int32) then A else B) = (bif b then B else A) := by cases b <;> rfl
def barS (a : AS) (d : Nat) (m : Int32) : Int32 := if sumS (mt (nI d) (-1) (-1)) 0 a.1 + m ≤ a.2.1 24 then (if a.2.2 4 d < a.2.1 25 then 0 else if a.2.2 5 d = 0 then 2 else 0) else 1
def ix (x : Int32) : Nat := x.toNatClampNeg
theorem ix_nI {k : Nat} (h : k < 2 ^ 31) : ix (nI k) = k := nI_clamp h
theorem q_guar {v : St} {a : AS} (h : RC v a) {d : Nat} (hd : d < 8) : X0_guarantorOf v (nI d) = some (a.2.2 5 d - 1) := by
  rw [X0_guarantorOf, if_neg (nI_pos (by omega)), if_neg (show ¬ ((8 : Int32) ≤ nI d) from nI_ge (a := d) (b := 8) hd (by decide)), q_ld hd (by decide), Option.bind_some, h.2.2 5 d (by decide) (by decide) hd]
theorem q_reason {v : St} {a : AS} (h : RC v a) (ho : OK a) {d : Nat} (hd : d < 8) (m : Int32) : X0_reasonAgainst v (nI d) m = some (barS a d m) := by
  obtain ⟨_, P, h8, _, _, hg, _⟩ := ho
  obtain ⟨g, e1, e2, e3⟩ := hg d hd
  rw [X0_reasonAgainst, q_sumOwed h.1, Option.bind_some, q_num24, Option.bind_some, h.2.1 24 (by decide) (by decide), q_at hd (by decide), Option.bind_some, q_num25, Option.bind_some, h.2.1 25 (by decide) (by decide), h.2.2 4 d (by decide) (by decide) hd]
  unfold barS
  by_cases c1 : sumS (mt (nI d) (-1) (-1)) 0 a.1 + m ≤ a.2.1 24
  · rw [if_pos c1, if_pos c1]
    by_cases c2 : a.2.2 4 d < a.2.1 25
    · rw [if_pos c2, if_pos c2]; rfl
    · rw [if_neg c2, if_neg c2, X0_reasonAgainst_b42, if_neg (by decide), q_guar h hd, Option.bind_some, e1]
      cases g with
      | zero => rfl
      | succ g =>
        rw [nI_pred, if_pos (show (0 : Int32) ≤ nI g from nI_le (a := 0) (b := g) (by omega) (by omega)), if_neg (nI_ne0 (by omega) (by omega))]
  · rw [if_neg c1, if_neg c1]
def lendS (a : AS) (p1 p2 p3 p4 : Int32) : Int32 × AS :=
  bif kPr a p1 p2 then (bif kIn p3 0 3 then (bif kIn p4 1 9 then
    (if barS a (ix p1) p4 = 0 then (if a.1.length < 40 then
      (sumS (mt p1 p2 p3) 0 (a.1 ++ [(p1, p2, p3, p4, 0, 0)]), (a.1 ++ [(p1, p2, p3, p4, 0, 0)], upd a.2.1 4 (a.2.1 4 + p4), updP (updP a.2.2 2 (ix p1) (a.2.2 2 (ix p1) + -p4)) 2 (ix p2) (updP a.2.2 2 (ix p1) (a.2.2 2 (ix p1) + -p4) 2 (ix p2) + p4)))
      else (-1000003, a)) else (-1000002, a)) else (-1000001, a)) else (-1000001, a)) else (-1000001, a)
theorem kPr_nat {a : AS} {x y : Int32} (ho : OK a) (h : kPr a x y = true) : ∃ d c P : Nat, x = nI d ∧ y = nI c ∧ d < P ∧ c < P ∧ d ≠ c ∧ P ≤ 8 ∧ a.2.1 1 = nI P := by
  obtain ⟨_, P, h8, hP, _⟩ := ho
  unfold kPr at h
  rw [Bool.and_eq_true, Bool.and_eq_true] at h
  obtain ⟨d, rfl, h1⟩ := kP_nat h.1.1 hP h8
  obtain ⟨c, rfl, h2⟩ := kP_nat h.1.2 hP h8
  have h3 := of_decide_eq_true h.2
  exact ⟨d, c, P, rfl, rfl, h1, h2, fun e => h3 (by rw [e]), h8, hP⟩
theorem c_lendS {v : St} {a : AS} (h : RC v a) (ho : OK a) (p1 p2 p3 p4 : Int32) : ∃ v', X0_lendFavours v p1 p2 p3 p4 = some ((lendS a p1 p2 p3 p4).1, v') ∧ RC v' (lendS a p1 p2 p3 p4).2 := by
  rw [X0_lendFavours, q_isPair h, Option.bind_some, q_isKind, Option.bind_some, q_isMany, Option.bind_some, ifb, ifb, ifb]
  unfold lendS
  cases h1 : kPr a p1 p2 with
  | false => exact ⟨v, rfl, h⟩
  | true =>
  cases h2 : kIn p3 0 3 with
  | false => exact ⟨v, rfl, h⟩
  | true =>
  cases h3 : kIn p4 1 9 with
  | false => exact ⟨v, rfl, h⟩
  | true =>
  obtain ⟨d, c, P, rfl, rfl, hd, hc, hdc, h8, hP⟩ := kPr_nat ho h1
  simp only [cond_true]
  rw [ix_nI (by omega), ix_nI (by omega), q_reason h ho (by omega), Option.bind_some]
  by_cases c1 : barS a d p4 = 0
  · rw [if_pos c1, if_pos c1, q_num2, Option.bind_some, h.1.1]
    by_cases c2 : a.1.length < 40
    · rw [if_pos (show nI a.1.length < (40 : Int32) from nI_lt (a := a.1.length) (b := 40) c2 (by decide)), if_pos c2]
      obtain ⟨u, e, l, f⟩ := q_addLot h.1 c2 (nI d) (nI c) p3 p4
      have r0 : RC u (a.1 ++ [(nI d, nI c, p3, p4, 0, 0)], a.2.1, a.2.2) := h.lots l f
      have hu2 : u 2 d = a.2.2 2 d := r0.2.2 2 d (by decide) (by decide) (by omega)
      have r1 := r0.row (r := 2) (p := d) (a.2.2 2 d + -p4) (by decide) (by decide) (by omega)
      have r2 := r1.row (r := 2) (p := c) (updP a.2.2 2 d (a.2.2 2 d + -p4) 2 c + p4) (by decide) (by decide) (by omega)
      rw [setA_setA, q_sA] at r2
      have r3 := r2.num (i := 4) (a.2.1 4 + p4) (by decide)
      rw [q_sN u _ (by decide)] at r3
      have hu4 : u 1 4 = a.2.1 4 := r0.2.1 4 (by decide) (by decide)
      have huc : upd (u 2) d (a.2.2 2 d + -p4) c = updP a.2.2 2 d (a.2.2 2 d + -p4) 2 c := by
        rw [q_un (Ne.symm hdc), updP_n (by omega)]
        exact r0.2.2 2 c (by decide) (by decide) (by omega)
      refine ⟨_, ?_, r3⟩
      rw [e, Option.bind_some, q_add (by omega) (by decide), Option.bind_some, q_add (by omega) (by decide), Option.bind_some, show (4 : Int32) = nI 4 from rfl, q_add (by decide) (by decide), Option.bind_some, hu2, hu4, huc, q_sumOwed r3.1, Option.bind_some]
    · rw [if_neg (show ¬ nI a.1.length < (40 : Int32) from nI_nlt (a := a.1.length) (b := 40) (by omega) (by have := h.1.2.1; omega)), if_neg c2]
      exact ⟨v, rfl, h⟩
  · rw [if_neg c1, if_neg c1]
    exact ⟨v, rfl, h⟩
/-! the reference -/
theorem nI_240 (p : Nat) {r : Nat} : nI (240 + 6 * p + r) = nI (240 + 6 * p + r) := rfl
theorem q_barM {v : St} {a : AS} (h : RM (v 1) a) {d : Nat} (hd : d < 8) (m : Int32) : X5_barred v (nI d) m = some (barS a d m) := by
  have e24 : v 1 302 = a.2.1 24 := h.2.1 24 (by unfold mset; omega)
  have e25 : v 1 303 = a.2.1 25 := h.2.1 25 (by unfold mset; omega)
  have e4 : v 1 (240 + 6 * d + 1) = a.2.2 4 d := h.2.2 4 d (by decide) (by decide) hd
  have e5 : v 1 (240 + 6 * d + 2) = a.2.2 5 d := h.2.2 5 d (by decide) (by decide) hd
  rw [X5_barred, q_sumM0 h.1 (by omega), Option.bind_some, m302, Option.bind_some, q_atM1, Option.bind_some, q_ld (by omega) (by decide), Option.bind_some, m303, Option.bind_some, q_atM2, Option.bind_some, q_ld (by omega) (by decide), Option.bind_some, e24, e25, e4, e5]
  unfold barS
  split
  · split
    · rfl
    · split <;> rfl
  · rfl
/-- a pair of balances shifted -/
theorem q_shifts {v : St} {ls : List Lot} {nu : Nat → Int32} {pu : Nat → Nat → Int32} (h : RM (v 1) (ls, nu, pu)) {x y : Nat} (hx : x < 8) (hy : y < 8) (m : Int32) :
    ∃ v', X5_shifts v (nI x) (nI y) m = some v' ∧ RM (v' 1) (ls, nu, updP (updP pu 2 x (pu 2 x + m)) 2 y (updP pu 2 x (pu 2 x + m) 2 y - m)) ∧ ∀ r, r ≠ 1 → v' r = v r := by
  have ex : v 1 (240 + 6 * x + 5) = pu 2 x := h.2.2 2 x (by decide) (by decide) hx
  have r1 : RM (upd (v 1) (240 + 6 * x + 5) (pu 2 x + m)) (ls, nu, updP pu 2 x (pu 2 x + m)) := h.row (r := 2) (p := x) _ (by decide) (by decide) hx
  have ey : upd (v 1) (240 + 6 * x + 5) (pu 2 x + m) (240 + 6 * y + 5) = updP pu 2 x (pu 2 x + m) 2 y := r1.2.2 2 y (by decide) (by decide) hy
  have r2 : RM (upd (upd (v 1) (240 + 6 * x + 5) (pu 2 x + m)) (240 + 6 * y + 5) (updP pu 2 x (pu 2 x + m) 2 y - m)) _ := r1.row (r := 2) (p := y) (updP pu 2 x (pu 2 x + m) 2 y - m) (by decide) (by decide) hy
  refine ⟨setA v 1 (upd (upd (v 1) (240 + 6 * x + 5) (pu 2 x + m)) (240 + 6 * y + 5) (updP pu 2 x (pu 2 x + m) 2 y - m)), ?_, by rw [q_sA]; exact r2, fun r hr => q_sN v _ hr⟩
  · rw [X5_shifts, q_atM5, Option.bind_some, q_ld (by omega) (by decide), Option.bind_some, q_st (by omega) (by decide), Option.bind_some, q_atM5, Option.bind_some, q_ld (by omega) (by decide), Option.bind_some, q_st (by omega) (by decide), Option.bind_some, ex, ey]
theorem updP_comm {pu : Nat → Nat → Int32} {r p r' p' : Nat} {x y : Int32} (h : ¬ (r = r' ∧ p = p')) : updP (updP pu r p x) r' p' y = updP (updP pu r' p' y) r p x := by
  funext q t
  unfold updP
  by_cases h1 : q = r' ∧ t = p'
  · rw [if_pos h1, if_neg (by omega), if_pos h1]
  · rw [if_neg h1]
    by_cases h2 : q = r ∧ t = p
    · rw [if_pos h2, if_pos h2]
    · rw [if_neg h2, if_neg h2, if_neg h1]
/-- what a change of the reference leaves behind its record -/
def SameM (v v' : St) : Prop := ∀ r, r ≠ 1 → r ≠ 9 → r ≠ 10 → r ≠ 11 → v' r = v r
theorem LM.snoc {s : Nat → Int32} {ls : List Lot} (h : LM s ls) (hl : ls.length < 40) (d c k m : Int32) :
    LM (upd (upd (upd (upd (upd (upd (upd s 290 (nI (ls.length + 1))) (6 * ls.length + 0) d) (6 * ls.length + 1) c) (6 * ls.length + 2) k) (6 * ls.length + 3) m) (6 * ls.length + 4) 0) (6 * ls.length + 5) 0) (ls ++ [(d, c, k, m, 0, 0)]) := by
  obtain ⟨h1, h2, h3⟩ := h
  refine ⟨by rw [q_un (by omega), q_un (by omega), q_un (by omega), q_un (by omega), q_un (by omega), q_un (by omega), q_up]; simp, by simp; omega, ?_⟩
  rw [List.length_append, show [(d, c, k, m, (0 : Int32), (0 : Int32))].length = 1 from rfl, lotsF_snoc, Nat.zero_add]
  congr 1
  · rw [lotsF_cong (h := lotM s) _ _ (fun j _ hj => by
      rw [lotM_upd _ _ (by omega), lotM_upd _ _ (by omega), lotM_upd _ _ (by omega), lotM_upd _ _ (by omega), lotM_upd _ _ (by omega), lotM_upd _ _ (by omega), lotM_upd _ _ (by omega)])]
    exact h3
  · simp only [lotM]
    simp [upd]

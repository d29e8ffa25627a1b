/-! PURE: changes of the reference: what they record; its lending. -/
def Chg (v w : St) (hist : List AS) (a : AS) : Prop := (v 99 5 = 0 → HM w (pushH hist a) ∧ ∀ i, i ≠ 4 → w 99 i = v 99 i) ∧ (¬ v 99 5 = 0 → w 2 = v 2 ∧ w 99 = v 99) ∧ (∀ r, r ≠ 1 → r ≠ 2 → r ≠ 9 → r ≠ 10 → r ≠ 11 → r ≠ 99 → w r = v r)
theorem HM.eq {v w : St} {hist : List AS} (h : HM v hist) (h1 : w 99 4 = v 99 4) (h2 : w 2 = v 2) : HM w hist := ⟨by rw [h1]; exact h.1, h.2.1, fun i a e => by rw [h2]; exact h.2.2 i a e⟩
theorem Chg.after {v w w' : St} {hist : List AS} {a : AS} (h : Chg v w hist a) (s : SameM w w') : Chg v w' hist a := by
  obtain ⟨h1, h2, h3⟩ := h
  have e2 := s 2 (by decide) (by decide) (by decide) (by decide)
  have e9 := s 99 (by decide) (by decide) (by decide) (by decide)
  refine ⟨fun z => ⟨(h1 z).1.eq (by rw [e9]) e2, fun i hi => by rw [e9]; exact (h1 z).2 i hi⟩, fun z => by rw [e2, e9]; exact h2 z, fun r a1 a2 a3 a4 a5 a6 => ?_⟩
  rw [s r a1 a3 a4 a5]
  exact h3 r a1 a2 a3 a4 a5 a6
theorem SameM.tr {u v w : St} (h : SameM u v) (k : SameM v w) : SameM u w := fun r a b c d => (k r a b c d).trans (h r a b c d)
theorem SameM.of1 {v v' : St} (h : ∀ r, r ≠ 1 → v' r = v r) : SameM v v' := fun r a _ _ _ => h r a
theorem q_chg {v : St} {hist : List AS} {a : AS} (hm : RM (v 1) a) (hh : v 99 5 = 0 → HM v hist) : ∃ w, X5_changes v = some w ∧ w 1 = v 1 ∧ Chg v w hist a := by
  by_cases hr : v 99 5 = 0
  · obtain ⟨w, e, a1, a2, a3⟩ := q_changes hr (hh hr) hm
    exact ⟨w, e, a3 1 (by decide) (by decide), fun _ => ⟨a1, a2⟩, fun z => absurd hr z, fun r _ b _ _ _ c => a3 r b c⟩
  · exact ⟨v, q_changes1 hr, rfl, fun z => absurd z hr, fun _ => ⟨rfl, rfl⟩, fun _ _ _ _ _ _ _ => rfl⟩
theorem barS_le (a : AS) (d : Nat) (m : Int32) : (barS a d m ≤ 0) ↔ barS a d m = 0 := by
  unfold barS
  split
  · split
    · decide
    · split <;> decide
  · decide
theorem mt_E2 {d c : Nat} {p3 : Int32} (hd : d < 2 ^ 31) (hc : c < 2 ^ 31) (h3 : kIn p3 0 3 = true) : mtE (nI d) (nI c) p3 = mt (nI d) (nI c) p3 := by
  obtain ⟨k, rfl, _, hk⟩ := kIn_nat h3 (by decide)
  exact (mt_E (nI_m1 hd) (nI_m1 hc) (nI_m1 (by omega))).symm
/-- how a change of the reference answers -/
def MOp (v : St) (a : AS) (hist : List AS) (r : Option (Int32 × St)) (sp : Int32 × AS) : Prop := ∃ v', r = some (sp.1, v') ∧ RM (v' 1) sp.2 ∧ (sp.1 < 0 → v' = v ∧ sp.2 = a) ∧ (¬ sp.1 < 0 → Chg v v' hist a)
theorem MOp.err {v : St} {a : AS} {hist : List AS} (h : RM (v 1) a) {c : Int32} (hc : c < 0) : MOp v a hist (some (c, v)) (c, a) := ⟨v, rfl, h, fun _ => ⟨rfl, rfl⟩, fun z => absurd hc z⟩
theorem sum_pos {P : Lot → Bool} {ls : List Lot} (h : okN ls) (hl : ls.length ≤ 1000) : ¬ sumS P 0 ls < 0 := by
  rw [show (0 : Int32) = nI 0 from rfl, sumS_nat 0 h]
  exact nI_pos (by have := sumN_le (P := P) h; omega)
theorem okN_app {l1 l2 : List Lot} (h1 : okN l1) (h2 : okN l2) : okN (l1 ++ l2) := fun l hl => (List.mem_append.mp hl).elim (h1 l) (h2 l)
theorem m_lendS {v : St} {a : AS} {hist : List AS} (h : RM (v 1) a) (ho : OK a) (hh : v 99 5 = 0 → HM v hist) (p1 p2 p3 p4 : Int32) : MOp v a hist (X5_lend v p1 p2 p3 p4) (lendS a p1 p2 p3 p4) := by
  rw [X5_lend, q_isPairM h ho, Option.bind_some, q_isKindM, Option.bind_some, q_inM, Option.bind_some, ifb, ifb, ifb]
  unfold lendS
  cases h1 : kPr a p1 p2 with
  | false => exact MOp.err h (by decide)
  | true =>
  cases h2 : kIn p3 0 3 with
  | false => exact MOp.err h (by decide)
  | true =>
  have e19 : kIn p4 (1 : Int32).toInt (9 : Int32).toInt = kIn p4 1 9 := rfl
  rw [e19]
  cases h3 : kIn p4 1 9 with
  | false => exact MOp.err h (by decide)
  | true =>
  obtain ⟨d, c, P, rfl, rfl, hd, hc, hdc, h8, hP⟩ := kPr_nat ho h1
  obtain ⟨n, rfl, hn1, hn9⟩ := kIn_nat h3 (by decide)
  simp only [cond_true]
  rw [ix_nI (by omega), ix_nI (by omega), q_barM h (by omega), Option.bind_some]
  by_cases c1 : barS a d (nI n) = 0
  · rw [if_pos c1, if_pos ((barS_le a d _).mpr c1), m290, Option.bind_some, h.1.1]
    by_cases c2 : a.1.length < 40
    · rw [if_pos c2, if_neg (fun e => by have := (nI_eq (a := a.1.length) (b := 40) (by omega) (by decide)).mp e; omega)]
      obtain ⟨w, e, w1, cg⟩ := q_chg h hh
      have ll := h.1.snoc c2 (nI d) (nI c) p3 (nI n)
      generalize hF : (upd (upd (upd (upd (upd (upd (upd (v 1) 290 (nI (a.1.length + 1))) (6 * a.1.length + 0) (nI d)) (6 * a.1.length + 1) (nI c)) (6 * a.1.length + 2) p3) (6 * a.1.length + 3) (nI n)) (6 * a.1.length + 4) 0) (6 * a.1.length + 5) 0) = F at ll
      have fF : FM v (setA v 1 F) := FM.setf (fun i hi hi2 => by
        rw [← hF, q_un (by omega), q_un (by omega), q_un (by omega), q_un (by omega), q_un (by omega), q_un (by omega), q_un hi2])
      have r0 := h.lots (v' := setA v 1 F) (by rw [q_sA]; exact ll) fF
      rw [q_sA] at r0
      have e291 : F 291 = a.2.1 4 := r0.2.1 4 (by unfold mset; omega)
      have r1 : RM (upd F 291 (a.2.1 4 + nI n)) _ := r0.num (i := 4) (a.2.1 4 + nI n) (by unfold mset; omega)
      obtain ⟨u, eu, ru, su⟩ := q_shifts (v := setA w 1 (upd F 291 (a.2.1 4 + nI n))) (by rw [q_sA]; exact r1) (show c < 8 by omega) (show d < 8 by omega) (nI n)
      have hpu : updP (updP a.2.2 2 c (a.2.2 2 c + nI n)) 2 d (updP a.2.2 2 c (a.2.2 2 c + nI n) 2 d - nI n) = updP (updP a.2.2 2 d (a.2.2 2 d + -nI n)) 2 c (updP a.2.2 2 d (a.2.2 2 d + -nI n) 2 c + nI n) := by
        rw [updP_comm (by omega), updP_n (by omega), updP_n (by omega), q_addneg]
      rw [hpu] at ru
      have hok : okN (a.1 ++ [(nI d, nI c, p3, nI n, (0 : Int32), (0 : Int32))]) := by
        obtain ⟨_, P', _, _, hl, _⟩ := ho
        exact okN_app (okL.okN hl) (fun l hl => by rw [List.mem_singleton] at hl; subst hl; exact ⟨n, rfl, by omega⟩)
      refine ⟨u, ?_, ru, fun z => absurd z (sum_pos hok (by simp; omega)), fun _ => ?_⟩
      · rw [e, Option.bind_some, w1, m290, Option.bind_some, Option.bind_some, w290, Option.bind_some, h.1.1, q_1, q_lay0 _ _ (by omega), Option.bind_some, q_lay1 _ _ (by omega), Option.bind_some, q_lay2 _ _ (by omega), Option.bind_some, q_lay3 _ _ (by omega), Option.bind_some, q_lay4 _ _ (by omega), Option.bind_some, q_lay5 _ _ (by omega), Option.bind_some]
        simp only [setA_setA, q_sA]
        rw [hF, m291, Option.bind_some, w291, Option.bind_some, e291, eu, Option.bind_some, q_owedM ru.1, mt_E2 (by omega) (by omega) h2]
        rfl
      · refine cg.after (SameM.of1 (fun r hr => ?_))
        rw [su r hr, q_sN w _ hr]
    · have hl := h.1.2.1
      rw [if_neg c2, if_pos (show nI a.1.length = (40 : Int32) by rw [show a.1.length = 40 by omega]; rfl)]
      exact MOp.err h (by decide)
  · rw [if_neg c1, if_neg (fun e => c1 ((barS_le a d _).mp e))]
    exact MOp.err h (by decide)

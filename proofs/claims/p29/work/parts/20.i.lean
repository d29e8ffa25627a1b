/- the law's calls: what they do to the class, and to the law's own lots -/
theorem rm_nI {a d : Nat} {D : Int32} (hD : D = nI d) (ha : a < 2 ^ 31) (h0 : 0 < d) (hd : d < 2 ^ 31) : remI (nI a) D = some (nI (a % d)) := by
  subst hD
  unfold remI
  rw [if_neg (nI_ne0 h0 hd), pk_rem ha h0 hd]
theorem dv_nI {a d : Nat} {D : Int32} (hD : D = nI d) (ha : a < 2 ^ 31) (h0 : 0 < d) (hd : d < 2 ^ 31) : divI (nI a) D = some (nI (a / d)) := by
  subst hD
  unfold divI
  rw [if_neg (nI_ne0 h0 hd), pk_div ha h0 hd]
def AOK (w : Nat) (vB vH : St) (bH : Nat → St) (fl fp ft : Nat → Int32) (a : AS) (hist : List AS) : Prop :=
  RC vB a ∧ OK a ∧ HC vH bH hist ∧ RW fl fp ft a ∧ BAL a ∧ (∃ P, 3 ≤ P ∧ P ≤ 8 ∧ a.2.1 1 = nI P) ∧ ∃ u, a.2.1 0 = nI u ∧ u ≤ w
def AOKs (w : Nat) (vB vH : St) (bH : Nat → St) (fl fp ft : Nat → Int32) : Prop := ∃ a hist, AOK w vB vH bH fl fp ft a hist
abbrev OUT : Type := Int32 × St × St × St × (Nat → St) × St × (Nat → Int32) × (Nat → Int32) × (Nat → Int32) × (Nat → Int32)
def Res (w : Nat) (r : Option OUT) : Prop := ∃ o : OUT, r = some o ∧ o.1 = 1 ∧ AOKs w o.2.1 o.2.2.2.1 o.2.2.2.2.1 o.2.2.2.2.2.2.1 o.2.2.2.2.2.2.2.1 o.2.2.2.2.2.2.2.2.1
/- what an operation leaves: its own good things in one place -/
theorem AOKs.mk {w w' : Nat} {vB vH : St} {bH : Nat → St} {fl fp ft : Nat → Int32} {a b : AS} {hist : List AS} (hr : RC vB b) (ho : OK b) (hh : HC vH bH hist) (hw : RW fl fp ft b) (hb : BAL b) (hP : ∃ P, 3 ≤ P ∧ P ≤ 8 ∧ a.2.1 1 = nI P) (hu : ∃ u, a.2.1 0 = nI u ∧ u ≤ w) (h1 : b.2.1 1 = a.2.1 1) (h0 : b.2.1 0 = a.2.1 0) (hww : w ≤ w') : AOKs w' vB vH bH fl fp ft := by
  obtain ⟨P, p1, p2, p3⟩ := hP
  obtain ⟨u, u1, u2⟩ := hu
  exact ⟨b, hist, hr, ho, hh, hw, hb, ⟨P, p1, p2, h1.trans p3⟩, u, h0.trans u1, by omega⟩
/- lending -/
theorem lendS_01 {a : AS} {p1 p2 p3 p4 : Int32} : (lendS a p1 p2 p3 p4).2.2.1 1 = a.2.1 1 ∧ (lendS a p1 p2 p3 p4).2.2.1 0 = a.2.1 0 := by
  unfold lendS
  cases kPr a p1 p2 with
  | false => exact ⟨rfl, rfl⟩
  | true =>
  cases kIn p3 0 3 with
  | false => exact ⟨rfl, rfl⟩
  | true =>
  cases kIn p4 1 9 with
  | false => exact ⟨rfl, rfl⟩
  | true =>
  simp only [cond_true]
  split
  · split
    · exact ⟨(q_un (f := a.2.1) (k := 4) (j := 1) (x := a.2.1 4 + p4) (by decide)), (q_un (f := a.2.1) (k := 4) (j := 0) (x := a.2.1 4 + p4) (by decide))⟩
    · exact ⟨rfl, rfl⟩
  · exact ⟨rfl, rfl⟩
theorem ac_lend1 {w : Nat} {vB vH : St} {bH : Nat → St} {fl fp ft : Nat → Int32} {a : AS} {hist : List AS} (A : AOK w vB vH bH fl fp ft a hist) (vT vR vO : St) (p5 p6 : Int32) {fl' fp' ft' : Nat → Int32} (fr : Nat → Int32) {p1 p2 p3 p4 x12 : Int32} (hw : RW fl' fp' ft' (lendS a p1 p2 p3 p4).2) (hx : x12 = (lendS a p1 p2 p3 p4).1) :
    Res w (L_isActed_b286 vO p5 p6 vB vT vH bH vR fl' fp' ft' fr p1 p2 p3 p4 x12) := by
  obtain ⟨h1, ho, hh, hw0, hb, hP, hu⟩ := A
  obtain ⟨vB', vT', vH', bH', hist', e, r1, r2⟩ := fc_lend h1 ho hh vT vR vO p1 p2 p3 p4 (lendS_er ho p1 p2 p3 p4)
  refine ⟨(1, vB', vT', vH', bH', vR, fl', fp', ft', fr), ?_, rfl, AOKs.mk r1 (lendS_ok ho p1 p2 p3 p4) r2 hw (lendS_bal ho hb p1 p2 p3 p4) hP hu lendS_01.1 lendS_01.2 (Nat.le_refl _)⟩
  rw [L_isActed_b286, e, Option.bind_some, hx]
  exact if_pos rfl
theorem ac_lend {w : Nat} {vB vH : St} {bH : Nat → St} {fl fp ft : Nat → Int32} {a : AS} {hist : List AS} (A : AOK w vB vH bH fl fp ft a hist) (vT vR vO : St) (p5 p6 : Int32) (fr : Nat → Int32) {d c k n : Nat} (hd : d < 8) (hc : c < 8) (hk : k < 4) (hn : 1 ≤ n) (h9 : n ≤ 9) {t0 : Int32}
    (ht : t0 = (bif kPr a (nI d) (nI c) then (if barS a d (nI n) = 0 then (if a.1.length < 40 then 0 else -1000003) else -1000002) else -1000001)) :
    Res w (L_isActed_b197 vO p5 p6 vB vT vH bH vR fl fp ft fr (nI d) (nI c) (nI k) (nI n) t0) := by
  obtain ⟨h1, ho, hh, hw0, hb, hP, hu⟩ := id A
  have kk : kIn (nI k) 0 3 = true := kIn_nI (lo := 0) (hi := 3) (by omega) (by omega) (by omega)
  have kn : kIn (nI n) 1 9 = true := kIn_nI (lo := 1) (hi := 9) hn h9 (by omega)
  have S : lendS a (nI d) (nI c) (nI k) (nI n) = (bif kPr a (nI d) (nI c) then (if barS a d (nI n) = 0 then (if a.1.length < 40 then
      (sumS (mt (nI d) (nI c) (nI k)) 0 (a.1 ++ [(nI d, nI c, nI k, nI n, 0, 0)]), (a.1 ++ [(nI d, nI c, nI k, nI n, 0, 0)], upd a.2.1 4 (a.2.1 4 + nI n), updP (updP a.2.2 2 d (a.2.2 2 d + -nI n)) 2 c (updP a.2.2 2 d (a.2.2 2 d + -nI n) 2 c + nI n)))
      else (-1000003, a)) else (-1000002, a)) else (-1000001, a)) := by
    unfold lendS
    rw [kk, kn, ix_nI (by omega), ix_nI (by omega)]
    rfl
  have bad : ∀ x : Int32, ¬ x = 0 → lendS a (nI d) (nI c) (nI k) (nI n) = (x, a) → Res w (L_isActed_b197 vO p5 p6 vB vT vH bH vR fl fp ft fr (nI d) (nI c) (nI k) (nI n) x) := fun x hx e => by
    rw [L_isActed_b197, if_neg hx]
    exact ac_lend1 A vT vR vO p5 p6 fr (by rw [e]; exact hw0) (by rw [e])
  cases hpr : kPr a (nI d) (nI c) with
  | false =>
    rw [hpr] at ht S
    replace ht : t0 = -1000001 := ht
    rw [ht]
    exact bad _ (by decide) S
  | true =>
    rw [hpr] at ht S
    simp only [cond_true] at ht S
    by_cases cb : barS a d (nI n) = 0
    · rw [if_pos cb] at ht S
      by_cases cl : a.1.length < 40
      · rw [if_pos cl] at ht S
        obtain ⟨w1, w2, w3⟩ := hw0
        obtain ⟨d', c', P, ed, ec, hdP, hcP, hdc, hP8, hPe⟩ := kPr_nat ho hpr
        have ed := (nI_eq (by omega) (by omega)).mp ed
        have ec := (nI_eq (by omega) (by omega)).mp ec
        subst ed; subst ec
        have hval : (((nI d + ((8 : Int32) * nI c)) + ((64 : Int32) * nI k)) + ((256 : Int32) * nI n)) = nI (pkN d c k n 0 0) := by
          rw [show (8 : Int32) = nI 8 from rfl, show (64 : Int32) = nI 64 from rfl, show (256 : Int32) = nI 256 from rfl, pk_mul, pk_mul, pk_mul, nI_add, nI_add, nI_add]
          exact congrArg nI (by unfold pkN; omega)
        have t3 : upd ft 2 (nI (a.1.length + 1)) 3 = a.2.1 4 := (q_un (by decide)).trans (w2 3 (by decide) (by decide))
        have hLW : LW (upd fl a.1.length (nI (pkN d c k n 0 0))) (upd (upd ft 2 (nI (a.1.length + 1))) 3 (a.2.1 4 + nI n)) (a.1 ++ [(nI d, nI c, nI k, nI n, 0, 0)]) := by
          refine ⟨by rw [q_un (by decide), q_up, List.length_append]; rfl, by rw [List.length_append]; exact cl, fun i l hl => ?_⟩
          by_cases z : i = a.1.length
          · subst z
            rw [List.getElem?_append_right (Nat.le_refl _), Nat.sub_self] at hl
            cases hl
            rw [q_up]
            exact ⟨d, c, k, n, 0, 0, rfl, rfl, hd, hc, hk, by omega, by omega, by omega⟩
          · rw [q_un z]
            by_cases z2 : i < a.1.length
            · rw [List.getElem?_append_left z2] at hl; exact w1.2.2 i l hl
            · rw [List.getElem?_append_right (by omega), show i - a.1.length = (i - a.1.length - 1) + 1 by omega] at hl
              simp at hl
        have r1 := w3.row (r := 2) (p := d) (j := 5) (a.2.2 2 d - nI n) rfl (by decide) (by decide) hd
        have r2 := r1.row (r := 2) (p := c) (j := 5) (a.2.2 2 c + nI n) rfl (by decide) (by decide) hc
        have hTW : TW (upd (upd ft 2 (nI (a.1.length + 1))) 3 (a.2.1 4 + nI n)) (upd a.2.1 (tN 3) (a.2.1 4 + nI n)) := TW.num (TW.len w2 (fun i hi => q_un hi)) (by decide) _
        have hpu : updP (updP a.2.2 2 d (a.2.2 2 d + -nI n)) 2 c (updP a.2.2 2 d (a.2.2 2 d + -nI n) 2 c + nI n) = updP (updP a.2.2 2 d (a.2.2 2 d - nI n)) 2 c (a.2.2 2 c + nI n) := by
          rw [q_addneg, updP_n (by omega)]
        have hown : L_owed (upd fl a.1.length (nI (pkN d c k n 0 0))) (upd (upd ft 2 (nI (a.1.length + 1))) 3 (a.2.1 4 + nI n)) (nI d) (nI c) (nI k) = some (sumS (mt (nI d) (nI c) (nI k)) 0 (a.1 ++ [(nI d, nI c, nI k, nI n, 0, 0)])) := by
          rw [l_owed hLW hd hc hk, mt_E2 (by omega) (by omega) kk]
        have e197 : L_isActed_b197 vO p5 p6 vB vT vH bH vR fl fp ft fr (nI d) (nI c) (nI k) (nI n) t0 = L_isActed_b286 vO p5 p6 vB vT vH bH vR (upd fl a.1.length (nI (pkN d c k n 0 0))) (upd (upd fp (6 * d + 5) (a.2.2 2 d - nI n)) (6 * c + 5) (a.2.2 2 c + nI n)) (upd (upd ft 2 (nI (a.1.length + 1))) 3 (a.2.1 4 + nI n)) fr (nI d) (nI c) (nI k) (nI n) (sumS (mt (nI d) (nI c) (nI k)) 0 (a.1 ++ [(nI d, nI c, nI k, nI n, 0, 0)])) := by
          rw [ht, L_isActed_b197, if_pos rfl, r16_2, Option.bind_some, w1.1, q_st (by omega) (by decide), Option.bind_some, Option.bind_some, w16_2, Option.bind_some, q_1, r16_3, Option.bind_some, t3, w16_3, Option.bind_some, p48_5, q_ld (by omega) (by decide), Option.bind_some, q_st (by omega) (by decide), Option.bind_some, p48_5, q_ld (by omega) (by decide), Option.bind_some, q_st (by omega) (by decide), Option.bind_some, hval,
            w3.get (r := 2) (j := 5) rfl (by decide) (by decide) hd, r1.get (r := 2) (j := 5) rfl (by decide) (by decide) hc, updP_n (by omega), hown, Option.bind_some]
        rw [e197]
        refine ac_lend1 A vT vR vO p5 p6 fr ?_ (by rw [S])
        rw [S]
        exact ⟨hLW, hTW, by rw [hpu]; exact r2⟩
      · rw [if_neg cl] at ht S
        rw [ht]
        exact bad _ (by decide) S
    · rw [if_neg cb] at ht S
      rw [ht]
      exact bad _ (by decide) S
/- favours done -/
theorem fulS_01 {a : AS} {p1 p2 p3 p4 : Int32} : (fulS a p1 p2 p3 p4).2.2.1 1 = a.2.1 1 ∧ (fulS a p1 p2 p3 p4).2.2.1 0 = a.2.1 0 := by
  unfold fulS
  cases kPr a p1 p2 with
  | false => exact ⟨rfl, rfl⟩
  | true =>
  cases kIn p3 0 3 with
  | false => exact ⟨rfl, rfl⟩
  | true =>
  cases kIn p4 1 9 with
  | false => exact ⟨rfl, rfl⟩
  | true =>
  simp only [cond_true]
  split
  · exact ⟨(q_un (f := a.2.1) (k := 5) (j := 1) (x := a.2.1 5 + p4) (by decide)), (q_un (f := a.2.1) (k := 5) (j := 0) (x := a.2.1 5 + p4) (by decide))⟩
  · exact ⟨rfl, rfl⟩
theorem ac_ful1 {w : Nat} {vB vH : St} {bH : Nat → St} {fl fp ft : Nat → Int32} {a : AS} {hist : List AS} (A : AOK w vB vH bH fl fp ft a hist) (vT vR vO : St) (p5 p6 : Int32) {fl' fp' ft' : Nat → Int32} (fr : Nat → Int32) {p1 p2 p3 p4 x12 : Int32} (hw : RW fl' fp' ft' (fulS a p1 p2 p3 p4).2) (hx : x12 = (fulS a p1 p2 p3 p4).1) :
    Res w (L_isActed_b437 vO p5 p6 vB vT vH bH vR fl' fp' ft' fr p1 p2 p3 p4 x12) := by
  obtain ⟨h1, ho, hh, hw0, hb, hP, hu⟩ := A
  obtain ⟨vB', vT', vH', bH', hist', e, r1, r2⟩ := fc_fulfil h1 ho hh vT vR vO p1 p2 p3 p4 (fulS_er ho p1 p2 p3 p4)
  refine ⟨(1, vB', vT', vH', bH', vR, fl', fp', ft', fr), ?_, rfl, AOKs.mk r1 (fulS_ok ho p1 p2 p3 p4) r2 hw (fulS_bal ho hb p1 p2 p3 p4) hP hu fulS_01.1 fulS_01.2 (Nat.le_refl _)⟩
  rw [L_isActed_b437, e, Option.bind_some, hx]
  exact if_pos rfl
theorem ac_ful {w : Nat} {vB vH : St} {bH : Nat → St} {fl fp ft : Nat → Int32} {a : AS} {hist : List AS} (A : AOK w vB vH bH fl fp ft a hist) (vT vR vO : St) (p5 p6 : Int32) (fr : Nat → Int32) {d c k n : Nat} (hd : d < 8) (hc : c < 8) (hk : k < 4) (hn : 1 ≤ n) (h9 : n ≤ 9) {t0 : Int32}
    (ht : t0 = (bif kPr a (nI d) (nI c) then (if n ≤ WN (nI k) a.1 d c then nI (WN (nI k) a.1 d c - n) else -1000002) else -1000001)) :
    Res w (L_isActed_b369 vO p5 p6 vB vT vH bH vR fl fp ft fr (nI d) (nI c) (nI k) (nI n) t0) := by
  obtain ⟨h1, ho, hh, hw0, hb, hP, hu⟩ := id A
  have kk : kIn (nI k) 0 3 = true := kIn_nI (lo := 0) (hi := 3) (by omega) (by omega) (by omega)
  have kn : kIn (nI n) 1 9 = true := kIn_nI (lo := 1) (hi := 9) hn h9 (by omega)
  have eM : mt (nI d) (nI c) (nI k) = mtE (nI d) (nI c) (nI k) := (mt_E2 (by omega) (by omega) kk).symm
  have hWN := WN_le ho (nI k) d c hd hc
  have eS : sumS (mtE (nI d) (nI c) (nI k)) 0 a.1 = nI (WN (nI k) a.1 d c) := by
    have := sumS_nat (P := mtE (nI d) (nI c) (nI k)) 0 ho.okN
    rw [Nat.zero_add] at this
    exact this
  have S : fulS a (nI d) (nI c) (nI k) (nI n) = (bif kPr a (nI d) (nI c) then (if n ≤ WN (nI k) a.1 d c then
      (sumS (mtE (nI d) (nI c) (nI k)) 0 ((takL (mtE (nI d) (nI c) (nI k)) 40 (nI n) a.1).filter pos), ((takL (mtE (nI d) (nI c) (nI k)) 40 (nI n) a.1).filter pos, upd a.2.1 5 (a.2.1 5 + nI n), updP (updP (updP a.2.2 2 d (a.2.2 2 d + nI n)) 2 c (updP a.2.2 2 d (a.2.2 2 d + nI n) 2 c + -nI n)) 3 d (a.2.2 3 d + nI n)))
      else (-1000002, a)) else (-1000001, a)) := by
    unfold fulS
    rw [kk, kn, ix_nI (by omega), ix_nI (by omega), eM, eS]
    have e1 : (nI n ≤ nI (WN (nI k) a.1 d c)) = (n ≤ WN (nI k) a.1 d c) := q_le (by omega) (by omega)
    by_cases z : n ≤ WN (nI k) a.1 d c
    · simp only [cond_true]
      rw [if_pos z, if_pos (e1.mpr z)]
    · simp only [cond_true]
      rw [if_neg z, if_neg (fun y => z (e1.mp y))]
  have bad : ∀ x : Int32, x < 0 → fulS a (nI d) (nI c) (nI k) (nI n) = (x, a) → Res w (L_isActed_b369 vO p5 p6 vB vT vH bH vR fl fp ft fr (nI d) (nI c) (nI k) (nI n) x) := fun x hx e => by
    rw [L_isActed_b369, if_pos hx]
    exact ac_ful1 A vT vR vO p5 p6 fr (by rw [e]; exact hw0) (by rw [e])
  cases hpr : kPr a (nI d) (nI c) with
  | false =>
    rw [hpr] at ht S
    replace ht : t0 = -1000001 := ht
    rw [ht]
    exact bad _ (by decide) S
  | true =>
    rw [hpr] at ht S
    simp only [cond_true] at ht S
    by_cases cb : n ≤ WN (nI k) a.1 d c
    · rw [if_pos cb] at ht S
      obtain ⟨w1, w2, w3⟩ := hw0
      obtain ⟨d', c', P, ed, ec, hdP, hcP, hdc, hP8, hPe⟩ := kPr_nat ho hpr
      have ed := (nI_eq (by omega) (by omega)).mp ed
      have ec := (nI_eq (by omega) (by omega)).mp ec
      subst ed; subst ec
      obtain ⟨_, P', _, _, hl, _⟩ := id ho
      obtain ⟨fl', ft', e1, g1, g2⟩ := l_take hd hc hk w1 ho.okN (fun l hx => (hl l hx).pos') cb
      have r1 := w3.row (r := 3) (p := d) (j := 0) (a.2.2 3 d + nI n) rfl (by decide) (by decide) hd
      have r2 := r1.row (r := 2) (p := d) (j := 5) (a.2.2 2 d + nI n) rfl (by decide) (by decide) hd
      have r3 := r2.row (r := 2) (p := c) (j := 5) (a.2.2 2 c - nI n) rfl (by decide) (by decide) hc
      have t4 : (fl', ft').2 4 = a.2.1 5 := (g2 4 (by decide)).trans (w2 4 (by decide) (by decide))
      have hTW : TW (upd ft' 4 (a.2.1 5 + nI n)) (upd a.2.1 (tN 4) (a.2.1 5 + nI n)) := TW.num (TW.len w2 g2) (by decide) _
      have hpu : updP (updP (updP a.2.2 2 d (a.2.2 2 d + nI n)) 2 c (updP a.2.2 2 d (a.2.2 2 d + nI n) 2 c + -nI n)) 3 d (a.2.2 3 d + nI n) = updP (updP (updP a.2.2 3 d (a.2.2 3 d + nI n)) 2 d (a.2.2 2 d + nI n)) 2 c (a.2.2 2 c - nI n) := by
        rw [q_addneg, updP_n (r := 2) (r' := 2) (by omega), updP_comm (r := 2) (p := c) (r' := 3) (by omega), updP_comm (r := 2) (p := d) (r' := 3) (by omega)]
      have hleft : sumS (mtE (nI d) (nI c) (nI k)) 0 ((takL (mtE (nI d) (nI c) (nI k)) 40 (nI n) a.1).filter pos) = nI (WN (nI k) a.1 d c - n) := by
        have hok' := takL_okN (P := mtE (nI d) (nI c) (nI k)) 40 n a.1 (by omega) ho.okN
        have q := sumS_nat (P := mtE (nI d) (nI c) (nI k)) 0 (filter_okN (p := pos) hok')
        rw [Nat.zero_add, sumN_filter hok'] at q
        have t := (takL_sum (P := mtE (nI d) (nI c) (nI k)) (Q := mtE (nI d) (nI c) (nI k)) (mtE_nfree _ _ _) (mtE_nfree _ _ _) 40 n a.1 (by omega) ho.okN cb (Or.inr (Nat.le_trans cntN_le ho.1))).1 (fun _ h => h)
        refine Eq.trans q (congrArg nI ?_)
        unfold WN
        omega
      have e369 : L_isActed_b369 vO p5 p6 vB vT vH bH vR fl fp ft fr (nI d) (nI c) (nI k) (nI n) t0 = L_isActed_b437 vO p5 p6 vB vT vH bH vR fl' (upd (upd (upd fp (6 * d + 0) (a.2.2 3 d + nI n)) (6 * d + 5) (a.2.2 2 d + nI n)) (6 * c + 5) (a.2.2 2 c - nI n)) (upd ft' 4 (a.2.1 5 + nI n)) fr (nI d) (nI c) (nI k) (nI n) t0 := by
        rw [L_isActed_b369, if_neg (by rw [ht]; exact nI_pos (by omega)), e1, Option.bind_some, p48_5 d, p48_5 c, p48_0 d, q_ld (by omega) (by decide), Option.bind_some, q_st (by omega) (by decide), Option.bind_some, q_ld (by omega) (by decide), Option.bind_some, q_st (by omega) (by decide), Option.bind_some, q_ld (by omega) (by decide), Option.bind_some, q_st (by omega) (by decide), Option.bind_some, r16_4, Option.bind_some, w16_4, Option.bind_some, t4,
          w3.get (r := 3) (j := 0) rfl (by decide) (by decide) hd, r1.get (r := 2) (j := 5) rfl (by decide) (by decide) hd, updP_n (by omega), r2.get (r := 2) (j := 5) rfl (by decide) (by decide) hc, updP_n (by omega), updP_n (by omega)]
      rw [e369]
      refine ac_ful1 A vT vR vO p5 p6 fr ?_ (by rw [S, ht]; exact hleft.symm)
      rw [S]
      exact ⟨g1, hTW, by rw [hpu]; exact r3⟩
    · rw [if_neg cb] at ht S
      rw [ht]
      exact bad _ (by decide) S
/- guarantors -/
theorem ac_gua {w : Nat} {vB vH : St} {bH : Nat → St} {fl fp ft : Nat → Int32} {a : AS} {hist : List AS} (A : AOK w vB vH bH fl fp ft a hist) (vT vR vO : St) (p5 p6 : Int32) (fr : Nat → Int32) {d : Nat} (hd : d < 8) {p2 x t : Int32} (may : Bool) (hm : (kP a (nI d) && (decide (p2 = -1) || (kP a p2 && decide (¬ nI d = p2)))) = may) (hx : x = (bif may then a.2.2 5 d else -1000001)) (ht : t = (bif may then p2 + 1 else a.2.2 5 d)) :
    Res w (L_isActed_b569 vO p5 p6 vB vT vH bH vR fl (upd fp (6 * d + 2) t) ft fr x (nI d) p2) := by
  obtain ⟨h1, ho, hh, hw0, hb, hP, hu⟩ := A
  obtain ⟨vB', vT', vH', bH', hist', e, r1, r2⟩ := fc_guarantee h1 ho hh vT vR vO (nI d) p2 (guaS_er ho (nI d) p2)
  have S : guaS a (nI d) p2 = (bif may then (a.2.2 5 d, (a.1, a.2.1, updP a.2.2 5 d (p2 + 1))) else (-1000001, a)) := by
    unfold guaS
    rw [hm, ix_nI (by omega)]
  have h01 : (guaS a (nI d) p2).2.2.1 = a.2.1 := by rw [S]; cases may <;> rfl
  have hls : (guaS a (nI d) p2).2.1 = a.1 := by rw [S]; cases may <;> rfl
  have hrow : ∀ p, (guaS a (nI d) p2).2.2.2 2 p = a.2.2 2 p := fun p => by
    rw [S]
    cases may with
    | false => rfl
    | true => exact updP_n (pu := a.2.2) (r := 5) (p := d) (r' := 2) (p' := p) (x := p2 + 1) (by omega)
  refine ⟨(1, vB', vT', vH', bH', vR, fl, upd fp (6 * d + 2) t, ft, fr), ?_, rfl, AOKs.mk r1 (guaS_ok ho _ _) r2 ?_ (fun p hp => by rw [hrow, hls]; exact hb p hp) hP hu (by rw [h01]) (by rw [h01]) (Nat.le_refl _)⟩
  · rw [L_isActed_b569, e, Option.bind_some, hx]
    rw [S]
    cases may <;> exact if_pos rfl
  · obtain ⟨w1, w2, w3⟩ := hw0
    rw [S]
    cases may with
    | false =>
      refine ⟨w1, w2, ?_⟩
      rw [ht]
      show PW (upd fp (6 * d + 2) (a.2.2 5 d)) a.2.2
      rw [← w3.get (r := 5) (p := d) (j := 2) rfl (by decide) (by decide) hd, upd_self]
      exact w3
    | true =>
      refine ⟨w1, w2, ?_⟩
      rw [ht]
      exact w3.row (r := 5) (p := d) (j := 2) (p2 + 1) rfl (by decide) (by decide) hd
/- rings cleared -/
theorem clrN_01 {k : Nat} : ∀ (n s : Nat) (a : AS), (clrN (nI k) n a s).2.2.1 1 = a.2.1 1 ∧ (clrN (nI k) n a s).2.2.1 0 = a.2.1 0 := by
  intro n
  induction n with
  | zero => intro s a; exact ⟨rfl, rfl⟩
  | succ n ih =>
    intro s a
    unfold clrN
    by_cases c : rgL (WN (nI k) a.1) = 0
    · rw [if_pos c]; exact ⟨rfl, rfl⟩
    · rw [if_neg c]
      obtain ⟨i1, i2⟩ := ih (s + rgA (WN (nI k) a.1) * rgL (WN (nI k) a.1)) (turnS (nI k) a)
      refine ⟨i1.trans ?_, i2.trans ?_⟩
      · show upd (upd a.2.1 7 (a.2.1 7 + nI (rgA (WN (nI k) a.1) * rgL (WN (nI k) a.1)))) 9 (a.2.1 9 + 1) 1 = _
        rw [q_un (by decide), q_un (by decide)]
      · show upd (upd a.2.1 7 (a.2.1 7 + nI (rgA (WN (nI k) a.1) * rgL (WN (nI k) a.1)))) 9 (a.2.1 9 + 1) 0 = _
        rw [q_un (by decide), q_un (by decide)]
theorem ac_clear {w : Nat} {vB vH : St} {bH : Nat → St} {fl fp ft : Nat → Int32} {a : AS} {hist : List AS} (A : AOK w vB vH bH fl fp ft a hist) (vT vR vO : St) (p5 p6 : Int32) (fr : Nat → Int32) {k : Nat} (hk : k < 4) :
    Res w (L_isActed_b606 vO p5 p6 vB vT vH bH vR fl fp ft fr (nI k)) := by
  obtain ⟨h1, ho, hh, hw0, hb, hP, hu⟩ := A
  have kk : kIn (nI k) 0 3 = true := kIn_nI (lo := 0) (hi := 3) (by omega) (by omega) (by omega)
  obtain ⟨fl', fp', ft', fr', e1, w1⟩ := l_clear hw0 ho fr hk
  have S : clearS a (nI k) = (nI (clrN (nI k) 360 a 0).1, (clrN (nI k) 360 a 0).2) := by
    unfold clearS; rw [kk]; rfl
  obtain ⟨vB', vT', vH', bH', vR', hist', e, r1, r2, o2⟩ := fc_clear h1 ho hh vT vR vO (nI k) (clearS_er ho k)
  have hb2 := clearS_bal ho hb k
  rw [S] at e r1 o2 hb2
  refine ⟨(1, vB', vT', vH', bH', vR', fl', fp', ft', fr'), ?_, rfl, AOKs.mk r1 o2 r2 w1 hb2 hP hu (clrN_01 360 0 a).1 (clrN_01 360 0 a).2 (Nat.le_refl _)⟩
  rw [L_isActed_b606, e1, Option.bind_some, e, Option.bind_some]
  exact if_pos rfl
/- settings, holidays, pupils -/
theorem ac_set {w : Nat} {vB vH : St} {bH : Nat → St} {fl fp ft : Nat → Int32} {a : AS} {hist : List AS} (A : AOK w vB vH bH fl fp ft a hist) (vT vR vO : St) (p5 p6 : Int32) (fr : Nat → Int32) {k v : Nat} (hk : k < 6) (hv : 1 ≤ v) (hv2 : v ≤ (if k = 4 then 99 else 20)) :
    Res w (L_isActed_b680 vO p5 p6 vB vT vH bH vR fl fp ft fr (nI k) (nI v)) := by
  obtain ⟨h1, ho, hh, ⟨w1, w2, w3⟩, hb, hP, hu⟩ := A
  have hv99 : v ≤ 99 := by split at hv2 <;> omega
  have S : setS a (nI k) (nI v) = (a.2.1 (20 + k), (a.1, upd a.2.1 (20 + k) (nI v), a.2.2)) := by
    unfold setS
    have k1 : kIn (nI k) 0 5 = true := kIn_nI (lo := 0) (hi := 5) (by omega) (by omega) (by omega)
    have k2 : kIn (nI v) 1 (if nI k = 4 then 99 else 20) = true := by
      rw [kIn_iff, nI_toInt (by omega)]
      have e4 : (nI k = (4 : Int32)) = (k = 4) := propext (nI_eq (b := 4) (by omega) (by decide))
      by_cases z : k = 4
      · rw [if_pos (e4.mpr z)]
        rw [if_pos z] at hv2
        omega
      · rw [if_neg (fun y => z (e4.mp y))]
        rw [if_neg z] at hv2
        omega
    rw [k1, k2, ix_nI (by omega)]
    rfl
  obtain ⟨vB', vT', vH', bH', hist', e, r1, r2⟩ := fc_set h1 ho hh vT vR vO (nI k) (nI v) (setS_er ho _ _)
  have o2 := setS_ok ho (nI k) (nI v)
  rw [S] at e r1 o2
  have ek : (10 : Int32) + nI k = nI (10 + k) := nI_add 10 k
  have tk : ft (10 + k) = a.2.1 (20 + k) := by rw [w2 (10 + k) (by omega) (by omega), tN_10 hk]
  have hTW : TW (upd ft (10 + k) (nI v)) (upd a.2.1 (20 + k) (nI v)) := by
    have := w2.num (j := 10 + k) (by omega) (nI v)
    rw [tN_10 hk] at this
    exact this
  refine ⟨(1, vB', vT', vH', bH', vR, fl, fp, upd ft (10 + k) (nI v), fr), ?_, rfl, AOKs.mk r1 o2 r2 ⟨w1.ft (q_un (f := ft) (k := 10 + k) (j := 2) (x := nI v) (by omega)), hTW, w3⟩ hb hP hu (q_un (f := a.2.1) (k := 20 + k) (j := 1) (x := nI v) (by omega)) (q_un (f := a.2.1) (k := 20 + k) (j := 0) (x := nI v) (by omega)) (Nat.le_refl _)⟩
  rw [L_isActed_b680, ek, q_ld (by omega) (by decide), Option.bind_some, q_st (by omega) (by decide), Option.bind_some, e, Option.bind_some, tk]
  exact if_pos rfl
theorem ac_hol {w : Nat} {vB vH : St} {bH : Nat → St} {fl fp ft : Nat → Int32} {a : AS} {hist : List AS} (A : AOK w vB vH bH fl fp ft a hist) (vT vR vO : St) (p5 : Int32) {y : Nat} (hy : y < 2 ^ 31) (fr : Nat → Int32) (b : Bool) (hb3 : b = decide (y % 3 = 0)) :
    Res w (L_isActed_b747 vO p5 (nI y) vB vT vH bH vR fl fp ft fr (ft 9) (9 : Int32) (if b = true then 1 else 0)) := by
  obtain ⟨h1, ho, hh, ⟨w1, w2, w3⟩, hb, hP, hu⟩ := A
  have t9 : ft 9 = a.2.1 10 := w2 9 (by decide) (by decide)
  have b761 : Res w (L_isActed_b761 vO p5 (nI y) vB vT vH bH vR fl fp (upd ft 9 (if b = true then 1 else 0)) fr (ft 9) (if b = true then 1 else 0)) := by
    obtain ⟨vB', vT', vH', bH', hist', e, r1, r2⟩ := fc_holiday h1 ho hh vT vR vO (if b = true then 1 else 0) (holS_er ho _)
    have S : (holS a (if b = true then 1 else 0)).2 = (a.1, upd a.2.1 (tN 9) (if b = true then 1 else 0), a.2.2) := by cases b <;> rfl
    have o2 := holS_ok ho (if b = true then 1 else 0)
    rw [S] at r1 o2
    refine ⟨(1, vB', vT', vH', bH', vR, fl, fp, upd ft 9 (if b = true then 1 else 0), fr), ?_, rfl, AOKs.mk r1 o2 r2 ⟨w1.ft (q_un (f := ft) (k := 9) (j := 2) (x := if b = true then 1 else 0) (by decide)), w2.num (j := 9) (by decide) _, w3⟩ hb hP hu (q_un (f := a.2.1) (k := tN 9) (j := 1) (x := if b = true then 1 else 0) (by decide)) (q_un (f := a.2.1) (k := tN 9) (j := 0) (x := if b = true then 1 else 0) (by decide)) (Nat.le_refl _)⟩
    rw [L_isActed_b761, e, Option.bind_some, t9]
    exact if_pos rfl
  rw [L_isActed_b747, w16_9, Option.bind_some, rm_nI (d := 3) (D := 3) rfl hy (by decide) (by decide), Option.bind_some]
  have e3 : (nI (y % 3) = (0 : Int32)) = (y % 3 = 0) := propext (nI_eq (b := 0) (by omega) (by decide))
  by_cases z : y % 3 = 0
  · rw [if_pos (e3.mpr z)]
    rw [decide_eq_true z] at hb3
    subst hb3
    exact b761
  · rw [if_neg (fun q => z (e3.mp q))]
    rw [decide_eq_false z] at hb3
    subst hb3
    exact b761
theorem ac_pup {w : Nat} {vB vH : St} {bH : Nat → St} {fl fp ft : Nat → Int32} {a : AS} {hist : List AS} (A : AOK w vB vH bH fl fp ft a hist) (vT vR vO : St) (p5 p6 : Int32) (fr : Nat → Int32) {x : Int32} (hx : x = if ft 1 = (8 : Int32) then 1 else 0) :
    Res w (L_isActed_b72 vO p5 p6 vB vT vH bH vR fl fp ft fr x) := by
  obtain ⟨h1, ho, hh, ⟨w1, w2, w3⟩, hb, hP, hu⟩ := A
  have t1 : ft 1 = a.2.1 1 := w2 1 (by decide) (by decide)
  obtain ⟨P, p3, p8, pe⟩ := hP
  obtain ⟨vB', vT', vH', bH', hist', e, r1, r2⟩ := fc_pupil h1 ho hh vT vR vO (pupS_er ho)
  have o2 := pupS_ok ho
  have e8 : (nI P = (8 : Int32)) = (P = 8) := propext (nI_eq (b := 8) (by omega) (by decide))
  by_cases z : P = 8
  · have c8 : a.2.1 1 = 8 := pe.trans (e8.mpr z)
    have S : pupS a = (-1000003, a) := by unfold pupS; rw [if_pos c8]
    rw [S] at e r1
    rw [if_pos (t1.trans c8)] at hx
    have hft : upd ft 1 (ft 1 + (0 : Int32)) = ft := by rw [q_0, upd_self]
    refine ⟨(1, vB', vT', vH', bH', vR, fl, fp, ft, fr), ?_, rfl, AOKs.mk (a := a) r1 ho r2 ⟨w1, w2, w3⟩ hb ⟨P, p3, p8, pe⟩ hu rfl rfl (Nat.le_refl _)⟩
    rw [hx, L_isActed_b72, r16_1, Option.bind_some, if_neg (by decide), L_isActed_b88, w16_1, Option.bind_some, hft, e, Option.bind_some, if_neg (by decide), L_isActed_b109]
    exact if_pos rfl
  · have c8 : ¬ a.2.1 1 = 8 := fun q => z (e8.mp (pe.symm.trans q))
    have S : pupS a = (a.2.1 1, (a.1, upd a.2.1 1 (a.2.1 1 + 1), a.2.2)) := by unfold pupS; rw [if_neg c8]
    rw [S] at e r1 o2
    rw [if_neg (fun q => c8 (t1.symm.trans q))] at hx
    obtain ⟨u, u1, u2⟩ := hu
    refine ⟨(1, vB', vT', vH', bH', vR, fl, fp, upd ft 1 (ft 1 + (1 : Int32)), fr), ?_, rfl, ⟨_, hist', r1, o2, r2, ⟨w1.ft (q_un (f := ft) (k := 1) (j := 2) (x := ft 1 + (1 : Int32)) (by decide)), ?_, w3⟩, hb, ⟨P + 1, by omega, by omega, ?_⟩, u, (q_un (f := a.2.1) (k := 1) (j := 0) (x := a.2.1 1 + 1) (by decide)).trans u1, u2⟩⟩
    · rw [hx, L_isActed_b72, r16_1, Option.bind_some, if_pos rfl, L_isActed_b88, w16_1, Option.bind_some, e, Option.bind_some, if_pos rfl, r16_1, Option.bind_some, q_up, L_isActed_b109, add1sub, t1]
      exact if_pos rfl
    · rw [t1]; exact w2.num (j := 1) (by decide) (a.2.1 1 + 1)
    · show upd a.2.1 1 (a.2.1 1 + 1) 1 = _
      rw [q_up, pe, q_1]
/- weeks -/
theorem weekS_01 {a : AS} : (weekS a).2.1 1 = a.2.1 1 := by
  unfold weekS
  cases decide (a.2.1 10 = 0) with
  | false => exact (q_un (f := a.2.1) (k := 0) (j := 1) (x := a.2.1 0 + 1) (by decide))
  | true =>
    have : ∀ (ls : List Lot) (nu : Nat → Int32) (pu : Nat → Nat → Int32), (weekL ls nu pu).2.1 1 = nu 1 := by
      intro ls
      induction ls with
      | nil => intro nu pu; rfl
      | cons l ls ih => intro nu pu; exact (ih _ _).trans (lotS_row.2 1 (by decide) (by decide))
    exact (this _ _ _).trans (q_un (f := a.2.1) (k := 0) (j := 1) (x := a.2.1 0 + 1) (by decide))
theorem weeksN_succ : ∀ (n : Nat) (a : AS), weeksN (n + 1) a = weekS (weeksN n a) := by
  intro n
  induction n with
  | zero => intro a; rfl
  | succ n ih => intro a; exact ih (weekS a)
theorem weeksN_01 : ∀ (n : Nat) (a : AS) (u : Nat), OK a → a.2.1 0 = nI u → u + n ≤ 999 → (weeksN n a).2.1 1 = a.2.1 1 ∧ (weeksN n a).2.1 0 = nI (u + n) := by
  intro n
  induction n with
  | zero => intro a u _ h _; exact ⟨rfl, h⟩
  | succ n ih =>
    intro a u ho h h9
    obtain ⟨o1, o2⟩ := weekS_ok ho h (by omega)
    obtain ⟨i1, i2⟩ := ih (weekS a) (u + 1) o1 o2 (by omega)
    exact ⟨i1.trans weekS_01, by rw [show u + (n + 1) = u + 1 + n by omega]; exact i2⟩
theorem ac_weeks_l (vO : St) (p5 p6 : Int32) (vB vT vH : St) (bH : Nat → St) (vR : St) (fr : Nat → Int32) {N u : Nat} {a0 : AS} (ho0 : OK a0) (hu : a0.2.1 0 = nI u) (h9 : u + N ≤ 999) (hN : N ≤ 20) : ∀ (m fu j S : Nat) (fl fp ft : Nat → Int32), m < fu → j + m = N → S ≤ 360 * j → RW fl fp ft (weeksN j a0) → (weeksN j a0).2.1 6 = a0.2.1 6 + nI S →
    ∃ fl' fp' ft' S', S' ≤ 360 * N ∧ L_isActed_l789 vO p5 p6 fu vB vT vH bH vR fl fp ft fr (nI N) (nI S) (nI j) = L_isActed_b813 vO p5 p6 vB vT vH bH vR fl' fp' ft' fr (nI N) (nI S') ∧ RW fl' fp' ft' (weeksN N a0) ∧ (weeksN N a0).2.1 6 = a0.2.1 6 + nI S' := by
  intro m
  induction m with
  | zero =>
    intro fu j S fl fp ft hf hj hS hw h6
    obtain ⟨fu, rfl⟩ : ∃ f, fu = f + 1 := ⟨fu - 1, by omega⟩
    have : j = N := by omega
    subst this
    exact ⟨fl, fp, ft, S, hS, by rw [L_isActed_l789, if_pos (nI_le (Nat.le_refl _) (by omega))], hw, h6⟩
  | succ m ih =>
    intro fu j S fl fp ft hf hj hS hw h6
    obtain ⟨fu, rfl⟩ : ∃ f, fu = f + 1 := ⟨fu - 1, by omega⟩
    have oj := weeksN_ok j a0 u ho0 hu (by omega)
    obtain ⟨fl2, fp2, ft2, s, s1, e, w2, g6⟩ := l_week hw oj
    have h62 : (weeksN (j + 1) a0).2.1 6 = a0.2.1 6 + nI (S + s) := by
      rw [weeksN_succ, g6, h6, Int32.add_assoc, nI_add]
    obtain ⟨fl', fp', ft', S', c1, c2, c3, c4⟩ := ih fu (j + 1) (S + s) fl2 fp2 ft2 (by omega) (by omega) (by omega) (by rw [weeksN_succ]; exact w2) h62
    refine ⟨fl', fp', ft', S', c1, ?_, c3, c4⟩
    rw [L_isActed_l789, if_neg (nI_ge (by omega) (by omega)), e, Option.bind_some, q_1, nI_add]
    exact c2
theorem ac_weeks {w : Nat} {vB vH : St} {bH : Nat → St} {fl fp ft : Nat → Int32} {a : AS} {hist : List AS} (A : AOK w vB vH bH fl fp ft a hist) (hw9 : w + 5 ≤ 999) (vT vR vO : St) (p5 p6 : Int32) (fr : Nat → Int32) {N : Nat} (h1N : 1 ≤ N) (h5 : N ≤ 5) :
    Res (w + 5) (L_isActed_l789 vO p5 p6 FU vB vT vH bH vR fl fp ft fr (nI N) (0 : Int32) (0 : Int32)) := by
  obtain ⟨h1, ho, hh, hw0, hb, hP, u, hu, huw⟩ := A
  obtain ⟨fl', fp', ft', S', c1, c2, c3, c4⟩ := ac_weeks_l vO p5 p6 vB vT vH bH vR fr ho hu (by omega) (by omega : N ≤ 20) N FU 0 0 fl fp ft (by unfold FU; omega) (by omega) (by omega) hw0 (nadd0 _).symm
  have c2 : L_isActed_l789 vO p5 p6 FU vB vT vH bH vR fl fp ft fr (nI N) (0 : Int32) (0 : Int32) = _ := c2
  rw [c2]
  have kN : kIn (nI N) 1 20 = true := kIn_nI (lo := 1) (hi := 20) h1N (by omega) (by omega)
  have S : weeksS a (nI N) = (nI S', weeksN N a) := by
    unfold weeksS
    rw [kN, ix_nI (by omega), hu, nI_add]
    simp only [cond_true]
    rw [if_pos (show nI (u + N) ≤ (999 : Int32) from nI_le (a := u + N) (b := 999) (by omega) (by decide)), c4, addsub]
  have her : (weeksS a (nI N)).1 < 0 → (weeksS a (nI N)).2 = a := fun z => by
    rw [S] at z
    exact absurd z (nI_pos (by omega))
  obtain ⟨vB', vT', vH', bH', hist', e, r1, r2⟩ := fc_weeks h1 ho hh vT vR vO (nI N) her
  rw [S] at e r1
  obtain ⟨n1, n0⟩ := weeksN_01 N a u ho hu (by omega)
  obtain ⟨P, p3, p8, pe⟩ := hP
  refine ⟨(1, vB', vT', vH', bH', vR, fl', fp', ft', fr), ?_, rfl, ⟨_, hist', r1, weeksN_ok N a u ho hu (by omega), r2, c3, weeksN_bal N a u ho hu (by omega) hb, ⟨P, p3, p8, n1.trans pe⟩, u + N, n0, by omega⟩⟩
  rw [L_isActed_b813, e, Option.bind_some]
  exact if_pos rfl

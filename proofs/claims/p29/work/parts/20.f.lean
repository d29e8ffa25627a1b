/- balances told by what came are the balances told by the lots -/
theorem ri_1 (x y z : Int32) : x + y + z = x + (y + z) := Int32.add_assoc x y z
theorem ri_2 (a b s t : Int32) : a - b + (s - t) = a + s - (b + t) := by
  rw [Int32.sub_eq_add_neg, Int32.sub_eq_add_neg, Int32.sub_eq_add_neg, Int32.neg_add, Int32.sub_eq_add_neg]
  ac_rfl
theorem ri_3 (a b q : Int32) : a - b = a - (b + q) + q := by
  rw [Int32.sub_eq_add_neg, Int32.sub_eq_add_neg, Int32.neg_add, Int32.sub_eq_add_neg, ← Int32.add_assoc, Int32.add_assoc, Int32.add_comm (-q) q, ← Int32.sub_eq_add_neg q q, Int32.sub_self, Int32.add_zero]
theorem ri_4 (a b q : Int32) : a - b = a + q - b - q := by
  rw [Int32.sub_eq_add_neg, Int32.sub_eq_add_neg, Int32.sub_eq_add_neg, show a + q + -b + -q = a + -b + (q + -q) by ac_rfl, ← Int32.sub_eq_add_neg q q, Int32.sub_self, Int32.add_zero]
theorem ri_z (x : Int32) : x - 0 = x := by rw [Int32.sub_eq_add_neg, Int32.neg_zero, Int32.add_zero]
def ctr (l : Lot) (p : Nat) : Int32 := (if l.c = nI p then l.n else 0) - (if l.d = nI p then l.n else 0)
def balL : List Lot → Nat → Int32
  | [], _ => 0
  | l :: ls, p => ctr l p + balL ls p
theorem sumS_acc (P : Lot → Bool) : ∀ (ls : List Lot) (a : Int32), sumS P a ls = a + sumS P 0 ls := by
  intro ls
  induction ls with
  | nil => intro a; exact (Int32.add_zero a).symm
  | cons l ls ih =>
    intro a
    rw [sumS_cons, sumS_cons, ih, ih (if P l = true then 0 + l.n else 0)]
    split
    · rw [Int32.zero_add, Int32.add_assoc]
    · rw [Int32.zero_add]
theorem balL_eq {p : Nat} (hp : p < 2 ^ 31) : ∀ (ls : List Lot), sumS (mt (-1) (nI p) (-1)) 0 ls - sumS (mt (nI p) (-1) (-1)) 0 ls = balL ls p := by
  intro ls
  induction ls with
  | nil => exact ri_z 0
  | cons l ls ih =>
    rw [sumS_cons, sumS_cons, sumS_acc, sumS_acc (mt (nI p) (-1) (-1)) ls, balL, ← ih, ctr, mt_c (nI_m1 hp), mt_d (nI_m1 hp), ri_2]
    have e1 : (if decide (l.c = nI p) = true then 0 + l.n else (0 : Int32)) = (if l.c = nI p then l.n else 0) := by
      by_cases c : l.c = nI p
      · rw [if_pos c, if_pos (decide_eq_true c), Int32.zero_add]
      · rw [if_neg c, if_neg (fun z => c (of_decide_eq_true z))]
    have e2 : (if decide (l.d = nI p) = true then 0 + l.n else (0 : Int32)) = (if l.d = nI p then l.n else 0) := by
      by_cases c : l.d = nI p
      · rw [if_pos c, if_pos (decide_eq_true c), Int32.zero_add]
      · rw [if_neg c, if_neg (fun z => c (of_decide_eq_true z))]
    rw [e1, e2]
theorem balS_eq {a : AS} {p : Nat} (hp : p < 2 ^ 31) : balS a p = balL a.1 p := balL_eq hp a.1
theorem balL_app {p : Nat} : ∀ (xs ys : List Lot), balL (xs ++ ys) p = balL xs p + balL ys p := by
  intro xs
  induction xs with
  | nil => intro ys; exact (Int32.zero_add _).symm
  | cons x xs ih => intro ys; show ctr x p + balL (xs ++ ys) p = ctr x p + balL xs p + balL ys p; rw [ih, Int32.add_assoc]
theorem ctr_0 {l : Lot} {p : Nat} (h : l.n = 0) : ctr l p = 0 := by
  unfold ctr; rw [h]; split <;> split <;> decide
theorem balL_filter {p : Nat} : ∀ (ls : List Lot), (∀ l ∈ ls, pos l = true ∨ l.n = 0) → balL (ls.filter pos) p = balL ls p := by
  intro ls
  induction ls with
  | nil => intro _; rfl
  | cons l ls ih =>
    intro h
    have hi := ih (fun y hy => h y (List.mem_cons_of_mem _ hy))
    rw [List.filter_cons]
    rcases h l List.mem_cons_self with c | c
    · rw [if_pos c, balL, balL, hi]
    · by_cases c2 : pos l = true
      · rw [if_pos c2, balL, balL, hi]
      · rw [if_neg c2, balL, hi, ctr_0 c, Int32.zero_add]
theorem balL_age {p : Nat} : ∀ (ls : List Lot), balL (ls.map age) p = balL ls p := by
  intro ls
  induction ls with
  | nil => rfl
  | cons l ls ih => show ctr (age l) p + balL (ls.map age) p = ctr l p + balL ls p; rw [ih]; rfl
def BAL (a : AS) : Prop := ∀ p, p < 8 → a.2.2 2 p = balL a.1 p
/- what a taking does to balances -/
theorem tk_bal {P : Lot → Bool} {d c p q : Nat} {ls : List Lot} (hP : nfree P) (hm : ∀ l, P l = true → l.d = nI d ∧ l.c = nI c) (hd : d < 8) (hc : c < 8) (hdc : d ≠ c) (hp : p < 8) (hok : okN ls) (h40 : ls.length ≤ 40) (hq31 : q < 2 ^ 31) (hq : q ≤ sumN P ls) :
    balL ((takL P 40 (nI q) ls).filter pos) p = balL ls p + (if p = d then nI q else 0) - (if p = c then nI q else 0) := by
  have hok' := takL_okN (P := P) 40 q ls hq31 hok
  have sums := fun (Q : Lot → Bool) (hQ : nfree Q) => takL_sum hP hQ 40 q ls hq31 hok hq (Or.inr (Nat.le_trans cntN_le h40))
  have nat := fun (Q : Lot → Bool) (ls : List Lot) (h : okN ls) => by
    have := sumS_nat (P := Q) 0 h
    rw [Nat.zero_add] at this
    exact this
  rw [← balL_eq (by omega), ← balL_eq (by omega), show (0 : Int32) = nI 0 from rfl, sumS_nat 0 (filter_okN hok'), sumS_nat 0 (filter_okN hok'), sumS_nat 0 hok, sumS_nat 0 hok, Nat.zero_add, Nat.zero_add, Nat.zero_add, Nat.zero_add, sumN_filter hok', sumN_filter hok']
  obtain ⟨a1, a2⟩ := sums (mt (-1) (nI p) (-1)) (mt_nfree _ _ _)
  obtain ⟨b1, b2⟩ := sums (mt (nI p) (-1) (-1)) (mt_nfree _ _ _)
  have inC : p = c → ∀ l, P l = true → mt (-1) (nI p) (-1) l = true := fun e l hl => by
    rw [mt_c (nI_m1 (by omega)), e]; exact decide_eq_true (hm l hl).2
  have outC : p ≠ c → ∀ l, P l = true → mt (-1) (nI p) (-1) l = false := fun e l hl => by
    rw [mt_c (nI_m1 (by omega)), (hm l hl).2]; exact decide_eq_false (fun z => e ((nI_eq (by omega) (by omega)).mp z).symm)
  have inD : p = d → ∀ l, P l = true → mt (nI p) (-1) (-1) l = true := fun e l hl => by
    rw [mt_d (nI_m1 (by omega)), e]; exact decide_eq_true (hm l hl).1
  have outD : p ≠ d → ∀ l, P l = true → mt (nI p) (-1) (-1) l = false := fun e l hl => by
    rw [mt_d (nI_m1 (by omega)), (hm l hl).1]; exact decide_eq_false (fun z => e ((nI_eq (by omega) (by omega)).mp z).symm)
  by_cases c1 : p = d
  · have c2 : p ≠ c := fun z => hdc (by omega)
    rw [if_pos c1, if_neg c2, a2 (outC c2), ← b1 (inD c1), ← nI_add, show nI 0 = (0 : Int32) from rfl, ri_z]
    exact ri_3 _ _ _
  · rw [if_neg c1, b2 (outD c1), show nI 0 = (0 : Int32) from rfl, Int32.add_zero]
    by_cases c2 : p = c
    · rw [if_pos c2, ← a1 (inC c2), ← nI_add]
      exact ri_4 _ _ _
    · rw [if_neg c2, a2 (outC c2), ri_z]
theorem mt_m {d c k : Int32} {l : Lot} (hd : d ≠ -1) (hc : c ≠ -1) (h : mt d c k l = true) : l.d = d ∧ l.c = c := by
  unfold mt at h
  rw [decide_eq_false hd, decide_eq_false hc, Bool.false_or, Bool.false_or, Bool.and_eq_true, Bool.and_eq_true] at h
  exact ⟨(of_decide_eq_true h.1.1).symm, (of_decide_eq_true h.1.2).symm⟩
theorem mtE_m {d c k : Int32} {l : Lot} (h : mtE d c k l = true) : l.d = d ∧ l.c = c := by
  unfold mtE at h
  rw [Bool.and_eq_true, Bool.and_eq_true] at h
  exact ⟨of_decide_eq_true h.1.1, of_decide_eq_true h.1.2⟩
theorem two_upd {pu : Nat → Nat → Int32} {d c p : Nat} {x y : Int32} (hdc : d ≠ c) : updP (updP pu 2 d (pu 2 d + x)) 2 c (updP pu 2 d (pu 2 d + x) 2 c - y) 2 p = pu 2 p + (if p = d then x else 0) - (if p = c then y else 0) := by
  by_cases c1 : p = c
  · subst c1
    rw [updP_s, if_pos rfl, if_neg (Ne.symm hdc), updP_n (by omega), Int32.add_zero]
  · rw [updP_n (by omega), if_neg c1, ri_z]
    by_cases c2 : p = d
    · subst c2; rw [updP_s, if_pos rfl]
    · rw [updP_n (by omega), if_neg c2, Int32.add_zero]
theorem two_upd' {pu : Nat → Nat → Int32} {d c p : Nat} {x y : Int32} (hdc : d ≠ c) : updP (updP pu 2 d (pu 2 d + x)) 2 c (updP pu 2 d (pu 2 d + x) 2 c + y) 2 p = pu 2 p + (if p = d then x else 0) + (if p = c then y else 0) := by
  by_cases c1 : p = c
  · subst c1
    rw [updP_s, if_pos rfl, if_neg (Ne.symm hdc), updP_n (by omega), Int32.add_zero]
  · rw [updP_n (by omega), if_neg c1, Int32.add_zero]
    by_cases c2 : p = d
    · subst c2; rw [updP_s, if_pos rfl]
    · rw [updP_n (by omega), if_neg c2, Int32.add_zero]
theorem neg_if {c : Prop} [Decidable c] {x : Int32} : (if c then -x else 0) = -(if c then x else 0) := by split <;> simp
/- lending -/
theorem lendS_bal {a : AS} (ho : OK a) (hb : BAL a) (p1 p2 p3 p4 : Int32) : BAL (lendS a p1 p2 p3 p4).2 := by
  unfold lendS
  cases h1 : kPr a p1 p2 with
  | false => exact hb
  | true =>
  cases h2 : kIn p3 0 3 with
  | false => exact hb
  | true =>
  cases h3 : kIn p4 1 9 with
  | false => exact hb
  | true =>
  obtain ⟨d, c, P, rfl, rfl, hd, hc, hdc, h8, hP⟩ := kPr_nat ho h1
  simp only [cond_true]
  rw [ix_nI (by omega), ix_nI (by omega)]
  split
  · split
    · intro p hp
      show updP (updP a.2.2 2 d (a.2.2 2 d + -p4)) 2 c (updP a.2.2 2 d (a.2.2 2 d + -p4) 2 c + p4) 2 p = balL (a.1 ++ [(nI d, nI c, p3, p4, 0, 0)]) p
      rw [two_upd' hdc, hb p hp, balL_app, neg_if]
      show _ = balL a.1 p + (ctr (nI d, nI c, p3, p4, 0, 0) p + 0)
      unfold ctr
      have e1 : (if nI c = nI p then p4 else 0) = (if p = c then p4 else 0) := by
        by_cases z : p = c
        · rw [if_pos z, if_pos (show nI c = nI p by rw [z])]
        · rw [if_neg z, if_neg (fun y => z ((nI_eq (by omega) (by omega)).mp y).symm)]
      have e2 : (if nI d = nI p then p4 else 0) = (if p = d then p4 else 0) := by
        by_cases z : p = d
        · rw [if_pos z, if_pos (show nI d = nI p by rw [z])]
        · rw [if_neg z, if_neg (fun y => z ((nI_eq (by omega) (by omega)).mp y).symm)]
      show _ = balL a.1 p + ((if nI c = nI p then p4 else 0) - (if nI d = nI p then p4 else 0) + 0)
      rw [e1, e2, Int32.add_zero, Int32.sub_eq_add_neg]
      ac_rfl
    · exact hb
  · exact hb
theorem fulS_bal {a : AS} (ho : OK a) (hb : BAL a) (p1 p2 p3 p4 : Int32) : BAL (fulS a p1 p2 p3 p4).2 := by
  unfold fulS
  cases h1 : kPr a p1 p2 with
  | false => exact hb
  | true =>
  cases h2 : kIn p3 0 3 with
  | false => exact hb
  | true =>
  cases h3 : kIn p4 1 9 with
  | false => exact hb
  | true =>
  obtain ⟨d, c, P, rfl, rfl, hd, hc, hdc, h8, hP⟩ := kPr_nat ho h1
  obtain ⟨n, rfl, hn1, hn9⟩ := kIn_nat h3 (by decide)
  simp only [cond_true]
  obtain ⟨hs, h360⟩ := sumS_n ho (mt (nI d) (nI c) p3)
  rw [ix_nI (by omega), ix_nI (by omega)]
  by_cases c1 : nI n ≤ sumS (mt (nI d) (nI c) p3) 0 a.1
  · rw [if_pos c1]
    have hq : n ≤ sumN (mt (nI d) (nI c) p3) a.1 := by
      rw [hs] at c1
      exact (nI_leI (by omega) (by omega)).mp c1
    intro p hp
    show updP (updP (updP a.2.2 2 d (a.2.2 2 d + nI n)) 2 c (updP a.2.2 2 d (a.2.2 2 d + nI n) 2 c + -nI n)) 3 d (a.2.2 3 d + nI n) 2 p = balL ((takL (mt (nI d) (nI c) p3) 40 (nI n) a.1).filter pos) p
    rw [updP_n (by omega), two_upd' hdc, neg_if, ← Int32.sub_eq_add_neg, hb p hp]
    exact (tk_bal (mt_nfree _ _ _) (fun l hl => mt_m (nI_m1 (by omega)) (nI_m1 (by omega)) hl) (by omega) (by omega) hdc hp ho.okN ho.1 (by omega) hq).symm
  · rw [if_neg c1]; exact hb
/- a week -/
theorem eqc {x p : Nat} {y : Int32} (hx : x < 8) (hp : p < 8) : (if nI x = nI p then y else 0) = (if p = x then y else 0) := by
  by_cases z : p = x
  · rw [if_pos z, if_pos (show nI x = nI p by rw [z])]
  · rw [if_neg z, if_neg (fun w => z ((nI_eq (by omega) (by omega)).mp w).symm)]
theorem lotS_bal {P : Nat} {l : Lot} {nu : Nat → Int32} {pu : Nat → Nat → Int32} (h : okA P l) (G : GG P nu pu) {p : Nat} (hp : p < 8) : (lotS l nu pu).2.2 2 p - ctr (lotS l nu pu).1 p = pu 2 p - ctr l p := by
  obtain ⟨d, c, k, n, a, q, e, h1, h2, h3, h4, h5, h6, h7, h8⟩ := h
  obtain ⟨g, hg, hgP, hgn⟩ := G.2.1 d (by have := G.1; omega)
  have P8 := G.1
  have eL : goP pu l = pu 5 d - 1 := by rw [e]; unfold goP; rw [ix_nI (by omega)]
  have ec : ctr l p = (if p = c then nI n else 0) - (if p = d then nI n else 0) := by
    rw [e]; unfold ctr
    show (if nI c = nI p then nI n else 0) - (if nI d = nI p then nI n else 0) = _
    rw [eqc (by omega) hp, eqc (by omega) hp]
  unfold lotS
  cases stays nu l with
  | true => rfl
  | false =>
    cases hsp : spoils pu l with
    | true =>
      simp only [cond_true, cond_false]
      rw [ctr_0 (show (spoilS l nu pu).1.n = 0 from rfl), ri_z, ec]
      have : (spoilS l nu pu).2.2 2 p = pu 2 p + (if p = d then nI n else 0) - (if p = c then nI n else 0) := by
        rw [e]
        show updP (updP (updP pu 2 (ix (nI d)) (pu 2 (ix (nI d)) + nI n)) 2 (ix (nI c)) (updP pu 2 (ix (nI d)) (pu 2 (ix (nI d)) + nI n) 2 (ix (nI c)) - nI n)) 4 (ix (nI d)) (pu 4 (ix (nI d)) + nI n) 2 p = _
        rw [ix_nI (by omega), ix_nI (by omega), updP_n (by omega), two_upd h3]
      rw [this]
      simp only [Int32.sub_eq_add_neg, Int32.neg_add, Int32.neg_neg]
      ac_rfl
    | false =>
      simp only [cond_false]
      have hsp' : ¬ pu 5 d - 1 < 0 := fun z => by
        unfold spoils at hsp
        rw [eL, decide_eq_true z] at hsp
        exact Bool.noConfusion hsp
      have g1 : 1 ≤ g := by
        rcases Nat.eq_zero_or_pos g with z | z
        · rw [hg, z] at hsp'; exact absurd (by decide) hsp'
        · exact z
      have eg1 : goP pu l = nI (g - 1) := by rw [eL, hg]; exact q_sub (a := g) (b := 1) g1
      have hdg : d ≠ g - 1 := by omega
      have t2 : (passS l nu pu).2.2 2 p = pu 2 p + (if p = d then nI n else 0) - (if p = g - 1 then nI n else 0) := by
        show updP (updP (updP pu 2 (ix l.1) (pu 2 (ix l.1) + l.2.2.2.1)) 2 (ix (goP pu l)) (updP pu 2 (ix l.1) (pu 2 (ix l.1) + l.2.2.2.1) 2 (ix (goP pu l)) - l.2.2.2.1)) 6 (ix (goP pu l)) (pu 6 (ix (goP pu l)) + l.2.2.2.1) 2 p = _
        rw [eg1, e]
        show updP (updP (updP pu 2 (ix (nI d)) (pu 2 (ix (nI d)) + nI n)) 2 (ix (nI (g - 1))) (updP pu 2 (ix (nI d)) (pu 2 (ix (nI d)) + nI n) 2 (ix (nI (g - 1))) - nI n)) 6 (ix (nI (g - 1))) (pu 6 (ix (nI (g - 1))) + nI n) 2 p = _
        rw [ix_nI (by omega), ix_nI (by omega), updP_n (by omega), two_upd hdg]
      have tc : ctr (passS l nu pu).1 p = (if p = c then nI n else 0) - (if p = g - 1 then nI n else 0) := by
        show ctr (setF (setF (setF l 0 (goP pu l)) 4 0) 5 1) p = _
        rw [eg1, e]; unfold ctr
        show (if nI c = nI p then nI n else 0) - (if nI (g - 1) = nI p then nI n else 0) = _
        rw [eqc (by omega) hp, eqc (by omega) hp]
      rw [t2, tc, ec]
      simp only [Int32.sub_eq_add_neg, Int32.neg_add, Int32.neg_neg]
      have key : ∀ (u x y z : Int32), u + x + -y + (-z + y) = u + (-z + x) := fun u x y z => by
        rw [show u + x + -y + (-z + y) = u + (-z + x) + (y + -y) by ac_rfl, ← Int32.sub_eq_add_neg y y, Int32.sub_self, Int32.add_zero]
      exact key _ _ _ _
theorem weekL_bal {P : Nat} {p : Nat} (hp : p < 8) : ∀ (rest : List Lot) (nu : Nat → Int32) (pu : Nat → Nat → Int32), (∀ l ∈ rest, okA P l) → GG P nu pu →
    (weekL rest nu pu).2.2 2 p - balL (weekL rest nu pu).1 p = pu 2 p - balL rest p ∧ ∀ l ∈ (weekL rest nu pu).1, pos l = true ∨ l.n = 0 := by
  intro rest
  induction rest with
  | nil => intro nu pu _ _; exact ⟨rfl, fun l hl => by cases hl⟩
  | cons l rest ih =>
    intro nu pu hl G
    obtain ⟨i1, i2⟩ := ih (lotS l nu pu).2.1 (lotS l nu pu).2.2 (fun x hx => hl x (List.mem_cons_of_mem _ hx)) (lotS_GG G)
    have hb := lotS_bal (hl l List.mem_cons_self) G hp
    refine ⟨?_, fun x hx => ?_⟩
    · show (weekL rest (lotS l nu pu).2.1 (lotS l nu pu).2.2).2.2 2 p - (ctr (lotS l nu pu).1 p + balL (weekL rest (lotS l nu pu).2.1 (lotS l nu pu).2.2).1 p) = pu 2 p - (ctr l p + balL rest p)
      have k1 : ∀ (x y z : Int32), x - (y + z) = x - z - y := fun x y z => by
        simp only [Int32.sub_eq_add_neg, Int32.neg_add]; ac_rfl
      have k2 : ∀ (x y z : Int32), x - y - z = x - z - y := fun x y z => by
        simp only [Int32.sub_eq_add_neg]; ac_rfl
      rw [k1, i1, k2, hb, ← k1, Int32.add_comm]
    · rcases List.mem_cons.mp hx with m | m
      · rw [m]
        obtain ⟨d, c, k, n, a, q, e, h1, h2, h3, h4, h5, h6, h7, h8⟩ := hl l List.mem_cons_self
        have hpl : ∀ x : Lot, x.n = nI n → pos x = true := fun x hx => pos_t (by rw [hx]; exact nI_nle (by omega) (by omega))
        unfold lotS
        cases stays nu l with
        | true => exact Or.inl (hpl l (by rw [e]))
        | false =>
          cases spoils pu l with
          | true => exact Or.inr rfl
          | false => exact Or.inl (hpl _ (by rw [e]; rfl))
      · exact i2 x m
theorem sub_inj {x y z w : Int32} (h : x - y = z - w) (e : z = w) : x = y := by
  rw [e, Int32.sub_self] at h
  have := congrArg (fun t => t + y) h
  simp only [Int32.sub_eq_add_neg, Int32.zero_add] at this
  rw [Int32.add_assoc, Int32.add_comm (-y) y, ← Int32.sub_eq_add_neg y y, Int32.sub_self, Int32.add_zero] at this
  exact this
theorem weekS_bal {a : AS} (ho : OK a) (hb : BAL a) : BAL (weekS a) := by
  obtain ⟨P, hP, hl, G, h40⟩ := ho.GG
  have ha : ∀ l ∈ a.1.map age, okA P l := fun l hx => by
    obtain ⟨x, hy, rfl⟩ := List.mem_map.mp hx
    exact (hl x hy).age
  unfold weekS
  by_cases c : a.2.1 10 = 0
  · rw [decide_eq_true c]
    intro p hp
    obtain ⟨w1, w2⟩ := weekL_bal hp (a.1.map age) (upd a.2.1 0 (a.2.1 0 + 1)) a.2.2 ha G
    show (weekL (a.1.map age) (upd a.2.1 0 (a.2.1 0 + 1)) a.2.2).2.2 2 p = balL ((weekL (a.1.map age) (upd a.2.1 0 (a.2.1 0 + 1)) a.2.2).1.filter pos) p
    rw [balL_filter _ w2]
    exact sub_inj w1 (by rw [balL_age]; exact hb p hp)
  · rw [decide_eq_false c]; exact hb
theorem weeksN_bal : ∀ (n : Nat) (a : AS) (w : Nat), OK a → a.2.1 0 = nI w → w + n ≤ 999 → BAL a → BAL (weeksN n a) := by
  intro n
  induction n with
  | zero => intro a w _ _ _ h; exact h
  | succ n ih =>
    intro a w ho hw h9 h
    obtain ⟨o1, o2⟩ := weekS_ok ho hw (by omega)
    exact ih (weekS a) (w + 1) o1 o2 (by omega) (weekS_bal ho h)
/- rings -/
theorem trn_bal {k : Nat} {L N : Nat} {P : Nat → Nat} {m : Nat} (hp : PI L P) (hm : m < 2 ^ 31) (h2 : 2 ≤ L) {p : Nat} (hp8 : p < 8) : ∀ (n i : Nat) (x : LPU), i + (n + 1) = L → (∀ l ∈ x.1, okL N l) → x.1.length ≤ 40 → EN (nI k) x.1 L P m i →
    balL (trn (nI k) L P m (n + 1) i x).1 p = balL x.1 p + (if p = P i then nI m else 0) - (if p = P 0 then nI m else 0) ∧ (trn (nI k) L P m (n + 1) i x).2 2 = x.2 2 := by
  intro n
  induction n with
  | zero =>
    intro i x hi hl h40 hE
    have hok := okL.okN hl
    have hnx : nx L i = 0 := by unfold nx; rw [if_neg (by omega)]
    have := tk_bal (P := mtE (nI (P i)) (nI (P (nx L i))) (nI k)) (d := P i) (c := P (nx L i)) (p := p) (q := m) (mtE_nfree _ _ _) (fun l hl => mtE_m hl) (hp.1 i (by omega)) (hp.1 _ (nx_lt (by omega))) (fun z => by have := hp.2 i _ (by omega) (nx_lt (by omega)) z; omega) hp8 hok h40 hm (hE i (Nat.le_refl _) (by omega))
    rw [hnx] at this
    refine ⟨?_, updP_r (f := x.2) (r := 7) (p := P i) (x := x.2 7 (P i) + nI m) (r' := 2) (by decide)⟩
    show balL (tkL (nI k) m (P i) (P (nx L i)) x.1) p = _
    rw [hnx]
    exact this
  | succ n ih =>
    intro i x hi hl h40 hE
    have hok := okL.okN hl
    have hnx : nx L i = i + 1 := by unfold nx; rw [if_pos (by omega)]
    have hne : P i ≠ P (nx L i) := fun z => by have := hp.2 i _ (by omega) (nx_lt (by omega)) z; omega
    have h1 := tk_bal (P := mtE (nI (P i)) (nI (P (nx L i))) (nI k)) (d := P i) (c := P (nx L i)) (p := p) (q := m) (mtE_nfree _ _ _) (fun l hl => mtE_m hl) (hp.1 i (by omega)) (hp.1 _ (nx_lt (by omega))) hne hp8 hok h40 hm (hE i (Nat.le_refl _) (by omega))
    have hl2 : ∀ l ∈ tkL (nI k) m (P i) (P (nx L i)) x.1, okL N l := fun l hx => by
      obtain ⟨m1, m2⟩ := List.mem_filter.mp hx
      exact (takL_okZ 40 m x.1 hm (fun l hl' => (hl l hl').z) l m1).l m2
    obtain ⟨i1, i2⟩ := ih (i + 1) (tkL (nI k) m (P i) (P (nx L i)) x.1, updP x.2 7 (P i) (x.2 7 (P i) + nI m)) (by omega) hl2 (tk_len h40) (hE.step hp hok h40 hm (by omega))
    refine ⟨?_, ?_⟩
    · show balL (trn (nI k) L P m (n + 1) (i + 1) (tkL (nI k) m (P i) (P (nx L i)) x.1, updP x.2 7 (P i) (x.2 7 (P i) + nI m))).1 p = _
      rw [i1]
      show balL (tkL (nI k) m (P i) (P (nx L i)) x.1) p + _ - _ = _
      rw [show balL (tkL (nI k) m (P i) (P (nx L i)) x.1) p = _ from h1, hnx]
      have key : ∀ (u x y z : Int32), u + x - y + y - z = u + x - z := fun u x y z => by
        simp only [Int32.sub_eq_add_neg]
        rw [show u + x + -y + y + -z = u + x + -z + (y + -y) by ac_rfl, ← Int32.sub_eq_add_neg y y, Int32.sub_self, Int32.add_zero]
      exact key _ _ _ _
    · show (trn (nI k) L P m (n + 1) (i + 1) (tkL (nI k) m (P i) (P (nx L i)) x.1, updP x.2 7 (P i) (x.2 7 (P i) + nI m))).2 2 = _
      rw [i2]
      exact updP_r (f := x.2) (r := 7) (p := P i) (x := x.2 7 (P i) + nI m) (r' := 2) (by decide)
theorem turn_bal {k : Nat} {a : AS} (ho : OK a) (hb : BAL a) (hR : Ring (WN (nI k) a.1) (rgL (WN (nI k) a.1)) (rgP (WN (nI k) a.1))) (h0 : 0 < rgL (WN (nI k) a.1)) : BAL (turnS (nI k) a) := by
  obtain ⟨o1, o2, o3, o4, o5, o6⟩ := turn_ok ho hR h0
  obtain ⟨f1, f2, f3, f4, f5⟩ := hR.rf (WN_le ho _) h0
  obtain ⟨P, hP, hl, G, h40⟩ := ho.GG
  intro p hp
  obtain ⟨n, hn⟩ : ∃ n, rgL (WN (nI k) a.1) = n + 1 := ⟨rgL (WN (nI k) a.1) - 1, by omega⟩
  obtain ⟨t1, t2⟩ := trn_bal o5 (m := rgA (WN (nI k) a.1)) (by omega) f1 hp n 0 (a.1, a.2.2) (by omega) hl h40 o6
  show (trn (nI k) (rgL (WN (nI k) a.1)) (rgP (WN (nI k) a.1)) (rgA (WN (nI k) a.1)) (rgL (WN (nI k) a.1)) 0 (a.1, a.2.2)).2 2 p = balL (trn (nI k) (rgL (WN (nI k) a.1)) (rgP (WN (nI k) a.1)) (rgA (WN (nI k) a.1)) (rgL (WN (nI k) a.1)) 0 (a.1, a.2.2)).1 p
  have e : trn (nI k) (rgL (WN (nI k) a.1)) (rgP (WN (nI k) a.1)) (rgA (WN (nI k) a.1)) (rgL (WN (nI k) a.1)) 0 (a.1, a.2.2) = trn (nI k) (rgL (WN (nI k) a.1)) (rgP (WN (nI k) a.1)) (rgA (WN (nI k) a.1)) (n + 1) 0 (a.1, a.2.2) := by
    rw [← hn]
  rw [e, t2, t1]
  show a.2.2 2 p = balL a.1 p + _ - _
  rw [hb p hp]
  have key : ∀ (u x : Int32), u = u + x - x := fun u x => by
    rw [Int32.sub_eq_add_neg, Int32.add_assoc, ← Int32.sub_eq_add_neg x x, Int32.sub_self, Int32.add_zero]
  exact key _ _
/- there is always a next ring, or none -/
theorem ring_all {a : AS} (ho : OK a) (kd : Int32) : Ring (WN kd a.1) (rgL (WN kd a.1)) (rgP (WN kd a.1)) := by
  obtain ⟨P, hP, hl, G, h40⟩ := ho.GG
  have hx : ∀ i : Nat, ∃ x : Int32, ∀ l, a.1[i]? = some l → PK x l := fun i => by
    cases e : a.1[i]? with
    | none => exact ⟨0, fun l z => by cases z⟩
    | some l =>
      obtain ⟨d, c, k, n, b, p, e', h1, h2, h3, h4, h5, h6, h7, h8⟩ := hl l (List.mem_of_getElem? e)
      have g8 := G.1
      exact ⟨nI (pkN d c k n b p), fun l' z => by cases z; exact ⟨d, c, k, n, b, p, e', rfl, by omega, by omega, h4, by omega, by omega, h8⟩⟩
  obtain ⟨f, hf⟩ := Classical.axiomOfChoice hx
  obtain ⟨_, _, _, h⟩ := l_ring (fl := f) (ft := fun _ => nI a.1.length) ⟨rfl, h40, fun i l e => hf i l e⟩ ho (fun _ => 0) kd
  exact h
theorem clrN_bal {k : Nat} : ∀ (n s : Nat) (a : AS), OK a → BAL a → BAL (clrN (nI k) n a s).2 := by
  intro n
  induction n with
  | zero => intro s a _ h; exact h
  | succ n ih =>
    intro s a ho h
    unfold clrN
    by_cases c : rgL (WN (nI k) a.1) = 0
    · rw [if_pos c]; exact h
    · rw [if_neg c]
      have hR := ring_all ho (nI k)
      exact ih _ _ (turn_ok ho hR (by omega)).1 (turn_bal ho h hR (by omega))
theorem clearS_bal {a : AS} (ho : OK a) (hb : BAL a) (k : Nat) : BAL (clearS a (nI k)).2 := by
  unfold clearS
  cases kIn (nI k) 0 3 with
  | false => exact hb
  | true => exact clrN_bal 360 0 a ho hb

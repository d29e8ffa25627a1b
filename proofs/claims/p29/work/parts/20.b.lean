/- the oldest lot, told without places -/
def OLD (P : Lot → Bool) (pre : List Lot) (l : Lot) (post : List Lot) : Prop :=
  P l = true ∧ pos l = true ∧ (∀ x ∈ pre, P x = true → pos x = true → x.a < l.a) ∧ (∀ x ∈ post, P x = true → pos x = true → x.a ≤ l.a)
theorem oldF_app (P : Lot → Bool) : ∀ (xs ys : List Lot) (k : Nat) (cur : Option (Nat × Int32)), oldF P (xs ++ ys) k cur = oldF P ys (k + xs.length) (oldF P xs k cur) := by
  intro xs
  induction xs with
  | nil => intro ys k cur; rfl
  | cons x xs ih =>
    intro ys k cur
    rw [List.cons_append, oldF, ih, oldF, List.length_cons, show k + 1 + xs.length = k + (xs.length + 1) by omega]
theorem oldF_bd {P : Lot → Bool} {Q : Int32 → Prop} : ∀ (xs : List Lot) (k : Nat) (cur : Option (Nat × Int32)), (∀ x ∈ xs, P x = true → pos x = true → Q x.a) → (∀ i b, cur = some (i, b) → Q b) → ∀ i b, oldF P xs k cur = some (i, b) → Q b := by
  intro xs
  induction xs with
  | nil => intro k cur _ h i b e; exact h i b e
  | cons x xs ih =>
    intro k cur h1 h2 i b e
    rw [oldF] at e
    refine ih (k + 1) _ (fun y hy => h1 y (List.mem_cons_of_mem _ hy)) (fun i' b' e' => ?_) i b e
    by_cases c : (P x && pos x && better cur x.a) = true
    · rw [if_pos c] at e'
      cases e'
      rw [Bool.and_eq_true, Bool.and_eq_true] at c
      exact h1 x List.mem_cons_self c.1.1 c.1.2
    · rw [if_neg c] at e'
      exact h2 i' b' e'
theorem oldF_keep {P : Lot → Bool} {j : Nat} {b : Int32} : ∀ (xs : List Lot) (k : Nat), (∀ x ∈ xs, P x = true → pos x = true → x.a ≤ b) → oldF P xs k (some (j, b)) = some (j, b) := by
  intro xs
  induction xs with
  | nil => intro k _; rfl
  | cons x xs ih =>
    intro k h
    rw [oldF]
    have c : ¬ (P x && pos x && better (some (j, b)) x.a) = true := by
      intro c
      rw [Bool.and_eq_true, Bool.and_eq_true] at c
      have h1 := h x List.mem_cons_self c.1.1 c.1.2
      have h2 : b < x.a := of_decide_eq_true c.2
      exact Int32.not_lt.mpr h1 h2
    rw [if_neg c]
    exact ih (k + 1) (fun y hy => h y (List.mem_cons_of_mem _ hy))
theorem oldF_dec {P : Lot → Bool} {pre post : List Lot} {l : Lot} (h : OLD P pre l post) : oldF P (pre ++ l :: post) 0 none = some (pre.length, l.a) := by
  obtain ⟨h1, h2, h3, h4⟩ := h
  rw [oldF_app, Nat.zero_add, oldF]
  have hb : better (oldF P pre 0 none) l.a = true := by
    match e : oldF P pre 0 none with
    | none => rfl
    | some (i, b) => exact decide_eq_true (oldF_bd (Q := fun b => b < l.a) pre 0 none h3 (fun _ _ z => by cases z) i b e)
  rw [h1, h2, hb, if_pos (show (true && true && true) = true from rfl)]
  exact oldF_keep post _ h4
theorem oldF_no {P : Lot → Bool} : ∀ (ls : List Lot) (k : Nat), (∀ x ∈ ls, ¬ (P x = true ∧ pos x = true)) → oldF P ls k none = none := by
  intro ls
  induction ls with
  | nil => intro k _; rfl
  | cons x ls ih =>
    intro k h
    rw [oldF, if_neg (fun c => by
      rw [Bool.and_eq_true, Bool.and_eq_true] at c
      exact h x List.mem_cons_self c.1)]
    exact ih (k + 1) (fun y hy => h y (List.mem_cons_of_mem _ hy))
theorem old_ex (P : Lot → Bool) : ∀ (ls : List Lot), (∀ x ∈ ls, ¬ (P x = true ∧ pos x = true)) ∨ ∃ pre l post, ls = pre ++ l :: post ∧ OLD P pre l post := by
  intro ls
  induction ls with
  | nil => exact Or.inl (fun x hx => by cases hx)
  | cons x ls ih =>
    by_cases c : P x = true ∧ pos x = true
    · refine Or.inr ?_
      rcases ih with h | ⟨pre, l, post, e, h1, h2, h3, h4⟩
      · exact ⟨[], x, ls, rfl, c.1, c.2, (fun y hy => by cases hy), fun y hy a b => absurd ⟨a, b⟩ (h y hy)⟩
      · by_cases g : l.a ≤ x.a
        · refine ⟨[], x, ls, rfl, c.1, c.2, (fun y hy => by cases hy), fun y hy a b => ?_⟩
          rw [e] at hy
          rcases List.mem_append.mp hy with m | m
          · exact Int32.le_trans (Int32.le_of_lt (h3 y m a b)) g
          · rcases List.mem_cons.mp m with m | m
            · rw [m]; exact g
            · exact Int32.le_trans (h4 y m a b) g
        · refine ⟨x :: pre, l, post, by rw [e]; rfl, h1, h2, fun y hy a b => ?_, h4⟩
          rcases List.mem_cons.mp hy with m | m
          · rw [m]; exact Int32.not_le.mp g
          · exact h3 y m a b
    · rcases ih with h | ⟨pre, l, post, e, h1, h2, h3, h4⟩
      · refine Or.inl (fun y hy => ?_)
        rcases List.mem_cons.mp hy with m | m
        · rw [m]; exact c
        · exact h y m
      · refine Or.inr ⟨x :: pre, l, post, by rw [e]; rfl, h1, h2, fun y hy a b => ?_, h4⟩
        rcases List.mem_cons.mp hy with m | m
        · rw [m] at a b; exact absurd ⟨a, b⟩ c
        · exact h3 y m a b
theorem old_of {P : Lot → Bool} {ls : List Lot} {j : Nat} {a : Int32} (h : oldF P ls 0 none = some (j, a)) : ∃ pre l post, ls = pre ++ l :: post ∧ OLD P pre l post ∧ j = pre.length ∧ a = l.a := by
  rcases old_ex P ls with g | ⟨pre, l, post, e, g⟩
  · rw [oldF_no ls 0 g] at h; cases h
  · have := oldF_dec g
    rw [← e, h] at this
    injection this with this
    injection this with a1 a2
    exact ⟨pre, l, post, e, g, a1, a2⟩
theorem OLD.filter {P : Lot → Bool} {pre post : List Lot} {l : Lot} (h : OLD P pre l post) : OLD P (pre.filter pos) l (post.filter pos) :=
  ⟨h.1, h.2.1, fun x hx => h.2.2.1 x (List.mem_filter.mp hx).1, fun x hx => h.2.2.2 x (List.mem_filter.mp hx).1⟩
theorem filter_mid {pre post : List Lot} {l : Lot} : (pre ++ l :: post).filter pos = if pos l = true then pre.filter pos ++ l :: post.filter pos else pre.filter pos ++ post.filter pos := by
  rw [List.filter_append, List.filter_cons]
  split <;> rfl
theorem setN_mid {post : List Lot} {l : Lot} {x : Int32} : ∀ (pre : List Lot), setN (pre ++ l :: post) pre.length x = pre ++ withN l x :: post := by
  intro pre
  induction pre with
  | nil => rfl
  | cons y pre ih => show y :: setN (pre ++ l :: post) pre.length x = _; rw [ih]; rfl
theorem setN_setN {x y : Int32} : ∀ (ls : List Lot) (j : Nat), setN (setN ls j x) j y = setN ls j y := by
  intro ls
  induction ls with
  | nil => intro j; rfl
  | cons l ls ih =>
    intro j
    cases j with
    | zero => rfl
    | succ j => show l :: setN (setN ls j x) j y = l :: setN ls j y; rw [ih]
/- favours taken one by one are taken as many as are needed from each -/
theorem takL_0 {P : Lot → Bool} {t : Nat} {ls : List Lot} : takL P t (nI 0) ls = ls := by
  cases t with
  | zero => rfl
  | succ t => rw [takL, if_pos (by decide)]
theorem takL_one {P : Lot → Bool} (hP : nfree P) {pre post : List Lot} {l : Lot} {s q t : Nat} (h : OLD P pre l post) (hn : l.n = nI (s + 1)) (h9 : s + 1 ≤ 9) (hq : q + 1 < 2 ^ 31) :
    takL P (t + 1) (nI (q + 1)) (pre ++ l :: post) = takL P (if s = 0 then t else t + 1) (nI q) (pre ++ withN l (nI s) :: post) := by
  have hg : getN (pre ++ l :: post) pre.length = nI (s + 1) := by unfold getN; rw [List.getElem?_append_right (Nat.le_refl _), Nat.sub_self]; exact hn
  have e1 : takL P (t + 1) (nI (q + 1)) (pre ++ l :: post) = takL P t (nI (q + 1 - min (s + 1) (q + 1))) (pre ++ withN l (nI (s + 1 - min (s + 1) (q + 1))) :: post) := by
    rw [takL, if_neg (nI_nle (by omega) hq), oldF_dec h]
    dsimp only
    rw [hg, mn_nI h9 hq, q_sub (by omega), q_sub (by omega), setN_mid]
  rw [e1]
  by_cases c : s = 0
  · subst c
    rw [if_pos rfl, show min (0 + 1) (q + 1) = 1 by omega]
    rfl
  · rw [if_neg c]
    by_cases c2 : q = 0
    · subst c2
      rw [show min (s + 1) (0 + 1) = 1 by omega, takL_0, takL_0]
      rfl
    · have hl' : OLD P pre (withN l (nI s)) post := ⟨by rw [hP]; exact h.1, pos_t (l := withN l (nI s)) (nI_nle (by omega) (by omega)), h.2.2.1, h.2.2.2⟩
      have hg2 : getN (pre ++ withN l (nI s) :: post) pre.length = nI s := by unfold getN; rw [List.getElem?_append_right (Nat.le_refl _), Nat.sub_self]; rfl
      obtain ⟨q', rfl⟩ : ∃ q', q = q' + 1 := ⟨q - 1, by omega⟩
      rw [takL, if_neg (nI_nle (by omega) (by omega)), oldF_dec hl']
      dsimp only
      rw [hg2, mn_nI (by omega) (by omega), q_sub (by omega), q_sub (by omega), setN_mid]
      have e3 : q' + 1 + 1 - min (s + 1) (q' + 1 + 1) = q' + 1 - min s (q' + 1) := by omega
      have e4 : s + 1 - min (s + 1) (q' + 1 + 1) = s - min s (q' + 1) := by omega
      rw [e3, e4]
      rfl
theorem cnt_mid {P : Lot → Bool} {post : List Lot} {l : Lot} : ∀ (pre : List Lot), cntN P (pre ++ l :: post) = cntN P (pre ++ post) + (if P l && pos l then 1 else 0) := by
  intro pre
  induction pre with
  | nil => rw [List.nil_append, List.nil_append, cntN]; omega
  | cons y pre ih => rw [List.cons_append, List.cons_append, cntN, cntN, ih]; omega
theorem sumN_mid {P : Lot → Bool} {post : List Lot} {l : Lot} : ∀ (pre : List Lot), sumN P (pre ++ l :: post) = sumN P (pre ++ post) + (if P l then l.n.toNatClampNeg else 0) := by
  intro pre
  induction pre with
  | nil => rw [List.nil_append, List.nil_append, sumN]; omega
  | cons y pre ih => rw [List.cons_append, List.cons_append, sumN, sumN, ih]; omega
/- the law looks for the oldest lot -/
theorem l_tak_l {fl ft : Nat → Int32} {d c k : Nat} (hd : d < 8) (hc : c < 8) (hk : k < 4) (p5 : Int32) (k4 : (Nat → Int32) → (Nat → Int32) → Int32 → Option ((Nat → Int32) × (Nat → Int32))) (x6 : Int32) :
    ∀ (rest dn : List Lot) (fu : Nat) (cur : Option (Nat × Int32)), rest.length < fu → LW fl ft (dn ++ rest) → (∀ l ∈ rest, pos l = true) → (∀ j a, cur = some (j, a) → j < 40 ∧ L_age (fl j) = some a) →
    L_take_l15 (nI d) (nI c) (nI k) p5 k4 fu fl ft x6 (fIdx (-1) cur) (nI dn.length) = L_take_b95 (nI d) (nI c) (nI k) p5 k4 fl ft x6 (fIdx (-1) (oldF (mtE (nI d) (nI c) (nI k)) rest dn.length cur)) := by
  intro rest
  induction rest with
  | nil =>
    intro dn fu cur hf h hp hcu
    obtain ⟨fu, rfl⟩ : ∃ f, fu = f + 1 := ⟨fu - 1, by omega⟩
    obtain ⟨h1, h2⟩ := h.len
    simp only [List.length_nil] at h1 h2
    rw [L_take_l15, r16_2, Option.bind_some, h1, if_pos (nI_le (by omega) (by omega))]
    rfl
  | cons l rest ih =>
    intro dn fu cur hf h hp hcu
    simp only [List.length_cons] at hf
    obtain ⟨fu, rfl⟩ : ∃ f, fu = f + 1 := ⟨fu - 1, by omega⟩
    obtain ⟨h1, h2⟩ := h.len
    have hpk := h.at
    rw [snoc_app] at h
    simp only [List.length_cons] at h1 h2
    have hpl := hp l List.mem_cons_self
    have ihh := fun cur hcu => ih (dn ++ [l]) fu cur (by omega) h (fun y hy => hp y (List.mem_cons_of_mem _ hy)) hcu
    rw [snoc_len] at ihh
    rw [L_take_l15, r16_2, Option.bind_some, h1, if_neg (nI_ge (by omega) (by omega)), q_ld (by omega) (by decide), Option.bind_some, oldF, hpl, Bool.and_true]
    by_cases e : mtE (nI d) (nI c) (nI k) l = true
    · rw [if_pos ((l_key hpk hd hc hk).mpr e), L_take_b51, if_neg (by decide), e, Bool.true_and, q_1]
      have hnew : ∀ j a, some (dn.length, l.a) = some (j, a) → j < 40 ∧ L_age (fl j) = some a := by
        intro j a z
        cases z
        exact ⟨by omega, l_age hpk⟩
      match cur, hcu with
      | none, hcu =>
        rw [if_pos (show fIdx (-1) none < (0 : Int32) by decide)]
        exact ihh (some (dn.length, l.a)) hnew
      | some (j, b), hcu =>
        obtain ⟨hj, hb⟩ := hcu j b rfl
        rw [if_neg (show ¬ fIdx (-1) (some (j, b)) < (0 : Int32) from nI_pos (by omega)), q_ld (by omega) (by decide), Option.bind_some, l_age hpk, Option.bind_some, show fIdx (-1) (some (j, b)) = nI j from rfl, q_ld (by omega) (by decide), Option.bind_some, hb, Option.bind_some]
        by_cases ha : l.a ≤ b
        · rw [if_pos ha]
          have hbt : better (some (j, b)) l.a = false := decide_eq_false (Int32.not_lt.mpr ha)
          rw [hbt]
          exact ihh (some (j, b)) hcu
        · rw [if_neg ha]
          have hbt : better (some (j, b)) l.a = true := decide_eq_true (Int32.not_le.mp ha)
          rw [hbt]
          exact ihh (some (dn.length, l.a)) hnew
    · rw [if_neg (fun z => e ((l_key hpk hd hc hk).mp z)), L_take_b51, if_pos rfl, q_1, show mtE (nI d) (nI c) (nI k) l = false by simpa using e]
      exact ihh cur hcu
theorem LW.upd {fl ft : Nat → Int32} {dn rest : List Lot} {l l' : Lot} {x : Int32} (h : LW fl ft (dn ++ l :: rest)) (hp : PK x l') : LW (upd fl dn.length x) ft (dn ++ l' :: rest) := by
  obtain ⟨h1, h2, h3⟩ := h
  refine ⟨by rw [h1]; simp, by simpa using h2, fun i y hy => ?_⟩
  by_cases c : i = dn.length
  · subst c
    rw [List.getElem?_append_right (Nat.le_refl _), Nat.sub_self] at hy
    cases hy
    rw [q_up]; exact hp
  · rw [q_un c]
    refine h3 i y ?_
    by_cases c2 : i < dn.length
    · rw [List.getElem?_append_left c2] at hy ⊢; exact hy
    · rw [List.getElem?_append_right (by omega)] at hy ⊢
      obtain ⟨j, hj⟩ : ∃ j, i - dn.length = j + 1 := ⟨i - dn.length - 1, by omega⟩
      rw [hj, List.getElem?_cons_succ] at hy ⊢
      exact hy
theorem PK.less {x : Int32} {l : Lot} {s : Nat} (h : PK x l) (hn : l.n = nI (s + 1)) (h9 : s + 1 ≤ 9) : PK (x - (256 : Int32)) (withN l (nI s)) := by
  obtain ⟨d, c, k, n, a, p, rfl, rfl, h1, h2, h3, h4, h5, h6⟩ := h
  have hn : nI n = nI (s + 1) := hn
  have e : n = s + 1 := (nI_eq (by omega) (by omega)).mp hn
  subst e
  refine ⟨d, c, k, s, a, p, rfl, ?_, h1, h2, h3, by omega, h5, h6⟩
  rw [show (256 : Int32) = nI 256 from rfl, q_sub (by unfold pkN; omega)]
  exact congrArg nI (by unfold pkN; omega)
theorem l_take_l {d c k : Nat} (hd : d < 8) (hc : c < 8) (hk : k < 4) (p5 : Int32) : ∀ (q t fu : Nat) (fl ft : Nat → Int32) (ls : List Lot), q < fu → q < 2 ^ 31 → LW fl ft (ls.filter pos) → okN ls → q ≤ sumN (mtE (nI d) (nI c) (nI k)) ls → (q = 0 ∨ cntN (mtE (nI d) (nI c) (nI k)) ls ≤ t) →
    ∃ fl' ft', L_take_l4 (nI d) (nI c) (nI k) p5 fu fl ft (nI q) = some (fl', ft') ∧ LW fl' ft' ((takL (mtE (nI d) (nI c) (nI k)) t (nI q) ls).filter pos) ∧ ∀ i, i ≠ 2 → ft' i = ft i := by
  intro q
  induction q with
  | zero =>
    intro t fu fl ft ls hf h31 h hok hq ht
    obtain ⟨fu, rfl⟩ : ∃ f, fu = f + 1 := ⟨fu - 1, by omega⟩
    exact ⟨fl, ft, by rw [L_take_l4, if_pos (by decide)], by rw [takL_0]; exact h, fun _ _ => rfl⟩
  | succ q ih =>
    intro t fu fl ft ls hf h31 h hok hq ht
    obtain ⟨fu, rfl⟩ : ∃ f, fu = f + 1 := ⟨fu - 1, by omega⟩
    rcases old_ex (mtE (nI d) (nI c) (nI k)) ls with g | ⟨pre, l, post, e, g⟩
    · exfalso
      have hz : cntN (mtE (nI d) (nI c) (nI k)) ls = 0 := by
        clear h hok hq ht ih
        induction ls with
        | nil => rfl
        | cons x ls ihl =>
          rw [cntN, ihl (fun y hy => g y (List.mem_cons_of_mem _ hy)), if_neg (fun z => by rw [Bool.and_eq_true] at z; exact g x List.mem_cons_self z)]
      have := sum0_of_cnt0 hok hz
      omega
    · subst e
      obtain ⟨s0, hs0, h9⟩ := hok l (by simp)
      have hs1 : 0 < s0 := by
        have := g.2.1
        rw [pos_nI hs0 h9] at this
        exact of_decide_eq_true this
      obtain ⟨s, rfl⟩ : ∃ s, s0 = s + 1 := ⟨s0 - 1, by omega⟩
      have hok' : okN (pre ++ withN l (nI s) :: post) := by
        intro y hy
        rcases List.mem_append.mp hy with m | m
        · exact hok y (List.mem_append.mpr (Or.inl m))
        · rcases List.mem_cons.mp m with m | m
          · exact ⟨s, by rw [m]; rfl, by omega⟩
          · exact hok y (List.mem_append.mpr (Or.inr (List.mem_cons_of_mem _ m)))
      have hq' : q ≤ sumN (mtE (nI d) (nI c) (nI k)) (pre ++ withN l (nI s) :: post) := by
        rw [sumN_mid, if_pos g.1, hs0, nI_clamp (by omega)] at hq
        rw [sumN_mid, if_pos (show mtE (nI d) (nI c) (nI k) (withN l (nI s)) = true from g.1), show (withN l (nI s)).n = nI s from rfl, nI_clamp (by omega)]
        omega
      obtain ⟨t, rfl⟩ : ∃ t', t = t' + 1 := by
        refine ⟨t - 1, ?_⟩
        rcases ht with z | z
        · omega
        · rw [cnt_mid, if_pos (by rw [g.1, g.2.1]; rfl)] at z
          omega
      have ht' : q = 0 ∨ cntN (mtE (nI d) (nI c) (nI k)) (pre ++ withN l (nI s) :: post) ≤ (if s = 0 then t else t + 1) := by
        rcases ht with z | z
        · omega
        · refine Or.inr ?_
          rw [cnt_mid, if_pos (by rw [g.1, g.2.1]; rfl)] at z
          rw [cnt_mid]
          by_cases c0 : s = 0
          · subst c0
            rw [if_pos rfl, show pos (withN l (nI 0)) = false from rfl, Bool.and_false, if_neg (by decide)]
            omega
          · rw [if_neg c0]
            split <;> omega
      rw [takL_one (mtE_nfree _ _ _) g hs0 h9 (by omega)]
      rw [filter_mid, if_pos g.2.1] at h
      have hpk := h.at
      have gf := g.filter
      have hlen := h.len
      simp only [List.length_cons] at hlen
      have hscan := l_tak_l hd hc hk p5 (L_take_l4 (nI d) (nI c) (nI k) p5 fu) (nI (q + 1)) (pre.filter pos ++ l :: post.filter pos) [] FU none (by rw [List.length_append, List.length_cons]; unfold FU; omega) (by rw [List.nil_append]; exact h) (fun y hy => by
        rcases List.mem_append.mp hy with m | m
        · exact (List.mem_filter.mp m).2
        · rcases List.mem_cons.mp m with m | m
          · rw [m]; exact g.2.1
          · exact (List.mem_filter.mp m).2) (fun j a z => by cases z)
      rw [show ([] : List Lot).length = 0 from rfl, oldF_dec gf] at hscan
      have hpk2 := hpk.less hs0 h9
      have h' := h.upd hpk2
      have hm1 : nI (q + 1) + (-1 : Int32) = nI q := pk_m1 q
      have hb95 : L_take_b95 (nI d) (nI c) (nI k) p5 (L_take_l4 (nI d) (nI c) (nI k) p5 fu) fl ft (nI (q + 1)) (fIdx (-1) (some ((pre.filter pos).length, l.a))) =
          (if nI s = (0 : Int32) then (L_out (upd fl (pre.filter pos).length (fl (pre.filter pos).length - (256 : Int32))) ft (nI (pre.filter pos).length)).bind fun u6 => L_take_l4 (nI d) (nI c) (nI k) p5 fu u6.1 u6.2 (nI q) else L_take_l4 (nI d) (nI c) (nI k) p5 fu (upd fl (pre.filter pos).length (fl (pre.filter pos).length - (256 : Int32))) ft (nI q)) := by
        rw [show fIdx (-1) (some ((pre.filter pos).length, l.a)) = nI (pre.filter pos).length from rfl, L_take_b95, q_ld (by omega) (by decide), Option.bind_some, q_st (by omega) (by decide), Option.bind_some, q_ld (by omega) (by decide), Option.bind_some, q_up, l_many hpk2, Option.bind_some, hm1]
        rfl
      have hl4 : L_take_l4 (nI d) (nI c) (nI k) p5 (fu + 1) fl ft (nI (q + 1)) = L_take_l15 (nI d) (nI c) (nI k) p5 (L_take_l4 (nI d) (nI c) (nI k) p5 fu) FU fl ft (nI (q + 1)) (fIdx (-1) none) (nI 0) := by
        rw [L_take_l4, if_neg (nI_nle (by omega) h31)]
        rfl
      rw [hl4, hscan, hb95]
      by_cases c0 : s = 0
      · subst c0
        rw [if_pos rfl]
        obtain ⟨fl2, e2, w2⟩ := l_out h'
        rw [e2, Option.bind_some]
        obtain ⟨fl', ft', a1, a2, a3⟩ := ih (if 0 = 0 then t else t + 1) fu fl2 (upd ft 2 (nI ((pre.filter pos).length + (post.filter pos).length))) (pre ++ withN l (nI 0) :: post) (by omega) (by omega) (by rw [filter_mid, if_neg (by rw [show pos (withN l (nI 0)) = false from rfl]; decide)]; exact w2) hok' hq' ht'
        exact ⟨fl', ft', a1, a2, fun i hi => by rw [a3 i hi, q_un hi]⟩
      · rw [if_neg (nI_ne0 (by omega) (by omega))]
        have hpos : pos (withN l (nI s)) = true := pos_t (l := withN l (nI s)) (nI_nle (by omega) (by omega))
        obtain ⟨fl', ft', a1, a2, a3⟩ := ih (if s = 0 then t else t + 1) fu _ ft (pre ++ withN l (nI s) :: post) (by omega) (by omega) (by rw [filter_mid, if_pos hpos]; exact h') hok' hq' ht'
        exact ⟨fl', ft', a1, a2, a3⟩
theorem filter_pos {ls : List Lot} (h : ∀ l ∈ ls, pos l = true) : ls.filter pos = ls := List.filter_eq_self.mpr h
theorem l_take {fl ft : Nat → Int32} {ls : List Lot} {d c k q : Nat} (hd : d < 8) (hc : c < 8) (hk : k < 4) (h : LW fl ft ls) (hok : okN ls) (hp : ∀ l ∈ ls, pos l = true) (hq : q ≤ sumN (mtE (nI d) (nI c) (nI k)) ls) :
    ∃ fl' ft', L_take fl ft (nI d) (nI c) (nI k) (nI q) = some (fl', ft') ∧ LW fl' ft' ((takL (mtE (nI d) (nI c) (nI k)) 40 (nI q) ls).filter pos) ∧ ∀ i, i ≠ 2 → ft' i = ft i := by
  have h1 := sumN_le (P := mtE (nI d) (nI c) (nI k)) hok
  have h2 := h.2.1
  exact l_take_l hd hc hk (nI q) q 40 FU fl ft ls (by unfold FU; omega) (by omega) (by rw [filter_pos hp]; exact h) hok hq (Or.inr (Nat.le_trans cntN_le h2))

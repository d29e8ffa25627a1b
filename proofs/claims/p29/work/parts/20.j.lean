/- the law's calls: which of them; the law's loop; its start -/
theorem Res.mono {w w' : Nat} {r : Option OUT} (h : Res w r) (hw : w ≤ w') : Res w' r := by
  obtain ⟨o, e, e1, a, hist, h1, h2, h3, h4, h5, h6, u, u1, u2⟩ := h
  exact ⟨o, e, e1, a, hist, h1, h2, h3, h4, h5, h6, u, u1, by omega⟩
theorem kPr_at {a : AS} {d c P : Nat} (hP : a.2.1 1 = nI P) (h8 : P ≤ 8) (hd : d < 8) (hc : c < 8) : kPr a (nI d) (nI c) = (decide (d < P) && decide (c < P) && decide (¬ d = c)) := by
  have k : ∀ x, x < 8 → kP a (nI x) = decide (x < P) := fun x hx => by
    by_cases z : x < P
    · rw [kP_lt hP h8 z, decide_eq_true z]
    · rw [kP_ge hP h8 (by omega) (by omega), decide_eq_false z]
  have e : decide (¬ nI d = nI c) = decide (¬ d = c) := decide_eq_decide.mpr (not_congr (nI_eq (by omega) (by omega)))
  unfold kPr
  rw [k d hd, k c hc, e]
theorem act_gua {w : Nat} {vB vH : St} {bH : Nat → St} {fl fp ft : Nat → Int32} {a : AS} {hist : List AS} (A : AOK w vB vH bH fl fp ft a hist) (vT vR vO : St) (p5 p6 : Int32) (fr : Nat → Int32) {d c n : Nat} (hd : d < 8) (h9 : n ≤ 9) {p2 : Int32} (hp2 : p2 = if n = 1 then -1 else nI c) (may : Bool) (hm : (kP a (nI d) && (decide (p2 = -1) || (kP a p2 && decide (¬ nI d = p2)))) = may) :
    Res w (bif may then L_isActed_b486 vO p5 p6 vB vT vH bH vR fl fp ft fr (nI d) (nI c) (nI n) else L_isActed_b490 vO p5 p6 vB vT vH bH vR fl fp ft fr (nI d) (nI c) (nI n)) := by
  obtain ⟨h1, ho, hh, ⟨w1, w2, w3⟩, hb, hP, hu⟩ := id A
  have f5 : fp (6 * d + 2) = a.2.2 5 d := w3.get (r := 5) (j := 2) rfl (by decide) (by decide) hd
  have e1 : (nI n = (1 : Int32)) = (n = 1) := propext (nI_eq (b := 1) (by omega) (by decide))
  have b553 : ∀ (x13 t2 : Int32), x13 = (bif may then a.2.2 5 d else -1000001) → t2 = (bif may then p2 + 1 else a.2.2 5 d) → Res w (L_isActed_b553 vO p5 p6 vB vT vH bH vR fl fp ft fr (nI d) (nI c) (nI n) x13 (nI (6 * d + 2)) t2) := fun x13 t2 hx ht => by
    rw [L_isActed_b553, q_st (by omega) (by decide), Option.bind_some]
    by_cases z : n = 1
    · rw [if_pos (e1.mpr z)]
      rw [if_pos z] at hp2
      subst hp2
      exact ac_gua A vT vR vO p5 p6 fr hd may hm hx ht
    · rw [if_neg (fun q => z (e1.mp q))]
      rw [if_neg z] at hp2
      subst hp2
      exact ac_gua A vT vR vO p5 p6 fr hd may hm hx ht
  have z1 : ¬ (1 : Int32) = 0 := by decide
  cases may with
  | false =>
    show Res w (L_isActed_b490 vO p5 p6 vB vT vH bH vR fl fp ft fr (nI d) (nI c) (nI n))
    rw [L_isActed_b490, L_isActed_b491, if_pos rfl, L_isActed_b512, if_pos rfl, p48_2, q_ld (by omega) (by decide), Option.bind_some]
    exact b553 _ _ rfl f5
  | true =>
    show Res w (L_isActed_b486 vO p5 p6 vB vT vH bH vR fl fp ft fr (nI d) (nI c) (nI n))
    rw [L_isActed_b486, L_isActed_b491, if_neg z1, p48_2, q_ld (by omega) (by decide), Option.bind_some, L_isActed_b512, if_neg z1, p48_2]
    by_cases z : n = 1
    · rw [if_pos (e1.mpr z)]
      refine b553 _ _ f5 ?_
      rw [hp2, if_pos z]; show (0 : Int32) = -1 + 1; decide
    · rw [if_neg (fun q => z (e1.mp q))]
      refine b553 _ _ f5 ?_
      rw [hp2, if_neg z]; rfl
theorem act_146 {w : Nat} {vB vH : St} {bH : Nat → St} {fl fp ft : Nat → Int32} {a : AS} {hist : List AS} (A : AOK w vB vH bH fl fp ft a hist) (hw9 : w + 5 ≤ 999) (vT vR vO : St) (fr : Nat → Int32) {way y : Nat} (hway : way < 20) (hy : y < 2 ^ 31) {d c k n : Nat} (hd : d < 8) (hc : c < 8) (hk : k < 4) (hn : 1 ≤ n) (h9 : n ≤ 9) (t0 : Int32) (ht : t0 = (bif kPr a (nI d) (nI c) then 1 else 0)) :
    Res (w + 5) (L_isActed_b146 vO (nI way) (nI y) vB vT vH bH vR fl fp ft fr (nI d) (nI c) (nI k) (nI n) t0) := by
  obtain ⟨h1, ho, hh, ⟨w1, w2, w3⟩, hb, ⟨P, p3, p8, pe⟩, hu⟩ := id A
  have w5 : w ≤ w + 5 := by omega
  have h40 := ho.1
  have t1 : ft 1 = nI P := (w2 1 (by decide) (by decide)).trans pe
  have z1 : ¬ (1 : Int32) = 0 := by decide
  have e1 : (nI n = (1 : Int32)) = (n = 1) := propext (nI_eq (b := 1) (by omega) (by decide))
  by_cases c10 : way < 10
  · rw [L_isActed_b146, if_neg (show ¬ (10 : Int32) ≤ nI way from nI_ge (a := way) (b := 10) c10 (by decide))]
    cases hpr : kPr a (nI d) (nI c) with
    | false =>
      have ht : t0 = 0 := by rw [hpr] at ht; exact ht
      subst ht
      rw [if_pos rfl]
      exact (ac_lend A vT vR vO _ _ fr hd hc hk hn h9 (by rw [hpr]; rfl)).mono w5
    | true =>
      have ht : t0 = 1 := by rw [hpr] at ht; exact ht
      subst ht
      rw [if_neg z1, l_why ⟨w1, w2, w3⟩ hd, Option.bind_some]
      by_cases cb : barS a d (nI n) = 0
      · rw [if_pos ((barS_le a d (nI n)).mpr cb), r16_2, Option.bind_some, w1.1]
        by_cases cl : a.1.length = 40
        · rw [if_pos (show nI a.1.length = (40 : Int32) by rw [cl]; rfl)]
          exact (ac_lend A vT vR vO _ _ fr hd hc hk hn h9 (by rw [hpr]; simp only [cond_true]; rw [if_pos cb, if_neg (by omega)])).mono w5
        · rw [if_neg (show ¬ nI a.1.length = (40 : Int32) from fun q => cl ((nI_eq (b := 40) (by omega) (by decide)).mp q))]
          exact (ac_lend A vT vR vO _ _ fr hd hc hk hn h9 (by rw [hpr]; simp only [cond_true]; rw [if_pos cb, if_pos (by omega)])).mono w5
      · rw [if_neg (fun q => cb ((barS_le a d (nI n)).mp q))]
        exact (ac_lend A vT vR vO _ _ fr hd hc hk hn h9 (by rw [hpr]; simp only [cond_true]; rw [if_neg cb])).mono w5
  rw [L_isActed_b146, if_pos (show (10 : Int32) ≤ nI way from nI_le (a := 10) (by omega) (by omega))]
  by_cases c12 : way < 12
  · rw [if_neg (show ¬ (12 : Int32) ≤ nI way from nI_ge (a := way) (b := 12) c12 (by decide)), rm_nI (d := 3) (D := 3) rfl (by omega) (by decide) (by decide), Option.bind_some, show (1 : Int32) + nI (n % 3) = nI (1 + n % 3) from nI_add 1 _]
    cases hpr : kPr a (nI d) (nI c) with
    | false =>
      have ht : t0 = 0 := by rw [hpr] at ht; exact ht
      subst ht
      rw [if_pos rfl]
      exact (ac_ful A vT vR vO _ _ fr hd hc hk (by omega) (by omega) (by rw [hpr]; rfl)).mono w5
    | true =>
      have ht : t0 = 1 := by rw [hpr] at ht; exact ht
      subst ht
      have hWN := WN_le ho (nI k) d c hd hc
      have eS : sumS (mtE (nI d) (nI c) (nI k)) 0 a.1 = nI (WN (nI k) a.1 d c) := by
        have := sumS_nat (P := mtE (nI d) (nI c) (nI k)) 0 ho.okN
        rw [Nat.zero_add] at this
        exact this
      rw [if_neg z1, l_owed w1 hd hc hk, Option.bind_some, eS]
      by_cases q : 1 + n % 3 ≤ WN (nI k) a.1 d c
      · rw [if_pos (nI_le q (by omega)), Option.bind_some, q_sub q]
        exact (ac_ful A vT vR vO _ _ fr hd hc hk (by omega) (by omega) (by rw [hpr]; simp only [cond_true]; rw [if_pos q])).mono w5
      · rw [if_neg (nI_ge (by omega) (by omega))]
        exact (ac_ful A vT vR vO _ _ fr hd hc hk (by omega) (by omega) (by rw [hpr]; simp only [cond_true]; rw [if_neg q])).mono w5
  rw [if_pos (show (12 : Int32) ≤ nI way from nI_le (a := 12) (by omega) (by omega))]
  by_cases c14 : way < 14
  · rw [if_neg (show ¬ (14 : Int32) ≤ nI way from nI_ge (a := way) (b := 14) c14 (by decide)), r16_1, Option.bind_some, t1]
    have G := act_gua A vT vR vO (nI way) (nI y) fr (c := c) hd h9 (p2 := if n = 1 then -1 else nI c) rfl
    by_cases q1 : P ≤ d
    · rw [if_pos (nI_le q1 (by omega))]
      exact (G false (by rw [kP_ge pe p8 q1 (by omega)]; rfl)).mono w5
    · rw [if_neg (nI_ge (by omega) (by omega))]
      have kd := kP_lt pe p8 (d := d) (by omega)
      by_cases q2 : n = 1
      · rw [if_pos (e1.mpr q2)]
        exact (G true (by rw [kd, if_pos q2]; rfl)).mono w5
      · rw [if_neg (fun q => q2 (e1.mp q))]
        have hm : (kP a (nI d) && (decide ((if n = 1 then -1 else nI c) = (-1 : Int32)) || (kP a (if n = 1 then -1 else nI c) && decide (¬ nI d = (if n = 1 then -1 else nI c))))) = kPr a (nI d) (nI c) := by
          rw [if_neg q2, kd, decide_eq_false (nI_m1 (by omega))]
          unfold kPr
          rw [kd]
          rfl
        cases hpr : kPr a (nI d) (nI c) with
        | false =>
          have ht : t0 = 0 := by rw [hpr] at ht; exact ht
          subst ht
          rw [if_pos rfl]
          exact (G false (hm.trans hpr)).mono w5
        | true =>
          have ht : t0 = 1 := by rw [hpr] at ht; exact ht
          subst ht
          rw [if_neg z1]
          exact (G true (hm.trans hpr)).mono w5
  rw [if_pos (show (14 : Int32) ≤ nI way from nI_le (a := 14) (by omega) (by omega))]
  by_cases c16 : way < 16
  · rw [if_neg (show ¬ (16 : Int32) ≤ nI way from nI_ge (a := way) (b := 16) c16 (by decide))]
    by_cases q : way = 14
    · rw [if_pos (show nI way = (14 : Int32) by rw [q]; rfl)]
      exact (ac_clear A vT vR vO _ _ fr hk).mono w5
    · rw [if_neg (show ¬ nI way = (14 : Int32) from fun z => q ((nI_eq (b := 14) (by omega) (by decide)).mp z)), rm_nI (d := 4) (D := 4) rfl hy (by decide) (by decide), Option.bind_some]
      exact (ac_clear A vT vR vO _ _ fr (by omega)).mono w5
  rw [if_pos (show (16 : Int32) ≤ nI way from nI_le (a := 16) (by omega) (by omega))]
  by_cases q16 : way = 16
  · rw [if_pos (show nI way = (16 : Int32) by rw [q16]; rfl), rm_nI (d := 6) (D := 6) rfl hy (by decide) (by decide), Option.bind_some]
    by_cases q4 : y % 6 = 4
    · rw [if_pos (show nI (y % 6) = (4 : Int32) by rw [q4]; rfl), dv_nI (d := 6) (D := 6) rfl hy (by decide) (by decide), Option.bind_some, rm_nI (d := 60) (D := 60) rfl (by omega) (by decide) (by decide), Option.bind_some, show (5 : Int32) + nI (y / 6 % 60) = nI (5 + y / 6 % 60) from nI_add 5 _]
      exact (ac_set A vT vR vO _ _ fr (by omega) (by omega) (by rw [if_pos q4]; omega)).mono w5
    · rw [if_neg (show ¬ nI (y % 6) = (4 : Int32) from fun z => q4 ((nI_eq (b := 4) (by omega) (by decide)).mp z)), dv_nI (d := 6) (D := 6) rfl hy (by decide) (by decide), Option.bind_some, rm_nI (d := 20) (D := 20) rfl (by omega) (by decide) (by decide), Option.bind_some, show (1 : Int32) + nI (y / 6 % 20) = nI (1 + y / 6 % 20) from nI_add 1 _]
      exact (ac_set A vT vR vO _ _ fr (by omega) (by omega) (by rw [if_neg q4]; omega)).mono w5
  rw [if_neg (show ¬ nI way = (16 : Int32) from fun z => q16 ((nI_eq (b := 16) (by omega) (by decide)).mp z))]
  by_cases q17 : way = 17
  · rw [if_pos (show nI way = (17 : Int32) by rw [q17]; rfl), r16_9, Option.bind_some, rm_nI (d := 3) (D := 3) rfl hy (by decide) (by decide), Option.bind_some]
    by_cases q3 : y % 3 = 0
    · rw [if_pos (show nI (y % 3) = (0 : Int32) by rw [q3]; rfl)]
      exact (ac_hol A vT vR vO (nI way) hy fr true (decide_eq_true q3).symm).mono w5
    · rw [if_neg (show ¬ nI (y % 3) = (0 : Int32) from fun z => q3 ((nI_eq (b := 0) (by omega) (by decide)).mp z))]
      exact (ac_hol A vT vR vO (nI way) hy fr false (decide_eq_false q3).symm).mono w5
  · rw [if_neg (show ¬ nI way = (17 : Int32) from fun z => q17 ((nI_eq (b := 17) (by omega) (by decide)).mp z)), rm_nI (d := 5) (D := 5) rfl hy (by decide) (by decide), Option.bind_some, show (1 : Int32) + nI (y % 5) = nI (1 + y % 5) from nI_add 1 _]
    exact ac_weeks A hw9 vT vR vO _ _ fr (by omega) (by omega)
theorem is_acted {w : Nat} {vB vH : St} {bH : Nat → St} {fl fp ft : Nat → Int32} {a : AS} {hist : List AS} (A : AOK w vB vH bH fl fp ft a hist) (hw9 : w + 5 ≤ 999) (vT vR vO : St) (fr : Nat → Int32) {way y : Nat} (hway : way < 20) (hy : y < 2 ^ 31) : Res (w + 5) (L_isActed vB vT vH bH vR vO fl fp ft fr (nI way) (nI y)) := by
  have b39 : ∀ k, k < 4 → Res (w + 5) (L_isActed_b39 vO (nI way) (nI y) vB vT vH bH vR fl fp ft fr (nI (y % 8)) (nI (y / 8 % 8)) (nI k)) := fun k hk => by
    obtain ⟨h1, ho, hh, ⟨w1, w2, w3⟩, hb, ⟨P, p3, p8, pe⟩, hu⟩ := id A
    have w5 : w ≤ w + 5 := by omega
    have t1 : ft 1 = nI P := (w2 1 (by decide) (by decide)).trans pe
    rw [L_isActed_b39, dv_nI (d := 1280) (D := 1280) rfl hy (by decide) (by decide), Option.bind_some, rm_nI (d := 9) (D := 9) rfl (by omega) (by decide) (by decide), Option.bind_some]
    by_cases z : way = 0
    · rw [if_pos (show nI way = (0 : Int32) by rw [z]; rfl), r16_1, Option.bind_some]
      by_cases q : ft 1 = (8 : Int32)
      · rw [if_pos q]; exact (ac_pup A vT vR vO _ _ fr (by rw [if_pos q])).mono w5
      · rw [if_neg q]; exact (ac_pup A vT vR vO _ _ fr (by rw [if_neg q])).mono w5
    · rw [if_neg (show ¬ nI way = (0 : Int32) from fun q => z ((nI_eq (b := 0) (by omega) (by decide)).mp q)), r16_1, Option.bind_some, t1, show (1 : Int32) + nI (y / 1280 % 9) = nI (1 + y / 1280 % 9) from nI_add 1 _]
      have go := act_146 A hw9 vT vR vO fr hway hy (d := y % 8) (c := y / 8 % 8) (k := k) (n := 1 + y / 1280 % 9) (by omega) (by omega) hk (by omega) (by omega)
      have kpr := kPr_at pe p8 (d := y % 8) (c := y / 8 % 8) (by omega) (by omega)
      by_cases q1 : P ≤ y % 8
      · rw [if_pos (nI_le q1 (by omega)), L_isActed_b145]
        exact go 0 (by rw [kpr, decide_eq_false (show ¬ y % 8 < P by omega)]; rfl)
      · rw [if_neg (nI_ge (by omega) (by omega)), Option.bind_some]
        by_cases q2 : P ≤ y / 8 % 8
        · rw [if_pos (nI_le q2 (by omega)), L_isActed_b145]
          exact go 0 (by rw [kpr, decide_eq_false (show ¬ y / 8 % 8 < P by omega), Bool.and_false]; rfl)
        · rw [if_neg (nI_ge (by omega) (by omega))]
          by_cases q3 : y % 8 = y / 8 % 8
          · rw [if_pos (show nI (y % 8) = nI (y / 8 % 8) from congrArg nI q3), L_isActed_b145]
            exact go 0 (by rw [kpr, decide_eq_false (show ¬ ¬ y % 8 = y / 8 % 8 by omega), Bool.and_false]; rfl)
          · rw [if_neg (show ¬ nI (y % 8) = nI (y / 8 % 8) from fun q => q3 ((nI_eq (by omega) (by omega)).mp q))]
            exact go 1 (by rw [kpr, decide_eq_true (show y % 8 < P by omega), decide_eq_true (show y / 8 % 8 < P by omega), decide_eq_true q3]; rfl)
  rw [L_isActed, rm_nI (d := 8) (D := 8) rfl hy (by decide) (by decide), Option.bind_some, dv_nI (d := 8) (D := 8) rfl hy (by decide) (by decide), Option.bind_some, rm_nI (d := 8) (D := 8) rfl (by omega) (by decide) (by decide), Option.bind_some, dv_nI (d := 64) (D := 64) rfl hy (by decide) (by decide), Option.bind_some, rm_nI (d := 5) (D := 5) rfl (by omega) (by decide) (by decide), Option.bind_some]
  by_cases z : y / 64 % 5 = 0
  · rw [if_pos (show nI (y / 64 % 5) = (0 : Int32) by rw [z]; rfl), dv_nI (d := 320) (D := 320) rfl hy (by decide) (by decide), Option.bind_some, rm_nI (d := 4) (D := 4) rfl (by omega) (by decide) (by decide), Option.bind_some]
    exact b39 _ (by omega)
  · rw [if_neg (show ¬ nI (y / 64 % 5) = (0 : Int32) from fun q => z ((nI_eq (b := 0) (by omega) (by decide)).mp q))]
    exact b39 1 (by decide)
theorem law_loop {xs : Nat → Int32} {L : Nat} (hL : L ≤ 260) (vO : St) : ∀ (m fu e : Nat) (vB vT vH : St) (bH : Nat → St) (vR : St) (fl fp ft fr : Nat → Int32), m < fu → e + m = 64 → AOKs (5 * e) vB vH bH fl fp ft → L_law_l108 vO xs L fu vB vT vH bH vR fl fp ft fr (1 : Int32) (nI e) = some 1 := by
  intro m
  induction m with
  | zero =>
    intro fu e vB vT vH bH vR fl fp ft fr hf he A
    obtain ⟨fu, rfl⟩ : ∃ f, fu = f + 1 := ⟨fu - 1, by omega⟩
    have : e = 64 := by omega
    subst this
    rw [L_law_l108, if_pos (show (64 : Int32) ≤ nI 64 by decide)]
  | succ m ih =>
    intro fu e vB vT vH bH vR fl fp ft fr hf he A
    obtain ⟨fu, rfl⟩ : ∃ f, fu = f + 1 := ⟨fu - 1, by omega⟩
    have z1 : ¬ (1 : Int32) = 0 := by decide
    obtain ⟨x, hx⟩ : ∃ x, L_cell xs L (nI e) = some x := by
      rw [L_cell]
      by_cases z : L ≤ e
      · exact ⟨_, if_pos (show Int32.ofNat L ≤ nI e from nI_le z (by omega))⟩
      · rw [if_neg (show ¬ Int32.ofNat L ≤ nI e from nI_ge (by omega) (by omega)), q_ld (by omega) (by omega), Option.bind_some]
        exact ⟨_, rfl⟩
    obtain ⟨Z, hZ, eZ⟩ := pk_andE x 31 (m := (2147483647 : Int32)) (by decide)
    obtain ⟨a, hist, A⟩ := A
    have b158 : ∀ way, way < 20 → L_law_b158 vO xs L (L_law_l108 vO xs L fu) vB vT vH bH vR fl fp ft fr (nI e) (nI Z) (nI way) = some 1 := fun way hway => by
      obtain ⟨o, r1, r2, a', hist', A'⟩ := is_acted A (by omega : 5 * e + 5 ≤ 999) vT vR vO fr hway (y := Z / 20) (by omega)
      obtain ⟨h1, ho, hh, hw, hb, ⟨P, p3, p8, pe⟩, hu⟩ := id A'
      obtain ⟨vR', fr', e3⟩ := are_rings (vT := o.2.2.1) (vH := o.2.2.2.1) (vO := vO) (bH := o.2.2.2.2.1) h1 ho hw pe p8 (by omega) o.2.2.2.2.2.1 o.2.2.2.2.2.2.2.2.2
      rw [L_law_b158, dv_nI (d := 20) (D := 20) rfl (by omega) (by decide) (by decide), Option.bind_some, r1, Option.bind_some, r2, if_neg z1, are_lots h1 ho hw, Option.bind_some, if_neg z1, are_pupils h1 ho hb hw pe p8, Option.bind_some, if_neg z1, e3, Option.bind_some, if_neg z1, q_1]
      exact ih fu (e + 1) _ _ _ _ _ _ _ _ _ (by omega) (by omega) (by rw [show 5 * (e + 1) = 5 * e + 5 by omega]; exact ⟨a', hist', A'⟩)
    rw [L_law_l108, if_neg (show ¬ (64 : Int32) ≤ nI e from nI_ge (a := e) (b := 64) (by omega) (by decide)), if_neg z1, hx, Option.bind_some, eZ]
    by_cases q : 7 ≤ e
    · rw [if_pos (show (7 : Int32) ≤ nI e from nI_le (a := 7) q (by omega)), rm_nI (d := 20) (D := 20) rfl hZ (by decide) (by decide), Option.bind_some]
      exact b158 _ (by omega)
    · rw [if_neg (show ¬ (7 : Int32) ≤ nI e from nI_ge (a := e) (b := 7) (by omega) (by decide)), rm_nI (d := 10) (D := 10) rfl hZ (by decide) (by decide), Option.bind_some]
      exact b158 _ (by omega)
/- its start -/
def o0F : Nat → Int32 := upd (upd (upd (upd (upd (upd (fun _ => 0) 20 4) 21 6) 22 8) 23 10) 24 20) 25 3
theorem c_init : X0_init = some o0F := by
  have p20 : ∀ (f : Nat → Int32) (x : Int32), X4_put f 26 (20 : Int32) x = some (upd f 20 x) := fun f x => q_put (k := 20) (by decide) (by decide)
  have p21 : ∀ (f : Nat → Int32) (x : Int32), X4_put f 26 (21 : Int32) x = some (upd f 21 x) := fun f x => q_put (k := 21) (by decide) (by decide)
  have p22 : ∀ (f : Nat → Int32) (x : Int32), X4_put f 26 (22 : Int32) x = some (upd f 22 x) := fun f x => q_put (k := 22) (by decide) (by decide)
  have p23 : ∀ (f : Nat → Int32) (x : Int32), X4_put f 26 (23 : Int32) x = some (upd f 23 x) := fun f x => q_put (k := 23) (by decide) (by decide)
  have p24 : ∀ (f : Nat → Int32) (x : Int32), X4_put f 26 (24 : Int32) x = some (upd f 24 x) := fun f x => q_put (k := 24) (by decide) (by decide)
  have p25 : ∀ (f : Nat → Int32) (x : Int32), X4_put f 26 (25 : Int32) x = some (upd f 25 x) := fun f x => q_put (k := 25) (by decide) (by decide)
  rw [X0_init, show X4_firstOfSetting 0 = some 4 by decide, Option.bind_some, p20, Option.bind_some, show X4_firstOfSetting 1 = some 6 by decide, Option.bind_some, p21, Option.bind_some, show X4_firstOfSetting 2 = some 8 by decide, Option.bind_some, p22, Option.bind_some, show X4_firstOfSetting 3 = some 10 by decide, Option.bind_some, p23, Option.bind_some, show X4_firstOfSetting 4 = some 20 by decide, Option.bind_some, p24, Option.bind_some, show X4_firstOfSetting 5 = some 3 by decide, Option.bind_some, p25, Option.bind_some]
  rfl
def g0S : AS := ([], o0F, fun _ _ => 0)
theorem start_ok : OK g0S := by
  refine ⟨by decide, 0, by decide, rfl, fun l hl => (by cases hl), fun p _ => ⟨0, rfl, by decide, by omega⟩, fun i hi => ?_, ⟨20, rfl, by decide, by decide⟩, ⟨3, rfl, by decide, by decide⟩, Or.inl rfl, ⟨0, rfl, by decide⟩⟩
  have cs : i = 0 ∨ i = 1 ∨ i = 2 ∨ i = 3 := by omega
  rcases cs with rfl | rfl | rfl | rfl
  · exact ⟨4, rfl, by decide, by decide⟩
  · exact ⟨6, rfl, by decide, by decide⟩
  · exact ⟨8, rfl, by decide, by decide⟩
  · exact ⟨10, rfl, by decide, by decide⟩
theorem start_c : RC (setA (fun _ _ => 0) 1 o0F) g0S := by
  refine ⟨⟨?_, by decide, rfl⟩, fun i _ _ => ?_, fun r p h1 _ _ => ?_⟩
  · rw [q_sA]; rfl
  · rw [q_sA]; rfl
  · rw [q_sN _ _ (by omega)]; rfl
theorem start_h (bH : Nat → St) : HC (fun _ _ => 0) bH [] := ⟨rfl, by decide, fun i a e => by rw [List.getElem?_nil] at e; cases e⟩
theorem pupS_at {a : AS} {P : Nat} (hP : a.2.1 1 = nI P) (h8 : P < 8) : pupS a = (nI P, (a.1, upd a.2.1 1 (nI (P + 1)), a.2.2)) := by
  unfold pupS
  rw [hP, if_neg (show ¬ nI P = (8 : Int32) from fun q => by have := (nI_eq (b := 8) (by omega) (by decide)).mp q; omega), q_1]
def g3S : AS := ([], upd (upd (upd o0F 1 (nI 1)) 1 (nI 2)) 1 (nI 3), fun _ _ => 0)
def t3F : Nat → Int32 := upd (upd (upd (upd (upd (upd (upd (fun _ => 0) 1 3) 10 4) 11 6) 12 8) 13 10) 14 20) 15 3
theorem start_w : RW (fun _ => 0) (fun _ => 0) t3F g3S := by
  refine ⟨⟨rfl, by decide, fun i l e => by rw [show g3S.1 = [] from rfl, List.getElem?_nil] at e; cases e⟩, fun i hi hn => ?_, fun r p _ _ _ => rfl⟩
  have cs : i = 0 ∨ i = 1 ∨ i = 3 ∨ i = 4 ∨ i = 5 ∨ i = 6 ∨ i = 7 ∨ i = 8 ∨ i = 9 ∨ i = 10 ∨ i = 11 ∨ i = 12 ∨ i = 13 ∨ i = 14 ∨ i = 15 := by omega
  rcases cs with rfl | rfl | rfl | rfl | rfl | rfl | rfl | rfl | rfl | rfl | rfl | rfl | rfl | rfl | rfl
  all_goals rfl
theorem law_pure (xs : Nat → Int32) (L : Nat) (hL : L ≤ 260) (o0 : Nat → Int32) (h0 : X0_init = some o0) : L_law xs L (setA (fun _ _ => 0) 1 o0) (setA (fun _ _ => 0) 1 o0) (fun _ _ => 0) (fun _ => setA (fun _ _ => 0) 1 o0) (fun _ _ => 0) (fun _ _ => 0) (fun _ => 0) (fun _ => 0) (fun _ => 0) (fun _ => 0) = some 1 := by
  rw [c_init] at h0
  cases h0
  have q0 : pupS g0S = (nI 0, ([], upd o0F 1 (nI 1), fun _ _ => 0)) := pupS_at (a := g0S) (P := 0) rfl (by decide)
  have q1 : pupS ([], upd o0F 1 (nI 1), fun _ _ => 0) = (nI 1, ([], upd (upd o0F 1 (nI 1)) 1 (nI 2), fun _ _ => 0)) := pupS_at (a := ([], upd o0F 1 (nI 1), fun _ _ => 0)) (P := 1) (q_up (f := o0F) (k := 1) (x := nI 1)) (by decide)
  have q2 : pupS ([], upd (upd o0F 1 (nI 1)) 1 (nI 2), fun _ _ => 0) = (nI 2, g3S) := pupS_at (a := ([], upd (upd o0F 1 (nI 1)) 1 (nI 2), fun _ _ => 0)) (P := 2) (q_up (f := upd o0F 1 (nI 1)) (k := 1) (x := nI 2)) (by decide)
  obtain ⟨b1, t1, v1, w1, hs1, e1, r1, s1⟩ := fc_pupil start_c start_ok (start_h (fun _ => setA (fun _ _ => 0) 1 o0F)) (setA (fun _ _ => 0) 1 o0F) (fun _ _ => 0) (fun _ _ => 0) (pupS_er start_ok)
  have k1 := pupS_ok start_ok
  rw [q0] at e1 r1 k1
  obtain ⟨b2, t2, v2, w2, hs2, e2, r2, s2⟩ := fc_pupil r1 k1 s1 t1 (fun _ _ => 0) (fun _ _ => 0) (pupS_er k1)
  have k2 := pupS_ok k1
  rw [q1] at e2 r2 k2
  obtain ⟨b3, t3, v3, w3, hs3, e3, r3, s3⟩ := fc_pupil r2 k2 s2 t2 (fun _ _ => 0) (fun _ _ => 0) (pupS_er k2)
  have k3 := pupS_ok k2
  rw [q2] at e3 r3 k3
  have m10 : ∀ (f : Nat → Int32) (x : Int32), stA 16 f (10 : Int32) x = some (upd f 10 x) := fun f x => q_st (k := 10) (by decide) (by decide)
  have m11 : ∀ (f : Nat → Int32) (x : Int32), stA 16 f (11 : Int32) x = some (upd f 11 x) := fun f x => q_st (k := 11) (by decide) (by decide)
  have m12 : ∀ (f : Nat → Int32) (x : Int32), stA 16 f (12 : Int32) x = some (upd f 12 x) := fun f x => q_st (k := 12) (by decide) (by decide)
  have m13 : ∀ (f : Nat → Int32) (x : Int32), stA 16 f (13 : Int32) x = some (upd f 13 x) := fun f x => q_st (k := 13) (by decide) (by decide)
  have m14 : ∀ (f : Nat → Int32) (x : Int32), stA 16 f (14 : Int32) x = some (upd f 14 x) := fun f x => q_st (k := 14) (by decide) (by decide)
  have m15 : ∀ (f : Nat → Int32) (x : Int32), stA 16 f (15 : Int32) x = some (upd f 15 x) := fun f x => q_st (k := 15) (by decide) (by decide)
  rw [L_law, e1, Option.bind_some]
  dsimp only
  rw [if_pos (show nI 0 = (0 : Int32) from rfl), e2, Option.bind_some]
  dsimp only
  rw [if_pos (show nI 1 = (1 : Int32) from rfl), e3, Option.bind_some]
  dsimp only
  rw [if_pos (show nI 2 = (2 : Int32) from rfl), L_law_b58, w16_1, Option.bind_some, m10, Option.bind_some, m11, Option.bind_some, m12, Option.bind_some, m13, Option.bind_some, m14, Option.bind_some, m15, Option.bind_some]
  exact law_loop hL _ 64 65 0 _ _ _ _ _ _ _ _ _ (by decide) (by decide) ⟨g3S, hs3, r3, k3, s3, start_w, fun p _ => rfl, ⟨3, by decide, by decide, rfl⟩, 0, rfl, Nat.zero_le _⟩

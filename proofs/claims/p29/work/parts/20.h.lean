/- the law's checks: lots and numbers -/
theorem r16_10 (f : Nat → Int32) (k : Nat) (hk : k < 6) : ldA 16 f ((10 : Int32) + nI k) = some (f (10 + k)) := by
  rw [show (10 : Int32) + nI k = nI (10 + k) from nI_add 10 k, q_ld (by omega) (by decide)]
theorem tN_10 {k : Nat} (hk : k < 6) : tN (10 + k) = 20 + k := by unfold tN; rw [if_neg (by omega), if_neg (by omega)]; omega
theorem are_lots_1 {vB vT vH vR vO : St} {bH : Nat → St} {fl fp ft : Nat → Int32} {a : AS} (h : RC vB a) (ho : OK a) (hw : RW fl fp ft a) : ∀ (rest dn : List Lot) (fu : Nat) (acc : Int32), rest.length < fu → a.1 = dn ++ rest →
    L_areLots_l48 vB vT vH bH vR vO fl ft fu acc (1 : Int32) (nI dn.length) = L_areLots_l189 vB vT vH bH vR vO fl ft FU (sumS (mt (-1) (-1) (-1)) acc rest) (1 : Int32) (0 : Int32) := by
  intro rest
  induction rest with
  | nil =>
    intro dn fu acc hf he
    obtain ⟨fu, rfl⟩ : ∃ f, fu = f + 1 := ⟨fu - 1, by simp at hf; omega⟩
    have hl := hw.1
    rw [he] at hl
    obtain ⟨h1, h2⟩ := hl.len
    simp only [List.length_nil] at h1 h2
    rw [L_areLots_l48, r16_2, Option.bind_some, h1, if_pos (nI_le (by omega) (by omega))]
    rfl
  | cons l rest ih =>
    intro dn fu acc hf he
    obtain ⟨fu, rfl⟩ : ∃ f, fu = f + 1 := ⟨fu - 1, by simp at hf; omega⟩
    have hl := hw.1
    rw [he] at hl
    obtain ⟨h1, h2⟩ := hl.len
    simp only [List.length_cons] at h1 h2
    have hpk := hl.at
    have hk : a.1[dn.length]? = some l := by rw [he]; simp
    obtain ⟨c0, c1, c2, c3, c4, c5⟩ := c_lot h ho vT vH bH vR vO hk
    have he' : a.1 = (dn ++ [l]) ++ rest := by rw [he, snoc_app]
    have ihh := ih (dn ++ [l]) fu (acc + l.n) (by simp at hf; omega) he'
    rw [snoc_len] at ihh
    rw [sumS_cons, if_pos (mt_any l)]
    have hne : ¬ (1 : Int32) = 0 := by decide
    have hld : ldA 41 fl (nI dn.length) = some (fl dn.length) := q_ld (by omega) (by decide)
    rw [L_areLots_l48, r16_2, Option.bind_some, h1, if_neg (nI_ge (by omega) (by omega)), if_neg hne, hld]
    simp only [Option.bind_some, l_many hpk, l_debtor hpk, l_creditor hpk, l_kind hpk, l_age hpk, c0, c1, c2, c3, c4, c5, l_passed hpk, if_true, q_1]
    exact ihh
theorem are_lots_2 {vB vT vH vR vO : St} {bH : Nat → St} {fl fp ft : Nat → Int32} {a : AS} (h : RC vB a) (ho : OK a) (hw : RW fl fp ft a) (x3 : Int32) :
    L_areLots_l189 vB vT vH bH vR vO fl ft FU x3 (1 : Int32) (0 : Int32) = L_areLots_b252 vB vT vH bH vR vO fl ft x3 (1 : Int32) := by
  obtain ⟨h1, h2, h3⟩ := hw
  have hne : ¬ (1 : Int32) = 0 := by decide
  have g : ∀ k, k < 6 → ft (10 + k) = a.2.1 (20 + k) := fun k hk => by rw [h2 (10 + k) (by omega) (by omega), tN_10 hk]
  have cN : ∀ k, k < 6 → X4_count vB vT vH bH vR vO ((20 : Int32) + nI k) = some (a.2.1 (20 + k)) := fun k hk => by
    rcases (by omega : k = 0 ∨ k = 1 ∨ k = 2 ∨ k = 3 ∨ k = 4 ∨ k = 5) with rfl | rfl | rfl | rfl | rfl | rfl
    · exact cc_20 h ho vT vH bH vR vO
    · exact cc_21 h ho vT vH bH vR vO
    · exact cc_22 h ho vT vH bH vR vO
    · exact cc_23 h ho vT vH bH vR vO
    · exact cc_24 h ho vT vH bH vR vO
    · exact cc_25 h ho vT vH bH vR vO
  have b220 : ∀ (k189 : Int32 → Int32 → Int32 → Option Int32) (k : Nat), k < 6 → L_areLots_b220 vB vT vH bH vR vO fl ft k189 x3 (nI k) = k189 x3 (1 : Int32) (nI (k + 1)) := fun k189 k hk => by
    rw [L_areLots_b220, cN k hk, Option.bind_some, r16_10 _ k hk, Option.bind_some, g k hk, if_pos rfl, q_1]
  have lo : ∀ (fu k : Nat), k < 3 → L_areLots_l189 vB vT vH bH vR vO fl ft (fu + 1) x3 (1 : Int32) (nI k) = L_areLots_l189 vB vT vH bH vR vO fl ft fu x3 (1 : Int32) (nI (k + 1)) := fun fu k hk => by
    have e : X4_count vB vT vH bH vR vO (nI k) = some (ft k) := by
      rcases (by omega : k = 0 ∨ k = 1 ∨ k = 2) with rfl | rfl | rfl
      · rw [h2 0 (by decide) (by decide)]; exact cc_0 h ho vT vH bH vR vO
      · rw [h2 1 (by decide) (by decide)]; exact cc_1 h ho vT vH bH vR vO
      · rw [h1.1]; exact cc_2 h ho vT vH bH vR vO
    rw [L_areLots_l189, if_neg (show ¬ (6 : Int32) ≤ nI k from nI_ge (a := k) (b := 6) (by omega) (by decide)), if_neg hne, if_neg (show ¬ (2 : Int32) < nI k from nI_nlt (a := 2) (b := k) (by omega) (by decide)), e, Option.bind_some, q_ld (by omega) (by decide), Option.bind_some, if_pos rfl, b220 _ k (by omega)]
  have hi : ∀ (fu k : Nat), 3 ≤ k → k < 6 → L_areLots_l189 vB vT vH bH vR vO fl ft (fu + 1) x3 (1 : Int32) (nI k) = L_areLots_l189 vB vT vH bH vR vO fl ft fu x3 (1 : Int32) (nI (k + 1)) := fun fu k hk hk2 => by
    rw [L_areLots_l189, if_neg (show ¬ (6 : Int32) ≤ nI k from nI_ge (a := k) (b := 6) (by omega) (by decide)), if_neg hne, if_pos (show (2 : Int32) < nI k from nI_lt (a := 2) (b := k) (by omega) (by omega)), b220 _ k hk2]
  show L_areLots_l189 vB vT vH bH vR vO fl ft (1993 + 1 + 1 + 1 + 1 + 1 + 1 + 1) x3 (1 : Int32) (nI 0) = _
  rw [lo _ 0 (by decide), lo _ 1 (by decide), lo _ 2 (by decide), hi _ 3 (by decide) (by decide), hi _ 4 (by decide) (by decide), hi _ 5 (by decide) (by decide), L_areLots_l189, if_pos (show (6 : Int32) ≤ nI (5 + 1) by decide)]
theorem are_lots {vB vT vH vR vO : St} {bH : Nat → St} {fl fp ft : Nat → Int32} {a : AS} (h : RC vB a) (ho : OK a) (hw : RW fl fp ft a) : L_areLots vB vT vH bH vR vO fl ft = some 1 := by
  obtain ⟨c1, c2⟩ := c_lot_no vB vT vH bH vR vO
  obtain ⟨h1, h2, h3⟩ := id hw
  have e1 := are_lots_1 (vT := vT) (vH := vH) (vR := vR) (vO := vO) (bH := bH) h ho hw a.1 [] FU 0 (by have := ho.1; unfold FU; omega) rfl
  have e1 : L_areLots_l48 vB vT vH bH vR vO fl ft FU (0 : Int32) (1 : Int32) (0 : Int32) = _ := e1
  rw [L_areLots, c1, Option.bind_some, if_pos rfl, c2, Option.bind_some, if_pos rfl, r16_2, Option.bind_some, h1.1, c_lot_len h ho, Option.bind_some, if_pos rfl, e1, are_lots_2 h ho hw, L_areLots_b252, if_neg (by decide), cc_3 h ho, Option.bind_some, if_pos rfl,
    cc_4 h ho, Option.bind_some, r16_3, Option.bind_some, if_pos (show a.2.1 4 = ft 3 from (h2 3 (by decide) (by decide)).symm),
    cc_5 h ho, Option.bind_some, r16_4, Option.bind_some, if_pos (show a.2.1 5 = ft 4 from (h2 4 (by decide) (by decide)).symm),
    cc_6 h ho, Option.bind_some, r16_5, Option.bind_some, if_pos (show a.2.1 6 = ft 5 from (h2 5 (by decide) (by decide)).symm),
    cc_7 h ho, Option.bind_some, r16_6, Option.bind_some, if_pos (show a.2.1 7 = ft 6 from (h2 6 (by decide) (by decide)).symm),
    cc_8 h ho, Option.bind_some, r16_7, Option.bind_some, if_pos (show a.2.1 8 = ft 7 from (h2 7 (by decide) (by decide)).symm),
    cc_9 h ho, Option.bind_some, r16_8, Option.bind_some, if_pos (show a.2.1 9 = ft 8 from (h2 8 (by decide) (by decide)).symm),
    cc_10 h ho, Option.bind_some, r16_9, Option.bind_some, if_pos (show a.2.1 10 = ft 9 from (h2 9 (by decide) (by decide)).symm)]
/- pupils -/
theorem l_why {fl fp ft : Nat → Int32} {a : AS} (hw : RW fl fp ft a) {d : Nat} (hd : d < 8) (n : Int32) : L_why fl fp ft (nI d) n = some (barS a d n) := by
  obtain ⟨h1, h2, h3⟩ := hw
  have t14 : ft 14 = a.2.1 24 := h2 14 (by decide) (by decide)
  have t15 : ft 15 = a.2.1 25 := h2 15 (by decide) (by decide)
  have f4 : fp (6 * d + 1) = a.2.2 4 d := h3.get (r := 4) (j := 1) rfl (by decide) (by decide) hd
  have f5 : fp (6 * d + 2) = a.2.2 5 d := h3.get (r := 5) (j := 2) rfl (by decide) (by decide) hd
  rw [L_why, l_owing h1 hd, Option.bind_some, r16_14, Option.bind_some, t14]
  unfold barS
  by_cases c1 : sumS (mt (nI d) (-1) (-1)) 0 a.1 + n ≤ a.2.1 24
  · rw [if_pos c1, if_pos c1, p48_1, q_ld (by omega) (by decide), Option.bind_some, f4, r16_15, Option.bind_some, t15]
    by_cases c2 : a.2.2 4 d < a.2.1 25
    · rw [if_pos c2, if_pos c2]
    · rw [if_neg c2, if_neg c2, p48_2, q_ld (by omega) (by decide), Option.bind_some, f5]
      split <;> rfl
  · rw [if_neg c1, if_neg c1]
theorem are_soon {vB vT vH vR vO : St} {bH : Nat → St} {fl fp ft : Nat → Int32} {a : AS} (ho : OK a) (hw : RW fl fp ft a) (k48 : Int32 → Int32 → Int32 → Option Int32) {d : Nat} (hd : d < 8) (x4 x7 x9 : Int32) : ∀ (rest dn : List Lot) (fu : Nat) (o : Option Int32), rest.length < fu → a.1 = dn ++ rest → opos o →
    L_arePupils_l113 vB vT vH bH vR vO fl fp ft k48 fu x4 (nI d) x7 (oN (-1000004) o) x9 (nI dn.length) = L_arePupils_l199 vB vT vH bH vR vO fl fp ft k48 FU x4 (nI d) x7 (oN (-1000004) (spS (nI d) a.2.1 rest o)) x9 (0 : Int32) := by
  obtain ⟨h40, P, h8, hP, hl, _⟩ := ho
  intro rest
  induction rest with
  | nil =>
    intro dn fu o hf he hop
    obtain ⟨fu, rfl⟩ : ∃ f, fu = f + 1 := ⟨fu - 1, by simp at hf; omega⟩
    have hlw := hw.1
    rw [he] at hlw
    obtain ⟨h1, h2⟩ := hlw.len
    simp only [List.length_nil] at h1 h2
    rw [L_arePupils_l113, r16_2, Option.bind_some, h1, if_pos (nI_le (by omega) (by omega))]
    rfl
  | cons l rest ih =>
    intro dn fu o hf he hop
    obtain ⟨fu, rfl⟩ : ∃ f, fu = f + 1 := ⟨fu - 1, by simp at hf; omega⟩
    have hlw := hw.1
    rw [he] at hlw
    obtain ⟨h1, h2⟩ := hlw.len
    simp only [List.length_cons] at h1 h2
    have hpk := hlw.at
    obtain ⟨d', c, k, n, g, p, e, g1, g2, g3, g4, g5, g6, g7, g8⟩ := hl l (by rw [he]; exact List.mem_append_right _ List.mem_cons_self)
    have he' : a.1 = (dn ++ [l]) ++ rest := by rw [he, snoc_app]
    have go := fun (o' : Option Int32) (ho' : opos o') => ih (dn ++ [l]) fu o' (by simp at hf; omega) he' ho'
    rw [snoc_len] at go
    have tk : ft (10 + k) = a.2.1 (20 + ix l.2.2.1) := by
      rw [hw.2.1 (10 + k) (by omega) (by omega), tN_10 (by omega), e]
      show a.2.1 (20 + k) = a.2.1 (20 + ix (nI k))
      rw [ix_nI (by omega)]
    have tp := tW_pos a.2.1 l
    have b155 : ∀ t0, t0 = tW a.2.1 l → L_arePupils_b155 vB vT vH bH vR vO fl fp ft k48 (L_arePupils_l113 vB vT vH bH vR vO fl fp ft k48 fu) x4 (nI d) x7 (oN (-1000004) o) x9 (nI dn.length) t0 = L_arePupils_l199 vB vT vH bH vR vO fl fp ft k48 FU x4 (nI d) x7 (oN (-1000004) (spS (nI d) a.2.1 (l :: rest) o)) x9 (0 : Int32) := by
      rintro _ rfl
      rw [L_arePupils_b155, q_ld (by omega) (by decide), Option.bind_some, l_debtor hpk, Option.bind_some, q_1]
      unfold spS
      have hmt : mt (nI d) (-1) (-1) l = decide (l.d = nI d) := mt_d (nI_m1 (by omega)) l
      by_cases c1 : l.d = nI d
      · rw [if_pos c1, hmt, decide_eq_true c1]
        cases o with
        | none =>
          rw [if_pos (show oN (-1000004) none < (0 : Int32) by decide)]
          exact go (some (tW a.2.1 l)) (fun x hx => by cases hx; exact tp)
        | some x =>
          have hx : 0 < x := hop x rfl
          rw [if_neg (show ¬ oN (-1000004) (some x) < (0 : Int32) from Int32.not_lt.mpr (Int32.le_of_lt hx))]
          by_cases c2 : x ≤ tW a.2.1 l
          · rw [if_pos (show oN (-1000004) (some x) ≤ tW a.2.1 l from c2)]
            show _ = L_arePupils_l199 vB vT vH bH vR vO fl fp ft k48 FU x4 (nI d) x7 (oN (-1000004) (spS (nI d) a.2.1 rest (some (if tW a.2.1 l < x then tW a.2.1 l else x)))) x9 (0 : Int32)
            rw [if_neg (Int32.not_lt.mpr c2)]
            exact go (some x) hop
          · rw [if_neg (show ¬ oN (-1000004) (some x) ≤ tW a.2.1 l from c2)]
            show _ = L_arePupils_l199 vB vT vH bH vR vO fl fp ft k48 FU x4 (nI d) x7 (oN (-1000004) (spS (nI d) a.2.1 rest (some (if tW a.2.1 l < x then tW a.2.1 l else x)))) x9 (0 : Int32)
            rw [if_pos (Int32.not_le.mp c2)]
            exact go (some (tW a.2.1 l)) (fun x hx => by cases hx; exact tp)
      · rw [if_neg c1, hmt, decide_eq_false c1]
        exact go o hop
    rw [L_arePupils_l113, r16_2, Option.bind_some, h1, if_neg (nI_ge (by omega) (by omega)), q_ld (by omega) (by decide), Option.bind_some, l_kind hpk, Option.bind_some, show l.k = nI k by rw [e], r16_10 _ k (by omega), Option.bind_some, tk, Option.bind_some, l_age hpk, Option.bind_some]
    have eW : (if (1 : Int32) ≤ (a.2.1 (20 + ix l.2.2.1) - l.a) then a.2.1 (20 + ix l.2.2.1) - l.a else 1) = tW a.2.1 l := tW_M _
    by_cases c1 : (1 : Int32) ≤ (a.2.1 (20 + ix l.2.2.1) - l.a)
    · rw [if_pos c1]
      rw [if_pos c1] at eW
      exact b155 _ eW
    · rw [if_neg c1]
      rw [if_neg c1] at eW
      exact b155 _ eW
theorem are_rank {vB vT vH vR vO : St} {bH : Nat → St} {fl fp ft : Nat → Int32} {a : AS} (hw : RW fl fp ft a) (k48 : Int32 → Int32 → Int32 → Option Int32) {P d : Nat} (hP : a.2.1 1 = nI P) (h8 : P ≤ 8) (hd : d < 8) (x4 x8 : Int32) : ∀ (n fu y : Nat) (acc : Int32), n < fu → y + n = P →
    L_arePupils_l199 vB vT vH bH vR vO fl fp ft k48 fu x4 (nI d) (balS a d) x8 acc (nI y) = L_arePupils_b261 vB vT vH bH vR vO fl fp ft k48 x4 (nI d) (balS a d) x8 (rkS a d n y acc) := by
  have t1 : ft 1 = nI P := (hw.2.1 1 (by decide) (by decide)).trans hP
  intro n
  induction n with
  | zero =>
    intro fu y acc hf hy
    obtain ⟨fu, rfl⟩ : ∃ f, fu = f + 1 := ⟨fu - 1, by omega⟩
    rw [L_arePupils_l199, r16_1, Option.bind_some, t1, if_pos (nI_le (by omega) (by omega))]; rfl
  | succ n ih =>
    intro fu y acc hf hy
    obtain ⟨fu, rfl⟩ : ∃ f, fu = f + 1 := ⟨fu - 1, by omega⟩
    have hc : (nI d ≤ nI y) = (d ≤ y) := q_le (by omega) (by omega)
    have go := fun acc => ih fu (y + 1) acc (by omega) (by omega)
    have eb : sumS (mt (-1) (nI y) (-1)) 0 a.1 - sumS (mt (nI y) (-1) (-1)) 0 a.1 = balS a y := rfl
    have e247 : L_arePupils_b247 vB vT vH bH vR vO fl fp ft k48 (L_arePupils_l199 vB vT vH bH vR vO fl fp ft k48 fu) x4 (nI d) (balS a d) x8 (nI y) acc = L_arePupils_l199 vB vT vH bH vR vO fl fp ft k48 fu x4 (nI d) (balS a d) x8 (acc + 1) (nI (y + 1)) := by
      rw [L_arePupils_b247, q_1]
    rw [L_arePupils_l199, r16_1, Option.bind_some, t1, if_neg (nI_ge (by omega) (by omega)), l_had hw.1 (by omega), Option.bind_some, l_owing hw.1 (by omega), Option.bind_some, eb, e247, q_0, q_1, rkS]
    by_cases c1 : balS a d < balS a y
    · rw [if_pos c1, if_pos c1]; exact go _
    · rw [if_neg c1, if_neg c1]
      by_cases c2 : balS a y = balS a d
      · rw [if_pos c2, if_pos c2]
        by_cases c3 : d ≤ y
        · rw [if_pos (hc.mpr c3), if_pos c3]; exact go _
        · rw [if_neg (fun e => c3 (hc.mp e)), if_neg c3]; exact go _
      · rw [if_neg c2, if_neg c2]; exact go _
theorem are_one {vB vT vH vR vO : St} {bH : Nat → St} {fl fp ft : Nat → Int32} {a : AS} (h : RC vB a) (ho : OK a) (hb : BAL a) (hw : RW fl fp ft a) (k48 : Int32 → Int32 → Int32 → Option Int32) {P d : Nat} (hP : a.2.1 1 = nI P) (h8 : P ≤ 8) (hd : d < P) (x4 : Int32) :
    L_arePupils_b261 vB vT vH bH vR vO fl fp ft k48 x4 (nI d) (balS a d) (oN (-1000004) (spS (nI d) a.2.1 a.1 none)) (nI (rkN a d P 0)) = k48 x4 (1 : Int32) (nI (d + 1)) := by
  have hd8 : d < 8 := by omega
  obtain ⟨c0, c1, c2, c3, c4, c5, c6, c7, c8⟩ := c_pup h ho hP h8 vT vH bH vR vO hd
  have hbd : a.2.2 2 d = balS a d := (hb d hd8).trans (balS_eq (by omega)).symm
  rw [hbd] at c3
  have g := fun (r j : Nat) (e : offP r = j) (h1 : 2 ≤ r) (h2 : r ≤ 7) => hw.2.2.get (r := r) (j := j) e h1 h2 hd8
  have b413 : ∀ t0, t0 = (if a.2.2 5 d ≤ 0 then -1000004 else a.2.2 5 d - 1) → L_arePupils_b413 vB vT vH bH vR vO fl fp ft k48 x4 (nI d) (oN (-1000004) (spS (nI d) a.2.1 a.1 none)) (nI (rkN a d P 0)) (if a.2.2 5 d ≤ 0 then -1000004 else a.2.2 5 d - 1) t0 = k48 x4 (1 : Int32) (nI (d + 1)) := by
    rintro _ rfl
    have e1 : (1 : Int32) + nI d = nI (1 + d) := nI_add 1 d
    rw [L_arePupils_b413, if_pos rfl, c7, Option.bind_some, p48_3, q_ld (by omega) (by decide), Option.bind_some, g 6 3 rfl (by decide) (by decide), if_pos rfl, c8, Option.bind_some, p48_4, q_ld (by omega) (by decide), Option.bind_some, g 7 4 rfl (by decide) (by decide), if_pos rfl, c_spoils h ho hP h8 vT vH bH vR vO hd, Option.bind_some, if_pos rfl, (c_rich h vT vH bH vR vO h8 hP).2.2 d hd, Option.bind_some, if_pos rfl, e1, c_why h ho hP h8 vT vH bH vR vO hd (by omega) (by omega), Option.bind_some, l_why hw hd8, Option.bind_some, if_pos rfl, q_1]
  rw [L_arePupils_b261, p48_5, p48_1, p48_2, p48_0, c0, Option.bind_some, l_owing hw.1 hd8, Option.bind_some, if_pos rfl, c1, Option.bind_some, l_had hw.1 hd8, Option.bind_some, if_pos rfl, c2, Option.bind_some, if_pos rfl, c3, Option.bind_some, if_pos rfl, q_ld (by omega) (by decide), Option.bind_some, g 2 5 rfl (by decide) (by decide), hbd, if_pos rfl, c4, Option.bind_some, q_ld (by omega) (by decide), Option.bind_some, g 3 0 rfl (by decide) (by decide), if_pos rfl, c5, Option.bind_some, q_ld (by omega) (by decide), Option.bind_some, g 4 1 rfl (by decide) (by decide), if_pos rfl, c6, Option.bind_some, q_ld (by omega) (by decide), Option.bind_some, g 5 2 rfl (by decide) (by decide)]
  by_cases c : a.2.2 5 d ≤ 0
  · rw [if_pos c]
    exact b413 _ (if_pos c).symm
  · rw [if_neg c, Option.bind_some]
    exact b413 _ (if_neg c).symm
theorem are_pup_l {vB vT vH vR vO : St} {bH : Nat → St} {fl fp ft : Nat → Int32} {a : AS} (h : RC vB a) (ho : OK a) (hb : BAL a) (hw : RW fl fp ft a) {P : Nat} (hP : a.2.1 1 = nI P) (h8 : P ≤ 8) : ∀ (n fu d : Nat) (x4 : Int32), n < fu → d + n = P →
    L_arePupils_l48 vB vT vH bH vR vO fl fp ft fu x4 (1 : Int32) (nI d) = L_arePupils_b516 vB vT vH bH vR vO fl fp ft (aloN a.2.2 n d x4) (1 : Int32) := by
  have t1 : ft 1 = nI P := (hw.2.1 1 (by decide) (by decide)).trans hP
  intro n
  induction n with
  | zero =>
    intro fu d x4 hf hd
    obtain ⟨fu, rfl⟩ : ∃ f, fu = f + 1 := ⟨fu - 1, by omega⟩
    rw [L_arePupils_l48, r16_1, Option.bind_some, t1, if_pos (nI_le (by omega) (by omega))]; rfl
  | succ n ih =>
    intro fu d x4 hf hd
    obtain ⟨fu, rfl⟩ : ∃ f, fu = f + 1 := ⟨fu - 1, by omega⟩
    have hd8 : d < 8 := by omega
    have hne : ¬ (1 : Int32) = 0 := by decide
    have f5 : fp (6 * d + 2) = a.2.2 5 d := hw.2.2.get (r := 5) (j := 2) rfl (by decide) (by decide) hd8
    have eb : sumS (mt (-1) (nI d) (-1)) 0 a.1 - sumS (mt (nI d) (-1) (-1)) 0 a.1 = balS a d := rfl
    have round : ∀ x4', L_arePupils_l113 vB vT vH bH vR vO fl fp ft (L_arePupils_l48 vB vT vH bH vR vO fl fp ft fu) FU x4' (nI d) (balS a d) (-1000004 : Int32) (0 : Int32) (0 : Int32) = L_arePupils_l48 vB vT vH bH vR vO fl fp ft fu x4' (1 : Int32) (nI (d + 1)) := fun x4' => by
      have e1 := are_soon (vB := vB) (vT := vT) (vH := vH) (vR := vR) (vO := vO) (bH := bH) ho hw (L_arePupils_l48 vB vT vH bH vR vO fl fp ft fu) hd8 x4' (balS a d) 0 a.1 [] FU none (by have := ho.1; unfold FU; omega) rfl (fun x hx => by cases hx)
      have e1 : L_arePupils_l113 vB vT vH bH vR vO fl fp ft (L_arePupils_l48 vB vT vH bH vR vO fl fp ft fu) FU x4' (nI d) (balS a d) (-1000004 : Int32) (0 : Int32) (0 : Int32) = _ := e1
      have e2 := are_rank (vB := vB) (vT := vT) (vH := vH) (vR := vR) (vO := vO) (bH := bH) hw (L_arePupils_l48 vB vT vH bH vR vO fl fp ft fu) hP h8 hd8 x4' (oN (-1000004) (spS (nI d) a.2.1 a.1 none)) P FU 0 0 (by unfold FU; omega) (by omega)
      have e2 : L_arePupils_l199 vB vT vH bH vR vO fl fp ft (L_arePupils_l48 vB vT vH bH vR vO fl fp ft fu) FU x4' (nI d) (balS a d) (oN (-1000004) (spS (nI d) a.2.1 a.1 none)) (0 : Int32) (0 : Int32) = _ := e2
      have e3 : rkS a d P 0 0 = nI (rkN a d P 0) := by
        have := rkS_N (a := a) (x := d) P 0 0
        rw [Nat.zero_add] at this
        exact this
      rw [e1, e2, e3, are_one h ho hb hw _ hP h8 (by omega)]
    rw [L_arePupils_l48, r16_1, Option.bind_some, t1, if_neg (nI_ge (by omega) (by omega)), if_neg hne, l_had hw.1 hd8, Option.bind_some, l_owing hw.1 hd8, Option.bind_some, p48_2, q_ld (by omega) (by decide), Option.bind_some, f5, eb, aloN]
    by_cases c : a.2.2 5 d = 0
    · rw [if_pos c, if_pos c, round]
      exact ih fu (d + 1) _ (by omega) (by omega)
    · rw [if_neg c, if_neg c, round, Int32.or_zero]
      exact ih fu (d + 1) _ (by omega) (by omega)
theorem are_pupils {vB vT vH vR vO : St} {bH : Nat → St} {fl fp ft : Nat → Int32} {a : AS} (h : RC vB a) (ho : OK a) (hb : BAL a) (hw : RW fl fp ft a) {P : Nat} (hP : a.2.1 1 = nI P) (h8 : P ≤ 8) : L_arePupils vB vT vH bH vR vO fl fp ft = some 1 := by
  have t1 : ft 1 = nI P := (hw.2.1 1 (by decide) (by decide)).trans hP
  obtain ⟨r1, r2, _⟩ := c_rich h vT vH bH vR vO h8 hP
  have e := are_pup_l (vT := vT) (vH := vH) (vR := vR) (vO := vO) (bH := bH) h ho hb hw hP h8 P FU 0 0 (by unfold FU; omega) (by omega)
  have e : L_arePupils_l48 vB vT vH bH vR vO fl fp ft FU (0 : Int32) (1 : Int32) (0 : Int32) = _ := e
  rw [L_arePupils, r16_1, Option.bind_some, t1, c_pup_no h hP h8, Option.bind_some, if_pos rfl, Option.bind_some, r1, Option.bind_some, if_pos rfl, r2, Option.bind_some, if_pos rfl, e, L_arePupils_b516, if_neg (by decide), cc_11 h ho h8 hP, Option.bind_some, if_pos rfl]
/- rings -/
theorem are_owes {vB vT vH vO : St} {bH : Nat → St} {fl fp ft : Nat → Int32} {a : AS} (h : RC vB a) (ho : OK a) (hw : RW fl fp ft a) {P : Nat} (hP : a.2.1 1 = nI P) (h8 : P ≤ 8) (h1P : 1 ≤ P) {k : Nat} (hk : k < 4) (k42 : St → (Nat → Int32) → Int32 → Int32 → Option (Int32 × St × (Nat → Int32))) (vR : St) (fr : Nat → Int32) : ∀ (n fu d : Nat), n < fu → d + n = P →
    L_areRings_l163 vB vT vH bH vO fl ft k42 fu vR fr (1 : Int32) (nI k) (nI d) = k42 vR fr (1 : Int32) (nI (k + 1)) := by
  have t1 : ft 1 = nI P := (hw.2.1 1 (by decide) (by decide)).trans hP
  intro n
  induction n with
  | zero =>
    intro fu d hf hd
    obtain ⟨fu, rfl⟩ : ∃ f, fu = f + 1 := ⟨fu - 1, by omega⟩
    rw [L_areRings_l163, r16_1, Option.bind_some, t1, if_pos (nI_le (by omega) (by omega)), q_1]
  | succ n ih =>
    intro fu d hf hd
    obtain ⟨fu, rfl⟩ : ∃ f, fu = f + 1 := ⟨fu - 1, by omega⟩
    have hm : (d + 1 + k) % P < P := Nat.mod_lt _ (by omega)
    have er : remI ((nI d + (1 : Int32)) + nI k) (nI P) = some (nI ((d + 1 + k) % P)) := by
      rw [q_1, nI_add]
      unfold remI
      rw [if_neg (nI_ne0 (by omega) (by omega)), pk_rem (by omega) (by omega) (by omega)]
    rw [L_areRings_l163, r16_1, Option.bind_some, t1, if_neg (nI_ge (by omega) (by omega)), Option.bind_some, er, Option.bind_some, if_neg (by decide), c_owes h hP h8 vT vH bH vR vO (by omega) hm hk, Option.bind_some, l_owed hw.1 (by omega) (by omega) hk, Option.bind_some, if_pos rfl, q_1]
    exact ih fu (d + 1) (by omega) (by omega)
theorem are_ring_j {vB vT vH vO : St} {bH : Nat → St} {fl ft : Nat → Int32} {a : AS} (h : RC vB a) (ho : OK a) {k : Nat} (hk : k < 4) (k42 : St → (Nat → Int32) → Int32 → Int32 → Option (Int32 × St × (Nat → Int32))) {fr : Nat → Int32} (hL8 : rgL (WN (nI k) a.1) ≤ 8) (hr : ∀ i, i < rgL (WN (nI k) a.1) → fr i = nI (rgP (WN (nI k) a.1) i)) : ∀ (n fu j : Nat) (vR : St), n < fu → j + n = rgL (WN (nI k) a.1) →
    ∃ vR', L_areRings_l66 vB vT vH bH vO fl ft k42 fu vR fr (1 : Int32) (nI k) (nI (rgL (WN (nI k) a.1))) (nI j) = L_areRings_b106 vB vT vH bH vO fl ft k42 vR' fr (1 : Int32) (nI k) (nI (rgL (WN (nI k) a.1))) := by
  have h3 : kIn (nI k) 0 3 = true := kIn_nI (lo := 0) (hi := 3) (by omega) (by omega) (by omega)
  intro n
  induction n with
  | zero =>
    intro fu j vR hf hj
    obtain ⟨fu, rfl⟩ : ∃ f, fu = f + 1 := ⟨fu - 1, by omega⟩
    exact ⟨vR, by rw [L_areRings_l66, if_pos (nI_le (by omega) (by omega))]⟩
  | succ n ih =>
    intro fu j vR hf hj
    obtain ⟨fu, rfl⟩ : ∃ f, fu = f + 1 := ⟨fu - 1, by omega⟩
    obtain ⟨vR2, e⟩ := c_ringS h ho vT vH bH vR vO (nI k) (nI j)
    have er : ringS a (nI k) (nI j) = nI (rgP (WN (nI k) a.1) j) := by
      unfold ringS
      rw [h3]
      simp only [cond_true]
      rw [if_pos (Int32.not_lt.mp (nI_pos (by omega))), if_neg (nI_ge (by omega) (by omega)), ix_nI (by omega)]
    obtain ⟨vR', e2⟩ := ih fu (j + 1) vR2 (by omega) (by omega)
    refine ⟨vR', ?_⟩
    rw [L_areRings_l66, if_neg (nI_ge (by omega) (by omega)), if_neg (by decide), e, Option.bind_some, q_ld (by omega) (by decide), Option.bind_some, er, hr j (by omega), if_pos rfl, q_1]
    exact e2
theorem are_ring_k {vB vT vH vO : St} {bH : Nat → St} {fl fp ft : Nat → Int32} {a : AS} (h : RC vB a) (ho : OK a) (hw : RW fl fp ft a) {P : Nat} (hP : a.2.1 1 = nI P) (h8 : P ≤ 8) (h1P : 1 ≤ P) : ∀ (n fu k : Nat) (vR : St) (fr : Nat → Int32), n < fu → k + n = 4 →
    ∃ vR' fr', L_areRings_l42 vB vT vH bH vO fl ft fu vR fr (1 : Int32) (nI k) = some (1, vR', fr') := by
  intro n
  induction n with
  | zero =>
    intro fu k vR fr hf hk
    obtain ⟨fu, rfl⟩ : ∃ f, fu = f + 1 := ⟨fu - 1, by omega⟩
    have : k = 4 := by omega
    subst this
    exact ⟨vR, fr, by rw [L_areRings_l42, if_pos (by decide)]; rfl⟩
  | succ n ih =>
    intro fu k vR fr hf hk
    obtain ⟨fu, rfl⟩ : ∃ f, fu = f + 1 := ⟨fu - 1, by omega⟩
    have hk4 : k < 4 := by omega
    have h3 : kIn (nI k) 0 3 = true := kIn_nI (lo := 0) (hi := 3) (by omega) (by omega) (by omega)
    obtain ⟨fr2, e1, hr, hR⟩ := l_ring hw.1 ho fr (nI k)
    have hL8 : rgL (WN (nI k) a.1) ≤ 8 := by
      rcases Nat.eq_zero_or_pos (rgL (WN (nI k) a.1)) with z | z
      · omega
      · exact (hR.rf (WN_le ho _) z).2.1
    obtain ⟨vR2, e2⟩ := are_ring_j (vT := vT) (vH := vH) (vO := vO) (bH := bH) (fl := fl) (ft := ft) h ho hk4 (L_areRings_l42 vB vT vH bH vO fl ft fu) hL8 hr (rgL (WN (nI k) a.1)) FU 0 vR (by unfold FU; omega) (by omega)
    have e2 : L_areRings_l66 vB vT vH bH vO fl ft (L_areRings_l42 vB vT vH bH vO fl ft fu) FU vR fr2 (1 : Int32) (nI k) (nI (rgL (WN (nI k) a.1))) (0 : Int32) = _ := e2
    obtain ⟨vR3, e3⟩ := c_ringS h ho vT vH bH vR2 vO (nI k) (nI (rgL (WN (nI k) a.1)))
    have er : ringS a (nI k) (nI (rgL (WN (nI k) a.1))) = -1000004 := by
      unfold ringS
      rw [h3]
      simp only [cond_true]
      rw [if_pos (Int32.not_lt.mp (nI_pos (by omega))), if_pos (nI_le (Nat.le_refl _) (by omega))]
    obtain ⟨vR4, e4⟩ := c_amountS h ho vT vH bH vR3 vO (nI k)
    obtain ⟨vR5, fr5, e5⟩ := ih fu (k + 1) vR4 fr2 (by omega) (by omega)
    have e6 := are_owes (vT := vT) (vH := vH) (vO := vO) (bH := bH) h ho hw hP h8 h1P hk4 (L_areRings_l42 vB vT vH bH vO fl ft fu) vR4 fr2 P FU 0 (by unfold FU; omega) (by omega)
    have e6 : L_areRings_l163 vB vT vH bH vO fl ft (L_areRings_l42 vB vT vH bH vO fl ft fu) FU vR4 fr2 (1 : Int32) (nI k) (0 : Int32) = _ := e6
    refine ⟨vR5, fr5, ?_⟩
    rw [L_areRings_l42, if_neg (show ¬ (4 : Int32) ≤ nI k from nI_ge (a := k) (b := 4) (by omega) (by decide)), if_neg (by decide), e1, Option.bind_some]
    dsimp only
    rw [e2, L_areRings_b106, if_neg (by decide), e3, Option.bind_some, er, if_pos rfl, e4, Option.bind_some]
    dsimp only
    unfold amountS
    rw [h3]
    simp only [cond_true]
    rcases Nat.eq_zero_or_pos (rgL (WN (nI k) a.1)) with z | z
    · rw [z, if_pos (show nI 0 ≤ (0 : Int32) by decide), if_pos (show nI 0 ≤ (0 : Int32) by decide), L_areRings_b150, if_pos rfl, e6, e5]
    · rw [if_neg (nI_nle z (by omega)), if_neg (nI_nle z (by omega)), l_amount hw.1 ho hk4 hR z hr, Option.bind_some, L_areRings_b150, if_pos rfl, e6, e5]
theorem are_rings {vB vT vH vO : St} {bH : Nat → St} {fl fp ft : Nat → Int32} {a : AS} (h : RC vB a) (ho : OK a) (hw : RW fl fp ft a) {P : Nat} (hP : a.2.1 1 = nI P) (h8 : P ≤ 8) (h1P : 1 ≤ P) (vR : St) (fr : Nat → Int32) :
    ∃ vR' fr', L_areRings vB vT vH bH vR vO fl ft fr = some (1, vR', fr') := by
  obtain ⟨vR1, e1⟩ := c_ringS h ho vT vH bH vR vO (4 : Int32) (0 : Int32)
  have r1 : ringS a (4 : Int32) (0 : Int32) = -1000001 := rfl
  obtain ⟨vR2, e2⟩ := c_ringS h ho vT vH bH vR1 vO (0 : Int32) (-1 : Int32)
  have r2 : ringS a (0 : Int32) (-1 : Int32) = -1000001 := by
    unfold ringS
    rw [show kIn (0 : Int32) 0 3 = true from rfl]
    simp only [cond_true]
    rw [if_neg (by decide)]
  obtain ⟨vR3, e3⟩ := c_amountS h ho vT vH bH vR2 vO (4 : Int32)
  have r3 : amountS a (4 : Int32) = -1000001 := rfl
  obtain ⟨vR4, fr4, e4⟩ := are_ring_k (vT := vT) (vH := vH) (vO := vO) (bH := bH) h ho hw hP h8 h1P 4 5 0 vR3 fr (by decide) rfl
  have e4 : L_areRings_l42 vB vT vH bH vO fl ft 5 vR3 fr (1 : Int32) (0 : Int32) = _ := e4
  refine ⟨vR4, fr4, ?_⟩
  rw [L_areRings, e1, Option.bind_some]
  dsimp only
  rw [r1, if_pos rfl, e2, Option.bind_some]
  dsimp only
  rw [r2, if_pos rfl, e3, Option.bind_some]
  dsimp only
  rw [r3, if_pos rfl, e4]

/- the law's numbers and rows -/
def tN (i : Nat) : Nat := if i < 2 then i else if i ≤ 9 then i + 1 else i + 10
def TW (ft : Nat → Int32) (nu : Nat → Int32) : Prop := ∀ i, i < 16 → i ≠ 2 → ft i = nu (tN i)
def PW (fp : Nat → Int32) (pu : Nat → Nat → Int32) : Prop := ∀ r p, 2 ≤ r → r ≤ 7 → p < 8 → fp (6 * p + offP r) = pu r p
theorem tN_inj {i j : Nat} (hi : i ≠ 2) (hj : j ≠ 2) (h : tN i = tN j) : i = j := by
  unfold tN at h
  split at h <;> split at h <;> (try split at h) <;> (try split at h) <;> omega
theorem TW.num {ft nu : Nat → Int32} (h : TW ft nu) {j : Nat} (hj : j ≠ 2) (x : Int32) : TW (upd ft j x) (upd nu (tN j) x) := fun i hi h2 => by
  by_cases c : i = j
  · subst c; rw [q_up, q_up]
  · rw [q_un c, q_un (fun z => c (tN_inj h2 hj z))]; exact h i hi h2
theorem TW.len {ft ft' nu : Nat → Int32} (h : TW ft nu) (e : ∀ i, i ≠ 2 → ft' i = ft i) : TW ft' nu := fun i hi h2 => (e i h2).trans (h i hi h2)
theorem PW.row {fp : Nat → Int32} {pu : Nat → Nat → Int32} (h : PW fp pu) {r p j : Nat} (x : Int32) (hj : offP r = j) (h1 : 2 ≤ r) (h2 : r ≤ 7) (hp : p < 8) : PW (upd fp (6 * p + j) x) (updP pu r p x) := fun r' p' a b c => by
  subst hj
  have ho := offP_lt h1 h2
  have ho' := offP_lt a b
  by_cases hh : r' = r ∧ p' = p
  · obtain ⟨rfl, rfl⟩ := hh; rw [q_up, updP_s]
  · rw [updP_n hh, q_un ?_]
    · exact h r' p' a b c
    · intro e
      have hpp : p' = p := by omega
      subst hpp
      exact hh ⟨offP_inj a b h1 h2 (by omega), rfl⟩
theorem PW.get {fp : Nat → Int32} {pu : Nat → Nat → Int32} (h : PW fp pu) {r p j : Nat} (hj : offP r = j) (h1 : 2 ≤ r) (h2 : r ≤ 7) (hp : p < 8) : fp (6 * p + j) = pu r p := by
  subst hj; exact h r p h1 h2 hp
theorem p48_0 (d : Nat) : (6 : Int32) * nI d = nI (6 * d + 0) := pk_mul 6 d
theorem p48_1 (d : Nat) : ((6 : Int32) * nI d) + (1 : Int32) = nI (6 * d + 1) := by
  rw [show (6 : Int32) = nI 6 from rfl, show (1 : Int32) = nI 1 from rfl, pk_mul, nI_add]
theorem p48_2 (d : Nat) : ((6 : Int32) * nI d) + (2 : Int32) = nI (6 * d + 2) := by
  rw [show (6 : Int32) = nI 6 from rfl, show (2 : Int32) = nI 2 from rfl, pk_mul, nI_add]
theorem p48_3 (d : Nat) : ((6 : Int32) * nI d) + (3 : Int32) = nI (6 * d + 3) := by
  rw [show (6 : Int32) = nI 6 from rfl, show (3 : Int32) = nI 3 from rfl, pk_mul, nI_add]
theorem p48_4 (d : Nat) : ((6 : Int32) * nI d) + (4 : Int32) = nI (6 * d + 4) := by
  rw [show (6 : Int32) = nI 6 from rfl, show (4 : Int32) = nI 4 from rfl, pk_mul, nI_add]
theorem p48_5 (d : Nat) : ((6 : Int32) * nI d) + (5 : Int32) = nI (6 * d + 5) := by
  rw [show (6 : Int32) = nI 6 from rfl, show (5 : Int32) = nI 5 from rfl, pk_mul, nI_add]
theorem LW.ft {fl ft ft' : Nat → Int32} {ls : List Lot} (h : LW fl ft ls) (e : ft' 2 = ft 2) : LW fl ft' ls := ⟨e.trans h.1, h.2.1, h.2.2⟩
/- a week's end, in the law: first all lots grow older -/
theorem okA.pk {P : Nat} {l : Lot} (h : okA P l) (h8 : P ≤ 8) : ∃ x, PK x l := by
  obtain ⟨d, c, k, n, a, p, rfl, h1, h2, h3, h4, h5, h6, h7, h9⟩ := h
  exact ⟨_, d, c, k, n, a, p, rfl, rfl, by omega, by omega, h4, by omega, by omega, h9⟩
theorem PK.age {x : Int32} {l : Lot} {P : Nat} (h : PK x l) (hl : okL P l) (h8 : P ≤ 8) : PK (x + (4096 : Int32)) (age l) := by
  obtain ⟨d', c', k', n', a', p', e', g1, g2, g3, g4, g5, g6, g7, g8⟩ := hl
  obtain ⟨d, c, k, n, a, p, rfl, rfl, h1, h2, h3, h4, h5, h6⟩ := h
  have ea : a ≤ 19 := by
    have : nI a = nI a' := congrArg (fun l : Lot => l.2.2.2.2.1) e'
    have := (nI_eq (by omega) (by omega)).mp this
    omega
  refine ⟨d, c, k, n, a + 1, p, ?_, ?_, h1, h2, h3, h4, by omega, h6⟩
  · show (nI d, nI c, nI k, nI n, nI a + 1, nI p) = _
    rw [q_1]
  · rw [show (4096 : Int32) = nI 4096 from rfl, nI_add]
    congr 1
    unfold pkN; omega
theorem l_week_l12 {P : Nat} (h8 : P ≤ 8) (fp : Nat → Int32) (x3 : Int32) : ∀ (rest : List Lot) (fu : Nat) (fl ft : Nat → Int32) (dn : List Lot), rest.length < fu → LW fl ft (dn ++ rest) → (∀ l ∈ rest, okL P l) → ft 9 = 0 →
    ∃ fl', L_week_l12 fu fl fp ft x3 (nI dn.length) = L_week_l46 FU fl' fp ft x3 (0 : Int32) ∧ LW fl' ft (dn ++ rest.map age) := by
  intro rest
  induction rest with
  | nil =>
    intro fu fl ft dn hf h hl h9
    obtain ⟨fu, rfl⟩ : ∃ f, fu = f + 1 := ⟨fu - 1, by simp at hf; omega⟩
    obtain ⟨h1, h2⟩ := h.len
    simp only [List.length_nil] at h1 h2
    exact ⟨fl, by rw [L_week_l12, r16_2, Option.bind_some, h1, if_pos (nI_le (by omega) (by omega))], h⟩
  | cons l rest ih =>
    intro fu fl ft dn hf h hl h9
    obtain ⟨fu, rfl⟩ : ∃ f, fu = f + 1 := ⟨fu - 1, by simp at hf; omega⟩
    obtain ⟨h1, h2⟩ := h.len
    simp only [List.length_cons] at h1 h2
    have hp := h.at.age (hl l List.mem_cons_self) h8
    have hu := h.upd hp
    rw [snoc_app] at hu
    obtain ⟨fl', a1, a2⟩ := ih fu _ ft (dn ++ [age l]) (by simp at hf; omega) hu (fun y hy => hl y (List.mem_cons_of_mem _ hy)) h9
    rw [snoc_len] at a1
    refine ⟨fl', ?_, by rw [List.map_cons, snoc_app]; exact a2⟩
    rw [L_week_l12, r16_2, Option.bind_some, h1, if_neg (nI_ge (by omega) (by omega)), r16_9, Option.bind_some, h9, if_pos rfl, q_ld (by omega) (by decide), Option.bind_some, q_st (by omega) (by decide), Option.bind_some, q_1, a1]
/- a lot that spoils is taken out -/
theorem l_spoil {fl fp ft nu : Nat → Int32} {pu : Nat → Nat → Int32} {dn rest : List Lot} {l : Lot} {d c k n a p : Nat} (k46 : (Nat → Int32) → (Nat → Int32) → (Nat → Int32) → Int32 → Int32 → Option (Int32 × (Nat → Int32) × (Nat → Int32) × (Nat → Int32))) (x3 : Int32)
    (e : l = (nI d, nI c, nI k, nI n, nI a, nI p)) (hd : d < 8) (hc : c < 8) (hdc : d ≠ c) (h : LW fl ft (dn ++ l :: rest)) (ht : TW ft nu) (hp : PW fp pu) :
    ∃ fl' fp' ft', L_week_b231 k46 fl fp ft x3 (nI dn.length) (fl dn.length) (nI d) (nI n) = k46 fl' fp' ft' (x3 + nI n) (nI dn.length) ∧ LW fl' ft' (dn ++ rest) ∧ TW ft' (spoilS l nu pu).2.1 ∧ PW fp' (spoilS l nu pu).2.2 := by
  have hpk := h.at
  have t5 : ft 5 = nu 6 := ht 5 (by decide) (by decide)
  have hft : LW fl (upd ft 5 (nu 6 + nI n)) (dn ++ l :: rest) := h.ft (q_un (by decide))
  obtain ⟨fl', o1, o2⟩ := l_out hft
  have r1 := hp.row (r := 4) (p := d) (j := 1) (pu 4 d + nI n) rfl (by decide) (by decide) hd
  have r2 := r1.row (r := 2) (p := d) (j := 5) (pu 2 d + nI n) rfl (by decide) (by decide) hd
  have r3 := r2.row (r := 2) (p := c) (j := 5) (pu 2 c - nI n) rfl (by decide) (by decide) hc
  have ht' : TW (upd (upd ft 5 (nu 6 + nI n)) 2 (nI (dn.length + rest.length))) (spoilS l nu pu).2.1 := by
    have e6 : (spoilS l nu pu).2.1 = upd nu (tN 5) (nu 6 + nI n) := by rw [e]; rfl
    rw [e6]
    exact (ht.num (j := 5) (by decide) (nu 6 + nI n)).len (fun i hi => q_un hi)
  refine ⟨fl', upd (upd (upd fp (6 * d + 1) (pu 4 d + nI n)) (6 * d + 5) (pu 2 d + nI n)) (6 * c + 5) (pu 2 c - nI n), _, ?_, o2, ht', ?_⟩
  · rw [L_week_b231, p48_1, q_ld (by omega) (by decide), Option.bind_some, q_st (by omega) (by decide), Option.bind_some, p48_5, q_ld (by omega) (by decide), Option.bind_some, q_st (by omega) (by decide), Option.bind_some, l_creditor hpk, Option.bind_some, show l.c = nI c by rw [e], p48_5, q_ld (by omega) (by decide), Option.bind_some, q_st (by omega) (by decide), Option.bind_some, r16_5, Option.bind_some, w16_5, Option.bind_some, t5, o1, Option.bind_some,
      hp.get (r := 4) (j := 1) rfl (by decide) (by decide) hd, r1.get (r := 2) (j := 5) rfl (by decide) (by decide) hd, updP_n (by omega), r2.get (r := 2) (j := 5) rfl (by decide) (by decide) hc, updP_n (by omega), updP_n (by omega)]
  · have hs : (spoilS l nu pu).2.2 = updP (updP (updP pu 4 d (pu 4 d + nI n)) 2 d (pu 2 d + nI n)) 2 c (pu 2 c - nI n) := by
      rw [e]
      show updP (updP (updP pu 2 (ix (nI d)) (pu 2 (ix (nI d)) + nI n)) 2 (ix (nI c)) (updP pu 2 (ix (nI d)) (pu 2 (ix (nI d)) + nI n) 2 (ix (nI c)) - nI n)) 4 (ix (nI d)) (pu 4 (ix (nI d)) + nI n) = _
      rw [ix_nI (by omega), ix_nI (by omega), updP_n (by omega), updP_comm (r := 2) (r' := 4) (by omega), updP_comm (r := 2) (r' := 4) (by omega)]
    rw [hs]; exact r3
theorem l_week_l46 {P : Nat} : ∀ (rest : List Lot) (fu : Nat) (fl fp ft nu : Nat → Int32) (pu : Nat → Nat → Int32) (dn : List Lot) (x3 : Int32), rest.length < fu → LW fl ft (dn ++ rest) → TW ft nu → PW fp pu → (∀ l ∈ rest, okA P l) → GG P nu pu → nu 10 = 0 →
    ∃ fl' fp' ft' s, s ≤ 9 * rest.length ∧ L_week_l46 fu fl fp ft x3 (nI dn.length) = some (x3 + nI s, fl', fp', ft') ∧ LW fl' ft' (dn ++ (weekL rest nu pu).1.filter pos) ∧ TW ft' (weekL rest nu pu).2.1 ∧ PW fp' (weekL rest nu pu).2.2 ∧ (weekL rest nu pu).2.1 6 = nu 6 + nI s := by
  intro rest
  induction rest with
  | nil =>
    intro fu fl fp ft nu pu dn x3 hf h ht hp _ _ _
    obtain ⟨fu, rfl⟩ : ∃ f, fu = f + 1 := ⟨fu - 1, by simp at hf; omega⟩
    obtain ⟨h1, h2⟩ := h.len
    simp only [List.length_nil] at h1 h2
    exact ⟨fl, fp, ft, 0, by omega, by rw [L_week_l46, r16_2, Option.bind_some, h1, if_pos (nI_le (by omega) (by omega)), nadd0], h, ht, hp, (nadd0 _).symm⟩
  | cons l rest ih =>
    intro fu fl fp ft nu pu dn x3 hf h ht hp hl G h10
    obtain ⟨fu, rfl⟩ : ∃ f, fu = f + 1 := ⟨fu - 1, by simp at hf; omega⟩
    obtain ⟨h1, h2⟩ := h.len
    simp only [List.length_cons] at h1 h2
    have hpk := h.at
    have P8 := G.1
    obtain ⟨d, c, k, n, a, p, e, g1, g2, g3, g4, g5, g6, g7, g8⟩ := hl l List.mem_cons_self
    obtain ⟨g, hg, hgP, hgn⟩ := G.2.1 d (by omega)
    obtain ⟨s, es, hs, est⟩ := stays_nI G (d := nI d) (c := nI c) (n := nI n) (p := nI p) g4 (a := a) (by omega)
    rw [← e] at est
    have six := lotS_six (P := P) (nu := nu) (pu := pu) e
    have t9 : ft 9 = 0 := (ht 9 (by decide) (by decide)).trans h10
    have tk : ft (10 + k) = nI s := by
      have := ht (10 + k) (by omega) (by omega)
      rw [this, ← es]
      congr 1
      unfold tN; rw [if_neg (by omega), if_neg (by omega)]; omega
    have f2 : fp (6 * d + 2) = nI g := (hp.get (r := 5) (j := 2) rfl (by decide) (by decide) (by omega)).trans hg
    have fin0 : ∀ (fl2 fp2 ft2 : Nat → Int32) (m : Nat) (y4 : Int32), m ≤ 9 → (lotS l nu pu).2.1 6 = nu 6 + nI m → TW ft2 (lotS l nu pu).2.1 → PW fp2 (lotS l nu pu).2.2 →
        ((pos (lotS l nu pu).1 = true ∧ y4 = nI dn.length + (1 : Int32) ∧ LW fl2 ft2 (dn ++ (lotS l nu pu).1 :: rest)) ∨ (pos (lotS l nu pu).1 = false ∧ y4 = nI dn.length ∧ LW fl2 ft2 (dn ++ rest))) →
        ∃ fl' fp' ft' s, s ≤ 9 * (l :: rest).length ∧ L_week_l46 fu fl2 fp2 ft2 (x3 + nI m) y4 = some (x3 + nI s, fl', fp', ft') ∧ LW fl' ft' (dn ++ (weekL (l :: rest) nu pu).1.filter pos) ∧ TW ft' (weekL (l :: rest) nu pu).2.1 ∧ PW fp' (weekL (l :: rest) nu pu).2.2 ∧ (weekL (l :: rest) nu pu).2.1 6 = nu 6 + nI s := by
      intro fl2 fp2 ft2 m y4 hm h6 ht2 hp2 hw
      have G2 : GG P (lotS l nu pu).2.1 (lotS l nu pu).2.2 := lotS_GG G
      have h102 : (lotS l nu pu).2.1 10 = 0 := by rw [lotS_row.2 10 (by decide) (by decide)]; exact h10
      have hl2 : ∀ x ∈ rest, okA P x := fun x hx => hl x (List.mem_cons_of_mem _ hx)
      have hlen : (l :: rest).length = rest.length + 1 := rfl
      rcases hw with ⟨w1, w2, w3⟩ | ⟨w1, w2, w3⟩
      · rw [snoc_app] at w3
        obtain ⟨fl', fp', ft', s, b0, b1, b2, b3, b4, b5⟩ := ih fu fl2 fp2 ft2 _ _ (dn ++ [(lotS l nu pu).1]) (x3 + nI m) (by simp at hf; omega) w3 ht2 hp2 hl2 G2 h102
        rw [snoc_len, ← q_1] at b1
        rw [Int32.add_assoc, nI_add] at b1
        rw [h6, Int32.add_assoc, nI_add] at b5
        refine ⟨fl', fp', ft', m + s, by omega, by rw [w2]; exact b1, ?_, b3, b4, b5⟩
        show LW fl' ft' (dn ++ ((lotS l nu pu).1 :: (weekL rest (lotS l nu pu).2.1 (lotS l nu pu).2.2).1).filter pos)
        rw [List.filter_cons, w1, if_pos rfl, snoc_app]
        exact b2
      · obtain ⟨fl', fp', ft', s, b0, b1, b2, b3, b4, b5⟩ := ih fu fl2 fp2 ft2 _ _ dn (x3 + nI m) (by simp at hf; omega) w3 ht2 hp2 hl2 G2 h102
        rw [Int32.add_assoc, nI_add] at b1
        rw [h6, Int32.add_assoc, nI_add] at b5
        refine ⟨fl', fp', ft', m + s, by omega, by rw [w2]; exact b1, ?_, b3, b4, b5⟩
        show LW fl' ft' (dn ++ ((lotS l nu pu).1 :: (weekL rest (lotS l nu pu).2.1 (lotS l nu pu).2.2).1).filter pos)
        rw [List.filter_cons, w1, if_neg (by decide)]
        exact b2
    have e10 : (10 : Int32) + nI k = nI (10 + k) := nI_add 10 k
    rw [L_week_l46, r16_2, Option.bind_some, h1, if_neg (nI_ge (by omega) (by omega)), r16_9, Option.bind_some, t9, if_pos rfl, q_ld (by omega) (by decide), Option.bind_some, l_debtor hpk, Option.bind_some, l_many hpk, Option.bind_some, show l.d = nI d by rw [e], show l.n = nI n by rw [e], p48_2, q_ld (by omega) (by decide), Option.bind_some, f2, l_age hpk, Option.bind_some, l_kind hpk, Option.bind_some, show l.a = nI a by rw [e], show l.k = nI k by rw [e], e10, q_ld (by omega) (by decide), Option.bind_some, tk]
    by_cases c1 : a < s
    · rw [if_neg (nI_ge c1 (by omega))]
      rw [decide_eq_true c1] at est
      rw [est] at six
      have el : lotS l nu pu = (l, nu, pu) := by unfold lotS; rw [est]; rfl
      have := fin0 fl fp ft 0 (nI dn.length + 1) (by omega) (six.trans (nadd0 _).symm) (by rw [el]; exact ht) (by rw [el]; exact hp) (Or.inl ⟨by rw [el, e]; exact pos_t (l := (nI d, nI c, nI k, nI n, nI a, nI p)) (nI_nle (by omega) (by omega)), rfl, by rw [el]; exact h⟩)
      rw [nadd0] at this
      exact this
    · rw [if_pos (nI_le (by omega) (by omega))]
      rw [decide_eq_false c1] at est
      rw [est] at six
      have el : lotS l nu pu = (bif spoils pu l then spoilS l nu pu else passS l nu pu) := by unfold lotS; rw [est]; rfl
      have eL : goP pu l = pu 5 d - 1 := by rw [e]; unfold goP; rw [ix_nI (by omega)]
      have esp : spoils pu l = (decide (nI g - 1 < 0) || (decide (nI g - 1 = nI c) || !decide (nI p = 0))) := by
        unfold spoils; rw [eL, e, hg]
      have spoilt : spoils pu l = true → ∃ fl' fp' ft' s, s ≤ 9 * (l :: rest).length ∧ L_week_b231 (L_week_l46 fu) fl fp ft x3 (nI dn.length) (fl dn.length) (nI d) (nI n) = some (x3 + nI s, fl', fp', ft') ∧ LW fl' ft' (dn ++ (weekL (l :: rest) nu pu).1.filter pos) ∧ TW ft' (weekL (l :: rest) nu pu).2.1 ∧ PW fp' (weekL (l :: rest) nu pu).2.2 ∧ (weekL (l :: rest) nu pu).2.1 6 = nu 6 + nI s := by
        intro hsp
        rw [hsp] at six
        have el2 : lotS l nu pu = spoilS l nu pu := by rw [el, hsp]; rfl
        obtain ⟨fl2, fp2, ft2, b1, b2, b3, b4⟩ := l_spoil (L_week_l46 fu) x3 e (by omega) (by omega) g3 h ht hp
        rw [b1]
        exact fin0 fl2 fp2 ft2 n (nI dn.length) (by omega) six (by rw [el2]; exact b3) (by rw [el2]; exact b4) (Or.inr ⟨by rw [el2]; rfl, rfl, b2⟩)
      by_cases c2 : nI g - (1 : Int32) < 0
      · rw [if_pos c2]
        exact spoilt (by rw [esp, decide_eq_true c2]; rfl)
      · rw [if_neg c2, l_creditor hpk, Option.bind_some, show l.c = nI c by rw [e]]
        by_cases c3 : nI g - (1 : Int32) = nI c
        · rw [if_pos c3]
          exact spoilt (by rw [esp, decide_eq_true c3, Bool.true_or, Bool.or_true])
        · rw [if_neg c3]
          have hx : fl dn.length = nI (pkN d c k n a p) := by
            obtain ⟨d', c', k', n', a', p', e', q0, q1, q2, q3, q4, q5, q6⟩ := hpk
            rw [q0]
            rw [e] at e'
            have b1 := (nI_eq (a := d) (b := d') (by omega) (by omega)).mp (congrArg (fun l : Lot => l.1) e')
            have b2 := (nI_eq (a := c) (b := c') (by omega) (by omega)).mp (congrArg (fun l : Lot => l.2.1) e')
            have b3 := (nI_eq (a := k) (b := k') (by omega) (by omega)).mp (congrArg (fun l : Lot => l.2.2.1) e')
            have b4 := (nI_eq (a := n) (b := n') (by omega) (by omega)).mp (congrArg (fun l : Lot => l.2.2.2.1) e')
            have b5 := (nI_eq (a := a) (b := a') (by omega) (by omega)).mp (congrArg (fun l : Lot => l.2.2.2.2.1) e')
            have b6 := (nI_eq (a := p) (b := p') (by omega) (by omega)).mp (congrArg (fun l : Lot => l.2.2.2.2.2) e')
            rw [b1, b2, b3, b4, b5, b6]
          have hbig : ((1048576 : Int32) ≤ fl dn.length) = (p = 1) := by
            rw [hx, show (1048576 : Int32) = nI 1048576 from rfl, q_le (by decide) (by unfold pkN; omega)]
            apply propext
            unfold pkN
            omega
          by_cases c4 : p = 1
          · rw [if_pos (hbig.mpr c4)]
            refine spoilt ?_
            rw [esp, c4, show decide (nI 1 = (0 : Int32)) = false by decide, Bool.not_false, Bool.or_true, Bool.or_true]
          · rw [if_neg (fun z => c4 (hbig.mp z))]
            have p0 : p = 0 := by omega
            have hsp : spoils pu l = false := by
              rw [esp, decide_eq_false c2, decide_eq_false c3, p0]; rfl
            rw [hsp] at six
            have el2 : lotS l nu pu = passS l nu pu := by rw [el, hsp]; rfl
            have gpos : 1 ≤ g := by
              rcases Nat.eq_zero_or_pos g with z | z
              · rw [z] at c2; exact absurd (by decide) c2
              · exact z
            have eg : nI g - (1 : Int32) = nI (g - 1) := q_sub (a := g) (b := 1) gpos
            have hdg : d ≠ g - 1 := by omega
            have hcg : g - 1 ≠ c := fun z => c3 (by rw [eg, z])
            obtain ⟨g', hg'⟩ : ∃ g', g - 1 = g' := ⟨_, rfl⟩
            rw [hg'] at eg hdg hcg
            have hg8 : g' < 8 := by omega
            have r1 := hp.row (r := 6) (p := g') (j := 3) (pu 6 g' + nI n) rfl (by decide) (by decide) hg8
            have r2 := r1.row (r := 2) (p := g') (j := 5) (pu 2 g' - nI n) rfl (by decide) (by decide) hg8
            have r3 := r2.row (r := 2) (p := d) (j := 5) (pu 2 d + nI n) rfl (by decide) (by decide) (by omega)
            have hpk2 : PK (nI (pkN g' c k n 0 1)) (setF (setF (setF l 0 (goP pu l)) 4 0) 5 1) := by
              refine ⟨g', c, k, n, 0, 1, ?_, rfl, hg8, by omega, g4, by omega, by omega, by omega⟩
              rw [eL, hg, eg, e]; rfl
            have hval : ((((nI g' + ((8 : Int32) * nI c)) + ((64 : Int32) * nI k)) + ((256 : Int32) * nI n)) + (1048576 : Int32)) = nI (pkN g' c k n 0 1) := by
              rw [show (8 : Int32) = nI 8 from rfl, show (64 : Int32) = nI 64 from rfl, show (256 : Int32) = nI 256 from rfl, show (1048576 : Int32) = nI 1048576 from rfl, pk_mul, pk_mul, pk_mul, nI_add, nI_add, nI_add, nI_add]
              congr 1
            have hw := (h.upd hpk2).ft (ft' := upd ft 7 (nu 8 + nI n)) (q_un (by decide))
            have t7 : ft 7 = nu 8 := ht 7 (by decide) (by decide)
            have hs : (passS l nu pu).2.2 = updP (updP (updP pu 6 g' (pu 6 g' + nI n)) 2 g' (pu 2 g' - nI n)) 2 d (pu 2 d + nI n) := by
              have : goP pu l = nI g' := by rw [eL, hg, eg]
              show updP (updP (updP pu 2 (ix l.1) (pu 2 (ix l.1) + l.2.2.2.1)) 2 (ix (goP pu l)) (updP pu 2 (ix l.1) (pu 2 (ix l.1) + l.2.2.2.1) 2 (ix (goP pu l)) - l.2.2.2.1)) 6 (ix (goP pu l)) (pu 6 (ix (goP pu l)) + l.2.2.2.1) = _
              rw [this, e]
              show updP (updP (updP pu 2 (ix (nI d)) (pu 2 (ix (nI d)) + nI n)) 2 (ix (nI g')) (updP pu 2 (ix (nI d)) (pu 2 (ix (nI d)) + nI n) 2 (ix (nI g')) - nI n)) 6 (ix (nI g')) (pu 6 (ix (nI g')) + nI n) = _
              rw [ix_nI (by omega), ix_nI (by omega), updP_n (by omega), updP_comm (r := 2) (r' := 6) (by omega), updP_comm (r := 2) (r' := 6) (by omega), updP_comm (r := 2) (p := d) (r' := 2) (p' := g') (by omega)]
            rw [Option.bind_some, Option.bind_some, eg, hval, q_st (by omega) (by decide), Option.bind_some, p48_3, q_ld (by omega) (by decide), Option.bind_some, q_st (by omega) (by decide), Option.bind_some, p48_5, q_ld (by omega) (by decide), Option.bind_some, q_st (by omega) (by decide), Option.bind_some, p48_5, q_ld (by omega) (by decide), Option.bind_some, q_st (by omega) (by decide), Option.bind_some, r16_7, Option.bind_some, w16_7, Option.bind_some, t7,
              hp.get (r := 6) (j := 3) rfl (by decide) (by decide) hg8, r1.get (r := 2) (j := 5) rfl (by decide) (by decide) hg8, updP_n (by omega), r2.get (r := 2) (j := 5) rfl (by decide) (by decide) (show d < 8 by omega), updP_n (by omega), updP_n (by omega)]
            have ht7 : TW (upd ft 7 (nu 8 + nI n)) (passS l nu pu).2.1 := by
              have e8 : (passS l nu pu).2.1 = upd nu (tN 7) (nu 8 + nI n) := by rw [e]; rfl
              rw [e8]
              exact ht.num (j := 7) (by decide) (nu 8 + nI n)
            have := fin0 (upd fl dn.length (nI (pkN g' c k n 0 1))) (upd (upd (upd fp (6 * g' + 3) (pu 6 g' + nI n)) (6 * g' + 5) (pu 2 g' - nI n)) (6 * d + 5) (pu 2 d + nI n)) (upd ft 7 (nu 8 + nI n)) 0 (nI dn.length + 1) (by omega) (six.trans (nadd0 _).symm) (by rw [el2]; exact ht7) (by rw [el2, hs]; exact r3) (Or.inl ⟨by
              rw [el2]
              refine pos_t (l := (passS l nu pu).1) ?_
              rw [show (passS l nu pu).1.n = nI n by rw [e]; rfl]
              exact nI_nle (by omega) (by omega), rfl, by rw [el2]; exact hw⟩)
            rw [nadd0] at this
            exact this
/- the law's state, and the document's -/
def RW (fl fp ft : Nat → Int32) (a : AS) : Prop := LW fl ft a.1 ∧ TW ft a.2.1 ∧ PW fp a.2.2
theorem l_week {fl fp ft : Nat → Int32} {a : AS} (h : RW fl fp ft a) (ho : OK a) : ∃ fl' fp' ft' s, s ≤ 360 ∧ L_week fl fp ft = some (nI s, fl', fp', ft') ∧ RW fl' fp' ft' (weekS a) ∧ (weekS a).2.1 6 = a.2.1 6 + nI s := by
  obtain ⟨h1, h2, h3⟩ := h
  obtain ⟨P, hP, hl, G, h40⟩ := ho.GG
  have h01 : a.2.1 10 = 0 ∨ a.2.1 10 = 1 := by
    obtain ⟨_, P, _, _, _, _, _, _, _, h01, _⟩ := id ho
    exact h01
  have t0 : ft 0 = a.2.1 0 := h2 0 (by decide) (by decide)
  have ht := h2.num (j := 0) (by decide) (a.2.1 0 + 1)
  have hw : LW fl (upd ft 0 (a.2.1 0 + 1)) a.1 := h1.ft (q_un (by decide))
  have t9 : upd ft 0 (a.2.1 0 + 1) 9 = a.2.1 10 := (q_un (by decide)).trans (h2 9 (by decide) (by decide))
  have e0 : L_week fl fp ft = L_week_l12 FU fl fp (upd ft 0 (a.2.1 0 + 1)) (0 : Int32) (0 : Int32) := by
    rw [L_week, r16_0, Option.bind_some, w16_0, Option.bind_some, t0]
  rw [e0]
  unfold weekS
  rcases h01 with c | c
  · rw [decide_eq_true c]
    obtain ⟨fl2, a1, a2⟩ := l_week_l12 G.1 fp 0 a.1 FU fl (upd ft 0 (a.2.1 0 + 1)) [] (by unfold FU; omega) hw hl (t9.trans c)
    have ha : ∀ l ∈ a.1.map age, okA P l := fun l hx => by
      obtain ⟨x, hy, rfl⟩ := List.mem_map.mp hx
      exact (hl x hy).age
    obtain ⟨fl', fp', ft', s, b0, b1, b2, b3, b4, b5⟩ := l_week_l46 (a.1.map age) FU fl2 fp (upd ft 0 (a.2.1 0 + 1)) (upd a.2.1 0 (a.2.1 0 + 1)) a.2.2 [] 0 (by rw [List.length_map]; unfold FU; omega) a2 ht h3 ha G ((q_un (by decide)).trans c)
    rw [List.length_map] at b0
    refine ⟨fl', fp', ft', s, by omega, ?_, ⟨b2, b3, b4⟩, b5⟩
    rw [show L_week_l12 FU fl fp (upd ft 0 (a.2.1 0 + 1)) (0 : Int32) (0 : Int32) = L_week_l46 FU fl2 fp (upd ft 0 (a.2.1 0 + 1)) (0 : Int32) (0 : Int32) from a1, show L_week_l46 FU fl2 fp (upd ft 0 (a.2.1 0 + 1)) (0 : Int32) (0 : Int32) = some (0 + nI s, fl', fp', ft') from b1, Int32.zero_add]
  · rw [c, decide_eq_false (by decide)]
    refine ⟨fl, fp, _, 0, by omega, ?_, ⟨hw, ht, h3⟩, (nadd0 _).symm⟩
    have c1 : ¬ (1 : Int32) = 0 := by decide
    have l46 : L_week_l46 FU fl fp (upd ft 0 (a.2.1 0 + 1)) (0 : Int32) (0 : Int32) = some ((0 : Int32), fl, fp, upd ft 0 (a.2.1 0 + 1)) := by
      show L_week_l46 (1999 + 1) fl fp (upd ft 0 (a.2.1 0 + 1)) (0 : Int32) (0 : Int32) = _
      rw [L_week_l46, r16_2, Option.bind_some, r16_9, Option.bind_some, t9, c, if_neg c1]
      split <;> rfl
    show L_week_l12 (1999 + 1) fl fp (upd ft 0 (a.2.1 0 + 1)) (0 : Int32) (0 : Int32) = _
    rw [L_week_l12, r16_2, Option.bind_some, r16_9, Option.bind_some, t9, c, if_neg c1, l46]
    split <;> rfl

/- the law's rings: how much, and clearing -/
theorem okL.pos' {P : Nat} {l : Lot} (h : okL P l) : pos l = true := by
  obtain ⟨d, c, k, n, a, p, rfl, h1, h2, h3, h4, h5, h6, h7, h8⟩ := h
  exact pos_t (l := (nI d, nI c, nI k, nI n, nI a, nI p)) (nI_nle (by omega) (by omega))
theorem r9_0 (f : Nat → Int32) : ldA 9 f (0 : Int32) = some (f 0) := q_ld (k := 0) (by decide) (by decide)
theorem l_WN {fl ft : Nat → Int32} {ls : List Lot} (h : LW fl ft ls) (hok : okN ls) {d c k : Nat} (hd : d < 8) (hc : c < 8) (hk : k < 4) : L_owed fl ft (nI d) (nI c) (nI k) = some (nI (WN (nI k) ls d c)) := by
  rw [l_owed h hd hc hk]
  have := sumS_nat (P := mtE (nI d) (nI c) (nI k)) 0 hok
  rw [Nat.zero_add] at this
  exact congrArg some this
theorem l_amt_l {fl ft fr : Nat → Int32} {ls : List Lot} (h : LW fl ft ls) (hok : okN ls) {k : Nat} (hk : k < 4) {L : Nat} {P : Nat → Nat} (hL8 : L ≤ 8) (hP : ∀ i, i < L → P i < 8) (hr : ∀ i, i < L → fr i = nI (P i)) (hb : ∀ d c, d < 8 → c < 8 → WN (nI k) ls d c ≤ 1000) :
    ∀ (n fu i m : Nat), n < fu → i + n = L → m ≤ 9999 → L_amount_l8 fl ft fr (nI L) (nI k) fu (nI m) (nI i) = some (nI (amN (WN (nI k) ls) L P n i m)) := by
  intro n
  induction n with
  | zero =>
    intro fu i m hf hi hm
    obtain ⟨fu, rfl⟩ : ∃ f, fu = f + 1 := ⟨fu - 1, by omega⟩
    rw [L_amount_l8, if_pos (nI_le (by omega) (by omega))]; rfl
  | succ n ih =>
    intro fu i m hf hi hm
    obtain ⟨fu, rfl⟩ : ∃ f, fu = f + 1 := ⟨fu - 1, by omega⟩
    have hp := hP i (by omega)
    have hp2 := hP (nx L i) (nx_lt (by omega))
    have hw := hb (P i) (P (nx L i)) hp hp2
    have b37 : ∀ t4, t4 = nI (nx L i) → L_amount_b37 fl ft fr (nI L) (nI k) (L_amount_l8 fl ft fr (nI L) (nI k) fu) (nI m) (nI i) (nI (P i)) t4 = some (nI (amN (WN (nI k) ls) L P (n + 1) i m)) := by
      rintro _ rfl
      have hnx := nx_lt (L := L) (i := i) (by omega)
      rw [L_amount_b37, q_ld (by omega) (by decide), Option.bind_some, hr _ hnx, l_WN h hok hp hp2 hk, Option.bind_some, q_1]
      unfold amN
      by_cases c : m ≤ WN (nI k) ls (P i) (P (nx L i))
      · rw [if_pos (nI_le c (by omega)), Nat.min_eq_left c]; exact ih fu (i + 1) m (by omega) (by omega) hm
      · rw [if_neg (nI_ge (by omega) (by omega)), Nat.min_eq_right (by omega)]; exact ih fu (i + 1) _ (by omega) (by omega) (by omega)
    rw [L_amount_l8, if_neg (nI_ge (by omega) (by omega)), q_ld (by omega) (by decide), Option.bind_some, hr i (by omega), q_1]
    by_cases c : L ≤ i + 1
    · rw [if_pos (nI_le c (by omega))]; exact b37 _ (by unfold nx; rw [if_neg (by omega)]; rfl)
    · rw [if_neg (nI_ge (by omega) (by omega))]; exact b37 _ (by unfold nx; rw [if_pos (by omega)])
theorem amN_top {W : Nat → Nat → Nat} {L : Nat} {P : Nat → Nat} (hP : ∀ i, i < L → P i < 8) (hb : ∀ d c, d < 8 → c < 8 → W d c ≤ 1000) (h0 : 0 < L) : amN W L P L 0 9999 = amN W L P L 0 1000 := by
  obtain ⟨n, rfl⟩ : ∃ n, L = n + 1 := ⟨L - 1, by omega⟩
  have := hb (P 0) (P (nx (n + 1) 0)) (hP 0 (by omega)) (hP _ (nx_lt (by omega)))
  show amN W (n + 1) P n 1 (min 9999 _) = amN W (n + 1) P n 1 (min 1000 _)
  rw [Nat.min_eq_right (by omega), Nat.min_eq_right (by omega)]
theorem l_amount {fl ft fr : Nat → Int32} {a : AS} (h : LW fl ft a.1) (ho : OK a) {k : Nat} (hk : k < 4) (hR : Ring (WN (nI k) a.1) (rgL (WN (nI k) a.1)) (rgP (WN (nI k) a.1))) (h0 : 0 < rgL (WN (nI k) a.1)) (hr : ∀ i, i < rgL (WN (nI k) a.1) → fr i = nI (rgP (WN (nI k) a.1) i)) :
    L_amount fl ft fr (nI (rgL (WN (nI k) a.1))) (nI k) = some (nI (rgA (WN (nI k) a.1))) := by
  obtain ⟨f1, f2, f3, f4, f5⟩ := hR.rf (WN_le ho _) h0
  have e := l_amt_l h ho.okN hk f2 f3 hr (WN_le ho _) (rgL (WN (nI k) a.1)) FU 0 9999 (by unfold FU; omega) (by omega) (by decide)
  rw [amN_top f3 (WN_le ho _) h0] at e
  exact e
theorem l_trn {k : Nat} (hk : k < 4) {L : Nat} {P : Nat → Nat} {m N : Nat} (hp : PI L P) (hL8 : L ≤ 8) (hm : m < 2 ^ 31) (hN : N ≤ 8) (k13 : (Nat → Int32) → (Nat → Int32) → (Nat → Int32) → (Nat → Int32) → Int32 → Int32 → Option (Int32 × (Nat → Int32) × (Nat → Int32) × (Nat → Int32) × (Nat → Int32))) {fr : Nat → Int32} (hr : ∀ i, i < L → fr i = nI (P i)) (x5 : Int32) :
    ∀ (n fu i : Nat) (fl fp ft : Nat → Int32) (ls : List Lot) (pu : Nat → Nat → Int32), n < fu → i + n = L → LW fl ft ls → PW fp pu → (∀ l ∈ ls, okL N l) → EN (nI k) ls L P m i →
    ∃ fl' fp' ft', L_clear_l33 (nI k) k13 fu fl fp ft fr x5 (nI L) (nI m) (nI i) = L_clear_b94 (nI k) k13 fl' fp' ft' fr x5 (nI L) (nI m) ∧ LW fl' ft' (trn (nI k) L P m n i (ls, pu)).1 ∧ PW fp' (trn (nI k) L P m n i (ls, pu)).2 ∧ ∀ i, i ≠ 2 → ft' i = ft i := by
  intro n
  induction n with
  | zero =>
    intro fu i fl fp ft ls pu hf hi h hpw hl hE
    obtain ⟨fu, rfl⟩ : ∃ f, fu = f + 1 := ⟨fu - 1, by omega⟩
    exact ⟨fl, fp, ft, by rw [L_clear_l33, if_pos (nI_le (by omega) (by omega))], h, hpw, fun _ _ => rfl⟩
  | succ n ih =>
    intro fu i fl fp ft ls pu hf hi h hpw hl hE
    obtain ⟨fu, rfl⟩ : ∃ f, fu = f + 1 := ⟨fu - 1, by omega⟩
    have hi8 := hp.1 i (by omega)
    have hx8 := hp.1 (nx L i) (nx_lt (by omega))
    have hok := okL.okN hl
    obtain ⟨fl2, ft2, e1, w1, w2⟩ := l_take hi8 hx8 hk h hok (fun l hx => (hl l hx).pos') (hE i (Nat.le_refl _) (by omega))
    have hl2 : ∀ l ∈ tkL (nI k) m (P i) (P (nx L i)) ls, okL N l := fun l hx => by
      obtain ⟨m1, m2⟩ := List.mem_filter.mp hx
      exact (takL_okZ 40 m ls hm (fun l hl' => (hl l hl').z) l m1).l m2
    have r1 := hpw.row (r := 7) (p := P i) (j := 4) (pu 7 (P i) + nI m) rfl (by decide) (by decide) hi8
    obtain ⟨fl', fp', ft', a1, a2, a3, a4⟩ := ih fu (i + 1) fl2 _ ft2 (tkL (nI k) m (P i) (P (nx L i)) ls) _ (by omega) (by omega) w1 r1 hl2 (hE.step hp hok h.2.1 hm (by omega))
    have b64 : ∀ t4, t4 = nI (nx L i) → L_clear_b64 (nI k) k13 (L_clear_l33 (nI k) k13 fu) fl fp ft fr x5 (nI L) (nI m) (nI i) (nI (P i)) t4 = L_clear_b94 (nI k) k13 fl' fp' ft' fr x5 (nI L) (nI m) := by
      rintro _ rfl
      have hnx := nx_lt (L := L) (i := i) (by omega)
      rw [L_clear_b64, q_ld (by omega) (by decide), Option.bind_some, hr _ hnx, e1, Option.bind_some, q_ld (by omega) (by decide), Option.bind_some, hr i (by omega), p48_4, q_ld (by omega) (by decide), Option.bind_some, q_st (by omega) (by decide), Option.bind_some, q_1, hpw.get (r := 7) (j := 4) rfl (by decide) (by decide) hi8]
      exact a1
    refine ⟨fl', fp', ft', ?_, a2, a3, fun j hj => (a4 j hj).trans (w2 j hj)⟩
    rw [L_clear_l33, if_neg (nI_ge (by omega) (by omega)), q_ld (by omega) (by decide), Option.bind_some, hr i (by omega), q_1]
    by_cases c : L ≤ i + 1
    · rw [if_pos (nI_le c (by omega))]; exact b64 _ (by unfold nx; rw [if_neg (by omega)]; rfl)
    · rw [if_neg (nI_ge (by omega) (by omega))]; exact b64 _ (by unfold nx; rw [if_pos (by omega)])
theorem l_clr {k : Nat} (hk : k < 4) : ∀ (n fu s : Nat) (fl fp ft fr : Nat → Int32) (a : AS), totN a.1 ≤ n → n < fu → RW fl fp (upd ft 6 (ft 6 + nI s)) a → OK a → Ring (WN (nI k) a.1) (rgL (WN (nI k) a.1)) (rgP (WN (nI k) a.1)) → (∀ i, i < rgL (WN (nI k) a.1) → fr i = nI (rgP (WN (nI k) a.1) i)) →
    ∃ fl' fp' ft' fr', L_clear_l13 (nI k) fu fl fp ft fr (nI s) (nI (rgL (WN (nI k) a.1))) = some (nI (clrN (nI k) n a s).1, fl', fp', ft', fr') ∧ RW fl' fp' ft' (clrN (nI k) n a s).2 := by
  intro n
  induction n with
  | zero =>
    intro fu s fl fp ft fr a ht hf h ho hR hr
    obtain ⟨fu, rfl⟩ : ∃ f, fu = f + 1 := ⟨fu - 1, by omega⟩
    have h0 : rgL (WN (nI k) a.1) = 0 := by
      rcases Nat.eq_zero_or_pos (rgL (WN (nI k) a.1)) with z | z
      · exact z
      · obtain ⟨_, t1, t2, _⟩ := turn_ok ho hR z; omega
    refine ⟨fl, fp, _, fr, ?_, h⟩
    rw [h0, L_clear_l13, if_pos (by decide), L_clear_b125, r16_6, Option.bind_some, w16_6, Option.bind_some]
    rfl
  | succ n ih =>
    intro fu s fl fp ft fr a ht hf h ho hR hr
    obtain ⟨fu, rfl⟩ : ∃ f, fu = f + 1 := ⟨fu - 1, by omega⟩
    rcases Nat.eq_zero_or_pos (rgL (WN (nI k) a.1)) with h0 | h0
    · refine ⟨fl, fp, _, fr, ?_, by unfold clrN; rw [if_pos h0]; exact h⟩
      rw [h0, L_clear_l13, if_pos (by decide), L_clear_b125, r16_6, Option.bind_some, w16_6, Option.bind_some]
      unfold clrN; rw [if_pos h0]
    · obtain ⟨o1, o2, o3, o4, o5, o6⟩ := turn_ok ho hR h0
      obtain ⟨f1, f2, f3, f4, f5⟩ := hR.rf (WN_le ho _) h0
      obtain ⟨P, hP, hl, G, h40⟩ := ho.GG
      obtain ⟨h1, h2, h3⟩ := h
      have hw : LW fl ft a.1 := h1.ft (q_un (by decide)).symm
      obtain ⟨fl2, fp2, ft2, e1, w1, w2, w3⟩ := l_trn hk (m := rgA (WN (nI k) a.1)) o5 f2 (by omega) G.1 (L_clear_l13 (nI k) fu) hr (nI s) (rgL (WN (nI k) a.1)) FU 0 fl fp ft a.1 a.2.2 (by unfold FU; omega) (by omega) hw h3 hl o6
      have hw2 : LW fl2 (upd ft2 8 (ft2 8 + (1 : Int32))) (turnS (nI k) a).1 := w1.ft (q_un (by decide))
      obtain ⟨fr2, e2, hr2, hR2⟩ := l_ring hw2 o1 fr (nI k)
      have hs : nI s + nI (rgA (WN (nI k) a.1)) * nI (rgL (WN (nI k) a.1)) = nI (s + rgA (WN (nI k) a.1) * rgL (WN (nI k) a.1)) := by rw [pk_mul, nI_add]
      have ht2 : TW (upd (upd ft2 8 (ft2 8 + (1 : Int32))) 6 (upd ft2 8 (ft2 8 + (1 : Int32)) 6 + nI (s + rgA (WN (nI k) a.1) * rgL (WN (nI k) a.1)))) (turnS (nI k) a).2.1 := by
        intro i hi hi2
        show _ = upd (upd a.2.1 7 (a.2.1 7 + nI (rgA (WN (nI k) a.1) * rgL (WN (nI k) a.1)))) 9 (a.2.1 9 + 1) (tN i)
        have g6 := h2 6 (by decide) (by decide)
        rw [q_up] at g6
        have g8 := h2 8 (by decide) (by decide)
        rw [q_un (by decide)] at g8
        by_cases c6 : i = 6
        · subst c6
          rw [q_up, q_un (by decide), w3 6 (by decide), show tN 6 = 7 from rfl, q_un (by decide), q_up, ← nI_add, ← Int32.add_assoc]
          exact congrArg (fun z => z + nI (rgA (WN (nI k) a.1) * rgL (WN (nI k) a.1))) g6
        · rw [q_un c6]
          by_cases c8 : i = 8
          · subst c8
            rw [q_up, w3 8 (by decide), show tN 8 = 9 from rfl, q_up]
            exact congrArg (fun z => z + (1 : Int32)) g8
          · rw [q_un c8, w3 i hi2]
            have n7 : tN i ≠ 7 := fun z => c6 (tN_inj hi2 (by decide) z)
            have n9 : tN i ≠ 9 := fun z => c8 (tN_inj hi2 (by decide) z)
            rw [q_un n9, q_un n7, ← h2 i hi hi2, q_un c6]
      obtain ⟨fl', fp', ft', fr', a1, a2⟩ := ih fu (s + rgA (WN (nI k) a.1) * rgL (WN (nI k) a.1)) fl2 fp2 (upd ft2 8 (ft2 8 + (1 : Int32))) fr2 (turnS (nI k) a) (by omega) (by omega) ⟨hw2.ft (q_un (by decide)), ht2, w2⟩ o1 hR2 hr2
      have eC : clrN (nI k) (n + 1) a s = clrN (nI k) n (turnS (nI k) a) (s + rgA (WN (nI k) a.1) * rgL (WN (nI k) a.1)) := by rw [clrN, if_neg (by omega)]
      refine ⟨fl', fp', ft', fr', ?_, ?_⟩
      · rw [L_clear_l13, if_neg (nI_nle h0 (by omega)), l_amount hw ho hk hR h0 hr, Option.bind_some]
        have e1' : L_clear_l33 (nI k) (L_clear_l13 (nI k) fu) FU fl fp ft fr (nI s) (nI (rgL (WN (nI k) a.1))) (nI (rgA (WN (nI k) a.1))) (0 : Int32) = _ := e1
        rw [e1', L_clear_b94, r16_8, Option.bind_some, w16_8, Option.bind_some, e2, Option.bind_some, hs, a1]
        rw [eC]
      · rw [eC]; exact a2
theorem l_clear {fl fp ft : Nat → Int32} {a : AS} (h : RW fl fp ft a) (ho : OK a) (fr : Nat → Int32) {k : Nat} (hk : k < 4) :
    ∃ fl' fp' ft' fr', L_clear fl fp ft fr (nI k) = some (nI (clrN (nI k) 360 a 0).1, fl', fp', ft', fr') ∧ RW fl' fp' ft' (clrN (nI k) 360 a 0).2 := by
  obtain ⟨fr2, e2, hr2, hR2⟩ := l_ring h.1 ho fr (nI k)
  have h' : RW fl fp (upd ft 6 (ft 6 + nI 0)) a := by rw [nadd0, upd_self]; exact h
  obtain ⟨fl', fp', ft', fr', a1, a2⟩ := l_clr hk 360 FU 0 fl fp ft fr2 a (tot_le ho) (by unfold FU; omega) h' ho hR2 hr2
  exact ⟨fl', fp', ft', fr', by rw [L_clear, e2, Option.bind_some]; exact a1, a2⟩

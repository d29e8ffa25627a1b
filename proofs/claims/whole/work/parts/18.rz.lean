/- the next ring: reference -/
theorem LX.rb {W : Nat → Nat → Nat} {s L : Nat} (h : LX W s L) (hL : 0 < L) : RB W s L := by
  obtain ⟨y, k, h1, h2, h3, h4, h5⟩ := h.1 hL
  subst h5
  exact ⟨y, h2, h3, h4⟩
theorem RB.lx {W : Nat → Nat → Nat} {s len : Nat} (h : RB W s len) (h2 : 2 ≤ len) (hm : ∀ l, 2 ≤ l → l < len → ¬ RB W s l) : LX W s len := by
  obtain ⟨m, rfl⟩ : ∃ m, len = m + 2 := ⟨len - 2, by omega⟩
  refine ⟨fun _ => ?_, fun y k a b c d => ?_⟩
  · obtain ⟨y, h1, h3, h4⟩ := h
    have h4 : Bk W s s (m + 1) y := h4
    exact ⟨y, m + 1, by have := h4.1; have := h4.2.2.1; omega, h1, h3, h4, by omega⟩
  · refine ⟨by omega, ?_⟩
    cases k with
    | zero => have : y = s := d
              omega
    | succ k =>
      rcases Nat.lt_or_ge (k + 1 + 1) (m + 2) with z | z
      · exact absurd ⟨y, b, c, d⟩ (hm (k + 1 + 1) (by omega) z)
      · exact z
theorem BS.ofRB {W : Nat → Nat → Nat} {s len : Nat} (hs : s < 8) (h2 : 2 ≤ len) (h : RB W s len) (hm : ∀ s', s' < 8 → ∀ l, 2 ≤ l → l < len → ¬ RB W s' l) (hf : ∀ s', s' < s → ¬ RB W s' len) : BS W 8 (some s) len := by
  refine ⟨hs, by omega, h.lx h2 (hm s hs), fun s' hs' L hL hp => ?_, fun s' hs' L hL hp => ?_⟩
  · have hb := hL.rb hp
    rcases Nat.lt_trichotomy L len with z | z | z
    · exact absurd hb (hm s' (by omega) L (hL.ge hp) z)
    · rw [z] at hb; exact absurd hb (hf s' hs')
    · exact z
  · rcases Nat.lt_or_ge L len with z | z
    · exact absurd (hL.rb hp) (hm s' hs' L (hL.ge hp) z)
    · exact z
theorem LX0.ofRB {W : Nat → Nat → Nat} (hb : ∀ d c, d < 8 → c < 8 → W d c ≤ 1000) {s : Nat} (hs : s < 8) (hm : ∀ l, 2 ≤ l → l < 9 → ¬ RB W s l) : LX W s 0 := by
  refine ⟨fun z => by omega, fun y k a b c d => ?_⟩
  obtain ⟨D, hx⟩ := DX_ex (W := W) hs hs hb
  obtain ⟨p1, p2⟩ := (hx.2 y b (by omega)).2 k d
  have := DX_le hs hx b
  exact absurd ⟨y, b, c, (hx.2 y b (by omega)).1 p1⟩ (hm (D y + 1) (by omega) (by omega))
def okB (W : Nat → Nat → Nat) (s L i p : Nat) : Prop := p < 8 ∧ ((i = 0 ∧ p = s) ∨ (0 < i ∧ Bk W s s (L - i) p))
theorem okB_ex {W : Nat → Nat → Nat} {s L i p : Nat} (hL : LX W s L) (hi : i + 1 < L) (hp : okB W s L i p) : ∃ y, y < 8 ∧ 0 < W p y ∧ Bk W s s (L - (i + 1)) y := by
  rcases hp.2 with ⟨z, rfl⟩ | ⟨z, hb⟩
  · obtain ⟨y, k, h1, h2, h3, h4, h5⟩ := hL.1 (by omega)
    exact ⟨y, h2, h3, by subst z; rw [h5]; exact h4⟩
  · obtain ⟨k, hk⟩ : ∃ k, L - i = k + 1 := ⟨L - i - 1, by omega⟩
    rw [hk] at hb
    obtain ⟨_, _, _, y, h1, h2, h3⟩ := hb
    exact ⟨y, h1, h2, by rw [show L - (i + 1) = k by omega]; exact h3⟩
theorem m_low_l {m : Int32} {S : Nat → Prop} (hm : MKS m S) {y : Nat} (hy : y < 8) (hs : S y) : ∀ (n fu x : Nat), n < fu → x + n = 8 → x ≤ y → (∀ z, z < x → ¬ S z) → ∃ z, X5_lowest_l2 m fu (nI x) = some (nI z) ∧ FstP S z := by
  intro n
  induction n with
  | zero => intro fu x _ _ _ _; omega
  | succ n ih =>
    intro fu x hf hx hxy hno
    obtain ⟨fu, rfl⟩ : ∃ f, fu = f + 1 := ⟨fu - 1, by omega⟩
    have eb := hm.bit0 (y := x) (by omega)
    rw [X5_lowest_l2]
    by_cases c : ((m >>> ((nI x) &&& 31)) &&& 1) = 0
    · have hx' := eb.mp c
      rw [if_pos c, q_1]
      have : x ≠ y := fun z => by subst z; exact hx' hs
      exact ih fu (x + 1) (by omega) (by omega) (by omega) (fun z hz => by
        by_cases e : z = x
        · subst e; exact hx'
        · exact hno z (by omega))
    · rw [if_neg c]
      refine ⟨x, rfl, by omega, ?_, hno⟩
      apply Classical.byContradiction
      intro q
      exact c (eb.mpr q)
theorem m_low {m : Int32} {S : Nat → Prop} (hm : MKS m S) {y : Nat} (hy : y < 8) (hs : S y) : ∃ z, X5_lowest m = some (nI z) ∧ FstP S z := by
  have := m_low_l hm hy hs 8 FU 0 (by decide) (by omega) (by omega) (fun z hz => by omega)
  rw [X5_lowest]; exact this
theorem m_l40 {W : Nat → Nat → Nat} {s L : Nat} (hs : s < 8) (hL : LX W s L) (hL8 : L ≤ 8) (p1 : Int32) :
    ∀ (n fu m : Nat) (P : Nat → Nat) (w : St), n < fu → m + 1 + n = L → LKS w W → BKS w W s L →
    (∀ j, j ≤ m → w 11 j = nI (P j)) → P 0 = s → (∀ j, j < m → stepR W s L j (P j) (P (j + 1))) → (∀ j, j ≤ m → okB W s L j (P j)) →
    ∃ (w' : St) (Q : Nat → Nat), X5_rings_l40 p1 fu w (nI L) (nI (m + 1)) = some (nI L, w') ∧ (∀ j, j < L → w' 11 j = nI (Q j)) ∧ Q 0 = s ∧ (∀ j, j + 1 < L → stepR W s L j (Q j) (Q (j + 1))) ∧ (∀ j, j < L → okB W s L j (Q j)) ∧ (∀ r, r ≠ 11 → w' r = w r) := by
  intro n
  induction n with
  | zero =>
    intro fu m P w hf hm hK hB hP h0 hS hk
    obtain ⟨fu, rfl⟩ : ∃ f, fu = f + 1 := ⟨fu - 1, by omega⟩
    refine ⟨w, P, ?_, fun j hj => hP j (by omega), h0, fun j hj => hS j (by omega), fun j hj => hk j (by omega), fun _ _ => rfl⟩
    rw [X5_rings_l40, if_pos (by rw [q_le (by omega) (by omega)]; omega)]
  | succ n ih =>
    intro fu m P w hf hm hK hB hP h0 hS hk
    obtain ⟨fu, rfl⟩ : ∃ f, fu = f + 1 := ⟨fu - 1, by omega⟩
    have hp8 : P m < 8 := (hk m (Nat.le_refl _)).1
    obtain ⟨y, y1, y2, y3⟩ := okB_ex hL (i := m) (by omega) (hk m (Nat.le_refl _))
    obtain ⟨x, x1, x2⟩ := m_low ((hK (P m) hp8).and (hB (L - (m + 1)) (by omega))) y1 ⟨y2, y3⟩
    have x8 : x < 8 := x2.1
    have x3 : stepR W s L m (P m) x := ⟨x8, ⟨x2.2.1.2, x2.2.1.1⟩, fun z hz q => x2.2.2 z hz ⟨q.2, q.1⟩⟩
    have ec : ¬ nI L ≤ nI (m + 1) := by rw [q_le (by omega) (by omega)]; omega
    rw [X5_rings_l40, if_neg ec, nI_pred, q_ld (by omega) (by decide), Option.bind_some, hP m (Nat.le_refl _), q_ld (by omega) (by decide), Option.bind_some, q_sub (by omega), q_ld (by omega) (by decide), Option.bind_some, x1, Option.bind_some, q_st (by omega) (by decide), Option.bind_some, q_1]
    obtain ⟨w', Q, a1, a2, a3, a4, a5, a6⟩ := ih fu (m + 1) (updN P (m + 1) x) (setA w 11 (upd (w 11) (m + 1) (nI x))) (by omega) (by omega)
      (fun d hd => by rw [q_sN w _ (by decide)]; exact hK d hd) (fun k hk => by rw [q_sN w _ (by decide)]; exact hB k hk)
      (fun j hj => by
        rw [q_sA]
        by_cases z : j = m + 1
        · subst z; rw [q_up]; unfold updN; rw [if_pos rfl]
        · rw [q_un z, hP j (by omega)]; unfold updN; rw [if_neg z])
      (by unfold updN; rw [if_neg (by omega)]; exact h0)
      (fun j hj => by
        have z : j ≠ m + 1 := by omega
        unfold updN; rw [if_neg z]
        by_cases z2 : j = m
        · subst z2; rw [if_pos rfl]; exact x3
        · rw [if_neg (by omega)]; exact hS j (by omega))
      (fun j hj => by
        unfold updN
        by_cases z : j = m + 1
        · subst z; rw [if_pos rfl]; exact ⟨x8, Or.inr ⟨by omega, x2.2.1.2⟩⟩
        · rw [if_neg z]; exact hk j (by omega))
    exact ⟨w', Q, a1, a2, a3, a4, a5, fun r hr => (a6 r hr).trans (q_sN w _ hr)⟩
theorem m_l15 {W : Nat → Nat → Nat} {len : Nat} (h2 : 2 ≤ len) (h8 : len ≤ 8) (p1 : Int32) (k7 : St → Int32 → Option (Int32 × St)) : ∀ (n fu s : Nat) (v : St), n < fu → s + n = 8 → LKS v W → (∀ s', s' < s → ¬ RB W s' len) →
    (∃ w, X5_rings_l15 p1 k7 fu v (nI len) (nI s) = k7 w (nI (len + 1)) ∧ (∀ r, r ≠ 10 → w r = v r) ∧ ∀ s', s' < 8 → ¬ RB W s' len) ∨
    (∃ w t, X5_rings_l15 p1 k7 fu v (nI len) (nI s) = X5_rings_b30 p1 w (nI len) (nI t) ∧ (∀ r, r ≠ 10 → w r = v r) ∧ t < 8 ∧ RB W t len ∧ (∀ s', s' < t → ¬ RB W s' len) ∧ BKS w W t len) := by
  intro n
  induction n with
  | zero =>
    intro fu s v hf hx hL hno
    obtain ⟨fu, rfl⟩ : ∃ f, fu = f + 1 := ⟨fu - 1, by omega⟩
    have : s = 8 := by omega
    subst this
    exact Or.inl ⟨v, by rw [X5_rings_l15, if_pos (by decide), q_1], fun _ _ => rfl, hno⟩
  | succ n ih =>
    intro fu s v hf hx hL hno
    obtain ⟨fu, rfl⟩ : ∃ f, fu = f + 1 := ⟨fu - 1, by omega⟩
    have hcmp : ¬ (8 : Int32) ≤ nI s := by
      have : ¬ nI 8 ≤ nI s := by rw [q_le (by decide) (by omega)]; omega
      exact this
    obtain ⟨w, b, b1, b2, b3, b4⟩ := m_back (W := W) (s := s) (len := len) (by omega) (by omega) (by omega) hL
    rw [X5_rings_l15, if_neg hcmp, b1, Option.bind_some, q_1]
    by_cases c : b = 0
    · have hnb := b2.mp c
      have hno' : ∀ s', s' < s + 1 → ¬ RB W s' len := fun s' hs' => by
        by_cases e : s' = s
        · subst e; exact hnb
        · exact hno s' (by omega)
      rw [if_pos (show (b, w).1 = 0 from c)]
      rcases ih fu (s + 1) w (by omega) (by omega) (fun d hd => by rw [b3 9 (by decide)]; exact hL d hd) hno' with ⟨u, u1, u2, u3⟩ | ⟨u, t, u1, u2, u3⟩
      · exact Or.inl ⟨u, u1, fun r hr => (u2 r hr).trans (b3 r hr), u3⟩
      · exact Or.inr ⟨u, t, u1, fun r hr => (u2 r hr).trans (b3 r hr), u3⟩
    · rw [if_neg (show ¬ (b, w).1 = 0 from c)]
      refine Or.inr ⟨w, s, rfl, b3, by omega, ?_, hno, b4⟩
      apply Classical.byContradiction
      intro q
      exact c (b2.mpr q)
theorem m_l7 {W : Nat → Nat → Nat} (hb : ∀ d c, d < 8 → c < 8 → W d c ≤ 1000) (p1 : Int32) : ∀ (n fu len : Nat) (v : St), n < fu → len + n = 9 → 2 ≤ len → LKS v W → (∀ s, s < 8 → ∀ l, 2 ≤ l → l < len → ¬ RB W s l) →
    ∃ (w : St) (L : Nat) (P : Nat → Nat), X5_rings_l7 p1 fu v (nI len) = some (nI L, w) ∧ Ring W L P ∧ L ≤ 8 ∧ (∀ j, j < L → P j < 8 ∧ w 11 j = nI (P j)) ∧ (∀ r, r ≠ 10 → r ≠ 11 → w r = v r) := by
  intro n
  induction n with
  | zero =>
    intro fu len v hf hx h2 hL hno
    obtain ⟨fu, rfl⟩ : ∃ f, fu = f + 1 := ⟨fu - 1, by omega⟩
    have : len = 9 := by omega
    subst this
    exact ⟨v, 0, fun _ => 0, by rw [X5_rings_l7, if_pos (by decide)]; rfl, Or.inl ⟨rfl, fun s hs => LX0.ofRB hb hs (fun l a b => hno s hs l a b)⟩, by omega, fun j hj => by omega, fun _ _ _ => rfl⟩
  | succ n ih =>
    intro fu len v hf hx h2 hL hno
    obtain ⟨fu, rfl⟩ : ∃ f, fu = f + 1 := ⟨fu - 1, by omega⟩
    have hcmp : ¬ (8 : Int32) < nI len := by
      have : ¬ nI 8 < nI len := by rw [q_lt (by decide) (by omega)]; omega
      exact this
    rw [X5_rings_l7, if_neg hcmp]
    rcases m_l15 h2 (by omega) p1 (X5_rings_l7 p1 fu) 8 FU 0 v (by decide) (by omega) hL (fun s' hs' => by omega) with ⟨u, u1, u2, u3⟩ | ⟨u, t, u1, u2, u3, u4, u5, u6⟩
    · obtain ⟨w, L, P, w1, w2, w3, w4, w5⟩ := ih fu (len + 1) u (by omega) (by omega) (by omega) (fun d hd => by rw [u2 9 (by decide)]; exact hL d hd) (fun s hs l a b => by
        by_cases e : l = len
        · subst e; exact u3 s hs
        · exact hno s hs l a (by omega))
      exact ⟨w, L, P, u1.trans w1, w2, w3, w4, fun r h10 h11 => (w5 r h10 h11).trans (u2 r h10)⟩
    · have B := BS.ofRB u3 h2 u4 hno u5
      have hLX : LX W t len := u4.lx h2 (hno t u3)
      have e0 : stA 8 (u 11) (0 : Int32) (nI t) = some (upd (u 11) 0 (nI t)) := q_st (k := 0) (by decide) (by decide)
      obtain ⟨w', Q, a1, a2, a3, a4, a5, a6⟩ := m_l40 u3 hLX (by omega) p1 (len - 1) FU 0 (fun _ => t) (setA u 11 (upd (u 11) 0 (nI t))) (by show _ < 2000; omega) (by omega)
        (fun d hd => by rw [q_sN u _ (by decide), u2 9 (by decide)]; exact hL d hd) (fun k hk => by rw [q_sN u _ (by decide)]; exact u6 k hk)
        (fun j hj => by have : j = 0 := by omega
                        subst this; rw [q_sA, q_up]) rfl (fun j hj => by omega)
        (fun j hj => by have : j = 0 := by omega
                        subst this; exact ⟨u3, Or.inl ⟨rfl, rfl⟩⟩)
      refine ⟨w', len, Q, ?_, Or.inr ⟨by omega, by rw [a3]; exact B, by rw [a3]; exact a4⟩, by omega, fun j hj => ⟨(a5 j hj).1, a2 j hj⟩, fun r h10 h11 => (a6 r h11).trans ((q_sN u _ h11).trans (u2 r h10))⟩
      refine u1.trans ?_
      rw [X5_rings_b30, e0, Option.bind_some]
      exact a1
theorem m_rings {v : St} {a : AS} (h : RM (v 1) a) (ho : OK a) (kd : Int32) :
    ∃ (w : St) (L : Nat) (P : Nat → Nat), X5_rings v kd = some (nI L, w) ∧ Ring (WN kd a.1) L P ∧ L ≤ 8 ∧ (∀ j, j < L → P j < 8 ∧ w 11 j = nI (P j)) ∧ (∀ r, r ≠ 9 → r ≠ 10 → r ≠ 11 → w r = v r) := by
  obtain ⟨u, u1, u2, u3⟩ := m_looks h ho kd
  obtain ⟨w, L, P, a1, a2, a3, a4, a5⟩ := m_l7 (WN_le ho kd) kd 7 FU 2 u (by decide) (by omega) (by omega) u3 (fun s _ l a b => by omega)
  refine ⟨w, L, P, ?_, a2, a3, a4, fun r h9 h10 h11 => (a5 r h10 h11).trans (u2 r h9)⟩
  rw [X5_rings, u1, Option.bind_some]
  exact a1

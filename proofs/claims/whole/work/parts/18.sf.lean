/- chain: both sides -/
noncomputable def dsN (W : Nat → Nat → Nat) (t x : Nat) : Nat := @dite Nat (∃ D : Nat → Nat, DX W 0 t D) (Classical.propDecidable _) (fun h => h.choose x) (fun _ => 0)
theorem DX.uniq {W : Nat → Nat → Nat} {t x : Nat} {D D' : Nat → Nat} (h : DX W 0 t D) (k : DX W 0 t D') (hx : x < 8) : D x = D' x := by
  by_cases e : x = t
  · subst e; rw [h.1, k.1]
  · have f : ∀ A B : Nat → Nat, DX W 0 t A → DX W 0 t B → 0 < A x → 0 < B x ∧ B x ≤ A x := fun A B a b p => (b.2 x hx e).2 _ ((a.2 x hx e).1 p)
    rcases Nat.eq_zero_or_pos (D x) with z | z
    · rcases Nat.eq_zero_or_pos (D' x) with z' | z'
      · omega
      · have := f D' D k h z'; omega
    · have h1 := f D D' h k z
      have h2 := f D' D k h h1.1
      omega
theorem DX.named {W : Nat → Nat → Nat} {t x : Nat} {D : Nat → Nat} (h : DX W 0 t D) (hx : x < 8) : D x = dsN W t x := by
  have hh : ∃ D : Nat → Nat, DX W 0 t D := ⟨D, h⟩
  unfold dsN
  rw [dif_pos hh]
  exact h.uniq hh.choose_spec hx
def FS (W : Nat → Nat → Nat) (p : Nat) : Nat → Nat → Prop
  | 0, x => x = p
  | k + 1, x => FS W p k x ∨ ∃ y, y < 8 ∧ FS W p k y ∧ 0 < W y x
theorem FS.mono {W : Nat → Nat → Nat} {p k x : Nat} (h : FS W p k x) : ∀ j, FS W p (k + j) x := by
  intro j
  induction j with
  | zero => exact h
  | succ j ih => exact Or.inl ih
theorem FS.fwd {W : Nat → Nat → Nat} {p t : Nat} : ∀ (j k x : Nat), x < 8 → FS W p k x → Bk W 0 t j x → FS W p (k + j) t := by
  intro j
  induction j with
  | zero => intro k x _ h b; have : x = t := b
            subst this; exact h
  | succ j ih =>
    intro k x hx h b
    obtain ⟨_, _, _, y, h1, h2, h3⟩ := b
    have := ih (k + 1) y h1 (Or.inr ⟨x, hx, h, h2⟩) h3
    rw [show k + (j + 1) = k + 1 + j by omega]; exact this
theorem FS.back {W : Nat → Nat → Nat} {p t : Nat} : ∀ (k y : Nat), y < 8 → FS W p k y → ∀ j, Bk W 0 t j y → ∃ i, i ≤ j + k ∧ Bk W 0 t i p := by
  intro k
  induction k with
  | zero => intro y _ h j b; have : y = p := h
            subst this; exact ⟨j, by omega, b⟩
  | succ k ih =>
    intro y hy h j b
    rcases h with h | ⟨z, z1, z2, z3⟩
    · obtain ⟨i, i1, i2⟩ := ih y hy h j b
      exact ⟨i, by omega, i2⟩
    · by_cases e : z = t
      · subst e
        obtain ⟨i, i1, i2⟩ := ih z z1 z2 0 rfl
        exact ⟨i, by omega, i2⟩
      · obtain ⟨i, i1, i2⟩ := ih z z1 z2 (j + 1) ⟨by omega, z1, e, y, hy, z3, b⟩
        exact ⟨i, by omega, i2⟩
theorem FS_iff {W : Nat → Nat → Nat} {p t k : Nat} {D : Nat → Nat} (hx : DX W 0 t D) (hp : p < 8) (ht : t < 8) (hne : p ≠ t) : FS W p k t ↔ 0 < D p ∧ D p ≤ k := by
  constructor
  · intro h
    obtain ⟨i, i1, i2⟩ := FS.back k t ht h 0 rfl
    obtain ⟨d1, d2⟩ := (hx.2 p hp hne).2 i i2
    exact ⟨d1, by omega⟩
  · rintro ⟨h1, h2⟩
    have := FS.fwd (W := W) (p := p) (t := t) (D p) 0 p hp rfl ((hx.2 p hp hne).1 h1)
    have m := FS.mono this (k - D p)
    rw [show 0 + D p + (k - D p) = k by omega] at m
    exact m
theorem m_chain_l46 {W : Nat → Nat → Nat} {p k : Nat} (p1 p2 p3 : Int32) (k32 : St → Int32 → Int32 → Option (Int32 × St)) {v : St} (hL : LKS v W) {x4 x5 : Int32} (h4 : MKS x4 (FS W p k)) : ∀ (n fu x : Nat) (x6 : Int32), n < fu → x + n = 8 → MKS x6 (fun y => FS W p k y ∨ ∃ z, z < x ∧ FS W p k z ∧ 0 < W z y) →
    ∃ x6', X5_chain_l46 p1 p2 p3 k32 fu v x4 x5 x6 (nI x) = X5_chain_b86 p1 p2 p3 k32 v x5 x6' ∧ MKS x6' (FS W p (k + 1)) := by
  intro n
  induction n with
  | zero =>
    intro fu x x6 hf hx h
    obtain ⟨fu, rfl⟩ : ∃ f, fu = f + 1 := ⟨fu - 1, by omega⟩
    have : x = 8 := by omega
    subst this
    exact ⟨x6, by rw [X5_chain_l46, if_pos (by decide)], h⟩
  | succ n ih =>
    intro fu x x6 hf hx h
    obtain ⟨fu, rfl⟩ : ∃ f, fu = f + 1 := ⟨fu - 1, by omega⟩
    have hcmp : ¬ (8 : Int32) ≤ nI x := by
      have : ¬ nI 8 ≤ nI x := by rw [q_le (by decide) (by omega)]; omega
      exact this
    have hb := h4.bit1 (y := x) (by omega)
    rw [X5_chain_l46, if_neg hcmp, q_1]
    by_cases c : ((x4 >>> ((nI x) &&& 31)) &&& 1) = 1
    · have hx' := hb.mp c
      rw [if_pos c, q_ld (by omega) (by decide), Option.bind_some]
      refine ih fu (x + 1) _ (by omega) (by omega) ((h.or (hL x (by omega))).cong (fun y _ => ?_))
      constructor
      · rintro ((z | ⟨z, z1, z2⟩) | z)
        · exact Or.inl z
        · exact Or.inr ⟨z, by omega, z2⟩
        · exact Or.inr ⟨x, by omega, hx', z⟩
      · rintro (z | ⟨z, z1, z2, z3⟩)
        · exact Or.inl (Or.inl z)
        · by_cases e : z = x
          · subst e; exact Or.inr z3
          · exact Or.inl (Or.inr ⟨z, by omega, z2, z3⟩)
    · have hx' : ¬ FS W p k x := fun q => c (hb.mpr q)
      rw [if_neg c]
      refine ih fu (x + 1) _ (by omega) (by omega) ((h.or MKS.zero).cong (fun y _ => ?_))
      constructor
      · rintro ((z | ⟨z, z1, z2⟩) | z)
        · exact Or.inl z
        · exact Or.inr ⟨z, by omega, z2⟩
        · exact z.elim
      · rintro (z | ⟨z, z1, z2, z3⟩)
        · exact Or.inl (Or.inl z)
        · by_cases e : z = x
          · subst e; exact absurd z2 hx'
          · exact Or.inl (Or.inr ⟨z, by omega, z2, z3⟩)
theorem m_chain_l32 {W : Nat → Nat → Nat} {p t : Nat} {D : Nat → Nat} (hx : DX W 0 t D) (hp : p < 8) (ht : t < 8) (hne : p ≠ t) (p1 p3 : Int32) {v : St} (hL : LKS v W) : ∀ (n fu k : Nat) (x4 : Int32), n < fu → k + n = 7 → MKS x4 (FS W p k) → ¬ FS W p k t →
    X5_chain_l32 p1 (nI t) p3 fu v x4 (nI (k + 1)) = some (if D p = 0 then -1000004 else nI (D p), v) := by
  intro n
  induction n with
  | zero =>
    intro fu k x4 hf hk h4 hn
    obtain ⟨fu, rfl⟩ : ∃ f, fu = f + 1 := ⟨fu - 1, by omega⟩
    have : k = 7 := by omega
    subst this
    have hd := DX_le ht hx hp
    have h0 : D p = 0 := by
      rcases Nat.eq_zero_or_pos (D p) with z | z
      · exact z
      · exact absurd ((FS_iff hx hp ht hne).mpr ⟨z, hd⟩) hn
    rw [X5_chain_l32, if_pos (by decide), if_pos h0]
  | succ n ih =>
    intro fu k x4 hf hk h4 hn
    obtain ⟨fu, rfl⟩ : ∃ f, fu = f + 1 := ⟨fu - 1, by omega⟩
    have hcmp : ¬ (8 : Int32) ≤ nI (k + 1) := by
      have : ¬ nI 8 ≤ nI (k + 1) := by rw [q_le (by decide) (by omega)]; omega
      exact this
    obtain ⟨x6, e, h6⟩ := m_chain_l46 p1 (nI t) p3 (X5_chain_l32 p1 (nI t) p3 fu) hL (x5 := nI (k + 1)) h4 8 FU 0 x4 (by decide) (by omega) (h4.cong (fun y _ => by
      constructor
      · intro z; exact Or.inl z
      · rintro (z | ⟨z, z1, _⟩)
        · exact z
        · omega))
    rw [X5_chain_l32, if_neg hcmp]
    refine e.trans ?_
    rw [X5_chain_b86, q_1]
    have hb := h6.bit1 ht
    by_cases c : ((x6 >>> ((nI t) &&& 31)) &&& 1) = 1
    · obtain ⟨d1, d2⟩ := (FS_iff hx hp ht hne).mp (hb.mp c)
      have d3 : D p = k + 1 := by
        rcases Nat.lt_or_ge k (D p) with z | z
        · omega
        · exact absurd ((FS_iff hx hp ht hne).mpr ⟨d1, z⟩) hn
      rw [if_pos c, if_neg (by omega), d3]
    · rw [if_neg c]
      exact ih fu (k + 1) x6 (by omega) (by omega) h6 (fun q => c (hb.mpr q))
noncomputable def chainS (a : AS) (p1 p2 p3 : Int32) : Int32 := bif kPr a p1 p2 then (bif kIn p3 0 3 then (if dsN (WN p3 a.1) (ix p2) (ix p1) = 0 then -1000004 else nI (dsN (WN p3 a.1) (ix p2) (ix p1))) else -1000001) else -1000001
theorem c_chainS {vB : St} {a : AS} (h : RC vB a) (ho : OK a) (vT vH : St) (bH : Nat → St) (vR vO : St) (p1 p2 p3 : Int32) : ∃ vR', X4_chain vB vT vH bH vR vO p1 p2 p3 = some (chainS a p1 p2 p3, vR') := by
  rw [X4_chain, q_isPair h, Option.bind_some, ifb, q_isKind, Option.bind_some, ifb]
  unfold chainS
  cases h1 : kPr a p1 p2 with
  | false => exact ⟨vR, rfl⟩
  | true =>
  cases h2 : kIn p3 0 3 with
  | false => exact ⟨vR, rfl⟩
  | true =>
    obtain ⟨d, c, P, rfl, rfl, hd, hc, hdc, h8, hP⟩ := kPr_nat ho h1
    simp only [cond_true]
    rw [ix_nI (by omega), ix_nI (by omega)]
    obtain ⟨w, w1, w2, w3⟩ := c_read h ho vR (kd_ne h2)
    obtain ⟨w', D, g1, g2, g3, g4, g5⟩ := q_ms (lo := 0) (t := c) (by decide) (by omega) w3 (WN_le ho p3)
    have g1' : X3_measureSteps w (nI c) (0 : Int32) = some w' := g1
    have eD := g2.named (x := d) (by omega)
    have hD := g4 d (by omega)
    rw [X3_stepsBetween, w1, Option.bind_some, g1', Option.bind_some, q_at (by omega) (by decide), Option.bind_some, Option.bind_some, g3 d (by omega), ← eD]
    have h0 : (nI (D d) ≤ (0 : Int32)) = (D d ≤ 0) := q_le (b := 0) (by omega) (by decide)
    by_cases z : D d = 0
    · rw [if_pos (show nI (D d) ≤ (0 : Int32) by rw [h0]; omega), if_pos z]; exact ⟨w', rfl⟩
    · rw [if_neg (show ¬ nI (D d) ≤ (0 : Int32) by rw [h0]; omega), if_neg z]; exact ⟨w', rfl⟩
theorem m_chainS {v : St} {a : AS} (h : RM (v 1) a) (ho : OK a) (p1 p2 p3 : Int32) : MRd v a (X5_chain v p1 p2 p3) (chainS a p1 p2 p3) := by
  rw [X5_chain, q_isPairM h ho, Option.bind_some, ifb, q_isKindM, Option.bind_some, ifb]
  unfold chainS
  cases h1 : kPr a p1 p2 with
  | false => exact MRd.no h _
  | true =>
  cases h2 : kIn p3 0 3 with
  | false => exact MRd.no h _
  | true =>
    obtain ⟨d, c, P, rfl, rfl, hd, hc, hdc, h8, hP⟩ := kPr_nat ho h1
    simp only [cond_true]
    rw [ix_nI (by omega), ix_nI (by omega)]
    obtain ⟨w, w1, w2, w3⟩ := m_looks h ho p3
    obtain ⟨D, hx⟩ := DX_ex (W := WN p3 a.1) (lo := 0) (t := c) (by decide) (by omega) (WN_le ho p3)
    have eD := hx.named (x := d) (by omega)
    have e := m_chain_l32 hx (p := d) (by omega) (by omega) hdc (nI d) p3 w3 7 FU 0 ((1 : Int32) <<< ((nI d) &&& 31)) (by decide) (by omega) ((MKS.one (y := d) (by omega)).cong (fun x _ => Iff.rfl)) (fun z => by
      have : c = d := z
      omega)
    rw [w1, Option.bind_some, ← eD]
    refine ⟨w, e, by rw [w2 1 (by decide)]; exact h, fun r _ _ c9 _ _ => w2 r c9⟩

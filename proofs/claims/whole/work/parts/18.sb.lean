/- the amount of a ring: both sides -/
def amN (W : Nat → Nat → Nat) (L : Nat) (P : Nat → Nat) : Nat → Nat → Nat → Nat
  | 0, _, m => m
  | n + 1, i, m => amN W L P n (i + 1) (min m (W (P i) (P (nx L i))))
theorem amN_cong {W : Nat → Nat → Nat} {L : Nat} {P Q : Nat → Nat} (h : ∀ i, i < L → P i = Q i) : ∀ (n i m : Nat), i + n ≤ L → amN W L P n i m = amN W L Q n i m := by
  intro n
  induction n with
  | zero => intro i m _; rfl
  | succ n ih =>
    intro i m hi
    unfold amN
    rw [ih (i + 1) _ (by omega), h i (by omega), h (nx L i) (nx_lt (by omega))]
theorem amN_le {W : Nat → Nat → Nat} {L : Nat} {P : Nat → Nat} : ∀ (n i m : Nat), amN W L P n i m ≤ m ∧ (∀ j, i ≤ j → j < i + n → amN W L P n i m ≤ W (P j) (P (nx L j))) ∧ (0 < m → (∀ j, i ≤ j → j < i + n → 0 < W (P j) (P (nx L j))) → 0 < amN W L P n i m) := by
  intro n
  induction n with
  | zero => intro i m; exact ⟨Nat.le_refl _, fun j a b => by omega, fun h _ => h⟩
  | succ n ih =>
    intro i m
    unfold amN
    obtain ⟨h1, h2, h3⟩ := ih (i + 1) (min m (W (P i) (P (nx L i))))
    refine ⟨by omega, fun j a b => ?_, fun a b => h3 (by have := b i (Nat.le_refl _) (by omega); omega) (fun j c d => b j (by omega) (by omega))⟩
    by_cases e : j = i
    · subst e; omega
    · exact h2 j (by omega) (by omega)
theorem c_nextP {w : St} {L : Nat} {P : Nat → Nat} (hP : ∀ j, j < L → P j < 8 ∧ w 4 j = nI (P j)) (hL8 : L ≤ 8) {i : Nat} (hi : i < L) : X3_nextPupil w (nI i) = some (nI (P i)) := by
  rw [X3_nextPupil, q_at (by omega) (by decide), Option.bind_some, (hP i hi).2]
theorem c_behind {w : St} {L : Nat} {P : Nat → Nat} (h4 : w 99 4 = nI L) (hP : ∀ j, j < L → P j < 8 ∧ w 4 j = nI (P j)) (hL8 : L ≤ 8) {i : Nat} (hi : i < L) : X3_pupilBehind w (nI i) = some (nI (P (nx L i))) := by
  rw [X3_pupilBehind, h4, q_1]
  have hc : (nI L ≤ nI (i + 1)) = (L ≤ i + 1) := q_le (by omega) (by omega)
  unfold nx
  by_cases c : i + 1 < L
  · rw [if_neg (fun z => by have := hc.mp z; omega), if_pos c, X3_pupilBehind_b21, q_at (by omega) (by decide), Option.bind_some, (hP _ c).2]
  · rw [if_pos (hc.mpr (by omega)), if_neg c, X3_pupilBehind_b21]
    have e : X4_at (w 4) 8 (0 : Int32) = some (w 4 0) := q_at (k := 0) (by decide) (by decide)
    rw [e, Option.bind_some, (hP 0 (by omega)).2]
theorem c_amt_l {W : Nat → Nat → Nat} {w : St} {L : Nat} {P : Nat → Nat} (hb : ∀ d c, d < 8 → c < 8 → W d c ≤ 1000) (hW : ∀ d c, d < 8 → c < 8 → w 1 (8 * d + c) = nI (W d c)) (h4 : w 99 4 = nI L) (hP : ∀ j, j < L → P j < 8 ∧ w 4 j = nI (P j)) (hL8 : L ≤ 8) (h0 : 0 < L) :
    ∀ (n fu i x m : Nat), n < fu → i + n = L → (0 < i → x = m) → (i = 0 → m = 1000) → m ≤ 1000 → X3_nextAmount_l4 w fu (nI x) (nI i) = some (nI (amN W L P n i m)) := by
  intro n
  induction n with
  | zero =>
    intro fu i x m hf hi hx hm _
    obtain ⟨fu, rfl⟩ : ∃ f, fu = f + 1 := ⟨fu - 1, by omega⟩
    rw [X3_nextAmount_l4, h4, if_pos (by rw [q_le (by omega) (by omega)]; omega), hx (by omega)]; rfl
  | succ n ih =>
    intro fu i x m hf hi hx hm h1
    obtain ⟨fu, rfl⟩ : ∃ f, fu = f + 1 := ⟨fu - 1, by omega⟩
    have hp := (hP i (by omega)).1
    have hp2 := (hP (nx L i) (nx_lt (by omega))).1
    have hw := hb (P i) (P (nx L i)) hp hp2
    rw [X3_nextAmount_l4, h4, if_neg (by rw [q_le (by omega) (by omega)]; omega), c_nextP hP hL8 (by omega), Option.bind_some, c_behind h4 hP hL8 (by omega), Option.bind_some, c_owed hW hp hp2, Option.bind_some, q_1]
    have e0 : (nI i = (0 : Int32)) = (i = 0) := propext (nI_eq (b := 0) (by omega) (by decide))
    unfold amN
    by_cases c : i = 0
    · rw [if_pos (e0.mpr c)]
      exact ih fu (i + 1) _ _ (by omega) (by omega) (fun _ => by have := hm c; omega) (fun z => by omega) (by omega)
    · rw [if_neg (fun z => c (e0.mp z)), hx (by omega)]
      have hc : (nI (W (P i) (P (nx L i))) < nI m) = (W (P i) (P (nx L i)) < m) := q_lt (by omega) (by omega)
      by_cases c2 : W (P i) (P (nx L i)) < m
      · rw [if_pos (hc.mpr c2)]
        exact ih fu (i + 1) _ _ (by omega) (by omega) (fun _ => by omega) (fun z => by omega) (by omega)
      · rw [if_neg (fun z => c2 (hc.mp z))]
        exact ih fu (i + 1) _ _ (by omega) (by omega) (fun _ => by omega) (fun z => by omega) (by omega)
theorem rem_nx : ∀ L i : Fin 9, i.val < L.val → remI (nI (i.val + 1)) (nI L.val) = some (nI (nx L.val i.val)) := by decide
theorem m_owed {v : St} {ls : List Lot} (h : LM (v 1) ls) (hok : okN ls) (kd : Int32) (d c : Nat) : X5_owed v (nI d) (nI c) kd = some (nI (WN kd ls d c)) := by
  rw [q_owedM h]
  have := sumS_nat (P := mtE (nI d) (nI c) kd) 0 hok
  rw [Nat.zero_add] at this
  exact congrArg some this
theorem m_amt_l {v : St} {ls : List Lot} (h : LM (v 1) ls) (hok : okN ls) {kd : Int32} {L : Nat} {P : Nat → Nat} (hb : ∀ d c, d < 8 → c < 8 → WN kd ls d c ≤ 1000) (hP : ∀ j, j < L → P j < 8 ∧ v 11 j = nI (P j)) (hL8 : L ≤ 8) :
    ∀ (n fu i m : Nat), n < fu → i + n = L → m ≤ 1000 → X5_amountOf_l7 v (nI L) kd fu (nI m) (nI i) = some (nI (amN (WN kd ls) L P n i m)) := by
  intro n
  induction n with
  | zero =>
    intro fu i m hf hi _
    obtain ⟨fu, rfl⟩ : ∃ f, fu = f + 1 := ⟨fu - 1, by omega⟩
    rw [X5_amountOf_l7, if_pos (by rw [q_le (by omega) (by omega)]; omega)]; rfl
  | succ n ih =>
    intro fu i m hf hi h1
    obtain ⟨fu, rfl⟩ : ∃ f, fu = f + 1 := ⟨fu - 1, by omega⟩
    have hp := (hP i (by omega)).1
    have hnl : nx L i < L := nx_lt (by omega)
    have hp2 := (hP (nx L i) hnl).1
    have hw := hb (P i) (P (nx L i)) hp hp2
    have er : remI (nI (i + 1)) (nI L) = some (nI (nx L i)) := rem_nx ⟨L, by omega⟩ ⟨i, by omega⟩ (by show i < L; omega)
    rw [X5_amountOf_l7, if_neg (by rw [q_le (by omega) (by omega)]; omega), q_ld (by omega) (by decide), Option.bind_some, (hP i (by omega)).2, q_1, er, Option.bind_some, q_ld (by omega) (by decide), Option.bind_some, (hP _ hnl).2, m_owed h hok, Option.bind_some]
    have hc : (nI m ≤ nI (WN kd ls (P i) (P (nx L i)))) = (m ≤ WN kd ls (P i) (P (nx L i))) := q_le (by omega) (by omega)
    unfold amN
    by_cases c2 : m ≤ WN kd ls (P i) (P (nx L i))
    · rw [if_pos (hc.mpr c2), Nat.min_eq_left c2]
      exact ih fu (i + 1) _ (by omega) (by omega) (by omega)
    · rw [if_neg (fun z => c2 (hc.mp z)), Nat.min_eq_right (by omega)]
      exact ih fu (i + 1) _ (by omega) (by omega) (by omega)
/- the next ring of a state, named -/
noncomputable def rgL (W : Nat → Nat → Nat) : Nat := @dite Nat (∃ (L : Nat) (P : Nat → Nat), Ring W L P) (Classical.propDecidable _) (fun h => h.choose) (fun _ => 0)
noncomputable def rgP (W : Nat → Nat → Nat) : Nat → Nat := @dite (Nat → Nat) (∃ (L : Nat) (P : Nat → Nat), Ring W L P) (Classical.propDecidable _) (fun h => h.choose_spec.choose) (fun _ _ => 0)
theorem Ring.named {W : Nat → Nat → Nat} {L : Nat} {P : Nat → Nat} (h : Ring W L P) : Ring W (rgL W) (rgP W) := by
  have hh : ∃ (L : Nat) (P : Nat → Nat), Ring W L P := ⟨L, P, h⟩
  unfold rgL rgP
  rw [dif_pos hh, dif_pos hh]
  exact hh.choose_spec.choose_spec
theorem Ring.eL {W : Nat → Nat → Nat} {L : Nat} {P : Nat → Nat} (h : Ring W L P) : L = rgL W := (h.uniq h.named).1
theorem Ring.eP {W : Nat → Nat → Nat} {L : Nat} {P : Nat → Nat} (h : Ring W L P) {i : Nat} (hi : i < L) : P i = rgP W i := (h.uniq h.named).2 i hi
noncomputable def rgA (W : Nat → Nat → Nat) : Nat := amN W (rgL W) (rgP W) (rgL W) 0 1000
theorem c_next' {v : St} {a : AS} (h : RC v a) (ho : OK a) (vR : St) {kd : Int32} (hkd : kd ≠ -1) :
    ∃ w, X3_findNext vR v kd = some ((if rgL (WN kd a.1) = 0 then 0 else 1), w) ∧ Ring (WN kd a.1) (rgL (WN kd a.1)) (rgP (WN kd a.1)) ∧ rgL (WN kd a.1) ≤ 8 ∧ w 99 4 = nI (rgL (WN kd a.1)) ∧ (∀ j, j < rgL (WN kd a.1) → rgP (WN kd a.1) j < 8 ∧ w 4 j = nI (rgP (WN kd a.1) j)) ∧ (∀ d c, d < 8 → c < 8 → w 1 (8 * d + c) = nI (WN kd a.1 d c)) := by
  obtain ⟨w, L, P, h1, h2, h3, h4, h5, h6⟩ := c_next h ho vR hkd
  have eL := h2.eL
  have eP := fun i (hi : i < L) => h2.eP hi
  subst eL
  exact ⟨w, h1, h2.named, h3, h4, fun j hj => by rw [← eP j hj]; exact h5 j hj, h6⟩
theorem m_rings' {v : St} {a : AS} (h : RM (v 1) a) (ho : OK a) (kd : Int32) :
    ∃ w, X5_rings v kd = some (nI (rgL (WN kd a.1)), w) ∧ Ring (WN kd a.1) (rgL (WN kd a.1)) (rgP (WN kd a.1)) ∧ rgL (WN kd a.1) ≤ 8 ∧ (∀ j, j < rgL (WN kd a.1) → rgP (WN kd a.1) j < 8 ∧ w 11 j = nI (rgP (WN kd a.1) j)) ∧ (∀ r, r ≠ 9 → r ≠ 10 → r ≠ 11 → w r = v r) := by
  obtain ⟨w, L, P, h1, h2, h3, h4, h5⟩ := m_rings h ho kd
  have eL := h2.eL
  have eP := fun i (hi : i < L) => h2.eP hi
  subst eL
  exact ⟨w, h1, h2.named, h3, fun j hj => by rw [← eP j hj]; exact h4 j hj, h5⟩
theorem c_amt {w : St} {W : Nat → Nat → Nat} (hb : ∀ d c, d < 8 → c < 8 → W d c ≤ 1000) (hW : ∀ d c, d < 8 → c < 8 → w 1 (8 * d + c) = nI (W d c)) (h4 : w 99 4 = nI (rgL W)) (hP : ∀ j, j < rgL W → rgP W j < 8 ∧ w 4 j = nI (rgP W j)) (hL8 : rgL W ≤ 8) (h0 : 0 < rgL W) : X3_nextAmount w = some (nI (rgA W)) := by
  rw [X3_nextAmount]
  exact c_amt_l hb hW h4 hP hL8 h0 (rgL W) FU 0 0 1000 (by show _ < 2000; omega) (by omega) (fun z => by omega) (fun _ => rfl) (by omega)
theorem m_amt {v : St} {ls : List Lot} (h : LM (v 1) ls) (hok : okN ls) {kd : Int32} (hb : ∀ d c, d < 8 → c < 8 → WN kd ls d c ≤ 1000) (hP : ∀ j, j < rgL (WN kd ls) → rgP (WN kd ls) j < 8 ∧ v 11 j = nI (rgP (WN kd ls) j)) (hL8 : rgL (WN kd ls) ≤ 8) : X5_amountOf v (nI (rgL (WN kd ls))) kd = some (nI (rgA (WN kd ls))) := by
  rw [X5_amountOf]
  exact m_amt_l h hok hb hP hL8 (rgL (WN kd ls)) FU 0 1000 (by show _ < 2000; omega) (by omega) (by omega)

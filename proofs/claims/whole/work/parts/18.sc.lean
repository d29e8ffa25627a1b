/- one ring cleared: both sides -/
theorem upd_upd {f : Nat → Int32} {k : Nat} {x y : Int32} : upd (upd f k x) k y = upd f k y := by
  funext j
  by_cases h : j = k
  · subst h; rw [q_up, q_up]
  · rw [q_un h, q_un h, q_un h]
theorem upd_self {f : Nat → Int32} {k : Nat} : upd f k (f k) = f := by
  funext j
  by_cases h : j = k
  · subst h; rw [q_up]
  · rw [q_un h]
abbrev LPU : Type := List Lot × (Nat → Nat → Int32)
def trn (kd : Int32) (L : Nat) (P : Nat → Nat) (m : Nat) : Nat → Nat → LPU → LPU
  | 0, _, x => x
  | n + 1, i, x => trn kd L P m n (i + 1) (tkL kd m (P i) (P (nx L i)) x.1, updP x.2 7 (P i) (x.2 7 (P i) + nI m))
def EN (kd : Int32) (ls : List Lot) (L : Nat) (P : Nat → Nat) (m i : Nat) : Prop := ∀ j, i ≤ j → j < L → m ≤ WN kd ls (P j) (P (nx L j))
abbrev PI (L : Nat) (P : Nat → Nat) : Prop := (∀ i, i < L → P i < 8) ∧ ∀ i j, i < L → j < L → P i = P j → i = j
theorem EN.step {kd : Int32} {ls : List Lot} {L : Nat} {P : Nat → Nat} {m i : Nat} (h : EN kd ls L P m i) (hp : PI L P) (hok : okN ls) (h40 : ls.length ≤ 40) (hm : m < 2 ^ 31) (hi : i < L) : EN kd (tkL kd m (P i) (P (nx L i)) ls) L P m (i + 1) := fun j a b => by
  have h1 := hp.1 i hi
  have h2 := hp.1 j b
  rw [tk_WN hok h40 hm (h i (Nat.le_refl _) hi) (by omega) (by omega) (fun e => by have := hp.2 j i b hi e; omega)]
  exact h j (by omega) b
theorem trn_ok {kd : Int32} {L : Nat} {P : Nat → Nat} {m : Nat} (hp : PI L P) (hm : m < 2 ^ 31) : ∀ (n i : Nat) (x : LPU), i + n = L → okN x.1 → x.1.length ≤ 40 → EN kd x.1 L P m i →
    totN (trn kd L P m n i x).1 + m * n = totN x.1 ∧ (trn kd L P m n i x).1.length ≤ 40 ∧ (trn kd L P m n i x).2 5 = x.2 5 := by
  intro n
  induction n with
  | zero => intro i x _ _ h40 _; exact ⟨rfl, h40, rfl⟩
  | succ n ih =>
    intro i x hi hok h40 hE
    obtain ⟨h1, h2, h3⟩ := ih (i + 1) (tkL kd m (P i) (P (nx L i)) x.1, updP x.2 7 (P i) (x.2 7 (P i) + nI m)) (by omega) (tk_ok hok hm) (tk_len h40) (hE.step hp hok h40 hm (by omega))
    have h4 := tk_tot hok h40 hm (hE i (Nat.le_refl _) (by omega))
    unfold trn
    refine ⟨?_, h2, h3.trans (updP_r (f := x.2) (r := 7) (p := P i) (x := x.2 7 (P i) + nI m) (r' := 5) (by decide))⟩
    dsimp only at h1
    rw [Nat.mul_add_one]
    omega
theorem trn_L {kd : Int32} {L : Nat} {P : Nat → Nat} {m N : Nat} (hm : m < 2 ^ 31) : ∀ (n i : Nat) (x : LPU), (∀ l ∈ x.1, okL N l) → ∀ l ∈ (trn kd L P m n i x).1, okL N l := by
  intro n
  induction n with
  | zero => intro i x h; exact h
  | succ n ih =>
    intro i x h
    unfold trn
    refine ih (i + 1) _ (fun l hl => ?_)
    obtain ⟨m1, m2⟩ := List.mem_filter.mp hl
    exact (takL_okZ 40 m x.1 hm (fun l hl => (h l hl).z) l m1).l m2
theorem c_trn {kd : Int32} (hkd : kd ≠ -1) {L : Nat} {P : Nat → Nat} {m : Nat} (hp : PI L P) (hL8 : L ≤ 8) (hm : m < 2 ^ 31) {vR : St} (h4 : vR 99 4 = nI L) (hP : ∀ j, j < L → P j < 8 ∧ vR 4 j = nI (P j)) (k15 : St → St → Int32 → Int32 → Option (Int32 × St × St)) (x3 x4 : Int32) :
    ∀ (n fu i : Nat) (vB : St) (ls : List Lot) (nu : Nat → Int32) (pu : Nat → Nat → Int32), n < fu → i + n = L → RC vB (ls, nu, pu) → okN ls → EN kd ls L P m i →
    ∃ v', X3_clearKind_l41 kd k15 fu vR vB x3 x4 (nI m) (nI i) = X3_clearKind_b87 kd k15 vR v' x3 x4 (nI m) ∧ RC v' ((trn kd L P m n i (ls, pu)).1, upd nu 7 (nu 7 + nI (m * n)), (trn kd L P m n i (ls, pu)).2) := by
  intro n
  induction n with
  | zero =>
    intro fu i vB ls nu pu hf hi h hok hE
    obtain ⟨fu, rfl⟩ : ∃ f, fu = f + 1 := ⟨fu - 1, by omega⟩
    refine ⟨vB, by rw [X3_clearKind_l41, h4, if_pos (by rw [q_le (by omega) (by omega)]; omega)], ?_⟩
    rw [Nat.mul_zero, nadd0, upd_self]
    exact h
  | succ n ih =>
    intro fu i vB ls nu pu hf hi h hok hE
    obtain ⟨fu, rfl⟩ : ∃ f, fu = f + 1 := ⟨fu - 1, by omega⟩
    have hpi := hp.1 i (by omega)
    have hpn := hp.1 (nx L i) (nx_lt (by omega))
    have eE := mt_E (nI_m1 (k := P i) (by omega)) (nI_m1 (k := P (nx L i)) (by omega)) hkd
    obtain ⟨u, e, l, f⟩ := q_take h.1 hok (nI (P i)) (nI (P (nx L i))) kd (q := m) (by rw [eE]; exact hE i (Nat.le_refl _) (by omega))
    rw [eE] at l
    have r0 : RC u (tkL kd m (P i) (P (nx L i)) ls, nu, pu) := h.lots l f
    have e7 : u 7 (P i) = pu 7 (P i) := r0.2.2 7 (P i) (by decide) (by decide) hpi
    have n7 : u 1 7 = nu 7 := r0.2.1 7 (by decide) (by decide)
    have r1 := r0.row (r := 7) (p := P i) (pu 7 (P i) + nI m) (by decide) (by decide) hpi
    have r2 := r1.num (i := 7) (nu 7 + nI m) (by decide)
    rw [q_sN u _ (by decide)] at r2
    have ea : X4_add (u 1) 26 (7 : Int32) (nI m) = some (upd (u 1) 7 (u 1 7 + nI m)) := q_add (k := 7) (by decide) (by decide)
    obtain ⟨v', a1, a2⟩ := ih fu (i + 1) _ _ _ _ (by omega) (by omega) r2 (tk_ok hok hm) (hE.step hp hok h.1.2.1 hm (by omega))
    refine ⟨v', ?_, ?_⟩
    · rw [X3_clearKind_l41, h4, if_neg (by rw [q_le (by omega) (by omega)]; omega), c_nextP hP hL8 (by omega), Option.bind_some, c_behind h4 hP hL8 (by omega), Option.bind_some, e, Option.bind_some, Option.bind_some, X0_countCleared, q_add (by omega) (by decide), Option.bind_some, ea, Option.bind_some, Option.bind_some, q_1, e7, n7]
      exact a1
    · rw [upd_upd, q_up, Int32.add_assoc, nI_add, show m + m * n = m * (n + 1) by rw [Nat.mul_add_one, Nat.add_comm]] at a2
      exact a2
theorem m_trn {kd : Int32} {L : Nat} {P : Nat → Nat} {m : Nat} (hp : PI L P) (hL8 : L ≤ 8) (hm : m < 2 ^ 31) (k8 : St → Int32 → Int32 → Option (Int32 × St)) (x2 : Int32) :
    ∀ (n fu i : Nat) (v : St) (ls : List Lot) (nu : Nat → Int32) (pu : Nat → Nat → Int32), n < fu → i + n = L → RM (v 1) (ls, nu, pu) → okN ls → EN kd ls L P m i → (∀ j, j < L → v 11 j = nI (P j)) →
    ∃ v', X5_clears_l23 kd k8 fu v x2 (nI L) (nI m) (nI i) = X5_clears_b81 kd k8 v' x2 (nI L) (nI m) ∧ RM (v' 1) ((trn kd L P m n i (ls, pu)).1, nu, (trn kd L P m n i (ls, pu)).2) ∧ ∀ r, r ≠ 1 → v' r = v r := by
  intro n
  induction n with
  | zero =>
    intro fu i v ls nu pu hf hi h hok hE hP
    obtain ⟨fu, rfl⟩ : ∃ f, fu = f + 1 := ⟨fu - 1, by omega⟩
    exact ⟨v, by rw [X5_clears_l23, if_pos (by rw [q_le (by omega) (by omega)]; omega)], h, fun _ _ => rfl⟩
  | succ n ih =>
    intro fu i v ls nu pu hf hi h hok hE hP
    obtain ⟨fu, rfl⟩ : ∃ f, fu = f + 1 := ⟨fu - 1, by omega⟩
    have hpi := hp.1 i (by omega)
    have hnl : nx L i < L := nx_lt (by omega)
    have hpn := hp.1 (nx L i) hnl
    have er : remI (nI (i + 1)) (nI L) = some (nI (nx L i)) := rem_nx ⟨L, by omega⟩ ⟨i, by omega⟩ (by show i < L; omega)
    obtain ⟨u, e, l, f⟩ := q_takeM h.1 hok (nI (P i)) (nI (P (nx L i))) kd (hE i (Nat.le_refl _) (by omega))
    have r0 : RM (u 1) (tkL kd m (P i) (P (nx L i)) ls, nu, pu) := h.lots l f
    have e7 : u 1 (240 + 6 * P i + 4) = pu 7 (P i) := r0.2.2 7 (P i) (by decide) (by decide) hpi
    have r1 := r0.row (r := 7) (p := P i) (pu 7 (P i) + nI m) (by decide) (by decide) hpi
    have r1' : RM ((setA u 1 (upd (u 1) (240 + 6 * P i + 4) (pu 7 (P i) + nI m))) 1) (tkL kd m (P i) (P (nx L i)) ls, nu, updP pu 7 (P i) (pu 7 (P i) + nI m)) := by rw [q_sA]; exact r1
    obtain ⟨v', a1, a2, a3⟩ := ih fu (i + 1) _ _ _ _ (by omega) (by omega) r1' (tk_ok hok hm) (hE.step hp hok h.1.2.1 hm (by omega)) (fun j hj => by rw [q_sN u _ (by decide), f.1 11 (by decide)]; exact hP j hj)
    refine ⟨v', ?_, a2, fun r hr => (a3 r hr).trans ((q_sN u _ hr).trans (f.1 r hr))⟩
    rw [X5_clears_l23, if_neg (by rw [q_le (by omega) (by omega)]; omega), q_ld (by omega) (by decide), Option.bind_some, hP i (by omega), q_1, er, Option.bind_some, q_ld (by omega) (by decide), Option.bind_some, hP _ hnl, e, Option.bind_some, q_ld (by omega) (by decide), Option.bind_some, f.1 11 (by decide), hP i (by omega), q_atM4, Option.bind_some, q_ld (by omega) (by decide), Option.bind_some, q_st (by omega) (by decide), Option.bind_some, e7]
    exact a1

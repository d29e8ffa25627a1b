/- sums after a taking; facts of a ring -/
theorem takL_sum {P Q : Lot → Bool} (hP : nfree P) (hQ : nfree Q) : ∀ (t q : Nat) (ls : List Lot), q < 2 ^ 31 → okN ls → q ≤ sumN P ls → (q = 0 ∨ cntN P ls ≤ t) →
    ((∀ l, P l = true → Q l = true) → sumN Q (takL P t (nI q) ls) + q = sumN Q ls) ∧ ((∀ l, P l = true → Q l = false) → sumN Q (takL P t (nI q) ls) = sumN Q ls) := by
  intro t
  induction t with
  | zero =>
    intro q ls h31 hok hq ht
    have q0 : q = 0 := by
      rcases ht with z | z
      · exact z
      · have := sum0_of_cnt0 (P := P) hok (by omega)
        omega
    subst q0
    exact ⟨fun _ => rfl, fun _ => rfl⟩
  | succ t ih =>
    intro q ls h31 hok hq ht
    rcases Nat.eq_zero_or_pos q with z | z
    · subst z
      rw [takL, if_pos (by decide)]
      exact ⟨fun _ => rfl, fun _ => rfl⟩
    · obtain ⟨j, a, l, s, e1, e2, e3, h9, hPl, hs0, e4, e5, e6, e7, hok', hsum, hc⟩ := tak_step hP hok z hq h31
      have hn : ¬ nI q ≤ 0 := by
        have : ¬ nI q ≤ nI 0 := by rw [q_le h31 (by decide)]; omega
        exact this
      rw [takL, if_neg hn, e1]
      dsimp only
      rw [e5, e4, e6, e7]
      obtain ⟨i1, i2⟩ := ih (q - min s q) (setN ls j (nI (s - min s q))) (by omega) hok' (by omega) (by
        rcases hc with hc | hc
        · exact Or.inl hc
        · rcases ht with ht | ht
          · omega
          · exact Or.inr (by omega))
      have hset := sumN_set hQ (nI (s - min s q)) e2
      rw [e3, nI_clamp (by omega), nI_clamp (by omega)] at hset
      refine ⟨fun hh => ?_, fun hh => ?_⟩
      · have := i1 hh
        rw [if_pos (hh l hPl), if_pos (hh l hPl)] at hset
        omega
      · rw [i2 hh]
        rw [hh l hPl] at hset
        simpa using hset
theorem sumN_filter {Q : Lot → Bool} : ∀ {ls : List Lot}, okN ls → sumN Q (ls.filter pos) = sumN Q ls := by
  intro ls
  induction ls with
  | nil => intro _; rfl
  | cons l ls ih =>
    intro hok
    have hi := ih (fun x hx => hok x (List.mem_cons_of_mem _ hx))
    obtain ⟨s, e, h9⟩ := hok l (List.mem_cons_self)
    rw [List.filter_cons, pos_nI e h9]
    by_cases c : 0 < s
    · rw [decide_eq_true c, if_pos rfl]
      show (if Q l then l.n.toNatClampNeg else 0) + sumN Q (ls.filter pos) = (if Q l then l.n.toNatClampNeg else 0) + sumN Q ls
      rw [hi]
    · rw [decide_eq_false c, if_neg (by decide), hi]
      show _ = (if Q l then l.n.toNatClampNeg else 0) + sumN Q ls
      have : s = 0 := by omega
      subst this
      rw [e]
      have : (nI 0).toNatClampNeg = 0 := by decide
      rw [this]
      split <;> omega
def totN (ls : List Lot) : Nat := sumN (fun _ => true) ls
abbrev tkL (kd : Int32) (m p q : Nat) (ls : List Lot) : List Lot := (takL (mtE (nI p) (nI q) kd) 40 (nI m) ls).filter pos
theorem tk_ok {kd : Int32} {m p q : Nat} {ls : List Lot} (hok : okN ls) (hm : m < 2 ^ 31) : okN (tkL kd m p q ls) := filter_okN (takL_okN 40 m ls hm hok)
theorem tk_tot {kd : Int32} {m p q : Nat} {ls : List Lot} (hok : okN ls) (h40 : ls.length ≤ 40) (hm : m < 2 ^ 31) (h : m ≤ WN kd ls p q) : totN (tkL kd m p q ls) + m = totN ls := by
  unfold totN tkL
  rw [sumN_filter (takL_okN 40 m ls hm hok)]
  exact (takL_sum (mtE_nfree _ _ _) (fun _ _ => rfl) 40 m ls hm hok h (Or.inr (Nat.le_trans cntN_le h40))).1 (fun _ _ => rfl)
theorem tk_WN {kd : Int32} {m p q d c : Nat} {ls : List Lot} (hok : okN ls) (h40 : ls.length ≤ 40) (hm : m < 2 ^ 31) (h : m ≤ WN kd ls p q) (hp : p < 2 ^ 31) (hd : d < 2 ^ 31) (hdp : d ≠ p) : WN kd (tkL kd m p q ls) d c = WN kd ls d c := by
  unfold WN tkL
  rw [sumN_filter (takL_okN 40 m ls hm hok)]
  refine (takL_sum (mtE_nfree _ _ _) (mtE_nfree _ _ _) 40 m ls hm hok h (Or.inr (Nat.le_trans cntN_le h40))).2 (fun l hl => ?_)
  unfold mtE at hl ⊢
  rw [Bool.and_eq_true, Bool.and_eq_true] at hl
  have h1 : l.d = nI p := of_decide_eq_true hl.1.1
  rw [h1, decide_eq_false (fun e => hdp ((nI_eq hp hd).mp e).symm), Bool.false_and, Bool.false_and]
theorem tk_len {kd : Int32} {m p q : Nat} {ls : List Lot} (h40 : ls.length ≤ 40) : (tkL kd m p q ls).length ≤ 40 := Nat.le_trans (List.length_filter_le _ _) (by rw [takL_len]; exact h40)
/- a ring's pupils -/
def nx (L i : Nat) : Nat := if i + 1 < L then i + 1 else 0
theorem nx_lt {L i : Nat} (h : 0 < L) : nx L i < L := by unfold nx; split <;> omega
theorem Ring.okP {W : Nat → Nat → Nat} {L : Nat} {P : Nat → Nat} {D : Nat → Nat} (h : Ring W L P) (hL : 0 < L) (hx : DX W (P 0) (P 0) D) : ∀ i, i < L → okP W D (P 0) L i (P i) := by
  rcases h with ⟨h1, _⟩ | ⟨_, ⟨h1, _, h3, _⟩, h6⟩
  · omega
  intro i
  induction i with
  | zero => intro _; exact ⟨h1, Or.inl ⟨rfl, rfl⟩⟩
  | succ i ih =>
    intro hi
    have s := h6 i hi
    have k := ih (by omega)
    exact ⟨s.1, Or.inr ⟨by omega, s.2.1.1, (pth_iff h1 hx h3 hi k s.1 s.2.1.2).mpr s.2.1.1⟩⟩
abbrev RF (W : Nat → Nat → Nat) (L : Nat) (P : Nat → Nat) : Prop := 2 ≤ L ∧ L ≤ 8 ∧ (∀ i, i < L → P i < 8) ∧ (∀ i j, i < L → j < L → P i = P j → i = j) ∧ ∀ i, i < L → 0 < W (P i) (P (nx L i))
theorem Ring.rf {W : Nat → Nat → Nat} {L : Nat} {P : Nat → Nat} (hb : ∀ d c, d < 8 → c < 8 → W d c ≤ 1000) (h : Ring W L P) (hL : 0 < L) : RF W L P := by
  have hh := h
  rcases hh with ⟨h1, _⟩ | ⟨_, ⟨h1, _, h3, _⟩, h6⟩
  · omega
  obtain ⟨D, hx⟩ := DX_ex (W := W) h1 h1 hb
  have k := h.okP hL hx
  have dist : ∀ i, i < L → D (P i) = if i = 0 then 0 else L - i := fun i hi => by
    rcases (k i hi).2 with ⟨a, b⟩ | ⟨a, _, b⟩
    · rw [if_pos a, b]; exact hx.1
    · rw [if_neg (by omega)]; exact b
  refine ⟨h3.ge hL, h3.le h1 hb, fun i hi => (k i hi).1, fun i j hi hj e => ?_, fun i hi => ?_⟩
  · have a := dist i hi
    have b := dist j hj
    rw [e] at a
    rw [a] at b
    split at b <;> split at b <;> omega
  · unfold nx
    by_cases c : i + 1 < L
    · rw [if_pos c]; exact (h6 i c).2.1.2
    · rw [if_neg c]
      rcases (k i hi).2 with ⟨a, b⟩ | ⟨a, b, _⟩
      · have := h3.ge hL; omega
      · rw [show L - i = 0 + 1 by omega] at b
        obtain ⟨_, _, _, y, _, h2, h3⟩ := b
        have : y = P 0 := h3
        rw [← this]; exact h2

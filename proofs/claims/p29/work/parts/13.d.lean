/- what is owed in one kind: the class's table -/
def WN (kd : Int32) (ls : List Lot) (d c : Nat) : Nat := sumN (mtE (nI d) (nI c) kd) ls
theorem mtE_nI {d c d0 c0 k n a p : Nat} {kd : Int32} (h1 : d < 2 ^ 31) (h2 : c < 2 ^ 31) (h3 : d0 < 2 ^ 31) (h4 : c0 < 2 ^ 31) (hk : nI k = kd) :
    mtE (nI d) (nI c) kd (nI d0, nI c0, nI k, nI n, nI a, nI p) = (decide (d0 = d) && decide (c0 = c)) := by
  show (decide (nI d0 = nI d) && decide (nI c0 = nI c) && decide (nI k = kd)) = _
  rw [decide_eq_true hk, Bool.and_true]
  congr 1
  · exact decide_eq_decide.mpr (nI_eq h3 h1)
  · exact decide_eq_decide.mpr (nI_eq h4 h2)
theorem c_read_l {P : Nat} (hP : P ≤ 8) {kd : Int32} (hkd : kd ≠ -1) : ∀ (rest : List Lot) (fu : Nat) (v : St) (vR : St) (dn : List Lot) (M : Nat → Nat → Nat), rest.length < fu → LC v (dn ++ rest) → (∀ l ∈ rest, okL P l) →
    (∀ d c, d < 8 → c < 8 → vR 1 (8 * d + c) = nI (M d c)) →
    ∃ w, X3_readOwed_l26 v kd fu vR (nI dn.length) = some w ∧ (∀ r, r ≠ 1 → w r = vR r) ∧ ∀ d c, d < 8 → c < 8 → w 1 (8 * d + c) = nI (M d c + WN kd rest d c) := by
  intro rest
  induction rest with
  | nil =>
    intro fu v vR dn M hf h _ hM
    obtain ⟨fu, rfl⟩ : ∃ f, fu = f + 1 := ⟨fu - 1, by simp at hf; omega⟩
    have e2 : v 1 2 = nI dn.length := by have := h.1; rw [List.append_nil] at this; exact this
    have hcmp : nI dn.length ≤ nI dn.length := by rw [q_le (by have := h.2.1; simp at this; omega) (by have := h.2.1; simp at this; omega)]; omega
    refine ⟨vR, by rw [X3_readOwed_l26, q_num2, Option.bind_some, e2, if_pos hcmp], fun _ _ => rfl, fun d c hd hc => hM d c hd hc⟩
  | cons l rest ih =>
    intro fu v vR dn M hf h hl hM
    obtain ⟨fu, rfl⟩ : ∃ f, fu = f + 1 := ⟨fu - 1, by simp at hf; omega⟩
    have h40 : dn.length + (rest.length + 1) ≤ 40 := by
      have h2 : (dn ++ l :: rest).length ≤ 40 := h.2.1
      rw [List.length_append, List.length_cons] at h2; exact h2
    have e2 : v 1 2 = nI (dn.length + (rest.length + 1)) := by
      have h2 : v 1 2 = nI (dn ++ l :: rest).length := h.1
      rw [List.length_append, List.length_cons] at h2; exact h2
    have hcmp : ¬ nI (dn.length + (rest.length + 1)) ≤ nI dn.length := by rw [q_le (by omega) (by omega)]; omega
    have eL : lotC v dn.length = l := (lotsF_at (g' := lotC v) h.2.2 (fun _ _ => rfl)).1
    obtain ⟨d0, c0, k, n, a, p, e, h1, h2, h3, h4, h5, h6, h7, h8⟩ := hl l (List.mem_cons_self)
    have h' : LC v ((dn ++ [l]) ++ rest) := by rw [List.append_assoc]; exact h
    have em : mt (-1) (-1) kd l = decide (kd = nI k) := by
      rw [e]
      show ((decide ((-1 : Int32) = -1) || _) && (decide ((-1 : Int32) = -1) || _) && (decide (kd = -1) || decide (kd = nI k))) = _
      rw [decide_eq_false hkd]; rfl
    rw [X3_readOwed_l26, q_num2, Option.bind_some, e2, if_neg hcmp, q_isLot _ _ _ _ (by omega), Option.bind_some, eL, em, ifb]
    by_cases c1 : kd = nI k
    · rw [decide_eq_true c1, cond_true]
      have e8 : v 8 dn.length = nI d0 := by have : (lotC v dn.length).1 = nI d0 := by rw [eL, e]
                                            exact this
      have e9 : v 9 dn.length = nI c0 := by have : (lotC v dn.length).2.1 = nI c0 := by rw [eL, e]
                                            exact this
      have e11 : v 11 dn.length = nI n := by have : (lotC v dn.length).2.2.2.1 = nI n := by rw [eL, e]
                                             exact this
      have ei : nI d0 * (8 : Int32) + nI c0 = nI (8 * d0 + c0) := by
        have : nI d0 * (8 : Int32) = nI (d0 * 8) := pk_mul d0 8
        rw [this, nI_add, Nat.mul_comm]
      rw [q_at (by omega) (by decide), Option.bind_some, q_at (by omega) (by decide), Option.bind_some, q_at (by omega) (by decide), Option.bind_some, e8, e9, e11, ei, q_add (by omega) (by decide), Option.bind_some]
      obtain ⟨w, w1, w2, w3⟩ := ih fu v (setA vR 1 (upd (vR 1) (8 * d0 + c0) (vR 1 (8 * d0 + c0) + nI n))) (dn ++ [l]) (fun d c => M d c + (if d0 = d ∧ c0 = c then n else 0)) (by simp at hf; omega) h' (fun x hx => hl x (List.mem_cons_of_mem _ hx)) (by
        intro d c hd hc
        rw [q_sA]
        by_cases z : d0 = d ∧ c0 = c
        · obtain ⟨rfl, rfl⟩ := z
          rw [q_up, hM d0 c0 hd hc, nI_add, if_pos ⟨rfl, rfl⟩]
        · rw [q_un (by omega), hM d c hd hc, if_neg z, Nat.add_zero])
      rw [List.length_append, List.length_singleton, ← q_1] at w1
      refine ⟨w, w1, fun r hr => (w2 r hr).trans (q_sN vR _ hr), fun d c hd hc => ?_⟩
      rw [w3 d c hd hc, Nat.add_assoc]
      congr 2
      show _ = (if mtE (nI d) (nI c) kd l then l.2.2.2.1.toNatClampNeg else 0) + _
      rw [e, mtE_nI (by omega) (by omega) (by omega) (by omega) c1.symm]
      show _ = (if _ then (nI n).toNatClampNeg else 0) + _
      rw [nI_clamp (by omega)]
      by_cases z : d0 = d ∧ c0 = c
      · rw [if_pos z, decide_eq_true z.1, decide_eq_true z.2]; rfl
      · rw [if_neg z, if_neg (by rw [Bool.and_eq_true, decide_eq_true_eq, decide_eq_true_eq]; exact z)]; rfl
    · rw [decide_eq_false c1, cond_false]
      obtain ⟨w, w1, w2, w3⟩ := ih fu v vR (dn ++ [l]) M (by simp at hf; omega) h' (fun x hx => hl x (List.mem_cons_of_mem _ hx)) hM
      rw [List.length_append, List.length_singleton, ← q_1] at w1
      refine ⟨w, w1, w2, fun d c hd hc => ?_⟩
      rw [w3 d c hd hc]
      congr 2
      show _ = (if mtE (nI d) (nI c) kd l then l.2.2.2.1.toNatClampNeg else 0) + _
      have : mtE (nI d) (nI c) kd l = false := by
        rw [e]
        show (_ && _ && decide (nI k = kd)) = false
        rw [decide_eq_false (show ¬ nI k = kd from fun z => c1 z.symm), Bool.and_false]
      rw [this, if_neg (by decide), Nat.zero_add]; rfl
theorem c_read_z (kd : Int32) (v : St) : ∀ (n fu i : Nat) (vR : St), n < fu → i + n = 64 → (∀ j, j < i → vR 1 j = 0) →
    ∃ w, X3_readOwed_l2 v kd fu vR (nI i) = X3_readOwed_l26 v kd FU w 0 ∧ (∀ r, r ≠ 1 → w r = vR r) ∧ ∀ j, j < 64 → w 1 j = 0 := by
  intro n
  induction n with
  | zero =>
    intro fu i vR hf hi h
    obtain ⟨fu, rfl⟩ : ∃ f, fu = f + 1 := ⟨fu - 1, by omega⟩
    have : i = 64 := by omega
    subst this
    exact ⟨vR, by rw [X3_readOwed_l2, if_pos (by decide)], fun _ _ => rfl, h⟩
  | succ n ih =>
    intro fu i vR hf hi h
    obtain ⟨fu, rfl⟩ : ∃ f, fu = f + 1 := ⟨fu - 1, by omega⟩
    have hcmp : ¬ (64 : Int32) ≤ nI i := by
      have : ¬ nI 64 ≤ nI i := by rw [q_le (by decide) (by omega)]; omega
      exact this
    obtain ⟨w, w1, w2, w3⟩ := ih fu (i + 1) (setA vR 1 (upd (vR 1) i 0)) (by omega) (by omega) (by
      intro j hj
      rw [q_sA]
      by_cases z : j = i
      · subst z; exact q_up
      · rw [q_un z]; exact h j (by omega))
    refine ⟨w, ?_, fun r hr => (w2 r hr).trans (q_sN vR _ hr), w3⟩
    rw [X3_readOwed_l2, if_neg hcmp, q_st (by omega) (by decide), Option.bind_some, q_1, w1]
theorem c_read {v : St} {a : AS} (h : RC v a) (ho : OK a) (vR : St) {kd : Int32} (hkd : kd ≠ -1) : ∃ w, X3_readOwed vR v kd = some w ∧ (∀ r, r ≠ 1 → w r = vR r) ∧ ∀ d c, d < 8 → c < 8 → w 1 (8 * d + c) = nI (WN kd a.1 d c) := by
  obtain ⟨h40, P, h8, hP, hl, _⟩ := ho
  obtain ⟨w, w1, w2, w3⟩ := c_read_z kd v 64 FU 0 vR (by decide) (by omega) (fun j hj => absurd hj (by omega))
  obtain ⟨u, u1, u2, u3⟩ := c_read_l h8 hkd a.1 FU v w [] (fun _ _ => 0) (by show _ < 2000; omega) h.1 hl (fun d c hd hc => w3 _ (by omega))
  refine ⟨u, ?_, fun r hr => (u2 r hr).trans (w2 r hr), fun d c hd hc => ?_⟩
  · rw [X3_readOwed]
    exact w1.trans u1
  · rw [u3 d c hd hc, Nat.zero_add]
theorem c_owed {w : St} {W : Nat → Nat → Nat} (h : ∀ d c, d < 8 → c < 8 → w 1 (8 * d + c) = nI (W d c)) {d c : Nat} (hd : d < 8) (hc : c < 8) : X3_owedBetween w (nI d) (nI c) = some (nI (W d c)) := by
  have ei : nI d * (8 : Int32) + nI c = nI (8 * d + c) := by
    have : nI d * (8 : Int32) = nI (d * 8) := pk_mul d 8
    rw [this, nI_add, Nat.mul_comm]
  have hcmp : ¬ (64 : Int32) ≤ nI (8 * d + c) := by
    have : ¬ nI 64 ≤ nI (8 * d + c) := by rw [q_le (by decide) (by omega)]; omega
    exact this
  rw [X3_owedBetween, ei, if_neg (nI_pos (by omega)), if_neg hcmp, q_ld (by omega) (by decide), Option.bind_some, h d c hd hc]

/- steps backward to a pupil: exact steps, and what a search from behind keeps -/
def Bk (W : Nat → Nat → Nat) (lo t : Nat) : Nat → Nat → Prop
  | 0, x => x = t
  | k + 1, x => lo ≤ x ∧ x < 8 ∧ x ≠ t ∧ ∃ y, y < 8 ∧ 0 < W x y ∧ Bk W lo t k y
/- what holds before the pupil at place h of the queue Q is worked on (D = steps found) -/
abbrev Inv (W : Nat → Nat → Nat) (lo t h : Nat) (Q : List Nat) (D : Nat → Nat) : Prop :=
  (Q.Nodup) ∧
  (Q[0]? = some t) ∧
  (D t = 0) ∧
  (∀ q ∈ Q, q < 8) ∧
  (∀ x, x < 8 → x ≠ t → (x ∈ Q ↔ 0 < D x)) ∧
  (∀ q ∈ Q, Bk W lo t (D q) q) ∧
  (Q.Pairwise (fun a b => D a ≤ D b)) ∧
  (∀ q, Q[h]? = some q → ∀ x ∈ Q, D x ≤ D q + 1) ∧
  (∀ i, i < h → ∀ q, Q[i]? = some q → ∀ x, lo ≤ x → x < 8 → x ≠ t → 0 < W x q → x ∈ Q ∧ D x ≤ D q + 1)
theorem Inv.nd {W : Nat → Nat → Nat} {lo t h : Nat} {Q : List Nat} {D : Nat → Nat} (I : Inv W lo t h Q D) : Q.Nodup := by have h := I; exact h.1
theorem Inv.hd {W : Nat → Nat → Nat} {lo t h : Nat} {Q : List Nat} {D : Nat → Nat} (I : Inv W lo t h Q D) : Q[0]? = some t := by have h := I; exact h.2.1
theorem Inv.t0 {W : Nat → Nat → Nat} {lo t h : Nat} {Q : List Nat} {D : Nat → Nat} (I : Inv W lo t h Q D) : D t = 0 := by have h := I; exact h.2.2.1
theorem Inv.lt {W : Nat → Nat → Nat} {lo t h : Nat} {Q : List Nat} {D : Nat → Nat} (I : Inv W lo t h Q D) : ∀ q ∈ Q, q < 8 := by have h := I; exact h.2.2.2.1
theorem Inv.mem {W : Nat → Nat → Nat} {lo t h : Nat} {Q : List Nat} {D : Nat → Nat} (I : Inv W lo t h Q D) : ∀ x, x < 8 → x ≠ t → (x ∈ Q ↔ 0 < D x) := by have h := I; exact h.2.2.2.2.1
theorem Inv.snd {W : Nat → Nat → Nat} {lo t h : Nat} {Q : List Nat} {D : Nat → Nat} (I : Inv W lo t h Q D) : ∀ q ∈ Q, Bk W lo t (D q) q := by have h := I; exact h.2.2.2.2.2.1
theorem Inv.mono {W : Nat → Nat → Nat} {lo t h : Nat} {Q : List Nat} {D : Nat → Nat} (I : Inv W lo t h Q D) : Q.Pairwise (fun a b => D a ≤ D b) := by have h := I; exact h.2.2.2.2.2.2.1
theorem Inv.bd {W : Nat → Nat → Nat} {lo t h : Nat} {Q : List Nat} {D : Nat → Nat} (I : Inv W lo t h Q D) : ∀ q, Q[h]? = some q → ∀ x ∈ Q, D x ≤ D q + 1 := by have h := I; exact h.2.2.2.2.2.2.2.1
theorem Inv.cl {W : Nat → Nat → Nat} {lo t h : Nat} {Q : List Nat} {D : Nat → Nat} (I : Inv W lo t h Q D) : ∀ i, i < h → ∀ q, Q[i]? = some q → ∀ x, lo ≤ x → x < 8 → x ≠ t → 0 < W x q → x ∈ Q ∧ D x ≤ D q + 1 := by have h := I; exact h.2.2.2.2.2.2.2.2
theorem Inv.complete {W : Nat → Nat → Nat} {lo t h : Nat} {Q : List Nat} {D : Nat → Nat} (I : Inv W lo t h Q D) (hh : Q.length ≤ h) : ∀ k x, Bk W lo t k x → x ∈ Q ∧ D x ≤ k := by
  intro k
  induction k with
  | zero =>
    rintro x rfl
    exact ⟨List.mem_of_getElem? I.hd, by rw [I.t0]; exact Nat.le_refl 0⟩
  | succ k ih =>
    rintro x ⟨h1, h2, h3, y, h4, h5, h6⟩
    obtain ⟨hy, hk⟩ := ih y h6
    obtain ⟨i, hi, e⟩ := List.mem_iff_getElem.mp hy
    obtain ⟨m, b⟩ := I.cl i (by omega) y (by rw [← e]; exact List.getElem?_eq_getElem hi) x h1 h2 h3 h5
    exact ⟨m, by omega⟩
/- at the end: D x is the least number of steps, 0 where there are none -/
theorem Inv.exact {W : Nat → Nat → Nat} {lo t h : Nat} {Q : List Nat} {D : Nat → Nat} (I : Inv W lo t h Q D) (hh : Q.length ≤ h) {x : Nat} (hx : x < 8) (hxt : x ≠ t) :
    (0 < D x → Bk W lo t (D x) x) ∧ ∀ k, Bk W lo t k x → 0 < D x ∧ D x ≤ k :=
  ⟨fun z => I.snd x ((I.mem x hx hxt).mpr z), fun k b => ⟨(I.mem x hx hxt).mp (I.complete hh k x b).1, (I.complete hh k x b).2⟩⟩
def updN (f : Nat → Nat) (k x : Nat) : Nat → Nat := fun j => if j = k then x else f j
theorem Inv.init (W : Nat → Nat → Nat) (lo : Nat) {t : Nat} (ht : t < 8) : Inv W lo t 0 [t] (fun _ => 0) := by
  refine ⟨?_, ?_, ?_, ?_, ?_, ?_, ?_, ?_, ?_⟩
  · simp
  · exact rfl
  · exact rfl
  · intro q hq; rw [List.mem_singleton] at hq; omega
  · intro x _ hx; simp [hx]
  · intro q hq; rw [List.mem_singleton] at hq; exact hq
  · simp
  · intro q _ x _; exact Nat.zero_le _
  · intro i hi; omega
/- inside the work on q = Q[h]: the places below j are done -/
abbrev Mid (W : Nat → Nat → Nat) (lo t h q j : Nat) (Q : List Nat) (D : Nat → Nat) : Prop :=
  (Q.Nodup) ∧
  (Q[0]? = some t) ∧
  (D t = 0) ∧
  (∀ q ∈ Q, q < 8) ∧
  (∀ x, x < 8 → x ≠ t → (x ∈ Q ↔ 0 < D x)) ∧
  (∀ q ∈ Q, Bk W lo t (D q) q) ∧
  (Q.Pairwise (fun a b => D a ≤ D b)) ∧
  (Q[h]? = some q) ∧
  (∀ x ∈ Q, D x ≤ D q + 1) ∧
  (∀ i, i < h → ∀ q, Q[i]? = some q → ∀ x, lo ≤ x → x < 8 → x ≠ t → 0 < W x q → x ∈ Q ∧ D x ≤ D q + 1) ∧
  (∀ x, lo ≤ x → x < j → x < 8 → x ≠ t → 0 < W x q → x ∈ Q)
theorem Mid.nd {W : Nat → Nat → Nat} {lo t h q j : Nat} {Q : List Nat} {D : Nat → Nat} (I : Mid W lo t h q j Q D) : Q.Nodup := by have h := I; exact h.1
theorem Mid.hd {W : Nat → Nat → Nat} {lo t h q j : Nat} {Q : List Nat} {D : Nat → Nat} (I : Mid W lo t h q j Q D) : Q[0]? = some t := by have h := I; exact h.2.1
theorem Mid.t0 {W : Nat → Nat → Nat} {lo t h q j : Nat} {Q : List Nat} {D : Nat → Nat} (I : Mid W lo t h q j Q D) : D t = 0 := by have h := I; exact h.2.2.1
theorem Mid.lt {W : Nat → Nat → Nat} {lo t h q j : Nat} {Q : List Nat} {D : Nat → Nat} (I : Mid W lo t h q j Q D) : ∀ q ∈ Q, q < 8 := by have h := I; exact h.2.2.2.1
theorem Mid.mem {W : Nat → Nat → Nat} {lo t h q j : Nat} {Q : List Nat} {D : Nat → Nat} (I : Mid W lo t h q j Q D) : ∀ x, x < 8 → x ≠ t → (x ∈ Q ↔ 0 < D x) := by have h := I; exact h.2.2.2.2.1
theorem Mid.snd {W : Nat → Nat → Nat} {lo t h q j : Nat} {Q : List Nat} {D : Nat → Nat} (I : Mid W lo t h q j Q D) : ∀ q ∈ Q, Bk W lo t (D q) q := by have h := I; exact h.2.2.2.2.2.1
theorem Mid.mono {W : Nat → Nat → Nat} {lo t h q j : Nat} {Q : List Nat} {D : Nat → Nat} (I : Mid W lo t h q j Q D) : Q.Pairwise (fun a b => D a ≤ D b) := by have h := I; exact h.2.2.2.2.2.2.1
theorem Mid.at_h {W : Nat → Nat → Nat} {lo t h q j : Nat} {Q : List Nat} {D : Nat → Nat} (I : Mid W lo t h q j Q D) : Q[h]? = some q := by have h := I; exact h.2.2.2.2.2.2.2.1
theorem Mid.bd {W : Nat → Nat → Nat} {lo t h q j : Nat} {Q : List Nat} {D : Nat → Nat} (I : Mid W lo t h q j Q D) : ∀ x ∈ Q, D x ≤ D q + 1 := by have h := I; exact h.2.2.2.2.2.2.2.2.1
theorem Mid.cl {W : Nat → Nat → Nat} {lo t h q j : Nat} {Q : List Nat} {D : Nat → Nat} (I : Mid W lo t h q j Q D) : ∀ i, i < h → ∀ q, Q[i]? = some q → ∀ x, lo ≤ x → x < 8 → x ≠ t → 0 < W x q → x ∈ Q ∧ D x ≤ D q + 1 := by have h := I; exact h.2.2.2.2.2.2.2.2.2.1
theorem Mid.now {W : Nat → Nat → Nat} {lo t h q j : Nat} {Q : List Nat} {D : Nat → Nat} (I : Mid W lo t h q j Q D) : ∀ x, lo ≤ x → x < j → x < 8 → x ≠ t → 0 < W x q → x ∈ Q := by have h := I; exact h.2.2.2.2.2.2.2.2.2.2
theorem Inv.mid {W : Nat → Nat → Nat} {lo t h q : Nat} {Q : List Nat} {D : Nat → Nat} (I : Inv W lo t h Q D) (e : Q[h]? = some q) : Mid W lo t h q lo Q D :=
  ⟨I.nd, I.hd, I.t0, I.lt, I.mem, I.snd, I.mono, e, I.bd q e, I.cl, fun x a b => by omega⟩
theorem Mid.out {W : Nat → Nat → Nat} {lo t h q : Nat} {Q : List Nat} {D : Nat → Nat} (I : Mid W lo t h q 8 Q D) : Inv W lo t (h + 1) Q D := by
  refine ⟨?_, ?_, ?_, ?_, ?_, ?_, ?_, ?_, ?_⟩
  · exact I.nd
  · exact I.hd
  · exact I.t0
  · exact I.lt
  · exact I.mem
  · exact I.snd
  · exact I.mono
  · intro q' e x hx
    have h1 := I.bd x hx
    have h2 : D q ≤ D q' := by
      obtain ⟨l1, e1⟩ := List.getElem?_eq_some_iff.mp I.at_h
      obtain ⟨l2, e2⟩ := List.getElem?_eq_some_iff.mp e
      have := List.pairwise_iff_getElem.mp I.mono h (h + 1) l1 l2 (by omega)
      rw [e1, e2] at this; exact this
    omega
  · intro i hi q' e x h1 h2 h3 h4
    by_cases z : i = h
    · subst z
      have : q' = q := by rw [I.at_h] at e; exact (Option.some.inj e).symm
      subst this
      have m := I.now x h1 h2 h2 h3 h4
      exact ⟨m, I.bd x m⟩
    · exact I.cl i (by omega) q' e x h1 h2 h3 h4
theorem Mid.skip {W : Nat → Nat → Nat} {lo t h q j : Nat} {Q : List Nat} {D : Nat → Nat} (I : Mid W lo t h q j Q D) (c : j = t ∨ 0 < D j ∨ W j q = 0) : Mid W lo t h q (j + 1) Q D :=
  ⟨I.nd, I.hd, I.t0, I.lt, I.mem, I.snd, I.mono, I.at_h, I.bd, I.cl, fun x a b c1 d e => by
    by_cases z : x = j
    · subst z
      rcases c with c | c | c
      · exact absurd c d
      · exact (I.mem x c1 d).mpr c
      · omega
    · exact I.now x a (by omega) c1 d e⟩
theorem Mid.put {W : Nat → Nat → Nat} {lo t h q j : Nat} {Q : List Nat} {D : Nat → Nat} (I : Mid W lo t h q j Q D) (hj : j < 8) (hlo : lo ≤ j) (c1 : j ≠ t) (c2 : D j = 0) (c3 : 0 < W j q) : Mid W lo t h q (j + 1) (Q ++ [j]) (updN D j (D q + 1)) := by
  have hn : j ∉ Q := fun z => by have := (I.mem j hj c1).mp z; omega
  have hq : q ∈ Q := List.mem_of_getElem? I.at_h
  have un : ∀ x ∈ Q, updN D j (D q + 1) x = D x := fun x hx => if_neg (fun z : x = j => hn (z ▸ hx))
  have us : updN D j (D q + 1) j = D q + 1 := if_pos rfl
  have qj : updN D j (D q + 1) q = D q := un q hq
  have ge : ∀ i x, (Q ++ [j])[i]? = some x → i < Q.length → Q[i]? = some x := fun i x e hi => by rw [List.getElem?_append_left hi] at e; exact e
  have hl : h < Q.length := (List.getElem?_eq_some_iff.mp I.at_h).1
  refine ⟨?_, ?_, ?_, ?_, ?_, ?_, ?_, ?_, ?_, ?_, ?_⟩
  · rw [List.nodup_append]
    refine ⟨I.nd, by simp, fun a ha b hb => ?_⟩
    rw [List.mem_singleton] at hb
    intro z; exact hn (by rw [← hb, ← z]; exact ha)
  · rw [List.getElem?_append_left (by omega)]; exact I.hd
  · exact (if_neg (fun z => c1 z.symm)).trans I.t0
  · intro x hx
    rcases List.mem_append.mp hx with hx | hx
    · exact I.lt x hx
    · rw [List.mem_singleton] at hx; omega
  · intro x hx ht
    by_cases z : x = j
    · subst z; rw [us]; simp
    · rw [List.mem_append, List.mem_singleton]
      rw [show updN D j (D q + 1) x = D x from if_neg z, ← I.mem x hx ht]
      exact ⟨fun y => y.resolve_right z, Or.inl⟩
  · intro x hx
    rcases List.mem_append.mp hx with hx | hx
    · rw [un x hx]; exact I.snd x hx
    · rw [List.mem_singleton] at hx; subst hx
      rw [us]
      exact ⟨hlo, hj, c1, q, I.lt q hq, c3, I.snd q hq⟩
  · rw [List.pairwise_append]
    refine ⟨?_, by simp, fun a ha b hb => ?_⟩
    · exact I.mono.imp_of_mem (fun {a b} ha hb r => by rw [un a ha, un b hb]; exact r)
    · rw [List.mem_singleton] at hb; subst hb
      rw [un a ha, us]; exact I.bd a ha
  · rw [List.getElem?_append_left hl]; exact I.at_h
  · intro x hx
    rw [qj]
    rcases List.mem_append.mp hx with hx | hx
    · rw [un x hx]; exact I.bd x hx
    · rw [List.mem_singleton] at hx; subst hx; rw [us]; omega
  · intro i hi q' e x a b c d
    have e := ge i q' e (by omega)
    obtain ⟨m, r⟩ := I.cl i hi q' e x a b c d
    refine ⟨List.mem_append_left _ m, ?_⟩
    rw [un x m, un q' (List.mem_of_getElem? e)]; exact r
  · intro x a b c d e
    by_cases z : x = j
    · subst z; simp
    · exact List.mem_append_left _ (I.now x a (by omega) c d e)

/- measureSteps: the class's search from behind -/
theorem nodup_len : ∀ (n : Nat) (Q : List Nat), Q.Nodup → (∀ q ∈ Q, q < n) → Q.length ≤ n := by
  intro n
  induction n with
  | zero =>
    intro Q _ h
    cases Q with
    | nil => exact Nat.le_refl 0
    | cons q Q => exact absurd (h q (List.mem_cons_self)) (by omega)
  | succ n ih =>
    intro Q hn h
    have h1 := ih (Q.erase n) (hn.erase n) (fun q hq => by
      have := (hn.mem_erase_iff).mp hq
      have := h q this.2
      omega)
    have h2 : Q.length ≤ (Q.erase n).length + 1 := by
      rw [List.length_erase]; split <;> omega
    omega
def RQ (w : St) (W : Nat → Nat → Nat) (Q : List Nat) (D : Nat → Nat) : Prop := (∀ d c, d < 8 → c < 8 → w 1 (8 * d + c) = nI (W d c)) ∧ (∀ x, x < 8 → w 2 x = nI (D x)) ∧ (∀ i q, Q[i]? = some q → w 3 i = nI q) ∧ (∀ x, x < 8 → D x < 2 ^ 30) ∧ (∀ d c, d < 8 → c < 8 → W d c ≤ 1000)
theorem q_65 {W : Nat → Nat → Nat} {lo t h q : Nat} (ht : t < 8) (k38 : St → Int32 → Int32 → Option St) : ∀ (n fu j : Nat) (Q : List Nat) (D : Nat → Nat) (w : St), n < fu → j + n = 8 → lo ≤ j → Mid W lo t h q j Q D → RQ w W Q D → D q < 20 →
    ∃ Q' D' w', X3_measureSteps_l65 (nI t) (nI lo) k38 fu w (nI Q.length) (nI h) (nI q) (nI j) = k38 w' (nI Q'.length) (nI h + 1) ∧ Mid W lo t h q 8 Q' D' ∧ RQ w' W Q' D' ∧ (∀ r, r ≠ 2 → r ≠ 3 → w' r = w r) ∧ D' q = D q := by
  intro n
  induction n with
  | zero =>
    intro fu j Q D w hf hj hlo I R _
    obtain ⟨fu, rfl⟩ : ∃ f, fu = f + 1 := ⟨fu - 1, by omega⟩
    have : j = 8 := by omega
    subst this
    exact ⟨Q, D, w, by rw [X3_measureSteps_l65, if_pos (by decide)], I, R, fun _ _ _ => rfl, rfl⟩
  | succ n ih =>
    intro fu j Q D w hf hj hlo I R hD
    obtain ⟨fu, rfl⟩ : ∃ f, fu = f + 1 := ⟨fu - 1, by omega⟩
    have hcmp : ¬ (8 : Int32) ≤ nI j := by
      have : ¬ nI 8 ≤ nI j := by rw [q_le (by decide) (by omega)]; omega
      exact this
    have hq : q < 8 := I.lt q (List.mem_of_getElem? I.at_h)
    have skip : (j = t ∨ 0 < D j ∨ W j q = 0) → ∃ Q' D' w', X3_measureSteps_l65 (nI t) (nI lo) k38 fu w (nI Q.length) (nI h) (nI q) (nI j + 1) = k38 w' (nI Q'.length) (nI h + 1) ∧ Mid W lo t h q 8 Q' D' ∧ RQ w' W Q' D' ∧ (∀ r, r ≠ 2 → r ≠ 3 → w' r = w r) ∧ D' q = D q := by
      intro c
      rw [q_1]
      exact ih fu (j + 1) Q D w (by omega) (by omega) (by omega) (I.skip c) R hD
    rw [X3_measureSteps_l65, if_neg hcmp]
    by_cases c1 : j = t
    · rw [if_pos (by rw [c1])]
      exact skip (Or.inl c1)
    rw [if_neg (fun z => c1 ((nI_eq (by omega) (by omega)).mp z)), q_at (by omega) (by decide), Option.bind_some, R.2.1 j (by omega)]
    by_cases c2 : D j = 0
    · rw [if_pos (by rw [c2]; rfl), c_owed R.1 (by omega) hq, Option.bind_some]
      have hW := R.2.2.2.2 j q (by omega) hq
      by_cases c3 : W j q = 0
      · rw [if_pos (by rw [c3]; decide)]
        exact skip (Or.inr (Or.inr c3))
      · have hl : Q.length < 8 := by
          have := nodup_len 8 (Q ++ [j]) (I.put (by omega) hlo c1 c2 (by omega)).nd (I.put (by omega) hlo c1 c2 (by omega)).lt
          rw [List.length_append, List.length_singleton] at this; omega
        have hneg : ¬ nI (W j q) ≤ (0 : Int32) := by
          have : ¬ nI (W j q) ≤ nI 0 := by rw [q_le (by omega) (by decide)]; omega
          exact this
        have R' : RQ (setA (setA w 2 (upd (w 2) j (nI (D q) + 1))) 3 (upd (w 3) Q.length (nI j))) W (Q ++ [j]) (updN D j (D q + 1)) := by
          refine ⟨R.1, fun x hx => ?_, fun i y e => ?_, fun x hx => ?_, R.2.2.2.2⟩
          · show upd (w 2) j (nI (D q) + 1) x = nI (if x = j then D q + 1 else D x)
            by_cases z : x = j
            · rw [if_pos z, z, q_up, q_1]
            · rw [if_neg z, q_un z]; exact R.2.1 x hx
          · show upd (w 3) Q.length (nI j) i = nI y
            by_cases z : i = Q.length
            · subst z
              rw [List.getElem?_append_right (Nat.le_refl _), Nat.sub_self] at e
              rw [q_up]; congr 1; exact Option.some.inj e
            · have hi : i < (Q ++ [j]).length := (List.getElem?_eq_some_iff.mp e).1
              rw [List.length_append, List.length_singleton] at hi
              rw [List.getElem?_append_left (by omega)] at e
              rw [q_un z]; exact R.2.2.1 i y e
          · show (if x = j then D q + 1 else D x) < _
            by_cases z : x = j
            · rw [if_pos z]; omega
            · rw [if_neg z]; exact R.2.2.2.1 x hx
        have eq : updN D j (D q + 1) q = D q := if_neg (fun z : q = j => by
          have := (I.mem j (by omega) c1).mp (z ▸ List.mem_of_getElem? I.at_h); omega)
        have Dq : updN D j (D q + 1) q < 20 := by
          show (if q = j then D q + 1 else D q) < 20
          by_cases z : q = j
          · have := (I.mem j (by omega) c1).mp (z ▸ List.mem_of_getElem? I.at_h); omega
          · rw [if_neg z]; exact hD
        obtain ⟨Q', D', w', a1, a2, a3, a4, a5⟩ := ih fu (j + 1) (Q ++ [j]) (updN D j (D q + 1)) _ (by omega) (by omega) (by omega) (I.put (by omega) hlo c1 c2 (by omega)) R' Dq
        rw [List.length_append, List.length_singleton, ← q_1, ← q_1] at a1
        refine ⟨Q', D', w', ?_, a2, a3, fun r h2 h3 => (a4 r h2 h3).trans ((q_sN _ _ h3).trans (q_sN _ _ h2)), a5.trans eq⟩
        rw [if_neg hneg, q_at hq (by decide), Option.bind_some, q_put (by omega) (by decide), Option.bind_some, q_put hl (by decide), Option.bind_some, R.2.1 q hq]
        exact a1
    · have hz : ¬ nI (D j) = 0 := by
        intro z
        exact c2 ((nI_eq (by have := R.2.2.2.1 j (by omega); omega) (by decide)).mp z)
      rw [if_neg hz]
      exact skip (Or.inr (Or.inl (by omega)))
theorem q_38 {W : Nat → Nat → Nat} {lo t : Nat} (hlo : lo < 8) (ht : t < 8) : ∀ (n fu h : Nat) (Q : List Nat) (D : Nat → Nat) (w : St), n < fu → h + n = 8 → Inv W lo t h Q D → RQ w W Q D → (∀ q, Q[h]? = some q → D q ≤ h) →
    ∃ Q' D' w' h', X3_measureSteps_l38 (nI t) (nI lo) fu w (nI Q.length) (nI h) = some w' ∧ Inv W lo t h' Q' D' ∧ Q'.length ≤ h' ∧ RQ w' W Q' D' ∧ (∀ r, r ≠ 2 → r ≠ 3 → w' r = w r) := by
  intro n
  induction n with
  | zero =>
    intro fu h Q D w hf hj I R _
    obtain ⟨fu, rfl⟩ : ∃ f, fu = f + 1 := ⟨fu - 1, by omega⟩
    have : h = 8 := by omega
    subst this
    exact ⟨Q, D, w, 8, by rw [X3_measureSteps_l38, if_pos (by decide)], I, nodup_len 8 Q I.nd I.lt, R, fun _ _ _ => rfl⟩
  | succ n ih =>
    intro fu h Q D w hf hj I R hD
    obtain ⟨fu, rfl⟩ : ∃ f, fu = f + 1 := ⟨fu - 1, by omega⟩
    have hl := nodup_len 8 Q I.nd I.lt
    have hcmp : ¬ (8 : Int32) ≤ nI h := by
      have : ¬ nI 8 ≤ nI h := by rw [q_le (by decide) (by omega)]; omega
      exact this
    rw [X3_measureSteps_l38, if_neg hcmp]
    by_cases c : Q.length ≤ h
    · rw [if_pos (by rw [q_le (by omega) (by omega)]; exact c)]
      exact ⟨Q, D, w, h, rfl, I, c, R, fun _ _ _ => rfl⟩
    · rw [if_neg (by rw [q_le (by omega) (by omega)]; exact c), q_at (by omega) (by decide), Option.bind_some]
      obtain ⟨q, e⟩ : ∃ q, Q[h]? = some q := ⟨Q[h]'(by omega), List.getElem?_eq_getElem _⟩
      have hq := hD q e
      rw [R.2.2.1 h q e]
      obtain ⟨Q', D', w', a1, a2, a3, a4, a5⟩ := q_65 ht (X3_measureSteps_l38 (nI t) (nI lo) fu) (8 - lo) FU lo Q D w (by show _ < 2000; omega) (by omega) (Nat.le_refl _) (I.mid e) R (by omega)
      obtain ⟨Q2, D2, w2, h2, b1, b2, b3, b4, b5⟩ := ih fu (h + 1) Q' D' w' (by omega) (by omega) a2.out a3 (fun q' e' => by
        have := a2.bd q' (List.mem_of_getElem? e'); omega)
      rw [← q_1] at b1
      exact ⟨Q2, D2, w2, h2, a1.trans b1, b2, b3, b4, fun r x y => (b5 r x y).trans (a4 r x y)⟩

/- measureSteps whole: D x is the least number of steps of x behind t, 0 where there are none -/
theorem q_ms_z {lo t : Nat} (hlo : lo < 8) (ht : t < 8) : ∀ (n fu i : Nat) (w : St), n < fu → i + n = 8 → (∀ j, j < i → w 2 j = 0) →
    ∃ w', X3_measureSteps_l2 (nI t) (nI lo) fu w (nI i) = X3_measureSteps_b24 (nI t) (nI lo) w' ∧ (∀ r, r ≠ 2 → w' r = w r) ∧ ∀ j, j < 8 → w' 2 j = 0 := by
  intro n
  induction n with
  | zero =>
    intro fu i w hf hi h
    obtain ⟨fu, rfl⟩ : ∃ f, fu = f + 1 := ⟨fu - 1, by omega⟩
    have : i = 8 := by omega
    subst this
    exact ⟨w, by rw [X3_measureSteps_l2, if_pos (by decide)], fun _ _ => rfl, h⟩
  | succ n ih =>
    intro fu i w hf hi h
    obtain ⟨fu, rfl⟩ : ∃ f, fu = f + 1 := ⟨fu - 1, by omega⟩
    have hcmp : ¬ (8 : Int32) ≤ nI i := by
      have : ¬ nI 8 ≤ nI i := by rw [q_le (by decide) (by omega)]; omega
      exact this
    obtain ⟨w', w1, w2, w3⟩ := ih fu (i + 1) (setA w 2 (upd (w 2) i 0)) (by omega) (by omega) (by
      intro j hj
      rw [q_sA]
      by_cases z : j = i
      · subst z; exact q_up
      · rw [q_un z]; exact h j (by omega))
    refine ⟨w', ?_, fun r hr => (w2 r hr).trans (q_sN w _ hr), w3⟩
    rw [X3_measureSteps_l2, if_neg hcmp, q_st (by omega) (by decide), Option.bind_some, q_1, w1]
/- D is exact -/
def DX (W : Nat → Nat → Nat) (lo t : Nat) (D : Nat → Nat) : Prop := D t = 0 ∧ ∀ x, x < 8 → x ≠ t → (0 < D x → Bk W lo t (D x) x) ∧ ∀ k, Bk W lo t k x → 0 < D x ∧ D x ≤ k
theorem q_ms {W : Nat → Nat → Nat} {lo t : Nat} (hlo : lo < 8) (ht : t < 8) {w : St} (hW : ∀ d c, d < 8 → c < 8 → w 1 (8 * d + c) = nI (W d c)) (hb : ∀ d c, d < 8 → c < 8 → W d c ≤ 1000) :
    ∃ w' D, X3_measureSteps w (nI t) (nI lo) = some w' ∧ DX W lo t D ∧ (∀ x, x < 8 → w' 2 x = nI (D x)) ∧ (∀ x, x < 8 → D x < 2 ^ 30) ∧ (∀ r, r ≠ 2 → r ≠ 3 → w' r = w r) := by
  obtain ⟨u, u1, u2, u3⟩ := q_ms_z hlo ht 8 FU 0 w (by decide) (by omega) (fun j hj => absurd hj (by omega))
  have R : RQ (setA u 3 (upd (u 3) 0 (nI t))) W [t] (fun _ => 0) := by
    refine ⟨fun d c hd hc => ?_, fun x hx => ?_, fun i q e => ?_, fun _ _ => (by decide : (0 : Nat) < 2 ^ 30), hb⟩
    · rw [q_sN u _ (by decide), u2 1 (by decide)]; exact hW d c hd hc
    · rw [q_sN u _ (by decide)]; exact u3 x hx
    · rw [q_sA]
      cases i with
      | zero => rw [q_up]; congr 1; exact Option.some.inj e
      | succ i => simp at e
  obtain ⟨Q, D, w', h', a1, a2, a3, a4, a5⟩ := q_38 hlo ht 8 FU 0 [t] (fun _ => 0) _ (by decide) (by omega) (Inv.init W lo ht) R (fun q _ => Nat.le_refl 0)
  refine ⟨w', D, ?_, ⟨a2.t0, fun x hx hxt => a2.exact a3 hx hxt⟩, a4.2.1, a4.2.2.2.1, fun r h2 h3 => ?_⟩
  · rw [X3_measureSteps]
    refine u1.trans ?_
    have e : X4_put (u 3) 8 (0 : Int32) (nI t) = some (upd (u 3) 0 (nI t)) := q_put (k := 0) (by decide) (by decide)
    rw [X3_measureSteps_b24, e, Option.bind_some]
    exact a1
  · rw [a5 r h2 h3, q_sN u _ h3, u2 r h2]


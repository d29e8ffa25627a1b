/- steps backward to a pupil: exact steps, and what a search from behind keeps -/
def Bk (W : Nat → Nat → Nat) (lo t : Nat) : Nat → Nat → Prop
  | 0, x => x = t
  | k + 1, x => lo ≤ x ∧ x < 8 ∧ x ≠ t ∧ ∃ y, y < 8 ∧ 0 < W x y ∧ Bk W lo t k y
/- what holds before the pupil at place h of the queue Q is worked on (D = steps found) -/
abbrev Inv (W : Nat → Nat → Nat) (lo t h : Nat) (Q : List Nat) (D : Nat → Nat) : Prop :=
  (Q.Nodup) ∧
  (Q[0]? = some t) ∧
  (D t = 0) ∧
  (∀ q ∈ Q, q < 8) ∧
  (∀ x, x < 8 → x ≠ t → (x ∈ Q ↔ 0 < D x)) ∧
  (∀ q ∈ Q, Bk W lo t (D q) q) ∧
  (Q.Pairwise (fun a b => D a ≤ D b)) ∧
  (∀ q, Q[h]? = some q → ∀ x ∈ Q, D x ≤ D q + 1) ∧
  (∀ i, i < h → ∀ q, Q[i]? = some q → ∀ x, lo ≤ x → x < 8 → x ≠ t → 0 < W x q → x ∈ Q ∧ D x ≤ D q + 1)
theorem Inv.nd {W : Nat → Nat → Nat} {lo t h : Nat} {Q : List Nat} {D : Nat → Nat} (I : Inv W lo t h Q D) : Q.Nodup := by have h := I; exact h.1
theorem Inv.hd {W : Nat → Nat → Nat} {lo t h : Nat} {Q : List Nat} {D : Nat → Nat} (I : Inv W lo t h Q D) : Q[0]? = some t := by have h := I; exact h.2.1
theorem Inv.t0 {W : Nat → Nat → Nat} {lo t h : Nat} {Q : List Nat} {D : Nat → Nat} (I : Inv W lo t h Q D) : D t = 0 := by have h := I; exact h.2.2.1
theorem Inv.lt {W : Nat → Nat → Nat} {lo t h : Nat} {Q : List Nat} {D : Nat → Nat} (I : Inv W lo t h Q D) : ∀ q ∈ Q, q < 8 := by have h := I; exact h.2.2.2.1
theorem Inv.mem {W : Nat → Nat → Nat} {lo t h : Nat} {Q : List Nat} {D : Nat → Nat} (I : Inv W lo t h Q D) : ∀ x, x < 8 → x ≠ t → (x ∈ Q ↔ 0 < D x) := by have h := I; exact h.2.2.2.2.1
theorem Inv.snd {W : Nat → Nat → Nat} {lo t h : Nat} {Q : List Nat} {D : Nat → Nat} (I : Inv W lo t h Q D) : ∀ q ∈ Q, Bk W lo t (D q) q := by have h := I; exact h.2.2.2.2.2.1
theorem Inv.mono {W : Nat → Nat → Nat} {lo t h : Nat} {Q : List Nat} {D : Nat → Nat} (I : Inv W lo t h Q D) : Q.Pairwise (fun a b => D a ≤ D b) := by have h := I; exact h.2.2.2.2.2.2.1
theorem Inv.bd {W : Nat → Nat → Nat} {lo t h : Nat} {Q : List Nat} {D : Nat → Nat} (I : Inv W lo t h Q D) : ∀ q, Q[h]? = some q → ∀ x ∈ Q, D x ≤ D q + 1 := by have h := I; exact h.2.2.2.2.2.2.2.1
theorem Inv.cl {W : Nat → Nat → Nat} {lo t h : Nat} {Q : List Nat} {D : Nat → Nat} (I : Inv W lo t h Q D) : ∀ i, i < h → ∀ q, Q[i]? = some q → ∀ x, lo ≤ x → x < 8 → x ≠ t → 0 < W x q → x ∈ Q ∧ D x ≤ D q + 1 := by have h := I; exact h.2.2.2.2.2.2.2.2
theorem Inv.complete {W : Nat → Nat → Nat} {lo t h : Nat} {Q : List Nat} {D : Nat → Nat} (I : Inv W lo t h Q D) (hh : Q.length ≤ h) : ∀ k x, Bk W lo t k x → x ∈ Q ∧ D x ≤ k := by
  intro k
  induction k with
  | zero =>
    rintro x rfl
    exact ⟨List.mem_of_getElem? I.hd, by rw [I.t0]; exact Nat.le_refl 0⟩
  | succ k ih =>
    rintro x ⟨h1, h2, h3, y, h4, h5, h6⟩
    obtain ⟨hy, hk⟩ := ih y h6
    obtain ⟨i, hi, e⟩ := List.mem_iff_getElem.mp hy
    obtain ⟨m, b⟩ := I.cl i (by omega) y (by rw [← e]; exact List.getElem?_eq_getElem hi) x h1 h2 h3 h5
    exact ⟨m, by omega⟩
/- at the end: D x is the least number of steps, 0 where there are none -/
theorem Inv.exact {W : Nat → Nat → Nat} {lo t h : Nat} {Q : List Nat} {D : Nat → Nat} (I : Inv W lo t h Q D) (hh : Q.length ≤ h) {x : Nat} (hx : x < 8) (hxt : x ≠ t) :
    (0 < D x → Bk W lo t (D x) x) ∧ ∀ k, Bk W lo t k x → 0 < D x ∧ D x ≤ k :=
  ⟨fun z => I.snd x ((I.mem x hx hxt).mpr z), fun k b => ⟨(I.mem x hx hxt).mp (I.complete hh k x b).1, (I.complete hh k x b).2⟩⟩
def updN (f : Nat → Nat) (k x : Nat) : Nat → Nat := fun j => if j = k then x else f j
theorem Inv.init (W : Nat → Nat → Nat) (lo : Nat) {t : Nat} (ht : t < 8) : Inv W lo t 0 [t] (fun _ => 0) := by
  refine ⟨?_, ?_, ?_, ?_, ?_, ?_, ?_, ?_, ?_⟩
  · simp
  · exact rfl
  · exact rfl
  · intro q hq; rw [List.mem_singleton] at hq; omega
  · intro x _ hx; simp [hx]
  · intro q hq; rw [List.mem_singleton] at hq; exact hq
  · simp
  · intro q _ x _; exact Nat.zero_le _
  · intro i hi; omega
/- inside the work on q = Q[h]: the places below j are done -/
abbrev Mid (W : Nat → Nat → Nat) (lo t h q j : Nat) (Q : List Nat) (D : Nat → Nat) : Prop :=
  (Q.Nodup) ∧
  (Q[0]? = some t) ∧
  (D t = 0) ∧
  (∀ q ∈ Q, q < 8) ∧
  (∀ x, x < 8 → x ≠ t → (x ∈ Q ↔ 0 < D x)) ∧
  (∀ q ∈ Q, Bk W lo t (D q) q) ∧
  (Q.Pairwise (fun a b => D a ≤ D b)) ∧
  (Q[h]? = some q) ∧
  (∀ x ∈ Q, D x ≤ D q + 1) ∧
  (∀ i, i < h → ∀ q, Q[i]? = some q → ∀ x, lo ≤ x → x < 8 → x ≠ t → 0 < W x q → x ∈ Q ∧ D x ≤ D q + 1) ∧
  (∀ x, lo ≤ x → x < j → x < 8 → x ≠ t → 0 < W x q → x ∈ Q)
theorem Mid.nd {W : Nat → Nat → Nat} {lo t h q j : Nat} {Q : List Nat} {D : Nat → Nat} (I : Mid W lo t h q j Q D) : Q.Nodup := by have h := I; exact h.1
theorem Mid.hd {W : Nat → Nat → Nat} {lo t h q j : Nat} {Q : List Nat} {D : Nat → Nat} (I : Mid W lo t h q j Q D) : Q[0]? = some t := by have h := I; exact h.2.1
theorem Mid.t0 {W : Nat → Nat → Nat} {lo t h q j : Nat} {Q : List Nat} {D : Nat → Nat} (I : Mid W lo t h q j Q D) : D t = 0 := by have h := I; exact h.2.2.1
theorem Mid.lt {W : Nat → Nat → Nat} {lo t h q j : Nat} {Q : List Nat} {D : Nat → Nat} (I : Mid W lo t h q j Q D) : ∀ q ∈ Q, q < 8 := by have h := I; exact h.2.2.2.1
theorem Mid.mem {W : Nat → Nat → Nat} {lo t h q j : Nat} {Q : List Nat} {D : Nat → Nat} (I : Mid W lo t h q j Q D) : ∀ x, x < 8 → x ≠ t → (x ∈ Q ↔ 0 < D x) := by have h := I; exact h.2.2.2.2.1
theorem Mid.snd {W : Nat → Nat → Nat} {lo t h q j : Nat} {Q : List Nat} {D : Nat → Nat} (I : Mid W lo t h q j Q D) : ∀ q ∈ Q, Bk W lo t (D q) q := by have h := I; exact h.2.2.2.2.2.1
theorem Mid.mono {W : Nat → Nat → Nat} {lo t h q j : Nat} {Q : List Nat} {D : Nat → Nat} (I : Mid W lo t h q j Q D) : Q.Pairwise (fun a b => D a ≤ D b) := by have h := I; exact h.2.2.2.2.2.2.1
theorem Mid.at_h {W : Nat → Nat → Nat} {lo t h q j : Nat} {Q : List Nat} {D : Nat → Nat} (I : Mid W lo t h q j Q D) : Q[h]? = some q := by have h := I; exact h.2.2.2.2.2.2.2.1
theorem Mid.bd {W : Nat → Nat → Nat} {lo t h q j : Nat} {Q : List Nat} {D : Nat → Nat} (I : Mid W lo t h q j Q D) : ∀ x ∈ Q, D x ≤ D q + 1 := by have h := I; exact h.2.2.2.2.2.2.2.2.1
theorem Mid.cl {W : Nat → Nat → Nat} {lo t h q j : Nat} {Q : List Nat} {D : Nat → Nat} (I : Mid W lo t h q j Q D) : ∀ i, i < h → ∀ q, Q[i]? = some q → ∀ x, lo ≤ x → x < 8 → x ≠ t → 0 < W x q → x ∈ Q ∧ D x ≤ D q + 1 := by have h := I; exact h.2.2.2.2.2.2.2.2.2.1
theorem Mid.now {W : Nat → Nat → Nat} {lo t h q j : Nat} {Q : List Nat} {D : Nat → Nat} (I : Mid W lo t h q j Q D) : ∀ x, lo ≤ x → x < j → x < 8 → x ≠ t → 0 < W x q → x ∈ Q := by have h := I; exact h.2.2.2.2.2.2.2.2.2.2
theorem Inv.mid {W : Nat → Nat → Nat} {lo t h q : Nat} {Q : List Nat} {D : Nat → Nat} (I : Inv W lo t h Q D) (e : Q[h]? = some q) : Mid W lo t h q lo Q D :=
  ⟨I.nd, I.hd, I.t0, I.lt, I.mem, I.snd, I.mono, e, I.bd q e, I.cl, fun x a b => by omega⟩
theorem Mid.out {W : Nat → Nat → Nat} {lo t h q : Nat} {Q : List Nat} {D : Nat → Nat} (I : Mid W lo t h q 8 Q D) : Inv W lo t (h + 1) Q D := by
  refine ⟨?_, ?_, ?_, ?_, ?_, ?_, ?_, ?_, ?_⟩
  · exact I.nd
  · exact I.hd
  · exact I.t0
  · exact I.lt
  · exact I.mem
  · exact I.snd
  · exact I.mono
  · intro q' e x hx
    have h1 := I.bd x hx
    have h2 : D q ≤ D q' := by
      obtain ⟨l1, e1⟩ := List.getElem?_eq_some_iff.mp I.at_h
      obtain ⟨l2, e2⟩ := List.getElem?_eq_some_iff.mp e
      have := List.pairwise_iff_getElem.mp I.mono h (h + 1) l1 l2 (by omega)
      rw [e1, e2] at this; exact this
    omega
  · intro i hi q' e x h1 h2 h3 h4
    by_cases z : i = h
    · subst z
      have : q' = q := by rw [I.at_h] at e; exact (Option.some.inj e).symm
      subst this
      have m := I.now x h1 h2 h2 h3 h4
      exact ⟨m, I.bd x m⟩
    · exact I.cl i (by omega) q' e x h1 h2 h3 h4
theorem Mid.skip {W : Nat → Nat → Nat} {lo t h q j : Nat} {Q : List Nat} {D : Nat → Nat} (I : Mid W lo t h q j Q D) (c : j = t ∨ 0 < D j ∨ W j q = 0) : Mid W lo t h q (j + 1) Q D :=
  ⟨I.nd, I.hd, I.t0, I.lt, I.mem, I.snd, I.mono, I.at_h, I.bd, I.cl, fun x a b c1 d e => by
    by_cases z : x = j
    · subst z
      rcases c with c | c | c
      · exact absurd c d
      · exact (I.mem x c1 d).mpr c
      · omega
    · exact I.now x a (by omega) c1 d e⟩
theorem Mid.put {W : Nat → Nat → Nat} {lo t h q j : Nat} {Q : List Nat} {D : Nat → Nat} (I : Mid W lo t h q j Q D) (hj : j < 8) (hlo : lo ≤ j) (c1 : j ≠ t) (c2 : D j = 0) (c3 : 0 < W j q) : Mid W lo t h q (j + 1) (Q ++ [j]) (updN D j (D q + 1)) := by
  have hn : j ∉ Q := fun z => by have := (I.mem j hj c1).mp z; omega
  have hq : q ∈ Q := List.mem_of_getElem? I.at_h
  have un : ∀ x ∈ Q, updN D j (D q + 1) x = D x := fun x hx => if_neg (fun z : x = j => hn (z ▸ hx))
  have us : updN D j (D q + 1) j = D q + 1 := if_pos rfl
  have qj : updN D j (D q + 1) q = D q := un q hq
  have ge : ∀ i x, (Q ++ [j])[i]? = some x → i < Q.length → Q[i]? = some x := fun i x e hi => by rw [List.getElem?_append_left hi] at e; exact e
  have hl : h < Q.length := (List.getElem?_eq_some_iff.mp I.at_h).1
  refine ⟨?_, ?_, ?_, ?_, ?_, ?_, ?_, ?_, ?_, ?_, ?_⟩
  · rw [List.nodup_append]
    refine ⟨I.nd, by simp, fun a ha b hb => ?_⟩
    rw [List.mem_singleton] at hb
    intro z; exact hn (by rw [← hb, ← z]; exact ha)
  · rw [List.getElem?_append_left (by omega)]; exact I.hd
  · exact (if_neg (fun z => c1 z.symm)).trans I.t0
  · intro x hx
    rcases List.mem_append.mp hx with hx | hx
    · exact I.lt x hx
    · rw [List.mem_singleton] at hx; omega
  · intro x hx ht
    by_cases z : x = j
    · subst z; rw [us]; simp
    · rw [List.mem_append, List.mem_singleton]
      rw [show updN D j (D q + 1) x = D x from if_neg z, ← I.mem x hx ht]
      exact ⟨fun y => y.resolve_right z, Or.inl⟩
  · intro x hx
    rcases List.mem_append.mp hx with hx | hx
    · rw [un x hx]; exact I.snd x hx
    · rw [List.mem_singleton] at hx; subst hx
      rw [us]
      exact ⟨hlo, hj, c1, q, I.lt q hq, c3, I.snd q hq⟩
  · rw [List.pairwise_append]
    refine ⟨?_, by simp, fun a ha b hb => ?_⟩
    · exact I.mono.imp_of_mem (fun {a b} ha hb r => by rw [un a ha, un b hb]; exact r)
    · rw [List.mem_singleton] at hb; subst hb
      rw [un a ha, us]; exact I.bd a ha
  · rw [List.getElem?_append_left hl]; exact I.at_h
  · intro x hx
    rw [qj]
    rcases List.mem_append.mp hx with hx | hx
    · rw [un x hx]; exact I.bd x hx
    · rw [List.mem_singleton] at hx; subst hx; rw [us]; omega
  · intro i hi q' e x a b c d
    have e := ge i q' e (by omega)
    obtain ⟨m, r⟩ := I.cl i hi q' e x a b c d
    refine ⟨List.mem_append_left _ m, ?_⟩
    rw [un x m, un q' (List.mem_of_getElem? e)]; exact r
  · intro x a b c d e
    by_cases z : x = j
    · subst z; simp
    · exact List.mem_append_left _ (I.now x a (by omega) c d e)

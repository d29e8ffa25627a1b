/- the next ring: length and pupils, as the document says -/
def FstP (p : Nat → Prop) (x : Nat) : Prop := x < 8 ∧ p x ∧ ∀ y, y < x → ¬ p y
theorem FstP.uniq {p : Nat → Prop} {x y : Nat} (h : FstP p x) (k : FstP p y) : x = y := by
  rcases Nat.lt_trichotomy x y with z | z | z
  · exact absurd h.2.1 (k.2.2 x z)
  · exact z
  · exact absurd k.2.1 (h.2.2 y z)
def stepR (W : Nat → Nat → Nat) (s L i p x : Nat) : Prop := FstP (fun y => Bk W s s (L - (i + 1)) y ∧ 0 < W p y) x
def Ring (W : Nat → Nat → Nat) (L : Nat) (P : Nat → Nat) : Prop :=
  (L = 0 ∧ ∀ s, s < 8 → LX W s 0) ∨ (0 < L ∧ BS W 8 (some (P 0)) L ∧ ∀ i, i + 1 < L → stepR W (P 0) L i (P i) (P (i + 1)))
theorem Ring.uniq {W : Nat → Nat → Nat} {L M : Nat} {P Q : Nat → Nat} (h : Ring W L P) (k : Ring W M Q) : L = M ∧ ∀ i, i < L → P i = Q i := by
  rcases h with ⟨h1, h2⟩ | ⟨h1, ⟨h2, _, h3, h4, h5⟩, h6⟩
  · rcases k with ⟨k1, k2⟩ | ⟨k1, ⟨k2, _, k3, k4, k5⟩, k6⟩
    · exact ⟨by omega, fun i hi => by omega⟩
    · have := k3.uniq (h2 _ k2); omega
  · rcases k with ⟨k1, k2⟩ | ⟨k1, ⟨k2, _, k3, k4, k5⟩, k6⟩
    · have := h3.uniq (k2 _ h2); omega
    · have e0 : P 0 = Q 0 := by
        rcases Nat.lt_trichotomy (P 0) (Q 0) with z | z | z
        · have := k4 _ z _ h3 h1
          have := h5 _ k2 _ k3 k1
          omega
        · exact z
        · have := h4 _ z _ k3 k1
          have := k5 _ h2 _ h3 h1
          omega
      have eL : L = M := h3.uniq (by rw [e0]; exact k3)
      subst eL
      refine ⟨rfl, fun i => ?_⟩
      induction i with
      | zero => intro _; exact e0
      | succ i ih =>
        intro hi
        have a := h6 i hi
        have b := k6 i hi
        rw [ih (by omega), e0] at a
        exact FstP.uniq a b
/- the path, by the class's distances -/
def okP (W : Nat → Nat → Nat) (D : Nat → Nat) (s L i p : Nat) : Prop := p < 8 ∧ ((i = 0 ∧ p = s) ∨ (0 < i ∧ Bk W s s (L - i) p ∧ D p = L - i))
theorem pth_iff {W : Nat → Nat → Nat} {D : Nat → Nat} {s L i p : Nat} (hs : s < 8) (hx : DX W s s D) (hL : LX W s L) (hi : i + 1 < L) (hp : okP W D s L i p) {y : Nat} (hy : y < 8) (hw : 0 < W p y) :
    D y = L - (i + 1) ↔ Bk W s s (L - (i + 1)) y := by
  obtain ⟨j, hj⟩ : ∃ j, L - (i + 1) = j + 1 := ⟨L - (i + 1) - 1, by omega⟩
  rw [hj]
  constructor
  · intro e
    have hys : y ≠ s := fun z => by subst z; have := hx.1; omega
    have := (hx.2 y hy hys).1 (by omega)
    rw [e] at this; exact this
  · intro b
    have hys : y ≠ s := b.2.2.1
    have hsy : s < y := by have := b.1; omega
    obtain ⟨h1, h2⟩ := (hx.2 y hy hys).2 _ b
    have hbk := (hx.2 y hy hys).1 h1
    rcases hp.2 with ⟨z, rfl⟩ | ⟨z, hb, hd⟩
    · have := (hL.2 y (D y) hsy hy hw hbk).2
      omega
    · obtain ⟨k, hk⟩ : ∃ k, L - i = k + 1 := ⟨L - i - 1, by omega⟩
      rw [hk] at hb
      have hb2 : Bk W s s (D y + 1) p := ⟨hb.1, hb.2.1, hb.2.2.1, y, hy, hw, hbk⟩
      have := ((hx.2 p hp.1 hb.2.2.1).2 _ hb2).2
      omega
theorem pth_step {W : Nat → Nat → Nat} {D : Nat → Nat} {s L i p : Nat} (hs : s < 8) (hx : DX W s s D) (hL : LX W s L) (hi : i + 1 < L) (hp : okP W D s L i p) :
    ∃ x, lwS W D p (L - (i + 1)) 8 0 = some x ∧ stepR W s L i p x ∧ okP W D s L (i + 1) x := by
  have ex : ∃ y, y < 8 ∧ 0 < W p y ∧ Bk W s s (L - (i + 1)) y := by
    rcases hp.2 with ⟨z, rfl⟩ | ⟨z, hb, hd⟩
    · obtain ⟨y, k, h1, h2, h3, h4, h5⟩ := hL.1 (by omega)
      exact ⟨y, h2, h3, by subst z; rw [h5]; exact h4⟩
    · obtain ⟨k, hk⟩ : ∃ k, L - i = k + 1 := ⟨L - i - 1, by omega⟩
      rw [hk] at hb
      obtain ⟨_, _, _, y, h1, h2, h3⟩ := hb
      exact ⟨y, h1, h2, by rw [show L - (i + 1) = k by omega]; exact h3⟩
  obtain ⟨y, y1, y2, y3⟩ := ex
  have ey := (pth_iff hs hx hL hi hp y1 y2).mpr y3
  rw [lwS_fst8]
  obtain ⟨z, z1, z2, z3, z4⟩ := fst8_some (p := fun y => decide (D y = L - (i + 1) ∧ 0 < W p y)) 8 0 y (by omega) (by omega) (decide_eq_true ⟨ey, y2⟩)
  have z2 := of_decide_eq_true z2
  have z8 : z < 8 := by omega
  have zb := (pth_iff hs hx hL hi hp z8 z2.2).mp z2.1
  refine ⟨z, z1, ⟨z8, ⟨zb, z2.2⟩, fun u hu hb => ?_⟩, z8, Or.inr ⟨by omega, zb, z2.1⟩⟩
  have eu := (pth_iff hs hx hL hi hp (by omega) hb.2).mpr hb.1
  obtain ⟨z', a1, a2, a3, a4⟩ := fst8_some (p := fun y => decide (D y = L - (i + 1) ∧ 0 < W p y)) 8 0 u (by omega) (by omega) (decide_eq_true ⟨eu, hb.2⟩)
  rw [z1] at a1
  have := Option.some.inj a1
  omega
/- no distance beyond 7 -/
theorem DX_path {W : Nat → Nat → Nat} {D : Nat → Nat} {lo t : Nat} (ht : t < 8) (hx : DX W lo t D) : ∀ (k x : Nat), x < 8 → D x = k → (k = 0 → x = t) → ∃ Q : List Nat, Q.Nodup ∧ (∀ q ∈ Q, q < 8) ∧ Q.length = k + 1 ∧ ∀ q ∈ Q, D q ≤ k := by
  intro k
  induction k with
  | zero =>
    intro x hx8 hk h0
    exact ⟨[x], by simp, fun q hq => by rw [List.mem_singleton] at hq; omega, rfl, fun q hq => by rw [List.mem_singleton] at hq; subst hq; omega⟩
  | succ k ih =>
    intro x hx8 hk _
    have hxt : x ≠ t := fun z => by subst z; have := hx.1; omega
    have hb := (hx.2 x hx8 hxt).1 (by omega)
    rw [hk] at hb
    obtain ⟨a1, a2, a3, y, y1, y2, y3⟩ := hb
    have hy : D y = k ∧ (k = 0 → y = t) := by
      by_cases e : y = t
      · subst e
        have b1 : Bk W lo y 1 x := ⟨a1, a2, a3, y, y1, y2, rfl⟩
        have := ((hx.2 x hx8 hxt).2 1 b1).2
        have := hx.1
        exact ⟨by omega, fun _ => rfl⟩
      · obtain ⟨p1, p2⟩ := (hx.2 y y1 e).2 k y3
        have b1 : Bk W lo t (D y + 1) x := ⟨a1, a2, a3, y, y1, y2, (hx.2 y y1 e).1 p1⟩
        have := ((hx.2 x hx8 hxt).2 _ b1).2
        exact ⟨by omega, fun z => by omega⟩
    obtain ⟨Q, q1, q2, q3, q4⟩ := ih y y1 hy.1 hy.2
    refine ⟨x :: Q, List.nodup_cons.mpr ⟨fun z => by have := q4 x z; omega, q1⟩, fun q hq => ?_, by rw [List.length_cons, q3], fun q hq => ?_⟩
    · rcases List.mem_cons.mp hq with rfl | hq
      · exact hx8
      · exact q2 q hq
    · rcases List.mem_cons.mp hq with rfl | hq
      · omega
      · have := q4 q hq; omega
theorem DX_le {W : Nat → Nat → Nat} {D : Nat → Nat} {lo t : Nat} (ht : t < 8) (hx : DX W lo t D) {x : Nat} (hx8 : x < 8) : D x ≤ 7 := by
  rcases Nat.eq_zero_or_pos (D x) with z | z
  · omega
  · obtain ⟨Q, q1, q2, q3, _⟩ := DX_path ht hx (D x) x hx8 rfl (fun e => by omega)
    have := nodup_len 8 Q q1 q2
    omega
theorem DX_ex {W : Nat → Nat → Nat} {lo t : Nat} (hlo : lo < 8) (ht : t < 8) (hb : ∀ d c, d < 8 → c < 8 → W d c ≤ 1000) : ∃ D, DX W lo t D := by
  obtain ⟨w', D, _, h, _⟩ := q_ms (W := W) hlo ht (w := setA (fun _ _ => 0) 1 (fun i => nI (W (i / 8) (i % 8)))) (fun d c hd hc => by
    rw [q_sA]
    show nI (W ((8 * d + c) / 8) ((8 * d + c) % 8)) = _
    rw [show (8 * d + c) / 8 = d by omega, show (8 * d + c) % 8 = c by omega]) hb
  exact ⟨D, h⟩
theorem LX.le {W : Nat → Nat → Nat} {s L : Nat} (hs : s < 8) (hb : ∀ d c, d < 8 → c < 8 → W d c ≤ 1000) (h : LX W s L) : L ≤ 8 := by
  rcases Nat.eq_zero_or_pos L with z | z
  · omega
  · obtain ⟨y, k, h1, h2, h3, h4, h5⟩ := h.1 z
    obtain ⟨D, hx⟩ := DX_ex (W := W) hs hs hb
    obtain ⟨p1, p2⟩ := (hx.2 y h2 (by omega)).2 k h4
    have := (h.2 y (D y) h1 h2 h3 ((hx.2 y h2 (by omega)).1 p1)).2
    have := DX_le hs hx h2
    omega
theorem LX.ge {W : Nat → Nat → Nat} {s L : Nat} (h : LX W s L) (hL : 0 < L) : 2 ≤ L := by
  obtain ⟨y, k, h1, h2, h3, h4, h5⟩ := h.1 hL
  cases k with
  | zero => have : y = s := h4
            omega
  | succ k => omega

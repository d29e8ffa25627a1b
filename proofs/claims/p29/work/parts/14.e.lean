/- the shortest ring from one pupil: class -/
def mn0 (x y : Nat) : Nat := if x = 0 then y else if x ≤ y then x else y
def sfS (W : Nat → Nat → Nat) (D : Nat → Nat) (s : Nat) : Nat → Nat → Nat → Nat
  | 0, _, m => m
  | n + 1, x, m => sfS W D s n (x + 1) (if D x = 0 ∨ W s x = 0 then m else mn0 m (D x + 1))
theorem q_sf {W : Nat → Nat → Nat} {D : Nat → Nat} {s : Nat} (hs : s < 8) {w : St} (hW : ∀ d c, d < 8 → c < 8 → w 1 (8 * d + c) = nI (W d c)) (hb : ∀ d c, d < 8 → c < 8 → W d c ≤ 1000) (hD : ∀ x, x < 8 → w 2 x = nI (D x)) (hd : ∀ x, x < 8 → D x < 2 ^ 30) :
    ∀ (n fu x m : Nat), n < fu → x + n = 8 → m < 2 ^ 30 + 1 → X3_shortestFrom_l6 w (nI s) fu (nI m) (nI x) = some (nI (sfS W D s n x m)) := by
  intro n
  induction n with
  | zero =>
    intro fu x m hf hx hm
    obtain ⟨fu, rfl⟩ : ∃ f, fu = f + 1 := ⟨fu - 1, by omega⟩
    have : x = 8 := by omega
    subst this
    rw [X3_shortestFrom_l6, if_pos (by decide)]; rfl
  | succ n ih =>
    intro fu x m hf hx hm
    obtain ⟨fu, rfl⟩ : ∃ f, fu = f + 1 := ⟨fu - 1, by omega⟩
    have hcmp : ¬ (8 : Int32) ≤ nI x := by
      have : ¬ nI 8 ≤ nI x := by rw [q_le (by decide) (by omega)]; omega
      exact this
    have hdx := hd x (by omega)
    have h1 : (nI (D x + 1) ≤ (1 : Int32)) = (D x + 1 ≤ 1) := q_le (b := 1) (by omega) (by decide)
    have h2 : (nI (W s x) ≤ (0 : Int32)) = (W s x ≤ 0) := q_le (b := 0) (by have := hb s x hs (by omega); omega) (by decide)
    have h3 : (nI m = (0 : Int32)) = (m = 0) := propext (nI_eq (b := 0) (by omega) (by decide))
    rw [X3_shortestFrom_l6, if_neg hcmp, q_at (by omega) (by decide), Option.bind_some, hD x (by omega), q_1]
    unfold sfS
    have sk : X3_shortestFrom_b43 w (nI s) (X3_shortestFrom_l6 w (nI s) fu) (nI m) (nI x) (nI (D x + 1)) = some (nI (sfS W D s n (x + 1) m)) := by
      rw [X3_shortestFrom_b43, X3_shortestFrom_b44, if_pos rfl, q_1]
      exact ih fu (x + 1) m (by omega) (by omega) hm
    by_cases c1 : D x = 0
    · rw [if_pos (show nI (D x + 1) ≤ (1 : Int32) by rw [h1]; omega), if_pos (Or.inl c1)]; exact sk
    · rw [if_neg (show ¬ nI (D x + 1) ≤ (1 : Int32) by rw [h1]; omega), c_owed hW hs (by omega), Option.bind_some]
      by_cases c2 : W s x = 0
      · rw [if_pos (show nI (W s x) ≤ (0 : Int32) by rw [h2]; omega), if_pos (Or.inr c2)]; exact sk
      · rw [if_neg (show ¬ nI (W s x) ≤ (0 : Int32) by rw [h2]; omega), if_neg (by omega), X3_shortestFrom_b44, if_neg (by decide), q_1]
        unfold mn0
        by_cases c3 : m = 0
        · rw [if_pos (h3.mpr c3), if_pos c3]; exact ih fu (x + 1) _ (by omega) (by omega) (by omega)
        · rw [if_neg (fun z => c3 (h3.mp z)), if_neg c3]
          have h4 : (nI m ≤ nI (D x + 1)) = (m ≤ D x + 1) := q_le (by omega) (by omega)
          by_cases c4 : m ≤ D x + 1
          · rw [if_pos (h4.mpr c4), if_pos c4]; exact ih fu (x + 1) _ (by omega) (by omega) hm
          · rw [if_neg (fun z => c4 (h4.mp z)), if_neg c4]; exact ih fu (x + 1) _ (by omega) (by omega) (by omega)

/- the pupil next on a ring: class -/
def lwS (W : Nat → Nat → Nat) (D : Nat → Nat) (s j : Nat) : Nat → Nat → Option Nat
  | 0, _ => none
  | n + 1, x => if D x = j ∧ 0 < W s x then some x else lwS W D s j n (x + 1)
def oI : Option Nat → Int32
  | none => -1
  | some x => nI x
theorem q_lw {W : Nat → Nat → Nat} {D : Nat → Nat} {s j : Nat} (hs : s < 8) (hj : j < 2 ^ 30) {w : St} (hW : ∀ d c, d < 8 → c < 8 → w 1 (8 * d + c) = nI (W d c)) (hb : ∀ d c, d < 8 → c < 8 → W d c ≤ 1000) (hD : ∀ x, x < 8 → w 2 x = nI (D x)) (hd : ∀ x, x < 8 → D x < 2 ^ 30) :
    ∀ (n fu x : Nat), n < fu → x + n = 8 → X3_lowestBehind_l2 w (nI s) (nI j) fu (nI x) = some (oI (lwS W D s j n x)) := by
  intro n
  induction n with
  | zero =>
    intro fu x hf hx
    obtain ⟨fu, rfl⟩ : ∃ f, fu = f + 1 := ⟨fu - 1, by omega⟩
    have : x = 8 := by omega
    subst this
    rw [X3_lowestBehind_l2, if_pos (by decide)]; rfl
  | succ n ih =>
    intro fu x hf hx
    obtain ⟨fu, rfl⟩ : ∃ f, fu = f + 1 := ⟨fu - 1, by omega⟩
    have hcmp : ¬ (8 : Int32) ≤ nI x := by
      have : ¬ nI 8 ≤ nI x := by rw [q_le (by decide) (by omega)]; omega
      exact this
    have hdx := hd x (by omega)
    have h2 : (nI (W s x) ≤ (0 : Int32)) = (W s x ≤ 0) := q_le (b := 0) (by have := hb s x hs (by omega); omega) (by decide)
    have h3 : (nI (D x) = nI j) = (D x = j) := propext (nI_eq (by omega) (by omega))
    have go := ih fu (x + 1) (by omega) (by omega)
    rw [X3_lowestBehind_l2, if_neg hcmp, q_at (by omega) (by decide), Option.bind_some, hD x (by omega), q_1]
    unfold lwS
    by_cases c1 : D x = j
    · rw [if_pos (h3.mpr c1), c_owed hW hs (by omega), Option.bind_some]
      by_cases c2 : W s x = 0
      · rw [if_pos (show nI (W s x) ≤ (0 : Int32) by rw [h2]; omega), if_neg (by omega)]; exact go
      · rw [if_neg (show ¬ nI (W s x) ≤ (0 : Int32) by rw [h2]; omega), if_pos ⟨c1, by omega⟩]; rfl
    · rw [if_neg (fun z => c1 (h3.mp z)), if_neg (fun z => c1 z.1)]; exact go

/- the first place below 8 where p holds -/
def fst8 (p : Nat → Bool) : Nat → Nat → Option Nat
  | 0, _ => none
  | n + 1, x => if p x = true then some x else fst8 p n (x + 1)
theorem fst8_cong {p q : Nat → Bool} : ∀ (n x : Nat), (∀ y, x ≤ y → y < x + n → p y = q y) → fst8 p n x = fst8 q n x := by
  intro n
  induction n with
  | zero => intro x _; rfl
  | succ n ih =>
    intro x h
    unfold fst8
    rw [h x (Nat.le_refl _) (by omega), ih (x + 1) (fun y a b => h y (by omega) (by omega))]
theorem fst8_some {p : Nat → Bool} : ∀ (n x y : Nat), x ≤ y → y < x + n → p y = true → ∃ z, fst8 p n x = some z ∧ p z = true ∧ x ≤ z ∧ z ≤ y := by
  intro n
  induction n with
  | zero => intro x y h1 h2 _; omega
  | succ n ih =>
    intro x y h1 h2 hp
    unfold fst8
    by_cases c : p x = true
    · rw [if_pos c]; exact ⟨x, rfl, c, Nat.le_refl _, h1⟩
    · rw [if_neg c]
      have : x ≠ y := fun z => c (z ▸ hp)
      obtain ⟨z, a, b, c1, d⟩ := ih (x + 1) y (by omega) (by omega) hp
      exact ⟨z, a, b, by omega, d⟩
theorem lwS_fst8 {W : Nat → Nat → Nat} {D : Nat → Nat} {s j : Nat} : ∀ (n x : Nat), lwS W D s j n x = fst8 (fun y => decide (D y = j ∧ 0 < W s y)) n x := by
  intro n
  induction n with
  | zero => intro x; rfl
  | succ n ih =>
    intro x
    unfold lwS fst8
    rw [ih (x + 1)]
    by_cases c : D x = j ∧ 0 < W s x
    · rw [if_pos c, if_pos (decide_eq_true c)]
    · rw [if_neg c, if_neg (by rw [decide_eq_false c]; decide)]
theorem sfS_spec {W : Nat → Nat → Nat} {D : Nat → Nat} {s : Nat} : ∀ (n x m : Nat),
    (∀ y, x ≤ y → y < x + n → 0 < D y → 0 < W s y → 0 < sfS W D s n x m ∧ sfS W D s n x m ≤ D y + 1) ∧ (0 < m → 0 < sfS W D s n x m ∧ sfS W D s n x m ≤ m) ∧
    (0 < sfS W D s n x m → sfS W D s n x m = m ∨ ∃ y, x ≤ y ∧ y < x + n ∧ 0 < D y ∧ 0 < W s y ∧ sfS W D s n x m = D y + 1) := by
  intro n
  induction n with
  | zero => intro x m; exact ⟨fun y a b => by omega, fun h => ⟨h, Nat.le_refl _⟩, fun _ => Or.inl rfl⟩
  | succ n ih =>
    intro x m
    unfold sfS
    by_cases c : D x = 0 ∨ W s x = 0
    · rw [if_pos c]
      obtain ⟨i1, i2, i3⟩ := ih (x + 1) m
      refine ⟨fun y a b h1 h2 => i1 y (by
        have : x ≠ y := fun z => by subst z; omega
        omega) (by omega) h1 h2, i2, fun h => ?_⟩
      rcases i3 h with h | ⟨y, a, b, h⟩
      · exact Or.inl h
      · exact Or.inr ⟨y, by omega, by omega, h⟩
    · rw [if_neg c]
      have hm : 0 < mn0 m (D x + 1) ∧ mn0 m (D x + 1) ≤ D x + 1 ∧ (0 < m → mn0 m (D x + 1) ≤ m) ∧ (mn0 m (D x + 1) = m ∨ mn0 m (D x + 1) = D x + 1) := by
        unfold mn0; split
        · refine ⟨by omega, by omega, fun h => by omega, Or.inr rfl⟩
        · split
          · exact ⟨by omega, by omega, fun _ => Nat.le_refl _, Or.inl rfl⟩
          · exact ⟨by omega, by omega, fun _ => by omega, Or.inr rfl⟩
      obtain ⟨i1, i2, i3⟩ := ih (x + 1) (mn0 m (D x + 1))
      have i2 := i2 hm.1
      refine ⟨fun y a b h1 h2 => ?_, fun h => ⟨i2.1, by have := hm.2.2.1 h; omega⟩, fun h => ?_⟩
      · by_cases z : y = x
        · subst z; exact ⟨i2.1, by omega⟩
        · exact i1 y (by omega) (by omega) h1 h2
      · rcases i3 h with h | ⟨y, a, b, h⟩
        · rcases hm.2.2.2 with e | e
          · exact Or.inl (h.trans e)
          · exact Or.inr ⟨x, by omega, by omega, by omega, by omega, h.trans e⟩
        · exact Or.inr ⟨y, by omega, by omega, h⟩

/- the length of the shortest ring from one pupil -/
def LX (W : Nat → Nat → Nat) (s L : Nat) : Prop :=
  (0 < L → ∃ y k, s < y ∧ y < 8 ∧ 0 < W s y ∧ Bk W s s k y ∧ L = k + 1) ∧ ∀ y k, s < y → y < 8 → 0 < W s y → Bk W s s k y → 0 < L ∧ L ≤ k + 1
theorem DX_L {W : Nat → Nat → Nat} {D : Nat → Nat} {s : Nat} (hs : s < 8) (h : DX W s s D) : LX W s (sfS W D s (7 - s) (s + 1) 0) := by
  obtain ⟨i1, _, i3⟩ := sfS_spec (W := W) (D := D) (s := s) (7 - s) (s + 1) 0
  refine ⟨fun hp => ?_, fun y k a b c d => ?_⟩
  · rcases i3 hp with e | ⟨y, a, b, c, d, e⟩
    · omega
    · exact ⟨y, D y, by omega, by omega, d, (h.2 y (by omega) (by omega)).1 c, e⟩
  · obtain ⟨x1, x2⟩ := (h.2 y b (by omega)).2 k d
    obtain ⟨y1, y2⟩ := i1 y (by omega) (by omega) x1 c
    exact ⟨y1, by omega⟩
theorem q_len {W : Nat → Nat → Nat} {s : Nat} (hs : s < 8) {w : St} (hW : ∀ d c, d < 8 → c < 8 → w 1 (8 * d + c) = nI (W d c)) (hb : ∀ d c, d < 8 → c < 8 → W d c ≤ 1000) :
    ∃ w' L, X3_measureSteps w (nI s) (nI s) = some w' ∧ X3_shortestFrom w' (nI s) = some (nI L) ∧ LX W s L ∧ L < 2 ^ 30 + 1 ∧ (∀ r, r ≠ 2 → r ≠ 3 → w' r = w r) := by
  obtain ⟨w', D, e, hx, h2, hd, hr⟩ := q_ms hs hs hW hb
  have hW' : ∀ d c, d < 8 → c < 8 → w' 1 (8 * d + c) = nI (W d c) := fun d c a b => by rw [hr 1 (by decide) (by decide)]; exact hW d c a b
  have e2 := q_sf hs hW' hb h2 hd (7 - s) FU (s + 1) 0 (by show _ < 2000; omega) (by omega) (by decide)
  have hL := DX_L hs hx
  refine ⟨w', _, e, ?_, hL, ?_, hr⟩
  · rw [X3_shortestFrom, q_1]; exact e2
  · rcases Nat.eq_zero_or_pos (sfS W D s (7 - s) (s + 1) 0) with z | z
    · rw [z]; decide
    · rcases (sfS_spec (W := W) (D := D) (s := s) (7 - s) (s + 1) 0).2.2 z with z | ⟨y, a, b, c, d, e⟩
      · rw [z]; decide
      · have := hd y (by omega); omega

/- the start of the next ring: class -/
/- best start so far: x3 (none = -1), its length in 99 4 -/
def BS (W : Nat → Nat → Nat) (x : Nat) (o : Option Nat) (len : Nat) : Prop :=
  match o with
  | none => len = 0 ∧ ∀ s, s < x → LX W s 0
  | some b => b < x ∧ 0 < len ∧ LX W b len ∧ (∀ s, s < b → ∀ L, LX W s L → 0 < L → len < L) ∧ ∀ s, s < x → ∀ L, LX W s L → 0 < L → len ≤ L
theorem LX.uniq {W : Nat → Nat → Nat} {s L M : Nat} (h : LX W s L) (k : LX W s M) : L = M := by
  have f : ∀ A B, LX W s A → LX W s B → 0 < A → 0 < B ∧ B ≤ A := by
    intro A B a b p
    obtain ⟨y, k, h1, h2, h3, h4, h5⟩ := a.1 p
    obtain ⟨q1, q2⟩ := b.2 y k h1 h2 h3 h4
    exact ⟨q1, by omega⟩
  rcases Nat.eq_zero_or_pos L with z | z
  · rcases Nat.eq_zero_or_pos M with z' | z'
    · omega
    · have := f M L k h z'; omega
  · have h1 := f L M h k z
    have h2 := f M L k h h1.1
    omega
theorem BS.skip {W : Nat → Nat → Nat} {x : Nat} {o : Option Nat} {len L : Nat} (h : BS W x o len) (hL : LX W x L) (c : L = 0 ∨ (∃ b, o = some b ∧ len ≤ L)) : BS W (x + 1) o len := by
  cases o with
  | none =>
    obtain ⟨h1, h2⟩ := h
    refine ⟨h1, fun s hs => ?_⟩
    by_cases z : s = x
    · subst z
      rcases c with c | ⟨b, e, _⟩
      · rw [← c]; exact hL
      · cases e
    · exact h2 s (by omega)
  | some b =>
    obtain ⟨h1, h2, h3, h4, h5⟩ := h
    refine ⟨by omega, h2, h3, h4, fun s hs M hM hp => ?_⟩
    by_cases z : s = x
    · subst z
      have := hM.uniq hL
      rcases c with c | ⟨_, _, c⟩ <;> omega
    · exact h5 s (by omega) M hM hp
theorem BS.put {W : Nat → Nat → Nat} {x : Nat} {o : Option Nat} {len L : Nat} (h : BS W x o len) (hL : LX W x L) (hp : 0 < L) (c : o = none ∨ L < len) : BS W (x + 1) (some x) L := by
  cases o with
  | none =>
    obtain ⟨h1, h2⟩ := h
    refine ⟨by omega, hp, hL, fun s hs M hM hm => ?_, fun s hs M hM hm => ?_⟩
    · have := hM.uniq (h2 s hs); omega
    · by_cases z : s = x
      · subst z; have := hM.uniq hL; omega
      · have := hM.uniq (h2 s (by omega)); omega
  | some b =>
    obtain ⟨h1, h2, h3, h4, h5⟩ := h
    rcases c with c | c
    · cases c
    refine ⟨by omega, hp, hL, fun s hs M hM hm => ?_, fun s hs M hM hm => ?_⟩
    · have := h5 s hs M hM hm; omega
    · by_cases z : s = x
      · subst z; have := hM.uniq hL; omega
      · have := h5 s (by omega) M hM hm; omega

/- findNext: the loop over the starts -/
theorem q_l16 {W : Nat → Nat → Nat} (hb : ∀ d c, d < 8 → c < 8 → W d c ≤ 1000) (v : St) (kd : Int32) : ∀ (n fu x : Nat) (o : Option Nat) (len : Nat) (u : St), n < fu → x + n = 8 → BS W x o len → len < 2 ^ 30 + 1 →
    (∀ d c, d < 8 → c < 8 → u 1 (8 * d + c) = nI (W d c)) → u 99 4 = nI len → (∀ b, o = some b → b < 8) →
    ∃ u' o' len', X3_findNext_l16 v kd fu u (oI o) (nI x) = X3_findNext_b72 v kd u' (oI o') ∧ BS W 8 o' len' ∧ len' < 2 ^ 30 + 1 ∧ (∀ d c, d < 8 → c < 8 → u' 1 (8 * d + c) = nI (W d c)) ∧ u' 99 4 = nI len' := by
  intro n
  induction n with
  | zero =>
    intro fu x o len u hf hx B hl hW h4 _
    obtain ⟨fu, rfl⟩ : ∃ f, fu = f + 1 := ⟨fu - 1, by omega⟩
    have : x = 8 := by omega
    subst this
    exact ⟨u, o, len, by rw [X3_findNext_l16, if_pos (by decide)], B, hl, hW, h4⟩
  | succ n ih =>
    intro fu x o len u hf hx B hl hW h4 ho
    obtain ⟨fu, rfl⟩ : ∃ f, fu = f + 1 := ⟨fu - 1, by omega⟩
    have hcmp : ¬ (8 : Int32) ≤ nI x := by
      have : ¬ nI 8 ≤ nI x := by rw [q_le (by decide) (by omega)]; omega
      exact this
    obtain ⟨w, L, e1, e2, hL, hl2, hr⟩ := q_len (s := x) (by omega) hW hb
    have hW' : ∀ d c, d < 8 → c < 8 → w 1 (8 * d + c) = nI (W d c) := fun d c a b => by rw [hr 1 (by decide) (by decide)]; exact hW d c a b
    have h4' : w 99 4 = nI len := by rw [hr 99 (by decide) (by decide)]; exact h4
    have hL0 : (nI L ≤ (0 : Int32)) = (L ≤ 0) := q_le (b := 0) (by omega) (by decide)
    rw [X3_findNext_l16, if_neg hcmp, e1, Option.bind_some, e2, Option.bind_some, q_1]
    by_cases c1 : L = 0
    · rw [if_pos (show nI L ≤ (0 : Int32) by rw [hL0]; omega)]
      exact ih fu (x + 1) o len w (by omega) (by omega) (B.skip hL (Or.inl c1)) hl hW' h4' ho
    · rw [if_neg (show ¬ nI L ≤ (0 : Int32) by rw [hL0]; omega)]
      have take : (o = none ∨ L < len) → ∃ u' o' len', X3_findNext_b57 v kd (X3_findNext_l16 v kd fu) w (nI x) (nI L) = X3_findNext_b72 v kd u' (oI o') ∧ BS W 8 o' len' ∧ len' < 2 ^ 30 + 1 ∧ (∀ d c, d < 8 → c < 8 → u' 1 (8 * d + c) = nI (W d c)) ∧ u' 99 4 = nI len' := by
        intro c
        rw [X3_findNext_b57, q_1]
        exact ih fu (x + 1) (some x) L (setI w 4 (nI L)) (by omega) (by omega) (B.put hL (by omega) c) hl2 (fun d c a b => by rw [setI_r (by decide)]; exact hW' d c a b) setI_s (fun b e => by cases e; omega)
      cases o with
      | none => rw [if_pos (show oI none < 0 by decide)]; exact take (Or.inl rfl)
      | some b =>
        rw [if_neg (show ¬ oI (some b) < 0 from nI_pos (by have := ho b rfl; omega)), h4']
        have hc : (nI len ≤ nI L) = (len ≤ L) := q_le (by omega) (by omega)
        by_cases c2 : len ≤ L
        · rw [if_pos (hc.mpr c2)]
          exact ih fu (x + 1) (some b) len w (by omega) (by omega) (B.skip hL (Or.inr ⟨b, rfl, c2⟩)) hl hW' h4' ho
        · rw [if_neg (fun z => c2 (hc.mp z))]
          exact take (Or.inr (by omega))

/- the next ring: length and pupils, as the document says -/
def FstP (p : Nat → Prop) (x : Nat) : Prop := x < 8 ∧ p x ∧ ∀ y, y < x → ¬ p y
theorem FstP.uniq {p : Nat → Prop} {x y : Nat} (h : FstP p x) (k : FstP p y) : x = y := by
  rcases Nat.lt_trichotomy x y with z | z | z
  · exact absurd h.2.1 (k.2.2 x z)
  · exact z
  · exact absurd k.2.1 (h.2.2 y z)
def stepR (W : Nat → Nat → Nat) (s L i p x : Nat) : Prop := FstP (fun y => Bk W s s (L - (i + 1)) y ∧ 0 < W p y) x
def Ring (W : Nat → Nat → Nat) (L : Nat) (P : Nat → Nat) : Prop :=
  (L = 0 ∧ ∀ s, s < 8 → LX W s 0) ∨ (0 < L ∧ BS W 8 (some (P 0)) L ∧ ∀ i, i + 1 < L → stepR W (P 0) L i (P i) (P (i + 1)))
theorem Ring.uniq {W : Nat → Nat → Nat} {L M : Nat} {P Q : Nat → Nat} (h : Ring W L P) (k : Ring W M Q) : L = M ∧ ∀ i, i < L → P i = Q i := by
  rcases h with ⟨h1, h2⟩ | ⟨h1, ⟨h2, _, h3, h4, h5⟩, h6⟩
  · rcases k with ⟨k1, k2⟩ | ⟨k1, ⟨k2, _, k3, k4, k5⟩, k6⟩
    · exact ⟨by omega, fun i hi => by omega⟩
    · have := k3.uniq (h2 _ k2); omega
  · rcases k with ⟨k1, k2⟩ | ⟨k1, ⟨k2, _, k3, k4, k5⟩, k6⟩
    · have := h3.uniq (k2 _ h2); omega
    · have e0 : P 0 = Q 0 := by
        rcases Nat.lt_trichotomy (P 0) (Q 0) with z | z | z
        · have := k4 _ z _ h3 h1
          have := h5 _ k2 _ k3 k1
          omega
        · exact z
        · have := h4 _ z _ k3 k1
          have := k5 _ h2 _ h3 h1
          omega
      have eL : L = M := h3.uniq (by rw [e0]; exact k3)
      subst eL
      refine ⟨rfl, fun i => ?_⟩
      induction i with
      | zero => intro _; exact e0
      | succ i ih =>
        intro hi
        have a := h6 i hi
        have b := k6 i hi
        rw [ih (by omega), e0] at a
        exact FstP.uniq a b
/- the path, by the class's distances -/
def okP (W : Nat → Nat → Nat) (D : Nat → Nat) (s L i p : Nat) : Prop := p < 8 ∧ ((i = 0 ∧ p = s) ∨ (0 < i ∧ Bk W s s (L - i) p ∧ D p = L - i))
theorem pth_iff {W : Nat → Nat → Nat} {D : Nat → Nat} {s L i p : Nat} (hs : s < 8) (hx : DX W s s D) (hL : LX W s L) (hi : i + 1 < L) (hp : okP W D s L i p) {y : Nat} (hy : y < 8) (hw : 0 < W p y) :
    D y = L - (i + 1) ↔ Bk W s s (L - (i + 1)) y := by
  obtain ⟨j, hj⟩ : ∃ j, L - (i + 1) = j + 1 := ⟨L - (i + 1) - 1, by omega⟩
  rw [hj]
  constructor
  · intro e
    have hys : y ≠ s := fun z => by subst z; have := hx.1; omega
    have := (hx.2 y hy hys).1 (by omega)
    rw [e] at this; exact this
  · intro b
    have hys : y ≠ s := b.2.2.1
    have hsy : s < y := by have := b.1; omega
    obtain ⟨h1, h2⟩ := (hx.2 y hy hys).2 _ b
    have hbk := (hx.2 y hy hys).1 h1
    rcases hp.2 with ⟨z, rfl⟩ | ⟨z, hb, hd⟩
    · have := (hL.2 y (D y) hsy hy hw hbk).2
      omega
    · obtain ⟨k, hk⟩ : ∃ k, L - i = k + 1 := ⟨L - i - 1, by omega⟩
      rw [hk] at hb
      have hb2 : Bk W s s (D y + 1) p := ⟨hb.1, hb.2.1, hb.2.2.1, y, hy, hw, hbk⟩
      have := ((hx.2 p hp.1 hb.2.2.1).2 _ hb2).2
      omega
theorem pth_step {W : Nat → Nat → Nat} {D : Nat → Nat} {s L i p : Nat} (hs : s < 8) (hx : DX W s s D) (hL : LX W s L) (hi : i + 1 < L) (hp : okP W D s L i p) :
    ∃ x, lwS W D p (L - (i + 1)) 8 0 = some x ∧ stepR W s L i p x ∧ okP W D s L (i + 1) x := by
  have ex : ∃ y, y < 8 ∧ 0 < W p y ∧ Bk W s s (L - (i + 1)) y := by
    rcases hp.2 with ⟨z, rfl⟩ | ⟨z, hb, hd⟩
    · obtain ⟨y, k, h1, h2, h3, h4, h5⟩ := hL.1 (by omega)
      exact ⟨y, h2, h3, by subst z; rw [h5]; exact h4⟩
    · obtain ⟨k, hk⟩ : ∃ k, L - i = k + 1 := ⟨L - i - 1, by omega⟩
      rw [hk] at hb
      obtain ⟨_, _, _, y, h1, h2, h3⟩ := hb
      exact ⟨y, h1, h2, by rw [show L - (i + 1) = k by omega]; exact h3⟩
  obtain ⟨y, y1, y2, y3⟩ := ex
  have ey := (pth_iff hs hx hL hi hp y1 y2).mpr y3
  rw [lwS_fst8]
  obtain ⟨z, z1, z2, z3, z4⟩ := fst8_some (p := fun y => decide (D y = L - (i + 1) ∧ 0 < W p y)) 8 0 y (by omega) (by omega) (decide_eq_true ⟨ey, y2⟩)
  have z2 := of_decide_eq_true z2
  have z8 : z < 8 := by omega
  have zb := (pth_iff hs hx hL hi hp z8 z2.2).mp z2.1
  refine ⟨z, z1, ⟨z8, ⟨zb, z2.2⟩, fun u hu hb => ?_⟩, z8, Or.inr ⟨by omega, zb, z2.1⟩⟩
  have eu := (pth_iff hs hx hL hi hp (by omega) hb.2).mpr hb.1
  obtain ⟨z', a1, a2, a3, a4⟩ := fst8_some (p := fun y => decide (D y = L - (i + 1) ∧ 0 < W p y)) 8 0 u (by omega) (by omega) (decide_eq_true ⟨eu, hb.2⟩)
  rw [z1] at a1
  have := Option.some.inj a1
  omega
/- no distance beyond 7 -/
theorem DX_path {W : Nat → Nat → Nat} {D : Nat → Nat} {lo t : Nat} (ht : t < 8) (hx : DX W lo t D) : ∀ (k x : Nat), x < 8 → D x = k → (k = 0 → x = t) → ∃ Q : List Nat, Q.Nodup ∧ (∀ q ∈ Q, q < 8) ∧ Q.length = k + 1 ∧ ∀ q ∈ Q, D q ≤ k := by
  intro k
  induction k with
  | zero =>
    intro x hx8 hk h0
    exact ⟨[x], by simp, fun q hq => by rw [List.mem_singleton] at hq; omega, rfl, fun q hq => by rw [List.mem_singleton] at hq; subst hq; omega⟩
  | succ k ih =>
    intro x hx8 hk _
    have hxt : x ≠ t := fun z => by subst z; have := hx.1; omega
    have hb := (hx.2 x hx8 hxt).1 (by omega)
    rw [hk] at hb
    obtain ⟨a1, a2, a3, y, y1, y2, y3⟩ := hb
    have hy : D y = k ∧ (k = 0 → y = t) := by
      by_cases e : y = t
      · subst e
        have b1 : Bk W lo y 1 x := ⟨a1, a2, a3, y, y1, y2, rfl⟩
        have := ((hx.2 x hx8 hxt).2 1 b1).2
        have := hx.1
        exact ⟨by omega, fun _ => rfl⟩
      · obtain ⟨p1, p2⟩ := (hx.2 y y1 e).2 k y3
        have b1 : Bk W lo t (D y + 1) x := ⟨a1, a2, a3, y, y1, y2, (hx.2 y y1 e).1 p1⟩
        have := ((hx.2 x hx8 hxt).2 _ b1).2
        exact ⟨by omega, fun z => by omega⟩
    obtain ⟨Q, q1, q2, q3, q4⟩ := ih y y1 hy.1 hy.2
    refine ⟨x :: Q, List.nodup_cons.mpr ⟨fun z => by have := q4 x z; omega, q1⟩, fun q hq => ?_, by rw [List.length_cons, q3], fun q hq => ?_⟩
    · rcases List.mem_cons.mp hq with rfl | hq
      · exact hx8
      · exact q2 q hq
    · rcases List.mem_cons.mp hq with rfl | hq
      · omega
      · have := q4 q hq; omega
theorem DX_le {W : Nat → Nat → Nat} {D : Nat → Nat} {lo t : Nat} (ht : t < 8) (hx : DX W lo t D) {x : Nat} (hx8 : x < 8) : D x ≤ 7 := by
  rcases Nat.eq_zero_or_pos (D x) with z | z
  · omega
  · obtain ⟨Q, q1, q2, q3, _⟩ := DX_path ht hx (D x) x hx8 rfl (fun e => by omega)
    have := nodup_len 8 Q q1 q2
    omega
theorem DX_ex {W : Nat → Nat → Nat} {lo t : Nat} (hlo : lo < 8) (ht : t < 8) (hb : ∀ d c, d < 8 → c < 8 → W d c ≤ 1000) : ∃ D, DX W lo t D := by
  obtain ⟨w', D, _, h, _⟩ := q_ms (W := W) hlo ht (w := setA (fun _ _ => 0) 1 (fun i => nI (W (i / 8) (i % 8)))) (fun d c hd hc => by
    rw [q_sA]
    show nI (W ((8 * d + c) / 8) ((8 * d + c) % 8)) = _
    rw [show (8 * d + c) / 8 = d by omega, show (8 * d + c) % 8 = c by omega]) hb
  exact ⟨D, h⟩
theorem LX.le {W : Nat → Nat → Nat} {s L : Nat} (hs : s < 8) (hb : ∀ d c, d < 8 → c < 8 → W d c ≤ 1000) (h : LX W s L) : L ≤ 8 := by
  rcases Nat.eq_zero_or_pos L with z | z
  · omega
  · obtain ⟨y, k, h1, h2, h3, h4, h5⟩ := h.1 z
    obtain ⟨D, hx⟩ := DX_ex (W := W) hs hs hb
    obtain ⟨p1, p2⟩ := (hx.2 y h2 (by omega)).2 k h4
    have := (h.2 y (D y) h1 h2 h3 ((hx.2 y h2 (by omega)).1 p1)).2
    have := DX_le hs hx h2
    omega
theorem LX.ge {W : Nat → Nat → Nat} {s L : Nat} (h : LX W s L) (hL : 0 < L) : 2 ≤ L := by
  obtain ⟨y, k, h1, h2, h3, h4, h5⟩ := h.1 hL
  cases k with
  | zero => have : y = s := h4
            omega
  | succ k => omega

/- the next ring: class -/
theorem q_l96 {W : Nat → Nat → Nat} {D : Nat → Nat} {s L : Nat} (hb : ∀ d c, d < 8 → c < 8 → W d c ≤ 1000) (hs : s < 8) (hx : DX W s s D) (hL : LX W s L) (hL8 : L ≤ 8) (v : St) (kd : Int32) :
    ∀ (n fu m : Nat) (P : Nat → Nat) (w : St), n < fu → m + 1 + n = L → (∀ d c, d < 8 → c < 8 → w 1 (8 * d + c) = nI (W d c)) → (∀ x, x < 8 → w 2 x = nI (D x)) → w 99 4 = nI L →
    (∀ j, j ≤ m → w 4 j = nI (P j)) → P 0 = s → (∀ j, j < m → stepR W s L j (P j) (P (j + 1))) → (∀ j, j ≤ m → okP W D s L j (P j)) →
    ∃ (w' : St) (Q : Nat → Nat), X3_findNext_l96 v kd fu w (nI (m + 1)) = some (1, w') ∧ (∀ j, j < L → w' 4 j = nI (Q j)) ∧ Q 0 = s ∧ (∀ j, j + 1 < L → stepR W s L j (Q j) (Q (j + 1))) ∧ (∀ j, j < L → okP W D s L j (Q j)) ∧ (∀ r, r ≠ 4 → w' r = w r) := by
  intro n
  induction n with
  | zero =>
    intro fu m P w hf hm hW hD h4 hP h0 hS hk
    obtain ⟨fu, rfl⟩ : ∃ f, fu = f + 1 := ⟨fu - 1, by omega⟩
    refine ⟨w, P, ?_, fun j hj => hP j (by omega), h0, fun j hj => hS j (by omega), fun j hj => hk j (by omega), fun _ _ => rfl⟩
    rw [X3_findNext_l96, h4, if_pos (by rw [q_le (by omega) (by omega)]; omega)]
  | succ n ih =>
    intro fu m P w hf hm hW hD h4 hP h0 hS hk
    obtain ⟨fu, rfl⟩ : ∃ f, fu = f + 1 := ⟨fu - 1, by omega⟩
    obtain ⟨x, x1, x2, x3⟩ := pth_step hs hx hL (by omega) (hk m (Nat.le_refl _))
    have x8 : x < 8 := x2.1
    have hp8 : P m < 8 := (hk m (Nat.le_refl _)).1
    have e1 : X3_nextPupil w (nI (m + 1) - (1 : Int32)) = some (nI (P m)) := by
      rw [nI_pred, X3_nextPupil, q_at (by omega) (by decide), Option.bind_some, hP m (Nat.le_refl _)]
    have e2 : X3_lowestBehind w (nI (P m)) (nI L - nI (m + 1)) = some (nI x) := by
      rw [q_sub (by omega), X3_lowestBehind]
      have e : X3_lowestBehind_l2 w (nI (P m)) (nI (L - (m + 1))) FU (0 : Int32) = some (oI (lwS W D (P m) (L - (m + 1)) 8 0)) := q_lw hp8 (by omega) hW hb hD (fun y hy => by have := DX_le hs hx hy; omega) 8 FU 0 (by decide) (by omega)
      rw [e, x1]; rfl
    have ec : ¬ nI L ≤ nI (m + 1) := by rw [q_le (by omega) (by omega)]; omega
    rw [X3_findNext_l96, h4, if_neg ec, e1, Option.bind_some, e2, Option.bind_some, q_put (by omega) (by decide), Option.bind_some, q_1]
    obtain ⟨w', Q, a1, a2, a3, a4, a5, a6⟩ := ih fu (m + 1) (updN P (m + 1) x) (setA w 4 (upd (w 4) (m + 1) (nI x))) (by omega) (by omega)
      (fun d c hd hc => by rw [q_sN w _ (by decide)]; exact hW d c hd hc) (fun y hy => by rw [q_sN w _ (by decide)]; exact hD y hy) (by rw [q_sN w _ (by decide)]; exact h4)
      (fun j hj => by
        rw [q_sA]
        by_cases z : j = m + 1
        · subst z; rw [q_up]; unfold updN; rw [if_pos rfl]
        · rw [q_un z, hP j (by omega)]; unfold updN; rw [if_neg z])
      (by unfold updN; rw [if_neg (by omega)]; exact h0)
      (fun j hj => by
        have z : j ≠ m + 1 := by omega
        unfold updN; rw [if_neg z]
        by_cases z2 : j = m
        · subst z2; rw [if_pos rfl]; exact x2
        · rw [if_neg (by omega)]; exact hS j (by omega))
      (fun j hj => by
        unfold updN
        by_cases z : j = m + 1
        · subst z; rw [if_pos rfl]; exact x3
        · rw [if_neg z]; exact hk j (by omega))
    exact ⟨w', Q, a1, a2, a3, a4, a5, fun r hr => (a6 r hr).trans (q_sN w _ hr)⟩
theorem WN_le {a : AS} (ho : OK a) (kd : Int32) : ∀ d c, d < 8 → c < 8 → WN kd a.1 d c ≤ 1000 := fun d c _ _ => by
  have := sumN_le (P := mtE (nI d) (nI c) kd) ho.okN
  have := ho.1
  show sumN (mtE (nI d) (nI c) kd) a.1 ≤ 1000
  omega
/- what a pupil's place on the ring is -/
theorem c_next {v : St} {a : AS} (h : RC v a) (ho : OK a) (vR : St) {kd : Int32} (hkd : kd ≠ -1) :
    ∃ (w : St) (L : Nat) (P : Nat → Nat), X3_findNext vR v kd = some ((if L = 0 then 0 else 1), w) ∧ Ring (WN kd a.1) L P ∧ L ≤ 8 ∧ w 99 4 = nI L ∧ (∀ j, j < L → P j < 8 ∧ w 4 j = nI (P j)) ∧ (∀ d c, d < 8 → c < 8 → w 1 (8 * d + c) = nI (WN kd a.1 d c)) := by
  have hb := WN_le ho kd
  obtain ⟨u, u1, u2, u3⟩ := c_read h ho vR hkd
  obtain ⟨u', o', len', e, B, hl, hW, h4⟩ := q_l16 hb v kd 8 FU 0 none 0 (setI u 4 (0 : Int32)) (by decide) (by omega) ⟨rfl, fun s hs => by omega⟩ (by decide) (fun d c hd hc => by rw [setI_r (by decide)]; exact u3 d c hd hc) setI_s (fun b z => by cases z)
  have e0 : X3_findNext vR v kd = X3_findNext_b72 v kd u' (oI o') := by
    rw [X3_findNext, u1, Option.bind_some]; exact e
  rw [e0]
  cases o' with
  | none =>
    obtain ⟨b1, b2⟩ := B
    subst b1
    exact ⟨u', 0, fun _ => 0, by rw [X3_findNext_b72, if_neg (by decide)]; rfl, Or.inl ⟨rfl, b2⟩, by omega, h4, fun j hj => by omega, hW⟩
  | some s =>
    obtain ⟨b1, b2, b3, b4, b5⟩ := B
    obtain ⟨u6, D, f1, hx, f2, f3, f4⟩ := q_ms (lo := s) (t := s) b1 b1 hW hb
    have hL8 := b3.le b1 hb
    have h0 : (0 : Int32) ≤ nI s := by
      have : nI 0 ≤ nI s := by rw [q_le (by decide) (by omega)]; omega
      exact this
    have ep : X4_put (u6 4) 8 (0 : Int32) (nI s) = some (upd (u6 4) 0 (nI s)) := q_put (k := 0) (by decide) (by decide)
    obtain ⟨w', Q, a1, a2, a3, a4, a5, a6⟩ := q_l96 hb b1 hx b3 hL8 v kd (len' - 1) FU 0 (fun _ => s) (setA u6 4 (upd (u6 4) 0 (nI s))) (by show _ < 2000; omega) (by omega)
      (fun d c hd hc => by rw [q_sN _ _ (by decide), f4 1 (by decide) (by decide)]; exact hW d c hd hc) (fun x hx => by rw [q_sN _ _ (by decide)]; exact f2 x hx)
      (by rw [q_sN _ _ (by decide), f4 99 (by decide) (by decide)]; exact h4)
      (fun j hj => by have : j = 0 := by omega
                      subst this; rw [q_sA, q_up]) rfl (fun j hj => by omega)
      (fun j hj => by have : j = 0 := by omega
                      subst this; exact ⟨b1, Or.inl ⟨rfl, rfl⟩⟩)
    refine ⟨w', len', Q, ?_, Or.inr ⟨b2, ?_, ?_⟩, hL8, ?_, fun j hj => ⟨(a5 j hj).1, a2 j hj⟩, fun d c hd hc => ?_⟩
    · show X3_findNext_b72 v kd u' (nI s) = _
      rw [X3_findNext_b72, if_pos h0, f1, Option.bind_some, ep, Option.bind_some, if_neg (show ¬ len' = 0 by omega)]
      exact a1
    · rw [a3]; exact ⟨b1, b2, b3, b4, b5⟩
    · rw [a3]; exact a4
    · rw [a6 99 (by decide), q_sN _ _ (by decide), f4 99 (by decide) (by decide)]; exact h4
    · rw [a6 1 (by decide), q_sN _ _ (by decide), f4 1 (by decide) (by decide)]; exact hW d c hd hc


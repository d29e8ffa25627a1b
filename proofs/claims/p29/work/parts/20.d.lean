/- the law's search for the next ring: all rows of pupils, the least ones first -/
def Wlk (W : Nat → Nat → Nat) (s L : Nat) (w : Nat → Nat) : Prop :=
  w 0 = s ∧ (∀ i, 0 < i → i < L → s < w i ∧ w i < 8) ∧ (∀ i, i + 1 < L → 0 < W (w i) (w (i + 1))) ∧ 0 < W (w (L - 1)) s
def Row (W : Nat → Nat → Nat) (s L : Nat) (w : Nat → Nat) : Prop := Wlk W s L w ∧ ∀ i j, i < j → j < L → w i ≠ w j
theorem Wlk.bk {W : Nat → Nat → Nat} {s L : Nat} {w : Nat → Nat} (h : Wlk W s L w) : ∀ k, 1 ≤ k → k < L → Bk W s s k (w (L - k)) := by
  obtain ⟨h0, h1, h2, h3⟩ := h
  intro k
  induction k with
  | zero => intro z; omega
  | succ k ih =>
    intro _ hk
    obtain ⟨g1, g2⟩ := h1 (L - (k + 1)) (by omega) (by omega)
    rcases Nat.eq_zero_or_pos k with z | z
    · subst z
      refine ⟨by omega, g2, by omega, s, by omega, h3, rfl⟩
    · obtain ⟨g3, g4⟩ := h1 (L - k) (by omega) (by omega)
      refine ⟨by omega, g2, by omega, w (L - k), g4, ?_, ih z (by omega)⟩
      have := h2 (L - (k + 1)) (by omega)
      rw [show L - (k + 1) + 1 = L - k by omega] at this
      exact this
theorem Wlk.rb {W : Nat → Nat → Nat} {s L : Nat} {w : Nat → Nat} (h : Wlk W s L w) (hL : 2 ≤ L) : RB W s L := by
  have hb := h.bk (L - 1) (by omega) (by omega)
  rw [show L - (L - 1) = 1 by omega] at hb
  have h2 := h.2.2.1 0 (by omega)
  rw [h.1] at h2
  exact ⟨w 1, (h.2.1 1 (by omega) (by omega)).2, h2, hb⟩
theorem Wlk.dist {W : Nat → Nat → Nat} {s L : Nat} {w : Nat → Nat} (h : Wlk W s L w) (hm : ∀ l, 2 ≤ l → l < L → ¬ RB W s l) : ∀ i j, i < j → j < L → w i ≠ w j := by
  intro i j hij hj e
  obtain ⟨h0, h1, h2, h3⟩ := id h
  rcases Nat.eq_zero_or_pos i with z | z
  · subst z
    have := (h1 j (by omega) hj).1
    omega
  · have hb := h.bk (L - j) (by omega) (by omega)
    rw [show L - (L - j) = j by omega, ← e] at hb
    have key : ∀ m, m + 1 ≤ i → Bk W s s (L - j + m) (w (i - m)) := by
      intro m
      induction m with
      | zero => intro _; exact hb
      | succ m ih =>
        intro hmi
        obtain ⟨g1, g2⟩ := h1 (i - (m + 1)) (by omega) (by omega)
        refine ⟨by omega, g2, by omega, w (i - m), (h1 (i - m) (by omega) (by omega)).2, ?_, ih (by omega)⟩
        have := h2 (i - (m + 1)) (by omega)
        rw [show i - (m + 1) + 1 = i - m by omega] at this
        exact this
    have hk := key (i - 1) (by omega)
    rw [show i - (i - 1) = 1 by omega] at hk
    have h21 := h2 0 (by omega)
    rw [h0] at h21
    exact hm (L - j + i) (by omega) (by omega) ⟨w 1, (h1 1 (by omega) (by omega)).2, h21, by rw [show L - j + i - 1 = L - j + (i - 1) by omega]; exact hk⟩
theorem bk_path {W : Nat → Nat → Nat} {s : Nat} : ∀ (k x : Nat), Bk W s s k x → 1 ≤ k → ∃ w : Nat → Nat, w 0 = x ∧ (∀ i, i < k → s < w i ∧ w i < 8) ∧ (∀ i, i + 1 < k → 0 < W (w i) (w (i + 1))) ∧ 0 < W (w (k - 1)) s := by
  intro k
  induction k with
  | zero => intro x _ z; omega
  | succ k ih =>
    intro x h _
    obtain ⟨h1, h2, h3, y, h4, h5, h6⟩ := h
    rcases Nat.eq_zero_or_pos k with z | z
    · subst z
      have : y = s := h6
      subst this
      exact ⟨fun _ => x, rfl, fun i _ => ⟨show y < x by omega, h2⟩, fun i hi => absurd hi (by omega), h5⟩
    · obtain ⟨w, a1, a2, a3, a4⟩ := ih y h6 z
      refine ⟨fun i => match i with
        | 0 => x
        | i + 1 => w i, rfl, fun i hi => ?_, fun i hi => ?_, ?_⟩
      · cases i with
        | zero => exact ⟨show s < x by omega, h2⟩
        | succ i => exact a2 i (by omega)
      · cases i with
        | zero => show 0 < W x (w 0); rw [a1]; exact h5
        | succ i => exact a3 i (by omega)
      · obtain ⟨k', rfl⟩ : ∃ k', k = k' + 1 := ⟨k - 1, by omega⟩
        exact a4
theorem RB.wlk {W : Nat → Nat → Nat} {s L : Nat} (h : RB W s L) (hL : 2 ≤ L) : ∃ w, Wlk W s L w := by
  obtain ⟨y, h1, h2, h3⟩ := h
  obtain ⟨w, a1, a2, a3, a4⟩ := bk_path (L - 1) y h3 (by omega)
  refine ⟨fun i => match i with
    | 0 => s
    | i + 1 => w i, rfl, fun i h0 hi => ?_, fun i hi => ?_, ?_⟩
  · cases i with
    | zero => omega
    | succ i => exact a2 i (by omega)
  · cases i with
    | zero => show 0 < W s (w 0); rw [a1]; exact h2
    | succ i => exact a3 i (by omega)
  · obtain ⟨L', rfl⟩ : ∃ L', L = L' + 2 := ⟨L - 2, by omega⟩
    exact a4
/- no rows at all, no rings at all -/
theorem noRB {W : Nat → Nat → Nat} {L : Nat} (h : ∀ s, s < 8 → ∀ l, 2 ≤ l → l < L → ∀ w, ¬ Row W s l w) : ∀ n s, s < 8 → ∀ l, l ≤ n → 2 ≤ l → l < L → ¬ RB W s l := by
  intro n
  induction n with
  | zero => intro s _ l h1 h2; omega
  | succ n ih =>
    intro s hs l h1 h2 h3 hb
    obtain ⟨w, hw⟩ := hb.wlk h2
    exact h s hs l h2 h3 w ⟨hw, hw.dist (fun l' a b => ih s hs l' (by omega) a (by omega))⟩
/- the least row is the next ring -/
theorem Row.ring {W : Nat → Nat → Nat} {s L : Nat} {r : Nat → Nat} (hs : s < 8) (hL : 2 ≤ L) (h : Row W s L r)
    (hmin : ∀ w, Row W s L w → ∀ m, m < L → (∀ i, i < m → w i = r i) → r m ≤ w m)
    (hl : ∀ s', s' < 8 → ∀ l, 2 ≤ l → l < L → ∀ w, ¬ Row W s' l w) (hf : ∀ s', s' < s → ∀ w, ¬ Row W s' L w) : Ring W L r := by
  have nb : ∀ s', s' < 8 → ∀ l, 2 ≤ l → l < L → ¬ RB W s' l := fun s' hs' l a b => noRB hl l s' hs' l (Nat.le_refl _) a b
  obtain ⟨hw, hd⟩ := h
  obtain ⟨h0, h1, h2, h3⟩ := id hw
  have r8 : ∀ i, i < L → r i < 8 := fun i hi => by
    rcases Nat.eq_zero_or_pos i with z | z
    · rw [z, h0]; exact hs
    · exact (h1 i z hi).2
  refine Or.inr ⟨by omega, ?_, fun i hi => ⟨r8 (i + 1) hi, ⟨?_, ?_⟩, fun y hy hc => ?_⟩⟩
  · rw [h0]
    refine BS.ofRB hs hL (hw.rb hL) nb (fun s' hs' hb => ?_)
    obtain ⟨w, hw'⟩ := hb.wlk hL
    exact hf s' hs' w ⟨hw', hw'.dist (nb s' (by omega))⟩
  · rw [h0]
    have := hw.bk (L - (i + 1)) (by omega) (by omega)
    rw [show L - (L - (i + 1)) = i + 1 by omega] at this
    exact this
  · exact h2 i hi
  · rw [h0] at hc
    obtain ⟨hc1, hc2⟩ := hc
    obtain ⟨v, a1, a2, a3, a4⟩ := bk_path (L - (i + 1)) y hc1 (by omega)
    have w' : Wlk W s L (fun j => if j ≤ i then r j else v (j - (i + 1))) := by
      refine ⟨by show (if 0 ≤ i then r 0 else v (0 - (i + 1))) = s; rw [if_pos (Nat.zero_le _)]; exact h0, fun j hj0 hj => ?_, fun j hj => ?_, ?_⟩
      · by_cases c : j ≤ i
        · simp only [if_pos c]; exact h1 j hj0 hj
        · simp only [if_neg c]; exact a2 (j - (i + 1)) (by omega)
      · by_cases c : j + 1 ≤ i
        · simp only [if_pos c, if_pos (show j ≤ i by omega)]; exact h2 j hj
        · by_cases c2 : j = i
          · subst c2
            simp only [if_pos (Nat.le_refl j), if_neg c, Nat.sub_self, a1]
            exact hc2
          · simp only [if_neg c, if_neg (show ¬ j ≤ i by omega)]
            have := a3 (j - (i + 1)) (by omega)
            rw [show j - (i + 1) + 1 = j + 1 - (i + 1) by omega] at this
            exact this
      · simp only [if_neg (show ¬ L - 1 ≤ i by omega)]
        rw [show L - 1 - (i + 1) = L - (i + 1) - 1 by omega]
        exact a4
    have := hmin _ ⟨w', w'.dist (nb s hs)⟩ (i + 1) hi (fun j hj => by simp only [if_pos (show j ≤ i by omega)])
    simp only [if_neg (show ¬ i + 1 ≤ i by omega), Nat.sub_self, a1] at this
    omega
/- what the search has behind it -/
def GT (W : Nat → Nat → Nat) (s L at_ : Nat) (r : Nat → Nat) : Prop := ∀ w, Row W s L w → ∃ m, 1 ≤ m ∧ m ≤ at_ ∧ (∀ i, i < m → w i = r i) ∧ r m < w m
def GE (W : Nat → Nat → Nat) (s L at_ : Nat) (r : Nat → Nat) : Prop := ∀ w, Row W s L w → (∃ m, 1 ≤ m ∧ m ≤ at_ ∧ (∀ i, i < m → w i = r i) ∧ r m < w m) ∨ ∀ i, i ≤ at_ → w i = r i
theorem GT.inc {W : Nat → Nat → Nat} {s L n : Nat} {r : Nat → Nat} (h : GT W s L n r) : GE W s L n (updN r n (r n + 1)) := by
  intro w hw
  obtain ⟨m, h1, h2, h3, h4⟩ := h w hw
  have eq : ∀ i, i ≠ n → updN r n (r n + 1) i = r i := fun i hi => if_neg hi
  have en : updN r n (r n + 1) n = r n + 1 := if_pos rfl
  by_cases c : m = n
  · subst c
    by_cases c2 : w m = r m + 1
    · refine Or.inr (fun i hi => ?_)
      by_cases z : i = m
      · rw [z, en]; exact c2
      · rw [eq i z]; exact h3 i (by omega)
    · exact Or.inl ⟨m, h1, h2, fun i hi => by rw [eq i (by omega)]; exact h3 i hi, by rw [en]; omega⟩
  · exact Or.inl ⟨m, h1, h2, fun i hi => by rw [eq i (by omega)]; exact h3 i hi, by rw [eq m c]; exact h4⟩
theorem GE.gt {W : Nat → Nat → Nat} {s L n : Nat} {r : Nat → Nat} (h : GE W s L n r) (hno : ∀ w, Row W s L w → ¬ ∀ i, i ≤ n → w i = r i) : GT W s L n r := fun w hw => by
  rcases h w hw with g | g
  · exact g
  · exact absurd g (hno w hw)
theorem GE.popd {W : Nat → Nat → Nat} {s L n : Nat} {r : Nat → Nat} (h : GE W s L (n + 1) r) (hn : n + 1 < L) (h7 : 7 < r (n + 1)) : GT W s L n r := fun w hw => by
  have hb := (hw.1.2.1 (n + 1) (by omega) hn).2
  rcases h w hw with ⟨m, h1, h2, h3, h4⟩ | g
  · by_cases c : m = n + 1
    · subst c; omega
    · exact ⟨m, h1, by omega, h3, h4⟩
  · have := g (n + 1) (Nat.le_refl _); omega
theorem GE.pushd {W : Nat → Nat → Nat} {s L n : Nat} {r : Nat → Nat} (h : GE W s L n r) (hn : n + 1 < L) : GT W s L (n + 1) (updN r (n + 1) s) := fun w hw => by
  have eq : ∀ i, i ≠ n + 1 → updN r (n + 1) s i = r i := fun i hi => if_neg hi
  rcases h w hw with ⟨m, h1, h2, h3, h4⟩ | g
  · exact ⟨m, h1, by omega, fun i hi => by rw [eq i (by omega)]; exact h3 i hi, by rw [eq m (by omega)]; exact h4⟩
  · refine ⟨n + 1, by omega, Nat.le_refl _, fun i hi => by rw [eq i (by omega)]; exact g i (by omega), ?_⟩
    rw [show updN r (n + 1) s (n + 1) = s from if_pos rfl]
    exact (hw.1.2.1 (n + 1) (by omega) hn).1
/- the places ahead of the last one are good -/
def PV (W : Nat → Nat → Nat) (s n : Nat) (r : Nat → Nat) : Prop := r 0 = s ∧ (∀ i, 0 < i → i < n → s < r i ∧ r i < 8) ∧ (∀ i j, i < j → j < n → r i ≠ r j) ∧ ∀ i, i + 1 < n → 0 < W (r i) (r (i + 1))
theorem PV.upd {W : Nat → Nat → Nat} {s n x : Nat} {r : Nat → Nat} (h : PV W s n r) (hn : 1 ≤ n) : PV W s n (updN r n x) := by
  have eq : ∀ i, i < n → updN r n x i = r i := fun i hi => if_neg (by omega)
  obtain ⟨h0, h1, h2, h3⟩ := h
  exact ⟨by rw [eq 0 (by omega)]; exact h0, fun i a b => by rw [eq i b]; exact h1 i a b, fun i j a b => by rw [eq i (by omega), eq j b]; exact h2 i j a b, fun i a => by rw [eq i (by omega), eq (i + 1) a]; exact h3 i a⟩
theorem PV.ext {W : Nat → Nat → Nat} {s n : Nat} {r : Nat → Nat} (h : PV W s n r) (hn : 1 ≤ n) (h1 : s < r n) (h2 : r n < 8) (hd : ∀ i, i < n → r i ≠ r n) (he : 0 < W (r (n - 1)) (r n)) : PV W s (n + 1) r := by
  obtain ⟨g0, g1, g2, g3⟩ := h
  refine ⟨g0, fun i a b => ?_, fun i j a b => ?_, fun i a => ?_⟩
  · by_cases c : i = n
    · rw [c]; exact ⟨h1, h2⟩
    · exact g1 i a (by omega)
  · by_cases c : j = n
    · rw [c]; exact hd i (by omega)
    · exact g2 i j a (by omega)
  · by_cases c : i + 1 = n
    · rw [c, show i = n - 1 by omega]; exact he
    · exact g3 i (by omega)
theorem PV.less {W : Nat → Nat → Nat} {s n : Nat} {r : Nat → Nat} (h : PV W s (n + 1) r) : PV W s n r :=
  ⟨h.1, fun i a b => h.2.1 i a (by omega), fun i j a b => h.2.2.1 i j a (by omega), fun i a => h.2.2.2 i (by omega)⟩
/- how much is left of the search -/
def msr (r : Nat → Nat) : Nat → Nat
  | 0 => 0
  | k + 1 => msr r k + (8 - r (k + 1)) * 9 ^ (7 - k)
theorem msr_cong {r q : Nat → Nat} : ∀ (n : Nat), (∀ i, 0 < i → i ≤ n → r i = q i) → msr r n = msr q n := by
  intro n
  induction n with
  | zero => intro _; rfl
  | succ n ih => intro h; unfold msr; rw [ih (fun i a b => h i a (by omega)), h (n + 1) (by omega) (Nat.le_refl _)]
theorem msr_inc {r : Nat → Nat} {n : Nat} (h7 : r (n + 1) ≤ 7) : msr (updN r (n + 1) (r (n + 1) + 1)) (n + 1) + 9 ^ (7 - n) = msr r (n + 1) := by
  show msr (updN r (n + 1) (r (n + 1) + 1)) n + (8 - updN r (n + 1) (r (n + 1) + 1) (n + 1)) * 9 ^ (7 - n) + 9 ^ (7 - n) = msr r n + (8 - r (n + 1)) * 9 ^ (7 - n)
  rw [msr_cong (r := updN r (n + 1) (r (n + 1) + 1)) (q := r) n (fun i a b => if_neg (by omega)), show updN r (n + 1) (r (n + 1) + 1) (n + 1) = r (n + 1) + 1 from if_pos rfl, show 8 - r (n + 1) = (8 - (r (n + 1) + 1)) + 1 by omega, Nat.add_mul, Nat.one_mul]
  omega
theorem msr_push {r : Nat → Nat} {n s : Nat} (hn : n + 1 ≤ 7) : msr (updN r (n + 1) s) (n + 1) + 1 ≤ msr r n + 9 ^ (8 - n) := by
  show msr (updN r (n + 1) s) n + (8 - updN r (n + 1) s (n + 1)) * 9 ^ (7 - n) + 1 ≤ msr r n + 9 ^ (8 - n)
  rw [msr_cong (r := updN r (n + 1) s) (q := r) n (fun i a b => if_neg (by omega)), show updN r (n + 1) s (n + 1) = s from if_pos rfl, show 8 - n = (7 - n) + 1 by omega, Nat.pow_succ]
  have h1 : (8 - s) * 9 ^ (7 - n) ≤ 8 * 9 ^ (7 - n) := Nat.mul_le_mul_right _ (by omega)
  have h2 : 0 < 9 ^ (7 - n) := Nat.pow_pos (by decide)
  omega
theorem pow_1 (k : Nat) : 0 < 9 ^ k := Nat.pow_pos (by decide)
def QS (fq : Nat → Int32) (W : Nat → Nat → Nat) : Prop := ∀ d, d < 8 → MKS (fq d) (fun c => 0 < W d c)
theorem l_unlike {fl ft fr fq : Nat → Int32} {p3 : Int32} {k63 : (Nat → Int32) → (Nat → Int32) → Int32 → Option (Int32 × (Nat → Int32))} {k73 : (Nat → Int32) → (Nat → Int32) → Int32 → Int32 → Option (Int32 × (Nat → Int32))} {k93 : (Nat → Int32) → (Nat → Int32) → Int32 → Int32 → Int32 → Option (Int32 × (Nat → Int32))} {x5 x6 : Int32} {n : Nat} {r : Nat → Nat} (hn : n ≤ 8) (hr : ∀ i, i ≤ n → fr i = nI (r i) ∧ r i ≤ 8) :
    ∀ (m fu i : Nat) (u : Bool), m < fu → i + m = n → (u = true ↔ ∀ j, j < i → r j ≠ r n) →
    ∃ u' : Bool, L_ring_l112 fl ft p3 k63 k73 k93 fu fr fq x5 x6 (nI n) (if u = true then 1 else 0) (nI i) = L_ring_b148 fl ft p3 k63 k73 k93 fr fq x5 x6 (nI n) (if u' = true then 1 else 0) ∧ (u' = true ↔ ∀ j, j < n → r j ≠ r n) := by
  intro m
  induction m with
  | zero =>
    intro fu i u hf hi hu
    obtain ⟨fu, rfl⟩ : ∃ f, fu = f + 1 := ⟨fu - 1, by omega⟩
    have : i = n := by omega
    subst this
    exact ⟨u, by rw [L_ring_l112, if_pos (nI_le (Nat.le_refl _) (by omega))], hu⟩
  | succ m ih =>
    intro fu i u hf hi hu
    obtain ⟨fu, rfl⟩ : ∃ f, fu = f + 1 := ⟨fu - 1, by omega⟩
    rw [L_ring_l112, if_neg (nI_ge (by omega) (by omega)), q_1]
    cases u with
    | false =>
      rw [if_pos (show (if false = true then (1 : Int32) else 0) = 0 from rfl)]
      exact ih fu (i + 1) false (by omega) (by omega) ⟨fun z => Bool.noConfusion z, fun z => hu.mpr (fun j hj => z j (by omega))⟩
    | true =>
      have hu := hu.mp rfl
      obtain ⟨e1, b1⟩ := hr i (by omega)
      obtain ⟨e2, b2⟩ := hr n (Nat.le_refl _)
      rw [if_neg (show ¬ (if true = true then (1 : Int32) else 0) = 0 by decide), q_ld (by omega) (by decide), Option.bind_some, q_ld (by omega) (by decide), Option.bind_some, e1, e2]
      by_cases c : r i = r n
      · rw [if_pos (by rw [c])]
        exact ih fu (i + 1) false (by omega) (by omega) ⟨fun z => (by cases z), fun z => absurd c (z i (by omega))⟩
      · rw [if_neg (fun z => c ((nI_eq (by omega) (by omega)).mp z))]
        refine ih fu (i + 1) true (by omega) (by omega) ⟨fun _ j hj => ?_, fun _ => rfl⟩
        by_cases z : j = i
        · rw [z]; exact c
        · exact hu j (by omega)
/- one length, one first pupil -/
theorem l_dfs {W : Nat → Nat → Nat} {s L : Nat} (hs : s < 8) (hL : 2 ≤ L) (hL8 : L ≤ 8) {fl ft : Nat → Int32} {p3 : Int32} {k63 : (Nat → Int32) → (Nat → Int32) → Int32 → Option (Int32 × (Nat → Int32))} {k73 : (Nat → Int32) → (Nat → Int32) → Int32 → Int32 → Option (Int32 × (Nat → Int32))} {fq : Nat → Int32} (hq : QS fq W) :
    ∀ (fu n : Nat) (fr : Nat → Int32) (r : Nat → Nat), msr r n < fu → n < L → (∀ i, i ≤ n → fr i = nI (r i)) → r n ≤ 7 → s ≤ r n → PV W s n r → GT W s L n r →
    (∃ fr' r', L_ring_l93 fl ft p3 k63 k73 fu fr fq (nI L) (nI s) (nI n) = some (nI L, fr') ∧ (∀ i, i < L → fr' i = nI (r' i)) ∧ Row W s L r' ∧ ∀ w, Row W s L w → ∀ m, m < L → (∀ i, i < m → w i = r' i) → r' m ≤ w m) ∨
    (∃ fr', L_ring_l93 fl ft p3 k63 k73 fu fr fq (nI L) (nI s) (nI n) = k73 fr' fq (nI L) (nI (s + 1)) ∧ ∀ w, ¬ Row W s L w) := by
  intro fu
  induction fu with
  | zero => intro n fr r h; omega
  | succ fu ih =>
    intro n fr r hf hn hr h7 hsr hpv hgt
    rcases Nat.eq_zero_or_pos n with z | z
    · subst z
      refine Or.inr ⟨fr, ?_, fun w hw => ?_⟩
      · rw [L_ring_l93, if_pos (by decide), q_1]
      · obtain ⟨m, h1, h2, _⟩ := hgt w hw
        omega
    · obtain ⟨n', rfl⟩ : ∃ n', n = n' + 1 := ⟨n - 1, by omega⟩
      have hr8 : ∀ i, i ≤ n' + 1 → r i ≤ 7 := fun i hi => by
        by_cases c : i = n' + 1
        · rw [c]; exact h7
        · rcases Nat.eq_zero_or_pos i with y | y
          · rw [y, hpv.1]; omega
          · have := (hpv.2.1 i y (by omega)).2; omega
      generalize hr' : updN r (n' + 1) (r (n' + 1) + 1) = r'
      have en : r' (n' + 1) = r (n' + 1) + 1 := by rw [← hr']; exact if_pos rfl
      have eo : ∀ i, i ≠ n' + 1 → r' i = r i := fun i hi => by rw [← hr']; exact if_neg hi
      generalize hfr' : upd fr (n' + 1) (nI (r (n' + 1) + 1)) = fr'
      have hrr : ∀ i, i ≤ n' + 1 → fr' i = nI (r' i) ∧ r' i ≤ 8 := fun i hi => by
        rw [← hfr']
        by_cases c : i = n' + 1
        · rw [c, q_up, en]; exact ⟨rfl, by omega⟩
        · rw [q_un c, eo i c]; exact ⟨hr i hi, by have := hr8 i hi; omega⟩
      have hge : GE W s L (n' + 1) r' := by rw [← hr']; exact hgt.inc
      have hpv' : PV W s (n' + 1) r' := by rw [← hr']; exact hpv.upd (by omega)
      have hms : msr r' (n' + 1) + 9 ^ (7 - n') = msr r (n' + 1) := by rw [← hr']; exact msr_inc h7
      have hp1 := pow_1 (7 - n')
      obtain ⟨u, e1, hu⟩ := l_unlike (fl := fl) (ft := ft) (fq := fq) (p3 := p3) (k63 := k63) (k73 := k73) (k93 := L_ring_l93 fl ft p3 k63 k73 fu) (x5 := nI L) (x6 := nI s) (n := n' + 1) (by omega) hrr (n' + 1) FU 0 true (by unfold FU; omega) (by omega) ⟨fun _ j hj => by omega, fun _ => rfl⟩
      have e0 : L_ring_l93 fl ft p3 k63 k73 (fu + 1) fr fq (nI L) (nI s) (nI (n' + 1)) = L_ring_b148 fl ft p3 k63 k73 (L_ring_l93 fl ft p3 k63 k73 fu) fr' fq (nI L) (nI s) (nI (n' + 1)) (if u = true then 1 else 0) := by
        rw [L_ring_l93, if_neg (nI_nle (by omega) (by omega)), q_ld (by omega) (by decide), Option.bind_some, hr (n' + 1) (Nat.le_refl _), q_1, q_st (by omega) (by decide), Option.bind_some, hfr']
        exact e1
      rw [e0, L_ring_b148, q_ld (by omega) (by decide), Option.bind_some, (hrr (n' + 1) (Nat.le_refl _)).1]
      by_cases c7 : r' (n' + 1) ≤ 7
      · rw [if_pos (show nI (r' (n' + 1)) ≤ (7 : Int32) from nI_le c7 (by decide))]
        have again : (∀ w, Row W s L w → ¬ ∀ i, i ≤ n' + 1 → w i = r' i) →
            (∃ fr2 r2, L_ring_l93 fl ft p3 k63 k73 fu fr' fq (nI L) (nI s) (nI (n' + 1)) = some (nI L, fr2) ∧ (∀ i, i < L → fr2 i = nI (r2 i)) ∧ Row W s L r2 ∧ ∀ w, Row W s L w → ∀ m, m < L → (∀ i, i < m → w i = r2 i) → r2 m ≤ w m) ∨
            (∃ fr2, L_ring_l93 fl ft p3 k63 k73 fu fr' fq (nI L) (nI s) (nI (n' + 1)) = k73 fr2 fq (nI L) (nI (s + 1)) ∧ ∀ w, ¬ Row W s L w) := fun hno =>
          ih (n' + 1) fr' r' (by omega) hn (fun i hi => (hrr i hi).1) c7 (by omega) hpv' (hge.gt hno)
        cases u with
        | false =>
          rw [if_pos (show (if false = true then (1 : Int32) else 0) = 0 from rfl)]
          refine again (fun w hw hall => ?_)
          have : ∀ j, j < n' + 1 → r' j ≠ r' (n' + 1) := fun j hj e => hw.2 j (n' + 1) hj hn (by rw [hall j (by omega), hall (n' + 1) (Nat.le_refl _)]; exact e)
          exact Bool.noConfusion (hu.mpr this)
        | true =>
          have hu := hu.mp rfl
          have em : nI (n' + 1) - (1 : Int32) = nI n' := nI_pred n'
          have hb' : r' n' < 8 := by rw [eo n' (by omega)]; have := hr8 n' (by omega); omega
          have hbit := (hq (r' n') hb').bit1 (y := r' (n' + 1)) (by omega)
          rw [if_neg (show ¬ (if true = true then (1 : Int32) else 0) = 0 by decide), em, q_ld (by omega) (by decide), Option.bind_some, (hrr n' (by omega)).1, q_ld (by omega) (by decide), Option.bind_some, Option.bind_some]
          by_cases ce : 0 < W (r' n') (r' (n' + 1))
          · rw [if_pos (hbit.mpr ce)]
            have eL1 : nI L - (1 : Int32) = nI (L - 1) := by obtain ⟨L', rfl⟩ : ∃ L', L = L' + 1 := ⟨L - 1, by omega⟩; exact nI_pred L'
            have hsl : s < r' (n' + 1) := by omega
            have hext : PV W s (n' + 1 + 1) r' := hpv'.ext (by omega) hsl (by omega) hu ce
            rw [eL1]
            by_cases cl : L - 1 ≤ n' + 1
            · rw [if_pos (nI_le cl (by omega))]
              have hLn : L = n' + 1 + 1 := by omega
              have hbit2 := (hq (r' (n' + 1)) (by omega)).bit1 (y := s) hs
              rw [Option.bind_some, q_ld (by omega) (by decide), Option.bind_some]
              by_cases cc : 0 < W (r' (n' + 1)) s
              · rw [if_pos (hbit2.mpr cc)]
                refine Or.inl ⟨fr', r', rfl, fun i hi => (hrr i (by omega)).1, ⟨⟨hext.1, fun i a b => hext.2.1 i a (by omega), fun i a => hext.2.2.2 i (by omega), by rw [show L - 1 = n' + 1 by omega]; exact cc⟩, fun i j a b => hext.2.2.1 i j a (by omega)⟩, fun w hw m hm hp => ?_⟩
                rcases hge w hw with ⟨m', g1, g2, g3, g4⟩ | g
                · rcases Nat.lt_trichotomy m m' with y | y | y
                  · rw [g3 m y]; exact Nat.le_refl _
                  · subst y; omega
                  · have := hp m' y; omega
                · rw [g m (by omega)]; exact Nat.le_refl _
              · rw [if_neg (fun z => cc (hbit2.mp z))]
                refine again (fun w hw hall => ?_)
                have := hw.1.2.2.2
                rw [show L - 1 = n' + 1 by omega, hall (n' + 1) (Nat.le_refl _)] at this
                exact cc this
            · rw [if_neg (nI_ge (by omega) (by omega)), q_1, q_st (by omega) (by decide), Option.bind_some]
              have hpush := msr_push (r := r') (n := n' + 1) (s := s) (by omega)
              rw [show 8 - (n' + 1) = 7 - n' by omega] at hpush
              refine ih (n' + 1 + 1) _ (updN r' (n' + 1 + 1) s) (by omega) (by omega) (fun i hi => ?_) ?_ ?_ (hext.upd (by omega)) (hge.pushd (by omega))
              · by_cases y : i = n' + 1 + 1
                · rw [y, q_up]; rw [show updN r' (n' + 1 + 1) s (n' + 1 + 1) = s from if_pos rfl]
                · rw [q_un y, show updN r' (n' + 1 + 1) s i = r' i from if_neg y]; exact (hrr i (by omega)).1
              · rw [show updN r' (n' + 1 + 1) s (n' + 1 + 1) = s from if_pos rfl]; omega
              · rw [show updN r' (n' + 1 + 1) s (n' + 1 + 1) = s from if_pos rfl]; exact Nat.le_refl _
          · rw [if_neg (fun z => ce (hbit.mp z))]
            refine again (fun w hw hall => ?_)
            have := hw.1.2.2.1 n' hn
            rw [hall n' (by omega), hall (n' + 1) (Nat.le_refl _)] at this
            exact ce this
      · rw [if_neg (show ¬ nI (r' (n' + 1)) ≤ (7 : Int32) from nI_ge (a := 7) (by omega) (by omega)), show nI (n' + 1) + (-1 : Int32) = nI n' from pk_m1 n']
        have hms2 : msr r' n' ≤ msr r' (n' + 1) := by rw [show msr r' (n' + 1) = msr r' n' + (8 - r' (n' + 1)) * 9 ^ (7 - n') from rfl]; omega
        refine ih n' fr' r' (by omega) (by omega) (fun i hi => (hrr i (by omega)).1) ?_ ?_ hpv'.less (hge.popd hn (by omega))
        · rw [eo n' (by omega)]; exact hr8 n' (by omega)
        · rw [eo n' (by omega)]
          rcases Nat.eq_zero_or_pos n' with y | y
          · rw [y, hpv.1]; exact Nat.le_refl _
          · have := (hpv.2.1 n' y (by omega)).1; omega
theorem l_firsts {W : Nat → Nat → Nat} {L : Nat} (hL : 2 ≤ L) (hL8 : L ≤ 8) {fl ft : Nat → Int32} {p3 : Int32} {k63 : (Nat → Int32) → (Nat → Int32) → Int32 → Option (Int32 × (Nat → Int32))} {fq : Nat → Int32} (hq : QS fq W) (hl : ∀ s', s' < 8 → ∀ l, 2 ≤ l → l < L → ∀ w, ¬ Row W s' l w) :
    ∀ (m fu s : Nat) (fr : Nat → Int32), m < fu → s + m = 8 → (∀ s', s' < s → ∀ w, ¬ Row W s' L w) →
    (∃ fr' r', L_ring_l73 fl ft p3 k63 fu fr fq (nI L) (nI s) = some (nI L, fr') ∧ (∀ i, i < L → fr' i = nI (r' i)) ∧ Ring W L r') ∨
    (∃ fr', L_ring_l73 fl ft p3 k63 fu fr fq (nI L) (nI s) = k63 fr' fq (nI (L + 1)) ∧ ∀ s', s' < 8 → ∀ w, ¬ Row W s' L w) := by
  intro m
  induction m with
  | zero =>
    intro fu s fr hf hs hno
    obtain ⟨fu, rfl⟩ : ∃ f, fu = f + 1 := ⟨fu - 1, by omega⟩
    have : s = 8 := by omega
    subst this
    exact Or.inr ⟨fr, by rw [L_ring_l73, if_pos (by decide), q_1], hno⟩
  | succ m ih =>
    intro fu s fr hf hs hno
    obtain ⟨fu, rfl⟩ : ∃ f, fu = f + 1 := ⟨fu - 1, by omega⟩
    have hcmp : ¬ (8 : Int32) ≤ nI s := nI_ge (a := s) (b := 8) (by omega) (by decide)
    have e0 : stA 9 fr (0 : Int32) (nI s) = some (upd fr 0 (nI s)) := q_st (k := 0) (by decide) (by decide)
    have e1 : stA 9 (upd fr 0 (nI s)) (1 : Int32) (nI s) = some (upd (upd fr 0 (nI s)) 1 (nI s)) := q_st (k := 1) (by decide) (by decide)
    have hm : msr (fun _ => s) 1 < FV := by
      show 0 + (8 - s) * 9 ^ 7 < 50000000
      have : (8 - s) * 9 ^ 7 ≤ 8 * 9 ^ 7 := Nat.mul_le_mul_right _ (by omega)
      omega
    have hd := l_dfs (W := W) (s := s) (L := L) (by omega) hL hL8 (fl := fl) (ft := ft) (p3 := p3) (k63 := k63) (k73 := L_ring_l73 fl ft p3 k63 fu) hq FV 1 (upd (upd fr 0 (nI s)) 1 (nI s)) (fun _ => s) hm (by omega) (fun i hi => by
      rcases (by omega : i = 0 ∨ i = 1) with y | y
      · subst y; rw [q_un (by decide), q_up]
      · subst y; rw [q_up]) (by omega) (Nat.le_refl _) ⟨rfl, fun i a b => by omega, fun i j a b => by omega, fun i a => by omega⟩ (fun w hw => by
      refine ⟨1, Nat.le_refl _, Nat.le_refl _, fun i hi => ?_, ?_⟩
      · rw [show i = 0 by omega]; exact hw.1.1
      · exact (hw.1.2.1 1 (by omega) (by omega)).1)
    have e73 : L_ring_l73 fl ft p3 k63 (fu + 1) fr fq (nI L) (nI s) = L_ring_l93 fl ft p3 k63 (L_ring_l73 fl ft p3 k63 fu) FV (upd (upd fr 0 (nI s)) 1 (nI s)) fq (nI L) (nI s) (nI 1) := by
      rw [L_ring_l73, if_neg hcmp, e0, Option.bind_some, e1, Option.bind_some]
      rfl
    rw [e73]
    rcases hd with ⟨fr', r', a1, a2, a3, a4⟩ | ⟨fr', a1, a2⟩
    · exact Or.inl ⟨fr', r', a1, a2, a3.ring (by omega) hL a4 hl hno⟩
    · rw [a1]
      refine ih fu (s + 1) fr' (by omega) (by omega) (fun s' hs' w => ?_)
      by_cases y : s' = s
      · rw [y]; exact a2 w
      · exact hno s' (by omega) w
theorem l_sizes {W : Nat → Nat → Nat} (hb : ∀ d c, d < 8 → c < 8 → W d c ≤ 1000) {fl ft : Nat → Int32} {p3 : Int32} {fq : Nat → Int32} (hq : QS fq W) :
    ∀ (m fu L : Nat) (fr : Nat → Int32), m < fu → L + m = 9 → 2 ≤ L → (∀ s', s' < 8 → ∀ l, 2 ≤ l → l < L → ∀ w, ¬ Row W s' l w) →
    ∃ fr' L' r', L_ring_l63 fl ft p3 fu fr fq (nI L) = some (nI L', fr') ∧ (∀ i, i < L' → fr' i = nI (r' i)) ∧ Ring W L' r' := by
  intro m
  induction m with
  | zero =>
    intro fu L fr hf hs h2 hno
    obtain ⟨fu, rfl⟩ : ∃ f, fu = f + 1 := ⟨fu - 1, by omega⟩
    have : L = 9 := by omega
    subst this
    refine ⟨fr, 0, fun _ => 0, by rw [L_ring_l63, if_pos (by decide)]; rfl, fun i hi => by omega, Or.inl ⟨rfl, fun s hs => ?_⟩⟩
    exact LX0.ofRB hb hs (fun l a b => noRB hno l s hs l (Nat.le_refl _) a b)
  | succ m ih =>
    intro fu L fr hf hs h2 hno
    obtain ⟨fu, rfl⟩ : ∃ f, fu = f + 1 := ⟨fu - 1, by omega⟩
    have hcmp : ¬ (9 : Int32) ≤ nI L := nI_ge (a := L) (b := 9) (by omega) (by decide)
    have e63 : L_ring_l63 fl ft p3 (fu + 1) fr fq (nI L) = L_ring_l73 fl ft p3 (L_ring_l63 fl ft p3 fu) FU fr fq (nI L) (nI 0) := by
      rw [L_ring_l63, if_neg hcmp]
      rfl
    rw [e63]
    rcases l_firsts h2 (by omega) (fl := fl) (ft := ft) (p3 := p3) (k63 := L_ring_l63 fl ft p3 fu) hq hno 8 FU 0 fr (by unfold FU; omega) (by omega) (fun s' hs' => by omega) with ⟨fr', r', a1, a2, a3⟩ | ⟨fr', a1, a2⟩
    · exact ⟨fr', L, r', a1, a2, a3⟩
    · rw [a1]
      refine ih fu (L + 1) fr' (by omega) (by omega) (by omega) (fun s' hs' l b1 b2 w => ?_)
      by_cases y : l = L
      · rw [y]; exact a2 s' hs' w
      · exact hno s' hs' l b1 (by omega) w
theorem l_looks {P : Nat} (hP : P ≤ 8) {kd : Int32} : ∀ (rest dn : List Lot) (fu : Nat) (fl ft fr fq : Nat → Int32) (M : Nat → Nat → Nat), rest.length < fu → LW fl ft (dn ++ rest) → (∀ l ∈ rest, okL P l) → QS fq M →
    ∃ fq', L_ring_l9 fl ft kd fu fr fq (nI dn.length) = L_ring_l63 fl ft kd FU fr fq' (2 : Int32) ∧ QS fq' (fun d c => M d c + WN kd rest d c) := by
  intro rest
  induction rest with
  | nil =>
    intro dn fu fl ft fr fq M hf h _ hM
    obtain ⟨fu, rfl⟩ : ∃ f, fu = f + 1 := ⟨fu - 1, by simp at hf; omega⟩
    obtain ⟨h1, h2⟩ := h.len
    simp only [List.length_nil] at h1 h2
    exact ⟨fq, by rw [L_ring_l9, r16_2, Option.bind_some, h1, if_pos (nI_le (by omega) (by omega))], hM⟩
  | cons l rest ih =>
    intro dn fu fl ft fr fq M hf h hl hM
    obtain ⟨fu, rfl⟩ : ∃ f, fu = f + 1 := ⟨fu - 1, by simp at hf; omega⟩
    obtain ⟨g1, g2⟩ := h.len
    simp only [List.length_cons] at g1 g2
    have hpk := h.at
    rw [snoc_app] at h
    obtain ⟨d0, c0, k, n, a, p, e, h1, h2, h3, h4, h5, h6, h7, h8⟩ := hl l (List.mem_cons_self)
    rw [L_ring_l9, r16_2, Option.bind_some, g1, if_neg (nI_ge (by omega) (by omega)), q_ld (by omega) (by decide), Option.bind_some, l_debtor hpk, Option.bind_some, show l.d = nI d0 by rw [e], q_ld (by omega) (by decide), Option.bind_some, Option.bind_some, l_kind hpk, Option.bind_some, show l.k = nI k by rw [e], q_1]
    by_cases c1 : nI k = kd
    · rw [if_pos c1, Option.bind_some, l_creditor hpk, Option.bind_some, show l.c = nI c0 by rw [e], q_st (by omega) (by decide), Option.bind_some]
      obtain ⟨fq', w1, w3⟩ := ih (dn ++ [l]) fu fl ft fr (upd fq d0 (fq d0 ||| ((1 : Int32) <<< (nI c0 &&& 31)))) (fun d c => M d c + (if d0 = d ∧ c0 = c then n else 0)) (by simp at hf; omega) h (fun x hx => hl x (List.mem_cons_of_mem _ hx)) (by
        intro d hd
        by_cases z : d = d0
        · subst z
          rw [q_up]
          refine ((hM d hd).or (MKS.one (y := c0) (by omega))).cong (fun c _ => ?_)
          show 0 < M d c ∨ c = c0 ↔ 0 < M d c + (if d = d ∧ c0 = c then n else 0)
          by_cases z2 : c0 = c
          · rw [if_pos ⟨rfl, z2⟩]; constructor
            · intro _; omega
            · intro _; exact Or.inr z2.symm
          · rw [if_neg (fun y => z2 y.2)]; constructor
            · rintro (y | y)
              · omega
              · exact absurd y.symm z2
            · intro y; exact Or.inl (by omega)
        · rw [q_un z]
          exact (hM d hd).cong (fun c _ => by
            show 0 < M d c ↔ 0 < M d c + (if d0 = d ∧ c0 = c then n else 0)
            rw [if_neg (fun y => z y.1.symm)]; exact Iff.rfl))
      rw [snoc_len] at w1
      refine ⟨fq', w1, fun d hd => (w3 d hd).cong (fun c hc => ?_)⟩
      have ee : WN kd (l :: rest) d c = (if d0 = d ∧ c0 = c then n else 0) + WN kd rest d c := by
        show (if mtE (nI d) (nI c) kd l then l.2.2.2.1.toNatClampNeg else 0) + _ = _
        rw [e, mtE_nI (by omega) (by omega) (by omega) (by omega) c1]
        show (if _ then (nI n).toNatClampNeg else 0) + _ = _
        rw [nI_clamp (by omega)]
        by_cases z : d0 = d ∧ c0 = c
        · rw [if_pos z, decide_eq_true z.1, decide_eq_true z.2]; rfl
        · rw [if_neg z, if_neg (by rw [Bool.and_eq_true, decide_eq_true_eq, decide_eq_true_eq]; exact z)]; rfl
      show 0 < M d c + (if d0 = d ∧ c0 = c then n else 0) + WN kd rest d c ↔ 0 < M d c + WN kd (l :: rest) d c
      rw [ee, Nat.add_assoc]
    · rw [if_neg c1, q_st (by omega) (by decide), Option.bind_some]
      obtain ⟨fq', w1, w3⟩ := ih (dn ++ [l]) fu fl ft fr (upd fq d0 (fq d0 ||| 0)) M (by simp at hf; omega) h (fun x hx => hl x (List.mem_cons_of_mem _ hx)) (by
        intro d hd
        by_cases z : d = d0
        · subst z
          rw [q_up]
          exact ((hM d hd).or MKS.zero).cong (fun c _ => ⟨fun y => y.elim id (fun f => f.elim), Or.inl⟩)
        · rw [q_un z]; exact hM d hd)
      rw [snoc_len] at w1
      refine ⟨fq', w1, fun d hd => (w3 d hd).cong (fun c hc => ?_)⟩
      have ee : WN kd (l :: rest) d c = WN kd rest d c := by
        show (if mtE (nI d) (nI c) kd l then l.2.2.2.1.toNatClampNeg else 0) + _ = _
        rw [if_neg (fun z => by
          unfold mtE at z
          rw [Bool.and_eq_true] at z
          have := of_decide_eq_true z.2
          rw [e] at this
          exact c1 this)]
        exact Nat.zero_add _
      show 0 < M d c + WN kd rest d c ↔ 0 < M d c + WN kd (l :: rest) d c
      rw [ee]
theorem l_ring {fl ft : Nat → Int32} {a : AS} (h : LW fl ft a.1) (ho : OK a) (fr : Nat → Int32) (kd : Int32) :
    ∃ fr', L_ring fl ft fr kd = some (nI (rgL (WN kd a.1)), fr') ∧ (∀ i, i < rgL (WN kd a.1) → fr' i = nI (rgP (WN kd a.1) i)) ∧ Ring (WN kd a.1) (rgL (WN kd a.1)) (rgP (WN kd a.1)) := by
  obtain ⟨P, hP, hl, G, h40⟩ := ho.GG
  obtain ⟨fq, e1, hq⟩ := l_looks G.1 (kd := kd) a.1 [] FU fl ft fr (fun _ => 0) (fun _ _ => 0) (by unfold FU; omega) h hl (fun d hd => MKS.zero.cong (fun c _ => ⟨fun z => z.elim, fun z => (Nat.lt_irrefl 0 z).elim⟩))
  have hq' : QS fq (WN kd a.1) := fun d hd => (hq d hd).cong (fun c _ => by show (0 < 0 + WN kd a.1 d c ↔ 0 < WN kd a.1 d c); rw [Nat.zero_add])
  obtain ⟨fr', L', r', e2, e3, e4⟩ := l_sizes (WN_le ho kd) (fl := fl) (ft := ft) (p3 := kd) hq' 7 FU 2 fr (by unfold FU; omega) (by omega) (by omega) (fun s' _ l a b => by omega)
  have eL := e4.eL
  refine ⟨fr', ?_, fun i hi => ?_, e4.named⟩
  · rw [← eL]
    show L_ring_l9 fl ft kd FU fr (fun _ => 0) (nI 0) = _
    rw [show L_ring_l9 fl ft kd FU fr (fun _ => 0) (nI 0) = L_ring_l63 fl ft kd FU fr fq (2 : Int32) from e1]
    exact e2
  · rw [← eL] at hi
    rw [e3 i hi, e4.eP hi]

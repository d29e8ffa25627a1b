/- bits of a number; sets of pupils as numbers -/
def bt (m : Int32) (x : Nat) : Bool := m.toBitVec.getLsbD x
theorem bt_or (m k : Int32) (x : Nat) : bt (m ||| k) x = (bt m x || bt k x) := by
  unfold bt; rw [Int32.toBitVec_or, BitVec.getLsbD_or]
theorem bt_and (m k : Int32) (x : Nat) : bt (m &&& k) x = (bt m x && bt k x) := by
  unfold bt; rw [Int32.toBitVec_and, BitVec.getLsbD_and]
theorem bt_0 (x : Nat) : bt 0 x = false := by
  unfold bt; simp
theorem bt_ge {m : Int32} {x : Nat} (h : 32 ≤ x) : bt m x = false := by
  unfold bt; exact BitVec.getLsbD_of_ge _ _ h
theorem bt_ext {m k : Int32} (h : ∀ x, x < 32 → bt m x = bt k x) : m = k := by
  apply Int32.toBitVec_inj.mp
  apply BitVec.eq_of_getLsbD_eq
  exact h
theorem bt_zero {m : Int32} : m = 0 ↔ ∀ x, x < 32 → bt m x = false := by
  constructor
  · rintro rfl x _; exact bt_0 x
  · intro h; exact bt_ext (fun x hx => by rw [h x hx, bt_0])
theorem bt_one {y : Nat} (hy : y < 8) : ∀ x, x < 32 → bt ((1 : Int32) <<< ((nI y) &&& 31)) x = decide (x = y) := by
  have : ∀ y : Fin 8, ∀ x : Fin 32, bt ((1 : Int32) <<< ((nI y.val) &&& 31)) x.val = decide (x.val = y.val) := by decide
  exact fun x hx => this ⟨y, hy⟩ ⟨x, hx⟩
theorem bt_shr (m : Int32) {y : Nat} (hy : y < 32) : ((m >>> ((nI y) &&& 31)) &&& 1) = 0 ↔ bt m y = false := by
  have h1 : ∀ x : Fin 32, bt 1 x.val = decide (x.val = 0) := by decide
  have hm : (((nI y) &&& 31).toBitVec.smod 32) = BitVec.ofNat 32 y := by
    have : ∀ y : Fin 32, (((nI y.val) &&& 31).toBitVec.smod 32) = BitVec.ofNat 32 y.val := by decide
    exact this ⟨y, hy⟩
  have h2 : bt (m >>> ((nI y) &&& 31)) 0 = bt m y := by
    unfold bt
    rw [Int32.toBitVec_shiftRight, hm, BitVec.sshiftRight', BitVec.getLsbD_sshiftRight]
    have e1 : (BitVec.ofNat 32 y).toNat = y := by simp; omega
    simp [e1]; intro hz; omega
  rw [bt_zero]
  constructor
  · intro h
    have := h 0 (by decide)
    rw [bt_and, h2] at this
    have e := h1 ⟨0, by decide⟩
    simp only at e
    rw [e] at this
    simpa using this
  · intro h x hx
    rw [bt_and]
    by_cases z : x = 0
    · subst z; rw [h2, h]; rfl
    · have e := h1 ⟨x, hx⟩
      simp only at e
      rw [e, decide_eq_false z, Bool.and_false]
theorem bt_shr1 (m : Int32) {y : Nat} (hy : y < 32) : ((m >>> ((nI y) &&& 31)) &&& 1) = 1 ↔ bt m y = true := by
  have := bt_shr m hy
  constructor
  · intro h
    cases e : bt m y with
    | true => rfl
    | false => rw [this.mpr e] at h; exact absurd h (by decide)
  · intro h
    apply bt_ext
    intro x hx
    have h1 : ∀ x : Fin 32, bt 1 x.val = decide (x.val = 0) := by decide
    have e := h1 ⟨x, hx⟩
    simp only at e
    rw [bt_and, e]
    by_cases z : x = 0
    · subst z
      have hm : (((nI y) &&& 31).toBitVec.smod 32) = BitVec.ofNat 32 y := by
        have : ∀ y : Fin 32, (((nI y.val) &&& 31).toBitVec.smod 32) = BitVec.ofNat 32 y.val := by decide
        exact this ⟨y, hy⟩
      have h2 : bt (m >>> ((nI y) &&& 31)) 0 = bt m y := by
        unfold bt
        rw [Int32.toBitVec_shiftRight, hm, BitVec.sshiftRight', BitVec.getLsbD_sshiftRight]
        have e1 : (BitVec.ofNat 32 y).toNat = y := by simp; omega
        simp [e1]; intro hz; omega
      rw [h2, h]; rfl
    · rw [decide_eq_false z, Bool.and_false]
def MKS (m : Int32) (S : Nat → Prop) : Prop := ∀ x, bt m x = true ↔ (x < 8 ∧ S x)
theorem MKS.cong {m : Int32} {S T : Nat → Prop} (h : MKS m S) (e : ∀ x, x < 8 → (S x ↔ T x)) : MKS m T := fun x => (h x).trans ⟨fun z => ⟨z.1, (e x z.1).mp z.2⟩, fun z => ⟨z.1, (e x z.1).mpr z.2⟩⟩
theorem MKS.zero : MKS 0 (fun _ => False) := fun x => by rw [bt_0]; simp
theorem MKS.one {y : Nat} (hy : y < 8) : MKS ((1 : Int32) <<< ((nI y) &&& 31)) (fun x => x = y) := fun x => by
  by_cases hx : x < 32
  · rw [bt_one hy x hx, decide_eq_true_iff]; constructor
    · intro h; exact ⟨by omega, h⟩
    · intro h; exact h.2
  · rw [bt_ge (by omega)]; constructor
    · intro h; cases h
    · intro h; omega
theorem MKS.or {m k : Int32} {S T : Nat → Prop} (h : MKS m S) (h2 : MKS k T) : MKS (m ||| k) (fun x => S x ∨ T x) := fun x => by
  rw [bt_or, Bool.or_eq_true, h x, h2 x]; constructor
  · rintro (z | z)
    · exact ⟨z.1, Or.inl z.2⟩
    · exact ⟨z.1, Or.inr z.2⟩
  · rintro ⟨z, z2 | z2⟩
    · exact Or.inl ⟨z, z2⟩
    · exact Or.inr ⟨z, z2⟩
theorem MKS.and {m k : Int32} {S T : Nat → Prop} (h : MKS m S) (h2 : MKS k T) : MKS (m &&& k) (fun x => S x ∧ T x) := fun x => by
  rw [bt_and, Bool.and_eq_true, h x, h2 x]; constructor
  · rintro ⟨z, z2⟩; exact ⟨z.1, z.2, z2.2⟩
  · rintro ⟨z, z2, z3⟩; exact ⟨⟨z, z2⟩, ⟨z, z3⟩⟩
theorem MKS.isz {m : Int32} {S : Nat → Prop} (h : MKS m S) : m = 0 ↔ ∀ x, x < 8 → ¬ S x := by
  rw [bt_zero]; constructor
  · intro z x hx hs
    have := (h x).mpr ⟨hx, hs⟩
    rw [z x (by omega)] at this; cases this
  · intro z x _
    cases e : bt m x with
    | false => rfl
    | true => obtain ⟨h1, h2⟩ := (h x).mp e; exact absurd h2 (z x h1)
theorem MKS.bit0 {m : Int32} {S : Nat → Prop} (h : MKS m S) {y : Nat} (hy : y < 8) : ((m >>> ((nI y) &&& 31)) &&& 1) = 0 ↔ ¬ S y := by
  rw [bt_shr m (by omega)]; constructor
  · intro e hs
    rw [(h y).mpr ⟨hy, hs⟩] at e; cases e
  · intro hs
    cases e : bt m y with
    | false => rfl
    | true => exact absurd ((h y).mp e).2 hs
theorem MKS.bit1 {m : Int32} {S : Nat → Prop} (h : MKS m S) {y : Nat} (hy : y < 8) : ((m >>> ((nI y) &&& 31)) &&& 1) = 1 ↔ S y := by
  rw [bt_shr1 m (by omega), h y]; exact ⟨fun z => z.2, fun z => ⟨hy, z⟩⟩

/- who owes whom, as sets: reference -/
def LKS (v : St) (W : Nat → Nat → Nat) : Prop := ∀ d, d < 8 → MKS (v 9 d) (fun c => 0 < W d c)
theorem lotM_at {s : Nat → Int32} {dn rest : List Lot} {l : Lot} (h : LM s (dn ++ l :: rest)) : lotM s dn.length = l := (lotsF_at (g' := lotM s) h.2.2 (fun _ _ => rfl)).1
/- the pupils some steps behind, as sets: reference -/
theorem Bk_succ {W : Nat → Nat → Nat} {s m x : Nat} : (x < 8 ∧ Bk W s s (m + 1) x) ↔ (s + 1 ≤ x ∧ x < 8 ∧ ∃ y, y < 8 ∧ 0 < W x y ∧ Bk W s s m y) :=
  ⟨fun ⟨h1, h2, _, h3, h4⟩ => ⟨by omega, h1, h4⟩, fun ⟨h1, h2, h3⟩ => ⟨h2, by omega, h2, by omega, h3⟩⟩
theorem meet {v : St} {W : Nat → Nat → Nat} (hL : LKS v W) {x : Nat} (hx : x < 8) {m : Int32} {S : Nat → Prop} (hm : MKS m S) : (v 9 x &&& m) = 0 ↔ ¬ ∃ y, y < 8 ∧ 0 < W x y ∧ S y := by
  rw [((hL x hx).and hm).isz]
  exact ⟨fun h ⟨y, h1, h2, h3⟩ => h y h1 ⟨h2, h3⟩, fun h y h1 h2 => h ⟨y, h1, h2.1, h2.2⟩⟩
def RB (W : Nat → Nat → Nat) (s len : Nat) : Prop := ∃ y, y < 8 ∧ 0 < W s y ∧ Bk W s s (len - 1) y
/- the sets below len stand -/
def BKS (v : St) (W : Nat → Nat → Nat) (s len : Nat) : Prop := ∀ k, k < len → MKS (v 10 k) (Bk W s s k)
/- the next ring: reference -/
theorem LX.rb {W : Nat → Nat → Nat} {s L : Nat} (h : LX W s L) (hL : 0 < L) : RB W s L := by
  obtain ⟨y, k, h1, h2, h3, h4, h5⟩ := h.1 hL
  subst h5
  exact ⟨y, h2, h3, h4⟩
theorem RB.lx {W : Nat → Nat → Nat} {s len : Nat} (h : RB W s len) (h2 : 2 ≤ len) (hm : ∀ l, 2 ≤ l → l < len → ¬ RB W s l) : LX W s len := by
  obtain ⟨m, rfl⟩ : ∃ m, len = m + 2 := ⟨len - 2, by omega⟩
  refine ⟨fun _ => ?_, fun y k a b c d => ?_⟩
  · obtain ⟨y, h1, h3, h4⟩ := h
    have h4 : Bk W s s (m + 1) y := h4
    exact ⟨y, m + 1, by have := h4.1; have := h4.2.2.1; omega, h1, h3, h4, by omega⟩
  · refine ⟨by omega, ?_⟩
    cases k with
    | zero => have : y = s := d
              omega
    | succ k =>
      rcases Nat.lt_or_ge (k + 1 + 1) (m + 2) with z | z
      · exact absurd ⟨y, b, c, d⟩ (hm (k + 1 + 1) (by omega) z)
      · exact z
theorem BS.ofRB {W : Nat → Nat → Nat} {s len : Nat} (hs : s < 8) (h2 : 2 ≤ len) (h : RB W s len) (hm : ∀ s', s' < 8 → ∀ l, 2 ≤ l → l < len → ¬ RB W s' l) (hf : ∀ s', s' < s → ¬ RB W s' len) : BS W 8 (some s) len := by
  refine ⟨hs, by omega, h.lx h2 (hm s hs), fun s' hs' L hL hp => ?_, fun s' hs' L hL hp => ?_⟩
  · have hb := hL.rb hp
    rcases Nat.lt_trichotomy L len with z | z | z
    · exact absurd hb (hm s' (by omega) L (hL.ge hp) z)
    · rw [z] at hb; exact absurd hb (hf s' hs')
    · exact z
  · rcases Nat.lt_or_ge L len with z | z
    · exact absurd (hL.rb hp) (hm s' hs' L (hL.ge hp) z)
    · exact z
theorem LX0.ofRB {W : Nat → Nat → Nat} (hb : ∀ d c, d < 8 → c < 8 → W d c ≤ 1000) {s : Nat} (hs : s < 8) (hm : ∀ l, 2 ≤ l → l < 9 → ¬ RB W s l) : LX W s 0 := by
  refine ⟨fun z => by omega, fun y k a b c d => ?_⟩
  obtain ⟨D, hx⟩ := DX_ex (W := W) hs hs hb
  obtain ⟨p1, p2⟩ := (hx.2 y b (by omega)).2 k d
  have := DX_le hs hx b
  exact absurd ⟨y, b, c, (hx.2 y b (by omega)).1 p1⟩ (hm (D y + 1) (by omega) (by omega))
def okB (W : Nat → Nat → Nat) (s L i p : Nat) : Prop := p < 8 ∧ ((i = 0 ∧ p = s) ∨ (0 < i ∧ Bk W s s (L - i) p))
theorem okB_ex {W : Nat → Nat → Nat} {s L i p : Nat} (hL : LX W s L) (hi : i + 1 < L) (hp : okB W s L i p) : ∃ y, y < 8 ∧ 0 < W p y ∧ Bk W s s (L - (i + 1)) y := by
  rcases hp.2 with ⟨z, rfl⟩ | ⟨z, hb⟩
  · obtain ⟨y, k, h1, h2, h3, h4, h5⟩ := hL.1 (by omega)
    exact ⟨y, h2, h3, by subst z; rw [h5]; exact h4⟩
  · obtain ⟨k, hk⟩ : ∃ k, L - i = k + 1 := ⟨L - i - 1, by omega⟩
    rw [hk] at hb
    obtain ⟨_, _, _, y, h1, h2, h3⟩ := hb
    exact ⟨y, h1, h2, by rw [show L - (i + 1) = k by omega]; exact h3⟩
/- sums after a taking; facts of a ring -/
theorem takL_sum {P Q : Lot → Bool} (hP : nfree P) (hQ : nfree Q) : ∀ (t q : Nat) (ls : List Lot), q < 2 ^ 31 → okN ls → q ≤ sumN P ls → (q = 0 ∨ cntN P ls ≤ t) →
    ((∀ l, P l = true → Q l = true) → sumN Q (takL P t (nI q) ls) + q = sumN Q ls) ∧ ((∀ l, P l = true → Q l = false) → sumN Q (takL P t (nI q) ls) = sumN Q ls) := by
  intro t
  induction t with
  | zero =>
    intro q ls h31 hok hq ht
    have q0 : q = 0 := by
      rcases ht with z | z
      · exact z
      · have := sum0_of_cnt0 (P := P) hok (by omega)
        omega
    subst q0
    exact ⟨fun _ => rfl, fun _ => rfl⟩
  | succ t ih =>
    intro q ls h31 hok hq ht
    rcases Nat.eq_zero_or_pos q with z | z
    · subst z
      rw [takL, if_pos (by decide)]
      exact ⟨fun _ => rfl, fun _ => rfl⟩
    · obtain ⟨j, a, l, s, e1, e2, e3, h9, hPl, hs0, e4, e5, e6, e7, hok', hsum, hc⟩ := tak_step hP hok z hq h31
      have hn : ¬ nI q ≤ 0 := by
        have : ¬ nI q ≤ nI 0 := by rw [q_le h31 (by decide)]; omega
        exact this
      rw [takL, if_neg hn, e1]
      dsimp only
      rw [e5, e4, e6, e7]
      obtain ⟨i1, i2⟩ := ih (q - min s q) (setN ls j (nI (s - min s q))) (by omega) hok' (by omega) (by
        rcases hc with hc | hc
        · exact Or.inl hc
        · rcases ht with ht | ht
          · omega
          · exact Or.inr (by omega))
      have hset := sumN_set hQ (nI (s - min s q)) e2
      rw [e3, nI_clamp (by omega), nI_clamp (by omega)] at hset
      refine ⟨fun hh => ?_, fun hh => ?_⟩
      · have := i1 hh
        rw [if_pos (hh l hPl), if_pos (hh l hPl)] at hset
        omega
      · rw [i2 hh]
        rw [hh l hPl] at hset
        simpa using hset
theorem sumN_filter {Q : Lot → Bool} : ∀ {ls : List Lot}, okN ls → sumN Q (ls.filter pos) = sumN Q ls := by
  intro ls
  induction ls with
  | nil => intro _; rfl
  | cons l ls ih =>
    intro hok
    have hi := ih (fun x hx => hok x (List.mem_cons_of_mem _ hx))
    obtain ⟨s, e, h9⟩ := hok l (List.mem_cons_self)
    rw [List.filter_cons, pos_nI e h9]
    by_cases c : 0 < s
    · rw [decide_eq_true c, if_pos rfl]
      show (if Q l then l.n.toNatClampNeg else 0) + sumN Q (ls.filter pos) = (if Q l then l.n.toNatClampNeg else 0) + sumN Q ls
      rw [hi]
    · rw [decide_eq_false c, if_neg (by decide), hi]
      show _ = (if Q l then l.n.toNatClampNeg else 0) + sumN Q ls
      have : s = 0 := by omega
      subst this
      rw [e]
      have : (nI 0).toNatClampNeg = 0 := by decide
      rw [this]
      split <;> omega
def totN (ls : List Lot) : Nat := sumN (fun _ => true) ls
abbrev tkL (kd : Int32) (m p q : Nat) (ls : List Lot) : List Lot := (takL (mtE (nI p) (nI q) kd) 40 (nI m) ls).filter pos
theorem tk_ok {kd : Int32} {m p q : Nat} {ls : List Lot} (hok : okN ls) (hm : m < 2 ^ 31) : okN (tkL kd m p q ls) := filter_okN (takL_okN 40 m ls hm hok)
theorem tk_tot {kd : Int32} {m p q : Nat} {ls : List Lot} (hok : okN ls) (h40 : ls.length ≤ 40) (hm : m < 2 ^ 31) (h : m ≤ WN kd ls p q) : totN (tkL kd m p q ls) + m = totN ls := by
  unfold totN tkL
  rw [sumN_filter (takL_okN 40 m ls hm hok)]
  exact (takL_sum (mtE_nfree _ _ _) (fun _ _ => rfl) 40 m ls hm hok h (Or.inr (Nat.le_trans cntN_le h40))).1 (fun _ _ => rfl)
theorem tk_WN {kd : Int32} {m p q d c : Nat} {ls : List Lot} (hok : okN ls) (h40 : ls.length ≤ 40) (hm : m < 2 ^ 31) (h : m ≤ WN kd ls p q) (hp : p < 2 ^ 31) (hd : d < 2 ^ 31) (hdp : d ≠ p) : WN kd (tkL kd m p q ls) d c = WN kd ls d c := by
  unfold WN tkL
  rw [sumN_filter (takL_okN 40 m ls hm hok)]
  refine (takL_sum (mtE_nfree _ _ _) (mtE_nfree _ _ _) 40 m ls hm hok h (Or.inr (Nat.le_trans cntN_le h40))).2 (fun l hl => ?_)
  unfold mtE at hl ⊢
  rw [Bool.and_eq_true, Bool.and_eq_true] at hl
  have h1 : l.d = nI p := of_decide_eq_true hl.1.1
  rw [h1, decide_eq_false (fun e => hdp ((nI_eq hp hd).mp e).symm), Bool.false_and, Bool.false_and]
theorem tk_len {kd : Int32} {m p q : Nat} {ls : List Lot} (h40 : ls.length ≤ 40) : (tkL kd m p q ls).length ≤ 40 := Nat.le_trans (List.length_filter_le _ _) (by rw [takL_len]; exact h40)
/- a ring's pupils -/
def nx (L i : Nat) : Nat := if i + 1 < L then i + 1 else 0
theorem nx_lt {L i : Nat} (h : 0 < L) : nx L i < L := by unfold nx; split <;> omega
theorem Ring.okP {W : Nat → Nat → Nat} {L : Nat} {P : Nat → Nat} {D : Nat → Nat} (h : Ring W L P) (hL : 0 < L) (hx : DX W (P 0) (P 0) D) : ∀ i, i < L → okP W D (P 0) L i (P i) := by
  rcases h with ⟨h1, _⟩ | ⟨_, ⟨h1, _, h3, _⟩, h6⟩
  · omega
  intro i
  induction i with
  | zero => intro _; exact ⟨h1, Or.inl ⟨rfl, rfl⟩⟩
  | succ i ih =>
    intro hi
    have s := h6 i hi
    have k := ih (by omega)
    exact ⟨s.1, Or.inr ⟨by omega, s.2.1.1, (pth_iff h1 hx h3 hi k s.1 s.2.1.2).mpr s.2.1.1⟩⟩
abbrev RF (W : Nat → Nat → Nat) (L : Nat) (P : Nat → Nat) : Prop := 2 ≤ L ∧ L ≤ 8 ∧ (∀ i, i < L → P i < 8) ∧ (∀ i j, i < L → j < L → P i = P j → i = j) ∧ ∀ i, i < L → 0 < W (P i) (P (nx L i))
theorem Ring.rf {W : Nat → Nat → Nat} {L : Nat} {P : Nat → Nat} (hb : ∀ d c, d < 8 → c < 8 → W d c ≤ 1000) (h : Ring W L P) (hL : 0 < L) : RF W L P := by
  have hh := h
  rcases hh with ⟨h1, _⟩ | ⟨_, ⟨h1, _, h3, _⟩, h6⟩
  · omega
  obtain ⟨D, hx⟩ := DX_ex (W := W) h1 h1 hb
  have k := h.okP hL hx
  have dist : ∀ i, i < L → D (P i) = if i = 0 then 0 else L - i := fun i hi => by
    rcases (k i hi).2 with ⟨a, b⟩ | ⟨a, _, b⟩
    · rw [if_pos a, b]; exact hx.1
    · rw [if_neg (by omega)]; exact b
  refine ⟨h3.ge hL, h3.le h1 hb, fun i hi => (k i hi).1, fun i j hi hj e => ?_, fun i hi => ?_⟩
  · have a := dist i hi
    have b := dist j hj
    rw [e] at a
    rw [a] at b
    split at b <;> split at b <;> omega
  · unfold nx
    by_cases c : i + 1 < L
    · rw [if_pos c]; exact (h6 i c).2.1.2
    · rw [if_neg c]
      rcases (k i hi).2 with ⟨a, b⟩ | ⟨a, b, _⟩
      · have := h3.ge hL; omega
      · rw [show L - i = 0 + 1 by omega] at b
        obtain ⟨_, _, _, y, _, h2, h3⟩ := b
        have : y = P 0 := h3
        rw [← this]; exact h2

/- the amount of a ring: both sides -/
def amN (W : Nat → Nat → Nat) (L : Nat) (P : Nat → Nat) : Nat → Nat → Nat → Nat
  | 0, _, m => m
  | n + 1, i, m => amN W L P n (i + 1) (min m (W (P i) (P (nx L i))))
theorem amN_cong {W : Nat → Nat → Nat} {L : Nat} {P Q : Nat → Nat} (h : ∀ i, i < L → P i = Q i) : ∀ (n i m : Nat), i + n ≤ L → amN W L P n i m = amN W L Q n i m := by
  intro n
  induction n with
  | zero => intro i m _; rfl
  | succ n ih =>
    intro i m hi
    unfold amN
    rw [ih (i + 1) _ (by omega), h i (by omega), h (nx L i) (nx_lt (by omega))]
theorem amN_le {W : Nat → Nat → Nat} {L : Nat} {P : Nat → Nat} : ∀ (n i m : Nat), amN W L P n i m ≤ m ∧ (∀ j, i ≤ j → j < i + n → amN W L P n i m ≤ W (P j) (P (nx L j))) ∧ (0 < m → (∀ j, i ≤ j → j < i + n → 0 < W (P j) (P (nx L j))) → 0 < amN W L P n i m) := by
  intro n
  induction n with
  | zero => intro i m; exact ⟨Nat.le_refl _, fun j a b => by omega, fun h _ => h⟩
  | succ n ih =>
    intro i m
    unfold amN
    obtain ⟨h1, h2, h3⟩ := ih (i + 1) (min m (W (P i) (P (nx L i))))
    refine ⟨by omega, fun j a b => ?_, fun a b => h3 (by have := b i (Nat.le_refl _) (by omega); omega) (fun j c d => b j (by omega) (by omega))⟩
    by_cases e : j = i
    · subst e; omega
    · exact h2 j (by omega) (by omega)
theorem c_nextP {w : St} {L : Nat} {P : Nat → Nat} (hP : ∀ j, j < L → P j < 8 ∧ w 4 j = nI (P j)) (hL8 : L ≤ 8) {i : Nat} (hi : i < L) : X3_nextPupil w (nI i) = some (nI (P i)) := by
  rw [X3_nextPupil, q_at (by omega) (by decide), Option.bind_some, (hP i hi).2]
theorem c_behind {w : St} {L : Nat} {P : Nat → Nat} (h4 : w 99 4 = nI L) (hP : ∀ j, j < L → P j < 8 ∧ w 4 j = nI (P j)) (hL8 : L ≤ 8) {i : Nat} (hi : i < L) : X3_pupilBehind w (nI i) = some (nI (P (nx L i))) := by
  rw [X3_pupilBehind, h4, q_1]
  have hc : (nI L ≤ nI (i + 1)) = (L ≤ i + 1) := q_le (by omega) (by omega)
  unfold nx
  by_cases c : i + 1 < L
  · rw [if_neg (fun z => by have := hc.mp z; omega), if_pos c, X3_pupilBehind_b21, q_at (by omega) (by decide), Option.bind_some, (hP _ c).2]
  · rw [if_pos (hc.mpr (by omega)), if_neg c, X3_pupilBehind_b21]
    have e : X4_at (w 4) 8 (0 : Int32) = some (w 4 0) := q_at (k := 0) (by decide) (by decide)
    rw [e, Option.bind_some, (hP 0 (by omega)).2]
theorem c_amt_l {W : Nat → Nat → Nat} {w : St} {L : Nat} {P : Nat → Nat} (hb : ∀ d c, d < 8 → c < 8 → W d c ≤ 1000) (hW : ∀ d c, d < 8 → c < 8 → w 1 (8 * d + c) = nI (W d c)) (h4 : w 99 4 = nI L) (hP : ∀ j, j < L → P j < 8 ∧ w 4 j = nI (P j)) (hL8 : L ≤ 8) (h0 : 0 < L) :
    ∀ (n fu i x m : Nat), n < fu → i + n = L → (0 < i → x = m) → (i = 0 → m = 1000) → m ≤ 1000 → X3_nextAmount_l4 w fu (nI x) (nI i) = some (nI (amN W L P n i m)) := by
  intro n
  induction n with
  | zero =>
    intro fu i x m hf hi hx hm _
    obtain ⟨fu, rfl⟩ : ∃ f, fu = f + 1 := ⟨fu - 1, by omega⟩
    rw [X3_nextAmount_l4, h4, if_pos (by rw [q_le (by omega) (by omega)]; omega), hx (by omega)]; rfl
  | succ n ih =>
    intro fu i x m hf hi hx hm h1
    obtain ⟨fu, rfl⟩ : ∃ f, fu = f + 1 := ⟨fu - 1, by omega⟩
    have hp := (hP i (by omega)).1
    have hp2 := (hP (nx L i) (nx_lt (by omega))).1
    have hw := hb (P i) (P (nx L i)) hp hp2
    rw [X3_nextAmount_l4, h4, if_neg (by rw [q_le (by omega) (by omega)]; omega), c_nextP hP hL8 (by omega), Option.bind_some, c_behind h4 hP hL8 (by omega), Option.bind_some, c_owed hW hp hp2, Option.bind_some, q_1]
    have e0 : (nI i = (0 : Int32)) = (i = 0) := propext (nI_eq (b := 0) (by omega) (by decide))
    unfold amN
    by_cases c : i = 0
    · rw [if_pos (e0.mpr c)]
      exact ih fu (i + 1) _ _ (by omega) (by omega) (fun _ => by have := hm c; omega) (fun z => by omega) (by omega)
    · rw [if_neg (fun z => c (e0.mp z)), hx (by omega)]
      have hc : (nI (W (P i) (P (nx L i))) < nI m) = (W (P i) (P (nx L i)) < m) := q_lt (by omega) (by omega)
      by_cases c2 : W (P i) (P (nx L i)) < m
      · rw [if_pos (hc.mpr c2)]
        exact ih fu (i + 1) _ _ (by omega) (by omega) (fun _ => by omega) (fun z => by omega) (by omega)
      · rw [if_neg (fun z => c2 (hc.mp z))]
        exact ih fu (i + 1) _ _ (by omega) (by omega) (fun _ => by omega) (fun z => by omega) (by omega)
theorem rem_nx : ∀ L i : Fin 9, i.val < L.val → remI (nI (i.val + 1)) (nI L.val) = some (nI (nx L.val i.val)) := by decide
/- the next ring of a state, named -/
noncomputable def rgL (W : Nat → Nat → Nat) : Nat := @dite Nat (∃ (L : Nat) (P : Nat → Nat), Ring W L P) (Classical.propDecidable _) (fun h => h.choose) (fun _ => 0)
noncomputable def rgP (W : Nat → Nat → Nat) : Nat → Nat := @dite (Nat → Nat) (∃ (L : Nat) (P : Nat → Nat), Ring W L P) (Classical.propDecidable _) (fun h => h.choose_spec.choose) (fun _ _ => 0)
theorem Ring.named {W : Nat → Nat → Nat} {L : Nat} {P : Nat → Nat} (h : Ring W L P) : Ring W (rgL W) (rgP W) := by
  have hh : ∃ (L : Nat) (P : Nat → Nat), Ring W L P := ⟨L, P, h⟩
  unfold rgL rgP
  rw [dif_pos hh, dif_pos hh]
  exact hh.choose_spec.choose_spec
theorem Ring.eL {W : Nat → Nat → Nat} {L : Nat} {P : Nat → Nat} (h : Ring W L P) : L = rgL W := (h.uniq h.named).1
theorem Ring.eP {W : Nat → Nat → Nat} {L : Nat} {P : Nat → Nat} (h : Ring W L P) {i : Nat} (hi : i < L) : P i = rgP W i := (h.uniq h.named).2 i hi
noncomputable def rgA (W : Nat → Nat → Nat) : Nat := amN W (rgL W) (rgP W) (rgL W) 0 1000
theorem c_next' {v : St} {a : AS} (h : RC v a) (ho : OK a) (vR : St) {kd : Int32} (hkd : kd ≠ -1) :
    ∃ w, X3_findNext vR v kd = some ((if rgL (WN kd a.1) = 0 then 0 else 1), w) ∧ Ring (WN kd a.1) (rgL (WN kd a.1)) (rgP (WN kd a.1)) ∧ rgL (WN kd a.1) ≤ 8 ∧ w 99 4 = nI (rgL (WN kd a.1)) ∧ (∀ j, j < rgL (WN kd a.1) → rgP (WN kd a.1) j < 8 ∧ w 4 j = nI (rgP (WN kd a.1) j)) ∧ (∀ d c, d < 8 → c < 8 → w 1 (8 * d + c) = nI (WN kd a.1 d c)) := by
  obtain ⟨w, L, P, h1, h2, h3, h4, h5, h6⟩ := c_next h ho vR hkd
  have eL := h2.eL
  have eP := fun i (hi : i < L) => h2.eP hi
  subst eL
  exact ⟨w, h1, h2.named, h3, h4, fun j hj => by rw [← eP j hj]; exact h5 j hj, h6⟩
theorem c_amt {w : St} {W : Nat → Nat → Nat} (hb : ∀ d c, d < 8 → c < 8 → W d c ≤ 1000) (hW : ∀ d c, d < 8 → c < 8 → w 1 (8 * d + c) = nI (W d c)) (h4 : w 99 4 = nI (rgL W)) (hP : ∀ j, j < rgL W → rgP W j < 8 ∧ w 4 j = nI (rgP W j)) (hL8 : rgL W ≤ 8) (h0 : 0 < rgL W) : X3_nextAmount w = some (nI (rgA W)) := by
  rw [X3_nextAmount]
  exact c_amt_l hb hW h4 hP hL8 h0 (rgL W) FU 0 0 1000 (by show _ < 2000; omega) (by omega) (fun z => by omega) (fun _ => rfl) (by omega)
/- one ring cleared: both sides -/
theorem upd_upd {f : Nat → Int32} {k : Nat} {x y : Int32} : upd (upd f k x) k y = upd f k y := by
  funext j
  by_cases h : j = k
  · subst h; rw [q_up, q_up]
  · rw [q_un h, q_un h, q_un h]
theorem upd_self {f : Nat → Int32} {k : Nat} : upd f k (f k) = f := by
  funext j
  by_cases h : j = k
  · subst h; rw [q_up]
  · rw [q_un h]
abbrev LPU : Type := List Lot × (Nat → Nat → Int32)
def trn (kd : Int32) (L : Nat) (P : Nat → Nat) (m : Nat) : Nat → Nat → LPU → LPU
  | 0, _, x => x
  | n + 1, i, x => trn kd L P m n (i + 1) (tkL kd m (P i) (P (nx L i)) x.1, updP x.2 7 (P i) (x.2 7 (P i) + nI m))
def EN (kd : Int32) (ls : List Lot) (L : Nat) (P : Nat → Nat) (m i : Nat) : Prop := ∀ j, i ≤ j → j < L → m ≤ WN kd ls (P j) (P (nx L j))
abbrev PI (L : Nat) (P : Nat → Nat) : Prop := (∀ i, i < L → P i < 8) ∧ ∀ i j, i < L → j < L → P i = P j → i = j
theorem EN.step {kd : Int32} {ls : List Lot} {L : Nat} {P : Nat → Nat} {m i : Nat} (h : EN kd ls L P m i) (hp : PI L P) (hok : okN ls) (h40 : ls.length ≤ 40) (hm : m < 2 ^ 31) (hi : i < L) : EN kd (tkL kd m (P i) (P (nx L i)) ls) L P m (i + 1) := fun j a b => by
  have h1 := hp.1 i hi
  have h2 := hp.1 j b
  rw [tk_WN hok h40 hm (h i (Nat.le_refl _) hi) (by omega) (by omega) (fun e => by have := hp.2 j i b hi e; omega)]
  exact h j (by omega) b
theorem trn_ok {kd : Int32} {L : Nat} {P : Nat → Nat} {m : Nat} (hp : PI L P) (hm : m < 2 ^ 31) : ∀ (n i : Nat) (x : LPU), i + n = L → okN x.1 → x.1.length ≤ 40 → EN kd x.1 L P m i →
    totN (trn kd L P m n i x).1 + m * n = totN x.1 ∧ (trn kd L P m n i x).1.length ≤ 40 ∧ (trn kd L P m n i x).2 5 = x.2 5 := by
  intro n
  induction n with
  | zero => intro i x _ _ h40 _; exact ⟨rfl, h40, rfl⟩
  | succ n ih =>
    intro i x hi hok h40 hE
    obtain ⟨h1, h2, h3⟩ := ih (i + 1) (tkL kd m (P i) (P (nx L i)) x.1, updP x.2 7 (P i) (x.2 7 (P i) + nI m)) (by omega) (tk_ok hok hm) (tk_len h40) (hE.step hp hok h40 hm (by omega))
    have h4 := tk_tot hok h40 hm (hE i (Nat.le_refl _) (by omega))
    unfold trn
    refine ⟨?_, h2, h3.trans (updP_r (f := x.2) (r := 7) (p := P i) (x := x.2 7 (P i) + nI m) (r' := 5) (by decide))⟩
    dsimp only at h1
    rw [Nat.mul_add_one]
    omega
theorem trn_L {kd : Int32} {L : Nat} {P : Nat → Nat} {m N : Nat} (hm : m < 2 ^ 31) : ∀ (n i : Nat) (x : LPU), (∀ l ∈ x.1, okL N l) → ∀ l ∈ (trn kd L P m n i x).1, okL N l := by
  intro n
  induction n with
  | zero => intro i x h; exact h
  | succ n ih =>
    intro i x h
    unfold trn
    refine ih (i + 1) _ (fun l hl => ?_)
    obtain ⟨m1, m2⟩ := List.mem_filter.mp hl
    exact (takL_okZ 40 m x.1 hm (fun l hl => (h l hl).z) l m1).l m2
theorem c_trn {kd : Int32} (hkd : kd ≠ -1) {L : Nat} {P : Nat → Nat} {m : Nat} (hp : PI L P) (hL8 : L ≤ 8) (hm : m < 2 ^ 31) {vR : St} (h4 : vR 99 4 = nI L) (hP : ∀ j, j < L → P j < 8 ∧ vR 4 j = nI (P j)) (k15 : St → St → Int32 → Int32 → Option (Int32 × St × St)) (x3 x4 : Int32) :
    ∀ (n fu i : Nat) (vB : St) (ls : List Lot) (nu : Nat → Int32) (pu : Nat → Nat → Int32), n < fu → i + n = L → RC vB (ls, nu, pu) → okN ls → EN kd ls L P m i →
    ∃ v', X3_clearKind_l41 kd k15 fu vR vB x3 x4 (nI m) (nI i) = X3_clearKind_b87 kd k15 vR v' x3 x4 (nI m) ∧ RC v' ((trn kd L P m n i (ls, pu)).1, upd nu 7 (nu 7 + nI (m * n)), (trn kd L P m n i (ls, pu)).2) := by
  intro n
  induction n with
  | zero =>
    intro fu i vB ls nu pu hf hi h hok hE
    obtain ⟨fu, rfl⟩ : ∃ f, fu = f + 1 := ⟨fu - 1, by omega⟩
    refine ⟨vB, by rw [X3_clearKind_l41, h4, if_pos (by rw [q_le (by omega) (by omega)]; omega)], ?_⟩
    rw [Nat.mul_zero, nadd0, upd_self]
    exact h
  | succ n ih =>
    intro fu i vB ls nu pu hf hi h hok hE
    obtain ⟨fu, rfl⟩ : ∃ f, fu = f + 1 := ⟨fu - 1, by omega⟩
    have hpi := hp.1 i (by omega)
    have hpn := hp.1 (nx L i) (nx_lt (by omega))
    have eE := mt_E (nI_m1 (k := P i) (by omega)) (nI_m1 (k := P (nx L i)) (by omega)) hkd
    obtain ⟨u, e, l, f⟩ := q_take h.1 hok (nI (P i)) (nI (P (nx L i))) kd (q := m) (by rw [eE]; exact hE i (Nat.le_refl _) (by omega))
    rw [eE] at l
    have r0 : RC u (tkL kd m (P i) (P (nx L i)) ls, nu, pu) := h.lots l f
    have e7 : u 7 (P i) = pu 7 (P i) := r0.2.2 7 (P i) (by decide) (by decide) hpi
    have n7 : u 1 7 = nu 7 := r0.2.1 7 (by decide) (by decide)
    have r1 := r0.row (r := 7) (p := P i) (pu 7 (P i) + nI m) (by decide) (by decide) hpi
    have r2 := r1.num (i := 7) (nu 7 + nI m) (by decide)
    rw [q_sN u _ (by decide)] at r2
    have ea : X4_add (u 1) 26 (7 : Int32) (nI m) = some (upd (u 1) 7 (u 1 7 + nI m)) := q_add (k := 7) (by decide) (by decide)
    obtain ⟨v', a1, a2⟩ := ih fu (i + 1) _ _ _ _ (by omega) (by omega) r2 (tk_ok hok hm) (hE.step hp hok h.1.2.1 hm (by omega))
    refine ⟨v', ?_, ?_⟩
    · rw [X3_clearKind_l41, h4, if_neg (by rw [q_le (by omega) (by omega)]; omega), c_nextP hP hL8 (by omega), Option.bind_some, c_behind h4 hP hL8 (by omega), Option.bind_some, e, Option.bind_some, Option.bind_some, X0_countCleared, q_add (by omega) (by decide), Option.bind_some, ea, Option.bind_some, Option.bind_some, q_1, e7, n7]
      exact a1
    · rw [upd_upd, q_up, Int32.add_assoc, nI_add, show m + m * n = m * (n + 1) by rw [Nat.mul_add_one, Nat.add_comm]] at a2
      exact a2
/- all rings of a kind cleared: both sides -/
noncomputable def turnS (kd : Int32) (a : AS) : AS :=
  ((trn kd (rgL (WN kd a.1)) (rgP (WN kd a.1)) (rgA (WN kd a.1)) (rgL (WN kd a.1)) 0 (a.1, a.2.2)).1,
    upd (upd a.2.1 7 (a.2.1 7 + nI (rgA (WN kd a.1) * rgL (WN kd a.1)))) 9 (a.2.1 9 + 1),
    (trn kd (rgL (WN kd a.1)) (rgP (WN kd a.1)) (rgA (WN kd a.1)) (rgL (WN kd a.1)) 0 (a.1, a.2.2)).2)
noncomputable def clrN (kd : Int32) : Nat → AS → Nat → Nat × AS
  | 0, a, s => (s, a)
  | n + 1, a, s => if rgL (WN kd a.1) = 0 then (s, a) else clrN kd n (turnS kd a) (s + rgA (WN kd a.1) * rgL (WN kd a.1))
theorem turn_ok {kd : Int32} {a : AS} (ho : OK a) (hR : Ring (WN kd a.1) (rgL (WN kd a.1)) (rgP (WN kd a.1))) (h0 : 0 < rgL (WN kd a.1)) :
    OK (turnS kd a) ∧ totN (turnS kd a).1 + rgA (WN kd a.1) * rgL (WN kd a.1) = totN a.1 ∧ 0 < rgA (WN kd a.1) * rgL (WN kd a.1) ∧ rgA (WN kd a.1) ≤ 1000 ∧ PI (rgL (WN kd a.1)) (rgP (WN kd a.1)) ∧ EN kd a.1 (rgL (WN kd a.1)) (rgP (WN kd a.1)) (rgA (WN kd a.1)) 0 := by
  obtain ⟨f1, f2, f3, f4, f5⟩ := hR.rf (WN_le ho kd) h0
  obtain ⟨a1, a2, a3⟩ := amN_le (W := WN kd a.1) (L := rgL (WN kd a.1)) (P := rgP (WN kd a.1)) (rgL (WN kd a.1)) 0 1000
  have hE : EN kd a.1 (rgL (WN kd a.1)) (rgP (WN kd a.1)) (rgA (WN kd a.1)) 0 := fun j _ hj => a2 j (by omega) (by omega)
  have hA : 0 < rgA (WN kd a.1) := a3 (by decide) (fun j _ hj => f5 j (by omega))
  have hA1 : rgA (WN kd a.1) ≤ 1000 := a1
  have hp : PI (rgL (WN kd a.1)) (rgP (WN kd a.1)) := ⟨f3, f4⟩
  obtain ⟨t1, t2, t3⟩ := trn_ok hp (m := rgA (WN kd a.1)) (by omega) (rgL (WN kd a.1)) 0 (a.1, a.2.2) (by omega) ho.okN ho.1 hE
  refine ⟨ho.to t2 (fun N _ _ hl => trn_L (by omega) _ _ _ hl) t3 (fun i hi => ?_), t1, Nat.mul_pos hA h0, hA1, hp, hE⟩
  show upd (upd a.2.1 7 _) 9 _ i = a.2.1 i
  rw [q_un (by omega), q_un (by omega)]
theorem c_clr {kd : Int32} (hkd : kd ≠ -1) : ∀ (n fu x4 s : Nat) (vR vB : St) (a : AS), totN a.1 ≤ n → n < fu → x4 + n < 1000 → RC vB a → OK a →
    ∃ vR' vB', X3_clearKind_l15 kd fu vR vB (nI s) (nI x4) = some (nI (clrN kd n a s).1, vR', vB') ∧ RC vB' (clrN kd n a s).2 ∧ OK (clrN kd n a s).2 ∧ (clrN kd n a s).1 ≤ s + totN a.1 := by
  intro n
  induction n with
  | zero =>
    intro fu x4 s vR vB a ht hf hx h ho
    obtain ⟨fu, rfl⟩ : ∃ f, fu = f + 1 := ⟨fu - 1, by omega⟩
    obtain ⟨w, h1, h2, h3, h4, h5, h6⟩ := c_next' h ho vR hkd
    have h0 : rgL (WN kd a.1) = 0 := by
      rcases Nat.eq_zero_or_pos (rgL (WN kd a.1)) with z | z
      · exact z
      · obtain ⟨_, t1, t2, _⟩ := turn_ok ho h2 z; omega
    rw [if_pos h0] at h1
    refine ⟨w, vB, ?_, h, ho, by unfold clrN; omega⟩
    rw [X3_clearKind_l15, if_neg (by
      have : ¬ nI 1000 ≤ nI x4 := by rw [q_le (by decide) (by omega)]; omega
      exact this), h1, Option.bind_some, if_pos rfl]
    rfl
  | succ n ih =>
    intro fu x4 s vR vB a ht hf hx h ho
    obtain ⟨fu, rfl⟩ : ∃ f, fu = f + 1 := ⟨fu - 1, by omega⟩
    obtain ⟨w, h1, h2, h3, h4, h5, h6⟩ := c_next' h ho vR hkd
    have hlim : ¬ (1000 : Int32) ≤ nI x4 := by
      have : ¬ nI 1000 ≤ nI x4 := by rw [q_le (by decide) (by omega)]; omega
      exact this
    unfold clrN
    by_cases h0 : rgL (WN kd a.1) = 0
    · rw [if_pos h0] at h1
      rw [if_pos h0]
      refine ⟨w, vB, ?_, h, ho, by dsimp only; omega⟩
      rw [X3_clearKind_l15, if_neg hlim, h1, Option.bind_some, if_pos rfl]
    · rw [if_neg h0] at h1
      rw [if_neg h0]
      have hp : 0 < rgL (WN kd a.1) := by omega
      obtain ⟨t1, t2, t3, t4, t5, t6⟩ := turn_ok ho h2 hp
      have ea := c_amt (WN_le ho kd) h6 h4 h5 h3 hp
      obtain ⟨v', a1, a2⟩ := c_trn hkd t5 h3 (by omega) h4 h5 (X3_clearKind_l15 kd fu) (nI s) (nI x4) (rgL (WN kd a.1)) FU 0 vB a.1 a.2.1 a.2.2 (by show _ < 2000; omega) (by omega) h ho.okN t6
      have n9 : v' 1 9 = a.2.1 9 := by
        rw [a2.2.1 9 (by decide) (by decide)]
        show upd a.2.1 7 (a.2.1 7 + nI (rgA (WN kd a.1) * rgL (WN kd a.1))) 9 = a.2.1 9
        exact q_un (by decide)
      have r := a2.num (i := 9) (a.2.1 9 + 1) (by decide)
      obtain ⟨vR', vB', b1, b2, b3, b4⟩ := ih fu (x4 + 1) (s + rgA (WN kd a.1) * rgL (WN kd a.1)) w (setA v' 1 (upd (v' 1) 9 (a.2.1 9 + 1))) (turnS kd a) (by omega) (by omega) (by omega) r t1
      refine ⟨vR', vB', ?_, b2, b3, by omega⟩
      have e9 : X4_add (v' 1) 26 (9 : Int32) (1 : Int32) = some (upd (v' 1) 9 (v' 1 9 + 1)) := q_add (k := 9) (by decide) (by decide)
      have em : nI s + nI (rgA (WN kd a.1)) * nI (rgL (WN kd a.1)) = nI (s + rgA (WN kd a.1) * rgL (WN kd a.1)) := by rw [pk_mul, nI_add]
      rw [X3_clearKind_l15, if_neg hlim, h1, Option.bind_some, if_neg (show ¬ (1 : Int32) = 0 by decide), ea, Option.bind_some]
      refine a1.trans ?_
      rw [X3_clearKind_b87, X0_countRing, e9, Option.bind_some, Option.bind_some, h4, em, q_1, n9]
      exact b1
noncomputable def clearS (a : AS) (p1 : Int32) : Int32 × AS := bif kIn p1 0 3 then (nI (clrN p1 360 a 0).1, (clrN p1 360 a 0).2) else (-1000001, a)
theorem tot_le {a : AS} (ho : OK a) : totN a.1 ≤ 360 := by
  have := sumN_le (P := fun _ => true) ho.okN
  have := ho.1
  show sumN (fun _ => true) a.1 ≤ 360
  omega
theorem kd_ne {p1 : Int32} (h : kIn p1 0 3 = true) : p1 ≠ -1 := by
  obtain ⟨k, rfl, _, hk⟩ := kIn_nat h (by decide)
  exact nI_m1 (by omega)
theorem c_clearS {v : St} {a : AS} (h : RC v a) (ho : OK a) (vR : St) (p1 : Int32) : ∃ vR' v', X3_clearKind vR v p1 = some ((clearS a p1).1, vR', v') ∧ RC v' (clearS a p1).2 ∧ OK (clearS a p1).2 := by
  rw [X3_clearKind, q_isKind, Option.bind_some, ifb]
  unfold clearS
  cases h1 : kIn p1 0 3 with
  | false => exact ⟨vR, v, rfl, h, ho⟩
  | true =>
    obtain ⟨vR', v', b1, b2, b3, b4⟩ := c_clr (kd_ne h1) 360 FU 0 0 vR v a (tot_le ho) (by decide) (by decide) h ho
    exact ⟨vR', v', b1, b2, b3⟩
theorem clear_pos {a : AS} {p1 : Int32} {n : Nat} (h : n ≤ 360) : ¬ nI n < 0 := nI_pos (by omega)
/- ring, amount, ifCleared, chain: both sides -/
def SameR (v v' : St) : Prop := ∀ r, r ≠ 1 → r ≠ 4 → r ≠ 9 → r ≠ 10 → r ≠ 11 → v' r = v r
/- how a read of the reference answers -/
def MRd (v : St) (a : AS) (r : Option (Int32 × St)) (ans : Int32) : Prop := ∃ v', r = some (ans, v') ∧ RM (v' 1) a ∧ SameR v v'
theorem MRd.no {v : St} {a : AS} (h : RM (v 1) a) (c : Int32) : MRd v a (some (c, v)) c := ⟨v, rfl, h, fun _ _ _ _ _ _ => rfl⟩
noncomputable def ringS (a : AS) (p1 p2 : Int32) : Int32 := bif kIn p1 0 3 then (if 0 ≤ p2 then (if nI (rgL (WN p1 a.1)) ≤ p2 then -1000004 else nI (rgP (WN p1 a.1) (ix p2))) else -1000001) else -1000001
theorem pos_nat {x : Int32} (h : 0 ≤ x) : ∃ k : Nat, x = nI k ∧ k < 2 ^ 31 := by
  rw [le_i, Int32.toInt_zero] at h
  refine ⟨x.toInt.toNat, q_nat h, ?_⟩
  have := Int32.toInt_lt x
  omega
theorem c_ringS {vB : St} {a : AS} (h : RC vB a) (ho : OK a) (vT vH : St) (bH : Nat → St) (vR vO : St) (p1 p2 : Int32) : ∃ vR', X4_ring vB vT vH bH vR vO p1 p2 = some (ringS a p1 p2, vR') := by
  rw [X4_ring, q_isKind, Option.bind_some, ifb]
  unfold ringS
  cases h1 : kIn p1 0 3 with
  | false => exact ⟨vR, rfl⟩
  | true =>
    simp only [cond_true]
    by_cases c0 : (0 : Int32) ≤ p2
    · obtain ⟨k, rfl, hk⟩ := pos_nat c0
      obtain ⟨w, g1, g2, g3, g4, g5, g6⟩ := c_next' h ho vR (kd_ne h1)
      rw [if_pos c0, if_pos c0, g1, Option.bind_some]
      have hc : (nI (rgL (WN p1 a.1)) ≤ nI k) = (rgL (WN p1 a.1) ≤ k) := q_le (by omega) (by omega)
      have hd : (nI k < nI (rgL (WN p1 a.1))) = (k < rgL (WN p1 a.1)) := q_lt (by omega) (by omega)
      by_cases z : rgL (WN p1 a.1) = 0
      · rw [if_pos z, if_pos (show ((0 : Int32), w).1 = 0 from rfl), if_pos (hc.mpr (by omega))]
        exact ⟨w, rfl⟩
      · rw [if_neg z, if_neg (show ¬ ((1 : Int32), w).1 = 0 from (by decide : ¬ (1 : Int32) = 0)), X3_nextLength, Option.bind_some, show ((1 : Int32), w).2 99 4 = nI (rgL (WN p1 a.1)) from g4]
        dsimp only
        by_cases c : k < rgL (WN p1 a.1)
        · rw [if_pos (hd.mpr c), if_neg (fun e => by have := hc.mp e; omega), c_nextP g5 g3 c, ix_nI hk]
          exact ⟨w, rfl⟩
        · rw [if_neg (fun e => c (hd.mp e)), if_pos (hc.mpr (by omega))]
          exact ⟨w, rfl⟩
    · rw [if_neg c0, if_neg c0]; exact ⟨vR, rfl⟩
noncomputable def amountS (a : AS) (p1 : Int32) : Int32 := bif kIn p1 0 3 then (if nI (rgL (WN p1 a.1)) ≤ 0 then -1000004 else nI (rgA (WN p1 a.1))) else -1000001
theorem c_amountS {vB : St} {a : AS} (h : RC vB a) (ho : OK a) (vT vH : St) (bH : Nat → St) (vR vO : St) (p1 : Int32) : ∃ vR', X4_amount vB vT vH bH vR vO p1 = some (amountS a p1, vR') := by
  rw [X4_amount, q_isKind, Option.bind_some, ifb]
  unfold amountS
  cases h1 : kIn p1 0 3 with
  | false => exact ⟨vR, rfl⟩
  | true =>
    simp only [cond_true]
    obtain ⟨w, g1, g2, g3, g4, g5, g6⟩ := c_next' h ho vR (kd_ne h1)
    rw [g1, Option.bind_some]
    have hc : (nI (rgL (WN p1 a.1)) ≤ (0 : Int32)) = (rgL (WN p1 a.1) ≤ 0) := q_le (b := 0) (by omega) (by omega)
    by_cases z : rgL (WN p1 a.1) = 0
    · rw [if_pos z, if_pos (show ((0 : Int32), w).1 = 0 from rfl), if_pos (hc.mpr (by omega))]
      exact ⟨w, rfl⟩
    · rw [if_neg z, if_neg (show ¬ ((1 : Int32), w).1 = 0 from (by decide : ¬ (1 : Int32) = 0)), c_amt (WN_le ho p1) g6 g4 g5 g3 (by omega), Option.bind_some, if_neg (fun e => by have := hc.mp e; omega)]
      exact ⟨w, rfl⟩
noncomputable def ifS (a : AS) (p1 p2 : Int32) : Int32 := bif kIn p1 0 3 then (bif kIn p2 0 2 then (if p2 = 0 then nI (clrN p1 360 a 0).1 else if p2 = 1 then (clrN p1 360 a 0).2.2.1 9 - a.2.1 9 else nI (clrN p1 360 a 0).2.1.length) else -1000001) else -1000001
theorem t2 : (2 : Int32).toInt = 2 := by decide
/- chain: both sides -/
noncomputable def dsN (W : Nat → Nat → Nat) (t x : Nat) : Nat := @dite Nat (∃ D : Nat → Nat, DX W 0 t D) (Classical.propDecidable _) (fun h => h.choose x) (fun _ => 0)
theorem DX.uniq {W : Nat → Nat → Nat} {t x : Nat} {D D' : Nat → Nat} (h : DX W 0 t D) (k : DX W 0 t D') (hx : x < 8) : D x = D' x := by
  by_cases e : x = t
  · subst e; rw [h.1, k.1]
  · have f : ∀ A B : Nat → Nat, DX W 0 t A → DX W 0 t B → 0 < A x → 0 < B x ∧ B x ≤ A x := fun A B a b p => (b.2 x hx e).2 _ ((a.2 x hx e).1 p)
    rcases Nat.eq_zero_or_pos (D x) with z | z
    · rcases Nat.eq_zero_or_pos (D' x) with z' | z'
      · omega
      · have := f D' D k h z'; omega
    · have h1 := f D D' h k z
      have h2 := f D' D k h h1.1
      omega
theorem DX.named {W : Nat → Nat → Nat} {t x : Nat} {D : Nat → Nat} (h : DX W 0 t D) (hx : x < 8) : D x = dsN W t x := by
  have hh : ∃ D : Nat → Nat, DX W 0 t D := ⟨D, h⟩
  unfold dsN
  rw [dif_pos hh]
  exact h.uniq hh.choose_spec hx
def FS (W : Nat → Nat → Nat) (p : Nat) : Nat → Nat → Prop
  | 0, x => x = p
  | k + 1, x => FS W p k x ∨ ∃ y, y < 8 ∧ FS W p k y ∧ 0 < W y x
theorem FS.mono {W : Nat → Nat → Nat} {p k x : Nat} (h : FS W p k x) : ∀ j, FS W p (k + j) x := by
  intro j
  induction j with
  | zero => exact h
  | succ j ih => exact Or.inl ih
theorem FS.fwd {W : Nat → Nat → Nat} {p t : Nat} : ∀ (j k x : Nat), x < 8 → FS W p k x → Bk W 0 t j x → FS W p (k + j) t := by
  intro j
  induction j with
  | zero => intro k x _ h b; have : x = t := b
            subst this; exact h
  | succ j ih =>
    intro k x hx h b
    obtain ⟨_, _, _, y, h1, h2, h3⟩ := b
    have := ih (k + 1) y h1 (Or.inr ⟨x, hx, h, h2⟩) h3
    rw [show k + (j + 1) = k + 1 + j by omega]; exact this
theorem FS.back {W : Nat → Nat → Nat} {p t : Nat} : ∀ (k y : Nat), y < 8 → FS W p k y → ∀ j, Bk W 0 t j y → ∃ i, i ≤ j + k ∧ Bk W 0 t i p := by
  intro k
  induction k with
  | zero => intro y _ h j b; have : y = p := h
            subst this; exact ⟨j, by omega, b⟩
  | succ k ih =>
    intro y hy h j b
    rcases h with h | ⟨z, z1, z2, z3⟩
    · obtain ⟨i, i1, i2⟩ := ih y hy h j b
      exact ⟨i, by omega, i2⟩
    · by_cases e : z = t
      · subst e
        obtain ⟨i, i1, i2⟩ := ih z z1 z2 0 rfl
        exact ⟨i, by omega, i2⟩
      · obtain ⟨i, i1, i2⟩ := ih z z1 z2 (j + 1) ⟨by omega, z1, e, y, hy, z3, b⟩
        exact ⟨i, by omega, i2⟩
theorem FS_iff {W : Nat → Nat → Nat} {p t k : Nat} {D : Nat → Nat} (hx : DX W 0 t D) (hp : p < 8) (ht : t < 8) (hne : p ≠ t) : FS W p k t ↔ 0 < D p ∧ D p ≤ k := by
  constructor
  · intro h
    obtain ⟨i, i1, i2⟩ := FS.back k t ht h 0 rfl
    obtain ⟨d1, d2⟩ := (hx.2 p hp hne).2 i i2
    exact ⟨d1, by omega⟩
  · rintro ⟨h1, h2⟩
    have := FS.fwd (W := W) (p := p) (t := t) (D p) 0 p hp rfl ((hx.2 p hp hne).1 h1)
    have m := FS.mono this (k - D p)
    rw [show 0 + D p + (k - D p) = k by omega] at m
    exact m
noncomputable def chainS (a : AS) (p1 p2 p3 : Int32) : Int32 := bif kPr a p1 p2 then (bif kIn p3 0 3 then (if dsN (WN p3 a.1) (ix p2) (ix p1) = 0 then -1000004 else nI (dsN (WN p3 a.1) (ix p2) (ix p1))) else -1000001) else -1000001
/- reads at the face: owes, why, lot, pupilOf -/
theorem kP_d {a : AS} {x : Int32} (ho : OK a) (h : kP a x = true) : ∃ d : Nat, x = nI d ∧ d < 8 := by
  obtain ⟨_, P, h8, hP, _⟩ := ho
  obtain ⟨d, e, hd⟩ := kP_nat h hP h8
  exact ⟨d, e, by omega⟩
theorem c5 {j : Nat} (h : j < 6) : j = 0 ∨ j = 1 ∨ j = 2 ∨ j = 3 ∨ j = 4 ∨ j = 5 := by omega
/- balances -/
def balS (a : AS) (d : Nat) : Int32 := sumS (mt (-1) (nI d) (-1)) 0 a.1 - sumS (mt (nI d) (-1) (-1)) 0 a.1
theorem c_bal {v : St} {a : AS} (h : RC v a) (d : Nat) : X0_balanceByLots v (nI d) = some (balS a d) := by
  rw [X0_balanceByLots, q_sumOwed h.1, Option.bind_some, q_sumOwed h.1, Option.bind_some]; rfl
theorem c8 {j : Nat} (h : j < 9) : j = 0 ∨ j = 1 ∨ j = 2 ∨ j = 3 ∨ j = 4 ∨ j = 5 ∨ j = 6 ∨ j = 7 ∨ j = 8 := by omega
/- reads at the face: deepest, spoilsIn, richest -/
def mD (d k : Int32) (l : Lot) : Bool := decide (l.d = d) && decide (l.k = k)
theorem mt_D {d k : Int32} (hd : d ≠ -1) (hk : k ≠ -1) (l : Lot) : mt d (-1) k l = mD d k l := by
  simp only [mt, mD, hd, hk, decide_false, Bool.false_or, decide_true, Bool.true_or, Bool.and_true]
  congr 1
  · congr 1; exact propext eq_comm
  · congr 1; exact propext eq_comm
/- when the next of a pupil's lots spoils -/
def tW (nu : Nat → Int32) (l : Lot) : Int32 := if 1 < nu (20 + ix l.2.2.1) - l.2.2.2.2.1 then nu (20 + ix l.2.2.1) - l.2.2.2.2.1 else 1
theorem tW_pos (nu : Nat → Int32) (l : Lot) : 0 < tW nu l := by
  unfold tW
  split
  · next c => exact Int32.lt_trans (by decide) c
  · decide
theorem tW_M (x : Int32) : (if 1 ≤ x then x else 1) = if 1 < x then x else 1 := by
  by_cases c : 1 < x
  · rw [if_pos c, if_pos (Int32.le_of_lt c)]
  · rw [if_neg c]
    by_cases d : 1 ≤ x
    · rw [if_pos d]; exact Int32.le_antisymm (Int32.not_lt.mp c) d
    · rw [if_neg d]
def spS (p : Int32) (nu : Nat → Int32) : List Lot → Option Int32 → Option Int32
  | [], o => o
  | l :: ls, o => spS p nu ls (if mt p (-1) (-1) l = true then (match o with
    | none => some (tW nu l)
    | some x => some (if tW nu l < x then tW nu l else x)) else o)
def oN (z : Int32) : Option Int32 → Int32
  | none => z
  | some x => x
def opos (o : Option Int32) : Prop := ∀ x, o = some x → 0 < x
theorem c_weeksLeft {v : St} {a : AS} (h : RC v a) {dn rest : List Lot} {l : Lot} (he : a.1 = dn ++ l :: rest) {P : Nat} (hl : okL P l) : X0_weeksLeft v (nI dn.length) = some (a.2.1 (20 + ix l.2.2.1) - l.2.2.2.2.1) := by
  have h40 : dn.length < 40 := by
    have := h.1.2.1
    rw [he, List.length_append, List.length_cons] at this; omega
  have eL : lotC v dn.length = l := (lotsF_at (g' := lotC v) (dn := dn) (rest := rest) (by rw [← he]; exact h.1.2.2) (fun _ _ => rfl)).1
  obtain ⟨d, c, k, n, ag, p, e, h1, h2, h3, h4, h5, h6, h7, h8⟩ := hl
  have k10 : v 10 dn.length = nI k := by
    have : (lotC v dn.length).2.2.1 = nI k := by rw [eL, e]
    exact this
  have k12 : v 12 dn.length = nI ag := by
    have : (lotC v dn.length).2.2.2.2.1 = nI ag := by rw [eL, e]
    exact this
  have e20 : (20 : Int32) + nI k = nI (20 + k) := nI_add 20 k
  rw [X0_weeksLeft, q_at h40 (by decide), Option.bind_some, k10, e20, q_num v (by omega), Option.bind_some, q_at h40 (by decide), Option.bind_some, k12, h.2.1 (20 + k) (by omega) (by omega), e]
  show some (a.2.1 (20 + k) - nI ag) = some (a.2.1 (20 + ix (nI k)) - nI ag)
  rw [ix_nI (by omega)]
theorem c_sp_l {v : St} {a : AS} (h : RC v a) {P : Nat} (hl : ∀ l ∈ a.1, okL P l) (p : Int32) : ∀ (rest dn : List Lot) (fu : Nat) (o : Option Int32), rest.length < fu → a.1 = dn ++ rest → opos o →
    X0_weeksUntilNextSpoils_l4 v p fu (oN 0 o) (nI dn.length) = some (oN 0 (spS p a.2.1 rest o)) ∧ opos (spS p a.2.1 rest o) := by
  intro rest
  induction rest with
  | nil =>
    intro dn fu o hf he ho
    obtain ⟨fu, rfl⟩ : ∃ f, fu = f + 1 := ⟨fu - 1, by simp at hf; omega⟩
    have h40 := h.1.2.1
    rw [List.append_nil] at he
    rw [X0_weeksUntilNextSpoils_l4, q_num2, Option.bind_some, h.1.1, he, if_pos (by rw [he] at h40; rw [q_le (by omega) (by omega)]; exact Nat.le_refl _)]
    exact ⟨rfl, ho⟩
  | cons l rest ih =>
    intro dn fu o hf he ho
    obtain ⟨fu, rfl⟩ : ∃ f, fu = f + 1 := ⟨fu - 1, by simp at hf; omega⟩
    have h40 := h.1.2.1
    have hln : a.1.length = dn.length + (rest.length + 1) := by rw [he, List.length_append, List.length_cons]
    have eL : lotC v dn.length = l := (lotsF_at (g' := lotC v) (dn := dn) (rest := rest) (by rw [← he]; exact h.1.2.2) (fun _ _ => rfl)).1
    have hok : okL P l := hl l (by rw [he]; exact List.mem_append_right _ List.mem_cons_self)
    have he' : a.1 = (dn ++ [l]) ++ rest := by rw [he, List.append_assoc]; rfl
    have hcmp : ¬ nI (dn.length + (rest.length + 1)) ≤ nI dn.length := by rw [q_le (by omega) (by omega)]; omega
    have go := fun (o' : Option Int32) (ho' : opos o') => ih (dn ++ [l]) fu o' (by simp at hf; omega) he' ho'
    simp only [List.length_append, List.length_singleton, ← q_1] at go
    rw [X0_weeksUntilNextSpoils_l4, q_num2, Option.bind_some, h.1.1, hln, if_neg hcmp, q_isLot v _ _ _ (by omega), Option.bind_some, eL, ifb, c_weeksLeft h he hok, Option.bind_some]
    unfold spS
    have tp := tW_pos a.2.1 l
    have et : (if 1 < a.2.1 (20 + ix l.2.2.1) - l.2.2.2.2.1 then a.2.1 (20 + ix l.2.2.1) - l.2.2.2.2.1 else (1 : Int32)) = tW a.2.1 l := rfl
    rw [et]
    cases hmt : mt p (-1) (-1) l with
    | false =>
      simp only [cond_false, Bool.false_eq_true, if_false]
      exact go o ho
    | true =>
      simp only [cond_true, if_true]
      cases o with
      | none =>
        rw [if_pos (show oN 0 none = (0 : Int32) from rfl)]
        exact go (some (tW a.2.1 l)) (fun x hx => by cases hx; exact tp)
      | some x =>
        have hx : 0 < x := ho x rfl
        have hx0 : ¬ x = 0 := fun e => by subst e; exact absurd hx (by decide)
        rw [if_neg (show ¬ oN 0 (some x) = (0 : Int32) from hx0)]
        exact go (some (if tW a.2.1 l < x then tW a.2.1 l else x)) (fun y hy => by
          cases hy
          split
          · exact tp
          · exact hx)
/- richest -/
theorem sub_toInt {s t : Nat} (hs : s ≤ 1000) (ht : t ≤ 1000) : (nI s - nI t).toInt = (s : Int) - t := by
  rw [Int32.toInt_sub, nI_toInt (by omega), nI_toInt (by omega)]
  exact Int.bmod_eq_of_le (by omega) (by omega)
theorem bal_bd {a : AS} (ho : OK a) (d : Nat) : -360 ≤ (balS a d).toInt ∧ (balS a d).toInt ≤ 360 := by
  unfold balS
  obtain ⟨e1, b1⟩ := sumS_n ho (mt (-1) (nI d) (-1))
  obtain ⟨e2, b2⟩ := sumS_n ho (mt (nI d) (-1) (-1))
  rw [e1, e2, sub_toInt (by omega) (by omega)]
  omega
theorem diff_toInt {x y : Int32} (hx : -360 ≤ x.toInt ∧ x.toInt ≤ 360) (hy : -360 ≤ y.toInt ∧ y.toInt ≤ 360) : (x - y).toInt = x.toInt - y.toInt := by
  rw [Int32.toInt_sub]
  exact Int.bmod_eq_of_le (by omega) (by omega)
def rkS (a : AS) (x : Nat) : Nat → Nat → Int32 → Int32
  | 0, _, acc => acc
  | n + 1, y, acc => rkS a x n (y + 1) (if balS a x < balS a y then acc + 1 else if balS a y = balS a x then (if x ≤ y then acc else acc + 1) else acc)
theorem c_rank_l {vB : St} {a : AS} (h : RC vB a) {P x : Nat} (h8 : P ≤ 8) (hP : a.2.1 1 = nI P) (hx : x < 8) : ∀ (n fu y : Nat) (acc : Int32), n < fu → y + n = P → X0_rankOf_l11 vB (nI x) fu (balS a x) acc (nI y) = some (rkS a x n y acc) := by
  intro n
  induction n with
  | zero =>
    intro fu y acc hf hy
    obtain ⟨fu, rfl⟩ : ∃ f, fu = f + 1 := ⟨fu - 1, by omega⟩
    rw [X0_rankOf_l11, q_num1, Option.bind_some, h.2.1 1 (by decide) (by decide), hP, if_pos (by rw [q_le (by omega) (by omega)]; omega)]; rfl
  | succ n ih =>
    intro fu y acc hf hy
    obtain ⟨fu, rfl⟩ : ∃ f, fu = f + 1 := ⟨fu - 1, by omega⟩
    have go := fun acc => ih fu (y + 1) acc (by omega) (by omega)
    have hc : (nI x ≤ nI y) = (x ≤ y) := q_le (by omega) (by omega)
    rw [X0_rankOf_l11, q_num1, Option.bind_some, h.2.1 1 (by decide) (by decide), hP, if_neg (by rw [q_le (by omega) (by omega)]; omega), c_bal h, Option.bind_some, q_1, go, go]
    rw [rkS]
    by_cases c1 : balS a x < balS a y
    · rw [if_pos c1, if_pos c1]
    · rw [if_neg c1, if_neg c1]
      by_cases c2 : balS a y = balS a x
      · rw [if_pos c2, if_pos c2]
        by_cases c3 : x ≤ y
        · rw [if_pos (hc.mpr c3), if_pos c3]
        · rw [if_neg (fun e => c3 (hc.mp e)), if_neg c3]
      · rw [if_neg c2, if_neg c2]
theorem c_count_no {vB vT vH vR vO : St} {bH : Nat → St} {p1 : Int32} (h : kIn p1 0 25 = false) : X4_count vB vT vH bH vR vO p1 = some (-1000001) := by
  have t13 : (13 : Int32).toInt = 13 := by decide
  have t20 : (20 : Int32).toInt = 20 := by decide
  have t26 : (26 : Int32).toInt = 26 := by decide
  have hn : ¬ (0 ≤ p1.toInt ∧ p1.toInt ≤ 25) := fun e => by
    have : kIn p1 0 25 = true := kIn_iff.mpr e
    rw [h] at this; cases this
  rw [X4_count, X4_count_b16]
  by_cases c1 : p1 < 0
  · rw [if_pos c1]
  · rw [if_neg c1]
    rw [lt_i, Int32.toInt_zero] at c1
    rw [if_neg (show ¬ p1 ≤ 13 by rw [le_i, t13]; omega), if_neg (show ¬ p1 < 20 by rw [lt_i, t20]; omega), if_neg (show ¬ p1 < 26 by rw [lt_i, t26]; omega)]

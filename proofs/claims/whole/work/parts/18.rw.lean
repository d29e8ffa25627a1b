/- bits of a number; sets of pupils as numbers -/
def bt (m : Int32) (x : Nat) : Bool := m.toBitVec.getLsbD x
theorem bt_or (m k : Int32) (x : Nat) : bt (m ||| k) x = (bt m x || bt k x) := by
  unfold bt; rw [Int32.toBitVec_or, BitVec.getLsbD_or]
theorem bt_and (m k : Int32) (x : Nat) : bt (m &&& k) x = (bt m x && bt k x) := by
  unfold bt; rw [Int32.toBitVec_and, BitVec.getLsbD_and]
theorem bt_0 (x : Nat) : bt 0 x = false := by
  unfold bt; simp
theorem bt_ge {m : Int32} {x : Nat} (h : 32 ≤ x) : bt m x = false := by
  unfold bt; exact BitVec.getLsbD_of_ge _ _ h
theorem bt_ext {m k : Int32} (h : ∀ x, x < 32 → bt m x = bt k x) : m = k := by
  apply Int32.toBitVec_inj.mp
  apply BitVec.eq_of_getLsbD_eq
  exact h
theorem bt_zero {m : Int32} : m = 0 ↔ ∀ x, x < 32 → bt m x = false := by
  constructor
  · rintro rfl x _; exact bt_0 x
  · intro h; exact bt_ext (fun x hx => by rw [h x hx, bt_0])
theorem bt_one {y : Nat} (hy : y < 8) : ∀ x, x < 32 → bt ((1 : Int32) <<< ((nI y) &&& 31)) x = decide (x = y) := by
  have : ∀ y : Fin 8, ∀ x : Fin 32, bt ((1 : Int32) <<< ((nI y.val) &&& 31)) x.val = decide (x.val = y.val) := by decide
  exact fun x hx => this ⟨y, hy⟩ ⟨x, hx⟩
theorem bt_shr (m : Int32) {y : Nat} (hy : y < 32) : ((m >>> ((nI y) &&& 31)) &&& 1) = 0 ↔ bt m y = false := by
  have h1 : ∀ x : Fin 32, bt 1 x.val = decide (x.val = 0) := by decide
  have hm : (((nI y) &&& 31).toBitVec.smod 32) = BitVec.ofNat 32 y := by
    have : ∀ y : Fin 32, (((nI y.val) &&& 31).toBitVec.smod 32) = BitVec.ofNat 32 y.val := by decide
    exact this ⟨y, hy⟩
  have h2 : bt (m >>> ((nI y) &&& 31)) 0 = bt m y := by
    unfold bt
    rw [Int32.toBitVec_shiftRight, hm, BitVec.sshiftRight', BitVec.getLsbD_sshiftRight]
    have e1 : (BitVec.ofNat 32 y).toNat = y := by simp; omega
    simp [e1]; intro hz; omega
  rw [bt_zero]
  constructor
  · intro h
    have := h 0 (by decide)
    rw [bt_and, h2] at this
    have e := h1 ⟨0, by decide⟩
    simp only at e
    rw [e] at this
    simpa using this
  · intro h x hx
    rw [bt_and]
    by_cases z : x = 0
    · subst z; rw [h2, h]; rfl
    · have e := h1 ⟨x, hx⟩
      simp only at e
      rw [e, decide_eq_false z, Bool.and_false]
theorem bt_shr1 (m : Int32) {y : Nat} (hy : y < 32) : ((m >>> ((nI y) &&& 31)) &&& 1) = 1 ↔ bt m y = true := by
  have := bt_shr m hy
  constructor
  · intro h
    cases e : bt m y with
    | true => rfl
    | false => rw [this.mpr e] at h; exact absurd h (by decide)
  · intro h
    apply bt_ext
    intro x hx
    have h1 : ∀ x : Fin 32, bt 1 x.val = decide (x.val = 0) := by decide
    have e := h1 ⟨x, hx⟩
    simp only at e
    rw [bt_and, e]
    by_cases z : x = 0
    · subst z
      have hm : (((nI y) &&& 31).toBitVec.smod 32) = BitVec.ofNat 32 y := by
        have : ∀ y : Fin 32, (((nI y.val) &&& 31).toBitVec.smod 32) = BitVec.ofNat 32 y.val := by decide
        exact this ⟨y, hy⟩
      have h2 : bt (m >>> ((nI y) &&& 31)) 0 = bt m y := by
        unfold bt
        rw [Int32.toBitVec_shiftRight, hm, BitVec.sshiftRight', BitVec.getLsbD_sshiftRight]
        have e1 : (BitVec.ofNat 32 y).toNat = y := by simp; omega
        simp [e1]; intro hz; omega
      rw [h2, h]; rfl
    · rw [decide_eq_false z, Bool.and_false]
def MKS (m : Int32) (S : Nat → Prop) : Prop := ∀ x, bt m x = true ↔ (x < 8 ∧ S x)
theorem MKS.cong {m : Int32} {S T : Nat → Prop} (h : MKS m S) (e : ∀ x, x < 8 → (S x ↔ T x)) : MKS m T := fun x => (h x).trans ⟨fun z => ⟨z.1, (e x z.1).mp z.2⟩, fun z => ⟨z.1, (e x z.1).mpr z.2⟩⟩
theorem MKS.zero : MKS 0 (fun _ => False) := fun x => by rw [bt_0]; simp
theorem MKS.one {y : Nat} (hy : y < 8) : MKS ((1 : Int32) <<< ((nI y) &&& 31)) (fun x => x = y) := fun x => by
  by_cases hx : x < 32
  · rw [bt_one hy x hx, decide_eq_true_iff]; constructor
    · intro h; exact ⟨by omega, h⟩
    · intro h; exact h.2
  · rw [bt_ge (by omega)]; constructor
    · intro h; cases h
    · intro h; omega
theorem MKS.or {m k : Int32} {S T : Nat → Prop} (h : MKS m S) (h2 : MKS k T) : MKS (m ||| k) (fun x => S x ∨ T x) := fun x => by
  rw [bt_or, Bool.or_eq_true, h x, h2 x]; constructor
  · rintro (z | z)
    · exact ⟨z.1, Or.inl z.2⟩
    · exact ⟨z.1, Or.inr z.2⟩
  · rintro ⟨z, z2 | z2⟩
    · exact Or.inl ⟨z, z2⟩
    · exact Or.inr ⟨z, z2⟩
theorem MKS.and {m k : Int32} {S T : Nat → Prop} (h : MKS m S) (h2 : MKS k T) : MKS (m &&& k) (fun x => S x ∧ T x) := fun x => by
  rw [bt_and, Bool.and_eq_true, h x, h2 x]; constructor
  · rintro ⟨z, z2⟩; exact ⟨z.1, z.2, z2.2⟩
  · rintro ⟨z, z2, z3⟩; exact ⟨⟨z, z2⟩, ⟨z, z3⟩⟩
theorem MKS.isz {m : Int32} {S : Nat → Prop} (h : MKS m S) : m = 0 ↔ ∀ x, x < 8 → ¬ S x := by
  rw [bt_zero]; constructor
  · intro z x hx hs
    have := (h x).mpr ⟨hx, hs⟩
    rw [z x (by omega)] at this; cases this
  · intro z x _
    cases e : bt m x with
    | false => rfl
    | true => obtain ⟨h1, h2⟩ := (h x).mp e; exact absurd h2 (z x h1)
theorem MKS.bit0 {m : Int32} {S : Nat → Prop} (h : MKS m S) {y : Nat} (hy : y < 8) : ((m >>> ((nI y) &&& 31)) &&& 1) = 0 ↔ ¬ S y := by
  rw [bt_shr m (by omega)]; constructor
  · intro e hs
    rw [(h y).mpr ⟨hy, hs⟩] at e; cases e
  · intro hs
    cases e : bt m y with
    | false => rfl
    | true => exact absurd ((h y).mp e).2 hs
theorem MKS.bit1 {m : Int32} {S : Nat → Prop} (h : MKS m S) {y : Nat} (hy : y < 8) : ((m >>> ((nI y) &&& 31)) &&& 1) = 1 ↔ S y := by
  rw [bt_shr1 m (by omega), h y]; exact ⟨fun z => z.2, fun z => ⟨hy, z⟩⟩

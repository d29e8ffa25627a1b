/- floats: a whole number as a float, quotients, doubling, halving -/
theorem fp_tails : FP.Core.b32.tails = 8388608 := by decide
theorem fp_exps : FP.Core.b32.exps = 256 := by decide
theorem fp_qmin : FP.Core.b32.qmin = -149 := by decide
theorem fp_qmax : FP.Core.b32.qmax = 104 := by decide
theorem fp_p : FP.Core.b32.p = 24 := rfl
def mkF (e T : Nat) : Nat := e * 8388608 + T
theorem fp_dec {e T : Nat} (h1 : 1 ≤ e) (h2 : e ≤ 254) (hT : T < 8388608) : FP.Core.decode FP.Core.b32 (mkF e T) = .fin false (8388608 + T) ((e : Int) - 150) := by
  have a1 : mkF e T / 8388608 = e := by unfold mkF; omega
  have a2 : mkF e T % 8388608 = T := by unfold mkF; omega
  have b1 : FP.Core.fieldE FP.Core.b32 (mkF e T) = e := by unfold FP.Core.fieldE; rw [fp_tails, fp_exps, a1]; omega
  have b2 : FP.Core.fieldT FP.Core.b32 (mkF e T) = T := by unfold FP.Core.fieldT; rw [fp_tails, a2]
  have b3 : FP.Core.fieldS FP.Core.b32 (mkF e T) = false := by
    unfold FP.Core.fieldS; rw [fp_tails, fp_exps, a1, show e / 256 = 0 by omega]; rfl
  unfold FP.Core.decode
  rw [b1, b2, b3, fp_exps, fp_qmin, fp_tails, if_neg (by omega), if_neg (by omega)]
  congr 1
  omega
theorem fp_enc {c : Nat} {q : Int} (h1 : 8388608 ≤ c) (h2 : -149 ≤ q) : FP.Core.encode FP.Core.b32 (.fin false c q) = mkF (q + 150).toNat (c - 8388608) := by
  unfold FP.Core.encode
  rw [fp_tails, fp_qmin]
  dsimp only
  rw [if_neg (by omega)]
  unfold FP.Core.assemble mkF
  rw [fp_tails, fp_exps]
  rw [show (false : Bool).toNat = 0 from rfl, show (q - -149).toNat + 1 = (q + 150).toNat by omega]
  omega
theorem fp_log {c k : Nat} (h1 : 2 ^ k ≤ c) (h2 : c < 2 ^ (k + 1)) : c.log2 = k := by
  have h0 : c ≠ 0 := by have := Nat.two_pow_pos k; omega
  exact (Nat.log2_eq_iff h0).mpr ⟨h1, h2⟩
theorem fp_near {a d : Nat} (hd : 0 < d) : FP.Core.nearest (a * d) d = a := by
  unfold FP.Core.nearest
  rw [Nat.mul_mod_left, if_pos (by omega), Nat.mul_div_cancel _ hd]
theorem fp_rr {num den m : Nat} {e l q : Int} (hn : num ≠ 0) (hl : FP.Core.leading num den = l) (hq : q = l + e - 23) (hq1 : -149 ≤ q) (hq2 : q ≤ 104) (hm : FP.Core.nearest (FP.Core.unitsNum num e q) (FP.Core.unitsDen den e q) = m) (h1 : m < 16777216) : FP.Core.roundRatio FP.Core.b32 false num den e = .fin false m q := by
  have hqq : FP.Core.quantum FP.Core.b32 num den e = q := by
    unfold FP.Core.quantum; rw [hl, fp_qmin, fp_p]
    rw [show (((24 : Nat) : Int) - 1) = 23 by decide]
    omega
  unfold FP.Core.roundRatio
  rw [if_neg hn, hqq]
  unfold FP.Core.roundAt FP.Core.settle
  rw [hm, fp_p, if_pos (by rw [show 2 ^ 24 = 16777216 by decide]; exact h1)]
  unfold FP.Core.bound
  rw [fp_qmax, if_pos hq2]
theorem fp_lead {c d : Nat} {k : Nat} (h1 : 2 ^ k ≤ c) (h2 : c < 2 ^ (k + 1)) (h3 : 2 ^ k ≤ d) (h4 : d < 2 ^ (k + 1)) : FP.Core.leading c d = if d ≤ c then 0 else -1 := by
  unfold FP.Core.leading
  rw [fp_log h1 h2, fp_log h3 h4, Int.sub_self]
  dsimp only
  rw [show (2 : Nat) ^ (0 : Int).toNat = 1 from rfl, show (2 : Nat) ^ (-(0 : Int)).toNat = 1 from rfl, Nat.mul_one, Nat.mul_one]
  rfl
theorem fp_lead1 {c : Nat} {k : Nat} (h1 : 2 ^ k ≤ c) (h2 : c < 2 ^ (k + 1)) : FP.Core.leading c 1 = k := by
  unfold FP.Core.leading
  rw [fp_log h1 h2, show Nat.log2 1 = 0 by decide]
  dsimp only
  rw [show ((k : Int) - ((0 : Nat) : Int)) = (k : Int) by omega, if_pos (by
    rw [show (k : Int).toNat = k by omega, show (-(k : Int)).toNat = 0 by omega]; omega)]
theorem fp_div2 {e T : Nat} (h1 : 2 ≤ e) (h2 : e ≤ 254) (hT : T < 8388608) : FP.Core.div FP.Core.b32 (mkF e T) (mkF 128 0) = mkF (e - 1) T := by
  unfold FP.Core.div
  rw [fp_dec (by omega) h2 hT, fp_dec (by decide) (by decide) (by decide)]
  unfold FP.Core.quotient
  dsimp only
  rw [if_neg (by decide), show ((false != false) : Bool) = false from rfl]
  have hl : FP.Core.leading (8388608 + T) (8388608 + 0) = 0 := by
    rw [fp_lead (k := 23) (by omega) (by omega) (by omega) (by omega), if_pos (by omega)]
  rw [fp_rr (m := 8388608 + T) (l := 0) (q := (e : Int) - 151) (by omega) hl (by omega) (by omega) (by omega) ?_ (by omega), fp_enc (by omega) (by omega)]
  · rw [show ((e : Int) - 151 + 150).toNat = e - 1 by omega, Nat.add_sub_cancel_left]
  · unfold FP.Core.unitsNum FP.Core.unitsDen
    rw [show ((e : Int) - 150 - (((128 : Nat) : Int) - 150) - ((e : Int) - 151)).toNat = 23 by omega, show ((e : Int) - 151 - ((e : Int) - 150 - (((128 : Nat) : Int) - 150))).toNat = 0 by omega]
    exact fp_near (a := 8388608 + T) (d := 8388608) (by decide)
theorem fp_mul_p {c e : Nat} {q r : Int} (hc1 : 8388608 ≤ c) (hc2 : c < 16777216) (he : q + r = (e : Int) - 173) (h1 : 1 ≤ e) (h2 : e ≤ 254) : FP.Core.round FP.Core.b32 (.fin false (c * 8388608) (q + r)) = .fin false c ((e : Int) - 150) := by
  unfold FP.Core.round
  dsimp only
  have hl : FP.Core.leading (c * 8388608) 1 = 46 := by
    rw [fp_lead1 (k := 46) (by omega) (by omega)]; rfl
  have hm : FP.Core.nearest (FP.Core.unitsNum (c * 8388608) (q + r) ((e : Int) - 150)) (FP.Core.unitsDen 1 (q + r) ((e : Int) - 150)) = c := by
   unfold FP.Core.unitsNum FP.Core.unitsDen
   rw [he]
   rw [show ((e : Int) - 173 - ((e : Int) - 150)).toNat = 0 by omega, show ((e : Int) - 150 - ((e : Int) - 173)).toNat = 23 by omega]
   rw [show (1 : Nat) * 2 ^ 23 = 8388608 by decide, show (2 : Nat) ^ 0 = 1 by decide, Nat.mul_one]
   exact fp_near (by decide)
  exact fp_rr (num := c * 8388608) (den := 1) (m := c) (e := q + r) (l := 46) (q := (e : Int) - 150) (by omega) hl (by omega) (by omega) (by omega) hm hc2
theorem fp_mul {e T e2 : Nat} (h1 : 1 ≤ e) (h2 : e ≤ 254) (hT : T < 8388608) (g1 : 1 ≤ e2) (g2 : e2 ≤ 254) (k1 : 128 ≤ e + e2) (k2 : e + e2 ≤ 381) : FP.Core.mul FP.Core.b32 (mkF e T) (mkF e2 0) = mkF (e + e2 - 127) T := by
  unfold FP.Core.mul
  rw [fp_dec h1 h2 hT, fp_dec g1 g2 (by decide)]
  unfold FP.Core.exactProduct
  dsimp only
  rw [show ((false != false) : Bool) = false from rfl, Nat.add_zero, fp_mul_p (e := e + e2 - 127) (by omega) (by omega) (by omega) (by omega) (by omega), fp_enc (by omega) (by omega), Nat.add_sub_cancel_left, show ((((e + e2 - 127 : Nat) : Int) - 150) + 150).toNat = e + e2 - 127 by omega]
/- comparisons -/
theorem fp_cmp {e T e2 : Nat} (h1 : 1 ≤ e) (h2 : e ≤ 254) (hT : T < 8388608) (g1 : 1 ≤ e2) (g2 : e2 ≤ 254) : (e < e2 → FP.Core.cmp FP.Core.b32 (mkF e T) (mkF e2 0) = some .lt) ∧ (e2 ≤ e → FP.Core.cmp FP.Core.b32 (mkF e T) (mkF e2 0) ≠ some .lt ∧ FP.Core.cmp FP.Core.b32 (mkF e T) (mkF e2 0) ≠ none) := by
  unfold FP.Core.cmp
  rw [fp_dec h1 h2 hT, fp_dec g1 g2 (by decide)]
  unfold FP.Core.order
  dsimp only
  unfold FP.Core.signed FP.Core.inUnits
  simp only [Bool.false_eq_true, if_false]
  constructor
  · intro h
    rw [show ((e : Int) - 150 - min ((e : Int) - 150) ((e2 : Int) - 150)).toNat = 0 by omega, show ((e2 : Int) - 150 - min ((e : Int) - 150) ((e2 : Int) - 150)).toNat = (e2 - e - 1) + 1 by omega]
    have hp : 1 ≤ 2 ^ (e2 - e - 1) := Nat.one_le_two_pow
    have : (8388608 + T) * 2 ^ 0 < (8388608 + 0) * 2 ^ (e2 - e - 1 + 1) := by
      rw [Nat.pow_succ]; omega
    rw [Int.compare_eq_lt.mpr (by omega)]
  · intro h
    rw [show ((e : Int) - 150 - min ((e : Int) - 150) ((e2 : Int) - 150)).toNat = e - e2 by omega, show ((e2 : Int) - 150 - min ((e : Int) - 150) ((e2 : Int) - 150)).toNat = 0 by omega]
    have hp : 1 ≤ 2 ^ (e - e2) := Nat.one_le_two_pow
    have : (8388608 + 0) * 2 ^ 0 ≤ (8388608 + T) * 2 ^ (e - e2) := Nat.le_trans (by omega) (Nat.mul_le_mul_left _ hp)
    refine ⟨fun q => ?_, fun q => by cases q⟩
    have := Int.compare_eq_lt.mp (Option.some.inj q)
    omega
theorem fp_sub {T : Nat} (hT : T < 8388608) : FP.Core.sub FP.Core.b32 (mkF 127 T) (mkF 127 0) = FP.Core.encode FP.Core.b32 (FP.Core.round FP.Core.b32 (.fin false T (-23))) := by
  unfold FP.Core.sub
  rw [fp_dec (by decide) (by decide) hT, fp_dec (by decide) (by decide) (by decide)]
  unfold FP.Core.negate FP.Core.exactSum
  dsimp only
  have hv : FP.Core.sumUnits false (8388608 + T) (((127 : Nat) : Int) - 150) (!false) (8388608 + 0) (((127 : Nat) : Int) - 150) (min (((127 : Nat) : Int) - 150) (((127 : Nat) : Int) - 150)) = (T : Int) := by
    unfold FP.Core.sumUnits FP.Core.signed FP.Core.inUnits
    simp
    omega
  rw [hv, Int.natAbs_natCast, show (min (((127 : Nat) : Int) - 150) (((127 : Nat) : Int) - 150)) = -23 by decide]
  have hs : FP.Core.sumSign false (!false) (T : Int) = false := by
    unfold FP.Core.sumSign
    by_cases c : (T : Int) = 0
    · rw [if_pos c]; rfl
    · rw [if_neg c, decide_eq_false (by omega)]
  rw [hs]
theorem fp_nat {T k : Nat} {r : Int} (h1 : 2 ^ k ≤ T) (h2 : T < 2 ^ (k + 1)) (hk : k ≤ 23) (hr1 : -100 ≤ r) (hr2 : r ≤ 0) : FP.Core.round FP.Core.b32 (.fin false T r) = .fin false (T * 2 ^ (23 - k)) ((k : Int) + r - 23) ∧ 8388608 ≤ T * 2 ^ (23 - k) ∧ T * 2 ^ (23 - k) < 16777216 := by
  have h0 : 0 < 2 ^ k := Nat.two_pow_pos k
  have b1 : 8388608 ≤ T * 2 ^ (23 - k) := by
    have : 2 ^ k * 2 ^ (23 - k) = 8388608 := by
      rw [← Nat.pow_add, show k + (23 - k) = 23 by omega]
    rw [← this]
    exact Nat.mul_le_mul_right _ h1
  have b2 : T * 2 ^ (23 - k) < 16777216 := by
    have : 2 ^ (k + 1) * 2 ^ (23 - k) = 16777216 := by
      rw [← Nat.pow_add, show k + 1 + (23 - k) = 24 by omega]
    rw [← this]
    exact Nat.mul_lt_mul_of_pos_right h2 (Nat.two_pow_pos _)
  refine ⟨?_, b1, b2⟩
  unfold FP.Core.round
  dsimp only
  have hm : FP.Core.nearest (FP.Core.unitsNum T r ((k : Int) + r - 23)) (FP.Core.unitsDen 1 r ((k : Int) + r - 23)) = T * 2 ^ (23 - k) := by
    unfold FP.Core.unitsNum FP.Core.unitsDen
    rw [show (r - ((k : Int) + r - 23)).toNat = 23 - k by omega, show ((k : Int) + r - 23 - r).toNat = 0 by omega]
    have := fp_near (a := T * 2 ^ (23 - k)) (d := 1) (by decide)
    rw [Nat.mul_one] at this
    exact this
  exact fp_rr (num := T) (den := 1) (m := T * 2 ^ (23 - k)) (e := r) (l := k) (q := (k : Int) + r - 23) (by omega) (fp_lead1 h1 h2) (by omega) (by omega) (by omega) hm b2
theorem fp_ex {T : Nat} (h : 0 < T) : ∃ k, 2 ^ k ≤ T ∧ T < 2 ^ (k + 1) := ⟨T.log2, (Nat.log2_eq_iff (by omega)).mp rfl⟩
theorem fp_klt {T k n : Nat} (h1 : 2 ^ k ≤ T) (h2 : T < 2 ^ n) : k < n := (Nat.pow_lt_pow_iff_right (by decide : 1 < 2)).mp (Nat.lt_of_le_of_lt h1 h2)
/- a whole number as a float -/
theorem fp_int {s k : Nat} (h1 : 2 ^ k ≤ s) (h2 : s < 2 ^ (k + 1)) (hk : k ≤ 23) : FP.Core.fromInt FP.Core.b32 (s : Int) = mkF (k + 127) (s * 2 ^ (23 - k) - 8388608) := by
  unfold FP.Core.fromInt FP.Core.ofInt
  rw [decide_eq_false (by omega), Int.natAbs_natCast]
  obtain ⟨e, b1, b2⟩ := fp_nat (r := 0) h1 h2 hk (by omega) (by omega)
  rw [e, fp_enc b1 (by omega)]
  congr 1
  omega
theorem fp_near_b {n d : Nat} : n / d ≤ FP.Core.nearest n d ∧ FP.Core.nearest n d ≤ n / d + 1 := by
  unfold FP.Core.nearest
  split
  · omega
  · split
    · omega
    · omega
theorem fp_settle {m : Nat} {q : Int} (h1 : 8388608 ≤ m) (h2 : m ≤ 16777216) (hq1 : -149 ≤ q) (hq2 : q ≤ 100) : ∃ c q', FP.Core.settle FP.Core.b32 false m q = .fin false c q' ∧ 8388608 ≤ c ∧ c < 16777216 ∧ q ≤ q' ∧ q' ≤ q + 1 := by
  unfold FP.Core.settle FP.Core.bound
  rw [fp_p, fp_qmax, fp_tails, show (2 : Nat) ^ 24 = 16777216 by decide]
  by_cases c : m < 16777216
  · rw [if_pos c, if_pos (by omega)]; exact ⟨m, q, rfl, h1, c, by omega, by omega⟩
  · rw [if_neg c, if_pos (by omega)]; exact ⟨8388608, q + 1, rfl, by omega, by omega, by omega, by omega⟩
theorem fp_div {e1 T1 e2 T2 : Nat} (a1 : 100 ≤ e1) (a2 : e1 ≤ 160) (a3 : T1 < 8388608) (c1 : 100 ≤ e2) (c2 : e2 ≤ 160) (c3 : T2 < 8388608) :
    ∃ e T, FP.Core.div FP.Core.b32 (mkF e1 T1) (mkF e2 T2) = mkF e T ∧ T < 8388608 ∧ e1 + 126 ≤ e + e2 ∧ e + e2 ≤ e1 + 128 := by
  unfold FP.Core.div
  rw [fp_dec (by omega) (by omega) a3, fp_dec (by omega) (by omega) c3]
  unfold FP.Core.quotient
  dsimp only
  rw [if_neg (by omega), show ((false != false) : Bool) = false from rfl]
  have hl := fp_lead (c := 8388608 + T1) (d := 8388608 + T2) (k := 23) (by omega) (by omega) (by omega) (by omega)
  have key : ∃ (l : Int) (w : Nat), FP.Core.leading (8388608 + T1) (8388608 + T2) = l ∧ (w : Int) = 23 - l ∧ -1 ≤ l ∧ l ≤ 0 ∧ 8388608 ≤ (8388608 + T1) * 2 ^ w / (8388608 + T2) ∧ (8388608 + T1) * 2 ^ w / (8388608 + T2) < 16777216 := by
    by_cases c : 8388608 + T2 ≤ 8388608 + T1
    · rw [if_pos c] at hl
      refine ⟨0, 23, hl, by omega, by omega, by omega, ?_, ?_⟩
      · rw [Nat.le_div_iff_mul_le (by omega), show (2 : Nat) ^ 23 = 8388608 by decide]; omega
      · rw [Nat.div_lt_iff_lt_mul (by omega), show (2 : Nat) ^ 23 = 8388608 by decide]; omega
    · rw [if_neg c] at hl
      refine ⟨-1, 24, hl, by omega, by omega, by omega, ?_, ?_⟩
      · rw [Nat.le_div_iff_mul_le (by omega), show (2 : Nat) ^ 24 = 16777216 by decide]; omega
      · rw [Nat.div_lt_iff_lt_mul (by omega), show (2 : Nat) ^ 24 = 16777216 by decide]; omega
  obtain ⟨l, w, hl, hw, hl1, hl2, n1, n2⟩ := key
  have hqq : FP.Core.quantum FP.Core.b32 (8388608 + T1) (8388608 + T2) ((e1 : Int) - 150 - ((e2 : Int) - 150)) = l + ((e1 : Int) - e2) - 23 := by
    unfold FP.Core.quantum; rw [hl, fp_qmin, fp_p]
    rw [show (((24 : Nat) : Int) - 1) = 23 by decide]
    omega
  unfold FP.Core.roundRatio
  rw [if_neg (by omega), hqq]
  unfold FP.Core.roundAt FP.Core.unitsNum FP.Core.unitsDen
  rw [show ((e1 : Int) - 150 - ((e2 : Int) - 150) - (l + ((e1 : Int) - e2) - 23)).toNat = w by omega, show (l + ((e1 : Int) - e2) - 23 - ((e1 : Int) - 150 - ((e2 : Int) - 150))).toNat = 0 by omega, Nat.pow_zero, Nat.mul_one]
  obtain ⟨m1, m2⟩ := fp_near_b (n := (8388608 + T1) * 2 ^ w) (d := 8388608 + T2)
  obtain ⟨c, q', e, g1, g2, g3, g4⟩ := fp_settle (m := FP.Core.nearest ((8388608 + T1) * 2 ^ w) (8388608 + T2)) (q := l + ((e1 : Int) - e2) - 23) (by omega) (by omega) (by omega) (by omega)
  rw [e, fp_enc g1 (by omega)]
  exact ⟨(q' + 150).toNat, c - 8388608, rfl, by omega, by omega, by omega⟩

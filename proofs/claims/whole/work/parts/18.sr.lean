/- mean: both sides -/
def mk32 (e T : Nat) : UInt32 := UInt32.ofNat (mkF e T)
theorem mkF_lt {e T : Nat} (he : e ≤ 254) (hT : T < 8388608) : mkF e T < 2139095040 := by unfold mkF; omega
theorem mk32_nat {e T : Nat} (he : e ≤ 254) (hT : T < 8388608) : (mk32 e T).toNat = mkF e T := by
  unfold mk32
  rw [UInt32.toNat_ofNat']
  have := mkF_lt he hT
  exact Nat.mod_eq_of_lt (by omega)
theorem nnF_mk {e T : Nat} (he : e ≤ 254) (hT : T < 8388608) : nnF (mk32 e T) = some (mk32 e T) := by
  unfold nnF
  rw [if_pos]
  rw [UInt32.le_iff_toNat_le, UInt32.toNat_and, mk32_nat he hT]
  have h1 := mkF_lt he hT
  have h2 := Nat.and_le_left (n := mkF e T) (m := (0x7fffffff : UInt32).toNat)
  have h3 : (0x7f800000 : UInt32).toNat = 2139095040 := by decide
  omega
theorem fc2 : FP.fconst2.toNat = mkF 128 0 := by decide
theorem fc1 : FP.fconst1.toNat = mkF 127 0 := by decide
theorem f23 : (1258291200 : UInt32).toNat = mkF 150 0 := by decide
theorem u_div2 {e T : Nat} (h1 : 2 ≤ e) (h2 : e ≤ 254) (hT : T < 8388608) : FP.fdiv (mk32 e T) FP.fconst2 = mk32 (e - 1) T := by
  show UInt32.ofNat (FP.Core.div FP.Core.b32 (mk32 e T).toNat FP.fconst2.toNat) = _
  rw [mk32_nat h2 hT, fc2, fp_div2 h1 h2 hT]; rfl
theorem u_mul2 {e T : Nat} (h1 : 1 ≤ e) (h2 : e ≤ 253) (hT : T < 8388608) : FP.fmul (mk32 e T) FP.fconst2 = mk32 (e + 1) T := by
  show UInt32.ofNat (FP.Core.mul FP.Core.b32 (mk32 e T).toNat FP.fconst2.toNat) = _
  rw [mk32_nat (by omega) hT, fc2, fp_mul h1 (by omega) hT (by decide) (by decide) (by omega) (by omega), show e + 128 - 127 = e + 1 by omega]; rfl
theorem cv_lt (o : ClassFile.CmpOp) : Op.cmpValue (some .lt) o = -1 := rfl
theorem cv_ge {r : Option Ordering} (h1 : r ≠ some .lt) (h2 : r ≠ none) (o : ClassFile.CmpOp) : 0 ≤ Op.cmpValue r o := by
  cases r with
  | none => exact absurd rfl h2
  | some q =>
    cases q with
    | lt => exact absurd rfl h1
    | eq => exact (by decide : (0 : Int32) ≤ 0)
    | gt => exact (by decide : (0 : Int32) ≤ 1)
theorem u_cmp2 {e T : Nat} (h1 : 1 ≤ e) (h2 : e ≤ 254) (hT : T < 8388608) : (e < 128 → Op.cmpValue (FP.fcmp (mk32 e T) FP.fconst2) .l < (0 : Int32)) ∧ (128 ≤ e → ¬ Op.cmpValue (FP.fcmp (mk32 e T) FP.fconst2) .l < (0 : Int32)) := by
  have hh := fp_cmp (e2 := 128) h1 h2 hT (by decide) (by decide)
  have e0 : FP.fcmp (mk32 e T) FP.fconst2 = FP.Core.cmp FP.Core.b32 (mkF e T) (mkF 128 0) := by
    show FP.Core.cmp FP.Core.b32 (mk32 e T).toNat FP.fconst2.toNat = _
    rw [mk32_nat h2 hT, fc2]
  rw [e0]
  exact ⟨fun h => by rw [hh.1 h, cv_lt]; decide, fun h => Int32.not_lt.mpr (cv_ge (hh.2 h).1 (hh.2 h).2 _)⟩
theorem u_cmp1 {e T : Nat} (h1 : 1 ≤ e) (h2 : e ≤ 254) (hT : T < 8388608) : (e < 127 → ¬ (0 : Int32) ≤ Op.cmpValue (FP.fcmp (mk32 e T) FP.fconst1) .g) ∧ (127 ≤ e → (0 : Int32) ≤ Op.cmpValue (FP.fcmp (mk32 e T) FP.fconst1) .g) := by
  have hh := fp_cmp (e2 := 127) h1 h2 hT (by decide) (by decide)
  have e0 : FP.fcmp (mk32 e T) FP.fconst1 = FP.Core.cmp FP.Core.b32 (mkF e T) (mkF 127 0) := by
    show FP.Core.cmp FP.Core.b32 (mk32 e T).toNat FP.fconst1.toNat = _
    rw [mk32_nat h2 hT, fc1]
  rw [e0]
  exact ⟨fun h => by rw [hh.1 h, cv_lt]; decide, fun h => cv_ge (hh.2 h).1 (hh.2 h).2 _⟩
theorem sh23 : ∀ e : Fin 256, (nI e.val) <<< ((23 : Int32) &&& 31) = nI (e.val * 8388608) := by decide +kernel
theorem fp_f2i {m k T : Nat} (hm1 : 8388608 ≤ m) (hm2 : m < 16777216) (hk : k ≤ 22) (e : m = T * 2 ^ (23 - k)) (hT : T < 8388608) : FP.f2i (mk32 (k + 127) (m - 8388608)) = nI T := by
  show FP.Core.toI (FP.Core.decode FP.Core.b32 (mk32 (k + 127) (m - 8388608)).toNat) = _
  rw [mk32_nat (by omega) (by omega), fp_dec (by omega) (by omega) (by omega), show 8388608 + (m - 8388608) = m by omega]
  unfold FP.Core.toI FP.Core.toInt FP.Core.truncate FP.Core.signed
  dsimp only
  rw [if_neg (by decide), show (((k + 127 : Nat) : Int) - 150).toNat = 0 by omega, show (-(((k + 127 : Nat) : Int) - 150)).toNat = 23 - k by omega, Nat.pow_zero, Nat.mul_one, e, Nat.mul_div_cancel _ (Nat.two_pow_pos _)]
  rw [show max (-2 ^ 31) (min (2 ^ 31 - 1) (T : Int)) = (T : Int) by
    have : (2 : Int) ^ 31 = 2147483648 := by decide
    rw [this]; omega]
  rfl
theorem u_b67 {T : Nat} (hT : T < 8388608) (p0 : UInt32) {e : Nat} (he : e < 256) : X4_bitsOf_b67 p0 (mk32 127 T) (nI e) = some (nI (mkF e T)) := by
  have es : FP.fsub (mk32 127 T) FP.fconst1 = UInt32.ofNat (FP.Core.encode FP.Core.b32 (FP.Core.round FP.Core.b32 (.fin false T (-23)))) := by
    show UInt32.ofNat (FP.Core.sub FP.Core.b32 (mk32 127 T).toNat FP.fconst1.toNat) = _
    rw [mk32_nat (by decide) hT, fc1, fp_sub hT]
  have e23 := sh23 ⟨e, he⟩
  dsimp only at e23
  rw [X4_bitsOf_b67, es, e23]
  rcases Nat.eq_zero_or_pos T with z | z
  · subst z
    rw [show UInt32.ofNat (FP.Core.encode FP.Core.b32 (FP.Core.round FP.Core.b32 (.fin false 0 (-23)))) = 0 by decide +kernel, show nnF 0 = some 0 by decide +kernel, Option.bind_some, show nnF (FP.fmul 0 1258291200) = some 0 by decide +kernel, Option.bind_some, show FP.f2i 0 = nI 0 by decide +kernel, nI_add]
    rfl
  · obtain ⟨k, k1, k2⟩ := fp_ex z
    have hk : k < 23 := fp_klt k1 (n := 23) (by rw [show (2 : Nat) ^ 23 = 8388608 by decide]; exact hT)
    obtain ⟨r1, r2, r3⟩ := fp_nat (r := -23) k1 k2 (by omega) (by omega) (by omega)
    have ez : UInt32.ofNat (FP.Core.encode FP.Core.b32 (FP.Core.round FP.Core.b32 (.fin false T (-23)))) = mk32 (k + 104) (T * 2 ^ (23 - k) - 8388608) := by
      rw [r1, fp_enc r2 (by omega)]
      rw [show ((k : Int) + -23 - 23 + 150).toNat = k + 104 by omega]; rfl
    have em : FP.fmul (mk32 (k + 104) (T * 2 ^ (23 - k) - 8388608)) 1258291200 = mk32 (k + 127) (T * 2 ^ (23 - k) - 8388608) := by
      show UInt32.ofNat (FP.Core.mul FP.Core.b32 (mk32 (k + 104) (T * 2 ^ (23 - k) - 8388608)).toNat (1258291200 : UInt32).toNat) = _
      rw [mk32_nat (by omega) (by omega), f23, fp_mul (by omega) (by omega) (by omega) (by decide) (by decide) (by omega) (by omega), show k + 104 + 150 - 127 = k + 127 by omega]; rfl
    rw [ez, nnF_mk (by omega) (by omega), Option.bind_some, em, nnF_mk (by omega) (by omega), Option.bind_some, fp_f2i r2 r3 (by omega) rfl hT, nI_add]
    rfl
theorem u_l42 {T : Nat} (hT : T < 8388608) (p0 : UInt32) : ∀ (n fu e x x3 : Nat), n < fu → e + n = 127 → 1 ≤ e → x3 + n ≤ 125 → n ≤ x → x - n < 256 → X4_bitsOf_l42 p0 fu (mk32 e T) (nI x) (nI x3) = some (nI (mkF (x - n) T)) := by
  intro n
  induction n with
  | zero =>
    intro fu e x x3 hf he h1 h3 hx h2
    obtain ⟨fu, rfl⟩ : ∃ f, fu = f + 1 := ⟨fu - 1, by omega⟩
    have : e = 127 := by omega
    subst this
    have hc : ¬ (126 : Int32) ≤ nI x3 := by
      have : ¬ nI 126 ≤ nI x3 := by rw [q_le (by decide) (by omega)]; omega
      exact this
    rw [X4_bitsOf_l42, if_neg hc, if_pos ((u_cmp1 h1 (by decide) hT).2 (by decide))]
    exact u_b67 hT p0 h2
  | succ n ih =>
    intro fu e x x3 hf he h1 h3 hx h2
    obtain ⟨fu, rfl⟩ : ∃ f, fu = f + 1 := ⟨fu - 1, by omega⟩
    have hc : ¬ (126 : Int32) ≤ nI x3 := by
      have : ¬ nI 126 ≤ nI x3 := by rw [q_le (by decide) (by omega)]; omega
      exact this
    obtain ⟨y, rfl⟩ : ∃ y, x = y + 1 := ⟨x - 1, by omega⟩
    have em : nI (y + 1) + (-1 : Int32) = nI y := by
      have e1 : nI (y + 1) + (-1 : Int32) = nI (y + 1) - 1 := by rw [Int32.sub_eq_add_neg]
      rw [e1, nI_pred]
    rw [X4_bitsOf_l42, if_neg hc, if_neg ((u_cmp1 h1 (by omega) hT).1 (by omega)), u_mul2 h1 (by omega) hT, nnF_mk (by omega) hT, Option.bind_some, em, q_1, ih fu (e + 1) y (x3 + 1) (by omega) (by omega) (by omega) (by omega) (by omega) (by omega), show y + 1 - (n + 1) = y - n by omega]
theorem u_l15 {T : Nat} (hT : T < 8388608) (p0 : UInt32) : ∀ (n fu e x x3 : Nat), n < fu → e = 127 + n → e ≤ 200 → x3 + n ≤ 100 → x + n < 256 → X4_bitsOf_l15 p0 fu (mk32 e T) (nI x) (nI x3) = some (nI (mkF (x + n) T)) := by
  intro n
  induction n with
  | zero =>
    intro fu e x x3 hf he h1 h3 hx
    obtain ⟨fu, rfl⟩ : ∃ f, fu = f + 1 := ⟨fu - 1, by omega⟩
    have : e = 127 := by omega
    subst this
    have hc : ¬ (127 : Int32) ≤ nI x3 := by
      have : ¬ nI 127 ≤ nI x3 := by rw [q_le (by decide) (by omega)]; omega
      exact this
    rw [X4_bitsOf_l15, if_neg hc, if_pos ((u_cmp2 (by decide) (by decide) hT).1 (by decide))]
    exact u_l42 hT p0 0 FU 127 x 0 (by decide) (by omega) (by decide) (by decide) (by omega) (by omega)
  | succ n ih =>
    intro fu e x x3 hf he h1 h3 hx
    obtain ⟨fu, rfl⟩ : ∃ f, fu = f + 1 := ⟨fu - 1, by omega⟩
    have hc : ¬ (127 : Int32) ≤ nI x3 := by
      have : ¬ nI 127 ≤ nI x3 := by rw [q_le (by decide) (by omega)]; omega
      exact this
    rw [X4_bitsOf_l15, if_neg hc, if_neg ((u_cmp2 (by omega) (by omega) hT).2 (by omega)), u_div2 (by omega) (by omega) hT, nnF_mk (by omega) hT, Option.bind_some, q_1, q_1, ih fu (e - 1) (x + 1) (x3 + 1) (by omega) (by omega) (by omega) (by omega) (by omega), show x + 1 + n = x + (n + 1) by omega]
theorem u_bits {e T : Nat} (h1 : 10 ≤ e) (h2 : e ≤ 200) (hT : T < 8388608) : X4_bitsOf (mk32 e T) = some (nI (mkF e T)) := by
  have e0 : Op.cmpValue (FP.fcmp (mk32 e T) FP.fconst0) .l = 1 := by
    show Op.cmpValue (FP.Core.cmp FP.Core.b32 (mk32 e T).toNat FP.fconst0.toNat) .l = 1
    rw [mk32_nat (by omega) hT]
    unfold FP.Core.cmp
    rw [fp_dec (by omega) (by omega) hT, show FP.Core.decode FP.Core.b32 FP.fconst0.toNat = .fin false 0 (-149) by decide +kernel]
    unfold FP.Core.order
    dsimp only
    unfold FP.Core.signed FP.Core.inUnits
    simp only [Bool.false_eq_true, if_false, Nat.zero_mul]
    have hp : 0 < (8388608 + T) * 2 ^ ((e : Int) - 150 - min ((e : Int) - 150) (-149)).toNat := Nat.mul_pos (by omega) (Nat.two_pow_pos _)
    rw [Int.compare_eq_gt.mpr (by omega)]
    rfl
  rw [X4_bitsOf, e0, if_pos (by decide)]
  by_cases c : 127 ≤ e
  · have := u_l15 hT (mk32 e T) (e - 127) FU e 127 0 (by show _ < 2000; omega) (by omega) h2 (by omega) (by omega)
    rw [show 127 + (e - 127) = e by omega] at this
    exact this
  · have := u_l42 hT (mk32 e T) (127 - e) FU e 127 0 (by show _ < 2000; omega) (by omega) (by omega) (by omega) (by omega) (by omega)
    rw [show 127 - (127 - e) = e by omega] at this
    rw [show FU = 1999 + 1 from rfl, X4_bitsOf_l15, if_neg (by decide), if_pos ((u_cmp2 (by omega) (by omega) hT).1 (by omega))]
    exact this
theorem m_bits {e T : Nat} (h1 : 1 ≤ e) (h2 : e ≤ 254) (hT : T < 8388608) : Jxf58ca_floatToIntBits_5c35a (mk32 e T) = some (nI (mkF e T)) := by
  have e0 : Op.cmpValue (FP.fcmp (mk32 e T) (mk32 e T)) .l = 0 := by
    show Op.cmpValue (FP.Core.cmp FP.Core.b32 (mk32 e T).toNat (mk32 e T).toNat) .l = 0
    rw [mk32_nat h2 hT]
    unfold FP.Core.cmp
    rw [fp_dec h1 h2 hT]
    unfold FP.Core.order
    dsimp only
    rw [Int.compare_eq_eq.mpr rfl]
    rfl
  rw [Jxf58ca_floatToIntBits_5c35a, Jxf58ca_isNaN_12338, e0, if_pos rfl, Option.bind_some, if_pos rfl]
  rfl
theorem u_i2f {s : Nat} (h0 : 0 < s) (h : s < 8388608) : ∃ k T, FP.i2f (nI s) = mk32 (k + 127) T ∧ T < 8388608 ∧ 2 ^ k ≤ s ∧ k < 23 := by
  obtain ⟨k, k1, k2⟩ := fp_ex h0
  have hk : k < 23 := fp_klt k1 (n := 23) (by rw [show (2 : Nat) ^ 23 = 8388608 by decide]; exact h)
  obtain ⟨_, r2, r3⟩ := fp_nat (r := 0) k1 k2 (by omega) (by omega) (by omega)
  refine ⟨k, s * 2 ^ (23 - k) - 8388608, ?_, by omega, k1, hk⟩
  show UInt32.ofNat (FP.Core.fromInt FP.Core.b32 (nI s).toInt) = _
  rw [nI_toInt (by omega), fp_int k1 k2 (by omega)]; rfl
theorem u_quot {s t : Nat} (h0 : 0 < s) (h : s < 8192) (g0 : 0 < t) (g : t < 512) : ∃ e T, FP.fdiv (FP.i2f (nI s)) (FP.i2f (nI t)) = mk32 e T ∧ T < 8388608 ∧ 100 ≤ e ∧ e ≤ 150 := by
  obtain ⟨k, T, e1, hT, p1, _⟩ := u_i2f h0 (by omega)
  obtain ⟨k2, T2, e2, hT2, p2, _⟩ := u_i2f g0 (by omega)
  have a1 : k < 13 := fp_klt p1 (n := 13) (by omega)
  have a2 : k2 < 9 := fp_klt p2 (n := 9) (by omega)
  obtain ⟨e, T', d, dT, d1, d2⟩ := fp_div (e1 := k + 127) (T1 := T) (e2 := k2 + 127) (T2 := T2) (by omega) (by omega) hT (by omega) (by omega) hT2
  refine ⟨e, T', ?_, dT, by omega, by omega⟩
  rw [e1, e2]
  show UInt32.ofNat (FP.Core.div FP.Core.b32 (mk32 (k + 127) T).toNat (mk32 (k2 + 127) T2).toNat) = _
  rw [mk32_nat (by omega) hT, mk32_nat (by omega) hT2, d]; rfl
theorem u_zero {t : Nat} (g0 : 0 < t) (g : t < 512) : FP.fdiv (FP.i2f (nI 0)) (FP.i2f (nI t)) = 0 := by
  obtain ⟨k2, T2, e2, hT2, p2, _⟩ := u_i2f g0 (by omega)
  rw [e2]
  show UInt32.ofNat (FP.Core.div FP.Core.b32 (FP.i2f (nI 0)).toNat (mk32 (k2 + 127) T2).toNat) = 0
  rw [mk32_nat (by omega) hT2, show (FP.i2f (nI 0)).toNat = 0 by decide +kernel]
  unfold FP.Core.div
  rw [fp_dec (by omega) (by omega) hT2, show FP.Core.decode FP.Core.b32 0 = .fin false 0 (-149) by decide +kernel]
  unfold FP.Core.quotient
  dsimp only
  rw [if_neg (by omega)]
  unfold FP.Core.roundRatio
  rw [if_pos rfl]
  decide +kernel
/- the ages' sum -/
def agN : List Lot → Nat
  | [] => 0
  | l :: ls => l.2.2.2.1.toNatClampNeg * l.2.2.2.2.1.toNatClampNeg + agN ls
theorem agN_le {P : Nat} : ∀ {ls : List Lot}, (∀ l ∈ ls, okL P l) → agN ls ≤ 171 * ls.length := by
  intro ls
  induction ls with
  | nil => intro _; exact Nat.le_refl _
  | cons l ls ih =>
    intro h
    obtain ⟨d, c, k, n, a, p, e, h1, h2, h3, h4, h5, h6, h7, h8⟩ := h l (List.mem_cons_self)
    have hi := ih (fun x hx => h x (List.mem_cons_of_mem _ hx))
    have hn : n * a ≤ 9 * 19 := Nat.mul_le_mul h6 h7
    rw [e]
    show (nI n).toNatClampNeg * (nI a).toNatClampNeg + agN ls ≤ 171 * (ls.length + 1)
    rw [nI_clamp (by omega), nI_clamp (by omega)]
    omega
theorem sum_pos1 {P : Nat} : ∀ {ls : List Lot}, (∀ l ∈ ls, okL P l) → ls.length ≤ sumN (mt (-1) (-1) (-1)) ls := by
  intro ls
  induction ls with
  | nil => intro _; exact Nat.le_refl _
  | cons l ls ih =>
    intro h
    obtain ⟨d, c, k, n, a, p, e, h1, h2, h3, h4, h5, h6, h7, h8⟩ := h l (List.mem_cons_self)
    have hi := ih (fun x hx => h x (List.mem_cons_of_mem _ hx))
    rw [e]
    show ls.length + 1 ≤ (if mt (-1) (-1) (-1) (nI d, nI c, nI k, nI n, nI a, nI p) then (nI n).toNatClampNeg else 0) + sumN (mt (-1) (-1) (-1)) ls
    rw [mt_any, if_pos rfl, nI_clamp (by omega)]
    omega
theorem c_ages_l {v : St} {a : AS} (h : RC v a) {P : Nat} (hl : ∀ l ∈ a.1, okL P l) : ∀ (rest dn : List Lot) (fu acc : Nat), rest.length < fu → a.1 = dn ++ rest → X0_sumOfAges_l4 v fu (nI acc) (nI dn.length) = some (nI (acc + agN rest)) := by
  intro rest
  induction rest with
  | nil =>
    intro dn fu acc hf he
    obtain ⟨fu, rfl⟩ : ∃ f, fu = f + 1 := ⟨fu - 1, by simp at hf; omega⟩
    have h40 := h.1.2.1
    rw [List.append_nil] at he
    rw [X0_sumOfAges_l4, q_num2, Option.bind_some, h.1.1, he, if_pos (by rw [he] at h40; rw [q_le (by omega) (by omega)]; exact Nat.le_refl _)]
    rfl
  | cons l rest ih =>
    intro dn fu acc hf he
    obtain ⟨fu, rfl⟩ : ∃ f, fu = f + 1 := ⟨fu - 1, by simp at hf; omega⟩
    have h40 := h.1.2.1
    have hln : a.1.length = dn.length + (rest.length + 1) := by rw [he, List.length_append, List.length_cons]
    have eL : lotC v dn.length = l := (lotsF_at (g' := lotC v) (dn := dn) (rest := rest) (by rw [← he]; exact h.1.2.2) (fun _ _ => rfl)).1
    obtain ⟨d0, c0, k, n, ag, p, e, h1, h2, h3, h4, h5, h6, h7, h8⟩ := hl l (by rw [he]; exact List.mem_append_right _ List.mem_cons_self)
    have he' : a.1 = (dn ++ [l]) ++ rest := by rw [he, List.append_assoc]; rfl
    have hcmp : ¬ nI (dn.length + (rest.length + 1)) ≤ nI dn.length := by rw [q_le (by omega) (by omega)]; omega
    have k11 : v 11 dn.length = nI n := by
      have : (lotC v dn.length).2.2.2.1 = nI n := by rw [eL, e]
      exact this
    have k12 : v 12 dn.length = nI ag := by
      have : (lotC v dn.length).2.2.2.2.1 = nI ag := by rw [eL, e]
      exact this
    have go := ih (dn ++ [l]) fu (acc + n * ag) (by simp at hf; omega) he'
    rw [List.length_append, List.length_singleton, ← q_1] at go
    rw [X0_sumOfAges_l4, q_num2, Option.bind_some, h.1.1, hln, if_neg hcmp, q_at (by omega) (by decide), Option.bind_some, q_at (by omega) (by decide), Option.bind_some, k11, k12, pk_mul, nI_add, go, e]
    show _ = some (nI (acc + ((nI n).toNatClampNeg * (nI ag).toNatClampNeg + agN rest)))
    rw [nI_clamp (by omega), nI_clamp (by omega), Nat.add_assoc]
theorem m_ages_l {v : St} {a : AS} (h : RM (v 1) a) {P : Nat} (hl : ∀ l ∈ a.1, okL P l) : ∀ (rest dn : List Lot) (fu acc : Nat), rest.length < fu → a.1 = dn ++ rest → X5_mean_l4 v fu (nI acc) (nI dn.length) = X5_mean_b38 v (nI (acc + agN rest)) := by
  intro rest
  induction rest with
  | nil =>
    intro dn fu acc hf he
    obtain ⟨fu, rfl⟩ : ∃ f, fu = f + 1 := ⟨fu - 1, by simp at hf; omega⟩
    have h40 := h.1.2.1
    rw [List.append_nil] at he
    rw [X5_mean_l4, m290, Option.bind_some, h.1.1, he, if_pos (by rw [he] at h40; rw [q_le (by omega) (by omega)]; exact Nat.le_refl _)]
    rfl
  | cons l rest ih =>
    intro dn fu acc hf he
    obtain ⟨fu, rfl⟩ : ∃ f, fu = f + 1 := ⟨fu - 1, by simp at hf; omega⟩
    have h40 := h.1.2.1
    have hln : a.1.length = dn.length + (rest.length + 1) := by rw [he, List.length_append, List.length_cons]
    have eL : lotM (v 1) dn.length = l := lotM_at (rest := rest) (by rw [← he]; exact h.1)
    obtain ⟨d0, c0, k, n, ag, p, e, h1, h2, h3, h4, h5, h6, h7, h8⟩ := hl l (by rw [he]; exact List.mem_append_right _ List.mem_cons_self)
    have he' : a.1 = (dn ++ [l]) ++ rest := by rw [he, List.append_assoc]; rfl
    have hcmp : ¬ nI (dn.length + (rest.length + 1)) ≤ nI dn.length := by rw [q_le (by omega) (by omega)]; omega
    have k3 : v 1 (6 * dn.length + 3) = nI n := by
      have : (lotM (v 1) dn.length).2.2.2.1 = nI n := by rw [eL, e]
      exact this
    have k4 : v 1 (6 * dn.length + 4) = nI ag := by
      have : (lotM (v 1) dn.length).2.2.2.2.1 = nI ag := by rw [eL, e]
      exact this
    have go := ih (dn ++ [l]) fu (acc + n * ag) (by simp at hf; omega) he'
    rw [List.length_append, List.length_singleton, ← q_1] at go
    rw [X5_mean_l4, m290, Option.bind_some, h.1.1, hln, if_neg hcmp, q_of3 v (by omega), Option.bind_some, q_of4 v (by omega), Option.bind_some, k3, k4, pk_mul, nI_add, go, e]
    show _ = X5_mean_b38 v (nI (acc + ((nI n).toNatClampNeg * (nI ag).toNatClampNeg + agN rest)))
    rw [nI_clamp (by omega), nI_clamp (by omega), Nat.add_assoc]
theorem f_mean {vB vM : St} {a : AS} (h : RC vB a) (hm : RM (vM 1) a) (ho : OK a) (vT vH : St) (bH : Nat → St) (vR vO : St) : ∃ ans, X4_mean vB vT vH bH vR vO = some ans ∧ X5_mean vM = some ans := by
  obtain ⟨es, bs⟩ := sumS_n ho (mt (-1) (-1) (-1))
  obtain ⟨h40, P, h8, hP, hl, _⟩ := ho
  have ec := c_ages_l h hl a.1 [] FU 0 (by show _ < 2000; omega) rfl
  have em := m_ages_l hm hl a.1 [] FU 0 (by show _ < 2000; omega) rfl
  have ec' : X0_sumOfAges_l4 vB FU (0 : Int32) (0 : Int32) = _ := ec
  have em' : X5_mean_l4 vM FU (0 : Int32) (0 : Int32) = _ := em
  have hlen := sum_pos1 hl
  have hag := agN_le hl
  rw [Nat.zero_add] at ec' em'
  rw [X4_mean, q_sumOwed h.1, Option.bind_some, es, X0_sumOfAges, ec', X5_mean, em', X5_mean_b38, q_allM hm.1, Option.bind_some, es, m290, Option.bind_some, hm.1.1, Option.bind_some]
  generalize hs : agN a.1 = s at hag ⊢
  generalize ht : sumN (mt (-1) (-1) (-1)) a.1 = t at bs hlen ⊢
  have e0 : ((0 : Int32) < nI t) = (0 < t) := q_lt (a := 0) (by decide) (by omega)
  have e1 : (nI a.1.length = (0 : Int32)) = (a.1.length = 0) := propext (nI_eq (b := 0) (by omega) (by decide))
  by_cases z : a.1.length = 0
  · have t0 : t = 0 := by
      have : a.1 = [] := List.length_eq_zero_iff.mp z
      rw [this] at ht; rw [← ht]; rfl
    rw [if_neg (fun q => by have := e0.mp q; omega), if_pos (e1.mpr z)]
    exact ⟨_, rfl, rfl⟩
  · rw [if_pos (e0.mpr (by omega)), if_neg (fun q => z (e1.mp q))]
    rcases Nat.eq_zero_or_pos s with s0 | s0
    · rw [s0, u_zero (by omega) (by omega), show nnF 0 = some 0 by decide +kernel, Option.bind_some, Option.bind_some, show X4_bitsOf 0 = some 0 by decide +kernel, show Jxf58ca_floatToIntBits_5c35a 0 = some 0 by decide +kernel]
      exact ⟨_, rfl, rfl⟩
    · obtain ⟨e, T, q1, q2, q3, q4⟩ := u_quot s0 (show s < 8192 by omega) (show 0 < t by omega) (by omega)
      rw [q1, nnF_mk (by omega) q2, Option.bind_some, Option.bind_some, u_bits (by omega) (by omega) q2, m_bits (by omega) (by omega) q2]
      exact ⟨_, rfl, rfl⟩

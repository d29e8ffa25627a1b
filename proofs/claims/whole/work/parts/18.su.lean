/- the law: all steps; its start -/
theorem law_end {n0 p : Nat} (hn : n0 ≤ 2560) (hp : p ≤ 2560) : (Int32.ofNat n0 - (5 : Int32) < nI p) = (n0 < p + 5) := by
  have e : (nI n0 - nI 5).toInt = (n0 : Int) - 5 := by
    rw [Int32.toInt_sub, nI_toInt (by omega), nI_toInt (by decide)]
    exact Int.bmod_eq_of_le (by omega) (by omega)
  have e2 : (Int32.ofNat n0 - (5 : Int32)).toInt = (n0 : Int) - 5 := e
  rw [lt_i, e2, nI_toInt (by omega)]
  exact propext (by omega)
theorem law_loop {xs : Nat → Int32} {n0 : Nat} (hn : n0 ≤ 2560) : ∀ (m fu p : Nat) (vB vT vH : St) (bH : Nat → St) (vR vO vM : St), m < fu → n0 < p + 5 * m + 5 → p ≤ n0 + 5 → p ≤ 2560 → RLs vB vH bH vO vM → L_law_l18 xs n0 fu vB vT vH bH vR vO vM (nI p) = some 1 := by
  intro m
  induction m with
  | zero =>
    intro fu p vB vT vH bH vR vO vM hf h1 h2 h3 R
    obtain ⟨fu, rfl⟩ : ∃ f, fu = f + 1 := ⟨fu - 1, by omega⟩
    rw [L_law_l18, if_pos ((law_end hn h3).mpr (by omega))]
  | succ m ih =>
    intro fu p vB vT vH bH vR vO vM hf h1 h2 h3 R
    obtain ⟨fu, rfl⟩ : ∃ f, fu = f + 1 := ⟨fu - 1, by omega⟩
    by_cases c : n0 < p + 5
    · rw [L_law_l18, if_pos ((law_end hn h3).mpr c)]
    · have hp : p + 5 ≤ n0 := by omega
      have K : KOK (L_law_l18 xs n0 fu) (p + 5) := fun vB vT vH bH vR vO vM R => ih fu (p + 5) vB vT vH bH vR vO vM (by omega) (by omega) (by omega) (by omega) R
      rw [L_law_l18, if_neg (fun e => c ((law_end hn h3).mp e)), rd0 hn hp, Option.bind_some]
      by_cases c0 : (xs p &&& (31 : Int32)) = (0 : Int32)
      · rw [if_pos c0]; exact s_152 hn hp K R
      rw [if_neg c0]
      by_cases c1 : (xs p &&& (31 : Int32)) = (1 : Int32)
      · rw [if_pos c1]; exact s_165 hn hp K R
      rw [if_neg c1]
      by_cases c2 : (xs p &&& (31 : Int32)) = (2 : Int32)
      · rw [if_pos c2]; exact s_218 hn hp K R
      rw [if_neg c2]
      by_cases c3 : (xs p &&& (31 : Int32)) = (3 : Int32)
      · rw [if_pos c3]; exact s_271 hn hp K R
      rw [if_neg c3]
      by_cases c4 : (xs p &&& (31 : Int32)) = (4 : Int32)
      · rw [if_pos c4]; exact s_304 hn hp K R
      rw [if_neg c4]
      by_cases c5 : (xs p &&& (31 : Int32)) = (5 : Int32)
      · rw [if_pos c5]; exact s_327 hn hp K R
      rw [if_neg c5]
      by_cases c6 : (xs p &&& (31 : Int32)) = (6 : Int32)
      · rw [if_pos c6]; exact s_366 hn hp K R
      rw [if_neg c6]
      by_cases c7 : (xs p &&& (31 : Int32)) = (7 : Int32)
      · rw [if_pos c7]; exact s_389 hn hp K R
      rw [if_neg c7]
      by_cases c8 : (xs p &&& (31 : Int32)) = (8 : Int32)
      · rw [if_pos c8]; exact s_422 hn hp K R
      rw [if_neg c8]
      by_cases c9 : (xs p &&& (31 : Int32)) = (9 : Int32)
      · rw [if_pos c9]; exact s_455 hn hp K R
      rw [if_neg c9]
      by_cases c10 : (xs p &&& (31 : Int32)) = (10 : Int32)
      · rw [if_pos c10]; exact s_498 hn hp K R
      rw [if_neg c10]
      by_cases c11 : (xs p &&& (31 : Int32)) = (11 : Int32)
      · rw [if_pos c11]; exact s_531 hn hp K R
      rw [if_neg c11]
      by_cases c12 : (xs p &&& (31 : Int32)) = (12 : Int32)
      · rw [if_pos c12]; exact s_564 hn hp K R
      rw [if_neg c12]
      by_cases c13 : (xs p &&& (31 : Int32)) = (13 : Int32)
      · rw [if_pos c13]; exact s_597 hn hp K R
      rw [if_neg c13]
      by_cases c14 : (xs p &&& (31 : Int32)) = (14 : Int32)
      · rw [if_pos c14]; exact s_620 hn hp K R
      rw [if_neg c14]
      by_cases c15 : (xs p &&& (31 : Int32)) = (15 : Int32)
      · rw [if_pos c15]; exact s_653 hn hp K R
      rw [if_neg c15]
      by_cases c16 : (xs p &&& (31 : Int32)) = (16 : Int32)
      · rw [if_pos c16]; exact s_696 hn hp K R
      rw [if_neg c16]
      by_cases c17 : (xs p &&& (31 : Int32)) = (17 : Int32)
      · rw [if_pos c17]; exact s_719 hn hp K R
      rw [if_neg c17]
      by_cases c18 : (xs p &&& (31 : Int32)) = (18 : Int32)
      · rw [if_pos c18]; exact s_742 hn hp K R
      rw [if_neg c18]
      by_cases c19 : (xs p &&& (31 : Int32)) = (19 : Int32)
      · rw [if_pos c19]; exact s_765 hn hp K R
      rw [if_neg c19]
      by_cases c20 : (xs p &&& (31 : Int32)) = (20 : Int32)
      · rw [if_pos c20]; exact s_778 hn hp K R
      rw [if_neg c20]
      by_cases c21 : (xs p &&& (31 : Int32)) = (21 : Int32)
      · rw [if_pos c21]; exact s_801 hn hp K R
      rw [if_neg c21]
      by_cases c22 : (xs p &&& (31 : Int32)) = (22 : Int32)
      · rw [if_pos c22]; exact s_814 hn hp K R
      rw [if_neg c22]
      by_cases c23 : (xs p &&& (31 : Int32)) = (23 : Int32)
      · rw [if_pos c23]; exact s_837 hn hp K R
      rw [if_neg c23]
      by_cases c24 : (xs p &&& (31 : Int32)) = (24 : Int32)
      · rw [if_pos c24]; exact s_850 hn hp K R
      rw [if_neg c24]
      by_cases c25 : (xs p &&& (31 : Int32)) = (25 : Int32)
      · rw [if_pos c25]; exact s_873 hn hp K R
      rw [if_neg c25]
      rw [nx5]
      exact K vB vT vH bH vR vO vM R
def o0F : Nat → Int32 := upd (upd (upd (upd (upd (upd (fun _ => 0) 20 4) 21 6) 22 8) 23 10) 24 20) 25 3
def omF : Nat → Int32 := upd (upd (upd (upd (upd (upd (fun _ => 0) 298 4) 299 6) 300 8) 301 10) 302 20) 303 3
theorem c_init : X0_init = some o0F := by
  have p20 : ∀ (f : Nat → Int32) (x : Int32), X4_put f 26 (20 : Int32) x = some (upd f 20 x) := fun f x => q_put (k := 20) (by decide) (by decide)
  have p21 : ∀ (f : Nat → Int32) (x : Int32), X4_put f 26 (21 : Int32) x = some (upd f 21 x) := fun f x => q_put (k := 21) (by decide) (by decide)
  have p22 : ∀ (f : Nat → Int32) (x : Int32), X4_put f 26 (22 : Int32) x = some (upd f 22 x) := fun f x => q_put (k := 22) (by decide) (by decide)
  have p23 : ∀ (f : Nat → Int32) (x : Int32), X4_put f 26 (23 : Int32) x = some (upd f 23 x) := fun f x => q_put (k := 23) (by decide) (by decide)
  have p24 : ∀ (f : Nat → Int32) (x : Int32), X4_put f 26 (24 : Int32) x = some (upd f 24 x) := fun f x => q_put (k := 24) (by decide) (by decide)
  have p25 : ∀ (f : Nat → Int32) (x : Int32), X4_put f 26 (25 : Int32) x = some (upd f 25 x) := fun f x => q_put (k := 25) (by decide) (by decide)
  rw [X0_init, show X4_firstOfSetting 0 = some 4 by decide, Option.bind_some, p20, Option.bind_some, show X4_firstOfSetting 1 = some 6 by decide, Option.bind_some, p21, Option.bind_some, show X4_firstOfSetting 2 = some 8 by decide, Option.bind_some, p22, Option.bind_some, show X4_firstOfSetting 3 = some 10 by decide, Option.bind_some, p23, Option.bind_some, show X4_firstOfSetting 4 = some 20 by decide, Option.bind_some, p24, Option.bind_some, show X4_firstOfSetting 5 = some 3 by decide, Option.bind_some, p25, Option.bind_some]
  rfl
theorem m_init : X5_init = some omF := by
  rw [X5_init, w298, Option.bind_some, w299, Option.bind_some, w300, Option.bind_some, w301, Option.bind_some, w302, Option.bind_some, w303, Option.bind_some]
  rfl
def g0S : AS := ([], o0F, fun _ _ => 0)
theorem om_low {i : Nat} (h : i < 298) : omF i = 0 := by
  unfold omF
  rw [q_un (by omega), q_un (by omega), q_un (by omega), q_un (by omega), q_un (by omega), q_un (by omega)]
theorem start_ok : OK g0S := by
  refine ⟨by decide, 0, by decide, rfl, fun l hl => (by cases hl), fun p _ => ⟨0, rfl, by decide, by omega⟩, fun i hi => ?_, ⟨20, rfl, by decide, by decide⟩, ⟨3, rfl, by decide, by decide⟩, Or.inl rfl, ⟨0, rfl, by decide⟩⟩
  have cs : i = 0 ∨ i = 1 ∨ i = 2 ∨ i = 3 := by omega
  rcases cs with rfl | rfl | rfl | rfl
  · exact ⟨4, rfl, by decide, by decide⟩
  · exact ⟨6, rfl, by decide, by decide⟩
  · exact ⟨8, rfl, by decide, by decide⟩
  · exact ⟨10, rfl, by decide, by decide⟩
theorem start_c : RC (setA (fun _ _ => 0) 1 o0F) g0S := by
  refine ⟨⟨?_, by decide, rfl⟩, fun i _ _ => ?_, fun r p h1 _ _ => ?_⟩
  · rw [q_sA]; rfl
  · rw [q_sA]; rfl
  · rw [q_sN _ _ (by omega)]; rfl
theorem start_m : RM ((setA (fun _ _ => 0) 1 omF) 1) g0S := by
  rw [q_sA]
  refine ⟨⟨?_, by decide, rfl⟩, fun i hi => ?_, fun r p h1 h2 h3 => ?_⟩
  · rw [om_low (by decide)]; rfl
  · unfold mset at hi
    have cs : i = 0 ∨ i = 1 ∨ i = 4 ∨ i = 5 ∨ i = 6 ∨ i = 7 ∨ i = 8 ∨ i = 9 ∨ i = 10 ∨ i = 20 ∨ i = 21 ∨ i = 22 ∨ i = 23 ∨ i = 24 ∨ i = 25 := by omega
    rcases cs with rfl | rfl | rfl | rfl | rfl | rfl | rfl | rfl | rfl | rfl | rfl | rfl | rfl | rfl | rfl
    all_goals rfl
  · have := offP_lt h1 h2
    rw [om_low (by omega)]; rfl
theorem start_rel (vH : St) (bH : Nat → St) (h1 : vH 99 1 = 0) : RLs (setA (fun _ _ => 0) 1 o0F) vH bH (fun _ _ => 0) (setA (fun _ _ => 0) 1 omF) := by
  refine ⟨g0S, [], 0, fun _ => 0, start_c, start_ok, ⟨h1, by decide, fun i a e => ?_⟩, fun b hb => (by cases hb), ⟨by decide, fun i hi => by omega⟩, ⟨rfl, fun i hi => by omega⟩, start_m, ⟨?_, by decide, fun i a e => ?_⟩, ?_, ?_, fun i hi => by omega⟩
  · rw [List.getElem?_nil] at e; cases e
  · rw [q_sN _ _ (by decide)]; rfl
  · rw [List.getElem?_nil] at e; cases e
  · rw [q_sN _ _ (by decide)]
  · rw [q_sN _ _ (by decide)]; rfl

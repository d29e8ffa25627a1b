/- the law's steps: class and reference side by side -/
theorem rd0 {xs : Nat → Int32} {n0 p : Nat} (hn : n0 ≤ 2560) (hp : p + 5 ≤ n0) : ldA n0 xs (nI p) = some (xs p) := q_ld (by omega) (by omega)
theorem rd1 {xs : Nat → Int32} {n0 p : Nat} (hn : n0 ≤ 2560) (hp : p + 5 ≤ n0) : ldA n0 xs (nI p + (1 : Int32)) = some (xs (p + 1)) := by
  have e : nI p + (1 : Int32) = nI (p + 1) := nI_add p 1
  rw [e]; exact q_ld (by omega) (by omega)
theorem rd2 {xs : Nat → Int32} {n0 p : Nat} (hn : n0 ≤ 2560) (hp : p + 5 ≤ n0) : ldA n0 xs (nI p + (2 : Int32)) = some (xs (p + 2)) := by
  have e : nI p + (2 : Int32) = nI (p + 2) := nI_add p 2
  rw [e]; exact q_ld (by omega) (by omega)
theorem rd3 {xs : Nat → Int32} {n0 p : Nat} (hn : n0 ≤ 2560) (hp : p + 5 ≤ n0) : ldA n0 xs (nI p + (3 : Int32)) = some (xs (p + 3)) := by
  have e : nI p + (3 : Int32) = nI (p + 3) := nI_add p 3
  rw [e]; exact q_ld (by omega) (by omega)
theorem rd4 {xs : Nat → Int32} {n0 p : Nat} (hn : n0 ≤ 2560) (hp : p + 5 ≤ n0) : ldA n0 xs (nI p + (4 : Int32)) = some (xs (p + 4)) := by
  have e : nI p + (4 : Int32) = nI (p + 4) := nI_add p 4
  rw [e]; exact q_ld (by omega) (by omega)
theorem nx5 (p : Nat) : nI p + (5 : Int32) = nI (p + 5) := nI_add p 5
theorem f_pupil {vB vH vO vM : St} {bH : Nat → St} (R : RLs vB vH bH vO vM) (vT vR : St) :
    ∃ ans vB' vT' vH' bH' vM', X4_pupil vB vT vH bH vR vO  = some (ans, vB', vT', vH', bH') ∧ X5_pupil vM  = some (ans, vM') ∧ RLs vB' vH' bH' vO vM' := by
  obtain ⟨g, hist, n, ch, R⟩ := R
  have ho := R.2.1
  obtain ⟨u, e1, hu⟩ := q_fresh vT vH bH vR vO R.1
  obtain ⟨w, e2, hw⟩ := c_pupS hu ho 
  have hm := m_pupS R.2.2.2.2.2.2.1 ho (fun _ => R.2.2.2.2.2.2.2.1) 
  obtain ⟨s, v', e3, e4, e5, e6⟩ := face_op R vR vO hw (pupS_ok ho ) hm
  refine ⟨s.1, s.2.1, w, s.2.2.1, s.2.2.2, v', ?_, ?_, e6⟩
  · rw [X4_pupil, e1, Option.bind_some, e2, Option.bind_some, e3, Option.bind_some]
  · rw [e4, e5]
theorem f_lend {vB vH vO vM : St} {bH : Nat → St} (R : RLs vB vH bH vO vM) (vT vR : St) (p1 p2 p3 p4 : Int32) :
    ∃ ans vB' vT' vH' bH' vM', X4_lend vB vT vH bH vR vO p1 p2 p3 p4 = some (ans, vB', vT', vH', bH') ∧ X5_lend vM p1 p2 p3 p4 = some (ans, vM') ∧ RLs vB' vH' bH' vO vM' := by
  obtain ⟨g, hist, n, ch, R⟩ := R
  have ho := R.2.1
  obtain ⟨u, e1, hu⟩ := q_fresh vT vH bH vR vO R.1
  obtain ⟨w, e2, hw⟩ := c_lendS hu ho p1 p2 p3 p4
  have hm := m_lendS R.2.2.2.2.2.2.1 ho (fun _ => R.2.2.2.2.2.2.2.1) p1 p2 p3 p4
  obtain ⟨s, v', e3, e4, e5, e6⟩ := face_op R vR vO hw (lendS_ok ho _ _ _ _) hm
  refine ⟨s.1, s.2.1, w, s.2.2.1, s.2.2.2, v', ?_, ?_, e6⟩
  · rw [X4_lend, e1, Option.bind_some, e2, Option.bind_some, e3, Option.bind_some]
  · rw [e4, e5]
theorem f_fulfil {vB vH vO vM : St} {bH : Nat → St} (R : RLs vB vH bH vO vM) (vT vR : St) (p1 p2 p3 p4 : Int32) :
    ∃ ans vB' vT' vH' bH' vM', X4_fulfil vB vT vH bH vR vO p1 p2 p3 p4 = some (ans, vB', vT', vH', bH') ∧ X5_fulfil vM p1 p2 p3 p4 = some (ans, vM') ∧ RLs vB' vH' bH' vO vM' := by
  obtain ⟨g, hist, n, ch, R⟩ := R
  have ho := R.2.1
  obtain ⟨u, e1, hu⟩ := q_fresh vT vH bH vR vO R.1
  obtain ⟨w, e2, hw⟩ := c_fulS hu ho p1 p2 p3 p4
  have hm := m_fulS R.2.2.2.2.2.2.1 ho (fun _ => R.2.2.2.2.2.2.2.1) p1 p2 p3 p4
  obtain ⟨s, v', e3, e4, e5, e6⟩ := face_op R vR vO hw (fulS_ok ho _ _ _ _) hm
  refine ⟨s.1, s.2.1, w, s.2.2.1, s.2.2.2, v', ?_, ?_, e6⟩
  · rw [X4_fulfil, e1, Option.bind_some, e2, Option.bind_some, e3, Option.bind_some]
  · rw [e4, e5]
theorem f_guarantee {vB vH vO vM : St} {bH : Nat → St} (R : RLs vB vH bH vO vM) (vT vR : St) (p1 p2 : Int32) :
    ∃ ans vB' vT' vH' bH' vM', X4_guarantee vB vT vH bH vR vO p1 p2 = some (ans, vB', vT', vH', bH') ∧ X5_guarantee vM p1 p2 = some (ans, vM') ∧ RLs vB' vH' bH' vO vM' := by
  obtain ⟨g, hist, n, ch, R⟩ := R
  have ho := R.2.1
  obtain ⟨u, e1, hu⟩ := q_fresh vT vH bH vR vO R.1
  obtain ⟨w, e2, hw⟩ := c_guaS hu ho p1 p2
  have hm := m_guaS R.2.2.2.2.2.2.1 ho (fun _ => R.2.2.2.2.2.2.2.1) p1 p2
  obtain ⟨s, v', e3, e4, e5, e6⟩ := face_op R vR vO hw (guaS_ok ho _ _) hm
  refine ⟨s.1, s.2.1, w, s.2.2.1, s.2.2.2, v', ?_, ?_, e6⟩
  · rw [X4_guarantee, e1, Option.bind_some, e2, Option.bind_some, e3, Option.bind_some]
  · rw [e4, e5]
theorem f_weeks {vB vH vO vM : St} {bH : Nat → St} (R : RLs vB vH bH vO vM) (vT vR : St) (p1 : Int32) :
    ∃ ans vB' vT' vH' bH' vM', X4_weeks vB vT vH bH vR vO p1 = some (ans, vB', vT', vH', bH') ∧ X5_weeks vM p1 = some (ans, vM') ∧ RLs vB' vH' bH' vO vM' := by
  obtain ⟨g, hist, n, ch, R⟩ := R
  have ho := R.2.1
  obtain ⟨u, e1, hu⟩ := q_fresh vT vH bH vR vO R.1
  obtain ⟨w, e2, hw⟩ := c_weeksS hu ho p1
  have hm := m_weeksS R.2.2.2.2.2.2.1 ho (fun _ => R.2.2.2.2.2.2.2.1) p1
  obtain ⟨s, v', e3, e4, e5, e6⟩ := face_op R vR vO hw (weeksS_ok ho _) hm
  refine ⟨s.1, s.2.1, w, s.2.2.1, s.2.2.2, v', ?_, ?_, e6⟩
  · rw [X4_weeks, e1, Option.bind_some, e2, Option.bind_some, e3, Option.bind_some]
  · rw [e4, e5]
theorem f_holiday {vB vH vO vM : St} {bH : Nat → St} (R : RLs vB vH bH vO vM) (vT vR : St) (p1 : Int32) :
    ∃ ans vB' vT' vH' bH' vM', X4_holiday vB vT vH bH vR vO p1 = some (ans, vB', vT', vH', bH') ∧ X5_holiday vM p1 = some (ans, vM') ∧ RLs vB' vH' bH' vO vM' := by
  obtain ⟨g, hist, n, ch, R⟩ := R
  have ho := R.2.1
  obtain ⟨u, e1, hu⟩ := q_fresh vT vH bH vR vO R.1
  obtain ⟨w, e2, hw⟩ := c_holS hu p1
  have hm := m_holS R.2.2.2.2.2.2.1 ho (fun _ => R.2.2.2.2.2.2.2.1) p1
  obtain ⟨s, v', e3, e4, e5, e6⟩ := face_op R vR vO hw (holS_ok ho _) hm
  refine ⟨s.1, s.2.1, w, s.2.2.1, s.2.2.2, v', ?_, ?_, e6⟩
  · rw [X4_holiday, e1, Option.bind_some, e2, Option.bind_some, e3, Option.bind_some]
  · rw [e4, e5]
theorem f_set {vB vH vO vM : St} {bH : Nat → St} (R : RLs vB vH bH vO vM) (vT vR : St) (p1 p2 : Int32) :
    ∃ ans vB' vT' vH' bH' vM', X4_set vB vT vH bH vR vO p1 p2 = some (ans, vB', vT', vH', bH') ∧ X5_set vM p1 p2 = some (ans, vM') ∧ RLs vB' vH' bH' vO vM' := by
  obtain ⟨g, hist, n, ch, R⟩ := R
  have ho := R.2.1
  obtain ⟨u, e1, hu⟩ := q_fresh vT vH bH vR vO R.1
  obtain ⟨w, e2, hw⟩ := c_setS hu p1 p2
  have hm := m_setS R.2.2.2.2.2.2.1 ho (fun _ => R.2.2.2.2.2.2.2.1) p1 p2
  obtain ⟨s, v', e3, e4, e5, e6⟩ := face_op R vR vO hw (setS_ok ho _ _) hm
  refine ⟨s.1, s.2.1, w, s.2.2.1, s.2.2.2, v', ?_, ?_, e6⟩
  · rw [X4_set, e1, Option.bind_some, e2, Option.bind_some, e3, Option.bind_some]
  · rw [e4, e5]
theorem f_clear {vB vH vO vM : St} {bH : Nat → St} (R : RLs vB vH bH vO vM) (vT vR : St) (p1 : Int32) :
    ∃ ans vB' vT' vH' bH' vR' vM', X4_clear vB vT vH bH vR vO p1 = some (ans, vB', vT', vH', bH', vR') ∧ X5_clear vM p1 = some (ans, vM') ∧ RLs vB' vH' bH' vO vM' := by
  obtain ⟨g, hist, n, ch, R⟩ := R
  have ho := R.2.1
  obtain ⟨u, e1, hu⟩ := q_fresh vT vH bH vR vO R.1
  obtain ⟨vR', w, e2, hw, hk⟩ := c_clearS hu ho vR p1
  have hm := m_clearS R.2.2.2.2.2.2.1 ho (fun _ => R.2.2.2.2.2.2.2.1) p1
  obtain ⟨s, v', e3, e4, e5, e6⟩ := face_op R vR' vO hw hk hm
  refine ⟨s.1, s.2.1, w, s.2.2.1, s.2.2.2, vR', v', ?_, ?_, e6⟩
  · rw [X4_clear, e1, Option.bind_some, e2, Option.bind_some, e3, Option.bind_some]
  · rw [e4, e5]
def KOK (k18 : St → St → St → (Nat → St) → St → St → St → Int32 → Option Int32) (q : Nat) : Prop := ∀ vB vT vH bH vR vO vM, RLs vB vH bH vO vM → k18 vB vT vH bH vR vO vM (nI q) = some 1
theorem s_152 {xs : Nat → Int32} {n0 p : Nat} (hn : n0 ≤ 2560) (hp : p + 5 ≤ n0) {k18 : St → St → St → (Nat → St) → St → St → St → Int32 → Option Int32} (K : KOK k18 (p + 5)) {vB vT vH vR vO vM : St} {bH : Nat → St} (R : RLs vB vH bH vO vM) : L_law_b152 xs n0 k18 vB vT vH bH vR vO vM (nI p) = some 1 := by
  obtain ⟨ans, vB', vT', vH', bH', vM', e1, e2, R'⟩ := f_pupil R vT vR 
  rw [L_law_b152, e1, Option.bind_some, e2, Option.bind_some, if_pos rfl, nx5]
  exact K _ _ _ _ _ _ _ R'
theorem s_165 {xs : Nat → Int32} {n0 p : Nat} (hn : n0 ≤ 2560) (hp : p + 5 ≤ n0) {k18 : St → St → St → (Nat → St) → St → St → St → Int32 → Option Int32} (K : KOK k18 (p + 5)) {vB vT vH vR vO vM : St} {bH : Nat → St} (R : RLs vB vH bH vO vM) : L_law_b165 xs n0 k18 vB vT vH bH vR vO vM (nI p) = some 1 := by
  obtain ⟨ans, vB', vT', vH', bH', vM', e1, e2, R'⟩ := f_lend R vT vR (xs (p + 1)) (xs (p + 2)) (xs (p + 3)) (xs (p + 4))
  rw [L_law_b165, rd1 hn hp, Option.bind_some, rd2 hn hp, Option.bind_some, rd3 hn hp, Option.bind_some, rd4 hn hp, Option.bind_some, e1, Option.bind_some, Option.bind_some, Option.bind_some, Option.bind_some, Option.bind_some, e2, Option.bind_some, if_pos rfl, nx5]
  exact K _ _ _ _ _ _ _ R'
theorem s_218 {xs : Nat → Int32} {n0 p : Nat} (hn : n0 ≤ 2560) (hp : p + 5 ≤ n0) {k18 : St → St → St → (Nat → St) → St → St → St → Int32 → Option Int32} (K : KOK k18 (p + 5)) {vB vT vH vR vO vM : St} {bH : Nat → St} (R : RLs vB vH bH vO vM) : L_law_b218 xs n0 k18 vB vT vH bH vR vO vM (nI p) = some 1 := by
  obtain ⟨ans, vB', vT', vH', bH', vM', e1, e2, R'⟩ := f_fulfil R vT vR (xs (p + 1)) (xs (p + 2)) (xs (p + 3)) (xs (p + 4))
  rw [L_law_b218, rd1 hn hp, Option.bind_some, rd2 hn hp, Option.bind_some, rd3 hn hp, Option.bind_some, rd4 hn hp, Option.bind_some, e1, Option.bind_some, Option.bind_some, Option.bind_some, Option.bind_some, Option.bind_some, e2, Option.bind_some, if_pos rfl, nx5]
  exact K _ _ _ _ _ _ _ R'
theorem s_271 {xs : Nat → Int32} {n0 p : Nat} (hn : n0 ≤ 2560) (hp : p + 5 ≤ n0) {k18 : St → St → St → (Nat → St) → St → St → St → Int32 → Option Int32} (K : KOK k18 (p + 5)) {vB vT vH vR vO vM : St} {bH : Nat → St} (R : RLs vB vH bH vO vM) : L_law_b271 xs n0 k18 vB vT vH bH vR vO vM (nI p) = some 1 := by
  obtain ⟨ans, vB', vT', vH', bH', vM', e1, e2, R'⟩ := f_guarantee R vT vR (xs (p + 1)) (xs (p + 2))
  rw [L_law_b271, rd1 hn hp, Option.bind_some, rd2 hn hp, Option.bind_some, e1, Option.bind_some, Option.bind_some, Option.bind_some, e2, Option.bind_some, if_pos rfl, nx5]
  exact K _ _ _ _ _ _ _ R'
theorem s_304 {xs : Nat → Int32} {n0 p : Nat} (hn : n0 ≤ 2560) (hp : p + 5 ≤ n0) {k18 : St → St → St → (Nat → St) → St → St → St → Int32 → Option Int32} (K : KOK k18 (p + 5)) {vB vT vH vR vO vM : St} {bH : Nat → St} (R : RLs vB vH bH vO vM) : L_law_b304 xs n0 k18 vB vT vH bH vR vO vM (nI p) = some 1 := by
  obtain ⟨ans, vB', vT', vH', bH', vM', e1, e2, R'⟩ := f_weeks R vT vR (xs (p + 1))
  rw [L_law_b304, rd1 hn hp, Option.bind_some, e1, Option.bind_some, Option.bind_some, e2, Option.bind_some, if_pos rfl, nx5]
  exact K _ _ _ _ _ _ _ R'
theorem s_389 {xs : Nat → Int32} {n0 p : Nat} (hn : n0 ≤ 2560) (hp : p + 5 ≤ n0) {k18 : St → St → St → (Nat → St) → St → St → St → Int32 → Option Int32} (K : KOK k18 (p + 5)) {vB vT vH vR vO vM : St} {bH : Nat → St} (R : RLs vB vH bH vO vM) : L_law_b389 xs n0 k18 vB vT vH bH vR vO vM (nI p) = some 1 := by
  obtain ⟨ans, vB', vT', vH', bH', vM', e1, e2, R'⟩ := f_set R vT vR (xs (p + 1)) (xs (p + 2))
  rw [L_law_b389, rd1 hn hp, Option.bind_some, rd2 hn hp, Option.bind_some, e1, Option.bind_some, Option.bind_some, Option.bind_some, e2, Option.bind_some, if_pos rfl, nx5]
  exact K _ _ _ _ _ _ _ R'
theorem s_366 {xs : Nat → Int32} {n0 p : Nat} (hn : n0 ≤ 2560) (hp : p + 5 ≤ n0) {k18 : St → St → St → (Nat → St) → St → St → St → Int32 → Option Int32} (K : KOK k18 (p + 5)) {vB vT vH vR vO vM : St} {bH : Nat → St} (R : RLs vB vH bH vO vM) : L_law_b366 xs n0 k18 vB vT vH bH vR vO vM (nI p) = some 1 := by
  obtain ⟨ans, vB', vT', vH', bH', vR', vM', e1, e2, R'⟩ := f_clear R vT vR (xs (p + 1))
  rw [L_law_b366, rd1 hn hp, Option.bind_some, e1, Option.bind_some, Option.bind_some, e2, Option.bind_some, if_pos rfl, nx5]
  exact K _ _ _ _ _ _ _ R'
theorem s_327 {xs : Nat → Int32} {n0 p : Nat} (hn : n0 ≤ 2560) (hp : p + 5 ≤ n0) {k18 : St → St → St → (Nat → St) → St → St → St → Int32 → Option Int32} (K : KOK k18 (p + 5)) {vB vT vH vR vO vM : St} {bH : Nat → St} (R : RLs vB vH bH vO vM) : L_law_b327 xs n0 k18 vB vT vH bH vR vO vM (nI p) = some 1 := by
  rw [L_law_b327, rd1 hn hp, Option.bind_some]
  by_cases c : xs (p + 1) = 0
  · obtain ⟨ans, vB', vT', vH', bH', vM', e1, e2, R'⟩ := f_holiday R vT vR 0
    rw [if_pos c, L_law_b341, e1, Option.bind_some, rd1 hn hp, Option.bind_some, if_pos c, L_law_b358, e2, Option.bind_some, if_pos rfl, nx5]
    exact K _ _ _ _ _ _ _ R'
  · obtain ⟨ans, vB', vT', vH', bH', vM', e1, e2, R'⟩ := f_holiday R vT vR 1
    rw [if_neg c, L_law_b341, e1, Option.bind_some, rd1 hn hp, Option.bind_some, if_neg c, L_law_b358, e2, Option.bind_some, if_pos rfl, nx5]
    exact K _ _ _ _ _ _ _ R'
theorem s_422 {xs : Nat → Int32} {n0 p : Nat} (hn : n0 ≤ 2560) (hp : p + 5 ≤ n0) {k18 : St → St → St → (Nat → St) → St → St → St → Int32 → Option Int32} (K : KOK k18 (p + 5)) {vB vT vH vR vO vM : St} {bH : Nat → St} (R : RLs vB vH bH vO vM) : L_law_b422 xs n0 k18 vB vT vH bH vR vO vM (nI p) = some 1 := by
  have R0 := R
  obtain ⟨g, hist, n, ch, R⟩ := R
  obtain ⟨ans, e1, e2⟩ := f_pupilOf R.1 R.2.2.2.2.2.2.1 R.2.1 vT vH bH vR vO (xs (p + 1)) (xs (p + 2))
  rw [L_law_b422, rd1 hn hp, Option.bind_some, rd2 hn hp, Option.bind_some, e1, Option.bind_some, Option.bind_some, Option.bind_some, e2, Option.bind_some, if_pos rfl, nx5]
  exact K _ _ _ _ _ _ _ R0
theorem s_455 {xs : Nat → Int32} {n0 p : Nat} (hn : n0 ≤ 2560) (hp : p + 5 ≤ n0) {k18 : St → St → St → (Nat → St) → St → St → St → Int32 → Option Int32} (K : KOK k18 (p + 5)) {vB vT vH vR vO vM : St} {bH : Nat → St} (R : RLs vB vH bH vO vM) : L_law_b455 xs n0 k18 vB vT vH bH vR vO vM (nI p) = some 1 := by
  have R0 := R
  obtain ⟨g, hist, n, ch, R⟩ := R
  obtain ⟨ans, e1, e2⟩ := f_owes R.1 R.2.2.2.2.2.2.1 R.2.1 vT vH bH vR vO (xs (p + 1)) (xs (p + 2)) (xs (p + 3))
  rw [L_law_b455, rd1 hn hp, Option.bind_some, rd2 hn hp, Option.bind_some, rd3 hn hp, Option.bind_some, e1, Option.bind_some, Option.bind_some, Option.bind_some, Option.bind_some, e2, Option.bind_some, if_pos rfl, nx5]
  exact K _ _ _ _ _ _ _ R0
theorem s_498 {xs : Nat → Int32} {n0 p : Nat} (hn : n0 ≤ 2560) (hp : p + 5 ≤ n0) {k18 : St → St → St → (Nat → St) → St → St → St → Int32 → Option Int32} (K : KOK k18 (p + 5)) {vB vT vH vR vO vM : St} {bH : Nat → St} (R : RLs vB vH bH vO vM) : L_law_b498 xs n0 k18 vB vT vH bH vR vO vM (nI p) = some 1 := by
  have R0 := R
  obtain ⟨g, hist, n, ch, R⟩ := R
  obtain ⟨ans, e1, e2⟩ := f_lot R.1 R.2.2.2.2.2.2.1 R.2.1 vT vH bH vR vO (xs (p + 1)) (xs (p + 2))
  rw [L_law_b498, rd1 hn hp, Option.bind_some, rd2 hn hp, Option.bind_some, e1, Option.bind_some, Option.bind_some, Option.bind_some, e2, Option.bind_some, if_pos rfl, nx5]
  exact K _ _ _ _ _ _ _ R0
theorem s_531 {xs : Nat → Int32} {n0 p : Nat} (hn : n0 ≤ 2560) (hp : p + 5 ≤ n0) {k18 : St → St → St → (Nat → St) → St → St → St → Int32 → Option Int32} (K : KOK k18 (p + 5)) {vB vT vH vR vO vM : St} {bH : Nat → St} (R : RLs vB vH bH vO vM) : L_law_b531 xs n0 k18 vB vT vH bH vR vO vM (nI p) = some 1 := by
  have R0 := R
  obtain ⟨g, hist, n, ch, R⟩ := R
  obtain ⟨ans, e1, e2⟩ := f_why R.1 R.2.2.2.2.2.2.1 R.2.1 vT vH bH vR vO (xs (p + 1)) (xs (p + 2))
  rw [L_law_b531, rd1 hn hp, Option.bind_some, rd2 hn hp, Option.bind_some, e1, Option.bind_some, Option.bind_some, Option.bind_some, e2, Option.bind_some, if_pos rfl, nx5]
  exact K _ _ _ _ _ _ _ R0
theorem s_696 {xs : Nat → Int32} {n0 p : Nat} (hn : n0 ≤ 2560) (hp : p + 5 ≤ n0) {k18 : St → St → St → (Nat → St) → St → St → St → Int32 → Option Int32} (K : KOK k18 (p + 5)) {vB vT vH vR vO vM : St} {bH : Nat → St} (R : RLs vB vH bH vO vM) : L_law_b696 xs n0 k18 vB vT vH bH vR vO vM (nI p) = some 1 := by
  have R0 := R
  obtain ⟨g, hist, n, ch, R⟩ := R
  obtain ⟨ans, e1, e2⟩ := f_deepest R.1 R.2.2.2.2.2.2.1 R.2.1 vT vH bH vR vO (xs (p + 1))
  rw [L_law_b696, rd1 hn hp, Option.bind_some, e1, Option.bind_some, Option.bind_some, e2, Option.bind_some, if_pos rfl, nx5]
  exact K _ _ _ _ _ _ _ R0
theorem s_719 {xs : Nat → Int32} {n0 p : Nat} (hn : n0 ≤ 2560) (hp : p + 5 ≤ n0) {k18 : St → St → St → (Nat → St) → St → St → St → Int32 → Option Int32} (K : KOK k18 (p + 5)) {vB vT vH vR vO vM : St} {bH : Nat → St} (R : RLs vB vH bH vO vM) : L_law_b719 xs n0 k18 vB vT vH bH vR vO vM (nI p) = some 1 := by
  have R0 := R
  obtain ⟨g, hist, n, ch, R⟩ := R
  obtain ⟨ans, e1, e2⟩ := f_spoilsIn R.1 R.2.2.2.2.2.2.1 R.2.1 vT vH bH vR vO (xs (p + 1))
  rw [L_law_b719, rd1 hn hp, Option.bind_some, e1, Option.bind_some, Option.bind_some, e2, Option.bind_some, if_pos rfl, nx5]
  exact K _ _ _ _ _ _ _ R0
theorem s_742 {xs : Nat → Int32} {n0 p : Nat} (hn : n0 ≤ 2560) (hp : p + 5 ≤ n0) {k18 : St → St → St → (Nat → St) → St → St → St → Int32 → Option Int32} (K : KOK k18 (p + 5)) {vB vT vH vR vO vM : St} {bH : Nat → St} (R : RLs vB vH bH vO vM) : L_law_b742 xs n0 k18 vB vT vH bH vR vO vM (nI p) = some 1 := by
  have R0 := R
  obtain ⟨g, hist, n, ch, R⟩ := R
  obtain ⟨ans, e1, e2⟩ := f_richest R.1 R.2.2.2.2.2.2.1 R.2.1 vT vH bH vR vO (xs (p + 1))
  rw [L_law_b742, rd1 hn hp, Option.bind_some, e1, Option.bind_some, Option.bind_some, e2, Option.bind_some, if_pos rfl, nx5]
  exact K _ _ _ _ _ _ _ R0
theorem s_765 {xs : Nat → Int32} {n0 p : Nat} (hn : n0 ≤ 2560) (hp : p + 5 ≤ n0) {k18 : St → St → St → (Nat → St) → St → St → St → Int32 → Option Int32} (K : KOK k18 (p + 5)) {vB vT vH vR vO vM : St} {bH : Nat → St} (R : RLs vB vH bH vO vM) : L_law_b765 xs n0 k18 vB vT vH bH vR vO vM (nI p) = some 1 := by
  have R0 := R
  obtain ⟨g, hist, n, ch, R⟩ := R
  obtain ⟨ans, e1, e2⟩ := f_mean R.1 R.2.2.2.2.2.2.1 R.2.1 vT vH bH vR vO 
  rw [L_law_b765, e1, Option.bind_some, e2, Option.bind_some, if_pos rfl, nx5]
  exact K _ _ _ _ _ _ _ R0
theorem s_778 {xs : Nat → Int32} {n0 p : Nat} (hn : n0 ≤ 2560) (hp : p + 5 ≤ n0) {k18 : St → St → St → (Nat → St) → St → St → St → Int32 → Option Int32} (K : KOK k18 (p + 5)) {vB vT vH vR vO vM : St} {bH : Nat → St} (R : RLs vB vH bH vO vM) : L_law_b778 xs n0 k18 vB vT vH bH vR vO vM (nI p) = some 1 := by
  have R0 := R
  obtain ⟨g, hist, n, ch, R⟩ := R
  obtain ⟨ans, e1, e2⟩ := f_count R vT vR (xs (p + 1))
  rw [L_law_b778, rd1 hn hp, Option.bind_some, e1, Option.bind_some, Option.bind_some, e2, Option.bind_some, if_pos rfl, nx5]
  exact K _ _ _ _ _ _ _ R0
theorem s_564 {xs : Nat → Int32} {n0 p : Nat} (hn : n0 ≤ 2560) (hp : p + 5 ≤ n0) {k18 : St → St → St → (Nat → St) → St → St → St → Int32 → Option Int32} (K : KOK k18 (p + 5)) {vB vT vH vR vO vM : St} {bH : Nat → St} (R : RLs vB vH bH vO vM) : L_law_b564 xs n0 k18 vB vT vH bH vR vO vM (nI p) = some 1 := by
  obtain ⟨g, hist, n, ch, R⟩ := R
  obtain ⟨vR', e1⟩ := c_ringS R.1 R.2.1 vT vH bH vR vO (xs (p + 1)) (xs (p + 2))
  obtain ⟨v', e2, R'⟩ := R.read (m_ringS R.2.2.2.2.2.2.1 R.2.1 (xs (p + 1)) (xs (p + 2)))
  rw [L_law_b564, rd1 hn hp, Option.bind_some, rd2 hn hp, Option.bind_some, e1, Option.bind_some, Option.bind_some, Option.bind_some, e2, Option.bind_some, if_pos rfl, nx5]
  exact K _ _ _ _ _ _ _ R'
theorem s_597 {xs : Nat → Int32} {n0 p : Nat} (hn : n0 ≤ 2560) (hp : p + 5 ≤ n0) {k18 : St → St → St → (Nat → St) → St → St → St → Int32 → Option Int32} (K : KOK k18 (p + 5)) {vB vT vH vR vO vM : St} {bH : Nat → St} (R : RLs vB vH bH vO vM) : L_law_b597 xs n0 k18 vB vT vH bH vR vO vM (nI p) = some 1 := by
  obtain ⟨g, hist, n, ch, R⟩ := R
  obtain ⟨vR', e1⟩ := c_amountS R.1 R.2.1 vT vH bH vR vO (xs (p + 1))
  obtain ⟨v', e2, R'⟩ := R.read (m_amountS R.2.2.2.2.2.2.1 R.2.1 (xs (p + 1)))
  rw [L_law_b597, rd1 hn hp, Option.bind_some, e1, Option.bind_some, Option.bind_some, e2, Option.bind_some, if_pos rfl, nx5]
  exact K _ _ _ _ _ _ _ R'
theorem s_653 {xs : Nat → Int32} {n0 p : Nat} (hn : n0 ≤ 2560) (hp : p + 5 ≤ n0) {k18 : St → St → St → (Nat → St) → St → St → St → Int32 → Option Int32} (K : KOK k18 (p + 5)) {vB vT vH vR vO vM : St} {bH : Nat → St} (R : RLs vB vH bH vO vM) : L_law_b653 xs n0 k18 vB vT vH bH vR vO vM (nI p) = some 1 := by
  obtain ⟨g, hist, n, ch, R⟩ := R
  obtain ⟨vR', e1⟩ := c_chainS R.1 R.2.1 vT vH bH vR vO (xs (p + 1)) (xs (p + 2)) (xs (p + 3))
  obtain ⟨v', e2, R'⟩ := R.read (m_chainS R.2.2.2.2.2.2.1 R.2.1 (xs (p + 1)) (xs (p + 2)) (xs (p + 3)))
  rw [L_law_b653, rd1 hn hp, Option.bind_some, rd2 hn hp, Option.bind_some, rd3 hn hp, Option.bind_some, e1, Option.bind_some, Option.bind_some, Option.bind_some, Option.bind_some, e2, Option.bind_some, if_pos rfl, nx5]
  exact K _ _ _ _ _ _ _ R'
theorem s_620 {xs : Nat → Int32} {n0 p : Nat} (hn : n0 ≤ 2560) (hp : p + 5 ≤ n0) {k18 : St → St → St → (Nat → St) → St → St → St → Int32 → Option Int32} (K : KOK k18 (p + 5)) {vB vT vH vR vO vM : St} {bH : Nat → St} (R : RLs vB vH bH vO vM) : L_law_b620 xs n0 k18 vB vT vH bH vR vO vM (nI p) = some 1 := by
  obtain ⟨g, hist, n, ch, R⟩ := R
  obtain ⟨vT', vR', e1⟩ := c_ifS R.1 R.2.1 vT vH bH vR vO (xs (p + 1)) (xs (p + 2))
  obtain ⟨v', e2, R'⟩ := R.read (m_ifS R.2.2.2.2.2.2.1 R.2.1 (xs (p + 1)) (xs (p + 2)))
  rw [L_law_b620, rd1 hn hp, Option.bind_some, rd2 hn hp, Option.bind_some, e1, Option.bind_some, Option.bind_some, Option.bind_some, e2, Option.bind_some, if_pos rfl, nx5]
  exact K _ _ _ _ _ _ _ R'
theorem s_801 {xs : Nat → Int32} {n0 p : Nat} (hn : n0 ≤ 2560) (hp : p + 5 ≤ n0) {k18 : St → St → St → (Nat → St) → St → St → St → Int32 → Option Int32} (K : KOK k18 (p + 5)) {vB vT vH vR vO vM : St} {bH : Nat → St} (R : RLs vB vH bH vO vM) : L_law_b801 xs n0 k18 vB vT vH bH vR vO vM (nI p) = some 1 := by
  obtain ⟨ans, vB', vH', vM', e1, e2, R'⟩ := f_undo R vT vR
  rw [L_law_b801, e1, Option.bind_some, e2, Option.bind_some, if_pos rfl, nx5]
  exact K _ _ _ _ _ _ _ R'
theorem s_814 {xs : Nat → Int32} {n0 p : Nat} (hn : n0 ≤ 2560) (hp : p + 5 ≤ n0) {k18 : St → St → St → (Nat → St) → St → St → St → Int32 → Option Int32} (K : KOK k18 (p + 5)) {vB vT vH vR vO vM : St} {bH : Nat → St} (R : RLs vB vH bH vO vM) : L_law_b814 xs n0 k18 vB vT vH bH vR vO vM (nI p) = some 1 := by
  obtain ⟨ans, vO', vM', e1, e2, R'⟩ := f_type R vT vR (xs (p + 1))
  rw [L_law_b814, rd1 hn hp, Option.bind_some, e1, Option.bind_some, Option.bind_some, e2, Option.bind_some, if_pos rfl, nx5]
  exact K _ _ _ _ _ _ _ R'
theorem s_837 {xs : Nat → Int32} {n0 p : Nat} (hn : n0 ≤ 2560) (hp : p + 5 ≤ n0) {k18 : St → St → St → (Nat → St) → St → St → St → Int32 → Option Int32} (K : KOK k18 (p + 5)) {vB vT vH vR vO vM : St} {bH : Nat → St} (R : RLs vB vH bH vO vM) : L_law_b837 xs n0 k18 vB vT vH bH vR vO vM (nI p) = some 1 := by
  obtain ⟨ans, vO', vM', e1, e2, R'⟩ := f_clearText R vT vR
  rw [L_law_b837, e1, Option.bind_some, e2, Option.bind_some, if_pos rfl, nx5]
  exact K _ _ _ _ _ _ _ R'
theorem s_850 {xs : Nat → Int32} {n0 p : Nat} (hn : n0 ≤ 2560) (hp : p + 5 ≤ n0) {k18 : St → St → St → (Nat → St) → St → St → St → Int32 → Option Int32} (K : KOK k18 (p + 5)) {vB vT vH vR vO vM : St} {bH : Nat → St} (R : RLs vB vH bH vO vM) : L_law_b850 xs n0 k18 vB vT vH bH vR vO vM (nI p) = some 1 := by
  obtain ⟨ans, vT', vR', vO', vM', e1, e2, R'⟩ := f_fault R vT vR (xs (p + 1))
  rw [L_law_b850, rd1 hn hp, Option.bind_some, e1, Option.bind_some, Option.bind_some, e2, Option.bind_some, if_pos rfl, nx5]
  exact K _ _ _ _ _ _ _ R'
theorem s_873 {xs : Nat → Int32} {n0 p : Nat} (hn : n0 ≤ 2560) (hp : p + 5 ≤ n0) {k18 : St → St → St → (Nat → St) → St → St → St → Int32 → Option Int32} (K : KOK k18 (p + 5)) {vB vT vH vR vO vM : St} {bH : Nat → St} (R : RLs vB vH bH vO vM) : L_law_b873 xs n0 k18 vB vT vH bH vR vO vM (nI p) = some 1 := by
  obtain ⟨ans, vB', vT', vH', bH', vR', vO', vM', e1, e2, R'⟩ := f_play R vT vR
  rw [L_law_b873, e1, Option.bind_some, e2, Option.bind_some, if_pos rfl, nx5]
  exact K _ _ _ _ _ _ _ R'

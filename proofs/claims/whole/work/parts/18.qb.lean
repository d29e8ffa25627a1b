/- one lot of a list, field by field; the end of a week for one lot -/
def setF (l : Lot) (j : Nat) (x : Int32) : Lot :=
  match j with
  | 0 => (x, l.2)
  | 1 => (l.1, x, l.2.2)
  | 2 => (l.1, l.2.1, x, l.2.2.2)
  | 3 => (l.1, l.2.1, l.2.2.1, x, l.2.2.2.2)
  | 4 => (l.1, l.2.1, l.2.2.1, l.2.2.2.1, x, l.2.2.2.2.2)
  | _ => (l.1, l.2.1, l.2.2.1, l.2.2.2.1, l.2.2.2.2.1, x)
def fld (l : Lot) (j : Nat) : Int32 :=
  match j with
  | 0 => l.1
  | 1 => l.2.1
  | 2 => l.2.2.1
  | 3 => l.2.2.2.1
  | 4 => l.2.2.2.2.1
  | _ => l.2.2.2.2.2
theorem lotsF_at {g g' : Nat → Lot} {dn rest : List Lot} {l : Lot} (h : dn ++ l :: rest = lotsF g 0 (dn ++ l :: rest).length) (h2 : ∀ j, j ≠ dn.length → g' j = g j) :
    g dn.length = l ∧ dn ++ g' dn.length :: rest = lotsF g' 0 (dn ++ g' dn.length :: rest).length := by
  have len : ∀ l : Lot, (dn ++ l :: rest).length = dn.length + (rest.length + 1) := fun l => by rw [List.length_append, List.length_cons]
  rw [len, lotsF_app, lotsF_cons, Nat.zero_add] at h
  obtain ⟨e1, e2⟩ := List.append_inj h (by rw [lotsF_len])
  injection e2 with e3 e4
  refine ⟨e3.symm, ?_⟩
  rw [len, lotsF_app, lotsF_cons, Nat.zero_add]
  rw [lotsF_cong (g := g') (h := g) dn.length 0 (fun j _ hj => h2 j (by omega)), lotsF_cong (g := g') (h := g) rest.length (dn.length + 1) (fun j hj _ => h2 j (by omega)), ← e1, ← e4]
theorem lotC_set1 (v : St) {j : Nat} (hj : j < 6) (k : Nat) (x : Int32) : lotC (setA v (8 + j) (upd (v (8 + j)) k x)) k = setF (lotC v k) j x ∧ (∀ i, i ≠ k → lotC (setA v (8 + j) (upd (v (8 + j)) k x)) i = lotC v i) ∧ v (8 + j) k = fld (lotC v k) j := by
  refine ⟨?_, fun i hi => ?_, ?_⟩
  · have : j = 0 ∨ j = 1 ∨ j = 2 ∨ j = 3 ∨ j = 4 ∨ j = 5 := by omega
    rcases this with rfl | rfl | rfl | rfl | rfl | rfl <;> simp [lotC, setF, setA, upd] <;> exact ⟨rfl, rfl, rfl, rfl, rfl⟩
  · have key : ∀ r, setA v (8 + j) (upd (v (8 + j)) k x) r i = v r i := by
      intro r
      by_cases e : r = 8 + j
      · subst e; rw [q_sA, q_un hi]
      · rw [q_sN v _ e]
    simp only [lotC, key]
  · have : j = 0 ∨ j = 1 ∨ j = 2 ∨ j = 3 ∨ j = 4 ∨ j = 5 := by omega
    rcases this with rfl | rfl | rfl | rfl | rfl | rfl <;> rfl
theorem RC.at {v : St} {dn rest : List Lot} {l : Lot} {nu : Nat → Int32} {pu : Nat → Nat → Int32} (h : RC v (dn ++ l :: rest, nu, pu)) {j : Nat} (hj : j < 6) (x : Int32) :
    v (8 + j) dn.length = fld l j ∧ RC (setA v (8 + j) (upd (v (8 + j)) dn.length x)) (dn ++ setF l j x :: rest, nu, pu) := by
  obtain ⟨⟨h1, h2, h3⟩, hn, hr⟩ := h
  obtain ⟨s1, s2, s3⟩ := lotC_set1 v hj dn.length x
  obtain ⟨e1, e2⟩ := lotsF_at h3 s2
  rw [e1] at s3
  rw [s1, e1] at e2
  have len : (dn ++ setF l j x :: rest).length = (dn ++ l :: rest).length := by simp
  refine ⟨s3, ⟨?_, by rw [len]; exact h2, e2⟩, fun i a b => ?_, fun r p a b c => ?_⟩
  · show (setA v (8 + j) (upd (v (8 + j)) dn.length x)) 1 2 = _
    rw [q_sN v _ (by omega), h1, len]
  · rw [q_sN v _ (by omega)]; exact hn i a b
  · rw [q_sN v _ (by omega)]; exact hr r p a b c
theorem lotM_set1 (s : Nat → Int32) {j : Nat} (hj : j < 6) (k : Nat) (x : Int32) : lotM (upd s (6 * k + j) x) k = setF (lotM s k) j x ∧ (∀ i, i ≠ k → lotM (upd s (6 * k + j) x) i = lotM s i) ∧ s (6 * k + j) = fld (lotM s k) j := by
  refine ⟨?_, fun i hi => lotM_upd s x (by omega), ?_⟩
  · have : j = 0 ∨ j = 1 ∨ j = 2 ∨ j = 3 ∨ j = 4 ∨ j = 5 := by omega
    rcases this with rfl | rfl | rfl | rfl | rfl | rfl <;> simp [lotM, setF, upd]
  · have : j = 0 ∨ j = 1 ∨ j = 2 ∨ j = 3 ∨ j = 4 ∨ j = 5 := by omega
    rcases this with rfl | rfl | rfl | rfl | rfl | rfl <;> rfl
theorem RM.at {s : Nat → Int32} {dn rest : List Lot} {l : Lot} {nu : Nat → Int32} {pu : Nat → Nat → Int32} (h : RM s (dn ++ l :: rest, nu, pu)) {j : Nat} (hj : j < 6) (x : Int32) :
    s (6 * dn.length + j) = fld l j ∧ RM (upd s (6 * dn.length + j) x) (dn ++ setF l j x :: rest, nu, pu) := by
  obtain ⟨⟨h1, h2, h3⟩, hn, hr⟩ := h
  obtain ⟨s1, s2, s3⟩ := lotM_set1 s hj dn.length x
  obtain ⟨e1, e2⟩ := lotsF_at h3 s2
  rw [e1] at s3
  rw [s1, e1] at e2
  have len : ∀ l : Lot, (dn ++ l :: rest).length = dn.length + (rest.length + 1) := fun l => by rw [List.length_append, List.length_cons]
  have hl : dn.length < 40 := by have h2 : (dn ++ l :: rest).length ≤ 40 := h2; rw [len] at h2; omega
  refine ⟨s3, ⟨?_, ?_, e2⟩, fun i a => ?_, fun r p a b c => ?_⟩
  · show upd s (6 * dn.length + j) x 290 = _
    rw [q_un (by omega), h1]
    show nI (dn ++ l :: rest).length = nI (dn ++ setF l j x :: rest).length
    rw [len, len]
  · show (dn ++ setF l j x :: rest).length ≤ 40
    have h2 : (dn ++ l :: rest).length ≤ 40 := h2
    rw [len] at h2 ⊢; exact h2
  · have := (mapN_ge a).1
    rw [q_un (by omega)]; exact hn i a
  · have := offP_lt a b
    rw [q_un (by omega)]; exact hr r p a b c
def age (l : Lot) : Lot := setF l 4 (l.2.2.2.2.1 + 1)
def goP (pu : Nat → Nat → Int32) (l : Lot) : Int32 := pu 5 (ix l.1) - 1
def stays (nu : Nat → Int32) (l : Lot) : Bool := decide (l.2.2.2.2.1 < nu (20 + ix l.2.2.1))
def spoils (pu : Nat → Nat → Int32) (l : Lot) : Bool := decide (goP pu l < 0) || (decide (goP pu l = l.2.1) || !decide (l.2.2.2.2.2 = 0))
abbrev LS3 : Type := Lot × (Nat → Int32) × (Nat → Nat → Int32)
def spoilS (l : Lot) (nu : Nat → Int32) (pu : Nat → Nat → Int32) : LS3 :=
  (setF l 3 0, upd nu 6 (nu 6 + l.2.2.2.1), updP (updP (updP pu 2 (ix l.1) (pu 2 (ix l.1) + l.2.2.2.1)) 2 (ix l.2.1) (updP pu 2 (ix l.1) (pu 2 (ix l.1) + l.2.2.2.1) 2 (ix l.2.1) - l.2.2.2.1)) 4 (ix l.1) (pu 4 (ix l.1) + l.2.2.2.1))
def passS (l : Lot) (nu : Nat → Int32) (pu : Nat → Nat → Int32) : LS3 :=
  (setF (setF (setF l 0 (goP pu l)) 4 0) 5 1, upd nu 8 (nu 8 + l.2.2.2.1), updP (updP (updP pu 2 (ix l.1) (pu 2 (ix l.1) + l.2.2.2.1)) 2 (ix (goP pu l)) (updP pu 2 (ix l.1) (pu 2 (ix l.1) + l.2.2.2.1) 2 (ix (goP pu l)) - l.2.2.2.1)) 6 (ix (goP pu l)) (pu 6 (ix (goP pu l)) + l.2.2.2.1))
def lotS (l : Lot) (nu : Nat → Int32) (pu : Nat → Nat → Int32) : LS3 :=
  bif stays nu l then (l, nu, pu) else (bif spoils pu l then spoilS l nu pu else passS l nu pu)
theorem wl : ∀ s a : Fin 21, (0 < nI s.val - nI a.val) ↔ a.val < s.val := by decide

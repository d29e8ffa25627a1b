/- orders done, one by one: reference -/
theorem MOp.eta {v : St} {a : AS} {hist : List AS} {r : Option (Int32 × St)} {sp : Int32 × AS} (h : MOp v a hist r sp) : MOp v a hist (r.bind fun u => some (u.1, u.2)) sp := by
  obtain ⟨v', e, h⟩ := h
  exact ⟨v', by rw [e, Option.bind_some], h⟩
theorem clearS_okM {v : St} {a : AS} (h : RM (v 1) a) (ho : OK a) (p1 : Int32) : OK (clearS a p1).2 := by
  unfold clearS
  cases h1 : kIn p1 0 3 with
  | false => exact ho
  | true =>
    obtain ⟨v', b1, b2, b3, b4⟩ := m_clears h ho p1
    exact b3
theorem m_doO {v : St} {a : AS} {hist : List AS} (h : RM (v 1) a) (ho : OK a) (hh : v 99 5 = 0 → HM v hist) {c k : Nat} {vs : Nat → Nat} (hc : cntOf c = some k) (h16 : v 99 16 = nI c) (hv : ∀ i, i < k → v 18 i = nI (vs i)) :
    MOp v a hist (X5_does v) (doS a c vs) ∧ OK (doS a c vs).2 := by
  have e0 : ldA 4 (v 18) (0 : Int32) = some (v 18 0) := q_ld (k := 0) (by decide) (by decide)
  have e1 : ldA 4 (v 18) (1 : Int32) = some (v 18 1) := q_ld (k := 1) (by decide) (by decide)
  have e2 : ldA 4 (v 18) (2 : Int32) = some (v 18 2) := q_ld (k := 2) (by decide) (by decide)
  have e3 : ldA 4 (v 18) (3 : Int32) = some (v 18 3) := q_ld (k := 3) (by decide) (by decide)
  rw [X5_does, h16]
  rcases cntOf_cases hc with ⟨rfl, rfl⟩ | ⟨rfl, rfl⟩ | ⟨rfl, rfl⟩ | ⟨rfl, rfl⟩ | ⟨rfl, rfl⟩ | ⟨rfl, rfl⟩
  · rw [if_pos (show nI 99 = (99 : Int32) from rfl), e0, Option.bind_some, hv 0 (by decide)]
    exact ⟨(m_clearS h ho hh _).eta, clearS_okM h ho _⟩
  · rw [if_neg (show ¬ nI 100 = (99 : Int32) by decide), if_pos (show nI 100 = (100 : Int32) from rfl), e0, Option.bind_some, e1, Option.bind_some, e2, Option.bind_some, e3, Option.bind_some, hv 0 (by decide), hv 1 (by decide), hv 2 (by decide), hv 3 (by decide)]
    exact ⟨(m_fulS h ho hh _ _ _ _).eta, fulS_ok ho _ _ _ _⟩
  · rw [if_neg (show ¬ nI 103 = (99 : Int32) by decide), if_neg (show ¬ nI 103 = (100 : Int32) by decide), if_pos (show nI 103 = (103 : Int32) from rfl), e0, Option.bind_some, e1, Option.bind_some, hv 0 (by decide), hv 1 (by decide)]
    exact ⟨(m_guaS h ho hh _ _).eta, guaS_ok ho _ _⟩
  · have n10 : v 1 297 = a.2.1 10 := h.2.1 10 (by unfold mset; omega)
    rw [if_neg (show ¬ nI 104 = (99 : Int32) by decide), if_neg (show ¬ nI 104 = (100 : Int32) by decide), if_neg (show ¬ nI 104 = (103 : Int32) by decide), if_neg (show ¬ nI 104 = (111 : Int32) by decide), if_neg (show ¬ nI 104 = (119 : Int32) by decide), m297, Option.bind_some, n10]
    show MOp v a hist _ (holS a (if a.2.1 10 = 0 then 1 else 0)) ∧ OK (holS a (if a.2.1 10 = 0 then 1 else 0)).2
    by_cases z : a.2.1 10 = 0
    · rw [if_pos z, if_pos z, X5_does_b170]
      exact ⟨(m_holS h ho hh _).eta, holS_ok ho _⟩
    · rw [if_neg z, if_neg z, X5_does_b170]
      exact ⟨(m_holS h ho hh _).eta, holS_ok ho _⟩
  · rw [if_neg (show ¬ nI 111 = (99 : Int32) by decide), if_neg (show ¬ nI 111 = (100 : Int32) by decide), if_neg (show ¬ nI 111 = (103 : Int32) by decide), if_pos (show nI 111 = (111 : Int32) from rfl), e0, Option.bind_some, e1, Option.bind_some, e2, Option.bind_some, e3, Option.bind_some, hv 0 (by decide), hv 1 (by decide), hv 2 (by decide), hv 3 (by decide)]
    exact ⟨(m_lendS h ho hh _ _ _ _).eta, lendS_ok ho _ _ _ _⟩
  · rw [if_neg (show ¬ nI 119 = (99 : Int32) by decide), if_neg (show ¬ nI 119 = (100 : Int32) by decide), if_neg (show ¬ nI 119 = (103 : Int32) by decide), if_neg (show ¬ nI 119 = (111 : Int32) by decide), if_pos (show nI 119 = (119 : Int32) from rfl), e0, Option.bind_some, hv 0 (by decide)]
    exact ⟨(m_weeksS h ho hh _).eta, weeksS_ok ho _⟩
def KP (v v' : St) : Prop := (∀ r, r ≠ 1 → r ≠ 9 → r ≠ 10 → r ≠ 11 → r ≠ 18 → r ≠ 99 → v' r = v r) ∧ ∀ i, i ≠ 5 → i ≠ 11 → i ≠ 12 → i ≠ 13 → i ≠ 14 → i ≠ 15 → i ≠ 16 → v' 99 i = v 99 i
theorem KP.tr {u v w : St} (h : KP u v) (k : KP v w) : KP u w := ⟨fun r a1 a2 a3 a4 a5 a6 => (k.1 r a1 a2 a3 a4 a5 a6).trans (h.1 r a1 a2 a3 a4 a5 a6), fun i a1 a2 a3 a4 a5 a6 a7 => (k.2 i a1 a2 a3 a4 a5 a6 a7).trans (h.2 i a1 a2 a3 a4 a5 a6 a7)⟩
theorem KM.kp {v v' : St} (h : KM v v') : KP v v' := ⟨fun r _ _ _ _ a5 a6 => h.1 r a5 a6, fun i _ a2 _ _ _ _ a7 => h.2 i a2 a7⟩
theorem KP.i (v : St) {k : Nat} (x : Int32) (h : k = 5 ∨ (11 ≤ k ∧ k ≤ 16)) : KP v (setI v k x) := ⟨fun r _ _ _ _ _ a6 => setI_r a6, fun i _ _ _ _ _ _ _ => setI_n (by omega)⟩
theorem TM.kp {v v' : St} {n : Nat} {ch : Nat → Nat} (h : TM v n ch) (k : KP v v') : TM v' n ch := ⟨by rw [k.2 7 (by decide) (by decide) (by decide) (by decide) (by decide) (by decide) (by decide)]; exact h.1, fun i hi => by rw [k.1 7 (by decide) (by decide) (by decide) (by decide) (by decide) (by decide)]; exact h.2 i hi⟩
/- in a run nothing is recorded -/
theorem MOp.run {v : St} {a : AS} {hist : List AS} {r : Option (Int32 × St)} {sp : Int32 × AS} (h : MOp v a hist r sp) (h5 : ¬ v 99 5 = 0) : ∃ v', r = some (sp.1, v') ∧ RM (v' 1) sp.2 ∧ KP v v' ∧ v' 99 = v 99 := by
  obtain ⟨v', e, h1, h2, h3⟩ := h
  refine ⟨v', e, h1, ?_⟩
  by_cases c : sp.1 < 0
  · rw [(h2 c).1]; exact ⟨⟨fun _ _ _ _ _ _ _ => rfl, fun _ _ _ _ _ _ _ _ => rfl⟩, rfl⟩
  · obtain ⟨g1, g2, g3⟩ := h3 c
    obtain ⟨x1, x2⟩ := g2 h5
    refine ⟨⟨fun r a1 a2 a3 a4 a5 a6 => ?_, fun i _ _ _ _ _ _ _ => by rw [x2]⟩, x2⟩
    by_cases e2 : r = 2
    · subst e2; exact x1
    · exact g3 r a1 e2 a2 a3 a4 a6
def MP (v : St) (r : PO) (o : Option (Int32 × St)) : Prop :=
  ∃ v', o = some ((if isN r.1 = true then 1 else 0), v') ∧ KP v v' ∧ v' 99 5 = 0 ∧ (r.1 = none → v' 99 15 = nI r.2.1 ∧ RM (v' 1) r.2.2) ∧ ∀ pl rs cs, r.1 = some (pl, rs, cs) → v' 99 12 = nI pl ∧ v' 99 13 = rs ∧ v' 99 14 = cs
theorem m_l22_0 (fu : Nat) (v : St) : X5_plays_l22 (fu + 1) v 0 = some (0, setI v 5 (0 : Int32)) := by
  rw [X5_plays_l22]
  by_cases c : v 99 7 ≤ v 99 11
  · rw [if_pos c]; rfl
  · rw [if_neg c, if_pos rfl]; rfl
theorem m_all {n : Nat} {ch : Nat → Nat} (hT : TXT n ch) : ∀ (f fu p cnt : Nat) (v : St) (a : AS), f + 1 ≤ fu → n - p < f → p ≤ n → TM v n ch → RM (v 1) a → OK a → v 99 5 = 1 → v 99 11 = nI p → v 99 15 = nI cnt →
    MP v (plS (sgn n ch) n f a p cnt) (X5_plays_l22 fu v 1) := by
  intro f
  induction f with
  | zero => intro fu p cnt v a _ h; omega
  | succ f ih =>
    intro fu p cnt v a hf hm hp h hB ho h5 h11 h15
    obtain ⟨fu, rfl⟩ : ∃ g, fu = g + 1 + 1 := ⟨fu - 2, by omega⟩
    have hn := hT.1
    have hcp : (nI n ≤ nI p) = (n ≤ p) := q_le (by omega) (by omega)
    rw [X5_plays_l22, h.1, h11]
    unfold plS
    by_cases c : n ≤ p
    · rw [if_pos (hcp.mpr c), if_pos c, show zbI 1 = some 1 from rfl, Option.bind_some]
      exact ⟨_, rfl, KP.i v _ (Or.inl rfl), setI_s, fun _ => ⟨by rw [setI_n (by decide)]; exact h15, by rw [setI_r (by decide)]; exact hB⟩, fun pl rs cs e => (by cases e)⟩
    · rw [if_neg (fun e => c (hcp.mp e)), if_neg c, if_neg (show ¬ (1 : Int32) = 0 by decide)]
      have k0 : KP v (setI v 12 (nI p)) := KP.i v _ (by omega)
      obtain ⟨u, u1, u2, u3, u4⟩ := m_readO (h.kp k0) hT (p := p) (by rw [setI_n (by decide)]; exact h11) (by omega)
      obtain ⟨r1, r2, r3⟩ := rdO_le (ch := ch) (show p < n by omega)
      have k1 : KP v u := k0.tr u2.kp
      have u12 : u 99 12 = nI p := by rw [u2.2 12 (by decide) (by decide), setI_s]
      have u15 : u 99 15 = nI cnt := by rw [u2.2 15 (by decide) (by decide), setI_n (by decide)]; exact h15
      have u5 : u 99 5 = 1 := by rw [u2.2 5 (by decide) (by decide), setI_n (by decide)]; exact h5
      have uR : RM (u 1) a := by rw [u2.1 1 (by decide) (by decide), setI_r (by decide)]; exact hB
      rw [u1, Option.bind_some]
      cases hr : (rdO (sgn n ch) p).1 with
      | false =>
        rw [show (if false = true then (1 : Int32) else 0) = 0 from rfl, if_neg (show ¬ false = true by decide), if_pos (show ((0 : Int32), u).1 = 0 from rfl), X5_plays_b62, if_pos (show ((0 : Int32), u).1 = 0 from rfl), X5_plays_b75, X5_plays_b76, if_pos (show ((0 : Int32), u).1 = 0 from rfl), X5_plays_b87, if_pos (show ((0 : Int32), u).1 = 0 from rfl), X5_plays_b108, m_l22_0]
        dsimp only
        rw [u3, u12, q_sub r1]
        refine ⟨_, rfl, (((k1.tr (KP.i _ _ (by omega))).tr (KP.i _ _ (by omega))).tr (KP.i _ _ (by omega))).tr (KP.i _ _ (by omega)), setI_s, fun e => (by cases e), fun pl rs cs e => ?_⟩
        cases e
        refine ⟨?_, ?_, ?_⟩
        · rw [setI_n (by decide), setI_n (by decide), setI_n (by decide), setI_n (by decide)]; exact u12
        · rw [setI_n (by decide), setI_n (by decide), setI_n (by decide), setI_s]
        · rw [setI_n (by decide), setI_n (by decide), setI_s]
      | true =>
        obtain ⟨h16, k, hk, hv⟩ := u4 hr
        have hu := h.kp k1
        rw [show (if true = true then (1 : Int32) else 0) = 1 from rfl, if_pos (show true = true from rfl), if_neg (show ¬ ((1 : Int32), u).1 = 0 from (by decide : ¬ (1 : Int32) = 0))]
        obtain ⟨dm, dk⟩ := m_doO (hist := []) uR ho (fun e => absurd (u5.symm.trans e) (by decide)) hk h16 hv
        obtain ⟨w, d1, d2, d3, d4⟩ := dm.run (by rw [u5]; decide)
        have k2 := k1.tr d3
        dsimp only
        rw [d1, Option.bind_some, X5_plays_b62, if_neg (show ¬ (1 : Int32) = 0 by decide)]
        by_cases z : 0 ≤ (doS a (sgn n ch p) (rdO (sgn n ch) p).2.2).1
        · have z' : ¬ (doS a (sgn n ch p) (rdO (sgn n ch) p).2.2).1 < 0 := Int32.not_lt.mpr z
          have := r3 hr
          rw [if_pos z, if_neg z', X5_plays_b76, if_neg (show ¬ (1 : Int32) = 0 by decide), X5_plays_b87, if_neg (show ¬ (1 : Int32) = 0 by decide), X5_plays_b108]
          have k3 : KP v (setI (setI (setI w 13 (2 : Int32)) 14 (doS a (sgn n ch p) (rdO (sgn n ch) p).2.2).1) 15 (nI (cnt + 1))) := ((k2.tr (KP.i _ _ (by omega))).tr (KP.i _ _ (by omega))).tr (KP.i _ _ (by omega))
          have e15 : (setI (setI w 13 (2 : Int32)) 14 (doS a (sgn n ch p) (rdO (sgn n ch) p).2.2).1) 99 15 + 1 = nI (cnt + 1) := by
            rw [setI_n (by decide), setI_n (by decide), d4, u15, q_1]
          have e15' : (setI w 13 (2 : Int32)) 99 15 + 1 = nI (cnt + 1) := by
            rw [setI_n (by decide), d4, u15, q_1]
          have g := ih (fu + 1) (rdO (sgn n ch) p).2.1 (cnt + 1) (setI (setI (setI w 13 (2 : Int32)) 14 (doS a (sgn n ch p) (rdO (sgn n ch) p).2.2).1) 15 (nI (cnt + 1))) _ (by omega) (by omega) r2 (h.kp k3) (by rw [setI_r (by decide), setI_r (by decide), setI_r (by decide)]; exact d2) dk
            (by rw [setI_n (by decide), setI_n (by decide), setI_n (by decide), d4]; exact u5) (by rw [setI_n (by decide), setI_n (by decide), setI_n (by decide), d4]; exact u3) setI_s
          obtain ⟨v', g1, g2, g3, g4, g5⟩ := g
          refine ⟨v', ?_, k3.tr g2, g3, g4, g5⟩
          rw [← g1]
          first
            | rw [e15]
            | rw [e15']
        · have z' : (doS a (sgn n ch p) (rdO (sgn n ch) p).2.2).1 < 0 := Int32.not_le.mp z
          rw [if_neg z, if_pos z', X5_plays_b75, X5_plays_b76, if_neg (show ¬ (1 : Int32) = 0 by decide), X5_plays_b87, if_neg (show ¬ (1 : Int32) = 0 by decide), X5_plays_b108, m_l22_0]
          refine ⟨_, rfl, (((k2.tr (KP.i _ _ (by omega))).tr (KP.i _ _ (by omega))).tr (KP.i _ _ (by omega))).tr (KP.i _ _ (by omega)), setI_s, fun e => (by cases e), fun pl rs cs e => ?_⟩
          cases e
          refine ⟨?_, ?_, ?_⟩
          · rw [setI_n (by decide), setI_n (by decide), setI_n (by decide), setI_n (by decide)]; exact (congrFun d4 12).trans u12
          · rw [setI_n (by decide), setI_n (by decide), setI_n (by decide), setI_s]
          · rw [setI_n (by decide), setI_n (by decide), setI_s]
theorem m_plays {n : Nat} {ch : Nat → Nat} (hT : TXT n ch) {v : St} {a : AS} (h : TM v n ch) (hB : RM (v 1) a) (ho : OK a) : MP v (plA n ch a) (X5_plays v) := by
  have hn := hT.1
  have k0 : KP v (setI (setI (setI (setI v 5 (1 : Int32)) 11 (0 : Int32)) 12 (0 : Int32)) 15 (0 : Int32)) := (((KP.i v _ (by omega)).tr (KP.i _ _ (by omega))).tr (KP.i _ _ (by omega))).tr (KP.i _ _ (by omega))
  obtain ⟨v', g1, g2, g3, g4, g5⟩ := m_all hT 100 FU 0 0 _ a (by decide) (by omega) (by omega) (h.kp k0) (by rw [setI_r (by decide), setI_r (by decide), setI_r (by decide), setI_r (by decide)]; exact hB) ho
    (by rw [setI_n (by decide), setI_n (by decide), setI_n (by decide), setI_s]) (by rw [setI_n (by decide), setI_n (by decide), setI_s]; rfl) (by rw [setI_s]; rfl)
  exact ⟨v', by rw [X5_plays]; exact g1, k0.tr g2, g3, g4, g5⟩

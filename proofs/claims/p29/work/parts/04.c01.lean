theorem iw_X0_reasonAgainst_X0 : ∀ w ∈ wsX00, w ∈ wsX0_reasonAgainst := fun _ h => List.mem_cons_of_mem _ (List.mem_append_right _ (h))
set_option maxHeartbeats 4000000 in
set_option maxRecDepth 100000 in
theorem c_X0_reasonAgainst (l : Launch) (D : va_G) (cA cQ : ClassId) (adB : Nat → Nat) (vB : St) (p1 : Int32) (p2 : Int32) (o : Int32) (hf : X0_reasonAgainst vB p1 p2 = some o) : Cti l yX0_reasonAgainst wsX0_reasonAgainst ({ frames := 2, cells := 0, slots := 0, locals := 49 }) D (TY cA cQ) [.ref (adB 0), .int p1, .int p2] (wB cA adB vB) (wB cA adB vB) o := by
  refine Wk.i (cc := cX0_reasonAgainst) (maxL := 4) (ret := (some .int)) (by decide) rfl (Nat.le_of_ble_eq_true rfl) ?_
  intro p e s m below meth c A ls hx hb hr hlocks hml hown hts hK hN hP hD hA hl
  have hown : s.vm.findClass RX0 = some m.cls := hown
  have hS : va_S A s.heap s.heap [] := va_S.rf
  have hl : lv_has ls 4 [(0, .ref (adB 0)), (1, .int p1), (2, .int p2)] := hl
  have B42 : ∀ (t0 : Int32) (H : Heap) (locs : List Loc) (ls : Array Slot), X0_reasonAgainst_b42 vB p1 p2 t0 = some o → va_P D vwCl (wB cA adB vB) H → va_D A (wB cA adB vB) → va_S A s.heap H locs → lv_has ls 4 [(0, .ref (adB 0)), (1, .int p1)] → W p l e (headSpec wsX0_reasonAgainst ({ frames := 2, cells := 0, slots := 0, locals := 49 })).room s m ([.ref (adB 0), .int p1, .int p2] : List Value).toArray below meth c H locs 0 0 (MQ below (QI D (wB cA adB vB) o A) ([.ref (adB 0), .int p1, .int p2] : List Value).toArray s 0 0 A) (F0 m 42 ls [.int t0]) := by
    intro t0 H locs ls h hP hD hS hl
    unfold X0_reasonAgainst_b42 at h
    refine lv_istore_n (lv' := [(3, .int t0), (0, .ref (adB 0)), (1, .int p1)]) hx hb dX0_reasonAgainst_42 rfl hl (by decide) rfl (fun ls hl => ?_)
    refine lv_iload_n hx hb dX0_reasonAgainst_43 rfl (lv_at hl 0 rfl) ?_
    refine lv_if_eq (tgt := 59) hx hb dX0_reasonAgainst_44 (by decide) (fun c1 => ?_) (fun c1 => ?_)
    · have h := (if_pos c1).symm.trans h
      refine lv_iconst (v := (0 : Int32)) hx hb dX0_reasonAgainst_59 (by decide) ?_
      cases h
      exact endI hx hb hr hlocks hP hS rfl dX0_reasonAgainst_60
    · have h := (if_neg c1).symm.trans h
      refine lv_aload_n hx hb dX0_reasonAgainst_47 rfl (lv_at hl 1 rfl) ?_
      refine lv_iload_n hx hb dX0_reasonAgainst_48 rfl (lv_at hl 2 rfl) ?_
      obtain ⟨u2, eu2, h⟩ := bd_in h
      refine kI (va_runV (As := [.int p1]) (rest := []) ⟨hx, hb, hml, hown, hts⟩ (c_X0_guarantorOf l D cA cQ adB vB p1 u2 eu2 _) (cwV 1 hts gX0_reasonAgainst_X0_guarantorOf rfl rfl rfl (by decide +kernel) ⟨Nat.le_of_ble_eq_true rfl, Nat.le_of_ble_eq_true rfl⟩) (pV (ci := 0) (q := (RX0, TX0, 13)) hK hN hP hD [0, 1, 2, 3, 4, 5, 6, 7, 8, 9, 10, 11, 12, 13] rfl rfl rfl rfl) rfl rfl hl.1 rfl (lv_room (Nat.le_of_ble_eq_true rfl)) dX0_reasonAgainst_49 ⟨Nat.zero_le _, Nat.zero_le _⟩) hP hD hS hA [0, 1, 2, 3, 4, 5, 6, 7, 8, 9, 10, 11, 12, 13] rfl rfl (ws' := (wB cA adB vB)) rfl (fun H locs hP hD hS => ?_)
      refine lv_if_ge (tgt := 59) hx hb dX0_reasonAgainst_52 (by decide) (fun c3 => ?_) (fun c3 => ?_)
      · have h := (if_pos c3).symm.trans h
        refine lv_iconst (v := (0 : Int32)) hx hb dX0_reasonAgainst_59 (by decide) ?_
        cases h
        exact endI hx hb hr hlocks hP hS rfl dX0_reasonAgainst_60
      · have h := (if_neg c3).symm.trans h
        refine lv_iconst (v := (2 : Int32)) hx hb dX0_reasonAgainst_55 (by decide) ?_
        refine lv_goto (tgt := 60) hx hb dX0_reasonAgainst_56 (by decide) ?_
        cases h
        exact endI hx hb hr hlocks hP hS rfl dX0_reasonAgainst_60
  have h := hf
  unfold X0_reasonAgainst at h
  refine lv_aload_n hx hb dX0_reasonAgainst_0 rfl (lv_at hl 0 rfl) ?_
  refine lv_iload_n hx hb dX0_reasonAgainst_1 rfl (lv_at hl 1 rfl) ?_
  refine lv_iconst (v := (-1 : Int32)) hx hb dX0_reasonAgainst_2 (by decide) ?_
  refine lv_iconst (v := (-1 : Int32)) hx hb dX0_reasonAgainst_3 (by decide) ?_
  obtain ⟨u4, eu4, h⟩ := bd_in h
  refine kI (va_runV (As := [.int p1, .int (-1 : Int32), .int (-1 : Int32)]) (rest := []) ⟨hx, hb, hml, hown, hts⟩ (c_X0_sumOwed l D cA cQ adB vB p1 (-1 : Int32) (-1 : Int32) u4 eu4 _) (cwV 3 hts gX0_reasonAgainst_X0_sumOwed rfl rfl rfl (by decide +kernel) ⟨Nat.le_of_ble_eq_true rfl, Nat.le_of_ble_eq_true rfl⟩) (pV (ci := 0) (q := (RX0, TX0, 13)) hK hN hP hD [0, 1, 2, 3, 4, 5, 6, 7, 8, 9, 10, 11, 12, 13] rfl rfl rfl rfl) rfl rfl hl.1 rfl (lv_room (Nat.le_of_ble_eq_true rfl)) dX0_reasonAgainst_4 ⟨Nat.zero_le _, Nat.zero_le _⟩) hP hD hS hA [0, 1, 2, 3, 4, 5, 6, 7, 8, 9, 10, 11, 12, 13] rfl rfl (ws' := (wB cA adB vB)) rfl (fun H locs hP hD hS => ?_)
  refine lv_iload_n hx hb dX0_reasonAgainst_7 rfl (lv_at hl 2 rfl) ?_
  refine lv_iadd hx hb dX0_reasonAgainst_8 ?_
  refine lv_aload_n hx hb dX0_reasonAgainst_9 rfl (lv_at hl 0 rfl) ?_
  refine lv_bipush (v := (24 : Int32)) hx hb dX0_reasonAgainst_10 (by decide) ?_
  obtain ⟨u5, eu5, h⟩ := bd_in h
  refine kI (va_runV (As := [.int (24 : Int32)]) (rest := [.int (u4 + p2)]) ⟨hx, hb, hml, hown, hts⟩ (c_X0_number l D cA cQ adB vB (24 : Int32) u5 eu5 _) (cwV 1 hts gX0_reasonAgainst_X0_number rfl rfl rfl (by decide +kernel) ⟨Nat.le_of_ble_eq_true rfl, Nat.le_of_ble_eq_true rfl⟩) (pV (ci := 0) (q := (RX0, TX0, 13)) hK hN hP hD [0, 1, 2, 3, 4, 5, 6, 7, 8, 9, 10, 11, 12, 13] rfl rfl rfl rfl) rfl rfl hl.1 rfl (lv_room (Nat.le_of_ble_eq_true rfl)) dX0_reasonAgainst_12 ⟨Nat.zero_le _, Nat.zero_le _⟩) hP hD hS hA [0, 1, 2, 3, 4, 5, 6, 7, 8, 9, 10, 11, 12, 13] rfl rfl (ws' := (wB cA adB vB)) rfl (fun H locs hP hD hS => ?_)
  refine lv_icmp_le (tgt := 20) hx hb dX0_reasonAgainst_15 (by decide) (fun c6 => ?_) (fun c6 => ?_)
  · have h := (if_pos c6).symm.trans h
    refine lv_aload_n hx hb dX0_reasonAgainst_20 rfl (lv_at hl 0 rfl) ?_
    refine va_get (D := D) (ci := 0) (v := .ref (adB 4)) (C := RX0) (T := TX0) (N := 13) hx hb hts iw_X0_reasonAgainst_X0 hown hK hP 0 rfl rfl 3 (by decide) (hts (.fieldLink RX0 21 "FavourRings$Bank" "spoiled" "[I") (List.mem_of_getElem? (i := 1) rfl)) (fun _ h9 => h9) rfl dX0_reasonAgainst_21 ?_
    refine lv_iload_n hx hb dX0_reasonAgainst_24 rfl (lv_at hl 1 rfl) ?_
    obtain ⟨u7, eu7, h⟩ := bd_in h
    refine kI (va_runSN (As := [.ref (adB 4), .int p1]) (rest := []) ⟨hx, hb, hml, hown, hts⟩ (c_X4_at l D cA cQ (adB 4) 8 (vB 4) p1 u7 eu7 _) ⟨va_cnB 2 hts gX0_reasonAgainst_X4_at_n77 rfl rfl rfl hN.2.2.2.1 (hts (.initialized RX4) (List.mem_of_getElem? (i := 21) rfl)) (by decide +kernel) ⟨Nat.le_of_ble_eq_true rfl, Nat.le_of_ble_eq_true rfl⟩, (hts (.static yX4_at) (List.mem_of_getElem? (i := 20) rfl)), trivial⟩ (pS hK hN hP hD [4] rfl rfl) rfl rfl hl.1 rfl (lv_room (Nat.le_of_ble_eq_true rfl)) dX0_reasonAgainst_25 ⟨Nat.zero_le _, Nat.zero_le _⟩) hP hD hS hA [4] rfl rfl (ws' := (wB cA adB vB)) rfl (fun H locs hP hD hS => ?_)
    refine lv_aload_n hx hb dX0_reasonAgainst_28 rfl (lv_at hl 0 rfl) ?_
    refine lv_bipush (v := (25 : Int32)) hx hb dX0_reasonAgainst_29 (by decide) ?_
    obtain ⟨u8, eu8, h⟩ := bd_in h
    refine kI (va_runV (As := [.int (25 : Int32)]) (rest := [.int u7]) ⟨hx, hb, hml, hown, hts⟩ (c_X0_number l D cA cQ adB vB (25 : Int32) u8 eu8 _) (cwV 1 hts gX0_reasonAgainst_X0_number rfl rfl rfl (by decide +kernel) ⟨Nat.le_of_ble_eq_true rfl, Nat.le_of_ble_eq_true rfl⟩) (pV (ci := 0) (q := (RX0, TX0, 13)) hK hN hP hD [0, 1, 2, 3, 4, 5, 6, 7, 8, 9, 10, 11, 12, 13] rfl rfl rfl rfl) rfl rfl hl.1 rfl (lv_room (Nat.le_of_ble_eq_true rfl)) dX0_reasonAgainst_31 ⟨Nat.zero_le _, Nat.zero_le _⟩) hP hD hS hA [0, 1, 2, 3, 4, 5, 6, 7, 8, 9, 10, 11, 12, 13] rfl rfl (ws' := (wB cA adB vB)) rfl (fun H locs hP hD hS => ?_)
    refine lv_icmp_lt (tgt := 41) hx hb dX0_reasonAgainst_34 (by decide) (fun c9 => ?_) (fun c9 => ?_)
    · have h := (if_pos c9).symm.trans h
      refine lv_iconst (v := (0 : Int32)) hx hb dX0_reasonAgainst_41 (by decide) ?_
      exact B42 (0 : Int32) _ _ _ h hP hD hS (lv_sub hl [0, 1] rfl)
    · have h := (if_neg c9).symm.trans h
      refine lv_iconst (v := (1 : Int32)) hx hb dX0_reasonAgainst_37 (by decide) ?_
      refine lv_goto (tgt := 42) hx hb dX0_reasonAgainst_38 (by decide) ?_
      exact B42 (1 : Int32) _ _ _ h hP hD hS (lv_sub hl [0, 1] rfl)
  · have h := (if_neg c6).symm.trans h
    refine lv_iconst (v := (1 : Int32)) hx hb dX0_reasonAgainst_18 (by decide) ?_
    cases h
    exact endI hx hb hr hlocks hP hS rfl dX0_reasonAgainst_19
theorem iw_X4_why_X4 : ∀ w ∈ wsX40, w ∈ wsX4_why := fun _ h => List.mem_cons_of_mem _ (List.mem_append_left _ (List.mem_append_right _ (h)))
set_option maxHeartbeats 4000000 in
set_option maxRecDepth 100000 in
theorem c_X4_why (l : Launch) (D : va_G) (cA cQ : ClassId) (adF : Nat) (adB : Nat → Nat) (adT : Nat → Nat) (adH : Nat → Nat) (kH : Nat → Nat → Nat) (adR : Nat → Nat) (adO : Nat → Nat) (vB : St) (vT : St) (vH : St) (bH : Nat → St) (vR : St) (vO : St) (p1 : Int32) (p2 : Int32) (o : Int32) (hf : X4_why vB vT vH bH vR vO p1 p2 = some o) : Cti l yX4_why wsX4_why ({ frames := 3, cells := 0, slots := 0, locals := 72 }) D (TY cA cQ) [.ref adF, .int p1, .int p2] (wF cA cQ adF adB adT adH kH adR adO vB vT vH bH vR vO) (wF cA cQ adF adB adT adH kH adR adO vB vT vH bH vR vO) o := by
  refine Wk.i (cc := cX4_why) (maxL := 3) (ret := (some .int)) (by decide) rfl (Nat.le_of_ble_eq_true rfl) ?_
  intro p e s m below meth c A ls hx hb hr hlocks hml hown hts hK hN hP hD hA hl
  have hown : s.vm.findClass RX4 = some m.cls := hown
  have hS : va_S A s.heap s.heap [] := va_S.rf
  have hl : lv_has ls 3 [(0, .ref adF), (1, .int p1), (2, .int p2)] := hl
  have h := hf
  unfold X4_why at h
  refine lv_aload_n hx hb dX4_why_0 rfl (lv_at hl 0 rfl) ?_
  refine va_get (D := D) (ci := 4) (v := .ref (adB 0)) (C := RX4) (T := TX4) (N := 5) hx hb hts iw_X4_why_X4 hown hK hP 0 rfl rfl 0 (by decide) (hts (.fieldLink RX4 10 "FavourRings" "bank" "LFavourRings$Bank;") (List.mem_of_getElem? (i := 1) rfl)) (fun _ h9 => h9) rfl dX4_why_1 ?_
  refine lv_iload_n hx hb dX4_why_4 rfl (lv_at hl 1 rfl) ?_
  obtain ⟨u1, eu1, h⟩ := bd_in h
  refine kI (va_runV (As := [.int p1]) (rest := []) ⟨hx, hb, hml, hown, hts⟩ (c_X0_isPupil l D cA cQ adB vB p1 u1 eu1 _) (cwV 1 hts gX4_why_X0_isPupil rfl rfl rfl (by decide +kernel) ⟨Nat.le_of_ble_eq_true rfl, Nat.le_of_ble_eq_true rfl⟩) (pV (ci := 0) (q := (RX0, TX0, 13)) hK hN hP hD [1, 2, 3, 4, 5, 6, 7, 8, 9, 10, 11, 12, 13, 14] rfl rfl rfl rfl) rfl rfl hl.1 rfl (lv_room (Nat.le_of_ble_eq_true rfl)) dX4_why_5 ⟨Nat.zero_le _, Nat.zero_le _⟩) hP hD hS hA [1, 2, 3, 4, 5, 6, 7, 8, 9, 10, 11, 12, 13, 14] rfl rfl (ws' := (wF cA cQ adF adB adT adH kH adR adO vB vT vH bH vR vO)) rfl (fun H locs hP hD hS => ?_)
  refine lv_if_eq (tgt := 18) hx hb dX4_why_8 (by decide) (fun c2 => ?_) (fun c2 => ?_)
  · have h := (if_pos c2).symm.trans h
    refine lv_ldc (v := (-1000001 : Int32)) hx hb hown (hts (.constant RX4 81 (-1000001)) (List.mem_of_getElem? (i := 2) rfl)) dX4_why_18 ?_
    cases h
    exact endI hx hb hr hlocks hP hS rfl dX4_why_20
  · have h := (if_neg c2).symm.trans h
    refine lv_iload_n hx hb dX4_why_11 rfl (lv_at hl 2 rfl) ?_
    obtain ⟨u3, eu3, h⟩ := bd_in h
    refine kI (va_runS (As := [.int p2]) (rest := []) ⟨hx, hb, hml, hown, hts⟩ (c_X4_isMany l D cA cQ  p2 u3 eu3 _) (va_cwS 1 hts gX4_why_X4_isMany rfl rfl rfl (by decide +kernel) ⟨Nat.le_of_ble_eq_true rfl, Nat.le_of_ble_eq_true rfl⟩) (pS hK hN hP hD [] rfl rfl) rfl rfl hl.1 rfl (lv_room (Nat.le_of_ble_eq_true rfl)) dX4_why_12 ⟨Nat.zero_le _, Nat.zero_le _⟩) hP hD hS hA [] rfl rfl (ws' := (wF cA cQ adF adB adT adH kH adR adO vB vT vH bH vR vO)) rfl (fun H locs hP hD hS => ?_)
    refine lv_if_ne (tgt := 21) hx hb dX4_why_15 (by decide) (fun c4 => ?_) (fun c4 => ?_)
    · have h := (if_neg c4).symm.trans h
      refine lv_aload_n hx hb dX4_why_21 rfl (lv_at hl 0 rfl) ?_
      refine va_get (D := D) (ci := 4) (v := .ref (adB 0)) (C := RX4) (T := TX4) (N := 5) hx hb hts iw_X4_why_X4 hown hK hP 0 rfl rfl 0 (by decide) (hts (.fieldLink RX4 10 "FavourRings" "bank" "LFavourRings$Bank;") (List.mem_of_getElem? (i := 1) rfl)) (fun _ h9 => h9) rfl dX4_why_22 ?_
      refine lv_iload_n hx hb dX4_why_25 rfl (lv_at hl 1 rfl) ?_
      refine lv_iload_n hx hb dX4_why_26 rfl (lv_at hl 2 rfl) ?_
      obtain ⟨u5, eu5, h⟩ := bd_in h
      refine kI (va_runV (As := [.int p1, .int p2]) (rest := []) ⟨hx, hb, hml, hown, hts⟩ (c_X0_reasonAgainst l D cA cQ adB vB p1 p2 u5 eu5 _) (cwV 2 hts gX4_why_X0_reasonAgainst rfl rfl rfl (by decide +kernel) ⟨Nat.le_of_ble_eq_true rfl, Nat.le_of_ble_eq_true rfl⟩) (pV (ci := 0) (q := (RX0, TX0, 13)) hK hN hP hD [1, 2, 3, 4, 5, 6, 7, 8, 9, 10, 11, 12, 13, 14] rfl rfl rfl rfl) rfl rfl hl.1 rfl (lv_room (Nat.le_of_ble_eq_true rfl)) dX4_why_27 ⟨Nat.zero_le _, Nat.zero_le _⟩) hP hD hS hA [1, 2, 3, 4, 5, 6, 7, 8, 9, 10, 11, 12, 13, 14] rfl rfl (ws' := (wF cA cQ adF adB adT adH kH adR adO vB vT vH bH vR vO)) rfl (fun H locs hP hD hS => ?_)
      cases h
      exact endI hx hb hr hlocks hP hS rfl dX4_why_30
    · have h := (if_pos c4).symm.trans h
      refine lv_ldc (v := (-1000001 : Int32)) hx hb hown (hts (.constant RX4 81 (-1000001)) (List.mem_of_getElem? (i := 2) rfl)) dX4_why_18 ?_
      cases h
      exact endI hx hb hr hlocks hP hS rfl dX4_why_20
set_option maxHeartbeats 4000000 in
set_option maxRecDepth 100000 in
theorem c_X4_isKind (l : Launch) (D : va_G) (cA cQ : ClassId) (p0 : Int32) (o : Int32) (hf : X4_isKind p0 = some o) : Cti l yX4_isKind wsX4_isKind ({ frames := 0, cells := 0, slots := 0, locals := 0 }) D (TY cA cQ) [.int p0] ([] : va_W) ([] : va_W) o := by
  refine Wk.i (cc := cX4_isKind) (maxL := 1) (ret := (some .boolean)) (by decide) rfl (Nat.le_of_ble_eq_true rfl) ?_
  intro p e s m below meth c A ls hx hb hr hlocks hml hown hts hK hN hP hD hA hl
  have hown : s.vm.findClass RX4 = some m.cls := hown
  have hS : va_S A s.heap s.heap [] := va_S.rf
  have hl : lv_has ls 1 [(0, .int p0)] := hl
  have h := hf
  unfold X4_isKind at h
  refine lv_iload_n hx hb dX4_isKind_0 rfl (lv_at hl 0 rfl) ?_
  refine lv_if_lt (tgt := 13) hx hb dX4_isKind_1 (by decide) (fun c1 => ?_) (fun c1 => ?_)
  · have h := (if_pos c1).symm.trans h
    refine lv_iconst (v := (0 : Int32)) hx hb dX4_isKind_13 (by decide) ?_
    cases h
    exact endZ hx hb hr hlocks hP hS ⟨rfl, rfl⟩ dX4_isKind_14
  · have h := (if_neg c1).symm.trans h
    refine lv_iload_n hx hb dX4_isKind_4 rfl (lv_at hl 0 rfl) ?_
    refine lv_iconst (v := (4 : Int32)) hx hb dX4_isKind_5 (by decide) ?_
    refine lv_icmp_ge (tgt := 13) hx hb dX4_isKind_6 (by decide) (fun c2 => ?_) (fun c2 => ?_)
    · have h := (if_pos c2).symm.trans h
      refine lv_iconst (v := (0 : Int32)) hx hb dX4_isKind_13 (by decide) ?_
      cases h
      exact endZ hx hb hr hlocks hP hS ⟨rfl, rfl⟩ dX4_isKind_14
    · have h := (if_neg c2).symm.trans h
      refine lv_iconst (v := (1 : Int32)) hx hb dX4_isKind_9 (by decide) ?_
      refine lv_goto (tgt := 14) hx hb dX4_isKind_10 (by decide) ?_
      cases h
      exact endZ hx hb hr hlocks hP hS ⟨rfl, rfl⟩ dX4_isKind_14
set_option maxHeartbeats 4000000 in
set_option maxRecDepth 100000 in
theorem c_X4_add (l : Launch) (D : va_G) (cA cQ : ClassId) (a1 : Nat) (n1 : Nat) (f1 : Nat → Int32) (p1 : Int32) (p2 : Int32) (o : (Nat → Int32)) (hf : X4_add f1 n1 p1 p2 = some o) : Ctv l yX4_add wsX4_add ({ frames := 0, cells := 0, slots := 0, locals := 0 }) D (TY cA cQ) [.ref a1, .int p1, .int p2] (wA cA a1 n1 f1) (wA cA a1 n1 o) := by
  refine Wk.v (cc := cX4_add) (maxL := 3) (ret := none) (by decide) rfl (Nat.le_of_ble_eq_true rfl) ?_
  intro p e s m below meth c A ls hx hb hr hlocks hml hown hts hK hN hP hD hA hl
  have hown : s.vm.findClass RX4 = some m.cls := hown
  have hS : va_S A s.heap s.heap [] := va_S.rf
  have hl : lv_has ls 3 [(0, .ref a1), (1, .int p1), (2, .int p2)] := hl
  have h := hf
  unfold X4_add at h
  refine lv_iload_n hx hb dX4_add_0 rfl (lv_at hl 1 rfl) ?_
  refine lv_if_lt (tgt := 17) hx hb dX4_add_1 (by decide) (fun c1 => ?_) (fun c1 => ?_)
  · have h := (if_pos c1).symm.trans h
    cases h
    exact endV hx hb hr hlocks hP hS dX4_add_17
  · have h := (if_neg c1).symm.trans h
    refine lv_iload_n hx hb dX4_add_4 rfl (lv_at hl 1 rfl) ?_
    refine lv_aload_n hx hb dX4_add_5 rfl (lv_at hl 0 rfl) ?_
    refine va_alen hx hb hK hP 0 0 rfl rfl (v := (Int32.ofNat n1)) rfl dX4_add_6 ?_
    refine lv_icmp_ge (tgt := 17) hx hb dX4_add_7 (by decide) (fun c2 => ?_) (fun c2 => ?_)
    · have h := (if_pos c2).symm.trans h
      cases h
      exact endV hx hb hr hlocks hP hS dX4_add_17
    · have h := (if_neg c2).symm.trans h
      refine lv_aload_n hx hb dX4_add_10 rfl (lv_at hl 0 rfl) ?_
      refine lv_iload_n hx hb dX4_add_11 rfl (lv_at hl 1 rfl) ?_
      refine lv_dup2_11 hx hb dX4_add_12 rfl rfl ?_
      obtain ⟨y3, ey3, h⟩ := bd_in h
      refine ldR hx hb hK hP 0 0 rfl rfl ey3 dX4_add_13 ?_
      refine lv_iload_n hx hb dX4_add_14 rfl (lv_at hl 2 rfl) ?_
      refine lv_iadd hx hb dX4_add_15 ?_
      obtain ⟨g4, eg4, h⟩ := bd_in h
      refine stR hx hb hK hP hD hS 0 0 rfl rfl eg4 (ws' := (wA cA a1 n1 g4)) rfl dX4_add_16 (fun H locs hP hD hS => ?_)
      cases h
      exact endV hx hb hr hlocks hP hS dX4_add_17
theorem iw_X3_readOwed_X0 : ∀ w ∈ wsX00, w ∈ wsX3_readOwed := fun _ h => List.mem_cons_of_mem _ (List.mem_append_right _ (h))
theorem iw_X3_readOwed_X3 : ∀ w ∈ wsX30, w ∈ wsX3_readOwed := fun _ h => List.mem_cons_of_mem _ (List.mem_append_left _ (List.mem_append_right _ (h)))
set_option maxHeartbeats 4000000 in
set_option maxRecDepth 100000 in
theorem c_X3_readOwed (l : Launch) (D : va_G) (cA cQ : ClassId) (adR : Nat → Nat) (adB : Nat → Nat) (vR : St) (vB : St) (p2 : Int32) (o : St) (hf : X3_readOwed vR vB p2 = some o) : Ctv l yX3_readOwed wsX3_readOwed ({ frames := 1, cells := 0, slots := 0, locals := 24 }) D (TY cA cQ) [.ref (adR 0), .ref (adB 0), .int p2] (wR cA adR vR ++ (wB cA adB vB)) (wR cA adR o ++ (wB cA adB vB)) := by
  refine Wk.v (cc := cX3_readOwed) (maxL := 5) (ret := none) (by decide) rfl (Nat.le_of_ble_eq_true rfl) ?_
  intro p e s m below meth c A ls hx hb hr hlocks hml hown hts hK hN hP hD hA hl
  have hown : s.vm.findClass RX3 = some m.cls := hown
  have hS : va_S A s.heap s.heap [] := va_S.rf
  have hl : lv_has ls 5 [(0, .ref (adR 0)), (1, .ref (adB 0)), (2, .int p2)] := hl
  have B26 : ∀ (fu26 : Nat) (vR : St) (x3 : Int32) (H : Heap) (locs : List Loc) (ls : Array Slot), X3_readOwed_l26 vB p2 fu26 vR x3 = some o → va_P D vwCl (wR cA adR vR ++ (wB cA adB vB)) H → va_D A (wR cA adR vR ++ (wB cA adB vB)) → va_S A s.heap H locs → lv_has ls 5 [(0, .ref (adR 0)), (1, .ref (adB 0)), (2, .int p2), (3, .int x3)] → W p l e (headSpec wsX3_readOwed ({ frames := 1, cells := 0, slots := 0, locals := 24 })).room s m ([.ref (adR 0), .ref (adB 0), .int p2] : List Value).toArray below meth c H locs 0 0 (MQ below (QV D (wR cA adR o ++ (wB cA adB vB)) A) ([.ref (adR 0), .ref (adB 0), .int p2] : List Value).toArray s 0 0 A) (F0 m 26 ls []) := by
    intro fu26
    induction fu26 with
    | zero =>
      intro vR x3 H locs ls h hP hD hS hl
      cases h
    | succ fu26 ih26 =>
      intro vR x3 H locs ls h hP hD hS hl
      rw [X3_readOwed_l26] at h
      refine lv_iload_n hx hb dX3_readOwed_26 rfl (lv_at hl 3 rfl) ?_
      refine lv_aload_n hx hb dX3_readOwed_27 rfl (lv_at hl 1 rfl) ?_
      refine lv_iconst (v := (2 : Int32)) hx hb dX3_readOwed_28 (by decide) ?_
      obtain ⟨u1, eu1, h⟩ := bd_in h
      refine kI (va_runV (As := [.int (2 : Int32)]) (rest := [.int x3]) ⟨hx, hb, hml, hown, hts⟩ (c_X0_number l D cA cQ adB vB (2 : Int32) u1 eu1 _) (cwV 1 hts gX3_readOwed_X0_number rfl rfl rfl (by decide +kernel) ⟨Nat.le_of_ble_eq_true rfl, Nat.le_of_ble_eq_true rfl⟩) (pV (ci := 0) (q := (RX0, TX0, 13)) hK hN hP hD [5, 6, 7, 8, 9, 10, 11, 12, 13, 14, 15, 16, 17, 18] rfl rfl rfl rfl) rfl rfl hl.1 rfl (lv_room (Nat.le_of_ble_eq_true rfl)) dX3_readOwed_29 ⟨Nat.zero_le _, Nat.zero_le _⟩) hP hD hS hA [5, 6, 7, 8, 9, 10, 11, 12, 13, 14, 15, 16, 17, 18] rfl rfl (ws' := (wR cA adR vR ++ (wB cA adB vB))) rfl (fun H locs hP hD hS => ?_)
      refine lv_icmp_ge (tgt := 91) hx hb dX3_readOwed_32 (by decide) (fun c2 => ?_) (fun c2 => ?_)
      · have h := (if_pos c2).symm.trans h
        cases h
        exact endV hx hb hr hlocks hP hS dX3_readOwed_91
      · have h := (if_neg c2).symm.trans h
        refine lv_aload_n hx hb dX3_readOwed_35 rfl (lv_at hl 1 rfl) ?_
        refine lv_iload_n hx hb dX3_readOwed_36 rfl (lv_at hl 3 rfl) ?_
        refine lv_iconst (v := (-1 : Int32)) hx hb dX3_readOwed_37 (by decide) ?_
        refine lv_iconst (v := (-1 : Int32)) hx hb dX3_readOwed_38 (by decide) ?_
        refine lv_iload_n hx hb dX3_readOwed_39 rfl (lv_at hl 2 rfl) ?_
        obtain ⟨u3, eu3, h⟩ := bd_in h
        refine kI (va_runV (As := [.int x3, .int (-1 : Int32), .int (-1 : Int32), .int p2]) (rest := []) ⟨hx, hb, hml, hown, hts⟩ (c_X0_isLotOf l D cA cQ adB vB x3 (-1 : Int32) (-1 : Int32) p2 u3 eu3 _) (cwV 4 hts gX3_readOwed_X0_isLotOf rfl rfl rfl (by decide +kernel) ⟨Nat.le_of_ble_eq_true rfl, Nat.le_of_ble_eq_true rfl⟩) (pV (ci := 0) (q := (RX0, TX0, 13)) hK hN hP hD [5, 6, 7, 8, 9, 10, 11, 12, 13, 14, 15, 16, 17, 18] rfl rfl rfl rfl) rfl rfl hl.1 rfl (lv_room (Nat.le_of_ble_eq_true rfl)) dX3_readOwed_40 ⟨Nat.zero_le _, Nat.zero_le _⟩) hP hD hS hA [5, 6, 7, 8, 9, 10, 11, 12, 13, 14, 15, 16, 17, 18] rfl rfl (ws' := (wR cA adR vR ++ (wB cA adB vB))) rfl (fun H locs hP hD hS => ?_)
        refine lv_if_eq (tgt := 85) hx hb dX3_readOwed_43 (by decide) (fun c4 => ?_) (fun c4 => ?_)
        · have h := (if_pos c4).symm.trans h
          refine lv_iinc (v := (x3 + (1 : Int32))) (lv' := [(3, .int (x3 + (1 : Int32))), (0, .ref (adR 0)), (1, .ref (adB 0)), (2, .int p2)]) hx hb dX3_readOwed_85 hl (k := 3) rfl rfl (by decide) rfl (fun ls hl => ?_)
          refine lv_goto (tgt := 26) hx hb dX3_readOwed_88 (by decide) ?_
          exact ih26 vR (x3 + (1 : Int32)) _ _ _ h hP hD hS (lv_sub hl [1, 2, 3, 0] rfl)
        · have h := (if_neg c4).symm.trans h
          refine lv_aload_n hx hb dX3_readOwed_46 rfl (lv_at hl 1 rfl) ?_
          refine va_getN (D := D) (ci := 0) (v := .ref (adB 8)) (C := RX0) (T := TX0) (N := 13) hx hb hts iw_X3_readOwed_X0 hown hK hP 5 rfl rfl 7 (by decide) (va_Nw.use rfl hN.2.2.2.2.2.2.2.2.2.2.2.2.1) (fun _ h9 => h9) rfl dX3_readOwed_47 ?_
          refine lv_iload_n hx hb dX3_readOwed_50 rfl (lv_at hl 3 rfl) ?_
          obtain ⟨u5, eu5, h⟩ := bd_in h
          refine kI (va_runSN (As := [.ref (adB 8), .int x3]) (rest := []) ⟨hx, hb, hml, hown, hts⟩ (c_X4_at l D cA cQ (adB 8) 40 (vB 8) x3 u5 eu5 _) ⟨va_cnB 2 hts gX3_readOwed_X4_at_n28 rfl rfl rfl hN.2.2.2.2.2.2.2.2.1 (hts (.initialized RX4) (List.mem_of_getElem? (i := 16) rfl)) (by decide +kernel) ⟨Nat.le_of_ble_eq_true rfl, Nat.le_of_ble_eq_true rfl⟩, (hts (.static yX4_at) (List.mem_of_getElem? (i := 15) rfl)), trivial⟩ (pS hK hN hP hD [13] rfl rfl) rfl rfl hl.1 rfl (lv_room (Nat.le_of_ble_eq_true rfl)) dX3_readOwed_51 ⟨Nat.zero_le _, Nat.zero_le _⟩) hP hD hS hA [13] rfl rfl (ws' := (wR cA adR vR ++ (wB cA adB vB))) rfl (fun H locs hP hD hS => ?_)
          refine lv_bipush (v := (8 : Int32)) hx hb dX3_readOwed_54 (by decide) ?_
          refine lv_imul hx hb dX3_readOwed_56 ?_
          refine lv_aload_n hx hb dX3_readOwed_57 rfl (lv_at hl 1 rfl) ?_
          refine va_getN (D := D) (ci := 0) (v := .ref (adB 9)) (C := RX0) (T := TX0) (N := 13) hx hb hts iw_X3_readOwed_X0 hown hK hP 5 rfl rfl 8 (by decide) (va_Nw.use rfl hN.2.2.2.2.2.2.2.2.2.2.2.2.2.1) (fun _ h9 => h9) rfl dX3_readOwed_58 ?_
          refine lv_iload_n hx hb dX3_readOwed_61 rfl (lv_at hl 3 rfl) ?_
          obtain ⟨u6, eu6, h⟩ := bd_in h
          refine kI (va_runSN (As := [.ref (adB 9), .int x3]) (rest := [.int (u5 * (8 : Int32))]) ⟨hx, hb, hml, hown, hts⟩ (c_X4_at l D cA cQ (adB 9) 40 (vB 9) x3 u6 eu6 _) ⟨va_cnB 2 hts gX3_readOwed_X4_at_n28 rfl rfl rfl hN.2.2.2.2.2.2.2.2.1 (hts (.initialized RX4) (List.mem_of_getElem? (i := 16) rfl)) (by decide +kernel) ⟨Nat.le_of_ble_eq_true rfl, Nat.le_of_ble_eq_true rfl⟩, (hts (.static yX4_at) (List.mem_of_getElem? (i := 15) rfl)), trivial⟩ (pS hK hN hP hD [14] rfl rfl) rfl rfl hl.1 rfl (lv_room (Nat.le_of_ble_eq_true rfl)) dX3_readOwed_62 ⟨Nat.zero_le _, Nat.zero_le _⟩) hP hD hS hA [14] rfl rfl (ws' := (wR cA adR vR ++ (wB cA adB vB))) rfl (fun H locs hP hD hS => ?_)
          refine lv_iadd hx hb dX3_readOwed_65 ?_
          refine lv_istore (lv' := [(4, .int ((u5 * (8 : Int32)) + u6)), (0, .ref (adR 0)), (1, .ref (adB 0)), (2, .int p2), (3, .int x3)]) hx hb dX3_readOwed_66 hl (by decide) rfl (fun ls hl => ?_)
          refine lv_aload_n hx hb dX3_readOwed_68 rfl (lv_at hl 1 rfl) ?_
          refine va_get (D := D) (ci := 3) (v := .ref (adR 1)) (C := RX3) (T := TX3) (N := 5) hx hb hts iw_X3_readOwed_X3 hown hK hP 0 rfl rfl 0 (by decide) (hts (.fieldLink RX3 9 "FavourRings$Rings" "owed" "[I") (List.mem_of_getElem? (i := 1) rfl)) (fun _ h9 => h9) rfl dX3_readOwed_69 ?_
          refine lv_iload hx hb dX3_readOwed_72 (lv_at hl 0 rfl) ?_
          refine lv_aload_n hx hb dX3_readOwed_74 rfl (lv_at hl 2 rfl) ?_
          refine va_getN (D := D) (ci := 0) (v := .ref (adB 11)) (C := RX0) (T := TX0) (N := 13) hx hb hts iw_X3_readOwed_X0 hown hK hP 5 rfl rfl 10 (by decide) (va_Nw.use rfl hN.2.2.2.2.2.2.2.2.2.2.2.2.2.2) (fun _ h9 => h9) rfl dX3_readOwed_75 ?_
          refine lv_iload_n hx hb dX3_readOwed_78 rfl (lv_at hl 4 rfl) ?_
          obtain ⟨u7, eu7, h⟩ := bd_in h
          refine kI (va_runSN (As := [.ref (adB 11), .int x3]) (rest := [.int ((u5 * (8 : Int32)) + u6), .ref (adR 1)]) ⟨hx, hb, hml, hown, hts⟩ (c_X4_at l D cA cQ (adB 11) 40 (vB 11) x3 u7 eu7 _) ⟨va_cnB 2 hts gX3_readOwed_X4_at_n28 rfl rfl rfl hN.2.2.2.2.2.2.2.2.1 (hts (.initialized RX4) (List.mem_of_getElem? (i := 16) rfl)) (by decide +kernel) ⟨Nat.le_of_ble_eq_true rfl, Nat.le_of_ble_eq_true rfl⟩, (hts (.static yX4_at) (List.mem_of_getElem? (i := 15) rfl)), trivial⟩ (pS hK hN hP hD [16] rfl rfl) rfl rfl hl.1 rfl (lv_room (Nat.le_of_ble_eq_true rfl)) dX3_readOwed_79 ⟨Nat.zero_le _, Nat.zero_le _⟩) hP hD hS hA [16] rfl rfl (ws' := (wR cA adR vR ++ (wB cA adB vB))) rfl (fun H locs hP hD hS => ?_)
          obtain ⟨u8, eu8, h⟩ := bd_in h
          refine kV (va_runSN (As := [.ref (adR 1), .int ((u5 * (8 : Int32)) + u6), .int u7]) (rest := []) ⟨hx, hb, hml, hown, hts⟩ (c_X4_add l D cA cQ (adR 1) 64 (vR 1) ((u5 * (8 : Int32)) + u6) u7 u8 eu8 _) ⟨va_cnB 3 hts gX3_readOwed_X4_add_n107 rfl rfl rfl hN.2.2.2.2.2.2.2.2.2.2.2.1 (hts (.initialized RX4) (List.mem_of_getElem? (i := 16) rfl)) (by decide +kernel) ⟨Nat.le_of_ble_eq_true rfl, Nat.le_of_ble_eq_true rfl⟩, (hts (.static yX4_add) (List.mem_of_getElem? (i := 18) rfl)), trivial⟩ (pS hK hN hP hD [1] rfl rfl) rfl rfl hl.1 rfl (lv_room (Nat.le_of_ble_eq_true rfl)) dX3_readOwed_82 ⟨Nat.zero_le _, Nat.zero_le _⟩) hP hD hS hA [1] rfl rfl (ws' := (wR cA adR (setA vR 1 u8) ++ (wB cA adB vB))) rfl (fun H locs hP hD hS => ?_)
          refine lv_iinc (v := (x3 + (1 : Int32))) (lv' := [(3, .int (x3 + (1 : Int32))), (4, .int ((u5 * (8 : Int32)) + u6)), (0, .ref (adR 0)), (1, .ref (adB 0)), (2, .int p2)]) hx hb dX3_readOwed_85 hl (k := 4) rfl rfl (by decide) rfl (fun ls hl => ?_)
          refine lv_goto (tgt := 26) hx hb dX3_readOwed_88 (by decide) ?_
          exact ih26 (setA vR 1 u8) (x3 + (1 : Int32)) _ _ _ h hP hD hS (lv_sub hl [2, 3, 4, 0] rfl)
  have B2 : ∀ (fu2 : Nat) (vR : St) (x3 : Int32) (H : Heap) (locs : List Loc) (ls : Array Slot), X3_readOwed_l2 vB p2 fu2 vR x3 = some o → va_P D vwCl (wR cA adR vR ++ (wB cA adB vB)) H → va_D A (wR cA adR vR ++ (wB cA adB vB)) → va_S A s.heap H locs → lv_has ls 5 [(0, .ref (adR 0)), (1, .ref (adB 0)), (2, .int p2), (3, .int x3)] → W p l e (headSpec wsX3_readOwed ({ frames := 1, cells := 0, slots := 0, locals := 24 })).room s m ([.ref (adR 0), .ref (adB 0), .int p2] : List Value).toArray below meth c H locs 0 0 (MQ below (QV D (wR cA adR o ++ (wB cA adB vB)) A) ([.ref (adR 0), .ref (adB 0), .int p2] : List Value).toArray s 0 0 A) (F0 m 2 ls []) := by
    intro fu2
    induction fu2 with
    | zero =>
      intro vR x3 H locs ls h hP hD hS hl
      cases h
    | succ fu2 ih2 =>
      intro vR x3 H locs ls h hP hD hS hl
      rw [X3_readOwed_l2] at h
      refine lv_iload_n hx hb dX3_readOwed_2 rfl (lv_at hl 3 rfl) ?_
      refine lv_aload_n hx hb dX3_readOwed_3 rfl (lv_at hl 0 rfl) ?_
      refine va_get (D := D) (ci := 3) (v := .ref (adR 1)) (C := RX3) (T := TX3) (N := 5) hx hb hts iw_X3_readOwed_X3 hown hK hP 0 rfl rfl 0 (by decide) (hts (.fieldLink RX3 9 "FavourRings$Rings" "owed" "[I") (List.mem_of_getElem? (i := 1) rfl)) (fun _ h9 => h9) rfl dX3_readOwed_4 ?_
      refine va_alen hx hb hK hP 1 0 rfl rfl (v := (64 : Int32)) rfl dX3_readOwed_7 ?_
      refine lv_icmp_ge (tgt := 24) hx hb dX3_readOwed_8 (by decide) (fun c9 => ?_) (fun c9 => ?_)
      · have h := (if_pos c9).symm.trans h
        refine lv_iconst (v := (0 : Int32)) hx hb dX3_readOwed_24 (by decide) ?_
        refine lv_istore_n (lv' := [(3, .int (0 : Int32)), (0, .ref (adR 0)), (1, .ref (adB 0)), (2, .int p2)]) hx hb dX3_readOwed_25 rfl hl (by decide) rfl (fun ls hl => ?_)
        exact B26 FU vR (0 : Int32) _ _ _ h hP hD hS (lv_sub hl [1, 2, 3, 0] rfl)
      · have h := (if_neg c9).symm.trans h
        refine lv_aload_n hx hb dX3_readOwed_11 rfl (lv_at hl 0 rfl) ?_
        refine va_get (D := D) (ci := 3) (v := .ref (adR 1)) (C := RX3) (T := TX3) (N := 5) hx hb hts iw_X3_readOwed_X3 hown hK hP 0 rfl rfl 0 (by decide) (hts (.fieldLink RX3 9 "FavourRings$Rings" "owed" "[I") (List.mem_of_getElem? (i := 1) rfl)) (fun _ h9 => h9) rfl dX3_readOwed_12 ?_
        refine lv_iload_n hx hb dX3_readOwed_15 rfl (lv_at hl 3 rfl) ?_
        refine lv_iconst (v := (0 : Int32)) hx hb dX3_readOwed_16 (by decide) ?_
        obtain ⟨g10, eg10, h⟩ := bd_in h
        refine stR hx hb hK hP hD hS 1 0 rfl rfl eg10 (ws' := (wR cA adR (setA vR 1 g10) ++ (wB cA adB vB))) rfl dX3_readOwed_17 (fun H locs hP hD hS => ?_)
        refine lv_iinc (v := (x3 + (1 : Int32))) (lv' := [(3, .int (x3 + (1 : Int32))), (0, .ref (adR 0)), (1, .ref (adB 0)), (2, .int p2)]) hx hb dX3_readOwed_18 hl (k := 3) rfl rfl (by decide) rfl (fun ls hl => ?_)
        refine lv_goto (tgt := 2) hx hb dX3_readOwed_21 (by decide) ?_
        exact ih2 (setA vR 1 g10) (x3 + (1 : Int32)) _ _ _ h hP hD hS (lv_sub hl [1, 2, 3, 0] rfl)
  have h := hf
  unfold X3_readOwed at h
  refine lv_iconst (v := (0 : Int32)) hx hb dX3_readOwed_0 (by decide) ?_
  refine lv_istore_n (lv' := [(3, .int (0 : Int32)), (0, .ref (adR 0)), (1, .ref (adB 0)), (2, .int p2)]) hx hb dX3_readOwed_1 rfl hl (by decide) rfl (fun ls hl => ?_)
  exact B2 FU vR (0 : Int32) _ _ _ h hP hD hS (lv_sub hl [1, 2, 3, 0] rfl)
set_option maxHeartbeats 4000000 in
set_option maxRecDepth 100000 in
theorem c_X4_put (l : Launch) (D : va_G) (cA cQ : ClassId) (a1 : Nat) (n1 : Nat) (f1 : Nat → Int32) (p1 : Int32) (p2 : Int32) (o : (Nat → Int32)) (hf : X4_put f1 n1 p1 p2 = some o) : Ctv l yX4_put wsX4_put ({ frames := 0, cells := 0, slots := 0, locals := 0 }) D (TY cA cQ) [.ref a1, .int p1, .int p2] (wA cA a1 n1 f1) (wA cA a1 n1 o) := by
  refine Wk.v (cc := cX4_put) (maxL := 3) (ret := none) (by decide) rfl (Nat.le_of_ble_eq_true rfl) ?_
  intro p e s m below meth c A ls hx hb hr hlocks hml hown hts hK hN hP hD hA hl
  have hown : s.vm.findClass RX4 = some m.cls := hown
  have hS : va_S A s.heap s.heap [] := va_S.rf
  have hl : lv_has ls 3 [(0, .ref a1), (1, .int p1), (2, .int p2)] := hl
  have h := hf
  unfold X4_put at h
  refine lv_iload_n hx hb dX4_put_0 rfl (lv_at hl 1 rfl) ?_
  refine lv_if_lt (tgt := 14) hx hb dX4_put_1 (by decide) (fun c1 => ?_) (fun c1 => ?_)
  · have h := (if_pos c1).symm.trans h
    cases h
    exact endV hx hb hr hlocks hP hS dX4_put_14
  · have h := (if_neg c1).symm.trans h
    refine lv_iload_n hx hb dX4_put_4 rfl (lv_at hl 1 rfl) ?_
    refine lv_aload_n hx hb dX4_put_5 rfl (lv_at hl 0 rfl) ?_
    refine va_alen hx hb hK hP 0 0 rfl rfl (v := (Int32.ofNat n1)) rfl dX4_put_6 ?_
    refine lv_icmp_ge (tgt := 14) hx hb dX4_put_7 (by decide) (fun c2 => ?_) (fun c2 => ?_)
    · have h := (if_pos c2).symm.trans h
      cases h
      exact endV hx hb hr hlocks hP hS dX4_put_14
    · have h := (if_neg c2).symm.trans h
      refine lv_aload_n hx hb dX4_put_10 rfl (lv_at hl 0 rfl) ?_
      refine lv_iload_n hx hb dX4_put_11 rfl (lv_at hl 1 rfl) ?_
      refine lv_iload_n hx hb dX4_put_12 rfl (lv_at hl 2 rfl) ?_
      obtain ⟨g3, eg3, h⟩ := bd_in h
      refine stR hx hb hK hP hD hS 0 0 rfl rfl eg3 (ws' := (wA cA a1 n1 g3)) rfl dX4_put_13 (fun H locs hP hD hS => ?_)
      cases h
      exact endV hx hb hr hlocks hP hS dX4_put_14
theorem iw_X3_owedBetween_X3 : ∀ w ∈ wsX30, w ∈ wsX3_owedBetween := fun _ h => List.mem_cons_of_mem _ (List.mem_append_right _ (h))
set_option maxHeartbeats 4000000 in
set_option maxRecDepth 100000 in
theorem c_X3_owedBetween (l : Launch) (D : va_G) (cA cQ : ClassId) (adR : Nat → Nat) (vR : St) (p1 : Int32) (p2 : Int32) (o : Int32) (hf : X3_owedBetween vR p1 p2 = some o) : Cti l yX3_owedBetween wsX3_owedBetween ({ frames := 0, cells := 0, slots := 0, locals := 0 }) D (TY cA cQ) [.ref (adR 0), .int p1, .int p2] (wR cA adR vR) (wR cA adR vR) o := by
  refine Wk.i (cc := cX3_owedBetween) (maxL := 4) (ret := (some .int)) (by decide) rfl (Nat.le_of_ble_eq_true rfl) ?_
  intro p e s m below meth c A ls hx hb hr hlocks hml hown hts hK hN hP hD hA hl
  have hown : s.vm.findClass RX3 = some m.cls := hown
  have hS : va_S A s.heap s.heap [] := va_S.rf
  have hl : lv_has ls 4 [(0, .ref (adR 0)), (1, .int p1), (2, .int p2)] := hl
  have h := hf
  unfold X3_owedBetween at h
  refine lv_iload_n hx hb dX3_owedBetween_0 rfl (lv_at hl 1 rfl) ?_
  refine lv_bipush (v := (8 : Int32)) hx hb dX3_owedBetween_1 (by decide) ?_
  refine lv_imul hx hb dX3_owedBetween_3 ?_
  refine lv_iload_n hx hb dX3_owedBetween_4 rfl (lv_at hl 2 rfl) ?_
  refine lv_iadd hx hb dX3_owedBetween_5 ?_
  refine lv_istore_n (lv' := [(3, .int ((p1 * (8 : Int32)) + p2)), (0, .ref (adR 0)), (1, .int p1), (2, .int p2)]) hx hb dX3_owedBetween_6 rfl hl (by decide) rfl (fun ls hl => ?_)
  refine lv_iload_n hx hb dX3_owedBetween_7 rfl (lv_at hl 0 rfl) ?_
  refine lv_if_lt (tgt := 29) hx hb dX3_owedBetween_8 (by decide) (fun c1 => ?_) (fun c1 => ?_)
  · have h := (if_pos c1).symm.trans h
    refine lv_iconst (v := (0 : Int32)) hx hb dX3_owedBetween_29 (by decide) ?_
    cases h
    exact endI hx hb hr hlocks hP hS rfl dX3_owedBetween_30
  · have h := (if_neg c1).symm.trans h
    refine lv_iload_n hx hb dX3_owedBetween_11 rfl (lv_at hl 0 rfl) ?_
    refine lv_aload_n hx hb dX3_owedBetween_12 rfl (lv_at hl 1 rfl) ?_
    refine va_get (D := D) (ci := 3) (v := .ref (adR 1)) (C := RX3) (T := TX3) (N := 5) hx hb hts iw_X3_owedBetween_X3 hown hK hP 0 rfl rfl 0 (by decide) (hts (.fieldLink RX3 9 "FavourRings$Rings" "owed" "[I") (List.mem_of_getElem? (i := 1) rfl)) (fun _ h9 => h9) rfl dX3_owedBetween_13 ?_
    refine va_alen hx hb hK hP 1 0 rfl rfl (v := (64 : Int32)) rfl dX3_owedBetween_16 ?_
    refine lv_icmp_ge (tgt := 29) hx hb dX3_owedBetween_17 (by decide) (fun c2 => ?_) (fun c2 => ?_)
    · have h := (if_pos c2).symm.trans h
      refine lv_iconst (v := (0 : Int32)) hx hb dX3_owedBetween_29 (by decide) ?_
      cases h
      exact endI hx hb hr hlocks hP hS rfl dX3_owedBetween_30
    · have h := (if_neg c2).symm.trans h
      refine lv_aload_n hx hb dX3_owedBetween_20 rfl (lv_at hl 1 rfl) ?_
      refine va_get (D := D) (ci := 3) (v := .ref (adR 1)) (C := RX3) (T := TX3) (N := 5) hx hb hts iw_X3_owedBetween_X3 hown hK hP 0 rfl rfl 0 (by decide) (hts (.fieldLink RX3 9 "FavourRings$Rings" "owed" "[I") (List.mem_of_getElem? (i := 1) rfl)) (fun _ h9 => h9) rfl dX3_owedBetween_21 ?_
      refine lv_iload_n hx hb dX3_owedBetween_24 rfl (lv_at hl 0 rfl) ?_
      obtain ⟨y3, ey3, h⟩ := bd_in h
      refine ldR hx hb hK hP 1 0 rfl rfl ey3 dX3_owedBetween_25 ?_
      refine lv_goto (tgt := 30) hx hb dX3_owedBetween_26 (by decide) ?_
      cases h
      exact endI hx hb hr hlocks hP hS rfl dX3_owedBetween_30
theorem iw_X3_measureSteps_X3 : ∀ w ∈ wsX30, w ∈ wsX3_measureSteps := fun _ h => List.mem_cons_of_mem _ (List.mem_append_right _ (h))
set_option maxHeartbeats 4000000 in
set_option maxRecDepth 100000 in
theorem c_X3_measureSteps (l : Launch) (D : va_G) (cA cQ : ClassId) (adR : Nat → Nat) (vR : St) (p1 : Int32) (p2 : Int32) (o : St) (hf : X3_measureSteps vR p1 p2 = some o) : Ctv l yX3_measureSteps wsX3_measureSteps ({ frames := 1, cells := 0, slots := 0, locals := 23 }) D (TY cA cQ) [.ref (adR 0), .int p1, .int p2] (wR cA adR vR) (wR cA adR o) := by
  refine Wk.v (cc := cX3_measureSteps) (maxL := 7) (ret := none) (by decide) rfl (Nat.le_of_ble_eq_true rfl) ?_
  intro p e s m below meth c A ls hx hb hr hlocks hml hown hts hK hN hP hD hA hl
  have hown : s.vm.findClass RX3 = some m.cls := hown
  have hS : va_S A s.heap s.heap [] := va_S.rf
  have hl : lv_has ls 7 [(0, .ref (adR 0)), (1, .int p1), (2, .int p2)] := hl
  have B38 : ∀ (fu38 : Nat) (vR : St) (x3 : Int32) (x4 : Int32) (H : Heap) (locs : List Loc) (ls : Array Slot), X3_measureSteps_l38 p1 p2 fu38 vR x3 x4 = some o → va_P D vwCl (wR cA adR vR) H → va_D A (wR cA adR vR) → va_S A s.heap H locs → lv_has ls 7 [(0, .ref (adR 0)), (1, .int p1), (2, .int p2), (3, .int x3), (4, .int x4)] → W p l e (headSpec wsX3_measureSteps ({ frames := 1, cells := 0, slots := 0, locals := 23 })).room s m ([.ref (adR 0), .int p1, .int p2] : List Value).toArray below meth c H locs 0 0 (MQ below (QV D (wR cA adR o) A) ([.ref (adR 0), .int p1, .int p2] : List Value).toArray s 0 0 A) (F0 m 38 ls []) := by
    intro fu38
    induction fu38 with
    | zero =>
      intro vR x3 x4 H locs ls h hP hD hS hl
      cases h
    | succ fu38 ih38 =>
      have B65 : ∀ (fu65 : Nat) (vR : St) (x3 : Int32) (x4 : Int32) (x5 : Int32) (x6 : Int32) (H : Heap) (locs : List Loc) (ls : Array Slot), X3_measureSteps_l65 p1 p2 (X3_measureSteps_l38 p1 p2 fu38) fu65 vR x3 x4 x5 x6 = some o → va_P D vwCl (wR cA adR vR) H → va_D A (wR cA adR vR) → va_S A s.heap H locs → lv_has ls 7 [(0, .ref (adR 0)), (1, .int p1), (2, .int p2), (3, .int x3), (4, .int x4), (5, .int x5), (6, .int x6)] → W p l e (headSpec wsX3_measureSteps ({ frames := 1, cells := 0, slots := 0, locals := 23 })).room s m ([.ref (adR 0), .int p1, .int p2] : List Value).toArray below meth c H locs 0 0 (MQ below (QV D (wR cA adR o) A) ([.ref (adR 0), .int p1, .int p2] : List Value).toArray s 0 0 A) (F0 m 65 ls []) := by
        intro fu65
        induction fu65 with
        | zero =>
          intro vR x3 x4 x5 x6 H locs ls h hP hD hS hl
          cases h
        | succ fu65 ih65 =>
          intro vR x3 x4 x5 x6 H locs ls h hP hD hS hl
          rw [X3_measureSteps_l65] at h
          refine lv_iload hx hb dX3_measureSteps_65 (lv_at hl 6 rfl) ?_
          refine lv_bipush (v := (8 : Int32)) hx hb dX3_measureSteps_67 (by decide) ?_
          refine lv_icmp_ge (tgt := 140) hx hb dX3_measureSteps_69 (by decide) (fun c1 => ?_) (fun c1 => ?_)
          · have h := (if_pos c1).symm.trans h
            refine lv_iinc (v := (x4 + (1 : Int32))) (lv' := [(4, .int (x4 + (1 : Int32))), (0, .ref (adR 0)), (1, .int p1), (2, .int p2), (3, .int x3), (5, .int x5), (6, .int x6)]) hx hb dX3_measureSteps_140 hl (k := 4) rfl rfl (by decide) rfl (fun ls hl => ?_)
            refine lv_goto (tgt := 38) hx hb dX3_measureSteps_143 (by decide) ?_
            exact ih38 vR x3 (x4 + (1 : Int32)) _ _ _ h hP hD hS (lv_sub hl [1, 2, 3, 4, 0] rfl)
          · have h := (if_neg c1).symm.trans h
            refine lv_iload hx hb dX3_measureSteps_72 (lv_at hl 6 rfl) ?_
            refine lv_iload_n hx hb dX3_measureSteps_74 rfl (lv_at hl 1 rfl) ?_
            refine lv_icmp_eq (tgt := 134) hx hb dX3_measureSteps_75 (by decide) (fun c2 => ?_) (fun c2 => ?_)
            · have h := (if_pos c2).symm.trans h
              refine lv_iinc (v := (x6 + (1 : Int32))) (lv' := [(6, .int (x6 + (1 : Int32))), (0, .ref (adR 0)), (1, .int p1), (2, .int p2), (3, .int x3), (4, .int x4), (5, .int x5)]) hx hb dX3_measureSteps_134 hl (k := 6) rfl rfl (by decide) rfl (fun ls hl => ?_)
              refine lv_goto (tgt := 65) hx hb dX3_measureSteps_137 (by decide) ?_
              exact ih65 vR x3 x4 x5 (x6 + (1 : Int32)) _ _ _ h hP hD hS (lv_sub hl [1, 2, 3, 4, 5, 6, 0] rfl)
            · have h := (if_neg c2).symm.trans h
              refine lv_aload_n hx hb dX3_measureSteps_78 rfl (lv_at hl 0 rfl) ?_
              refine va_get (D := D) (ci := 3) (v := .ref (adR 2)) (C := RX3) (T := TX3) (N := 5) hx hb hts iw_X3_measureSteps_X3 hown hK hP 0 rfl rfl 1 (by decide) (hts (.fieldLink RX3 15 "FavourRings$Rings" "steps" "[I") (List.mem_of_getElem? (i := 1) rfl)) (fun _ h9 => h9) rfl dX3_measureSteps_79 ?_
              refine lv_iload hx hb dX3_measureSteps_82 (lv_at hl 6 rfl) ?_
              obtain ⟨u3, eu3, h⟩ := bd_in h
              refine kI (va_runSN (As := [.ref (adR 2), .int x6]) (rest := []) ⟨hx, hb, hml, hown, hts⟩ (c_X4_at l D cA cQ (adR 2) 8 (vR 2) x6 u3 eu3 _) ⟨va_cnB 2 hts gX3_measureSteps_X4_at_n28 rfl rfl rfl hN.2.2.2.2.2.2.2.2.1 (hts (.initialized RX4) (List.mem_of_getElem? (i := 4) rfl)) (by decide +kernel) ⟨Nat.le_of_ble_eq_true rfl, Nat.le_of_ble_eq_true rfl⟩, (hts (.static yX4_at) (List.mem_of_getElem? (i := 6) rfl)), trivial⟩ (pS hK hN hP hD [2] rfl rfl) rfl rfl hl.1 rfl (lv_room (Nat.le_of_ble_eq_true rfl)) dX3_measureSteps_84 ⟨Nat.zero_le _, Nat.zero_le _⟩) hP hD hS hA [2] rfl rfl (ws' := (wR cA adR vR)) rfl (fun H locs hP hD hS => ?_)
              refine lv_if_ne (tgt := 134) hx hb dX3_measureSteps_87 (by decide) (fun c4 => ?_) (fun c4 => ?_)
              · have h := (if_neg c4).symm.trans h
                refine lv_iinc (v := (x6 + (1 : Int32))) (lv' := [(6, .int (x6 + (1 : Int32))), (0, .ref (adR 0)), (1, .int p1), (2, .int p2), (3, .int x3), (4, .int x4), (5, .int x5)]) hx hb dX3_measureSteps_134 hl (k := 6) rfl rfl (by decide) rfl (fun ls hl => ?_)
                refine lv_goto (tgt := 65) hx hb dX3_measureSteps_137 (by decide) ?_
                exact ih65 vR x3 x4 x5 (x6 + (1 : Int32)) _ _ _ h hP hD hS (lv_sub hl [1, 2, 3, 4, 5, 6, 0] rfl)
              · have h := (if_pos c4).symm.trans h
                refine lv_aload_n hx hb dX3_measureSteps_90 rfl (lv_at hl 0 rfl) ?_
                refine lv_iload hx hb dX3_measureSteps_91 (lv_at hl 6 rfl) ?_
                refine lv_iload hx hb dX3_measureSteps_93 (lv_at hl 5 rfl) ?_
                obtain ⟨u5, eu5, h⟩ := bd_in h
                refine kI (va_runV (As := [.int x6, .int x5]) (rest := []) ⟨hx, hb, hml, hown, hts⟩ (c_X3_owedBetween l D cA cQ adR vR x6 x5 u5 eu5 _) (cwV 2 hts gX3_measureSteps_X3_owedBetween rfl rfl rfl (by decide +kernel) ⟨Nat.le_of_ble_eq_true rfl, Nat.le_of_ble_eq_true rfl⟩) (pV (ci := 3) (q := (RX3, TX3, 5)) hK hN hP hD [0, 1, 2, 3, 4] rfl rfl rfl rfl) rfl rfl hl.1 rfl (lv_room (Nat.le_of_ble_eq_true rfl)) dX3_measureSteps_95 ⟨Nat.zero_le _, Nat.zero_le _⟩) hP hD hS hA [0, 1, 2, 3, 4] rfl rfl (ws' := (wR cA adR vR)) rfl (fun H locs hP hD hS => ?_)
                refine lv_if_le (tgt := 134) hx hb dX3_measureSteps_98 (by decide) (fun c6 => ?_) (fun c6 => ?_)
                · have h := (if_pos c6).symm.trans h
                  refine lv_iinc (v := (x6 + (1 : Int32))) (lv' := [(6, .int (x6 + (1 : Int32))), (0, .ref (adR 0)), (1, .int p1), (2, .int p2), (3, .int x3), (4, .int x4), (5, .int x5)]) hx hb dX3_measureSteps_134 hl (k := 6) rfl rfl (by decide) rfl (fun ls hl => ?_)
                  refine lv_goto (tgt := 65) hx hb dX3_measureSteps_137 (by decide) ?_
                  exact ih65 vR x3 x4 x5 (x6 + (1 : Int32)) _ _ _ h hP hD hS (lv_sub hl [1, 2, 3, 4, 5, 6, 0] rfl)
                · have h := (if_neg c6).symm.trans h
                  refine lv_aload_n hx hb dX3_measureSteps_101 rfl (lv_at hl 0 rfl) ?_
                  refine va_get (D := D) (ci := 3) (v := .ref (adR 2)) (C := RX3) (T := TX3) (N := 5) hx hb hts iw_X3_measureSteps_X3 hown hK hP 0 rfl rfl 1 (by decide) (hts (.fieldLink RX3 15 "FavourRings$Rings" "steps" "[I") (List.mem_of_getElem? (i := 1) rfl)) (fun _ h9 => h9) rfl dX3_measureSteps_102 ?_
                  refine lv_iload hx hb dX3_measureSteps_105 (lv_at hl 6 rfl) ?_
                  refine lv_aload_n hx hb dX3_measureSteps_107 rfl (lv_at hl 0 rfl) ?_
                  refine va_get (D := D) (ci := 3) (v := .ref (adR 2)) (C := RX3) (T := TX3) (N := 5) hx hb hts iw_X3_measureSteps_X3 hown hK hP 0 rfl rfl 1 (by decide) (hts (.fieldLink RX3 15 "FavourRings$Rings" "steps" "[I") (List.mem_of_getElem? (i := 1) rfl)) (fun _ h9 => h9) rfl dX3_measureSteps_108 ?_
                  refine lv_iload hx hb dX3_measureSteps_111 (lv_at hl 5 rfl) ?_
                  obtain ⟨u7, eu7, h⟩ := bd_in h
                  refine kI (va_runSN (As := [.ref (adR 2), .int x5]) (rest := [.int x6, .ref (adR 2)]) ⟨hx, hb, hml, hown, hts⟩ (c_X4_at l D cA cQ (adR 2) 8 (vR 2) x5 u7 eu7 _) ⟨va_cnB 2 hts gX3_measureSteps_X4_at_n28 rfl rfl rfl hN.2.2.2.2.2.2.2.2.1 (hts (.initialized RX4) (List.mem_of_getElem? (i := 4) rfl)) (by decide +kernel) ⟨Nat.le_of_ble_eq_true rfl, Nat.le_of_ble_eq_true rfl⟩, (hts (.static yX4_at) (List.mem_of_getElem? (i := 6) rfl)), trivial⟩ (pS hK hN hP hD [2] rfl rfl) rfl rfl hl.1 rfl (lv_room (Nat.le_of_ble_eq_true rfl)) dX3_measureSteps_113 ⟨Nat.zero_le _, Nat.zero_le _⟩) hP hD hS hA [2] rfl rfl (ws' := (wR cA adR vR)) rfl (fun H locs hP hD hS => ?_)
                  refine lv_iconst (v := (1 : Int32)) hx hb dX3_measureSteps_116 (by decide) ?_
                  refine lv_iadd hx hb dX3_measureSteps_117 ?_
                  obtain ⟨u8, eu8, h⟩ := bd_in h
                  refine kV (va_runSN (As := [.ref (adR 2), .int x6, .int (u7 + (1 : Int32))]) (rest := []) ⟨hx, hb, hml, hown, hts⟩ (c_X4_put l D cA cQ (adR 2) 8 (vR 2) x6 (u7 + (1 : Int32)) u8 eu8 _) ⟨va_cnB 3 hts gX3_measureSteps_X4_put_n84 rfl rfl rfl hN.2.2.2.2.2.2.2.2.2.2.1 (hts (.initialized RX4) (List.mem_of_getElem? (i := 4) rfl)) (by decide +kernel) ⟨Nat.le_of_ble_eq_true rfl, Nat.le_of_ble_eq_true rfl⟩, (hts (.static yX4_put) (List.mem_of_getElem? (i := 3) rfl)), trivial⟩ (pS hK hN hP hD [2] rfl rfl) rfl rfl hl.1 rfl (lv_room (Nat.le_of_ble_eq_true rfl)) dX3_measureSteps_118 ⟨Nat.zero_le _, Nat.zero_le _⟩) hP hD hS hA [2] rfl rfl (ws' := (wR cA adR (setA vR 2 u8))) rfl (fun H locs hP hD hS => ?_)
                  refine lv_aload_n hx hb dX3_measureSteps_121 rfl (lv_at hl 0 rfl) ?_
                  refine va_get (D := D) (ci := 3) (v := .ref (adR 3)) (C := RX3) (T := TX3) (N := 5) hx hb hts iw_X3_measureSteps_X3 hown hK hP 0 rfl rfl 2 (by decide) (hts (.fieldLink RX3 18 "FavourRings$Rings" "queue" "[I") (List.mem_of_getElem? (i := 2) rfl)) (fun _ h9 => h9) rfl dX3_measureSteps_122 ?_
                  refine lv_iload_n hx hb dX3_measureSteps_125 rfl (lv_at hl 3 rfl) ?_
                  refine lv_iload hx hb dX3_measureSteps_126 (lv_at hl 6 rfl) ?_
                  obtain ⟨u9, eu9, h⟩ := bd_in h
                  refine kV (va_runSN (As := [.ref (adR 3), .int x3, .int x6]) (rest := []) ⟨hx, hb, hml, hown, hts⟩ (c_X4_put l D cA cQ (adR 3) 8 (vR 3) x3 x6 u9 eu9 _) ⟨va_cnB 3 hts gX3_measureSteps_X4_put_n84 rfl rfl rfl hN.2.2.2.2.2.2.2.2.2.2.1 (hts (.initialized RX4) (List.mem_of_getElem? (i := 4) rfl)) (by decide +kernel) ⟨Nat.le_of_ble_eq_true rfl, Nat.le_of_ble_eq_true rfl⟩, (hts (.static yX4_put) (List.mem_of_getElem? (i := 3) rfl)), trivial⟩ (pS hK hN hP hD [3] rfl rfl) rfl rfl hl.1 rfl (lv_room (Nat.le_of_ble_eq_true rfl)) dX3_measureSteps_128 ⟨Nat.zero_le _, Nat.zero_le _⟩) hP hD hS hA [3] rfl rfl (ws' := (wR cA adR (setA (setA vR 2 u8) 3 u9))) rfl (fun H locs hP hD hS => ?_)
                  refine lv_iinc (v := (x3 + (1 : Int32))) (lv' := [(3, .int (x3 + (1 : Int32))), (0, .ref (adR 0)), (1, .int p1), (2, .int p2), (4, .int x4), (5, .int x5), (6, .int x6)]) hx hb dX3_measureSteps_131 hl (k := 3) rfl rfl (by decide) rfl (fun ls hl => ?_)
                  refine lv_iinc (v := (x6 + (1 : Int32))) (lv' := [(6, .int (x6 + (1 : Int32))), (3, .int (x3 + (1 : Int32))), (0, .ref (adR 0)), (1, .int p1), (2, .int p2), (4, .int x4), (5, .int x5)]) hx hb dX3_measureSteps_134 hl (k := 6) rfl rfl (by decide) rfl (fun ls hl => ?_)
                  refine lv_goto (tgt := 65) hx hb dX3_measureSteps_137 (by decide) ?_
                  exact ih65 (setA (setA vR 2 u8) 3 u9) (x3 + (1 : Int32)) x4 x5 (x6 + (1 : Int32)) _ _ _ h hP hD hS (lv_sub hl [2, 3, 4, 1, 5, 6, 0] rfl)
      intro vR x3 x4 H locs ls h hP hD hS hl
      rw [X3_measureSteps_l38] at h
      refine lv_iload hx hb dX3_measureSteps_38 (lv_at hl 4 rfl) ?_
      refine lv_bipush (v := (8 : Int32)) hx hb dX3_measureSteps_40 (by decide) ?_
      refine lv_icmp_ge (tgt := 146) hx hb dX3_measureSteps_42 (by decide) (fun c10 => ?_) (fun c10 => ?_)
      · have h := (if_pos c10).symm.trans h
        cases h
        exact endV hx hb hr hlocks hP hS dX3_measureSteps_146
      · have h := (if_neg c10).symm.trans h
        refine lv_iload hx hb dX3_measureSteps_45 (lv_at hl 4 rfl) ?_
        refine lv_iload_n hx hb dX3_measureSteps_47 rfl (lv_at hl 3 rfl) ?_
        refine lv_icmp_ge (tgt := 146) hx hb dX3_measureSteps_48 (by decide) (fun c11 => ?_) (fun c11 => ?_)
        · have h := (if_pos c11).symm.trans h
          cases h
          exact endV hx hb hr hlocks hP hS dX3_measureSteps_146
        · have h := (if_neg c11).symm.trans h
          refine lv_aload_n hx hb dX3_measureSteps_51 rfl (lv_at hl 0 rfl) ?_
          refine va_get (D := D) (ci := 3) (v := .ref (adR 3)) (C := RX3) (T := TX3) (N := 5) hx hb hts iw_X3_measureSteps_X3 hown hK hP 0 rfl rfl 2 (by decide) (hts (.fieldLink RX3 18 "FavourRings$Rings" "queue" "[I") (List.mem_of_getElem? (i := 2) rfl)) (fun _ h9 => h9) rfl dX3_measureSteps_52 ?_
          refine lv_iload hx hb dX3_measureSteps_55 (lv_at hl 4 rfl) ?_
          obtain ⟨u12, eu12, h⟩ := bd_in h
          refine kI (va_runSN (As := [.ref (adR 3), .int x4]) (rest := []) ⟨hx, hb, hml, hown, hts⟩ (c_X4_at l D cA cQ (adR 3) 8 (vR 3) x4 u12 eu12 _) ⟨va_cnB 2 hts gX3_measureSteps_X4_at_n28 rfl rfl rfl hN.2.2.2.2.2.2.2.2.1 (hts (.initialized RX4) (List.mem_of_getElem? (i := 4) rfl)) (by decide +kernel) ⟨Nat.le_of_ble_eq_true rfl, Nat.le_of_ble_eq_true rfl⟩, (hts (.static yX4_at) (List.mem_of_getElem? (i := 6) rfl)), trivial⟩ (pS hK hN hP hD [3] rfl rfl) rfl rfl hl.1 rfl (lv_room (Nat.le_of_ble_eq_true rfl)) dX3_measureSteps_57 ⟨Nat.zero_le _, Nat.zero_le _⟩) hP hD hS hA [3] rfl rfl (ws' := (wR cA adR vR)) rfl (fun H locs hP hD hS => ?_)
          refine lv_istore (lv' := [(5, .int u12), (0, .ref (adR 0)), (1, .int p1), (2, .int p2), (3, .int x3), (4, .int x4)]) hx hb dX3_measureSteps_60 hl (by decide) rfl (fun ls hl => ?_)
          refine lv_iload_n hx hb dX3_measureSteps_62 rfl (lv_at hl 3 rfl) ?_
          refine lv_istore (lv' := [(6, .int p2), (5, .int u12), (0, .ref (adR 0)), (1, .int p1), (2, .int p2), (3, .int x3), (4, .int x4)]) hx hb dX3_measureSteps_63 hl (by decide) rfl (fun ls hl => ?_)
          exact B65 FU vR x3 x4 u12 p2 _ _ _ h hP hD hS (lv_sub hl [2, 3, 4, 5, 6, 1, 0] rfl)
  have B24 : ∀ (vR : St) (H : Heap) (locs : List Loc) (ls : Array Slot), X3_measureSteps_b24 p1 p2 vR = some o → va_P D vwCl (wR cA adR vR) H → va_D A (wR cA adR vR) → va_S A s.heap H locs → lv_has ls 7 [(0, .ref (adR 0)), (1, .int p1), (2, .int p2)] → W p l e (headSpec wsX3_measureSteps ({ frames := 1, cells := 0, slots := 0, locals := 23 })).room s m ([.ref (adR 0), .int p1, .int p2] : List Value).toArray below meth c H locs 0 0 (MQ below (QV D (wR cA adR o) A) ([.ref (adR 0), .int p1, .int p2] : List Value).toArray s 0 0 A) (F0 m 24 ls []) := by
    intro vR H locs ls h hP hD hS hl
    unfold X3_measureSteps_b24 at h
    refine lv_aload_n hx hb dX3_measureSteps_24 rfl (lv_at hl 0 rfl) ?_
    refine va_get (D := D) (ci := 3) (v := .ref (adR 3)) (C := RX3) (T := TX3) (N := 5) hx hb hts iw_X3_measureSteps_X3 hown hK hP 0 rfl rfl 2 (by decide) (hts (.fieldLink RX3 18 "FavourRings$Rings" "queue" "[I") (List.mem_of_getElem? (i := 2) rfl)) (fun _ h9 => h9) rfl dX3_measureSteps_25 ?_
    refine lv_iconst (v := (0 : Int32)) hx hb dX3_measureSteps_28 (by decide) ?_
    refine lv_iload_n hx hb dX3_measureSteps_29 rfl (lv_at hl 1 rfl) ?_
    obtain ⟨u13, eu13, h⟩ := bd_in h
    refine kV (va_runSN (As := [.ref (adR 3), .int (0 : Int32), .int p1]) (rest := []) ⟨hx, hb, hml, hown, hts⟩ (c_X4_put l D cA cQ (adR 3) 8 (vR 3) (0 : Int32) p1 u13 eu13 _) ⟨va_cnB 3 hts gX3_measureSteps_X4_put_n84 rfl rfl rfl hN.2.2.2.2.2.2.2.2.2.2.1 (hts (.initialized RX4) (List.mem_of_getElem? (i := 4) rfl)) (by decide +kernel) ⟨Nat.le_of_ble_eq_true rfl, Nat.le_of_ble_eq_true rfl⟩, (hts (.static yX4_put) (List.mem_of_getElem? (i := 3) rfl)), trivial⟩ (pS hK hN hP hD [3] rfl rfl) rfl rfl hl.1 rfl (lv_room (Nat.le_of_ble_eq_true rfl)) dX3_measureSteps_30 ⟨Nat.zero_le _, Nat.zero_le _⟩) hP hD hS hA [3] rfl rfl (ws' := (wR cA adR (setA vR 3 u13))) rfl (fun H locs hP hD hS => ?_)
    refine lv_iconst (v := (1 : Int32)) hx hb dX3_measureSteps_33 (by decide) ?_
    refine lv_istore_n (lv' := [(3, .int (1 : Int32)), (0, .ref (adR 0)), (1, .int p1), (2, .int p2)]) hx hb dX3_measureSteps_34 rfl hl (by decide) rfl (fun ls hl => ?_)
    refine lv_iconst (v := (0 : Int32)) hx hb dX3_measureSteps_35 (by decide) ?_
    refine lv_istore (lv' := [(4, .int (0 : Int32)), (3, .int (1 : Int32)), (0, .ref (adR 0)), (1, .int p1), (2, .int p2)]) hx hb dX3_measureSteps_36 hl (by decide) rfl (fun ls hl => ?_)
    exact B38 FU (setA vR 3 u13) (1 : Int32) (0 : Int32) _ _ _ h hP hD hS (lv_sub hl [2, 3, 4, 1, 0] rfl)
  have B2 : ∀ (fu2 : Nat) (vR : St) (x3 : Int32) (H : Heap) (locs : List Loc) (ls : Array Slot), X3_measureSteps_l2 p1 p2 fu2 vR x3 = some o → va_P D vwCl (wR cA adR vR) H → va_D A (wR cA adR vR) → va_S A s.heap H locs → lv_has ls 7 [(0, .ref (adR 0)), (1, .int p1), (2, .int p2), (3, .int x3)] → W p l e (headSpec wsX3_measureSteps ({ frames := 1, cells := 0, slots := 0, locals := 23 })).room s m ([.ref (adR 0), .int p1, .int p2] : List Value).toArray below meth c H locs 0 0 (MQ below (QV D (wR cA adR o) A) ([.ref (adR 0), .int p1, .int p2] : List Value).toArray s 0 0 A) (F0 m 2 ls []) := by
    intro fu2
    induction fu2 with
    | zero =>
      intro vR x3 H locs ls h hP hD hS hl
      cases h
    | succ fu2 ih2 =>
      intro vR x3 H locs ls h hP hD hS hl
      rw [X3_measureSteps_l2] at h
      refine lv_iload_n hx hb dX3_measureSteps_2 rfl (lv_at hl 3 rfl) ?_
      refine lv_aload_n hx hb dX3_measureSteps_3 rfl (lv_at hl 0 rfl) ?_
      refine va_get (D := D) (ci := 3) (v := .ref (adR 2)) (C := RX3) (T := TX3) (N := 5) hx hb hts iw_X3_measureSteps_X3 hown hK hP 0 rfl rfl 1 (by decide) (hts (.fieldLink RX3 15 "FavourRings$Rings" "steps" "[I") (List.mem_of_getElem? (i := 1) rfl)) (fun _ h9 => h9) rfl dX3_measureSteps_4 ?_
      refine va_alen hx hb hK hP 2 0 rfl rfl (v := (8 : Int32)) rfl dX3_measureSteps_7 ?_
      refine lv_icmp_ge (tgt := 24) hx hb dX3_measureSteps_8 (by decide) (fun c14 => ?_) (fun c14 => ?_)
      · have h := (if_pos c14).symm.trans h
        exact B24 vR _ _ _ h hP hD hS (lv_sub hl [0, 1, 2] rfl)
      · have h := (if_neg c14).symm.trans h
        refine lv_aload_n hx hb dX3_measureSteps_11 rfl (lv_at hl 0 rfl) ?_
        refine va_get (D := D) (ci := 3) (v := .ref (adR 2)) (C := RX3) (T := TX3) (N := 5) hx hb hts iw_X3_measureSteps_X3 hown hK hP 0 rfl rfl 1 (by decide) (hts (.fieldLink RX3 15 "FavourRings$Rings" "steps" "[I") (List.mem_of_getElem? (i := 1) rfl)) (fun _ h9 => h9) rfl dX3_measureSteps_12 ?_
        refine lv_iload_n hx hb dX3_measureSteps_15 rfl (lv_at hl 3 rfl) ?_
        refine lv_iconst (v := (0 : Int32)) hx hb dX3_measureSteps_16 (by decide) ?_
        obtain ⟨g15, eg15, h⟩ := bd_in h
        refine stR hx hb hK hP hD hS 2 0 rfl rfl eg15 (ws' := (wR cA adR (setA vR 2 g15))) rfl dX3_measureSteps_17 (fun H locs hP hD hS => ?_)
        refine lv_iinc (v := (x3 + (1 : Int32))) (lv' := [(3, .int (x3 + (1 : Int32))), (0, .ref (adR 0)), (1, .int p1), (2, .int p2)]) hx hb dX3_measureSteps_18 hl (k := 3) rfl rfl (by decide) rfl (fun ls hl => ?_)
        refine lv_goto (tgt := 2) hx hb dX3_measureSteps_21 (by decide) ?_
        exact ih2 (setA vR 2 g15) (x3 + (1 : Int32)) _ _ _ h hP hD hS (lv_sub hl [1, 2, 3, 0] rfl)
  have h := hf
  unfold X3_measureSteps at h
  refine lv_iconst (v := (0 : Int32)) hx hb dX3_measureSteps_0 (by decide) ?_
  refine lv_istore_n (lv' := [(3, .int (0 : Int32)), (0, .ref (adR 0)), (1, .int p1), (2, .int p2)]) hx hb dX3_measureSteps_1 rfl hl (by decide) rfl (fun ls hl => ?_)
  exact B2 FU vR (0 : Int32) _ _ _ h hP hD hS (lv_sub hl [1, 2, 3, 0] rfl)
theorem iw_X3_shortestFrom_X3 : ∀ w ∈ wsX30, w ∈ wsX3_shortestFrom := fun _ h => List.mem_cons_of_mem _ (List.mem_append_right _ (h))
set_option maxHeartbeats 4000000 in
set_option maxRecDepth 100000 in
theorem c_X3_shortestFrom (l : Launch) (D : va_G) (cA cQ : ClassId) (adR : Nat → Nat) (vR : St) (p1 : Int32) (o : Int32) (hf : X3_shortestFrom vR p1 = some o) : Cti l yX3_shortestFrom wsX3_shortestFrom ({ frames := 1, cells := 0, slots := 0, locals := 23 }) D (TY cA cQ) [.ref (adR 0), .int p1] (wR cA adR vR) (wR cA adR vR) o := by
  refine Wk.i (cc := cX3_shortestFrom) (maxL := 6) (ret := (some .int)) (by decide) rfl (Nat.le_of_ble_eq_true rfl) ?_
  intro p e s m below meth c A ls hx hb hr hlocks hml hown hts hK hN hP hD hA hl
  have hown : s.vm.findClass RX3 = some m.cls := hown
  have hS : va_S A s.heap s.heap [] := va_S.rf
  have hl : lv_has ls 6 [(0, .ref (adR 0)), (1, .int p1)] := hl
  have B6 : ∀ (fu6 : Nat) (x2 : Int32) (x3 : Int32) (H : Heap) (locs : List Loc) (ls : Array Slot), X3_shortestFrom_l6 vR p1 fu6 x2 x3 = some o → va_P D vwCl (wR cA adR vR) H → va_D A (wR cA adR vR) → va_S A s.heap H locs → lv_has ls 6 [(0, .ref (adR 0)), (1, .int p1), (2, .int x2), (3, .int x3)] → W p l e (headSpec wsX3_shortestFrom ({ frames := 1, cells := 0, slots := 0, locals := 23 })).room s m ([.ref (adR 0), .int p1] : List Value).toArray below meth c H locs 0 0 (MQ below (QI D (wR cA adR vR) o A) ([.ref (adR 0), .int p1] : List Value).toArray s 0 0 A) (F0 m 6 ls []) := by
    intro fu6
    induction fu6 with
    | zero =>
      intro x2 x3 H locs ls h hP hD hS hl
      cases h
    | succ fu6 ih6 =>
      have B44 : ∀ (x2 : Int32) (x3 : Int32) (x4 : Int32) (t0 : Int32) (H : Heap) (locs : List Loc) (ls : Array Slot), X3_shortestFrom_b44 vR p1 (X3_shortestFrom_l6 vR p1 fu6) x2 x3 x4 t0 = some o → va_P D vwCl (wR cA adR vR) H → va_D A (wR cA adR vR) → va_S A s.heap H locs → lv_has ls 6 [(0, .ref (adR 0)), (1, .int p1), (2, .int x2), (3, .int x3), (4, .int x4)] → W p l e (headSpec wsX3_shortestFrom ({ frames := 1, cells := 0, slots := 0, locals := 23 })).room s m ([.ref (adR 0), .int p1] : List Value).toArray below meth c H locs 0 0 (MQ below (QI D (wR cA adR vR) o A) ([.ref (adR 0), .int p1] : List Value).toArray s 0 0 A) (F0 m 44 ls [.int t0]) := by
        intro x2 x3 x4 t0 H locs ls h hP hD hS hl
        unfold X3_shortestFrom_b44 at h
        refine lv_istore (lv' := [(5, .int t0), (0, .ref (adR 0)), (1, .int p1), (2, .int x2), (3, .int x3), (4, .int x4)]) hx hb dX3_shortestFrom_44 hl (by decide) rfl (fun ls hl => ?_)
        refine lv_iload hx hb dX3_shortestFrom_46 (lv_at hl 0 rfl) ?_
        refine lv_if_eq (tgt := 64) hx hb dX3_shortestFrom_48 (by decide) (fun c1 => ?_) (fun c1 => ?_)
        · have h := (if_pos c1).symm.trans h
          refine lv_iinc (v := (x3 + (1 : Int32))) (lv' := [(3, .int (x3 + (1 : Int32))), (5, .int t0), (0, .ref (adR 0)), (1, .int p1), (2, .int x2), (4, .int x4)]) hx hb dX3_shortestFrom_64 hl (k := 4) rfl rfl (by decide) rfl (fun ls hl => ?_)
          refine lv_goto (tgt := 6) hx hb dX3_shortestFrom_67 (by decide) ?_
          exact ih6 x2 (x3 + (1 : Int32)) _ _ _ h hP hD hS (lv_sub hl [2, 3, 4, 0] rfl)
        · have h := (if_neg c1).symm.trans h
          refine lv_iload_n hx hb dX3_shortestFrom_51 rfl (lv_at hl 3 rfl) ?_
          refine lv_if_eq (tgt := 61) hx hb dX3_shortestFrom_52 (by decide) (fun c2 => ?_) (fun c2 => ?_)
          · have h := (if_pos c2).symm.trans h
            refine lv_iload hx hb dX3_shortestFrom_61 (lv_at hl 5 rfl) ?_
            refine lv_istore_n (lv' := [(2, .int x4), (5, .int t0), (0, .ref (adR 0)), (1, .int p1), (3, .int x3), (4, .int x4)]) hx hb dX3_shortestFrom_63 rfl hl (by decide) rfl (fun ls hl => ?_)
            refine lv_iinc (v := (x3 + (1 : Int32))) (lv' := [(3, .int (x3 + (1 : Int32))), (2, .int x4), (5, .int t0), (0, .ref (adR 0)), (1, .int p1), (4, .int x4)]) hx hb dX3_shortestFrom_64 hl (k := 4) rfl rfl (by decide) rfl (fun ls hl => ?_)
            refine lv_goto (tgt := 6) hx hb dX3_shortestFrom_67 (by decide) ?_
            exact ih6 x4 (x3 + (1 : Int32)) _ _ _ h hP hD hS (lv_sub hl [3, 4, 1, 0] rfl)
          · have h := (if_neg c2).symm.trans h
            refine lv_iload hx hb dX3_shortestFrom_55 (lv_at hl 5 rfl) ?_
            refine lv_iload_n hx hb dX3_shortestFrom_57 rfl (lv_at hl 3 rfl) ?_
            refine lv_icmp_ge (tgt := 64) hx hb dX3_shortestFrom_58 (by decide) (fun c3 => ?_) (fun c3 => ?_)
            · have h := (if_pos c3).symm.trans h
              refine lv_iinc (v := (x3 + (1 : Int32))) (lv' := [(3, .int (x3 + (1 : Int32))), (5, .int t0), (0, .ref (adR 0)), (1, .int p1), (2, .int x2), (4, .int x4)]) hx hb dX3_shortestFrom_64 hl (k := 4) rfl rfl (by decide) rfl (fun ls hl => ?_)
              refine lv_goto (tgt := 6) hx hb dX3_shortestFrom_67 (by decide) ?_
              exact ih6 x2 (x3 + (1 : Int32)) _ _ _ h hP hD hS (lv_sub hl [2, 3, 4, 0] rfl)
            · have h := (if_neg c3).symm.trans h
              refine lv_iload hx hb dX3_shortestFrom_61 (lv_at hl 5 rfl) ?_
              refine lv_istore_n (lv' := [(2, .int x4), (5, .int t0), (0, .ref (adR 0)), (1, .int p1), (3, .int x3), (4, .int x4)]) hx hb dX3_shortestFrom_63 rfl hl (by decide) rfl (fun ls hl => ?_)
              refine lv_iinc (v := (x3 + (1 : Int32))) (lv' := [(3, .int (x3 + (1 : Int32))), (2, .int x4), (5, .int t0), (0, .ref (adR 0)), (1, .int p1), (4, .int x4)]) hx hb dX3_shortestFrom_64 hl (k := 4) rfl rfl (by decide) rfl (fun ls hl => ?_)
              refine lv_goto (tgt := 6) hx hb dX3_shortestFrom_67 (by decide) ?_
              exact ih6 x4 (x3 + (1 : Int32)) _ _ _ h hP hD hS (lv_sub hl [3, 4, 1, 0] rfl)
      have B43 : ∀ (x2 : Int32) (x3 : Int32) (x4 : Int32) (H : Heap) (locs : List Loc) (ls : Array Slot), X3_shortestFrom_b43 vR p1 (X3_shortestFrom_l6 vR p1 fu6) x2 x3 x4 = some o → va_P D vwCl (wR cA adR vR) H → va_D A (wR cA adR vR) → va_S A s.heap H locs → lv_has ls 6 [(0, .ref (adR 0)), (1, .int p1), (2, .int x2), (3, .int x3), (4, .int x4)] → W p l e (headSpec wsX3_shortestFrom ({ frames := 1, cells := 0, slots := 0, locals := 23 })).room s m ([.ref (adR 0), .int p1] : List Value).toArray below meth c H locs 0 0 (MQ below (QI D (wR cA adR vR) o A) ([.ref (adR 0), .int p1] : List Value).toArray s 0 0 A) (F0 m 43 ls []) := by
        intro x2 x3 x4 H locs ls h hP hD hS hl
        unfold X3_shortestFrom_b43 at h
        refine lv_iconst (v := (0 : Int32)) hx hb dX3_shortestFrom_43 (by decide) ?_
        exact B44 x2 x3 x4 (0 : Int32) _ _ _ h hP hD hS (lv_sub hl [0, 1, 2, 3, 4] rfl)
      intro x2 x3 H locs ls h hP hD hS hl
      rw [X3_shortestFrom_l6] at h
      refine lv_iload_n hx hb dX3_shortestFrom_6 rfl (lv_at hl 3 rfl) ?_
      refine lv_bipush (v := (8 : Int32)) hx hb dX3_shortestFrom_7 (by decide) ?_
      refine lv_icmp_ge (tgt := 70) hx hb dX3_shortestFrom_9 (by decide) (fun c4 => ?_) (fun c4 => ?_)
      · have h := (if_pos c4).symm.trans h
        refine lv_iload_n hx hb dX3_shortestFrom_70 rfl (lv_at hl 2 rfl) ?_
        cases h
        exact endI hx hb hr hlocks hP hS rfl dX3_shortestFrom_71
      · have h := (if_neg c4).symm.trans h
        refine lv_aload_n hx hb dX3_shortestFrom_12 rfl (lv_at hl 0 rfl) ?_
        refine va_get (D := D) (ci := 3) (v := .ref (adR 2)) (C := RX3) (T := TX3) (N := 5) hx hb hts iw_X3_shortestFrom_X3 hown hK hP 0 rfl rfl 1 (by decide) (hts (.fieldLink RX3 15 "FavourRings$Rings" "steps" "[I") (List.mem_of_getElem? (i := 1) rfl)) (fun _ h9 => h9) rfl dX3_shortestFrom_13 ?_
        refine lv_iload_n hx hb dX3_shortestFrom_16 rfl (lv_at hl 3 rfl) ?_
        obtain ⟨u5, eu5, h⟩ := bd_in h
        refine kI (va_runSN (As := [.ref (adR 2), .int x3]) (rest := []) ⟨hx, hb, hml, hown, hts⟩ (c_X4_at l D cA cQ (adR 2) 8 (vR 2) x3 u5 eu5 _) ⟨va_cnB 2 hts gX3_shortestFrom_X4_at_n28 rfl rfl rfl hN.2.2.2.2.2.2.2.2.1 (hts (.initialized RX4) (List.mem_of_getElem? (i := 3) rfl)) (by decide +kernel) ⟨Nat.le_of_ble_eq_true rfl, Nat.le_of_ble_eq_true rfl⟩, (hts (.static yX4_at) (List.mem_of_getElem? (i := 2) rfl)), trivial⟩ (pS hK hN hP hD [2] rfl rfl) rfl rfl hl.1 rfl (lv_room (Nat.le_of_ble_eq_true rfl)) dX3_shortestFrom_17 ⟨Nat.zero_le _, Nat.zero_le _⟩) hP hD hS hA [2] rfl rfl (ws' := (wR cA adR vR)) rfl (fun H locs hP hD hS => ?_)
        refine lv_iconst (v := (1 : Int32)) hx hb dX3_shortestFrom_20 (by decide) ?_
        refine lv_iadd hx hb dX3_shortestFrom_21 ?_
        refine lv_istore (lv' := [(4, .int (u5 + (1 : Int32))), (0, .ref (adR 0)), (1, .int p1), (2, .int x2), (3, .int x3)]) hx hb dX3_shortestFrom_22 hl (by decide) rfl (fun ls hl => ?_)
        refine lv_iload hx hb dX3_shortestFrom_24 (lv_at hl 0 rfl) ?_
        refine lv_iconst (v := (1 : Int32)) hx hb dX3_shortestFrom_26 (by decide) ?_
        refine lv_icmp_le (tgt := 43) hx hb dX3_shortestFrom_27 (by decide) (fun c6 => ?_) (fun c6 => ?_)
        · have h := (if_pos c6).symm.trans h
          exact B43 x2 x3 (u5 + (1 : Int32)) _ _ _ h hP hD hS (lv_sub hl [1, 2, 3, 4, 0] rfl)
        · have h := (if_neg c6).symm.trans h
          refine lv_aload_n hx hb dX3_shortestFrom_30 rfl (lv_at hl 1 rfl) ?_
          refine lv_iload_n hx hb dX3_shortestFrom_31 rfl (lv_at hl 2 rfl) ?_
          refine lv_iload_n hx hb dX3_shortestFrom_32 rfl (lv_at hl 4 rfl) ?_
          obtain ⟨u7, eu7, h⟩ := bd_in h
          refine kI (va_runV (As := [.int p1, .int x3]) (rest := []) ⟨hx, hb, hml, hown, hts⟩ (c_X3_owedBetween l D cA cQ adR vR p1 x3 u7 eu7 _) (cwV 2 hts gX3_shortestFrom_X3_owedBetween rfl rfl rfl (by decide +kernel) ⟨Nat.le_of_ble_eq_true rfl, Nat.le_of_ble_eq_true rfl⟩) (pV (ci := 3) (q := (RX3, TX3, 5)) hK hN hP hD [0, 1, 2, 3, 4] rfl rfl rfl rfl) rfl rfl hl.1 rfl (lv_room (Nat.le_of_ble_eq_true rfl)) dX3_shortestFrom_33 ⟨Nat.zero_le _, Nat.zero_le _⟩) hP hD hS hA [0, 1, 2, 3, 4] rfl rfl (ws' := (wR cA adR vR)) rfl (fun H locs hP hD hS => ?_)
          refine lv_if_le (tgt := 43) hx hb dX3_shortestFrom_36 (by decide) (fun c8 => ?_) (fun c8 => ?_)
          · have h := (if_pos c8).symm.trans h
            exact B43 x2 x3 (u5 + (1 : Int32)) _ _ _ h hP hD hS (lv_sub hl [1, 2, 3, 4, 0] rfl)
          · have h := (if_neg c8).symm.trans h
            refine lv_iconst (v := (1 : Int32)) hx hb dX3_shortestFrom_39 (by decide) ?_
            refine lv_goto (tgt := 44) hx hb dX3_shortestFrom_40 (by decide) ?_
            exact B44 x2 x3 (u5 + (1 : Int32)) (1 : Int32) _ _ _ h hP hD hS (lv_sub hl [1, 2, 3, 4, 0] rfl)
  have h := hf
  unfold X3_shortestFrom at h
  refine lv_iconst (v := (0 : Int32)) hx hb dX3_shortestFrom_0 (by decide) ?_
  refine lv_istore_n (lv' := [(2, .int (0 : Int32)), (0, .ref (adR 0)), (1, .int p1)]) hx hb dX3_shortestFrom_1 rfl hl (by decide) rfl (fun ls hl => ?_)
  refine lv_iload_n hx hb dX3_shortestFrom_2 rfl (lv_at hl 2 rfl) ?_
  refine lv_iconst (v := (1 : Int32)) hx hb dX3_shortestFrom_3 (by decide) ?_
  refine lv_iadd hx hb dX3_shortestFrom_4 ?_
  refine lv_istore_n (lv' := [(3, .int (p1 + (1 : Int32))), (2, .int (0 : Int32)), (0, .ref (adR 0)), (1, .int p1)]) hx hb dX3_shortestFrom_5 rfl hl (by decide) rfl (fun ls hl => ?_)
  exact B6 FU (0 : Int32) (p1 + (1 : Int32)) _ _ _ h hP hD hS (lv_sub hl [2, 3, 1, 0] rfl)
theorem iw_X3_nextPupil_X3 : ∀ w ∈ wsX30, w ∈ wsX3_nextPupil := fun _ h => List.mem_cons_of_mem _ (List.mem_append_right _ (h))
set_option maxHeartbeats 4000000 in
set_option maxRecDepth 100000 in
theorem c_X3_nextPupil (l : Launch) (D : va_G) (cA cQ : ClassId) (adR : Nat → Nat) (vR : St) (p1 : Int32) (o : Int32) (hf : X3_nextPupil vR p1 = some o) : Cti l yX3_nextPupil wsX3_nextPupil ({ frames := 1, cells := 0, slots := 0, locals := 21 }) D (TY cA cQ) [.ref (adR 0), .int p1] (wR cA adR vR) (wR cA adR vR) o := by
  refine Wk.i (cc := cX3_nextPupil) (maxL := 2) (ret := (some .int)) (by decide) rfl (Nat.le_of_ble_eq_true rfl) ?_
  intro p e s m below meth c A ls hx hb hr hlocks hml hown hts hK hN hP hD hA hl
  have hown : s.vm.findClass RX3 = some m.cls := hown
  have hS : va_S A s.heap s.heap [] := va_S.rf
  have hl : lv_has ls 2 [(0, .ref (adR 0)), (1, .int p1)] := hl
  have h := hf
  unfold X3_nextPupil at h
  refine lv_aload_n hx hb dX3_nextPupil_0 rfl (lv_at hl 0 rfl) ?_
  refine va_get (D := D) (ci := 3) (v := .ref (adR 4)) (C := RX3) (T := TX3) (N := 5) hx hb hts iw_X3_nextPupil_X3 hown hK hP 0 rfl rfl 3 (by decide) (hts (.fieldLink RX3 21 "FavourRings$Rings" "members" "[I") (List.mem_of_getElem? (i := 1) rfl)) (fun _ h9 => h9) rfl dX3_nextPupil_1 ?_
  refine lv_iload_n hx hb dX3_nextPupil_4 rfl (lv_at hl 1 rfl) ?_
  obtain ⟨u1, eu1, h⟩ := bd_in h
  refine kI (va_runSN (As := [.ref (adR 4), .int p1]) (rest := []) ⟨hx, hb, hml, hown, hts⟩ (c_X4_at l D cA cQ (adR 4) 8 (vR 4) p1 u1 eu1 _) ⟨va_cnB 2 hts gX3_nextPupil_X4_at_n28 rfl rfl rfl hN.2.2.2.2.2.2.2.2.1 (hts (.initialized RX4) (List.mem_of_getElem? (i := 3) rfl)) (by decide +kernel) ⟨Nat.le_of_ble_eq_true rfl, Nat.le_of_ble_eq_true rfl⟩, (hts (.static yX4_at) (List.mem_of_getElem? (i := 2) rfl)), trivial⟩ (pS hK hN hP hD [4] rfl rfl) rfl rfl hl.1 rfl (lv_room (Nat.le_of_ble_eq_true rfl)) dX3_nextPupil_5 ⟨Nat.zero_le _, Nat.zero_le _⟩) hP hD hS hA [4] rfl rfl (ws' := (wR cA adR vR)) rfl (fun H locs hP hD hS => ?_)
  cases h
  exact endI hx hb hr hlocks hP hS rfl dX3_nextPupil_8
theorem iw_X3_lowestBehind_X3 : ∀ w ∈ wsX30, w ∈ wsX3_lowestBehind := fun _ h => List.mem_cons_of_mem _ (List.mem_append_right _ (h))
set_option maxHeartbeats 4000000 in
set_option maxRecDepth 100000 in
theorem c_X3_lowestBehind (l : Launch) (D : va_G) (cA cQ : ClassId) (adR : Nat → Nat) (vR : St) (p1 : Int32) (p2 : Int32) (o : Int32) (hf : X3_lowestBehind vR p1 p2 = some o) : Cti l yX3_lowestBehind wsX3_lowestBehind ({ frames := 1, cells := 0, slots := 0, locals := 23 }) D (TY cA cQ) [.ref (adR 0), .int p1, .int p2] (wR cA adR vR) (wR cA adR vR) o := by
  refine Wk.i (cc := cX3_lowestBehind) (maxL := 4) (ret := (some .int)) (by decide) rfl (Nat.le_of_ble_eq_true rfl) ?_
  intro p e s m below meth c A ls hx hb hr hlocks hml hown hts hK hN hP hD hA hl
  have hown : s.vm.findClass RX3 = some m.cls := hown
  have hS : va_S A s.heap s.heap [] := va_S.rf
  have hl : lv_has ls 4 [(0, .ref (adR 0)), (1, .int p1), (2, .int p2)] := hl
  have B2 : ∀ (fu2 : Nat) (x3 : Int32) (H : Heap) (locs : List Loc) (ls : Array Slot), X3_lowestBehind_l2 vR p1 p2 fu2 x3 = some o → va_P D vwCl (wR cA adR vR) H → va_D A (wR cA adR vR) → va_S A s.heap H locs → lv_has ls 4 [(0, .ref (adR 0)), (1, .int p1), (2, .int p2), (3, .int x3)] → W p l e (headSpec wsX3_lowestBehind ({ frames := 1, cells := 0, slots := 0, locals := 23 })).room s m ([.ref (adR 0), .int p1, .int p2] : List Value).toArray below meth c H locs 0 0 (MQ below (QI D (wR cA adR vR) o A) ([.ref (adR 0), .int p1, .int p2] : List Value).toArray s 0 0 A) (F0 m 2 ls []) := by
    intro fu2
    induction fu2 with
    | zero =>
      intro x3 H locs ls h hP hD hS hl
      cases h
    | succ fu2 ih2 =>
      intro x3 H locs ls h hP hD hS hl
      rw [X3_lowestBehind_l2] at h
      refine lv_iload_n hx hb dX3_lowestBehind_2 rfl (lv_at hl 3 rfl) ?_
      refine lv_bipush (v := (8 : Int32)) hx hb dX3_lowestBehind_3 (by decide) ?_
      refine lv_icmp_ge (tgt := 37) hx hb dX3_lowestBehind_5 (by decide) (fun c1 => ?_) (fun c1 => ?_)
      · have h := (if_pos c1).symm.trans h
        refine lv_iconst (v := (-1 : Int32)) hx hb dX3_lowestBehind_37 (by decide) ?_
        cases h
        exact endI hx hb hr hlocks hP hS rfl dX3_lowestBehind_38
      · have h := (if_neg c1).symm.trans h
        refine lv_aload_n hx hb dX3_lowestBehind_8 rfl (lv_at hl 0 rfl) ?_
        refine va_get (D := D) (ci := 3) (v := .ref (adR 2)) (C := RX3) (T := TX3) (N := 5) hx hb hts iw_X3_lowestBehind_X3 hown hK hP 0 rfl rfl 1 (by decide) (hts (.fieldLink RX3 15 "FavourRings$Rings" "steps" "[I") (List.mem_of_getElem? (i := 1) rfl)) (fun _ h9 => h9) rfl dX3_lowestBehind_9 ?_
        refine lv_iload_n hx hb dX3_lowestBehind_12 rfl (lv_at hl 3 rfl) ?_
        obtain ⟨u2, eu2, h⟩ := bd_in h
        refine kI (va_runSN (As := [.ref (adR 2), .int x3]) (rest := []) ⟨hx, hb, hml, hown, hts⟩ (c_X4_at l D cA cQ (adR 2) 8 (vR 2) x3 u2 eu2 _) ⟨va_cnB 2 hts gX3_lowestBehind_X4_at_n28 rfl rfl rfl hN.2.2.2.2.2.2.2.2.1 (hts (.initialized RX4) (List.mem_of_getElem? (i := 3) rfl)) (by decide +kernel) ⟨Nat.le_of_ble_eq_true rfl, Nat.le_of_ble_eq_true rfl⟩, (hts (.static yX4_at) (List.mem_of_getElem? (i := 2) rfl)), trivial⟩ (pS hK hN hP hD [2] rfl rfl) rfl rfl hl.1 rfl (lv_room (Nat.le_of_ble_eq_true rfl)) dX3_lowestBehind_13 ⟨Nat.zero_le _, Nat.zero_le _⟩) hP hD hS hA [2] rfl rfl (ws' := (wR cA adR vR)) rfl (fun H locs hP hD hS => ?_)
        refine lv_iload_n hx hb dX3_lowestBehind_16 rfl (lv_at hl 2 rfl) ?_
        refine lv_icmp_ne (tgt := 31) hx hb dX3_lowestBehind_17 (by decide) (fun c3 => ?_) (fun c3 => ?_)
        · have h := (if_neg c3).symm.trans h
          refine lv_iinc (v := (x3 + (1 : Int32))) (lv' := [(3, .int (x3 + (1 : Int32))), (0, .ref (adR 0)), (1, .int p1), (2, .int p2)]) hx hb dX3_lowestBehind_31 hl (k := 3) rfl rfl (by decide) rfl (fun ls hl => ?_)
          refine lv_goto (tgt := 2) hx hb dX3_lowestBehind_34 (by decide) ?_
          exact ih2 (x3 + (1 : Int32)) _ _ _ h hP hD hS (lv_sub hl [1, 2, 3, 0] rfl)
        · have h := (if_pos c3).symm.trans h
          refine lv_aload_n hx hb dX3_lowestBehind_20 rfl (lv_at hl 0 rfl) ?_
          refine lv_iload_n hx hb dX3_lowestBehind_21 rfl (lv_at hl 1 rfl) ?_
          refine lv_iload_n hx hb dX3_lowestBehind_22 rfl (lv_at hl 3 rfl) ?_
          obtain ⟨u4, eu4, h⟩ := bd_in h
          refine kI (va_runV (As := [.int p1, .int x3]) (rest := []) ⟨hx, hb, hml, hown, hts⟩ (c_X3_owedBetween l D cA cQ adR vR p1 x3 u4 eu4 _) (cwV 2 hts gX3_lowestBehind_X3_owedBetween rfl rfl rfl (by decide +kernel) ⟨Nat.le_of_ble_eq_true rfl, Nat.le_of_ble_eq_true rfl⟩) (pV (ci := 3) (q := (RX3, TX3, 5)) hK hN hP hD [0, 1, 2, 3, 4] rfl rfl rfl rfl) rfl rfl hl.1 rfl (lv_room (Nat.le_of_ble_eq_true rfl)) dX3_lowestBehind_23 ⟨Nat.zero_le _, Nat.zero_le _⟩) hP hD hS hA [0, 1, 2, 3, 4] rfl rfl (ws' := (wR cA adR vR)) rfl (fun H locs hP hD hS => ?_)
          refine lv_if_le (tgt := 31) hx hb dX3_lowestBehind_26 (by decide) (fun c5 => ?_) (fun c5 => ?_)
          · have h := (if_pos c5).symm.trans h
            refine lv_iinc (v := (x3 + (1 : Int32))) (lv' := [(3, .int (x3 + (1 : Int32))), (0, .ref (adR 0)), (1, .int p1), (2, .int p2)]) hx hb dX3_lowestBehind_31 hl (k := 3) rfl rfl (by decide) rfl (fun ls hl => ?_)
            refine lv_goto (tgt := 2) hx hb dX3_lowestBehind_34 (by decide) ?_
            exact ih2 (x3 + (1 : Int32)) _ _ _ h hP hD hS (lv_sub hl [1, 2, 3, 0] rfl)
          · have h := (if_neg c5).symm.trans h
            refine lv_iload_n hx hb dX3_lowestBehind_29 rfl (lv_at hl 3 rfl) ?_
            cases h
            exact endI hx hb hr hlocks hP hS rfl dX3_lowestBehind_30
  have h := hf
  unfold X3_lowestBehind at h
  refine lv_iconst (v := (0 : Int32)) hx hb dX3_lowestBehind_0 (by decide) ?_
  refine lv_istore_n (lv' := [(3, .int (0 : Int32)), (0, .ref (adR 0)), (1, .int p1), (2, .int p2)]) hx hb dX3_lowestBehind_1 rfl hl (by decide) rfl (fun ls hl => ?_)
  exact B2 FU (0 : Int32) _ _ _ h hP hD hS (lv_sub hl [1, 2, 3, 0] rfl)
theorem iw_X3_findNext_X3 : ∀ w ∈ wsX30, w ∈ wsX3_findNext := fun _ h => List.mem_cons_of_mem _ (List.mem_append_left _ (List.mem_append_right _ (h)))
set_option maxHeartbeats 4000000 in
set_option maxRecDepth 100000 in
theorem c_X3_findNext (l : Launch) (D : va_G) (cA cQ : ClassId) (adR : Nat → Nat) (adB : Nat → Nat) (vR : St) (vB : St) (p2 : Int32) (o : Int32 × St) (hf : X3_findNext vR vB p2 = some o) : Cti l yX3_findNext wsX3_findNext ({ frames := 2, cells := 0, slots := 0, locals := 49 }) D (TY cA cQ) [.ref (adR 0), .ref (adB 0), .int p2] (wR cA adR vR ++ (wB cA adB vB)) (wR cA adR o.2 ++ (wB cA adB vB)) o.1 := by
  refine Wk.i (cc := cX3_findNext) (maxL := 6) (ret := (some .boolean)) (by decide) rfl (Nat.le_of_ble_eq_true rfl) ?_
  intro p e s m below meth c A ls hx hb hr hlocks hml hown hts hK hN hP hD hA hl
  have hown : s.vm.findClass RX3 = some m.cls := hown
  have hS : va_S A s.heap s.heap [] := va_S.rf
  have hl : lv_has ls 6 [(0, .ref (adR 0)), (1, .ref (adB 0)), (2, .int p2)] := hl
  have B96 : ∀ (fu96 : Nat) (vR : St) (x4 : Int32) (H : Heap) (locs : List Loc) (ls : Array Slot), X3_findNext_l96 vB p2 fu96 vR x4 = some o → va_P D vwCl (wR cA adR vR ++ (wB cA adB vB)) H → va_D A (wR cA adR vR ++ (wB cA adB vB)) → va_S A s.heap H locs → lv_has ls 6 [(0, .ref (adR 0)), (4, .int x4)] → W p l e (headSpec wsX3_findNext ({ frames := 2, cells := 0, slots := 0, locals := 49 })).room s m ([.ref (adR 0), .ref (adB 0), .int p2] : List Value).toArray below meth c H locs 0 0 (MQ below (QI D (wR cA adR o.2 ++ (wB cA adB vB)) o.1 A) ([.ref (adR 0), .ref (adB 0), .int p2] : List Value).toArray s 0 0 A) (F0 m 96 ls []) := by
    intro fu96
    induction fu96 with
    | zero =>
      intro vR x4 H locs ls h hP hD hS hl
      cases h
    | succ fu96 ih96 =>
      intro vR x4 H locs ls h hP hD hS hl
      rw [X3_findNext_l96] at h
      refine lv_iload hx hb dX3_findNext_96 (lv_at hl 1 rfl) ?_
      refine lv_aload_n hx hb dX3_findNext_98 rfl (lv_at hl 0 rfl) ?_
      refine va_get (D := D) (ci := 3) (v := .int (vR 99 4)) (C := RX3) (T := TX3) (N := 5) hx hb hts iw_X3_findNext_X3 hown hK hP 0 rfl rfl 4 (by decide) (hts (.fieldLink RX3 24 "FavourRings$Rings" "length" "I") (List.mem_of_getElem? (i := 1) rfl)) (fun _ h9 => h9) rfl dX3_findNext_99 ?_
      refine lv_icmp_ge (tgt := 139) hx hb dX3_findNext_102 (by decide) (fun c1 => ?_) (fun c1 => ?_)
      · have h := (if_pos c1).symm.trans h
        refine lv_iconst (v := (1 : Int32)) hx hb dX3_findNext_139 (by decide) ?_
        cases h
        exact endZ hx hb hr hlocks hP hS ⟨rfl, rfl⟩ dX3_findNext_140
      · have h := (if_neg c1).symm.trans h
        refine lv_aload_n hx hb dX3_findNext_105 rfl (lv_at hl 0 rfl) ?_
        refine va_get (D := D) (ci := 3) (v := .ref (adR 4)) (C := RX3) (T := TX3) (N := 5) hx hb hts iw_X3_findNext_X3 hown hK hP 0 rfl rfl 3 (by decide) (hts (.fieldLink RX3 21 "FavourRings$Rings" "members" "[I") (List.mem_of_getElem? (i := 2) rfl)) (fun _ h9 => h9) rfl dX3_findNext_106 ?_
        refine lv_iload hx hb dX3_findNext_109 (lv_at hl 1 rfl) ?_
        refine lv_aload_n hx hb dX3_findNext_111 rfl (lv_at hl 0 rfl) ?_
        refine lv_aload_n hx hb dX3_findNext_112 rfl (lv_at hl 0 rfl) ?_
        refine lv_iload hx hb dX3_findNext_113 (lv_at hl 1 rfl) ?_
        refine lv_iconst (v := (1 : Int32)) hx hb dX3_findNext_115 (by decide) ?_
        refine lv_isub hx hb dX3_findNext_116 ?_
        obtain ⟨u2, eu2, h⟩ := bd_in h
        refine kI (va_runV (As := [.int (x4 - (1 : Int32))]) (rest := [.ref (adR 0), .int x4, .ref (adR 4)]) ⟨hx, hb, hml, hown, hts⟩ (c_X3_nextPupil l D cA cQ adR vR (x4 - (1 : Int32)) u2 eu2 _) (cwV 1 hts gX3_findNext_X3_nextPupil rfl rfl rfl (by decide +kernel) ⟨Nat.le_of_ble_eq_true rfl, Nat.le_of_ble_eq_true rfl⟩) (pV (ci := 3) (q := (RX3, TX3, 5)) hK hN hP hD [0, 1, 2, 3, 4] rfl rfl rfl rfl) rfl rfl hl.1 rfl (lv_room (Nat.le_of_ble_eq_true rfl)) dX3_findNext_117 ⟨Nat.zero_le _, Nat.zero_le _⟩) hP hD hS hA [0, 1, 2, 3, 4] rfl rfl (ws' := (wR cA adR vR ++ (wB cA adB vB))) rfl (fun H locs hP hD hS => ?_)
        refine lv_aload_n hx hb dX3_findNext_120 rfl (lv_at hl 0 rfl) ?_
        refine va_get (D := D) (ci := 3) (v := .int (vR 99 4)) (C := RX3) (T := TX3) (N := 5) hx hb hts iw_X3_findNext_X3 hown hK hP 0 rfl rfl 4 (by decide) (hts (.fieldLink RX3 24 "FavourRings$Rings" "length" "I") (List.mem_of_getElem? (i := 1) rfl)) (fun _ h9 => h9) rfl dX3_findNext_121 ?_
        refine lv_iload hx hb dX3_findNext_124 (lv_at hl 1 rfl) ?_
        refine lv_isub hx hb dX3_findNext_126 ?_
        obtain ⟨u3, eu3, h⟩ := bd_in h
        refine kI (va_runV (As := [.int u2, .int ((vR 99 4) - x4)]) (rest := [.int x4, .ref (adR 4)]) ⟨hx, hb, hml, hown, hts⟩ (c_X3_lowestBehind l D cA cQ adR vR u2 ((vR 99 4) - x4) u3 eu3 _) (cwV 2 hts gX3_findNext_X3_lowestBehind rfl rfl rfl (by decide +kernel) ⟨Nat.le_of_ble_eq_true rfl, Nat.le_of_ble_eq_true rfl⟩) (pV (ci := 3) (q := (RX3, TX3, 5)) hK hN hP hD [0, 1, 2, 3, 4] rfl rfl rfl rfl) rfl rfl hl.1 rfl (lv_room (Nat.le_of_ble_eq_true rfl)) dX3_findNext_127 ⟨Nat.zero_le _, Nat.zero_le _⟩) hP hD hS hA [0, 1, 2, 3, 4] rfl rfl (ws' := (wR cA adR vR ++ (wB cA adB vB))) rfl (fun H locs hP hD hS => ?_)
        obtain ⟨u4, eu4, h⟩ := bd_in h
        refine kV (va_runSN (As := [.ref (adR 4), .int x4, .int u3]) (rest := []) ⟨hx, hb, hml, hown, hts⟩ (c_X4_put l D cA cQ (adR 4) 8 (vR 4) x4 u3 u4 eu4 _) ⟨va_cnB 3 hts gX3_findNext_X4_put_n84 rfl rfl rfl hN.2.2.2.2.2.2.2.2.2.2.1 (hts (.initialized RX4) (List.mem_of_getElem? (i := 23) rfl)) (by decide +kernel) ⟨Nat.le_of_ble_eq_true rfl, Nat.le_of_ble_eq_true rfl⟩, (hts (.static yX4_put) (List.mem_of_getElem? (i := 33) rfl)), trivial⟩ (pS hK hN hP hD [4] rfl rfl) rfl rfl hl.1 rfl (lv_room (Nat.le_of_ble_eq_true rfl)) dX3_findNext_130 ⟨Nat.zero_le _, Nat.zero_le _⟩) hP hD hS hA [4] rfl rfl (ws' := (wR cA adR (setA vR 4 u4) ++ (wB cA adB vB))) rfl (fun H locs hP hD hS => ?_)
        refine lv_iinc (v := (x4 + (1 : Int32))) (lv' := [(4, .int (x4 + (1 : Int32))), (0, .ref (adR 0))]) hx hb dX3_findNext_133 hl (k := 1) rfl rfl (by decide) rfl (fun ls hl => ?_)
        refine lv_goto (tgt := 96) hx hb dX3_findNext_136 (by decide) ?_
        exact ih96 (setA vR 4 u4) (x4 + (1 : Int32)) _ _ _ h hP hD hS (lv_sub hl [1, 0] rfl)
  have B72 : ∀ (vR : St) (x3 : Int32) (H : Heap) (locs : List Loc) (ls : Array Slot), X3_findNext_b72 vB p2 vR x3 = some o → va_P D vwCl (wR cA adR vR ++ (wB cA adB vB)) H → va_D A (wR cA adR vR ++ (wB cA adB vB)) → va_S A s.heap H locs → lv_has ls 6 [(0, .ref (adR 0)), (3, .int x3)] → W p l e (headSpec wsX3_findNext ({ frames := 2, cells := 0, slots := 0, locals := 49 })).room s m ([.ref (adR 0), .ref (adB 0), .int p2] : List Value).toArray below meth c H locs 0 0 (MQ below (QI D (wR cA adR o.2 ++ (wB cA adB vB)) o.1 A) ([.ref (adR 0), .ref (adB 0), .int p2] : List Value).toArray s 0 0 A) (F0 m 72 ls []) := by
    intro vR x3 H locs ls h hP hD hS hl
    unfold X3_findNext_b72 at h
    refine lv_iload_n hx hb dX3_findNext_72 rfl (lv_at hl 1 rfl) ?_
    refine lv_if_ge (tgt := 78) hx hb dX3_findNext_73 (by decide) (fun c5 => ?_) (fun c5 => ?_)
    · have h := (if_pos c5).symm.trans h
      refine lv_aload_n hx hb dX3_findNext_78 rfl (lv_at hl 0 rfl) ?_
      refine lv_iload_n hx hb dX3_findNext_79 rfl (lv_at hl 1 rfl) ?_
      refine lv_iload_n hx hb dX3_findNext_80 rfl (lv_at hl 1 rfl) ?_
      obtain ⟨u6, eu6, h⟩ := bd_in h
      refine kV (va_runV (As := [.int x3, .int x3]) (rest := []) ⟨hx, hb, hml, hown, hts⟩ (c_X3_measureSteps l D cA cQ adR vR x3 x3 u6 eu6 _) (cwV 2 hts gX3_findNext_X3_measureSteps rfl rfl rfl (by decide +kernel) ⟨Nat.le_of_ble_eq_true rfl, Nat.le_of_ble_eq_true rfl⟩) (pV (ci := 3) (q := (RX3, TX3, 5)) hK hN hP hD [0, 1, 2, 3, 4] rfl rfl rfl rfl) rfl rfl hl.1 rfl (lv_room (Nat.le_of_ble_eq_true rfl)) dX3_findNext_81 ⟨Nat.zero_le _, Nat.zero_le _⟩) hP hD hS hA [0, 1, 2, 3, 4] rfl rfl (ws' := (wR cA adR u6 ++ (wB cA adB vB))) rfl (fun H locs hP hD hS => ?_)
      refine lv_aload_n hx hb dX3_findNext_84 rfl (lv_at hl 0 rfl) ?_
      refine va_get (D := D) (ci := 3) (v := .ref (adR 4)) (C := RX3) (T := TX3) (N := 5) hx hb hts iw_X3_findNext_X3 hown hK hP 0 rfl rfl 3 (by decide) (hts (.fieldLink RX3 21 "FavourRings$Rings" "members" "[I") (List.mem_of_getElem? (i := 2) rfl)) (fun _ h9 => h9) rfl dX3_findNext_85 ?_
      refine lv_iconst (v := (0 : Int32)) hx hb dX3_findNext_88 (by decide) ?_
      refine lv_iload_n hx hb dX3_findNext_89 rfl (lv_at hl 1 rfl) ?_
      obtain ⟨u7, eu7, h⟩ := bd_in h
      refine kV (va_runSN (As := [.ref (adR 4), .int (0 : Int32), .int x3]) (rest := []) ⟨hx, hb, hml, hown, hts⟩ (c_X4_put l D cA cQ (adR 4) 8 (u6 4) (0 : Int32) x3 u7 eu7 _) ⟨va_cnB 3 hts gX3_findNext_X4_put_n84 rfl rfl rfl hN.2.2.2.2.2.2.2.2.2.2.1 (hts (.initialized RX4) (List.mem_of_getElem? (i := 23) rfl)) (by decide +kernel) ⟨Nat.le_of_ble_eq_true rfl, Nat.le_of_ble_eq_true rfl⟩, (hts (.static yX4_put) (List.mem_of_getElem? (i := 33) rfl)), trivial⟩ (pS hK hN hP hD [4] rfl rfl) rfl rfl hl.1 rfl (lv_room (Nat.le_of_ble_eq_true rfl)) dX3_findNext_90 ⟨Nat.zero_le _, Nat.zero_le _⟩) hP hD hS hA [4] rfl rfl (ws' := (wR cA adR (setA u6 4 u7) ++ (wB cA adB vB))) rfl (fun H locs hP hD hS => ?_)
      refine lv_iconst (v := (1 : Int32)) hx hb dX3_findNext_93 (by decide) ?_
      refine lv_istore (lv' := [(4, .int (1 : Int32)), (0, .ref (adR 0)), (3, .int x3)]) hx hb dX3_findNext_94 hl (by decide) rfl (fun ls hl => ?_)
      exact B96 FU (setA u6 4 u7) (1 : Int32) _ _ _ h hP hD hS (lv_sub hl [1, 0] rfl)
    · have h := (if_neg c5).symm.trans h
      refine lv_iconst (v := (0 : Int32)) hx hb dX3_findNext_76 (by decide) ?_
      cases h
      exact endZ hx hb hr hlocks hP hS ⟨rfl, rfl⟩ dX3_findNext_77
  have B16 : ∀ (fu16 : Nat) (vR : St) (x3 : Int32) (x4 : Int32) (H : Heap) (locs : List Loc) (ls : Array Slot), X3_findNext_l16 vB p2 fu16 vR x3 x4 = some o → va_P D vwCl (wR cA adR vR ++ (wB cA adB vB)) H → va_D A (wR cA adR vR ++ (wB cA adB vB)) → va_S A s.heap H locs → lv_has ls 6 [(0, .ref (adR 0)), (3, .int x3), (4, .int x4)] → W p l e (headSpec wsX3_findNext ({ frames := 2, cells := 0, slots := 0, locals := 49 })).room s m ([.ref (adR 0), .ref (adB 0), .int p2] : List Value).toArray below meth c H locs 0 0 (MQ below (QI D (wR cA adR o.2 ++ (wB cA adB vB)) o.1 A) ([.ref (adR 0), .ref (adB 0), .int p2] : List Value).toArray s 0 0 A) (F0 m 16 ls []) := by
    intro fu16
    induction fu16 with
    | zero =>
      intro vR x3 x4 H locs ls h hP hD hS hl
      cases h
    | succ fu16 ih16 =>
      have B57 : ∀ (vR : St) (x4 : Int32) (x5 : Int32) (H : Heap) (locs : List Loc) (ls : Array Slot), X3_findNext_b57 vB p2 (X3_findNext_l16 vB p2 fu16) vR x4 x5 = some o → va_P D vwCl (wR cA adR vR ++ (wB cA adB vB)) H → va_D A (wR cA adR vR ++ (wB cA adB vB)) → va_S A s.heap H locs → lv_has ls 6 [(0, .ref (adR 0)), (4, .int x4), (5, .int x5)] → W p l e (headSpec wsX3_findNext ({ frames := 2, cells := 0, slots := 0, locals := 49 })).room s m ([.ref (adR 0), .ref (adB 0), .int p2] : List Value).toArray below meth c H locs 0 0 (MQ below (QI D (wR cA adR o.2 ++ (wB cA adB vB)) o.1 A) ([.ref (adR 0), .ref (adB 0), .int p2] : List Value).toArray s 0 0 A) (F0 m 57 ls []) := by
        intro vR x4 x5 H locs ls h hP hD hS hl
        unfold X3_findNext_b57 at h
        refine lv_iload hx hb dX3_findNext_57 (lv_at hl 1 rfl) ?_
        refine lv_istore_n (lv' := [(3, .int x4), (0, .ref (adR 0)), (4, .int x4), (5, .int x5)]) hx hb dX3_findNext_59 rfl hl (by decide) rfl (fun ls hl => ?_)
        refine lv_aload_n hx hb dX3_findNext_60 rfl (lv_at hl 1 rfl) ?_
        refine lv_iload hx hb dX3_findNext_61 (lv_at hl 3 rfl) ?_
        refine ptR (ci := 3) (v := .int x5) (ty := .int) (C := RX3) (T := TX3) (N := 5) hx hb hts iw_X3_findNext_X3 tyX3 tyX3_ok nmX3 hown hK hP hD hS 0 rfl rfl 4 (by decide) (hts (.fieldLink RX3 24 "FavourRings$Rings" "length" "I") (List.mem_of_getElem? (i := 1) rfl)) (fun _ h9 => h9) rfl (by decide +kernel) rfl rfl (Nat.le_of_ble_eq_true rfl) (ws' := (wR cA adR (setI vR 4 x5) ++ (wB cA adB vB))) rfl dX3_findNext_63 (fun H locs hP hD hS => ?_)
        refine lv_iinc (v := (x4 + (1 : Int32))) (lv' := [(4, .int (x4 + (1 : Int32))), (3, .int x4), (0, .ref (adR 0)), (5, .int x5)]) hx hb dX3_findNext_66 hl (k := 2) rfl rfl (by decide) rfl (fun ls hl => ?_)
        refine lv_goto (tgt := 16) hx hb dX3_findNext_69 (by decide) ?_
        exact ih16 (setI vR 4 x5) x4 (x4 + (1 : Int32)) _ _ _ h hP hD hS (lv_sub hl [2, 1, 0] rfl)
      intro vR x3 x4 H locs ls h hP hD hS hl
      rw [X3_findNext_l16] at h
      refine lv_iload hx hb dX3_findNext_16 (lv_at hl 2 rfl) ?_
      refine lv_bipush (v := (8 : Int32)) hx hb dX3_findNext_18 (by decide) ?_
      refine lv_icmp_ge (tgt := 72) hx hb dX3_findNext_20 (by decide) (fun c8 => ?_) (fun c8 => ?_)
      · have h := (if_pos c8).symm.trans h
        exact B72 vR x3 _ _ _ h hP hD hS (lv_sub hl [0, 1] rfl)
      · have h := (if_neg c8).symm.trans h
        refine lv_aload_n hx hb dX3_findNext_23 rfl (lv_at hl 0 rfl) ?_
        refine lv_iload hx hb dX3_findNext_24 (lv_at hl 2 rfl) ?_
        refine lv_iload hx hb dX3_findNext_26 (lv_at hl 2 rfl) ?_
        obtain ⟨u9, eu9, h⟩ := bd_in h
        refine kV (va_runV (As := [.int x4, .int x4]) (rest := []) ⟨hx, hb, hml, hown, hts⟩ (c_X3_measureSteps l D cA cQ adR vR x4 x4 u9 eu9 _) (cwV 2 hts gX3_findNext_X3_measureSteps rfl rfl rfl (by decide +kernel) ⟨Nat.le_of_ble_eq_true rfl, Nat.le_of_ble_eq_true rfl⟩) (pV (ci := 3) (q := (RX3, TX3, 5)) hK hN hP hD [0, 1, 2, 3, 4] rfl rfl rfl rfl) rfl rfl hl.1 rfl (lv_room (Nat.le_of_ble_eq_true rfl)) dX3_findNext_28 ⟨Nat.zero_le _, Nat.zero_le _⟩) hP hD hS hA [0, 1, 2, 3, 4] rfl rfl (ws' := (wR cA adR u9 ++ (wB cA adB vB))) rfl (fun H locs hP hD hS => ?_)
        refine lv_aload_n hx hb dX3_findNext_31 rfl (lv_at hl 0 rfl) ?_
        refine lv_iload hx hb dX3_findNext_32 (lv_at hl 2 rfl) ?_
        obtain ⟨u10, eu10, h⟩ := bd_in h
        refine kI (va_runV (As := [.int x4]) (rest := []) ⟨hx, hb, hml, hown, hts⟩ (c_X3_shortestFrom l D cA cQ adR u9 x4 u10 eu10 _) (cwV 1 hts gX3_findNext_X3_shortestFrom rfl rfl rfl (by decide +kernel) ⟨Nat.le_of_ble_eq_true rfl, Nat.le_of_ble_eq_true rfl⟩) (pV (ci := 3) (q := (RX3, TX3, 5)) hK hN hP hD [0, 1, 2, 3, 4] rfl rfl rfl rfl) rfl rfl hl.1 rfl (lv_room (Nat.le_of_ble_eq_true rfl)) dX3_findNext_34 ⟨Nat.zero_le _, Nat.zero_le _⟩) hP hD hS hA [0, 1, 2, 3, 4] rfl rfl (ws' := (wR cA adR u9 ++ (wB cA adB vB))) rfl (fun H locs hP hD hS => ?_)
        refine lv_istore (lv' := [(5, .int u10), (0, .ref (adR 0)), (3, .int x3), (4, .int x4)]) hx hb dX3_findNext_37 hl (by decide) rfl (fun ls hl => ?_)
        refine lv_iload hx hb dX3_findNext_39 (lv_at hl 0 rfl) ?_
        refine lv_if_le (tgt := 66) hx hb dX3_findNext_41 (by decide) (fun c11 => ?_) (fun c11 => ?_)
        · have h := (if_pos c11).symm.trans h
          refine lv_iinc (v := (x4 + (1 : Int32))) (lv' := [(4, .int (x4 + (1 : Int32))), (5, .int u10), (0, .ref (adR 0)), (3, .int x3)]) hx hb dX3_findNext_66 hl (k := 3) rfl rfl (by decide) rfl (fun ls hl => ?_)
          refine lv_goto (tgt := 16) hx hb dX3_findNext_69 (by decide) ?_
          exact ih16 u9 x3 (x4 + (1 : Int32)) _ _ _ h hP hD hS (lv_sub hl [2, 3, 0] rfl)
        · have h := (if_neg c11).symm.trans h
          refine lv_iload_n hx hb dX3_findNext_44 rfl (lv_at hl 2 rfl) ?_
          refine lv_if_lt (tgt := 57) hx hb dX3_findNext_45 (by decide) (fun c12 => ?_) (fun c12 => ?_)
          · have h := (if_pos c12).symm.trans h
            exact B57 u9 x4 u10 _ _ _ h hP hD hS (lv_sub hl [1, 3, 0] rfl)
          · have h := (if_neg c12).symm.trans h
            refine lv_iload hx hb dX3_findNext_48 (lv_at hl 0 rfl) ?_
            refine lv_aload_n hx hb dX3_findNext_50 rfl (lv_at hl 1 rfl) ?_
            refine va_get (D := D) (ci := 3) (v := .int (u9 99 4)) (C := RX3) (T := TX3) (N := 5) hx hb hts iw_X3_findNext_X3 hown hK hP 0 rfl rfl 4 (by decide) (hts (.fieldLink RX3 24 "FavourRings$Rings" "length" "I") (List.mem_of_getElem? (i := 1) rfl)) (fun _ h9 => h9) rfl dX3_findNext_51 ?_
            refine lv_icmp_ge (tgt := 66) hx hb dX3_findNext_54 (by decide) (fun c13 => ?_) (fun c13 => ?_)
            · have h := (if_pos c13).symm.trans h
              refine lv_iinc (v := (x4 + (1 : Int32))) (lv' := [(4, .int (x4 + (1 : Int32))), (5, .int u10), (0, .ref (adR 0)), (3, .int x3)]) hx hb dX3_findNext_66 hl (k := 3) rfl rfl (by decide) rfl (fun ls hl => ?_)
              refine lv_goto (tgt := 16) hx hb dX3_findNext_69 (by decide) ?_
              exact ih16 u9 x3 (x4 + (1 : Int32)) _ _ _ h hP hD hS (lv_sub hl [2, 3, 0] rfl)
            · have h := (if_neg c13).symm.trans h
              exact B57 u9 x4 u10 _ _ _ h hP hD hS (lv_sub hl [1, 3, 0] rfl)
  have h := hf
  unfold X3_findNext at h
  refine lv_aload_n hx hb dX3_findNext_0 rfl (lv_at hl 0 rfl) ?_
  refine lv_aload_n hx hb dX3_findNext_1 rfl (lv_at hl 1 rfl) ?_
  refine lv_iload_n hx hb dX3_findNext_2 rfl (lv_at hl 2 rfl) ?_
  obtain ⟨u14, eu14, h⟩ := bd_in h
  refine kV (va_runV (As := [.ref (adB 0), .int p2]) (rest := []) ⟨hx, hb, hml, hown, hts⟩ (c_X3_readOwed l D cA cQ adR adB vR vB p2 u14 eu14 _) (cwV 2 hts gX3_findNext_X3_readOwed rfl rfl rfl (by decide +kernel) ⟨Nat.le_of_ble_eq_true rfl, Nat.le_of_ble_eq_true rfl⟩) (pV (ci := 3) (q := (RX3, TX3, 5)) hK hN hP hD [0, 1, 2, 3, 4, 5, 6, 7, 8, 9, 10, 11, 12, 13, 14, 15, 16, 17, 18] rfl rfl rfl rfl) rfl rfl hl.1 rfl (lv_room (Nat.le_of_ble_eq_true rfl)) dX3_findNext_3 ⟨Nat.zero_le _, Nat.zero_le _⟩) hP hD hS hA [0, 1, 2, 3, 4, 5, 6, 7, 8, 9, 10, 11, 12, 13, 14, 15, 16, 17, 18] rfl rfl (ws' := (wR cA adR u14 ++ (wB cA adB vB))) rfl (fun H locs hP hD hS => ?_)
  refine lv_aload_n hx hb dX3_findNext_6 rfl (lv_at hl 0 rfl) ?_
  refine lv_iconst (v := (0 : Int32)) hx hb dX3_findNext_7 (by decide) ?_
  refine ptR (ci := 3) (v := .int (0 : Int32)) (ty := .int) (C := RX3) (T := TX3) (N := 5) hx hb hts iw_X3_findNext_X3 tyX3 tyX3_ok nmX3 hown hK hP hD hS 0 rfl rfl 4 (by decide) (hts (.fieldLink RX3 24 "FavourRings$Rings" "length" "I") (List.mem_of_getElem? (i := 1) rfl)) (fun _ h9 => h9) rfl (by decide +kernel) rfl rfl (Nat.le_of_ble_eq_true rfl) (ws' := (wR cA adR (setI u14 4 (0 : Int32)) ++ (wB cA adB vB))) rfl dX3_findNext_8 (fun H locs hP hD hS => ?_)
  refine lv_iconst (v := (-1 : Int32)) hx hb dX3_findNext_11 (by decide) ?_
  refine lv_istore_n (lv' := [(3, .int (-1 : Int32)), (0, .ref (adR 0)), (1, .ref (adB 0)), (2, .int p2)]) hx hb dX3_findNext_12 rfl hl (by decide) rfl (fun ls hl => ?_)
  refine lv_iconst (v := (0 : Int32)) hx hb dX3_findNext_13 (by decide) ?_
  refine lv_istore (lv' := [(4, .int (0 : Int32)), (3, .int (-1 : Int32)), (0, .ref (adR 0)), (1, .ref (adB 0)), (2, .int p2)]) hx hb dX3_findNext_14 hl (by decide) rfl (fun ls hl => ?_)
  exact B16 FU (setI u14 4 (0 : Int32)) (-1 : Int32) (0 : Int32) _ _ _ h hP hD hS (lv_sub hl [2, 1, 0] rfl)
theorem iw_X3_nextLength_X3 : ∀ w ∈ wsX30, w ∈ wsX3_nextLength := fun _ h => List.mem_cons_of_mem _ (List.mem_append_right _ (h))
set_option maxHeartbeats 4000000 in
set_option maxRecDepth 100000 in
theorem c_X3_nextLength (l : Launch) (D : va_G) (cA cQ : ClassId) (adR : Nat → Nat) (vR : St) (o : Int32) (hf : X3_nextLength vR = some o) : Cti l yX3_nextLength wsX3_nextLength ({ frames := 0, cells := 0, slots := 0, locals := 0 }) D (TY cA cQ) [.ref (adR 0)] (wR cA adR vR) (wR cA adR vR) o := by
  refine Wk.i (cc := cX3_nextLength) (maxL := 1) (ret := (some .int)) (by decide) rfl (Nat.le_of_ble_eq_true rfl) ?_
  intro p e s m below meth c A ls hx hb hr hlocks hml hown hts hK hN hP hD hA hl
  have hown : s.vm.findClass RX3 = some m.cls := hown
  have hS : va_S A s.heap s.heap [] := va_S.rf
  have hl : lv_has ls 1 [(0, .ref (adR 0))] := hl
  have h := hf
  unfold X3_nextLength at h
  refine lv_aload_n hx hb dX3_nextLength_0 rfl (lv_at hl 0 rfl) ?_
  refine va_get (D := D) (ci := 3) (v := .int (vR 99 4)) (C := RX3) (T := TX3) (N := 5) hx hb hts iw_X3_nextLength_X3 hown hK hP 0 rfl rfl 4 (by decide) (hts (.fieldLink RX3 24 "FavourRings$Rings" "length" "I") (List.mem_of_getElem? (i := 1) rfl)) (fun _ h9 => h9) rfl dX3_nextLength_1 ?_
  cases h
  exact endI hx hb hr hlocks hP hS rfl dX3_nextLength_4
theorem iw_X4_ring_X4 : ∀ w ∈ wsX40, w ∈ wsX4_ring := fun _ h => List.mem_cons_of_mem _ (List.mem_append_left _ (List.mem_append_left _ (List.mem_append_right _ (h))))
set_option maxHeartbeats 4000000 in
set_option maxRecDepth 100000 in
theorem c_X4_ring (l : Launch) (D : va_G) (cA cQ : ClassId) (adF : Nat) (adB : Nat → Nat) (adT : Nat → Nat) (adH : Nat → Nat) (kH : Nat → Nat → Nat) (adR : Nat → Nat) (adO : Nat → Nat) (vB : St) (vT : St) (vH : St) (bH : Nat → St) (vR : St) (vO : St) (p1 : Int32) (p2 : Int32) (o : Int32 × St) (hf : X4_ring vB vT vH bH vR vO p1 p2 = some o) : Cti l yX4_ring wsX4_ring ({ frames := 3, cells := 0, slots := 0, locals := 74 }) D (TY cA cQ) [.ref adF, .int p1, .int p2] (wF cA cQ adF adB adT adH kH adR adO vB vT vH bH vR vO) (wF cA cQ adF adB adT adH kH adR adO vB vT vH bH o.2 vO) o.1 := by
  refine Wk.i (cc := cX4_ring) (maxL := 3) (ret := (some .int)) (by decide) rfl (Nat.le_of_ble_eq_true rfl) ?_
  intro p e s m below meth c A ls hx hb hr hlocks hml hown hts hK hN hP hD hA hl
  have hown : s.vm.findClass RX4 = some m.cls := hown
  have hS : va_S A s.heap s.heap [] := va_S.rf
  have hl : lv_has ls 3 [(0, .ref adF), (1, .int p1), (2, .int p2)] := hl
  have h := hf
  unfold X4_ring at h
  refine lv_iload_n hx hb dX4_ring_0 rfl (lv_at hl 1 rfl) ?_
  obtain ⟨u1, eu1, h⟩ := bd_in h
  refine kI (va_runS (As := [.int p1]) (rest := []) ⟨hx, hb, hml, hown, hts⟩ (c_X4_isKind l D cA cQ  p1 u1 eu1 _) (va_cwS 1 hts gX4_ring_X4_isKind rfl rfl rfl (by decide +kernel) ⟨Nat.le_of_ble_eq_true rfl, Nat.le_of_ble_eq_true rfl⟩) (pS hK hN hP hD [] rfl rfl) rfl rfl hl.1 rfl (lv_room (Nat.le_of_ble_eq_true rfl)) dX4_ring_1 ⟨Nat.zero_le _, Nat.zero_le _⟩) hP hD hS hA [] rfl rfl (ws' := (wF cA cQ adF adB adT adH kH adR adO vB vT vH bH vR vO)) rfl (fun H locs hP hD hS => ?_)
  refine lv_if_eq (tgt := 11) hx hb dX4_ring_4 (by decide) (fun c2 => ?_) (fun c2 => ?_)
  · have h := (if_pos c2).symm.trans h
    refine lv_ldc (v := (-1000001 : Int32)) hx hb hown (hts (.constant RX4 81 (-1000001)) (List.mem_of_getElem? (i := 1) rfl)) dX4_ring_11 ?_
    cases h
    exact endI hx hb hr hlocks hP hS rfl dX4_ring_13
  · have h := (if_neg c2).symm.trans h
    refine lv_iload_n hx hb dX4_ring_7 rfl (lv_at hl 2 rfl) ?_
    refine lv_if_ge (tgt := 14) hx hb dX4_ring_8 (by decide) (fun c3 => ?_) (fun c3 => ?_)
    · have h := (if_pos c3).symm.trans h
      refine lv_aload_n hx hb dX4_ring_14 rfl (lv_at hl 0 rfl) ?_
      refine va_get (D := D) (ci := 4) (v := .ref (adR 0)) (C := RX4) (T := TX4) (N := 5) hx hb hts iw_X4_ring_X4 hown hK hP 0 rfl rfl 3 (by decide) (hts (.fieldLink RX4 29 "FavourRings" "rings" "LFavourRings$Rings;") (List.mem_of_getElem? (i := 2) rfl)) (fun _ h9 => h9) rfl dX4_ring_15 ?_
      refine lv_aload_n hx hb dX4_ring_18 rfl (lv_at hl 0 rfl) ?_
      refine va_get (D := D) (ci := 4) (v := .ref (adB 0)) (C := RX4) (T := TX4) (N := 5) hx hb hts iw_X4_ring_X4 hown hK hP 0 rfl rfl 0 (by decide) (hts (.fieldLink RX4 10 "FavourRings" "bank" "LFavourRings$Bank;") (List.mem_of_getElem? (i := 3) rfl)) (fun _ h9 => h9) rfl dX4_ring_19 ?_
      refine lv_iload_n hx hb dX4_ring_22 rfl (lv_at hl 1 rfl) ?_
      obtain ⟨u4, eu4, h⟩ := bd_in h
      refine kI (va_runV (As := [.ref (adB 0), .int p1]) (rest := []) ⟨hx, hb, hml, hown, hts⟩ (c_X3_findNext l D cA cQ adR adB vR vB p1 u4 eu4 _) (cwV 2 hts gX4_ring_X3_findNext rfl rfl rfl (by decide +kernel) ⟨Nat.le_of_ble_eq_true rfl, Nat.le_of_ble_eq_true rfl⟩) (pV (ci := 3) (q := (RX3, TX3, 5)) hK hN hP hD [87, 88, 89, 90, 91, 1, 2, 3, 4, 5, 6, 7, 8, 9, 10, 11, 12, 13, 14] rfl rfl rfl rfl) rfl rfl hl.1 rfl (lv_room (Nat.le_of_ble_eq_true rfl)) dX4_ring_23 ⟨Nat.zero_le _, Nat.zero_le _⟩) hP hD hS hA [87, 88, 89, 90, 91, 1, 2, 3, 4, 5, 6, 7, 8, 9, 10, 11, 12, 13, 14] rfl rfl (ws' := (wF cA cQ adF adB adT adH kH adR adO vB vT vH bH u4.2 vO)) rfl (fun H locs hP hD hS => ?_)
      refine lv_if_eq (tgt := 40) hx hb dX4_ring_26 (by decide) (fun c5 => ?_) (fun c5 => ?_)
      · have h := (if_pos c5).symm.trans h
        refine lv_ldc (v := (-1000004 : Int32)) hx hb hown (hts (.constant RX4 98 (-1000004)) (List.mem_of_getElem? (i := 4) rfl)) dX4_ring_40 ?_
        cases h
        exact endI hx hb hr hlocks hP hS rfl dX4_ring_42
      · have h := (if_neg c5).symm.trans h
        refine lv_iload_n hx hb dX4_ring_29 rfl (lv_at hl 2 rfl) ?_
        refine lv_aload_n hx hb dX4_ring_30 rfl (lv_at hl 0 rfl) ?_
        refine va_get (D := D) (ci := 4) (v := .ref (adR 0)) (C := RX4) (T := TX4) (N := 5) hx hb hts iw_X4_ring_X4 hown hK hP 0 rfl rfl 3 (by decide) (hts (.fieldLink RX4 29 "FavourRings" "rings" "LFavourRings$Rings;") (List.mem_of_getElem? (i := 2) rfl)) (fun _ h9 => h9) rfl dX4_ring_31 ?_
        obtain ⟨u6, eu6, h⟩ := bd_in h
        refine kI (va_runV (As := []) (rest := [.int p2]) ⟨hx, hb, hml, hown, hts⟩ (c_X3_nextLength l D cA cQ adR u4.2 u6 eu6 _) (cwV 0 hts gX4_ring_X3_nextLength rfl rfl rfl (by decide +kernel) ⟨Nat.le_of_ble_eq_true rfl, Nat.le_of_ble_eq_true rfl⟩) (pV (ci := 3) (q := (RX3, TX3, 5)) hK hN hP hD [87, 88, 89, 90, 91] rfl rfl rfl rfl) rfl rfl hl.1 rfl (lv_room (Nat.le_of_ble_eq_true rfl)) dX4_ring_34 ⟨Nat.zero_le _, Nat.zero_le _⟩) hP hD hS hA [87, 88, 89, 90, 91] rfl rfl (ws' := (wF cA cQ adF adB adT adH kH adR adO vB vT vH bH u4.2 vO)) rfl (fun H locs hP hD hS => ?_)
        refine lv_icmp_lt (tgt := 43) hx hb dX4_ring_37 (by decide) (fun c7 => ?_) (fun c7 => ?_)
        · have h := (if_pos c7).symm.trans h
          refine lv_aload_n hx hb dX4_ring_43 rfl (lv_at hl 0 rfl) ?_
          refine va_get (D := D) (ci := 4) (v := .ref (adR 0)) (C := RX4) (T := TX4) (N := 5) hx hb hts iw_X4_ring_X4 hown hK hP 0 rfl rfl 3 (by decide) (hts (.fieldLink RX4 29 "FavourRings" "rings" "LFavourRings$Rings;") (List.mem_of_getElem? (i := 2) rfl)) (fun _ h9 => h9) rfl dX4_ring_44 ?_
          refine lv_iload_n hx hb dX4_ring_47 rfl (lv_at hl 2 rfl) ?_
          obtain ⟨u8, eu8, h⟩ := bd_in h
          refine kI (va_runV (As := [.int p2]) (rest := []) ⟨hx, hb, hml, hown, hts⟩ (c_X3_nextPupil l D cA cQ adR u4.2 p2 u8 eu8 _) (cwV 1 hts gX4_ring_X3_nextPupil rfl rfl rfl (by decide +kernel) ⟨Nat.le_of_ble_eq_true rfl, Nat.le_of_ble_eq_true rfl⟩) (pV (ci := 3) (q := (RX3, TX3, 5)) hK hN hP hD [87, 88, 89, 90, 91] rfl rfl rfl rfl) rfl rfl hl.1 rfl (lv_room (Nat.le_of_ble_eq_true rfl)) dX4_ring_48 ⟨Nat.zero_le _, Nat.zero_le _⟩) hP hD hS hA [87, 88, 89, 90, 91] rfl rfl (ws' := (wF cA cQ adF adB adT adH kH adR adO vB vT vH bH u4.2 vO)) rfl (fun H locs hP hD hS => ?_)
          cases h
          exact endI hx hb hr hlocks hP hS rfl dX4_ring_51
        · have h := (if_neg c7).symm.trans h
          refine lv_ldc (v := (-1000004 : Int32)) hx hb hown (hts (.constant RX4 98 (-1000004)) (List.mem_of_getElem? (i := 4) rfl)) dX4_ring_40 ?_
          cases h
          exact endI hx hb hr hlocks hP hS rfl dX4_ring_42
    · have h := (if_neg c3).symm.trans h
      refine lv_ldc (v := (-1000001 : Int32)) hx hb hown (hts (.constant RX4 81 (-1000001)) (List.mem_of_getElem? (i := 1) rfl)) dX4_ring_11 ?_
      cases h
      exact endI hx hb hr hlocks hP hS rfl dX4_ring_13
theorem iw_X3_pupilBehind_X3 : ∀ w ∈ wsX30, w ∈ wsX3_pupilBehind := fun _ h => List.mem_cons_of_mem _ (List.mem_append_right _ (h))
set_option maxHeartbeats 4000000 in
set_option maxRecDepth 100000 in
theorem c_X3_pupilBehind (l : Launch) (D : va_G) (cA cQ : ClassId) (adR : Nat → Nat) (vR : St) (p1 : Int32) (o : Int32) (hf : X3_pupilBehind vR p1 = some o) : Cti l yX3_pupilBehind wsX3_pupilBehind ({ frames := 1, cells := 0, slots := 0, locals := 21 }) D (TY cA cQ) [.ref (adR 0), .int p1] (wR cA adR vR) (wR cA adR vR) o := by
  refine Wk.i (cc := cX3_pupilBehind) (maxL := 2) (ret := (some .int)) (by decide) rfl (Nat.le_of_ble_eq_true rfl) ?_
  intro p e s m below meth c A ls hx hb hr hlocks hml hown hts hK hN hP hD hA hl
  have hown : s.vm.findClass RX3 = some m.cls := hown
  have hS : va_S A s.heap s.heap [] := va_S.rf
  have hl : lv_has ls 2 [(0, .ref (adR 0)), (1, .int p1)] := hl
  have B21 : ∀ (t1 : Int32) (H : Heap) (locs : List Loc) (ls : Array Slot), X3_pupilBehind_b21 vR p1 t1 = some o → va_P D vwCl (wR cA adR vR) H → va_D A (wR cA adR vR) → va_S A s.heap H locs → lv_has ls 2 [] → W p l e (headSpec wsX3_pupilBehind ({ frames := 1, cells := 0, slots := 0, locals := 21 })).room s m ([.ref (adR 0), .int p1] : List Value).toArray below meth c H locs 0 0 (MQ below (QI D (wR cA adR vR) o A) ([.ref (adR 0), .int p1] : List Value).toArray s 0 0 A) (F0 m 21 ls [.int t1, .ref (adR 4)]) := by
    intro t1 H locs ls h hP hD hS hl
    unfold X3_pupilBehind_b21 at h
    obtain ⟨u1, eu1, h⟩ := bd_in h
    refine kI (va_runSN (As := [.ref (adR 4), .int t1]) (rest := []) ⟨hx, hb, hml, hown, hts⟩ (c_X4_at l D cA cQ (adR 4) 8 (vR 4) t1 u1 eu1 _) ⟨va_cnB 2 hts gX3_pupilBehind_X4_at_n28 rfl rfl rfl hN.2.2.2.2.2.2.2.2.1 (hts (.initialized RX4) (List.mem_of_getElem? (i := 4) rfl)) (by decide +kernel) ⟨Nat.le_of_ble_eq_true rfl, Nat.le_of_ble_eq_true rfl⟩, (hts (.static yX4_at) (List.mem_of_getElem? (i := 3) rfl)), trivial⟩ (pS hK hN hP hD [4] rfl rfl) rfl rfl hl.1 rfl (lv_room (Nat.le_of_ble_eq_true rfl)) dX3_pupilBehind_21 ⟨Nat.zero_le _, Nat.zero_le _⟩) hP hD hS hA [4] rfl rfl (ws' := (wR cA adR vR)) rfl (fun H locs hP hD hS => ?_)
    cases h
    exact endI hx hb hr hlocks hP hS rfl dX3_pupilBehind_24
  have h := hf
  unfold X3_pupilBehind at h
  refine lv_aload_n hx hb dX3_pupilBehind_0 rfl (lv_at hl 0 rfl) ?_
  refine va_get (D := D) (ci := 3) (v := .ref (adR 4)) (C := RX3) (T := TX3) (N := 5) hx hb hts iw_X3_pupilBehind_X3 hown hK hP 0 rfl rfl 3 (by decide) (hts (.fieldLink RX3 21 "FavourRings$Rings" "members" "[I") (List.mem_of_getElem? (i := 1) rfl)) (fun _ h9 => h9) rfl dX3_pupilBehind_1 ?_
  refine lv_iload_n hx hb dX3_pupilBehind_4 rfl (lv_at hl 1 rfl) ?_
  refine lv_iconst (v := (1 : Int32)) hx hb dX3_pupilBehind_5 (by decide) ?_
  refine lv_iadd hx hb dX3_pupilBehind_6 ?_
  refine lv_aload_n hx hb dX3_pupilBehind_7 rfl (lv_at hl 0 rfl) ?_
  refine va_get (D := D) (ci := 3) (v := .int (vR 99 4)) (C := RX3) (T := TX3) (N := 5) hx hb hts iw_X3_pupilBehind_X3 hown hK hP 0 rfl rfl 4 (by decide) (hts (.fieldLink RX3 24 "FavourRings$Rings" "length" "I") (List.mem_of_getElem? (i := 2) rfl)) (fun _ h9 => h9) rfl dX3_pupilBehind_8 ?_
  refine lv_icmp_ge (tgt := 20) hx hb dX3_pupilBehind_11 (by decide) (fun c2 => ?_) (fun c2 => ?_)
  · have h := (if_pos c2).symm.trans h
    refine lv_iconst (v := (0 : Int32)) hx hb dX3_pupilBehind_20 (by decide) ?_
    exact B21 (0 : Int32) _ _ _ h hP hD hS (lv_sub hl [] rfl)
  · have h := (if_neg c2).symm.trans h
    refine lv_iload_n hx hb dX3_pupilBehind_14 rfl (lv_at hl 1 rfl) ?_
    refine lv_iconst (v := (1 : Int32)) hx hb dX3_pupilBehind_15 (by decide) ?_
    refine lv_iadd hx hb dX3_pupilBehind_16 ?_
    refine lv_goto (tgt := 21) hx hb dX3_pupilBehind_17 (by decide) ?_
    exact B21 (p1 + (1 : Int32)) _ _ _ h hP hD hS (lv_sub hl [] rfl)
theorem iw_X3_nextAmount_X3 : ∀ w ∈ wsX30, w ∈ wsX3_nextAmount := fun _ h => List.mem_cons_of_mem _ (List.mem_append_right _ (h))
set_option maxHeartbeats 4000000 in
set_option maxRecDepth 100000 in
theorem c_X3_nextAmount (l : Launch) (D : va_G) (cA cQ : ClassId) (adR : Nat → Nat) (vR : St) (o : Int32) (hf : X3_nextAmount vR = some o) : Cti l yX3_nextAmount wsX3_nextAmount ({ frames := 2, cells := 0, slots := 0, locals := 42 }) D (TY cA cQ) [.ref (adR 0)] (wR cA adR vR) (wR cA adR vR) o := by
  refine Wk.i (cc := cX3_nextAmount) (maxL := 4) (ret := (some .int)) (by decide) rfl (Nat.le_of_ble_eq_true rfl) ?_
  intro p e s m below meth c A ls hx hb hr hlocks hml hown hts hK hN hP hD hA hl
  have hown : s.vm.findClass RX3 = some m.cls := hown
  have hS : va_S A s.heap s.heap [] := va_S.rf
  have hl : lv_has ls 4 [(0, .ref (adR 0))] := hl
  have B4 : ∀ (fu4 : Nat) (x1 : Int32) (x2 : Int32) (H : Heap) (locs : List Loc) (ls : Array Slot), X3_nextAmount_l4 vR fu4 x1 x2 = some o → va_P D vwCl (wR cA adR vR) H → va_D A (wR cA adR vR) → va_S A s.heap H locs → lv_has ls 4 [(0, .ref (adR 0)), (1, .int x1), (2, .int x2)] → W p l e (headSpec wsX3_nextAmount ({ frames := 2, cells := 0, slots := 0, locals := 42 })).room s m ([.ref (adR 0)] : List Value).toArray below meth c H locs 0 0 (MQ below (QI D (wR cA adR vR) o A) ([.ref (adR 0)] : List Value).toArray s 0 0 A) (F0 m 4 ls []) := by
    intro fu4
    induction fu4 with
    | zero =>
      intro x1 x2 H locs ls h hP hD hS hl
      cases h
    | succ fu4 ih4 =>
      intro x1 x2 H locs ls h hP hD hS hl
      rw [X3_nextAmount_l4] at h
      refine lv_iload_n hx hb dX3_nextAmount_4 rfl (lv_at hl 2 rfl) ?_
      refine lv_aload_n hx hb dX3_nextAmount_5 rfl (lv_at hl 0 rfl) ?_
      refine va_get (D := D) (ci := 3) (v := .int (vR 99 4)) (C := RX3) (T := TX3) (N := 5) hx hb hts iw_X3_nextAmount_X3 hown hK hP 0 rfl rfl 4 (by decide) (hts (.fieldLink RX3 24 "FavourRings$Rings" "length" "I") (List.mem_of_getElem? (i := 1) rfl)) (fun _ h9 => h9) rfl dX3_nextAmount_6 ?_
      refine lv_icmp_ge (tgt := 47) hx hb dX3_nextAmount_9 (by decide) (fun c1 => ?_) (fun c1 => ?_)
      · have h := (if_pos c1).symm.trans h
        refine lv_iload_n hx hb dX3_nextAmount_47 rfl (lv_at hl 1 rfl) ?_
        cases h
        exact endI hx hb hr hlocks hP hS rfl dX3_nextAmount_48
      · have h := (if_neg c1).symm.trans h
        refine lv_aload_n hx hb dX3_nextAmount_12 rfl (lv_at hl 0 rfl) ?_
        refine lv_aload_n hx hb dX3_nextAmount_13 rfl (lv_at hl 0 rfl) ?_
        refine lv_iload_n hx hb dX3_nextAmount_14 rfl (lv_at hl 2 rfl) ?_
        obtain ⟨u2, eu2, h⟩ := bd_in h
        refine kI (va_runV (As := [.int x2]) (rest := [.ref (adR 0)]) ⟨hx, hb, hml, hown, hts⟩ (c_X3_nextPupil l D cA cQ adR vR x2 u2 eu2 _) (cwV 1 hts gX3_nextAmount_X3_nextPupil rfl rfl rfl (by decide +kernel) ⟨Nat.le_of_ble_eq_true rfl, Nat.le_of_ble_eq_true rfl⟩) (pV (ci := 3) (q := (RX3, TX3, 5)) hK hN hP hD [0, 1, 2, 3, 4] rfl rfl rfl rfl) rfl rfl hl.1 rfl (lv_room (Nat.le_of_ble_eq_true rfl)) dX3_nextAmount_15 ⟨Nat.zero_le _, Nat.zero_le _⟩) hP hD hS hA [0, 1, 2, 3, 4] rfl rfl (ws' := (wR cA adR vR)) rfl (fun H locs hP hD hS => ?_)
        refine lv_aload_n hx hb dX3_nextAmount_18 rfl (lv_at hl 0 rfl) ?_
        refine lv_iload_n hx hb dX3_nextAmount_19 rfl (lv_at hl 2 rfl) ?_
        obtain ⟨u3, eu3, h⟩ := bd_in h
        refine kI (va_runV (As := [.int x2]) (rest := [.int u2, .ref (adR 0)]) ⟨hx, hb, hml, hown, hts⟩ (c_X3_pupilBehind l D cA cQ adR vR x2 u3 eu3 _) (cwV 1 hts gX3_nextAmount_X3_pupilBehind rfl rfl rfl (by decide +kernel) ⟨Nat.le_of_ble_eq_true rfl, Nat.le_of_ble_eq_true rfl⟩) (pV (ci := 3) (q := (RX3, TX3, 5)) hK hN hP hD [0, 1, 2, 3, 4] rfl rfl rfl rfl) rfl rfl hl.1 rfl (lv_room (Nat.le_of_ble_eq_true rfl)) dX3_nextAmount_20 ⟨Nat.zero_le _, Nat.zero_le _⟩) hP hD hS hA [0, 1, 2, 3, 4] rfl rfl (ws' := (wR cA adR vR)) rfl (fun H locs hP hD hS => ?_)
        obtain ⟨u4, eu4, h⟩ := bd_in h
        refine kI (va_runV (As := [.int u2, .int u3]) (rest := []) ⟨hx, hb, hml, hown, hts⟩ (c_X3_owedBetween l D cA cQ adR vR u2 u3 u4 eu4 _) (cwV 2 hts gX3_nextAmount_X3_owedBetween rfl rfl rfl (by decide +kernel) ⟨Nat.le_of_ble_eq_true rfl, Nat.le_of_ble_eq_true rfl⟩) (pV (ci := 3) (q := (RX3, TX3, 5)) hK hN hP hD [0, 1, 2, 3, 4] rfl rfl rfl rfl) rfl rfl hl.1 rfl (lv_room (Nat.le_of_ble_eq_true rfl)) dX3_nextAmount_23 ⟨Nat.zero_le _, Nat.zero_le _⟩) hP hD hS hA [0, 1, 2, 3, 4] rfl rfl (ws' := (wR cA adR vR)) rfl (fun H locs hP hD hS => ?_)
        refine lv_istore_n (lv' := [(3, .int u4), (0, .ref (adR 0)), (1, .int x1), (2, .int x2)]) hx hb dX3_nextAmount_26 rfl hl (by decide) rfl (fun ls hl => ?_)
        refine lv_iload_n hx hb dX3_nextAmount_27 rfl (lv_at hl 3 rfl) ?_
        refine lv_if_ne (tgt := 35) hx hb dX3_nextAmount_28 (by decide) (fun c5 => ?_) (fun c5 => ?_)
        · have h := (if_neg c5).symm.trans h
          refine lv_iload_n hx hb dX3_nextAmount_35 rfl (lv_at hl 2 rfl) ?_
          refine lv_iload_n hx hb dX3_nextAmount_36 rfl (lv_at hl 0 rfl) ?_
          refine va_mmin hx hb (hml.trans hl.1.symm) hown (hts (.methodLink RX3 43 Lib.Math.min.name) (List.mem_of_getElem? (i := 2) rfl)) (hts (.static Lib.Math.min.name) (List.mem_of_getElem? (i := 3) rfl)) (hts (.initialized "java/lang/Math") (List.mem_of_getElem? (i := 4) rfl)) (hts (.code Lib.Math.min.name Lib.Math.min.code 2 (some .int)) (List.mem_of_getElem? (i := 5) rfl)) (Nat.le_of_ble_eq_true rfl) (Nat.le_of_ble_eq_true rfl) (Nat.zero_le _) (Nat.zero_le _) dX3_nextAmount_37 ?_
          refine lv_istore_n (lv' := [(1, .int (if u4 < x1 then u4 else x1)), (3, .int u4), (0, .ref (adR 0)), (2, .int x2)]) hx hb dX3_nextAmount_40 rfl hl (by decide) rfl (fun ls hl => ?_)
          refine lv_iinc (v := (x2 + (1 : Int32))) (lv' := [(2, .int (x2 + (1 : Int32))), (1, .int (if u4 < x1 then u4 else x1)), (3, .int u4), (0, .ref (adR 0))]) hx hb dX3_nextAmount_41 hl (k := 3) rfl rfl (by decide) rfl (fun ls hl => ?_)
          refine lv_goto (tgt := 4) hx hb dX3_nextAmount_44 (by decide) ?_
          exact ih4 (if u4 < x1 then u4 else x1) (x2 + (1 : Int32)) _ _ _ h hP hD hS (lv_sub hl [3, 1, 0] rfl)
        · have h := (if_pos c5).symm.trans h
          refine lv_iload_n hx hb dX3_nextAmount_31 rfl (lv_at hl 0 rfl) ?_
          refine lv_goto (tgt := 40) hx hb dX3_nextAmount_32 (by decide) ?_
          refine lv_istore_n (lv' := [(1, .int u4), (3, .int u4), (0, .ref (adR 0)), (2, .int x2)]) hx hb dX3_nextAmount_40 rfl hl (by decide) rfl (fun ls hl => ?_)
          refine lv_iinc (v := (x2 + (1 : Int32))) (lv' := [(2, .int (x2 + (1 : Int32))), (1, .int u4), (3, .int u4), (0, .ref (adR 0))]) hx hb dX3_nextAmount_41 hl (k := 3) rfl rfl (by decide) rfl (fun ls hl => ?_)
          refine lv_goto (tgt := 4) hx hb dX3_nextAmount_44 (by decide) ?_
          exact ih4 u4 (x2 + (1 : Int32)) _ _ _ h hP hD hS (lv_sub hl [3, 1, 0] rfl)
  have h := hf
  unfold X3_nextAmount at h
  refine lv_iconst (v := (0 : Int32)) hx hb dX3_nextAmount_0 (by decide) ?_
  refine lv_istore_n (lv' := [(1, .int (0 : Int32)), (0, .ref (adR 0))]) hx hb dX3_nextAmount_1 rfl hl (by decide) rfl (fun ls hl => ?_)
  refine lv_iconst (v := (0 : Int32)) hx hb dX3_nextAmount_2 (by decide) ?_
  refine lv_istore_n (lv' := [(2, .int (0 : Int32)), (1, .int (0 : Int32)), (0, .ref (adR 0))]) hx hb dX3_nextAmount_3 rfl hl (by decide) rfl (fun ls hl => ?_)
  exact B4 FU (0 : Int32) (0 : Int32) _ _ _ h hP hD hS (lv_sub hl [2, 1, 0] rfl)
theorem iw_X4_amount_X4 : ∀ w ∈ wsX40, w ∈ wsX4_amount := fun _ h => List.mem_cons_of_mem _ (List.mem_append_left _ (List.mem_append_left _ (List.mem_append_right _ (h))))
set_option maxHeartbeats 4000000 in
set_option maxRecDepth 100000 in
theorem c_X4_amount (l : Launch) (D : va_G) (cA cQ : ClassId) (adF : Nat) (adB : Nat → Nat) (adT : Nat → Nat) (adH : Nat → Nat) (kH : Nat → Nat → Nat) (adR : Nat → Nat) (adO : Nat → Nat) (vB : St) (vT : St) (vH : St) (bH : Nat → St) (vR : St) (vO : St) (p1 : Int32) (o : Int32 × St) (hf : X4_amount vB vT vH bH vR vO p1 = some o) : Cti l yX4_amount wsX4_amount ({ frames := 3, cells := 0, slots := 0, locals := 74 }) D (TY cA cQ) [.ref adF, .int p1] (wF cA cQ adF adB adT adH kH adR adO vB vT vH bH vR vO) (wF cA cQ adF adB adT adH kH adR adO vB vT vH bH o.2 vO) o.1 := by
  refine Wk.i (cc := cX4_amount) (maxL := 2) (ret := (some .int)) (by decide) rfl (Nat.le_of_ble_eq_true rfl) ?_
  intro p e s m below meth c A ls hx hb hr hlocks hml hown hts hK hN hP hD hA hl
  have hown : s.vm.findClass RX4 = some m.cls := hown
  have hS : va_S A s.heap s.heap [] := va_S.rf
  have hl : lv_has ls 2 [(0, .ref adF), (1, .int p1)] := hl
  have h := hf
  unfold X4_amount at h
  refine lv_iload_n hx hb dX4_amount_0 rfl (lv_at hl 1 rfl) ?_
  obtain ⟨u1, eu1, h⟩ := bd_in h
  refine kI (va_runS (As := [.int p1]) (rest := []) ⟨hx, hb, hml, hown, hts⟩ (c_X4_isKind l D cA cQ  p1 u1 eu1 _) (va_cwS 1 hts gX4_amount_X4_isKind rfl rfl rfl (by decide +kernel) ⟨Nat.le_of_ble_eq_true rfl, Nat.le_of_ble_eq_true rfl⟩) (pS hK hN hP hD [] rfl rfl) rfl rfl hl.1 rfl (lv_room (Nat.le_of_ble_eq_true rfl)) dX4_amount_1 ⟨Nat.zero_le _, Nat.zero_le _⟩) hP hD hS hA [] rfl rfl (ws' := (wF cA cQ adF adB adT adH kH adR adO vB vT vH bH vR vO)) rfl (fun H locs hP hD hS => ?_)
  refine lv_if_ne (tgt := 10) hx hb dX4_amount_4 (by decide) (fun c2 => ?_) (fun c2 => ?_)
  · have h := (if_neg c2).symm.trans h
    refine lv_aload_n hx hb dX4_amount_10 rfl (lv_at hl 0 rfl) ?_
    refine va_get (D := D) (ci := 4) (v := .ref (adR 0)) (C := RX4) (T := TX4) (N := 5) hx hb hts iw_X4_amount_X4 hown hK hP 0 rfl rfl 3 (by decide) (hts (.fieldLink RX4 29 "FavourRings" "rings" "LFavourRings$Rings;") (List.mem_of_getElem? (i := 2) rfl)) (fun _ h9 => h9) rfl dX4_amount_11 ?_
    refine lv_aload_n hx hb dX4_amount_14 rfl (lv_at hl 0 rfl) ?_
    refine va_get (D := D) (ci := 4) (v := .ref (adB 0)) (C := RX4) (T := TX4) (N := 5) hx hb hts iw_X4_amount_X4 hown hK hP 0 rfl rfl 0 (by decide) (hts (.fieldLink RX4 10 "FavourRings" "bank" "LFavourRings$Bank;") (List.mem_of_getElem? (i := 3) rfl)) (fun _ h9 => h9) rfl dX4_amount_15 ?_
    refine lv_iload_n hx hb dX4_amount_18 rfl (lv_at hl 1 rfl) ?_
    obtain ⟨u3, eu3, h⟩ := bd_in h
    refine kI (va_runV (As := [.ref (adB 0), .int p1]) (rest := []) ⟨hx, hb, hml, hown, hts⟩ (c_X3_findNext l D cA cQ adR adB vR vB p1 u3 eu3 _) (cwV 2 hts gX4_amount_X3_findNext rfl rfl rfl (by decide +kernel) ⟨Nat.le_of_ble_eq_true rfl, Nat.le_of_ble_eq_true rfl⟩) (pV (ci := 3) (q := (RX3, TX3, 5)) hK hN hP hD [87, 88, 89, 90, 91, 1, 2, 3, 4, 5, 6, 7, 8, 9, 10, 11, 12, 13, 14] rfl rfl rfl rfl) rfl rfl hl.1 rfl (lv_room (Nat.le_of_ble_eq_true rfl)) dX4_amount_19 ⟨Nat.zero_le _, Nat.zero_le _⟩) hP hD hS hA [87, 88, 89, 90, 91, 1, 2, 3, 4, 5, 6, 7, 8, 9, 10, 11, 12, 13, 14] rfl rfl (ws' := (wF cA cQ adF adB adT adH kH adR adO vB vT vH bH u3.2 vO)) rfl (fun H locs hP hD hS => ?_)
    refine lv_if_eq (tgt := 35) hx hb dX4_amount_22 (by decide) (fun c4 => ?_) (fun c4 => ?_)
    · have h := (if_pos c4).symm.trans h
      refine lv_ldc (v := (-1000004 : Int32)) hx hb hown (hts (.constant RX4 98 (-1000004)) (List.mem_of_getElem? (i := 4) rfl)) dX4_amount_35 ?_
      cases h
      exact endI hx hb hr hlocks hP hS rfl dX4_amount_37
    · have h := (if_neg c4).symm.trans h
      refine lv_aload_n hx hb dX4_amount_25 rfl (lv_at hl 0 rfl) ?_
      refine va_get (D := D) (ci := 4) (v := .ref (adR 0)) (C := RX4) (T := TX4) (N := 5) hx hb hts iw_X4_amount_X4 hown hK hP 0 rfl rfl 3 (by decide) (hts (.fieldLink RX4 29 "FavourRings" "rings" "LFavourRings$Rings;") (List.mem_of_getElem? (i := 2) rfl)) (fun _ h9 => h9) rfl dX4_amount_26 ?_
      obtain ⟨u5, eu5, h⟩ := bd_in h
      refine kI (va_runV (As := []) (rest := []) ⟨hx, hb, hml, hown, hts⟩ (c_X3_nextAmount l D cA cQ adR u3.2 u5 eu5 _) (cwV 0 hts gX4_amount_X3_nextAmount rfl rfl rfl (by decide +kernel) ⟨Nat.le_of_ble_eq_true rfl, Nat.le_of_ble_eq_true rfl⟩) (pV (ci := 3) (q := (RX3, TX3, 5)) hK hN hP hD [87, 88, 89, 90, 91] rfl rfl rfl rfl) rfl rfl hl.1 rfl (lv_room (Nat.le_of_ble_eq_true rfl)) dX4_amount_29 ⟨Nat.zero_le _, Nat.zero_le _⟩) hP hD hS hA [87, 88, 89, 90, 91] rfl rfl (ws' := (wF cA cQ adF adB adT adH kH adR adO vB vT vH bH u3.2 vO)) rfl (fun H locs hP hD hS => ?_)
      refine lv_goto (tgt := 37) hx hb dX4_amount_32 (by decide) ?_
      cases h
      exact endI hx hb hr hlocks hP hS rfl dX4_amount_37
  · have h := (if_pos c2).symm.trans h
    refine lv_ldc (v := (-1000001 : Int32)) hx hb hown (hts (.constant RX4 81 (-1000001)) (List.mem_of_getElem? (i := 1) rfl)) dX4_amount_7 ?_
    cases h
    exact endI hx hb hr hlocks hP hS rfl dX4_amount_9
theorem iw_X4_owes_X4 : ∀ w ∈ wsX40, w ∈ wsX4_owes := fun _ h => List.mem_cons_of_mem _ (List.mem_append_left _ (List.mem_append_right _ (h)))
set_option maxHeartbeats 4000000 in
set_option maxRecDepth 100000 in
theorem c_X4_owes (l : Launch) (D : va_G) (cA cQ : ClassId) (adF : Nat) (adB : Nat → Nat) (adT : Nat → Nat) (adH : Nat → Nat) (kH : Nat → Nat → Nat) (adR : Nat → Nat) (adO : Nat → Nat) (vB : St) (vT : St) (vH : St) (bH : Nat → St) (vR : St) (vO : St) (p1 : Int32) (p2 : Int32) (p3 : Int32) (o : Int32) (hf : X4_owes vB vT vH bH vR vO p1 p2 p3 = some o) : Cti l yX4_owes wsX4_owes ({ frames := 2, cells := 0, slots := 0, locals := 49 }) D (TY cA cQ) [.ref adF, .int p1, .int p2, .int p3] (wF cA cQ adF adB adT adH kH adR adO vB vT vH bH vR vO) (wF cA cQ adF adB adT adH kH adR adO vB vT vH bH vR vO) o := by
  refine Wk.i (cc := cX4_owes) (maxL := 4) (ret := (some .int)) (by decide) rfl (Nat.le_of_ble_eq_true rfl) ?_
  intro p e s m below meth c A ls hx hb hr hlocks hml hown hts hK hN hP hD hA hl
  have hown : s.vm.findClass RX4 = some m.cls := hown
  have hS : va_S A s.heap s.heap [] := va_S.rf
  have hl : lv_has ls 4 [(0, .ref adF), (1, .int p1), (2, .int p2), (3, .int p3)] := hl
  have h := hf
  unfold X4_owes at h
  refine lv_aload_n hx hb dX4_owes_0 rfl (lv_at hl 0 rfl) ?_
  refine va_get (D := D) (ci := 4) (v := .ref (adB 0)) (C := RX4) (T := TX4) (N := 5) hx hb hts iw_X4_owes_X4 hown hK hP 0 rfl rfl 0 (by decide) (hts (.fieldLink RX4 10 "FavourRings" "bank" "LFavourRings$Bank;") (List.mem_of_getElem? (i := 1) rfl)) (fun _ h9 => h9) rfl dX4_owes_1 ?_
  refine lv_iload_n hx hb dX4_owes_4 rfl (lv_at hl 1 rfl) ?_
  obtain ⟨u1, eu1, h⟩ := bd_in h
  refine kI (va_runV (As := [.int p1]) (rest := []) ⟨hx, hb, hml, hown, hts⟩ (c_X0_isPupil l D cA cQ adB vB p1 u1 eu1 _) (cwV 1 hts gX4_owes_X0_isPupil rfl rfl rfl (by decide +kernel) ⟨Nat.le_of_ble_eq_true rfl, Nat.le_of_ble_eq_true rfl⟩) (pV (ci := 0) (q := (RX0, TX0, 13)) hK hN hP hD [1, 2, 3, 4, 5, 6, 7, 8, 9, 10, 11, 12, 13, 14] rfl rfl rfl rfl) rfl rfl hl.1 rfl (lv_room (Nat.le_of_ble_eq_true rfl)) dX4_owes_5 ⟨Nat.zero_le _, Nat.zero_le _⟩) hP hD hS hA [1, 2, 3, 4, 5, 6, 7, 8, 9, 10, 11, 12, 13, 14] rfl rfl (ws' := (wF cA cQ adF adB adT adH kH adR adO vB vT vH bH vR vO)) rfl (fun H locs hP hD hS => ?_)
  refine lv_if_eq (tgt := 29) hx hb dX4_owes_8 (by decide) (fun c2 => ?_) (fun c2 => ?_)
  · have h := (if_pos c2).symm.trans h
    refine lv_ldc (v := (-1000001 : Int32)) hx hb hown (hts (.constant RX4 81 (-1000001)) (List.mem_of_getElem? (i := 2) rfl)) dX4_owes_29 ?_
    cases h
    exact endI hx hb hr hlocks hP hS rfl dX4_owes_31
  · have h := (if_neg c2).symm.trans h
    refine lv_aload_n hx hb dX4_owes_11 rfl (lv_at hl 0 rfl) ?_
    refine va_get (D := D) (ci := 4) (v := .ref (adB 0)) (C := RX4) (T := TX4) (N := 5) hx hb hts iw_X4_owes_X4 hown hK hP 0 rfl rfl 0 (by decide) (hts (.fieldLink RX4 10 "FavourRings" "bank" "LFavourRings$Bank;") (List.mem_of_getElem? (i := 1) rfl)) (fun _ h9 => h9) rfl dX4_owes_12 ?_
    refine lv_iload_n hx hb dX4_owes_15 rfl (lv_at hl 2 rfl) ?_
    obtain ⟨u3, eu3, h⟩ := bd_in h
    refine kI (va_runV (As := [.int p2]) (rest := []) ⟨hx, hb, hml, hown, hts⟩ (c_X0_isPupil l D cA cQ adB vB p2 u3 eu3 _) (cwV 1 hts gX4_owes_X0_isPupil rfl rfl rfl (by decide +kernel) ⟨Nat.le_of_ble_eq_true rfl, Nat.le_of_ble_eq_true rfl⟩) (pV (ci := 0) (q := (RX0, TX0, 13)) hK hN hP hD [1, 2, 3, 4, 5, 6, 7, 8, 9, 10, 11, 12, 13, 14] rfl rfl rfl rfl) rfl rfl hl.1 rfl (lv_room (Nat.le_of_ble_eq_true rfl)) dX4_owes_16 ⟨Nat.zero_le _, Nat.zero_le _⟩) hP hD hS hA [1, 2, 3, 4, 5, 6, 7, 8, 9, 10, 11, 12, 13, 14] rfl rfl (ws' := (wF cA cQ adF adB adT adH kH adR adO vB vT vH bH vR vO)) rfl (fun H locs hP hD hS => ?_)
    refine lv_if_eq (tgt := 29) hx hb dX4_owes_19 (by decide) (fun c4 => ?_) (fun c4 => ?_)
    · have h := (if_pos c4).symm.trans h
      refine lv_ldc (v := (-1000001 : Int32)) hx hb hown (hts (.constant RX4 81 (-1000001)) (List.mem_of_getElem? (i := 2) rfl)) dX4_owes_29 ?_
      cases h
      exact endI hx hb hr hlocks hP hS rfl dX4_owes_31
    · have h := (if_neg c4).symm.trans h
      refine lv_iload_n hx hb dX4_owes_22 rfl (lv_at hl 3 rfl) ?_
      obtain ⟨u5, eu5, h⟩ := bd_in h
      refine kI (va_runS (As := [.int p3]) (rest := []) ⟨hx, hb, hml, hown, hts⟩ (c_X4_isKind l D cA cQ  p3 u5 eu5 _) (va_cwS 1 hts gX4_owes_X4_isKind rfl rfl rfl (by decide +kernel) ⟨Nat.le_of_ble_eq_true rfl, Nat.le_of_ble_eq_true rfl⟩) (pS hK hN hP hD [] rfl rfl) rfl rfl hl.1 rfl (lv_room (Nat.le_of_ble_eq_true rfl)) dX4_owes_23 ⟨Nat.zero_le _, Nat.zero_le _⟩) hP hD hS hA [] rfl rfl (ws' := (wF cA cQ adF adB adT adH kH adR adO vB vT vH bH vR vO)) rfl (fun H locs hP hD hS => ?_)
      refine lv_if_ne (tgt := 32) hx hb dX4_owes_26 (by decide) (fun c6 => ?_) (fun c6 => ?_)
      · have h := (if_neg c6).symm.trans h
        refine lv_aload_n hx hb dX4_owes_32 rfl (lv_at hl 0 rfl) ?_
        refine va_get (D := D) (ci := 4) (v := .ref (adB 0)) (C := RX4) (T := TX4) (N := 5) hx hb hts iw_X4_owes_X4 hown hK hP 0 rfl rfl 0 (by decide) (hts (.fieldLink RX4 10 "FavourRings" "bank" "LFavourRings$Bank;") (List.mem_of_getElem? (i := 1) rfl)) (fun _ h9 => h9) rfl dX4_owes_33 ?_
        refine lv_iload_n hx hb dX4_owes_36 rfl (lv_at hl 1 rfl) ?_
        refine lv_iload_n hx hb dX4_owes_37 rfl (lv_at hl 2 rfl) ?_
        refine lv_iload_n hx hb dX4_owes_38 rfl (lv_at hl 3 rfl) ?_
        obtain ⟨u7, eu7, h⟩ := bd_in h
        refine kI (va_runV (As := [.int p1, .int p2, .int p3]) (rest := []) ⟨hx, hb, hml, hown, hts⟩ (c_X0_sumOwed l D cA cQ adB vB p1 p2 p3 u7 eu7 _) (cwV 3 hts gX4_owes_X0_sumOwed rfl rfl rfl (by decide +kernel) ⟨Nat.le_of_ble_eq_true rfl, Nat.le_of_ble_eq_true rfl⟩) (pV (ci := 0) (q := (RX0, TX0, 13)) hK hN hP hD [1, 2, 3, 4, 5, 6, 7, 8, 9, 10, 11, 12, 13, 14] rfl rfl rfl rfl) rfl rfl hl.1 rfl (lv_room (Nat.le_of_ble_eq_true rfl)) dX4_owes_39 ⟨Nat.zero_le _, Nat.zero_le _⟩) hP hD hS hA [1, 2, 3, 4, 5, 6, 7, 8, 9, 10, 11, 12, 13, 14] rfl rfl (ws' := (wF cA cQ adF adB adT adH kH adR adO vB vT vH bH vR vO)) rfl (fun H locs hP hD hS => ?_)
        cases h
        exact endI hx hb hr hlocks hP hS rfl dX4_owes_42
      · have h := (if_pos c6).symm.trans h
        refine lv_ldc (v := (-1000001 : Int32)) hx hb hown (hts (.constant RX4 81 (-1000001)) (List.mem_of_getElem? (i := 2) rfl)) dX4_owes_29 ?_
        cases h
        exact endI hx hb hr hlocks hP hS rfl dX4_owes_31
set_option maxHeartbeats 4000000 in
set_option maxRecDepth 100000 in
theorem c_X4_copyRow (l : Launch) (D : va_G) (cA cQ : ClassId) (a1 : Nat) (n1 : Nat) (a2 : Nat) (n2 : Nat) (f1 : Nat → Int32) (f2 : Nat → Int32) (o : (Nat → Int32)) (hf : X4_copyRow f1 f2 n1 n2 = some o) : Ctv l yX4_copyRow wsX4_copyRow ({ frames := 1, cells := 0, slots := 0, locals := 60 }) D (TY cA cQ) [.ref a1, .ref a2] (wA2 cA a1 n1 f1 a2 n2 f2) (wA2 cA a1 n1 f1 a2 n2 o) := by
  refine Wk.v (cc := cX4_copyRow) (maxL := 2) (ret := none) (by decide) rfl (Nat.le_of_ble_eq_true rfl) ?_
  intro p e s m below meth c A ls hx hb hr hlocks hml hown hts hK hN hP hD hA hl
  have hown : s.vm.findClass RX4 = some m.cls := hown
  have hS : va_S A s.heap s.heap [] := va_S.rf
  have hl : lv_has ls 2 [(0, .ref a1), (1, .ref a2)] := hl
  have h := hf
  unfold X4_copyRow at h
  refine lv_aload_n hx hb dX4_copyRow_0 rfl (lv_at hl 0 rfl) ?_
  refine lv_iconst (v := (0 : Int32)) hx hb dX4_copyRow_1 (by decide) ?_
  refine lv_aload_n hx hb dX4_copyRow_2 rfl (lv_at hl 1 rfl) ?_
  refine lv_iconst (v := (0 : Int32)) hx hb dX4_copyRow_3 (by decide) ?_
  refine lv_aload_n hx hb dX4_copyRow_4 rfl (lv_at hl 0 rfl) ?_
  refine va_alen hx hb hK hP 0 0 rfl rfl (v := (Int32.ofNat n1)) rfl dX4_copyRow_5 ?_
  refine lv_aload_n hx hb dX4_copyRow_6 rfl (lv_at hl 1 rfl) ?_
  refine va_alen hx hb hK hP 1 0 rfl rfl (v := (Int32.ofNat n2)) rfl dX4_copyRow_7 ?_
  refine va_mmin hx hb (hml.trans hl.1.symm) hown (hts (.methodLink RX4 182 Lib.Math.min.name) (List.mem_of_getElem? (i := 1) rfl)) (hts (.static Lib.Math.min.name) (List.mem_of_getElem? (i := 2) rfl)) (hts (.initialized "java/lang/Math") (List.mem_of_getElem? (i := 3) rfl)) (hts (.code Lib.Math.min.name Lib.Math.min.code 2 (some .int)) (List.mem_of_getElem? (i := 4) rfl)) (Nat.le_of_ble_eq_true rfl) (Nat.le_of_ble_eq_true rfl) (Nat.zero_le _) (Nat.zero_le _) dX4_copyRow_8 ?_
  obtain ⟨g1, eg1, h⟩ := bd_in h
  refine cpR hx hb (hml.trans hl.1.symm) hown (hts (.methodLink RX4 187 arraycopyName) (List.mem_of_getElem? (i := 5) rfl)) (hts (.native arraycopyName) (List.mem_of_getElem? (i := 6) rfl)) (hts (.static arraycopyName) (List.mem_of_getElem? (i := 7) rfl)) (hts (.initialized "java/lang/System") (List.mem_of_getElem? (i := 8) rfl)) hK hP hD hS 0 1 0 0 rfl rfl rfl rfl eg1 (ws' := (wA2 cA a1 n1 f1 a2 n2 g1)) rfl (Nat.le_of_ble_eq_true rfl) (Nat.le_of_ble_eq_true rfl) dX4_copyRow_11 (Nat.le_of_ble_eq_true rfl) (fun H locs hP hD hS => ?_)
  cases h
  exact endV hx hb hr hlocks hP hS dX4_copyRow_14

theorem iw_X0_giveGuarantor_X0 : ∀ w ∈ wsX00, w ∈ wsX0_giveGuarantor := fun _ h => List.mem_cons_of_mem _ (List.mem_append_right _ (h))
set_option maxHeartbeats 4000000 in
set_option maxRecDepth 100000 in
theorem c_X0_giveGuarantor (l : Launch) (D : va_G) (cA cQ : ClassId) (adB : Nat → Nat) (vB : St) (p1 : Int32) (p2 : Int32) (o : Int32 × St) (hf : X0_giveGuarantor vB p1 p2 = some o) : Cti l yX0_giveGuarantor wsX0_giveGuarantor ({ frames := 3, cells := 0, slots := 0, locals := 64 }) D (TY cA cQ) [.ref (adB 0), .int p1, .int p2] (wB cA adB vB) (wB cA adB o.2) o.1 := by
  refine Wk.i (cc := cX0_giveGuarantor) (maxL := 4) (ret := (some .int)) (by decide) rfl (Nat.le_of_ble_eq_true rfl) ?_
  intro p e s m below meth c A ls hx hb hr hlocks hml hown hts hK hN hP hD hA hl
  have hown : s.vm.findClass RX0 = some m.cls := hown
  have hS : va_S A s.heap s.heap [] := va_S.rf
  have hl : lv_has ls 4 [(0, .ref (adB 0)), (1, .int p1), (2, .int p2)] := hl
  have B25 : ∀ (vB : St) (H : Heap) (locs : List Loc) (ls : Array Slot), X0_giveGuarantor_b25 p1 p2 vB = some o → va_P D vwCl (wB cA adB vB) H → va_D A (wB cA adB vB) → va_S A s.heap H locs → lv_has ls 4 [(0, .ref (adB 0)), (1, .int p1), (2, .int p2)] → W p l e (headSpec wsX0_giveGuarantor ({ frames := 3, cells := 0, slots := 0, locals := 64 })).room s m ([.ref (adB 0), .int p1, .int p2] : List Value).toArray below meth c H locs 0 0 (MQ below (QI D (wB cA adB o.2) o.1 A) ([.ref (adB 0), .int p1, .int p2] : List Value).toArray s 0 0 A) (F0 m 25 ls []) := by
    intro vB H locs ls h hP hD hS hl
    unfold X0_giveGuarantor_b25 at h
    refine lv_aload_n hx hb dX0_giveGuarantor_25 rfl (lv_at hl 0 rfl) ?_
    refine va_get (D := D) (ci := 0) (v := .ref (adB 5)) (C := RX0) (T := TX0) (N := 13) hx hb hts iw_X0_giveGuarantor_X0 hown hK hP 0 rfl rfl 4 (by decide) (hts (.fieldLink RX0 24 "FavourRings$Bank" "guarantors" "[I") (List.mem_of_getElem? (i := 2) rfl)) (fun _ h9 => h9) rfl dX0_giveGuarantor_26 ?_
    refine lv_iload_n hx hb dX0_giveGuarantor_29 rfl (lv_at hl 1 rfl) ?_
    obtain ⟨u1, eu1, h⟩ := bd_in h
    refine kI (va_runSN (As := [.ref (adB 5), .int p1]) (rest := []) ⟨hx, hb, hml, hown, hts⟩ (c_X4_at l D cA cQ (adB 5) 8 (vB 5) p1 u1 eu1 _) ⟨va_cnB 2 hts gX0_giveGuarantor_X4_at_n77 rfl rfl rfl hN.2.2.2.1 (hts (.initialized RX4) (List.mem_of_getElem? (i := 18) rfl)) (by decide +kernel) ⟨Nat.le_of_ble_eq_true rfl, Nat.le_of_ble_eq_true rfl⟩, (hts (.static yX4_at) (List.mem_of_getElem? (i := 17) rfl)), trivial⟩ (pS hK hN hP hD [5] rfl rfl) rfl rfl hl.1 rfl (lv_room (Nat.le_of_ble_eq_true rfl)) dX0_giveGuarantor_30 ⟨Nat.zero_le _, Nat.zero_le _⟩) hP hD hS hA [5] rfl rfl (ws' := (wB cA adB vB)) rfl (fun H locs hP hD hS => ?_)
    refine lv_istore_n (lv' := [(3, .int u1), (0, .ref (adB 0)), (1, .int p1), (2, .int p2)]) hx hb dX0_giveGuarantor_33 rfl hl (by decide) rfl (fun ls hl => ?_)
    refine lv_aload_n hx hb dX0_giveGuarantor_34 rfl (lv_at hl 1 rfl) ?_
    refine va_get (D := D) (ci := 0) (v := .ref (adB 5)) (C := RX0) (T := TX0) (N := 13) hx hb hts iw_X0_giveGuarantor_X0 hown hK hP 0 rfl rfl 4 (by decide) (hts (.fieldLink RX0 24 "FavourRings$Bank" "guarantors" "[I") (List.mem_of_getElem? (i := 2) rfl)) (fun _ h9 => h9) rfl dX0_giveGuarantor_35 ?_
    refine lv_iload_n hx hb dX0_giveGuarantor_38 rfl (lv_at hl 2 rfl) ?_
    refine lv_iload_n hx hb dX0_giveGuarantor_39 rfl (lv_at hl 3 rfl) ?_
    refine lv_iconst (v := (1 : Int32)) hx hb dX0_giveGuarantor_40 (by decide) ?_
    refine lv_iadd hx hb dX0_giveGuarantor_41 ?_
    obtain ⟨u2, eu2, h⟩ := bd_in h
    refine kV (va_runSN (As := [.ref (adB 5), .int p1, .int (p2 + (1 : Int32))]) (rest := []) ⟨hx, hb, hml, hown, hts⟩ (c_X4_put l D cA cQ (adB 5) 8 (vB 5) p1 (p2 + (1 : Int32)) u2 eu2 _) ⟨va_cnB 3 hts gX0_giveGuarantor_X4_put_n55 rfl rfl rfl hN.2.1 (hts (.initialized RX4) (List.mem_of_getElem? (i := 18) rfl)) (by decide +kernel) ⟨Nat.le_of_ble_eq_true rfl, Nat.le_of_ble_eq_true rfl⟩, (hts (.static yX4_put) (List.mem_of_getElem? (i := 20) rfl)), trivial⟩ (pS hK hN hP hD [5] rfl rfl) rfl rfl hl.1 rfl (lv_room (Nat.le_of_ble_eq_true rfl)) dX0_giveGuarantor_42 ⟨Nat.zero_le _, Nat.zero_le _⟩) hP hD hS hA [5] rfl rfl (ws' := (wB cA adB (setA vB 5 u2))) rfl (fun H locs hP hD hS => ?_)
    refine lv_iload_n hx hb dX0_giveGuarantor_45 rfl (lv_at hl 0 rfl) ?_
    cases h
    exact endI hx hb hr hlocks hP hS rfl dX0_giveGuarantor_46
  have h := hf
  unfold X0_giveGuarantor at h
  refine lv_aload_n hx hb dX0_giveGuarantor_0 rfl (lv_at hl 0 rfl) ?_
  refine lv_iload_n hx hb dX0_giveGuarantor_1 rfl (lv_at hl 1 rfl) ?_
  obtain ⟨u3, eu3, h⟩ := bd_in h
  refine kI (va_runV (As := [.int p1]) (rest := []) ⟨hx, hb, hml, hown, hts⟩ (c_X0_isPupil l D cA cQ adB vB p1 u3 eu3 _) (cwV 1 hts gX0_giveGuarantor_X0_isPupil rfl rfl rfl (by decide +kernel) ⟨Nat.le_of_ble_eq_true rfl, Nat.le_of_ble_eq_true rfl⟩) (pV (ci := 0) (q := (RX0, TX0, 13)) hK hN hP hD [0, 1, 2, 3, 4, 5, 6, 7, 8, 9, 10, 11, 12, 13] rfl rfl rfl rfl) rfl rfl hl.1 rfl (lv_room (Nat.le_of_ble_eq_true rfl)) dX0_giveGuarantor_2 ⟨Nat.zero_le _, Nat.zero_le _⟩) hP hD hS hA [0, 1, 2, 3, 4, 5, 6, 7, 8, 9, 10, 11, 12, 13] rfl rfl (ws' := (wB cA adB vB)) rfl (fun H locs hP hD hS => ?_)
  refine lv_if_eq (tgt := 22) hx hb dX0_giveGuarantor_5 (by decide) (fun c4 => ?_) (fun c4 => ?_)
  · have h := (if_pos c4).symm.trans h
    refine lv_ldc (v := (-1000001 : Int32)) hx hb hown (hts (.constant RX0 93 (-1000001)) (List.mem_of_getElem? (i := 1) rfl)) dX0_giveGuarantor_22 ?_
    cases h
    exact endI hx hb hr hlocks hP hS rfl dX0_giveGuarantor_24
  · have h := (if_neg c4).symm.trans h
    refine lv_iload_n hx hb dX0_giveGuarantor_8 rfl (lv_at hl 2 rfl) ?_
    refine lv_iconst (v := (-1 : Int32)) hx hb dX0_giveGuarantor_9 (by decide) ?_
    refine lv_icmp_eq (tgt := 25) hx hb dX0_giveGuarantor_10 (by decide) (fun c5 => ?_) (fun c5 => ?_)
    · have h := (if_pos c5).symm.trans h
      exact B25 vB _ _ _ h hP hD hS (lv_sub hl [0, 1, 2] rfl)
    · have h := (if_neg c5).symm.trans h
      refine lv_aload_n hx hb dX0_giveGuarantor_13 rfl (lv_at hl 0 rfl) ?_
      refine lv_iload_n hx hb dX0_giveGuarantor_14 rfl (lv_at hl 1 rfl) ?_
      refine lv_iload_n hx hb dX0_giveGuarantor_15 rfl (lv_at hl 2 rfl) ?_
      obtain ⟨u6, eu6, h⟩ := bd_in h
      refine kI (va_runV (As := [.int p1, .int p2]) (rest := []) ⟨hx, hb, hml, hown, hts⟩ (c_X0_isPair l D cA cQ adB vB p1 p2 u6 eu6 _) (cwV 2 hts gX0_giveGuarantor_X0_isPair rfl rfl rfl (by decide +kernel) ⟨Nat.le_of_ble_eq_true rfl, Nat.le_of_ble_eq_true rfl⟩) (pV (ci := 0) (q := (RX0, TX0, 13)) hK hN hP hD [0, 1, 2, 3, 4, 5, 6, 7, 8, 9, 10, 11, 12, 13] rfl rfl rfl rfl) rfl rfl hl.1 rfl (lv_room (Nat.le_of_ble_eq_true rfl)) dX0_giveGuarantor_16 ⟨Nat.zero_le _, Nat.zero_le _⟩) hP hD hS hA [0, 1, 2, 3, 4, 5, 6, 7, 8, 9, 10, 11, 12, 13] rfl rfl (ws' := (wB cA adB vB)) rfl (fun H locs hP hD hS => ?_)
      refine lv_if_ne (tgt := 25) hx hb dX0_giveGuarantor_19 (by decide) (fun c7 => ?_) (fun c7 => ?_)
      · have h := (if_neg c7).symm.trans h
        exact B25 vB _ _ _ h hP hD hS (lv_sub hl [0, 1, 2] rfl)
      · have h := (if_pos c7).symm.trans h
        refine lv_ldc (v := (-1000001 : Int32)) hx hb hown (hts (.constant RX0 93 (-1000001)) (List.mem_of_getElem? (i := 1) rfl)) dX0_giveGuarantor_22 ?_
        cases h
        exact endI hx hb hr hlocks hP hS rfl dX0_giveGuarantor_24
set_option maxHeartbeats 4000000 in
set_option maxRecDepth 100000 in
theorem c_X4_guarantee (l : Launch) (D : va_G) (cA cQ : ClassId) (adF : Nat) (adB : Nat → Nat) (adT : Nat → Nat) (adH : Nat → Nat) (kH : Nat → Nat → Nat) (adR : Nat → Nat) (adO : Nat → Nat) (vB : St) (vT : St) (vH : St) (bH : Nat → St) (vR : St) (vO : St) (p1 : Int32) (p2 : Int32) (o : Int32 × St × St × St × (Nat → St)) (hf : X4_guarantee vB vT vH bH vR vO p1 p2 = some o) : Cti l yX4_guarantee wsX4_guarantee ({ frames := 6, cells := 0, slots := 0, locals := 165 }) D (TY cA cQ) [.ref adF, .int p1, .int p2] (wF cA cQ adF adB adT adH kH adR adO vB vT vH bH vR vO) (wF cA cQ adF adB adT adH kH adR adO o.2.1 o.2.2.1 o.2.2.2.1 o.2.2.2.2 vR vO) o.1 := by
  refine Wk.i (cc := cX4_guarantee) (maxL := 3) (ret := (some .int)) (by decide) rfl (Nat.le_of_ble_eq_true rfl) ?_
  intro p e s m below meth c A ls hx hb hr hlocks hml hown hts hK hN hP hD hA hl
  have hown : s.vm.findClass RX4 = some m.cls := hown
  have hS : va_S A s.heap s.heap [] := va_S.rf
  have hl : lv_has ls 3 [(0, .ref adF), (1, .int p1), (2, .int p2)] := hl
  have h := hf
  unfold X4_guarantee at h
  refine lv_aload_n hx hb dX4_guarantee_0 rfl (lv_at hl 0 rfl) ?_
  refine lv_aload_n hx hb dX4_guarantee_1 rfl (lv_at hl 0 rfl) ?_
  obtain ⟨u1, eu1, h⟩ := bd_in h
  refine kR (va_runV (As := []) (rest := [.ref adF]) ⟨hx, hb, hml, hown, hts⟩ (c_X4_freshTrial l D cA cQ adF adB adT adH kH adR adO vB vT vH bH vR vO u1 eu1 _) (cwV 0 hts gX4_guarantee_X4_freshTrial rfl rfl rfl (by decide +kernel) ⟨Nat.le_of_ble_eq_true rfl, Nat.le_of_ble_eq_true rfl⟩) (pV (ci := 4) (q := (RX4, TX4, 5)) hK hN hP hD [0, 1, 2, 3, 4, 5, 6, 7, 8, 9, 10, 11, 12, 13, 14, 15, 16, 17, 18, 19, 20, 21, 22, 23, 24, 25, 26, 27, 28, 29, 30, 31, 32, 33, 34, 35, 36, 37, 38, 39, 40, 41, 42, 43, 44, 45, 46, 47, 48, 49, 50, 51, 52, 53, 54, 55, 56, 57, 58, 59, 60, 61, 62, 63, 64, 65, 66, 67, 68, 69, 70, 71, 72, 73, 74, 75, 76, 77, 78, 79, 80, 81, 82, 83, 84, 85, 86, 87, 88, 89, 90, 91, 92, 93, 94] rfl rfl rfl rfl) rfl rfl hl.1 rfl (lv_room (Nat.le_of_ble_eq_true rfl)) dX4_guarantee_2 ⟨Nat.zero_le _, Nat.zero_le _⟩) hP hD hS hA [0, 1, 2, 3, 4, 5, 6, 7, 8, 9, 10, 11, 12, 13, 14, 15, 16, 17, 18, 19, 20, 21, 22, 23, 24, 25, 26, 27, 28, 29, 30, 31, 32, 33, 34, 35, 36, 37, 38, 39, 40, 41, 42, 43, 44, 45, 46, 47, 48, 49, 50, 51, 52, 53, 54, 55, 56, 57, 58, 59, 60, 61, 62, 63, 64, 65, 66, 67, 68, 69, 70, 71, 72, 73, 74, 75, 76, 77, 78, 79, 80, 81, 82, 83, 84, 85, 86, 87, 88, 89, 90, 91, 92, 93, 94] rfl rfl (ws' := (wF cA cQ adF adB adT adH kH adR adO vB u1 vH bH vR vO)) rfl (fun H locs hP hD hS => ?_)
  refine lv_iload_n hx hb dX4_guarantee_5 rfl (lv_at hl 1 rfl) ?_
  refine lv_iload_n hx hb dX4_guarantee_6 rfl (lv_at hl 2 rfl) ?_
  obtain ⟨u2, eu2, h⟩ := bd_in h
  refine kI (va_runV (As := [.int p1, .int p2]) (rest := [.ref adF]) ⟨hx, hb, hml, hown, hts⟩ (c_X0_giveGuarantor l D cA cQ adT u1 p1 p2 u2 eu2 _) (cwV 2 hts gX4_guarantee_X0_giveGuarantor rfl rfl rfl (by decide +kernel) ⟨Nat.le_of_ble_eq_true rfl, Nat.le_of_ble_eq_true rfl⟩) (pV (ci := 0) (q := (RX0, TX0, 13)) hK hN hP hD [15, 16, 17, 18, 19, 20, 21, 22, 23, 24, 25, 26, 27, 28] rfl rfl rfl rfl) rfl rfl hl.1 rfl (lv_room (Nat.le_of_ble_eq_true rfl)) dX4_guarantee_7 ⟨Nat.zero_le _, Nat.zero_le _⟩) hP hD hS hA [15, 16, 17, 18, 19, 20, 21, 22, 23, 24, 25, 26, 27, 28] rfl rfl (ws' := (wF cA cQ adF adB adT adH kH adR adO vB u2.2 vH bH vR vO)) rfl (fun H locs hP hD hS => ?_)
  obtain ⟨u3, eu3, h⟩ := bd_in h
  refine kI (va_runV (As := [.int u2.1]) (rest := []) ⟨hx, hb, hml, hown, hts⟩ (c_X4_settled l D cA cQ adF adB adT adH kH adR adO vB u2.2 vH bH vR vO u2.1 u3 eu3 _) (cwV 1 hts gX4_guarantee_X4_settled rfl rfl rfl (by decide +kernel) ⟨Nat.le_of_ble_eq_true rfl, Nat.le_of_ble_eq_true rfl⟩) (pV (ci := 4) (q := (RX4, TX4, 5)) hK hN hP hD [0, 1, 2, 3, 4, 5, 6, 7, 8, 9, 10, 11, 12, 13, 14, 15, 16, 17, 18, 19, 20, 21, 22, 23, 24, 25, 26, 27, 28, 29, 30, 31, 32, 33, 34, 35, 36, 37, 38, 39, 40, 41, 42, 43, 44, 45, 46, 47, 48, 49, 50, 51, 52, 53, 54, 55, 56, 57, 58, 59, 60, 61, 62, 63, 64, 65, 66, 67, 68, 69, 70, 71, 72, 73, 74, 75, 76, 77, 78, 79, 80, 81, 82, 83, 84, 85, 86, 87, 88, 89, 90, 91, 92, 93, 94] rfl rfl rfl rfl) rfl rfl hl.1 rfl (lv_room (Nat.le_of_ble_eq_true rfl)) dX4_guarantee_10 ⟨Nat.zero_le _, Nat.zero_le _⟩) hP hD hS hA [0, 1, 2, 3, 4, 5, 6, 7, 8, 9, 10, 11, 12, 13, 14, 15, 16, 17, 18, 19, 20, 21, 22, 23, 24, 25, 26, 27, 28, 29, 30, 31, 32, 33, 34, 35, 36, 37, 38, 39, 40, 41, 42, 43, 44, 45, 46, 47, 48, 49, 50, 51, 52, 53, 54, 55, 56, 57, 58, 59, 60, 61, 62, 63, 64, 65, 66, 67, 68, 69, 70, 71, 72, 73, 74, 75, 76, 77, 78, 79, 80, 81, 82, 83, 84, 85, 86, 87, 88, 89, 90, 91, 92, 93, 94] rfl rfl (ws' := (wF cA cQ adF adB adT adH kH adR adO u3.2.1 u2.2 u3.2.2.1 u3.2.2.2 vR vO)) rfl (fun H locs hP hD hS => ?_)
  cases h
  exact endI hx hb hr hlocks hP hS rfl dX4_guarantee_13
theorem iw_X0_countCleared_X0 : ∀ w ∈ wsX00, w ∈ wsX0_countCleared := fun _ h => List.mem_cons_of_mem _ (List.mem_append_right _ (h))
set_option maxHeartbeats 4000000 in
set_option maxRecDepth 100000 in
theorem c_X0_countCleared (l : Launch) (D : va_G) (cA cQ : ClassId) (adB : Nat → Nat) (vB : St) (p1 : Int32) (p2 : Int32) (o : St) (hf : X0_countCleared vB p1 p2 = some o) : Ctv l yX0_countCleared wsX0_countCleared ({ frames := 1, cells := 0, slots := 0, locals := 22 }) D (TY cA cQ) [.ref (adB 0), .int p1, .int p2] (wB cA adB vB) (wB cA adB o) := by
  refine Wk.v (cc := cX0_countCleared) (maxL := 3) (ret := none) (by decide) rfl (Nat.le_of_ble_eq_true rfl) ?_
  intro p e s m below meth c A ls hx hb hr hlocks hml hown hts hK hN hP hD hA hl
  have hown : s.vm.findClass RX0 = some m.cls := hown
  have hS : va_S A s.heap s.heap [] := va_S.rf
  have hl : lv_has ls 3 [(0, .ref (adB 0)), (1, .int p1), (2, .int p2)] := hl
  have h := hf
  unfold X0_countCleared at h
  refine lv_aload_n hx hb dX0_countCleared_0 rfl (lv_at hl 0 rfl) ?_
  refine va_get (D := D) (ci := 0) (v := .ref (adB 7)) (C := RX0) (T := TX0) (N := 13) hx hb hts iw_X0_countCleared_X0 hown hK hP 0 rfl rfl 6 (by decide) (hts (.fieldLink RX0 30 "FavourRings$Bank" "cleared" "[I") (List.mem_of_getElem? (i := 1) rfl)) (fun _ h9 => h9) rfl dX0_countCleared_1 ?_
  refine lv_iload_n hx hb dX0_countCleared_4 rfl (lv_at hl 1 rfl) ?_
  refine lv_iload_n hx hb dX0_countCleared_5 rfl (lv_at hl 2 rfl) ?_
  obtain ⟨u1, eu1, h⟩ := bd_in h
  refine kV (va_runSN (As := [.ref (adB 7), .int p1, .int p2]) (rest := []) ⟨hx, hb, hml, hown, hts⟩ (c_X4_add l D cA cQ (adB 7) 8 (vB 7) p1 p2 u1 eu1 _) ⟨va_cnB 3 hts gX0_countCleared_X4_add_n86 rfl rfl rfl hN.2.2.2.2.1 (hts (.initialized RX4) (List.mem_of_getElem? (i := 4) rfl)) (by decide +kernel) ⟨Nat.le_of_ble_eq_true rfl, Nat.le_of_ble_eq_true rfl⟩, (hts (.static yX4_add) (List.mem_of_getElem? (i := 3) rfl)), trivial⟩ (pS hK hN hP hD [7] rfl rfl) rfl rfl hl.1 rfl (lv_room (Nat.le_of_ble_eq_true rfl)) dX0_countCleared_6 ⟨Nat.zero_le _, Nat.zero_le _⟩) hP hD hS hA [7] rfl rfl (ws' := (wB cA adB (setA vB 7 u1))) rfl (fun H locs hP hD hS => ?_)
  refine lv_aload_n hx hb dX0_countCleared_9 rfl (lv_at hl 0 rfl) ?_
  refine va_get (D := D) (ci := 0) (v := .ref (adB 1)) (C := RX0) (T := TX0) (N := 13) hx hb hts iw_X0_countCleared_X0 hown hK hP 0 rfl rfl 0 (by decide) (hts (.fieldLink RX0 9 "FavourRings$Bank" "numbers" "[I") (List.mem_of_getElem? (i := 2) rfl)) (fun _ h9 => h9) rfl dX0_countCleared_10 ?_
  refine lv_bipush (v := (7 : Int32)) hx hb dX0_countCleared_13 (by decide) ?_
  refine lv_iload_n hx hb dX0_countCleared_15 rfl (lv_at hl 2 rfl) ?_
  obtain ⟨u2, eu2, h⟩ := bd_in h
  refine kV (va_runSN (As := [.ref (adB 1), .int (7 : Int32), .int p2]) (rest := []) ⟨hx, hb, hml, hown, hts⟩ (c_X4_add l D cA cQ (adB 1) 26 (vB 1) (7 : Int32) p2 u2 eu2 _) ⟨va_cnB 3 hts gX0_countCleared_X4_add_n86 rfl rfl rfl hN.2.2.2.2.1 (hts (.initialized RX4) (List.mem_of_getElem? (i := 4) rfl)) (by decide +kernel) ⟨Nat.le_of_ble_eq_true rfl, Nat.le_of_ble_eq_true rfl⟩, (hts (.static yX4_add) (List.mem_of_getElem? (i := 3) rfl)), trivial⟩ (pS hK hN hP hD [1] rfl rfl) rfl rfl hl.1 rfl (lv_room (Nat.le_of_ble_eq_true rfl)) dX0_countCleared_16 ⟨Nat.zero_le _, Nat.zero_le _⟩) hP hD hS hA [1] rfl rfl (ws' := (wB cA adB (setA (setA vB 7 u1) 1 u2))) rfl (fun H locs hP hD hS => ?_)
  cases h
  exact endV hx hb hr hlocks hP hS dX0_countCleared_19
theorem iw_X0_countRing_X0 : ∀ w ∈ wsX00, w ∈ wsX0_countRing := fun _ h => List.mem_cons_of_mem _ (List.mem_append_right _ (h))
set_option maxHeartbeats 4000000 in
set_option maxRecDepth 100000 in
theorem c_X0_countRing (l : Launch) (D : va_G) (cA cQ : ClassId) (adB : Nat → Nat) (vB : St) (o : St) (hf : X0_countRing vB = some o) : Ctv l yX0_countRing wsX0_countRing ({ frames := 1, cells := 0, slots := 0, locals := 22 }) D (TY cA cQ) [.ref (adB 0)] (wB cA adB vB) (wB cA adB o) := by
  refine Wk.v (cc := cX0_countRing) (maxL := 1) (ret := none) (by decide) rfl (Nat.le_of_ble_eq_true rfl) ?_
  intro p e s m below meth c A ls hx hb hr hlocks hml hown hts hK hN hP hD hA hl
  have hown : s.vm.findClass RX0 = some m.cls := hown
  have hS : va_S A s.heap s.heap [] := va_S.rf
  have hl : lv_has ls 1 [(0, .ref (adB 0))] := hl
  have h := hf
  unfold X0_countRing at h
  refine lv_aload_n hx hb dX0_countRing_0 rfl (lv_at hl 0 rfl) ?_
  refine va_get (D := D) (ci := 0) (v := .ref (adB 1)) (C := RX0) (T := TX0) (N := 13) hx hb hts iw_X0_countRing_X0 hown hK hP 0 rfl rfl 0 (by decide) (hts (.fieldLink RX0 9 "FavourRings$Bank" "numbers" "[I") (List.mem_of_getElem? (i := 1) rfl)) (fun _ h9 => h9) rfl dX0_countRing_1 ?_
  refine lv_bipush (v := (9 : Int32)) hx hb dX0_countRing_4 (by decide) ?_
  refine lv_iconst (v := (1 : Int32)) hx hb dX0_countRing_6 (by decide) ?_
  obtain ⟨u1, eu1, h⟩ := bd_in h
  refine kV (va_runSN (As := [.ref (adB 1), .int (9 : Int32), .int (1 : Int32)]) (rest := []) ⟨hx, hb, hml, hown, hts⟩ (c_X4_add l D cA cQ (adB 1) 26 (vB 1) (9 : Int32) (1 : Int32) u1 eu1 _) ⟨va_cnB 3 hts gX0_countRing_X4_add_n86 rfl rfl rfl hN.2.2.2.2.1 (hts (.initialized RX4) (List.mem_of_getElem? (i := 3) rfl)) (by decide +kernel) ⟨Nat.le_of_ble_eq_true rfl, Nat.le_of_ble_eq_true rfl⟩, (hts (.static yX4_add) (List.mem_of_getElem? (i := 2) rfl)), trivial⟩ (pS hK hN hP hD [1] rfl rfl) rfl rfl hl.1 rfl (lv_room (Nat.le_of_ble_eq_true rfl)) dX0_countRing_7 ⟨Nat.zero_le _, Nat.zero_le _⟩) hP hD hS hA [1] rfl rfl (ws' := (wB cA adB (setA vB 1 u1))) rfl (fun H locs hP hD hS => ?_)
  cases h
  exact endV hx hb hr hlocks hP hS dX0_countRing_10
theorem iw_X3_clearKind_X3 : ∀ w ∈ wsX30, w ∈ wsX3_clearKind := fun _ h => List.mem_cons_of_mem _ (List.mem_append_left _ (List.mem_append_right _ (h)))
set_option maxHeartbeats 4000000 in
set_option maxRecDepth 100000 in
theorem c_X3_clearKind (l : Launch) (D : va_G) (cA cQ : ClassId) (adR : Nat → Nat) (adB : Nat → Nat) (vR : St) (vB : St) (p2 : Int32) (o : Int32 × St × St) (hf : X3_clearKind vR vB p2 = some o) : Cti l yX3_clearKind wsX3_clearKind ({ frames := 3, cells := 0, slots := 0, locals := 77 }) D (TY cA cQ) [.ref (adR 0), .ref (adB 0), .int p2] (wR cA adR vR ++ (wB cA adB vB)) (wR cA adR o.2.1 ++ (wB cA adB o.2.2)) o.1 := by
  refine Wk.i (cc := cX3_clearKind) (maxL := 7) (ret := (some .int)) (by decide) rfl (Nat.le_of_ble_eq_true rfl) ?_
  intro p e s m below meth c A ls hx hb hr hlocks hml hown hts hK hN hP hD hA hl
  have hown : s.vm.findClass RX3 = some m.cls := hown
  have hS : va_S A s.heap s.heap [] := va_S.rf
  have hl : lv_has ls 7 [(0, .ref (adR 0)), (1, .ref (adB 0)), (2, .int p2)] := hl
  have B15 : ∀ (fu15 : Nat) (vR : St) (vB : St) (x3 : Int32) (x4 : Int32) (H : Heap) (locs : List Loc) (ls : Array Slot), X3_clearKind_l15 p2 fu15 vR vB x3 x4 = some o → va_P D vwCl (wR cA adR vR ++ (wB cA adB vB)) H → va_D A (wR cA adR vR ++ (wB cA adB vB)) → va_S A s.heap H locs → lv_has ls 7 [(0, .ref (adR 0)), (1, .ref (adB 0)), (2, .int p2), (3, .int x3), (4, .int x4)] → W p l e (headSpec wsX3_clearKind ({ frames := 3, cells := 0, slots := 0, locals := 77 })).room s m ([.ref (adR 0), .ref (adB 0), .int p2] : List Value).toArray below meth c H locs 0 0 (MQ below (QI D (wR cA adR o.2.1 ++ (wB cA adB o.2.2)) o.1 A) ([.ref (adR 0), .ref (adB 0), .int p2] : List Value).toArray s 0 0 A) (F0 m 15 ls []) := by
    intro fu15
    induction fu15 with
    | zero =>
      intro vR vB x3 x4 H locs ls h hP hD hS hl
      cases h
    | succ fu15 ih15 =>
      have B87 : ∀ (vR : St) (vB : St) (x3 : Int32) (x4 : Int32) (x5 : Int32) (H : Heap) (locs : List Loc) (ls : Array Slot), X3_clearKind_b87 p2 (X3_clearKind_l15 p2 fu15) vR vB x3 x4 x5 = some o → va_P D vwCl (wR cA adR vR ++ (wB cA adB vB)) H → va_D A (wR cA adR vR ++ (wB cA adB vB)) → va_S A s.heap H locs → lv_has ls 7 [(0, .ref (adR 0)), (1, .ref (adB 0)), (2, .int p2), (3, .int x3), (4, .int x4), (5, .int x5)] → W p l e (headSpec wsX3_clearKind ({ frames := 3, cells := 0, slots := 0, locals := 77 })).room s m ([.ref (adR 0), .ref (adB 0), .int p2] : List Value).toArray below meth c H locs 0 0 (MQ below (QI D (wR cA adR o.2.1 ++ (wB cA adB o.2.2)) o.1 A) ([.ref (adR 0), .ref (adB 0), .int p2] : List Value).toArray s 0 0 A) (F0 m 87 ls []) := by
        intro vR vB x3 x4 x5 H locs ls h hP hD hS hl
        unfold X3_clearKind_b87 at h
        refine lv_aload_n hx hb dX3_clearKind_87 rfl (lv_at hl 1 rfl) ?_
        obtain ⟨u1, eu1, h⟩ := bd_in h
        refine kV (va_runV (As := []) (rest := []) ⟨hx, hb, hml, hown, hts⟩ (c_X0_countRing l D cA cQ adB vB u1 eu1 _) (cwV 0 hts gX3_clearKind_X0_countRing rfl rfl rfl (by decide +kernel) ⟨Nat.le_of_ble_eq_true rfl, Nat.le_of_ble_eq_true rfl⟩) (pV (ci := 0) (q := (RX0, TX0, 13)) hK hN hP hD [5, 6, 7, 8, 9, 10, 11, 12, 13, 14, 15, 16, 17, 18] rfl rfl rfl rfl) rfl rfl hl.1 rfl (lv_room (Nat.le_of_ble_eq_true rfl)) dX3_clearKind_88 ⟨Nat.zero_le _, Nat.zero_le _⟩) hP hD hS hA [5, 6, 7, 8, 9, 10, 11, 12, 13, 14, 15, 16, 17, 18] rfl rfl (ws' := (wR cA adR vR ++ (wB cA adB u1))) rfl (fun H locs hP hD hS => ?_)
        refine lv_iload_n hx hb dX3_clearKind_91 rfl (lv_at hl 3 rfl) ?_
        refine lv_iload hx hb dX3_clearKind_92 (lv_at hl 5 rfl) ?_
        refine lv_aload_n hx hb dX3_clearKind_94 rfl (lv_at hl 0 rfl) ?_
        refine va_get (D := D) (ci := 3) (v := .int (vR 99 4)) (C := RX3) (T := TX3) (N := 5) hx hb hts iw_X3_clearKind_X3 hown hK hP 0 rfl rfl 4 (by decide) (hts (.fieldLink RX3 24 "FavourRings$Rings" "length" "I") (List.mem_of_getElem? (i := 2) rfl)) (fun _ h9 => h9) rfl dX3_clearKind_95 ?_
        refine lv_imul hx hb dX3_clearKind_98 ?_
        refine lv_iadd hx hb dX3_clearKind_99 ?_
        refine lv_istore_n (lv' := [(3, .int (x3 + (x5 * (vR 99 4)))), (0, .ref (adR 0)), (1, .ref (adB 0)), (2, .int p2), (4, .int x4), (5, .int x5)]) hx hb dX3_clearKind_100 rfl hl (by decide) rfl (fun ls hl => ?_)
        refine lv_iinc (v := (x4 + (1 : Int32))) (lv' := [(4, .int (x4 + (1 : Int32))), (3, .int (x3 + (x5 * (vR 99 4)))), (0, .ref (adR 0)), (1, .ref (adB 0)), (2, .int p2), (5, .int x5)]) hx hb dX3_clearKind_101 hl (k := 4) rfl rfl (by decide) rfl (fun ls hl => ?_)
        refine lv_goto (tgt := 15) hx hb dX3_clearKind_104 (by decide) ?_
        exact ih15 vR u1 (x3 + (x5 * (vR 99 4))) (x4 + (1 : Int32)) _ _ _ h hP hD hS (lv_sub hl [2, 3, 4, 1, 0] rfl)
      have B41 : ∀ (fu41 : Nat) (vR : St) (vB : St) (x3 : Int32) (x4 : Int32) (x5 : Int32) (x6 : Int32) (H : Heap) (locs : List Loc) (ls : Array Slot), X3_clearKind_l41 p2 (X3_clearKind_l15 p2 fu15) fu41 vR vB x3 x4 x5 x6 = some o → va_P D vwCl (wR cA adR vR ++ (wB cA adB vB)) H → va_D A (wR cA adR vR ++ (wB cA adB vB)) → va_S A s.heap H locs → lv_has ls 7 [(0, .ref (adR 0)), (1, .ref (adB 0)), (2, .int p2), (3, .int x3), (4, .int x4), (5, .int x5), (6, .int x6)] → W p l e (headSpec wsX3_clearKind ({ frames := 3, cells := 0, slots := 0, locals := 77 })).room s m ([.ref (adR 0), .ref (adB 0), .int p2] : List Value).toArray below meth c H locs 0 0 (MQ below (QI D (wR cA adR o.2.1 ++ (wB cA adB o.2.2)) o.1 A) ([.ref (adR 0), .ref (adB 0), .int p2] : List Value).toArray s 0 0 A) (F0 m 41 ls []) := by
        intro fu41
        induction fu41 with
        | zero =>
          intro vR vB x3 x4 x5 x6 H locs ls h hP hD hS hl
          cases h
        | succ fu41 ih41 =>
          intro vR vB x3 x4 x5 x6 H locs ls h hP hD hS hl
          rw [X3_clearKind_l41] at h
          refine lv_iload hx hb dX3_clearKind_41 (lv_at hl 6 rfl) ?_
          refine lv_aload_n hx hb dX3_clearKind_43 rfl (lv_at hl 0 rfl) ?_
          refine va_get (D := D) (ci := 3) (v := .int (vR 99 4)) (C := RX3) (T := TX3) (N := 5) hx hb hts iw_X3_clearKind_X3 hown hK hP 0 rfl rfl 4 (by decide) (hts (.fieldLink RX3 24 "FavourRings$Rings" "length" "I") (List.mem_of_getElem? (i := 2) rfl)) (fun _ h9 => h9) rfl dX3_clearKind_44 ?_
          refine lv_icmp_ge (tgt := 87) hx hb dX3_clearKind_47 (by decide) (fun c2 => ?_) (fun c2 => ?_)
          · have h := (if_pos c2).symm.trans h
            exact B87 vR vB x3 x4 x5 _ _ _ h hP hD hS (lv_sub hl [0, 1, 2, 3, 4, 5] rfl)
          · have h := (if_neg c2).symm.trans h
            refine lv_aload_n hx hb dX3_clearKind_50 rfl (lv_at hl 1 rfl) ?_
            refine lv_aload_n hx hb dX3_clearKind_51 rfl (lv_at hl 0 rfl) ?_
            refine lv_iload hx hb dX3_clearKind_52 (lv_at hl 6 rfl) ?_
            obtain ⟨u3, eu3, h⟩ := bd_in h
            refine kI (va_runV (As := [.int x6]) (rest := [.ref (adB 0)]) ⟨hx, hb, hml, hown, hts⟩ (c_X3_nextPupil l D cA cQ adR vR x6 u3 eu3 _) (cwV 1 hts gX3_clearKind_X3_nextPupil rfl rfl rfl (by decide +kernel) ⟨Nat.le_of_ble_eq_true rfl, Nat.le_of_ble_eq_true rfl⟩) (pV (ci := 3) (q := (RX3, TX3, 5)) hK hN hP hD [0, 1, 2, 3, 4] rfl rfl rfl rfl) rfl rfl hl.1 rfl (lv_room (Nat.le_of_ble_eq_true rfl)) dX3_clearKind_54 ⟨Nat.zero_le _, Nat.zero_le _⟩) hP hD hS hA [0, 1, 2, 3, 4] rfl rfl (ws' := (wR cA adR vR ++ (wB cA adB vB))) rfl (fun H locs hP hD hS => ?_)
            refine lv_aload_n hx hb dX3_clearKind_57 rfl (lv_at hl 0 rfl) ?_
            refine lv_iload hx hb dX3_clearKind_58 (lv_at hl 6 rfl) ?_
            obtain ⟨u4, eu4, h⟩ := bd_in h
            refine kI (va_runV (As := [.int x6]) (rest := [.int u3, .ref (adB 0)]) ⟨hx, hb, hml, hown, hts⟩ (c_X3_pupilBehind l D cA cQ adR vR x6 u4 eu4 _) (cwV 1 hts gX3_clearKind_X3_pupilBehind rfl rfl rfl (by decide +kernel) ⟨Nat.le_of_ble_eq_true rfl, Nat.le_of_ble_eq_true rfl⟩) (pV (ci := 3) (q := (RX3, TX3, 5)) hK hN hP hD [0, 1, 2, 3, 4] rfl rfl rfl rfl) rfl rfl hl.1 rfl (lv_room (Nat.le_of_ble_eq_true rfl)) dX3_clearKind_60 ⟨Nat.zero_le _, Nat.zero_le _⟩) hP hD hS hA [0, 1, 2, 3, 4] rfl rfl (ws' := (wR cA adR vR ++ (wB cA adB vB))) rfl (fun H locs hP hD hS => ?_)
            refine lv_iload_n hx hb dX3_clearKind_63 rfl (lv_at hl 2 rfl) ?_
            refine lv_iload hx hb dX3_clearKind_64 (lv_at hl 5 rfl) ?_
            obtain ⟨u5, eu5, h⟩ := bd_in h
            refine kV (va_runV (As := [.int u3, .int u4, .int p2, .int x5]) (rest := []) ⟨hx, hb, hml, hown, hts⟩ (c_X0_takeFavours l D cA cQ adB vB u3 u4 p2 x5 u5 eu5 _) (cwV 4 hts gX3_clearKind_X0_takeFavours rfl rfl rfl (by decide +kernel) ⟨Nat.le_of_ble_eq_true rfl, Nat.le_of_ble_eq_true rfl⟩) (pV (ci := 0) (q := (RX0, TX0, 13)) hK hN hP hD [5, 6, 7, 8, 9, 10, 11, 12, 13, 14, 15, 16, 17, 18] rfl rfl rfl rfl) rfl rfl hl.1 rfl (lv_room (Nat.le_of_ble_eq_true rfl)) dX3_clearKind_66 ⟨Nat.zero_le _, Nat.zero_le _⟩) hP hD hS hA [5, 6, 7, 8, 9, 10, 11, 12, 13, 14, 15, 16, 17, 18] rfl rfl (ws' := (wR cA adR vR ++ (wB cA adB u5))) rfl (fun H locs hP hD hS => ?_)
            refine lv_aload_n hx hb dX3_clearKind_69 rfl (lv_at hl 1 rfl) ?_
            refine lv_aload_n hx hb dX3_clearKind_70 rfl (lv_at hl 0 rfl) ?_
            refine lv_iload hx hb dX3_clearKind_71 (lv_at hl 6 rfl) ?_
            obtain ⟨u6, eu6, h⟩ := bd_in h
            refine kI (va_runV (As := [.int x6]) (rest := [.ref (adB 0)]) ⟨hx, hb, hml, hown, hts⟩ (c_X3_nextPupil l D cA cQ adR vR x6 u6 eu6 _) (cwV 1 hts gX3_clearKind_X3_nextPupil rfl rfl rfl (by decide +kernel) ⟨Nat.le_of_ble_eq_true rfl, Nat.le_of_ble_eq_true rfl⟩) (pV (ci := 3) (q := (RX3, TX3, 5)) hK hN hP hD [0, 1, 2, 3, 4] rfl rfl rfl rfl) rfl rfl hl.1 rfl (lv_room (Nat.le_of_ble_eq_true rfl)) dX3_clearKind_73 ⟨Nat.zero_le _, Nat.zero_le _⟩) hP hD hS hA [0, 1, 2, 3, 4] rfl rfl (ws' := (wR cA adR vR ++ (wB cA adB u5))) rfl (fun H locs hP hD hS => ?_)
            refine lv_iload hx hb dX3_clearKind_76 (lv_at hl 5 rfl) ?_
            obtain ⟨u7, eu7, h⟩ := bd_in h
            refine kV (va_runV (As := [.int u6, .int x5]) (rest := []) ⟨hx, hb, hml, hown, hts⟩ (c_X0_countCleared l D cA cQ adB u5 u6 x5 u7 eu7 _) (cwV 2 hts gX3_clearKind_X0_countCleared rfl rfl rfl (by decide +kernel) ⟨Nat.le_of_ble_eq_true rfl, Nat.le_of_ble_eq_true rfl⟩) (pV (ci := 0) (q := (RX0, TX0, 13)) hK hN hP hD [5, 6, 7, 8, 9, 10, 11, 12, 13, 14, 15, 16, 17, 18] rfl rfl rfl rfl) rfl rfl hl.1 rfl (lv_room (Nat.le_of_ble_eq_true rfl)) dX3_clearKind_78 ⟨Nat.zero_le _, Nat.zero_le _⟩) hP hD hS hA [5, 6, 7, 8, 9, 10, 11, 12, 13, 14, 15, 16, 17, 18] rfl rfl (ws' := (wR cA adR vR ++ (wB cA adB u7))) rfl (fun H locs hP hD hS => ?_)
            refine lv_iinc (v := (x6 + (1 : Int32))) (lv' := [(6, .int (x6 + (1 : Int32))), (0, .ref (adR 0)), (1, .ref (adB 0)), (2, .int p2), (3, .int x3), (4, .int x4), (5, .int x5)]) hx hb dX3_clearKind_81 hl (k := 6) rfl rfl (by decide) rfl (fun ls hl => ?_)
            refine lv_goto (tgt := 41) hx hb dX3_clearKind_84 (by decide) ?_
            exact ih41 vR u7 x3 x4 x5 (x6 + (1 : Int32)) _ _ _ h hP hD hS (lv_sub hl [1, 2, 3, 4, 5, 6, 0] rfl)
      intro vR vB x3 x4 H locs ls h hP hD hS hl
      rw [X3_clearKind_l15] at h
      refine lv_iload hx hb dX3_clearKind_15 (lv_at hl 4 rfl) ?_
      refine lv_sipush (v := (1000 : Int32)) hx hb dX3_clearKind_17 (by decide) ?_
      refine lv_icmp_ge (tgt := 107) hx hb dX3_clearKind_20 (by decide) (fun c8 => ?_) (fun c8 => ?_)
      · have h := (if_pos c8).symm.trans h
        refine lv_iload_n hx hb dX3_clearKind_107 rfl (lv_at hl 3 rfl) ?_
        cases h
        exact endI hx hb hr hlocks hP hS rfl dX3_clearKind_108
      · have h := (if_neg c8).symm.trans h
        refine lv_aload_n hx hb dX3_clearKind_23 rfl (lv_at hl 0 rfl) ?_
        refine lv_aload_n hx hb dX3_clearKind_24 rfl (lv_at hl 1 rfl) ?_
        refine lv_iload_n hx hb dX3_clearKind_25 rfl (lv_at hl 2 rfl) ?_
        obtain ⟨u9, eu9, h⟩ := bd_in h
        refine kI (va_runV (As := [.ref (adB 0), .int p2]) (rest := []) ⟨hx, hb, hml, hown, hts⟩ (c_X3_findNext l D cA cQ adR adB vR vB p2 u9 eu9 _) (cwV 2 hts gX3_clearKind_X3_findNext rfl rfl rfl (by decide +kernel) ⟨Nat.le_of_ble_eq_true rfl, Nat.le_of_ble_eq_true rfl⟩) (pV (ci := 3) (q := (RX3, TX3, 5)) hK hN hP hD [0, 1, 2, 3, 4, 5, 6, 7, 8, 9, 10, 11, 12, 13, 14, 15, 16, 17, 18] rfl rfl rfl rfl) rfl rfl hl.1 rfl (lv_room (Nat.le_of_ble_eq_true rfl)) dX3_clearKind_26 ⟨Nat.zero_le _, Nat.zero_le _⟩) hP hD hS hA [0, 1, 2, 3, 4, 5, 6, 7, 8, 9, 10, 11, 12, 13, 14, 15, 16, 17, 18] rfl rfl (ws' := (wR cA adR u9.2 ++ (wB cA adB vB))) rfl (fun H locs hP hD hS => ?_)
        refine lv_if_eq (tgt := 107) hx hb dX3_clearKind_29 (by decide) (fun c10 => ?_) (fun c10 => ?_)
        · have h := (if_pos c10).symm.trans h
          refine lv_iload_n hx hb dX3_clearKind_107 rfl (lv_at hl 3 rfl) ?_
          cases h
          exact endI hx hb hr hlocks hP hS rfl dX3_clearKind_108
        · have h := (if_neg c10).symm.trans h
          refine lv_aload_n hx hb dX3_clearKind_32 rfl (lv_at hl 0 rfl) ?_
          obtain ⟨u11, eu11, h⟩ := bd_in h
          refine kI (va_runV (As := []) (rest := []) ⟨hx, hb, hml, hown, hts⟩ (c_X3_nextAmount l D cA cQ adR u9.2 u11 eu11 _) (cwV 0 hts gX3_clearKind_X3_nextAmount rfl rfl rfl (by decide +kernel) ⟨Nat.le_of_ble_eq_true rfl, Nat.le_of_ble_eq_true rfl⟩) (pV (ci := 3) (q := (RX3, TX3, 5)) hK hN hP hD [0, 1, 2, 3, 4] rfl rfl rfl rfl) rfl rfl hl.1 rfl (lv_room (Nat.le_of_ble_eq_true rfl)) dX3_clearKind_33 ⟨Nat.zero_le _, Nat.zero_le _⟩) hP hD hS hA [0, 1, 2, 3, 4] rfl rfl (ws' := (wR cA adR u9.2 ++ (wB cA adB vB))) rfl (fun H locs hP hD hS => ?_)
          refine lv_istore (lv' := [(5, .int u11), (0, .ref (adR 0)), (1, .ref (adB 0)), (2, .int p2), (3, .int x3), (4, .int x4)]) hx hb dX3_clearKind_36 hl (by decide) rfl (fun ls hl => ?_)
          refine lv_iconst (v := (0 : Int32)) hx hb dX3_clearKind_38 (by decide) ?_
          refine lv_istore (lv' := [(6, .int (0 : Int32)), (5, .int u11), (0, .ref (adR 0)), (1, .ref (adB 0)), (2, .int p2), (3, .int x3), (4, .int x4)]) hx hb dX3_clearKind_39 hl (by decide) rfl (fun ls hl => ?_)
          exact B41 FU u9.2 vB x3 x4 u11 (0 : Int32) _ _ _ h hP hD hS (lv_sub hl [2, 3, 4, 5, 6, 1, 0] rfl)
  have h := hf
  unfold X3_clearKind at h
  refine lv_iload_n hx hb dX3_clearKind_0 rfl (lv_at hl 2 rfl) ?_
  obtain ⟨u12, eu12, h⟩ := bd_in h
  refine kI (va_runSN (As := [.int p2]) (rest := []) ⟨hx, hb, hml, hown, hts⟩ (c_X4_isKind l D cA cQ  p2 u12 eu12 _) ⟨va_cnB 1 hts gX3_clearKind_X4_isKind_n56 rfl rfl rfl hN.2.2.2.2.2.2.2.2.2.1 (hts (.initialized RX4) (List.mem_of_getElem? (i := 4) rfl)) (by decide +kernel) ⟨Nat.le_of_ble_eq_true rfl, Nat.le_of_ble_eq_true rfl⟩, (hts (.static yX4_isKind) (List.mem_of_getElem? (i := 3) rfl)), trivial⟩ (pS hK hN hP hD [] rfl rfl) rfl rfl hl.1 rfl (lv_room (Nat.le_of_ble_eq_true rfl)) dX3_clearKind_1 ⟨Nat.zero_le _, Nat.zero_le _⟩) hP hD hS hA [] rfl rfl (ws' := (wR cA adR vR ++ (wB cA adB vB))) rfl (fun H locs hP hD hS => ?_)
  refine lv_if_ne (tgt := 10) hx hb dX3_clearKind_4 (by decide) (fun c13 => ?_) (fun c13 => ?_)
  · have h := (if_neg c13).symm.trans h
    refine lv_iconst (v := (0 : Int32)) hx hb dX3_clearKind_10 (by decide) ?_
    refine lv_istore_n (lv' := [(3, .int (0 : Int32)), (0, .ref (adR 0)), (1, .ref (adB 0)), (2, .int p2)]) hx hb dX3_clearKind_11 rfl hl (by decide) rfl (fun ls hl => ?_)
    refine lv_iconst (v := (0 : Int32)) hx hb dX3_clearKind_12 (by decide) ?_
    refine lv_istore (lv' := [(4, .int (0 : Int32)), (3, .int (0 : Int32)), (0, .ref (adR 0)), (1, .ref (adB 0)), (2, .int p2)]) hx hb dX3_clearKind_13 hl (by decide) rfl (fun ls hl => ?_)
    exact B15 FU vR vB (0 : Int32) (0 : Int32) _ _ _ h hP hD hS (lv_sub hl [2, 3, 4, 1, 0] rfl)
  · have h := (if_pos c13).symm.trans h
    refine lv_ldc (v := (-1000001 : Int32)) hx hb hown (hts (.constant RX3 60 (-1000001)) (List.mem_of_getElem? (i := 1) rfl)) dX3_clearKind_7 ?_
    cases h
    exact endI hx hb hr hlocks hP hS rfl dX3_clearKind_9
theorem iw_X4_clear_X4 : ∀ w ∈ wsX40, w ∈ wsX4_clear := fun _ h => List.mem_cons_of_mem _ (List.mem_append_left _ (List.mem_append_left _ (List.mem_append_left _ (List.mem_append_right _ (h)))))
set_option maxHeartbeats 4000000 in
set_option maxRecDepth 100000 in
theorem c_X4_clear (l : Launch) (D : va_G) (cA cQ : ClassId) (adF : Nat) (adB : Nat → Nat) (adT : Nat → Nat) (adH : Nat → Nat) (kH : Nat → Nat → Nat) (adR : Nat → Nat) (adO : Nat → Nat) (vB : St) (vT : St) (vH : St) (bH : Nat → St) (vR : St) (vO : St) (p1 : Int32) (o : Int32 × St × St × St × (Nat → St) × St) (hf : X4_clear vB vT vH bH vR vO p1 = some o) : Cti l yX4_clear wsX4_clear ({ frames := 6, cells := 0, slots := 0, locals := 165 }) D (TY cA cQ) [.ref adF, .int p1] (wF cA cQ adF adB adT adH kH adR adO vB vT vH bH vR vO) (wF cA cQ adF adB adT adH kH adR adO o.2.1 o.2.2.1 o.2.2.2.1 o.2.2.2.2.1 o.2.2.2.2.2 vO) o.1 := by
  refine Wk.i (cc := cX4_clear) (maxL := 2) (ret := (some .int)) (by decide) rfl (Nat.le_of_ble_eq_true rfl) ?_
  intro p e s m below meth c A ls hx hb hr hlocks hml hown hts hK hN hP hD hA hl
  have hown : s.vm.findClass RX4 = some m.cls := hown
  have hS : va_S A s.heap s.heap [] := va_S.rf
  have hl : lv_has ls 2 [(0, .ref adF), (1, .int p1)] := hl
  have h := hf
  unfold X4_clear at h
  refine lv_aload_n hx hb dX4_clear_0 rfl (lv_at hl 0 rfl) ?_
  refine lv_aload_n hx hb dX4_clear_1 rfl (lv_at hl 0 rfl) ?_
  refine va_get (D := D) (ci := 4) (v := .ref (adR 0)) (C := RX4) (T := TX4) (N := 5) hx hb hts iw_X4_clear_X4 hown hK hP 0 rfl rfl 3 (by decide) (hts (.fieldLink RX4 29 "FavourRings" "rings" "LFavourRings$Rings;") (List.mem_of_getElem? (i := 1) rfl)) (fun _ h9 => h9) rfl dX4_clear_2 ?_
  refine lv_aload_n hx hb dX4_clear_5 rfl (lv_at hl 0 rfl) ?_
  obtain ⟨u1, eu1, h⟩ := bd_in h
  refine kR (va_runV (As := []) (rest := [.ref (adR 0), .ref adF]) ⟨hx, hb, hml, hown, hts⟩ (c_X4_freshTrial l D cA cQ adF adB adT adH kH adR adO vB vT vH bH vR vO u1 eu1 _) (cwV 0 hts gX4_clear_X4_freshTrial rfl rfl rfl (by decide +kernel) ⟨Nat.le_of_ble_eq_true rfl, Nat.le_of_ble_eq_true rfl⟩) (pV (ci := 4) (q := (RX4, TX4, 5)) hK hN hP hD [0, 1, 2, 3, 4, 5, 6, 7, 8, 9, 10, 11, 12, 13, 14, 15, 16, 17, 18, 19, 20, 21, 22, 23, 24, 25, 26, 27, 28, 29, 30, 31, 32, 33, 34, 35, 36, 37, 38, 39, 40, 41, 42, 43, 44, 45, 46, 47, 48, 49, 50, 51, 52, 53, 54, 55, 56, 57, 58, 59, 60, 61, 62, 63, 64, 65, 66, 67, 68, 69, 70, 71, 72, 73, 74, 75, 76, 77, 78, 79, 80, 81, 82, 83, 84, 85, 86, 87, 88, 89, 90, 91, 92, 93, 94] rfl rfl rfl rfl) rfl rfl hl.1 rfl (lv_room (Nat.le_of_ble_eq_true rfl)) dX4_clear_6 ⟨Nat.zero_le _, Nat.zero_le _⟩) hP hD hS hA [0, 1, 2, 3, 4, 5, 6, 7, 8, 9, 10, 11, 12, 13, 14, 15, 16, 17, 18, 19, 20, 21, 22, 23, 24, 25, 26, 27, 28, 29, 30, 31, 32, 33, 34, 35, 36, 37, 38, 39, 40, 41, 42, 43, 44, 45, 46, 47, 48, 49, 50, 51, 52, 53, 54, 55, 56, 57, 58, 59, 60, 61, 62, 63, 64, 65, 66, 67, 68, 69, 70, 71, 72, 73, 74, 75, 76, 77, 78, 79, 80, 81, 82, 83, 84, 85, 86, 87, 88, 89, 90, 91, 92, 93, 94] rfl rfl (ws' := (wF cA cQ adF adB adT adH kH adR adO vB u1 vH bH vR vO)) rfl (fun H locs hP hD hS => ?_)
  refine lv_iload_n hx hb dX4_clear_9 rfl (lv_at hl 1 rfl) ?_
  obtain ⟨u2, eu2, h⟩ := bd_in h
  refine kI (va_runV (As := [.ref (adT 0), .int p1]) (rest := [.ref adF]) ⟨hx, hb, hml, hown, hts⟩ (c_X3_clearKind l D cA cQ adR adT vR u1 p1 u2 eu2 _) (cwV 2 hts gX4_clear_X3_clearKind rfl rfl rfl (by decide +kernel) ⟨Nat.le_of_ble_eq_true rfl, Nat.le_of_ble_eq_true rfl⟩) (pV (ci := 3) (q := (RX3, TX3, 5)) hK hN hP hD [87, 88, 89, 90, 91, 15, 16, 17, 18, 19, 20, 21, 22, 23, 24, 25, 26, 27, 28] rfl rfl rfl rfl) rfl rfl hl.1 rfl (lv_room (Nat.le_of_ble_eq_true rfl)) dX4_clear_10 ⟨Nat.zero_le _, Nat.zero_le _⟩) hP hD hS hA [87, 88, 89, 90, 91, 15, 16, 17, 18, 19, 20, 21, 22, 23, 24, 25, 26, 27, 28] rfl rfl (ws' := (wF cA cQ adF adB adT adH kH adR adO vB u2.2.2 vH bH u2.2.1 vO)) rfl (fun H locs hP hD hS => ?_)
  obtain ⟨u3, eu3, h⟩ := bd_in h
  refine kI (va_runV (As := [.int u2.1]) (rest := []) ⟨hx, hb, hml, hown, hts⟩ (c_X4_settled l D cA cQ adF adB adT adH kH adR adO vB u2.2.2 vH bH u2.2.1 vO u2.1 u3 eu3 _) (cwV 1 hts gX4_clear_X4_settled rfl rfl rfl (by decide +kernel) ⟨Nat.le_of_ble_eq_true rfl, Nat.le_of_ble_eq_true rfl⟩) (pV (ci := 4) (q := (RX4, TX4, 5)) hK hN hP hD [0, 1, 2, 3, 4, 5, 6, 7, 8, 9, 10, 11, 12, 13, 14, 15, 16, 17, 18, 19, 20, 21, 22, 23, 24, 25, 26, 27, 28, 29, 30, 31, 32, 33, 34, 35, 36, 37, 38, 39, 40, 41, 42, 43, 44, 45, 46, 47, 48, 49, 50, 51, 52, 53, 54, 55, 56, 57, 58, 59, 60, 61, 62, 63, 64, 65, 66, 67, 68, 69, 70, 71, 72, 73, 74, 75, 76, 77, 78, 79, 80, 81, 82, 83, 84, 85, 86, 87, 88, 89, 90, 91, 92, 93, 94] rfl rfl rfl rfl) rfl rfl hl.1 rfl (lv_room (Nat.le_of_ble_eq_true rfl)) dX4_clear_13 ⟨Nat.zero_le _, Nat.zero_le _⟩) hP hD hS hA [0, 1, 2, 3, 4, 5, 6, 7, 8, 9, 10, 11, 12, 13, 14, 15, 16, 17, 18, 19, 20, 21, 22, 23, 24, 25, 26, 27, 28, 29, 30, 31, 32, 33, 34, 35, 36, 37, 38, 39, 40, 41, 42, 43, 44, 45, 46, 47, 48, 49, 50, 51, 52, 53, 54, 55, 56, 57, 58, 59, 60, 61, 62, 63, 64, 65, 66, 67, 68, 69, 70, 71, 72, 73, 74, 75, 76, 77, 78, 79, 80, 81, 82, 83, 84, 85, 86, 87, 88, 89, 90, 91, 92, 93, 94] rfl rfl (ws' := (wF cA cQ adF adB adT adH kH adR adO u3.2.1 u2.2.2 u3.2.2.1 u3.2.2.2 u2.2.1 vO)) rfl (fun H locs hP hD hS => ?_)
  cases h
  exact endI hx hb hr hlocks hP hS rfl dX4_clear_16
set_option maxHeartbeats 4000000 in
set_option maxRecDepth 100000 in
theorem c_X4_mostOfSetting (l : Launch) (D : va_G) (cA cQ : ClassId) (p0 : Int32) (o : Int32) (hf : X4_mostOfSetting p0 = some o) : Cti l yX4_mostOfSetting wsX4_mostOfSetting ({ frames := 0, cells := 0, slots := 0, locals := 0 }) D (TY cA cQ) [.int p0] ([] : va_W) ([] : va_W) o := by
  refine Wk.i (cc := cX4_mostOfSetting) (maxL := 1) (ret := (some .int)) (by decide) rfl (Nat.le_of_ble_eq_true rfl) ?_
  intro p e s m below meth c A ls hx hb hr hlocks hml hown hts hK hN hP hD hA hl
  have hown : s.vm.findClass RX4 = some m.cls := hown
  have hS : va_S A s.heap s.heap [] := va_S.rf
  have hl : lv_has ls 1 [(0, .int p0)] := hl
  have h := hf
  unfold X4_mostOfSetting at h
  refine lv_iload_n hx hb dX4_mostOfSetting_0 rfl (lv_at hl 0 rfl) ?_
  refine lv_iconst (v := (4 : Int32)) hx hb dX4_mostOfSetting_1 (by decide) ?_
  refine lv_icmp_ne (tgt := 10) hx hb dX4_mostOfSetting_2 (by decide) (fun c1 => ?_) (fun c1 => ?_)
  · have h := (if_neg c1).symm.trans h
    refine lv_bipush (v := (20 : Int32)) hx hb dX4_mostOfSetting_10 (by decide) ?_
    cases h
    exact endI hx hb hr hlocks hP hS rfl dX4_mostOfSetting_12
  · have h := (if_pos c1).symm.trans h
    refine lv_bipush (v := (99 : Int32)) hx hb dX4_mostOfSetting_5 (by decide) ?_
    refine lv_goto (tgt := 12) hx hb dX4_mostOfSetting_7 (by decide) ?_
    cases h
    exact endI hx hb hr hlocks hP hS rfl dX4_mostOfSetting_12
theorem iw_X0_changeSetting_X0 : ∀ w ∈ wsX00, w ∈ wsX0_changeSetting := fun _ h => List.mem_cons_of_mem _ (List.mem_append_right _ (h))
set_option maxHeartbeats 4000000 in
set_option maxRecDepth 100000 in
theorem c_X0_changeSetting (l : Launch) (D : va_G) (cA cQ : ClassId) (adB : Nat → Nat) (vB : St) (p1 : Int32) (p2 : Int32) (o : Int32 × St) (hf : X0_changeSetting vB p1 p2 = some o) : Cti l yX0_changeSetting wsX0_changeSetting ({ frames := 1, cells := 0, slots := 0, locals := 22 }) D (TY cA cQ) [.ref (adB 0), .int p1, .int p2] (wB cA adB vB) (wB cA adB o.2) o.1 := by
  refine Wk.i (cc := cX0_changeSetting) (maxL := 4) (ret := (some .int)) (by decide) rfl (Nat.le_of_ble_eq_true rfl) ?_
  intro p e s m below meth c A ls hx hb hr hlocks hml hown hts hK hN hP hD hA hl
  have hown : s.vm.findClass RX0 = some m.cls := hown
  have hS : va_S A s.heap s.heap [] := va_S.rf
  have hl : lv_has ls 4 [(0, .ref (adB 0)), (1, .int p1), (2, .int p2)] := hl
  have h := hf
  unfold X0_changeSetting at h
  refine lv_iload_n hx hb dX0_changeSetting_0 rfl (lv_at hl 1 rfl) ?_
  refine lv_if_lt (tgt := 23) hx hb dX0_changeSetting_1 (by decide) (fun c1 => ?_) (fun c1 => ?_)
  · have h := (if_pos c1).symm.trans h
    refine lv_ldc (v := (-1000001 : Int32)) hx hb hown (hts (.constant RX0 93 (-1000001)) (List.mem_of_getElem? (i := 1) rfl)) dX0_changeSetting_23 ?_
    cases h
    exact endI hx hb hr hlocks hP hS rfl dX0_changeSetting_25
  · have h := (if_neg c1).symm.trans h
    refine lv_iload_n hx hb dX0_changeSetting_4 rfl (lv_at hl 1 rfl) ?_
    refine lv_bipush (v := (6 : Int32)) hx hb dX0_changeSetting_5 (by decide) ?_
    refine lv_icmp_ge (tgt := 23) hx hb dX0_changeSetting_7 (by decide) (fun c2 => ?_) (fun c2 => ?_)
    · have h := (if_pos c2).symm.trans h
      refine lv_ldc (v := (-1000001 : Int32)) hx hb hown (hts (.constant RX0 93 (-1000001)) (List.mem_of_getElem? (i := 1) rfl)) dX0_changeSetting_23 ?_
      cases h
      exact endI hx hb hr hlocks hP hS rfl dX0_changeSetting_25
    · have h := (if_neg c2).symm.trans h
      refine lv_iload_n hx hb dX0_changeSetting_10 rfl (lv_at hl 2 rfl) ?_
      refine lv_iconst (v := (1 : Int32)) hx hb dX0_changeSetting_11 (by decide) ?_
      refine lv_icmp_lt (tgt := 23) hx hb dX0_changeSetting_12 (by decide) (fun c3 => ?_) (fun c3 => ?_)
      · have h := (if_pos c3).symm.trans h
        refine lv_ldc (v := (-1000001 : Int32)) hx hb hown (hts (.constant RX0 93 (-1000001)) (List.mem_of_getElem? (i := 1) rfl)) dX0_changeSetting_23 ?_
        cases h
        exact endI hx hb hr hlocks hP hS rfl dX0_changeSetting_25
      · have h := (if_neg c3).symm.trans h
        refine lv_iload_n hx hb dX0_changeSetting_15 rfl (lv_at hl 2 rfl) ?_
        refine lv_iload_n hx hb dX0_changeSetting_16 rfl (lv_at hl 1 rfl) ?_
        obtain ⟨u4, eu4, h⟩ := bd_in h
        refine kI (va_runSN (As := [.int p1]) (rest := [.int p2]) ⟨hx, hb, hml, hown, hts⟩ (c_X4_mostOfSetting l D cA cQ  p1 u4 eu4 _) ⟨va_cnB 1 hts gX0_changeSetting_X4_mostOfSetting_n147 rfl rfl rfl hN.2.2.2.2.2.2.2.1 (hts (.initialized RX4) (List.mem_of_getElem? (i := 4) rfl)) (by decide +kernel) ⟨Nat.le_of_ble_eq_true rfl, Nat.le_of_ble_eq_true rfl⟩, (hts (.static yX4_mostOfSetting) (List.mem_of_getElem? (i := 3) rfl)), trivial⟩ (pS hK hN hP hD [] rfl rfl) rfl rfl hl.1 rfl (lv_room (Nat.le_of_ble_eq_true rfl)) dX0_changeSetting_17 ⟨Nat.zero_le _, Nat.zero_le _⟩) hP hD hS hA [] rfl rfl (ws' := (wB cA adB vB)) rfl (fun H locs hP hD hS => ?_)
        refine lv_icmp_le (tgt := 26) hx hb dX0_changeSetting_20 (by decide) (fun c5 => ?_) (fun c5 => ?_)
        · have h := (if_pos c5).symm.trans h
          refine lv_aload_n hx hb dX0_changeSetting_26 rfl (lv_at hl 0 rfl) ?_
          refine lv_bipush (v := (20 : Int32)) hx hb dX0_changeSetting_27 (by decide) ?_
          refine lv_iload_n hx hb dX0_changeSetting_29 rfl (lv_at hl 1 rfl) ?_
          refine lv_iadd hx hb dX0_changeSetting_30 ?_
          obtain ⟨u6, eu6, h⟩ := bd_in h
          refine kI (va_runV (As := [.int ((20 : Int32) + p1)]) (rest := []) ⟨hx, hb, hml, hown, hts⟩ (c_X0_number l D cA cQ adB vB ((20 : Int32) + p1) u6 eu6 _) (cwV 1 hts gX0_changeSetting_X0_number rfl rfl rfl (by decide +kernel) ⟨Nat.le_of_ble_eq_true rfl, Nat.le_of_ble_eq_true rfl⟩) (pV (ci := 0) (q := (RX0, TX0, 13)) hK hN hP hD [0, 1, 2, 3, 4, 5, 6, 7, 8, 9, 10, 11, 12, 13] rfl rfl rfl rfl) rfl rfl hl.1 rfl (lv_room (Nat.le_of_ble_eq_true rfl)) dX0_changeSetting_31 ⟨Nat.zero_le _, Nat.zero_le _⟩) hP hD hS hA [0, 1, 2, 3, 4, 5, 6, 7, 8, 9, 10, 11, 12, 13] rfl rfl (ws' := (wB cA adB vB)) rfl (fun H locs hP hD hS => ?_)
          refine lv_istore_n (lv' := [(3, .int u6), (0, .ref (adB 0)), (1, .int p1), (2, .int p2)]) hx hb dX0_changeSetting_34 rfl hl (by decide) rfl (fun ls hl => ?_)
          refine lv_aload_n hx hb dX0_changeSetting_35 rfl (lv_at hl 1 rfl) ?_
          refine va_get (D := D) (ci := 0) (v := .ref (adB 1)) (C := RX0) (T := TX0) (N := 13) hx hb hts iw_X0_changeSetting_X0 hown hK hP 0 rfl rfl 0 (by decide) (hts (.fieldLink RX0 9 "FavourRings$Bank" "numbers" "[I") (List.mem_of_getElem? (i := 2) rfl)) (fun _ h9 => h9) rfl dX0_changeSetting_36 ?_
          refine lv_bipush (v := (20 : Int32)) hx hb dX0_changeSetting_39 (by decide) ?_
          refine lv_iload_n hx hb dX0_changeSetting_41 rfl (lv_at hl 2 rfl) ?_
          refine lv_iadd hx hb dX0_changeSetting_42 ?_
          refine lv_iload_n hx hb dX0_changeSetting_43 rfl (lv_at hl 3 rfl) ?_
          obtain ⟨u7, eu7, h⟩ := bd_in h
          refine kV (va_runSN (As := [.ref (adB 1), .int ((20 : Int32) + p1), .int p2]) (rest := []) ⟨hx, hb, hml, hown, hts⟩ (c_X4_put l D cA cQ (adB 1) 26 (vB 1) ((20 : Int32) + p1) p2 u7 eu7 _) ⟨va_cnB 3 hts gX0_changeSetting_X4_put_n55 rfl rfl rfl hN.2.1 (hts (.initialized RX4) (List.mem_of_getElem? (i := 4) rfl)) (by decide +kernel) ⟨Nat.le_of_ble_eq_true rfl, Nat.le_of_ble_eq_true rfl⟩, (hts (.static yX4_put) (List.mem_of_getElem? (i := 11) rfl)), trivial⟩ (pS hK hN hP hD [1] rfl rfl) rfl rfl hl.1 rfl (lv_room (Nat.le_of_ble_eq_true rfl)) dX0_changeSetting_44 ⟨Nat.zero_le _, Nat.zero_le _⟩) hP hD hS hA [1] rfl rfl (ws' := (wB cA adB (setA vB 1 u7))) rfl (fun H locs hP hD hS => ?_)
          refine lv_iload_n hx hb dX0_changeSetting_47 rfl (lv_at hl 0 rfl) ?_
          cases h
          exact endI hx hb hr hlocks hP hS rfl dX0_changeSetting_48
        · have h := (if_neg c5).symm.trans h
          refine lv_ldc (v := (-1000001 : Int32)) hx hb hown (hts (.constant RX0 93 (-1000001)) (List.mem_of_getElem? (i := 1) rfl)) dX0_changeSetting_23 ?_
          cases h
          exact endI hx hb hr hlocks hP hS rfl dX0_changeSetting_25
set_option maxHeartbeats 4000000 in
set_option maxRecDepth 100000 in
theorem c_X4_set (l : Launch) (D : va_G) (cA cQ : ClassId) (adF : Nat) (adB : Nat → Nat) (adT : Nat → Nat) (adH : Nat → Nat) (kH : Nat → Nat → Nat) (adR : Nat → Nat) (adO : Nat → Nat) (vB : St) (vT : St) (vH : St) (bH : Nat → St) (vR : St) (vO : St) (p1 : Int32) (p2 : Int32) (o : Int32 × St × St × St × (Nat → St)) (hf : X4_set vB vT vH bH vR vO p1 p2 = some o) : Cti l yX4_set wsX4_set ({ frames := 6, cells := 0, slots := 0, locals := 165 }) D (TY cA cQ) [.ref adF, .int p1, .int p2] (wF cA cQ adF adB adT adH kH adR adO vB vT vH bH vR vO) (wF cA cQ adF adB adT adH kH adR adO o.2.1 o.2.2.1 o.2.2.2.1 o.2.2.2.2 vR vO) o.1 := by
  refine Wk.i (cc := cX4_set) (maxL := 3) (ret := (some .int)) (by decide) rfl (Nat.le_of_ble_eq_true rfl) ?_
  intro p e s m below meth c A ls hx hb hr hlocks hml hown hts hK hN hP hD hA hl
  have hown : s.vm.findClass RX4 = some m.cls := hown
  have hS : va_S A s.heap s.heap [] := va_S.rf
  have hl : lv_has ls 3 [(0, .ref adF), (1, .int p1), (2, .int p2)] := hl
  have h := hf
  unfold X4_set at h
  refine lv_aload_n hx hb dX4_set_0 rfl (lv_at hl 0 rfl) ?_
  refine lv_aload_n hx hb dX4_set_1 rfl (lv_at hl 0 rfl) ?_
  obtain ⟨u1, eu1, h⟩ := bd_in h
  refine kR (va_runV (As := []) (rest := [.ref adF]) ⟨hx, hb, hml, hown, hts⟩ (c_X4_freshTrial l D cA cQ adF adB adT adH kH adR adO vB vT vH bH vR vO u1 eu1 _) (cwV 0 hts gX4_set_X4_freshTrial rfl rfl rfl (by decide +kernel) ⟨Nat.le_of_ble_eq_true rfl, Nat.le_of_ble_eq_true rfl⟩) (pV (ci := 4) (q := (RX4, TX4, 5)) hK hN hP hD [0, 1, 2, 3, 4, 5, 6, 7, 8, 9, 10, 11, 12, 13, 14, 15, 16, 17, 18, 19, 20, 21, 22, 23, 24, 25, 26, 27, 28, 29, 30, 31, 32, 33, 34, 35, 36, 37, 38, 39, 40, 41, 42, 43, 44, 45, 46, 47, 48, 49, 50, 51, 52, 53, 54, 55, 56, 57, 58, 59, 60, 61, 62, 63, 64, 65, 66, 67, 68, 69, 70, 71, 72, 73, 74, 75, 76, 77, 78, 79, 80, 81, 82, 83, 84, 85, 86, 87, 88, 89, 90, 91, 92, 93, 94] rfl rfl rfl rfl) rfl rfl hl.1 rfl (lv_room (Nat.le_of_ble_eq_true rfl)) dX4_set_2 ⟨Nat.zero_le _, Nat.zero_le _⟩) hP hD hS hA [0, 1, 2, 3, 4, 5, 6, 7, 8, 9, 10, 11, 12, 13, 14, 15, 16, 17, 18, 19, 20, 21, 22, 23, 24, 25, 26, 27, 28, 29, 30, 31, 32, 33, 34, 35, 36, 37, 38, 39, 40, 41, 42, 43, 44, 45, 46, 47, 48, 49, 50, 51, 52, 53, 54, 55, 56, 57, 58, 59, 60, 61, 62, 63, 64, 65, 66, 67, 68, 69, 70, 71, 72, 73, 74, 75, 76, 77, 78, 79, 80, 81, 82, 83, 84, 85, 86, 87, 88, 89, 90, 91, 92, 93, 94] rfl rfl (ws' := (wF cA cQ adF adB adT adH kH adR adO vB u1 vH bH vR vO)) rfl (fun H locs hP hD hS => ?_)
  refine lv_iload_n hx hb dX4_set_5 rfl (lv_at hl 1 rfl) ?_
  refine lv_iload_n hx hb dX4_set_6 rfl (lv_at hl 2 rfl) ?_
  obtain ⟨u2, eu2, h⟩ := bd_in h
  refine kI (va_runV (As := [.int p1, .int p2]) (rest := [.ref adF]) ⟨hx, hb, hml, hown, hts⟩ (c_X0_changeSetting l D cA cQ adT u1 p1 p2 u2 eu2 _) (cwV 2 hts gX4_set_X0_changeSetting rfl rfl rfl (by decide +kernel) ⟨Nat.le_of_ble_eq_true rfl, Nat.le_of_ble_eq_true rfl⟩) (pV (ci := 0) (q := (RX0, TX0, 13)) hK hN hP hD [15, 16, 17, 18, 19, 20, 21, 22, 23, 24, 25, 26, 27, 28] rfl rfl rfl rfl) rfl rfl hl.1 rfl (lv_room (Nat.le_of_ble_eq_true rfl)) dX4_set_7 ⟨Nat.zero_le _, Nat.zero_le _⟩) hP hD hS hA [15, 16, 17, 18, 19, 20, 21, 22, 23, 24, 25, 26, 27, 28] rfl rfl (ws' := (wF cA cQ adF adB adT adH kH adR adO vB u2.2 vH bH vR vO)) rfl (fun H locs hP hD hS => ?_)
  obtain ⟨u3, eu3, h⟩ := bd_in h
  refine kI (va_runV (As := [.int u2.1]) (rest := []) ⟨hx, hb, hml, hown, hts⟩ (c_X4_settled l D cA cQ adF adB adT adH kH adR adO vB u2.2 vH bH vR vO u2.1 u3 eu3 _) (cwV 1 hts gX4_set_X4_settled rfl rfl rfl (by decide +kernel) ⟨Nat.le_of_ble_eq_true rfl, Nat.le_of_ble_eq_true rfl⟩) (pV (ci := 4) (q := (RX4, TX4, 5)) hK hN hP hD [0, 1, 2, 3, 4, 5, 6, 7, 8, 9, 10, 11, 12, 13, 14, 15, 16, 17, 18, 19, 20, 21, 22, 23, 24, 25, 26, 27, 28, 29, 30, 31, 32, 33, 34, 35, 36, 37, 38, 39, 40, 41, 42, 43, 44, 45, 46, 47, 48, 49, 50, 51, 52, 53, 54, 55, 56, 57, 58, 59, 60, 61, 62, 63, 64, 65, 66, 67, 68, 69, 70, 71, 72, 73, 74, 75, 76, 77, 78, 79, 80, 81, 82, 83, 84, 85, 86, 87, 88, 89, 90, 91, 92, 93, 94] rfl rfl rfl rfl) rfl rfl hl.1 rfl (lv_room (Nat.le_of_ble_eq_true rfl)) dX4_set_10 ⟨Nat.zero_le _, Nat.zero_le _⟩) hP hD hS hA [0, 1, 2, 3, 4, 5, 6, 7, 8, 9, 10, 11, 12, 13, 14, 15, 16, 17, 18, 19, 20, 21, 22, 23, 24, 25, 26, 27, 28, 29, 30, 31, 32, 33, 34, 35, 36, 37, 38, 39, 40, 41, 42, 43, 44, 45, 46, 47, 48, 49, 50, 51, 52, 53, 54, 55, 56, 57, 58, 59, 60, 61, 62, 63, 64, 65, 66, 67, 68, 69, 70, 71, 72, 73, 74, 75, 76, 77, 78, 79, 80, 81, 82, 83, 84, 85, 86, 87, 88, 89, 90, 91, 92, 93, 94] rfl rfl (ws' := (wF cA cQ adF adB adT adH kH adR adO u3.2.1 u2.2 u3.2.2.1 u3.2.2.2 vR vO)) rfl (fun H locs hP hD hS => ?_)
  cases h
  exact endI hx hb hr hlocks hP hS rfl dX4_set_13
theorem iw_X0_turnHolidays_X0 : ∀ w ∈ wsX00, w ∈ wsX0_turnHolidays := fun _ h => List.mem_cons_of_mem _ (List.mem_append_right _ (h))
set_option maxHeartbeats 4000000 in
set_option maxRecDepth 100000 in
theorem c_X0_turnHolidays (l : Launch) (D : va_G) (cA cQ : ClassId) (adB : Nat → Nat) (vB : St) (p1 : Int32) (o : Int32 × St) (hf : X0_turnHolidays vB p1 = some o) : Cti l yX0_turnHolidays wsX0_turnHolidays ({ frames := 1, cells := 0, slots := 0, locals := 22 }) D (TY cA cQ) [.ref (adB 0), .int p1] (wB cA adB vB) (wB cA adB o.2) o.1 := by
  refine Wk.i (cc := cX0_turnHolidays) (maxL := 3) (ret := (some .int)) (by decide) rfl (Nat.le_of_ble_eq_true rfl) ?_
  intro p e s m below meth c A ls hx hb hr hlocks hml hown hts hK hN hP hD hA hl
  have hown : s.vm.findClass RX0 = some m.cls := hown
  have hS : va_S A s.heap s.heap [] := va_S.rf
  have hl : lv_has ls 3 [(0, .ref (adB 0)), (1, .int p1)] := hl
  have B22 : ∀ (vB : St) (x2 : Int32) (t1 : Int32) (t2 : Int32) (H : Heap) (locs : List Loc) (ls : Array Slot), X0_turnHolidays_b22 p1 vB x2 t1 t2 = some o → va_P D vwCl (wB cA adB vB) H → va_D A (wB cA adB vB) → va_S A s.heap H locs → lv_has ls 3 [(2, .int x2)] → W p l e (headSpec wsX0_turnHolidays ({ frames := 1, cells := 0, slots := 0, locals := 22 })).room s m ([.ref (adB 0), .int p1] : List Value).toArray below meth c H locs 0 0 (MQ below (QI D (wB cA adB o.2) o.1 A) ([.ref (adB 0), .int p1] : List Value).toArray s 0 0 A) (F0 m 22 ls [.int t2, .int t1, .ref (adB 1)]) := by
    intro vB x2 t1 t2 H locs ls h hP hD hS hl
    unfold X0_turnHolidays_b22 at h
    obtain ⟨u1, eu1, h⟩ := bd_in h
    refine kV (va_runSN (As := [.ref (adB 1), .int t1, .int t2]) (rest := []) ⟨hx, hb, hml, hown, hts⟩ (c_X4_put l D cA cQ (adB 1) 26 (vB 1) t1 t2 u1 eu1 _) ⟨va_cnB 3 hts gX0_turnHolidays_X4_put_n55 rfl rfl rfl hN.2.1 (hts (.initialized RX4) (List.mem_of_getElem? (i := 8) rfl)) (by decide +kernel) ⟨Nat.le_of_ble_eq_true rfl, Nat.le_of_ble_eq_true rfl⟩, (hts (.static yX4_put) (List.mem_of_getElem? (i := 7) rfl)), trivial⟩ (pS hK hN hP hD [1] rfl rfl) rfl rfl hl.1 rfl (lv_room (Nat.le_of_ble_eq_true rfl)) dX0_turnHolidays_22 ⟨Nat.zero_le _, Nat.zero_le _⟩) hP hD hS hA [1] rfl rfl (ws' := (wB cA adB (setA vB 1 u1))) rfl (fun H locs hP hD hS => ?_)
    refine lv_iload_n hx hb dX0_turnHolidays_25 rfl (lv_at hl 0 rfl) ?_
    cases h
    exact endI hx hb hr hlocks hP hS rfl dX0_turnHolidays_26
  have h := hf
  unfold X0_turnHolidays at h
  refine lv_aload_n hx hb dX0_turnHolidays_0 rfl (lv_at hl 0 rfl) ?_
  refine lv_bipush (v := (10 : Int32)) hx hb dX0_turnHolidays_1 (by decide) ?_
  obtain ⟨u2, eu2, h⟩ := bd_in h
  refine kI (va_runV (As := [.int (10 : Int32)]) (rest := []) ⟨hx, hb, hml, hown, hts⟩ (c_X0_number l D cA cQ adB vB (10 : Int32) u2 eu2 _) (cwV 1 hts gX0_turnHolidays_X0_number rfl rfl rfl (by decide +kernel) ⟨Nat.le_of_ble_eq_true rfl, Nat.le_of_ble_eq_true rfl⟩) (pV (ci := 0) (q := (RX0, TX0, 13)) hK hN hP hD [0, 1, 2, 3, 4, 5, 6, 7, 8, 9, 10, 11, 12, 13] rfl rfl rfl rfl) rfl rfl hl.1 rfl (lv_room (Nat.le_of_ble_eq_true rfl)) dX0_turnHolidays_3 ⟨Nat.zero_le _, Nat.zero_le _⟩) hP hD hS hA [0, 1, 2, 3, 4, 5, 6, 7, 8, 9, 10, 11, 12, 13] rfl rfl (ws' := (wB cA adB vB)) rfl (fun H locs hP hD hS => ?_)
  refine lv_istore_n (lv' := [(2, .int u2), (0, .ref (adB 0)), (1, .int p1)]) hx hb dX0_turnHolidays_6 rfl hl (by decide) rfl (fun ls hl => ?_)
  refine lv_aload_n hx hb dX0_turnHolidays_7 rfl (lv_at hl 1 rfl) ?_
  refine va_get (D := D) (ci := 0) (v := .ref (adB 1)) (C := RX0) (T := TX0) (N := 13) hx hb hts iw_X0_turnHolidays_X0 hown hK hP 0 rfl rfl 0 (by decide) (hts (.fieldLink RX0 9 "FavourRings$Bank" "numbers" "[I") (List.mem_of_getElem? (i := 1) rfl)) (fun _ h9 => h9) rfl dX0_turnHolidays_8 ?_
  refine lv_bipush (v := (10 : Int32)) hx hb dX0_turnHolidays_11 (by decide) ?_
  refine lv_iload_n hx hb dX0_turnHolidays_13 rfl (lv_at hl 2 rfl) ?_
  refine lv_if_eq (tgt := 21) hx hb dX0_turnHolidays_14 (by decide) (fun c3 => ?_) (fun c3 => ?_)
  · have h := (if_pos c3).symm.trans h
    refine lv_iconst (v := (0 : Int32)) hx hb dX0_turnHolidays_21 (by decide) ?_
    exact B22 vB u2 (10 : Int32) (0 : Int32) _ _ _ h hP hD hS (lv_sub hl [0] rfl)
  · have h := (if_neg c3).symm.trans h
    refine lv_iconst (v := (1 : Int32)) hx hb dX0_turnHolidays_17 (by decide) ?_
    refine lv_goto (tgt := 22) hx hb dX0_turnHolidays_18 (by decide) ?_
    exact B22 vB u2 (10 : Int32) (1 : Int32) _ _ _ h hP hD hS (lv_sub hl [0] rfl)
set_option maxHeartbeats 4000000 in
set_option maxRecDepth 100000 in
theorem c_X4_holiday (l : Launch) (D : va_G) (cA cQ : ClassId) (adF : Nat) (adB : Nat → Nat) (adT : Nat → Nat) (adH : Nat → Nat) (kH : Nat → Nat → Nat) (adR : Nat → Nat) (adO : Nat → Nat) (vB : St) (vT : St) (vH : St) (bH : Nat → St) (vR : St) (vO : St) (p1 : Int32) (o : Int32 × St × St × St × (Nat → St)) (hf : X4_holiday vB vT vH bH vR vO p1 = some o) : Cti l yX4_holiday wsX4_holiday ({ frames := 6, cells := 0, slots := 0, locals := 165 }) D (TY cA cQ) [.ref adF, .int p1] (wF cA cQ adF adB adT adH kH adR adO vB vT vH bH vR vO) (wF cA cQ adF adB adT adH kH adR adO o.2.1 o.2.2.1 o.2.2.2.1 o.2.2.2.2 vR vO) o.1 := by
  refine Wk.i (cc := cX4_holiday) (maxL := 2) (ret := (some .int)) (by decide) rfl (Nat.le_of_ble_eq_true rfl) ?_
  intro p e s m below meth c A ls hx hb hr hlocks hml hown hts hK hN hP hD hA hl
  have hown : s.vm.findClass RX4 = some m.cls := hown
  have hS : va_S A s.heap s.heap [] := va_S.rf
  have hl : lv_has ls 2 [(0, .ref adF), (1, .int p1)] := hl
  have h := hf
  unfold X4_holiday at h
  refine lv_aload_n hx hb dX4_holiday_0 rfl (lv_at hl 0 rfl) ?_
  refine lv_aload_n hx hb dX4_holiday_1 rfl (lv_at hl 0 rfl) ?_
  obtain ⟨u1, eu1, h⟩ := bd_in h
  refine kR (va_runV (As := []) (rest := [.ref adF]) ⟨hx, hb, hml, hown, hts⟩ (c_X4_freshTrial l D cA cQ adF adB adT adH kH adR adO vB vT vH bH vR vO u1 eu1 _) (cwV 0 hts gX4_holiday_X4_freshTrial rfl rfl rfl (by decide +kernel) ⟨Nat.le_of_ble_eq_true rfl, Nat.le_of_ble_eq_true rfl⟩) (pV (ci := 4) (q := (RX4, TX4, 5)) hK hN hP hD [0, 1, 2, 3, 4, 5, 6, 7, 8, 9, 10, 11, 12, 13, 14, 15, 16, 17, 18, 19, 20, 21, 22, 23, 24, 25, 26, 27, 28, 29, 30, 31, 32, 33, 34, 35, 36, 37, 38, 39, 40, 41, 42, 43, 44, 45, 46, 47, 48, 49, 50, 51, 52, 53, 54, 55, 56, 57, 58, 59, 60, 61, 62, 63, 64, 65, 66, 67, 68, 69, 70, 71, 72, 73, 74, 75, 76, 77, 78, 79, 80, 81, 82, 83, 84, 85, 86, 87, 88, 89, 90, 91, 92, 93, 94] rfl rfl rfl rfl) rfl rfl hl.1 rfl (lv_room (Nat.le_of_ble_eq_true rfl)) dX4_holiday_2 ⟨Nat.zero_le _, Nat.zero_le _⟩) hP hD hS hA [0, 1, 2, 3, 4, 5, 6, 7, 8, 9, 10, 11, 12, 13, 14, 15, 16, 17, 18, 19, 20, 21, 22, 23, 24, 25, 26, 27, 28, 29, 30, 31, 32, 33, 34, 35, 36, 37, 38, 39, 40, 41, 42, 43, 44, 45, 46, 47, 48, 49, 50, 51, 52, 53, 54, 55, 56, 57, 58, 59, 60, 61, 62, 63, 64, 65, 66, 67, 68, 69, 70, 71, 72, 73, 74, 75, 76, 77, 78, 79, 80, 81, 82, 83, 84, 85, 86, 87, 88, 89, 90, 91, 92, 93, 94] rfl rfl (ws' := (wF cA cQ adF adB adT adH kH adR adO vB u1 vH bH vR vO)) rfl (fun H locs hP hD hS => ?_)
  refine lv_iload_n hx hb dX4_holiday_5 rfl (lv_at hl 1 rfl) ?_
  obtain ⟨u2, eu2, h⟩ := bd_in h
  refine kI (va_runV (As := [.int p1]) (rest := [.ref adF]) ⟨hx, hb, hml, hown, hts⟩ (c_X0_turnHolidays l D cA cQ adT u1 p1 u2 eu2 _) (cwV 1 hts gX4_holiday_X0_turnHolidays rfl rfl rfl (by decide +kernel) ⟨Nat.le_of_ble_eq_true rfl, Nat.le_of_ble_eq_true rfl⟩) (pV (ci := 0) (q := (RX0, TX0, 13)) hK hN hP hD [15, 16, 17, 18, 19, 20, 21, 22, 23, 24, 25, 26, 27, 28] rfl rfl rfl rfl) rfl rfl hl.1 rfl (lv_room (Nat.le_of_ble_eq_true rfl)) dX4_holiday_6 ⟨Nat.zero_le _, Nat.zero_le _⟩) hP hD hS hA [15, 16, 17, 18, 19, 20, 21, 22, 23, 24, 25, 26, 27, 28] rfl rfl (ws' := (wF cA cQ adF adB adT adH kH adR adO vB u2.2 vH bH vR vO)) rfl (fun H locs hP hD hS => ?_)
  obtain ⟨u3, eu3, h⟩ := bd_in h
  refine kI (va_runV (As := [.int u2.1]) (rest := []) ⟨hx, hb, hml, hown, hts⟩ (c_X4_settled l D cA cQ adF adB adT adH kH adR adO vB u2.2 vH bH vR vO u2.1 u3 eu3 _) (cwV 1 hts gX4_holiday_X4_settled rfl rfl rfl (by decide +kernel) ⟨Nat.le_of_ble_eq_true rfl, Nat.le_of_ble_eq_true rfl⟩) (pV (ci := 4) (q := (RX4, TX4, 5)) hK hN hP hD [0, 1, 2, 3, 4, 5, 6, 7, 8, 9, 10, 11, 12, 13, 14, 15, 16, 17, 18, 19, 20, 21, 22, 23, 24, 25, 26, 27, 28, 29, 30, 31, 32, 33, 34, 35, 36, 37, 38, 39, 40, 41, 42, 43, 44, 45, 46, 47, 48, 49, 50, 51, 52, 53, 54, 55, 56, 57, 58, 59, 60, 61, 62, 63, 64, 65, 66, 67, 68, 69, 70, 71, 72, 73, 74, 75, 76, 77, 78, 79, 80, 81, 82, 83, 84, 85, 86, 87, 88, 89, 90, 91, 92, 93, 94] rfl rfl rfl rfl) rfl rfl hl.1 rfl (lv_room (Nat.le_of_ble_eq_true rfl)) dX4_holiday_9 ⟨Nat.zero_le _, Nat.zero_le _⟩) hP hD hS hA [0, 1, 2, 3, 4, 5, 6, 7, 8, 9, 10, 11, 12, 13, 14, 15, 16, 17, 18, 19, 20, 21, 22, 23, 24, 25, 26, 27, 28, 29, 30, 31, 32, 33, 34, 35, 36, 37, 38, 39, 40, 41, 42, 43, 44, 45, 46, 47, 48, 49, 50, 51, 52, 53, 54, 55, 56, 57, 58, 59, 60, 61, 62, 63, 64, 65, 66, 67, 68, 69, 70, 71, 72, 73, 74, 75, 76, 77, 78, 79, 80, 81, 82, 83, 84, 85, 86, 87, 88, 89, 90, 91, 92, 93, 94] rfl rfl (ws' := (wF cA cQ adF adB adT adH kH adR adO u3.2.1 u2.2 u3.2.2.1 u3.2.2.2 vR vO)) rfl (fun H locs hP hD hS => ?_)
  cases h
  exact endI hx hb hr hlocks hP hS rfl dX4_holiday_12
set_option maxHeartbeats 4000000 in
set_option maxRecDepth 100000 in
theorem c_X0_hasHolidays (l : Launch) (D : va_G) (cA cQ : ClassId) (adB : Nat → Nat) (vB : St) (o : Int32) (hf : X0_hasHolidays vB = some o) : Cti l yX0_hasHolidays wsX0_hasHolidays ({ frames := 1, cells := 0, slots := 0, locals := 21 }) D (TY cA cQ) [.ref (adB 0)] (wB cA adB vB) (wB cA adB vB) o := by
  refine Wk.i (cc := cX0_hasHolidays) (maxL := 1) (ret := (some .boolean)) (by decide) rfl (Nat.le_of_ble_eq_true rfl) ?_
  intro p e s m below meth c A ls hx hb hr hlocks hml hown hts hK hN hP hD hA hl
  have hown : s.vm.findClass RX0 = some m.cls := hown
  have hS : va_S A s.heap s.heap [] := va_S.rf
  have hl : lv_has ls 1 [(0, .ref (adB 0))] := hl
  have h := hf
  unfold X0_hasHolidays at h
  refine lv_aload_n hx hb dX0_hasHolidays_0 rfl (lv_at hl 0 rfl) ?_
  refine lv_bipush (v := (10 : Int32)) hx hb dX0_hasHolidays_1 (by decide) ?_
  obtain ⟨u1, eu1, h⟩ := bd_in h
  refine kI (va_runV (As := [.int (10 : Int32)]) (rest := []) ⟨hx, hb, hml, hown, hts⟩ (c_X0_number l D cA cQ adB vB (10 : Int32) u1 eu1 _) (cwV 1 hts gX0_hasHolidays_X0_number rfl rfl rfl (by decide +kernel) ⟨Nat.le_of_ble_eq_true rfl, Nat.le_of_ble_eq_true rfl⟩) (pV (ci := 0) (q := (RX0, TX0, 13)) hK hN hP hD [0, 1, 2, 3, 4, 5, 6, 7, 8, 9, 10, 11, 12, 13] rfl rfl rfl rfl) rfl rfl hl.1 rfl (lv_room (Nat.le_of_ble_eq_true rfl)) dX0_hasHolidays_3 ⟨Nat.zero_le _, Nat.zero_le _⟩) hP hD hS hA [0, 1, 2, 3, 4, 5, 6, 7, 8, 9, 10, 11, 12, 13] rfl rfl (ws' := (wB cA adB vB)) rfl (fun H locs hP hD hS => ?_)
  refine lv_if_eq (tgt := 13) hx hb dX0_hasHolidays_6 (by decide) (fun c2 => ?_) (fun c2 => ?_)
  · have h := (if_pos c2).symm.trans h
    refine lv_iconst (v := (0 : Int32)) hx hb dX0_hasHolidays_13 (by decide) ?_
    cases h
    exact endZ hx hb hr hlocks hP hS ⟨rfl, rfl⟩ dX0_hasHolidays_14
  · have h := (if_neg c2).symm.trans h
    refine lv_iconst (v := (1 : Int32)) hx hb dX0_hasHolidays_9 (by decide) ?_
    refine lv_goto (tgt := 14) hx hb dX0_hasHolidays_10 (by decide) ?_
    cases h
    exact endZ hx hb hr hlocks hP hS ⟨rfl, rfl⟩ dX0_hasHolidays_14
theorem iw_X0_passToGuarantor_X0 : ∀ w ∈ wsX00, w ∈ wsX0_passToGuarantor := fun _ h => List.mem_cons_of_mem _ (List.mem_append_right _ (h))
set_option maxHeartbeats 4000000 in
set_option maxRecDepth 100000 in
theorem c_X0_passToGuarantor (l : Launch) (D : va_G) (cA cQ : ClassId) (adB : Nat → Nat) (vB : St) (p1 : Int32) (o : Int32 × St) (hf : X0_passToGuarantor vB p1 = some o) : Cti l yX0_passToGuarantor wsX0_passToGuarantor ({ frames := 1, cells := 0, slots := 0, locals := 22 }) D (TY cA cQ) [.ref (adB 0), .int p1] (wB cA adB vB) (wB cA adB o.2) o.1 := by
  refine Wk.i (cc := cX0_passToGuarantor) (maxL := 5) (ret := (some .boolean)) (by decide) rfl (Nat.le_of_ble_eq_true rfl) ?_
  intro p e s m below meth c A ls hx hb hr hlocks hml hown hts hK hN hP hD hA hl
  have hown : s.vm.findClass RX0 = some m.cls := hown
  have hS : va_S A s.heap s.heap [] := va_S.rf
  have hl : lv_has ls 5 [(0, .ref (adB 0)), (1, .int p1)] := hl
  have h := hf
  unfold X0_passToGuarantor at h
  refine lv_aload_n hx hb dX0_passToGuarantor_0 rfl (lv_at hl 0 rfl) ?_
  refine va_get (D := D) (ci := 0) (v := .ref (adB 8)) (C := RX0) (T := TX0) (N := 13) hx hb hts iw_X0_passToGuarantor_X0 hown hK hP 0 rfl rfl 7 (by decide) (hts (.fieldLink RX0 33 "FavourRings$Bank" "debtors" "[I") (List.mem_of_getElem? (i := 1) rfl)) (fun _ h9 => h9) rfl dX0_passToGuarantor_1 ?_
  refine lv_iload_n hx hb dX0_passToGuarantor_4 rfl (lv_at hl 1 rfl) ?_
  obtain ⟨u1, eu1, h⟩ := bd_in h
  refine kI (va_runSN (As := [.ref (adB 8), .int p1]) (rest := []) ⟨hx, hb, hml, hown, hts⟩ (c_X4_at l D cA cQ (adB 8) 40 (vB 8) p1 u1 eu1 _) ⟨va_cnB 2 hts gX0_passToGuarantor_X4_at_n77 rfl rfl rfl hN.2.2.2.1 (hts (.initialized RX4) (List.mem_of_getElem? (i := 10) rfl)) (by decide +kernel) ⟨Nat.le_of_ble_eq_true rfl, Nat.le_of_ble_eq_true rfl⟩, (hts (.static yX4_at) (List.mem_of_getElem? (i := 9) rfl)), trivial⟩ (pS hK hN hP hD [8] rfl rfl) rfl rfl hl.1 rfl (lv_room (Nat.le_of_ble_eq_true rfl)) dX0_passToGuarantor_5 ⟨Nat.zero_le _, Nat.zero_le _⟩) hP hD hS hA [8] rfl rfl (ws' := (wB cA adB vB)) rfl (fun H locs hP hD hS => ?_)
  refine lv_istore_n (lv' := [(2, .int u1), (0, .ref (adB 0)), (1, .int p1)]) hx hb dX0_passToGuarantor_8 rfl hl (by decide) rfl (fun ls hl => ?_)
  refine lv_aload_n hx hb dX0_passToGuarantor_9 rfl (lv_at hl 1 rfl) ?_
  refine lv_iload_n hx hb dX0_passToGuarantor_10 rfl (lv_at hl 0 rfl) ?_
  obtain ⟨u2, eu2, h⟩ := bd_in h
  refine kI (va_runV (As := [.int u1]) (rest := []) ⟨hx, hb, hml, hown, hts⟩ (c_X0_guarantorOf l D cA cQ adB vB u1 u2 eu2 _) (cwV 1 hts gX0_passToGuarantor_X0_guarantorOf rfl rfl rfl (by decide +kernel) ⟨Nat.le_of_ble_eq_true rfl, Nat.le_of_ble_eq_true rfl⟩) (pV (ci := 0) (q := (RX0, TX0, 13)) hK hN hP hD [0, 1, 2, 3, 4, 5, 6, 7, 8, 9, 10, 11, 12, 13] rfl rfl rfl rfl) rfl rfl hl.1 rfl (lv_room (Nat.le_of_ble_eq_true rfl)) dX0_passToGuarantor_11 ⟨Nat.zero_le _, Nat.zero_le _⟩) hP hD hS hA [0, 1, 2, 3, 4, 5, 6, 7, 8, 9, 10, 11, 12, 13] rfl rfl (ws' := (wB cA adB vB)) rfl (fun H locs hP hD hS => ?_)
  refine lv_istore_n (lv' := [(3, .int u2), (2, .int u1), (0, .ref (adB 0)), (1, .int p1)]) hx hb dX0_passToGuarantor_14 rfl hl (by decide) rfl (fun ls hl => ?_)
  refine lv_iload_n hx hb dX0_passToGuarantor_15 rfl (lv_at hl 0 rfl) ?_
  refine lv_if_lt (tgt := 42) hx hb dX0_passToGuarantor_16 (by decide) (fun c3 => ?_) (fun c3 => ?_)
  · have h := (if_pos c3).symm.trans h
    refine lv_iconst (v := (0 : Int32)) hx hb dX0_passToGuarantor_42 (by decide) ?_
    cases h
    exact endZ hx hb hr hlocks hP hS ⟨rfl, rfl⟩ dX0_passToGuarantor_43
  · have h := (if_neg c3).symm.trans h
    refine lv_iload_n hx hb dX0_passToGuarantor_19 rfl (lv_at hl 0 rfl) ?_
    refine lv_aload_n hx hb dX0_passToGuarantor_20 rfl (lv_at hl 2 rfl) ?_
    refine va_get (D := D) (ci := 0) (v := .ref (adB 9)) (C := RX0) (T := TX0) (N := 13) hx hb hts iw_X0_passToGuarantor_X0 hown hK hP 0 rfl rfl 8 (by decide) (hts (.fieldLink RX0 36 "FavourRings$Bank" "creditors" "[I") (List.mem_of_getElem? (i := 2) rfl)) (fun _ h9 => h9) rfl dX0_passToGuarantor_21 ?_
    refine lv_iload_n hx hb dX0_passToGuarantor_24 rfl (lv_at hl 3 rfl) ?_
    obtain ⟨u4, eu4, h⟩ := bd_in h
    refine kI (va_runSN (As := [.ref (adB 9), .int p1]) (rest := [.int u2]) ⟨hx, hb, hml, hown, hts⟩ (c_X4_at l D cA cQ (adB 9) 40 (vB 9) p1 u4 eu4 _) ⟨va_cnB 2 hts gX0_passToGuarantor_X4_at_n77 rfl rfl rfl hN.2.2.2.1 (hts (.initialized RX4) (List.mem_of_getElem? (i := 10) rfl)) (by decide +kernel) ⟨Nat.le_of_ble_eq_true rfl, Nat.le_of_ble_eq_true rfl⟩, (hts (.static yX4_at) (List.mem_of_getElem? (i := 9) rfl)), trivial⟩ (pS hK hN hP hD [9] rfl rfl) rfl rfl hl.1 rfl (lv_room (Nat.le_of_ble_eq_true rfl)) dX0_passToGuarantor_25 ⟨Nat.zero_le _, Nat.zero_le _⟩) hP hD hS hA [9] rfl rfl (ws' := (wB cA adB vB)) rfl (fun H locs hP hD hS => ?_)
    refine lv_icmp_eq (tgt := 42) hx hb dX0_passToGuarantor_28 (by decide) (fun c5 => ?_) (fun c5 => ?_)
    · have h := (if_pos c5).symm.trans h
      refine lv_iconst (v := (0 : Int32)) hx hb dX0_passToGuarantor_42 (by decide) ?_
      cases h
      exact endZ hx hb hr hlocks hP hS ⟨rfl, rfl⟩ dX0_passToGuarantor_43
    · have h := (if_neg c5).symm.trans h
      refine lv_aload_n hx hb dX0_passToGuarantor_31 rfl (lv_at hl 2 rfl) ?_
      refine va_get (D := D) (ci := 0) (v := .ref (adB 13)) (C := RX0) (T := TX0) (N := 13) hx hb hts iw_X0_passToGuarantor_X0 hown hK hP 0 rfl rfl 12 (by decide) (hts (.fieldLink RX0 48 "FavourRings$Bank" "passed" "[I") (List.mem_of_getElem? (i := 3) rfl)) (fun _ h9 => h9) rfl dX0_passToGuarantor_32 ?_
      refine lv_iload_n hx hb dX0_passToGuarantor_35 rfl (lv_at hl 3 rfl) ?_
      obtain ⟨u6, eu6, h⟩ := bd_in h
      refine kI (va_runSN (As := [.ref (adB 13), .int p1]) (rest := []) ⟨hx, hb, hml, hown, hts⟩ (c_X4_at l D cA cQ (adB 13) 40 (vB 13) p1 u6 eu6 _) ⟨va_cnB 2 hts gX0_passToGuarantor_X4_at_n77 rfl rfl rfl hN.2.2.2.1 (hts (.initialized RX4) (List.mem_of_getElem? (i := 10) rfl)) (by decide +kernel) ⟨Nat.le_of_ble_eq_true rfl, Nat.le_of_ble_eq_true rfl⟩, (hts (.static yX4_at) (List.mem_of_getElem? (i := 9) rfl)), trivial⟩ (pS hK hN hP hD [13] rfl rfl) rfl rfl hl.1 rfl (lv_room (Nat.le_of_ble_eq_true rfl)) dX0_passToGuarantor_36 ⟨Nat.zero_le _, Nat.zero_le _⟩) hP hD hS hA [13] rfl rfl (ws' := (wB cA adB vB)) rfl (fun H locs hP hD hS => ?_)
      refine lv_if_eq (tgt := 44) hx hb dX0_passToGuarantor_39 (by decide) (fun c7 => ?_) (fun c7 => ?_)
      · have h := (if_pos c7).symm.trans h
        refine lv_aload_n hx hb dX0_passToGuarantor_44 rfl (lv_at hl 2 rfl) ?_
        refine va_get (D := D) (ci := 0) (v := .ref (adB 11)) (C := RX0) (T := TX0) (N := 13) hx hb hts iw_X0_passToGuarantor_X0 hown hK hP 0 rfl rfl 10 (by decide) (hts (.fieldLink RX0 42 "FavourRings$Bank" "sizes" "[I") (List.mem_of_getElem? (i := 4) rfl)) (fun _ h9 => h9) rfl dX0_passToGuarantor_45 ?_
        refine lv_iload_n hx hb dX0_passToGuarantor_48 rfl (lv_at hl 3 rfl) ?_
        obtain ⟨u8, eu8, h⟩ := bd_in h
        refine kI (va_runSN (As := [.ref (adB 11), .int p1]) (rest := []) ⟨hx, hb, hml, hown, hts⟩ (c_X4_at l D cA cQ (adB 11) 40 (vB 11) p1 u8 eu8 _) ⟨va_cnB 2 hts gX0_passToGuarantor_X4_at_n77 rfl rfl rfl hN.2.2.2.1 (hts (.initialized RX4) (List.mem_of_getElem? (i := 10) rfl)) (by decide +kernel) ⟨Nat.le_of_ble_eq_true rfl, Nat.le_of_ble_eq_true rfl⟩, (hts (.static yX4_at) (List.mem_of_getElem? (i := 9) rfl)), trivial⟩ (pS hK hN hP hD [11] rfl rfl) rfl rfl hl.1 rfl (lv_room (Nat.le_of_ble_eq_true rfl)) dX0_passToGuarantor_49 ⟨Nat.zero_le _, Nat.zero_le _⟩) hP hD hS hA [11] rfl rfl (ws' := (wB cA adB vB)) rfl (fun H locs hP hD hS => ?_)
        refine lv_istore (lv' := [(4, .int u8), (3, .int u2), (2, .int u1), (0, .ref (adB 0)), (1, .int p1)]) hx hb dX0_passToGuarantor_52 hl (by decide) rfl (fun ls hl => ?_)
        refine lv_aload_n hx hb dX0_passToGuarantor_54 rfl (lv_at hl 3 rfl) ?_
        refine va_get (D := D) (ci := 0) (v := .ref (adB 8)) (C := RX0) (T := TX0) (N := 13) hx hb hts iw_X0_passToGuarantor_X0 hown hK hP 0 rfl rfl 7 (by decide) (hts (.fieldLink RX0 33 "FavourRings$Bank" "debtors" "[I") (List.mem_of_getElem? (i := 1) rfl)) (fun _ h9 => h9) rfl dX0_passToGuarantor_55 ?_
        refine lv_iload_n hx hb dX0_passToGuarantor_58 rfl (lv_at hl 4 rfl) ?_
        refine lv_iload_n hx hb dX0_passToGuarantor_59 rfl (lv_at hl 1 rfl) ?_
        obtain ⟨u9, eu9, h⟩ := bd_in h
        refine kV (va_runSN (As := [.ref (adB 8), .int p1, .int u2]) (rest := []) ⟨hx, hb, hml, hown, hts⟩ (c_X4_put l D cA cQ (adB 8) 40 (vB 8) p1 u2 u9 eu9 _) ⟨va_cnB 3 hts gX0_passToGuarantor_X4_put_n55 rfl rfl rfl hN.2.1 (hts (.initialized RX4) (List.mem_of_getElem? (i := 10) rfl)) (by decide +kernel) ⟨Nat.le_of_ble_eq_true rfl, Nat.le_of_ble_eq_true rfl⟩, (hts (.static yX4_put) (List.mem_of_getElem? (i := 18) rfl)), trivial⟩ (pS hK hN hP hD [8] rfl rfl) rfl rfl hl.1 rfl (lv_room (Nat.le_of_ble_eq_true rfl)) dX0_passToGuarantor_60 ⟨Nat.zero_le _, Nat.zero_le _⟩) hP hD hS hA [8] rfl rfl (ws' := (wB cA adB (setA vB 8 u9))) rfl (fun H locs hP hD hS => ?_)
        refine lv_aload_n hx hb dX0_passToGuarantor_63 rfl (lv_at hl 3 rfl) ?_
        refine va_get (D := D) (ci := 0) (v := .ref (adB 12)) (C := RX0) (T := TX0) (N := 13) hx hb hts iw_X0_passToGuarantor_X0 hown hK hP 0 rfl rfl 11 (by decide) (hts (.fieldLink RX0 45 "FavourRings$Bank" "ages" "[I") (List.mem_of_getElem? (i := 5) rfl)) (fun _ h9 => h9) rfl dX0_passToGuarantor_64 ?_
        refine lv_iload_n hx hb dX0_passToGuarantor_67 rfl (lv_at hl 4 rfl) ?_
        refine lv_iconst (v := (0 : Int32)) hx hb dX0_passToGuarantor_68 (by decide) ?_
        obtain ⟨u10, eu10, h⟩ := bd_in h
        refine kV (va_runSN (As := [.ref (adB 12), .int p1, .int (0 : Int32)]) (rest := []) ⟨hx, hb, hml, hown, hts⟩ (c_X4_put l D cA cQ (adB 12) 40 (vB 12) p1 (0 : Int32) u10 eu10 _) ⟨va_cnB 3 hts gX0_passToGuarantor_X4_put_n55 rfl rfl rfl hN.2.1 (hts (.initialized RX4) (List.mem_of_getElem? (i := 10) rfl)) (by decide +kernel) ⟨Nat.le_of_ble_eq_true rfl, Nat.le_of_ble_eq_true rfl⟩, (hts (.static yX4_put) (List.mem_of_getElem? (i := 18) rfl)), trivial⟩ (pS hK hN hP hD [12] rfl rfl) rfl rfl hl.1 rfl (lv_room (Nat.le_of_ble_eq_true rfl)) dX0_passToGuarantor_69 ⟨Nat.zero_le _, Nat.zero_le _⟩) hP hD hS hA [12] rfl rfl (ws' := (wB cA adB (setA (setA vB 8 u9) 12 u10))) rfl (fun H locs hP hD hS => ?_)
        refine lv_aload_n hx hb dX0_passToGuarantor_72 rfl (lv_at hl 3 rfl) ?_
        refine va_get (D := D) (ci := 0) (v := .ref (adB 13)) (C := RX0) (T := TX0) (N := 13) hx hb hts iw_X0_passToGuarantor_X0 hown hK hP 0 rfl rfl 12 (by decide) (hts (.fieldLink RX0 48 "FavourRings$Bank" "passed" "[I") (List.mem_of_getElem? (i := 3) rfl)) (fun _ h9 => h9) rfl dX0_passToGuarantor_73 ?_
        refine lv_iload_n hx hb dX0_passToGuarantor_76 rfl (lv_at hl 4 rfl) ?_
        refine lv_iconst (v := (1 : Int32)) hx hb dX0_passToGuarantor_77 (by decide) ?_
        obtain ⟨u11, eu11, h⟩ := bd_in h
        refine kV (va_runSN (As := [.ref (adB 13), .int p1, .int (1 : Int32)]) (rest := []) ⟨hx, hb, hml, hown, hts⟩ (c_X4_put l D cA cQ (adB 13) 40 (vB 13) p1 (1 : Int32) u11 eu11 _) ⟨va_cnB 3 hts gX0_passToGuarantor_X4_put_n55 rfl rfl rfl hN.2.1 (hts (.initialized RX4) (List.mem_of_getElem? (i := 10) rfl)) (by decide +kernel) ⟨Nat.le_of_ble_eq_true rfl, Nat.le_of_ble_eq_true rfl⟩, (hts (.static yX4_put) (List.mem_of_getElem? (i := 18) rfl)), trivial⟩ (pS hK hN hP hD [13] rfl rfl) rfl rfl hl.1 rfl (lv_room (Nat.le_of_ble_eq_true rfl)) dX0_passToGuarantor_78 ⟨Nat.zero_le _, Nat.zero_le _⟩) hP hD hS hA [13] rfl rfl (ws' := (wB cA adB (setA (setA (setA vB 8 u9) 12 u10) 13 u11))) rfl (fun H locs hP hD hS => ?_)
        refine lv_aload_n hx hb dX0_passToGuarantor_81 rfl (lv_at hl 3 rfl) ?_
        refine va_get (D := D) (ci := 0) (v := .ref (adB 2)) (C := RX0) (T := TX0) (N := 13) hx hb hts iw_X0_passToGuarantor_X0 hown hK hP 0 rfl rfl 1 (by decide) (hts (.fieldLink RX0 15 "FavourRings$Bank" "came" "[I") (List.mem_of_getElem? (i := 6) rfl)) (fun _ h9 => h9) rfl dX0_passToGuarantor_82 ?_
        refine lv_iload_n hx hb dX0_passToGuarantor_85 rfl (lv_at hl 2 rfl) ?_
        refine lv_iload hx hb dX0_passToGuarantor_86 (lv_at hl 0 rfl) ?_
        obtain ⟨u12, eu12, h⟩ := bd_in h
        refine kV (va_runSN (As := [.ref (adB 2), .int u1, .int u8]) (rest := []) ⟨hx, hb, hml, hown, hts⟩ (c_X4_add l D cA cQ (adB 2) 8 (vB 2) u1 u8 u12 eu12 _) ⟨va_cnB 3 hts gX0_passToGuarantor_X4_add_n86 rfl rfl rfl hN.2.2.2.2.1 (hts (.initialized RX4) (List.mem_of_getElem? (i := 10) rfl)) (by decide +kernel) ⟨Nat.le_of_ble_eq_true rfl, Nat.le_of_ble_eq_true rfl⟩, (hts (.static yX4_add) (List.mem_of_getElem? (i := 20) rfl)), trivial⟩ (pS hK hN hP hD [2] rfl rfl) rfl rfl hl.1 rfl (lv_room (Nat.le_of_ble_eq_true rfl)) dX0_passToGuarantor_88 ⟨Nat.zero_le _, Nat.zero_le _⟩) hP hD hS hA [2] rfl rfl (ws' := (wB cA adB (setA (setA (setA (setA vB 8 u9) 12 u10) 13 u11) 2 u12))) rfl (fun H locs hP hD hS => ?_)
        refine lv_aload_n hx hb dX0_passToGuarantor_91 rfl (lv_at hl 3 rfl) ?_
        refine va_get (D := D) (ci := 0) (v := .ref (adB 2)) (C := RX0) (T := TX0) (N := 13) hx hb hts iw_X0_passToGuarantor_X0 hown hK hP 0 rfl rfl 1 (by decide) (hts (.fieldLink RX0 15 "FavourRings$Bank" "came" "[I") (List.mem_of_getElem? (i := 6) rfl)) (fun _ h9 => h9) rfl dX0_passToGuarantor_92 ?_
        refine lv_iload_n hx hb dX0_passToGuarantor_95 rfl (lv_at hl 1 rfl) ?_
        refine lv_iload hx hb dX0_passToGuarantor_96 (lv_at hl 0 rfl) ?_
        refine lv_ineg hx hb dX0_passToGuarantor_98 ?_
        obtain ⟨u13, eu13, h⟩ := bd_in h
        refine kV (va_runSN (As := [.ref (adB 2), .int u2, .int (-u8)]) (rest := []) ⟨hx, hb, hml, hown, hts⟩ (c_X4_add l D cA cQ (adB 2) 8 u12 u2 (-u8) u13 eu13 _) ⟨va_cnB 3 hts gX0_passToGuarantor_X4_add_n86 rfl rfl rfl hN.2.2.2.2.1 (hts (.initialized RX4) (List.mem_of_getElem? (i := 10) rfl)) (by decide +kernel) ⟨Nat.le_of_ble_eq_true rfl, Nat.le_of_ble_eq_true rfl⟩, (hts (.static yX4_add) (List.mem_of_getElem? (i := 20) rfl)), trivial⟩ (pS hK hN hP hD [2] rfl rfl) rfl rfl hl.1 rfl (lv_room (Nat.le_of_ble_eq_true rfl)) dX0_passToGuarantor_99 ⟨Nat.zero_le _, Nat.zero_le _⟩) hP hD hS hA [2] rfl rfl (ws' := (wB cA adB (setA (setA (setA (setA vB 8 u9) 12 u10) 13 u11) 2 u13))) rfl (fun H locs hP hD hS => ?_)
        refine lv_aload_n hx hb dX0_passToGuarantor_102 rfl (lv_at hl 3 rfl) ?_
        refine va_get (D := D) (ci := 0) (v := .ref (adB 6)) (C := RX0) (T := TX0) (N := 13) hx hb hts iw_X0_passToGuarantor_X0 hown hK hP 0 rfl rfl 5 (by decide) (hts (.fieldLink RX0 27 "FavourRings$Bank" "takenOver" "[I") (List.mem_of_getElem? (i := 7) rfl)) (fun _ h9 => h9) rfl dX0_passToGuarantor_103 ?_
        refine lv_iload_n hx hb dX0_passToGuarantor_106 rfl (lv_at hl 1 rfl) ?_
        refine lv_iload hx hb dX0_passToGuarantor_107 (lv_at hl 0 rfl) ?_
        obtain ⟨u14, eu14, h⟩ := bd_in h
        refine kV (va_runSN (As := [.ref (adB 6), .int u2, .int u8]) (rest := []) ⟨hx, hb, hml, hown, hts⟩ (c_X4_add l D cA cQ (adB 6) 8 (vB 6) u2 u8 u14 eu14 _) ⟨va_cnB 3 hts gX0_passToGuarantor_X4_add_n86 rfl rfl rfl hN.2.2.2.2.1 (hts (.initialized RX4) (List.mem_of_getElem? (i := 10) rfl)) (by decide +kernel) ⟨Nat.le_of_ble_eq_true rfl, Nat.le_of_ble_eq_true rfl⟩, (hts (.static yX4_add) (List.mem_of_getElem? (i := 20) rfl)), trivial⟩ (pS hK hN hP hD [6] rfl rfl) rfl rfl hl.1 rfl (lv_room (Nat.le_of_ble_eq_true rfl)) dX0_passToGuarantor_109 ⟨Nat.zero_le _, Nat.zero_le _⟩) hP hD hS hA [6] rfl rfl (ws' := (wB cA adB (setA (setA (setA (setA (setA vB 8 u9) 12 u10) 13 u11) 2 u13) 6 u14))) rfl (fun H locs hP hD hS => ?_)
        refine lv_aload_n hx hb dX0_passToGuarantor_112 rfl (lv_at hl 3 rfl) ?_
        refine va_get (D := D) (ci := 0) (v := .ref (adB 1)) (C := RX0) (T := TX0) (N := 13) hx hb hts iw_X0_passToGuarantor_X0 hown hK hP 0 rfl rfl 0 (by decide) (hts (.fieldLink RX0 9 "FavourRings$Bank" "numbers" "[I") (List.mem_of_getElem? (i := 8) rfl)) (fun _ h9 => h9) rfl dX0_passToGuarantor_113 ?_
        refine lv_bipush (v := (8 : Int32)) hx hb dX0_passToGuarantor_116 (by decide) ?_
        refine lv_iload hx hb dX0_passToGuarantor_118 (lv_at hl 0 rfl) ?_
        obtain ⟨u15, eu15, h⟩ := bd_in h
        refine kV (va_runSN (As := [.ref (adB 1), .int (8 : Int32), .int u8]) (rest := []) ⟨hx, hb, hml, hown, hts⟩ (c_X4_add l D cA cQ (adB 1) 26 (vB 1) (8 : Int32) u8 u15 eu15 _) ⟨va_cnB 3 hts gX0_passToGuarantor_X4_add_n86 rfl rfl rfl hN.2.2.2.2.1 (hts (.initialized RX4) (List.mem_of_getElem? (i := 10) rfl)) (by decide +kernel) ⟨Nat.le_of_ble_eq_true rfl, Nat.le_of_ble_eq_true rfl⟩, (hts (.static yX4_add) (List.mem_of_getElem? (i := 20) rfl)), trivial⟩ (pS hK hN hP hD [1] rfl rfl) rfl rfl hl.1 rfl (lv_room (Nat.le_of_ble_eq_true rfl)) dX0_passToGuarantor_120 ⟨Nat.zero_le _, Nat.zero_le _⟩) hP hD hS hA [1] rfl rfl (ws' := (wB cA adB (setA (setA (setA (setA (setA (setA vB 8 u9) 12 u10) 13 u11) 2 u13) 6 u14) 1 u15))) rfl (fun H locs hP hD hS => ?_)
        refine lv_iconst (v := (1 : Int32)) hx hb dX0_passToGuarantor_123 (by decide) ?_
        cases h
        exact endZ hx hb hr hlocks hP hS ⟨rfl, rfl⟩ dX0_passToGuarantor_124
      · have h := (if_neg c7).symm.trans h
        refine lv_iconst (v := (0 : Int32)) hx hb dX0_passToGuarantor_42 (by decide) ?_
        cases h
        exact endZ hx hb hr hlocks hP hS ⟨rfl, rfl⟩ dX0_passToGuarantor_43
theorem iw_X0_spoilLot_X0 : ∀ w ∈ wsX00, w ∈ wsX0_spoilLot := fun _ h => List.mem_cons_of_mem _ (List.mem_append_right _ (h))
set_option maxHeartbeats 4000000 in
set_option maxRecDepth 100000 in
theorem c_X0_spoilLot (l : Launch) (D : va_G) (cA cQ : ClassId) (adB : Nat → Nat) (vB : St) (p1 : Int32) (o : St) (hf : X0_spoilLot vB p1 = some o) : Ctv l yX0_spoilLot wsX0_spoilLot ({ frames := 1, cells := 0, slots := 0, locals := 22 }) D (TY cA cQ) [.ref (adB 0), .int p1] (wB cA adB vB) (wB cA adB o) := by
  refine Wk.v (cc := cX0_spoilLot) (maxL := 4) (ret := none) (by decide) rfl (Nat.le_of_ble_eq_true rfl) ?_
  intro p e s m below meth c A ls hx hb hr hlocks hml hown hts hK hN hP hD hA hl
  have hown : s.vm.findClass RX0 = some m.cls := hown
  have hS : va_S A s.heap s.heap [] := va_S.rf
  have hl : lv_has ls 4 [(0, .ref (adB 0)), (1, .int p1)] := hl
  have h := hf
  unfold X0_spoilLot at h
  refine lv_aload_n hx hb dX0_spoilLot_0 rfl (lv_at hl 0 rfl) ?_
  refine va_get (D := D) (ci := 0) (v := .ref (adB 8)) (C := RX0) (T := TX0) (N := 13) hx hb hts iw_X0_spoilLot_X0 hown hK hP 0 rfl rfl 7 (by decide) (hts (.fieldLink RX0 33 "FavourRings$Bank" "debtors" "[I") (List.mem_of_getElem? (i := 1) rfl)) (fun _ h9 => h9) rfl dX0_spoilLot_1 ?_
  refine lv_iload_n hx hb dX0_spoilLot_4 rfl (lv_at hl 1 rfl) ?_
  obtain ⟨u1, eu1, h⟩ := bd_in h
  refine kI (va_runSN (As := [.ref (adB 8), .int p1]) (rest := []) ⟨hx, hb, hml, hown, hts⟩ (c_X4_at l D cA cQ (adB 8) 40 (vB 8) p1 u1 eu1 _) ⟨va_cnB 2 hts gX0_spoilLot_X4_at_n77 rfl rfl rfl hN.2.2.2.1 (hts (.initialized RX4) (List.mem_of_getElem? (i := 8) rfl)) (by decide +kernel) ⟨Nat.le_of_ble_eq_true rfl, Nat.le_of_ble_eq_true rfl⟩, (hts (.static yX4_at) (List.mem_of_getElem? (i := 7) rfl)), trivial⟩ (pS hK hN hP hD [8] rfl rfl) rfl rfl hl.1 rfl (lv_room (Nat.le_of_ble_eq_true rfl)) dX0_spoilLot_5 ⟨Nat.zero_le _, Nat.zero_le _⟩) hP hD hS hA [8] rfl rfl (ws' := (wB cA adB vB)) rfl (fun H locs hP hD hS => ?_)
  refine lv_istore_n (lv' := [(2, .int u1), (0, .ref (adB 0)), (1, .int p1)]) hx hb dX0_spoilLot_8 rfl hl (by decide) rfl (fun ls hl => ?_)
  refine lv_aload_n hx hb dX0_spoilLot_9 rfl (lv_at hl 1 rfl) ?_
  refine va_get (D := D) (ci := 0) (v := .ref (adB 11)) (C := RX0) (T := TX0) (N := 13) hx hb hts iw_X0_spoilLot_X0 hown hK hP 0 rfl rfl 10 (by decide) (hts (.fieldLink RX0 42 "FavourRings$Bank" "sizes" "[I") (List.mem_of_getElem? (i := 2) rfl)) (fun _ h9 => h9) rfl dX0_spoilLot_10 ?_
  refine lv_iload_n hx hb dX0_spoilLot_13 rfl (lv_at hl 2 rfl) ?_
  obtain ⟨u2, eu2, h⟩ := bd_in h
  refine kI (va_runSN (As := [.ref (adB 11), .int p1]) (rest := []) ⟨hx, hb, hml, hown, hts⟩ (c_X4_at l D cA cQ (adB 11) 40 (vB 11) p1 u2 eu2 _) ⟨va_cnB 2 hts gX0_spoilLot_X4_at_n77 rfl rfl rfl hN.2.2.2.1 (hts (.initialized RX4) (List.mem_of_getElem? (i := 8) rfl)) (by decide +kernel) ⟨Nat.le_of_ble_eq_true rfl, Nat.le_of_ble_eq_true rfl⟩, (hts (.static yX4_at) (List.mem_of_getElem? (i := 7) rfl)), trivial⟩ (pS hK hN hP hD [11] rfl rfl) rfl rfl hl.1 rfl (lv_room (Nat.le_of_ble_eq_true rfl)) dX0_spoilLot_14 ⟨Nat.zero_le _, Nat.zero_le _⟩) hP hD hS hA [11] rfl rfl (ws' := (wB cA adB vB)) rfl (fun H locs hP hD hS => ?_)
  refine lv_istore_n (lv' := [(3, .int u2), (2, .int u1), (0, .ref (adB 0)), (1, .int p1)]) hx hb dX0_spoilLot_17 rfl hl (by decide) rfl (fun ls hl => ?_)
  refine lv_aload_n hx hb dX0_spoilLot_18 rfl (lv_at hl 2 rfl) ?_
  refine va_get (D := D) (ci := 0) (v := .ref (adB 11)) (C := RX0) (T := TX0) (N := 13) hx hb hts iw_X0_spoilLot_X0 hown hK hP 0 rfl rfl 10 (by decide) (hts (.fieldLink RX0 42 "FavourRings$Bank" "sizes" "[I") (List.mem_of_getElem? (i := 2) rfl)) (fun _ h9 => h9) rfl dX0_spoilLot_19 ?_
  refine lv_iload_n hx hb dX0_spoilLot_22 rfl (lv_at hl 3 rfl) ?_
  refine lv_iconst (v := (0 : Int32)) hx hb dX0_spoilLot_23 (by decide) ?_
  obtain ⟨u3, eu3, h⟩ := bd_in h
  refine kV (va_runSN (As := [.ref (adB 11), .int p1, .int (0 : Int32)]) (rest := []) ⟨hx, hb, hml, hown, hts⟩ (c_X4_put l D cA cQ (adB 11) 40 (vB 11) p1 (0 : Int32) u3 eu3 _) ⟨va_cnB 3 hts gX0_spoilLot_X4_put_n55 rfl rfl rfl hN.2.1 (hts (.initialized RX4) (List.mem_of_getElem? (i := 8) rfl)) (by decide +kernel) ⟨Nat.le_of_ble_eq_true rfl, Nat.le_of_ble_eq_true rfl⟩, (hts (.static yX4_put) (List.mem_of_getElem? (i := 10) rfl)), trivial⟩ (pS hK hN hP hD [11] rfl rfl) rfl rfl hl.1 rfl (lv_room (Nat.le_of_ble_eq_true rfl)) dX0_spoilLot_24 ⟨Nat.zero_le _, Nat.zero_le _⟩) hP hD hS hA [11] rfl rfl (ws' := (wB cA adB (setA vB 11 u3))) rfl (fun H locs hP hD hS => ?_)
  refine lv_aload_n hx hb dX0_spoilLot_27 rfl (lv_at hl 2 rfl) ?_
  refine va_get (D := D) (ci := 0) (v := .ref (adB 2)) (C := RX0) (T := TX0) (N := 13) hx hb hts iw_X0_spoilLot_X0 hown hK hP 0 rfl rfl 1 (by decide) (hts (.fieldLink RX0 15 "FavourRings$Bank" "came" "[I") (List.mem_of_getElem? (i := 3) rfl)) (fun _ h9 => h9) rfl dX0_spoilLot_28 ?_
  refine lv_iload_n hx hb dX0_spoilLot_31 rfl (lv_at hl 1 rfl) ?_
  refine lv_iload_n hx hb dX0_spoilLot_32 rfl (lv_at hl 0 rfl) ?_
  obtain ⟨u4, eu4, h⟩ := bd_in h
  refine kV (va_runSN (As := [.ref (adB 2), .int u1, .int u2]) (rest := []) ⟨hx, hb, hml, hown, hts⟩ (c_X4_add l D cA cQ (adB 2) 8 (vB 2) u1 u2 u4 eu4 _) ⟨va_cnB 3 hts gX0_spoilLot_X4_add_n86 rfl rfl rfl hN.2.2.2.2.1 (hts (.initialized RX4) (List.mem_of_getElem? (i := 8) rfl)) (by decide +kernel) ⟨Nat.le_of_ble_eq_true rfl, Nat.le_of_ble_eq_true rfl⟩, (hts (.static yX4_add) (List.mem_of_getElem? (i := 12) rfl)), trivial⟩ (pS hK hN hP hD [2] rfl rfl) rfl rfl hl.1 rfl (lv_room (Nat.le_of_ble_eq_true rfl)) dX0_spoilLot_33 ⟨Nat.zero_le _, Nat.zero_le _⟩) hP hD hS hA [2] rfl rfl (ws' := (wB cA adB (setA (setA vB 11 u3) 2 u4))) rfl (fun H locs hP hD hS => ?_)
  refine lv_aload_n hx hb dX0_spoilLot_36 rfl (lv_at hl 2 rfl) ?_
  refine va_get (D := D) (ci := 0) (v := .ref (adB 2)) (C := RX0) (T := TX0) (N := 13) hx hb hts iw_X0_spoilLot_X0 hown hK hP 0 rfl rfl 1 (by decide) (hts (.fieldLink RX0 15 "FavourRings$Bank" "came" "[I") (List.mem_of_getElem? (i := 3) rfl)) (fun _ h9 => h9) rfl dX0_spoilLot_37 ?_
  refine lv_aload_n hx hb dX0_spoilLot_40 rfl (lv_at hl 2 rfl) ?_
  refine va_get (D := D) (ci := 0) (v := .ref (adB 9)) (C := RX0) (T := TX0) (N := 13) hx hb hts iw_X0_spoilLot_X0 hown hK hP 0 rfl rfl 8 (by decide) (hts (.fieldLink RX0 36 "FavourRings$Bank" "creditors" "[I") (List.mem_of_getElem? (i := 4) rfl)) (fun _ h9 => h9) rfl dX0_spoilLot_41 ?_
  refine lv_iload_n hx hb dX0_spoilLot_44 rfl (lv_at hl 3 rfl) ?_
  obtain ⟨u5, eu5, h⟩ := bd_in h
  refine kI (va_runSN (As := [.ref (adB 9), .int p1]) (rest := [.ref (adB 2)]) ⟨hx, hb, hml, hown, hts⟩ (c_X4_at l D cA cQ (adB 9) 40 (vB 9) p1 u5 eu5 _) ⟨va_cnB 2 hts gX0_spoilLot_X4_at_n77 rfl rfl rfl hN.2.2.2.1 (hts (.initialized RX4) (List.mem_of_getElem? (i := 8) rfl)) (by decide +kernel) ⟨Nat.le_of_ble_eq_true rfl, Nat.le_of_ble_eq_true rfl⟩, (hts (.static yX4_at) (List.mem_of_getElem? (i := 7) rfl)), trivial⟩ (pS hK hN hP hD [9] rfl rfl) rfl rfl hl.1 rfl (lv_room (Nat.le_of_ble_eq_true rfl)) dX0_spoilLot_45 ⟨Nat.zero_le _, Nat.zero_le _⟩) hP hD hS hA [9] rfl rfl (ws' := (wB cA adB (setA (setA vB 11 u3) 2 u4))) rfl (fun H locs hP hD hS => ?_)
  refine lv_iload_n hx hb dX0_spoilLot_48 rfl (lv_at hl 0 rfl) ?_
  refine lv_ineg hx hb dX0_spoilLot_49 ?_
  obtain ⟨u6, eu6, h⟩ := bd_in h
  refine kV (va_runSN (As := [.ref (adB 2), .int u5, .int (-u2)]) (rest := []) ⟨hx, hb, hml, hown, hts⟩ (c_X4_add l D cA cQ (adB 2) 8 u4 u5 (-u2) u6 eu6 _) ⟨va_cnB 3 hts gX0_spoilLot_X4_add_n86 rfl rfl rfl hN.2.2.2.2.1 (hts (.initialized RX4) (List.mem_of_getElem? (i := 8) rfl)) (by decide +kernel) ⟨Nat.le_of_ble_eq_true rfl, Nat.le_of_ble_eq_true rfl⟩, (hts (.static yX4_add) (List.mem_of_getElem? (i := 12) rfl)), trivial⟩ (pS hK hN hP hD [2] rfl rfl) rfl rfl hl.1 rfl (lv_room (Nat.le_of_ble_eq_true rfl)) dX0_spoilLot_50 ⟨Nat.zero_le _, Nat.zero_le _⟩) hP hD hS hA [2] rfl rfl (ws' := (wB cA adB (setA (setA vB 11 u3) 2 u6))) rfl (fun H locs hP hD hS => ?_)
  refine lv_aload_n hx hb dX0_spoilLot_53 rfl (lv_at hl 2 rfl) ?_
  refine va_get (D := D) (ci := 0) (v := .ref (adB 4)) (C := RX0) (T := TX0) (N := 13) hx hb hts iw_X0_spoilLot_X0 hown hK hP 0 rfl rfl 3 (by decide) (hts (.fieldLink RX0 21 "FavourRings$Bank" "spoiled" "[I") (List.mem_of_getElem? (i := 5) rfl)) (fun _ h9 => h9) rfl dX0_spoilLot_54 ?_
  refine lv_iload_n hx hb dX0_spoilLot_57 rfl (lv_at hl 1 rfl) ?_
  refine lv_iload_n hx hb dX0_spoilLot_58 rfl (lv_at hl 0 rfl) ?_
  obtain ⟨u7, eu7, h⟩ := bd_in h
  refine kV (va_runSN (As := [.ref (adB 4), .int u1, .int u2]) (rest := []) ⟨hx, hb, hml, hown, hts⟩ (c_X4_add l D cA cQ (adB 4) 8 (vB 4) u1 u2 u7 eu7 _) ⟨va_cnB 3 hts gX0_spoilLot_X4_add_n86 rfl rfl rfl hN.2.2.2.2.1 (hts (.initialized RX4) (List.mem_of_getElem? (i := 8) rfl)) (by decide +kernel) ⟨Nat.le_of_ble_eq_true rfl, Nat.le_of_ble_eq_true rfl⟩, (hts (.static yX4_add) (List.mem_of_getElem? (i := 12) rfl)), trivial⟩ (pS hK hN hP hD [4] rfl rfl) rfl rfl hl.1 rfl (lv_room (Nat.le_of_ble_eq_true rfl)) dX0_spoilLot_59 ⟨Nat.zero_le _, Nat.zero_le _⟩) hP hD hS hA [4] rfl rfl (ws' := (wB cA adB (setA (setA (setA vB 11 u3) 2 u6) 4 u7))) rfl (fun H locs hP hD hS => ?_)
  refine lv_aload_n hx hb dX0_spoilLot_62 rfl (lv_at hl 2 rfl) ?_
  refine va_get (D := D) (ci := 0) (v := .ref (adB 1)) (C := RX0) (T := TX0) (N := 13) hx hb hts iw_X0_spoilLot_X0 hown hK hP 0 rfl rfl 0 (by decide) (hts (.fieldLink RX0 9 "FavourRings$Bank" "numbers" "[I") (List.mem_of_getElem? (i := 6) rfl)) (fun _ h9 => h9) rfl dX0_spoilLot_63 ?_
  refine lv_bipush (v := (6 : Int32)) hx hb dX0_spoilLot_66 (by decide) ?_
  refine lv_iload_n hx hb dX0_spoilLot_68 rfl (lv_at hl 0 rfl) ?_
  obtain ⟨u8, eu8, h⟩ := bd_in h
  refine kV (va_runSN (As := [.ref (adB 1), .int (6 : Int32), .int u2]) (rest := []) ⟨hx, hb, hml, hown, hts⟩ (c_X4_add l D cA cQ (adB 1) 26 (vB 1) (6 : Int32) u2 u8 eu8 _) ⟨va_cnB 3 hts gX0_spoilLot_X4_add_n86 rfl rfl rfl hN.2.2.2.2.1 (hts (.initialized RX4) (List.mem_of_getElem? (i := 8) rfl)) (by decide +kernel) ⟨Nat.le_of_ble_eq_true rfl, Nat.le_of_ble_eq_true rfl⟩, (hts (.static yX4_add) (List.mem_of_getElem? (i := 12) rfl)), trivial⟩ (pS hK hN hP hD [1] rfl rfl) rfl rfl hl.1 rfl (lv_room (Nat.le_of_ble_eq_true rfl)) dX0_spoilLot_69 ⟨Nat.zero_le _, Nat.zero_le _⟩) hP hD hS hA [1] rfl rfl (ws' := (wB cA adB (setA (setA (setA (setA vB 11 u3) 2 u6) 4 u7) 1 u8))) rfl (fun H locs hP hD hS => ?_)
  cases h
  exact endV hx hb hr hlocks hP hS dX0_spoilLot_72
theorem iw_X0_endWeek_X0 : ∀ w ∈ wsX00, w ∈ wsX0_endWeek := fun _ h => List.mem_cons_of_mem _ (List.mem_append_right _ (h))
set_option maxHeartbeats 4000000 in
set_option maxRecDepth 100000 in
theorem c_X0_endWeek (l : Launch) (D : va_G) (cA cQ : ClassId) (adB : Nat → Nat) (vB : St) (o : St) (hf : X0_endWeek vB = some o) : Ctv l yX0_endWeek wsX0_endWeek ({ frames := 2, cells := 0, slots := 0, locals := 46 }) D (TY cA cQ) [.ref (adB 0)] (wB cA adB vB) (wB cA adB o) := by
  refine Wk.v (cc := cX0_endWeek) (maxL := 2) (ret := none) (by decide) rfl (Nat.le_of_ble_eq_true rfl) ?_
  intro p e s m below meth c A ls hx hb hr hlocks hml hown hts hK hN hP hD hA hl
  have hown : s.vm.findClass RX0 = some m.cls := hown
  have hS : va_S A s.heap s.heap [] := va_S.rf
  have hl : lv_has ls 2 [(0, .ref (adB 0))] := hl
  have B64 : ∀ (vB : St) (H : Heap) (locs : List Loc) (ls : Array Slot), X0_endWeek_b64 vB = some o → va_P D vwCl (wB cA adB vB) H → va_D A (wB cA adB vB) → va_S A s.heap H locs → lv_has ls 2 [(0, .ref (adB 0))] → W p l e (headSpec wsX0_endWeek ({ frames := 2, cells := 0, slots := 0, locals := 46 })).room s m ([.ref (adB 0)] : List Value).toArray below meth c H locs 0 0 (MQ below (QV D (wB cA adB o) A) ([.ref (adB 0)] : List Value).toArray s 0 0 A) (F0 m 64 ls []) := by
    intro vB H locs ls h hP hD hS hl
    unfold X0_endWeek_b64 at h
    refine lv_aload_n hx hb dX0_endWeek_64 rfl (lv_at hl 0 rfl) ?_
    obtain ⟨u1, eu1, h⟩ := bd_in h
    refine kV (va_runV (As := []) (rest := []) ⟨hx, hb, hml, hown, hts⟩ (c_X0_dropEmptyLots l D cA cQ adB vB u1 eu1 _) (cwV 0 hts gX0_endWeek_X0_dropEmptyLots rfl rfl rfl (by decide +kernel) ⟨Nat.le_of_ble_eq_true rfl, Nat.le_of_ble_eq_true rfl⟩) (pV (ci := 0) (q := (RX0, TX0, 13)) hK hN hP hD [0, 1, 2, 3, 4, 5, 6, 7, 8, 9, 10, 11, 12, 13] rfl rfl rfl rfl) rfl rfl hl.1 rfl (lv_room (Nat.le_of_ble_eq_true rfl)) dX0_endWeek_65 ⟨Nat.zero_le _, Nat.zero_le _⟩) hP hD hS hA [0, 1, 2, 3, 4, 5, 6, 7, 8, 9, 10, 11, 12, 13] rfl rfl (ws' := (wB cA adB u1)) rfl (fun H locs hP hD hS => ?_)
    cases h
    exact endV hx hb hr hlocks hP hS dX0_endWeek_68
  have B19 : ∀ (fu19 : Nat) (vB : St) (x1 : Int32) (H : Heap) (locs : List Loc) (ls : Array Slot), X0_endWeek_l19 fu19 vB x1 = some o → va_P D vwCl (wB cA adB vB) H → va_D A (wB cA adB vB) → va_S A s.heap H locs → lv_has ls 2 [(0, .ref (adB 0)), (1, .int x1)] → W p l e (headSpec wsX0_endWeek ({ frames := 2, cells := 0, slots := 0, locals := 46 })).room s m ([.ref (adB 0)] : List Value).toArray below meth c H locs 0 0 (MQ below (QV D (wB cA adB o) A) ([.ref (adB 0)] : List Value).toArray s 0 0 A) (F0 m 19 ls []) := by
    intro fu19
    induction fu19 with
    | zero =>
      intro vB x1 H locs ls h hP hD hS hl
      cases h
    | succ fu19 ih19 =>
      intro vB x1 H locs ls h hP hD hS hl
      rw [X0_endWeek_l19] at h
      refine lv_iload_n hx hb dX0_endWeek_19 rfl (lv_at hl 1 rfl) ?_
      refine lv_aload_n hx hb dX0_endWeek_20 rfl (lv_at hl 0 rfl) ?_
      refine lv_iconst (v := (2 : Int32)) hx hb dX0_endWeek_21 (by decide) ?_
      obtain ⟨u2, eu2, h⟩ := bd_in h
      refine kI (va_runV (As := [.int (2 : Int32)]) (rest := [.int x1]) ⟨hx, hb, hml, hown, hts⟩ (c_X0_number l D cA cQ adB vB (2 : Int32) u2 eu2 _) (cwV 1 hts gX0_endWeek_X0_number rfl rfl rfl (by decide +kernel) ⟨Nat.le_of_ble_eq_true rfl, Nat.le_of_ble_eq_true rfl⟩) (pV (ci := 0) (q := (RX0, TX0, 13)) hK hN hP hD [0, 1, 2, 3, 4, 5, 6, 7, 8, 9, 10, 11, 12, 13] rfl rfl rfl rfl) rfl rfl hl.1 rfl (lv_room (Nat.le_of_ble_eq_true rfl)) dX0_endWeek_22 ⟨Nat.zero_le _, Nat.zero_le _⟩) hP hD hS hA [0, 1, 2, 3, 4, 5, 6, 7, 8, 9, 10, 11, 12, 13] rfl rfl (ws' := (wB cA adB vB)) rfl (fun H locs hP hD hS => ?_)
      refine lv_icmp_ge (tgt := 64) hx hb dX0_endWeek_25 (by decide) (fun c3 => ?_) (fun c3 => ?_)
      · have h := (if_pos c3).symm.trans h
        exact B64 vB _ _ _ h hP hD hS (lv_sub hl [0] rfl)
      · have h := (if_neg c3).symm.trans h
        refine lv_aload_n hx hb dX0_endWeek_28 rfl (lv_at hl 0 rfl) ?_
        refine va_get (D := D) (ci := 0) (v := .ref (adB 12)) (C := RX0) (T := TX0) (N := 13) hx hb hts iw_X0_endWeek_X0 hown hK hP 0 rfl rfl 11 (by decide) (hts (.fieldLink RX0 45 "FavourRings$Bank" "ages" "[I") (List.mem_of_getElem? (i := 2) rfl)) (fun _ h9 => h9) rfl dX0_endWeek_29 ?_
        refine lv_iload_n hx hb dX0_endWeek_32 rfl (lv_at hl 1 rfl) ?_
        refine lv_iconst (v := (1 : Int32)) hx hb dX0_endWeek_33 (by decide) ?_
        obtain ⟨u4, eu4, h⟩ := bd_in h
        refine kV (va_runSN (As := [.ref (adB 12), .int x1, .int (1 : Int32)]) (rest := []) ⟨hx, hb, hml, hown, hts⟩ (c_X4_add l D cA cQ (adB 12) 40 (vB 12) x1 (1 : Int32) u4 eu4 _) ⟨va_cnB 3 hts gX0_endWeek_X4_add_n86 rfl rfl rfl hN.2.2.2.2.1 (hts (.initialized RX4) (List.mem_of_getElem? (i := 4) rfl)) (by decide +kernel) ⟨Nat.le_of_ble_eq_true rfl, Nat.le_of_ble_eq_true rfl⟩, (hts (.static yX4_add) (List.mem_of_getElem? (i := 3) rfl)), trivial⟩ (pS hK hN hP hD [12] rfl rfl) rfl rfl hl.1 rfl (lv_room (Nat.le_of_ble_eq_true rfl)) dX0_endWeek_34 ⟨Nat.zero_le _, Nat.zero_le _⟩) hP hD hS hA [12] rfl rfl (ws' := (wB cA adB (setA vB 12 u4))) rfl (fun H locs hP hD hS => ?_)
        refine lv_aload_n hx hb dX0_endWeek_37 rfl (lv_at hl 0 rfl) ?_
        refine lv_iload_n hx hb dX0_endWeek_38 rfl (lv_at hl 1 rfl) ?_
        obtain ⟨u5, eu5, h⟩ := bd_in h
        refine kI (va_runV (As := [.int x1]) (rest := []) ⟨hx, hb, hml, hown, hts⟩ (c_X0_weeksLeft l D cA cQ adB (setA vB 12 u4) x1 u5 eu5 _) (cwV 1 hts gX0_endWeek_X0_weeksLeft rfl rfl rfl (by decide +kernel) ⟨Nat.le_of_ble_eq_true rfl, Nat.le_of_ble_eq_true rfl⟩) (pV (ci := 0) (q := (RX0, TX0, 13)) hK hN hP hD [0, 1, 2, 3, 4, 5, 6, 7, 8, 9, 10, 11, 12, 13] rfl rfl rfl rfl) rfl rfl hl.1 rfl (lv_room (Nat.le_of_ble_eq_true rfl)) dX0_endWeek_39 ⟨Nat.zero_le _, Nat.zero_le _⟩) hP hD hS hA [0, 1, 2, 3, 4, 5, 6, 7, 8, 9, 10, 11, 12, 13] rfl rfl (ws' := (wB cA adB (setA vB 12 u4))) rfl (fun H locs hP hD hS => ?_)
        refine lv_if_gt (tgt := 58) hx hb dX0_endWeek_42 (by decide) (fun c6 => ?_) (fun c6 => ?_)
        · have h := (if_pos c6).symm.trans h
          refine lv_iinc (v := (x1 + (1 : Int32))) (lv' := [(1, .int (x1 + (1 : Int32))), (0, .ref (adB 0))]) hx hb dX0_endWeek_58 hl (k := 1) rfl rfl (by decide) rfl (fun ls hl => ?_)
          refine lv_goto (tgt := 19) hx hb dX0_endWeek_61 (by decide) ?_
          exact ih19 (setA vB 12 u4) (x1 + (1 : Int32)) _ _ _ h hP hD hS (lv_sub hl [1, 0] rfl)
        · have h := (if_neg c6).symm.trans h
          refine lv_aload_n hx hb dX0_endWeek_45 rfl (lv_at hl 0 rfl) ?_
          refine lv_iload_n hx hb dX0_endWeek_46 rfl (lv_at hl 1 rfl) ?_
          obtain ⟨u7, eu7, h⟩ := bd_in h
          refine kI (va_runV (As := [.int x1]) (rest := []) ⟨hx, hb, hml, hown, hts⟩ (c_X0_passToGuarantor l D cA cQ adB (setA vB 12 u4) x1 u7 eu7 _) (cwV 1 hts gX0_endWeek_X0_passToGuarantor rfl rfl rfl (by decide +kernel) ⟨Nat.le_of_ble_eq_true rfl, Nat.le_of_ble_eq_true rfl⟩) (pV (ci := 0) (q := (RX0, TX0, 13)) hK hN hP hD [0, 1, 2, 3, 4, 5, 6, 7, 8, 9, 10, 11, 12, 13] rfl rfl rfl rfl) rfl rfl hl.1 rfl (lv_room (Nat.le_of_ble_eq_true rfl)) dX0_endWeek_47 ⟨Nat.zero_le _, Nat.zero_le _⟩) hP hD hS hA [0, 1, 2, 3, 4, 5, 6, 7, 8, 9, 10, 11, 12, 13] rfl rfl (ws' := (wB cA adB u7.2)) rfl (fun H locs hP hD hS => ?_)
          refine lv_if_ne (tgt := 58) hx hb dX0_endWeek_50 (by decide) (fun c8 => ?_) (fun c8 => ?_)
          · have h := (if_neg c8).symm.trans h
            refine lv_iinc (v := (x1 + (1 : Int32))) (lv' := [(1, .int (x1 + (1 : Int32))), (0, .ref (adB 0))]) hx hb dX0_endWeek_58 hl (k := 1) rfl rfl (by decide) rfl (fun ls hl => ?_)
            refine lv_goto (tgt := 19) hx hb dX0_endWeek_61 (by decide) ?_
            exact ih19 u7.2 (x1 + (1 : Int32)) _ _ _ h hP hD hS (lv_sub hl [1, 0] rfl)
          · have h := (if_pos c8).symm.trans h
            refine lv_aload_n hx hb dX0_endWeek_53 rfl (lv_at hl 0 rfl) ?_
            refine lv_iload_n hx hb dX0_endWeek_54 rfl (lv_at hl 1 rfl) ?_
            obtain ⟨u9, eu9, h⟩ := bd_in h
            refine kV (va_runV (As := [.int x1]) (rest := []) ⟨hx, hb, hml, hown, hts⟩ (c_X0_spoilLot l D cA cQ adB u7.2 x1 u9 eu9 _) (cwV 1 hts gX0_endWeek_X0_spoilLot rfl rfl rfl (by decide +kernel) ⟨Nat.le_of_ble_eq_true rfl, Nat.le_of_ble_eq_true rfl⟩) (pV (ci := 0) (q := (RX0, TX0, 13)) hK hN hP hD [0, 1, 2, 3, 4, 5, 6, 7, 8, 9, 10, 11, 12, 13] rfl rfl rfl rfl) rfl rfl hl.1 rfl (lv_room (Nat.le_of_ble_eq_true rfl)) dX0_endWeek_55 ⟨Nat.zero_le _, Nat.zero_le _⟩) hP hD hS hA [0, 1, 2, 3, 4, 5, 6, 7, 8, 9, 10, 11, 12, 13] rfl rfl (ws' := (wB cA adB u9)) rfl (fun H locs hP hD hS => ?_)
            refine lv_iinc (v := (x1 + (1 : Int32))) (lv' := [(1, .int (x1 + (1 : Int32))), (0, .ref (adB 0))]) hx hb dX0_endWeek_58 hl (k := 1) rfl rfl (by decide) rfl (fun ls hl => ?_)
            refine lv_goto (tgt := 19) hx hb dX0_endWeek_61 (by decide) ?_
            exact ih19 u9 (x1 + (1 : Int32)) _ _ _ h hP hD hS (lv_sub hl [1, 0] rfl)
  have h := hf
  unfold X0_endWeek at h
  refine lv_aload_n hx hb dX0_endWeek_0 rfl (lv_at hl 0 rfl) ?_
  refine va_get (D := D) (ci := 0) (v := .ref (adB 1)) (C := RX0) (T := TX0) (N := 13) hx hb hts iw_X0_endWeek_X0 hown hK hP 0 rfl rfl 0 (by decide) (hts (.fieldLink RX0 9 "FavourRings$Bank" "numbers" "[I") (List.mem_of_getElem? (i := 1) rfl)) (fun _ h9 => h9) rfl dX0_endWeek_1 ?_
  refine lv_iconst (v := (0 : Int32)) hx hb dX0_endWeek_4 (by decide) ?_
  refine lv_iconst (v := (1 : Int32)) hx hb dX0_endWeek_5 (by decide) ?_
  obtain ⟨u10, eu10, h⟩ := bd_in h
  refine kV (va_runSN (As := [.ref (adB 1), .int (0 : Int32), .int (1 : Int32)]) (rest := []) ⟨hx, hb, hml, hown, hts⟩ (c_X4_add l D cA cQ (adB 1) 26 (vB 1) (0 : Int32) (1 : Int32) u10 eu10 _) ⟨va_cnB 3 hts gX0_endWeek_X4_add_n86 rfl rfl rfl hN.2.2.2.2.1 (hts (.initialized RX4) (List.mem_of_getElem? (i := 4) rfl)) (by decide +kernel) ⟨Nat.le_of_ble_eq_true rfl, Nat.le_of_ble_eq_true rfl⟩, (hts (.static yX4_add) (List.mem_of_getElem? (i := 3) rfl)), trivial⟩ (pS hK hN hP hD [1] rfl rfl) rfl rfl hl.1 rfl (lv_room (Nat.le_of_ble_eq_true rfl)) dX0_endWeek_6 ⟨Nat.zero_le _, Nat.zero_le _⟩) hP hD hS hA [1] rfl rfl (ws' := (wB cA adB (setA vB 1 u10))) rfl (fun H locs hP hD hS => ?_)
  refine lv_aload_n hx hb dX0_endWeek_9 rfl (lv_at hl 0 rfl) ?_
  obtain ⟨u11, eu11, h⟩ := bd_in h
  refine kI (va_runV (As := []) (rest := []) ⟨hx, hb, hml, hown, hts⟩ (c_X0_hasHolidays l D cA cQ adB (setA vB 1 u10) u11 eu11 _) (cwV 0 hts gX0_endWeek_X0_hasHolidays rfl rfl rfl (by decide +kernel) ⟨Nat.le_of_ble_eq_true rfl, Nat.le_of_ble_eq_true rfl⟩) (pV (ci := 0) (q := (RX0, TX0, 13)) hK hN hP hD [0, 1, 2, 3, 4, 5, 6, 7, 8, 9, 10, 11, 12, 13] rfl rfl rfl rfl) rfl rfl hl.1 rfl (lv_room (Nat.le_of_ble_eq_true rfl)) dX0_endWeek_10 ⟨Nat.zero_le _, Nat.zero_le _⟩) hP hD hS hA [0, 1, 2, 3, 4, 5, 6, 7, 8, 9, 10, 11, 12, 13] rfl rfl (ws' := (wB cA adB (setA vB 1 u10))) rfl (fun H locs hP hD hS => ?_)
  refine lv_if_eq (tgt := 17) hx hb dX0_endWeek_13 (by decide) (fun c12 => ?_) (fun c12 => ?_)
  · have h := (if_pos c12).symm.trans h
    refine lv_iconst (v := (0 : Int32)) hx hb dX0_endWeek_17 (by decide) ?_
    refine lv_istore_n (lv' := [(1, .int (0 : Int32)), (0, .ref (adB 0))]) hx hb dX0_endWeek_18 rfl hl (by decide) rfl (fun ls hl => ?_)
    exact B19 FU (setA vB 1 u10) (0 : Int32) _ _ _ h hP hD hS (lv_sub hl [1, 0] rfl)
  · have h := (if_neg c12).symm.trans h
    cases h
    exact endV hx hb hr hlocks hP hS dX0_endWeek_16
set_option maxHeartbeats 4000000 in
set_option maxRecDepth 100000 in
theorem c_X0_endWeeks (l : Launch) (D : va_G) (cA cQ : ClassId) (adB : Nat → Nat) (vB : St) (p1 : Int32) (o : Int32 × St) (hf : X0_endWeeks vB p1 = some o) : Cti l yX0_endWeeks wsX0_endWeeks ({ frames := 3, cells := 0, slots := 0, locals := 67 }) D (TY cA cQ) [.ref (adB 0), .int p1] (wB cA adB vB) (wB cA adB o.2) o.1 := by
  refine Wk.i (cc := cX0_endWeeks) (maxL := 4) (ret := (some .int)) (by decide) rfl (Nat.le_of_ble_eq_true rfl) ?_
  intro p e s m below meth c A ls hx hb hr hlocks hml hown hts hK hN hP hD hA hl
  have hown : s.vm.findClass RX0 = some m.cls := hown
  have hS : va_S A s.heap s.heap [] := va_S.rf
  have hl : lv_has ls 4 [(0, .ref (adB 0)), (1, .int p1)] := hl
  have B54 : ∀ (vB : St) (x2 : Int32) (H : Heap) (locs : List Loc) (ls : Array Slot), X0_endWeeks_b54 p1 vB x2 = some o → va_P D vwCl (wB cA adB vB) H → va_D A (wB cA adB vB) → va_S A s.heap H locs → lv_has ls 4 [(0, .ref (adB 0)), (2, .int x2)] → W p l e (headSpec wsX0_endWeeks ({ frames := 3, cells := 0, slots := 0, locals := 67 })).room s m ([.ref (adB 0), .int p1] : List Value).toArray below meth c H locs 0 0 (MQ below (QI D (wB cA adB o.2) o.1 A) ([.ref (adB 0), .int p1] : List Value).toArray s 0 0 A) (F0 m 54 ls []) := by
    intro vB x2 H locs ls h hP hD hS hl
    unfold X0_endWeeks_b54 at h
    refine lv_aload_n hx hb dX0_endWeeks_54 rfl (lv_at hl 0 rfl) ?_
    refine lv_bipush (v := (6 : Int32)) hx hb dX0_endWeeks_55 (by decide) ?_
    obtain ⟨u1, eu1, h⟩ := bd_in h
    refine kI (va_runV (As := [.int (6 : Int32)]) (rest := []) ⟨hx, hb, hml, hown, hts⟩ (c_X0_number l D cA cQ adB vB (6 : Int32) u1 eu1 _) (cwV 1 hts gX0_endWeeks_X0_number rfl rfl rfl (by decide +kernel) ⟨Nat.le_of_ble_eq_true rfl, Nat.le_of_ble_eq_true rfl⟩) (pV (ci := 0) (q := (RX0, TX0, 13)) hK hN hP hD [0, 1, 2, 3, 4, 5, 6, 7, 8, 9, 10, 11, 12, 13] rfl rfl rfl rfl) rfl rfl hl.1 rfl (lv_room (Nat.le_of_ble_eq_true rfl)) dX0_endWeeks_57 ⟨Nat.zero_le _, Nat.zero_le _⟩) hP hD hS hA [0, 1, 2, 3, 4, 5, 6, 7, 8, 9, 10, 11, 12, 13] rfl rfl (ws' := (wB cA adB vB)) rfl (fun H locs hP hD hS => ?_)
    refine lv_iload_n hx hb dX0_endWeeks_60 rfl (lv_at hl 1 rfl) ?_
    refine lv_isub hx hb dX0_endWeeks_61 ?_
    cases h
    exact endI hx hb hr hlocks hP hS rfl dX0_endWeeks_62
  have B39 : ∀ (fu39 : Nat) (vB : St) (x2 : Int32) (x3 : Int32) (H : Heap) (locs : List Loc) (ls : Array Slot), X0_endWeeks_l39 p1 fu39 vB x2 x3 = some o → va_P D vwCl (wB cA adB vB) H → va_D A (wB cA adB vB) → va_S A s.heap H locs → lv_has ls 4 [(0, .ref (adB 0)), (1, .int p1), (2, .int x2), (3, .int x3)] → W p l e (headSpec wsX0_endWeeks ({ frames := 3, cells := 0, slots := 0, locals := 67 })).room s m ([.ref (adB 0), .int p1] : List Value).toArray below meth c H locs 0 0 (MQ below (QI D (wB cA adB o.2) o.1 A) ([.ref (adB 0), .int p1] : List Value).toArray s 0 0 A) (F0 m 39 ls []) := by
    intro fu39
    induction fu39 with
    | zero =>
      intro vB x2 x3 H locs ls h hP hD hS hl
      cases h
    | succ fu39 ih39 =>
      intro vB x2 x3 H locs ls h hP hD hS hl
      rw [X0_endWeeks_l39] at h
      refine lv_iload_n hx hb dX0_endWeeks_39 rfl (lv_at hl 3 rfl) ?_
      refine lv_iload_n hx hb dX0_endWeeks_40 rfl (lv_at hl 1 rfl) ?_
      refine lv_icmp_ge (tgt := 54) hx hb dX0_endWeeks_41 (by decide) (fun c2 => ?_) (fun c2 => ?_)
      · have h := (if_pos c2).symm.trans h
        exact B54 vB x2 _ _ _ h hP hD hS (lv_sub hl [0, 2] rfl)
      · have h := (if_neg c2).symm.trans h
        refine lv_aload_n hx hb dX0_endWeeks_44 rfl (lv_at hl 0 rfl) ?_
        obtain ⟨u3, eu3, h⟩ := bd_in h
        refine kV (va_runV (As := []) (rest := []) ⟨hx, hb, hml, hown, hts⟩ (c_X0_endWeek l D cA cQ adB vB u3 eu3 _) (cwV 0 hts gX0_endWeeks_X0_endWeek rfl rfl rfl (by decide +kernel) ⟨Nat.le_of_ble_eq_true rfl, Nat.le_of_ble_eq_true rfl⟩) (pV (ci := 0) (q := (RX0, TX0, 13)) hK hN hP hD [0, 1, 2, 3, 4, 5, 6, 7, 8, 9, 10, 11, 12, 13] rfl rfl rfl rfl) rfl rfl hl.1 rfl (lv_room (Nat.le_of_ble_eq_true rfl)) dX0_endWeeks_45 ⟨Nat.zero_le _, Nat.zero_le _⟩) hP hD hS hA [0, 1, 2, 3, 4, 5, 6, 7, 8, 9, 10, 11, 12, 13] rfl rfl (ws' := (wB cA adB u3)) rfl (fun H locs hP hD hS => ?_)
        refine lv_iinc (v := (x3 + (1 : Int32))) (lv' := [(3, .int (x3 + (1 : Int32))), (0, .ref (adB 0)), (1, .int p1), (2, .int x2)]) hx hb dX0_endWeeks_48 hl (k := 3) rfl rfl (by decide) rfl (fun ls hl => ?_)
        refine lv_goto (tgt := 39) hx hb dX0_endWeeks_51 (by decide) ?_
        exact ih39 u3 x2 (x3 + (1 : Int32)) _ _ _ h hP hD hS (lv_sub hl [1, 2, 3, 0] rfl)
  have h := hf
  unfold X0_endWeeks at h
  refine lv_iload_n hx hb dX0_endWeeks_0 rfl (lv_at hl 1 rfl) ?_
  refine lv_iconst (v := (1 : Int32)) hx hb dX0_endWeeks_1 (by decide) ?_
  refine lv_icmp_lt (tgt := 11) hx hb dX0_endWeeks_2 (by decide) (fun c4 => ?_) (fun c4 => ?_)
  · have h := (if_pos c4).symm.trans h
    refine lv_ldc (v := (-1000001 : Int32)) hx hb hown (hts (.constant RX0 93 (-1000001)) (List.mem_of_getElem? (i := 1) rfl)) dX0_endWeeks_11 ?_
    cases h
    exact endI hx hb hr hlocks hP hS rfl dX0_endWeeks_13
  · have h := (if_neg c4).symm.trans h
    refine lv_iload_n hx hb dX0_endWeeks_5 rfl (lv_at hl 1 rfl) ?_
    refine lv_bipush (v := (20 : Int32)) hx hb dX0_endWeeks_6 (by decide) ?_
    refine lv_icmp_le (tgt := 14) hx hb dX0_endWeeks_8 (by decide) (fun c5 => ?_) (fun c5 => ?_)
    · have h := (if_pos c5).symm.trans h
      refine lv_aload_n hx hb dX0_endWeeks_14 rfl (lv_at hl 0 rfl) ?_
      refine lv_iconst (v := (0 : Int32)) hx hb dX0_endWeeks_15 (by decide) ?_
      obtain ⟨u6, eu6, h⟩ := bd_in h
      refine kI (va_runV (As := [.int (0 : Int32)]) (rest := []) ⟨hx, hb, hml, hown, hts⟩ (c_X0_number l D cA cQ adB vB (0 : Int32) u6 eu6 _) (cwV 1 hts gX0_endWeeks_X0_number rfl rfl rfl (by decide +kernel) ⟨Nat.le_of_ble_eq_true rfl, Nat.le_of_ble_eq_true rfl⟩) (pV (ci := 0) (q := (RX0, TX0, 13)) hK hN hP hD [0, 1, 2, 3, 4, 5, 6, 7, 8, 9, 10, 11, 12, 13] rfl rfl rfl rfl) rfl rfl hl.1 rfl (lv_room (Nat.le_of_ble_eq_true rfl)) dX0_endWeeks_16 ⟨Nat.zero_le _, Nat.zero_le _⟩) hP hD hS hA [0, 1, 2, 3, 4, 5, 6, 7, 8, 9, 10, 11, 12, 13] rfl rfl (ws' := (wB cA adB vB)) rfl (fun H locs hP hD hS => ?_)
      refine lv_iload_n hx hb dX0_endWeeks_19 rfl (lv_at hl 1 rfl) ?_
      refine lv_iadd hx hb dX0_endWeeks_20 ?_
      refine lv_sipush (v := (999 : Int32)) hx hb dX0_endWeeks_21 (by decide) ?_
      refine lv_icmp_le (tgt := 30) hx hb dX0_endWeeks_24 (by decide) (fun c7 => ?_) (fun c7 => ?_)
      · have h := (if_pos c7).symm.trans h
        refine lv_aload_n hx hb dX0_endWeeks_30 rfl (lv_at hl 0 rfl) ?_
        refine lv_bipush (v := (6 : Int32)) hx hb dX0_endWeeks_31 (by decide) ?_
        obtain ⟨u8, eu8, h⟩ := bd_in h
        refine kI (va_runV (As := [.int (6 : Int32)]) (rest := []) ⟨hx, hb, hml, hown, hts⟩ (c_X0_number l D cA cQ adB vB (6 : Int32) u8 eu8 _) (cwV 1 hts gX0_endWeeks_X0_number rfl rfl rfl (by decide +kernel) ⟨Nat.le_of_ble_eq_true rfl, Nat.le_of_ble_eq_true rfl⟩) (pV (ci := 0) (q := (RX0, TX0, 13)) hK hN hP hD [0, 1, 2, 3, 4, 5, 6, 7, 8, 9, 10, 11, 12, 13] rfl rfl rfl rfl) rfl rfl hl.1 rfl (lv_room (Nat.le_of_ble_eq_true rfl)) dX0_endWeeks_33 ⟨Nat.zero_le _, Nat.zero_le _⟩) hP hD hS hA [0, 1, 2, 3, 4, 5, 6, 7, 8, 9, 10, 11, 12, 13] rfl rfl (ws' := (wB cA adB vB)) rfl (fun H locs hP hD hS => ?_)
        refine lv_istore_n (lv' := [(2, .int u8), (0, .ref (adB 0)), (1, .int p1)]) hx hb dX0_endWeeks_36 rfl hl (by decide) rfl (fun ls hl => ?_)
        refine lv_iconst (v := (0 : Int32)) hx hb dX0_endWeeks_37 (by decide) ?_
        refine lv_istore_n (lv' := [(3, .int (0 : Int32)), (2, .int u8), (0, .ref (adB 0)), (1, .int p1)]) hx hb dX0_endWeeks_38 rfl hl (by decide) rfl (fun ls hl => ?_)
        exact B39 FU vB u8 (0 : Int32) _ _ _ h hP hD hS (lv_sub hl [2, 3, 1, 0] rfl)
      · have h := (if_neg c7).symm.trans h
        refine lv_ldc (v := (-1000003 : Int32)) hx hb hown (hts (.constant RX0 85 (-1000003)) (List.mem_of_getElem? (i := 2) rfl)) dX0_endWeeks_27 ?_
        cases h
        exact endI hx hb hr hlocks hP hS rfl dX0_endWeeks_29
    · have h := (if_neg c5).symm.trans h
      refine lv_ldc (v := (-1000001 : Int32)) hx hb hown (hts (.constant RX0 93 (-1000001)) (List.mem_of_getElem? (i := 1) rfl)) dX0_endWeeks_11 ?_
      cases h
      exact endI hx hb hr hlocks hP hS rfl dX0_endWeeks_13
set_option maxHeartbeats 4000000 in
set_option maxRecDepth 100000 in
theorem c_X4_weeks (l : Launch) (D : va_G) (cA cQ : ClassId) (adF : Nat) (adB : Nat → Nat) (adT : Nat → Nat) (adH : Nat → Nat) (kH : Nat → Nat → Nat) (adR : Nat → Nat) (adO : Nat → Nat) (vB : St) (vT : St) (vH : St) (bH : Nat → St) (vR : St) (vO : St) (p1 : Int32) (o : Int32 × St × St × St × (Nat → St)) (hf : X4_weeks vB vT vH bH vR vO p1 = some o) : Cti l yX4_weeks wsX4_weeks ({ frames := 6, cells := 0, slots := 0, locals := 165 }) D (TY cA cQ) [.ref adF, .int p1] (wF cA cQ adF adB adT adH kH adR adO vB vT vH bH vR vO) (wF cA cQ adF adB adT adH kH adR adO o.2.1 o.2.2.1 o.2.2.2.1 o.2.2.2.2 vR vO) o.1 := by
  refine Wk.i (cc := cX4_weeks) (maxL := 2) (ret := (some .int)) (by decide) rfl (Nat.le_of_ble_eq_true rfl) ?_
  intro p e s m below meth c A ls hx hb hr hlocks hml hown hts hK hN hP hD hA hl
  have hown : s.vm.findClass RX4 = some m.cls := hown
  have hS : va_S A s.heap s.heap [] := va_S.rf
  have hl : lv_has ls 2 [(0, .ref adF), (1, .int p1)] := hl
  have h := hf
  unfold X4_weeks at h
  refine lv_aload_n hx hb dX4_weeks_0 rfl (lv_at hl 0 rfl) ?_
  refine lv_aload_n hx hb dX4_weeks_1 rfl (lv_at hl 0 rfl) ?_
  obtain ⟨u1, eu1, h⟩ := bd_in h
  refine kR (va_runV (As := []) (rest := [.ref adF]) ⟨hx, hb, hml, hown, hts⟩ (c_X4_freshTrial l D cA cQ adF adB adT adH kH adR adO vB vT vH bH vR vO u1 eu1 _) (cwV 0 hts gX4_weeks_X4_freshTrial rfl rfl rfl (by decide +kernel) ⟨Nat.le_of_ble_eq_true rfl, Nat.le_of_ble_eq_true rfl⟩) (pV (ci := 4) (q := (RX4, TX4, 5)) hK hN hP hD [0, 1, 2, 3, 4, 5, 6, 7, 8, 9, 10, 11, 12, 13, 14, 15, 16, 17, 18, 19, 20, 21, 22, 23, 24, 25, 26, 27, 28, 29, 30, 31, 32, 33, 34, 35, 36, 37, 38, 39, 40, 41, 42, 43, 44, 45, 46, 47, 48, 49, 50, 51, 52, 53, 54, 55, 56, 57, 58, 59, 60, 61, 62, 63, 64, 65, 66, 67, 68, 69, 70, 71, 72, 73, 74, 75, 76, 77, 78, 79, 80, 81, 82, 83, 84, 85, 86, 87, 88, 89, 90, 91, 92, 93, 94] rfl rfl rfl rfl) rfl rfl hl.1 rfl (lv_room (Nat.le_of_ble_eq_true rfl)) dX4_weeks_2 ⟨Nat.zero_le _, Nat.zero_le _⟩) hP hD hS hA [0, 1, 2, 3, 4, 5, 6, 7, 8, 9, 10, 11, 12, 13, 14, 15, 16, 17, 18, 19, 20, 21, 22, 23, 24, 25, 26, 27, 28, 29, 30, 31, 32, 33, 34, 35, 36, 37, 38, 39, 40, 41, 42, 43, 44, 45, 46, 47, 48, 49, 50, 51, 52, 53, 54, 55, 56, 57, 58, 59, 60, 61, 62, 63, 64, 65, 66, 67, 68, 69, 70, 71, 72, 73, 74, 75, 76, 77, 78, 79, 80, 81, 82, 83, 84, 85, 86, 87, 88, 89, 90, 91, 92, 93, 94] rfl rfl (ws' := (wF cA cQ adF adB adT adH kH adR adO vB u1 vH bH vR vO)) rfl (fun H locs hP hD hS => ?_)
  refine lv_iload_n hx hb dX4_weeks_5 rfl (lv_at hl 1 rfl) ?_
  obtain ⟨u2, eu2, h⟩ := bd_in h
  refine kI (va_runV (As := [.int p1]) (rest := [.ref adF]) ⟨hx, hb, hml, hown, hts⟩ (c_X0_endWeeks l D cA cQ adT u1 p1 u2 eu2 _) (cwV 1 hts gX4_weeks_X0_endWeeks rfl rfl rfl (by decide +kernel) ⟨Nat.le_of_ble_eq_true rfl, Nat.le_of_ble_eq_true rfl⟩) (pV (ci := 0) (q := (RX0, TX0, 13)) hK hN hP hD [15, 16, 17, 18, 19, 20, 21, 22, 23, 24, 25, 26, 27, 28] rfl rfl rfl rfl) rfl rfl hl.1 rfl (lv_room (Nat.le_of_ble_eq_true rfl)) dX4_weeks_6 ⟨Nat.zero_le _, Nat.zero_le _⟩) hP hD hS hA [15, 16, 17, 18, 19, 20, 21, 22, 23, 24, 25, 26, 27, 28] rfl rfl (ws' := (wF cA cQ adF adB adT adH kH adR adO vB u2.2 vH bH vR vO)) rfl (fun H locs hP hD hS => ?_)
  obtain ⟨u3, eu3, h⟩ := bd_in h
  refine kI (va_runV (As := [.int u2.1]) (rest := []) ⟨hx, hb, hml, hown, hts⟩ (c_X4_settled l D cA cQ adF adB adT adH kH adR adO vB u2.2 vH bH vR vO u2.1 u3 eu3 _) (cwV 1 hts gX4_weeks_X4_settled rfl rfl rfl (by decide +kernel) ⟨Nat.le_of_ble_eq_true rfl, Nat.le_of_ble_eq_true rfl⟩) (pV (ci := 4) (q := (RX4, TX4, 5)) hK hN hP hD [0, 1, 2, 3, 4, 5, 6, 7, 8, 9, 10, 11, 12, 13, 14, 15, 16, 17, 18, 19, 20, 21, 22, 23, 24, 25, 26, 27, 28, 29, 30, 31, 32, 33, 34, 35, 36, 37, 38, 39, 40, 41, 42, 43, 44, 45, 46, 47, 48, 49, 50, 51, 52, 53, 54, 55, 56, 57, 58, 59, 60, 61, 62, 63, 64, 65, 66, 67, 68, 69, 70, 71, 72, 73, 74, 75, 76, 77, 78, 79, 80, 81, 82, 83, 84, 85, 86, 87, 88, 89, 90, 91, 92, 93, 94] rfl rfl rfl rfl) rfl rfl hl.1 rfl (lv_room (Nat.le_of_ble_eq_true rfl)) dX4_weeks_9 ⟨Nat.zero_le _, Nat.zero_le _⟩) hP hD hS hA [0, 1, 2, 3, 4, 5, 6, 7, 8, 9, 10, 11, 12, 13, 14, 15, 16, 17, 18, 19, 20, 21, 22, 23, 24, 25, 26, 27, 28, 29, 30, 31, 32, 33, 34, 35, 36, 37, 38, 39, 40, 41, 42, 43, 44, 45, 46, 47, 48, 49, 50, 51, 52, 53, 54, 55, 56, 57, 58, 59, 60, 61, 62, 63, 64, 65, 66, 67, 68, 69, 70, 71, 72, 73, 74, 75, 76, 77, 78, 79, 80, 81, 82, 83, 84, 85, 86, 87, 88, 89, 90, 91, 92, 93, 94] rfl rfl (ws' := (wF cA cQ adF adB adT adH kH adR adO u3.2.1 u2.2 u3.2.2.1 u3.2.2.2 vR vO)) rfl (fun H locs hP hD hS => ?_)
  cases h
  exact endI hx hb hr hlocks hP hS rfl dX4_weeks_12
set_option maxHeartbeats 4000000 in
set_option maxRecDepth 100000 in
theorem c_X4_firstOfSetting (l : Launch) (D : va_G) (cA cQ : ClassId) (p0 : Int32) (o : Int32) (hf : X4_firstOfSetting p0 = some o) : Cti l yX4_firstOfSetting wsX4_firstOfSetting ({ frames := 0, cells := 0, slots := 0, locals := 0 }) D (TY cA cQ) [.int p0] ([] : va_W) ([] : va_W) o := by
  refine Wk.i (cc := cX4_firstOfSetting) (maxL := 1) (ret := (some .int)) (by decide) rfl (Nat.le_of_ble_eq_true rfl) ?_
  intro p e s m below meth c A ls hx hb hr hlocks hml hown hts hK hN hP hD hA hl
  have hown : s.vm.findClass RX4 = some m.cls := hown
  have hS : va_S A s.heap s.heap [] := va_S.rf
  have hl : lv_has ls 1 [(0, .int p0)] := hl
  have h := hf
  unfold X4_firstOfSetting at h
  refine lv_iload_n hx hb dX4_firstOfSetting_0 rfl (lv_at hl 0 rfl) ?_
  by_cases c1 : p0 = (4 : Int32)
  · have h := (if_pos c1).symm.trans h
    refine lv_lookup (off := 27) (tgt := 28) hx hb dX4_firstOfSetting_1 (by decide +kernel) (by rw [c1]; decide +kernel) (by decide) ?_
    refine lv_bipush (v := (20 : Int32)) hx hb dX4_firstOfSetting_28 (by decide) ?_
    cases h
    exact endI hx hb hr hlocks hP hS rfl dX4_firstOfSetting_30
  have h := (if_neg c1).symm.trans h
  by_cases c2 : p0 = (5 : Int32)
  · have h := (if_pos c2).symm.trans h
    refine lv_lookup (off := 30) (tgt := 31) hx hb dX4_firstOfSetting_1 (by decide +kernel) (by rw [c2]; decide +kernel) (by decide) ?_
    refine lv_iconst (v := (3 : Int32)) hx hb dX4_firstOfSetting_31 (by decide) ?_
    cases h
    exact endI hx hb hr hlocks hP hS rfl dX4_firstOfSetting_32
  have h := (if_neg c2).symm.trans h
  have nc1 : (p0).toInt ≠ 4 := ne_toInt c1
  have nc2 : (p0).toInt ≠ 5 := ne_toInt c2
  refine lv_lookup (off := 32) (tgt := 33) hx hb dX4_firstOfSetting_1 (by decide +kernel) (by simp [Op.lookupswitch.offset, nc1.symm, nc2.symm]) (by decide) ?_
  refine lv_iconst (v := (4 : Int32)) hx hb dX4_firstOfSetting_33 (by decide) ?_
  refine lv_iconst (v := (2 : Int32)) hx hb dX4_firstOfSetting_34 (by decide) ?_
  refine lv_iload_n hx hb dX4_firstOfSetting_35 rfl (lv_at hl 0 rfl) ?_
  refine lv_imul hx hb dX4_firstOfSetting_36 ?_
  refine lv_iadd hx hb dX4_firstOfSetting_37 ?_
  cases h
  exact endI hx hb hr hlocks hP hS rfl dX4_firstOfSetting_38

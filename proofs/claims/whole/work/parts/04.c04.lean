set_option maxHeartbeats 4000000 in
set_option maxRecDepth 100000 in
theorem c_X4_firstOfSetting (l : Launch) (D : va_G) (cA cQ : ClassId) (p0 : Int32) (o : Int32) (hf : X4_firstOfSetting p0 = some o) : Cti l yX4_firstOfSetting wsX4_firstOfSetting ({ frames := 0, cells := 0, slots := 0, locals := 0 }) D (TY cA cQ) [.int p0] ([] : va_W) ([] : va_W) o := by
  refine Wk.i (cc := cX4_firstOfSetting) (maxL := 1) (ret := (some .int)) (by decide) rfl (Nat.le_of_ble_eq_true rfl) ?_
  intro p e s m below meth c A ls hx hb hr hlocks hml hown hts hK hN hP hD hA hl
  have hown : s.vm.findClass RX4 = some m.cls := hown
  have hS : va_S A s.heap s.heap [] := va_S.rf
  have hl : lv_has ls 1 [(0, .int p0)] := hl
  have h := hf
  unfold X4_firstOfSetting at h
  refine lv_iload_n hx hb dX4_firstOfSetting_0 rfl (lv_at hl 0 rfl) ?_
  by_cases c1 : p0 = (4 : Int32)
  · have h := (if_pos c1).symm.trans h
    refine lv_lookup (off := 27) (tgt := 28) hx hb dX4_firstOfSetting_1 (by decide +kernel) (by rw [c1]; decide +kernel) (by decide) ?_
    refine lv_bipush (v := (20 : Int32)) hx hb dX4_firstOfSetting_28 (by decide) ?_
    cases h
    exact endI hx hb hr hlocks hP hS rfl dX4_firstOfSetting_30
  have h := (if_neg c1).symm.trans h
  by_cases c2 : p0 = (5 : Int32)
  · have h := (if_pos c2).symm.trans h
    refine lv_lookup (off := 30) (tgt := 31) hx hb dX4_firstOfSetting_1 (by decide +kernel) (by rw [c2]; decide +kernel) (by decide) ?_
    refine lv_iconst (v := (3 : Int32)) hx hb dX4_firstOfSetting_31 (by decide) ?_
    cases h
    exact endI hx hb hr hlocks hP hS rfl dX4_firstOfSetting_32
  have h := (if_neg c2).symm.trans h
  have nc1 : (p0).toInt ≠ 4 := ne_toInt c1
  have nc2 : (p0).toInt ≠ 5 := ne_toInt c2
  refine lv_lookup (off := 32) (tgt := 33) hx hb dX4_firstOfSetting_1 (by decide +kernel) (by simp [Op.lookupswitch.offset, nc1.symm, nc2.symm]) (by decide) ?_
  refine lv_iconst (v := (4 : Int32)) hx hb dX4_firstOfSetting_33 (by decide) ?_
  refine lv_iconst (v := (2 : Int32)) hx hb dX4_firstOfSetting_34 (by decide) ?_
  refine lv_iload_n hx hb dX4_firstOfSetting_35 rfl (lv_at hl 0 rfl) ?_
  refine lv_imul hx hb dX4_firstOfSetting_36 ?_
  refine lv_iadd hx hb dX4_firstOfSetting_37 ?_
  cases h
  exact endI hx hb hr hlocks hP hS rfl dX4_firstOfSetting_38
set_option maxHeartbeats 4000000 in
set_option maxRecDepth 100000 in
theorem c_X4_fulfil (l : Launch) (D : va_G) (cA cQ : ClassId) (adF : Nat) (adB : Nat → Nat) (adT : Nat → Nat) (adH : Nat → Nat) (kH : Nat → Nat → Nat) (adR : Nat → Nat) (adO : Nat → Nat) (vB : St) (vT : St) (vH : St) (bH : Nat → St) (vR : St) (vO : St) (p1 : Int32) (p2 : Int32) (p3 : Int32) (p4 : Int32) (o : Int32 × St × St × St × (Nat → St)) (hf : X4_fulfil vB vT vH bH vR vO p1 p2 p3 p4 = some o) : Cti l yX4_fulfil wsX4_fulfil ({ frames := 6, cells := 0, slots := 0, locals := 165 }) D (TY cA cQ) [.ref adF, .int p1, .int p2, .int p3, .int p4] (wF cA cQ adF adB adT adH kH adR adO vB vT vH bH vR vO) (wF cA cQ adF adB adT adH kH adR adO o.2.1 o.2.2.1 o.2.2.2.1 o.2.2.2.2 vR vO) o.1 := by
  refine Wk.i (cc := cX4_fulfil) (maxL := 5) (ret := (some .int)) (by decide) rfl (Nat.le_of_ble_eq_true rfl) ?_
  intro p e s m below meth c A ls hx hb hr hlocks hml hown hts hK hN hP hD hA hl
  have hown : s.vm.findClass RX4 = some m.cls := hown
  have hS : va_S A s.heap s.heap [] := va_S.rf
  have hl : lv_has ls 5 [(0, .ref adF), (1, .int p1), (2, .int p2), (3, .int p3), (4, .int p4)] := hl
  have h := hf
  unfold X4_fulfil at h
  refine lv_aload_n hx hb dX4_fulfil_0 rfl (lv_at hl 0 rfl) ?_
  refine lv_aload_n hx hb dX4_fulfil_1 rfl (lv_at hl 0 rfl) ?_
  obtain ⟨u1, eu1, h⟩ := bd_in h
  refine kR (va_runV (As := []) (rest := [.ref adF]) ⟨hx, hb, hml, hown, hts⟩ (c_X4_freshTrial l D cA cQ adF adB adT adH kH adR adO vB vT vH bH vR vO u1 eu1 _) (cwV 0 hts gX4_fulfil_X4_freshTrial rfl rfl rfl (by decide +kernel) ⟨Nat.le_of_ble_eq_true rfl, Nat.le_of_ble_eq_true rfl⟩) (pV (ci := 4) (q := (RX4, TX4, 5)) hK hN hP hD [0, 1, 2, 3, 4, 5, 6, 7, 8, 9, 10, 11, 12, 13, 14, 15, 16, 17, 18, 19, 20, 21, 22, 23, 24, 25, 26, 27, 28, 29, 30, 31, 32, 33, 34, 35, 36, 37, 38, 39, 40, 41, 42, 43, 44, 45, 46, 47, 48, 49, 50, 51, 52, 53, 54, 55, 56, 57, 58, 59, 60, 61, 62, 63, 64, 65, 66, 67, 68, 69, 70, 71, 72, 73, 74, 75, 76, 77, 78, 79, 80, 81, 82, 83, 84, 85, 86, 87, 88, 89, 90, 91, 92, 93, 94] rfl rfl rfl rfl) rfl rfl hl.1 rfl (lv_room (Nat.le_of_ble_eq_true rfl)) dX4_fulfil_2 ⟨Nat.zero_le _, Nat.zero_le _⟩) hP hD hS hA [0, 1, 2, 3, 4, 5, 6, 7, 8, 9, 10, 11, 12, 13, 14, 15, 16, 17, 18, 19, 20, 21, 22, 23, 24, 25, 26, 27, 28, 29, 30, 31, 32, 33, 34, 35, 36, 37, 38, 39, 40, 41, 42, 43, 44, 45, 46, 47, 48, 49, 50, 51, 52, 53, 54, 55, 56, 57, 58, 59, 60, 61, 62, 63, 64, 65, 66, 67, 68, 69, 70, 71, 72, 73, 74, 75, 76, 77, 78, 79, 80, 81, 82, 83, 84, 85, 86, 87, 88, 89, 90, 91, 92, 93, 94] rfl rfl (ws' := (wF cA cQ adF adB adT adH kH adR adO vB u1 vH bH vR vO)) rfl (fun H locs hP hD hS => ?_)
  refine lv_iload_n hx hb dX4_fulfil_5 rfl (lv_at hl 1 rfl) ?_
  refine lv_iload_n hx hb dX4_fulfil_6 rfl (lv_at hl 2 rfl) ?_
  refine lv_iload_n hx hb dX4_fulfil_7 rfl (lv_at hl 3 rfl) ?_
  refine lv_iload hx hb dX4_fulfil_8 (lv_at hl 4 rfl) ?_
  obtain ⟨u2, eu2, h⟩ := bd_in h
  refine kI (va_runV (As := [.int p1, .int p2, .int p3, .int p4]) (rest := [.ref adF]) ⟨hx, hb, hml, hown, hts⟩ (c_X0_fulfilFavours l D cA cQ adT u1 p1 p2 p3 p4 u2 eu2 _) (cwV 4 hts gX4_fulfil_X0_fulfilFavours rfl rfl rfl (by decide +kernel) ⟨Nat.le_of_ble_eq_true rfl, Nat.le_of_ble_eq_true rfl⟩) (pV (ci := 0) (q := (RX0, TX0, 13)) hK hN hP hD [15, 16, 17, 18, 19, 20, 21, 22, 23, 24, 25, 26, 27, 28] rfl rfl rfl rfl) rfl rfl hl.1 rfl (lv_room (Nat.le_of_ble_eq_true rfl)) dX4_fulfil_10 ⟨Nat.zero_le _, Nat.zero_le _⟩) hP hD hS hA [15, 16, 17, 18, 19, 20, 21, 22, 23, 24, 25, 26, 27, 28] rfl rfl (ws' := (wF cA cQ adF adB adT adH kH adR adO vB u2.2 vH bH vR vO)) rfl (fun H locs hP hD hS => ?_)
  obtain ⟨u3, eu3, h⟩ := bd_in h
  refine kI (va_runV (As := [.int u2.1]) (rest := []) ⟨hx, hb, hml, hown, hts⟩ (c_X4_settled l D cA cQ adF adB adT adH kH adR adO vB u2.2 vH bH vR vO u2.1 u3 eu3 _) (cwV 1 hts gX4_fulfil_X4_settled rfl rfl rfl (by decide +kernel) ⟨Nat.le_of_ble_eq_true rfl, Nat.le_of_ble_eq_true rfl⟩) (pV (ci := 4) (q := (RX4, TX4, 5)) hK hN hP hD [0, 1, 2, 3, 4, 5, 6, 7, 8, 9, 10, 11, 12, 13, 14, 15, 16, 17, 18, 19, 20, 21, 22, 23, 24, 25, 26, 27, 28, 29, 30, 31, 32, 33, 34, 35, 36, 37, 38, 39, 40, 41, 42, 43, 44, 45, 46, 47, 48, 49, 50, 51, 52, 53, 54, 55, 56, 57, 58, 59, 60, 61, 62, 63, 64, 65, 66, 67, 68, 69, 70, 71, 72, 73, 74, 75, 76, 77, 78, 79, 80, 81, 82, 83, 84, 85, 86, 87, 88, 89, 90, 91, 92, 93, 94] rfl rfl rfl rfl) rfl rfl hl.1 rfl (lv_room (Nat.le_of_ble_eq_true rfl)) dX4_fulfil_13 ⟨Nat.zero_le _, Nat.zero_le _⟩) hP hD hS hA [0, 1, 2, 3, 4, 5, 6, 7, 8, 9, 10, 11, 12, 13, 14, 15, 16, 17, 18, 19, 20, 21, 22, 23, 24, 25, 26, 27, 28, 29, 30, 31, 32, 33, 34, 35, 36, 37, 38, 39, 40, 41, 42, 43, 44, 45, 46, 47, 48, 49, 50, 51, 52, 53, 54, 55, 56, 57, 58, 59, 60, 61, 62, 63, 64, 65, 66, 67, 68, 69, 70, 71, 72, 73, 74, 75, 76, 77, 78, 79, 80, 81, 82, 83, 84, 85, 86, 87, 88, 89, 90, 91, 92, 93, 94] rfl rfl (ws' := (wF cA cQ adF adB adT adH kH adR adO u3.2.1 u2.2 u3.2.2.1 u3.2.2.2 vR vO)) rfl (fun H locs hP hD hS => ?_)
  cases h
  exact endI hx hb hr hlocks hP hS rfl dX4_fulfil_16
set_option maxHeartbeats 4000000 in
set_option maxRecDepth 100000 in
theorem c_X4_guarantee (l : Launch) (D : va_G) (cA cQ : ClassId) (adF : Nat) (adB : Nat → Nat) (adT : Nat → Nat) (adH : Nat → Nat) (kH : Nat → Nat → Nat) (adR : Nat → Nat) (adO : Nat → Nat) (vB : St) (vT : St) (vH : St) (bH : Nat → St) (vR : St) (vO : St) (p1 : Int32) (p2 : Int32) (o : Int32 × St × St × St × (Nat → St)) (hf : X4_guarantee vB vT vH bH vR vO p1 p2 = some o) : Cti l yX4_guarantee wsX4_guarantee ({ frames := 6, cells := 0, slots := 0, locals := 165 }) D (TY cA cQ) [.ref adF, .int p1, .int p2] (wF cA cQ adF adB adT adH kH adR adO vB vT vH bH vR vO) (wF cA cQ adF adB adT adH kH adR adO o.2.1 o.2.2.1 o.2.2.2.1 o.2.2.2.2 vR vO) o.1 := by
  refine Wk.i (cc := cX4_guarantee) (maxL := 3) (ret := (some .int)) (by decide) rfl (Nat.le_of_ble_eq_true rfl) ?_
  intro p e s m below meth c A ls hx hb hr hlocks hml hown hts hK hN hP hD hA hl
  have hown : s.vm.findClass RX4 = some m.cls := hown
  have hS : va_S A s.heap s.heap [] := va_S.rf
  have hl : lv_has ls 3 [(0, .ref adF), (1, .int p1), (2, .int p2)] := hl
  have h := hf
  unfold X4_guarantee at h
  refine lv_aload_n hx hb dX4_guarantee_0 rfl (lv_at hl 0 rfl) ?_
  refine lv_aload_n hx hb dX4_guarantee_1 rfl (lv_at hl 0 rfl) ?_
  obtain ⟨u1, eu1, h⟩ := bd_in h
  refine kR (va_runV (As := []) (rest := [.ref adF]) ⟨hx, hb, hml, hown, hts⟩ (c_X4_freshTrial l D cA cQ adF adB adT adH kH adR adO vB vT vH bH vR vO u1 eu1 _) (cwV 0 hts gX4_guarantee_X4_freshTrial rfl rfl rfl (by decide +kernel) ⟨Nat.le_of_ble_eq_true rfl, Nat.le_of_ble_eq_true rfl⟩) (pV (ci := 4) (q := (RX4, TX4, 5)) hK hN hP hD [0, 1, 2, 3, 4, 5, 6, 7, 8, 9, 10, 11, 12, 13, 14, 15, 16, 17, 18, 19, 20, 21, 22, 23, 24, 25, 26, 27, 28, 29, 30, 31, 32, 33, 34, 35, 36, 37, 38, 39, 40, 41, 42, 43, 44, 45, 46, 47, 48, 49, 50, 51, 52, 53, 54, 55, 56, 57, 58, 59, 60, 61, 62, 63, 64, 65, 66, 67, 68, 69, 70, 71, 72, 73, 74, 75, 76, 77, 78, 79, 80, 81, 82, 83, 84, 85, 86, 87, 88, 89, 90, 91, 92, 93, 94] rfl rfl rfl rfl) rfl rfl hl.1 rfl (lv_room (Nat.le_of_ble_eq_true rfl)) dX4_guarantee_2 ⟨Nat.zero_le _, Nat.zero_le _⟩) hP hD hS hA [0, 1, 2, 3, 4, 5, 6, 7, 8, 9, 10, 11, 12, 13, 14, 15, 16, 17, 18, 19, 20, 21, 22, 23, 24, 25, 26, 27, 28, 29, 30, 31, 32, 33, 34, 35, 36, 37, 38, 39, 40, 41, 42, 43, 44, 45, 46, 47, 48, 49, 50, 51, 52, 53, 54, 55, 56, 57, 58, 59, 60, 61, 62, 63, 64, 65, 66, 67, 68, 69, 70, 71, 72, 73, 74, 75, 76, 77, 78, 79, 80, 81, 82, 83, 84, 85, 86, 87, 88, 89, 90, 91, 92, 93, 94] rfl rfl (ws' := (wF cA cQ adF adB adT adH kH adR adO vB u1 vH bH vR vO)) rfl (fun H locs hP hD hS => ?_)
  refine lv_iload_n hx hb dX4_guarantee_5 rfl (lv_at hl 1 rfl) ?_
  refine lv_iload_n hx hb dX4_guarantee_6 rfl (lv_at hl 2 rfl) ?_
  obtain ⟨u2, eu2, h⟩ := bd_in h
  refine kI (va_runV (As := [.int p1, .int p2]) (rest := [.ref adF]) ⟨hx, hb, hml, hown, hts⟩ (c_X0_giveGuarantor l D cA cQ adT u1 p1 p2 u2 eu2 _) (cwV 2 hts gX4_guarantee_X0_giveGuarantor rfl rfl rfl (by decide +kernel) ⟨Nat.le_of_ble_eq_true rfl, Nat.le_of_ble_eq_true rfl⟩) (pV (ci := 0) (q := (RX0, TX0, 13)) hK hN hP hD [15, 16, 17, 18, 19, 20, 21, 22, 23, 24, 25, 26, 27, 28] rfl rfl rfl rfl) rfl rfl hl.1 rfl (lv_room (Nat.le_of_ble_eq_true rfl)) dX4_guarantee_7 ⟨Nat.zero_le _, Nat.zero_le _⟩) hP hD hS hA [15, 16, 17, 18, 19, 20, 21, 22, 23, 24, 25, 26, 27, 28] rfl rfl (ws' := (wF cA cQ adF adB adT adH kH adR adO vB u2.2 vH bH vR vO)) rfl (fun H locs hP hD hS => ?_)
  obtain ⟨u3, eu3, h⟩ := bd_in h
  refine kI (va_runV (As := [.int u2.1]) (rest := []) ⟨hx, hb, hml, hown, hts⟩ (c_X4_settled l D cA cQ adF adB adT adH kH adR adO vB u2.2 vH bH vR vO u2.1 u3 eu3 _) (cwV 1 hts gX4_guarantee_X4_settled rfl rfl rfl (by decide +kernel) ⟨Nat.le_of_ble_eq_true rfl, Nat.le_of_ble_eq_true rfl⟩) (pV (ci := 4) (q := (RX4, TX4, 5)) hK hN hP hD [0, 1, 2, 3, 4, 5, 6, 7, 8, 9, 10, 11, 12, 13, 14, 15, 16, 17, 18, 19, 20, 21, 22, 23, 24, 25, 26, 27, 28, 29, 30, 31, 32, 33, 34, 35, 36, 37, 38, 39, 40, 41, 42, 43, 44, 45, 46, 47, 48, 49, 50, 51, 52, 53, 54, 55, 56, 57, 58, 59, 60, 61, 62, 63, 64, 65, 66, 67, 68, 69, 70, 71, 72, 73, 74, 75, 76, 77, 78, 79, 80, 81, 82, 83, 84, 85, 86, 87, 88, 89, 90, 91, 92, 93, 94] rfl rfl rfl rfl) rfl rfl hl.1 rfl (lv_room (Nat.le_of_ble_eq_true rfl)) dX4_guarantee_10 ⟨Nat.zero_le _, Nat.zero_le _⟩) hP hD hS hA [0, 1, 2, 3, 4, 5, 6, 7, 8, 9, 10, 11, 12, 13, 14, 15, 16, 17, 18, 19, 20, 21, 22, 23, 24, 25, 26, 27, 28, 29, 30, 31, 32, 33, 34, 35, 36, 37, 38, 39, 40, 41, 42, 43, 44, 45, 46, 47, 48, 49, 50, 51, 52, 53, 54, 55, 56, 57, 58, 59, 60, 61, 62, 63, 64, 65, 66, 67, 68, 69, 70, 71, 72, 73, 74, 75, 76, 77, 78, 79, 80, 81, 82, 83, 84, 85, 86, 87, 88, 89, 90, 91, 92, 93, 94] rfl rfl (ws' := (wF cA cQ adF adB adT adH kH adR adO u3.2.1 u2.2 u3.2.2.1 u3.2.2.2 vR vO)) rfl (fun H locs hP hD hS => ?_)
  cases h
  exact endI hx hb hr hlocks hP hS rfl dX4_guarantee_13
set_option maxHeartbeats 4000000 in
set_option maxRecDepth 100000 in
theorem c_X4_holiday (l : Launch) (D : va_G) (cA cQ : ClassId) (adF : Nat) (adB : Nat → Nat) (adT : Nat → Nat) (adH : Nat → Nat) (kH : Nat → Nat → Nat) (adR : Nat → Nat) (adO : Nat → Nat) (vB : St) (vT : St) (vH : St) (bH : Nat → St) (vR : St) (vO : St) (p1 : Int32) (o : Int32 × St × St × St × (Nat → St)) (hf : X4_holiday vB vT vH bH vR vO p1 = some o) : Cti l yX4_holiday wsX4_holiday ({ frames := 6, cells := 0, slots := 0, locals := 165 }) D (TY cA cQ) [.ref adF, .int p1] (wF cA cQ adF adB adT adH kH adR adO vB vT vH bH vR vO) (wF cA cQ adF adB adT adH kH adR adO o.2.1 o.2.2.1 o.2.2.2.1 o.2.2.2.2 vR vO) o.1 := by
  refine Wk.i (cc := cX4_holiday) (maxL := 2) (ret := (some .int)) (by decide) rfl (Nat.le_of_ble_eq_true rfl) ?_
  intro p e s m below meth c A ls hx hb hr hlocks hml hown hts hK hN hP hD hA hl
  have hown : s.vm.findClass RX4 = some m.cls := hown
  have hS : va_S A s.heap s.heap [] := va_S.rf
  have hl : lv_has ls 2 [(0, .ref adF), (1, .int p1)] := hl
  have h := hf
  unfold X4_holiday at h
  refine lv_aload_n hx hb dX4_holiday_0 rfl (lv_at hl 0 rfl) ?_
  refine lv_aload_n hx hb dX4_holiday_1 rfl (lv_at hl 0 rfl) ?_
  obtain ⟨u1, eu1, h⟩ := bd_in h
  refine kR (va_runV (As := []) (rest := [.ref adF]) ⟨hx, hb, hml, hown, hts⟩ (c_X4_freshTrial l D cA cQ adF adB adT adH kH adR adO vB vT vH bH vR vO u1 eu1 _) (cwV 0 hts gX4_holiday_X4_freshTrial rfl rfl rfl (by decide +kernel) ⟨Nat.le_of_ble_eq_true rfl, Nat.le_of_ble_eq_true rfl⟩) (pV (ci := 4) (q := (RX4, TX4, 5)) hK hN hP hD [0, 1, 2, 3, 4, 5, 6, 7, 8, 9, 10, 11, 12, 13, 14, 15, 16, 17, 18, 19, 20, 21, 22, 23, 24, 25, 26, 27, 28, 29, 30, 31, 32, 33, 34, 35, 36, 37, 38, 39, 40, 41, 42, 43, 44, 45, 46, 47, 48, 49, 50, 51, 52, 53, 54, 55, 56, 57, 58, 59, 60, 61, 62, 63, 64, 65, 66, 67, 68, 69, 70, 71, 72, 73, 74, 75, 76, 77, 78, 79, 80, 81, 82, 83, 84, 85, 86, 87, 88, 89, 90, 91, 92, 93, 94] rfl rfl rfl rfl) rfl rfl hl.1 rfl (lv_room (Nat.le_of_ble_eq_true rfl)) dX4_holiday_2 ⟨Nat.zero_le _, Nat.zero_le _⟩) hP hD hS hA [0, 1, 2, 3, 4, 5, 6, 7, 8, 9, 10, 11, 12, 13, 14, 15, 16, 17, 18, 19, 20, 21, 22, 23, 24, 25, 26, 27, 28, 29, 30, 31, 32, 33, 34, 35, 36, 37, 38, 39, 40, 41, 42, 43, 44, 45, 46, 47, 48, 49, 50, 51, 52, 53, 54, 55, 56, 57, 58, 59, 60, 61, 62, 63, 64, 65, 66, 67, 68, 69, 70, 71, 72, 73, 74, 75, 76, 77, 78, 79, 80, 81, 82, 83, 84, 85, 86, 87, 88, 89, 90, 91, 92, 93, 94] rfl rfl (ws' := (wF cA cQ adF adB adT adH kH adR adO vB u1 vH bH vR vO)) rfl (fun H locs hP hD hS => ?_)
  refine lv_iload_n hx hb dX4_holiday_5 rfl (lv_at hl 1 rfl) ?_
  obtain ⟨u2, eu2, h⟩ := bd_in h
  refine kI (va_runV (As := [.int p1]) (rest := [.ref adF]) ⟨hx, hb, hml, hown, hts⟩ (c_X0_turnHolidays l D cA cQ adT u1 p1 u2 eu2 _) (cwV 1 hts gX4_holiday_X0_turnHolidays rfl rfl rfl (by decide +kernel) ⟨Nat.le_of_ble_eq_true rfl, Nat.le_of_ble_eq_true rfl⟩) (pV (ci := 0) (q := (RX0, TX0, 13)) hK hN hP hD [15, 16, 17, 18, 19, 20, 21, 22, 23, 24, 25, 26, 27, 28] rfl rfl rfl rfl) rfl rfl hl.1 rfl (lv_room (Nat.le_of_ble_eq_true rfl)) dX4_holiday_6 ⟨Nat.zero_le _, Nat.zero_le _⟩) hP hD hS hA [15, 16, 17, 18, 19, 20, 21, 22, 23, 24, 25, 26, 27, 28] rfl rfl (ws' := (wF cA cQ adF adB adT adH kH adR adO vB u2.2 vH bH vR vO)) rfl (fun H locs hP hD hS => ?_)
  obtain ⟨u3, eu3, h⟩ := bd_in h
  refine kI (va_runV (As := [.int u2.1]) (rest := []) ⟨hx, hb, hml, hown, hts⟩ (c_X4_settled l D cA cQ adF adB adT adH kH adR adO vB u2.2 vH bH vR vO u2.1 u3 eu3 _) (cwV 1 hts gX4_holiday_X4_settled rfl rfl rfl (by decide +kernel) ⟨Nat.le_of_ble_eq_true rfl, Nat.le_of_ble_eq_true rfl⟩) (pV (ci := 4) (q := (RX4, TX4, 5)) hK hN hP hD [0, 1, 2, 3, 4, 5, 6, 7, 8, 9, 10, 11, 12, 13, 14, 15, 16, 17, 18, 19, 20, 21, 22, 23, 24, 25, 26, 27, 28, 29, 30, 31, 32, 33, 34, 35, 36, 37, 38, 39, 40, 41, 42, 43, 44, 45, 46, 47, 48, 49, 50, 51, 52, 53, 54, 55, 56, 57, 58, 59, 60, 61, 62, 63, 64, 65, 66, 67, 68, 69, 70, 71, 72, 73, 74, 75, 76, 77, 78, 79, 80, 81, 82, 83, 84, 85, 86, 87, 88, 89, 90, 91, 92, 93, 94] rfl rfl rfl rfl) rfl rfl hl.1 rfl (lv_room (Nat.le_of_ble_eq_true rfl)) dX4_holiday_9 ⟨Nat.zero_le _, Nat.zero_le _⟩) hP hD hS hA [0, 1, 2, 3, 4, 5, 6, 7, 8, 9, 10, 11, 12, 13, 14, 15, 16, 17, 18, 19, 20, 21, 22, 23, 24, 25, 26, 27, 28, 29, 30, 31, 32, 33, 34, 35, 36, 37, 38, 39, 40, 41, 42, 43, 44, 45, 46, 47, 48, 49, 50, 51, 52, 53, 54, 55, 56, 57, 58, 59, 60, 61, 62, 63, 64, 65, 66, 67, 68, 69, 70, 71, 72, 73, 74, 75, 76, 77, 78, 79, 80, 81, 82, 83, 84, 85, 86, 87, 88, 89, 90, 91, 92, 93, 94] rfl rfl (ws' := (wF cA cQ adF adB adT adH kH adR adO u3.2.1 u2.2 u3.2.2.1 u3.2.2.2 vR vO)) rfl (fun H locs hP hD hS => ?_)
  cases h
  exact endI hx hb hr hlocks hP hS rfl dX4_holiday_12
theorem iw_X4_ifCleared_X4 : ∀ w ∈ wsX40, w ∈ wsX4_ifCleared := fun _ h => List.mem_cons_of_mem _ (List.mem_append_left _ (List.mem_append_left _ (List.mem_append_right _ (h))))
set_option maxHeartbeats 4000000 in
set_option maxRecDepth 100000 in
theorem c_X4_ifCleared (l : Launch) (D : va_G) (cA cQ : ClassId) (adF : Nat) (adB : Nat → Nat) (adT : Nat → Nat) (adH : Nat → Nat) (kH : Nat → Nat → Nat) (adR : Nat → Nat) (adO : Nat → Nat) (vB : St) (vT : St) (vH : St) (bH : Nat → St) (vR : St) (vO : St) (p1 : Int32) (p2 : Int32) (o : Int32 × St × St) (hf : X4_ifCleared vB vT vH bH vR vO p1 p2 = some o) : Cti l yX4_ifCleared wsX4_ifCleared ({ frames := 4, cells := 0, slots := 0, locals := 122 }) D (TY cA cQ) [.ref adF, .int p1, .int p2] (wF cA cQ adF adB adT adH kH adR adO vB vT vH bH vR vO) (wF cA cQ adF adB adT adH kH adR adO vB o.2.1 vH bH o.2.2 vO) o.1 := by
  refine Wk.i (cc := cX4_ifCleared) (maxL := 4) (ret := (some .int)) (by decide) rfl (Nat.le_of_ble_eq_true rfl) ?_
  intro p e s m below meth c A ls hx hb hr hlocks hml hown hts hK hN hP hD hA hl
  have hown : s.vm.findClass RX4 = some m.cls := hown
  have hS : va_S A s.heap s.heap [] := va_S.rf
  have hl : lv_has ls 4 [(0, .ref adF), (1, .int p1), (2, .int p2)] := hl
  have h := hf
  unfold X4_ifCleared at h
  refine lv_iload_n hx hb dX4_ifCleared_0 rfl (lv_at hl 1 rfl) ?_
  obtain ⟨u1, eu1, h⟩ := bd_in h
  refine kI (va_runS (As := [.int p1]) (rest := []) ⟨hx, hb, hml, hown, hts⟩ (c_X4_isKind l D cA cQ  p1 u1 eu1 _) (va_cwS 1 hts gX4_ifCleared_X4_isKind rfl rfl rfl (by decide +kernel) ⟨Nat.le_of_ble_eq_true rfl, Nat.le_of_ble_eq_true rfl⟩) (pS hK hN hP hD [] rfl rfl) rfl rfl hl.1 rfl (lv_room (Nat.le_of_ble_eq_true rfl)) dX4_ifCleared_1 ⟨Nat.zero_le _, Nat.zero_le _⟩) hP hD hS hA [] rfl rfl (ws' := (wF cA cQ adF adB adT adH kH adR adO vB vT vH bH vR vO)) rfl (fun H locs hP hD hS => ?_)
  refine lv_if_eq (tgt := 16) hx hb dX4_ifCleared_4 (by decide) (fun c2 => ?_) (fun c2 => ?_)
  · have h := (if_pos c2).symm.trans h
    refine lv_ldc (v := (-1000001 : Int32)) hx hb hown (hts (.constant RX4 81 (-1000001)) (List.mem_of_getElem? (i := 1) rfl)) dX4_ifCleared_16 ?_
    cases h
    exact endI hx hb hr hlocks hP hS rfl dX4_ifCleared_18
  · have h := (if_neg c2).symm.trans h
    refine lv_iload_n hx hb dX4_ifCleared_7 rfl (lv_at hl 2 rfl) ?_
    refine lv_if_lt (tgt := 16) hx hb dX4_ifCleared_8 (by decide) (fun c3 => ?_) (fun c3 => ?_)
    · have h := (if_pos c3).symm.trans h
      refine lv_ldc (v := (-1000001 : Int32)) hx hb hown (hts (.constant RX4 81 (-1000001)) (List.mem_of_getElem? (i := 1) rfl)) dX4_ifCleared_16 ?_
      cases h
      exact endI hx hb hr hlocks hP hS rfl dX4_ifCleared_18
    · have h := (if_neg c3).symm.trans h
      refine lv_iload_n hx hb dX4_ifCleared_11 rfl (lv_at hl 2 rfl) ?_
      refine lv_iconst (v := (2 : Int32)) hx hb dX4_ifCleared_12 (by decide) ?_
      refine lv_icmp_le (tgt := 19) hx hb dX4_ifCleared_13 (by decide) (fun c4 => ?_) (fun c4 => ?_)
      · have h := (if_pos c4).symm.trans h
        refine lv_aload_n hx hb dX4_ifCleared_19 rfl (lv_at hl 0 rfl) ?_
        refine va_get (D := D) (ci := 4) (v := .ref (adR 0)) (C := RX4) (T := TX4) (N := 5) hx hb hts iw_X4_ifCleared_X4 hown hK hP 0 rfl rfl 3 (by decide) (hts (.fieldLink RX4 29 "FavourRings" "rings" "LFavourRings$Rings;") (List.mem_of_getElem? (i := 2) rfl)) (fun _ h9 => h9) rfl dX4_ifCleared_20 ?_
        refine lv_aload_n hx hb dX4_ifCleared_23 rfl (lv_at hl 0 rfl) ?_
        obtain ⟨u5, eu5, h⟩ := bd_in h
        refine kR (va_runV (As := []) (rest := [.ref (adR 0)]) ⟨hx, hb, hml, hown, hts⟩ (c_X4_freshTrial l D cA cQ adF adB adT adH kH adR adO vB vT vH bH vR vO u5 eu5 _) (cwV 0 hts gX4_ifCleared_X4_freshTrial rfl rfl rfl (by decide +kernel) ⟨Nat.le_of_ble_eq_true rfl, Nat.le_of_ble_eq_true rfl⟩) (pV (ci := 4) (q := (RX4, TX4, 5)) hK hN hP hD [0, 1, 2, 3, 4, 5, 6, 7, 8, 9, 10, 11, 12, 13, 14, 15, 16, 17, 18, 19, 20, 21, 22, 23, 24, 25, 26, 27, 28, 29, 30, 31, 32, 33, 34, 35, 36, 37, 38, 39, 40, 41, 42, 43, 44, 45, 46, 47, 48, 49, 50, 51, 52, 53, 54, 55, 56, 57, 58, 59, 60, 61, 62, 63, 64, 65, 66, 67, 68, 69, 70, 71, 72, 73, 74, 75, 76, 77, 78, 79, 80, 81, 82, 83, 84, 85, 86, 87, 88, 89, 90, 91, 92, 93, 94] rfl rfl rfl rfl) rfl rfl hl.1 rfl (lv_room (Nat.le_of_ble_eq_true rfl)) dX4_ifCleared_24 ⟨Nat.zero_le _, Nat.zero_le _⟩) hP hD hS hA [0, 1, 2, 3, 4, 5, 6, 7, 8, 9, 10, 11, 12, 13, 14, 15, 16, 17, 18, 19, 20, 21, 22, 23, 24, 25, 26, 27, 28, 29, 30, 31, 32, 33, 34, 35, 36, 37, 38, 39, 40, 41, 42, 43, 44, 45, 46, 47, 48, 49, 50, 51, 52, 53, 54, 55, 56, 57, 58, 59, 60, 61, 62, 63, 64, 65, 66, 67, 68, 69, 70, 71, 72, 73, 74, 75, 76, 77, 78, 79, 80, 81, 82, 83, 84, 85, 86, 87, 88, 89, 90, 91, 92, 93, 94] rfl rfl (ws' := (wF cA cQ adF adB adT adH kH adR adO vB u5 vH bH vR vO)) rfl (fun H locs hP hD hS => ?_)
        refine lv_iload_n hx hb dX4_ifCleared_27 rfl (lv_at hl 1 rfl) ?_
        obtain ⟨u6, eu6, h⟩ := bd_in h
        refine kI (va_runV (As := [.ref (adT 0), .int p1]) (rest := []) ⟨hx, hb, hml, hown, hts⟩ (c_X3_clearKind l D cA cQ adR adT vR u5 p1 u6 eu6 _) (cwV 2 hts gX4_ifCleared_X3_clearKind rfl rfl rfl (by decide +kernel) ⟨Nat.le_of_ble_eq_true rfl, Nat.le_of_ble_eq_true rfl⟩) (pV (ci := 3) (q := (RX3, TX3, 5)) hK hN hP hD [87, 88, 89, 90, 91, 15, 16, 17, 18, 19, 20, 21, 22, 23, 24, 25, 26, 27, 28] rfl rfl rfl rfl) rfl rfl hl.1 rfl (lv_room (Nat.le_of_ble_eq_true rfl)) dX4_ifCleared_28 ⟨Nat.zero_le _, Nat.zero_le _⟩) hP hD hS hA [87, 88, 89, 90, 91, 15, 16, 17, 18, 19, 20, 21, 22, 23, 24, 25, 26, 27, 28] rfl rfl (ws' := (wF cA cQ adF adB adT adH kH adR adO vB u6.2.2 vH bH u6.2.1 vO)) rfl (fun H locs hP hD hS => ?_)
        refine lv_istore_n (lv' := [(3, .int u6.1), (0, .ref adF), (1, .int p1), (2, .int p2)]) hx hb dX4_ifCleared_31 rfl hl (by decide) rfl (fun ls hl => ?_)
        refine lv_iload_n hx hb dX4_ifCleared_32 rfl (lv_at hl 3 rfl) ?_
        refine lv_if_ne (tgt := 38) hx hb dX4_ifCleared_33 (by decide) (fun c7 => ?_) (fun c7 => ?_)
        · have h := (if_neg c7).symm.trans h
          refine lv_iload_n hx hb dX4_ifCleared_38 rfl (lv_at hl 3 rfl) ?_
          refine lv_iconst (v := (1 : Int32)) hx hb dX4_ifCleared_39 (by decide) ?_
          refine lv_icmp_ne (tgt := 65) hx hb dX4_ifCleared_40 (by decide) (fun c8 => ?_) (fun c8 => ?_)
          · have h := (if_neg c8).symm.trans h
            refine lv_aload_n hx hb dX4_ifCleared_65 rfl (lv_at hl 1 rfl) ?_
            refine va_get (D := D) (ci := 4) (v := .ref (adT 0)) (C := RX4) (T := TX4) (N := 5) hx hb hts iw_X4_ifCleared_X4 hown hK hP 0 rfl rfl 1 (by decide) (hts (.fieldLink RX4 16 "FavourRings" "trial" "LFavourRings$Bank;") (List.mem_of_getElem? (i := 3) rfl)) (fun _ h9 => h9) rfl dX4_ifCleared_66 ?_
            refine lv_iconst (v := (2 : Int32)) hx hb dX4_ifCleared_69 (by decide) ?_
            obtain ⟨u9, eu9, h⟩ := bd_in h
            refine kI (va_runV (As := [.int (2 : Int32)]) (rest := []) ⟨hx, hb, hml, hown, hts⟩ (c_X0_number l D cA cQ adT u6.2.2 (2 : Int32) u9 eu9 _) (cwV 1 hts gX4_ifCleared_X0_number rfl rfl rfl (by decide +kernel) ⟨Nat.le_of_ble_eq_true rfl, Nat.le_of_ble_eq_true rfl⟩) (pV (ci := 0) (q := (RX0, TX0, 13)) hK hN hP hD [15, 16, 17, 18, 19, 20, 21, 22, 23, 24, 25, 26, 27, 28] rfl rfl rfl rfl) rfl rfl hl.1 rfl (lv_room (Nat.le_of_ble_eq_true rfl)) dX4_ifCleared_70 ⟨Nat.zero_le _, Nat.zero_le _⟩) hP hD hS hA [15, 16, 17, 18, 19, 20, 21, 22, 23, 24, 25, 26, 27, 28] rfl rfl (ws' := (wF cA cQ adF adB adT adH kH adR adO vB u6.2.2 vH bH u6.2.1 vO)) rfl (fun H locs hP hD hS => ?_)
            cases h
            exact endI hx hb hr hlocks hP hS rfl dX4_ifCleared_73
          · have h := (if_pos c8).symm.trans h
            refine lv_aload_n hx hb dX4_ifCleared_43 rfl (lv_at hl 1 rfl) ?_
            refine va_get (D := D) (ci := 4) (v := .ref (adT 0)) (C := RX4) (T := TX4) (N := 5) hx hb hts iw_X4_ifCleared_X4 hown hK hP 0 rfl rfl 1 (by decide) (hts (.fieldLink RX4 16 "FavourRings" "trial" "LFavourRings$Bank;") (List.mem_of_getElem? (i := 3) rfl)) (fun _ h9 => h9) rfl dX4_ifCleared_44 ?_
            refine lv_bipush (v := (9 : Int32)) hx hb dX4_ifCleared_47 (by decide) ?_
            obtain ⟨u10, eu10, h⟩ := bd_in h
            refine kI (va_runV (As := [.int (9 : Int32)]) (rest := []) ⟨hx, hb, hml, hown, hts⟩ (c_X0_number l D cA cQ adT u6.2.2 (9 : Int32) u10 eu10 _) (cwV 1 hts gX4_ifCleared_X0_number rfl rfl rfl (by decide +kernel) ⟨Nat.le_of_ble_eq_true rfl, Nat.le_of_ble_eq_true rfl⟩) (pV (ci := 0) (q := (RX0, TX0, 13)) hK hN hP hD [15, 16, 17, 18, 19, 20, 21, 22, 23, 24, 25, 26, 27, 28] rfl rfl rfl rfl) rfl rfl hl.1 rfl (lv_room (Nat.le_of_ble_eq_true rfl)) dX4_ifCleared_49 ⟨Nat.zero_le _, Nat.zero_le _⟩) hP hD hS hA [15, 16, 17, 18, 19, 20, 21, 22, 23, 24, 25, 26, 27, 28] rfl rfl (ws' := (wF cA cQ adF adB adT adH kH adR adO vB u6.2.2 vH bH u6.2.1 vO)) rfl (fun H locs hP hD hS => ?_)
            refine lv_aload_n hx hb dX4_ifCleared_52 rfl (lv_at hl 1 rfl) ?_
            refine va_get (D := D) (ci := 4) (v := .ref (adB 0)) (C := RX4) (T := TX4) (N := 5) hx hb hts iw_X4_ifCleared_X4 hown hK hP 0 rfl rfl 0 (by decide) (hts (.fieldLink RX4 10 "FavourRings" "bank" "LFavourRings$Bank;") (List.mem_of_getElem? (i := 4) rfl)) (fun _ h9 => h9) rfl dX4_ifCleared_53 ?_
            refine lv_bipush (v := (9 : Int32)) hx hb dX4_ifCleared_56 (by decide) ?_
            obtain ⟨u11, eu11, h⟩ := bd_in h
            refine kI (va_runV (As := [.int (9 : Int32)]) (rest := [.int u10]) ⟨hx, hb, hml, hown, hts⟩ (c_X0_number l D cA cQ adB vB (9 : Int32) u11 eu11 _) (cwV 1 hts gX4_ifCleared_X0_number rfl rfl rfl (by decide +kernel) ⟨Nat.le_of_ble_eq_true rfl, Nat.le_of_ble_eq_true rfl⟩) (pV (ci := 0) (q := (RX0, TX0, 13)) hK hN hP hD [1, 2, 3, 4, 5, 6, 7, 8, 9, 10, 11, 12, 13, 14] rfl rfl rfl rfl) rfl rfl hl.1 rfl (lv_room (Nat.le_of_ble_eq_true rfl)) dX4_ifCleared_58 ⟨Nat.zero_le _, Nat.zero_le _⟩) hP hD hS hA [1, 2, 3, 4, 5, 6, 7, 8, 9, 10, 11, 12, 13, 14] rfl rfl (ws' := (wF cA cQ adF adB adT adH kH adR adO vB u6.2.2 vH bH u6.2.1 vO)) rfl (fun H locs hP hD hS => ?_)
            refine lv_isub hx hb dX4_ifCleared_61 ?_
            refine lv_goto (tgt := 73) hx hb dX4_ifCleared_62 (by decide) ?_
            cases h
            exact endI hx hb hr hlocks hP hS rfl dX4_ifCleared_73
        · have h := (if_pos c7).symm.trans h
          refine lv_iload_n hx hb dX4_ifCleared_36 rfl (lv_at hl 0 rfl) ?_
          cases h
          exact endI hx hb hr hlocks hP hS rfl dX4_ifCleared_37
      · have h := (if_neg c4).symm.trans h
        refine lv_ldc (v := (-1000001 : Int32)) hx hb hown (hts (.constant RX4 81 (-1000001)) (List.mem_of_getElem? (i := 1) rfl)) dX4_ifCleared_16 ?_
        cases h
        exact endI hx hb hr hlocks hP hS rfl dX4_ifCleared_18
set_option maxHeartbeats 4000000 in
set_option maxRecDepth 100000 in
theorem c_X4_lend (l : Launch) (D : va_G) (cA cQ : ClassId) (adF : Nat) (adB : Nat → Nat) (adT : Nat → Nat) (adH : Nat → Nat) (kH : Nat → Nat → Nat) (adR : Nat → Nat) (adO : Nat → Nat) (vB : St) (vT : St) (vH : St) (bH : Nat → St) (vR : St) (vO : St) (p1 : Int32) (p2 : Int32) (p3 : Int32) (p4 : Int32) (o : Int32 × St × St × St × (Nat → St)) (hf : X4_lend vB vT vH bH vR vO p1 p2 p3 p4 = some o) : Cti l yX4_lend wsX4_lend ({ frames := 6, cells := 0, slots := 0, locals := 165 }) D (TY cA cQ) [.ref adF, .int p1, .int p2, .int p3, .int p4] (wF cA cQ adF adB adT adH kH adR adO vB vT vH bH vR vO) (wF cA cQ adF adB adT adH kH adR adO o.2.1 o.2.2.1 o.2.2.2.1 o.2.2.2.2 vR vO) o.1 := by
  refine Wk.i (cc := cX4_lend) (maxL := 5) (ret := (some .int)) (by decide) rfl (Nat.le_of_ble_eq_true rfl) ?_
  intro p e s m below meth c A ls hx hb hr hlocks hml hown hts hK hN hP hD hA hl
  have hown : s.vm.findClass RX4 = some m.cls := hown
  have hS : va_S A s.heap s.heap [] := va_S.rf
  have hl : lv_has ls 5 [(0, .ref adF), (1, .int p1), (2, .int p2), (3, .int p3), (4, .int p4)] := hl
  have h := hf
  unfold X4_lend at h
  refine lv_aload_n hx hb dX4_lend_0 rfl (lv_at hl 0 rfl) ?_
  refine lv_aload_n hx hb dX4_lend_1 rfl (lv_at hl 0 rfl) ?_
  obtain ⟨u1, eu1, h⟩ := bd_in h
  refine kR (va_runV (As := []) (rest := [.ref adF]) ⟨hx, hb, hml, hown, hts⟩ (c_X4_freshTrial l D cA cQ adF adB adT adH kH adR adO vB vT vH bH vR vO u1 eu1 _) (cwV 0 hts gX4_lend_X4_freshTrial rfl rfl rfl (by decide +kernel) ⟨Nat.le_of_ble_eq_true rfl, Nat.le_of_ble_eq_true rfl⟩) (pV (ci := 4) (q := (RX4, TX4, 5)) hK hN hP hD [0, 1, 2, 3, 4, 5, 6, 7, 8, 9, 10, 11, 12, 13, 14, 15, 16, 17, 18, 19, 20, 21, 22, 23, 24, 25, 26, 27, 28, 29, 30, 31, 32, 33, 34, 35, 36, 37, 38, 39, 40, 41, 42, 43, 44, 45, 46, 47, 48, 49, 50, 51, 52, 53, 54, 55, 56, 57, 58, 59, 60, 61, 62, 63, 64, 65, 66, 67, 68, 69, 70, 71, 72, 73, 74, 75, 76, 77, 78, 79, 80, 81, 82, 83, 84, 85, 86, 87, 88, 89, 90, 91, 92, 93, 94] rfl rfl rfl rfl) rfl rfl hl.1 rfl (lv_room (Nat.le_of_ble_eq_true rfl)) dX4_lend_2 ⟨Nat.zero_le _, Nat.zero_le _⟩) hP hD hS hA [0, 1, 2, 3, 4, 5, 6, 7, 8, 9, 10, 11, 12, 13, 14, 15, 16, 17, 18, 19, 20, 21, 22, 23, 24, 25, 26, 27, 28, 29, 30, 31, 32, 33, 34, 35, 36, 37, 38, 39, 40, 41, 42, 43, 44, 45, 46, 47, 48, 49, 50, 51, 52, 53, 54, 55, 56, 57, 58, 59, 60, 61, 62, 63, 64, 65, 66, 67, 68, 69, 70, 71, 72, 73, 74, 75, 76, 77, 78, 79, 80, 81, 82, 83, 84, 85, 86, 87, 88, 89, 90, 91, 92, 93, 94] rfl rfl (ws' := (wF cA cQ adF adB adT adH kH adR adO vB u1 vH bH vR vO)) rfl (fun H locs hP hD hS => ?_)
  refine lv_iload_n hx hb dX4_lend_5 rfl (lv_at hl 1 rfl) ?_
  refine lv_iload_n hx hb dX4_lend_6 rfl (lv_at hl 2 rfl) ?_
  refine lv_iload_n hx hb dX4_lend_7 rfl (lv_at hl 3 rfl) ?_
  refine lv_iload hx hb dX4_lend_8 (lv_at hl 4 rfl) ?_
  obtain ⟨u2, eu2, h⟩ := bd_in h
  refine kI (va_runV (As := [.int p1, .int p2, .int p3, .int p4]) (rest := [.ref adF]) ⟨hx, hb, hml, hown, hts⟩ (c_X0_lendFavours l D cA cQ adT u1 p1 p2 p3 p4 u2 eu2 _) (cwV 4 hts gX4_lend_X0_lendFavours rfl rfl rfl (by decide +kernel) ⟨Nat.le_of_ble_eq_true rfl, Nat.le_of_ble_eq_true rfl⟩) (pV (ci := 0) (q := (RX0, TX0, 13)) hK hN hP hD [15, 16, 17, 18, 19, 20, 21, 22, 23, 24, 25, 26, 27, 28] rfl rfl rfl rfl) rfl rfl hl.1 rfl (lv_room (Nat.le_of_ble_eq_true rfl)) dX4_lend_10 ⟨Nat.zero_le _, Nat.zero_le _⟩) hP hD hS hA [15, 16, 17, 18, 19, 20, 21, 22, 23, 24, 25, 26, 27, 28] rfl rfl (ws' := (wF cA cQ adF adB adT adH kH adR adO vB u2.2 vH bH vR vO)) rfl (fun H locs hP hD hS => ?_)
  obtain ⟨u3, eu3, h⟩ := bd_in h
  refine kI (va_runV (As := [.int u2.1]) (rest := []) ⟨hx, hb, hml, hown, hts⟩ (c_X4_settled l D cA cQ adF adB adT adH kH adR adO vB u2.2 vH bH vR vO u2.1 u3 eu3 _) (cwV 1 hts gX4_lend_X4_settled rfl rfl rfl (by decide +kernel) ⟨Nat.le_of_ble_eq_true rfl, Nat.le_of_ble_eq_true rfl⟩) (pV (ci := 4) (q := (RX4, TX4, 5)) hK hN hP hD [0, 1, 2, 3, 4, 5, 6, 7, 8, 9, 10, 11, 12, 13, 14, 15, 16, 17, 18, 19, 20, 21, 22, 23, 24, 25, 26, 27, 28, 29, 30, 31, 32, 33, 34, 35, 36, 37, 38, 39, 40, 41, 42, 43, 44, 45, 46, 47, 48, 49, 50, 51, 52, 53, 54, 55, 56, 57, 58, 59, 60, 61, 62, 63, 64, 65, 66, 67, 68, 69, 70, 71, 72, 73, 74, 75, 76, 77, 78, 79, 80, 81, 82, 83, 84, 85, 86, 87, 88, 89, 90, 91, 92, 93, 94] rfl rfl rfl rfl) rfl rfl hl.1 rfl (lv_room (Nat.le_of_ble_eq_true rfl)) dX4_lend_13 ⟨Nat.zero_le _, Nat.zero_le _⟩) hP hD hS hA [0, 1, 2, 3, 4, 5, 6, 7, 8, 9, 10, 11, 12, 13, 14, 15, 16, 17, 18, 19, 20, 21, 22, 23, 24, 25, 26, 27, 28, 29, 30, 31, 32, 33, 34, 35, 36, 37, 38, 39, 40, 41, 42, 43, 44, 45, 46, 47, 48, 49, 50, 51, 52, 53, 54, 55, 56, 57, 58, 59, 60, 61, 62, 63, 64, 65, 66, 67, 68, 69, 70, 71, 72, 73, 74, 75, 76, 77, 78, 79, 80, 81, 82, 83, 84, 85, 86, 87, 88, 89, 90, 91, 92, 93, 94] rfl rfl (ws' := (wF cA cQ adF adB adT adH kH adR adO u3.2.1 u2.2 u3.2.2.1 u3.2.2.2 vR vO)) rfl (fun H locs hP hD hS => ?_)
  cases h
  exact endI hx hb hr hlocks hP hS rfl dX4_lend_16
theorem iw_X4_lot_X4 : ∀ w ∈ wsX40, w ∈ wsX4_lot := fun _ h => List.mem_cons_of_mem _ (List.mem_append_left _ (List.mem_append_right _ (h)))
set_option maxHeartbeats 4000000 in
set_option maxRecDepth 100000 in
theorem c_X4_lot (l : Launch) (D : va_G) (cA cQ : ClassId) (adF : Nat) (adB : Nat → Nat) (adT : Nat → Nat) (adH : Nat → Nat) (kH : Nat → Nat → Nat) (adR : Nat → Nat) (adO : Nat → Nat) (vB : St) (vT : St) (vH : St) (bH : Nat → St) (vR : St) (vO : St) (p1 : Int32) (p2 : Int32) (o : Int32) (hf : X4_lot vB vT vH bH vR vO p1 p2 = some o) : Cti l yX4_lot wsX4_lot ({ frames := 2, cells := 0, slots := 0, locals := 43 }) D (TY cA cQ) [.ref adF, .int p1, .int p2] (wF cA cQ adF adB adT adH kH adR adO vB vT vH bH vR vO) (wF cA cQ adF adB adT adH kH adR adO vB vT vH bH vR vO) o := by
  refine Wk.i (cc := cX4_lot) (maxL := 3) (ret := (some .int)) (by decide) rfl (Nat.le_of_ble_eq_true rfl) ?_
  intro p e s m below meth c A ls hx hb hr hlocks hml hown hts hK hN hP hD hA hl
  have hown : s.vm.findClass RX4 = some m.cls := hown
  have hS : va_S A s.heap s.heap [] := va_S.rf
  have hl : lv_has ls 3 [(0, .ref adF), (1, .int p1), (2, .int p2)] := hl
  have h := hf
  unfold X4_lot at h
  refine lv_iload_n hx hb dX4_lot_0 rfl (lv_at hl 1 rfl) ?_
  refine lv_if_lt (tgt := 14) hx hb dX4_lot_1 (by decide) (fun c1 => ?_) (fun c1 => ?_)
  · have h := (if_pos c1).symm.trans h
    refine lv_ldc (v := (-1000001 : Int32)) hx hb hown (hts (.constant RX4 81 (-1000001)) (List.mem_of_getElem? (i := 1) rfl)) dX4_lot_14 ?_
    cases h
    exact endI hx hb hr hlocks hP hS rfl dX4_lot_16
  · have h := (if_neg c1).symm.trans h
    refine lv_iload_n hx hb dX4_lot_4 rfl (lv_at hl 2 rfl) ?_
    refine lv_if_lt (tgt := 14) hx hb dX4_lot_5 (by decide) (fun c2 => ?_) (fun c2 => ?_)
    · have h := (if_pos c2).symm.trans h
      refine lv_ldc (v := (-1000001 : Int32)) hx hb hown (hts (.constant RX4 81 (-1000001)) (List.mem_of_getElem? (i := 1) rfl)) dX4_lot_14 ?_
      cases h
      exact endI hx hb hr hlocks hP hS rfl dX4_lot_16
    · have h := (if_neg c2).symm.trans h
      refine lv_iload_n hx hb dX4_lot_8 rfl (lv_at hl 2 rfl) ?_
      refine lv_bipush (v := (6 : Int32)) hx hb dX4_lot_9 (by decide) ?_
      refine lv_icmp_lt (tgt := 17) hx hb dX4_lot_11 (by decide) (fun c3 => ?_) (fun c3 => ?_)
      · have h := (if_pos c3).symm.trans h
        refine lv_iload_n hx hb dX4_lot_17 rfl (lv_at hl 1 rfl) ?_
        refine lv_aload_n hx hb dX4_lot_18 rfl (lv_at hl 0 rfl) ?_
        refine va_get (D := D) (ci := 4) (v := .ref (adB 0)) (C := RX4) (T := TX4) (N := 5) hx hb hts iw_X4_lot_X4 hown hK hP 0 rfl rfl 0 (by decide) (hts (.fieldLink RX4 10 "FavourRings" "bank" "LFavourRings$Bank;") (List.mem_of_getElem? (i := 2) rfl)) (fun _ h9 => h9) rfl dX4_lot_19 ?_
        refine lv_iconst (v := (2 : Int32)) hx hb dX4_lot_22 (by decide) ?_
        obtain ⟨u4, eu4, h⟩ := bd_in h
        refine kI (va_runV (As := [.int (2 : Int32)]) (rest := [.int p1]) ⟨hx, hb, hml, hown, hts⟩ (c_X0_number l D cA cQ adB vB (2 : Int32) u4 eu4 _) (cwV 1 hts gX4_lot_X0_number rfl rfl rfl (by decide +kernel) ⟨Nat.le_of_ble_eq_true rfl, Nat.le_of_ble_eq_true rfl⟩) (pV (ci := 0) (q := (RX0, TX0, 13)) hK hN hP hD [1, 2, 3, 4, 5, 6, 7, 8, 9, 10, 11, 12, 13, 14] rfl rfl rfl rfl) rfl rfl hl.1 rfl (lv_room (Nat.le_of_ble_eq_true rfl)) dX4_lot_23 ⟨Nat.zero_le _, Nat.zero_le _⟩) hP hD hS hA [1, 2, 3, 4, 5, 6, 7, 8, 9, 10, 11, 12, 13, 14] rfl rfl (ws' := (wF cA cQ adF adB adT adH kH adR adO vB vT vH bH vR vO)) rfl (fun H locs hP hD hS => ?_)
        refine lv_icmp_ge (tgt := 41) hx hb dX4_lot_26 (by decide) (fun c5 => ?_) (fun c5 => ?_)
        · have h := (if_pos c5).symm.trans h
          refine lv_ldc (v := (-1000004 : Int32)) hx hb hown (hts (.constant RX4 98 (-1000004)) (List.mem_of_getElem? (i := 3) rfl)) dX4_lot_41 ?_
          cases h
          exact endI hx hb hr hlocks hP hS rfl dX4_lot_43
        · have h := (if_neg c5).symm.trans h
          refine lv_aload_n hx hb dX4_lot_29 rfl (lv_at hl 0 rfl) ?_
          refine va_get (D := D) (ci := 4) (v := .ref (adB 0)) (C := RX4) (T := TX4) (N := 5) hx hb hts iw_X4_lot_X4 hown hK hP 0 rfl rfl 0 (by decide) (hts (.fieldLink RX4 10 "FavourRings" "bank" "LFavourRings$Bank;") (List.mem_of_getElem? (i := 2) rfl)) (fun _ h9 => h9) rfl dX4_lot_30 ?_
          refine lv_iload_n hx hb dX4_lot_33 rfl (lv_at hl 1 rfl) ?_
          refine lv_iload_n hx hb dX4_lot_34 rfl (lv_at hl 2 rfl) ?_
          obtain ⟨u6, eu6, h⟩ := bd_in h
          refine kI (va_runV (As := [.int p1, .int p2]) (rest := []) ⟨hx, hb, hml, hown, hts⟩ (c_X0_tellOfLot l D cA cQ adB vB p1 p2 u6 eu6 _) (cwV 2 hts gX4_lot_X0_tellOfLot rfl rfl rfl (by decide +kernel) ⟨Nat.le_of_ble_eq_true rfl, Nat.le_of_ble_eq_true rfl⟩) (pV (ci := 0) (q := (RX0, TX0, 13)) hK hN hP hD [1, 2, 3, 4, 5, 6, 7, 8, 9, 10, 11, 12, 13, 14] rfl rfl rfl rfl) rfl rfl hl.1 rfl (lv_room (Nat.le_of_ble_eq_true rfl)) dX4_lot_35 ⟨Nat.zero_le _, Nat.zero_le _⟩) hP hD hS hA [1, 2, 3, 4, 5, 6, 7, 8, 9, 10, 11, 12, 13, 14] rfl rfl (ws' := (wF cA cQ adF adB adT adH kH adR adO vB vT vH bH vR vO)) rfl (fun H locs hP hD hS => ?_)
          refine lv_goto (tgt := 43) hx hb dX4_lot_38 (by decide) ?_
          cases h
          exact endI hx hb hr hlocks hP hS rfl dX4_lot_43
      · have h := (if_neg c3).symm.trans h
        refine lv_ldc (v := (-1000001 : Int32)) hx hb hown (hts (.constant RX4 81 (-1000001)) (List.mem_of_getElem? (i := 1) rfl)) dX4_lot_14 ?_
        cases h
        exact endI hx hb hr hlocks hP hS rfl dX4_lot_16
theorem iw_X4_owes_X4 : ∀ w ∈ wsX40, w ∈ wsX4_owes := fun _ h => List.mem_cons_of_mem _ (List.mem_append_left _ (List.mem_append_right _ (h)))
set_option maxHeartbeats 4000000 in
set_option maxRecDepth 100000 in
theorem c_X4_owes (l : Launch) (D : va_G) (cA cQ : ClassId) (adF : Nat) (adB : Nat → Nat) (adT : Nat → Nat) (adH : Nat → Nat) (kH : Nat → Nat → Nat) (adR : Nat → Nat) (adO : Nat → Nat) (vB : St) (vT : St) (vH : St) (bH : Nat → St) (vR : St) (vO : St) (p1 : Int32) (p2 : Int32) (p3 : Int32) (o : Int32) (hf : X4_owes vB vT vH bH vR vO p1 p2 p3 = some o) : Cti l yX4_owes wsX4_owes ({ frames := 2, cells := 0, slots := 0, locals := 49 }) D (TY cA cQ) [.ref adF, .int p1, .int p2, .int p3] (wF cA cQ adF adB adT adH kH adR adO vB vT vH bH vR vO) (wF cA cQ adF adB adT adH kH adR adO vB vT vH bH vR vO) o := by
  refine Wk.i (cc := cX4_owes) (maxL := 4) (ret := (some .int)) (by decide) rfl (Nat.le_of_ble_eq_true rfl) ?_
  intro p e s m below meth c A ls hx hb hr hlocks hml hown hts hK hN hP hD hA hl
  have hown : s.vm.findClass RX4 = some m.cls := hown
  have hS : va_S A s.heap s.heap [] := va_S.rf
  have hl : lv_has ls 4 [(0, .ref adF), (1, .int p1), (2, .int p2), (3, .int p3)] := hl
  have h := hf
  unfold X4_owes at h
  refine lv_aload_n hx hb dX4_owes_0 rfl (lv_at hl 0 rfl) ?_
  refine va_get (D := D) (ci := 4) (v := .ref (adB 0)) (C := RX4) (T := TX4) (N := 5) hx hb hts iw_X4_owes_X4 hown hK hP 0 rfl rfl 0 (by decide) (hts (.fieldLink RX4 10 "FavourRings" "bank" "LFavourRings$Bank;") (List.mem_of_getElem? (i := 1) rfl)) (fun _ h9 => h9) rfl dX4_owes_1 ?_
  refine lv_iload_n hx hb dX4_owes_4 rfl (lv_at hl 1 rfl) ?_
  obtain ⟨u1, eu1, h⟩ := bd_in h
  refine kI (va_runV (As := [.int p1]) (rest := []) ⟨hx, hb, hml, hown, hts⟩ (c_X0_isPupil l D cA cQ adB vB p1 u1 eu1 _) (cwV 1 hts gX4_owes_X0_isPupil rfl rfl rfl (by decide +kernel) ⟨Nat.le_of_ble_eq_true rfl, Nat.le_of_ble_eq_true rfl⟩) (pV (ci := 0) (q := (RX0, TX0, 13)) hK hN hP hD [1, 2, 3, 4, 5, 6, 7, 8, 9, 10, 11, 12, 13, 14] rfl rfl rfl rfl) rfl rfl hl.1 rfl (lv_room (Nat.le_of_ble_eq_true rfl)) dX4_owes_5 ⟨Nat.zero_le _, Nat.zero_le _⟩) hP hD hS hA [1, 2, 3, 4, 5, 6, 7, 8, 9, 10, 11, 12, 13, 14] rfl rfl (ws' := (wF cA cQ adF adB adT adH kH adR adO vB vT vH bH vR vO)) rfl (fun H locs hP hD hS => ?_)
  refine lv_if_eq (tgt := 29) hx hb dX4_owes_8 (by decide) (fun c2 => ?_) (fun c2 => ?_)
  · have h := (if_pos c2).symm.trans h
    refine lv_ldc (v := (-1000001 : Int32)) hx hb hown (hts (.constant RX4 81 (-1000001)) (List.mem_of_getElem? (i := 2) rfl)) dX4_owes_29 ?_
    cases h
    exact endI hx hb hr hlocks hP hS rfl dX4_owes_31
  · have h := (if_neg c2).symm.trans h
    refine lv_aload_n hx hb dX4_owes_11 rfl (lv_at hl 0 rfl) ?_
    refine va_get (D := D) (ci := 4) (v := .ref (adB 0)) (C := RX4) (T := TX4) (N := 5) hx hb hts iw_X4_owes_X4 hown hK hP 0 rfl rfl 0 (by decide) (hts (.fieldLink RX4 10 "FavourRings" "bank" "LFavourRings$Bank;") (List.mem_of_getElem? (i := 1) rfl)) (fun _ h9 => h9) rfl dX4_owes_12 ?_
    refine lv_iload_n hx hb dX4_owes_15 rfl (lv_at hl 2 rfl) ?_
    obtain ⟨u3, eu3, h⟩ := bd_in h
    refine kI (va_runV (As := [.int p2]) (rest := []) ⟨hx, hb, hml, hown, hts⟩ (c_X0_isPupil l D cA cQ adB vB p2 u3 eu3 _) (cwV 1 hts gX4_owes_X0_isPupil rfl rfl rfl (by decide +kernel) ⟨Nat.le_of_ble_eq_true rfl, Nat.le_of_ble_eq_true rfl⟩) (pV (ci := 0) (q := (RX0, TX0, 13)) hK hN hP hD [1, 2, 3, 4, 5, 6, 7, 8, 9, 10, 11, 12, 13, 14] rfl rfl rfl rfl) rfl rfl hl.1 rfl (lv_room (Nat.le_of_ble_eq_true rfl)) dX4_owes_16 ⟨Nat.zero_le _, Nat.zero_le _⟩) hP hD hS hA [1, 2, 3, 4, 5, 6, 7, 8, 9, 10, 11, 12, 13, 14] rfl rfl (ws' := (wF cA cQ adF adB adT adH kH adR adO vB vT vH bH vR vO)) rfl (fun H locs hP hD hS => ?_)
    refine lv_if_eq (tgt := 29) hx hb dX4_owes_19 (by decide) (fun c4 => ?_) (fun c4 => ?_)
    · have h := (if_pos c4).symm.trans h
      refine lv_ldc (v := (-1000001 : Int32)) hx hb hown (hts (.constant RX4 81 (-1000001)) (List.mem_of_getElem? (i := 2) rfl)) dX4_owes_29 ?_
      cases h
      exact endI hx hb hr hlocks hP hS rfl dX4_owes_31
    · have h := (if_neg c4).symm.trans h
      refine lv_iload_n hx hb dX4_owes_22 rfl (lv_at hl 3 rfl) ?_
      obtain ⟨u5, eu5, h⟩ := bd_in h
      refine kI (va_runS (As := [.int p3]) (rest := []) ⟨hx, hb, hml, hown, hts⟩ (c_X4_isKind l D cA cQ  p3 u5 eu5 _) (va_cwS 1 hts gX4_owes_X4_isKind rfl rfl rfl (by decide +kernel) ⟨Nat.le_of_ble_eq_true rfl, Nat.le_of_ble_eq_true rfl⟩) (pS hK hN hP hD [] rfl rfl) rfl rfl hl.1 rfl (lv_room (Nat.le_of_ble_eq_true rfl)) dX4_owes_23 ⟨Nat.zero_le _, Nat.zero_le _⟩) hP hD hS hA [] rfl rfl (ws' := (wF cA cQ adF adB adT adH kH adR adO vB vT vH bH vR vO)) rfl (fun H locs hP hD hS => ?_)
      refine lv_if_ne (tgt := 32) hx hb dX4_owes_26 (by decide) (fun c6 => ?_) (fun c6 => ?_)
      · have h := (if_neg c6).symm.trans h
        refine lv_aload_n hx hb dX4_owes_32 rfl (lv_at hl 0 rfl) ?_
        refine va_get (D := D) (ci := 4) (v := .ref (adB 0)) (C := RX4) (T := TX4) (N := 5) hx hb hts iw_X4_owes_X4 hown hK hP 0 rfl rfl 0 (by decide) (hts (.fieldLink RX4 10 "FavourRings" "bank" "LFavourRings$Bank;") (List.mem_of_getElem? (i := 1) rfl)) (fun _ h9 => h9) rfl dX4_owes_33 ?_
        refine lv_iload_n hx hb dX4_owes_36 rfl (lv_at hl 1 rfl) ?_
        refine lv_iload_n hx hb dX4_owes_37 rfl (lv_at hl 2 rfl) ?_
        refine lv_iload_n hx hb dX4_owes_38 rfl (lv_at hl 3 rfl) ?_
        obtain ⟨u7, eu7, h⟩ := bd_in h
        refine kI (va_runV (As := [.int p1, .int p2, .int p3]) (rest := []) ⟨hx, hb, hml, hown, hts⟩ (c_X0_sumOwed l D cA cQ adB vB p1 p2 p3 u7 eu7 _) (cwV 3 hts gX4_owes_X0_sumOwed rfl rfl rfl (by decide +kernel) ⟨Nat.le_of_ble_eq_true rfl, Nat.le_of_ble_eq_true rfl⟩) (pV (ci := 0) (q := (RX0, TX0, 13)) hK hN hP hD [1, 2, 3, 4, 5, 6, 7, 8, 9, 10, 11, 12, 13, 14] rfl rfl rfl rfl) rfl rfl hl.1 rfl (lv_room (Nat.le_of_ble_eq_true rfl)) dX4_owes_39 ⟨Nat.zero_le _, Nat.zero_le _⟩) hP hD hS hA [1, 2, 3, 4, 5, 6, 7, 8, 9, 10, 11, 12, 13, 14] rfl rfl (ws' := (wF cA cQ adF adB adT adH kH adR adO vB vT vH bH vR vO)) rfl (fun H locs hP hD hS => ?_)
        cases h
        exact endI hx hb hr hlocks hP hS rfl dX4_owes_42
      · have h := (if_pos c6).symm.trans h
        refine lv_ldc (v := (-1000001 : Int32)) hx hb hown (hts (.constant RX4 81 (-1000001)) (List.mem_of_getElem? (i := 2) rfl)) dX4_owes_29 ?_
        cases h
        exact endI hx hb hr hlocks hP hS rfl dX4_owes_31
theorem iw_X4_play_X4 : ∀ w ∈ wsX40, w ∈ wsX4_play := fun _ h => List.mem_cons_of_mem _ (List.mem_append_left _ (List.mem_append_left _ (List.mem_append_left _ (List.mem_append_left _ (List.mem_append_right _ (h))))))
set_option maxHeartbeats 4000000 in
set_option maxRecDepth 100000 in
theorem c_X4_play (l : Launch) (D : va_G) (cA cQ : ClassId) (adF : Nat) (adB : Nat → Nat) (adT : Nat → Nat) (adH : Nat → Nat) (kH : Nat → Nat → Nat) (adR : Nat → Nat) (adO : Nat → Nat) (vB : St) (vT : St) (vH : St) (bH : Nat → St) (vR : St) (vO : St) (o : Int32 × St × St × St × (Nat → St) × St × St) (hf : X4_play vB vT vH bH vR vO = some o) : Cti l yX4_play wsX4_play ({ frames := 6, cells := 0, slots := 0, locals := 165 }) D (TY cA cQ) [.ref adF] (wF cA cQ adF adB adT adH kH adR adO vB vT vH bH vR vO) (wF cA cQ adF adB adT adH kH adR adO o.2.1 o.2.2.1 o.2.2.2.1 o.2.2.2.2.1 o.2.2.2.2.2.1 o.2.2.2.2.2.2) o.1 := by
  refine Wk.i (cc := cX4_play) (maxL := 1) (ret := (some .int)) (by decide) rfl (Nat.le_of_ble_eq_true rfl) ?_
  intro p e s m below meth c A ls hx hb hr hlocks hml hown hts hK hN hP hD hA hl
  have hown : s.vm.findClass RX4 = some m.cls := hown
  have hS : va_S A s.heap s.heap [] := va_S.rf
  have hl : lv_has ls 1 [(0, .ref adF)] := hl
  have B31 : ∀ (vB : St) (vT : St) (vH : St) (bH : Nat → St) (vR : St) (vO : St) (t1 : Int32) (H : Heap) (locs : List Loc) (ls : Array Slot), X4_play_b31 vB vT vH bH vR vO t1 = some o → va_P D vwCl (wF cA cQ adF adB adT adH kH adR adO vB vT vH bH vR vO) H → va_D A (wF cA cQ adF adB adT adH kH adR adO vB vT vH bH vR vO) → va_S A s.heap H locs → lv_has ls 1 [] → W p l e (headSpec wsX4_play ({ frames := 6, cells := 0, slots := 0, locals := 165 })).room s m ([.ref adF] : List Value).toArray below meth c H locs 0 0 (MQ below (QI D (wF cA cQ adF adB adT adH kH adR adO o.2.1 o.2.2.1 o.2.2.2.1 o.2.2.2.2.1 o.2.2.2.2.2.1 o.2.2.2.2.2.2) o.1 A) ([.ref adF] : List Value).toArray s 0 0 A) (F0 m 31 ls [.int t1, .ref adF]) := by
    intro vB vT vH bH vR vO t1 H locs ls h hP hD hS hl
    unfold X4_play_b31 at h
    obtain ⟨u1, eu1, h⟩ := bd_in h
    refine kI (va_runV (As := [.int t1]) (rest := []) ⟨hx, hb, hml, hown, hts⟩ (c_X4_settled l D cA cQ adF adB adT adH kH adR adO vB vT vH bH vR vO t1 u1 eu1 _) (cwV 1 hts gX4_play_X4_settled rfl rfl rfl (by decide +kernel) ⟨Nat.le_of_ble_eq_true rfl, Nat.le_of_ble_eq_true rfl⟩) (pV (ci := 4) (q := (RX4, TX4, 5)) hK hN hP hD [0, 1, 2, 3, 4, 5, 6, 7, 8, 9, 10, 11, 12, 13, 14, 15, 16, 17, 18, 19, 20, 21, 22, 23, 24, 25, 26, 27, 28, 29, 30, 31, 32, 33, 34, 35, 36, 37, 38, 39, 40, 41, 42, 43, 44, 45, 46, 47, 48, 49, 50, 51, 52, 53, 54, 55, 56, 57, 58, 59, 60, 61, 62, 63, 64, 65, 66, 67, 68, 69, 70, 71, 72, 73, 74, 75, 76, 77, 78, 79, 80, 81, 82, 83, 84, 85, 86, 87, 88, 89, 90, 91, 92, 93, 94] rfl rfl rfl rfl) rfl rfl hl.1 rfl (lv_room (Nat.le_of_ble_eq_true rfl)) dX4_play_31 ⟨Nat.zero_le _, Nat.zero_le _⟩) hP hD hS hA [0, 1, 2, 3, 4, 5, 6, 7, 8, 9, 10, 11, 12, 13, 14, 15, 16, 17, 18, 19, 20, 21, 22, 23, 24, 25, 26, 27, 28, 29, 30, 31, 32, 33, 34, 35, 36, 37, 38, 39, 40, 41, 42, 43, 44, 45, 46, 47, 48, 49, 50, 51, 52, 53, 54, 55, 56, 57, 58, 59, 60, 61, 62, 63, 64, 65, 66, 67, 68, 69, 70, 71, 72, 73, 74, 75, 76, 77, 78, 79, 80, 81, 82, 83, 84, 85, 86, 87, 88, 89, 90, 91, 92, 93, 94] rfl rfl (ws' := (wF cA cQ adF adB adT adH kH adR adO u1.2.1 vT u1.2.2.1 u1.2.2.2 vR vO)) rfl (fun H locs hP hD hS => ?_)
    cases h
    exact endI hx hb hr hlocks hP hS rfl dX4_play_34
  have h := hf
  unfold X4_play at h
  refine lv_aload_n hx hb dX4_play_0 rfl (lv_at hl 0 rfl) ?_
  refine lv_aload_n hx hb dX4_play_1 rfl (lv_at hl 0 rfl) ?_
  refine va_get (D := D) (ci := 4) (v := .ref (adO 0)) (C := RX4) (T := TX4) (N := 5) hx hb hts iw_X4_play_X4 hown hK hP 0 rfl rfl 4 (by decide) (hts (.fieldLink RX4 36 "FavourRings" "orders" "LFavourRings$Orders;") (List.mem_of_getElem? (i := 1) rfl)) (fun _ h9 => h9) rfl dX4_play_2 ?_
  refine lv_aload_n hx hb dX4_play_5 rfl (lv_at hl 0 rfl) ?_
  obtain ⟨u2, eu2, h⟩ := bd_in h
  refine kR (va_runV (As := []) (rest := [.ref (adO 0), .ref adF]) ⟨hx, hb, hml, hown, hts⟩ (c_X4_freshTrial l D cA cQ adF adB adT adH kH adR adO vB vT vH bH vR vO u2 eu2 _) (cwV 0 hts gX4_play_X4_freshTrial rfl rfl rfl (by decide +kernel) ⟨Nat.le_of_ble_eq_true rfl, Nat.le_of_ble_eq_true rfl⟩) (pV (ci := 4) (q := (RX4, TX4, 5)) hK hN hP hD [0, 1, 2, 3, 4, 5, 6, 7, 8, 9, 10, 11, 12, 13, 14, 15, 16, 17, 18, 19, 20, 21, 22, 23, 24, 25, 26, 27, 28, 29, 30, 31, 32, 33, 34, 35, 36, 37, 38, 39, 40, 41, 42, 43, 44, 45, 46, 47, 48, 49, 50, 51, 52, 53, 54, 55, 56, 57, 58, 59, 60, 61, 62, 63, 64, 65, 66, 67, 68, 69, 70, 71, 72, 73, 74, 75, 76, 77, 78, 79, 80, 81, 82, 83, 84, 85, 86, 87, 88, 89, 90, 91, 92, 93, 94] rfl rfl rfl rfl) rfl rfl hl.1 rfl (lv_room (Nat.le_of_ble_eq_true rfl)) dX4_play_6 ⟨Nat.zero_le _, Nat.zero_le _⟩) hP hD hS hA [0, 1, 2, 3, 4, 5, 6, 7, 8, 9, 10, 11, 12, 13, 14, 15, 16, 17, 18, 19, 20, 21, 22, 23, 24, 25, 26, 27, 28, 29, 30, 31, 32, 33, 34, 35, 36, 37, 38, 39, 40, 41, 42, 43, 44, 45, 46, 47, 48, 49, 50, 51, 52, 53, 54, 55, 56, 57, 58, 59, 60, 61, 62, 63, 64, 65, 66, 67, 68, 69, 70, 71, 72, 73, 74, 75, 76, 77, 78, 79, 80, 81, 82, 83, 84, 85, 86, 87, 88, 89, 90, 91, 92, 93, 94] rfl rfl (ws' := (wF cA cQ adF adB adT adH kH adR adO vB u2 vH bH vR vO)) rfl (fun H locs hP hD hS => ?_)
  refine lv_aload_n hx hb dX4_play_9 rfl (lv_at hl 0 rfl) ?_
  refine va_get (D := D) (ci := 4) (v := .ref (adR 0)) (C := RX4) (T := TX4) (N := 5) hx hb hts iw_X4_play_X4 hown hK hP 0 rfl rfl 3 (by decide) (hts (.fieldLink RX4 29 "FavourRings" "rings" "LFavourRings$Rings;") (List.mem_of_getElem? (i := 2) rfl)) (fun _ h9 => h9) rfl dX4_play_10 ?_
  obtain ⟨u3, eu3, h⟩ := bd_in h
  refine kI (va_runV (As := [.ref (adT 0), .ref (adR 0)]) (rest := [.ref adF]) ⟨hx, hb, hml, hown, hts⟩ (c_X2_doAll l D cA cQ adO adT adR vO u2 vR u3 eu3 _) (cwV 2 hts gX4_play_X2_doAll rfl rfl rfl (by decide +kernel) ⟨Nat.le_of_ble_eq_true rfl, Nat.le_of_ble_eq_true rfl⟩) (pV (ci := 2) (q := (RX2, TX2, 8)) hK hN hP hD [92, 93, 94, 15, 16, 17, 18, 19, 20, 21, 22, 23, 24, 25, 26, 27, 28, 87, 88, 89, 90, 91] rfl rfl rfl rfl) rfl rfl hl.1 rfl (lv_room (Nat.le_of_ble_eq_true rfl)) dX4_play_13 ⟨Nat.zero_le _, Nat.zero_le _⟩) hP hD hS hA [92, 93, 94, 15, 16, 17, 18, 19, 20, 21, 22, 23, 24, 25, 26, 27, 28, 87, 88, 89, 90, 91] rfl rfl (ws' := (wF cA cQ adF adB adT adH kH adR adO vB u3.2.2.1 vH bH u3.2.2.2 u3.2.1)) rfl (fun H locs hP hD hS => ?_)
  refine lv_if_eq (tgt := 29) hx hb dX4_play_16 (by decide) (fun c4 => ?_) (fun c4 => ?_)
  · have h := (if_pos c4).symm.trans h
    refine lv_ldc (v := (-1000002 : Int32)) hx hb hown (hts (.constant RX4 174 (-1000002)) (List.mem_of_getElem? (i := 3) rfl)) dX4_play_29 ?_
    exact B31 vB u3.2.2.1 vH bH u3.2.2.2 u3.2.1 (-1000002 : Int32) _ _ _ h hP hD hS (lv_sub hl [] rfl)
  · have h := (if_neg c4).symm.trans h
    refine lv_aload_n hx hb dX4_play_19 rfl (lv_at hl 0 rfl) ?_
    refine va_get (D := D) (ci := 4) (v := .ref (adO 0)) (C := RX4) (T := TX4) (N := 5) hx hb hts iw_X4_play_X4 hown hK hP 0 rfl rfl 4 (by decide) (hts (.fieldLink RX4 36 "FavourRings" "orders" "LFavourRings$Orders;") (List.mem_of_getElem? (i := 1) rfl)) (fun _ h9 => h9) rfl dX4_play_20 ?_
    obtain ⟨u5, eu5, h⟩ := bd_in h
    refine kI (va_runV (As := []) (rest := [.ref adF]) ⟨hx, hb, hml, hown, hts⟩ (c_X2_ordersDone l D cA cQ adO u3.2.1 u5 eu5 _) (cwV 0 hts gX4_play_X2_ordersDone rfl rfl rfl (by decide +kernel) ⟨Nat.le_of_ble_eq_true rfl, Nat.le_of_ble_eq_true rfl⟩) (pV (ci := 2) (q := (RX2, TX2, 8)) hK hN hP hD [92, 93, 94] rfl rfl rfl rfl) rfl rfl hl.1 rfl (lv_room (Nat.le_of_ble_eq_true rfl)) dX4_play_23 ⟨Nat.zero_le _, Nat.zero_le _⟩) hP hD hS hA [92, 93, 94] rfl rfl (ws' := (wF cA cQ adF adB adT adH kH adR adO vB u3.2.2.1 vH bH u3.2.2.2 u3.2.1)) rfl (fun H locs hP hD hS => ?_)
    refine lv_goto (tgt := 31) hx hb dX4_play_26 (by decide) ?_
    exact B31 vB u3.2.2.1 vH bH u3.2.2.2 u3.2.1 u5 _ _ _ h hP hD hS (lv_sub hl [] rfl)
set_option maxHeartbeats 4000000 in
set_option maxRecDepth 100000 in
theorem c_X4_pupil (l : Launch) (D : va_G) (cA cQ : ClassId) (adF : Nat) (adB : Nat → Nat) (adT : Nat → Nat) (adH : Nat → Nat) (kH : Nat → Nat → Nat) (adR : Nat → Nat) (adO : Nat → Nat) (vB : St) (vT : St) (vH : St) (bH : Nat → St) (vR : St) (vO : St) (o : Int32 × St × St × St × (Nat → St)) (hf : X4_pupil vB vT vH bH vR vO = some o) : Cti l yX4_pupil wsX4_pupil ({ frames := 6, cells := 0, slots := 0, locals := 165 }) D (TY cA cQ) [.ref adF] (wF cA cQ adF adB adT adH kH adR adO vB vT vH bH vR vO) (wF cA cQ adF adB adT adH kH adR adO o.2.1 o.2.2.1 o.2.2.2.1 o.2.2.2.2 vR vO) o.1 := by
  refine Wk.i (cc := cX4_pupil) (maxL := 1) (ret := (some .int)) (by decide) rfl (Nat.le_of_ble_eq_true rfl) ?_
  intro p e s m below meth c A ls hx hb hr hlocks hml hown hts hK hN hP hD hA hl
  have hown : s.vm.findClass RX4 = some m.cls := hown
  have hS : va_S A s.heap s.heap [] := va_S.rf
  have hl : lv_has ls 1 [(0, .ref adF)] := hl
  have h := hf
  unfold X4_pupil at h
  refine lv_aload_n hx hb dX4_pupil_0 rfl (lv_at hl 0 rfl) ?_
  refine lv_aload_n hx hb dX4_pupil_1 rfl (lv_at hl 0 rfl) ?_
  obtain ⟨u1, eu1, h⟩ := bd_in h
  refine kR (va_runV (As := []) (rest := [.ref adF]) ⟨hx, hb, hml, hown, hts⟩ (c_X4_freshTrial l D cA cQ adF adB adT adH kH adR adO vB vT vH bH vR vO u1 eu1 _) (cwV 0 hts gX4_pupil_X4_freshTrial rfl rfl rfl (by decide +kernel) ⟨Nat.le_of_ble_eq_true rfl, Nat.le_of_ble_eq_true rfl⟩) (pV (ci := 4) (q := (RX4, TX4, 5)) hK hN hP hD [0, 1, 2, 3, 4, 5, 6, 7, 8, 9, 10, 11, 12, 13, 14, 15, 16, 17, 18, 19, 20, 21, 22, 23, 24, 25, 26, 27, 28, 29, 30, 31, 32, 33, 34, 35, 36, 37, 38, 39, 40, 41, 42, 43, 44, 45, 46, 47, 48, 49, 50, 51, 52, 53, 54, 55, 56, 57, 58, 59, 60, 61, 62, 63, 64, 65, 66, 67, 68, 69, 70, 71, 72, 73, 74, 75, 76, 77, 78, 79, 80, 81, 82, 83, 84, 85, 86, 87, 88, 89, 90, 91, 92, 93, 94] rfl rfl rfl rfl) rfl rfl hl.1 rfl (lv_room (Nat.le_of_ble_eq_true rfl)) dX4_pupil_2 ⟨Nat.zero_le _, Nat.zero_le _⟩) hP hD hS hA [0, 1, 2, 3, 4, 5, 6, 7, 8, 9, 10, 11, 12, 13, 14, 15, 16, 17, 18, 19, 20, 21, 22, 23, 24, 25, 26, 27, 28, 29, 30, 31, 32, 33, 34, 35, 36, 37, 38, 39, 40, 41, 42, 43, 44, 45, 46, 47, 48, 49, 50, 51, 52, 53, 54, 55, 56, 57, 58, 59, 60, 61, 62, 63, 64, 65, 66, 67, 68, 69, 70, 71, 72, 73, 74, 75, 76, 77, 78, 79, 80, 81, 82, 83, 84, 85, 86, 87, 88, 89, 90, 91, 92, 93, 94] rfl rfl (ws' := (wF cA cQ adF adB adT adH kH adR adO vB u1 vH bH vR vO)) rfl (fun H locs hP hD hS => ?_)
  obtain ⟨u2, eu2, h⟩ := bd_in h
  refine kI (va_runV (As := []) (rest := [.ref adF]) ⟨hx, hb, hml, hown, hts⟩ (c_X0_addPupil l D cA cQ adT u1 u2 eu2 _) (cwV 0 hts gX4_pupil_X0_addPupil rfl rfl rfl (by decide +kernel) ⟨Nat.le_of_ble_eq_true rfl, Nat.le_of_ble_eq_true rfl⟩) (pV (ci := 0) (q := (RX0, TX0, 13)) hK hN hP hD [15, 16, 17, 18, 19, 20, 21, 22, 23, 24, 25, 26, 27, 28] rfl rfl rfl rfl) rfl rfl hl.1 rfl (lv_room (Nat.le_of_ble_eq_true rfl)) dX4_pupil_5 ⟨Nat.zero_le _, Nat.zero_le _⟩) hP hD hS hA [15, 16, 17, 18, 19, 20, 21, 22, 23, 24, 25, 26, 27, 28] rfl rfl (ws' := (wF cA cQ adF adB adT adH kH adR adO vB u2.2 vH bH vR vO)) rfl (fun H locs hP hD hS => ?_)
  obtain ⟨u3, eu3, h⟩ := bd_in h
  refine kI (va_runV (As := [.int u2.1]) (rest := []) ⟨hx, hb, hml, hown, hts⟩ (c_X4_settled l D cA cQ adF adB adT adH kH adR adO vB u2.2 vH bH vR vO u2.1 u3 eu3 _) (cwV 1 hts gX4_pupil_X4_settled rfl rfl rfl (by decide +kernel) ⟨Nat.le_of_ble_eq_true rfl, Nat.le_of_ble_eq_true rfl⟩) (pV (ci := 4) (q := (RX4, TX4, 5)) hK hN hP hD [0, 1, 2, 3, 4, 5, 6, 7, 8, 9, 10, 11, 12, 13, 14, 15, 16, 17, 18, 19, 20, 21, 22, 23, 24, 25, 26, 27, 28, 29, 30, 31, 32, 33, 34, 35, 36, 37, 38, 39, 40, 41, 42, 43, 44, 45, 46, 47, 48, 49, 50, 51, 52, 53, 54, 55, 56, 57, 58, 59, 60, 61, 62, 63, 64, 65, 66, 67, 68, 69, 70, 71, 72, 73, 74, 75, 76, 77, 78, 79, 80, 81, 82, 83, 84, 85, 86, 87, 88, 89, 90, 91, 92, 93, 94] rfl rfl rfl rfl) rfl rfl hl.1 rfl (lv_room (Nat.le_of_ble_eq_true rfl)) dX4_pupil_8 ⟨Nat.zero_le _, Nat.zero_le _⟩) hP hD hS hA [0, 1, 2, 3, 4, 5, 6, 7, 8, 9, 10, 11, 12, 13, 14, 15, 16, 17, 18, 19, 20, 21, 22, 23, 24, 25, 26, 27, 28, 29, 30, 31, 32, 33, 34, 35, 36, 37, 38, 39, 40, 41, 42, 43, 44, 45, 46, 47, 48, 49, 50, 51, 52, 53, 54, 55, 56, 57, 58, 59, 60, 61, 62, 63, 64, 65, 66, 67, 68, 69, 70, 71, 72, 73, 74, 75, 76, 77, 78, 79, 80, 81, 82, 83, 84, 85, 86, 87, 88, 89, 90, 91, 92, 93, 94] rfl rfl (ws' := (wF cA cQ adF adB adT adH kH adR adO u3.2.1 u2.2 u3.2.2.1 u3.2.2.2 vR vO)) rfl (fun H locs hP hD hS => ?_)
  cases h
  exact endI hx hb hr hlocks hP hS rfl dX4_pupil_11
theorem iw_X4_pupilOf_X4 : ∀ w ∈ wsX40, w ∈ wsX4_pupilOf := fun _ h => List.mem_cons_of_mem _ (List.mem_append_left _ (List.mem_append_right _ (h)))
set_option maxHeartbeats 4000000 in
set_option maxRecDepth 100000 in
theorem c_X4_pupilOf (l : Launch) (D : va_G) (cA cQ : ClassId) (adF : Nat) (adB : Nat → Nat) (adT : Nat → Nat) (adH : Nat → Nat) (kH : Nat → Nat → Nat) (adR : Nat → Nat) (adO : Nat → Nat) (vB : St) (vT : St) (vH : St) (bH : Nat → St) (vR : St) (vO : St) (p1 : Int32) (p2 : Int32) (o : Int32) (hf : X4_pupilOf vB vT vH bH vR vO p1 p2 = some o) : Cti l yX4_pupilOf wsX4_pupilOf ({ frames := 4, cells := 0, slots := 0, locals := 92 }) D (TY cA cQ) [.ref adF, .int p1, .int p2] (wF cA cQ adF adB adT adH kH adR adO vB vT vH bH vR vO) (wF cA cQ adF adB adT adH kH adR adO vB vT vH bH vR vO) o := by
  refine Wk.i (cc := cX4_pupilOf) (maxL := 3) (ret := (some .int)) (by decide) rfl (Nat.le_of_ble_eq_true rfl) ?_
  intro p e s m below meth c A ls hx hb hr hlocks hml hown hts hK hN hP hD hA hl
  have hown : s.vm.findClass RX4 = some m.cls := hown
  have hS : va_S A s.heap s.heap [] := va_S.rf
  have hl : lv_has ls 3 [(0, .ref adF), (1, .int p1), (2, .int p2)] := hl
  have h := hf
  unfold X4_pupilOf at h
  refine lv_aload_n hx hb dX4_pupilOf_0 rfl (lv_at hl 0 rfl) ?_
  refine va_get (D := D) (ci := 4) (v := .ref (adB 0)) (C := RX4) (T := TX4) (N := 5) hx hb hts iw_X4_pupilOf_X4 hown hK hP 0 rfl rfl 0 (by decide) (hts (.fieldLink RX4 10 "FavourRings" "bank" "LFavourRings$Bank;") (List.mem_of_getElem? (i := 1) rfl)) (fun _ h9 => h9) rfl dX4_pupilOf_1 ?_
  refine lv_iload_n hx hb dX4_pupilOf_4 rfl (lv_at hl 1 rfl) ?_
  obtain ⟨u1, eu1, h⟩ := bd_in h
  refine kI (va_runV (As := [.int p1]) (rest := []) ⟨hx, hb, hml, hown, hts⟩ (c_X0_isPupil l D cA cQ adB vB p1 u1 eu1 _) (cwV 1 hts gX4_pupilOf_X0_isPupil rfl rfl rfl (by decide +kernel) ⟨Nat.le_of_ble_eq_true rfl, Nat.le_of_ble_eq_true rfl⟩) (pV (ci := 0) (q := (RX0, TX0, 13)) hK hN hP hD [1, 2, 3, 4, 5, 6, 7, 8, 9, 10, 11, 12, 13, 14] rfl rfl rfl rfl) rfl rfl hl.1 rfl (lv_room (Nat.le_of_ble_eq_true rfl)) dX4_pupilOf_5 ⟨Nat.zero_le _, Nat.zero_le _⟩) hP hD hS hA [1, 2, 3, 4, 5, 6, 7, 8, 9, 10, 11, 12, 13, 14] rfl rfl (ws' := (wF cA cQ adF adB adT adH kH adR adO vB vT vH bH vR vO)) rfl (fun H locs hP hD hS => ?_)
  refine lv_if_eq (tgt := 21) hx hb dX4_pupilOf_8 (by decide) (fun c2 => ?_) (fun c2 => ?_)
  · have h := (if_pos c2).symm.trans h
    refine lv_ldc (v := (-1000001 : Int32)) hx hb hown (hts (.constant RX4 81 (-1000001)) (List.mem_of_getElem? (i := 2) rfl)) dX4_pupilOf_21 ?_
    cases h
    exact endI hx hb hr hlocks hP hS rfl dX4_pupilOf_23
  · have h := (if_neg c2).symm.trans h
    refine lv_iload_n hx hb dX4_pupilOf_11 rfl (lv_at hl 2 rfl) ?_
    refine lv_if_lt (tgt := 21) hx hb dX4_pupilOf_12 (by decide) (fun c3 => ?_) (fun c3 => ?_)
    · have h := (if_pos c3).symm.trans h
      refine lv_ldc (v := (-1000001 : Int32)) hx hb hown (hts (.constant RX4 81 (-1000001)) (List.mem_of_getElem? (i := 2) rfl)) dX4_pupilOf_21 ?_
      cases h
      exact endI hx hb hr hlocks hP hS rfl dX4_pupilOf_23
    · have h := (if_neg c3).symm.trans h
      refine lv_iload_n hx hb dX4_pupilOf_15 rfl (lv_at hl 2 rfl) ?_
      refine lv_bipush (v := (9 : Int32)) hx hb dX4_pupilOf_16 (by decide) ?_
      refine lv_icmp_lt (tgt := 24) hx hb dX4_pupilOf_18 (by decide) (fun c4 => ?_) (fun c4 => ?_)
      · have h := (if_pos c4).symm.trans h
        refine lv_aload_n hx hb dX4_pupilOf_24 rfl (lv_at hl 0 rfl) ?_
        refine va_get (D := D) (ci := 4) (v := .ref (adB 0)) (C := RX4) (T := TX4) (N := 5) hx hb hts iw_X4_pupilOf_X4 hown hK hP 0 rfl rfl 0 (by decide) (hts (.fieldLink RX4 10 "FavourRings" "bank" "LFavourRings$Bank;") (List.mem_of_getElem? (i := 1) rfl)) (fun _ h9 => h9) rfl dX4_pupilOf_25 ?_
        refine lv_iload_n hx hb dX4_pupilOf_28 rfl (lv_at hl 1 rfl) ?_
        refine lv_iload_n hx hb dX4_pupilOf_29 rfl (lv_at hl 2 rfl) ?_
        obtain ⟨u5, eu5, h⟩ := bd_in h
        refine kI (va_runV (As := [.int p1, .int p2]) (rest := []) ⟨hx, hb, hml, hown, hts⟩ (c_X0_tellOfPupil l D cA cQ adB vB p1 p2 u5 eu5 _) (cwV 2 hts gX4_pupilOf_X0_tellOfPupil rfl rfl rfl (by decide +kernel) ⟨Nat.le_of_ble_eq_true rfl, Nat.le_of_ble_eq_true rfl⟩) (pV (ci := 0) (q := (RX0, TX0, 13)) hK hN hP hD [1, 2, 3, 4, 5, 6, 7, 8, 9, 10, 11, 12, 13, 14] rfl rfl rfl rfl) rfl rfl hl.1 rfl (lv_room (Nat.le_of_ble_eq_true rfl)) dX4_pupilOf_30 ⟨Nat.zero_le _, Nat.zero_le _⟩) hP hD hS hA [1, 2, 3, 4, 5, 6, 7, 8, 9, 10, 11, 12, 13, 14] rfl rfl (ws' := (wF cA cQ adF adB adT adH kH adR adO vB vT vH bH vR vO)) rfl (fun H locs hP hD hS => ?_)
        cases h
        exact endI hx hb hr hlocks hP hS rfl dX4_pupilOf_33
      · have h := (if_neg c4).symm.trans h
        refine lv_ldc (v := (-1000001 : Int32)) hx hb hown (hts (.constant RX4 81 (-1000001)) (List.mem_of_getElem? (i := 2) rfl)) dX4_pupilOf_21 ?_
        cases h
        exact endI hx hb hr hlocks hP hS rfl dX4_pupilOf_23
theorem iw_X4_richest_X4 : ∀ w ∈ wsX40, w ∈ wsX4_richest := fun _ h => List.mem_cons_of_mem _ (List.mem_append_left _ (List.mem_append_right _ (h)))
set_option maxHeartbeats 4000000 in
set_option maxRecDepth 100000 in
theorem c_X4_richest (l : Launch) (D : va_G) (cA cQ : ClassId) (adF : Nat) (adB : Nat → Nat) (adT : Nat → Nat) (adH : Nat → Nat) (kH : Nat → Nat → Nat) (adR : Nat → Nat) (adO : Nat → Nat) (vB : St) (vT : St) (vH : St) (bH : Nat → St) (vR : St) (vO : St) (p1 : Int32) (o : Int32) (hf : X4_richest vB vT vH bH vR vO p1 = some o) : Cti l yX4_richest wsX4_richest ({ frames := 4, cells := 0, slots := 0, locals := 95 }) D (TY cA cQ) [.ref adF, .int p1] (wF cA cQ adF adB adT adH kH adR adO vB vT vH bH vR vO) (wF cA cQ adF adB adT adH kH adR adO vB vT vH bH vR vO) o := by
  refine Wk.i (cc := cX4_richest) (maxL := 3) (ret := (some .int)) (by decide) rfl (Nat.le_of_ble_eq_true rfl) ?_
  intro p e s m below meth c A ls hx hb hr hlocks hml hown hts hK hN hP hD hA hl
  have hown : s.vm.findClass RX4 = some m.cls := hown
  have hS : va_S A s.heap s.heap [] := va_S.rf
  have hl : lv_has ls 3 [(0, .ref adF), (1, .int p1)] := hl
  have B9 : ∀ (fu9 : Nat) (x2 : Int32) (H : Heap) (locs : List Loc) (ls : Array Slot), X4_richest_l9 vB vT vH bH vR vO p1 fu9 x2 = some o → va_P D vwCl (wF cA cQ adF adB adT adH kH adR adO vB vT vH bH vR vO) H → va_D A (wF cA cQ adF adB adT adH kH adR adO vB vT vH bH vR vO) → va_S A s.heap H locs → lv_has ls 3 [(0, .ref adF), (1, .int p1), (2, .int x2)] → W p l e (headSpec wsX4_richest ({ frames := 4, cells := 0, slots := 0, locals := 95 })).room s m ([.ref adF, .int p1] : List Value).toArray below meth c H locs 0 0 (MQ below (QI D (wF cA cQ adF adB adT adH kH adR adO vB vT vH bH vR vO) o A) ([.ref adF, .int p1] : List Value).toArray s 0 0 A) (F0 m 9 ls []) := by
    intro fu9
    induction fu9 with
    | zero =>
      intro x2 H locs ls h hP hD hS hl
      cases h
    | succ fu9 ih9 =>
      intro x2 H locs ls h hP hD hS hl
      rw [X4_richest_l9] at h
      refine lv_iload_n hx hb dX4_richest_9 rfl (lv_at hl 2 rfl) ?_
      refine lv_aload_n hx hb dX4_richest_10 rfl (lv_at hl 0 rfl) ?_
      refine va_get (D := D) (ci := 4) (v := .ref (adB 0)) (C := RX4) (T := TX4) (N := 5) hx hb hts iw_X4_richest_X4 hown hK hP 0 rfl rfl 0 (by decide) (hts (.fieldLink RX4 10 "FavourRings" "bank" "LFavourRings$Bank;") (List.mem_of_getElem? (i := 2) rfl)) (fun _ h9 => h9) rfl dX4_richest_11 ?_
      refine lv_iconst (v := (1 : Int32)) hx hb dX4_richest_14 (by decide) ?_
      obtain ⟨u1, eu1, h⟩ := bd_in h
      refine kI (va_runV (As := [.int (1 : Int32)]) (rest := [.int x2]) ⟨hx, hb, hml, hown, hts⟩ (c_X0_number l D cA cQ adB vB (1 : Int32) u1 eu1 _) (cwV 1 hts gX4_richest_X0_number rfl rfl rfl (by decide +kernel) ⟨Nat.le_of_ble_eq_true rfl, Nat.le_of_ble_eq_true rfl⟩) (pV (ci := 0) (q := (RX0, TX0, 13)) hK hN hP hD [1, 2, 3, 4, 5, 6, 7, 8, 9, 10, 11, 12, 13, 14] rfl rfl rfl rfl) rfl rfl hl.1 rfl (lv_room (Nat.le_of_ble_eq_true rfl)) dX4_richest_15 ⟨Nat.zero_le _, Nat.zero_le _⟩) hP hD hS hA [1, 2, 3, 4, 5, 6, 7, 8, 9, 10, 11, 12, 13, 14] rfl rfl (ws' := (wF cA cQ adF adB adT adH kH adR adO vB vT vH bH vR vO)) rfl (fun H locs hP hD hS => ?_)
      refine lv_icmp_ge (tgt := 41) hx hb dX4_richest_18 (by decide) (fun c2 => ?_) (fun c2 => ?_)
      · have h := (if_pos c2).symm.trans h
        refine lv_ldc (v := (-1000004 : Int32)) hx hb hown (hts (.constant RX4 98 (-1000004)) (List.mem_of_getElem? (i := 3) rfl)) dX4_richest_41 ?_
        cases h
        exact endI hx hb hr hlocks hP hS rfl dX4_richest_43
      · have h := (if_neg c2).symm.trans h
        refine lv_aload_n hx hb dX4_richest_21 rfl (lv_at hl 0 rfl) ?_
        refine va_get (D := D) (ci := 4) (v := .ref (adB 0)) (C := RX4) (T := TX4) (N := 5) hx hb hts iw_X4_richest_X4 hown hK hP 0 rfl rfl 0 (by decide) (hts (.fieldLink RX4 10 "FavourRings" "bank" "LFavourRings$Bank;") (List.mem_of_getElem? (i := 2) rfl)) (fun _ h9 => h9) rfl dX4_richest_22 ?_
        refine lv_iload_n hx hb dX4_richest_25 rfl (lv_at hl 2 rfl) ?_
        obtain ⟨u3, eu3, h⟩ := bd_in h
        refine kI (va_runV (As := [.int x2]) (rest := []) ⟨hx, hb, hml, hown, hts⟩ (c_X0_rankOf l D cA cQ adB vB x2 u3 eu3 _) (cwV 1 hts gX4_richest_X0_rankOf rfl rfl rfl (by decide +kernel) ⟨Nat.le_of_ble_eq_true rfl, Nat.le_of_ble_eq_true rfl⟩) (pV (ci := 0) (q := (RX0, TX0, 13)) hK hN hP hD [1, 2, 3, 4, 5, 6, 7, 8, 9, 10, 11, 12, 13, 14] rfl rfl rfl rfl) rfl rfl hl.1 rfl (lv_room (Nat.le_of_ble_eq_true rfl)) dX4_richest_26 ⟨Nat.zero_le _, Nat.zero_le _⟩) hP hD hS hA [1, 2, 3, 4, 5, 6, 7, 8, 9, 10, 11, 12, 13, 14] rfl rfl (ws' := (wF cA cQ adF adB adT adH kH adR adO vB vT vH bH vR vO)) rfl (fun H locs hP hD hS => ?_)
        refine lv_iload_n hx hb dX4_richest_29 rfl (lv_at hl 1 rfl) ?_
        refine lv_icmp_ne (tgt := 35) hx hb dX4_richest_30 (by decide) (fun c4 => ?_) (fun c4 => ?_)
        · have h := (if_neg c4).symm.trans h
          refine lv_iinc (v := (x2 + (1 : Int32))) (lv' := [(2, .int (x2 + (1 : Int32))), (0, .ref adF), (1, .int p1)]) hx hb dX4_richest_35 hl (k := 2) rfl rfl (by decide) rfl (fun ls hl => ?_)
          refine lv_goto (tgt := 9) hx hb dX4_richest_38 (by decide) ?_
          exact ih9 (x2 + (1 : Int32)) _ _ _ h hP hD hS (lv_sub hl [1, 2, 0] rfl)
        · have h := (if_pos c4).symm.trans h
          refine lv_iload_n hx hb dX4_richest_33 rfl (lv_at hl 2 rfl) ?_
          cases h
          exact endI hx hb hr hlocks hP hS rfl dX4_richest_34
  have h := hf
  unfold X4_richest at h
  refine lv_iload_n hx hb dX4_richest_0 rfl (lv_at hl 1 rfl) ?_
  refine lv_if_ge (tgt := 7) hx hb dX4_richest_1 (by decide) (fun c5 => ?_) (fun c5 => ?_)
  · have h := (if_pos c5).symm.trans h
    refine lv_iconst (v := (0 : Int32)) hx hb dX4_richest_7 (by decide) ?_
    refine lv_istore_n (lv' := [(2, .int (0 : Int32)), (0, .ref adF), (1, .int p1)]) hx hb dX4_richest_8 rfl hl (by decide) rfl (fun ls hl => ?_)
    exact B9 FU (0 : Int32) _ _ _ h hP hD hS (lv_sub hl [1, 2, 0] rfl)
  · have h := (if_neg c5).symm.trans h
    refine lv_ldc (v := (-1000001 : Int32)) hx hb hown (hts (.constant RX4 81 (-1000001)) (List.mem_of_getElem? (i := 1) rfl)) dX4_richest_4 ?_
    cases h
    exact endI hx hb hr hlocks hP hS rfl dX4_richest_6
theorem iw_X4_ring_X4 : ∀ w ∈ wsX40, w ∈ wsX4_ring := fun _ h => List.mem_cons_of_mem _ (List.mem_append_left _ (List.mem_append_left _ (List.mem_append_right _ (h))))
set_option maxHeartbeats 4000000 in
set_option maxRecDepth 100000 in
theorem c_X4_ring (l : Launch) (D : va_G) (cA cQ : ClassId) (adF : Nat) (adB : Nat → Nat) (adT : Nat → Nat) (adH : Nat → Nat) (kH : Nat → Nat → Nat) (adR : Nat → Nat) (adO : Nat → Nat) (vB : St) (vT : St) (vH : St) (bH : Nat → St) (vR : St) (vO : St) (p1 : Int32) (p2 : Int32) (o : Int32 × St) (hf : X4_ring vB vT vH bH vR vO p1 p2 = some o) : Cti l yX4_ring wsX4_ring ({ frames := 3, cells := 0, slots := 0, locals := 74 }) D (TY cA cQ) [.ref adF, .int p1, .int p2] (wF cA cQ adF adB adT adH kH adR adO vB vT vH bH vR vO) (wF cA cQ adF adB adT adH kH adR adO vB vT vH bH o.2 vO) o.1 := by
  refine Wk.i (cc := cX4_ring) (maxL := 3) (ret := (some .int)) (by decide) rfl (Nat.le_of_ble_eq_true rfl) ?_
  intro p e s m below meth c A ls hx hb hr hlocks hml hown hts hK hN hP hD hA hl
  have hown : s.vm.findClass RX4 = some m.cls := hown
  have hS : va_S A s.heap s.heap [] := va_S.rf
  have hl : lv_has ls 3 [(0, .ref adF), (1, .int p1), (2, .int p2)] := hl
  have h := hf
  unfold X4_ring at h
  refine lv_iload_n hx hb dX4_ring_0 rfl (lv_at hl 1 rfl) ?_
  obtain ⟨u1, eu1, h⟩ := bd_in h
  refine kI (va_runS (As := [.int p1]) (rest := []) ⟨hx, hb, hml, hown, hts⟩ (c_X4_isKind l D cA cQ  p1 u1 eu1 _) (va_cwS 1 hts gX4_ring_X4_isKind rfl rfl rfl (by decide +kernel) ⟨Nat.le_of_ble_eq_true rfl, Nat.le_of_ble_eq_true rfl⟩) (pS hK hN hP hD [] rfl rfl) rfl rfl hl.1 rfl (lv_room (Nat.le_of_ble_eq_true rfl)) dX4_ring_1 ⟨Nat.zero_le _, Nat.zero_le _⟩) hP hD hS hA [] rfl rfl (ws' := (wF cA cQ adF adB adT adH kH adR adO vB vT vH bH vR vO)) rfl (fun H locs hP hD hS => ?_)
  refine lv_if_eq (tgt := 11) hx hb dX4_ring_4 (by decide) (fun c2 => ?_) (fun c2 => ?_)
  · have h := (if_pos c2).symm.trans h
    refine lv_ldc (v := (-1000001 : Int32)) hx hb hown (hts (.constant RX4 81 (-1000001)) (List.mem_of_getElem? (i := 1) rfl)) dX4_ring_11 ?_
    cases h
    exact endI hx hb hr hlocks hP hS rfl dX4_ring_13
  · have h := (if_neg c2).symm.trans h
    refine lv_iload_n hx hb dX4_ring_7 rfl (lv_at hl 2 rfl) ?_
    refine lv_if_ge (tgt := 14) hx hb dX4_ring_8 (by decide) (fun c3 => ?_) (fun c3 => ?_)
    · have h := (if_pos c3).symm.trans h
      refine lv_aload_n hx hb dX4_ring_14 rfl (lv_at hl 0 rfl) ?_
      refine va_get (D := D) (ci := 4) (v := .ref (adR 0)) (C := RX4) (T := TX4) (N := 5) hx hb hts iw_X4_ring_X4 hown hK hP 0 rfl rfl 3 (by decide) (hts (.fieldLink RX4 29 "FavourRings" "rings" "LFavourRings$Rings;") (List.mem_of_getElem? (i := 2) rfl)) (fun _ h9 => h9) rfl dX4_ring_15 ?_
      refine lv_aload_n hx hb dX4_ring_18 rfl (lv_at hl 0 rfl) ?_
      refine va_get (D := D) (ci := 4) (v := .ref (adB 0)) (C := RX4) (T := TX4) (N := 5) hx hb hts iw_X4_ring_X4 hown hK hP 0 rfl rfl 0 (by decide) (hts (.fieldLink RX4 10 "FavourRings" "bank" "LFavourRings$Bank;") (List.mem_of_getElem? (i := 3) rfl)) (fun _ h9 => h9) rfl dX4_ring_19 ?_
      refine lv_iload_n hx hb dX4_ring_22 rfl (lv_at hl 1 rfl) ?_
      obtain ⟨u4, eu4, h⟩ := bd_in h
      refine kI (va_runV (As := [.ref (adB 0), .int p1]) (rest := []) ⟨hx, hb, hml, hown, hts⟩ (c_X3_findNext l D cA cQ adR adB vR vB p1 u4 eu4 _) (cwV 2 hts gX4_ring_X3_findNext rfl rfl rfl (by decide +kernel) ⟨Nat.le_of_ble_eq_true rfl, Nat.le_of_ble_eq_true rfl⟩) (pV (ci := 3) (q := (RX3, TX3, 5)) hK hN hP hD [87, 88, 89, 90, 91, 1, 2, 3, 4, 5, 6, 7, 8, 9, 10, 11, 12, 13, 14] rfl rfl rfl rfl) rfl rfl hl.1 rfl (lv_room (Nat.le_of_ble_eq_true rfl)) dX4_ring_23 ⟨Nat.zero_le _, Nat.zero_le _⟩) hP hD hS hA [87, 88, 89, 90, 91, 1, 2, 3, 4, 5, 6, 7, 8, 9, 10, 11, 12, 13, 14] rfl rfl (ws' := (wF cA cQ adF adB adT adH kH adR adO vB vT vH bH u4.2 vO)) rfl (fun H locs hP hD hS => ?_)
      refine lv_if_eq (tgt := 40) hx hb dX4_ring_26 (by decide) (fun c5 => ?_) (fun c5 => ?_)
      · have h := (if_pos c5).symm.trans h
        refine lv_ldc (v := (-1000004 : Int32)) hx hb hown (hts (.constant RX4 98 (-1000004)) (List.mem_of_getElem? (i := 4) rfl)) dX4_ring_40 ?_
        cases h
        exact endI hx hb hr hlocks hP hS rfl dX4_ring_42
      · have h := (if_neg c5).symm.trans h
        refine lv_iload_n hx hb dX4_ring_29 rfl (lv_at hl 2 rfl) ?_
        refine lv_aload_n hx hb dX4_ring_30 rfl (lv_at hl 0 rfl) ?_
        refine va_get (D := D) (ci := 4) (v := .ref (adR 0)) (C := RX4) (T := TX4) (N := 5) hx hb hts iw_X4_ring_X4 hown hK hP 0 rfl rfl 3 (by decide) (hts (.fieldLink RX4 29 "FavourRings" "rings" "LFavourRings$Rings;") (List.mem_of_getElem? (i := 2) rfl)) (fun _ h9 => h9) rfl dX4_ring_31 ?_
        obtain ⟨u6, eu6, h⟩ := bd_in h
        refine kI (va_runV (As := []) (rest := [.int p2]) ⟨hx, hb, hml, hown, hts⟩ (c_X3_nextLength l D cA cQ adR u4.2 u6 eu6 _) (cwV 0 hts gX4_ring_X3_nextLength rfl rfl rfl (by decide +kernel) ⟨Nat.le_of_ble_eq_true rfl, Nat.le_of_ble_eq_true rfl⟩) (pV (ci := 3) (q := (RX3, TX3, 5)) hK hN hP hD [87, 88, 89, 90, 91] rfl rfl rfl rfl) rfl rfl hl.1 rfl (lv_room (Nat.le_of_ble_eq_true rfl)) dX4_ring_34 ⟨Nat.zero_le _, Nat.zero_le _⟩) hP hD hS hA [87, 88, 89, 90, 91] rfl rfl (ws' := (wF cA cQ adF adB adT adH kH adR adO vB vT vH bH u4.2 vO)) rfl (fun H locs hP hD hS => ?_)
        refine lv_icmp_lt (tgt := 43) hx hb dX4_ring_37 (by decide) (fun c7 => ?_) (fun c7 => ?_)
        · have h := (if_pos c7).symm.trans h
          refine lv_aload_n hx hb dX4_ring_43 rfl (lv_at hl 0 rfl) ?_
          refine va_get (D := D) (ci := 4) (v := .ref (adR 0)) (C := RX4) (T := TX4) (N := 5) hx hb hts iw_X4_ring_X4 hown hK hP 0 rfl rfl 3 (by decide) (hts (.fieldLink RX4 29 "FavourRings" "rings" "LFavourRings$Rings;") (List.mem_of_getElem? (i := 2) rfl)) (fun _ h9 => h9) rfl dX4_ring_44 ?_
          refine lv_iload_n hx hb dX4_ring_47 rfl (lv_at hl 2 rfl) ?_
          obtain ⟨u8, eu8, h⟩ := bd_in h
          refine kI (va_runV (As := [.int p2]) (rest := []) ⟨hx, hb, hml, hown, hts⟩ (c_X3_nextPupil l D cA cQ adR u4.2 p2 u8 eu8 _) (cwV 1 hts gX4_ring_X3_nextPupil rfl rfl rfl (by decide +kernel) ⟨Nat.le_of_ble_eq_true rfl, Nat.le_of_ble_eq_true rfl⟩) (pV (ci := 3) (q := (RX3, TX3, 5)) hK hN hP hD [87, 88, 89, 90, 91] rfl rfl rfl rfl) rfl rfl hl.1 rfl (lv_room (Nat.le_of_ble_eq_true rfl)) dX4_ring_48 ⟨Nat.zero_le _, Nat.zero_le _⟩) hP hD hS hA [87, 88, 89, 90, 91] rfl rfl (ws' := (wF cA cQ adF adB adT adH kH adR adO vB vT vH bH u4.2 vO)) rfl (fun H locs hP hD hS => ?_)
          cases h
          exact endI hx hb hr hlocks hP hS rfl dX4_ring_51
        · have h := (if_neg c7).symm.trans h
          refine lv_ldc (v := (-1000004 : Int32)) hx hb hown (hts (.constant RX4 98 (-1000004)) (List.mem_of_getElem? (i := 4) rfl)) dX4_ring_40 ?_
          cases h
          exact endI hx hb hr hlocks hP hS rfl dX4_ring_42
    · have h := (if_neg c3).symm.trans h
      refine lv_ldc (v := (-1000001 : Int32)) hx hb hown (hts (.constant RX4 81 (-1000001)) (List.mem_of_getElem? (i := 1) rfl)) dX4_ring_11 ?_
      cases h
      exact endI hx hb hr hlocks hP hS rfl dX4_ring_13
set_option maxHeartbeats 4000000 in
set_option maxRecDepth 100000 in
theorem c_X4_set (l : Launch) (D : va_G) (cA cQ : ClassId) (adF : Nat) (adB : Nat → Nat) (adT : Nat → Nat) (adH : Nat → Nat) (kH : Nat → Nat → Nat) (adR : Nat → Nat) (adO : Nat → Nat) (vB : St) (vT : St) (vH : St) (bH : Nat → St) (vR : St) (vO : St) (p1 : Int32) (p2 : Int32) (o : Int32 × St × St × St × (Nat → St)) (hf : X4_set vB vT vH bH vR vO p1 p2 = some o) : Cti l yX4_set wsX4_set ({ frames := 6, cells := 0, slots := 0, locals := 165 }) D (TY cA cQ) [.ref adF, .int p1, .int p2] (wF cA cQ adF adB adT adH kH adR adO vB vT vH bH vR vO) (wF cA cQ adF adB adT adH kH adR adO o.2.1 o.2.2.1 o.2.2.2.1 o.2.2.2.2 vR vO) o.1 := by
  refine Wk.i (cc := cX4_set) (maxL := 3) (ret := (some .int)) (by decide) rfl (Nat.le_of_ble_eq_true rfl) ?_
  intro p e s m below meth c A ls hx hb hr hlocks hml hown hts hK hN hP hD hA hl
  have hown : s.vm.findClass RX4 = some m.cls := hown
  have hS : va_S A s.heap s.heap [] := va_S.rf
  have hl : lv_has ls 3 [(0, .ref adF), (1, .int p1), (2, .int p2)] := hl
  have h := hf
  unfold X4_set at h
  refine lv_aload_n hx hb dX4_set_0 rfl (lv_at hl 0 rfl) ?_
  refine lv_aload_n hx hb dX4_set_1 rfl (lv_at hl 0 rfl) ?_
  obtain ⟨u1, eu1, h⟩ := bd_in h
  refine kR (va_runV (As := []) (rest := [.ref adF]) ⟨hx, hb, hml, hown, hts⟩ (c_X4_freshTrial l D cA cQ adF adB adT adH kH adR adO vB vT vH bH vR vO u1 eu1 _) (cwV 0 hts gX4_set_X4_freshTrial rfl rfl rfl (by decide +kernel) ⟨Nat.le_of_ble_eq_true rfl, Nat.le_of_ble_eq_true rfl⟩) (pV (ci := 4) (q := (RX4, TX4, 5)) hK hN hP hD [0, 1, 2, 3, 4, 5, 6, 7, 8, 9, 10, 11, 12, 13, 14, 15, 16, 17, 18, 19, 20, 21, 22, 23, 24, 25, 26, 27, 28, 29, 30, 31, 32, 33, 34, 35, 36, 37, 38, 39, 40, 41, 42, 43, 44, 45, 46, 47, 48, 49, 50, 51, 52, 53, 54, 55, 56, 57, 58, 59, 60, 61, 62, 63, 64, 65, 66, 67, 68, 69, 70, 71, 72, 73, 74, 75, 76, 77, 78, 79, 80, 81, 82, 83, 84, 85, 86, 87, 88, 89, 90, 91, 92, 93, 94] rfl rfl rfl rfl) rfl rfl hl.1 rfl (lv_room (Nat.le_of_ble_eq_true rfl)) dX4_set_2 ⟨Nat.zero_le _, Nat.zero_le _⟩) hP hD hS hA [0, 1, 2, 3, 4, 5, 6, 7, 8, 9, 10, 11, 12, 13, 14, 15, 16, 17, 18, 19, 20, 21, 22, 23, 24, 25, 26, 27, 28, 29, 30, 31, 32, 33, 34, 35, 36, 37, 38, 39, 40, 41, 42, 43, 44, 45, 46, 47, 48, 49, 50, 51, 52, 53, 54, 55, 56, 57, 58, 59, 60, 61, 62, 63, 64, 65, 66, 67, 68, 69, 70, 71, 72, 73, 74, 75, 76, 77, 78, 79, 80, 81, 82, 83, 84, 85, 86, 87, 88, 89, 90, 91, 92, 93, 94] rfl rfl (ws' := (wF cA cQ adF adB adT adH kH adR adO vB u1 vH bH vR vO)) rfl (fun H locs hP hD hS => ?_)
  refine lv_iload_n hx hb dX4_set_5 rfl (lv_at hl 1 rfl) ?_
  refine lv_iload_n hx hb dX4_set_6 rfl (lv_at hl 2 rfl) ?_
  obtain ⟨u2, eu2, h⟩ := bd_in h
  refine kI (va_runV (As := [.int p1, .int p2]) (rest := [.ref adF]) ⟨hx, hb, hml, hown, hts⟩ (c_X0_changeSetting l D cA cQ adT u1 p1 p2 u2 eu2 _) (cwV 2 hts gX4_set_X0_changeSetting rfl rfl rfl (by decide +kernel) ⟨Nat.le_of_ble_eq_true rfl, Nat.le_of_ble_eq_true rfl⟩) (pV (ci := 0) (q := (RX0, TX0, 13)) hK hN hP hD [15, 16, 17, 18, 19, 20, 21, 22, 23, 24, 25, 26, 27, 28] rfl rfl rfl rfl) rfl rfl hl.1 rfl (lv_room (Nat.le_of_ble_eq_true rfl)) dX4_set_7 ⟨Nat.zero_le _, Nat.zero_le _⟩) hP hD hS hA [15, 16, 17, 18, 19, 20, 21, 22, 23, 24, 25, 26, 27, 28] rfl rfl (ws' := (wF cA cQ adF adB adT adH kH adR adO vB u2.2 vH bH vR vO)) rfl (fun H locs hP hD hS => ?_)
  obtain ⟨u3, eu3, h⟩ := bd_in h
  refine kI (va_runV (As := [.int u2.1]) (rest := []) ⟨hx, hb, hml, hown, hts⟩ (c_X4_settled l D cA cQ adF adB adT adH kH adR adO vB u2.2 vH bH vR vO u2.1 u3 eu3 _) (cwV 1 hts gX4_set_X4_settled rfl rfl rfl (by decide +kernel) ⟨Nat.le_of_ble_eq_true rfl, Nat.le_of_ble_eq_true rfl⟩) (pV (ci := 4) (q := (RX4, TX4, 5)) hK hN hP hD [0, 1, 2, 3, 4, 5, 6, 7, 8, 9, 10, 11, 12, 13, 14, 15, 16, 17, 18, 19, 20, 21, 22, 23, 24, 25, 26, 27, 28, 29, 30, 31, 32, 33, 34, 35, 36, 37, 38, 39, 40, 41, 42, 43, 44, 45, 46, 47, 48, 49, 50, 51, 52, 53, 54, 55, 56, 57, 58, 59, 60, 61, 62, 63, 64, 65, 66, 67, 68, 69, 70, 71, 72, 73, 74, 75, 76, 77, 78, 79, 80, 81, 82, 83, 84, 85, 86, 87, 88, 89, 90, 91, 92, 93, 94] rfl rfl rfl rfl) rfl rfl hl.1 rfl (lv_room (Nat.le_of_ble_eq_true rfl)) dX4_set_10 ⟨Nat.zero_le _, Nat.zero_le _⟩) hP hD hS hA [0, 1, 2, 3, 4, 5, 6, 7, 8, 9, 10, 11, 12, 13, 14, 15, 16, 17, 18, 19, 20, 21, 22, 23, 24, 25, 26, 27, 28, 29, 30, 31, 32, 33, 34, 35, 36, 37, 38, 39, 40, 41, 42, 43, 44, 45, 46, 47, 48, 49, 50, 51, 52, 53, 54, 55, 56, 57, 58, 59, 60, 61, 62, 63, 64, 65, 66, 67, 68, 69, 70, 71, 72, 73, 74, 75, 76, 77, 78, 79, 80, 81, 82, 83, 84, 85, 86, 87, 88, 89, 90, 91, 92, 93, 94] rfl rfl (ws' := (wF cA cQ adF adB adT adH kH adR adO u3.2.1 u2.2 u3.2.2.1 u3.2.2.2 vR vO)) rfl (fun H locs hP hD hS => ?_)
  cases h
  exact endI hx hb hr hlocks hP hS rfl dX4_set_13
theorem iw_X4_spoilsIn_X4 : ∀ w ∈ wsX40, w ∈ wsX4_spoilsIn := fun _ h => List.mem_cons_of_mem _ (List.mem_append_left _ (List.mem_append_right _ (h)))
set_option maxHeartbeats 4000000 in
set_option maxRecDepth 100000 in
theorem c_X4_spoilsIn (l : Launch) (D : va_G) (cA cQ : ClassId) (adF : Nat) (adB : Nat → Nat) (adT : Nat → Nat) (adH : Nat → Nat) (kH : Nat → Nat → Nat) (adR : Nat → Nat) (adO : Nat → Nat) (vB : St) (vT : St) (vH : St) (bH : Nat → St) (vR : St) (vO : St) (p1 : Int32) (o : Int32) (hf : X4_spoilsIn vB vT vH bH vR vO p1 = some o) : Cti l yX4_spoilsIn wsX4_spoilsIn ({ frames := 3, cells := 0, slots := 0, locals := 66 }) D (TY cA cQ) [.ref adF, .int p1] (wF cA cQ adF adB adT adH kH adR adO vB vT vH bH vR vO) (wF cA cQ adF adB adT adH kH adR adO vB vT vH bH vR vO) o := by
  refine Wk.i (cc := cX4_spoilsIn) (maxL := 3) (ret := (some .int)) (by decide) rfl (Nat.le_of_ble_eq_true rfl) ?_
  intro p e s m below meth c A ls hx hb hr hlocks hml hown hts hK hN hP hD hA hl
  have hown : s.vm.findClass RX4 = some m.cls := hown
  have hS : va_S A s.heap s.heap [] := va_S.rf
  have hl : lv_has ls 3 [(0, .ref adF), (1, .int p1)] := hl
  have h := hf
  unfold X4_spoilsIn at h
  refine lv_aload_n hx hb dX4_spoilsIn_0 rfl (lv_at hl 0 rfl) ?_
  refine va_get (D := D) (ci := 4) (v := .ref (adB 0)) (C := RX4) (T := TX4) (N := 5) hx hb hts iw_X4_spoilsIn_X4 hown hK hP 0 rfl rfl 0 (by decide) (hts (.fieldLink RX4 10 "FavourRings" "bank" "LFavourRings$Bank;") (List.mem_of_getElem? (i := 1) rfl)) (fun _ h9 => h9) rfl dX4_spoilsIn_1 ?_
  refine lv_iload_n hx hb dX4_spoilsIn_4 rfl (lv_at hl 1 rfl) ?_
  obtain ⟨u1, eu1, h⟩ := bd_in h
  refine kI (va_runV (As := [.int p1]) (rest := []) ⟨hx, hb, hml, hown, hts⟩ (c_X0_isPupil l D cA cQ adB vB p1 u1 eu1 _) (cwV 1 hts gX4_spoilsIn_X0_isPupil rfl rfl rfl (by decide +kernel) ⟨Nat.le_of_ble_eq_true rfl, Nat.le_of_ble_eq_true rfl⟩) (pV (ci := 0) (q := (RX0, TX0, 13)) hK hN hP hD [1, 2, 3, 4, 5, 6, 7, 8, 9, 10, 11, 12, 13, 14] rfl rfl rfl rfl) rfl rfl hl.1 rfl (lv_room (Nat.le_of_ble_eq_true rfl)) dX4_spoilsIn_5 ⟨Nat.zero_le _, Nat.zero_le _⟩) hP hD hS hA [1, 2, 3, 4, 5, 6, 7, 8, 9, 10, 11, 12, 13, 14] rfl rfl (ws' := (wF cA cQ adF adB adT adH kH adR adO vB vT vH bH vR vO)) rfl (fun H locs hP hD hS => ?_)
  refine lv_if_ne (tgt := 14) hx hb dX4_spoilsIn_8 (by decide) (fun c2 => ?_) (fun c2 => ?_)
  · have h := (if_neg c2).symm.trans h
    refine lv_aload_n hx hb dX4_spoilsIn_14 rfl (lv_at hl 0 rfl) ?_
    refine va_get (D := D) (ci := 4) (v := .ref (adB 0)) (C := RX4) (T := TX4) (N := 5) hx hb hts iw_X4_spoilsIn_X4 hown hK hP 0 rfl rfl 0 (by decide) (hts (.fieldLink RX4 10 "FavourRings" "bank" "LFavourRings$Bank;") (List.mem_of_getElem? (i := 1) rfl)) (fun _ h9 => h9) rfl dX4_spoilsIn_15 ?_
    refine lv_iload_n hx hb dX4_spoilsIn_18 rfl (lv_at hl 1 rfl) ?_
    obtain ⟨u3, eu3, h⟩ := bd_in h
    refine kI (va_runV (As := [.int p1]) (rest := []) ⟨hx, hb, hml, hown, hts⟩ (c_X0_weeksUntilNextSpoils l D cA cQ adB vB p1 u3 eu3 _) (cwV 1 hts gX4_spoilsIn_X0_weeksUntilNextSpoils rfl rfl rfl (by decide +kernel) ⟨Nat.le_of_ble_eq_true rfl, Nat.le_of_ble_eq_true rfl⟩) (pV (ci := 0) (q := (RX0, TX0, 13)) hK hN hP hD [1, 2, 3, 4, 5, 6, 7, 8, 9, 10, 11, 12, 13, 14] rfl rfl rfl rfl) rfl rfl hl.1 rfl (lv_room (Nat.le_of_ble_eq_true rfl)) dX4_spoilsIn_19 ⟨Nat.zero_le _, Nat.zero_le _⟩) hP hD hS hA [1, 2, 3, 4, 5, 6, 7, 8, 9, 10, 11, 12, 13, 14] rfl rfl (ws' := (wF cA cQ adF adB adT adH kH adR adO vB vT vH bH vR vO)) rfl (fun H locs hP hD hS => ?_)
    refine lv_istore_n (lv' := [(2, .int u3), (0, .ref adF), (1, .int p1)]) hx hb dX4_spoilsIn_22 rfl hl (by decide) rfl (fun ls hl => ?_)
    refine lv_iload_n hx hb dX4_spoilsIn_23 rfl (lv_at hl 0 rfl) ?_
    refine lv_if_le (tgt := 31) hx hb dX4_spoilsIn_24 (by decide) (fun c4 => ?_) (fun c4 => ?_)
    · have h := (if_pos c4).symm.trans h
      refine lv_ldc (v := (-1000004 : Int32)) hx hb hown (hts (.constant RX4 98 (-1000004)) (List.mem_of_getElem? (i := 3) rfl)) dX4_spoilsIn_31 ?_
      cases h
      exact endI hx hb hr hlocks hP hS rfl dX4_spoilsIn_33
    · have h := (if_neg c4).symm.trans h
      refine lv_iload_n hx hb dX4_spoilsIn_27 rfl (lv_at hl 0 rfl) ?_
      refine lv_goto (tgt := 33) hx hb dX4_spoilsIn_28 (by decide) ?_
      cases h
      exact endI hx hb hr hlocks hP hS rfl dX4_spoilsIn_33
  · have h := (if_pos c2).symm.trans h
    refine lv_ldc (v := (-1000001 : Int32)) hx hb hown (hts (.constant RX4 81 (-1000001)) (List.mem_of_getElem? (i := 2) rfl)) dX4_spoilsIn_11 ?_
    cases h
    exact endI hx hb hr hlocks hP hS rfl dX4_spoilsIn_13
theorem iw_X4_type_X4 : ∀ w ∈ wsX40, w ∈ wsX4_type := fun _ h => List.mem_cons_of_mem _ (List.mem_append_left _ (List.mem_append_right _ (h)))
set_option maxHeartbeats 4000000 in
set_option maxRecDepth 100000 in
theorem c_X4_type (l : Launch) (D : va_G) (cA cQ : ClassId) (adF : Nat) (adB : Nat → Nat) (adT : Nat → Nat) (adH : Nat → Nat) (kH : Nat → Nat → Nat) (adR : Nat → Nat) (adO : Nat → Nat) (vB : St) (vT : St) (vH : St) (bH : Nat → St) (vR : St) (vO : St) (p1 : Int32) (o : Int32 × St) (hf : X4_type vB vT vH bH vR vO p1 = some o) : Cti l yX4_type wsX4_type ({ frames := 2, cells := 0, slots := 0, locals := 43 }) D (TY cA cQ) [.ref adF, .int p1] (wF cA cQ adF adB adT adH kH adR adO vB vT vH bH vR vO) (wF cA cQ adF adB adT adH kH adR adO vB vT vH bH vR o.2) o.1 := by
  refine Wk.i (cc := cX4_type) (maxL := 2) (ret := (some .int)) (by decide) rfl (Nat.le_of_ble_eq_true rfl) ?_
  intro p e s m below meth c A ls hx hb hr hlocks hml hown hts hK hN hP hD hA hl
  have hown : s.vm.findClass RX4 = some m.cls := hown
  have hS : va_S A s.heap s.heap [] := va_S.rf
  have hl : lv_has ls 2 [(0, .ref adF), (1, .int p1)] := hl
  have h := hf
  unfold X4_type at h
  refine lv_aload_n hx hb dX4_type_0 rfl (lv_at hl 0 rfl) ?_
  refine va_get (D := D) (ci := 4) (v := .ref (adO 0)) (C := RX4) (T := TX4) (N := 5) hx hb hts iw_X4_type_X4 hown hK hP 0 rfl rfl 4 (by decide) (hts (.fieldLink RX4 36 "FavourRings" "orders" "LFavourRings$Orders;") (List.mem_of_getElem? (i := 1) rfl)) (fun _ h9 => h9) rfl dX4_type_1 ?_
  refine lv_iload_n hx hb dX4_type_4 rfl (lv_at hl 1 rfl) ?_
  obtain ⟨u1, eu1, h⟩ := bd_in h
  refine kI (va_runV (As := [.int p1]) (rest := []) ⟨hx, hb, hml, hown, hts⟩ (c_X2_append l D cA cQ adO vO p1 u1 eu1 _) (cwV 1 hts gX4_type_X2_append rfl rfl rfl (by decide +kernel) ⟨Nat.le_of_ble_eq_true rfl, Nat.le_of_ble_eq_true rfl⟩) (pV (ci := 2) (q := (RX2, TX2, 8)) hK hN hP hD [92, 93, 94] rfl rfl rfl rfl) rfl rfl hl.1 rfl (lv_room (Nat.le_of_ble_eq_true rfl)) dX4_type_5 ⟨Nat.zero_le _, Nat.zero_le _⟩) hP hD hS hA [92, 93, 94] rfl rfl (ws' := (wF cA cQ adF adB adT adH kH adR adO vB vT vH bH vR u1.2)) rfl (fun H locs hP hD hS => ?_)
  cases h
  exact endI hx hb hr hlocks hP hS rfl dX4_type_8
theorem iw_X4_undo_X4 : ∀ w ∈ wsX40, w ∈ wsX4_undo := fun _ h => List.mem_cons_of_mem _ (List.mem_append_left _ (List.mem_append_left _ (List.mem_append_right _ (h))))
set_option maxHeartbeats 4000000 in
set_option maxRecDepth 100000 in
theorem c_X4_undo (l : Launch) (D : va_G) (cA cQ : ClassId) (adF : Nat) (adB : Nat → Nat) (adT : Nat → Nat) (adH : Nat → Nat) (kH : Nat → Nat → Nat) (adR : Nat → Nat) (adO : Nat → Nat) (vB : St) (vT : St) (vH : St) (bH : Nat → St) (vR : St) (vO : St) (o : Int32 × St × St) (hf : X4_undo vB vT vH bH vR vO = some o) : Cti l yX4_undo wsX4_undo ({ frames := 4, cells := 0, slots := 0, locals := 124 }) D (TY cA cQ) [.ref adF] (wF cA cQ adF adB adT adH kH adR adO vB vT vH bH vR vO) (wF cA cQ adF adB adT adH kH adR adO o.2.1 vT o.2.2 bH vR vO) o.1 := by
  refine Wk.i (cc := cX4_undo) (maxL := 1) (ret := (some .int)) (by decide) rfl (Nat.le_of_ble_eq_true rfl) ?_
  intro p e s m below meth c A ls hx hb hr hlocks hml hown hts hK hN hP hD hA hl
  have hown : s.vm.findClass RX4 = some m.cls := hown
  have hS : va_S A s.heap s.heap [] := va_S.rf
  have hl : lv_has ls 1 [(0, .ref adF)] := hl
  have h := hf
  unfold X4_undo at h
  refine lv_aload_n hx hb dX4_undo_0 rfl (lv_at hl 0 rfl) ?_
  refine va_get (D := D) (ci := 4) (v := .ref (adH 0)) (C := RX4) (T := TX4) (N := 5) hx hb hts iw_X4_undo_X4 hown hK hP 0 rfl rfl 2 (by decide) (hts (.fieldLink RX4 22 "FavourRings" "history" "LFavourRings$History;") (List.mem_of_getElem? (i := 1) rfl)) (fun _ h9 => h9) rfl dX4_undo_1 ?_
  refine lv_aload_n hx hb dX4_undo_4 rfl (lv_at hl 0 rfl) ?_
  refine va_get (D := D) (ci := 4) (v := .ref (adB 0)) (C := RX4) (T := TX4) (N := 5) hx hb hts iw_X4_undo_X4 hown hK hP 0 rfl rfl 0 (by decide) (hts (.fieldLink RX4 10 "FavourRings" "bank" "LFavourRings$Bank;") (List.mem_of_getElem? (i := 2) rfl)) (fun _ h9 => h9) rfl dX4_undo_5 ?_
  obtain ⟨u1, eu1, h⟩ := bd_in h
  refine kI (va_runV (As := [.ref (adB 0)]) (rest := []) ⟨hx, hb, hml, hown, hts⟩ (c_X1_restoreLatest l D cA cQ adH kH adB vH bH vB u1 eu1 _) (cwV 1 hts gX4_undo_X1_restoreLatest rfl rfl rfl (by decide +kernel) ⟨Nat.le_of_ble_eq_true rfl, Nat.le_of_ble_eq_true rfl⟩) (pV (ci := 1) (q := (RX1, TX1, 2)) hK hN hP hD [29, 30, 31, 32, 33, 34, 35, 36, 37, 38, 39, 40, 41, 42, 43, 44, 45, 46, 47, 48, 49, 50, 51, 52, 53, 54, 55, 56, 57, 58, 59, 60, 61, 62, 63, 64, 65, 66, 67, 68, 69, 70, 71, 72, 73, 74, 75, 76, 77, 78, 79, 80, 81, 82, 83, 84, 85, 86, 1, 2, 3, 4, 5, 6, 7, 8, 9, 10, 11, 12, 13, 14] rfl rfl rfl rfl) rfl rfl hl.1 rfl (lv_room (Nat.le_of_ble_eq_true rfl)) dX4_undo_8 ⟨Nat.zero_le _, Nat.zero_le _⟩) hP hD hS hA [29, 30, 31, 32, 33, 34, 35, 36, 37, 38, 39, 40, 41, 42, 43, 44, 45, 46, 47, 48, 49, 50, 51, 52, 53, 54, 55, 56, 57, 58, 59, 60, 61, 62, 63, 64, 65, 66, 67, 68, 69, 70, 71, 72, 73, 74, 75, 76, 77, 78, 79, 80, 81, 82, 83, 84, 85, 86, 1, 2, 3, 4, 5, 6, 7, 8, 9, 10, 11, 12, 13, 14] rfl rfl (ws' := (wF cA cQ adF adB adT adH kH adR adO u1.2.2 vT u1.2.1 bH vR vO)) rfl (fun H locs hP hD hS => ?_)
  cases h
  exact endI hx hb hr hlocks hP hS rfl dX4_undo_11
set_option maxHeartbeats 4000000 in
set_option maxRecDepth 100000 in
theorem c_X4_weeks (l : Launch) (D : va_G) (cA cQ : ClassId) (adF : Nat) (adB : Nat → Nat) (adT : Nat → Nat) (adH : Nat → Nat) (kH : Nat → Nat → Nat) (adR : Nat → Nat) (adO : Nat → Nat) (vB : St) (vT : St) (vH : St) (bH : Nat → St) (vR : St) (vO : St) (p1 : Int32) (o : Int32 × St × St × St × (Nat → St)) (hf : X4_weeks vB vT vH bH vR vO p1 = some o) : Cti l yX4_weeks wsX4_weeks ({ frames := 6, cells := 0, slots := 0, locals := 165 }) D (TY cA cQ) [.ref adF, .int p1] (wF cA cQ adF adB adT adH kH adR adO vB vT vH bH vR vO) (wF cA cQ adF adB adT adH kH adR adO o.2.1 o.2.2.1 o.2.2.2.1 o.2.2.2.2 vR vO) o.1 := by
  refine Wk.i (cc := cX4_weeks) (maxL := 2) (ret := (some .int)) (by decide) rfl (Nat.le_of_ble_eq_true rfl) ?_
  intro p e s m below meth c A ls hx hb hr hlocks hml hown hts hK hN hP hD hA hl
  have hown : s.vm.findClass RX4 = some m.cls := hown
  have hS : va_S A s.heap s.heap [] := va_S.rf
  have hl : lv_has ls 2 [(0, .ref adF), (1, .int p1)] := hl
  have h := hf
  unfold X4_weeks at h
  refine lv_aload_n hx hb dX4_weeks_0 rfl (lv_at hl 0 rfl) ?_
  refine lv_aload_n hx hb dX4_weeks_1 rfl (lv_at hl 0 rfl) ?_
  obtain ⟨u1, eu1, h⟩ := bd_in h
  refine kR (va_runV (As := []) (rest := [.ref adF]) ⟨hx, hb, hml, hown, hts⟩ (c_X4_freshTrial l D cA cQ adF adB adT adH kH adR adO vB vT vH bH vR vO u1 eu1 _) (cwV 0 hts gX4_weeks_X4_freshTrial rfl rfl rfl (by decide +kernel) ⟨Nat.le_of_ble_eq_true rfl, Nat.le_of_ble_eq_true rfl⟩) (pV (ci := 4) (q := (RX4, TX4, 5)) hK hN hP hD [0, 1, 2, 3, 4, 5, 6, 7, 8, 9, 10, 11, 12, 13, 14, 15, 16, 17, 18, 19, 20, 21, 22, 23, 24, 25, 26, 27, 28, 29, 30, 31, 32, 33, 34, 35, 36, 37, 38, 39, 40, 41, 42, 43, 44, 45, 46, 47, 48, 49, 50, 51, 52, 53, 54, 55, 56, 57, 58, 59, 60, 61, 62, 63, 64, 65, 66, 67, 68, 69, 70, 71, 72, 73, 74, 75, 76, 77, 78, 79, 80, 81, 82, 83, 84, 85, 86, 87, 88, 89, 90, 91, 92, 93, 94] rfl rfl rfl rfl) rfl rfl hl.1 rfl (lv_room (Nat.le_of_ble_eq_true rfl)) dX4_weeks_2 ⟨Nat.zero_le _, Nat.zero_le _⟩) hP hD hS hA [0, 1, 2, 3, 4, 5, 6, 7, 8, 9, 10, 11, 12, 13, 14, 15, 16, 17, 18, 19, 20, 21, 22, 23, 24, 25, 26, 27, 28, 29, 30, 31, 32, 33, 34, 35, 36, 37, 38, 39, 40, 41, 42, 43, 44, 45, 46, 47, 48, 49, 50, 51, 52, 53, 54, 55, 56, 57, 58, 59, 60, 61, 62, 63, 64, 65, 66, 67, 68, 69, 70, 71, 72, 73, 74, 75, 76, 77, 78, 79, 80, 81, 82, 83, 84, 85, 86, 87, 88, 89, 90, 91, 92, 93, 94] rfl rfl (ws' := (wF cA cQ adF adB adT adH kH adR adO vB u1 vH bH vR vO)) rfl (fun H locs hP hD hS => ?_)
  refine lv_iload_n hx hb dX4_weeks_5 rfl (lv_at hl 1 rfl) ?_
  obtain ⟨u2, eu2, h⟩ := bd_in h
  refine kI (va_runV (As := [.int p1]) (rest := [.ref adF]) ⟨hx, hb, hml, hown, hts⟩ (c_X0_endWeeks l D cA cQ adT u1 p1 u2 eu2 _) (cwV 1 hts gX4_weeks_X0_endWeeks rfl rfl rfl (by decide +kernel) ⟨Nat.le_of_ble_eq_true rfl, Nat.le_of_ble_eq_true rfl⟩) (pV (ci := 0) (q := (RX0, TX0, 13)) hK hN hP hD [15, 16, 17, 18, 19, 20, 21, 22, 23, 24, 25, 26, 27, 28] rfl rfl rfl rfl) rfl rfl hl.1 rfl (lv_room (Nat.le_of_ble_eq_true rfl)) dX4_weeks_6 ⟨Nat.zero_le _, Nat.zero_le _⟩) hP hD hS hA [15, 16, 17, 18, 19, 20, 21, 22, 23, 24, 25, 26, 27, 28] rfl rfl (ws' := (wF cA cQ adF adB adT adH kH adR adO vB u2.2 vH bH vR vO)) rfl (fun H locs hP hD hS => ?_)
  obtain ⟨u3, eu3, h⟩ := bd_in h
  refine kI (va_runV (As := [.int u2.1]) (rest := []) ⟨hx, hb, hml, hown, hts⟩ (c_X4_settled l D cA cQ adF adB adT adH kH adR adO vB u2.2 vH bH vR vO u2.1 u3 eu3 _) (cwV 1 hts gX4_weeks_X4_settled rfl rfl rfl (by decide +kernel) ⟨Nat.le_of_ble_eq_true rfl, Nat.le_of_ble_eq_true rfl⟩) (pV (ci := 4) (q := (RX4, TX4, 5)) hK hN hP hD [0, 1, 2, 3, 4, 5, 6, 7, 8, 9, 10, 11, 12, 13, 14, 15, 16, 17, 18, 19, 20, 21, 22, 23, 24, 25, 26, 27, 28, 29, 30, 31, 32, 33, 34, 35, 36, 37, 38, 39, 40, 41, 42, 43, 44, 45, 46, 47, 48, 49, 50, 51, 52, 53, 54, 55, 56, 57, 58, 59, 60, 61, 62, 63, 64, 65, 66, 67, 68, 69, 70, 71, 72, 73, 74, 75, 76, 77, 78, 79, 80, 81, 82, 83, 84, 85, 86, 87, 88, 89, 90, 91, 92, 93, 94] rfl rfl rfl rfl) rfl rfl hl.1 rfl (lv_room (Nat.le_of_ble_eq_true rfl)) dX4_weeks_9 ⟨Nat.zero_le _, Nat.zero_le _⟩) hP hD hS hA [0, 1, 2, 3, 4, 5, 6, 7, 8, 9, 10, 11, 12, 13, 14, 15, 16, 17, 18, 19, 20, 21, 22, 23, 24, 25, 26, 27, 28, 29, 30, 31, 32, 33, 34, 35, 36, 37, 38, 39, 40, 41, 42, 43, 44, 45, 46, 47, 48, 49, 50, 51, 52, 53, 54, 55, 56, 57, 58, 59, 60, 61, 62, 63, 64, 65, 66, 67, 68, 69, 70, 71, 72, 73, 74, 75, 76, 77, 78, 79, 80, 81, 82, 83, 84, 85, 86, 87, 88, 89, 90, 91, 92, 93, 94] rfl rfl (ws' := (wF cA cQ adF adB adT adH kH adR adO u3.2.1 u2.2 u3.2.2.1 u3.2.2.2 vR vO)) rfl (fun H locs hP hD hS => ?_)
  cases h
  exact endI hx hb hr hlocks hP hS rfl dX4_weeks_12
theorem iw_X4_why_X4 : ∀ w ∈ wsX40, w ∈ wsX4_why := fun _ h => List.mem_cons_of_mem _ (List.mem_append_left _ (List.mem_append_right _ (h)))
set_option maxHeartbeats 4000000 in
set_option maxRecDepth 100000 in
theorem c_X4_why (l : Launch) (D : va_G) (cA cQ : ClassId) (adF : Nat) (adB : Nat → Nat) (adT : Nat → Nat) (adH : Nat → Nat) (kH : Nat → Nat → Nat) (adR : Nat → Nat) (adO : Nat → Nat) (vB : St) (vT : St) (vH : St) (bH : Nat → St) (vR : St) (vO : St) (p1 : Int32) (p2 : Int32) (o : Int32) (hf : X4_why vB vT vH bH vR vO p1 p2 = some o) : Cti l yX4_why wsX4_why ({ frames := 3, cells := 0, slots := 0, locals := 72 }) D (TY cA cQ) [.ref adF, .int p1, .int p2] (wF cA cQ adF adB adT adH kH adR adO vB vT vH bH vR vO) (wF cA cQ adF adB adT adH kH adR adO vB vT vH bH vR vO) o := by
  refine Wk.i (cc := cX4_why) (maxL := 3) (ret := (some .int)) (by decide) rfl (Nat.le_of_ble_eq_true rfl) ?_
  intro p e s m below meth c A ls hx hb hr hlocks hml hown hts hK hN hP hD hA hl
  have hown : s.vm.findClass RX4 = some m.cls := hown
  have hS : va_S A s.heap s.heap [] := va_S.rf
  have hl : lv_has ls 3 [(0, .ref adF), (1, .int p1), (2, .int p2)] := hl
  have h := hf
  unfold X4_why at h
  refine lv_aload_n hx hb dX4_why_0 rfl (lv_at hl 0 rfl) ?_
  refine va_get (D := D) (ci := 4) (v := .ref (adB 0)) (C := RX4) (T := TX4) (N := 5) hx hb hts iw_X4_why_X4 hown hK hP 0 rfl rfl 0 (by decide) (hts (.fieldLink RX4 10 "FavourRings" "bank" "LFavourRings$Bank;") (List.mem_of_getElem? (i := 1) rfl)) (fun _ h9 => h9) rfl dX4_why_1 ?_
  refine lv_iload_n hx hb dX4_why_4 rfl (lv_at hl 1 rfl) ?_
  obtain ⟨u1, eu1, h⟩ := bd_in h
  refine kI (va_runV (As := [.int p1]) (rest := []) ⟨hx, hb, hml, hown, hts⟩ (c_X0_isPupil l D cA cQ adB vB p1 u1 eu1 _) (cwV 1 hts gX4_why_X0_isPupil rfl rfl rfl (by decide +kernel) ⟨Nat.le_of_ble_eq_true rfl, Nat.le_of_ble_eq_true rfl⟩) (pV (ci := 0) (q := (RX0, TX0, 13)) hK hN hP hD [1, 2, 3, 4, 5, 6, 7, 8, 9, 10, 11, 12, 13, 14] rfl rfl rfl rfl) rfl rfl hl.1 rfl (lv_room (Nat.le_of_ble_eq_true rfl)) dX4_why_5 ⟨Nat.zero_le _, Nat.zero_le _⟩) hP hD hS hA [1, 2, 3, 4, 5, 6, 7, 8, 9, 10, 11, 12, 13, 14] rfl rfl (ws' := (wF cA cQ adF adB adT adH kH adR adO vB vT vH bH vR vO)) rfl (fun H locs hP hD hS => ?_)
  refine lv_if_eq (tgt := 18) hx hb dX4_why_8 (by decide) (fun c2 => ?_) (fun c2 => ?_)
  · have h := (if_pos c2).symm.trans h
    refine lv_ldc (v := (-1000001 : Int32)) hx hb hown (hts (.constant RX4 81 (-1000001)) (List.mem_of_getElem? (i := 2) rfl)) dX4_why_18 ?_
    cases h
    exact endI hx hb hr hlocks hP hS rfl dX4_why_20
  · have h := (if_neg c2).symm.trans h
    refine lv_iload_n hx hb dX4_why_11 rfl (lv_at hl 2 rfl) ?_
    obtain ⟨u3, eu3, h⟩ := bd_in h
    refine kI (va_runS (As := [.int p2]) (rest := []) ⟨hx, hb, hml, hown, hts⟩ (c_X4_isMany l D cA cQ  p2 u3 eu3 _) (va_cwS 1 hts gX4_why_X4_isMany rfl rfl rfl (by decide +kernel) ⟨Nat.le_of_ble_eq_true rfl, Nat.le_of_ble_eq_true rfl⟩) (pS hK hN hP hD [] rfl rfl) rfl rfl hl.1 rfl (lv_room (Nat.le_of_ble_eq_true rfl)) dX4_why_12 ⟨Nat.zero_le _, Nat.zero_le _⟩) hP hD hS hA [] rfl rfl (ws' := (wF cA cQ adF adB adT adH kH adR adO vB vT vH bH vR vO)) rfl (fun H locs hP hD hS => ?_)
    refine lv_if_ne (tgt := 21) hx hb dX4_why_15 (by decide) (fun c4 => ?_) (fun c4 => ?_)
    · have h := (if_neg c4).symm.trans h
      refine lv_aload_n hx hb dX4_why_21 rfl (lv_at hl 0 rfl) ?_
      refine va_get (D := D) (ci := 4) (v := .ref (adB 0)) (C := RX4) (T := TX4) (N := 5) hx hb hts iw_X4_why_X4 hown hK hP 0 rfl rfl 0 (by decide) (hts (.fieldLink RX4 10 "FavourRings" "bank" "LFavourRings$Bank;") (List.mem_of_getElem? (i := 1) rfl)) (fun _ h9 => h9) rfl dX4_why_22 ?_
      refine lv_iload_n hx hb dX4_why_25 rfl (lv_at hl 1 rfl) ?_
      refine lv_iload_n hx hb dX4_why_26 rfl (lv_at hl 2 rfl) ?_
      obtain ⟨u5, eu5, h⟩ := bd_in h
      refine kI (va_runV (As := [.int p1, .int p2]) (rest := []) ⟨hx, hb, hml, hown, hts⟩ (c_X0_reasonAgainst l D cA cQ adB vB p1 p2 u5 eu5 _) (cwV 2 hts gX4_why_X0_reasonAgainst rfl rfl rfl (by decide +kernel) ⟨Nat.le_of_ble_eq_true rfl, Nat.le_of_ble_eq_true rfl⟩) (pV (ci := 0) (q := (RX0, TX0, 13)) hK hN hP hD [1, 2, 3, 4, 5, 6, 7, 8, 9, 10, 11, 12, 13, 14] rfl rfl rfl rfl) rfl rfl hl.1 rfl (lv_room (Nat.le_of_ble_eq_true rfl)) dX4_why_27 ⟨Nat.zero_le _, Nat.zero_le _⟩) hP hD hS hA [1, 2, 3, 4, 5, 6, 7, 8, 9, 10, 11, 12, 13, 14] rfl rfl (ws' := (wF cA cQ adF adB adT adH kH adR adO vB vT vH bH vR vO)) rfl (fun H locs hP hD hS => ?_)
      cases h
      exact endI hx hb hr hlocks hP hS rfl dX4_why_30
    · have h := (if_pos c4).symm.trans h
      refine lv_ldc (v := (-1000001 : Int32)) hx hb hown (hts (.constant RX4 81 (-1000001)) (List.mem_of_getElem? (i := 2) rfl)) dX4_why_18 ?_
      cases h
      exact endI hx hb hr hlocks hP hS rfl dX4_why_20
set_option maxHeartbeats 4000000 in
set_option maxRecDepth 100000 in
theorem c_X5_at (l : Launch) (D : va_G) (cA cQ : ClassId) (p0 : Int32) (p1 : Int32) (o : Int32) (hf : X5_at p0 p1 = some o) : Cti l yX5_at wsX5_at ({ frames := 0, cells := 0, slots := 0, locals := 0 }) D (TY cA cQ) [.int p0, .int p1] ([] : va_W) ([] : va_W) o := by
  refine Wk.i (cc := cX5_at) (maxL := 2) (ret := (some .int)) (by decide) rfl (Nat.le_of_ble_eq_true rfl) ?_
  intro p e s m below meth c A ls hx hb hr hlocks hml hown hts hK hN hP hD hA hl
  have hown : s.vm.findClass RX5 = some m.cls := hown
  have hS : va_S A s.heap s.heap [] := va_S.rf
  have hl : lv_has ls 2 [(0, .int p0), (1, .int p1)] := hl
  have h := hf
  unfold X5_at at h
  refine lv_sipush (v := (240 : Int32)) hx hb dX5_at_0 (by decide) ?_
  refine lv_bipush (v := (6 : Int32)) hx hb dX5_at_3 (by decide) ?_
  refine lv_iload_n hx hb dX5_at_5 rfl (lv_at hl 0 rfl) ?_
  refine lv_imul hx hb dX5_at_6 ?_
  refine lv_iadd hx hb dX5_at_7 ?_
  refine lv_iload_n hx hb dX5_at_8 rfl (lv_at hl 1 rfl) ?_
  refine lv_iadd hx hb dX5_at_9 ?_
  cases h
  exact endI hx hb hr hlocks hP hS rfl dX5_at_10
theorem iw_X5_alone_X5 : ∀ w ∈ wsX50, w ∈ wsX5_alone := fun _ h => List.mem_cons_of_mem _ (List.mem_append_right _ (h))
set_option maxHeartbeats 4000000 in
set_option maxRecDepth 100000 in
theorem c_X5_alone (l : Launch) (D : va_G) (cA cQ : ClassId) (adM : Nat → Nat) (vM : St) (o : Int32) (hf : X5_alone vM = some o) : Cti l yX5_alone wsX5_alone ({ frames := 1, cells := 0, slots := 0, locals := 21 }) D (TY cA cQ) [.ref (adM 0)] (wM cA adM vM) (wM cA adM vM) o := by
  refine Wk.i (cc := cX5_alone) (maxL := 3) (ret := (some .int)) (by decide) rfl (Nat.le_of_ble_eq_true rfl) ?_
  intro p e s m below meth c A ls hx hb hr hlocks hml hown hts hK hN hP hD hA hl
  have hown : s.vm.findClass RX5 = some m.cls := hown
  have hS : va_S A s.heap s.heap [] := va_S.rf
  have hl : lv_has ls 3 [(0, .ref (adM 0))] := hl
  have B4 : ∀ (fu4 : Nat) (x1 : Int32) (x2 : Int32) (H : Heap) (locs : List Loc) (ls : Array Slot), X5_alone_l4 vM fu4 x1 x2 = some o → va_P D vwCl (wM cA adM vM) H → va_D A (wM cA adM vM) → va_S A s.heap H locs → lv_has ls 3 [(0, .ref (adM 0)), (1, .int x1), (2, .int x2)] → W p l e (headSpec wsX5_alone ({ frames := 1, cells := 0, slots := 0, locals := 21 })).room s m ([.ref (adM 0)] : List Value).toArray below meth c H locs 0 0 (MQ below (QI D (wM cA adM vM) o A) ([.ref (adM 0)] : List Value).toArray s 0 0 A) (F0 m 4 ls []) := by
    intro fu4
    induction fu4 with
    | zero =>
      intro x1 x2 H locs ls h hP hD hS hl
      cases h
    | succ fu4 ih4 =>
      intro x1 x2 H locs ls h hP hD hS hl
      rw [X5_alone_l4] at h
      refine lv_iload_n hx hb dX5_alone_4 rfl (lv_at hl 2 rfl) ?_
      refine lv_aload_n hx hb dX5_alone_5 rfl (lv_at hl 0 rfl) ?_
      refine va_get (D := D) (ci := 5) (v := .ref (adM 1)) (C := RX5) (T := TX5) (N := 18) hx hb hts iw_X5_alone_X5 hown hK hP 0 rfl rfl 0 (by decide) (hts (.fieldLink RX5 7 "FavourRingsModel" "s" "[I") (List.mem_of_getElem? (i := 1) rfl)) (fun _ h9 => h9) rfl dX5_alone_6 ?_
      refine lv_sipush (v := (289 : Int32)) hx hb dX5_alone_9 (by decide) ?_
      obtain ⟨y1, ey1, h⟩ := bd_in h
      refine ldR hx hb hK hP 1 0 rfl rfl ey1 dX5_alone_12 ?_
      refine lv_icmp_ge (tgt := 45) hx hb dX5_alone_13 (by decide) (fun c2 => ?_) (fun c2 => ?_)
      · have h := (if_pos c2).symm.trans h
        refine lv_iload_n hx hb dX5_alone_45 rfl (lv_at hl 1 rfl) ?_
        cases h
        exact endI hx hb hr hlocks hP hS rfl dX5_alone_46
      · have h := (if_neg c2).symm.trans h
        refine lv_iload_n hx hb dX5_alone_16 rfl (lv_at hl 1 rfl) ?_
        refine lv_aload_n hx hb dX5_alone_17 rfl (lv_at hl 0 rfl) ?_
        refine va_get (D := D) (ci := 5) (v := .ref (adM 1)) (C := RX5) (T := TX5) (N := 18) hx hb hts iw_X5_alone_X5 hown hK hP 0 rfl rfl 0 (by decide) (hts (.fieldLink RX5 7 "FavourRingsModel" "s" "[I") (List.mem_of_getElem? (i := 1) rfl)) (fun _ h9 => h9) rfl dX5_alone_18 ?_
        refine lv_iload_n hx hb dX5_alone_21 rfl (lv_at hl 2 rfl) ?_
        refine lv_iconst (v := (2 : Int32)) hx hb dX5_alone_22 (by decide) ?_
        obtain ⟨u3, eu3, h⟩ := bd_in h
        refine kI (va_runS (As := [.int x2, .int (2 : Int32)]) (rest := [.ref (adM 1), .int x1]) ⟨hx, hb, hml, hown, hts⟩ (c_X5_at l D cA cQ  x2 (2 : Int32) u3 eu3 _) (va_cwS 2 hts gX5_alone_X5_at rfl rfl rfl (by decide +kernel) ⟨Nat.le_of_ble_eq_true rfl, Nat.le_of_ble_eq_true rfl⟩) (pS hK hN hP hD [] rfl rfl) rfl rfl hl.1 rfl (lv_room (Nat.le_of_ble_eq_true rfl)) dX5_alone_23 ⟨Nat.zero_le _, Nat.zero_le _⟩) hP hD hS hA [] rfl rfl (ws' := (wM cA adM vM)) rfl (fun H locs hP hD hS => ?_)
        obtain ⟨y4, ey4, h⟩ := bd_in h
        refine ldR hx hb hK hP 1 0 rfl rfl ey4 dX5_alone_26 ?_
        refine lv_if_ne (tgt := 36) hx hb dX5_alone_27 (by decide) (fun c5 => ?_) (fun c5 => ?_)
        · have h := (if_neg c5).symm.trans h
          refine lv_iconst (v := (0 : Int32)) hx hb dX5_alone_36 (by decide) ?_
          refine lv_ior hx hb dX5_alone_37 ?_
          refine lv_istore_n (lv' := [(1, .int (x1 ||| (0 : Int32))), (0, .ref (adM 0)), (2, .int x2)]) hx hb dX5_alone_38 rfl hl (by decide) rfl (fun ls hl => ?_)
          refine lv_iinc (v := (x2 + (1 : Int32))) (lv' := [(2, .int (x2 + (1 : Int32))), (1, .int (x1 ||| (0 : Int32))), (0, .ref (adM 0))]) hx hb dX5_alone_39 hl (k := 2) rfl rfl (by decide) rfl (fun ls hl => ?_)
          refine lv_goto (tgt := 4) hx hb dX5_alone_42 (by decide) ?_
          exact ih4 (x1 ||| (0 : Int32)) (x2 + (1 : Int32)) _ _ _ h hP hD hS (lv_sub hl [2, 1, 0] rfl)
        · have h := (if_pos c5).symm.trans h
          refine lv_iconst (v := (1 : Int32)) hx hb dX5_alone_30 (by decide) ?_
          refine lv_iload_n hx hb dX5_alone_31 rfl (lv_at hl 2 rfl) ?_
          refine lv_ishl hx hb dX5_alone_32 ?_
          refine lv_goto (tgt := 37) hx hb dX5_alone_33 (by decide) ?_
          refine lv_ior hx hb dX5_alone_37 ?_
          refine lv_istore_n (lv' := [(1, .int (x1 ||| ((1 : Int32) <<< (x2 &&& 31)))), (0, .ref (adM 0)), (2, .int x2)]) hx hb dX5_alone_38 rfl hl (by decide) rfl (fun ls hl => ?_)
          refine lv_iinc (v := (x2 + (1 : Int32))) (lv' := [(2, .int (x2 + (1 : Int32))), (1, .int (x1 ||| ((1 : Int32) <<< (x2 &&& 31)))), (0, .ref (adM 0))]) hx hb dX5_alone_39 hl (k := 2) rfl rfl (by decide) rfl (fun ls hl => ?_)
          refine lv_goto (tgt := 4) hx hb dX5_alone_42 (by decide) ?_
          exact ih4 (x1 ||| ((1 : Int32) <<< (x2 &&& 31))) (x2 + (1 : Int32)) _ _ _ h hP hD hS (lv_sub hl [2, 1, 0] rfl)
  have h := hf
  unfold X5_alone at h
  refine lv_iconst (v := (0 : Int32)) hx hb dX5_alone_0 (by decide) ?_
  refine lv_istore_n (lv' := [(1, .int (0 : Int32)), (0, .ref (adM 0))]) hx hb dX5_alone_1 rfl hl (by decide) rfl (fun ls hl => ?_)
  refine lv_iconst (v := (0 : Int32)) hx hb dX5_alone_2 (by decide) ?_
  refine lv_istore_n (lv' := [(2, .int (0 : Int32)), (1, .int (0 : Int32)), (0, .ref (adM 0))]) hx hb dX5_alone_3 rfl hl (by decide) rfl (fun ls hl => ?_)
  exact B4 FU (0 : Int32) (0 : Int32) _ _ _ h hP hD hS (lv_sub hl [2, 1, 0] rfl)
set_option maxHeartbeats 4000000 in
set_option maxRecDepth 100000 in
theorem c_X5_in (l : Launch) (D : va_G) (cA cQ : ClassId) (p0 : Int32) (p1 : Int32) (p2 : Int32) (o : Int32) (hf : X5_in p0 p1 p2 = some o) : Cti l yX5_in wsX5_in ({ frames := 0, cells := 0, slots := 0, locals := 0 }) D (TY cA cQ) [.int p0, .int p1, .int p2] ([] : va_W) ([] : va_W) o := by
  refine Wk.i (cc := cX5_in) (maxL := 3) (ret := (some .boolean)) (by decide) rfl (Nat.le_of_ble_eq_true rfl) ?_
  intro p e s m below meth c A ls hx hb hr hlocks hml hown hts hK hN hP hD hA hl
  have hown : s.vm.findClass RX5 = some m.cls := hown
  have hS : va_S A s.heap s.heap [] := va_S.rf
  have hl : lv_has ls 3 [(0, .int p0), (1, .int p1), (2, .int p2)] := hl
  have h := hf
  unfold X5_in at h
  refine lv_iload_n hx hb dX5_in_0 rfl (lv_at hl 0 rfl) ?_
  refine lv_iload_n hx hb dX5_in_1 rfl (lv_at hl 1 rfl) ?_
  refine lv_icmp_lt (tgt := 14) hx hb dX5_in_2 (by decide) (fun c1 => ?_) (fun c1 => ?_)
  · have h := (if_pos c1).symm.trans h
    refine lv_iconst (v := (0 : Int32)) hx hb dX5_in_14 (by decide) ?_
    cases h
    exact endZ hx hb hr hlocks hP hS ⟨rfl, rfl⟩ dX5_in_15
  · have h := (if_neg c1).symm.trans h
    refine lv_iload_n hx hb dX5_in_5 rfl (lv_at hl 0 rfl) ?_
    refine lv_iload_n hx hb dX5_in_6 rfl (lv_at hl 2 rfl) ?_
    refine lv_icmp_gt (tgt := 14) hx hb dX5_in_7 (by decide) (fun c2 => ?_) (fun c2 => ?_)
    · have h := (if_pos c2).symm.trans h
      refine lv_iconst (v := (0 : Int32)) hx hb dX5_in_14 (by decide) ?_
      cases h
      exact endZ hx hb hr hlocks hP hS ⟨rfl, rfl⟩ dX5_in_15
    · have h := (if_neg c2).symm.trans h
      refine lv_iconst (v := (1 : Int32)) hx hb dX5_in_10 (by decide) ?_
      refine lv_goto (tgt := 15) hx hb dX5_in_11 (by decide) ?_
      cases h
      exact endZ hx hb hr hlocks hP hS ⟨rfl, rfl⟩ dX5_in_15
set_option maxHeartbeats 4000000 in
set_option maxRecDepth 100000 in
theorem c_X5_isKind (l : Launch) (D : va_G) (cA cQ : ClassId) (p0 : Int32) (o : Int32) (hf : X5_isKind p0 = some o) : Cti l yX5_isKind wsX5_isKind ({ frames := 1, cells := 0, slots := 0, locals := 22 }) D (TY cA cQ) [.int p0] ([] : va_W) ([] : va_W) o := by
  refine Wk.i (cc := cX5_isKind) (maxL := 1) (ret := (some .boolean)) (by decide) rfl (Nat.le_of_ble_eq_true rfl) ?_
  intro p e s m below meth c A ls hx hb hr hlocks hml hown hts hK hN hP hD hA hl
  have hown : s.vm.findClass RX5 = some m.cls := hown
  have hS : va_S A s.heap s.heap [] := va_S.rf
  have hl : lv_has ls 1 [(0, .int p0)] := hl
  have h := hf
  unfold X5_isKind at h
  refine lv_iload_n hx hb dX5_isKind_0 rfl (lv_at hl 0 rfl) ?_
  refine lv_iconst (v := (0 : Int32)) hx hb dX5_isKind_1 (by decide) ?_
  refine lv_iconst (v := (3 : Int32)) hx hb dX5_isKind_2 (by decide) ?_
  obtain ⟨u1, eu1, h⟩ := bd_in h
  refine kI (va_runS (As := [.int p0, .int (0 : Int32), .int (3 : Int32)]) (rest := []) ⟨hx, hb, hml, hown, hts⟩ (c_X5_in l D cA cQ  p0 (0 : Int32) (3 : Int32) u1 eu1 _) (va_cwS 3 hts gX5_isKind_X5_in rfl rfl rfl (by decide +kernel) ⟨Nat.le_of_ble_eq_true rfl, Nat.le_of_ble_eq_true rfl⟩) (pS hK hN hP hD [] rfl rfl) rfl rfl hl.1 rfl (lv_room (Nat.le_of_ble_eq_true rfl)) dX5_isKind_3 ⟨Nat.zero_le _, Nat.zero_le _⟩) hP hD hS hA [] rfl rfl (ws' := ([] : va_W)) rfl (fun H locs hP hD hS => ?_)
  obtain ⟨b2, eb2, h⟩ := bd_in h
  cases h
  exact endZ hx hb hr hlocks hP hS (zb_in eb2) dX5_isKind_6
theorem iw_X5_of_X5 : ∀ w ∈ wsX50, w ∈ wsX5_of := fun _ h => List.mem_cons_of_mem _ (List.mem_append_right _ (h))
set_option maxHeartbeats 4000000 in
set_option maxRecDepth 100000 in
theorem c_X5_of (l : Launch) (D : va_G) (cA cQ : ClassId) (adM : Nat → Nat) (vM : St) (p1 : Int32) (p2 : Int32) (o : Int32) (hf : X5_of vM p1 p2 = some o) : Cti l yX5_of wsX5_of ({ frames := 0, cells := 0, slots := 0, locals := 0 }) D (TY cA cQ) [.ref (adM 0), .int p1, .int p2] (wM cA adM vM) (wM cA adM vM) o := by
  refine Wk.i (cc := cX5_of) (maxL := 3) (ret := (some .int)) (by decide) rfl (Nat.le_of_ble_eq_true rfl) ?_
  intro p e s m below meth c A ls hx hb hr hlocks hml hown hts hK hN hP hD hA hl
  have hown : s.vm.findClass RX5 = some m.cls := hown
  have hS : va_S A s.heap s.heap [] := va_S.rf
  have hl : lv_has ls 3 [(0, .ref (adM 0)), (1, .int p1), (2, .int p2)] := hl
  have h := hf
  unfold X5_of at h
  refine lv_aload_n hx hb dX5_of_0 rfl (lv_at hl 0 rfl) ?_
  refine va_get (D := D) (ci := 5) (v := .ref (adM 1)) (C := RX5) (T := TX5) (N := 18) hx hb hts iw_X5_of_X5 hown hK hP 0 rfl rfl 0 (by decide) (hts (.fieldLink RX5 7 "FavourRingsModel" "s" "[I") (List.mem_of_getElem? (i := 1) rfl)) (fun _ h9 => h9) rfl dX5_of_1 ?_
  refine lv_bipush (v := (6 : Int32)) hx hb dX5_of_4 (by decide) ?_
  refine lv_iload_n hx hb dX5_of_6 rfl (lv_at hl 1 rfl) ?_
  refine lv_imul hx hb dX5_of_7 ?_
  refine lv_iload_n hx hb dX5_of_8 rfl (lv_at hl 2 rfl) ?_
  refine lv_iadd hx hb dX5_of_9 ?_
  obtain ⟨y1, ey1, h⟩ := bd_in h
  refine ldR hx hb hK hP 1 0 rfl rfl ey1 dX5_of_10 ?_
  cases h
  exact endI hx hb hr hlocks hP hS rfl dX5_of_11
theorem iw_X5_looks_X5 : ∀ w ∈ wsX50, w ∈ wsX5_looks := fun _ h => List.mem_cons_of_mem _ (List.mem_append_right _ (h))
set_option maxHeartbeats 4000000 in
set_option maxRecDepth 100000 in
theorem c_X5_looks (l : Launch) (D : va_G) (cA cQ : ClassId) (adM : Nat → Nat) (vM : St) (p1 : Int32) (o : St) (hf : X5_looks vM p1 = some o) : Ctv l yX5_looks wsX5_looks ({ frames := 1, cells := 0, slots := 0, locals := 22 }) D (TY cA cQ) [.ref (adM 0), .int p1] (wM cA adM vM) (wM cA adM o) := by
  refine Wk.v (cc := cX5_looks) (maxL := 3) (ret := none) (by decide) rfl (Nat.le_of_ble_eq_true rfl) ?_
  intro p e s m below meth c A ls hx hb hr hlocks hml hown hts hK hN hP hD hA hl
  have hown : s.vm.findClass RX5 = some m.cls := hown
  have hS : va_S A s.heap s.heap [] := va_S.rf
  have hl : lv_has ls 3 [(0, .ref (adM 0)), (1, .int p1)] := hl
  have B23 : ∀ (fu23 : Nat) (vM : St) (x2 : Int32) (H : Heap) (locs : List Loc) (ls : Array Slot), X5_looks_l23 p1 fu23 vM x2 = some o → va_P D vwCl (wM cA adM vM) H → va_D A (wM cA adM vM) → va_S A s.heap H locs → lv_has ls 3 [(0, .ref (adM 0)), (1, .int p1), (2, .int x2)] → W p l e (headSpec wsX5_looks ({ frames := 1, cells := 0, slots := 0, locals := 22 })).room s m ([.ref (adM 0), .int p1] : List Value).toArray below meth c H locs 0 0 (MQ below (QV D (wM cA adM o) A) ([.ref (adM 0), .int p1] : List Value).toArray s 0 0 A) (F0 m 23 ls []) := by
    intro fu23
    induction fu23 with
    | zero =>
      intro vM x2 H locs ls h hP hD hS hl
      cases h
    | succ fu23 ih23 =>
      intro vM x2 H locs ls h hP hD hS hl
      rw [X5_looks_l23] at h
      refine lv_iload_n hx hb dX5_looks_23 rfl (lv_at hl 2 rfl) ?_
      refine lv_aload_n hx hb dX5_looks_24 rfl (lv_at hl 0 rfl) ?_
      refine va_get (D := D) (ci := 5) (v := .ref (adM 1)) (C := RX5) (T := TX5) (N := 18) hx hb hts iw_X5_looks_X5 hown hK hP 0 rfl rfl 0 (by decide) (hts (.fieldLink RX5 7 "FavourRingsModel" "s" "[I") (List.mem_of_getElem? (i := 2) rfl)) (fun _ h9 => h9) rfl dX5_looks_25 ?_
      refine lv_sipush (v := (290 : Int32)) hx hb dX5_looks_28 (by decide) ?_
      obtain ⟨y1, ey1, h⟩ := bd_in h
      refine ldR hx hb hK hP 1 0 rfl rfl ey1 dX5_looks_31 ?_
      refine lv_icmp_ge (tgt := 73) hx hb dX5_looks_32 (by decide) (fun c2 => ?_) (fun c2 => ?_)
      · have h := (if_pos c2).symm.trans h
        cases h
        exact endV hx hb hr hlocks hP hS dX5_looks_73
      · have h := (if_neg c2).symm.trans h
        refine lv_aload_n hx hb dX5_looks_35 rfl (lv_at hl 0 rfl) ?_
        refine lv_iload_n hx hb dX5_looks_36 rfl (lv_at hl 2 rfl) ?_
        refine lv_iconst (v := (2 : Int32)) hx hb dX5_looks_37 (by decide) ?_
        obtain ⟨u3, eu3, h⟩ := bd_in h
        refine kI (va_runV (As := [.int x2, .int (2 : Int32)]) (rest := []) ⟨hx, hb, hml, hown, hts⟩ (c_X5_of l D cA cQ adM vM x2 (2 : Int32) u3 eu3 _) (cwV 2 hts gX5_looks_X5_of rfl rfl rfl (by decide +kernel) ⟨Nat.le_of_ble_eq_true rfl, Nat.le_of_ble_eq_true rfl⟩) (pV (ci := 5) (q := (RX5, TX5, 18)) hK hN hP hD [0, 1, 2, 3, 4, 5, 6, 7, 8, 9] rfl rfl rfl rfl) rfl rfl hl.1 rfl (lv_room (Nat.le_of_ble_eq_true rfl)) dX5_looks_38 ⟨Nat.zero_le _, Nat.zero_le _⟩) hP hD hS hA [0, 1, 2, 3, 4, 5, 6, 7, 8, 9] rfl rfl (ws' := (wM cA adM vM)) rfl (fun H locs hP hD hS => ?_)
        refine lv_iload_n hx hb dX5_looks_41 rfl (lv_at hl 1 rfl) ?_
        refine lv_icmp_ne (tgt := 67) hx hb dX5_looks_42 (by decide) (fun c4 => ?_) (fun c4 => ?_)
        · have h := (if_neg c4).symm.trans h
          refine lv_iinc (v := (x2 + (1 : Int32))) (lv' := [(2, .int (x2 + (1 : Int32))), (0, .ref (adM 0)), (1, .int p1)]) hx hb dX5_looks_67 hl (k := 2) rfl rfl (by decide) rfl (fun ls hl => ?_)
          refine lv_goto (tgt := 23) hx hb dX5_looks_70 (by decide) ?_
          exact ih23 vM (x2 + (1 : Int32)) _ _ _ h hP hD hS (lv_sub hl [1, 2, 0] rfl)
        · have h := (if_pos c4).symm.trans h
          refine lv_aload_n hx hb dX5_looks_45 rfl (lv_at hl 0 rfl) ?_
          refine va_get (D := D) (ci := 5) (v := .ref (adM 9)) (C := RX5) (T := TX5) (N := 18) hx hb hts iw_X5_looks_X5 hown hK hP 0 rfl rfl 8 (by decide) (hts (.fieldLink RX5 25 "FavourRingsModel" "to" "[I") (List.mem_of_getElem? (i := 1) rfl)) (fun _ h9 => h9) rfl dX5_looks_46 ?_
          refine lv_aload_n hx hb dX5_looks_49 rfl (lv_at hl 0 rfl) ?_
          refine lv_iload_n hx hb dX5_looks_50 rfl (lv_at hl 2 rfl) ?_
          refine lv_iconst (v := (0 : Int32)) hx hb dX5_looks_51 (by decide) ?_
          obtain ⟨u5, eu5, h⟩ := bd_in h
          refine kI (va_runV (As := [.int x2, .int (0 : Int32)]) (rest := [.ref (adM 9)]) ⟨hx, hb, hml, hown, hts⟩ (c_X5_of l D cA cQ adM vM x2 (0 : Int32) u5 eu5 _) (cwV 2 hts gX5_looks_X5_of rfl rfl rfl (by decide +kernel) ⟨Nat.le_of_ble_eq_true rfl, Nat.le_of_ble_eq_true rfl⟩) (pV (ci := 5) (q := (RX5, TX5, 18)) hK hN hP hD [0, 1, 2, 3, 4, 5, 6, 7, 8, 9] rfl rfl rfl rfl) rfl rfl hl.1 rfl (lv_room (Nat.le_of_ble_eq_true rfl)) dX5_looks_52 ⟨Nat.zero_le _, Nat.zero_le _⟩) hP hD hS hA [0, 1, 2, 3, 4, 5, 6, 7, 8, 9] rfl rfl (ws' := (wM cA adM vM)) rfl (fun H locs hP hD hS => ?_)
          refine lv_dup2_11 hx hb dX5_looks_55 rfl rfl ?_
          obtain ⟨y6, ey6, h⟩ := bd_in h
          refine ldR hx hb hK hP 6 0 rfl rfl ey6 dX5_looks_56 ?_
          refine lv_iconst (v := (1 : Int32)) hx hb dX5_looks_57 (by decide) ?_
          refine lv_aload_n hx hb dX5_looks_58 rfl (lv_at hl 0 rfl) ?_
          refine lv_iload_n hx hb dX5_looks_59 rfl (lv_at hl 2 rfl) ?_
          refine lv_iconst (v := (1 : Int32)) hx hb dX5_looks_60 (by decide) ?_
          obtain ⟨u7, eu7, h⟩ := bd_in h
          refine kI (va_runV (As := [.int x2, .int (1 : Int32)]) (rest := [.int (1 : Int32), .int y6, .int u5, .ref (adM 9)]) ⟨hx, hb, hml, hown, hts⟩ (c_X5_of l D cA cQ adM vM x2 (1 : Int32) u7 eu7 _) (cwV 2 hts gX5_looks_X5_of rfl rfl rfl (by decide +kernel) ⟨Nat.le_of_ble_eq_true rfl, Nat.le_of_ble_eq_true rfl⟩) (pV (ci := 5) (q := (RX5, TX5, 18)) hK hN hP hD [0, 1, 2, 3, 4, 5, 6, 7, 8, 9] rfl rfl rfl rfl) rfl rfl hl.1 rfl (lv_room (Nat.le_of_ble_eq_true rfl)) dX5_looks_61 ⟨Nat.zero_le _, Nat.zero_le _⟩) hP hD hS hA [0, 1, 2, 3, 4, 5, 6, 7, 8, 9] rfl rfl (ws' := (wM cA adM vM)) rfl (fun H locs hP hD hS => ?_)
          refine lv_ishl hx hb dX5_looks_64 ?_
          refine lv_ior hx hb dX5_looks_65 ?_
          obtain ⟨g8, eg8, h⟩ := bd_in h
          refine stR hx hb hK hP hD hS 6 0 rfl rfl eg8 (ws' := (wM cA adM (setA vM 9 g8))) rfl dX5_looks_66 (fun H locs hP hD hS => ?_)
          refine lv_iinc (v := (x2 + (1 : Int32))) (lv' := [(2, .int (x2 + (1 : Int32))), (0, .ref (adM 0)), (1, .int p1)]) hx hb dX5_looks_67 hl (k := 2) rfl rfl (by decide) rfl (fun ls hl => ?_)
          refine lv_goto (tgt := 23) hx hb dX5_looks_70 (by decide) ?_
          exact ih23 (setA vM 9 g8) (x2 + (1 : Int32)) _ _ _ h hP hD hS (lv_sub hl [1, 2, 0] rfl)
  have B2 : ∀ (fu2 : Nat) (vM : St) (x2 : Int32) (H : Heap) (locs : List Loc) (ls : Array Slot), X5_looks_l2 p1 fu2 vM x2 = some o → va_P D vwCl (wM cA adM vM) H → va_D A (wM cA adM vM) → va_S A s.heap H locs → lv_has ls 3 [(0, .ref (adM 0)), (1, .int p1), (2, .int x2)] → W p l e (headSpec wsX5_looks ({ frames := 1, cells := 0, slots := 0, locals := 22 })).room s m ([.ref (adM 0), .int p1] : List Value).toArray below meth c H locs 0 0 (MQ below (QV D (wM cA adM o) A) ([.ref (adM 0), .int p1] : List Value).toArray s 0 0 A) (F0 m 2 ls []) := by
    intro fu2
    induction fu2 with
    | zero =>
      intro vM x2 H locs ls h hP hD hS hl
      cases h
    | succ fu2 ih2 =>
      intro vM x2 H locs ls h hP hD hS hl
      rw [X5_looks_l2] at h
      refine lv_iload_n hx hb dX5_looks_2 rfl (lv_at hl 2 rfl) ?_
      refine lv_bipush (v := (8 : Int32)) hx hb dX5_looks_3 (by decide) ?_
      refine lv_icmp_ge (tgt := 21) hx hb dX5_looks_5 (by decide) (fun c9 => ?_) (fun c9 => ?_)
      · have h := (if_pos c9).symm.trans h
        refine lv_iconst (v := (0 : Int32)) hx hb dX5_looks_21 (by decide) ?_
        refine lv_istore_n (lv' := [(2, .int (0 : Int32)), (0, .ref (adM 0)), (1, .int p1)]) hx hb dX5_looks_22 rfl hl (by decide) rfl (fun ls hl => ?_)
        exact B23 FU vM (0 : Int32) _ _ _ h hP hD hS (lv_sub hl [1, 2, 0] rfl)
      · have h := (if_neg c9).symm.trans h
        refine lv_aload_n hx hb dX5_looks_8 rfl (lv_at hl 0 rfl) ?_
        refine va_get (D := D) (ci := 5) (v := .ref (adM 9)) (C := RX5) (T := TX5) (N := 18) hx hb hts iw_X5_looks_X5 hown hK hP 0 rfl rfl 8 (by decide) (hts (.fieldLink RX5 25 "FavourRingsModel" "to" "[I") (List.mem_of_getElem? (i := 1) rfl)) (fun _ h9 => h9) rfl dX5_looks_9 ?_
        refine lv_iload_n hx hb dX5_looks_12 rfl (lv_at hl 2 rfl) ?_
        refine lv_iconst (v := (0 : Int32)) hx hb dX5_looks_13 (by decide) ?_
        obtain ⟨g10, eg10, h⟩ := bd_in h
        refine stR hx hb hK hP hD hS 6 0 rfl rfl eg10 (ws' := (wM cA adM (setA vM 9 g10))) rfl dX5_looks_14 (fun H locs hP hD hS => ?_)
        refine lv_iinc (v := (x2 + (1 : Int32))) (lv' := [(2, .int (x2 + (1 : Int32))), (0, .ref (adM 0)), (1, .int p1)]) hx hb dX5_looks_15 hl (k := 2) rfl rfl (by decide) rfl (fun ls hl => ?_)
        refine lv_goto (tgt := 2) hx hb dX5_looks_18 (by decide) ?_
        exact ih2 (setA vM 9 g10) (x2 + (1 : Int32)) _ _ _ h hP hD hS (lv_sub hl [1, 2, 0] rfl)
  have h := hf
  unfold X5_looks at h
  refine lv_iconst (v := (0 : Int32)) hx hb dX5_looks_0 (by decide) ?_
  refine lv_istore_n (lv' := [(2, .int (0 : Int32)), (0, .ref (adM 0)), (1, .int p1)]) hx hb dX5_looks_1 rfl hl (by decide) rfl (fun ls hl => ?_)
  exact B2 FU vM (0 : Int32) _ _ _ h hP hD hS (lv_sub hl [1, 2, 0] rfl)
theorem iw_X5_isBack_X5 : ∀ w ∈ wsX50, w ∈ wsX5_isBack := fun _ h => List.mem_cons_of_mem _ (List.mem_append_right _ (h))
set_option maxHeartbeats 4000000 in
set_option maxRecDepth 100000 in
theorem c_X5_isBack (l : Launch) (D : va_G) (cA cQ : ClassId) (adM : Nat → Nat) (vM : St) (p1 : Int32) (p2 : Int32) (o : Int32 × St) (hf : X5_isBack vM p1 p2 = some o) : Cti l yX5_isBack wsX5_isBack ({ frames := 0, cells := 0, slots := 0, locals := 0 }) D (TY cA cQ) [.ref (adM 0), .int p1, .int p2] (wM cA adM vM) (wM cA adM o.2) o.1 := by
  refine Wk.i (cc := cX5_isBack) (maxL := 5) (ret := (some .boolean)) (by decide) rfl (Nat.le_of_ble_eq_true rfl) ?_
  intro p e s m below meth c A ls hx hb hr hlocks hml hown hts hK hN hP hD hA hl
  have hown : s.vm.findClass RX5 = some m.cls := hown
  have hS : va_S A s.heap s.heap [] := va_S.rf
  have hl : lv_has ls 5 [(0, .ref (adM 0)), (1, .int p1), (2, .int p2)] := hl
  have B83 : ∀ (vM : St) (H : Heap) (locs : List Loc) (ls : Array Slot), X5_isBack_b83 p1 p2 vM = some o → va_P D vwCl (wM cA adM vM) H → va_D A (wM cA adM vM) → va_S A s.heap H locs → lv_has ls 5 [(0, .ref (adM 0)), (1, .int p1), (2, .int p2)] → W p l e (headSpec wsX5_isBack ({ frames := 0, cells := 0, slots := 0, locals := 0 })).room s m ([.ref (adM 0), .int p1, .int p2] : List Value).toArray below meth c H locs 0 0 (MQ below (QI D (wM cA adM o.2) o.1 A) ([.ref (adM 0), .int p1, .int p2] : List Value).toArray s 0 0 A) (F0 m 83 ls []) := by
    intro vM H locs ls h hP hD hS hl
    unfold X5_isBack_b83 at h
    refine lv_aload_n hx hb dX5_isBack_83 rfl (lv_at hl 0 rfl) ?_
    refine va_get (D := D) (ci := 5) (v := .ref (adM 9)) (C := RX5) (T := TX5) (N := 18) hx hb hts iw_X5_isBack_X5 hown hK hP 0 rfl rfl 8 (by decide) (hts (.fieldLink RX5 25 "FavourRingsModel" "to" "[I") (List.mem_of_getElem? (i := 2) rfl)) (fun _ h9 => h9) rfl dX5_isBack_84 ?_
    refine lv_iload_n hx hb dX5_isBack_87 rfl (lv_at hl 1 rfl) ?_
    obtain ⟨y1, ey1, h⟩ := bd_in h
    refine ldR hx hb hK hP 6 0 rfl rfl ey1 dX5_isBack_88 ?_
    refine lv_aload_n hx hb dX5_isBack_89 rfl (lv_at hl 0 rfl) ?_
    refine va_get (D := D) (ci := 5) (v := .ref (adM 10)) (C := RX5) (T := TX5) (N := 18) hx hb hts iw_X5_isBack_X5 hown hK hP 0 rfl rfl 9 (by decide) (hts (.fieldLink RX5 28 "FavourRingsModel" "ways" "[I") (List.mem_of_getElem? (i := 1) rfl)) (fun _ h9 => h9) rfl dX5_isBack_90 ?_
    refine lv_iload_n hx hb dX5_isBack_93 rfl (lv_at hl 2 rfl) ?_
    refine lv_iconst (v := (1 : Int32)) hx hb dX5_isBack_94 (by decide) ?_
    refine lv_isub hx hb dX5_isBack_95 ?_
    obtain ⟨y2, ey2, h⟩ := bd_in h
    refine ldR hx hb hK hP 7 0 rfl rfl ey2 dX5_isBack_96 ?_
    refine lv_iand hx hb dX5_isBack_97 ?_
    refine lv_if_eq (tgt := 105) hx hb dX5_isBack_98 (by decide) (fun c3 => ?_) (fun c3 => ?_)
    · have h := (if_pos c3).symm.trans h
      refine lv_iconst (v := (0 : Int32)) hx hb dX5_isBack_105 (by decide) ?_
      cases h
      exact endZ hx hb hr hlocks hP hS ⟨rfl, rfl⟩ dX5_isBack_106
    · have h := (if_neg c3).symm.trans h
      refine lv_iconst (v := (1 : Int32)) hx hb dX5_isBack_101 (by decide) ?_
      refine lv_goto (tgt := 106) hx hb dX5_isBack_102 (by decide) ?_
      cases h
      exact endZ hx hb hr hlocks hP hS ⟨rfl, rfl⟩ dX5_isBack_106
  have B11 : ∀ (fu11 : Nat) (vM : St) (x3 : Int32) (H : Heap) (locs : List Loc) (ls : Array Slot), X5_isBack_l11 p1 p2 fu11 vM x3 = some o → va_P D vwCl (wM cA adM vM) H → va_D A (wM cA adM vM) → va_S A s.heap H locs → lv_has ls 5 [(0, .ref (adM 0)), (1, .int p1), (2, .int p2), (3, .int x3)] → W p l e (headSpec wsX5_isBack ({ frames := 0, cells := 0, slots := 0, locals := 0 })).room s m ([.ref (adM 0), .int p1, .int p2] : List Value).toArray below meth c H locs 0 0 (MQ below (QI D (wM cA adM o.2) o.1 A) ([.ref (adM 0), .int p1, .int p2] : List Value).toArray s 0 0 A) (F0 m 11 ls []) := by
    intro fu11
    induction fu11 with
    | zero =>
      intro vM x3 H locs ls h hP hD hS hl
      cases h
    | succ fu11 ih11 =>
      have B28 : ∀ (fu28 : Nat) (vM : St) (x3 : Int32) (x4 : Int32) (H : Heap) (locs : List Loc) (ls : Array Slot), X5_isBack_l28 p1 p2 (X5_isBack_l11 p1 p2 fu11) fu28 vM x3 x4 = some o → va_P D vwCl (wM cA adM vM) H → va_D A (wM cA adM vM) → va_S A s.heap H locs → lv_has ls 5 [(0, .ref (adM 0)), (1, .int p1), (2, .int p2), (3, .int x3), (4, .int x4)] → W p l e (headSpec wsX5_isBack ({ frames := 0, cells := 0, slots := 0, locals := 0 })).room s m ([.ref (adM 0), .int p1, .int p2] : List Value).toArray below meth c H locs 0 0 (MQ below (QI D (wM cA adM o.2) o.1 A) ([.ref (adM 0), .int p1, .int p2] : List Value).toArray s 0 0 A) (F0 m 28 ls []) := by
        intro fu28
        induction fu28 with
        | zero =>
          intro vM x3 x4 H locs ls h hP hD hS hl
          cases h
        | succ fu28 ih28 =>
          intro vM x3 x4 H locs ls h hP hD hS hl
          rw [X5_isBack_l28] at h
          refine lv_iload hx hb dX5_isBack_28 (lv_at hl 4 rfl) ?_
          refine lv_bipush (v := (8 : Int32)) hx hb dX5_isBack_30 (by decide) ?_
          refine lv_icmp_ge (tgt := 77) hx hb dX5_isBack_32 (by decide) (fun c4 => ?_) (fun c4 => ?_)
          · have h := (if_pos c4).symm.trans h
            refine lv_iinc (v := (x3 + (1 : Int32))) (lv' := [(3, .int (x3 + (1 : Int32))), (0, .ref (adM 0)), (1, .int p1), (2, .int p2), (4, .int x4)]) hx hb dX5_isBack_77 hl (k := 3) rfl rfl (by decide) rfl (fun ls hl => ?_)
            refine lv_goto (tgt := 11) hx hb dX5_isBack_80 (by decide) ?_
            exact ih11 vM (x3 + (1 : Int32)) _ _ _ h hP hD hS (lv_sub hl [1, 2, 3, 0] rfl)
          · have h := (if_neg c4).symm.trans h
            refine lv_aload_n hx hb dX5_isBack_35 rfl (lv_at hl 0 rfl) ?_
            refine va_get (D := D) (ci := 5) (v := .ref (adM 10)) (C := RX5) (T := TX5) (N := 18) hx hb hts iw_X5_isBack_X5 hown hK hP 0 rfl rfl 9 (by decide) (hts (.fieldLink RX5 28 "FavourRingsModel" "ways" "[I") (List.mem_of_getElem? (i := 1) rfl)) (fun _ h9 => h9) rfl dX5_isBack_36 ?_
            refine lv_iload_n hx hb dX5_isBack_39 rfl (lv_at hl 3 rfl) ?_
            refine lv_dup2_11 hx hb dX5_isBack_40 rfl rfl ?_
            obtain ⟨y5, ey5, h⟩ := bd_in h
            refine ldR hx hb hK hP 7 0 rfl rfl ey5 dX5_isBack_41 ?_
            refine lv_aload_n hx hb dX5_isBack_42 rfl (lv_at hl 0 rfl) ?_
            refine va_get (D := D) (ci := 5) (v := .ref (adM 9)) (C := RX5) (T := TX5) (N := 18) hx hb hts iw_X5_isBack_X5 hown hK hP 0 rfl rfl 8 (by decide) (hts (.fieldLink RX5 25 "FavourRingsModel" "to" "[I") (List.mem_of_getElem? (i := 2) rfl)) (fun _ h9 => h9) rfl dX5_isBack_43 ?_
            refine lv_iload hx hb dX5_isBack_46 (lv_at hl 4 rfl) ?_
            obtain ⟨y6, ey6, h⟩ := bd_in h
            refine ldR hx hb hK hP 6 0 rfl rfl ey6 dX5_isBack_48 ?_
            refine lv_aload_n hx hb dX5_isBack_49 rfl (lv_at hl 0 rfl) ?_
            refine va_get (D := D) (ci := 5) (v := .ref (adM 10)) (C := RX5) (T := TX5) (N := 18) hx hb hts iw_X5_isBack_X5 hown hK hP 0 rfl rfl 9 (by decide) (hts (.fieldLink RX5 28 "FavourRingsModel" "ways" "[I") (List.mem_of_getElem? (i := 1) rfl)) (fun _ h9 => h9) rfl dX5_isBack_50 ?_
            refine lv_iload_n hx hb dX5_isBack_53 rfl (lv_at hl 3 rfl) ?_
            refine lv_iconst (v := (1 : Int32)) hx hb dX5_isBack_54 (by decide) ?_
            refine lv_isub hx hb dX5_isBack_55 ?_
            obtain ⟨y7, ey7, h⟩ := bd_in h
            refine ldR hx hb hK hP 7 0 rfl rfl ey7 dX5_isBack_56 ?_
            refine lv_iand hx hb dX5_isBack_57 ?_
            refine lv_if_eq (tgt := 68) hx hb dX5_isBack_58 (by decide) (fun c8 => ?_) (fun c8 => ?_)
            · have h := (if_pos c8).symm.trans h
              refine lv_iconst (v := (0 : Int32)) hx hb dX5_isBack_68 (by decide) ?_
              refine lv_ior hx hb dX5_isBack_69 ?_
              obtain ⟨g9, eg9, h⟩ := bd_in h
              refine stR hx hb hK hP hD hS 7 0 rfl rfl eg9 (ws' := (wM cA adM (setA vM 10 g9))) rfl dX5_isBack_70 (fun H locs hP hD hS => ?_)
              refine lv_iinc (v := (x4 + (1 : Int32))) (lv' := [(4, .int (x4 + (1 : Int32))), (0, .ref (adM 0)), (1, .int p1), (2, .int p2), (3, .int x3)]) hx hb dX5_isBack_71 hl (k := 4) rfl rfl (by decide) rfl (fun ls hl => ?_)
              refine lv_goto (tgt := 28) hx hb dX5_isBack_74 (by decide) ?_
              exact ih28 (setA vM 10 g9) x3 (x4 + (1 : Int32)) _ _ _ h hP hD hS (lv_sub hl [1, 2, 3, 4, 0] rfl)
            · have h := (if_neg c8).symm.trans h
              refine lv_iconst (v := (1 : Int32)) hx hb dX5_isBack_61 (by decide) ?_
              refine lv_iload hx hb dX5_isBack_62 (lv_at hl 4 rfl) ?_
              refine lv_ishl hx hb dX5_isBack_64 ?_
              refine lv_goto (tgt := 69) hx hb dX5_isBack_65 (by decide) ?_
              refine lv_ior hx hb dX5_isBack_69 ?_
              obtain ⟨g10, eg10, h⟩ := bd_in h
              refine stR hx hb hK hP hD hS 7 0 rfl rfl eg10 (ws' := (wM cA adM (setA vM 10 g10))) rfl dX5_isBack_70 (fun H locs hP hD hS => ?_)
              refine lv_iinc (v := (x4 + (1 : Int32))) (lv' := [(4, .int (x4 + (1 : Int32))), (0, .ref (adM 0)), (1, .int p1), (2, .int p2), (3, .int x3)]) hx hb dX5_isBack_71 hl (k := 4) rfl rfl (by decide) rfl (fun ls hl => ?_)
              refine lv_goto (tgt := 28) hx hb dX5_isBack_74 (by decide) ?_
              exact ih28 (setA vM 10 g10) x3 (x4 + (1 : Int32)) _ _ _ h hP hD hS (lv_sub hl [1, 2, 3, 4, 0] rfl)
      intro vM x3 H locs ls h hP hD hS hl
      rw [X5_isBack_l11] at h
      refine lv_iload_n hx hb dX5_isBack_11 rfl (lv_at hl 3 rfl) ?_
      refine lv_iload_n hx hb dX5_isBack_12 rfl (lv_at hl 2 rfl) ?_
      refine lv_icmp_ge (tgt := 83) hx hb dX5_isBack_13 (by decide) (fun c11 => ?_) (fun c11 => ?_)
      · have h := (if_pos c11).symm.trans h
        exact B83 vM _ _ _ h hP hD hS (lv_sub hl [0, 1, 2] rfl)
      · have h := (if_neg c11).symm.trans h
        refine lv_aload_n hx hb dX5_isBack_16 rfl (lv_at hl 0 rfl) ?_
        refine va_get (D := D) (ci := 5) (v := .ref (adM 10)) (C := RX5) (T := TX5) (N := 18) hx hb hts iw_X5_isBack_X5 hown hK hP 0 rfl rfl 9 (by decide) (hts (.fieldLink RX5 28 "FavourRingsModel" "ways" "[I") (List.mem_of_getElem? (i := 1) rfl)) (fun _ h9 => h9) rfl dX5_isBack_17 ?_
        refine lv_iload_n hx hb dX5_isBack_20 rfl (lv_at hl 3 rfl) ?_
        refine lv_iconst (v := (0 : Int32)) hx hb dX5_isBack_21 (by decide) ?_
        obtain ⟨g12, eg12, h⟩ := bd_in h
        refine stR hx hb hK hP hD hS 7 0 rfl rfl eg12 (ws' := (wM cA adM (setA vM 10 g12))) rfl dX5_isBack_22 (fun H locs hP hD hS => ?_)
        refine lv_iload_n hx hb dX5_isBack_23 rfl (lv_at hl 1 rfl) ?_
        refine lv_iconst (v := (1 : Int32)) hx hb dX5_isBack_24 (by decide) ?_
        refine lv_iadd hx hb dX5_isBack_25 ?_
        refine lv_istore (lv' := [(4, .int (p1 + (1 : Int32))), (0, .ref (adM 0)), (1, .int p1), (2, .int p2), (3, .int x3)]) hx hb dX5_isBack_26 hl (by decide) rfl (fun ls hl => ?_)
        exact B28 FU (setA vM 10 g12) x3 (p1 + (1 : Int32)) _ _ _ h hP hD hS (lv_sub hl [1, 2, 3, 4, 0] rfl)
  have h := hf
  unfold X5_isBack at h
  refine lv_aload_n hx hb dX5_isBack_0 rfl (lv_at hl 0 rfl) ?_
  refine va_get (D := D) (ci := 5) (v := .ref (adM 10)) (C := RX5) (T := TX5) (N := 18) hx hb hts iw_X5_isBack_X5 hown hK hP 0 rfl rfl 9 (by decide) (hts (.fieldLink RX5 28 "FavourRingsModel" "ways" "[I") (List.mem_of_getElem? (i := 1) rfl)) (fun _ h9 => h9) rfl dX5_isBack_1 ?_
  refine lv_iconst (v := (0 : Int32)) hx hb dX5_isBack_4 (by decide) ?_
  refine lv_iconst (v := (1 : Int32)) hx hb dX5_isBack_5 (by decide) ?_
  refine lv_iload_n hx hb dX5_isBack_6 rfl (lv_at hl 1 rfl) ?_
  refine lv_ishl hx hb dX5_isBack_7 ?_
  obtain ⟨g13, eg13, h⟩ := bd_in h
  refine stR hx hb hK hP hD hS 7 0 rfl rfl eg13 (ws' := (wM cA adM (setA vM 10 g13))) rfl dX5_isBack_8 (fun H locs hP hD hS => ?_)
  refine lv_iconst (v := (1 : Int32)) hx hb dX5_isBack_9 (by decide) ?_
  refine lv_istore_n (lv' := [(3, .int (1 : Int32)), (0, .ref (adM 0)), (1, .int p1), (2, .int p2)]) hx hb dX5_isBack_10 rfl hl (by decide) rfl (fun ls hl => ?_)
  exact B11 FU (setA vM 10 g13) (1 : Int32) _ _ _ h hP hD hS (lv_sub hl [1, 2, 3, 0] rfl)
set_option maxHeartbeats 4000000 in
set_option maxRecDepth 100000 in
theorem c_X5_lowest (l : Launch) (D : va_G) (cA cQ : ClassId) (p0 : Int32) (o : Int32) (hf : X5_lowest p0 = some o) : Cti l yX5_lowest wsX5_lowest ({ frames := 0, cells := 0, slots := 0, locals := 0 }) D (TY cA cQ) [.int p0] ([] : va_W) ([] : va_W) o := by
  refine Wk.i (cc := cX5_lowest) (maxL := 2) (ret := (some .int)) (by decide) rfl (Nat.le_of_ble_eq_true rfl) ?_
  intro p e s m below meth c A ls hx hb hr hlocks hml hown hts hK hN hP hD hA hl
  have hown : s.vm.findClass RX5 = some m.cls := hown
  have hS : va_S A s.heap s.heap [] := va_S.rf
  have hl : lv_has ls 2 [(0, .int p0)] := hl
  have B2 : ∀ (fu2 : Nat) (x1 : Int32) (H : Heap) (locs : List Loc) (ls : Array Slot), X5_lowest_l2 p0 fu2 x1 = some o → va_P D vwCl ([] : va_W) H → va_D A ([] : va_W) → va_S A s.heap H locs → lv_has ls 2 [(0, .int p0), (1, .int x1)] → W p l e (headSpec wsX5_lowest ({ frames := 0, cells := 0, slots := 0, locals := 0 })).room s m ([.int p0] : List Value).toArray below meth c H locs 0 0 (MQ below (QI D ([] : va_W) o A) ([.int p0] : List Value).toArray s 0 0 A) (F0 m 2 ls []) := by
    intro fu2
    induction fu2 with
    | zero =>
      intro x1 H locs ls h hP hD hS hl
      cases h
    | succ fu2 ih2 =>
      intro x1 H locs ls h hP hD hS hl
      rw [X5_lowest_l2] at h
      refine lv_iload_n hx hb dX5_lowest_2 rfl (lv_at hl 0 rfl) ?_
      refine lv_iload_n hx hb dX5_lowest_3 rfl (lv_at hl 1 rfl) ?_
      refine lv_ishr hx hb dX5_lowest_4 ?_
      refine lv_iconst (v := (1 : Int32)) hx hb dX5_lowest_5 (by decide) ?_
      refine lv_iand hx hb dX5_lowest_6 ?_
      refine lv_if_ne (tgt := 16) hx hb dX5_lowest_7 (by decide) (fun c1 => ?_) (fun c1 => ?_)
      · have h := (if_neg c1).symm.trans h
        refine lv_iload_n hx hb dX5_lowest_16 rfl (lv_at hl 1 rfl) ?_
        cases h
        exact endI hx hb hr hlocks hP hS rfl dX5_lowest_17
      · have h := (if_pos c1).symm.trans h
        refine lv_iinc (v := (x1 + (1 : Int32))) (lv' := [(1, .int (x1 + (1 : Int32))), (0, .int p0)]) hx hb dX5_lowest_10 hl (k := 1) rfl rfl (by decide) rfl (fun ls hl => ?_)
        refine lv_goto (tgt := 2) hx hb dX5_lowest_13 (by decide) ?_
        exact ih2 (x1 + (1 : Int32)) _ _ _ h hP hD hS (lv_sub hl [1, 0] rfl)
  have h := hf
  unfold X5_lowest at h
  refine lv_iconst (v := (0 : Int32)) hx hb dX5_lowest_0 (by decide) ?_
  refine lv_istore_n (lv' := [(1, .int (0 : Int32)), (0, .int p0)]) hx hb dX5_lowest_1 rfl hl (by decide) rfl (fun ls hl => ?_)
  exact B2 FU (0 : Int32) _ _ _ h hP hD hS (lv_sub hl [1, 0] rfl)
theorem iw_X5_rings_X5 : ∀ w ∈ wsX50, w ∈ wsX5_rings := fun _ h => List.mem_cons_of_mem _ (List.mem_append_right _ (h))
set_option maxHeartbeats 4000000 in
set_option maxRecDepth 100000 in
theorem c_X5_rings (l : Launch) (D : va_G) (cA cQ : ClassId) (adM : Nat → Nat) (vM : St) (p1 : Int32) (o : Int32 × St) (hf : X5_rings vM p1 = some o) : Cti l yX5_rings wsX5_rings ({ frames := 2, cells := 0, slots := 0, locals := 44 }) D (TY cA cQ) [.ref (adM 0), .int p1] (wM cA adM vM) (wM cA adM o.2) o.1 := by
  refine Wk.i (cc := cX5_rings) (maxL := 5) (ret := (some .int)) (by decide) rfl (Nat.le_of_ble_eq_true rfl) ?_
  intro p e s m below meth c A ls hx hb hr hlocks hml hown hts hK hN hP hD hA hl
  have hown : s.vm.findClass RX5 = some m.cls := hown
  have hS : va_S A s.heap s.heap [] := va_S.rf
  have hl : lv_has ls 5 [(0, .ref (adM 0)), (1, .int p1)] := hl
  have B40 : ∀ (fu40 : Nat) (vM : St) (x2 : Int32) (x4 : Int32) (H : Heap) (locs : List Loc) (ls : Array Slot), X5_rings_l40 p1 fu40 vM x2 x4 = some o → va_P D vwCl (wM cA adM vM) H → va_D A (wM cA adM vM) → va_S A s.heap H locs → lv_has ls 5 [(0, .ref (adM 0)), (2, .int x2), (4, .int x4)] → W p l e (headSpec wsX5_rings ({ frames := 2, cells := 0, slots := 0, locals := 44 })).room s m ([.ref (adM 0), .int p1] : List Value).toArray below meth c H locs 0 0 (MQ below (QI D (wM cA adM o.2) o.1 A) ([.ref (adM 0), .int p1] : List Value).toArray s 0 0 A) (F0 m 40 ls []) := by
    intro fu40
    induction fu40 with
    | zero =>
      intro vM x2 x4 H locs ls h hP hD hS hl
      cases h
    | succ fu40 ih40 =>
      intro vM x2 x4 H locs ls h hP hD hS hl
      rw [X5_rings_l40] at h
      refine lv_iload hx hb dX5_rings_40 (lv_at hl 2 rfl) ?_
      refine lv_iload_n hx hb dX5_rings_42 rfl (lv_at hl 1 rfl) ?_
      refine lv_icmp_ge (tgt := 86) hx hb dX5_rings_43 (by decide) (fun c1 => ?_) (fun c1 => ?_)
      · have h := (if_pos c1).symm.trans h
        refine lv_iload_n hx hb dX5_rings_86 rfl (lv_at hl 1 rfl) ?_
        cases h
        exact endI hx hb hr hlocks hP hS rfl dX5_rings_87
      · have h := (if_neg c1).symm.trans h
        refine lv_aload_n hx hb dX5_rings_46 rfl (lv_at hl 0 rfl) ?_
        refine va_get (D := D) (ci := 5) (v := .ref (adM 11)) (C := RX5) (T := TX5) (N := 18) hx hb hts iw_X5_rings_X5 hown hK hP 0 rfl rfl 10 (by decide) (hts (.fieldLink RX5 31 "FavourRingsModel" "ring" "[I") (List.mem_of_getElem? (i := 1) rfl)) (fun _ h9 => h9) rfl dX5_rings_47 ?_
        refine lv_iload hx hb dX5_rings_50 (lv_at hl 2 rfl) ?_
        refine lv_aload_n hx hb dX5_rings_52 rfl (lv_at hl 0 rfl) ?_
        refine va_get (D := D) (ci := 5) (v := .ref (adM 9)) (C := RX5) (T := TX5) (N := 18) hx hb hts iw_X5_rings_X5 hown hK hP 0 rfl rfl 8 (by decide) (hts (.fieldLink RX5 25 "FavourRingsModel" "to" "[I") (List.mem_of_getElem? (i := 2) rfl)) (fun _ h9 => h9) rfl dX5_rings_53 ?_
        refine lv_aload_n hx hb dX5_rings_56 rfl (lv_at hl 0 rfl) ?_
        refine va_get (D := D) (ci := 5) (v := .ref (adM 11)) (C := RX5) (T := TX5) (N := 18) hx hb hts iw_X5_rings_X5 hown hK hP 0 rfl rfl 10 (by decide) (hts (.fieldLink RX5 31 "FavourRingsModel" "ring" "[I") (List.mem_of_getElem? (i := 1) rfl)) (fun _ h9 => h9) rfl dX5_rings_57 ?_
        refine lv_iload hx hb dX5_rings_60 (lv_at hl 2 rfl) ?_
        refine lv_iconst (v := (1 : Int32)) hx hb dX5_rings_62 (by decide) ?_
        refine lv_isub hx hb dX5_rings_63 ?_
        obtain ⟨y2, ey2, h⟩ := bd_in h
        refine ldR hx hb hK hP 8 0 rfl rfl ey2 dX5_rings_64 ?_
        obtain ⟨y3, ey3, h⟩ := bd_in h
        refine ldR hx hb hK hP 6 0 rfl rfl ey3 dX5_rings_65 ?_
        refine lv_aload_n hx hb dX5_rings_66 rfl (lv_at hl 0 rfl) ?_
        refine va_get (D := D) (ci := 5) (v := .ref (adM 10)) (C := RX5) (T := TX5) (N := 18) hx hb hts iw_X5_rings_X5 hown hK hP 0 rfl rfl 9 (by decide) (hts (.fieldLink RX5 28 "FavourRingsModel" "ways" "[I") (List.mem_of_getElem? (i := 3) rfl)) (fun _ h9 => h9) rfl dX5_rings_67 ?_
        refine lv_iload_n hx hb dX5_rings_70 rfl (lv_at hl 1 rfl) ?_
        refine lv_iload hx hb dX5_rings_71 (lv_at hl 2 rfl) ?_
        refine lv_isub hx hb dX5_rings_73 ?_
        obtain ⟨y4, ey4, h⟩ := bd_in h
        refine ldR hx hb hK hP 7 0 rfl rfl ey4 dX5_rings_74 ?_
        refine lv_iand hx hb dX5_rings_75 ?_
        obtain ⟨u5, eu5, h⟩ := bd_in h
        refine kI (va_runS (As := [.int (y3 &&& y4)]) (rest := [.int x4, .ref (adM 11)]) ⟨hx, hb, hml, hown, hts⟩ (c_X5_lowest l D cA cQ  (y3 &&& y4) u5 eu5 _) (va_cwS 1 hts gX5_rings_X5_lowest rfl rfl rfl (by decide +kernel) ⟨Nat.le_of_ble_eq_true rfl, Nat.le_of_ble_eq_true rfl⟩) (pS hK hN hP hD [] rfl rfl) rfl rfl hl.1 rfl (lv_room (Nat.le_of_ble_eq_true rfl)) dX5_rings_76 ⟨Nat.zero_le _, Nat.zero_le _⟩) hP hD hS hA [] rfl rfl (ws' := (wM cA adM vM)) rfl (fun H locs hP hD hS => ?_)
        obtain ⟨g6, eg6, h⟩ := bd_in h
        refine stR hx hb hK hP hD hS 8 0 rfl rfl eg6 (ws' := (wM cA adM (setA vM 11 g6))) rfl dX5_rings_79 (fun H locs hP hD hS => ?_)
        refine lv_iinc (v := (x4 + (1 : Int32))) (lv' := [(4, .int (x4 + (1 : Int32))), (0, .ref (adM 0)), (2, .int x2)]) hx hb dX5_rings_80 hl (k := 2) rfl rfl (by decide) rfl (fun ls hl => ?_)
        refine lv_goto (tgt := 40) hx hb dX5_rings_83 (by decide) ?_
        exact ih40 (setA vM 11 g6) x2 (x4 + (1 : Int32)) _ _ _ h hP hD hS (lv_sub hl [1, 2, 0] rfl)
  have B30 : ∀ (vM : St) (x2 : Int32) (x3 : Int32) (H : Heap) (locs : List Loc) (ls : Array Slot), X5_rings_b30 p1 vM x2 x3 = some o → va_P D vwCl (wM cA adM vM) H → va_D A (wM cA adM vM) → va_S A s.heap H locs → lv_has ls 5 [(0, .ref (adM 0)), (2, .int x2), (3, .int x3)] → W p l e (headSpec wsX5_rings ({ frames := 2, cells := 0, slots := 0, locals := 44 })).room s m ([.ref (adM 0), .int p1] : List Value).toArray below meth c H locs 0 0 (MQ below (QI D (wM cA adM o.2) o.1 A) ([.ref (adM 0), .int p1] : List Value).toArray s 0 0 A) (F0 m 30 ls []) := by
    intro vM x2 x3 H locs ls h hP hD hS hl
    unfold X5_rings_b30 at h
    refine lv_aload_n hx hb dX5_rings_30 rfl (lv_at hl 0 rfl) ?_
    refine va_get (D := D) (ci := 5) (v := .ref (adM 11)) (C := RX5) (T := TX5) (N := 18) hx hb hts iw_X5_rings_X5 hown hK hP 0 rfl rfl 10 (by decide) (hts (.fieldLink RX5 31 "FavourRingsModel" "ring" "[I") (List.mem_of_getElem? (i := 1) rfl)) (fun _ h9 => h9) rfl dX5_rings_31 ?_
    refine lv_iconst (v := (0 : Int32)) hx hb dX5_rings_34 (by decide) ?_
    refine lv_iload_n hx hb dX5_rings_35 rfl (lv_at hl 2 rfl) ?_
    obtain ⟨g7, eg7, h⟩ := bd_in h
    refine stR hx hb hK hP hD hS 8 0 rfl rfl eg7 (ws' := (wM cA adM (setA vM 11 g7))) rfl dX5_rings_36 (fun H locs hP hD hS => ?_)
    refine lv_iconst (v := (1 : Int32)) hx hb dX5_rings_37 (by decide) ?_
    refine lv_istore (lv' := [(4, .int (1 : Int32)), (0, .ref (adM 0)), (2, .int x2), (3, .int x3)]) hx hb dX5_rings_38 hl (by decide) rfl (fun ls hl => ?_)
    exact B40 FU (setA vM 11 g7) x2 (1 : Int32) _ _ _ h hP hD hS (lv_sub hl [1, 2, 0] rfl)
  have B7 : ∀ (fu7 : Nat) (vM : St) (x2 : Int32) (H : Heap) (locs : List Loc) (ls : Array Slot), X5_rings_l7 p1 fu7 vM x2 = some o → va_P D vwCl (wM cA adM vM) H → va_D A (wM cA adM vM) → va_S A s.heap H locs → lv_has ls 5 [(0, .ref (adM 0)), (2, .int x2)] → W p l e (headSpec wsX5_rings ({ frames := 2, cells := 0, slots := 0, locals := 44 })).room s m ([.ref (adM 0), .int p1] : List Value).toArray below meth c H locs 0 0 (MQ below (QI D (wM cA adM o.2) o.1 A) ([.ref (adM 0), .int p1] : List Value).toArray s 0 0 A) (F0 m 7 ls []) := by
    intro fu7
    induction fu7 with
    | zero =>
      intro vM x2 H locs ls h hP hD hS hl
      cases h
    | succ fu7 ih7 =>
      have B15 : ∀ (fu15 : Nat) (vM : St) (x2 : Int32) (x3 : Int32) (H : Heap) (locs : List Loc) (ls : Array Slot), X5_rings_l15 p1 (X5_rings_l7 p1 fu7) fu15 vM x2 x3 = some o → va_P D vwCl (wM cA adM vM) H → va_D A (wM cA adM vM) → va_S A s.heap H locs → lv_has ls 5 [(0, .ref (adM 0)), (2, .int x2), (3, .int x3)] → W p l e (headSpec wsX5_rings ({ frames := 2, cells := 0, slots := 0, locals := 44 })).room s m ([.ref (adM 0), .int p1] : List Value).toArray below meth c H locs 0 0 (MQ below (QI D (wM cA adM o.2) o.1 A) ([.ref (adM 0), .int p1] : List Value).toArray s 0 0 A) (F0 m 15 ls []) := by
        intro fu15
        induction fu15 with
        | zero =>
          intro vM x2 x3 H locs ls h hP hD hS hl
          cases h
        | succ fu15 ih15 =>
          intro vM x2 x3 H locs ls h hP hD hS hl
          rw [X5_rings_l15] at h
          refine lv_iload_n hx hb dX5_rings_15 rfl (lv_at hl 2 rfl) ?_
          refine lv_bipush (v := (8 : Int32)) hx hb dX5_rings_16 (by decide) ?_
          refine lv_icmp_ge (tgt := 94) hx hb dX5_rings_18 (by decide) (fun c8 => ?_) (fun c8 => ?_)
          · have h := (if_pos c8).symm.trans h
            refine lv_iinc (v := (x2 + (1 : Int32))) (lv' := [(2, .int (x2 + (1 : Int32))), (0, .ref (adM 0)), (3, .int x3)]) hx hb dX5_rings_94 hl (k := 1) rfl rfl (by decide) rfl (fun ls hl => ?_)
            refine lv_goto (tgt := 7) hx hb dX5_rings_97 (by decide) ?_
            exact ih7 vM (x2 + (1 : Int32)) _ _ _ h hP hD hS (lv_sub hl [1, 0] rfl)
          · have h := (if_neg c8).symm.trans h
            refine lv_aload_n hx hb dX5_rings_21 rfl (lv_at hl 0 rfl) ?_
            refine lv_iload_n hx hb dX5_rings_22 rfl (lv_at hl 2 rfl) ?_
            refine lv_iload_n hx hb dX5_rings_23 rfl (lv_at hl 1 rfl) ?_
            obtain ⟨u9, eu9, h⟩ := bd_in h
            refine kI (va_runV (As := [.int x3, .int x2]) (rest := []) ⟨hx, hb, hml, hown, hts⟩ (c_X5_isBack l D cA cQ adM vM x3 x2 u9 eu9 _) (cwV 2 hts gX5_rings_X5_isBack rfl rfl rfl (by decide +kernel) ⟨Nat.le_of_ble_eq_true rfl, Nat.le_of_ble_eq_true rfl⟩) (pV (ci := 5) (q := (RX5, TX5, 18)) hK hN hP hD [0, 1, 2, 3, 4, 5, 6, 7, 8, 9] rfl rfl rfl rfl) rfl rfl hl.1 rfl (lv_room (Nat.le_of_ble_eq_true rfl)) dX5_rings_24 ⟨Nat.zero_le _, Nat.zero_le _⟩) hP hD hS hA [0, 1, 2, 3, 4, 5, 6, 7, 8, 9] rfl rfl (ws' := (wM cA adM u9.2)) rfl (fun H locs hP hD hS => ?_)
            refine lv_if_eq (tgt := 88) hx hb dX5_rings_27 (by decide) (fun c10 => ?_) (fun c10 => ?_)
            · have h := (if_pos c10).symm.trans h
              refine lv_iinc (v := (x3 + (1 : Int32))) (lv' := [(3, .int (x3 + (1 : Int32))), (0, .ref (adM 0)), (2, .int x2)]) hx hb dX5_rings_88 hl (k := 2) rfl rfl (by decide) rfl (fun ls hl => ?_)
              refine lv_goto (tgt := 15) hx hb dX5_rings_91 (by decide) ?_
              exact ih15 u9.2 x2 (x3 + (1 : Int32)) _ _ _ h hP hD hS (lv_sub hl [1, 2, 0] rfl)
            · have h := (if_neg c10).symm.trans h
              exact B30 u9.2 x2 x3 _ _ _ h hP hD hS (lv_sub hl [0, 1, 2] rfl)
      intro vM x2 H locs ls h hP hD hS hl
      rw [X5_rings_l7] at h
      refine lv_iload_n hx hb dX5_rings_7 rfl (lv_at hl 1 rfl) ?_
      refine lv_bipush (v := (8 : Int32)) hx hb dX5_rings_8 (by decide) ?_
      refine lv_icmp_gt (tgt := 100) hx hb dX5_rings_10 (by decide) (fun c11 => ?_) (fun c11 => ?_)
      · have h := (if_pos c11).symm.trans h
        refine lv_iconst (v := (0 : Int32)) hx hb dX5_rings_100 (by decide) ?_
        cases h
        exact endI hx hb hr hlocks hP hS rfl dX5_rings_101
      · have h := (if_neg c11).symm.trans h
        refine lv_iconst (v := (0 : Int32)) hx hb dX5_rings_13 (by decide) ?_
        refine lv_istore_n (lv' := [(3, .int (0 : Int32)), (0, .ref (adM 0)), (2, .int x2)]) hx hb dX5_rings_14 rfl hl (by decide) rfl (fun ls hl => ?_)
        exact B15 FU vM x2 (0 : Int32) _ _ _ h hP hD hS (lv_sub hl [1, 2, 0] rfl)
  have h := hf
  unfold X5_rings at h
  refine lv_aload_n hx hb dX5_rings_0 rfl (lv_at hl 0 rfl) ?_
  refine lv_iload_n hx hb dX5_rings_1 rfl (lv_at hl 1 rfl) ?_
  obtain ⟨u12, eu12, h⟩ := bd_in h
  refine kV (va_runV (As := [.int p1]) (rest := []) ⟨hx, hb, hml, hown, hts⟩ (c_X5_looks l D cA cQ adM vM p1 u12 eu12 _) (cwV 1 hts gX5_rings_X5_looks rfl rfl rfl (by decide +kernel) ⟨Nat.le_of_ble_eq_true rfl, Nat.le_of_ble_eq_true rfl⟩) (pV (ci := 5) (q := (RX5, TX5, 18)) hK hN hP hD [0, 1, 2, 3, 4, 5, 6, 7, 8, 9] rfl rfl rfl rfl) rfl rfl hl.1 rfl (lv_room (Nat.le_of_ble_eq_true rfl)) dX5_rings_2 ⟨Nat.zero_le _, Nat.zero_le _⟩) hP hD hS hA [0, 1, 2, 3, 4, 5, 6, 7, 8, 9] rfl rfl (ws' := (wM cA adM u12)) rfl (fun H locs hP hD hS => ?_)
  refine lv_iconst (v := (2 : Int32)) hx hb dX5_rings_5 (by decide) ?_
  refine lv_istore_n (lv' := [(2, .int (2 : Int32)), (0, .ref (adM 0)), (1, .int p1)]) hx hb dX5_rings_6 rfl hl (by decide) rfl (fun ls hl => ?_)
  exact B7 FU u12 (2 : Int32) _ _ _ h hP hD hS (lv_sub hl [1, 0] rfl)

theorem iw_X0_copyFrom_X0 : ∀ w ∈ wsX00, w ∈ wsX0_copyFrom := fun _ h => List.mem_cons_of_mem _ (List.mem_append_right _ (h))
set_option maxHeartbeats 4000000 in
set_option maxRecDepth 100000 in
theorem c_X0_copyFrom (l : Launch) (D : va_G) (cA cQ : ClassId) (adB : Nat → Nat) (adC : Nat → Nat) (vB : St) (vC : St) (o : St) (hf : X0_copyFrom vB vC = some o) : Ctv l yX0_copyFrom wsX0_copyFrom ({ frames := 2, cells := 0, slots := 0, locals := 81 }) D (TY cA cQ) [.ref (adB 0), .ref (adC 0)] (wB cA adB vB ++ (wB cA adC vC)) (wB cA adB o ++ (wB cA adC vC)) := by
  refine Wk.v (cc := cX0_copyFrom) (maxL := 2) (ret := none) (by decide) rfl (Nat.le_of_ble_eq_true rfl) ?_
  intro p e s m below meth c A ls hx hb hr hlocks hml hown hts hK hN hP hD hA hl
  have hown : s.vm.findClass RX0 = some m.cls := hown
  have hS : va_S A s.heap s.heap [] := va_S.rf
  have hl : lv_has ls 2 [(0, .ref (adB 0)), (1, .ref (adC 0))] := hl
  have h := hf
  unfold X0_copyFrom at h
  refine lv_aload_n hx hb dX0_copyFrom_0 rfl (lv_at hl 1 rfl) ?_
  refine va_get (D := D) (ci := 0) (v := .ref (adC 1)) (C := RX0) (T := TX0) (N := 13) hx hb hts iw_X0_copyFrom_X0 hown hK hP 14 rfl rfl 0 (by decide) (hts (.fieldLink RX0 9 "FavourRings$Bank" "numbers" "[I") (List.mem_of_getElem? (i := 1) rfl)) (fun _ h9 => h9) rfl dX0_copyFrom_1 ?_
  refine lv_aload_n hx hb dX0_copyFrom_4 rfl (lv_at hl 0 rfl) ?_
  refine va_get (D := D) (ci := 0) (v := .ref (adB 1)) (C := RX0) (T := TX0) (N := 13) hx hb hts iw_X0_copyFrom_X0 hown hK hP 0 rfl rfl 0 (by decide) (hts (.fieldLink RX0 9 "FavourRings$Bank" "numbers" "[I") (List.mem_of_getElem? (i := 1) rfl)) (fun _ h9 => h9) rfl dX0_copyFrom_5 ?_
  obtain ⟨u1, eu1, h⟩ := bd_in h
  refine kV (va_runSN (As := [.ref (adC 1), .ref (adB 1)]) (rest := []) ⟨hx, hb, hml, hown, hts⟩ (c_X4_copyRow l D cA cQ (adC 1) 26 (adB 1) 26 (vC 1) (vB 1) u1 eu1 _) ⟨va_cnB 2 hts gX0_copyFrom_X4_copyRow_n59 rfl rfl rfl hN.2.2.1 (hts (.initialized RX4) (List.mem_of_getElem? (i := 15) rfl)) (by decide +kernel) ⟨Nat.le_of_ble_eq_true rfl, Nat.le_of_ble_eq_true rfl⟩, (hts (.static yX4_copyRow) (List.mem_of_getElem? (i := 14) rfl)), trivial⟩ (pS hK hN hP hD [15, 1] rfl rfl) rfl rfl hl.1 rfl (lv_room (Nat.le_of_ble_eq_true rfl)) dX0_copyFrom_8 ⟨Nat.zero_le _, Nat.zero_le _⟩) hP hD hS hA [15, 1] rfl rfl (ws' := (wB cA adB (setA vB 1 u1) ++ (wB cA adC vC))) rfl (fun H locs hP hD hS => ?_)
  refine lv_aload_n hx hb dX0_copyFrom_11 rfl (lv_at hl 1 rfl) ?_
  refine va_get (D := D) (ci := 0) (v := .ref (adC 2)) (C := RX0) (T := TX0) (N := 13) hx hb hts iw_X0_copyFrom_X0 hown hK hP 14 rfl rfl 1 (by decide) (hts (.fieldLink RX0 15 "FavourRings$Bank" "came" "[I") (List.mem_of_getElem? (i := 2) rfl)) (fun _ h9 => h9) rfl dX0_copyFrom_12 ?_
  refine lv_aload_n hx hb dX0_copyFrom_15 rfl (lv_at hl 0 rfl) ?_
  refine va_get (D := D) (ci := 0) (v := .ref (adB 2)) (C := RX0) (T := TX0) (N := 13) hx hb hts iw_X0_copyFrom_X0 hown hK hP 0 rfl rfl 1 (by decide) (hts (.fieldLink RX0 15 "FavourRings$Bank" "came" "[I") (List.mem_of_getElem? (i := 2) rfl)) (fun _ h9 => h9) rfl dX0_copyFrom_16 ?_
  obtain ⟨u2, eu2, h⟩ := bd_in h
  refine kV (va_runSN (As := [.ref (adC 2), .ref (adB 2)]) (rest := []) ⟨hx, hb, hml, hown, hts⟩ (c_X4_copyRow l D cA cQ (adC 2) 8 (adB 2) 8 (vC 2) (vB 2) u2 eu2 _) ⟨va_cnB 2 hts gX0_copyFrom_X4_copyRow_n59 rfl rfl rfl hN.2.2.1 (hts (.initialized RX4) (List.mem_of_getElem? (i := 15) rfl)) (by decide +kernel) ⟨Nat.le_of_ble_eq_true rfl, Nat.le_of_ble_eq_true rfl⟩, (hts (.static yX4_copyRow) (List.mem_of_getElem? (i := 14) rfl)), trivial⟩ (pS hK hN hP hD [16, 2] rfl rfl) rfl rfl hl.1 rfl (lv_room (Nat.le_of_ble_eq_true rfl)) dX0_copyFrom_19 ⟨Nat.zero_le _, Nat.zero_le _⟩) hP hD hS hA [16, 2] rfl rfl (ws' := (wB cA adB (setA (setA vB 1 u1) 2 u2) ++ (wB cA adC vC))) rfl (fun H locs hP hD hS => ?_)
  refine lv_aload_n hx hb dX0_copyFrom_22 rfl (lv_at hl 1 rfl) ?_
  refine va_get (D := D) (ci := 0) (v := .ref (adC 3)) (C := RX0) (T := TX0) (N := 13) hx hb hts iw_X0_copyFrom_X0 hown hK hP 14 rfl rfl 2 (by decide) (hts (.fieldLink RX0 18 "FavourRings$Bank" "done" "[I") (List.mem_of_getElem? (i := 3) rfl)) (fun _ h9 => h9) rfl dX0_copyFrom_23 ?_
  refine lv_aload_n hx hb dX0_copyFrom_26 rfl (lv_at hl 0 rfl) ?_
  refine va_get (D := D) (ci := 0) (v := .ref (adB 3)) (C := RX0) (T := TX0) (N := 13) hx hb hts iw_X0_copyFrom_X0 hown hK hP 0 rfl rfl 2 (by decide) (hts (.fieldLink RX0 18 "FavourRings$Bank" "done" "[I") (List.mem_of_getElem? (i := 3) rfl)) (fun _ h9 => h9) rfl dX0_copyFrom_27 ?_
  obtain ⟨u3, eu3, h⟩ := bd_in h
  refine kV (va_runSN (As := [.ref (adC 3), .ref (adB 3)]) (rest := []) ⟨hx, hb, hml, hown, hts⟩ (c_X4_copyRow l D cA cQ (adC 3) 8 (adB 3) 8 (vC 3) (vB 3) u3 eu3 _) ⟨va_cnB 2 hts gX0_copyFrom_X4_copyRow_n59 rfl rfl rfl hN.2.2.1 (hts (.initialized RX4) (List.mem_of_getElem? (i := 15) rfl)) (by decide +kernel) ⟨Nat.le_of_ble_eq_true rfl, Nat.le_of_ble_eq_true rfl⟩, (hts (.static yX4_copyRow) (List.mem_of_getElem? (i := 14) rfl)), trivial⟩ (pS hK hN hP hD [17, 3] rfl rfl) rfl rfl hl.1 rfl (lv_room (Nat.le_of_ble_eq_true rfl)) dX0_copyFrom_30 ⟨Nat.zero_le _, Nat.zero_le _⟩) hP hD hS hA [17, 3] rfl rfl (ws' := (wB cA adB (setA (setA (setA vB 1 u1) 2 u2) 3 u3) ++ (wB cA adC vC))) rfl (fun H locs hP hD hS => ?_)
  refine lv_aload_n hx hb dX0_copyFrom_33 rfl (lv_at hl 1 rfl) ?_
  refine va_get (D := D) (ci := 0) (v := .ref (adC 4)) (C := RX0) (T := TX0) (N := 13) hx hb hts iw_X0_copyFrom_X0 hown hK hP 14 rfl rfl 3 (by decide) (hts (.fieldLink RX0 21 "FavourRings$Bank" "spoiled" "[I") (List.mem_of_getElem? (i := 4) rfl)) (fun _ h9 => h9) rfl dX0_copyFrom_34 ?_
  refine lv_aload_n hx hb dX0_copyFrom_37 rfl (lv_at hl 0 rfl) ?_
  refine va_get (D := D) (ci := 0) (v := .ref (adB 4)) (C := RX0) (T := TX0) (N := 13) hx hb hts iw_X0_copyFrom_X0 hown hK hP 0 rfl rfl 3 (by decide) (hts (.fieldLink RX0 21 "FavourRings$Bank" "spoiled" "[I") (List.mem_of_getElem? (i := 4) rfl)) (fun _ h9 => h9) rfl dX0_copyFrom_38 ?_
  obtain ⟨u4, eu4, h⟩ := bd_in h
  refine kV (va_runSN (As := [.ref (adC 4), .ref (adB 4)]) (rest := []) ⟨hx, hb, hml, hown, hts⟩ (c_X4_copyRow l D cA cQ (adC 4) 8 (adB 4) 8 (vC 4) (vB 4) u4 eu4 _) ⟨va_cnB 2 hts gX0_copyFrom_X4_copyRow_n59 rfl rfl rfl hN.2.2.1 (hts (.initialized RX4) (List.mem_of_getElem? (i := 15) rfl)) (by decide +kernel) ⟨Nat.le_of_ble_eq_true rfl, Nat.le_of_ble_eq_true rfl⟩, (hts (.static yX4_copyRow) (List.mem_of_getElem? (i := 14) rfl)), trivial⟩ (pS hK hN hP hD [18, 4] rfl rfl) rfl rfl hl.1 rfl (lv_room (Nat.le_of_ble_eq_true rfl)) dX0_copyFrom_41 ⟨Nat.zero_le _, Nat.zero_le _⟩) hP hD hS hA [18, 4] rfl rfl (ws' := (wB cA adB (setA (setA (setA (setA vB 1 u1) 2 u2) 3 u3) 4 u4) ++ (wB cA adC vC))) rfl (fun H locs hP hD hS => ?_)
  refine lv_aload_n hx hb dX0_copyFrom_44 rfl (lv_at hl 1 rfl) ?_
  refine va_get (D := D) (ci := 0) (v := .ref (adC 5)) (C := RX0) (T := TX0) (N := 13) hx hb hts iw_X0_copyFrom_X0 hown hK hP 14 rfl rfl 4 (by decide) (hts (.fieldLink RX0 24 "FavourRings$Bank" "guarantors" "[I") (List.mem_of_getElem? (i := 5) rfl)) (fun _ h9 => h9) rfl dX0_copyFrom_45 ?_
  refine lv_aload_n hx hb dX0_copyFrom_48 rfl (lv_at hl 0 rfl) ?_
  refine va_get (D := D) (ci := 0) (v := .ref (adB 5)) (C := RX0) (T := TX0) (N := 13) hx hb hts iw_X0_copyFrom_X0 hown hK hP 0 rfl rfl 4 (by decide) (hts (.fieldLink RX0 24 "FavourRings$Bank" "guarantors" "[I") (List.mem_of_getElem? (i := 5) rfl)) (fun _ h9 => h9) rfl dX0_copyFrom_49 ?_
  obtain ⟨u5, eu5, h⟩ := bd_in h
  refine kV (va_runSN (As := [.ref (adC 5), .ref (adB 5)]) (rest := []) ⟨hx, hb, hml, hown, hts⟩ (c_X4_copyRow l D cA cQ (adC 5) 8 (adB 5) 8 (vC 5) (vB 5) u5 eu5 _) ⟨va_cnB 2 hts gX0_copyFrom_X4_copyRow_n59 rfl rfl rfl hN.2.2.1 (hts (.initialized RX4) (List.mem_of_getElem? (i := 15) rfl)) (by decide +kernel) ⟨Nat.le_of_ble_eq_true rfl, Nat.le_of_ble_eq_true rfl⟩, (hts (.static yX4_copyRow) (List.mem_of_getElem? (i := 14) rfl)), trivial⟩ (pS hK hN hP hD [19, 5] rfl rfl) rfl rfl hl.1 rfl (lv_room (Nat.le_of_ble_eq_true rfl)) dX0_copyFrom_52 ⟨Nat.zero_le _, Nat.zero_le _⟩) hP hD hS hA [19, 5] rfl rfl (ws' := (wB cA adB (setA (setA (setA (setA (setA vB 1 u1) 2 u2) 3 u3) 4 u4) 5 u5) ++ (wB cA adC vC))) rfl (fun H locs hP hD hS => ?_)
  refine lv_aload_n hx hb dX0_copyFrom_55 rfl (lv_at hl 1 rfl) ?_
  refine va_get (D := D) (ci := 0) (v := .ref (adC 6)) (C := RX0) (T := TX0) (N := 13) hx hb hts iw_X0_copyFrom_X0 hown hK hP 14 rfl rfl 5 (by decide) (hts (.fieldLink RX0 27 "FavourRings$Bank" "takenOver" "[I") (List.mem_of_getElem? (i := 6) rfl)) (fun _ h9 => h9) rfl dX0_copyFrom_56 ?_
  refine lv_aload_n hx hb dX0_copyFrom_59 rfl (lv_at hl 0 rfl) ?_
  refine va_get (D := D) (ci := 0) (v := .ref (adB 6)) (C := RX0) (T := TX0) (N := 13) hx hb hts iw_X0_copyFrom_X0 hown hK hP 0 rfl rfl 5 (by decide) (hts (.fieldLink RX0 27 "FavourRings$Bank" "takenOver" "[I") (List.mem_of_getElem? (i := 6) rfl)) (fun _ h9 => h9) rfl dX0_copyFrom_60 ?_
  obtain ⟨u6, eu6, h⟩ := bd_in h
  refine kV (va_runSN (As := [.ref (adC 6), .ref (adB 6)]) (rest := []) ⟨hx, hb, hml, hown, hts⟩ (c_X4_copyRow l D cA cQ (adC 6) 8 (adB 6) 8 (vC 6) (vB 6) u6 eu6 _) ⟨va_cnB 2 hts gX0_copyFrom_X4_copyRow_n59 rfl rfl rfl hN.2.2.1 (hts (.initialized RX4) (List.mem_of_getElem? (i := 15) rfl)) (by decide +kernel) ⟨Nat.le_of_ble_eq_true rfl, Nat.le_of_ble_eq_true rfl⟩, (hts (.static yX4_copyRow) (List.mem_of_getElem? (i := 14) rfl)), trivial⟩ (pS hK hN hP hD [20, 6] rfl rfl) rfl rfl hl.1 rfl (lv_room (Nat.le_of_ble_eq_true rfl)) dX0_copyFrom_63 ⟨Nat.zero_le _, Nat.zero_le _⟩) hP hD hS hA [20, 6] rfl rfl (ws' := (wB cA adB (setA (setA (setA (setA (setA (setA vB 1 u1) 2 u2) 3 u3) 4 u4) 5 u5) 6 u6) ++ (wB cA adC vC))) rfl (fun H locs hP hD hS => ?_)
  refine lv_aload_n hx hb dX0_copyFrom_66 rfl (lv_at hl 1 rfl) ?_
  refine va_get (D := D) (ci := 0) (v := .ref (adC 7)) (C := RX0) (T := TX0) (N := 13) hx hb hts iw_X0_copyFrom_X0 hown hK hP 14 rfl rfl 6 (by decide) (hts (.fieldLink RX0 30 "FavourRings$Bank" "cleared" "[I") (List.mem_of_getElem? (i := 7) rfl)) (fun _ h9 => h9) rfl dX0_copyFrom_67 ?_
  refine lv_aload_n hx hb dX0_copyFrom_70 rfl (lv_at hl 0 rfl) ?_
  refine va_get (D := D) (ci := 0) (v := .ref (adB 7)) (C := RX0) (T := TX0) (N := 13) hx hb hts iw_X0_copyFrom_X0 hown hK hP 0 rfl rfl 6 (by decide) (hts (.fieldLink RX0 30 "FavourRings$Bank" "cleared" "[I") (List.mem_of_getElem? (i := 7) rfl)) (fun _ h9 => h9) rfl dX0_copyFrom_71 ?_
  obtain ⟨u7, eu7, h⟩ := bd_in h
  refine kV (va_runSN (As := [.ref (adC 7), .ref (adB 7)]) (rest := []) ⟨hx, hb, hml, hown, hts⟩ (c_X4_copyRow l D cA cQ (adC 7) 8 (adB 7) 8 (vC 7) (vB 7) u7 eu7 _) ⟨va_cnB 2 hts gX0_copyFrom_X4_copyRow_n59 rfl rfl rfl hN.2.2.1 (hts (.initialized RX4) (List.mem_of_getElem? (i := 15) rfl)) (by decide +kernel) ⟨Nat.le_of_ble_eq_true rfl, Nat.le_of_ble_eq_true rfl⟩, (hts (.static yX4_copyRow) (List.mem_of_getElem? (i := 14) rfl)), trivial⟩ (pS hK hN hP hD [21, 7] rfl rfl) rfl rfl hl.1 rfl (lv_room (Nat.le_of_ble_eq_true rfl)) dX0_copyFrom_74 ⟨Nat.zero_le _, Nat.zero_le _⟩) hP hD hS hA [21, 7] rfl rfl (ws' := (wB cA adB (setA (setA (setA (setA (setA (setA (setA vB 1 u1) 2 u2) 3 u3) 4 u4) 5 u5) 6 u6) 7 u7) ++ (wB cA adC vC))) rfl (fun H locs hP hD hS => ?_)
  refine lv_aload_n hx hb dX0_copyFrom_77 rfl (lv_at hl 1 rfl) ?_
  refine va_get (D := D) (ci := 0) (v := .ref (adC 8)) (C := RX0) (T := TX0) (N := 13) hx hb hts iw_X0_copyFrom_X0 hown hK hP 14 rfl rfl 7 (by decide) (hts (.fieldLink RX0 33 "FavourRings$Bank" "debtors" "[I") (List.mem_of_getElem? (i := 8) rfl)) (fun _ h9 => h9) rfl dX0_copyFrom_78 ?_
  refine lv_aload_n hx hb dX0_copyFrom_81 rfl (lv_at hl 0 rfl) ?_
  refine va_get (D := D) (ci := 0) (v := .ref (adB 8)) (C := RX0) (T := TX0) (N := 13) hx hb hts iw_X0_copyFrom_X0 hown hK hP 0 rfl rfl 7 (by decide) (hts (.fieldLink RX0 33 "FavourRings$Bank" "debtors" "[I") (List.mem_of_getElem? (i := 8) rfl)) (fun _ h9 => h9) rfl dX0_copyFrom_82 ?_
  obtain ⟨u8, eu8, h⟩ := bd_in h
  refine kV (va_runSN (As := [.ref (adC 8), .ref (adB 8)]) (rest := []) ⟨hx, hb, hml, hown, hts⟩ (c_X4_copyRow l D cA cQ (adC 8) 40 (adB 8) 40 (vC 8) (vB 8) u8 eu8 _) ⟨va_cnB 2 hts gX0_copyFrom_X4_copyRow_n59 rfl rfl rfl hN.2.2.1 (hts (.initialized RX4) (List.mem_of_getElem? (i := 15) rfl)) (by decide +kernel) ⟨Nat.le_of_ble_eq_true rfl, Nat.le_of_ble_eq_true rfl⟩, (hts (.static yX4_copyRow) (List.mem_of_getElem? (i := 14) rfl)), trivial⟩ (pS hK hN hP hD [22, 8] rfl rfl) rfl rfl hl.1 rfl (lv_room (Nat.le_of_ble_eq_true rfl)) dX0_copyFrom_85 ⟨Nat.zero_le _, Nat.zero_le _⟩) hP hD hS hA [22, 8] rfl rfl (ws' := (wB cA adB (setA (setA (setA (setA (setA (setA (setA (setA vB 1 u1) 2 u2) 3 u3) 4 u4) 5 u5) 6 u6) 7 u7) 8 u8) ++ (wB cA adC vC))) rfl (fun H locs hP hD hS => ?_)
  refine lv_aload_n hx hb dX0_copyFrom_88 rfl (lv_at hl 1 rfl) ?_
  refine va_get (D := D) (ci := 0) (v := .ref (adC 9)) (C := RX0) (T := TX0) (N := 13) hx hb hts iw_X0_copyFrom_X0 hown hK hP 14 rfl rfl 8 (by decide) (hts (.fieldLink RX0 36 "FavourRings$Bank" "creditors" "[I") (List.mem_of_getElem? (i := 9) rfl)) (fun _ h9 => h9) rfl dX0_copyFrom_89 ?_
  refine lv_aload_n hx hb dX0_copyFrom_92 rfl (lv_at hl 0 rfl) ?_
  refine va_get (D := D) (ci := 0) (v := .ref (adB 9)) (C := RX0) (T := TX0) (N := 13) hx hb hts iw_X0_copyFrom_X0 hown hK hP 0 rfl rfl 8 (by decide) (hts (.fieldLink RX0 36 "FavourRings$Bank" "creditors" "[I") (List.mem_of_getElem? (i := 9) rfl)) (fun _ h9 => h9) rfl dX0_copyFrom_93 ?_
  obtain ⟨u9, eu9, h⟩ := bd_in h
  refine kV (va_runSN (As := [.ref (adC 9), .ref (adB 9)]) (rest := []) ⟨hx, hb, hml, hown, hts⟩ (c_X4_copyRow l D cA cQ (adC 9) 40 (adB 9) 40 (vC 9) (vB 9) u9 eu9 _) ⟨va_cnB 2 hts gX0_copyFrom_X4_copyRow_n59 rfl rfl rfl hN.2.2.1 (hts (.initialized RX4) (List.mem_of_getElem? (i := 15) rfl)) (by decide +kernel) ⟨Nat.le_of_ble_eq_true rfl, Nat.le_of_ble_eq_true rfl⟩, (hts (.static yX4_copyRow) (List.mem_of_getElem? (i := 14) rfl)), trivial⟩ (pS hK hN hP hD [23, 9] rfl rfl) rfl rfl hl.1 rfl (lv_room (Nat.le_of_ble_eq_true rfl)) dX0_copyFrom_96 ⟨Nat.zero_le _, Nat.zero_le _⟩) hP hD hS hA [23, 9] rfl rfl (ws' := (wB cA adB (setA (setA (setA (setA (setA (setA (setA (setA (setA vB 1 u1) 2 u2) 3 u3) 4 u4) 5 u5) 6 u6) 7 u7) 8 u8) 9 u9) ++ (wB cA adC vC))) rfl (fun H locs hP hD hS => ?_)
  refine lv_aload_n hx hb dX0_copyFrom_99 rfl (lv_at hl 1 rfl) ?_
  refine va_get (D := D) (ci := 0) (v := .ref (adC 10)) (C := RX0) (T := TX0) (N := 13) hx hb hts iw_X0_copyFrom_X0 hown hK hP 14 rfl rfl 9 (by decide) (hts (.fieldLink RX0 39 "FavourRings$Bank" "kinds" "[I") (List.mem_of_getElem? (i := 10) rfl)) (fun _ h9 => h9) rfl dX0_copyFrom_100 ?_
  refine lv_aload_n hx hb dX0_copyFrom_103 rfl (lv_at hl 0 rfl) ?_
  refine va_get (D := D) (ci := 0) (v := .ref (adB 10)) (C := RX0) (T := TX0) (N := 13) hx hb hts iw_X0_copyFrom_X0 hown hK hP 0 rfl rfl 9 (by decide) (hts (.fieldLink RX0 39 "FavourRings$Bank" "kinds" "[I") (List.mem_of_getElem? (i := 10) rfl)) (fun _ h9 => h9) rfl dX0_copyFrom_104 ?_
  obtain ⟨u10, eu10, h⟩ := bd_in h
  refine kV (va_runSN (As := [.ref (adC 10), .ref (adB 10)]) (rest := []) ⟨hx, hb, hml, hown, hts⟩ (c_X4_copyRow l D cA cQ (adC 10) 40 (adB 10) 40 (vC 10) (vB 10) u10 eu10 _) ⟨va_cnB 2 hts gX0_copyFrom_X4_copyRow_n59 rfl rfl rfl hN.2.2.1 (hts (.initialized RX4) (List.mem_of_getElem? (i := 15) rfl)) (by decide +kernel) ⟨Nat.le_of_ble_eq_true rfl, Nat.le_of_ble_eq_true rfl⟩, (hts (.static yX4_copyRow) (List.mem_of_getElem? (i := 14) rfl)), trivial⟩ (pS hK hN hP hD [24, 10] rfl rfl) rfl rfl hl.1 rfl (lv_room (Nat.le_of_ble_eq_true rfl)) dX0_copyFrom_107 ⟨Nat.zero_le _, Nat.zero_le _⟩) hP hD hS hA [24, 10] rfl rfl (ws' := (wB cA adB (setA (setA (setA (setA (setA (setA (setA (setA (setA (setA vB 1 u1) 2 u2) 3 u3) 4 u4) 5 u5) 6 u6) 7 u7) 8 u8) 9 u9) 10 u10) ++ (wB cA adC vC))) rfl (fun H locs hP hD hS => ?_)
  refine lv_aload_n hx hb dX0_copyFrom_110 rfl (lv_at hl 1 rfl) ?_
  refine va_get (D := D) (ci := 0) (v := .ref (adC 11)) (C := RX0) (T := TX0) (N := 13) hx hb hts iw_X0_copyFrom_X0 hown hK hP 14 rfl rfl 10 (by decide) (hts (.fieldLink RX0 42 "FavourRings$Bank" "sizes" "[I") (List.mem_of_getElem? (i := 11) rfl)) (fun _ h9 => h9) rfl dX0_copyFrom_111 ?_
  refine lv_aload_n hx hb dX0_copyFrom_114 rfl (lv_at hl 0 rfl) ?_
  refine va_get (D := D) (ci := 0) (v := .ref (adB 11)) (C := RX0) (T := TX0) (N := 13) hx hb hts iw_X0_copyFrom_X0 hown hK hP 0 rfl rfl 10 (by decide) (hts (.fieldLink RX0 42 "FavourRings$Bank" "sizes" "[I") (List.mem_of_getElem? (i := 11) rfl)) (fun _ h9 => h9) rfl dX0_copyFrom_115 ?_
  obtain ⟨u11, eu11, h⟩ := bd_in h
  refine kV (va_runSN (As := [.ref (adC 11), .ref (adB 11)]) (rest := []) ⟨hx, hb, hml, hown, hts⟩ (c_X4_copyRow l D cA cQ (adC 11) 40 (adB 11) 40 (vC 11) (vB 11) u11 eu11 _) ⟨va_cnB 2 hts gX0_copyFrom_X4_copyRow_n59 rfl rfl rfl hN.2.2.1 (hts (.initialized RX4) (List.mem_of_getElem? (i := 15) rfl)) (by decide +kernel) ⟨Nat.le_of_ble_eq_true rfl, Nat.le_of_ble_eq_true rfl⟩, (hts (.static yX4_copyRow) (List.mem_of_getElem? (i := 14) rfl)), trivial⟩ (pS hK hN hP hD [25, 11] rfl rfl) rfl rfl hl.1 rfl (lv_room (Nat.le_of_ble_eq_true rfl)) dX0_copyFrom_118 ⟨Nat.zero_le _, Nat.zero_le _⟩) hP hD hS hA [25, 11] rfl rfl (ws' := (wB cA adB (setA (setA (setA (setA (setA (setA (setA (setA (setA (setA (setA vB 1 u1) 2 u2) 3 u3) 4 u4) 5 u5) 6 u6) 7 u7) 8 u8) 9 u9) 10 u10) 11 u11) ++ (wB cA adC vC))) rfl (fun H locs hP hD hS => ?_)
  refine lv_aload_n hx hb dX0_copyFrom_121 rfl (lv_at hl 1 rfl) ?_
  refine va_get (D := D) (ci := 0) (v := .ref (adC 12)) (C := RX0) (T := TX0) (N := 13) hx hb hts iw_X0_copyFrom_X0 hown hK hP 14 rfl rfl 11 (by decide) (hts (.fieldLink RX0 45 "FavourRings$Bank" "ages" "[I") (List.mem_of_getElem? (i := 12) rfl)) (fun _ h9 => h9) rfl dX0_copyFrom_122 ?_
  refine lv_aload_n hx hb dX0_copyFrom_125 rfl (lv_at hl 0 rfl) ?_
  refine va_get (D := D) (ci := 0) (v := .ref (adB 12)) (C := RX0) (T := TX0) (N := 13) hx hb hts iw_X0_copyFrom_X0 hown hK hP 0 rfl rfl 11 (by decide) (hts (.fieldLink RX0 45 "FavourRings$Bank" "ages" "[I") (List.mem_of_getElem? (i := 12) rfl)) (fun _ h9 => h9) rfl dX0_copyFrom_126 ?_
  obtain ⟨u12, eu12, h⟩ := bd_in h
  refine kV (va_runSN (As := [.ref (adC 12), .ref (adB 12)]) (rest := []) ⟨hx, hb, hml, hown, hts⟩ (c_X4_copyRow l D cA cQ (adC 12) 40 (adB 12) 40 (vC 12) (vB 12) u12 eu12 _) ⟨va_cnB 2 hts gX0_copyFrom_X4_copyRow_n59 rfl rfl rfl hN.2.2.1 (hts (.initialized RX4) (List.mem_of_getElem? (i := 15) rfl)) (by decide +kernel) ⟨Nat.le_of_ble_eq_true rfl, Nat.le_of_ble_eq_true rfl⟩, (hts (.static yX4_copyRow) (List.mem_of_getElem? (i := 14) rfl)), trivial⟩ (pS hK hN hP hD [26, 12] rfl rfl) rfl rfl hl.1 rfl (lv_room (Nat.le_of_ble_eq_true rfl)) dX0_copyFrom_129 ⟨Nat.zero_le _, Nat.zero_le _⟩) hP hD hS hA [26, 12] rfl rfl (ws' := (wB cA adB (setA (setA (setA (setA (setA (setA (setA (setA (setA (setA (setA (setA vB 1 u1) 2 u2) 3 u3) 4 u4) 5 u5) 6 u6) 7 u7) 8 u8) 9 u9) 10 u10) 11 u11) 12 u12) ++ (wB cA adC vC))) rfl (fun H locs hP hD hS => ?_)
  refine lv_aload_n hx hb dX0_copyFrom_132 rfl (lv_at hl 1 rfl) ?_
  refine va_get (D := D) (ci := 0) (v := .ref (adC 13)) (C := RX0) (T := TX0) (N := 13) hx hb hts iw_X0_copyFrom_X0 hown hK hP 14 rfl rfl 12 (by decide) (hts (.fieldLink RX0 48 "FavourRings$Bank" "passed" "[I") (List.mem_of_getElem? (i := 13) rfl)) (fun _ h9 => h9) rfl dX0_copyFrom_133 ?_
  refine lv_aload_n hx hb dX0_copyFrom_136 rfl (lv_at hl 0 rfl) ?_
  refine va_get (D := D) (ci := 0) (v := .ref (adB 13)) (C := RX0) (T := TX0) (N := 13) hx hb hts iw_X0_copyFrom_X0 hown hK hP 0 rfl rfl 12 (by decide) (hts (.fieldLink RX0 48 "FavourRings$Bank" "passed" "[I") (List.mem_of_getElem? (i := 13) rfl)) (fun _ h9 => h9) rfl dX0_copyFrom_137 ?_
  obtain ⟨u13, eu13, h⟩ := bd_in h
  refine kV (va_runSN (As := [.ref (adC 13), .ref (adB 13)]) (rest := []) ⟨hx, hb, hml, hown, hts⟩ (c_X4_copyRow l D cA cQ (adC 13) 40 (adB 13) 40 (vC 13) (vB 13) u13 eu13 _) ⟨va_cnB 2 hts gX0_copyFrom_X4_copyRow_n59 rfl rfl rfl hN.2.2.1 (hts (.initialized RX4) (List.mem_of_getElem? (i := 15) rfl)) (by decide +kernel) ⟨Nat.le_of_ble_eq_true rfl, Nat.le_of_ble_eq_true rfl⟩, (hts (.static yX4_copyRow) (List.mem_of_getElem? (i := 14) rfl)), trivial⟩ (pS hK hN hP hD [27, 13] rfl rfl) rfl rfl hl.1 rfl (lv_room (Nat.le_of_ble_eq_true rfl)) dX0_copyFrom_140 ⟨Nat.zero_le _, Nat.zero_le _⟩) hP hD hS hA [27, 13] rfl rfl (ws' := (wB cA adB (setA (setA (setA (setA (setA (setA (setA (setA (setA (setA (setA (setA (setA vB 1 u1) 2 u2) 3 u3) 4 u4) 5 u5) 6 u6) 7 u7) 8 u8) 9 u9) 10 u10) 11 u11) 12 u12) 13 u13) ++ (wB cA adC vC))) rfl (fun H locs hP hD hS => ?_)
  cases h
  exact endV hx hb hr hlocks hP hS dX0_copyFrom_143
theorem iw_X4_freshTrial_X4 : ∀ w ∈ wsX40, w ∈ wsX4_freshTrial := fun _ h => List.mem_cons_of_mem _ (List.mem_append_left _ (List.mem_append_right _ (h)))
set_option maxHeartbeats 4000000 in
set_option maxRecDepth 100000 in
theorem c_X4_freshTrial (l : Launch) (D : va_G) (cA cQ : ClassId) (adF : Nat) (adB : Nat → Nat) (adT : Nat → Nat) (adH : Nat → Nat) (kH : Nat → Nat → Nat) (adR : Nat → Nat) (adO : Nat → Nat) (vB : St) (vT : St) (vH : St) (bH : Nat → St) (vR : St) (vO : St) (o : St) (hf : X4_freshTrial vB vT vH bH vR vO = some o) : Ctr l yX4_freshTrial wsX4_freshTrial ({ frames := 3, cells := 0, slots := 0, locals := 102 }) D (TY cA cQ) [.ref adF] (wF cA cQ adF adB adT adH kH adR adO vB vT vH bH vR vO) (wF cA cQ adF adB adT adH kH adR adO vB o vH bH vR vO) (adT 0) := by
  refine Wk.r (cc := cX4_freshTrial) (maxL := 1) (ret := (some (.object "FavourRings$Bank"))) (by decide) rfl (Nat.le_of_ble_eq_true rfl) ?_
  intro p e s m below meth c A ls hx hb hr hlocks hml hown hts hK hN hP hD hA hl
  have hown : s.vm.findClass RX4 = some m.cls := hown
  have hS : va_S A s.heap s.heap [] := va_S.rf
  have hl : lv_has ls 1 [(0, .ref adF)] := hl
  have h := hf
  unfold X4_freshTrial at h
  refine lv_aload_n hx hb dX4_freshTrial_0 rfl (lv_at hl 0 rfl) ?_
  refine va_get (D := D) (ci := 4) (v := .ref (adT 0)) (C := RX4) (T := TX4) (N := 5) hx hb hts iw_X4_freshTrial_X4 hown hK hP 0 rfl rfl 1 (by decide) (hts (.fieldLink RX4 16 "FavourRings" "trial" "LFavourRings$Bank;") (List.mem_of_getElem? (i := 1) rfl)) (fun _ h9 => h9) rfl dX4_freshTrial_1 ?_
  refine lv_aload_n hx hb dX4_freshTrial_4 rfl (lv_at hl 0 rfl) ?_
  refine va_get (D := D) (ci := 4) (v := .ref (adB 0)) (C := RX4) (T := TX4) (N := 5) hx hb hts iw_X4_freshTrial_X4 hown hK hP 0 rfl rfl 0 (by decide) (hts (.fieldLink RX4 10 "FavourRings" "bank" "LFavourRings$Bank;") (List.mem_of_getElem? (i := 2) rfl)) (fun _ h9 => h9) rfl dX4_freshTrial_5 ?_
  obtain ⟨u1, eu1, h⟩ := bd_in h
  refine kV (va_runV (As := [.ref (adB 0)]) (rest := []) ⟨hx, hb, hml, hown, hts⟩ (c_X0_copyFrom l D cA cQ adT adB vT vB u1 eu1 _) (cwV 1 hts gX4_freshTrial_X0_copyFrom rfl rfl rfl (by decide +kernel) ⟨Nat.le_of_ble_eq_true rfl, Nat.le_of_ble_eq_true rfl⟩) (pV (ci := 0) (q := (RX0, TX0, 13)) hK hN hP hD [15, 16, 17, 18, 19, 20, 21, 22, 23, 24, 25, 26, 27, 28, 1, 2, 3, 4, 5, 6, 7, 8, 9, 10, 11, 12, 13, 14] rfl rfl rfl rfl) rfl rfl hl.1 rfl (lv_room (Nat.le_of_ble_eq_true rfl)) dX4_freshTrial_8 ⟨Nat.zero_le _, Nat.zero_le _⟩) hP hD hS hA [15, 16, 17, 18, 19, 20, 21, 22, 23, 24, 25, 26, 27, 28, 1, 2, 3, 4, 5, 6, 7, 8, 9, 10, 11, 12, 13, 14] rfl rfl (ws' := (wF cA cQ adF adB adT adH kH adR adO vB u1 vH bH vR vO)) rfl (fun H locs hP hD hS => ?_)
  refine lv_aload_n hx hb dX4_freshTrial_11 rfl (lv_at hl 0 rfl) ?_
  refine va_get (D := D) (ci := 4) (v := .ref (adT 0)) (C := RX4) (T := TX4) (N := 5) hx hb hts iw_X4_freshTrial_X4 hown hK hP 0 rfl rfl 1 (by decide) (hts (.fieldLink RX4 16 "FavourRings" "trial" "LFavourRings$Bank;") (List.mem_of_getElem? (i := 1) rfl)) (fun _ h9 => h9) rfl dX4_freshTrial_12 ?_
  cases h
  exact endR hx hb hr (Or.inl ⟨_, rfl⟩) hlocks hP hS dX4_freshTrial_15
theorem iw_X0_addPupil_X0 : ∀ w ∈ wsX00, w ∈ wsX0_addPupil := fun _ h => List.mem_cons_of_mem _ (List.mem_append_right _ (h))
set_option maxHeartbeats 4000000 in
set_option maxRecDepth 100000 in
theorem c_X0_addPupil (l : Launch) (D : va_G) (cA cQ : ClassId) (adB : Nat → Nat) (vB : St) (o : Int32 × St) (hf : X0_addPupil vB = some o) : Cti l yX0_addPupil wsX0_addPupil ({ frames := 1, cells := 0, slots := 0, locals := 22 }) D (TY cA cQ) [.ref (adB 0)] (wB cA adB vB) (wB cA adB o.2) o.1 := by
  refine Wk.i (cc := cX0_addPupil) (maxL := 1) (ret := (some .int)) (by decide) rfl (Nat.le_of_ble_eq_true rfl) ?_
  intro p e s m below meth c A ls hx hb hr hlocks hml hown hts hK hN hP hD hA hl
  have hown : s.vm.findClass RX0 = some m.cls := hown
  have hS : va_S A s.heap s.heap [] := va_S.rf
  have hl : lv_has ls 1 [(0, .ref (adB 0))] := hl
  have h := hf
  unfold X0_addPupil at h
  refine lv_aload_n hx hb dX0_addPupil_0 rfl (lv_at hl 0 rfl) ?_
  refine lv_iconst (v := (1 : Int32)) hx hb dX0_addPupil_1 (by decide) ?_
  obtain ⟨u1, eu1, h⟩ := bd_in h
  refine kI (va_runV (As := [.int (1 : Int32)]) (rest := []) ⟨hx, hb, hml, hown, hts⟩ (c_X0_number l D cA cQ adB vB (1 : Int32) u1 eu1 _) (cwV 1 hts gX0_addPupil_X0_number rfl rfl rfl (by decide +kernel) ⟨Nat.le_of_ble_eq_true rfl, Nat.le_of_ble_eq_true rfl⟩) (pV (ci := 0) (q := (RX0, TX0, 13)) hK hN hP hD [0, 1, 2, 3, 4, 5, 6, 7, 8, 9, 10, 11, 12, 13] rfl rfl rfl rfl) rfl rfl hl.1 rfl (lv_room (Nat.le_of_ble_eq_true rfl)) dX0_addPupil_2 ⟨Nat.zero_le _, Nat.zero_le _⟩) hP hD hS hA [0, 1, 2, 3, 4, 5, 6, 7, 8, 9, 10, 11, 12, 13] rfl rfl (ws' := (wB cA adB vB)) rfl (fun H locs hP hD hS => ?_)
  refine lv_bipush (v := (8 : Int32)) hx hb dX0_addPupil_5 (by decide) ?_
  refine lv_icmp_lt (tgt := 13) hx hb dX0_addPupil_7 (by decide) (fun c2 => ?_) (fun c2 => ?_)
  · have h := (if_pos c2).symm.trans h
    refine lv_aload_n hx hb dX0_addPupil_13 rfl (lv_at hl 0 rfl) ?_
    refine va_get (D := D) (ci := 0) (v := .ref (adB 1)) (C := RX0) (T := TX0) (N := 13) hx hb hts iw_X0_addPupil_X0 hown hK hP 0 rfl rfl 0 (by decide) (hts (.fieldLink RX0 9 "FavourRings$Bank" "numbers" "[I") (List.mem_of_getElem? (i := 2) rfl)) (fun _ h9 => h9) rfl dX0_addPupil_14 ?_
    refine lv_iconst (v := (1 : Int32)) hx hb dX0_addPupil_17 (by decide) ?_
    refine lv_iconst (v := (1 : Int32)) hx hb dX0_addPupil_18 (by decide) ?_
    obtain ⟨u3, eu3, h⟩ := bd_in h
    refine kV (va_runSN (As := [.ref (adB 1), .int (1 : Int32), .int (1 : Int32)]) (rest := []) ⟨hx, hb, hml, hown, hts⟩ (c_X4_add l D cA cQ (adB 1) 26 (vB 1) (1 : Int32) (1 : Int32) u3 eu3 _) ⟨va_cnB 3 hts gX0_addPupil_X4_add_n86 rfl rfl rfl hN.2.2.2.2.1 (hts (.initialized RX4) (List.mem_of_getElem? (i := 9) rfl)) (by decide +kernel) ⟨Nat.le_of_ble_eq_true rfl, Nat.le_of_ble_eq_true rfl⟩, (hts (.static yX4_add) (List.mem_of_getElem? (i := 8) rfl)), trivial⟩ (pS hK hN hP hD [1] rfl rfl) rfl rfl hl.1 rfl (lv_room (Nat.le_of_ble_eq_true rfl)) dX0_addPupil_19 ⟨Nat.zero_le _, Nat.zero_le _⟩) hP hD hS hA [1] rfl rfl (ws' := (wB cA adB (setA vB 1 u3))) rfl (fun H locs hP hD hS => ?_)
    refine lv_aload_n hx hb dX0_addPupil_22 rfl (lv_at hl 0 rfl) ?_
    refine lv_iconst (v := (1 : Int32)) hx hb dX0_addPupil_23 (by decide) ?_
    obtain ⟨u4, eu4, h⟩ := bd_in h
    refine kI (va_runV (As := [.int (1 : Int32)]) (rest := []) ⟨hx, hb, hml, hown, hts⟩ (c_X0_number l D cA cQ adB (setA vB 1 u3) (1 : Int32) u4 eu4 _) (cwV 1 hts gX0_addPupil_X0_number rfl rfl rfl (by decide +kernel) ⟨Nat.le_of_ble_eq_true rfl, Nat.le_of_ble_eq_true rfl⟩) (pV (ci := 0) (q := (RX0, TX0, 13)) hK hN hP hD [0, 1, 2, 3, 4, 5, 6, 7, 8, 9, 10, 11, 12, 13] rfl rfl rfl rfl) rfl rfl hl.1 rfl (lv_room (Nat.le_of_ble_eq_true rfl)) dX0_addPupil_24 ⟨Nat.zero_le _, Nat.zero_le _⟩) hP hD hS hA [0, 1, 2, 3, 4, 5, 6, 7, 8, 9, 10, 11, 12, 13] rfl rfl (ws' := (wB cA adB (setA vB 1 u3))) rfl (fun H locs hP hD hS => ?_)
    refine lv_iconst (v := (1 : Int32)) hx hb dX0_addPupil_27 (by decide) ?_
    refine lv_isub hx hb dX0_addPupil_28 ?_
    cases h
    exact endI hx hb hr hlocks hP hS rfl dX0_addPupil_29
  · have h := (if_neg c2).symm.trans h
    refine lv_ldc (v := (-1000003 : Int32)) hx hb hown (hts (.constant RX0 85 (-1000003)) (List.mem_of_getElem? (i := 1) rfl)) dX0_addPupil_10 ?_
    cases h
    exact endI hx hb hr hlocks hP hS rfl dX0_addPupil_12
theorem iw_X1_dropOldest_X1 : ∀ w ∈ wsX10, w ∈ wsX1_dropOldest := fun _ h => List.mem_cons_of_mem _ (List.mem_append_left _ (List.mem_append_right _ (h)))
set_option maxHeartbeats 4000000 in
set_option maxRecDepth 100000 in
theorem c_X1_dropOldest (l : Launch) (D : va_G) (cA cQ : ClassId) (adH : Nat → Nat) (kH : Nat → Nat → Nat) (vH : St) (bH : Nat → St) (o : St × (Nat → St)) (hf : X1_dropOldest vH bH = some o) : Ctv l yX1_dropOldest wsX1_dropOldest ({ frames := 3, cells := 0, slots := 0, locals := 102 }) D (TY cA cQ) [.ref (adH 0)] (wH cA cQ adH vH kH bH) (wH cA cQ adH o.1 kH o.2) := by
  refine Wk.v (cc := cX1_dropOldest) (maxL := 2) (ret := none) (by decide) rfl (Nat.le_of_ble_eq_true rfl) ?_
  intro p e s m below meth c A ls hx hb hr hlocks hml hown hts hK hN hP hD hA hl
  have hown : s.vm.findClass RX1 = some m.cls := hown
  have hS : va_S A s.heap s.heap [] := va_S.rf
  have hl : lv_has ls 2 [(0, .ref (adH 0))] := hl
  have h := hf
  unfold X1_dropOldest at h
  refine lv_iconst (v := (1 : Int32)) hx hb dX1_dropOldest_0 (by decide) ?_
  refine lv_istore_n (lv' := [(1, .int (1 : Int32)), (0, .ref (adH 0))]) hx hb dX1_dropOldest_1 rfl hl (by decide) rfl (fun ls hl => ?_)
  refine lv_iload_n hx hb dX1_dropOldest_2 rfl (lv_at hl 0 rfl) ?_
  refine lv_aload_n hx hb dX1_dropOldest_3 rfl (lv_at hl 1 rfl) ?_
  refine va_get (D := D) (ci := 1) (v := .ref (adH 1)) (C := RX1) (T := TX1) (N := 2) hx hb hts iw_X1_dropOldest_X1 hown hK hP 0 rfl rfl 0 (by decide) (hts (.fieldLink RX1 11 "FavourRings$History" "states" "[LFavourRings$Bank;") (List.mem_of_getElem? (i := 1) rfl)) (fun _ h9 => h9) rfl dX1_dropOldest_4 ?_
  refine va_alen hx hb hK hP 1 1 rfl rfl (v := (4 : Int32)) rfl dX1_dropOldest_7 ?_
  refine lv_icmp_ge (tgt := 54) hx hb dX1_dropOldest_8 (by decide) (fun c1 => ?_) (fun c1 => ?_)
  · exact absurd c1 (by decide)
  · skip
    refine lv_aload_n hx hb dX1_dropOldest_11 rfl (lv_at hl 1 rfl) ?_
    refine va_get (D := D) (ci := 1) (v := .ref (adH 1)) (C := RX1) (T := TX1) (N := 2) hx hb hts iw_X1_dropOldest_X1 hown hK hP 0 rfl rfl 0 (by decide) (hts (.fieldLink RX1 11 "FavourRings$History" "states" "[LFavourRings$Bank;") (List.mem_of_getElem? (i := 1) rfl)) (fun _ h9 => h9) rfl dX1_dropOldest_12 ?_
    refine lv_iload_n hx hb dX1_dropOldest_15 rfl (lv_at hl 0 rfl) ?_
    refine lv_iconst (v := (1 : Int32)) hx hb dX1_dropOldest_16 (by decide) ?_
    refine lv_isub hx hb dX1_dropOldest_17 ?_
    refine aaR (k := 0) (b := kH 0 0) hx hb hK hP 1 1 rfl rfl rfl (by decide) (vp_in_iff.mpr (by decide)) rfl dX1_dropOldest_18 ?_
    refine lv_ifnull hx hb dX1_dropOldest_19 ?_
    refine lv_aload_n hx hb dX1_dropOldest_22 rfl (lv_at hl 1 rfl) ?_
    refine va_get (D := D) (ci := 1) (v := .ref (adH 1)) (C := RX1) (T := TX1) (N := 2) hx hb hts iw_X1_dropOldest_X1 hown hK hP 0 rfl rfl 0 (by decide) (hts (.fieldLink RX1 11 "FavourRings$History" "states" "[LFavourRings$Bank;") (List.mem_of_getElem? (i := 1) rfl)) (fun _ h9 => h9) rfl dX1_dropOldest_23 ?_
    refine lv_iload_n hx hb dX1_dropOldest_26 rfl (lv_at hl 0 rfl) ?_
    refine aaR (k := 1) (b := kH 1 0) hx hb hK hP 1 1 rfl rfl rfl (by decide) (vp_in_iff.mpr (by decide)) rfl dX1_dropOldest_27 ?_
    refine lv_ifnull hx hb dX1_dropOldest_28 ?_
    refine lv_aload_n hx hb dX1_dropOldest_31 rfl (lv_at hl 1 rfl) ?_
    refine va_get (D := D) (ci := 1) (v := .ref (adH 1)) (C := RX1) (T := TX1) (N := 2) hx hb hts iw_X1_dropOldest_X1 hown hK hP 0 rfl rfl 0 (by decide) (hts (.fieldLink RX1 11 "FavourRings$History" "states" "[LFavourRings$Bank;") (List.mem_of_getElem? (i := 1) rfl)) (fun _ h9 => h9) rfl dX1_dropOldest_32 ?_
    refine lv_iload_n hx hb dX1_dropOldest_35 rfl (lv_at hl 0 rfl) ?_
    refine lv_iconst (v := (1 : Int32)) hx hb dX1_dropOldest_36 (by decide) ?_
    refine lv_isub hx hb dX1_dropOldest_37 ?_
    refine aaR (k := 0) (b := kH 0 0) hx hb hK hP 1 1 rfl rfl rfl (by decide) (vp_in_iff.mpr (by decide)) rfl dX1_dropOldest_38 ?_
    refine lv_aload_n hx hb dX1_dropOldest_39 rfl (lv_at hl 1 rfl) ?_
    refine va_get (D := D) (ci := 1) (v := .ref (adH 1)) (C := RX1) (T := TX1) (N := 2) hx hb hts iw_X1_dropOldest_X1 hown hK hP 0 rfl rfl 0 (by decide) (hts (.fieldLink RX1 11 "FavourRings$History" "states" "[LFavourRings$Bank;") (List.mem_of_getElem? (i := 1) rfl)) (fun _ h9 => h9) rfl dX1_dropOldest_40 ?_
    refine lv_iload_n hx hb dX1_dropOldest_43 rfl (lv_at hl 0 rfl) ?_
    refine aaR (k := 1) (b := kH 1 0) hx hb hK hP 1 1 rfl rfl rfl (by decide) (vp_in_iff.mpr (by decide)) rfl dX1_dropOldest_44 ?_
    obtain ⟨u2, eu2, h⟩ := bd_in h
    refine kV (va_runV (As := [.ref ((kH 1) 0)]) (rest := []) ⟨hx, hb, hml, hown, hts⟩ (c_X0_copyFrom l D cA cQ (kH 0) (kH 1) (bH 0) (bH 1) u2 eu2 _) (cwV 1 hts gX1_dropOldest_X0_copyFrom rfl rfl rfl (by decide +kernel) ⟨Nat.le_of_ble_eq_true rfl, Nat.le_of_ble_eq_true rfl⟩) (pV (ci := 0) (q := (RX0, TX0, 13)) hK hN hP hD [2, 3, 4, 5, 6, 7, 8, 9, 10, 11, 12, 13, 14, 15, 16, 17, 18, 19, 20, 21, 22, 23, 24, 25, 26, 27, 28, 29] rfl rfl rfl rfl) rfl rfl hl.1 rfl (lv_room (Nat.le_of_ble_eq_true rfl)) dX1_dropOldest_45 ⟨Nat.zero_le _, Nat.zero_le _⟩) hP hD hS hA [2, 3, 4, 5, 6, 7, 8, 9, 10, 11, 12, 13, 14, 15, 16, 17, 18, 19, 20, 21, 22, 23, 24, 25, 26, 27, 28, 29] rfl rfl (ws' := (wH cA cQ adH vH kH (setB bH 0 u2))) rfl (fun H locs hP hD hS => ?_)
    refine lv_iinc (v := (2 : Int32)) (lv' := [(1, .int (2 : Int32)), (0, .ref (adH 0))]) hx hb dX1_dropOldest_48 hl (k := 0) rfl rfl (by decide) rfl (fun ls hl => ?_)
    refine lv_goto (tgt := 2) hx hb dX1_dropOldest_51 (by decide) ?_
    refine lv_iload_n hx hb dX1_dropOldest_2 rfl (lv_at hl 0 rfl) ?_
    refine lv_aload_n hx hb dX1_dropOldest_3 rfl (lv_at hl 1 rfl) ?_
    refine va_get (D := D) (ci := 1) (v := .ref (adH 1)) (C := RX1) (T := TX1) (N := 2) hx hb hts iw_X1_dropOldest_X1 hown hK hP 0 rfl rfl 0 (by decide) (hts (.fieldLink RX1 11 "FavourRings$History" "states" "[LFavourRings$Bank;") (List.mem_of_getElem? (i := 1) rfl)) (fun _ h9 => h9) rfl dX1_dropOldest_4 ?_
    refine va_alen hx hb hK hP 1 1 rfl rfl (v := (4 : Int32)) rfl dX1_dropOldest_7 ?_
    refine lv_icmp_ge (tgt := 54) hx hb dX1_dropOldest_8 (by decide) (fun c3 => ?_) (fun c3 => ?_)
    · exact absurd c3 (by decide)
    · skip
      refine lv_aload_n hx hb dX1_dropOldest_11 rfl (lv_at hl 1 rfl) ?_
      refine va_get (D := D) (ci := 1) (v := .ref (adH 1)) (C := RX1) (T := TX1) (N := 2) hx hb hts iw_X1_dropOldest_X1 hown hK hP 0 rfl rfl 0 (by decide) (hts (.fieldLink RX1 11 "FavourRings$History" "states" "[LFavourRings$Bank;") (List.mem_of_getElem? (i := 1) rfl)) (fun _ h9 => h9) rfl dX1_dropOldest_12 ?_
      refine lv_iload_n hx hb dX1_dropOldest_15 rfl (lv_at hl 0 rfl) ?_
      refine lv_iconst (v := (1 : Int32)) hx hb dX1_dropOldest_16 (by decide) ?_
      refine lv_isub hx hb dX1_dropOldest_17 ?_
      refine aaR (k := 1) (b := kH 1 0) hx hb hK hP 1 1 rfl rfl rfl (by decide) (vp_in_iff.mpr (by decide)) rfl dX1_dropOldest_18 ?_
      refine lv_ifnull hx hb dX1_dropOldest_19 ?_
      refine lv_aload_n hx hb dX1_dropOldest_22 rfl (lv_at hl 1 rfl) ?_
      refine va_get (D := D) (ci := 1) (v := .ref (adH 1)) (C := RX1) (T := TX1) (N := 2) hx hb hts iw_X1_dropOldest_X1 hown hK hP 0 rfl rfl 0 (by decide) (hts (.fieldLink RX1 11 "FavourRings$History" "states" "[LFavourRings$Bank;") (List.mem_of_getElem? (i := 1) rfl)) (fun _ h9 => h9) rfl dX1_dropOldest_23 ?_
      refine lv_iload_n hx hb dX1_dropOldest_26 rfl (lv_at hl 0 rfl) ?_
      refine aaR (k := 2) (b := kH 2 0) hx hb hK hP 1 1 rfl rfl rfl (by decide) (vp_in_iff.mpr (by decide)) rfl dX1_dropOldest_27 ?_
      refine lv_ifnull hx hb dX1_dropOldest_28 ?_
      refine lv_aload_n hx hb dX1_dropOldest_31 rfl (lv_at hl 1 rfl) ?_
      refine va_get (D := D) (ci := 1) (v := .ref (adH 1)) (C := RX1) (T := TX1) (N := 2) hx hb hts iw_X1_dropOldest_X1 hown hK hP 0 rfl rfl 0 (by decide) (hts (.fieldLink RX1 11 "FavourRings$History" "states" "[LFavourRings$Bank;") (List.mem_of_getElem? (i := 1) rfl)) (fun _ h9 => h9) rfl dX1_dropOldest_32 ?_
      refine lv_iload_n hx hb dX1_dropOldest_35 rfl (lv_at hl 0 rfl) ?_
      refine lv_iconst (v := (1 : Int32)) hx hb dX1_dropOldest_36 (by decide) ?_
      refine lv_isub hx hb dX1_dropOldest_37 ?_
      refine aaR (k := 1) (b := kH 1 0) hx hb hK hP 1 1 rfl rfl rfl (by decide) (vp_in_iff.mpr (by decide)) rfl dX1_dropOldest_38 ?_
      refine lv_aload_n hx hb dX1_dropOldest_39 rfl (lv_at hl 1 rfl) ?_
      refine va_get (D := D) (ci := 1) (v := .ref (adH 1)) (C := RX1) (T := TX1) (N := 2) hx hb hts iw_X1_dropOldest_X1 hown hK hP 0 rfl rfl 0 (by decide) (hts (.fieldLink RX1 11 "FavourRings$History" "states" "[LFavourRings$Bank;") (List.mem_of_getElem? (i := 1) rfl)) (fun _ h9 => h9) rfl dX1_dropOldest_40 ?_
      refine lv_iload_n hx hb dX1_dropOldest_43 rfl (lv_at hl 0 rfl) ?_
      refine aaR (k := 2) (b := kH 2 0) hx hb hK hP 1 1 rfl rfl rfl (by decide) (vp_in_iff.mpr (by decide)) rfl dX1_dropOldest_44 ?_
      obtain ⟨u4, eu4, h⟩ := bd_in h
      refine kV (va_runV (As := [.ref ((kH 2) 0)]) (rest := []) ⟨hx, hb, hml, hown, hts⟩ (c_X0_copyFrom l D cA cQ (kH 1) (kH 2) (bH 1) (bH 2) u4 eu4 _) (cwV 1 hts gX1_dropOldest_X0_copyFrom rfl rfl rfl (by decide +kernel) ⟨Nat.le_of_ble_eq_true rfl, Nat.le_of_ble_eq_true rfl⟩) (pV (ci := 0) (q := (RX0, TX0, 13)) hK hN hP hD [16, 17, 18, 19, 20, 21, 22, 23, 24, 25, 26, 27, 28, 29, 30, 31, 32, 33, 34, 35, 36, 37, 38, 39, 40, 41, 42, 43] rfl rfl rfl rfl) rfl rfl hl.1 rfl (lv_room (Nat.le_of_ble_eq_true rfl)) dX1_dropOldest_45 ⟨Nat.zero_le _, Nat.zero_le _⟩) hP hD hS hA [16, 17, 18, 19, 20, 21, 22, 23, 24, 25, 26, 27, 28, 29, 30, 31, 32, 33, 34, 35, 36, 37, 38, 39, 40, 41, 42, 43] rfl rfl (ws' := (wH cA cQ adH vH kH (setB (setB bH 0 u2) 1 u4))) rfl (fun H locs hP hD hS => ?_)
      refine lv_iinc (v := (3 : Int32)) (lv' := [(1, .int (3 : Int32)), (0, .ref (adH 0))]) hx hb dX1_dropOldest_48 hl (k := 0) rfl rfl (by decide) rfl (fun ls hl => ?_)
      refine lv_goto (tgt := 2) hx hb dX1_dropOldest_51 (by decide) ?_
      refine lv_iload_n hx hb dX1_dropOldest_2 rfl (lv_at hl 0 rfl) ?_
      refine lv_aload_n hx hb dX1_dropOldest_3 rfl (lv_at hl 1 rfl) ?_
      refine va_get (D := D) (ci := 1) (v := .ref (adH 1)) (C := RX1) (T := TX1) (N := 2) hx hb hts iw_X1_dropOldest_X1 hown hK hP 0 rfl rfl 0 (by decide) (hts (.fieldLink RX1 11 "FavourRings$History" "states" "[LFavourRings$Bank;") (List.mem_of_getElem? (i := 1) rfl)) (fun _ h9 => h9) rfl dX1_dropOldest_4 ?_
      refine va_alen hx hb hK hP 1 1 rfl rfl (v := (4 : Int32)) rfl dX1_dropOldest_7 ?_
      refine lv_icmp_ge (tgt := 54) hx hb dX1_dropOldest_8 (by decide) (fun c5 => ?_) (fun c5 => ?_)
      · exact absurd c5 (by decide)
      · skip
        refine lv_aload_n hx hb dX1_dropOldest_11 rfl (lv_at hl 1 rfl) ?_
        refine va_get (D := D) (ci := 1) (v := .ref (adH 1)) (C := RX1) (T := TX1) (N := 2) hx hb hts iw_X1_dropOldest_X1 hown hK hP 0 rfl rfl 0 (by decide) (hts (.fieldLink RX1 11 "FavourRings$History" "states" "[LFavourRings$Bank;") (List.mem_of_getElem? (i := 1) rfl)) (fun _ h9 => h9) rfl dX1_dropOldest_12 ?_
        refine lv_iload_n hx hb dX1_dropOldest_15 rfl (lv_at hl 0 rfl) ?_
        refine lv_iconst (v := (1 : Int32)) hx hb dX1_dropOldest_16 (by decide) ?_
        refine lv_isub hx hb dX1_dropOldest_17 ?_
        refine aaR (k := 2) (b := kH 2 0) hx hb hK hP 1 1 rfl rfl rfl (by decide) (vp_in_iff.mpr (by decide)) rfl dX1_dropOldest_18 ?_
        refine lv_ifnull hx hb dX1_dropOldest_19 ?_
        refine lv_aload_n hx hb dX1_dropOldest_22 rfl (lv_at hl 1 rfl) ?_
        refine va_get (D := D) (ci := 1) (v := .ref (adH 1)) (C := RX1) (T := TX1) (N := 2) hx hb hts iw_X1_dropOldest_X1 hown hK hP 0 rfl rfl 0 (by decide) (hts (.fieldLink RX1 11 "FavourRings$History" "states" "[LFavourRings$Bank;") (List.mem_of_getElem? (i := 1) rfl)) (fun _ h9 => h9) rfl dX1_dropOldest_23 ?_
        refine lv_iload_n hx hb dX1_dropOldest_26 rfl (lv_at hl 0 rfl) ?_
        refine aaR (k := 3) (b := kH 3 0) hx hb hK hP 1 1 rfl rfl rfl (by decide) (vp_in_iff.mpr (by decide)) rfl dX1_dropOldest_27 ?_
        refine lv_ifnull hx hb dX1_dropOldest_28 ?_
        refine lv_aload_n hx hb dX1_dropOldest_31 rfl (lv_at hl 1 rfl) ?_
        refine va_get (D := D) (ci := 1) (v := .ref (adH 1)) (C := RX1) (T := TX1) (N := 2) hx hb hts iw_X1_dropOldest_X1 hown hK hP 0 rfl rfl 0 (by decide) (hts (.fieldLink RX1 11 "FavourRings$History" "states" "[LFavourRings$Bank;") (List.mem_of_getElem? (i := 1) rfl)) (fun _ h9 => h9) rfl dX1_dropOldest_32 ?_
        refine lv_iload_n hx hb dX1_dropOldest_35 rfl (lv_at hl 0 rfl) ?_
        refine lv_iconst (v := (1 : Int32)) hx hb dX1_dropOldest_36 (by decide) ?_
        refine lv_isub hx hb dX1_dropOldest_37 ?_
        refine aaR (k := 2) (b := kH 2 0) hx hb hK hP 1 1 rfl rfl rfl (by decide) (vp_in_iff.mpr (by decide)) rfl dX1_dropOldest_38 ?_
        refine lv_aload_n hx hb dX1_dropOldest_39 rfl (lv_at hl 1 rfl) ?_
        refine va_get (D := D) (ci := 1) (v := .ref (adH 1)) (C := RX1) (T := TX1) (N := 2) hx hb hts iw_X1_dropOldest_X1 hown hK hP 0 rfl rfl 0 (by decide) (hts (.fieldLink RX1 11 "FavourRings$History" "states" "[LFavourRings$Bank;") (List.mem_of_getElem? (i := 1) rfl)) (fun _ h9 => h9) rfl dX1_dropOldest_40 ?_
        refine lv_iload_n hx hb dX1_dropOldest_43 rfl (lv_at hl 0 rfl) ?_
        refine aaR (k := 3) (b := kH 3 0) hx hb hK hP 1 1 rfl rfl rfl (by decide) (vp_in_iff.mpr (by decide)) rfl dX1_dropOldest_44 ?_
        obtain ⟨u6, eu6, h⟩ := bd_in h
        refine kV (va_runV (As := [.ref ((kH 3) 0)]) (rest := []) ⟨hx, hb, hml, hown, hts⟩ (c_X0_copyFrom l D cA cQ (kH 2) (kH 3) (bH 2) (bH 3) u6 eu6 _) (cwV 1 hts gX1_dropOldest_X0_copyFrom rfl rfl rfl (by decide +kernel) ⟨Nat.le_of_ble_eq_true rfl, Nat.le_of_ble_eq_true rfl⟩) (pV (ci := 0) (q := (RX0, TX0, 13)) hK hN hP hD [30, 31, 32, 33, 34, 35, 36, 37, 38, 39, 40, 41, 42, 43, 44, 45, 46, 47, 48, 49, 50, 51, 52, 53, 54, 55, 56, 57] rfl rfl rfl rfl) rfl rfl hl.1 rfl (lv_room (Nat.le_of_ble_eq_true rfl)) dX1_dropOldest_45 ⟨Nat.zero_le _, Nat.zero_le _⟩) hP hD hS hA [30, 31, 32, 33, 34, 35, 36, 37, 38, 39, 40, 41, 42, 43, 44, 45, 46, 47, 48, 49, 50, 51, 52, 53, 54, 55, 56, 57] rfl rfl (ws' := (wH cA cQ adH vH kH (setB (setB (setB bH 0 u2) 1 u4) 2 u6))) rfl (fun H locs hP hD hS => ?_)
        refine lv_iinc (v := (4 : Int32)) (lv' := [(1, .int (4 : Int32)), (0, .ref (adH 0))]) hx hb dX1_dropOldest_48 hl (k := 0) rfl rfl (by decide) rfl (fun ls hl => ?_)
        refine lv_goto (tgt := 2) hx hb dX1_dropOldest_51 (by decide) ?_
        refine lv_iload_n hx hb dX1_dropOldest_2 rfl (lv_at hl 0 rfl) ?_
        refine lv_aload_n hx hb dX1_dropOldest_3 rfl (lv_at hl 1 rfl) ?_
        refine va_get (D := D) (ci := 1) (v := .ref (adH 1)) (C := RX1) (T := TX1) (N := 2) hx hb hts iw_X1_dropOldest_X1 hown hK hP 0 rfl rfl 0 (by decide) (hts (.fieldLink RX1 11 "FavourRings$History" "states" "[LFavourRings$Bank;") (List.mem_of_getElem? (i := 1) rfl)) (fun _ h9 => h9) rfl dX1_dropOldest_4 ?_
        refine va_alen hx hb hK hP 1 1 rfl rfl (v := (4 : Int32)) rfl dX1_dropOldest_7 ?_
        refine lv_icmp_ge (tgt := 54) hx hb dX1_dropOldest_8 (by decide) (fun c7 => ?_) (fun c7 => ?_)
        · skip
          refine lv_aload_n hx hb dX1_dropOldest_54 rfl (lv_at hl 1 rfl) ?_
          refine lv_dup hx hb dX1_dropOldest_55 rfl ?_
          refine va_get (D := D) (ci := 1) (v := .int (vH 99 1)) (C := RX1) (T := TX1) (N := 2) hx hb hts iw_X1_dropOldest_X1 hown hK hP 0 rfl rfl 1 (by decide) (hts (.fieldLink RX1 18 "FavourRings$History" "size" "I") (List.mem_of_getElem? (i := 2) rfl)) (fun _ h9 => h9) rfl dX1_dropOldest_56 ?_
          refine lv_iconst (v := (1 : Int32)) hx hb dX1_dropOldest_59 (by decide) ?_
          refine lv_isub hx hb dX1_dropOldest_60 ?_
          refine ptR (ci := 1) (v := .int ((vH 99 1) - (1 : Int32))) (ty := .int) (C := RX1) (T := TX1) (N := 2) hx hb hts iw_X1_dropOldest_X1 tyX1 tyX1_ok nmX1 hown hK hP hD hS 0 rfl rfl 1 (by decide) (hts (.fieldLink RX1 18 "FavourRings$History" "size" "I") (List.mem_of_getElem? (i := 2) rfl)) (fun _ h9 => h9) rfl (by decide +kernel) rfl rfl (Nat.le_of_ble_eq_true rfl) (ws' := (wH cA cQ adH (setI vH 1 ((vH 99 1) - (1 : Int32))) kH (setB (setB (setB bH 0 u2) 1 u4) 2 u6))) rfl dX1_dropOldest_61 (fun H locs hP hD hS => ?_)
          cases h
          exact endV hx hb hr hlocks hP hS dX1_dropOldest_64
        · exact absurd c7 (by decide)
theorem iw_X1_keep_X1 : ∀ w ∈ wsX10, w ∈ wsX1_keep := fun _ h => List.mem_cons_of_mem _ (List.mem_append_left _ (List.mem_append_right _ (h)))
set_option maxHeartbeats 4000000 in
set_option maxRecDepth 100000 in
theorem c_X1_keep (l : Launch) (D : va_G) (cA cQ : ClassId) (adH : Nat → Nat) (kH : Nat → Nat → Nat) (adB : Nat → Nat) (vH : St) (bH : Nat → St) (vB : St) (o : St × (Nat → St)) (hf : X1_keep vH bH vB = some o) : Ctv l yX1_keep wsX1_keep ({ frames := 4, cells := 0, slots := 0, locals := 123 }) D (TY cA cQ) [.ref (adH 0), .ref (adB 0)] (wH cA cQ adH vH kH bH ++ (wB cA adB vB)) (wH cA cQ adH o.1 kH o.2 ++ (wB cA adB vB)) := by
  refine Wk.v (cc := cX1_keep) (maxL := 2) (ret := none) (by decide) rfl (Nat.le_of_ble_eq_true rfl) ?_
  intro p e s m below meth c A ls hx hb hr hlocks hml hown hts hK hN hP hD hA hl
  have hown : s.vm.findClass RX1 = some m.cls := hown
  have hS : va_S A s.heap s.heap [] := va_S.rf
  have hl : lv_has ls 2 [(0, .ref (adH 0)), (1, .ref (adB 0))] := hl
  have B12 : ∀ (vH : St) (bH : Nat → St) (H : Heap) (locs : List Loc) (ls : Array Slot), X1_keep_b12 vB vH bH = some o → va_P D vwCl (wH cA cQ adH vH kH bH ++ (wB cA adB vB)) H → va_D A (wH cA cQ adH vH kH bH ++ (wB cA adB vB)) → va_S A s.heap H locs → lv_has ls 2 [(0, .ref (adH 0)), (1, .ref (adB 0))] → W p l e (headSpec wsX1_keep ({ frames := 4, cells := 0, slots := 0, locals := 123 })).room s m ([.ref (adH 0), .ref (adB 0)] : List Value).toArray below meth c H locs 0 0 (MQ below (QV D (wH cA cQ adH o.1 kH o.2 ++ (wB cA adB vB)) A) ([.ref (adH 0), .ref (adB 0)] : List Value).toArray s 0 0 A) (F0 m 12 ls []) := by
    intro vH bH H locs ls h hP hD hS hl
    unfold X1_keep_b12 at h
    refine lv_aload_n hx hb dX1_keep_12 rfl (lv_at hl 0 rfl) ?_
    refine va_get (D := D) (ci := 1) (v := .int (vH 99 1)) (C := RX1) (T := TX1) (N := 2) hx hb hts iw_X1_keep_X1 hown hK hP 0 rfl rfl 1 (by decide) (hts (.fieldLink RX1 18 "FavourRings$History" "size" "I") (List.mem_of_getElem? (i := 1) rfl)) (fun _ h9 => h9) rfl dX1_keep_13 ?_
    refine lv_if_lt (tgt := 66) hx hb dX1_keep_16 (by decide) (fun c1 => ?_) (fun c1 => ?_)
    · have h := (if_pos c1).symm.trans h
      cases h
      exact endV hx hb hr hlocks hP hS dX1_keep_66
    · have h := (if_neg c1).symm.trans h
      refine lv_aload_n hx hb dX1_keep_19 rfl (lv_at hl 0 rfl) ?_
      refine va_get (D := D) (ci := 1) (v := .int (vH 99 1)) (C := RX1) (T := TX1) (N := 2) hx hb hts iw_X1_keep_X1 hown hK hP 0 rfl rfl 1 (by decide) (hts (.fieldLink RX1 18 "FavourRings$History" "size" "I") (List.mem_of_getElem? (i := 1) rfl)) (fun _ h9 => h9) rfl dX1_keep_20 ?_
      refine lv_aload_n hx hb dX1_keep_23 rfl (lv_at hl 0 rfl) ?_
      refine va_get (D := D) (ci := 1) (v := .ref (adH 1)) (C := RX1) (T := TX1) (N := 2) hx hb hts iw_X1_keep_X1 hown hK hP 0 rfl rfl 0 (by decide) (hts (.fieldLink RX1 11 "FavourRings$History" "states" "[LFavourRings$Bank;") (List.mem_of_getElem? (i := 2) rfl)) (fun _ h9 => h9) rfl dX1_keep_24 ?_
      refine va_alen hx hb hK hP 1 1 rfl rfl (v := (4 : Int32)) rfl dX1_keep_27 ?_
      refine lv_icmp_ge (tgt := 66) hx hb dX1_keep_28 (by decide) (fun c2 => ?_) (fun c2 => ?_)
      · have h := (if_pos c2).symm.trans h
        cases h
        exact endV hx hb hr hlocks hP hS dX1_keep_66
      · have h := (if_neg c2).symm.trans h
        refine lv_aload_n hx hb dX1_keep_31 rfl (lv_at hl 0 rfl) ?_
        refine va_get (D := D) (ci := 1) (v := .ref (adH 1)) (C := RX1) (T := TX1) (N := 2) hx hb hts iw_X1_keep_X1 hown hK hP 0 rfl rfl 0 (by decide) (hts (.fieldLink RX1 11 "FavourRings$History" "states" "[LFavourRings$Bank;") (List.mem_of_getElem? (i := 2) rfl)) (fun _ h9 => h9) rfl dX1_keep_32 ?_
        refine lv_aload_n hx hb dX1_keep_35 rfl (lv_at hl 0 rfl) ?_
        refine va_get (D := D) (ci := 1) (v := .int (vH 99 1)) (C := RX1) (T := TX1) (N := 2) hx hb hts iw_X1_keep_X1 hown hK hP 0 rfl rfl 1 (by decide) (hts (.fieldLink RX1 18 "FavourRings$History" "size" "I") (List.mem_of_getElem? (i := 1) rfl)) (fun _ h9 => h9) rfl dX1_keep_36 ?_
        by_cases c3 : (vH 99 1) = (0 : Int32)
        · have h := (if_pos c3).symm.trans h
          refine aaR (k := 0) (b := kH 0 0) hx hb hK hP 1 1 rfl rfl c3 (by decide) (vp_in_iff.mpr (by decide)) rfl dX1_keep_39 ?_
          refine lv_ifnull hx hb dX1_keep_40 ?_
          refine lv_aload_n hx hb dX1_keep_43 rfl (lv_at hl 0 rfl) ?_
          refine va_get (D := D) (ci := 1) (v := .ref (adH 1)) (C := RX1) (T := TX1) (N := 2) hx hb hts iw_X1_keep_X1 hown hK hP 0 rfl rfl 0 (by decide) (hts (.fieldLink RX1 11 "FavourRings$History" "states" "[LFavourRings$Bank;") (List.mem_of_getElem? (i := 2) rfl)) (fun _ h9 => h9) rfl dX1_keep_44 ?_
          refine lv_aload_n hx hb dX1_keep_47 rfl (lv_at hl 0 rfl) ?_
          refine va_get (D := D) (ci := 1) (v := .int (vH 99 1)) (C := RX1) (T := TX1) (N := 2) hx hb hts iw_X1_keep_X1 hown hK hP 0 rfl rfl 1 (by decide) (hts (.fieldLink RX1 18 "FavourRings$History" "size" "I") (List.mem_of_getElem? (i := 1) rfl)) (fun _ h9 => h9) rfl dX1_keep_48 ?_
          refine aaR (k := 0) (b := kH 0 0) hx hb hK hP 1 1 rfl rfl c3 (by decide) (vp_in_iff.mpr (by decide)) rfl dX1_keep_51 ?_
          refine lv_aload_n hx hb dX1_keep_52 rfl (lv_at hl 1 rfl) ?_
          obtain ⟨u4, eu4, h⟩ := bd_in h
          refine kV (va_runV (As := [.ref (adB 0)]) (rest := []) ⟨hx, hb, hml, hown, hts⟩ (c_X0_copyFrom l D cA cQ (kH 0) adB (bH 0) vB u4 eu4 _) (cwV 1 hts gX1_keep_X0_copyFrom rfl rfl rfl (by decide +kernel) ⟨Nat.le_of_ble_eq_true rfl, Nat.le_of_ble_eq_true rfl⟩) (pV (ci := 0) (q := (RX0, TX0, 13)) hK hN hP hD [2, 3, 4, 5, 6, 7, 8, 9, 10, 11, 12, 13, 14, 15, 58, 59, 60, 61, 62, 63, 64, 65, 66, 67, 68, 69, 70, 71] rfl rfl rfl rfl) rfl rfl hl.1 rfl (lv_room (Nat.le_of_ble_eq_true rfl)) dX1_keep_53 ⟨Nat.zero_le _, Nat.zero_le _⟩) hP hD hS hA [2, 3, 4, 5, 6, 7, 8, 9, 10, 11, 12, 13, 14, 15, 58, 59, 60, 61, 62, 63, 64, 65, 66, 67, 68, 69, 70, 71] rfl rfl (ws' := (wH cA cQ adH vH kH (setB bH 0 u4) ++ (wB cA adB vB))) rfl (fun H locs hP hD hS => ?_)
          refine lv_aload_n hx hb dX1_keep_56 rfl (lv_at hl 0 rfl) ?_
          refine lv_dup hx hb dX1_keep_57 rfl ?_
          refine va_get (D := D) (ci := 1) (v := .int (vH 99 1)) (C := RX1) (T := TX1) (N := 2) hx hb hts iw_X1_keep_X1 hown hK hP 0 rfl rfl 1 (by decide) (hts (.fieldLink RX1 18 "FavourRings$History" "size" "I") (List.mem_of_getElem? (i := 1) rfl)) (fun _ h9 => h9) rfl dX1_keep_58 ?_
          refine lv_iconst (v := (1 : Int32)) hx hb dX1_keep_61 (by decide) ?_
          refine lv_iadd hx hb dX1_keep_62 ?_
          refine ptR (ci := 1) (v := .int ((vH 99 1) + (1 : Int32))) (ty := .int) (C := RX1) (T := TX1) (N := 2) hx hb hts iw_X1_keep_X1 tyX1 tyX1_ok nmX1 hown hK hP hD hS 0 rfl rfl 1 (by decide) (hts (.fieldLink RX1 18 "FavourRings$History" "size" "I") (List.mem_of_getElem? (i := 1) rfl)) (fun _ h9 => h9) rfl (by decide +kernel) rfl rfl (Nat.le_of_ble_eq_true rfl) (ws' := (wH cA cQ adH (setI vH 1 ((vH 99 1) + (1 : Int32))) kH (setB bH 0 u4) ++ (wB cA adB vB))) rfl dX1_keep_63 (fun H locs hP hD hS => ?_)
          cases h
          exact endV hx hb hr hlocks hP hS dX1_keep_66
        have h := (if_neg c3).symm.trans h
        by_cases c5 : (vH 99 1) = (1 : Int32)
        · have h := (if_pos c5).symm.trans h
          refine aaR (k := 1) (b := kH 1 0) hx hb hK hP 1 1 rfl rfl c5 (by decide) (vp_in_iff.mpr (by decide)) rfl dX1_keep_39 ?_
          refine lv_ifnull hx hb dX1_keep_40 ?_
          refine lv_aload_n hx hb dX1_keep_43 rfl (lv_at hl 0 rfl) ?_
          refine va_get (D := D) (ci := 1) (v := .ref (adH 1)) (C := RX1) (T := TX1) (N := 2) hx hb hts iw_X1_keep_X1 hown hK hP 0 rfl rfl 0 (by decide) (hts (.fieldLink RX1 11 "FavourRings$History" "states" "[LFavourRings$Bank;") (List.mem_of_getElem? (i := 2) rfl)) (fun _ h9 => h9) rfl dX1_keep_44 ?_
          refine lv_aload_n hx hb dX1_keep_47 rfl (lv_at hl 0 rfl) ?_
          refine va_get (D := D) (ci := 1) (v := .int (vH 99 1)) (C := RX1) (T := TX1) (N := 2) hx hb hts iw_X1_keep_X1 hown hK hP 0 rfl rfl 1 (by decide) (hts (.fieldLink RX1 18 "FavourRings$History" "size" "I") (List.mem_of_getElem? (i := 1) rfl)) (fun _ h9 => h9) rfl dX1_keep_48 ?_
          refine aaR (k := 1) (b := kH 1 0) hx hb hK hP 1 1 rfl rfl c5 (by decide) (vp_in_iff.mpr (by decide)) rfl dX1_keep_51 ?_
          refine lv_aload_n hx hb dX1_keep_52 rfl (lv_at hl 1 rfl) ?_
          obtain ⟨u6, eu6, h⟩ := bd_in h
          refine kV (va_runV (As := [.ref (adB 0)]) (rest := []) ⟨hx, hb, hml, hown, hts⟩ (c_X0_copyFrom l D cA cQ (kH 1) adB (bH 1) vB u6 eu6 _) (cwV 1 hts gX1_keep_X0_copyFrom rfl rfl rfl (by decide +kernel) ⟨Nat.le_of_ble_eq_true rfl, Nat.le_of_ble_eq_true rfl⟩) (pV (ci := 0) (q := (RX0, TX0, 13)) hK hN hP hD [16, 17, 18, 19, 20, 21, 22, 23, 24, 25, 26, 27, 28, 29, 58, 59, 60, 61, 62, 63, 64, 65, 66, 67, 68, 69, 70, 71] rfl rfl rfl rfl) rfl rfl hl.1 rfl (lv_room (Nat.le_of_ble_eq_true rfl)) dX1_keep_53 ⟨Nat.zero_le _, Nat.zero_le _⟩) hP hD hS hA [16, 17, 18, 19, 20, 21, 22, 23, 24, 25, 26, 27, 28, 29, 58, 59, 60, 61, 62, 63, 64, 65, 66, 67, 68, 69, 70, 71] rfl rfl (ws' := (wH cA cQ adH vH kH (setB bH 1 u6) ++ (wB cA adB vB))) rfl (fun H locs hP hD hS => ?_)
          refine lv_aload_n hx hb dX1_keep_56 rfl (lv_at hl 0 rfl) ?_
          refine lv_dup hx hb dX1_keep_57 rfl ?_
          refine va_get (D := D) (ci := 1) (v := .int (vH 99 1)) (C := RX1) (T := TX1) (N := 2) hx hb hts iw_X1_keep_X1 hown hK hP 0 rfl rfl 1 (by decide) (hts (.fieldLink RX1 18 "FavourRings$History" "size" "I") (List.mem_of_getElem? (i := 1) rfl)) (fun _ h9 => h9) rfl dX1_keep_58 ?_
          refine lv_iconst (v := (1 : Int32)) hx hb dX1_keep_61 (by decide) ?_
          refine lv_iadd hx hb dX1_keep_62 ?_
          refine ptR (ci := 1) (v := .int ((vH 99 1) + (1 : Int32))) (ty := .int) (C := RX1) (T := TX1) (N := 2) hx hb hts iw_X1_keep_X1 tyX1 tyX1_ok nmX1 hown hK hP hD hS 0 rfl rfl 1 (by decide) (hts (.fieldLink RX1 18 "FavourRings$History" "size" "I") (List.mem_of_getElem? (i := 1) rfl)) (fun _ h9 => h9) rfl (by decide +kernel) rfl rfl (Nat.le_of_ble_eq_true rfl) (ws' := (wH cA cQ adH (setI vH 1 ((vH 99 1) + (1 : Int32))) kH (setB bH 1 u6) ++ (wB cA adB vB))) rfl dX1_keep_63 (fun H locs hP hD hS => ?_)
          cases h
          exact endV hx hb hr hlocks hP hS dX1_keep_66
        have h := (if_neg c5).symm.trans h
        by_cases c7 : (vH 99 1) = (2 : Int32)
        · have h := (if_pos c7).symm.trans h
          refine aaR (k := 2) (b := kH 2 0) hx hb hK hP 1 1 rfl rfl c7 (by decide) (vp_in_iff.mpr (by decide)) rfl dX1_keep_39 ?_
          refine lv_ifnull hx hb dX1_keep_40 ?_
          refine lv_aload_n hx hb dX1_keep_43 rfl (lv_at hl 0 rfl) ?_
          refine va_get (D := D) (ci := 1) (v := .ref (adH 1)) (C := RX1) (T := TX1) (N := 2) hx hb hts iw_X1_keep_X1 hown hK hP 0 rfl rfl 0 (by decide) (hts (.fieldLink RX1 11 "FavourRings$History" "states" "[LFavourRings$Bank;") (List.mem_of_getElem? (i := 2) rfl)) (fun _ h9 => h9) rfl dX1_keep_44 ?_
          refine lv_aload_n hx hb dX1_keep_47 rfl (lv_at hl 0 rfl) ?_
          refine va_get (D := D) (ci := 1) (v := .int (vH 99 1)) (C := RX1) (T := TX1) (N := 2) hx hb hts iw_X1_keep_X1 hown hK hP 0 rfl rfl 1 (by decide) (hts (.fieldLink RX1 18 "FavourRings$History" "size" "I") (List.mem_of_getElem? (i := 1) rfl)) (fun _ h9 => h9) rfl dX1_keep_48 ?_
          refine aaR (k := 2) (b := kH 2 0) hx hb hK hP 1 1 rfl rfl c7 (by decide) (vp_in_iff.mpr (by decide)) rfl dX1_keep_51 ?_
          refine lv_aload_n hx hb dX1_keep_52 rfl (lv_at hl 1 rfl) ?_
          obtain ⟨u8, eu8, h⟩ := bd_in h
          refine kV (va_runV (As := [.ref (adB 0)]) (rest := []) ⟨hx, hb, hml, hown, hts⟩ (c_X0_copyFrom l D cA cQ (kH 2) adB (bH 2) vB u8 eu8 _) (cwV 1 hts gX1_keep_X0_copyFrom rfl rfl rfl (by decide +kernel) ⟨Nat.le_of_ble_eq_true rfl, Nat.le_of_ble_eq_true rfl⟩) (pV (ci := 0) (q := (RX0, TX0, 13)) hK hN hP hD [30, 31, 32, 33, 34, 35, 36, 37, 38, 39, 40, 41, 42, 43, 58, 59, 60, 61, 62, 63, 64, 65, 66, 67, 68, 69, 70, 71] rfl rfl rfl rfl) rfl rfl hl.1 rfl (lv_room (Nat.le_of_ble_eq_true rfl)) dX1_keep_53 ⟨Nat.zero_le _, Nat.zero_le _⟩) hP hD hS hA [30, 31, 32, 33, 34, 35, 36, 37, 38, 39, 40, 41, 42, 43, 58, 59, 60, 61, 62, 63, 64, 65, 66, 67, 68, 69, 70, 71] rfl rfl (ws' := (wH cA cQ adH vH kH (setB bH 2 u8) ++ (wB cA adB vB))) rfl (fun H locs hP hD hS => ?_)
          refine lv_aload_n hx hb dX1_keep_56 rfl (lv_at hl 0 rfl) ?_
          refine lv_dup hx hb dX1_keep_57 rfl ?_
          refine va_get (D := D) (ci := 1) (v := .int (vH 99 1)) (C := RX1) (T := TX1) (N := 2) hx hb hts iw_X1_keep_X1 hown hK hP 0 rfl rfl 1 (by decide) (hts (.fieldLink RX1 18 "FavourRings$History" "size" "I") (List.mem_of_getElem? (i := 1) rfl)) (fun _ h9 => h9) rfl dX1_keep_58 ?_
          refine lv_iconst (v := (1 : Int32)) hx hb dX1_keep_61 (by decide) ?_
          refine lv_iadd hx hb dX1_keep_62 ?_
          refine ptR (ci := 1) (v := .int ((vH 99 1) + (1 : Int32))) (ty := .int) (C := RX1) (T := TX1) (N := 2) hx hb hts iw_X1_keep_X1 tyX1 tyX1_ok nmX1 hown hK hP hD hS 0 rfl rfl 1 (by decide) (hts (.fieldLink RX1 18 "FavourRings$History" "size" "I") (List.mem_of_getElem? (i := 1) rfl)) (fun _ h9 => h9) rfl (by decide +kernel) rfl rfl (Nat.le_of_ble_eq_true rfl) (ws' := (wH cA cQ adH (setI vH 1 ((vH 99 1) + (1 : Int32))) kH (setB bH 2 u8) ++ (wB cA adB vB))) rfl dX1_keep_63 (fun H locs hP hD hS => ?_)
          cases h
          exact endV hx hb hr hlocks hP hS dX1_keep_66
        have h := (if_neg c7).symm.trans h
        by_cases c9 : (vH 99 1) = (3 : Int32)
        · have h := (if_pos c9).symm.trans h
          refine aaR (k := 3) (b := kH 3 0) hx hb hK hP 1 1 rfl rfl c9 (by decide) (vp_in_iff.mpr (by decide)) rfl dX1_keep_39 ?_
          refine lv_ifnull hx hb dX1_keep_40 ?_
          refine lv_aload_n hx hb dX1_keep_43 rfl (lv_at hl 0 rfl) ?_
          refine va_get (D := D) (ci := 1) (v := .ref (adH 1)) (C := RX1) (T := TX1) (N := 2) hx hb hts iw_X1_keep_X1 hown hK hP 0 rfl rfl 0 (by decide) (hts (.fieldLink RX1 11 "FavourRings$History" "states" "[LFavourRings$Bank;") (List.mem_of_getElem? (i := 2) rfl)) (fun _ h9 => h9) rfl dX1_keep_44 ?_
          refine lv_aload_n hx hb dX1_keep_47 rfl (lv_at hl 0 rfl) ?_
          refine va_get (D := D) (ci := 1) (v := .int (vH 99 1)) (C := RX1) (T := TX1) (N := 2) hx hb hts iw_X1_keep_X1 hown hK hP 0 rfl rfl 1 (by decide) (hts (.fieldLink RX1 18 "FavourRings$History" "size" "I") (List.mem_of_getElem? (i := 1) rfl)) (fun _ h9 => h9) rfl dX1_keep_48 ?_
          refine aaR (k := 3) (b := kH 3 0) hx hb hK hP 1 1 rfl rfl c9 (by decide) (vp_in_iff.mpr (by decide)) rfl dX1_keep_51 ?_
          refine lv_aload_n hx hb dX1_keep_52 rfl (lv_at hl 1 rfl) ?_
          obtain ⟨u10, eu10, h⟩ := bd_in h
          refine kV (va_runV (As := [.ref (adB 0)]) (rest := []) ⟨hx, hb, hml, hown, hts⟩ (c_X0_copyFrom l D cA cQ (kH 3) adB (bH 3) vB u10 eu10 _) (cwV 1 hts gX1_keep_X0_copyFrom rfl rfl rfl (by decide +kernel) ⟨Nat.le_of_ble_eq_true rfl, Nat.le_of_ble_eq_true rfl⟩) (pV (ci := 0) (q := (RX0, TX0, 13)) hK hN hP hD [44, 45, 46, 47, 48, 49, 50, 51, 52, 53, 54, 55, 56, 57, 58, 59, 60, 61, 62, 63, 64, 65, 66, 67, 68, 69, 70, 71] rfl rfl rfl rfl) rfl rfl hl.1 rfl (lv_room (Nat.le_of_ble_eq_true rfl)) dX1_keep_53 ⟨Nat.zero_le _, Nat.zero_le _⟩) hP hD hS hA [44, 45, 46, 47, 48, 49, 50, 51, 52, 53, 54, 55, 56, 57, 58, 59, 60, 61, 62, 63, 64, 65, 66, 67, 68, 69, 70, 71] rfl rfl (ws' := (wH cA cQ adH vH kH (setB bH 3 u10) ++ (wB cA adB vB))) rfl (fun H locs hP hD hS => ?_)
          refine lv_aload_n hx hb dX1_keep_56 rfl (lv_at hl 0 rfl) ?_
          refine lv_dup hx hb dX1_keep_57 rfl ?_
          refine va_get (D := D) (ci := 1) (v := .int (vH 99 1)) (C := RX1) (T := TX1) (N := 2) hx hb hts iw_X1_keep_X1 hown hK hP 0 rfl rfl 1 (by decide) (hts (.fieldLink RX1 18 "FavourRings$History" "size" "I") (List.mem_of_getElem? (i := 1) rfl)) (fun _ h9 => h9) rfl dX1_keep_58 ?_
          refine lv_iconst (v := (1 : Int32)) hx hb dX1_keep_61 (by decide) ?_
          refine lv_iadd hx hb dX1_keep_62 ?_
          refine ptR (ci := 1) (v := .int ((vH 99 1) + (1 : Int32))) (ty := .int) (C := RX1) (T := TX1) (N := 2) hx hb hts iw_X1_keep_X1 tyX1 tyX1_ok nmX1 hown hK hP hD hS 0 rfl rfl 1 (by decide) (hts (.fieldLink RX1 18 "FavourRings$History" "size" "I") (List.mem_of_getElem? (i := 1) rfl)) (fun _ h9 => h9) rfl (by decide +kernel) rfl rfl (Nat.le_of_ble_eq_true rfl) (ws' := (wH cA cQ adH (setI vH 1 ((vH 99 1) + (1 : Int32))) kH (setB bH 3 u10) ++ (wB cA adB vB))) rfl dX1_keep_63 (fun H locs hP hD hS => ?_)
          cases h
          exact endV hx hb hr hlocks hP hS dX1_keep_66
        have h := (if_neg c9).symm.trans h
        cases h
  have h := hf
  unfold X1_keep at h
  refine lv_aload_n hx hb dX1_keep_0 rfl (lv_at hl 0 rfl) ?_
  refine va_get (D := D) (ci := 1) (v := .int (vH 99 1)) (C := RX1) (T := TX1) (N := 2) hx hb hts iw_X1_keep_X1 hown hK hP 0 rfl rfl 1 (by decide) (hts (.fieldLink RX1 18 "FavourRings$History" "size" "I") (List.mem_of_getElem? (i := 1) rfl)) (fun _ h9 => h9) rfl dX1_keep_1 ?_
  refine lv_iconst (v := (4 : Int32)) hx hb dX1_keep_4 (by decide) ?_
  refine lv_icmp_lt (tgt := 12) hx hb dX1_keep_5 (by decide) (fun c11 => ?_) (fun c11 => ?_)
  · have h := (if_pos c11).symm.trans h
    exact B12 vH bH _ _ _ h hP hD hS (lv_sub hl [0, 1] rfl)
  · have h := (if_neg c11).symm.trans h
    refine lv_aload_n hx hb dX1_keep_8 rfl (lv_at hl 0 rfl) ?_
    obtain ⟨u12, eu12, h⟩ := bd_in h
    refine kV (va_runV (As := []) (rest := []) ⟨hx, hb, hml, hown, hts⟩ (c_X1_dropOldest l D cA cQ adH kH vH bH u12 eu12 _) (cwV 0 hts gX1_keep_X1_dropOldest rfl rfl rfl (by decide +kernel) ⟨Nat.le_of_ble_eq_true rfl, Nat.le_of_ble_eq_true rfl⟩) (pV (ci := 1) (q := (RX1, TX1, 2)) hK hN hP hD [0, 1, 2, 3, 4, 5, 6, 7, 8, 9, 10, 11, 12, 13, 14, 15, 16, 17, 18, 19, 20, 21, 22, 23, 24, 25, 26, 27, 28, 29, 30, 31, 32, 33, 34, 35, 36, 37, 38, 39, 40, 41, 42, 43, 44, 45, 46, 47, 48, 49, 50, 51, 52, 53, 54, 55, 56, 57] rfl rfl rfl rfl) rfl rfl hl.1 rfl (lv_room (Nat.le_of_ble_eq_true rfl)) dX1_keep_9 ⟨Nat.zero_le _, Nat.zero_le _⟩) hP hD hS hA [0, 1, 2, 3, 4, 5, 6, 7, 8, 9, 10, 11, 12, 13, 14, 15, 16, 17, 18, 19, 20, 21, 22, 23, 24, 25, 26, 27, 28, 29, 30, 31, 32, 33, 34, 35, 36, 37, 38, 39, 40, 41, 42, 43, 44, 45, 46, 47, 48, 49, 50, 51, 52, 53, 54, 55, 56, 57] rfl rfl (ws' := (wH cA cQ adH u12.1 kH u12.2 ++ (wB cA adB vB))) rfl (fun H locs hP hD hS => ?_)
    exact B12 u12.1 u12.2 _ _ _ h hP hD hS (lv_sub hl [0, 1] rfl)
theorem iw_X4_settled_X4 : ∀ w ∈ wsX40, w ∈ wsX4_settled := fun _ h => List.mem_cons_of_mem _ (List.mem_append_left _ (List.mem_append_left _ (List.mem_append_right _ (h))))
set_option maxHeartbeats 4000000 in
set_option maxRecDepth 100000 in
theorem c_X4_settled (l : Launch) (D : va_G) (cA cQ : ClassId) (adF : Nat) (adB : Nat → Nat) (adT : Nat → Nat) (adH : Nat → Nat) (kH : Nat → Nat → Nat) (adR : Nat → Nat) (adO : Nat → Nat) (vB : St) (vT : St) (vH : St) (bH : Nat → St) (vR : St) (vO : St) (p1 : Int32) (o : Int32 × St × St × (Nat → St)) (hf : X4_settled vB vT vH bH vR vO p1 = some o) : Cti l yX4_settled wsX4_settled ({ frames := 5, cells := 0, slots := 0, locals := 144 }) D (TY cA cQ) [.ref adF, .int p1] (wF cA cQ adF adB adT adH kH adR adO vB vT vH bH vR vO) (wF cA cQ adF adB adT adH kH adR adO o.2.1 vT o.2.2.1 o.2.2.2 vR vO) o.1 := by
  refine Wk.i (cc := cX4_settled) (maxL := 2) (ret := (some .int)) (by decide) rfl (Nat.le_of_ble_eq_true rfl) ?_
  intro p e s m below meth c A ls hx hb hr hlocks hml hown hts hK hN hP hD hA hl
  have hown : s.vm.findClass RX4 = some m.cls := hown
  have hS : va_S A s.heap s.heap [] := va_S.rf
  have hl : lv_has ls 2 [(0, .ref adF), (1, .int p1)] := hl
  have h := hf
  unfold X4_settled at h
  refine lv_iload_n hx hb dX4_settled_0 rfl (lv_at hl 1 rfl) ?_
  refine lv_if_lt (tgt := 26) hx hb dX4_settled_1 (by decide) (fun c1 => ?_) (fun c1 => ?_)
  · have h := (if_pos c1).symm.trans h
    refine lv_iload_n hx hb dX4_settled_26 rfl (lv_at hl 1 rfl) ?_
    cases h
    exact endI hx hb hr hlocks hP hS rfl dX4_settled_27
  · have h := (if_neg c1).symm.trans h
    refine lv_aload_n hx hb dX4_settled_4 rfl (lv_at hl 0 rfl) ?_
    refine va_get (D := D) (ci := 4) (v := .ref (adH 0)) (C := RX4) (T := TX4) (N := 5) hx hb hts iw_X4_settled_X4 hown hK hP 0 rfl rfl 2 (by decide) (hts (.fieldLink RX4 22 "FavourRings" "history" "LFavourRings$History;") (List.mem_of_getElem? (i := 1) rfl)) (fun _ h9 => h9) rfl dX4_settled_5 ?_
    refine lv_aload_n hx hb dX4_settled_8 rfl (lv_at hl 0 rfl) ?_
    refine va_get (D := D) (ci := 4) (v := .ref (adB 0)) (C := RX4) (T := TX4) (N := 5) hx hb hts iw_X4_settled_X4 hown hK hP 0 rfl rfl 0 (by decide) (hts (.fieldLink RX4 10 "FavourRings" "bank" "LFavourRings$Bank;") (List.mem_of_getElem? (i := 2) rfl)) (fun _ h9 => h9) rfl dX4_settled_9 ?_
    obtain ⟨u2, eu2, h⟩ := bd_in h
    refine kV (va_runV (As := [.ref (adB 0)]) (rest := []) ⟨hx, hb, hml, hown, hts⟩ (c_X1_keep l D cA cQ adH kH adB vH bH vB u2 eu2 _) (cwV 1 hts gX4_settled_X1_keep rfl rfl rfl (by decide +kernel) ⟨Nat.le_of_ble_eq_true rfl, Nat.le_of_ble_eq_true rfl⟩) (pV (ci := 1) (q := (RX1, TX1, 2)) hK hN hP hD [29, 30, 31, 32, 33, 34, 35, 36, 37, 38, 39, 40, 41, 42, 43, 44, 45, 46, 47, 48, 49, 50, 51, 52, 53, 54, 55, 56, 57, 58, 59, 60, 61, 62, 63, 64, 65, 66, 67, 68, 69, 70, 71, 72, 73, 74, 75, 76, 77, 78, 79, 80, 81, 82, 83, 84, 85, 86, 1, 2, 3, 4, 5, 6, 7, 8, 9, 10, 11, 12, 13, 14] rfl rfl rfl rfl) rfl rfl hl.1 rfl (lv_room (Nat.le_of_ble_eq_true rfl)) dX4_settled_12 ⟨Nat.zero_le _, Nat.zero_le _⟩) hP hD hS hA [29, 30, 31, 32, 33, 34, 35, 36, 37, 38, 39, 40, 41, 42, 43, 44, 45, 46, 47, 48, 49, 50, 51, 52, 53, 54, 55, 56, 57, 58, 59, 60, 61, 62, 63, 64, 65, 66, 67, 68, 69, 70, 71, 72, 73, 74, 75, 76, 77, 78, 79, 80, 81, 82, 83, 84, 85, 86, 1, 2, 3, 4, 5, 6, 7, 8, 9, 10, 11, 12, 13, 14] rfl rfl (ws' := (wF cA cQ adF adB adT adH kH adR adO vB vT u2.1 u2.2 vR vO)) rfl (fun H locs hP hD hS => ?_)
    refine lv_aload_n hx hb dX4_settled_15 rfl (lv_at hl 0 rfl) ?_
    refine va_get (D := D) (ci := 4) (v := .ref (adB 0)) (C := RX4) (T := TX4) (N := 5) hx hb hts iw_X4_settled_X4 hown hK hP 0 rfl rfl 0 (by decide) (hts (.fieldLink RX4 10 "FavourRings" "bank" "LFavourRings$Bank;") (List.mem_of_getElem? (i := 2) rfl)) (fun _ h9 => h9) rfl dX4_settled_16 ?_
    refine lv_aload_n hx hb dX4_settled_19 rfl (lv_at hl 0 rfl) ?_
    refine va_get (D := D) (ci := 4) (v := .ref (adT 0)) (C := RX4) (T := TX4) (N := 5) hx hb hts iw_X4_settled_X4 hown hK hP 0 rfl rfl 1 (by decide) (hts (.fieldLink RX4 16 "FavourRings" "trial" "LFavourRings$Bank;") (List.mem_of_getElem? (i := 3) rfl)) (fun _ h9 => h9) rfl dX4_settled_20 ?_
    obtain ⟨u3, eu3, h⟩ := bd_in h
    refine kV (va_runV (As := [.ref (adT 0)]) (rest := []) ⟨hx, hb, hml, hown, hts⟩ (c_X0_copyFrom l D cA cQ adB adT vB vT u3 eu3 _) (cwV 1 hts gX4_settled_X0_copyFrom rfl rfl rfl (by decide +kernel) ⟨Nat.le_of_ble_eq_true rfl, Nat.le_of_ble_eq_true rfl⟩) (pV (ci := 0) (q := (RX0, TX0, 13)) hK hN hP hD [1, 2, 3, 4, 5, 6, 7, 8, 9, 10, 11, 12, 13, 14, 15, 16, 17, 18, 19, 20, 21, 22, 23, 24, 25, 26, 27, 28] rfl rfl rfl rfl) rfl rfl hl.1 rfl (lv_room (Nat.le_of_ble_eq_true rfl)) dX4_settled_23 ⟨Nat.zero_le _, Nat.zero_le _⟩) hP hD hS hA [1, 2, 3, 4, 5, 6, 7, 8, 9, 10, 11, 12, 13, 14, 15, 16, 17, 18, 19, 20, 21, 22, 23, 24, 25, 26, 27, 28] rfl rfl (ws' := (wF cA cQ adF adB adT adH kH adR adO u3 vT u2.1 u2.2 vR vO)) rfl (fun H locs hP hD hS => ?_)
    refine lv_iload_n hx hb dX4_settled_26 rfl (lv_at hl 1 rfl) ?_
    cases h
    exact endI hx hb hr hlocks hP hS rfl dX4_settled_27
set_option maxHeartbeats 4000000 in
set_option maxRecDepth 100000 in
theorem c_X4_pupil (l : Launch) (D : va_G) (cA cQ : ClassId) (adF : Nat) (adB : Nat → Nat) (adT : Nat → Nat) (adH : Nat → Nat) (kH : Nat → Nat → Nat) (adR : Nat → Nat) (adO : Nat → Nat) (vB : St) (vT : St) (vH : St) (bH : Nat → St) (vR : St) (vO : St) (o : Int32 × St × St × St × (Nat → St)) (hf : X4_pupil vB vT vH bH vR vO = some o) : Cti l yX4_pupil wsX4_pupil ({ frames := 6, cells := 0, slots := 0, locals := 165 }) D (TY cA cQ) [.ref adF] (wF cA cQ adF adB adT adH kH adR adO vB vT vH bH vR vO) (wF cA cQ adF adB adT adH kH adR adO o.2.1 o.2.2.1 o.2.2.2.1 o.2.2.2.2 vR vO) o.1 := by
  refine Wk.i (cc := cX4_pupil) (maxL := 1) (ret := (some .int)) (by decide) rfl (Nat.le_of_ble_eq_true rfl) ?_
  intro p e s m below meth c A ls hx hb hr hlocks hml hown hts hK hN hP hD hA hl
  have hown : s.vm.findClass RX4 = some m.cls := hown
  have hS : va_S A s.heap s.heap [] := va_S.rf
  have hl : lv_has ls 1 [(0, .ref adF)] := hl
  have h := hf
  unfold X4_pupil at h
  refine lv_aload_n hx hb dX4_pupil_0 rfl (lv_at hl 0 rfl) ?_
  refine lv_aload_n hx hb dX4_pupil_1 rfl (lv_at hl 0 rfl) ?_
  obtain ⟨u1, eu1, h⟩ := bd_in h
  refine kR (va_runV (As := []) (rest := [.ref adF]) ⟨hx, hb, hml, hown, hts⟩ (c_X4_freshTrial l D cA cQ adF adB adT adH kH adR adO vB vT vH bH vR vO u1 eu1 _) (cwV 0 hts gX4_pupil_X4_freshTrial rfl rfl rfl (by decide +kernel) ⟨Nat.le_of_ble_eq_true rfl, Nat.le_of_ble_eq_true rfl⟩) (pV (ci := 4) (q := (RX4, TX4, 5)) hK hN hP hD [0, 1, 2, 3, 4, 5, 6, 7, 8, 9, 10, 11, 12, 13, 14, 15, 16, 17, 18, 19, 20, 21, 22, 23, 24, 25, 26, 27, 28, 29, 30, 31, 32, 33, 34, 35, 36, 37, 38, 39, 40, 41, 42, 43, 44, 45, 46, 47, 48, 49, 50, 51, 52, 53, 54, 55, 56, 57, 58, 59, 60, 61, 62, 63, 64, 65, 66, 67, 68, 69, 70, 71, 72, 73, 74, 75, 76, 77, 78, 79, 80, 81, 82, 83, 84, 85, 86, 87, 88, 89, 90, 91, 92, 93, 94] rfl rfl rfl rfl) rfl rfl hl.1 rfl (lv_room (Nat.le_of_ble_eq_true rfl)) dX4_pupil_2 ⟨Nat.zero_le _, Nat.zero_le _⟩) hP hD hS hA [0, 1, 2, 3, 4, 5, 6, 7, 8, 9, 10, 11, 12, 13, 14, 15, 16, 17, 18, 19, 20, 21, 22, 23, 24, 25, 26, 27, 28, 29, 30, 31, 32, 33, 34, 35, 36, 37, 38, 39, 40, 41, 42, 43, 44, 45, 46, 47, 48, 49, 50, 51, 52, 53, 54, 55, 56, 57, 58, 59, 60, 61, 62, 63, 64, 65, 66, 67, 68, 69, 70, 71, 72, 73, 74, 75, 76, 77, 78, 79, 80, 81, 82, 83, 84, 85, 86, 87, 88, 89, 90, 91, 92, 93, 94] rfl rfl (ws' := (wF cA cQ adF adB adT adH kH adR adO vB u1 vH bH vR vO)) rfl (fun H locs hP hD hS => ?_)
  obtain ⟨u2, eu2, h⟩ := bd_in h
  refine kI (va_runV (As := []) (rest := [.ref adF]) ⟨hx, hb, hml, hown, hts⟩ (c_X0_addPupil l D cA cQ adT u1 u2 eu2 _) (cwV 0 hts gX4_pupil_X0_addPupil rfl rfl rfl (by decide +kernel) ⟨Nat.le_of_ble_eq_true rfl, Nat.le_of_ble_eq_true rfl⟩) (pV (ci := 0) (q := (RX0, TX0, 13)) hK hN hP hD [15, 16, 17, 18, 19, 20, 21, 22, 23, 24, 25, 26, 27, 28] rfl rfl rfl rfl) rfl rfl hl.1 rfl (lv_room (Nat.le_of_ble_eq_true rfl)) dX4_pupil_5 ⟨Nat.zero_le _, Nat.zero_le _⟩) hP hD hS hA [15, 16, 17, 18, 19, 20, 21, 22, 23, 24, 25, 26, 27, 28] rfl rfl (ws' := (wF cA cQ adF adB adT adH kH adR adO vB u2.2 vH bH vR vO)) rfl (fun H locs hP hD hS => ?_)
  obtain ⟨u3, eu3, h⟩ := bd_in h
  refine kI (va_runV (As := [.int u2.1]) (rest := []) ⟨hx, hb, hml, hown, hts⟩ (c_X4_settled l D cA cQ adF adB adT adH kH adR adO vB u2.2 vH bH vR vO u2.1 u3 eu3 _) (cwV 1 hts gX4_pupil_X4_settled rfl rfl rfl (by decide +kernel) ⟨Nat.le_of_ble_eq_true rfl, Nat.le_of_ble_eq_true rfl⟩) (pV (ci := 4) (q := (RX4, TX4, 5)) hK hN hP hD [0, 1, 2, 3, 4, 5, 6, 7, 8, 9, 10, 11, 12, 13, 14, 15, 16, 17, 18, 19, 20, 21, 22, 23, 24, 25, 26, 27, 28, 29, 30, 31, 32, 33, 34, 35, 36, 37, 38, 39, 40, 41, 42, 43, 44, 45, 46, 47, 48, 49, 50, 51, 52, 53, 54, 55, 56, 57, 58, 59, 60, 61, 62, 63, 64, 65, 66, 67, 68, 69, 70, 71, 72, 73, 74, 75, 76, 77, 78, 79, 80, 81, 82, 83, 84, 85, 86, 87, 88, 89, 90, 91, 92, 93, 94] rfl rfl rfl rfl) rfl rfl hl.1 rfl (lv_room (Nat.le_of_ble_eq_true rfl)) dX4_pupil_8 ⟨Nat.zero_le _, Nat.zero_le _⟩) hP hD hS hA [0, 1, 2, 3, 4, 5, 6, 7, 8, 9, 10, 11, 12, 13, 14, 15, 16, 17, 18, 19, 20, 21, 22, 23, 24, 25, 26, 27, 28, 29, 30, 31, 32, 33, 34, 35, 36, 37, 38, 39, 40, 41, 42, 43, 44, 45, 46, 47, 48, 49, 50, 51, 52, 53, 54, 55, 56, 57, 58, 59, 60, 61, 62, 63, 64, 65, 66, 67, 68, 69, 70, 71, 72, 73, 74, 75, 76, 77, 78, 79, 80, 81, 82, 83, 84, 85, 86, 87, 88, 89, 90, 91, 92, 93, 94] rfl rfl (ws' := (wF cA cQ adF adB adT adH kH adR adO u3.2.1 u2.2 u3.2.2.1 u3.2.2.2 vR vO)) rfl (fun H locs hP hD hS => ?_)
  cases h
  exact endI hx hb hr hlocks hP hS rfl dX4_pupil_11
set_option maxHeartbeats 4000000 in
set_option maxRecDepth 100000 in
theorem c_X0_isPair (l : Launch) (D : va_G) (cA cQ : ClassId) (adB : Nat → Nat) (vB : St) (p1 : Int32) (p2 : Int32) (o : Int32) (hf : X0_isPair vB p1 p2 = some o) : Cti l yX0_isPair wsX0_isPair ({ frames := 2, cells := 0, slots := 0, locals := 42 }) D (TY cA cQ) [.ref (adB 0), .int p1, .int p2] (wB cA adB vB) (wB cA adB vB) o := by
  refine Wk.i (cc := cX0_isPair) (maxL := 3) (ret := (some .boolean)) (by decide) rfl (Nat.le_of_ble_eq_true rfl) ?_
  intro p e s m below meth c A ls hx hb hr hlocks hml hown hts hK hN hP hD hA hl
  have hown : s.vm.findClass RX0 = some m.cls := hown
  have hS : va_S A s.heap s.heap [] := va_S.rf
  have hl : lv_has ls 3 [(0, .ref (adB 0)), (1, .int p1), (2, .int p2)] := hl
  have h := hf
  unfold X0_isPair at h
  refine lv_aload_n hx hb dX0_isPair_0 rfl (lv_at hl 0 rfl) ?_
  refine lv_iload_n hx hb dX0_isPair_1 rfl (lv_at hl 1 rfl) ?_
  obtain ⟨u1, eu1, h⟩ := bd_in h
  refine kI (va_runV (As := [.int p1]) (rest := []) ⟨hx, hb, hml, hown, hts⟩ (c_X0_isPupil l D cA cQ adB vB p1 u1 eu1 _) (cwV 1 hts gX0_isPair_X0_isPupil rfl rfl rfl (by decide +kernel) ⟨Nat.le_of_ble_eq_true rfl, Nat.le_of_ble_eq_true rfl⟩) (pV (ci := 0) (q := (RX0, TX0, 13)) hK hN hP hD [0, 1, 2, 3, 4, 5, 6, 7, 8, 9, 10, 11, 12, 13] rfl rfl rfl rfl) rfl rfl hl.1 rfl (lv_room (Nat.le_of_ble_eq_true rfl)) dX0_isPair_2 ⟨Nat.zero_le _, Nat.zero_le _⟩) hP hD hS hA [0, 1, 2, 3, 4, 5, 6, 7, 8, 9, 10, 11, 12, 13] rfl rfl (ws' := (wB cA adB vB)) rfl (fun H locs hP hD hS => ?_)
  refine lv_if_eq (tgt := 25) hx hb dX0_isPair_5 (by decide) (fun c2 => ?_) (fun c2 => ?_)
  · have h := (if_pos c2).symm.trans h
    refine lv_iconst (v := (0 : Int32)) hx hb dX0_isPair_25 (by decide) ?_
    cases h
    exact endZ hx hb hr hlocks hP hS ⟨rfl, rfl⟩ dX0_isPair_26
  · have h := (if_neg c2).symm.trans h
    refine lv_aload_n hx hb dX0_isPair_8 rfl (lv_at hl 0 rfl) ?_
    refine lv_iload_n hx hb dX0_isPair_9 rfl (lv_at hl 2 rfl) ?_
    obtain ⟨u3, eu3, h⟩ := bd_in h
    refine kI (va_runV (As := [.int p2]) (rest := []) ⟨hx, hb, hml, hown, hts⟩ (c_X0_isPupil l D cA cQ adB vB p2 u3 eu3 _) (cwV 1 hts gX0_isPair_X0_isPupil rfl rfl rfl (by decide +kernel) ⟨Nat.le_of_ble_eq_true rfl, Nat.le_of_ble_eq_true rfl⟩) (pV (ci := 0) (q := (RX0, TX0, 13)) hK hN hP hD [0, 1, 2, 3, 4, 5, 6, 7, 8, 9, 10, 11, 12, 13] rfl rfl rfl rfl) rfl rfl hl.1 rfl (lv_room (Nat.le_of_ble_eq_true rfl)) dX0_isPair_10 ⟨Nat.zero_le _, Nat.zero_le _⟩) hP hD hS hA [0, 1, 2, 3, 4, 5, 6, 7, 8, 9, 10, 11, 12, 13] rfl rfl (ws' := (wB cA adB vB)) rfl (fun H locs hP hD hS => ?_)
    refine lv_if_eq (tgt := 25) hx hb dX0_isPair_13 (by decide) (fun c4 => ?_) (fun c4 => ?_)
    · have h := (if_pos c4).symm.trans h
      refine lv_iconst (v := (0 : Int32)) hx hb dX0_isPair_25 (by decide) ?_
      cases h
      exact endZ hx hb hr hlocks hP hS ⟨rfl, rfl⟩ dX0_isPair_26
    · have h := (if_neg c4).symm.trans h
      refine lv_iload_n hx hb dX0_isPair_16 rfl (lv_at hl 1 rfl) ?_
      refine lv_iload_n hx hb dX0_isPair_17 rfl (lv_at hl 2 rfl) ?_
      refine lv_icmp_eq (tgt := 25) hx hb dX0_isPair_18 (by decide) (fun c5 => ?_) (fun c5 => ?_)
      · have h := (if_pos c5).symm.trans h
        refine lv_iconst (v := (0 : Int32)) hx hb dX0_isPair_25 (by decide) ?_
        cases h
        exact endZ hx hb hr hlocks hP hS ⟨rfl, rfl⟩ dX0_isPair_26
      · have h := (if_neg c5).symm.trans h
        refine lv_iconst (v := (1 : Int32)) hx hb dX0_isPair_21 (by decide) ?_
        refine lv_goto (tgt := 26) hx hb dX0_isPair_22 (by decide) ?_
        cases h
        exact endZ hx hb hr hlocks hP hS ⟨rfl, rfl⟩ dX0_isPair_26
theorem iw_X0_addLot_X0 : ∀ w ∈ wsX00, w ∈ wsX0_addLot := fun _ h => List.mem_cons_of_mem _ (List.mem_append_right _ (h))
set_option maxHeartbeats 4000000 in
set_option maxRecDepth 100000 in
theorem c_X0_addLot (l : Launch) (D : va_G) (cA cQ : ClassId) (adB : Nat → Nat) (vB : St) (p1 : Int32) (p2 : Int32) (p3 : Int32) (p4 : Int32) (o : St) (hf : X0_addLot vB p1 p2 p3 p4 = some o) : Ctv l yX0_addLot wsX0_addLot ({ frames := 1, cells := 0, slots := 0, locals := 22 }) D (TY cA cQ) [.ref (adB 0), .int p1, .int p2, .int p3, .int p4] (wB cA adB vB) (wB cA adB o) := by
  refine Wk.v (cc := cX0_addLot) (maxL := 6) (ret := none) (by decide) rfl (Nat.le_of_ble_eq_true rfl) ?_
  intro p e s m below meth c A ls hx hb hr hlocks hml hown hts hK hN hP hD hA hl
  have hown : s.vm.findClass RX0 = some m.cls := hown
  have hS : va_S A s.heap s.heap [] := va_S.rf
  have hl : lv_has ls 6 [(0, .ref (adB 0)), (1, .int p1), (2, .int p2), (3, .int p3), (4, .int p4)] := hl
  have h := hf
  unfold X0_addLot at h
  refine lv_aload_n hx hb dX0_addLot_0 rfl (lv_at hl 0 rfl) ?_
  refine lv_iconst (v := (2 : Int32)) hx hb dX0_addLot_1 (by decide) ?_
  obtain ⟨u1, eu1, h⟩ := bd_in h
  refine kI (va_runV (As := [.int (2 : Int32)]) (rest := []) ⟨hx, hb, hml, hown, hts⟩ (c_X0_number l D cA cQ adB vB (2 : Int32) u1 eu1 _) (cwV 1 hts gX0_addLot_X0_number rfl rfl rfl (by decide +kernel) ⟨Nat.le_of_ble_eq_true rfl, Nat.le_of_ble_eq_true rfl⟩) (pV (ci := 0) (q := (RX0, TX0, 13)) hK hN hP hD [0, 1, 2, 3, 4, 5, 6, 7, 8, 9, 10, 11, 12, 13] rfl rfl rfl rfl) rfl rfl hl.1 rfl (lv_room (Nat.le_of_ble_eq_true rfl)) dX0_addLot_2 ⟨Nat.zero_le _, Nat.zero_le _⟩) hP hD hS hA [0, 1, 2, 3, 4, 5, 6, 7, 8, 9, 10, 11, 12, 13] rfl rfl (ws' := (wB cA adB vB)) rfl (fun H locs hP hD hS => ?_)
  refine lv_istore (lv' := [(5, .int u1), (0, .ref (adB 0)), (1, .int p1), (2, .int p2), (3, .int p3), (4, .int p4)]) hx hb dX0_addLot_5 hl (by decide) rfl (fun ls hl => ?_)
  refine lv_aload_n hx hb dX0_addLot_7 rfl (lv_at hl 1 rfl) ?_
  refine va_get (D := D) (ci := 0) (v := .ref (adB 8)) (C := RX0) (T := TX0) (N := 13) hx hb hts iw_X0_addLot_X0 hown hK hP 0 rfl rfl 7 (by decide) (hts (.fieldLink RX0 33 "FavourRings$Bank" "debtors" "[I") (List.mem_of_getElem? (i := 1) rfl)) (fun _ h9 => h9) rfl dX0_addLot_8 ?_
  refine lv_iload hx hb dX0_addLot_11 (lv_at hl 0 rfl) ?_
  refine lv_iload_n hx hb dX0_addLot_13 rfl (lv_at hl 2 rfl) ?_
  obtain ⟨u2, eu2, h⟩ := bd_in h
  refine kV (va_runSN (As := [.ref (adB 8), .int u1, .int p1]) (rest := []) ⟨hx, hb, hml, hown, hts⟩ (c_X4_put l D cA cQ (adB 8) 40 (vB 8) u1 p1 u2 eu2 _) ⟨va_cnB 3 hts gX0_addLot_X4_put_n55 rfl rfl rfl hN.2.1 (hts (.initialized RX4) (List.mem_of_getElem? (i := 14) rfl)) (by decide +kernel) ⟨Nat.le_of_ble_eq_true rfl, Nat.le_of_ble_eq_true rfl⟩, (hts (.static yX4_put) (List.mem_of_getElem? (i := 13) rfl)), trivial⟩ (pS hK hN hP hD [8] rfl rfl) rfl rfl hl.1 rfl (lv_room (Nat.le_of_ble_eq_true rfl)) dX0_addLot_14 ⟨Nat.zero_le _, Nat.zero_le _⟩) hP hD hS hA [8] rfl rfl (ws' := (wB cA adB (setA vB 8 u2))) rfl (fun H locs hP hD hS => ?_)
  refine lv_aload_n hx hb dX0_addLot_17 rfl (lv_at hl 1 rfl) ?_
  refine va_get (D := D) (ci := 0) (v := .ref (adB 9)) (C := RX0) (T := TX0) (N := 13) hx hb hts iw_X0_addLot_X0 hown hK hP 0 rfl rfl 8 (by decide) (hts (.fieldLink RX0 36 "FavourRings$Bank" "creditors" "[I") (List.mem_of_getElem? (i := 2) rfl)) (fun _ h9 => h9) rfl dX0_addLot_18 ?_
  refine lv_iload hx hb dX0_addLot_21 (lv_at hl 0 rfl) ?_
  refine lv_iload_n hx hb dX0_addLot_23 rfl (lv_at hl 3 rfl) ?_
  obtain ⟨u3, eu3, h⟩ := bd_in h
  refine kV (va_runSN (As := [.ref (adB 9), .int u1, .int p2]) (rest := []) ⟨hx, hb, hml, hown, hts⟩ (c_X4_put l D cA cQ (adB 9) 40 (vB 9) u1 p2 u3 eu3 _) ⟨va_cnB 3 hts gX0_addLot_X4_put_n55 rfl rfl rfl hN.2.1 (hts (.initialized RX4) (List.mem_of_getElem? (i := 14) rfl)) (by decide +kernel) ⟨Nat.le_of_ble_eq_true rfl, Nat.le_of_ble_eq_true rfl⟩, (hts (.static yX4_put) (List.mem_of_getElem? (i := 13) rfl)), trivial⟩ (pS hK hN hP hD [9] rfl rfl) rfl rfl hl.1 rfl (lv_room (Nat.le_of_ble_eq_true rfl)) dX0_addLot_24 ⟨Nat.zero_le _, Nat.zero_le _⟩) hP hD hS hA [9] rfl rfl (ws' := (wB cA adB (setA (setA vB 8 u2) 9 u3))) rfl (fun H locs hP hD hS => ?_)
  refine lv_aload_n hx hb dX0_addLot_27 rfl (lv_at hl 1 rfl) ?_
  refine va_get (D := D) (ci := 0) (v := .ref (adB 10)) (C := RX0) (T := TX0) (N := 13) hx hb hts iw_X0_addLot_X0 hown hK hP 0 rfl rfl 9 (by decide) (hts (.fieldLink RX0 39 "FavourRings$Bank" "kinds" "[I") (List.mem_of_getElem? (i := 3) rfl)) (fun _ h9 => h9) rfl dX0_addLot_28 ?_
  refine lv_iload hx hb dX0_addLot_31 (lv_at hl 0 rfl) ?_
  refine lv_iload_n hx hb dX0_addLot_33 rfl (lv_at hl 4 rfl) ?_
  obtain ⟨u4, eu4, h⟩ := bd_in h
  refine kV (va_runSN (As := [.ref (adB 10), .int u1, .int p3]) (rest := []) ⟨hx, hb, hml, hown, hts⟩ (c_X4_put l D cA cQ (adB 10) 40 (vB 10) u1 p3 u4 eu4 _) ⟨va_cnB 3 hts gX0_addLot_X4_put_n55 rfl rfl rfl hN.2.1 (hts (.initialized RX4) (List.mem_of_getElem? (i := 14) rfl)) (by decide +kernel) ⟨Nat.le_of_ble_eq_true rfl, Nat.le_of_ble_eq_true rfl⟩, (hts (.static yX4_put) (List.mem_of_getElem? (i := 13) rfl)), trivial⟩ (pS hK hN hP hD [10] rfl rfl) rfl rfl hl.1 rfl (lv_room (Nat.le_of_ble_eq_true rfl)) dX0_addLot_34 ⟨Nat.zero_le _, Nat.zero_le _⟩) hP hD hS hA [10] rfl rfl (ws' := (wB cA adB (setA (setA (setA vB 8 u2) 9 u3) 10 u4))) rfl (fun H locs hP hD hS => ?_)
  refine lv_aload_n hx hb dX0_addLot_37 rfl (lv_at hl 1 rfl) ?_
  refine va_get (D := D) (ci := 0) (v := .ref (adB 11)) (C := RX0) (T := TX0) (N := 13) hx hb hts iw_X0_addLot_X0 hown hK hP 0 rfl rfl 10 (by decide) (hts (.fieldLink RX0 42 "FavourRings$Bank" "sizes" "[I") (List.mem_of_getElem? (i := 4) rfl)) (fun _ h9 => h9) rfl dX0_addLot_38 ?_
  refine lv_iload hx hb dX0_addLot_41 (lv_at hl 0 rfl) ?_
  refine lv_iload hx hb dX0_addLot_43 (lv_at hl 5 rfl) ?_
  obtain ⟨u5, eu5, h⟩ := bd_in h
  refine kV (va_runSN (As := [.ref (adB 11), .int u1, .int p4]) (rest := []) ⟨hx, hb, hml, hown, hts⟩ (c_X4_put l D cA cQ (adB 11) 40 (vB 11) u1 p4 u5 eu5 _) ⟨va_cnB 3 hts gX0_addLot_X4_put_n55 rfl rfl rfl hN.2.1 (hts (.initialized RX4) (List.mem_of_getElem? (i := 14) rfl)) (by decide +kernel) ⟨Nat.le_of_ble_eq_true rfl, Nat.le_of_ble_eq_true rfl⟩, (hts (.static yX4_put) (List.mem_of_getElem? (i := 13) rfl)), trivial⟩ (pS hK hN hP hD [11] rfl rfl) rfl rfl hl.1 rfl (lv_room (Nat.le_of_ble_eq_true rfl)) dX0_addLot_45 ⟨Nat.zero_le _, Nat.zero_le _⟩) hP hD hS hA [11] rfl rfl (ws' := (wB cA adB (setA (setA (setA (setA vB 8 u2) 9 u3) 10 u4) 11 u5))) rfl (fun H locs hP hD hS => ?_)
  refine lv_aload_n hx hb dX0_addLot_48 rfl (lv_at hl 1 rfl) ?_
  refine va_get (D := D) (ci := 0) (v := .ref (adB 12)) (C := RX0) (T := TX0) (N := 13) hx hb hts iw_X0_addLot_X0 hown hK hP 0 rfl rfl 11 (by decide) (hts (.fieldLink RX0 45 "FavourRings$Bank" "ages" "[I") (List.mem_of_getElem? (i := 5) rfl)) (fun _ h9 => h9) rfl dX0_addLot_49 ?_
  refine lv_iload hx hb dX0_addLot_52 (lv_at hl 0 rfl) ?_
  refine lv_iconst (v := (0 : Int32)) hx hb dX0_addLot_54 (by decide) ?_
  obtain ⟨u6, eu6, h⟩ := bd_in h
  refine kV (va_runSN (As := [.ref (adB 12), .int u1, .int (0 : Int32)]) (rest := []) ⟨hx, hb, hml, hown, hts⟩ (c_X4_put l D cA cQ (adB 12) 40 (vB 12) u1 (0 : Int32) u6 eu6 _) ⟨va_cnB 3 hts gX0_addLot_X4_put_n55 rfl rfl rfl hN.2.1 (hts (.initialized RX4) (List.mem_of_getElem? (i := 14) rfl)) (by decide +kernel) ⟨Nat.le_of_ble_eq_true rfl, Nat.le_of_ble_eq_true rfl⟩, (hts (.static yX4_put) (List.mem_of_getElem? (i := 13) rfl)), trivial⟩ (pS hK hN hP hD [12] rfl rfl) rfl rfl hl.1 rfl (lv_room (Nat.le_of_ble_eq_true rfl)) dX0_addLot_55 ⟨Nat.zero_le _, Nat.zero_le _⟩) hP hD hS hA [12] rfl rfl (ws' := (wB cA adB (setA (setA (setA (setA (setA vB 8 u2) 9 u3) 10 u4) 11 u5) 12 u6))) rfl (fun H locs hP hD hS => ?_)
  refine lv_aload_n hx hb dX0_addLot_58 rfl (lv_at hl 1 rfl) ?_
  refine va_get (D := D) (ci := 0) (v := .ref (adB 13)) (C := RX0) (T := TX0) (N := 13) hx hb hts iw_X0_addLot_X0 hown hK hP 0 rfl rfl 12 (by decide) (hts (.fieldLink RX0 48 "FavourRings$Bank" "passed" "[I") (List.mem_of_getElem? (i := 6) rfl)) (fun _ h9 => h9) rfl dX0_addLot_59 ?_
  refine lv_iload hx hb dX0_addLot_62 (lv_at hl 0 rfl) ?_
  refine lv_iconst (v := (0 : Int32)) hx hb dX0_addLot_64 (by decide) ?_
  obtain ⟨u7, eu7, h⟩ := bd_in h
  refine kV (va_runSN (As := [.ref (adB 13), .int u1, .int (0 : Int32)]) (rest := []) ⟨hx, hb, hml, hown, hts⟩ (c_X4_put l D cA cQ (adB 13) 40 (vB 13) u1 (0 : Int32) u7 eu7 _) ⟨va_cnB 3 hts gX0_addLot_X4_put_n55 rfl rfl rfl hN.2.1 (hts (.initialized RX4) (List.mem_of_getElem? (i := 14) rfl)) (by decide +kernel) ⟨Nat.le_of_ble_eq_true rfl, Nat.le_of_ble_eq_true rfl⟩, (hts (.static yX4_put) (List.mem_of_getElem? (i := 13) rfl)), trivial⟩ (pS hK hN hP hD [13] rfl rfl) rfl rfl hl.1 rfl (lv_room (Nat.le_of_ble_eq_true rfl)) dX0_addLot_65 ⟨Nat.zero_le _, Nat.zero_le _⟩) hP hD hS hA [13] rfl rfl (ws' := (wB cA adB (setA (setA (setA (setA (setA (setA vB 8 u2) 9 u3) 10 u4) 11 u5) 12 u6) 13 u7))) rfl (fun H locs hP hD hS => ?_)
  refine lv_aload_n hx hb dX0_addLot_68 rfl (lv_at hl 1 rfl) ?_
  refine va_get (D := D) (ci := 0) (v := .ref (adB 1)) (C := RX0) (T := TX0) (N := 13) hx hb hts iw_X0_addLot_X0 hown hK hP 0 rfl rfl 0 (by decide) (hts (.fieldLink RX0 9 "FavourRings$Bank" "numbers" "[I") (List.mem_of_getElem? (i := 7) rfl)) (fun _ h9 => h9) rfl dX0_addLot_69 ?_
  refine lv_iconst (v := (2 : Int32)) hx hb dX0_addLot_72 (by decide) ?_
  refine lv_iconst (v := (1 : Int32)) hx hb dX0_addLot_73 (by decide) ?_
  obtain ⟨u8, eu8, h⟩ := bd_in h
  refine kV (va_runSN (As := [.ref (adB 1), .int (2 : Int32), .int (1 : Int32)]) (rest := []) ⟨hx, hb, hml, hown, hts⟩ (c_X4_add l D cA cQ (adB 1) 26 (vB 1) (2 : Int32) (1 : Int32) u8 eu8 _) ⟨va_cnB 3 hts gX0_addLot_X4_add_n86 rfl rfl rfl hN.2.2.2.2.1 (hts (.initialized RX4) (List.mem_of_getElem? (i := 14) rfl)) (by decide +kernel) ⟨Nat.le_of_ble_eq_true rfl, Nat.le_of_ble_eq_true rfl⟩, (hts (.static yX4_add) (List.mem_of_getElem? (i := 16) rfl)), trivial⟩ (pS hK hN hP hD [1] rfl rfl) rfl rfl hl.1 rfl (lv_room (Nat.le_of_ble_eq_true rfl)) dX0_addLot_74 ⟨Nat.zero_le _, Nat.zero_le _⟩) hP hD hS hA [1] rfl rfl (ws' := (wB cA adB (setA (setA (setA (setA (setA (setA (setA vB 8 u2) 9 u3) 10 u4) 11 u5) 12 u6) 13 u7) 1 u8))) rfl (fun H locs hP hD hS => ?_)
  cases h
  exact endV hx hb hr hlocks hP hS dX0_addLot_77
theorem iw_X0_lendFavours_X0 : ∀ w ∈ wsX00, w ∈ wsX0_lendFavours := fun _ h => List.mem_cons_of_mem _ (List.mem_append_right _ (h))
set_option maxHeartbeats 4000000 in
set_option maxRecDepth 100000 in
theorem c_X0_lendFavours (l : Launch) (D : va_G) (cA cQ : ClassId) (adB : Nat → Nat) (vB : St) (p1 : Int32) (p2 : Int32) (p3 : Int32) (p4 : Int32) (o : Int32 × St) (hf : X0_lendFavours vB p1 p2 p3 p4 = some o) : Cti l yX0_lendFavours wsX0_lendFavours ({ frames := 3, cells := 0, slots := 0, locals := 72 }) D (TY cA cQ) [.ref (adB 0), .int p1, .int p2, .int p3, .int p4] (wB cA adB vB) (wB cA adB o.2) o.1 := by
  refine Wk.i (cc := cX0_lendFavours) (maxL := 5) (ret := (some .int)) (by decide) rfl (Nat.le_of_ble_eq_true rfl) ?_
  intro p e s m below meth c A ls hx hb hr hlocks hml hown hts hK hN hP hD hA hl
  have hown : s.vm.findClass RX0 = some m.cls := hown
  have hS : va_S A s.heap s.heap [] := va_S.rf
  have hl : lv_has ls 5 [(0, .ref (adB 0)), (1, .int p1), (2, .int p2), (3, .int p3), (4, .int p4)] := hl
  have h := hf
  unfold X0_lendFavours at h
  refine lv_aload_n hx hb dX0_lendFavours_0 rfl (lv_at hl 0 rfl) ?_
  refine lv_iload_n hx hb dX0_lendFavours_1 rfl (lv_at hl 1 rfl) ?_
  refine lv_iload_n hx hb dX0_lendFavours_2 rfl (lv_at hl 2 rfl) ?_
  obtain ⟨u1, eu1, h⟩ := bd_in h
  refine kI (va_runV (As := [.int p1, .int p2]) (rest := []) ⟨hx, hb, hml, hown, hts⟩ (c_X0_isPair l D cA cQ adB vB p1 p2 u1 eu1 _) (cwV 2 hts gX0_lendFavours_X0_isPair rfl rfl rfl (by decide +kernel) ⟨Nat.le_of_ble_eq_true rfl, Nat.le_of_ble_eq_true rfl⟩) (pV (ci := 0) (q := (RX0, TX0, 13)) hK hN hP hD [0, 1, 2, 3, 4, 5, 6, 7, 8, 9, 10, 11, 12, 13] rfl rfl rfl rfl) rfl rfl hl.1 rfl (lv_room (Nat.le_of_ble_eq_true rfl)) dX0_lendFavours_3 ⟨Nat.zero_le _, Nat.zero_le _⟩) hP hD hS hA [0, 1, 2, 3, 4, 5, 6, 7, 8, 9, 10, 11, 12, 13] rfl rfl (ws' := (wB cA adB vB)) rfl (fun H locs hP hD hS => ?_)
  refine lv_if_eq (tgt := 24) hx hb dX0_lendFavours_6 (by decide) (fun c2 => ?_) (fun c2 => ?_)
  · have h := (if_pos c2).symm.trans h
    refine lv_ldc (v := (-1000001 : Int32)) hx hb hown (hts (.constant RX0 93 (-1000001)) (List.mem_of_getElem? (i := 1) rfl)) dX0_lendFavours_24 ?_
    cases h
    exact endI hx hb hr hlocks hP hS rfl dX0_lendFavours_26
  · have h := (if_neg c2).symm.trans h
    refine lv_iload_n hx hb dX0_lendFavours_9 rfl (lv_at hl 3 rfl) ?_
    obtain ⟨u3, eu3, h⟩ := bd_in h
    refine kI (va_runSN (As := [.int p3]) (rest := []) ⟨hx, hb, hml, hown, hts⟩ (c_X4_isKind l D cA cQ  p3 u3 eu3 _) ⟨va_cnB 1 hts gX0_lendFavours_X4_isKind_n116 rfl rfl rfl hN.2.2.2.2.2.1 (hts (.initialized RX4) (List.mem_of_getElem? (i := 20) rfl)) (by decide +kernel) ⟨Nat.le_of_ble_eq_true rfl, Nat.le_of_ble_eq_true rfl⟩, (hts (.static yX4_isKind) (List.mem_of_getElem? (i := 19) rfl)), trivial⟩ (pS hK hN hP hD [] rfl rfl) rfl rfl hl.1 rfl (lv_room (Nat.le_of_ble_eq_true rfl)) dX0_lendFavours_10 ⟨Nat.zero_le _, Nat.zero_le _⟩) hP hD hS hA [] rfl rfl (ws' := (wB cA adB vB)) rfl (fun H locs hP hD hS => ?_)
    refine lv_if_eq (tgt := 24) hx hb dX0_lendFavours_13 (by decide) (fun c4 => ?_) (fun c4 => ?_)
    · have h := (if_pos c4).symm.trans h
      refine lv_ldc (v := (-1000001 : Int32)) hx hb hown (hts (.constant RX0 93 (-1000001)) (List.mem_of_getElem? (i := 1) rfl)) dX0_lendFavours_24 ?_
      cases h
      exact endI hx hb hr hlocks hP hS rfl dX0_lendFavours_26
    · have h := (if_neg c4).symm.trans h
      refine lv_iload hx hb dX0_lendFavours_16 (lv_at hl 4 rfl) ?_
      obtain ⟨u5, eu5, h⟩ := bd_in h
      refine kI (va_runSN (As := [.int p4]) (rest := []) ⟨hx, hb, hml, hown, hts⟩ (c_X4_isMany l D cA cQ  p4 u5 eu5 _) ⟨va_cnB 1 hts gX0_lendFavours_X4_isMany_n119 rfl rfl rfl hN.2.2.2.2.2.2.1 (hts (.initialized RX4) (List.mem_of_getElem? (i := 20) rfl)) (by decide +kernel) ⟨Nat.le_of_ble_eq_true rfl, Nat.le_of_ble_eq_true rfl⟩, (hts (.static yX4_isMany) (List.mem_of_getElem? (i := 22) rfl)), trivial⟩ (pS hK hN hP hD [] rfl rfl) rfl rfl hl.1 rfl (lv_room (Nat.le_of_ble_eq_true rfl)) dX0_lendFavours_18 ⟨Nat.zero_le _, Nat.zero_le _⟩) hP hD hS hA [] rfl rfl (ws' := (wB cA adB vB)) rfl (fun H locs hP hD hS => ?_)
      refine lv_if_ne (tgt := 27) hx hb dX0_lendFavours_21 (by decide) (fun c6 => ?_) (fun c6 => ?_)
      · have h := (if_neg c6).symm.trans h
        refine lv_aload_n hx hb dX0_lendFavours_27 rfl (lv_at hl 0 rfl) ?_
        refine lv_iload_n hx hb dX0_lendFavours_28 rfl (lv_at hl 1 rfl) ?_
        refine lv_iload hx hb dX0_lendFavours_29 (lv_at hl 4 rfl) ?_
        obtain ⟨u7, eu7, h⟩ := bd_in h
        refine kI (va_runV (As := [.int p1, .int p4]) (rest := []) ⟨hx, hb, hml, hown, hts⟩ (c_X0_reasonAgainst l D cA cQ adB vB p1 p4 u7 eu7 _) (cwV 2 hts gX0_lendFavours_X0_reasonAgainst rfl rfl rfl (by decide +kernel) ⟨Nat.le_of_ble_eq_true rfl, Nat.le_of_ble_eq_true rfl⟩) (pV (ci := 0) (q := (RX0, TX0, 13)) hK hN hP hD [0, 1, 2, 3, 4, 5, 6, 7, 8, 9, 10, 11, 12, 13] rfl rfl rfl rfl) rfl rfl hl.1 rfl (lv_room (Nat.le_of_ble_eq_true rfl)) dX0_lendFavours_31 ⟨Nat.zero_le _, Nat.zero_le _⟩) hP hD hS hA [0, 1, 2, 3, 4, 5, 6, 7, 8, 9, 10, 11, 12, 13] rfl rfl (ws' := (wB cA adB vB)) rfl (fun H locs hP hD hS => ?_)
        refine lv_if_eq (tgt := 40) hx hb dX0_lendFavours_34 (by decide) (fun c8 => ?_) (fun c8 => ?_)
        · have h := (if_pos c8).symm.trans h
          refine lv_aload_n hx hb dX0_lendFavours_40 rfl (lv_at hl 0 rfl) ?_
          refine lv_iconst (v := (2 : Int32)) hx hb dX0_lendFavours_41 (by decide) ?_
          obtain ⟨u9, eu9, h⟩ := bd_in h
          refine kI (va_runV (As := [.int (2 : Int32)]) (rest := []) ⟨hx, hb, hml, hown, hts⟩ (c_X0_number l D cA cQ adB vB (2 : Int32) u9 eu9 _) (cwV 1 hts gX0_lendFavours_X0_number rfl rfl rfl (by decide +kernel) ⟨Nat.le_of_ble_eq_true rfl, Nat.le_of_ble_eq_true rfl⟩) (pV (ci := 0) (q := (RX0, TX0, 13)) hK hN hP hD [0, 1, 2, 3, 4, 5, 6, 7, 8, 9, 10, 11, 12, 13] rfl rfl rfl rfl) rfl rfl hl.1 rfl (lv_room (Nat.le_of_ble_eq_true rfl)) dX0_lendFavours_42 ⟨Nat.zero_le _, Nat.zero_le _⟩) hP hD hS hA [0, 1, 2, 3, 4, 5, 6, 7, 8, 9, 10, 11, 12, 13] rfl rfl (ws' := (wB cA adB vB)) rfl (fun H locs hP hD hS => ?_)
          refine lv_bipush (v := (40 : Int32)) hx hb dX0_lendFavours_45 (by decide) ?_
          refine lv_icmp_lt (tgt := 53) hx hb dX0_lendFavours_47 (by decide) (fun c10 => ?_) (fun c10 => ?_)
          · have h := (if_pos c10).symm.trans h
            refine lv_aload_n hx hb dX0_lendFavours_53 rfl (lv_at hl 0 rfl) ?_
            refine lv_iload_n hx hb dX0_lendFavours_54 rfl (lv_at hl 1 rfl) ?_
            refine lv_iload_n hx hb dX0_lendFavours_55 rfl (lv_at hl 2 rfl) ?_
            refine lv_iload_n hx hb dX0_lendFavours_56 rfl (lv_at hl 3 rfl) ?_
            refine lv_iload hx hb dX0_lendFavours_57 (lv_at hl 4 rfl) ?_
            obtain ⟨u11, eu11, h⟩ := bd_in h
            refine kV (va_runV (As := [.int p1, .int p2, .int p3, .int p4]) (rest := []) ⟨hx, hb, hml, hown, hts⟩ (c_X0_addLot l D cA cQ adB vB p1 p2 p3 p4 u11 eu11 _) (cwV 4 hts gX0_lendFavours_X0_addLot rfl rfl rfl (by decide +kernel) ⟨Nat.le_of_ble_eq_true rfl, Nat.le_of_ble_eq_true rfl⟩) (pV (ci := 0) (q := (RX0, TX0, 13)) hK hN hP hD [0, 1, 2, 3, 4, 5, 6, 7, 8, 9, 10, 11, 12, 13] rfl rfl rfl rfl) rfl rfl hl.1 rfl (lv_room (Nat.le_of_ble_eq_true rfl)) dX0_lendFavours_59 ⟨Nat.zero_le _, Nat.zero_le _⟩) hP hD hS hA [0, 1, 2, 3, 4, 5, 6, 7, 8, 9, 10, 11, 12, 13] rfl rfl (ws' := (wB cA adB u11)) rfl (fun H locs hP hD hS => ?_)
            refine lv_aload_n hx hb dX0_lendFavours_62 rfl (lv_at hl 0 rfl) ?_
            refine va_get (D := D) (ci := 0) (v := .ref (adB 2)) (C := RX0) (T := TX0) (N := 13) hx hb hts iw_X0_lendFavours_X0 hown hK hP 0 rfl rfl 1 (by decide) (hts (.fieldLink RX0 15 "FavourRings$Bank" "came" "[I") (List.mem_of_getElem? (i := 4) rfl)) (fun _ h9 => h9) rfl dX0_lendFavours_63 ?_
            refine lv_iload_n hx hb dX0_lendFavours_66 rfl (lv_at hl 1 rfl) ?_
            refine lv_iload hx hb dX0_lendFavours_67 (lv_at hl 4 rfl) ?_
            refine lv_ineg hx hb dX0_lendFavours_69 ?_
            obtain ⟨u12, eu12, h⟩ := bd_in h
            refine kV (va_runSN (As := [.ref (adB 2), .int p1, .int (-p4)]) (rest := []) ⟨hx, hb, hml, hown, hts⟩ (c_X4_add l D cA cQ (adB 2) 8 (u11 2) p1 (-p4) u12 eu12 _) ⟨va_cnB 3 hts gX0_lendFavours_X4_add_n86 rfl rfl rfl hN.2.2.2.2.1 (hts (.initialized RX4) (List.mem_of_getElem? (i := 20) rfl)) (by decide +kernel) ⟨Nat.le_of_ble_eq_true rfl, Nat.le_of_ble_eq_true rfl⟩, (hts (.static yX4_add) (List.mem_of_getElem? (i := 56) rfl)), trivial⟩ (pS hK hN hP hD [2] rfl rfl) rfl rfl hl.1 rfl (lv_room (Nat.le_of_ble_eq_true rfl)) dX0_lendFavours_70 ⟨Nat.zero_le _, Nat.zero_le _⟩) hP hD hS hA [2] rfl rfl (ws' := (wB cA adB (setA u11 2 u12))) rfl (fun H locs hP hD hS => ?_)
            refine lv_aload_n hx hb dX0_lendFavours_73 rfl (lv_at hl 0 rfl) ?_
            refine va_get (D := D) (ci := 0) (v := .ref (adB 2)) (C := RX0) (T := TX0) (N := 13) hx hb hts iw_X0_lendFavours_X0 hown hK hP 0 rfl rfl 1 (by decide) (hts (.fieldLink RX0 15 "FavourRings$Bank" "came" "[I") (List.mem_of_getElem? (i := 4) rfl)) (fun _ h9 => h9) rfl dX0_lendFavours_74 ?_
            refine lv_iload_n hx hb dX0_lendFavours_77 rfl (lv_at hl 2 rfl) ?_
            refine lv_iload hx hb dX0_lendFavours_78 (lv_at hl 4 rfl) ?_
            obtain ⟨u13, eu13, h⟩ := bd_in h
            refine kV (va_runSN (As := [.ref (adB 2), .int p2, .int p4]) (rest := []) ⟨hx, hb, hml, hown, hts⟩ (c_X4_add l D cA cQ (adB 2) 8 u12 p2 p4 u13 eu13 _) ⟨va_cnB 3 hts gX0_lendFavours_X4_add_n86 rfl rfl rfl hN.2.2.2.2.1 (hts (.initialized RX4) (List.mem_of_getElem? (i := 20) rfl)) (by decide +kernel) ⟨Nat.le_of_ble_eq_true rfl, Nat.le_of_ble_eq_true rfl⟩, (hts (.static yX4_add) (List.mem_of_getElem? (i := 56) rfl)), trivial⟩ (pS hK hN hP hD [2] rfl rfl) rfl rfl hl.1 rfl (lv_room (Nat.le_of_ble_eq_true rfl)) dX0_lendFavours_80 ⟨Nat.zero_le _, Nat.zero_le _⟩) hP hD hS hA [2] rfl rfl (ws' := (wB cA adB (setA u11 2 u13))) rfl (fun H locs hP hD hS => ?_)
            refine lv_aload_n hx hb dX0_lendFavours_83 rfl (lv_at hl 0 rfl) ?_
            refine va_get (D := D) (ci := 0) (v := .ref (adB 1)) (C := RX0) (T := TX0) (N := 13) hx hb hts iw_X0_lendFavours_X0 hown hK hP 0 rfl rfl 0 (by decide) (hts (.fieldLink RX0 9 "FavourRings$Bank" "numbers" "[I") (List.mem_of_getElem? (i := 5) rfl)) (fun _ h9 => h9) rfl dX0_lendFavours_84 ?_
            refine lv_iconst (v := (4 : Int32)) hx hb dX0_lendFavours_87 (by decide) ?_
            refine lv_iload hx hb dX0_lendFavours_88 (lv_at hl 4 rfl) ?_
            obtain ⟨u14, eu14, h⟩ := bd_in h
            refine kV (va_runSN (As := [.ref (adB 1), .int (4 : Int32), .int p4]) (rest := []) ⟨hx, hb, hml, hown, hts⟩ (c_X4_add l D cA cQ (adB 1) 26 (u11 1) (4 : Int32) p4 u14 eu14 _) ⟨va_cnB 3 hts gX0_lendFavours_X4_add_n86 rfl rfl rfl hN.2.2.2.2.1 (hts (.initialized RX4) (List.mem_of_getElem? (i := 20) rfl)) (by decide +kernel) ⟨Nat.le_of_ble_eq_true rfl, Nat.le_of_ble_eq_true rfl⟩, (hts (.static yX4_add) (List.mem_of_getElem? (i := 56) rfl)), trivial⟩ (pS hK hN hP hD [1] rfl rfl) rfl rfl hl.1 rfl (lv_room (Nat.le_of_ble_eq_true rfl)) dX0_lendFavours_90 ⟨Nat.zero_le _, Nat.zero_le _⟩) hP hD hS hA [1] rfl rfl (ws' := (wB cA adB (setA (setA u11 2 u13) 1 u14))) rfl (fun H locs hP hD hS => ?_)
            refine lv_aload_n hx hb dX0_lendFavours_93 rfl (lv_at hl 0 rfl) ?_
            refine lv_iload_n hx hb dX0_lendFavours_94 rfl (lv_at hl 1 rfl) ?_
            refine lv_iload_n hx hb dX0_lendFavours_95 rfl (lv_at hl 2 rfl) ?_
            refine lv_iload_n hx hb dX0_lendFavours_96 rfl (lv_at hl 3 rfl) ?_
            obtain ⟨u15, eu15, h⟩ := bd_in h
            refine kI (va_runV (As := [.int p1, .int p2, .int p3]) (rest := []) ⟨hx, hb, hml, hown, hts⟩ (c_X0_sumOwed l D cA cQ adB (setA (setA u11 2 u13) 1 u14) p1 p2 p3 u15 eu15 _) (cwV 3 hts gX0_lendFavours_X0_sumOwed rfl rfl rfl (by decide +kernel) ⟨Nat.le_of_ble_eq_true rfl, Nat.le_of_ble_eq_true rfl⟩) (pV (ci := 0) (q := (RX0, TX0, 13)) hK hN hP hD [0, 1, 2, 3, 4, 5, 6, 7, 8, 9, 10, 11, 12, 13] rfl rfl rfl rfl) rfl rfl hl.1 rfl (lv_room (Nat.le_of_ble_eq_true rfl)) dX0_lendFavours_97 ⟨Nat.zero_le _, Nat.zero_le _⟩) hP hD hS hA [0, 1, 2, 3, 4, 5, 6, 7, 8, 9, 10, 11, 12, 13] rfl rfl (ws' := (wB cA adB (setA (setA u11 2 u13) 1 u14))) rfl (fun H locs hP hD hS => ?_)
            cases h
            exact endI hx hb hr hlocks hP hS rfl dX0_lendFavours_100
          · have h := (if_neg c10).symm.trans h
            refine lv_ldc (v := (-1000003 : Int32)) hx hb hown (hts (.constant RX0 85 (-1000003)) (List.mem_of_getElem? (i := 3) rfl)) dX0_lendFavours_50 ?_
            cases h
            exact endI hx hb hr hlocks hP hS rfl dX0_lendFavours_52
        · have h := (if_neg c8).symm.trans h
          refine lv_ldc (v := (-1000002 : Int32)) hx hb hown (hts (.constant RX0 125 (-1000002)) (List.mem_of_getElem? (i := 2) rfl)) dX0_lendFavours_37 ?_
          cases h
          exact endI hx hb hr hlocks hP hS rfl dX0_lendFavours_39
      · have h := (if_pos c6).symm.trans h
        refine lv_ldc (v := (-1000001 : Int32)) hx hb hown (hts (.constant RX0 93 (-1000001)) (List.mem_of_getElem? (i := 1) rfl)) dX0_lendFavours_24 ?_
        cases h
        exact endI hx hb hr hlocks hP hS rfl dX0_lendFavours_26
set_option maxHeartbeats 4000000 in
set_option maxRecDepth 100000 in
theorem c_X4_lend (l : Launch) (D : va_G) (cA cQ : ClassId) (adF : Nat) (adB : Nat → Nat) (adT : Nat → Nat) (adH : Nat → Nat) (kH : Nat → Nat → Nat) (adR : Nat → Nat) (adO : Nat → Nat) (vB : St) (vT : St) (vH : St) (bH : Nat → St) (vR : St) (vO : St) (p1 : Int32) (p2 : Int32) (p3 : Int32) (p4 : Int32) (o : Int32 × St × St × St × (Nat → St)) (hf : X4_lend vB vT vH bH vR vO p1 p2 p3 p4 = some o) : Cti l yX4_lend wsX4_lend ({ frames := 6, cells := 0, slots := 0, locals := 165 }) D (TY cA cQ) [.ref adF, .int p1, .int p2, .int p3, .int p4] (wF cA cQ adF adB adT adH kH adR adO vB vT vH bH vR vO) (wF cA cQ adF adB adT adH kH adR adO o.2.1 o.2.2.1 o.2.2.2.1 o.2.2.2.2 vR vO) o.1 := by
  refine Wk.i (cc := cX4_lend) (maxL := 5) (ret := (some .int)) (by decide) rfl (Nat.le_of_ble_eq_true rfl) ?_
  intro p e s m below meth c A ls hx hb hr hlocks hml hown hts hK hN hP hD hA hl
  have hown : s.vm.findClass RX4 = some m.cls := hown
  have hS : va_S A s.heap s.heap [] := va_S.rf
  have hl : lv_has ls 5 [(0, .ref adF), (1, .int p1), (2, .int p2), (3, .int p3), (4, .int p4)] := hl
  have h := hf
  unfold X4_lend at h
  refine lv_aload_n hx hb dX4_lend_0 rfl (lv_at hl 0 rfl) ?_
  refine lv_aload_n hx hb dX4_lend_1 rfl (lv_at hl 0 rfl) ?_
  obtain ⟨u1, eu1, h⟩ := bd_in h
  refine kR (va_runV (As := []) (rest := [.ref adF]) ⟨hx, hb, hml, hown, hts⟩ (c_X4_freshTrial l D cA cQ adF adB adT adH kH adR adO vB vT vH bH vR vO u1 eu1 _) (cwV 0 hts gX4_lend_X4_freshTrial rfl rfl rfl (by decide +kernel) ⟨Nat.le_of_ble_eq_true rfl, Nat.le_of_ble_eq_true rfl⟩) (pV (ci := 4) (q := (RX4, TX4, 5)) hK hN hP hD [0, 1, 2, 3, 4, 5, 6, 7, 8, 9, 10, 11, 12, 13, 14, 15, 16, 17, 18, 19, 20, 21, 22, 23, 24, 25, 26, 27, 28, 29, 30, 31, 32, 33, 34, 35, 36, 37, 38, 39, 40, 41, 42, 43, 44, 45, 46, 47, 48, 49, 50, 51, 52, 53, 54, 55, 56, 57, 58, 59, 60, 61, 62, 63, 64, 65, 66, 67, 68, 69, 70, 71, 72, 73, 74, 75, 76, 77, 78, 79, 80, 81, 82, 83, 84, 85, 86, 87, 88, 89, 90, 91, 92, 93, 94] rfl rfl rfl rfl) rfl rfl hl.1 rfl (lv_room (Nat.le_of_ble_eq_true rfl)) dX4_lend_2 ⟨Nat.zero_le _, Nat.zero_le _⟩) hP hD hS hA [0, 1, 2, 3, 4, 5, 6, 7, 8, 9, 10, 11, 12, 13, 14, 15, 16, 17, 18, 19, 20, 21, 22, 23, 24, 25, 26, 27, 28, 29, 30, 31, 32, 33, 34, 35, 36, 37, 38, 39, 40, 41, 42, 43, 44, 45, 46, 47, 48, 49, 50, 51, 52, 53, 54, 55, 56, 57, 58, 59, 60, 61, 62, 63, 64, 65, 66, 67, 68, 69, 70, 71, 72, 73, 74, 75, 76, 77, 78, 79, 80, 81, 82, 83, 84, 85, 86, 87, 88, 89, 90, 91, 92, 93, 94] rfl rfl (ws' := (wF cA cQ adF adB adT adH kH adR adO vB u1 vH bH vR vO)) rfl (fun H locs hP hD hS => ?_)
  refine lv_iload_n hx hb dX4_lend_5 rfl (lv_at hl 1 rfl) ?_
  refine lv_iload_n hx hb dX4_lend_6 rfl (lv_at hl 2 rfl) ?_
  refine lv_iload_n hx hb dX4_lend_7 rfl (lv_at hl 3 rfl) ?_
  refine lv_iload hx hb dX4_lend_8 (lv_at hl 4 rfl) ?_
  obtain ⟨u2, eu2, h⟩ := bd_in h
  refine kI (va_runV (As := [.int p1, .int p2, .int p3, .int p4]) (rest := [.ref adF]) ⟨hx, hb, hml, hown, hts⟩ (c_X0_lendFavours l D cA cQ adT u1 p1 p2 p3 p4 u2 eu2 _) (cwV 4 hts gX4_lend_X0_lendFavours rfl rfl rfl (by decide +kernel) ⟨Nat.le_of_ble_eq_true rfl, Nat.le_of_ble_eq_true rfl⟩) (pV (ci := 0) (q := (RX0, TX0, 13)) hK hN hP hD [15, 16, 17, 18, 19, 20, 21, 22, 23, 24, 25, 26, 27, 28] rfl rfl rfl rfl) rfl rfl hl.1 rfl (lv_room (Nat.le_of_ble_eq_true rfl)) dX4_lend_10 ⟨Nat.zero_le _, Nat.zero_le _⟩) hP hD hS hA [15, 16, 17, 18, 19, 20, 21, 22, 23, 24, 25, 26, 27, 28] rfl rfl (ws' := (wF cA cQ adF adB adT adH kH adR adO vB u2.2 vH bH vR vO)) rfl (fun H locs hP hD hS => ?_)
  obtain ⟨u3, eu3, h⟩ := bd_in h
  refine kI (va_runV (As := [.int u2.1]) (rest := []) ⟨hx, hb, hml, hown, hts⟩ (c_X4_settled l D cA cQ adF adB adT adH kH adR adO vB u2.2 vH bH vR vO u2.1 u3 eu3 _) (cwV 1 hts gX4_lend_X4_settled rfl rfl rfl (by decide +kernel) ⟨Nat.le_of_ble_eq_true rfl, Nat.le_of_ble_eq_true rfl⟩) (pV (ci := 4) (q := (RX4, TX4, 5)) hK hN hP hD [0, 1, 2, 3, 4, 5, 6, 7, 8, 9, 10, 11, 12, 13, 14, 15, 16, 17, 18, 19, 20, 21, 22, 23, 24, 25, 26, 27, 28, 29, 30, 31, 32, 33, 34, 35, 36, 37, 38, 39, 40, 41, 42, 43, 44, 45, 46, 47, 48, 49, 50, 51, 52, 53, 54, 55, 56, 57, 58, 59, 60, 61, 62, 63, 64, 65, 66, 67, 68, 69, 70, 71, 72, 73, 74, 75, 76, 77, 78, 79, 80, 81, 82, 83, 84, 85, 86, 87, 88, 89, 90, 91, 92, 93, 94] rfl rfl rfl rfl) rfl rfl hl.1 rfl (lv_room (Nat.le_of_ble_eq_true rfl)) dX4_lend_13 ⟨Nat.zero_le _, Nat.zero_le _⟩) hP hD hS hA [0, 1, 2, 3, 4, 5, 6, 7, 8, 9, 10, 11, 12, 13, 14, 15, 16, 17, 18, 19, 20, 21, 22, 23, 24, 25, 26, 27, 28, 29, 30, 31, 32, 33, 34, 35, 36, 37, 38, 39, 40, 41, 42, 43, 44, 45, 46, 47, 48, 49, 50, 51, 52, 53, 54, 55, 56, 57, 58, 59, 60, 61, 62, 63, 64, 65, 66, 67, 68, 69, 70, 71, 72, 73, 74, 75, 76, 77, 78, 79, 80, 81, 82, 83, 84, 85, 86, 87, 88, 89, 90, 91, 92, 93, 94] rfl rfl (ws' := (wF cA cQ adF adB adT adH kH adR adO u3.2.1 u2.2 u3.2.2.1 u3.2.2.2 vR vO)) rfl (fun H locs hP hD hS => ?_)
  cases h
  exact endI hx hb hr hlocks hP hS rfl dX4_lend_16
theorem iw_X0_firstToTake_X0 : ∀ w ∈ wsX00, w ∈ wsX0_firstToTake := fun _ h => List.mem_cons_of_mem _ (List.mem_append_right _ (h))
set_option maxHeartbeats 4000000 in
set_option maxRecDepth 100000 in
theorem c_X0_firstToTake (l : Launch) (D : va_G) (cA cQ : ClassId) (adB : Nat → Nat) (vB : St) (p1 : Int32) (p2 : Int32) (p3 : Int32) (o : Int32) (hf : X0_firstToTake vB p1 p2 p3 = some o) : Cti l yX0_firstToTake wsX0_firstToTake ({ frames := 1, cells := 0, slots := 0, locals := 24 }) D (TY cA cQ) [.ref (adB 0), .int p1, .int p2, .int p3] (wB cA adB vB) (wB cA adB vB) o := by
  refine Wk.i (cc := cX0_firstToTake) (maxL := 6) (ret := (some .int)) (by decide) rfl (Nat.le_of_ble_eq_true rfl) ?_
  intro p e s m below meth c A ls hx hb hr hlocks hml hown hts hK hN hP hD hA hl
  have hown : s.vm.findClass RX0 = some m.cls := hown
  have hS : va_S A s.heap s.heap [] := va_S.rf
  have hl : lv_has ls 6 [(0, .ref (adB 0)), (1, .int p1), (2, .int p2), (3, .int p3)] := hl
  have B6 : ∀ (fu6 : Nat) (x4 : Int32) (x5 : Int32) (H : Heap) (locs : List Loc) (ls : Array Slot), X0_firstToTake_l6 vB p1 p2 p3 fu6 x4 x5 = some o → va_P D vwCl (wB cA adB vB) H → va_D A (wB cA adB vB) → va_S A s.heap H locs → lv_has ls 6 [(0, .ref (adB 0)), (1, .int p1), (2, .int p2), (3, .int p3), (4, .int x4), (5, .int x5)] → W p l e (headSpec wsX0_firstToTake ({ frames := 1, cells := 0, slots := 0, locals := 24 })).room s m ([.ref (adB 0), .int p1, .int p2, .int p3] : List Value).toArray below meth c H locs 0 0 (MQ below (QI D (wB cA adB vB) o A) ([.ref (adB 0), .int p1, .int p2, .int p3] : List Value).toArray s 0 0 A) (F0 m 6 ls []) := by
    intro fu6
    induction fu6 with
    | zero =>
      intro x4 x5 H locs ls h hP hD hS hl
      cases h
    | succ fu6 ih6 =>
      intro x4 x5 H locs ls h hP hD hS hl
      rw [X0_firstToTake_l6] at h
      refine lv_iload hx hb dX0_firstToTake_6 (lv_at hl 5 rfl) ?_
      refine lv_aload_n hx hb dX0_firstToTake_8 rfl (lv_at hl 0 rfl) ?_
      refine lv_iconst (v := (2 : Int32)) hx hb dX0_firstToTake_9 (by decide) ?_
      obtain ⟨u1, eu1, h⟩ := bd_in h
      refine kI (va_runV (As := [.int (2 : Int32)]) (rest := [.int x5]) ⟨hx, hb, hml, hown, hts⟩ (c_X0_number l D cA cQ adB vB (2 : Int32) u1 eu1 _) (cwV 1 hts gX0_firstToTake_X0_number rfl rfl rfl (by decide +kernel) ⟨Nat.le_of_ble_eq_true rfl, Nat.le_of_ble_eq_true rfl⟩) (pV (ci := 0) (q := (RX0, TX0, 13)) hK hN hP hD [0, 1, 2, 3, 4, 5, 6, 7, 8, 9, 10, 11, 12, 13] rfl rfl rfl rfl) rfl rfl hl.1 rfl (lv_room (Nat.le_of_ble_eq_true rfl)) dX0_firstToTake_10 ⟨Nat.zero_le _, Nat.zero_le _⟩) hP hD hS hA [0, 1, 2, 3, 4, 5, 6, 7, 8, 9, 10, 11, 12, 13] rfl rfl (ws' := (wB cA adB vB)) rfl (fun H locs hP hD hS => ?_)
      refine lv_icmp_ge (tgt := 76) hx hb dX0_firstToTake_13 (by decide) (fun c2 => ?_) (fun c2 => ?_)
      · have h := (if_pos c2).symm.trans h
        refine lv_iload hx hb dX0_firstToTake_76 (lv_at hl 4 rfl) ?_
        cases h
        exact endI hx hb hr hlocks hP hS rfl dX0_firstToTake_78
      · have h := (if_neg c2).symm.trans h
        refine lv_aload_n hx hb dX0_firstToTake_16 rfl (lv_at hl 0 rfl) ?_
        refine lv_iload hx hb dX0_firstToTake_17 (lv_at hl 5 rfl) ?_
        refine lv_iload_n hx hb dX0_firstToTake_19 rfl (lv_at hl 1 rfl) ?_
        refine lv_iload_n hx hb dX0_firstToTake_20 rfl (lv_at hl 2 rfl) ?_
        refine lv_iload_n hx hb dX0_firstToTake_21 rfl (lv_at hl 3 rfl) ?_
        obtain ⟨u3, eu3, h⟩ := bd_in h
        refine kI (va_runV (As := [.int x5, .int p1, .int p2, .int p3]) (rest := []) ⟨hx, hb, hml, hown, hts⟩ (c_X0_isLotOf l D cA cQ adB vB x5 p1 p2 p3 u3 eu3 _) (cwV 4 hts gX0_firstToTake_X0_isLotOf rfl rfl rfl (by decide +kernel) ⟨Nat.le_of_ble_eq_true rfl, Nat.le_of_ble_eq_true rfl⟩) (pV (ci := 0) (q := (RX0, TX0, 13)) hK hN hP hD [0, 1, 2, 3, 4, 5, 6, 7, 8, 9, 10, 11, 12, 13] rfl rfl rfl rfl) rfl rfl hl.1 rfl (lv_room (Nat.le_of_ble_eq_true rfl)) dX0_firstToTake_22 ⟨Nat.zero_le _, Nat.zero_le _⟩) hP hD hS hA [0, 1, 2, 3, 4, 5, 6, 7, 8, 9, 10, 11, 12, 13] rfl rfl (ws' := (wB cA adB vB)) rfl (fun H locs hP hD hS => ?_)
        refine lv_if_eq (tgt := 70) hx hb dX0_firstToTake_25 (by decide) (fun c4 => ?_) (fun c4 => ?_)
        · have h := (if_pos c4).symm.trans h
          refine lv_iinc (v := (x5 + (1 : Int32))) (lv' := [(5, .int (x5 + (1 : Int32))), (0, .ref (adB 0)), (1, .int p1), (2, .int p2), (3, .int p3), (4, .int x4)]) hx hb dX0_firstToTake_70 hl (k := 5) rfl rfl (by decide) rfl (fun ls hl => ?_)
          refine lv_goto (tgt := 6) hx hb dX0_firstToTake_73 (by decide) ?_
          exact ih6 x4 (x5 + (1 : Int32)) _ _ _ h hP hD hS (lv_sub hl [1, 2, 3, 4, 5, 0] rfl)
        · have h := (if_neg c4).symm.trans h
          refine lv_aload_n hx hb dX0_firstToTake_28 rfl (lv_at hl 0 rfl) ?_
          refine va_get (D := D) (ci := 0) (v := .ref (adB 11)) (C := RX0) (T := TX0) (N := 13) hx hb hts iw_X0_firstToTake_X0 hown hK hP 0 rfl rfl 10 (by decide) (hts (.fieldLink RX0 42 "FavourRings$Bank" "sizes" "[I") (List.mem_of_getElem? (i := 1) rfl)) (fun _ h9 => h9) rfl dX0_firstToTake_29 ?_
          refine lv_iload hx hb dX0_firstToTake_32 (lv_at hl 5 rfl) ?_
          obtain ⟨u5, eu5, h⟩ := bd_in h
          refine kI (va_runSN (As := [.ref (adB 11), .int x5]) (rest := []) ⟨hx, hb, hml, hown, hts⟩ (c_X4_at l D cA cQ (adB 11) 40 (vB 11) x5 u5 eu5 _) ⟨va_cnB 2 hts gX0_firstToTake_X4_at_n77 rfl rfl rfl hN.2.2.2.1 (hts (.initialized RX4) (List.mem_of_getElem? (i := 17) rfl)) (by decide +kernel) ⟨Nat.le_of_ble_eq_true rfl, Nat.le_of_ble_eq_true rfl⟩, (hts (.static yX4_at) (List.mem_of_getElem? (i := 16) rfl)), trivial⟩ (pS hK hN hP hD [11] rfl rfl) rfl rfl hl.1 rfl (lv_room (Nat.le_of_ble_eq_true rfl)) dX0_firstToTake_34 ⟨Nat.zero_le _, Nat.zero_le _⟩) hP hD hS hA [11] rfl rfl (ws' := (wB cA adB vB)) rfl (fun H locs hP hD hS => ?_)
          refine lv_if_le (tgt := 70) hx hb dX0_firstToTake_37 (by decide) (fun c6 => ?_) (fun c6 => ?_)
          · have h := (if_pos c6).symm.trans h
            refine lv_iinc (v := (x5 + (1 : Int32))) (lv' := [(5, .int (x5 + (1 : Int32))), (0, .ref (adB 0)), (1, .int p1), (2, .int p2), (3, .int p3), (4, .int x4)]) hx hb dX0_firstToTake_70 hl (k := 5) rfl rfl (by decide) rfl (fun ls hl => ?_)
            refine lv_goto (tgt := 6) hx hb dX0_firstToTake_73 (by decide) ?_
            exact ih6 x4 (x5 + (1 : Int32)) _ _ _ h hP hD hS (lv_sub hl [1, 2, 3, 4, 5, 0] rfl)
          · have h := (if_neg c6).symm.trans h
            refine lv_iload hx hb dX0_firstToTake_40 (lv_at hl 4 rfl) ?_
            refine lv_if_lt (tgt := 66) hx hb dX0_firstToTake_42 (by decide) (fun c7 => ?_) (fun c7 => ?_)
            · have h := (if_pos c7).symm.trans h
              refine lv_iload hx hb dX0_firstToTake_66 (lv_at hl 5 rfl) ?_
              refine lv_istore (lv' := [(4, .int x5), (0, .ref (adB 0)), (1, .int p1), (2, .int p2), (3, .int p3), (5, .int x5)]) hx hb dX0_firstToTake_68 hl (by decide) rfl (fun ls hl => ?_)
              refine lv_iinc (v := (x5 + (1 : Int32))) (lv' := [(5, .int (x5 + (1 : Int32))), (4, .int x5), (0, .ref (adB 0)), (1, .int p1), (2, .int p2), (3, .int p3)]) hx hb dX0_firstToTake_70 hl (k := 5) rfl rfl (by decide) rfl (fun ls hl => ?_)
              refine lv_goto (tgt := 6) hx hb dX0_firstToTake_73 (by decide) ?_
              exact ih6 x5 (x5 + (1 : Int32)) _ _ _ h hP hD hS (lv_sub hl [2, 3, 4, 5, 1, 0] rfl)
            · have h := (if_neg c7).symm.trans h
              refine lv_aload_n hx hb dX0_firstToTake_45 rfl (lv_at hl 0 rfl) ?_
              refine va_get (D := D) (ci := 0) (v := .ref (adB 12)) (C := RX0) (T := TX0) (N := 13) hx hb hts iw_X0_firstToTake_X0 hown hK hP 0 rfl rfl 11 (by decide) (hts (.fieldLink RX0 45 "FavourRings$Bank" "ages" "[I") (List.mem_of_getElem? (i := 2) rfl)) (fun _ h9 => h9) rfl dX0_firstToTake_46 ?_
              refine lv_iload hx hb dX0_firstToTake_49 (lv_at hl 5 rfl) ?_
              obtain ⟨u8, eu8, h⟩ := bd_in h
              refine kI (va_runSN (As := [.ref (adB 12), .int x5]) (rest := []) ⟨hx, hb, hml, hown, hts⟩ (c_X4_at l D cA cQ (adB 12) 40 (vB 12) x5 u8 eu8 _) ⟨va_cnB 2 hts gX0_firstToTake_X4_at_n77 rfl rfl rfl hN.2.2.2.1 (hts (.initialized RX4) (List.mem_of_getElem? (i := 17) rfl)) (by decide +kernel) ⟨Nat.le_of_ble_eq_true rfl, Nat.le_of_ble_eq_true rfl⟩, (hts (.static yX4_at) (List.mem_of_getElem? (i := 16) rfl)), trivial⟩ (pS hK hN hP hD [12] rfl rfl) rfl rfl hl.1 rfl (lv_room (Nat.le_of_ble_eq_true rfl)) dX0_firstToTake_51 ⟨Nat.zero_le _, Nat.zero_le _⟩) hP hD hS hA [12] rfl rfl (ws' := (wB cA adB vB)) rfl (fun H locs hP hD hS => ?_)
              refine lv_aload_n hx hb dX0_firstToTake_54 rfl (lv_at hl 0 rfl) ?_
              refine va_get (D := D) (ci := 0) (v := .ref (adB 12)) (C := RX0) (T := TX0) (N := 13) hx hb hts iw_X0_firstToTake_X0 hown hK hP 0 rfl rfl 11 (by decide) (hts (.fieldLink RX0 45 "FavourRings$Bank" "ages" "[I") (List.mem_of_getElem? (i := 2) rfl)) (fun _ h9 => h9) rfl dX0_firstToTake_55 ?_
              refine lv_iload hx hb dX0_firstToTake_58 (lv_at hl 4 rfl) ?_
              obtain ⟨u9, eu9, h⟩ := bd_in h
              refine kI (va_runSN (As := [.ref (adB 12), .int x4]) (rest := [.int u8]) ⟨hx, hb, hml, hown, hts⟩ (c_X4_at l D cA cQ (adB 12) 40 (vB 12) x4 u9 eu9 _) ⟨va_cnB 2 hts gX0_firstToTake_X4_at_n77 rfl rfl rfl hN.2.2.2.1 (hts (.initialized RX4) (List.mem_of_getElem? (i := 17) rfl)) (by decide +kernel) ⟨Nat.le_of_ble_eq_true rfl, Nat.le_of_ble_eq_true rfl⟩, (hts (.static yX4_at) (List.mem_of_getElem? (i := 16) rfl)), trivial⟩ (pS hK hN hP hD [12] rfl rfl) rfl rfl hl.1 rfl (lv_room (Nat.le_of_ble_eq_true rfl)) dX0_firstToTake_60 ⟨Nat.zero_le _, Nat.zero_le _⟩) hP hD hS hA [12] rfl rfl (ws' := (wB cA adB vB)) rfl (fun H locs hP hD hS => ?_)
              refine lv_icmp_le (tgt := 70) hx hb dX0_firstToTake_63 (by decide) (fun c10 => ?_) (fun c10 => ?_)
              · have h := (if_pos c10).symm.trans h
                refine lv_iinc (v := (x5 + (1 : Int32))) (lv' := [(5, .int (x5 + (1 : Int32))), (0, .ref (adB 0)), (1, .int p1), (2, .int p2), (3, .int p3), (4, .int x4)]) hx hb dX0_firstToTake_70 hl (k := 5) rfl rfl (by decide) rfl (fun ls hl => ?_)
                refine lv_goto (tgt := 6) hx hb dX0_firstToTake_73 (by decide) ?_
                exact ih6 x4 (x5 + (1 : Int32)) _ _ _ h hP hD hS (lv_sub hl [1, 2, 3, 4, 5, 0] rfl)
              · have h := (if_neg c10).symm.trans h
                refine lv_iload hx hb dX0_firstToTake_66 (lv_at hl 5 rfl) ?_
                refine lv_istore (lv' := [(4, .int x5), (0, .ref (adB 0)), (1, .int p1), (2, .int p2), (3, .int p3), (5, .int x5)]) hx hb dX0_firstToTake_68 hl (by decide) rfl (fun ls hl => ?_)
                refine lv_iinc (v := (x5 + (1 : Int32))) (lv' := [(5, .int (x5 + (1 : Int32))), (4, .int x5), (0, .ref (adB 0)), (1, .int p1), (2, .int p2), (3, .int p3)]) hx hb dX0_firstToTake_70 hl (k := 5) rfl rfl (by decide) rfl (fun ls hl => ?_)
                refine lv_goto (tgt := 6) hx hb dX0_firstToTake_73 (by decide) ?_
                exact ih6 x5 (x5 + (1 : Int32)) _ _ _ h hP hD hS (lv_sub hl [2, 3, 4, 5, 1, 0] rfl)
  have h := hf
  unfold X0_firstToTake at h
  refine lv_iconst (v := (-1 : Int32)) hx hb dX0_firstToTake_0 (by decide) ?_
  refine lv_istore (lv' := [(4, .int (-1 : Int32)), (0, .ref (adB 0)), (1, .int p1), (2, .int p2), (3, .int p3)]) hx hb dX0_firstToTake_1 hl (by decide) rfl (fun ls hl => ?_)
  refine lv_iconst (v := (0 : Int32)) hx hb dX0_firstToTake_3 (by decide) ?_
  refine lv_istore (lv' := [(5, .int (0 : Int32)), (4, .int (-1 : Int32)), (0, .ref (adB 0)), (1, .int p1), (2, .int p2), (3, .int p3)]) hx hb dX0_firstToTake_4 hl (by decide) rfl (fun ls hl => ?_)
  exact B6 FU (-1 : Int32) (0 : Int32) _ _ _ h hP hD hS (lv_sub hl [2, 3, 4, 5, 1, 0] rfl)
theorem iw_X0_dropEmptyLots_X0 : ∀ w ∈ wsX00, w ∈ wsX0_dropEmptyLots := fun _ h => List.mem_cons_of_mem _ (List.mem_append_right _ (h))
set_option maxHeartbeats 4000000 in
set_option maxRecDepth 100000 in
theorem c_X0_dropEmptyLots (l : Launch) (D : va_G) (cA cQ : ClassId) (adB : Nat → Nat) (vB : St) (o : St) (hf : X0_dropEmptyLots vB = some o) : Ctv l yX0_dropEmptyLots wsX0_dropEmptyLots ({ frames := 1, cells := 0, slots := 0, locals := 22 }) D (TY cA cQ) [.ref (adB 0)] (wB cA adB vB) (wB cA adB o) := by
  refine Wk.v (cc := cX0_dropEmptyLots) (maxL := 3) (ret := none) (by decide) rfl (Nat.le_of_ble_eq_true rfl) ?_
  intro p e s m below meth c A ls hx hb hr hlocks hml hown hts hK hN hP hD hA hl
  have hown : s.vm.findClass RX0 = some m.cls := hown
  have hS : va_S A s.heap s.heap [] := va_S.rf
  have hl : lv_has ls 3 [(0, .ref (adB 0))] := hl
  have B129 : ∀ (vB : St) (x1 : Int32) (H : Heap) (locs : List Loc) (ls : Array Slot), X0_dropEmptyLots_b129 vB x1 = some o → va_P D vwCl (wB cA adB vB) H → va_D A (wB cA adB vB) → va_S A s.heap H locs → lv_has ls 3 [(0, .ref (adB 0)), (1, .int x1)] → W p l e (headSpec wsX0_dropEmptyLots ({ frames := 1, cells := 0, slots := 0, locals := 22 })).room s m ([.ref (adB 0)] : List Value).toArray below meth c H locs 0 0 (MQ below (QV D (wB cA adB o) A) ([.ref (adB 0)] : List Value).toArray s 0 0 A) (F0 m 129 ls []) := by
    intro vB x1 H locs ls h hP hD hS hl
    unfold X0_dropEmptyLots_b129 at h
    refine lv_aload_n hx hb dX0_dropEmptyLots_129 rfl (lv_at hl 0 rfl) ?_
    refine va_get (D := D) (ci := 0) (v := .ref (adB 1)) (C := RX0) (T := TX0) (N := 13) hx hb hts iw_X0_dropEmptyLots_X0 hown hK hP 0 rfl rfl 0 (by decide) (hts (.fieldLink RX0 9 "FavourRings$Bank" "numbers" "[I") (List.mem_of_getElem? (i := 7) rfl)) (fun _ h9 => h9) rfl dX0_dropEmptyLots_130 ?_
    refine lv_iconst (v := (2 : Int32)) hx hb dX0_dropEmptyLots_133 (by decide) ?_
    refine lv_iload_n hx hb dX0_dropEmptyLots_134 rfl (lv_at hl 1 rfl) ?_
    obtain ⟨u1, eu1, h⟩ := bd_in h
    refine kV (va_runSN (As := [.ref (adB 1), .int (2 : Int32), .int x1]) (rest := []) ⟨hx, hb, hml, hown, hts⟩ (c_X4_put l D cA cQ (adB 1) 26 (vB 1) (2 : Int32) x1 u1 eu1 _) ⟨va_cnB 3 hts gX0_dropEmptyLots_X4_put_n55 rfl rfl rfl hN.2.1 (hts (.initialized RX4) (List.mem_of_getElem? (i := 14) rfl)) (by decide +kernel) ⟨Nat.le_of_ble_eq_true rfl, Nat.le_of_ble_eq_true rfl⟩, (hts (.static yX4_put) (List.mem_of_getElem? (i := 16) rfl)), trivial⟩ (pS hK hN hP hD [1] rfl rfl) rfl rfl hl.1 rfl (lv_room (Nat.le_of_ble_eq_true rfl)) dX0_dropEmptyLots_135 ⟨Nat.zero_le _, Nat.zero_le _⟩) hP hD hS hA [1] rfl rfl (ws' := (wB cA adB (setA vB 1 u1))) rfl (fun H locs hP hD hS => ?_)
    cases h
    exact endV hx hb hr hlocks hP hS dX0_dropEmptyLots_138
  have B4 : ∀ (fu4 : Nat) (vB : St) (x1 : Int32) (x2 : Int32) (H : Heap) (locs : List Loc) (ls : Array Slot), X0_dropEmptyLots_l4 fu4 vB x1 x2 = some o → va_P D vwCl (wB cA adB vB) H → va_D A (wB cA adB vB) → va_S A s.heap H locs → lv_has ls 3 [(0, .ref (adB 0)), (1, .int x1), (2, .int x2)] → W p l e (headSpec wsX0_dropEmptyLots ({ frames := 1, cells := 0, slots := 0, locals := 22 })).room s m ([.ref (adB 0)] : List Value).toArray below meth c H locs 0 0 (MQ below (QV D (wB cA adB o) A) ([.ref (adB 0)] : List Value).toArray s 0 0 A) (F0 m 4 ls []) := by
    intro fu4
    induction fu4 with
    | zero =>
      intro vB x1 x2 H locs ls h hP hD hS hl
      cases h
    | succ fu4 ih4 =>
      intro vB x1 x2 H locs ls h hP hD hS hl
      rw [X0_dropEmptyLots_l4] at h
      refine lv_iload_n hx hb dX0_dropEmptyLots_4 rfl (lv_at hl 2 rfl) ?_
      refine lv_aload_n hx hb dX0_dropEmptyLots_5 rfl (lv_at hl 0 rfl) ?_
      refine lv_iconst (v := (2 : Int32)) hx hb dX0_dropEmptyLots_6 (by decide) ?_
      obtain ⟨u2, eu2, h⟩ := bd_in h
      refine kI (va_runV (As := [.int (2 : Int32)]) (rest := [.int x2]) ⟨hx, hb, hml, hown, hts⟩ (c_X0_number l D cA cQ adB vB (2 : Int32) u2 eu2 _) (cwV 1 hts gX0_dropEmptyLots_X0_number rfl rfl rfl (by decide +kernel) ⟨Nat.le_of_ble_eq_true rfl, Nat.le_of_ble_eq_true rfl⟩) (pV (ci := 0) (q := (RX0, TX0, 13)) hK hN hP hD [0, 1, 2, 3, 4, 5, 6, 7, 8, 9, 10, 11, 12, 13] rfl rfl rfl rfl) rfl rfl hl.1 rfl (lv_room (Nat.le_of_ble_eq_true rfl)) dX0_dropEmptyLots_7 ⟨Nat.zero_le _, Nat.zero_le _⟩) hP hD hS hA [0, 1, 2, 3, 4, 5, 6, 7, 8, 9, 10, 11, 12, 13] rfl rfl (ws' := (wB cA adB vB)) rfl (fun H locs hP hD hS => ?_)
      refine lv_icmp_ge (tgt := 129) hx hb dX0_dropEmptyLots_10 (by decide) (fun c3 => ?_) (fun c3 => ?_)
      · have h := (if_pos c3).symm.trans h
        exact B129 vB x1 _ _ _ h hP hD hS (lv_sub hl [0, 1] rfl)
      · have h := (if_neg c3).symm.trans h
        refine lv_aload_n hx hb dX0_dropEmptyLots_13 rfl (lv_at hl 0 rfl) ?_
        refine va_get (D := D) (ci := 0) (v := .ref (adB 11)) (C := RX0) (T := TX0) (N := 13) hx hb hts iw_X0_dropEmptyLots_X0 hown hK hP 0 rfl rfl 10 (by decide) (hts (.fieldLink RX0 42 "FavourRings$Bank" "sizes" "[I") (List.mem_of_getElem? (i := 1) rfl)) (fun _ h9 => h9) rfl dX0_dropEmptyLots_14 ?_
        refine lv_iload_n hx hb dX0_dropEmptyLots_17 rfl (lv_at hl 2 rfl) ?_
        obtain ⟨u4, eu4, h⟩ := bd_in h
        refine kI (va_runSN (As := [.ref (adB 11), .int x2]) (rest := []) ⟨hx, hb, hml, hown, hts⟩ (c_X4_at l D cA cQ (adB 11) 40 (vB 11) x2 u4 eu4 _) ⟨va_cnB 2 hts gX0_dropEmptyLots_X4_at_n77 rfl rfl rfl hN.2.2.2.1 (hts (.initialized RX4) (List.mem_of_getElem? (i := 14) rfl)) (by decide +kernel) ⟨Nat.le_of_ble_eq_true rfl, Nat.le_of_ble_eq_true rfl⟩, (hts (.static yX4_at) (List.mem_of_getElem? (i := 13) rfl)), trivial⟩ (pS hK hN hP hD [11] rfl rfl) rfl rfl hl.1 rfl (lv_room (Nat.le_of_ble_eq_true rfl)) dX0_dropEmptyLots_18 ⟨Nat.zero_le _, Nat.zero_le _⟩) hP hD hS hA [11] rfl rfl (ws' := (wB cA adB vB)) rfl (fun H locs hP hD hS => ?_)
        refine lv_if_le (tgt := 123) hx hb dX0_dropEmptyLots_21 (by decide) (fun c5 => ?_) (fun c5 => ?_)
        · have h := (if_pos c5).symm.trans h
          refine lv_iinc (v := (x2 + (1 : Int32))) (lv' := [(2, .int (x2 + (1 : Int32))), (0, .ref (adB 0)), (1, .int x1)]) hx hb dX0_dropEmptyLots_123 hl (k := 2) rfl rfl (by decide) rfl (fun ls hl => ?_)
          refine lv_goto (tgt := 4) hx hb dX0_dropEmptyLots_126 (by decide) ?_
          exact ih4 vB x1 (x2 + (1 : Int32)) _ _ _ h hP hD hS (lv_sub hl [1, 2, 0] rfl)
        · have h := (if_neg c5).symm.trans h
          refine lv_aload_n hx hb dX0_dropEmptyLots_24 rfl (lv_at hl 0 rfl) ?_
          refine va_get (D := D) (ci := 0) (v := .ref (adB 8)) (C := RX0) (T := TX0) (N := 13) hx hb hts iw_X0_dropEmptyLots_X0 hown hK hP 0 rfl rfl 7 (by decide) (hts (.fieldLink RX0 33 "FavourRings$Bank" "debtors" "[I") (List.mem_of_getElem? (i := 2) rfl)) (fun _ h9 => h9) rfl dX0_dropEmptyLots_25 ?_
          refine lv_iload_n hx hb dX0_dropEmptyLots_28 rfl (lv_at hl 1 rfl) ?_
          refine lv_aload_n hx hb dX0_dropEmptyLots_29 rfl (lv_at hl 0 rfl) ?_
          refine va_get (D := D) (ci := 0) (v := .ref (adB 8)) (C := RX0) (T := TX0) (N := 13) hx hb hts iw_X0_dropEmptyLots_X0 hown hK hP 0 rfl rfl 7 (by decide) (hts (.fieldLink RX0 33 "FavourRings$Bank" "debtors" "[I") (List.mem_of_getElem? (i := 2) rfl)) (fun _ h9 => h9) rfl dX0_dropEmptyLots_30 ?_
          refine lv_iload_n hx hb dX0_dropEmptyLots_33 rfl (lv_at hl 2 rfl) ?_
          obtain ⟨u6, eu6, h⟩ := bd_in h
          refine kI (va_runSN (As := [.ref (adB 8), .int x2]) (rest := [.int x1, .ref (adB 8)]) ⟨hx, hb, hml, hown, hts⟩ (c_X4_at l D cA cQ (adB 8) 40 (vB 8) x2 u6 eu6 _) ⟨va_cnB 2 hts gX0_dropEmptyLots_X4_at_n77 rfl rfl rfl hN.2.2.2.1 (hts (.initialized RX4) (List.mem_of_getElem? (i := 14) rfl)) (by decide +kernel) ⟨Nat.le_of_ble_eq_true rfl, Nat.le_of_ble_eq_true rfl⟩, (hts (.static yX4_at) (List.mem_of_getElem? (i := 13) rfl)), trivial⟩ (pS hK hN hP hD [8] rfl rfl) rfl rfl hl.1 rfl (lv_room (Nat.le_of_ble_eq_true rfl)) dX0_dropEmptyLots_34 ⟨Nat.zero_le _, Nat.zero_le _⟩) hP hD hS hA [8] rfl rfl (ws' := (wB cA adB vB)) rfl (fun H locs hP hD hS => ?_)
          obtain ⟨u7, eu7, h⟩ := bd_in h
          refine kV (va_runSN (As := [.ref (adB 8), .int x1, .int u6]) (rest := []) ⟨hx, hb, hml, hown, hts⟩ (c_X4_put l D cA cQ (adB 8) 40 (vB 8) x1 u6 u7 eu7 _) ⟨va_cnB 3 hts gX0_dropEmptyLots_X4_put_n55 rfl rfl rfl hN.2.1 (hts (.initialized RX4) (List.mem_of_getElem? (i := 14) rfl)) (by decide +kernel) ⟨Nat.le_of_ble_eq_true rfl, Nat.le_of_ble_eq_true rfl⟩, (hts (.static yX4_put) (List.mem_of_getElem? (i := 16) rfl)), trivial⟩ (pS hK hN hP hD [8] rfl rfl) rfl rfl hl.1 rfl (lv_room (Nat.le_of_ble_eq_true rfl)) dX0_dropEmptyLots_37 ⟨Nat.zero_le _, Nat.zero_le _⟩) hP hD hS hA [8] rfl rfl (ws' := (wB cA adB (setA vB 8 u7))) rfl (fun H locs hP hD hS => ?_)
          refine lv_aload_n hx hb dX0_dropEmptyLots_40 rfl (lv_at hl 0 rfl) ?_
          refine va_get (D := D) (ci := 0) (v := .ref (adB 9)) (C := RX0) (T := TX0) (N := 13) hx hb hts iw_X0_dropEmptyLots_X0 hown hK hP 0 rfl rfl 8 (by decide) (hts (.fieldLink RX0 36 "FavourRings$Bank" "creditors" "[I") (List.mem_of_getElem? (i := 3) rfl)) (fun _ h9 => h9) rfl dX0_dropEmptyLots_41 ?_
          refine lv_iload_n hx hb dX0_dropEmptyLots_44 rfl (lv_at hl 1 rfl) ?_
          refine lv_aload_n hx hb dX0_dropEmptyLots_45 rfl (lv_at hl 0 rfl) ?_
          refine va_get (D := D) (ci := 0) (v := .ref (adB 9)) (C := RX0) (T := TX0) (N := 13) hx hb hts iw_X0_dropEmptyLots_X0 hown hK hP 0 rfl rfl 8 (by decide) (hts (.fieldLink RX0 36 "FavourRings$Bank" "creditors" "[I") (List.mem_of_getElem? (i := 3) rfl)) (fun _ h9 => h9) rfl dX0_dropEmptyLots_46 ?_
          refine lv_iload_n hx hb dX0_dropEmptyLots_49 rfl (lv_at hl 2 rfl) ?_
          obtain ⟨u8, eu8, h⟩ := bd_in h
          refine kI (va_runSN (As := [.ref (adB 9), .int x2]) (rest := [.int x1, .ref (adB 9)]) ⟨hx, hb, hml, hown, hts⟩ (c_X4_at l D cA cQ (adB 9) 40 (vB 9) x2 u8 eu8 _) ⟨va_cnB 2 hts gX0_dropEmptyLots_X4_at_n77 rfl rfl rfl hN.2.2.2.1 (hts (.initialized RX4) (List.mem_of_getElem? (i := 14) rfl)) (by decide +kernel) ⟨Nat.le_of_ble_eq_true rfl, Nat.le_of_ble_eq_true rfl⟩, (hts (.static yX4_at) (List.mem_of_getElem? (i := 13) rfl)), trivial⟩ (pS hK hN hP hD [9] rfl rfl) rfl rfl hl.1 rfl (lv_room (Nat.le_of_ble_eq_true rfl)) dX0_dropEmptyLots_50 ⟨Nat.zero_le _, Nat.zero_le _⟩) hP hD hS hA [9] rfl rfl (ws' := (wB cA adB (setA vB 8 u7))) rfl (fun H locs hP hD hS => ?_)
          obtain ⟨u9, eu9, h⟩ := bd_in h
          refine kV (va_runSN (As := [.ref (adB 9), .int x1, .int u8]) (rest := []) ⟨hx, hb, hml, hown, hts⟩ (c_X4_put l D cA cQ (adB 9) 40 (vB 9) x1 u8 u9 eu9 _) ⟨va_cnB 3 hts gX0_dropEmptyLots_X4_put_n55 rfl rfl rfl hN.2.1 (hts (.initialized RX4) (List.mem_of_getElem? (i := 14) rfl)) (by decide +kernel) ⟨Nat.le_of_ble_eq_true rfl, Nat.le_of_ble_eq_true rfl⟩, (hts (.static yX4_put) (List.mem_of_getElem? (i := 16) rfl)), trivial⟩ (pS hK hN hP hD [9] rfl rfl) rfl rfl hl.1 rfl (lv_room (Nat.le_of_ble_eq_true rfl)) dX0_dropEmptyLots_53 ⟨Nat.zero_le _, Nat.zero_le _⟩) hP hD hS hA [9] rfl rfl (ws' := (wB cA adB (setA (setA vB 8 u7) 9 u9))) rfl (fun H locs hP hD hS => ?_)
          refine lv_aload_n hx hb dX0_dropEmptyLots_56 rfl (lv_at hl 0 rfl) ?_
          refine va_get (D := D) (ci := 0) (v := .ref (adB 10)) (C := RX0) (T := TX0) (N := 13) hx hb hts iw_X0_dropEmptyLots_X0 hown hK hP 0 rfl rfl 9 (by decide) (hts (.fieldLink RX0 39 "FavourRings$Bank" "kinds" "[I") (List.mem_of_getElem? (i := 4) rfl)) (fun _ h9 => h9) rfl dX0_dropEmptyLots_57 ?_
          refine lv_iload_n hx hb dX0_dropEmptyLots_60 rfl (lv_at hl 1 rfl) ?_
          refine lv_aload_n hx hb dX0_dropEmptyLots_61 rfl (lv_at hl 0 rfl) ?_
          refine va_get (D := D) (ci := 0) (v := .ref (adB 10)) (C := RX0) (T := TX0) (N := 13) hx hb hts iw_X0_dropEmptyLots_X0 hown hK hP 0 rfl rfl 9 (by decide) (hts (.fieldLink RX0 39 "FavourRings$Bank" "kinds" "[I") (List.mem_of_getElem? (i := 4) rfl)) (fun _ h9 => h9) rfl dX0_dropEmptyLots_62 ?_
          refine lv_iload_n hx hb dX0_dropEmptyLots_65 rfl (lv_at hl 2 rfl) ?_
          obtain ⟨u10, eu10, h⟩ := bd_in h
          refine kI (va_runSN (As := [.ref (adB 10), .int x2]) (rest := [.int x1, .ref (adB 10)]) ⟨hx, hb, hml, hown, hts⟩ (c_X4_at l D cA cQ (adB 10) 40 (vB 10) x2 u10 eu10 _) ⟨va_cnB 2 hts gX0_dropEmptyLots_X4_at_n77 rfl rfl rfl hN.2.2.2.1 (hts (.initialized RX4) (List.mem_of_getElem? (i := 14) rfl)) (by decide +kernel) ⟨Nat.le_of_ble_eq_true rfl, Nat.le_of_ble_eq_true rfl⟩, (hts (.static yX4_at) (List.mem_of_getElem? (i := 13) rfl)), trivial⟩ (pS hK hN hP hD [10] rfl rfl) rfl rfl hl.1 rfl (lv_room (Nat.le_of_ble_eq_true rfl)) dX0_dropEmptyLots_66 ⟨Nat.zero_le _, Nat.zero_le _⟩) hP hD hS hA [10] rfl rfl (ws' := (wB cA adB (setA (setA vB 8 u7) 9 u9))) rfl (fun H locs hP hD hS => ?_)
          obtain ⟨u11, eu11, h⟩ := bd_in h
          refine kV (va_runSN (As := [.ref (adB 10), .int x1, .int u10]) (rest := []) ⟨hx, hb, hml, hown, hts⟩ (c_X4_put l D cA cQ (adB 10) 40 (vB 10) x1 u10 u11 eu11 _) ⟨va_cnB 3 hts gX0_dropEmptyLots_X4_put_n55 rfl rfl rfl hN.2.1 (hts (.initialized RX4) (List.mem_of_getElem? (i := 14) rfl)) (by decide +kernel) ⟨Nat.le_of_ble_eq_true rfl, Nat.le_of_ble_eq_true rfl⟩, (hts (.static yX4_put) (List.mem_of_getElem? (i := 16) rfl)), trivial⟩ (pS hK hN hP hD [10] rfl rfl) rfl rfl hl.1 rfl (lv_room (Nat.le_of_ble_eq_true rfl)) dX0_dropEmptyLots_69 ⟨Nat.zero_le _, Nat.zero_le _⟩) hP hD hS hA [10] rfl rfl (ws' := (wB cA adB (setA (setA (setA vB 8 u7) 9 u9) 10 u11))) rfl (fun H locs hP hD hS => ?_)
          refine lv_aload_n hx hb dX0_dropEmptyLots_72 rfl (lv_at hl 0 rfl) ?_
          refine va_get (D := D) (ci := 0) (v := .ref (adB 11)) (C := RX0) (T := TX0) (N := 13) hx hb hts iw_X0_dropEmptyLots_X0 hown hK hP 0 rfl rfl 10 (by decide) (hts (.fieldLink RX0 42 "FavourRings$Bank" "sizes" "[I") (List.mem_of_getElem? (i := 1) rfl)) (fun _ h9 => h9) rfl dX0_dropEmptyLots_73 ?_
          refine lv_iload_n hx hb dX0_dropEmptyLots_76 rfl (lv_at hl 1 rfl) ?_
          refine lv_aload_n hx hb dX0_dropEmptyLots_77 rfl (lv_at hl 0 rfl) ?_
          refine va_get (D := D) (ci := 0) (v := .ref (adB 11)) (C := RX0) (T := TX0) (N := 13) hx hb hts iw_X0_dropEmptyLots_X0 hown hK hP 0 rfl rfl 10 (by decide) (hts (.fieldLink RX0 42 "FavourRings$Bank" "sizes" "[I") (List.mem_of_getElem? (i := 1) rfl)) (fun _ h9 => h9) rfl dX0_dropEmptyLots_78 ?_
          refine lv_iload_n hx hb dX0_dropEmptyLots_81 rfl (lv_at hl 2 rfl) ?_
          obtain ⟨u12, eu12, h⟩ := bd_in h
          refine kI (va_runSN (As := [.ref (adB 11), .int x2]) (rest := [.int x1, .ref (adB 11)]) ⟨hx, hb, hml, hown, hts⟩ (c_X4_at l D cA cQ (adB 11) 40 (vB 11) x2 u12 eu12 _) ⟨va_cnB 2 hts gX0_dropEmptyLots_X4_at_n77 rfl rfl rfl hN.2.2.2.1 (hts (.initialized RX4) (List.mem_of_getElem? (i := 14) rfl)) (by decide +kernel) ⟨Nat.le_of_ble_eq_true rfl, Nat.le_of_ble_eq_true rfl⟩, (hts (.static yX4_at) (List.mem_of_getElem? (i := 13) rfl)), trivial⟩ (pS hK hN hP hD [11] rfl rfl) rfl rfl hl.1 rfl (lv_room (Nat.le_of_ble_eq_true rfl)) dX0_dropEmptyLots_82 ⟨Nat.zero_le _, Nat.zero_le _⟩) hP hD hS hA [11] rfl rfl (ws' := (wB cA adB (setA (setA (setA vB 8 u7) 9 u9) 10 u11))) rfl (fun H locs hP hD hS => ?_)
          obtain ⟨u13, eu13, h⟩ := bd_in h
          refine kV (va_runSN (As := [.ref (adB 11), .int x1, .int u12]) (rest := []) ⟨hx, hb, hml, hown, hts⟩ (c_X4_put l D cA cQ (adB 11) 40 (vB 11) x1 u12 u13 eu13 _) ⟨va_cnB 3 hts gX0_dropEmptyLots_X4_put_n55 rfl rfl rfl hN.2.1 (hts (.initialized RX4) (List.mem_of_getElem? (i := 14) rfl)) (by decide +kernel) ⟨Nat.le_of_ble_eq_true rfl, Nat.le_of_ble_eq_true rfl⟩, (hts (.static yX4_put) (List.mem_of_getElem? (i := 16) rfl)), trivial⟩ (pS hK hN hP hD [11] rfl rfl) rfl rfl hl.1 rfl (lv_room (Nat.le_of_ble_eq_true rfl)) dX0_dropEmptyLots_85 ⟨Nat.zero_le _, Nat.zero_le _⟩) hP hD hS hA [11] rfl rfl (ws' := (wB cA adB (setA (setA (setA (setA vB 8 u7) 9 u9) 10 u11) 11 u13))) rfl (fun H locs hP hD hS => ?_)
          refine lv_aload_n hx hb dX0_dropEmptyLots_88 rfl (lv_at hl 0 rfl) ?_
          refine va_get (D := D) (ci := 0) (v := .ref (adB 12)) (C := RX0) (T := TX0) (N := 13) hx hb hts iw_X0_dropEmptyLots_X0 hown hK hP 0 rfl rfl 11 (by decide) (hts (.fieldLink RX0 45 "FavourRings$Bank" "ages" "[I") (List.mem_of_getElem? (i := 5) rfl)) (fun _ h9 => h9) rfl dX0_dropEmptyLots_89 ?_
          refine lv_iload_n hx hb dX0_dropEmptyLots_92 rfl (lv_at hl 1 rfl) ?_
          refine lv_aload_n hx hb dX0_dropEmptyLots_93 rfl (lv_at hl 0 rfl) ?_
          refine va_get (D := D) (ci := 0) (v := .ref (adB 12)) (C := RX0) (T := TX0) (N := 13) hx hb hts iw_X0_dropEmptyLots_X0 hown hK hP 0 rfl rfl 11 (by decide) (hts (.fieldLink RX0 45 "FavourRings$Bank" "ages" "[I") (List.mem_of_getElem? (i := 5) rfl)) (fun _ h9 => h9) rfl dX0_dropEmptyLots_94 ?_
          refine lv_iload_n hx hb dX0_dropEmptyLots_97 rfl (lv_at hl 2 rfl) ?_
          obtain ⟨u14, eu14, h⟩ := bd_in h
          refine kI (va_runSN (As := [.ref (adB 12), .int x2]) (rest := [.int x1, .ref (adB 12)]) ⟨hx, hb, hml, hown, hts⟩ (c_X4_at l D cA cQ (adB 12) 40 (vB 12) x2 u14 eu14 _) ⟨va_cnB 2 hts gX0_dropEmptyLots_X4_at_n77 rfl rfl rfl hN.2.2.2.1 (hts (.initialized RX4) (List.mem_of_getElem? (i := 14) rfl)) (by decide +kernel) ⟨Nat.le_of_ble_eq_true rfl, Nat.le_of_ble_eq_true rfl⟩, (hts (.static yX4_at) (List.mem_of_getElem? (i := 13) rfl)), trivial⟩ (pS hK hN hP hD [12] rfl rfl) rfl rfl hl.1 rfl (lv_room (Nat.le_of_ble_eq_true rfl)) dX0_dropEmptyLots_98 ⟨Nat.zero_le _, Nat.zero_le _⟩) hP hD hS hA [12] rfl rfl (ws' := (wB cA adB (setA (setA (setA (setA vB 8 u7) 9 u9) 10 u11) 11 u13))) rfl (fun H locs hP hD hS => ?_)
          obtain ⟨u15, eu15, h⟩ := bd_in h
          refine kV (va_runSN (As := [.ref (adB 12), .int x1, .int u14]) (rest := []) ⟨hx, hb, hml, hown, hts⟩ (c_X4_put l D cA cQ (adB 12) 40 (vB 12) x1 u14 u15 eu15 _) ⟨va_cnB 3 hts gX0_dropEmptyLots_X4_put_n55 rfl rfl rfl hN.2.1 (hts (.initialized RX4) (List.mem_of_getElem? (i := 14) rfl)) (by decide +kernel) ⟨Nat.le_of_ble_eq_true rfl, Nat.le_of_ble_eq_true rfl⟩, (hts (.static yX4_put) (List.mem_of_getElem? (i := 16) rfl)), trivial⟩ (pS hK hN hP hD [12] rfl rfl) rfl rfl hl.1 rfl (lv_room (Nat.le_of_ble_eq_true rfl)) dX0_dropEmptyLots_101 ⟨Nat.zero_le _, Nat.zero_le _⟩) hP hD hS hA [12] rfl rfl (ws' := (wB cA adB (setA (setA (setA (setA (setA vB 8 u7) 9 u9) 10 u11) 11 u13) 12 u15))) rfl (fun H locs hP hD hS => ?_)
          refine lv_aload_n hx hb dX0_dropEmptyLots_104 rfl (lv_at hl 0 rfl) ?_
          refine va_get (D := D) (ci := 0) (v := .ref (adB 13)) (C := RX0) (T := TX0) (N := 13) hx hb hts iw_X0_dropEmptyLots_X0 hown hK hP 0 rfl rfl 12 (by decide) (hts (.fieldLink RX0 48 "FavourRings$Bank" "passed" "[I") (List.mem_of_getElem? (i := 6) rfl)) (fun _ h9 => h9) rfl dX0_dropEmptyLots_105 ?_
          refine lv_iload_n hx hb dX0_dropEmptyLots_108 rfl (lv_at hl 1 rfl) ?_
          refine lv_aload_n hx hb dX0_dropEmptyLots_109 rfl (lv_at hl 0 rfl) ?_
          refine va_get (D := D) (ci := 0) (v := .ref (adB 13)) (C := RX0) (T := TX0) (N := 13) hx hb hts iw_X0_dropEmptyLots_X0 hown hK hP 0 rfl rfl 12 (by decide) (hts (.fieldLink RX0 48 "FavourRings$Bank" "passed" "[I") (List.mem_of_getElem? (i := 6) rfl)) (fun _ h9 => h9) rfl dX0_dropEmptyLots_110 ?_
          refine lv_iload_n hx hb dX0_dropEmptyLots_113 rfl (lv_at hl 2 rfl) ?_
          obtain ⟨u16, eu16, h⟩ := bd_in h
          refine kI (va_runSN (As := [.ref (adB 13), .int x2]) (rest := [.int x1, .ref (adB 13)]) ⟨hx, hb, hml, hown, hts⟩ (c_X4_at l D cA cQ (adB 13) 40 (vB 13) x2 u16 eu16 _) ⟨va_cnB 2 hts gX0_dropEmptyLots_X4_at_n77 rfl rfl rfl hN.2.2.2.1 (hts (.initialized RX4) (List.mem_of_getElem? (i := 14) rfl)) (by decide +kernel) ⟨Nat.le_of_ble_eq_true rfl, Nat.le_of_ble_eq_true rfl⟩, (hts (.static yX4_at) (List.mem_of_getElem? (i := 13) rfl)), trivial⟩ (pS hK hN hP hD [13] rfl rfl) rfl rfl hl.1 rfl (lv_room (Nat.le_of_ble_eq_true rfl)) dX0_dropEmptyLots_114 ⟨Nat.zero_le _, Nat.zero_le _⟩) hP hD hS hA [13] rfl rfl (ws' := (wB cA adB (setA (setA (setA (setA (setA vB 8 u7) 9 u9) 10 u11) 11 u13) 12 u15))) rfl (fun H locs hP hD hS => ?_)
          obtain ⟨u17, eu17, h⟩ := bd_in h
          refine kV (va_runSN (As := [.ref (adB 13), .int x1, .int u16]) (rest := []) ⟨hx, hb, hml, hown, hts⟩ (c_X4_put l D cA cQ (adB 13) 40 (vB 13) x1 u16 u17 eu17 _) ⟨va_cnB 3 hts gX0_dropEmptyLots_X4_put_n55 rfl rfl rfl hN.2.1 (hts (.initialized RX4) (List.mem_of_getElem? (i := 14) rfl)) (by decide +kernel) ⟨Nat.le_of_ble_eq_true rfl, Nat.le_of_ble_eq_true rfl⟩, (hts (.static yX4_put) (List.mem_of_getElem? (i := 16) rfl)), trivial⟩ (pS hK hN hP hD [13] rfl rfl) rfl rfl hl.1 rfl (lv_room (Nat.le_of_ble_eq_true rfl)) dX0_dropEmptyLots_117 ⟨Nat.zero_le _, Nat.zero_le _⟩) hP hD hS hA [13] rfl rfl (ws' := (wB cA adB (setA (setA (setA (setA (setA (setA vB 8 u7) 9 u9) 10 u11) 11 u13) 12 u15) 13 u17))) rfl (fun H locs hP hD hS => ?_)
          refine lv_iinc (v := (x1 + (1 : Int32))) (lv' := [(1, .int (x1 + (1 : Int32))), (0, .ref (adB 0)), (2, .int x2)]) hx hb dX0_dropEmptyLots_120 hl (k := 1) rfl rfl (by decide) rfl (fun ls hl => ?_)
          refine lv_iinc (v := (x2 + (1 : Int32))) (lv' := [(2, .int (x2 + (1 : Int32))), (1, .int (x1 + (1 : Int32))), (0, .ref (adB 0))]) hx hb dX0_dropEmptyLots_123 hl (k := 2) rfl rfl (by decide) rfl (fun ls hl => ?_)
          refine lv_goto (tgt := 4) hx hb dX0_dropEmptyLots_126 (by decide) ?_
          exact ih4 (setA (setA (setA (setA (setA (setA vB 8 u7) 9 u9) 10 u11) 11 u13) 12 u15) 13 u17) (x1 + (1 : Int32)) (x2 + (1 : Int32)) _ _ _ h hP hD hS (lv_sub hl [2, 1, 0] rfl)
  have h := hf
  unfold X0_dropEmptyLots at h
  refine lv_iconst (v := (0 : Int32)) hx hb dX0_dropEmptyLots_0 (by decide) ?_
  refine lv_istore_n (lv' := [(1, .int (0 : Int32)), (0, .ref (adB 0))]) hx hb dX0_dropEmptyLots_1 rfl hl (by decide) rfl (fun ls hl => ?_)
  refine lv_iconst (v := (0 : Int32)) hx hb dX0_dropEmptyLots_2 (by decide) ?_
  refine lv_istore_n (lv' := [(2, .int (0 : Int32)), (1, .int (0 : Int32)), (0, .ref (adB 0))]) hx hb dX0_dropEmptyLots_3 rfl hl (by decide) rfl (fun ls hl => ?_)
  exact B4 FU vB (0 : Int32) (0 : Int32) _ _ _ h hP hD hS (lv_sub hl [2, 1, 0] rfl)
theorem iw_X0_takeFavours_X0 : ∀ w ∈ wsX00, w ∈ wsX0_takeFavours := fun _ h => List.mem_cons_of_mem _ (List.mem_append_right _ (h))
set_option maxHeartbeats 4000000 in
set_option maxRecDepth 100000 in
theorem c_X0_takeFavours (l : Launch) (D : va_G) (cA cQ : ClassId) (adB : Nat → Nat) (vB : St) (p1 : Int32) (p2 : Int32) (p3 : Int32) (p4 : Int32) (o : St) (hf : X0_takeFavours vB p1 p2 p3 p4 = some o) : Ctv l yX0_takeFavours wsX0_takeFavours ({ frames := 2, cells := 0, slots := 0, locals := 49 }) D (TY cA cQ) [.ref (adB 0), .int p1, .int p2, .int p3, .int p4] (wB cA adB vB) (wB cA adB o) := by
  refine Wk.v (cc := cX0_takeFavours) (maxL := 9) (ret := none) (by decide) rfl (Nat.le_of_ble_eq_true rfl) ?_
  intro p e s m below meth c A ls hx hb hr hlocks hml hown hts hK hN hP hD hA hl
  have hown : s.vm.findClass RX0 = some m.cls := hown
  have hS : va_S A s.heap s.heap [] := va_S.rf
  have hl : lv_has ls 9 [(0, .ref (adB 0)), (1, .int p1), (2, .int p2), (3, .int p3), (4, .int p4)] := hl
  have B69 : ∀ (vB : St) (H : Heap) (locs : List Loc) (ls : Array Slot), X0_takeFavours_b69 p1 p2 p3 p4 vB = some o → va_P D vwCl (wB cA adB vB) H → va_D A (wB cA adB vB) → va_S A s.heap H locs → lv_has ls 9 [(0, .ref (adB 0))] → W p l e (headSpec wsX0_takeFavours ({ frames := 2, cells := 0, slots := 0, locals := 49 })).room s m ([.ref (adB 0), .int p1, .int p2, .int p3, .int p4] : List Value).toArray below meth c H locs 0 0 (MQ below (QV D (wB cA adB o) A) ([.ref (adB 0), .int p1, .int p2, .int p3, .int p4] : List Value).toArray s 0 0 A) (F0 m 69 ls []) := by
    intro vB H locs ls h hP hD hS hl
    unfold X0_takeFavours_b69 at h
    refine lv_aload_n hx hb dX0_takeFavours_69 rfl (lv_at hl 0 rfl) ?_
    obtain ⟨u1, eu1, h⟩ := bd_in h
    refine kV (va_runV (As := []) (rest := []) ⟨hx, hb, hml, hown, hts⟩ (c_X0_dropEmptyLots l D cA cQ adB vB u1 eu1 _) (cwV 0 hts gX0_takeFavours_X0_dropEmptyLots rfl rfl rfl (by decide +kernel) ⟨Nat.le_of_ble_eq_true rfl, Nat.le_of_ble_eq_true rfl⟩) (pV (ci := 0) (q := (RX0, TX0, 13)) hK hN hP hD [0, 1, 2, 3, 4, 5, 6, 7, 8, 9, 10, 11, 12, 13] rfl rfl rfl rfl) rfl rfl hl.1 rfl (lv_room (Nat.le_of_ble_eq_true rfl)) dX0_takeFavours_70 ⟨Nat.zero_le _, Nat.zero_le _⟩) hP hD hS hA [0, 1, 2, 3, 4, 5, 6, 7, 8, 9, 10, 11, 12, 13] rfl rfl (ws' := (wB cA adB u1)) rfl (fun H locs hP hD hS => ?_)
    cases h
    exact endV hx hb hr hlocks hP hS dX0_takeFavours_73
  have B7 : ∀ (fu7 : Nat) (vB : St) (x5 : Int32) (x6 : Int32) (H : Heap) (locs : List Loc) (ls : Array Slot), X0_takeFavours_l7 p1 p2 p3 p4 fu7 vB x5 x6 = some o → va_P D vwCl (wB cA adB vB) H → va_D A (wB cA adB vB) → va_S A s.heap H locs → lv_has ls 9 [(0, .ref (adB 0)), (1, .int p1), (2, .int p2), (3, .int p3), (5, .int x5), (6, .int x6)] → W p l e (headSpec wsX0_takeFavours ({ frames := 2, cells := 0, slots := 0, locals := 49 })).room s m ([.ref (adB 0), .int p1, .int p2, .int p3, .int p4] : List Value).toArray below meth c H locs 0 0 (MQ below (QV D (wB cA adB o) A) ([.ref (adB 0), .int p1, .int p2, .int p3, .int p4] : List Value).toArray s 0 0 A) (F0 m 7 ls []) := by
    intro fu7
    induction fu7 with
    | zero =>
      intro vB x5 x6 H locs ls h hP hD hS hl
      cases h
    | succ fu7 ih7 =>
      intro vB x5 x6 H locs ls h hP hD hS hl
      rw [X0_takeFavours_l7] at h
      refine lv_iload hx hb dX0_takeFavours_7 (lv_at hl 5 rfl) ?_
      refine lv_bipush (v := (40 : Int32)) hx hb dX0_takeFavours_9 (by decide) ?_
      refine lv_icmp_ge (tgt := 69) hx hb dX0_takeFavours_11 (by decide) (fun c2 => ?_) (fun c2 => ?_)
      · have h := (if_pos c2).symm.trans h
        exact B69 vB _ _ _ h hP hD hS (lv_sub hl [0] rfl)
      · have h := (if_neg c2).symm.trans h
        refine lv_iload hx hb dX0_takeFavours_14 (lv_at hl 4 rfl) ?_
        refine lv_if_le (tgt := 69) hx hb dX0_takeFavours_16 (by decide) (fun c3 => ?_) (fun c3 => ?_)
        · have h := (if_pos c3).symm.trans h
          exact B69 vB _ _ _ h hP hD hS (lv_sub hl [0] rfl)
        · have h := (if_neg c3).symm.trans h
          refine lv_aload_n hx hb dX0_takeFavours_19 rfl (lv_at hl 0 rfl) ?_
          refine lv_iload_n hx hb dX0_takeFavours_20 rfl (lv_at hl 1 rfl) ?_
          refine lv_iload_n hx hb dX0_takeFavours_21 rfl (lv_at hl 2 rfl) ?_
          refine lv_iload_n hx hb dX0_takeFavours_22 rfl (lv_at hl 3 rfl) ?_
          obtain ⟨u4, eu4, h⟩ := bd_in h
          refine kI (va_runV (As := [.int p1, .int p2, .int p3]) (rest := []) ⟨hx, hb, hml, hown, hts⟩ (c_X0_firstToTake l D cA cQ adB vB p1 p2 p3 u4 eu4 _) (cwV 3 hts gX0_takeFavours_X0_firstToTake rfl rfl rfl (by decide +kernel) ⟨Nat.le_of_ble_eq_true rfl, Nat.le_of_ble_eq_true rfl⟩) (pV (ci := 0) (q := (RX0, TX0, 13)) hK hN hP hD [0, 1, 2, 3, 4, 5, 6, 7, 8, 9, 10, 11, 12, 13] rfl rfl rfl rfl) rfl rfl hl.1 rfl (lv_room (Nat.le_of_ble_eq_true rfl)) dX0_takeFavours_23 ⟨Nat.zero_le _, Nat.zero_le _⟩) hP hD hS hA [0, 1, 2, 3, 4, 5, 6, 7, 8, 9, 10, 11, 12, 13] rfl rfl (ws' := (wB cA adB vB)) rfl (fun H locs hP hD hS => ?_)
          refine lv_istore (lv' := [(7, .int u4), (0, .ref (adB 0)), (1, .int p1), (2, .int p2), (3, .int p3), (5, .int x5), (6, .int x6)]) hx hb dX0_takeFavours_26 hl (by decide) rfl (fun ls hl => ?_)
          refine lv_iload hx hb dX0_takeFavours_28 (lv_at hl 5 rfl) ?_
          refine lv_aload_n hx hb dX0_takeFavours_30 rfl (lv_at hl 1 rfl) ?_
          refine va_get (D := D) (ci := 0) (v := .ref (adB 11)) (C := RX0) (T := TX0) (N := 13) hx hb hts iw_X0_takeFavours_X0 hown hK hP 0 rfl rfl 10 (by decide) (hts (.fieldLink RX0 42 "FavourRings$Bank" "sizes" "[I") (List.mem_of_getElem? (i := 1) rfl)) (fun _ h9 => h9) rfl dX0_takeFavours_31 ?_
          refine lv_iload hx hb dX0_takeFavours_34 (lv_at hl 0 rfl) ?_
          obtain ⟨u5, eu5, h⟩ := bd_in h
          refine kI (va_runSN (As := [.ref (adB 11), .int u4]) (rest := [.int x5]) ⟨hx, hb, hml, hown, hts⟩ (c_X4_at l D cA cQ (adB 11) 40 (vB 11) u4 u5 eu5 _) ⟨va_cnB 2 hts gX0_takeFavours_X4_at_n77 rfl rfl rfl hN.2.2.2.1 (hts (.initialized RX4) (List.mem_of_getElem? (i := 25) rfl)) (by decide +kernel) ⟨Nat.le_of_ble_eq_true rfl, Nat.le_of_ble_eq_true rfl⟩, (hts (.static yX4_at) (List.mem_of_getElem? (i := 24) rfl)), trivial⟩ (pS hK hN hP hD [11] rfl rfl) rfl rfl hl.1 rfl (lv_room (Nat.le_of_ble_eq_true rfl)) dX0_takeFavours_36 ⟨Nat.zero_le _, Nat.zero_le _⟩) hP hD hS hA [11] rfl rfl (ws' := (wB cA adB vB)) rfl (fun H locs hP hD hS => ?_)
          refine va_mmin hx hb (hml.trans hl.1.symm) hown (hts (.methodLink RX0 107 Lib.Math.min.name) (List.mem_of_getElem? (i := 2) rfl)) (hts (.static Lib.Math.min.name) (List.mem_of_getElem? (i := 3) rfl)) (hts (.initialized "java/lang/Math") (List.mem_of_getElem? (i := 4) rfl)) (hts (.code Lib.Math.min.name Lib.Math.min.code 2 (some .int)) (List.mem_of_getElem? (i := 5) rfl)) (Nat.le_of_ble_eq_true rfl) (Nat.le_of_ble_eq_true rfl) (Nat.zero_le _) (Nat.zero_le _) dX0_takeFavours_39 ?_
          refine lv_istore (lv' := [(8, .int (if u5 < x5 then u5 else x5)), (7, .int u4), (0, .ref (adB 0)), (1, .int p1), (2, .int p2), (3, .int p3), (5, .int x5), (6, .int x6)]) hx hb dX0_takeFavours_42 hl (by decide) rfl (fun ls hl => ?_)
          refine lv_aload_n hx hb dX0_takeFavours_44 rfl (lv_at hl 2 rfl) ?_
          refine va_get (D := D) (ci := 0) (v := .ref (adB 11)) (C := RX0) (T := TX0) (N := 13) hx hb hts iw_X0_takeFavours_X0 hown hK hP 0 rfl rfl 10 (by decide) (hts (.fieldLink RX0 42 "FavourRings$Bank" "sizes" "[I") (List.mem_of_getElem? (i := 1) rfl)) (fun _ h9 => h9) rfl dX0_takeFavours_45 ?_
          refine lv_iload hx hb dX0_takeFavours_48 (lv_at hl 1 rfl) ?_
          refine lv_iload hx hb dX0_takeFavours_50 (lv_at hl 0 rfl) ?_
          refine lv_ineg hx hb dX0_takeFavours_52 ?_
          obtain ⟨u6, eu6, h⟩ := bd_in h
          refine kV (va_runSN (As := [.ref (adB 11), .int u4, .int (-(if u5 < x5 then u5 else x5))]) (rest := []) ⟨hx, hb, hml, hown, hts⟩ (c_X4_add l D cA cQ (adB 11) 40 (vB 11) u4 (-(if u5 < x5 then u5 else x5)) u6 eu6 _) ⟨va_cnB 3 hts gX0_takeFavours_X4_add_n86 rfl rfl rfl hN.2.2.2.2.1 (hts (.initialized RX4) (List.mem_of_getElem? (i := 25) rfl)) (by decide +kernel) ⟨Nat.le_of_ble_eq_true rfl, Nat.le_of_ble_eq_true rfl⟩, (hts (.static yX4_add) (List.mem_of_getElem? (i := 27) rfl)), trivial⟩ (pS hK hN hP hD [11] rfl rfl) rfl rfl hl.1 rfl (lv_room (Nat.le_of_ble_eq_true rfl)) dX0_takeFavours_53 ⟨Nat.zero_le _, Nat.zero_le _⟩) hP hD hS hA [11] rfl rfl (ws' := (wB cA adB (setA vB 11 u6))) rfl (fun H locs hP hD hS => ?_)
          refine lv_iload hx hb dX0_takeFavours_56 (lv_at hl 6 rfl) ?_
          refine lv_iload hx hb dX0_takeFavours_58 (lv_at hl 0 rfl) ?_
          refine lv_isub hx hb dX0_takeFavours_60 ?_
          refine lv_istore (lv' := [(5, .int (x5 - (if u5 < x5 then u5 else x5))), (8, .int (if u5 < x5 then u5 else x5)), (7, .int u4), (0, .ref (adB 0)), (1, .int p1), (2, .int p2), (3, .int p3), (6, .int x6)]) hx hb dX0_takeFavours_61 hl (by decide) rfl (fun ls hl => ?_)
          refine lv_iinc (v := (x6 + (1 : Int32))) (lv' := [(6, .int (x6 + (1 : Int32))), (5, .int (x5 - (if u5 < x5 then u5 else x5))), (8, .int (if u5 < x5 then u5 else x5)), (7, .int u4), (0, .ref (adB 0)), (1, .int p1), (2, .int p2), (3, .int p3)]) hx hb dX0_takeFavours_63 hl (k := 7) rfl rfl (by decide) rfl (fun ls hl => ?_)
          refine lv_goto (tgt := 7) hx hb dX0_takeFavours_66 (by decide) ?_
          exact ih7 (setA vB 11 u6) (x5 - (if u5 < x5 then u5 else x5)) (x6 + (1 : Int32)) _ _ _ h hP hD hS (lv_sub hl [4, 5, 6, 7, 1, 0] rfl)
  have h := hf
  unfold X0_takeFavours at h
  refine lv_iload hx hb dX0_takeFavours_0 (lv_at hl 4 rfl) ?_
  refine lv_istore (lv' := [(5, .int p4), (0, .ref (adB 0)), (1, .int p1), (2, .int p2), (3, .int p3), (4, .int p4)]) hx hb dX0_takeFavours_2 hl (by decide) rfl (fun ls hl => ?_)
  refine lv_iconst (v := (0 : Int32)) hx hb dX0_takeFavours_4 (by decide) ?_
  refine lv_istore (lv' := [(6, .int (0 : Int32)), (5, .int p4), (0, .ref (adB 0)), (1, .int p1), (2, .int p2), (3, .int p3), (4, .int p4)]) hx hb dX0_takeFavours_5 hl (by decide) rfl (fun ls hl => ?_)
  exact B7 FU vB p4 (0 : Int32) _ _ _ h hP hD hS (lv_sub hl [2, 3, 4, 5, 1, 0] rfl)
theorem iw_X0_fulfilFavours_X0 : ∀ w ∈ wsX00, w ∈ wsX0_fulfilFavours := fun _ h => List.mem_cons_of_mem _ (List.mem_append_right _ (h))
set_option maxHeartbeats 4000000 in
set_option maxRecDepth 100000 in
theorem c_X0_fulfilFavours (l : Launch) (D : va_G) (cA cQ : ClassId) (adB : Nat → Nat) (vB : St) (p1 : Int32) (p2 : Int32) (p3 : Int32) (p4 : Int32) (o : Int32 × St) (hf : X0_fulfilFavours vB p1 p2 p3 p4 = some o) : Cti l yX0_fulfilFavours wsX0_fulfilFavours ({ frames := 3, cells := 0, slots := 0, locals := 77 }) D (TY cA cQ) [.ref (adB 0), .int p1, .int p2, .int p3, .int p4] (wB cA adB vB) (wB cA adB o.2) o.1 := by
  refine Wk.i (cc := cX0_fulfilFavours) (maxL := 5) (ret := (some .int)) (by decide) rfl (Nat.le_of_ble_eq_true rfl) ?_
  intro p e s m below meth c A ls hx hb hr hlocks hml hown hts hK hN hP hD hA hl
  have hown : s.vm.findClass RX0 = some m.cls := hown
  have hS : va_S A s.heap s.heap [] := va_S.rf
  have hl : lv_has ls 5 [(0, .ref (adB 0)), (1, .int p1), (2, .int p2), (3, .int p3), (4, .int p4)] := hl
  have h := hf
  unfold X0_fulfilFavours at h
  refine lv_aload_n hx hb dX0_fulfilFavours_0 rfl (lv_at hl 0 rfl) ?_
  refine lv_iload_n hx hb dX0_fulfilFavours_1 rfl (lv_at hl 1 rfl) ?_
  refine lv_iload_n hx hb dX0_fulfilFavours_2 rfl (lv_at hl 2 rfl) ?_
  obtain ⟨u1, eu1, h⟩ := bd_in h
  refine kI (va_runV (As := [.int p1, .int p2]) (rest := []) ⟨hx, hb, hml, hown, hts⟩ (c_X0_isPair l D cA cQ adB vB p1 p2 u1 eu1 _) (cwV 2 hts gX0_fulfilFavours_X0_isPair rfl rfl rfl (by decide +kernel) ⟨Nat.le_of_ble_eq_true rfl, Nat.le_of_ble_eq_true rfl⟩) (pV (ci := 0) (q := (RX0, TX0, 13)) hK hN hP hD [0, 1, 2, 3, 4, 5, 6, 7, 8, 9, 10, 11, 12, 13] rfl rfl rfl rfl) rfl rfl hl.1 rfl (lv_room (Nat.le_of_ble_eq_true rfl)) dX0_fulfilFavours_3 ⟨Nat.zero_le _, Nat.zero_le _⟩) hP hD hS hA [0, 1, 2, 3, 4, 5, 6, 7, 8, 9, 10, 11, 12, 13] rfl rfl (ws' := (wB cA adB vB)) rfl (fun H locs hP hD hS => ?_)
  refine lv_if_eq (tgt := 24) hx hb dX0_fulfilFavours_6 (by decide) (fun c2 => ?_) (fun c2 => ?_)
  · have h := (if_pos c2).symm.trans h
    refine lv_ldc (v := (-1000001 : Int32)) hx hb hown (hts (.constant RX0 93 (-1000001)) (List.mem_of_getElem? (i := 1) rfl)) dX0_fulfilFavours_24 ?_
    cases h
    exact endI hx hb hr hlocks hP hS rfl dX0_fulfilFavours_26
  · have h := (if_neg c2).symm.trans h
    refine lv_iload_n hx hb dX0_fulfilFavours_9 rfl (lv_at hl 3 rfl) ?_
    obtain ⟨u3, eu3, h⟩ := bd_in h
    refine kI (va_runSN (As := [.int p3]) (rest := []) ⟨hx, hb, hml, hown, hts⟩ (c_X4_isKind l D cA cQ  p3 u3 eu3 _) ⟨va_cnB 1 hts gX0_fulfilFavours_X4_isKind_n116 rfl rfl rfl hN.2.2.2.2.2.1 (hts (.initialized RX4) (List.mem_of_getElem? (i := 20) rfl)) (by decide +kernel) ⟨Nat.le_of_ble_eq_true rfl, Nat.le_of_ble_eq_true rfl⟩, (hts (.static yX4_isKind) (List.mem_of_getElem? (i := 19) rfl)), trivial⟩ (pS hK hN hP hD [] rfl rfl) rfl rfl hl.1 rfl (lv_room (Nat.le_of_ble_eq_true rfl)) dX0_fulfilFavours_10 ⟨Nat.zero_le _, Nat.zero_le _⟩) hP hD hS hA [] rfl rfl (ws' := (wB cA adB vB)) rfl (fun H locs hP hD hS => ?_)
    refine lv_if_eq (tgt := 24) hx hb dX0_fulfilFavours_13 (by decide) (fun c4 => ?_) (fun c4 => ?_)
    · have h := (if_pos c4).symm.trans h
      refine lv_ldc (v := (-1000001 : Int32)) hx hb hown (hts (.constant RX0 93 (-1000001)) (List.mem_of_getElem? (i := 1) rfl)) dX0_fulfilFavours_24 ?_
      cases h
      exact endI hx hb hr hlocks hP hS rfl dX0_fulfilFavours_26
    · have h := (if_neg c4).symm.trans h
      refine lv_iload hx hb dX0_fulfilFavours_16 (lv_at hl 4 rfl) ?_
      obtain ⟨u5, eu5, h⟩ := bd_in h
      refine kI (va_runSN (As := [.int p4]) (rest := []) ⟨hx, hb, hml, hown, hts⟩ (c_X4_isMany l D cA cQ  p4 u5 eu5 _) ⟨va_cnB 1 hts gX0_fulfilFavours_X4_isMany_n119 rfl rfl rfl hN.2.2.2.2.2.2.1 (hts (.initialized RX4) (List.mem_of_getElem? (i := 20) rfl)) (by decide +kernel) ⟨Nat.le_of_ble_eq_true rfl, Nat.le_of_ble_eq_true rfl⟩, (hts (.static yX4_isMany) (List.mem_of_getElem? (i := 22) rfl)), trivial⟩ (pS hK hN hP hD [] rfl rfl) rfl rfl hl.1 rfl (lv_room (Nat.le_of_ble_eq_true rfl)) dX0_fulfilFavours_18 ⟨Nat.zero_le _, Nat.zero_le _⟩) hP hD hS hA [] rfl rfl (ws' := (wB cA adB vB)) rfl (fun H locs hP hD hS => ?_)
      refine lv_if_ne (tgt := 27) hx hb dX0_fulfilFavours_21 (by decide) (fun c6 => ?_) (fun c6 => ?_)
      · have h := (if_neg c6).symm.trans h
        refine lv_aload_n hx hb dX0_fulfilFavours_27 rfl (lv_at hl 0 rfl) ?_
        refine lv_iload_n hx hb dX0_fulfilFavours_28 rfl (lv_at hl 1 rfl) ?_
        refine lv_iload_n hx hb dX0_fulfilFavours_29 rfl (lv_at hl 2 rfl) ?_
        refine lv_iload_n hx hb dX0_fulfilFavours_30 rfl (lv_at hl 3 rfl) ?_
        obtain ⟨u7, eu7, h⟩ := bd_in h
        refine kI (va_runV (As := [.int p1, .int p2, .int p3]) (rest := []) ⟨hx, hb, hml, hown, hts⟩ (c_X0_sumOwed l D cA cQ adB vB p1 p2 p3 u7 eu7 _) (cwV 3 hts gX0_fulfilFavours_X0_sumOwed rfl rfl rfl (by decide +kernel) ⟨Nat.le_of_ble_eq_true rfl, Nat.le_of_ble_eq_true rfl⟩) (pV (ci := 0) (q := (RX0, TX0, 13)) hK hN hP hD [0, 1, 2, 3, 4, 5, 6, 7, 8, 9, 10, 11, 12, 13] rfl rfl rfl rfl) rfl rfl hl.1 rfl (lv_room (Nat.le_of_ble_eq_true rfl)) dX0_fulfilFavours_31 ⟨Nat.zero_le _, Nat.zero_le _⟩) hP hD hS hA [0, 1, 2, 3, 4, 5, 6, 7, 8, 9, 10, 11, 12, 13] rfl rfl (ws' := (wB cA adB vB)) rfl (fun H locs hP hD hS => ?_)
        refine lv_iload hx hb dX0_fulfilFavours_34 (lv_at hl 4 rfl) ?_
        refine lv_icmp_ge (tgt := 42) hx hb dX0_fulfilFavours_36 (by decide) (fun c8 => ?_) (fun c8 => ?_)
        · have h := (if_pos c8).symm.trans h
          refine lv_aload_n hx hb dX0_fulfilFavours_42 rfl (lv_at hl 0 rfl) ?_
          refine lv_iload_n hx hb dX0_fulfilFavours_43 rfl (lv_at hl 1 rfl) ?_
          refine lv_iload_n hx hb dX0_fulfilFavours_44 rfl (lv_at hl 2 rfl) ?_
          refine lv_iload_n hx hb dX0_fulfilFavours_45 rfl (lv_at hl 3 rfl) ?_
          refine lv_iload hx hb dX0_fulfilFavours_46 (lv_at hl 4 rfl) ?_
          obtain ⟨u9, eu9, h⟩ := bd_in h
          refine kV (va_runV (As := [.int p1, .int p2, .int p3, .int p4]) (rest := []) ⟨hx, hb, hml, hown, hts⟩ (c_X0_takeFavours l D cA cQ adB vB p1 p2 p3 p4 u9 eu9 _) (cwV 4 hts gX0_fulfilFavours_X0_takeFavours rfl rfl rfl (by decide +kernel) ⟨Nat.le_of_ble_eq_true rfl, Nat.le_of_ble_eq_true rfl⟩) (pV (ci := 0) (q := (RX0, TX0, 13)) hK hN hP hD [0, 1, 2, 3, 4, 5, 6, 7, 8, 9, 10, 11, 12, 13] rfl rfl rfl rfl) rfl rfl hl.1 rfl (lv_room (Nat.le_of_ble_eq_true rfl)) dX0_fulfilFavours_48 ⟨Nat.zero_le _, Nat.zero_le _⟩) hP hD hS hA [0, 1, 2, 3, 4, 5, 6, 7, 8, 9, 10, 11, 12, 13] rfl rfl (ws' := (wB cA adB u9)) rfl (fun H locs hP hD hS => ?_)
          refine lv_aload_n hx hb dX0_fulfilFavours_51 rfl (lv_at hl 0 rfl) ?_
          refine va_get (D := D) (ci := 0) (v := .ref (adB 2)) (C := RX0) (T := TX0) (N := 13) hx hb hts iw_X0_fulfilFavours_X0 hown hK hP 0 rfl rfl 1 (by decide) (hts (.fieldLink RX0 15 "FavourRings$Bank" "came" "[I") (List.mem_of_getElem? (i := 3) rfl)) (fun _ h9 => h9) rfl dX0_fulfilFavours_52 ?_
          refine lv_iload_n hx hb dX0_fulfilFavours_55 rfl (lv_at hl 1 rfl) ?_
          refine lv_iload hx hb dX0_fulfilFavours_56 (lv_at hl 4 rfl) ?_
          obtain ⟨u10, eu10, h⟩ := bd_in h
          refine kV (va_runSN (As := [.ref (adB 2), .int p1, .int p4]) (rest := []) ⟨hx, hb, hml, hown, hts⟩ (c_X4_add l D cA cQ (adB 2) 8 (u9 2) p1 p4 u10 eu10 _) ⟨va_cnB 3 hts gX0_fulfilFavours_X4_add_n86 rfl rfl rfl hN.2.2.2.2.1 (hts (.initialized RX4) (List.mem_of_getElem? (i := 20) rfl)) (by decide +kernel) ⟨Nat.le_of_ble_eq_true rfl, Nat.le_of_ble_eq_true rfl⟩, (hts (.static yX4_add) (List.mem_of_getElem? (i := 51) rfl)), trivial⟩ (pS hK hN hP hD [2] rfl rfl) rfl rfl hl.1 rfl (lv_room (Nat.le_of_ble_eq_true rfl)) dX0_fulfilFavours_58 ⟨Nat.zero_le _, Nat.zero_le _⟩) hP hD hS hA [2] rfl rfl (ws' := (wB cA adB (setA u9 2 u10))) rfl (fun H locs hP hD hS => ?_)
          refine lv_aload_n hx hb dX0_fulfilFavours_61 rfl (lv_at hl 0 rfl) ?_
          refine va_get (D := D) (ci := 0) (v := .ref (adB 2)) (C := RX0) (T := TX0) (N := 13) hx hb hts iw_X0_fulfilFavours_X0 hown hK hP 0 rfl rfl 1 (by decide) (hts (.fieldLink RX0 15 "FavourRings$Bank" "came" "[I") (List.mem_of_getElem? (i := 3) rfl)) (fun _ h9 => h9) rfl dX0_fulfilFavours_62 ?_
          refine lv_iload_n hx hb dX0_fulfilFavours_65 rfl (lv_at hl 2 rfl) ?_
          refine lv_iload hx hb dX0_fulfilFavours_66 (lv_at hl 4 rfl) ?_
          refine lv_ineg hx hb dX0_fulfilFavours_68 ?_
          obtain ⟨u11, eu11, h⟩ := bd_in h
          refine kV (va_runSN (As := [.ref (adB 2), .int p2, .int (-p4)]) (rest := []) ⟨hx, hb, hml, hown, hts⟩ (c_X4_add l D cA cQ (adB 2) 8 u10 p2 (-p4) u11 eu11 _) ⟨va_cnB 3 hts gX0_fulfilFavours_X4_add_n86 rfl rfl rfl hN.2.2.2.2.1 (hts (.initialized RX4) (List.mem_of_getElem? (i := 20) rfl)) (by decide +kernel) ⟨Nat.le_of_ble_eq_true rfl, Nat.le_of_ble_eq_true rfl⟩, (hts (.static yX4_add) (List.mem_of_getElem? (i := 51) rfl)), trivial⟩ (pS hK hN hP hD [2] rfl rfl) rfl rfl hl.1 rfl (lv_room (Nat.le_of_ble_eq_true rfl)) dX0_fulfilFavours_69 ⟨Nat.zero_le _, Nat.zero_le _⟩) hP hD hS hA [2] rfl rfl (ws' := (wB cA adB (setA u9 2 u11))) rfl (fun H locs hP hD hS => ?_)
          refine lv_aload_n hx hb dX0_fulfilFavours_72 rfl (lv_at hl 0 rfl) ?_
          refine va_get (D := D) (ci := 0) (v := .ref (adB 3)) (C := RX0) (T := TX0) (N := 13) hx hb hts iw_X0_fulfilFavours_X0 hown hK hP 0 rfl rfl 2 (by decide) (hts (.fieldLink RX0 18 "FavourRings$Bank" "done" "[I") (List.mem_of_getElem? (i := 4) rfl)) (fun _ h9 => h9) rfl dX0_fulfilFavours_73 ?_
          refine lv_iload_n hx hb dX0_fulfilFavours_76 rfl (lv_at hl 1 rfl) ?_
          refine lv_iload hx hb dX0_fulfilFavours_77 (lv_at hl 4 rfl) ?_
          obtain ⟨u12, eu12, h⟩ := bd_in h
          refine kV (va_runSN (As := [.ref (adB 3), .int p1, .int p4]) (rest := []) ⟨hx, hb, hml, hown, hts⟩ (c_X4_add l D cA cQ (adB 3) 8 (u9 3) p1 p4 u12 eu12 _) ⟨va_cnB 3 hts gX0_fulfilFavours_X4_add_n86 rfl rfl rfl hN.2.2.2.2.1 (hts (.initialized RX4) (List.mem_of_getElem? (i := 20) rfl)) (by decide +kernel) ⟨Nat.le_of_ble_eq_true rfl, Nat.le_of_ble_eq_true rfl⟩, (hts (.static yX4_add) (List.mem_of_getElem? (i := 51) rfl)), trivial⟩ (pS hK hN hP hD [3] rfl rfl) rfl rfl hl.1 rfl (lv_room (Nat.le_of_ble_eq_true rfl)) dX0_fulfilFavours_79 ⟨Nat.zero_le _, Nat.zero_le _⟩) hP hD hS hA [3] rfl rfl (ws' := (wB cA adB (setA (setA u9 2 u11) 3 u12))) rfl (fun H locs hP hD hS => ?_)
          refine lv_aload_n hx hb dX0_fulfilFavours_82 rfl (lv_at hl 0 rfl) ?_
          refine va_get (D := D) (ci := 0) (v := .ref (adB 1)) (C := RX0) (T := TX0) (N := 13) hx hb hts iw_X0_fulfilFavours_X0 hown hK hP 0 rfl rfl 0 (by decide) (hts (.fieldLink RX0 9 "FavourRings$Bank" "numbers" "[I") (List.mem_of_getElem? (i := 5) rfl)) (fun _ h9 => h9) rfl dX0_fulfilFavours_83 ?_
          refine lv_iconst (v := (5 : Int32)) hx hb dX0_fulfilFavours_86 (by decide) ?_
          refine lv_iload hx hb dX0_fulfilFavours_87 (lv_at hl 4 rfl) ?_
          obtain ⟨u13, eu13, h⟩ := bd_in h
          refine kV (va_runSN (As := [.ref (adB 1), .int (5 : Int32), .int p4]) (rest := []) ⟨hx, hb, hml, hown, hts⟩ (c_X4_add l D cA cQ (adB 1) 26 (u9 1) (5 : Int32) p4 u13 eu13 _) ⟨va_cnB 3 hts gX0_fulfilFavours_X4_add_n86 rfl rfl rfl hN.2.2.2.2.1 (hts (.initialized RX4) (List.mem_of_getElem? (i := 20) rfl)) (by decide +kernel) ⟨Nat.le_of_ble_eq_true rfl, Nat.le_of_ble_eq_true rfl⟩, (hts (.static yX4_add) (List.mem_of_getElem? (i := 51) rfl)), trivial⟩ (pS hK hN hP hD [1] rfl rfl) rfl rfl hl.1 rfl (lv_room (Nat.le_of_ble_eq_true rfl)) dX0_fulfilFavours_89 ⟨Nat.zero_le _, Nat.zero_le _⟩) hP hD hS hA [1] rfl rfl (ws' := (wB cA adB (setA (setA (setA u9 2 u11) 3 u12) 1 u13))) rfl (fun H locs hP hD hS => ?_)
          refine lv_aload_n hx hb dX0_fulfilFavours_92 rfl (lv_at hl 0 rfl) ?_
          refine lv_iload_n hx hb dX0_fulfilFavours_93 rfl (lv_at hl 1 rfl) ?_
          refine lv_iload_n hx hb dX0_fulfilFavours_94 rfl (lv_at hl 2 rfl) ?_
          refine lv_iload_n hx hb dX0_fulfilFavours_95 rfl (lv_at hl 3 rfl) ?_
          obtain ⟨u14, eu14, h⟩ := bd_in h
          refine kI (va_runV (As := [.int p1, .int p2, .int p3]) (rest := []) ⟨hx, hb, hml, hown, hts⟩ (c_X0_sumOwed l D cA cQ adB (setA (setA (setA u9 2 u11) 3 u12) 1 u13) p1 p2 p3 u14 eu14 _) (cwV 3 hts gX0_fulfilFavours_X0_sumOwed rfl rfl rfl (by decide +kernel) ⟨Nat.le_of_ble_eq_true rfl, Nat.le_of_ble_eq_true rfl⟩) (pV (ci := 0) (q := (RX0, TX0, 13)) hK hN hP hD [0, 1, 2, 3, 4, 5, 6, 7, 8, 9, 10, 11, 12, 13] rfl rfl rfl rfl) rfl rfl hl.1 rfl (lv_room (Nat.le_of_ble_eq_true rfl)) dX0_fulfilFavours_96 ⟨Nat.zero_le _, Nat.zero_le _⟩) hP hD hS hA [0, 1, 2, 3, 4, 5, 6, 7, 8, 9, 10, 11, 12, 13] rfl rfl (ws' := (wB cA adB (setA (setA (setA u9 2 u11) 3 u12) 1 u13))) rfl (fun H locs hP hD hS => ?_)
          cases h
          exact endI hx hb hr hlocks hP hS rfl dX0_fulfilFavours_99
        · have h := (if_neg c8).symm.trans h
          refine lv_ldc (v := (-1000002 : Int32)) hx hb hown (hts (.constant RX0 125 (-1000002)) (List.mem_of_getElem? (i := 2) rfl)) dX0_fulfilFavours_39 ?_
          cases h
          exact endI hx hb hr hlocks hP hS rfl dX0_fulfilFavours_41
      · have h := (if_pos c6).symm.trans h
        refine lv_ldc (v := (-1000001 : Int32)) hx hb hown (hts (.constant RX0 93 (-1000001)) (List.mem_of_getElem? (i := 1) rfl)) dX0_fulfilFavours_24 ?_
        cases h
        exact endI hx hb hr hlocks hP hS rfl dX0_fulfilFavours_26
set_option maxHeartbeats 4000000 in
set_option maxRecDepth 100000 in
theorem c_X4_fulfil (l : Launch) (D : va_G) (cA cQ : ClassId) (adF : Nat) (adB : Nat → Nat) (adT : Nat → Nat) (adH : Nat → Nat) (kH : Nat → Nat → Nat) (adR : Nat → Nat) (adO : Nat → Nat) (vB : St) (vT : St) (vH : St) (bH : Nat → St) (vR : St) (vO : St) (p1 : Int32) (p2 : Int32) (p3 : Int32) (p4 : Int32) (o : Int32 × St × St × St × (Nat → St)) (hf : X4_fulfil vB vT vH bH vR vO p1 p2 p3 p4 = some o) : Cti l yX4_fulfil wsX4_fulfil ({ frames := 6, cells := 0, slots := 0, locals := 165 }) D (TY cA cQ) [.ref adF, .int p1, .int p2, .int p3, .int p4] (wF cA cQ adF adB adT adH kH adR adO vB vT vH bH vR vO) (wF cA cQ adF adB adT adH kH adR adO o.2.1 o.2.2.1 o.2.2.2.1 o.2.2.2.2 vR vO) o.1 := by
  refine Wk.i (cc := cX4_fulfil) (maxL := 5) (ret := (some .int)) (by decide) rfl (Nat.le_of_ble_eq_true rfl) ?_
  intro p e s m below meth c A ls hx hb hr hlocks hml hown hts hK hN hP hD hA hl
  have hown : s.vm.findClass RX4 = some m.cls := hown
  have hS : va_S A s.heap s.heap [] := va_S.rf
  have hl : lv_has ls 5 [(0, .ref adF), (1, .int p1), (2, .int p2), (3, .int p3), (4, .int p4)] := hl
  have h := hf
  unfold X4_fulfil at h
  refine lv_aload_n hx hb dX4_fulfil_0 rfl (lv_at hl 0 rfl) ?_
  refine lv_aload_n hx hb dX4_fulfil_1 rfl (lv_at hl 0 rfl) ?_
  obtain ⟨u1, eu1, h⟩ := bd_in h
  refine kR (va_runV (As := []) (rest := [.ref adF]) ⟨hx, hb, hml, hown, hts⟩ (c_X4_freshTrial l D cA cQ adF adB adT adH kH adR adO vB vT vH bH vR vO u1 eu1 _) (cwV 0 hts gX4_fulfil_X4_freshTrial rfl rfl rfl (by decide +kernel) ⟨Nat.le_of_ble_eq_true rfl, Nat.le_of_ble_eq_true rfl⟩) (pV (ci := 4) (q := (RX4, TX4, 5)) hK hN hP hD [0, 1, 2, 3, 4, 5, 6, 7, 8, 9, 10, 11, 12, 13, 14, 15, 16, 17, 18, 19, 20, 21, 22, 23, 24, 25, 26, 27, 28, 29, 30, 31, 32, 33, 34, 35, 36, 37, 38, 39, 40, 41, 42, 43, 44, 45, 46, 47, 48, 49, 50, 51, 52, 53, 54, 55, 56, 57, 58, 59, 60, 61, 62, 63, 64, 65, 66, 67, 68, 69, 70, 71, 72, 73, 74, 75, 76, 77, 78, 79, 80, 81, 82, 83, 84, 85, 86, 87, 88, 89, 90, 91, 92, 93, 94] rfl rfl rfl rfl) rfl rfl hl.1 rfl (lv_room (Nat.le_of_ble_eq_true rfl)) dX4_fulfil_2 ⟨Nat.zero_le _, Nat.zero_le _⟩) hP hD hS hA [0, 1, 2, 3, 4, 5, 6, 7, 8, 9, 10, 11, 12, 13, 14, 15, 16, 17, 18, 19, 20, 21, 22, 23, 24, 25, 26, 27, 28, 29, 30, 31, 32, 33, 34, 35, 36, 37, 38, 39, 40, 41, 42, 43, 44, 45, 46, 47, 48, 49, 50, 51, 52, 53, 54, 55, 56, 57, 58, 59, 60, 61, 62, 63, 64, 65, 66, 67, 68, 69, 70, 71, 72, 73, 74, 75, 76, 77, 78, 79, 80, 81, 82, 83, 84, 85, 86, 87, 88, 89, 90, 91, 92, 93, 94] rfl rfl (ws' := (wF cA cQ adF adB adT adH kH adR adO vB u1 vH bH vR vO)) rfl (fun H locs hP hD hS => ?_)
  refine lv_iload_n hx hb dX4_fulfil_5 rfl (lv_at hl 1 rfl) ?_
  refine lv_iload_n hx hb dX4_fulfil_6 rfl (lv_at hl 2 rfl) ?_
  refine lv_iload_n hx hb dX4_fulfil_7 rfl (lv_at hl 3 rfl) ?_
  refine lv_iload hx hb dX4_fulfil_8 (lv_at hl 4 rfl) ?_
  obtain ⟨u2, eu2, h⟩ := bd_in h
  refine kI (va_runV (As := [.int p1, .int p2, .int p3, .int p4]) (rest := [.ref adF]) ⟨hx, hb, hml, hown, hts⟩ (c_X0_fulfilFavours l D cA cQ adT u1 p1 p2 p3 p4 u2 eu2 _) (cwV 4 hts gX4_fulfil_X0_fulfilFavours rfl rfl rfl (by decide +kernel) ⟨Nat.le_of_ble_eq_true rfl, Nat.le_of_ble_eq_true rfl⟩) (pV (ci := 0) (q := (RX0, TX0, 13)) hK hN hP hD [15, 16, 17, 18, 19, 20, 21, 22, 23, 24, 25, 26, 27, 28] rfl rfl rfl rfl) rfl rfl hl.1 rfl (lv_room (Nat.le_of_ble_eq_true rfl)) dX4_fulfil_10 ⟨Nat.zero_le _, Nat.zero_le _⟩) hP hD hS hA [15, 16, 17, 18, 19, 20, 21, 22, 23, 24, 25, 26, 27, 28] rfl rfl (ws' := (wF cA cQ adF adB adT adH kH adR adO vB u2.2 vH bH vR vO)) rfl (fun H locs hP hD hS => ?_)
  obtain ⟨u3, eu3, h⟩ := bd_in h
  refine kI (va_runV (As := [.int u2.1]) (rest := []) ⟨hx, hb, hml, hown, hts⟩ (c_X4_settled l D cA cQ adF adB adT adH kH adR adO vB u2.2 vH bH vR vO u2.1 u3 eu3 _) (cwV 1 hts gX4_fulfil_X4_settled rfl rfl rfl (by decide +kernel) ⟨Nat.le_of_ble_eq_true rfl, Nat.le_of_ble_eq_true rfl⟩) (pV (ci := 4) (q := (RX4, TX4, 5)) hK hN hP hD [0, 1, 2, 3, 4, 5, 6, 7, 8, 9, 10, 11, 12, 13, 14, 15, 16, 17, 18, 19, 20, 21, 22, 23, 24, 25, 26, 27, 28, 29, 30, 31, 32, 33, 34, 35, 36, 37, 38, 39, 40, 41, 42, 43, 44, 45, 46, 47, 48, 49, 50, 51, 52, 53, 54, 55, 56, 57, 58, 59, 60, 61, 62, 63, 64, 65, 66, 67, 68, 69, 70, 71, 72, 73, 74, 75, 76, 77, 78, 79, 80, 81, 82, 83, 84, 85, 86, 87, 88, 89, 90, 91, 92, 93, 94] rfl rfl rfl rfl) rfl rfl hl.1 rfl (lv_room (Nat.le_of_ble_eq_true rfl)) dX4_fulfil_13 ⟨Nat.zero_le _, Nat.zero_le _⟩) hP hD hS hA [0, 1, 2, 3, 4, 5, 6, 7, 8, 9, 10, 11, 12, 13, 14, 15, 16, 17, 18, 19, 20, 21, 22, 23, 24, 25, 26, 27, 28, 29, 30, 31, 32, 33, 34, 35, 36, 37, 38, 39, 40, 41, 42, 43, 44, 45, 46, 47, 48, 49, 50, 51, 52, 53, 54, 55, 56, 57, 58, 59, 60, 61, 62, 63, 64, 65, 66, 67, 68, 69, 70, 71, 72, 73, 74, 75, 76, 77, 78, 79, 80, 81, 82, 83, 84, 85, 86, 87, 88, 89, 90, 91, 92, 93, 94] rfl rfl (ws' := (wF cA cQ adF adB adT adH kH adR adO u3.2.1 u2.2 u3.2.2.1 u3.2.2.2 vR vO)) rfl (fun H locs hP hD hS => ?_)
  cases h
  exact endI hx hb hr hlocks hP hS rfl dX4_fulfil_16

theorem iw_X0_number_X0 : ∀ w ∈ wsX00, w ∈ wsX0_number := fun _ h => List.mem_cons_of_mem _ (List.mem_append_right _ (h))
set_option maxHeartbeats 4000000 in
set_option maxRecDepth 100000 in
theorem c_X0_number (l : Launch) (D : va_G) (cA cQ : ClassId) (adB : Nat → Nat) (vB : St) (p1 : Int32) (o : Int32) (hf : X0_number vB p1 = some o) : Cti l yX0_number wsX0_number ({ frames := 0, cells := 0, slots := 0, locals := 0 }) D (TY cA cQ) [.ref (adB 0), .int p1] (wB cA adB vB) (wB cA adB vB) o := by
  refine Wk.i (cc := cX0_number) (maxL := 2) (ret := (some .int)) (by decide) rfl (Nat.le_of_ble_eq_true rfl) ?_
  intro p e s m below meth c A ls hx hb hr hlocks hml hown hts hK hN hP hD hA hl
  have hown : s.vm.findClass RX0 = some m.cls := hown
  have hS : va_S A s.heap s.heap [] := va_S.rf
  have hl : lv_has ls 2 [(0, .ref (adB 0)), (1, .int p1)] := hl
  have h := hf
  unfold X0_number at h
  refine lv_iload_n hx hb dX0_number_0 rfl (lv_at hl 1 rfl) ?_
  refine lv_if_lt (tgt := 22) hx hb dX0_number_1 (by decide) (fun c1 => ?_) (fun c1 => ?_)
  · have h := (if_pos c1).symm.trans h
    refine lv_iconst (v := (0 : Int32)) hx hb dX0_number_22 (by decide) ?_
    cases h
    exact endI hx hb hr hlocks hP hS rfl dX0_number_23
  · have h := (if_neg c1).symm.trans h
    refine lv_iload_n hx hb dX0_number_4 rfl (lv_at hl 1 rfl) ?_
    refine lv_aload_n hx hb dX0_number_5 rfl (lv_at hl 0 rfl) ?_
    refine va_get (D := D) (ci := 0) (v := .ref (adB 1)) (C := RX0) (T := TX0) (N := 13) hx hb hts iw_X0_number_X0 hown hK hP 0 rfl rfl 0 (by decide) (hts (.fieldLink RX0 9 "FavourRings$Bank" "numbers" "[I") (List.mem_of_getElem? (i := 1) rfl)) (fun _ h9 => h9) rfl dX0_number_6 ?_
    refine va_alen hx hb hK hP 1 0 rfl rfl (v := (26 : Int32)) rfl dX0_number_9 ?_
    refine lv_icmp_ge (tgt := 22) hx hb dX0_number_10 (by decide) (fun c2 => ?_) (fun c2 => ?_)
    · have h := (if_pos c2).symm.trans h
      refine lv_iconst (v := (0 : Int32)) hx hb dX0_number_22 (by decide) ?_
      cases h
      exact endI hx hb hr hlocks hP hS rfl dX0_number_23
    · have h := (if_neg c2).symm.trans h
      refine lv_aload_n hx hb dX0_number_13 rfl (lv_at hl 0 rfl) ?_
      refine va_get (D := D) (ci := 0) (v := .ref (adB 1)) (C := RX0) (T := TX0) (N := 13) hx hb hts iw_X0_number_X0 hown hK hP 0 rfl rfl 0 (by decide) (hts (.fieldLink RX0 9 "FavourRings$Bank" "numbers" "[I") (List.mem_of_getElem? (i := 1) rfl)) (fun _ h9 => h9) rfl dX0_number_14 ?_
      refine lv_iload_n hx hb dX0_number_17 rfl (lv_at hl 1 rfl) ?_
      obtain ⟨y3, ey3, h⟩ := bd_in h
      refine ldR hx hb hK hP 1 0 rfl rfl ey3 dX0_number_18 ?_
      refine lv_goto (tgt := 23) hx hb dX0_number_19 (by decide) ?_
      cases h
      exact endI hx hb hr hlocks hP hS rfl dX0_number_23
set_option maxHeartbeats 4000000 in
set_option maxRecDepth 100000 in
theorem c_X4_at (l : Launch) (D : va_G) (cA cQ : ClassId) (a1 : Nat) (n1 : Nat) (f1 : Nat → Int32) (p1 : Int32) (o : Int32) (hf : X4_at f1 n1 p1 = some o) : Cti l yX4_at wsX4_at ({ frames := 0, cells := 0, slots := 0, locals := 0 }) D (TY cA cQ) [.ref a1, .int p1] (wA cA a1 n1 f1) (wA cA a1 n1 f1) o := by
  refine Wk.i (cc := cX4_at) (maxL := 2) (ret := (some .int)) (by decide) rfl (Nat.le_of_ble_eq_true rfl) ?_
  intro p e s m below meth c A ls hx hb hr hlocks hml hown hts hK hN hP hD hA hl
  have hown : s.vm.findClass RX4 = some m.cls := hown
  have hS : va_S A s.heap s.heap [] := va_S.rf
  have hl : lv_has ls 2 [(0, .ref a1), (1, .int p1)] := hl
  have h := hf
  unfold X4_at at h
  refine lv_iload_n hx hb dX4_at_0 rfl (lv_at hl 1 rfl) ?_
  refine lv_if_lt (tgt := 16) hx hb dX4_at_1 (by decide) (fun c1 => ?_) (fun c1 => ?_)
  · have h := (if_pos c1).symm.trans h
    refine lv_iconst (v := (0 : Int32)) hx hb dX4_at_16 (by decide) ?_
    cases h
    exact endI hx hb hr hlocks hP hS rfl dX4_at_17
  · have h := (if_neg c1).symm.trans h
    refine lv_iload_n hx hb dX4_at_4 rfl (lv_at hl 1 rfl) ?_
    refine lv_aload_n hx hb dX4_at_5 rfl (lv_at hl 0 rfl) ?_
    refine va_alen hx hb hK hP 0 0 rfl rfl (v := (Int32.ofNat n1)) rfl dX4_at_6 ?_
    refine lv_icmp_ge (tgt := 16) hx hb dX4_at_7 (by decide) (fun c2 => ?_) (fun c2 => ?_)
    · have h := (if_pos c2).symm.trans h
      refine lv_iconst (v := (0 : Int32)) hx hb dX4_at_16 (by decide) ?_
      cases h
      exact endI hx hb hr hlocks hP hS rfl dX4_at_17
    · have h := (if_neg c2).symm.trans h
      refine lv_aload_n hx hb dX4_at_10 rfl (lv_at hl 0 rfl) ?_
      refine lv_iload_n hx hb dX4_at_11 rfl (lv_at hl 1 rfl) ?_
      obtain ⟨y3, ey3, h⟩ := bd_in h
      refine ldR hx hb hK hP 0 0 rfl rfl ey3 dX4_at_12 ?_
      refine lv_goto (tgt := 17) hx hb dX4_at_13 (by decide) ?_
      cases h
      exact endI hx hb hr hlocks hP hS rfl dX4_at_17
theorem iw_X0_tellOfLot_X0 : ∀ w ∈ wsX00, w ∈ wsX0_tellOfLot := fun _ h => List.mem_cons_of_mem _ (List.mem_append_right _ (h))
set_option maxHeartbeats 4000000 in
set_option maxRecDepth 100000 in
theorem c_X0_tellOfLot (l : Launch) (D : va_G) (cA cQ : ClassId) (adB : Nat → Nat) (vB : St) (p1 : Int32) (p2 : Int32) (o : Int32) (hf : X0_tellOfLot vB p1 p2 = some o) : Cti l yX0_tellOfLot wsX0_tellOfLot ({ frames := 1, cells := 0, slots := 0, locals := 21 }) D (TY cA cQ) [.ref (adB 0), .int p1, .int p2] (wB cA adB vB) (wB cA adB vB) o := by
  refine Wk.i (cc := cX0_tellOfLot) (maxL := 3) (ret := (some .int)) (by decide) rfl (Nat.le_of_ble_eq_true rfl) ?_
  intro p e s m below meth c A ls hx hb hr hlocks hml hown hts hK hN hP hD hA hl
  have hown : s.vm.findClass RX0 = some m.cls := hown
  have hS : va_S A s.heap s.heap [] := va_S.rf
  have hl : lv_has ls 3 [(0, .ref (adB 0)), (1, .int p1), (2, .int p2)] := hl
  have h := hf
  unfold X0_tellOfLot at h
  refine lv_iload_n hx hb dX0_tellOfLot_0 rfl (lv_at hl 2 rfl) ?_
  by_cases c1 : p2 = (0 : Int32)
  · have h := (if_pos c1).symm.trans h
    refine lv_tableIn (off := 35) (tgt := 36) hx hb dX0_tellOfLot_1 (by rw [c1]; decide +kernel) (by rw [c1]; decide +kernel) (by rw [c1]; decide +kernel) (by decide) ?_
    refine lv_aload_n hx hb dX0_tellOfLot_36 rfl (lv_at hl 0 rfl) ?_
    refine va_get (D := D) (ci := 0) (v := .ref (adB 8)) (C := RX0) (T := TX0) (N := 13) hx hb hts iw_X0_tellOfLot_X0 hown hK hP 0 rfl rfl 7 (by decide) (hts (.fieldLink RX0 33 "FavourRings$Bank" "debtors" "[I") (List.mem_of_getElem? (i := 1) rfl)) (fun _ h9 => h9) rfl dX0_tellOfLot_37 ?_
    refine lv_iload_n hx hb dX0_tellOfLot_40 rfl (lv_at hl 1 rfl) ?_
    obtain ⟨u2, eu2, h⟩ := bd_in h
    refine kI (va_runSN (As := [.ref (adB 8), .int p1]) (rest := []) ⟨hx, hb, hml, hown, hts⟩ (c_X4_at l D cA cQ (adB 8) 40 (vB 8) p1 u2 eu2 _) ⟨va_cnB 2 hts gX0_tellOfLot_X4_at_n77 rfl rfl rfl hN.2.2.2.1 (hts (.initialized RX4) (List.mem_of_getElem? (i := 8) rfl)) (by decide +kernel) ⟨Nat.le_of_ble_eq_true rfl, Nat.le_of_ble_eq_true rfl⟩, (hts (.static yX4_at) (List.mem_of_getElem? (i := 7) rfl)), trivial⟩ (pS hK hN hP hD [8] rfl rfl) rfl rfl hl.1 rfl (lv_room (Nat.le_of_ble_eq_true rfl)) dX0_tellOfLot_41 ⟨Nat.zero_le _, Nat.zero_le _⟩) hP hD hS hA [8] rfl rfl (ws' := (wB cA adB vB)) rfl (fun H locs hP hD hS => ?_)
    cases h
    exact endI hx hb hr hlocks hP hS rfl dX0_tellOfLot_44
  have h := (if_neg c1).symm.trans h
  by_cases c3 : p2 = (1 : Int32)
  · have h := (if_pos c3).symm.trans h
    refine lv_tableIn (off := 44) (tgt := 45) hx hb dX0_tellOfLot_1 (by rw [c3]; decide +kernel) (by rw [c3]; decide +kernel) (by rw [c3]; decide +kernel) (by decide) ?_
    refine lv_aload_n hx hb dX0_tellOfLot_45 rfl (lv_at hl 0 rfl) ?_
    refine va_get (D := D) (ci := 0) (v := .ref (adB 9)) (C := RX0) (T := TX0) (N := 13) hx hb hts iw_X0_tellOfLot_X0 hown hK hP 0 rfl rfl 8 (by decide) (hts (.fieldLink RX0 36 "FavourRings$Bank" "creditors" "[I") (List.mem_of_getElem? (i := 2) rfl)) (fun _ h9 => h9) rfl dX0_tellOfLot_46 ?_
    refine lv_iload_n hx hb dX0_tellOfLot_49 rfl (lv_at hl 1 rfl) ?_
    obtain ⟨u4, eu4, h⟩ := bd_in h
    refine kI (va_runSN (As := [.ref (adB 9), .int p1]) (rest := []) ⟨hx, hb, hml, hown, hts⟩ (c_X4_at l D cA cQ (adB 9) 40 (vB 9) p1 u4 eu4 _) ⟨va_cnB 2 hts gX0_tellOfLot_X4_at_n77 rfl rfl rfl hN.2.2.2.1 (hts (.initialized RX4) (List.mem_of_getElem? (i := 8) rfl)) (by decide +kernel) ⟨Nat.le_of_ble_eq_true rfl, Nat.le_of_ble_eq_true rfl⟩, (hts (.static yX4_at) (List.mem_of_getElem? (i := 7) rfl)), trivial⟩ (pS hK hN hP hD [9] rfl rfl) rfl rfl hl.1 rfl (lv_room (Nat.le_of_ble_eq_true rfl)) dX0_tellOfLot_50 ⟨Nat.zero_le _, Nat.zero_le _⟩) hP hD hS hA [9] rfl rfl (ws' := (wB cA adB vB)) rfl (fun H locs hP hD hS => ?_)
    cases h
    exact endI hx hb hr hlocks hP hS rfl dX0_tellOfLot_53
  have h := (if_neg c3).symm.trans h
  by_cases c5 : p2 = (2 : Int32)
  · have h := (if_pos c5).symm.trans h
    refine lv_tableIn (off := 53) (tgt := 54) hx hb dX0_tellOfLot_1 (by rw [c5]; decide +kernel) (by rw [c5]; decide +kernel) (by rw [c5]; decide +kernel) (by decide) ?_
    refine lv_aload_n hx hb dX0_tellOfLot_54 rfl (lv_at hl 0 rfl) ?_
    refine va_get (D := D) (ci := 0) (v := .ref (adB 10)) (C := RX0) (T := TX0) (N := 13) hx hb hts iw_X0_tellOfLot_X0 hown hK hP 0 rfl rfl 9 (by decide) (hts (.fieldLink RX0 39 "FavourRings$Bank" "kinds" "[I") (List.mem_of_getElem? (i := 3) rfl)) (fun _ h9 => h9) rfl dX0_tellOfLot_55 ?_
    refine lv_iload_n hx hb dX0_tellOfLot_58 rfl (lv_at hl 1 rfl) ?_
    obtain ⟨u6, eu6, h⟩ := bd_in h
    refine kI (va_runSN (As := [.ref (adB 10), .int p1]) (rest := []) ⟨hx, hb, hml, hown, hts⟩ (c_X4_at l D cA cQ (adB 10) 40 (vB 10) p1 u6 eu6 _) ⟨va_cnB 2 hts gX0_tellOfLot_X4_at_n77 rfl rfl rfl hN.2.2.2.1 (hts (.initialized RX4) (List.mem_of_getElem? (i := 8) rfl)) (by decide +kernel) ⟨Nat.le_of_ble_eq_true rfl, Nat.le_of_ble_eq_true rfl⟩, (hts (.static yX4_at) (List.mem_of_getElem? (i := 7) rfl)), trivial⟩ (pS hK hN hP hD [10] rfl rfl) rfl rfl hl.1 rfl (lv_room (Nat.le_of_ble_eq_true rfl)) dX0_tellOfLot_59 ⟨Nat.zero_le _, Nat.zero_le _⟩) hP hD hS hA [10] rfl rfl (ws' := (wB cA adB vB)) rfl (fun H locs hP hD hS => ?_)
    cases h
    exact endI hx hb hr hlocks hP hS rfl dX0_tellOfLot_62
  have h := (if_neg c5).symm.trans h
  by_cases c7 : p2 = (3 : Int32)
  · have h := (if_pos c7).symm.trans h
    refine lv_tableIn (off := 62) (tgt := 63) hx hb dX0_tellOfLot_1 (by rw [c7]; decide +kernel) (by rw [c7]; decide +kernel) (by rw [c7]; decide +kernel) (by decide) ?_
    refine lv_aload_n hx hb dX0_tellOfLot_63 rfl (lv_at hl 0 rfl) ?_
    refine va_get (D := D) (ci := 0) (v := .ref (adB 11)) (C := RX0) (T := TX0) (N := 13) hx hb hts iw_X0_tellOfLot_X0 hown hK hP 0 rfl rfl 10 (by decide) (hts (.fieldLink RX0 42 "FavourRings$Bank" "sizes" "[I") (List.mem_of_getElem? (i := 4) rfl)) (fun _ h9 => h9) rfl dX0_tellOfLot_64 ?_
    refine lv_iload_n hx hb dX0_tellOfLot_67 rfl (lv_at hl 1 rfl) ?_
    obtain ⟨u8, eu8, h⟩ := bd_in h
    refine kI (va_runSN (As := [.ref (adB 11), .int p1]) (rest := []) ⟨hx, hb, hml, hown, hts⟩ (c_X4_at l D cA cQ (adB 11) 40 (vB 11) p1 u8 eu8 _) ⟨va_cnB 2 hts gX0_tellOfLot_X4_at_n77 rfl rfl rfl hN.2.2.2.1 (hts (.initialized RX4) (List.mem_of_getElem? (i := 8) rfl)) (by decide +kernel) ⟨Nat.le_of_ble_eq_true rfl, Nat.le_of_ble_eq_true rfl⟩, (hts (.static yX4_at) (List.mem_of_getElem? (i := 7) rfl)), trivial⟩ (pS hK hN hP hD [11] rfl rfl) rfl rfl hl.1 rfl (lv_room (Nat.le_of_ble_eq_true rfl)) dX0_tellOfLot_68 ⟨Nat.zero_le _, Nat.zero_le _⟩) hP hD hS hA [11] rfl rfl (ws' := (wB cA adB vB)) rfl (fun H locs hP hD hS => ?_)
    cases h
    exact endI hx hb hr hlocks hP hS rfl dX0_tellOfLot_71
  have h := (if_neg c7).symm.trans h
  by_cases c9 : p2 = (4 : Int32)
  · have h := (if_pos c9).symm.trans h
    refine lv_tableIn (off := 71) (tgt := 72) hx hb dX0_tellOfLot_1 (by rw [c9]; decide +kernel) (by rw [c9]; decide +kernel) (by rw [c9]; decide +kernel) (by decide) ?_
    refine lv_aload_n hx hb dX0_tellOfLot_72 rfl (lv_at hl 0 rfl) ?_
    refine va_get (D := D) (ci := 0) (v := .ref (adB 12)) (C := RX0) (T := TX0) (N := 13) hx hb hts iw_X0_tellOfLot_X0 hown hK hP 0 rfl rfl 11 (by decide) (hts (.fieldLink RX0 45 "FavourRings$Bank" "ages" "[I") (List.mem_of_getElem? (i := 5) rfl)) (fun _ h9 => h9) rfl dX0_tellOfLot_73 ?_
    refine lv_iload_n hx hb dX0_tellOfLot_76 rfl (lv_at hl 1 rfl) ?_
    obtain ⟨u10, eu10, h⟩ := bd_in h
    refine kI (va_runSN (As := [.ref (adB 12), .int p1]) (rest := []) ⟨hx, hb, hml, hown, hts⟩ (c_X4_at l D cA cQ (adB 12) 40 (vB 12) p1 u10 eu10 _) ⟨va_cnB 2 hts gX0_tellOfLot_X4_at_n77 rfl rfl rfl hN.2.2.2.1 (hts (.initialized RX4) (List.mem_of_getElem? (i := 8) rfl)) (by decide +kernel) ⟨Nat.le_of_ble_eq_true rfl, Nat.le_of_ble_eq_true rfl⟩, (hts (.static yX4_at) (List.mem_of_getElem? (i := 7) rfl)), trivial⟩ (pS hK hN hP hD [12] rfl rfl) rfl rfl hl.1 rfl (lv_room (Nat.le_of_ble_eq_true rfl)) dX0_tellOfLot_77 ⟨Nat.zero_le _, Nat.zero_le _⟩) hP hD hS hA [12] rfl rfl (ws' := (wB cA adB vB)) rfl (fun H locs hP hD hS => ?_)
    cases h
    exact endI hx hb hr hlocks hP hS rfl dX0_tellOfLot_80
  have h := (if_neg c9).symm.trans h
  have nc1 : (p2).toInt ≠ 0 := ne_toInt c1
  have nc3 : (p2).toInt ≠ 1 := ne_toInt c3
  have nc5 : (p2).toInt ≠ 2 := ne_toInt c5
  have nc7 : (p2).toInt ≠ 3 := ne_toInt c7
  have nc9 : (p2).toInt ≠ 4 := ne_toInt c9
  refine lv_tableOut (tgt := 81) hx hb dX0_tellOfLot_1 (by omega) (by decide) ?_
  refine lv_aload_n hx hb dX0_tellOfLot_81 rfl (lv_at hl 0 rfl) ?_
  refine va_get (D := D) (ci := 0) (v := .ref (adB 13)) (C := RX0) (T := TX0) (N := 13) hx hb hts iw_X0_tellOfLot_X0 hown hK hP 0 rfl rfl 12 (by decide) (hts (.fieldLink RX0 48 "FavourRings$Bank" "passed" "[I") (List.mem_of_getElem? (i := 6) rfl)) (fun _ h9 => h9) rfl dX0_tellOfLot_82 ?_
  refine lv_iload_n hx hb dX0_tellOfLot_85 rfl (lv_at hl 1 rfl) ?_
  obtain ⟨u11, eu11, h⟩ := bd_in h
  refine kI (va_runSN (As := [.ref (adB 13), .int p1]) (rest := []) ⟨hx, hb, hml, hown, hts⟩ (c_X4_at l D cA cQ (adB 13) 40 (vB 13) p1 u11 eu11 _) ⟨va_cnB 2 hts gX0_tellOfLot_X4_at_n77 rfl rfl rfl hN.2.2.2.1 (hts (.initialized RX4) (List.mem_of_getElem? (i := 8) rfl)) (by decide +kernel) ⟨Nat.le_of_ble_eq_true rfl, Nat.le_of_ble_eq_true rfl⟩, (hts (.static yX4_at) (List.mem_of_getElem? (i := 7) rfl)), trivial⟩ (pS hK hN hP hD [13] rfl rfl) rfl rfl hl.1 rfl (lv_room (Nat.le_of_ble_eq_true rfl)) dX0_tellOfLot_86 ⟨Nat.zero_le _, Nat.zero_le _⟩) hP hD hS hA [13] rfl rfl (ws' := (wB cA adB vB)) rfl (fun H locs hP hD hS => ?_)
  cases h
  exact endI hx hb hr hlocks hP hS rfl dX0_tellOfLot_89
theorem iw_X4_lot_X4 : ∀ w ∈ wsX40, w ∈ wsX4_lot := fun _ h => List.mem_cons_of_mem _ (List.mem_append_left _ (List.mem_append_right _ (h)))
set_option maxHeartbeats 4000000 in
set_option maxRecDepth 100000 in
theorem c_X4_lot (l : Launch) (D : va_G) (cA cQ : ClassId) (adF : Nat) (adB : Nat → Nat) (adT : Nat → Nat) (adH : Nat → Nat) (kH : Nat → Nat → Nat) (adR : Nat → Nat) (adO : Nat → Nat) (vB : St) (vT : St) (vH : St) (bH : Nat → St) (vR : St) (vO : St) (p1 : Int32) (p2 : Int32) (o : Int32) (hf : X4_lot vB vT vH bH vR vO p1 p2 = some o) : Cti l yX4_lot wsX4_lot ({ frames := 2, cells := 0, slots := 0, locals := 43 }) D (TY cA cQ) [.ref adF, .int p1, .int p2] (wF cA cQ adF adB adT adH kH adR adO vB vT vH bH vR vO) (wF cA cQ adF adB adT adH kH adR adO vB vT vH bH vR vO) o := by
  refine Wk.i (cc := cX4_lot) (maxL := 3) (ret := (some .int)) (by decide) rfl (Nat.le_of_ble_eq_true rfl) ?_
  intro p e s m below meth c A ls hx hb hr hlocks hml hown hts hK hN hP hD hA hl
  have hown : s.vm.findClass RX4 = some m.cls := hown
  have hS : va_S A s.heap s.heap [] := va_S.rf
  have hl : lv_has ls 3 [(0, .ref adF), (1, .int p1), (2, .int p2)] := hl
  have h := hf
  unfold X4_lot at h
  refine lv_iload_n hx hb dX4_lot_0 rfl (lv_at hl 1 rfl) ?_
  refine lv_if_lt (tgt := 14) hx hb dX4_lot_1 (by decide) (fun c1 => ?_) (fun c1 => ?_)
  · have h := (if_pos c1).symm.trans h
    refine lv_ldc (v := (-1000001 : Int32)) hx hb hown (hts (.constant RX4 81 (-1000001)) (List.mem_of_getElem? (i := 1) rfl)) dX4_lot_14 ?_
    cases h
    exact endI hx hb hr hlocks hP hS rfl dX4_lot_16
  · have h := (if_neg c1).symm.trans h
    refine lv_iload_n hx hb dX4_lot_4 rfl (lv_at hl 2 rfl) ?_
    refine lv_if_lt (tgt := 14) hx hb dX4_lot_5 (by decide) (fun c2 => ?_) (fun c2 => ?_)
    · have h := (if_pos c2).symm.trans h
      refine lv_ldc (v := (-1000001 : Int32)) hx hb hown (hts (.constant RX4 81 (-1000001)) (List.mem_of_getElem? (i := 1) rfl)) dX4_lot_14 ?_
      cases h
      exact endI hx hb hr hlocks hP hS rfl dX4_lot_16
    · have h := (if_neg c2).symm.trans h
      refine lv_iload_n hx hb dX4_lot_8 rfl (lv_at hl 2 rfl) ?_
      refine lv_bipush (v := (6 : Int32)) hx hb dX4_lot_9 (by decide) ?_
      refine lv_icmp_lt (tgt := 17) hx hb dX4_lot_11 (by decide) (fun c3 => ?_) (fun c3 => ?_)
      · have h := (if_pos c3).symm.trans h
        refine lv_iload_n hx hb dX4_lot_17 rfl (lv_at hl 1 rfl) ?_
        refine lv_aload_n hx hb dX4_lot_18 rfl (lv_at hl 0 rfl) ?_
        refine va_get (D := D) (ci := 4) (v := .ref (adB 0)) (C := RX4) (T := TX4) (N := 5) hx hb hts iw_X4_lot_X4 hown hK hP 0 rfl rfl 0 (by decide) (hts (.fieldLink RX4 10 "FavourRings" "bank" "LFavourRings$Bank;") (List.mem_of_getElem? (i := 2) rfl)) (fun _ h9 => h9) rfl dX4_lot_19 ?_
        refine lv_iconst (v := (2 : Int32)) hx hb dX4_lot_22 (by decide) ?_
        obtain ⟨u4, eu4, h⟩ := bd_in h
        refine kI (va_runV (As := [.int (2 : Int32)]) (rest := [.int p1]) ⟨hx, hb, hml, hown, hts⟩ (c_X0_number l D cA cQ adB vB (2 : Int32) u4 eu4 _) (cwV 1 hts gX4_lot_X0_number rfl rfl rfl (by decide +kernel) ⟨Nat.le_of_ble_eq_true rfl, Nat.le_of_ble_eq_true rfl⟩) (pV (ci := 0) (q := (RX0, TX0, 13)) hK hN hP hD [1, 2, 3, 4, 5, 6, 7, 8, 9, 10, 11, 12, 13, 14] rfl rfl rfl rfl) rfl rfl hl.1 rfl (lv_room (Nat.le_of_ble_eq_true rfl)) dX4_lot_23 ⟨Nat.zero_le _, Nat.zero_le _⟩) hP hD hS hA [1, 2, 3, 4, 5, 6, 7, 8, 9, 10, 11, 12, 13, 14] rfl rfl (ws' := (wF cA cQ adF adB adT adH kH adR adO vB vT vH bH vR vO)) rfl (fun H locs hP hD hS => ?_)
        refine lv_icmp_ge (tgt := 41) hx hb dX4_lot_26 (by decide) (fun c5 => ?_) (fun c5 => ?_)
        · have h := (if_pos c5).symm.trans h
          refine lv_ldc (v := (-1000004 : Int32)) hx hb hown (hts (.constant RX4 98 (-1000004)) (List.mem_of_getElem? (i := 3) rfl)) dX4_lot_41 ?_
          cases h
          exact endI hx hb hr hlocks hP hS rfl dX4_lot_43
        · have h := (if_neg c5).symm.trans h
          refine lv_aload_n hx hb dX4_lot_29 rfl (lv_at hl 0 rfl) ?_
          refine va_get (D := D) (ci := 4) (v := .ref (adB 0)) (C := RX4) (T := TX4) (N := 5) hx hb hts iw_X4_lot_X4 hown hK hP 0 rfl rfl 0 (by decide) (hts (.fieldLink RX4 10 "FavourRings" "bank" "LFavourRings$Bank;") (List.mem_of_getElem? (i := 2) rfl)) (fun _ h9 => h9) rfl dX4_lot_30 ?_
          refine lv_iload_n hx hb dX4_lot_33 rfl (lv_at hl 1 rfl) ?_
          refine lv_iload_n hx hb dX4_lot_34 rfl (lv_at hl 2 rfl) ?_
          obtain ⟨u6, eu6, h⟩ := bd_in h
          refine kI (va_runV (As := [.int p1, .int p2]) (rest := []) ⟨hx, hb, hml, hown, hts⟩ (c_X0_tellOfLot l D cA cQ adB vB p1 p2 u6 eu6 _) (cwV 2 hts gX4_lot_X0_tellOfLot rfl rfl rfl (by decide +kernel) ⟨Nat.le_of_ble_eq_true rfl, Nat.le_of_ble_eq_true rfl⟩) (pV (ci := 0) (q := (RX0, TX0, 13)) hK hN hP hD [1, 2, 3, 4, 5, 6, 7, 8, 9, 10, 11, 12, 13, 14] rfl rfl rfl rfl) rfl rfl hl.1 rfl (lv_room (Nat.le_of_ble_eq_true rfl)) dX4_lot_35 ⟨Nat.zero_le _, Nat.zero_le _⟩) hP hD hS hA [1, 2, 3, 4, 5, 6, 7, 8, 9, 10, 11, 12, 13, 14] rfl rfl (ws' := (wF cA cQ adF adB adT adH kH adR adO vB vT vH bH vR vO)) rfl (fun H locs hP hD hS => ?_)
          refine lv_goto (tgt := 43) hx hb dX4_lot_38 (by decide) ?_
          cases h
          exact endI hx hb hr hlocks hP hS rfl dX4_lot_43
      · have h := (if_neg c3).symm.trans h
        refine lv_ldc (v := (-1000001 : Int32)) hx hb hown (hts (.constant RX4 81 (-1000001)) (List.mem_of_getElem? (i := 1) rfl)) dX4_lot_14 ?_
        cases h
        exact endI hx hb hr hlocks hP hS rfl dX4_lot_16
theorem iw_X0_isLotOf_X0 : ∀ w ∈ wsX00, w ∈ wsX0_isLotOf := fun _ h => List.mem_cons_of_mem _ (List.mem_append_right _ (h))
set_option maxHeartbeats 4000000 in
set_option maxRecDepth 100000 in
theorem c_X0_isLotOf (l : Launch) (D : va_G) (cA cQ : ClassId) (adB : Nat → Nat) (vB : St) (p1 : Int32) (p2 : Int32) (p3 : Int32) (p4 : Int32) (o : Int32) (hf : X0_isLotOf vB p1 p2 p3 p4 = some o) : Cti l yX0_isLotOf wsX0_isLotOf ({ frames := 0, cells := 0, slots := 0, locals := 0 }) D (TY cA cQ) [.ref (adB 0), .int p1, .int p2, .int p3, .int p4] (wB cA adB vB) (wB cA adB vB) o := by
  refine Wk.i (cc := cX0_isLotOf) (maxL := 5) (ret := (some .boolean)) (by decide) rfl (Nat.le_of_ble_eq_true rfl) ?_
  intro p e s m below meth c A ls hx hb hr hlocks hml hown hts hK hN hP hD hA hl
  have hown : s.vm.findClass RX0 = some m.cls := hown
  have hS : va_S A s.heap s.heap [] := va_S.rf
  have hl : lv_has ls 5 [(0, .ref (adB 0)), (1, .int p1), (2, .int p2), (3, .int p3), (4, .int p4)] := hl
  have B42 : ∀  (H : Heap) (locs : List Loc) (ls : Array Slot), X0_isLotOf_b42 vB p1 p2 p3 p4 = some o → va_P D vwCl (wB cA adB vB) H → va_D A (wB cA adB vB) → va_S A s.heap H locs → lv_has ls 5 [(0, .ref (adB 0)), (1, .int p1), (4, .int p4)] → W p l e (headSpec wsX0_isLotOf ({ frames := 0, cells := 0, slots := 0, locals := 0 })).room s m ([.ref (adB 0), .int p1, .int p2, .int p3, .int p4] : List Value).toArray below meth c H locs 0 0 (MQ below (QI D (wB cA adB vB) o A) ([.ref (adB 0), .int p1, .int p2, .int p3, .int p4] : List Value).toArray s 0 0 A) (F0 m 42 ls []) := by
    intro H locs ls h hP hD hS hl
    unfold X0_isLotOf_b42 at h
    refine lv_iload hx hb dX0_isLotOf_42 (lv_at hl 2 rfl) ?_
    refine lv_iconst (v := (-1 : Int32)) hx hb dX0_isLotOf_44 (by decide) ?_
    refine lv_icmp_eq (tgt := 59) hx hb dX0_isLotOf_45 (by decide) (fun c1 => ?_) (fun c1 => ?_)
    · have h := (if_pos c1).symm.trans h
      refine lv_iconst (v := (1 : Int32)) hx hb dX0_isLotOf_59 (by decide) ?_
      refine lv_goto (tgt := 64) hx hb dX0_isLotOf_60 (by decide) ?_
      cases h
      exact endZ hx hb hr hlocks hP hS ⟨rfl, rfl⟩ dX0_isLotOf_64
    · have h := (if_neg c1).symm.trans h
      refine lv_iload hx hb dX0_isLotOf_48 (lv_at hl 2 rfl) ?_
      refine lv_aload_n hx hb dX0_isLotOf_50 rfl (lv_at hl 0 rfl) ?_
      refine va_get (D := D) (ci := 0) (v := .ref (adB 10)) (C := RX0) (T := TX0) (N := 13) hx hb hts iw_X0_isLotOf_X0 hown hK hP 0 rfl rfl 9 (by decide) (hts (.fieldLink RX0 39 "FavourRings$Bank" "kinds" "[I") (List.mem_of_getElem? (i := 3) rfl)) (fun _ h9 => h9) rfl dX0_isLotOf_51 ?_
      refine lv_iload_n hx hb dX0_isLotOf_54 rfl (lv_at hl 1 rfl) ?_
      obtain ⟨y2, ey2, h⟩ := bd_in h
      refine ldR hx hb hK hP 10 0 rfl rfl ey2 dX0_isLotOf_55 ?_
      refine lv_icmp_ne (tgt := 63) hx hb dX0_isLotOf_56 (by decide) (fun c3 => ?_) (fun c3 => ?_)
      · have h := (if_neg c3).symm.trans h
        refine lv_iconst (v := (0 : Int32)) hx hb dX0_isLotOf_63 (by decide) ?_
        cases h
        exact endZ hx hb hr hlocks hP hS ⟨rfl, rfl⟩ dX0_isLotOf_64
      · have h := (if_pos c3).symm.trans h
        refine lv_iconst (v := (1 : Int32)) hx hb dX0_isLotOf_59 (by decide) ?_
        refine lv_goto (tgt := 64) hx hb dX0_isLotOf_60 (by decide) ?_
        cases h
        exact endZ hx hb hr hlocks hP hS ⟨rfl, rfl⟩ dX0_isLotOf_64
  have B27 : ∀  (H : Heap) (locs : List Loc) (ls : Array Slot), X0_isLotOf_b27 vB p1 p2 p3 p4 = some o → va_P D vwCl (wB cA adB vB) H → va_D A (wB cA adB vB) → va_S A s.heap H locs → lv_has ls 5 [(0, .ref (adB 0)), (1, .int p1), (3, .int p3), (4, .int p4)] → W p l e (headSpec wsX0_isLotOf ({ frames := 0, cells := 0, slots := 0, locals := 0 })).room s m ([.ref (adB 0), .int p1, .int p2, .int p3, .int p4] : List Value).toArray below meth c H locs 0 0 (MQ below (QI D (wB cA adB vB) o A) ([.ref (adB 0), .int p1, .int p2, .int p3, .int p4] : List Value).toArray s 0 0 A) (F0 m 27 ls []) := by
    intro H locs ls h hP hD hS hl
    unfold X0_isLotOf_b27 at h
    refine lv_iload_n hx hb dX0_isLotOf_27 rfl (lv_at hl 2 rfl) ?_
    refine lv_iconst (v := (-1 : Int32)) hx hb dX0_isLotOf_28 (by decide) ?_
    refine lv_icmp_eq (tgt := 42) hx hb dX0_isLotOf_29 (by decide) (fun c4 => ?_) (fun c4 => ?_)
    · have h := (if_pos c4).symm.trans h
      exact B42 _ _ _ h hP hD hS (lv_sub hl [0, 1, 3] rfl)
    · have h := (if_neg c4).symm.trans h
      refine lv_iload_n hx hb dX0_isLotOf_32 rfl (lv_at hl 2 rfl) ?_
      refine lv_aload_n hx hb dX0_isLotOf_33 rfl (lv_at hl 0 rfl) ?_
      refine va_get (D := D) (ci := 0) (v := .ref (adB 9)) (C := RX0) (T := TX0) (N := 13) hx hb hts iw_X0_isLotOf_X0 hown hK hP 0 rfl rfl 8 (by decide) (hts (.fieldLink RX0 36 "FavourRings$Bank" "creditors" "[I") (List.mem_of_getElem? (i := 2) rfl)) (fun _ h9 => h9) rfl dX0_isLotOf_34 ?_
      refine lv_iload_n hx hb dX0_isLotOf_37 rfl (lv_at hl 1 rfl) ?_
      obtain ⟨y5, ey5, h⟩ := bd_in h
      refine ldR hx hb hK hP 9 0 rfl rfl ey5 dX0_isLotOf_38 ?_
      refine lv_icmp_ne (tgt := 63) hx hb dX0_isLotOf_39 (by decide) (fun c6 => ?_) (fun c6 => ?_)
      · have h := (if_neg c6).symm.trans h
        refine lv_iconst (v := (0 : Int32)) hx hb dX0_isLotOf_63 (by decide) ?_
        cases h
        exact endZ hx hb hr hlocks hP hS ⟨rfl, rfl⟩ dX0_isLotOf_64
      · have h := (if_pos c6).symm.trans h
        exact B42 _ _ _ h hP hD hS (lv_sub hl [0, 1, 3] rfl)
  have h := hf
  unfold X0_isLotOf at h
  refine lv_iload_n hx hb dX0_isLotOf_0 rfl (lv_at hl 1 rfl) ?_
  refine lv_if_lt (tgt := 10) hx hb dX0_isLotOf_1 (by decide) (fun c7 => ?_) (fun c7 => ?_)
  · have h := (if_pos c7).symm.trans h
    refine lv_iconst (v := (0 : Int32)) hx hb dX0_isLotOf_10 (by decide) ?_
    cases h
    exact endZ hx hb hr hlocks hP hS ⟨rfl, rfl⟩ dX0_isLotOf_11
  · have h := (if_neg c7).symm.trans h
    refine lv_iload_n hx hb dX0_isLotOf_4 rfl (lv_at hl 1 rfl) ?_
    refine lv_bipush (v := (40 : Int32)) hx hb dX0_isLotOf_5 (by decide) ?_
    refine lv_icmp_lt (tgt := 12) hx hb dX0_isLotOf_7 (by decide) (fun c8 => ?_) (fun c8 => ?_)
    · have h := (if_pos c8).symm.trans h
      refine lv_iload_n hx hb dX0_isLotOf_12 rfl (lv_at hl 2 rfl) ?_
      refine lv_iconst (v := (-1 : Int32)) hx hb dX0_isLotOf_13 (by decide) ?_
      refine lv_icmp_eq (tgt := 27) hx hb dX0_isLotOf_14 (by decide) (fun c9 => ?_) (fun c9 => ?_)
      · have h := (if_pos c9).symm.trans h
        exact B27 _ _ _ h hP hD hS (lv_sub hl [0, 1, 3, 4] rfl)
      · have h := (if_neg c9).symm.trans h
        refine lv_iload_n hx hb dX0_isLotOf_17 rfl (lv_at hl 2 rfl) ?_
        refine lv_aload_n hx hb dX0_isLotOf_18 rfl (lv_at hl 0 rfl) ?_
        refine va_get (D := D) (ci := 0) (v := .ref (adB 8)) (C := RX0) (T := TX0) (N := 13) hx hb hts iw_X0_isLotOf_X0 hown hK hP 0 rfl rfl 7 (by decide) (hts (.fieldLink RX0 33 "FavourRings$Bank" "debtors" "[I") (List.mem_of_getElem? (i := 1) rfl)) (fun _ h9 => h9) rfl dX0_isLotOf_19 ?_
        refine lv_iload_n hx hb dX0_isLotOf_22 rfl (lv_at hl 1 rfl) ?_
        obtain ⟨y10, ey10, h⟩ := bd_in h
        refine ldR hx hb hK hP 8 0 rfl rfl ey10 dX0_isLotOf_23 ?_
        refine lv_icmp_ne (tgt := 63) hx hb dX0_isLotOf_24 (by decide) (fun c11 => ?_) (fun c11 => ?_)
        · have h := (if_neg c11).symm.trans h
          refine lv_iconst (v := (0 : Int32)) hx hb dX0_isLotOf_63 (by decide) ?_
          cases h
          exact endZ hx hb hr hlocks hP hS ⟨rfl, rfl⟩ dX0_isLotOf_64
        · have h := (if_pos c11).symm.trans h
          exact B27 _ _ _ h hP hD hS (lv_sub hl [0, 1, 3, 4] rfl)
    · have h := (if_neg c8).symm.trans h
      refine lv_iconst (v := (0 : Int32)) hx hb dX0_isLotOf_10 (by decide) ?_
      cases h
      exact endZ hx hb hr hlocks hP hS ⟨rfl, rfl⟩ dX0_isLotOf_11
theorem iw_X0_sumOwed_X0 : ∀ w ∈ wsX00, w ∈ wsX0_sumOwed := fun _ h => List.mem_cons_of_mem _ (List.mem_append_right _ (h))
set_option maxHeartbeats 4000000 in
set_option maxRecDepth 100000 in
theorem c_X0_sumOwed (l : Launch) (D : va_G) (cA cQ : ClassId) (adB : Nat → Nat) (vB : St) (p1 : Int32) (p2 : Int32) (p3 : Int32) (o : Int32) (hf : X0_sumOwed vB p1 p2 p3 = some o) : Cti l yX0_sumOwed wsX0_sumOwed ({ frames := 1, cells := 0, slots := 0, locals := 24 }) D (TY cA cQ) [.ref (adB 0), .int p1, .int p2, .int p3] (wB cA adB vB) (wB cA adB vB) o := by
  refine Wk.i (cc := cX0_sumOwed) (maxL := 6) (ret := (some .int)) (by decide) rfl (Nat.le_of_ble_eq_true rfl) ?_
  intro p e s m below meth c A ls hx hb hr hlocks hml hown hts hK hN hP hD hA hl
  have hown : s.vm.findClass RX0 = some m.cls := hown
  have hS : va_S A s.heap s.heap [] := va_S.rf
  have hl : lv_has ls 6 [(0, .ref (adB 0)), (1, .int p1), (2, .int p2), (3, .int p3)] := hl
  have B6 : ∀ (fu6 : Nat) (x4 : Int32) (x5 : Int32) (H : Heap) (locs : List Loc) (ls : Array Slot), X0_sumOwed_l6 vB p1 p2 p3 fu6 x4 x5 = some o → va_P D vwCl (wB cA adB vB) H → va_D A (wB cA adB vB) → va_S A s.heap H locs → lv_has ls 6 [(0, .ref (adB 0)), (1, .int p1), (2, .int p2), (3, .int p3), (4, .int x4), (5, .int x5)] → W p l e (headSpec wsX0_sumOwed ({ frames := 1, cells := 0, slots := 0, locals := 24 })).room s m ([.ref (adB 0), .int p1, .int p2, .int p3] : List Value).toArray below meth c H locs 0 0 (MQ below (QI D (wB cA adB vB) o A) ([.ref (adB 0), .int p1, .int p2, .int p3] : List Value).toArray s 0 0 A) (F0 m 6 ls []) := by
    intro fu6
    induction fu6 with
    | zero =>
      intro x4 x5 H locs ls h hP hD hS hl
      cases h
    | succ fu6 ih6 =>
      intro x4 x5 H locs ls h hP hD hS hl
      rw [X0_sumOwed_l6] at h
      refine lv_iload hx hb dX0_sumOwed_6 (lv_at hl 5 rfl) ?_
      refine lv_aload_n hx hb dX0_sumOwed_8 rfl (lv_at hl 0 rfl) ?_
      refine lv_iconst (v := (2 : Int32)) hx hb dX0_sumOwed_9 (by decide) ?_
      obtain ⟨u1, eu1, h⟩ := bd_in h
      refine kI (va_runV (As := [.int (2 : Int32)]) (rest := [.int x5]) ⟨hx, hb, hml, hown, hts⟩ (c_X0_number l D cA cQ adB vB (2 : Int32) u1 eu1 _) (cwV 1 hts gX0_sumOwed_X0_number rfl rfl rfl (by decide +kernel) ⟨Nat.le_of_ble_eq_true rfl, Nat.le_of_ble_eq_true rfl⟩) (pV (ci := 0) (q := (RX0, TX0, 13)) hK hN hP hD [0, 1, 2, 3, 4, 5, 6, 7, 8, 9, 10, 11, 12, 13] rfl rfl rfl rfl) rfl rfl hl.1 rfl (lv_room (Nat.le_of_ble_eq_true rfl)) dX0_sumOwed_10 ⟨Nat.zero_le _, Nat.zero_le _⟩) hP hD hS hA [0, 1, 2, 3, 4, 5, 6, 7, 8, 9, 10, 11, 12, 13] rfl rfl (ws' := (wB cA adB vB)) rfl (fun H locs hP hD hS => ?_)
      refine lv_icmp_ge (tgt := 48) hx hb dX0_sumOwed_13 (by decide) (fun c2 => ?_) (fun c2 => ?_)
      · have h := (if_pos c2).symm.trans h
        refine lv_iload hx hb dX0_sumOwed_48 (lv_at hl 4 rfl) ?_
        cases h
        exact endI hx hb hr hlocks hP hS rfl dX0_sumOwed_50
      · have h := (if_neg c2).symm.trans h
        refine lv_aload_n hx hb dX0_sumOwed_16 rfl (lv_at hl 0 rfl) ?_
        refine lv_iload hx hb dX0_sumOwed_17 (lv_at hl 5 rfl) ?_
        refine lv_iload_n hx hb dX0_sumOwed_19 rfl (lv_at hl 1 rfl) ?_
        refine lv_iload_n hx hb dX0_sumOwed_20 rfl (lv_at hl 2 rfl) ?_
        refine lv_iload_n hx hb dX0_sumOwed_21 rfl (lv_at hl 3 rfl) ?_
        obtain ⟨u3, eu3, h⟩ := bd_in h
        refine kI (va_runV (As := [.int x5, .int p1, .int p2, .int p3]) (rest := []) ⟨hx, hb, hml, hown, hts⟩ (c_X0_isLotOf l D cA cQ adB vB x5 p1 p2 p3 u3 eu3 _) (cwV 4 hts gX0_sumOwed_X0_isLotOf rfl rfl rfl (by decide +kernel) ⟨Nat.le_of_ble_eq_true rfl, Nat.le_of_ble_eq_true rfl⟩) (pV (ci := 0) (q := (RX0, TX0, 13)) hK hN hP hD [0, 1, 2, 3, 4, 5, 6, 7, 8, 9, 10, 11, 12, 13] rfl rfl rfl rfl) rfl rfl hl.1 rfl (lv_room (Nat.le_of_ble_eq_true rfl)) dX0_sumOwed_22 ⟨Nat.zero_le _, Nat.zero_le _⟩) hP hD hS hA [0, 1, 2, 3, 4, 5, 6, 7, 8, 9, 10, 11, 12, 13] rfl rfl (ws' := (wB cA adB vB)) rfl (fun H locs hP hD hS => ?_)
        refine lv_if_eq (tgt := 42) hx hb dX0_sumOwed_25 (by decide) (fun c4 => ?_) (fun c4 => ?_)
        · have h := (if_pos c4).symm.trans h
          refine lv_iinc (v := (x5 + (1 : Int32))) (lv' := [(5, .int (x5 + (1 : Int32))), (0, .ref (adB 0)), (1, .int p1), (2, .int p2), (3, .int p3), (4, .int x4)]) hx hb dX0_sumOwed_42 hl (k := 5) rfl rfl (by decide) rfl (fun ls hl => ?_)
          refine lv_goto (tgt := 6) hx hb dX0_sumOwed_45 (by decide) ?_
          exact ih6 x4 (x5 + (1 : Int32)) _ _ _ h hP hD hS (lv_sub hl [1, 2, 3, 4, 5, 0] rfl)
        · have h := (if_neg c4).symm.trans h
          refine lv_iload hx hb dX0_sumOwed_28 (lv_at hl 4 rfl) ?_
          refine lv_aload_n hx hb dX0_sumOwed_30 rfl (lv_at hl 0 rfl) ?_
          refine va_get (D := D) (ci := 0) (v := .ref (adB 11)) (C := RX0) (T := TX0) (N := 13) hx hb hts iw_X0_sumOwed_X0 hown hK hP 0 rfl rfl 10 (by decide) (hts (.fieldLink RX0 42 "FavourRings$Bank" "sizes" "[I") (List.mem_of_getElem? (i := 1) rfl)) (fun _ h9 => h9) rfl dX0_sumOwed_31 ?_
          refine lv_iload hx hb dX0_sumOwed_34 (lv_at hl 5 rfl) ?_
          obtain ⟨u5, eu5, h⟩ := bd_in h
          refine kI (va_runSN (As := [.ref (adB 11), .int x5]) (rest := [.int x4]) ⟨hx, hb, hml, hown, hts⟩ (c_X4_at l D cA cQ (adB 11) 40 (vB 11) x5 u5 eu5 _) ⟨va_cnB 2 hts gX0_sumOwed_X4_at_n77 rfl rfl rfl hN.2.2.2.1 (hts (.initialized RX4) (List.mem_of_getElem? (i := 16) rfl)) (by decide +kernel) ⟨Nat.le_of_ble_eq_true rfl, Nat.le_of_ble_eq_true rfl⟩, (hts (.static yX4_at) (List.mem_of_getElem? (i := 15) rfl)), trivial⟩ (pS hK hN hP hD [11] rfl rfl) rfl rfl hl.1 rfl (lv_room (Nat.le_of_ble_eq_true rfl)) dX0_sumOwed_36 ⟨Nat.zero_le _, Nat.zero_le _⟩) hP hD hS hA [11] rfl rfl (ws' := (wB cA adB vB)) rfl (fun H locs hP hD hS => ?_)
          refine lv_iadd hx hb dX0_sumOwed_39 ?_
          refine lv_istore (lv' := [(4, .int (x4 + u5)), (0, .ref (adB 0)), (1, .int p1), (2, .int p2), (3, .int p3), (5, .int x5)]) hx hb dX0_sumOwed_40 hl (by decide) rfl (fun ls hl => ?_)
          refine lv_iinc (v := (x5 + (1 : Int32))) (lv' := [(5, .int (x5 + (1 : Int32))), (4, .int (x4 + u5)), (0, .ref (adB 0)), (1, .int p1), (2, .int p2), (3, .int p3)]) hx hb dX0_sumOwed_42 hl (k := 5) rfl rfl (by decide) rfl (fun ls hl => ?_)
          refine lv_goto (tgt := 6) hx hb dX0_sumOwed_45 (by decide) ?_
          exact ih6 (x4 + u5) (x5 + (1 : Int32)) _ _ _ h hP hD hS (lv_sub hl [2, 3, 4, 5, 1, 0] rfl)
  have h := hf
  unfold X0_sumOwed at h
  refine lv_iconst (v := (0 : Int32)) hx hb dX0_sumOwed_0 (by decide) ?_
  refine lv_istore (lv' := [(4, .int (0 : Int32)), (0, .ref (adB 0)), (1, .int p1), (2, .int p2), (3, .int p3)]) hx hb dX0_sumOwed_1 hl (by decide) rfl (fun ls hl => ?_)
  refine lv_iconst (v := (0 : Int32)) hx hb dX0_sumOwed_3 (by decide) ?_
  refine lv_istore (lv' := [(5, .int (0 : Int32)), (4, .int (0 : Int32)), (0, .ref (adB 0)), (1, .int p1), (2, .int p2), (3, .int p3)]) hx hb dX0_sumOwed_4 hl (by decide) rfl (fun ls hl => ?_)
  exact B6 FU (0 : Int32) (0 : Int32) _ _ _ h hP hD hS (lv_sub hl [2, 3, 4, 5, 1, 0] rfl)
theorem iw_X0_guarantorOf_X0 : ∀ w ∈ wsX00, w ∈ wsX0_guarantorOf := fun _ h => List.mem_cons_of_mem _ (List.mem_append_right _ (h))
set_option maxHeartbeats 4000000 in
set_option maxRecDepth 100000 in
theorem c_X0_guarantorOf (l : Launch) (D : va_G) (cA cQ : ClassId) (adB : Nat → Nat) (vB : St) (p1 : Int32) (o : Int32) (hf : X0_guarantorOf vB p1 = some o) : Cti l yX0_guarantorOf wsX0_guarantorOf ({ frames := 0, cells := 0, slots := 0, locals := 0 }) D (TY cA cQ) [.ref (adB 0), .int p1] (wB cA adB vB) (wB cA adB vB) o := by
  refine Wk.i (cc := cX0_guarantorOf) (maxL := 2) (ret := (some .int)) (by decide) rfl (Nat.le_of_ble_eq_true rfl) ?_
  intro p e s m below meth c A ls hx hb hr hlocks hml hown hts hK hN hP hD hA hl
  have hown : s.vm.findClass RX0 = some m.cls := hown
  have hS : va_S A s.heap s.heap [] := va_S.rf
  have hl : lv_has ls 2 [(0, .ref (adB 0)), (1, .int p1)] := hl
  have h := hf
  unfold X0_guarantorOf at h
  refine lv_iload_n hx hb dX0_guarantorOf_0 rfl (lv_at hl 1 rfl) ?_
  refine lv_if_lt (tgt := 24) hx hb dX0_guarantorOf_1 (by decide) (fun c1 => ?_) (fun c1 => ?_)
  · have h := (if_pos c1).symm.trans h
    refine lv_iconst (v := (-1 : Int32)) hx hb dX0_guarantorOf_24 (by decide) ?_
    cases h
    exact endI hx hb hr hlocks hP hS rfl dX0_guarantorOf_25
  · have h := (if_neg c1).symm.trans h
    refine lv_iload_n hx hb dX0_guarantorOf_4 rfl (lv_at hl 1 rfl) ?_
    refine lv_aload_n hx hb dX0_guarantorOf_5 rfl (lv_at hl 0 rfl) ?_
    refine va_get (D := D) (ci := 0) (v := .ref (adB 5)) (C := RX0) (T := TX0) (N := 13) hx hb hts iw_X0_guarantorOf_X0 hown hK hP 0 rfl rfl 4 (by decide) (hts (.fieldLink RX0 24 "FavourRings$Bank" "guarantors" "[I") (List.mem_of_getElem? (i := 1) rfl)) (fun _ h9 => h9) rfl dX0_guarantorOf_6 ?_
    refine va_alen hx hb hK hP 5 0 rfl rfl (v := (8 : Int32)) rfl dX0_guarantorOf_9 ?_
    refine lv_icmp_ge (tgt := 24) hx hb dX0_guarantorOf_10 (by decide) (fun c2 => ?_) (fun c2 => ?_)
    · have h := (if_pos c2).symm.trans h
      refine lv_iconst (v := (-1 : Int32)) hx hb dX0_guarantorOf_24 (by decide) ?_
      cases h
      exact endI hx hb hr hlocks hP hS rfl dX0_guarantorOf_25
    · have h := (if_neg c2).symm.trans h
      refine lv_aload_n hx hb dX0_guarantorOf_13 rfl (lv_at hl 0 rfl) ?_
      refine va_get (D := D) (ci := 0) (v := .ref (adB 5)) (C := RX0) (T := TX0) (N := 13) hx hb hts iw_X0_guarantorOf_X0 hown hK hP 0 rfl rfl 4 (by decide) (hts (.fieldLink RX0 24 "FavourRings$Bank" "guarantors" "[I") (List.mem_of_getElem? (i := 1) rfl)) (fun _ h9 => h9) rfl dX0_guarantorOf_14 ?_
      refine lv_iload_n hx hb dX0_guarantorOf_17 rfl (lv_at hl 1 rfl) ?_
      obtain ⟨y3, ey3, h⟩ := bd_in h
      refine ldR hx hb hK hP 5 0 rfl rfl ey3 dX0_guarantorOf_18 ?_
      refine lv_iconst (v := (1 : Int32)) hx hb dX0_guarantorOf_19 (by decide) ?_
      refine lv_isub hx hb dX0_guarantorOf_20 ?_
      refine lv_goto (tgt := 25) hx hb dX0_guarantorOf_21 (by decide) ?_
      cases h
      exact endI hx hb hr hlocks hP hS rfl dX0_guarantorOf_25
set_option maxHeartbeats 4000000 in
set_option maxRecDepth 100000 in
theorem c_X0_setWithoutGuarantor (l : Launch) (D : va_G) (cA cQ : ClassId) (adB : Nat → Nat) (vB : St) (o : Int32) (hf : X0_setWithoutGuarantor vB = some o) : Cti l yX0_setWithoutGuarantor wsX0_setWithoutGuarantor ({ frames := 1, cells := 0, slots := 0, locals := 21 }) D (TY cA cQ) [.ref (adB 0)] (wB cA adB vB) (wB cA adB vB) o := by
  refine Wk.i (cc := cX0_setWithoutGuarantor) (maxL := 3) (ret := (some .int)) (by decide) rfl (Nat.le_of_ble_eq_true rfl) ?_
  intro p e s m below meth c A ls hx hb hr hlocks hml hown hts hK hN hP hD hA hl
  have hown : s.vm.findClass RX0 = some m.cls := hown
  have hS : va_S A s.heap s.heap [] := va_S.rf
  have hl : lv_has ls 3 [(0, .ref (adB 0))] := hl
  have B4 : ∀ (fu4 : Nat) (x1 : Int32) (x2 : Int32) (H : Heap) (locs : List Loc) (ls : Array Slot), X0_setWithoutGuarantor_l4 vB fu4 x1 x2 = some o → va_P D vwCl (wB cA adB vB) H → va_D A (wB cA adB vB) → va_S A s.heap H locs → lv_has ls 3 [(0, .ref (adB 0)), (1, .int x1), (2, .int x2)] → W p l e (headSpec wsX0_setWithoutGuarantor ({ frames := 1, cells := 0, slots := 0, locals := 21 })).room s m ([.ref (adB 0)] : List Value).toArray below meth c H locs 0 0 (MQ below (QI D (wB cA adB vB) o A) ([.ref (adB 0)] : List Value).toArray s 0 0 A) (F0 m 4 ls []) := by
    intro fu4
    induction fu4 with
    | zero =>
      intro x1 x2 H locs ls h hP hD hS hl
      cases h
    | succ fu4 ih4 =>
      intro x1 x2 H locs ls h hP hD hS hl
      rw [X0_setWithoutGuarantor_l4] at h
      refine lv_iload_n hx hb dX0_setWithoutGuarantor_4 rfl (lv_at hl 2 rfl) ?_
      refine lv_aload_n hx hb dX0_setWithoutGuarantor_5 rfl (lv_at hl 0 rfl) ?_
      refine lv_iconst (v := (1 : Int32)) hx hb dX0_setWithoutGuarantor_6 (by decide) ?_
      obtain ⟨u1, eu1, h⟩ := bd_in h
      refine kI (va_runV (As := [.int (1 : Int32)]) (rest := [.int x2]) ⟨hx, hb, hml, hown, hts⟩ (c_X0_number l D cA cQ adB vB (1 : Int32) u1 eu1 _) (cwV 1 hts gX0_setWithoutGuarantor_X0_number rfl rfl rfl (by decide +kernel) ⟨Nat.le_of_ble_eq_true rfl, Nat.le_of_ble_eq_true rfl⟩) (pV (ci := 0) (q := (RX0, TX0, 13)) hK hN hP hD [0, 1, 2, 3, 4, 5, 6, 7, 8, 9, 10, 11, 12, 13] rfl rfl rfl rfl) rfl rfl hl.1 rfl (lv_room (Nat.le_of_ble_eq_true rfl)) dX0_setWithoutGuarantor_7 ⟨Nat.zero_le _, Nat.zero_le _⟩) hP hD hS hA [0, 1, 2, 3, 4, 5, 6, 7, 8, 9, 10, 11, 12, 13] rfl rfl (ws' := (wB cA adB vB)) rfl (fun H locs hP hD hS => ?_)
      refine lv_icmp_ge (tgt := 33) hx hb dX0_setWithoutGuarantor_10 (by decide) (fun c2 => ?_) (fun c2 => ?_)
      · have h := (if_pos c2).symm.trans h
        refine lv_iload_n hx hb dX0_setWithoutGuarantor_33 rfl (lv_at hl 1 rfl) ?_
        cases h
        exact endI hx hb hr hlocks hP hS rfl dX0_setWithoutGuarantor_34
      · have h := (if_neg c2).symm.trans h
        refine lv_aload_n hx hb dX0_setWithoutGuarantor_13 rfl (lv_at hl 0 rfl) ?_
        refine lv_iload_n hx hb dX0_setWithoutGuarantor_14 rfl (lv_at hl 2 rfl) ?_
        obtain ⟨u3, eu3, h⟩ := bd_in h
        refine kI (va_runV (As := [.int x2]) (rest := []) ⟨hx, hb, hml, hown, hts⟩ (c_X0_guarantorOf l D cA cQ adB vB x2 u3 eu3 _) (cwV 1 hts gX0_setWithoutGuarantor_X0_guarantorOf rfl rfl rfl (by decide +kernel) ⟨Nat.le_of_ble_eq_true rfl, Nat.le_of_ble_eq_true rfl⟩) (pV (ci := 0) (q := (RX0, TX0, 13)) hK hN hP hD [0, 1, 2, 3, 4, 5, 6, 7, 8, 9, 10, 11, 12, 13] rfl rfl rfl rfl) rfl rfl hl.1 rfl (lv_room (Nat.le_of_ble_eq_true rfl)) dX0_setWithoutGuarantor_15 ⟨Nat.zero_le _, Nat.zero_le _⟩) hP hD hS hA [0, 1, 2, 3, 4, 5, 6, 7, 8, 9, 10, 11, 12, 13] rfl rfl (ws' := (wB cA adB vB)) rfl (fun H locs hP hD hS => ?_)
        refine lv_if_ge (tgt := 27) hx hb dX0_setWithoutGuarantor_18 (by decide) (fun c4 => ?_) (fun c4 => ?_)
        · have h := (if_pos c4).symm.trans h
          refine lv_iinc (v := (x2 + (1 : Int32))) (lv' := [(2, .int (x2 + (1 : Int32))), (0, .ref (adB 0)), (1, .int x1)]) hx hb dX0_setWithoutGuarantor_27 hl (k := 2) rfl rfl (by decide) rfl (fun ls hl => ?_)
          refine lv_goto (tgt := 4) hx hb dX0_setWithoutGuarantor_30 (by decide) ?_
          exact ih4 x1 (x2 + (1 : Int32)) _ _ _ h hP hD hS (lv_sub hl [1, 2, 0] rfl)
        · have h := (if_neg c4).symm.trans h
          refine lv_iload_n hx hb dX0_setWithoutGuarantor_21 rfl (lv_at hl 1 rfl) ?_
          refine lv_iconst (v := (1 : Int32)) hx hb dX0_setWithoutGuarantor_22 (by decide) ?_
          refine lv_iload_n hx hb dX0_setWithoutGuarantor_23 rfl (lv_at hl 2 rfl) ?_
          refine lv_ishl hx hb dX0_setWithoutGuarantor_24 ?_
          refine lv_ior hx hb dX0_setWithoutGuarantor_25 ?_
          refine lv_istore_n (lv' := [(1, .int (x1 ||| ((1 : Int32) <<< (x2 &&& 31)))), (0, .ref (adB 0)), (2, .int x2)]) hx hb dX0_setWithoutGuarantor_26 rfl hl (by decide) rfl (fun ls hl => ?_)
          refine lv_iinc (v := (x2 + (1 : Int32))) (lv' := [(2, .int (x2 + (1 : Int32))), (1, .int (x1 ||| ((1 : Int32) <<< (x2 &&& 31)))), (0, .ref (adB 0))]) hx hb dX0_setWithoutGuarantor_27 hl (k := 2) rfl rfl (by decide) rfl (fun ls hl => ?_)
          refine lv_goto (tgt := 4) hx hb dX0_setWithoutGuarantor_30 (by decide) ?_
          exact ih4 (x1 ||| ((1 : Int32) <<< (x2 &&& 31))) (x2 + (1 : Int32)) _ _ _ h hP hD hS (lv_sub hl [2, 1, 0] rfl)
  have h := hf
  unfold X0_setWithoutGuarantor at h
  refine lv_iconst (v := (0 : Int32)) hx hb dX0_setWithoutGuarantor_0 (by decide) ?_
  refine lv_istore_n (lv' := [(1, .int (0 : Int32)), (0, .ref (adB 0))]) hx hb dX0_setWithoutGuarantor_1 rfl hl (by decide) rfl (fun ls hl => ?_)
  refine lv_iconst (v := (0 : Int32)) hx hb dX0_setWithoutGuarantor_2 (by decide) ?_
  refine lv_istore_n (lv' := [(2, .int (0 : Int32)), (1, .int (0 : Int32)), (0, .ref (adB 0))]) hx hb dX0_setWithoutGuarantor_3 rfl hl (by decide) rfl (fun ls hl => ?_)
  exact B4 FU (0 : Int32) (0 : Int32) _ _ _ h hP hD hS (lv_sub hl [2, 1, 0] rfl)
theorem iw_X1_size_X1 : ∀ w ∈ wsX10, w ∈ wsX1_size := fun _ h => List.mem_cons_of_mem _ (List.mem_append_right _ (h))
set_option maxHeartbeats 4000000 in
set_option maxRecDepth 100000 in
theorem c_X1_size (l : Launch) (D : va_G) (cA cQ : ClassId) (adH : Nat → Nat) (kH : Nat → Nat → Nat) (vH : St) (bH : Nat → St) (o : Int32) (hf : X1_size vH bH = some o) : Cti l yX1_size wsX1_size ({ frames := 0, cells := 0, slots := 0, locals := 0 }) D (TY cA cQ) [.ref (adH 0)] (wH cA cQ adH vH kH bH) (wH cA cQ adH vH kH bH) o := by
  refine Wk.i (cc := cX1_size) (maxL := 1) (ret := (some .int)) (by decide) rfl (Nat.le_of_ble_eq_true rfl) ?_
  intro p e s m below meth c A ls hx hb hr hlocks hml hown hts hK hN hP hD hA hl
  have hown : s.vm.findClass RX1 = some m.cls := hown
  have hS : va_S A s.heap s.heap [] := va_S.rf
  have hl : lv_has ls 1 [(0, .ref (adH 0))] := hl
  have h := hf
  unfold X1_size at h
  refine lv_aload_n hx hb dX1_size_0 rfl (lv_at hl 0 rfl) ?_
  refine va_get (D := D) (ci := 1) (v := .int (vH 99 1)) (C := RX1) (T := TX1) (N := 2) hx hb hts iw_X1_size_X1 hown hK hP 0 rfl rfl 1 (by decide) (hts (.fieldLink RX1 18 "FavourRings$History" "size" "I") (List.mem_of_getElem? (i := 1) rfl)) (fun _ h9 => h9) rfl dX1_size_1 ?_
  cases h
  exact endI hx hb hr hlocks hP hS rfl dX1_size_4
theorem iw_X2_length_X2 : ∀ w ∈ wsX20, w ∈ wsX2_length := fun _ h => List.mem_cons_of_mem _ (List.mem_append_right _ (h))
set_option maxHeartbeats 4000000 in
set_option maxRecDepth 100000 in
theorem c_X2_length (l : Launch) (D : va_G) (cA cQ : ClassId) (adO : Nat → Nat) (vO : St) (o : Int32) (hf : X2_length vO = some o) : Cti l yX2_length wsX2_length ({ frames := 0, cells := 0, slots := 0, locals := 0 }) D (TY cA cQ) [.ref (adO 0)] (wO cA adO vO) (wO cA adO vO) o := by
  refine Wk.i (cc := cX2_length) (maxL := 1) (ret := (some .int)) (by decide) rfl (Nat.le_of_ble_eq_true rfl) ?_
  intro p e s m below meth c A ls hx hb hr hlocks hml hown hts hK hN hP hD hA hl
  have hown : s.vm.findClass RX2 = some m.cls := hown
  have hS : va_S A s.heap s.heap [] := va_S.rf
  have hl : lv_has ls 1 [(0, .ref (adO 0))] := hl
  have h := hf
  unfold X2_length at h
  refine lv_aload_n hx hb dX2_length_0 rfl (lv_at hl 0 rfl) ?_
  refine va_get (D := D) (ci := 2) (v := .int (vO 99 2)) (C := RX2) (T := TX2) (N := 8) hx hb hts iw_X2_length_X2 hown hK hP 0 rfl rfl 2 (by decide) (hts (.fieldLink RX2 18 "FavourRings$Orders" "length" "I") (List.mem_of_getElem? (i := 1) rfl)) (fun _ h9 => h9) rfl dX2_length_1 ?_
  cases h
  exact endI hx hb hr hlocks hP hS rfl dX2_length_4
theorem iw_X4_count_X4 : ∀ w ∈ wsX40, w ∈ wsX4_count := fun _ h => List.mem_cons_of_mem _ (List.mem_append_left _ (List.mem_append_left _ (List.mem_append_left _ (List.mem_append_right _ (h)))))
set_option maxHeartbeats 4000000 in
set_option maxRecDepth 100000 in
theorem c_X4_count (l : Launch) (D : va_G) (cA cQ : ClassId) (adF : Nat) (adB : Nat → Nat) (adT : Nat → Nat) (adH : Nat → Nat) (kH : Nat → Nat → Nat) (adR : Nat → Nat) (adO : Nat → Nat) (vB : St) (vT : St) (vH : St) (bH : Nat → St) (vR : St) (vO : St) (p1 : Int32) (o : Int32) (hf : X4_count vB vT vH bH vR vO p1 = some o) : Cti l yX4_count wsX4_count ({ frames := 2, cells := 0, slots := 0, locals := 49 }) D (TY cA cQ) [.ref adF, .int p1] (wF cA cQ adF adB adT adH kH adR adO vB vT vH bH vR vO) (wF cA cQ adF adB adT adH kH adR adO vB vT vH bH vR vO) o := by
  refine Wk.i (cc := cX4_count) (maxL := 2) (ret := (some .int)) (by decide) rfl (Nat.le_of_ble_eq_true rfl) ?_
  intro p e s m below meth c A ls hx hb hr hlocks hml hown hts hK hN hP hD hA hl
  have hown : s.vm.findClass RX4 = some m.cls := hown
  have hS : va_S A s.heap s.heap [] := va_S.rf
  have hl : lv_has ls 2 [(0, .ref adF), (1, .int p1)] := hl
  have B16 : ∀  (H : Heap) (locs : List Loc) (ls : Array Slot), X4_count_b16 vB vT vH bH vR vO p1 = some o → va_P D vwCl (wF cA cQ adF adB adT adH kH adR adO vB vT vH bH vR vO) H → va_D A (wF cA cQ adF adB adT adH kH adR adO vB vT vH bH vR vO) → va_S A s.heap H locs → lv_has ls 2 [(0, .ref adF), (1, .int p1)] → W p l e (headSpec wsX4_count ({ frames := 2, cells := 0, slots := 0, locals := 49 })).room s m ([.ref adF, .int p1] : List Value).toArray below meth c H locs 0 0 (MQ below (QI D (wF cA cQ adF adB adT adH kH adR adO vB vT vH bH vR vO) o A) ([.ref adF, .int p1] : List Value).toArray s 0 0 A) (F0 m 16 ls []) := by
    intro H locs ls h hP hD hS hl
    unfold X4_count_b16 at h
    refine lv_iload_n hx hb dX4_count_16 rfl (lv_at hl 1 rfl) ?_
    refine lv_bipush (v := (26 : Int32)) hx hb dX4_count_17 (by decide) ?_
    refine lv_icmp_lt (tgt := 25) hx hb dX4_count_19 (by decide) (fun c1 => ?_) (fun c1 => ?_)
    · have h := (if_pos c1).symm.trans h
      refine lv_iload_n hx hb dX4_count_25 rfl (lv_at hl 1 rfl) ?_
      by_cases c2 : p1 = (3 : Int32)
      · have h := (if_pos c2).symm.trans h
        refine lv_lookup (off := 42) (tgt := 68) hx hb dX4_count_26 (by decide +kernel) (by rw [c2]; decide +kernel) (by decide) ?_
        refine lv_aload_n hx hb dX4_count_68 rfl (lv_at hl 0 rfl) ?_
        refine va_get (D := D) (ci := 4) (v := .ref (adB 0)) (C := RX4) (T := TX4) (N := 5) hx hb hts iw_X4_count_X4 hown hK hP 0 rfl rfl 0 (by decide) (hts (.fieldLink RX4 10 "FavourRings" "bank" "LFavourRings$Bank;") (List.mem_of_getElem? (i := 2) rfl)) (fun _ h9 => h9) rfl dX4_count_69 ?_
        refine lv_iconst (v := (-1 : Int32)) hx hb dX4_count_72 (by decide) ?_
        refine lv_iconst (v := (-1 : Int32)) hx hb dX4_count_73 (by decide) ?_
        refine lv_iconst (v := (-1 : Int32)) hx hb dX4_count_74 (by decide) ?_
        obtain ⟨u3, eu3, h⟩ := bd_in h
        refine kI (va_runV (As := [.int (-1 : Int32), .int (-1 : Int32), .int (-1 : Int32)]) (rest := []) ⟨hx, hb, hml, hown, hts⟩ (c_X0_sumOwed l D cA cQ adB vB (-1 : Int32) (-1 : Int32) (-1 : Int32) u3 eu3 _) (cwV 3 hts gX4_count_X0_sumOwed rfl rfl rfl (by decide +kernel) ⟨Nat.le_of_ble_eq_true rfl, Nat.le_of_ble_eq_true rfl⟩) (pV (ci := 0) (q := (RX0, TX0, 13)) hK hN hP hD [1, 2, 3, 4, 5, 6, 7, 8, 9, 10, 11, 12, 13, 14] rfl rfl rfl rfl) rfl rfl hl.1 rfl (lv_room (Nat.le_of_ble_eq_true rfl)) dX4_count_75 ⟨Nat.zero_le _, Nat.zero_le _⟩) hP hD hS hA [1, 2, 3, 4, 5, 6, 7, 8, 9, 10, 11, 12, 13, 14] rfl rfl (ws' := (wF cA cQ adF adB adT adH kH adR adO vB vT vH bH vR vO)) rfl (fun H locs hP hD hS => ?_)
        cases h
        exact endI hx hb hr hlocks hP hS rfl dX4_count_78
      have h := (if_neg c2).symm.trans h
      by_cases c4 : p1 = (11 : Int32)
      · have h := (if_pos c4).symm.trans h
        refine lv_lookup (off := 53) (tgt := 79) hx hb dX4_count_26 (by decide +kernel) (by rw [c4]; decide +kernel) (by decide) ?_
        refine lv_aload_n hx hb dX4_count_79 rfl (lv_at hl 0 rfl) ?_
        refine va_get (D := D) (ci := 4) (v := .ref (adB 0)) (C := RX4) (T := TX4) (N := 5) hx hb hts iw_X4_count_X4 hown hK hP 0 rfl rfl 0 (by decide) (hts (.fieldLink RX4 10 "FavourRings" "bank" "LFavourRings$Bank;") (List.mem_of_getElem? (i := 2) rfl)) (fun _ h9 => h9) rfl dX4_count_80 ?_
        obtain ⟨u5, eu5, h⟩ := bd_in h
        refine kI (va_runV (As := []) (rest := []) ⟨hx, hb, hml, hown, hts⟩ (c_X0_setWithoutGuarantor l D cA cQ adB vB u5 eu5 _) (cwV 0 hts gX4_count_X0_setWithoutGuarantor rfl rfl rfl (by decide +kernel) ⟨Nat.le_of_ble_eq_true rfl, Nat.le_of_ble_eq_true rfl⟩) (pV (ci := 0) (q := (RX0, TX0, 13)) hK hN hP hD [1, 2, 3, 4, 5, 6, 7, 8, 9, 10, 11, 12, 13, 14] rfl rfl rfl rfl) rfl rfl hl.1 rfl (lv_room (Nat.le_of_ble_eq_true rfl)) dX4_count_83 ⟨Nat.zero_le _, Nat.zero_le _⟩) hP hD hS hA [1, 2, 3, 4, 5, 6, 7, 8, 9, 10, 11, 12, 13, 14] rfl rfl (ws' := (wF cA cQ adF adB adT adH kH adR adO vB vT vH bH vR vO)) rfl (fun H locs hP hD hS => ?_)
        cases h
        exact endI hx hb hr hlocks hP hS rfl dX4_count_86
      have h := (if_neg c4).symm.trans h
      by_cases c6 : p1 = (12 : Int32)
      · have h := (if_pos c6).symm.trans h
        refine lv_lookup (off := 61) (tgt := 87) hx hb dX4_count_26 (by decide +kernel) (by rw [c6]; decide +kernel) (by decide) ?_
        refine lv_aload_n hx hb dX4_count_87 rfl (lv_at hl 0 rfl) ?_
        refine va_get (D := D) (ci := 4) (v := .ref (adH 0)) (C := RX4) (T := TX4) (N := 5) hx hb hts iw_X4_count_X4 hown hK hP 0 rfl rfl 2 (by decide) (hts (.fieldLink RX4 22 "FavourRings" "history" "LFavourRings$History;") (List.mem_of_getElem? (i := 3) rfl)) (fun _ h9 => h9) rfl dX4_count_88 ?_
        obtain ⟨u7, eu7, h⟩ := bd_in h
        refine kI (va_runV (As := []) (rest := []) ⟨hx, hb, hml, hown, hts⟩ (c_X1_size l D cA cQ adH kH vH bH u7 eu7 _) (cwV 0 hts gX4_count_X1_size rfl rfl rfl (by decide +kernel) ⟨Nat.le_of_ble_eq_true rfl, Nat.le_of_ble_eq_true rfl⟩) (pV (ci := 1) (q := (RX1, TX1, 2)) hK hN hP hD [29, 30, 31, 32, 33, 34, 35, 36, 37, 38, 39, 40, 41, 42, 43, 44, 45, 46, 47, 48, 49, 50, 51, 52, 53, 54, 55, 56, 57, 58, 59, 60, 61, 62, 63, 64, 65, 66, 67, 68, 69, 70, 71, 72, 73, 74, 75, 76, 77, 78, 79, 80, 81, 82, 83, 84, 85, 86] rfl rfl rfl rfl) rfl rfl hl.1 rfl (lv_room (Nat.le_of_ble_eq_true rfl)) dX4_count_91 ⟨Nat.zero_le _, Nat.zero_le _⟩) hP hD hS hA [29, 30, 31, 32, 33, 34, 35, 36, 37, 38, 39, 40, 41, 42, 43, 44, 45, 46, 47, 48, 49, 50, 51, 52, 53, 54, 55, 56, 57, 58, 59, 60, 61, 62, 63, 64, 65, 66, 67, 68, 69, 70, 71, 72, 73, 74, 75, 76, 77, 78, 79, 80, 81, 82, 83, 84, 85, 86] rfl rfl (ws' := (wF cA cQ adF adB adT adH kH adR adO vB vT vH bH vR vO)) rfl (fun H locs hP hD hS => ?_)
        cases h
        exact endI hx hb hr hlocks hP hS rfl dX4_count_94
      have h := (if_neg c6).symm.trans h
      by_cases c8 : p1 = (13 : Int32)
      · have h := (if_pos c8).symm.trans h
        refine lv_lookup (off := 69) (tgt := 95) hx hb dX4_count_26 (by decide +kernel) (by rw [c8]; decide +kernel) (by decide) ?_
        refine lv_aload_n hx hb dX4_count_95 rfl (lv_at hl 0 rfl) ?_
        refine va_get (D := D) (ci := 4) (v := .ref (adO 0)) (C := RX4) (T := TX4) (N := 5) hx hb hts iw_X4_count_X4 hown hK hP 0 rfl rfl 4 (by decide) (hts (.fieldLink RX4 36 "FavourRings" "orders" "LFavourRings$Orders;") (List.mem_of_getElem? (i := 4) rfl)) (fun _ h9 => h9) rfl dX4_count_96 ?_
        obtain ⟨u9, eu9, h⟩ := bd_in h
        refine kI (va_runV (As := []) (rest := []) ⟨hx, hb, hml, hown, hts⟩ (c_X2_length l D cA cQ adO vO u9 eu9 _) (cwV 0 hts gX4_count_X2_length rfl rfl rfl (by decide +kernel) ⟨Nat.le_of_ble_eq_true rfl, Nat.le_of_ble_eq_true rfl⟩) (pV (ci := 2) (q := (RX2, TX2, 8)) hK hN hP hD [92, 93, 94] rfl rfl rfl rfl) rfl rfl hl.1 rfl (lv_room (Nat.le_of_ble_eq_true rfl)) dX4_count_99 ⟨Nat.zero_le _, Nat.zero_le _⟩) hP hD hS hA [92, 93, 94] rfl rfl (ws' := (wF cA cQ adF adB adT adH kH adR adO vB vT vH bH vR vO)) rfl (fun H locs hP hD hS => ?_)
        cases h
        exact endI hx hb hr hlocks hP hS rfl dX4_count_102
      have h := (if_neg c8).symm.trans h
      have nc2 : (p1).toInt ≠ 3 := ne_toInt c2
      have nc4 : (p1).toInt ≠ 11 := ne_toInt c4
      have nc6 : (p1).toInt ≠ 12 := ne_toInt c6
      have nc8 : (p1).toInt ≠ 13 := ne_toInt c8
      refine lv_lookup (off := 77) (tgt := 103) hx hb dX4_count_26 (by decide +kernel) (by simp [Op.lookupswitch.offset, nc2.symm, nc4.symm, nc6.symm, nc8.symm]) (by decide) ?_
      refine lv_aload_n hx hb dX4_count_103 rfl (lv_at hl 0 rfl) ?_
      refine va_get (D := D) (ci := 4) (v := .ref (adB 0)) (C := RX4) (T := TX4) (N := 5) hx hb hts iw_X4_count_X4 hown hK hP 0 rfl rfl 0 (by decide) (hts (.fieldLink RX4 10 "FavourRings" "bank" "LFavourRings$Bank;") (List.mem_of_getElem? (i := 2) rfl)) (fun _ h9 => h9) rfl dX4_count_104 ?_
      refine lv_iload_n hx hb dX4_count_107 rfl (lv_at hl 1 rfl) ?_
      obtain ⟨u10, eu10, h⟩ := bd_in h
      refine kI (va_runV (As := [.int p1]) (rest := []) ⟨hx, hb, hml, hown, hts⟩ (c_X0_number l D cA cQ adB vB p1 u10 eu10 _) (cwV 1 hts gX4_count_X0_number rfl rfl rfl (by decide +kernel) ⟨Nat.le_of_ble_eq_true rfl, Nat.le_of_ble_eq_true rfl⟩) (pV (ci := 0) (q := (RX0, TX0, 13)) hK hN hP hD [1, 2, 3, 4, 5, 6, 7, 8, 9, 10, 11, 12, 13, 14] rfl rfl rfl rfl) rfl rfl hl.1 rfl (lv_room (Nat.le_of_ble_eq_true rfl)) dX4_count_108 ⟨Nat.zero_le _, Nat.zero_le _⟩) hP hD hS hA [1, 2, 3, 4, 5, 6, 7, 8, 9, 10, 11, 12, 13, 14] rfl rfl (ws' := (wF cA cQ adF adB adT adH kH adR adO vB vT vH bH vR vO)) rfl (fun H locs hP hD hS => ?_)
      cases h
      exact endI hx hb hr hlocks hP hS rfl dX4_count_111
    · have h := (if_neg c1).symm.trans h
      refine lv_ldc (v := (-1000001 : Int32)) hx hb hown (hts (.constant RX4 81 (-1000001)) (List.mem_of_getElem? (i := 1) rfl)) dX4_count_22 ?_
      cases h
      exact endI hx hb hr hlocks hP hS rfl dX4_count_24
  have h := hf
  unfold X4_count at h
  refine lv_iload_n hx hb dX4_count_0 rfl (lv_at hl 1 rfl) ?_
  refine lv_if_lt (tgt := 22) hx hb dX4_count_1 (by decide) (fun c11 => ?_) (fun c11 => ?_)
  · have h := (if_pos c11).symm.trans h
    refine lv_ldc (v := (-1000001 : Int32)) hx hb hown (hts (.constant RX4 81 (-1000001)) (List.mem_of_getElem? (i := 1) rfl)) dX4_count_22 ?_
    cases h
    exact endI hx hb hr hlocks hP hS rfl dX4_count_24
  · have h := (if_neg c11).symm.trans h
    refine lv_iload_n hx hb dX4_count_4 rfl (lv_at hl 1 rfl) ?_
    refine lv_bipush (v := (13 : Int32)) hx hb dX4_count_5 (by decide) ?_
    refine lv_icmp_le (tgt := 16) hx hb dX4_count_7 (by decide) (fun c12 => ?_) (fun c12 => ?_)
    · have h := (if_pos c12).symm.trans h
      exact B16 _ _ _ h hP hD hS (lv_sub hl [0, 1] rfl)
    · have h := (if_neg c12).symm.trans h
      refine lv_iload_n hx hb dX4_count_10 rfl (lv_at hl 1 rfl) ?_
      refine lv_bipush (v := (20 : Int32)) hx hb dX4_count_11 (by decide) ?_
      refine lv_icmp_lt (tgt := 22) hx hb dX4_count_13 (by decide) (fun c13 => ?_) (fun c13 => ?_)
      · have h := (if_pos c13).symm.trans h
        refine lv_ldc (v := (-1000001 : Int32)) hx hb hown (hts (.constant RX4 81 (-1000001)) (List.mem_of_getElem? (i := 1) rfl)) dX4_count_22 ?_
        cases h
        exact endI hx hb hr hlocks hP hS rfl dX4_count_24
      · have h := (if_neg c13).symm.trans h
        exact B16 _ _ _ h hP hD hS (lv_sub hl [0, 1] rfl)
set_option maxHeartbeats 4000000 in
set_option maxRecDepth 100000 in
theorem c_X0_isPupil (l : Launch) (D : va_G) (cA cQ : ClassId) (adB : Nat → Nat) (vB : St) (p1 : Int32) (o : Int32) (hf : X0_isPupil vB p1 = some o) : Cti l yX0_isPupil wsX0_isPupil ({ frames := 1, cells := 0, slots := 0, locals := 21 }) D (TY cA cQ) [.ref (adB 0), .int p1] (wB cA adB vB) (wB cA adB vB) o := by
  refine Wk.i (cc := cX0_isPupil) (maxL := 2) (ret := (some .boolean)) (by decide) rfl (Nat.le_of_ble_eq_true rfl) ?_
  intro p e s m below meth c A ls hx hb hr hlocks hml hown hts hK hN hP hD hA hl
  have hown : s.vm.findClass RX0 = some m.cls := hown
  have hS : va_S A s.heap s.heap [] := va_S.rf
  have hl : lv_has ls 2 [(0, .ref (adB 0)), (1, .int p1)] := hl
  have h := hf
  unfold X0_isPupil at h
  refine lv_iload_n hx hb dX0_isPupil_0 rfl (lv_at hl 1 rfl) ?_
  refine lv_if_lt (tgt := 17) hx hb dX0_isPupil_1 (by decide) (fun c1 => ?_) (fun c1 => ?_)
  · have h := (if_pos c1).symm.trans h
    refine lv_iconst (v := (0 : Int32)) hx hb dX0_isPupil_17 (by decide) ?_
    cases h
    exact endZ hx hb hr hlocks hP hS ⟨rfl, rfl⟩ dX0_isPupil_18
  · have h := (if_neg c1).symm.trans h
    refine lv_iload_n hx hb dX0_isPupil_4 rfl (lv_at hl 1 rfl) ?_
    refine lv_aload_n hx hb dX0_isPupil_5 rfl (lv_at hl 0 rfl) ?_
    refine lv_iconst (v := (1 : Int32)) hx hb dX0_isPupil_6 (by decide) ?_
    obtain ⟨u2, eu2, h⟩ := bd_in h
    refine kI (va_runV (As := [.int (1 : Int32)]) (rest := [.int p1]) ⟨hx, hb, hml, hown, hts⟩ (c_X0_number l D cA cQ adB vB (1 : Int32) u2 eu2 _) (cwV 1 hts gX0_isPupil_X0_number rfl rfl rfl (by decide +kernel) ⟨Nat.le_of_ble_eq_true rfl, Nat.le_of_ble_eq_true rfl⟩) (pV (ci := 0) (q := (RX0, TX0, 13)) hK hN hP hD [0, 1, 2, 3, 4, 5, 6, 7, 8, 9, 10, 11, 12, 13] rfl rfl rfl rfl) rfl rfl hl.1 rfl (lv_room (Nat.le_of_ble_eq_true rfl)) dX0_isPupil_7 ⟨Nat.zero_le _, Nat.zero_le _⟩) hP hD hS hA [0, 1, 2, 3, 4, 5, 6, 7, 8, 9, 10, 11, 12, 13] rfl rfl (ws' := (wB cA adB vB)) rfl (fun H locs hP hD hS => ?_)
    refine lv_icmp_ge (tgt := 17) hx hb dX0_isPupil_10 (by decide) (fun c3 => ?_) (fun c3 => ?_)
    · have h := (if_pos c3).symm.trans h
      refine lv_iconst (v := (0 : Int32)) hx hb dX0_isPupil_17 (by decide) ?_
      cases h
      exact endZ hx hb hr hlocks hP hS ⟨rfl, rfl⟩ dX0_isPupil_18
    · have h := (if_neg c3).symm.trans h
      refine lv_iconst (v := (1 : Int32)) hx hb dX0_isPupil_13 (by decide) ?_
      refine lv_goto (tgt := 18) hx hb dX0_isPupil_14 (by decide) ?_
      cases h
      exact endZ hx hb hr hlocks hP hS ⟨rfl, rfl⟩ dX0_isPupil_18
set_option maxHeartbeats 4000000 in
set_option maxRecDepth 100000 in
theorem c_X0_balanceByLots (l : Launch) (D : va_G) (cA cQ : ClassId) (adB : Nat → Nat) (vB : St) (p1 : Int32) (o : Int32) (hf : X0_balanceByLots vB p1 = some o) : Cti l yX0_balanceByLots wsX0_balanceByLots ({ frames := 2, cells := 0, slots := 0, locals := 49 }) D (TY cA cQ) [.ref (adB 0), .int p1] (wB cA adB vB) (wB cA adB vB) o := by
  refine Wk.i (cc := cX0_balanceByLots) (maxL := 2) (ret := (some .int)) (by decide) rfl (Nat.le_of_ble_eq_true rfl) ?_
  intro p e s m below meth c A ls hx hb hr hlocks hml hown hts hK hN hP hD hA hl
  have hown : s.vm.findClass RX0 = some m.cls := hown
  have hS : va_S A s.heap s.heap [] := va_S.rf
  have hl : lv_has ls 2 [(0, .ref (adB 0)), (1, .int p1)] := hl
  have h := hf
  unfold X0_balanceByLots at h
  refine lv_aload_n hx hb dX0_balanceByLots_0 rfl (lv_at hl 0 rfl) ?_
  refine lv_iconst (v := (-1 : Int32)) hx hb dX0_balanceByLots_1 (by decide) ?_
  refine lv_iload_n hx hb dX0_balanceByLots_2 rfl (lv_at hl 1 rfl) ?_
  refine lv_iconst (v := (-1 : Int32)) hx hb dX0_balanceByLots_3 (by decide) ?_
  obtain ⟨u1, eu1, h⟩ := bd_in h
  refine kI (va_runV (As := [.int (-1 : Int32), .int p1, .int (-1 : Int32)]) (rest := []) ⟨hx, hb, hml, hown, hts⟩ (c_X0_sumOwed l D cA cQ adB vB (-1 : Int32) p1 (-1 : Int32) u1 eu1 _) (cwV 3 hts gX0_balanceByLots_X0_sumOwed rfl rfl rfl (by decide +kernel) ⟨Nat.le_of_ble_eq_true rfl, Nat.le_of_ble_eq_true rfl⟩) (pV (ci := 0) (q := (RX0, TX0, 13)) hK hN hP hD [0, 1, 2, 3, 4, 5, 6, 7, 8, 9, 10, 11, 12, 13] rfl rfl rfl rfl) rfl rfl hl.1 rfl (lv_room (Nat.le_of_ble_eq_true rfl)) dX0_balanceByLots_4 ⟨Nat.zero_le _, Nat.zero_le _⟩) hP hD hS hA [0, 1, 2, 3, 4, 5, 6, 7, 8, 9, 10, 11, 12, 13] rfl rfl (ws' := (wB cA adB vB)) rfl (fun H locs hP hD hS => ?_)
  refine lv_aload_n hx hb dX0_balanceByLots_7 rfl (lv_at hl 0 rfl) ?_
  refine lv_iload_n hx hb dX0_balanceByLots_8 rfl (lv_at hl 1 rfl) ?_
  refine lv_iconst (v := (-1 : Int32)) hx hb dX0_balanceByLots_9 (by decide) ?_
  refine lv_iconst (v := (-1 : Int32)) hx hb dX0_balanceByLots_10 (by decide) ?_
  obtain ⟨u2, eu2, h⟩ := bd_in h
  refine kI (va_runV (As := [.int p1, .int (-1 : Int32), .int (-1 : Int32)]) (rest := [.int u1]) ⟨hx, hb, hml, hown, hts⟩ (c_X0_sumOwed l D cA cQ adB vB p1 (-1 : Int32) (-1 : Int32) u2 eu2 _) (cwV 3 hts gX0_balanceByLots_X0_sumOwed rfl rfl rfl (by decide +kernel) ⟨Nat.le_of_ble_eq_true rfl, Nat.le_of_ble_eq_true rfl⟩) (pV (ci := 0) (q := (RX0, TX0, 13)) hK hN hP hD [0, 1, 2, 3, 4, 5, 6, 7, 8, 9, 10, 11, 12, 13] rfl rfl rfl rfl) rfl rfl hl.1 rfl (lv_room (Nat.le_of_ble_eq_true rfl)) dX0_balanceByLots_11 ⟨Nat.zero_le _, Nat.zero_le _⟩) hP hD hS hA [0, 1, 2, 3, 4, 5, 6, 7, 8, 9, 10, 11, 12, 13] rfl rfl (ws' := (wB cA adB vB)) rfl (fun H locs hP hD hS => ?_)
  refine lv_isub hx hb dX0_balanceByLots_14 ?_
  cases h
  exact endI hx hb hr hlocks hP hS rfl dX0_balanceByLots_15
theorem iw_X0_tellOfPupil_X0 : ∀ w ∈ wsX00, w ∈ wsX0_tellOfPupil := fun _ h => List.mem_cons_of_mem _ (List.mem_append_right _ (h))
set_option maxHeartbeats 4000000 in
set_option maxRecDepth 100000 in
theorem c_X0_tellOfPupil (l : Launch) (D : va_G) (cA cQ : ClassId) (adB : Nat → Nat) (vB : St) (p1 : Int32) (p2 : Int32) (o : Int32) (hf : X0_tellOfPupil vB p1 p2 = some o) : Cti l yX0_tellOfPupil wsX0_tellOfPupil ({ frames := 3, cells := 0, slots := 0, locals := 70 }) D (TY cA cQ) [.ref (adB 0), .int p1, .int p2] (wB cA adB vB) (wB cA adB vB) o := by
  refine Wk.i (cc := cX0_tellOfPupil) (maxL := 3) (ret := (some .int)) (by decide) rfl (Nat.le_of_ble_eq_true rfl) ?_
  intro p e s m below meth c A ls hx hb hr hlocks hml hown hts hK hN hP hD hA hl
  have hown : s.vm.findClass RX0 = some m.cls := hown
  have hS : va_S A s.heap s.heap [] := va_S.rf
  have hl : lv_has ls 3 [(0, .ref (adB 0)), (1, .int p1), (2, .int p2)] := hl
  have h := hf
  unfold X0_tellOfPupil at h
  refine lv_iload_n hx hb dX0_tellOfPupil_0 rfl (lv_at hl 2 rfl) ?_
  by_cases c1 : p2 = (0 : Int32)
  · have h := (if_pos c1).symm.trans h
    refine lv_tableIn (off := 47) (tgt := 48) hx hb dX0_tellOfPupil_1 (by rw [c1]; decide +kernel) (by rw [c1]; decide +kernel) (by rw [c1]; decide +kernel) (by decide) ?_
    refine lv_aload_n hx hb dX0_tellOfPupil_48 rfl (lv_at hl 0 rfl) ?_
    refine lv_iload_n hx hb dX0_tellOfPupil_49 rfl (lv_at hl 1 rfl) ?_
    refine lv_iconst (v := (-1 : Int32)) hx hb dX0_tellOfPupil_50 (by decide) ?_
    refine lv_iconst (v := (-1 : Int32)) hx hb dX0_tellOfPupil_51 (by decide) ?_
    obtain ⟨u2, eu2, h⟩ := bd_in h
    refine kI (va_runV (As := [.int p1, .int (-1 : Int32), .int (-1 : Int32)]) (rest := []) ⟨hx, hb, hml, hown, hts⟩ (c_X0_sumOwed l D cA cQ adB vB p1 (-1 : Int32) (-1 : Int32) u2 eu2 _) (cwV 3 hts gX0_tellOfPupil_X0_sumOwed rfl rfl rfl (by decide +kernel) ⟨Nat.le_of_ble_eq_true rfl, Nat.le_of_ble_eq_true rfl⟩) (pV (ci := 0) (q := (RX0, TX0, 13)) hK hN hP hD [0, 1, 2, 3, 4, 5, 6, 7, 8, 9, 10, 11, 12, 13] rfl rfl rfl rfl) rfl rfl hl.1 rfl (lv_room (Nat.le_of_ble_eq_true rfl)) dX0_tellOfPupil_52 ⟨Nat.zero_le _, Nat.zero_le _⟩) hP hD hS hA [0, 1, 2, 3, 4, 5, 6, 7, 8, 9, 10, 11, 12, 13] rfl rfl (ws' := (wB cA adB vB)) rfl (fun H locs hP hD hS => ?_)
    cases h
    exact endI hx hb hr hlocks hP hS rfl dX0_tellOfPupil_55
  have h := (if_neg c1).symm.trans h
  by_cases c3 : p2 = (1 : Int32)
  · have h := (if_pos c3).symm.trans h
    refine lv_tableIn (off := 55) (tgt := 56) hx hb dX0_tellOfPupil_1 (by rw [c3]; decide +kernel) (by rw [c3]; decide +kernel) (by rw [c3]; decide +kernel) (by decide) ?_
    refine lv_aload_n hx hb dX0_tellOfPupil_56 rfl (lv_at hl 0 rfl) ?_
    refine lv_iconst (v := (-1 : Int32)) hx hb dX0_tellOfPupil_57 (by decide) ?_
    refine lv_iload_n hx hb dX0_tellOfPupil_58 rfl (lv_at hl 1 rfl) ?_
    refine lv_iconst (v := (-1 : Int32)) hx hb dX0_tellOfPupil_59 (by decide) ?_
    obtain ⟨u4, eu4, h⟩ := bd_in h
    refine kI (va_runV (As := [.int (-1 : Int32), .int p1, .int (-1 : Int32)]) (rest := []) ⟨hx, hb, hml, hown, hts⟩ (c_X0_sumOwed l D cA cQ adB vB (-1 : Int32) p1 (-1 : Int32) u4 eu4 _) (cwV 3 hts gX0_tellOfPupil_X0_sumOwed rfl rfl rfl (by decide +kernel) ⟨Nat.le_of_ble_eq_true rfl, Nat.le_of_ble_eq_true rfl⟩) (pV (ci := 0) (q := (RX0, TX0, 13)) hK hN hP hD [0, 1, 2, 3, 4, 5, 6, 7, 8, 9, 10, 11, 12, 13] rfl rfl rfl rfl) rfl rfl hl.1 rfl (lv_room (Nat.le_of_ble_eq_true rfl)) dX0_tellOfPupil_60 ⟨Nat.zero_le _, Nat.zero_le _⟩) hP hD hS hA [0, 1, 2, 3, 4, 5, 6, 7, 8, 9, 10, 11, 12, 13] rfl rfl (ws' := (wB cA adB vB)) rfl (fun H locs hP hD hS => ?_)
    cases h
    exact endI hx hb hr hlocks hP hS rfl dX0_tellOfPupil_63
  have h := (if_neg c3).symm.trans h
  by_cases c5 : p2 = (2 : Int32)
  · have h := (if_pos c5).symm.trans h
    refine lv_tableIn (off := 63) (tgt := 64) hx hb dX0_tellOfPupil_1 (by rw [c5]; decide +kernel) (by rw [c5]; decide +kernel) (by rw [c5]; decide +kernel) (by decide) ?_
    refine lv_sipush (v := (1000 : Int32)) hx hb dX0_tellOfPupil_64 (by decide) ?_
    refine lv_aload_n hx hb dX0_tellOfPupil_67 rfl (lv_at hl 0 rfl) ?_
    refine lv_iload_n hx hb dX0_tellOfPupil_68 rfl (lv_at hl 1 rfl) ?_
    obtain ⟨u6, eu6, h⟩ := bd_in h
    refine kI (va_runV (As := [.int p1]) (rest := [.int (1000 : Int32)]) ⟨hx, hb, hml, hown, hts⟩ (c_X0_balanceByLots l D cA cQ adB vB p1 u6 eu6 _) (cwV 1 hts gX0_tellOfPupil_X0_balanceByLots rfl rfl rfl (by decide +kernel) ⟨Nat.le_of_ble_eq_true rfl, Nat.le_of_ble_eq_true rfl⟩) (pV (ci := 0) (q := (RX0, TX0, 13)) hK hN hP hD [0, 1, 2, 3, 4, 5, 6, 7, 8, 9, 10, 11, 12, 13] rfl rfl rfl rfl) rfl rfl hl.1 rfl (lv_room (Nat.le_of_ble_eq_true rfl)) dX0_tellOfPupil_69 ⟨Nat.zero_le _, Nat.zero_le _⟩) hP hD hS hA [0, 1, 2, 3, 4, 5, 6, 7, 8, 9, 10, 11, 12, 13] rfl rfl (ws' := (wB cA adB vB)) rfl (fun H locs hP hD hS => ?_)
    refine lv_iadd hx hb dX0_tellOfPupil_72 ?_
    cases h
    exact endI hx hb hr hlocks hP hS rfl dX0_tellOfPupil_73
  have h := (if_neg c5).symm.trans h
  by_cases c7 : p2 = (3 : Int32)
  · have h := (if_pos c7).symm.trans h
    refine lv_tableIn (off := 73) (tgt := 74) hx hb dX0_tellOfPupil_1 (by rw [c7]; decide +kernel) (by rw [c7]; decide +kernel) (by rw [c7]; decide +kernel) (by decide) ?_
    refine lv_sipush (v := (1000 : Int32)) hx hb dX0_tellOfPupil_74 (by decide) ?_
    refine lv_aload_n hx hb dX0_tellOfPupil_77 rfl (lv_at hl 0 rfl) ?_
    refine va_get (D := D) (ci := 0) (v := .ref (adB 2)) (C := RX0) (T := TX0) (N := 13) hx hb hts iw_X0_tellOfPupil_X0 hown hK hP 0 rfl rfl 1 (by decide) (hts (.fieldLink RX0 15 "FavourRings$Bank" "came" "[I") (List.mem_of_getElem? (i := 1) rfl)) (fun _ h9 => h9) rfl dX0_tellOfPupil_78 ?_
    refine lv_iload_n hx hb dX0_tellOfPupil_81 rfl (lv_at hl 1 rfl) ?_
    obtain ⟨u8, eu8, h⟩ := bd_in h
    refine kI (va_runSN (As := [.ref (adB 2), .int p1]) (rest := [.int (1000 : Int32)]) ⟨hx, hb, hml, hown, hts⟩ (c_X4_at l D cA cQ (adB 2) 8 (vB 2) p1 u8 eu8 _) ⟨va_cnB 2 hts gX0_tellOfPupil_X4_at_n77 rfl rfl rfl hN.2.2.2.1 (hts (.initialized RX4) (List.mem_of_getElem? (i := 26) rfl)) (by decide +kernel) ⟨Nat.le_of_ble_eq_true rfl, Nat.le_of_ble_eq_true rfl⟩, (hts (.static yX4_at) (List.mem_of_getElem? (i := 25) rfl)), trivial⟩ (pS hK hN hP hD [2] rfl rfl) rfl rfl hl.1 rfl (lv_room (Nat.le_of_ble_eq_true rfl)) dX0_tellOfPupil_82 ⟨Nat.zero_le _, Nat.zero_le _⟩) hP hD hS hA [2] rfl rfl (ws' := (wB cA adB vB)) rfl (fun H locs hP hD hS => ?_)
    refine lv_iadd hx hb dX0_tellOfPupil_85 ?_
    cases h
    exact endI hx hb hr hlocks hP hS rfl dX0_tellOfPupil_86
  have h := (if_neg c7).symm.trans h
  by_cases c9 : p2 = (4 : Int32)
  · have h := (if_pos c9).symm.trans h
    refine lv_tableIn (off := 86) (tgt := 87) hx hb dX0_tellOfPupil_1 (by rw [c9]; decide +kernel) (by rw [c9]; decide +kernel) (by rw [c9]; decide +kernel) (by decide) ?_
    refine lv_aload_n hx hb dX0_tellOfPupil_87 rfl (lv_at hl 0 rfl) ?_
    refine va_get (D := D) (ci := 0) (v := .ref (adB 3)) (C := RX0) (T := TX0) (N := 13) hx hb hts iw_X0_tellOfPupil_X0 hown hK hP 0 rfl rfl 2 (by decide) (hts (.fieldLink RX0 18 "FavourRings$Bank" "done" "[I") (List.mem_of_getElem? (i := 2) rfl)) (fun _ h9 => h9) rfl dX0_tellOfPupil_88 ?_
    refine lv_iload_n hx hb dX0_tellOfPupil_91 rfl (lv_at hl 1 rfl) ?_
    obtain ⟨u10, eu10, h⟩ := bd_in h
    refine kI (va_runSN (As := [.ref (adB 3), .int p1]) (rest := []) ⟨hx, hb, hml, hown, hts⟩ (c_X4_at l D cA cQ (adB 3) 8 (vB 3) p1 u10 eu10 _) ⟨va_cnB 2 hts gX0_tellOfPupil_X4_at_n77 rfl rfl rfl hN.2.2.2.1 (hts (.initialized RX4) (List.mem_of_getElem? (i := 26) rfl)) (by decide +kernel) ⟨Nat.le_of_ble_eq_true rfl, Nat.le_of_ble_eq_true rfl⟩, (hts (.static yX4_at) (List.mem_of_getElem? (i := 25) rfl)), trivial⟩ (pS hK hN hP hD [3] rfl rfl) rfl rfl hl.1 rfl (lv_room (Nat.le_of_ble_eq_true rfl)) dX0_tellOfPupil_92 ⟨Nat.zero_le _, Nat.zero_le _⟩) hP hD hS hA [3] rfl rfl (ws' := (wB cA adB vB)) rfl (fun H locs hP hD hS => ?_)
    cases h
    exact endI hx hb hr hlocks hP hS rfl dX0_tellOfPupil_95
  have h := (if_neg c9).symm.trans h
  by_cases c11 : p2 = (5 : Int32)
  · have h := (if_pos c11).symm.trans h
    refine lv_tableIn (off := 95) (tgt := 96) hx hb dX0_tellOfPupil_1 (by rw [c11]; decide +kernel) (by rw [c11]; decide +kernel) (by rw [c11]; decide +kernel) (by decide) ?_
    refine lv_aload_n hx hb dX0_tellOfPupil_96 rfl (lv_at hl 0 rfl) ?_
    refine va_get (D := D) (ci := 0) (v := .ref (adB 4)) (C := RX0) (T := TX0) (N := 13) hx hb hts iw_X0_tellOfPupil_X0 hown hK hP 0 rfl rfl 3 (by decide) (hts (.fieldLink RX0 21 "FavourRings$Bank" "spoiled" "[I") (List.mem_of_getElem? (i := 3) rfl)) (fun _ h9 => h9) rfl dX0_tellOfPupil_97 ?_
    refine lv_iload_n hx hb dX0_tellOfPupil_100 rfl (lv_at hl 1 rfl) ?_
    obtain ⟨u12, eu12, h⟩ := bd_in h
    refine kI (va_runSN (As := [.ref (adB 4), .int p1]) (rest := []) ⟨hx, hb, hml, hown, hts⟩ (c_X4_at l D cA cQ (adB 4) 8 (vB 4) p1 u12 eu12 _) ⟨va_cnB 2 hts gX0_tellOfPupil_X4_at_n77 rfl rfl rfl hN.2.2.2.1 (hts (.initialized RX4) (List.mem_of_getElem? (i := 26) rfl)) (by decide +kernel) ⟨Nat.le_of_ble_eq_true rfl, Nat.le_of_ble_eq_true rfl⟩, (hts (.static yX4_at) (List.mem_of_getElem? (i := 25) rfl)), trivial⟩ (pS hK hN hP hD [4] rfl rfl) rfl rfl hl.1 rfl (lv_room (Nat.le_of_ble_eq_true rfl)) dX0_tellOfPupil_101 ⟨Nat.zero_le _, Nat.zero_le _⟩) hP hD hS hA [4] rfl rfl (ws' := (wB cA adB vB)) rfl (fun H locs hP hD hS => ?_)
    cases h
    exact endI hx hb hr hlocks hP hS rfl dX0_tellOfPupil_104
  have h := (if_neg c11).symm.trans h
  by_cases c13 : p2 = (6 : Int32)
  · have h := (if_pos c13).symm.trans h
    refine lv_tableIn (off := 104) (tgt := 105) hx hb dX0_tellOfPupil_1 (by rw [c13]; decide +kernel) (by rw [c13]; decide +kernel) (by rw [c13]; decide +kernel) (by decide) ?_
    refine lv_aload_n hx hb dX0_tellOfPupil_105 rfl (lv_at hl 0 rfl) ?_
    refine lv_iload_n hx hb dX0_tellOfPupil_106 rfl (lv_at hl 1 rfl) ?_
    obtain ⟨u14, eu14, h⟩ := bd_in h
    refine kI (va_runV (As := [.int p1]) (rest := []) ⟨hx, hb, hml, hown, hts⟩ (c_X0_guarantorOf l D cA cQ adB vB p1 u14 eu14 _) (cwV 1 hts gX0_tellOfPupil_X0_guarantorOf rfl rfl rfl (by decide +kernel) ⟨Nat.le_of_ble_eq_true rfl, Nat.le_of_ble_eq_true rfl⟩) (pV (ci := 0) (q := (RX0, TX0, 13)) hK hN hP hD [0, 1, 2, 3, 4, 5, 6, 7, 8, 9, 10, 11, 12, 13] rfl rfl rfl rfl) rfl rfl hl.1 rfl (lv_room (Nat.le_of_ble_eq_true rfl)) dX0_tellOfPupil_107 ⟨Nat.zero_le _, Nat.zero_le _⟩) hP hD hS hA [0, 1, 2, 3, 4, 5, 6, 7, 8, 9, 10, 11, 12, 13] rfl rfl (ws' := (wB cA adB vB)) rfl (fun H locs hP hD hS => ?_)
    refine lv_if_lt (tgt := 121) hx hb dX0_tellOfPupil_110 (by decide) (fun c15 => ?_) (fun c15 => ?_)
    · have h := (if_pos c15).symm.trans h
      refine lv_ldc (v := (-1000004 : Int32)) hx hb hown (hts (.constant RX0 84 (-1000004)) (List.mem_of_getElem? (i := 4) rfl)) dX0_tellOfPupil_121 ?_
      cases h
      exact endI hx hb hr hlocks hP hS rfl dX0_tellOfPupil_123
    · have h := (if_neg c15).symm.trans h
      refine lv_aload_n hx hb dX0_tellOfPupil_113 rfl (lv_at hl 0 rfl) ?_
      refine lv_iload_n hx hb dX0_tellOfPupil_114 rfl (lv_at hl 1 rfl) ?_
      obtain ⟨u16, eu16, h⟩ := bd_in h
      refine kI (va_runV (As := [.int p1]) (rest := []) ⟨hx, hb, hml, hown, hts⟩ (c_X0_guarantorOf l D cA cQ adB vB p1 u16 eu16 _) (cwV 1 hts gX0_tellOfPupil_X0_guarantorOf rfl rfl rfl (by decide +kernel) ⟨Nat.le_of_ble_eq_true rfl, Nat.le_of_ble_eq_true rfl⟩) (pV (ci := 0) (q := (RX0, TX0, 13)) hK hN hP hD [0, 1, 2, 3, 4, 5, 6, 7, 8, 9, 10, 11, 12, 13] rfl rfl rfl rfl) rfl rfl hl.1 rfl (lv_room (Nat.le_of_ble_eq_true rfl)) dX0_tellOfPupil_115 ⟨Nat.zero_le _, Nat.zero_le _⟩) hP hD hS hA [0, 1, 2, 3, 4, 5, 6, 7, 8, 9, 10, 11, 12, 13] rfl rfl (ws' := (wB cA adB vB)) rfl (fun H locs hP hD hS => ?_)
      refine lv_goto (tgt := 123) hx hb dX0_tellOfPupil_118 (by decide) ?_
      cases h
      exact endI hx hb hr hlocks hP hS rfl dX0_tellOfPupil_123
  have h := (if_neg c13).symm.trans h
  by_cases c17 : p2 = (7 : Int32)
  · have h := (if_pos c17).symm.trans h
    refine lv_tableIn (off := 123) (tgt := 124) hx hb dX0_tellOfPupil_1 (by rw [c17]; decide +kernel) (by rw [c17]; decide +kernel) (by rw [c17]; decide +kernel) (by decide) ?_
    refine lv_aload_n hx hb dX0_tellOfPupil_124 rfl (lv_at hl 0 rfl) ?_
    refine va_get (D := D) (ci := 0) (v := .ref (adB 6)) (C := RX0) (T := TX0) (N := 13) hx hb hts iw_X0_tellOfPupil_X0 hown hK hP 0 rfl rfl 5 (by decide) (hts (.fieldLink RX0 27 "FavourRings$Bank" "takenOver" "[I") (List.mem_of_getElem? (i := 5) rfl)) (fun _ h9 => h9) rfl dX0_tellOfPupil_125 ?_
    refine lv_iload_n hx hb dX0_tellOfPupil_128 rfl (lv_at hl 1 rfl) ?_
    obtain ⟨u18, eu18, h⟩ := bd_in h
    refine kI (va_runSN (As := [.ref (adB 6), .int p1]) (rest := []) ⟨hx, hb, hml, hown, hts⟩ (c_X4_at l D cA cQ (adB 6) 8 (vB 6) p1 u18 eu18 _) ⟨va_cnB 2 hts gX0_tellOfPupil_X4_at_n77 rfl rfl rfl hN.2.2.2.1 (hts (.initialized RX4) (List.mem_of_getElem? (i := 26) rfl)) (by decide +kernel) ⟨Nat.le_of_ble_eq_true rfl, Nat.le_of_ble_eq_true rfl⟩, (hts (.static yX4_at) (List.mem_of_getElem? (i := 25) rfl)), trivial⟩ (pS hK hN hP hD [6] rfl rfl) rfl rfl hl.1 rfl (lv_room (Nat.le_of_ble_eq_true rfl)) dX0_tellOfPupil_129 ⟨Nat.zero_le _, Nat.zero_le _⟩) hP hD hS hA [6] rfl rfl (ws' := (wB cA adB vB)) rfl (fun H locs hP hD hS => ?_)
    cases h
    exact endI hx hb hr hlocks hP hS rfl dX0_tellOfPupil_132
  have h := (if_neg c17).symm.trans h
  have nc1 : (p2).toInt ≠ 0 := ne_toInt c1
  have nc3 : (p2).toInt ≠ 1 := ne_toInt c3
  have nc5 : (p2).toInt ≠ 2 := ne_toInt c5
  have nc7 : (p2).toInt ≠ 3 := ne_toInt c7
  have nc9 : (p2).toInt ≠ 4 := ne_toInt c9
  have nc11 : (p2).toInt ≠ 5 := ne_toInt c11
  have nc13 : (p2).toInt ≠ 6 := ne_toInt c13
  have nc17 : (p2).toInt ≠ 7 := ne_toInt c17
  refine lv_tableOut (tgt := 133) hx hb dX0_tellOfPupil_1 (by omega) (by decide) ?_
  refine lv_aload_n hx hb dX0_tellOfPupil_133 rfl (lv_at hl 0 rfl) ?_
  refine va_get (D := D) (ci := 0) (v := .ref (adB 7)) (C := RX0) (T := TX0) (N := 13) hx hb hts iw_X0_tellOfPupil_X0 hown hK hP 0 rfl rfl 6 (by decide) (hts (.fieldLink RX0 30 "FavourRings$Bank" "cleared" "[I") (List.mem_of_getElem? (i := 6) rfl)) (fun _ h9 => h9) rfl dX0_tellOfPupil_134 ?_
  refine lv_iload_n hx hb dX0_tellOfPupil_137 rfl (lv_at hl 1 rfl) ?_
  obtain ⟨u19, eu19, h⟩ := bd_in h
  refine kI (va_runSN (As := [.ref (adB 7), .int p1]) (rest := []) ⟨hx, hb, hml, hown, hts⟩ (c_X4_at l D cA cQ (adB 7) 8 (vB 7) p1 u19 eu19 _) ⟨va_cnB 2 hts gX0_tellOfPupil_X4_at_n77 rfl rfl rfl hN.2.2.2.1 (hts (.initialized RX4) (List.mem_of_getElem? (i := 26) rfl)) (by decide +kernel) ⟨Nat.le_of_ble_eq_true rfl, Nat.le_of_ble_eq_true rfl⟩, (hts (.static yX4_at) (List.mem_of_getElem? (i := 25) rfl)), trivial⟩ (pS hK hN hP hD [7] rfl rfl) rfl rfl hl.1 rfl (lv_room (Nat.le_of_ble_eq_true rfl)) dX0_tellOfPupil_138 ⟨Nat.zero_le _, Nat.zero_le _⟩) hP hD hS hA [7] rfl rfl (ws' := (wB cA adB vB)) rfl (fun H locs hP hD hS => ?_)
  cases h
  exact endI hx hb hr hlocks hP hS rfl dX0_tellOfPupil_141
theorem iw_X4_pupilOf_X4 : ∀ w ∈ wsX40, w ∈ wsX4_pupilOf := fun _ h => List.mem_cons_of_mem _ (List.mem_append_left _ (List.mem_append_right _ (h)))
set_option maxHeartbeats 4000000 in
set_option maxRecDepth 100000 in
theorem c_X4_pupilOf (l : Launch) (D : va_G) (cA cQ : ClassId) (adF : Nat) (adB : Nat → Nat) (adT : Nat → Nat) (adH : Nat → Nat) (kH : Nat → Nat → Nat) (adR : Nat → Nat) (adO : Nat → Nat) (vB : St) (vT : St) (vH : St) (bH : Nat → St) (vR : St) (vO : St) (p1 : Int32) (p2 : Int32) (o : Int32) (hf : X4_pupilOf vB vT vH bH vR vO p1 p2 = some o) : Cti l yX4_pupilOf wsX4_pupilOf ({ frames := 4, cells := 0, slots := 0, locals := 92 }) D (TY cA cQ) [.ref adF, .int p1, .int p2] (wF cA cQ adF adB adT adH kH adR adO vB vT vH bH vR vO) (wF cA cQ adF adB adT adH kH adR adO vB vT vH bH vR vO) o := by
  refine Wk.i (cc := cX4_pupilOf) (maxL := 3) (ret := (some .int)) (by decide) rfl (Nat.le_of_ble_eq_true rfl) ?_
  intro p e s m below meth c A ls hx hb hr hlocks hml hown hts hK hN hP hD hA hl
  have hown : s.vm.findClass RX4 = some m.cls := hown
  have hS : va_S A s.heap s.heap [] := va_S.rf
  have hl : lv_has ls 3 [(0, .ref adF), (1, .int p1), (2, .int p2)] := hl
  have h := hf
  unfold X4_pupilOf at h
  refine lv_aload_n hx hb dX4_pupilOf_0 rfl (lv_at hl 0 rfl) ?_
  refine va_get (D := D) (ci := 4) (v := .ref (adB 0)) (C := RX4) (T := TX4) (N := 5) hx hb hts iw_X4_pupilOf_X4 hown hK hP 0 rfl rfl 0 (by decide) (hts (.fieldLink RX4 10 "FavourRings" "bank" "LFavourRings$Bank;") (List.mem_of_getElem? (i := 1) rfl)) (fun _ h9 => h9) rfl dX4_pupilOf_1 ?_
  refine lv_iload_n hx hb dX4_pupilOf_4 rfl (lv_at hl 1 rfl) ?_
  obtain ⟨u1, eu1, h⟩ := bd_in h
  refine kI (va_runV (As := [.int p1]) (rest := []) ⟨hx, hb, hml, hown, hts⟩ (c_X0_isPupil l D cA cQ adB vB p1 u1 eu1 _) (cwV 1 hts gX4_pupilOf_X0_isPupil rfl rfl rfl (by decide +kernel) ⟨Nat.le_of_ble_eq_true rfl, Nat.le_of_ble_eq_true rfl⟩) (pV (ci := 0) (q := (RX0, TX0, 13)) hK hN hP hD [1, 2, 3, 4, 5, 6, 7, 8, 9, 10, 11, 12, 13, 14] rfl rfl rfl rfl) rfl rfl hl.1 rfl (lv_room (Nat.le_of_ble_eq_true rfl)) dX4_pupilOf_5 ⟨Nat.zero_le _, Nat.zero_le _⟩) hP hD hS hA [1, 2, 3, 4, 5, 6, 7, 8, 9, 10, 11, 12, 13, 14] rfl rfl (ws' := (wF cA cQ adF adB adT adH kH adR adO vB vT vH bH vR vO)) rfl (fun H locs hP hD hS => ?_)
  refine lv_if_eq (tgt := 21) hx hb dX4_pupilOf_8 (by decide) (fun c2 => ?_) (fun c2 => ?_)
  · have h := (if_pos c2).symm.trans h
    refine lv_ldc (v := (-1000001 : Int32)) hx hb hown (hts (.constant RX4 81 (-1000001)) (List.mem_of_getElem? (i := 2) rfl)) dX4_pupilOf_21 ?_
    cases h
    exact endI hx hb hr hlocks hP hS rfl dX4_pupilOf_23
  · have h := (if_neg c2).symm.trans h
    refine lv_iload_n hx hb dX4_pupilOf_11 rfl (lv_at hl 2 rfl) ?_
    refine lv_if_lt (tgt := 21) hx hb dX4_pupilOf_12 (by decide) (fun c3 => ?_) (fun c3 => ?_)
    · have h := (if_pos c3).symm.trans h
      refine lv_ldc (v := (-1000001 : Int32)) hx hb hown (hts (.constant RX4 81 (-1000001)) (List.mem_of_getElem? (i := 2) rfl)) dX4_pupilOf_21 ?_
      cases h
      exact endI hx hb hr hlocks hP hS rfl dX4_pupilOf_23
    · have h := (if_neg c3).symm.trans h
      refine lv_iload_n hx hb dX4_pupilOf_15 rfl (lv_at hl 2 rfl) ?_
      refine lv_bipush (v := (9 : Int32)) hx hb dX4_pupilOf_16 (by decide) ?_
      refine lv_icmp_lt (tgt := 24) hx hb dX4_pupilOf_18 (by decide) (fun c4 => ?_) (fun c4 => ?_)
      · have h := (if_pos c4).symm.trans h
        refine lv_aload_n hx hb dX4_pupilOf_24 rfl (lv_at hl 0 rfl) ?_
        refine va_get (D := D) (ci := 4) (v := .ref (adB 0)) (C := RX4) (T := TX4) (N := 5) hx hb hts iw_X4_pupilOf_X4 hown hK hP 0 rfl rfl 0 (by decide) (hts (.fieldLink RX4 10 "FavourRings" "bank" "LFavourRings$Bank;") (List.mem_of_getElem? (i := 1) rfl)) (fun _ h9 => h9) rfl dX4_pupilOf_25 ?_
        refine lv_iload_n hx hb dX4_pupilOf_28 rfl (lv_at hl 1 rfl) ?_
        refine lv_iload_n hx hb dX4_pupilOf_29 rfl (lv_at hl 2 rfl) ?_
        obtain ⟨u5, eu5, h⟩ := bd_in h
        refine kI (va_runV (As := [.int p1, .int p2]) (rest := []) ⟨hx, hb, hml, hown, hts⟩ (c_X0_tellOfPupil l D cA cQ adB vB p1 p2 u5 eu5 _) (cwV 2 hts gX4_pupilOf_X0_tellOfPupil rfl rfl rfl (by decide +kernel) ⟨Nat.le_of_ble_eq_true rfl, Nat.le_of_ble_eq_true rfl⟩) (pV (ci := 0) (q := (RX0, TX0, 13)) hK hN hP hD [1, 2, 3, 4, 5, 6, 7, 8, 9, 10, 11, 12, 13, 14] rfl rfl rfl rfl) rfl rfl hl.1 rfl (lv_room (Nat.le_of_ble_eq_true rfl)) dX4_pupilOf_30 ⟨Nat.zero_le _, Nat.zero_le _⟩) hP hD hS hA [1, 2, 3, 4, 5, 6, 7, 8, 9, 10, 11, 12, 13, 14] rfl rfl (ws' := (wF cA cQ adF adB adT adH kH adR adO vB vT vH bH vR vO)) rfl (fun H locs hP hD hS => ?_)
        cases h
        exact endI hx hb hr hlocks hP hS rfl dX4_pupilOf_33
      · have h := (if_neg c4).symm.trans h
        refine lv_ldc (v := (-1000001 : Int32)) hx hb hown (hts (.constant RX4 81 (-1000001)) (List.mem_of_getElem? (i := 2) rfl)) dX4_pupilOf_21 ?_
        cases h
        exact endI hx hb hr hlocks hP hS rfl dX4_pupilOf_23
set_option maxHeartbeats 4000000 in
set_option maxRecDepth 100000 in
theorem c_X0_rankOf (l : Launch) (D : va_G) (cA cQ : ClassId) (adB : Nat → Nat) (vB : St) (p1 : Int32) (o : Int32) (hf : X0_rankOf vB p1 = some o) : Cti l yX0_rankOf wsX0_rankOf ({ frames := 3, cells := 0, slots := 0, locals := 70 }) D (TY cA cQ) [.ref (adB 0), .int p1] (wB cA adB vB) (wB cA adB vB) o := by
  refine Wk.i (cc := cX0_rankOf) (maxL := 6) (ret := (some .int)) (by decide) rfl (Nat.le_of_ble_eq_true rfl) ?_
  intro p e s m below meth c A ls hx hb hr hlocks hml hown hts hK hN hP hD hA hl
  have hown : s.vm.findClass RX0 = some m.cls := hown
  have hS : va_S A s.heap s.heap [] := va_S.rf
  have hl : lv_has ls 6 [(0, .ref (adB 0)), (1, .int p1)] := hl
  have B11 : ∀ (fu11 : Nat) (x2 : Int32) (x3 : Int32) (x4 : Int32) (H : Heap) (locs : List Loc) (ls : Array Slot), X0_rankOf_l11 vB p1 fu11 x2 x3 x4 = some o → va_P D vwCl (wB cA adB vB) H → va_D A (wB cA adB vB) → va_S A s.heap H locs → lv_has ls 6 [(0, .ref (adB 0)), (1, .int p1), (2, .int x2), (3, .int x3), (4, .int x4)] → W p l e (headSpec wsX0_rankOf ({ frames := 3, cells := 0, slots := 0, locals := 70 })).room s m ([.ref (adB 0), .int p1] : List Value).toArray below meth c H locs 0 0 (MQ below (QI D (wB cA adB vB) o A) ([.ref (adB 0), .int p1] : List Value).toArray s 0 0 A) (F0 m 11 ls []) := by
    intro fu11
    induction fu11 with
    | zero =>
      intro x2 x3 x4 H locs ls h hP hD hS hl
      cases h
    | succ fu11 ih11 =>
      intro x2 x3 x4 H locs ls h hP hD hS hl
      rw [X0_rankOf_l11] at h
      refine lv_iload hx hb dX0_rankOf_11 (lv_at hl 4 rfl) ?_
      refine lv_aload_n hx hb dX0_rankOf_13 rfl (lv_at hl 0 rfl) ?_
      refine lv_iconst (v := (1 : Int32)) hx hb dX0_rankOf_14 (by decide) ?_
      obtain ⟨u1, eu1, h⟩ := bd_in h
      refine kI (va_runV (As := [.int (1 : Int32)]) (rest := [.int x4]) ⟨hx, hb, hml, hown, hts⟩ (c_X0_number l D cA cQ adB vB (1 : Int32) u1 eu1 _) (cwV 1 hts gX0_rankOf_X0_number rfl rfl rfl (by decide +kernel) ⟨Nat.le_of_ble_eq_true rfl, Nat.le_of_ble_eq_true rfl⟩) (pV (ci := 0) (q := (RX0, TX0, 13)) hK hN hP hD [0, 1, 2, 3, 4, 5, 6, 7, 8, 9, 10, 11, 12, 13] rfl rfl rfl rfl) rfl rfl hl.1 rfl (lv_room (Nat.le_of_ble_eq_true rfl)) dX0_rankOf_15 ⟨Nat.zero_le _, Nat.zero_le _⟩) hP hD hS hA [0, 1, 2, 3, 4, 5, 6, 7, 8, 9, 10, 11, 12, 13] rfl rfl (ws' := (wB cA adB vB)) rfl (fun H locs hP hD hS => ?_)
      refine lv_icmp_ge (tgt := 56) hx hb dX0_rankOf_18 (by decide) (fun c2 => ?_) (fun c2 => ?_)
      · have h := (if_pos c2).symm.trans h
        refine lv_iload_n hx hb dX0_rankOf_56 rfl (lv_at hl 3 rfl) ?_
        cases h
        exact endI hx hb hr hlocks hP hS rfl dX0_rankOf_57
      · have h := (if_neg c2).symm.trans h
        refine lv_aload_n hx hb dX0_rankOf_21 rfl (lv_at hl 0 rfl) ?_
        refine lv_iload hx hb dX0_rankOf_22 (lv_at hl 4 rfl) ?_
        obtain ⟨u3, eu3, h⟩ := bd_in h
        refine kI (va_runV (As := [.int x4]) (rest := []) ⟨hx, hb, hml, hown, hts⟩ (c_X0_balanceByLots l D cA cQ adB vB x4 u3 eu3 _) (cwV 1 hts gX0_rankOf_X0_balanceByLots rfl rfl rfl (by decide +kernel) ⟨Nat.le_of_ble_eq_true rfl, Nat.le_of_ble_eq_true rfl⟩) (pV (ci := 0) (q := (RX0, TX0, 13)) hK hN hP hD [0, 1, 2, 3, 4, 5, 6, 7, 8, 9, 10, 11, 12, 13] rfl rfl rfl rfl) rfl rfl hl.1 rfl (lv_room (Nat.le_of_ble_eq_true rfl)) dX0_rankOf_24 ⟨Nat.zero_le _, Nat.zero_le _⟩) hP hD hS hA [0, 1, 2, 3, 4, 5, 6, 7, 8, 9, 10, 11, 12, 13] rfl rfl (ws' := (wB cA adB vB)) rfl (fun H locs hP hD hS => ?_)
        refine lv_istore (lv' := [(5, .int u3), (0, .ref (adB 0)), (1, .int p1), (2, .int x2), (3, .int x3), (4, .int x4)]) hx hb dX0_rankOf_27 hl (by decide) rfl (fun ls hl => ?_)
        refine lv_iload hx hb dX0_rankOf_29 (lv_at hl 0 rfl) ?_
        refine lv_iload_n hx hb dX0_rankOf_31 rfl (lv_at hl 3 rfl) ?_
        refine lv_icmp_gt (tgt := 47) hx hb dX0_rankOf_32 (by decide) (fun c4 => ?_) (fun c4 => ?_)
        · have h := (if_pos c4).symm.trans h
          refine lv_iinc (v := (x3 + (1 : Int32))) (lv' := [(3, .int (x3 + (1 : Int32))), (5, .int u3), (0, .ref (adB 0)), (1, .int p1), (2, .int x2), (4, .int x4)]) hx hb dX0_rankOf_47 hl (k := 4) rfl rfl (by decide) rfl (fun ls hl => ?_)
          refine lv_iinc (v := (x4 + (1 : Int32))) (lv' := [(4, .int (x4 + (1 : Int32))), (3, .int (x3 + (1 : Int32))), (5, .int u3), (0, .ref (adB 0)), (1, .int p1), (2, .int x2)]) hx hb dX0_rankOf_50 hl (k := 5) rfl rfl (by decide) rfl (fun ls hl => ?_)
          refine lv_goto (tgt := 11) hx hb dX0_rankOf_53 (by decide) ?_
          exact ih11 x2 (x3 + (1 : Int32)) (x4 + (1 : Int32)) _ _ _ h hP hD hS (lv_sub hl [3, 4, 5, 1, 0] rfl)
        · have h := (if_neg c4).symm.trans h
          refine lv_iload hx hb dX0_rankOf_35 (lv_at hl 0 rfl) ?_
          refine lv_iload_n hx hb dX0_rankOf_37 rfl (lv_at hl 3 rfl) ?_
          refine lv_icmp_ne (tgt := 50) hx hb dX0_rankOf_38 (by decide) (fun c5 => ?_) (fun c5 => ?_)
          · have h := (if_neg c5).symm.trans h
            refine lv_iinc (v := (x4 + (1 : Int32))) (lv' := [(4, .int (x4 + (1 : Int32))), (5, .int u3), (0, .ref (adB 0)), (1, .int p1), (2, .int x2), (3, .int x3)]) hx hb dX0_rankOf_50 hl (k := 5) rfl rfl (by decide) rfl (fun ls hl => ?_)
            refine lv_goto (tgt := 11) hx hb dX0_rankOf_53 (by decide) ?_
            exact ih11 x2 x3 (x4 + (1 : Int32)) _ _ _ h hP hD hS (lv_sub hl [2, 3, 4, 5, 0] rfl)
          · have h := (if_pos c5).symm.trans h
            refine lv_iload hx hb dX0_rankOf_41 (lv_at hl 5 rfl) ?_
            refine lv_iload_n hx hb dX0_rankOf_43 rfl (lv_at hl 2 rfl) ?_
            refine lv_icmp_ge (tgt := 50) hx hb dX0_rankOf_44 (by decide) (fun c6 => ?_) (fun c6 => ?_)
            · have h := (if_pos c6).symm.trans h
              refine lv_iinc (v := (x4 + (1 : Int32))) (lv' := [(4, .int (x4 + (1 : Int32))), (5, .int u3), (0, .ref (adB 0)), (1, .int p1), (2, .int x2), (3, .int x3)]) hx hb dX0_rankOf_50 hl (k := 5) rfl rfl (by decide) rfl (fun ls hl => ?_)
              refine lv_goto (tgt := 11) hx hb dX0_rankOf_53 (by decide) ?_
              exact ih11 x2 x3 (x4 + (1 : Int32)) _ _ _ h hP hD hS (lv_sub hl [2, 3, 4, 5, 0] rfl)
            · have h := (if_neg c6).symm.trans h
              refine lv_iinc (v := (x3 + (1 : Int32))) (lv' := [(3, .int (x3 + (1 : Int32))), (5, .int u3), (0, .ref (adB 0)), (1, .int p1), (2, .int x2), (4, .int x4)]) hx hb dX0_rankOf_47 hl (k := 4) rfl rfl (by decide) rfl (fun ls hl => ?_)
              refine lv_iinc (v := (x4 + (1 : Int32))) (lv' := [(4, .int (x4 + (1 : Int32))), (3, .int (x3 + (1 : Int32))), (5, .int u3), (0, .ref (adB 0)), (1, .int p1), (2, .int x2)]) hx hb dX0_rankOf_50 hl (k := 5) rfl rfl (by decide) rfl (fun ls hl => ?_)
              refine lv_goto (tgt := 11) hx hb dX0_rankOf_53 (by decide) ?_
              exact ih11 x2 (x3 + (1 : Int32)) (x4 + (1 : Int32)) _ _ _ h hP hD hS (lv_sub hl [3, 4, 5, 1, 0] rfl)
  have h := hf
  unfold X0_rankOf at h
  refine lv_aload_n hx hb dX0_rankOf_0 rfl (lv_at hl 0 rfl) ?_
  refine lv_iload_n hx hb dX0_rankOf_1 rfl (lv_at hl 1 rfl) ?_
  obtain ⟨u7, eu7, h⟩ := bd_in h
  refine kI (va_runV (As := [.int p1]) (rest := []) ⟨hx, hb, hml, hown, hts⟩ (c_X0_balanceByLots l D cA cQ adB vB p1 u7 eu7 _) (cwV 1 hts gX0_rankOf_X0_balanceByLots rfl rfl rfl (by decide +kernel) ⟨Nat.le_of_ble_eq_true rfl, Nat.le_of_ble_eq_true rfl⟩) (pV (ci := 0) (q := (RX0, TX0, 13)) hK hN hP hD [0, 1, 2, 3, 4, 5, 6, 7, 8, 9, 10, 11, 12, 13] rfl rfl rfl rfl) rfl rfl hl.1 rfl (lv_room (Nat.le_of_ble_eq_true rfl)) dX0_rankOf_2 ⟨Nat.zero_le _, Nat.zero_le _⟩) hP hD hS hA [0, 1, 2, 3, 4, 5, 6, 7, 8, 9, 10, 11, 12, 13] rfl rfl (ws' := (wB cA adB vB)) rfl (fun H locs hP hD hS => ?_)
  refine lv_istore_n (lv' := [(2, .int u7), (0, .ref (adB 0)), (1, .int p1)]) hx hb dX0_rankOf_5 rfl hl (by decide) rfl (fun ls hl => ?_)
  refine lv_iconst (v := (0 : Int32)) hx hb dX0_rankOf_6 (by decide) ?_
  refine lv_istore_n (lv' := [(3, .int (0 : Int32)), (2, .int u7), (0, .ref (adB 0)), (1, .int p1)]) hx hb dX0_rankOf_7 rfl hl (by decide) rfl (fun ls hl => ?_)
  refine lv_iconst (v := (0 : Int32)) hx hb dX0_rankOf_8 (by decide) ?_
  refine lv_istore (lv' := [(4, .int (0 : Int32)), (3, .int (0 : Int32)), (2, .int u7), (0, .ref (adB 0)), (1, .int p1)]) hx hb dX0_rankOf_9 hl (by decide) rfl (fun ls hl => ?_)
  exact B11 FU u7 (0 : Int32) (0 : Int32) _ _ _ h hP hD hS (lv_sub hl [3, 4, 2, 1, 0] rfl)
theorem iw_X4_richest_X4 : ∀ w ∈ wsX40, w ∈ wsX4_richest := fun _ h => List.mem_cons_of_mem _ (List.mem_append_left _ (List.mem_append_right _ (h)))
set_option maxHeartbeats 4000000 in
set_option maxRecDepth 100000 in
theorem c_X4_richest (l : Launch) (D : va_G) (cA cQ : ClassId) (adF : Nat) (adB : Nat → Nat) (adT : Nat → Nat) (adH : Nat → Nat) (kH : Nat → Nat → Nat) (adR : Nat → Nat) (adO : Nat → Nat) (vB : St) (vT : St) (vH : St) (bH : Nat → St) (vR : St) (vO : St) (p1 : Int32) (o : Int32) (hf : X4_richest vB vT vH bH vR vO p1 = some o) : Cti l yX4_richest wsX4_richest ({ frames := 4, cells := 0, slots := 0, locals := 95 }) D (TY cA cQ) [.ref adF, .int p1] (wF cA cQ adF adB adT adH kH adR adO vB vT vH bH vR vO) (wF cA cQ adF adB adT adH kH adR adO vB vT vH bH vR vO) o := by
  refine Wk.i (cc := cX4_richest) (maxL := 3) (ret := (some .int)) (by decide) rfl (Nat.le_of_ble_eq_true rfl) ?_
  intro p e s m below meth c A ls hx hb hr hlocks hml hown hts hK hN hP hD hA hl
  have hown : s.vm.findClass RX4 = some m.cls := hown
  have hS : va_S A s.heap s.heap [] := va_S.rf
  have hl : lv_has ls 3 [(0, .ref adF), (1, .int p1)] := hl
  have B9 : ∀ (fu9 : Nat) (x2 : Int32) (H : Heap) (locs : List Loc) (ls : Array Slot), X4_richest_l9 vB vT vH bH vR vO p1 fu9 x2 = some o → va_P D vwCl (wF cA cQ adF adB adT adH kH adR adO vB vT vH bH vR vO) H → va_D A (wF cA cQ adF adB adT adH kH adR adO vB vT vH bH vR vO) → va_S A s.heap H locs → lv_has ls 3 [(0, .ref adF), (1, .int p1), (2, .int x2)] → W p l e (headSpec wsX4_richest ({ frames := 4, cells := 0, slots := 0, locals := 95 })).room s m ([.ref adF, .int p1] : List Value).toArray below meth c H locs 0 0 (MQ below (QI D (wF cA cQ adF adB adT adH kH adR adO vB vT vH bH vR vO) o A) ([.ref adF, .int p1] : List Value).toArray s 0 0 A) (F0 m 9 ls []) := by
    intro fu9
    induction fu9 with
    | zero =>
      intro x2 H locs ls h hP hD hS hl
      cases h
    | succ fu9 ih9 =>
      intro x2 H locs ls h hP hD hS hl
      rw [X4_richest_l9] at h
      refine lv_iload_n hx hb dX4_richest_9 rfl (lv_at hl 2 rfl) ?_
      refine lv_aload_n hx hb dX4_richest_10 rfl (lv_at hl 0 rfl) ?_
      refine va_get (D := D) (ci := 4) (v := .ref (adB 0)) (C := RX4) (T := TX4) (N := 5) hx hb hts iw_X4_richest_X4 hown hK hP 0 rfl rfl 0 (by decide) (hts (.fieldLink RX4 10 "FavourRings" "bank" "LFavourRings$Bank;") (List.mem_of_getElem? (i := 2) rfl)) (fun _ h9 => h9) rfl dX4_richest_11 ?_
      refine lv_iconst (v := (1 : Int32)) hx hb dX4_richest_14 (by decide) ?_
      obtain ⟨u1, eu1, h⟩ := bd_in h
      refine kI (va_runV (As := [.int (1 : Int32)]) (rest := [.int x2]) ⟨hx, hb, hml, hown, hts⟩ (c_X0_number l D cA cQ adB vB (1 : Int32) u1 eu1 _) (cwV 1 hts gX4_richest_X0_number rfl rfl rfl (by decide +kernel) ⟨Nat.le_of_ble_eq_true rfl, Nat.le_of_ble_eq_true rfl⟩) (pV (ci := 0) (q := (RX0, TX0, 13)) hK hN hP hD [1, 2, 3, 4, 5, 6, 7, 8, 9, 10, 11, 12, 13, 14] rfl rfl rfl rfl) rfl rfl hl.1 rfl (lv_room (Nat.le_of_ble_eq_true rfl)) dX4_richest_15 ⟨Nat.zero_le _, Nat.zero_le _⟩) hP hD hS hA [1, 2, 3, 4, 5, 6, 7, 8, 9, 10, 11, 12, 13, 14] rfl rfl (ws' := (wF cA cQ adF adB adT adH kH adR adO vB vT vH bH vR vO)) rfl (fun H locs hP hD hS => ?_)
      refine lv_icmp_ge (tgt := 41) hx hb dX4_richest_18 (by decide) (fun c2 => ?_) (fun c2 => ?_)
      · have h := (if_pos c2).symm.trans h
        refine lv_ldc (v := (-1000004 : Int32)) hx hb hown (hts (.constant RX4 98 (-1000004)) (List.mem_of_getElem? (i := 3) rfl)) dX4_richest_41 ?_
        cases h
        exact endI hx hb hr hlocks hP hS rfl dX4_richest_43
      · have h := (if_neg c2).symm.trans h
        refine lv_aload_n hx hb dX4_richest_21 rfl (lv_at hl 0 rfl) ?_
        refine va_get (D := D) (ci := 4) (v := .ref (adB 0)) (C := RX4) (T := TX4) (N := 5) hx hb hts iw_X4_richest_X4 hown hK hP 0 rfl rfl 0 (by decide) (hts (.fieldLink RX4 10 "FavourRings" "bank" "LFavourRings$Bank;") (List.mem_of_getElem? (i := 2) rfl)) (fun _ h9 => h9) rfl dX4_richest_22 ?_
        refine lv_iload_n hx hb dX4_richest_25 rfl (lv_at hl 2 rfl) ?_
        obtain ⟨u3, eu3, h⟩ := bd_in h
        refine kI (va_runV (As := [.int x2]) (rest := []) ⟨hx, hb, hml, hown, hts⟩ (c_X0_rankOf l D cA cQ adB vB x2 u3 eu3 _) (cwV 1 hts gX4_richest_X0_rankOf rfl rfl rfl (by decide +kernel) ⟨Nat.le_of_ble_eq_true rfl, Nat.le_of_ble_eq_true rfl⟩) (pV (ci := 0) (q := (RX0, TX0, 13)) hK hN hP hD [1, 2, 3, 4, 5, 6, 7, 8, 9, 10, 11, 12, 13, 14] rfl rfl rfl rfl) rfl rfl hl.1 rfl (lv_room (Nat.le_of_ble_eq_true rfl)) dX4_richest_26 ⟨Nat.zero_le _, Nat.zero_le _⟩) hP hD hS hA [1, 2, 3, 4, 5, 6, 7, 8, 9, 10, 11, 12, 13, 14] rfl rfl (ws' := (wF cA cQ adF adB adT adH kH adR adO vB vT vH bH vR vO)) rfl (fun H locs hP hD hS => ?_)
        refine lv_iload_n hx hb dX4_richest_29 rfl (lv_at hl 1 rfl) ?_
        refine lv_icmp_ne (tgt := 35) hx hb dX4_richest_30 (by decide) (fun c4 => ?_) (fun c4 => ?_)
        · have h := (if_neg c4).symm.trans h
          refine lv_iinc (v := (x2 + (1 : Int32))) (lv' := [(2, .int (x2 + (1 : Int32))), (0, .ref adF), (1, .int p1)]) hx hb dX4_richest_35 hl (k := 2) rfl rfl (by decide) rfl (fun ls hl => ?_)
          refine lv_goto (tgt := 9) hx hb dX4_richest_38 (by decide) ?_
          exact ih9 (x2 + (1 : Int32)) _ _ _ h hP hD hS (lv_sub hl [1, 2, 0] rfl)
        · have h := (if_pos c4).symm.trans h
          refine lv_iload_n hx hb dX4_richest_33 rfl (lv_at hl 2 rfl) ?_
          cases h
          exact endI hx hb hr hlocks hP hS rfl dX4_richest_34
  have h := hf
  unfold X4_richest at h
  refine lv_iload_n hx hb dX4_richest_0 rfl (lv_at hl 1 rfl) ?_
  refine lv_if_ge (tgt := 7) hx hb dX4_richest_1 (by decide) (fun c5 => ?_) (fun c5 => ?_)
  · have h := (if_pos c5).symm.trans h
    refine lv_iconst (v := (0 : Int32)) hx hb dX4_richest_7 (by decide) ?_
    refine lv_istore_n (lv' := [(2, .int (0 : Int32)), (0, .ref adF), (1, .int p1)]) hx hb dX4_richest_8 rfl hl (by decide) rfl (fun ls hl => ?_)
    exact B9 FU (0 : Int32) _ _ _ h hP hD hS (lv_sub hl [1, 2, 0] rfl)
  · have h := (if_neg c5).symm.trans h
    refine lv_ldc (v := (-1000001 : Int32)) hx hb hown (hts (.constant RX4 81 (-1000001)) (List.mem_of_getElem? (i := 1) rfl)) dX4_richest_4 ?_
    cases h
    exact endI hx hb hr hlocks hP hS rfl dX4_richest_6
theorem iw_X0_weeksLeft_X0 : ∀ w ∈ wsX00, w ∈ wsX0_weeksLeft := fun _ h => List.mem_cons_of_mem _ (List.mem_append_right _ (h))
set_option maxHeartbeats 4000000 in
set_option maxRecDepth 100000 in
theorem c_X0_weeksLeft (l : Launch) (D : va_G) (cA cQ : ClassId) (adB : Nat → Nat) (vB : St) (p1 : Int32) (o : Int32) (hf : X0_weeksLeft vB p1 = some o) : Cti l yX0_weeksLeft wsX0_weeksLeft ({ frames := 1, cells := 0, slots := 0, locals := 21 }) D (TY cA cQ) [.ref (adB 0), .int p1] (wB cA adB vB) (wB cA adB vB) o := by
  refine Wk.i (cc := cX0_weeksLeft) (maxL := 2) (ret := (some .int)) (by decide) rfl (Nat.le_of_ble_eq_true rfl) ?_
  intro p e s m below meth c A ls hx hb hr hlocks hml hown hts hK hN hP hD hA hl
  have hown : s.vm.findClass RX0 = some m.cls := hown
  have hS : va_S A s.heap s.heap [] := va_S.rf
  have hl : lv_has ls 2 [(0, .ref (adB 0)), (1, .int p1)] := hl
  have h := hf
  unfold X0_weeksLeft at h
  refine lv_aload_n hx hb dX0_weeksLeft_0 rfl (lv_at hl 0 rfl) ?_
  refine lv_bipush (v := (20 : Int32)) hx hb dX0_weeksLeft_1 (by decide) ?_
  refine lv_aload_n hx hb dX0_weeksLeft_3 rfl (lv_at hl 0 rfl) ?_
  refine va_get (D := D) (ci := 0) (v := .ref (adB 10)) (C := RX0) (T := TX0) (N := 13) hx hb hts iw_X0_weeksLeft_X0 hown hK hP 0 rfl rfl 9 (by decide) (hts (.fieldLink RX0 39 "FavourRings$Bank" "kinds" "[I") (List.mem_of_getElem? (i := 1) rfl)) (fun _ h9 => h9) rfl dX0_weeksLeft_4 ?_
  refine lv_iload_n hx hb dX0_weeksLeft_7 rfl (lv_at hl 1 rfl) ?_
  obtain ⟨u1, eu1, h⟩ := bd_in h
  refine kI (va_runSN (As := [.ref (adB 10), .int p1]) (rest := [.int (20 : Int32), .ref (adB 0)]) ⟨hx, hb, hml, hown, hts⟩ (c_X4_at l D cA cQ (adB 10) 40 (vB 10) p1 u1 eu1 _) ⟨va_cnB 2 hts gX0_weeksLeft_X4_at_n77 rfl rfl rfl hN.2.2.2.1 (hts (.initialized RX4) (List.mem_of_getElem? (i := 4) rfl)) (by decide +kernel) ⟨Nat.le_of_ble_eq_true rfl, Nat.le_of_ble_eq_true rfl⟩, (hts (.static yX4_at) (List.mem_of_getElem? (i := 3) rfl)), trivial⟩ (pS hK hN hP hD [10] rfl rfl) rfl rfl hl.1 rfl (lv_room (Nat.le_of_ble_eq_true rfl)) dX0_weeksLeft_8 ⟨Nat.zero_le _, Nat.zero_le _⟩) hP hD hS hA [10] rfl rfl (ws' := (wB cA adB vB)) rfl (fun H locs hP hD hS => ?_)
  refine lv_iadd hx hb dX0_weeksLeft_11 ?_
  obtain ⟨u2, eu2, h⟩ := bd_in h
  refine kI (va_runV (As := [.int ((20 : Int32) + u1)]) (rest := []) ⟨hx, hb, hml, hown, hts⟩ (c_X0_number l D cA cQ adB vB ((20 : Int32) + u1) u2 eu2 _) (cwV 1 hts gX0_weeksLeft_X0_number rfl rfl rfl (by decide +kernel) ⟨Nat.le_of_ble_eq_true rfl, Nat.le_of_ble_eq_true rfl⟩) (pV (ci := 0) (q := (RX0, TX0, 13)) hK hN hP hD [0, 1, 2, 3, 4, 5, 6, 7, 8, 9, 10, 11, 12, 13] rfl rfl rfl rfl) rfl rfl hl.1 rfl (lv_room (Nat.le_of_ble_eq_true rfl)) dX0_weeksLeft_12 ⟨Nat.zero_le _, Nat.zero_le _⟩) hP hD hS hA [0, 1, 2, 3, 4, 5, 6, 7, 8, 9, 10, 11, 12, 13] rfl rfl (ws' := (wB cA adB vB)) rfl (fun H locs hP hD hS => ?_)
  refine lv_aload_n hx hb dX0_weeksLeft_15 rfl (lv_at hl 0 rfl) ?_
  refine va_get (D := D) (ci := 0) (v := .ref (adB 12)) (C := RX0) (T := TX0) (N := 13) hx hb hts iw_X0_weeksLeft_X0 hown hK hP 0 rfl rfl 11 (by decide) (hts (.fieldLink RX0 45 "FavourRings$Bank" "ages" "[I") (List.mem_of_getElem? (i := 2) rfl)) (fun _ h9 => h9) rfl dX0_weeksLeft_16 ?_
  refine lv_iload_n hx hb dX0_weeksLeft_19 rfl (lv_at hl 1 rfl) ?_
  obtain ⟨u3, eu3, h⟩ := bd_in h
  refine kI (va_runSN (As := [.ref (adB 12), .int p1]) (rest := [.int u2]) ⟨hx, hb, hml, hown, hts⟩ (c_X4_at l D cA cQ (adB 12) 40 (vB 12) p1 u3 eu3 _) ⟨va_cnB 2 hts gX0_weeksLeft_X4_at_n77 rfl rfl rfl hN.2.2.2.1 (hts (.initialized RX4) (List.mem_of_getElem? (i := 4) rfl)) (by decide +kernel) ⟨Nat.le_of_ble_eq_true rfl, Nat.le_of_ble_eq_true rfl⟩, (hts (.static yX4_at) (List.mem_of_getElem? (i := 3) rfl)), trivial⟩ (pS hK hN hP hD [12] rfl rfl) rfl rfl hl.1 rfl (lv_room (Nat.le_of_ble_eq_true rfl)) dX0_weeksLeft_20 ⟨Nat.zero_le _, Nat.zero_le _⟩) hP hD hS hA [12] rfl rfl (ws' := (wB cA adB vB)) rfl (fun H locs hP hD hS => ?_)
  refine lv_isub hx hb dX0_weeksLeft_23 ?_
  cases h
  exact endI hx hb hr hlocks hP hS rfl dX0_weeksLeft_24
set_option maxHeartbeats 4000000 in
set_option maxRecDepth 100000 in
theorem c_X0_weeksUntilNextSpoils (l : Launch) (D : va_G) (cA cQ : ClassId) (adB : Nat → Nat) (vB : St) (p1 : Int32) (o : Int32) (hf : X0_weeksUntilNextSpoils vB p1 = some o) : Cti l yX0_weeksUntilNextSpoils wsX0_weeksUntilNextSpoils ({ frames := 2, cells := 0, slots := 0, locals := 42 }) D (TY cA cQ) [.ref (adB 0), .int p1] (wB cA adB vB) (wB cA adB vB) o := by
  refine Wk.i (cc := cX0_weeksUntilNextSpoils) (maxL := 5) (ret := (some .int)) (by decide) rfl (Nat.le_of_ble_eq_true rfl) ?_
  intro p e s m below meth c A ls hx hb hr hlocks hml hown hts hK hN hP hD hA hl
  have hown : s.vm.findClass RX0 = some m.cls := hown
  have hS : va_S A s.heap s.heap [] := va_S.rf
  have hl : lv_has ls 5 [(0, .ref (adB 0)), (1, .int p1)] := hl
  have B4 : ∀ (fu4 : Nat) (x2 : Int32) (x3 : Int32) (H : Heap) (locs : List Loc) (ls : Array Slot), X0_weeksUntilNextSpoils_l4 vB p1 fu4 x2 x3 = some o → va_P D vwCl (wB cA adB vB) H → va_D A (wB cA adB vB) → va_S A s.heap H locs → lv_has ls 5 [(0, .ref (adB 0)), (1, .int p1), (2, .int x2), (3, .int x3)] → W p l e (headSpec wsX0_weeksUntilNextSpoils ({ frames := 2, cells := 0, slots := 0, locals := 42 })).room s m ([.ref (adB 0), .int p1] : List Value).toArray below meth c H locs 0 0 (MQ below (QI D (wB cA adB vB) o A) ([.ref (adB 0), .int p1] : List Value).toArray s 0 0 A) (F0 m 4 ls []) := by
    intro fu4
    induction fu4 with
    | zero =>
      intro x2 x3 H locs ls h hP hD hS hl
      cases h
    | succ fu4 ih4 =>
      intro x2 x3 H locs ls h hP hD hS hl
      rw [X0_weeksUntilNextSpoils_l4] at h
      refine lv_iload_n hx hb dX0_weeksUntilNextSpoils_4 rfl (lv_at hl 3 rfl) ?_
      refine lv_aload_n hx hb dX0_weeksUntilNextSpoils_5 rfl (lv_at hl 0 rfl) ?_
      refine lv_iconst (v := (2 : Int32)) hx hb dX0_weeksUntilNextSpoils_6 (by decide) ?_
      obtain ⟨u1, eu1, h⟩ := bd_in h
      refine kI (va_runV (As := [.int (2 : Int32)]) (rest := [.int x3]) ⟨hx, hb, hml, hown, hts⟩ (c_X0_number l D cA cQ adB vB (2 : Int32) u1 eu1 _) (cwV 1 hts gX0_weeksUntilNextSpoils_X0_number rfl rfl rfl (by decide +kernel) ⟨Nat.le_of_ble_eq_true rfl, Nat.le_of_ble_eq_true rfl⟩) (pV (ci := 0) (q := (RX0, TX0, 13)) hK hN hP hD [0, 1, 2, 3, 4, 5, 6, 7, 8, 9, 10, 11, 12, 13] rfl rfl rfl rfl) rfl rfl hl.1 rfl (lv_room (Nat.le_of_ble_eq_true rfl)) dX0_weeksUntilNextSpoils_7 ⟨Nat.zero_le _, Nat.zero_le _⟩) hP hD hS hA [0, 1, 2, 3, 4, 5, 6, 7, 8, 9, 10, 11, 12, 13] rfl rfl (ws' := (wB cA adB vB)) rfl (fun H locs hP hD hS => ?_)
      refine lv_icmp_ge (tgt := 57) hx hb dX0_weeksUntilNextSpoils_10 (by decide) (fun c2 => ?_) (fun c2 => ?_)
      · have h := (if_pos c2).symm.trans h
        refine lv_iload_n hx hb dX0_weeksUntilNextSpoils_57 rfl (lv_at hl 2 rfl) ?_
        cases h
        exact endI hx hb hr hlocks hP hS rfl dX0_weeksUntilNextSpoils_58
      · have h := (if_neg c2).symm.trans h
        refine lv_aload_n hx hb dX0_weeksUntilNextSpoils_13 rfl (lv_at hl 0 rfl) ?_
        refine lv_iload_n hx hb dX0_weeksUntilNextSpoils_14 rfl (lv_at hl 3 rfl) ?_
        refine lv_iload_n hx hb dX0_weeksUntilNextSpoils_15 rfl (lv_at hl 1 rfl) ?_
        refine lv_iconst (v := (-1 : Int32)) hx hb dX0_weeksUntilNextSpoils_16 (by decide) ?_
        refine lv_iconst (v := (-1 : Int32)) hx hb dX0_weeksUntilNextSpoils_17 (by decide) ?_
        obtain ⟨u3, eu3, h⟩ := bd_in h
        refine kI (va_runV (As := [.int x3, .int p1, .int (-1 : Int32), .int (-1 : Int32)]) (rest := []) ⟨hx, hb, hml, hown, hts⟩ (c_X0_isLotOf l D cA cQ adB vB x3 p1 (-1 : Int32) (-1 : Int32) u3 eu3 _) (cwV 4 hts gX0_weeksUntilNextSpoils_X0_isLotOf rfl rfl rfl (by decide +kernel) ⟨Nat.le_of_ble_eq_true rfl, Nat.le_of_ble_eq_true rfl⟩) (pV (ci := 0) (q := (RX0, TX0, 13)) hK hN hP hD [0, 1, 2, 3, 4, 5, 6, 7, 8, 9, 10, 11, 12, 13] rfl rfl rfl rfl) rfl rfl hl.1 rfl (lv_room (Nat.le_of_ble_eq_true rfl)) dX0_weeksUntilNextSpoils_18 ⟨Nat.zero_le _, Nat.zero_le _⟩) hP hD hS hA [0, 1, 2, 3, 4, 5, 6, 7, 8, 9, 10, 11, 12, 13] rfl rfl (ws' := (wB cA adB vB)) rfl (fun H locs hP hD hS => ?_)
        refine lv_if_eq (tgt := 51) hx hb dX0_weeksUntilNextSpoils_21 (by decide) (fun c4 => ?_) (fun c4 => ?_)
        · have h := (if_pos c4).symm.trans h
          refine lv_iinc (v := (x3 + (1 : Int32))) (lv' := [(3, .int (x3 + (1 : Int32))), (0, .ref (adB 0)), (1, .int p1), (2, .int x2)]) hx hb dX0_weeksUntilNextSpoils_51 hl (k := 3) rfl rfl (by decide) rfl (fun ls hl => ?_)
          refine lv_goto (tgt := 4) hx hb dX0_weeksUntilNextSpoils_54 (by decide) ?_
          exact ih4 x2 (x3 + (1 : Int32)) _ _ _ h hP hD hS (lv_sub hl [1, 2, 3, 0] rfl)
        · have h := (if_neg c4).symm.trans h
          refine lv_iconst (v := (1 : Int32)) hx hb dX0_weeksUntilNextSpoils_24 (by decide) ?_
          refine lv_aload_n hx hb dX0_weeksUntilNextSpoils_25 rfl (lv_at hl 0 rfl) ?_
          refine lv_iload_n hx hb dX0_weeksUntilNextSpoils_26 rfl (lv_at hl 3 rfl) ?_
          obtain ⟨u5, eu5, h⟩ := bd_in h
          refine kI (va_runV (As := [.int x3]) (rest := [.int (1 : Int32)]) ⟨hx, hb, hml, hown, hts⟩ (c_X0_weeksLeft l D cA cQ adB vB x3 u5 eu5 _) (cwV 1 hts gX0_weeksUntilNextSpoils_X0_weeksLeft rfl rfl rfl (by decide +kernel) ⟨Nat.le_of_ble_eq_true rfl, Nat.le_of_ble_eq_true rfl⟩) (pV (ci := 0) (q := (RX0, TX0, 13)) hK hN hP hD [0, 1, 2, 3, 4, 5, 6, 7, 8, 9, 10, 11, 12, 13] rfl rfl rfl rfl) rfl rfl hl.1 rfl (lv_room (Nat.le_of_ble_eq_true rfl)) dX0_weeksUntilNextSpoils_27 ⟨Nat.zero_le _, Nat.zero_le _⟩) hP hD hS hA [0, 1, 2, 3, 4, 5, 6, 7, 8, 9, 10, 11, 12, 13] rfl rfl (ws' := (wB cA adB vB)) rfl (fun H locs hP hD hS => ?_)
          refine va_mmax hx hb (hml.trans hl.1.symm) hown (hts (.methodLink RX0 101 Lib.Math.max.name) (List.mem_of_getElem? (i := 1) rfl)) (hts (.static Lib.Math.max.name) (List.mem_of_getElem? (i := 2) rfl)) (hts (.initialized "java/lang/Math") (List.mem_of_getElem? (i := 3) rfl)) (hts (.code Lib.Math.max.name Lib.Math.max.code 2 (some .int)) (List.mem_of_getElem? (i := 4) rfl)) (Nat.le_of_ble_eq_true rfl) (Nat.le_of_ble_eq_true rfl) (Nat.zero_le _) (Nat.zero_le _) dX0_weeksUntilNextSpoils_30 ?_
          refine lv_istore (lv' := [(4, .int (if (1 : Int32) < u5 then u5 else (1 : Int32))), (0, .ref (adB 0)), (1, .int p1), (2, .int x2), (3, .int x3)]) hx hb dX0_weeksUntilNextSpoils_33 hl (by decide) rfl (fun ls hl => ?_)
          refine lv_iload_n hx hb dX0_weeksUntilNextSpoils_35 rfl (lv_at hl 3 rfl) ?_
          refine lv_if_ne (tgt := 44) hx hb dX0_weeksUntilNextSpoils_36 (by decide) (fun c6 => ?_) (fun c6 => ?_)
          · have h := (if_neg c6).symm.trans h
            refine lv_iload_n hx hb dX0_weeksUntilNextSpoils_44 rfl (lv_at hl 3 rfl) ?_
            refine lv_iload hx hb dX0_weeksUntilNextSpoils_45 (lv_at hl 0 rfl) ?_
            refine va_mmin hx hb (hml.trans hl.1.symm) hown (hts (.methodLink RX0 107 Lib.Math.min.name) (List.mem_of_getElem? (i := 5) rfl)) (hts (.static Lib.Math.min.name) (List.mem_of_getElem? (i := 6) rfl)) (hts (.initialized "java/lang/Math") (List.mem_of_getElem? (i := 3) rfl)) (hts (.code Lib.Math.min.name Lib.Math.min.code 2 (some .int)) (List.mem_of_getElem? (i := 7) rfl)) (Nat.le_of_ble_eq_true rfl) (Nat.le_of_ble_eq_true rfl) (Nat.zero_le _) (Nat.zero_le _) dX0_weeksUntilNextSpoils_47 ?_
            refine lv_istore_n (lv' := [(2, .int (if (if (1 : Int32) < u5 then u5 else (1 : Int32)) < x2 then (if (1 : Int32) < u5 then u5 else (1 : Int32)) else x2)), (4, .int (if (1 : Int32) < u5 then u5 else (1 : Int32))), (0, .ref (adB 0)), (1, .int p1), (3, .int x3)]) hx hb dX0_weeksUntilNextSpoils_50 rfl hl (by decide) rfl (fun ls hl => ?_)
            refine lv_iinc (v := (x3 + (1 : Int32))) (lv' := [(3, .int (x3 + (1 : Int32))), (2, .int (if (if (1 : Int32) < u5 then u5 else (1 : Int32)) < x2 then (if (1 : Int32) < u5 then u5 else (1 : Int32)) else x2)), (4, .int (if (1 : Int32) < u5 then u5 else (1 : Int32))), (0, .ref (adB 0)), (1, .int p1)]) hx hb dX0_weeksUntilNextSpoils_51 hl (k := 4) rfl rfl (by decide) rfl (fun ls hl => ?_)
            refine lv_goto (tgt := 4) hx hb dX0_weeksUntilNextSpoils_54 (by decide) ?_
            exact ih4 (if (if (1 : Int32) < u5 then u5 else (1 : Int32)) < x2 then (if (1 : Int32) < u5 then u5 else (1 : Int32)) else x2) (x3 + (1 : Int32)) _ _ _ h hP hD hS (lv_sub hl [3, 4, 1, 0] rfl)
          · have h := (if_pos c6).symm.trans h
            refine lv_iload hx hb dX0_weeksUntilNextSpoils_39 (lv_at hl 0 rfl) ?_
            refine lv_goto (tgt := 50) hx hb dX0_weeksUntilNextSpoils_41 (by decide) ?_
            refine lv_istore_n (lv' := [(2, .int (if (1 : Int32) < u5 then u5 else (1 : Int32))), (4, .int (if (1 : Int32) < u5 then u5 else (1 : Int32))), (0, .ref (adB 0)), (1, .int p1), (3, .int x3)]) hx hb dX0_weeksUntilNextSpoils_50 rfl hl (by decide) rfl (fun ls hl => ?_)
            refine lv_iinc (v := (x3 + (1 : Int32))) (lv' := [(3, .int (x3 + (1 : Int32))), (2, .int (if (1 : Int32) < u5 then u5 else (1 : Int32))), (4, .int (if (1 : Int32) < u5 then u5 else (1 : Int32))), (0, .ref (adB 0)), (1, .int p1)]) hx hb dX0_weeksUntilNextSpoils_51 hl (k := 4) rfl rfl (by decide) rfl (fun ls hl => ?_)
            refine lv_goto (tgt := 4) hx hb dX0_weeksUntilNextSpoils_54 (by decide) ?_
            exact ih4 (if (1 : Int32) < u5 then u5 else (1 : Int32)) (x3 + (1 : Int32)) _ _ _ h hP hD hS (lv_sub hl [3, 4, 1, 0] rfl)
  have h := hf
  unfold X0_weeksUntilNextSpoils at h
  refine lv_iconst (v := (0 : Int32)) hx hb dX0_weeksUntilNextSpoils_0 (by decide) ?_
  refine lv_istore_n (lv' := [(2, .int (0 : Int32)), (0, .ref (adB 0)), (1, .int p1)]) hx hb dX0_weeksUntilNextSpoils_1 rfl hl (by decide) rfl (fun ls hl => ?_)
  refine lv_iconst (v := (0 : Int32)) hx hb dX0_weeksUntilNextSpoils_2 (by decide) ?_
  refine lv_istore_n (lv' := [(3, .int (0 : Int32)), (2, .int (0 : Int32)), (0, .ref (adB 0)), (1, .int p1)]) hx hb dX0_weeksUntilNextSpoils_3 rfl hl (by decide) rfl (fun ls hl => ?_)
  exact B4 FU (0 : Int32) (0 : Int32) _ _ _ h hP hD hS (lv_sub hl [2, 3, 1, 0] rfl)
theorem iw_X4_spoilsIn_X4 : ∀ w ∈ wsX40, w ∈ wsX4_spoilsIn := fun _ h => List.mem_cons_of_mem _ (List.mem_append_left _ (List.mem_append_right _ (h)))
set_option maxHeartbeats 4000000 in
set_option maxRecDepth 100000 in
theorem c_X4_spoilsIn (l : Launch) (D : va_G) (cA cQ : ClassId) (adF : Nat) (adB : Nat → Nat) (adT : Nat → Nat) (adH : Nat → Nat) (kH : Nat → Nat → Nat) (adR : Nat → Nat) (adO : Nat → Nat) (vB : St) (vT : St) (vH : St) (bH : Nat → St) (vR : St) (vO : St) (p1 : Int32) (o : Int32) (hf : X4_spoilsIn vB vT vH bH vR vO p1 = some o) : Cti l yX4_spoilsIn wsX4_spoilsIn ({ frames := 3, cells := 0, slots := 0, locals := 66 }) D (TY cA cQ) [.ref adF, .int p1] (wF cA cQ adF adB adT adH kH adR adO vB vT vH bH vR vO) (wF cA cQ adF adB adT adH kH adR adO vB vT vH bH vR vO) o := by
  refine Wk.i (cc := cX4_spoilsIn) (maxL := 3) (ret := (some .int)) (by decide) rfl (Nat.le_of_ble_eq_true rfl) ?_
  intro p e s m below meth c A ls hx hb hr hlocks hml hown hts hK hN hP hD hA hl
  have hown : s.vm.findClass RX4 = some m.cls := hown
  have hS : va_S A s.heap s.heap [] := va_S.rf
  have hl : lv_has ls 3 [(0, .ref adF), (1, .int p1)] := hl
  have h := hf
  unfold X4_spoilsIn at h
  refine lv_aload_n hx hb dX4_spoilsIn_0 rfl (lv_at hl 0 rfl) ?_
  refine va_get (D := D) (ci := 4) (v := .ref (adB 0)) (C := RX4) (T := TX4) (N := 5) hx hb hts iw_X4_spoilsIn_X4 hown hK hP 0 rfl rfl 0 (by decide) (hts (.fieldLink RX4 10 "FavourRings" "bank" "LFavourRings$Bank;") (List.mem_of_getElem? (i := 1) rfl)) (fun _ h9 => h9) rfl dX4_spoilsIn_1 ?_
  refine lv_iload_n hx hb dX4_spoilsIn_4 rfl (lv_at hl 1 rfl) ?_
  obtain ⟨u1, eu1, h⟩ := bd_in h
  refine kI (va_runV (As := [.int p1]) (rest := []) ⟨hx, hb, hml, hown, hts⟩ (c_X0_isPupil l D cA cQ adB vB p1 u1 eu1 _) (cwV 1 hts gX4_spoilsIn_X0_isPupil rfl rfl rfl (by decide +kernel) ⟨Nat.le_of_ble_eq_true rfl, Nat.le_of_ble_eq_true rfl⟩) (pV (ci := 0) (q := (RX0, TX0, 13)) hK hN hP hD [1, 2, 3, 4, 5, 6, 7, 8, 9, 10, 11, 12, 13, 14] rfl rfl rfl rfl) rfl rfl hl.1 rfl (lv_room (Nat.le_of_ble_eq_true rfl)) dX4_spoilsIn_5 ⟨Nat.zero_le _, Nat.zero_le _⟩) hP hD hS hA [1, 2, 3, 4, 5, 6, 7, 8, 9, 10, 11, 12, 13, 14] rfl rfl (ws' := (wF cA cQ adF adB adT adH kH adR adO vB vT vH bH vR vO)) rfl (fun H locs hP hD hS => ?_)
  refine lv_if_ne (tgt := 14) hx hb dX4_spoilsIn_8 (by decide) (fun c2 => ?_) (fun c2 => ?_)
  · have h := (if_neg c2).symm.trans h
    refine lv_aload_n hx hb dX4_spoilsIn_14 rfl (lv_at hl 0 rfl) ?_
    refine va_get (D := D) (ci := 4) (v := .ref (adB 0)) (C := RX4) (T := TX4) (N := 5) hx hb hts iw_X4_spoilsIn_X4 hown hK hP 0 rfl rfl 0 (by decide) (hts (.fieldLink RX4 10 "FavourRings" "bank" "LFavourRings$Bank;") (List.mem_of_getElem? (i := 1) rfl)) (fun _ h9 => h9) rfl dX4_spoilsIn_15 ?_
    refine lv_iload_n hx hb dX4_spoilsIn_18 rfl (lv_at hl 1 rfl) ?_
    obtain ⟨u3, eu3, h⟩ := bd_in h
    refine kI (va_runV (As := [.int p1]) (rest := []) ⟨hx, hb, hml, hown, hts⟩ (c_X0_weeksUntilNextSpoils l D cA cQ adB vB p1 u3 eu3 _) (cwV 1 hts gX4_spoilsIn_X0_weeksUntilNextSpoils rfl rfl rfl (by decide +kernel) ⟨Nat.le_of_ble_eq_true rfl, Nat.le_of_ble_eq_true rfl⟩) (pV (ci := 0) (q := (RX0, TX0, 13)) hK hN hP hD [1, 2, 3, 4, 5, 6, 7, 8, 9, 10, 11, 12, 13, 14] rfl rfl rfl rfl) rfl rfl hl.1 rfl (lv_room (Nat.le_of_ble_eq_true rfl)) dX4_spoilsIn_19 ⟨Nat.zero_le _, Nat.zero_le _⟩) hP hD hS hA [1, 2, 3, 4, 5, 6, 7, 8, 9, 10, 11, 12, 13, 14] rfl rfl (ws' := (wF cA cQ adF adB adT adH kH adR adO vB vT vH bH vR vO)) rfl (fun H locs hP hD hS => ?_)
    refine lv_istore_n (lv' := [(2, .int u3), (0, .ref adF), (1, .int p1)]) hx hb dX4_spoilsIn_22 rfl hl (by decide) rfl (fun ls hl => ?_)
    refine lv_iload_n hx hb dX4_spoilsIn_23 rfl (lv_at hl 0 rfl) ?_
    refine lv_if_le (tgt := 31) hx hb dX4_spoilsIn_24 (by decide) (fun c4 => ?_) (fun c4 => ?_)
    · have h := (if_pos c4).symm.trans h
      refine lv_ldc (v := (-1000004 : Int32)) hx hb hown (hts (.constant RX4 98 (-1000004)) (List.mem_of_getElem? (i := 3) rfl)) dX4_spoilsIn_31 ?_
      cases h
      exact endI hx hb hr hlocks hP hS rfl dX4_spoilsIn_33
    · have h := (if_neg c4).symm.trans h
      refine lv_iload_n hx hb dX4_spoilsIn_27 rfl (lv_at hl 0 rfl) ?_
      refine lv_goto (tgt := 33) hx hb dX4_spoilsIn_28 (by decide) ?_
      cases h
      exact endI hx hb hr hlocks hP hS rfl dX4_spoilsIn_33
  · have h := (if_pos c2).symm.trans h
    refine lv_ldc (v := (-1000001 : Int32)) hx hb hown (hts (.constant RX4 81 (-1000001)) (List.mem_of_getElem? (i := 2) rfl)) dX4_spoilsIn_11 ?_
    cases h
    exact endI hx hb hr hlocks hP hS rfl dX4_spoilsIn_13
set_option maxHeartbeats 4000000 in
set_option maxRecDepth 100000 in
theorem c_X4_isMany (l : Launch) (D : va_G) (cA cQ : ClassId) (p0 : Int32) (o : Int32) (hf : X4_isMany p0 = some o) : Cti l yX4_isMany wsX4_isMany ({ frames := 0, cells := 0, slots := 0, locals := 0 }) D (TY cA cQ) [.int p0] ([] : va_W) ([] : va_W) o := by
  refine Wk.i (cc := cX4_isMany) (maxL := 1) (ret := (some .boolean)) (by decide) rfl (Nat.le_of_ble_eq_true rfl) ?_
  intro p e s m below meth c A ls hx hb hr hlocks hml hown hts hK hN hP hD hA hl
  have hown : s.vm.findClass RX4 = some m.cls := hown
  have hS : va_S A s.heap s.heap [] := va_S.rf
  have hl : lv_has ls 1 [(0, .int p0)] := hl
  have h := hf
  unfold X4_isMany at h
  refine lv_iload_n hx hb dX4_isMany_0 rfl (lv_at hl 0 rfl) ?_
  refine lv_iconst (v := (1 : Int32)) hx hb dX4_isMany_1 (by decide) ?_
  refine lv_icmp_lt (tgt := 15) hx hb dX4_isMany_2 (by decide) (fun c1 => ?_) (fun c1 => ?_)
  · have h := (if_pos c1).symm.trans h
    refine lv_iconst (v := (0 : Int32)) hx hb dX4_isMany_15 (by decide) ?_
    cases h
    exact endZ hx hb hr hlocks hP hS ⟨rfl, rfl⟩ dX4_isMany_16
  · have h := (if_neg c1).symm.trans h
    refine lv_iload_n hx hb dX4_isMany_5 rfl (lv_at hl 0 rfl) ?_
    refine lv_bipush (v := (9 : Int32)) hx hb dX4_isMany_6 (by decide) ?_
    refine lv_icmp_gt (tgt := 15) hx hb dX4_isMany_8 (by decide) (fun c2 => ?_) (fun c2 => ?_)
    · have h := (if_pos c2).symm.trans h
      refine lv_iconst (v := (0 : Int32)) hx hb dX4_isMany_15 (by decide) ?_
      cases h
      exact endZ hx hb hr hlocks hP hS ⟨rfl, rfl⟩ dX4_isMany_16
    · have h := (if_neg c2).symm.trans h
      refine lv_iconst (v := (1 : Int32)) hx hb dX4_isMany_11 (by decide) ?_
      refine lv_goto (tgt := 16) hx hb dX4_isMany_12 (by decide) ?_
      cases h
      exact endZ hx hb hr hlocks hP hS ⟨rfl, rfl⟩ dX4_isMany_16

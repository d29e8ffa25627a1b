theorem iw_X0_number_X0 : ∀ w ∈ wsX00, w ∈ wsX0_number := fun _ h => List.mem_cons_of_mem _ (List.mem_append_right _ (h))
set_option maxHeartbeats 4000000 in
set_option maxRecDepth 100000 in
theorem c_X0_number (l : Launch) (D : va_G) (cA cQ : ClassId) (adB : Nat → Nat) (vB : St) (p1 : Int32) (o : Int32) (hf : X0_number vB p1 = some o) : Cti l yX0_number wsX0_number ({ frames := 0, cells := 0, slots := 0, locals := 0 }) D (TY cA cQ) [.ref (adB 0), .int p1] (wB cA adB vB) (wB cA adB vB) o := by
  refine Wk.i (cc := cX0_number) (maxL := 2) (ret := (some .int)) (by decide) rfl (Nat.le_of_ble_eq_true rfl) ?_
  intro p e s m below meth c A ls hx hb hr hlocks hml hown hts hK hN hP hD hA hl
  have hown : s.vm.findClass RX0 = some m.cls := hown
  have hS : va_S A s.heap s.heap [] := va_S.rf
  have hl : lv_has ls 2 [(0, .ref (adB 0)), (1, .int p1)] := hl
  have h := hf
  unfold X0_number at h
  refine lv_iload_n hx hb dX0_number_0 rfl (lv_at hl 1 rfl) ?_
  refine lv_if_lt (tgt := 22) hx hb dX0_number_1 (by decide) (fun c1 => ?_) (fun c1 => ?_)
  · have h := (if_pos c1).symm.trans h
    refine lv_iconst (v := (0 : Int32)) hx hb dX0_number_22 (by decide) ?_
    cases h
    exact endI hx hb hr hlocks hP hS rfl dX0_number_23
  · have h := (if_neg c1).symm.trans h
    refine lv_iload_n hx hb dX0_number_4 rfl (lv_at hl 1 rfl) ?_
    refine lv_aload_n hx hb dX0_number_5 rfl (lv_at hl 0 rfl) ?_
    refine va_get (D := D) (ci := 0) (v := .ref (adB 1)) (C := RX0) (T := TX0) (N := 13) hx hb hts iw_X0_number_X0 hown hK hP 0 rfl rfl 0 (by decide) (hts (.fieldLink RX0 9 "FavourRings$Bank" "numbers" "[I") (List.mem_of_getElem? (i := 1) rfl)) (fun _ h9 => h9) rfl dX0_number_6 ?_
    refine va_alen hx hb hK hP 1 0 rfl rfl (v := (26 : Int32)) rfl dX0_number_9 ?_
    refine lv_icmp_ge (tgt := 22) hx hb dX0_number_10 (by decide) (fun c2 => ?_) (fun c2 => ?_)
    · have h := (if_pos c2).symm.trans h
      refine lv_iconst (v := (0 : Int32)) hx hb dX0_number_22 (by decide) ?_
      cases h
      exact endI hx hb hr hlocks hP hS rfl dX0_number_23
    · have h := (if_neg c2).symm.trans h
      refine lv_aload_n hx hb dX0_number_13 rfl (lv_at hl 0 rfl) ?_
      refine va_get (D := D) (ci := 0) (v := .ref (adB 1)) (C := RX0) (T := TX0) (N := 13) hx hb hts iw_X0_number_X0 hown hK hP 0 rfl rfl 0 (by decide) (hts (.fieldLink RX0 9 "FavourRings$Bank" "numbers" "[I") (List.mem_of_getElem? (i := 1) rfl)) (fun _ h9 => h9) rfl dX0_number_14 ?_
      refine lv_iload_n hx hb dX0_number_17 rfl (lv_at hl 1 rfl) ?_
      obtain ⟨y3, ey3, h⟩ := bd_in h
      refine ldR hx hb hK hP 1 0 rfl rfl ey3 dX0_number_18 ?_
      refine lv_goto (tgt := 23) hx hb dX0_number_19 (by decide) ?_
      cases h
      exact endI hx hb hr hlocks hP hS rfl dX0_number_23
set_option maxHeartbeats 4000000 in
set_option maxRecDepth 100000 in
theorem c_X4_put (l : Launch) (D : va_G) (cA cQ : ClassId) (a1 : Nat) (n1 : Nat) (f1 : Nat → Int32) (p1 : Int32) (p2 : Int32) (o : (Nat → Int32)) (hf : X4_put f1 n1 p1 p2 = some o) : Ctv l yX4_put wsX4_put ({ frames := 0, cells := 0, slots := 0, locals := 0 }) D (TY cA cQ) [.ref a1, .int p1, .int p2] (wA cA a1 n1 f1) (wA cA a1 n1 o) := by
  refine Wk.v (cc := cX4_put) (maxL := 3) (ret := none) (by decide) rfl (Nat.le_of_ble_eq_true rfl) ?_
  intro p e s m below meth c A ls hx hb hr hlocks hml hown hts hK hN hP hD hA hl
  have hown : s.vm.findClass RX4 = some m.cls := hown
  have hS : va_S A s.heap s.heap [] := va_S.rf
  have hl : lv_has ls 3 [(0, .ref a1), (1, .int p1), (2, .int p2)] := hl
  have h := hf
  unfold X4_put at h
  refine lv_iload_n hx hb dX4_put_0 rfl (lv_at hl 1 rfl) ?_
  refine lv_if_lt (tgt := 14) hx hb dX4_put_1 (by decide) (fun c1 => ?_) (fun c1 => ?_)
  · have h := (if_pos c1).symm.trans h
    cases h
    exact endV hx hb hr hlocks hP hS dX4_put_14
  · have h := (if_neg c1).symm.trans h
    refine lv_iload_n hx hb dX4_put_4 rfl (lv_at hl 1 rfl) ?_
    refine lv_aload_n hx hb dX4_put_5 rfl (lv_at hl 0 rfl) ?_
    refine va_alen hx hb hK hP 0 0 rfl rfl (v := (Int32.ofNat n1)) rfl dX4_put_6 ?_
    refine lv_icmp_ge (tgt := 14) hx hb dX4_put_7 (by decide) (fun c2 => ?_) (fun c2 => ?_)
    · have h := (if_pos c2).symm.trans h
      cases h
      exact endV hx hb hr hlocks hP hS dX4_put_14
    · have h := (if_neg c2).symm.trans h
      refine lv_aload_n hx hb dX4_put_10 rfl (lv_at hl 0 rfl) ?_
      refine lv_iload_n hx hb dX4_put_11 rfl (lv_at hl 1 rfl) ?_
      refine lv_iload_n hx hb dX4_put_12 rfl (lv_at hl 2 rfl) ?_
      obtain ⟨g3, eg3, h⟩ := bd_in h
      refine stR hx hb hK hP hD hS 0 0 rfl rfl eg3 (ws' := (wA cA a1 n1 g3)) rfl dX4_put_13 (fun H locs hP hD hS => ?_)
      cases h
      exact endV hx hb hr hlocks hP hS dX4_put_14
set_option maxHeartbeats 4000000 in
set_option maxRecDepth 100000 in
theorem c_X4_add (l : Launch) (D : va_G) (cA cQ : ClassId) (a1 : Nat) (n1 : Nat) (f1 : Nat → Int32) (p1 : Int32) (p2 : Int32) (o : (Nat → Int32)) (hf : X4_add f1 n1 p1 p2 = some o) : Ctv l yX4_add wsX4_add ({ frames := 0, cells := 0, slots := 0, locals := 0 }) D (TY cA cQ) [.ref a1, .int p1, .int p2] (wA cA a1 n1 f1) (wA cA a1 n1 o) := by
  refine Wk.v (cc := cX4_add) (maxL := 3) (ret := none) (by decide) rfl (Nat.le_of_ble_eq_true rfl) ?_
  intro p e s m below meth c A ls hx hb hr hlocks hml hown hts hK hN hP hD hA hl
  have hown : s.vm.findClass RX4 = some m.cls := hown
  have hS : va_S A s.heap s.heap [] := va_S.rf
  have hl : lv_has ls 3 [(0, .ref a1), (1, .int p1), (2, .int p2)] := hl
  have h := hf
  unfold X4_add at h
  refine lv_iload_n hx hb dX4_add_0 rfl (lv_at hl 1 rfl) ?_
  refine lv_if_lt (tgt := 17) hx hb dX4_add_1 (by decide) (fun c1 => ?_) (fun c1 => ?_)
  · have h := (if_pos c1).symm.trans h
    cases h
    exact endV hx hb hr hlocks hP hS dX4_add_17
  · have h := (if_neg c1).symm.trans h
    refine lv_iload_n hx hb dX4_add_4 rfl (lv_at hl 1 rfl) ?_
    refine lv_aload_n hx hb dX4_add_5 rfl (lv_at hl 0 rfl) ?_
    refine va_alen hx hb hK hP 0 0 rfl rfl (v := (Int32.ofNat n1)) rfl dX4_add_6 ?_
    refine lv_icmp_ge (tgt := 17) hx hb dX4_add_7 (by decide) (fun c2 => ?_) (fun c2 => ?_)
    · have h := (if_pos c2).symm.trans h
      cases h
      exact endV hx hb hr hlocks hP hS dX4_add_17
    · have h := (if_neg c2).symm.trans h
      refine lv_aload_n hx hb dX4_add_10 rfl (lv_at hl 0 rfl) ?_
      refine lv_iload_n hx hb dX4_add_11 rfl (lv_at hl 1 rfl) ?_
      refine lv_dup2_11 hx hb dX4_add_12 rfl rfl ?_
      obtain ⟨y3, ey3, h⟩ := bd_in h
      refine ldR hx hb hK hP 0 0 rfl rfl ey3 dX4_add_13 ?_
      refine lv_iload_n hx hb dX4_add_14 rfl (lv_at hl 2 rfl) ?_
      refine lv_iadd hx hb dX4_add_15 ?_
      obtain ⟨g4, eg4, h⟩ := bd_in h
      refine stR hx hb hK hP hD hS 0 0 rfl rfl eg4 (ws' := (wA cA a1 n1 g4)) rfl dX4_add_16 (fun H locs hP hD hS => ?_)
      cases h
      exact endV hx hb hr hlocks hP hS dX4_add_17
theorem iw_X0_addLot_X0 : ∀ w ∈ wsX00, w ∈ wsX0_addLot := fun _ h => List.mem_cons_of_mem _ (List.mem_append_right _ (h))
set_option maxHeartbeats 4000000 in
set_option maxRecDepth 100000 in
theorem c_X0_addLot (l : Launch) (D : va_G) (cA cQ : ClassId) (adB : Nat → Nat) (vB : St) (p1 : Int32) (p2 : Int32) (p3 : Int32) (p4 : Int32) (o : St) (hf : X0_addLot vB p1 p2 p3 p4 = some o) : Ctv l yX0_addLot wsX0_addLot ({ frames := 1, cells := 0, slots := 0, locals := 22 }) D (TY cA cQ) [.ref (adB 0), .int p1, .int p2, .int p3, .int p4] (wB cA adB vB) (wB cA adB o) := by
  refine Wk.v (cc := cX0_addLot) (maxL := 6) (ret := none) (by decide) rfl (Nat.le_of_ble_eq_true rfl) ?_
  intro p e s m below meth c A ls hx hb hr hlocks hml hown hts hK hN hP hD hA hl
  have hown : s.vm.findClass RX0 = some m.cls := hown
  have hS : va_S A s.heap s.heap [] := va_S.rf
  have hl : lv_has ls 6 [(0, .ref (adB 0)), (1, .int p1), (2, .int p2), (3, .int p3), (4, .int p4)] := hl
  have h := hf
  unfold X0_addLot at h
  refine lv_aload_n hx hb dX0_addLot_0 rfl (lv_at hl 0 rfl) ?_
  refine lv_iconst (v := (2 : Int32)) hx hb dX0_addLot_1 (by decide) ?_
  obtain ⟨u1, eu1, h⟩ := bd_in h
  refine kI (va_runV (As := [.int (2 : Int32)]) (rest := []) ⟨hx, hb, hml, hown, hts⟩ (c_X0_number l D cA cQ adB vB (2 : Int32) u1 eu1 _) (cwV 1 hts gX0_addLot_X0_number rfl rfl rfl (by decide +kernel) ⟨Nat.le_of_ble_eq_true rfl, Nat.le_of_ble_eq_true rfl⟩) (pV (ci := 0) (q := (RX0, TX0, 13)) hK hN hP hD [0, 1, 2, 3, 4, 5, 6, 7, 8, 9, 10, 11, 12, 13] rfl rfl rfl rfl) rfl rfl hl.1 rfl (lv_room (Nat.le_of_ble_eq_true rfl)) dX0_addLot_2 ⟨Nat.zero_le _, Nat.zero_le _⟩) hP hD hS hA [0, 1, 2, 3, 4, 5, 6, 7, 8, 9, 10, 11, 12, 13] rfl rfl (ws' := (wB cA adB vB)) rfl (fun H locs hP hD hS => ?_)
  refine lv_istore (lv' := [(5, .int u1), (0, .ref (adB 0)), (1, .int p1), (2, .int p2), (3, .int p3), (4, .int p4)]) hx hb dX0_addLot_5 hl (by decide) rfl (fun ls hl => ?_)
  refine lv_aload_n hx hb dX0_addLot_7 rfl (lv_at hl 1 rfl) ?_
  refine va_get (D := D) (ci := 0) (v := .ref (adB 8)) (C := RX0) (T := TX0) (N := 13) hx hb hts iw_X0_addLot_X0 hown hK hP 0 rfl rfl 7 (by decide) (hts (.fieldLink RX0 33 "FavourRings$Bank" "debtors" "[I") (List.mem_of_getElem? (i := 1) rfl)) (fun _ h9 => h9) rfl dX0_addLot_8 ?_
  refine lv_iload hx hb dX0_addLot_11 (lv_at hl 0 rfl) ?_
  refine lv_iload_n hx hb dX0_addLot_13 rfl (lv_at hl 2 rfl) ?_
  obtain ⟨u2, eu2, h⟩ := bd_in h
  refine kV (va_runSN (As := [.ref (adB 8), .int u1, .int p1]) (rest := []) ⟨hx, hb, hml, hown, hts⟩ (c_X4_put l D cA cQ (adB 8) 40 (vB 8) u1 p1 u2 eu2 _) ⟨va_cnB 3 hts gX0_addLot_X4_put_n55 rfl rfl rfl hN.2.1 (hts (.initialized RX4) (List.mem_of_getElem? (i := 14) rfl)) (by decide +kernel) ⟨Nat.le_of_ble_eq_true rfl, Nat.le_of_ble_eq_true rfl⟩, (hts (.static yX4_put) (List.mem_of_getElem? (i := 13) rfl)), trivial⟩ (pS hK hN hP hD [8] rfl rfl) rfl rfl hl.1 rfl (lv_room (Nat.le_of_ble_eq_true rfl)) dX0_addLot_14 ⟨Nat.zero_le _, Nat.zero_le _⟩) hP hD hS hA [8] rfl rfl (ws' := (wB cA adB (setA vB 8 u2))) rfl (fun H locs hP hD hS => ?_)
  refine lv_aload_n hx hb dX0_addLot_17 rfl (lv_at hl 1 rfl) ?_
  refine va_get (D := D) (ci := 0) (v := .ref (adB 9)) (C := RX0) (T := TX0) (N := 13) hx hb hts iw_X0_addLot_X0 hown hK hP 0 rfl rfl 8 (by decide) (hts (.fieldLink RX0 36 "FavourRings$Bank" "creditors" "[I") (List.mem_of_getElem? (i := 2) rfl)) (fun _ h9 => h9) rfl dX0_addLot_18 ?_
  refine lv_iload hx hb dX0_addLot_21 (lv_at hl 0 rfl) ?_
  refine lv_iload_n hx hb dX0_addLot_23 rfl (lv_at hl 3 rfl) ?_
  obtain ⟨u3, eu3, h⟩ := bd_in h
  refine kV (va_runSN (As := [.ref (adB 9), .int u1, .int p2]) (rest := []) ⟨hx, hb, hml, hown, hts⟩ (c_X4_put l D cA cQ (adB 9) 40 (vB 9) u1 p2 u3 eu3 _) ⟨va_cnB 3 hts gX0_addLot_X4_put_n55 rfl rfl rfl hN.2.1 (hts (.initialized RX4) (List.mem_of_getElem? (i := 14) rfl)) (by decide +kernel) ⟨Nat.le_of_ble_eq_true rfl, Nat.le_of_ble_eq_true rfl⟩, (hts (.static yX4_put) (List.mem_of_getElem? (i := 13) rfl)), trivial⟩ (pS hK hN hP hD [9] rfl rfl) rfl rfl hl.1 rfl (lv_room (Nat.le_of_ble_eq_true rfl)) dX0_addLot_24 ⟨Nat.zero_le _, Nat.zero_le _⟩) hP hD hS hA [9] rfl rfl (ws' := (wB cA adB (setA (setA vB 8 u2) 9 u3))) rfl (fun H locs hP hD hS => ?_)
  refine lv_aload_n hx hb dX0_addLot_27 rfl (lv_at hl 1 rfl) ?_
  refine va_get (D := D) (ci := 0) (v := .ref (adB 10)) (C := RX0) (T := TX0) (N := 13) hx hb hts iw_X0_addLot_X0 hown hK hP 0 rfl rfl 9 (by decide) (hts (.fieldLink RX0 39 "FavourRings$Bank" "kinds" "[I") (List.mem_of_getElem? (i := 3) rfl)) (fun _ h9 => h9) rfl dX0_addLot_28 ?_
  refine lv_iload hx hb dX0_addLot_31 (lv_at hl 0 rfl) ?_
  refine lv_iload_n hx hb dX0_addLot_33 rfl (lv_at hl 4 rfl) ?_
  obtain ⟨u4, eu4, h⟩ := bd_in h
  refine kV (va_runSN (As := [.ref (adB 10), .int u1, .int p3]) (rest := []) ⟨hx, hb, hml, hown, hts⟩ (c_X4_put l D cA cQ (adB 10) 40 (vB 10) u1 p3 u4 eu4 _) ⟨va_cnB 3 hts gX0_addLot_X4_put_n55 rfl rfl rfl hN.2.1 (hts (.initialized RX4) (List.mem_of_getElem? (i := 14) rfl)) (by decide +kernel) ⟨Nat.le_of_ble_eq_true rfl, Nat.le_of_ble_eq_true rfl⟩, (hts (.static yX4_put) (List.mem_of_getElem? (i := 13) rfl)), trivial⟩ (pS hK hN hP hD [10] rfl rfl) rfl rfl hl.1 rfl (lv_room (Nat.le_of_ble_eq_true rfl)) dX0_addLot_34 ⟨Nat.zero_le _, Nat.zero_le _⟩) hP hD hS hA [10] rfl rfl (ws' := (wB cA adB (setA (setA (setA vB 8 u2) 9 u3) 10 u4))) rfl (fun H locs hP hD hS => ?_)
  refine lv_aload_n hx hb dX0_addLot_37 rfl (lv_at hl 1 rfl) ?_
  refine va_get (D := D) (ci := 0) (v := .ref (adB 11)) (C := RX0) (T := TX0) (N := 13) hx hb hts iw_X0_addLot_X0 hown hK hP 0 rfl rfl 10 (by decide) (hts (.fieldLink RX0 42 "FavourRings$Bank" "sizes" "[I") (List.mem_of_getElem? (i := 4) rfl)) (fun _ h9 => h9) rfl dX0_addLot_38 ?_
  refine lv_iload hx hb dX0_addLot_41 (lv_at hl 0 rfl) ?_
  refine lv_iload hx hb dX0_addLot_43 (lv_at hl 5 rfl) ?_
  obtain ⟨u5, eu5, h⟩ := bd_in h
  refine kV (va_runSN (As := [.ref (adB 11), .int u1, .int p4]) (rest := []) ⟨hx, hb, hml, hown, hts⟩ (c_X4_put l D cA cQ (adB 11) 40 (vB 11) u1 p4 u5 eu5 _) ⟨va_cnB 3 hts gX0_addLot_X4_put_n55 rfl rfl rfl hN.2.1 (hts (.initialized RX4) (List.mem_of_getElem? (i := 14) rfl)) (by decide +kernel) ⟨Nat.le_of_ble_eq_true rfl, Nat.le_of_ble_eq_true rfl⟩, (hts (.static yX4_put) (List.mem_of_getElem? (i := 13) rfl)), trivial⟩ (pS hK hN hP hD [11] rfl rfl) rfl rfl hl.1 rfl (lv_room (Nat.le_of_ble_eq_true rfl)) dX0_addLot_45 ⟨Nat.zero_le _, Nat.zero_le _⟩) hP hD hS hA [11] rfl rfl (ws' := (wB cA adB (setA (setA (setA (setA vB 8 u2) 9 u3) 10 u4) 11 u5))) rfl (fun H locs hP hD hS => ?_)
  refine lv_aload_n hx hb dX0_addLot_48 rfl (lv_at hl 1 rfl) ?_
  refine va_get (D := D) (ci := 0) (v := .ref (adB 12)) (C := RX0) (T := TX0) (N := 13) hx hb hts iw_X0_addLot_X0 hown hK hP 0 rfl rfl 11 (by decide) (hts (.fieldLink RX0 45 "FavourRings$Bank" "ages" "[I") (List.mem_of_getElem? (i := 5) rfl)) (fun _ h9 => h9) rfl dX0_addLot_49 ?_
  refine lv_iload hx hb dX0_addLot_52 (lv_at hl 0 rfl) ?_
  refine lv_iconst (v := (0 : Int32)) hx hb dX0_addLot_54 (by decide) ?_
  obtain ⟨u6, eu6, h⟩ := bd_in h
  refine kV (va_runSN (As := [.ref (adB 12), .int u1, .int (0 : Int32)]) (rest := []) ⟨hx, hb, hml, hown, hts⟩ (c_X4_put l D cA cQ (adB 12) 40 (vB 12) u1 (0 : Int32) u6 eu6 _) ⟨va_cnB 3 hts gX0_addLot_X4_put_n55 rfl rfl rfl hN.2.1 (hts (.initialized RX4) (List.mem_of_getElem? (i := 14) rfl)) (by decide +kernel) ⟨Nat.le_of_ble_eq_true rfl, Nat.le_of_ble_eq_true rfl⟩, (hts (.static yX4_put) (List.mem_of_getElem? (i := 13) rfl)), trivial⟩ (pS hK hN hP hD [12] rfl rfl) rfl rfl hl.1 rfl (lv_room (Nat.le_of_ble_eq_true rfl)) dX0_addLot_55 ⟨Nat.zero_le _, Nat.zero_le _⟩) hP hD hS hA [12] rfl rfl (ws' := (wB cA adB (setA (setA (setA (setA (setA vB 8 u2) 9 u3) 10 u4) 11 u5) 12 u6))) rfl (fun H locs hP hD hS => ?_)
  refine lv_aload_n hx hb dX0_addLot_58 rfl (lv_at hl 1 rfl) ?_
  refine va_get (D := D) (ci := 0) (v := .ref (adB 13)) (C := RX0) (T := TX0) (N := 13) hx hb hts iw_X0_addLot_X0 hown hK hP 0 rfl rfl 12 (by decide) (hts (.fieldLink RX0 48 "FavourRings$Bank" "passed" "[I") (List.mem_of_getElem? (i := 6) rfl)) (fun _ h9 => h9) rfl dX0_addLot_59 ?_
  refine lv_iload hx hb dX0_addLot_62 (lv_at hl 0 rfl) ?_
  refine lv_iconst (v := (0 : Int32)) hx hb dX0_addLot_64 (by decide) ?_
  obtain ⟨u7, eu7, h⟩ := bd_in h
  refine kV (va_runSN (As := [.ref (adB 13), .int u1, .int (0 : Int32)]) (rest := []) ⟨hx, hb, hml, hown, hts⟩ (c_X4_put l D cA cQ (adB 13) 40 (vB 13) u1 (0 : Int32) u7 eu7 _) ⟨va_cnB 3 hts gX0_addLot_X4_put_n55 rfl rfl rfl hN.2.1 (hts (.initialized RX4) (List.mem_of_getElem? (i := 14) rfl)) (by decide +kernel) ⟨Nat.le_of_ble_eq_true rfl, Nat.le_of_ble_eq_true rfl⟩, (hts (.static yX4_put) (List.mem_of_getElem? (i := 13) rfl)), trivial⟩ (pS hK hN hP hD [13] rfl rfl) rfl rfl hl.1 rfl (lv_room (Nat.le_of_ble_eq_true rfl)) dX0_addLot_65 ⟨Nat.zero_le _, Nat.zero_le _⟩) hP hD hS hA [13] rfl rfl (ws' := (wB cA adB (setA (setA (setA (setA (setA (setA vB 8 u2) 9 u3) 10 u4) 11 u5) 12 u6) 13 u7))) rfl (fun H locs hP hD hS => ?_)
  refine lv_aload_n hx hb dX0_addLot_68 rfl (lv_at hl 1 rfl) ?_
  refine va_get (D := D) (ci := 0) (v := .ref (adB 1)) (C := RX0) (T := TX0) (N := 13) hx hb hts iw_X0_addLot_X0 hown hK hP 0 rfl rfl 0 (by decide) (hts (.fieldLink RX0 9 "FavourRings$Bank" "numbers" "[I") (List.mem_of_getElem? (i := 7) rfl)) (fun _ h9 => h9) rfl dX0_addLot_69 ?_
  refine lv_iconst (v := (2 : Int32)) hx hb dX0_addLot_72 (by decide) ?_
  refine lv_iconst (v := (1 : Int32)) hx hb dX0_addLot_73 (by decide) ?_
  obtain ⟨u8, eu8, h⟩ := bd_in h
  refine kV (va_runSN (As := [.ref (adB 1), .int (2 : Int32), .int (1 : Int32)]) (rest := []) ⟨hx, hb, hml, hown, hts⟩ (c_X4_add l D cA cQ (adB 1) 26 (vB 1) (2 : Int32) (1 : Int32) u8 eu8 _) ⟨va_cnB 3 hts gX0_addLot_X4_add_n86 rfl rfl rfl hN.2.2.2.2.1 (hts (.initialized RX4) (List.mem_of_getElem? (i := 14) rfl)) (by decide +kernel) ⟨Nat.le_of_ble_eq_true rfl, Nat.le_of_ble_eq_true rfl⟩, (hts (.static yX4_add) (List.mem_of_getElem? (i := 16) rfl)), trivial⟩ (pS hK hN hP hD [1] rfl rfl) rfl rfl hl.1 rfl (lv_room (Nat.le_of_ble_eq_true rfl)) dX0_addLot_74 ⟨Nat.zero_le _, Nat.zero_le _⟩) hP hD hS hA [1] rfl rfl (ws' := (wB cA adB (setA (setA (setA (setA (setA (setA (setA vB 8 u2) 9 u3) 10 u4) 11 u5) 12 u6) 13 u7) 1 u8))) rfl (fun H locs hP hD hS => ?_)
  cases h
  exact endV hx hb hr hlocks hP hS dX0_addLot_77
theorem iw_X0_addPupil_X0 : ∀ w ∈ wsX00, w ∈ wsX0_addPupil := fun _ h => List.mem_cons_of_mem _ (List.mem_append_right _ (h))
set_option maxHeartbeats 4000000 in
set_option maxRecDepth 100000 in
theorem c_X0_addPupil (l : Launch) (D : va_G) (cA cQ : ClassId) (adB : Nat → Nat) (vB : St) (o : Int32 × St) (hf : X0_addPupil vB = some o) : Cti l yX0_addPupil wsX0_addPupil ({ frames := 1, cells := 0, slots := 0, locals := 22 }) D (TY cA cQ) [.ref (adB 0)] (wB cA adB vB) (wB cA adB o.2) o.1 := by
  refine Wk.i (cc := cX0_addPupil) (maxL := 1) (ret := (some .int)) (by decide) rfl (Nat.le_of_ble_eq_true rfl) ?_
  intro p e s m below meth c A ls hx hb hr hlocks hml hown hts hK hN hP hD hA hl
  have hown : s.vm.findClass RX0 = some m.cls := hown
  have hS : va_S A s.heap s.heap [] := va_S.rf
  have hl : lv_has ls 1 [(0, .ref (adB 0))] := hl
  have h := hf
  unfold X0_addPupil at h
  refine lv_aload_n hx hb dX0_addPupil_0 rfl (lv_at hl 0 rfl) ?_
  refine lv_iconst (v := (1 : Int32)) hx hb dX0_addPupil_1 (by decide) ?_
  obtain ⟨u1, eu1, h⟩ := bd_in h
  refine kI (va_runV (As := [.int (1 : Int32)]) (rest := []) ⟨hx, hb, hml, hown, hts⟩ (c_X0_number l D cA cQ adB vB (1 : Int32) u1 eu1 _) (cwV 1 hts gX0_addPupil_X0_number rfl rfl rfl (by decide +kernel) ⟨Nat.le_of_ble_eq_true rfl, Nat.le_of_ble_eq_true rfl⟩) (pV (ci := 0) (q := (RX0, TX0, 13)) hK hN hP hD [0, 1, 2, 3, 4, 5, 6, 7, 8, 9, 10, 11, 12, 13] rfl rfl rfl rfl) rfl rfl hl.1 rfl (lv_room (Nat.le_of_ble_eq_true rfl)) dX0_addPupil_2 ⟨Nat.zero_le _, Nat.zero_le _⟩) hP hD hS hA [0, 1, 2, 3, 4, 5, 6, 7, 8, 9, 10, 11, 12, 13] rfl rfl (ws' := (wB cA adB vB)) rfl (fun H locs hP hD hS => ?_)
  refine lv_bipush (v := (8 : Int32)) hx hb dX0_addPupil_5 (by decide) ?_
  refine lv_icmp_lt (tgt := 13) hx hb dX0_addPupil_7 (by decide) (fun c2 => ?_) (fun c2 => ?_)
  · have h := (if_pos c2).symm.trans h
    refine lv_aload_n hx hb dX0_addPupil_13 rfl (lv_at hl 0 rfl) ?_
    refine va_get (D := D) (ci := 0) (v := .ref (adB 1)) (C := RX0) (T := TX0) (N := 13) hx hb hts iw_X0_addPupil_X0 hown hK hP 0 rfl rfl 0 (by decide) (hts (.fieldLink RX0 9 "FavourRings$Bank" "numbers" "[I") (List.mem_of_getElem? (i := 2) rfl)) (fun _ h9 => h9) rfl dX0_addPupil_14 ?_
    refine lv_iconst (v := (1 : Int32)) hx hb dX0_addPupil_17 (by decide) ?_
    refine lv_iconst (v := (1 : Int32)) hx hb dX0_addPupil_18 (by decide) ?_
    obtain ⟨u3, eu3, h⟩ := bd_in h
    refine kV (va_runSN (As := [.ref (adB 1), .int (1 : Int32), .int (1 : Int32)]) (rest := []) ⟨hx, hb, hml, hown, hts⟩ (c_X4_add l D cA cQ (adB 1) 26 (vB 1) (1 : Int32) (1 : Int32) u3 eu3 _) ⟨va_cnB 3 hts gX0_addPupil_X4_add_n86 rfl rfl rfl hN.2.2.2.2.1 (hts (.initialized RX4) (List.mem_of_getElem? (i := 9) rfl)) (by decide +kernel) ⟨Nat.le_of_ble_eq_true rfl, Nat.le_of_ble_eq_true rfl⟩, (hts (.static yX4_add) (List.mem_of_getElem? (i := 8) rfl)), trivial⟩ (pS hK hN hP hD [1] rfl rfl) rfl rfl hl.1 rfl (lv_room (Nat.le_of_ble_eq_true rfl)) dX0_addPupil_19 ⟨Nat.zero_le _, Nat.zero_le _⟩) hP hD hS hA [1] rfl rfl (ws' := (wB cA adB (setA vB 1 u3))) rfl (fun H locs hP hD hS => ?_)
    refine lv_aload_n hx hb dX0_addPupil_22 rfl (lv_at hl 0 rfl) ?_
    refine lv_iconst (v := (1 : Int32)) hx hb dX0_addPupil_23 (by decide) ?_
    obtain ⟨u4, eu4, h⟩ := bd_in h
    refine kI (va_runV (As := [.int (1 : Int32)]) (rest := []) ⟨hx, hb, hml, hown, hts⟩ (c_X0_number l D cA cQ adB (setA vB 1 u3) (1 : Int32) u4 eu4 _) (cwV 1 hts gX0_addPupil_X0_number rfl rfl rfl (by decide +kernel) ⟨Nat.le_of_ble_eq_true rfl, Nat.le_of_ble_eq_true rfl⟩) (pV (ci := 0) (q := (RX0, TX0, 13)) hK hN hP hD [0, 1, 2, 3, 4, 5, 6, 7, 8, 9, 10, 11, 12, 13] rfl rfl rfl rfl) rfl rfl hl.1 rfl (lv_room (Nat.le_of_ble_eq_true rfl)) dX0_addPupil_24 ⟨Nat.zero_le _, Nat.zero_le _⟩) hP hD hS hA [0, 1, 2, 3, 4, 5, 6, 7, 8, 9, 10, 11, 12, 13] rfl rfl (ws' := (wB cA adB (setA vB 1 u3))) rfl (fun H locs hP hD hS => ?_)
    refine lv_iconst (v := (1 : Int32)) hx hb dX0_addPupil_27 (by decide) ?_
    refine lv_isub hx hb dX0_addPupil_28 ?_
    cases h
    exact endI hx hb hr hlocks hP hS rfl dX0_addPupil_29
  · have h := (if_neg c2).symm.trans h
    refine lv_ldc (v := (-1000003 : Int32)) hx hb hown (hts (.constant RX0 85 (-1000003)) (List.mem_of_getElem? (i := 1) rfl)) dX0_addPupil_10 ?_
    cases h
    exact endI hx hb hr hlocks hP hS rfl dX0_addPupil_12
theorem iw_X0_isLotOf_X0 : ∀ w ∈ wsX00, w ∈ wsX0_isLotOf := fun _ h => List.mem_cons_of_mem _ (List.mem_append_right _ (h))
set_option maxHeartbeats 4000000 in
set_option maxRecDepth 100000 in
theorem c_X0_isLotOf (l : Launch) (D : va_G) (cA cQ : ClassId) (adB : Nat → Nat) (vB : St) (p1 : Int32) (p2 : Int32) (p3 : Int32) (p4 : Int32) (o : Int32) (hf : X0_isLotOf vB p1 p2 p3 p4 = some o) : Cti l yX0_isLotOf wsX0_isLotOf ({ frames := 0, cells := 0, slots := 0, locals := 0 }) D (TY cA cQ) [.ref (adB 0), .int p1, .int p2, .int p3, .int p4] (wB cA adB vB) (wB cA adB vB) o := by
  refine Wk.i (cc := cX0_isLotOf) (maxL := 5) (ret := (some .boolean)) (by decide) rfl (Nat.le_of_ble_eq_true rfl) ?_
  intro p e s m below meth c A ls hx hb hr hlocks hml hown hts hK hN hP hD hA hl
  have hown : s.vm.findClass RX0 = some m.cls := hown
  have hS : va_S A s.heap s.heap [] := va_S.rf
  have hl : lv_has ls 5 [(0, .ref (adB 0)), (1, .int p1), (2, .int p2), (3, .int p3), (4, .int p4)] := hl
  have B42 : ∀  (H : Heap) (locs : List Loc) (ls : Array Slot), X0_isLotOf_b42 vB p1 p2 p3 p4 = some o → va_P D vwCl (wB cA adB vB) H → va_D A (wB cA adB vB) → va_S A s.heap H locs → lv_has ls 5 [(0, .ref (adB 0)), (1, .int p1), (4, .int p4)] → W p l e (headSpec wsX0_isLotOf ({ frames := 0, cells := 0, slots := 0, locals := 0 })).room s m ([.ref (adB 0), .int p1, .int p2, .int p3, .int p4] : List Value).toArray below meth c H locs 0 0 (MQ below (QI D (wB cA adB vB) o A) ([.ref (adB 0), .int p1, .int p2, .int p3, .int p4] : List Value).toArray s 0 0 A) (F0 m 42 ls []) := by
    intro H locs ls h hP hD hS hl
    unfold X0_isLotOf_b42 at h
    refine lv_iload hx hb dX0_isLotOf_42 (lv_at hl 2 rfl) ?_
    refine lv_iconst (v := (-1 : Int32)) hx hb dX0_isLotOf_44 (by decide) ?_
    refine lv_icmp_eq (tgt := 59) hx hb dX0_isLotOf_45 (by decide) (fun c1 => ?_) (fun c1 => ?_)
    · have h := (if_pos c1).symm.trans h
      refine lv_iconst (v := (1 : Int32)) hx hb dX0_isLotOf_59 (by decide) ?_
      refine lv_goto (tgt := 64) hx hb dX0_isLotOf_60 (by decide) ?_
      cases h
      exact endZ hx hb hr hlocks hP hS ⟨rfl, rfl⟩ dX0_isLotOf_64
    · have h := (if_neg c1).symm.trans h
      refine lv_iload hx hb dX0_isLotOf_48 (lv_at hl 2 rfl) ?_
      refine lv_aload_n hx hb dX0_isLotOf_50 rfl (lv_at hl 0 rfl) ?_
      refine va_get (D := D) (ci := 0) (v := .ref (adB 10)) (C := RX0) (T := TX0) (N := 13) hx hb hts iw_X0_isLotOf_X0 hown hK hP 0 rfl rfl 9 (by decide) (hts (.fieldLink RX0 39 "FavourRings$Bank" "kinds" "[I") (List.mem_of_getElem? (i := 3) rfl)) (fun _ h9 => h9) rfl dX0_isLotOf_51 ?_
      refine lv_iload_n hx hb dX0_isLotOf_54 rfl (lv_at hl 1 rfl) ?_
      obtain ⟨y2, ey2, h⟩ := bd_in h
      refine ldR hx hb hK hP 10 0 rfl rfl ey2 dX0_isLotOf_55 ?_
      refine lv_icmp_ne (tgt := 63) hx hb dX0_isLotOf_56 (by decide) (fun c3 => ?_) (fun c3 => ?_)
      · have h := (if_neg c3).symm.trans h
        refine lv_iconst (v := (0 : Int32)) hx hb dX0_isLotOf_63 (by decide) ?_
        cases h
        exact endZ hx hb hr hlocks hP hS ⟨rfl, rfl⟩ dX0_isLotOf_64
      · have h := (if_pos c3).symm.trans h
        refine lv_iconst (v := (1 : Int32)) hx hb dX0_isLotOf_59 (by decide) ?_
        refine lv_goto (tgt := 64) hx hb dX0_isLotOf_60 (by decide) ?_
        cases h
        exact endZ hx hb hr hlocks hP hS ⟨rfl, rfl⟩ dX0_isLotOf_64
  have B27 : ∀  (H : Heap) (locs : List Loc) (ls : Array Slot), X0_isLotOf_b27 vB p1 p2 p3 p4 = some o → va_P D vwCl (wB cA adB vB) H → va_D A (wB cA adB vB) → va_S A s.heap H locs → lv_has ls 5 [(0, .ref (adB 0)), (1, .int p1), (3, .int p3), (4, .int p4)] → W p l e (headSpec wsX0_isLotOf ({ frames := 0, cells := 0, slots := 0, locals := 0 })).room s m ([.ref (adB 0), .int p1, .int p2, .int p3, .int p4] : List Value).toArray below meth c H locs 0 0 (MQ below (QI D (wB cA adB vB) o A) ([.ref (adB 0), .int p1, .int p2, .int p3, .int p4] : List Value).toArray s 0 0 A) (F0 m 27 ls []) := by
    intro H locs ls h hP hD hS hl
    unfold X0_isLotOf_b27 at h
    refine lv_iload_n hx hb dX0_isLotOf_27 rfl (lv_at hl 2 rfl) ?_
    refine lv_iconst (v := (-1 : Int32)) hx hb dX0_isLotOf_28 (by decide) ?_
    refine lv_icmp_eq (tgt := 42) hx hb dX0_isLotOf_29 (by decide) (fun c4 => ?_) (fun c4 => ?_)
    · have h := (if_pos c4).symm.trans h
      exact B42 _ _ _ h hP hD hS (lv_sub hl [0, 1, 3] rfl)
    · have h := (if_neg c4).symm.trans h
      refine lv_iload_n hx hb dX0_isLotOf_32 rfl (lv_at hl 2 rfl) ?_
      refine lv_aload_n hx hb dX0_isLotOf_33 rfl (lv_at hl 0 rfl) ?_
      refine va_get (D := D) (ci := 0) (v := .ref (adB 9)) (C := RX0) (T := TX0) (N := 13) hx hb hts iw_X0_isLotOf_X0 hown hK hP 0 rfl rfl 8 (by decide) (hts (.fieldLink RX0 36 "FavourRings$Bank" "creditors" "[I") (List.mem_of_getElem? (i := 2) rfl)) (fun _ h9 => h9) rfl dX0_isLotOf_34 ?_
      refine lv_iload_n hx hb dX0_isLotOf_37 rfl (lv_at hl 1 rfl) ?_
      obtain ⟨y5, ey5, h⟩ := bd_in h
      refine ldR hx hb hK hP 9 0 rfl rfl ey5 dX0_isLotOf_38 ?_
      refine lv_icmp_ne (tgt := 63) hx hb dX0_isLotOf_39 (by decide) (fun c6 => ?_) (fun c6 => ?_)
      · have h := (if_neg c6).symm.trans h
        refine lv_iconst (v := (0 : Int32)) hx hb dX0_isLotOf_63 (by decide) ?_
        cases h
        exact endZ hx hb hr hlocks hP hS ⟨rfl, rfl⟩ dX0_isLotOf_64
      · have h := (if_pos c6).symm.trans h
        exact B42 _ _ _ h hP hD hS (lv_sub hl [0, 1, 3] rfl)
  have h := hf
  unfold X0_isLotOf at h
  refine lv_iload_n hx hb dX0_isLotOf_0 rfl (lv_at hl 1 rfl) ?_
  refine lv_if_lt (tgt := 10) hx hb dX0_isLotOf_1 (by decide) (fun c7 => ?_) (fun c7 => ?_)
  · have h := (if_pos c7).symm.trans h
    refine lv_iconst (v := (0 : Int32)) hx hb dX0_isLotOf_10 (by decide) ?_
    cases h
    exact endZ hx hb hr hlocks hP hS ⟨rfl, rfl⟩ dX0_isLotOf_11
  · have h := (if_neg c7).symm.trans h
    refine lv_iload_n hx hb dX0_isLotOf_4 rfl (lv_at hl 1 rfl) ?_
    refine lv_bipush (v := (40 : Int32)) hx hb dX0_isLotOf_5 (by decide) ?_
    refine lv_icmp_lt (tgt := 12) hx hb dX0_isLotOf_7 (by decide) (fun c8 => ?_) (fun c8 => ?_)
    · have h := (if_pos c8).symm.trans h
      refine lv_iload_n hx hb dX0_isLotOf_12 rfl (lv_at hl 2 rfl) ?_
      refine lv_iconst (v := (-1 : Int32)) hx hb dX0_isLotOf_13 (by decide) ?_
      refine lv_icmp_eq (tgt := 27) hx hb dX0_isLotOf_14 (by decide) (fun c9 => ?_) (fun c9 => ?_)
      · have h := (if_pos c9).symm.trans h
        exact B27 _ _ _ h hP hD hS (lv_sub hl [0, 1, 3, 4] rfl)
      · have h := (if_neg c9).symm.trans h
        refine lv_iload_n hx hb dX0_isLotOf_17 rfl (lv_at hl 2 rfl) ?_
        refine lv_aload_n hx hb dX0_isLotOf_18 rfl (lv_at hl 0 rfl) ?_
        refine va_get (D := D) (ci := 0) (v := .ref (adB 8)) (C := RX0) (T := TX0) (N := 13) hx hb hts iw_X0_isLotOf_X0 hown hK hP 0 rfl rfl 7 (by decide) (hts (.fieldLink RX0 33 "FavourRings$Bank" "debtors" "[I") (List.mem_of_getElem? (i := 1) rfl)) (fun _ h9 => h9) rfl dX0_isLotOf_19 ?_
        refine lv_iload_n hx hb dX0_isLotOf_22 rfl (lv_at hl 1 rfl) ?_
        obtain ⟨y10, ey10, h⟩ := bd_in h
        refine ldR hx hb hK hP 8 0 rfl rfl ey10 dX0_isLotOf_23 ?_
        refine lv_icmp_ne (tgt := 63) hx hb dX0_isLotOf_24 (by decide) (fun c11 => ?_) (fun c11 => ?_)
        · have h := (if_neg c11).symm.trans h
          refine lv_iconst (v := (0 : Int32)) hx hb dX0_isLotOf_63 (by decide) ?_
          cases h
          exact endZ hx hb hr hlocks hP hS ⟨rfl, rfl⟩ dX0_isLotOf_64
        · have h := (if_pos c11).symm.trans h
          exact B27 _ _ _ h hP hD hS (lv_sub hl [0, 1, 3, 4] rfl)
    · have h := (if_neg c8).symm.trans h
      refine lv_iconst (v := (0 : Int32)) hx hb dX0_isLotOf_10 (by decide) ?_
      cases h
      exact endZ hx hb hr hlocks hP hS ⟨rfl, rfl⟩ dX0_isLotOf_11
set_option maxHeartbeats 4000000 in
set_option maxRecDepth 100000 in
theorem c_X4_at (l : Launch) (D : va_G) (cA cQ : ClassId) (a1 : Nat) (n1 : Nat) (f1 : Nat → Int32) (p1 : Int32) (o : Int32) (hf : X4_at f1 n1 p1 = some o) : Cti l yX4_at wsX4_at ({ frames := 0, cells := 0, slots := 0, locals := 0 }) D (TY cA cQ) [.ref a1, .int p1] (wA cA a1 n1 f1) (wA cA a1 n1 f1) o := by
  refine Wk.i (cc := cX4_at) (maxL := 2) (ret := (some .int)) (by decide) rfl (Nat.le_of_ble_eq_true rfl) ?_
  intro p e s m below meth c A ls hx hb hr hlocks hml hown hts hK hN hP hD hA hl
  have hown : s.vm.findClass RX4 = some m.cls := hown
  have hS : va_S A s.heap s.heap [] := va_S.rf
  have hl : lv_has ls 2 [(0, .ref a1), (1, .int p1)] := hl
  have h := hf
  unfold X4_at at h
  refine lv_iload_n hx hb dX4_at_0 rfl (lv_at hl 1 rfl) ?_
  refine lv_if_lt (tgt := 16) hx hb dX4_at_1 (by decide) (fun c1 => ?_) (fun c1 => ?_)
  · have h := (if_pos c1).symm.trans h
    refine lv_iconst (v := (0 : Int32)) hx hb dX4_at_16 (by decide) ?_
    cases h
    exact endI hx hb hr hlocks hP hS rfl dX4_at_17
  · have h := (if_neg c1).symm.trans h
    refine lv_iload_n hx hb dX4_at_4 rfl (lv_at hl 1 rfl) ?_
    refine lv_aload_n hx hb dX4_at_5 rfl (lv_at hl 0 rfl) ?_
    refine va_alen hx hb hK hP 0 0 rfl rfl (v := (Int32.ofNat n1)) rfl dX4_at_6 ?_
    refine lv_icmp_ge (tgt := 16) hx hb dX4_at_7 (by decide) (fun c2 => ?_) (fun c2 => ?_)
    · have h := (if_pos c2).symm.trans h
      refine lv_iconst (v := (0 : Int32)) hx hb dX4_at_16 (by decide) ?_
      cases h
      exact endI hx hb hr hlocks hP hS rfl dX4_at_17
    · have h := (if_neg c2).symm.trans h
      refine lv_aload_n hx hb dX4_at_10 rfl (lv_at hl 0 rfl) ?_
      refine lv_iload_n hx hb dX4_at_11 rfl (lv_at hl 1 rfl) ?_
      obtain ⟨y3, ey3, h⟩ := bd_in h
      refine ldR hx hb hK hP 0 0 rfl rfl ey3 dX4_at_12 ?_
      refine lv_goto (tgt := 17) hx hb dX4_at_13 (by decide) ?_
      cases h
      exact endI hx hb hr hlocks hP hS rfl dX4_at_17
theorem iw_X0_sumOwed_X0 : ∀ w ∈ wsX00, w ∈ wsX0_sumOwed := fun _ h => List.mem_cons_of_mem _ (List.mem_append_right _ (h))
set_option maxHeartbeats 4000000 in
set_option maxRecDepth 100000 in
theorem c_X0_sumOwed (l : Launch) (D : va_G) (cA cQ : ClassId) (adB : Nat → Nat) (vB : St) (p1 : Int32) (p2 : Int32) (p3 : Int32) (o : Int32) (hf : X0_sumOwed vB p1 p2 p3 = some o) : Cti l yX0_sumOwed wsX0_sumOwed ({ frames := 1, cells := 0, slots := 0, locals := 24 }) D (TY cA cQ) [.ref (adB 0), .int p1, .int p2, .int p3] (wB cA adB vB) (wB cA adB vB) o := by
  refine Wk.i (cc := cX0_sumOwed) (maxL := 6) (ret := (some .int)) (by decide) rfl (Nat.le_of_ble_eq_true rfl) ?_
  intro p e s m below meth c A ls hx hb hr hlocks hml hown hts hK hN hP hD hA hl
  have hown : s.vm.findClass RX0 = some m.cls := hown
  have hS : va_S A s.heap s.heap [] := va_S.rf
  have hl : lv_has ls 6 [(0, .ref (adB 0)), (1, .int p1), (2, .int p2), (3, .int p3)] := hl
  have B6 : ∀ (fu6 : Nat) (x4 : Int32) (x5 : Int32) (H : Heap) (locs : List Loc) (ls : Array Slot), X0_sumOwed_l6 vB p1 p2 p3 fu6 x4 x5 = some o → va_P D vwCl (wB cA adB vB) H → va_D A (wB cA adB vB) → va_S A s.heap H locs → lv_has ls 6 [(0, .ref (adB 0)), (1, .int p1), (2, .int p2), (3, .int p3), (4, .int x4), (5, .int x5)] → W p l e (headSpec wsX0_sumOwed ({ frames := 1, cells := 0, slots := 0, locals := 24 })).room s m ([.ref (adB 0), .int p1, .int p2, .int p3] : List Value).toArray below meth c H locs 0 0 (MQ below (QI D (wB cA adB vB) o A) ([.ref (adB 0), .int p1, .int p2, .int p3] : List Value).toArray s 0 0 A) (F0 m 6 ls []) := by
    intro fu6
    induction fu6 with
    | zero =>
      intro x4 x5 H locs ls h hP hD hS hl
      cases h
    | succ fu6 ih6 =>
      intro x4 x5 H locs ls h hP hD hS hl
      rw [X0_sumOwed_l6] at h
      refine lv_iload hx hb dX0_sumOwed_6 (lv_at hl 5 rfl) ?_
      refine lv_aload_n hx hb dX0_sumOwed_8 rfl (lv_at hl 0 rfl) ?_
      refine lv_iconst (v := (2 : Int32)) hx hb dX0_sumOwed_9 (by decide) ?_
      obtain ⟨u1, eu1, h⟩ := bd_in h
      refine kI (va_runV (As := [.int (2 : Int32)]) (rest := [.int x5]) ⟨hx, hb, hml, hown, hts⟩ (c_X0_number l D cA cQ adB vB (2 : Int32) u1 eu1 _) (cwV 1 hts gX0_sumOwed_X0_number rfl rfl rfl (by decide +kernel) ⟨Nat.le_of_ble_eq_true rfl, Nat.le_of_ble_eq_true rfl⟩) (pV (ci := 0) (q := (RX0, TX0, 13)) hK hN hP hD [0, 1, 2, 3, 4, 5, 6, 7, 8, 9, 10, 11, 12, 13] rfl rfl rfl rfl) rfl rfl hl.1 rfl (lv_room (Nat.le_of_ble_eq_true rfl)) dX0_sumOwed_10 ⟨Nat.zero_le _, Nat.zero_le _⟩) hP hD hS hA [0, 1, 2, 3, 4, 5, 6, 7, 8, 9, 10, 11, 12, 13] rfl rfl (ws' := (wB cA adB vB)) rfl (fun H locs hP hD hS => ?_)
      refine lv_icmp_ge (tgt := 48) hx hb dX0_sumOwed_13 (by decide) (fun c2 => ?_) (fun c2 => ?_)
      · have h := (if_pos c2).symm.trans h
        refine lv_iload hx hb dX0_sumOwed_48 (lv_at hl 4 rfl) ?_
        cases h
        exact endI hx hb hr hlocks hP hS rfl dX0_sumOwed_50
      · have h := (if_neg c2).symm.trans h
        refine lv_aload_n hx hb dX0_sumOwed_16 rfl (lv_at hl 0 rfl) ?_
        refine lv_iload hx hb dX0_sumOwed_17 (lv_at hl 5 rfl) ?_
        refine lv_iload_n hx hb dX0_sumOwed_19 rfl (lv_at hl 1 rfl) ?_
        refine lv_iload_n hx hb dX0_sumOwed_20 rfl (lv_at hl 2 rfl) ?_
        refine lv_iload_n hx hb dX0_sumOwed_21 rfl (lv_at hl 3 rfl) ?_
        obtain ⟨u3, eu3, h⟩ := bd_in h
        refine kI (va_runV (As := [.int x5, .int p1, .int p2, .int p3]) (rest := []) ⟨hx, hb, hml, hown, hts⟩ (c_X0_isLotOf l D cA cQ adB vB x5 p1 p2 p3 u3 eu3 _) (cwV 4 hts gX0_sumOwed_X0_isLotOf rfl rfl rfl (by decide +kernel) ⟨Nat.le_of_ble_eq_true rfl, Nat.le_of_ble_eq_true rfl⟩) (pV (ci := 0) (q := (RX0, TX0, 13)) hK hN hP hD [0, 1, 2, 3, 4, 5, 6, 7, 8, 9, 10, 11, 12, 13] rfl rfl rfl rfl) rfl rfl hl.1 rfl (lv_room (Nat.le_of_ble_eq_true rfl)) dX0_sumOwed_22 ⟨Nat.zero_le _, Nat.zero_le _⟩) hP hD hS hA [0, 1, 2, 3, 4, 5, 6, 7, 8, 9, 10, 11, 12, 13] rfl rfl (ws' := (wB cA adB vB)) rfl (fun H locs hP hD hS => ?_)
        refine lv_if_eq (tgt := 42) hx hb dX0_sumOwed_25 (by decide) (fun c4 => ?_) (fun c4 => ?_)
        · have h := (if_pos c4).symm.trans h
          refine lv_iinc (v := (x5 + (1 : Int32))) (lv' := [(5, .int (x5 + (1 : Int32))), (0, .ref (adB 0)), (1, .int p1), (2, .int p2), (3, .int p3), (4, .int x4)]) hx hb dX0_sumOwed_42 hl (k := 5) rfl rfl (by decide) rfl (fun ls hl => ?_)
          refine lv_goto (tgt := 6) hx hb dX0_sumOwed_45 (by decide) ?_
          exact ih6 x4 (x5 + (1 : Int32)) _ _ _ h hP hD hS (lv_sub hl [1, 2, 3, 4, 5, 0] rfl)
        · have h := (if_neg c4).symm.trans h
          refine lv_iload hx hb dX0_sumOwed_28 (lv_at hl 4 rfl) ?_
          refine lv_aload_n hx hb dX0_sumOwed_30 rfl (lv_at hl 0 rfl) ?_
          refine va_get (D := D) (ci := 0) (v := .ref (adB 11)) (C := RX0) (T := TX0) (N := 13) hx hb hts iw_X0_sumOwed_X0 hown hK hP 0 rfl rfl 10 (by decide) (hts (.fieldLink RX0 42 "FavourRings$Bank" "sizes" "[I") (List.mem_of_getElem? (i := 1) rfl)) (fun _ h9 => h9) rfl dX0_sumOwed_31 ?_
          refine lv_iload hx hb dX0_sumOwed_34 (lv_at hl 5 rfl) ?_
          obtain ⟨u5, eu5, h⟩ := bd_in h
          refine kI (va_runSN (As := [.ref (adB 11), .int x5]) (rest := [.int x4]) ⟨hx, hb, hml, hown, hts⟩ (c_X4_at l D cA cQ (adB 11) 40 (vB 11) x5 u5 eu5 _) ⟨va_cnB 2 hts gX0_sumOwed_X4_at_n77 rfl rfl rfl hN.2.2.2.1 (hts (.initialized RX4) (List.mem_of_getElem? (i := 16) rfl)) (by decide +kernel) ⟨Nat.le_of_ble_eq_true rfl, Nat.le_of_ble_eq_true rfl⟩, (hts (.static yX4_at) (List.mem_of_getElem? (i := 15) rfl)), trivial⟩ (pS hK hN hP hD [11] rfl rfl) rfl rfl hl.1 rfl (lv_room (Nat.le_of_ble_eq_true rfl)) dX0_sumOwed_36 ⟨Nat.zero_le _, Nat.zero_le _⟩) hP hD hS hA [11] rfl rfl (ws' := (wB cA adB vB)) rfl (fun H locs hP hD hS => ?_)
          refine lv_iadd hx hb dX0_sumOwed_39 ?_
          refine lv_istore (lv' := [(4, .int (x4 + u5)), (0, .ref (adB 0)), (1, .int p1), (2, .int p2), (3, .int p3), (5, .int x5)]) hx hb dX0_sumOwed_40 hl (by decide) rfl (fun ls hl => ?_)
          refine lv_iinc (v := (x5 + (1 : Int32))) (lv' := [(5, .int (x5 + (1 : Int32))), (4, .int (x4 + u5)), (0, .ref (adB 0)), (1, .int p1), (2, .int p2), (3, .int p3)]) hx hb dX0_sumOwed_42 hl (k := 5) rfl rfl (by decide) rfl (fun ls hl => ?_)
          refine lv_goto (tgt := 6) hx hb dX0_sumOwed_45 (by decide) ?_
          exact ih6 (x4 + u5) (x5 + (1 : Int32)) _ _ _ h hP hD hS (lv_sub hl [2, 3, 4, 5, 1, 0] rfl)
  have h := hf
  unfold X0_sumOwed at h
  refine lv_iconst (v := (0 : Int32)) hx hb dX0_sumOwed_0 (by decide) ?_
  refine lv_istore (lv' := [(4, .int (0 : Int32)), (0, .ref (adB 0)), (1, .int p1), (2, .int p2), (3, .int p3)]) hx hb dX0_sumOwed_1 hl (by decide) rfl (fun ls hl => ?_)
  refine lv_iconst (v := (0 : Int32)) hx hb dX0_sumOwed_3 (by decide) ?_
  refine lv_istore (lv' := [(5, .int (0 : Int32)), (4, .int (0 : Int32)), (0, .ref (adB 0)), (1, .int p1), (2, .int p2), (3, .int p3)]) hx hb dX0_sumOwed_4 hl (by decide) rfl (fun ls hl => ?_)
  exact B6 FU (0 : Int32) (0 : Int32) _ _ _ h hP hD hS (lv_sub hl [2, 3, 4, 5, 1, 0] rfl)
set_option maxHeartbeats 4000000 in
set_option maxRecDepth 100000 in
theorem c_X0_balanceByLots (l : Launch) (D : va_G) (cA cQ : ClassId) (adB : Nat → Nat) (vB : St) (p1 : Int32) (o : Int32) (hf : X0_balanceByLots vB p1 = some o) : Cti l yX0_balanceByLots wsX0_balanceByLots ({ frames := 2, cells := 0, slots := 0, locals := 49 }) D (TY cA cQ) [.ref (adB 0), .int p1] (wB cA adB vB) (wB cA adB vB) o := by
  refine Wk.i (cc := cX0_balanceByLots) (maxL := 2) (ret := (some .int)) (by decide) rfl (Nat.le_of_ble_eq_true rfl) ?_
  intro p e s m below meth c A ls hx hb hr hlocks hml hown hts hK hN hP hD hA hl
  have hown : s.vm.findClass RX0 = some m.cls := hown
  have hS : va_S A s.heap s.heap [] := va_S.rf
  have hl : lv_has ls 2 [(0, .ref (adB 0)), (1, .int p1)] := hl
  have h := hf
  unfold X0_balanceByLots at h
  refine lv_aload_n hx hb dX0_balanceByLots_0 rfl (lv_at hl 0 rfl) ?_
  refine lv_iconst (v := (-1 : Int32)) hx hb dX0_balanceByLots_1 (by decide) ?_
  refine lv_iload_n hx hb dX0_balanceByLots_2 rfl (lv_at hl 1 rfl) ?_
  refine lv_iconst (v := (-1 : Int32)) hx hb dX0_balanceByLots_3 (by decide) ?_
  obtain ⟨u1, eu1, h⟩ := bd_in h
  refine kI (va_runV (As := [.int (-1 : Int32), .int p1, .int (-1 : Int32)]) (rest := []) ⟨hx, hb, hml, hown, hts⟩ (c_X0_sumOwed l D cA cQ adB vB (-1 : Int32) p1 (-1 : Int32) u1 eu1 _) (cwV 3 hts gX0_balanceByLots_X0_sumOwed rfl rfl rfl (by decide +kernel) ⟨Nat.le_of_ble_eq_true rfl, Nat.le_of_ble_eq_true rfl⟩) (pV (ci := 0) (q := (RX0, TX0, 13)) hK hN hP hD [0, 1, 2, 3, 4, 5, 6, 7, 8, 9, 10, 11, 12, 13] rfl rfl rfl rfl) rfl rfl hl.1 rfl (lv_room (Nat.le_of_ble_eq_true rfl)) dX0_balanceByLots_4 ⟨Nat.zero_le _, Nat.zero_le _⟩) hP hD hS hA [0, 1, 2, 3, 4, 5, 6, 7, 8, 9, 10, 11, 12, 13] rfl rfl (ws' := (wB cA adB vB)) rfl (fun H locs hP hD hS => ?_)
  refine lv_aload_n hx hb dX0_balanceByLots_7 rfl (lv_at hl 0 rfl) ?_
  refine lv_iload_n hx hb dX0_balanceByLots_8 rfl (lv_at hl 1 rfl) ?_
  refine lv_iconst (v := (-1 : Int32)) hx hb dX0_balanceByLots_9 (by decide) ?_
  refine lv_iconst (v := (-1 : Int32)) hx hb dX0_balanceByLots_10 (by decide) ?_
  obtain ⟨u2, eu2, h⟩ := bd_in h
  refine kI (va_runV (As := [.int p1, .int (-1 : Int32), .int (-1 : Int32)]) (rest := [.int u1]) ⟨hx, hb, hml, hown, hts⟩ (c_X0_sumOwed l D cA cQ adB vB p1 (-1 : Int32) (-1 : Int32) u2 eu2 _) (cwV 3 hts gX0_balanceByLots_X0_sumOwed rfl rfl rfl (by decide +kernel) ⟨Nat.le_of_ble_eq_true rfl, Nat.le_of_ble_eq_true rfl⟩) (pV (ci := 0) (q := (RX0, TX0, 13)) hK hN hP hD [0, 1, 2, 3, 4, 5, 6, 7, 8, 9, 10, 11, 12, 13] rfl rfl rfl rfl) rfl rfl hl.1 rfl (lv_room (Nat.le_of_ble_eq_true rfl)) dX0_balanceByLots_11 ⟨Nat.zero_le _, Nat.zero_le _⟩) hP hD hS hA [0, 1, 2, 3, 4, 5, 6, 7, 8, 9, 10, 11, 12, 13] rfl rfl (ws' := (wB cA adB vB)) rfl (fun H locs hP hD hS => ?_)
  refine lv_isub hx hb dX0_balanceByLots_14 ?_
  cases h
  exact endI hx hb hr hlocks hP hS rfl dX0_balanceByLots_15
set_option maxHeartbeats 4000000 in
set_option maxRecDepth 100000 in
theorem c_X4_mostOfSetting (l : Launch) (D : va_G) (cA cQ : ClassId) (p0 : Int32) (o : Int32) (hf : X4_mostOfSetting p0 = some o) : Cti l yX4_mostOfSetting wsX4_mostOfSetting ({ frames := 0, cells := 0, slots := 0, locals := 0 }) D (TY cA cQ) [.int p0] ([] : va_W) ([] : va_W) o := by
  refine Wk.i (cc := cX4_mostOfSetting) (maxL := 1) (ret := (some .int)) (by decide) rfl (Nat.le_of_ble_eq_true rfl) ?_
  intro p e s m below meth c A ls hx hb hr hlocks hml hown hts hK hN hP hD hA hl
  have hown : s.vm.findClass RX4 = some m.cls := hown
  have hS : va_S A s.heap s.heap [] := va_S.rf
  have hl : lv_has ls 1 [(0, .int p0)] := hl
  have h := hf
  unfold X4_mostOfSetting at h
  refine lv_iload_n hx hb dX4_mostOfSetting_0 rfl (lv_at hl 0 rfl) ?_
  refine lv_iconst (v := (4 : Int32)) hx hb dX4_mostOfSetting_1 (by decide) ?_
  refine lv_icmp_ne (tgt := 10) hx hb dX4_mostOfSetting_2 (by decide) (fun c1 => ?_) (fun c1 => ?_)
  · have h := (if_neg c1).symm.trans h
    refine lv_bipush (v := (20 : Int32)) hx hb dX4_mostOfSetting_10 (by decide) ?_
    cases h
    exact endI hx hb hr hlocks hP hS rfl dX4_mostOfSetting_12
  · have h := (if_pos c1).symm.trans h
    refine lv_bipush (v := (99 : Int32)) hx hb dX4_mostOfSetting_5 (by decide) ?_
    refine lv_goto (tgt := 12) hx hb dX4_mostOfSetting_7 (by decide) ?_
    cases h
    exact endI hx hb hr hlocks hP hS rfl dX4_mostOfSetting_12
theorem iw_X0_changeSetting_X0 : ∀ w ∈ wsX00, w ∈ wsX0_changeSetting := fun _ h => List.mem_cons_of_mem _ (List.mem_append_right _ (h))
set_option maxHeartbeats 4000000 in
set_option maxRecDepth 100000 in
theorem c_X0_changeSetting (l : Launch) (D : va_G) (cA cQ : ClassId) (adB : Nat → Nat) (vB : St) (p1 : Int32) (p2 : Int32) (o : Int32 × St) (hf : X0_changeSetting vB p1 p2 = some o) : Cti l yX0_changeSetting wsX0_changeSetting ({ frames := 1, cells := 0, slots := 0, locals := 22 }) D (TY cA cQ) [.ref (adB 0), .int p1, .int p2] (wB cA adB vB) (wB cA adB o.2) o.1 := by
  refine Wk.i (cc := cX0_changeSetting) (maxL := 4) (ret := (some .int)) (by decide) rfl (Nat.le_of_ble_eq_true rfl) ?_
  intro p e s m below meth c A ls hx hb hr hlocks hml hown hts hK hN hP hD hA hl
  have hown : s.vm.findClass RX0 = some m.cls := hown
  have hS : va_S A s.heap s.heap [] := va_S.rf
  have hl : lv_has ls 4 [(0, .ref (adB 0)), (1, .int p1), (2, .int p2)] := hl
  have h := hf
  unfold X0_changeSetting at h
  refine lv_iload_n hx hb dX0_changeSetting_0 rfl (lv_at hl 1 rfl) ?_
  refine lv_if_lt (tgt := 23) hx hb dX0_changeSetting_1 (by decide) (fun c1 => ?_) (fun c1 => ?_)
  · have h := (if_pos c1).symm.trans h
    refine lv_ldc (v := (-1000001 : Int32)) hx hb hown (hts (.constant RX0 93 (-1000001)) (List.mem_of_getElem? (i := 1) rfl)) dX0_changeSetting_23 ?_
    cases h
    exact endI hx hb hr hlocks hP hS rfl dX0_changeSetting_25
  · have h := (if_neg c1).symm.trans h
    refine lv_iload_n hx hb dX0_changeSetting_4 rfl (lv_at hl 1 rfl) ?_
    refine lv_bipush (v := (6 : Int32)) hx hb dX0_changeSetting_5 (by decide) ?_
    refine lv_icmp_ge (tgt := 23) hx hb dX0_changeSetting_7 (by decide) (fun c2 => ?_) (fun c2 => ?_)
    · have h := (if_pos c2).symm.trans h
      refine lv_ldc (v := (-1000001 : Int32)) hx hb hown (hts (.constant RX0 93 (-1000001)) (List.mem_of_getElem? (i := 1) rfl)) dX0_changeSetting_23 ?_
      cases h
      exact endI hx hb hr hlocks hP hS rfl dX0_changeSetting_25
    · have h := (if_neg c2).symm.trans h
      refine lv_iload_n hx hb dX0_changeSetting_10 rfl (lv_at hl 2 rfl) ?_
      refine lv_iconst (v := (1 : Int32)) hx hb dX0_changeSetting_11 (by decide) ?_
      refine lv_icmp_lt (tgt := 23) hx hb dX0_changeSetting_12 (by decide) (fun c3 => ?_) (fun c3 => ?_)
      · have h := (if_pos c3).symm.trans h
        refine lv_ldc (v := (-1000001 : Int32)) hx hb hown (hts (.constant RX0 93 (-1000001)) (List.mem_of_getElem? (i := 1) rfl)) dX0_changeSetting_23 ?_
        cases h
        exact endI hx hb hr hlocks hP hS rfl dX0_changeSetting_25
      · have h := (if_neg c3).symm.trans h
        refine lv_iload_n hx hb dX0_changeSetting_15 rfl (lv_at hl 2 rfl) ?_
        refine lv_iload_n hx hb dX0_changeSetting_16 rfl (lv_at hl 1 rfl) ?_
        obtain ⟨u4, eu4, h⟩ := bd_in h
        refine kI (va_runSN (As := [.int p1]) (rest := [.int p2]) ⟨hx, hb, hml, hown, hts⟩ (c_X4_mostOfSetting l D cA cQ  p1 u4 eu4 _) ⟨va_cnB 1 hts gX0_changeSetting_X4_mostOfSetting_n147 rfl rfl rfl hN.2.2.2.2.2.2.2.1 (hts (.initialized RX4) (List.mem_of_getElem? (i := 4) rfl)) (by decide +kernel) ⟨Nat.le_of_ble_eq_true rfl, Nat.le_of_ble_eq_true rfl⟩, (hts (.static yX4_mostOfSetting) (List.mem_of_getElem? (i := 3) rfl)), trivial⟩ (pS hK hN hP hD [] rfl rfl) rfl rfl hl.1 rfl (lv_room (Nat.le_of_ble_eq_true rfl)) dX0_changeSetting_17 ⟨Nat.zero_le _, Nat.zero_le _⟩) hP hD hS hA [] rfl rfl (ws' := (wB cA adB vB)) rfl (fun H locs hP hD hS => ?_)
        refine lv_icmp_le (tgt := 26) hx hb dX0_changeSetting_20 (by decide) (fun c5 => ?_) (fun c5 => ?_)
        · have h := (if_pos c5).symm.trans h
          refine lv_aload_n hx hb dX0_changeSetting_26 rfl (lv_at hl 0 rfl) ?_
          refine lv_bipush (v := (20 : Int32)) hx hb dX0_changeSetting_27 (by decide) ?_
          refine lv_iload_n hx hb dX0_changeSetting_29 rfl (lv_at hl 1 rfl) ?_
          refine lv_iadd hx hb dX0_changeSetting_30 ?_
          obtain ⟨u6, eu6, h⟩ := bd_in h
          refine kI (va_runV (As := [.int ((20 : Int32) + p1)]) (rest := []) ⟨hx, hb, hml, hown, hts⟩ (c_X0_number l D cA cQ adB vB ((20 : Int32) + p1) u6 eu6 _) (cwV 1 hts gX0_changeSetting_X0_number rfl rfl rfl (by decide +kernel) ⟨Nat.le_of_ble_eq_true rfl, Nat.le_of_ble_eq_true rfl⟩) (pV (ci := 0) (q := (RX0, TX0, 13)) hK hN hP hD [0, 1, 2, 3, 4, 5, 6, 7, 8, 9, 10, 11, 12, 13] rfl rfl rfl rfl) rfl rfl hl.1 rfl (lv_room (Nat.le_of_ble_eq_true rfl)) dX0_changeSetting_31 ⟨Nat.zero_le _, Nat.zero_le _⟩) hP hD hS hA [0, 1, 2, 3, 4, 5, 6, 7, 8, 9, 10, 11, 12, 13] rfl rfl (ws' := (wB cA adB vB)) rfl (fun H locs hP hD hS => ?_)
          refine lv_istore_n (lv' := [(3, .int u6), (0, .ref (adB 0)), (1, .int p1), (2, .int p2)]) hx hb dX0_changeSetting_34 rfl hl (by decide) rfl (fun ls hl => ?_)
          refine lv_aload_n hx hb dX0_changeSetting_35 rfl (lv_at hl 1 rfl) ?_
          refine va_get (D := D) (ci := 0) (v := .ref (adB 1)) (C := RX0) (T := TX0) (N := 13) hx hb hts iw_X0_changeSetting_X0 hown hK hP 0 rfl rfl 0 (by decide) (hts (.fieldLink RX0 9 "FavourRings$Bank" "numbers" "[I") (List.mem_of_getElem? (i := 2) rfl)) (fun _ h9 => h9) rfl dX0_changeSetting_36 ?_
          refine lv_bipush (v := (20 : Int32)) hx hb dX0_changeSetting_39 (by decide) ?_
          refine lv_iload_n hx hb dX0_changeSetting_41 rfl (lv_at hl 2 rfl) ?_
          refine lv_iadd hx hb dX0_changeSetting_42 ?_
          refine lv_iload_n hx hb dX0_changeSetting_43 rfl (lv_at hl 3 rfl) ?_
          obtain ⟨u7, eu7, h⟩ := bd_in h
          refine kV (va_runSN (As := [.ref (adB 1), .int ((20 : Int32) + p1), .int p2]) (rest := []) ⟨hx, hb, hml, hown, hts⟩ (c_X4_put l D cA cQ (adB 1) 26 (vB 1) ((20 : Int32) + p1) p2 u7 eu7 _) ⟨va_cnB 3 hts gX0_changeSetting_X4_put_n55 rfl rfl rfl hN.2.1 (hts (.initialized RX4) (List.mem_of_getElem? (i := 4) rfl)) (by decide +kernel) ⟨Nat.le_of_ble_eq_true rfl, Nat.le_of_ble_eq_true rfl⟩, (hts (.static yX4_put) (List.mem_of_getElem? (i := 11) rfl)), trivial⟩ (pS hK hN hP hD [1] rfl rfl) rfl rfl hl.1 rfl (lv_room (Nat.le_of_ble_eq_true rfl)) dX0_changeSetting_44 ⟨Nat.zero_le _, Nat.zero_le _⟩) hP hD hS hA [1] rfl rfl (ws' := (wB cA adB (setA vB 1 u7))) rfl (fun H locs hP hD hS => ?_)
          refine lv_iload_n hx hb dX0_changeSetting_47 rfl (lv_at hl 0 rfl) ?_
          cases h
          exact endI hx hb hr hlocks hP hS rfl dX0_changeSetting_48
        · have h := (if_neg c5).symm.trans h
          refine lv_ldc (v := (-1000001 : Int32)) hx hb hown (hts (.constant RX0 93 (-1000001)) (List.mem_of_getElem? (i := 1) rfl)) dX0_changeSetting_23 ?_
          cases h
          exact endI hx hb hr hlocks hP hS rfl dX0_changeSetting_25
set_option maxHeartbeats 4000000 in
set_option maxRecDepth 100000 in
theorem c_X4_copyRow (l : Launch) (D : va_G) (cA cQ : ClassId) (a1 : Nat) (n1 : Nat) (a2 : Nat) (n2 : Nat) (f1 : Nat → Int32) (f2 : Nat → Int32) (o : (Nat → Int32)) (hf : X4_copyRow f1 f2 n1 n2 = some o) : Ctv l yX4_copyRow wsX4_copyRow ({ frames := 1, cells := 0, slots := 0, locals := 60 }) D (TY cA cQ) [.ref a1, .ref a2] (wA2 cA a1 n1 f1 a2 n2 f2) (wA2 cA a1 n1 f1 a2 n2 o) := by
  refine Wk.v (cc := cX4_copyRow) (maxL := 2) (ret := none) (by decide) rfl (Nat.le_of_ble_eq_true rfl) ?_
  intro p e s m below meth c A ls hx hb hr hlocks hml hown hts hK hN hP hD hA hl
  have hown : s.vm.findClass RX4 = some m.cls := hown
  have hS : va_S A s.heap s.heap [] := va_S.rf
  have hl : lv_has ls 2 [(0, .ref a1), (1, .ref a2)] := hl
  have h := hf
  unfold X4_copyRow at h
  refine lv_aload_n hx hb dX4_copyRow_0 rfl (lv_at hl 0 rfl) ?_
  refine lv_iconst (v := (0 : Int32)) hx hb dX4_copyRow_1 (by decide) ?_
  refine lv_aload_n hx hb dX4_copyRow_2 rfl (lv_at hl 1 rfl) ?_
  refine lv_iconst (v := (0 : Int32)) hx hb dX4_copyRow_3 (by decide) ?_
  refine lv_aload_n hx hb dX4_copyRow_4 rfl (lv_at hl 0 rfl) ?_
  refine va_alen hx hb hK hP 0 0 rfl rfl (v := (Int32.ofNat n1)) rfl dX4_copyRow_5 ?_
  refine lv_aload_n hx hb dX4_copyRow_6 rfl (lv_at hl 1 rfl) ?_
  refine va_alen hx hb hK hP 1 0 rfl rfl (v := (Int32.ofNat n2)) rfl dX4_copyRow_7 ?_
  refine va_mmin hx hb (hml.trans hl.1.symm) hown (hts (.methodLink RX4 182 Lib.Math.min.name) (List.mem_of_getElem? (i := 1) rfl)) (hts (.static Lib.Math.min.name) (List.mem_of_getElem? (i := 2) rfl)) (hts (.initialized "java/lang/Math") (List.mem_of_getElem? (i := 3) rfl)) (hts (.code Lib.Math.min.name Lib.Math.min.code 2 (some .int)) (List.mem_of_getElem? (i := 4) rfl)) (Nat.le_of_ble_eq_true rfl) (Nat.le_of_ble_eq_true rfl) (Nat.zero_le _) (Nat.zero_le _) dX4_copyRow_8 ?_
  obtain ⟨g1, eg1, h⟩ := bd_in h
  refine cpR hx hb (hml.trans hl.1.symm) hown (hts (.methodLink RX4 187 arraycopyName) (List.mem_of_getElem? (i := 5) rfl)) (hts (.native arraycopyName) (List.mem_of_getElem? (i := 6) rfl)) (hts (.static arraycopyName) (List.mem_of_getElem? (i := 7) rfl)) (hts (.initialized "java/lang/System") (List.mem_of_getElem? (i := 8) rfl)) hK hP hD hS 0 1 0 0 rfl rfl rfl rfl eg1 (ws' := (wA2 cA a1 n1 f1 a2 n2 g1)) rfl (Nat.le_of_ble_eq_true rfl) (Nat.le_of_ble_eq_true rfl) dX4_copyRow_11 (Nat.le_of_ble_eq_true rfl) (fun H locs hP hD hS => ?_)
  cases h
  exact endV hx hb hr hlocks hP hS dX4_copyRow_14
theorem iw_X0_copyFrom_X0 : ∀ w ∈ wsX00, w ∈ wsX0_copyFrom := fun _ h => List.mem_cons_of_mem _ (List.mem_append_right _ (h))
set_option maxHeartbeats 4000000 in
set_option maxRecDepth 100000 in
theorem c_X0_copyFrom (l : Launch) (D : va_G) (cA cQ : ClassId) (adB : Nat → Nat) (adC : Nat → Nat) (vB : St) (vC : St) (o : St) (hf : X0_copyFrom vB vC = some o) : Ctv l yX0_copyFrom wsX0_copyFrom ({ frames := 2, cells := 0, slots := 0, locals := 81 }) D (TY cA cQ) [.ref (adB 0), .ref (adC 0)] (wB cA adB vB ++ (wB cA adC vC)) (wB cA adB o ++ (wB cA adC vC)) := by
  refine Wk.v (cc := cX0_copyFrom) (maxL := 2) (ret := none) (by decide) rfl (Nat.le_of_ble_eq_true rfl) ?_
  intro p e s m below meth c A ls hx hb hr hlocks hml hown hts hK hN hP hD hA hl
  have hown : s.vm.findClass RX0 = some m.cls := hown
  have hS : va_S A s.heap s.heap [] := va_S.rf
  have hl : lv_has ls 2 [(0, .ref (adB 0)), (1, .ref (adC 0))] := hl
  have h := hf
  unfold X0_copyFrom at h
  refine lv_aload_n hx hb dX0_copyFrom_0 rfl (lv_at hl 1 rfl) ?_
  refine va_get (D := D) (ci := 0) (v := .ref (adC 1)) (C := RX0) (T := TX0) (N := 13) hx hb hts iw_X0_copyFrom_X0 hown hK hP 14 rfl rfl 0 (by decide) (hts (.fieldLink RX0 9 "FavourRings$Bank" "numbers" "[I") (List.mem_of_getElem? (i := 1) rfl)) (fun _ h9 => h9) rfl dX0_copyFrom_1 ?_
  refine lv_aload_n hx hb dX0_copyFrom_4 rfl (lv_at hl 0 rfl) ?_
  refine va_get (D := D) (ci := 0) (v := .ref (adB 1)) (C := RX0) (T := TX0) (N := 13) hx hb hts iw_X0_copyFrom_X0 hown hK hP 0 rfl rfl 0 (by decide) (hts (.fieldLink RX0 9 "FavourRings$Bank" "numbers" "[I") (List.mem_of_getElem? (i := 1) rfl)) (fun _ h9 => h9) rfl dX0_copyFrom_5 ?_
  obtain ⟨u1, eu1, h⟩ := bd_in h
  refine kV (va_runSN (As := [.ref (adC 1), .ref (adB 1)]) (rest := []) ⟨hx, hb, hml, hown, hts⟩ (c_X4_copyRow l D cA cQ (adC 1) 26 (adB 1) 26 (vC 1) (vB 1) u1 eu1 _) ⟨va_cnB 2 hts gX0_copyFrom_X4_copyRow_n59 rfl rfl rfl hN.2.2.1 (hts (.initialized RX4) (List.mem_of_getElem? (i := 15) rfl)) (by decide +kernel) ⟨Nat.le_of_ble_eq_true rfl, Nat.le_of_ble_eq_true rfl⟩, (hts (.static yX4_copyRow) (List.mem_of_getElem? (i := 14) rfl)), trivial⟩ (pS hK hN hP hD [15, 1] rfl rfl) rfl rfl hl.1 rfl (lv_room (Nat.le_of_ble_eq_true rfl)) dX0_copyFrom_8 ⟨Nat.zero_le _, Nat.zero_le _⟩) hP hD hS hA [15, 1] rfl rfl (ws' := (wB cA adB (setA vB 1 u1) ++ (wB cA adC vC))) rfl (fun H locs hP hD hS => ?_)
  refine lv_aload_n hx hb dX0_copyFrom_11 rfl (lv_at hl 1 rfl) ?_
  refine va_get (D := D) (ci := 0) (v := .ref (adC 2)) (C := RX0) (T := TX0) (N := 13) hx hb hts iw_X0_copyFrom_X0 hown hK hP 14 rfl rfl 1 (by decide) (hts (.fieldLink RX0 15 "FavourRings$Bank" "came" "[I") (List.mem_of_getElem? (i := 2) rfl)) (fun _ h9 => h9) rfl dX0_copyFrom_12 ?_
  refine lv_aload_n hx hb dX0_copyFrom_15 rfl (lv_at hl 0 rfl) ?_
  refine va_get (D := D) (ci := 0) (v := .ref (adB 2)) (C := RX0) (T := TX0) (N := 13) hx hb hts iw_X0_copyFrom_X0 hown hK hP 0 rfl rfl 1 (by decide) (hts (.fieldLink RX0 15 "FavourRings$Bank" "came" "[I") (List.mem_of_getElem? (i := 2) rfl)) (fun _ h9 => h9) rfl dX0_copyFrom_16 ?_
  obtain ⟨u2, eu2, h⟩ := bd_in h
  refine kV (va_runSN (As := [.ref (adC 2), .ref (adB 2)]) (rest := []) ⟨hx, hb, hml, hown, hts⟩ (c_X4_copyRow l D cA cQ (adC 2) 8 (adB 2) 8 (vC 2) (vB 2) u2 eu2 _) ⟨va_cnB 2 hts gX0_copyFrom_X4_copyRow_n59 rfl rfl rfl hN.2.2.1 (hts (.initialized RX4) (List.mem_of_getElem? (i := 15) rfl)) (by decide +kernel) ⟨Nat.le_of_ble_eq_true rfl, Nat.le_of_ble_eq_true rfl⟩, (hts (.static yX4_copyRow) (List.mem_of_getElem? (i := 14) rfl)), trivial⟩ (pS hK hN hP hD [16, 2] rfl rfl) rfl rfl hl.1 rfl (lv_room (Nat.le_of_ble_eq_true rfl)) dX0_copyFrom_19 ⟨Nat.zero_le _, Nat.zero_le _⟩) hP hD hS hA [16, 2] rfl rfl (ws' := (wB cA adB (setA (setA vB 1 u1) 2 u2) ++ (wB cA adC vC))) rfl (fun H locs hP hD hS => ?_)
  refine lv_aload_n hx hb dX0_copyFrom_22 rfl (lv_at hl 1 rfl) ?_
  refine va_get (D := D) (ci := 0) (v := .ref (adC 3)) (C := RX0) (T := TX0) (N := 13) hx hb hts iw_X0_copyFrom_X0 hown hK hP 14 rfl rfl 2 (by decide) (hts (.fieldLink RX0 18 "FavourRings$Bank" "done" "[I") (List.mem_of_getElem? (i := 3) rfl)) (fun _ h9 => h9) rfl dX0_copyFrom_23 ?_
  refine lv_aload_n hx hb dX0_copyFrom_26 rfl (lv_at hl 0 rfl) ?_
  refine va_get (D := D) (ci := 0) (v := .ref (adB 3)) (C := RX0) (T := TX0) (N := 13) hx hb hts iw_X0_copyFrom_X0 hown hK hP 0 rfl rfl 2 (by decide) (hts (.fieldLink RX0 18 "FavourRings$Bank" "done" "[I") (List.mem_of_getElem? (i := 3) rfl)) (fun _ h9 => h9) rfl dX0_copyFrom_27 ?_
  obtain ⟨u3, eu3, h⟩ := bd_in h
  refine kV (va_runSN (As := [.ref (adC 3), .ref (adB 3)]) (rest := []) ⟨hx, hb, hml, hown, hts⟩ (c_X4_copyRow l D cA cQ (adC 3) 8 (adB 3) 8 (vC 3) (vB 3) u3 eu3 _) ⟨va_cnB 2 hts gX0_copyFrom_X4_copyRow_n59 rfl rfl rfl hN.2.2.1 (hts (.initialized RX4) (List.mem_of_getElem? (i := 15) rfl)) (by decide +kernel) ⟨Nat.le_of_ble_eq_true rfl, Nat.le_of_ble_eq_true rfl⟩, (hts (.static yX4_copyRow) (List.mem_of_getElem? (i := 14) rfl)), trivial⟩ (pS hK hN hP hD [17, 3] rfl rfl) rfl rfl hl.1 rfl (lv_room (Nat.le_of_ble_eq_true rfl)) dX0_copyFrom_30 ⟨Nat.zero_le _, Nat.zero_le _⟩) hP hD hS hA [17, 3] rfl rfl (ws' := (wB cA adB (setA (setA (setA vB 1 u1) 2 u2) 3 u3) ++ (wB cA adC vC))) rfl (fun H locs hP hD hS => ?_)
  refine lv_aload_n hx hb dX0_copyFrom_33 rfl (lv_at hl 1 rfl) ?_
  refine va_get (D := D) (ci := 0) (v := .ref (adC 4)) (C := RX0) (T := TX0) (N := 13) hx hb hts iw_X0_copyFrom_X0 hown hK hP 14 rfl rfl 3 (by decide) (hts (.fieldLink RX0 21 "FavourRings$Bank" "spoiled" "[I") (List.mem_of_getElem? (i := 4) rfl)) (fun _ h9 => h9) rfl dX0_copyFrom_34 ?_
  refine lv_aload_n hx hb dX0_copyFrom_37 rfl (lv_at hl 0 rfl) ?_
  refine va_get (D := D) (ci := 0) (v := .ref (adB 4)) (C := RX0) (T := TX0) (N := 13) hx hb hts iw_X0_copyFrom_X0 hown hK hP 0 rfl rfl 3 (by decide) (hts (.fieldLink RX0 21 "FavourRings$Bank" "spoiled" "[I") (List.mem_of_getElem? (i := 4) rfl)) (fun _ h9 => h9) rfl dX0_copyFrom_38 ?_
  obtain ⟨u4, eu4, h⟩ := bd_in h
  refine kV (va_runSN (As := [.ref (adC 4), .ref (adB 4)]) (rest := []) ⟨hx, hb, hml, hown, hts⟩ (c_X4_copyRow l D cA cQ (adC 4) 8 (adB 4) 8 (vC 4) (vB 4) u4 eu4 _) ⟨va_cnB 2 hts gX0_copyFrom_X4_copyRow_n59 rfl rfl rfl hN.2.2.1 (hts (.initialized RX4) (List.mem_of_getElem? (i := 15) rfl)) (by decide +kernel) ⟨Nat.le_of_ble_eq_true rfl, Nat.le_of_ble_eq_true rfl⟩, (hts (.static yX4_copyRow) (List.mem_of_getElem? (i := 14) rfl)), trivial⟩ (pS hK hN hP hD [18, 4] rfl rfl) rfl rfl hl.1 rfl (lv_room (Nat.le_of_ble_eq_true rfl)) dX0_copyFrom_41 ⟨Nat.zero_le _, Nat.zero_le _⟩) hP hD hS hA [18, 4] rfl rfl (ws' := (wB cA adB (setA (setA (setA (setA vB 1 u1) 2 u2) 3 u3) 4 u4) ++ (wB cA adC vC))) rfl (fun H locs hP hD hS => ?_)
  refine lv_aload_n hx hb dX0_copyFrom_44 rfl (lv_at hl 1 rfl) ?_
  refine va_get (D := D) (ci := 0) (v := .ref (adC 5)) (C := RX0) (T := TX0) (N := 13) hx hb hts iw_X0_copyFrom_X0 hown hK hP 14 rfl rfl 4 (by decide) (hts (.fieldLink RX0 24 "FavourRings$Bank" "guarantors" "[I") (List.mem_of_getElem? (i := 5) rfl)) (fun _ h9 => h9) rfl dX0_copyFrom_45 ?_
  refine lv_aload_n hx hb dX0_copyFrom_48 rfl (lv_at hl 0 rfl) ?_
  refine va_get (D := D) (ci := 0) (v := .ref (adB 5)) (C := RX0) (T := TX0) (N := 13) hx hb hts iw_X0_copyFrom_X0 hown hK hP 0 rfl rfl 4 (by decide) (hts (.fieldLink RX0 24 "FavourRings$Bank" "guarantors" "[I") (List.mem_of_getElem? (i := 5) rfl)) (fun _ h9 => h9) rfl dX0_copyFrom_49 ?_
  obtain ⟨u5, eu5, h⟩ := bd_in h
  refine kV (va_runSN (As := [.ref (adC 5), .ref (adB 5)]) (rest := []) ⟨hx, hb, hml, hown, hts⟩ (c_X4_copyRow l D cA cQ (adC 5) 8 (adB 5) 8 (vC 5) (vB 5) u5 eu5 _) ⟨va_cnB 2 hts gX0_copyFrom_X4_copyRow_n59 rfl rfl rfl hN.2.2.1 (hts (.initialized RX4) (List.mem_of_getElem? (i := 15) rfl)) (by decide +kernel) ⟨Nat.le_of_ble_eq_true rfl, Nat.le_of_ble_eq_true rfl⟩, (hts (.static yX4_copyRow) (List.mem_of_getElem? (i := 14) rfl)), trivial⟩ (pS hK hN hP hD [19, 5] rfl rfl) rfl rfl hl.1 rfl (lv_room (Nat.le_of_ble_eq_true rfl)) dX0_copyFrom_52 ⟨Nat.zero_le _, Nat.zero_le _⟩) hP hD hS hA [19, 5] rfl rfl (ws' := (wB cA adB (setA (setA (setA (setA (setA vB 1 u1) 2 u2) 3 u3) 4 u4) 5 u5) ++ (wB cA adC vC))) rfl (fun H locs hP hD hS => ?_)
  refine lv_aload_n hx hb dX0_copyFrom_55 rfl (lv_at hl 1 rfl) ?_
  refine va_get (D := D) (ci := 0) (v := .ref (adC 6)) (C := RX0) (T := TX0) (N := 13) hx hb hts iw_X0_copyFrom_X0 hown hK hP 14 rfl rfl 5 (by decide) (hts (.fieldLink RX0 27 "FavourRings$Bank" "takenOver" "[I") (List.mem_of_getElem? (i := 6) rfl)) (fun _ h9 => h9) rfl dX0_copyFrom_56 ?_
  refine lv_aload_n hx hb dX0_copyFrom_59 rfl (lv_at hl 0 rfl) ?_
  refine va_get (D := D) (ci := 0) (v := .ref (adB 6)) (C := RX0) (T := TX0) (N := 13) hx hb hts iw_X0_copyFrom_X0 hown hK hP 0 rfl rfl 5 (by decide) (hts (.fieldLink RX0 27 "FavourRings$Bank" "takenOver" "[I") (List.mem_of_getElem? (i := 6) rfl)) (fun _ h9 => h9) rfl dX0_copyFrom_60 ?_
  obtain ⟨u6, eu6, h⟩ := bd_in h
  refine kV (va_runSN (As := [.ref (adC 6), .ref (adB 6)]) (rest := []) ⟨hx, hb, hml, hown, hts⟩ (c_X4_copyRow l D cA cQ (adC 6) 8 (adB 6) 8 (vC 6) (vB 6) u6 eu6 _) ⟨va_cnB 2 hts gX0_copyFrom_X4_copyRow_n59 rfl rfl rfl hN.2.2.1 (hts (.initialized RX4) (List.mem_of_getElem? (i := 15) rfl)) (by decide +kernel) ⟨Nat.le_of_ble_eq_true rfl, Nat.le_of_ble_eq_true rfl⟩, (hts (.static yX4_copyRow) (List.mem_of_getElem? (i := 14) rfl)), trivial⟩ (pS hK hN hP hD [20, 6] rfl rfl) rfl rfl hl.1 rfl (lv_room (Nat.le_of_ble_eq_true rfl)) dX0_copyFrom_63 ⟨Nat.zero_le _, Nat.zero_le _⟩) hP hD hS hA [20, 6] rfl rfl (ws' := (wB cA adB (setA (setA (setA (setA (setA (setA vB 1 u1) 2 u2) 3 u3) 4 u4) 5 u5) 6 u6) ++ (wB cA adC vC))) rfl (fun H locs hP hD hS => ?_)
  refine lv_aload_n hx hb dX0_copyFrom_66 rfl (lv_at hl 1 rfl) ?_
  refine va_get (D := D) (ci := 0) (v := .ref (adC 7)) (C := RX0) (T := TX0) (N := 13) hx hb hts iw_X0_copyFrom_X0 hown hK hP 14 rfl rfl 6 (by decide) (hts (.fieldLink RX0 30 "FavourRings$Bank" "cleared" "[I") (List.mem_of_getElem? (i := 7) rfl)) (fun _ h9 => h9) rfl dX0_copyFrom_67 ?_
  refine lv_aload_n hx hb dX0_copyFrom_70 rfl (lv_at hl 0 rfl) ?_
  refine va_get (D := D) (ci := 0) (v := .ref (adB 7)) (C := RX0) (T := TX0) (N := 13) hx hb hts iw_X0_copyFrom_X0 hown hK hP 0 rfl rfl 6 (by decide) (hts (.fieldLink RX0 30 "FavourRings$Bank" "cleared" "[I") (List.mem_of_getElem? (i := 7) rfl)) (fun _ h9 => h9) rfl dX0_copyFrom_71 ?_
  obtain ⟨u7, eu7, h⟩ := bd_in h
  refine kV (va_runSN (As := [.ref (adC 7), .ref (adB 7)]) (rest := []) ⟨hx, hb, hml, hown, hts⟩ (c_X4_copyRow l D cA cQ (adC 7) 8 (adB 7) 8 (vC 7) (vB 7) u7 eu7 _) ⟨va_cnB 2 hts gX0_copyFrom_X4_copyRow_n59 rfl rfl rfl hN.2.2.1 (hts (.initialized RX4) (List.mem_of_getElem? (i := 15) rfl)) (by decide +kernel) ⟨Nat.le_of_ble_eq_true rfl, Nat.le_of_ble_eq_true rfl⟩, (hts (.static yX4_copyRow) (List.mem_of_getElem? (i := 14) rfl)), trivial⟩ (pS hK hN hP hD [21, 7] rfl rfl) rfl rfl hl.1 rfl (lv_room (Nat.le_of_ble_eq_true rfl)) dX0_copyFrom_74 ⟨Nat.zero_le _, Nat.zero_le _⟩) hP hD hS hA [21, 7] rfl rfl (ws' := (wB cA adB (setA (setA (setA (setA (setA (setA (setA vB 1 u1) 2 u2) 3 u3) 4 u4) 5 u5) 6 u6) 7 u7) ++ (wB cA adC vC))) rfl (fun H locs hP hD hS => ?_)
  refine lv_aload_n hx hb dX0_copyFrom_77 rfl (lv_at hl 1 rfl) ?_
  refine va_get (D := D) (ci := 0) (v := .ref (adC 8)) (C := RX0) (T := TX0) (N := 13) hx hb hts iw_X0_copyFrom_X0 hown hK hP 14 rfl rfl 7 (by decide) (hts (.fieldLink RX0 33 "FavourRings$Bank" "debtors" "[I") (List.mem_of_getElem? (i := 8) rfl)) (fun _ h9 => h9) rfl dX0_copyFrom_78 ?_
  refine lv_aload_n hx hb dX0_copyFrom_81 rfl (lv_at hl 0 rfl) ?_
  refine va_get (D := D) (ci := 0) (v := .ref (adB 8)) (C := RX0) (T := TX0) (N := 13) hx hb hts iw_X0_copyFrom_X0 hown hK hP 0 rfl rfl 7 (by decide) (hts (.fieldLink RX0 33 "FavourRings$Bank" "debtors" "[I") (List.mem_of_getElem? (i := 8) rfl)) (fun _ h9 => h9) rfl dX0_copyFrom_82 ?_
  obtain ⟨u8, eu8, h⟩ := bd_in h
  refine kV (va_runSN (As := [.ref (adC 8), .ref (adB 8)]) (rest := []) ⟨hx, hb, hml, hown, hts⟩ (c_X4_copyRow l D cA cQ (adC 8) 40 (adB 8) 40 (vC 8) (vB 8) u8 eu8 _) ⟨va_cnB 2 hts gX0_copyFrom_X4_copyRow_n59 rfl rfl rfl hN.2.2.1 (hts (.initialized RX4) (List.mem_of_getElem? (i := 15) rfl)) (by decide +kernel) ⟨Nat.le_of_ble_eq_true rfl, Nat.le_of_ble_eq_true rfl⟩, (hts (.static yX4_copyRow) (List.mem_of_getElem? (i := 14) rfl)), trivial⟩ (pS hK hN hP hD [22, 8] rfl rfl) rfl rfl hl.1 rfl (lv_room (Nat.le_of_ble_eq_true rfl)) dX0_copyFrom_85 ⟨Nat.zero_le _, Nat.zero_le _⟩) hP hD hS hA [22, 8] rfl rfl (ws' := (wB cA adB (setA (setA (setA (setA (setA (setA (setA (setA vB 1 u1) 2 u2) 3 u3) 4 u4) 5 u5) 6 u6) 7 u7) 8 u8) ++ (wB cA adC vC))) rfl (fun H locs hP hD hS => ?_)
  refine lv_aload_n hx hb dX0_copyFrom_88 rfl (lv_at hl 1 rfl) ?_
  refine va_get (D := D) (ci := 0) (v := .ref (adC 9)) (C := RX0) (T := TX0) (N := 13) hx hb hts iw_X0_copyFrom_X0 hown hK hP 14 rfl rfl 8 (by decide) (hts (.fieldLink RX0 36 "FavourRings$Bank" "creditors" "[I") (List.mem_of_getElem? (i := 9) rfl)) (fun _ h9 => h9) rfl dX0_copyFrom_89 ?_
  refine lv_aload_n hx hb dX0_copyFrom_92 rfl (lv_at hl 0 rfl) ?_
  refine va_get (D := D) (ci := 0) (v := .ref (adB 9)) (C := RX0) (T := TX0) (N := 13) hx hb hts iw_X0_copyFrom_X0 hown hK hP 0 rfl rfl 8 (by decide) (hts (.fieldLink RX0 36 "FavourRings$Bank" "creditors" "[I") (List.mem_of_getElem? (i := 9) rfl)) (fun _ h9 => h9) rfl dX0_copyFrom_93 ?_
  obtain ⟨u9, eu9, h⟩ := bd_in h
  refine kV (va_runSN (As := [.ref (adC 9), .ref (adB 9)]) (rest := []) ⟨hx, hb, hml, hown, hts⟩ (c_X4_copyRow l D cA cQ (adC 9) 40 (adB 9) 40 (vC 9) (vB 9) u9 eu9 _) ⟨va_cnB 2 hts gX0_copyFrom_X4_copyRow_n59 rfl rfl rfl hN.2.2.1 (hts (.initialized RX4) (List.mem_of_getElem? (i := 15) rfl)) (by decide +kernel) ⟨Nat.le_of_ble_eq_true rfl, Nat.le_of_ble_eq_true rfl⟩, (hts (.static yX4_copyRow) (List.mem_of_getElem? (i := 14) rfl)), trivial⟩ (pS hK hN hP hD [23, 9] rfl rfl) rfl rfl hl.1 rfl (lv_room (Nat.le_of_ble_eq_true rfl)) dX0_copyFrom_96 ⟨Nat.zero_le _, Nat.zero_le _⟩) hP hD hS hA [23, 9] rfl rfl (ws' := (wB cA adB (setA (setA (setA (setA (setA (setA (setA (setA (setA vB 1 u1) 2 u2) 3 u3) 4 u4) 5 u5) 6 u6) 7 u7) 8 u8) 9 u9) ++ (wB cA adC vC))) rfl (fun H locs hP hD hS => ?_)
  refine lv_aload_n hx hb dX0_copyFrom_99 rfl (lv_at hl 1 rfl) ?_
  refine va_get (D := D) (ci := 0) (v := .ref (adC 10)) (C := RX0) (T := TX0) (N := 13) hx hb hts iw_X0_copyFrom_X0 hown hK hP 14 rfl rfl 9 (by decide) (hts (.fieldLink RX0 39 "FavourRings$Bank" "kinds" "[I") (List.mem_of_getElem? (i := 10) rfl)) (fun _ h9 => h9) rfl dX0_copyFrom_100 ?_
  refine lv_aload_n hx hb dX0_copyFrom_103 rfl (lv_at hl 0 rfl) ?_
  refine va_get (D := D) (ci := 0) (v := .ref (adB 10)) (C := RX0) (T := TX0) (N := 13) hx hb hts iw_X0_copyFrom_X0 hown hK hP 0 rfl rfl 9 (by decide) (hts (.fieldLink RX0 39 "FavourRings$Bank" "kinds" "[I") (List.mem_of_getElem? (i := 10) rfl)) (fun _ h9 => h9) rfl dX0_copyFrom_104 ?_
  obtain ⟨u10, eu10, h⟩ := bd_in h
  refine kV (va_runSN (As := [.ref (adC 10), .ref (adB 10)]) (rest := []) ⟨hx, hb, hml, hown, hts⟩ (c_X4_copyRow l D cA cQ (adC 10) 40 (adB 10) 40 (vC 10) (vB 10) u10 eu10 _) ⟨va_cnB 2 hts gX0_copyFrom_X4_copyRow_n59 rfl rfl rfl hN.2.2.1 (hts (.initialized RX4) (List.mem_of_getElem? (i := 15) rfl)) (by decide +kernel) ⟨Nat.le_of_ble_eq_true rfl, Nat.le_of_ble_eq_true rfl⟩, (hts (.static yX4_copyRow) (List.mem_of_getElem? (i := 14) rfl)), trivial⟩ (pS hK hN hP hD [24, 10] rfl rfl) rfl rfl hl.1 rfl (lv_room (Nat.le_of_ble_eq_true rfl)) dX0_copyFrom_107 ⟨Nat.zero_le _, Nat.zero_le _⟩) hP hD hS hA [24, 10] rfl rfl (ws' := (wB cA adB (setA (setA (setA (setA (setA (setA (setA (setA (setA (setA vB 1 u1) 2 u2) 3 u3) 4 u4) 5 u5) 6 u6) 7 u7) 8 u8) 9 u9) 10 u10) ++ (wB cA adC vC))) rfl (fun H locs hP hD hS => ?_)
  refine lv_aload_n hx hb dX0_copyFrom_110 rfl (lv_at hl 1 rfl) ?_
  refine va_get (D := D) (ci := 0) (v := .ref (adC 11)) (C := RX0) (T := TX0) (N := 13) hx hb hts iw_X0_copyFrom_X0 hown hK hP 14 rfl rfl 10 (by decide) (hts (.fieldLink RX0 42 "FavourRings$Bank" "sizes" "[I") (List.mem_of_getElem? (i := 11) rfl)) (fun _ h9 => h9) rfl dX0_copyFrom_111 ?_
  refine lv_aload_n hx hb dX0_copyFrom_114 rfl (lv_at hl 0 rfl) ?_
  refine va_get (D := D) (ci := 0) (v := .ref (adB 11)) (C := RX0) (T := TX0) (N := 13) hx hb hts iw_X0_copyFrom_X0 hown hK hP 0 rfl rfl 10 (by decide) (hts (.fieldLink RX0 42 "FavourRings$Bank" "sizes" "[I") (List.mem_of_getElem? (i := 11) rfl)) (fun _ h9 => h9) rfl dX0_copyFrom_115 ?_
  obtain ⟨u11, eu11, h⟩ := bd_in h
  refine kV (va_runSN (As := [.ref (adC 11), .ref (adB 11)]) (rest := []) ⟨hx, hb, hml, hown, hts⟩ (c_X4_copyRow l D cA cQ (adC 11) 40 (adB 11) 40 (vC 11) (vB 11) u11 eu11 _) ⟨va_cnB 2 hts gX0_copyFrom_X4_copyRow_n59 rfl rfl rfl hN.2.2.1 (hts (.initialized RX4) (List.mem_of_getElem? (i := 15) rfl)) (by decide +kernel) ⟨Nat.le_of_ble_eq_true rfl, Nat.le_of_ble_eq_true rfl⟩, (hts (.static yX4_copyRow) (List.mem_of_getElem? (i := 14) rfl)), trivial⟩ (pS hK hN hP hD [25, 11] rfl rfl) rfl rfl hl.1 rfl (lv_room (Nat.le_of_ble_eq_true rfl)) dX0_copyFrom_118 ⟨Nat.zero_le _, Nat.zero_le _⟩) hP hD hS hA [25, 11] rfl rfl (ws' := (wB cA adB (setA (setA (setA (setA (setA (setA (setA (setA (setA (setA (setA vB 1 u1) 2 u2) 3 u3) 4 u4) 5 u5) 6 u6) 7 u7) 8 u8) 9 u9) 10 u10) 11 u11) ++ (wB cA adC vC))) rfl (fun H locs hP hD hS => ?_)
  refine lv_aload_n hx hb dX0_copyFrom_121 rfl (lv_at hl 1 rfl) ?_
  refine va_get (D := D) (ci := 0) (v := .ref (adC 12)) (C := RX0) (T := TX0) (N := 13) hx hb hts iw_X0_copyFrom_X0 hown hK hP 14 rfl rfl 11 (by decide) (hts (.fieldLink RX0 45 "FavourRings$Bank" "ages" "[I") (List.mem_of_getElem? (i := 12) rfl)) (fun _ h9 => h9) rfl dX0_copyFrom_122 ?_
  refine lv_aload_n hx hb dX0_copyFrom_125 rfl (lv_at hl 0 rfl) ?_
  refine va_get (D := D) (ci := 0) (v := .ref (adB 12)) (C := RX0) (T := TX0) (N := 13) hx hb hts iw_X0_copyFrom_X0 hown hK hP 0 rfl rfl 11 (by decide) (hts (.fieldLink RX0 45 "FavourRings$Bank" "ages" "[I") (List.mem_of_getElem? (i := 12) rfl)) (fun _ h9 => h9) rfl dX0_copyFrom_126 ?_
  obtain ⟨u12, eu12, h⟩ := bd_in h
  refine kV (va_runSN (As := [.ref (adC 12), .ref (adB 12)]) (rest := []) ⟨hx, hb, hml, hown, hts⟩ (c_X4_copyRow l D cA cQ (adC 12) 40 (adB 12) 40 (vC 12) (vB 12) u12 eu12 _) ⟨va_cnB 2 hts gX0_copyFrom_X4_copyRow_n59 rfl rfl rfl hN.2.2.1 (hts (.initialized RX4) (List.mem_of_getElem? (i := 15) rfl)) (by decide +kernel) ⟨Nat.le_of_ble_eq_true rfl, Nat.le_of_ble_eq_true rfl⟩, (hts (.static yX4_copyRow) (List.mem_of_getElem? (i := 14) rfl)), trivial⟩ (pS hK hN hP hD [26, 12] rfl rfl) rfl rfl hl.1 rfl (lv_room (Nat.le_of_ble_eq_true rfl)) dX0_copyFrom_129 ⟨Nat.zero_le _, Nat.zero_le _⟩) hP hD hS hA [26, 12] rfl rfl (ws' := (wB cA adB (setA (setA (setA (setA (setA (setA (setA (setA (setA (setA (setA (setA vB 1 u1) 2 u2) 3 u3) 4 u4) 5 u5) 6 u6) 7 u7) 8 u8) 9 u9) 10 u10) 11 u11) 12 u12) ++ (wB cA adC vC))) rfl (fun H locs hP hD hS => ?_)
  refine lv_aload_n hx hb dX0_copyFrom_132 rfl (lv_at hl 1 rfl) ?_
  refine va_get (D := D) (ci := 0) (v := .ref (adC 13)) (C := RX0) (T := TX0) (N := 13) hx hb hts iw_X0_copyFrom_X0 hown hK hP 14 rfl rfl 12 (by decide) (hts (.fieldLink RX0 48 "FavourRings$Bank" "passed" "[I") (List.mem_of_getElem? (i := 13) rfl)) (fun _ h9 => h9) rfl dX0_copyFrom_133 ?_
  refine lv_aload_n hx hb dX0_copyFrom_136 rfl (lv_at hl 0 rfl) ?_
  refine va_get (D := D) (ci := 0) (v := .ref (adB 13)) (C := RX0) (T := TX0) (N := 13) hx hb hts iw_X0_copyFrom_X0 hown hK hP 0 rfl rfl 12 (by decide) (hts (.fieldLink RX0 48 "FavourRings$Bank" "passed" "[I") (List.mem_of_getElem? (i := 13) rfl)) (fun _ h9 => h9) rfl dX0_copyFrom_137 ?_
  obtain ⟨u13, eu13, h⟩ := bd_in h
  refine kV (va_runSN (As := [.ref (adC 13), .ref (adB 13)]) (rest := []) ⟨hx, hb, hml, hown, hts⟩ (c_X4_copyRow l D cA cQ (adC 13) 40 (adB 13) 40 (vC 13) (vB 13) u13 eu13 _) ⟨va_cnB 2 hts gX0_copyFrom_X4_copyRow_n59 rfl rfl rfl hN.2.2.1 (hts (.initialized RX4) (List.mem_of_getElem? (i := 15) rfl)) (by decide +kernel) ⟨Nat.le_of_ble_eq_true rfl, Nat.le_of_ble_eq_true rfl⟩, (hts (.static yX4_copyRow) (List.mem_of_getElem? (i := 14) rfl)), trivial⟩ (pS hK hN hP hD [27, 13] rfl rfl) rfl rfl hl.1 rfl (lv_room (Nat.le_of_ble_eq_true rfl)) dX0_copyFrom_140 ⟨Nat.zero_le _, Nat.zero_le _⟩) hP hD hS hA [27, 13] rfl rfl (ws' := (wB cA adB (setA (setA (setA (setA (setA (setA (setA (setA (setA (setA (setA (setA (setA vB 1 u1) 2 u2) 3 u3) 4 u4) 5 u5) 6 u6) 7 u7) 8 u8) 9 u9) 10 u10) 11 u11) 12 u12) 13 u13) ++ (wB cA adC vC))) rfl (fun H locs hP hD hS => ?_)
  cases h
  exact endV hx hb hr hlocks hP hS dX0_copyFrom_143
theorem iw_X0_countCleared_X0 : ∀ w ∈ wsX00, w ∈ wsX0_countCleared := fun _ h => List.mem_cons_of_mem _ (List.mem_append_right _ (h))
set_option maxHeartbeats 4000000 in
set_option maxRecDepth 100000 in
theorem c_X0_countCleared (l : Launch) (D : va_G) (cA cQ : ClassId) (adB : Nat → Nat) (vB : St) (p1 : Int32) (p2 : Int32) (o : St) (hf : X0_countCleared vB p1 p2 = some o) : Ctv l yX0_countCleared wsX0_countCleared ({ frames := 1, cells := 0, slots := 0, locals := 22 }) D (TY cA cQ) [.ref (adB 0), .int p1, .int p2] (wB cA adB vB) (wB cA adB o) := by
  refine Wk.v (cc := cX0_countCleared) (maxL := 3) (ret := none) (by decide) rfl (Nat.le_of_ble_eq_true rfl) ?_
  intro p e s m below meth c A ls hx hb hr hlocks hml hown hts hK hN hP hD hA hl
  have hown : s.vm.findClass RX0 = some m.cls := hown
  have hS : va_S A s.heap s.heap [] := va_S.rf
  have hl : lv_has ls 3 [(0, .ref (adB 0)), (1, .int p1), (2, .int p2)] := hl
  have h := hf
  unfold X0_countCleared at h
  refine lv_aload_n hx hb dX0_countCleared_0 rfl (lv_at hl 0 rfl) ?_
  refine va_get (D := D) (ci := 0) (v := .ref (adB 7)) (C := RX0) (T := TX0) (N := 13) hx hb hts iw_X0_countCleared_X0 hown hK hP 0 rfl rfl 6 (by decide) (hts (.fieldLink RX0 30 "FavourRings$Bank" "cleared" "[I") (List.mem_of_getElem? (i := 1) rfl)) (fun _ h9 => h9) rfl dX0_countCleared_1 ?_
  refine lv_iload_n hx hb dX0_countCleared_4 rfl (lv_at hl 1 rfl) ?_
  refine lv_iload_n hx hb dX0_countCleared_5 rfl (lv_at hl 2 rfl) ?_
  obtain ⟨u1, eu1, h⟩ := bd_in h
  refine kV (va_runSN (As := [.ref (adB 7), .int p1, .int p2]) (rest := []) ⟨hx, hb, hml, hown, hts⟩ (c_X4_add l D cA cQ (adB 7) 8 (vB 7) p1 p2 u1 eu1 _) ⟨va_cnB 3 hts gX0_countCleared_X4_add_n86 rfl rfl rfl hN.2.2.2.2.1 (hts (.initialized RX4) (List.mem_of_getElem? (i := 4) rfl)) (by decide +kernel) ⟨Nat.le_of_ble_eq_true rfl, Nat.le_of_ble_eq_true rfl⟩, (hts (.static yX4_add) (List.mem_of_getElem? (i := 3) rfl)), trivial⟩ (pS hK hN hP hD [7] rfl rfl) rfl rfl hl.1 rfl (lv_room (Nat.le_of_ble_eq_true rfl)) dX0_countCleared_6 ⟨Nat.zero_le _, Nat.zero_le _⟩) hP hD hS hA [7] rfl rfl (ws' := (wB cA adB (setA vB 7 u1))) rfl (fun H locs hP hD hS => ?_)
  refine lv_aload_n hx hb dX0_countCleared_9 rfl (lv_at hl 0 rfl) ?_
  refine va_get (D := D) (ci := 0) (v := .ref (adB 1)) (C := RX0) (T := TX0) (N := 13) hx hb hts iw_X0_countCleared_X0 hown hK hP 0 rfl rfl 0 (by decide) (hts (.fieldLink RX0 9 "FavourRings$Bank" "numbers" "[I") (List.mem_of_getElem? (i := 2) rfl)) (fun _ h9 => h9) rfl dX0_countCleared_10 ?_
  refine lv_bipush (v := (7 : Int32)) hx hb dX0_countCleared_13 (by decide) ?_
  refine lv_iload_n hx hb dX0_countCleared_15 rfl (lv_at hl 2 rfl) ?_
  obtain ⟨u2, eu2, h⟩ := bd_in h
  refine kV (va_runSN (As := [.ref (adB 1), .int (7 : Int32), .int p2]) (rest := []) ⟨hx, hb, hml, hown, hts⟩ (c_X4_add l D cA cQ (adB 1) 26 (vB 1) (7 : Int32) p2 u2 eu2 _) ⟨va_cnB 3 hts gX0_countCleared_X4_add_n86 rfl rfl rfl hN.2.2.2.2.1 (hts (.initialized RX4) (List.mem_of_getElem? (i := 4) rfl)) (by decide +kernel) ⟨Nat.le_of_ble_eq_true rfl, Nat.le_of_ble_eq_true rfl⟩, (hts (.static yX4_add) (List.mem_of_getElem? (i := 3) rfl)), trivial⟩ (pS hK hN hP hD [1] rfl rfl) rfl rfl hl.1 rfl (lv_room (Nat.le_of_ble_eq_true rfl)) dX0_countCleared_16 ⟨Nat.zero_le _, Nat.zero_le _⟩) hP hD hS hA [1] rfl rfl (ws' := (wB cA adB (setA (setA vB 7 u1) 1 u2))) rfl (fun H locs hP hD hS => ?_)
  cases h
  exact endV hx hb hr hlocks hP hS dX0_countCleared_19
theorem iw_X0_countRing_X0 : ∀ w ∈ wsX00, w ∈ wsX0_countRing := fun _ h => List.mem_cons_of_mem _ (List.mem_append_right _ (h))
set_option maxHeartbeats 4000000 in
set_option maxRecDepth 100000 in
theorem c_X0_countRing (l : Launch) (D : va_G) (cA cQ : ClassId) (adB : Nat → Nat) (vB : St) (o : St) (hf : X0_countRing vB = some o) : Ctv l yX0_countRing wsX0_countRing ({ frames := 1, cells := 0, slots := 0, locals := 22 }) D (TY cA cQ) [.ref (adB 0)] (wB cA adB vB) (wB cA adB o) := by
  refine Wk.v (cc := cX0_countRing) (maxL := 1) (ret := none) (by decide) rfl (Nat.le_of_ble_eq_true rfl) ?_
  intro p e s m below meth c A ls hx hb hr hlocks hml hown hts hK hN hP hD hA hl
  have hown : s.vm.findClass RX0 = some m.cls := hown
  have hS : va_S A s.heap s.heap [] := va_S.rf
  have hl : lv_has ls 1 [(0, .ref (adB 0))] := hl
  have h := hf
  unfold X0_countRing at h
  refine lv_aload_n hx hb dX0_countRing_0 rfl (lv_at hl 0 rfl) ?_
  refine va_get (D := D) (ci := 0) (v := .ref (adB 1)) (C := RX0) (T := TX0) (N := 13) hx hb hts iw_X0_countRing_X0 hown hK hP 0 rfl rfl 0 (by decide) (hts (.fieldLink RX0 9 "FavourRings$Bank" "numbers" "[I") (List.mem_of_getElem? (i := 1) rfl)) (fun _ h9 => h9) rfl dX0_countRing_1 ?_
  refine lv_bipush (v := (9 : Int32)) hx hb dX0_countRing_4 (by decide) ?_
  refine lv_iconst (v := (1 : Int32)) hx hb dX0_countRing_6 (by decide) ?_
  obtain ⟨u1, eu1, h⟩ := bd_in h
  refine kV (va_runSN (As := [.ref (adB 1), .int (9 : Int32), .int (1 : Int32)]) (rest := []) ⟨hx, hb, hml, hown, hts⟩ (c_X4_add l D cA cQ (adB 1) 26 (vB 1) (9 : Int32) (1 : Int32) u1 eu1 _) ⟨va_cnB 3 hts gX0_countRing_X4_add_n86 rfl rfl rfl hN.2.2.2.2.1 (hts (.initialized RX4) (List.mem_of_getElem? (i := 3) rfl)) (by decide +kernel) ⟨Nat.le_of_ble_eq_true rfl, Nat.le_of_ble_eq_true rfl⟩, (hts (.static yX4_add) (List.mem_of_getElem? (i := 2) rfl)), trivial⟩ (pS hK hN hP hD [1] rfl rfl) rfl rfl hl.1 rfl (lv_room (Nat.le_of_ble_eq_true rfl)) dX0_countRing_7 ⟨Nat.zero_le _, Nat.zero_le _⟩) hP hD hS hA [1] rfl rfl (ws' := (wB cA adB (setA vB 1 u1))) rfl (fun H locs hP hD hS => ?_)
  cases h
  exact endV hx hb hr hlocks hP hS dX0_countRing_10
theorem iw_X0_dropEmptyLots_X0 : ∀ w ∈ wsX00, w ∈ wsX0_dropEmptyLots := fun _ h => List.mem_cons_of_mem _ (List.mem_append_right _ (h))
set_option maxHeartbeats 4000000 in
set_option maxRecDepth 100000 in
theorem c_X0_dropEmptyLots (l : Launch) (D : va_G) (cA cQ : ClassId) (adB : Nat → Nat) (vB : St) (o : St) (hf : X0_dropEmptyLots vB = some o) : Ctv l yX0_dropEmptyLots wsX0_dropEmptyLots ({ frames := 1, cells := 0, slots := 0, locals := 22 }) D (TY cA cQ) [.ref (adB 0)] (wB cA adB vB) (wB cA adB o) := by
  refine Wk.v (cc := cX0_dropEmptyLots) (maxL := 3) (ret := none) (by decide) rfl (Nat.le_of_ble_eq_true rfl) ?_
  intro p e s m below meth c A ls hx hb hr hlocks hml hown hts hK hN hP hD hA hl
  have hown : s.vm.findClass RX0 = some m.cls := hown
  have hS : va_S A s.heap s.heap [] := va_S.rf
  have hl : lv_has ls 3 [(0, .ref (adB 0))] := hl
  have B129 : ∀ (vB : St) (x1 : Int32) (H : Heap) (locs : List Loc) (ls : Array Slot), X0_dropEmptyLots_b129 vB x1 = some o → va_P D vwCl (wB cA adB vB) H → va_D A (wB cA adB vB) → va_S A s.heap H locs → lv_has ls 3 [(0, .ref (adB 0)), (1, .int x1)] → W p l e (headSpec wsX0_dropEmptyLots ({ frames := 1, cells := 0, slots := 0, locals := 22 })).room s m ([.ref (adB 0)] : List Value).toArray below meth c H locs 0 0 (MQ below (QV D (wB cA adB o) A) ([.ref (adB 0)] : List Value).toArray s 0 0 A) (F0 m 129 ls []) := by
    intro vB x1 H locs ls h hP hD hS hl
    unfold X0_dropEmptyLots_b129 at h
    refine lv_aload_n hx hb dX0_dropEmptyLots_129 rfl (lv_at hl 0 rfl) ?_
    refine va_get (D := D) (ci := 0) (v := .ref (adB 1)) (C := RX0) (T := TX0) (N := 13) hx hb hts iw_X0_dropEmptyLots_X0 hown hK hP 0 rfl rfl 0 (by decide) (hts (.fieldLink RX0 9 "FavourRings$Bank" "numbers" "[I") (List.mem_of_getElem? (i := 7) rfl)) (fun _ h9 => h9) rfl dX0_dropEmptyLots_130 ?_
    refine lv_iconst (v := (2 : Int32)) hx hb dX0_dropEmptyLots_133 (by decide) ?_
    refine lv_iload_n hx hb dX0_dropEmptyLots_134 rfl (lv_at hl 1 rfl) ?_
    obtain ⟨u1, eu1, h⟩ := bd_in h
    refine kV (va_runSN (As := [.ref (adB 1), .int (2 : Int32), .int x1]) (rest := []) ⟨hx, hb, hml, hown, hts⟩ (c_X4_put l D cA cQ (adB 1) 26 (vB 1) (2 : Int32) x1 u1 eu1 _) ⟨va_cnB 3 hts gX0_dropEmptyLots_X4_put_n55 rfl rfl rfl hN.2.1 (hts (.initialized RX4) (List.mem_of_getElem? (i := 14) rfl)) (by decide +kernel) ⟨Nat.le_of_ble_eq_true rfl, Nat.le_of_ble_eq_true rfl⟩, (hts (.static yX4_put) (List.mem_of_getElem? (i := 16) rfl)), trivial⟩ (pS hK hN hP hD [1] rfl rfl) rfl rfl hl.1 rfl (lv_room (Nat.le_of_ble_eq_true rfl)) dX0_dropEmptyLots_135 ⟨Nat.zero_le _, Nat.zero_le _⟩) hP hD hS hA [1] rfl rfl (ws' := (wB cA adB (setA vB 1 u1))) rfl (fun H locs hP hD hS => ?_)
    cases h
    exact endV hx hb hr hlocks hP hS dX0_dropEmptyLots_138
  have B4 : ∀ (fu4 : Nat) (vB : St) (x1 : Int32) (x2 : Int32) (H : Heap) (locs : List Loc) (ls : Array Slot), X0_dropEmptyLots_l4 fu4 vB x1 x2 = some o → va_P D vwCl (wB cA adB vB) H → va_D A (wB cA adB vB) → va_S A s.heap H locs → lv_has ls 3 [(0, .ref (adB 0)), (1, .int x1), (2, .int x2)] → W p l e (headSpec wsX0_dropEmptyLots ({ frames := 1, cells := 0, slots := 0, locals := 22 })).room s m ([.ref (adB 0)] : List Value).toArray below meth c H locs 0 0 (MQ below (QV D (wB cA adB o) A) ([.ref (adB 0)] : List Value).toArray s 0 0 A) (F0 m 4 ls []) := by
    intro fu4
    induction fu4 with
    | zero =>
      intro vB x1 x2 H locs ls h hP hD hS hl
      cases h
    | succ fu4 ih4 =>
      intro vB x1 x2 H locs ls h hP hD hS hl
      rw [X0_dropEmptyLots_l4] at h
      refine lv_iload_n hx hb dX0_dropEmptyLots_4 rfl (lv_at hl 2 rfl) ?_
      refine lv_aload_n hx hb dX0_dropEmptyLots_5 rfl (lv_at hl 0 rfl) ?_
      refine lv_iconst (v := (2 : Int32)) hx hb dX0_dropEmptyLots_6 (by decide) ?_
      obtain ⟨u2, eu2, h⟩ := bd_in h
      refine kI (va_runV (As := [.int (2 : Int32)]) (rest := [.int x2]) ⟨hx, hb, hml, hown, hts⟩ (c_X0_number l D cA cQ adB vB (2 : Int32) u2 eu2 _) (cwV 1 hts gX0_dropEmptyLots_X0_number rfl rfl rfl (by decide +kernel) ⟨Nat.le_of_ble_eq_true rfl, Nat.le_of_ble_eq_true rfl⟩) (pV (ci := 0) (q := (RX0, TX0, 13)) hK hN hP hD [0, 1, 2, 3, 4, 5, 6, 7, 8, 9, 10, 11, 12, 13] rfl rfl rfl rfl) rfl rfl hl.1 rfl (lv_room (Nat.le_of_ble_eq_true rfl)) dX0_dropEmptyLots_7 ⟨Nat.zero_le _, Nat.zero_le _⟩) hP hD hS hA [0, 1, 2, 3, 4, 5, 6, 7, 8, 9, 10, 11, 12, 13] rfl rfl (ws' := (wB cA adB vB)) rfl (fun H locs hP hD hS => ?_)
      refine lv_icmp_ge (tgt := 129) hx hb dX0_dropEmptyLots_10 (by decide) (fun c3 => ?_) (fun c3 => ?_)
      · have h := (if_pos c3).symm.trans h
        exact B129 vB x1 _ _ _ h hP hD hS (lv_sub hl [0, 1] rfl)
      · have h := (if_neg c3).symm.trans h
        refine lv_aload_n hx hb dX0_dropEmptyLots_13 rfl (lv_at hl 0 rfl) ?_
        refine va_get (D := D) (ci := 0) (v := .ref (adB 11)) (C := RX0) (T := TX0) (N := 13) hx hb hts iw_X0_dropEmptyLots_X0 hown hK hP 0 rfl rfl 10 (by decide) (hts (.fieldLink RX0 42 "FavourRings$Bank" "sizes" "[I") (List.mem_of_getElem? (i := 1) rfl)) (fun _ h9 => h9) rfl dX0_dropEmptyLots_14 ?_
        refine lv_iload_n hx hb dX0_dropEmptyLots_17 rfl (lv_at hl 2 rfl) ?_
        obtain ⟨u4, eu4, h⟩ := bd_in h
        refine kI (va_runSN (As := [.ref (adB 11), .int x2]) (rest := []) ⟨hx, hb, hml, hown, hts⟩ (c_X4_at l D cA cQ (adB 11) 40 (vB 11) x2 u4 eu4 _) ⟨va_cnB 2 hts gX0_dropEmptyLots_X4_at_n77 rfl rfl rfl hN.2.2.2.1 (hts (.initialized RX4) (List.mem_of_getElem? (i := 14) rfl)) (by decide +kernel) ⟨Nat.le_of_ble_eq_true rfl, Nat.le_of_ble_eq_true rfl⟩, (hts (.static yX4_at) (List.mem_of_getElem? (i := 13) rfl)), trivial⟩ (pS hK hN hP hD [11] rfl rfl) rfl rfl hl.1 rfl (lv_room (Nat.le_of_ble_eq_true rfl)) dX0_dropEmptyLots_18 ⟨Nat.zero_le _, Nat.zero_le _⟩) hP hD hS hA [11] rfl rfl (ws' := (wB cA adB vB)) rfl (fun H locs hP hD hS => ?_)
        refine lv_if_le (tgt := 123) hx hb dX0_dropEmptyLots_21 (by decide) (fun c5 => ?_) (fun c5 => ?_)
        · have h := (if_pos c5).symm.trans h
          refine lv_iinc (v := (x2 + (1 : Int32))) (lv' := [(2, .int (x2 + (1 : Int32))), (0, .ref (adB 0)), (1, .int x1)]) hx hb dX0_dropEmptyLots_123 hl (k := 2) rfl rfl (by decide) rfl (fun ls hl => ?_)
          refine lv_goto (tgt := 4) hx hb dX0_dropEmptyLots_126 (by decide) ?_
          exact ih4 vB x1 (x2 + (1 : Int32)) _ _ _ h hP hD hS (lv_sub hl [1, 2, 0] rfl)
        · have h := (if_neg c5).symm.trans h
          refine lv_aload_n hx hb dX0_dropEmptyLots_24 rfl (lv_at hl 0 rfl) ?_
          refine va_get (D := D) (ci := 0) (v := .ref (adB 8)) (C := RX0) (T := TX0) (N := 13) hx hb hts iw_X0_dropEmptyLots_X0 hown hK hP 0 rfl rfl 7 (by decide) (hts (.fieldLink RX0 33 "FavourRings$Bank" "debtors" "[I") (List.mem_of_getElem? (i := 2) rfl)) (fun _ h9 => h9) rfl dX0_dropEmptyLots_25 ?_
          refine lv_iload_n hx hb dX0_dropEmptyLots_28 rfl (lv_at hl 1 rfl) ?_
          refine lv_aload_n hx hb dX0_dropEmptyLots_29 rfl (lv_at hl 0 rfl) ?_
          refine va_get (D := D) (ci := 0) (v := .ref (adB 8)) (C := RX0) (T := TX0) (N := 13) hx hb hts iw_X0_dropEmptyLots_X0 hown hK hP 0 rfl rfl 7 (by decide) (hts (.fieldLink RX0 33 "FavourRings$Bank" "debtors" "[I") (List.mem_of_getElem? (i := 2) rfl)) (fun _ h9 => h9) rfl dX0_dropEmptyLots_30 ?_
          refine lv_iload_n hx hb dX0_dropEmptyLots_33 rfl (lv_at hl 2 rfl) ?_
          obtain ⟨u6, eu6, h⟩ := bd_in h
          refine kI (va_runSN (As := [.ref (adB 8), .int x2]) (rest := [.int x1, .ref (adB 8)]) ⟨hx, hb, hml, hown, hts⟩ (c_X4_at l D cA cQ (adB 8) 40 (vB 8) x2 u6 eu6 _) ⟨va_cnB 2 hts gX0_dropEmptyLots_X4_at_n77 rfl rfl rfl hN.2.2.2.1 (hts (.initialized RX4) (List.mem_of_getElem? (i := 14) rfl)) (by decide +kernel) ⟨Nat.le_of_ble_eq_true rfl, Nat.le_of_ble_eq_true rfl⟩, (hts (.static yX4_at) (List.mem_of_getElem? (i := 13) rfl)), trivial⟩ (pS hK hN hP hD [8] rfl rfl) rfl rfl hl.1 rfl (lv_room (Nat.le_of_ble_eq_true rfl)) dX0_dropEmptyLots_34 ⟨Nat.zero_le _, Nat.zero_le _⟩) hP hD hS hA [8] rfl rfl (ws' := (wB cA adB vB)) rfl (fun H locs hP hD hS => ?_)
          obtain ⟨u7, eu7, h⟩ := bd_in h
          refine kV (va_runSN (As := [.ref (adB 8), .int x1, .int u6]) (rest := []) ⟨hx, hb, hml, hown, hts⟩ (c_X4_put l D cA cQ (adB 8) 40 (vB 8) x1 u6 u7 eu7 _) ⟨va_cnB 3 hts gX0_dropEmptyLots_X4_put_n55 rfl rfl rfl hN.2.1 (hts (.initialized RX4) (List.mem_of_getElem? (i := 14) rfl)) (by decide +kernel) ⟨Nat.le_of_ble_eq_true rfl, Nat.le_of_ble_eq_true rfl⟩, (hts (.static yX4_put) (List.mem_of_getElem? (i := 16) rfl)), trivial⟩ (pS hK hN hP hD [8] rfl rfl) rfl rfl hl.1 rfl (lv_room (Nat.le_of_ble_eq_true rfl)) dX0_dropEmptyLots_37 ⟨Nat.zero_le _, Nat.zero_le _⟩) hP hD hS hA [8] rfl rfl (ws' := (wB cA adB (setA vB 8 u7))) rfl (fun H locs hP hD hS => ?_)
          refine lv_aload_n hx hb dX0_dropEmptyLots_40 rfl (lv_at hl 0 rfl) ?_
          refine va_get (D := D) (ci := 0) (v := .ref (adB 9)) (C := RX0) (T := TX0) (N := 13) hx hb hts iw_X0_dropEmptyLots_X0 hown hK hP 0 rfl rfl 8 (by decide) (hts (.fieldLink RX0 36 "FavourRings$Bank" "creditors" "[I") (List.mem_of_getElem? (i := 3) rfl)) (fun _ h9 => h9) rfl dX0_dropEmptyLots_41 ?_
          refine lv_iload_n hx hb dX0_dropEmptyLots_44 rfl (lv_at hl 1 rfl) ?_
          refine lv_aload_n hx hb dX0_dropEmptyLots_45 rfl (lv_at hl 0 rfl) ?_
          refine va_get (D := D) (ci := 0) (v := .ref (adB 9)) (C := RX0) (T := TX0) (N := 13) hx hb hts iw_X0_dropEmptyLots_X0 hown hK hP 0 rfl rfl 8 (by decide) (hts (.fieldLink RX0 36 "FavourRings$Bank" "creditors" "[I") (List.mem_of_getElem? (i := 3) rfl)) (fun _ h9 => h9) rfl dX0_dropEmptyLots_46 ?_
          refine lv_iload_n hx hb dX0_dropEmptyLots_49 rfl (lv_at hl 2 rfl) ?_
          obtain ⟨u8, eu8, h⟩ := bd_in h
          refine kI (va_runSN (As := [.ref (adB 9), .int x2]) (rest := [.int x1, .ref (adB 9)]) ⟨hx, hb, hml, hown, hts⟩ (c_X4_at l D cA cQ (adB 9) 40 (vB 9) x2 u8 eu8 _) ⟨va_cnB 2 hts gX0_dropEmptyLots_X4_at_n77 rfl rfl rfl hN.2.2.2.1 (hts (.initialized RX4) (List.mem_of_getElem? (i := 14) rfl)) (by decide +kernel) ⟨Nat.le_of_ble_eq_true rfl, Nat.le_of_ble_eq_true rfl⟩, (hts (.static yX4_at) (List.mem_of_getElem? (i := 13) rfl)), trivial⟩ (pS hK hN hP hD [9] rfl rfl) rfl rfl hl.1 rfl (lv_room (Nat.le_of_ble_eq_true rfl)) dX0_dropEmptyLots_50 ⟨Nat.zero_le _, Nat.zero_le _⟩) hP hD hS hA [9] rfl rfl (ws' := (wB cA adB (setA vB 8 u7))) rfl (fun H locs hP hD hS => ?_)
          obtain ⟨u9, eu9, h⟩ := bd_in h
          refine kV (va_runSN (As := [.ref (adB 9), .int x1, .int u8]) (rest := []) ⟨hx, hb, hml, hown, hts⟩ (c_X4_put l D cA cQ (adB 9) 40 (vB 9) x1 u8 u9 eu9 _) ⟨va_cnB 3 hts gX0_dropEmptyLots_X4_put_n55 rfl rfl rfl hN.2.1 (hts (.initialized RX4) (List.mem_of_getElem? (i := 14) rfl)) (by decide +kernel) ⟨Nat.le_of_ble_eq_true rfl, Nat.le_of_ble_eq_true rfl⟩, (hts (.static yX4_put) (List.mem_of_getElem? (i := 16) rfl)), trivial⟩ (pS hK hN hP hD [9] rfl rfl) rfl rfl hl.1 rfl (lv_room (Nat.le_of_ble_eq_true rfl)) dX0_dropEmptyLots_53 ⟨Nat.zero_le _, Nat.zero_le _⟩) hP hD hS hA [9] rfl rfl (ws' := (wB cA adB (setA (setA vB 8 u7) 9 u9))) rfl (fun H locs hP hD hS => ?_)
          refine lv_aload_n hx hb dX0_dropEmptyLots_56 rfl (lv_at hl 0 rfl) ?_
          refine va_get (D := D) (ci := 0) (v := .ref (adB 10)) (C := RX0) (T := TX0) (N := 13) hx hb hts iw_X0_dropEmptyLots_X0 hown hK hP 0 rfl rfl 9 (by decide) (hts (.fieldLink RX0 39 "FavourRings$Bank" "kinds" "[I") (List.mem_of_getElem? (i := 4) rfl)) (fun _ h9 => h9) rfl dX0_dropEmptyLots_57 ?_
          refine lv_iload_n hx hb dX0_dropEmptyLots_60 rfl (lv_at hl 1 rfl) ?_
          refine lv_aload_n hx hb dX0_dropEmptyLots_61 rfl (lv_at hl 0 rfl) ?_
          refine va_get (D := D) (ci := 0) (v := .ref (adB 10)) (C := RX0) (T := TX0) (N := 13) hx hb hts iw_X0_dropEmptyLots_X0 hown hK hP 0 rfl rfl 9 (by decide) (hts (.fieldLink RX0 39 "FavourRings$Bank" "kinds" "[I") (List.mem_of_getElem? (i := 4) rfl)) (fun _ h9 => h9) rfl dX0_dropEmptyLots_62 ?_
          refine lv_iload_n hx hb dX0_dropEmptyLots_65 rfl (lv_at hl 2 rfl) ?_
          obtain ⟨u10, eu10, h⟩ := bd_in h
          refine kI (va_runSN (As := [.ref (adB 10), .int x2]) (rest := [.int x1, .ref (adB 10)]) ⟨hx, hb, hml, hown, hts⟩ (c_X4_at l D cA cQ (adB 10) 40 (vB 10) x2 u10 eu10 _) ⟨va_cnB 2 hts gX0_dropEmptyLots_X4_at_n77 rfl rfl rfl hN.2.2.2.1 (hts (.initialized RX4) (List.mem_of_getElem? (i := 14) rfl)) (by decide +kernel) ⟨Nat.le_of_ble_eq_true rfl, Nat.le_of_ble_eq_true rfl⟩, (hts (.static yX4_at) (List.mem_of_getElem? (i := 13) rfl)), trivial⟩ (pS hK hN hP hD [10] rfl rfl) rfl rfl hl.1 rfl (lv_room (Nat.le_of_ble_eq_true rfl)) dX0_dropEmptyLots_66 ⟨Nat.zero_le _, Nat.zero_le _⟩) hP hD hS hA [10] rfl rfl (ws' := (wB cA adB (setA (setA vB 8 u7) 9 u9))) rfl (fun H locs hP hD hS => ?_)
          obtain ⟨u11, eu11, h⟩ := bd_in h
          refine kV (va_runSN (As := [.ref (adB 10), .int x1, .int u10]) (rest := []) ⟨hx, hb, hml, hown, hts⟩ (c_X4_put l D cA cQ (adB 10) 40 (vB 10) x1 u10 u11 eu11 _) ⟨va_cnB 3 hts gX0_dropEmptyLots_X4_put_n55 rfl rfl rfl hN.2.1 (hts (.initialized RX4) (List.mem_of_getElem? (i := 14) rfl)) (by decide +kernel) ⟨Nat.le_of_ble_eq_true rfl, Nat.le_of_ble_eq_true rfl⟩, (hts (.static yX4_put) (List.mem_of_getElem? (i := 16) rfl)), trivial⟩ (pS hK hN hP hD [10] rfl rfl) rfl rfl hl.1 rfl (lv_room (Nat.le_of_ble_eq_true rfl)) dX0_dropEmptyLots_69 ⟨Nat.zero_le _, Nat.zero_le _⟩) hP hD hS hA [10] rfl rfl (ws' := (wB cA adB (setA (setA (setA vB 8 u7) 9 u9) 10 u11))) rfl (fun H locs hP hD hS => ?_)
          refine lv_aload_n hx hb dX0_dropEmptyLots_72 rfl (lv_at hl 0 rfl) ?_
          refine va_get (D := D) (ci := 0) (v := .ref (adB 11)) (C := RX0) (T := TX0) (N := 13) hx hb hts iw_X0_dropEmptyLots_X0 hown hK hP 0 rfl rfl 10 (by decide) (hts (.fieldLink RX0 42 "FavourRings$Bank" "sizes" "[I") (List.mem_of_getElem? (i := 1) rfl)) (fun _ h9 => h9) rfl dX0_dropEmptyLots_73 ?_
          refine lv_iload_n hx hb dX0_dropEmptyLots_76 rfl (lv_at hl 1 rfl) ?_
          refine lv_aload_n hx hb dX0_dropEmptyLots_77 rfl (lv_at hl 0 rfl) ?_
          refine va_get (D := D) (ci := 0) (v := .ref (adB 11)) (C := RX0) (T := TX0) (N := 13) hx hb hts iw_X0_dropEmptyLots_X0 hown hK hP 0 rfl rfl 10 (by decide) (hts (.fieldLink RX0 42 "FavourRings$Bank" "sizes" "[I") (List.mem_of_getElem? (i := 1) rfl)) (fun _ h9 => h9) rfl dX0_dropEmptyLots_78 ?_
          refine lv_iload_n hx hb dX0_dropEmptyLots_81 rfl (lv_at hl 2 rfl) ?_
          obtain ⟨u12, eu12, h⟩ := bd_in h
          refine kI (va_runSN (As := [.ref (adB 11), .int x2]) (rest := [.int x1, .ref (adB 11)]) ⟨hx, hb, hml, hown, hts⟩ (c_X4_at l D cA cQ (adB 11) 40 (vB 11) x2 u12 eu12 _) ⟨va_cnB 2 hts gX0_dropEmptyLots_X4_at_n77 rfl rfl rfl hN.2.2.2.1 (hts (.initialized RX4) (List.mem_of_getElem? (i := 14) rfl)) (by decide +kernel) ⟨Nat.le_of_ble_eq_true rfl, Nat.le_of_ble_eq_true rfl⟩, (hts (.static yX4_at) (List.mem_of_getElem? (i := 13) rfl)), trivial⟩ (pS hK hN hP hD [11] rfl rfl) rfl rfl hl.1 rfl (lv_room (Nat.le_of_ble_eq_true rfl)) dX0_dropEmptyLots_82 ⟨Nat.zero_le _, Nat.zero_le _⟩) hP hD hS hA [11] rfl rfl (ws' := (wB cA adB (setA (setA (setA vB 8 u7) 9 u9) 10 u11))) rfl (fun H locs hP hD hS => ?_)
          obtain ⟨u13, eu13, h⟩ := bd_in h
          refine kV (va_runSN (As := [.ref (adB 11), .int x1, .int u12]) (rest := []) ⟨hx, hb, hml, hown, hts⟩ (c_X4_put l D cA cQ (adB 11) 40 (vB 11) x1 u12 u13 eu13 _) ⟨va_cnB 3 hts gX0_dropEmptyLots_X4_put_n55 rfl rfl rfl hN.2.1 (hts (.initialized RX4) (List.mem_of_getElem? (i := 14) rfl)) (by decide +kernel) ⟨Nat.le_of_ble_eq_true rfl, Nat.le_of_ble_eq_true rfl⟩, (hts (.static yX4_put) (List.mem_of_getElem? (i := 16) rfl)), trivial⟩ (pS hK hN hP hD [11] rfl rfl) rfl rfl hl.1 rfl (lv_room (Nat.le_of_ble_eq_true rfl)) dX0_dropEmptyLots_85 ⟨Nat.zero_le _, Nat.zero_le _⟩) hP hD hS hA [11] rfl rfl (ws' := (wB cA adB (setA (setA (setA (setA vB 8 u7) 9 u9) 10 u11) 11 u13))) rfl (fun H locs hP hD hS => ?_)
          refine lv_aload_n hx hb dX0_dropEmptyLots_88 rfl (lv_at hl 0 rfl) ?_
          refine va_get (D := D) (ci := 0) (v := .ref (adB 12)) (C := RX0) (T := TX0) (N := 13) hx hb hts iw_X0_dropEmptyLots_X0 hown hK hP 0 rfl rfl 11 (by decide) (hts (.fieldLink RX0 45 "FavourRings$Bank" "ages" "[I") (List.mem_of_getElem? (i := 5) rfl)) (fun _ h9 => h9) rfl dX0_dropEmptyLots_89 ?_
          refine lv_iload_n hx hb dX0_dropEmptyLots_92 rfl (lv_at hl 1 rfl) ?_
          refine lv_aload_n hx hb dX0_dropEmptyLots_93 rfl (lv_at hl 0 rfl) ?_
          refine va_get (D := D) (ci := 0) (v := .ref (adB 12)) (C := RX0) (T := TX0) (N := 13) hx hb hts iw_X0_dropEmptyLots_X0 hown hK hP 0 rfl rfl 11 (by decide) (hts (.fieldLink RX0 45 "FavourRings$Bank" "ages" "[I") (List.mem_of_getElem? (i := 5) rfl)) (fun _ h9 => h9) rfl dX0_dropEmptyLots_94 ?_
          refine lv_iload_n hx hb dX0_dropEmptyLots_97 rfl (lv_at hl 2 rfl) ?_
          obtain ⟨u14, eu14, h⟩ := bd_in h
          refine kI (va_runSN (As := [.ref (adB 12), .int x2]) (rest := [.int x1, .ref (adB 12)]) ⟨hx, hb, hml, hown, hts⟩ (c_X4_at l D cA cQ (adB 12) 40 (vB 12) x2 u14 eu14 _) ⟨va_cnB 2 hts gX0_dropEmptyLots_X4_at_n77 rfl rfl rfl hN.2.2.2.1 (hts (.initialized RX4) (List.mem_of_getElem? (i := 14) rfl)) (by decide +kernel) ⟨Nat.le_of_ble_eq_true rfl, Nat.le_of_ble_eq_true rfl⟩, (hts (.static yX4_at) (List.mem_of_getElem? (i := 13) rfl)), trivial⟩ (pS hK hN hP hD [12] rfl rfl) rfl rfl hl.1 rfl (lv_room (Nat.le_of_ble_eq_true rfl)) dX0_dropEmptyLots_98 ⟨Nat.zero_le _, Nat.zero_le _⟩) hP hD hS hA [12] rfl rfl (ws' := (wB cA adB (setA (setA (setA (setA vB 8 u7) 9 u9) 10 u11) 11 u13))) rfl (fun H locs hP hD hS => ?_)
          obtain ⟨u15, eu15, h⟩ := bd_in h
          refine kV (va_runSN (As := [.ref (adB 12), .int x1, .int u14]) (rest := []) ⟨hx, hb, hml, hown, hts⟩ (c_X4_put l D cA cQ (adB 12) 40 (vB 12) x1 u14 u15 eu15 _) ⟨va_cnB 3 hts gX0_dropEmptyLots_X4_put_n55 rfl rfl rfl hN.2.1 (hts (.initialized RX4) (List.mem_of_getElem? (i := 14) rfl)) (by decide +kernel) ⟨Nat.le_of_ble_eq_true rfl, Nat.le_of_ble_eq_true rfl⟩, (hts (.static yX4_put) (List.mem_of_getElem? (i := 16) rfl)), trivial⟩ (pS hK hN hP hD [12] rfl rfl) rfl rfl hl.1 rfl (lv_room (Nat.le_of_ble_eq_true rfl)) dX0_dropEmptyLots_101 ⟨Nat.zero_le _, Nat.zero_le _⟩) hP hD hS hA [12] rfl rfl (ws' := (wB cA adB (setA (setA (setA (setA (setA vB 8 u7) 9 u9) 10 u11) 11 u13) 12 u15))) rfl (fun H locs hP hD hS => ?_)
          refine lv_aload_n hx hb dX0_dropEmptyLots_104 rfl (lv_at hl 0 rfl) ?_
          refine va_get (D := D) (ci := 0) (v := .ref (adB 13)) (C := RX0) (T := TX0) (N := 13) hx hb hts iw_X0_dropEmptyLots_X0 hown hK hP 0 rfl rfl 12 (by decide) (hts (.fieldLink RX0 48 "FavourRings$Bank" "passed" "[I") (List.mem_of_getElem? (i := 6) rfl)) (fun _ h9 => h9) rfl dX0_dropEmptyLots_105 ?_
          refine lv_iload_n hx hb dX0_dropEmptyLots_108 rfl (lv_at hl 1 rfl) ?_
          refine lv_aload_n hx hb dX0_dropEmptyLots_109 rfl (lv_at hl 0 rfl) ?_
          refine va_get (D := D) (ci := 0) (v := .ref (adB 13)) (C := RX0) (T := TX0) (N := 13) hx hb hts iw_X0_dropEmptyLots_X0 hown hK hP 0 rfl rfl 12 (by decide) (hts (.fieldLink RX0 48 "FavourRings$Bank" "passed" "[I") (List.mem_of_getElem? (i := 6) rfl)) (fun _ h9 => h9) rfl dX0_dropEmptyLots_110 ?_
          refine lv_iload_n hx hb dX0_dropEmptyLots_113 rfl (lv_at hl 2 rfl) ?_
          obtain ⟨u16, eu16, h⟩ := bd_in h
          refine kI (va_runSN (As := [.ref (adB 13), .int x2]) (rest := [.int x1, .ref (adB 13)]) ⟨hx, hb, hml, hown, hts⟩ (c_X4_at l D cA cQ (adB 13) 40 (vB 13) x2 u16 eu16 _) ⟨va_cnB 2 hts gX0_dropEmptyLots_X4_at_n77 rfl rfl rfl hN.2.2.2.1 (hts (.initialized RX4) (List.mem_of_getElem? (i := 14) rfl)) (by decide +kernel) ⟨Nat.le_of_ble_eq_true rfl, Nat.le_of_ble_eq_true rfl⟩, (hts (.static yX4_at) (List.mem_of_getElem? (i := 13) rfl)), trivial⟩ (pS hK hN hP hD [13] rfl rfl) rfl rfl hl.1 rfl (lv_room (Nat.le_of_ble_eq_true rfl)) dX0_dropEmptyLots_114 ⟨Nat.zero_le _, Nat.zero_le _⟩) hP hD hS hA [13] rfl rfl (ws' := (wB cA adB (setA (setA (setA (setA (setA vB 8 u7) 9 u9) 10 u11) 11 u13) 12 u15))) rfl (fun H locs hP hD hS => ?_)
          obtain ⟨u17, eu17, h⟩ := bd_in h
          refine kV (va_runSN (As := [.ref (adB 13), .int x1, .int u16]) (rest := []) ⟨hx, hb, hml, hown, hts⟩ (c_X4_put l D cA cQ (adB 13) 40 (vB 13) x1 u16 u17 eu17 _) ⟨va_cnB 3 hts gX0_dropEmptyLots_X4_put_n55 rfl rfl rfl hN.2.1 (hts (.initialized RX4) (List.mem_of_getElem? (i := 14) rfl)) (by decide +kernel) ⟨Nat.le_of_ble_eq_true rfl, Nat.le_of_ble_eq_true rfl⟩, (hts (.static yX4_put) (List.mem_of_getElem? (i := 16) rfl)), trivial⟩ (pS hK hN hP hD [13] rfl rfl) rfl rfl hl.1 rfl (lv_room (Nat.le_of_ble_eq_true rfl)) dX0_dropEmptyLots_117 ⟨Nat.zero_le _, Nat.zero_le _⟩) hP hD hS hA [13] rfl rfl (ws' := (wB cA adB (setA (setA (setA (setA (setA (setA vB 8 u7) 9 u9) 10 u11) 11 u13) 12 u15) 13 u17))) rfl (fun H locs hP hD hS => ?_)
          refine lv_iinc (v := (x1 + (1 : Int32))) (lv' := [(1, .int (x1 + (1 : Int32))), (0, .ref (adB 0)), (2, .int x2)]) hx hb dX0_dropEmptyLots_120 hl (k := 1) rfl rfl (by decide) rfl (fun ls hl => ?_)
          refine lv_iinc (v := (x2 + (1 : Int32))) (lv' := [(2, .int (x2 + (1 : Int32))), (1, .int (x1 + (1 : Int32))), (0, .ref (adB 0))]) hx hb dX0_dropEmptyLots_123 hl (k := 2) rfl rfl (by decide) rfl (fun ls hl => ?_)
          refine lv_goto (tgt := 4) hx hb dX0_dropEmptyLots_126 (by decide) ?_
          exact ih4 (setA (setA (setA (setA (setA (setA vB 8 u7) 9 u9) 10 u11) 11 u13) 12 u15) 13 u17) (x1 + (1 : Int32)) (x2 + (1 : Int32)) _ _ _ h hP hD hS (lv_sub hl [2, 1, 0] rfl)
  have h := hf
  unfold X0_dropEmptyLots at h
  refine lv_iconst (v := (0 : Int32)) hx hb dX0_dropEmptyLots_0 (by decide) ?_
  refine lv_istore_n (lv' := [(1, .int (0 : Int32)), (0, .ref (adB 0))]) hx hb dX0_dropEmptyLots_1 rfl hl (by decide) rfl (fun ls hl => ?_)
  refine lv_iconst (v := (0 : Int32)) hx hb dX0_dropEmptyLots_2 (by decide) ?_
  refine lv_istore_n (lv' := [(2, .int (0 : Int32)), (1, .int (0 : Int32)), (0, .ref (adB 0))]) hx hb dX0_dropEmptyLots_3 rfl hl (by decide) rfl (fun ls hl => ?_)
  exact B4 FU vB (0 : Int32) (0 : Int32) _ _ _ h hP hD hS (lv_sub hl [2, 1, 0] rfl)
set_option maxHeartbeats 4000000 in
set_option maxRecDepth 100000 in
theorem c_X0_hasHolidays (l : Launch) (D : va_G) (cA cQ : ClassId) (adB : Nat → Nat) (vB : St) (o : Int32) (hf : X0_hasHolidays vB = some o) : Cti l yX0_hasHolidays wsX0_hasHolidays ({ frames := 1, cells := 0, slots := 0, locals := 21 }) D (TY cA cQ) [.ref (adB 0)] (wB cA adB vB) (wB cA adB vB) o := by
  refine Wk.i (cc := cX0_hasHolidays) (maxL := 1) (ret := (some .boolean)) (by decide) rfl (Nat.le_of_ble_eq_true rfl) ?_
  intro p e s m below meth c A ls hx hb hr hlocks hml hown hts hK hN hP hD hA hl
  have hown : s.vm.findClass RX0 = some m.cls := hown
  have hS : va_S A s.heap s.heap [] := va_S.rf
  have hl : lv_has ls 1 [(0, .ref (adB 0))] := hl
  have h := hf
  unfold X0_hasHolidays at h
  refine lv_aload_n hx hb dX0_hasHolidays_0 rfl (lv_at hl 0 rfl) ?_
  refine lv_bipush (v := (10 : Int32)) hx hb dX0_hasHolidays_1 (by decide) ?_
  obtain ⟨u1, eu1, h⟩ := bd_in h
  refine kI (va_runV (As := [.int (10 : Int32)]) (rest := []) ⟨hx, hb, hml, hown, hts⟩ (c_X0_number l D cA cQ adB vB (10 : Int32) u1 eu1 _) (cwV 1 hts gX0_hasHolidays_X0_number rfl rfl rfl (by decide +kernel) ⟨Nat.le_of_ble_eq_true rfl, Nat.le_of_ble_eq_true rfl⟩) (pV (ci := 0) (q := (RX0, TX0, 13)) hK hN hP hD [0, 1, 2, 3, 4, 5, 6, 7, 8, 9, 10, 11, 12, 13] rfl rfl rfl rfl) rfl rfl hl.1 rfl (lv_room (Nat.le_of_ble_eq_true rfl)) dX0_hasHolidays_3 ⟨Nat.zero_le _, Nat.zero_le _⟩) hP hD hS hA [0, 1, 2, 3, 4, 5, 6, 7, 8, 9, 10, 11, 12, 13] rfl rfl (ws' := (wB cA adB vB)) rfl (fun H locs hP hD hS => ?_)
  refine lv_if_eq (tgt := 13) hx hb dX0_hasHolidays_6 (by decide) (fun c2 => ?_) (fun c2 => ?_)
  · have h := (if_pos c2).symm.trans h
    refine lv_iconst (v := (0 : Int32)) hx hb dX0_hasHolidays_13 (by decide) ?_
    cases h
    exact endZ hx hb hr hlocks hP hS ⟨rfl, rfl⟩ dX0_hasHolidays_14
  · have h := (if_neg c2).symm.trans h
    refine lv_iconst (v := (1 : Int32)) hx hb dX0_hasHolidays_9 (by decide) ?_
    refine lv_goto (tgt := 14) hx hb dX0_hasHolidays_10 (by decide) ?_
    cases h
    exact endZ hx hb hr hlocks hP hS ⟨rfl, rfl⟩ dX0_hasHolidays_14
theorem iw_X0_weeksLeft_X0 : ∀ w ∈ wsX00, w ∈ wsX0_weeksLeft := fun _ h => List.mem_cons_of_mem _ (List.mem_append_right _ (h))
set_option maxHeartbeats 4000000 in
set_option maxRecDepth 100000 in
theorem c_X0_weeksLeft (l : Launch) (D : va_G) (cA cQ : ClassId) (adB : Nat → Nat) (vB : St) (p1 : Int32) (o : Int32) (hf : X0_weeksLeft vB p1 = some o) : Cti l yX0_weeksLeft wsX0_weeksLeft ({ frames := 1, cells := 0, slots := 0, locals := 21 }) D (TY cA cQ) [.ref (adB 0), .int p1] (wB cA adB vB) (wB cA adB vB) o := by
  refine Wk.i (cc := cX0_weeksLeft) (maxL := 2) (ret := (some .int)) (by decide) rfl (Nat.le_of_ble_eq_true rfl) ?_
  intro p e s m below meth c A ls hx hb hr hlocks hml hown hts hK hN hP hD hA hl
  have hown : s.vm.findClass RX0 = some m.cls := hown
  have hS : va_S A s.heap s.heap [] := va_S.rf
  have hl : lv_has ls 2 [(0, .ref (adB 0)), (1, .int p1)] := hl
  have h := hf
  unfold X0_weeksLeft at h
  refine lv_aload_n hx hb dX0_weeksLeft_0 rfl (lv_at hl 0 rfl) ?_
  refine lv_bipush (v := (20 : Int32)) hx hb dX0_weeksLeft_1 (by decide) ?_
  refine lv_aload_n hx hb dX0_weeksLeft_3 rfl (lv_at hl 0 rfl) ?_
  refine va_get (D := D) (ci := 0) (v := .ref (adB 10)) (C := RX0) (T := TX0) (N := 13) hx hb hts iw_X0_weeksLeft_X0 hown hK hP 0 rfl rfl 9 (by decide) (hts (.fieldLink RX0 39 "FavourRings$Bank" "kinds" "[I") (List.mem_of_getElem? (i := 1) rfl)) (fun _ h9 => h9) rfl dX0_weeksLeft_4 ?_
  refine lv_iload_n hx hb dX0_weeksLeft_7 rfl (lv_at hl 1 rfl) ?_
  obtain ⟨u1, eu1, h⟩ := bd_in h
  refine kI (va_runSN (As := [.ref (adB 10), .int p1]) (rest := [.int (20 : Int32), .ref (adB 0)]) ⟨hx, hb, hml, hown, hts⟩ (c_X4_at l D cA cQ (adB 10) 40 (vB 10) p1 u1 eu1 _) ⟨va_cnB 2 hts gX0_weeksLeft_X4_at_n77 rfl rfl rfl hN.2.2.2.1 (hts (.initialized RX4) (List.mem_of_getElem? (i := 4) rfl)) (by decide +kernel) ⟨Nat.le_of_ble_eq_true rfl, Nat.le_of_ble_eq_true rfl⟩, (hts (.static yX4_at) (List.mem_of_getElem? (i := 3) rfl)), trivial⟩ (pS hK hN hP hD [10] rfl rfl) rfl rfl hl.1 rfl (lv_room (Nat.le_of_ble_eq_true rfl)) dX0_weeksLeft_8 ⟨Nat.zero_le _, Nat.zero_le _⟩) hP hD hS hA [10] rfl rfl (ws' := (wB cA adB vB)) rfl (fun H locs hP hD hS => ?_)
  refine lv_iadd hx hb dX0_weeksLeft_11 ?_
  obtain ⟨u2, eu2, h⟩ := bd_in h
  refine kI (va_runV (As := [.int ((20 : Int32) + u1)]) (rest := []) ⟨hx, hb, hml, hown, hts⟩ (c_X0_number l D cA cQ adB vB ((20 : Int32) + u1) u2 eu2 _) (cwV 1 hts gX0_weeksLeft_X0_number rfl rfl rfl (by decide +kernel) ⟨Nat.le_of_ble_eq_true rfl, Nat.le_of_ble_eq_true rfl⟩) (pV (ci := 0) (q := (RX0, TX0, 13)) hK hN hP hD [0, 1, 2, 3, 4, 5, 6, 7, 8, 9, 10, 11, 12, 13] rfl rfl rfl rfl) rfl rfl hl.1 rfl (lv_room (Nat.le_of_ble_eq_true rfl)) dX0_weeksLeft_12 ⟨Nat.zero_le _, Nat.zero_le _⟩) hP hD hS hA [0, 1, 2, 3, 4, 5, 6, 7, 8, 9, 10, 11, 12, 13] rfl rfl (ws' := (wB cA adB vB)) rfl (fun H locs hP hD hS => ?_)
  refine lv_aload_n hx hb dX0_weeksLeft_15 rfl (lv_at hl 0 rfl) ?_
  refine va_get (D := D) (ci := 0) (v := .ref (adB 12)) (C := RX0) (T := TX0) (N := 13) hx hb hts iw_X0_weeksLeft_X0 hown hK hP 0 rfl rfl 11 (by decide) (hts (.fieldLink RX0 45 "FavourRings$Bank" "ages" "[I") (List.mem_of_getElem? (i := 2) rfl)) (fun _ h9 => h9) rfl dX0_weeksLeft_16 ?_
  refine lv_iload_n hx hb dX0_weeksLeft_19 rfl (lv_at hl 1 rfl) ?_
  obtain ⟨u3, eu3, h⟩ := bd_in h
  refine kI (va_runSN (As := [.ref (adB 12), .int p1]) (rest := [.int u2]) ⟨hx, hb, hml, hown, hts⟩ (c_X4_at l D cA cQ (adB 12) 40 (vB 12) p1 u3 eu3 _) ⟨va_cnB 2 hts gX0_weeksLeft_X4_at_n77 rfl rfl rfl hN.2.2.2.1 (hts (.initialized RX4) (List.mem_of_getElem? (i := 4) rfl)) (by decide +kernel) ⟨Nat.le_of_ble_eq_true rfl, Nat.le_of_ble_eq_true rfl⟩, (hts (.static yX4_at) (List.mem_of_getElem? (i := 3) rfl)), trivial⟩ (pS hK hN hP hD [12] rfl rfl) rfl rfl hl.1 rfl (lv_room (Nat.le_of_ble_eq_true rfl)) dX0_weeksLeft_20 ⟨Nat.zero_le _, Nat.zero_le _⟩) hP hD hS hA [12] rfl rfl (ws' := (wB cA adB vB)) rfl (fun H locs hP hD hS => ?_)
  refine lv_isub hx hb dX0_weeksLeft_23 ?_
  cases h
  exact endI hx hb hr hlocks hP hS rfl dX0_weeksLeft_24
theorem iw_X0_guarantorOf_X0 : ∀ w ∈ wsX00, w ∈ wsX0_guarantorOf := fun _ h => List.mem_cons_of_mem _ (List.mem_append_right _ (h))
set_option maxHeartbeats 4000000 in
set_option maxRecDepth 100000 in
theorem c_X0_guarantorOf (l : Launch) (D : va_G) (cA cQ : ClassId) (adB : Nat → Nat) (vB : St) (p1 : Int32) (o : Int32) (hf : X0_guarantorOf vB p1 = some o) : Cti l yX0_guarantorOf wsX0_guarantorOf ({ frames := 0, cells := 0, slots := 0, locals := 0 }) D (TY cA cQ) [.ref (adB 0), .int p1] (wB cA adB vB) (wB cA adB vB) o := by
  refine Wk.i (cc := cX0_guarantorOf) (maxL := 2) (ret := (some .int)) (by decide) rfl (Nat.le_of_ble_eq_true rfl) ?_
  intro p e s m below meth c A ls hx hb hr hlocks hml hown hts hK hN hP hD hA hl
  have hown : s.vm.findClass RX0 = some m.cls := hown
  have hS : va_S A s.heap s.heap [] := va_S.rf
  have hl : lv_has ls 2 [(0, .ref (adB 0)), (1, .int p1)] := hl
  have h := hf
  unfold X0_guarantorOf at h
  refine lv_iload_n hx hb dX0_guarantorOf_0 rfl (lv_at hl 1 rfl) ?_
  refine lv_if_lt (tgt := 24) hx hb dX0_guarantorOf_1 (by decide) (fun c1 => ?_) (fun c1 => ?_)
  · have h := (if_pos c1).symm.trans h
    refine lv_iconst (v := (-1 : Int32)) hx hb dX0_guarantorOf_24 (by decide) ?_
    cases h
    exact endI hx hb hr hlocks hP hS rfl dX0_guarantorOf_25
  · have h := (if_neg c1).symm.trans h
    refine lv_iload_n hx hb dX0_guarantorOf_4 rfl (lv_at hl 1 rfl) ?_
    refine lv_aload_n hx hb dX0_guarantorOf_5 rfl (lv_at hl 0 rfl) ?_
    refine va_get (D := D) (ci := 0) (v := .ref (adB 5)) (C := RX0) (T := TX0) (N := 13) hx hb hts iw_X0_guarantorOf_X0 hown hK hP 0 rfl rfl 4 (by decide) (hts (.fieldLink RX0 24 "FavourRings$Bank" "guarantors" "[I") (List.mem_of_getElem? (i := 1) rfl)) (fun _ h9 => h9) rfl dX0_guarantorOf_6 ?_
    refine va_alen hx hb hK hP 5 0 rfl rfl (v := (8 : Int32)) rfl dX0_guarantorOf_9 ?_
    refine lv_icmp_ge (tgt := 24) hx hb dX0_guarantorOf_10 (by decide) (fun c2 => ?_) (fun c2 => ?_)
    · have h := (if_pos c2).symm.trans h
      refine lv_iconst (v := (-1 : Int32)) hx hb dX0_guarantorOf_24 (by decide) ?_
      cases h
      exact endI hx hb hr hlocks hP hS rfl dX0_guarantorOf_25
    · have h := (if_neg c2).symm.trans h
      refine lv_aload_n hx hb dX0_guarantorOf_13 rfl (lv_at hl 0 rfl) ?_
      refine va_get (D := D) (ci := 0) (v := .ref (adB 5)) (C := RX0) (T := TX0) (N := 13) hx hb hts iw_X0_guarantorOf_X0 hown hK hP 0 rfl rfl 4 (by decide) (hts (.fieldLink RX0 24 "FavourRings$Bank" "guarantors" "[I") (List.mem_of_getElem? (i := 1) rfl)) (fun _ h9 => h9) rfl dX0_guarantorOf_14 ?_
      refine lv_iload_n hx hb dX0_guarantorOf_17 rfl (lv_at hl 1 rfl) ?_
      obtain ⟨y3, ey3, h⟩ := bd_in h
      refine ldR hx hb hK hP 5 0 rfl rfl ey3 dX0_guarantorOf_18 ?_
      refine lv_iconst (v := (1 : Int32)) hx hb dX0_guarantorOf_19 (by decide) ?_
      refine lv_isub hx hb dX0_guarantorOf_20 ?_
      refine lv_goto (tgt := 25) hx hb dX0_guarantorOf_21 (by decide) ?_
      cases h
      exact endI hx hb hr hlocks hP hS rfl dX0_guarantorOf_25
theorem iw_X0_passToGuarantor_X0 : ∀ w ∈ wsX00, w ∈ wsX0_passToGuarantor := fun _ h => List.mem_cons_of_mem _ (List.mem_append_right _ (h))
set_option maxHeartbeats 4000000 in
set_option maxRecDepth 100000 in
theorem c_X0_passToGuarantor (l : Launch) (D : va_G) (cA cQ : ClassId) (adB : Nat → Nat) (vB : St) (p1 : Int32) (o : Int32 × St) (hf : X0_passToGuarantor vB p1 = some o) : Cti l yX0_passToGuarantor wsX0_passToGuarantor ({ frames := 1, cells := 0, slots := 0, locals := 22 }) D (TY cA cQ) [.ref (adB 0), .int p1] (wB cA adB vB) (wB cA adB o.2) o.1 := by
  refine Wk.i (cc := cX0_passToGuarantor) (maxL := 5) (ret := (some .boolean)) (by decide) rfl (Nat.le_of_ble_eq_true rfl) ?_
  intro p e s m below meth c A ls hx hb hr hlocks hml hown hts hK hN hP hD hA hl
  have hown : s.vm.findClass RX0 = some m.cls := hown
  have hS : va_S A s.heap s.heap [] := va_S.rf
  have hl : lv_has ls 5 [(0, .ref (adB 0)), (1, .int p1)] := hl
  have h := hf
  unfold X0_passToGuarantor at h
  refine lv_aload_n hx hb dX0_passToGuarantor_0 rfl (lv_at hl 0 rfl) ?_
  refine va_get (D := D) (ci := 0) (v := .ref (adB 8)) (C := RX0) (T := TX0) (N := 13) hx hb hts iw_X0_passToGuarantor_X0 hown hK hP 0 rfl rfl 7 (by decide) (hts (.fieldLink RX0 33 "FavourRings$Bank" "debtors" "[I") (List.mem_of_getElem? (i := 1) rfl)) (fun _ h9 => h9) rfl dX0_passToGuarantor_1 ?_
  refine lv_iload_n hx hb dX0_passToGuarantor_4 rfl (lv_at hl 1 rfl) ?_
  obtain ⟨u1, eu1, h⟩ := bd_in h
  refine kI (va_runSN (As := [.ref (adB 8), .int p1]) (rest := []) ⟨hx, hb, hml, hown, hts⟩ (c_X4_at l D cA cQ (adB 8) 40 (vB 8) p1 u1 eu1 _) ⟨va_cnB 2 hts gX0_passToGuarantor_X4_at_n77 rfl rfl rfl hN.2.2.2.1 (hts (.initialized RX4) (List.mem_of_getElem? (i := 10) rfl)) (by decide +kernel) ⟨Nat.le_of_ble_eq_true rfl, Nat.le_of_ble_eq_true rfl⟩, (hts (.static yX4_at) (List.mem_of_getElem? (i := 9) rfl)), trivial⟩ (pS hK hN hP hD [8] rfl rfl) rfl rfl hl.1 rfl (lv_room (Nat.le_of_ble_eq_true rfl)) dX0_passToGuarantor_5 ⟨Nat.zero_le _, Nat.zero_le _⟩) hP hD hS hA [8] rfl rfl (ws' := (wB cA adB vB)) rfl (fun H locs hP hD hS => ?_)
  refine lv_istore_n (lv' := [(2, .int u1), (0, .ref (adB 0)), (1, .int p1)]) hx hb dX0_passToGuarantor_8 rfl hl (by decide) rfl (fun ls hl => ?_)
  refine lv_aload_n hx hb dX0_passToGuarantor_9 rfl (lv_at hl 1 rfl) ?_
  refine lv_iload_n hx hb dX0_passToGuarantor_10 rfl (lv_at hl 0 rfl) ?_
  obtain ⟨u2, eu2, h⟩ := bd_in h
  refine kI (va_runV (As := [.int u1]) (rest := []) ⟨hx, hb, hml, hown, hts⟩ (c_X0_guarantorOf l D cA cQ adB vB u1 u2 eu2 _) (cwV 1 hts gX0_passToGuarantor_X0_guarantorOf rfl rfl rfl (by decide +kernel) ⟨Nat.le_of_ble_eq_true rfl, Nat.le_of_ble_eq_true rfl⟩) (pV (ci := 0) (q := (RX0, TX0, 13)) hK hN hP hD [0, 1, 2, 3, 4, 5, 6, 7, 8, 9, 10, 11, 12, 13] rfl rfl rfl rfl) rfl rfl hl.1 rfl (lv_room (Nat.le_of_ble_eq_true rfl)) dX0_passToGuarantor_11 ⟨Nat.zero_le _, Nat.zero_le _⟩) hP hD hS hA [0, 1, 2, 3, 4, 5, 6, 7, 8, 9, 10, 11, 12, 13] rfl rfl (ws' := (wB cA adB vB)) rfl (fun H locs hP hD hS => ?_)
  refine lv_istore_n (lv' := [(3, .int u2), (2, .int u1), (0, .ref (adB 0)), (1, .int p1)]) hx hb dX0_passToGuarantor_14 rfl hl (by decide) rfl (fun ls hl => ?_)
  refine lv_iload_n hx hb dX0_passToGuarantor_15 rfl (lv_at hl 0 rfl) ?_
  refine lv_if_lt (tgt := 42) hx hb dX0_passToGuarantor_16 (by decide) (fun c3 => ?_) (fun c3 => ?_)
  · have h := (if_pos c3).symm.trans h
    refine lv_iconst (v := (0 : Int32)) hx hb dX0_passToGuarantor_42 (by decide) ?_
    cases h
    exact endZ hx hb hr hlocks hP hS ⟨rfl, rfl⟩ dX0_passToGuarantor_43
  · have h := (if_neg c3).symm.trans h
    refine lv_iload_n hx hb dX0_passToGuarantor_19 rfl (lv_at hl 0 rfl) ?_
    refine lv_aload_n hx hb dX0_passToGuarantor_20 rfl (lv_at hl 2 rfl) ?_
    refine va_get (D := D) (ci := 0) (v := .ref (adB 9)) (C := RX0) (T := TX0) (N := 13) hx hb hts iw_X0_passToGuarantor_X0 hown hK hP 0 rfl rfl 8 (by decide) (hts (.fieldLink RX0 36 "FavourRings$Bank" "creditors" "[I") (List.mem_of_getElem? (i := 2) rfl)) (fun _ h9 => h9) rfl dX0_passToGuarantor_21 ?_
    refine lv_iload_n hx hb dX0_passToGuarantor_24 rfl (lv_at hl 3 rfl) ?_
    obtain ⟨u4, eu4, h⟩ := bd_in h
    refine kI (va_runSN (As := [.ref (adB 9), .int p1]) (rest := [.int u2]) ⟨hx, hb, hml, hown, hts⟩ (c_X4_at l D cA cQ (adB 9) 40 (vB 9) p1 u4 eu4 _) ⟨va_cnB 2 hts gX0_passToGuarantor_X4_at_n77 rfl rfl rfl hN.2.2.2.1 (hts (.initialized RX4) (List.mem_of_getElem? (i := 10) rfl)) (by decide +kernel) ⟨Nat.le_of_ble_eq_true rfl, Nat.le_of_ble_eq_true rfl⟩, (hts (.static yX4_at) (List.mem_of_getElem? (i := 9) rfl)), trivial⟩ (pS hK hN hP hD [9] rfl rfl) rfl rfl hl.1 rfl (lv_room (Nat.le_of_ble_eq_true rfl)) dX0_passToGuarantor_25 ⟨Nat.zero_le _, Nat.zero_le _⟩) hP hD hS hA [9] rfl rfl (ws' := (wB cA adB vB)) rfl (fun H locs hP hD hS => ?_)
    refine lv_icmp_eq (tgt := 42) hx hb dX0_passToGuarantor_28 (by decide) (fun c5 => ?_) (fun c5 => ?_)
    · have h := (if_pos c5).symm.trans h
      refine lv_iconst (v := (0 : Int32)) hx hb dX0_passToGuarantor_42 (by decide) ?_
      cases h
      exact endZ hx hb hr hlocks hP hS ⟨rfl, rfl⟩ dX0_passToGuarantor_43
    · have h := (if_neg c5).symm.trans h
      refine lv_aload_n hx hb dX0_passToGuarantor_31 rfl (lv_at hl 2 rfl) ?_
      refine va_get (D := D) (ci := 0) (v := .ref (adB 13)) (C := RX0) (T := TX0) (N := 13) hx hb hts iw_X0_passToGuarantor_X0 hown hK hP 0 rfl rfl 12 (by decide) (hts (.fieldLink RX0 48 "FavourRings$Bank" "passed" "[I") (List.mem_of_getElem? (i := 3) rfl)) (fun _ h9 => h9) rfl dX0_passToGuarantor_32 ?_
      refine lv_iload_n hx hb dX0_passToGuarantor_35 rfl (lv_at hl 3 rfl) ?_
      obtain ⟨u6, eu6, h⟩ := bd_in h
      refine kI (va_runSN (As := [.ref (adB 13), .int p1]) (rest := []) ⟨hx, hb, hml, hown, hts⟩ (c_X4_at l D cA cQ (adB 13) 40 (vB 13) p1 u6 eu6 _) ⟨va_cnB 2 hts gX0_passToGuarantor_X4_at_n77 rfl rfl rfl hN.2.2.2.1 (hts (.initialized RX4) (List.mem_of_getElem? (i := 10) rfl)) (by decide +kernel) ⟨Nat.le_of_ble_eq_true rfl, Nat.le_of_ble_eq_true rfl⟩, (hts (.static yX4_at) (List.mem_of_getElem? (i := 9) rfl)), trivial⟩ (pS hK hN hP hD [13] rfl rfl) rfl rfl hl.1 rfl (lv_room (Nat.le_of_ble_eq_true rfl)) dX0_passToGuarantor_36 ⟨Nat.zero_le _, Nat.zero_le _⟩) hP hD hS hA [13] rfl rfl (ws' := (wB cA adB vB)) rfl (fun H locs hP hD hS => ?_)
      refine lv_if_eq (tgt := 44) hx hb dX0_passToGuarantor_39 (by decide) (fun c7 => ?_) (fun c7 => ?_)
      · have h := (if_pos c7).symm.trans h
        refine lv_aload_n hx hb dX0_passToGuarantor_44 rfl (lv_at hl 2 rfl) ?_
        refine va_get (D := D) (ci := 0) (v := .ref (adB 11)) (C := RX0) (T := TX0) (N := 13) hx hb hts iw_X0_passToGuarantor_X0 hown hK hP 0 rfl rfl 10 (by decide) (hts (.fieldLink RX0 42 "FavourRings$Bank" "sizes" "[I") (List.mem_of_getElem? (i := 4) rfl)) (fun _ h9 => h9) rfl dX0_passToGuarantor_45 ?_
        refine lv_iload_n hx hb dX0_passToGuarantor_48 rfl (lv_at hl 3 rfl) ?_
        obtain ⟨u8, eu8, h⟩ := bd_in h
        refine kI (va_runSN (As := [.ref (adB 11), .int p1]) (rest := []) ⟨hx, hb, hml, hown, hts⟩ (c_X4_at l D cA cQ (adB 11) 40 (vB 11) p1 u8 eu8 _) ⟨va_cnB 2 hts gX0_passToGuarantor_X4_at_n77 rfl rfl rfl hN.2.2.2.1 (hts (.initialized RX4) (List.mem_of_getElem? (i := 10) rfl)) (by decide +kernel) ⟨Nat.le_of_ble_eq_true rfl, Nat.le_of_ble_eq_true rfl⟩, (hts (.static yX4_at) (List.mem_of_getElem? (i := 9) rfl)), trivial⟩ (pS hK hN hP hD [11] rfl rfl) rfl rfl hl.1 rfl (lv_room (Nat.le_of_ble_eq_true rfl)) dX0_passToGuarantor_49 ⟨Nat.zero_le _, Nat.zero_le _⟩) hP hD hS hA [11] rfl rfl (ws' := (wB cA adB vB)) rfl (fun H locs hP hD hS => ?_)
        refine lv_istore (lv' := [(4, .int u8), (3, .int u2), (2, .int u1), (0, .ref (adB 0)), (1, .int p1)]) hx hb dX0_passToGuarantor_52 hl (by decide) rfl (fun ls hl => ?_)
        refine lv_aload_n hx hb dX0_passToGuarantor_54 rfl (lv_at hl 3 rfl) ?_
        refine va_get (D := D) (ci := 0) (v := .ref (adB 8)) (C := RX0) (T := TX0) (N := 13) hx hb hts iw_X0_passToGuarantor_X0 hown hK hP 0 rfl rfl 7 (by decide) (hts (.fieldLink RX0 33 "FavourRings$Bank" "debtors" "[I") (List.mem_of_getElem? (i := 1) rfl)) (fun _ h9 => h9) rfl dX0_passToGuarantor_55 ?_
        refine lv_iload_n hx hb dX0_passToGuarantor_58 rfl (lv_at hl 4 rfl) ?_
        refine lv_iload_n hx hb dX0_passToGuarantor_59 rfl (lv_at hl 1 rfl) ?_
        obtain ⟨u9, eu9, h⟩ := bd_in h
        refine kV (va_runSN (As := [.ref (adB 8), .int p1, .int u2]) (rest := []) ⟨hx, hb, hml, hown, hts⟩ (c_X4_put l D cA cQ (adB 8) 40 (vB 8) p1 u2 u9 eu9 _) ⟨va_cnB 3 hts gX0_passToGuarantor_X4_put_n55 rfl rfl rfl hN.2.1 (hts (.initialized RX4) (List.mem_of_getElem? (i := 10) rfl)) (by decide +kernel) ⟨Nat.le_of_ble_eq_true rfl, Nat.le_of_ble_eq_true rfl⟩, (hts (.static yX4_put) (List.mem_of_getElem? (i := 18) rfl)), trivial⟩ (pS hK hN hP hD [8] rfl rfl) rfl rfl hl.1 rfl (lv_room (Nat.le_of_ble_eq_true rfl)) dX0_passToGuarantor_60 ⟨Nat.zero_le _, Nat.zero_le _⟩) hP hD hS hA [8] rfl rfl (ws' := (wB cA adB (setA vB 8 u9))) rfl (fun H locs hP hD hS => ?_)
        refine lv_aload_n hx hb dX0_passToGuarantor_63 rfl (lv_at hl 3 rfl) ?_
        refine va_get (D := D) (ci := 0) (v := .ref (adB 12)) (C := RX0) (T := TX0) (N := 13) hx hb hts iw_X0_passToGuarantor_X0 hown hK hP 0 rfl rfl 11 (by decide) (hts (.fieldLink RX0 45 "FavourRings$Bank" "ages" "[I") (List.mem_of_getElem? (i := 5) rfl)) (fun _ h9 => h9) rfl dX0_passToGuarantor_64 ?_
        refine lv_iload_n hx hb dX0_passToGuarantor_67 rfl (lv_at hl 4 rfl) ?_
        refine lv_iconst (v := (0 : Int32)) hx hb dX0_passToGuarantor_68 (by decide) ?_
        obtain ⟨u10, eu10, h⟩ := bd_in h
        refine kV (va_runSN (As := [.ref (adB 12), .int p1, .int (0 : Int32)]) (rest := []) ⟨hx, hb, hml, hown, hts⟩ (c_X4_put l D cA cQ (adB 12) 40 (vB 12) p1 (0 : Int32) u10 eu10 _) ⟨va_cnB 3 hts gX0_passToGuarantor_X4_put_n55 rfl rfl rfl hN.2.1 (hts (.initialized RX4) (List.mem_of_getElem? (i := 10) rfl)) (by decide +kernel) ⟨Nat.le_of_ble_eq_true rfl, Nat.le_of_ble_eq_true rfl⟩, (hts (.static yX4_put) (List.mem_of_getElem? (i := 18) rfl)), trivial⟩ (pS hK hN hP hD [12] rfl rfl) rfl rfl hl.1 rfl (lv_room (Nat.le_of_ble_eq_true rfl)) dX0_passToGuarantor_69 ⟨Nat.zero_le _, Nat.zero_le _⟩) hP hD hS hA [12] rfl rfl (ws' := (wB cA adB (setA (setA vB 8 u9) 12 u10))) rfl (fun H locs hP hD hS => ?_)
        refine lv_aload_n hx hb dX0_passToGuarantor_72 rfl (lv_at hl 3 rfl) ?_
        refine va_get (D := D) (ci := 0) (v := .ref (adB 13)) (C := RX0) (T := TX0) (N := 13) hx hb hts iw_X0_passToGuarantor_X0 hown hK hP 0 rfl rfl 12 (by decide) (hts (.fieldLink RX0 48 "FavourRings$Bank" "passed" "[I") (List.mem_of_getElem? (i := 3) rfl)) (fun _ h9 => h9) rfl dX0_passToGuarantor_73 ?_
        refine lv_iload_n hx hb dX0_passToGuarantor_76 rfl (lv_at hl 4 rfl) ?_
        refine lv_iconst (v := (1 : Int32)) hx hb dX0_passToGuarantor_77 (by decide) ?_
        obtain ⟨u11, eu11, h⟩ := bd_in h
        refine kV (va_runSN (As := [.ref (adB 13), .int p1, .int (1 : Int32)]) (rest := []) ⟨hx, hb, hml, hown, hts⟩ (c_X4_put l D cA cQ (adB 13) 40 (vB 13) p1 (1 : Int32) u11 eu11 _) ⟨va_cnB 3 hts gX0_passToGuarantor_X4_put_n55 rfl rfl rfl hN.2.1 (hts (.initialized RX4) (List.mem_of_getElem? (i := 10) rfl)) (by decide +kernel) ⟨Nat.le_of_ble_eq_true rfl, Nat.le_of_ble_eq_true rfl⟩, (hts (.static yX4_put) (List.mem_of_getElem? (i := 18) rfl)), trivial⟩ (pS hK hN hP hD [13] rfl rfl) rfl rfl hl.1 rfl (lv_room (Nat.le_of_ble_eq_true rfl)) dX0_passToGuarantor_78 ⟨Nat.zero_le _, Nat.zero_le _⟩) hP hD hS hA [13] rfl rfl (ws' := (wB cA adB (setA (setA (setA vB 8 u9) 12 u10) 13 u11))) rfl (fun H locs hP hD hS => ?_)
        refine lv_aload_n hx hb dX0_passToGuarantor_81 rfl (lv_at hl 3 rfl) ?_
        refine va_get (D := D) (ci := 0) (v := .ref (adB 2)) (C := RX0) (T := TX0) (N := 13) hx hb hts iw_X0_passToGuarantor_X0 hown hK hP 0 rfl rfl 1 (by decide) (hts (.fieldLink RX0 15 "FavourRings$Bank" "came" "[I") (List.mem_of_getElem? (i := 6) rfl)) (fun _ h9 => h9) rfl dX0_passToGuarantor_82 ?_
        refine lv_iload_n hx hb dX0_passToGuarantor_85 rfl (lv_at hl 2 rfl) ?_
        refine lv_iload hx hb dX0_passToGuarantor_86 (lv_at hl 0 rfl) ?_
        obtain ⟨u12, eu12, h⟩ := bd_in h
        refine kV (va_runSN (As := [.ref (adB 2), .int u1, .int u8]) (rest := []) ⟨hx, hb, hml, hown, hts⟩ (c_X4_add l D cA cQ (adB 2) 8 (vB 2) u1 u8 u12 eu12 _) ⟨va_cnB 3 hts gX0_passToGuarantor_X4_add_n86 rfl rfl rfl hN.2.2.2.2.1 (hts (.initialized RX4) (List.mem_of_getElem? (i := 10) rfl)) (by decide +kernel) ⟨Nat.le_of_ble_eq_true rfl, Nat.le_of_ble_eq_true rfl⟩, (hts (.static yX4_add) (List.mem_of_getElem? (i := 20) rfl)), trivial⟩ (pS hK hN hP hD [2] rfl rfl) rfl rfl hl.1 rfl (lv_room (Nat.le_of_ble_eq_true rfl)) dX0_passToGuarantor_88 ⟨Nat.zero_le _, Nat.zero_le _⟩) hP hD hS hA [2] rfl rfl (ws' := (wB cA adB (setA (setA (setA (setA vB 8 u9) 12 u10) 13 u11) 2 u12))) rfl (fun H locs hP hD hS => ?_)
        refine lv_aload_n hx hb dX0_passToGuarantor_91 rfl (lv_at hl 3 rfl) ?_
        refine va_get (D := D) (ci := 0) (v := .ref (adB 2)) (C := RX0) (T := TX0) (N := 13) hx hb hts iw_X0_passToGuarantor_X0 hown hK hP 0 rfl rfl 1 (by decide) (hts (.fieldLink RX0 15 "FavourRings$Bank" "came" "[I") (List.mem_of_getElem? (i := 6) rfl)) (fun _ h9 => h9) rfl dX0_passToGuarantor_92 ?_
        refine lv_iload_n hx hb dX0_passToGuarantor_95 rfl (lv_at hl 1 rfl) ?_
        refine lv_iload hx hb dX0_passToGuarantor_96 (lv_at hl 0 rfl) ?_
        refine lv_ineg hx hb dX0_passToGuarantor_98 ?_
        obtain ⟨u13, eu13, h⟩ := bd_in h
        refine kV (va_runSN (As := [.ref (adB 2), .int u2, .int (-u8)]) (rest := []) ⟨hx, hb, hml, hown, hts⟩ (c_X4_add l D cA cQ (adB 2) 8 u12 u2 (-u8) u13 eu13 _) ⟨va_cnB 3 hts gX0_passToGuarantor_X4_add_n86 rfl rfl rfl hN.2.2.2.2.1 (hts (.initialized RX4) (List.mem_of_getElem? (i := 10) rfl)) (by decide +kernel) ⟨Nat.le_of_ble_eq_true rfl, Nat.le_of_ble_eq_true rfl⟩, (hts (.static yX4_add) (List.mem_of_getElem? (i := 20) rfl)), trivial⟩ (pS hK hN hP hD [2] rfl rfl) rfl rfl hl.1 rfl (lv_room (Nat.le_of_ble_eq_true rfl)) dX0_passToGuarantor_99 ⟨Nat.zero_le _, Nat.zero_le _⟩) hP hD hS hA [2] rfl rfl (ws' := (wB cA adB (setA (setA (setA (setA vB 8 u9) 12 u10) 13 u11) 2 u13))) rfl (fun H locs hP hD hS => ?_)
        refine lv_aload_n hx hb dX0_passToGuarantor_102 rfl (lv_at hl 3 rfl) ?_
        refine va_get (D := D) (ci := 0) (v := .ref (adB 6)) (C := RX0) (T := TX0) (N := 13) hx hb hts iw_X0_passToGuarantor_X0 hown hK hP 0 rfl rfl 5 (by decide) (hts (.fieldLink RX0 27 "FavourRings$Bank" "takenOver" "[I") (List.mem_of_getElem? (i := 7) rfl)) (fun _ h9 => h9) rfl dX0_passToGuarantor_103 ?_
        refine lv_iload_n hx hb dX0_passToGuarantor_106 rfl (lv_at hl 1 rfl) ?_
        refine lv_iload hx hb dX0_passToGuarantor_107 (lv_at hl 0 rfl) ?_
        obtain ⟨u14, eu14, h⟩ := bd_in h
        refine kV (va_runSN (As := [.ref (adB 6), .int u2, .int u8]) (rest := []) ⟨hx, hb, hml, hown, hts⟩ (c_X4_add l D cA cQ (adB 6) 8 (vB 6) u2 u8 u14 eu14 _) ⟨va_cnB 3 hts gX0_passToGuarantor_X4_add_n86 rfl rfl rfl hN.2.2.2.2.1 (hts (.initialized RX4) (List.mem_of_getElem? (i := 10) rfl)) (by decide +kernel) ⟨Nat.le_of_ble_eq_true rfl, Nat.le_of_ble_eq_true rfl⟩, (hts (.static yX4_add) (List.mem_of_getElem? (i := 20) rfl)), trivial⟩ (pS hK hN hP hD [6] rfl rfl) rfl rfl hl.1 rfl (lv_room (Nat.le_of_ble_eq_true rfl)) dX0_passToGuarantor_109 ⟨Nat.zero_le _, Nat.zero_le _⟩) hP hD hS hA [6] rfl rfl (ws' := (wB cA adB (setA (setA (setA (setA (setA vB 8 u9) 12 u10) 13 u11) 2 u13) 6 u14))) rfl (fun H locs hP hD hS => ?_)
        refine lv_aload_n hx hb dX0_passToGuarantor_112 rfl (lv_at hl 3 rfl) ?_
        refine va_get (D := D) (ci := 0) (v := .ref (adB 1)) (C := RX0) (T := TX0) (N := 13) hx hb hts iw_X0_passToGuarantor_X0 hown hK hP 0 rfl rfl 0 (by decide) (hts (.fieldLink RX0 9 "FavourRings$Bank" "numbers" "[I") (List.mem_of_getElem? (i := 8) rfl)) (fun _ h9 => h9) rfl dX0_passToGuarantor_113 ?_
        refine lv_bipush (v := (8 : Int32)) hx hb dX0_passToGuarantor_116 (by decide) ?_
        refine lv_iload hx hb dX0_passToGuarantor_118 (lv_at hl 0 rfl) ?_
        obtain ⟨u15, eu15, h⟩ := bd_in h
        refine kV (va_runSN (As := [.ref (adB 1), .int (8 : Int32), .int u8]) (rest := []) ⟨hx, hb, hml, hown, hts⟩ (c_X4_add l D cA cQ (adB 1) 26 (vB 1) (8 : Int32) u8 u15 eu15 _) ⟨va_cnB 3 hts gX0_passToGuarantor_X4_add_n86 rfl rfl rfl hN.2.2.2.2.1 (hts (.initialized RX4) (List.mem_of_getElem? (i := 10) rfl)) (by decide +kernel) ⟨Nat.le_of_ble_eq_true rfl, Nat.le_of_ble_eq_true rfl⟩, (hts (.static yX4_add) (List.mem_of_getElem? (i := 20) rfl)), trivial⟩ (pS hK hN hP hD [1] rfl rfl) rfl rfl hl.1 rfl (lv_room (Nat.le_of_ble_eq_true rfl)) dX0_passToGuarantor_120 ⟨Nat.zero_le _, Nat.zero_le _⟩) hP hD hS hA [1] rfl rfl (ws' := (wB cA adB (setA (setA (setA (setA (setA (setA vB 8 u9) 12 u10) 13 u11) 2 u13) 6 u14) 1 u15))) rfl (fun H locs hP hD hS => ?_)
        refine lv_iconst (v := (1 : Int32)) hx hb dX0_passToGuarantor_123 (by decide) ?_
        cases h
        exact endZ hx hb hr hlocks hP hS ⟨rfl, rfl⟩ dX0_passToGuarantor_124
      · have h := (if_neg c7).symm.trans h
        refine lv_iconst (v := (0 : Int32)) hx hb dX0_passToGuarantor_42 (by decide) ?_
        cases h
        exact endZ hx hb hr hlocks hP hS ⟨rfl, rfl⟩ dX0_passToGuarantor_43
theorem iw_X0_spoilLot_X0 : ∀ w ∈ wsX00, w ∈ wsX0_spoilLot := fun _ h => List.mem_cons_of_mem _ (List.mem_append_right _ (h))
set_option maxHeartbeats 4000000 in
set_option maxRecDepth 100000 in
theorem c_X0_spoilLot (l : Launch) (D : va_G) (cA cQ : ClassId) (adB : Nat → Nat) (vB : St) (p1 : Int32) (o : St) (hf : X0_spoilLot vB p1 = some o) : Ctv l yX0_spoilLot wsX0_spoilLot ({ frames := 1, cells := 0, slots := 0, locals := 22 }) D (TY cA cQ) [.ref (adB 0), .int p1] (wB cA adB vB) (wB cA adB o) := by
  refine Wk.v (cc := cX0_spoilLot) (maxL := 4) (ret := none) (by decide) rfl (Nat.le_of_ble_eq_true rfl) ?_
  intro p e s m below meth c A ls hx hb hr hlocks hml hown hts hK hN hP hD hA hl
  have hown : s.vm.findClass RX0 = some m.cls := hown
  have hS : va_S A s.heap s.heap [] := va_S.rf
  have hl : lv_has ls 4 [(0, .ref (adB 0)), (1, .int p1)] := hl
  have h := hf
  unfold X0_spoilLot at h
  refine lv_aload_n hx hb dX0_spoilLot_0 rfl (lv_at hl 0 rfl) ?_
  refine va_get (D := D) (ci := 0) (v := .ref (adB 8)) (C := RX0) (T := TX0) (N := 13) hx hb hts iw_X0_spoilLot_X0 hown hK hP 0 rfl rfl 7 (by decide) (hts (.fieldLink RX0 33 "FavourRings$Bank" "debtors" "[I") (List.mem_of_getElem? (i := 1) rfl)) (fun _ h9 => h9) rfl dX0_spoilLot_1 ?_
  refine lv_iload_n hx hb dX0_spoilLot_4 rfl (lv_at hl 1 rfl) ?_
  obtain ⟨u1, eu1, h⟩ := bd_in h
  refine kI (va_runSN (As := [.ref (adB 8), .int p1]) (rest := []) ⟨hx, hb, hml, hown, hts⟩ (c_X4_at l D cA cQ (adB 8) 40 (vB 8) p1 u1 eu1 _) ⟨va_cnB 2 hts gX0_spoilLot_X4_at_n77 rfl rfl rfl hN.2.2.2.1 (hts (.initialized RX4) (List.mem_of_getElem? (i := 8) rfl)) (by decide +kernel) ⟨Nat.le_of_ble_eq_true rfl, Nat.le_of_ble_eq_true rfl⟩, (hts (.static yX4_at) (List.mem_of_getElem? (i := 7) rfl)), trivial⟩ (pS hK hN hP hD [8] rfl rfl) rfl rfl hl.1 rfl (lv_room (Nat.le_of_ble_eq_true rfl)) dX0_spoilLot_5 ⟨Nat.zero_le _, Nat.zero_le _⟩) hP hD hS hA [8] rfl rfl (ws' := (wB cA adB vB)) rfl (fun H locs hP hD hS => ?_)
  refine lv_istore_n (lv' := [(2, .int u1), (0, .ref (adB 0)), (1, .int p1)]) hx hb dX0_spoilLot_8 rfl hl (by decide) rfl (fun ls hl => ?_)
  refine lv_aload_n hx hb dX0_spoilLot_9 rfl (lv_at hl 1 rfl) ?_
  refine va_get (D := D) (ci := 0) (v := .ref (adB 11)) (C := RX0) (T := TX0) (N := 13) hx hb hts iw_X0_spoilLot_X0 hown hK hP 0 rfl rfl 10 (by decide) (hts (.fieldLink RX0 42 "FavourRings$Bank" "sizes" "[I") (List.mem_of_getElem? (i := 2) rfl)) (fun _ h9 => h9) rfl dX0_spoilLot_10 ?_
  refine lv_iload_n hx hb dX0_spoilLot_13 rfl (lv_at hl 2 rfl) ?_
  obtain ⟨u2, eu2, h⟩ := bd_in h
  refine kI (va_runSN (As := [.ref (adB 11), .int p1]) (rest := []) ⟨hx, hb, hml, hown, hts⟩ (c_X4_at l D cA cQ (adB 11) 40 (vB 11) p1 u2 eu2 _) ⟨va_cnB 2 hts gX0_spoilLot_X4_at_n77 rfl rfl rfl hN.2.2.2.1 (hts (.initialized RX4) (List.mem_of_getElem? (i := 8) rfl)) (by decide +kernel) ⟨Nat.le_of_ble_eq_true rfl, Nat.le_of_ble_eq_true rfl⟩, (hts (.static yX4_at) (List.mem_of_getElem? (i := 7) rfl)), trivial⟩ (pS hK hN hP hD [11] rfl rfl) rfl rfl hl.1 rfl (lv_room (Nat.le_of_ble_eq_true rfl)) dX0_spoilLot_14 ⟨Nat.zero_le _, Nat.zero_le _⟩) hP hD hS hA [11] rfl rfl (ws' := (wB cA adB vB)) rfl (fun H locs hP hD hS => ?_)
  refine lv_istore_n (lv' := [(3, .int u2), (2, .int u1), (0, .ref (adB 0)), (1, .int p1)]) hx hb dX0_spoilLot_17 rfl hl (by decide) rfl (fun ls hl => ?_)
  refine lv_aload_n hx hb dX0_spoilLot_18 rfl (lv_at hl 2 rfl) ?_
  refine va_get (D := D) (ci := 0) (v := .ref (adB 11)) (C := RX0) (T := TX0) (N := 13) hx hb hts iw_X0_spoilLot_X0 hown hK hP 0 rfl rfl 10 (by decide) (hts (.fieldLink RX0 42 "FavourRings$Bank" "sizes" "[I") (List.mem_of_getElem? (i := 2) rfl)) (fun _ h9 => h9) rfl dX0_spoilLot_19 ?_
  refine lv_iload_n hx hb dX0_spoilLot_22 rfl (lv_at hl 3 rfl) ?_
  refine lv_iconst (v := (0 : Int32)) hx hb dX0_spoilLot_23 (by decide) ?_
  obtain ⟨u3, eu3, h⟩ := bd_in h
  refine kV (va_runSN (As := [.ref (adB 11), .int p1, .int (0 : Int32)]) (rest := []) ⟨hx, hb, hml, hown, hts⟩ (c_X4_put l D cA cQ (adB 11) 40 (vB 11) p1 (0 : Int32) u3 eu3 _) ⟨va_cnB 3 hts gX0_spoilLot_X4_put_n55 rfl rfl rfl hN.2.1 (hts (.initialized RX4) (List.mem_of_getElem? (i := 8) rfl)) (by decide +kernel) ⟨Nat.le_of_ble_eq_true rfl, Nat.le_of_ble_eq_true rfl⟩, (hts (.static yX4_put) (List.mem_of_getElem? (i := 10) rfl)), trivial⟩ (pS hK hN hP hD [11] rfl rfl) rfl rfl hl.1 rfl (lv_room (Nat.le_of_ble_eq_true rfl)) dX0_spoilLot_24 ⟨Nat.zero_le _, Nat.zero_le _⟩) hP hD hS hA [11] rfl rfl (ws' := (wB cA adB (setA vB 11 u3))) rfl (fun H locs hP hD hS => ?_)
  refine lv_aload_n hx hb dX0_spoilLot_27 rfl (lv_at hl 2 rfl) ?_
  refine va_get (D := D) (ci := 0) (v := .ref (adB 2)) (C := RX0) (T := TX0) (N := 13) hx hb hts iw_X0_spoilLot_X0 hown hK hP 0 rfl rfl 1 (by decide) (hts (.fieldLink RX0 15 "FavourRings$Bank" "came" "[I") (List.mem_of_getElem? (i := 3) rfl)) (fun _ h9 => h9) rfl dX0_spoilLot_28 ?_
  refine lv_iload_n hx hb dX0_spoilLot_31 rfl (lv_at hl 1 rfl) ?_
  refine lv_iload_n hx hb dX0_spoilLot_32 rfl (lv_at hl 0 rfl) ?_
  obtain ⟨u4, eu4, h⟩ := bd_in h
  refine kV (va_runSN (As := [.ref (adB 2), .int u1, .int u2]) (rest := []) ⟨hx, hb, hml, hown, hts⟩ (c_X4_add l D cA cQ (adB 2) 8 (vB 2) u1 u2 u4 eu4 _) ⟨va_cnB 3 hts gX0_spoilLot_X4_add_n86 rfl rfl rfl hN.2.2.2.2.1 (hts (.initialized RX4) (List.mem_of_getElem? (i := 8) rfl)) (by decide +kernel) ⟨Nat.le_of_ble_eq_true rfl, Nat.le_of_ble_eq_true rfl⟩, (hts (.static yX4_add) (List.mem_of_getElem? (i := 12) rfl)), trivial⟩ (pS hK hN hP hD [2] rfl rfl) rfl rfl hl.1 rfl (lv_room (Nat.le_of_ble_eq_true rfl)) dX0_spoilLot_33 ⟨Nat.zero_le _, Nat.zero_le _⟩) hP hD hS hA [2] rfl rfl (ws' := (wB cA adB (setA (setA vB 11 u3) 2 u4))) rfl (fun H locs hP hD hS => ?_)
  refine lv_aload_n hx hb dX0_spoilLot_36 rfl (lv_at hl 2 rfl) ?_
  refine va_get (D := D) (ci := 0) (v := .ref (adB 2)) (C := RX0) (T := TX0) (N := 13) hx hb hts iw_X0_spoilLot_X0 hown hK hP 0 rfl rfl 1 (by decide) (hts (.fieldLink RX0 15 "FavourRings$Bank" "came" "[I") (List.mem_of_getElem? (i := 3) rfl)) (fun _ h9 => h9) rfl dX0_spoilLot_37 ?_
  refine lv_aload_n hx hb dX0_spoilLot_40 rfl (lv_at hl 2 rfl) ?_
  refine va_get (D := D) (ci := 0) (v := .ref (adB 9)) (C := RX0) (T := TX0) (N := 13) hx hb hts iw_X0_spoilLot_X0 hown hK hP 0 rfl rfl 8 (by decide) (hts (.fieldLink RX0 36 "FavourRings$Bank" "creditors" "[I") (List.mem_of_getElem? (i := 4) rfl)) (fun _ h9 => h9) rfl dX0_spoilLot_41 ?_
  refine lv_iload_n hx hb dX0_spoilLot_44 rfl (lv_at hl 3 rfl) ?_
  obtain ⟨u5, eu5, h⟩ := bd_in h
  refine kI (va_runSN (As := [.ref (adB 9), .int p1]) (rest := [.ref (adB 2)]) ⟨hx, hb, hml, hown, hts⟩ (c_X4_at l D cA cQ (adB 9) 40 (vB 9) p1 u5 eu5 _) ⟨va_cnB 2 hts gX0_spoilLot_X4_at_n77 rfl rfl rfl hN.2.2.2.1 (hts (.initialized RX4) (List.mem_of_getElem? (i := 8) rfl)) (by decide +kernel) ⟨Nat.le_of_ble_eq_true rfl, Nat.le_of_ble_eq_true rfl⟩, (hts (.static yX4_at) (List.mem_of_getElem? (i := 7) rfl)), trivial⟩ (pS hK hN hP hD [9] rfl rfl) rfl rfl hl.1 rfl (lv_room (Nat.le_of_ble_eq_true rfl)) dX0_spoilLot_45 ⟨Nat.zero_le _, Nat.zero_le _⟩) hP hD hS hA [9] rfl rfl (ws' := (wB cA adB (setA (setA vB 11 u3) 2 u4))) rfl (fun H locs hP hD hS => ?_)
  refine lv_iload_n hx hb dX0_spoilLot_48 rfl (lv_at hl 0 rfl) ?_
  refine lv_ineg hx hb dX0_spoilLot_49 ?_
  obtain ⟨u6, eu6, h⟩ := bd_in h
  refine kV (va_runSN (As := [.ref (adB 2), .int u5, .int (-u2)]) (rest := []) ⟨hx, hb, hml, hown, hts⟩ (c_X4_add l D cA cQ (adB 2) 8 u4 u5 (-u2) u6 eu6 _) ⟨va_cnB 3 hts gX0_spoilLot_X4_add_n86 rfl rfl rfl hN.2.2.2.2.1 (hts (.initialized RX4) (List.mem_of_getElem? (i := 8) rfl)) (by decide +kernel) ⟨Nat.le_of_ble_eq_true rfl, Nat.le_of_ble_eq_true rfl⟩, (hts (.static yX4_add) (List.mem_of_getElem? (i := 12) rfl)), trivial⟩ (pS hK hN hP hD [2] rfl rfl) rfl rfl hl.1 rfl (lv_room (Nat.le_of_ble_eq_true rfl)) dX0_spoilLot_50 ⟨Nat.zero_le _, Nat.zero_le _⟩) hP hD hS hA [2] rfl rfl (ws' := (wB cA adB (setA (setA vB 11 u3) 2 u6))) rfl (fun H locs hP hD hS => ?_)
  refine lv_aload_n hx hb dX0_spoilLot_53 rfl (lv_at hl 2 rfl) ?_
  refine va_get (D := D) (ci := 0) (v := .ref (adB 4)) (C := RX0) (T := TX0) (N := 13) hx hb hts iw_X0_spoilLot_X0 hown hK hP 0 rfl rfl 3 (by decide) (hts (.fieldLink RX0 21 "FavourRings$Bank" "spoiled" "[I") (List.mem_of_getElem? (i := 5) rfl)) (fun _ h9 => h9) rfl dX0_spoilLot_54 ?_
  refine lv_iload_n hx hb dX0_spoilLot_57 rfl (lv_at hl 1 rfl) ?_
  refine lv_iload_n hx hb dX0_spoilLot_58 rfl (lv_at hl 0 rfl) ?_
  obtain ⟨u7, eu7, h⟩ := bd_in h
  refine kV (va_runSN (As := [.ref (adB 4), .int u1, .int u2]) (rest := []) ⟨hx, hb, hml, hown, hts⟩ (c_X4_add l D cA cQ (adB 4) 8 (vB 4) u1 u2 u7 eu7 _) ⟨va_cnB 3 hts gX0_spoilLot_X4_add_n86 rfl rfl rfl hN.2.2.2.2.1 (hts (.initialized RX4) (List.mem_of_getElem? (i := 8) rfl)) (by decide +kernel) ⟨Nat.le_of_ble_eq_true rfl, Nat.le_of_ble_eq_true rfl⟩, (hts (.static yX4_add) (List.mem_of_getElem? (i := 12) rfl)), trivial⟩ (pS hK hN hP hD [4] rfl rfl) rfl rfl hl.1 rfl (lv_room (Nat.le_of_ble_eq_true rfl)) dX0_spoilLot_59 ⟨Nat.zero_le _, Nat.zero_le _⟩) hP hD hS hA [4] rfl rfl (ws' := (wB cA adB (setA (setA (setA vB 11 u3) 2 u6) 4 u7))) rfl (fun H locs hP hD hS => ?_)
  refine lv_aload_n hx hb dX0_spoilLot_62 rfl (lv_at hl 2 rfl) ?_
  refine va_get (D := D) (ci := 0) (v := .ref (adB 1)) (C := RX0) (T := TX0) (N := 13) hx hb hts iw_X0_spoilLot_X0 hown hK hP 0 rfl rfl 0 (by decide) (hts (.fieldLink RX0 9 "FavourRings$Bank" "numbers" "[I") (List.mem_of_getElem? (i := 6) rfl)) (fun _ h9 => h9) rfl dX0_spoilLot_63 ?_
  refine lv_bipush (v := (6 : Int32)) hx hb dX0_spoilLot_66 (by decide) ?_
  refine lv_iload_n hx hb dX0_spoilLot_68 rfl (lv_at hl 0 rfl) ?_
  obtain ⟨u8, eu8, h⟩ := bd_in h
  refine kV (va_runSN (As := [.ref (adB 1), .int (6 : Int32), .int u2]) (rest := []) ⟨hx, hb, hml, hown, hts⟩ (c_X4_add l D cA cQ (adB 1) 26 (vB 1) (6 : Int32) u2 u8 eu8 _) ⟨va_cnB 3 hts gX0_spoilLot_X4_add_n86 rfl rfl rfl hN.2.2.2.2.1 (hts (.initialized RX4) (List.mem_of_getElem? (i := 8) rfl)) (by decide +kernel) ⟨Nat.le_of_ble_eq_true rfl, Nat.le_of_ble_eq_true rfl⟩, (hts (.static yX4_add) (List.mem_of_getElem? (i := 12) rfl)), trivial⟩ (pS hK hN hP hD [1] rfl rfl) rfl rfl hl.1 rfl (lv_room (Nat.le_of_ble_eq_true rfl)) dX0_spoilLot_69 ⟨Nat.zero_le _, Nat.zero_le _⟩) hP hD hS hA [1] rfl rfl (ws' := (wB cA adB (setA (setA (setA (setA vB 11 u3) 2 u6) 4 u7) 1 u8))) rfl (fun H locs hP hD hS => ?_)
  cases h
  exact endV hx hb hr hlocks hP hS dX0_spoilLot_72
theorem iw_X0_endWeek_X0 : ∀ w ∈ wsX00, w ∈ wsX0_endWeek := fun _ h => List.mem_cons_of_mem _ (List.mem_append_right _ (h))
set_option maxHeartbeats 4000000 in
set_option maxRecDepth 100000 in
theorem c_X0_endWeek (l : Launch) (D : va_G) (cA cQ : ClassId) (adB : Nat → Nat) (vB : St) (o : St) (hf : X0_endWeek vB = some o) : Ctv l yX0_endWeek wsX0_endWeek ({ frames := 2, cells := 0, slots := 0, locals := 46 }) D (TY cA cQ) [.ref (adB 0)] (wB cA adB vB) (wB cA adB o) := by
  refine Wk.v (cc := cX0_endWeek) (maxL := 2) (ret := none) (by decide) rfl (Nat.le_of_ble_eq_true rfl) ?_
  intro p e s m below meth c A ls hx hb hr hlocks hml hown hts hK hN hP hD hA hl
  have hown : s.vm.findClass RX0 = some m.cls := hown
  have hS : va_S A s.heap s.heap [] := va_S.rf
  have hl : lv_has ls 2 [(0, .ref (adB 0))] := hl
  have B64 : ∀ (vB : St) (H : Heap) (locs : List Loc) (ls : Array Slot), X0_endWeek_b64 vB = some o → va_P D vwCl (wB cA adB vB) H → va_D A (wB cA adB vB) → va_S A s.heap H locs → lv_has ls 2 [(0, .ref (adB 0))] → W p l e (headSpec wsX0_endWeek ({ frames := 2, cells := 0, slots := 0, locals := 46 })).room s m ([.ref (adB 0)] : List Value).toArray below meth c H locs 0 0 (MQ below (QV D (wB cA adB o) A) ([.ref (adB 0)] : List Value).toArray s 0 0 A) (F0 m 64 ls []) := by
    intro vB H locs ls h hP hD hS hl
    unfold X0_endWeek_b64 at h
    refine lv_aload_n hx hb dX0_endWeek_64 rfl (lv_at hl 0 rfl) ?_
    obtain ⟨u1, eu1, h⟩ := bd_in h
    refine kV (va_runV (As := []) (rest := []) ⟨hx, hb, hml, hown, hts⟩ (c_X0_dropEmptyLots l D cA cQ adB vB u1 eu1 _) (cwV 0 hts gX0_endWeek_X0_dropEmptyLots rfl rfl rfl (by decide +kernel) ⟨Nat.le_of_ble_eq_true rfl, Nat.le_of_ble_eq_true rfl⟩) (pV (ci := 0) (q := (RX0, TX0, 13)) hK hN hP hD [0, 1, 2, 3, 4, 5, 6, 7, 8, 9, 10, 11, 12, 13] rfl rfl rfl rfl) rfl rfl hl.1 rfl (lv_room (Nat.le_of_ble_eq_true rfl)) dX0_endWeek_65 ⟨Nat.zero_le _, Nat.zero_le _⟩) hP hD hS hA [0, 1, 2, 3, 4, 5, 6, 7, 8, 9, 10, 11, 12, 13] rfl rfl (ws' := (wB cA adB u1)) rfl (fun H locs hP hD hS => ?_)
    cases h
    exact endV hx hb hr hlocks hP hS dX0_endWeek_68
  have B19 : ∀ (fu19 : Nat) (vB : St) (x1 : Int32) (H : Heap) (locs : List Loc) (ls : Array Slot), X0_endWeek_l19 fu19 vB x1 = some o → va_P D vwCl (wB cA adB vB) H → va_D A (wB cA adB vB) → va_S A s.heap H locs → lv_has ls 2 [(0, .ref (adB 0)), (1, .int x1)] → W p l e (headSpec wsX0_endWeek ({ frames := 2, cells := 0, slots := 0, locals := 46 })).room s m ([.ref (adB 0)] : List Value).toArray below meth c H locs 0 0 (MQ below (QV D (wB cA adB o) A) ([.ref (adB 0)] : List Value).toArray s 0 0 A) (F0 m 19 ls []) := by
    intro fu19
    induction fu19 with
    | zero =>
      intro vB x1 H locs ls h hP hD hS hl
      cases h
    | succ fu19 ih19 =>
      intro vB x1 H locs ls h hP hD hS hl
      rw [X0_endWeek_l19] at h
      refine lv_iload_n hx hb dX0_endWeek_19 rfl (lv_at hl 1 rfl) ?_
      refine lv_aload_n hx hb dX0_endWeek_20 rfl (lv_at hl 0 rfl) ?_
      refine lv_iconst (v := (2 : Int32)) hx hb dX0_endWeek_21 (by decide) ?_
      obtain ⟨u2, eu2, h⟩ := bd_in h
      refine kI (va_runV (As := [.int (2 : Int32)]) (rest := [.int x1]) ⟨hx, hb, hml, hown, hts⟩ (c_X0_number l D cA cQ adB vB (2 : Int32) u2 eu2 _) (cwV 1 hts gX0_endWeek_X0_number rfl rfl rfl (by decide +kernel) ⟨Nat.le_of_ble_eq_true rfl, Nat.le_of_ble_eq_true rfl⟩) (pV (ci := 0) (q := (RX0, TX0, 13)) hK hN hP hD [0, 1, 2, 3, 4, 5, 6, 7, 8, 9, 10, 11, 12, 13] rfl rfl rfl rfl) rfl rfl hl.1 rfl (lv_room (Nat.le_of_ble_eq_true rfl)) dX0_endWeek_22 ⟨Nat.zero_le _, Nat.zero_le _⟩) hP hD hS hA [0, 1, 2, 3, 4, 5, 6, 7, 8, 9, 10, 11, 12, 13] rfl rfl (ws' := (wB cA adB vB)) rfl (fun H locs hP hD hS => ?_)
      refine lv_icmp_ge (tgt := 64) hx hb dX0_endWeek_25 (by decide) (fun c3 => ?_) (fun c3 => ?_)
      · have h := (if_pos c3).symm.trans h
        exact B64 vB _ _ _ h hP hD hS (lv_sub hl [0] rfl)
      · have h := (if_neg c3).symm.trans h
        refine lv_aload_n hx hb dX0_endWeek_28 rfl (lv_at hl 0 rfl) ?_
        refine va_get (D := D) (ci := 0) (v := .ref (adB 12)) (C := RX0) (T := TX0) (N := 13) hx hb hts iw_X0_endWeek_X0 hown hK hP 0 rfl rfl 11 (by decide) (hts (.fieldLink RX0 45 "FavourRings$Bank" "ages" "[I") (List.mem_of_getElem? (i := 2) rfl)) (fun _ h9 => h9) rfl dX0_endWeek_29 ?_
        refine lv_iload_n hx hb dX0_endWeek_32 rfl (lv_at hl 1 rfl) ?_
        refine lv_iconst (v := (1 : Int32)) hx hb dX0_endWeek_33 (by decide) ?_
        obtain ⟨u4, eu4, h⟩ := bd_in h
        refine kV (va_runSN (As := [.ref (adB 12), .int x1, .int (1 : Int32)]) (rest := []) ⟨hx, hb, hml, hown, hts⟩ (c_X4_add l D cA cQ (adB 12) 40 (vB 12) x1 (1 : Int32) u4 eu4 _) ⟨va_cnB 3 hts gX0_endWeek_X4_add_n86 rfl rfl rfl hN.2.2.2.2.1 (hts (.initialized RX4) (List.mem_of_getElem? (i := 4) rfl)) (by decide +kernel) ⟨Nat.le_of_ble_eq_true rfl, Nat.le_of_ble_eq_true rfl⟩, (hts (.static yX4_add) (List.mem_of_getElem? (i := 3) rfl)), trivial⟩ (pS hK hN hP hD [12] rfl rfl) rfl rfl hl.1 rfl (lv_room (Nat.le_of_ble_eq_true rfl)) dX0_endWeek_34 ⟨Nat.zero_le _, Nat.zero_le _⟩) hP hD hS hA [12] rfl rfl (ws' := (wB cA adB (setA vB 12 u4))) rfl (fun H locs hP hD hS => ?_)
        refine lv_aload_n hx hb dX0_endWeek_37 rfl (lv_at hl 0 rfl) ?_
        refine lv_iload_n hx hb dX0_endWeek_38 rfl (lv_at hl 1 rfl) ?_
        obtain ⟨u5, eu5, h⟩ := bd_in h
        refine kI (va_runV (As := [.int x1]) (rest := []) ⟨hx, hb, hml, hown, hts⟩ (c_X0_weeksLeft l D cA cQ adB (setA vB 12 u4) x1 u5 eu5 _) (cwV 1 hts gX0_endWeek_X0_weeksLeft rfl rfl rfl (by decide +kernel) ⟨Nat.le_of_ble_eq_true rfl, Nat.le_of_ble_eq_true rfl⟩) (pV (ci := 0) (q := (RX0, TX0, 13)) hK hN hP hD [0, 1, 2, 3, 4, 5, 6, 7, 8, 9, 10, 11, 12, 13] rfl rfl rfl rfl) rfl rfl hl.1 rfl (lv_room (Nat.le_of_ble_eq_true rfl)) dX0_endWeek_39 ⟨Nat.zero_le _, Nat.zero_le _⟩) hP hD hS hA [0, 1, 2, 3, 4, 5, 6, 7, 8, 9, 10, 11, 12, 13] rfl rfl (ws' := (wB cA adB (setA vB 12 u4))) rfl (fun H locs hP hD hS => ?_)
        refine lv_if_gt (tgt := 58) hx hb dX0_endWeek_42 (by decide) (fun c6 => ?_) (fun c6 => ?_)
        · have h := (if_pos c6).symm.trans h
          refine lv_iinc (v := (x1 + (1 : Int32))) (lv' := [(1, .int (x1 + (1 : Int32))), (0, .ref (adB 0))]) hx hb dX0_endWeek_58 hl (k := 1) rfl rfl (by decide) rfl (fun ls hl => ?_)
          refine lv_goto (tgt := 19) hx hb dX0_endWeek_61 (by decide) ?_
          exact ih19 (setA vB 12 u4) (x1 + (1 : Int32)) _ _ _ h hP hD hS (lv_sub hl [1, 0] rfl)
        · have h := (if_neg c6).symm.trans h
          refine lv_aload_n hx hb dX0_endWeek_45 rfl (lv_at hl 0 rfl) ?_
          refine lv_iload_n hx hb dX0_endWeek_46 rfl (lv_at hl 1 rfl) ?_
          obtain ⟨u7, eu7, h⟩ := bd_in h
          refine kI (va_runV (As := [.int x1]) (rest := []) ⟨hx, hb, hml, hown, hts⟩ (c_X0_passToGuarantor l D cA cQ adB (setA vB 12 u4) x1 u7 eu7 _) (cwV 1 hts gX0_endWeek_X0_passToGuarantor rfl rfl rfl (by decide +kernel) ⟨Nat.le_of_ble_eq_true rfl, Nat.le_of_ble_eq_true rfl⟩) (pV (ci := 0) (q := (RX0, TX0, 13)) hK hN hP hD [0, 1, 2, 3, 4, 5, 6, 7, 8, 9, 10, 11, 12, 13] rfl rfl rfl rfl) rfl rfl hl.1 rfl (lv_room (Nat.le_of_ble_eq_true rfl)) dX0_endWeek_47 ⟨Nat.zero_le _, Nat.zero_le _⟩) hP hD hS hA [0, 1, 2, 3, 4, 5, 6, 7, 8, 9, 10, 11, 12, 13] rfl rfl (ws' := (wB cA adB u7.2)) rfl (fun H locs hP hD hS => ?_)
          refine lv_if_ne (tgt := 58) hx hb dX0_endWeek_50 (by decide) (fun c8 => ?_) (fun c8 => ?_)
          · have h := (if_neg c8).symm.trans h
            refine lv_iinc (v := (x1 + (1 : Int32))) (lv' := [(1, .int (x1 + (1 : Int32))), (0, .ref (adB 0))]) hx hb dX0_endWeek_58 hl (k := 1) rfl rfl (by decide) rfl (fun ls hl => ?_)
            refine lv_goto (tgt := 19) hx hb dX0_endWeek_61 (by decide) ?_
            exact ih19 u7.2 (x1 + (1 : Int32)) _ _ _ h hP hD hS (lv_sub hl [1, 0] rfl)
          · have h := (if_pos c8).symm.trans h
            refine lv_aload_n hx hb dX0_endWeek_53 rfl (lv_at hl 0 rfl) ?_
            refine lv_iload_n hx hb dX0_endWeek_54 rfl (lv_at hl 1 rfl) ?_
            obtain ⟨u9, eu9, h⟩ := bd_in h
            refine kV (va_runV (As := [.int x1]) (rest := []) ⟨hx, hb, hml, hown, hts⟩ (c_X0_spoilLot l D cA cQ adB u7.2 x1 u9 eu9 _) (cwV 1 hts gX0_endWeek_X0_spoilLot rfl rfl rfl (by decide +kernel) ⟨Nat.le_of_ble_eq_true rfl, Nat.le_of_ble_eq_true rfl⟩) (pV (ci := 0) (q := (RX0, TX0, 13)) hK hN hP hD [0, 1, 2, 3, 4, 5, 6, 7, 8, 9, 10, 11, 12, 13] rfl rfl rfl rfl) rfl rfl hl.1 rfl (lv_room (Nat.le_of_ble_eq_true rfl)) dX0_endWeek_55 ⟨Nat.zero_le _, Nat.zero_le _⟩) hP hD hS hA [0, 1, 2, 3, 4, 5, 6, 7, 8, 9, 10, 11, 12, 13] rfl rfl (ws' := (wB cA adB u9)) rfl (fun H locs hP hD hS => ?_)
            refine lv_iinc (v := (x1 + (1 : Int32))) (lv' := [(1, .int (x1 + (1 : Int32))), (0, .ref (adB 0))]) hx hb dX0_endWeek_58 hl (k := 1) rfl rfl (by decide) rfl (fun ls hl => ?_)
            refine lv_goto (tgt := 19) hx hb dX0_endWeek_61 (by decide) ?_
            exact ih19 u9 (x1 + (1 : Int32)) _ _ _ h hP hD hS (lv_sub hl [1, 0] rfl)
  have h := hf
  unfold X0_endWeek at h
  refine lv_aload_n hx hb dX0_endWeek_0 rfl (lv_at hl 0 rfl) ?_
  refine va_get (D := D) (ci := 0) (v := .ref (adB 1)) (C := RX0) (T := TX0) (N := 13) hx hb hts iw_X0_endWeek_X0 hown hK hP 0 rfl rfl 0 (by decide) (hts (.fieldLink RX0 9 "FavourRings$Bank" "numbers" "[I") (List.mem_of_getElem? (i := 1) rfl)) (fun _ h9 => h9) rfl dX0_endWeek_1 ?_
  refine lv_iconst (v := (0 : Int32)) hx hb dX0_endWeek_4 (by decide) ?_
  refine lv_iconst (v := (1 : Int32)) hx hb dX0_endWeek_5 (by decide) ?_
  obtain ⟨u10, eu10, h⟩ := bd_in h
  refine kV (va_runSN (As := [.ref (adB 1), .int (0 : Int32), .int (1 : Int32)]) (rest := []) ⟨hx, hb, hml, hown, hts⟩ (c_X4_add l D cA cQ (adB 1) 26 (vB 1) (0 : Int32) (1 : Int32) u10 eu10 _) ⟨va_cnB 3 hts gX0_endWeek_X4_add_n86 rfl rfl rfl hN.2.2.2.2.1 (hts (.initialized RX4) (List.mem_of_getElem? (i := 4) rfl)) (by decide +kernel) ⟨Nat.le_of_ble_eq_true rfl, Nat.le_of_ble_eq_true rfl⟩, (hts (.static yX4_add) (List.mem_of_getElem? (i := 3) rfl)), trivial⟩ (pS hK hN hP hD [1] rfl rfl) rfl rfl hl.1 rfl (lv_room (Nat.le_of_ble_eq_true rfl)) dX0_endWeek_6 ⟨Nat.zero_le _, Nat.zero_le _⟩) hP hD hS hA [1] rfl rfl (ws' := (wB cA adB (setA vB 1 u10))) rfl (fun H locs hP hD hS => ?_)
  refine lv_aload_n hx hb dX0_endWeek_9 rfl (lv_at hl 0 rfl) ?_
  obtain ⟨u11, eu11, h⟩ := bd_in h
  refine kI (va_runV (As := []) (rest := []) ⟨hx, hb, hml, hown, hts⟩ (c_X0_hasHolidays l D cA cQ adB (setA vB 1 u10) u11 eu11 _) (cwV 0 hts gX0_endWeek_X0_hasHolidays rfl rfl rfl (by decide +kernel) ⟨Nat.le_of_ble_eq_true rfl, Nat.le_of_ble_eq_true rfl⟩) (pV (ci := 0) (q := (RX0, TX0, 13)) hK hN hP hD [0, 1, 2, 3, 4, 5, 6, 7, 8, 9, 10, 11, 12, 13] rfl rfl rfl rfl) rfl rfl hl.1 rfl (lv_room (Nat.le_of_ble_eq_true rfl)) dX0_endWeek_10 ⟨Nat.zero_le _, Nat.zero_le _⟩) hP hD hS hA [0, 1, 2, 3, 4, 5, 6, 7, 8, 9, 10, 11, 12, 13] rfl rfl (ws' := (wB cA adB (setA vB 1 u10))) rfl (fun H locs hP hD hS => ?_)
  refine lv_if_eq (tgt := 17) hx hb dX0_endWeek_13 (by decide) (fun c12 => ?_) (fun c12 => ?_)
  · have h := (if_pos c12).symm.trans h
    refine lv_iconst (v := (0 : Int32)) hx hb dX0_endWeek_17 (by decide) ?_
    refine lv_istore_n (lv' := [(1, .int (0 : Int32)), (0, .ref (adB 0))]) hx hb dX0_endWeek_18 rfl hl (by decide) rfl (fun ls hl => ?_)
    exact B19 FU (setA vB 1 u10) (0 : Int32) _ _ _ h hP hD hS (lv_sub hl [1, 0] rfl)
  · have h := (if_neg c12).symm.trans h
    cases h
    exact endV hx hb hr hlocks hP hS dX0_endWeek_16
set_option maxHeartbeats 4000000 in
set_option maxRecDepth 100000 in
theorem c_X0_endWeeks (l : Launch) (D : va_G) (cA cQ : ClassId) (adB : Nat → Nat) (vB : St) (p1 : Int32) (o : Int32 × St) (hf : X0_endWeeks vB p1 = some o) : Cti l yX0_endWeeks wsX0_endWeeks ({ frames := 3, cells := 0, slots := 0, locals := 67 }) D (TY cA cQ) [.ref (adB 0), .int p1] (wB cA adB vB) (wB cA adB o.2) o.1 := by
  refine Wk.i (cc := cX0_endWeeks) (maxL := 4) (ret := (some .int)) (by decide) rfl (Nat.le_of_ble_eq_true rfl) ?_
  intro p e s m below meth c A ls hx hb hr hlocks hml hown hts hK hN hP hD hA hl
  have hown : s.vm.findClass RX0 = some m.cls := hown
  have hS : va_S A s.heap s.heap [] := va_S.rf
  have hl : lv_has ls 4 [(0, .ref (adB 0)), (1, .int p1)] := hl
  have B54 : ∀ (vB : St) (x2 : Int32) (H : Heap) (locs : List Loc) (ls : Array Slot), X0_endWeeks_b54 p1 vB x2 = some o → va_P D vwCl (wB cA adB vB) H → va_D A (wB cA adB vB) → va_S A s.heap H locs → lv_has ls 4 [(0, .ref (adB 0)), (2, .int x2)] → W p l e (headSpec wsX0_endWeeks ({ frames := 3, cells := 0, slots := 0, locals := 67 })).room s m ([.ref (adB 0), .int p1] : List Value).toArray below meth c H locs 0 0 (MQ below (QI D (wB cA adB o.2) o.1 A) ([.ref (adB 0), .int p1] : List Value).toArray s 0 0 A) (F0 m 54 ls []) := by
    intro vB x2 H locs ls h hP hD hS hl
    unfold X0_endWeeks_b54 at h
    refine lv_aload_n hx hb dX0_endWeeks_54 rfl (lv_at hl 0 rfl) ?_
    refine lv_bipush (v := (6 : Int32)) hx hb dX0_endWeeks_55 (by decide) ?_
    obtain ⟨u1, eu1, h⟩ := bd_in h
    refine kI (va_runV (As := [.int (6 : Int32)]) (rest := []) ⟨hx, hb, hml, hown, hts⟩ (c_X0_number l D cA cQ adB vB (6 : Int32) u1 eu1 _) (cwV 1 hts gX0_endWeeks_X0_number rfl rfl rfl (by decide +kernel) ⟨Nat.le_of_ble_eq_true rfl, Nat.le_of_ble_eq_true rfl⟩) (pV (ci := 0) (q := (RX0, TX0, 13)) hK hN hP hD [0, 1, 2, 3, 4, 5, 6, 7, 8, 9, 10, 11, 12, 13] rfl rfl rfl rfl) rfl rfl hl.1 rfl (lv_room (Nat.le_of_ble_eq_true rfl)) dX0_endWeeks_57 ⟨Nat.zero_le _, Nat.zero_le _⟩) hP hD hS hA [0, 1, 2, 3, 4, 5, 6, 7, 8, 9, 10, 11, 12, 13] rfl rfl (ws' := (wB cA adB vB)) rfl (fun H locs hP hD hS => ?_)
    refine lv_iload_n hx hb dX0_endWeeks_60 rfl (lv_at hl 1 rfl) ?_
    refine lv_isub hx hb dX0_endWeeks_61 ?_
    cases h
    exact endI hx hb hr hlocks hP hS rfl dX0_endWeeks_62
  have B39 : ∀ (fu39 : Nat) (vB : St) (x2 : Int32) (x3 : Int32) (H : Heap) (locs : List Loc) (ls : Array Slot), X0_endWeeks_l39 p1 fu39 vB x2 x3 = some o → va_P D vwCl (wB cA adB vB) H → va_D A (wB cA adB vB) → va_S A s.heap H locs → lv_has ls 4 [(0, .ref (adB 0)), (1, .int p1), (2, .int x2), (3, .int x3)] → W p l e (headSpec wsX0_endWeeks ({ frames := 3, cells := 0, slots := 0, locals := 67 })).room s m ([.ref (adB 0), .int p1] : List Value).toArray below meth c H locs 0 0 (MQ below (QI D (wB cA adB o.2) o.1 A) ([.ref (adB 0), .int p1] : List Value).toArray s 0 0 A) (F0 m 39 ls []) := by
    intro fu39
    induction fu39 with
    | zero =>
      intro vB x2 x3 H locs ls h hP hD hS hl
      cases h
    | succ fu39 ih39 =>
      intro vB x2 x3 H locs ls h hP hD hS hl
      rw [X0_endWeeks_l39] at h
      refine lv_iload_n hx hb dX0_endWeeks_39 rfl (lv_at hl 3 rfl) ?_
      refine lv_iload_n hx hb dX0_endWeeks_40 rfl (lv_at hl 1 rfl) ?_
      refine lv_icmp_ge (tgt := 54) hx hb dX0_endWeeks_41 (by decide) (fun c2 => ?_) (fun c2 => ?_)
      · have h := (if_pos c2).symm.trans h
        exact B54 vB x2 _ _ _ h hP hD hS (lv_sub hl [0, 2] rfl)
      · have h := (if_neg c2).symm.trans h
        refine lv_aload_n hx hb dX0_endWeeks_44 rfl (lv_at hl 0 rfl) ?_
        obtain ⟨u3, eu3, h⟩ := bd_in h
        refine kV (va_runV (As := []) (rest := []) ⟨hx, hb, hml, hown, hts⟩ (c_X0_endWeek l D cA cQ adB vB u3 eu3 _) (cwV 0 hts gX0_endWeeks_X0_endWeek rfl rfl rfl (by decide +kernel) ⟨Nat.le_of_ble_eq_true rfl, Nat.le_of_ble_eq_true rfl⟩) (pV (ci := 0) (q := (RX0, TX0, 13)) hK hN hP hD [0, 1, 2, 3, 4, 5, 6, 7, 8, 9, 10, 11, 12, 13] rfl rfl rfl rfl) rfl rfl hl.1 rfl (lv_room (Nat.le_of_ble_eq_true rfl)) dX0_endWeeks_45 ⟨Nat.zero_le _, Nat.zero_le _⟩) hP hD hS hA [0, 1, 2, 3, 4, 5, 6, 7, 8, 9, 10, 11, 12, 13] rfl rfl (ws' := (wB cA adB u3)) rfl (fun H locs hP hD hS => ?_)
        refine lv_iinc (v := (x3 + (1 : Int32))) (lv' := [(3, .int (x3 + (1 : Int32))), (0, .ref (adB 0)), (1, .int p1), (2, .int x2)]) hx hb dX0_endWeeks_48 hl (k := 3) rfl rfl (by decide) rfl (fun ls hl => ?_)
        refine lv_goto (tgt := 39) hx hb dX0_endWeeks_51 (by decide) ?_
        exact ih39 u3 x2 (x3 + (1 : Int32)) _ _ _ h hP hD hS (lv_sub hl [1, 2, 3, 0] rfl)
  have h := hf
  unfold X0_endWeeks at h
  refine lv_iload_n hx hb dX0_endWeeks_0 rfl (lv_at hl 1 rfl) ?_
  refine lv_iconst (v := (1 : Int32)) hx hb dX0_endWeeks_1 (by decide) ?_
  refine lv_icmp_lt (tgt := 11) hx hb dX0_endWeeks_2 (by decide) (fun c4 => ?_) (fun c4 => ?_)
  · have h := (if_pos c4).symm.trans h
    refine lv_ldc (v := (-1000001 : Int32)) hx hb hown (hts (.constant RX0 93 (-1000001)) (List.mem_of_getElem? (i := 1) rfl)) dX0_endWeeks_11 ?_
    cases h
    exact endI hx hb hr hlocks hP hS rfl dX0_endWeeks_13
  · have h := (if_neg c4).symm.trans h
    refine lv_iload_n hx hb dX0_endWeeks_5 rfl (lv_at hl 1 rfl) ?_
    refine lv_bipush (v := (20 : Int32)) hx hb dX0_endWeeks_6 (by decide) ?_
    refine lv_icmp_le (tgt := 14) hx hb dX0_endWeeks_8 (by decide) (fun c5 => ?_) (fun c5 => ?_)
    · have h := (if_pos c5).symm.trans h
      refine lv_aload_n hx hb dX0_endWeeks_14 rfl (lv_at hl 0 rfl) ?_
      refine lv_iconst (v := (0 : Int32)) hx hb dX0_endWeeks_15 (by decide) ?_
      obtain ⟨u6, eu6, h⟩ := bd_in h
      refine kI (va_runV (As := [.int (0 : Int32)]) (rest := []) ⟨hx, hb, hml, hown, hts⟩ (c_X0_number l D cA cQ adB vB (0 : Int32) u6 eu6 _) (cwV 1 hts gX0_endWeeks_X0_number rfl rfl rfl (by decide +kernel) ⟨Nat.le_of_ble_eq_true rfl, Nat.le_of_ble_eq_true rfl⟩) (pV (ci := 0) (q := (RX0, TX0, 13)) hK hN hP hD [0, 1, 2, 3, 4, 5, 6, 7, 8, 9, 10, 11, 12, 13] rfl rfl rfl rfl) rfl rfl hl.1 rfl (lv_room (Nat.le_of_ble_eq_true rfl)) dX0_endWeeks_16 ⟨Nat.zero_le _, Nat.zero_le _⟩) hP hD hS hA [0, 1, 2, 3, 4, 5, 6, 7, 8, 9, 10, 11, 12, 13] rfl rfl (ws' := (wB cA adB vB)) rfl (fun H locs hP hD hS => ?_)
      refine lv_iload_n hx hb dX0_endWeeks_19 rfl (lv_at hl 1 rfl) ?_
      refine lv_iadd hx hb dX0_endWeeks_20 ?_
      refine lv_sipush (v := (999 : Int32)) hx hb dX0_endWeeks_21 (by decide) ?_
      refine lv_icmp_le (tgt := 30) hx hb dX0_endWeeks_24 (by decide) (fun c7 => ?_) (fun c7 => ?_)
      · have h := (if_pos c7).symm.trans h
        refine lv_aload_n hx hb dX0_endWeeks_30 rfl (lv_at hl 0 rfl) ?_
        refine lv_bipush (v := (6 : Int32)) hx hb dX0_endWeeks_31 (by decide) ?_
        obtain ⟨u8, eu8, h⟩ := bd_in h
        refine kI (va_runV (As := [.int (6 : Int32)]) (rest := []) ⟨hx, hb, hml, hown, hts⟩ (c_X0_number l D cA cQ adB vB (6 : Int32) u8 eu8 _) (cwV 1 hts gX0_endWeeks_X0_number rfl rfl rfl (by decide +kernel) ⟨Nat.le_of_ble_eq_true rfl, Nat.le_of_ble_eq_true rfl⟩) (pV (ci := 0) (q := (RX0, TX0, 13)) hK hN hP hD [0, 1, 2, 3, 4, 5, 6, 7, 8, 9, 10, 11, 12, 13] rfl rfl rfl rfl) rfl rfl hl.1 rfl (lv_room (Nat.le_of_ble_eq_true rfl)) dX0_endWeeks_33 ⟨Nat.zero_le _, Nat.zero_le _⟩) hP hD hS hA [0, 1, 2, 3, 4, 5, 6, 7, 8, 9, 10, 11, 12, 13] rfl rfl (ws' := (wB cA adB vB)) rfl (fun H locs hP hD hS => ?_)
        refine lv_istore_n (lv' := [(2, .int u8), (0, .ref (adB 0)), (1, .int p1)]) hx hb dX0_endWeeks_36 rfl hl (by decide) rfl (fun ls hl => ?_)
        refine lv_iconst (v := (0 : Int32)) hx hb dX0_endWeeks_37 (by decide) ?_
        refine lv_istore_n (lv' := [(3, .int (0 : Int32)), (2, .int u8), (0, .ref (adB 0)), (1, .int p1)]) hx hb dX0_endWeeks_38 rfl hl (by decide) rfl (fun ls hl => ?_)
        exact B39 FU vB u8 (0 : Int32) _ _ _ h hP hD hS (lv_sub hl [2, 3, 1, 0] rfl)
      · have h := (if_neg c7).symm.trans h
        refine lv_ldc (v := (-1000003 : Int32)) hx hb hown (hts (.constant RX0 85 (-1000003)) (List.mem_of_getElem? (i := 2) rfl)) dX0_endWeeks_27 ?_
        cases h
        exact endI hx hb hr hlocks hP hS rfl dX0_endWeeks_29
    · have h := (if_neg c5).symm.trans h
      refine lv_ldc (v := (-1000001 : Int32)) hx hb hown (hts (.constant RX0 93 (-1000001)) (List.mem_of_getElem? (i := 1) rfl)) dX0_endWeeks_11 ?_
      cases h
      exact endI hx hb hr hlocks hP hS rfl dX0_endWeeks_13

set_option maxHeartbeats 4000000 in
set_option maxRecDepth 100000 in
theorem c_X5_owes (l : Launch) (D : va_G) (cA cQ : ClassId) (adM : Nat → Nat) (vM : St) (p1 : Int32) (p2 : Int32) (p3 : Int32) (o : Int32) (hf : X5_owes vM p1 p2 p3 = some o) : Cti l yX5_owes wsX5_owes ({ frames := 2, cells := 0, slots := 0, locals := 47 }) D (TY cA cQ) [.ref (adM 0), .int p1, .int p2, .int p3] (wM cA adM vM) (wM cA adM vM) o := by
  refine Wk.i (cc := cX5_owes) (maxL := 4) (ret := (some .int)) (by decide) rfl (Nat.le_of_ble_eq_true rfl) ?_
  intro p e s m below meth c A ls hx hb hr hlocks hml hown hts hK hN hP hD hA hl
  have hown : s.vm.findClass RX5 = some m.cls := hown
  have hS : va_S A s.heap s.heap [] := va_S.rf
  have hl : lv_has ls 4 [(0, .ref (adM 0)), (1, .int p1), (2, .int p2), (3, .int p3)] := hl
  have h := hf
  unfold X5_owes at h
  refine lv_aload_n hx hb dX5_owes_0 rfl (lv_at hl 0 rfl) ?_
  refine lv_iload_n hx hb dX5_owes_1 rfl (lv_at hl 1 rfl) ?_
  obtain ⟨u1, eu1, h⟩ := bd_in h
  refine kI (va_runV (As := [.int p1]) (rest := []) ⟨hx, hb, hml, hown, hts⟩ (c_X5_isPupil l D cA cQ adM vM p1 u1 eu1 _) (cwV 1 hts gX5_owes_X5_isPupil rfl rfl rfl (by decide +kernel) ⟨Nat.le_of_ble_eq_true rfl, Nat.le_of_ble_eq_true rfl⟩) (pV (ci := 5) (q := (RX5, TX5, 18)) hK hN hP hD [0, 1, 2, 3, 4, 5, 6, 7, 8, 9] rfl rfl rfl rfl) rfl rfl hl.1 rfl (lv_room (Nat.le_of_ble_eq_true rfl)) dX5_owes_2 ⟨Nat.zero_le _, Nat.zero_le _⟩) hP hD hS hA [0, 1, 2, 3, 4, 5, 6, 7, 8, 9] rfl rfl (ws' := (wM cA adM vM)) rfl (fun H locs hP hD hS => ?_)
  refine lv_if_eq (tgt := 33) hx hb dX5_owes_5 (by decide) (fun c2 => ?_) (fun c2 => ?_)
  · have h := (if_pos c2).symm.trans h
    refine lv_ldc (v := (-1000001 : Int32)) hx hb hown (hts (.constant RX5 86 (-1000001)) (List.mem_of_getElem? (i := 1) rfl)) dX5_owes_33 ?_
    cases h
    exact endI hx hb hr hlocks hP hS rfl dX5_owes_35
  · have h := (if_neg c2).symm.trans h
    refine lv_aload_n hx hb dX5_owes_8 rfl (lv_at hl 0 rfl) ?_
    refine lv_iload_n hx hb dX5_owes_9 rfl (lv_at hl 2 rfl) ?_
    obtain ⟨u3, eu3, h⟩ := bd_in h
    refine kI (va_runV (As := [.int p2]) (rest := []) ⟨hx, hb, hml, hown, hts⟩ (c_X5_isPupil l D cA cQ adM vM p2 u3 eu3 _) (cwV 1 hts gX5_owes_X5_isPupil rfl rfl rfl (by decide +kernel) ⟨Nat.le_of_ble_eq_true rfl, Nat.le_of_ble_eq_true rfl⟩) (pV (ci := 5) (q := (RX5, TX5, 18)) hK hN hP hD [0, 1, 2, 3, 4, 5, 6, 7, 8, 9] rfl rfl rfl rfl) rfl rfl hl.1 rfl (lv_room (Nat.le_of_ble_eq_true rfl)) dX5_owes_10 ⟨Nat.zero_le _, Nat.zero_le _⟩) hP hD hS hA [0, 1, 2, 3, 4, 5, 6, 7, 8, 9] rfl rfl (ws' := (wM cA adM vM)) rfl (fun H locs hP hD hS => ?_)
    refine lv_if_eq (tgt := 33) hx hb dX5_owes_13 (by decide) (fun c4 => ?_) (fun c4 => ?_)
    · have h := (if_pos c4).symm.trans h
      refine lv_ldc (v := (-1000001 : Int32)) hx hb hown (hts (.constant RX5 86 (-1000001)) (List.mem_of_getElem? (i := 1) rfl)) dX5_owes_33 ?_
      cases h
      exact endI hx hb hr hlocks hP hS rfl dX5_owes_35
    · have h := (if_neg c4).symm.trans h
      refine lv_iload_n hx hb dX5_owes_16 rfl (lv_at hl 3 rfl) ?_
      obtain ⟨u5, eu5, h⟩ := bd_in h
      refine kI (va_runS (As := [.int p3]) (rest := []) ⟨hx, hb, hml, hown, hts⟩ (c_X5_isKind l D cA cQ  p3 u5 eu5 _) (va_cwS 1 hts gX5_owes_X5_isKind rfl rfl rfl (by decide +kernel) ⟨Nat.le_of_ble_eq_true rfl, Nat.le_of_ble_eq_true rfl⟩) (pS hK hN hP hD [] rfl rfl) rfl rfl hl.1 rfl (lv_room (Nat.le_of_ble_eq_true rfl)) dX5_owes_17 ⟨Nat.zero_le _, Nat.zero_le _⟩) hP hD hS hA [] rfl rfl (ws' := (wM cA adM vM)) rfl (fun H locs hP hD hS => ?_)
      refine lv_if_eq (tgt := 33) hx hb dX5_owes_20 (by decide) (fun c6 => ?_) (fun c6 => ?_)
      · have h := (if_pos c6).symm.trans h
        refine lv_ldc (v := (-1000001 : Int32)) hx hb hown (hts (.constant RX5 86 (-1000001)) (List.mem_of_getElem? (i := 1) rfl)) dX5_owes_33 ?_
        cases h
        exact endI hx hb hr hlocks hP hS rfl dX5_owes_35
      · have h := (if_neg c6).symm.trans h
        refine lv_aload_n hx hb dX5_owes_23 rfl (lv_at hl 0 rfl) ?_
        refine lv_iload_n hx hb dX5_owes_24 rfl (lv_at hl 1 rfl) ?_
        refine lv_iload_n hx hb dX5_owes_25 rfl (lv_at hl 2 rfl) ?_
        refine lv_iload_n hx hb dX5_owes_26 rfl (lv_at hl 3 rfl) ?_
        obtain ⟨u7, eu7, h⟩ := bd_in h
        refine kI (va_runV (As := [.int p1, .int p2, .int p3]) (rest := []) ⟨hx, hb, hml, hown, hts⟩ (c_X5_owed l D cA cQ adM vM p1 p2 p3 u7 eu7 _) (cwV 3 hts gX5_owes_X5_owed rfl rfl rfl (by decide +kernel) ⟨Nat.le_of_ble_eq_true rfl, Nat.le_of_ble_eq_true rfl⟩) (pV (ci := 5) (q := (RX5, TX5, 18)) hK hN hP hD [0, 1, 2, 3, 4, 5, 6, 7, 8, 9] rfl rfl rfl rfl) rfl rfl hl.1 rfl (lv_room (Nat.le_of_ble_eq_true rfl)) dX5_owes_27 ⟨Nat.zero_le _, Nat.zero_le _⟩) hP hD hS hA [0, 1, 2, 3, 4, 5, 6, 7, 8, 9] rfl rfl (ws' := (wM cA adM vM)) rfl (fun H locs hP hD hS => ?_)
        refine lv_goto (tgt := 35) hx hb dX5_owes_30 (by decide) ?_
        cases h
        exact endI hx hb hr hlocks hP hS rfl dX5_owes_35
theorem iw_X5_play_X5 : ∀ w ∈ wsX50, w ∈ wsX5_play := fun _ h => List.mem_cons_of_mem _ (List.mem_append_right _ (h))
set_option maxHeartbeats 4000000 in
set_option maxRecDepth 100000 in
theorem c_X5_play (l : Launch) (D : va_G) (cA cQ : ClassId) (adM : Nat → Nat) (vM : St) (o : Int32 × St) (hf : X5_play vM = some o) : Cti l yX5_play wsX5_play ({ frames := 7, cells := 0, slots := 0, locals := 164 }) D (TY cA cQ) [.ref (adM 0)] (wM cA adM vM) (wM cA adM o.2) o.1 := by
  refine Wk.i (cc := cX5_play) (maxL := 2) (ret := (some .int)) (by decide) rfl (Nat.le_of_ble_eq_true rfl) ?_
  intro p e s m below meth c A ls hx hb hr hlocks hml hown hts hK hN hP hD hA hl
  have hown : s.vm.findClass RX5 = some m.cls := hown
  have hS : va_S A s.heap s.heap [] := va_S.rf
  have hl : lv_has ls 2 [(0, .ref (adM 0))] := hl
  have h := hf
  unfold X5_play at h
  refine lv_aload_n hx hb dX5_play_0 rfl (lv_at hl 0 rfl) ?_
  refine va_get (D := D) (ci := 5) (v := .ref (adM 1)) (C := RX5) (T := TX5) (N := 18) hx hb hts iw_X5_play_X5 hown hK hP 0 rfl rfl 0 (by decide) (hts (.fieldLink RX5 7 "FavourRingsModel" "s" "[I") (List.mem_of_getElem? (i := 1) rfl)) (fun _ h9 => h9) rfl dX5_play_1 ?_
  refine lv_aload_n hx hb dX5_play_4 rfl (lv_at hl 0 rfl) ?_
  refine va_get (D := D) (ci := 5) (v := .ref (adM 3)) (C := RX5) (T := TX5) (N := 18) hx hb hts iw_X5_play_X5 hown hK hP 0 rfl rfl 2 (by decide) (hts (.fieldLink RX5 16 "FavourRingsModel" "held" "[I") (List.mem_of_getElem? (i := 2) rfl)) (fun _ h9 => h9) rfl dX5_play_5 ?_
  obtain ⟨u1, eu1, h⟩ := bd_in h
  refine kV (va_runS (As := [.ref (adM 1), .ref (adM 3)]) (rest := []) ⟨hx, hb, hml, hown, hts⟩ (c_X5_copies l D cA cQ (adM 1) 304 (adM 3) 304 (vM 1) (vM 3) u1 eu1 _) (va_cwS 2 hts gX5_play_X5_copies rfl rfl rfl (by decide +kernel) ⟨Nat.le_of_ble_eq_true rfl, Nat.le_of_ble_eq_true rfl⟩) (pS hK hN hP hD [1, 3] rfl rfl) rfl rfl hl.1 rfl (lv_room (Nat.le_of_ble_eq_true rfl)) dX5_play_8 ⟨Nat.zero_le _, Nat.zero_le _⟩) hP hD hS hA [1, 3] rfl rfl (ws' := (wM cA adM (setA vM 3 u1))) rfl (fun H locs hP hD hS => ?_)
  refine lv_aload_n hx hb dX5_play_11 rfl (lv_at hl 0 rfl) ?_
  obtain ⟨u2, eu2, h⟩ := bd_in h
  refine kI (va_runV (As := []) (rest := []) ⟨hx, hb, hml, hown, hts⟩ (c_X5_plays l D cA cQ adM (setA vM 3 u1) u2 eu2 _) (cwV 0 hts gX5_play_X5_plays rfl rfl rfl (by decide +kernel) ⟨Nat.le_of_ble_eq_true rfl, Nat.le_of_ble_eq_true rfl⟩) (pV (ci := 5) (q := (RX5, TX5, 18)) hK hN hP hD [0, 1, 2, 3, 4, 5, 6, 7, 8, 9] rfl rfl rfl rfl) rfl rfl hl.1 rfl (lv_room (Nat.le_of_ble_eq_true rfl)) dX5_play_12 ⟨Nat.zero_le _, Nat.zero_le _⟩) hP hD hS hA [0, 1, 2, 3, 4, 5, 6, 7, 8, 9] rfl rfl (ws' := (wM cA adM u2.2)) rfl (fun H locs hP hD hS => ?_)
  refine lv_istore_n (lv' := [(1, .int u2.1), (0, .ref (adM 0))]) hx hb dX5_play_15 rfl hl (by decide) rfl (fun ls hl => ?_)
  refine lv_aload_n hx hb dX5_play_16 rfl (lv_at hl 1 rfl) ?_
  refine va_get (D := D) (ci := 5) (v := .ref (adM 3)) (C := RX5) (T := TX5) (N := 18) hx hb hts iw_X5_play_X5 hown hK hP 0 rfl rfl 2 (by decide) (hts (.fieldLink RX5 16 "FavourRingsModel" "held" "[I") (List.mem_of_getElem? (i := 2) rfl)) (fun _ h9 => h9) rfl dX5_play_17 ?_
  refine lv_aload_n hx hb dX5_play_20 rfl (lv_at hl 1 rfl) ?_
  refine va_get (D := D) (ci := 5) (v := .ref (adM 1)) (C := RX5) (T := TX5) (N := 18) hx hb hts iw_X5_play_X5 hown hK hP 0 rfl rfl 0 (by decide) (hts (.fieldLink RX5 7 "FavourRingsModel" "s" "[I") (List.mem_of_getElem? (i := 1) rfl)) (fun _ h9 => h9) rfl dX5_play_21 ?_
  obtain ⟨u3, eu3, h⟩ := bd_in h
  refine kV (va_runS (As := [.ref (adM 3), .ref (adM 1)]) (rest := []) ⟨hx, hb, hml, hown, hts⟩ (c_X5_copies l D cA cQ (adM 3) 304 (adM 1) 304 (u2.2 3) (u2.2 1) u3 eu3 _) (va_cwS 2 hts gX5_play_X5_copies rfl rfl rfl (by decide +kernel) ⟨Nat.le_of_ble_eq_true rfl, Nat.le_of_ble_eq_true rfl⟩) (pS hK hN hP hD [3, 1] rfl rfl) rfl rfl hl.1 rfl (lv_room (Nat.le_of_ble_eq_true rfl)) dX5_play_24 ⟨Nat.zero_le _, Nat.zero_le _⟩) hP hD hS hA [3, 1] rfl rfl (ws' := (wM cA adM (setA u2.2 1 u3))) rfl (fun H locs hP hD hS => ?_)
  refine lv_iload_n hx hb dX5_play_27 rfl (lv_at hl 0 rfl) ?_
  refine lv_if_ne (tgt := 34) hx hb dX5_play_28 (by decide) (fun c4 => ?_) (fun c4 => ?_)
  · have h := (if_neg c4).symm.trans h
    refine lv_aload_n hx hb dX5_play_34 rfl (lv_at hl 1 rfl) ?_
    obtain ⟨u5, eu5, h⟩ := bd_in h
    refine kV (va_runV (As := []) (rest := []) ⟨hx, hb, hml, hown, hts⟩ (c_X5_changes l D cA cQ adM (setA u2.2 1 u3) u5 eu5 _) (cwV 0 hts gX5_play_X5_changes rfl rfl rfl (by decide +kernel) ⟨Nat.le_of_ble_eq_true rfl, Nat.le_of_ble_eq_true rfl⟩) (pV (ci := 5) (q := (RX5, TX5, 18)) hK hN hP hD [0, 1, 2, 3, 4, 5, 6, 7, 8, 9] rfl rfl rfl rfl) rfl rfl hl.1 rfl (lv_room (Nat.le_of_ble_eq_true rfl)) dX5_play_35 ⟨Nat.zero_le _, Nat.zero_le _⟩) hP hD hS hA [0, 1, 2, 3, 4, 5, 6, 7, 8, 9] rfl rfl (ws' := (wM cA adM u5)) rfl (fun H locs hP hD hS => ?_)
    refine lv_aload_n hx hb dX5_play_38 rfl (lv_at hl 1 rfl) ?_
    obtain ⟨u6, eu6, h⟩ := bd_in h
    refine kI (va_runV (As := []) (rest := []) ⟨hx, hb, hml, hown, hts⟩ (c_X5_plays l D cA cQ adM u5 u6 eu6 _) (cwV 0 hts gX5_play_X5_plays rfl rfl rfl (by decide +kernel) ⟨Nat.le_of_ble_eq_true rfl, Nat.le_of_ble_eq_true rfl⟩) (pV (ci := 5) (q := (RX5, TX5, 18)) hK hN hP hD [0, 1, 2, 3, 4, 5, 6, 7, 8, 9] rfl rfl rfl rfl) rfl rfl hl.1 rfl (lv_room (Nat.le_of_ble_eq_true rfl)) dX5_play_39 ⟨Nat.zero_le _, Nat.zero_le _⟩) hP hD hS hA [0, 1, 2, 3, 4, 5, 6, 7, 8, 9] rfl rfl (ws' := (wM cA adM u6.2)) rfl (fun H locs hP hD hS => ?_)
    refine lv_if_eq (tgt := 52) hx hb dX5_play_42 (by decide) (fun c7 => ?_) (fun c7 => ?_)
    · have h := (if_pos c7).symm.trans h
      refine lv_ldc (v := (-1000004 : Int32)) hx hb hown (hts (.constant RX5 57 (-1000004)) (List.mem_of_getElem? (i := 5) rfl)) dX5_play_52 ?_
      cases h
      exact endI hx hb hr hlocks hP hS rfl dX5_play_54
    · have h := (if_neg c7).symm.trans h
      refine lv_aload_n hx hb dX5_play_45 rfl (lv_at hl 1 rfl) ?_
      refine va_get (D := D) (ci := 5) (v := .int (u6.2 99 15)) (C := RX5) (T := TX5) (N := 18) hx hb hts iw_X5_play_X5 hown hK hP 0 rfl rfl 15 (by decide) (hts (.fieldLink RX5 191 "FavourRingsModel" "orders" "I") (List.mem_of_getElem? (i := 4) rfl)) (fun _ h9 => h9) rfl dX5_play_46 ?_
      refine lv_goto (tgt := 54) hx hb dX5_play_49 (by decide) ?_
      cases h
      exact endI hx hb hr hlocks hP hS rfl dX5_play_54
  · have h := (if_pos c4).symm.trans h
    refine lv_ldc (v := (-1000002 : Int32)) hx hb hown (hts (.constant RX5 90 (-1000002)) (List.mem_of_getElem? (i := 3) rfl)) dX5_play_31 ?_
    cases h
    exact endI hx hb hr hlocks hP hS rfl dX5_play_33
theorem iw_X5_pupil_X5 : ∀ w ∈ wsX50, w ∈ wsX5_pupil := fun _ h => List.mem_cons_of_mem _ (List.mem_append_right _ (h))
set_option maxHeartbeats 4000000 in
set_option maxRecDepth 100000 in
theorem c_X5_pupil (l : Launch) (D : va_G) (cA cQ : ClassId) (adM : Nat → Nat) (vM : St) (o : Int32 × St) (hf : X5_pupil vM = some o) : Cti l yX5_pupil wsX5_pupil ({ frames := 1, cells := 0, slots := 0, locals := 21 }) D (TY cA cQ) [.ref (adM 0)] (wM cA adM vM) (wM cA adM o.2) o.1 := by
  refine Wk.i (cc := cX5_pupil) (maxL := 1) (ret := (some .int)) (by decide) rfl (Nat.le_of_ble_eq_true rfl) ?_
  intro p e s m below meth c A ls hx hb hr hlocks hml hown hts hK hN hP hD hA hl
  have hown : s.vm.findClass RX5 = some m.cls := hown
  have hS : va_S A s.heap s.heap [] := va_S.rf
  have hl : lv_has ls 1 [(0, .ref (adM 0))] := hl
  have h := hf
  unfold X5_pupil at h
  refine lv_aload_n hx hb dX5_pupil_0 rfl (lv_at hl 0 rfl) ?_
  refine va_get (D := D) (ci := 5) (v := .ref (adM 1)) (C := RX5) (T := TX5) (N := 18) hx hb hts iw_X5_pupil_X5 hown hK hP 0 rfl rfl 0 (by decide) (hts (.fieldLink RX5 7 "FavourRingsModel" "s" "[I") (List.mem_of_getElem? (i := 1) rfl)) (fun _ h9 => h9) rfl dX5_pupil_1 ?_
  refine lv_sipush (v := (289 : Int32)) hx hb dX5_pupil_4 (by decide) ?_
  obtain ⟨y1, ey1, h⟩ := bd_in h
  refine ldR hx hb hK hP 1 0 rfl rfl ey1 dX5_pupil_7 ?_
  refine lv_bipush (v := (8 : Int32)) hx hb dX5_pupil_8 (by decide) ?_
  refine lv_icmp_ne (tgt := 16) hx hb dX5_pupil_10 (by decide) (fun c2 => ?_) (fun c2 => ?_)
  · have h := (if_neg c2).symm.trans h
    refine lv_aload_n hx hb dX5_pupil_16 rfl (lv_at hl 0 rfl) ?_
    obtain ⟨u3, eu3, h⟩ := bd_in h
    refine kV (va_runV (As := []) (rest := []) ⟨hx, hb, hml, hown, hts⟩ (c_X5_changes l D cA cQ adM vM u3 eu3 _) (cwV 0 hts gX5_pupil_X5_changes rfl rfl rfl (by decide +kernel) ⟨Nat.le_of_ble_eq_true rfl, Nat.le_of_ble_eq_true rfl⟩) (pV (ci := 5) (q := (RX5, TX5, 18)) hK hN hP hD [0, 1, 2, 3, 4, 5, 6, 7, 8, 9] rfl rfl rfl rfl) rfl rfl hl.1 rfl (lv_room (Nat.le_of_ble_eq_true rfl)) dX5_pupil_17 ⟨Nat.zero_le _, Nat.zero_le _⟩) hP hD hS hA [0, 1, 2, 3, 4, 5, 6, 7, 8, 9] rfl rfl (ws' := (wM cA adM u3)) rfl (fun H locs hP hD hS => ?_)
    refine lv_aload_n hx hb dX5_pupil_20 rfl (lv_at hl 0 rfl) ?_
    refine va_get (D := D) (ci := 5) (v := .ref (adM 1)) (C := RX5) (T := TX5) (N := 18) hx hb hts iw_X5_pupil_X5 hown hK hP 0 rfl rfl 0 (by decide) (hts (.fieldLink RX5 7 "FavourRingsModel" "s" "[I") (List.mem_of_getElem? (i := 1) rfl)) (fun _ h9 => h9) rfl dX5_pupil_21 ?_
    refine lv_sipush (v := (289 : Int32)) hx hb dX5_pupil_24 (by decide) ?_
    refine lv_dup2_11 hx hb dX5_pupil_27 rfl rfl ?_
    obtain ⟨y4, ey4, h⟩ := bd_in h
    refine ldR hx hb hK hP 1 0 rfl rfl ey4 dX5_pupil_28 ?_
    refine lv_iconst (v := (1 : Int32)) hx hb dX5_pupil_29 (by decide) ?_
    refine lv_iadd hx hb dX5_pupil_30 ?_
    obtain ⟨g5, eg5, h⟩ := bd_in h
    refine stR hx hb hK hP hD hS 1 0 rfl rfl eg5 (ws' := (wM cA adM (setA u3 1 g5))) rfl dX5_pupil_31 (fun H locs hP hD hS => ?_)
    refine lv_aload_n hx hb dX5_pupil_32 rfl (lv_at hl 0 rfl) ?_
    refine va_get (D := D) (ci := 5) (v := .ref (adM 1)) (C := RX5) (T := TX5) (N := 18) hx hb hts iw_X5_pupil_X5 hown hK hP 0 rfl rfl 0 (by decide) (hts (.fieldLink RX5 7 "FavourRingsModel" "s" "[I") (List.mem_of_getElem? (i := 1) rfl)) (fun _ h9 => h9) rfl dX5_pupil_33 ?_
    refine lv_sipush (v := (289 : Int32)) hx hb dX5_pupil_36 (by decide) ?_
    obtain ⟨y6, ey6, h⟩ := bd_in h
    refine ldR hx hb hK hP 1 0 rfl rfl ey6 dX5_pupil_39 ?_
    refine lv_iconst (v := (1 : Int32)) hx hb dX5_pupil_40 (by decide) ?_
    refine lv_isub hx hb dX5_pupil_41 ?_
    cases h
    exact endI hx hb hr hlocks hP hS rfl dX5_pupil_42
  · have h := (if_pos c2).symm.trans h
    refine lv_ldc (v := (-1000003 : Int32)) hx hb hown (hts (.constant RX5 72 (-1000003)) (List.mem_of_getElem? (i := 2) rfl)) dX5_pupil_13 ?_
    cases h
    exact endI hx hb hr hlocks hP hS rfl dX5_pupil_15
theorem iw_X5_pupilOf_X5 : ∀ w ∈ wsX50, w ∈ wsX5_pupilOf := fun _ h => List.mem_cons_of_mem _ (List.mem_append_right _ (h))
set_option maxHeartbeats 4000000 in
set_option maxRecDepth 100000 in
theorem c_X5_pupilOf (l : Launch) (D : va_G) (cA cQ : ClassId) (adM : Nat → Nat) (vM : St) (p1 : Int32) (p2 : Int32) (o : Int32) (hf : X5_pupilOf vM p1 p2 = some o) : Cti l yX5_pupilOf wsX5_pupilOf ({ frames := 3, cells := 0, slots := 0, locals := 67 }) D (TY cA cQ) [.ref (adM 0), .int p1, .int p2] (wM cA adM vM) (wM cA adM vM) o := by
  refine Wk.i (cc := cX5_pupilOf) (maxL := 3) (ret := (some .int)) (by decide) rfl (Nat.le_of_ble_eq_true rfl) ?_
  intro p e s m below meth c A ls hx hb hr hlocks hml hown hts hK hN hP hD hA hl
  have hown : s.vm.findClass RX5 = some m.cls := hown
  have hS : va_S A s.heap s.heap [] := va_S.rf
  have hl : lv_has ls 3 [(0, .ref (adM 0)), (1, .int p1), (2, .int p2)] := hl
  have h := hf
  unfold X5_pupilOf at h
  refine lv_aload_n hx hb dX5_pupilOf_0 rfl (lv_at hl 0 rfl) ?_
  refine lv_iload_n hx hb dX5_pupilOf_1 rfl (lv_at hl 1 rfl) ?_
  obtain ⟨u1, eu1, h⟩ := bd_in h
  refine kI (va_runV (As := [.int p1]) (rest := []) ⟨hx, hb, hml, hown, hts⟩ (c_X5_isPupil l D cA cQ adM vM p1 u1 eu1 _) (cwV 1 hts gX5_pupilOf_X5_isPupil rfl rfl rfl (by decide +kernel) ⟨Nat.le_of_ble_eq_true rfl, Nat.le_of_ble_eq_true rfl⟩) (pV (ci := 5) (q := (RX5, TX5, 18)) hK hN hP hD [0, 1, 2, 3, 4, 5, 6, 7, 8, 9] rfl rfl rfl rfl) rfl rfl hl.1 rfl (lv_room (Nat.le_of_ble_eq_true rfl)) dX5_pupilOf_2 ⟨Nat.zero_le _, Nat.zero_le _⟩) hP hD hS hA [0, 1, 2, 3, 4, 5, 6, 7, 8, 9] rfl rfl (ws' := (wM cA adM vM)) rfl (fun H locs hP hD hS => ?_)
  refine lv_if_eq (tgt := 18) hx hb dX5_pupilOf_5 (by decide) (fun c2 => ?_) (fun c2 => ?_)
  · have h := (if_pos c2).symm.trans h
    refine lv_ldc (v := (-1000001 : Int32)) hx hb hown (hts (.constant RX5 86 (-1000001)) (List.mem_of_getElem? (i := 1) rfl)) dX5_pupilOf_18 ?_
    cases h
    exact endI hx hb hr hlocks hP hS rfl dX5_pupilOf_20
  · have h := (if_neg c2).symm.trans h
    refine lv_iload_n hx hb dX5_pupilOf_8 rfl (lv_at hl 2 rfl) ?_
    refine lv_iconst (v := (0 : Int32)) hx hb dX5_pupilOf_9 (by decide) ?_
    refine lv_bipush (v := (8 : Int32)) hx hb dX5_pupilOf_10 (by decide) ?_
    obtain ⟨u3, eu3, h⟩ := bd_in h
    refine kI (va_runS (As := [.int p2, .int (0 : Int32), .int (8 : Int32)]) (rest := []) ⟨hx, hb, hml, hown, hts⟩ (c_X5_in l D cA cQ  p2 (0 : Int32) (8 : Int32) u3 eu3 _) (va_cwS 3 hts gX5_pupilOf_X5_in rfl rfl rfl (by decide +kernel) ⟨Nat.le_of_ble_eq_true rfl, Nat.le_of_ble_eq_true rfl⟩) (pS hK hN hP hD [] rfl rfl) rfl rfl hl.1 rfl (lv_room (Nat.le_of_ble_eq_true rfl)) dX5_pupilOf_12 ⟨Nat.zero_le _, Nat.zero_le _⟩) hP hD hS hA [] rfl rfl (ws' := (wM cA adM vM)) rfl (fun H locs hP hD hS => ?_)
    refine lv_if_ne (tgt := 21) hx hb dX5_pupilOf_15 (by decide) (fun c4 => ?_) (fun c4 => ?_)
    · have h := (if_neg c4).symm.trans h
      refine lv_iload_n hx hb dX5_pupilOf_21 rfl (lv_at hl 2 rfl) ?_
      by_cases c5 : p2 = (0 : Int32)
      · have h := (if_pos c5).symm.trans h
        refine lv_tableIn (off := 42) (tgt := 64) hx hb dX5_pupilOf_22 (by rw [c5]; decide +kernel) (by rw [c5]; decide +kernel) (by rw [c5]; decide +kernel) (by decide) ?_
        refine lv_aload_n hx hb dX5_pupilOf_64 rfl (lv_at hl 0 rfl) ?_
        refine lv_iload_n hx hb dX5_pupilOf_65 rfl (lv_at hl 1 rfl) ?_
        refine lv_iconst (v := (0 : Int32)) hx hb dX5_pupilOf_66 (by decide) ?_
        obtain ⟨u6, eu6, h⟩ := bd_in h
        refine kI (va_runV (As := [.int p1, .int (0 : Int32)]) (rest := []) ⟨hx, hb, hml, hown, hts⟩ (c_X5_sumOf l D cA cQ adM vM p1 (0 : Int32) u6 eu6 _) (cwV 2 hts gX5_pupilOf_X5_sumOf rfl rfl rfl (by decide +kernel) ⟨Nat.le_of_ble_eq_true rfl, Nat.le_of_ble_eq_true rfl⟩) (pV (ci := 5) (q := (RX5, TX5, 18)) hK hN hP hD [0, 1, 2, 3, 4, 5, 6, 7, 8, 9] rfl rfl rfl rfl) rfl rfl hl.1 rfl (lv_room (Nat.le_of_ble_eq_true rfl)) dX5_pupilOf_67 ⟨Nat.zero_le _, Nat.zero_le _⟩) hP hD hS hA [0, 1, 2, 3, 4, 5, 6, 7, 8, 9] rfl rfl (ws' := (wM cA adM vM)) rfl (fun H locs hP hD hS => ?_)
        cases h
        exact endI hx hb hr hlocks hP hS rfl dX5_pupilOf_70
      have h := (if_neg c5).symm.trans h
      by_cases c7 : p2 = (1 : Int32)
      · have h := (if_pos c7).symm.trans h
        refine lv_tableIn (off := 49) (tgt := 71) hx hb dX5_pupilOf_22 (by rw [c7]; decide +kernel) (by rw [c7]; decide +kernel) (by rw [c7]; decide +kernel) (by decide) ?_
        refine lv_aload_n hx hb dX5_pupilOf_71 rfl (lv_at hl 0 rfl) ?_
        refine lv_iload_n hx hb dX5_pupilOf_72 rfl (lv_at hl 1 rfl) ?_
        refine lv_iconst (v := (1 : Int32)) hx hb dX5_pupilOf_73 (by decide) ?_
        obtain ⟨u8, eu8, h⟩ := bd_in h
        refine kI (va_runV (As := [.int p1, .int (1 : Int32)]) (rest := []) ⟨hx, hb, hml, hown, hts⟩ (c_X5_sumOf l D cA cQ adM vM p1 (1 : Int32) u8 eu8 _) (cwV 2 hts gX5_pupilOf_X5_sumOf rfl rfl rfl (by decide +kernel) ⟨Nat.le_of_ble_eq_true rfl, Nat.le_of_ble_eq_true rfl⟩) (pV (ci := 5) (q := (RX5, TX5, 18)) hK hN hP hD [0, 1, 2, 3, 4, 5, 6, 7, 8, 9] rfl rfl rfl rfl) rfl rfl hl.1 rfl (lv_room (Nat.le_of_ble_eq_true rfl)) dX5_pupilOf_74 ⟨Nat.zero_le _, Nat.zero_le _⟩) hP hD hS hA [0, 1, 2, 3, 4, 5, 6, 7, 8, 9] rfl rfl (ws' := (wM cA adM vM)) rfl (fun H locs hP hD hS => ?_)
        cases h
        exact endI hx hb hr hlocks hP hS rfl dX5_pupilOf_77
      have h := (if_neg c7).symm.trans h
      by_cases c9 : p2 = (2 : Int32)
      · have h := (if_pos c9).symm.trans h
        refine lv_tableIn (off := 56) (tgt := 78) hx hb dX5_pupilOf_22 (by rw [c9]; decide +kernel) (by rw [c9]; decide +kernel) (by rw [c9]; decide +kernel) (by decide) ?_
        refine lv_sipush (v := (1000 : Int32)) hx hb dX5_pupilOf_78 (by decide) ?_
        refine lv_aload_n hx hb dX5_pupilOf_81 rfl (lv_at hl 0 rfl) ?_
        refine lv_iload_n hx hb dX5_pupilOf_82 rfl (lv_at hl 1 rfl) ?_
        obtain ⟨u10, eu10, h⟩ := bd_in h
        refine kI (va_runV (As := [.int p1]) (rest := [.int (1000 : Int32)]) ⟨hx, hb, hml, hown, hts⟩ (c_X5_balance l D cA cQ adM vM p1 u10 eu10 _) (cwV 1 hts gX5_pupilOf_X5_balance rfl rfl rfl (by decide +kernel) ⟨Nat.le_of_ble_eq_true rfl, Nat.le_of_ble_eq_true rfl⟩) (pV (ci := 5) (q := (RX5, TX5, 18)) hK hN hP hD [0, 1, 2, 3, 4, 5, 6, 7, 8, 9] rfl rfl rfl rfl) rfl rfl hl.1 rfl (lv_room (Nat.le_of_ble_eq_true rfl)) dX5_pupilOf_83 ⟨Nat.zero_le _, Nat.zero_le _⟩) hP hD hS hA [0, 1, 2, 3, 4, 5, 6, 7, 8, 9] rfl rfl (ws' := (wM cA adM vM)) rfl (fun H locs hP hD hS => ?_)
        refine lv_iadd hx hb dX5_pupilOf_86 ?_
        cases h
        exact endI hx hb hr hlocks hP hS rfl dX5_pupilOf_87
      have h := (if_neg c9).symm.trans h
      by_cases c11 : p2 = (3 : Int32)
      · have h := (if_pos c11).symm.trans h
        refine lv_tableIn (off := 66) (tgt := 88) hx hb dX5_pupilOf_22 (by rw [c11]; decide +kernel) (by rw [c11]; decide +kernel) (by rw [c11]; decide +kernel) (by decide) ?_
        refine lv_sipush (v := (1000 : Int32)) hx hb dX5_pupilOf_88 (by decide) ?_
        refine lv_aload_n hx hb dX5_pupilOf_91 rfl (lv_at hl 0 rfl) ?_
        refine va_get (D := D) (ci := 5) (v := .ref (adM 1)) (C := RX5) (T := TX5) (N := 18) hx hb hts iw_X5_pupilOf_X5 hown hK hP 0 rfl rfl 0 (by decide) (hts (.fieldLink RX5 7 "FavourRingsModel" "s" "[I") (List.mem_of_getElem? (i := 2) rfl)) (fun _ h9 => h9) rfl dX5_pupilOf_92 ?_
        refine lv_iload_n hx hb dX5_pupilOf_95 rfl (lv_at hl 1 rfl) ?_
        refine lv_iconst (v := (5 : Int32)) hx hb dX5_pupilOf_96 (by decide) ?_
        obtain ⟨u12, eu12, h⟩ := bd_in h
        refine kI (va_runS (As := [.int p1, .int (5 : Int32)]) (rest := [.ref (adM 1), .int (1000 : Int32)]) ⟨hx, hb, hml, hown, hts⟩ (c_X5_at l D cA cQ  p1 (5 : Int32) u12 eu12 _) (va_cwS 2 hts gX5_pupilOf_X5_at rfl rfl rfl (by decide +kernel) ⟨Nat.le_of_ble_eq_true rfl, Nat.le_of_ble_eq_true rfl⟩) (pS hK hN hP hD [] rfl rfl) rfl rfl hl.1 rfl (lv_room (Nat.le_of_ble_eq_true rfl)) dX5_pupilOf_97 ⟨Nat.zero_le _, Nat.zero_le _⟩) hP hD hS hA [] rfl rfl (ws' := (wM cA adM vM)) rfl (fun H locs hP hD hS => ?_)
        obtain ⟨y13, ey13, h⟩ := bd_in h
        refine ldR hx hb hK hP 1 0 rfl rfl ey13 dX5_pupilOf_100 ?_
        refine lv_iadd hx hb dX5_pupilOf_101 ?_
        cases h
        exact endI hx hb hr hlocks hP hS rfl dX5_pupilOf_102
      have h := (if_neg c11).symm.trans h
      by_cases c14 : p2 = (4 : Int32)
      · have h := (if_pos c14).symm.trans h
        refine lv_tableIn (off := 112) (tgt := 134) hx hb dX5_pupilOf_22 (by rw [c14]; decide +kernel) (by rw [c14]; decide +kernel) (by rw [c14]; decide +kernel) (by decide) ?_
        refine lv_aload_n hx hb dX5_pupilOf_134 rfl (lv_at hl 0 rfl) ?_
        refine va_get (D := D) (ci := 5) (v := .ref (adM 1)) (C := RX5) (T := TX5) (N := 18) hx hb hts iw_X5_pupilOf_X5 hown hK hP 0 rfl rfl 0 (by decide) (hts (.fieldLink RX5 7 "FavourRingsModel" "s" "[I") (List.mem_of_getElem? (i := 2) rfl)) (fun _ h9 => h9) rfl dX5_pupilOf_135 ?_
        refine lv_iload_n hx hb dX5_pupilOf_138 rfl (lv_at hl 1 rfl) ?_
        refine lv_iload_n hx hb dX5_pupilOf_139 rfl (lv_at hl 2 rfl) ?_
        refine lv_iconst (v := (4 : Int32)) hx hb dX5_pupilOf_140 (by decide) ?_
        refine lv_isub hx hb dX5_pupilOf_141 ?_
        obtain ⟨u15, eu15, h⟩ := bd_in h
        refine kI (va_runS (As := [.int p1, .int (p2 - (4 : Int32))]) (rest := [.ref (adM 1)]) ⟨hx, hb, hml, hown, hts⟩ (c_X5_at l D cA cQ  p1 (p2 - (4 : Int32)) u15 eu15 _) (va_cwS 2 hts gX5_pupilOf_X5_at rfl rfl rfl (by decide +kernel) ⟨Nat.le_of_ble_eq_true rfl, Nat.le_of_ble_eq_true rfl⟩) (pS hK hN hP hD [] rfl rfl) rfl rfl hl.1 rfl (lv_room (Nat.le_of_ble_eq_true rfl)) dX5_pupilOf_142 ⟨Nat.zero_le _, Nat.zero_le _⟩) hP hD hS hA [] rfl rfl (ws' := (wM cA adM vM)) rfl (fun H locs hP hD hS => ?_)
        obtain ⟨y16, ey16, h⟩ := bd_in h
        refine ldR hx hb hK hP 1 0 rfl rfl ey16 dX5_pupilOf_145 ?_
        cases h
        exact endI hx hb hr hlocks hP hS rfl dX5_pupilOf_146
      have h := (if_neg c14).symm.trans h
      by_cases c17 : p2 = (5 : Int32)
      · have h := (if_pos c17).symm.trans h
        refine lv_tableIn (off := 112) (tgt := 134) hx hb dX5_pupilOf_22 (by rw [c17]; decide +kernel) (by rw [c17]; decide +kernel) (by rw [c17]; decide +kernel) (by decide) ?_
        refine lv_aload_n hx hb dX5_pupilOf_134 rfl (lv_at hl 0 rfl) ?_
        refine va_get (D := D) (ci := 5) (v := .ref (adM 1)) (C := RX5) (T := TX5) (N := 18) hx hb hts iw_X5_pupilOf_X5 hown hK hP 0 rfl rfl 0 (by decide) (hts (.fieldLink RX5 7 "FavourRingsModel" "s" "[I") (List.mem_of_getElem? (i := 2) rfl)) (fun _ h9 => h9) rfl dX5_pupilOf_135 ?_
        refine lv_iload_n hx hb dX5_pupilOf_138 rfl (lv_at hl 1 rfl) ?_
        refine lv_iload_n hx hb dX5_pupilOf_139 rfl (lv_at hl 2 rfl) ?_
        refine lv_iconst (v := (4 : Int32)) hx hb dX5_pupilOf_140 (by decide) ?_
        refine lv_isub hx hb dX5_pupilOf_141 ?_
        obtain ⟨u18, eu18, h⟩ := bd_in h
        refine kI (va_runS (As := [.int p1, .int (p2 - (4 : Int32))]) (rest := [.ref (adM 1)]) ⟨hx, hb, hml, hown, hts⟩ (c_X5_at l D cA cQ  p1 (p2 - (4 : Int32)) u18 eu18 _) (va_cwS 2 hts gX5_pupilOf_X5_at rfl rfl rfl (by decide +kernel) ⟨Nat.le_of_ble_eq_true rfl, Nat.le_of_ble_eq_true rfl⟩) (pS hK hN hP hD [] rfl rfl) rfl rfl hl.1 rfl (lv_room (Nat.le_of_ble_eq_true rfl)) dX5_pupilOf_142 ⟨Nat.zero_le _, Nat.zero_le _⟩) hP hD hS hA [] rfl rfl (ws' := (wM cA adM vM)) rfl (fun H locs hP hD hS => ?_)
        obtain ⟨y19, ey19, h⟩ := bd_in h
        refine ldR hx hb hK hP 1 0 rfl rfl ey19 dX5_pupilOf_145 ?_
        cases h
        exact endI hx hb hr hlocks hP hS rfl dX5_pupilOf_146
      have h := (if_neg c17).symm.trans h
      by_cases c20 : p2 = (6 : Int32)
      · have h := (if_pos c20).symm.trans h
        refine lv_tableIn (off := 81) (tgt := 103) hx hb dX5_pupilOf_22 (by rw [c20]; decide +kernel) (by rw [c20]; decide +kernel) (by rw [c20]; decide +kernel) (by decide) ?_
        refine lv_aload_n hx hb dX5_pupilOf_103 rfl (lv_at hl 0 rfl) ?_
        refine va_get (D := D) (ci := 5) (v := .ref (adM 1)) (C := RX5) (T := TX5) (N := 18) hx hb hts iw_X5_pupilOf_X5 hown hK hP 0 rfl rfl 0 (by decide) (hts (.fieldLink RX5 7 "FavourRingsModel" "s" "[I") (List.mem_of_getElem? (i := 2) rfl)) (fun _ h9 => h9) rfl dX5_pupilOf_104 ?_
        refine lv_iload_n hx hb dX5_pupilOf_107 rfl (lv_at hl 1 rfl) ?_
        refine lv_iconst (v := (2 : Int32)) hx hb dX5_pupilOf_108 (by decide) ?_
        obtain ⟨u21, eu21, h⟩ := bd_in h
        refine kI (va_runS (As := [.int p1, .int (2 : Int32)]) (rest := [.ref (adM 1)]) ⟨hx, hb, hml, hown, hts⟩ (c_X5_at l D cA cQ  p1 (2 : Int32) u21 eu21 _) (va_cwS 2 hts gX5_pupilOf_X5_at rfl rfl rfl (by decide +kernel) ⟨Nat.le_of_ble_eq_true rfl, Nat.le_of_ble_eq_true rfl⟩) (pS hK hN hP hD [] rfl rfl) rfl rfl hl.1 rfl (lv_room (Nat.le_of_ble_eq_true rfl)) dX5_pupilOf_109 ⟨Nat.zero_le _, Nat.zero_le _⟩) hP hD hS hA [] rfl rfl (ws' := (wM cA adM vM)) rfl (fun H locs hP hD hS => ?_)
        obtain ⟨y22, ey22, h⟩ := bd_in h
        refine ldR hx hb hK hP 1 0 rfl rfl ey22 dX5_pupilOf_112 ?_
        refine lv_if_le (tgt := 131) hx hb dX5_pupilOf_113 (by decide) (fun c23 => ?_) (fun c23 => ?_)
        · have h := (if_pos c23).symm.trans h
          refine lv_ldc (v := (-1000004 : Int32)) hx hb hown (hts (.constant RX5 57 (-1000004)) (List.mem_of_getElem? (i := 3) rfl)) dX5_pupilOf_131 ?_
          cases h
          exact endI hx hb hr hlocks hP hS rfl dX5_pupilOf_133
        · have h := (if_neg c23).symm.trans h
          refine lv_aload_n hx hb dX5_pupilOf_116 rfl (lv_at hl 0 rfl) ?_
          refine va_get (D := D) (ci := 5) (v := .ref (adM 1)) (C := RX5) (T := TX5) (N := 18) hx hb hts iw_X5_pupilOf_X5 hown hK hP 0 rfl rfl 0 (by decide) (hts (.fieldLink RX5 7 "FavourRingsModel" "s" "[I") (List.mem_of_getElem? (i := 2) rfl)) (fun _ h9 => h9) rfl dX5_pupilOf_117 ?_
          refine lv_iload_n hx hb dX5_pupilOf_120 rfl (lv_at hl 1 rfl) ?_
          refine lv_iconst (v := (2 : Int32)) hx hb dX5_pupilOf_121 (by decide) ?_
          obtain ⟨u24, eu24, h⟩ := bd_in h
          refine kI (va_runS (As := [.int p1, .int (2 : Int32)]) (rest := [.ref (adM 1)]) ⟨hx, hb, hml, hown, hts⟩ (c_X5_at l D cA cQ  p1 (2 : Int32) u24 eu24 _) (va_cwS 2 hts gX5_pupilOf_X5_at rfl rfl rfl (by decide +kernel) ⟨Nat.le_of_ble_eq_true rfl, Nat.le_of_ble_eq_true rfl⟩) (pS hK hN hP hD [] rfl rfl) rfl rfl hl.1 rfl (lv_room (Nat.le_of_ble_eq_true rfl)) dX5_pupilOf_122 ⟨Nat.zero_le _, Nat.zero_le _⟩) hP hD hS hA [] rfl rfl (ws' := (wM cA adM vM)) rfl (fun H locs hP hD hS => ?_)
          obtain ⟨y25, ey25, h⟩ := bd_in h
          refine ldR hx hb hK hP 1 0 rfl rfl ey25 dX5_pupilOf_125 ?_
          refine lv_iconst (v := (1 : Int32)) hx hb dX5_pupilOf_126 (by decide) ?_
          refine lv_isub hx hb dX5_pupilOf_127 ?_
          refine lv_goto (tgt := 133) hx hb dX5_pupilOf_128 (by decide) ?_
          cases h
          exact endI hx hb hr hlocks hP hS rfl dX5_pupilOf_133
      have h := (if_neg c20).symm.trans h
      have nc5 : (p2).toInt ≠ 0 := ne_toInt c5
      have nc7 : (p2).toInt ≠ 1 := ne_toInt c7
      have nc9 : (p2).toInt ≠ 2 := ne_toInt c9
      have nc11 : (p2).toInt ≠ 3 := ne_toInt c11
      have nc14 : (p2).toInt ≠ 4 := ne_toInt c14
      have nc17 : (p2).toInt ≠ 5 := ne_toInt c17
      have nc20 : (p2).toInt ≠ 6 := ne_toInt c20
      refine lv_tableOut (tgt := 134) hx hb dX5_pupilOf_22 (by omega) (by decide) ?_
      refine lv_aload_n hx hb dX5_pupilOf_134 rfl (lv_at hl 0 rfl) ?_
      refine va_get (D := D) (ci := 5) (v := .ref (adM 1)) (C := RX5) (T := TX5) (N := 18) hx hb hts iw_X5_pupilOf_X5 hown hK hP 0 rfl rfl 0 (by decide) (hts (.fieldLink RX5 7 "FavourRingsModel" "s" "[I") (List.mem_of_getElem? (i := 2) rfl)) (fun _ h9 => h9) rfl dX5_pupilOf_135 ?_
      refine lv_iload_n hx hb dX5_pupilOf_138 rfl (lv_at hl 1 rfl) ?_
      refine lv_iload_n hx hb dX5_pupilOf_139 rfl (lv_at hl 2 rfl) ?_
      refine lv_iconst (v := (4 : Int32)) hx hb dX5_pupilOf_140 (by decide) ?_
      refine lv_isub hx hb dX5_pupilOf_141 ?_
      obtain ⟨u26, eu26, h⟩ := bd_in h
      refine kI (va_runS (As := [.int p1, .int (p2 - (4 : Int32))]) (rest := [.ref (adM 1)]) ⟨hx, hb, hml, hown, hts⟩ (c_X5_at l D cA cQ  p1 (p2 - (4 : Int32)) u26 eu26 _) (va_cwS 2 hts gX5_pupilOf_X5_at rfl rfl rfl (by decide +kernel) ⟨Nat.le_of_ble_eq_true rfl, Nat.le_of_ble_eq_true rfl⟩) (pS hK hN hP hD [] rfl rfl) rfl rfl hl.1 rfl (lv_room (Nat.le_of_ble_eq_true rfl)) dX5_pupilOf_142 ⟨Nat.zero_le _, Nat.zero_le _⟩) hP hD hS hA [] rfl rfl (ws' := (wM cA adM vM)) rfl (fun H locs hP hD hS => ?_)
      obtain ⟨y27, ey27, h⟩ := bd_in h
      refine ldR hx hb hK hP 1 0 rfl rfl ey27 dX5_pupilOf_145 ?_
      cases h
      exact endI hx hb hr hlocks hP hS rfl dX5_pupilOf_146
    · have h := (if_pos c4).symm.trans h
      refine lv_ldc (v := (-1000001 : Int32)) hx hb hown (hts (.constant RX5 86 (-1000001)) (List.mem_of_getElem? (i := 1) rfl)) dX5_pupilOf_18 ?_
      cases h
      exact endI hx hb hr hlocks hP hS rfl dX5_pupilOf_20
theorem iw_X5_richest_X5 : ∀ w ∈ wsX50, w ∈ wsX5_richest := fun _ h => List.mem_cons_of_mem _ (List.mem_append_right _ (h))
set_option maxHeartbeats 4000000 in
set_option maxRecDepth 100000 in
theorem c_X5_richest (l : Launch) (D : va_G) (cA cQ : ClassId) (adM : Nat → Nat) (vM : St) (p1 : Int32) (o : Int32) (hf : X5_richest vM p1 = some o) : Cti l yX5_richest wsX5_richest ({ frames := 3, cells := 0, slots := 0, locals := 67 }) D (TY cA cQ) [.ref (adM 0), .int p1] (wM cA adM vM) (wM cA adM vM) o := by
  refine Wk.i (cc := cX5_richest) (maxL := 6) (ret := (some .int)) (by decide) rfl (Nat.le_of_ble_eq_true rfl) ?_
  intro p e s m below meth c A ls hx hb hr hlocks hml hown hts hK hN hP hD hA hl
  have hown : s.vm.findClass RX5 = some m.cls := hown
  have hS : va_S A s.heap s.heap [] := va_S.rf
  have hl : lv_has ls 6 [(0, .ref (adM 0)), (1, .int p1)] := hl
  have B9 : ∀ (fu9 : Nat) (x2 : Int32) (H : Heap) (locs : List Loc) (ls : Array Slot), X5_richest_l9 vM p1 fu9 x2 = some o → va_P D vwCl (wM cA adM vM) H → va_D A (wM cA adM vM) → va_S A s.heap H locs → lv_has ls 6 [(0, .ref (adM 0)), (1, .int p1), (2, .int x2)] → W p l e (headSpec wsX5_richest ({ frames := 3, cells := 0, slots := 0, locals := 67 })).room s m ([.ref (adM 0), .int p1] : List Value).toArray below meth c H locs 0 0 (MQ below (QI D (wM cA adM vM) o A) ([.ref (adM 0), .int p1] : List Value).toArray s 0 0 A) (F0 m 9 ls []) := by
    intro fu9
    induction fu9 with
    | zero =>
      intro x2 H locs ls h hP hD hS hl
      cases h
    | succ fu9 ih9 =>
      have B83 : ∀ (x2 : Int32) (x3 : Int32) (H : Heap) (locs : List Loc) (ls : Array Slot), X5_richest_b83 vM p1 (X5_richest_l9 vM p1 fu9) x2 x3 = some o → va_P D vwCl (wM cA adM vM) H → va_D A (wM cA adM vM) → va_S A s.heap H locs → lv_has ls 6 [(0, .ref (adM 0)), (1, .int p1), (2, .int x2), (3, .int x3)] → W p l e (headSpec wsX5_richest ({ frames := 3, cells := 0, slots := 0, locals := 67 })).room s m ([.ref (adM 0), .int p1] : List Value).toArray below meth c H locs 0 0 (MQ below (QI D (wM cA adM vM) o A) ([.ref (adM 0), .int p1] : List Value).toArray s 0 0 A) (F0 m 83 ls []) := by
        intro x2 x3 H locs ls h hP hD hS hl
        unfold X5_richest_b83 at h
        refine lv_iload_n hx hb dX5_richest_83 rfl (lv_at hl 3 rfl) ?_
        refine lv_iload_n hx hb dX5_richest_84 rfl (lv_at hl 1 rfl) ?_
        refine lv_icmp_ne (tgt := 90) hx hb dX5_richest_85 (by decide) (fun c1 => ?_) (fun c1 => ?_)
        · have h := (if_neg c1).symm.trans h
          refine lv_iinc (v := (x2 + (1 : Int32))) (lv' := [(2, .int (x2 + (1 : Int32))), (0, .ref (adM 0)), (1, .int p1), (3, .int x3)]) hx hb dX5_richest_90 hl (k := 2) rfl rfl (by decide) rfl (fun ls hl => ?_)
          refine lv_goto (tgt := 9) hx hb dX5_richest_93 (by decide) ?_
          exact ih9 (x2 + (1 : Int32)) _ _ _ h hP hD hS (lv_sub hl [1, 2, 0] rfl)
        · have h := (if_pos c1).symm.trans h
          refine lv_iload_n hx hb dX5_richest_88 rfl (lv_at hl 2 rfl) ?_
          cases h
          exact endI hx hb hr hlocks hP hS rfl dX5_richest_89
      have B26 : ∀ (fu26 : Nat) (x2 : Int32) (x3 : Int32) (x4 : Int32) (H : Heap) (locs : List Loc) (ls : Array Slot), X5_richest_l26 vM p1 (X5_richest_l9 vM p1 fu9) fu26 x2 x3 x4 = some o → va_P D vwCl (wM cA adM vM) H → va_D A (wM cA adM vM) → va_S A s.heap H locs → lv_has ls 6 [(0, .ref (adM 0)), (1, .int p1), (2, .int x2), (3, .int x3), (4, .int x4)] → W p l e (headSpec wsX5_richest ({ frames := 3, cells := 0, slots := 0, locals := 67 })).room s m ([.ref (adM 0), .int p1] : List Value).toArray below meth c H locs 0 0 (MQ below (QI D (wM cA adM vM) o A) ([.ref (adM 0), .int p1] : List Value).toArray s 0 0 A) (F0 m 26 ls []) := by
        intro fu26
        induction fu26 with
        | zero =>
          intro x2 x3 x4 H locs ls h hP hD hS hl
          cases h
        | succ fu26 ih26 =>
          have B70 : ∀ (x2 : Int32) (x4 : Int32) (t0 : Int32) (H : Heap) (locs : List Loc) (ls : Array Slot), X5_richest_b70 vM p1 (X5_richest_l9 vM p1 fu9) (X5_richest_l26 vM p1 (X5_richest_l9 vM p1 fu9) fu26) x2 x4 t0 = some o → va_P D vwCl (wM cA adM vM) H → va_D A (wM cA adM vM) → va_S A s.heap H locs → lv_has ls 6 [(0, .ref (adM 0)), (1, .int p1), (2, .int x2), (4, .int x4)] → W p l e (headSpec wsX5_richest ({ frames := 3, cells := 0, slots := 0, locals := 67 })).room s m ([.ref (adM 0), .int p1] : List Value).toArray below meth c H locs 0 0 (MQ below (QI D (wM cA adM vM) o A) ([.ref (adM 0), .int p1] : List Value).toArray s 0 0 A) (F0 m 70 ls [.int t0]) := by
            intro x2 x4 t0 H locs ls h hP hD hS hl
            unfold X5_richest_b70 at h
            refine lv_iconst (v := (1 : Int32)) hx hb dX5_richest_70 (by decide) ?_
            refine lv_goto (tgt := 75) hx hb dX5_richest_71 (by decide) ?_
            refine lv_iadd hx hb dX5_richest_75 ?_
            refine lv_istore_n (lv' := [(3, .int (t0 + (1 : Int32))), (0, .ref (adM 0)), (1, .int p1), (2, .int x2), (4, .int x4)]) hx hb dX5_richest_76 rfl hl (by decide) rfl (fun ls hl => ?_)
            refine lv_iinc (v := (x4 + (1 : Int32))) (lv' := [(4, .int (x4 + (1 : Int32))), (3, .int (t0 + (1 : Int32))), (0, .ref (adM 0)), (1, .int p1), (2, .int x2)]) hx hb dX5_richest_77 hl (k := 4) rfl rfl (by decide) rfl (fun ls hl => ?_)
            refine lv_goto (tgt := 26) hx hb dX5_richest_80 (by decide) ?_
            exact ih26 x2 (t0 + (1 : Int32)) (x4 + (1 : Int32)) _ _ _ h hP hD hS (lv_sub hl [2, 3, 4, 1, 0] rfl)
          intro x2 x3 x4 H locs ls h hP hD hS hl
          rw [X5_richest_l26] at h
          refine lv_iload hx hb dX5_richest_26 (lv_at hl 4 rfl) ?_
          refine lv_aload_n hx hb dX5_richest_28 rfl (lv_at hl 0 rfl) ?_
          refine va_get (D := D) (ci := 5) (v := .ref (adM 1)) (C := RX5) (T := TX5) (N := 18) hx hb hts iw_X5_richest_X5 hown hK hP 0 rfl rfl 0 (by decide) (hts (.fieldLink RX5 7 "FavourRingsModel" "s" "[I") (List.mem_of_getElem? (i := 2) rfl)) (fun _ h9 => h9) rfl dX5_richest_29 ?_
          refine lv_sipush (v := (289 : Int32)) hx hb dX5_richest_32 (by decide) ?_
          obtain ⟨y2, ey2, h⟩ := bd_in h
          refine ldR hx hb hK hP 1 0 rfl rfl ey2 dX5_richest_35 ?_
          refine lv_icmp_ge (tgt := 83) hx hb dX5_richest_36 (by decide) (fun c3 => ?_) (fun c3 => ?_)
          · have h := (if_pos c3).symm.trans h
            exact B83 x2 x3 _ _ _ h hP hD hS (lv_sub hl [0, 1, 2, 3] rfl)
          · have h := (if_neg c3).symm.trans h
            refine lv_aload_n hx hb dX5_richest_39 rfl (lv_at hl 0 rfl) ?_
            refine lv_iload hx hb dX5_richest_40 (lv_at hl 4 rfl) ?_
            obtain ⟨u4, eu4, h⟩ := bd_in h
            refine kI (va_runV (As := [.int x4]) (rest := []) ⟨hx, hb, hml, hown, hts⟩ (c_X5_balance l D cA cQ adM vM x4 u4 eu4 _) (cwV 1 hts gX5_richest_X5_balance rfl rfl rfl (by decide +kernel) ⟨Nat.le_of_ble_eq_true rfl, Nat.le_of_ble_eq_true rfl⟩) (pV (ci := 5) (q := (RX5, TX5, 18)) hK hN hP hD [0, 1, 2, 3, 4, 5, 6, 7, 8, 9] rfl rfl rfl rfl) rfl rfl hl.1 rfl (lv_room (Nat.le_of_ble_eq_true rfl)) dX5_richest_42 ⟨Nat.zero_le _, Nat.zero_le _⟩) hP hD hS hA [0, 1, 2, 3, 4, 5, 6, 7, 8, 9] rfl rfl (ws' := (wM cA adM vM)) rfl (fun H locs hP hD hS => ?_)
            refine lv_aload_n hx hb dX5_richest_45 rfl (lv_at hl 0 rfl) ?_
            refine lv_iload_n hx hb dX5_richest_46 rfl (lv_at hl 2 rfl) ?_
            obtain ⟨u5, eu5, h⟩ := bd_in h
            refine kI (va_runV (As := [.int x2]) (rest := [.int u4]) ⟨hx, hb, hml, hown, hts⟩ (c_X5_balance l D cA cQ adM vM x2 u5 eu5 _) (cwV 1 hts gX5_richest_X5_balance rfl rfl rfl (by decide +kernel) ⟨Nat.le_of_ble_eq_true rfl, Nat.le_of_ble_eq_true rfl⟩) (pV (ci := 5) (q := (RX5, TX5, 18)) hK hN hP hD [0, 1, 2, 3, 4, 5, 6, 7, 8, 9] rfl rfl rfl rfl) rfl rfl hl.1 rfl (lv_room (Nat.le_of_ble_eq_true rfl)) dX5_richest_47 ⟨Nat.zero_le _, Nat.zero_le _⟩) hP hD hS hA [0, 1, 2, 3, 4, 5, 6, 7, 8, 9] rfl rfl (ws' := (wM cA adM vM)) rfl (fun H locs hP hD hS => ?_)
            refine lv_isub hx hb dX5_richest_50 ?_
            refine lv_istore (lv' := [(5, .int (u4 - u5)), (0, .ref (adM 0)), (1, .int p1), (2, .int x2), (3, .int x3), (4, .int x4)]) hx hb dX5_richest_51 hl (by decide) rfl (fun ls hl => ?_)
            refine lv_iload_n hx hb dX5_richest_53 rfl (lv_at hl 4 rfl) ?_
            refine lv_iload hx hb dX5_richest_54 (lv_at hl 0 rfl) ?_
            refine lv_if_gt (tgt := 70) hx hb dX5_richest_56 (by decide) (fun c6 => ?_) (fun c6 => ?_)
            · have h := (if_pos c6).symm.trans h
              exact B70 x2 x4 x3 _ _ _ h hP hD hS (lv_sub hl [1, 2, 3, 5] rfl)
            · have h := (if_neg c6).symm.trans h
              refine lv_iload hx hb dX5_richest_59 (lv_at hl 0 rfl) ?_
              refine lv_if_ne (tgt := 74) hx hb dX5_richest_61 (by decide) (fun c7 => ?_) (fun c7 => ?_)
              · have h := (if_neg c7).symm.trans h
                refine lv_iconst (v := (0 : Int32)) hx hb dX5_richest_74 (by decide) ?_
                refine lv_iadd hx hb dX5_richest_75 ?_
                refine lv_istore_n (lv' := [(3, .int (x3 + (0 : Int32))), (5, .int (u4 - u5)), (0, .ref (adM 0)), (1, .int p1), (2, .int x2), (4, .int x4)]) hx hb dX5_richest_76 rfl hl (by decide) rfl (fun ls hl => ?_)
                refine lv_iinc (v := (x4 + (1 : Int32))) (lv' := [(4, .int (x4 + (1 : Int32))), (3, .int (x3 + (0 : Int32))), (5, .int (u4 - u5)), (0, .ref (adM 0)), (1, .int p1), (2, .int x2)]) hx hb dX5_richest_77 hl (k := 5) rfl rfl (by decide) rfl (fun ls hl => ?_)
                refine lv_goto (tgt := 26) hx hb dX5_richest_80 (by decide) ?_
                exact ih26 x2 (x3 + (0 : Int32)) (x4 + (1 : Int32)) _ _ _ h hP hD hS (lv_sub hl [3, 4, 5, 1, 0] rfl)
              · have h := (if_pos c7).symm.trans h
                refine lv_iload hx hb dX5_richest_64 (lv_at hl 5 rfl) ?_
                refine lv_iload_n hx hb dX5_richest_66 rfl (lv_at hl 3 rfl) ?_
                refine lv_icmp_ge (tgt := 74) hx hb dX5_richest_67 (by decide) (fun c8 => ?_) (fun c8 => ?_)
                · have h := (if_pos c8).symm.trans h
                  refine lv_iconst (v := (0 : Int32)) hx hb dX5_richest_74 (by decide) ?_
                  refine lv_iadd hx hb dX5_richest_75 ?_
                  refine lv_istore_n (lv' := [(3, .int (x3 + (0 : Int32))), (5, .int (u4 - u5)), (0, .ref (adM 0)), (1, .int p1), (2, .int x2), (4, .int x4)]) hx hb dX5_richest_76 rfl hl (by decide) rfl (fun ls hl => ?_)
                  refine lv_iinc (v := (x4 + (1 : Int32))) (lv' := [(4, .int (x4 + (1 : Int32))), (3, .int (x3 + (0 : Int32))), (5, .int (u4 - u5)), (0, .ref (adM 0)), (1, .int p1), (2, .int x2)]) hx hb dX5_richest_77 hl (k := 5) rfl rfl (by decide) rfl (fun ls hl => ?_)
                  refine lv_goto (tgt := 26) hx hb dX5_richest_80 (by decide) ?_
                  exact ih26 x2 (x3 + (0 : Int32)) (x4 + (1 : Int32)) _ _ _ h hP hD hS (lv_sub hl [3, 4, 5, 1, 0] rfl)
                · have h := (if_neg c8).symm.trans h
                  exact B70 x2 x4 x3 _ _ _ h hP hD hS (lv_sub hl [1, 2, 3, 5] rfl)
      intro x2 H locs ls h hP hD hS hl
      rw [X5_richest_l9] at h
      refine lv_iload_n hx hb dX5_richest_9 rfl (lv_at hl 2 rfl) ?_
      refine lv_aload_n hx hb dX5_richest_10 rfl (lv_at hl 0 rfl) ?_
      refine va_get (D := D) (ci := 5) (v := .ref (adM 1)) (C := RX5) (T := TX5) (N := 18) hx hb hts iw_X5_richest_X5 hown hK hP 0 rfl rfl 0 (by decide) (hts (.fieldLink RX5 7 "FavourRingsModel" "s" "[I") (List.mem_of_getElem? (i := 2) rfl)) (fun _ h9 => h9) rfl dX5_richest_11 ?_
      refine lv_sipush (v := (289 : Int32)) hx hb dX5_richest_14 (by decide) ?_
      obtain ⟨y9, ey9, h⟩ := bd_in h
      refine ldR hx hb hK hP 1 0 rfl rfl ey9 dX5_richest_17 ?_
      refine lv_icmp_ge (tgt := 96) hx hb dX5_richest_18 (by decide) (fun c10 => ?_) (fun c10 => ?_)
      · have h := (if_pos c10).symm.trans h
        refine lv_ldc (v := (-1000004 : Int32)) hx hb hown (hts (.constant RX5 57 (-1000004)) (List.mem_of_getElem? (i := 3) rfl)) dX5_richest_96 ?_
        cases h
        exact endI hx hb hr hlocks hP hS rfl dX5_richest_98
      · have h := (if_neg c10).symm.trans h
        refine lv_iconst (v := (0 : Int32)) hx hb dX5_richest_21 (by decide) ?_
        refine lv_istore_n (lv' := [(3, .int (0 : Int32)), (0, .ref (adM 0)), (1, .int p1), (2, .int x2)]) hx hb dX5_richest_22 rfl hl (by decide) rfl (fun ls hl => ?_)
        refine lv_iconst (v := (0 : Int32)) hx hb dX5_richest_23 (by decide) ?_
        refine lv_istore (lv' := [(4, .int (0 : Int32)), (3, .int (0 : Int32)), (0, .ref (adM 0)), (1, .int p1), (2, .int x2)]) hx hb dX5_richest_24 hl (by decide) rfl (fun ls hl => ?_)
        exact B26 FU x2 (0 : Int32) (0 : Int32) _ _ _ h hP hD hS (lv_sub hl [2, 3, 4, 1, 0] rfl)
  have h := hf
  unfold X5_richest at h
  refine lv_iload_n hx hb dX5_richest_0 rfl (lv_at hl 1 rfl) ?_
  refine lv_if_ge (tgt := 7) hx hb dX5_richest_1 (by decide) (fun c11 => ?_) (fun c11 => ?_)
  · have h := (if_pos c11).symm.trans h
    refine lv_iconst (v := (0 : Int32)) hx hb dX5_richest_7 (by decide) ?_
    refine lv_istore_n (lv' := [(2, .int (0 : Int32)), (0, .ref (adM 0)), (1, .int p1)]) hx hb dX5_richest_8 rfl hl (by decide) rfl (fun ls hl => ?_)
    exact B9 FU (0 : Int32) _ _ _ h hP hD hS (lv_sub hl [1, 2, 0] rfl)
  · have h := (if_neg c11).symm.trans h
    refine lv_ldc (v := (-1000001 : Int32)) hx hb hown (hts (.constant RX5 86 (-1000001)) (List.mem_of_getElem? (i := 1) rfl)) dX5_richest_4 ?_
    cases h
    exact endI hx hb hr hlocks hP hS rfl dX5_richest_6
theorem iw_X5_ring_X5 : ∀ w ∈ wsX50, w ∈ wsX5_ring := fun _ h => List.mem_cons_of_mem _ (List.mem_append_right _ (h))
set_option maxHeartbeats 4000000 in
set_option maxRecDepth 100000 in
theorem c_X5_ring (l : Launch) (D : va_G) (cA cQ : ClassId) (adM : Nat → Nat) (vM : St) (p1 : Int32) (p2 : Int32) (o : Int32 × St) (hf : X5_ring vM p1 p2 = some o) : Cti l yX5_ring wsX5_ring ({ frames := 3, cells := 0, slots := 0, locals := 68 }) D (TY cA cQ) [.ref (adM 0), .int p1, .int p2] (wM cA adM vM) (wM cA adM o.2) o.1 := by
  refine Wk.i (cc := cX5_ring) (maxL := 3) (ret := (some .int)) (by decide) rfl (Nat.le_of_ble_eq_true rfl) ?_
  intro p e s m below meth c A ls hx hb hr hlocks hml hown hts hK hN hP hD hA hl
  have hown : s.vm.findClass RX5 = some m.cls := hown
  have hS : va_S A s.heap s.heap [] := va_S.rf
  have hl : lv_has ls 3 [(0, .ref (adM 0)), (1, .int p1), (2, .int p2)] := hl
  have h := hf
  unfold X5_ring at h
  refine lv_iload_n hx hb dX5_ring_0 rfl (lv_at hl 1 rfl) ?_
  obtain ⟨u1, eu1, h⟩ := bd_in h
  refine kI (va_runS (As := [.int p1]) (rest := []) ⟨hx, hb, hml, hown, hts⟩ (c_X5_isKind l D cA cQ  p1 u1 eu1 _) (va_cwS 1 hts gX5_ring_X5_isKind rfl rfl rfl (by decide +kernel) ⟨Nat.le_of_ble_eq_true rfl, Nat.le_of_ble_eq_true rfl⟩) (pS hK hN hP hD [] rfl rfl) rfl rfl hl.1 rfl (lv_room (Nat.le_of_ble_eq_true rfl)) dX5_ring_1 ⟨Nat.zero_le _, Nat.zero_le _⟩) hP hD hS hA [] rfl rfl (ws' := (wM cA adM vM)) rfl (fun H locs hP hD hS => ?_)
  refine lv_if_eq (tgt := 11) hx hb dX5_ring_4 (by decide) (fun c2 => ?_) (fun c2 => ?_)
  · have h := (if_pos c2).symm.trans h
    refine lv_ldc (v := (-1000001 : Int32)) hx hb hown (hts (.constant RX5 86 (-1000001)) (List.mem_of_getElem? (i := 1) rfl)) dX5_ring_11 ?_
    cases h
    exact endI hx hb hr hlocks hP hS rfl dX5_ring_13
  · have h := (if_neg c2).symm.trans h
    refine lv_iload_n hx hb dX5_ring_7 rfl (lv_at hl 2 rfl) ?_
    refine lv_if_ge (tgt := 14) hx hb dX5_ring_8 (by decide) (fun c3 => ?_) (fun c3 => ?_)
    · have h := (if_pos c3).symm.trans h
      refine lv_iload_n hx hb dX5_ring_14 rfl (lv_at hl 2 rfl) ?_
      refine lv_aload_n hx hb dX5_ring_15 rfl (lv_at hl 0 rfl) ?_
      refine lv_iload_n hx hb dX5_ring_16 rfl (lv_at hl 1 rfl) ?_
      obtain ⟨u4, eu4, h⟩ := bd_in h
      refine kI (va_runV (As := [.int p1]) (rest := [.int p2]) ⟨hx, hb, hml, hown, hts⟩ (c_X5_rings l D cA cQ adM vM p1 u4 eu4 _) (cwV 1 hts gX5_ring_X5_rings rfl rfl rfl (by decide +kernel) ⟨Nat.le_of_ble_eq_true rfl, Nat.le_of_ble_eq_true rfl⟩) (pV (ci := 5) (q := (RX5, TX5, 18)) hK hN hP hD [0, 1, 2, 3, 4, 5, 6, 7, 8, 9] rfl rfl rfl rfl) rfl rfl hl.1 rfl (lv_room (Nat.le_of_ble_eq_true rfl)) dX5_ring_17 ⟨Nat.zero_le _, Nat.zero_le _⟩) hP hD hS hA [0, 1, 2, 3, 4, 5, 6, 7, 8, 9] rfl rfl (ws' := (wM cA adM u4.2)) rfl (fun H locs hP hD hS => ?_)
      refine lv_icmp_ge (tgt := 32) hx hb dX5_ring_20 (by decide) (fun c5 => ?_) (fun c5 => ?_)
      · have h := (if_pos c5).symm.trans h
        refine lv_ldc (v := (-1000004 : Int32)) hx hb hown (hts (.constant RX5 57 (-1000004)) (List.mem_of_getElem? (i := 3) rfl)) dX5_ring_32 ?_
        cases h
        exact endI hx hb hr hlocks hP hS rfl dX5_ring_34
      · have h := (if_neg c5).symm.trans h
        refine lv_aload_n hx hb dX5_ring_23 rfl (lv_at hl 0 rfl) ?_
        refine va_get (D := D) (ci := 5) (v := .ref (adM 11)) (C := RX5) (T := TX5) (N := 18) hx hb hts iw_X5_ring_X5 hown hK hP 0 rfl rfl 10 (by decide) (hts (.fieldLink RX5 31 "FavourRingsModel" "ring" "[I") (List.mem_of_getElem? (i := 2) rfl)) (fun _ h9 => h9) rfl dX5_ring_24 ?_
        refine lv_iload_n hx hb dX5_ring_27 rfl (lv_at hl 2 rfl) ?_
        obtain ⟨y6, ey6, h⟩ := bd_in h
        refine ldR hx hb hK hP 8 0 rfl rfl ey6 dX5_ring_28 ?_
        refine lv_goto (tgt := 34) hx hb dX5_ring_29 (by decide) ?_
        cases h
        exact endI hx hb hr hlocks hP hS rfl dX5_ring_34
    · have h := (if_neg c3).symm.trans h
      refine lv_ldc (v := (-1000001 : Int32)) hx hb hown (hts (.constant RX5 86 (-1000001)) (List.mem_of_getElem? (i := 1) rfl)) dX5_ring_11 ?_
      cases h
      exact endI hx hb hr hlocks hP hS rfl dX5_ring_13
theorem iw_X5_set_X5 : ∀ w ∈ wsX50, w ∈ wsX5_set := fun _ h => List.mem_cons_of_mem _ (List.mem_append_right _ (h))
set_option maxHeartbeats 4000000 in
set_option maxRecDepth 100000 in
theorem c_X5_set (l : Launch) (D : va_G) (cA cQ : ClassId) (adM : Nat → Nat) (vM : St) (p1 : Int32) (p2 : Int32) (o : Int32 × St) (hf : X5_set vM p1 p2 = some o) : Cti l yX5_set wsX5_set ({ frames := 1, cells := 0, slots := 0, locals := 22 }) D (TY cA cQ) [.ref (adM 0), .int p1, .int p2] (wM cA adM vM) (wM cA adM o.2) o.1 := by
  refine Wk.i (cc := cX5_set) (maxL := 4) (ret := (some .int)) (by decide) rfl (Nat.le_of_ble_eq_true rfl) ?_
  intro p e s m below meth c A ls hx hb hr hlocks hml hown hts hK hN hP hD hA hl
  have hown : s.vm.findClass RX5 = some m.cls := hown
  have hS : va_S A s.heap s.heap [] := va_S.rf
  have hl : lv_has ls 4 [(0, .ref (adM 0)), (1, .int p1), (2, .int p2)] := hl
  have B23 : ∀ (vM : St) (t0 : Int32) (t1 : Int32) (t2 : Int32) (H : Heap) (locs : List Loc) (ls : Array Slot), X5_set_b23 p1 p2 vM t0 t1 t2 = some o → va_P D vwCl (wM cA adM vM) H → va_D A (wM cA adM vM) → va_S A s.heap H locs → lv_has ls 4 [(0, .ref (adM 0)), (1, .int p1), (2, .int p2)] → W p l e (headSpec wsX5_set ({ frames := 1, cells := 0, slots := 0, locals := 22 })).room s m ([.ref (adM 0), .int p1, .int p2] : List Value).toArray below meth c H locs 0 0 (MQ below (QI D (wM cA adM o.2) o.1 A) ([.ref (adM 0), .int p1, .int p2] : List Value).toArray s 0 0 A) (F0 m 23 ls [.int t2, .int t1, .int t0]) := by
    intro vM t0 t1 t2 H locs ls h hP hD hS hl
    unfold X5_set_b23 at h
    obtain ⟨u1, eu1, h⟩ := bd_in h
    refine kI (va_runS (As := [.int t0, .int t1, .int t2]) (rest := []) ⟨hx, hb, hml, hown, hts⟩ (c_X5_in l D cA cQ  t0 t1 t2 u1 eu1 _) (va_cwS 3 hts gX5_set_X5_in rfl rfl rfl (by decide +kernel) ⟨Nat.le_of_ble_eq_true rfl, Nat.le_of_ble_eq_true rfl⟩) (pS hK hN hP hD [] rfl rfl) rfl rfl hl.1 rfl (lv_room (Nat.le_of_ble_eq_true rfl)) dX5_set_23 ⟨Nat.zero_le _, Nat.zero_le _⟩) hP hD hS hA [] rfl rfl (ws' := (wM cA adM vM)) rfl (fun H locs hP hD hS => ?_)
    refine lv_if_ne (tgt := 32) hx hb dX5_set_26 (by decide) (fun c2 => ?_) (fun c2 => ?_)
    · have h := (if_neg c2).symm.trans h
      refine lv_aload_n hx hb dX5_set_32 rfl (lv_at hl 0 rfl) ?_
      obtain ⟨u3, eu3, h⟩ := bd_in h
      refine kV (va_runV (As := []) (rest := []) ⟨hx, hb, hml, hown, hts⟩ (c_X5_changes l D cA cQ adM vM u3 eu3 _) (cwV 0 hts gX5_set_X5_changes rfl rfl rfl (by decide +kernel) ⟨Nat.le_of_ble_eq_true rfl, Nat.le_of_ble_eq_true rfl⟩) (pV (ci := 5) (q := (RX5, TX5, 18)) hK hN hP hD [0, 1, 2, 3, 4, 5, 6, 7, 8, 9] rfl rfl rfl rfl) rfl rfl hl.1 rfl (lv_room (Nat.le_of_ble_eq_true rfl)) dX5_set_33 ⟨Nat.zero_le _, Nat.zero_le _⟩) hP hD hS hA [0, 1, 2, 3, 4, 5, 6, 7, 8, 9] rfl rfl (ws' := (wM cA adM u3)) rfl (fun H locs hP hD hS => ?_)
      refine lv_aload_n hx hb dX5_set_36 rfl (lv_at hl 0 rfl) ?_
      refine va_get (D := D) (ci := 5) (v := .ref (adM 1)) (C := RX5) (T := TX5) (N := 18) hx hb hts iw_X5_set_X5 hown hK hP 0 rfl rfl 0 (by decide) (hts (.fieldLink RX5 7 "FavourRingsModel" "s" "[I") (List.mem_of_getElem? (i := 2) rfl)) (fun _ h9 => h9) rfl dX5_set_37 ?_
      refine lv_sipush (v := (298 : Int32)) hx hb dX5_set_40 (by decide) ?_
      refine lv_iload_n hx hb dX5_set_43 rfl (lv_at hl 1 rfl) ?_
      refine lv_iadd hx hb dX5_set_44 ?_
      obtain ⟨y4, ey4, h⟩ := bd_in h
      refine ldR hx hb hK hP 1 0 rfl rfl ey4 dX5_set_45 ?_
      refine lv_istore_n (lv' := [(3, .int y4), (0, .ref (adM 0)), (1, .int p1), (2, .int p2)]) hx hb dX5_set_46 rfl hl (by decide) rfl (fun ls hl => ?_)
      refine lv_aload_n hx hb dX5_set_47 rfl (lv_at hl 1 rfl) ?_
      refine va_get (D := D) (ci := 5) (v := .ref (adM 1)) (C := RX5) (T := TX5) (N := 18) hx hb hts iw_X5_set_X5 hown hK hP 0 rfl rfl 0 (by decide) (hts (.fieldLink RX5 7 "FavourRingsModel" "s" "[I") (List.mem_of_getElem? (i := 2) rfl)) (fun _ h9 => h9) rfl dX5_set_48 ?_
      refine lv_sipush (v := (298 : Int32)) hx hb dX5_set_51 (by decide) ?_
      refine lv_iload_n hx hb dX5_set_54 rfl (lv_at hl 2 rfl) ?_
      refine lv_iadd hx hb dX5_set_55 ?_
      refine lv_iload_n hx hb dX5_set_56 rfl (lv_at hl 3 rfl) ?_
      obtain ⟨g5, eg5, h⟩ := bd_in h
      refine stR hx hb hK hP hD hS 1 0 rfl rfl eg5 (ws' := (wM cA adM (setA u3 1 g5))) rfl dX5_set_57 (fun H locs hP hD hS => ?_)
      refine lv_iload_n hx hb dX5_set_58 rfl (lv_at hl 0 rfl) ?_
      cases h
      exact endI hx hb hr hlocks hP hS rfl dX5_set_59
    · have h := (if_pos c2).symm.trans h
      refine lv_ldc (v := (-1000001 : Int32)) hx hb hown (hts (.constant RX5 86 (-1000001)) (List.mem_of_getElem? (i := 1) rfl)) dX5_set_29 ?_
      cases h
      exact endI hx hb hr hlocks hP hS rfl dX5_set_31
  have h := hf
  unfold X5_set at h
  refine lv_iload_n hx hb dX5_set_0 rfl (lv_at hl 1 rfl) ?_
  refine lv_iconst (v := (0 : Int32)) hx hb dX5_set_1 (by decide) ?_
  refine lv_iconst (v := (5 : Int32)) hx hb dX5_set_2 (by decide) ?_
  obtain ⟨u6, eu6, h⟩ := bd_in h
  refine kI (va_runS (As := [.int p1, .int (0 : Int32), .int (5 : Int32)]) (rest := []) ⟨hx, hb, hml, hown, hts⟩ (c_X5_in l D cA cQ  p1 (0 : Int32) (5 : Int32) u6 eu6 _) (va_cwS 3 hts gX5_set_X5_in rfl rfl rfl (by decide +kernel) ⟨Nat.le_of_ble_eq_true rfl, Nat.le_of_ble_eq_true rfl⟩) (pS hK hN hP hD [] rfl rfl) rfl rfl hl.1 rfl (lv_room (Nat.le_of_ble_eq_true rfl)) dX5_set_3 ⟨Nat.zero_le _, Nat.zero_le _⟩) hP hD hS hA [] rfl rfl (ws' := (wM cA adM vM)) rfl (fun H locs hP hD hS => ?_)
  refine lv_if_eq (tgt := 29) hx hb dX5_set_6 (by decide) (fun c7 => ?_) (fun c7 => ?_)
  · have h := (if_pos c7).symm.trans h
    refine lv_ldc (v := (-1000001 : Int32)) hx hb hown (hts (.constant RX5 86 (-1000001)) (List.mem_of_getElem? (i := 1) rfl)) dX5_set_29 ?_
    cases h
    exact endI hx hb hr hlocks hP hS rfl dX5_set_31
  · have h := (if_neg c7).symm.trans h
    refine lv_iload_n hx hb dX5_set_9 rfl (lv_at hl 2 rfl) ?_
    refine lv_iconst (v := (1 : Int32)) hx hb dX5_set_10 (by decide) ?_
    refine lv_iload_n hx hb dX5_set_11 rfl (lv_at hl 1 rfl) ?_
    refine lv_iconst (v := (4 : Int32)) hx hb dX5_set_12 (by decide) ?_
    refine lv_icmp_ne (tgt := 21) hx hb dX5_set_13 (by decide) (fun c8 => ?_) (fun c8 => ?_)
    · have h := (if_neg c8).symm.trans h
      refine lv_bipush (v := (20 : Int32)) hx hb dX5_set_21 (by decide) ?_
      exact B23 vM p2 (1 : Int32) (20 : Int32) _ _ _ h hP hD hS (lv_sub hl [0, 1, 2] rfl)
    · have h := (if_pos c8).symm.trans h
      refine lv_bipush (v := (99 : Int32)) hx hb dX5_set_16 (by decide) ?_
      refine lv_goto (tgt := 23) hx hb dX5_set_18 (by decide) ?_
      exact B23 vM p2 (1 : Int32) (99 : Int32) _ _ _ h hP hD hS (lv_sub hl [0, 1, 2] rfl)
theorem iw_X5_spoilsIn_X5 : ∀ w ∈ wsX50, w ∈ wsX5_spoilsIn := fun _ h => List.mem_cons_of_mem _ (List.mem_append_right _ (h))
set_option maxHeartbeats 4000000 in
set_option maxRecDepth 100000 in
theorem c_X5_spoilsIn (l : Launch) (D : va_G) (cA cQ : ClassId) (adM : Nat → Nat) (vM : St) (p1 : Int32) (o : Int32) (hf : X5_spoilsIn vM p1 = some o) : Cti l yX5_spoilsIn wsX5_spoilsIn ({ frames := 2, cells := 0, slots := 0, locals := 43 }) D (TY cA cQ) [.ref (adM 0), .int p1] (wM cA adM vM) (wM cA adM vM) o := by
  refine Wk.i (cc := cX5_spoilsIn) (maxL := 5) (ret := (some .int)) (by decide) rfl (Nat.le_of_ble_eq_true rfl) ?_
  intro p e s m below meth c A ls hx hb hr hlocks hml hown hts hK hN hP hD hA hl
  have hown : s.vm.findClass RX5 = some m.cls := hown
  have hS : va_S A s.heap s.heap [] := va_S.rf
  have hl : lv_has ls 5 [(0, .ref (adM 0)), (1, .int p1)] := hl
  have B16 : ∀ (fu16 : Nat) (x2 : Int32) (x3 : Int32) (H : Heap) (locs : List Loc) (ls : Array Slot), X5_spoilsIn_l16 vM p1 fu16 x2 x3 = some o → va_P D vwCl (wM cA adM vM) H → va_D A (wM cA adM vM) → va_S A s.heap H locs → lv_has ls 5 [(0, .ref (adM 0)), (1, .int p1), (2, .int x2), (3, .int x3)] → W p l e (headSpec wsX5_spoilsIn ({ frames := 2, cells := 0, slots := 0, locals := 43 })).room s m ([.ref (adM 0), .int p1] : List Value).toArray below meth c H locs 0 0 (MQ below (QI D (wM cA adM vM) o A) ([.ref (adM 0), .int p1] : List Value).toArray s 0 0 A) (F0 m 16 ls []) := by
    intro fu16
    induction fu16 with
    | zero =>
      intro x2 x3 H locs ls h hP hD hS hl
      cases h
    | succ fu16 ih16 =>
      have B64 : ∀ (x2 : Int32) (x3 : Int32) (t0 : Int32) (H : Heap) (locs : List Loc) (ls : Array Slot), X5_spoilsIn_b64 vM p1 (X5_spoilsIn_l16 vM p1 fu16) x2 x3 t0 = some o → va_P D vwCl (wM cA adM vM) H → va_D A (wM cA adM vM) → va_S A s.heap H locs → lv_has ls 5 [(0, .ref (adM 0)), (1, .int p1), (2, .int x2), (3, .int x3)] → W p l e (headSpec wsX5_spoilsIn ({ frames := 2, cells := 0, slots := 0, locals := 43 })).room s m ([.ref (adM 0), .int p1] : List Value).toArray below meth c H locs 0 0 (MQ below (QI D (wM cA adM vM) o A) ([.ref (adM 0), .int p1] : List Value).toArray s 0 0 A) (F0 m 64 ls [.int t0]) := by
        intro x2 x3 t0 H locs ls h hP hD hS hl
        unfold X5_spoilsIn_b64 at h
        refine lv_istore (lv' := [(4, .int t0), (0, .ref (adM 0)), (1, .int p1), (2, .int x2), (3, .int x3)]) hx hb dX5_spoilsIn_64 hl (by decide) rfl (fun ls hl => ?_)
        refine lv_aload_n hx hb dX5_spoilsIn_66 rfl (lv_at hl 1 rfl) ?_
        refine lv_iload_n hx hb dX5_spoilsIn_67 rfl (lv_at hl 4 rfl) ?_
        refine lv_iconst (v := (0 : Int32)) hx hb dX5_spoilsIn_68 (by decide) ?_
        obtain ⟨u1, eu1, h⟩ := bd_in h
        refine kI (va_runV (As := [.int x3, .int (0 : Int32)]) (rest := []) ⟨hx, hb, hml, hown, hts⟩ (c_X5_of l D cA cQ adM vM x3 (0 : Int32) u1 eu1 _) (cwV 2 hts gX5_spoilsIn_X5_of rfl rfl rfl (by decide +kernel) ⟨Nat.le_of_ble_eq_true rfl, Nat.le_of_ble_eq_true rfl⟩) (pV (ci := 5) (q := (RX5, TX5, 18)) hK hN hP hD [0, 1, 2, 3, 4, 5, 6, 7, 8, 9] rfl rfl rfl rfl) rfl rfl hl.1 rfl (lv_room (Nat.le_of_ble_eq_true rfl)) dX5_spoilsIn_69 ⟨Nat.zero_le _, Nat.zero_le _⟩) hP hD hS hA [0, 1, 2, 3, 4, 5, 6, 7, 8, 9] rfl rfl (ws' := (wM cA adM vM)) rfl (fun H locs hP hD hS => ?_)
        refine lv_iload_n hx hb dX5_spoilsIn_72 rfl (lv_at hl 2 rfl) ?_
        refine lv_icmp_ne (tgt := 91) hx hb dX5_spoilsIn_73 (by decide) (fun c2 => ?_) (fun c2 => ?_)
        · have h := (if_neg c2).symm.trans h
          refine lv_iload_n hx hb dX5_spoilsIn_91 rfl (lv_at hl 3 rfl) ?_
          refine lv_istore_n (lv' := [(2, .int x2), (4, .int t0), (0, .ref (adM 0)), (1, .int p1), (3, .int x3)]) hx hb dX5_spoilsIn_92 rfl hl (by decide) rfl (fun ls hl => ?_)
          refine lv_iinc (v := (x3 + (1 : Int32))) (lv' := [(3, .int (x3 + (1 : Int32))), (2, .int x2), (4, .int t0), (0, .ref (adM 0)), (1, .int p1)]) hx hb dX5_spoilsIn_93 hl (k := 4) rfl rfl (by decide) rfl (fun ls hl => ?_)
          refine lv_goto (tgt := 16) hx hb dX5_spoilsIn_96 (by decide) ?_
          exact ih16 x2 (x3 + (1 : Int32)) _ _ _ h hP hD hS (lv_sub hl [3, 4, 1, 0] rfl)
        · have h := (if_pos c2).symm.trans h
          refine lv_iload_n hx hb dX5_spoilsIn_76 rfl (lv_at hl 3 rfl) ?_
          refine lv_if_lt (tgt := 86) hx hb dX5_spoilsIn_77 (by decide) (fun c3 => ?_) (fun c3 => ?_)
          · have h := (if_pos c3).symm.trans h
            refine lv_iload hx hb dX5_spoilsIn_86 (lv_at hl 0 rfl) ?_
            refine lv_goto (tgt := 92) hx hb dX5_spoilsIn_88 (by decide) ?_
            refine lv_istore_n (lv' := [(2, .int t0), (4, .int t0), (0, .ref (adM 0)), (1, .int p1), (3, .int x3)]) hx hb dX5_spoilsIn_92 rfl hl (by decide) rfl (fun ls hl => ?_)
            refine lv_iinc (v := (x3 + (1 : Int32))) (lv' := [(3, .int (x3 + (1 : Int32))), (2, .int t0), (4, .int t0), (0, .ref (adM 0)), (1, .int p1)]) hx hb dX5_spoilsIn_93 hl (k := 4) rfl rfl (by decide) rfl (fun ls hl => ?_)
            refine lv_goto (tgt := 16) hx hb dX5_spoilsIn_96 (by decide) ?_
            exact ih16 t0 (x3 + (1 : Int32)) _ _ _ h hP hD hS (lv_sub hl [3, 4, 1, 0] rfl)
          · have h := (if_neg c3).symm.trans h
            refine lv_iload hx hb dX5_spoilsIn_80 (lv_at hl 0 rfl) ?_
            refine lv_iload_n hx hb dX5_spoilsIn_82 rfl (lv_at hl 3 rfl) ?_
            refine lv_icmp_ge (tgt := 91) hx hb dX5_spoilsIn_83 (by decide) (fun c4 => ?_) (fun c4 => ?_)
            · have h := (if_pos c4).symm.trans h
              refine lv_iload_n hx hb dX5_spoilsIn_91 rfl (lv_at hl 3 rfl) ?_
              refine lv_istore_n (lv' := [(2, .int x2), (4, .int t0), (0, .ref (adM 0)), (1, .int p1), (3, .int x3)]) hx hb dX5_spoilsIn_92 rfl hl (by decide) rfl (fun ls hl => ?_)
              refine lv_iinc (v := (x3 + (1 : Int32))) (lv' := [(3, .int (x3 + (1 : Int32))), (2, .int x2), (4, .int t0), (0, .ref (adM 0)), (1, .int p1)]) hx hb dX5_spoilsIn_93 hl (k := 4) rfl rfl (by decide) rfl (fun ls hl => ?_)
              refine lv_goto (tgt := 16) hx hb dX5_spoilsIn_96 (by decide) ?_
              exact ih16 x2 (x3 + (1 : Int32)) _ _ _ h hP hD hS (lv_sub hl [3, 4, 1, 0] rfl)
            · have h := (if_neg c4).symm.trans h
              refine lv_iload hx hb dX5_spoilsIn_86 (lv_at hl 0 rfl) ?_
              refine lv_goto (tgt := 92) hx hb dX5_spoilsIn_88 (by decide) ?_
              refine lv_istore_n (lv' := [(2, .int t0), (4, .int t0), (0, .ref (adM 0)), (1, .int p1), (3, .int x3)]) hx hb dX5_spoilsIn_92 rfl hl (by decide) rfl (fun ls hl => ?_)
              refine lv_iinc (v := (x3 + (1 : Int32))) (lv' := [(3, .int (x3 + (1 : Int32))), (2, .int t0), (4, .int t0), (0, .ref (adM 0)), (1, .int p1)]) hx hb dX5_spoilsIn_93 hl (k := 4) rfl rfl (by decide) rfl (fun ls hl => ?_)
              refine lv_goto (tgt := 16) hx hb dX5_spoilsIn_96 (by decide) ?_
              exact ih16 t0 (x3 + (1 : Int32)) _ _ _ h hP hD hS (lv_sub hl [3, 4, 1, 0] rfl)
      intro x2 x3 H locs ls h hP hD hS hl
      rw [X5_spoilsIn_l16] at h
      refine lv_iload_n hx hb dX5_spoilsIn_16 rfl (lv_at hl 3 rfl) ?_
      refine lv_aload_n hx hb dX5_spoilsIn_17 rfl (lv_at hl 0 rfl) ?_
      refine va_get (D := D) (ci := 5) (v := .ref (adM 1)) (C := RX5) (T := TX5) (N := 18) hx hb hts iw_X5_spoilsIn_X5 hown hK hP 0 rfl rfl 0 (by decide) (hts (.fieldLink RX5 7 "FavourRingsModel" "s" "[I") (List.mem_of_getElem? (i := 3) rfl)) (fun _ h9 => h9) rfl dX5_spoilsIn_18 ?_
      refine lv_sipush (v := (290 : Int32)) hx hb dX5_spoilsIn_21 (by decide) ?_
      obtain ⟨y5, ey5, h⟩ := bd_in h
      refine ldR hx hb hK hP 1 0 rfl rfl ey5 dX5_spoilsIn_24 ?_
      refine lv_icmp_ge (tgt := 99) hx hb dX5_spoilsIn_25 (by decide) (fun c6 => ?_) (fun c6 => ?_)
      · have h := (if_pos c6).symm.trans h
        refine lv_iload_n hx hb dX5_spoilsIn_99 rfl (lv_at hl 2 rfl) ?_
        cases h
        exact endI hx hb hr hlocks hP hS rfl dX5_spoilsIn_100
      · have h := (if_neg c6).symm.trans h
        refine lv_aload_n hx hb dX5_spoilsIn_28 rfl (lv_at hl 0 rfl) ?_
        refine va_get (D := D) (ci := 5) (v := .ref (adM 1)) (C := RX5) (T := TX5) (N := 18) hx hb hts iw_X5_spoilsIn_X5 hown hK hP 0 rfl rfl 0 (by decide) (hts (.fieldLink RX5 7 "FavourRingsModel" "s" "[I") (List.mem_of_getElem? (i := 3) rfl)) (fun _ h9 => h9) rfl dX5_spoilsIn_29 ?_
        refine lv_sipush (v := (298 : Int32)) hx hb dX5_spoilsIn_32 (by decide) ?_
        refine lv_aload_n hx hb dX5_spoilsIn_35 rfl (lv_at hl 0 rfl) ?_
        refine lv_iload_n hx hb dX5_spoilsIn_36 rfl (lv_at hl 3 rfl) ?_
        refine lv_iconst (v := (2 : Int32)) hx hb dX5_spoilsIn_37 (by decide) ?_
        obtain ⟨u7, eu7, h⟩ := bd_in h
        refine kI (va_runV (As := [.int x3, .int (2 : Int32)]) (rest := [.int (298 : Int32), .ref (adM 1)]) ⟨hx, hb, hml, hown, hts⟩ (c_X5_of l D cA cQ adM vM x3 (2 : Int32) u7 eu7 _) (cwV 2 hts gX5_spoilsIn_X5_of rfl rfl rfl (by decide +kernel) ⟨Nat.le_of_ble_eq_true rfl, Nat.le_of_ble_eq_true rfl⟩) (pV (ci := 5) (q := (RX5, TX5, 18)) hK hN hP hD [0, 1, 2, 3, 4, 5, 6, 7, 8, 9] rfl rfl rfl rfl) rfl rfl hl.1 rfl (lv_room (Nat.le_of_ble_eq_true rfl)) dX5_spoilsIn_38 ⟨Nat.zero_le _, Nat.zero_le _⟩) hP hD hS hA [0, 1, 2, 3, 4, 5, 6, 7, 8, 9] rfl rfl (ws' := (wM cA adM vM)) rfl (fun H locs hP hD hS => ?_)
        refine lv_iadd hx hb dX5_spoilsIn_41 ?_
        obtain ⟨y8, ey8, h⟩ := bd_in h
        refine ldR hx hb hK hP 1 0 rfl rfl ey8 dX5_spoilsIn_42 ?_
        refine lv_aload_n hx hb dX5_spoilsIn_43 rfl (lv_at hl 0 rfl) ?_
        refine lv_iload_n hx hb dX5_spoilsIn_44 rfl (lv_at hl 3 rfl) ?_
        refine lv_iconst (v := (4 : Int32)) hx hb dX5_spoilsIn_45 (by decide) ?_
        obtain ⟨u9, eu9, h⟩ := bd_in h
        refine kI (va_runV (As := [.int x3, .int (4 : Int32)]) (rest := [.int y8]) ⟨hx, hb, hml, hown, hts⟩ (c_X5_of l D cA cQ adM vM x3 (4 : Int32) u9 eu9 _) (cwV 2 hts gX5_spoilsIn_X5_of rfl rfl rfl (by decide +kernel) ⟨Nat.le_of_ble_eq_true rfl, Nat.le_of_ble_eq_true rfl⟩) (pV (ci := 5) (q := (RX5, TX5, 18)) hK hN hP hD [0, 1, 2, 3, 4, 5, 6, 7, 8, 9] rfl rfl rfl rfl) rfl rfl hl.1 rfl (lv_room (Nat.le_of_ble_eq_true rfl)) dX5_spoilsIn_46 ⟨Nat.zero_le _, Nat.zero_le _⟩) hP hD hS hA [0, 1, 2, 3, 4, 5, 6, 7, 8, 9] rfl rfl (ws' := (wM cA adM vM)) rfl (fun H locs hP hD hS => ?_)
        refine lv_isub hx hb dX5_spoilsIn_49 ?_
        refine lv_istore (lv' := [(4, .int (y8 - u9)), (0, .ref (adM 0)), (1, .int p1), (2, .int x2), (3, .int x3)]) hx hb dX5_spoilsIn_50 hl (by decide) rfl (fun ls hl => ?_)
        refine lv_iload hx hb dX5_spoilsIn_52 (lv_at hl 0 rfl) ?_
        refine lv_iconst (v := (1 : Int32)) hx hb dX5_spoilsIn_54 (by decide) ?_
        refine lv_icmp_ge (tgt := 62) hx hb dX5_spoilsIn_55 (by decide) (fun c10 => ?_) (fun c10 => ?_)
        · have h := (if_pos c10).symm.trans h
          refine lv_iload hx hb dX5_spoilsIn_62 (lv_at hl 0 rfl) ?_
          exact B64 x2 x3 (y8 - u9) _ _ _ h hP hD hS (lv_sub hl [1, 2, 3, 4] rfl)
        · have h := (if_neg c10).symm.trans h
          refine lv_iconst (v := (1 : Int32)) hx hb dX5_spoilsIn_58 (by decide) ?_
          refine lv_goto (tgt := 64) hx hb dX5_spoilsIn_59 (by decide) ?_
          exact B64 x2 x3 (1 : Int32) _ _ _ h hP hD hS (lv_sub hl [1, 2, 3, 4] rfl)
  have h := hf
  unfold X5_spoilsIn at h
  refine lv_aload_n hx hb dX5_spoilsIn_0 rfl (lv_at hl 0 rfl) ?_
  refine lv_iload_n hx hb dX5_spoilsIn_1 rfl (lv_at hl 1 rfl) ?_
  obtain ⟨u11, eu11, h⟩ := bd_in h
  refine kI (va_runV (As := [.int p1]) (rest := []) ⟨hx, hb, hml, hown, hts⟩ (c_X5_isPupil l D cA cQ adM vM p1 u11 eu11 _) (cwV 1 hts gX5_spoilsIn_X5_isPupil rfl rfl rfl (by decide +kernel) ⟨Nat.le_of_ble_eq_true rfl, Nat.le_of_ble_eq_true rfl⟩) (pV (ci := 5) (q := (RX5, TX5, 18)) hK hN hP hD [0, 1, 2, 3, 4, 5, 6, 7, 8, 9] rfl rfl rfl rfl) rfl rfl hl.1 rfl (lv_room (Nat.le_of_ble_eq_true rfl)) dX5_spoilsIn_2 ⟨Nat.zero_le _, Nat.zero_le _⟩) hP hD hS hA [0, 1, 2, 3, 4, 5, 6, 7, 8, 9] rfl rfl (ws' := (wM cA adM vM)) rfl (fun H locs hP hD hS => ?_)
  refine lv_if_ne (tgt := 11) hx hb dX5_spoilsIn_5 (by decide) (fun c12 => ?_) (fun c12 => ?_)
  · have h := (if_neg c12).symm.trans h
    refine lv_ldc (v := (-1000004 : Int32)) hx hb hown (hts (.constant RX5 57 (-1000004)) (List.mem_of_getElem? (i := 2) rfl)) dX5_spoilsIn_11 ?_
    refine lv_istore_n (lv' := [(2, .int (-1000004 : Int32)), (0, .ref (adM 0)), (1, .int p1)]) hx hb dX5_spoilsIn_13 rfl hl (by decide) rfl (fun ls hl => ?_)
    refine lv_iconst (v := (0 : Int32)) hx hb dX5_spoilsIn_14 (by decide) ?_
    refine lv_istore_n (lv' := [(3, .int (0 : Int32)), (2, .int (-1000004 : Int32)), (0, .ref (adM 0)), (1, .int p1)]) hx hb dX5_spoilsIn_15 rfl hl (by decide) rfl (fun ls hl => ?_)
    exact B16 FU (-1000004 : Int32) (0 : Int32) _ _ _ h hP hD hS (lv_sub hl [2, 3, 1, 0] rfl)
  · have h := (if_pos c12).symm.trans h
    refine lv_ldc (v := (-1000001 : Int32)) hx hb hown (hts (.constant RX5 86 (-1000001)) (List.mem_of_getElem? (i := 1) rfl)) dX5_spoilsIn_8 ?_
    cases h
    exact endI hx hb hr hlocks hP hS rfl dX5_spoilsIn_10
theorem iw_X5_type_X5 : ∀ w ∈ wsX50, w ∈ wsX5_type := fun _ h => List.mem_cons_of_mem _ (List.mem_append_right _ (h))
set_option maxHeartbeats 4000000 in
set_option maxRecDepth 100000 in
theorem c_X5_type (l : Launch) (D : va_G) (cA cQ : ClassId) (adM : Nat → Nat) (vM : St) (p1 : Int32) (o : Int32 × St) (hf : X5_type vM p1 = some o) : Cti l yX5_type wsX5_type ({ frames := 1, cells := 0, slots := 0, locals := 22 }) D (TY cA cQ) [.ref (adM 0), .int p1] (wM cA adM vM) (wM cA adM o.2) o.1 := by
  refine Wk.i (cc := cX5_type) (maxL := 2) (ret := (some .int)) (by decide) rfl (Nat.le_of_ble_eq_true rfl) ?_
  intro p e s m below meth c A ls hx hb hr hlocks hml hown hts hK hN hP hD hA hl
  have hown : s.vm.findClass RX5 = some m.cls := hown
  have hS : va_S A s.heap s.heap [] := va_S.rf
  have hl : lv_has ls 2 [(0, .ref (adM 0)), (1, .int p1)] := hl
  have h := hf
  unfold X5_type at h
  refine lv_iload_n hx hb dX5_type_0 rfl (lv_at hl 1 rfl) ?_
  refine lv_bipush (v := (32 : Int32)) hx hb dX5_type_1 (by decide) ?_
  refine lv_bipush (v := (126 : Int32)) hx hb dX5_type_3 (by decide) ?_
  obtain ⟨u1, eu1, h⟩ := bd_in h
  refine kI (va_runS (As := [.int p1, .int (32 : Int32), .int (126 : Int32)]) (rest := []) ⟨hx, hb, hml, hown, hts⟩ (c_X5_in l D cA cQ  p1 (32 : Int32) (126 : Int32) u1 eu1 _) (va_cwS 3 hts gX5_type_X5_in rfl rfl rfl (by decide +kernel) ⟨Nat.le_of_ble_eq_true rfl, Nat.le_of_ble_eq_true rfl⟩) (pS hK hN hP hD [] rfl rfl) rfl rfl hl.1 rfl (lv_room (Nat.le_of_ble_eq_true rfl)) dX5_type_5 ⟨Nat.zero_le _, Nat.zero_le _⟩) hP hD hS hA [] rfl rfl (ws' := (wM cA adM vM)) rfl (fun H locs hP hD hS => ?_)
  refine lv_if_ne (tgt := 14) hx hb dX5_type_8 (by decide) (fun c2 => ?_) (fun c2 => ?_)
  · have h := (if_neg c2).symm.trans h
    refine lv_aload_n hx hb dX5_type_14 rfl (lv_at hl 0 rfl) ?_
    refine va_get (D := D) (ci := 5) (v := .int (vM 99 7)) (C := RX5) (T := TX5) (N := 18) hx hb hts iw_X5_type_X5 hown hK hP 0 rfl rfl 7 (by decide) (hts (.fieldLink RX5 147 "FavourRingsModel" "typed" "I") (List.mem_of_getElem? (i := 2) rfl)) (fun _ h9 => h9) rfl dX5_type_15 ?_
    refine lv_bipush (v := (60 : Int32)) hx hb dX5_type_18 (by decide) ?_
    refine lv_icmp_ne (tgt := 26) hx hb dX5_type_20 (by decide) (fun c3 => ?_) (fun c3 => ?_)
    · have h := (if_neg c3).symm.trans h
      refine lv_aload_n hx hb dX5_type_26 rfl (lv_at hl 0 rfl) ?_
      refine va_get (D := D) (ci := 5) (v := .ref (adM 7)) (C := RX5) (T := TX5) (N := 18) hx hb hts iw_X5_type_X5 hown hK hP 0 rfl rfl 6 (by decide) (hts (.fieldLink RX5 22 "FavourRingsModel" "text" "[I") (List.mem_of_getElem? (i := 4) rfl)) (fun _ h9 => h9) rfl dX5_type_27 ?_
      refine lv_aload_n hx hb dX5_type_30 rfl (lv_at hl 0 rfl) ?_
      refine va_get (D := D) (ci := 5) (v := .int (vM 99 7)) (C := RX5) (T := TX5) (N := 18) hx hb hts iw_X5_type_X5 hown hK hP 0 rfl rfl 7 (by decide) (hts (.fieldLink RX5 147 "FavourRingsModel" "typed" "I") (List.mem_of_getElem? (i := 2) rfl)) (fun _ h9 => h9) rfl dX5_type_31 ?_
      refine lv_iload_n hx hb dX5_type_34 rfl (lv_at hl 1 rfl) ?_
      obtain ⟨g4, eg4, h⟩ := bd_in h
      refine stR hx hb hK hP hD hS 5 0 rfl rfl eg4 (ws' := (wM cA adM (setA vM 7 g4))) rfl dX5_type_35 (fun H locs hP hD hS => ?_)
      refine lv_aload_n hx hb dX5_type_36 rfl (lv_at hl 0 rfl) ?_
      refine lv_dup hx hb dX5_type_37 rfl ?_
      refine va_get (D := D) (ci := 5) (v := .int (vM 99 7)) (C := RX5) (T := TX5) (N := 18) hx hb hts iw_X5_type_X5 hown hK hP 0 rfl rfl 7 (by decide) (hts (.fieldLink RX5 147 "FavourRingsModel" "typed" "I") (List.mem_of_getElem? (i := 2) rfl)) (fun _ h9 => h9) rfl dX5_type_38 ?_
      refine lv_iconst (v := (1 : Int32)) hx hb dX5_type_41 (by decide) ?_
      refine lv_iadd hx hb dX5_type_42 ?_
      refine ptR (ci := 5) (v := .int ((vM 99 7) + (1 : Int32))) (ty := .int) (C := RX5) (T := TX5) (N := 18) hx hb hts iw_X5_type_X5 tyX5 tyX5_ok nmX5 hown hK hP hD hS 0 rfl rfl 7 (by decide) (hts (.fieldLink RX5 147 "FavourRingsModel" "typed" "I") (List.mem_of_getElem? (i := 2) rfl)) (fun _ h9 => h9) rfl (by decide +kernel) rfl rfl (Nat.le_of_ble_eq_true rfl) (ws' := (wM cA adM (setI (setA vM 7 g4) 7 ((vM 99 7) + (1 : Int32))))) rfl dX5_type_43 (fun H locs hP hD hS => ?_)
      refine lv_aload_n hx hb dX5_type_46 rfl (lv_at hl 0 rfl) ?_
      refine va_get (D := D) (ci := 5) (v := .int ((vM 99 7) + (1 : Int32))) (C := RX5) (T := TX5) (N := 18) hx hb hts iw_X5_type_X5 hown hK hP 0 rfl rfl 7 (by decide) (hts (.fieldLink RX5 147 "FavourRingsModel" "typed" "I") (List.mem_of_getElem? (i := 2) rfl)) (fun _ h9 => h9) rfl dX5_type_47 ?_
      cases h
      exact endI hx hb hr hlocks hP hS rfl dX5_type_50
    · have h := (if_pos c3).symm.trans h
      refine lv_ldc (v := (-1000003 : Int32)) hx hb hown (hts (.constant RX5 72 (-1000003)) (List.mem_of_getElem? (i := 3) rfl)) dX5_type_23 ?_
      cases h
      exact endI hx hb hr hlocks hP hS rfl dX5_type_25
  · have h := (if_pos c2).symm.trans h
    refine lv_ldc (v := (-1000001 : Int32)) hx hb hown (hts (.constant RX5 86 (-1000001)) (List.mem_of_getElem? (i := 1) rfl)) dX5_type_11 ?_
    cases h
    exact endI hx hb hr hlocks hP hS rfl dX5_type_13
theorem iw_X5_undo_X5 : ∀ w ∈ wsX50, w ∈ wsX5_undo := fun _ h => List.mem_cons_of_mem _ (List.mem_append_right _ (h))
set_option maxHeartbeats 4000000 in
set_option maxRecDepth 100000 in
theorem c_X5_undo (l : Launch) (D : va_G) (cA cQ : ClassId) (adM : Nat → Nat) (vM : St) (o : Int32 × St) (hf : X5_undo vM = some o) : Cti l yX5_undo wsX5_undo ({ frames := 0, cells := 0, slots := 0, locals := 0 }) D (TY cA cQ) [.ref (adM 0)] (wM cA adM vM) (wM cA adM o.2) o.1 := by
  refine Wk.i (cc := cX5_undo) (maxL := 2) (ret := (some .int)) (by decide) rfl (Nat.le_of_ble_eq_true rfl) ?_
  intro p e s m below meth c A ls hx hb hr hlocks hml hown hts hK hN hP hD hA hl
  have hown : s.vm.findClass RX5 = some m.cls := hown
  have hS : va_S A s.heap s.heap [] := va_S.rf
  have hl : lv_has ls 2 [(0, .ref (adM 0))] := hl
  have B22 : ∀ (fu22 : Nat) (vM : St) (x1 : Int32) (H : Heap) (locs : List Loc) (ls : Array Slot), X5_undo_l22 fu22 vM x1 = some o → va_P D vwCl (wM cA adM vM) H → va_D A (wM cA adM vM) → va_S A s.heap H locs → lv_has ls 2 [(0, .ref (adM 0)), (1, .int x1)] → W p l e (headSpec wsX5_undo ({ frames := 0, cells := 0, slots := 0, locals := 0 })).room s m ([.ref (adM 0)] : List Value).toArray below meth c H locs 0 0 (MQ below (QI D (wM cA adM o.2) o.1 A) ([.ref (adM 0)] : List Value).toArray s 0 0 A) (F0 m 22 ls []) := by
    intro fu22
    induction fu22 with
    | zero =>
      intro vM x1 H locs ls h hP hD hS hl
      cases h
    | succ fu22 ih22 =>
      intro vM x1 H locs ls h hP hD hS hl
      rw [X5_undo_l22] at h
      refine lv_iload_n hx hb dX5_undo_22 rfl (lv_at hl 1 rfl) ?_
      refine lv_sipush (v := (304 : Int32)) hx hb dX5_undo_23 (by decide) ?_
      refine lv_icmp_ge (tgt := 56) hx hb dX5_undo_26 (by decide) (fun c1 => ?_) (fun c1 => ?_)
      · have h := (if_pos c1).symm.trans h
        refine lv_aload_n hx hb dX5_undo_56 rfl (lv_at hl 0 rfl) ?_
        refine va_get (D := D) (ci := 5) (v := .int (vM 99 4)) (C := RX5) (T := TX5) (N := 18) hx hb hts iw_X5_undo_X5 hown hK hP 0 rfl rfl 4 (by decide) (hts (.fieldLink RX5 41 "FavourRingsModel" "pasts" "I") (List.mem_of_getElem? (i := 1) rfl)) (fun _ h9 => h9) rfl dX5_undo_57 ?_
        cases h
        exact endI hx hb hr hlocks hP hS rfl dX5_undo_60
      · have h := (if_neg c1).symm.trans h
        refine lv_aload_n hx hb dX5_undo_29 rfl (lv_at hl 0 rfl) ?_
        refine va_get (D := D) (ci := 5) (v := .ref (adM 1)) (C := RX5) (T := TX5) (N := 18) hx hb hts iw_X5_undo_X5 hown hK hP 0 rfl rfl 0 (by decide) (hts (.fieldLink RX5 7 "FavourRingsModel" "s" "[I") (List.mem_of_getElem? (i := 3) rfl)) (fun _ h9 => h9) rfl dX5_undo_30 ?_
        refine lv_iload_n hx hb dX5_undo_33 rfl (lv_at hl 1 rfl) ?_
        refine lv_aload_n hx hb dX5_undo_34 rfl (lv_at hl 0 rfl) ?_
        refine va_get (D := D) (ci := 5) (v := .ref (adM 2)) (C := RX5) (T := TX5) (N := 18) hx hb hts iw_X5_undo_X5 hown hK hP 0 rfl rfl 1 (by decide) (hts (.fieldLink RX5 13 "FavourRingsModel" "past" "[I") (List.mem_of_getElem? (i := 4) rfl)) (fun _ h9 => h9) rfl dX5_undo_35 ?_
        refine lv_sipush (v := (304 : Int32)) hx hb dX5_undo_38 (by decide) ?_
        refine lv_aload_n hx hb dX5_undo_41 rfl (lv_at hl 0 rfl) ?_
        refine va_get (D := D) (ci := 5) (v := .int (vM 99 4)) (C := RX5) (T := TX5) (N := 18) hx hb hts iw_X5_undo_X5 hown hK hP 0 rfl rfl 4 (by decide) (hts (.fieldLink RX5 41 "FavourRingsModel" "pasts" "I") (List.mem_of_getElem? (i := 1) rfl)) (fun _ h9 => h9) rfl dX5_undo_42 ?_
        refine lv_imul hx hb dX5_undo_45 ?_
        refine lv_iload_n hx hb dX5_undo_46 rfl (lv_at hl 1 rfl) ?_
        refine lv_iadd hx hb dX5_undo_47 ?_
        obtain ⟨y2, ey2, h⟩ := bd_in h
        refine ldR hx hb hK hP 2 0 rfl rfl ey2 dX5_undo_48 ?_
        obtain ⟨g3, eg3, h⟩ := bd_in h
        refine stR hx hb hK hP hD hS 1 0 rfl rfl eg3 (ws' := (wM cA adM (setA vM 1 g3))) rfl dX5_undo_49 (fun H locs hP hD hS => ?_)
        refine lv_iinc (v := (x1 + (1 : Int32))) (lv' := [(1, .int (x1 + (1 : Int32))), (0, .ref (adM 0))]) hx hb dX5_undo_50 hl (k := 1) rfl rfl (by decide) rfl (fun ls hl => ?_)
        refine lv_goto (tgt := 22) hx hb dX5_undo_53 (by decide) ?_
        exact ih22 (setA vM 1 g3) (x1 + (1 : Int32)) _ _ _ h hP hD hS (lv_sub hl [1, 0] rfl)
  have h := hf
  unfold X5_undo at h
  refine lv_aload_n hx hb dX5_undo_0 rfl (lv_at hl 0 rfl) ?_
  refine va_get (D := D) (ci := 5) (v := .int (vM 99 4)) (C := RX5) (T := TX5) (N := 18) hx hb hts iw_X5_undo_X5 hown hK hP 0 rfl rfl 4 (by decide) (hts (.fieldLink RX5 41 "FavourRingsModel" "pasts" "I") (List.mem_of_getElem? (i := 1) rfl)) (fun _ h9 => h9) rfl dX5_undo_1 ?_
  refine lv_if_ne (tgt := 10) hx hb dX5_undo_4 (by decide) (fun c4 => ?_) (fun c4 => ?_)
  · have h := (if_neg c4).symm.trans h
    refine lv_aload_n hx hb dX5_undo_10 rfl (lv_at hl 0 rfl) ?_
    refine lv_dup hx hb dX5_undo_11 rfl ?_
    refine va_get (D := D) (ci := 5) (v := .int (vM 99 4)) (C := RX5) (T := TX5) (N := 18) hx hb hts iw_X5_undo_X5 hown hK hP 0 rfl rfl 4 (by decide) (hts (.fieldLink RX5 41 "FavourRingsModel" "pasts" "I") (List.mem_of_getElem? (i := 1) rfl)) (fun _ h9 => h9) rfl dX5_undo_12 ?_
    refine lv_iconst (v := (1 : Int32)) hx hb dX5_undo_15 (by decide) ?_
    refine lv_isub hx hb dX5_undo_16 ?_
    refine ptR (ci := 5) (v := .int ((vM 99 4) - (1 : Int32))) (ty := .int) (C := RX5) (T := TX5) (N := 18) hx hb hts iw_X5_undo_X5 tyX5 tyX5_ok nmX5 hown hK hP hD hS 0 rfl rfl 4 (by decide) (hts (.fieldLink RX5 41 "FavourRingsModel" "pasts" "I") (List.mem_of_getElem? (i := 1) rfl)) (fun _ h9 => h9) rfl (by decide +kernel) rfl rfl (Nat.le_of_ble_eq_true rfl) (ws' := (wM cA adM (setI vM 4 ((vM 99 4) - (1 : Int32))))) rfl dX5_undo_17 (fun H locs hP hD hS => ?_)
    refine lv_iconst (v := (0 : Int32)) hx hb dX5_undo_20 (by decide) ?_
    refine lv_istore_n (lv' := [(1, .int (0 : Int32)), (0, .ref (adM 0))]) hx hb dX5_undo_21 rfl hl (by decide) rfl (fun ls hl => ?_)
    exact B22 FU (setI vM 4 ((vM 99 4) - (1 : Int32))) (0 : Int32) _ _ _ h hP hD hS (lv_sub hl [1, 0] rfl)
  · have h := (if_pos c4).symm.trans h
    refine lv_ldc (v := (-1000002 : Int32)) hx hb hown (hts (.constant RX5 90 (-1000002)) (List.mem_of_getElem? (i := 2) rfl)) dX5_undo_7 ?_
    cases h
    exact endI hx hb hr hlocks hP hS rfl dX5_undo_9
set_option maxHeartbeats 4000000 in
set_option maxRecDepth 100000 in
theorem c_X5_why (l : Launch) (D : va_G) (cA cQ : ClassId) (adM : Nat → Nat) (vM : St) (p1 : Int32) (p2 : Int32) (o : Int32) (hf : X5_why vM p1 p2 = some o) : Cti l yX5_why wsX5_why ({ frames := 3, cells := 0, slots := 0, locals := 68 }) D (TY cA cQ) [.ref (adM 0), .int p1, .int p2] (wM cA adM vM) (wM cA adM vM) o := by
  refine Wk.i (cc := cX5_why) (maxL := 3) (ret := (some .int)) (by decide) rfl (Nat.le_of_ble_eq_true rfl) ?_
  intro p e s m below meth c A ls hx hb hr hlocks hml hown hts hK hN hP hD hA hl
  have hown : s.vm.findClass RX5 = some m.cls := hown
  have hS : va_S A s.heap s.heap [] := va_S.rf
  have hl : lv_has ls 3 [(0, .ref (adM 0)), (1, .int p1), (2, .int p2)] := hl
  have h := hf
  unfold X5_why at h
  refine lv_aload_n hx hb dX5_why_0 rfl (lv_at hl 0 rfl) ?_
  refine lv_iload_n hx hb dX5_why_1 rfl (lv_at hl 1 rfl) ?_
  obtain ⟨u1, eu1, h⟩ := bd_in h
  refine kI (va_runV (As := [.int p1]) (rest := []) ⟨hx, hb, hml, hown, hts⟩ (c_X5_isPupil l D cA cQ adM vM p1 u1 eu1 _) (cwV 1 hts gX5_why_X5_isPupil rfl rfl rfl (by decide +kernel) ⟨Nat.le_of_ble_eq_true rfl, Nat.le_of_ble_eq_true rfl⟩) (pV (ci := 5) (q := (RX5, TX5, 18)) hK hN hP hD [0, 1, 2, 3, 4, 5, 6, 7, 8, 9] rfl rfl rfl rfl) rfl rfl hl.1 rfl (lv_room (Nat.le_of_ble_eq_true rfl)) dX5_why_2 ⟨Nat.zero_le _, Nat.zero_le _⟩) hP hD hS hA [0, 1, 2, 3, 4, 5, 6, 7, 8, 9] rfl rfl (ws' := (wM cA adM vM)) rfl (fun H locs hP hD hS => ?_)
  refine lv_if_eq (tgt := 27) hx hb dX5_why_5 (by decide) (fun c2 => ?_) (fun c2 => ?_)
  · have h := (if_pos c2).symm.trans h
    refine lv_ldc (v := (-1000001 : Int32)) hx hb hown (hts (.constant RX5 86 (-1000001)) (List.mem_of_getElem? (i := 1) rfl)) dX5_why_27 ?_
    cases h
    exact endI hx hb hr hlocks hP hS rfl dX5_why_29
  · have h := (if_neg c2).symm.trans h
    refine lv_iload_n hx hb dX5_why_8 rfl (lv_at hl 2 rfl) ?_
    refine lv_iconst (v := (1 : Int32)) hx hb dX5_why_9 (by decide) ?_
    refine lv_bipush (v := (9 : Int32)) hx hb dX5_why_10 (by decide) ?_
    obtain ⟨u3, eu3, h⟩ := bd_in h
    refine kI (va_runS (As := [.int p2, .int (1 : Int32), .int (9 : Int32)]) (rest := []) ⟨hx, hb, hml, hown, hts⟩ (c_X5_in l D cA cQ  p2 (1 : Int32) (9 : Int32) u3 eu3 _) (va_cwS 3 hts gX5_why_X5_in rfl rfl rfl (by decide +kernel) ⟨Nat.le_of_ble_eq_true rfl, Nat.le_of_ble_eq_true rfl⟩) (pS hK hN hP hD [] rfl rfl) rfl rfl hl.1 rfl (lv_room (Nat.le_of_ble_eq_true rfl)) dX5_why_12 ⟨Nat.zero_le _, Nat.zero_le _⟩) hP hD hS hA [] rfl rfl (ws' := (wM cA adM vM)) rfl (fun H locs hP hD hS => ?_)
    refine lv_if_eq (tgt := 27) hx hb dX5_why_15 (by decide) (fun c4 => ?_) (fun c4 => ?_)
    · have h := (if_pos c4).symm.trans h
      refine lv_ldc (v := (-1000001 : Int32)) hx hb hown (hts (.constant RX5 86 (-1000001)) (List.mem_of_getElem? (i := 1) rfl)) dX5_why_27 ?_
      cases h
      exact endI hx hb hr hlocks hP hS rfl dX5_why_29
    · have h := (if_neg c4).symm.trans h
      refine lv_aload_n hx hb dX5_why_18 rfl (lv_at hl 0 rfl) ?_
      refine lv_iload_n hx hb dX5_why_19 rfl (lv_at hl 1 rfl) ?_
      refine lv_iload_n hx hb dX5_why_20 rfl (lv_at hl 2 rfl) ?_
      obtain ⟨u5, eu5, h⟩ := bd_in h
      refine kI (va_runV (As := [.int p1, .int p2]) (rest := []) ⟨hx, hb, hml, hown, hts⟩ (c_X5_barred l D cA cQ adM vM p1 p2 u5 eu5 _) (cwV 2 hts gX5_why_X5_barred rfl rfl rfl (by decide +kernel) ⟨Nat.le_of_ble_eq_true rfl, Nat.le_of_ble_eq_true rfl⟩) (pV (ci := 5) (q := (RX5, TX5, 18)) hK hN hP hD [0, 1, 2, 3, 4, 5, 6, 7, 8, 9] rfl rfl rfl rfl) rfl rfl hl.1 rfl (lv_room (Nat.le_of_ble_eq_true rfl)) dX5_why_21 ⟨Nat.zero_le _, Nat.zero_le _⟩) hP hD hS hA [0, 1, 2, 3, 4, 5, 6, 7, 8, 9] rfl rfl (ws' := (wM cA adM vM)) rfl (fun H locs hP hD hS => ?_)
      refine lv_goto (tgt := 29) hx hb dX5_why_24 (by decide) ?_
      cases h
      exact endI hx hb hr hlocks hP hS rfl dX5_why_29
set_option maxHeartbeats 4000000 in
set_option maxRecDepth 100000 in
theorem c_X4_bitsOf (l : Launch) (D : va_G) (cA cQ : ClassId) (p0 : UInt32) (o : Int32) (hf : X4_bitsOf p0 = some o) : Cti l yX4_bitsOf wsX4_bitsOf ({ frames := 0, cells := 0, slots := 0, locals := 0 }) D (TY cA cQ) [.float p0] ([] : va_W) ([] : va_W) o := by
  refine Wk.i (cc := cX4_bitsOf) (maxL := 4) (ret := (some .int)) (by decide) rfl (Nat.le_of_ble_eq_true rfl) ?_
  intro p e s m below meth c A ls hx hb hr hlocks hml hown hts hK hN hP hD hA hl
  have hown : s.vm.findClass RX4 = some m.cls := hown
  have hS : va_S A s.heap s.heap [] := va_S.rf
  have hl : lv_has ls 4 [(0, .float p0)] := hl
  have B67 : ∀ (x1 : UInt32) (x2 : Int32) (H : Heap) (locs : List Loc) (ls : Array Slot), X4_bitsOf_b67 p0 x1 x2 = some o → va_P D vwCl ([] : va_W) H → va_D A ([] : va_W) → va_S A s.heap H locs → lv_has ls 4 [(1, .float x1), (2, .int x2)] → W p l e (headSpec wsX4_bitsOf ({ frames := 0, cells := 0, slots := 0, locals := 0 })).room s m ([.float p0] : List Value).toArray below meth c H locs 0 0 (MQ below (QI D ([] : va_W) o A) ([.float p0] : List Value).toArray s 0 0 A) (F0 m 67 ls []) := by
    intro x1 x2 H locs ls h hP hD hS hl
    unfold X4_bitsOf_b67 at h
    refine lv_iload_n hx hb dX4_bitsOf_67 rfl (lv_at hl 1 rfl) ?_
    refine lv_bipush (v := (23 : Int32)) hx hb dX4_bitsOf_68 (by decide) ?_
    refine lv_ishl hx hb dX4_bitsOf_70 ?_
    refine lv_fload_n hx hb dX4_bitsOf_71 rfl (lv_at hl 0 rfl) ?_
    refine lv_fconst1 hx hb dX4_bitsOf_72 ?_
    obtain ⟨z1, ez1, h⟩ := bd_in h
    refine fsubR hx hb ez1 dX4_bitsOf_73 ?_
    refine lv_ldcf (v := (1258291200)) hx hb hown (hts (.constantFloat RX4 193 (1258291200)) (List.mem_of_getElem? (i := 1) rfl)) dX4_bitsOf_74 ?_
    obtain ⟨z2, ez2, h⟩ := bd_in h
    refine fmulR hx hb ez2 dX4_bitsOf_76 ?_
    refine lv_f2i hx hb dX4_bitsOf_77 ?_
    refine lv_iadd hx hb dX4_bitsOf_78 ?_
    cases h
    exact endI hx hb hr hlocks hP hS rfl dX4_bitsOf_79
  have B42 : ∀ (fu42 : Nat) (x1 : UInt32) (x2 : Int32) (x3 : Int32) (H : Heap) (locs : List Loc) (ls : Array Slot), X4_bitsOf_l42 p0 fu42 x1 x2 x3 = some o → va_P D vwCl ([] : va_W) H → va_D A ([] : va_W) → va_S A s.heap H locs → lv_has ls 4 [(1, .float x1), (2, .int x2), (3, .int x3)] → W p l e (headSpec wsX4_bitsOf ({ frames := 0, cells := 0, slots := 0, locals := 0 })).room s m ([.float p0] : List Value).toArray below meth c H locs 0 0 (MQ below (QI D ([] : va_W) o A) ([.float p0] : List Value).toArray s 0 0 A) (F0 m 42 ls []) := by
    intro fu42
    induction fu42 with
    | zero =>
      intro x1 x2 x3 H locs ls h hP hD hS hl
      cases h
    | succ fu42 ih42 =>
      intro x1 x2 x3 H locs ls h hP hD hS hl
      rw [X4_bitsOf_l42] at h
      refine lv_iload_n hx hb dX4_bitsOf_42 rfl (lv_at hl 2 rfl) ?_
      refine lv_bipush (v := (126 : Int32)) hx hb dX4_bitsOf_43 (by decide) ?_
      refine lv_icmp_ge (tgt := 67) hx hb dX4_bitsOf_45 (by decide) (fun c3 => ?_) (fun c3 => ?_)
      · have h := (if_pos c3).symm.trans h
        exact B67 x1 x2 _ _ _ h hP hD hS (lv_sub hl [0, 1] rfl)
      · have h := (if_neg c3).symm.trans h
        refine lv_fload_n hx hb dX4_bitsOf_48 rfl (lv_at hl 0 rfl) ?_
        refine lv_fconst1 hx hb dX4_bitsOf_49 ?_
        refine lv_fcmp hx hb dX4_bitsOf_50 ?_
        refine lv_if_ge (tgt := 67) hx hb dX4_bitsOf_51 (by decide) (fun c4 => ?_) (fun c4 => ?_)
        · have h := (if_pos c4).symm.trans h
          exact B67 x1 x2 _ _ _ h hP hD hS (lv_sub hl [0, 1] rfl)
        · have h := (if_neg c4).symm.trans h
          refine lv_fload_n hx hb dX4_bitsOf_54 rfl (lv_at hl 0 rfl) ?_
          refine lv_fconst2 hx hb dX4_bitsOf_55 ?_
          obtain ⟨z5, ez5, h⟩ := bd_in h
          refine fmulR hx hb ez5 dX4_bitsOf_56 ?_
          refine lv_fstore_n (lv' := [(1, .float z5), (2, .int x2), (3, .int x3)]) hx hb dX4_bitsOf_57 rfl hl (by decide) rfl (fun ls hl => ?_)
          refine lv_iinc (v := (x2 + (-1 : Int32))) (lv' := [(2, .int (x2 + (-1 : Int32))), (1, .float z5), (3, .int x3)]) hx hb dX4_bitsOf_58 hl (k := 1) rfl rfl (by decide) rfl (fun ls hl => ?_)
          refine lv_iinc (v := (x3 + (1 : Int32))) (lv' := [(3, .int (x3 + (1 : Int32))), (2, .int (x2 + (-1 : Int32))), (1, .float z5)]) hx hb dX4_bitsOf_61 hl (k := 2) rfl rfl (by decide) rfl (fun ls hl => ?_)
          refine lv_goto (tgt := 42) hx hb dX4_bitsOf_64 (by decide) ?_
          exact ih42 z5 (x2 + (-1 : Int32)) (x3 + (1 : Int32)) _ _ _ h hP hD hS (lv_sub hl [2, 1, 0] rfl)
  have B15 : ∀ (fu15 : Nat) (x1 : UInt32) (x2 : Int32) (x3 : Int32) (H : Heap) (locs : List Loc) (ls : Array Slot), X4_bitsOf_l15 p0 fu15 x1 x2 x3 = some o → va_P D vwCl ([] : va_W) H → va_D A ([] : va_W) → va_S A s.heap H locs → lv_has ls 4 [(1, .float x1), (2, .int x2), (3, .int x3)] → W p l e (headSpec wsX4_bitsOf ({ frames := 0, cells := 0, slots := 0, locals := 0 })).room s m ([.float p0] : List Value).toArray below meth c H locs 0 0 (MQ below (QI D ([] : va_W) o A) ([.float p0] : List Value).toArray s 0 0 A) (F0 m 15 ls []) := by
    intro fu15
    induction fu15 with
    | zero =>
      intro x1 x2 x3 H locs ls h hP hD hS hl
      cases h
    | succ fu15 ih15 =>
      intro x1 x2 x3 H locs ls h hP hD hS hl
      rw [X4_bitsOf_l15] at h
      refine lv_iload_n hx hb dX4_bitsOf_15 rfl (lv_at hl 2 rfl) ?_
      refine lv_bipush (v := (127 : Int32)) hx hb dX4_bitsOf_16 (by decide) ?_
      refine lv_icmp_ge (tgt := 40) hx hb dX4_bitsOf_18 (by decide) (fun c6 => ?_) (fun c6 => ?_)
      · have h := (if_pos c6).symm.trans h
        refine lv_iconst (v := (0 : Int32)) hx hb dX4_bitsOf_40 (by decide) ?_
        refine lv_istore_n (lv' := [(3, .int (0 : Int32)), (1, .float x1), (2, .int x2)]) hx hb dX4_bitsOf_41 rfl hl (by decide) rfl (fun ls hl => ?_)
        exact B42 FU x1 x2 (0 : Int32) _ _ _ h hP hD hS (lv_sub hl [1, 2, 0] rfl)
      · have h := (if_neg c6).symm.trans h
        refine lv_fload_n hx hb dX4_bitsOf_21 rfl (lv_at hl 0 rfl) ?_
        refine lv_fconst2 hx hb dX4_bitsOf_22 ?_
        refine lv_fcmp hx hb dX4_bitsOf_23 ?_
        refine lv_if_lt (tgt := 40) hx hb dX4_bitsOf_24 (by decide) (fun c7 => ?_) (fun c7 => ?_)
        · have h := (if_pos c7).symm.trans h
          refine lv_iconst (v := (0 : Int32)) hx hb dX4_bitsOf_40 (by decide) ?_
          refine lv_istore_n (lv' := [(3, .int (0 : Int32)), (1, .float x1), (2, .int x2)]) hx hb dX4_bitsOf_41 rfl hl (by decide) rfl (fun ls hl => ?_)
          exact B42 FU x1 x2 (0 : Int32) _ _ _ h hP hD hS (lv_sub hl [1, 2, 0] rfl)
        · have h := (if_neg c7).symm.trans h
          refine lv_fload_n hx hb dX4_bitsOf_27 rfl (lv_at hl 0 rfl) ?_
          refine lv_fconst2 hx hb dX4_bitsOf_28 ?_
          obtain ⟨z8, ez8, h⟩ := bd_in h
          refine fdivR hx hb ez8 dX4_bitsOf_29 ?_
          refine lv_fstore_n (lv' := [(1, .float z8), (2, .int x2), (3, .int x3)]) hx hb dX4_bitsOf_30 rfl hl (by decide) rfl (fun ls hl => ?_)
          refine lv_iinc (v := (x2 + (1 : Int32))) (lv' := [(2, .int (x2 + (1 : Int32))), (1, .float z8), (3, .int x3)]) hx hb dX4_bitsOf_31 hl (k := 1) rfl rfl (by decide) rfl (fun ls hl => ?_)
          refine lv_iinc (v := (x3 + (1 : Int32))) (lv' := [(3, .int (x3 + (1 : Int32))), (2, .int (x2 + (1 : Int32))), (1, .float z8)]) hx hb dX4_bitsOf_34 hl (k := 2) rfl rfl (by decide) rfl (fun ls hl => ?_)
          refine lv_goto (tgt := 15) hx hb dX4_bitsOf_37 (by decide) ?_
          exact ih15 z8 (x2 + (1 : Int32)) (x3 + (1 : Int32)) _ _ _ h hP hD hS (lv_sub hl [2, 1, 0] rfl)
  have h := hf
  unfold X4_bitsOf at h
  refine lv_fload_n hx hb dX4_bitsOf_0 rfl (lv_at hl 0 rfl) ?_
  refine lv_fconst0 hx hb dX4_bitsOf_1 ?_
  refine lv_fcmp hx hb dX4_bitsOf_2 ?_
  refine lv_if_gt (tgt := 8) hx hb dX4_bitsOf_3 (by decide) (fun c9 => ?_) (fun c9 => ?_)
  · have h := (if_pos c9).symm.trans h
    refine lv_fload_n hx hb dX4_bitsOf_8 rfl (lv_at hl 0 rfl) ?_
    refine lv_fstore_n (lv' := [(1, .float p0), (0, .float p0)]) hx hb dX4_bitsOf_9 rfl hl (by decide) rfl (fun ls hl => ?_)
    refine lv_bipush (v := (127 : Int32)) hx hb dX4_bitsOf_10 (by decide) ?_
    refine lv_istore_n (lv' := [(2, .int (127 : Int32)), (1, .float p0), (0, .float p0)]) hx hb dX4_bitsOf_12 rfl hl (by decide) rfl (fun ls hl => ?_)
    refine lv_iconst (v := (0 : Int32)) hx hb dX4_bitsOf_13 (by decide) ?_
    refine lv_istore_n (lv' := [(3, .int (0 : Int32)), (2, .int (127 : Int32)), (1, .float p0), (0, .float p0)]) hx hb dX4_bitsOf_14 rfl hl (by decide) rfl (fun ls hl => ?_)
    exact B15 FU p0 (127 : Int32) (0 : Int32) _ _ _ h hP hD hS (lv_sub hl [2, 1, 0] rfl)
  · have h := (if_neg c9).symm.trans h
    refine lv_iconst (v := (0 : Int32)) hx hb dX4_bitsOf_6 (by decide) ?_
    cases h
    exact endI hx hb hr hlocks hP hS rfl dX4_bitsOf_7
theorem iw_X4_mean_X4 : ∀ w ∈ wsX40, w ∈ wsX4_mean := fun _ h => List.mem_cons_of_mem _ (List.mem_append_left _ (List.mem_append_right _ (h)))
set_option maxHeartbeats 4000000 in
set_option maxRecDepth 100000 in
theorem c_X4_mean (l : Launch) (D : va_G) (cA cQ : ClassId) (adF : Nat) (adB : Nat → Nat) (adT : Nat → Nat) (adH : Nat → Nat) (kH : Nat → Nat → Nat) (adR : Nat → Nat) (adO : Nat → Nat) (vB : St) (vT : St) (vH : St) (bH : Nat → St) (vR : St) (vO : St) (o : Int32) (hf : X4_mean vB vT vH bH vR vO = some o) : Cti l yX4_mean wsX4_mean ({ frames := 2, cells := 0, slots := 0, locals := 49 }) D (TY cA cQ) [.ref adF] (wF cA cQ adF adB adT adH kH adR adO vB vT vH bH vR vO) (wF cA cQ adF adB adT adH kH adR adO vB vT vH bH vR vO) o := by
  refine Wk.i (cc := cX4_mean) (maxL := 2) (ret := (some .int)) (by decide) rfl (Nat.le_of_ble_eq_true rfl) ?_
  intro p e s m below meth c A ls hx hb hr hlocks hml hown hts hK hN hP hD hA hl
  have hown : s.vm.findClass RX4 = some m.cls := hown
  have hS : va_S A s.heap s.heap [] := va_S.rf
  have hl : lv_has ls 2 [(0, .ref adF)] := hl
  have h := hf
  unfold X4_mean at h
  refine lv_aload_n hx hb dX4_mean_0 rfl (lv_at hl 0 rfl) ?_
  refine va_get (D := D) (ci := 4) (v := .ref (adB 0)) (C := RX4) (T := TX4) (N := 5) hx hb hts iw_X4_mean_X4 hown hK hP 0 rfl rfl 0 (by decide) (hts (.fieldLink RX4 10 "FavourRings" "bank" "LFavourRings$Bank;") (List.mem_of_getElem? (i := 1) rfl)) (fun _ h9 => h9) rfl dX4_mean_1 ?_
  refine lv_iconst (v := (-1 : Int32)) hx hb dX4_mean_4 (by decide) ?_
  refine lv_iconst (v := (-1 : Int32)) hx hb dX4_mean_5 (by decide) ?_
  refine lv_iconst (v := (-1 : Int32)) hx hb dX4_mean_6 (by decide) ?_
  obtain ⟨u1, eu1, h⟩ := bd_in h
  refine kI (va_runV (As := [.int (-1 : Int32), .int (-1 : Int32), .int (-1 : Int32)]) (rest := []) ⟨hx, hb, hml, hown, hts⟩ (c_X0_sumOwed l D cA cQ adB vB (-1 : Int32) (-1 : Int32) (-1 : Int32) u1 eu1 _) (cwV 3 hts gX4_mean_X0_sumOwed rfl rfl rfl (by decide +kernel) ⟨Nat.le_of_ble_eq_true rfl, Nat.le_of_ble_eq_true rfl⟩) (pV (ci := 0) (q := (RX0, TX0, 13)) hK hN hP hD [1, 2, 3, 4, 5, 6, 7, 8, 9, 10, 11, 12, 13, 14] rfl rfl rfl rfl) rfl rfl hl.1 rfl (lv_room (Nat.le_of_ble_eq_true rfl)) dX4_mean_7 ⟨Nat.zero_le _, Nat.zero_le _⟩) hP hD hS hA [1, 2, 3, 4, 5, 6, 7, 8, 9, 10, 11, 12, 13, 14] rfl rfl (ws' := (wF cA cQ adF adB adT adH kH adR adO vB vT vH bH vR vO)) rfl (fun H locs hP hD hS => ?_)
  refine lv_istore_n (lv' := [(1, .int u1), (0, .ref adF)]) hx hb dX4_mean_10 rfl hl (by decide) rfl (fun ls hl => ?_)
  refine lv_iload_n hx hb dX4_mean_11 rfl (lv_at hl 0 rfl) ?_
  refine lv_if_gt (tgt := 18) hx hb dX4_mean_12 (by decide) (fun c2 => ?_) (fun c2 => ?_)
  · have h := (if_pos c2).symm.trans h
    refine lv_aload_n hx hb dX4_mean_18 rfl (lv_at hl 1 rfl) ?_
    refine va_get (D := D) (ci := 4) (v := .ref (adB 0)) (C := RX4) (T := TX4) (N := 5) hx hb hts iw_X4_mean_X4 hown hK hP 0 rfl rfl 0 (by decide) (hts (.fieldLink RX4 10 "FavourRings" "bank" "LFavourRings$Bank;") (List.mem_of_getElem? (i := 1) rfl)) (fun _ h9 => h9) rfl dX4_mean_19 ?_
    obtain ⟨u3, eu3, h⟩ := bd_in h
    refine kI (va_runV (As := []) (rest := []) ⟨hx, hb, hml, hown, hts⟩ (c_X0_sumOfAges l D cA cQ adB vB u3 eu3 _) (cwV 0 hts gX4_mean_X0_sumOfAges rfl rfl rfl (by decide +kernel) ⟨Nat.le_of_ble_eq_true rfl, Nat.le_of_ble_eq_true rfl⟩) (pV (ci := 0) (q := (RX0, TX0, 13)) hK hN hP hD [1, 2, 3, 4, 5, 6, 7, 8, 9, 10, 11, 12, 13, 14] rfl rfl rfl rfl) rfl rfl hl.1 rfl (lv_room (Nat.le_of_ble_eq_true rfl)) dX4_mean_22 ⟨Nat.zero_le _, Nat.zero_le _⟩) hP hD hS hA [1, 2, 3, 4, 5, 6, 7, 8, 9, 10, 11, 12, 13, 14] rfl rfl (ws' := (wF cA cQ adF adB adT adH kH adR adO vB vT vH bH vR vO)) rfl (fun H locs hP hD hS => ?_)
    refine lv_i2f hx hb dX4_mean_25 ?_
    refine lv_iload_n hx hb dX4_mean_26 rfl (lv_at hl 0 rfl) ?_
    refine lv_i2f hx hb dX4_mean_27 ?_
    obtain ⟨z4, ez4, h⟩ := bd_in h
    refine fdivR hx hb ez4 dX4_mean_28 ?_
    obtain ⟨u5, eu5, h⟩ := bd_in h
    refine kI (va_runS (As := [.float z4]) (rest := []) ⟨hx, hb, hml, hown, hts⟩ (c_X4_bitsOf l D cA cQ  z4 u5 eu5 _) (va_cwS 1 hts gX4_mean_X4_bitsOf rfl rfl rfl (by decide +kernel) ⟨Nat.le_of_ble_eq_true rfl, Nat.le_of_ble_eq_true rfl⟩) (pS hK hN hP hD [] rfl rfl) rfl rfl hl.1 rfl (lv_room (Nat.le_of_ble_eq_true rfl)) dX4_mean_29 ⟨Nat.zero_le _, Nat.zero_le _⟩) hP hD hS hA [] rfl rfl (ws' := (wF cA cQ adF adB adT adH kH adR adO vB vT vH bH vR vO)) rfl (fun H locs hP hD hS => ?_)
    cases h
    exact endI hx hb hr hlocks hP hS rfl dX4_mean_32
  · have h := (if_neg c2).symm.trans h
    refine lv_ldc (v := (-1000004 : Int32)) hx hb hown (hts (.constant RX4 98 (-1000004)) (List.mem_of_getElem? (i := 2) rfl)) dX4_mean_15 ?_
    cases h
    exact endI hx hb hr hlocks hP hS rfl dX4_mean_17
set_option maxHeartbeats 4000000 in
set_option maxRecDepth 100000 in
theorem c_Jxf58ca_isNaN_12338 (l : Launch) (D : va_G) (cA cQ : ClassId) (p0 : UInt32) (o : Int32) (hf : Jxf58ca_isNaN_12338 p0 = some o) : Cti l yJxf58ca_isNaN_12338 wsJxf58ca_isNaN_12338 ({ frames := 0, cells := 0, slots := 0, locals := 0 }) D (TY cA cQ) [.float p0] ([] : va_W) ([] : va_W) o := by
  refine WkF.i (cc := cJxf58ca_isNaN_12338) (maxL := 1) (ret := (some .boolean)) (by decide +kernel) rfl (Nat.le_of_ble_eq_true rfl) ?_
  intro p e s m below meth c A ls hx hb hr hlocks hml hown hts hK hN hP hD hA hl
  have hown : s.vm.findClass RJxf58ca = some m.cls := hown
  have hS : va_S A s.heap s.heap [] := va_S.rf
  have hl : lv_has ls 1 [(0, .float p0)] := hl
  have h := hf
  unfold Jxf58ca_isNaN_12338 at h
  refine lv_fload_n hx hb dJxf58ca_isNaN_12338_0 rfl (lv_at hl 0 rfl) ?_
  refine lv_fload_n hx hb dJxf58ca_isNaN_12338_1 rfl (lv_at hl 0 rfl) ?_
  refine lv_fcmp hx hb dJxf58ca_isNaN_12338_2 ?_
  refine lv_if_eq (tgt := 10) hx hb dJxf58ca_isNaN_12338_3 (by decide) (fun c1 => ?_) (fun c1 => ?_)
  · have h := (if_pos c1).symm.trans h
    refine lv_iconst (v := (0 : Int32)) hx hb dJxf58ca_isNaN_12338_10 (by decide) ?_
    cases h
    exact endZ hx hb hr hlocks hP hS ⟨rfl, rfl⟩ dJxf58ca_isNaN_12338_11
  · have h := (if_neg c1).symm.trans h
    refine lv_iconst (v := (1 : Int32)) hx hb dJxf58ca_isNaN_12338_6 (by decide) ?_
    refine lv_goto (tgt := 11) hx hb dJxf58ca_isNaN_12338_7 (by decide) ?_
    cases h
    exact endZ hx hb hr hlocks hP hS ⟨rfl, rfl⟩ dJxf58ca_isNaN_12338_11
set_option maxHeartbeats 4000000 in
set_option maxRecDepth 100000 in
theorem c_Jxf58ca_floatToIntBits_5c35a (l : Launch) (D : va_G) (cA cQ : ClassId) (p0 : UInt32) (o : Int32) (hf : Jxf58ca_floatToIntBits_5c35a p0 = some o) : Cti l yJxf58ca_floatToIntBits_5c35a wsJxf58ca_floatToIntBits_5c35a ({ frames := 1, cells := 0, slots := 0, locals := 23 }) D (TY cA cQ) [.float p0] ([] : va_W) ([] : va_W) o := by
  refine WkF.i (cc := cJxf58ca_floatToIntBits_5c35a) (maxL := 1) (ret := (some .int)) (by decide +kernel) rfl (Nat.le_of_ble_eq_true rfl) ?_
  intro p e s m below meth c A ls hx hb hr hlocks hml hown hts hK hN hP hD hA hl
  have hown : s.vm.findClass RJxf58ca = some m.cls := hown
  have hS : va_S A s.heap s.heap [] := va_S.rf
  have hl : lv_has ls 1 [(0, .float p0)] := hl
  have h := hf
  unfold Jxf58ca_floatToIntBits_5c35a at h
  refine lv_fload_n hx hb dJxf58ca_floatToIntBits_5c35a_0 rfl (lv_at hl 0 rfl) ?_
  obtain ⟨u1, eu1, h⟩ := bd_in h
  refine kI (va_runS (As := [.float p0]) (rest := []) ⟨hx, hb, hml, hown, hts⟩ (c_Jxf58ca_isNaN_12338 l D cA cQ  p0 u1 eu1 _) (va_cwS 1 hts gJxf58ca_floatToIntBits_5c35a_Jxf58ca_isNaN_12338 rfl rfl rfl (by decide +kernel) ⟨Nat.le_of_ble_eq_true rfl, Nat.le_of_ble_eq_true rfl⟩) (pS hK hN hP hD [] rfl rfl) rfl rfl hl.1 rfl (lv_room (Nat.le_of_ble_eq_true rfl)) dJxf58ca_floatToIntBits_5c35a_1 ⟨Nat.zero_le _, Nat.zero_le _⟩) hP hD hS hA [] rfl rfl (ws' := ([] : va_W)) rfl (fun H locs hP hD hS => ?_)
  refine lv_if_ne (tgt := 12) hx hb dJxf58ca_floatToIntBits_5c35a_4 (by decide) (fun c2 => ?_) (fun c2 => ?_)
  · have h := (if_neg c2).symm.trans h
    refine lv_ldc (v := (2143289344 : Int32)) hx hb hown (hts (.constant RJxf58ca 77 (2143289344)) (List.mem_of_getElem? (i := 5) rfl)) dJxf58ca_floatToIntBits_5c35a_12 ?_
    cases h
    exact endI hx hb hr hlocks hP hS rfl dJxf58ca_floatToIntBits_5c35a_14
  · have h := (if_pos c2).symm.trans h
    refine lv_fload_n hx hb dJxf58ca_floatToIntBits_5c35a_7 rfl (lv_at hl 0 rfl) ?_
    refine vn_f2i hx hb (hml.trans hl.1.symm) hown (hts (.methodLink RJxf58ca 74 ⟨"java/lang/Float", "floatToRawIntBits", "(F)I"⟩) (List.mem_of_getElem? (i := 1) rfl)) (hts (.native ⟨"java/lang/Float", "floatToRawIntBits", "(F)I"⟩) (List.mem_of_getElem? (i := 2) rfl)) (hts (.static ⟨"java/lang/Float", "floatToRawIntBits", "(F)I"⟩) (List.mem_of_getElem? (i := 3) rfl)) (hts (.initialized "java/lang/Float") (List.mem_of_getElem? (i := 4) rfl)) (Nat.le_of_ble_eq_true rfl) (Nat.le_of_ble_eq_true rfl) dJxf58ca_floatToIntBits_5c35a_8 ?_
    cases h
    exact endI hx hb hr hlocks hP hS rfl dJxf58ca_floatToIntBits_5c35a_11
theorem iw_X5_mean_X5 : ∀ w ∈ wsX50, w ∈ wsX5_mean := fun _ h => List.mem_cons_of_mem _ (List.mem_append_right _ (h))
set_option maxHeartbeats 4000000 in
set_option maxRecDepth 100000 in
theorem c_X5_mean (l : Launch) (D : va_G) (cA cQ : ClassId) (adM : Nat → Nat) (vM : St) (o : Int32) (hf : X5_mean vM = some o) : Cti l yX5_mean wsX5_mean ({ frames := 2, cells := 0, slots := 0, locals := 44 }) D (TY cA cQ) [.ref (adM 0)] (wM cA adM vM) (wM cA adM vM) o := by
  refine Wk.i (cc := cX5_mean) (maxL := 4) (ret := (some .int)) (by decide) rfl (Nat.le_of_ble_eq_true rfl) ?_
  intro p e s m below meth c A ls hx hb hr hlocks hml hown hts hK hN hP hD hA hl
  have hown : s.vm.findClass RX5 = some m.cls := hown
  have hS : va_S A s.heap s.heap [] := va_S.rf
  have hl : lv_has ls 4 [(0, .ref (adM 0))] := hl
  have B38 : ∀ (x1 : Int32) (H : Heap) (locs : List Loc) (ls : Array Slot), X5_mean_b38 vM x1 = some o → va_P D vwCl (wM cA adM vM) H → va_D A (wM cA adM vM) → va_S A s.heap H locs → lv_has ls 4 [(0, .ref (adM 0)), (1, .int x1)] → W p l e (headSpec wsX5_mean ({ frames := 2, cells := 0, slots := 0, locals := 44 })).room s m ([.ref (adM 0)] : List Value).toArray below meth c H locs 0 0 (MQ below (QI D (wM cA adM vM) o A) ([.ref (adM 0)] : List Value).toArray s 0 0 A) (F0 m 38 ls []) := by
    intro x1 H locs ls h hP hD hS hl
    unfold X5_mean_b38 at h
    refine lv_iload_n hx hb dX5_mean_38 rfl (lv_at hl 1 rfl) ?_
    refine lv_i2f hx hb dX5_mean_39 ?_
    refine lv_fstore_n (lv' := [(2, .float (FP.i2f x1)), (0, .ref (adM 0)), (1, .int x1)]) hx hb dX5_mean_40 rfl hl (by decide) rfl (fun ls hl => ?_)
    refine lv_aload_n hx hb dX5_mean_41 rfl (lv_at hl 1 rfl) ?_
    obtain ⟨u1, eu1, h⟩ := bd_in h
    refine kI (va_runV (As := []) (rest := []) ⟨hx, hb, hml, hown, hts⟩ (c_X5_owedInAll l D cA cQ adM vM u1 eu1 _) (cwV 0 hts gX5_mean_X5_owedInAll rfl rfl rfl (by decide +kernel) ⟨Nat.le_of_ble_eq_true rfl, Nat.le_of_ble_eq_true rfl⟩) (pV (ci := 5) (q := (RX5, TX5, 18)) hK hN hP hD [0, 1, 2, 3, 4, 5, 6, 7, 8, 9] rfl rfl rfl rfl) rfl rfl hl.1 rfl (lv_room (Nat.le_of_ble_eq_true rfl)) dX5_mean_42 ⟨Nat.zero_le _, Nat.zero_le _⟩) hP hD hS hA [0, 1, 2, 3, 4, 5, 6, 7, 8, 9] rfl rfl (ws' := (wM cA adM vM)) rfl (fun H locs hP hD hS => ?_)
    refine lv_i2f hx hb dX5_mean_45 ?_
    refine lv_fstore_n (lv' := [(3, .float (FP.i2f u1)), (2, .float (FP.i2f x1)), (0, .ref (adM 0)), (1, .int x1)]) hx hb dX5_mean_46 rfl hl (by decide) rfl (fun ls hl => ?_)
    refine lv_aload_n hx hb dX5_mean_47 rfl (lv_at hl 2 rfl) ?_
    refine va_get (D := D) (ci := 5) (v := .ref (adM 1)) (C := RX5) (T := TX5) (N := 18) hx hb hts iw_X5_mean_X5 hown hK hP 0 rfl rfl 0 (by decide) (hts (.fieldLink RX5 7 "FavourRingsModel" "s" "[I") (List.mem_of_getElem? (i := 1) rfl)) (fun _ h9 => h9) rfl dX5_mean_48 ?_
    refine lv_sipush (v := (290 : Int32)) hx hb dX5_mean_51 (by decide) ?_
    obtain ⟨y2, ey2, h⟩ := bd_in h
    refine ldR hx hb hK hP 1 0 rfl rfl ey2 dX5_mean_54 ?_
    refine lv_if_ne (tgt := 63) hx hb dX5_mean_55 (by decide) (fun c3 => ?_) (fun c3 => ?_)
    · have h := (if_neg c3).symm.trans h
      refine lv_fload_n hx hb dX5_mean_63 rfl (lv_at hl 1 rfl) ?_
      refine lv_fload_n hx hb dX5_mean_64 rfl (lv_at hl 0 rfl) ?_
      obtain ⟨z4, ez4, h⟩ := bd_in h
      refine fdivR hx hb ez4 dX5_mean_65 ?_
      obtain ⟨u5, eu5, h⟩ := bd_in h
      refine kI (va_runS (As := [.float z4]) (rest := []) ⟨hx, hb, hml, hown, hts⟩ (c_Jxf58ca_floatToIntBits_5c35a l D cA cQ  z4 u5 eu5 _) (va_cwS 1 hts gX5_mean_Jxf58ca_floatToIntBits_5c35a rfl rfl rfl (by decide +kernel) ⟨Nat.le_of_ble_eq_true rfl, Nat.le_of_ble_eq_true rfl⟩) (pS hK hN hP hD [] rfl rfl) rfl rfl hl.1 rfl (lv_room (Nat.le_of_ble_eq_true rfl)) dX5_mean_66 ⟨Nat.zero_le _, Nat.zero_le _⟩) hP hD hS hA [] rfl rfl (ws' := (wM cA adM vM)) rfl (fun H locs hP hD hS => ?_)
      cases h
      exact endI hx hb hr hlocks hP hS rfl dX5_mean_69
    · have h := (if_pos c3).symm.trans h
      refine lv_ldc (v := (-1000004 : Int32)) hx hb hown (hts (.constant RX5 57 (-1000004)) (List.mem_of_getElem? (i := 2) rfl)) dX5_mean_58 ?_
      refine lv_goto (tgt := 69) hx hb dX5_mean_60 (by decide) ?_
      cases h
      exact endI hx hb hr hlocks hP hS rfl dX5_mean_69
  have B4 : ∀ (fu4 : Nat) (x1 : Int32) (x2 : Int32) (H : Heap) (locs : List Loc) (ls : Array Slot), X5_mean_l4 vM fu4 x1 x2 = some o → va_P D vwCl (wM cA adM vM) H → va_D A (wM cA adM vM) → va_S A s.heap H locs → lv_has ls 4 [(0, .ref (adM 0)), (1, .int x1), (2, .int x2)] → W p l e (headSpec wsX5_mean ({ frames := 2, cells := 0, slots := 0, locals := 44 })).room s m ([.ref (adM 0)] : List Value).toArray below meth c H locs 0 0 (MQ below (QI D (wM cA adM vM) o A) ([.ref (adM 0)] : List Value).toArray s 0 0 A) (F0 m 4 ls []) := by
    intro fu4
    induction fu4 with
    | zero =>
      intro x1 x2 H locs ls h hP hD hS hl
      cases h
    | succ fu4 ih4 =>
      intro x1 x2 H locs ls h hP hD hS hl
      rw [X5_mean_l4] at h
      refine lv_iload_n hx hb dX5_mean_4 rfl (lv_at hl 2 rfl) ?_
      refine lv_aload_n hx hb dX5_mean_5 rfl (lv_at hl 0 rfl) ?_
      refine va_get (D := D) (ci := 5) (v := .ref (adM 1)) (C := RX5) (T := TX5) (N := 18) hx hb hts iw_X5_mean_X5 hown hK hP 0 rfl rfl 0 (by decide) (hts (.fieldLink RX5 7 "FavourRingsModel" "s" "[I") (List.mem_of_getElem? (i := 1) rfl)) (fun _ h9 => h9) rfl dX5_mean_6 ?_
      refine lv_sipush (v := (290 : Int32)) hx hb dX5_mean_9 (by decide) ?_
      obtain ⟨y6, ey6, h⟩ := bd_in h
      refine ldR hx hb hK hP 1 0 rfl rfl ey6 dX5_mean_12 ?_
      refine lv_icmp_ge (tgt := 38) hx hb dX5_mean_13 (by decide) (fun c7 => ?_) (fun c7 => ?_)
      · have h := (if_pos c7).symm.trans h
        exact B38 x1 _ _ _ h hP hD hS (lv_sub hl [0, 1] rfl)
      · have h := (if_neg c7).symm.trans h
        refine lv_iload_n hx hb dX5_mean_16 rfl (lv_at hl 1 rfl) ?_
        refine lv_aload_n hx hb dX5_mean_17 rfl (lv_at hl 0 rfl) ?_
        refine lv_iload_n hx hb dX5_mean_18 rfl (lv_at hl 2 rfl) ?_
        refine lv_iconst (v := (3 : Int32)) hx hb dX5_mean_19 (by decide) ?_
        obtain ⟨u8, eu8, h⟩ := bd_in h
        refine kI (va_runV (As := [.int x2, .int (3 : Int32)]) (rest := [.int x1]) ⟨hx, hb, hml, hown, hts⟩ (c_X5_of l D cA cQ adM vM x2 (3 : Int32) u8 eu8 _) (cwV 2 hts gX5_mean_X5_of rfl rfl rfl (by decide +kernel) ⟨Nat.le_of_ble_eq_true rfl, Nat.le_of_ble_eq_true rfl⟩) (pV (ci := 5) (q := (RX5, TX5, 18)) hK hN hP hD [0, 1, 2, 3, 4, 5, 6, 7, 8, 9] rfl rfl rfl rfl) rfl rfl hl.1 rfl (lv_room (Nat.le_of_ble_eq_true rfl)) dX5_mean_20 ⟨Nat.zero_le _, Nat.zero_le _⟩) hP hD hS hA [0, 1, 2, 3, 4, 5, 6, 7, 8, 9] rfl rfl (ws' := (wM cA adM vM)) rfl (fun H locs hP hD hS => ?_)
        refine lv_aload_n hx hb dX5_mean_23 rfl (lv_at hl 0 rfl) ?_
        refine lv_iload_n hx hb dX5_mean_24 rfl (lv_at hl 2 rfl) ?_
        refine lv_iconst (v := (4 : Int32)) hx hb dX5_mean_25 (by decide) ?_
        obtain ⟨u9, eu9, h⟩ := bd_in h
        refine kI (va_runV (As := [.int x2, .int (4 : Int32)]) (rest := [.int u8, .int x1]) ⟨hx, hb, hml, hown, hts⟩ (c_X5_of l D cA cQ adM vM x2 (4 : Int32) u9 eu9 _) (cwV 2 hts gX5_mean_X5_of rfl rfl rfl (by decide +kernel) ⟨Nat.le_of_ble_eq_true rfl, Nat.le_of_ble_eq_true rfl⟩) (pV (ci := 5) (q := (RX5, TX5, 18)) hK hN hP hD [0, 1, 2, 3, 4, 5, 6, 7, 8, 9] rfl rfl rfl rfl) rfl rfl hl.1 rfl (lv_room (Nat.le_of_ble_eq_true rfl)) dX5_mean_26 ⟨Nat.zero_le _, Nat.zero_le _⟩) hP hD hS hA [0, 1, 2, 3, 4, 5, 6, 7, 8, 9] rfl rfl (ws' := (wM cA adM vM)) rfl (fun H locs hP hD hS => ?_)
        refine lv_imul hx hb dX5_mean_29 ?_
        refine lv_iadd hx hb dX5_mean_30 ?_
        refine lv_istore_n (lv' := [(1, .int (x1 + (u8 * u9))), (0, .ref (adM 0)), (2, .int x2)]) hx hb dX5_mean_31 rfl hl (by decide) rfl (fun ls hl => ?_)
        refine lv_iinc (v := (x2 + (1 : Int32))) (lv' := [(2, .int (x2 + (1 : Int32))), (1, .int (x1 + (u8 * u9))), (0, .ref (adM 0))]) hx hb dX5_mean_32 hl (k := 2) rfl rfl (by decide) rfl (fun ls hl => ?_)
        refine lv_goto (tgt := 4) hx hb dX5_mean_35 (by decide) ?_
        exact ih4 (x1 + (u8 * u9)) (x2 + (1 : Int32)) _ _ _ h hP hD hS (lv_sub hl [2, 1, 0] rfl)
  have h := hf
  unfold X5_mean at h
  refine lv_iconst (v := (0 : Int32)) hx hb dX5_mean_0 (by decide) ?_
  refine lv_istore_n (lv' := [(1, .int (0 : Int32)), (0, .ref (adM 0))]) hx hb dX5_mean_1 rfl hl (by decide) rfl (fun ls hl => ?_)
  refine lv_iconst (v := (0 : Int32)) hx hb dX5_mean_2 (by decide) ?_
  refine lv_istore_n (lv' := [(2, .int (0 : Int32)), (1, .int (0 : Int32)), (0, .ref (adM 0))]) hx hb dX5_mean_3 rfl hl (by decide) rfl (fun ls hl => ?_)
  exact B4 FU (0 : Int32) (0 : Int32) _ _ _ h hP hD hS (lv_sub hl [2, 1, 0] rfl)

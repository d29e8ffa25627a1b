theorem iw_X1_keep_X1 : ∀ w ∈ wsX10, w ∈ wsX1_keep := fun _ h => List.mem_cons_of_mem _ (List.mem_append_left _ (List.mem_append_right _ (h)))
set_option maxHeartbeats 4000000 in
set_option maxRecDepth 100000 in
theorem c_X1_keep (l : Launch) (D : va_G) (cA cQ : ClassId) (adH : Nat → Nat) (kH : Nat → Nat → Nat) (adB : Nat → Nat) (vH : St) (bH : Nat → St) (vB : St) (o : St × (Nat → St)) (hf : X1_keep vH bH vB = some o) : Ctv l yX1_keep wsX1_keep ({ frames := 4, cells := 0, slots := 0, locals := 123 }) D (TY cA cQ) [.ref (adH 0), .ref (adB 0)] (wH cA cQ adH vH kH bH ++ (wB cA adB vB)) (wH cA cQ adH o.1 kH o.2 ++ (wB cA adB vB)) := by
  refine Wk.v (cc := cX1_keep) (maxL := 2) (ret := none) (by decide) rfl (Nat.le_of_ble_eq_true rfl) ?_
  intro p e s m below meth c A ls hx hb hr hlocks hml hown hts hK hN hP hD hA hl
  have hown : s.vm.findClass RX1 = some m.cls := hown
  have hS : va_S A s.heap s.heap [] := va_S.rf
  have hl : lv_has ls 2 [(0, .ref (adH 0)), (1, .ref (adB 0))] := hl
  have B12 : ∀ (vH : St) (bH : Nat → St) (H : Heap) (locs : List Loc) (ls : Array Slot), X1_keep_b12 vB vH bH = some o → va_P D vwCl (wH cA cQ adH vH kH bH ++ (wB cA adB vB)) H → va_D A (wH cA cQ adH vH kH bH ++ (wB cA adB vB)) → va_S A s.heap H locs → lv_has ls 2 [(0, .ref (adH 0)), (1, .ref (adB 0))] → W p l e (headSpec wsX1_keep ({ frames := 4, cells := 0, slots := 0, locals := 123 })).room s m ([.ref (adH 0), .ref (adB 0)] : List Value).toArray below meth c H locs 0 0 (MQ below (QV D (wH cA cQ adH o.1 kH o.2 ++ (wB cA adB vB)) A) ([.ref (adH 0), .ref (adB 0)] : List Value).toArray s 0 0 A) (F0 m 12 ls []) := by
    intro vH bH H locs ls h hP hD hS hl
    unfold X1_keep_b12 at h
    refine lv_aload_n hx hb dX1_keep_12 rfl (lv_at hl 0 rfl) ?_
    refine va_get (D := D) (ci := 1) (v := .int (vH 99 1)) (C := RX1) (T := TX1) (N := 2) hx hb hts iw_X1_keep_X1 hown hK hP 0 rfl rfl 1 (by decide) (hts (.fieldLink RX1 18 "FavourRings$History" "size" "I") (List.mem_of_getElem? (i := 1) rfl)) (fun _ h9 => h9) rfl dX1_keep_13 ?_
    refine lv_if_lt (tgt := 66) hx hb dX1_keep_16 (by decide) (fun c1 => ?_) (fun c1 => ?_)
    · have h := (if_pos c1).symm.trans h
      cases h
      exact endV hx hb hr hlocks hP hS dX1_keep_66
    · have h := (if_neg c1).symm.trans h
      refine lv_aload_n hx hb dX1_keep_19 rfl (lv_at hl 0 rfl) ?_
      refine va_get (D := D) (ci := 1) (v := .int (vH 99 1)) (C := RX1) (T := TX1) (N := 2) hx hb hts iw_X1_keep_X1 hown hK hP 0 rfl rfl 1 (by decide) (hts (.fieldLink RX1 18 "FavourRings$History" "size" "I") (List.mem_of_getElem? (i := 1) rfl)) (fun _ h9 => h9) rfl dX1_keep_20 ?_
      refine lv_aload_n hx hb dX1_keep_23 rfl (lv_at hl 0 rfl) ?_
      refine va_get (D := D) (ci := 1) (v := .ref (adH 1)) (C := RX1) (T := TX1) (N := 2) hx hb hts iw_X1_keep_X1 hown hK hP 0 rfl rfl 0 (by decide) (hts (.fieldLink RX1 11 "FavourRings$History" "states" "[LFavourRings$Bank;") (List.mem_of_getElem? (i := 2) rfl)) (fun _ h9 => h9) rfl dX1_keep_24 ?_
      refine va_alen hx hb hK hP 1 1 rfl rfl (v := (4 : Int32)) rfl dX1_keep_27 ?_
      refine lv_icmp_ge (tgt := 66) hx hb dX1_keep_28 (by decide) (fun c2 => ?_) (fun c2 => ?_)
      · have h := (if_pos c2).symm.trans h
        cases h
        exact endV hx hb hr hlocks hP hS dX1_keep_66
      · have h := (if_neg c2).symm.trans h
        refine lv_aload_n hx hb dX1_keep_31 rfl (lv_at hl 0 rfl) ?_
        refine va_get (D := D) (ci := 1) (v := .ref (adH 1)) (C := RX1) (T := TX1) (N := 2) hx hb hts iw_X1_keep_X1 hown hK hP 0 rfl rfl 0 (by decide) (hts (.fieldLink RX1 11 "FavourRings$History" "states" "[LFavourRings$Bank;") (List.mem_of_getElem? (i := 2) rfl)) (fun _ h9 => h9) rfl dX1_keep_32 ?_
        refine lv_aload_n hx hb dX1_keep_35 rfl (lv_at hl 0 rfl) ?_
        refine va_get (D := D) (ci := 1) (v := .int (vH 99 1)) (C := RX1) (T := TX1) (N := 2) hx hb hts iw_X1_keep_X1 hown hK hP 0 rfl rfl 1 (by decide) (hts (.fieldLink RX1 18 "FavourRings$History" "size" "I") (List.mem_of_getElem? (i := 1) rfl)) (fun _ h9 => h9) rfl dX1_keep_36 ?_
        by_cases c3 : (vH 99 1) = (0 : Int32)
        · have h := (if_pos c3).symm.trans h
          refine aaR (k := 0) (b := kH 0 0) hx hb hK hP 1 1 rfl rfl c3 (by decide) (vp_in_iff.mpr (by decide)) rfl dX1_keep_39 ?_
          refine lv_ifnull hx hb dX1_keep_40 ?_
          refine lv_aload_n hx hb dX1_keep_43 rfl (lv_at hl 0 rfl) ?_
          refine va_get (D := D) (ci := 1) (v := .ref (adH 1)) (C := RX1) (T := TX1) (N := 2) hx hb hts iw_X1_keep_X1 hown hK hP 0 rfl rfl 0 (by decide) (hts (.fieldLink RX1 11 "FavourRings$History" "states" "[LFavourRings$Bank;") (List.mem_of_getElem? (i := 2) rfl)) (fun _ h9 => h9) rfl dX1_keep_44 ?_
          refine lv_aload_n hx hb dX1_keep_47 rfl (lv_at hl 0 rfl) ?_
          refine va_get (D := D) (ci := 1) (v := .int (vH 99 1)) (C := RX1) (T := TX1) (N := 2) hx hb hts iw_X1_keep_X1 hown hK hP 0 rfl rfl 1 (by decide) (hts (.fieldLink RX1 18 "FavourRings$History" "size" "I") (List.mem_of_getElem? (i := 1) rfl)) (fun _ h9 => h9) rfl dX1_keep_48 ?_
          refine aaR (k := 0) (b := kH 0 0) hx hb hK hP 1 1 rfl rfl c3 (by decide) (vp_in_iff.mpr (by decide)) rfl dX1_keep_51 ?_
          refine lv_aload_n hx hb dX1_keep_52 rfl (lv_at hl 1 rfl) ?_
          obtain ⟨u4, eu4, h⟩ := bd_in h
          refine kV (va_runV (As := [.ref (adB 0)]) (rest := []) ⟨hx, hb, hml, hown, hts⟩ (c_X0_copyFrom l D cA cQ (kH 0) adB (bH 0) vB u4 eu4 _) (cwV 1 hts gX1_keep_X0_copyFrom rfl rfl rfl (by decide +kernel) ⟨Nat.le_of_ble_eq_true rfl, Nat.le_of_ble_eq_true rfl⟩) (pV (ci := 0) (q := (RX0, TX0, 13)) hK hN hP hD [2, 3, 4, 5, 6, 7, 8, 9, 10, 11, 12, 13, 14, 15, 58, 59, 60, 61, 62, 63, 64, 65, 66, 67, 68, 69, 70, 71] rfl rfl rfl rfl) rfl rfl hl.1 rfl (lv_room (Nat.le_of_ble_eq_true rfl)) dX1_keep_53 ⟨Nat.zero_le _, Nat.zero_le _⟩) hP hD hS hA [2, 3, 4, 5, 6, 7, 8, 9, 10, 11, 12, 13, 14, 15, 58, 59, 60, 61, 62, 63, 64, 65, 66, 67, 68, 69, 70, 71] rfl rfl (ws' := (wH cA cQ adH vH kH (setB bH 0 u4) ++ (wB cA adB vB))) rfl (fun H locs hP hD hS => ?_)
          refine lv_aload_n hx hb dX1_keep_56 rfl (lv_at hl 0 rfl) ?_
          refine lv_dup hx hb dX1_keep_57 rfl ?_
          refine va_get (D := D) (ci := 1) (v := .int (vH 99 1)) (C := RX1) (T := TX1) (N := 2) hx hb hts iw_X1_keep_X1 hown hK hP 0 rfl rfl 1 (by decide) (hts (.fieldLink RX1 18 "FavourRings$History" "size" "I") (List.mem_of_getElem? (i := 1) rfl)) (fun _ h9 => h9) rfl dX1_keep_58 ?_
          refine lv_iconst (v := (1 : Int32)) hx hb dX1_keep_61 (by decide) ?_
          refine lv_iadd hx hb dX1_keep_62 ?_
          refine ptR (ci := 1) (v := .int ((vH 99 1) + (1 : Int32))) (ty := .int) (C := RX1) (T := TX1) (N := 2) hx hb hts iw_X1_keep_X1 tyX1 tyX1_ok nmX1 hown hK hP hD hS 0 rfl rfl 1 (by decide) (hts (.fieldLink RX1 18 "FavourRings$History" "size" "I") (List.mem_of_getElem? (i := 1) rfl)) (fun _ h9 => h9) rfl (by decide +kernel) rfl rfl (Nat.le_of_ble_eq_true rfl) (ws' := (wH cA cQ adH (setI vH 1 ((vH 99 1) + (1 : Int32))) kH (setB bH 0 u4) ++ (wB cA adB vB))) rfl dX1_keep_63 (fun H locs hP hD hS => ?_)
          cases h
          exact endV hx hb hr hlocks hP hS dX1_keep_66
        have h := (if_neg c3).symm.trans h
        by_cases c5 : (vH 99 1) = (1 : Int32)
        · have h := (if_pos c5).symm.trans h
          refine aaR (k := 1) (b := kH 1 0) hx hb hK hP 1 1 rfl rfl c5 (by decide) (vp_in_iff.mpr (by decide)) rfl dX1_keep_39 ?_
          refine lv_ifnull hx hb dX1_keep_40 ?_
          refine lv_aload_n hx hb dX1_keep_43 rfl (lv_at hl 0 rfl) ?_
          refine va_get (D := D) (ci := 1) (v := .ref (adH 1)) (C := RX1) (T := TX1) (N := 2) hx hb hts iw_X1_keep_X1 hown hK hP 0 rfl rfl 0 (by decide) (hts (.fieldLink RX1 11 "FavourRings$History" "states" "[LFavourRings$Bank;") (List.mem_of_getElem? (i := 2) rfl)) (fun _ h9 => h9) rfl dX1_keep_44 ?_
          refine lv_aload_n hx hb dX1_keep_47 rfl (lv_at hl 0 rfl) ?_
          refine va_get (D := D) (ci := 1) (v := .int (vH 99 1)) (C := RX1) (T := TX1) (N := 2) hx hb hts iw_X1_keep_X1 hown hK hP 0 rfl rfl 1 (by decide) (hts (.fieldLink RX1 18 "FavourRings$History" "size" "I") (List.mem_of_getElem? (i := 1) rfl)) (fun _ h9 => h9) rfl dX1_keep_48 ?_
          refine aaR (k := 1) (b := kH 1 0) hx hb hK hP 1 1 rfl rfl c5 (by decide) (vp_in_iff.mpr (by decide)) rfl dX1_keep_51 ?_
          refine lv_aload_n hx hb dX1_keep_52 rfl (lv_at hl 1 rfl) ?_
          obtain ⟨u6, eu6, h⟩ := bd_in h
          refine kV (va_runV (As := [.ref (adB 0)]) (rest := []) ⟨hx, hb, hml, hown, hts⟩ (c_X0_copyFrom l D cA cQ (kH 1) adB (bH 1) vB u6 eu6 _) (cwV 1 hts gX1_keep_X0_copyFrom rfl rfl rfl (by decide +kernel) ⟨Nat.le_of_ble_eq_true rfl, Nat.le_of_ble_eq_true rfl⟩) (pV (ci := 0) (q := (RX0, TX0, 13)) hK hN hP hD [16, 17, 18, 19, 20, 21, 22, 23, 24, 25, 26, 27, 28, 29, 58, 59, 60, 61, 62, 63, 64, 65, 66, 67, 68, 69, 70, 71] rfl rfl rfl rfl) rfl rfl hl.1 rfl (lv_room (Nat.le_of_ble_eq_true rfl)) dX1_keep_53 ⟨Nat.zero_le _, Nat.zero_le _⟩) hP hD hS hA [16, 17, 18, 19, 20, 21, 22, 23, 24, 25, 26, 27, 28, 29, 58, 59, 60, 61, 62, 63, 64, 65, 66, 67, 68, 69, 70, 71] rfl rfl (ws' := (wH cA cQ adH vH kH (setB bH 1 u6) ++ (wB cA adB vB))) rfl (fun H locs hP hD hS => ?_)
          refine lv_aload_n hx hb dX1_keep_56 rfl (lv_at hl 0 rfl) ?_
          refine lv_dup hx hb dX1_keep_57 rfl ?_
          refine va_get (D := D) (ci := 1) (v := .int (vH 99 1)) (C := RX1) (T := TX1) (N := 2) hx hb hts iw_X1_keep_X1 hown hK hP 0 rfl rfl 1 (by decide) (hts (.fieldLink RX1 18 "FavourRings$History" "size" "I") (List.mem_of_getElem? (i := 1) rfl)) (fun _ h9 => h9) rfl dX1_keep_58 ?_
          refine lv_iconst (v := (1 : Int32)) hx hb dX1_keep_61 (by decide) ?_
          refine lv_iadd hx hb dX1_keep_62 ?_
          refine ptR (ci := 1) (v := .int ((vH 99 1) + (1 : Int32))) (ty := .int) (C := RX1) (T := TX1) (N := 2) hx hb hts iw_X1_keep_X1 tyX1 tyX1_ok nmX1 hown hK hP hD hS 0 rfl rfl 1 (by decide) (hts (.fieldLink RX1 18 "FavourRings$History" "size" "I") (List.mem_of_getElem? (i := 1) rfl)) (fun _ h9 => h9) rfl (by decide +kernel) rfl rfl (Nat.le_of_ble_eq_true rfl) (ws' := (wH cA cQ adH (setI vH 1 ((vH 99 1) + (1 : Int32))) kH (setB bH 1 u6) ++ (wB cA adB vB))) rfl dX1_keep_63 (fun H locs hP hD hS => ?_)
          cases h
          exact endV hx hb hr hlocks hP hS dX1_keep_66
        have h := (if_neg c5).symm.trans h
        by_cases c7 : (vH 99 1) = (2 : Int32)
        · have h := (if_pos c7).symm.trans h
          refine aaR (k := 2) (b := kH 2 0) hx hb hK hP 1 1 rfl rfl c7 (by decide) (vp_in_iff.mpr (by decide)) rfl dX1_keep_39 ?_
          refine lv_ifnull hx hb dX1_keep_40 ?_
          refine lv_aload_n hx hb dX1_keep_43 rfl (lv_at hl 0 rfl) ?_
          refine va_get (D := D) (ci := 1) (v := .ref (adH 1)) (C := RX1) (T := TX1) (N := 2) hx hb hts iw_X1_keep_X1 hown hK hP 0 rfl rfl 0 (by decide) (hts (.fieldLink RX1 11 "FavourRings$History" "states" "[LFavourRings$Bank;") (List.mem_of_getElem? (i := 2) rfl)) (fun _ h9 => h9) rfl dX1_keep_44 ?_
          refine lv_aload_n hx hb dX1_keep_47 rfl (lv_at hl 0 rfl) ?_
          refine va_get (D := D) (ci := 1) (v := .int (vH 99 1)) (C := RX1) (T := TX1) (N := 2) hx hb hts iw_X1_keep_X1 hown hK hP 0 rfl rfl 1 (by decide) (hts (.fieldLink RX1 18 "FavourRings$History" "size" "I") (List.mem_of_getElem? (i := 1) rfl)) (fun _ h9 => h9) rfl dX1_keep_48 ?_
          refine aaR (k := 2) (b := kH 2 0) hx hb hK hP 1 1 rfl rfl c7 (by decide) (vp_in_iff.mpr (by decide)) rfl dX1_keep_51 ?_
          refine lv_aload_n hx hb dX1_keep_52 rfl (lv_at hl 1 rfl) ?_
          obtain ⟨u8, eu8, h⟩ := bd_in h
          refine kV (va_runV (As := [.ref (adB 0)]) (rest := []) ⟨hx, hb, hml, hown, hts⟩ (c_X0_copyFrom l D cA cQ (kH 2) adB (bH 2) vB u8 eu8 _) (cwV 1 hts gX1_keep_X0_copyFrom rfl rfl rfl (by decide +kernel) ⟨Nat.le_of_ble_eq_true rfl, Nat.le_of_ble_eq_true rfl⟩) (pV (ci := 0) (q := (RX0, TX0, 13)) hK hN hP hD [30, 31, 32, 33, 34, 35, 36, 37, 38, 39, 40, 41, 42, 43, 58, 59, 60, 61, 62, 63, 64, 65, 66, 67, 68, 69, 70, 71] rfl rfl rfl rfl) rfl rfl hl.1 rfl (lv_room (Nat.le_of_ble_eq_true rfl)) dX1_keep_53 ⟨Nat.zero_le _, Nat.zero_le _⟩) hP hD hS hA [30, 31, 32, 33, 34, 35, 36, 37, 38, 39, 40, 41, 42, 43, 58, 59, 60, 61, 62, 63, 64, 65, 66, 67, 68, 69, 70, 71] rfl rfl (ws' := (wH cA cQ adH vH kH (setB bH 2 u8) ++ (wB cA adB vB))) rfl (fun H locs hP hD hS => ?_)
          refine lv_aload_n hx hb dX1_keep_56 rfl (lv_at hl 0 rfl) ?_
          refine lv_dup hx hb dX1_keep_57 rfl ?_
          refine va_get (D := D) (ci := 1) (v := .int (vH 99 1)) (C := RX1) (T := TX1) (N := 2) hx hb hts iw_X1_keep_X1 hown hK hP 0 rfl rfl 1 (by decide) (hts (.fieldLink RX1 18 "FavourRings$History" "size" "I") (List.mem_of_getElem? (i := 1) rfl)) (fun _ h9 => h9) rfl dX1_keep_58 ?_
          refine lv_iconst (v := (1 : Int32)) hx hb dX1_keep_61 (by decide) ?_
          refine lv_iadd hx hb dX1_keep_62 ?_
          refine ptR (ci := 1) (v := .int ((vH 99 1) + (1 : Int32))) (ty := .int) (C := RX1) (T := TX1) (N := 2) hx hb hts iw_X1_keep_X1 tyX1 tyX1_ok nmX1 hown hK hP hD hS 0 rfl rfl 1 (by decide) (hts (.fieldLink RX1 18 "FavourRings$History" "size" "I") (List.mem_of_getElem? (i := 1) rfl)) (fun _ h9 => h9) rfl (by decide +kernel) rfl rfl (Nat.le_of_ble_eq_true rfl) (ws' := (wH cA cQ adH (setI vH 1 ((vH 99 1) + (1 : Int32))) kH (setB bH 2 u8) ++ (wB cA adB vB))) rfl dX1_keep_63 (fun H locs hP hD hS => ?_)
          cases h
          exact endV hx hb hr hlocks hP hS dX1_keep_66
        have h := (if_neg c7).symm.trans h
        by_cases c9 : (vH 99 1) = (3 : Int32)
        · have h := (if_pos c9).symm.trans h
          refine aaR (k := 3) (b := kH 3 0) hx hb hK hP 1 1 rfl rfl c9 (by decide) (vp_in_iff.mpr (by decide)) rfl dX1_keep_39 ?_
          refine lv_ifnull hx hb dX1_keep_40 ?_
          refine lv_aload_n hx hb dX1_keep_43 rfl (lv_at hl 0 rfl) ?_
          refine va_get (D := D) (ci := 1) (v := .ref (adH 1)) (C := RX1) (T := TX1) (N := 2) hx hb hts iw_X1_keep_X1 hown hK hP 0 rfl rfl 0 (by decide) (hts (.fieldLink RX1 11 "FavourRings$History" "states" "[LFavourRings$Bank;") (List.mem_of_getElem? (i := 2) rfl)) (fun _ h9 => h9) rfl dX1_keep_44 ?_
          refine lv_aload_n hx hb dX1_keep_47 rfl (lv_at hl 0 rfl) ?_
          refine va_get (D := D) (ci := 1) (v := .int (vH 99 1)) (C := RX1) (T := TX1) (N := 2) hx hb hts iw_X1_keep_X1 hown hK hP 0 rfl rfl 1 (by decide) (hts (.fieldLink RX1 18 "FavourRings$History" "size" "I") (List.mem_of_getElem? (i := 1) rfl)) (fun _ h9 => h9) rfl dX1_keep_48 ?_
          refine aaR (k := 3) (b := kH 3 0) hx hb hK hP 1 1 rfl rfl c9 (by decide) (vp_in_iff.mpr (by decide)) rfl dX1_keep_51 ?_
          refine lv_aload_n hx hb dX1_keep_52 rfl (lv_at hl 1 rfl) ?_
          obtain ⟨u10, eu10, h⟩ := bd_in h
          refine kV (va_runV (As := [.ref (adB 0)]) (rest := []) ⟨hx, hb, hml, hown, hts⟩ (c_X0_copyFrom l D cA cQ (kH 3) adB (bH 3) vB u10 eu10 _) (cwV 1 hts gX1_keep_X0_copyFrom rfl rfl rfl (by decide +kernel) ⟨Nat.le_of_ble_eq_true rfl, Nat.le_of_ble_eq_true rfl⟩) (pV (ci := 0) (q := (RX0, TX0, 13)) hK hN hP hD [44, 45, 46, 47, 48, 49, 50, 51, 52, 53, 54, 55, 56, 57, 58, 59, 60, 61, 62, 63, 64, 65, 66, 67, 68, 69, 70, 71] rfl rfl rfl rfl) rfl rfl hl.1 rfl (lv_room (Nat.le_of_ble_eq_true rfl)) dX1_keep_53 ⟨Nat.zero_le _, Nat.zero_le _⟩) hP hD hS hA [44, 45, 46, 47, 48, 49, 50, 51, 52, 53, 54, 55, 56, 57, 58, 59, 60, 61, 62, 63, 64, 65, 66, 67, 68, 69, 70, 71] rfl rfl (ws' := (wH cA cQ adH vH kH (setB bH 3 u10) ++ (wB cA adB vB))) rfl (fun H locs hP hD hS => ?_)
          refine lv_aload_n hx hb dX1_keep_56 rfl (lv_at hl 0 rfl) ?_
          refine lv_dup hx hb dX1_keep_57 rfl ?_
          refine va_get (D := D) (ci := 1) (v := .int (vH 99 1)) (C := RX1) (T := TX1) (N := 2) hx hb hts iw_X1_keep_X1 hown hK hP 0 rfl rfl 1 (by decide) (hts (.fieldLink RX1 18 "FavourRings$History" "size" "I") (List.mem_of_getElem? (i := 1) rfl)) (fun _ h9 => h9) rfl dX1_keep_58 ?_
          refine lv_iconst (v := (1 : Int32)) hx hb dX1_keep_61 (by decide) ?_
          refine lv_iadd hx hb dX1_keep_62 ?_
          refine ptR (ci := 1) (v := .int ((vH 99 1) + (1 : Int32))) (ty := .int) (C := RX1) (T := TX1) (N := 2) hx hb hts iw_X1_keep_X1 tyX1 tyX1_ok nmX1 hown hK hP hD hS 0 rfl rfl 1 (by decide) (hts (.fieldLink RX1 18 "FavourRings$History" "size" "I") (List.mem_of_getElem? (i := 1) rfl)) (fun _ h9 => h9) rfl (by decide +kernel) rfl rfl (Nat.le_of_ble_eq_true rfl) (ws' := (wH cA cQ adH (setI vH 1 ((vH 99 1) + (1 : Int32))) kH (setB bH 3 u10) ++ (wB cA adB vB))) rfl dX1_keep_63 (fun H locs hP hD hS => ?_)
          cases h
          exact endV hx hb hr hlocks hP hS dX1_keep_66
        have h := (if_neg c9).symm.trans h
        cases h
  have h := hf
  unfold X1_keep at h
  refine lv_aload_n hx hb dX1_keep_0 rfl (lv_at hl 0 rfl) ?_
  refine va_get (D := D) (ci := 1) (v := .int (vH 99 1)) (C := RX1) (T := TX1) (N := 2) hx hb hts iw_X1_keep_X1 hown hK hP 0 rfl rfl 1 (by decide) (hts (.fieldLink RX1 18 "FavourRings$History" "size" "I") (List.mem_of_getElem? (i := 1) rfl)) (fun _ h9 => h9) rfl dX1_keep_1 ?_
  refine lv_iconst (v := (4 : Int32)) hx hb dX1_keep_4 (by decide) ?_
  refine lv_icmp_lt (tgt := 12) hx hb dX1_keep_5 (by decide) (fun c11 => ?_) (fun c11 => ?_)
  · have h := (if_pos c11).symm.trans h
    exact B12 vH bH _ _ _ h hP hD hS (lv_sub hl [0, 1] rfl)
  · have h := (if_neg c11).symm.trans h
    refine lv_aload_n hx hb dX1_keep_8 rfl (lv_at hl 0 rfl) ?_
    obtain ⟨u12, eu12, h⟩ := bd_in h
    refine kV (va_runV (As := []) (rest := []) ⟨hx, hb, hml, hown, hts⟩ (c_X1_dropOldest l D cA cQ adH kH vH bH u12 eu12 _) (cwV 0 hts gX1_keep_X1_dropOldest rfl rfl rfl (by decide +kernel) ⟨Nat.le_of_ble_eq_true rfl, Nat.le_of_ble_eq_true rfl⟩) (pV (ci := 1) (q := (RX1, TX1, 2)) hK hN hP hD [0, 1, 2, 3, 4, 5, 6, 7, 8, 9, 10, 11, 12, 13, 14, 15, 16, 17, 18, 19, 20, 21, 22, 23, 24, 25, 26, 27, 28, 29, 30, 31, 32, 33, 34, 35, 36, 37, 38, 39, 40, 41, 42, 43, 44, 45, 46, 47, 48, 49, 50, 51, 52, 53, 54, 55, 56, 57] rfl rfl rfl rfl) rfl rfl hl.1 rfl (lv_room (Nat.le_of_ble_eq_true rfl)) dX1_keep_9 ⟨Nat.zero_le _, Nat.zero_le _⟩) hP hD hS hA [0, 1, 2, 3, 4, 5, 6, 7, 8, 9, 10, 11, 12, 13, 14, 15, 16, 17, 18, 19, 20, 21, 22, 23, 24, 25, 26, 27, 28, 29, 30, 31, 32, 33, 34, 35, 36, 37, 38, 39, 40, 41, 42, 43, 44, 45, 46, 47, 48, 49, 50, 51, 52, 53, 54, 55, 56, 57] rfl rfl (ws' := (wH cA cQ adH u12.1 kH u12.2 ++ (wB cA adB vB))) rfl (fun H locs hP hD hS => ?_)
    exact B12 u12.1 u12.2 _ _ _ h hP hD hS (lv_sub hl [0, 1] rfl)
theorem iw_X1_restoreLatest_X1 : ∀ w ∈ wsX10, w ∈ wsX1_restoreLatest := fun _ h => List.mem_cons_of_mem _ (List.mem_append_left _ (List.mem_append_right _ (h)))
set_option maxHeartbeats 4000000 in
set_option maxRecDepth 100000 in
theorem c_X1_restoreLatest (l : Launch) (D : va_G) (cA cQ : ClassId) (adH : Nat → Nat) (kH : Nat → Nat → Nat) (adB : Nat → Nat) (vH : St) (bH : Nat → St) (vB : St) (o : Int32 × St × St) (hf : X1_restoreLatest vH bH vB = some o) : Cti l yX1_restoreLatest wsX1_restoreLatest ({ frames := 3, cells := 0, slots := 0, locals := 102 }) D (TY cA cQ) [.ref (adH 0), .ref (adB 0)] (wH cA cQ adH vH kH bH ++ (wB cA adB vB)) (wH cA cQ adH o.2.1 kH bH ++ (wB cA adB o.2.2)) o.1 := by
  refine Wk.i (cc := cX1_restoreLatest) (maxL := 3) (ret := (some .int)) (by decide) rfl (Nat.le_of_ble_eq_true rfl) ?_
  intro p e s m below meth c A ls hx hb hr hlocks hml hown hts hK hN hP hD hA hl
  have hown : s.vm.findClass RX1 = some m.cls := hown
  have hS : va_S A s.heap s.heap [] := va_S.rf
  have hl : lv_has ls 3 [(0, .ref (adH 0)), (1, .ref (adB 0))] := hl
  have h := hf
  unfold X1_restoreLatest at h
  refine lv_aload_n hx hb dX1_restoreLatest_0 rfl (lv_at hl 0 rfl) ?_
  refine va_get (D := D) (ci := 1) (v := .int (vH 99 1)) (C := RX1) (T := TX1) (N := 2) hx hb hts iw_X1_restoreLatest_X1 hown hK hP 0 rfl rfl 1 (by decide) (hts (.fieldLink RX1 18 "FavourRings$History" "size" "I") (List.mem_of_getElem? (i := 1) rfl)) (fun _ h9 => h9) rfl dX1_restoreLatest_1 ?_
  refine lv_iconst (v := (1 : Int32)) hx hb dX1_restoreLatest_4 (by decide) ?_
  refine lv_isub hx hb dX1_restoreLatest_5 ?_
  refine lv_istore_n (lv' := [(2, .int ((vH 99 1) - (1 : Int32))), (0, .ref (adH 0)), (1, .ref (adB 0))]) hx hb dX1_restoreLatest_6 rfl hl (by decide) rfl (fun ls hl => ?_)
  refine lv_iload_n hx hb dX1_restoreLatest_7 rfl (lv_at hl 0 rfl) ?_
  refine lv_if_lt (tgt := 29) hx hb dX1_restoreLatest_8 (by decide) (fun c1 => ?_) (fun c1 => ?_)
  · have h := (if_pos c1).symm.trans h
    refine lv_ldc (v := (-1000002 : Int32)) hx hb hown (hts (.constant RX1 29 (-1000002)) (List.mem_of_getElem? (i := 3) rfl)) dX1_restoreLatest_29 ?_
    cases h
    exact endI hx hb hr hlocks hP hS rfl dX1_restoreLatest_31
  · have h := (if_neg c1).symm.trans h
    refine lv_iload_n hx hb dX1_restoreLatest_11 rfl (lv_at hl 0 rfl) ?_
    refine lv_aload_n hx hb dX1_restoreLatest_12 rfl (lv_at hl 1 rfl) ?_
    refine va_get (D := D) (ci := 1) (v := .ref (adH 1)) (C := RX1) (T := TX1) (N := 2) hx hb hts iw_X1_restoreLatest_X1 hown hK hP 0 rfl rfl 0 (by decide) (hts (.fieldLink RX1 11 "FavourRings$History" "states" "[LFavourRings$Bank;") (List.mem_of_getElem? (i := 2) rfl)) (fun _ h9 => h9) rfl dX1_restoreLatest_13 ?_
    refine va_alen hx hb hK hP 1 1 rfl rfl (v := (4 : Int32)) rfl dX1_restoreLatest_16 ?_
    refine lv_icmp_ge (tgt := 29) hx hb dX1_restoreLatest_17 (by decide) (fun c2 => ?_) (fun c2 => ?_)
    · have h := (if_pos c2).symm.trans h
      refine lv_ldc (v := (-1000002 : Int32)) hx hb hown (hts (.constant RX1 29 (-1000002)) (List.mem_of_getElem? (i := 3) rfl)) dX1_restoreLatest_29 ?_
      cases h
      exact endI hx hb hr hlocks hP hS rfl dX1_restoreLatest_31
    · have h := (if_neg c2).symm.trans h
      refine lv_aload_n hx hb dX1_restoreLatest_20 rfl (lv_at hl 1 rfl) ?_
      refine va_get (D := D) (ci := 1) (v := .ref (adH 1)) (C := RX1) (T := TX1) (N := 2) hx hb hts iw_X1_restoreLatest_X1 hown hK hP 0 rfl rfl 0 (by decide) (hts (.fieldLink RX1 11 "FavourRings$History" "states" "[LFavourRings$Bank;") (List.mem_of_getElem? (i := 2) rfl)) (fun _ h9 => h9) rfl dX1_restoreLatest_21 ?_
      refine lv_iload_n hx hb dX1_restoreLatest_24 rfl (lv_at hl 0 rfl) ?_
      by_cases c3 : ((vH 99 1) - (1 : Int32)) = (0 : Int32)
      · have h := (if_pos c3).symm.trans h
        refine aaR (k := 0) (b := kH 0 0) hx hb hK hP 1 1 rfl rfl c3 (by decide) (vp_in_iff.mpr (by decide)) rfl dX1_restoreLatest_25 ?_
        refine lv_ifnonnull (tgt := 32) hx hb dX1_restoreLatest_26 (by decide) ?_
        refine lv_aload_n hx hb dX1_restoreLatest_32 rfl (lv_at hl 2 rfl) ?_
        refine lv_aload_n hx hb dX1_restoreLatest_33 rfl (lv_at hl 1 rfl) ?_
        refine va_get (D := D) (ci := 1) (v := .ref (adH 1)) (C := RX1) (T := TX1) (N := 2) hx hb hts iw_X1_restoreLatest_X1 hown hK hP 0 rfl rfl 0 (by decide) (hts (.fieldLink RX1 11 "FavourRings$History" "states" "[LFavourRings$Bank;") (List.mem_of_getElem? (i := 2) rfl)) (fun _ h9 => h9) rfl dX1_restoreLatest_34 ?_
        refine lv_iload_n hx hb dX1_restoreLatest_37 rfl (lv_at hl 0 rfl) ?_
        refine aaR (k := 0) (b := kH 0 0) hx hb hK hP 1 1 rfl rfl c3 (by decide) (vp_in_iff.mpr (by decide)) rfl dX1_restoreLatest_38 ?_
        obtain ⟨u4, eu4, h⟩ := bd_in h
        refine kV (va_runV (As := [.ref ((kH 0) 0)]) (rest := []) ⟨hx, hb, hml, hown, hts⟩ (c_X0_copyFrom l D cA cQ adB (kH 0) vB (bH 0) u4 eu4 _) (cwV 1 hts gX1_restoreLatest_X0_copyFrom rfl rfl rfl (by decide +kernel) ⟨Nat.le_of_ble_eq_true rfl, Nat.le_of_ble_eq_true rfl⟩) (pV (ci := 0) (q := (RX0, TX0, 13)) hK hN hP hD [58, 59, 60, 61, 62, 63, 64, 65, 66, 67, 68, 69, 70, 71, 2, 3, 4, 5, 6, 7, 8, 9, 10, 11, 12, 13, 14, 15] rfl rfl rfl rfl) rfl rfl hl.1 rfl (lv_room (Nat.le_of_ble_eq_true rfl)) dX1_restoreLatest_39 ⟨Nat.zero_le _, Nat.zero_le _⟩) hP hD hS hA [58, 59, 60, 61, 62, 63, 64, 65, 66, 67, 68, 69, 70, 71, 2, 3, 4, 5, 6, 7, 8, 9, 10, 11, 12, 13, 14, 15] rfl rfl (ws' := (wH cA cQ adH vH kH bH ++ (wB cA adB u4))) rfl (fun H locs hP hD hS => ?_)
        refine lv_aload_n hx hb dX1_restoreLatest_42 rfl (lv_at hl 1 rfl) ?_
        refine lv_iload_n hx hb dX1_restoreLatest_43 rfl (lv_at hl 0 rfl) ?_
        refine ptR (ci := 1) (v := .int ((vH 99 1) - (1 : Int32))) (ty := .int) (C := RX1) (T := TX1) (N := 2) hx hb hts iw_X1_restoreLatest_X1 tyX1 tyX1_ok nmX1 hown hK hP hD hS 0 rfl rfl 1 (by decide) (hts (.fieldLink RX1 18 "FavourRings$History" "size" "I") (List.mem_of_getElem? (i := 1) rfl)) (fun _ h9 => h9) rfl (by decide +kernel) rfl rfl (Nat.le_of_ble_eq_true rfl) (ws' := (wH cA cQ adH (setI vH 1 ((vH 99 1) - (1 : Int32))) kH bH ++ (wB cA adB u4))) rfl dX1_restoreLatest_44 (fun H locs hP hD hS => ?_)
        refine lv_aload_n hx hb dX1_restoreLatest_47 rfl (lv_at hl 1 rfl) ?_
        refine va_get (D := D) (ci := 1) (v := .int ((vH 99 1) - (1 : Int32))) (C := RX1) (T := TX1) (N := 2) hx hb hts iw_X1_restoreLatest_X1 hown hK hP 0 rfl rfl 1 (by decide) (hts (.fieldLink RX1 18 "FavourRings$History" "size" "I") (List.mem_of_getElem? (i := 1) rfl)) (fun _ h9 => h9) rfl dX1_restoreLatest_48 ?_
        cases h
        exact endI hx hb hr hlocks hP hS rfl dX1_restoreLatest_51
      have h := (if_neg c3).symm.trans h
      by_cases c5 : ((vH 99 1) - (1 : Int32)) = (1 : Int32)
      · have h := (if_pos c5).symm.trans h
        refine aaR (k := 1) (b := kH 1 0) hx hb hK hP 1 1 rfl rfl c5 (by decide) (vp_in_iff.mpr (by decide)) rfl dX1_restoreLatest_25 ?_
        refine lv_ifnonnull (tgt := 32) hx hb dX1_restoreLatest_26 (by decide) ?_
        refine lv_aload_n hx hb dX1_restoreLatest_32 rfl (lv_at hl 2 rfl) ?_
        refine lv_aload_n hx hb dX1_restoreLatest_33 rfl (lv_at hl 1 rfl) ?_
        refine va_get (D := D) (ci := 1) (v := .ref (adH 1)) (C := RX1) (T := TX1) (N := 2) hx hb hts iw_X1_restoreLatest_X1 hown hK hP 0 rfl rfl 0 (by decide) (hts (.fieldLink RX1 11 "FavourRings$History" "states" "[LFavourRings$Bank;") (List.mem_of_getElem? (i := 2) rfl)) (fun _ h9 => h9) rfl dX1_restoreLatest_34 ?_
        refine lv_iload_n hx hb dX1_restoreLatest_37 rfl (lv_at hl 0 rfl) ?_
        refine aaR (k := 1) (b := kH 1 0) hx hb hK hP 1 1 rfl rfl c5 (by decide) (vp_in_iff.mpr (by decide)) rfl dX1_restoreLatest_38 ?_
        obtain ⟨u6, eu6, h⟩ := bd_in h
        refine kV (va_runV (As := [.ref ((kH 1) 0)]) (rest := []) ⟨hx, hb, hml, hown, hts⟩ (c_X0_copyFrom l D cA cQ adB (kH 1) vB (bH 1) u6 eu6 _) (cwV 1 hts gX1_restoreLatest_X0_copyFrom rfl rfl rfl (by decide +kernel) ⟨Nat.le_of_ble_eq_true rfl, Nat.le_of_ble_eq_true rfl⟩) (pV (ci := 0) (q := (RX0, TX0, 13)) hK hN hP hD [58, 59, 60, 61, 62, 63, 64, 65, 66, 67, 68, 69, 70, 71, 16, 17, 18, 19, 20, 21, 22, 23, 24, 25, 26, 27, 28, 29] rfl rfl rfl rfl) rfl rfl hl.1 rfl (lv_room (Nat.le_of_ble_eq_true rfl)) dX1_restoreLatest_39 ⟨Nat.zero_le _, Nat.zero_le _⟩) hP hD hS hA [58, 59, 60, 61, 62, 63, 64, 65, 66, 67, 68, 69, 70, 71, 16, 17, 18, 19, 20, 21, 22, 23, 24, 25, 26, 27, 28, 29] rfl rfl (ws' := (wH cA cQ adH vH kH bH ++ (wB cA adB u6))) rfl (fun H locs hP hD hS => ?_)
        refine lv_aload_n hx hb dX1_restoreLatest_42 rfl (lv_at hl 1 rfl) ?_
        refine lv_iload_n hx hb dX1_restoreLatest_43 rfl (lv_at hl 0 rfl) ?_
        refine ptR (ci := 1) (v := .int ((vH 99 1) - (1 : Int32))) (ty := .int) (C := RX1) (T := TX1) (N := 2) hx hb hts iw_X1_restoreLatest_X1 tyX1 tyX1_ok nmX1 hown hK hP hD hS 0 rfl rfl 1 (by decide) (hts (.fieldLink RX1 18 "FavourRings$History" "size" "I") (List.mem_of_getElem? (i := 1) rfl)) (fun _ h9 => h9) rfl (by decide +kernel) rfl rfl (Nat.le_of_ble_eq_true rfl) (ws' := (wH cA cQ adH (setI vH 1 ((vH 99 1) - (1 : Int32))) kH bH ++ (wB cA adB u6))) rfl dX1_restoreLatest_44 (fun H locs hP hD hS => ?_)
        refine lv_aload_n hx hb dX1_restoreLatest_47 rfl (lv_at hl 1 rfl) ?_
        refine va_get (D := D) (ci := 1) (v := .int ((vH 99 1) - (1 : Int32))) (C := RX1) (T := TX1) (N := 2) hx hb hts iw_X1_restoreLatest_X1 hown hK hP 0 rfl rfl 1 (by decide) (hts (.fieldLink RX1 18 "FavourRings$History" "size" "I") (List.mem_of_getElem? (i := 1) rfl)) (fun _ h9 => h9) rfl dX1_restoreLatest_48 ?_
        cases h
        exact endI hx hb hr hlocks hP hS rfl dX1_restoreLatest_51
      have h := (if_neg c5).symm.trans h
      by_cases c7 : ((vH 99 1) - (1 : Int32)) = (2 : Int32)
      · have h := (if_pos c7).symm.trans h
        refine aaR (k := 2) (b := kH 2 0) hx hb hK hP 1 1 rfl rfl c7 (by decide) (vp_in_iff.mpr (by decide)) rfl dX1_restoreLatest_25 ?_
        refine lv_ifnonnull (tgt := 32) hx hb dX1_restoreLatest_26 (by decide) ?_
        refine lv_aload_n hx hb dX1_restoreLatest_32 rfl (lv_at hl 2 rfl) ?_
        refine lv_aload_n hx hb dX1_restoreLatest_33 rfl (lv_at hl 1 rfl) ?_
        refine va_get (D := D) (ci := 1) (v := .ref (adH 1)) (C := RX1) (T := TX1) (N := 2) hx hb hts iw_X1_restoreLatest_X1 hown hK hP 0 rfl rfl 0 (by decide) (hts (.fieldLink RX1 11 "FavourRings$History" "states" "[LFavourRings$Bank;") (List.mem_of_getElem? (i := 2) rfl)) (fun _ h9 => h9) rfl dX1_restoreLatest_34 ?_
        refine lv_iload_n hx hb dX1_restoreLatest_37 rfl (lv_at hl 0 rfl) ?_
        refine aaR (k := 2) (b := kH 2 0) hx hb hK hP 1 1 rfl rfl c7 (by decide) (vp_in_iff.mpr (by decide)) rfl dX1_restoreLatest_38 ?_
        obtain ⟨u8, eu8, h⟩ := bd_in h
        refine kV (va_runV (As := [.ref ((kH 2) 0)]) (rest := []) ⟨hx, hb, hml, hown, hts⟩ (c_X0_copyFrom l D cA cQ adB (kH 2) vB (bH 2) u8 eu8 _) (cwV 1 hts gX1_restoreLatest_X0_copyFrom rfl rfl rfl (by decide +kernel) ⟨Nat.le_of_ble_eq_true rfl, Nat.le_of_ble_eq_true rfl⟩) (pV (ci := 0) (q := (RX0, TX0, 13)) hK hN hP hD [58, 59, 60, 61, 62, 63, 64, 65, 66, 67, 68, 69, 70, 71, 30, 31, 32, 33, 34, 35, 36, 37, 38, 39, 40, 41, 42, 43] rfl rfl rfl rfl) rfl rfl hl.1 rfl (lv_room (Nat.le_of_ble_eq_true rfl)) dX1_restoreLatest_39 ⟨Nat.zero_le _, Nat.zero_le _⟩) hP hD hS hA [58, 59, 60, 61, 62, 63, 64, 65, 66, 67, 68, 69, 70, 71, 30, 31, 32, 33, 34, 35, 36, 37, 38, 39, 40, 41, 42, 43] rfl rfl (ws' := (wH cA cQ adH vH kH bH ++ (wB cA adB u8))) rfl (fun H locs hP hD hS => ?_)
        refine lv_aload_n hx hb dX1_restoreLatest_42 rfl (lv_at hl 1 rfl) ?_
        refine lv_iload_n hx hb dX1_restoreLatest_43 rfl (lv_at hl 0 rfl) ?_
        refine ptR (ci := 1) (v := .int ((vH 99 1) - (1 : Int32))) (ty := .int) (C := RX1) (T := TX1) (N := 2) hx hb hts iw_X1_restoreLatest_X1 tyX1 tyX1_ok nmX1 hown hK hP hD hS 0 rfl rfl 1 (by decide) (hts (.fieldLink RX1 18 "FavourRings$History" "size" "I") (List.mem_of_getElem? (i := 1) rfl)) (fun _ h9 => h9) rfl (by decide +kernel) rfl rfl (Nat.le_of_ble_eq_true rfl) (ws' := (wH cA cQ adH (setI vH 1 ((vH 99 1) - (1 : Int32))) kH bH ++ (wB cA adB u8))) rfl dX1_restoreLatest_44 (fun H locs hP hD hS => ?_)
        refine lv_aload_n hx hb dX1_restoreLatest_47 rfl (lv_at hl 1 rfl) ?_
        refine va_get (D := D) (ci := 1) (v := .int ((vH 99 1) - (1 : Int32))) (C := RX1) (T := TX1) (N := 2) hx hb hts iw_X1_restoreLatest_X1 hown hK hP 0 rfl rfl 1 (by decide) (hts (.fieldLink RX1 18 "FavourRings$History" "size" "I") (List.mem_of_getElem? (i := 1) rfl)) (fun _ h9 => h9) rfl dX1_restoreLatest_48 ?_
        cases h
        exact endI hx hb hr hlocks hP hS rfl dX1_restoreLatest_51
      have h := (if_neg c7).symm.trans h
      by_cases c9 : ((vH 99 1) - (1 : Int32)) = (3 : Int32)
      · have h := (if_pos c9).symm.trans h
        refine aaR (k := 3) (b := kH 3 0) hx hb hK hP 1 1 rfl rfl c9 (by decide) (vp_in_iff.mpr (by decide)) rfl dX1_restoreLatest_25 ?_
        refine lv_ifnonnull (tgt := 32) hx hb dX1_restoreLatest_26 (by decide) ?_
        refine lv_aload_n hx hb dX1_restoreLatest_32 rfl (lv_at hl 2 rfl) ?_
        refine lv_aload_n hx hb dX1_restoreLatest_33 rfl (lv_at hl 1 rfl) ?_
        refine va_get (D := D) (ci := 1) (v := .ref (adH 1)) (C := RX1) (T := TX1) (N := 2) hx hb hts iw_X1_restoreLatest_X1 hown hK hP 0 rfl rfl 0 (by decide) (hts (.fieldLink RX1 11 "FavourRings$History" "states" "[LFavourRings$Bank;") (List.mem_of_getElem? (i := 2) rfl)) (fun _ h9 => h9) rfl dX1_restoreLatest_34 ?_
        refine lv_iload_n hx hb dX1_restoreLatest_37 rfl (lv_at hl 0 rfl) ?_
        refine aaR (k := 3) (b := kH 3 0) hx hb hK hP 1 1 rfl rfl c9 (by decide) (vp_in_iff.mpr (by decide)) rfl dX1_restoreLatest_38 ?_
        obtain ⟨u10, eu10, h⟩ := bd_in h
        refine kV (va_runV (As := [.ref ((kH 3) 0)]) (rest := []) ⟨hx, hb, hml, hown, hts⟩ (c_X0_copyFrom l D cA cQ adB (kH 3) vB (bH 3) u10 eu10 _) (cwV 1 hts gX1_restoreLatest_X0_copyFrom rfl rfl rfl (by decide +kernel) ⟨Nat.le_of_ble_eq_true rfl, Nat.le_of_ble_eq_true rfl⟩) (pV (ci := 0) (q := (RX0, TX0, 13)) hK hN hP hD [58, 59, 60, 61, 62, 63, 64, 65, 66, 67, 68, 69, 70, 71, 44, 45, 46, 47, 48, 49, 50, 51, 52, 53, 54, 55, 56, 57] rfl rfl rfl rfl) rfl rfl hl.1 rfl (lv_room (Nat.le_of_ble_eq_true rfl)) dX1_restoreLatest_39 ⟨Nat.zero_le _, Nat.zero_le _⟩) hP hD hS hA [58, 59, 60, 61, 62, 63, 64, 65, 66, 67, 68, 69, 70, 71, 44, 45, 46, 47, 48, 49, 50, 51, 52, 53, 54, 55, 56, 57] rfl rfl (ws' := (wH cA cQ adH vH kH bH ++ (wB cA adB u10))) rfl (fun H locs hP hD hS => ?_)
        refine lv_aload_n hx hb dX1_restoreLatest_42 rfl (lv_at hl 1 rfl) ?_
        refine lv_iload_n hx hb dX1_restoreLatest_43 rfl (lv_at hl 0 rfl) ?_
        refine ptR (ci := 1) (v := .int ((vH 99 1) - (1 : Int32))) (ty := .int) (C := RX1) (T := TX1) (N := 2) hx hb hts iw_X1_restoreLatest_X1 tyX1 tyX1_ok nmX1 hown hK hP hD hS 0 rfl rfl 1 (by decide) (hts (.fieldLink RX1 18 "FavourRings$History" "size" "I") (List.mem_of_getElem? (i := 1) rfl)) (fun _ h9 => h9) rfl (by decide +kernel) rfl rfl (Nat.le_of_ble_eq_true rfl) (ws' := (wH cA cQ adH (setI vH 1 ((vH 99 1) - (1 : Int32))) kH bH ++ (wB cA adB u10))) rfl dX1_restoreLatest_44 (fun H locs hP hD hS => ?_)
        refine lv_aload_n hx hb dX1_restoreLatest_47 rfl (lv_at hl 1 rfl) ?_
        refine va_get (D := D) (ci := 1) (v := .int ((vH 99 1) - (1 : Int32))) (C := RX1) (T := TX1) (N := 2) hx hb hts iw_X1_restoreLatest_X1 hown hK hP 0 rfl rfl 1 (by decide) (hts (.fieldLink RX1 18 "FavourRings$History" "size" "I") (List.mem_of_getElem? (i := 1) rfl)) (fun _ h9 => h9) rfl dX1_restoreLatest_48 ?_
        cases h
        exact endI hx hb hr hlocks hP hS rfl dX1_restoreLatest_51
      have h := (if_neg c9).symm.trans h
      cases h
theorem iw_X1_size_X1 : ∀ w ∈ wsX10, w ∈ wsX1_size := fun _ h => List.mem_cons_of_mem _ (List.mem_append_right _ (h))
set_option maxHeartbeats 4000000 in
set_option maxRecDepth 100000 in
theorem c_X1_size (l : Launch) (D : va_G) (cA cQ : ClassId) (adH : Nat → Nat) (kH : Nat → Nat → Nat) (vH : St) (bH : Nat → St) (o : Int32) (hf : X1_size vH bH = some o) : Cti l yX1_size wsX1_size ({ frames := 0, cells := 0, slots := 0, locals := 0 }) D (TY cA cQ) [.ref (adH 0)] (wH cA cQ adH vH kH bH) (wH cA cQ adH vH kH bH) o := by
  refine Wk.i (cc := cX1_size) (maxL := 1) (ret := (some .int)) (by decide) rfl (Nat.le_of_ble_eq_true rfl) ?_
  intro p e s m below meth c A ls hx hb hr hlocks hml hown hts hK hN hP hD hA hl
  have hown : s.vm.findClass RX1 = some m.cls := hown
  have hS : va_S A s.heap s.heap [] := va_S.rf
  have hl : lv_has ls 1 [(0, .ref (adH 0))] := hl
  have h := hf
  unfold X1_size at h
  refine lv_aload_n hx hb dX1_size_0 rfl (lv_at hl 0 rfl) ?_
  refine va_get (D := D) (ci := 1) (v := .int (vH 99 1)) (C := RX1) (T := TX1) (N := 2) hx hb hts iw_X1_size_X1 hown hK hP 0 rfl rfl 1 (by decide) (hts (.fieldLink RX1 18 "FavourRings$History" "size" "I") (List.mem_of_getElem? (i := 1) rfl)) (fun _ h9 => h9) rfl dX1_size_1 ?_
  cases h
  exact endI hx hb hr hlocks hP hS rfl dX1_size_4
theorem iw_X2_append_X2 : ∀ w ∈ wsX20, w ∈ wsX2_append := fun _ h => List.mem_cons_of_mem _ (List.mem_append_right _ (h))
set_option maxHeartbeats 4000000 in
set_option maxRecDepth 100000 in
theorem c_X2_append (l : Launch) (D : va_G) (cA cQ : ClassId) (adO : Nat → Nat) (vO : St) (p1 : Int32) (o : Int32 × St) (hf : X2_append vO p1 = some o) : Cti l yX2_append wsX2_append ({ frames := 1, cells := 0, slots := 0, locals := 22 }) D (TY cA cQ) [.ref (adO 0), .int p1] (wO cA adO vO) (wO cA adO o.2) o.1 := by
  refine Wk.i (cc := cX2_append) (maxL := 2) (ret := (some .int)) (by decide) rfl (Nat.le_of_ble_eq_true rfl) ?_
  intro p e s m below meth c A ls hx hb hr hlocks hml hown hts hK hN hP hD hA hl
  have hown : s.vm.findClass RX2 = some m.cls := hown
  have hS : va_S A s.heap s.heap [] := va_S.rf
  have hl : lv_has ls 2 [(0, .ref (adO 0)), (1, .int p1)] := hl
  have h := hf
  unfold X2_append at h
  refine lv_iload_n hx hb dX2_append_0 rfl (lv_at hl 1 rfl) ?_
  refine lv_bipush (v := (32 : Int32)) hx hb dX2_append_1 (by decide) ?_
  refine lv_icmp_lt (tgt := 12) hx hb dX2_append_3 (by decide) (fun c1 => ?_) (fun c1 => ?_)
  · have h := (if_pos c1).symm.trans h
    refine lv_ldc (v := (-1000001 : Int32)) hx hb hown (hts (.constant RX2 34 (-1000001)) (List.mem_of_getElem? (i := 1) rfl)) dX2_append_12 ?_
    cases h
    exact endI hx hb hr hlocks hP hS rfl dX2_append_14
  · have h := (if_neg c1).symm.trans h
    refine lv_iload_n hx hb dX2_append_6 rfl (lv_at hl 1 rfl) ?_
    refine lv_bipush (v := (126 : Int32)) hx hb dX2_append_7 (by decide) ?_
    refine lv_icmp_le (tgt := 15) hx hb dX2_append_9 (by decide) (fun c2 => ?_) (fun c2 => ?_)
    · have h := (if_pos c2).symm.trans h
      refine lv_aload_n hx hb dX2_append_15 rfl (lv_at hl 0 rfl) ?_
      refine va_get (D := D) (ci := 2) (v := .int (vO 99 2)) (C := RX2) (T := TX2) (N := 8) hx hb hts iw_X2_append_X2 hown hK hP 0 rfl rfl 2 (by decide) (hts (.fieldLink RX2 18 "FavourRings$Orders" "length" "I") (List.mem_of_getElem? (i := 2) rfl)) (fun _ h9 => h9) rfl dX2_append_16 ?_
      refine lv_bipush (v := (60 : Int32)) hx hb dX2_append_19 (by decide) ?_
      refine lv_icmp_lt (tgt := 27) hx hb dX2_append_21 (by decide) (fun c3 => ?_) (fun c3 => ?_)
      · have h := (if_pos c3).symm.trans h
        refine lv_aload_n hx hb dX2_append_27 rfl (lv_at hl 0 rfl) ?_
        refine va_get (D := D) (ci := 2) (v := .ref (adO 1)) (C := RX2) (T := TX2) (N := 8) hx hb hts iw_X2_append_X2 hown hK hP 0 rfl rfl 0 (by decide) (hts (.fieldLink RX2 9 "FavourRings$Orders" "text" "[I") (List.mem_of_getElem? (i := 4) rfl)) (fun _ h9 => h9) rfl dX2_append_28 ?_
        refine lv_aload_n hx hb dX2_append_31 rfl (lv_at hl 0 rfl) ?_
        refine va_get (D := D) (ci := 2) (v := .int (vO 99 2)) (C := RX2) (T := TX2) (N := 8) hx hb hts iw_X2_append_X2 hown hK hP 0 rfl rfl 2 (by decide) (hts (.fieldLink RX2 18 "FavourRings$Orders" "length" "I") (List.mem_of_getElem? (i := 2) rfl)) (fun _ h9 => h9) rfl dX2_append_32 ?_
        refine lv_iload_n hx hb dX2_append_35 rfl (lv_at hl 1 rfl) ?_
        obtain ⟨u4, eu4, h⟩ := bd_in h
        refine kV (va_runSN (As := [.ref (adO 1), .int (vO 99 2), .int p1]) (rest := []) ⟨hx, hb, hml, hown, hts⟩ (c_X4_put l D cA cQ (adO 1) 60 (vO 1) (vO 99 2) p1 u4 eu4 _) ⟨va_cnB 3 hts gX2_append_X4_put_n36 rfl rfl rfl hN.2.2.2.2.2.2.2.2.1 (hts (.initialized RX4) (List.mem_of_getElem? (i := 6) rfl)) (by decide +kernel) ⟨Nat.le_of_ble_eq_true rfl, Nat.le_of_ble_eq_true rfl⟩, (hts (.static yX4_put) (List.mem_of_getElem? (i := 5) rfl)), trivial⟩ (pS hK hN hP hD [1] rfl rfl) rfl rfl hl.1 rfl (lv_room (Nat.le_of_ble_eq_true rfl)) dX2_append_36 ⟨Nat.zero_le _, Nat.zero_le _⟩) hP hD hS hA [1] rfl rfl (ws' := (wO cA adO (setA vO 1 u4))) rfl (fun H locs hP hD hS => ?_)
        refine lv_aload_n hx hb dX2_append_39 rfl (lv_at hl 0 rfl) ?_
        refine lv_dup hx hb dX2_append_40 rfl ?_
        refine va_get (D := D) (ci := 2) (v := .int (vO 99 2)) (C := RX2) (T := TX2) (N := 8) hx hb hts iw_X2_append_X2 hown hK hP 0 rfl rfl 2 (by decide) (hts (.fieldLink RX2 18 "FavourRings$Orders" "length" "I") (List.mem_of_getElem? (i := 2) rfl)) (fun _ h9 => h9) rfl dX2_append_41 ?_
        refine lv_iconst (v := (1 : Int32)) hx hb dX2_append_44 (by decide) ?_
        refine lv_iadd hx hb dX2_append_45 ?_
        refine ptR (ci := 2) (v := .int ((vO 99 2) + (1 : Int32))) (ty := .int) (C := RX2) (T := TX2) (N := 8) hx hb hts iw_X2_append_X2 tyX2 tyX2_ok nmX2 hown hK hP hD hS 0 rfl rfl 2 (by decide) (hts (.fieldLink RX2 18 "FavourRings$Orders" "length" "I") (List.mem_of_getElem? (i := 2) rfl)) (fun _ h9 => h9) rfl (by decide +kernel) rfl rfl (Nat.le_of_ble_eq_true rfl) (ws' := (wO cA adO (setI (setA vO 1 u4) 2 ((vO 99 2) + (1 : Int32))))) rfl dX2_append_46 (fun H locs hP hD hS => ?_)
        refine lv_aload_n hx hb dX2_append_49 rfl (lv_at hl 0 rfl) ?_
        refine va_get (D := D) (ci := 2) (v := .int ((vO 99 2) + (1 : Int32))) (C := RX2) (T := TX2) (N := 8) hx hb hts iw_X2_append_X2 hown hK hP 0 rfl rfl 2 (by decide) (hts (.fieldLink RX2 18 "FavourRings$Orders" "length" "I") (List.mem_of_getElem? (i := 2) rfl)) (fun _ h9 => h9) rfl dX2_append_50 ?_
        cases h
        exact endI hx hb hr hlocks hP hS rfl dX2_append_53
      · have h := (if_neg c3).symm.trans h
        refine lv_ldc (v := (-1000003 : Int32)) hx hb hown (hts (.constant RX2 35 (-1000003)) (List.mem_of_getElem? (i := 3) rfl)) dX2_append_24 ?_
        cases h
        exact endI hx hb hr hlocks hP hS rfl dX2_append_26
    · have h := (if_neg c2).symm.trans h
      refine lv_ldc (v := (-1000001 : Int32)) hx hb hown (hts (.constant RX2 34 (-1000001)) (List.mem_of_getElem? (i := 1) rfl)) dX2_append_12 ?_
      cases h
      exact endI hx hb hr hlocks hP hS rfl dX2_append_14
theorem iw_X2_signAt_X2 : ∀ w ∈ wsX20, w ∈ wsX2_signAt := fun _ h => List.mem_cons_of_mem _ (List.mem_append_right _ (h))
set_option maxHeartbeats 4000000 in
set_option maxRecDepth 100000 in
theorem c_X2_signAt (l : Launch) (D : va_G) (cA cQ : ClassId) (adO : Nat → Nat) (vO : St) (p1 : Int32) (o : Int32) (hf : X2_signAt vO p1 = some o) : Cti l yX2_signAt wsX2_signAt ({ frames := 1, cells := 0, slots := 0, locals := 21 }) D (TY cA cQ) [.ref (adO 0), .int p1] (wO cA adO vO) (wO cA adO vO) o := by
  refine Wk.i (cc := cX2_signAt) (maxL := 2) (ret := (some .int)) (by decide) rfl (Nat.le_of_ble_eq_true rfl) ?_
  intro p e s m below meth c A ls hx hb hr hlocks hml hown hts hK hN hP hD hA hl
  have hown : s.vm.findClass RX2 = some m.cls := hown
  have hS : va_S A s.heap s.heap [] := va_S.rf
  have hl : lv_has ls 2 [(0, .ref (adO 0)), (1, .int p1)] := hl
  have h := hf
  unfold X2_signAt at h
  refine lv_iload_n hx hb dX2_signAt_0 rfl (lv_at hl 1 rfl) ?_
  refine lv_aload_n hx hb dX2_signAt_1 rfl (lv_at hl 0 rfl) ?_
  refine va_get (D := D) (ci := 2) (v := .int (vO 99 2)) (C := RX2) (T := TX2) (N := 8) hx hb hts iw_X2_signAt_X2 hown hK hP 0 rfl rfl 2 (by decide) (hts (.fieldLink RX2 18 "FavourRings$Orders" "length" "I") (List.mem_of_getElem? (i := 1) rfl)) (fun _ h9 => h9) rfl dX2_signAt_2 ?_
  refine lv_icmp_ge (tgt := 19) hx hb dX2_signAt_5 (by decide) (fun c1 => ?_) (fun c1 => ?_)
  · have h := (if_pos c1).symm.trans h
    refine lv_iconst (v := (0 : Int32)) hx hb dX2_signAt_19 (by decide) ?_
    cases h
    exact endI hx hb hr hlocks hP hS rfl dX2_signAt_20
  · have h := (if_neg c1).symm.trans h
    refine lv_aload_n hx hb dX2_signAt_8 rfl (lv_at hl 0 rfl) ?_
    refine va_get (D := D) (ci := 2) (v := .ref (adO 1)) (C := RX2) (T := TX2) (N := 8) hx hb hts iw_X2_signAt_X2 hown hK hP 0 rfl rfl 0 (by decide) (hts (.fieldLink RX2 9 "FavourRings$Orders" "text" "[I") (List.mem_of_getElem? (i := 2) rfl)) (fun _ h9 => h9) rfl dX2_signAt_9 ?_
    refine lv_iload_n hx hb dX2_signAt_12 rfl (lv_at hl 1 rfl) ?_
    obtain ⟨u2, eu2, h⟩ := bd_in h
    refine kI (va_runSN (As := [.ref (adO 1), .int p1]) (rest := []) ⟨hx, hb, hml, hown, hts⟩ (c_X4_at l D cA cQ (adO 1) 60 (vO 1) p1 u2 eu2 _) ⟨va_cnB 2 hts gX2_signAt_X4_at_n59 rfl rfl rfl hN.2.2.2.2.2.2.2.2.2.1 (hts (.initialized RX4) (List.mem_of_getElem? (i := 4) rfl)) (by decide +kernel) ⟨Nat.le_of_ble_eq_true rfl, Nat.le_of_ble_eq_true rfl⟩, (hts (.static yX4_at) (List.mem_of_getElem? (i := 3) rfl)), trivial⟩ (pS hK hN hP hD [1] rfl rfl) rfl rfl hl.1 rfl (lv_room (Nat.le_of_ble_eq_true rfl)) dX2_signAt_13 ⟨Nat.zero_le _, Nat.zero_le _⟩) hP hD hS hA [1] rfl rfl (ws' := (wO cA adO vO)) rfl (fun H locs hP hD hS => ?_)
    refine lv_goto (tgt := 20) hx hb dX2_signAt_16 (by decide) ?_
    cases h
    exact endI hx hb hr hlocks hP hS rfl dX2_signAt_20
set_option maxHeartbeats 4000000 in
set_option maxRecDepth 100000 in
theorem c_X2_numbersAfter (l : Launch) (D : va_G) (cA cQ : ClassId) (p0 : Int32) (o : Int32) (hf : X2_numbersAfter p0 = some o) : Cti l yX2_numbersAfter wsX2_numbersAfter ({ frames := 0, cells := 0, slots := 0, locals := 0 }) D (TY cA cQ) [.int p0] ([] : va_W) ([] : va_W) o := by
  refine Wk.i (cc := cX2_numbersAfter) (maxL := 1) (ret := (some .int)) (by decide) rfl (Nat.le_of_ble_eq_true rfl) ?_
  intro p e s m below meth c A ls hx hb hr hlocks hml hown hts hK hN hP hD hA hl
  have hown : s.vm.findClass RX2 = some m.cls := hown
  have hS : va_S A s.heap s.heap [] := va_S.rf
  have hl : lv_has ls 1 [(0, .int p0)] := hl
  have h := hf
  unfold X2_numbersAfter at h
  refine lv_iload_n hx hb dX2_numbersAfter_0 rfl (lv_at hl 0 rfl) ?_
  by_cases c1 : p0 = (99 : Int32)
  · have h := (if_pos c1).symm.trans h
    refine lv_lookup (off := 63) (tgt := 64) hx hb dX2_numbersAfter_1 (by decide +kernel) (by rw [c1]; decide +kernel) (by decide) ?_
    refine lv_iconst (v := (1 : Int32)) hx hb dX2_numbersAfter_64 (by decide) ?_
    cases h
    exact endI hx hb hr hlocks hP hS rfl dX2_numbersAfter_65
  have h := (if_neg c1).symm.trans h
  by_cases c2 : p0 = (100 : Int32)
  · have h := (if_pos c2).symm.trans h
    refine lv_lookup (off := 59) (tgt := 60) hx hb dX2_numbersAfter_1 (by decide +kernel) (by rw [c2]; decide +kernel) (by decide) ?_
    refine lv_iconst (v := (4 : Int32)) hx hb dX2_numbersAfter_60 (by decide) ?_
    cases h
    exact endI hx hb hr hlocks hP hS rfl dX2_numbersAfter_61
  have h := (if_neg c2).symm.trans h
  by_cases c3 : p0 = (103 : Int32)
  · have h := (if_pos c3).symm.trans h
    refine lv_lookup (off := 61) (tgt := 62) hx hb dX2_numbersAfter_1 (by decide +kernel) (by rw [c3]; decide +kernel) (by decide) ?_
    refine lv_iconst (v := (2 : Int32)) hx hb dX2_numbersAfter_62 (by decide) ?_
    cases h
    exact endI hx hb hr hlocks hP hS rfl dX2_numbersAfter_63
  have h := (if_neg c3).symm.trans h
  by_cases c4 : p0 = (104 : Int32)
  · have h := (if_pos c4).symm.trans h
    refine lv_lookup (off := 65) (tgt := 66) hx hb dX2_numbersAfter_1 (by decide +kernel) (by rw [c4]; decide +kernel) (by decide) ?_
    refine lv_iconst (v := (0 : Int32)) hx hb dX2_numbersAfter_66 (by decide) ?_
    cases h
    exact endI hx hb hr hlocks hP hS rfl dX2_numbersAfter_67
  have h := (if_neg c4).symm.trans h
  by_cases c5 : p0 = (111 : Int32)
  · have h := (if_pos c5).symm.trans h
    refine lv_lookup (off := 59) (tgt := 60) hx hb dX2_numbersAfter_1 (by decide +kernel) (by rw [c5]; decide +kernel) (by decide) ?_
    refine lv_iconst (v := (4 : Int32)) hx hb dX2_numbersAfter_60 (by decide) ?_
    cases h
    exact endI hx hb hr hlocks hP hS rfl dX2_numbersAfter_61
  have h := (if_neg c5).symm.trans h
  by_cases c6 : p0 = (119 : Int32)
  · have h := (if_pos c6).symm.trans h
    refine lv_lookup (off := 63) (tgt := 64) hx hb dX2_numbersAfter_1 (by decide +kernel) (by rw [c6]; decide +kernel) (by decide) ?_
    refine lv_iconst (v := (1 : Int32)) hx hb dX2_numbersAfter_64 (by decide) ?_
    cases h
    exact endI hx hb hr hlocks hP hS rfl dX2_numbersAfter_65
  have h := (if_neg c6).symm.trans h
  have nc1 : (p0).toInt ≠ 99 := ne_toInt c1
  have nc2 : (p0).toInt ≠ 100 := ne_toInt c2
  have nc3 : (p0).toInt ≠ 103 := ne_toInt c3
  have nc4 : (p0).toInt ≠ 104 := ne_toInt c4
  have nc5 : (p0).toInt ≠ 111 := ne_toInt c5
  have nc6 : (p0).toInt ≠ 119 := ne_toInt c6
  refine lv_lookup (off := 67) (tgt := 68) hx hb dX2_numbersAfter_1 (by decide +kernel) (by simp [Op.lookupswitch.offset, nc1.symm, nc2.symm, nc3.symm, nc4.symm, nc5.symm, nc6.symm]) (by decide) ?_
  refine lv_iconst (v := (-1 : Int32)) hx hb dX2_numbersAfter_68 (by decide) ?_
  cases h
  exact endI hx hb hr hlocks hP hS rfl dX2_numbersAfter_69
theorem iw_X2_passSign_X2 : ∀ w ∈ wsX20, w ∈ wsX2_passSign := fun _ h => List.mem_cons_of_mem _ (List.mem_append_right _ (h))
set_option maxHeartbeats 4000000 in
set_option maxRecDepth 100000 in
theorem c_X2_passSign (l : Launch) (D : va_G) (cA cQ : ClassId) (adO : Nat → Nat) (vO : St) (p1 : Int32) (o : Int32 × St) (hf : X2_passSign vO p1 = some o) : Cti l yX2_passSign wsX2_passSign ({ frames := 2, cells := 0, slots := 0, locals := 42 }) D (TY cA cQ) [.ref (adO 0), .int p1] (wO cA adO vO) (wO cA adO o.2) o.1 := by
  refine Wk.i (cc := cX2_passSign) (maxL := 2) (ret := (some .boolean)) (by decide) rfl (Nat.le_of_ble_eq_true rfl) ?_
  intro p e s m below meth c A ls hx hb hr hlocks hml hown hts hK hN hP hD hA hl
  have hown : s.vm.findClass RX2 = some m.cls := hown
  have hS : va_S A s.heap s.heap [] := va_S.rf
  have hl : lv_has ls 2 [(0, .ref (adO 0)), (1, .int p1)] := hl
  have h := hf
  unfold X2_passSign at h
  refine lv_aload_n hx hb dX2_passSign_0 rfl (lv_at hl 0 rfl) ?_
  refine lv_aload_n hx hb dX2_passSign_1 rfl (lv_at hl 0 rfl) ?_
  refine va_get (D := D) (ci := 2) (v := .int (vO 99 3)) (C := RX2) (T := TX2) (N := 8) hx hb hts iw_X2_passSign_X2 hown hK hP 0 rfl rfl 3 (by decide) (hts (.fieldLink RX2 44 "FavourRings$Orders" "place" "I") (List.mem_of_getElem? (i := 1) rfl)) (fun _ h9 => h9) rfl dX2_passSign_2 ?_
  obtain ⟨u1, eu1, h⟩ := bd_in h
  refine kI (va_runV (As := [.int (vO 99 3)]) (rest := []) ⟨hx, hb, hml, hown, hts⟩ (c_X2_signAt l D cA cQ adO vO (vO 99 3) u1 eu1 _) (cwV 1 hts gX2_passSign_X2_signAt rfl rfl rfl (by decide +kernel) ⟨Nat.le_of_ble_eq_true rfl, Nat.le_of_ble_eq_true rfl⟩) (pV (ci := 2) (q := (RX2, TX2, 8)) hK hN hP hD [0, 1, 2] rfl rfl rfl rfl) rfl rfl hl.1 rfl (lv_room (Nat.le_of_ble_eq_true rfl)) dX2_passSign_5 ⟨Nat.zero_le _, Nat.zero_le _⟩) hP hD hS hA [0, 1, 2] rfl rfl (ws' := (wO cA adO vO)) rfl (fun H locs hP hD hS => ?_)
  refine lv_iload_n hx hb dX2_passSign_8 rfl (lv_at hl 1 rfl) ?_
  refine lv_icmp_eq (tgt := 14) hx hb dX2_passSign_9 (by decide) (fun c2 => ?_) (fun c2 => ?_)
  · have h := (if_pos c2).symm.trans h
    refine lv_aload_n hx hb dX2_passSign_14 rfl (lv_at hl 0 rfl) ?_
    refine lv_dup hx hb dX2_passSign_15 rfl ?_
    refine va_get (D := D) (ci := 2) (v := .int (vO 99 3)) (C := RX2) (T := TX2) (N := 8) hx hb hts iw_X2_passSign_X2 hown hK hP 0 rfl rfl 3 (by decide) (hts (.fieldLink RX2 44 "FavourRings$Orders" "place" "I") (List.mem_of_getElem? (i := 1) rfl)) (fun _ h9 => h9) rfl dX2_passSign_16 ?_
    refine lv_iconst (v := (1 : Int32)) hx hb dX2_passSign_19 (by decide) ?_
    refine lv_iadd hx hb dX2_passSign_20 ?_
    refine ptR (ci := 2) (v := .int ((vO 99 3) + (1 : Int32))) (ty := .int) (C := RX2) (T := TX2) (N := 8) hx hb hts iw_X2_passSign_X2 tyX2 tyX2_ok nmX2 hown hK hP hD hS 0 rfl rfl 3 (by decide) (hts (.fieldLink RX2 44 "FavourRings$Orders" "place" "I") (List.mem_of_getElem? (i := 1) rfl)) (fun _ h9 => h9) rfl (by decide +kernel) rfl rfl (Nat.le_of_ble_eq_true rfl) (ws' := (wO cA adO (setI vO 3 ((vO 99 3) + (1 : Int32))))) rfl dX2_passSign_21 (fun H locs hP hD hS => ?_)
    refine lv_iconst (v := (1 : Int32)) hx hb dX2_passSign_24 (by decide) ?_
    cases h
    exact endZ hx hb hr hlocks hP hS ⟨rfl, rfl⟩ dX2_passSign_25
  · have h := (if_neg c2).symm.trans h
    refine lv_iconst (v := (0 : Int32)) hx hb dX2_passSign_12 (by decide) ?_
    cases h
    exact endZ hx hb hr hlocks hP hS ⟨rfl, rfl⟩ dX2_passSign_13
set_option maxHeartbeats 4000000 in
set_option maxRecDepth 100000 in
theorem c_X2_isDigit (l : Launch) (D : va_G) (cA cQ : ClassId) (p0 : Int32) (o : Int32) (hf : X2_isDigit p0 = some o) : Cti l yX2_isDigit wsX2_isDigit ({ frames := 0, cells := 0, slots := 0, locals := 0 }) D (TY cA cQ) [.int p0] ([] : va_W) ([] : va_W) o := by
  refine Wk.i (cc := cX2_isDigit) (maxL := 1) (ret := (some .boolean)) (by decide) rfl (Nat.le_of_ble_eq_true rfl) ?_
  intro p e s m below meth c A ls hx hb hr hlocks hml hown hts hK hN hP hD hA hl
  have hown : s.vm.findClass RX2 = some m.cls := hown
  have hS : va_S A s.heap s.heap [] := va_S.rf
  have hl : lv_has ls 1 [(0, .int p0)] := hl
  have h := hf
  unfold X2_isDigit at h
  refine lv_iload_n hx hb dX2_isDigit_0 rfl (lv_at hl 0 rfl) ?_
  refine lv_bipush (v := (48 : Int32)) hx hb dX2_isDigit_1 (by decide) ?_
  refine lv_icmp_lt (tgt := 16) hx hb dX2_isDigit_3 (by decide) (fun c1 => ?_) (fun c1 => ?_)
  · have h := (if_pos c1).symm.trans h
    refine lv_iconst (v := (0 : Int32)) hx hb dX2_isDigit_16 (by decide) ?_
    cases h
    exact endZ hx hb hr hlocks hP hS ⟨rfl, rfl⟩ dX2_isDigit_17
  · have h := (if_neg c1).symm.trans h
    refine lv_iload_n hx hb dX2_isDigit_6 rfl (lv_at hl 0 rfl) ?_
    refine lv_bipush (v := (57 : Int32)) hx hb dX2_isDigit_7 (by decide) ?_
    refine lv_icmp_gt (tgt := 16) hx hb dX2_isDigit_9 (by decide) (fun c2 => ?_) (fun c2 => ?_)
    · have h := (if_pos c2).symm.trans h
      refine lv_iconst (v := (0 : Int32)) hx hb dX2_isDigit_16 (by decide) ?_
      cases h
      exact endZ hx hb hr hlocks hP hS ⟨rfl, rfl⟩ dX2_isDigit_17
    · have h := (if_neg c2).symm.trans h
      refine lv_iconst (v := (1 : Int32)) hx hb dX2_isDigit_12 (by decide) ?_
      refine lv_goto (tgt := 17) hx hb dX2_isDigit_13 (by decide) ?_
      cases h
      exact endZ hx hb hr hlocks hP hS ⟨rfl, rfl⟩ dX2_isDigit_17
theorem iw_X2_readNumber_X2 : ∀ w ∈ wsX20, w ∈ wsX2_readNumber := fun _ h => List.mem_cons_of_mem _ (List.mem_append_right _ (h))
set_option maxHeartbeats 4000000 in
set_option maxRecDepth 100000 in
theorem c_X2_readNumber (l : Launch) (D : va_G) (cA cQ : ClassId) (adO : Nat → Nat) (vO : St) (p1 : Int32) (o : Int32 × St) (hf : X2_readNumber vO p1 = some o) : Cti l yX2_readNumber wsX2_readNumber ({ frames := 2, cells := 0, slots := 0, locals := 42 }) D (TY cA cQ) [.ref (adO 0), .int p1] (wO cA adO vO) (wO cA adO o.2) o.1 := by
  refine Wk.i (cc := cX2_readNumber) (maxL := 4) (ret := (some .boolean)) (by decide) rfl (Nat.le_of_ble_eq_true rfl) ?_
  intro p e s m below meth c A ls hx hb hr hlocks hml hown hts hK hN hP hD hA hl
  have hown : s.vm.findClass RX2 = some m.cls := hown
  have hS : va_S A s.heap s.heap [] := va_S.rf
  have hl : lv_has ls 4 [(0, .ref (adO 0)), (1, .int p1)] := hl
  have B56 : ∀ (vO : St) (x2 : Int32) (x3 : Int32) (H : Heap) (locs : List Loc) (ls : Array Slot), X2_readNumber_b56 p1 vO x2 x3 = some o → va_P D vwCl (wO cA adO vO) H → va_D A (wO cA adO vO) → va_S A s.heap H locs → lv_has ls 4 [(0, .ref (adO 0)), (1, .int p1), (2, .int x2), (3, .int x3)] → W p l e (headSpec wsX2_readNumber ({ frames := 2, cells := 0, slots := 0, locals := 42 })).room s m ([.ref (adO 0), .int p1] : List Value).toArray below meth c H locs 0 0 (MQ below (QI D (wO cA adO o.2) o.1 A) ([.ref (adO 0), .int p1] : List Value).toArray s 0 0 A) (F0 m 56 ls []) := by
    intro vO x2 x3 H locs ls h hP hD hS hl
    unfold X2_readNumber_b56 at h
    refine lv_aload_n hx hb dX2_readNumber_56 rfl (lv_at hl 0 rfl) ?_
    refine va_get (D := D) (ci := 2) (v := .ref (adO 2)) (C := RX2) (T := TX2) (N := 8) hx hb hts iw_X2_readNumber_X2 hown hK hP 0 rfl rfl 1 (by decide) (hts (.fieldLink RX2 15 "FavourRings$Orders" "numbers" "[I") (List.mem_of_getElem? (i := 2) rfl)) (fun _ h9 => h9) rfl dX2_readNumber_57 ?_
    refine lv_iload_n hx hb dX2_readNumber_60 rfl (lv_at hl 1 rfl) ?_
    refine lv_iload_n hx hb dX2_readNumber_61 rfl (lv_at hl 3 rfl) ?_
    obtain ⟨u1, eu1, h⟩ := bd_in h
    refine kV (va_runSN (As := [.ref (adO 2), .int p1, .int x3]) (rest := []) ⟨hx, hb, hml, hown, hts⟩ (c_X4_put l D cA cQ (adO 2) 4 (vO 2) p1 x3 u1 eu1 _) ⟨va_cnB 3 hts gX2_readNumber_X4_put_n36 rfl rfl rfl hN.2.2.2.2.2.2.2.2.1 (hts (.initialized RX4) (List.mem_of_getElem? (i := 11) rfl)) (by decide +kernel) ⟨Nat.le_of_ble_eq_true rfl, Nat.le_of_ble_eq_true rfl⟩, (hts (.static yX4_put) (List.mem_of_getElem? (i := 16) rfl)), trivial⟩ (pS hK hN hP hD [2] rfl rfl) rfl rfl hl.1 rfl (lv_room (Nat.le_of_ble_eq_true rfl)) dX2_readNumber_62 ⟨Nat.zero_le _, Nat.zero_le _⟩) hP hD hS hA [2] rfl rfl (ws' := (wO cA adO (setA vO 2 u1))) rfl (fun H locs hP hD hS => ?_)
    refine lv_iload_n hx hb dX2_readNumber_65 rfl (lv_at hl 2 rfl) ?_
    refine lv_if_le (tgt := 73) hx hb dX2_readNumber_66 (by decide) (fun c2 => ?_) (fun c2 => ?_)
    · have h := (if_pos c2).symm.trans h
      refine lv_iconst (v := (0 : Int32)) hx hb dX2_readNumber_73 (by decide) ?_
      cases h
      exact endZ hx hb hr hlocks hP hS ⟨rfl, rfl⟩ dX2_readNumber_74
    · have h := (if_neg c2).symm.trans h
      refine lv_iconst (v := (1 : Int32)) hx hb dX2_readNumber_69 (by decide) ?_
      refine lv_goto (tgt := 74) hx hb dX2_readNumber_70 (by decide) ?_
      cases h
      exact endZ hx hb hr hlocks hP hS ⟨rfl, rfl⟩ dX2_readNumber_74
  have B4 : ∀ (fu4 : Nat) (vO : St) (x2 : Int32) (x3 : Int32) (H : Heap) (locs : List Loc) (ls : Array Slot), X2_readNumber_l4 p1 fu4 vO x2 x3 = some o → va_P D vwCl (wO cA adO vO) H → va_D A (wO cA adO vO) → va_S A s.heap H locs → lv_has ls 4 [(0, .ref (adO 0)), (1, .int p1), (2, .int x2), (3, .int x3)] → W p l e (headSpec wsX2_readNumber ({ frames := 2, cells := 0, slots := 0, locals := 42 })).room s m ([.ref (adO 0), .int p1] : List Value).toArray below meth c H locs 0 0 (MQ below (QI D (wO cA adO o.2) o.1 A) ([.ref (adO 0), .int p1] : List Value).toArray s 0 0 A) (F0 m 4 ls []) := by
    intro fu4
    induction fu4 with
    | zero =>
      intro vO x2 x3 H locs ls h hP hD hS hl
      cases h
    | succ fu4 ih4 =>
      intro vO x2 x3 H locs ls h hP hD hS hl
      rw [X2_readNumber_l4] at h
      refine lv_iload_n hx hb dX2_readNumber_4 rfl (lv_at hl 2 rfl) ?_
      refine lv_iconst (v := (2 : Int32)) hx hb dX2_readNumber_5 (by decide) ?_
      refine lv_icmp_ge (tgt := 56) hx hb dX2_readNumber_6 (by decide) (fun c3 => ?_) (fun c3 => ?_)
      · have h := (if_pos c3).symm.trans h
        exact B56 vO x2 x3 _ _ _ h hP hD hS (lv_sub hl [0, 1, 2, 3] rfl)
      · have h := (if_neg c3).symm.trans h
        refine lv_aload_n hx hb dX2_readNumber_9 rfl (lv_at hl 0 rfl) ?_
        refine lv_aload_n hx hb dX2_readNumber_10 rfl (lv_at hl 0 rfl) ?_
        refine va_get (D := D) (ci := 2) (v := .int (vO 99 3)) (C := RX2) (T := TX2) (N := 8) hx hb hts iw_X2_readNumber_X2 hown hK hP 0 rfl rfl 3 (by decide) (hts (.fieldLink RX2 44 "FavourRings$Orders" "place" "I") (List.mem_of_getElem? (i := 1) rfl)) (fun _ h9 => h9) rfl dX2_readNumber_11 ?_
        obtain ⟨u4, eu4, h⟩ := bd_in h
        refine kI (va_runV (As := [.int (vO 99 3)]) (rest := []) ⟨hx, hb, hml, hown, hts⟩ (c_X2_signAt l D cA cQ adO vO (vO 99 3) u4 eu4 _) (cwV 1 hts gX2_readNumber_X2_signAt rfl rfl rfl (by decide +kernel) ⟨Nat.le_of_ble_eq_true rfl, Nat.le_of_ble_eq_true rfl⟩) (pV (ci := 2) (q := (RX2, TX2, 8)) hK hN hP hD [0, 1, 2] rfl rfl rfl rfl) rfl rfl hl.1 rfl (lv_room (Nat.le_of_ble_eq_true rfl)) dX2_readNumber_14 ⟨Nat.zero_le _, Nat.zero_le _⟩) hP hD hS hA [0, 1, 2] rfl rfl (ws' := (wO cA adO vO)) rfl (fun H locs hP hD hS => ?_)
        obtain ⟨u5, eu5, h⟩ := bd_in h
        refine kI (va_runS (As := [.int u4]) (rest := []) ⟨hx, hb, hml, hown, hts⟩ (c_X2_isDigit l D cA cQ  u4 u5 eu5 _) (va_cwS 1 hts gX2_readNumber_X2_isDigit rfl rfl rfl (by decide +kernel) ⟨Nat.le_of_ble_eq_true rfl, Nat.le_of_ble_eq_true rfl⟩) (pS hK hN hP hD [] rfl rfl) rfl rfl hl.1 rfl (lv_room (Nat.le_of_ble_eq_true rfl)) dX2_readNumber_17 ⟨Nat.zero_le _, Nat.zero_le _⟩) hP hD hS hA [] rfl rfl (ws' := (wO cA adO vO)) rfl (fun H locs hP hD hS => ?_)
        refine lv_if_eq (tgt := 56) hx hb dX2_readNumber_20 (by decide) (fun c6 => ?_) (fun c6 => ?_)
        · have h := (if_pos c6).symm.trans h
          exact B56 vO x2 x3 _ _ _ h hP hD hS (lv_sub hl [0, 1, 2, 3] rfl)
        · have h := (if_neg c6).symm.trans h
          refine lv_iload_n hx hb dX2_readNumber_23 rfl (lv_at hl 3 rfl) ?_
          refine lv_bipush (v := (10 : Int32)) hx hb dX2_readNumber_24 (by decide) ?_
          refine lv_imul hx hb dX2_readNumber_26 ?_
          refine lv_aload_n hx hb dX2_readNumber_27 rfl (lv_at hl 0 rfl) ?_
          refine lv_aload_n hx hb dX2_readNumber_28 rfl (lv_at hl 0 rfl) ?_
          refine va_get (D := D) (ci := 2) (v := .int (vO 99 3)) (C := RX2) (T := TX2) (N := 8) hx hb hts iw_X2_readNumber_X2 hown hK hP 0 rfl rfl 3 (by decide) (hts (.fieldLink RX2 44 "FavourRings$Orders" "place" "I") (List.mem_of_getElem? (i := 1) rfl)) (fun _ h9 => h9) rfl dX2_readNumber_29 ?_
          obtain ⟨u7, eu7, h⟩ := bd_in h
          refine kI (va_runV (As := [.int (vO 99 3)]) (rest := [.int (x3 * (10 : Int32))]) ⟨hx, hb, hml, hown, hts⟩ (c_X2_signAt l D cA cQ adO vO (vO 99 3) u7 eu7 _) (cwV 1 hts gX2_readNumber_X2_signAt rfl rfl rfl (by decide +kernel) ⟨Nat.le_of_ble_eq_true rfl, Nat.le_of_ble_eq_true rfl⟩) (pV (ci := 2) (q := (RX2, TX2, 8)) hK hN hP hD [0, 1, 2] rfl rfl rfl rfl) rfl rfl hl.1 rfl (lv_room (Nat.le_of_ble_eq_true rfl)) dX2_readNumber_32 ⟨Nat.zero_le _, Nat.zero_le _⟩) hP hD hS hA [0, 1, 2] rfl rfl (ws' := (wO cA adO vO)) rfl (fun H locs hP hD hS => ?_)
          refine lv_iadd hx hb dX2_readNumber_35 ?_
          refine lv_bipush (v := (48 : Int32)) hx hb dX2_readNumber_36 (by decide) ?_
          refine lv_isub hx hb dX2_readNumber_38 ?_
          refine lv_istore_n (lv' := [(3, .int (((x3 * (10 : Int32)) + u7) - (48 : Int32))), (0, .ref (adO 0)), (1, .int p1), (2, .int x2)]) hx hb dX2_readNumber_39 rfl hl (by decide) rfl (fun ls hl => ?_)
          refine lv_iinc (v := (x2 + (1 : Int32))) (lv' := [(2, .int (x2 + (1 : Int32))), (3, .int (((x3 * (10 : Int32)) + u7) - (48 : Int32))), (0, .ref (adO 0)), (1, .int p1)]) hx hb dX2_readNumber_40 hl (k := 3) rfl rfl (by decide) rfl (fun ls hl => ?_)
          refine lv_aload_n hx hb dX2_readNumber_43 rfl (lv_at hl 2 rfl) ?_
          refine lv_dup hx hb dX2_readNumber_44 rfl ?_
          refine va_get (D := D) (ci := 2) (v := .int (vO 99 3)) (C := RX2) (T := TX2) (N := 8) hx hb hts iw_X2_readNumber_X2 hown hK hP 0 rfl rfl 3 (by decide) (hts (.fieldLink RX2 44 "FavourRings$Orders" "place" "I") (List.mem_of_getElem? (i := 1) rfl)) (fun _ h9 => h9) rfl dX2_readNumber_45 ?_
          refine lv_iconst (v := (1 : Int32)) hx hb dX2_readNumber_48 (by decide) ?_
          refine lv_iadd hx hb dX2_readNumber_49 ?_
          refine ptR (ci := 2) (v := .int ((vO 99 3) + (1 : Int32))) (ty := .int) (C := RX2) (T := TX2) (N := 8) hx hb hts iw_X2_readNumber_X2 tyX2 tyX2_ok nmX2 hown hK hP hD hS 0 rfl rfl 3 (by decide) (hts (.fieldLink RX2 44 "FavourRings$Orders" "place" "I") (List.mem_of_getElem? (i := 1) rfl)) (fun _ h9 => h9) rfl (by decide +kernel) rfl rfl (Nat.le_of_ble_eq_true rfl) (ws' := (wO cA adO (setI vO 3 ((vO 99 3) + (1 : Int32))))) rfl dX2_readNumber_50 (fun H locs hP hD hS => ?_)
          refine lv_goto (tgt := 4) hx hb dX2_readNumber_53 (by decide) ?_
          exact ih4 (setI vO 3 ((vO 99 3) + (1 : Int32))) (x2 + (1 : Int32)) (((x3 * (10 : Int32)) + u7) - (48 : Int32)) _ _ _ h hP hD hS (lv_sub hl [2, 3, 0, 1] rfl)
  have h := hf
  unfold X2_readNumber at h
  refine lv_iconst (v := (0 : Int32)) hx hb dX2_readNumber_0 (by decide) ?_
  refine lv_istore_n (lv' := [(2, .int (0 : Int32)), (0, .ref (adO 0)), (1, .int p1)]) hx hb dX2_readNumber_1 rfl hl (by decide) rfl (fun ls hl => ?_)
  refine lv_iconst (v := (0 : Int32)) hx hb dX2_readNumber_2 (by decide) ?_
  refine lv_istore_n (lv' := [(3, .int (0 : Int32)), (2, .int (0 : Int32)), (0, .ref (adO 0)), (1, .int p1)]) hx hb dX2_readNumber_3 rfl hl (by decide) rfl (fun ls hl => ?_)
  exact B4 FU vO (0 : Int32) (0 : Int32) _ _ _ h hP hD hS (lv_sub hl [2, 3, 1, 0] rfl)
theorem iw_X2_readOrder_X2 : ∀ w ∈ wsX20, w ∈ wsX2_readOrder := fun _ h => List.mem_cons_of_mem _ (List.mem_append_right _ (h))
set_option maxHeartbeats 4000000 in
set_option maxRecDepth 100000 in
theorem c_X2_readOrder (l : Launch) (D : va_G) (cA cQ : ClassId) (adO : Nat → Nat) (vO : St) (p1 : Int32) (o : Int32 × St) (hf : X2_readOrder vO p1 = some o) : Cti l yX2_readOrder wsX2_readOrder ({ frames := 3, cells := 0, slots := 0, locals := 65 }) D (TY cA cQ) [.ref (adO 0), .int p1] (wO cA adO vO) (wO cA adO o.2) o.1 := by
  refine Wk.i (cc := cX2_readOrder) (maxL := 4) (ret := (some .boolean)) (by decide) rfl (Nat.le_of_ble_eq_true rfl) ?_
  intro p e s m below meth c A ls hx hb hr hlocks hml hown hts hK hN hP hD hA hl
  have hown : s.vm.findClass RX2 = some m.cls := hown
  have hS : va_S A s.heap s.heap [] := va_S.rf
  have hl : lv_has ls 4 [(0, .ref (adO 0)), (1, .int p1)] := hl
  have B66 : ∀ (vO : St) (H : Heap) (locs : List Loc) (ls : Array Slot), X2_readOrder_b66 p1 vO = some o → va_P D vwCl (wO cA adO vO) H → va_D A (wO cA adO vO) → va_S A s.heap H locs → lv_has ls 4 [(0, .ref (adO 0))] → W p l e (headSpec wsX2_readOrder ({ frames := 3, cells := 0, slots := 0, locals := 65 })).room s m ([.ref (adO 0), .int p1] : List Value).toArray below meth c H locs 0 0 (MQ below (QI D (wO cA adO o.2) o.1 A) ([.ref (adO 0), .int p1] : List Value).toArray s 0 0 A) (F0 m 66 ls []) := by
    intro vO H locs ls h hP hD hS hl
    unfold X2_readOrder_b66 at h
    refine lv_aload_n hx hb dX2_readOrder_66 rfl (lv_at hl 0 rfl) ?_
    refine lv_bipush (v := (59 : Int32)) hx hb dX2_readOrder_67 (by decide) ?_
    obtain ⟨u1, eu1, h⟩ := bd_in h
    refine kI (va_runV (As := [.int (59 : Int32)]) (rest := []) ⟨hx, hb, hml, hown, hts⟩ (c_X2_passSign l D cA cQ adO vO (59 : Int32) u1 eu1 _) (cwV 1 hts gX2_readOrder_X2_passSign rfl rfl rfl (by decide +kernel) ⟨Nat.le_of_ble_eq_true rfl, Nat.le_of_ble_eq_true rfl⟩) (pV (ci := 2) (q := (RX2, TX2, 8)) hK hN hP hD [0, 1, 2] rfl rfl rfl rfl) rfl rfl hl.1 rfl (lv_room (Nat.le_of_ble_eq_true rfl)) dX2_readOrder_69 ⟨Nat.zero_le _, Nat.zero_le _⟩) hP hD hS hA [0, 1, 2] rfl rfl (ws' := (wO cA adO u1.2)) rfl (fun H locs hP hD hS => ?_)
    obtain ⟨b2, eb2, h⟩ := bd_in h
    cases h
    exact endZ hx hb hr hlocks hP hS (zb_in eb2) dX2_readOrder_72
  have B32 : ∀ (fu32 : Nat) (vO : St) (x2 : Int32) (x3 : Int32) (H : Heap) (locs : List Loc) (ls : Array Slot), X2_readOrder_l32 p1 fu32 vO x2 x3 = some o → va_P D vwCl (wO cA adO vO) H → va_D A (wO cA adO vO) → va_S A s.heap H locs → lv_has ls 4 [(0, .ref (adO 0)), (2, .int x2), (3, .int x3)] → W p l e (headSpec wsX2_readOrder ({ frames := 3, cells := 0, slots := 0, locals := 65 })).room s m ([.ref (adO 0), .int p1] : List Value).toArray below meth c H locs 0 0 (MQ below (QI D (wO cA adO o.2) o.1 A) ([.ref (adO 0), .int p1] : List Value).toArray s 0 0 A) (F0 m 32 ls []) := by
    intro fu32
    induction fu32 with
    | zero =>
      intro vO x2 x3 H locs ls h hP hD hS hl
      cases h
    | succ fu32 ih32 =>
      have B50 : ∀ (vO : St) (x2 : Int32) (x3 : Int32) (H : Heap) (locs : List Loc) (ls : Array Slot), X2_readOrder_b50 p1 (X2_readOrder_l32 p1 fu32) vO x2 x3 = some o → va_P D vwCl (wO cA adO vO) H → va_D A (wO cA adO vO) → va_S A s.heap H locs → lv_has ls 4 [(0, .ref (adO 0)), (2, .int x2), (3, .int x3)] → W p l e (headSpec wsX2_readOrder ({ frames := 3, cells := 0, slots := 0, locals := 65 })).room s m ([.ref (adO 0), .int p1] : List Value).toArray below meth c H locs 0 0 (MQ below (QI D (wO cA adO o.2) o.1 A) ([.ref (adO 0), .int p1] : List Value).toArray s 0 0 A) (F0 m 50 ls []) := by
        intro vO x2 x3 H locs ls h hP hD hS hl
        unfold X2_readOrder_b50 at h
        refine lv_aload_n hx hb dX2_readOrder_50 rfl (lv_at hl 0 rfl) ?_
        refine lv_iload_n hx hb dX2_readOrder_51 rfl (lv_at hl 2 rfl) ?_
        obtain ⟨u3, eu3, h⟩ := bd_in h
        refine kI (va_runV (As := [.int x3]) (rest := []) ⟨hx, hb, hml, hown, hts⟩ (c_X2_readNumber l D cA cQ adO vO x3 u3 eu3 _) (cwV 1 hts gX2_readOrder_X2_readNumber rfl rfl rfl (by decide +kernel) ⟨Nat.le_of_ble_eq_true rfl, Nat.le_of_ble_eq_true rfl⟩) (pV (ci := 2) (q := (RX2, TX2, 8)) hK hN hP hD [0, 1, 2] rfl rfl rfl rfl) rfl rfl hl.1 rfl (lv_room (Nat.le_of_ble_eq_true rfl)) dX2_readOrder_52 ⟨Nat.zero_le _, Nat.zero_le _⟩) hP hD hS hA [0, 1, 2] rfl rfl (ws' := (wO cA adO u3.2)) rfl (fun H locs hP hD hS => ?_)
        refine lv_if_ne (tgt := 60) hx hb dX2_readOrder_55 (by decide) (fun c4 => ?_) (fun c4 => ?_)
        · have h := (if_neg c4).symm.trans h
          refine lv_iinc (v := (x3 + (1 : Int32))) (lv' := [(3, .int (x3 + (1 : Int32))), (0, .ref (adO 0)), (2, .int x2)]) hx hb dX2_readOrder_60 hl (k := 2) rfl rfl (by decide) rfl (fun ls hl => ?_)
          refine lv_goto (tgt := 32) hx hb dX2_readOrder_63 (by decide) ?_
          exact ih32 u3.2 x2 (x3 + (1 : Int32)) _ _ _ h hP hD hS (lv_sub hl [1, 2, 0] rfl)
        · have h := (if_pos c4).symm.trans h
          refine lv_iconst (v := (0 : Int32)) hx hb dX2_readOrder_58 (by decide) ?_
          cases h
          exact endZ hx hb hr hlocks hP hS ⟨rfl, rfl⟩ dX2_readOrder_59
      intro vO x2 x3 H locs ls h hP hD hS hl
      rw [X2_readOrder_l32] at h
      refine lv_iload_n hx hb dX2_readOrder_32 rfl (lv_at hl 2 rfl) ?_
      refine lv_iload_n hx hb dX2_readOrder_33 rfl (lv_at hl 1 rfl) ?_
      refine lv_icmp_ge (tgt := 66) hx hb dX2_readOrder_34 (by decide) (fun c5 => ?_) (fun c5 => ?_)
      · have h := (if_pos c5).symm.trans h
        exact B66 vO _ _ _ h hP hD hS (lv_sub hl [0] rfl)
      · have h := (if_neg c5).symm.trans h
        refine lv_iload_n hx hb dX2_readOrder_37 rfl (lv_at hl 2 rfl) ?_
        refine lv_if_le (tgt := 50) hx hb dX2_readOrder_38 (by decide) (fun c6 => ?_) (fun c6 => ?_)
        · have h := (if_pos c6).symm.trans h
          exact B50 vO x2 x3 _ _ _ h hP hD hS (lv_sub hl [0, 1, 2] rfl)
        · have h := (if_neg c6).symm.trans h
          refine lv_aload_n hx hb dX2_readOrder_41 rfl (lv_at hl 0 rfl) ?_
          refine lv_bipush (v := (44 : Int32)) hx hb dX2_readOrder_42 (by decide) ?_
          obtain ⟨u7, eu7, h⟩ := bd_in h
          refine kI (va_runV (As := [.int (44 : Int32)]) (rest := []) ⟨hx, hb, hml, hown, hts⟩ (c_X2_passSign l D cA cQ adO vO (44 : Int32) u7 eu7 _) (cwV 1 hts gX2_readOrder_X2_passSign rfl rfl rfl (by decide +kernel) ⟨Nat.le_of_ble_eq_true rfl, Nat.le_of_ble_eq_true rfl⟩) (pV (ci := 2) (q := (RX2, TX2, 8)) hK hN hP hD [0, 1, 2] rfl rfl rfl rfl) rfl rfl hl.1 rfl (lv_room (Nat.le_of_ble_eq_true rfl)) dX2_readOrder_44 ⟨Nat.zero_le _, Nat.zero_le _⟩) hP hD hS hA [0, 1, 2] rfl rfl (ws' := (wO cA adO u7.2)) rfl (fun H locs hP hD hS => ?_)
          refine lv_if_eq (tgt := 58) hx hb dX2_readOrder_47 (by decide) (fun c8 => ?_) (fun c8 => ?_)
          · have h := (if_pos c8).symm.trans h
            refine lv_iconst (v := (0 : Int32)) hx hb dX2_readOrder_58 (by decide) ?_
            cases h
            exact endZ hx hb hr hlocks hP hS ⟨rfl, rfl⟩ dX2_readOrder_59
          · have h := (if_neg c8).symm.trans h
            exact B50 u7.2 x2 x3 _ _ _ h hP hD hS (lv_sub hl [0, 1, 2] rfl)
  have h := hf
  unfold X2_readOrder at h
  refine lv_aload_n hx hb dX2_readOrder_0 rfl (lv_at hl 0 rfl) ?_
  refine lv_iload_n hx hb dX2_readOrder_1 rfl (lv_at hl 1 rfl) ?_
  refine ptR (ci := 2) (v := .int p1) (ty := .int) (C := RX2) (T := TX2) (N := 8) hx hb hts iw_X2_readOrder_X2 tyX2 tyX2_ok nmX2 hown hK hP hD hS 0 rfl rfl 3 (by decide) (hts (.fieldLink RX2 44 "FavourRings$Orders" "place" "I") (List.mem_of_getElem? (i := 1) rfl)) (fun _ h9 => h9) rfl (by decide +kernel) rfl rfl (Nat.le_of_ble_eq_true rfl) (ws' := (wO cA adO (setI vO 3 p1))) rfl dX2_readOrder_2 (fun H locs hP hD hS => ?_)
  refine lv_aload_n hx hb dX2_readOrder_5 rfl (lv_at hl 0 rfl) ?_
  refine lv_iload_n hx hb dX2_readOrder_6 rfl (lv_at hl 1 rfl) ?_
  obtain ⟨u9, eu9, h⟩ := bd_in h
  refine kI (va_runV (As := [.int p1]) (rest := []) ⟨hx, hb, hml, hown, hts⟩ (c_X2_signAt l D cA cQ adO (setI vO 3 p1) p1 u9 eu9 _) (cwV 1 hts gX2_readOrder_X2_signAt rfl rfl rfl (by decide +kernel) ⟨Nat.le_of_ble_eq_true rfl, Nat.le_of_ble_eq_true rfl⟩) (pV (ci := 2) (q := (RX2, TX2, 8)) hK hN hP hD [0, 1, 2] rfl rfl rfl rfl) rfl rfl hl.1 rfl (lv_room (Nat.le_of_ble_eq_true rfl)) dX2_readOrder_7 ⟨Nat.zero_le _, Nat.zero_le _⟩) hP hD hS hA [0, 1, 2] rfl rfl (ws' := (wO cA adO (setI vO 3 p1))) rfl (fun H locs hP hD hS => ?_)
  obtain ⟨u10, eu10, h⟩ := bd_in h
  refine kI (va_runS (As := [.int u9]) (rest := []) ⟨hx, hb, hml, hown, hts⟩ (c_X2_numbersAfter l D cA cQ  u9 u10 eu10 _) (va_cwS 1 hts gX2_readOrder_X2_numbersAfter rfl rfl rfl (by decide +kernel) ⟨Nat.le_of_ble_eq_true rfl, Nat.le_of_ble_eq_true rfl⟩) (pS hK hN hP hD [] rfl rfl) rfl rfl hl.1 rfl (lv_room (Nat.le_of_ble_eq_true rfl)) dX2_readOrder_10 ⟨Nat.zero_le _, Nat.zero_le _⟩) hP hD hS hA [] rfl rfl (ws' := (wO cA adO (setI vO 3 p1))) rfl (fun H locs hP hD hS => ?_)
  refine lv_istore_n (lv' := [(2, .int u10), (0, .ref (adO 0)), (1, .int p1)]) hx hb dX2_readOrder_13 rfl hl (by decide) rfl (fun ls hl => ?_)
  refine lv_iload_n hx hb dX2_readOrder_14 rfl (lv_at hl 0 rfl) ?_
  refine lv_if_ge (tgt := 20) hx hb dX2_readOrder_15 (by decide) (fun c11 => ?_) (fun c11 => ?_)
  · have h := (if_pos c11).symm.trans h
    refine lv_aload_n hx hb dX2_readOrder_20 rfl (lv_at hl 1 rfl) ?_
    refine lv_dup hx hb dX2_readOrder_21 rfl ?_
    refine va_get (D := D) (ci := 2) (v := .int p1) (C := RX2) (T := TX2) (N := 8) hx hb hts iw_X2_readOrder_X2 hown hK hP 0 rfl rfl 3 (by decide) (hts (.fieldLink RX2 44 "FavourRings$Orders" "place" "I") (List.mem_of_getElem? (i := 1) rfl)) (fun _ h9 => h9) rfl dX2_readOrder_22 ?_
    refine lv_iconst (v := (1 : Int32)) hx hb dX2_readOrder_25 (by decide) ?_
    refine lv_iadd hx hb dX2_readOrder_26 ?_
    refine ptR (ci := 2) (v := .int (p1 + (1 : Int32))) (ty := .int) (C := RX2) (T := TX2) (N := 8) hx hb hts iw_X2_readOrder_X2 tyX2 tyX2_ok nmX2 hown hK hP hD hS 0 rfl rfl 3 (by decide) (hts (.fieldLink RX2 44 "FavourRings$Orders" "place" "I") (List.mem_of_getElem? (i := 1) rfl)) (fun _ h9 => h9) rfl (by decide +kernel) rfl rfl (Nat.le_of_ble_eq_true rfl) (ws' := (wO cA adO (setI vO 3 (p1 + (1 : Int32))))) rfl dX2_readOrder_27 (fun H locs hP hD hS => ?_)
    refine lv_iconst (v := (0 : Int32)) hx hb dX2_readOrder_30 (by decide) ?_
    refine lv_istore_n (lv' := [(3, .int (0 : Int32)), (2, .int u10), (0, .ref (adO 0)), (1, .int p1)]) hx hb dX2_readOrder_31 rfl hl (by decide) rfl (fun ls hl => ?_)
    exact B32 FU (setI vO 3 (p1 + (1 : Int32))) u10 (0 : Int32) _ _ _ h hP hD hS (lv_sub hl [2, 1, 0] rfl)
  · have h := (if_neg c11).symm.trans h
    refine lv_iconst (v := (0 : Int32)) hx hb dX2_readOrder_18 (by decide) ?_
    cases h
    exact endZ hx hb hr hlocks hP hS ⟨rfl, rfl⟩ dX2_readOrder_19
theorem iw_X2_noteFault_X2 : ∀ w ∈ wsX20, w ∈ wsX2_noteFault := fun _ h => List.mem_cons_of_mem _ (List.mem_append_right _ (h))
set_option maxHeartbeats 4000000 in
set_option maxRecDepth 100000 in
theorem c_X2_noteFault (l : Launch) (D : va_G) (cA cQ : ClassId) (adO : Nat → Nat) (vO : St) (p1 : Int32) (p2 : Int32) (p3 : Int32) (o : Int32 × St) (hf : X2_noteFault vO p1 p2 p3 = some o) : Cti l yX2_noteFault wsX2_noteFault ({ frames := 0, cells := 0, slots := 0, locals := 0 }) D (TY cA cQ) [.ref (adO 0), .int p1, .int p2, .int p3] (wO cA adO vO) (wO cA adO o.2) o.1 := by
  refine Wk.i (cc := cX2_noteFault) (maxL := 4) (ret := (some .boolean)) (by decide) rfl (Nat.le_of_ble_eq_true rfl) ?_
  intro p e s m below meth c A ls hx hb hr hlocks hml hown hts hK hN hP hD hA hl
  have hown : s.vm.findClass RX2 = some m.cls := hown
  have hS : va_S A s.heap s.heap [] := va_S.rf
  have hl : lv_has ls 4 [(0, .ref (adO 0)), (1, .int p1), (2, .int p2), (3, .int p3)] := hl
  have h := hf
  unfold X2_noteFault at h
  refine lv_aload_n hx hb dX2_noteFault_0 rfl (lv_at hl 0 rfl) ?_
  refine lv_iload_n hx hb dX2_noteFault_1 rfl (lv_at hl 1 rfl) ?_
  refine ptR (ci := 2) (v := .int p1) (ty := .int) (C := RX2) (T := TX2) (N := 8) hx hb hts iw_X2_noteFault_X2 tyX2 tyX2_ok nmX2 hown hK hP hD hS 0 rfl rfl 5 (by decide) (hts (.fieldLink RX2 25 "FavourRings$Orders" "faultPlace" "I") (List.mem_of_getElem? (i := 1) rfl)) (fun _ h9 => h9) rfl (by decide +kernel) rfl rfl (Nat.le_of_ble_eq_true rfl) (ws' := (wO cA adO (setI vO 5 p1))) rfl dX2_noteFault_2 (fun H locs hP hD hS => ?_)
  refine lv_aload_n hx hb dX2_noteFault_5 rfl (lv_at hl 0 rfl) ?_
  refine lv_iload_n hx hb dX2_noteFault_6 rfl (lv_at hl 2 rfl) ?_
  refine ptR (ci := 2) (v := .int p2) (ty := .int) (C := RX2) (T := TX2) (N := 8) hx hb hts iw_X2_noteFault_X2 tyX2 tyX2_ok nmX2 hown hK hP hD hS 0 rfl rfl 6 (by decide) (hts (.fieldLink RX2 28 "FavourRings$Orders" "faultReason" "I") (List.mem_of_getElem? (i := 2) rfl)) (fun _ h9 => h9) rfl (by decide +kernel) rfl rfl (Nat.le_of_ble_eq_true rfl) (ws' := (wO cA adO (setI (setI vO 5 p1) 6 p2))) rfl dX2_noteFault_7 (fun H locs hP hD hS => ?_)
  refine lv_aload_n hx hb dX2_noteFault_10 rfl (lv_at hl 0 rfl) ?_
  refine lv_iload_n hx hb dX2_noteFault_11 rfl (lv_at hl 3 rfl) ?_
  refine ptR (ci := 2) (v := .int p3) (ty := .int) (C := RX2) (T := TX2) (N := 8) hx hb hts iw_X2_noteFault_X2 tyX2 tyX2_ok nmX2 hown hK hP hD hS 0 rfl rfl 7 (by decide) (hts (.fieldLink RX2 31 "FavourRings$Orders" "faultCause" "I") (List.mem_of_getElem? (i := 3) rfl)) (fun _ h9 => h9) rfl (by decide +kernel) rfl rfl (Nat.le_of_ble_eq_true rfl) (ws' := (wO cA adO (setI (setI (setI vO 5 p1) 6 p2) 7 p3))) rfl dX2_noteFault_12 (fun H locs hP hD hS => ?_)
  refine lv_iconst (v := (0 : Int32)) hx hb dX2_noteFault_15 (by decide) ?_
  cases h
  exact endZ hx hb hr hlocks hP hS ⟨rfl, rfl⟩ dX2_noteFault_16
theorem iw_X3_readOwed_X0 : ∀ w ∈ wsX00, w ∈ wsX3_readOwed := fun _ h => List.mem_cons_of_mem _ (List.mem_append_right _ (h))
theorem iw_X3_readOwed_X3 : ∀ w ∈ wsX30, w ∈ wsX3_readOwed := fun _ h => List.mem_cons_of_mem _ (List.mem_append_left _ (List.mem_append_right _ (h)))
set_option maxHeartbeats 4000000 in
set_option maxRecDepth 100000 in
theorem c_X3_readOwed (l : Launch) (D : va_G) (cA cQ : ClassId) (adR : Nat → Nat) (adB : Nat → Nat) (vR : St) (vB : St) (p2 : Int32) (o : St) (hf : X3_readOwed vR vB p2 = some o) : Ctv l yX3_readOwed wsX3_readOwed ({ frames := 1, cells := 0, slots := 0, locals := 24 }) D (TY cA cQ) [.ref (adR 0), .ref (adB 0), .int p2] (wR cA adR vR ++ (wB cA adB vB)) (wR cA adR o ++ (wB cA adB vB)) := by
  refine Wk.v (cc := cX3_readOwed) (maxL := 5) (ret := none) (by decide) rfl (Nat.le_of_ble_eq_true rfl) ?_
  intro p e s m below meth c A ls hx hb hr hlocks hml hown hts hK hN hP hD hA hl
  have hown : s.vm.findClass RX3 = some m.cls := hown
  have hS : va_S A s.heap s.heap [] := va_S.rf
  have hl : lv_has ls 5 [(0, .ref (adR 0)), (1, .ref (adB 0)), (2, .int p2)] := hl
  have B26 : ∀ (fu26 : Nat) (vR : St) (x3 : Int32) (H : Heap) (locs : List Loc) (ls : Array Slot), X3_readOwed_l26 vB p2 fu26 vR x3 = some o → va_P D vwCl (wR cA adR vR ++ (wB cA adB vB)) H → va_D A (wR cA adR vR ++ (wB cA adB vB)) → va_S A s.heap H locs → lv_has ls 5 [(0, .ref (adR 0)), (1, .ref (adB 0)), (2, .int p2), (3, .int x3)] → W p l e (headSpec wsX3_readOwed ({ frames := 1, cells := 0, slots := 0, locals := 24 })).room s m ([.ref (adR 0), .ref (adB 0), .int p2] : List Value).toArray below meth c H locs 0 0 (MQ below (QV D (wR cA adR o ++ (wB cA adB vB)) A) ([.ref (adR 0), .ref (adB 0), .int p2] : List Value).toArray s 0 0 A) (F0 m 26 ls []) := by
    intro fu26
    induction fu26 with
    | zero =>
      intro vR x3 H locs ls h hP hD hS hl
      cases h
    | succ fu26 ih26 =>
      intro vR x3 H locs ls h hP hD hS hl
      rw [X3_readOwed_l26] at h
      refine lv_iload_n hx hb dX3_readOwed_26 rfl (lv_at hl 3 rfl) ?_
      refine lv_aload_n hx hb dX3_readOwed_27 rfl (lv_at hl 1 rfl) ?_
      refine lv_iconst (v := (2 : Int32)) hx hb dX3_readOwed_28 (by decide) ?_
      obtain ⟨u1, eu1, h⟩ := bd_in h
      refine kI (va_runV (As := [.int (2 : Int32)]) (rest := [.int x3]) ⟨hx, hb, hml, hown, hts⟩ (c_X0_number l D cA cQ adB vB (2 : Int32) u1 eu1 _) (cwV 1 hts gX3_readOwed_X0_number rfl rfl rfl (by decide +kernel) ⟨Nat.le_of_ble_eq_true rfl, Nat.le_of_ble_eq_true rfl⟩) (pV (ci := 0) (q := (RX0, TX0, 13)) hK hN hP hD [5, 6, 7, 8, 9, 10, 11, 12, 13, 14, 15, 16, 17, 18] rfl rfl rfl rfl) rfl rfl hl.1 rfl (lv_room (Nat.le_of_ble_eq_true rfl)) dX3_readOwed_29 ⟨Nat.zero_le _, Nat.zero_le _⟩) hP hD hS hA [5, 6, 7, 8, 9, 10, 11, 12, 13, 14, 15, 16, 17, 18] rfl rfl (ws' := (wR cA adR vR ++ (wB cA adB vB))) rfl (fun H locs hP hD hS => ?_)
      refine lv_icmp_ge (tgt := 91) hx hb dX3_readOwed_32 (by decide) (fun c2 => ?_) (fun c2 => ?_)
      · have h := (if_pos c2).symm.trans h
        cases h
        exact endV hx hb hr hlocks hP hS dX3_readOwed_91
      · have h := (if_neg c2).symm.trans h
        refine lv_aload_n hx hb dX3_readOwed_35 rfl (lv_at hl 1 rfl) ?_
        refine lv_iload_n hx hb dX3_readOwed_36 rfl (lv_at hl 3 rfl) ?_
        refine lv_iconst (v := (-1 : Int32)) hx hb dX3_readOwed_37 (by decide) ?_
        refine lv_iconst (v := (-1 : Int32)) hx hb dX3_readOwed_38 (by decide) ?_
        refine lv_iload_n hx hb dX3_readOwed_39 rfl (lv_at hl 2 rfl) ?_
        obtain ⟨u3, eu3, h⟩ := bd_in h
        refine kI (va_runV (As := [.int x3, .int (-1 : Int32), .int (-1 : Int32), .int p2]) (rest := []) ⟨hx, hb, hml, hown, hts⟩ (c_X0_isLotOf l D cA cQ adB vB x3 (-1 : Int32) (-1 : Int32) p2 u3 eu3 _) (cwV 4 hts gX3_readOwed_X0_isLotOf rfl rfl rfl (by decide +kernel) ⟨Nat.le_of_ble_eq_true rfl, Nat.le_of_ble_eq_true rfl⟩) (pV (ci := 0) (q := (RX0, TX0, 13)) hK hN hP hD [5, 6, 7, 8, 9, 10, 11, 12, 13, 14, 15, 16, 17, 18] rfl rfl rfl rfl) rfl rfl hl.1 rfl (lv_room (Nat.le_of_ble_eq_true rfl)) dX3_readOwed_40 ⟨Nat.zero_le _, Nat.zero_le _⟩) hP hD hS hA [5, 6, 7, 8, 9, 10, 11, 12, 13, 14, 15, 16, 17, 18] rfl rfl (ws' := (wR cA adR vR ++ (wB cA adB vB))) rfl (fun H locs hP hD hS => ?_)
        refine lv_if_eq (tgt := 85) hx hb dX3_readOwed_43 (by decide) (fun c4 => ?_) (fun c4 => ?_)
        · have h := (if_pos c4).symm.trans h
          refine lv_iinc (v := (x3 + (1 : Int32))) (lv' := [(3, .int (x3 + (1 : Int32))), (0, .ref (adR 0)), (1, .ref (adB 0)), (2, .int p2)]) hx hb dX3_readOwed_85 hl (k := 3) rfl rfl (by decide) rfl (fun ls hl => ?_)
          refine lv_goto (tgt := 26) hx hb dX3_readOwed_88 (by decide) ?_
          exact ih26 vR (x3 + (1 : Int32)) _ _ _ h hP hD hS (lv_sub hl [1, 2, 3, 0] rfl)
        · have h := (if_neg c4).symm.trans h
          refine lv_aload_n hx hb dX3_readOwed_46 rfl (lv_at hl 1 rfl) ?_
          refine va_getN (D := D) (ci := 0) (v := .ref (adB 8)) (C := RX0) (T := TX0) (N := 13) hx hb hts iw_X3_readOwed_X0 hown hK hP 5 rfl rfl 7 (by decide) (va_Nw.use rfl hN.2.2.2.2.2.2.2.2.2.2.2.2.2.2.1) (fun _ h9 => h9) rfl dX3_readOwed_47 ?_
          refine lv_iload_n hx hb dX3_readOwed_50 rfl (lv_at hl 3 rfl) ?_
          obtain ⟨u5, eu5, h⟩ := bd_in h
          refine kI (va_runSN (As := [.ref (adB 8), .int x3]) (rest := []) ⟨hx, hb, hml, hown, hts⟩ (c_X4_at l D cA cQ (adB 8) 40 (vB 8) x3 u5 eu5 _) ⟨va_cnB 2 hts gX3_readOwed_X4_at_n28 rfl rfl rfl hN.2.2.2.2.2.2.2.2.2.2.1 (hts (.initialized RX4) (List.mem_of_getElem? (i := 16) rfl)) (by decide +kernel) ⟨Nat.le_of_ble_eq_true rfl, Nat.le_of_ble_eq_true rfl⟩, (hts (.static yX4_at) (List.mem_of_getElem? (i := 15) rfl)), trivial⟩ (pS hK hN hP hD [13] rfl rfl) rfl rfl hl.1 rfl (lv_room (Nat.le_of_ble_eq_true rfl)) dX3_readOwed_51 ⟨Nat.zero_le _, Nat.zero_le _⟩) hP hD hS hA [13] rfl rfl (ws' := (wR cA adR vR ++ (wB cA adB vB))) rfl (fun H locs hP hD hS => ?_)
          refine lv_bipush (v := (8 : Int32)) hx hb dX3_readOwed_54 (by decide) ?_
          refine lv_imul hx hb dX3_readOwed_56 ?_
          refine lv_aload_n hx hb dX3_readOwed_57 rfl (lv_at hl 1 rfl) ?_
          refine va_getN (D := D) (ci := 0) (v := .ref (adB 9)) (C := RX0) (T := TX0) (N := 13) hx hb hts iw_X3_readOwed_X0 hown hK hP 5 rfl rfl 8 (by decide) (va_Nw.use rfl hN.2.2.2.2.2.2.2.2.2.2.2.2.2.2.2.1) (fun _ h9 => h9) rfl dX3_readOwed_58 ?_
          refine lv_iload_n hx hb dX3_readOwed_61 rfl (lv_at hl 3 rfl) ?_
          obtain ⟨u6, eu6, h⟩ := bd_in h
          refine kI (va_runSN (As := [.ref (adB 9), .int x3]) (rest := [.int (u5 * (8 : Int32))]) ⟨hx, hb, hml, hown, hts⟩ (c_X4_at l D cA cQ (adB 9) 40 (vB 9) x3 u6 eu6 _) ⟨va_cnB 2 hts gX3_readOwed_X4_at_n28 rfl rfl rfl hN.2.2.2.2.2.2.2.2.2.2.1 (hts (.initialized RX4) (List.mem_of_getElem? (i := 16) rfl)) (by decide +kernel) ⟨Nat.le_of_ble_eq_true rfl, Nat.le_of_ble_eq_true rfl⟩, (hts (.static yX4_at) (List.mem_of_getElem? (i := 15) rfl)), trivial⟩ (pS hK hN hP hD [14] rfl rfl) rfl rfl hl.1 rfl (lv_room (Nat.le_of_ble_eq_true rfl)) dX3_readOwed_62 ⟨Nat.zero_le _, Nat.zero_le _⟩) hP hD hS hA [14] rfl rfl (ws' := (wR cA adR vR ++ (wB cA adB vB))) rfl (fun H locs hP hD hS => ?_)
          refine lv_iadd hx hb dX3_readOwed_65 ?_
          refine lv_istore (lv' := [(4, .int ((u5 * (8 : Int32)) + u6)), (0, .ref (adR 0)), (1, .ref (adB 0)), (2, .int p2), (3, .int x3)]) hx hb dX3_readOwed_66 hl (by decide) rfl (fun ls hl => ?_)
          refine lv_aload_n hx hb dX3_readOwed_68 rfl (lv_at hl 1 rfl) ?_
          refine va_get (D := D) (ci := 3) (v := .ref (adR 1)) (C := RX3) (T := TX3) (N := 5) hx hb hts iw_X3_readOwed_X3 hown hK hP 0 rfl rfl 0 (by decide) (hts (.fieldLink RX3 9 "FavourRings$Rings" "owed" "[I") (List.mem_of_getElem? (i := 1) rfl)) (fun _ h9 => h9) rfl dX3_readOwed_69 ?_
          refine lv_iload hx hb dX3_readOwed_72 (lv_at hl 0 rfl) ?_
          refine lv_aload_n hx hb dX3_readOwed_74 rfl (lv_at hl 2 rfl) ?_
          refine va_getN (D := D) (ci := 0) (v := .ref (adB 11)) (C := RX0) (T := TX0) (N := 13) hx hb hts iw_X3_readOwed_X0 hown hK hP 5 rfl rfl 10 (by decide) (va_Nw.use rfl hN.2.2.2.2.2.2.2.2.2.2.2.2.2.2.2.2) (fun _ h9 => h9) rfl dX3_readOwed_75 ?_
          refine lv_iload_n hx hb dX3_readOwed_78 rfl (lv_at hl 4 rfl) ?_
          obtain ⟨u7, eu7, h⟩ := bd_in h
          refine kI (va_runSN (As := [.ref (adB 11), .int x3]) (rest := [.int ((u5 * (8 : Int32)) + u6), .ref (adR 1)]) ⟨hx, hb, hml, hown, hts⟩ (c_X4_at l D cA cQ (adB 11) 40 (vB 11) x3 u7 eu7 _) ⟨va_cnB 2 hts gX3_readOwed_X4_at_n28 rfl rfl rfl hN.2.2.2.2.2.2.2.2.2.2.1 (hts (.initialized RX4) (List.mem_of_getElem? (i := 16) rfl)) (by decide +kernel) ⟨Nat.le_of_ble_eq_true rfl, Nat.le_of_ble_eq_true rfl⟩, (hts (.static yX4_at) (List.mem_of_getElem? (i := 15) rfl)), trivial⟩ (pS hK hN hP hD [16] rfl rfl) rfl rfl hl.1 rfl (lv_room (Nat.le_of_ble_eq_true rfl)) dX3_readOwed_79 ⟨Nat.zero_le _, Nat.zero_le _⟩) hP hD hS hA [16] rfl rfl (ws' := (wR cA adR vR ++ (wB cA adB vB))) rfl (fun H locs hP hD hS => ?_)
          obtain ⟨u8, eu8, h⟩ := bd_in h
          refine kV (va_runSN (As := [.ref (adR 1), .int ((u5 * (8 : Int32)) + u6), .int u7]) (rest := []) ⟨hx, hb, hml, hown, hts⟩ (c_X4_add l D cA cQ (adR 1) 64 (vR 1) ((u5 * (8 : Int32)) + u6) u7 u8 eu8 _) ⟨va_cnB 3 hts gX3_readOwed_X4_add_n107 rfl rfl rfl hN.2.2.2.2.2.2.2.2.2.2.2.2.2.1 (hts (.initialized RX4) (List.mem_of_getElem? (i := 16) rfl)) (by decide +kernel) ⟨Nat.le_of_ble_eq_true rfl, Nat.le_of_ble_eq_true rfl⟩, (hts (.static yX4_add) (List.mem_of_getElem? (i := 18) rfl)), trivial⟩ (pS hK hN hP hD [1] rfl rfl) rfl rfl hl.1 rfl (lv_room (Nat.le_of_ble_eq_true rfl)) dX3_readOwed_82 ⟨Nat.zero_le _, Nat.zero_le _⟩) hP hD hS hA [1] rfl rfl (ws' := (wR cA adR (setA vR 1 u8) ++ (wB cA adB vB))) rfl (fun H locs hP hD hS => ?_)
          refine lv_iinc (v := (x3 + (1 : Int32))) (lv' := [(3, .int (x3 + (1 : Int32))), (4, .int ((u5 * (8 : Int32)) + u6)), (0, .ref (adR 0)), (1, .ref (adB 0)), (2, .int p2)]) hx hb dX3_readOwed_85 hl (k := 4) rfl rfl (by decide) rfl (fun ls hl => ?_)
          refine lv_goto (tgt := 26) hx hb dX3_readOwed_88 (by decide) ?_
          exact ih26 (setA vR 1 u8) (x3 + (1 : Int32)) _ _ _ h hP hD hS (lv_sub hl [2, 3, 4, 0] rfl)
  have B2 : ∀ (fu2 : Nat) (vR : St) (x3 : Int32) (H : Heap) (locs : List Loc) (ls : Array Slot), X3_readOwed_l2 vB p2 fu2 vR x3 = some o → va_P D vwCl (wR cA adR vR ++ (wB cA adB vB)) H → va_D A (wR cA adR vR ++ (wB cA adB vB)) → va_S A s.heap H locs → lv_has ls 5 [(0, .ref (adR 0)), (1, .ref (adB 0)), (2, .int p2), (3, .int x3)] → W p l e (headSpec wsX3_readOwed ({ frames := 1, cells := 0, slots := 0, locals := 24 })).room s m ([.ref (adR 0), .ref (adB 0), .int p2] : List Value).toArray below meth c H locs 0 0 (MQ below (QV D (wR cA adR o ++ (wB cA adB vB)) A) ([.ref (adR 0), .ref (adB 0), .int p2] : List Value).toArray s 0 0 A) (F0 m 2 ls []) := by
    intro fu2
    induction fu2 with
    | zero =>
      intro vR x3 H locs ls h hP hD hS hl
      cases h
    | succ fu2 ih2 =>
      intro vR x3 H locs ls h hP hD hS hl
      rw [X3_readOwed_l2] at h
      refine lv_iload_n hx hb dX3_readOwed_2 rfl (lv_at hl 3 rfl) ?_
      refine lv_aload_n hx hb dX3_readOwed_3 rfl (lv_at hl 0 rfl) ?_
      refine va_get (D := D) (ci := 3) (v := .ref (adR 1)) (C := RX3) (T := TX3) (N := 5) hx hb hts iw_X3_readOwed_X3 hown hK hP 0 rfl rfl 0 (by decide) (hts (.fieldLink RX3 9 "FavourRings$Rings" "owed" "[I") (List.mem_of_getElem? (i := 1) rfl)) (fun _ h9 => h9) rfl dX3_readOwed_4 ?_
      refine va_alen hx hb hK hP 1 0 rfl rfl (v := (64 : Int32)) rfl dX3_readOwed_7 ?_
      refine lv_icmp_ge (tgt := 24) hx hb dX3_readOwed_8 (by decide) (fun c9 => ?_) (fun c9 => ?_)
      · have h := (if_pos c9).symm.trans h
        refine lv_iconst (v := (0 : Int32)) hx hb dX3_readOwed_24 (by decide) ?_
        refine lv_istore_n (lv' := [(3, .int (0 : Int32)), (0, .ref (adR 0)), (1, .ref (adB 0)), (2, .int p2)]) hx hb dX3_readOwed_25 rfl hl (by decide) rfl (fun ls hl => ?_)
        exact B26 FU vR (0 : Int32) _ _ _ h hP hD hS (lv_sub hl [1, 2, 3, 0] rfl)
      · have h := (if_neg c9).symm.trans h
        refine lv_aload_n hx hb dX3_readOwed_11 rfl (lv_at hl 0 rfl) ?_
        refine va_get (D := D) (ci := 3) (v := .ref (adR 1)) (C := RX3) (T := TX3) (N := 5) hx hb hts iw_X3_readOwed_X3 hown hK hP 0 rfl rfl 0 (by decide) (hts (.fieldLink RX3 9 "FavourRings$Rings" "owed" "[I") (List.mem_of_getElem? (i := 1) rfl)) (fun _ h9 => h9) rfl dX3_readOwed_12 ?_
        refine lv_iload_n hx hb dX3_readOwed_15 rfl (lv_at hl 3 rfl) ?_
        refine lv_iconst (v := (0 : Int32)) hx hb dX3_readOwed_16 (by decide) ?_
        obtain ⟨g10, eg10, h⟩ := bd_in h
        refine stR hx hb hK hP hD hS 1 0 rfl rfl eg10 (ws' := (wR cA adR (setA vR 1 g10) ++ (wB cA adB vB))) rfl dX3_readOwed_17 (fun H locs hP hD hS => ?_)
        refine lv_iinc (v := (x3 + (1 : Int32))) (lv' := [(3, .int (x3 + (1 : Int32))), (0, .ref (adR 0)), (1, .ref (adB 0)), (2, .int p2)]) hx hb dX3_readOwed_18 hl (k := 3) rfl rfl (by decide) rfl (fun ls hl => ?_)
        refine lv_goto (tgt := 2) hx hb dX3_readOwed_21 (by decide) ?_
        exact ih2 (setA vR 1 g10) (x3 + (1 : Int32)) _ _ _ h hP hD hS (lv_sub hl [1, 2, 3, 0] rfl)
  have h := hf
  unfold X3_readOwed at h
  refine lv_iconst (v := (0 : Int32)) hx hb dX3_readOwed_0 (by decide) ?_
  refine lv_istore_n (lv' := [(3, .int (0 : Int32)), (0, .ref (adR 0)), (1, .ref (adB 0)), (2, .int p2)]) hx hb dX3_readOwed_1 rfl hl (by decide) rfl (fun ls hl => ?_)
  exact B2 FU vR (0 : Int32) _ _ _ h hP hD hS (lv_sub hl [1, 2, 3, 0] rfl)
theorem iw_X3_owedBetween_X3 : ∀ w ∈ wsX30, w ∈ wsX3_owedBetween := fun _ h => List.mem_cons_of_mem _ (List.mem_append_right _ (h))
set_option maxHeartbeats 4000000 in
set_option maxRecDepth 100000 in
theorem c_X3_owedBetween (l : Launch) (D : va_G) (cA cQ : ClassId) (adR : Nat → Nat) (vR : St) (p1 : Int32) (p2 : Int32) (o : Int32) (hf : X3_owedBetween vR p1 p2 = some o) : Cti l yX3_owedBetween wsX3_owedBetween ({ frames := 0, cells := 0, slots := 0, locals := 0 }) D (TY cA cQ) [.ref (adR 0), .int p1, .int p2] (wR cA adR vR) (wR cA adR vR) o := by
  refine Wk.i (cc := cX3_owedBetween) (maxL := 4) (ret := (some .int)) (by decide) rfl (Nat.le_of_ble_eq_true rfl) ?_
  intro p e s m below meth c A ls hx hb hr hlocks hml hown hts hK hN hP hD hA hl
  have hown : s.vm.findClass RX3 = some m.cls := hown
  have hS : va_S A s.heap s.heap [] := va_S.rf
  have hl : lv_has ls 4 [(0, .ref (adR 0)), (1, .int p1), (2, .int p2)] := hl
  have h := hf
  unfold X3_owedBetween at h
  refine lv_iload_n hx hb dX3_owedBetween_0 rfl (lv_at hl 1 rfl) ?_
  refine lv_bipush (v := (8 : Int32)) hx hb dX3_owedBetween_1 (by decide) ?_
  refine lv_imul hx hb dX3_owedBetween_3 ?_
  refine lv_iload_n hx hb dX3_owedBetween_4 rfl (lv_at hl 2 rfl) ?_
  refine lv_iadd hx hb dX3_owedBetween_5 ?_
  refine lv_istore_n (lv' := [(3, .int ((p1 * (8 : Int32)) + p2)), (0, .ref (adR 0)), (1, .int p1), (2, .int p2)]) hx hb dX3_owedBetween_6 rfl hl (by decide) rfl (fun ls hl => ?_)
  refine lv_iload_n hx hb dX3_owedBetween_7 rfl (lv_at hl 0 rfl) ?_
  refine lv_if_lt (tgt := 29) hx hb dX3_owedBetween_8 (by decide) (fun c1 => ?_) (fun c1 => ?_)
  · have h := (if_pos c1).symm.trans h
    refine lv_iconst (v := (0 : Int32)) hx hb dX3_owedBetween_29 (by decide) ?_
    cases h
    exact endI hx hb hr hlocks hP hS rfl dX3_owedBetween_30
  · have h := (if_neg c1).symm.trans h
    refine lv_iload_n hx hb dX3_owedBetween_11 rfl (lv_at hl 0 rfl) ?_
    refine lv_aload_n hx hb dX3_owedBetween_12 rfl (lv_at hl 1 rfl) ?_
    refine va_get (D := D) (ci := 3) (v := .ref (adR 1)) (C := RX3) (T := TX3) (N := 5) hx hb hts iw_X3_owedBetween_X3 hown hK hP 0 rfl rfl 0 (by decide) (hts (.fieldLink RX3 9 "FavourRings$Rings" "owed" "[I") (List.mem_of_getElem? (i := 1) rfl)) (fun _ h9 => h9) rfl dX3_owedBetween_13 ?_
    refine va_alen hx hb hK hP 1 0 rfl rfl (v := (64 : Int32)) rfl dX3_owedBetween_16 ?_
    refine lv_icmp_ge (tgt := 29) hx hb dX3_owedBetween_17 (by decide) (fun c2 => ?_) (fun c2 => ?_)
    · have h := (if_pos c2).symm.trans h
      refine lv_iconst (v := (0 : Int32)) hx hb dX3_owedBetween_29 (by decide) ?_
      cases h
      exact endI hx hb hr hlocks hP hS rfl dX3_owedBetween_30
    · have h := (if_neg c2).symm.trans h
      refine lv_aload_n hx hb dX3_owedBetween_20 rfl (lv_at hl 1 rfl) ?_
      refine va_get (D := D) (ci := 3) (v := .ref (adR 1)) (C := RX3) (T := TX3) (N := 5) hx hb hts iw_X3_owedBetween_X3 hown hK hP 0 rfl rfl 0 (by decide) (hts (.fieldLink RX3 9 "FavourRings$Rings" "owed" "[I") (List.mem_of_getElem? (i := 1) rfl)) (fun _ h9 => h9) rfl dX3_owedBetween_21 ?_
      refine lv_iload_n hx hb dX3_owedBetween_24 rfl (lv_at hl 0 rfl) ?_
      obtain ⟨y3, ey3, h⟩ := bd_in h
      refine ldR hx hb hK hP 1 0 rfl rfl ey3 dX3_owedBetween_25 ?_
      refine lv_goto (tgt := 30) hx hb dX3_owedBetween_26 (by decide) ?_
      cases h
      exact endI hx hb hr hlocks hP hS rfl dX3_owedBetween_30
theorem iw_X3_measureSteps_X3 : ∀ w ∈ wsX30, w ∈ wsX3_measureSteps := fun _ h => List.mem_cons_of_mem _ (List.mem_append_right _ (h))
set_option maxHeartbeats 4000000 in
set_option maxRecDepth 100000 in
theorem c_X3_measureSteps (l : Launch) (D : va_G) (cA cQ : ClassId) (adR : Nat → Nat) (vR : St) (p1 : Int32) (p2 : Int32) (o : St) (hf : X3_measureSteps vR p1 p2 = some o) : Ctv l yX3_measureSteps wsX3_measureSteps ({ frames := 1, cells := 0, slots := 0, locals := 23 }) D (TY cA cQ) [.ref (adR 0), .int p1, .int p2] (wR cA adR vR) (wR cA adR o) := by
  refine Wk.v (cc := cX3_measureSteps) (maxL := 7) (ret := none) (by decide) rfl (Nat.le_of_ble_eq_true rfl) ?_
  intro p e s m below meth c A ls hx hb hr hlocks hml hown hts hK hN hP hD hA hl
  have hown : s.vm.findClass RX3 = some m.cls := hown
  have hS : va_S A s.heap s.heap [] := va_S.rf
  have hl : lv_has ls 7 [(0, .ref (adR 0)), (1, .int p1), (2, .int p2)] := hl
  have B38 : ∀ (fu38 : Nat) (vR : St) (x3 : Int32) (x4 : Int32) (H : Heap) (locs : List Loc) (ls : Array Slot), X3_measureSteps_l38 p1 p2 fu38 vR x3 x4 = some o → va_P D vwCl (wR cA adR vR) H → va_D A (wR cA adR vR) → va_S A s.heap H locs → lv_has ls 7 [(0, .ref (adR 0)), (1, .int p1), (2, .int p2), (3, .int x3), (4, .int x4)] → W p l e (headSpec wsX3_measureSteps ({ frames := 1, cells := 0, slots := 0, locals := 23 })).room s m ([.ref (adR 0), .int p1, .int p2] : List Value).toArray below meth c H locs 0 0 (MQ below (QV D (wR cA adR o) A) ([.ref (adR 0), .int p1, .int p2] : List Value).toArray s 0 0 A) (F0 m 38 ls []) := by
    intro fu38
    induction fu38 with
    | zero =>
      intro vR x3 x4 H locs ls h hP hD hS hl
      cases h
    | succ fu38 ih38 =>
      have B65 : ∀ (fu65 : Nat) (vR : St) (x3 : Int32) (x4 : Int32) (x5 : Int32) (x6 : Int32) (H : Heap) (locs : List Loc) (ls : Array Slot), X3_measureSteps_l65 p1 p2 (X3_measureSteps_l38 p1 p2 fu38) fu65 vR x3 x4 x5 x6 = some o → va_P D vwCl (wR cA adR vR) H → va_D A (wR cA adR vR) → va_S A s.heap H locs → lv_has ls 7 [(0, .ref (adR 0)), (1, .int p1), (2, .int p2), (3, .int x3), (4, .int x4), (5, .int x5), (6, .int x6)] → W p l e (headSpec wsX3_measureSteps ({ frames := 1, cells := 0, slots := 0, locals := 23 })).room s m ([.ref (adR 0), .int p1, .int p2] : List Value).toArray below meth c H locs 0 0 (MQ below (QV D (wR cA adR o) A) ([.ref (adR 0), .int p1, .int p2] : List Value).toArray s 0 0 A) (F0 m 65 ls []) := by
        intro fu65
        induction fu65 with
        | zero =>
          intro vR x3 x4 x5 x6 H locs ls h hP hD hS hl
          cases h
        | succ fu65 ih65 =>
          intro vR x3 x4 x5 x6 H locs ls h hP hD hS hl
          rw [X3_measureSteps_l65] at h
          refine lv_iload hx hb dX3_measureSteps_65 (lv_at hl 6 rfl) ?_
          refine lv_bipush (v := (8 : Int32)) hx hb dX3_measureSteps_67 (by decide) ?_
          refine lv_icmp_ge (tgt := 140) hx hb dX3_measureSteps_69 (by decide) (fun c1 => ?_) (fun c1 => ?_)
          · have h := (if_pos c1).symm.trans h
            refine lv_iinc (v := (x4 + (1 : Int32))) (lv' := [(4, .int (x4 + (1 : Int32))), (0, .ref (adR 0)), (1, .int p1), (2, .int p2), (3, .int x3), (5, .int x5), (6, .int x6)]) hx hb dX3_measureSteps_140 hl (k := 4) rfl rfl (by decide) rfl (fun ls hl => ?_)
            refine lv_goto (tgt := 38) hx hb dX3_measureSteps_143 (by decide) ?_
            exact ih38 vR x3 (x4 + (1 : Int32)) _ _ _ h hP hD hS (lv_sub hl [1, 2, 3, 4, 0] rfl)
          · have h := (if_neg c1).symm.trans h
            refine lv_iload hx hb dX3_measureSteps_72 (lv_at hl 6 rfl) ?_
            refine lv_iload_n hx hb dX3_measureSteps_74 rfl (lv_at hl 1 rfl) ?_
            refine lv_icmp_eq (tgt := 134) hx hb dX3_measureSteps_75 (by decide) (fun c2 => ?_) (fun c2 => ?_)
            · have h := (if_pos c2).symm.trans h
              refine lv_iinc (v := (x6 + (1 : Int32))) (lv' := [(6, .int (x6 + (1 : Int32))), (0, .ref (adR 0)), (1, .int p1), (2, .int p2), (3, .int x3), (4, .int x4), (5, .int x5)]) hx hb dX3_measureSteps_134 hl (k := 6) rfl rfl (by decide) rfl (fun ls hl => ?_)
              refine lv_goto (tgt := 65) hx hb dX3_measureSteps_137 (by decide) ?_
              exact ih65 vR x3 x4 x5 (x6 + (1 : Int32)) _ _ _ h hP hD hS (lv_sub hl [1, 2, 3, 4, 5, 6, 0] rfl)
            · have h := (if_neg c2).symm.trans h
              refine lv_aload_n hx hb dX3_measureSteps_78 rfl (lv_at hl 0 rfl) ?_
              refine va_get (D := D) (ci := 3) (v := .ref (adR 2)) (C := RX3) (T := TX3) (N := 5) hx hb hts iw_X3_measureSteps_X3 hown hK hP 0 rfl rfl 1 (by decide) (hts (.fieldLink RX3 15 "FavourRings$Rings" "steps" "[I") (List.mem_of_getElem? (i := 1) rfl)) (fun _ h9 => h9) rfl dX3_measureSteps_79 ?_
              refine lv_iload hx hb dX3_measureSteps_82 (lv_at hl 6 rfl) ?_
              obtain ⟨u3, eu3, h⟩ := bd_in h
              refine kI (va_runSN (As := [.ref (adR 2), .int x6]) (rest := []) ⟨hx, hb, hml, hown, hts⟩ (c_X4_at l D cA cQ (adR 2) 8 (vR 2) x6 u3 eu3 _) ⟨va_cnB 2 hts gX3_measureSteps_X4_at_n28 rfl rfl rfl hN.2.2.2.2.2.2.2.2.2.2.1 (hts (.initialized RX4) (List.mem_of_getElem? (i := 4) rfl)) (by decide +kernel) ⟨Nat.le_of_ble_eq_true rfl, Nat.le_of_ble_eq_true rfl⟩, (hts (.static yX4_at) (List.mem_of_getElem? (i := 6) rfl)), trivial⟩ (pS hK hN hP hD [2] rfl rfl) rfl rfl hl.1 rfl (lv_room (Nat.le_of_ble_eq_true rfl)) dX3_measureSteps_84 ⟨Nat.zero_le _, Nat.zero_le _⟩) hP hD hS hA [2] rfl rfl (ws' := (wR cA adR vR)) rfl (fun H locs hP hD hS => ?_)
              refine lv_if_ne (tgt := 134) hx hb dX3_measureSteps_87 (by decide) (fun c4 => ?_) (fun c4 => ?_)
              · have h := (if_neg c4).symm.trans h
                refine lv_iinc (v := (x6 + (1 : Int32))) (lv' := [(6, .int (x6 + (1 : Int32))), (0, .ref (adR 0)), (1, .int p1), (2, .int p2), (3, .int x3), (4, .int x4), (5, .int x5)]) hx hb dX3_measureSteps_134 hl (k := 6) rfl rfl (by decide) rfl (fun ls hl => ?_)
                refine lv_goto (tgt := 65) hx hb dX3_measureSteps_137 (by decide) ?_
                exact ih65 vR x3 x4 x5 (x6 + (1 : Int32)) _ _ _ h hP hD hS (lv_sub hl [1, 2, 3, 4, 5, 6, 0] rfl)
              · have h := (if_pos c4).symm.trans h
                refine lv_aload_n hx hb dX3_measureSteps_90 rfl (lv_at hl 0 rfl) ?_
                refine lv_iload hx hb dX3_measureSteps_91 (lv_at hl 6 rfl) ?_
                refine lv_iload hx hb dX3_measureSteps_93 (lv_at hl 5 rfl) ?_
                obtain ⟨u5, eu5, h⟩ := bd_in h
                refine kI (va_runV (As := [.int x6, .int x5]) (rest := []) ⟨hx, hb, hml, hown, hts⟩ (c_X3_owedBetween l D cA cQ adR vR x6 x5 u5 eu5 _) (cwV 2 hts gX3_measureSteps_X3_owedBetween rfl rfl rfl (by decide +kernel) ⟨Nat.le_of_ble_eq_true rfl, Nat.le_of_ble_eq_true rfl⟩) (pV (ci := 3) (q := (RX3, TX3, 5)) hK hN hP hD [0, 1, 2, 3, 4] rfl rfl rfl rfl) rfl rfl hl.1 rfl (lv_room (Nat.le_of_ble_eq_true rfl)) dX3_measureSteps_95 ⟨Nat.zero_le _, Nat.zero_le _⟩) hP hD hS hA [0, 1, 2, 3, 4] rfl rfl (ws' := (wR cA adR vR)) rfl (fun H locs hP hD hS => ?_)
                refine lv_if_le (tgt := 134) hx hb dX3_measureSteps_98 (by decide) (fun c6 => ?_) (fun c6 => ?_)
                · have h := (if_pos c6).symm.trans h
                  refine lv_iinc (v := (x6 + (1 : Int32))) (lv' := [(6, .int (x6 + (1 : Int32))), (0, .ref (adR 0)), (1, .int p1), (2, .int p2), (3, .int x3), (4, .int x4), (5, .int x5)]) hx hb dX3_measureSteps_134 hl (k := 6) rfl rfl (by decide) rfl (fun ls hl => ?_)
                  refine lv_goto (tgt := 65) hx hb dX3_measureSteps_137 (by decide) ?_
                  exact ih65 vR x3 x4 x5 (x6 + (1 : Int32)) _ _ _ h hP hD hS (lv_sub hl [1, 2, 3, 4, 5, 6, 0] rfl)
                · have h := (if_neg c6).symm.trans h
                  refine lv_aload_n hx hb dX3_measureSteps_101 rfl (lv_at hl 0 rfl) ?_
                  refine va_get (D := D) (ci := 3) (v := .ref (adR 2)) (C := RX3) (T := TX3) (N := 5) hx hb hts iw_X3_measureSteps_X3 hown hK hP 0 rfl rfl 1 (by decide) (hts (.fieldLink RX3 15 "FavourRings$Rings" "steps" "[I") (List.mem_of_getElem? (i := 1) rfl)) (fun _ h9 => h9) rfl dX3_measureSteps_102 ?_
                  refine lv_iload hx hb dX3_measureSteps_105 (lv_at hl 6 rfl) ?_
                  refine lv_aload_n hx hb dX3_measureSteps_107 rfl (lv_at hl 0 rfl) ?_
                  refine va_get (D := D) (ci := 3) (v := .ref (adR 2)) (C := RX3) (T := TX3) (N := 5) hx hb hts iw_X3_measureSteps_X3 hown hK hP 0 rfl rfl 1 (by decide) (hts (.fieldLink RX3 15 "FavourRings$Rings" "steps" "[I") (List.mem_of_getElem? (i := 1) rfl)) (fun _ h9 => h9) rfl dX3_measureSteps_108 ?_
                  refine lv_iload hx hb dX3_measureSteps_111 (lv_at hl 5 rfl) ?_
                  obtain ⟨u7, eu7, h⟩ := bd_in h
                  refine kI (va_runSN (As := [.ref (adR 2), .int x5]) (rest := [.int x6, .ref (adR 2)]) ⟨hx, hb, hml, hown, hts⟩ (c_X4_at l D cA cQ (adR 2) 8 (vR 2) x5 u7 eu7 _) ⟨va_cnB 2 hts gX3_measureSteps_X4_at_n28 rfl rfl rfl hN.2.2.2.2.2.2.2.2.2.2.1 (hts (.initialized RX4) (List.mem_of_getElem? (i := 4) rfl)) (by decide +kernel) ⟨Nat.le_of_ble_eq_true rfl, Nat.le_of_ble_eq_true rfl⟩, (hts (.static yX4_at) (List.mem_of_getElem? (i := 6) rfl)), trivial⟩ (pS hK hN hP hD [2] rfl rfl) rfl rfl hl.1 rfl (lv_room (Nat.le_of_ble_eq_true rfl)) dX3_measureSteps_113 ⟨Nat.zero_le _, Nat.zero_le _⟩) hP hD hS hA [2] rfl rfl (ws' := (wR cA adR vR)) rfl (fun H locs hP hD hS => ?_)
                  refine lv_iconst (v := (1 : Int32)) hx hb dX3_measureSteps_116 (by decide) ?_
                  refine lv_iadd hx hb dX3_measureSteps_117 ?_
                  obtain ⟨u8, eu8, h⟩ := bd_in h
                  refine kV (va_runSN (As := [.ref (adR 2), .int x6, .int (u7 + (1 : Int32))]) (rest := []) ⟨hx, hb, hml, hown, hts⟩ (c_X4_put l D cA cQ (adR 2) 8 (vR 2) x6 (u7 + (1 : Int32)) u8 eu8 _) ⟨va_cnB 3 hts gX3_measureSteps_X4_put_n84 rfl rfl rfl hN.2.2.2.2.2.2.2.2.2.2.2.2.1 (hts (.initialized RX4) (List.mem_of_getElem? (i := 4) rfl)) (by decide +kernel) ⟨Nat.le_of_ble_eq_true rfl, Nat.le_of_ble_eq_true rfl⟩, (hts (.static yX4_put) (List.mem_of_getElem? (i := 3) rfl)), trivial⟩ (pS hK hN hP hD [2] rfl rfl) rfl rfl hl.1 rfl (lv_room (Nat.le_of_ble_eq_true rfl)) dX3_measureSteps_118 ⟨Nat.zero_le _, Nat.zero_le _⟩) hP hD hS hA [2] rfl rfl (ws' := (wR cA adR (setA vR 2 u8))) rfl (fun H locs hP hD hS => ?_)
                  refine lv_aload_n hx hb dX3_measureSteps_121 rfl (lv_at hl 0 rfl) ?_
                  refine va_get (D := D) (ci := 3) (v := .ref (adR 3)) (C := RX3) (T := TX3) (N := 5) hx hb hts iw_X3_measureSteps_X3 hown hK hP 0 rfl rfl 2 (by decide) (hts (.fieldLink RX3 18 "FavourRings$Rings" "queue" "[I") (List.mem_of_getElem? (i := 2) rfl)) (fun _ h9 => h9) rfl dX3_measureSteps_122 ?_
                  refine lv_iload_n hx hb dX3_measureSteps_125 rfl (lv_at hl 3 rfl) ?_
                  refine lv_iload hx hb dX3_measureSteps_126 (lv_at hl 6 rfl) ?_
                  obtain ⟨u9, eu9, h⟩ := bd_in h
                  refine kV (va_runSN (As := [.ref (adR 3), .int x3, .int x6]) (rest := []) ⟨hx, hb, hml, hown, hts⟩ (c_X4_put l D cA cQ (adR 3) 8 (vR 3) x3 x6 u9 eu9 _) ⟨va_cnB 3 hts gX3_measureSteps_X4_put_n84 rfl rfl rfl hN.2.2.2.2.2.2.2.2.2.2.2.2.1 (hts (.initialized RX4) (List.mem_of_getElem? (i := 4) rfl)) (by decide +kernel) ⟨Nat.le_of_ble_eq_true rfl, Nat.le_of_ble_eq_true rfl⟩, (hts (.static yX4_put) (List.mem_of_getElem? (i := 3) rfl)), trivial⟩ (pS hK hN hP hD [3] rfl rfl) rfl rfl hl.1 rfl (lv_room (Nat.le_of_ble_eq_true rfl)) dX3_measureSteps_128 ⟨Nat.zero_le _, Nat.zero_le _⟩) hP hD hS hA [3] rfl rfl (ws' := (wR cA adR (setA (setA vR 2 u8) 3 u9))) rfl (fun H locs hP hD hS => ?_)
                  refine lv_iinc (v := (x3 + (1 : Int32))) (lv' := [(3, .int (x3 + (1 : Int32))), (0, .ref (adR 0)), (1, .int p1), (2, .int p2), (4, .int x4), (5, .int x5), (6, .int x6)]) hx hb dX3_measureSteps_131 hl (k := 3) rfl rfl (by decide) rfl (fun ls hl => ?_)
                  refine lv_iinc (v := (x6 + (1 : Int32))) (lv' := [(6, .int (x6 + (1 : Int32))), (3, .int (x3 + (1 : Int32))), (0, .ref (adR 0)), (1, .int p1), (2, .int p2), (4, .int x4), (5, .int x5)]) hx hb dX3_measureSteps_134 hl (k := 6) rfl rfl (by decide) rfl (fun ls hl => ?_)
                  refine lv_goto (tgt := 65) hx hb dX3_measureSteps_137 (by decide) ?_
                  exact ih65 (setA (setA vR 2 u8) 3 u9) (x3 + (1 : Int32)) x4 x5 (x6 + (1 : Int32)) _ _ _ h hP hD hS (lv_sub hl [2, 3, 4, 1, 5, 6, 0] rfl)
      intro vR x3 x4 H locs ls h hP hD hS hl
      rw [X3_measureSteps_l38] at h
      refine lv_iload hx hb dX3_measureSteps_38 (lv_at hl 4 rfl) ?_
      refine lv_bipush (v := (8 : Int32)) hx hb dX3_measureSteps_40 (by decide) ?_
      refine lv_icmp_ge (tgt := 146) hx hb dX3_measureSteps_42 (by decide) (fun c10 => ?_) (fun c10 => ?_)
      · have h := (if_pos c10).symm.trans h
        cases h
        exact endV hx hb hr hlocks hP hS dX3_measureSteps_146
      · have h := (if_neg c10).symm.trans h
        refine lv_iload hx hb dX3_measureSteps_45 (lv_at hl 4 rfl) ?_
        refine lv_iload_n hx hb dX3_measureSteps_47 rfl (lv_at hl 3 rfl) ?_
        refine lv_icmp_ge (tgt := 146) hx hb dX3_measureSteps_48 (by decide) (fun c11 => ?_) (fun c11 => ?_)
        · have h := (if_pos c11).symm.trans h
          cases h
          exact endV hx hb hr hlocks hP hS dX3_measureSteps_146
        · have h := (if_neg c11).symm.trans h
          refine lv_aload_n hx hb dX3_measureSteps_51 rfl (lv_at hl 0 rfl) ?_
          refine va_get (D := D) (ci := 3) (v := .ref (adR 3)) (C := RX3) (T := TX3) (N := 5) hx hb hts iw_X3_measureSteps_X3 hown hK hP 0 rfl rfl 2 (by decide) (hts (.fieldLink RX3 18 "FavourRings$Rings" "queue" "[I") (List.mem_of_getElem? (i := 2) rfl)) (fun _ h9 => h9) rfl dX3_measureSteps_52 ?_
          refine lv_iload hx hb dX3_measureSteps_55 (lv_at hl 4 rfl) ?_
          obtain ⟨u12, eu12, h⟩ := bd_in h
          refine kI (va_runSN (As := [.ref (adR 3), .int x4]) (rest := []) ⟨hx, hb, hml, hown, hts⟩ (c_X4_at l D cA cQ (adR 3) 8 (vR 3) x4 u12 eu12 _) ⟨va_cnB 2 hts gX3_measureSteps_X4_at_n28 rfl rfl rfl hN.2.2.2.2.2.2.2.2.2.2.1 (hts (.initialized RX4) (List.mem_of_getElem? (i := 4) rfl)) (by decide +kernel) ⟨Nat.le_of_ble_eq_true rfl, Nat.le_of_ble_eq_true rfl⟩, (hts (.static yX4_at) (List.mem_of_getElem? (i := 6) rfl)), trivial⟩ (pS hK hN hP hD [3] rfl rfl) rfl rfl hl.1 rfl (lv_room (Nat.le_of_ble_eq_true rfl)) dX3_measureSteps_57 ⟨Nat.zero_le _, Nat.zero_le _⟩) hP hD hS hA [3] rfl rfl (ws' := (wR cA adR vR)) rfl (fun H locs hP hD hS => ?_)
          refine lv_istore (lv' := [(5, .int u12), (0, .ref (adR 0)), (1, .int p1), (2, .int p2), (3, .int x3), (4, .int x4)]) hx hb dX3_measureSteps_60 hl (by decide) rfl (fun ls hl => ?_)
          refine lv_iload_n hx hb dX3_measureSteps_62 rfl (lv_at hl 3 rfl) ?_
          refine lv_istore (lv' := [(6, .int p2), (5, .int u12), (0, .ref (adR 0)), (1, .int p1), (2, .int p2), (3, .int x3), (4, .int x4)]) hx hb dX3_measureSteps_63 hl (by decide) rfl (fun ls hl => ?_)
          exact B65 FU vR x3 x4 u12 p2 _ _ _ h hP hD hS (lv_sub hl [2, 3, 4, 5, 6, 1, 0] rfl)
  have B24 : ∀ (vR : St) (H : Heap) (locs : List Loc) (ls : Array Slot), X3_measureSteps_b24 p1 p2 vR = some o → va_P D vwCl (wR cA adR vR) H → va_D A (wR cA adR vR) → va_S A s.heap H locs → lv_has ls 7 [(0, .ref (adR 0)), (1, .int p1), (2, .int p2)] → W p l e (headSpec wsX3_measureSteps ({ frames := 1, cells := 0, slots := 0, locals := 23 })).room s m ([.ref (adR 0), .int p1, .int p2] : List Value).toArray below meth c H locs 0 0 (MQ below (QV D (wR cA adR o) A) ([.ref (adR 0), .int p1, .int p2] : List Value).toArray s 0 0 A) (F0 m 24 ls []) := by
    intro vR H locs ls h hP hD hS hl
    unfold X3_measureSteps_b24 at h
    refine lv_aload_n hx hb dX3_measureSteps_24 rfl (lv_at hl 0 rfl) ?_
    refine va_get (D := D) (ci := 3) (v := .ref (adR 3)) (C := RX3) (T := TX3) (N := 5) hx hb hts iw_X3_measureSteps_X3 hown hK hP 0 rfl rfl 2 (by decide) (hts (.fieldLink RX3 18 "FavourRings$Rings" "queue" "[I") (List.mem_of_getElem? (i := 2) rfl)) (fun _ h9 => h9) rfl dX3_measureSteps_25 ?_
    refine lv_iconst (v := (0 : Int32)) hx hb dX3_measureSteps_28 (by decide) ?_
    refine lv_iload_n hx hb dX3_measureSteps_29 rfl (lv_at hl 1 rfl) ?_
    obtain ⟨u13, eu13, h⟩ := bd_in h
    refine kV (va_runSN (As := [.ref (adR 3), .int (0 : Int32), .int p1]) (rest := []) ⟨hx, hb, hml, hown, hts⟩ (c_X4_put l D cA cQ (adR 3) 8 (vR 3) (0 : Int32) p1 u13 eu13 _) ⟨va_cnB 3 hts gX3_measureSteps_X4_put_n84 rfl rfl rfl hN.2.2.2.2.2.2.2.2.2.2.2.2.1 (hts (.initialized RX4) (List.mem_of_getElem? (i := 4) rfl)) (by decide +kernel) ⟨Nat.le_of_ble_eq_true rfl, Nat.le_of_ble_eq_true rfl⟩, (hts (.static yX4_put) (List.mem_of_getElem? (i := 3) rfl)), trivial⟩ (pS hK hN hP hD [3] rfl rfl) rfl rfl hl.1 rfl (lv_room (Nat.le_of_ble_eq_true rfl)) dX3_measureSteps_30 ⟨Nat.zero_le _, Nat.zero_le _⟩) hP hD hS hA [3] rfl rfl (ws' := (wR cA adR (setA vR 3 u13))) rfl (fun H locs hP hD hS => ?_)
    refine lv_iconst (v := (1 : Int32)) hx hb dX3_measureSteps_33 (by decide) ?_
    refine lv_istore_n (lv' := [(3, .int (1 : Int32)), (0, .ref (adR 0)), (1, .int p1), (2, .int p2)]) hx hb dX3_measureSteps_34 rfl hl (by decide) rfl (fun ls hl => ?_)
    refine lv_iconst (v := (0 : Int32)) hx hb dX3_measureSteps_35 (by decide) ?_
    refine lv_istore (lv' := [(4, .int (0 : Int32)), (3, .int (1 : Int32)), (0, .ref (adR 0)), (1, .int p1), (2, .int p2)]) hx hb dX3_measureSteps_36 hl (by decide) rfl (fun ls hl => ?_)
    exact B38 FU (setA vR 3 u13) (1 : Int32) (0 : Int32) _ _ _ h hP hD hS (lv_sub hl [2, 3, 4, 1, 0] rfl)
  have B2 : ∀ (fu2 : Nat) (vR : St) (x3 : Int32) (H : Heap) (locs : List Loc) (ls : Array Slot), X3_measureSteps_l2 p1 p2 fu2 vR x3 = some o → va_P D vwCl (wR cA adR vR) H → va_D A (wR cA adR vR) → va_S A s.heap H locs → lv_has ls 7 [(0, .ref (adR 0)), (1, .int p1), (2, .int p2), (3, .int x3)] → W p l e (headSpec wsX3_measureSteps ({ frames := 1, cells := 0, slots := 0, locals := 23 })).room s m ([.ref (adR 0), .int p1, .int p2] : List Value).toArray below meth c H locs 0 0 (MQ below (QV D (wR cA adR o) A) ([.ref (adR 0), .int p1, .int p2] : List Value).toArray s 0 0 A) (F0 m 2 ls []) := by
    intro fu2
    induction fu2 with
    | zero =>
      intro vR x3 H locs ls h hP hD hS hl
      cases h
    | succ fu2 ih2 =>
      intro vR x3 H locs ls h hP hD hS hl
      rw [X3_measureSteps_l2] at h
      refine lv_iload_n hx hb dX3_measureSteps_2 rfl (lv_at hl 3 rfl) ?_
      refine lv_aload_n hx hb dX3_measureSteps_3 rfl (lv_at hl 0 rfl) ?_
      refine va_get (D := D) (ci := 3) (v := .ref (adR 2)) (C := RX3) (T := TX3) (N := 5) hx hb hts iw_X3_measureSteps_X3 hown hK hP 0 rfl rfl 1 (by decide) (hts (.fieldLink RX3 15 "FavourRings$Rings" "steps" "[I") (List.mem_of_getElem? (i := 1) rfl)) (fun _ h9 => h9) rfl dX3_measureSteps_4 ?_
      refine va_alen hx hb hK hP 2 0 rfl rfl (v := (8 : Int32)) rfl dX3_measureSteps_7 ?_
      refine lv_icmp_ge (tgt := 24) hx hb dX3_measureSteps_8 (by decide) (fun c14 => ?_) (fun c14 => ?_)
      · have h := (if_pos c14).symm.trans h
        exact B24 vR _ _ _ h hP hD hS (lv_sub hl [0, 1, 2] rfl)
      · have h := (if_neg c14).symm.trans h
        refine lv_aload_n hx hb dX3_measureSteps_11 rfl (lv_at hl 0 rfl) ?_
        refine va_get (D := D) (ci := 3) (v := .ref (adR 2)) (C := RX3) (T := TX3) (N := 5) hx hb hts iw_X3_measureSteps_X3 hown hK hP 0 rfl rfl 1 (by decide) (hts (.fieldLink RX3 15 "FavourRings$Rings" "steps" "[I") (List.mem_of_getElem? (i := 1) rfl)) (fun _ h9 => h9) rfl dX3_measureSteps_12 ?_
        refine lv_iload_n hx hb dX3_measureSteps_15 rfl (lv_at hl 3 rfl) ?_
        refine lv_iconst (v := (0 : Int32)) hx hb dX3_measureSteps_16 (by decide) ?_
        obtain ⟨g15, eg15, h⟩ := bd_in h
        refine stR hx hb hK hP hD hS 2 0 rfl rfl eg15 (ws' := (wR cA adR (setA vR 2 g15))) rfl dX3_measureSteps_17 (fun H locs hP hD hS => ?_)
        refine lv_iinc (v := (x3 + (1 : Int32))) (lv' := [(3, .int (x3 + (1 : Int32))), (0, .ref (adR 0)), (1, .int p1), (2, .int p2)]) hx hb dX3_measureSteps_18 hl (k := 3) rfl rfl (by decide) rfl (fun ls hl => ?_)
        refine lv_goto (tgt := 2) hx hb dX3_measureSteps_21 (by decide) ?_
        exact ih2 (setA vR 2 g15) (x3 + (1 : Int32)) _ _ _ h hP hD hS (lv_sub hl [1, 2, 3, 0] rfl)
  have h := hf
  unfold X3_measureSteps at h
  refine lv_iconst (v := (0 : Int32)) hx hb dX3_measureSteps_0 (by decide) ?_
  refine lv_istore_n (lv' := [(3, .int (0 : Int32)), (0, .ref (adR 0)), (1, .int p1), (2, .int p2)]) hx hb dX3_measureSteps_1 rfl hl (by decide) rfl (fun ls hl => ?_)
  exact B2 FU vR (0 : Int32) _ _ _ h hP hD hS (lv_sub hl [1, 2, 3, 0] rfl)
theorem iw_X3_shortestFrom_X3 : ∀ w ∈ wsX30, w ∈ wsX3_shortestFrom := fun _ h => List.mem_cons_of_mem _ (List.mem_append_right _ (h))
set_option maxHeartbeats 4000000 in
set_option maxRecDepth 100000 in
theorem c_X3_shortestFrom (l : Launch) (D : va_G) (cA cQ : ClassId) (adR : Nat → Nat) (vR : St) (p1 : Int32) (o : Int32) (hf : X3_shortestFrom vR p1 = some o) : Cti l yX3_shortestFrom wsX3_shortestFrom ({ frames := 1, cells := 0, slots := 0, locals := 23 }) D (TY cA cQ) [.ref (adR 0), .int p1] (wR cA adR vR) (wR cA adR vR) o := by
  refine Wk.i (cc := cX3_shortestFrom) (maxL := 6) (ret := (some .int)) (by decide) rfl (Nat.le_of_ble_eq_true rfl) ?_
  intro p e s m below meth c A ls hx hb hr hlocks hml hown hts hK hN hP hD hA hl
  have hown : s.vm.findClass RX3 = some m.cls := hown
  have hS : va_S A s.heap s.heap [] := va_S.rf
  have hl : lv_has ls 6 [(0, .ref (adR 0)), (1, .int p1)] := hl
  have B6 : ∀ (fu6 : Nat) (x2 : Int32) (x3 : Int32) (H : Heap) (locs : List Loc) (ls : Array Slot), X3_shortestFrom_l6 vR p1 fu6 x2 x3 = some o → va_P D vwCl (wR cA adR vR) H → va_D A (wR cA adR vR) → va_S A s.heap H locs → lv_has ls 6 [(0, .ref (adR 0)), (1, .int p1), (2, .int x2), (3, .int x3)] → W p l e (headSpec wsX3_shortestFrom ({ frames := 1, cells := 0, slots := 0, locals := 23 })).room s m ([.ref (adR 0), .int p1] : List Value).toArray below meth c H locs 0 0 (MQ below (QI D (wR cA adR vR) o A) ([.ref (adR 0), .int p1] : List Value).toArray s 0 0 A) (F0 m 6 ls []) := by
    intro fu6
    induction fu6 with
    | zero =>
      intro x2 x3 H locs ls h hP hD hS hl
      cases h
    | succ fu6 ih6 =>
      have B44 : ∀ (x2 : Int32) (x3 : Int32) (x4 : Int32) (t0 : Int32) (H : Heap) (locs : List Loc) (ls : Array Slot), X3_shortestFrom_b44 vR p1 (X3_shortestFrom_l6 vR p1 fu6) x2 x3 x4 t0 = some o → va_P D vwCl (wR cA adR vR) H → va_D A (wR cA adR vR) → va_S A s.heap H locs → lv_has ls 6 [(0, .ref (adR 0)), (1, .int p1), (2, .int x2), (3, .int x3), (4, .int x4)] → W p l e (headSpec wsX3_shortestFrom ({ frames := 1, cells := 0, slots := 0, locals := 23 })).room s m ([.ref (adR 0), .int p1] : List Value).toArray below meth c H locs 0 0 (MQ below (QI D (wR cA adR vR) o A) ([.ref (adR 0), .int p1] : List Value).toArray s 0 0 A) (F0 m 44 ls [.int t0]) := by
        intro x2 x3 x4 t0 H locs ls h hP hD hS hl
        unfold X3_shortestFrom_b44 at h
        refine lv_istore (lv' := [(5, .int t0), (0, .ref (adR 0)), (1, .int p1), (2, .int x2), (3, .int x3), (4, .int x4)]) hx hb dX3_shortestFrom_44 hl (by decide) rfl (fun ls hl => ?_)
        refine lv_iload hx hb dX3_shortestFrom_46 (lv_at hl 0 rfl) ?_
        refine lv_if_eq (tgt := 64) hx hb dX3_shortestFrom_48 (by decide) (fun c1 => ?_) (fun c1 => ?_)
        · have h := (if_pos c1).symm.trans h
          refine lv_iinc (v := (x3 + (1 : Int32))) (lv' := [(3, .int (x3 + (1 : Int32))), (5, .int t0), (0, .ref (adR 0)), (1, .int p1), (2, .int x2), (4, .int x4)]) hx hb dX3_shortestFrom_64 hl (k := 4) rfl rfl (by decide) rfl (fun ls hl => ?_)
          refine lv_goto (tgt := 6) hx hb dX3_shortestFrom_67 (by decide) ?_
          exact ih6 x2 (x3 + (1 : Int32)) _ _ _ h hP hD hS (lv_sub hl [2, 3, 4, 0] rfl)
        · have h := (if_neg c1).symm.trans h
          refine lv_iload_n hx hb dX3_shortestFrom_51 rfl (lv_at hl 3 rfl) ?_
          refine lv_if_eq (tgt := 61) hx hb dX3_shortestFrom_52 (by decide) (fun c2 => ?_) (fun c2 => ?_)
          · have h := (if_pos c2).symm.trans h
            refine lv_iload hx hb dX3_shortestFrom_61 (lv_at hl 5 rfl) ?_
            refine lv_istore_n (lv' := [(2, .int x4), (5, .int t0), (0, .ref (adR 0)), (1, .int p1), (3, .int x3), (4, .int x4)]) hx hb dX3_shortestFrom_63 rfl hl (by decide) rfl (fun ls hl => ?_)
            refine lv_iinc (v := (x3 + (1 : Int32))) (lv' := [(3, .int (x3 + (1 : Int32))), (2, .int x4), (5, .int t0), (0, .ref (adR 0)), (1, .int p1), (4, .int x4)]) hx hb dX3_shortestFrom_64 hl (k := 4) rfl rfl (by decide) rfl (fun ls hl => ?_)
            refine lv_goto (tgt := 6) hx hb dX3_shortestFrom_67 (by decide) ?_
            exact ih6 x4 (x3 + (1 : Int32)) _ _ _ h hP hD hS (lv_sub hl [3, 4, 1, 0] rfl)
          · have h := (if_neg c2).symm.trans h
            refine lv_iload hx hb dX3_shortestFrom_55 (lv_at hl 5 rfl) ?_
            refine lv_iload_n hx hb dX3_shortestFrom_57 rfl (lv_at hl 3 rfl) ?_
            refine lv_icmp_ge (tgt := 64) hx hb dX3_shortestFrom_58 (by decide) (fun c3 => ?_) (fun c3 => ?_)
            · have h := (if_pos c3).symm.trans h
              refine lv_iinc (v := (x3 + (1 : Int32))) (lv' := [(3, .int (x3 + (1 : Int32))), (5, .int t0), (0, .ref (adR 0)), (1, .int p1), (2, .int x2), (4, .int x4)]) hx hb dX3_shortestFrom_64 hl (k := 4) rfl rfl (by decide) rfl (fun ls hl => ?_)
              refine lv_goto (tgt := 6) hx hb dX3_shortestFrom_67 (by decide) ?_
              exact ih6 x2 (x3 + (1 : Int32)) _ _ _ h hP hD hS (lv_sub hl [2, 3, 4, 0] rfl)
            · have h := (if_neg c3).symm.trans h
              refine lv_iload hx hb dX3_shortestFrom_61 (lv_at hl 5 rfl) ?_
              refine lv_istore_n (lv' := [(2, .int x4), (5, .int t0), (0, .ref (adR 0)), (1, .int p1), (3, .int x3), (4, .int x4)]) hx hb dX3_shortestFrom_63 rfl hl (by decide) rfl (fun ls hl => ?_)
              refine lv_iinc (v := (x3 + (1 : Int32))) (lv' := [(3, .int (x3 + (1 : Int32))), (2, .int x4), (5, .int t0), (0, .ref (adR 0)), (1, .int p1), (4, .int x4)]) hx hb dX3_shortestFrom_64 hl (k := 4) rfl rfl (by decide) rfl (fun ls hl => ?_)
              refine lv_goto (tgt := 6) hx hb dX3_shortestFrom_67 (by decide) ?_
              exact ih6 x4 (x3 + (1 : Int32)) _ _ _ h hP hD hS (lv_sub hl [3, 4, 1, 0] rfl)
      have B43 : ∀ (x2 : Int32) (x3 : Int32) (x4 : Int32) (H : Heap) (locs : List Loc) (ls : Array Slot), X3_shortestFrom_b43 vR p1 (X3_shortestFrom_l6 vR p1 fu6) x2 x3 x4 = some o → va_P D vwCl (wR cA adR vR) H → va_D A (wR cA adR vR) → va_S A s.heap H locs → lv_has ls 6 [(0, .ref (adR 0)), (1, .int p1), (2, .int x2), (3, .int x3), (4, .int x4)] → W p l e (headSpec wsX3_shortestFrom ({ frames := 1, cells := 0, slots := 0, locals := 23 })).room s m ([.ref (adR 0), .int p1] : List Value).toArray below meth c H locs 0 0 (MQ below (QI D (wR cA adR vR) o A) ([.ref (adR 0), .int p1] : List Value).toArray s 0 0 A) (F0 m 43 ls []) := by
        intro x2 x3 x4 H locs ls h hP hD hS hl
        unfold X3_shortestFrom_b43 at h
        refine lv_iconst (v := (0 : Int32)) hx hb dX3_shortestFrom_43 (by decide) ?_
        exact B44 x2 x3 x4 (0 : Int32) _ _ _ h hP hD hS (lv_sub hl [0, 1, 2, 3, 4] rfl)
      intro x2 x3 H locs ls h hP hD hS hl
      rw [X3_shortestFrom_l6] at h
      refine lv_iload_n hx hb dX3_shortestFrom_6 rfl (lv_at hl 3 rfl) ?_
      refine lv_bipush (v := (8 : Int32)) hx hb dX3_shortestFrom_7 (by decide) ?_
      refine lv_icmp_ge (tgt := 70) hx hb dX3_shortestFrom_9 (by decide) (fun c4 => ?_) (fun c4 => ?_)
      · have h := (if_pos c4).symm.trans h
        refine lv_iload_n hx hb dX3_shortestFrom_70 rfl (lv_at hl 2 rfl) ?_
        cases h
        exact endI hx hb hr hlocks hP hS rfl dX3_shortestFrom_71
      · have h := (if_neg c4).symm.trans h
        refine lv_aload_n hx hb dX3_shortestFrom_12 rfl (lv_at hl 0 rfl) ?_
        refine va_get (D := D) (ci := 3) (v := .ref (adR 2)) (C := RX3) (T := TX3) (N := 5) hx hb hts iw_X3_shortestFrom_X3 hown hK hP 0 rfl rfl 1 (by decide) (hts (.fieldLink RX3 15 "FavourRings$Rings" "steps" "[I") (List.mem_of_getElem? (i := 1) rfl)) (fun _ h9 => h9) rfl dX3_shortestFrom_13 ?_
        refine lv_iload_n hx hb dX3_shortestFrom_16 rfl (lv_at hl 3 rfl) ?_
        obtain ⟨u5, eu5, h⟩ := bd_in h
        refine kI (va_runSN (As := [.ref (adR 2), .int x3]) (rest := []) ⟨hx, hb, hml, hown, hts⟩ (c_X4_at l D cA cQ (adR 2) 8 (vR 2) x3 u5 eu5 _) ⟨va_cnB 2 hts gX3_shortestFrom_X4_at_n28 rfl rfl rfl hN.2.2.2.2.2.2.2.2.2.2.1 (hts (.initialized RX4) (List.mem_of_getElem? (i := 3) rfl)) (by decide +kernel) ⟨Nat.le_of_ble_eq_true rfl, Nat.le_of_ble_eq_true rfl⟩, (hts (.static yX4_at) (List.mem_of_getElem? (i := 2) rfl)), trivial⟩ (pS hK hN hP hD [2] rfl rfl) rfl rfl hl.1 rfl (lv_room (Nat.le_of_ble_eq_true rfl)) dX3_shortestFrom_17 ⟨Nat.zero_le _, Nat.zero_le _⟩) hP hD hS hA [2] rfl rfl (ws' := (wR cA adR vR)) rfl (fun H locs hP hD hS => ?_)
        refine lv_iconst (v := (1 : Int32)) hx hb dX3_shortestFrom_20 (by decide) ?_
        refine lv_iadd hx hb dX3_shortestFrom_21 ?_
        refine lv_istore (lv' := [(4, .int (u5 + (1 : Int32))), (0, .ref (adR 0)), (1, .int p1), (2, .int x2), (3, .int x3)]) hx hb dX3_shortestFrom_22 hl (by decide) rfl (fun ls hl => ?_)
        refine lv_iload hx hb dX3_shortestFrom_24 (lv_at hl 0 rfl) ?_
        refine lv_iconst (v := (1 : Int32)) hx hb dX3_shortestFrom_26 (by decide) ?_
        refine lv_icmp_le (tgt := 43) hx hb dX3_shortestFrom_27 (by decide) (fun c6 => ?_) (fun c6 => ?_)
        · have h := (if_pos c6).symm.trans h
          exact B43 x2 x3 (u5 + (1 : Int32)) _ _ _ h hP hD hS (lv_sub hl [1, 2, 3, 4, 0] rfl)
        · have h := (if_neg c6).symm.trans h
          refine lv_aload_n hx hb dX3_shortestFrom_30 rfl (lv_at hl 1 rfl) ?_
          refine lv_iload_n hx hb dX3_shortestFrom_31 rfl (lv_at hl 2 rfl) ?_
          refine lv_iload_n hx hb dX3_shortestFrom_32 rfl (lv_at hl 4 rfl) ?_
          obtain ⟨u7, eu7, h⟩ := bd_in h
          refine kI (va_runV (As := [.int p1, .int x3]) (rest := []) ⟨hx, hb, hml, hown, hts⟩ (c_X3_owedBetween l D cA cQ adR vR p1 x3 u7 eu7 _) (cwV 2 hts gX3_shortestFrom_X3_owedBetween rfl rfl rfl (by decide +kernel) ⟨Nat.le_of_ble_eq_true rfl, Nat.le_of_ble_eq_true rfl⟩) (pV (ci := 3) (q := (RX3, TX3, 5)) hK hN hP hD [0, 1, 2, 3, 4] rfl rfl rfl rfl) rfl rfl hl.1 rfl (lv_room (Nat.le_of_ble_eq_true rfl)) dX3_shortestFrom_33 ⟨Nat.zero_le _, Nat.zero_le _⟩) hP hD hS hA [0, 1, 2, 3, 4] rfl rfl (ws' := (wR cA adR vR)) rfl (fun H locs hP hD hS => ?_)
          refine lv_if_le (tgt := 43) hx hb dX3_shortestFrom_36 (by decide) (fun c8 => ?_) (fun c8 => ?_)
          · have h := (if_pos c8).symm.trans h
            exact B43 x2 x3 (u5 + (1 : Int32)) _ _ _ h hP hD hS (lv_sub hl [1, 2, 3, 4, 0] rfl)
          · have h := (if_neg c8).symm.trans h
            refine lv_iconst (v := (1 : Int32)) hx hb dX3_shortestFrom_39 (by decide) ?_
            refine lv_goto (tgt := 44) hx hb dX3_shortestFrom_40 (by decide) ?_
            exact B44 x2 x3 (u5 + (1 : Int32)) (1 : Int32) _ _ _ h hP hD hS (lv_sub hl [1, 2, 3, 4, 0] rfl)
  have h := hf
  unfold X3_shortestFrom at h
  refine lv_iconst (v := (0 : Int32)) hx hb dX3_shortestFrom_0 (by decide) ?_
  refine lv_istore_n (lv' := [(2, .int (0 : Int32)), (0, .ref (adR 0)), (1, .int p1)]) hx hb dX3_shortestFrom_1 rfl hl (by decide) rfl (fun ls hl => ?_)
  refine lv_iload_n hx hb dX3_shortestFrom_2 rfl (lv_at hl 2 rfl) ?_
  refine lv_iconst (v := (1 : Int32)) hx hb dX3_shortestFrom_3 (by decide) ?_
  refine lv_iadd hx hb dX3_shortestFrom_4 ?_
  refine lv_istore_n (lv' := [(3, .int (p1 + (1 : Int32))), (2, .int (0 : Int32)), (0, .ref (adR 0)), (1, .int p1)]) hx hb dX3_shortestFrom_5 rfl hl (by decide) rfl (fun ls hl => ?_)
  exact B6 FU (0 : Int32) (p1 + (1 : Int32)) _ _ _ h hP hD hS (lv_sub hl [2, 3, 1, 0] rfl)
theorem iw_X3_nextPupil_X3 : ∀ w ∈ wsX30, w ∈ wsX3_nextPupil := fun _ h => List.mem_cons_of_mem _ (List.mem_append_right _ (h))
set_option maxHeartbeats 4000000 in
set_option maxRecDepth 100000 in
theorem c_X3_nextPupil (l : Launch) (D : va_G) (cA cQ : ClassId) (adR : Nat → Nat) (vR : St) (p1 : Int32) (o : Int32) (hf : X3_nextPupil vR p1 = some o) : Cti l yX3_nextPupil wsX3_nextPupil ({ frames := 1, cells := 0, slots := 0, locals := 21 }) D (TY cA cQ) [.ref (adR 0), .int p1] (wR cA adR vR) (wR cA adR vR) o := by
  refine Wk.i (cc := cX3_nextPupil) (maxL := 2) (ret := (some .int)) (by decide) rfl (Nat.le_of_ble_eq_true rfl) ?_
  intro p e s m below meth c A ls hx hb hr hlocks hml hown hts hK hN hP hD hA hl
  have hown : s.vm.findClass RX3 = some m.cls := hown
  have hS : va_S A s.heap s.heap [] := va_S.rf
  have hl : lv_has ls 2 [(0, .ref (adR 0)), (1, .int p1)] := hl
  have h := hf
  unfold X3_nextPupil at h
  refine lv_aload_n hx hb dX3_nextPupil_0 rfl (lv_at hl 0 rfl) ?_
  refine va_get (D := D) (ci := 3) (v := .ref (adR 4)) (C := RX3) (T := TX3) (N := 5) hx hb hts iw_X3_nextPupil_X3 hown hK hP 0 rfl rfl 3 (by decide) (hts (.fieldLink RX3 21 "FavourRings$Rings" "members" "[I") (List.mem_of_getElem? (i := 1) rfl)) (fun _ h9 => h9) rfl dX3_nextPupil_1 ?_
  refine lv_iload_n hx hb dX3_nextPupil_4 rfl (lv_at hl 1 rfl) ?_
  obtain ⟨u1, eu1, h⟩ := bd_in h
  refine kI (va_runSN (As := [.ref (adR 4), .int p1]) (rest := []) ⟨hx, hb, hml, hown, hts⟩ (c_X4_at l D cA cQ (adR 4) 8 (vR 4) p1 u1 eu1 _) ⟨va_cnB 2 hts gX3_nextPupil_X4_at_n28 rfl rfl rfl hN.2.2.2.2.2.2.2.2.2.2.1 (hts (.initialized RX4) (List.mem_of_getElem? (i := 3) rfl)) (by decide +kernel) ⟨Nat.le_of_ble_eq_true rfl, Nat.le_of_ble_eq_true rfl⟩, (hts (.static yX4_at) (List.mem_of_getElem? (i := 2) rfl)), trivial⟩ (pS hK hN hP hD [4] rfl rfl) rfl rfl hl.1 rfl (lv_room (Nat.le_of_ble_eq_true rfl)) dX3_nextPupil_5 ⟨Nat.zero_le _, Nat.zero_le _⟩) hP hD hS hA [4] rfl rfl (ws' := (wR cA adR vR)) rfl (fun H locs hP hD hS => ?_)
  cases h
  exact endI hx hb hr hlocks hP hS rfl dX3_nextPupil_8
theorem iw_X3_lowestBehind_X3 : ∀ w ∈ wsX30, w ∈ wsX3_lowestBehind := fun _ h => List.mem_cons_of_mem _ (List.mem_append_right _ (h))
set_option maxHeartbeats 4000000 in
set_option maxRecDepth 100000 in
theorem c_X3_lowestBehind (l : Launch) (D : va_G) (cA cQ : ClassId) (adR : Nat → Nat) (vR : St) (p1 : Int32) (p2 : Int32) (o : Int32) (hf : X3_lowestBehind vR p1 p2 = some o) : Cti l yX3_lowestBehind wsX3_lowestBehind ({ frames := 1, cells := 0, slots := 0, locals := 23 }) D (TY cA cQ) [.ref (adR 0), .int p1, .int p2] (wR cA adR vR) (wR cA adR vR) o := by
  refine Wk.i (cc := cX3_lowestBehind) (maxL := 4) (ret := (some .int)) (by decide) rfl (Nat.le_of_ble_eq_true rfl) ?_
  intro p e s m below meth c A ls hx hb hr hlocks hml hown hts hK hN hP hD hA hl
  have hown : s.vm.findClass RX3 = some m.cls := hown
  have hS : va_S A s.heap s.heap [] := va_S.rf
  have hl : lv_has ls 4 [(0, .ref (adR 0)), (1, .int p1), (2, .int p2)] := hl
  have B2 : ∀ (fu2 : Nat) (x3 : Int32) (H : Heap) (locs : List Loc) (ls : Array Slot), X3_lowestBehind_l2 vR p1 p2 fu2 x3 = some o → va_P D vwCl (wR cA adR vR) H → va_D A (wR cA adR vR) → va_S A s.heap H locs → lv_has ls 4 [(0, .ref (adR 0)), (1, .int p1), (2, .int p2), (3, .int x3)] → W p l e (headSpec wsX3_lowestBehind ({ frames := 1, cells := 0, slots := 0, locals := 23 })).room s m ([.ref (adR 0), .int p1, .int p2] : List Value).toArray below meth c H locs 0 0 (MQ below (QI D (wR cA adR vR) o A) ([.ref (adR 0), .int p1, .int p2] : List Value).toArray s 0 0 A) (F0 m 2 ls []) := by
    intro fu2
    induction fu2 with
    | zero =>
      intro x3 H locs ls h hP hD hS hl
      cases h
    | succ fu2 ih2 =>
      intro x3 H locs ls h hP hD hS hl
      rw [X3_lowestBehind_l2] at h
      refine lv_iload_n hx hb dX3_lowestBehind_2 rfl (lv_at hl 3 rfl) ?_
      refine lv_bipush (v := (8 : Int32)) hx hb dX3_lowestBehind_3 (by decide) ?_
      refine lv_icmp_ge (tgt := 37) hx hb dX3_lowestBehind_5 (by decide) (fun c1 => ?_) (fun c1 => ?_)
      · have h := (if_pos c1).symm.trans h
        refine lv_iconst (v := (-1 : Int32)) hx hb dX3_lowestBehind_37 (by decide) ?_
        cases h
        exact endI hx hb hr hlocks hP hS rfl dX3_lowestBehind_38
      · have h := (if_neg c1).symm.trans h
        refine lv_aload_n hx hb dX3_lowestBehind_8 rfl (lv_at hl 0 rfl) ?_
        refine va_get (D := D) (ci := 3) (v := .ref (adR 2)) (C := RX3) (T := TX3) (N := 5) hx hb hts iw_X3_lowestBehind_X3 hown hK hP 0 rfl rfl 1 (by decide) (hts (.fieldLink RX3 15 "FavourRings$Rings" "steps" "[I") (List.mem_of_getElem? (i := 1) rfl)) (fun _ h9 => h9) rfl dX3_lowestBehind_9 ?_
        refine lv_iload_n hx hb dX3_lowestBehind_12 rfl (lv_at hl 3 rfl) ?_
        obtain ⟨u2, eu2, h⟩ := bd_in h
        refine kI (va_runSN (As := [.ref (adR 2), .int x3]) (rest := []) ⟨hx, hb, hml, hown, hts⟩ (c_X4_at l D cA cQ (adR 2) 8 (vR 2) x3 u2 eu2 _) ⟨va_cnB 2 hts gX3_lowestBehind_X4_at_n28 rfl rfl rfl hN.2.2.2.2.2.2.2.2.2.2.1 (hts (.initialized RX4) (List.mem_of_getElem? (i := 3) rfl)) (by decide +kernel) ⟨Nat.le_of_ble_eq_true rfl, Nat.le_of_ble_eq_true rfl⟩, (hts (.static yX4_at) (List.mem_of_getElem? (i := 2) rfl)), trivial⟩ (pS hK hN hP hD [2] rfl rfl) rfl rfl hl.1 rfl (lv_room (Nat.le_of_ble_eq_true rfl)) dX3_lowestBehind_13 ⟨Nat.zero_le _, Nat.zero_le _⟩) hP hD hS hA [2] rfl rfl (ws' := (wR cA adR vR)) rfl (fun H locs hP hD hS => ?_)
        refine lv_iload_n hx hb dX3_lowestBehind_16 rfl (lv_at hl 2 rfl) ?_
        refine lv_icmp_ne (tgt := 31) hx hb dX3_lowestBehind_17 (by decide) (fun c3 => ?_) (fun c3 => ?_)
        · have h := (if_neg c3).symm.trans h
          refine lv_iinc (v := (x3 + (1 : Int32))) (lv' := [(3, .int (x3 + (1 : Int32))), (0, .ref (adR 0)), (1, .int p1), (2, .int p2)]) hx hb dX3_lowestBehind_31 hl (k := 3) rfl rfl (by decide) rfl (fun ls hl => ?_)
          refine lv_goto (tgt := 2) hx hb dX3_lowestBehind_34 (by decide) ?_
          exact ih2 (x3 + (1 : Int32)) _ _ _ h hP hD hS (lv_sub hl [1, 2, 3, 0] rfl)
        · have h := (if_pos c3).symm.trans h
          refine lv_aload_n hx hb dX3_lowestBehind_20 rfl (lv_at hl 0 rfl) ?_
          refine lv_iload_n hx hb dX3_lowestBehind_21 rfl (lv_at hl 1 rfl) ?_
          refine lv_iload_n hx hb dX3_lowestBehind_22 rfl (lv_at hl 3 rfl) ?_
          obtain ⟨u4, eu4, h⟩ := bd_in h
          refine kI (va_runV (As := [.int p1, .int x3]) (rest := []) ⟨hx, hb, hml, hown, hts⟩ (c_X3_owedBetween l D cA cQ adR vR p1 x3 u4 eu4 _) (cwV 2 hts gX3_lowestBehind_X3_owedBetween rfl rfl rfl (by decide +kernel) ⟨Nat.le_of_ble_eq_true rfl, Nat.le_of_ble_eq_true rfl⟩) (pV (ci := 3) (q := (RX3, TX3, 5)) hK hN hP hD [0, 1, 2, 3, 4] rfl rfl rfl rfl) rfl rfl hl.1 rfl (lv_room (Nat.le_of_ble_eq_true rfl)) dX3_lowestBehind_23 ⟨Nat.zero_le _, Nat.zero_le _⟩) hP hD hS hA [0, 1, 2, 3, 4] rfl rfl (ws' := (wR cA adR vR)) rfl (fun H locs hP hD hS => ?_)
          refine lv_if_le (tgt := 31) hx hb dX3_lowestBehind_26 (by decide) (fun c5 => ?_) (fun c5 => ?_)
          · have h := (if_pos c5).symm.trans h
            refine lv_iinc (v := (x3 + (1 : Int32))) (lv' := [(3, .int (x3 + (1 : Int32))), (0, .ref (adR 0)), (1, .int p1), (2, .int p2)]) hx hb dX3_lowestBehind_31 hl (k := 3) rfl rfl (by decide) rfl (fun ls hl => ?_)
            refine lv_goto (tgt := 2) hx hb dX3_lowestBehind_34 (by decide) ?_
            exact ih2 (x3 + (1 : Int32)) _ _ _ h hP hD hS (lv_sub hl [1, 2, 3, 0] rfl)
          · have h := (if_neg c5).symm.trans h
            refine lv_iload_n hx hb dX3_lowestBehind_29 rfl (lv_at hl 3 rfl) ?_
            cases h
            exact endI hx hb hr hlocks hP hS rfl dX3_lowestBehind_30
  have h := hf
  unfold X3_lowestBehind at h
  refine lv_iconst (v := (0 : Int32)) hx hb dX3_lowestBehind_0 (by decide) ?_
  refine lv_istore_n (lv' := [(3, .int (0 : Int32)), (0, .ref (adR 0)), (1, .int p1), (2, .int p2)]) hx hb dX3_lowestBehind_1 rfl hl (by decide) rfl (fun ls hl => ?_)
  exact B2 FU (0 : Int32) _ _ _ h hP hD hS (lv_sub hl [1, 2, 3, 0] rfl)

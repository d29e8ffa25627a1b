theorem iw_X5_owed_X5 : ∀ w ∈ wsX50, w ∈ wsX5_owed := fun _ h => List.mem_cons_of_mem _ (List.mem_append_right _ (h))
set_option maxHeartbeats 4000000 in
set_option maxRecDepth 100000 in
theorem c_X5_owed (l : Launch) (D : va_G) (cA cQ : ClassId) (adM : Nat → Nat) (vM : St) (p1 : Int32) (p2 : Int32) (p3 : Int32) (o : Int32) (hf : X5_owed vM p1 p2 p3 = some o) : Cti l yX5_owed wsX5_owed ({ frames := 1, cells := 0, slots := 0, locals := 22 }) D (TY cA cQ) [.ref (adM 0), .int p1, .int p2, .int p3] (wM cA adM vM) (wM cA adM vM) o := by
  refine Wk.i (cc := cX5_owed) (maxL := 6) (ret := (some .int)) (by decide) rfl (Nat.le_of_ble_eq_true rfl) ?_
  intro p e s m below meth c A ls hx hb hr hlocks hml hown hts hK hN hP hD hA hl
  have hown : s.vm.findClass RX5 = some m.cls := hown
  have hS : va_S A s.heap s.heap [] := va_S.rf
  have hl : lv_has ls 6 [(0, .ref (adM 0)), (1, .int p1), (2, .int p2), (3, .int p3)] := hl
  have B6 : ∀ (fu6 : Nat) (x4 : Int32) (x5 : Int32) (H : Heap) (locs : List Loc) (ls : Array Slot), X5_owed_l6 vM p1 p2 p3 fu6 x4 x5 = some o → va_P D vwCl (wM cA adM vM) H → va_D A (wM cA adM vM) → va_S A s.heap H locs → lv_has ls 6 [(0, .ref (adM 0)), (1, .int p1), (2, .int p2), (3, .int p3), (4, .int x4), (5, .int x5)] → W p l e (headSpec wsX5_owed ({ frames := 1, cells := 0, slots := 0, locals := 22 })).room s m ([.ref (adM 0), .int p1, .int p2, .int p3] : List Value).toArray below meth c H locs 0 0 (MQ below (QI D (wM cA adM vM) o A) ([.ref (adM 0), .int p1, .int p2, .int p3] : List Value).toArray s 0 0 A) (F0 m 6 ls []) := by
    intro fu6
    induction fu6 with
    | zero =>
      intro x4 x5 H locs ls h hP hD hS hl
      cases h
    | succ fu6 ih6 =>
      intro x4 x5 H locs ls h hP hD hS hl
      rw [X5_owed_l6] at h
      refine lv_iload hx hb dX5_owed_6 (lv_at hl 5 rfl) ?_
      refine lv_aload_n hx hb dX5_owed_8 rfl (lv_at hl 0 rfl) ?_
      refine va_get (D := D) (ci := 5) (v := .ref (adM 1)) (C := RX5) (T := TX5) (N := 18) hx hb hts iw_X5_owed_X5 hown hK hP 0 rfl rfl 0 (by decide) (hts (.fieldLink RX5 7 "FavourRingsModel" "s" "[I") (List.mem_of_getElem? (i := 1) rfl)) (fun _ h9 => h9) rfl dX5_owed_9 ?_
      refine lv_sipush (v := (290 : Int32)) hx hb dX5_owed_12 (by decide) ?_
      obtain ⟨y1, ey1, h⟩ := bd_in h
      refine ldR hx hb hK hP 1 0 rfl rfl ey1 dX5_owed_15 ?_
      refine lv_icmp_ge (tgt := 74) hx hb dX5_owed_16 (by decide) (fun c2 => ?_) (fun c2 => ?_)
      · have h := (if_pos c2).symm.trans h
        refine lv_iload hx hb dX5_owed_74 (lv_at hl 4 rfl) ?_
        cases h
        exact endI hx hb hr hlocks hP hS rfl dX5_owed_76
      · have h := (if_neg c2).symm.trans h
        refine lv_iload hx hb dX5_owed_19 (lv_at hl 4 rfl) ?_
        refine lv_aload_n hx hb dX5_owed_21 rfl (lv_at hl 0 rfl) ?_
        refine lv_iload hx hb dX5_owed_22 (lv_at hl 5 rfl) ?_
        refine lv_iconst (v := (0 : Int32)) hx hb dX5_owed_24 (by decide) ?_
        obtain ⟨u3, eu3, h⟩ := bd_in h
        refine kI (va_runV (As := [.int x5, .int (0 : Int32)]) (rest := [.int x4]) ⟨hx, hb, hml, hown, hts⟩ (c_X5_of l D cA cQ adM vM x5 (0 : Int32) u3 eu3 _) (cwV 2 hts gX5_owed_X5_of rfl rfl rfl (by decide +kernel) ⟨Nat.le_of_ble_eq_true rfl, Nat.le_of_ble_eq_true rfl⟩) (pV (ci := 5) (q := (RX5, TX5, 18)) hK hN hP hD [0, 1, 2, 3, 4, 5, 6, 7, 8, 9] rfl rfl rfl rfl) rfl rfl hl.1 rfl (lv_room (Nat.le_of_ble_eq_true rfl)) dX5_owed_25 ⟨Nat.zero_le _, Nat.zero_le _⟩) hP hD hS hA [0, 1, 2, 3, 4, 5, 6, 7, 8, 9] rfl rfl (ws' := (wM cA adM vM)) rfl (fun H locs hP hD hS => ?_)
        refine lv_iload_n hx hb dX5_owed_28 rfl (lv_at hl 1 rfl) ?_
        refine lv_icmp_ne (tgt := 64) hx hb dX5_owed_29 (by decide) (fun c4 => ?_) (fun c4 => ?_)
        · have h := (if_neg c4).symm.trans h
          refine lv_iconst (v := (0 : Int32)) hx hb dX5_owed_64 (by decide) ?_
          refine lv_iadd hx hb dX5_owed_65 ?_
          refine lv_istore (lv' := [(4, .int (x4 + (0 : Int32))), (0, .ref (adM 0)), (1, .int p1), (2, .int p2), (3, .int p3), (5, .int x5)]) hx hb dX5_owed_66 hl (by decide) rfl (fun ls hl => ?_)
          refine lv_iinc (v := (x5 + (1 : Int32))) (lv' := [(5, .int (x5 + (1 : Int32))), (4, .int (x4 + (0 : Int32))), (0, .ref (adM 0)), (1, .int p1), (2, .int p2), (3, .int p3)]) hx hb dX5_owed_68 hl (k := 5) rfl rfl (by decide) rfl (fun ls hl => ?_)
          refine lv_goto (tgt := 6) hx hb dX5_owed_71 (by decide) ?_
          exact ih6 (x4 + (0 : Int32)) (x5 + (1 : Int32)) _ _ _ h hP hD hS (lv_sub hl [2, 3, 4, 5, 1, 0] rfl)
        · have h := (if_pos c4).symm.trans h
          refine lv_aload_n hx hb dX5_owed_32 rfl (lv_at hl 0 rfl) ?_
          refine lv_iload hx hb dX5_owed_33 (lv_at hl 5 rfl) ?_
          refine lv_iconst (v := (1 : Int32)) hx hb dX5_owed_35 (by decide) ?_
          obtain ⟨u5, eu5, h⟩ := bd_in h
          refine kI (va_runV (As := [.int x5, .int (1 : Int32)]) (rest := [.int x4]) ⟨hx, hb, hml, hown, hts⟩ (c_X5_of l D cA cQ adM vM x5 (1 : Int32) u5 eu5 _) (cwV 2 hts gX5_owed_X5_of rfl rfl rfl (by decide +kernel) ⟨Nat.le_of_ble_eq_true rfl, Nat.le_of_ble_eq_true rfl⟩) (pV (ci := 5) (q := (RX5, TX5, 18)) hK hN hP hD [0, 1, 2, 3, 4, 5, 6, 7, 8, 9] rfl rfl rfl rfl) rfl rfl hl.1 rfl (lv_room (Nat.le_of_ble_eq_true rfl)) dX5_owed_36 ⟨Nat.zero_le _, Nat.zero_le _⟩) hP hD hS hA [0, 1, 2, 3, 4, 5, 6, 7, 8, 9] rfl rfl (ws' := (wM cA adM vM)) rfl (fun H locs hP hD hS => ?_)
          refine lv_iload_n hx hb dX5_owed_39 rfl (lv_at hl 2 rfl) ?_
          refine lv_icmp_ne (tgt := 64) hx hb dX5_owed_40 (by decide) (fun c6 => ?_) (fun c6 => ?_)
          · have h := (if_neg c6).symm.trans h
            refine lv_iconst (v := (0 : Int32)) hx hb dX5_owed_64 (by decide) ?_
            refine lv_iadd hx hb dX5_owed_65 ?_
            refine lv_istore (lv' := [(4, .int (x4 + (0 : Int32))), (0, .ref (adM 0)), (1, .int p1), (2, .int p2), (3, .int p3), (5, .int x5)]) hx hb dX5_owed_66 hl (by decide) rfl (fun ls hl => ?_)
            refine lv_iinc (v := (x5 + (1 : Int32))) (lv' := [(5, .int (x5 + (1 : Int32))), (4, .int (x4 + (0 : Int32))), (0, .ref (adM 0)), (1, .int p1), (2, .int p2), (3, .int p3)]) hx hb dX5_owed_68 hl (k := 5) rfl rfl (by decide) rfl (fun ls hl => ?_)
            refine lv_goto (tgt := 6) hx hb dX5_owed_71 (by decide) ?_
            exact ih6 (x4 + (0 : Int32)) (x5 + (1 : Int32)) _ _ _ h hP hD hS (lv_sub hl [2, 3, 4, 5, 1, 0] rfl)
          · have h := (if_pos c6).symm.trans h
            refine lv_aload_n hx hb dX5_owed_43 rfl (lv_at hl 0 rfl) ?_
            refine lv_iload hx hb dX5_owed_44 (lv_at hl 5 rfl) ?_
            refine lv_iconst (v := (2 : Int32)) hx hb dX5_owed_46 (by decide) ?_
            obtain ⟨u7, eu7, h⟩ := bd_in h
            refine kI (va_runV (As := [.int x5, .int (2 : Int32)]) (rest := [.int x4]) ⟨hx, hb, hml, hown, hts⟩ (c_X5_of l D cA cQ adM vM x5 (2 : Int32) u7 eu7 _) (cwV 2 hts gX5_owed_X5_of rfl rfl rfl (by decide +kernel) ⟨Nat.le_of_ble_eq_true rfl, Nat.le_of_ble_eq_true rfl⟩) (pV (ci := 5) (q := (RX5, TX5, 18)) hK hN hP hD [0, 1, 2, 3, 4, 5, 6, 7, 8, 9] rfl rfl rfl rfl) rfl rfl hl.1 rfl (lv_room (Nat.le_of_ble_eq_true rfl)) dX5_owed_47 ⟨Nat.zero_le _, Nat.zero_le _⟩) hP hD hS hA [0, 1, 2, 3, 4, 5, 6, 7, 8, 9] rfl rfl (ws' := (wM cA adM vM)) rfl (fun H locs hP hD hS => ?_)
            refine lv_iload_n hx hb dX5_owed_50 rfl (lv_at hl 3 rfl) ?_
            refine lv_icmp_ne (tgt := 64) hx hb dX5_owed_51 (by decide) (fun c8 => ?_) (fun c8 => ?_)
            · have h := (if_neg c8).symm.trans h
              refine lv_iconst (v := (0 : Int32)) hx hb dX5_owed_64 (by decide) ?_
              refine lv_iadd hx hb dX5_owed_65 ?_
              refine lv_istore (lv' := [(4, .int (x4 + (0 : Int32))), (0, .ref (adM 0)), (1, .int p1), (2, .int p2), (3, .int p3), (5, .int x5)]) hx hb dX5_owed_66 hl (by decide) rfl (fun ls hl => ?_)
              refine lv_iinc (v := (x5 + (1 : Int32))) (lv' := [(5, .int (x5 + (1 : Int32))), (4, .int (x4 + (0 : Int32))), (0, .ref (adM 0)), (1, .int p1), (2, .int p2), (3, .int p3)]) hx hb dX5_owed_68 hl (k := 5) rfl rfl (by decide) rfl (fun ls hl => ?_)
              refine lv_goto (tgt := 6) hx hb dX5_owed_71 (by decide) ?_
              exact ih6 (x4 + (0 : Int32)) (x5 + (1 : Int32)) _ _ _ h hP hD hS (lv_sub hl [2, 3, 4, 5, 1, 0] rfl)
            · have h := (if_pos c8).symm.trans h
              refine lv_aload_n hx hb dX5_owed_54 rfl (lv_at hl 0 rfl) ?_
              refine lv_iload hx hb dX5_owed_55 (lv_at hl 5 rfl) ?_
              refine lv_iconst (v := (3 : Int32)) hx hb dX5_owed_57 (by decide) ?_
              obtain ⟨u9, eu9, h⟩ := bd_in h
              refine kI (va_runV (As := [.int x5, .int (3 : Int32)]) (rest := [.int x4]) ⟨hx, hb, hml, hown, hts⟩ (c_X5_of l D cA cQ adM vM x5 (3 : Int32) u9 eu9 _) (cwV 2 hts gX5_owed_X5_of rfl rfl rfl (by decide +kernel) ⟨Nat.le_of_ble_eq_true rfl, Nat.le_of_ble_eq_true rfl⟩) (pV (ci := 5) (q := (RX5, TX5, 18)) hK hN hP hD [0, 1, 2, 3, 4, 5, 6, 7, 8, 9] rfl rfl rfl rfl) rfl rfl hl.1 rfl (lv_room (Nat.le_of_ble_eq_true rfl)) dX5_owed_58 ⟨Nat.zero_le _, Nat.zero_le _⟩) hP hD hS hA [0, 1, 2, 3, 4, 5, 6, 7, 8, 9] rfl rfl (ws' := (wM cA adM vM)) rfl (fun H locs hP hD hS => ?_)
              refine lv_goto (tgt := 65) hx hb dX5_owed_61 (by decide) ?_
              refine lv_iadd hx hb dX5_owed_65 ?_
              refine lv_istore (lv' := [(4, .int (x4 + u9)), (0, .ref (adM 0)), (1, .int p1), (2, .int p2), (3, .int p3), (5, .int x5)]) hx hb dX5_owed_66 hl (by decide) rfl (fun ls hl => ?_)
              refine lv_iinc (v := (x5 + (1 : Int32))) (lv' := [(5, .int (x5 + (1 : Int32))), (4, .int (x4 + u9)), (0, .ref (adM 0)), (1, .int p1), (2, .int p2), (3, .int p3)]) hx hb dX5_owed_68 hl (k := 5) rfl rfl (by decide) rfl (fun ls hl => ?_)
              refine lv_goto (tgt := 6) hx hb dX5_owed_71 (by decide) ?_
              exact ih6 (x4 + u9) (x5 + (1 : Int32)) _ _ _ h hP hD hS (lv_sub hl [2, 3, 4, 5, 1, 0] rfl)
  have h := hf
  unfold X5_owed at h
  refine lv_iconst (v := (0 : Int32)) hx hb dX5_owed_0 (by decide) ?_
  refine lv_istore (lv' := [(4, .int (0 : Int32)), (0, .ref (adM 0)), (1, .int p1), (2, .int p2), (3, .int p3)]) hx hb dX5_owed_1 hl (by decide) rfl (fun ls hl => ?_)
  refine lv_iconst (v := (0 : Int32)) hx hb dX5_owed_3 (by decide) ?_
  refine lv_istore (lv' := [(5, .int (0 : Int32)), (4, .int (0 : Int32)), (0, .ref (adM 0)), (1, .int p1), (2, .int p2), (3, .int p3)]) hx hb dX5_owed_4 hl (by decide) rfl (fun ls hl => ?_)
  exact B6 FU (0 : Int32) (0 : Int32) _ _ _ h hP hD hS (lv_sub hl [2, 3, 4, 5, 1, 0] rfl)
theorem iw_X5_amountOf_X5 : ∀ w ∈ wsX50, w ∈ wsX5_amountOf := fun _ h => List.mem_cons_of_mem _ (List.mem_append_right _ (h))
set_option maxHeartbeats 4000000 in
set_option maxRecDepth 100000 in
theorem c_X5_amountOf (l : Launch) (D : va_G) (cA cQ : ClassId) (adM : Nat → Nat) (vM : St) (p1 : Int32) (p2 : Int32) (o : Int32) (hf : X5_amountOf vM p1 p2 = some o) : Cti l yX5_amountOf wsX5_amountOf ({ frames := 2, cells := 0, slots := 0, locals := 47 }) D (TY cA cQ) [.ref (adM 0), .int p1, .int p2] (wM cA adM vM) (wM cA adM vM) o := by
  refine Wk.i (cc := cX5_amountOf) (maxL := 6) (ret := (some .int)) (by decide) rfl (Nat.le_of_ble_eq_true rfl) ?_
  intro p e s m below meth c A ls hx hb hr hlocks hml hown hts hK hN hP hD hA hl
  have hown : s.vm.findClass RX5 = some m.cls := hown
  have hS : va_S A s.heap s.heap [] := va_S.rf
  have hl : lv_has ls 6 [(0, .ref (adM 0)), (1, .int p1), (2, .int p2)] := hl
  have B7 : ∀ (fu7 : Nat) (x3 : Int32) (x4 : Int32) (H : Heap) (locs : List Loc) (ls : Array Slot), X5_amountOf_l7 vM p1 p2 fu7 x3 x4 = some o → va_P D vwCl (wM cA adM vM) H → va_D A (wM cA adM vM) → va_S A s.heap H locs → lv_has ls 6 [(0, .ref (adM 0)), (1, .int p1), (2, .int p2), (3, .int x3), (4, .int x4)] → W p l e (headSpec wsX5_amountOf ({ frames := 2, cells := 0, slots := 0, locals := 47 })).room s m ([.ref (adM 0), .int p1, .int p2] : List Value).toArray below meth c H locs 0 0 (MQ below (QI D (wM cA adM vM) o A) ([.ref (adM 0), .int p1, .int p2] : List Value).toArray s 0 0 A) (F0 m 7 ls []) := by
    intro fu7
    induction fu7 with
    | zero =>
      intro x3 x4 H locs ls h hP hD hS hl
      cases h
    | succ fu7 ih7 =>
      intro x3 x4 H locs ls h hP hD hS hl
      rw [X5_amountOf_l7] at h
      refine lv_iload hx hb dX5_amountOf_7 (lv_at hl 4 rfl) ?_
      refine lv_iload_n hx hb dX5_amountOf_9 rfl (lv_at hl 1 rfl) ?_
      refine lv_icmp_ge (tgt := 57) hx hb dX5_amountOf_10 (by decide) (fun c1 => ?_) (fun c1 => ?_)
      · have h := (if_pos c1).symm.trans h
        refine lv_iload_n hx hb dX5_amountOf_57 rfl (lv_at hl 3 rfl) ?_
        cases h
        exact endI hx hb hr hlocks hP hS rfl dX5_amountOf_58
      · have h := (if_neg c1).symm.trans h
        refine lv_aload_n hx hb dX5_amountOf_13 rfl (lv_at hl 0 rfl) ?_
        refine lv_aload_n hx hb dX5_amountOf_14 rfl (lv_at hl 0 rfl) ?_
        refine va_get (D := D) (ci := 5) (v := .ref (adM 11)) (C := RX5) (T := TX5) (N := 18) hx hb hts iw_X5_amountOf_X5 hown hK hP 0 rfl rfl 10 (by decide) (hts (.fieldLink RX5 31 "FavourRingsModel" "ring" "[I") (List.mem_of_getElem? (i := 1) rfl)) (fun _ h9 => h9) rfl dX5_amountOf_15 ?_
        refine lv_iload hx hb dX5_amountOf_18 (lv_at hl 4 rfl) ?_
        obtain ⟨y2, ey2, h⟩ := bd_in h
        refine ldR hx hb hK hP 8 0 rfl rfl ey2 dX5_amountOf_20 ?_
        refine lv_aload_n hx hb dX5_amountOf_21 rfl (lv_at hl 0 rfl) ?_
        refine va_get (D := D) (ci := 5) (v := .ref (adM 11)) (C := RX5) (T := TX5) (N := 18) hx hb hts iw_X5_amountOf_X5 hown hK hP 0 rfl rfl 10 (by decide) (hts (.fieldLink RX5 31 "FavourRingsModel" "ring" "[I") (List.mem_of_getElem? (i := 1) rfl)) (fun _ h9 => h9) rfl dX5_amountOf_22 ?_
        refine lv_iload hx hb dX5_amountOf_25 (lv_at hl 4 rfl) ?_
        refine lv_iconst (v := (1 : Int32)) hx hb dX5_amountOf_27 (by decide) ?_
        refine lv_iadd hx hb dX5_amountOf_28 ?_
        refine lv_iload_n hx hb dX5_amountOf_29 rfl (lv_at hl 1 rfl) ?_
        obtain ⟨r3, er3, h⟩ := bd_in h
        refine rmR hx hb er3 dX5_amountOf_30 ?_
        obtain ⟨y4, ey4, h⟩ := bd_in h
        refine ldR hx hb hK hP 8 0 rfl rfl ey4 dX5_amountOf_31 ?_
        refine lv_iload_n hx hb dX5_amountOf_32 rfl (lv_at hl 2 rfl) ?_
        obtain ⟨u5, eu5, h⟩ := bd_in h
        refine kI (va_runV (As := [.int y2, .int y4, .int p2]) (rest := []) ⟨hx, hb, hml, hown, hts⟩ (c_X5_owed l D cA cQ adM vM y2 y4 p2 u5 eu5 _) (cwV 3 hts gX5_amountOf_X5_owed rfl rfl rfl (by decide +kernel) ⟨Nat.le_of_ble_eq_true rfl, Nat.le_of_ble_eq_true rfl⟩) (pV (ci := 5) (q := (RX5, TX5, 18)) hK hN hP hD [0, 1, 2, 3, 4, 5, 6, 7, 8, 9] rfl rfl rfl rfl) rfl rfl hl.1 rfl (lv_room (Nat.le_of_ble_eq_true rfl)) dX5_amountOf_33 ⟨Nat.zero_le _, Nat.zero_le _⟩) hP hD hS hA [0, 1, 2, 3, 4, 5, 6, 7, 8, 9] rfl rfl (ws' := (wM cA adM vM)) rfl (fun H locs hP hD hS => ?_)
        refine lv_istore (lv' := [(5, .int u5), (0, .ref (adM 0)), (1, .int p1), (2, .int p2), (3, .int x3), (4, .int x4)]) hx hb dX5_amountOf_36 hl (by decide) rfl (fun ls hl => ?_)
        refine lv_iload hx hb dX5_amountOf_38 (lv_at hl 0 rfl) ?_
        refine lv_iload_n hx hb dX5_amountOf_40 rfl (lv_at hl 4 rfl) ?_
        refine lv_icmp_ge (tgt := 49) hx hb dX5_amountOf_41 (by decide) (fun c6 => ?_) (fun c6 => ?_)
        · have h := (if_pos c6).symm.trans h
          refine lv_iload_n hx hb dX5_amountOf_49 rfl (lv_at hl 4 rfl) ?_
          refine lv_istore_n (lv' := [(3, .int x3), (5, .int u5), (0, .ref (adM 0)), (1, .int p1), (2, .int p2), (4, .int x4)]) hx hb dX5_amountOf_50 rfl hl (by decide) rfl (fun ls hl => ?_)
          refine lv_iinc (v := (x4 + (1 : Int32))) (lv' := [(4, .int (x4 + (1 : Int32))), (3, .int x3), (5, .int u5), (0, .ref (adM 0)), (1, .int p1), (2, .int p2)]) hx hb dX5_amountOf_51 hl (k := 5) rfl rfl (by decide) rfl (fun ls hl => ?_)
          refine lv_goto (tgt := 7) hx hb dX5_amountOf_54 (by decide) ?_
          exact ih7 x3 (x4 + (1 : Int32)) _ _ _ h hP hD hS (lv_sub hl [3, 4, 5, 1, 0] rfl)
        · have h := (if_neg c6).symm.trans h
          refine lv_iload hx hb dX5_amountOf_44 (lv_at hl 0 rfl) ?_
          refine lv_goto (tgt := 50) hx hb dX5_amountOf_46 (by decide) ?_
          refine lv_istore_n (lv' := [(3, .int u5), (5, .int u5), (0, .ref (adM 0)), (1, .int p1), (2, .int p2), (4, .int x4)]) hx hb dX5_amountOf_50 rfl hl (by decide) rfl (fun ls hl => ?_)
          refine lv_iinc (v := (x4 + (1 : Int32))) (lv' := [(4, .int (x4 + (1 : Int32))), (3, .int u5), (5, .int u5), (0, .ref (adM 0)), (1, .int p1), (2, .int p2)]) hx hb dX5_amountOf_51 hl (k := 5) rfl rfl (by decide) rfl (fun ls hl => ?_)
          refine lv_goto (tgt := 7) hx hb dX5_amountOf_54 (by decide) ?_
          exact ih7 u5 (x4 + (1 : Int32)) _ _ _ h hP hD hS (lv_sub hl [3, 4, 5, 1, 0] rfl)
  have h := hf
  unfold X5_amountOf at h
  refine lv_sipush (v := (1000 : Int32)) hx hb dX5_amountOf_0 (by decide) ?_
  refine lv_istore_n (lv' := [(3, .int (1000 : Int32)), (0, .ref (adM 0)), (1, .int p1), (2, .int p2)]) hx hb dX5_amountOf_3 rfl hl (by decide) rfl (fun ls hl => ?_)
  refine lv_iconst (v := (0 : Int32)) hx hb dX5_amountOf_4 (by decide) ?_
  refine lv_istore (lv' := [(4, .int (0 : Int32)), (3, .int (1000 : Int32)), (0, .ref (adM 0)), (1, .int p1), (2, .int p2)]) hx hb dX5_amountOf_5 hl (by decide) rfl (fun ls hl => ?_)
  exact B7 FU (1000 : Int32) (0 : Int32) _ _ _ h hP hD hS (lv_sub hl [2, 3, 4, 1, 0] rfl)
set_option maxHeartbeats 4000000 in
set_option maxRecDepth 100000 in
theorem c_X5_amount (l : Launch) (D : va_G) (cA cQ : ClassId) (adM : Nat → Nat) (vM : St) (p1 : Int32) (o : Int32 × St) (hf : X5_amount vM p1 = some o) : Cti l yX5_amount wsX5_amount ({ frames := 3, cells := 0, slots := 0, locals := 72 }) D (TY cA cQ) [.ref (adM 0), .int p1] (wM cA adM vM) (wM cA adM o.2) o.1 := by
  refine Wk.i (cc := cX5_amount) (maxL := 3) (ret := (some .int)) (by decide) rfl (Nat.le_of_ble_eq_true rfl) ?_
  intro p e s m below meth c A ls hx hb hr hlocks hml hown hts hK hN hP hD hA hl
  have hown : s.vm.findClass RX5 = some m.cls := hown
  have hS : va_S A s.heap s.heap [] := va_S.rf
  have hl : lv_has ls 3 [(0, .ref (adM 0)), (1, .int p1)] := hl
  have h := hf
  unfold X5_amount at h
  refine lv_iload_n hx hb dX5_amount_0 rfl (lv_at hl 1 rfl) ?_
  obtain ⟨u1, eu1, h⟩ := bd_in h
  refine kI (va_runS (As := [.int p1]) (rest := []) ⟨hx, hb, hml, hown, hts⟩ (c_X5_isKind l D cA cQ  p1 u1 eu1 _) (va_cwS 1 hts gX5_amount_X5_isKind rfl rfl rfl (by decide +kernel) ⟨Nat.le_of_ble_eq_true rfl, Nat.le_of_ble_eq_true rfl⟩) (pS hK hN hP hD [] rfl rfl) rfl rfl hl.1 rfl (lv_room (Nat.le_of_ble_eq_true rfl)) dX5_amount_1 ⟨Nat.zero_le _, Nat.zero_le _⟩) hP hD hS hA [] rfl rfl (ws' := (wM cA adM vM)) rfl (fun H locs hP hD hS => ?_)
  refine lv_if_ne (tgt := 10) hx hb dX5_amount_4 (by decide) (fun c2 => ?_) (fun c2 => ?_)
  · have h := (if_neg c2).symm.trans h
    refine lv_aload_n hx hb dX5_amount_10 rfl (lv_at hl 0 rfl) ?_
    refine lv_iload_n hx hb dX5_amount_11 rfl (lv_at hl 1 rfl) ?_
    obtain ⟨u3, eu3, h⟩ := bd_in h
    refine kI (va_runV (As := [.int p1]) (rest := []) ⟨hx, hb, hml, hown, hts⟩ (c_X5_rings l D cA cQ adM vM p1 u3 eu3 _) (cwV 1 hts gX5_amount_X5_rings rfl rfl rfl (by decide +kernel) ⟨Nat.le_of_ble_eq_true rfl, Nat.le_of_ble_eq_true rfl⟩) (pV (ci := 5) (q := (RX5, TX5, 18)) hK hN hP hD [0, 1, 2, 3, 4, 5, 6, 7, 8, 9] rfl rfl rfl rfl) rfl rfl hl.1 rfl (lv_room (Nat.le_of_ble_eq_true rfl)) dX5_amount_12 ⟨Nat.zero_le _, Nat.zero_le _⟩) hP hD hS hA [0, 1, 2, 3, 4, 5, 6, 7, 8, 9] rfl rfl (ws' := (wM cA adM u3.2)) rfl (fun H locs hP hD hS => ?_)
    refine lv_istore_n (lv' := [(2, .int u3.1), (0, .ref (adM 0)), (1, .int p1)]) hx hb dX5_amount_15 rfl hl (by decide) rfl (fun ls hl => ?_)
    refine lv_iload_n hx hb dX5_amount_16 rfl (lv_at hl 0 rfl) ?_
    refine lv_if_le (tgt := 29) hx hb dX5_amount_17 (by decide) (fun c4 => ?_) (fun c4 => ?_)
    · have h := (if_pos c4).symm.trans h
      refine lv_ldc (v := (-1000004 : Int32)) hx hb hown (hts (.constant RX5 57 (-1000004)) (List.mem_of_getElem? (i := 2) rfl)) dX5_amount_29 ?_
      cases h
      exact endI hx hb hr hlocks hP hS rfl dX5_amount_31
    · have h := (if_neg c4).symm.trans h
      refine lv_aload_n hx hb dX5_amount_20 rfl (lv_at hl 1 rfl) ?_
      refine lv_iload_n hx hb dX5_amount_21 rfl (lv_at hl 0 rfl) ?_
      refine lv_iload_n hx hb dX5_amount_22 rfl (lv_at hl 2 rfl) ?_
      obtain ⟨u5, eu5, h⟩ := bd_in h
      refine kI (va_runV (As := [.int u3.1, .int p1]) (rest := []) ⟨hx, hb, hml, hown, hts⟩ (c_X5_amountOf l D cA cQ adM u3.2 u3.1 p1 u5 eu5 _) (cwV 2 hts gX5_amount_X5_amountOf rfl rfl rfl (by decide +kernel) ⟨Nat.le_of_ble_eq_true rfl, Nat.le_of_ble_eq_true rfl⟩) (pV (ci := 5) (q := (RX5, TX5, 18)) hK hN hP hD [0, 1, 2, 3, 4, 5, 6, 7, 8, 9] rfl rfl rfl rfl) rfl rfl hl.1 rfl (lv_room (Nat.le_of_ble_eq_true rfl)) dX5_amount_23 ⟨Nat.zero_le _, Nat.zero_le _⟩) hP hD hS hA [0, 1, 2, 3, 4, 5, 6, 7, 8, 9] rfl rfl (ws' := (wM cA adM u3.2)) rfl (fun H locs hP hD hS => ?_)
      refine lv_goto (tgt := 31) hx hb dX5_amount_26 (by decide) ?_
      cases h
      exact endI hx hb hr hlocks hP hS rfl dX5_amount_31
  · have h := (if_pos c2).symm.trans h
    refine lv_ldc (v := (-1000001 : Int32)) hx hb hown (hts (.constant RX5 86 (-1000001)) (List.mem_of_getElem? (i := 1) rfl)) dX5_amount_7 ?_
    cases h
    exact endI hx hb hr hlocks hP hS rfl dX5_amount_9
theorem iw_X5_sumOf_X5 : ∀ w ∈ wsX50, w ∈ wsX5_sumOf := fun _ h => List.mem_cons_of_mem _ (List.mem_append_right _ (h))
set_option maxHeartbeats 4000000 in
set_option maxRecDepth 100000 in
theorem c_X5_sumOf (l : Launch) (D : va_G) (cA cQ : ClassId) (adM : Nat → Nat) (vM : St) (p1 : Int32) (p2 : Int32) (o : Int32) (hf : X5_sumOf vM p1 p2 = some o) : Cti l yX5_sumOf wsX5_sumOf ({ frames := 1, cells := 0, slots := 0, locals := 22 }) D (TY cA cQ) [.ref (adM 0), .int p1, .int p2] (wM cA adM vM) (wM cA adM vM) o := by
  refine Wk.i (cc := cX5_sumOf) (maxL := 5) (ret := (some .int)) (by decide) rfl (Nat.le_of_ble_eq_true rfl) ?_
  intro p e s m below meth c A ls hx hb hr hlocks hml hown hts hK hN hP hD hA hl
  have hown : s.vm.findClass RX5 = some m.cls := hown
  have hS : va_S A s.heap s.heap [] := va_S.rf
  have hl : lv_has ls 5 [(0, .ref (adM 0)), (1, .int p1), (2, .int p2)] := hl
  have B5 : ∀ (fu5 : Nat) (x3 : Int32) (x4 : Int32) (H : Heap) (locs : List Loc) (ls : Array Slot), X5_sumOf_l5 vM p1 p2 fu5 x3 x4 = some o → va_P D vwCl (wM cA adM vM) H → va_D A (wM cA adM vM) → va_S A s.heap H locs → lv_has ls 5 [(0, .ref (adM 0)), (1, .int p1), (2, .int p2), (3, .int x3), (4, .int x4)] → W p l e (headSpec wsX5_sumOf ({ frames := 1, cells := 0, slots := 0, locals := 22 })).room s m ([.ref (adM 0), .int p1, .int p2] : List Value).toArray below meth c H locs 0 0 (MQ below (QI D (wM cA adM vM) o A) ([.ref (adM 0), .int p1, .int p2] : List Value).toArray s 0 0 A) (F0 m 5 ls []) := by
    intro fu5
    induction fu5 with
    | zero =>
      intro x3 x4 H locs ls h hP hD hS hl
      cases h
    | succ fu5 ih5 =>
      intro x3 x4 H locs ls h hP hD hS hl
      rw [X5_sumOf_l5] at h
      refine lv_iload hx hb dX5_sumOf_5 (lv_at hl 4 rfl) ?_
      refine lv_aload_n hx hb dX5_sumOf_7 rfl (lv_at hl 0 rfl) ?_
      refine va_get (D := D) (ci := 5) (v := .ref (adM 1)) (C := RX5) (T := TX5) (N := 18) hx hb hts iw_X5_sumOf_X5 hown hK hP 0 rfl rfl 0 (by decide) (hts (.fieldLink RX5 7 "FavourRingsModel" "s" "[I") (List.mem_of_getElem? (i := 1) rfl)) (fun _ h9 => h9) rfl dX5_sumOf_8 ?_
      refine lv_sipush (v := (290 : Int32)) hx hb dX5_sumOf_11 (by decide) ?_
      obtain ⟨y1, ey1, h⟩ := bd_in h
      refine ldR hx hb hK hP 1 0 rfl rfl ey1 dX5_sumOf_14 ?_
      refine lv_icmp_ge (tgt := 49) hx hb dX5_sumOf_15 (by decide) (fun c2 => ?_) (fun c2 => ?_)
      · have h := (if_pos c2).symm.trans h
        refine lv_iload_n hx hb dX5_sumOf_49 rfl (lv_at hl 3 rfl) ?_
        cases h
        exact endI hx hb hr hlocks hP hS rfl dX5_sumOf_50
      · have h := (if_neg c2).symm.trans h
        refine lv_iload_n hx hb dX5_sumOf_18 rfl (lv_at hl 3 rfl) ?_
        refine lv_aload_n hx hb dX5_sumOf_19 rfl (lv_at hl 0 rfl) ?_
        refine lv_iload hx hb dX5_sumOf_20 (lv_at hl 4 rfl) ?_
        refine lv_iload_n hx hb dX5_sumOf_22 rfl (lv_at hl 2 rfl) ?_
        obtain ⟨u3, eu3, h⟩ := bd_in h
        refine kI (va_runV (As := [.int x4, .int p2]) (rest := [.int x3]) ⟨hx, hb, hml, hown, hts⟩ (c_X5_of l D cA cQ adM vM x4 p2 u3 eu3 _) (cwV 2 hts gX5_sumOf_X5_of rfl rfl rfl (by decide +kernel) ⟨Nat.le_of_ble_eq_true rfl, Nat.le_of_ble_eq_true rfl⟩) (pV (ci := 5) (q := (RX5, TX5, 18)) hK hN hP hD [0, 1, 2, 3, 4, 5, 6, 7, 8, 9] rfl rfl rfl rfl) rfl rfl hl.1 rfl (lv_room (Nat.le_of_ble_eq_true rfl)) dX5_sumOf_23 ⟨Nat.zero_le _, Nat.zero_le _⟩) hP hD hS hA [0, 1, 2, 3, 4, 5, 6, 7, 8, 9] rfl rfl (ws' := (wM cA adM vM)) rfl (fun H locs hP hD hS => ?_)
        refine lv_iload_n hx hb dX5_sumOf_26 rfl (lv_at hl 1 rfl) ?_
        refine lv_icmp_ne (tgt := 40) hx hb dX5_sumOf_27 (by decide) (fun c4 => ?_) (fun c4 => ?_)
        · have h := (if_neg c4).symm.trans h
          refine lv_iconst (v := (0 : Int32)) hx hb dX5_sumOf_40 (by decide) ?_
          refine lv_iadd hx hb dX5_sumOf_41 ?_
          refine lv_istore_n (lv' := [(3, .int (x3 + (0 : Int32))), (0, .ref (adM 0)), (1, .int p1), (2, .int p2), (4, .int x4)]) hx hb dX5_sumOf_42 rfl hl (by decide) rfl (fun ls hl => ?_)
          refine lv_iinc (v := (x4 + (1 : Int32))) (lv' := [(4, .int (x4 + (1 : Int32))), (3, .int (x3 + (0 : Int32))), (0, .ref (adM 0)), (1, .int p1), (2, .int p2)]) hx hb dX5_sumOf_43 hl (k := 4) rfl rfl (by decide) rfl (fun ls hl => ?_)
          refine lv_goto (tgt := 5) hx hb dX5_sumOf_46 (by decide) ?_
          exact ih5 (x3 + (0 : Int32)) (x4 + (1 : Int32)) _ _ _ h hP hD hS (lv_sub hl [2, 3, 4, 1, 0] rfl)
        · have h := (if_pos c4).symm.trans h
          refine lv_aload_n hx hb dX5_sumOf_30 rfl (lv_at hl 0 rfl) ?_
          refine lv_iload hx hb dX5_sumOf_31 (lv_at hl 4 rfl) ?_
          refine lv_iconst (v := (3 : Int32)) hx hb dX5_sumOf_33 (by decide) ?_
          obtain ⟨u5, eu5, h⟩ := bd_in h
          refine kI (va_runV (As := [.int x4, .int (3 : Int32)]) (rest := [.int x3]) ⟨hx, hb, hml, hown, hts⟩ (c_X5_of l D cA cQ adM vM x4 (3 : Int32) u5 eu5 _) (cwV 2 hts gX5_sumOf_X5_of rfl rfl rfl (by decide +kernel) ⟨Nat.le_of_ble_eq_true rfl, Nat.le_of_ble_eq_true rfl⟩) (pV (ci := 5) (q := (RX5, TX5, 18)) hK hN hP hD [0, 1, 2, 3, 4, 5, 6, 7, 8, 9] rfl rfl rfl rfl) rfl rfl hl.1 rfl (lv_room (Nat.le_of_ble_eq_true rfl)) dX5_sumOf_34 ⟨Nat.zero_le _, Nat.zero_le _⟩) hP hD hS hA [0, 1, 2, 3, 4, 5, 6, 7, 8, 9] rfl rfl (ws' := (wM cA adM vM)) rfl (fun H locs hP hD hS => ?_)
          refine lv_goto (tgt := 41) hx hb dX5_sumOf_37 (by decide) ?_
          refine lv_iadd hx hb dX5_sumOf_41 ?_
          refine lv_istore_n (lv' := [(3, .int (x3 + u5)), (0, .ref (adM 0)), (1, .int p1), (2, .int p2), (4, .int x4)]) hx hb dX5_sumOf_42 rfl hl (by decide) rfl (fun ls hl => ?_)
          refine lv_iinc (v := (x4 + (1 : Int32))) (lv' := [(4, .int (x4 + (1 : Int32))), (3, .int (x3 + u5)), (0, .ref (adM 0)), (1, .int p1), (2, .int p2)]) hx hb dX5_sumOf_43 hl (k := 4) rfl rfl (by decide) rfl (fun ls hl => ?_)
          refine lv_goto (tgt := 5) hx hb dX5_sumOf_46 (by decide) ?_
          exact ih5 (x3 + u5) (x4 + (1 : Int32)) _ _ _ h hP hD hS (lv_sub hl [2, 3, 4, 1, 0] rfl)
  have h := hf
  unfold X5_sumOf at h
  refine lv_iconst (v := (0 : Int32)) hx hb dX5_sumOf_0 (by decide) ?_
  refine lv_istore_n (lv' := [(3, .int (0 : Int32)), (0, .ref (adM 0)), (1, .int p1), (2, .int p2)]) hx hb dX5_sumOf_1 rfl hl (by decide) rfl (fun ls hl => ?_)
  refine lv_iconst (v := (0 : Int32)) hx hb dX5_sumOf_2 (by decide) ?_
  refine lv_istore (lv' := [(4, .int (0 : Int32)), (3, .int (0 : Int32)), (0, .ref (adM 0)), (1, .int p1), (2, .int p2)]) hx hb dX5_sumOf_3 hl (by decide) rfl (fun ls hl => ?_)
  exact B5 FU (0 : Int32) (0 : Int32) _ _ _ h hP hD hS (lv_sub hl [2, 3, 4, 1, 0] rfl)
set_option maxHeartbeats 4000000 in
set_option maxRecDepth 100000 in
theorem c_X5_balance (l : Launch) (D : va_G) (cA cQ : ClassId) (adM : Nat → Nat) (vM : St) (p1 : Int32) (o : Int32) (hf : X5_balance vM p1 = some o) : Cti l yX5_balance wsX5_balance ({ frames := 2, cells := 0, slots := 0, locals := 46 }) D (TY cA cQ) [.ref (adM 0), .int p1] (wM cA adM vM) (wM cA adM vM) o := by
  refine Wk.i (cc := cX5_balance) (maxL := 2) (ret := (some .int)) (by decide) rfl (Nat.le_of_ble_eq_true rfl) ?_
  intro p e s m below meth c A ls hx hb hr hlocks hml hown hts hK hN hP hD hA hl
  have hown : s.vm.findClass RX5 = some m.cls := hown
  have hS : va_S A s.heap s.heap [] := va_S.rf
  have hl : lv_has ls 2 [(0, .ref (adM 0)), (1, .int p1)] := hl
  have h := hf
  unfold X5_balance at h
  refine lv_aload_n hx hb dX5_balance_0 rfl (lv_at hl 0 rfl) ?_
  refine lv_iload_n hx hb dX5_balance_1 rfl (lv_at hl 1 rfl) ?_
  refine lv_iconst (v := (1 : Int32)) hx hb dX5_balance_2 (by decide) ?_
  obtain ⟨u1, eu1, h⟩ := bd_in h
  refine kI (va_runV (As := [.int p1, .int (1 : Int32)]) (rest := []) ⟨hx, hb, hml, hown, hts⟩ (c_X5_sumOf l D cA cQ adM vM p1 (1 : Int32) u1 eu1 _) (cwV 2 hts gX5_balance_X5_sumOf rfl rfl rfl (by decide +kernel) ⟨Nat.le_of_ble_eq_true rfl, Nat.le_of_ble_eq_true rfl⟩) (pV (ci := 5) (q := (RX5, TX5, 18)) hK hN hP hD [0, 1, 2, 3, 4, 5, 6, 7, 8, 9] rfl rfl rfl rfl) rfl rfl hl.1 rfl (lv_room (Nat.le_of_ble_eq_true rfl)) dX5_balance_3 ⟨Nat.zero_le _, Nat.zero_le _⟩) hP hD hS hA [0, 1, 2, 3, 4, 5, 6, 7, 8, 9] rfl rfl (ws' := (wM cA adM vM)) rfl (fun H locs hP hD hS => ?_)
  refine lv_aload_n hx hb dX5_balance_6 rfl (lv_at hl 0 rfl) ?_
  refine lv_iload_n hx hb dX5_balance_7 rfl (lv_at hl 1 rfl) ?_
  refine lv_iconst (v := (0 : Int32)) hx hb dX5_balance_8 (by decide) ?_
  obtain ⟨u2, eu2, h⟩ := bd_in h
  refine kI (va_runV (As := [.int p1, .int (0 : Int32)]) (rest := [.int u1]) ⟨hx, hb, hml, hown, hts⟩ (c_X5_sumOf l D cA cQ adM vM p1 (0 : Int32) u2 eu2 _) (cwV 2 hts gX5_balance_X5_sumOf rfl rfl rfl (by decide +kernel) ⟨Nat.le_of_ble_eq_true rfl, Nat.le_of_ble_eq_true rfl⟩) (pV (ci := 5) (q := (RX5, TX5, 18)) hK hN hP hD [0, 1, 2, 3, 4, 5, 6, 7, 8, 9] rfl rfl rfl rfl) rfl rfl hl.1 rfl (lv_room (Nat.le_of_ble_eq_true rfl)) dX5_balance_9 ⟨Nat.zero_le _, Nat.zero_le _⟩) hP hD hS hA [0, 1, 2, 3, 4, 5, 6, 7, 8, 9] rfl rfl (ws' := (wM cA adM vM)) rfl (fun H locs hP hD hS => ?_)
  refine lv_isub hx hb dX5_balance_12 ?_
  cases h
  exact endI hx hb hr hlocks hP hS rfl dX5_balance_13
theorem iw_X5_barred_X5 : ∀ w ∈ wsX50, w ∈ wsX5_barred := fun _ h => List.mem_cons_of_mem _ (List.mem_append_right _ (h))
set_option maxHeartbeats 4000000 in
set_option maxRecDepth 100000 in
theorem c_X5_barred (l : Launch) (D : va_G) (cA cQ : ClassId) (adM : Nat → Nat) (vM : St) (p1 : Int32) (p2 : Int32) (o : Int32) (hf : X5_barred vM p1 p2 = some o) : Cti l yX5_barred wsX5_barred ({ frames := 2, cells := 0, slots := 0, locals := 46 }) D (TY cA cQ) [.ref (adM 0), .int p1, .int p2] (wM cA adM vM) (wM cA adM vM) o := by
  refine Wk.i (cc := cX5_barred) (maxL := 3) (ret := (some .int)) (by decide) rfl (Nat.le_of_ble_eq_true rfl) ?_
  intro p e s m below meth c A ls hx hb hr hlocks hml hown hts hK hN hP hD hA hl
  have hown : s.vm.findClass RX5 = some m.cls := hown
  have hS : va_S A s.heap s.heap [] := va_S.rf
  have hl : lv_has ls 3 [(0, .ref (adM 0)), (1, .int p1), (2, .int p2)] := hl
  have h := hf
  unfold X5_barred at h
  refine lv_aload_n hx hb dX5_barred_0 rfl (lv_at hl 0 rfl) ?_
  refine lv_iload_n hx hb dX5_barred_1 rfl (lv_at hl 1 rfl) ?_
  refine lv_iconst (v := (0 : Int32)) hx hb dX5_barred_2 (by decide) ?_
  obtain ⟨u1, eu1, h⟩ := bd_in h
  refine kI (va_runV (As := [.int p1, .int (0 : Int32)]) (rest := []) ⟨hx, hb, hml, hown, hts⟩ (c_X5_sumOf l D cA cQ adM vM p1 (0 : Int32) u1 eu1 _) (cwV 2 hts gX5_barred_X5_sumOf rfl rfl rfl (by decide +kernel) ⟨Nat.le_of_ble_eq_true rfl, Nat.le_of_ble_eq_true rfl⟩) (pV (ci := 5) (q := (RX5, TX5, 18)) hK hN hP hD [0, 1, 2, 3, 4, 5, 6, 7, 8, 9] rfl rfl rfl rfl) rfl rfl hl.1 rfl (lv_room (Nat.le_of_ble_eq_true rfl)) dX5_barred_3 ⟨Nat.zero_le _, Nat.zero_le _⟩) hP hD hS hA [0, 1, 2, 3, 4, 5, 6, 7, 8, 9] rfl rfl (ws' := (wM cA adM vM)) rfl (fun H locs hP hD hS => ?_)
  refine lv_iload_n hx hb dX5_barred_6 rfl (lv_at hl 2 rfl) ?_
  refine lv_iadd hx hb dX5_barred_7 ?_
  refine lv_aload_n hx hb dX5_barred_8 rfl (lv_at hl 0 rfl) ?_
  refine va_get (D := D) (ci := 5) (v := .ref (adM 1)) (C := RX5) (T := TX5) (N := 18) hx hb hts iw_X5_barred_X5 hown hK hP 0 rfl rfl 0 (by decide) (hts (.fieldLink RX5 7 "FavourRingsModel" "s" "[I") (List.mem_of_getElem? (i := 1) rfl)) (fun _ h9 => h9) rfl dX5_barred_9 ?_
  refine lv_sipush (v := (302 : Int32)) hx hb dX5_barred_12 (by decide) ?_
  obtain ⟨y2, ey2, h⟩ := bd_in h
  refine ldR hx hb hK hP 1 0 rfl rfl ey2 dX5_barred_15 ?_
  refine lv_icmp_le (tgt := 21) hx hb dX5_barred_16 (by decide) (fun c3 => ?_) (fun c3 => ?_)
  · have h := (if_pos c3).symm.trans h
    refine lv_aload_n hx hb dX5_barred_21 rfl (lv_at hl 0 rfl) ?_
    refine va_get (D := D) (ci := 5) (v := .ref (adM 1)) (C := RX5) (T := TX5) (N := 18) hx hb hts iw_X5_barred_X5 hown hK hP 0 rfl rfl 0 (by decide) (hts (.fieldLink RX5 7 "FavourRingsModel" "s" "[I") (List.mem_of_getElem? (i := 1) rfl)) (fun _ h9 => h9) rfl dX5_barred_22 ?_
    refine lv_iload_n hx hb dX5_barred_25 rfl (lv_at hl 1 rfl) ?_
    refine lv_iconst (v := (1 : Int32)) hx hb dX5_barred_26 (by decide) ?_
    obtain ⟨u4, eu4, h⟩ := bd_in h
    refine kI (va_runS (As := [.int p1, .int (1 : Int32)]) (rest := [.ref (adM 1)]) ⟨hx, hb, hml, hown, hts⟩ (c_X5_at l D cA cQ  p1 (1 : Int32) u4 eu4 _) (va_cwS 2 hts gX5_barred_X5_at rfl rfl rfl (by decide +kernel) ⟨Nat.le_of_ble_eq_true rfl, Nat.le_of_ble_eq_true rfl⟩) (pS hK hN hP hD [] rfl rfl) rfl rfl hl.1 rfl (lv_room (Nat.le_of_ble_eq_true rfl)) dX5_barred_27 ⟨Nat.zero_le _, Nat.zero_le _⟩) hP hD hS hA [] rfl rfl (ws' := (wM cA adM vM)) rfl (fun H locs hP hD hS => ?_)
    obtain ⟨y5, ey5, h⟩ := bd_in h
    refine ldR hx hb hK hP 1 0 rfl rfl ey5 dX5_barred_30 ?_
    refine lv_aload_n hx hb dX5_barred_31 rfl (lv_at hl 0 rfl) ?_
    refine va_get (D := D) (ci := 5) (v := .ref (adM 1)) (C := RX5) (T := TX5) (N := 18) hx hb hts iw_X5_barred_X5 hown hK hP 0 rfl rfl 0 (by decide) (hts (.fieldLink RX5 7 "FavourRingsModel" "s" "[I") (List.mem_of_getElem? (i := 1) rfl)) (fun _ h9 => h9) rfl dX5_barred_32 ?_
    refine lv_sipush (v := (303 : Int32)) hx hb dX5_barred_35 (by decide) ?_
    obtain ⟨y6, ey6, h⟩ := bd_in h
    refine ldR hx hb hK hP 1 0 rfl rfl ey6 dX5_barred_38 ?_
    refine lv_icmp_lt (tgt := 59) hx hb dX5_barred_39 (by decide) (fun c7 => ?_) (fun c7 => ?_)
    · have h := (if_pos c7).symm.trans h
      refine lv_iconst (v := (0 : Int32)) hx hb dX5_barred_59 (by decide) ?_
      cases h
      exact endI hx hb hr hlocks hP hS rfl dX5_barred_60
    · have h := (if_neg c7).symm.trans h
      refine lv_aload_n hx hb dX5_barred_42 rfl (lv_at hl 0 rfl) ?_
      refine va_get (D := D) (ci := 5) (v := .ref (adM 1)) (C := RX5) (T := TX5) (N := 18) hx hb hts iw_X5_barred_X5 hown hK hP 0 rfl rfl 0 (by decide) (hts (.fieldLink RX5 7 "FavourRingsModel" "s" "[I") (List.mem_of_getElem? (i := 1) rfl)) (fun _ h9 => h9) rfl dX5_barred_43 ?_
      refine lv_iload_n hx hb dX5_barred_46 rfl (lv_at hl 1 rfl) ?_
      refine lv_iconst (v := (2 : Int32)) hx hb dX5_barred_47 (by decide) ?_
      obtain ⟨u8, eu8, h⟩ := bd_in h
      refine kI (va_runS (As := [.int p1, .int (2 : Int32)]) (rest := [.ref (adM 1)]) ⟨hx, hb, hml, hown, hts⟩ (c_X5_at l D cA cQ  p1 (2 : Int32) u8 eu8 _) (va_cwS 2 hts gX5_barred_X5_at rfl rfl rfl (by decide +kernel) ⟨Nat.le_of_ble_eq_true rfl, Nat.le_of_ble_eq_true rfl⟩) (pS hK hN hP hD [] rfl rfl) rfl rfl hl.1 rfl (lv_room (Nat.le_of_ble_eq_true rfl)) dX5_barred_48 ⟨Nat.zero_le _, Nat.zero_le _⟩) hP hD hS hA [] rfl rfl (ws' := (wM cA adM vM)) rfl (fun H locs hP hD hS => ?_)
      obtain ⟨y9, ey9, h⟩ := bd_in h
      refine ldR hx hb hK hP 1 0 rfl rfl ey9 dX5_barred_51 ?_
      refine lv_if_ne (tgt := 59) hx hb dX5_barred_52 (by decide) (fun c10 => ?_) (fun c10 => ?_)
      · have h := (if_neg c10).symm.trans h
        refine lv_iconst (v := (0 : Int32)) hx hb dX5_barred_59 (by decide) ?_
        cases h
        exact endI hx hb hr hlocks hP hS rfl dX5_barred_60
      · have h := (if_pos c10).symm.trans h
        refine lv_iconst (v := (2 : Int32)) hx hb dX5_barred_55 (by decide) ?_
        refine lv_goto (tgt := 60) hx hb dX5_barred_56 (by decide) ?_
        cases h
        exact endI hx hb hr hlocks hP hS rfl dX5_barred_60
  · have h := (if_neg c3).symm.trans h
    refine lv_iconst (v := (1 : Int32)) hx hb dX5_barred_19 (by decide) ?_
    cases h
    exact endI hx hb hr hlocks hP hS rfl dX5_barred_20
theorem iw_X5_isPupil_X5 : ∀ w ∈ wsX50, w ∈ wsX5_isPupil := fun _ h => List.mem_cons_of_mem _ (List.mem_append_right _ (h))
set_option maxHeartbeats 4000000 in
set_option maxRecDepth 100000 in
theorem c_X5_isPupil (l : Launch) (D : va_G) (cA cQ : ClassId) (adM : Nat → Nat) (vM : St) (p1 : Int32) (o : Int32) (hf : X5_isPupil vM p1 = some o) : Cti l yX5_isPupil wsX5_isPupil ({ frames := 1, cells := 0, slots := 0, locals := 22 }) D (TY cA cQ) [.ref (adM 0), .int p1] (wM cA adM vM) (wM cA adM vM) o := by
  refine Wk.i (cc := cX5_isPupil) (maxL := 2) (ret := (some .boolean)) (by decide) rfl (Nat.le_of_ble_eq_true rfl) ?_
  intro p e s m below meth c A ls hx hb hr hlocks hml hown hts hK hN hP hD hA hl
  have hown : s.vm.findClass RX5 = some m.cls := hown
  have hS : va_S A s.heap s.heap [] := va_S.rf
  have hl : lv_has ls 2 [(0, .ref (adM 0)), (1, .int p1)] := hl
  have h := hf
  unfold X5_isPupil at h
  refine lv_iload_n hx hb dX5_isPupil_0 rfl (lv_at hl 1 rfl) ?_
  refine lv_iconst (v := (0 : Int32)) hx hb dX5_isPupil_1 (by decide) ?_
  refine lv_aload_n hx hb dX5_isPupil_2 rfl (lv_at hl 0 rfl) ?_
  refine va_get (D := D) (ci := 5) (v := .ref (adM 1)) (C := RX5) (T := TX5) (N := 18) hx hb hts iw_X5_isPupil_X5 hown hK hP 0 rfl rfl 0 (by decide) (hts (.fieldLink RX5 7 "FavourRingsModel" "s" "[I") (List.mem_of_getElem? (i := 1) rfl)) (fun _ h9 => h9) rfl dX5_isPupil_3 ?_
  refine lv_sipush (v := (289 : Int32)) hx hb dX5_isPupil_6 (by decide) ?_
  obtain ⟨y1, ey1, h⟩ := bd_in h
  refine ldR hx hb hK hP 1 0 rfl rfl ey1 dX5_isPupil_9 ?_
  refine lv_iconst (v := (1 : Int32)) hx hb dX5_isPupil_10 (by decide) ?_
  refine lv_isub hx hb dX5_isPupil_11 ?_
  obtain ⟨u2, eu2, h⟩ := bd_in h
  refine kI (va_runS (As := [.int p1, .int (0 : Int32), .int (y1 - (1 : Int32))]) (rest := []) ⟨hx, hb, hml, hown, hts⟩ (c_X5_in l D cA cQ  p1 (0 : Int32) (y1 - (1 : Int32)) u2 eu2 _) (va_cwS 3 hts gX5_isPupil_X5_in rfl rfl rfl (by decide +kernel) ⟨Nat.le_of_ble_eq_true rfl, Nat.le_of_ble_eq_true rfl⟩) (pS hK hN hP hD [] rfl rfl) rfl rfl hl.1 rfl (lv_room (Nat.le_of_ble_eq_true rfl)) dX5_isPupil_12 ⟨Nat.zero_le _, Nat.zero_le _⟩) hP hD hS hA [] rfl rfl (ws' := (wM cA adM vM)) rfl (fun H locs hP hD hS => ?_)
  obtain ⟨b3, eb3, h⟩ := bd_in h
  cases h
  exact endZ hx hb hr hlocks hP hS (zb_in eb3) dX5_isPupil_15
set_option maxHeartbeats 4000000 in
set_option maxRecDepth 100000 in
theorem c_X5_isPair (l : Launch) (D : va_G) (cA cQ : ClassId) (adM : Nat → Nat) (vM : St) (p1 : Int32) (p2 : Int32) (o : Int32) (hf : X5_isPair vM p1 p2 = some o) : Cti l yX5_isPair wsX5_isPair ({ frames := 2, cells := 0, slots := 0, locals := 43 }) D (TY cA cQ) [.ref (adM 0), .int p1, .int p2] (wM cA adM vM) (wM cA adM vM) o := by
  refine Wk.i (cc := cX5_isPair) (maxL := 3) (ret := (some .boolean)) (by decide) rfl (Nat.le_of_ble_eq_true rfl) ?_
  intro p e s m below meth c A ls hx hb hr hlocks hml hown hts hK hN hP hD hA hl
  have hown : s.vm.findClass RX5 = some m.cls := hown
  have hS : va_S A s.heap s.heap [] := va_S.rf
  have hl : lv_has ls 3 [(0, .ref (adM 0)), (1, .int p1), (2, .int p2)] := hl
  have h := hf
  unfold X5_isPair at h
  refine lv_aload_n hx hb dX5_isPair_0 rfl (lv_at hl 0 rfl) ?_
  refine lv_iload_n hx hb dX5_isPair_1 rfl (lv_at hl 1 rfl) ?_
  obtain ⟨u1, eu1, h⟩ := bd_in h
  refine kI (va_runV (As := [.int p1]) (rest := []) ⟨hx, hb, hml, hown, hts⟩ (c_X5_isPupil l D cA cQ adM vM p1 u1 eu1 _) (cwV 1 hts gX5_isPair_X5_isPupil rfl rfl rfl (by decide +kernel) ⟨Nat.le_of_ble_eq_true rfl, Nat.le_of_ble_eq_true rfl⟩) (pV (ci := 5) (q := (RX5, TX5, 18)) hK hN hP hD [0, 1, 2, 3, 4, 5, 6, 7, 8, 9] rfl rfl rfl rfl) rfl rfl hl.1 rfl (lv_room (Nat.le_of_ble_eq_true rfl)) dX5_isPair_2 ⟨Nat.zero_le _, Nat.zero_le _⟩) hP hD hS hA [0, 1, 2, 3, 4, 5, 6, 7, 8, 9] rfl rfl (ws' := (wM cA adM vM)) rfl (fun H locs hP hD hS => ?_)
  refine lv_if_eq (tgt := 25) hx hb dX5_isPair_5 (by decide) (fun c2 => ?_) (fun c2 => ?_)
  · have h := (if_pos c2).symm.trans h
    refine lv_iconst (v := (0 : Int32)) hx hb dX5_isPair_25 (by decide) ?_
    cases h
    exact endZ hx hb hr hlocks hP hS ⟨rfl, rfl⟩ dX5_isPair_26
  · have h := (if_neg c2).symm.trans h
    refine lv_aload_n hx hb dX5_isPair_8 rfl (lv_at hl 0 rfl) ?_
    refine lv_iload_n hx hb dX5_isPair_9 rfl (lv_at hl 2 rfl) ?_
    obtain ⟨u3, eu3, h⟩ := bd_in h
    refine kI (va_runV (As := [.int p2]) (rest := []) ⟨hx, hb, hml, hown, hts⟩ (c_X5_isPupil l D cA cQ adM vM p2 u3 eu3 _) (cwV 1 hts gX5_isPair_X5_isPupil rfl rfl rfl (by decide +kernel) ⟨Nat.le_of_ble_eq_true rfl, Nat.le_of_ble_eq_true rfl⟩) (pV (ci := 5) (q := (RX5, TX5, 18)) hK hN hP hD [0, 1, 2, 3, 4, 5, 6, 7, 8, 9] rfl rfl rfl rfl) rfl rfl hl.1 rfl (lv_room (Nat.le_of_ble_eq_true rfl)) dX5_isPair_10 ⟨Nat.zero_le _, Nat.zero_le _⟩) hP hD hS hA [0, 1, 2, 3, 4, 5, 6, 7, 8, 9] rfl rfl (ws' := (wM cA adM vM)) rfl (fun H locs hP hD hS => ?_)
    refine lv_if_eq (tgt := 25) hx hb dX5_isPair_13 (by decide) (fun c4 => ?_) (fun c4 => ?_)
    · have h := (if_pos c4).symm.trans h
      refine lv_iconst (v := (0 : Int32)) hx hb dX5_isPair_25 (by decide) ?_
      cases h
      exact endZ hx hb hr hlocks hP hS ⟨rfl, rfl⟩ dX5_isPair_26
    · have h := (if_neg c4).symm.trans h
      refine lv_iload_n hx hb dX5_isPair_16 rfl (lv_at hl 1 rfl) ?_
      refine lv_iload_n hx hb dX5_isPair_17 rfl (lv_at hl 2 rfl) ?_
      refine lv_icmp_eq (tgt := 25) hx hb dX5_isPair_18 (by decide) (fun c5 => ?_) (fun c5 => ?_)
      · have h := (if_pos c5).symm.trans h
        refine lv_iconst (v := (0 : Int32)) hx hb dX5_isPair_25 (by decide) ?_
        cases h
        exact endZ hx hb hr hlocks hP hS ⟨rfl, rfl⟩ dX5_isPair_26
      · have h := (if_neg c5).symm.trans h
        refine lv_iconst (v := (1 : Int32)) hx hb dX5_isPair_21 (by decide) ?_
        refine lv_goto (tgt := 26) hx hb dX5_isPair_22 (by decide) ?_
        cases h
        exact endZ hx hb hr hlocks hP hS ⟨rfl, rfl⟩ dX5_isPair_26
theorem iw_X5_chain_X5 : ∀ w ∈ wsX50, w ∈ wsX5_chain := fun _ h => List.mem_cons_of_mem _ (List.mem_append_right _ (h))
set_option maxHeartbeats 4000000 in
set_option maxRecDepth 100000 in
theorem c_X5_chain (l : Launch) (D : va_G) (cA cQ : ClassId) (adM : Nat → Nat) (vM : St) (p1 : Int32) (p2 : Int32) (p3 : Int32) (o : Int32 × St) (hf : X5_chain vM p1 p2 p3 = some o) : Cti l yX5_chain wsX5_chain ({ frames := 3, cells := 0, slots := 0, locals := 65 }) D (TY cA cQ) [.ref (adM 0), .int p1, .int p2, .int p3] (wM cA adM vM) (wM cA adM o.2) o.1 := by
  refine Wk.i (cc := cX5_chain) (maxL := 8) (ret := (some .int)) (by decide) rfl (Nat.le_of_ble_eq_true rfl) ?_
  intro p e s m below meth c A ls hx hb hr hlocks hml hown hts hK hN hP hD hA hl
  have hown : s.vm.findClass RX5 = some m.cls := hown
  have hS : va_S A s.heap s.heap [] := va_S.rf
  have hl : lv_has ls 8 [(0, .ref (adM 0)), (1, .int p1), (2, .int p2), (3, .int p3)] := hl
  have B32 : ∀ (fu32 : Nat) (vM : St) (x4 : Int32) (x5 : Int32) (H : Heap) (locs : List Loc) (ls : Array Slot), X5_chain_l32 p1 p2 p3 fu32 vM x4 x5 = some o → va_P D vwCl (wM cA adM vM) H → va_D A (wM cA adM vM) → va_S A s.heap H locs → lv_has ls 8 [(0, .ref (adM 0)), (2, .int p2), (4, .int x4), (5, .int x5)] → W p l e (headSpec wsX5_chain ({ frames := 3, cells := 0, slots := 0, locals := 65 })).room s m ([.ref (adM 0), .int p1, .int p2, .int p3] : List Value).toArray below meth c H locs 0 0 (MQ below (QI D (wM cA adM o.2) o.1 A) ([.ref (adM 0), .int p1, .int p2, .int p3] : List Value).toArray s 0 0 A) (F0 m 32 ls []) := by
    intro fu32
    induction fu32 with
    | zero =>
      intro vM x4 x5 H locs ls h hP hD hS hl
      cases h
    | succ fu32 ih32 =>
      have B86 : ∀ (vM : St) (x5 : Int32) (x6 : Int32) (H : Heap) (locs : List Loc) (ls : Array Slot), X5_chain_b86 p1 p2 p3 (X5_chain_l32 p1 p2 p3 fu32) vM x5 x6 = some o → va_P D vwCl (wM cA adM vM) H → va_D A (wM cA adM vM) → va_S A s.heap H locs → lv_has ls 8 [(0, .ref (adM 0)), (2, .int p2), (5, .int x5), (6, .int x6)] → W p l e (headSpec wsX5_chain ({ frames := 3, cells := 0, slots := 0, locals := 65 })).room s m ([.ref (adM 0), .int p1, .int p2, .int p3] : List Value).toArray below meth c H locs 0 0 (MQ below (QI D (wM cA adM o.2) o.1 A) ([.ref (adM 0), .int p1, .int p2, .int p3] : List Value).toArray s 0 0 A) (F0 m 86 ls []) := by
        intro vM x5 x6 H locs ls h hP hD hS hl
        unfold X5_chain_b86 at h
        refine lv_iload hx hb dX5_chain_86 (lv_at hl 3 rfl) ?_
        refine lv_iload_n hx hb dX5_chain_88 rfl (lv_at hl 1 rfl) ?_
        refine lv_ishr hx hb dX5_chain_89 ?_
        refine lv_iconst (v := (1 : Int32)) hx hb dX5_chain_90 (by decide) ?_
        refine lv_iand hx hb dX5_chain_91 ?_
        refine lv_iconst (v := (1 : Int32)) hx hb dX5_chain_92 (by decide) ?_
        refine lv_icmp_ne (tgt := 99) hx hb dX5_chain_93 (by decide) (fun c1 => ?_) (fun c1 => ?_)
        · have h := (if_neg c1).symm.trans h
          refine lv_iload hx hb dX5_chain_99 (lv_at hl 3 rfl) ?_
          refine lv_istore (lv' := [(4, .int x6), (0, .ref (adM 0)), (2, .int p2), (5, .int x5), (6, .int x6)]) hx hb dX5_chain_101 hl (by decide) rfl (fun ls hl => ?_)
          refine lv_iinc (v := (x5 + (1 : Int32))) (lv' := [(5, .int (x5 + (1 : Int32))), (4, .int x6), (0, .ref (adM 0)), (2, .int p2), (6, .int x6)]) hx hb dX5_chain_103 hl (k := 3) rfl rfl (by decide) rfl (fun ls hl => ?_)
          refine lv_goto (tgt := 32) hx hb dX5_chain_106 (by decide) ?_
          exact ih32 vM x6 (x5 + (1 : Int32)) _ _ _ h hP hD hS (lv_sub hl [2, 3, 1, 0] rfl)
        · have h := (if_pos c1).symm.trans h
          refine lv_iload hx hb dX5_chain_96 (lv_at hl 2 rfl) ?_
          cases h
          exact endI hx hb hr hlocks hP hS rfl dX5_chain_98
      have B46 : ∀ (fu46 : Nat) (vM : St) (x4 : Int32) (x5 : Int32) (x6 : Int32) (x7 : Int32) (H : Heap) (locs : List Loc) (ls : Array Slot), X5_chain_l46 p1 p2 p3 (X5_chain_l32 p1 p2 p3 fu32) fu46 vM x4 x5 x6 x7 = some o → va_P D vwCl (wM cA adM vM) H → va_D A (wM cA adM vM) → va_S A s.heap H locs → lv_has ls 8 [(0, .ref (adM 0)), (2, .int p2), (4, .int x4), (5, .int x5), (6, .int x6), (7, .int x7)] → W p l e (headSpec wsX5_chain ({ frames := 3, cells := 0, slots := 0, locals := 65 })).room s m ([.ref (adM 0), .int p1, .int p2, .int p3] : List Value).toArray below meth c H locs 0 0 (MQ below (QI D (wM cA adM o.2) o.1 A) ([.ref (adM 0), .int p1, .int p2, .int p3] : List Value).toArray s 0 0 A) (F0 m 46 ls []) := by
        intro fu46
        induction fu46 with
        | zero =>
          intro vM x4 x5 x6 x7 H locs ls h hP hD hS hl
          cases h
        | succ fu46 ih46 =>
          intro vM x4 x5 x6 x7 H locs ls h hP hD hS hl
          rw [X5_chain_l46] at h
          refine lv_iload hx hb dX5_chain_46 (lv_at hl 5 rfl) ?_
          refine lv_bipush (v := (8 : Int32)) hx hb dX5_chain_48 (by decide) ?_
          refine lv_icmp_ge (tgt := 86) hx hb dX5_chain_50 (by decide) (fun c2 => ?_) (fun c2 => ?_)
          · have h := (if_pos c2).symm.trans h
            exact B86 vM x5 x6 _ _ _ h hP hD hS (lv_sub hl [0, 1, 3, 4] rfl)
          · have h := (if_neg c2).symm.trans h
            refine lv_iload hx hb dX5_chain_53 (lv_at hl 4 rfl) ?_
            refine lv_iload hx hb dX5_chain_55 (lv_at hl 2 rfl) ?_
            refine lv_iload hx hb dX5_chain_57 (lv_at hl 5 rfl) ?_
            refine lv_ishr hx hb dX5_chain_59 ?_
            refine lv_iconst (v := (1 : Int32)) hx hb dX5_chain_60 (by decide) ?_
            refine lv_iand hx hb dX5_chain_61 ?_
            refine lv_iconst (v := (1 : Int32)) hx hb dX5_chain_62 (by decide) ?_
            refine lv_icmp_ne (tgt := 76) hx hb dX5_chain_63 (by decide) (fun c3 => ?_) (fun c3 => ?_)
            · have h := (if_neg c3).symm.trans h
              refine lv_iconst (v := (0 : Int32)) hx hb dX5_chain_76 (by decide) ?_
              refine lv_ior hx hb dX5_chain_77 ?_
              refine lv_istore (lv' := [(6, .int (x6 ||| (0 : Int32))), (0, .ref (adM 0)), (2, .int p2), (4, .int x4), (5, .int x5), (7, .int x7)]) hx hb dX5_chain_78 hl (by decide) rfl (fun ls hl => ?_)
              refine lv_iinc (v := (x7 + (1 : Int32))) (lv' := [(7, .int (x7 + (1 : Int32))), (6, .int (x6 ||| (0 : Int32))), (0, .ref (adM 0)), (2, .int p2), (4, .int x4), (5, .int x5)]) hx hb dX5_chain_80 hl (k := 5) rfl rfl (by decide) rfl (fun ls hl => ?_)
              refine lv_goto (tgt := 46) hx hb dX5_chain_83 (by decide) ?_
              exact ih46 vM x4 x5 (x6 ||| (0 : Int32)) (x7 + (1 : Int32)) _ _ _ h hP hD hS (lv_sub hl [2, 3, 4, 5, 1, 0] rfl)
            · have h := (if_pos c3).symm.trans h
              refine lv_aload_n hx hb dX5_chain_66 rfl (lv_at hl 0 rfl) ?_
              refine va_get (D := D) (ci := 5) (v := .ref (adM 9)) (C := RX5) (T := TX5) (N := 18) hx hb hts iw_X5_chain_X5 hown hK hP 0 rfl rfl 8 (by decide) (hts (.fieldLink RX5 25 "FavourRingsModel" "to" "[I") (List.mem_of_getElem? (i := 2) rfl)) (fun _ h9 => h9) rfl dX5_chain_67 ?_
              refine lv_iload hx hb dX5_chain_70 (lv_at hl 5 rfl) ?_
              obtain ⟨y4, ey4, h⟩ := bd_in h
              refine ldR hx hb hK hP 6 0 rfl rfl ey4 dX5_chain_72 ?_
              refine lv_goto (tgt := 77) hx hb dX5_chain_73 (by decide) ?_
              refine lv_ior hx hb dX5_chain_77 ?_
              refine lv_istore (lv' := [(6, .int (x6 ||| y4)), (0, .ref (adM 0)), (2, .int p2), (4, .int x4), (5, .int x5), (7, .int x7)]) hx hb dX5_chain_78 hl (by decide) rfl (fun ls hl => ?_)
              refine lv_iinc (v := (x7 + (1 : Int32))) (lv' := [(7, .int (x7 + (1 : Int32))), (6, .int (x6 ||| y4)), (0, .ref (adM 0)), (2, .int p2), (4, .int x4), (5, .int x5)]) hx hb dX5_chain_80 hl (k := 5) rfl rfl (by decide) rfl (fun ls hl => ?_)
              refine lv_goto (tgt := 46) hx hb dX5_chain_83 (by decide) ?_
              exact ih46 vM x4 x5 (x6 ||| y4) (x7 + (1 : Int32)) _ _ _ h hP hD hS (lv_sub hl [2, 3, 4, 5, 1, 0] rfl)
      intro vM x4 x5 H locs ls h hP hD hS hl
      rw [X5_chain_l32] at h
      refine lv_iload hx hb dX5_chain_32 (lv_at hl 3 rfl) ?_
      refine lv_bipush (v := (8 : Int32)) hx hb dX5_chain_34 (by decide) ?_
      refine lv_icmp_ge (tgt := 109) hx hb dX5_chain_36 (by decide) (fun c5 => ?_) (fun c5 => ?_)
      · have h := (if_pos c5).symm.trans h
        refine lv_ldc (v := (-1000004 : Int32)) hx hb hown (hts (.constant RX5 57 (-1000004)) (List.mem_of_getElem? (i := 3) rfl)) dX5_chain_109 ?_
        cases h
        exact endI hx hb hr hlocks hP hS rfl dX5_chain_111
      · have h := (if_neg c5).symm.trans h
        refine lv_iload hx hb dX5_chain_39 (lv_at hl 2 rfl) ?_
        refine lv_istore (lv' := [(6, .int x4), (0, .ref (adM 0)), (2, .int p2), (4, .int x4), (5, .int x5)]) hx hb dX5_chain_41 hl (by decide) rfl (fun ls hl => ?_)
        refine lv_iconst (v := (0 : Int32)) hx hb dX5_chain_43 (by decide) ?_
        refine lv_istore (lv' := [(7, .int (0 : Int32)), (6, .int x4), (0, .ref (adM 0)), (2, .int p2), (4, .int x4), (5, .int x5)]) hx hb dX5_chain_44 hl (by decide) rfl (fun ls hl => ?_)
        exact B46 FU vM x4 x5 x4 (0 : Int32) _ _ _ h hP hD hS (lv_sub hl [2, 3, 4, 5, 1, 0] rfl)
  have h := hf
  unfold X5_chain at h
  refine lv_aload_n hx hb dX5_chain_0 rfl (lv_at hl 0 rfl) ?_
  refine lv_iload_n hx hb dX5_chain_1 rfl (lv_at hl 1 rfl) ?_
  refine lv_iload_n hx hb dX5_chain_2 rfl (lv_at hl 2 rfl) ?_
  obtain ⟨u6, eu6, h⟩ := bd_in h
  refine kI (va_runV (As := [.int p1, .int p2]) (rest := []) ⟨hx, hb, hml, hown, hts⟩ (c_X5_isPair l D cA cQ adM vM p1 p2 u6 eu6 _) (cwV 2 hts gX5_chain_X5_isPair rfl rfl rfl (by decide +kernel) ⟨Nat.le_of_ble_eq_true rfl, Nat.le_of_ble_eq_true rfl⟩) (pV (ci := 5) (q := (RX5, TX5, 18)) hK hN hP hD [0, 1, 2, 3, 4, 5, 6, 7, 8, 9] rfl rfl rfl rfl) rfl rfl hl.1 rfl (lv_room (Nat.le_of_ble_eq_true rfl)) dX5_chain_3 ⟨Nat.zero_le _, Nat.zero_le _⟩) hP hD hS hA [0, 1, 2, 3, 4, 5, 6, 7, 8, 9] rfl rfl (ws' := (wM cA adM vM)) rfl (fun H locs hP hD hS => ?_)
  refine lv_if_eq (tgt := 16) hx hb dX5_chain_6 (by decide) (fun c7 => ?_) (fun c7 => ?_)
  · have h := (if_pos c7).symm.trans h
    refine lv_ldc (v := (-1000001 : Int32)) hx hb hown (hts (.constant RX5 86 (-1000001)) (List.mem_of_getElem? (i := 1) rfl)) dX5_chain_16 ?_
    cases h
    exact endI hx hb hr hlocks hP hS rfl dX5_chain_18
  · have h := (if_neg c7).symm.trans h
    refine lv_iload_n hx hb dX5_chain_9 rfl (lv_at hl 3 rfl) ?_
    obtain ⟨u8, eu8, h⟩ := bd_in h
    refine kI (va_runS (As := [.int p3]) (rest := []) ⟨hx, hb, hml, hown, hts⟩ (c_X5_isKind l D cA cQ  p3 u8 eu8 _) (va_cwS 1 hts gX5_chain_X5_isKind rfl rfl rfl (by decide +kernel) ⟨Nat.le_of_ble_eq_true rfl, Nat.le_of_ble_eq_true rfl⟩) (pS hK hN hP hD [] rfl rfl) rfl rfl hl.1 rfl (lv_room (Nat.le_of_ble_eq_true rfl)) dX5_chain_10 ⟨Nat.zero_le _, Nat.zero_le _⟩) hP hD hS hA [] rfl rfl (ws' := (wM cA adM vM)) rfl (fun H locs hP hD hS => ?_)
    refine lv_if_ne (tgt := 19) hx hb dX5_chain_13 (by decide) (fun c9 => ?_) (fun c9 => ?_)
    · have h := (if_neg c9).symm.trans h
      refine lv_aload_n hx hb dX5_chain_19 rfl (lv_at hl 0 rfl) ?_
      refine lv_iload_n hx hb dX5_chain_20 rfl (lv_at hl 3 rfl) ?_
      obtain ⟨u10, eu10, h⟩ := bd_in h
      refine kV (va_runV (As := [.int p3]) (rest := []) ⟨hx, hb, hml, hown, hts⟩ (c_X5_looks l D cA cQ adM vM p3 u10 eu10 _) (cwV 1 hts gX5_chain_X5_looks rfl rfl rfl (by decide +kernel) ⟨Nat.le_of_ble_eq_true rfl, Nat.le_of_ble_eq_true rfl⟩) (pV (ci := 5) (q := (RX5, TX5, 18)) hK hN hP hD [0, 1, 2, 3, 4, 5, 6, 7, 8, 9] rfl rfl rfl rfl) rfl rfl hl.1 rfl (lv_room (Nat.le_of_ble_eq_true rfl)) dX5_chain_21 ⟨Nat.zero_le _, Nat.zero_le _⟩) hP hD hS hA [0, 1, 2, 3, 4, 5, 6, 7, 8, 9] rfl rfl (ws' := (wM cA adM u10)) rfl (fun H locs hP hD hS => ?_)
      refine lv_iconst (v := (1 : Int32)) hx hb dX5_chain_24 (by decide) ?_
      refine lv_iload_n hx hb dX5_chain_25 rfl (lv_at hl 1 rfl) ?_
      refine lv_ishl hx hb dX5_chain_26 ?_
      refine lv_istore (lv' := [(4, .int ((1 : Int32) <<< (p1 &&& 31))), (0, .ref (adM 0)), (1, .int p1), (2, .int p2), (3, .int p3)]) hx hb dX5_chain_27 hl (by decide) rfl (fun ls hl => ?_)
      refine lv_iconst (v := (1 : Int32)) hx hb dX5_chain_29 (by decide) ?_
      refine lv_istore (lv' := [(5, .int (1 : Int32)), (4, .int ((1 : Int32) <<< (p1 &&& 31))), (0, .ref (adM 0)), (1, .int p1), (2, .int p2), (3, .int p3)]) hx hb dX5_chain_30 hl (by decide) rfl (fun ls hl => ?_)
      exact B32 FU u10 ((1 : Int32) <<< (p1 &&& 31)) (1 : Int32) _ _ _ h hP hD hS (lv_sub hl [2, 4, 1, 0] rfl)
    · have h := (if_pos c9).symm.trans h
      refine lv_ldc (v := (-1000001 : Int32)) hx hb hown (hts (.constant RX5 86 (-1000001)) (List.mem_of_getElem? (i := 1) rfl)) dX5_chain_16 ?_
      cases h
      exact endI hx hb hr hlocks hP hS rfl dX5_chain_18
theorem iw_X5_changes_X5 : ∀ w ∈ wsX50, w ∈ wsX5_changes := fun _ h => List.mem_cons_of_mem _ (List.mem_append_right _ (h))
set_option maxHeartbeats 4000000 in
set_option maxRecDepth 100000 in
theorem c_X5_changes (l : Launch) (D : va_G) (cA cQ : ClassId) (adM : Nat → Nat) (vM : St) (o : St) (hf : X5_changes vM = some o) : Ctv l yX5_changes wsX5_changes ({ frames := 0, cells := 0, slots := 0, locals := 0 }) D (TY cA cQ) [.ref (adM 0)] (wM cA adM vM) (wM cA adM o) := by
  refine Wk.v (cc := cX5_changes) (maxL := 2) (ret := none) (by decide) rfl (Nat.le_of_ble_eq_true rfl) ?_
  intro p e s m below meth c A ls hx hb hr hlocks hml hown hts hK hN hP hD hA hl
  have hown : s.vm.findClass RX5 = some m.cls := hown
  have hS : va_S A s.heap s.heap [] := va_S.rf
  have hl : lv_has ls 2 [(0, .ref (adM 0))] := hl
  have B93 : ∀ (vM : St) (H : Heap) (locs : List Loc) (ls : Array Slot), X5_changes_b93 vM = some o → va_P D vwCl (wM cA adM vM) H → va_D A (wM cA adM vM) → va_S A s.heap H locs → lv_has ls 2 [(0, .ref (adM 0))] → W p l e (headSpec wsX5_changes ({ frames := 0, cells := 0, slots := 0, locals := 0 })).room s m ([.ref (adM 0)] : List Value).toArray below meth c H locs 0 0 (MQ below (QV D (wM cA adM o) A) ([.ref (adM 0)] : List Value).toArray s 0 0 A) (F0 m 93 ls []) := by
    intro vM H locs ls h hP hD hS hl
    unfold X5_changes_b93 at h
    refine lv_aload_n hx hb dX5_changes_93 rfl (lv_at hl 0 rfl) ?_
    refine lv_dup hx hb dX5_changes_94 rfl ?_
    refine va_get (D := D) (ci := 5) (v := .int (vM 99 4)) (C := RX5) (T := TX5) (N := 18) hx hb hts iw_X5_changes_X5 hown hK hP 0 rfl rfl 4 (by decide) (hts (.fieldLink RX5 41 "FavourRingsModel" "pasts" "I") (List.mem_of_getElem? (i := 2) rfl)) (fun _ h9 => h9) rfl dX5_changes_95 ?_
    refine lv_iconst (v := (1 : Int32)) hx hb dX5_changes_98 (by decide) ?_
    refine lv_iadd hx hb dX5_changes_99 ?_
    refine ptR (ci := 5) (v := .int ((vM 99 4) + (1 : Int32))) (ty := .int) (C := RX5) (T := TX5) (N := 18) hx hb hts iw_X5_changes_X5 tyX5 tyX5_ok nmX5 hown hK hP hD hS 0 rfl rfl 4 (by decide) (hts (.fieldLink RX5 41 "FavourRingsModel" "pasts" "I") (List.mem_of_getElem? (i := 2) rfl)) (fun _ h9 => h9) rfl (by decide +kernel) rfl rfl (Nat.le_of_ble_eq_true rfl) (ws' := (wM cA adM (setI vM 4 ((vM 99 4) + (1 : Int32))))) rfl dX5_changes_100 (fun H locs hP hD hS => ?_)
    cases h
    exact endV hx hb hr hlocks hP hS dX5_changes_103
  have B59 : ∀ (fu59 : Nat) (vM : St) (x1 : Int32) (H : Heap) (locs : List Loc) (ls : Array Slot), X5_changes_l59 fu59 vM x1 = some o → va_P D vwCl (wM cA adM vM) H → va_D A (wM cA adM vM) → va_S A s.heap H locs → lv_has ls 2 [(0, .ref (adM 0)), (1, .int x1)] → W p l e (headSpec wsX5_changes ({ frames := 0, cells := 0, slots := 0, locals := 0 })).room s m ([.ref (adM 0)] : List Value).toArray below meth c H locs 0 0 (MQ below (QV D (wM cA adM o) A) ([.ref (adM 0)] : List Value).toArray s 0 0 A) (F0 m 59 ls []) := by
    intro fu59
    induction fu59 with
    | zero =>
      intro vM x1 H locs ls h hP hD hS hl
      cases h
    | succ fu59 ih59 =>
      intro vM x1 H locs ls h hP hD hS hl
      rw [X5_changes_l59] at h
      refine lv_iload_n hx hb dX5_changes_59 rfl (lv_at hl 1 rfl) ?_
      refine lv_sipush (v := (304 : Int32)) hx hb dX5_changes_60 (by decide) ?_
      refine lv_icmp_ge (tgt := 93) hx hb dX5_changes_63 (by decide) (fun c1 => ?_) (fun c1 => ?_)
      · have h := (if_pos c1).symm.trans h
        exact B93 vM _ _ _ h hP hD hS (lv_sub hl [0] rfl)
      · have h := (if_neg c1).symm.trans h
        refine lv_aload_n hx hb dX5_changes_66 rfl (lv_at hl 0 rfl) ?_
        refine va_get (D := D) (ci := 5) (v := .ref (adM 2)) (C := RX5) (T := TX5) (N := 18) hx hb hts iw_X5_changes_X5 hown hK hP 0 rfl rfl 1 (by decide) (hts (.fieldLink RX5 13 "FavourRingsModel" "past" "[I") (List.mem_of_getElem? (i := 3) rfl)) (fun _ h9 => h9) rfl dX5_changes_67 ?_
        refine lv_sipush (v := (304 : Int32)) hx hb dX5_changes_70 (by decide) ?_
        refine lv_aload_n hx hb dX5_changes_73 rfl (lv_at hl 0 rfl) ?_
        refine va_get (D := D) (ci := 5) (v := .int (vM 99 4)) (C := RX5) (T := TX5) (N := 18) hx hb hts iw_X5_changes_X5 hown hK hP 0 rfl rfl 4 (by decide) (hts (.fieldLink RX5 41 "FavourRingsModel" "pasts" "I") (List.mem_of_getElem? (i := 2) rfl)) (fun _ h9 => h9) rfl dX5_changes_74 ?_
        refine lv_imul hx hb dX5_changes_77 ?_
        refine lv_iload_n hx hb dX5_changes_78 rfl (lv_at hl 1 rfl) ?_
        refine lv_iadd hx hb dX5_changes_79 ?_
        refine lv_aload_n hx hb dX5_changes_80 rfl (lv_at hl 0 rfl) ?_
        refine va_get (D := D) (ci := 5) (v := .ref (adM 1)) (C := RX5) (T := TX5) (N := 18) hx hb hts iw_X5_changes_X5 hown hK hP 0 rfl rfl 0 (by decide) (hts (.fieldLink RX5 7 "FavourRingsModel" "s" "[I") (List.mem_of_getElem? (i := 4) rfl)) (fun _ h9 => h9) rfl dX5_changes_81 ?_
        refine lv_iload_n hx hb dX5_changes_84 rfl (lv_at hl 1 rfl) ?_
        obtain ⟨y2, ey2, h⟩ := bd_in h
        refine ldR hx hb hK hP 1 0 rfl rfl ey2 dX5_changes_85 ?_
        obtain ⟨g3, eg3, h⟩ := bd_in h
        refine stR hx hb hK hP hD hS 2 0 rfl rfl eg3 (ws' := (wM cA adM (setA vM 2 g3))) rfl dX5_changes_86 (fun H locs hP hD hS => ?_)
        refine lv_iinc (v := (x1 + (1 : Int32))) (lv' := [(1, .int (x1 + (1 : Int32))), (0, .ref (adM 0))]) hx hb dX5_changes_87 hl (k := 1) rfl rfl (by decide) rfl (fun ls hl => ?_)
        refine lv_goto (tgt := 59) hx hb dX5_changes_90 (by decide) ?_
        exact ih59 (setA vM 2 g3) (x1 + (1 : Int32)) _ _ _ h hP hD hS (lv_sub hl [1, 0] rfl)
  have B47 : ∀ (vM : St) (H : Heap) (locs : List Loc) (ls : Array Slot), X5_changes_b47 vM = some o → va_P D vwCl (wM cA adM vM) H → va_D A (wM cA adM vM) → va_S A s.heap H locs → lv_has ls 2 [(0, .ref (adM 0))] → W p l e (headSpec wsX5_changes ({ frames := 0, cells := 0, slots := 0, locals := 0 })).room s m ([.ref (adM 0)] : List Value).toArray below meth c H locs 0 0 (MQ below (QV D (wM cA adM o) A) ([.ref (adM 0)] : List Value).toArray s 0 0 A) (F0 m 47 ls []) := by
    intro vM H locs ls h hP hD hS hl
    unfold X5_changes_b47 at h
    refine lv_aload_n hx hb dX5_changes_47 rfl (lv_at hl 0 rfl) ?_
    refine lv_dup hx hb dX5_changes_48 rfl ?_
    refine va_get (D := D) (ci := 5) (v := .int (vM 99 4)) (C := RX5) (T := TX5) (N := 18) hx hb hts iw_X5_changes_X5 hown hK hP 0 rfl rfl 4 (by decide) (hts (.fieldLink RX5 41 "FavourRingsModel" "pasts" "I") (List.mem_of_getElem? (i := 2) rfl)) (fun _ h9 => h9) rfl dX5_changes_49 ?_
    refine lv_iconst (v := (1 : Int32)) hx hb dX5_changes_52 (by decide) ?_
    refine lv_isub hx hb dX5_changes_53 ?_
    refine ptR (ci := 5) (v := .int ((vM 99 4) - (1 : Int32))) (ty := .int) (C := RX5) (T := TX5) (N := 18) hx hb hts iw_X5_changes_X5 tyX5 tyX5_ok nmX5 hown hK hP hD hS 0 rfl rfl 4 (by decide) (hts (.fieldLink RX5 41 "FavourRingsModel" "pasts" "I") (List.mem_of_getElem? (i := 2) rfl)) (fun _ h9 => h9) rfl (by decide +kernel) rfl rfl (Nat.le_of_ble_eq_true rfl) (ws' := (wM cA adM (setI vM 4 ((vM 99 4) - (1 : Int32))))) rfl dX5_changes_54 (fun H locs hP hD hS => ?_)
    refine lv_iconst (v := (0 : Int32)) hx hb dX5_changes_57 (by decide) ?_
    refine lv_istore_n (lv' := [(1, .int (0 : Int32)), (0, .ref (adM 0))]) hx hb dX5_changes_58 rfl hl (by decide) rfl (fun ls hl => ?_)
    exact B59 FU (setI vM 4 ((vM 99 4) - (1 : Int32))) (0 : Int32) _ _ _ h hP hD hS (lv_sub hl [1, 0] rfl)
  have B18 : ∀ (fu18 : Nat) (vM : St) (x1 : Int32) (H : Heap) (locs : List Loc) (ls : Array Slot), X5_changes_l18 fu18 vM x1 = some o → va_P D vwCl (wM cA adM vM) H → va_D A (wM cA adM vM) → va_S A s.heap H locs → lv_has ls 2 [(0, .ref (adM 0)), (1, .int x1)] → W p l e (headSpec wsX5_changes ({ frames := 0, cells := 0, slots := 0, locals := 0 })).room s m ([.ref (adM 0)] : List Value).toArray below meth c H locs 0 0 (MQ below (QV D (wM cA adM o) A) ([.ref (adM 0)] : List Value).toArray s 0 0 A) (F0 m 18 ls []) := by
    intro fu18
    induction fu18 with
    | zero =>
      intro vM x1 H locs ls h hP hD hS hl
      cases h
    | succ fu18 ih18 =>
      intro vM x1 H locs ls h hP hD hS hl
      rw [X5_changes_l18] at h
      refine lv_iload_n hx hb dX5_changes_18 rfl (lv_at hl 1 rfl) ?_
      refine lv_sipush (v := (912 : Int32)) hx hb dX5_changes_19 (by decide) ?_
      refine lv_icmp_ge (tgt := 47) hx hb dX5_changes_22 (by decide) (fun c4 => ?_) (fun c4 => ?_)
      · have h := (if_pos c4).symm.trans h
        exact B47 vM _ _ _ h hP hD hS (lv_sub hl [0] rfl)
      · have h := (if_neg c4).symm.trans h
        refine lv_aload_n hx hb dX5_changes_25 rfl (lv_at hl 0 rfl) ?_
        refine va_get (D := D) (ci := 5) (v := .ref (adM 2)) (C := RX5) (T := TX5) (N := 18) hx hb hts iw_X5_changes_X5 hown hK hP 0 rfl rfl 1 (by decide) (hts (.fieldLink RX5 13 "FavourRingsModel" "past" "[I") (List.mem_of_getElem? (i := 3) rfl)) (fun _ h9 => h9) rfl dX5_changes_26 ?_
        refine lv_iload_n hx hb dX5_changes_29 rfl (lv_at hl 1 rfl) ?_
        refine lv_aload_n hx hb dX5_changes_30 rfl (lv_at hl 0 rfl) ?_
        refine va_get (D := D) (ci := 5) (v := .ref (adM 2)) (C := RX5) (T := TX5) (N := 18) hx hb hts iw_X5_changes_X5 hown hK hP 0 rfl rfl 1 (by decide) (hts (.fieldLink RX5 13 "FavourRingsModel" "past" "[I") (List.mem_of_getElem? (i := 3) rfl)) (fun _ h9 => h9) rfl dX5_changes_31 ?_
        refine lv_iload_n hx hb dX5_changes_34 rfl (lv_at hl 1 rfl) ?_
        refine lv_sipush (v := (304 : Int32)) hx hb dX5_changes_35 (by decide) ?_
        refine lv_iadd hx hb dX5_changes_38 ?_
        obtain ⟨y5, ey5, h⟩ := bd_in h
        refine ldR hx hb hK hP 2 0 rfl rfl ey5 dX5_changes_39 ?_
        obtain ⟨g6, eg6, h⟩ := bd_in h
        refine stR hx hb hK hP hD hS 2 0 rfl rfl eg6 (ws' := (wM cA adM (setA vM 2 g6))) rfl dX5_changes_40 (fun H locs hP hD hS => ?_)
        refine lv_iinc (v := (x1 + (1 : Int32))) (lv' := [(1, .int (x1 + (1 : Int32))), (0, .ref (adM 0))]) hx hb dX5_changes_41 hl (k := 1) rfl rfl (by decide) rfl (fun ls hl => ?_)
        refine lv_goto (tgt := 18) hx hb dX5_changes_44 (by decide) ?_
        exact ih18 (setA vM 2 g6) (x1 + (1 : Int32)) _ _ _ h hP hD hS (lv_sub hl [1, 0] rfl)
  have h := hf
  unfold X5_changes at h
  refine lv_aload_n hx hb dX5_changes_0 rfl (lv_at hl 0 rfl) ?_
  refine va_get (D := D) (ci := 5) (v := .int (vM 99 5)) (C := RX5) (T := TX5) (N := 18) hx hb hts iw_X5_changes_X5 hown hK hP 0 rfl rfl 5 (by decide) (hts (.fieldLink RX5 37 "FavourRingsModel" "runs" "Z") (List.mem_of_getElem? (i := 1) rfl)) (fun _ h9 => h9) rfl dX5_changes_1 ?_
  refine lv_if_eq (tgt := 8) hx hb dX5_changes_4 (by decide) (fun c7 => ?_) (fun c7 => ?_)
  · have h := (if_pos c7).symm.trans h
    refine lv_aload_n hx hb dX5_changes_8 rfl (lv_at hl 0 rfl) ?_
    refine va_get (D := D) (ci := 5) (v := .int (vM 99 4)) (C := RX5) (T := TX5) (N := 18) hx hb hts iw_X5_changes_X5 hown hK hP 0 rfl rfl 4 (by decide) (hts (.fieldLink RX5 41 "FavourRingsModel" "pasts" "I") (List.mem_of_getElem? (i := 2) rfl)) (fun _ h9 => h9) rfl dX5_changes_9 ?_
    refine lv_iconst (v := (4 : Int32)) hx hb dX5_changes_12 (by decide) ?_
    refine lv_icmp_ne (tgt := 57) hx hb dX5_changes_13 (by decide) (fun c8 => ?_) (fun c8 => ?_)
    · have h := (if_neg c8).symm.trans h
      refine lv_iconst (v := (0 : Int32)) hx hb dX5_changes_57 (by decide) ?_
      refine lv_istore_n (lv' := [(1, .int (0 : Int32)), (0, .ref (adM 0))]) hx hb dX5_changes_58 rfl hl (by decide) rfl (fun ls hl => ?_)
      exact B59 FU vM (0 : Int32) _ _ _ h hP hD hS (lv_sub hl [1, 0] rfl)
    · have h := (if_pos c8).symm.trans h
      refine lv_iconst (v := (0 : Int32)) hx hb dX5_changes_16 (by decide) ?_
      refine lv_istore_n (lv' := [(1, .int (0 : Int32)), (0, .ref (adM 0))]) hx hb dX5_changes_17 rfl hl (by decide) rfl (fun ls hl => ?_)
      exact B18 FU vM (0 : Int32) _ _ _ h hP hD hS (lv_sub hl [1, 0] rfl)
  · have h := (if_neg c7).symm.trans h
    cases h
    exact endV hx hb hr hlocks hP hS dX5_changes_7
theorem iw_X5_oldest_X5 : ∀ w ∈ wsX50, w ∈ wsX5_oldest := fun _ h => List.mem_cons_of_mem _ (List.mem_append_right _ (h))
set_option maxHeartbeats 4000000 in
set_option maxRecDepth 100000 in
theorem c_X5_oldest (l : Launch) (D : va_G) (cA cQ : ClassId) (adM : Nat → Nat) (vM : St) (p1 : Int32) (p2 : Int32) (p3 : Int32) (o : Int32) (hf : X5_oldest vM p1 p2 p3 = some o) : Cti l yX5_oldest wsX5_oldest ({ frames := 1, cells := 0, slots := 0, locals := 22 }) D (TY cA cQ) [.ref (adM 0), .int p1, .int p2, .int p3] (wM cA adM vM) (wM cA adM vM) o := by
  refine Wk.i (cc := cX5_oldest) (maxL := 7) (ret := (some .int)) (by decide) rfl (Nat.le_of_ble_eq_true rfl) ?_
  intro p e s m below meth c A ls hx hb hr hlocks hml hown hts hK hN hP hD hA hl
  have hown : s.vm.findClass RX5 = some m.cls := hown
  have hS : va_S A s.heap s.heap [] := va_S.rf
  have hl : lv_has ls 7 [(0, .ref (adM 0)), (1, .int p1), (2, .int p2), (3, .int p3)] := hl
  have B7 : ∀ (fu7 : Nat) (x4 : Int32) (x5 : Int32) (H : Heap) (locs : List Loc) (ls : Array Slot), X5_oldest_l7 vM p1 p2 p3 fu7 x4 x5 = some o → va_P D vwCl (wM cA adM vM) H → va_D A (wM cA adM vM) → va_S A s.heap H locs → lv_has ls 7 [(0, .ref (adM 0)), (1, .int p1), (2, .int p2), (3, .int p3), (4, .int x4), (5, .int x5)] → W p l e (headSpec wsX5_oldest ({ frames := 1, cells := 0, slots := 0, locals := 22 })).room s m ([.ref (adM 0), .int p1, .int p2, .int p3] : List Value).toArray below meth c H locs 0 0 (MQ below (QI D (wM cA adM vM) o A) ([.ref (adM 0), .int p1, .int p2, .int p3] : List Value).toArray s 0 0 A) (F0 m 7 ls []) := by
    intro fu7
    induction fu7 with
    | zero =>
      intro x4 x5 H locs ls h hP hD hS hl
      cases h
    | succ fu7 ih7 =>
      have B68 : ∀ (x4 : Int32) (x5 : Int32) (t0 : Int32) (H : Heap) (locs : List Loc) (ls : Array Slot), X5_oldest_b68 vM p1 p2 p3 (X5_oldest_l7 vM p1 p2 p3 fu7) x4 x5 t0 = some o → va_P D vwCl (wM cA adM vM) H → va_D A (wM cA adM vM) → va_S A s.heap H locs → lv_has ls 7 [(0, .ref (adM 0)), (1, .int p1), (2, .int p2), (3, .int p3), (4, .int x4), (5, .int x5)] → W p l e (headSpec wsX5_oldest ({ frames := 1, cells := 0, slots := 0, locals := 22 })).room s m ([.ref (adM 0), .int p1, .int p2, .int p3] : List Value).toArray below meth c H locs 0 0 (MQ below (QI D (wM cA adM vM) o A) ([.ref (adM 0), .int p1, .int p2, .int p3] : List Value).toArray s 0 0 A) (F0 m 68 ls [.int t0]) := by
        intro x4 x5 t0 H locs ls h hP hD hS hl
        unfold X5_oldest_b68 at h
        refine lv_istore (lv' := [(6, .int t0), (0, .ref (adM 0)), (1, .int p1), (2, .int p2), (3, .int p3), (4, .int x4), (5, .int x5)]) hx hb dX5_oldest_68 hl (by decide) rfl (fun ls hl => ?_)
        refine lv_iload hx hb dX5_oldest_70 (lv_at hl 0 rfl) ?_
        refine lv_if_eq (tgt := 102) hx hb dX5_oldest_72 (by decide) (fun c1 => ?_) (fun c1 => ?_)
        · have h := (if_pos c1).symm.trans h
          refine lv_iload hx hb dX5_oldest_102 (lv_at hl 5 rfl) ?_
          refine lv_istore (lv' := [(4, .int x4), (6, .int t0), (0, .ref (adM 0)), (1, .int p1), (2, .int p2), (3, .int p3), (5, .int x5)]) hx hb dX5_oldest_104 hl (by decide) rfl (fun ls hl => ?_)
          refine lv_iinc (v := (x5 + (1 : Int32))) (lv' := [(5, .int (x5 + (1 : Int32))), (4, .int x4), (6, .int t0), (0, .ref (adM 0)), (1, .int p1), (2, .int p2), (3, .int p3)]) hx hb dX5_oldest_106 hl (k := 6) rfl rfl (by decide) rfl (fun ls hl => ?_)
          refine lv_goto (tgt := 7) hx hb dX5_oldest_109 (by decide) ?_
          exact ih7 x4 (x5 + (1 : Int32)) _ _ _ h hP hD hS (lv_sub hl [3, 4, 5, 6, 1, 0] rfl)
        · have h := (if_neg c1).symm.trans h
          refine lv_iload hx hb dX5_oldest_75 (lv_at hl 5 rfl) ?_
          refine lv_if_lt (tgt := 97) hx hb dX5_oldest_77 (by decide) (fun c2 => ?_) (fun c2 => ?_)
          · have h := (if_pos c2).symm.trans h
            refine lv_iload hx hb dX5_oldest_97 (lv_at hl 6 rfl) ?_
            refine lv_goto (tgt := 104) hx hb dX5_oldest_99 (by decide) ?_
            refine lv_istore (lv' := [(4, .int x5), (6, .int t0), (0, .ref (adM 0)), (1, .int p1), (2, .int p2), (3, .int p3), (5, .int x5)]) hx hb dX5_oldest_104 hl (by decide) rfl (fun ls hl => ?_)
            refine lv_iinc (v := (x5 + (1 : Int32))) (lv' := [(5, .int (x5 + (1 : Int32))), (4, .int x5), (6, .int t0), (0, .ref (adM 0)), (1, .int p1), (2, .int p2), (3, .int p3)]) hx hb dX5_oldest_106 hl (k := 6) rfl rfl (by decide) rfl (fun ls hl => ?_)
            refine lv_goto (tgt := 7) hx hb dX5_oldest_109 (by decide) ?_
            exact ih7 x5 (x5 + (1 : Int32)) _ _ _ h hP hD hS (lv_sub hl [3, 4, 5, 6, 1, 0] rfl)
          · have h := (if_neg c2).symm.trans h
            refine lv_aload_n hx hb dX5_oldest_80 rfl (lv_at hl 1 rfl) ?_
            refine lv_iload hx hb dX5_oldest_81 (lv_at hl 6 rfl) ?_
            refine lv_iconst (v := (4 : Int32)) hx hb dX5_oldest_83 (by decide) ?_
            obtain ⟨u3, eu3, h⟩ := bd_in h
            refine kI (va_runV (As := [.int x5, .int (4 : Int32)]) (rest := []) ⟨hx, hb, hml, hown, hts⟩ (c_X5_of l D cA cQ adM vM x5 (4 : Int32) u3 eu3 _) (cwV 2 hts gX5_oldest_X5_of rfl rfl rfl (by decide +kernel) ⟨Nat.le_of_ble_eq_true rfl, Nat.le_of_ble_eq_true rfl⟩) (pV (ci := 5) (q := (RX5, TX5, 18)) hK hN hP hD [0, 1, 2, 3, 4, 5, 6, 7, 8, 9] rfl rfl rfl rfl) rfl rfl hl.1 rfl (lv_room (Nat.le_of_ble_eq_true rfl)) dX5_oldest_84 ⟨Nat.zero_le _, Nat.zero_le _⟩) hP hD hS hA [0, 1, 2, 3, 4, 5, 6, 7, 8, 9] rfl rfl (ws' := (wM cA adM vM)) rfl (fun H locs hP hD hS => ?_)
            refine lv_aload_n hx hb dX5_oldest_87 rfl (lv_at hl 1 rfl) ?_
            refine lv_iload hx hb dX5_oldest_88 (lv_at hl 5 rfl) ?_
            refine lv_iconst (v := (4 : Int32)) hx hb dX5_oldest_90 (by decide) ?_
            obtain ⟨u4, eu4, h⟩ := bd_in h
            refine kI (va_runV (As := [.int x4, .int (4 : Int32)]) (rest := [.int u3]) ⟨hx, hb, hml, hown, hts⟩ (c_X5_of l D cA cQ adM vM x4 (4 : Int32) u4 eu4 _) (cwV 2 hts gX5_oldest_X5_of rfl rfl rfl (by decide +kernel) ⟨Nat.le_of_ble_eq_true rfl, Nat.le_of_ble_eq_true rfl⟩) (pV (ci := 5) (q := (RX5, TX5, 18)) hK hN hP hD [0, 1, 2, 3, 4, 5, 6, 7, 8, 9] rfl rfl rfl rfl) rfl rfl hl.1 rfl (lv_room (Nat.le_of_ble_eq_true rfl)) dX5_oldest_91 ⟨Nat.zero_le _, Nat.zero_le _⟩) hP hD hS hA [0, 1, 2, 3, 4, 5, 6, 7, 8, 9] rfl rfl (ws' := (wM cA adM vM)) rfl (fun H locs hP hD hS => ?_)
            refine lv_icmp_le (tgt := 102) hx hb dX5_oldest_94 (by decide) (fun c5 => ?_) (fun c5 => ?_)
            · have h := (if_pos c5).symm.trans h
              refine lv_iload hx hb dX5_oldest_102 (lv_at hl 5 rfl) ?_
              refine lv_istore (lv' := [(4, .int x4), (6, .int t0), (0, .ref (adM 0)), (1, .int p1), (2, .int p2), (3, .int p3), (5, .int x5)]) hx hb dX5_oldest_104 hl (by decide) rfl (fun ls hl => ?_)
              refine lv_iinc (v := (x5 + (1 : Int32))) (lv' := [(5, .int (x5 + (1 : Int32))), (4, .int x4), (6, .int t0), (0, .ref (adM 0)), (1, .int p1), (2, .int p2), (3, .int p3)]) hx hb dX5_oldest_106 hl (k := 6) rfl rfl (by decide) rfl (fun ls hl => ?_)
              refine lv_goto (tgt := 7) hx hb dX5_oldest_109 (by decide) ?_
              exact ih7 x4 (x5 + (1 : Int32)) _ _ _ h hP hD hS (lv_sub hl [3, 4, 5, 6, 1, 0] rfl)
            · have h := (if_neg c5).symm.trans h
              refine lv_iload hx hb dX5_oldest_97 (lv_at hl 6 rfl) ?_
              refine lv_goto (tgt := 104) hx hb dX5_oldest_99 (by decide) ?_
              refine lv_istore (lv' := [(4, .int x5), (6, .int t0), (0, .ref (adM 0)), (1, .int p1), (2, .int p2), (3, .int p3), (5, .int x5)]) hx hb dX5_oldest_104 hl (by decide) rfl (fun ls hl => ?_)
              refine lv_iinc (v := (x5 + (1 : Int32))) (lv' := [(5, .int (x5 + (1 : Int32))), (4, .int x5), (6, .int t0), (0, .ref (adM 0)), (1, .int p1), (2, .int p2), (3, .int p3)]) hx hb dX5_oldest_106 hl (k := 6) rfl rfl (by decide) rfl (fun ls hl => ?_)
              refine lv_goto (tgt := 7) hx hb dX5_oldest_109 (by decide) ?_
              exact ih7 x5 (x5 + (1 : Int32)) _ _ _ h hP hD hS (lv_sub hl [3, 4, 5, 6, 1, 0] rfl)
      have B67 : ∀ (x4 : Int32) (x5 : Int32) (H : Heap) (locs : List Loc) (ls : Array Slot), X5_oldest_b67 vM p1 p2 p3 (X5_oldest_l7 vM p1 p2 p3 fu7) x4 x5 = some o → va_P D vwCl (wM cA adM vM) H → va_D A (wM cA adM vM) → va_S A s.heap H locs → lv_has ls 7 [(0, .ref (adM 0)), (1, .int p1), (2, .int p2), (3, .int p3), (4, .int x4), (5, .int x5)] → W p l e (headSpec wsX5_oldest ({ frames := 1, cells := 0, slots := 0, locals := 22 })).room s m ([.ref (adM 0), .int p1, .int p2, .int p3] : List Value).toArray below meth c H locs 0 0 (MQ below (QI D (wM cA adM vM) o A) ([.ref (adM 0), .int p1, .int p2, .int p3] : List Value).toArray s 0 0 A) (F0 m 67 ls []) := by
        intro x4 x5 H locs ls h hP hD hS hl
        unfold X5_oldest_b67 at h
        refine lv_iconst (v := (0 : Int32)) hx hb dX5_oldest_67 (by decide) ?_
        exact B68 x4 x5 (0 : Int32) _ _ _ h hP hD hS (lv_sub hl [0, 1, 2, 3, 4, 5] rfl)
      intro x4 x5 H locs ls h hP hD hS hl
      rw [X5_oldest_l7] at h
      refine lv_iload hx hb dX5_oldest_7 (lv_at hl 5 rfl) ?_
      refine lv_aload_n hx hb dX5_oldest_9 rfl (lv_at hl 0 rfl) ?_
      refine va_get (D := D) (ci := 5) (v := .ref (adM 1)) (C := RX5) (T := TX5) (N := 18) hx hb hts iw_X5_oldest_X5 hown hK hP 0 rfl rfl 0 (by decide) (hts (.fieldLink RX5 7 "FavourRingsModel" "s" "[I") (List.mem_of_getElem? (i := 2) rfl)) (fun _ h9 => h9) rfl dX5_oldest_10 ?_
      refine lv_sipush (v := (290 : Int32)) hx hb dX5_oldest_13 (by decide) ?_
      obtain ⟨y6, ey6, h⟩ := bd_in h
      refine ldR hx hb hK hP 1 0 rfl rfl ey6 dX5_oldest_16 ?_
      refine lv_icmp_ge (tgt := 112) hx hb dX5_oldest_17 (by decide) (fun c7 => ?_) (fun c7 => ?_)
      · have h := (if_pos c7).symm.trans h
        refine lv_iload hx hb dX5_oldest_112 (lv_at hl 4 rfl) ?_
        cases h
        exact endI hx hb hr hlocks hP hS rfl dX5_oldest_114
      · have h := (if_neg c7).symm.trans h
        refine lv_aload_n hx hb dX5_oldest_20 rfl (lv_at hl 0 rfl) ?_
        refine lv_iload hx hb dX5_oldest_21 (lv_at hl 5 rfl) ?_
        refine lv_iconst (v := (0 : Int32)) hx hb dX5_oldest_23 (by decide) ?_
        obtain ⟨u8, eu8, h⟩ := bd_in h
        refine kI (va_runV (As := [.int x5, .int (0 : Int32)]) (rest := []) ⟨hx, hb, hml, hown, hts⟩ (c_X5_of l D cA cQ adM vM x5 (0 : Int32) u8 eu8 _) (cwV 2 hts gX5_oldest_X5_of rfl rfl rfl (by decide +kernel) ⟨Nat.le_of_ble_eq_true rfl, Nat.le_of_ble_eq_true rfl⟩) (pV (ci := 5) (q := (RX5, TX5, 18)) hK hN hP hD [0, 1, 2, 3, 4, 5, 6, 7, 8, 9] rfl rfl rfl rfl) rfl rfl hl.1 rfl (lv_room (Nat.le_of_ble_eq_true rfl)) dX5_oldest_24 ⟨Nat.zero_le _, Nat.zero_le _⟩) hP hD hS hA [0, 1, 2, 3, 4, 5, 6, 7, 8, 9] rfl rfl (ws' := (wM cA adM vM)) rfl (fun H locs hP hD hS => ?_)
        refine lv_iload_n hx hb dX5_oldest_27 rfl (lv_at hl 1 rfl) ?_
        refine lv_icmp_ne (tgt := 67) hx hb dX5_oldest_28 (by decide) (fun c9 => ?_) (fun c9 => ?_)
        · have h := (if_neg c9).symm.trans h
          exact B67 x4 x5 _ _ _ h hP hD hS (lv_sub hl [0, 1, 2, 3, 4, 5] rfl)
        · have h := (if_pos c9).symm.trans h
          refine lv_aload_n hx hb dX5_oldest_31 rfl (lv_at hl 0 rfl) ?_
          refine lv_iload hx hb dX5_oldest_32 (lv_at hl 5 rfl) ?_
          refine lv_iconst (v := (1 : Int32)) hx hb dX5_oldest_34 (by decide) ?_
          obtain ⟨u10, eu10, h⟩ := bd_in h
          refine kI (va_runV (As := [.int x5, .int (1 : Int32)]) (rest := []) ⟨hx, hb, hml, hown, hts⟩ (c_X5_of l D cA cQ adM vM x5 (1 : Int32) u10 eu10 _) (cwV 2 hts gX5_oldest_X5_of rfl rfl rfl (by decide +kernel) ⟨Nat.le_of_ble_eq_true rfl, Nat.le_of_ble_eq_true rfl⟩) (pV (ci := 5) (q := (RX5, TX5, 18)) hK hN hP hD [0, 1, 2, 3, 4, 5, 6, 7, 8, 9] rfl rfl rfl rfl) rfl rfl hl.1 rfl (lv_room (Nat.le_of_ble_eq_true rfl)) dX5_oldest_35 ⟨Nat.zero_le _, Nat.zero_le _⟩) hP hD hS hA [0, 1, 2, 3, 4, 5, 6, 7, 8, 9] rfl rfl (ws' := (wM cA adM vM)) rfl (fun H locs hP hD hS => ?_)
          refine lv_iload_n hx hb dX5_oldest_38 rfl (lv_at hl 2 rfl) ?_
          refine lv_icmp_ne (tgt := 67) hx hb dX5_oldest_39 (by decide) (fun c11 => ?_) (fun c11 => ?_)
          · have h := (if_neg c11).symm.trans h
            exact B67 x4 x5 _ _ _ h hP hD hS (lv_sub hl [0, 1, 2, 3, 4, 5] rfl)
          · have h := (if_pos c11).symm.trans h
            refine lv_aload_n hx hb dX5_oldest_42 rfl (lv_at hl 0 rfl) ?_
            refine lv_iload hx hb dX5_oldest_43 (lv_at hl 5 rfl) ?_
            refine lv_iconst (v := (2 : Int32)) hx hb dX5_oldest_45 (by decide) ?_
            obtain ⟨u12, eu12, h⟩ := bd_in h
            refine kI (va_runV (As := [.int x5, .int (2 : Int32)]) (rest := []) ⟨hx, hb, hml, hown, hts⟩ (c_X5_of l D cA cQ adM vM x5 (2 : Int32) u12 eu12 _) (cwV 2 hts gX5_oldest_X5_of rfl rfl rfl (by decide +kernel) ⟨Nat.le_of_ble_eq_true rfl, Nat.le_of_ble_eq_true rfl⟩) (pV (ci := 5) (q := (RX5, TX5, 18)) hK hN hP hD [0, 1, 2, 3, 4, 5, 6, 7, 8, 9] rfl rfl rfl rfl) rfl rfl hl.1 rfl (lv_room (Nat.le_of_ble_eq_true rfl)) dX5_oldest_46 ⟨Nat.zero_le _, Nat.zero_le _⟩) hP hD hS hA [0, 1, 2, 3, 4, 5, 6, 7, 8, 9] rfl rfl (ws' := (wM cA adM vM)) rfl (fun H locs hP hD hS => ?_)
            refine lv_iload_n hx hb dX5_oldest_49 rfl (lv_at hl 3 rfl) ?_
            refine lv_icmp_ne (tgt := 67) hx hb dX5_oldest_50 (by decide) (fun c13 => ?_) (fun c13 => ?_)
            · have h := (if_neg c13).symm.trans h
              exact B67 x4 x5 _ _ _ h hP hD hS (lv_sub hl [0, 1, 2, 3, 4, 5] rfl)
            · have h := (if_pos c13).symm.trans h
              refine lv_aload_n hx hb dX5_oldest_53 rfl (lv_at hl 0 rfl) ?_
              refine lv_iload hx hb dX5_oldest_54 (lv_at hl 5 rfl) ?_
              refine lv_iconst (v := (3 : Int32)) hx hb dX5_oldest_56 (by decide) ?_
              obtain ⟨u14, eu14, h⟩ := bd_in h
              refine kI (va_runV (As := [.int x5, .int (3 : Int32)]) (rest := []) ⟨hx, hb, hml, hown, hts⟩ (c_X5_of l D cA cQ adM vM x5 (3 : Int32) u14 eu14 _) (cwV 2 hts gX5_oldest_X5_of rfl rfl rfl (by decide +kernel) ⟨Nat.le_of_ble_eq_true rfl, Nat.le_of_ble_eq_true rfl⟩) (pV (ci := 5) (q := (RX5, TX5, 18)) hK hN hP hD [0, 1, 2, 3, 4, 5, 6, 7, 8, 9] rfl rfl rfl rfl) rfl rfl hl.1 rfl (lv_room (Nat.le_of_ble_eq_true rfl)) dX5_oldest_57 ⟨Nat.zero_le _, Nat.zero_le _⟩) hP hD hS hA [0, 1, 2, 3, 4, 5, 6, 7, 8, 9] rfl rfl (ws' := (wM cA adM vM)) rfl (fun H locs hP hD hS => ?_)
              refine lv_if_le (tgt := 67) hx hb dX5_oldest_60 (by decide) (fun c15 => ?_) (fun c15 => ?_)
              · have h := (if_pos c15).symm.trans h
                exact B67 x4 x5 _ _ _ h hP hD hS (lv_sub hl [0, 1, 2, 3, 4, 5] rfl)
              · have h := (if_neg c15).symm.trans h
                refine lv_iconst (v := (1 : Int32)) hx hb dX5_oldest_63 (by decide) ?_
                refine lv_goto (tgt := 68) hx hb dX5_oldest_64 (by decide) ?_
                exact B68 x4 x5 (1 : Int32) _ _ _ h hP hD hS (lv_sub hl [0, 1, 2, 3, 4, 5] rfl)
  have h := hf
  unfold X5_oldest at h
  refine lv_ldc (v := (-1000004 : Int32)) hx hb hown (hts (.constant RX5 57 (-1000004)) (List.mem_of_getElem? (i := 1) rfl)) dX5_oldest_0 ?_
  refine lv_istore (lv' := [(4, .int (-1000004 : Int32)), (0, .ref (adM 0)), (1, .int p1), (2, .int p2), (3, .int p3)]) hx hb dX5_oldest_2 hl (by decide) rfl (fun ls hl => ?_)
  refine lv_iconst (v := (0 : Int32)) hx hb dX5_oldest_4 (by decide) ?_
  refine lv_istore (lv' := [(5, .int (0 : Int32)), (4, .int (-1000004 : Int32)), (0, .ref (adM 0)), (1, .int p1), (2, .int p2), (3, .int p3)]) hx hb dX5_oldest_5 hl (by decide) rfl (fun ls hl => ?_)
  exact B7 FU (-1000004 : Int32) (0 : Int32) _ _ _ h hP hD hS (lv_sub hl [2, 3, 4, 5, 1, 0] rfl)
theorem iw_X5_lay_X5 : ∀ w ∈ wsX50, w ∈ wsX5_lay := fun _ h => List.mem_cons_of_mem _ (List.mem_append_right _ (h))
set_option maxHeartbeats 4000000 in
set_option maxRecDepth 100000 in
theorem c_X5_lay (l : Launch) (D : va_G) (cA cQ : ClassId) (adM : Nat → Nat) (vM : St) (p1 : Int32) (p2 : Int32) (p3 : Int32) (o : St) (hf : X5_lay vM p1 p2 p3 = some o) : Ctv l yX5_lay wsX5_lay ({ frames := 0, cells := 0, slots := 0, locals := 0 }) D (TY cA cQ) [.ref (adM 0), .int p1, .int p2, .int p3] (wM cA adM vM) (wM cA adM o) := by
  refine Wk.v (cc := cX5_lay) (maxL := 4) (ret := none) (by decide) rfl (Nat.le_of_ble_eq_true rfl) ?_
  intro p e s m below meth c A ls hx hb hr hlocks hml hown hts hK hN hP hD hA hl
  have hown : s.vm.findClass RX5 = some m.cls := hown
  have hS : va_S A s.heap s.heap [] := va_S.rf
  have hl : lv_has ls 4 [(0, .ref (adM 0)), (1, .int p1), (2, .int p2), (3, .int p3)] := hl
  have h := hf
  unfold X5_lay at h
  refine lv_aload_n hx hb dX5_lay_0 rfl (lv_at hl 0 rfl) ?_
  refine va_get (D := D) (ci := 5) (v := .ref (adM 1)) (C := RX5) (T := TX5) (N := 18) hx hb hts iw_X5_lay_X5 hown hK hP 0 rfl rfl 0 (by decide) (hts (.fieldLink RX5 7 "FavourRingsModel" "s" "[I") (List.mem_of_getElem? (i := 1) rfl)) (fun _ h9 => h9) rfl dX5_lay_1 ?_
  refine lv_bipush (v := (6 : Int32)) hx hb dX5_lay_4 (by decide) ?_
  refine lv_iload_n hx hb dX5_lay_6 rfl (lv_at hl 1 rfl) ?_
  refine lv_imul hx hb dX5_lay_7 ?_
  refine lv_iload_n hx hb dX5_lay_8 rfl (lv_at hl 2 rfl) ?_
  refine lv_iadd hx hb dX5_lay_9 ?_
  refine lv_iload_n hx hb dX5_lay_10 rfl (lv_at hl 3 rfl) ?_
  obtain ⟨g1, eg1, h⟩ := bd_in h
  refine stR hx hb hK hP hD hS 1 0 rfl rfl eg1 (ws' := (wM cA adM (setA vM 1 g1))) rfl dX5_lay_11 (fun H locs hP hD hS => ?_)
  cases h
  exact endV hx hb hr hlocks hP hS dX5_lay_12
theorem iw_X5_dropsEmpty_X5 : ∀ w ∈ wsX50, w ∈ wsX5_dropsEmpty := fun _ h => List.mem_cons_of_mem _ (List.mem_append_right _ (h))
set_option maxHeartbeats 4000000 in
set_option maxRecDepth 100000 in
theorem c_X5_dropsEmpty (l : Launch) (D : va_G) (cA cQ : ClassId) (adM : Nat → Nat) (vM : St) (o : St) (hf : X5_dropsEmpty vM = some o) : Ctv l yX5_dropsEmpty wsX5_dropsEmpty ({ frames := 1, cells := 0, slots := 0, locals := 22 }) D (TY cA cQ) [.ref (adM 0)] (wM cA adM vM) (wM cA adM o) := by
  refine Wk.v (cc := cX5_dropsEmpty) (maxL := 4) (ret := none) (by decide) rfl (Nat.le_of_ble_eq_true rfl) ?_
  intro p e s m below meth c A ls hx hb hr hlocks hml hown hts hK hN hP hD hA hl
  have hown : s.vm.findClass RX5 = some m.cls := hown
  have hS : va_S A s.heap s.heap [] := va_S.rf
  have hl : lv_has ls 4 [(0, .ref (adM 0))] := hl
  have B75 : ∀ (fu75 : Nat) (vM : St) (x1 : Int32) (x2 : Int32) (H : Heap) (locs : List Loc) (ls : Array Slot), X5_dropsEmpty_l75 fu75 vM x1 x2 = some o → va_P D vwCl (wM cA adM vM) H → va_D A (wM cA adM vM) → va_S A s.heap H locs → lv_has ls 4 [(0, .ref (adM 0)), (1, .int x1), (2, .int x2)] → W p l e (headSpec wsX5_dropsEmpty ({ frames := 1, cells := 0, slots := 0, locals := 22 })).room s m ([.ref (adM 0)] : List Value).toArray below meth c H locs 0 0 (MQ below (QV D (wM cA adM o) A) ([.ref (adM 0)] : List Value).toArray s 0 0 A) (F0 m 75 ls []) := by
    intro fu75
    induction fu75 with
    | zero =>
      intro vM x1 x2 H locs ls h hP hD hS hl
      cases h
    | succ fu75 ih75 =>
      intro vM x1 x2 H locs ls h hP hD hS hl
      rw [X5_dropsEmpty_l75] at h
      refine lv_iload_n hx hb dX5_dropsEmpty_75 rfl (lv_at hl 2 rfl) ?_
      refine lv_bipush (v := (6 : Int32)) hx hb dX5_dropsEmpty_76 (by decide) ?_
      refine lv_aload_n hx hb dX5_dropsEmpty_78 rfl (lv_at hl 0 rfl) ?_
      refine va_get (D := D) (ci := 5) (v := .ref (adM 1)) (C := RX5) (T := TX5) (N := 18) hx hb hts iw_X5_dropsEmpty_X5 hown hK hP 0 rfl rfl 0 (by decide) (hts (.fieldLink RX5 7 "FavourRingsModel" "s" "[I") (List.mem_of_getElem? (i := 1) rfl)) (fun _ h9 => h9) rfl dX5_dropsEmpty_79 ?_
      refine lv_sipush (v := (290 : Int32)) hx hb dX5_dropsEmpty_82 (by decide) ?_
      obtain ⟨y1, ey1, h⟩ := bd_in h
      refine ldR hx hb hK hP 1 0 rfl rfl ey1 dX5_dropsEmpty_85 ?_
      refine lv_imul hx hb dX5_dropsEmpty_86 ?_
      refine lv_icmp_ge (tgt := 103) hx hb dX5_dropsEmpty_87 (by decide) (fun c2 => ?_) (fun c2 => ?_)
      · have h := (if_pos c2).symm.trans h
        refine lv_aload_n hx hb dX5_dropsEmpty_103 rfl (lv_at hl 0 rfl) ?_
        refine va_get (D := D) (ci := 5) (v := .ref (adM 1)) (C := RX5) (T := TX5) (N := 18) hx hb hts iw_X5_dropsEmpty_X5 hown hK hP 0 rfl rfl 0 (by decide) (hts (.fieldLink RX5 7 "FavourRingsModel" "s" "[I") (List.mem_of_getElem? (i := 1) rfl)) (fun _ h9 => h9) rfl dX5_dropsEmpty_104 ?_
        refine lv_sipush (v := (290 : Int32)) hx hb dX5_dropsEmpty_107 (by decide) ?_
        refine lv_iload_n hx hb dX5_dropsEmpty_110 rfl (lv_at hl 1 rfl) ?_
        obtain ⟨g3, eg3, h⟩ := bd_in h
        refine stR hx hb hK hP hD hS 1 0 rfl rfl eg3 (ws' := (wM cA adM (setA vM 1 g3))) rfl dX5_dropsEmpty_111 (fun H locs hP hD hS => ?_)
        cases h
        exact endV hx hb hr hlocks hP hS dX5_dropsEmpty_112
      · have h := (if_neg c2).symm.trans h
        refine lv_aload_n hx hb dX5_dropsEmpty_90 rfl (lv_at hl 0 rfl) ?_
        refine va_get (D := D) (ci := 5) (v := .ref (adM 1)) (C := RX5) (T := TX5) (N := 18) hx hb hts iw_X5_dropsEmpty_X5 hown hK hP 0 rfl rfl 0 (by decide) (hts (.fieldLink RX5 7 "FavourRingsModel" "s" "[I") (List.mem_of_getElem? (i := 1) rfl)) (fun _ h9 => h9) rfl dX5_dropsEmpty_91 ?_
        refine lv_iload_n hx hb dX5_dropsEmpty_94 rfl (lv_at hl 2 rfl) ?_
        refine lv_iconst (v := (0 : Int32)) hx hb dX5_dropsEmpty_95 (by decide) ?_
        obtain ⟨g4, eg4, h⟩ := bd_in h
        refine stR hx hb hK hP hD hS 1 0 rfl rfl eg4 (ws' := (wM cA adM (setA vM 1 g4))) rfl dX5_dropsEmpty_96 (fun H locs hP hD hS => ?_)
        refine lv_iinc (v := (x2 + (1 : Int32))) (lv' := [(2, .int (x2 + (1 : Int32))), (0, .ref (adM 0)), (1, .int x1)]) hx hb dX5_dropsEmpty_97 hl (k := 2) rfl rfl (by decide) rfl (fun ls hl => ?_)
        refine lv_goto (tgt := 75) hx hb dX5_dropsEmpty_100 (by decide) ?_
        exact ih75 (setA vM 1 g4) x1 (x2 + (1 : Int32)) _ _ _ h hP hD hS (lv_sub hl [1, 2, 0] rfl)
  have B4 : ∀ (fu4 : Nat) (vM : St) (x1 : Int32) (x2 : Int32) (H : Heap) (locs : List Loc) (ls : Array Slot), X5_dropsEmpty_l4 fu4 vM x1 x2 = some o → va_P D vwCl (wM cA adM vM) H → va_D A (wM cA adM vM) → va_S A s.heap H locs → lv_has ls 4 [(0, .ref (adM 0)), (1, .int x1), (2, .int x2)] → W p l e (headSpec wsX5_dropsEmpty ({ frames := 1, cells := 0, slots := 0, locals := 22 })).room s m ([.ref (adM 0)] : List Value).toArray below meth c H locs 0 0 (MQ below (QV D (wM cA adM o) A) ([.ref (adM 0)] : List Value).toArray s 0 0 A) (F0 m 4 ls []) := by
    intro fu4
    induction fu4 with
    | zero =>
      intro vM x1 x2 H locs ls h hP hD hS hl
      cases h
    | succ fu4 ih4 =>
      have B27 : ∀ (fu27 : Nat) (vM : St) (x1 : Int32) (x2 : Int32) (x3 : Int32) (H : Heap) (locs : List Loc) (ls : Array Slot), X5_dropsEmpty_l27 (X5_dropsEmpty_l4 fu4) fu27 vM x1 x2 x3 = some o → va_P D vwCl (wM cA adM vM) H → va_D A (wM cA adM vM) → va_S A s.heap H locs → lv_has ls 4 [(0, .ref (adM 0)), (1, .int x1), (2, .int x2), (3, .int x3)] → W p l e (headSpec wsX5_dropsEmpty ({ frames := 1, cells := 0, slots := 0, locals := 22 })).room s m ([.ref (adM 0)] : List Value).toArray below meth c H locs 0 0 (MQ below (QV D (wM cA adM o) A) ([.ref (adM 0)] : List Value).toArray s 0 0 A) (F0 m 27 ls []) := by
        intro fu27
        induction fu27 with
        | zero =>
          intro vM x1 x2 x3 H locs ls h hP hD hS hl
          cases h
        | succ fu27 ih27 =>
          intro vM x1 x2 x3 H locs ls h hP hD hS hl
          rw [X5_dropsEmpty_l27] at h
          refine lv_iload_n hx hb dX5_dropsEmpty_27 rfl (lv_at hl 3 rfl) ?_
          refine lv_bipush (v := (6 : Int32)) hx hb dX5_dropsEmpty_28 (by decide) ?_
          refine lv_icmp_ge (tgt := 61) hx hb dX5_dropsEmpty_30 (by decide) (fun c5 => ?_) (fun c5 => ?_)
          · have h := (if_pos c5).symm.trans h
            refine lv_iinc (v := (x1 + (1 : Int32))) (lv' := [(1, .int (x1 + (1 : Int32))), (0, .ref (adM 0)), (2, .int x2), (3, .int x3)]) hx hb dX5_dropsEmpty_61 hl (k := 1) rfl rfl (by decide) rfl (fun ls hl => ?_)
            refine lv_iinc (v := (x2 + (1 : Int32))) (lv' := [(2, .int (x2 + (1 : Int32))), (1, .int (x1 + (1 : Int32))), (0, .ref (adM 0)), (3, .int x3)]) hx hb dX5_dropsEmpty_64 hl (k := 2) rfl rfl (by decide) rfl (fun ls hl => ?_)
            refine lv_goto (tgt := 4) hx hb dX5_dropsEmpty_67 (by decide) ?_
            exact ih4 vM (x1 + (1 : Int32)) (x2 + (1 : Int32)) _ _ _ h hP hD hS (lv_sub hl [2, 1, 0] rfl)
          · have h := (if_neg c5).symm.trans h
            refine lv_aload_n hx hb dX5_dropsEmpty_33 rfl (lv_at hl 0 rfl) ?_
            refine va_get (D := D) (ci := 5) (v := .ref (adM 1)) (C := RX5) (T := TX5) (N := 18) hx hb hts iw_X5_dropsEmpty_X5 hown hK hP 0 rfl rfl 0 (by decide) (hts (.fieldLink RX5 7 "FavourRingsModel" "s" "[I") (List.mem_of_getElem? (i := 1) rfl)) (fun _ h9 => h9) rfl dX5_dropsEmpty_34 ?_
            refine lv_bipush (v := (6 : Int32)) hx hb dX5_dropsEmpty_37 (by decide) ?_
            refine lv_iload_n hx hb dX5_dropsEmpty_39 rfl (lv_at hl 1 rfl) ?_
            refine lv_imul hx hb dX5_dropsEmpty_40 ?_
            refine lv_iload_n hx hb dX5_dropsEmpty_41 rfl (lv_at hl 3 rfl) ?_
            refine lv_iadd hx hb dX5_dropsEmpty_42 ?_
            refine lv_aload_n hx hb dX5_dropsEmpty_43 rfl (lv_at hl 0 rfl) ?_
            refine va_get (D := D) (ci := 5) (v := .ref (adM 1)) (C := RX5) (T := TX5) (N := 18) hx hb hts iw_X5_dropsEmpty_X5 hown hK hP 0 rfl rfl 0 (by decide) (hts (.fieldLink RX5 7 "FavourRingsModel" "s" "[I") (List.mem_of_getElem? (i := 1) rfl)) (fun _ h9 => h9) rfl dX5_dropsEmpty_44 ?_
            refine lv_bipush (v := (6 : Int32)) hx hb dX5_dropsEmpty_47 (by decide) ?_
            refine lv_iload_n hx hb dX5_dropsEmpty_49 rfl (lv_at hl 2 rfl) ?_
            refine lv_imul hx hb dX5_dropsEmpty_50 ?_
            refine lv_iload_n hx hb dX5_dropsEmpty_51 rfl (lv_at hl 3 rfl) ?_
            refine lv_iadd hx hb dX5_dropsEmpty_52 ?_
            obtain ⟨y6, ey6, h⟩ := bd_in h
            refine ldR hx hb hK hP 1 0 rfl rfl ey6 dX5_dropsEmpty_53 ?_
            obtain ⟨g7, eg7, h⟩ := bd_in h
            refine stR hx hb hK hP hD hS 1 0 rfl rfl eg7 (ws' := (wM cA adM (setA vM 1 g7))) rfl dX5_dropsEmpty_54 (fun H locs hP hD hS => ?_)
            refine lv_iinc (v := (x3 + (1 : Int32))) (lv' := [(3, .int (x3 + (1 : Int32))), (0, .ref (adM 0)), (1, .int x1), (2, .int x2)]) hx hb dX5_dropsEmpty_55 hl (k := 3) rfl rfl (by decide) rfl (fun ls hl => ?_)
            refine lv_goto (tgt := 27) hx hb dX5_dropsEmpty_58 (by decide) ?_
            exact ih27 (setA vM 1 g7) x1 x2 (x3 + (1 : Int32)) _ _ _ h hP hD hS (lv_sub hl [1, 2, 3, 0] rfl)
      intro vM x1 x2 H locs ls h hP hD hS hl
      rw [X5_dropsEmpty_l4] at h
      refine lv_iload_n hx hb dX5_dropsEmpty_4 rfl (lv_at hl 2 rfl) ?_
      refine lv_aload_n hx hb dX5_dropsEmpty_5 rfl (lv_at hl 0 rfl) ?_
      refine va_get (D := D) (ci := 5) (v := .ref (adM 1)) (C := RX5) (T := TX5) (N := 18) hx hb hts iw_X5_dropsEmpty_X5 hown hK hP 0 rfl rfl 0 (by decide) (hts (.fieldLink RX5 7 "FavourRingsModel" "s" "[I") (List.mem_of_getElem? (i := 1) rfl)) (fun _ h9 => h9) rfl dX5_dropsEmpty_6 ?_
      refine lv_sipush (v := (290 : Int32)) hx hb dX5_dropsEmpty_9 (by decide) ?_
      obtain ⟨y8, ey8, h⟩ := bd_in h
      refine ldR hx hb hK hP 1 0 rfl rfl ey8 dX5_dropsEmpty_12 ?_
      refine lv_icmp_ge (tgt := 70) hx hb dX5_dropsEmpty_13 (by decide) (fun c9 => ?_) (fun c9 => ?_)
      · have h := (if_pos c9).symm.trans h
        refine lv_bipush (v := (6 : Int32)) hx hb dX5_dropsEmpty_70 (by decide) ?_
        refine lv_iload_n hx hb dX5_dropsEmpty_72 rfl (lv_at hl 1 rfl) ?_
        refine lv_imul hx hb dX5_dropsEmpty_73 ?_
        refine lv_istore_n (lv' := [(2, .int ((6 : Int32) * x1)), (0, .ref (adM 0)), (1, .int x1)]) hx hb dX5_dropsEmpty_74 rfl hl (by decide) rfl (fun ls hl => ?_)
        exact B75 FU vM x1 ((6 : Int32) * x1) _ _ _ h hP hD hS (lv_sub hl [1, 2, 0] rfl)
      · have h := (if_neg c9).symm.trans h
        refine lv_aload_n hx hb dX5_dropsEmpty_16 rfl (lv_at hl 0 rfl) ?_
        refine lv_iload_n hx hb dX5_dropsEmpty_17 rfl (lv_at hl 2 rfl) ?_
        refine lv_iconst (v := (3 : Int32)) hx hb dX5_dropsEmpty_18 (by decide) ?_
        obtain ⟨u10, eu10, h⟩ := bd_in h
        refine kI (va_runV (As := [.int x2, .int (3 : Int32)]) (rest := []) ⟨hx, hb, hml, hown, hts⟩ (c_X5_of l D cA cQ adM vM x2 (3 : Int32) u10 eu10 _) (cwV 2 hts gX5_dropsEmpty_X5_of rfl rfl rfl (by decide +kernel) ⟨Nat.le_of_ble_eq_true rfl, Nat.le_of_ble_eq_true rfl⟩) (pV (ci := 5) (q := (RX5, TX5, 18)) hK hN hP hD [0, 1, 2, 3, 4, 5, 6, 7, 8, 9] rfl rfl rfl rfl) rfl rfl hl.1 rfl (lv_room (Nat.le_of_ble_eq_true rfl)) dX5_dropsEmpty_19 ⟨Nat.zero_le _, Nat.zero_le _⟩) hP hD hS hA [0, 1, 2, 3, 4, 5, 6, 7, 8, 9] rfl rfl (ws' := (wM cA adM vM)) rfl (fun H locs hP hD hS => ?_)
        refine lv_if_le (tgt := 64) hx hb dX5_dropsEmpty_22 (by decide) (fun c11 => ?_) (fun c11 => ?_)
        · have h := (if_pos c11).symm.trans h
          refine lv_iinc (v := (x2 + (1 : Int32))) (lv' := [(2, .int (x2 + (1 : Int32))), (0, .ref (adM 0)), (1, .int x1)]) hx hb dX5_dropsEmpty_64 hl (k := 2) rfl rfl (by decide) rfl (fun ls hl => ?_)
          refine lv_goto (tgt := 4) hx hb dX5_dropsEmpty_67 (by decide) ?_
          exact ih4 vM x1 (x2 + (1 : Int32)) _ _ _ h hP hD hS (lv_sub hl [1, 2, 0] rfl)
        · have h := (if_neg c11).symm.trans h
          refine lv_iconst (v := (0 : Int32)) hx hb dX5_dropsEmpty_25 (by decide) ?_
          refine lv_istore_n (lv' := [(3, .int (0 : Int32)), (0, .ref (adM 0)), (1, .int x1), (2, .int x2)]) hx hb dX5_dropsEmpty_26 rfl hl (by decide) rfl (fun ls hl => ?_)
          exact B27 FU vM x1 x2 (0 : Int32) _ _ _ h hP hD hS (lv_sub hl [1, 2, 3, 0] rfl)
  have h := hf
  unfold X5_dropsEmpty at h
  refine lv_iconst (v := (0 : Int32)) hx hb dX5_dropsEmpty_0 (by decide) ?_
  refine lv_istore_n (lv' := [(1, .int (0 : Int32)), (0, .ref (adM 0))]) hx hb dX5_dropsEmpty_1 rfl hl (by decide) rfl (fun ls hl => ?_)
  refine lv_iconst (v := (0 : Int32)) hx hb dX5_dropsEmpty_2 (by decide) ?_
  refine lv_istore_n (lv' := [(2, .int (0 : Int32)), (1, .int (0 : Int32)), (0, .ref (adM 0))]) hx hb dX5_dropsEmpty_3 rfl hl (by decide) rfl (fun ls hl => ?_)
  exact B4 FU vM (0 : Int32) (0 : Int32) _ _ _ h hP hD hS (lv_sub hl [2, 1, 0] rfl)
set_option maxHeartbeats 4000000 in
set_option maxRecDepth 100000 in
theorem c_X5_takes (l : Launch) (D : va_G) (cA cQ : ClassId) (adM : Nat → Nat) (vM : St) (p1 : Int32) (p2 : Int32) (p3 : Int32) (p4 : Int32) (o : St) (hf : X5_takes vM p1 p2 p3 p4 = some o) : Ctv l yX5_takes wsX5_takes ({ frames := 2, cells := 0, slots := 0, locals := 48 }) D (TY cA cQ) [.ref (adM 0), .int p1, .int p2, .int p3, .int p4] (wM cA adM vM) (wM cA adM o) := by
  refine Wk.v (cc := cX5_takes) (maxL := 8) (ret := none) (by decide) rfl (Nat.le_of_ble_eq_true rfl) ?_
  intro p e s m below meth c A ls hx hb hr hlocks hml hown hts hK hN hP hD hA hl
  have hown : s.vm.findClass RX5 = some m.cls := hown
  have hS : va_S A s.heap s.heap [] := va_S.rf
  have hl : lv_has ls 8 [(0, .ref (adM 0)), (1, .int p1), (2, .int p2), (3, .int p3), (4, .int p4)] := hl
  have B71 : ∀ (vM : St) (H : Heap) (locs : List Loc) (ls : Array Slot), X5_takes_b71 p1 p2 p3 p4 vM = some o → va_P D vwCl (wM cA adM vM) H → va_D A (wM cA adM vM) → va_S A s.heap H locs → lv_has ls 8 [(0, .ref (adM 0))] → W p l e (headSpec wsX5_takes ({ frames := 2, cells := 0, slots := 0, locals := 48 })).room s m ([.ref (adM 0), .int p1, .int p2, .int p3, .int p4] : List Value).toArray below meth c H locs 0 0 (MQ below (QV D (wM cA adM o) A) ([.ref (adM 0), .int p1, .int p2, .int p3, .int p4] : List Value).toArray s 0 0 A) (F0 m 71 ls []) := by
    intro vM H locs ls h hP hD hS hl
    unfold X5_takes_b71 at h
    refine lv_aload_n hx hb dX5_takes_71 rfl (lv_at hl 0 rfl) ?_
    obtain ⟨u1, eu1, h⟩ := bd_in h
    refine kV (va_runV (As := []) (rest := []) ⟨hx, hb, hml, hown, hts⟩ (c_X5_dropsEmpty l D cA cQ adM vM u1 eu1 _) (cwV 0 hts gX5_takes_X5_dropsEmpty rfl rfl rfl (by decide +kernel) ⟨Nat.le_of_ble_eq_true rfl, Nat.le_of_ble_eq_true rfl⟩) (pV (ci := 5) (q := (RX5, TX5, 18)) hK hN hP hD [0, 1, 2, 3, 4, 5, 6, 7, 8, 9] rfl rfl rfl rfl) rfl rfl hl.1 rfl (lv_room (Nat.le_of_ble_eq_true rfl)) dX5_takes_72 ⟨Nat.zero_le _, Nat.zero_le _⟩) hP hD hS hA [0, 1, 2, 3, 4, 5, 6, 7, 8, 9] rfl rfl (ws' := (wM cA adM u1)) rfl (fun H locs hP hD hS => ?_)
    cases h
    exact endV hx hb hr hlocks hP hS dX5_takes_75
  have B4 : ∀ (fu4 : Nat) (vM : St) (x5 : Int32) (H : Heap) (locs : List Loc) (ls : Array Slot), X5_takes_l4 p1 p2 p3 p4 fu4 vM x5 = some o → va_P D vwCl (wM cA adM vM) H → va_D A (wM cA adM vM) → va_S A s.heap H locs → lv_has ls 8 [(0, .ref (adM 0)), (1, .int p1), (2, .int p2), (3, .int p3), (5, .int x5)] → W p l e (headSpec wsX5_takes ({ frames := 2, cells := 0, slots := 0, locals := 48 })).room s m ([.ref (adM 0), .int p1, .int p2, .int p3, .int p4] : List Value).toArray below meth c H locs 0 0 (MQ below (QV D (wM cA adM o) A) ([.ref (adM 0), .int p1, .int p2, .int p3, .int p4] : List Value).toArray s 0 0 A) (F0 m 4 ls []) := by
    intro fu4
    induction fu4 with
    | zero =>
      intro vM x5 H locs ls h hP hD hS hl
      cases h
    | succ fu4 ih4 =>
      have B42 : ∀ (vM : St) (x5 : Int32) (x6 : Int32) (t0 : Int32) (H : Heap) (locs : List Loc) (ls : Array Slot), X5_takes_b42 p1 p2 p3 p4 (X5_takes_l4 p1 p2 p3 p4 fu4) vM x5 x6 t0 = some o → va_P D vwCl (wM cA adM vM) H → va_D A (wM cA adM vM) → va_S A s.heap H locs → lv_has ls 8 [(0, .ref (adM 0)), (1, .int p1), (2, .int p2), (3, .int p3), (5, .int x5), (6, .int x6)] → W p l e (headSpec wsX5_takes ({ frames := 2, cells := 0, slots := 0, locals := 48 })).room s m ([.ref (adM 0), .int p1, .int p2, .int p3, .int p4] : List Value).toArray below meth c H locs 0 0 (MQ below (QV D (wM cA adM o) A) ([.ref (adM 0), .int p1, .int p2, .int p3, .int p4] : List Value).toArray s 0 0 A) (F0 m 42 ls [.int t0]) := by
        intro vM x5 x6 t0 H locs ls h hP hD hS hl
        unfold X5_takes_b42 at h
        refine lv_istore (lv' := [(7, .int t0), (0, .ref (adM 0)), (1, .int p1), (2, .int p2), (3, .int p3), (5, .int x5), (6, .int x6)]) hx hb dX5_takes_42 hl (by decide) rfl (fun ls hl => ?_)
        refine lv_aload_n hx hb dX5_takes_44 rfl (lv_at hl 1 rfl) ?_
        refine lv_iload hx hb dX5_takes_45 (lv_at hl 6 rfl) ?_
        refine lv_iconst (v := (3 : Int32)) hx hb dX5_takes_47 (by decide) ?_
        refine lv_aload_n hx hb dX5_takes_48 rfl (lv_at hl 1 rfl) ?_
        refine lv_iload hx hb dX5_takes_49 (lv_at hl 6 rfl) ?_
        refine lv_iconst (v := (3 : Int32)) hx hb dX5_takes_51 (by decide) ?_
        obtain ⟨u2, eu2, h⟩ := bd_in h
        refine kI (va_runV (As := [.int x6, .int (3 : Int32)]) (rest := [.int (3 : Int32), .int x6, .ref (adM 0)]) ⟨hx, hb, hml, hown, hts⟩ (c_X5_of l D cA cQ adM vM x6 (3 : Int32) u2 eu2 _) (cwV 2 hts gX5_takes_X5_of rfl rfl rfl (by decide +kernel) ⟨Nat.le_of_ble_eq_true rfl, Nat.le_of_ble_eq_true rfl⟩) (pV (ci := 5) (q := (RX5, TX5, 18)) hK hN hP hD [0, 1, 2, 3, 4, 5, 6, 7, 8, 9] rfl rfl rfl rfl) rfl rfl hl.1 rfl (lv_room (Nat.le_of_ble_eq_true rfl)) dX5_takes_52 ⟨Nat.zero_le _, Nat.zero_le _⟩) hP hD hS hA [0, 1, 2, 3, 4, 5, 6, 7, 8, 9] rfl rfl (ws' := (wM cA adM vM)) rfl (fun H locs hP hD hS => ?_)
        refine lv_iload hx hb dX5_takes_55 (lv_at hl 0 rfl) ?_
        refine lv_isub hx hb dX5_takes_57 ?_
        obtain ⟨u3, eu3, h⟩ := bd_in h
        refine kV (va_runV (As := [.int x6, .int (3 : Int32), .int (u2 - t0)]) (rest := []) ⟨hx, hb, hml, hown, hts⟩ (c_X5_lay l D cA cQ adM vM x6 (3 : Int32) (u2 - t0) u3 eu3 _) (cwV 3 hts gX5_takes_X5_lay rfl rfl rfl (by decide +kernel) ⟨Nat.le_of_ble_eq_true rfl, Nat.le_of_ble_eq_true rfl⟩) (pV (ci := 5) (q := (RX5, TX5, 18)) hK hN hP hD [0, 1, 2, 3, 4, 5, 6, 7, 8, 9] rfl rfl rfl rfl) rfl rfl hl.1 rfl (lv_room (Nat.le_of_ble_eq_true rfl)) dX5_takes_58 ⟨Nat.zero_le _, Nat.zero_le _⟩) hP hD hS hA [0, 1, 2, 3, 4, 5, 6, 7, 8, 9] rfl rfl (ws' := (wM cA adM u3)) rfl (fun H locs hP hD hS => ?_)
        refine lv_iload hx hb dX5_takes_61 (lv_at hl 5 rfl) ?_
        refine lv_iload hx hb dX5_takes_63 (lv_at hl 0 rfl) ?_
        refine lv_isub hx hb dX5_takes_65 ?_
        refine lv_istore (lv' := [(5, .int (x5 - t0)), (7, .int t0), (0, .ref (adM 0)), (1, .int p1), (2, .int p2), (3, .int p3), (6, .int x6)]) hx hb dX5_takes_66 hl (by decide) rfl (fun ls hl => ?_)
        refine lv_goto (tgt := 4) hx hb dX5_takes_68 (by decide) ?_
        exact ih4 u3 (x5 - t0) _ _ _ h hP hD hS (lv_sub hl [2, 3, 4, 5, 0] rfl)
      intro vM x5 H locs ls h hP hD hS hl
      rw [X5_takes_l4] at h
      refine lv_iload hx hb dX5_takes_4 (lv_at hl 4 rfl) ?_
      refine lv_if_le (tgt := 71) hx hb dX5_takes_6 (by decide) (fun c4 => ?_) (fun c4 => ?_)
      · have h := (if_pos c4).symm.trans h
        exact B71 vM _ _ _ h hP hD hS (lv_sub hl [0] rfl)
      · have h := (if_neg c4).symm.trans h
        refine lv_aload_n hx hb dX5_takes_9 rfl (lv_at hl 0 rfl) ?_
        refine lv_iload_n hx hb dX5_takes_10 rfl (lv_at hl 1 rfl) ?_
        refine lv_iload_n hx hb dX5_takes_11 rfl (lv_at hl 2 rfl) ?_
        refine lv_iload_n hx hb dX5_takes_12 rfl (lv_at hl 3 rfl) ?_
        obtain ⟨u5, eu5, h⟩ := bd_in h
        refine kI (va_runV (As := [.int p1, .int p2, .int p3]) (rest := []) ⟨hx, hb, hml, hown, hts⟩ (c_X5_oldest l D cA cQ adM vM p1 p2 p3 u5 eu5 _) (cwV 3 hts gX5_takes_X5_oldest rfl rfl rfl (by decide +kernel) ⟨Nat.le_of_ble_eq_true rfl, Nat.le_of_ble_eq_true rfl⟩) (pV (ci := 5) (q := (RX5, TX5, 18)) hK hN hP hD [0, 1, 2, 3, 4, 5, 6, 7, 8, 9] rfl rfl rfl rfl) rfl rfl hl.1 rfl (lv_room (Nat.le_of_ble_eq_true rfl)) dX5_takes_13 ⟨Nat.zero_le _, Nat.zero_le _⟩) hP hD hS hA [0, 1, 2, 3, 4, 5, 6, 7, 8, 9] rfl rfl (ws' := (wM cA adM vM)) rfl (fun H locs hP hD hS => ?_)
        refine lv_istore (lv' := [(6, .int u5), (0, .ref (adM 0)), (1, .int p1), (2, .int p2), (3, .int p3), (5, .int x5)]) hx hb dX5_takes_16 hl (by decide) rfl (fun ls hl => ?_)
        refine lv_aload_n hx hb dX5_takes_18 rfl (lv_at hl 1 rfl) ?_
        refine lv_iload hx hb dX5_takes_19 (lv_at hl 0 rfl) ?_
        refine lv_iconst (v := (3 : Int32)) hx hb dX5_takes_21 (by decide) ?_
        obtain ⟨u6, eu6, h⟩ := bd_in h
        refine kI (va_runV (As := [.int u5, .int (3 : Int32)]) (rest := []) ⟨hx, hb, hml, hown, hts⟩ (c_X5_of l D cA cQ adM vM u5 (3 : Int32) u6 eu6 _) (cwV 2 hts gX5_takes_X5_of rfl rfl rfl (by decide +kernel) ⟨Nat.le_of_ble_eq_true rfl, Nat.le_of_ble_eq_true rfl⟩) (pV (ci := 5) (q := (RX5, TX5, 18)) hK hN hP hD [0, 1, 2, 3, 4, 5, 6, 7, 8, 9] rfl rfl rfl rfl) rfl rfl hl.1 rfl (lv_room (Nat.le_of_ble_eq_true rfl)) dX5_takes_22 ⟨Nat.zero_le _, Nat.zero_le _⟩) hP hD hS hA [0, 1, 2, 3, 4, 5, 6, 7, 8, 9] rfl rfl (ws' := (wM cA adM vM)) rfl (fun H locs hP hD hS => ?_)
        refine lv_iload hx hb dX5_takes_25 (lv_at hl 5 rfl) ?_
        refine lv_icmp_ge (tgt := 40) hx hb dX5_takes_27 (by decide) (fun c7 => ?_) (fun c7 => ?_)
        · have h := (if_pos c7).symm.trans h
          refine lv_iload hx hb dX5_takes_40 (lv_at hl 5 rfl) ?_
          exact B42 vM x5 u5 x5 _ _ _ h hP hD hS (lv_sub hl [1, 2, 3, 4, 5, 0] rfl)
        · have h := (if_neg c7).symm.trans h
          refine lv_aload_n hx hb dX5_takes_30 rfl (lv_at hl 1 rfl) ?_
          refine lv_iload hx hb dX5_takes_31 (lv_at hl 0 rfl) ?_
          refine lv_iconst (v := (3 : Int32)) hx hb dX5_takes_33 (by decide) ?_
          obtain ⟨u8, eu8, h⟩ := bd_in h
          refine kI (va_runV (As := [.int u5, .int (3 : Int32)]) (rest := []) ⟨hx, hb, hml, hown, hts⟩ (c_X5_of l D cA cQ adM vM u5 (3 : Int32) u8 eu8 _) (cwV 2 hts gX5_takes_X5_of rfl rfl rfl (by decide +kernel) ⟨Nat.le_of_ble_eq_true rfl, Nat.le_of_ble_eq_true rfl⟩) (pV (ci := 5) (q := (RX5, TX5, 18)) hK hN hP hD [0, 1, 2, 3, 4, 5, 6, 7, 8, 9] rfl rfl rfl rfl) rfl rfl hl.1 rfl (lv_room (Nat.le_of_ble_eq_true rfl)) dX5_takes_34 ⟨Nat.zero_le _, Nat.zero_le _⟩) hP hD hS hA [0, 1, 2, 3, 4, 5, 6, 7, 8, 9] rfl rfl (ws' := (wM cA adM vM)) rfl (fun H locs hP hD hS => ?_)
          refine lv_goto (tgt := 42) hx hb dX5_takes_37 (by decide) ?_
          exact B42 vM x5 u5 u8 _ _ _ h hP hD hS (lv_sub hl [1, 2, 3, 4, 5, 0] rfl)
  have h := hf
  unfold X5_takes at h
  refine lv_iload hx hb dX5_takes_0 (lv_at hl 4 rfl) ?_
  refine lv_istore (lv' := [(5, .int p4), (0, .ref (adM 0)), (1, .int p1), (2, .int p2), (3, .int p3), (4, .int p4)]) hx hb dX5_takes_2 hl (by decide) rfl (fun ls hl => ?_)
  exact B4 FU vM p4 _ _ _ h hP hD hS (lv_sub hl [1, 2, 3, 4, 0] rfl)
theorem iw_X5_clears_X5 : ∀ w ∈ wsX50, w ∈ wsX5_clears := fun _ h => List.mem_cons_of_mem _ (List.mem_append_right _ (h))
set_option maxHeartbeats 4000000 in
set_option maxRecDepth 100000 in
theorem c_X5_clears (l : Launch) (D : va_G) (cA cQ : ClassId) (adM : Nat → Nat) (vM : St) (p1 : Int32) (o : Int32 × St) (hf : X5_clears vM p1 = some o) : Cti l yX5_clears wsX5_clears ({ frames := 3, cells := 0, slots := 0, locals := 75 }) D (TY cA cQ) [.ref (adM 0), .int p1] (wM cA adM vM) (wM cA adM o.2) o.1 := by
  refine Wk.i (cc := cX5_clears) (maxL := 6) (ret := (some .int)) (by decide) rfl (Nat.le_of_ble_eq_true rfl) ?_
  intro p e s m below meth c A ls hx hb hr hlocks hml hown hts hK hN hP hD hA hl
  have hown : s.vm.findClass RX5 = some m.cls := hown
  have hS : va_S A s.heap s.heap [] := va_S.rf
  have hl : lv_has ls 6 [(0, .ref (adM 0)), (1, .int p1)] := hl
  have B8 : ∀ (fu8 : Nat) (vM : St) (x2 : Int32) (x3 : Int32) (H : Heap) (locs : List Loc) (ls : Array Slot), X5_clears_l8 p1 fu8 vM x2 x3 = some o → va_P D vwCl (wM cA adM vM) H → va_D A (wM cA adM vM) → va_S A s.heap H locs → lv_has ls 6 [(0, .ref (adM 0)), (1, .int p1), (2, .int x2), (3, .int x3)] → W p l e (headSpec wsX5_clears ({ frames := 3, cells := 0, slots := 0, locals := 75 })).room s m ([.ref (adM 0), .int p1] : List Value).toArray below meth c H locs 0 0 (MQ below (QI D (wM cA adM o.2) o.1 A) ([.ref (adM 0), .int p1] : List Value).toArray s 0 0 A) (F0 m 8 ls []) := by
    intro fu8
    induction fu8 with
    | zero =>
      intro vM x2 x3 H locs ls h hP hD hS hl
      cases h
    | succ fu8 ih8 =>
      have B81 : ∀ (vM : St) (x2 : Int32) (x3 : Int32) (x4 : Int32) (H : Heap) (locs : List Loc) (ls : Array Slot), X5_clears_b81 p1 (X5_clears_l8 p1 fu8) vM x2 x3 x4 = some o → va_P D vwCl (wM cA adM vM) H → va_D A (wM cA adM vM) → va_S A s.heap H locs → lv_has ls 6 [(0, .ref (adM 0)), (1, .int p1), (2, .int x2), (3, .int x3), (4, .int x4)] → W p l e (headSpec wsX5_clears ({ frames := 3, cells := 0, slots := 0, locals := 75 })).room s m ([.ref (adM 0), .int p1] : List Value).toArray below meth c H locs 0 0 (MQ below (QI D (wM cA adM o.2) o.1 A) ([.ref (adM 0), .int p1] : List Value).toArray s 0 0 A) (F0 m 81 ls []) := by
        intro vM x2 x3 x4 H locs ls h hP hD hS hl
        unfold X5_clears_b81 at h
        refine lv_iload_n hx hb dX5_clears_81 rfl (lv_at hl 2 rfl) ?_
        refine lv_iload_n hx hb dX5_clears_82 rfl (lv_at hl 3 rfl) ?_
        refine lv_iload hx hb dX5_clears_83 (lv_at hl 4 rfl) ?_
        refine lv_imul hx hb dX5_clears_85 ?_
        refine lv_iadd hx hb dX5_clears_86 ?_
        refine lv_istore_n (lv' := [(2, .int (x2 + (x3 * x4))), (0, .ref (adM 0)), (1, .int p1), (3, .int x3), (4, .int x4)]) hx hb dX5_clears_87 rfl hl (by decide) rfl (fun ls hl => ?_)
        refine lv_aload_n hx hb dX5_clears_88 rfl (lv_at hl 1 rfl) ?_
        refine va_get (D := D) (ci := 5) (v := .ref (adM 1)) (C := RX5) (T := TX5) (N := 18) hx hb hts iw_X5_clears_X5 hown hK hP 0 rfl rfl 0 (by decide) (hts (.fieldLink RX5 7 "FavourRingsModel" "s" "[I") (List.mem_of_getElem? (i := 2) rfl)) (fun _ h9 => h9) rfl dX5_clears_89 ?_
        refine lv_sipush (v := (294 : Int32)) hx hb dX5_clears_92 (by decide) ?_
        refine lv_dup2_11 hx hb dX5_clears_95 rfl rfl ?_
        obtain ⟨y1, ey1, h⟩ := bd_in h
        refine ldR hx hb hK hP 1 0 rfl rfl ey1 dX5_clears_96 ?_
        refine lv_iload_n hx hb dX5_clears_97 rfl (lv_at hl 3 rfl) ?_
        refine lv_iload hx hb dX5_clears_98 (lv_at hl 4 rfl) ?_
        refine lv_imul hx hb dX5_clears_100 ?_
        refine lv_iadd hx hb dX5_clears_101 ?_
        obtain ⟨g2, eg2, h⟩ := bd_in h
        refine stR hx hb hK hP hD hS 1 0 rfl rfl eg2 (ws' := (wM cA adM (setA vM 1 g2))) rfl dX5_clears_102 (fun H locs hP hD hS => ?_)
        refine lv_aload_n hx hb dX5_clears_103 rfl (lv_at hl 1 rfl) ?_
        refine va_get (D := D) (ci := 5) (v := .ref (adM 1)) (C := RX5) (T := TX5) (N := 18) hx hb hts iw_X5_clears_X5 hown hK hP 0 rfl rfl 0 (by decide) (hts (.fieldLink RX5 7 "FavourRingsModel" "s" "[I") (List.mem_of_getElem? (i := 2) rfl)) (fun _ h9 => h9) rfl dX5_clears_104 ?_
        refine lv_sipush (v := (296 : Int32)) hx hb dX5_clears_107 (by decide) ?_
        refine lv_dup2_11 hx hb dX5_clears_110 rfl rfl ?_
        obtain ⟨y3, ey3, h⟩ := bd_in h
        refine ldR hx hb hK hP 1 0 rfl rfl ey3 dX5_clears_111 ?_
        refine lv_iconst (v := (1 : Int32)) hx hb dX5_clears_112 (by decide) ?_
        refine lv_iadd hx hb dX5_clears_113 ?_
        obtain ⟨g4, eg4, h⟩ := bd_in h
        refine stR hx hb hK hP hD hS 1 0 rfl rfl eg4 (ws' := (wM cA adM (setA vM 1 g4))) rfl dX5_clears_114 (fun H locs hP hD hS => ?_)
        refine lv_aload_n hx hb dX5_clears_115 rfl (lv_at hl 1 rfl) ?_
        refine lv_iload_n hx hb dX5_clears_116 rfl (lv_at hl 2 rfl) ?_
        obtain ⟨u5, eu5, h⟩ := bd_in h
        refine kI (va_runV (As := [.int p1]) (rest := []) ⟨hx, hb, hml, hown, hts⟩ (c_X5_rings l D cA cQ adM (setA vM 1 g4) p1 u5 eu5 _) (cwV 1 hts gX5_clears_X5_rings rfl rfl rfl (by decide +kernel) ⟨Nat.le_of_ble_eq_true rfl, Nat.le_of_ble_eq_true rfl⟩) (pV (ci := 5) (q := (RX5, TX5, 18)) hK hN hP hD [0, 1, 2, 3, 4, 5, 6, 7, 8, 9] rfl rfl rfl rfl) rfl rfl hl.1 rfl (lv_room (Nat.le_of_ble_eq_true rfl)) dX5_clears_117 ⟨Nat.zero_le _, Nat.zero_le _⟩) hP hD hS hA [0, 1, 2, 3, 4, 5, 6, 7, 8, 9] rfl rfl (ws' := (wM cA adM u5.2)) rfl (fun H locs hP hD hS => ?_)
        refine lv_istore_n (lv' := [(3, .int u5.1), (2, .int (x2 + (x3 * x4))), (0, .ref (adM 0)), (1, .int p1), (4, .int x4)]) hx hb dX5_clears_120 rfl hl (by decide) rfl (fun ls hl => ?_)
        refine lv_goto (tgt := 8) hx hb dX5_clears_121 (by decide) ?_
        exact ih8 u5.2 (x2 + (x3 * x4)) u5.1 _ _ _ h hP hD hS (lv_sub hl [2, 3, 1, 0] rfl)
      have B23 : ∀ (fu23 : Nat) (vM : St) (x2 : Int32) (x3 : Int32) (x4 : Int32) (x5 : Int32) (H : Heap) (locs : List Loc) (ls : Array Slot), X5_clears_l23 p1 (X5_clears_l8 p1 fu8) fu23 vM x2 x3 x4 x5 = some o → va_P D vwCl (wM cA adM vM) H → va_D A (wM cA adM vM) → va_S A s.heap H locs → lv_has ls 6 [(0, .ref (adM 0)), (1, .int p1), (2, .int x2), (3, .int x3), (4, .int x4), (5, .int x5)] → W p l e (headSpec wsX5_clears ({ frames := 3, cells := 0, slots := 0, locals := 75 })).room s m ([.ref (adM 0), .int p1] : List Value).toArray below meth c H locs 0 0 (MQ below (QI D (wM cA adM o.2) o.1 A) ([.ref (adM 0), .int p1] : List Value).toArray s 0 0 A) (F0 m 23 ls []) := by
        intro fu23
        induction fu23 with
        | zero =>
          intro vM x2 x3 x4 x5 H locs ls h hP hD hS hl
          cases h
        | succ fu23 ih23 =>
          intro vM x2 x3 x4 x5 H locs ls h hP hD hS hl
          rw [X5_clears_l23] at h
          refine lv_iload hx hb dX5_clears_23 (lv_at hl 5 rfl) ?_
          refine lv_iload_n hx hb dX5_clears_25 rfl (lv_at hl 3 rfl) ?_
          refine lv_icmp_ge (tgt := 81) hx hb dX5_clears_26 (by decide) (fun c6 => ?_) (fun c6 => ?_)
          · have h := (if_pos c6).symm.trans h
            exact B81 vM x2 x3 x4 _ _ _ h hP hD hS (lv_sub hl [0, 1, 2, 3, 4] rfl)
          · have h := (if_neg c6).symm.trans h
            refine lv_aload_n hx hb dX5_clears_29 rfl (lv_at hl 0 rfl) ?_
            refine lv_aload_n hx hb dX5_clears_30 rfl (lv_at hl 0 rfl) ?_
            refine va_get (D := D) (ci := 5) (v := .ref (adM 11)) (C := RX5) (T := TX5) (N := 18) hx hb hts iw_X5_clears_X5 hown hK hP 0 rfl rfl 10 (by decide) (hts (.fieldLink RX5 31 "FavourRingsModel" "ring" "[I") (List.mem_of_getElem? (i := 1) rfl)) (fun _ h9 => h9) rfl dX5_clears_31 ?_
            refine lv_iload hx hb dX5_clears_34 (lv_at hl 5 rfl) ?_
            obtain ⟨y7, ey7, h⟩ := bd_in h
            refine ldR hx hb hK hP 8 0 rfl rfl ey7 dX5_clears_36 ?_
            refine lv_aload_n hx hb dX5_clears_37 rfl (lv_at hl 0 rfl) ?_
            refine va_get (D := D) (ci := 5) (v := .ref (adM 11)) (C := RX5) (T := TX5) (N := 18) hx hb hts iw_X5_clears_X5 hown hK hP 0 rfl rfl 10 (by decide) (hts (.fieldLink RX5 31 "FavourRingsModel" "ring" "[I") (List.mem_of_getElem? (i := 1) rfl)) (fun _ h9 => h9) rfl dX5_clears_38 ?_
            refine lv_iload hx hb dX5_clears_41 (lv_at hl 5 rfl) ?_
            refine lv_iconst (v := (1 : Int32)) hx hb dX5_clears_43 (by decide) ?_
            refine lv_iadd hx hb dX5_clears_44 ?_
            refine lv_iload_n hx hb dX5_clears_45 rfl (lv_at hl 3 rfl) ?_
            obtain ⟨r8, er8, h⟩ := bd_in h
            refine rmR hx hb er8 dX5_clears_46 ?_
            obtain ⟨y9, ey9, h⟩ := bd_in h
            refine ldR hx hb hK hP 8 0 rfl rfl ey9 dX5_clears_47 ?_
            refine lv_iload_n hx hb dX5_clears_48 rfl (lv_at hl 1 rfl) ?_
            refine lv_iload hx hb dX5_clears_49 (lv_at hl 4 rfl) ?_
            obtain ⟨u10, eu10, h⟩ := bd_in h
            refine kV (va_runV (As := [.int y7, .int y9, .int p1, .int x4]) (rest := []) ⟨hx, hb, hml, hown, hts⟩ (c_X5_takes l D cA cQ adM vM y7 y9 p1 x4 u10 eu10 _) (cwV 4 hts gX5_clears_X5_takes rfl rfl rfl (by decide +kernel) ⟨Nat.le_of_ble_eq_true rfl, Nat.le_of_ble_eq_true rfl⟩) (pV (ci := 5) (q := (RX5, TX5, 18)) hK hN hP hD [0, 1, 2, 3, 4, 5, 6, 7, 8, 9] rfl rfl rfl rfl) rfl rfl hl.1 rfl (lv_room (Nat.le_of_ble_eq_true rfl)) dX5_clears_51 ⟨Nat.zero_le _, Nat.zero_le _⟩) hP hD hS hA [0, 1, 2, 3, 4, 5, 6, 7, 8, 9] rfl rfl (ws' := (wM cA adM u10)) rfl (fun H locs hP hD hS => ?_)
            refine lv_aload_n hx hb dX5_clears_54 rfl (lv_at hl 0 rfl) ?_
            refine va_get (D := D) (ci := 5) (v := .ref (adM 1)) (C := RX5) (T := TX5) (N := 18) hx hb hts iw_X5_clears_X5 hown hK hP 0 rfl rfl 0 (by decide) (hts (.fieldLink RX5 7 "FavourRingsModel" "s" "[I") (List.mem_of_getElem? (i := 2) rfl)) (fun _ h9 => h9) rfl dX5_clears_55 ?_
            refine lv_aload_n hx hb dX5_clears_58 rfl (lv_at hl 0 rfl) ?_
            refine va_get (D := D) (ci := 5) (v := .ref (adM 11)) (C := RX5) (T := TX5) (N := 18) hx hb hts iw_X5_clears_X5 hown hK hP 0 rfl rfl 10 (by decide) (hts (.fieldLink RX5 31 "FavourRingsModel" "ring" "[I") (List.mem_of_getElem? (i := 1) rfl)) (fun _ h9 => h9) rfl dX5_clears_59 ?_
            refine lv_iload hx hb dX5_clears_62 (lv_at hl 5 rfl) ?_
            obtain ⟨y11, ey11, h⟩ := bd_in h
            refine ldR hx hb hK hP 8 0 rfl rfl ey11 dX5_clears_64 ?_
            refine lv_iconst (v := (4 : Int32)) hx hb dX5_clears_65 (by decide) ?_
            obtain ⟨u12, eu12, h⟩ := bd_in h
            refine kI (va_runS (As := [.int y11, .int (4 : Int32)]) (rest := [.ref (adM 1)]) ⟨hx, hb, hml, hown, hts⟩ (c_X5_at l D cA cQ  y11 (4 : Int32) u12 eu12 _) (va_cwS 2 hts gX5_clears_X5_at rfl rfl rfl (by decide +kernel) ⟨Nat.le_of_ble_eq_true rfl, Nat.le_of_ble_eq_true rfl⟩) (pS hK hN hP hD [] rfl rfl) rfl rfl hl.1 rfl (lv_room (Nat.le_of_ble_eq_true rfl)) dX5_clears_66 ⟨Nat.zero_le _, Nat.zero_le _⟩) hP hD hS hA [] rfl rfl (ws' := (wM cA adM u10)) rfl (fun H locs hP hD hS => ?_)
            refine lv_dup2_11 hx hb dX5_clears_69 rfl rfl ?_
            obtain ⟨y13, ey13, h⟩ := bd_in h
            refine ldR hx hb hK hP 1 0 rfl rfl ey13 dX5_clears_70 ?_
            refine lv_iload hx hb dX5_clears_71 (lv_at hl 4 rfl) ?_
            refine lv_iadd hx hb dX5_clears_73 ?_
            obtain ⟨g14, eg14, h⟩ := bd_in h
            refine stR hx hb hK hP hD hS 1 0 rfl rfl eg14 (ws' := (wM cA adM (setA u10 1 g14))) rfl dX5_clears_74 (fun H locs hP hD hS => ?_)
            refine lv_iinc (v := (x5 + (1 : Int32))) (lv' := [(5, .int (x5 + (1 : Int32))), (0, .ref (adM 0)), (1, .int p1), (2, .int x2), (3, .int x3), (4, .int x4)]) hx hb dX5_clears_75 hl (k := 5) rfl rfl (by decide) rfl (fun ls hl => ?_)
            refine lv_goto (tgt := 23) hx hb dX5_clears_78 (by decide) ?_
            exact ih23 (setA u10 1 g14) x2 x3 x4 (x5 + (1 : Int32)) _ _ _ h hP hD hS (lv_sub hl [1, 2, 3, 4, 5, 0] rfl)
      intro vM x2 x3 H locs ls h hP hD hS hl
      rw [X5_clears_l8] at h
      refine lv_iload_n hx hb dX5_clears_8 rfl (lv_at hl 3 rfl) ?_
      refine lv_if_le (tgt := 124) hx hb dX5_clears_9 (by decide) (fun c15 => ?_) (fun c15 => ?_)
      · have h := (if_pos c15).symm.trans h
        refine lv_iload_n hx hb dX5_clears_124 rfl (lv_at hl 2 rfl) ?_
        cases h
        exact endI hx hb hr hlocks hP hS rfl dX5_clears_125
      · have h := (if_neg c15).symm.trans h
        refine lv_aload_n hx hb dX5_clears_12 rfl (lv_at hl 0 rfl) ?_
        refine lv_iload_n hx hb dX5_clears_13 rfl (lv_at hl 3 rfl) ?_
        refine lv_iload_n hx hb dX5_clears_14 rfl (lv_at hl 1 rfl) ?_
        obtain ⟨u16, eu16, h⟩ := bd_in h
        refine kI (va_runV (As := [.int x3, .int p1]) (rest := []) ⟨hx, hb, hml, hown, hts⟩ (c_X5_amountOf l D cA cQ adM vM x3 p1 u16 eu16 _) (cwV 2 hts gX5_clears_X5_amountOf rfl rfl rfl (by decide +kernel) ⟨Nat.le_of_ble_eq_true rfl, Nat.le_of_ble_eq_true rfl⟩) (pV (ci := 5) (q := (RX5, TX5, 18)) hK hN hP hD [0, 1, 2, 3, 4, 5, 6, 7, 8, 9] rfl rfl rfl rfl) rfl rfl hl.1 rfl (lv_room (Nat.le_of_ble_eq_true rfl)) dX5_clears_15 ⟨Nat.zero_le _, Nat.zero_le _⟩) hP hD hS hA [0, 1, 2, 3, 4, 5, 6, 7, 8, 9] rfl rfl (ws' := (wM cA adM vM)) rfl (fun H locs hP hD hS => ?_)
        refine lv_istore (lv' := [(4, .int u16), (0, .ref (adM 0)), (1, .int p1), (2, .int x2), (3, .int x3)]) hx hb dX5_clears_18 hl (by decide) rfl (fun ls hl => ?_)
        refine lv_iconst (v := (0 : Int32)) hx hb dX5_clears_20 (by decide) ?_
        refine lv_istore (lv' := [(5, .int (0 : Int32)), (4, .int u16), (0, .ref (adM 0)), (1, .int p1), (2, .int x2), (3, .int x3)]) hx hb dX5_clears_21 hl (by decide) rfl (fun ls hl => ?_)
        exact B23 FU vM x2 x3 u16 (0 : Int32) _ _ _ h hP hD hS (lv_sub hl [2, 3, 4, 5, 1, 0] rfl)
  have h := hf
  unfold X5_clears at h
  refine lv_iconst (v := (0 : Int32)) hx hb dX5_clears_0 (by decide) ?_
  refine lv_istore_n (lv' := [(2, .int (0 : Int32)), (0, .ref (adM 0)), (1, .int p1)]) hx hb dX5_clears_1 rfl hl (by decide) rfl (fun ls hl => ?_)
  refine lv_aload_n hx hb dX5_clears_2 rfl (lv_at hl 1 rfl) ?_
  refine lv_iload_n hx hb dX5_clears_3 rfl (lv_at hl 2 rfl) ?_
  obtain ⟨u17, eu17, h⟩ := bd_in h
  refine kI (va_runV (As := [.int p1]) (rest := []) ⟨hx, hb, hml, hown, hts⟩ (c_X5_rings l D cA cQ adM vM p1 u17 eu17 _) (cwV 1 hts gX5_clears_X5_rings rfl rfl rfl (by decide +kernel) ⟨Nat.le_of_ble_eq_true rfl, Nat.le_of_ble_eq_true rfl⟩) (pV (ci := 5) (q := (RX5, TX5, 18)) hK hN hP hD [0, 1, 2, 3, 4, 5, 6, 7, 8, 9] rfl rfl rfl rfl) rfl rfl hl.1 rfl (lv_room (Nat.le_of_ble_eq_true rfl)) dX5_clears_4 ⟨Nat.zero_le _, Nat.zero_le _⟩) hP hD hS hA [0, 1, 2, 3, 4, 5, 6, 7, 8, 9] rfl rfl (ws' := (wM cA adM u17.2)) rfl (fun H locs hP hD hS => ?_)
  refine lv_istore_n (lv' := [(3, .int u17.1), (2, .int (0 : Int32)), (0, .ref (adM 0)), (1, .int p1)]) hx hb dX5_clears_7 rfl hl (by decide) rfl (fun ls hl => ?_)
  exact B8 FU u17.2 (0 : Int32) u17.1 _ _ _ h hP hD hS (lv_sub hl [2, 3, 1, 0] rfl)

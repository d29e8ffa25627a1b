theorem iw_X5_week_X5 : ∀ w ∈ wsX50, w ∈ wsX5_week := fun _ h => List.mem_cons_of_mem _ (List.mem_append_right _ (h))
set_option maxHeartbeats 4000000 in
set_option maxRecDepth 100000 in
theorem c_X5_week (l : Launch) (D : va_G) (cA cQ : ClassId) (adM : Nat → Nat) (vM : St) (o : Int32 × St) (hf : X5_week vM = some o) : Cti l yX5_week wsX5_week ({ frames := 3, cells := 0, slots := 0, locals := 68 }) D (TY cA cQ) [.ref (adM 0)] (wM cA adM vM) (wM cA adM o.2) o.1 := by
  refine Wk.i (cc := cX5_week) (maxL := 3) (ret := (some .int)) (by decide) rfl (Nat.le_of_ble_eq_true rfl) ?_
  intro p e s m below meth c A ls hx hb hr hlocks hml hown hts hK hN hP hD hA hl
  have hown : s.vm.findClass RX5 = some m.cls := hown
  have hS : va_S A s.heap s.heap [] := va_S.rf
  have hl : lv_has ls 3 [(0, .ref (adM 0))] := hl
  have B118 : ∀ (vM : St) (x1 : Int32) (H : Heap) (locs : List Loc) (ls : Array Slot), X5_week_b118 vM x1 = some o → va_P D vwCl (wM cA adM vM) H → va_D A (wM cA adM vM) → va_S A s.heap H locs → lv_has ls 3 [(0, .ref (adM 0)), (1, .int x1)] → W p l e (headSpec wsX5_week ({ frames := 3, cells := 0, slots := 0, locals := 68 })).room s m ([.ref (adM 0)] : List Value).toArray below meth c H locs 0 0 (MQ below (QI D (wM cA adM o.2) o.1 A) ([.ref (adM 0)] : List Value).toArray s 0 0 A) (F0 m 118 ls []) := by
    intro vM x1 H locs ls h hP hD hS hl
    unfold X5_week_b118 at h
    refine lv_aload_n hx hb dX5_week_118 rfl (lv_at hl 0 rfl) ?_
    obtain ⟨u1, eu1, h⟩ := bd_in h
    refine kV (va_runV (As := []) (rest := []) ⟨hx, hb, hml, hown, hts⟩ (c_X5_dropsEmpty l D cA cQ adM vM u1 eu1 _) (cwV 0 hts gX5_week_X5_dropsEmpty rfl rfl rfl (by decide +kernel) ⟨Nat.le_of_ble_eq_true rfl, Nat.le_of_ble_eq_true rfl⟩) (pV (ci := 5) (q := (RX5, TX5, 18)) hK hN hP hD [0, 1, 2, 3, 4, 5, 6, 7, 8, 9] rfl rfl rfl rfl) rfl rfl hl.1 rfl (lv_room (Nat.le_of_ble_eq_true rfl)) dX5_week_119 ⟨Nat.zero_le _, Nat.zero_le _⟩) hP hD hS hA [0, 1, 2, 3, 4, 5, 6, 7, 8, 9] rfl rfl (ws' := (wM cA adM u1)) rfl (fun H locs hP hD hS => ?_)
    refine lv_iload_n hx hb dX5_week_122 rfl (lv_at hl 1 rfl) ?_
    cases h
    exact endI hx hb hr hlocks hP hS rfl dX5_week_123
  have B64 : ∀ (fu64 : Nat) (vM : St) (x1 : Int32) (x2 : Int32) (H : Heap) (locs : List Loc) (ls : Array Slot), X5_week_l64 fu64 vM x1 x2 = some o → va_P D vwCl (wM cA adM vM) H → va_D A (wM cA adM vM) → va_S A s.heap H locs → lv_has ls 3 [(0, .ref (adM 0)), (1, .int x1), (2, .int x2)] → W p l e (headSpec wsX5_week ({ frames := 3, cells := 0, slots := 0, locals := 68 })).room s m ([.ref (adM 0)] : List Value).toArray below meth c H locs 0 0 (MQ below (QI D (wM cA adM o.2) o.1 A) ([.ref (adM 0)] : List Value).toArray s 0 0 A) (F0 m 64 ls []) := by
    intro fu64
    induction fu64 with
    | zero =>
      intro vM x1 x2 H locs ls h hP hD hS hl
      cases h
    | succ fu64 ih64 =>
      intro vM x1 x2 H locs ls h hP hD hS hl
      rw [X5_week_l64] at h
      refine lv_iload_n hx hb dX5_week_64 rfl (lv_at hl 2 rfl) ?_
      refine lv_aload_n hx hb dX5_week_65 rfl (lv_at hl 0 rfl) ?_
      refine va_get (D := D) (ci := 5) (v := .ref (adM 1)) (C := RX5) (T := TX5) (N := 18) hx hb hts iw_X5_week_X5 hown hK hP 0 rfl rfl 0 (by decide) (hts (.fieldLink RX5 7 "FavourRingsModel" "s" "[I") (List.mem_of_getElem? (i := 1) rfl)) (fun _ h9 => h9) rfl dX5_week_66 ?_
      refine lv_sipush (v := (290 : Int32)) hx hb dX5_week_69 (by decide) ?_
      obtain ⟨y2, ey2, h⟩ := bd_in h
      refine ldR hx hb hK hP 1 0 rfl rfl ey2 dX5_week_72 ?_
      refine lv_icmp_ge (tgt := 118) hx hb dX5_week_73 (by decide) (fun c3 => ?_) (fun c3 => ?_)
      · have h := (if_pos c3).symm.trans h
        exact B118 vM x1 _ _ _ h hP hD hS (lv_sub hl [0, 1] rfl)
      · have h := (if_neg c3).symm.trans h
        refine lv_iload_n hx hb dX5_week_76 rfl (lv_at hl 1 rfl) ?_
        refine lv_aload_n hx hb dX5_week_77 rfl (lv_at hl 0 rfl) ?_
        refine lv_iload_n hx hb dX5_week_78 rfl (lv_at hl 2 rfl) ?_
        refine lv_iconst (v := (4 : Int32)) hx hb dX5_week_79 (by decide) ?_
        obtain ⟨u4, eu4, h⟩ := bd_in h
        refine kI (va_runV (As := [.int x2, .int (4 : Int32)]) (rest := [.int x1]) ⟨hx, hb, hml, hown, hts⟩ (c_X5_of l D cA cQ adM vM x2 (4 : Int32) u4 eu4 _) (cwV 2 hts gX5_week_X5_of rfl rfl rfl (by decide +kernel) ⟨Nat.le_of_ble_eq_true rfl, Nat.le_of_ble_eq_true rfl⟩) (pV (ci := 5) (q := (RX5, TX5, 18)) hK hN hP hD [0, 1, 2, 3, 4, 5, 6, 7, 8, 9] rfl rfl rfl rfl) rfl rfl hl.1 rfl (lv_room (Nat.le_of_ble_eq_true rfl)) dX5_week_80 ⟨Nat.zero_le _, Nat.zero_le _⟩) hP hD hS hA [0, 1, 2, 3, 4, 5, 6, 7, 8, 9] rfl rfl (ws' := (wM cA adM vM)) rfl (fun H locs hP hD hS => ?_)
        refine lv_aload_n hx hb dX5_week_83 rfl (lv_at hl 0 rfl) ?_
        refine va_get (D := D) (ci := 5) (v := .ref (adM 1)) (C := RX5) (T := TX5) (N := 18) hx hb hts iw_X5_week_X5 hown hK hP 0 rfl rfl 0 (by decide) (hts (.fieldLink RX5 7 "FavourRingsModel" "s" "[I") (List.mem_of_getElem? (i := 1) rfl)) (fun _ h9 => h9) rfl dX5_week_84 ?_
        refine lv_sipush (v := (298 : Int32)) hx hb dX5_week_87 (by decide) ?_
        refine lv_aload_n hx hb dX5_week_90 rfl (lv_at hl 0 rfl) ?_
        refine lv_iload_n hx hb dX5_week_91 rfl (lv_at hl 2 rfl) ?_
        refine lv_iconst (v := (2 : Int32)) hx hb dX5_week_92 (by decide) ?_
        obtain ⟨u5, eu5, h⟩ := bd_in h
        refine kI (va_runV (As := [.int x2, .int (2 : Int32)]) (rest := [.int (298 : Int32), .ref (adM 1), .int u4, .int x1]) ⟨hx, hb, hml, hown, hts⟩ (c_X5_of l D cA cQ adM vM x2 (2 : Int32) u5 eu5 _) (cwV 2 hts gX5_week_X5_of rfl rfl rfl (by decide +kernel) ⟨Nat.le_of_ble_eq_true rfl, Nat.le_of_ble_eq_true rfl⟩) (pV (ci := 5) (q := (RX5, TX5, 18)) hK hN hP hD [0, 1, 2, 3, 4, 5, 6, 7, 8, 9] rfl rfl rfl rfl) rfl rfl hl.1 rfl (lv_room (Nat.le_of_ble_eq_true rfl)) dX5_week_93 ⟨Nat.zero_le _, Nat.zero_le _⟩) hP hD hS hA [0, 1, 2, 3, 4, 5, 6, 7, 8, 9] rfl rfl (ws' := (wM cA adM vM)) rfl (fun H locs hP hD hS => ?_)
        refine lv_iadd hx hb dX5_week_96 ?_
        obtain ⟨y6, ey6, h⟩ := bd_in h
        refine ldR hx hb hK hP 1 0 rfl rfl ey6 dX5_week_97 ?_
        refine lv_icmp_lt (tgt := 109) hx hb dX5_week_98 (by decide) (fun c7 => ?_) (fun c7 => ?_)
        · have h := (if_pos c7).symm.trans h
          refine lv_iconst (v := (0 : Int32)) hx hb dX5_week_109 (by decide) ?_
          refine lv_iadd hx hb dX5_week_110 ?_
          refine lv_istore_n (lv' := [(1, .int (x1 + (0 : Int32))), (0, .ref (adM 0)), (2, .int x2)]) hx hb dX5_week_111 rfl hl (by decide) rfl (fun ls hl => ?_)
          refine lv_iinc (v := (x2 + (1 : Int32))) (lv' := [(2, .int (x2 + (1 : Int32))), (1, .int (x1 + (0 : Int32))), (0, .ref (adM 0))]) hx hb dX5_week_112 hl (k := 2) rfl rfl (by decide) rfl (fun ls hl => ?_)
          refine lv_goto (tgt := 64) hx hb dX5_week_115 (by decide) ?_
          exact ih64 vM (x1 + (0 : Int32)) (x2 + (1 : Int32)) _ _ _ h hP hD hS (lv_sub hl [2, 1, 0] rfl)
        · have h := (if_neg c7).symm.trans h
          refine lv_aload_n hx hb dX5_week_101 rfl (lv_at hl 0 rfl) ?_
          refine lv_iload_n hx hb dX5_week_102 rfl (lv_at hl 2 rfl) ?_
          obtain ⟨u8, eu8, h⟩ := bd_in h
          refine kI (va_runV (As := [.int x2]) (rest := [.int x1]) ⟨hx, hb, hml, hown, hts⟩ (c_X5_ends l D cA cQ adM vM x2 u8 eu8 _) (cwV 1 hts gX5_week_X5_ends rfl rfl rfl (by decide +kernel) ⟨Nat.le_of_ble_eq_true rfl, Nat.le_of_ble_eq_true rfl⟩) (pV (ci := 5) (q := (RX5, TX5, 18)) hK hN hP hD [0, 1, 2, 3, 4, 5, 6, 7, 8, 9] rfl rfl rfl rfl) rfl rfl hl.1 rfl (lv_room (Nat.le_of_ble_eq_true rfl)) dX5_week_103 ⟨Nat.zero_le _, Nat.zero_le _⟩) hP hD hS hA [0, 1, 2, 3, 4, 5, 6, 7, 8, 9] rfl rfl (ws' := (wM cA adM u8.2)) rfl (fun H locs hP hD hS => ?_)
          refine lv_goto (tgt := 110) hx hb dX5_week_106 (by decide) ?_
          refine lv_iadd hx hb dX5_week_110 ?_
          refine lv_istore_n (lv' := [(1, .int (x1 + u8.1)), (0, .ref (adM 0)), (2, .int x2)]) hx hb dX5_week_111 rfl hl (by decide) rfl (fun ls hl => ?_)
          refine lv_iinc (v := (x2 + (1 : Int32))) (lv' := [(2, .int (x2 + (1 : Int32))), (1, .int (x1 + u8.1)), (0, .ref (adM 0))]) hx hb dX5_week_112 hl (k := 2) rfl rfl (by decide) rfl (fun ls hl => ?_)
          refine lv_goto (tgt := 64) hx hb dX5_week_115 (by decide) ?_
          exact ih64 u8.2 (x1 + u8.1) (x2 + (1 : Int32)) _ _ _ h hP hD hS (lv_sub hl [2, 1, 0] rfl)
  have B30 : ∀ (fu30 : Nat) (vM : St) (x1 : Int32) (x2 : Int32) (H : Heap) (locs : List Loc) (ls : Array Slot), X5_week_l30 fu30 vM x1 x2 = some o → va_P D vwCl (wM cA adM vM) H → va_D A (wM cA adM vM) → va_S A s.heap H locs → lv_has ls 3 [(0, .ref (adM 0)), (1, .int x1), (2, .int x2)] → W p l e (headSpec wsX5_week ({ frames := 3, cells := 0, slots := 0, locals := 68 })).room s m ([.ref (adM 0)] : List Value).toArray below meth c H locs 0 0 (MQ below (QI D (wM cA adM o.2) o.1 A) ([.ref (adM 0)] : List Value).toArray s 0 0 A) (F0 m 30 ls []) := by
    intro fu30
    induction fu30 with
    | zero =>
      intro vM x1 x2 H locs ls h hP hD hS hl
      cases h
    | succ fu30 ih30 =>
      intro vM x1 x2 H locs ls h hP hD hS hl
      rw [X5_week_l30] at h
      refine lv_iload_n hx hb dX5_week_30 rfl (lv_at hl 2 rfl) ?_
      refine lv_aload_n hx hb dX5_week_31 rfl (lv_at hl 0 rfl) ?_
      refine va_get (D := D) (ci := 5) (v := .ref (adM 1)) (C := RX5) (T := TX5) (N := 18) hx hb hts iw_X5_week_X5 hown hK hP 0 rfl rfl 0 (by decide) (hts (.fieldLink RX5 7 "FavourRingsModel" "s" "[I") (List.mem_of_getElem? (i := 1) rfl)) (fun _ h9 => h9) rfl dX5_week_32 ?_
      refine lv_sipush (v := (290 : Int32)) hx hb dX5_week_35 (by decide) ?_
      obtain ⟨y9, ey9, h⟩ := bd_in h
      refine ldR hx hb hK hP 1 0 rfl rfl ey9 dX5_week_38 ?_
      refine lv_icmp_ge (tgt := 62) hx hb dX5_week_39 (by decide) (fun c10 => ?_) (fun c10 => ?_)
      · have h := (if_pos c10).symm.trans h
        refine lv_iconst (v := (0 : Int32)) hx hb dX5_week_62 (by decide) ?_
        refine lv_istore_n (lv' := [(2, .int (0 : Int32)), (0, .ref (adM 0)), (1, .int x1)]) hx hb dX5_week_63 rfl hl (by decide) rfl (fun ls hl => ?_)
        exact B64 FU vM x1 (0 : Int32) _ _ _ h hP hD hS (lv_sub hl [1, 2, 0] rfl)
      · have h := (if_neg c10).symm.trans h
        refine lv_aload_n hx hb dX5_week_42 rfl (lv_at hl 0 rfl) ?_
        refine lv_iload_n hx hb dX5_week_43 rfl (lv_at hl 2 rfl) ?_
        refine lv_iconst (v := (4 : Int32)) hx hb dX5_week_44 (by decide) ?_
        refine lv_aload_n hx hb dX5_week_45 rfl (lv_at hl 0 rfl) ?_
        refine lv_iload_n hx hb dX5_week_46 rfl (lv_at hl 2 rfl) ?_
        refine lv_iconst (v := (4 : Int32)) hx hb dX5_week_47 (by decide) ?_
        obtain ⟨u11, eu11, h⟩ := bd_in h
        refine kI (va_runV (As := [.int x2, .int (4 : Int32)]) (rest := [.int (4 : Int32), .int x2, .ref (adM 0)]) ⟨hx, hb, hml, hown, hts⟩ (c_X5_of l D cA cQ adM vM x2 (4 : Int32) u11 eu11 _) (cwV 2 hts gX5_week_X5_of rfl rfl rfl (by decide +kernel) ⟨Nat.le_of_ble_eq_true rfl, Nat.le_of_ble_eq_true rfl⟩) (pV (ci := 5) (q := (RX5, TX5, 18)) hK hN hP hD [0, 1, 2, 3, 4, 5, 6, 7, 8, 9] rfl rfl rfl rfl) rfl rfl hl.1 rfl (lv_room (Nat.le_of_ble_eq_true rfl)) dX5_week_48 ⟨Nat.zero_le _, Nat.zero_le _⟩) hP hD hS hA [0, 1, 2, 3, 4, 5, 6, 7, 8, 9] rfl rfl (ws' := (wM cA adM vM)) rfl (fun H locs hP hD hS => ?_)
        refine lv_iconst (v := (1 : Int32)) hx hb dX5_week_51 (by decide) ?_
        refine lv_iadd hx hb dX5_week_52 ?_
        obtain ⟨u12, eu12, h⟩ := bd_in h
        refine kV (va_runV (As := [.int x2, .int (4 : Int32), .int (u11 + (1 : Int32))]) (rest := []) ⟨hx, hb, hml, hown, hts⟩ (c_X5_lay l D cA cQ adM vM x2 (4 : Int32) (u11 + (1 : Int32)) u12 eu12 _) (cwV 3 hts gX5_week_X5_lay rfl rfl rfl (by decide +kernel) ⟨Nat.le_of_ble_eq_true rfl, Nat.le_of_ble_eq_true rfl⟩) (pV (ci := 5) (q := (RX5, TX5, 18)) hK hN hP hD [0, 1, 2, 3, 4, 5, 6, 7, 8, 9] rfl rfl rfl rfl) rfl rfl hl.1 rfl (lv_room (Nat.le_of_ble_eq_true rfl)) dX5_week_53 ⟨Nat.zero_le _, Nat.zero_le _⟩) hP hD hS hA [0, 1, 2, 3, 4, 5, 6, 7, 8, 9] rfl rfl (ws' := (wM cA adM u12)) rfl (fun H locs hP hD hS => ?_)
        refine lv_iinc (v := (x2 + (1 : Int32))) (lv' := [(2, .int (x2 + (1 : Int32))), (0, .ref (adM 0)), (1, .int x1)]) hx hb dX5_week_56 hl (k := 2) rfl rfl (by decide) rfl (fun ls hl => ?_)
        refine lv_goto (tgt := 30) hx hb dX5_week_59 (by decide) ?_
        exact ih30 u12 x1 (x2 + (1 : Int32)) _ _ _ h hP hD hS (lv_sub hl [1, 2, 0] rfl)
  have h := hf
  unfold X5_week at h
  refine lv_aload_n hx hb dX5_week_0 rfl (lv_at hl 0 rfl) ?_
  refine va_get (D := D) (ci := 5) (v := .ref (adM 1)) (C := RX5) (T := TX5) (N := 18) hx hb hts iw_X5_week_X5 hown hK hP 0 rfl rfl 0 (by decide) (hts (.fieldLink RX5 7 "FavourRingsModel" "s" "[I") (List.mem_of_getElem? (i := 1) rfl)) (fun _ h9 => h9) rfl dX5_week_1 ?_
  refine lv_sipush (v := (288 : Int32)) hx hb dX5_week_4 (by decide) ?_
  refine lv_dup2_11 hx hb dX5_week_7 rfl rfl ?_
  obtain ⟨y13, ey13, h⟩ := bd_in h
  refine ldR hx hb hK hP 1 0 rfl rfl ey13 dX5_week_8 ?_
  refine lv_iconst (v := (1 : Int32)) hx hb dX5_week_9 (by decide) ?_
  refine lv_iadd hx hb dX5_week_10 ?_
  obtain ⟨g14, eg14, h⟩ := bd_in h
  refine stR hx hb hK hP hD hS 1 0 rfl rfl eg14 (ws' := (wM cA adM (setA vM 1 g14))) rfl dX5_week_11 (fun H locs hP hD hS => ?_)
  refine lv_aload_n hx hb dX5_week_12 rfl (lv_at hl 0 rfl) ?_
  refine va_get (D := D) (ci := 5) (v := .ref (adM 1)) (C := RX5) (T := TX5) (N := 18) hx hb hts iw_X5_week_X5 hown hK hP 0 rfl rfl 0 (by decide) (hts (.fieldLink RX5 7 "FavourRingsModel" "s" "[I") (List.mem_of_getElem? (i := 1) rfl)) (fun _ h9 => h9) rfl dX5_week_13 ?_
  refine lv_sipush (v := (297 : Int32)) hx hb dX5_week_16 (by decide) ?_
  obtain ⟨y15, ey15, h⟩ := bd_in h
  refine ldR hx hb hK hP 1 0 rfl rfl ey15 dX5_week_19 ?_
  refine lv_iconst (v := (1 : Int32)) hx hb dX5_week_20 (by decide) ?_
  refine lv_icmp_ne (tgt := 26) hx hb dX5_week_21 (by decide) (fun c16 => ?_) (fun c16 => ?_)
  · have h := (if_neg c16).symm.trans h
    refine lv_iconst (v := (0 : Int32)) hx hb dX5_week_26 (by decide) ?_
    refine lv_istore_n (lv' := [(1, .int (0 : Int32)), (0, .ref (adM 0))]) hx hb dX5_week_27 rfl hl (by decide) rfl (fun ls hl => ?_)
    refine lv_iconst (v := (0 : Int32)) hx hb dX5_week_28 (by decide) ?_
    refine lv_istore_n (lv' := [(2, .int (0 : Int32)), (1, .int (0 : Int32)), (0, .ref (adM 0))]) hx hb dX5_week_29 rfl hl (by decide) rfl (fun ls hl => ?_)
    exact B30 FU (setA vM 1 g14) (0 : Int32) (0 : Int32) _ _ _ h hP hD hS (lv_sub hl [2, 1, 0] rfl)
  · have h := (if_pos c16).symm.trans h
    refine lv_iconst (v := (0 : Int32)) hx hb dX5_week_24 (by decide) ?_
    cases h
    exact endI hx hb hr hlocks hP hS rfl dX5_week_25
theorem iw_X5_weeks_X5 : ∀ w ∈ wsX50, w ∈ wsX5_weeks := fun _ h => List.mem_cons_of_mem _ (List.mem_append_right _ (h))
set_option maxHeartbeats 4000000 in
set_option maxRecDepth 100000 in
theorem c_X5_weeks (l : Launch) (D : va_G) (cA cQ : ClassId) (adM : Nat → Nat) (vM : St) (p1 : Int32) (o : Int32 × St) (hf : X5_weeks vM p1 = some o) : Cti l yX5_weeks wsX5_weeks ({ frames := 4, cells := 0, slots := 0, locals := 90 }) D (TY cA cQ) [.ref (adM 0), .int p1] (wM cA adM vM) (wM cA adM o.2) o.1 := by
  refine Wk.i (cc := cX5_weeks) (maxL := 4) (ret := (some .int)) (by decide) rfl (Nat.le_of_ble_eq_true rfl) ?_
  intro p e s m below meth c A ls hx hb hr hlocks hml hown hts hK hN hP hD hA hl
  have hown : s.vm.findClass RX5 = some m.cls := hown
  have hS : va_S A s.heap s.heap [] := va_S.rf
  have hl : lv_has ls 4 [(0, .ref (adM 0)), (1, .int p1)] := hl
  have B40 : ∀ (fu40 : Nat) (vM : St) (x2 : Int32) (x3 : Int32) (H : Heap) (locs : List Loc) (ls : Array Slot), X5_weeks_l40 p1 fu40 vM x2 x3 = some o → va_P D vwCl (wM cA adM vM) H → va_D A (wM cA adM vM) → va_S A s.heap H locs → lv_has ls 4 [(0, .ref (adM 0)), (1, .int p1), (2, .int x2), (3, .int x3)] → W p l e (headSpec wsX5_weeks ({ frames := 4, cells := 0, slots := 0, locals := 90 })).room s m ([.ref (adM 0), .int p1] : List Value).toArray below meth c H locs 0 0 (MQ below (QI D (wM cA adM o.2) o.1 A) ([.ref (adM 0), .int p1] : List Value).toArray s 0 0 A) (F0 m 40 ls []) := by
    intro fu40
    induction fu40 with
    | zero =>
      intro vM x2 x3 H locs ls h hP hD hS hl
      cases h
    | succ fu40 ih40 =>
      intro vM x2 x3 H locs ls h hP hD hS hl
      rw [X5_weeks_l40] at h
      refine lv_iload_n hx hb dX5_weeks_40 rfl (lv_at hl 3 rfl) ?_
      refine lv_iload_n hx hb dX5_weeks_41 rfl (lv_at hl 1 rfl) ?_
      refine lv_icmp_ge (tgt := 58) hx hb dX5_weeks_42 (by decide) (fun c1 => ?_) (fun c1 => ?_)
      · have h := (if_pos c1).symm.trans h
        refine lv_iload_n hx hb dX5_weeks_58 rfl (lv_at hl 2 rfl) ?_
        cases h
        exact endI hx hb hr hlocks hP hS rfl dX5_weeks_59
      · have h := (if_neg c1).symm.trans h
        refine lv_iload_n hx hb dX5_weeks_45 rfl (lv_at hl 2 rfl) ?_
        refine lv_aload_n hx hb dX5_weeks_46 rfl (lv_at hl 0 rfl) ?_
        obtain ⟨u2, eu2, h⟩ := bd_in h
        refine kI (va_runV (As := []) (rest := [.int x2]) ⟨hx, hb, hml, hown, hts⟩ (c_X5_week l D cA cQ adM vM u2 eu2 _) (cwV 0 hts gX5_weeks_X5_week rfl rfl rfl (by decide +kernel) ⟨Nat.le_of_ble_eq_true rfl, Nat.le_of_ble_eq_true rfl⟩) (pV (ci := 5) (q := (RX5, TX5, 18)) hK hN hP hD [0, 1, 2, 3, 4, 5, 6, 7, 8, 9] rfl rfl rfl rfl) rfl rfl hl.1 rfl (lv_room (Nat.le_of_ble_eq_true rfl)) dX5_weeks_47 ⟨Nat.zero_le _, Nat.zero_le _⟩) hP hD hS hA [0, 1, 2, 3, 4, 5, 6, 7, 8, 9] rfl rfl (ws' := (wM cA adM u2.2)) rfl (fun H locs hP hD hS => ?_)
        refine lv_iadd hx hb dX5_weeks_50 ?_
        refine lv_istore_n (lv' := [(2, .int (x2 + u2.1)), (0, .ref (adM 0)), (1, .int p1), (3, .int x3)]) hx hb dX5_weeks_51 rfl hl (by decide) rfl (fun ls hl => ?_)
        refine lv_iinc (v := (x3 + (1 : Int32))) (lv' := [(3, .int (x3 + (1 : Int32))), (2, .int (x2 + u2.1)), (0, .ref (adM 0)), (1, .int p1)]) hx hb dX5_weeks_52 hl (k := 3) rfl rfl (by decide) rfl (fun ls hl => ?_)
        refine lv_goto (tgt := 40) hx hb dX5_weeks_55 (by decide) ?_
        exact ih40 u2.2 (x2 + u2.1) (x3 + (1 : Int32)) _ _ _ h hP hD hS (lv_sub hl [2, 3, 1, 0] rfl)
  have h := hf
  unfold X5_weeks at h
  refine lv_iload_n hx hb dX5_weeks_0 rfl (lv_at hl 1 rfl) ?_
  refine lv_iconst (v := (1 : Int32)) hx hb dX5_weeks_1 (by decide) ?_
  refine lv_bipush (v := (20 : Int32)) hx hb dX5_weeks_2 (by decide) ?_
  obtain ⟨u3, eu3, h⟩ := bd_in h
  refine kI (va_runS (As := [.int p1, .int (1 : Int32), .int (20 : Int32)]) (rest := []) ⟨hx, hb, hml, hown, hts⟩ (c_X5_in l D cA cQ  p1 (1 : Int32) (20 : Int32) u3 eu3 _) (va_cwS 3 hts gX5_weeks_X5_in rfl rfl rfl (by decide +kernel) ⟨Nat.le_of_ble_eq_true rfl, Nat.le_of_ble_eq_true rfl⟩) (pS hK hN hP hD [] rfl rfl) rfl rfl hl.1 rfl (lv_room (Nat.le_of_ble_eq_true rfl)) dX5_weeks_4 ⟨Nat.zero_le _, Nat.zero_le _⟩) hP hD hS hA [] rfl rfl (ws' := (wM cA adM vM)) rfl (fun H locs hP hD hS => ?_)
  refine lv_if_ne (tgt := 13) hx hb dX5_weeks_7 (by decide) (fun c4 => ?_) (fun c4 => ?_)
  · have h := (if_neg c4).symm.trans h
    refine lv_aload_n hx hb dX5_weeks_13 rfl (lv_at hl 0 rfl) ?_
    refine va_get (D := D) (ci := 5) (v := .ref (adM 1)) (C := RX5) (T := TX5) (N := 18) hx hb hts iw_X5_weeks_X5 hown hK hP 0 rfl rfl 0 (by decide) (hts (.fieldLink RX5 7 "FavourRingsModel" "s" "[I") (List.mem_of_getElem? (i := 2) rfl)) (fun _ h9 => h9) rfl dX5_weeks_14 ?_
    refine lv_sipush (v := (288 : Int32)) hx hb dX5_weeks_17 (by decide) ?_
    obtain ⟨y5, ey5, h⟩ := bd_in h
    refine ldR hx hb hK hP 1 0 rfl rfl ey5 dX5_weeks_20 ?_
    refine lv_iload_n hx hb dX5_weeks_21 rfl (lv_at hl 1 rfl) ?_
    refine lv_iadd hx hb dX5_weeks_22 ?_
    refine lv_sipush (v := (999 : Int32)) hx hb dX5_weeks_23 (by decide) ?_
    refine lv_icmp_le (tgt := 32) hx hb dX5_weeks_26 (by decide) (fun c6 => ?_) (fun c6 => ?_)
    · have h := (if_pos c6).symm.trans h
      refine lv_aload_n hx hb dX5_weeks_32 rfl (lv_at hl 0 rfl) ?_
      obtain ⟨u7, eu7, h⟩ := bd_in h
      refine kV (va_runV (As := []) (rest := []) ⟨hx, hb, hml, hown, hts⟩ (c_X5_changes l D cA cQ adM vM u7 eu7 _) (cwV 0 hts gX5_weeks_X5_changes rfl rfl rfl (by decide +kernel) ⟨Nat.le_of_ble_eq_true rfl, Nat.le_of_ble_eq_true rfl⟩) (pV (ci := 5) (q := (RX5, TX5, 18)) hK hN hP hD [0, 1, 2, 3, 4, 5, 6, 7, 8, 9] rfl rfl rfl rfl) rfl rfl hl.1 rfl (lv_room (Nat.le_of_ble_eq_true rfl)) dX5_weeks_33 ⟨Nat.zero_le _, Nat.zero_le _⟩) hP hD hS hA [0, 1, 2, 3, 4, 5, 6, 7, 8, 9] rfl rfl (ws' := (wM cA adM u7)) rfl (fun H locs hP hD hS => ?_)
      refine lv_iconst (v := (0 : Int32)) hx hb dX5_weeks_36 (by decide) ?_
      refine lv_istore_n (lv' := [(2, .int (0 : Int32)), (0, .ref (adM 0)), (1, .int p1)]) hx hb dX5_weeks_37 rfl hl (by decide) rfl (fun ls hl => ?_)
      refine lv_iconst (v := (0 : Int32)) hx hb dX5_weeks_38 (by decide) ?_
      refine lv_istore_n (lv' := [(3, .int (0 : Int32)), (2, .int (0 : Int32)), (0, .ref (adM 0)), (1, .int p1)]) hx hb dX5_weeks_39 rfl hl (by decide) rfl (fun ls hl => ?_)
      exact B40 FU u7 (0 : Int32) (0 : Int32) _ _ _ h hP hD hS (lv_sub hl [2, 3, 1, 0] rfl)
    · have h := (if_neg c6).symm.trans h
      refine lv_ldc (v := (-1000003 : Int32)) hx hb hown (hts (.constant RX5 72 (-1000003)) (List.mem_of_getElem? (i := 3) rfl)) dX5_weeks_29 ?_
      cases h
      exact endI hx hb hr hlocks hP hS rfl dX5_weeks_31
  · have h := (if_pos c4).symm.trans h
    refine lv_ldc (v := (-1000001 : Int32)) hx hb hown (hts (.constant RX5 86 (-1000001)) (List.mem_of_getElem? (i := 1) rfl)) dX5_weeks_10 ?_
    cases h
    exact endI hx hb hr hlocks hP hS rfl dX5_weeks_12
theorem iw_X5_holiday_X5 : ∀ w ∈ wsX50, w ∈ wsX5_holiday := fun _ h => List.mem_cons_of_mem _ (List.mem_append_right _ (h))
set_option maxHeartbeats 4000000 in
set_option maxRecDepth 100000 in
theorem c_X5_holiday (l : Launch) (D : va_G) (cA cQ : ClassId) (adM : Nat → Nat) (vM : St) (p1 : Int32) (o : Int32 × St) (hf : X5_holiday vM p1 = some o) : Cti l yX5_holiday wsX5_holiday ({ frames := 1, cells := 0, slots := 0, locals := 21 }) D (TY cA cQ) [.ref (adM 0), .int p1] (wM cA adM vM) (wM cA adM o.2) o.1 := by
  refine Wk.i (cc := cX5_holiday) (maxL := 3) (ret := (some .int)) (by decide) rfl (Nat.le_of_ble_eq_true rfl) ?_
  intro p e s m below meth c A ls hx hb hr hlocks hml hown hts hK hN hP hD hA hl
  have hown : s.vm.findClass RX5 = some m.cls := hown
  have hS : va_S A s.heap s.heap [] := va_S.rf
  have hl : lv_has ls 3 [(0, .ref (adM 0)), (1, .int p1)] := hl
  have h := hf
  unfold X5_holiday at h
  refine lv_aload_n hx hb dX5_holiday_0 rfl (lv_at hl 0 rfl) ?_
  obtain ⟨u1, eu1, h⟩ := bd_in h
  refine kV (va_runV (As := []) (rest := []) ⟨hx, hb, hml, hown, hts⟩ (c_X5_changes l D cA cQ adM vM u1 eu1 _) (cwV 0 hts gX5_holiday_X5_changes rfl rfl rfl (by decide +kernel) ⟨Nat.le_of_ble_eq_true rfl, Nat.le_of_ble_eq_true rfl⟩) (pV (ci := 5) (q := (RX5, TX5, 18)) hK hN hP hD [0, 1, 2, 3, 4, 5, 6, 7, 8, 9] rfl rfl rfl rfl) rfl rfl hl.1 rfl (lv_room (Nat.le_of_ble_eq_true rfl)) dX5_holiday_1 ⟨Nat.zero_le _, Nat.zero_le _⟩) hP hD hS hA [0, 1, 2, 3, 4, 5, 6, 7, 8, 9] rfl rfl (ws' := (wM cA adM u1)) rfl (fun H locs hP hD hS => ?_)
  refine lv_aload_n hx hb dX5_holiday_4 rfl (lv_at hl 0 rfl) ?_
  refine va_get (D := D) (ci := 5) (v := .ref (adM 1)) (C := RX5) (T := TX5) (N := 18) hx hb hts iw_X5_holiday_X5 hown hK hP 0 rfl rfl 0 (by decide) (hts (.fieldLink RX5 7 "FavourRingsModel" "s" "[I") (List.mem_of_getElem? (i := 1) rfl)) (fun _ h9 => h9) rfl dX5_holiday_5 ?_
  refine lv_sipush (v := (297 : Int32)) hx hb dX5_holiday_8 (by decide) ?_
  obtain ⟨y2, ey2, h⟩ := bd_in h
  refine ldR hx hb hK hP 1 0 rfl rfl ey2 dX5_holiday_11 ?_
  refine lv_istore_n (lv' := [(2, .int y2), (0, .ref (adM 0)), (1, .int p1)]) hx hb dX5_holiday_12 rfl hl (by decide) rfl (fun ls hl => ?_)
  refine lv_aload_n hx hb dX5_holiday_13 rfl (lv_at hl 1 rfl) ?_
  refine va_get (D := D) (ci := 5) (v := .ref (adM 1)) (C := RX5) (T := TX5) (N := 18) hx hb hts iw_X5_holiday_X5 hown hK hP 0 rfl rfl 0 (by decide) (hts (.fieldLink RX5 7 "FavourRingsModel" "s" "[I") (List.mem_of_getElem? (i := 1) rfl)) (fun _ h9 => h9) rfl dX5_holiday_14 ?_
  refine lv_sipush (v := (297 : Int32)) hx hb dX5_holiday_17 (by decide) ?_
  refine lv_iload_n hx hb dX5_holiday_20 rfl (lv_at hl 2 rfl) ?_
  refine lv_if_eq (tgt := 28) hx hb dX5_holiday_21 (by decide) (fun c3 => ?_) (fun c3 => ?_)
  · have h := (if_pos c3).symm.trans h
    refine lv_iconst (v := (0 : Int32)) hx hb dX5_holiday_28 (by decide) ?_
    obtain ⟨g4, eg4, h⟩ := bd_in h
    refine stR hx hb hK hP hD hS 1 0 rfl rfl eg4 (ws' := (wM cA adM (setA u1 1 g4))) rfl dX5_holiday_29 (fun H locs hP hD hS => ?_)
    refine lv_iload_n hx hb dX5_holiday_30 rfl (lv_at hl 0 rfl) ?_
    cases h
    exact endI hx hb hr hlocks hP hS rfl dX5_holiday_31
  · have h := (if_neg c3).symm.trans h
    refine lv_iconst (v := (1 : Int32)) hx hb dX5_holiday_24 (by decide) ?_
    refine lv_goto (tgt := 29) hx hb dX5_holiday_25 (by decide) ?_
    obtain ⟨g5, eg5, h⟩ := bd_in h
    refine stR hx hb hK hP hD hS 1 0 rfl rfl eg5 (ws' := (wM cA adM (setA u1 1 g5))) rfl dX5_holiday_29 (fun H locs hP hD hS => ?_)
    refine lv_iload_n hx hb dX5_holiday_30 rfl (lv_at hl 0 rfl) ?_
    cases h
    exact endI hx hb hr hlocks hP hS rfl dX5_holiday_31
theorem iw_X5_does_X5 : ∀ w ∈ wsX50, w ∈ wsX5_does := fun _ h => List.mem_cons_of_mem _ (List.mem_append_right _ (h))
set_option maxHeartbeats 4000000 in
set_option maxRecDepth 100000 in
theorem c_X5_does (l : Launch) (D : va_G) (cA cQ : ClassId) (adM : Nat → Nat) (vM : St) (o : Int32 × St) (hf : X5_does vM = some o) : Cti l yX5_does wsX5_does ({ frames := 5, cells := 0, slots := 0, locals := 121 }) D (TY cA cQ) [.ref (adM 0)] (wM cA adM vM) (wM cA adM o.2) o.1 := by
  refine Wk.i (cc := cX5_does) (maxL := 1) (ret := (some .int)) (by decide) rfl (Nat.le_of_ble_eq_true rfl) ?_
  intro p e s m below meth c A ls hx hb hr hlocks hml hown hts hK hN hP hD hA hl
  have hown : s.vm.findClass RX5 = some m.cls := hown
  have hS : va_S A s.heap s.heap [] := va_S.rf
  have hl : lv_has ls 1 [(0, .ref (adM 0))] := hl
  have B170 : ∀ (vM : St) (t1 : Int32) (H : Heap) (locs : List Loc) (ls : Array Slot), X5_does_b170 vM t1 = some o → va_P D vwCl (wM cA adM vM) H → va_D A (wM cA adM vM) → va_S A s.heap H locs → lv_has ls 1 [] → W p l e (headSpec wsX5_does ({ frames := 5, cells := 0, slots := 0, locals := 121 })).room s m ([.ref (adM 0)] : List Value).toArray below meth c H locs 0 0 (MQ below (QI D (wM cA adM o.2) o.1 A) ([.ref (adM 0)] : List Value).toArray s 0 0 A) (F0 m 170 ls [.int t1, .ref (adM 0)]) := by
    intro vM t1 H locs ls h hP hD hS hl
    unfold X5_does_b170 at h
    obtain ⟨u1, eu1, h⟩ := bd_in h
    refine kI (va_runV (As := [.int t1]) (rest := []) ⟨hx, hb, hml, hown, hts⟩ (c_X5_holiday l D cA cQ adM vM t1 u1 eu1 _) (cwV 1 hts gX5_does_X5_holiday rfl rfl rfl (by decide +kernel) ⟨Nat.le_of_ble_eq_true rfl, Nat.le_of_ble_eq_true rfl⟩) (pV (ci := 5) (q := (RX5, TX5, 18)) hK hN hP hD [0, 1, 2, 3, 4, 5, 6, 7, 8, 9] rfl rfl rfl rfl) rfl rfl hl.1 rfl (lv_room (Nat.le_of_ble_eq_true rfl)) dX5_does_170 ⟨Nat.zero_le _, Nat.zero_le _⟩) hP hD hS hA [0, 1, 2, 3, 4, 5, 6, 7, 8, 9] rfl rfl (ws' := (wM cA adM u1.2)) rfl (fun H locs hP hD hS => ?_)
    cases h
    exact endI hx hb hr hlocks hP hS rfl dX5_does_173
  have h := hf
  unfold X5_does at h
  refine lv_aload_n hx hb dX5_does_0 rfl (lv_at hl 0 rfl) ?_
  refine va_get (D := D) (ci := 5) (v := .int (vM 99 16)) (C := RX5) (T := TX5) (N := 18) hx hb hts iw_X5_does_X5 hown hK hP 0 rfl rfl 16 (by decide) (hts (.fieldLink RX5 156 "FavourRingsModel" "order" "I") (List.mem_of_getElem? (i := 1) rfl)) (fun _ h9 => h9) rfl dX5_does_1 ?_
  by_cases c2 : (vM 99 16) = (99 : Int32)
  · have h := (if_pos c2).symm.trans h
    refine lv_lookup (off := 127) (tgt := 131) hx hb dX5_does_4 (by decide +kernel) (by rw [c2]; decide +kernel) (by decide) ?_
    refine lv_aload_n hx hb dX5_does_131 rfl (lv_at hl 0 rfl) ?_
    refine lv_aload_n hx hb dX5_does_132 rfl (lv_at hl 0 rfl) ?_
    refine va_get (D := D) (ci := 5) (v := .ref (adM 18)) (C := RX5) (T := TX5) (N := 18) hx hb hts iw_X5_does_X5 hown hK hP 0 rfl rfl 17 (by decide) (hts (.fieldLink RX5 34 "FavourRingsModel" "numbers" "[I") (List.mem_of_getElem? (i := 2) rfl)) (fun _ h9 => h9) rfl dX5_does_133 ?_
    refine lv_iconst (v := (0 : Int32)) hx hb dX5_does_136 (by decide) ?_
    obtain ⟨y3, ey3, h⟩ := bd_in h
    refine ldR hx hb hK hP 9 0 rfl rfl ey3 dX5_does_137 ?_
    obtain ⟨u4, eu4, h⟩ := bd_in h
    refine kI (va_runV (As := [.int y3]) (rest := []) ⟨hx, hb, hml, hown, hts⟩ (c_X5_clear l D cA cQ adM vM y3 u4 eu4 _) (cwV 1 hts gX5_does_X5_clear rfl rfl rfl (by decide +kernel) ⟨Nat.le_of_ble_eq_true rfl, Nat.le_of_ble_eq_true rfl⟩) (pV (ci := 5) (q := (RX5, TX5, 18)) hK hN hP hD [0, 1, 2, 3, 4, 5, 6, 7, 8, 9] rfl rfl rfl rfl) rfl rfl hl.1 rfl (lv_room (Nat.le_of_ble_eq_true rfl)) dX5_does_138 ⟨Nat.zero_le _, Nat.zero_le _⟩) hP hD hS hA [0, 1, 2, 3, 4, 5, 6, 7, 8, 9] rfl rfl (ws' := (wM cA adM u4.2)) rfl (fun H locs hP hD hS => ?_)
    cases h
    exact endI hx hb hr hlocks hP hS rfl dX5_does_141
  have h := (if_neg c2).symm.trans h
  by_cases c5 : (vM 99 16) = (100 : Int32)
  · have h := (if_pos c5).symm.trans h
    refine lv_lookup (off := 81) (tgt := 85) hx hb dX5_does_4 (by decide +kernel) (by rw [c5]; decide +kernel) (by decide) ?_
    refine lv_aload_n hx hb dX5_does_85 rfl (lv_at hl 0 rfl) ?_
    refine lv_aload_n hx hb dX5_does_86 rfl (lv_at hl 0 rfl) ?_
    refine va_get (D := D) (ci := 5) (v := .ref (adM 18)) (C := RX5) (T := TX5) (N := 18) hx hb hts iw_X5_does_X5 hown hK hP 0 rfl rfl 17 (by decide) (hts (.fieldLink RX5 34 "FavourRingsModel" "numbers" "[I") (List.mem_of_getElem? (i := 2) rfl)) (fun _ h9 => h9) rfl dX5_does_87 ?_
    refine lv_iconst (v := (0 : Int32)) hx hb dX5_does_90 (by decide) ?_
    obtain ⟨y6, ey6, h⟩ := bd_in h
    refine ldR hx hb hK hP 9 0 rfl rfl ey6 dX5_does_91 ?_
    refine lv_aload_n hx hb dX5_does_92 rfl (lv_at hl 0 rfl) ?_
    refine va_get (D := D) (ci := 5) (v := .ref (adM 18)) (C := RX5) (T := TX5) (N := 18) hx hb hts iw_X5_does_X5 hown hK hP 0 rfl rfl 17 (by decide) (hts (.fieldLink RX5 34 "FavourRingsModel" "numbers" "[I") (List.mem_of_getElem? (i := 2) rfl)) (fun _ h9 => h9) rfl dX5_does_93 ?_
    refine lv_iconst (v := (1 : Int32)) hx hb dX5_does_96 (by decide) ?_
    obtain ⟨y7, ey7, h⟩ := bd_in h
    refine ldR hx hb hK hP 9 0 rfl rfl ey7 dX5_does_97 ?_
    refine lv_aload_n hx hb dX5_does_98 rfl (lv_at hl 0 rfl) ?_
    refine va_get (D := D) (ci := 5) (v := .ref (adM 18)) (C := RX5) (T := TX5) (N := 18) hx hb hts iw_X5_does_X5 hown hK hP 0 rfl rfl 17 (by decide) (hts (.fieldLink RX5 34 "FavourRingsModel" "numbers" "[I") (List.mem_of_getElem? (i := 2) rfl)) (fun _ h9 => h9) rfl dX5_does_99 ?_
    refine lv_iconst (v := (2 : Int32)) hx hb dX5_does_102 (by decide) ?_
    obtain ⟨y8, ey8, h⟩ := bd_in h
    refine ldR hx hb hK hP 9 0 rfl rfl ey8 dX5_does_103 ?_
    refine lv_aload_n hx hb dX5_does_104 rfl (lv_at hl 0 rfl) ?_
    refine va_get (D := D) (ci := 5) (v := .ref (adM 18)) (C := RX5) (T := TX5) (N := 18) hx hb hts iw_X5_does_X5 hown hK hP 0 rfl rfl 17 (by decide) (hts (.fieldLink RX5 34 "FavourRingsModel" "numbers" "[I") (List.mem_of_getElem? (i := 2) rfl)) (fun _ h9 => h9) rfl dX5_does_105 ?_
    refine lv_iconst (v := (3 : Int32)) hx hb dX5_does_108 (by decide) ?_
    obtain ⟨y9, ey9, h⟩ := bd_in h
    refine ldR hx hb hK hP 9 0 rfl rfl ey9 dX5_does_109 ?_
    obtain ⟨u10, eu10, h⟩ := bd_in h
    refine kI (va_runV (As := [.int y6, .int y7, .int y8, .int y9]) (rest := []) ⟨hx, hb, hml, hown, hts⟩ (c_X5_fulfil l D cA cQ adM vM y6 y7 y8 y9 u10 eu10 _) (cwV 4 hts gX5_does_X5_fulfil rfl rfl rfl (by decide +kernel) ⟨Nat.le_of_ble_eq_true rfl, Nat.le_of_ble_eq_true rfl⟩) (pV (ci := 5) (q := (RX5, TX5, 18)) hK hN hP hD [0, 1, 2, 3, 4, 5, 6, 7, 8, 9] rfl rfl rfl rfl) rfl rfl hl.1 rfl (lv_room (Nat.le_of_ble_eq_true rfl)) dX5_does_110 ⟨Nat.zero_le _, Nat.zero_le _⟩) hP hD hS hA [0, 1, 2, 3, 4, 5, 6, 7, 8, 9] rfl rfl (ws' := (wM cA adM u10.2)) rfl (fun H locs hP hD hS => ?_)
    cases h
    exact endI hx hb hr hlocks hP hS rfl dX5_does_113
  have h := (if_neg c5).symm.trans h
  by_cases c11 : (vM 99 16) = (103 : Int32)
  · have h := (if_pos c11).symm.trans h
    refine lv_lookup (off := 110) (tgt := 114) hx hb dX5_does_4 (by decide +kernel) (by rw [c11]; decide +kernel) (by decide) ?_
    refine lv_aload_n hx hb dX5_does_114 rfl (lv_at hl 0 rfl) ?_
    refine lv_aload_n hx hb dX5_does_115 rfl (lv_at hl 0 rfl) ?_
    refine va_get (D := D) (ci := 5) (v := .ref (adM 18)) (C := RX5) (T := TX5) (N := 18) hx hb hts iw_X5_does_X5 hown hK hP 0 rfl rfl 17 (by decide) (hts (.fieldLink RX5 34 "FavourRingsModel" "numbers" "[I") (List.mem_of_getElem? (i := 2) rfl)) (fun _ h9 => h9) rfl dX5_does_116 ?_
    refine lv_iconst (v := (0 : Int32)) hx hb dX5_does_119 (by decide) ?_
    obtain ⟨y12, ey12, h⟩ := bd_in h
    refine ldR hx hb hK hP 9 0 rfl rfl ey12 dX5_does_120 ?_
    refine lv_aload_n hx hb dX5_does_121 rfl (lv_at hl 0 rfl) ?_
    refine va_get (D := D) (ci := 5) (v := .ref (adM 18)) (C := RX5) (T := TX5) (N := 18) hx hb hts iw_X5_does_X5 hown hK hP 0 rfl rfl 17 (by decide) (hts (.fieldLink RX5 34 "FavourRingsModel" "numbers" "[I") (List.mem_of_getElem? (i := 2) rfl)) (fun _ h9 => h9) rfl dX5_does_122 ?_
    refine lv_iconst (v := (1 : Int32)) hx hb dX5_does_125 (by decide) ?_
    obtain ⟨y13, ey13, h⟩ := bd_in h
    refine ldR hx hb hK hP 9 0 rfl rfl ey13 dX5_does_126 ?_
    obtain ⟨u14, eu14, h⟩ := bd_in h
    refine kI (va_runV (As := [.int y12, .int y13]) (rest := []) ⟨hx, hb, hml, hown, hts⟩ (c_X5_guarantee l D cA cQ adM vM y12 y13 u14 eu14 _) (cwV 2 hts gX5_does_X5_guarantee rfl rfl rfl (by decide +kernel) ⟨Nat.le_of_ble_eq_true rfl, Nat.le_of_ble_eq_true rfl⟩) (pV (ci := 5) (q := (RX5, TX5, 18)) hK hN hP hD [0, 1, 2, 3, 4, 5, 6, 7, 8, 9] rfl rfl rfl rfl) rfl rfl hl.1 rfl (lv_room (Nat.le_of_ble_eq_true rfl)) dX5_does_127 ⟨Nat.zero_le _, Nat.zero_le _⟩) hP hD hS hA [0, 1, 2, 3, 4, 5, 6, 7, 8, 9] rfl rfl (ws' := (wM cA adM u14.2)) rfl (fun H locs hP hD hS => ?_)
    cases h
    exact endI hx hb hr hlocks hP hS rfl dX5_does_130
  have h := (if_neg c11).symm.trans h
  by_cases c15 : (vM 99 16) = (111 : Int32)
  · have h := (if_pos c15).symm.trans h
    refine lv_lookup (off := 52) (tgt := 56) hx hb dX5_does_4 (by decide +kernel) (by rw [c15]; decide +kernel) (by decide) ?_
    refine lv_aload_n hx hb dX5_does_56 rfl (lv_at hl 0 rfl) ?_
    refine lv_aload_n hx hb dX5_does_57 rfl (lv_at hl 0 rfl) ?_
    refine va_get (D := D) (ci := 5) (v := .ref (adM 18)) (C := RX5) (T := TX5) (N := 18) hx hb hts iw_X5_does_X5 hown hK hP 0 rfl rfl 17 (by decide) (hts (.fieldLink RX5 34 "FavourRingsModel" "numbers" "[I") (List.mem_of_getElem? (i := 2) rfl)) (fun _ h9 => h9) rfl dX5_does_58 ?_
    refine lv_iconst (v := (0 : Int32)) hx hb dX5_does_61 (by decide) ?_
    obtain ⟨y16, ey16, h⟩ := bd_in h
    refine ldR hx hb hK hP 9 0 rfl rfl ey16 dX5_does_62 ?_
    refine lv_aload_n hx hb dX5_does_63 rfl (lv_at hl 0 rfl) ?_
    refine va_get (D := D) (ci := 5) (v := .ref (adM 18)) (C := RX5) (T := TX5) (N := 18) hx hb hts iw_X5_does_X5 hown hK hP 0 rfl rfl 17 (by decide) (hts (.fieldLink RX5 34 "FavourRingsModel" "numbers" "[I") (List.mem_of_getElem? (i := 2) rfl)) (fun _ h9 => h9) rfl dX5_does_64 ?_
    refine lv_iconst (v := (1 : Int32)) hx hb dX5_does_67 (by decide) ?_
    obtain ⟨y17, ey17, h⟩ := bd_in h
    refine ldR hx hb hK hP 9 0 rfl rfl ey17 dX5_does_68 ?_
    refine lv_aload_n hx hb dX5_does_69 rfl (lv_at hl 0 rfl) ?_
    refine va_get (D := D) (ci := 5) (v := .ref (adM 18)) (C := RX5) (T := TX5) (N := 18) hx hb hts iw_X5_does_X5 hown hK hP 0 rfl rfl 17 (by decide) (hts (.fieldLink RX5 34 "FavourRingsModel" "numbers" "[I") (List.mem_of_getElem? (i := 2) rfl)) (fun _ h9 => h9) rfl dX5_does_70 ?_
    refine lv_iconst (v := (2 : Int32)) hx hb dX5_does_73 (by decide) ?_
    obtain ⟨y18, ey18, h⟩ := bd_in h
    refine ldR hx hb hK hP 9 0 rfl rfl ey18 dX5_does_74 ?_
    refine lv_aload_n hx hb dX5_does_75 rfl (lv_at hl 0 rfl) ?_
    refine va_get (D := D) (ci := 5) (v := .ref (adM 18)) (C := RX5) (T := TX5) (N := 18) hx hb hts iw_X5_does_X5 hown hK hP 0 rfl rfl 17 (by decide) (hts (.fieldLink RX5 34 "FavourRingsModel" "numbers" "[I") (List.mem_of_getElem? (i := 2) rfl)) (fun _ h9 => h9) rfl dX5_does_76 ?_
    refine lv_iconst (v := (3 : Int32)) hx hb dX5_does_79 (by decide) ?_
    obtain ⟨y19, ey19, h⟩ := bd_in h
    refine ldR hx hb hK hP 9 0 rfl rfl ey19 dX5_does_80 ?_
    obtain ⟨u20, eu20, h⟩ := bd_in h
    refine kI (va_runV (As := [.int y16, .int y17, .int y18, .int y19]) (rest := []) ⟨hx, hb, hml, hown, hts⟩ (c_X5_lend l D cA cQ adM vM y16 y17 y18 y19 u20 eu20 _) (cwV 4 hts gX5_does_X5_lend rfl rfl rfl (by decide +kernel) ⟨Nat.le_of_ble_eq_true rfl, Nat.le_of_ble_eq_true rfl⟩) (pV (ci := 5) (q := (RX5, TX5, 18)) hK hN hP hD [0, 1, 2, 3, 4, 5, 6, 7, 8, 9] rfl rfl rfl rfl) rfl rfl hl.1 rfl (lv_room (Nat.le_of_ble_eq_true rfl)) dX5_does_81 ⟨Nat.zero_le _, Nat.zero_le _⟩) hP hD hS hA [0, 1, 2, 3, 4, 5, 6, 7, 8, 9] rfl rfl (ws' := (wM cA adM u20.2)) rfl (fun H locs hP hD hS => ?_)
    cases h
    exact endI hx hb hr hlocks hP hS rfl dX5_does_84
  have h := (if_neg c15).symm.trans h
  by_cases c21 : (vM 99 16) = (119 : Int32)
  · have h := (if_pos c21).symm.trans h
    refine lv_lookup (off := 138) (tgt := 142) hx hb dX5_does_4 (by decide +kernel) (by rw [c21]; decide +kernel) (by decide) ?_
    refine lv_aload_n hx hb dX5_does_142 rfl (lv_at hl 0 rfl) ?_
    refine lv_aload_n hx hb dX5_does_143 rfl (lv_at hl 0 rfl) ?_
    refine va_get (D := D) (ci := 5) (v := .ref (adM 18)) (C := RX5) (T := TX5) (N := 18) hx hb hts iw_X5_does_X5 hown hK hP 0 rfl rfl 17 (by decide) (hts (.fieldLink RX5 34 "FavourRingsModel" "numbers" "[I") (List.mem_of_getElem? (i := 2) rfl)) (fun _ h9 => h9) rfl dX5_does_144 ?_
    refine lv_iconst (v := (0 : Int32)) hx hb dX5_does_147 (by decide) ?_
    obtain ⟨y22, ey22, h⟩ := bd_in h
    refine ldR hx hb hK hP 9 0 rfl rfl ey22 dX5_does_148 ?_
    obtain ⟨u23, eu23, h⟩ := bd_in h
    refine kI (va_runV (As := [.int y22]) (rest := []) ⟨hx, hb, hml, hown, hts⟩ (c_X5_weeks l D cA cQ adM vM y22 u23 eu23 _) (cwV 1 hts gX5_does_X5_weeks rfl rfl rfl (by decide +kernel) ⟨Nat.le_of_ble_eq_true rfl, Nat.le_of_ble_eq_true rfl⟩) (pV (ci := 5) (q := (RX5, TX5, 18)) hK hN hP hD [0, 1, 2, 3, 4, 5, 6, 7, 8, 9] rfl rfl rfl rfl) rfl rfl hl.1 rfl (lv_room (Nat.le_of_ble_eq_true rfl)) dX5_does_149 ⟨Nat.zero_le _, Nat.zero_le _⟩) hP hD hS hA [0, 1, 2, 3, 4, 5, 6, 7, 8, 9] rfl rfl (ws' := (wM cA adM u23.2)) rfl (fun H locs hP hD hS => ?_)
    cases h
    exact endI hx hb hr hlocks hP hS rfl dX5_does_152
  have h := (if_neg c21).symm.trans h
  have nc2 : ((vM 99 16)).toInt ≠ 99 := ne_toInt c2
  have nc5 : ((vM 99 16)).toInt ≠ 100 := ne_toInt c5
  have nc11 : ((vM 99 16)).toInt ≠ 103 := ne_toInt c11
  have nc15 : ((vM 99 16)).toInt ≠ 111 := ne_toInt c15
  have nc21 : ((vM 99 16)).toInt ≠ 119 := ne_toInt c21
  refine lv_lookup (off := 149) (tgt := 153) hx hb dX5_does_4 (by decide +kernel) (by simp [Op.lookupswitch.offset, nc2.symm, nc5.symm, nc11.symm, nc15.symm, nc21.symm]) (by decide) ?_
  refine lv_aload_n hx hb dX5_does_153 rfl (lv_at hl 0 rfl) ?_
  refine lv_aload_n hx hb dX5_does_154 rfl (lv_at hl 0 rfl) ?_
  refine va_get (D := D) (ci := 5) (v := .ref (adM 1)) (C := RX5) (T := TX5) (N := 18) hx hb hts iw_X5_does_X5 hown hK hP 0 rfl rfl 0 (by decide) (hts (.fieldLink RX5 7 "FavourRingsModel" "s" "[I") (List.mem_of_getElem? (i := 3) rfl)) (fun _ h9 => h9) rfl dX5_does_155 ?_
  refine lv_sipush (v := (297 : Int32)) hx hb dX5_does_158 (by decide) ?_
  obtain ⟨y24, ey24, h⟩ := bd_in h
  refine ldR hx hb hK hP 1 0 rfl rfl ey24 dX5_does_161 ?_
  refine lv_if_ne (tgt := 169) hx hb dX5_does_162 (by decide) (fun c25 => ?_) (fun c25 => ?_)
  · have h := (if_neg c25).symm.trans h
    refine lv_iconst (v := (0 : Int32)) hx hb dX5_does_169 (by decide) ?_
    exact B170 vM (0 : Int32) _ _ _ h hP hD hS (lv_sub hl [] rfl)
  · have h := (if_pos c25).symm.trans h
    refine lv_iconst (v := (1 : Int32)) hx hb dX5_does_165 (by decide) ?_
    refine lv_goto (tgt := 170) hx hb dX5_does_166 (by decide) ?_
    exact B170 vM (1 : Int32) _ _ _ h hP hD hS (lv_sub hl [] rfl)
theorem iw_X5_isAt_X5 : ∀ w ∈ wsX50, w ∈ wsX5_isAt := fun _ h => List.mem_cons_of_mem _ (List.mem_append_right _ (h))
set_option maxHeartbeats 4000000 in
set_option maxRecDepth 100000 in
theorem c_X5_isAt (l : Launch) (D : va_G) (cA cQ : ClassId) (adM : Nat → Nat) (vM : St) (p1 : Int32) (p2 : Int32) (o : Int32) (hf : X5_isAt vM p1 p2 = some o) : Cti l yX5_isAt wsX5_isAt ({ frames := 1, cells := 0, slots := 0, locals := 22 }) D (TY cA cQ) [.ref (adM 0), .int p1, .int p2] (wM cA adM vM) (wM cA adM vM) o := by
  refine Wk.i (cc := cX5_isAt) (maxL := 3) (ret := (some .boolean)) (by decide) rfl (Nat.le_of_ble_eq_true rfl) ?_
  intro p e s m below meth c A ls hx hb hr hlocks hml hown hts hK hN hP hD hA hl
  have hown : s.vm.findClass RX5 = some m.cls := hown
  have hS : va_S A s.heap s.heap [] := va_S.rf
  have hl : lv_has ls 3 [(0, .ref (adM 0)), (1, .int p1), (2, .int p2)] := hl
  have h := hf
  unfold X5_isAt at h
  refine lv_aload_n hx hb dX5_isAt_0 rfl (lv_at hl 0 rfl) ?_
  refine va_get (D := D) (ci := 5) (v := .int (vM 99 11)) (C := RX5) (T := TX5) (N := 18) hx hb hts iw_X5_isAt_X5 hown hK hP 0 rfl rfl 11 (by decide) (hts (.fieldLink RX5 150 "FavourRingsModel" "spot" "I") (List.mem_of_getElem? (i := 1) rfl)) (fun _ h9 => h9) rfl dX5_isAt_1 ?_
  refine lv_aload_n hx hb dX5_isAt_4 rfl (lv_at hl 0 rfl) ?_
  refine va_get (D := D) (ci := 5) (v := .int (vM 99 7)) (C := RX5) (T := TX5) (N := 18) hx hb hts iw_X5_isAt_X5 hown hK hP 0 rfl rfl 7 (by decide) (hts (.fieldLink RX5 147 "FavourRingsModel" "typed" "I") (List.mem_of_getElem? (i := 2) rfl)) (fun _ h9 => h9) rfl dX5_isAt_5 ?_
  refine lv_icmp_ge (tgt := 32) hx hb dX5_isAt_8 (by decide) (fun c1 => ?_) (fun c1 => ?_)
  · have h := (if_pos c1).symm.trans h
    refine lv_iconst (v := (0 : Int32)) hx hb dX5_isAt_32 (by decide) ?_
    cases h
    exact endZ hx hb hr hlocks hP hS ⟨rfl, rfl⟩ dX5_isAt_33
  · have h := (if_neg c1).symm.trans h
    refine lv_aload_n hx hb dX5_isAt_11 rfl (lv_at hl 0 rfl) ?_
    refine va_get (D := D) (ci := 5) (v := .ref (adM 7)) (C := RX5) (T := TX5) (N := 18) hx hb hts iw_X5_isAt_X5 hown hK hP 0 rfl rfl 6 (by decide) (hts (.fieldLink RX5 22 "FavourRingsModel" "text" "[I") (List.mem_of_getElem? (i := 3) rfl)) (fun _ h9 => h9) rfl dX5_isAt_12 ?_
    refine lv_aload_n hx hb dX5_isAt_15 rfl (lv_at hl 0 rfl) ?_
    refine va_get (D := D) (ci := 5) (v := .int (vM 99 11)) (C := RX5) (T := TX5) (N := 18) hx hb hts iw_X5_isAt_X5 hown hK hP 0 rfl rfl 11 (by decide) (hts (.fieldLink RX5 150 "FavourRingsModel" "spot" "I") (List.mem_of_getElem? (i := 1) rfl)) (fun _ h9 => h9) rfl dX5_isAt_16 ?_
    obtain ⟨y2, ey2, h⟩ := bd_in h
    refine ldR hx hb hK hP 5 0 rfl rfl ey2 dX5_isAt_19 ?_
    refine lv_iload_n hx hb dX5_isAt_20 rfl (lv_at hl 1 rfl) ?_
    refine lv_iload_n hx hb dX5_isAt_21 rfl (lv_at hl 2 rfl) ?_
    obtain ⟨u3, eu3, h⟩ := bd_in h
    refine kI (va_runS (As := [.int y2, .int p1, .int p2]) (rest := []) ⟨hx, hb, hml, hown, hts⟩ (c_X5_in l D cA cQ  y2 p1 p2 u3 eu3 _) (va_cwS 3 hts gX5_isAt_X5_in rfl rfl rfl (by decide +kernel) ⟨Nat.le_of_ble_eq_true rfl, Nat.le_of_ble_eq_true rfl⟩) (pS hK hN hP hD [] rfl rfl) rfl rfl hl.1 rfl (lv_room (Nat.le_of_ble_eq_true rfl)) dX5_isAt_22 ⟨Nat.zero_le _, Nat.zero_le _⟩) hP hD hS hA [] rfl rfl (ws' := (wM cA adM vM)) rfl (fun H locs hP hD hS => ?_)
    refine lv_if_eq (tgt := 32) hx hb dX5_isAt_25 (by decide) (fun c4 => ?_) (fun c4 => ?_)
    · have h := (if_pos c4).symm.trans h
      refine lv_iconst (v := (0 : Int32)) hx hb dX5_isAt_32 (by decide) ?_
      cases h
      exact endZ hx hb hr hlocks hP hS ⟨rfl, rfl⟩ dX5_isAt_33
    · have h := (if_neg c4).symm.trans h
      refine lv_iconst (v := (1 : Int32)) hx hb dX5_isAt_28 (by decide) ?_
      refine lv_goto (tgt := 33) hx hb dX5_isAt_29 (by decide) ?_
      cases h
      exact endZ hx hb hr hlocks hP hS ⟨rfl, rfl⟩ dX5_isAt_33
set_option maxHeartbeats 4000000 in
set_option maxRecDepth 100000 in
theorem c_X5_numbersOf (l : Launch) (D : va_G) (cA cQ : ClassId) (p0 : Int32) (o : Int32) (hf : X5_numbersOf p0 = some o) : Cti l yX5_numbersOf wsX5_numbersOf ({ frames := 0, cells := 0, slots := 0, locals := 0 }) D (TY cA cQ) [.int p0] ([] : va_W) ([] : va_W) o := by
  refine Wk.i (cc := cX5_numbersOf) (maxL := 1) (ret := (some .int)) (by decide) rfl (Nat.le_of_ble_eq_true rfl) ?_
  intro p e s m below meth c A ls hx hb hr hlocks hml hown hts hK hN hP hD hA hl
  have hown : s.vm.findClass RX5 = some m.cls := hown
  have hS : va_S A s.heap s.heap [] := va_S.rf
  have hl : lv_has ls 1 [(0, .int p0)] := hl
  have h := hf
  unfold X5_numbersOf at h
  refine lv_iload_n hx hb dX5_numbersOf_0 rfl (lv_at hl 0 rfl) ?_
  by_cases c1 : p0 = (99 : Int32)
  · have h := (if_pos c1).symm.trans h
    refine lv_lookup (off := 63) (tgt := 64) hx hb dX5_numbersOf_1 (by decide +kernel) (by rw [c1]; decide +kernel) (by decide) ?_
    refine lv_iconst (v := (1 : Int32)) hx hb dX5_numbersOf_64 (by decide) ?_
    cases h
    exact endI hx hb hr hlocks hP hS rfl dX5_numbersOf_65
  have h := (if_neg c1).symm.trans h
  by_cases c2 : p0 = (100 : Int32)
  · have h := (if_pos c2).symm.trans h
    refine lv_lookup (off := 59) (tgt := 60) hx hb dX5_numbersOf_1 (by decide +kernel) (by rw [c2]; decide +kernel) (by decide) ?_
    refine lv_iconst (v := (4 : Int32)) hx hb dX5_numbersOf_60 (by decide) ?_
    cases h
    exact endI hx hb hr hlocks hP hS rfl dX5_numbersOf_61
  have h := (if_neg c2).symm.trans h
  by_cases c3 : p0 = (103 : Int32)
  · have h := (if_pos c3).symm.trans h
    refine lv_lookup (off := 61) (tgt := 62) hx hb dX5_numbersOf_1 (by decide +kernel) (by rw [c3]; decide +kernel) (by decide) ?_
    refine lv_iconst (v := (2 : Int32)) hx hb dX5_numbersOf_62 (by decide) ?_
    cases h
    exact endI hx hb hr hlocks hP hS rfl dX5_numbersOf_63
  have h := (if_neg c3).symm.trans h
  by_cases c4 : p0 = (104 : Int32)
  · have h := (if_pos c4).symm.trans h
    refine lv_lookup (off := 65) (tgt := 66) hx hb dX5_numbersOf_1 (by decide +kernel) (by rw [c4]; decide +kernel) (by decide) ?_
    refine lv_iconst (v := (0 : Int32)) hx hb dX5_numbersOf_66 (by decide) ?_
    cases h
    exact endI hx hb hr hlocks hP hS rfl dX5_numbersOf_67
  have h := (if_neg c4).symm.trans h
  by_cases c5 : p0 = (111 : Int32)
  · have h := (if_pos c5).symm.trans h
    refine lv_lookup (off := 59) (tgt := 60) hx hb dX5_numbersOf_1 (by decide +kernel) (by rw [c5]; decide +kernel) (by decide) ?_
    refine lv_iconst (v := (4 : Int32)) hx hb dX5_numbersOf_60 (by decide) ?_
    cases h
    exact endI hx hb hr hlocks hP hS rfl dX5_numbersOf_61
  have h := (if_neg c5).symm.trans h
  by_cases c6 : p0 = (119 : Int32)
  · have h := (if_pos c6).symm.trans h
    refine lv_lookup (off := 63) (tgt := 64) hx hb dX5_numbersOf_1 (by decide +kernel) (by rw [c6]; decide +kernel) (by decide) ?_
    refine lv_iconst (v := (1 : Int32)) hx hb dX5_numbersOf_64 (by decide) ?_
    cases h
    exact endI hx hb hr hlocks hP hS rfl dX5_numbersOf_65
  have h := (if_neg c6).symm.trans h
  have nc1 : (p0).toInt ≠ 99 := ne_toInt c1
  have nc2 : (p0).toInt ≠ 100 := ne_toInt c2
  have nc3 : (p0).toInt ≠ 103 := ne_toInt c3
  have nc4 : (p0).toInt ≠ 104 := ne_toInt c4
  have nc5 : (p0).toInt ≠ 111 := ne_toInt c5
  have nc6 : (p0).toInt ≠ 119 := ne_toInt c6
  refine lv_lookup (off := 67) (tgt := 68) hx hb dX5_numbersOf_1 (by decide +kernel) (by simp [Op.lookupswitch.offset, nc1.symm, nc2.symm, nc3.symm, nc4.symm, nc5.symm, nc6.symm]) (by decide) ?_
  refine lv_ldc (v := (-1000004 : Int32)) hx hb hown (hts (.constant RX5 57 (-1000004)) (List.mem_of_getElem? (i := 1) rfl)) dX5_numbersOf_68 ?_
  cases h
  exact endI hx hb hr hlocks hP hS rfl dX5_numbersOf_70
theorem iw_X5_numbered_X5 : ∀ w ∈ wsX50, w ∈ wsX5_numbered := fun _ h => List.mem_cons_of_mem _ (List.mem_append_right _ (h))
set_option maxHeartbeats 4000000 in
set_option maxRecDepth 100000 in
theorem c_X5_numbered (l : Launch) (D : va_G) (cA cQ : ClassId) (adM : Nat → Nat) (vM : St) (p1 : Int32) (o : Int32 × St) (hf : X5_numbered vM p1 = some o) : Cti l yX5_numbered wsX5_numbered ({ frames := 2, cells := 0, slots := 0, locals := 44 }) D (TY cA cQ) [.ref (adM 0), .int p1] (wM cA adM vM) (wM cA adM o.2) o.1 := by
  refine Wk.i (cc := cX5_numbered) (maxL := 3) (ret := (some .boolean)) (by decide) rfl (Nat.le_of_ble_eq_true rfl) ?_
  intro p e s m below meth c A ls hx hb hr hlocks hml hown hts hK hN hP hD hA hl
  have hown : s.vm.findClass RX5 = some m.cls := hown
  have hS : va_S A s.heap s.heap [] := va_S.rf
  have hl : lv_has ls 3 [(0, .ref (adM 0)), (1, .int p1)] := hl
  have B74 : ∀ (vM : St) (x2 : Int32) (H : Heap) (locs : List Loc) (ls : Array Slot), X5_numbered_b74 p1 vM x2 = some o → va_P D vwCl (wM cA adM vM) H → va_D A (wM cA adM vM) → va_S A s.heap H locs → lv_has ls 3 [(0, .ref (adM 0)), (2, .int x2)] → W p l e (headSpec wsX5_numbered ({ frames := 2, cells := 0, slots := 0, locals := 44 })).room s m ([.ref (adM 0), .int p1] : List Value).toArray below meth c H locs 0 0 (MQ below (QI D (wM cA adM o.2) o.1 A) ([.ref (adM 0), .int p1] : List Value).toArray s 0 0 A) (F0 m 74 ls []) := by
    intro vM x2 H locs ls h hP hD hS hl
    unfold X5_numbered_b74 at h
    refine lv_aload_n hx hb dX5_numbered_74 rfl (lv_at hl 0 rfl) ?_
    refine va_get (D := D) (ci := 5) (v := .int (vM 99 11)) (C := RX5) (T := TX5) (N := 18) hx hb hts iw_X5_numbered_X5 hown hK hP 0 rfl rfl 11 (by decide) (hts (.fieldLink RX5 150 "FavourRingsModel" "spot" "I") (List.mem_of_getElem? (i := 1) rfl)) (fun _ h9 => h9) rfl dX5_numbered_75 ?_
    refine lv_iload_n hx hb dX5_numbered_78 rfl (lv_at hl 1 rfl) ?_
    refine lv_icmp_le (tgt := 86) hx hb dX5_numbered_79 (by decide) (fun c1 => ?_) (fun c1 => ?_)
    · have h := (if_pos c1).symm.trans h
      refine lv_iconst (v := (0 : Int32)) hx hb dX5_numbered_86 (by decide) ?_
      cases h
      exact endZ hx hb hr hlocks hP hS ⟨rfl, rfl⟩ dX5_numbered_87
    · have h := (if_neg c1).symm.trans h
      refine lv_iconst (v := (1 : Int32)) hx hb dX5_numbered_82 (by decide) ?_
      refine lv_goto (tgt := 87) hx hb dX5_numbered_83 (by decide) ?_
      cases h
      exact endZ hx hb hr hlocks hP hS ⟨rfl, rfl⟩ dX5_numbered_87
  have B12 : ∀ (fu12 : Nat) (vM : St) (x2 : Int32) (H : Heap) (locs : List Loc) (ls : Array Slot), X5_numbered_l12 p1 fu12 vM x2 = some o → va_P D vwCl (wM cA adM vM) H → va_D A (wM cA adM vM) → va_S A s.heap H locs → lv_has ls 3 [(0, .ref (adM 0)), (1, .int p1), (2, .int x2)] → W p l e (headSpec wsX5_numbered ({ frames := 2, cells := 0, slots := 0, locals := 44 })).room s m ([.ref (adM 0), .int p1] : List Value).toArray below meth c H locs 0 0 (MQ below (QI D (wM cA adM o.2) o.1 A) ([.ref (adM 0), .int p1] : List Value).toArray s 0 0 A) (F0 m 12 ls []) := by
    intro fu12
    induction fu12 with
    | zero =>
      intro vM x2 H locs ls h hP hD hS hl
      cases h
    | succ fu12 ih12 =>
      intro vM x2 H locs ls h hP hD hS hl
      rw [X5_numbered_l12] at h
      refine lv_aload_n hx hb dX5_numbered_12 rfl (lv_at hl 0 rfl) ?_
      refine lv_bipush (v := (48 : Int32)) hx hb dX5_numbered_13 (by decide) ?_
      refine lv_bipush (v := (57 : Int32)) hx hb dX5_numbered_15 (by decide) ?_
      obtain ⟨u2, eu2, h⟩ := bd_in h
      refine kI (va_runV (As := [.int (48 : Int32), .int (57 : Int32)]) (rest := []) ⟨hx, hb, hml, hown, hts⟩ (c_X5_isAt l D cA cQ adM vM (48 : Int32) (57 : Int32) u2 eu2 _) (cwV 2 hts gX5_numbered_X5_isAt rfl rfl rfl (by decide +kernel) ⟨Nat.le_of_ble_eq_true rfl, Nat.le_of_ble_eq_true rfl⟩) (pV (ci := 5) (q := (RX5, TX5, 18)) hK hN hP hD [0, 1, 2, 3, 4, 5, 6, 7, 8, 9] rfl rfl rfl rfl) rfl rfl hl.1 rfl (lv_room (Nat.le_of_ble_eq_true rfl)) dX5_numbered_17 ⟨Nat.zero_le _, Nat.zero_le _⟩) hP hD hS hA [0, 1, 2, 3, 4, 5, 6, 7, 8, 9] rfl rfl (ws' := (wM cA adM vM)) rfl (fun H locs hP hD hS => ?_)
      refine lv_if_eq (tgt := 74) hx hb dX5_numbered_20 (by decide) (fun c3 => ?_) (fun c3 => ?_)
      · have h := (if_pos c3).symm.trans h
        exact B74 vM x2 _ _ _ h hP hD hS (lv_sub hl [0, 2] rfl)
      · have h := (if_neg c3).symm.trans h
        refine lv_aload_n hx hb dX5_numbered_23 rfl (lv_at hl 0 rfl) ?_
        refine va_get (D := D) (ci := 5) (v := .int (vM 99 11)) (C := RX5) (T := TX5) (N := 18) hx hb hts iw_X5_numbered_X5 hown hK hP 0 rfl rfl 11 (by decide) (hts (.fieldLink RX5 150 "FavourRingsModel" "spot" "I") (List.mem_of_getElem? (i := 1) rfl)) (fun _ h9 => h9) rfl dX5_numbered_24 ?_
        refine lv_iload_n hx hb dX5_numbered_27 rfl (lv_at hl 2 rfl) ?_
        refine lv_isub hx hb dX5_numbered_28 ?_
        refine lv_iconst (v := (2 : Int32)) hx hb dX5_numbered_29 (by decide) ?_
        refine lv_icmp_ge (tgt := 74) hx hb dX5_numbered_30 (by decide) (fun c4 => ?_) (fun c4 => ?_)
        · have h := (if_pos c4).symm.trans h
          exact B74 vM x2 _ _ _ h hP hD hS (lv_sub hl [0, 2] rfl)
        · have h := (if_neg c4).symm.trans h
          refine lv_aload_n hx hb dX5_numbered_33 rfl (lv_at hl 0 rfl) ?_
          refine va_get (D := D) (ci := 5) (v := .ref (adM 18)) (C := RX5) (T := TX5) (N := 18) hx hb hts iw_X5_numbered_X5 hown hK hP 0 rfl rfl 17 (by decide) (hts (.fieldLink RX5 34 "FavourRingsModel" "numbers" "[I") (List.mem_of_getElem? (i := 2) rfl)) (fun _ h9 => h9) rfl dX5_numbered_34 ?_
          refine lv_iload_n hx hb dX5_numbered_37 rfl (lv_at hl 1 rfl) ?_
          refine lv_bipush (v := (10 : Int32)) hx hb dX5_numbered_38 (by decide) ?_
          refine lv_aload_n hx hb dX5_numbered_40 rfl (lv_at hl 0 rfl) ?_
          refine va_get (D := D) (ci := 5) (v := .ref (adM 18)) (C := RX5) (T := TX5) (N := 18) hx hb hts iw_X5_numbered_X5 hown hK hP 0 rfl rfl 17 (by decide) (hts (.fieldLink RX5 34 "FavourRingsModel" "numbers" "[I") (List.mem_of_getElem? (i := 2) rfl)) (fun _ h9 => h9) rfl dX5_numbered_41 ?_
          refine lv_iload_n hx hb dX5_numbered_44 rfl (lv_at hl 1 rfl) ?_
          obtain ⟨y5, ey5, h⟩ := bd_in h
          refine ldR hx hb hK hP 9 0 rfl rfl ey5 dX5_numbered_45 ?_
          refine lv_imul hx hb dX5_numbered_46 ?_
          refine lv_aload_n hx hb dX5_numbered_47 rfl (lv_at hl 0 rfl) ?_
          refine va_get (D := D) (ci := 5) (v := .ref (adM 7)) (C := RX5) (T := TX5) (N := 18) hx hb hts iw_X5_numbered_X5 hown hK hP 0 rfl rfl 6 (by decide) (hts (.fieldLink RX5 22 "FavourRingsModel" "text" "[I") (List.mem_of_getElem? (i := 3) rfl)) (fun _ h9 => h9) rfl dX5_numbered_48 ?_
          refine lv_aload_n hx hb dX5_numbered_51 rfl (lv_at hl 0 rfl) ?_
          refine va_get (D := D) (ci := 5) (v := .int (vM 99 11)) (C := RX5) (T := TX5) (N := 18) hx hb hts iw_X5_numbered_X5 hown hK hP 0 rfl rfl 11 (by decide) (hts (.fieldLink RX5 150 "FavourRingsModel" "spot" "I") (List.mem_of_getElem? (i := 1) rfl)) (fun _ h9 => h9) rfl dX5_numbered_52 ?_
          obtain ⟨y6, ey6, h⟩ := bd_in h
          refine ldR hx hb hK hP 5 0 rfl rfl ey6 dX5_numbered_55 ?_
          refine lv_iadd hx hb dX5_numbered_56 ?_
          refine lv_bipush (v := (48 : Int32)) hx hb dX5_numbered_57 (by decide) ?_
          refine lv_isub hx hb dX5_numbered_59 ?_
          obtain ⟨g7, eg7, h⟩ := bd_in h
          refine stR hx hb hK hP hD hS 9 0 rfl rfl eg7 (ws' := (wM cA adM (setA vM 18 g7))) rfl dX5_numbered_60 (fun H locs hP hD hS => ?_)
          refine lv_aload_n hx hb dX5_numbered_61 rfl (lv_at hl 0 rfl) ?_
          refine lv_dup hx hb dX5_numbered_62 rfl ?_
          refine va_get (D := D) (ci := 5) (v := .int (vM 99 11)) (C := RX5) (T := TX5) (N := 18) hx hb hts iw_X5_numbered_X5 hown hK hP 0 rfl rfl 11 (by decide) (hts (.fieldLink RX5 150 "FavourRingsModel" "spot" "I") (List.mem_of_getElem? (i := 1) rfl)) (fun _ h9 => h9) rfl dX5_numbered_63 ?_
          refine lv_iconst (v := (1 : Int32)) hx hb dX5_numbered_66 (by decide) ?_
          refine lv_iadd hx hb dX5_numbered_67 ?_
          refine ptR (ci := 5) (v := .int ((vM 99 11) + (1 : Int32))) (ty := .int) (C := RX5) (T := TX5) (N := 18) hx hb hts iw_X5_numbered_X5 tyX5 tyX5_ok nmX5 hown hK hP hD hS 0 rfl rfl 11 (by decide) (hts (.fieldLink RX5 150 "FavourRingsModel" "spot" "I") (List.mem_of_getElem? (i := 1) rfl)) (fun _ h9 => h9) rfl (by decide +kernel) rfl rfl (Nat.le_of_ble_eq_true rfl) (ws' := (wM cA adM (setI (setA vM 18 g7) 11 ((vM 99 11) + (1 : Int32))))) rfl dX5_numbered_68 (fun H locs hP hD hS => ?_)
          refine lv_goto (tgt := 12) hx hb dX5_numbered_71 (by decide) ?_
          exact ih12 (setI (setA vM 18 g7) 11 ((vM 99 11) + (1 : Int32))) x2 _ _ _ h hP hD hS (lv_sub hl [0, 1, 2] rfl)
  have h := hf
  unfold X5_numbered at h
  refine lv_aload_n hx hb dX5_numbered_0 rfl (lv_at hl 0 rfl) ?_
  refine va_get (D := D) (ci := 5) (v := .int (vM 99 11)) (C := RX5) (T := TX5) (N := 18) hx hb hts iw_X5_numbered_X5 hown hK hP 0 rfl rfl 11 (by decide) (hts (.fieldLink RX5 150 "FavourRingsModel" "spot" "I") (List.mem_of_getElem? (i := 1) rfl)) (fun _ h9 => h9) rfl dX5_numbered_1 ?_
  refine lv_istore_n (lv' := [(2, .int (vM 99 11)), (0, .ref (adM 0)), (1, .int p1)]) hx hb dX5_numbered_4 rfl hl (by decide) rfl (fun ls hl => ?_)
  refine lv_aload_n hx hb dX5_numbered_5 rfl (lv_at hl 1 rfl) ?_
  refine va_get (D := D) (ci := 5) (v := .ref (adM 18)) (C := RX5) (T := TX5) (N := 18) hx hb hts iw_X5_numbered_X5 hown hK hP 0 rfl rfl 17 (by decide) (hts (.fieldLink RX5 34 "FavourRingsModel" "numbers" "[I") (List.mem_of_getElem? (i := 2) rfl)) (fun _ h9 => h9) rfl dX5_numbered_6 ?_
  refine lv_iload_n hx hb dX5_numbered_9 rfl (lv_at hl 2 rfl) ?_
  refine lv_iconst (v := (0 : Int32)) hx hb dX5_numbered_10 (by decide) ?_
  obtain ⟨g8, eg8, h⟩ := bd_in h
  refine stR hx hb hK hP hD hS 9 0 rfl rfl eg8 (ws' := (wM cA adM (setA vM 18 g8))) rfl dX5_numbered_11 (fun H locs hP hD hS => ?_)
  exact B12 FU (setA vM 18 g8) (vM 99 11) _ _ _ h hP hD hS (lv_sub hl [1, 2, 0] rfl)
theorem iw_X5_sign_X5 : ∀ w ∈ wsX50, w ∈ wsX5_sign := fun _ h => List.mem_cons_of_mem _ (List.mem_append_right _ (h))
set_option maxHeartbeats 4000000 in
set_option maxRecDepth 100000 in
theorem c_X5_sign (l : Launch) (D : va_G) (cA cQ : ClassId) (adM : Nat → Nat) (vM : St) (p1 : Int32) (o : Int32 × St) (hf : X5_sign vM p1 = some o) : Cti l yX5_sign wsX5_sign ({ frames := 2, cells := 0, slots := 0, locals := 44 }) D (TY cA cQ) [.ref (adM 0), .int p1] (wM cA adM vM) (wM cA adM o.2) o.1 := by
  refine Wk.i (cc := cX5_sign) (maxL := 3) (ret := (some .boolean)) (by decide) rfl (Nat.le_of_ble_eq_true rfl) ?_
  intro p e s m below meth c A ls hx hb hr hlocks hml hown hts hK hN hP hD hA hl
  have hown : s.vm.findClass RX5 = some m.cls := hown
  have hS : va_S A s.heap s.heap [] := va_S.rf
  have hl : lv_has ls 3 [(0, .ref (adM 0)), (1, .int p1)] := hl
  have h := hf
  unfold X5_sign at h
  refine lv_aload_n hx hb dX5_sign_0 rfl (lv_at hl 0 rfl) ?_
  refine lv_iload_n hx hb dX5_sign_1 rfl (lv_at hl 1 rfl) ?_
  refine lv_iload_n hx hb dX5_sign_2 rfl (lv_at hl 1 rfl) ?_
  obtain ⟨u1, eu1, h⟩ := bd_in h
  refine kI (va_runV (As := [.int p1, .int p1]) (rest := []) ⟨hx, hb, hml, hown, hts⟩ (c_X5_isAt l D cA cQ adM vM p1 p1 u1 eu1 _) (cwV 2 hts gX5_sign_X5_isAt rfl rfl rfl (by decide +kernel) ⟨Nat.le_of_ble_eq_true rfl, Nat.le_of_ble_eq_true rfl⟩) (pV (ci := 5) (q := (RX5, TX5, 18)) hK hN hP hD [0, 1, 2, 3, 4, 5, 6, 7, 8, 9] rfl rfl rfl rfl) rfl rfl hl.1 rfl (lv_room (Nat.le_of_ble_eq_true rfl)) dX5_sign_3 ⟨Nat.zero_le _, Nat.zero_le _⟩) hP hD hS hA [0, 1, 2, 3, 4, 5, 6, 7, 8, 9] rfl rfl (ws' := (wM cA adM vM)) rfl (fun H locs hP hD hS => ?_)
  refine lv_istore_n (lv' := [(2, .int u1), (0, .ref (adM 0)), (1, .int p1)]) hx hb dX5_sign_6 rfl hl (by decide) rfl (fun ls hl => ?_)
  refine lv_aload_n hx hb dX5_sign_7 rfl (lv_at hl 1 rfl) ?_
  refine lv_dup hx hb dX5_sign_8 rfl ?_
  refine va_get (D := D) (ci := 5) (v := .int (vM 99 11)) (C := RX5) (T := TX5) (N := 18) hx hb hts iw_X5_sign_X5 hown hK hP 0 rfl rfl 11 (by decide) (hts (.fieldLink RX5 150 "FavourRingsModel" "spot" "I") (List.mem_of_getElem? (i := 1) rfl)) (fun _ h9 => h9) rfl dX5_sign_9 ?_
  refine lv_iload_n hx hb dX5_sign_12 rfl (lv_at hl 0 rfl) ?_
  refine lv_if_eq (tgt := 20) hx hb dX5_sign_13 (by decide) (fun c2 => ?_) (fun c2 => ?_)
  · have h := (if_pos c2).symm.trans h
    refine lv_iconst (v := (0 : Int32)) hx hb dX5_sign_20 (by decide) ?_
    refine lv_iadd hx hb dX5_sign_21 ?_
    refine ptR (ci := 5) (v := .int ((vM 99 11) + (0 : Int32))) (ty := .int) (C := RX5) (T := TX5) (N := 18) hx hb hts iw_X5_sign_X5 tyX5 tyX5_ok nmX5 hown hK hP hD hS 0 rfl rfl 11 (by decide) (hts (.fieldLink RX5 150 "FavourRingsModel" "spot" "I") (List.mem_of_getElem? (i := 1) rfl)) (fun _ h9 => h9) rfl (by decide +kernel) rfl rfl (Nat.le_of_ble_eq_true rfl) (ws' := (wM cA adM (setI vM 11 ((vM 99 11) + (0 : Int32))))) rfl dX5_sign_22 (fun H locs hP hD hS => ?_)
    refine lv_iload_n hx hb dX5_sign_25 rfl (lv_at hl 0 rfl) ?_
    obtain ⟨b3, eb3, h⟩ := bd_in h
    cases h
    exact endZ hx hb hr hlocks hP hS (zb_in eb3) dX5_sign_26
  · have h := (if_neg c2).symm.trans h
    refine lv_iconst (v := (1 : Int32)) hx hb dX5_sign_16 (by decide) ?_
    refine lv_goto (tgt := 21) hx hb dX5_sign_17 (by decide) ?_
    refine lv_iadd hx hb dX5_sign_21 ?_
    refine ptR (ci := 5) (v := .int ((vM 99 11) + (1 : Int32))) (ty := .int) (C := RX5) (T := TX5) (N := 18) hx hb hts iw_X5_sign_X5 tyX5 tyX5_ok nmX5 hown hK hP hD hS 0 rfl rfl 11 (by decide) (hts (.fieldLink RX5 150 "FavourRingsModel" "spot" "I") (List.mem_of_getElem? (i := 1) rfl)) (fun _ h9 => h9) rfl (by decide +kernel) rfl rfl (Nat.le_of_ble_eq_true rfl) (ws' := (wM cA adM (setI vM 11 ((vM 99 11) + (1 : Int32))))) rfl dX5_sign_22 (fun H locs hP hD hS => ?_)
    refine lv_iload_n hx hb dX5_sign_25 rfl (lv_at hl 0 rfl) ?_
    obtain ⟨b4, eb4, h⟩ := bd_in h
    cases h
    exact endZ hx hb hr hlocks hP hS (zb_in eb4) dX5_sign_26
theorem iw_X5_parses_X5 : ∀ w ∈ wsX50, w ∈ wsX5_parses := fun _ h => List.mem_cons_of_mem _ (List.mem_append_right _ (h))
set_option maxHeartbeats 4000000 in
set_option maxRecDepth 100000 in
theorem c_X5_parses (l : Launch) (D : va_G) (cA cQ : ClassId) (adM : Nat → Nat) (vM : St) (o : Int32 × St) (hf : X5_parses vM = some o) : Cti l yX5_parses wsX5_parses ({ frames := 3, cells := 0, slots := 0, locals := 66 }) D (TY cA cQ) [.ref (adM 0)] (wM cA adM vM) (wM cA adM o.2) o.1 := by
  refine Wk.i (cc := cX5_parses) (maxL := 4) (ret := (some .boolean)) (by decide) rfl (Nat.le_of_ble_eq_true rfl) ?_
  intro p e s m below meth c A ls hx hb hr hlocks hml hown hts hK hN hP hD hA hl
  have hown : s.vm.findClass RX5 = some m.cls := hown
  have hS : va_S A s.heap s.heap [] := va_S.rf
  have hl : lv_has ls 4 [(0, .ref (adM 0))] := hl
  have B110 : ∀ (vM : St) (x2 : Int32) (H : Heap) (locs : List Loc) (ls : Array Slot), X5_parses_b110 vM x2 = some o → va_P D vwCl (wM cA adM vM) H → va_D A (wM cA adM vM) → va_S A s.heap H locs → lv_has ls 4 [(0, .ref (adM 0)), (2, .int x2)] → W p l e (headSpec wsX5_parses ({ frames := 3, cells := 0, slots := 0, locals := 66 })).room s m ([.ref (adM 0)] : List Value).toArray below meth c H locs 0 0 (MQ below (QI D (wM cA adM o.2) o.1 A) ([.ref (adM 0)] : List Value).toArray s 0 0 A) (F0 m 110 ls []) := by
    intro vM x2 H locs ls h hP hD hS hl
    unfold X5_parses_b110 at h
    refine lv_iload_n hx hb dX5_parses_110 rfl (lv_at hl 1 rfl) ?_
    refine lv_if_eq (tgt := 127) hx hb dX5_parses_111 (by decide) (fun c1 => ?_) (fun c1 => ?_)
    · have h := (if_pos c1).symm.trans h
      refine lv_iconst (v := (0 : Int32)) hx hb dX5_parses_127 (by decide) ?_
      cases h
      exact endZ hx hb hr hlocks hP hS ⟨rfl, rfl⟩ dX5_parses_128
    · have h := (if_neg c1).symm.trans h
      refine lv_aload_n hx hb dX5_parses_114 rfl (lv_at hl 0 rfl) ?_
      refine lv_bipush (v := (59 : Int32)) hx hb dX5_parses_115 (by decide) ?_
      obtain ⟨u2, eu2, h⟩ := bd_in h
      refine kI (va_runV (As := [.int (59 : Int32)]) (rest := []) ⟨hx, hb, hml, hown, hts⟩ (c_X5_sign l D cA cQ adM vM (59 : Int32) u2 eu2 _) (cwV 1 hts gX5_parses_X5_sign rfl rfl rfl (by decide +kernel) ⟨Nat.le_of_ble_eq_true rfl, Nat.le_of_ble_eq_true rfl⟩) (pV (ci := 5) (q := (RX5, TX5, 18)) hK hN hP hD [0, 1, 2, 3, 4, 5, 6, 7, 8, 9] rfl rfl rfl rfl) rfl rfl hl.1 rfl (lv_room (Nat.le_of_ble_eq_true rfl)) dX5_parses_117 ⟨Nat.zero_le _, Nat.zero_le _⟩) hP hD hS hA [0, 1, 2, 3, 4, 5, 6, 7, 8, 9] rfl rfl (ws' := (wM cA adM u2.2)) rfl (fun H locs hP hD hS => ?_)
      refine lv_if_eq (tgt := 127) hx hb dX5_parses_120 (by decide) (fun c3 => ?_) (fun c3 => ?_)
      · have h := (if_pos c3).symm.trans h
        refine lv_iconst (v := (0 : Int32)) hx hb dX5_parses_127 (by decide) ?_
        cases h
        exact endZ hx hb hr hlocks hP hS ⟨rfl, rfl⟩ dX5_parses_128
      · have h := (if_neg c3).symm.trans h
        refine lv_iconst (v := (1 : Int32)) hx hb dX5_parses_123 (by decide) ?_
        refine lv_goto (tgt := 128) hx hb dX5_parses_124 (by decide) ?_
        cases h
        exact endZ hx hb hr hlocks hP hS ⟨rfl, rfl⟩ dX5_parses_128
  have B72 : ∀ (fu72 : Nat) (vM : St) (x1 : Int32) (x2 : Int32) (x3 : Int32) (H : Heap) (locs : List Loc) (ls : Array Slot), X5_parses_l72 fu72 vM x1 x2 x3 = some o → va_P D vwCl (wM cA adM vM) H → va_D A (wM cA adM vM) → va_S A s.heap H locs → lv_has ls 4 [(0, .ref (adM 0)), (1, .int x1), (2, .int x2), (3, .int x3)] → W p l e (headSpec wsX5_parses ({ frames := 3, cells := 0, slots := 0, locals := 66 })).room s m ([.ref (adM 0)] : List Value).toArray below meth c H locs 0 0 (MQ below (QI D (wM cA adM o.2) o.1 A) ([.ref (adM 0)] : List Value).toArray s 0 0 A) (F0 m 72 ls []) := by
    intro fu72
    induction fu72 with
    | zero =>
      intro vM x1 x2 x3 H locs ls h hP hD hS hl
      cases h
    | succ fu72 ih72 =>
      intro vM x1 x2 x3 H locs ls h hP hD hS hl
      rw [X5_parses_l72] at h
      refine lv_iload_n hx hb dX5_parses_72 rfl (lv_at hl 3 rfl) ?_
      refine lv_iload_n hx hb dX5_parses_73 rfl (lv_at hl 1 rfl) ?_
      refine lv_icmp_ge (tgt := 110) hx hb dX5_parses_74 (by decide) (fun c4 => ?_) (fun c4 => ?_)
      · have h := (if_pos c4).symm.trans h
        exact B110 vM x2 _ _ _ h hP hD hS (lv_sub hl [0, 2] rfl)
      · have h := (if_neg c4).symm.trans h
        refine lv_iload_n hx hb dX5_parses_77 rfl (lv_at hl 2 rfl) ?_
        refine lv_if_eq (tgt := 110) hx hb dX5_parses_78 (by decide) (fun c5 => ?_) (fun c5 => ?_)
        · have h := (if_pos c5).symm.trans h
          exact B110 vM x2 _ _ _ h hP hD hS (lv_sub hl [0, 2] rfl)
        · have h := (if_neg c5).symm.trans h
          refine lv_aload_n hx hb dX5_parses_81 rfl (lv_at hl 0 rfl) ?_
          refine lv_bipush (v := (44 : Int32)) hx hb dX5_parses_82 (by decide) ?_
          obtain ⟨u6, eu6, h⟩ := bd_in h
          refine kI (va_runV (As := [.int (44 : Int32)]) (rest := []) ⟨hx, hb, hml, hown, hts⟩ (c_X5_sign l D cA cQ adM vM (44 : Int32) u6 eu6 _) (cwV 1 hts gX5_parses_X5_sign rfl rfl rfl (by decide +kernel) ⟨Nat.le_of_ble_eq_true rfl, Nat.le_of_ble_eq_true rfl⟩) (pV (ci := 5) (q := (RX5, TX5, 18)) hK hN hP hD [0, 1, 2, 3, 4, 5, 6, 7, 8, 9] rfl rfl rfl rfl) rfl rfl hl.1 rfl (lv_room (Nat.le_of_ble_eq_true rfl)) dX5_parses_84 ⟨Nat.zero_le _, Nat.zero_le _⟩) hP hD hS hA [0, 1, 2, 3, 4, 5, 6, 7, 8, 9] rfl rfl (ws' := (wM cA adM u6.2)) rfl (fun H locs hP hD hS => ?_)
          refine lv_if_eq (tgt := 102) hx hb dX5_parses_87 (by decide) (fun c7 => ?_) (fun c7 => ?_)
          · have h := (if_pos c7).symm.trans h
            refine lv_iconst (v := (0 : Int32)) hx hb dX5_parses_102 (by decide) ?_
            refine lv_istore_n (lv' := [(2, .int (0 : Int32)), (0, .ref (adM 0)), (1, .int x1), (3, .int x3)]) hx hb dX5_parses_103 rfl hl (by decide) rfl (fun ls hl => ?_)
            refine lv_iinc (v := (x3 + (1 : Int32))) (lv' := [(3, .int (x3 + (1 : Int32))), (2, .int (0 : Int32)), (0, .ref (adM 0)), (1, .int x1)]) hx hb dX5_parses_104 hl (k := 3) rfl rfl (by decide) rfl (fun ls hl => ?_)
            refine lv_goto (tgt := 72) hx hb dX5_parses_107 (by decide) ?_
            exact ih72 u6.2 x1 (0 : Int32) (x3 + (1 : Int32)) _ _ _ h hP hD hS (lv_sub hl [2, 3, 1, 0] rfl)
          · have h := (if_neg c7).symm.trans h
            refine lv_aload_n hx hb dX5_parses_90 rfl (lv_at hl 0 rfl) ?_
            refine lv_iload_n hx hb dX5_parses_91 rfl (lv_at hl 3 rfl) ?_
            obtain ⟨u8, eu8, h⟩ := bd_in h
            refine kI (va_runV (As := [.int x3]) (rest := []) ⟨hx, hb, hml, hown, hts⟩ (c_X5_numbered l D cA cQ adM u6.2 x3 u8 eu8 _) (cwV 1 hts gX5_parses_X5_numbered rfl rfl rfl (by decide +kernel) ⟨Nat.le_of_ble_eq_true rfl, Nat.le_of_ble_eq_true rfl⟩) (pV (ci := 5) (q := (RX5, TX5, 18)) hK hN hP hD [0, 1, 2, 3, 4, 5, 6, 7, 8, 9] rfl rfl rfl rfl) rfl rfl hl.1 rfl (lv_room (Nat.le_of_ble_eq_true rfl)) dX5_parses_92 ⟨Nat.zero_le _, Nat.zero_le _⟩) hP hD hS hA [0, 1, 2, 3, 4, 5, 6, 7, 8, 9] rfl rfl (ws' := (wM cA adM u8.2)) rfl (fun H locs hP hD hS => ?_)
            refine lv_if_eq (tgt := 102) hx hb dX5_parses_95 (by decide) (fun c9 => ?_) (fun c9 => ?_)
            · have h := (if_pos c9).symm.trans h
              refine lv_iconst (v := (0 : Int32)) hx hb dX5_parses_102 (by decide) ?_
              refine lv_istore_n (lv' := [(2, .int (0 : Int32)), (0, .ref (adM 0)), (1, .int x1), (3, .int x3)]) hx hb dX5_parses_103 rfl hl (by decide) rfl (fun ls hl => ?_)
              refine lv_iinc (v := (x3 + (1 : Int32))) (lv' := [(3, .int (x3 + (1 : Int32))), (2, .int (0 : Int32)), (0, .ref (adM 0)), (1, .int x1)]) hx hb dX5_parses_104 hl (k := 3) rfl rfl (by decide) rfl (fun ls hl => ?_)
              refine lv_goto (tgt := 72) hx hb dX5_parses_107 (by decide) ?_
              exact ih72 u8.2 x1 (0 : Int32) (x3 + (1 : Int32)) _ _ _ h hP hD hS (lv_sub hl [2, 3, 1, 0] rfl)
            · have h := (if_neg c9).symm.trans h
              refine lv_iconst (v := (1 : Int32)) hx hb dX5_parses_98 (by decide) ?_
              refine lv_goto (tgt := 103) hx hb dX5_parses_99 (by decide) ?_
              refine lv_istore_n (lv' := [(2, .int (1 : Int32)), (0, .ref (adM 0)), (1, .int x1), (3, .int x3)]) hx hb dX5_parses_103 rfl hl (by decide) rfl (fun ls hl => ?_)
              refine lv_iinc (v := (x3 + (1 : Int32))) (lv' := [(3, .int (x3 + (1 : Int32))), (2, .int (1 : Int32)), (0, .ref (adM 0)), (1, .int x1)]) hx hb dX5_parses_104 hl (k := 3) rfl rfl (by decide) rfl (fun ls hl => ?_)
              refine lv_goto (tgt := 72) hx hb dX5_parses_107 (by decide) ?_
              exact ih72 u8.2 x1 (1 : Int32) (x3 + (1 : Int32)) _ _ _ h hP hD hS (lv_sub hl [2, 3, 1, 0] rfl)
  have B25 : ∀ (vM : St) (t1 : Int32) (H : Heap) (locs : List Loc) (ls : Array Slot), X5_parses_b25 vM t1 = some o → va_P D vwCl (wM cA adM vM) H → va_D A (wM cA adM vM) → va_S A s.heap H locs → lv_has ls 4 [(0, .ref (adM 0))] → W p l e (headSpec wsX5_parses ({ frames := 3, cells := 0, slots := 0, locals := 66 })).room s m ([.ref (adM 0)] : List Value).toArray below meth c H locs 0 0 (MQ below (QI D (wM cA adM o.2) o.1 A) ([.ref (adM 0)] : List Value).toArray s 0 0 A) (F0 m 25 ls [.int t1, .ref (adM 0)]) := by
    intro vM t1 H locs ls h hP hD hS hl
    unfold X5_parses_b25 at h
    refine ptR (ci := 5) (v := .int t1) (ty := .int) (C := RX5) (T := TX5) (N := 18) hx hb hts iw_X5_parses_X5 tyX5 tyX5_ok nmX5 hown hK hP hD hS 0 rfl rfl 16 (by decide) (hts (.fieldLink RX5 156 "FavourRingsModel" "order" "I") (List.mem_of_getElem? (i := 3) rfl)) (fun _ h9 => h9) rfl (by decide +kernel) rfl rfl (Nat.le_of_ble_eq_true rfl) (ws' := (wM cA adM (setI vM 16 t1))) rfl dX5_parses_25 (fun H locs hP hD hS => ?_)
    refine lv_aload_n hx hb dX5_parses_28 rfl (lv_at hl 0 rfl) ?_
    refine va_get (D := D) (ci := 5) (v := .int t1) (C := RX5) (T := TX5) (N := 18) hx hb hts iw_X5_parses_X5 hown hK hP 0 rfl rfl 16 (by decide) (hts (.fieldLink RX5 156 "FavourRingsModel" "order" "I") (List.mem_of_getElem? (i := 3) rfl)) (fun _ h9 => h9) rfl dX5_parses_29 ?_
    obtain ⟨u10, eu10, h⟩ := bd_in h
    refine kI (va_runS (As := [.int t1]) (rest := []) ⟨hx, hb, hml, hown, hts⟩ (c_X5_numbersOf l D cA cQ  t1 u10 eu10 _) (va_cwS 1 hts gX5_parses_X5_numbersOf rfl rfl rfl (by decide +kernel) ⟨Nat.le_of_ble_eq_true rfl, Nat.le_of_ble_eq_true rfl⟩) (pS hK hN hP hD [] rfl rfl) rfl rfl hl.1 rfl (lv_room (Nat.le_of_ble_eq_true rfl)) dX5_parses_32 ⟨Nat.zero_le _, Nat.zero_le _⟩) hP hD hS hA [] rfl rfl (ws' := (wM cA adM (setI vM 16 t1))) rfl (fun H locs hP hD hS => ?_)
    refine lv_istore_n (lv' := [(1, .int u10), (0, .ref (adM 0))]) hx hb dX5_parses_35 rfl hl (by decide) rfl (fun ls hl => ?_)
    refine lv_iload_n hx hb dX5_parses_36 rfl (lv_at hl 0 rfl) ?_
    refine lv_if_ge (tgt := 42) hx hb dX5_parses_37 (by decide) (fun c11 => ?_) (fun c11 => ?_)
    · have h := (if_pos c11).symm.trans h
      refine lv_aload_n hx hb dX5_parses_42 rfl (lv_at hl 1 rfl) ?_
      refine lv_dup hx hb dX5_parses_43 rfl ?_
      refine va_get (D := D) (ci := 5) (v := .int (vM 99 11)) (C := RX5) (T := TX5) (N := 18) hx hb hts iw_X5_parses_X5 hown hK hP 0 rfl rfl 11 (by decide) (hts (.fieldLink RX5 150 "FavourRingsModel" "spot" "I") (List.mem_of_getElem? (i := 2) rfl)) (fun _ h9 => h9) rfl dX5_parses_44 ?_
      refine lv_iconst (v := (1 : Int32)) hx hb dX5_parses_47 (by decide) ?_
      refine lv_iadd hx hb dX5_parses_48 ?_
      refine ptR (ci := 5) (v := .int ((vM 99 11) + (1 : Int32))) (ty := .int) (C := RX5) (T := TX5) (N := 18) hx hb hts iw_X5_parses_X5 tyX5 tyX5_ok nmX5 hown hK hP hD hS 0 rfl rfl 11 (by decide) (hts (.fieldLink RX5 150 "FavourRingsModel" "spot" "I") (List.mem_of_getElem? (i := 2) rfl)) (fun _ h9 => h9) rfl (by decide +kernel) rfl rfl (Nat.le_of_ble_eq_true rfl) (ws' := (wM cA adM (setI (setI vM 16 t1) 11 ((vM 99 11) + (1 : Int32))))) rfl dX5_parses_49 (fun H locs hP hD hS => ?_)
      refine lv_iload_n hx hb dX5_parses_52 rfl (lv_at hl 0 rfl) ?_
      refine lv_if_eq (tgt := 64) hx hb dX5_parses_53 (by decide) (fun c12 => ?_) (fun c12 => ?_)
      · have h := (if_pos c12).symm.trans h
        refine lv_iconst (v := (1 : Int32)) hx hb dX5_parses_64 (by decide) ?_
        refine lv_goto (tgt := 69) hx hb dX5_parses_65 (by decide) ?_
        refine lv_istore_n (lv' := [(2, .int (1 : Int32)), (1, .int u10), (0, .ref (adM 0))]) hx hb dX5_parses_69 rfl hl (by decide) rfl (fun ls hl => ?_)
        refine lv_iconst (v := (1 : Int32)) hx hb dX5_parses_70 (by decide) ?_
        refine lv_istore_n (lv' := [(3, .int (1 : Int32)), (2, .int (1 : Int32)), (1, .int u10), (0, .ref (adM 0))]) hx hb dX5_parses_71 rfl hl (by decide) rfl (fun ls hl => ?_)
        exact B72 FU (setI (setI vM 16 t1) 11 ((vM 99 11) + (1 : Int32))) u10 (1 : Int32) (1 : Int32) _ _ _ h hP hD hS (lv_sub hl [3, 2, 1, 0] rfl)
      · have h := (if_neg c12).symm.trans h
        refine lv_aload_n hx hb dX5_parses_56 rfl (lv_at hl 1 rfl) ?_
        refine lv_iconst (v := (0 : Int32)) hx hb dX5_parses_57 (by decide) ?_
        obtain ⟨u13, eu13, h⟩ := bd_in h
        refine kI (va_runV (As := [.int (0 : Int32)]) (rest := []) ⟨hx, hb, hml, hown, hts⟩ (c_X5_numbered l D cA cQ adM (setI (setI vM 16 t1) 11 ((vM 99 11) + (1 : Int32))) (0 : Int32) u13 eu13 _) (cwV 1 hts gX5_parses_X5_numbered rfl rfl rfl (by decide +kernel) ⟨Nat.le_of_ble_eq_true rfl, Nat.le_of_ble_eq_true rfl⟩) (pV (ci := 5) (q := (RX5, TX5, 18)) hK hN hP hD [0, 1, 2, 3, 4, 5, 6, 7, 8, 9] rfl rfl rfl rfl) rfl rfl hl.1 rfl (lv_room (Nat.le_of_ble_eq_true rfl)) dX5_parses_58 ⟨Nat.zero_le _, Nat.zero_le _⟩) hP hD hS hA [0, 1, 2, 3, 4, 5, 6, 7, 8, 9] rfl rfl (ws' := (wM cA adM u13.2)) rfl (fun H locs hP hD hS => ?_)
        refine lv_if_eq (tgt := 68) hx hb dX5_parses_61 (by decide) (fun c14 => ?_) (fun c14 => ?_)
        · have h := (if_pos c14).symm.trans h
          refine lv_iconst (v := (0 : Int32)) hx hb dX5_parses_68 (by decide) ?_
          refine lv_istore_n (lv' := [(2, .int (0 : Int32)), (1, .int u10), (0, .ref (adM 0))]) hx hb dX5_parses_69 rfl hl (by decide) rfl (fun ls hl => ?_)
          refine lv_iconst (v := (1 : Int32)) hx hb dX5_parses_70 (by decide) ?_
          refine lv_istore_n (lv' := [(3, .int (1 : Int32)), (2, .int (0 : Int32)), (1, .int u10), (0, .ref (adM 0))]) hx hb dX5_parses_71 rfl hl (by decide) rfl (fun ls hl => ?_)
          exact B72 FU u13.2 u10 (0 : Int32) (1 : Int32) _ _ _ h hP hD hS (lv_sub hl [3, 2, 1, 0] rfl)
        · have h := (if_neg c14).symm.trans h
          refine lv_iconst (v := (1 : Int32)) hx hb dX5_parses_64 (by decide) ?_
          refine lv_goto (tgt := 69) hx hb dX5_parses_65 (by decide) ?_
          refine lv_istore_n (lv' := [(2, .int (1 : Int32)), (1, .int u10), (0, .ref (adM 0))]) hx hb dX5_parses_69 rfl hl (by decide) rfl (fun ls hl => ?_)
          refine lv_iconst (v := (1 : Int32)) hx hb dX5_parses_70 (by decide) ?_
          refine lv_istore_n (lv' := [(3, .int (1 : Int32)), (2, .int (1 : Int32)), (1, .int u10), (0, .ref (adM 0))]) hx hb dX5_parses_71 rfl hl (by decide) rfl (fun ls hl => ?_)
          exact B72 FU u13.2 u10 (1 : Int32) (1 : Int32) _ _ _ h hP hD hS (lv_sub hl [3, 2, 1, 0] rfl)
    · have h := (if_neg c11).symm.trans h
      refine lv_iconst (v := (0 : Int32)) hx hb dX5_parses_40 (by decide) ?_
      cases h
      exact endZ hx hb hr hlocks hP hS ⟨rfl, rfl⟩ dX5_parses_41
  have h := hf
  unfold X5_parses at h
  refine lv_aload_n hx hb dX5_parses_0 rfl (lv_at hl 0 rfl) ?_
  refine lv_aload_n hx hb dX5_parses_1 rfl (lv_at hl 0 rfl) ?_
  refine lv_bipush (v := (33 : Int32)) hx hb dX5_parses_2 (by decide) ?_
  refine lv_bipush (v := (126 : Int32)) hx hb dX5_parses_4 (by decide) ?_
  obtain ⟨u15, eu15, h⟩ := bd_in h
  refine kI (va_runV (As := [.int (33 : Int32), .int (126 : Int32)]) (rest := [.ref (adM 0)]) ⟨hx, hb, hml, hown, hts⟩ (c_X5_isAt l D cA cQ adM vM (33 : Int32) (126 : Int32) u15 eu15 _) (cwV 2 hts gX5_parses_X5_isAt rfl rfl rfl (by decide +kernel) ⟨Nat.le_of_ble_eq_true rfl, Nat.le_of_ble_eq_true rfl⟩) (pV (ci := 5) (q := (RX5, TX5, 18)) hK hN hP hD [0, 1, 2, 3, 4, 5, 6, 7, 8, 9] rfl rfl rfl rfl) rfl rfl hl.1 rfl (lv_room (Nat.le_of_ble_eq_true rfl)) dX5_parses_6 ⟨Nat.zero_le _, Nat.zero_le _⟩) hP hD hS hA [0, 1, 2, 3, 4, 5, 6, 7, 8, 9] rfl rfl (ws' := (wM cA adM vM)) rfl (fun H locs hP hD hS => ?_)
  refine lv_if_eq (tgt := 24) hx hb dX5_parses_9 (by decide) (fun c16 => ?_) (fun c16 => ?_)
  · have h := (if_pos c16).symm.trans h
    refine lv_iconst (v := (0 : Int32)) hx hb dX5_parses_24 (by decide) ?_
    exact B25 vM (0 : Int32) _ _ _ h hP hD hS (lv_sub hl [0] rfl)
  · have h := (if_neg c16).symm.trans h
    refine lv_aload_n hx hb dX5_parses_12 rfl (lv_at hl 0 rfl) ?_
    refine va_get (D := D) (ci := 5) (v := .ref (adM 7)) (C := RX5) (T := TX5) (N := 18) hx hb hts iw_X5_parses_X5 hown hK hP 0 rfl rfl 6 (by decide) (hts (.fieldLink RX5 22 "FavourRingsModel" "text" "[I") (List.mem_of_getElem? (i := 1) rfl)) (fun _ h9 => h9) rfl dX5_parses_13 ?_
    refine lv_aload_n hx hb dX5_parses_16 rfl (lv_at hl 0 rfl) ?_
    refine va_get (D := D) (ci := 5) (v := .int (vM 99 11)) (C := RX5) (T := TX5) (N := 18) hx hb hts iw_X5_parses_X5 hown hK hP 0 rfl rfl 11 (by decide) (hts (.fieldLink RX5 150 "FavourRingsModel" "spot" "I") (List.mem_of_getElem? (i := 2) rfl)) (fun _ h9 => h9) rfl dX5_parses_17 ?_
    obtain ⟨y17, ey17, h⟩ := bd_in h
    refine ldR hx hb hK hP 5 0 rfl rfl ey17 dX5_parses_20 ?_
    refine lv_goto (tgt := 25) hx hb dX5_parses_21 (by decide) ?_
    exact B25 vM y17 _ _ _ h hP hD hS (lv_sub hl [0] rfl)
theorem iw_X5_plays_X5 : ∀ w ∈ wsX50, w ∈ wsX5_plays := fun _ h => List.mem_cons_of_mem _ (List.mem_append_right _ (h))
set_option maxHeartbeats 4000000 in
set_option maxRecDepth 100000 in
theorem c_X5_plays (l : Launch) (D : va_G) (cA cQ : ClassId) (adM : Nat → Nat) (vM : St) (o : Int32 × St) (hf : X5_plays vM = some o) : Cti l yX5_plays wsX5_plays ({ frames := 6, cells := 0, slots := 0, locals := 141 }) D (TY cA cQ) [.ref (adM 0)] (wM cA adM vM) (wM cA adM o.2) o.1 := by
  refine Wk.i (cc := cX5_plays) (maxL := 4) (ret := (some .boolean)) (by decide) rfl (Nat.le_of_ble_eq_true rfl) ?_
  intro p e s m below meth c A ls hx hb hr hlocks hml hown hts hK hN hP hD hA hl
  have hown : s.vm.findClass RX5 = some m.cls := hown
  have hS : va_S A s.heap s.heap [] := va_S.rf
  have hl : lv_has ls 4 [(0, .ref (adM 0))] := hl
  have B22 : ∀ (fu22 : Nat) (vM : St) (x1 : Int32) (H : Heap) (locs : List Loc) (ls : Array Slot), X5_plays_l22 fu22 vM x1 = some o → va_P D vwCl (wM cA adM vM) H → va_D A (wM cA adM vM) → va_S A s.heap H locs → lv_has ls 4 [(0, .ref (adM 0)), (1, .int x1)] → W p l e (headSpec wsX5_plays ({ frames := 6, cells := 0, slots := 0, locals := 141 })).room s m ([.ref (adM 0)] : List Value).toArray below meth c H locs 0 0 (MQ below (QI D (wM cA adM o.2) o.1 A) ([.ref (adM 0)] : List Value).toArray s 0 0 A) (F0 m 22 ls []) := by
    intro fu22
    induction fu22 with
    | zero =>
      intro vM x1 H locs ls h hP hD hS hl
      cases h
    | succ fu22 ih22 =>
      have B108 : ∀ (vM : St) (x1 : Int32) (t1 : Int32) (H : Heap) (locs : List Loc) (ls : Array Slot), X5_plays_b108 (X5_plays_l22 fu22) vM x1 t1 = some o → va_P D vwCl (wM cA adM vM) H → va_D A (wM cA adM vM) → va_S A s.heap H locs → lv_has ls 4 [(0, .ref (adM 0)), (1, .int x1)] → W p l e (headSpec wsX5_plays ({ frames := 6, cells := 0, slots := 0, locals := 141 })).room s m ([.ref (adM 0)] : List Value).toArray below meth c H locs 0 0 (MQ below (QI D (wM cA adM o.2) o.1 A) ([.ref (adM 0)] : List Value).toArray s 0 0 A) (F0 m 108 ls [.int t1, .ref (adM 0)]) := by
        intro vM x1 t1 H locs ls h hP hD hS hl
        unfold X5_plays_b108 at h
        refine ptR (ci := 5) (v := .int t1) (ty := .int) (C := RX5) (T := TX5) (N := 18) hx hb hts iw_X5_plays_X5 tyX5 tyX5_ok nmX5 hown hK hP hD hS 0 rfl rfl 14 (by decide) (hts (.fieldLink RX5 204 "FavourRingsModel" "cause" "I") (List.mem_of_getElem? (i := 7) rfl)) (fun _ h9 => h9) rfl (by decide +kernel) rfl rfl (Nat.le_of_ble_eq_true rfl) (ws' := (wM cA adM (setI vM 14 t1))) rfl dX5_plays_108 (fun H locs hP hD hS => ?_)
        refine lv_aload_n hx hb dX5_plays_111 rfl (lv_at hl 0 rfl) ?_
        refine lv_dup hx hb dX5_plays_112 rfl ?_
        refine va_get (D := D) (ci := 5) (v := .int (vM 99 15)) (C := RX5) (T := TX5) (N := 18) hx hb hts iw_X5_plays_X5 hown hK hP 0 rfl rfl 15 (by decide) (hts (.fieldLink RX5 191 "FavourRingsModel" "orders" "I") (List.mem_of_getElem? (i := 4) rfl)) (fun _ h9 => h9) rfl dX5_plays_113 ?_
        refine lv_iconst (v := (1 : Int32)) hx hb dX5_plays_116 (by decide) ?_
        refine lv_iadd hx hb dX5_plays_117 ?_
        refine ptR (ci := 5) (v := .int ((vM 99 15) + (1 : Int32))) (ty := .int) (C := RX5) (T := TX5) (N := 18) hx hb hts iw_X5_plays_X5 tyX5 tyX5_ok nmX5 hown hK hP hD hS 0 rfl rfl 15 (by decide) (hts (.fieldLink RX5 191 "FavourRingsModel" "orders" "I") (List.mem_of_getElem? (i := 4) rfl)) (fun _ h9 => h9) rfl (by decide +kernel) rfl rfl (Nat.le_of_ble_eq_true rfl) (ws' := (wM cA adM (setI (setI vM 14 t1) 15 ((vM 99 15) + (1 : Int32))))) rfl dX5_plays_118 (fun H locs hP hD hS => ?_)
        refine lv_goto (tgt := 22) hx hb dX5_plays_121 (by decide) ?_
        exact ih22 (setI (setI vM 14 t1) 15 ((vM 99 15) + (1 : Int32))) x1 _ _ _ h hP hD hS (lv_sub hl [0, 1] rfl)
      have B87 : ∀ (vM : St) (x1 : Int32) (x2 : Int32) (x3 : Int32) (t1 : Int32) (H : Heap) (locs : List Loc) (ls : Array Slot), X5_plays_b87 (X5_plays_l22 fu22) vM x1 x2 x3 t1 = some o → va_P D vwCl (wM cA adM vM) H → va_D A (wM cA adM vM) → va_S A s.heap H locs → lv_has ls 4 [(0, .ref (adM 0)), (1, .int x1), (2, .int x2), (3, .int x3)] → W p l e (headSpec wsX5_plays ({ frames := 6, cells := 0, slots := 0, locals := 141 })).room s m ([.ref (adM 0)] : List Value).toArray below meth c H locs 0 0 (MQ below (QI D (wM cA adM o.2) o.1 A) ([.ref (adM 0)] : List Value).toArray s 0 0 A) (F0 m 87 ls [.int t1, .ref (adM 0)]) := by
        intro vM x1 x2 x3 t1 H locs ls h hP hD hS hl
        unfold X5_plays_b87 at h
        refine ptR (ci := 5) (v := .int t1) (ty := .int) (C := RX5) (T := TX5) (N := 18) hx hb hts iw_X5_plays_X5 tyX5 tyX5_ok nmX5 hown hK hP hD hS 0 rfl rfl 13 (by decide) (hts (.fieldLink RX5 201 "FavourRingsModel" "reason" "I") (List.mem_of_getElem? (i := 6) rfl)) (fun _ h9 => h9) rfl (by decide +kernel) rfl rfl (Nat.le_of_ble_eq_true rfl) (ws' := (wM cA adM (setI vM 13 t1))) rfl dX5_plays_87 (fun H locs hP hD hS => ?_)
        refine lv_aload_n hx hb dX5_plays_90 rfl (lv_at hl 0 rfl) ?_
        refine lv_iload_n hx hb dX5_plays_91 rfl (lv_at hl 2 rfl) ?_
        refine lv_if_eq (tgt := 99) hx hb dX5_plays_92 (by decide) (fun c1 => ?_) (fun c1 => ?_)
        · have h := (if_pos c1).symm.trans h
          refine lv_aload_n hx hb dX5_plays_99 rfl (lv_at hl 0 rfl) ?_
          refine va_get (D := D) (ci := 5) (v := .int (vM 99 11)) (C := RX5) (T := TX5) (N := 18) hx hb hts iw_X5_plays_X5 hown hK hP 0 rfl rfl 11 (by decide) (hts (.fieldLink RX5 150 "FavourRingsModel" "spot" "I") (List.mem_of_getElem? (i := 2) rfl)) (fun _ h9 => h9) rfl dX5_plays_100 ?_
          refine lv_aload_n hx hb dX5_plays_103 rfl (lv_at hl 0 rfl) ?_
          refine va_get (D := D) (ci := 5) (v := .int (vM 99 12)) (C := RX5) (T := TX5) (N := 18) hx hb hts iw_X5_plays_X5 hown hK hP 0 rfl rfl 12 (by decide) (hts (.fieldLink RX5 188 "FavourRingsModel" "from" "I") (List.mem_of_getElem? (i := 3) rfl)) (fun _ h9 => h9) rfl dX5_plays_104 ?_
          refine lv_isub hx hb dX5_plays_107 ?_
          exact B108 (setI vM 13 t1) x1 ((vM 99 11) - (vM 99 12)) _ _ _ h hP hD hS (lv_sub hl [0, 1] rfl)
        · have h := (if_neg c1).symm.trans h
          refine lv_iload_n hx hb dX5_plays_95 rfl (lv_at hl 3 rfl) ?_
          refine lv_goto (tgt := 108) hx hb dX5_plays_96 (by decide) ?_
          exact B108 (setI vM 13 t1) x1 x3 _ _ _ h hP hD hS (lv_sub hl [0, 1] rfl)
      have B76 : ∀ (vM : St) (x2 : Int32) (x3 : Int32) (t0 : Int32) (H : Heap) (locs : List Loc) (ls : Array Slot), X5_plays_b76 (X5_plays_l22 fu22) vM x2 x3 t0 = some o → va_P D vwCl (wM cA adM vM) H → va_D A (wM cA adM vM) → va_S A s.heap H locs → lv_has ls 4 [(0, .ref (adM 0)), (2, .int x2), (3, .int x3)] → W p l e (headSpec wsX5_plays ({ frames := 6, cells := 0, slots := 0, locals := 141 })).room s m ([.ref (adM 0)] : List Value).toArray below meth c H locs 0 0 (MQ below (QI D (wM cA adM o.2) o.1 A) ([.ref (adM 0)] : List Value).toArray s 0 0 A) (F0 m 76 ls [.int t0]) := by
        intro vM x2 x3 t0 H locs ls h hP hD hS hl
        unfold X5_plays_b76 at h
        refine lv_istore_n (lv' := [(1, .int t0), (0, .ref (adM 0)), (2, .int x2), (3, .int x3)]) hx hb dX5_plays_76 rfl hl (by decide) rfl (fun ls hl => ?_)
        refine lv_aload_n hx hb dX5_plays_77 rfl (lv_at hl 1 rfl) ?_
        refine lv_iload_n hx hb dX5_plays_78 rfl (lv_at hl 2 rfl) ?_
        refine lv_if_eq (tgt := 86) hx hb dX5_plays_79 (by decide) (fun c2 => ?_) (fun c2 => ?_)
        · have h := (if_pos c2).symm.trans h
          refine lv_iconst (v := (1 : Int32)) hx hb dX5_plays_86 (by decide) ?_
          exact B87 vM t0 x2 x3 (1 : Int32) _ _ _ h hP hD hS (lv_sub hl [1, 0, 2, 3] rfl)
        · have h := (if_neg c2).symm.trans h
          refine lv_iconst (v := (2 : Int32)) hx hb dX5_plays_82 (by decide) ?_
          refine lv_goto (tgt := 87) hx hb dX5_plays_83 (by decide) ?_
          exact B87 vM t0 x2 x3 (2 : Int32) _ _ _ h hP hD hS (lv_sub hl [1, 0, 2, 3] rfl)
      have B75 : ∀ (vM : St) (x2 : Int32) (x3 : Int32) (H : Heap) (locs : List Loc) (ls : Array Slot), X5_plays_b75 (X5_plays_l22 fu22) vM x2 x3 = some o → va_P D vwCl (wM cA adM vM) H → va_D A (wM cA adM vM) → va_S A s.heap H locs → lv_has ls 4 [(0, .ref (adM 0)), (2, .int x2), (3, .int x3)] → W p l e (headSpec wsX5_plays ({ frames := 6, cells := 0, slots := 0, locals := 141 })).room s m ([.ref (adM 0)] : List Value).toArray below meth c H locs 0 0 (MQ below (QI D (wM cA adM o.2) o.1 A) ([.ref (adM 0)] : List Value).toArray s 0 0 A) (F0 m 75 ls []) := by
        intro vM x2 x3 H locs ls h hP hD hS hl
        unfold X5_plays_b75 at h
        refine lv_iconst (v := (0 : Int32)) hx hb dX5_plays_75 (by decide) ?_
        exact B76 vM x2 x3 (0 : Int32) _ _ _ h hP hD hS (lv_sub hl [0, 1, 2] rfl)
      have B62 : ∀ (vM : St) (x2 : Int32) (t0 : Int32) (H : Heap) (locs : List Loc) (ls : Array Slot), X5_plays_b62 (X5_plays_l22 fu22) vM x2 t0 = some o → va_P D vwCl (wM cA adM vM) H → va_D A (wM cA adM vM) → va_S A s.heap H locs → lv_has ls 4 [(0, .ref (adM 0)), (2, .int x2)] → W p l e (headSpec wsX5_plays ({ frames := 6, cells := 0, slots := 0, locals := 141 })).room s m ([.ref (adM 0)] : List Value).toArray below meth c H locs 0 0 (MQ below (QI D (wM cA adM o.2) o.1 A) ([.ref (adM 0)] : List Value).toArray s 0 0 A) (F0 m 62 ls [.int t0]) := by
        intro vM x2 t0 H locs ls h hP hD hS hl
        unfold X5_plays_b62 at h
        refine lv_istore_n (lv' := [(3, .int t0), (0, .ref (adM 0)), (2, .int x2)]) hx hb dX5_plays_62 rfl hl (by decide) rfl (fun ls hl => ?_)
        refine lv_iload_n hx hb dX5_plays_63 rfl (lv_at hl 2 rfl) ?_
        refine lv_if_eq (tgt := 75) hx hb dX5_plays_64 (by decide) (fun c3 => ?_) (fun c3 => ?_)
        · have h := (if_pos c3).symm.trans h
          exact B75 vM x2 t0 _ _ _ h hP hD hS (lv_sub hl [1, 2, 0] rfl)
        · have h := (if_neg c3).symm.trans h
          refine lv_iload_n hx hb dX5_plays_67 rfl (lv_at hl 0 rfl) ?_
          refine lv_if_lt (tgt := 75) hx hb dX5_plays_68 (by decide) (fun c4 => ?_) (fun c4 => ?_)
          · have h := (if_pos c4).symm.trans h
            exact B75 vM x2 t0 _ _ _ h hP hD hS (lv_sub hl [1, 2, 0] rfl)
          · have h := (if_neg c4).symm.trans h
            refine lv_iconst (v := (1 : Int32)) hx hb dX5_plays_71 (by decide) ?_
            refine lv_goto (tgt := 76) hx hb dX5_plays_72 (by decide) ?_
            exact B76 vM x2 t0 (1 : Int32) _ _ _ h hP hD hS (lv_sub hl [1, 2, 0] rfl)
      intro vM x1 H locs ls h hP hD hS hl
      rw [X5_plays_l22] at h
      refine lv_aload_n hx hb dX5_plays_22 rfl (lv_at hl 0 rfl) ?_
      refine va_get (D := D) (ci := 5) (v := .int (vM 99 11)) (C := RX5) (T := TX5) (N := 18) hx hb hts iw_X5_plays_X5 hown hK hP 0 rfl rfl 11 (by decide) (hts (.fieldLink RX5 150 "FavourRingsModel" "spot" "I") (List.mem_of_getElem? (i := 2) rfl)) (fun _ h9 => h9) rfl dX5_plays_23 ?_
      refine lv_aload_n hx hb dX5_plays_26 rfl (lv_at hl 0 rfl) ?_
      refine va_get (D := D) (ci := 5) (v := .int (vM 99 7)) (C := RX5) (T := TX5) (N := 18) hx hb hts iw_X5_plays_X5 hown hK hP 0 rfl rfl 7 (by decide) (hts (.fieldLink RX5 147 "FavourRingsModel" "typed" "I") (List.mem_of_getElem? (i := 5) rfl)) (fun _ h9 => h9) rfl dX5_plays_27 ?_
      refine lv_icmp_ge (tgt := 124) hx hb dX5_plays_30 (by decide) (fun c5 => ?_) (fun c5 => ?_)
      · have h := (if_pos c5).symm.trans h
        refine lv_aload_n hx hb dX5_plays_124 rfl (lv_at hl 0 rfl) ?_
        refine lv_iconst (v := (0 : Int32)) hx hb dX5_plays_125 (by decide) ?_
        refine ptR (ci := 5) (v := .int (0 : Int32)) (ty := .boolean) (C := RX5) (T := TX5) (N := 18) hx hb hts iw_X5_plays_X5 tyX5 tyX5_ok nmX5 hown hK hP hD hS 0 rfl rfl 5 (by decide) (hts (.fieldLink RX5 37 "FavourRingsModel" "runs" "Z") (List.mem_of_getElem? (i := 1) rfl)) (fun _ h9 => h9) rfl (by decide +kernel) rfl rfl (Nat.le_of_ble_eq_true rfl) (ws' := (wM cA adM (setI vM 5 (0 : Int32)))) rfl dX5_plays_126 (fun H locs hP hD hS => ?_)
        refine lv_iload_n hx hb dX5_plays_129 rfl (lv_at hl 1 rfl) ?_
        obtain ⟨b6, eb6, h⟩ := bd_in h
        cases h
        exact endZ hx hb hr hlocks hP hS (zb_in eb6) dX5_plays_130
      · have h := (if_neg c5).symm.trans h
        refine lv_iload_n hx hb dX5_plays_33 rfl (lv_at hl 1 rfl) ?_
        refine lv_if_eq (tgt := 124) hx hb dX5_plays_34 (by decide) (fun c7 => ?_) (fun c7 => ?_)
        · have h := (if_pos c7).symm.trans h
          refine lv_aload_n hx hb dX5_plays_124 rfl (lv_at hl 0 rfl) ?_
          refine lv_iconst (v := (0 : Int32)) hx hb dX5_plays_125 (by decide) ?_
          refine ptR (ci := 5) (v := .int (0 : Int32)) (ty := .boolean) (C := RX5) (T := TX5) (N := 18) hx hb hts iw_X5_plays_X5 tyX5 tyX5_ok nmX5 hown hK hP hD hS 0 rfl rfl 5 (by decide) (hts (.fieldLink RX5 37 "FavourRingsModel" "runs" "Z") (List.mem_of_getElem? (i := 1) rfl)) (fun _ h9 => h9) rfl (by decide +kernel) rfl rfl (Nat.le_of_ble_eq_true rfl) (ws' := (wM cA adM (setI vM 5 (0 : Int32)))) rfl dX5_plays_126 (fun H locs hP hD hS => ?_)
          refine lv_iload_n hx hb dX5_plays_129 rfl (lv_at hl 1 rfl) ?_
          obtain ⟨b8, eb8, h⟩ := bd_in h
          cases h
          exact endZ hx hb hr hlocks hP hS (zb_in eb8) dX5_plays_130
        · have h := (if_neg c7).symm.trans h
          refine lv_aload_n hx hb dX5_plays_37 rfl (lv_at hl 0 rfl) ?_
          refine lv_aload_n hx hb dX5_plays_38 rfl (lv_at hl 0 rfl) ?_
          refine va_get (D := D) (ci := 5) (v := .int (vM 99 11)) (C := RX5) (T := TX5) (N := 18) hx hb hts iw_X5_plays_X5 hown hK hP 0 rfl rfl 11 (by decide) (hts (.fieldLink RX5 150 "FavourRingsModel" "spot" "I") (List.mem_of_getElem? (i := 2) rfl)) (fun _ h9 => h9) rfl dX5_plays_39 ?_
          refine ptR (ci := 5) (v := .int (vM 99 11)) (ty := .int) (C := RX5) (T := TX5) (N := 18) hx hb hts iw_X5_plays_X5 tyX5 tyX5_ok nmX5 hown hK hP hD hS 0 rfl rfl 12 (by decide) (hts (.fieldLink RX5 188 "FavourRingsModel" "from" "I") (List.mem_of_getElem? (i := 3) rfl)) (fun _ h9 => h9) rfl (by decide +kernel) rfl rfl (Nat.le_of_ble_eq_true rfl) (ws' := (wM cA adM (setI vM 12 (vM 99 11)))) rfl dX5_plays_42 (fun H locs hP hD hS => ?_)
          refine lv_aload_n hx hb dX5_plays_45 rfl (lv_at hl 0 rfl) ?_
          obtain ⟨u9, eu9, h⟩ := bd_in h
          refine kI (va_runV (As := []) (rest := []) ⟨hx, hb, hml, hown, hts⟩ (c_X5_parses l D cA cQ adM (setI vM 12 (vM 99 11)) u9 eu9 _) (cwV 0 hts gX5_plays_X5_parses rfl rfl rfl (by decide +kernel) ⟨Nat.le_of_ble_eq_true rfl, Nat.le_of_ble_eq_true rfl⟩) (pV (ci := 5) (q := (RX5, TX5, 18)) hK hN hP hD [0, 1, 2, 3, 4, 5, 6, 7, 8, 9] rfl rfl rfl rfl) rfl rfl hl.1 rfl (lv_room (Nat.le_of_ble_eq_true rfl)) dX5_plays_46 ⟨Nat.zero_le _, Nat.zero_le _⟩) hP hD hS hA [0, 1, 2, 3, 4, 5, 6, 7, 8, 9] rfl rfl (ws' := (wM cA adM u9.2)) rfl (fun H locs hP hD hS => ?_)
          refine lv_istore_n (lv' := [(2, .int u9.1), (0, .ref (adM 0)), (1, .int x1)]) hx hb dX5_plays_49 rfl hl (by decide) rfl (fun ls hl => ?_)
          refine lv_iload_n hx hb dX5_plays_50 rfl (lv_at hl 0 rfl) ?_
          refine lv_if_eq (tgt := 61) hx hb dX5_plays_51 (by decide) (fun c10 => ?_) (fun c10 => ?_)
          · have h := (if_pos c10).symm.trans h
            refine lv_iconst (v := (0 : Int32)) hx hb dX5_plays_61 (by decide) ?_
            exact B62 u9.2 u9.1 (0 : Int32) _ _ _ h hP hD hS (lv_sub hl [1, 0] rfl)
          · have h := (if_neg c10).symm.trans h
            refine lv_aload_n hx hb dX5_plays_54 rfl (lv_at hl 1 rfl) ?_
            obtain ⟨u11, eu11, h⟩ := bd_in h
            refine kI (va_runV (As := []) (rest := []) ⟨hx, hb, hml, hown, hts⟩ (c_X5_does l D cA cQ adM u9.2 u11 eu11 _) (cwV 0 hts gX5_plays_X5_does rfl rfl rfl (by decide +kernel) ⟨Nat.le_of_ble_eq_true rfl, Nat.le_of_ble_eq_true rfl⟩) (pV (ci := 5) (q := (RX5, TX5, 18)) hK hN hP hD [0, 1, 2, 3, 4, 5, 6, 7, 8, 9] rfl rfl rfl rfl) rfl rfl hl.1 rfl (lv_room (Nat.le_of_ble_eq_true rfl)) dX5_plays_55 ⟨Nat.zero_le _, Nat.zero_le _⟩) hP hD hS hA [0, 1, 2, 3, 4, 5, 6, 7, 8, 9] rfl rfl (ws' := (wM cA adM u11.2)) rfl (fun H locs hP hD hS => ?_)
            refine lv_goto (tgt := 62) hx hb dX5_plays_58 (by decide) ?_
            exact B62 u11.2 u9.1 u11.1 _ _ _ h hP hD hS (lv_sub hl [1, 0] rfl)
  have h := hf
  unfold X5_plays at h
  refine lv_aload_n hx hb dX5_plays_0 rfl (lv_at hl 0 rfl) ?_
  refine lv_iconst (v := (1 : Int32)) hx hb dX5_plays_1 (by decide) ?_
  refine ptR (ci := 5) (v := .int (1 : Int32)) (ty := .boolean) (C := RX5) (T := TX5) (N := 18) hx hb hts iw_X5_plays_X5 tyX5 tyX5_ok nmX5 hown hK hP hD hS 0 rfl rfl 5 (by decide) (hts (.fieldLink RX5 37 "FavourRingsModel" "runs" "Z") (List.mem_of_getElem? (i := 1) rfl)) (fun _ h9 => h9) rfl (by decide +kernel) rfl rfl (Nat.le_of_ble_eq_true rfl) (ws' := (wM cA adM (setI vM 5 (1 : Int32)))) rfl dX5_plays_2 (fun H locs hP hD hS => ?_)
  refine lv_aload_n hx hb dX5_plays_5 rfl (lv_at hl 0 rfl) ?_
  refine lv_iconst (v := (0 : Int32)) hx hb dX5_plays_6 (by decide) ?_
  refine ptR (ci := 5) (v := .int (0 : Int32)) (ty := .int) (C := RX5) (T := TX5) (N := 18) hx hb hts iw_X5_plays_X5 tyX5 tyX5_ok nmX5 hown hK hP hD hS 0 rfl rfl 11 (by decide) (hts (.fieldLink RX5 150 "FavourRingsModel" "spot" "I") (List.mem_of_getElem? (i := 2) rfl)) (fun _ h9 => h9) rfl (by decide +kernel) rfl rfl (Nat.le_of_ble_eq_true rfl) (ws' := (wM cA adM (setI (setI vM 5 (1 : Int32)) 11 (0 : Int32)))) rfl dX5_plays_7 (fun H locs hP hD hS => ?_)
  refine lv_aload_n hx hb dX5_plays_10 rfl (lv_at hl 0 rfl) ?_
  refine lv_iconst (v := (0 : Int32)) hx hb dX5_plays_11 (by decide) ?_
  refine ptR (ci := 5) (v := .int (0 : Int32)) (ty := .int) (C := RX5) (T := TX5) (N := 18) hx hb hts iw_X5_plays_X5 tyX5 tyX5_ok nmX5 hown hK hP hD hS 0 rfl rfl 12 (by decide) (hts (.fieldLink RX5 188 "FavourRingsModel" "from" "I") (List.mem_of_getElem? (i := 3) rfl)) (fun _ h9 => h9) rfl (by decide +kernel) rfl rfl (Nat.le_of_ble_eq_true rfl) (ws' := (wM cA adM (setI (setI (setI vM 5 (1 : Int32)) 11 (0 : Int32)) 12 (0 : Int32)))) rfl dX5_plays_12 (fun H locs hP hD hS => ?_)
  refine lv_aload_n hx hb dX5_plays_15 rfl (lv_at hl 0 rfl) ?_
  refine lv_iconst (v := (0 : Int32)) hx hb dX5_plays_16 (by decide) ?_
  refine ptR (ci := 5) (v := .int (0 : Int32)) (ty := .int) (C := RX5) (T := TX5) (N := 18) hx hb hts iw_X5_plays_X5 tyX5 tyX5_ok nmX5 hown hK hP hD hS 0 rfl rfl 15 (by decide) (hts (.fieldLink RX5 191 "FavourRingsModel" "orders" "I") (List.mem_of_getElem? (i := 4) rfl)) (fun _ h9 => h9) rfl (by decide +kernel) rfl rfl (Nat.le_of_ble_eq_true rfl) (ws' := (wM cA adM (setI (setI (setI (setI vM 5 (1 : Int32)) 11 (0 : Int32)) 12 (0 : Int32)) 15 (0 : Int32)))) rfl dX5_plays_17 (fun H locs hP hD hS => ?_)
  refine lv_iconst (v := (1 : Int32)) hx hb dX5_plays_20 (by decide) ?_
  refine lv_istore_n (lv' := [(1, .int (1 : Int32)), (0, .ref (adM 0))]) hx hb dX5_plays_21 rfl hl (by decide) rfl (fun ls hl => ?_)
  exact B22 FU (setI (setI (setI (setI vM 5 (1 : Int32)) 11 (0 : Int32)) 12 (0 : Int32)) 15 (0 : Int32)) (1 : Int32) _ _ _ h hP hD hS (lv_sub hl [1, 0] rfl)
theorem iw_X5_fault_X5 : ∀ w ∈ wsX50, w ∈ wsX5_fault := fun _ h => List.mem_cons_of_mem _ (List.mem_append_right _ (h))
set_option maxHeartbeats 4000000 in
set_option maxRecDepth 100000 in
theorem c_X5_fault (l : Launch) (D : va_G) (cA cQ : ClassId) (adM : Nat → Nat) (vM : St) (p1 : Int32) (o : Int32 × St) (hf : X5_fault vM p1 = some o) : Cti l yX5_fault wsX5_fault ({ frames := 7, cells := 0, slots := 0, locals := 164 }) D (TY cA cQ) [.ref (adM 0), .int p1] (wM cA adM vM) (wM cA adM o.2) o.1 := by
  refine Wk.i (cc := cX5_fault) (maxL := 3) (ret := (some .int)) (by decide) rfl (Nat.le_of_ble_eq_true rfl) ?_
  intro p e s m below meth c A ls hx hb hr hlocks hml hown hts hK hN hP hD hA hl
  have hown : s.vm.findClass RX5 = some m.cls := hown
  have hS : va_S A s.heap s.heap [] := va_S.rf
  have hl : lv_has ls 3 [(0, .ref (adM 0)), (1, .int p1)] := hl
  have h := hf
  unfold X5_fault at h
  refine lv_iload_n hx hb dX5_fault_0 rfl (lv_at hl 1 rfl) ?_
  refine lv_iconst (v := (0 : Int32)) hx hb dX5_fault_1 (by decide) ?_
  refine lv_iconst (v := (2 : Int32)) hx hb dX5_fault_2 (by decide) ?_
  obtain ⟨u1, eu1, h⟩ := bd_in h
  refine kI (va_runS (As := [.int p1, .int (0 : Int32), .int (2 : Int32)]) (rest := []) ⟨hx, hb, hml, hown, hts⟩ (c_X5_in l D cA cQ  p1 (0 : Int32) (2 : Int32) u1 eu1 _) (va_cwS 3 hts gX5_fault_X5_in rfl rfl rfl (by decide +kernel) ⟨Nat.le_of_ble_eq_true rfl, Nat.le_of_ble_eq_true rfl⟩) (pS hK hN hP hD [] rfl rfl) rfl rfl hl.1 rfl (lv_room (Nat.le_of_ble_eq_true rfl)) dX5_fault_3 ⟨Nat.zero_le _, Nat.zero_le _⟩) hP hD hS hA [] rfl rfl (ws' := (wM cA adM vM)) rfl (fun H locs hP hD hS => ?_)
  refine lv_if_ne (tgt := 12) hx hb dX5_fault_6 (by decide) (fun c2 => ?_) (fun c2 => ?_)
  · have h := (if_neg c2).symm.trans h
    refine lv_aload_n hx hb dX5_fault_12 rfl (lv_at hl 0 rfl) ?_
    refine va_get (D := D) (ci := 5) (v := .ref (adM 1)) (C := RX5) (T := TX5) (N := 18) hx hb hts iw_X5_fault_X5 hown hK hP 0 rfl rfl 0 (by decide) (hts (.fieldLink RX5 7 "FavourRingsModel" "s" "[I") (List.mem_of_getElem? (i := 2) rfl)) (fun _ h9 => h9) rfl dX5_fault_13 ?_
    refine lv_aload_n hx hb dX5_fault_16 rfl (lv_at hl 0 rfl) ?_
    refine va_get (D := D) (ci := 5) (v := .ref (adM 3)) (C := RX5) (T := TX5) (N := 18) hx hb hts iw_X5_fault_X5 hown hK hP 0 rfl rfl 2 (by decide) (hts (.fieldLink RX5 16 "FavourRingsModel" "held" "[I") (List.mem_of_getElem? (i := 3) rfl)) (fun _ h9 => h9) rfl dX5_fault_17 ?_
    obtain ⟨u3, eu3, h⟩ := bd_in h
    refine kV (va_runS (As := [.ref (adM 1), .ref (adM 3)]) (rest := []) ⟨hx, hb, hml, hown, hts⟩ (c_X5_copies l D cA cQ (adM 1) 304 (adM 3) 304 (vM 1) (vM 3) u3 eu3 _) (va_cwS 2 hts gX5_fault_X5_copies rfl rfl rfl (by decide +kernel) ⟨Nat.le_of_ble_eq_true rfl, Nat.le_of_ble_eq_true rfl⟩) (pS hK hN hP hD [1, 3] rfl rfl) rfl rfl hl.1 rfl (lv_room (Nat.le_of_ble_eq_true rfl)) dX5_fault_20 ⟨Nat.zero_le _, Nat.zero_le _⟩) hP hD hS hA [1, 3] rfl rfl (ws' := (wM cA adM (setA vM 3 u3))) rfl (fun H locs hP hD hS => ?_)
    refine lv_aload_n hx hb dX5_fault_23 rfl (lv_at hl 0 rfl) ?_
    obtain ⟨u4, eu4, h⟩ := bd_in h
    refine kI (va_runV (As := []) (rest := []) ⟨hx, hb, hml, hown, hts⟩ (c_X5_plays l D cA cQ adM (setA vM 3 u3) u4 eu4 _) (cwV 0 hts gX5_fault_X5_plays rfl rfl rfl (by decide +kernel) ⟨Nat.le_of_ble_eq_true rfl, Nat.le_of_ble_eq_true rfl⟩) (pV (ci := 5) (q := (RX5, TX5, 18)) hK hN hP hD [0, 1, 2, 3, 4, 5, 6, 7, 8, 9] rfl rfl rfl rfl) rfl rfl hl.1 rfl (lv_room (Nat.le_of_ble_eq_true rfl)) dX5_fault_24 ⟨Nat.zero_le _, Nat.zero_le _⟩) hP hD hS hA [0, 1, 2, 3, 4, 5, 6, 7, 8, 9] rfl rfl (ws' := (wM cA adM u4.2)) rfl (fun H locs hP hD hS => ?_)
    refine lv_istore_n (lv' := [(2, .int u4.1), (0, .ref (adM 0)), (1, .int p1)]) hx hb dX5_fault_27 rfl hl (by decide) rfl (fun ls hl => ?_)
    refine lv_aload_n hx hb dX5_fault_28 rfl (lv_at hl 1 rfl) ?_
    refine va_get (D := D) (ci := 5) (v := .ref (adM 3)) (C := RX5) (T := TX5) (N := 18) hx hb hts iw_X5_fault_X5 hown hK hP 0 rfl rfl 2 (by decide) (hts (.fieldLink RX5 16 "FavourRingsModel" "held" "[I") (List.mem_of_getElem? (i := 3) rfl)) (fun _ h9 => h9) rfl dX5_fault_29 ?_
    refine lv_aload_n hx hb dX5_fault_32 rfl (lv_at hl 1 rfl) ?_
    refine va_get (D := D) (ci := 5) (v := .ref (adM 1)) (C := RX5) (T := TX5) (N := 18) hx hb hts iw_X5_fault_X5 hown hK hP 0 rfl rfl 0 (by decide) (hts (.fieldLink RX5 7 "FavourRingsModel" "s" "[I") (List.mem_of_getElem? (i := 2) rfl)) (fun _ h9 => h9) rfl dX5_fault_33 ?_
    obtain ⟨u5, eu5, h⟩ := bd_in h
    refine kV (va_runS (As := [.ref (adM 3), .ref (adM 1)]) (rest := []) ⟨hx, hb, hml, hown, hts⟩ (c_X5_copies l D cA cQ (adM 3) 304 (adM 1) 304 (u4.2 3) (u4.2 1) u5 eu5 _) (va_cwS 2 hts gX5_fault_X5_copies rfl rfl rfl (by decide +kernel) ⟨Nat.le_of_ble_eq_true rfl, Nat.le_of_ble_eq_true rfl⟩) (pS hK hN hP hD [3, 1] rfl rfl) rfl rfl hl.1 rfl (lv_room (Nat.le_of_ble_eq_true rfl)) dX5_fault_36 ⟨Nat.zero_le _, Nat.zero_le _⟩) hP hD hS hA [3, 1] rfl rfl (ws' := (wM cA adM (setA u4.2 1 u5))) rfl (fun H locs hP hD hS => ?_)
    refine lv_iload_n hx hb dX5_fault_39 rfl (lv_at hl 0 rfl) ?_
    refine lv_if_eq (tgt := 48) hx hb dX5_fault_40 (by decide) (fun c6 => ?_) (fun c6 => ?_)
    · have h := (if_pos c6).symm.trans h
      refine lv_iload_n hx hb dX5_fault_48 rfl (lv_at hl 2 rfl) ?_
      refine lv_if_ne (tgt := 59) hx hb dX5_fault_49 (by decide) (fun c7 => ?_) (fun c7 => ?_)
      · have h := (if_neg c7).symm.trans h
        refine lv_iload_n hx hb dX5_fault_59 rfl (lv_at hl 2 rfl) ?_
        refine lv_iconst (v := (1 : Int32)) hx hb dX5_fault_60 (by decide) ?_
        refine lv_icmp_ne (tgt := 71) hx hb dX5_fault_61 (by decide) (fun c8 => ?_) (fun c8 => ?_)
        · have h := (if_neg c8).symm.trans h
          refine lv_aload_n hx hb dX5_fault_71 rfl (lv_at hl 1 rfl) ?_
          refine va_get (D := D) (ci := 5) (v := .int (u4.2 99 14)) (C := RX5) (T := TX5) (N := 18) hx hb hts iw_X5_fault_X5 hown hK hP 0 rfl rfl 14 (by decide) (hts (.fieldLink RX5 204 "FavourRingsModel" "cause" "I") (List.mem_of_getElem? (i := 7) rfl)) (fun _ h9 => h9) rfl dX5_fault_72 ?_
          cases h
          exact endI hx hb hr hlocks hP hS rfl dX5_fault_75
        · have h := (if_pos c8).symm.trans h
          refine lv_aload_n hx hb dX5_fault_64 rfl (lv_at hl 1 rfl) ?_
          refine va_get (D := D) (ci := 5) (v := .int (u4.2 99 13)) (C := RX5) (T := TX5) (N := 18) hx hb hts iw_X5_fault_X5 hown hK hP 0 rfl rfl 13 (by decide) (hts (.fieldLink RX5 201 "FavourRingsModel" "reason" "I") (List.mem_of_getElem? (i := 6) rfl)) (fun _ h9 => h9) rfl dX5_fault_65 ?_
          refine lv_goto (tgt := 75) hx hb dX5_fault_68 (by decide) ?_
          cases h
          exact endI hx hb hr hlocks hP hS rfl dX5_fault_75
      · have h := (if_pos c7).symm.trans h
        refine lv_aload_n hx hb dX5_fault_52 rfl (lv_at hl 1 rfl) ?_
        refine va_get (D := D) (ci := 5) (v := .int (u4.2 99 12)) (C := RX5) (T := TX5) (N := 18) hx hb hts iw_X5_fault_X5 hown hK hP 0 rfl rfl 12 (by decide) (hts (.fieldLink RX5 188 "FavourRingsModel" "from" "I") (List.mem_of_getElem? (i := 5) rfl)) (fun _ h9 => h9) rfl dX5_fault_53 ?_
        refine lv_goto (tgt := 75) hx hb dX5_fault_56 (by decide) ?_
        cases h
        exact endI hx hb hr hlocks hP hS rfl dX5_fault_75
    · have h := (if_neg c6).symm.trans h
      refine lv_ldc (v := (-1000004 : Int32)) hx hb hown (hts (.constant RX5 57 (-1000004)) (List.mem_of_getElem? (i := 4) rfl)) dX5_fault_43 ?_
      refine lv_goto (tgt := 75) hx hb dX5_fault_45 (by decide) ?_
      cases h
      exact endI hx hb hr hlocks hP hS rfl dX5_fault_75
  · have h := (if_pos c2).symm.trans h
    refine lv_ldc (v := (-1000001 : Int32)) hx hb hown (hts (.constant RX5 86 (-1000001)) (List.mem_of_getElem? (i := 1) rfl)) dX5_fault_9 ?_
    cases h
    exact endI hx hb hr hlocks hP hS rfl dX5_fault_11
theorem iw_X5_ifCleared_X5 : ∀ w ∈ wsX50, w ∈ wsX5_ifCleared := fun _ h => List.mem_cons_of_mem _ (List.mem_append_right _ (h))
set_option maxHeartbeats 4000000 in
set_option maxRecDepth 100000 in
theorem c_X5_ifCleared (l : Launch) (D : va_G) (cA cQ : ClassId) (adM : Nat → Nat) (vM : St) (p1 : Int32) (p2 : Int32) (o : Int32 × St) (hf : X5_ifCleared vM p1 p2 = some o) : Cti l yX5_ifCleared wsX5_ifCleared ({ frames := 4, cells := 0, slots := 0, locals := 100 }) D (TY cA cQ) [.ref (adM 0), .int p1, .int p2] (wM cA adM vM) (wM cA adM o.2) o.1 := by
  refine Wk.i (cc := cX5_ifCleared) (maxL := 5) (ret := (some .int)) (by decide) rfl (Nat.le_of_ble_eq_true rfl) ?_
  intro p e s m below meth c A ls hx hb hr hlocks hml hown hts hK hN hP hD hA hl
  have hown : s.vm.findClass RX5 = some m.cls := hown
  have hS : va_S A s.heap s.heap [] := va_S.rf
  have hl : lv_has ls 5 [(0, .ref (adM 0)), (1, .int p1), (2, .int p2)] := hl
  have B77 : ∀ (vM : St) (t0 : Int32) (H : Heap) (locs : List Loc) (ls : Array Slot), X5_ifCleared_b77 p1 p2 vM t0 = some o → va_P D vwCl (wM cA adM vM) H → va_D A (wM cA adM vM) → va_S A s.heap H locs → lv_has ls 5 [(0, .ref (adM 0))] → W p l e (headSpec wsX5_ifCleared ({ frames := 4, cells := 0, slots := 0, locals := 100 })).room s m ([.ref (adM 0), .int p1, .int p2] : List Value).toArray below meth c H locs 0 0 (MQ below (QI D (wM cA adM o.2) o.1 A) ([.ref (adM 0), .int p1, .int p2] : List Value).toArray s 0 0 A) (F0 m 77 ls [.int t0]) := by
    intro vM t0 H locs ls h hP hD hS hl
    unfold X5_ifCleared_b77 at h
    refine lv_istore (lv' := [(4, .int t0), (0, .ref (adM 0))]) hx hb dX5_ifCleared_77 hl (by decide) rfl (fun ls hl => ?_)
    refine lv_aload_n hx hb dX5_ifCleared_79 rfl (lv_at hl 1 rfl) ?_
    refine va_get (D := D) (ci := 5) (v := .ref (adM 4)) (C := RX5) (T := TX5) (N := 18) hx hb hts iw_X5_ifCleared_X5 hown hK hP 0 rfl rfl 3 (by decide) (hts (.fieldLink RX5 19 "FavourRingsModel" "spare" "[I") (List.mem_of_getElem? (i := 3) rfl)) (fun _ h9 => h9) rfl dX5_ifCleared_80 ?_
    refine lv_aload_n hx hb dX5_ifCleared_83 rfl (lv_at hl 1 rfl) ?_
    refine va_get (D := D) (ci := 5) (v := .ref (adM 1)) (C := RX5) (T := TX5) (N := 18) hx hb hts iw_X5_ifCleared_X5 hown hK hP 0 rfl rfl 0 (by decide) (hts (.fieldLink RX5 7 "FavourRingsModel" "s" "[I") (List.mem_of_getElem? (i := 2) rfl)) (fun _ h9 => h9) rfl dX5_ifCleared_84 ?_
    obtain ⟨u1, eu1, h⟩ := bd_in h
    refine kV (va_runS (As := [.ref (adM 4), .ref (adM 1)]) (rest := []) ⟨hx, hb, hml, hown, hts⟩ (c_X5_copies l D cA cQ (adM 4) 304 (adM 1) 304 (vM 4) (vM 1) u1 eu1 _) (va_cwS 2 hts gX5_ifCleared_X5_copies rfl rfl rfl (by decide +kernel) ⟨Nat.le_of_ble_eq_true rfl, Nat.le_of_ble_eq_true rfl⟩) (pS hK hN hP hD [4, 1] rfl rfl) rfl rfl hl.1 rfl (lv_room (Nat.le_of_ble_eq_true rfl)) dX5_ifCleared_87 ⟨Nat.zero_le _, Nat.zero_le _⟩) hP hD hS hA [4, 1] rfl rfl (ws' := (wM cA adM (setA vM 1 u1))) rfl (fun H locs hP hD hS => ?_)
    refine lv_iload hx hb dX5_ifCleared_90 (lv_at hl 0 rfl) ?_
    cases h
    exact endI hx hb hr hlocks hP hS rfl dX5_ifCleared_92
  have h := hf
  unfold X5_ifCleared at h
  refine lv_iload_n hx hb dX5_ifCleared_0 rfl (lv_at hl 1 rfl) ?_
  obtain ⟨u2, eu2, h⟩ := bd_in h
  refine kI (va_runS (As := [.int p1]) (rest := []) ⟨hx, hb, hml, hown, hts⟩ (c_X5_isKind l D cA cQ  p1 u2 eu2 _) (va_cwS 1 hts gX5_ifCleared_X5_isKind rfl rfl rfl (by decide +kernel) ⟨Nat.le_of_ble_eq_true rfl, Nat.le_of_ble_eq_true rfl⟩) (pS hK hN hP hD [] rfl rfl) rfl rfl hl.1 rfl (lv_room (Nat.le_of_ble_eq_true rfl)) dX5_ifCleared_1 ⟨Nat.zero_le _, Nat.zero_le _⟩) hP hD hS hA [] rfl rfl (ws' := (wM cA adM vM)) rfl (fun H locs hP hD hS => ?_)
  refine lv_if_eq (tgt := 16) hx hb dX5_ifCleared_4 (by decide) (fun c3 => ?_) (fun c3 => ?_)
  · have h := (if_pos c3).symm.trans h
    refine lv_ldc (v := (-1000001 : Int32)) hx hb hown (hts (.constant RX5 86 (-1000001)) (List.mem_of_getElem? (i := 1) rfl)) dX5_ifCleared_16 ?_
    cases h
    exact endI hx hb hr hlocks hP hS rfl dX5_ifCleared_18
  · have h := (if_neg c3).symm.trans h
    refine lv_iload_n hx hb dX5_ifCleared_7 rfl (lv_at hl 2 rfl) ?_
    refine lv_iconst (v := (0 : Int32)) hx hb dX5_ifCleared_8 (by decide) ?_
    refine lv_iconst (v := (2 : Int32)) hx hb dX5_ifCleared_9 (by decide) ?_
    obtain ⟨u4, eu4, h⟩ := bd_in h
    refine kI (va_runS (As := [.int p2, .int (0 : Int32), .int (2 : Int32)]) (rest := []) ⟨hx, hb, hml, hown, hts⟩ (c_X5_in l D cA cQ  p2 (0 : Int32) (2 : Int32) u4 eu4 _) (va_cwS 3 hts gX5_ifCleared_X5_in rfl rfl rfl (by decide +kernel) ⟨Nat.le_of_ble_eq_true rfl, Nat.le_of_ble_eq_true rfl⟩) (pS hK hN hP hD [] rfl rfl) rfl rfl hl.1 rfl (lv_room (Nat.le_of_ble_eq_true rfl)) dX5_ifCleared_10 ⟨Nat.zero_le _, Nat.zero_le _⟩) hP hD hS hA [] rfl rfl (ws' := (wM cA adM vM)) rfl (fun H locs hP hD hS => ?_)
    refine lv_if_ne (tgt := 19) hx hb dX5_ifCleared_13 (by decide) (fun c5 => ?_) (fun c5 => ?_)
    · have h := (if_neg c5).symm.trans h
      refine lv_aload_n hx hb dX5_ifCleared_19 rfl (lv_at hl 0 rfl) ?_
      refine va_get (D := D) (ci := 5) (v := .ref (adM 1)) (C := RX5) (T := TX5) (N := 18) hx hb hts iw_X5_ifCleared_X5 hown hK hP 0 rfl rfl 0 (by decide) (hts (.fieldLink RX5 7 "FavourRingsModel" "s" "[I") (List.mem_of_getElem? (i := 2) rfl)) (fun _ h9 => h9) rfl dX5_ifCleared_20 ?_
      refine lv_aload_n hx hb dX5_ifCleared_23 rfl (lv_at hl 0 rfl) ?_
      refine va_get (D := D) (ci := 5) (v := .ref (adM 4)) (C := RX5) (T := TX5) (N := 18) hx hb hts iw_X5_ifCleared_X5 hown hK hP 0 rfl rfl 3 (by decide) (hts (.fieldLink RX5 19 "FavourRingsModel" "spare" "[I") (List.mem_of_getElem? (i := 3) rfl)) (fun _ h9 => h9) rfl dX5_ifCleared_24 ?_
      obtain ⟨u6, eu6, h⟩ := bd_in h
      refine kV (va_runS (As := [.ref (adM 1), .ref (adM 4)]) (rest := []) ⟨hx, hb, hml, hown, hts⟩ (c_X5_copies l D cA cQ (adM 1) 304 (adM 4) 304 (vM 1) (vM 4) u6 eu6 _) (va_cwS 2 hts gX5_ifCleared_X5_copies rfl rfl rfl (by decide +kernel) ⟨Nat.le_of_ble_eq_true rfl, Nat.le_of_ble_eq_true rfl⟩) (pS hK hN hP hD [1, 4] rfl rfl) rfl rfl hl.1 rfl (lv_room (Nat.le_of_ble_eq_true rfl)) dX5_ifCleared_27 ⟨Nat.zero_le _, Nat.zero_le _⟩) hP hD hS hA [1, 4] rfl rfl (ws' := (wM cA adM (setA vM 4 u6))) rfl (fun H locs hP hD hS => ?_)
      refine lv_aload_n hx hb dX5_ifCleared_30 rfl (lv_at hl 0 rfl) ?_
      refine lv_iload_n hx hb dX5_ifCleared_31 rfl (lv_at hl 1 rfl) ?_
      obtain ⟨u7, eu7, h⟩ := bd_in h
      refine kI (va_runV (As := [.int p1]) (rest := []) ⟨hx, hb, hml, hown, hts⟩ (c_X5_clears l D cA cQ adM (setA vM 4 u6) p1 u7 eu7 _) (cwV 1 hts gX5_ifCleared_X5_clears rfl rfl rfl (by decide +kernel) ⟨Nat.le_of_ble_eq_true rfl, Nat.le_of_ble_eq_true rfl⟩) (pV (ci := 5) (q := (RX5, TX5, 18)) hK hN hP hD [0, 1, 2, 3, 4, 5, 6, 7, 8, 9] rfl rfl rfl rfl) rfl rfl hl.1 rfl (lv_room (Nat.le_of_ble_eq_true rfl)) dX5_ifCleared_32 ⟨Nat.zero_le _, Nat.zero_le _⟩) hP hD hS hA [0, 1, 2, 3, 4, 5, 6, 7, 8, 9] rfl rfl (ws' := (wM cA adM u7.2)) rfl (fun H locs hP hD hS => ?_)
      refine lv_istore_n (lv' := [(3, .int u7.1), (0, .ref (adM 0)), (1, .int p1), (2, .int p2)]) hx hb dX5_ifCleared_35 rfl hl (by decide) rfl (fun ls hl => ?_)
      refine lv_iload_n hx hb dX5_ifCleared_36 rfl (lv_at hl 3 rfl) ?_
      refine lv_if_ne (tgt := 44) hx hb dX5_ifCleared_37 (by decide) (fun c8 => ?_) (fun c8 => ?_)
      · have h := (if_neg c8).symm.trans h
        refine lv_iload_n hx hb dX5_ifCleared_44 rfl (lv_at hl 3 rfl) ?_
        refine lv_iconst (v := (1 : Int32)) hx hb dX5_ifCleared_45 (by decide) ?_
        refine lv_icmp_ne (tgt := 69) hx hb dX5_ifCleared_46 (by decide) (fun c9 => ?_) (fun c9 => ?_)
        · have h := (if_neg c9).symm.trans h
          refine lv_aload_n hx hb dX5_ifCleared_69 rfl (lv_at hl 1 rfl) ?_
          refine va_get (D := D) (ci := 5) (v := .ref (adM 1)) (C := RX5) (T := TX5) (N := 18) hx hb hts iw_X5_ifCleared_X5 hown hK hP 0 rfl rfl 0 (by decide) (hts (.fieldLink RX5 7 "FavourRingsModel" "s" "[I") (List.mem_of_getElem? (i := 2) rfl)) (fun _ h9 => h9) rfl dX5_ifCleared_70 ?_
          refine lv_sipush (v := (290 : Int32)) hx hb dX5_ifCleared_73 (by decide) ?_
          obtain ⟨y10, ey10, h⟩ := bd_in h
          refine ldR hx hb hK hP 1 0 rfl rfl ey10 dX5_ifCleared_76 ?_
          exact B77 u7.2 y10 _ _ _ h hP hD hS (lv_sub hl [1] rfl)
        · have h := (if_pos c9).symm.trans h
          refine lv_aload_n hx hb dX5_ifCleared_49 rfl (lv_at hl 1 rfl) ?_
          refine va_get (D := D) (ci := 5) (v := .ref (adM 1)) (C := RX5) (T := TX5) (N := 18) hx hb hts iw_X5_ifCleared_X5 hown hK hP 0 rfl rfl 0 (by decide) (hts (.fieldLink RX5 7 "FavourRingsModel" "s" "[I") (List.mem_of_getElem? (i := 2) rfl)) (fun _ h9 => h9) rfl dX5_ifCleared_50 ?_
          refine lv_sipush (v := (296 : Int32)) hx hb dX5_ifCleared_53 (by decide) ?_
          obtain ⟨y11, ey11, h⟩ := bd_in h
          refine ldR hx hb hK hP 1 0 rfl rfl ey11 dX5_ifCleared_56 ?_
          refine lv_aload_n hx hb dX5_ifCleared_57 rfl (lv_at hl 1 rfl) ?_
          refine va_get (D := D) (ci := 5) (v := .ref (adM 4)) (C := RX5) (T := TX5) (N := 18) hx hb hts iw_X5_ifCleared_X5 hown hK hP 0 rfl rfl 3 (by decide) (hts (.fieldLink RX5 19 "FavourRingsModel" "spare" "[I") (List.mem_of_getElem? (i := 3) rfl)) (fun _ h9 => h9) rfl dX5_ifCleared_58 ?_
          refine lv_sipush (v := (296 : Int32)) hx hb dX5_ifCleared_61 (by decide) ?_
          obtain ⟨y12, ey12, h⟩ := bd_in h
          refine ldR hx hb hK hP 4 0 rfl rfl ey12 dX5_ifCleared_64 ?_
          refine lv_isub hx hb dX5_ifCleared_65 ?_
          refine lv_goto (tgt := 77) hx hb dX5_ifCleared_66 (by decide) ?_
          exact B77 u7.2 (y11 - y12) _ _ _ h hP hD hS (lv_sub hl [1] rfl)
      · have h := (if_pos c8).symm.trans h
        refine lv_iload_n hx hb dX5_ifCleared_40 rfl (lv_at hl 0 rfl) ?_
        refine lv_goto (tgt := 77) hx hb dX5_ifCleared_41 (by decide) ?_
        exact B77 u7.2 u7.1 _ _ _ h hP hD hS (lv_sub hl [1] rfl)
    · have h := (if_pos c5).symm.trans h
      refine lv_ldc (v := (-1000001 : Int32)) hx hb hown (hts (.constant RX5 86 (-1000001)) (List.mem_of_getElem? (i := 1) rfl)) dX5_ifCleared_16 ?_
      cases h
      exact endI hx hb hr hlocks hP hS rfl dX5_ifCleared_18
theorem iw_X5_lot_X5 : ∀ w ∈ wsX50, w ∈ wsX5_lot := fun _ h => List.mem_cons_of_mem _ (List.mem_append_right _ (h))
set_option maxHeartbeats 4000000 in
set_option maxRecDepth 100000 in
theorem c_X5_lot (l : Launch) (D : va_G) (cA cQ : ClassId) (adM : Nat → Nat) (vM : St) (p1 : Int32) (p2 : Int32) (o : Int32) (hf : X5_lot vM p1 p2 = some o) : Cti l yX5_lot wsX5_lot ({ frames := 1, cells := 0, slots := 0, locals := 22 }) D (TY cA cQ) [.ref (adM 0), .int p1, .int p2] (wM cA adM vM) (wM cA adM vM) o := by
  refine Wk.i (cc := cX5_lot) (maxL := 3) (ret := (some .int)) (by decide) rfl (Nat.le_of_ble_eq_true rfl) ?_
  intro p e s m below meth c A ls hx hb hr hlocks hml hown hts hK hN hP hD hA hl
  have hown : s.vm.findClass RX5 = some m.cls := hown
  have hS : va_S A s.heap s.heap [] := va_S.rf
  have hl : lv_has ls 3 [(0, .ref (adM 0)), (1, .int p1), (2, .int p2)] := hl
  have h := hf
  unfold X5_lot at h
  refine lv_iload_n hx hb dX5_lot_0 rfl (lv_at hl 1 rfl) ?_
  refine lv_if_lt (tgt := 13) hx hb dX5_lot_1 (by decide) (fun c1 => ?_) (fun c1 => ?_)
  · have h := (if_pos c1).symm.trans h
    refine lv_ldc (v := (-1000001 : Int32)) hx hb hown (hts (.constant RX5 86 (-1000001)) (List.mem_of_getElem? (i := 1) rfl)) dX5_lot_13 ?_
    cases h
    exact endI hx hb hr hlocks hP hS rfl dX5_lot_15
  · have h := (if_neg c1).symm.trans h
    refine lv_iload_n hx hb dX5_lot_4 rfl (lv_at hl 2 rfl) ?_
    refine lv_iconst (v := (0 : Int32)) hx hb dX5_lot_5 (by decide) ?_
    refine lv_iconst (v := (5 : Int32)) hx hb dX5_lot_6 (by decide) ?_
    obtain ⟨u2, eu2, h⟩ := bd_in h
    refine kI (va_runS (As := [.int p2, .int (0 : Int32), .int (5 : Int32)]) (rest := []) ⟨hx, hb, hml, hown, hts⟩ (c_X5_in l D cA cQ  p2 (0 : Int32) (5 : Int32) u2 eu2 _) (va_cwS 3 hts gX5_lot_X5_in rfl rfl rfl (by decide +kernel) ⟨Nat.le_of_ble_eq_true rfl, Nat.le_of_ble_eq_true rfl⟩) (pS hK hN hP hD [] rfl rfl) rfl rfl hl.1 rfl (lv_room (Nat.le_of_ble_eq_true rfl)) dX5_lot_7 ⟨Nat.zero_le _, Nat.zero_le _⟩) hP hD hS hA [] rfl rfl (ws' := (wM cA adM vM)) rfl (fun H locs hP hD hS => ?_)
    refine lv_if_ne (tgt := 16) hx hb dX5_lot_10 (by decide) (fun c3 => ?_) (fun c3 => ?_)
    · have h := (if_neg c3).symm.trans h
      refine lv_iload_n hx hb dX5_lot_16 rfl (lv_at hl 1 rfl) ?_
      refine lv_aload_n hx hb dX5_lot_17 rfl (lv_at hl 0 rfl) ?_
      refine va_get (D := D) (ci := 5) (v := .ref (adM 1)) (C := RX5) (T := TX5) (N := 18) hx hb hts iw_X5_lot_X5 hown hK hP 0 rfl rfl 0 (by decide) (hts (.fieldLink RX5 7 "FavourRingsModel" "s" "[I") (List.mem_of_getElem? (i := 2) rfl)) (fun _ h9 => h9) rfl dX5_lot_18 ?_
      refine lv_sipush (v := (290 : Int32)) hx hb dX5_lot_21 (by decide) ?_
      obtain ⟨y4, ey4, h⟩ := bd_in h
      refine ldR hx hb hK hP 1 0 rfl rfl ey4 dX5_lot_24 ?_
      refine lv_icmp_ge (tgt := 37) hx hb dX5_lot_25 (by decide) (fun c5 => ?_) (fun c5 => ?_)
      · have h := (if_pos c5).symm.trans h
        refine lv_ldc (v := (-1000004 : Int32)) hx hb hown (hts (.constant RX5 57 (-1000004)) (List.mem_of_getElem? (i := 3) rfl)) dX5_lot_37 ?_
        cases h
        exact endI hx hb hr hlocks hP hS rfl dX5_lot_39
      · have h := (if_neg c5).symm.trans h
        refine lv_aload_n hx hb dX5_lot_28 rfl (lv_at hl 0 rfl) ?_
        refine lv_iload_n hx hb dX5_lot_29 rfl (lv_at hl 1 rfl) ?_
        refine lv_iload_n hx hb dX5_lot_30 rfl (lv_at hl 2 rfl) ?_
        obtain ⟨u6, eu6, h⟩ := bd_in h
        refine kI (va_runV (As := [.int p1, .int p2]) (rest := []) ⟨hx, hb, hml, hown, hts⟩ (c_X5_of l D cA cQ adM vM p1 p2 u6 eu6 _) (cwV 2 hts gX5_lot_X5_of rfl rfl rfl (by decide +kernel) ⟨Nat.le_of_ble_eq_true rfl, Nat.le_of_ble_eq_true rfl⟩) (pV (ci := 5) (q := (RX5, TX5, 18)) hK hN hP hD [0, 1, 2, 3, 4, 5, 6, 7, 8, 9] rfl rfl rfl rfl) rfl rfl hl.1 rfl (lv_room (Nat.le_of_ble_eq_true rfl)) dX5_lot_31 ⟨Nat.zero_le _, Nat.zero_le _⟩) hP hD hS hA [0, 1, 2, 3, 4, 5, 6, 7, 8, 9] rfl rfl (ws' := (wM cA adM vM)) rfl (fun H locs hP hD hS => ?_)
        refine lv_goto (tgt := 39) hx hb dX5_lot_34 (by decide) ?_
        cases h
        exact endI hx hb hr hlocks hP hS rfl dX5_lot_39
    · have h := (if_pos c3).symm.trans h
      refine lv_ldc (v := (-1000001 : Int32)) hx hb hown (hts (.constant RX5 86 (-1000001)) (List.mem_of_getElem? (i := 1) rfl)) dX5_lot_13 ?_
      cases h
      exact endI hx hb hr hlocks hP hS rfl dX5_lot_15

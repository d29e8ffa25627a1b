theorem iw_X3_findNext_X3 : ∀ w ∈ wsX30, w ∈ wsX3_findNext := fun _ h => List.mem_cons_of_mem _ (List.mem_append_left _ (List.mem_append_right _ (h)))
set_option maxHeartbeats 4000000 in
set_option maxRecDepth 100000 in
theorem c_X3_findNext (l : Launch) (D : va_G) (cA cQ : ClassId) (adR : Nat → Nat) (adB : Nat → Nat) (vR : St) (vB : St) (p2 : Int32) (o : Int32 × St) (hf : X3_findNext vR vB p2 = some o) : Cti l yX3_findNext wsX3_findNext ({ frames := 2, cells := 0, slots := 0, locals := 49 }) D (TY cA cQ) [.ref (adR 0), .ref (adB 0), .int p2] (wR cA adR vR ++ (wB cA adB vB)) (wR cA adR o.2 ++ (wB cA adB vB)) o.1 := by
  refine Wk.i (cc := cX3_findNext) (maxL := 6) (ret := (some .boolean)) (by decide) rfl (Nat.le_of_ble_eq_true rfl) ?_
  intro p e s m below meth c A ls hx hb hr hlocks hml hown hts hK hN hP hD hA hl
  have hown : s.vm.findClass RX3 = some m.cls := hown
  have hS : va_S A s.heap s.heap [] := va_S.rf
  have hl : lv_has ls 6 [(0, .ref (adR 0)), (1, .ref (adB 0)), (2, .int p2)] := hl
  have B96 : ∀ (fu96 : Nat) (vR : St) (x4 : Int32) (H : Heap) (locs : List Loc) (ls : Array Slot), X3_findNext_l96 vB p2 fu96 vR x4 = some o → va_P D vwCl (wR cA adR vR ++ (wB cA adB vB)) H → va_D A (wR cA adR vR ++ (wB cA adB vB)) → va_S A s.heap H locs → lv_has ls 6 [(0, .ref (adR 0)), (4, .int x4)] → W p l e (headSpec wsX3_findNext ({ frames := 2, cells := 0, slots := 0, locals := 49 })).room s m ([.ref (adR 0), .ref (adB 0), .int p2] : List Value).toArray below meth c H locs 0 0 (MQ below (QI D (wR cA adR o.2 ++ (wB cA adB vB)) o.1 A) ([.ref (adR 0), .ref (adB 0), .int p2] : List Value).toArray s 0 0 A) (F0 m 96 ls []) := by
    intro fu96
    induction fu96 with
    | zero =>
      intro vR x4 H locs ls h hP hD hS hl
      cases h
    | succ fu96 ih96 =>
      intro vR x4 H locs ls h hP hD hS hl
      rw [X3_findNext_l96] at h
      refine lv_iload hx hb dX3_findNext_96 (lv_at hl 1 rfl) ?_
      refine lv_aload_n hx hb dX3_findNext_98 rfl (lv_at hl 0 rfl) ?_
      refine va_get (D := D) (ci := 3) (v := .int (vR 99 4)) (C := RX3) (T := TX3) (N := 5) hx hb hts iw_X3_findNext_X3 hown hK hP 0 rfl rfl 4 (by decide) (hts (.fieldLink RX3 24 "FavourRings$Rings" "length" "I") (List.mem_of_getElem? (i := 1) rfl)) (fun _ h9 => h9) rfl dX3_findNext_99 ?_
      refine lv_icmp_ge (tgt := 139) hx hb dX3_findNext_102 (by decide) (fun c1 => ?_) (fun c1 => ?_)
      · have h := (if_pos c1).symm.trans h
        refine lv_iconst (v := (1 : Int32)) hx hb dX3_findNext_139 (by decide) ?_
        cases h
        exact endZ hx hb hr hlocks hP hS ⟨rfl, rfl⟩ dX3_findNext_140
      · have h := (if_neg c1).symm.trans h
        refine lv_aload_n hx hb dX3_findNext_105 rfl (lv_at hl 0 rfl) ?_
        refine va_get (D := D) (ci := 3) (v := .ref (adR 4)) (C := RX3) (T := TX3) (N := 5) hx hb hts iw_X3_findNext_X3 hown hK hP 0 rfl rfl 3 (by decide) (hts (.fieldLink RX3 21 "FavourRings$Rings" "members" "[I") (List.mem_of_getElem? (i := 2) rfl)) (fun _ h9 => h9) rfl dX3_findNext_106 ?_
        refine lv_iload hx hb dX3_findNext_109 (lv_at hl 1 rfl) ?_
        refine lv_aload_n hx hb dX3_findNext_111 rfl (lv_at hl 0 rfl) ?_
        refine lv_aload_n hx hb dX3_findNext_112 rfl (lv_at hl 0 rfl) ?_
        refine lv_iload hx hb dX3_findNext_113 (lv_at hl 1 rfl) ?_
        refine lv_iconst (v := (1 : Int32)) hx hb dX3_findNext_115 (by decide) ?_
        refine lv_isub hx hb dX3_findNext_116 ?_
        obtain ⟨u2, eu2, h⟩ := bd_in h
        refine kI (va_runV (As := [.int (x4 - (1 : Int32))]) (rest := [.ref (adR 0), .int x4, .ref (adR 4)]) ⟨hx, hb, hml, hown, hts⟩ (c_X3_nextPupil l D cA cQ adR vR (x4 - (1 : Int32)) u2 eu2 _) (cwV 1 hts gX3_findNext_X3_nextPupil rfl rfl rfl (by decide +kernel) ⟨Nat.le_of_ble_eq_true rfl, Nat.le_of_ble_eq_true rfl⟩) (pV (ci := 3) (q := (RX3, TX3, 5)) hK hN hP hD [0, 1, 2, 3, 4] rfl rfl rfl rfl) rfl rfl hl.1 rfl (lv_room (Nat.le_of_ble_eq_true rfl)) dX3_findNext_117 ⟨Nat.zero_le _, Nat.zero_le _⟩) hP hD hS hA [0, 1, 2, 3, 4] rfl rfl (ws' := (wR cA adR vR ++ (wB cA adB vB))) rfl (fun H locs hP hD hS => ?_)
        refine lv_aload_n hx hb dX3_findNext_120 rfl (lv_at hl 0 rfl) ?_
        refine va_get (D := D) (ci := 3) (v := .int (vR 99 4)) (C := RX3) (T := TX3) (N := 5) hx hb hts iw_X3_findNext_X3 hown hK hP 0 rfl rfl 4 (by decide) (hts (.fieldLink RX3 24 "FavourRings$Rings" "length" "I") (List.mem_of_getElem? (i := 1) rfl)) (fun _ h9 => h9) rfl dX3_findNext_121 ?_
        refine lv_iload hx hb dX3_findNext_124 (lv_at hl 1 rfl) ?_
        refine lv_isub hx hb dX3_findNext_126 ?_
        obtain ⟨u3, eu3, h⟩ := bd_in h
        refine kI (va_runV (As := [.int u2, .int ((vR 99 4) - x4)]) (rest := [.int x4, .ref (adR 4)]) ⟨hx, hb, hml, hown, hts⟩ (c_X3_lowestBehind l D cA cQ adR vR u2 ((vR 99 4) - x4) u3 eu3 _) (cwV 2 hts gX3_findNext_X3_lowestBehind rfl rfl rfl (by decide +kernel) ⟨Nat.le_of_ble_eq_true rfl, Nat.le_of_ble_eq_true rfl⟩) (pV (ci := 3) (q := (RX3, TX3, 5)) hK hN hP hD [0, 1, 2, 3, 4] rfl rfl rfl rfl) rfl rfl hl.1 rfl (lv_room (Nat.le_of_ble_eq_true rfl)) dX3_findNext_127 ⟨Nat.zero_le _, Nat.zero_le _⟩) hP hD hS hA [0, 1, 2, 3, 4] rfl rfl (ws' := (wR cA adR vR ++ (wB cA adB vB))) rfl (fun H locs hP hD hS => ?_)
        obtain ⟨u4, eu4, h⟩ := bd_in h
        refine kV (va_runSN (As := [.ref (adR 4), .int x4, .int u3]) (rest := []) ⟨hx, hb, hml, hown, hts⟩ (c_X4_put l D cA cQ (adR 4) 8 (vR 4) x4 u3 u4 eu4 _) ⟨va_cnB 3 hts gX3_findNext_X4_put_n84 rfl rfl rfl hN.2.2.2.2.2.2.2.2.2.2.2.2.1 (hts (.initialized RX4) (List.mem_of_getElem? (i := 23) rfl)) (by decide +kernel) ⟨Nat.le_of_ble_eq_true rfl, Nat.le_of_ble_eq_true rfl⟩, (hts (.static yX4_put) (List.mem_of_getElem? (i := 33) rfl)), trivial⟩ (pS hK hN hP hD [4] rfl rfl) rfl rfl hl.1 rfl (lv_room (Nat.le_of_ble_eq_true rfl)) dX3_findNext_130 ⟨Nat.zero_le _, Nat.zero_le _⟩) hP hD hS hA [4] rfl rfl (ws' := (wR cA adR (setA vR 4 u4) ++ (wB cA adB vB))) rfl (fun H locs hP hD hS => ?_)
        refine lv_iinc (v := (x4 + (1 : Int32))) (lv' := [(4, .int (x4 + (1 : Int32))), (0, .ref (adR 0))]) hx hb dX3_findNext_133 hl (k := 1) rfl rfl (by decide) rfl (fun ls hl => ?_)
        refine lv_goto (tgt := 96) hx hb dX3_findNext_136 (by decide) ?_
        exact ih96 (setA vR 4 u4) (x4 + (1 : Int32)) _ _ _ h hP hD hS (lv_sub hl [1, 0] rfl)
  have B72 : ∀ (vR : St) (x3 : Int32) (H : Heap) (locs : List Loc) (ls : Array Slot), X3_findNext_b72 vB p2 vR x3 = some o → va_P D vwCl (wR cA adR vR ++ (wB cA adB vB)) H → va_D A (wR cA adR vR ++ (wB cA adB vB)) → va_S A s.heap H locs → lv_has ls 6 [(0, .ref (adR 0)), (3, .int x3)] → W p l e (headSpec wsX3_findNext ({ frames := 2, cells := 0, slots := 0, locals := 49 })).room s m ([.ref (adR 0), .ref (adB 0), .int p2] : List Value).toArray below meth c H locs 0 0 (MQ below (QI D (wR cA adR o.2 ++ (wB cA adB vB)) o.1 A) ([.ref (adR 0), .ref (adB 0), .int p2] : List Value).toArray s 0 0 A) (F0 m 72 ls []) := by
    intro vR x3 H locs ls h hP hD hS hl
    unfold X3_findNext_b72 at h
    refine lv_iload_n hx hb dX3_findNext_72 rfl (lv_at hl 1 rfl) ?_
    refine lv_if_ge (tgt := 78) hx hb dX3_findNext_73 (by decide) (fun c5 => ?_) (fun c5 => ?_)
    · have h := (if_pos c5).symm.trans h
      refine lv_aload_n hx hb dX3_findNext_78 rfl (lv_at hl 0 rfl) ?_
      refine lv_iload_n hx hb dX3_findNext_79 rfl (lv_at hl 1 rfl) ?_
      refine lv_iload_n hx hb dX3_findNext_80 rfl (lv_at hl 1 rfl) ?_
      obtain ⟨u6, eu6, h⟩ := bd_in h
      refine kV (va_runV (As := [.int x3, .int x3]) (rest := []) ⟨hx, hb, hml, hown, hts⟩ (c_X3_measureSteps l D cA cQ adR vR x3 x3 u6 eu6 _) (cwV 2 hts gX3_findNext_X3_measureSteps rfl rfl rfl (by decide +kernel) ⟨Nat.le_of_ble_eq_true rfl, Nat.le_of_ble_eq_true rfl⟩) (pV (ci := 3) (q := (RX3, TX3, 5)) hK hN hP hD [0, 1, 2, 3, 4] rfl rfl rfl rfl) rfl rfl hl.1 rfl (lv_room (Nat.le_of_ble_eq_true rfl)) dX3_findNext_81 ⟨Nat.zero_le _, Nat.zero_le _⟩) hP hD hS hA [0, 1, 2, 3, 4] rfl rfl (ws' := (wR cA adR u6 ++ (wB cA adB vB))) rfl (fun H locs hP hD hS => ?_)
      refine lv_aload_n hx hb dX3_findNext_84 rfl (lv_at hl 0 rfl) ?_
      refine va_get (D := D) (ci := 3) (v := .ref (adR 4)) (C := RX3) (T := TX3) (N := 5) hx hb hts iw_X3_findNext_X3 hown hK hP 0 rfl rfl 3 (by decide) (hts (.fieldLink RX3 21 "FavourRings$Rings" "members" "[I") (List.mem_of_getElem? (i := 2) rfl)) (fun _ h9 => h9) rfl dX3_findNext_85 ?_
      refine lv_iconst (v := (0 : Int32)) hx hb dX3_findNext_88 (by decide) ?_
      refine lv_iload_n hx hb dX3_findNext_89 rfl (lv_at hl 1 rfl) ?_
      obtain ⟨u7, eu7, h⟩ := bd_in h
      refine kV (va_runSN (As := [.ref (adR 4), .int (0 : Int32), .int x3]) (rest := []) ⟨hx, hb, hml, hown, hts⟩ (c_X4_put l D cA cQ (adR 4) 8 (u6 4) (0 : Int32) x3 u7 eu7 _) ⟨va_cnB 3 hts gX3_findNext_X4_put_n84 rfl rfl rfl hN.2.2.2.2.2.2.2.2.2.2.2.2.1 (hts (.initialized RX4) (List.mem_of_getElem? (i := 23) rfl)) (by decide +kernel) ⟨Nat.le_of_ble_eq_true rfl, Nat.le_of_ble_eq_true rfl⟩, (hts (.static yX4_put) (List.mem_of_getElem? (i := 33) rfl)), trivial⟩ (pS hK hN hP hD [4] rfl rfl) rfl rfl hl.1 rfl (lv_room (Nat.le_of_ble_eq_true rfl)) dX3_findNext_90 ⟨Nat.zero_le _, Nat.zero_le _⟩) hP hD hS hA [4] rfl rfl (ws' := (wR cA adR (setA u6 4 u7) ++ (wB cA adB vB))) rfl (fun H locs hP hD hS => ?_)
      refine lv_iconst (v := (1 : Int32)) hx hb dX3_findNext_93 (by decide) ?_
      refine lv_istore (lv' := [(4, .int (1 : Int32)), (0, .ref (adR 0)), (3, .int x3)]) hx hb dX3_findNext_94 hl (by decide) rfl (fun ls hl => ?_)
      exact B96 FU (setA u6 4 u7) (1 : Int32) _ _ _ h hP hD hS (lv_sub hl [1, 0] rfl)
    · have h := (if_neg c5).symm.trans h
      refine lv_iconst (v := (0 : Int32)) hx hb dX3_findNext_76 (by decide) ?_
      cases h
      exact endZ hx hb hr hlocks hP hS ⟨rfl, rfl⟩ dX3_findNext_77
  have B16 : ∀ (fu16 : Nat) (vR : St) (x3 : Int32) (x4 : Int32) (H : Heap) (locs : List Loc) (ls : Array Slot), X3_findNext_l16 vB p2 fu16 vR x3 x4 = some o → va_P D vwCl (wR cA adR vR ++ (wB cA adB vB)) H → va_D A (wR cA adR vR ++ (wB cA adB vB)) → va_S A s.heap H locs → lv_has ls 6 [(0, .ref (adR 0)), (3, .int x3), (4, .int x4)] → W p l e (headSpec wsX3_findNext ({ frames := 2, cells := 0, slots := 0, locals := 49 })).room s m ([.ref (adR 0), .ref (adB 0), .int p2] : List Value).toArray below meth c H locs 0 0 (MQ below (QI D (wR cA adR o.2 ++ (wB cA adB vB)) o.1 A) ([.ref (adR 0), .ref (adB 0), .int p2] : List Value).toArray s 0 0 A) (F0 m 16 ls []) := by
    intro fu16
    induction fu16 with
    | zero =>
      intro vR x3 x4 H locs ls h hP hD hS hl
      cases h
    | succ fu16 ih16 =>
      have B57 : ∀ (vR : St) (x4 : Int32) (x5 : Int32) (H : Heap) (locs : List Loc) (ls : Array Slot), X3_findNext_b57 vB p2 (X3_findNext_l16 vB p2 fu16) vR x4 x5 = some o → va_P D vwCl (wR cA adR vR ++ (wB cA adB vB)) H → va_D A (wR cA adR vR ++ (wB cA adB vB)) → va_S A s.heap H locs → lv_has ls 6 [(0, .ref (adR 0)), (4, .int x4), (5, .int x5)] → W p l e (headSpec wsX3_findNext ({ frames := 2, cells := 0, slots := 0, locals := 49 })).room s m ([.ref (adR 0), .ref (adB 0), .int p2] : List Value).toArray below meth c H locs 0 0 (MQ below (QI D (wR cA adR o.2 ++ (wB cA adB vB)) o.1 A) ([.ref (adR 0), .ref (adB 0), .int p2] : List Value).toArray s 0 0 A) (F0 m 57 ls []) := by
        intro vR x4 x5 H locs ls h hP hD hS hl
        unfold X3_findNext_b57 at h
        refine lv_iload hx hb dX3_findNext_57 (lv_at hl 1 rfl) ?_
        refine lv_istore_n (lv' := [(3, .int x4), (0, .ref (adR 0)), (4, .int x4), (5, .int x5)]) hx hb dX3_findNext_59 rfl hl (by decide) rfl (fun ls hl => ?_)
        refine lv_aload_n hx hb dX3_findNext_60 rfl (lv_at hl 1 rfl) ?_
        refine lv_iload hx hb dX3_findNext_61 (lv_at hl 3 rfl) ?_
        refine ptR (ci := 3) (v := .int x5) (ty := .int) (C := RX3) (T := TX3) (N := 5) hx hb hts iw_X3_findNext_X3 tyX3 tyX3_ok nmX3 hown hK hP hD hS 0 rfl rfl 4 (by decide) (hts (.fieldLink RX3 24 "FavourRings$Rings" "length" "I") (List.mem_of_getElem? (i := 1) rfl)) (fun _ h9 => h9) rfl (by decide +kernel) rfl rfl (Nat.le_of_ble_eq_true rfl) (ws' := (wR cA adR (setI vR 4 x5) ++ (wB cA adB vB))) rfl dX3_findNext_63 (fun H locs hP hD hS => ?_)
        refine lv_iinc (v := (x4 + (1 : Int32))) (lv' := [(4, .int (x4 + (1 : Int32))), (3, .int x4), (0, .ref (adR 0)), (5, .int x5)]) hx hb dX3_findNext_66 hl (k := 2) rfl rfl (by decide) rfl (fun ls hl => ?_)
        refine lv_goto (tgt := 16) hx hb dX3_findNext_69 (by decide) ?_
        exact ih16 (setI vR 4 x5) x4 (x4 + (1 : Int32)) _ _ _ h hP hD hS (lv_sub hl [2, 1, 0] rfl)
      intro vR x3 x4 H locs ls h hP hD hS hl
      rw [X3_findNext_l16] at h
      refine lv_iload hx hb dX3_findNext_16 (lv_at hl 2 rfl) ?_
      refine lv_bipush (v := (8 : Int32)) hx hb dX3_findNext_18 (by decide) ?_
      refine lv_icmp_ge (tgt := 72) hx hb dX3_findNext_20 (by decide) (fun c8 => ?_) (fun c8 => ?_)
      · have h := (if_pos c8).symm.trans h
        exact B72 vR x3 _ _ _ h hP hD hS (lv_sub hl [0, 1] rfl)
      · have h := (if_neg c8).symm.trans h
        refine lv_aload_n hx hb dX3_findNext_23 rfl (lv_at hl 0 rfl) ?_
        refine lv_iload hx hb dX3_findNext_24 (lv_at hl 2 rfl) ?_
        refine lv_iload hx hb dX3_findNext_26 (lv_at hl 2 rfl) ?_
        obtain ⟨u9, eu9, h⟩ := bd_in h
        refine kV (va_runV (As := [.int x4, .int x4]) (rest := []) ⟨hx, hb, hml, hown, hts⟩ (c_X3_measureSteps l D cA cQ adR vR x4 x4 u9 eu9 _) (cwV 2 hts gX3_findNext_X3_measureSteps rfl rfl rfl (by decide +kernel) ⟨Nat.le_of_ble_eq_true rfl, Nat.le_of_ble_eq_true rfl⟩) (pV (ci := 3) (q := (RX3, TX3, 5)) hK hN hP hD [0, 1, 2, 3, 4] rfl rfl rfl rfl) rfl rfl hl.1 rfl (lv_room (Nat.le_of_ble_eq_true rfl)) dX3_findNext_28 ⟨Nat.zero_le _, Nat.zero_le _⟩) hP hD hS hA [0, 1, 2, 3, 4] rfl rfl (ws' := (wR cA adR u9 ++ (wB cA adB vB))) rfl (fun H locs hP hD hS => ?_)
        refine lv_aload_n hx hb dX3_findNext_31 rfl (lv_at hl 0 rfl) ?_
        refine lv_iload hx hb dX3_findNext_32 (lv_at hl 2 rfl) ?_
        obtain ⟨u10, eu10, h⟩ := bd_in h
        refine kI (va_runV (As := [.int x4]) (rest := []) ⟨hx, hb, hml, hown, hts⟩ (c_X3_shortestFrom l D cA cQ adR u9 x4 u10 eu10 _) (cwV 1 hts gX3_findNext_X3_shortestFrom rfl rfl rfl (by decide +kernel) ⟨Nat.le_of_ble_eq_true rfl, Nat.le_of_ble_eq_true rfl⟩) (pV (ci := 3) (q := (RX3, TX3, 5)) hK hN hP hD [0, 1, 2, 3, 4] rfl rfl rfl rfl) rfl rfl hl.1 rfl (lv_room (Nat.le_of_ble_eq_true rfl)) dX3_findNext_34 ⟨Nat.zero_le _, Nat.zero_le _⟩) hP hD hS hA [0, 1, 2, 3, 4] rfl rfl (ws' := (wR cA adR u9 ++ (wB cA adB vB))) rfl (fun H locs hP hD hS => ?_)
        refine lv_istore (lv' := [(5, .int u10), (0, .ref (adR 0)), (3, .int x3), (4, .int x4)]) hx hb dX3_findNext_37 hl (by decide) rfl (fun ls hl => ?_)
        refine lv_iload hx hb dX3_findNext_39 (lv_at hl 0 rfl) ?_
        refine lv_if_le (tgt := 66) hx hb dX3_findNext_41 (by decide) (fun c11 => ?_) (fun c11 => ?_)
        · have h := (if_pos c11).symm.trans h
          refine lv_iinc (v := (x4 + (1 : Int32))) (lv' := [(4, .int (x4 + (1 : Int32))), (5, .int u10), (0, .ref (adR 0)), (3, .int x3)]) hx hb dX3_findNext_66 hl (k := 3) rfl rfl (by decide) rfl (fun ls hl => ?_)
          refine lv_goto (tgt := 16) hx hb dX3_findNext_69 (by decide) ?_
          exact ih16 u9 x3 (x4 + (1 : Int32)) _ _ _ h hP hD hS (lv_sub hl [2, 3, 0] rfl)
        · have h := (if_neg c11).symm.trans h
          refine lv_iload_n hx hb dX3_findNext_44 rfl (lv_at hl 2 rfl) ?_
          refine lv_if_lt (tgt := 57) hx hb dX3_findNext_45 (by decide) (fun c12 => ?_) (fun c12 => ?_)
          · have h := (if_pos c12).symm.trans h
            exact B57 u9 x4 u10 _ _ _ h hP hD hS (lv_sub hl [1, 3, 0] rfl)
          · have h := (if_neg c12).symm.trans h
            refine lv_iload hx hb dX3_findNext_48 (lv_at hl 0 rfl) ?_
            refine lv_aload_n hx hb dX3_findNext_50 rfl (lv_at hl 1 rfl) ?_
            refine va_get (D := D) (ci := 3) (v := .int (u9 99 4)) (C := RX3) (T := TX3) (N := 5) hx hb hts iw_X3_findNext_X3 hown hK hP 0 rfl rfl 4 (by decide) (hts (.fieldLink RX3 24 "FavourRings$Rings" "length" "I") (List.mem_of_getElem? (i := 1) rfl)) (fun _ h9 => h9) rfl dX3_findNext_51 ?_
            refine lv_icmp_ge (tgt := 66) hx hb dX3_findNext_54 (by decide) (fun c13 => ?_) (fun c13 => ?_)
            · have h := (if_pos c13).symm.trans h
              refine lv_iinc (v := (x4 + (1 : Int32))) (lv' := [(4, .int (x4 + (1 : Int32))), (5, .int u10), (0, .ref (adR 0)), (3, .int x3)]) hx hb dX3_findNext_66 hl (k := 3) rfl rfl (by decide) rfl (fun ls hl => ?_)
              refine lv_goto (tgt := 16) hx hb dX3_findNext_69 (by decide) ?_
              exact ih16 u9 x3 (x4 + (1 : Int32)) _ _ _ h hP hD hS (lv_sub hl [2, 3, 0] rfl)
            · have h := (if_neg c13).symm.trans h
              exact B57 u9 x4 u10 _ _ _ h hP hD hS (lv_sub hl [1, 3, 0] rfl)
  have h := hf
  unfold X3_findNext at h
  refine lv_aload_n hx hb dX3_findNext_0 rfl (lv_at hl 0 rfl) ?_
  refine lv_aload_n hx hb dX3_findNext_1 rfl (lv_at hl 1 rfl) ?_
  refine lv_iload_n hx hb dX3_findNext_2 rfl (lv_at hl 2 rfl) ?_
  obtain ⟨u14, eu14, h⟩ := bd_in h
  refine kV (va_runV (As := [.ref (adB 0), .int p2]) (rest := []) ⟨hx, hb, hml, hown, hts⟩ (c_X3_readOwed l D cA cQ adR adB vR vB p2 u14 eu14 _) (cwV 2 hts gX3_findNext_X3_readOwed rfl rfl rfl (by decide +kernel) ⟨Nat.le_of_ble_eq_true rfl, Nat.le_of_ble_eq_true rfl⟩) (pV (ci := 3) (q := (RX3, TX3, 5)) hK hN hP hD [0, 1, 2, 3, 4, 5, 6, 7, 8, 9, 10, 11, 12, 13, 14, 15, 16, 17, 18] rfl rfl rfl rfl) rfl rfl hl.1 rfl (lv_room (Nat.le_of_ble_eq_true rfl)) dX3_findNext_3 ⟨Nat.zero_le _, Nat.zero_le _⟩) hP hD hS hA [0, 1, 2, 3, 4, 5, 6, 7, 8, 9, 10, 11, 12, 13, 14, 15, 16, 17, 18] rfl rfl (ws' := (wR cA adR u14 ++ (wB cA adB vB))) rfl (fun H locs hP hD hS => ?_)
  refine lv_aload_n hx hb dX3_findNext_6 rfl (lv_at hl 0 rfl) ?_
  refine lv_iconst (v := (0 : Int32)) hx hb dX3_findNext_7 (by decide) ?_
  refine ptR (ci := 3) (v := .int (0 : Int32)) (ty := .int) (C := RX3) (T := TX3) (N := 5) hx hb hts iw_X3_findNext_X3 tyX3 tyX3_ok nmX3 hown hK hP hD hS 0 rfl rfl 4 (by decide) (hts (.fieldLink RX3 24 "FavourRings$Rings" "length" "I") (List.mem_of_getElem? (i := 1) rfl)) (fun _ h9 => h9) rfl (by decide +kernel) rfl rfl (Nat.le_of_ble_eq_true rfl) (ws' := (wR cA adR (setI u14 4 (0 : Int32)) ++ (wB cA adB vB))) rfl dX3_findNext_8 (fun H locs hP hD hS => ?_)
  refine lv_iconst (v := (-1 : Int32)) hx hb dX3_findNext_11 (by decide) ?_
  refine lv_istore_n (lv' := [(3, .int (-1 : Int32)), (0, .ref (adR 0)), (1, .ref (adB 0)), (2, .int p2)]) hx hb dX3_findNext_12 rfl hl (by decide) rfl (fun ls hl => ?_)
  refine lv_iconst (v := (0 : Int32)) hx hb dX3_findNext_13 (by decide) ?_
  refine lv_istore (lv' := [(4, .int (0 : Int32)), (3, .int (-1 : Int32)), (0, .ref (adR 0)), (1, .ref (adB 0)), (2, .int p2)]) hx hb dX3_findNext_14 hl (by decide) rfl (fun ls hl => ?_)
  exact B16 FU (setI u14 4 (0 : Int32)) (-1 : Int32) (0 : Int32) _ _ _ h hP hD hS (lv_sub hl [2, 1, 0] rfl)
theorem iw_X3_pupilBehind_X3 : ∀ w ∈ wsX30, w ∈ wsX3_pupilBehind := fun _ h => List.mem_cons_of_mem _ (List.mem_append_right _ (h))
set_option maxHeartbeats 4000000 in
set_option maxRecDepth 100000 in
theorem c_X3_pupilBehind (l : Launch) (D : va_G) (cA cQ : ClassId) (adR : Nat → Nat) (vR : St) (p1 : Int32) (o : Int32) (hf : X3_pupilBehind vR p1 = some o) : Cti l yX3_pupilBehind wsX3_pupilBehind ({ frames := 1, cells := 0, slots := 0, locals := 21 }) D (TY cA cQ) [.ref (adR 0), .int p1] (wR cA adR vR) (wR cA adR vR) o := by
  refine Wk.i (cc := cX3_pupilBehind) (maxL := 2) (ret := (some .int)) (by decide) rfl (Nat.le_of_ble_eq_true rfl) ?_
  intro p e s m below meth c A ls hx hb hr hlocks hml hown hts hK hN hP hD hA hl
  have hown : s.vm.findClass RX3 = some m.cls := hown
  have hS : va_S A s.heap s.heap [] := va_S.rf
  have hl : lv_has ls 2 [(0, .ref (adR 0)), (1, .int p1)] := hl
  have B21 : ∀ (t1 : Int32) (H : Heap) (locs : List Loc) (ls : Array Slot), X3_pupilBehind_b21 vR p1 t1 = some o → va_P D vwCl (wR cA adR vR) H → va_D A (wR cA adR vR) → va_S A s.heap H locs → lv_has ls 2 [] → W p l e (headSpec wsX3_pupilBehind ({ frames := 1, cells := 0, slots := 0, locals := 21 })).room s m ([.ref (adR 0), .int p1] : List Value).toArray below meth c H locs 0 0 (MQ below (QI D (wR cA adR vR) o A) ([.ref (adR 0), .int p1] : List Value).toArray s 0 0 A) (F0 m 21 ls [.int t1, .ref (adR 4)]) := by
    intro t1 H locs ls h hP hD hS hl
    unfold X3_pupilBehind_b21 at h
    obtain ⟨u1, eu1, h⟩ := bd_in h
    refine kI (va_runSN (As := [.ref (adR 4), .int t1]) (rest := []) ⟨hx, hb, hml, hown, hts⟩ (c_X4_at l D cA cQ (adR 4) 8 (vR 4) t1 u1 eu1 _) ⟨va_cnB 2 hts gX3_pupilBehind_X4_at_n28 rfl rfl rfl hN.2.2.2.2.2.2.2.2.2.2.1 (hts (.initialized RX4) (List.mem_of_getElem? (i := 4) rfl)) (by decide +kernel) ⟨Nat.le_of_ble_eq_true rfl, Nat.le_of_ble_eq_true rfl⟩, (hts (.static yX4_at) (List.mem_of_getElem? (i := 3) rfl)), trivial⟩ (pS hK hN hP hD [4] rfl rfl) rfl rfl hl.1 rfl (lv_room (Nat.le_of_ble_eq_true rfl)) dX3_pupilBehind_21 ⟨Nat.zero_le _, Nat.zero_le _⟩) hP hD hS hA [4] rfl rfl (ws' := (wR cA adR vR)) rfl (fun H locs hP hD hS => ?_)
    cases h
    exact endI hx hb hr hlocks hP hS rfl dX3_pupilBehind_24
  have h := hf
  unfold X3_pupilBehind at h
  refine lv_aload_n hx hb dX3_pupilBehind_0 rfl (lv_at hl 0 rfl) ?_
  refine va_get (D := D) (ci := 3) (v := .ref (adR 4)) (C := RX3) (T := TX3) (N := 5) hx hb hts iw_X3_pupilBehind_X3 hown hK hP 0 rfl rfl 3 (by decide) (hts (.fieldLink RX3 21 "FavourRings$Rings" "members" "[I") (List.mem_of_getElem? (i := 1) rfl)) (fun _ h9 => h9) rfl dX3_pupilBehind_1 ?_
  refine lv_iload_n hx hb dX3_pupilBehind_4 rfl (lv_at hl 1 rfl) ?_
  refine lv_iconst (v := (1 : Int32)) hx hb dX3_pupilBehind_5 (by decide) ?_
  refine lv_iadd hx hb dX3_pupilBehind_6 ?_
  refine lv_aload_n hx hb dX3_pupilBehind_7 rfl (lv_at hl 0 rfl) ?_
  refine va_get (D := D) (ci := 3) (v := .int (vR 99 4)) (C := RX3) (T := TX3) (N := 5) hx hb hts iw_X3_pupilBehind_X3 hown hK hP 0 rfl rfl 4 (by decide) (hts (.fieldLink RX3 24 "FavourRings$Rings" "length" "I") (List.mem_of_getElem? (i := 2) rfl)) (fun _ h9 => h9) rfl dX3_pupilBehind_8 ?_
  refine lv_icmp_ge (tgt := 20) hx hb dX3_pupilBehind_11 (by decide) (fun c2 => ?_) (fun c2 => ?_)
  · have h := (if_pos c2).symm.trans h
    refine lv_iconst (v := (0 : Int32)) hx hb dX3_pupilBehind_20 (by decide) ?_
    exact B21 (0 : Int32) _ _ _ h hP hD hS (lv_sub hl [] rfl)
  · have h := (if_neg c2).symm.trans h
    refine lv_iload_n hx hb dX3_pupilBehind_14 rfl (lv_at hl 1 rfl) ?_
    refine lv_iconst (v := (1 : Int32)) hx hb dX3_pupilBehind_15 (by decide) ?_
    refine lv_iadd hx hb dX3_pupilBehind_16 ?_
    refine lv_goto (tgt := 21) hx hb dX3_pupilBehind_17 (by decide) ?_
    exact B21 (p1 + (1 : Int32)) _ _ _ h hP hD hS (lv_sub hl [] rfl)
theorem iw_X3_nextAmount_X3 : ∀ w ∈ wsX30, w ∈ wsX3_nextAmount := fun _ h => List.mem_cons_of_mem _ (List.mem_append_right _ (h))
set_option maxHeartbeats 4000000 in
set_option maxRecDepth 100000 in
theorem c_X3_nextAmount (l : Launch) (D : va_G) (cA cQ : ClassId) (adR : Nat → Nat) (vR : St) (o : Int32) (hf : X3_nextAmount vR = some o) : Cti l yX3_nextAmount wsX3_nextAmount ({ frames := 2, cells := 0, slots := 0, locals := 42 }) D (TY cA cQ) [.ref (adR 0)] (wR cA adR vR) (wR cA adR vR) o := by
  refine Wk.i (cc := cX3_nextAmount) (maxL := 4) (ret := (some .int)) (by decide) rfl (Nat.le_of_ble_eq_true rfl) ?_
  intro p e s m below meth c A ls hx hb hr hlocks hml hown hts hK hN hP hD hA hl
  have hown : s.vm.findClass RX3 = some m.cls := hown
  have hS : va_S A s.heap s.heap [] := va_S.rf
  have hl : lv_has ls 4 [(0, .ref (adR 0))] := hl
  have B4 : ∀ (fu4 : Nat) (x1 : Int32) (x2 : Int32) (H : Heap) (locs : List Loc) (ls : Array Slot), X3_nextAmount_l4 vR fu4 x1 x2 = some o → va_P D vwCl (wR cA adR vR) H → va_D A (wR cA adR vR) → va_S A s.heap H locs → lv_has ls 4 [(0, .ref (adR 0)), (1, .int x1), (2, .int x2)] → W p l e (headSpec wsX3_nextAmount ({ frames := 2, cells := 0, slots := 0, locals := 42 })).room s m ([.ref (adR 0)] : List Value).toArray below meth c H locs 0 0 (MQ below (QI D (wR cA adR vR) o A) ([.ref (adR 0)] : List Value).toArray s 0 0 A) (F0 m 4 ls []) := by
    intro fu4
    induction fu4 with
    | zero =>
      intro x1 x2 H locs ls h hP hD hS hl
      cases h
    | succ fu4 ih4 =>
      intro x1 x2 H locs ls h hP hD hS hl
      rw [X3_nextAmount_l4] at h
      refine lv_iload_n hx hb dX3_nextAmount_4 rfl (lv_at hl 2 rfl) ?_
      refine lv_aload_n hx hb dX3_nextAmount_5 rfl (lv_at hl 0 rfl) ?_
      refine va_get (D := D) (ci := 3) (v := .int (vR 99 4)) (C := RX3) (T := TX3) (N := 5) hx hb hts iw_X3_nextAmount_X3 hown hK hP 0 rfl rfl 4 (by decide) (hts (.fieldLink RX3 24 "FavourRings$Rings" "length" "I") (List.mem_of_getElem? (i := 1) rfl)) (fun _ h9 => h9) rfl dX3_nextAmount_6 ?_
      refine lv_icmp_ge (tgt := 47) hx hb dX3_nextAmount_9 (by decide) (fun c1 => ?_) (fun c1 => ?_)
      · have h := (if_pos c1).symm.trans h
        refine lv_iload_n hx hb dX3_nextAmount_47 rfl (lv_at hl 1 rfl) ?_
        cases h
        exact endI hx hb hr hlocks hP hS rfl dX3_nextAmount_48
      · have h := (if_neg c1).symm.trans h
        refine lv_aload_n hx hb dX3_nextAmount_12 rfl (lv_at hl 0 rfl) ?_
        refine lv_aload_n hx hb dX3_nextAmount_13 rfl (lv_at hl 0 rfl) ?_
        refine lv_iload_n hx hb dX3_nextAmount_14 rfl (lv_at hl 2 rfl) ?_
        obtain ⟨u2, eu2, h⟩ := bd_in h
        refine kI (va_runV (As := [.int x2]) (rest := [.ref (adR 0)]) ⟨hx, hb, hml, hown, hts⟩ (c_X3_nextPupil l D cA cQ adR vR x2 u2 eu2 _) (cwV 1 hts gX3_nextAmount_X3_nextPupil rfl rfl rfl (by decide +kernel) ⟨Nat.le_of_ble_eq_true rfl, Nat.le_of_ble_eq_true rfl⟩) (pV (ci := 3) (q := (RX3, TX3, 5)) hK hN hP hD [0, 1, 2, 3, 4] rfl rfl rfl rfl) rfl rfl hl.1 rfl (lv_room (Nat.le_of_ble_eq_true rfl)) dX3_nextAmount_15 ⟨Nat.zero_le _, Nat.zero_le _⟩) hP hD hS hA [0, 1, 2, 3, 4] rfl rfl (ws' := (wR cA adR vR)) rfl (fun H locs hP hD hS => ?_)
        refine lv_aload_n hx hb dX3_nextAmount_18 rfl (lv_at hl 0 rfl) ?_
        refine lv_iload_n hx hb dX3_nextAmount_19 rfl (lv_at hl 2 rfl) ?_
        obtain ⟨u3, eu3, h⟩ := bd_in h
        refine kI (va_runV (As := [.int x2]) (rest := [.int u2, .ref (adR 0)]) ⟨hx, hb, hml, hown, hts⟩ (c_X3_pupilBehind l D cA cQ adR vR x2 u3 eu3 _) (cwV 1 hts gX3_nextAmount_X3_pupilBehind rfl rfl rfl (by decide +kernel) ⟨Nat.le_of_ble_eq_true rfl, Nat.le_of_ble_eq_true rfl⟩) (pV (ci := 3) (q := (RX3, TX3, 5)) hK hN hP hD [0, 1, 2, 3, 4] rfl rfl rfl rfl) rfl rfl hl.1 rfl (lv_room (Nat.le_of_ble_eq_true rfl)) dX3_nextAmount_20 ⟨Nat.zero_le _, Nat.zero_le _⟩) hP hD hS hA [0, 1, 2, 3, 4] rfl rfl (ws' := (wR cA adR vR)) rfl (fun H locs hP hD hS => ?_)
        obtain ⟨u4, eu4, h⟩ := bd_in h
        refine kI (va_runV (As := [.int u2, .int u3]) (rest := []) ⟨hx, hb, hml, hown, hts⟩ (c_X3_owedBetween l D cA cQ adR vR u2 u3 u4 eu4 _) (cwV 2 hts gX3_nextAmount_X3_owedBetween rfl rfl rfl (by decide +kernel) ⟨Nat.le_of_ble_eq_true rfl, Nat.le_of_ble_eq_true rfl⟩) (pV (ci := 3) (q := (RX3, TX3, 5)) hK hN hP hD [0, 1, 2, 3, 4] rfl rfl rfl rfl) rfl rfl hl.1 rfl (lv_room (Nat.le_of_ble_eq_true rfl)) dX3_nextAmount_23 ⟨Nat.zero_le _, Nat.zero_le _⟩) hP hD hS hA [0, 1, 2, 3, 4] rfl rfl (ws' := (wR cA adR vR)) rfl (fun H locs hP hD hS => ?_)
        refine lv_istore_n (lv' := [(3, .int u4), (0, .ref (adR 0)), (1, .int x1), (2, .int x2)]) hx hb dX3_nextAmount_26 rfl hl (by decide) rfl (fun ls hl => ?_)
        refine lv_iload_n hx hb dX3_nextAmount_27 rfl (lv_at hl 3 rfl) ?_
        refine lv_if_ne (tgt := 35) hx hb dX3_nextAmount_28 (by decide) (fun c5 => ?_) (fun c5 => ?_)
        · have h := (if_neg c5).symm.trans h
          refine lv_iload_n hx hb dX3_nextAmount_35 rfl (lv_at hl 2 rfl) ?_
          refine lv_iload_n hx hb dX3_nextAmount_36 rfl (lv_at hl 0 rfl) ?_
          refine va_mmin hx hb (hml.trans hl.1.symm) hown (hts (.methodLink RX3 43 Lib.Math.min.name) (List.mem_of_getElem? (i := 2) rfl)) (hts (.static Lib.Math.min.name) (List.mem_of_getElem? (i := 3) rfl)) (hts (.initialized "java/lang/Math") (List.mem_of_getElem? (i := 4) rfl)) (hts (.code Lib.Math.min.name Lib.Math.min.code 2 (some .int)) (List.mem_of_getElem? (i := 5) rfl)) (Nat.le_of_ble_eq_true rfl) (Nat.le_of_ble_eq_true rfl) (Nat.zero_le _) (Nat.zero_le _) dX3_nextAmount_37 ?_
          refine lv_istore_n (lv' := [(1, .int (if u4 < x1 then u4 else x1)), (3, .int u4), (0, .ref (adR 0)), (2, .int x2)]) hx hb dX3_nextAmount_40 rfl hl (by decide) rfl (fun ls hl => ?_)
          refine lv_iinc (v := (x2 + (1 : Int32))) (lv' := [(2, .int (x2 + (1 : Int32))), (1, .int (if u4 < x1 then u4 else x1)), (3, .int u4), (0, .ref (adR 0))]) hx hb dX3_nextAmount_41 hl (k := 3) rfl rfl (by decide) rfl (fun ls hl => ?_)
          refine lv_goto (tgt := 4) hx hb dX3_nextAmount_44 (by decide) ?_
          exact ih4 (if u4 < x1 then u4 else x1) (x2 + (1 : Int32)) _ _ _ h hP hD hS (lv_sub hl [3, 1, 0] rfl)
        · have h := (if_pos c5).symm.trans h
          refine lv_iload_n hx hb dX3_nextAmount_31 rfl (lv_at hl 0 rfl) ?_
          refine lv_goto (tgt := 40) hx hb dX3_nextAmount_32 (by decide) ?_
          refine lv_istore_n (lv' := [(1, .int u4), (3, .int u4), (0, .ref (adR 0)), (2, .int x2)]) hx hb dX3_nextAmount_40 rfl hl (by decide) rfl (fun ls hl => ?_)
          refine lv_iinc (v := (x2 + (1 : Int32))) (lv' := [(2, .int (x2 + (1 : Int32))), (1, .int u4), (3, .int u4), (0, .ref (adR 0))]) hx hb dX3_nextAmount_41 hl (k := 3) rfl rfl (by decide) rfl (fun ls hl => ?_)
          refine lv_goto (tgt := 4) hx hb dX3_nextAmount_44 (by decide) ?_
          exact ih4 u4 (x2 + (1 : Int32)) _ _ _ h hP hD hS (lv_sub hl [3, 1, 0] rfl)
  have h := hf
  unfold X3_nextAmount at h
  refine lv_iconst (v := (0 : Int32)) hx hb dX3_nextAmount_0 (by decide) ?_
  refine lv_istore_n (lv' := [(1, .int (0 : Int32)), (0, .ref (adR 0))]) hx hb dX3_nextAmount_1 rfl hl (by decide) rfl (fun ls hl => ?_)
  refine lv_iconst (v := (0 : Int32)) hx hb dX3_nextAmount_2 (by decide) ?_
  refine lv_istore_n (lv' := [(2, .int (0 : Int32)), (1, .int (0 : Int32)), (0, .ref (adR 0))]) hx hb dX3_nextAmount_3 rfl hl (by decide) rfl (fun ls hl => ?_)
  exact B4 FU (0 : Int32) (0 : Int32) _ _ _ h hP hD hS (lv_sub hl [2, 1, 0] rfl)
theorem iw_X3_clearKind_X3 : ∀ w ∈ wsX30, w ∈ wsX3_clearKind := fun _ h => List.mem_cons_of_mem _ (List.mem_append_left _ (List.mem_append_right _ (h)))
set_option maxHeartbeats 4000000 in
set_option maxRecDepth 100000 in
theorem c_X3_clearKind (l : Launch) (D : va_G) (cA cQ : ClassId) (adR : Nat → Nat) (adB : Nat → Nat) (vR : St) (vB : St) (p2 : Int32) (o : Int32 × St × St) (hf : X3_clearKind vR vB p2 = some o) : Cti l yX3_clearKind wsX3_clearKind ({ frames := 3, cells := 0, slots := 0, locals := 77 }) D (TY cA cQ) [.ref (adR 0), .ref (adB 0), .int p2] (wR cA adR vR ++ (wB cA adB vB)) (wR cA adR o.2.1 ++ (wB cA adB o.2.2)) o.1 := by
  refine Wk.i (cc := cX3_clearKind) (maxL := 7) (ret := (some .int)) (by decide) rfl (Nat.le_of_ble_eq_true rfl) ?_
  intro p e s m below meth c A ls hx hb hr hlocks hml hown hts hK hN hP hD hA hl
  have hown : s.vm.findClass RX3 = some m.cls := hown
  have hS : va_S A s.heap s.heap [] := va_S.rf
  have hl : lv_has ls 7 [(0, .ref (adR 0)), (1, .ref (adB 0)), (2, .int p2)] := hl
  have B15 : ∀ (fu15 : Nat) (vR : St) (vB : St) (x3 : Int32) (x4 : Int32) (H : Heap) (locs : List Loc) (ls : Array Slot), X3_clearKind_l15 p2 fu15 vR vB x3 x4 = some o → va_P D vwCl (wR cA adR vR ++ (wB cA adB vB)) H → va_D A (wR cA adR vR ++ (wB cA adB vB)) → va_S A s.heap H locs → lv_has ls 7 [(0, .ref (adR 0)), (1, .ref (adB 0)), (2, .int p2), (3, .int x3), (4, .int x4)] → W p l e (headSpec wsX3_clearKind ({ frames := 3, cells := 0, slots := 0, locals := 77 })).room s m ([.ref (adR 0), .ref (adB 0), .int p2] : List Value).toArray below meth c H locs 0 0 (MQ below (QI D (wR cA adR o.2.1 ++ (wB cA adB o.2.2)) o.1 A) ([.ref (adR 0), .ref (adB 0), .int p2] : List Value).toArray s 0 0 A) (F0 m 15 ls []) := by
    intro fu15
    induction fu15 with
    | zero =>
      intro vR vB x3 x4 H locs ls h hP hD hS hl
      cases h
    | succ fu15 ih15 =>
      have B87 : ∀ (vR : St) (vB : St) (x3 : Int32) (x4 : Int32) (x5 : Int32) (H : Heap) (locs : List Loc) (ls : Array Slot), X3_clearKind_b87 p2 (X3_clearKind_l15 p2 fu15) vR vB x3 x4 x5 = some o → va_P D vwCl (wR cA adR vR ++ (wB cA adB vB)) H → va_D A (wR cA adR vR ++ (wB cA adB vB)) → va_S A s.heap H locs → lv_has ls 7 [(0, .ref (adR 0)), (1, .ref (adB 0)), (2, .int p2), (3, .int x3), (4, .int x4), (5, .int x5)] → W p l e (headSpec wsX3_clearKind ({ frames := 3, cells := 0, slots := 0, locals := 77 })).room s m ([.ref (adR 0), .ref (adB 0), .int p2] : List Value).toArray below meth c H locs 0 0 (MQ below (QI D (wR cA adR o.2.1 ++ (wB cA adB o.2.2)) o.1 A) ([.ref (adR 0), .ref (adB 0), .int p2] : List Value).toArray s 0 0 A) (F0 m 87 ls []) := by
        intro vR vB x3 x4 x5 H locs ls h hP hD hS hl
        unfold X3_clearKind_b87 at h
        refine lv_aload_n hx hb dX3_clearKind_87 rfl (lv_at hl 1 rfl) ?_
        obtain ⟨u1, eu1, h⟩ := bd_in h
        refine kV (va_runV (As := []) (rest := []) ⟨hx, hb, hml, hown, hts⟩ (c_X0_countRing l D cA cQ adB vB u1 eu1 _) (cwV 0 hts gX3_clearKind_X0_countRing rfl rfl rfl (by decide +kernel) ⟨Nat.le_of_ble_eq_true rfl, Nat.le_of_ble_eq_true rfl⟩) (pV (ci := 0) (q := (RX0, TX0, 13)) hK hN hP hD [5, 6, 7, 8, 9, 10, 11, 12, 13, 14, 15, 16, 17, 18] rfl rfl rfl rfl) rfl rfl hl.1 rfl (lv_room (Nat.le_of_ble_eq_true rfl)) dX3_clearKind_88 ⟨Nat.zero_le _, Nat.zero_le _⟩) hP hD hS hA [5, 6, 7, 8, 9, 10, 11, 12, 13, 14, 15, 16, 17, 18] rfl rfl (ws' := (wR cA adR vR ++ (wB cA adB u1))) rfl (fun H locs hP hD hS => ?_)
        refine lv_iload_n hx hb dX3_clearKind_91 rfl (lv_at hl 3 rfl) ?_
        refine lv_iload hx hb dX3_clearKind_92 (lv_at hl 5 rfl) ?_
        refine lv_aload_n hx hb dX3_clearKind_94 rfl (lv_at hl 0 rfl) ?_
        refine va_get (D := D) (ci := 3) (v := .int (vR 99 4)) (C := RX3) (T := TX3) (N := 5) hx hb hts iw_X3_clearKind_X3 hown hK hP 0 rfl rfl 4 (by decide) (hts (.fieldLink RX3 24 "FavourRings$Rings" "length" "I") (List.mem_of_getElem? (i := 2) rfl)) (fun _ h9 => h9) rfl dX3_clearKind_95 ?_
        refine lv_imul hx hb dX3_clearKind_98 ?_
        refine lv_iadd hx hb dX3_clearKind_99 ?_
        refine lv_istore_n (lv' := [(3, .int (x3 + (x5 * (vR 99 4)))), (0, .ref (adR 0)), (1, .ref (adB 0)), (2, .int p2), (4, .int x4), (5, .int x5)]) hx hb dX3_clearKind_100 rfl hl (by decide) rfl (fun ls hl => ?_)
        refine lv_iinc (v := (x4 + (1 : Int32))) (lv' := [(4, .int (x4 + (1 : Int32))), (3, .int (x3 + (x5 * (vR 99 4)))), (0, .ref (adR 0)), (1, .ref (adB 0)), (2, .int p2), (5, .int x5)]) hx hb dX3_clearKind_101 hl (k := 4) rfl rfl (by decide) rfl (fun ls hl => ?_)
        refine lv_goto (tgt := 15) hx hb dX3_clearKind_104 (by decide) ?_
        exact ih15 vR u1 (x3 + (x5 * (vR 99 4))) (x4 + (1 : Int32)) _ _ _ h hP hD hS (lv_sub hl [2, 3, 4, 1, 0] rfl)
      have B41 : ∀ (fu41 : Nat) (vR : St) (vB : St) (x3 : Int32) (x4 : Int32) (x5 : Int32) (x6 : Int32) (H : Heap) (locs : List Loc) (ls : Array Slot), X3_clearKind_l41 p2 (X3_clearKind_l15 p2 fu15) fu41 vR vB x3 x4 x5 x6 = some o → va_P D vwCl (wR cA adR vR ++ (wB cA adB vB)) H → va_D A (wR cA adR vR ++ (wB cA adB vB)) → va_S A s.heap H locs → lv_has ls 7 [(0, .ref (adR 0)), (1, .ref (adB 0)), (2, .int p2), (3, .int x3), (4, .int x4), (5, .int x5), (6, .int x6)] → W p l e (headSpec wsX3_clearKind ({ frames := 3, cells := 0, slots := 0, locals := 77 })).room s m ([.ref (adR 0), .ref (adB 0), .int p2] : List Value).toArray below meth c H locs 0 0 (MQ below (QI D (wR cA adR o.2.1 ++ (wB cA adB o.2.2)) o.1 A) ([.ref (adR 0), .ref (adB 0), .int p2] : List Value).toArray s 0 0 A) (F0 m 41 ls []) := by
        intro fu41
        induction fu41 with
        | zero =>
          intro vR vB x3 x4 x5 x6 H locs ls h hP hD hS hl
          cases h
        | succ fu41 ih41 =>
          intro vR vB x3 x4 x5 x6 H locs ls h hP hD hS hl
          rw [X3_clearKind_l41] at h
          refine lv_iload hx hb dX3_clearKind_41 (lv_at hl 6 rfl) ?_
          refine lv_aload_n hx hb dX3_clearKind_43 rfl (lv_at hl 0 rfl) ?_
          refine va_get (D := D) (ci := 3) (v := .int (vR 99 4)) (C := RX3) (T := TX3) (N := 5) hx hb hts iw_X3_clearKind_X3 hown hK hP 0 rfl rfl 4 (by decide) (hts (.fieldLink RX3 24 "FavourRings$Rings" "length" "I") (List.mem_of_getElem? (i := 2) rfl)) (fun _ h9 => h9) rfl dX3_clearKind_44 ?_
          refine lv_icmp_ge (tgt := 87) hx hb dX3_clearKind_47 (by decide) (fun c2 => ?_) (fun c2 => ?_)
          · have h := (if_pos c2).symm.trans h
            exact B87 vR vB x3 x4 x5 _ _ _ h hP hD hS (lv_sub hl [0, 1, 2, 3, 4, 5] rfl)
          · have h := (if_neg c2).symm.trans h
            refine lv_aload_n hx hb dX3_clearKind_50 rfl (lv_at hl 1 rfl) ?_
            refine lv_aload_n hx hb dX3_clearKind_51 rfl (lv_at hl 0 rfl) ?_
            refine lv_iload hx hb dX3_clearKind_52 (lv_at hl 6 rfl) ?_
            obtain ⟨u3, eu3, h⟩ := bd_in h
            refine kI (va_runV (As := [.int x6]) (rest := [.ref (adB 0)]) ⟨hx, hb, hml, hown, hts⟩ (c_X3_nextPupil l D cA cQ adR vR x6 u3 eu3 _) (cwV 1 hts gX3_clearKind_X3_nextPupil rfl rfl rfl (by decide +kernel) ⟨Nat.le_of_ble_eq_true rfl, Nat.le_of_ble_eq_true rfl⟩) (pV (ci := 3) (q := (RX3, TX3, 5)) hK hN hP hD [0, 1, 2, 3, 4] rfl rfl rfl rfl) rfl rfl hl.1 rfl (lv_room (Nat.le_of_ble_eq_true rfl)) dX3_clearKind_54 ⟨Nat.zero_le _, Nat.zero_le _⟩) hP hD hS hA [0, 1, 2, 3, 4] rfl rfl (ws' := (wR cA adR vR ++ (wB cA adB vB))) rfl (fun H locs hP hD hS => ?_)
            refine lv_aload_n hx hb dX3_clearKind_57 rfl (lv_at hl 0 rfl) ?_
            refine lv_iload hx hb dX3_clearKind_58 (lv_at hl 6 rfl) ?_
            obtain ⟨u4, eu4, h⟩ := bd_in h
            refine kI (va_runV (As := [.int x6]) (rest := [.int u3, .ref (adB 0)]) ⟨hx, hb, hml, hown, hts⟩ (c_X3_pupilBehind l D cA cQ adR vR x6 u4 eu4 _) (cwV 1 hts gX3_clearKind_X3_pupilBehind rfl rfl rfl (by decide +kernel) ⟨Nat.le_of_ble_eq_true rfl, Nat.le_of_ble_eq_true rfl⟩) (pV (ci := 3) (q := (RX3, TX3, 5)) hK hN hP hD [0, 1, 2, 3, 4] rfl rfl rfl rfl) rfl rfl hl.1 rfl (lv_room (Nat.le_of_ble_eq_true rfl)) dX3_clearKind_60 ⟨Nat.zero_le _, Nat.zero_le _⟩) hP hD hS hA [0, 1, 2, 3, 4] rfl rfl (ws' := (wR cA adR vR ++ (wB cA adB vB))) rfl (fun H locs hP hD hS => ?_)
            refine lv_iload_n hx hb dX3_clearKind_63 rfl (lv_at hl 2 rfl) ?_
            refine lv_iload hx hb dX3_clearKind_64 (lv_at hl 5 rfl) ?_
            obtain ⟨u5, eu5, h⟩ := bd_in h
            refine kV (va_runV (As := [.int u3, .int u4, .int p2, .int x5]) (rest := []) ⟨hx, hb, hml, hown, hts⟩ (c_X0_takeFavours l D cA cQ adB vB u3 u4 p2 x5 u5 eu5 _) (cwV 4 hts gX3_clearKind_X0_takeFavours rfl rfl rfl (by decide +kernel) ⟨Nat.le_of_ble_eq_true rfl, Nat.le_of_ble_eq_true rfl⟩) (pV (ci := 0) (q := (RX0, TX0, 13)) hK hN hP hD [5, 6, 7, 8, 9, 10, 11, 12, 13, 14, 15, 16, 17, 18] rfl rfl rfl rfl) rfl rfl hl.1 rfl (lv_room (Nat.le_of_ble_eq_true rfl)) dX3_clearKind_66 ⟨Nat.zero_le _, Nat.zero_le _⟩) hP hD hS hA [5, 6, 7, 8, 9, 10, 11, 12, 13, 14, 15, 16, 17, 18] rfl rfl (ws' := (wR cA adR vR ++ (wB cA adB u5))) rfl (fun H locs hP hD hS => ?_)
            refine lv_aload_n hx hb dX3_clearKind_69 rfl (lv_at hl 1 rfl) ?_
            refine lv_aload_n hx hb dX3_clearKind_70 rfl (lv_at hl 0 rfl) ?_
            refine lv_iload hx hb dX3_clearKind_71 (lv_at hl 6 rfl) ?_
            obtain ⟨u6, eu6, h⟩ := bd_in h
            refine kI (va_runV (As := [.int x6]) (rest := [.ref (adB 0)]) ⟨hx, hb, hml, hown, hts⟩ (c_X3_nextPupil l D cA cQ adR vR x6 u6 eu6 _) (cwV 1 hts gX3_clearKind_X3_nextPupil rfl rfl rfl (by decide +kernel) ⟨Nat.le_of_ble_eq_true rfl, Nat.le_of_ble_eq_true rfl⟩) (pV (ci := 3) (q := (RX3, TX3, 5)) hK hN hP hD [0, 1, 2, 3, 4] rfl rfl rfl rfl) rfl rfl hl.1 rfl (lv_room (Nat.le_of_ble_eq_true rfl)) dX3_clearKind_73 ⟨Nat.zero_le _, Nat.zero_le _⟩) hP hD hS hA [0, 1, 2, 3, 4] rfl rfl (ws' := (wR cA adR vR ++ (wB cA adB u5))) rfl (fun H locs hP hD hS => ?_)
            refine lv_iload hx hb dX3_clearKind_76 (lv_at hl 5 rfl) ?_
            obtain ⟨u7, eu7, h⟩ := bd_in h
            refine kV (va_runV (As := [.int u6, .int x5]) (rest := []) ⟨hx, hb, hml, hown, hts⟩ (c_X0_countCleared l D cA cQ adB u5 u6 x5 u7 eu7 _) (cwV 2 hts gX3_clearKind_X0_countCleared rfl rfl rfl (by decide +kernel) ⟨Nat.le_of_ble_eq_true rfl, Nat.le_of_ble_eq_true rfl⟩) (pV (ci := 0) (q := (RX0, TX0, 13)) hK hN hP hD [5, 6, 7, 8, 9, 10, 11, 12, 13, 14, 15, 16, 17, 18] rfl rfl rfl rfl) rfl rfl hl.1 rfl (lv_room (Nat.le_of_ble_eq_true rfl)) dX3_clearKind_78 ⟨Nat.zero_le _, Nat.zero_le _⟩) hP hD hS hA [5, 6, 7, 8, 9, 10, 11, 12, 13, 14, 15, 16, 17, 18] rfl rfl (ws' := (wR cA adR vR ++ (wB cA adB u7))) rfl (fun H locs hP hD hS => ?_)
            refine lv_iinc (v := (x6 + (1 : Int32))) (lv' := [(6, .int (x6 + (1 : Int32))), (0, .ref (adR 0)), (1, .ref (adB 0)), (2, .int p2), (3, .int x3), (4, .int x4), (5, .int x5)]) hx hb dX3_clearKind_81 hl (k := 6) rfl rfl (by decide) rfl (fun ls hl => ?_)
            refine lv_goto (tgt := 41) hx hb dX3_clearKind_84 (by decide) ?_
            exact ih41 vR u7 x3 x4 x5 (x6 + (1 : Int32)) _ _ _ h hP hD hS (lv_sub hl [1, 2, 3, 4, 5, 6, 0] rfl)
      intro vR vB x3 x4 H locs ls h hP hD hS hl
      rw [X3_clearKind_l15] at h
      refine lv_iload hx hb dX3_clearKind_15 (lv_at hl 4 rfl) ?_
      refine lv_sipush (v := (1000 : Int32)) hx hb dX3_clearKind_17 (by decide) ?_
      refine lv_icmp_ge (tgt := 107) hx hb dX3_clearKind_20 (by decide) (fun c8 => ?_) (fun c8 => ?_)
      · have h := (if_pos c8).symm.trans h
        refine lv_iload_n hx hb dX3_clearKind_107 rfl (lv_at hl 3 rfl) ?_
        cases h
        exact endI hx hb hr hlocks hP hS rfl dX3_clearKind_108
      · have h := (if_neg c8).symm.trans h
        refine lv_aload_n hx hb dX3_clearKind_23 rfl (lv_at hl 0 rfl) ?_
        refine lv_aload_n hx hb dX3_clearKind_24 rfl (lv_at hl 1 rfl) ?_
        refine lv_iload_n hx hb dX3_clearKind_25 rfl (lv_at hl 2 rfl) ?_
        obtain ⟨u9, eu9, h⟩ := bd_in h
        refine kI (va_runV (As := [.ref (adB 0), .int p2]) (rest := []) ⟨hx, hb, hml, hown, hts⟩ (c_X3_findNext l D cA cQ adR adB vR vB p2 u9 eu9 _) (cwV 2 hts gX3_clearKind_X3_findNext rfl rfl rfl (by decide +kernel) ⟨Nat.le_of_ble_eq_true rfl, Nat.le_of_ble_eq_true rfl⟩) (pV (ci := 3) (q := (RX3, TX3, 5)) hK hN hP hD [0, 1, 2, 3, 4, 5, 6, 7, 8, 9, 10, 11, 12, 13, 14, 15, 16, 17, 18] rfl rfl rfl rfl) rfl rfl hl.1 rfl (lv_room (Nat.le_of_ble_eq_true rfl)) dX3_clearKind_26 ⟨Nat.zero_le _, Nat.zero_le _⟩) hP hD hS hA [0, 1, 2, 3, 4, 5, 6, 7, 8, 9, 10, 11, 12, 13, 14, 15, 16, 17, 18] rfl rfl (ws' := (wR cA adR u9.2 ++ (wB cA adB vB))) rfl (fun H locs hP hD hS => ?_)
        refine lv_if_eq (tgt := 107) hx hb dX3_clearKind_29 (by decide) (fun c10 => ?_) (fun c10 => ?_)
        · have h := (if_pos c10).symm.trans h
          refine lv_iload_n hx hb dX3_clearKind_107 rfl (lv_at hl 3 rfl) ?_
          cases h
          exact endI hx hb hr hlocks hP hS rfl dX3_clearKind_108
        · have h := (if_neg c10).symm.trans h
          refine lv_aload_n hx hb dX3_clearKind_32 rfl (lv_at hl 0 rfl) ?_
          obtain ⟨u11, eu11, h⟩ := bd_in h
          refine kI (va_runV (As := []) (rest := []) ⟨hx, hb, hml, hown, hts⟩ (c_X3_nextAmount l D cA cQ adR u9.2 u11 eu11 _) (cwV 0 hts gX3_clearKind_X3_nextAmount rfl rfl rfl (by decide +kernel) ⟨Nat.le_of_ble_eq_true rfl, Nat.le_of_ble_eq_true rfl⟩) (pV (ci := 3) (q := (RX3, TX3, 5)) hK hN hP hD [0, 1, 2, 3, 4] rfl rfl rfl rfl) rfl rfl hl.1 rfl (lv_room (Nat.le_of_ble_eq_true rfl)) dX3_clearKind_33 ⟨Nat.zero_le _, Nat.zero_le _⟩) hP hD hS hA [0, 1, 2, 3, 4] rfl rfl (ws' := (wR cA adR u9.2 ++ (wB cA adB vB))) rfl (fun H locs hP hD hS => ?_)
          refine lv_istore (lv' := [(5, .int u11), (0, .ref (adR 0)), (1, .ref (adB 0)), (2, .int p2), (3, .int x3), (4, .int x4)]) hx hb dX3_clearKind_36 hl (by decide) rfl (fun ls hl => ?_)
          refine lv_iconst (v := (0 : Int32)) hx hb dX3_clearKind_38 (by decide) ?_
          refine lv_istore (lv' := [(6, .int (0 : Int32)), (5, .int u11), (0, .ref (adR 0)), (1, .ref (adB 0)), (2, .int p2), (3, .int x3), (4, .int x4)]) hx hb dX3_clearKind_39 hl (by decide) rfl (fun ls hl => ?_)
          exact B41 FU u9.2 vB x3 x4 u11 (0 : Int32) _ _ _ h hP hD hS (lv_sub hl [2, 3, 4, 5, 6, 1, 0] rfl)
  have h := hf
  unfold X3_clearKind at h
  refine lv_iload_n hx hb dX3_clearKind_0 rfl (lv_at hl 2 rfl) ?_
  obtain ⟨u12, eu12, h⟩ := bd_in h
  refine kI (va_runSN (As := [.int p2]) (rest := []) ⟨hx, hb, hml, hown, hts⟩ (c_X4_isKind l D cA cQ  p2 u12 eu12 _) ⟨va_cnB 1 hts gX3_clearKind_X4_isKind_n56 rfl rfl rfl hN.2.2.2.2.2.2.2.2.2.2.2.1 (hts (.initialized RX4) (List.mem_of_getElem? (i := 4) rfl)) (by decide +kernel) ⟨Nat.le_of_ble_eq_true rfl, Nat.le_of_ble_eq_true rfl⟩, (hts (.static yX4_isKind) (List.mem_of_getElem? (i := 3) rfl)), trivial⟩ (pS hK hN hP hD [] rfl rfl) rfl rfl hl.1 rfl (lv_room (Nat.le_of_ble_eq_true rfl)) dX3_clearKind_1 ⟨Nat.zero_le _, Nat.zero_le _⟩) hP hD hS hA [] rfl rfl (ws' := (wR cA adR vR ++ (wB cA adB vB))) rfl (fun H locs hP hD hS => ?_)
  refine lv_if_ne (tgt := 10) hx hb dX3_clearKind_4 (by decide) (fun c13 => ?_) (fun c13 => ?_)
  · have h := (if_neg c13).symm.trans h
    refine lv_iconst (v := (0 : Int32)) hx hb dX3_clearKind_10 (by decide) ?_
    refine lv_istore_n (lv' := [(3, .int (0 : Int32)), (0, .ref (adR 0)), (1, .ref (adB 0)), (2, .int p2)]) hx hb dX3_clearKind_11 rfl hl (by decide) rfl (fun ls hl => ?_)
    refine lv_iconst (v := (0 : Int32)) hx hb dX3_clearKind_12 (by decide) ?_
    refine lv_istore (lv' := [(4, .int (0 : Int32)), (3, .int (0 : Int32)), (0, .ref (adR 0)), (1, .ref (adB 0)), (2, .int p2)]) hx hb dX3_clearKind_13 hl (by decide) rfl (fun ls hl => ?_)
    exact B15 FU vR vB (0 : Int32) (0 : Int32) _ _ _ h hP hD hS (lv_sub hl [2, 3, 4, 1, 0] rfl)
  · have h := (if_pos c13).symm.trans h
    refine lv_ldc (v := (-1000001 : Int32)) hx hb hown (hts (.constant RX3 60 (-1000001)) (List.mem_of_getElem? (i := 1) rfl)) dX3_clearKind_7 ?_
    cases h
    exact endI hx hb hr hlocks hP hS rfl dX3_clearKind_9
theorem iw_X2_doOrder_X2 : ∀ w ∈ wsX20, w ∈ wsX2_doOrder := fun _ h => List.mem_cons_of_mem _ (List.mem_append_left _ (List.mem_append_left _ (List.mem_append_right _ (h))))
set_option maxHeartbeats 4000000 in
set_option maxRecDepth 100000 in
theorem c_X2_doOrder (l : Launch) (D : va_G) (cA cQ : ClassId) (adO : Nat → Nat) (adB : Nat → Nat) (adR : Nat → Nat) (vO : St) (vB : St) (vR : St) (p3 : Int32) (o : Int32 × St × St) (hf : X2_doOrder vO vB vR p3 = some o) : Cti l yX2_doOrder wsX2_doOrder ({ frames := 4, cells := 0, slots := 0, locals := 103 }) D (TY cA cQ) [.ref (adO 0), .ref (adB 0), .ref (adR 0), .int p3] (wO cA adO vO ++ (wB cA adB vB ++ (wR cA adR vR))) (wO cA adO vO ++ (wB cA adB o.2.1 ++ (wR cA adR o.2.2))) o.1 := by
  refine Wk.i (cc := cX2_doOrder) (maxL := 6) (ret := (some .int)) (by decide) rfl (Nat.le_of_ble_eq_true rfl) ?_
  intro p e s m below meth c A ls hx hb hr hlocks hml hown hts hK hN hP hD hA hl
  have hown : s.vm.findClass RX2 = some m.cls := hown
  have hS : va_S A s.heap s.heap [] := va_S.rf
  have hl : lv_has ls 6 [(0, .ref (adO 0)), (1, .ref (adB 0)), (2, .ref (adR 0)), (3, .int p3)] := hl
  have B159 : ∀ (vB : St) (vR : St) (t1 : Int32) (H : Heap) (locs : List Loc) (ls : Array Slot), X2_doOrder_b159 vO p3 vB vR t1 = some o → va_P D vwCl (wO cA adO vO ++ (wB cA adB vB ++ (wR cA adR vR))) H → va_D A (wO cA adO vO ++ (wB cA adB vB ++ (wR cA adR vR))) → va_S A s.heap H locs → lv_has ls 6 [] → W p l e (headSpec wsX2_doOrder ({ frames := 4, cells := 0, slots := 0, locals := 103 })).room s m ([.ref (adO 0), .ref (adB 0), .ref (adR 0), .int p3] : List Value).toArray below meth c H locs 0 0 (MQ below (QI D (wO cA adO vO ++ (wB cA adB o.2.1 ++ (wR cA adR o.2.2))) o.1 A) ([.ref (adO 0), .ref (adB 0), .ref (adR 0), .int p3] : List Value).toArray s 0 0 A) (F0 m 159 ls [.int t1, .ref (adB 0)]) := by
    intro vB vR t1 H locs ls h hP hD hS hl
    unfold X2_doOrder_b159 at h
    obtain ⟨u1, eu1, h⟩ := bd_in h
    refine kI (va_runV (As := [.int t1]) (rest := []) ⟨hx, hb, hml, hown, hts⟩ (c_X0_turnHolidays l D cA cQ adB vB t1 u1 eu1 _) (cwV 1 hts gX2_doOrder_X0_turnHolidays rfl rfl rfl (by decide +kernel) ⟨Nat.le_of_ble_eq_true rfl, Nat.le_of_ble_eq_true rfl⟩) (pV (ci := 0) (q := (RX0, TX0, 13)) hK hN hP hD [3, 4, 5, 6, 7, 8, 9, 10, 11, 12, 13, 14, 15, 16] rfl rfl rfl rfl) rfl rfl hl.1 rfl (lv_room (Nat.le_of_ble_eq_true rfl)) dX2_doOrder_159 ⟨Nat.zero_le _, Nat.zero_le _⟩) hP hD hS hA [3, 4, 5, 6, 7, 8, 9, 10, 11, 12, 13, 14, 15, 16] rfl rfl (ws' := (wO cA adO vO ++ (wB cA adB u1.2 ++ (wR cA adR vR)))) rfl (fun H locs hP hD hS => ?_)
    cases h
    exact endI hx hb hr hlocks hP hS rfl dX2_doOrder_162
  have h := hf
  unfold X2_doOrder at h
  refine lv_aload_n hx hb dX2_doOrder_0 rfl (lv_at hl 0 rfl) ?_
  refine va_get (D := D) (ci := 2) (v := .ref (adO 2)) (C := RX2) (T := TX2) (N := 8) hx hb hts iw_X2_doOrder_X2 hown hK hP 0 rfl rfl 1 (by decide) (hts (.fieldLink RX2 15 "FavourRings$Orders" "numbers" "[I") (List.mem_of_getElem? (i := 1) rfl)) (fun _ h9 => h9) rfl dX2_doOrder_1 ?_
  refine lv_iconst (v := (0 : Int32)) hx hb dX2_doOrder_4 (by decide) ?_
  obtain ⟨u2, eu2, h⟩ := bd_in h
  refine kI (va_runSN (As := [.ref (adO 2), .int (0 : Int32)]) (rest := []) ⟨hx, hb, hml, hown, hts⟩ (c_X4_at l D cA cQ (adO 2) 4 (vO 2) (0 : Int32) u2 eu2 _) ⟨va_cnB 2 hts gX2_doOrder_X4_at_n59 rfl rfl rfl hN.2.2.2.2.2.2.2.2.2.1 (hts (.initialized RX4) (List.mem_of_getElem? (i := 3) rfl)) (by decide +kernel) ⟨Nat.le_of_ble_eq_true rfl, Nat.le_of_ble_eq_true rfl⟩, (hts (.static yX4_at) (List.mem_of_getElem? (i := 2) rfl)), trivial⟩ (pS hK hN hP hD [2] rfl rfl) rfl rfl hl.1 rfl (lv_room (Nat.le_of_ble_eq_true rfl)) dX2_doOrder_5 ⟨Nat.zero_le _, Nat.zero_le _⟩) hP hD hS hA [2] rfl rfl (ws' := (wO cA adO vO ++ (wB cA adB vB ++ (wR cA adR vR)))) rfl (fun H locs hP hD hS => ?_)
  refine lv_istore (lv' := [(4, .int u2), (0, .ref (adO 0)), (1, .ref (adB 0)), (2, .ref (adR 0)), (3, .int p3)]) hx hb dX2_doOrder_8 hl (by decide) rfl (fun ls hl => ?_)
  refine lv_aload_n hx hb dX2_doOrder_10 rfl (lv_at hl 1 rfl) ?_
  refine va_get (D := D) (ci := 2) (v := .ref (adO 2)) (C := RX2) (T := TX2) (N := 8) hx hb hts iw_X2_doOrder_X2 hown hK hP 0 rfl rfl 1 (by decide) (hts (.fieldLink RX2 15 "FavourRings$Orders" "numbers" "[I") (List.mem_of_getElem? (i := 1) rfl)) (fun _ h9 => h9) rfl dX2_doOrder_11 ?_
  refine lv_iconst (v := (1 : Int32)) hx hb dX2_doOrder_14 (by decide) ?_
  obtain ⟨u3, eu3, h⟩ := bd_in h
  refine kI (va_runSN (As := [.ref (adO 2), .int (1 : Int32)]) (rest := []) ⟨hx, hb, hml, hown, hts⟩ (c_X4_at l D cA cQ (adO 2) 4 (vO 2) (1 : Int32) u3 eu3 _) ⟨va_cnB 2 hts gX2_doOrder_X4_at_n59 rfl rfl rfl hN.2.2.2.2.2.2.2.2.2.1 (hts (.initialized RX4) (List.mem_of_getElem? (i := 3) rfl)) (by decide +kernel) ⟨Nat.le_of_ble_eq_true rfl, Nat.le_of_ble_eq_true rfl⟩, (hts (.static yX4_at) (List.mem_of_getElem? (i := 2) rfl)), trivial⟩ (pS hK hN hP hD [2] rfl rfl) rfl rfl hl.1 rfl (lv_room (Nat.le_of_ble_eq_true rfl)) dX2_doOrder_15 ⟨Nat.zero_le _, Nat.zero_le _⟩) hP hD hS hA [2] rfl rfl (ws' := (wO cA adO vO ++ (wB cA adB vB ++ (wR cA adR vR)))) rfl (fun H locs hP hD hS => ?_)
  refine lv_istore (lv' := [(5, .int u3), (4, .int u2), (0, .ref (adO 0)), (1, .ref (adB 0)), (2, .ref (adR 0)), (3, .int p3)]) hx hb dX2_doOrder_18 hl (by decide) rfl (fun ls hl => ?_)
  refine lv_iload_n hx hb dX2_doOrder_20 rfl (lv_at hl 5 rfl) ?_
  by_cases c4 : p3 = (99 : Int32)
  · have h := (if_pos c4).symm.trans h
    refine lv_lookup (off := 110) (tgt := 131) hx hb dX2_doOrder_21 (by decide +kernel) (by rw [c4]; decide +kernel) (by decide) ?_
    refine lv_aload_n hx hb dX2_doOrder_131 rfl (lv_at hl 4 rfl) ?_
    refine lv_aload_n hx hb dX2_doOrder_132 rfl (lv_at hl 3 rfl) ?_
    refine lv_iload hx hb dX2_doOrder_133 (lv_at hl 1 rfl) ?_
    obtain ⟨u5, eu5, h⟩ := bd_in h
    refine kI (va_runV (As := [.ref (adB 0), .int u2]) (rest := []) ⟨hx, hb, hml, hown, hts⟩ (c_X3_clearKind l D cA cQ adR adB vR vB u2 u5 eu5 _) (cwV 2 hts gX2_doOrder_X3_clearKind rfl rfl rfl (by decide +kernel) ⟨Nat.le_of_ble_eq_true rfl, Nat.le_of_ble_eq_true rfl⟩) (pV (ci := 3) (q := (RX3, TX3, 5)) hK hN hP hD [17, 18, 19, 20, 21, 3, 4, 5, 6, 7, 8, 9, 10, 11, 12, 13, 14, 15, 16] rfl rfl rfl rfl) rfl rfl hl.1 rfl (lv_room (Nat.le_of_ble_eq_true rfl)) dX2_doOrder_135 ⟨Nat.zero_le _, Nat.zero_le _⟩) hP hD hS hA [17, 18, 19, 20, 21, 3, 4, 5, 6, 7, 8, 9, 10, 11, 12, 13, 14, 15, 16] rfl rfl (ws' := (wO cA adO vO ++ (wB cA adB u5.2.2 ++ (wR cA adR u5.2.1)))) rfl (fun H locs hP hD hS => ?_)
    cases h
    exact endI hx hb hr hlocks hP hS rfl dX2_doOrder_138
  have h := (if_neg c4).symm.trans h
  by_cases c6 : p3 = (100 : Int32)
  · have h := (if_pos c6).symm.trans h
    refine lv_lookup (off := 76) (tgt := 97) hx hb dX2_doOrder_21 (by decide +kernel) (by rw [c6]; decide +kernel) (by decide) ?_
    refine lv_aload_n hx hb dX2_doOrder_97 rfl (lv_at hl 3 rfl) ?_
    refine lv_iload hx hb dX2_doOrder_98 (lv_at hl 1 rfl) ?_
    refine lv_iload hx hb dX2_doOrder_100 (lv_at hl 0 rfl) ?_
    refine lv_aload_n hx hb dX2_doOrder_102 rfl (lv_at hl 2 rfl) ?_
    refine va_get (D := D) (ci := 2) (v := .ref (adO 2)) (C := RX2) (T := TX2) (N := 8) hx hb hts iw_X2_doOrder_X2 hown hK hP 0 rfl rfl 1 (by decide) (hts (.fieldLink RX2 15 "FavourRings$Orders" "numbers" "[I") (List.mem_of_getElem? (i := 1) rfl)) (fun _ h9 => h9) rfl dX2_doOrder_103 ?_
    refine lv_iconst (v := (2 : Int32)) hx hb dX2_doOrder_106 (by decide) ?_
    obtain ⟨u7, eu7, h⟩ := bd_in h
    refine kI (va_runSN (As := [.ref (adO 2), .int (2 : Int32)]) (rest := [.int u3, .int u2, .ref (adB 0)]) ⟨hx, hb, hml, hown, hts⟩ (c_X4_at l D cA cQ (adO 2) 4 (vO 2) (2 : Int32) u7 eu7 _) ⟨va_cnB 2 hts gX2_doOrder_X4_at_n59 rfl rfl rfl hN.2.2.2.2.2.2.2.2.2.1 (hts (.initialized RX4) (List.mem_of_getElem? (i := 3) rfl)) (by decide +kernel) ⟨Nat.le_of_ble_eq_true rfl, Nat.le_of_ble_eq_true rfl⟩, (hts (.static yX4_at) (List.mem_of_getElem? (i := 2) rfl)), trivial⟩ (pS hK hN hP hD [2] rfl rfl) rfl rfl hl.1 rfl (lv_room (Nat.le_of_ble_eq_true rfl)) dX2_doOrder_107 ⟨Nat.zero_le _, Nat.zero_le _⟩) hP hD hS hA [2] rfl rfl (ws' := (wO cA adO vO ++ (wB cA adB vB ++ (wR cA adR vR)))) rfl (fun H locs hP hD hS => ?_)
    refine lv_aload_n hx hb dX2_doOrder_110 rfl (lv_at hl 2 rfl) ?_
    refine va_get (D := D) (ci := 2) (v := .ref (adO 2)) (C := RX2) (T := TX2) (N := 8) hx hb hts iw_X2_doOrder_X2 hown hK hP 0 rfl rfl 1 (by decide) (hts (.fieldLink RX2 15 "FavourRings$Orders" "numbers" "[I") (List.mem_of_getElem? (i := 1) rfl)) (fun _ h9 => h9) rfl dX2_doOrder_111 ?_
    refine lv_iconst (v := (3 : Int32)) hx hb dX2_doOrder_114 (by decide) ?_
    obtain ⟨u8, eu8, h⟩ := bd_in h
    refine kI (va_runSN (As := [.ref (adO 2), .int (3 : Int32)]) (rest := [.int u7, .int u3, .int u2, .ref (adB 0)]) ⟨hx, hb, hml, hown, hts⟩ (c_X4_at l D cA cQ (adO 2) 4 (vO 2) (3 : Int32) u8 eu8 _) ⟨va_cnB 2 hts gX2_doOrder_X4_at_n59 rfl rfl rfl hN.2.2.2.2.2.2.2.2.2.1 (hts (.initialized RX4) (List.mem_of_getElem? (i := 3) rfl)) (by decide +kernel) ⟨Nat.le_of_ble_eq_true rfl, Nat.le_of_ble_eq_true rfl⟩, (hts (.static yX4_at) (List.mem_of_getElem? (i := 2) rfl)), trivial⟩ (pS hK hN hP hD [2] rfl rfl) rfl rfl hl.1 rfl (lv_room (Nat.le_of_ble_eq_true rfl)) dX2_doOrder_115 ⟨Nat.zero_le _, Nat.zero_le _⟩) hP hD hS hA [2] rfl rfl (ws' := (wO cA adO vO ++ (wB cA adB vB ++ (wR cA adR vR)))) rfl (fun H locs hP hD hS => ?_)
    obtain ⟨u9, eu9, h⟩ := bd_in h
    refine kI (va_runV (As := [.int u2, .int u3, .int u7, .int u8]) (rest := []) ⟨hx, hb, hml, hown, hts⟩ (c_X0_fulfilFavours l D cA cQ adB vB u2 u3 u7 u8 u9 eu9 _) (cwV 4 hts gX2_doOrder_X0_fulfilFavours rfl rfl rfl (by decide +kernel) ⟨Nat.le_of_ble_eq_true rfl, Nat.le_of_ble_eq_true rfl⟩) (pV (ci := 0) (q := (RX0, TX0, 13)) hK hN hP hD [3, 4, 5, 6, 7, 8, 9, 10, 11, 12, 13, 14, 15, 16] rfl rfl rfl rfl) rfl rfl hl.1 rfl (lv_room (Nat.le_of_ble_eq_true rfl)) dX2_doOrder_118 ⟨Nat.zero_le _, Nat.zero_le _⟩) hP hD hS hA [3, 4, 5, 6, 7, 8, 9, 10, 11, 12, 13, 14, 15, 16] rfl rfl (ws' := (wO cA adO vO ++ (wB cA adB u9.2 ++ (wR cA adR vR)))) rfl (fun H locs hP hD hS => ?_)
    cases h
    exact endI hx hb hr hlocks hP hS rfl dX2_doOrder_121
  have h := (if_neg c6).symm.trans h
  by_cases c10 : p3 = (103 : Int32)
  · have h := (if_pos c10).symm.trans h
    refine lv_lookup (off := 101) (tgt := 122) hx hb dX2_doOrder_21 (by decide +kernel) (by rw [c10]; decide +kernel) (by decide) ?_
    refine lv_aload_n hx hb dX2_doOrder_122 rfl (lv_at hl 3 rfl) ?_
    refine lv_iload hx hb dX2_doOrder_123 (lv_at hl 1 rfl) ?_
    refine lv_iload hx hb dX2_doOrder_125 (lv_at hl 0 rfl) ?_
    obtain ⟨u11, eu11, h⟩ := bd_in h
    refine kI (va_runV (As := [.int u2, .int u3]) (rest := []) ⟨hx, hb, hml, hown, hts⟩ (c_X0_giveGuarantor l D cA cQ adB vB u2 u3 u11 eu11 _) (cwV 2 hts gX2_doOrder_X0_giveGuarantor rfl rfl rfl (by decide +kernel) ⟨Nat.le_of_ble_eq_true rfl, Nat.le_of_ble_eq_true rfl⟩) (pV (ci := 0) (q := (RX0, TX0, 13)) hK hN hP hD [3, 4, 5, 6, 7, 8, 9, 10, 11, 12, 13, 14, 15, 16] rfl rfl rfl rfl) rfl rfl hl.1 rfl (lv_room (Nat.le_of_ble_eq_true rfl)) dX2_doOrder_127 ⟨Nat.zero_le _, Nat.zero_le _⟩) hP hD hS hA [3, 4, 5, 6, 7, 8, 9, 10, 11, 12, 13, 14, 15, 16] rfl rfl (ws' := (wO cA adO vO ++ (wB cA adB u11.2 ++ (wR cA adR vR)))) rfl (fun H locs hP hD hS => ?_)
    cases h
    exact endI hx hb hr hlocks hP hS rfl dX2_doOrder_130
  have h := (if_neg c10).symm.trans h
  by_cases c12 : p3 = (111 : Int32)
  · have h := (if_pos c12).symm.trans h
    refine lv_lookup (off := 51) (tgt := 72) hx hb dX2_doOrder_21 (by decide +kernel) (by rw [c12]; decide +kernel) (by decide) ?_
    refine lv_aload_n hx hb dX2_doOrder_72 rfl (lv_at hl 3 rfl) ?_
    refine lv_iload hx hb dX2_doOrder_73 (lv_at hl 1 rfl) ?_
    refine lv_iload hx hb dX2_doOrder_75 (lv_at hl 0 rfl) ?_
    refine lv_aload_n hx hb dX2_doOrder_77 rfl (lv_at hl 2 rfl) ?_
    refine va_get (D := D) (ci := 2) (v := .ref (adO 2)) (C := RX2) (T := TX2) (N := 8) hx hb hts iw_X2_doOrder_X2 hown hK hP 0 rfl rfl 1 (by decide) (hts (.fieldLink RX2 15 "FavourRings$Orders" "numbers" "[I") (List.mem_of_getElem? (i := 1) rfl)) (fun _ h9 => h9) rfl dX2_doOrder_78 ?_
    refine lv_iconst (v := (2 : Int32)) hx hb dX2_doOrder_81 (by decide) ?_
    obtain ⟨u13, eu13, h⟩ := bd_in h
    refine kI (va_runSN (As := [.ref (adO 2), .int (2 : Int32)]) (rest := [.int u3, .int u2, .ref (adB 0)]) ⟨hx, hb, hml, hown, hts⟩ (c_X4_at l D cA cQ (adO 2) 4 (vO 2) (2 : Int32) u13 eu13 _) ⟨va_cnB 2 hts gX2_doOrder_X4_at_n59 rfl rfl rfl hN.2.2.2.2.2.2.2.2.2.1 (hts (.initialized RX4) (List.mem_of_getElem? (i := 3) rfl)) (by decide +kernel) ⟨Nat.le_of_ble_eq_true rfl, Nat.le_of_ble_eq_true rfl⟩, (hts (.static yX4_at) (List.mem_of_getElem? (i := 2) rfl)), trivial⟩ (pS hK hN hP hD [2] rfl rfl) rfl rfl hl.1 rfl (lv_room (Nat.le_of_ble_eq_true rfl)) dX2_doOrder_82 ⟨Nat.zero_le _, Nat.zero_le _⟩) hP hD hS hA [2] rfl rfl (ws' := (wO cA adO vO ++ (wB cA adB vB ++ (wR cA adR vR)))) rfl (fun H locs hP hD hS => ?_)
    refine lv_aload_n hx hb dX2_doOrder_85 rfl (lv_at hl 2 rfl) ?_
    refine va_get (D := D) (ci := 2) (v := .ref (adO 2)) (C := RX2) (T := TX2) (N := 8) hx hb hts iw_X2_doOrder_X2 hown hK hP 0 rfl rfl 1 (by decide) (hts (.fieldLink RX2 15 "FavourRings$Orders" "numbers" "[I") (List.mem_of_getElem? (i := 1) rfl)) (fun _ h9 => h9) rfl dX2_doOrder_86 ?_
    refine lv_iconst (v := (3 : Int32)) hx hb dX2_doOrder_89 (by decide) ?_
    obtain ⟨u14, eu14, h⟩ := bd_in h
    refine kI (va_runSN (As := [.ref (adO 2), .int (3 : Int32)]) (rest := [.int u13, .int u3, .int u2, .ref (adB 0)]) ⟨hx, hb, hml, hown, hts⟩ (c_X4_at l D cA cQ (adO 2) 4 (vO 2) (3 : Int32) u14 eu14 _) ⟨va_cnB 2 hts gX2_doOrder_X4_at_n59 rfl rfl rfl hN.2.2.2.2.2.2.2.2.2.1 (hts (.initialized RX4) (List.mem_of_getElem? (i := 3) rfl)) (by decide +kernel) ⟨Nat.le_of_ble_eq_true rfl, Nat.le_of_ble_eq_true rfl⟩, (hts (.static yX4_at) (List.mem_of_getElem? (i := 2) rfl)), trivial⟩ (pS hK hN hP hD [2] rfl rfl) rfl rfl hl.1 rfl (lv_room (Nat.le_of_ble_eq_true rfl)) dX2_doOrder_90 ⟨Nat.zero_le _, Nat.zero_le _⟩) hP hD hS hA [2] rfl rfl (ws' := (wO cA adO vO ++ (wB cA adB vB ++ (wR cA adR vR)))) rfl (fun H locs hP hD hS => ?_)
    obtain ⟨u15, eu15, h⟩ := bd_in h
    refine kI (va_runV (As := [.int u2, .int u3, .int u13, .int u14]) (rest := []) ⟨hx, hb, hml, hown, hts⟩ (c_X0_lendFavours l D cA cQ adB vB u2 u3 u13 u14 u15 eu15 _) (cwV 4 hts gX2_doOrder_X0_lendFavours rfl rfl rfl (by decide +kernel) ⟨Nat.le_of_ble_eq_true rfl, Nat.le_of_ble_eq_true rfl⟩) (pV (ci := 0) (q := (RX0, TX0, 13)) hK hN hP hD [3, 4, 5, 6, 7, 8, 9, 10, 11, 12, 13, 14, 15, 16] rfl rfl rfl rfl) rfl rfl hl.1 rfl (lv_room (Nat.le_of_ble_eq_true rfl)) dX2_doOrder_93 ⟨Nat.zero_le _, Nat.zero_le _⟩) hP hD hS hA [3, 4, 5, 6, 7, 8, 9, 10, 11, 12, 13, 14, 15, 16] rfl rfl (ws' := (wO cA adO vO ++ (wB cA adB u15.2 ++ (wR cA adR vR)))) rfl (fun H locs hP hD hS => ?_)
    cases h
    exact endI hx hb hr hlocks hP hS rfl dX2_doOrder_96
  have h := (if_neg c12).symm.trans h
  by_cases c16 : p3 = (119 : Int32)
  · have h := (if_pos c16).symm.trans h
    refine lv_lookup (off := 118) (tgt := 139) hx hb dX2_doOrder_21 (by decide +kernel) (by rw [c16]; decide +kernel) (by decide) ?_
    refine lv_aload_n hx hb dX2_doOrder_139 rfl (lv_at hl 3 rfl) ?_
    refine lv_iload hx hb dX2_doOrder_140 (lv_at hl 1 rfl) ?_
    obtain ⟨u17, eu17, h⟩ := bd_in h
    refine kI (va_runV (As := [.int u2]) (rest := []) ⟨hx, hb, hml, hown, hts⟩ (c_X0_endWeeks l D cA cQ adB vB u2 u17 eu17 _) (cwV 1 hts gX2_doOrder_X0_endWeeks rfl rfl rfl (by decide +kernel) ⟨Nat.le_of_ble_eq_true rfl, Nat.le_of_ble_eq_true rfl⟩) (pV (ci := 0) (q := (RX0, TX0, 13)) hK hN hP hD [3, 4, 5, 6, 7, 8, 9, 10, 11, 12, 13, 14, 15, 16] rfl rfl rfl rfl) rfl rfl hl.1 rfl (lv_room (Nat.le_of_ble_eq_true rfl)) dX2_doOrder_142 ⟨Nat.zero_le _, Nat.zero_le _⟩) hP hD hS hA [3, 4, 5, 6, 7, 8, 9, 10, 11, 12, 13, 14, 15, 16] rfl rfl (ws' := (wO cA adO vO ++ (wB cA adB u17.2 ++ (wR cA adR vR)))) rfl (fun H locs hP hD hS => ?_)
    cases h
    exact endI hx hb hr hlocks hP hS rfl dX2_doOrder_145
  have h := (if_neg c16).symm.trans h
  have nc4 : (p3).toInt ≠ 99 := ne_toInt c4
  have nc6 : (p3).toInt ≠ 100 := ne_toInt c6
  have nc10 : (p3).toInt ≠ 103 := ne_toInt c10
  have nc12 : (p3).toInt ≠ 111 := ne_toInt c12
  have nc16 : (p3).toInt ≠ 119 := ne_toInt c16
  refine lv_lookup (off := 125) (tgt := 146) hx hb dX2_doOrder_21 (by decide +kernel) (by simp [Op.lookupswitch.offset, nc4.symm, nc6.symm, nc10.symm, nc12.symm, nc16.symm]) (by decide) ?_
  refine lv_aload_n hx hb dX2_doOrder_146 rfl (lv_at hl 3 rfl) ?_
  refine lv_aload_n hx hb dX2_doOrder_147 rfl (lv_at hl 3 rfl) ?_
  obtain ⟨u18, eu18, h⟩ := bd_in h
  refine kI (va_runV (As := []) (rest := [.ref (adB 0)]) ⟨hx, hb, hml, hown, hts⟩ (c_X0_hasHolidays l D cA cQ adB vB u18 eu18 _) (cwV 0 hts gX2_doOrder_X0_hasHolidays rfl rfl rfl (by decide +kernel) ⟨Nat.le_of_ble_eq_true rfl, Nat.le_of_ble_eq_true rfl⟩) (pV (ci := 0) (q := (RX0, TX0, 13)) hK hN hP hD [3, 4, 5, 6, 7, 8, 9, 10, 11, 12, 13, 14, 15, 16] rfl rfl rfl rfl) rfl rfl hl.1 rfl (lv_room (Nat.le_of_ble_eq_true rfl)) dX2_doOrder_148 ⟨Nat.zero_le _, Nat.zero_le _⟩) hP hD hS hA [3, 4, 5, 6, 7, 8, 9, 10, 11, 12, 13, 14, 15, 16] rfl rfl (ws' := (wO cA adO vO ++ (wB cA adB vB ++ (wR cA adR vR)))) rfl (fun H locs hP hD hS => ?_)
  refine lv_if_ne (tgt := 158) hx hb dX2_doOrder_151 (by decide) (fun c19 => ?_) (fun c19 => ?_)
  · have h := (if_neg c19).symm.trans h
    refine lv_iconst (v := (0 : Int32)) hx hb dX2_doOrder_158 (by decide) ?_
    exact B159 vB vR (0 : Int32) _ _ _ h hP hD hS (lv_sub hl [] rfl)
  · have h := (if_pos c19).symm.trans h
    refine lv_iconst (v := (1 : Int32)) hx hb dX2_doOrder_154 (by decide) ?_
    refine lv_goto (tgt := 159) hx hb dX2_doOrder_155 (by decide) ?_
    exact B159 vB vR (1 : Int32) _ _ _ h hP hD hS (lv_sub hl [] rfl)
theorem iw_X2_doAll_X2 : ∀ w ∈ wsX20, w ∈ wsX2_doAll := fun _ h => List.mem_cons_of_mem _ (List.mem_append_left _ (List.mem_append_left _ (List.mem_append_right _ (h))))
set_option maxHeartbeats 4000000 in
set_option maxRecDepth 100000 in
theorem c_X2_doAll (l : Launch) (D : va_G) (cA cQ : ClassId) (adO : Nat → Nat) (adB : Nat → Nat) (adR : Nat → Nat) (vO : St) (vB : St) (vR : St) (o : Int32 × St × St × St) (hf : X2_doAll vO vB vR = some o) : Cti l yX2_doAll wsX2_doAll ({ frames := 5, cells := 0, slots := 0, locals := 128 }) D (TY cA cQ) [.ref (adO 0), .ref (adB 0), .ref (adR 0)] (wO cA adO vO ++ (wB cA adB vB ++ (wR cA adR vR))) (wO cA adO o.2.1 ++ (wB cA adB o.2.2.1 ++ (wR cA adR o.2.2.2))) o.1 := by
  refine Wk.i (cc := cX2_doAll) (maxL := 6) (ret := (some .boolean)) (by decide) rfl (Nat.le_of_ble_eq_true rfl) ?_
  intro p e s m below meth c A ls hx hb hr hlocks hml hown hts hK hN hP hD hA hl
  have hown : s.vm.findClass RX2 = some m.cls := hown
  have hS : va_S A s.heap s.heap [] := va_S.rf
  have hl : lv_has ls 6 [(0, .ref (adO 0)), (1, .ref (adB 0)), (2, .ref (adR 0))] := hl
  have B64 : ∀ (vO : St) (vB : St) (vR : St) (x3 : Int32) (x5 : Int32) (H : Heap) (locs : List Loc) (ls : Array Slot), X2_doAll_b64 vO vB vR x3 x5 = some o → va_P D vwCl (wO cA adO vO ++ (wB cA adB vB ++ (wR cA adR vR))) H → va_D A (wO cA adO vO ++ (wB cA adB vB ++ (wR cA adR vR))) → va_S A s.heap H locs → lv_has ls 6 [(0, .ref (adO 0)), (3, .int x3), (5, .int x5)] → W p l e (headSpec wsX2_doAll ({ frames := 5, cells := 0, slots := 0, locals := 128 })).room s m ([.ref (adO 0), .ref (adB 0), .ref (adR 0)] : List Value).toArray below meth c H locs 0 0 (MQ below (QI D (wO cA adO o.2.1 ++ (wB cA adB o.2.2.1 ++ (wR cA adR o.2.2.2))) o.1 A) ([.ref (adO 0), .ref (adB 0), .ref (adR 0)] : List Value).toArray s 0 0 A) (F0 m 64 ls []) := by
    intro vO vB vR x3 x5 H locs ls h hP hD hS hl
    unfold X2_doAll_b64 at h
    refine lv_aload_n hx hb dX2_doAll_64 rfl (lv_at hl 0 rfl) ?_
    refine lv_iload_n hx hb dX2_doAll_65 rfl (lv_at hl 1 rfl) ?_
    refine lv_iconst (v := (2 : Int32)) hx hb dX2_doAll_66 (by decide) ?_
    refine lv_iload hx hb dX2_doAll_67 (lv_at hl 2 rfl) ?_
    obtain ⟨u1, eu1, h⟩ := bd_in h
    refine kI (va_runV (As := [.int x3, .int (2 : Int32), .int x5]) (rest := []) ⟨hx, hb, hml, hown, hts⟩ (c_X2_noteFault l D cA cQ adO vO x3 (2 : Int32) x5 u1 eu1 _) (cwV 3 hts gX2_doAll_X2_noteFault rfl rfl rfl (by decide +kernel) ⟨Nat.le_of_ble_eq_true rfl, Nat.le_of_ble_eq_true rfl⟩) (pV (ci := 2) (q := (RX2, TX2, 8)) hK hN hP hD [0, 1, 2] rfl rfl rfl rfl) rfl rfl hl.1 rfl (lv_room (Nat.le_of_ble_eq_true rfl)) dX2_doAll_69 ⟨Nat.zero_le _, Nat.zero_le _⟩) hP hD hS hA [0, 1, 2] rfl rfl (ws' := (wO cA adO u1.2 ++ (wB cA adB vB ++ (wR cA adR vR)))) rfl (fun H locs hP hD hS => ?_)
    obtain ⟨b2, eb2, h⟩ := bd_in h
    cases h
    exact endZ hx hb hr hlocks hP hS (zb_in eb2) dX2_doAll_72
  have B33 : ∀ (vO : St) (vB : St) (vR : St) (x3 : Int32) (H : Heap) (locs : List Loc) (ls : Array Slot), X2_doAll_b33 vO vB vR x3 = some o → va_P D vwCl (wO cA adO vO ++ (wB cA adB vB ++ (wR cA adR vR))) H → va_D A (wO cA adO vO ++ (wB cA adB vB ++ (wR cA adR vR))) → va_S A s.heap H locs → lv_has ls 6 [(0, .ref (adO 0)), (3, .int x3)] → W p l e (headSpec wsX2_doAll ({ frames := 5, cells := 0, slots := 0, locals := 128 })).room s m ([.ref (adO 0), .ref (adB 0), .ref (adR 0)] : List Value).toArray below meth c H locs 0 0 (MQ below (QI D (wO cA adO o.2.1 ++ (wB cA adB o.2.2.1 ++ (wR cA adR o.2.2.2))) o.1 A) ([.ref (adO 0), .ref (adB 0), .ref (adR 0)] : List Value).toArray s 0 0 A) (F0 m 33 ls []) := by
    intro vO vB vR x3 H locs ls h hP hD hS hl
    unfold X2_doAll_b33 at h
    refine lv_aload_n hx hb dX2_doAll_33 rfl (lv_at hl 0 rfl) ?_
    refine lv_iload_n hx hb dX2_doAll_34 rfl (lv_at hl 1 rfl) ?_
    refine lv_iconst (v := (1 : Int32)) hx hb dX2_doAll_35 (by decide) ?_
    refine lv_aload_n hx hb dX2_doAll_36 rfl (lv_at hl 0 rfl) ?_
    refine va_get (D := D) (ci := 2) (v := .int (vO 99 3)) (C := RX2) (T := TX2) (N := 8) hx hb hts iw_X2_doAll_X2 hown hK hP 0 rfl rfl 3 (by decide) (hts (.fieldLink RX2 44 "FavourRings$Orders" "place" "I") (List.mem_of_getElem? (i := 3) rfl)) (fun _ h9 => h9) rfl dX2_doAll_37 ?_
    refine lv_iload_n hx hb dX2_doAll_40 rfl (lv_at hl 1 rfl) ?_
    refine lv_isub hx hb dX2_doAll_41 ?_
    obtain ⟨u3, eu3, h⟩ := bd_in h
    refine kI (va_runV (As := [.int x3, .int (1 : Int32), .int ((vO 99 3) - x3)]) (rest := []) ⟨hx, hb, hml, hown, hts⟩ (c_X2_noteFault l D cA cQ adO vO x3 (1 : Int32) ((vO 99 3) - x3) u3 eu3 _) (cwV 3 hts gX2_doAll_X2_noteFault rfl rfl rfl (by decide +kernel) ⟨Nat.le_of_ble_eq_true rfl, Nat.le_of_ble_eq_true rfl⟩) (pV (ci := 2) (q := (RX2, TX2, 8)) hK hN hP hD [0, 1, 2] rfl rfl rfl rfl) rfl rfl hl.1 rfl (lv_room (Nat.le_of_ble_eq_true rfl)) dX2_doAll_42 ⟨Nat.zero_le _, Nat.zero_le _⟩) hP hD hS hA [0, 1, 2] rfl rfl (ws' := (wO cA adO u3.2 ++ (wB cA adB vB ++ (wR cA adR vR)))) rfl (fun H locs hP hD hS => ?_)
    obtain ⟨b4, eb4, h⟩ := bd_in h
    cases h
    exact endZ hx hb hr hlocks hP hS (zb_in eb4) dX2_doAll_45
  have B10 : ∀ (fu10 : Nat) (vO : St) (vB : St) (vR : St) (x3 : Int32) (x4 : Int32) (H : Heap) (locs : List Loc) (ls : Array Slot), X2_doAll_l10 fu10 vO vB vR x3 x4 = some o → va_P D vwCl (wO cA adO vO ++ (wB cA adB vB ++ (wR cA adR vR))) H → va_D A (wO cA adO vO ++ (wB cA adB vB ++ (wR cA adR vR))) → va_S A s.heap H locs → lv_has ls 6 [(0, .ref (adO 0)), (1, .ref (adB 0)), (2, .ref (adR 0)), (3, .int x3), (4, .int x4)] → W p l e (headSpec wsX2_doAll ({ frames := 5, cells := 0, slots := 0, locals := 128 })).room s m ([.ref (adO 0), .ref (adB 0), .ref (adR 0)] : List Value).toArray below meth c H locs 0 0 (MQ below (QI D (wO cA adO o.2.1 ++ (wB cA adB o.2.2.1 ++ (wR cA adR o.2.2.2))) o.1 A) ([.ref (adO 0), .ref (adB 0), .ref (adR 0)] : List Value).toArray s 0 0 A) (F0 m 10 ls []) := by
    intro fu10
    induction fu10 with
    | zero =>
      intro vO vB vR x3 x4 H locs ls h hP hD hS hl
      cases h
    | succ fu10 ih10 =>
      intro vO vB vR x3 x4 H locs ls h hP hD hS hl
      rw [X2_doAll_l10] at h
      refine lv_iload hx hb dX2_doAll_10 (lv_at hl 4 rfl) ?_
      refine lv_bipush (v := (60 : Int32)) hx hb dX2_doAll_12 (by decide) ?_
      refine lv_icmp_ge (tgt := 94) hx hb dX2_doAll_14 (by decide) (fun c5 => ?_) (fun c5 => ?_)
      · have h := (if_pos c5).symm.trans h
        refine lv_iconst (v := (1 : Int32)) hx hb dX2_doAll_94 (by decide) ?_
        cases h
        exact endZ hx hb hr hlocks hP hS ⟨rfl, rfl⟩ dX2_doAll_95
      · have h := (if_neg c5).symm.trans h
        refine lv_iload_n hx hb dX2_doAll_17 rfl (lv_at hl 3 rfl) ?_
        refine lv_aload_n hx hb dX2_doAll_18 rfl (lv_at hl 0 rfl) ?_
        refine va_get (D := D) (ci := 2) (v := .int (vO 99 2)) (C := RX2) (T := TX2) (N := 8) hx hb hts iw_X2_doAll_X2 hown hK hP 0 rfl rfl 2 (by decide) (hts (.fieldLink RX2 18 "FavourRings$Orders" "length" "I") (List.mem_of_getElem? (i := 2) rfl)) (fun _ h9 => h9) rfl dX2_doAll_19 ?_
        refine lv_icmp_ge (tgt := 94) hx hb dX2_doAll_22 (by decide) (fun c6 => ?_) (fun c6 => ?_)
        · have h := (if_pos c6).symm.trans h
          refine lv_iconst (v := (1 : Int32)) hx hb dX2_doAll_94 (by decide) ?_
          cases h
          exact endZ hx hb hr hlocks hP hS ⟨rfl, rfl⟩ dX2_doAll_95
        · have h := (if_neg c6).symm.trans h
          refine lv_aload_n hx hb dX2_doAll_25 rfl (lv_at hl 0 rfl) ?_
          refine lv_iload_n hx hb dX2_doAll_26 rfl (lv_at hl 3 rfl) ?_
          obtain ⟨u7, eu7, h⟩ := bd_in h
          refine kI (va_runV (As := [.int x3]) (rest := []) ⟨hx, hb, hml, hown, hts⟩ (c_X2_readOrder l D cA cQ adO vO x3 u7 eu7 _) (cwV 1 hts gX2_doAll_X2_readOrder rfl rfl rfl (by decide +kernel) ⟨Nat.le_of_ble_eq_true rfl, Nat.le_of_ble_eq_true rfl⟩) (pV (ci := 2) (q := (RX2, TX2, 8)) hK hN hP hD [0, 1, 2] rfl rfl rfl rfl) rfl rfl hl.1 rfl (lv_room (Nat.le_of_ble_eq_true rfl)) dX2_doAll_27 ⟨Nat.zero_le _, Nat.zero_le _⟩) hP hD hS hA [0, 1, 2] rfl rfl (ws' := (wO cA adO u7.2 ++ (wB cA adB vB ++ (wR cA adR vR)))) rfl (fun H locs hP hD hS => ?_)
          refine lv_if_ne (tgt := 46) hx hb dX2_doAll_30 (by decide) (fun c8 => ?_) (fun c8 => ?_)
          · have h := (if_neg c8).symm.trans h
            refine lv_aload_n hx hb dX2_doAll_46 rfl (lv_at hl 0 rfl) ?_
            refine lv_aload_n hx hb dX2_doAll_47 rfl (lv_at hl 1 rfl) ?_
            refine lv_aload_n hx hb dX2_doAll_48 rfl (lv_at hl 2 rfl) ?_
            refine lv_aload_n hx hb dX2_doAll_49 rfl (lv_at hl 0 rfl) ?_
            refine lv_iload_n hx hb dX2_doAll_50 rfl (lv_at hl 3 rfl) ?_
            obtain ⟨u9, eu9, h⟩ := bd_in h
            refine kI (va_runV (As := [.int x3]) (rest := [.ref (adR 0), .ref (adB 0), .ref (adO 0)]) ⟨hx, hb, hml, hown, hts⟩ (c_X2_signAt l D cA cQ adO u7.2 x3 u9 eu9 _) (cwV 1 hts gX2_doAll_X2_signAt rfl rfl rfl (by decide +kernel) ⟨Nat.le_of_ble_eq_true rfl, Nat.le_of_ble_eq_true rfl⟩) (pV (ci := 2) (q := (RX2, TX2, 8)) hK hN hP hD [0, 1, 2] rfl rfl rfl rfl) rfl rfl hl.1 rfl (lv_room (Nat.le_of_ble_eq_true rfl)) dX2_doAll_51 ⟨Nat.zero_le _, Nat.zero_le _⟩) hP hD hS hA [0, 1, 2] rfl rfl (ws' := (wO cA adO u7.2 ++ (wB cA adB vB ++ (wR cA adR vR)))) rfl (fun H locs hP hD hS => ?_)
            obtain ⟨u10, eu10, h⟩ := bd_in h
            refine kI (va_runV (As := [.ref (adB 0), .ref (adR 0), .int u9]) (rest := []) ⟨hx, hb, hml, hown, hts⟩ (c_X2_doOrder l D cA cQ adO adB adR u7.2 vB vR u9 u10 eu10 _) (cwV 3 hts gX2_doAll_X2_doOrder rfl rfl rfl (by decide +kernel) ⟨Nat.le_of_ble_eq_true rfl, Nat.le_of_ble_eq_true rfl⟩) (pV (ci := 2) (q := (RX2, TX2, 8)) hK hN hP hD [0, 1, 2, 3, 4, 5, 6, 7, 8, 9, 10, 11, 12, 13, 14, 15, 16, 17, 18, 19, 20, 21] rfl rfl rfl rfl) rfl rfl hl.1 rfl (lv_room (Nat.le_of_ble_eq_true rfl)) dX2_doAll_54 ⟨Nat.zero_le _, Nat.zero_le _⟩) hP hD hS hA [0, 1, 2, 3, 4, 5, 6, 7, 8, 9, 10, 11, 12, 13, 14, 15, 16, 17, 18, 19, 20, 21] rfl rfl (ws' := (wO cA adO u7.2 ++ (wB cA adB u10.2.1 ++ (wR cA adR u10.2.2)))) rfl (fun H locs hP hD hS => ?_)
            refine lv_istore (lv' := [(5, .int u10.1), (0, .ref (adO 0)), (1, .ref (adB 0)), (2, .ref (adR 0)), (3, .int x3), (4, .int x4)]) hx hb dX2_doAll_57 hl (by decide) rfl (fun ls hl => ?_)
            refine lv_iload hx hb dX2_doAll_59 (lv_at hl 0 rfl) ?_
            refine lv_if_ge (tgt := 73) hx hb dX2_doAll_61 (by decide) (fun c11 => ?_) (fun c11 => ?_)
            · have h := (if_pos c11).symm.trans h
              refine lv_aload_n hx hb dX2_doAll_73 rfl (lv_at hl 1 rfl) ?_
              refine lv_dup hx hb dX2_doAll_74 rfl ?_
              refine va_get (D := D) (ci := 2) (v := .int (u7.2 99 4)) (C := RX2) (T := TX2) (N := 8) hx hb hts iw_X2_doAll_X2 hown hK hP 0 rfl rfl 4 (by decide) (hts (.fieldLink RX2 22 "FavourRings$Orders" "done" "I") (List.mem_of_getElem? (i := 1) rfl)) (fun _ h9 => h9) rfl dX2_doAll_75 ?_
              refine lv_iconst (v := (1 : Int32)) hx hb dX2_doAll_78 (by decide) ?_
              refine lv_iadd hx hb dX2_doAll_79 ?_
              refine ptR (ci := 2) (v := .int ((u7.2 99 4) + (1 : Int32))) (ty := .int) (C := RX2) (T := TX2) (N := 8) hx hb hts iw_X2_doAll_X2 tyX2 tyX2_ok nmX2 hown hK hP hD hS 0 rfl rfl 4 (by decide) (hts (.fieldLink RX2 22 "FavourRings$Orders" "done" "I") (List.mem_of_getElem? (i := 1) rfl)) (fun _ h9 => h9) rfl (by decide +kernel) rfl rfl (Nat.le_of_ble_eq_true rfl) (ws' := (wO cA adO (setI u7.2 4 ((u7.2 99 4) + (1 : Int32))) ++ (wB cA adB u10.2.1 ++ (wR cA adR u10.2.2)))) rfl dX2_doAll_80 (fun H locs hP hD hS => ?_)
              refine lv_aload_n hx hb dX2_doAll_83 rfl (lv_at hl 1 rfl) ?_
              refine va_get (D := D) (ci := 2) (v := .int (u7.2 99 3)) (C := RX2) (T := TX2) (N := 8) hx hb hts iw_X2_doAll_X2 hown hK hP 0 rfl rfl 3 (by decide) (hts (.fieldLink RX2 44 "FavourRings$Orders" "place" "I") (List.mem_of_getElem? (i := 3) rfl)) (fun _ h9 => h9) rfl dX2_doAll_84 ?_
              refine lv_istore_n (lv' := [(3, .int (u7.2 99 3)), (5, .int u10.1), (0, .ref (adO 0)), (1, .ref (adB 0)), (2, .ref (adR 0)), (4, .int x4)]) hx hb dX2_doAll_87 rfl hl (by decide) rfl (fun ls hl => ?_)
              refine lv_iinc (v := (x4 + (1 : Int32))) (lv' := [(4, .int (x4 + (1 : Int32))), (3, .int (u7.2 99 3)), (5, .int u10.1), (0, .ref (adO 0)), (1, .ref (adB 0)), (2, .ref (adR 0))]) hx hb dX2_doAll_88 hl (k := 5) rfl rfl (by decide) rfl (fun ls hl => ?_)
              refine lv_goto (tgt := 10) hx hb dX2_doAll_91 (by decide) ?_
              exact ih10 (setI u7.2 4 ((u7.2 99 4) + (1 : Int32))) u10.2.1 u10.2.2 (u7.2 99 3) (x4 + (1 : Int32)) _ _ _ h hP hD hS (lv_sub hl [3, 4, 5, 1, 0] rfl)
            · have h := (if_neg c11).symm.trans h
              exact B64 u7.2 u10.2.1 u10.2.2 x3 u10.1 _ _ _ h hP hD hS (lv_sub hl [1, 4, 0] rfl)
          · have h := (if_pos c8).symm.trans h
            exact B33 u7.2 vB vR x3 _ _ _ h hP hD hS (lv_sub hl [0, 3] rfl)
  have h := hf
  unfold X2_doAll at h
  refine lv_aload_n hx hb dX2_doAll_0 rfl (lv_at hl 0 rfl) ?_
  refine lv_iconst (v := (0 : Int32)) hx hb dX2_doAll_1 (by decide) ?_
  refine ptR (ci := 2) (v := .int (0 : Int32)) (ty := .int) (C := RX2) (T := TX2) (N := 8) hx hb hts iw_X2_doAll_X2 tyX2 tyX2_ok nmX2 hown hK hP hD hS 0 rfl rfl 4 (by decide) (hts (.fieldLink RX2 22 "FavourRings$Orders" "done" "I") (List.mem_of_getElem? (i := 1) rfl)) (fun _ h9 => h9) rfl (by decide +kernel) rfl rfl (Nat.le_of_ble_eq_true rfl) (ws' := (wO cA adO (setI vO 4 (0 : Int32)) ++ (wB cA adB vB ++ (wR cA adR vR)))) rfl dX2_doAll_2 (fun H locs hP hD hS => ?_)
  refine lv_iconst (v := (0 : Int32)) hx hb dX2_doAll_5 (by decide) ?_
  refine lv_istore_n (lv' := [(3, .int (0 : Int32)), (0, .ref (adO 0)), (1, .ref (adB 0)), (2, .ref (adR 0))]) hx hb dX2_doAll_6 rfl hl (by decide) rfl (fun ls hl => ?_)
  refine lv_iconst (v := (0 : Int32)) hx hb dX2_doAll_7 (by decide) ?_
  refine lv_istore (lv' := [(4, .int (0 : Int32)), (3, .int (0 : Int32)), (0, .ref (adO 0)), (1, .ref (adB 0)), (2, .ref (adR 0))]) hx hb dX2_doAll_8 hl (by decide) rfl (fun ls hl => ?_)
  exact B10 FU (setI vO 4 (0 : Int32)) vB vR (0 : Int32) (0 : Int32) _ _ _ h hP hD hS (lv_sub hl [2, 3, 4, 1, 0] rfl)
theorem iw_X2_empty_X2 : ∀ w ∈ wsX20, w ∈ wsX2_empty := fun _ h => List.mem_cons_of_mem _ (List.mem_append_right _ (h))
set_option maxHeartbeats 4000000 in
set_option maxRecDepth 100000 in
theorem c_X2_empty (l : Launch) (D : va_G) (cA cQ : ClassId) (adO : Nat → Nat) (vO : St) (o : Int32 × St) (hf : X2_empty vO = some o) : Cti l yX2_empty wsX2_empty ({ frames := 0, cells := 0, slots := 0, locals := 0 }) D (TY cA cQ) [.ref (adO 0)] (wO cA adO vO) (wO cA adO o.2) o.1 := by
  refine Wk.i (cc := cX2_empty) (maxL := 2) (ret := (some .int)) (by decide) rfl (Nat.le_of_ble_eq_true rfl) ?_
  intro p e s m below meth c A ls hx hb hr hlocks hml hown hts hK hN hP hD hA hl
  have hown : s.vm.findClass RX2 = some m.cls := hown
  have hS : va_S A s.heap s.heap [] := va_S.rf
  have hl : lv_has ls 2 [(0, .ref (adO 0))] := hl
  have h := hf
  unfold X2_empty at h
  refine lv_aload_n hx hb dX2_empty_0 rfl (lv_at hl 0 rfl) ?_
  refine va_get (D := D) (ci := 2) (v := .int (vO 99 2)) (C := RX2) (T := TX2) (N := 8) hx hb hts iw_X2_empty_X2 hown hK hP 0 rfl rfl 2 (by decide) (hts (.fieldLink RX2 18 "FavourRings$Orders" "length" "I") (List.mem_of_getElem? (i := 1) rfl)) (fun _ h9 => h9) rfl dX2_empty_1 ?_
  refine lv_istore_n (lv' := [(1, .int (vO 99 2)), (0, .ref (adO 0))]) hx hb dX2_empty_4 rfl hl (by decide) rfl (fun ls hl => ?_)
  refine lv_aload_n hx hb dX2_empty_5 rfl (lv_at hl 1 rfl) ?_
  refine lv_iconst (v := (0 : Int32)) hx hb dX2_empty_6 (by decide) ?_
  refine ptR (ci := 2) (v := .int (0 : Int32)) (ty := .int) (C := RX2) (T := TX2) (N := 8) hx hb hts iw_X2_empty_X2 tyX2 tyX2_ok nmX2 hown hK hP hD hS 0 rfl rfl 2 (by decide) (hts (.fieldLink RX2 18 "FavourRings$Orders" "length" "I") (List.mem_of_getElem? (i := 1) rfl)) (fun _ h9 => h9) rfl (by decide +kernel) rfl rfl (Nat.le_of_ble_eq_true rfl) (ws' := (wO cA adO (setI vO 2 (0 : Int32)))) rfl dX2_empty_7 (fun H locs hP hD hS => ?_)
  refine lv_iload_n hx hb dX2_empty_10 rfl (lv_at hl 0 rfl) ?_
  cases h
  exact endI hx hb hr hlocks hP hS rfl dX2_empty_11
theorem iw_X2_faultCause_X2 : ∀ w ∈ wsX20, w ∈ wsX2_faultCause := fun _ h => List.mem_cons_of_mem _ (List.mem_append_right _ (h))
set_option maxHeartbeats 4000000 in
set_option maxRecDepth 100000 in
theorem c_X2_faultCause (l : Launch) (D : va_G) (cA cQ : ClassId) (adO : Nat → Nat) (vO : St) (o : Int32) (hf : X2_faultCause vO = some o) : Cti l yX2_faultCause wsX2_faultCause ({ frames := 0, cells := 0, slots := 0, locals := 0 }) D (TY cA cQ) [.ref (adO 0)] (wO cA adO vO) (wO cA adO vO) o := by
  refine Wk.i (cc := cX2_faultCause) (maxL := 1) (ret := (some .int)) (by decide) rfl (Nat.le_of_ble_eq_true rfl) ?_
  intro p e s m below meth c A ls hx hb hr hlocks hml hown hts hK hN hP hD hA hl
  have hown : s.vm.findClass RX2 = some m.cls := hown
  have hS : va_S A s.heap s.heap [] := va_S.rf
  have hl : lv_has ls 1 [(0, .ref (adO 0))] := hl
  have h := hf
  unfold X2_faultCause at h
  refine lv_aload_n hx hb dX2_faultCause_0 rfl (lv_at hl 0 rfl) ?_
  refine va_get (D := D) (ci := 2) (v := .int (vO 99 7)) (C := RX2) (T := TX2) (N := 8) hx hb hts iw_X2_faultCause_X2 hown hK hP 0 rfl rfl 7 (by decide) (hts (.fieldLink RX2 31 "FavourRings$Orders" "faultCause" "I") (List.mem_of_getElem? (i := 1) rfl)) (fun _ h9 => h9) rfl dX2_faultCause_1 ?_
  cases h
  exact endI hx hb hr hlocks hP hS rfl dX2_faultCause_4
theorem iw_X2_faultPlace_X2 : ∀ w ∈ wsX20, w ∈ wsX2_faultPlace := fun _ h => List.mem_cons_of_mem _ (List.mem_append_right _ (h))
set_option maxHeartbeats 4000000 in
set_option maxRecDepth 100000 in
theorem c_X2_faultPlace (l : Launch) (D : va_G) (cA cQ : ClassId) (adO : Nat → Nat) (vO : St) (o : Int32) (hf : X2_faultPlace vO = some o) : Cti l yX2_faultPlace wsX2_faultPlace ({ frames := 0, cells := 0, slots := 0, locals := 0 }) D (TY cA cQ) [.ref (adO 0)] (wO cA adO vO) (wO cA adO vO) o := by
  refine Wk.i (cc := cX2_faultPlace) (maxL := 1) (ret := (some .int)) (by decide) rfl (Nat.le_of_ble_eq_true rfl) ?_
  intro p e s m below meth c A ls hx hb hr hlocks hml hown hts hK hN hP hD hA hl
  have hown : s.vm.findClass RX2 = some m.cls := hown
  have hS : va_S A s.heap s.heap [] := va_S.rf
  have hl : lv_has ls 1 [(0, .ref (adO 0))] := hl
  have h := hf
  unfold X2_faultPlace at h
  refine lv_aload_n hx hb dX2_faultPlace_0 rfl (lv_at hl 0 rfl) ?_
  refine va_get (D := D) (ci := 2) (v := .int (vO 99 5)) (C := RX2) (T := TX2) (N := 8) hx hb hts iw_X2_faultPlace_X2 hown hK hP 0 rfl rfl 5 (by decide) (hts (.fieldLink RX2 25 "FavourRings$Orders" "faultPlace" "I") (List.mem_of_getElem? (i := 1) rfl)) (fun _ h9 => h9) rfl dX2_faultPlace_1 ?_
  cases h
  exact endI hx hb hr hlocks hP hS rfl dX2_faultPlace_4
theorem iw_X2_faultReason_X2 : ∀ w ∈ wsX20, w ∈ wsX2_faultReason := fun _ h => List.mem_cons_of_mem _ (List.mem_append_right _ (h))
set_option maxHeartbeats 4000000 in
set_option maxRecDepth 100000 in
theorem c_X2_faultReason (l : Launch) (D : va_G) (cA cQ : ClassId) (adO : Nat → Nat) (vO : St) (o : Int32) (hf : X2_faultReason vO = some o) : Cti l yX2_faultReason wsX2_faultReason ({ frames := 0, cells := 0, slots := 0, locals := 0 }) D (TY cA cQ) [.ref (adO 0)] (wO cA adO vO) (wO cA adO vO) o := by
  refine Wk.i (cc := cX2_faultReason) (maxL := 1) (ret := (some .int)) (by decide) rfl (Nat.le_of_ble_eq_true rfl) ?_
  intro p e s m below meth c A ls hx hb hr hlocks hml hown hts hK hN hP hD hA hl
  have hown : s.vm.findClass RX2 = some m.cls := hown
  have hS : va_S A s.heap s.heap [] := va_S.rf
  have hl : lv_has ls 1 [(0, .ref (adO 0))] := hl
  have h := hf
  unfold X2_faultReason at h
  refine lv_aload_n hx hb dX2_faultReason_0 rfl (lv_at hl 0 rfl) ?_
  refine va_get (D := D) (ci := 2) (v := .int (vO 99 6)) (C := RX2) (T := TX2) (N := 8) hx hb hts iw_X2_faultReason_X2 hown hK hP 0 rfl rfl 6 (by decide) (hts (.fieldLink RX2 28 "FavourRings$Orders" "faultReason" "I") (List.mem_of_getElem? (i := 1) rfl)) (fun _ h9 => h9) rfl dX2_faultReason_1 ?_
  cases h
  exact endI hx hb hr hlocks hP hS rfl dX2_faultReason_4
theorem iw_X2_length_X2 : ∀ w ∈ wsX20, w ∈ wsX2_length := fun _ h => List.mem_cons_of_mem _ (List.mem_append_right _ (h))
set_option maxHeartbeats 4000000 in
set_option maxRecDepth 100000 in
theorem c_X2_length (l : Launch) (D : va_G) (cA cQ : ClassId) (adO : Nat → Nat) (vO : St) (o : Int32) (hf : X2_length vO = some o) : Cti l yX2_length wsX2_length ({ frames := 0, cells := 0, slots := 0, locals := 0 }) D (TY cA cQ) [.ref (adO 0)] (wO cA adO vO) (wO cA adO vO) o := by
  refine Wk.i (cc := cX2_length) (maxL := 1) (ret := (some .int)) (by decide) rfl (Nat.le_of_ble_eq_true rfl) ?_
  intro p e s m below meth c A ls hx hb hr hlocks hml hown hts hK hN hP hD hA hl
  have hown : s.vm.findClass RX2 = some m.cls := hown
  have hS : va_S A s.heap s.heap [] := va_S.rf
  have hl : lv_has ls 1 [(0, .ref (adO 0))] := hl
  have h := hf
  unfold X2_length at h
  refine lv_aload_n hx hb dX2_length_0 rfl (lv_at hl 0 rfl) ?_
  refine va_get (D := D) (ci := 2) (v := .int (vO 99 2)) (C := RX2) (T := TX2) (N := 8) hx hb hts iw_X2_length_X2 hown hK hP 0 rfl rfl 2 (by decide) (hts (.fieldLink RX2 18 "FavourRings$Orders" "length" "I") (List.mem_of_getElem? (i := 1) rfl)) (fun _ h9 => h9) rfl dX2_length_1 ?_
  cases h
  exact endI hx hb hr hlocks hP hS rfl dX2_length_4
theorem iw_X2_ordersDone_X2 : ∀ w ∈ wsX20, w ∈ wsX2_ordersDone := fun _ h => List.mem_cons_of_mem _ (List.mem_append_right _ (h))
set_option maxHeartbeats 4000000 in
set_option maxRecDepth 100000 in
theorem c_X2_ordersDone (l : Launch) (D : va_G) (cA cQ : ClassId) (adO : Nat → Nat) (vO : St) (o : Int32) (hf : X2_ordersDone vO = some o) : Cti l yX2_ordersDone wsX2_ordersDone ({ frames := 0, cells := 0, slots := 0, locals := 0 }) D (TY cA cQ) [.ref (adO 0)] (wO cA adO vO) (wO cA adO vO) o := by
  refine Wk.i (cc := cX2_ordersDone) (maxL := 1) (ret := (some .int)) (by decide) rfl (Nat.le_of_ble_eq_true rfl) ?_
  intro p e s m below meth c A ls hx hb hr hlocks hml hown hts hK hN hP hD hA hl
  have hown : s.vm.findClass RX2 = some m.cls := hown
  have hS : va_S A s.heap s.heap [] := va_S.rf
  have hl : lv_has ls 1 [(0, .ref (adO 0))] := hl
  have h := hf
  unfold X2_ordersDone at h
  refine lv_aload_n hx hb dX2_ordersDone_0 rfl (lv_at hl 0 rfl) ?_
  refine va_get (D := D) (ci := 2) (v := .int (vO 99 4)) (C := RX2) (T := TX2) (N := 8) hx hb hts iw_X2_ordersDone_X2 hown hK hP 0 rfl rfl 4 (by decide) (hts (.fieldLink RX2 22 "FavourRings$Orders" "done" "I") (List.mem_of_getElem? (i := 1) rfl)) (fun _ h9 => h9) rfl dX2_ordersDone_1 ?_
  cases h
  exact endI hx hb hr hlocks hP hS rfl dX2_ordersDone_4
theorem iw_X3_nextLength_X3 : ∀ w ∈ wsX30, w ∈ wsX3_nextLength := fun _ h => List.mem_cons_of_mem _ (List.mem_append_right _ (h))
set_option maxHeartbeats 4000000 in
set_option maxRecDepth 100000 in
theorem c_X3_nextLength (l : Launch) (D : va_G) (cA cQ : ClassId) (adR : Nat → Nat) (vR : St) (o : Int32) (hf : X3_nextLength vR = some o) : Cti l yX3_nextLength wsX3_nextLength ({ frames := 0, cells := 0, slots := 0, locals := 0 }) D (TY cA cQ) [.ref (adR 0)] (wR cA adR vR) (wR cA adR vR) o := by
  refine Wk.i (cc := cX3_nextLength) (maxL := 1) (ret := (some .int)) (by decide) rfl (Nat.le_of_ble_eq_true rfl) ?_
  intro p e s m below meth c A ls hx hb hr hlocks hml hown hts hK hN hP hD hA hl
  have hown : s.vm.findClass RX3 = some m.cls := hown
  have hS : va_S A s.heap s.heap [] := va_S.rf
  have hl : lv_has ls 1 [(0, .ref (adR 0))] := hl
  have h := hf
  unfold X3_nextLength at h
  refine lv_aload_n hx hb dX3_nextLength_0 rfl (lv_at hl 0 rfl) ?_
  refine va_get (D := D) (ci := 3) (v := .int (vR 99 4)) (C := RX3) (T := TX3) (N := 5) hx hb hts iw_X3_nextLength_X3 hown hK hP 0 rfl rfl 4 (by decide) (hts (.fieldLink RX3 24 "FavourRings$Rings" "length" "I") (List.mem_of_getElem? (i := 1) rfl)) (fun _ h9 => h9) rfl dX3_nextLength_1 ?_
  cases h
  exact endI hx hb hr hlocks hP hS rfl dX3_nextLength_4
theorem iw_X3_stepsBetween_X3 : ∀ w ∈ wsX30, w ∈ wsX3_stepsBetween := fun _ h => List.mem_cons_of_mem _ (List.mem_append_left _ (List.mem_append_right _ (h)))
set_option maxHeartbeats 4000000 in
set_option maxRecDepth 100000 in
theorem c_X3_stepsBetween (l : Launch) (D : va_G) (cA cQ : ClassId) (adR : Nat → Nat) (adB : Nat → Nat) (vR : St) (vB : St) (p2 : Int32) (p3 : Int32) (p4 : Int32) (o : Int32 × St) (hf : X3_stepsBetween vR vB p2 p3 p4 = some o) : Cti l yX3_stepsBetween wsX3_stepsBetween ({ frames := 2, cells := 0, slots := 0, locals := 49 }) D (TY cA cQ) [.ref (adR 0), .ref (adB 0), .int p2, .int p3, .int p4] (wR cA adR vR ++ (wB cA adB vB)) (wR cA adR o.2 ++ (wB cA adB vB)) o.1 := by
  refine Wk.i (cc := cX3_stepsBetween) (maxL := 5) (ret := (some .int)) (by decide) rfl (Nat.le_of_ble_eq_true rfl) ?_
  intro p e s m below meth c A ls hx hb hr hlocks hml hown hts hK hN hP hD hA hl
  have hown : s.vm.findClass RX3 = some m.cls := hown
  have hS : va_S A s.heap s.heap [] := va_S.rf
  have hl : lv_has ls 5 [(0, .ref (adR 0)), (1, .ref (adB 0)), (2, .int p2), (3, .int p3), (4, .int p4)] := hl
  have h := hf
  unfold X3_stepsBetween at h
  refine lv_aload_n hx hb dX3_stepsBetween_0 rfl (lv_at hl 0 rfl) ?_
  refine lv_aload_n hx hb dX3_stepsBetween_1 rfl (lv_at hl 1 rfl) ?_
  refine lv_iload hx hb dX3_stepsBetween_2 (lv_at hl 4 rfl) ?_
  obtain ⟨u1, eu1, h⟩ := bd_in h
  refine kV (va_runV (As := [.ref (adB 0), .int p4]) (rest := []) ⟨hx, hb, hml, hown, hts⟩ (c_X3_readOwed l D cA cQ adR adB vR vB p4 u1 eu1 _) (cwV 2 hts gX3_stepsBetween_X3_readOwed rfl rfl rfl (by decide +kernel) ⟨Nat.le_of_ble_eq_true rfl, Nat.le_of_ble_eq_true rfl⟩) (pV (ci := 3) (q := (RX3, TX3, 5)) hK hN hP hD [0, 1, 2, 3, 4, 5, 6, 7, 8, 9, 10, 11, 12, 13, 14, 15, 16, 17, 18] rfl rfl rfl rfl) rfl rfl hl.1 rfl (lv_room (Nat.le_of_ble_eq_true rfl)) dX3_stepsBetween_4 ⟨Nat.zero_le _, Nat.zero_le _⟩) hP hD hS hA [0, 1, 2, 3, 4, 5, 6, 7, 8, 9, 10, 11, 12, 13, 14, 15, 16, 17, 18] rfl rfl (ws' := (wR cA adR u1 ++ (wB cA adB vB))) rfl (fun H locs hP hD hS => ?_)
  refine lv_aload_n hx hb dX3_stepsBetween_7 rfl (lv_at hl 0 rfl) ?_
  refine lv_iload_n hx hb dX3_stepsBetween_8 rfl (lv_at hl 3 rfl) ?_
  refine lv_iconst (v := (0 : Int32)) hx hb dX3_stepsBetween_9 (by decide) ?_
  obtain ⟨u2, eu2, h⟩ := bd_in h
  refine kV (va_runV (As := [.int p3, .int (0 : Int32)]) (rest := []) ⟨hx, hb, hml, hown, hts⟩ (c_X3_measureSteps l D cA cQ adR u1 p3 (0 : Int32) u2 eu2 _) (cwV 2 hts gX3_stepsBetween_X3_measureSteps rfl rfl rfl (by decide +kernel) ⟨Nat.le_of_ble_eq_true rfl, Nat.le_of_ble_eq_true rfl⟩) (pV (ci := 3) (q := (RX3, TX3, 5)) hK hN hP hD [0, 1, 2, 3, 4] rfl rfl rfl rfl) rfl rfl hl.1 rfl (lv_room (Nat.le_of_ble_eq_true rfl)) dX3_stepsBetween_10 ⟨Nat.zero_le _, Nat.zero_le _⟩) hP hD hS hA [0, 1, 2, 3, 4] rfl rfl (ws' := (wR cA adR u2 ++ (wB cA adB vB))) rfl (fun H locs hP hD hS => ?_)
  refine lv_aload_n hx hb dX3_stepsBetween_13 rfl (lv_at hl 0 rfl) ?_
  refine va_get (D := D) (ci := 3) (v := .ref (adR 2)) (C := RX3) (T := TX3) (N := 5) hx hb hts iw_X3_stepsBetween_X3 hown hK hP 0 rfl rfl 1 (by decide) (hts (.fieldLink RX3 15 "FavourRings$Rings" "steps" "[I") (List.mem_of_getElem? (i := 1) rfl)) (fun _ h9 => h9) rfl dX3_stepsBetween_14 ?_
  refine lv_iload_n hx hb dX3_stepsBetween_17 rfl (lv_at hl 2 rfl) ?_
  obtain ⟨u3, eu3, h⟩ := bd_in h
  refine kI (va_runSN (As := [.ref (adR 2), .int p2]) (rest := []) ⟨hx, hb, hml, hown, hts⟩ (c_X4_at l D cA cQ (adR 2) 8 (u2 2) p2 u3 eu3 _) ⟨va_cnB 2 hts gX3_stepsBetween_X4_at_n28 rfl rfl rfl hN.2.2.2.2.2.2.2.2.2.2.1 (hts (.initialized RX4) (List.mem_of_getElem? (i := 22) rfl)) (by decide +kernel) ⟨Nat.le_of_ble_eq_true rfl, Nat.le_of_ble_eq_true rfl⟩, (hts (.static yX4_at) (List.mem_of_getElem? (i := 21) rfl)), trivial⟩ (pS hK hN hP hD [2] rfl rfl) rfl rfl hl.1 rfl (lv_room (Nat.le_of_ble_eq_true rfl)) dX3_stepsBetween_18 ⟨Nat.zero_le _, Nat.zero_le _⟩) hP hD hS hA [2] rfl rfl (ws' := (wR cA adR u2 ++ (wB cA adB vB))) rfl (fun H locs hP hD hS => ?_)
  cases h
  exact endI hx hb hr hlocks hP hS rfl dX3_stepsBetween_21
theorem iw_X4_amount_X4 : ∀ w ∈ wsX40, w ∈ wsX4_amount := fun _ h => List.mem_cons_of_mem _ (List.mem_append_left _ (List.mem_append_left _ (List.mem_append_right _ (h))))
set_option maxHeartbeats 4000000 in
set_option maxRecDepth 100000 in
theorem c_X4_amount (l : Launch) (D : va_G) (cA cQ : ClassId) (adF : Nat) (adB : Nat → Nat) (adT : Nat → Nat) (adH : Nat → Nat) (kH : Nat → Nat → Nat) (adR : Nat → Nat) (adO : Nat → Nat) (vB : St) (vT : St) (vH : St) (bH : Nat → St) (vR : St) (vO : St) (p1 : Int32) (o : Int32 × St) (hf : X4_amount vB vT vH bH vR vO p1 = some o) : Cti l yX4_amount wsX4_amount ({ frames := 3, cells := 0, slots := 0, locals := 74 }) D (TY cA cQ) [.ref adF, .int p1] (wF cA cQ adF adB adT adH kH adR adO vB vT vH bH vR vO) (wF cA cQ adF adB adT adH kH adR adO vB vT vH bH o.2 vO) o.1 := by
  refine Wk.i (cc := cX4_amount) (maxL := 2) (ret := (some .int)) (by decide) rfl (Nat.le_of_ble_eq_true rfl) ?_
  intro p e s m below meth c A ls hx hb hr hlocks hml hown hts hK hN hP hD hA hl
  have hown : s.vm.findClass RX4 = some m.cls := hown
  have hS : va_S A s.heap s.heap [] := va_S.rf
  have hl : lv_has ls 2 [(0, .ref adF), (1, .int p1)] := hl
  have h := hf
  unfold X4_amount at h
  refine lv_iload_n hx hb dX4_amount_0 rfl (lv_at hl 1 rfl) ?_
  obtain ⟨u1, eu1, h⟩ := bd_in h
  refine kI (va_runS (As := [.int p1]) (rest := []) ⟨hx, hb, hml, hown, hts⟩ (c_X4_isKind l D cA cQ  p1 u1 eu1 _) (va_cwS 1 hts gX4_amount_X4_isKind rfl rfl rfl (by decide +kernel) ⟨Nat.le_of_ble_eq_true rfl, Nat.le_of_ble_eq_true rfl⟩) (pS hK hN hP hD [] rfl rfl) rfl rfl hl.1 rfl (lv_room (Nat.le_of_ble_eq_true rfl)) dX4_amount_1 ⟨Nat.zero_le _, Nat.zero_le _⟩) hP hD hS hA [] rfl rfl (ws' := (wF cA cQ adF adB adT adH kH adR adO vB vT vH bH vR vO)) rfl (fun H locs hP hD hS => ?_)
  refine lv_if_ne (tgt := 10) hx hb dX4_amount_4 (by decide) (fun c2 => ?_) (fun c2 => ?_)
  · have h := (if_neg c2).symm.trans h
    refine lv_aload_n hx hb dX4_amount_10 rfl (lv_at hl 0 rfl) ?_
    refine va_get (D := D) (ci := 4) (v := .ref (adR 0)) (C := RX4) (T := TX4) (N := 5) hx hb hts iw_X4_amount_X4 hown hK hP 0 rfl rfl 3 (by decide) (hts (.fieldLink RX4 29 "FavourRings" "rings" "LFavourRings$Rings;") (List.mem_of_getElem? (i := 2) rfl)) (fun _ h9 => h9) rfl dX4_amount_11 ?_
    refine lv_aload_n hx hb dX4_amount_14 rfl (lv_at hl 0 rfl) ?_
    refine va_get (D := D) (ci := 4) (v := .ref (adB 0)) (C := RX4) (T := TX4) (N := 5) hx hb hts iw_X4_amount_X4 hown hK hP 0 rfl rfl 0 (by decide) (hts (.fieldLink RX4 10 "FavourRings" "bank" "LFavourRings$Bank;") (List.mem_of_getElem? (i := 3) rfl)) (fun _ h9 => h9) rfl dX4_amount_15 ?_
    refine lv_iload_n hx hb dX4_amount_18 rfl (lv_at hl 1 rfl) ?_
    obtain ⟨u3, eu3, h⟩ := bd_in h
    refine kI (va_runV (As := [.ref (adB 0), .int p1]) (rest := []) ⟨hx, hb, hml, hown, hts⟩ (c_X3_findNext l D cA cQ adR adB vR vB p1 u3 eu3 _) (cwV 2 hts gX4_amount_X3_findNext rfl rfl rfl (by decide +kernel) ⟨Nat.le_of_ble_eq_true rfl, Nat.le_of_ble_eq_true rfl⟩) (pV (ci := 3) (q := (RX3, TX3, 5)) hK hN hP hD [87, 88, 89, 90, 91, 1, 2, 3, 4, 5, 6, 7, 8, 9, 10, 11, 12, 13, 14] rfl rfl rfl rfl) rfl rfl hl.1 rfl (lv_room (Nat.le_of_ble_eq_true rfl)) dX4_amount_19 ⟨Nat.zero_le _, Nat.zero_le _⟩) hP hD hS hA [87, 88, 89, 90, 91, 1, 2, 3, 4, 5, 6, 7, 8, 9, 10, 11, 12, 13, 14] rfl rfl (ws' := (wF cA cQ adF adB adT adH kH adR adO vB vT vH bH u3.2 vO)) rfl (fun H locs hP hD hS => ?_)
    refine lv_if_eq (tgt := 35) hx hb dX4_amount_22 (by decide) (fun c4 => ?_) (fun c4 => ?_)
    · have h := (if_pos c4).symm.trans h
      refine lv_ldc (v := (-1000004 : Int32)) hx hb hown (hts (.constant RX4 98 (-1000004)) (List.mem_of_getElem? (i := 4) rfl)) dX4_amount_35 ?_
      cases h
      exact endI hx hb hr hlocks hP hS rfl dX4_amount_37
    · have h := (if_neg c4).symm.trans h
      refine lv_aload_n hx hb dX4_amount_25 rfl (lv_at hl 0 rfl) ?_
      refine va_get (D := D) (ci := 4) (v := .ref (adR 0)) (C := RX4) (T := TX4) (N := 5) hx hb hts iw_X4_amount_X4 hown hK hP 0 rfl rfl 3 (by decide) (hts (.fieldLink RX4 29 "FavourRings" "rings" "LFavourRings$Rings;") (List.mem_of_getElem? (i := 2) rfl)) (fun _ h9 => h9) rfl dX4_amount_26 ?_
      obtain ⟨u5, eu5, h⟩ := bd_in h
      refine kI (va_runV (As := []) (rest := []) ⟨hx, hb, hml, hown, hts⟩ (c_X3_nextAmount l D cA cQ adR u3.2 u5 eu5 _) (cwV 0 hts gX4_amount_X3_nextAmount rfl rfl rfl (by decide +kernel) ⟨Nat.le_of_ble_eq_true rfl, Nat.le_of_ble_eq_true rfl⟩) (pV (ci := 3) (q := (RX3, TX3, 5)) hK hN hP hD [87, 88, 89, 90, 91] rfl rfl rfl rfl) rfl rfl hl.1 rfl (lv_room (Nat.le_of_ble_eq_true rfl)) dX4_amount_29 ⟨Nat.zero_le _, Nat.zero_le _⟩) hP hD hS hA [87, 88, 89, 90, 91] rfl rfl (ws' := (wF cA cQ adF adB adT adH kH adR adO vB vT vH bH u3.2 vO)) rfl (fun H locs hP hD hS => ?_)
      refine lv_goto (tgt := 37) hx hb dX4_amount_32 (by decide) ?_
      cases h
      exact endI hx hb hr hlocks hP hS rfl dX4_amount_37
  · have h := (if_pos c2).symm.trans h
    refine lv_ldc (v := (-1000001 : Int32)) hx hb hown (hts (.constant RX4 81 (-1000001)) (List.mem_of_getElem? (i := 1) rfl)) dX4_amount_7 ?_
    cases h
    exact endI hx hb hr hlocks hP hS rfl dX4_amount_9
theorem iw_X4_chain_X4 : ∀ w ∈ wsX40, w ∈ wsX4_chain := fun _ h => List.mem_cons_of_mem _ (List.mem_append_left _ (List.mem_append_left _ (List.mem_append_right _ (h))))
set_option maxHeartbeats 4000000 in
set_option maxRecDepth 100000 in
theorem c_X4_chain (l : Launch) (D : va_G) (cA cQ : ClassId) (adF : Nat) (adB : Nat → Nat) (adT : Nat → Nat) (adH : Nat → Nat) (kH : Nat → Nat → Nat) (adR : Nat → Nat) (adO : Nat → Nat) (vB : St) (vT : St) (vH : St) (bH : Nat → St) (vR : St) (vO : St) (p1 : Int32) (p2 : Int32) (p3 : Int32) (o : Int32 × St) (hf : X4_chain vB vT vH bH vR vO p1 p2 p3 = some o) : Cti l yX4_chain wsX4_chain ({ frames := 3, cells := 0, slots := 0, locals := 73 }) D (TY cA cQ) [.ref adF, .int p1, .int p2, .int p3] (wF cA cQ adF adB adT adH kH adR adO vB vT vH bH vR vO) (wF cA cQ adF adB adT adH kH adR adO vB vT vH bH o.2 vO) o.1 := by
  refine Wk.i (cc := cX4_chain) (maxL := 5) (ret := (some .int)) (by decide) rfl (Nat.le_of_ble_eq_true rfl) ?_
  intro p e s m below meth c A ls hx hb hr hlocks hml hown hts hK hN hP hD hA hl
  have hown : s.vm.findClass RX4 = some m.cls := hown
  have hS : va_S A s.heap s.heap [] := va_S.rf
  have hl : lv_has ls 5 [(0, .ref adF), (1, .int p1), (2, .int p2), (3, .int p3)] := hl
  have h := hf
  unfold X4_chain at h
  refine lv_aload_n hx hb dX4_chain_0 rfl (lv_at hl 0 rfl) ?_
  refine va_get (D := D) (ci := 4) (v := .ref (adB 0)) (C := RX4) (T := TX4) (N := 5) hx hb hts iw_X4_chain_X4 hown hK hP 0 rfl rfl 0 (by decide) (hts (.fieldLink RX4 10 "FavourRings" "bank" "LFavourRings$Bank;") (List.mem_of_getElem? (i := 1) rfl)) (fun _ h9 => h9) rfl dX4_chain_1 ?_
  refine lv_iload_n hx hb dX4_chain_4 rfl (lv_at hl 1 rfl) ?_
  refine lv_iload_n hx hb dX4_chain_5 rfl (lv_at hl 2 rfl) ?_
  obtain ⟨u1, eu1, h⟩ := bd_in h
  refine kI (va_runV (As := [.int p1, .int p2]) (rest := []) ⟨hx, hb, hml, hown, hts⟩ (c_X0_isPair l D cA cQ adB vB p1 p2 u1 eu1 _) (cwV 2 hts gX4_chain_X0_isPair rfl rfl rfl (by decide +kernel) ⟨Nat.le_of_ble_eq_true rfl, Nat.le_of_ble_eq_true rfl⟩) (pV (ci := 0) (q := (RX0, TX0, 13)) hK hN hP hD [1, 2, 3, 4, 5, 6, 7, 8, 9, 10, 11, 12, 13, 14] rfl rfl rfl rfl) rfl rfl hl.1 rfl (lv_room (Nat.le_of_ble_eq_true rfl)) dX4_chain_6 ⟨Nat.zero_le _, Nat.zero_le _⟩) hP hD hS hA [1, 2, 3, 4, 5, 6, 7, 8, 9, 10, 11, 12, 13, 14] rfl rfl (ws' := (wF cA cQ adF adB adT adH kH adR adO vB vT vH bH vR vO)) rfl (fun H locs hP hD hS => ?_)
  refine lv_if_eq (tgt := 19) hx hb dX4_chain_9 (by decide) (fun c2 => ?_) (fun c2 => ?_)
  · have h := (if_pos c2).symm.trans h
    refine lv_ldc (v := (-1000001 : Int32)) hx hb hown (hts (.constant RX4 81 (-1000001)) (List.mem_of_getElem? (i := 2) rfl)) dX4_chain_19 ?_
    cases h
    exact endI hx hb hr hlocks hP hS rfl dX4_chain_21
  · have h := (if_neg c2).symm.trans h
    refine lv_iload_n hx hb dX4_chain_12 rfl (lv_at hl 3 rfl) ?_
    obtain ⟨u3, eu3, h⟩ := bd_in h
    refine kI (va_runS (As := [.int p3]) (rest := []) ⟨hx, hb, hml, hown, hts⟩ (c_X4_isKind l D cA cQ  p3 u3 eu3 _) (va_cwS 1 hts gX4_chain_X4_isKind rfl rfl rfl (by decide +kernel) ⟨Nat.le_of_ble_eq_true rfl, Nat.le_of_ble_eq_true rfl⟩) (pS hK hN hP hD [] rfl rfl) rfl rfl hl.1 rfl (lv_room (Nat.le_of_ble_eq_true rfl)) dX4_chain_13 ⟨Nat.zero_le _, Nat.zero_le _⟩) hP hD hS hA [] rfl rfl (ws' := (wF cA cQ adF adB adT adH kH adR adO vB vT vH bH vR vO)) rfl (fun H locs hP hD hS => ?_)
    refine lv_if_ne (tgt := 22) hx hb dX4_chain_16 (by decide) (fun c4 => ?_) (fun c4 => ?_)
    · have h := (if_neg c4).symm.trans h
      refine lv_aload_n hx hb dX4_chain_22 rfl (lv_at hl 0 rfl) ?_
      refine va_get (D := D) (ci := 4) (v := .ref (adR 0)) (C := RX4) (T := TX4) (N := 5) hx hb hts iw_X4_chain_X4 hown hK hP 0 rfl rfl 3 (by decide) (hts (.fieldLink RX4 29 "FavourRings" "rings" "LFavourRings$Rings;") (List.mem_of_getElem? (i := 3) rfl)) (fun _ h9 => h9) rfl dX4_chain_23 ?_
      refine lv_aload_n hx hb dX4_chain_26 rfl (lv_at hl 0 rfl) ?_
      refine va_get (D := D) (ci := 4) (v := .ref (adB 0)) (C := RX4) (T := TX4) (N := 5) hx hb hts iw_X4_chain_X4 hown hK hP 0 rfl rfl 0 (by decide) (hts (.fieldLink RX4 10 "FavourRings" "bank" "LFavourRings$Bank;") (List.mem_of_getElem? (i := 1) rfl)) (fun _ h9 => h9) rfl dX4_chain_27 ?_
      refine lv_iload_n hx hb dX4_chain_30 rfl (lv_at hl 1 rfl) ?_
      refine lv_iload_n hx hb dX4_chain_31 rfl (lv_at hl 2 rfl) ?_
      refine lv_iload_n hx hb dX4_chain_32 rfl (lv_at hl 3 rfl) ?_
      obtain ⟨u5, eu5, h⟩ := bd_in h
      refine kI (va_runV (As := [.ref (adB 0), .int p1, .int p2, .int p3]) (rest := []) ⟨hx, hb, hml, hown, hts⟩ (c_X3_stepsBetween l D cA cQ adR adB vR vB p1 p2 p3 u5 eu5 _) (cwV 4 hts gX4_chain_X3_stepsBetween rfl rfl rfl (by decide +kernel) ⟨Nat.le_of_ble_eq_true rfl, Nat.le_of_ble_eq_true rfl⟩) (pV (ci := 3) (q := (RX3, TX3, 5)) hK hN hP hD [87, 88, 89, 90, 91, 1, 2, 3, 4, 5, 6, 7, 8, 9, 10, 11, 12, 13, 14] rfl rfl rfl rfl) rfl rfl hl.1 rfl (lv_room (Nat.le_of_ble_eq_true rfl)) dX4_chain_33 ⟨Nat.zero_le _, Nat.zero_le _⟩) hP hD hS hA [87, 88, 89, 90, 91, 1, 2, 3, 4, 5, 6, 7, 8, 9, 10, 11, 12, 13, 14] rfl rfl (ws' := (wF cA cQ adF adB adT adH kH adR adO vB vT vH bH u5.2 vO)) rfl (fun H locs hP hD hS => ?_)
      refine lv_istore (lv' := [(4, .int u5.1), (0, .ref adF), (1, .int p1), (2, .int p2), (3, .int p3)]) hx hb dX4_chain_36 hl (by decide) rfl (fun ls hl => ?_)
      refine lv_iload hx hb dX4_chain_38 (lv_at hl 0 rfl) ?_
      refine lv_if_le (tgt := 48) hx hb dX4_chain_40 (by decide) (fun c6 => ?_) (fun c6 => ?_)
      · have h := (if_pos c6).symm.trans h
        refine lv_ldc (v := (-1000004 : Int32)) hx hb hown (hts (.constant RX4 98 (-1000004)) (List.mem_of_getElem? (i := 4) rfl)) dX4_chain_48 ?_
        cases h
        exact endI hx hb hr hlocks hP hS rfl dX4_chain_50
      · have h := (if_neg c6).symm.trans h
        refine lv_iload hx hb dX4_chain_43 (lv_at hl 0 rfl) ?_
        refine lv_goto (tgt := 50) hx hb dX4_chain_45 (by decide) ?_
        cases h
        exact endI hx hb hr hlocks hP hS rfl dX4_chain_50
    · have h := (if_pos c4).symm.trans h
      refine lv_ldc (v := (-1000001 : Int32)) hx hb hown (hts (.constant RX4 81 (-1000001)) (List.mem_of_getElem? (i := 2) rfl)) dX4_chain_19 ?_
      cases h
      exact endI hx hb hr hlocks hP hS rfl dX4_chain_21
theorem iw_X4_freshTrial_X4 : ∀ w ∈ wsX40, w ∈ wsX4_freshTrial := fun _ h => List.mem_cons_of_mem _ (List.mem_append_left _ (List.mem_append_right _ (h)))
set_option maxHeartbeats 4000000 in
set_option maxRecDepth 100000 in
theorem c_X4_freshTrial (l : Launch) (D : va_G) (cA cQ : ClassId) (adF : Nat) (adB : Nat → Nat) (adT : Nat → Nat) (adH : Nat → Nat) (kH : Nat → Nat → Nat) (adR : Nat → Nat) (adO : Nat → Nat) (vB : St) (vT : St) (vH : St) (bH : Nat → St) (vR : St) (vO : St) (o : St) (hf : X4_freshTrial vB vT vH bH vR vO = some o) : Ctr l yX4_freshTrial wsX4_freshTrial ({ frames := 3, cells := 0, slots := 0, locals := 102 }) D (TY cA cQ) [.ref adF] (wF cA cQ adF adB adT adH kH adR adO vB vT vH bH vR vO) (wF cA cQ adF adB adT adH kH adR adO vB o vH bH vR vO) (adT 0) := by
  refine Wk.r (cc := cX4_freshTrial) (maxL := 1) (ret := (some (.object "FavourRings$Bank"))) (by decide) rfl (Nat.le_of_ble_eq_true rfl) ?_
  intro p e s m below meth c A ls hx hb hr hlocks hml hown hts hK hN hP hD hA hl
  have hown : s.vm.findClass RX4 = some m.cls := hown
  have hS : va_S A s.heap s.heap [] := va_S.rf
  have hl : lv_has ls 1 [(0, .ref adF)] := hl
  have h := hf
  unfold X4_freshTrial at h
  refine lv_aload_n hx hb dX4_freshTrial_0 rfl (lv_at hl 0 rfl) ?_
  refine va_get (D := D) (ci := 4) (v := .ref (adT 0)) (C := RX4) (T := TX4) (N := 5) hx hb hts iw_X4_freshTrial_X4 hown hK hP 0 rfl rfl 1 (by decide) (hts (.fieldLink RX4 16 "FavourRings" "trial" "LFavourRings$Bank;") (List.mem_of_getElem? (i := 1) rfl)) (fun _ h9 => h9) rfl dX4_freshTrial_1 ?_
  refine lv_aload_n hx hb dX4_freshTrial_4 rfl (lv_at hl 0 rfl) ?_
  refine va_get (D := D) (ci := 4) (v := .ref (adB 0)) (C := RX4) (T := TX4) (N := 5) hx hb hts iw_X4_freshTrial_X4 hown hK hP 0 rfl rfl 0 (by decide) (hts (.fieldLink RX4 10 "FavourRings" "bank" "LFavourRings$Bank;") (List.mem_of_getElem? (i := 2) rfl)) (fun _ h9 => h9) rfl dX4_freshTrial_5 ?_
  obtain ⟨u1, eu1, h⟩ := bd_in h
  refine kV (va_runV (As := [.ref (adB 0)]) (rest := []) ⟨hx, hb, hml, hown, hts⟩ (c_X0_copyFrom l D cA cQ adT adB vT vB u1 eu1 _) (cwV 1 hts gX4_freshTrial_X0_copyFrom rfl rfl rfl (by decide +kernel) ⟨Nat.le_of_ble_eq_true rfl, Nat.le_of_ble_eq_true rfl⟩) (pV (ci := 0) (q := (RX0, TX0, 13)) hK hN hP hD [15, 16, 17, 18, 19, 20, 21, 22, 23, 24, 25, 26, 27, 28, 1, 2, 3, 4, 5, 6, 7, 8, 9, 10, 11, 12, 13, 14] rfl rfl rfl rfl) rfl rfl hl.1 rfl (lv_room (Nat.le_of_ble_eq_true rfl)) dX4_freshTrial_8 ⟨Nat.zero_le _, Nat.zero_le _⟩) hP hD hS hA [15, 16, 17, 18, 19, 20, 21, 22, 23, 24, 25, 26, 27, 28, 1, 2, 3, 4, 5, 6, 7, 8, 9, 10, 11, 12, 13, 14] rfl rfl (ws' := (wF cA cQ adF adB adT adH kH adR adO vB u1 vH bH vR vO)) rfl (fun H locs hP hD hS => ?_)
  refine lv_aload_n hx hb dX4_freshTrial_11 rfl (lv_at hl 0 rfl) ?_
  refine va_get (D := D) (ci := 4) (v := .ref (adT 0)) (C := RX4) (T := TX4) (N := 5) hx hb hts iw_X4_freshTrial_X4 hown hK hP 0 rfl rfl 1 (by decide) (hts (.fieldLink RX4 16 "FavourRings" "trial" "LFavourRings$Bank;") (List.mem_of_getElem? (i := 1) rfl)) (fun _ h9 => h9) rfl dX4_freshTrial_12 ?_
  cases h
  exact endR hx hb hr (Or.inl ⟨_, rfl⟩) hlocks hP hS dX4_freshTrial_15
theorem iw_X4_settled_X4 : ∀ w ∈ wsX40, w ∈ wsX4_settled := fun _ h => List.mem_cons_of_mem _ (List.mem_append_left _ (List.mem_append_left _ (List.mem_append_right _ (h))))
set_option maxHeartbeats 4000000 in
set_option maxRecDepth 100000 in
theorem c_X4_settled (l : Launch) (D : va_G) (cA cQ : ClassId) (adF : Nat) (adB : Nat → Nat) (adT : Nat → Nat) (adH : Nat → Nat) (kH : Nat → Nat → Nat) (adR : Nat → Nat) (adO : Nat → Nat) (vB : St) (vT : St) (vH : St) (bH : Nat → St) (vR : St) (vO : St) (p1 : Int32) (o : Int32 × St × St × (Nat → St)) (hf : X4_settled vB vT vH bH vR vO p1 = some o) : Cti l yX4_settled wsX4_settled ({ frames := 5, cells := 0, slots := 0, locals := 144 }) D (TY cA cQ) [.ref adF, .int p1] (wF cA cQ adF adB adT adH kH adR adO vB vT vH bH vR vO) (wF cA cQ adF adB adT adH kH adR adO o.2.1 vT o.2.2.1 o.2.2.2 vR vO) o.1 := by
  refine Wk.i (cc := cX4_settled) (maxL := 2) (ret := (some .int)) (by decide) rfl (Nat.le_of_ble_eq_true rfl) ?_
  intro p e s m below meth c A ls hx hb hr hlocks hml hown hts hK hN hP hD hA hl
  have hown : s.vm.findClass RX4 = some m.cls := hown
  have hS : va_S A s.heap s.heap [] := va_S.rf
  have hl : lv_has ls 2 [(0, .ref adF), (1, .int p1)] := hl
  have h := hf
  unfold X4_settled at h
  refine lv_iload_n hx hb dX4_settled_0 rfl (lv_at hl 1 rfl) ?_
  refine lv_if_lt (tgt := 26) hx hb dX4_settled_1 (by decide) (fun c1 => ?_) (fun c1 => ?_)
  · have h := (if_pos c1).symm.trans h
    refine lv_iload_n hx hb dX4_settled_26 rfl (lv_at hl 1 rfl) ?_
    cases h
    exact endI hx hb hr hlocks hP hS rfl dX4_settled_27
  · have h := (if_neg c1).symm.trans h
    refine lv_aload_n hx hb dX4_settled_4 rfl (lv_at hl 0 rfl) ?_
    refine va_get (D := D) (ci := 4) (v := .ref (adH 0)) (C := RX4) (T := TX4) (N := 5) hx hb hts iw_X4_settled_X4 hown hK hP 0 rfl rfl 2 (by decide) (hts (.fieldLink RX4 22 "FavourRings" "history" "LFavourRings$History;") (List.mem_of_getElem? (i := 1) rfl)) (fun _ h9 => h9) rfl dX4_settled_5 ?_
    refine lv_aload_n hx hb dX4_settled_8 rfl (lv_at hl 0 rfl) ?_
    refine va_get (D := D) (ci := 4) (v := .ref (adB 0)) (C := RX4) (T := TX4) (N := 5) hx hb hts iw_X4_settled_X4 hown hK hP 0 rfl rfl 0 (by decide) (hts (.fieldLink RX4 10 "FavourRings" "bank" "LFavourRings$Bank;") (List.mem_of_getElem? (i := 2) rfl)) (fun _ h9 => h9) rfl dX4_settled_9 ?_
    obtain ⟨u2, eu2, h⟩ := bd_in h
    refine kV (va_runV (As := [.ref (adB 0)]) (rest := []) ⟨hx, hb, hml, hown, hts⟩ (c_X1_keep l D cA cQ adH kH adB vH bH vB u2 eu2 _) (cwV 1 hts gX4_settled_X1_keep rfl rfl rfl (by decide +kernel) ⟨Nat.le_of_ble_eq_true rfl, Nat.le_of_ble_eq_true rfl⟩) (pV (ci := 1) (q := (RX1, TX1, 2)) hK hN hP hD [29, 30, 31, 32, 33, 34, 35, 36, 37, 38, 39, 40, 41, 42, 43, 44, 45, 46, 47, 48, 49, 50, 51, 52, 53, 54, 55, 56, 57, 58, 59, 60, 61, 62, 63, 64, 65, 66, 67, 68, 69, 70, 71, 72, 73, 74, 75, 76, 77, 78, 79, 80, 81, 82, 83, 84, 85, 86, 1, 2, 3, 4, 5, 6, 7, 8, 9, 10, 11, 12, 13, 14] rfl rfl rfl rfl) rfl rfl hl.1 rfl (lv_room (Nat.le_of_ble_eq_true rfl)) dX4_settled_12 ⟨Nat.zero_le _, Nat.zero_le _⟩) hP hD hS hA [29, 30, 31, 32, 33, 34, 35, 36, 37, 38, 39, 40, 41, 42, 43, 44, 45, 46, 47, 48, 49, 50, 51, 52, 53, 54, 55, 56, 57, 58, 59, 60, 61, 62, 63, 64, 65, 66, 67, 68, 69, 70, 71, 72, 73, 74, 75, 76, 77, 78, 79, 80, 81, 82, 83, 84, 85, 86, 1, 2, 3, 4, 5, 6, 7, 8, 9, 10, 11, 12, 13, 14] rfl rfl (ws' := (wF cA cQ adF adB adT adH kH adR adO vB vT u2.1 u2.2 vR vO)) rfl (fun H locs hP hD hS => ?_)
    refine lv_aload_n hx hb dX4_settled_15 rfl (lv_at hl 0 rfl) ?_
    refine va_get (D := D) (ci := 4) (v := .ref (adB 0)) (C := RX4) (T := TX4) (N := 5) hx hb hts iw_X4_settled_X4 hown hK hP 0 rfl rfl 0 (by decide) (hts (.fieldLink RX4 10 "FavourRings" "bank" "LFavourRings$Bank;") (List.mem_of_getElem? (i := 2) rfl)) (fun _ h9 => h9) rfl dX4_settled_16 ?_
    refine lv_aload_n hx hb dX4_settled_19 rfl (lv_at hl 0 rfl) ?_
    refine va_get (D := D) (ci := 4) (v := .ref (adT 0)) (C := RX4) (T := TX4) (N := 5) hx hb hts iw_X4_settled_X4 hown hK hP 0 rfl rfl 1 (by decide) (hts (.fieldLink RX4 16 "FavourRings" "trial" "LFavourRings$Bank;") (List.mem_of_getElem? (i := 3) rfl)) (fun _ h9 => h9) rfl dX4_settled_20 ?_
    obtain ⟨u3, eu3, h⟩ := bd_in h
    refine kV (va_runV (As := [.ref (adT 0)]) (rest := []) ⟨hx, hb, hml, hown, hts⟩ (c_X0_copyFrom l D cA cQ adB adT vB vT u3 eu3 _) (cwV 1 hts gX4_settled_X0_copyFrom rfl rfl rfl (by decide +kernel) ⟨Nat.le_of_ble_eq_true rfl, Nat.le_of_ble_eq_true rfl⟩) (pV (ci := 0) (q := (RX0, TX0, 13)) hK hN hP hD [1, 2, 3, 4, 5, 6, 7, 8, 9, 10, 11, 12, 13, 14, 15, 16, 17, 18, 19, 20, 21, 22, 23, 24, 25, 26, 27, 28] rfl rfl rfl rfl) rfl rfl hl.1 rfl (lv_room (Nat.le_of_ble_eq_true rfl)) dX4_settled_23 ⟨Nat.zero_le _, Nat.zero_le _⟩) hP hD hS hA [1, 2, 3, 4, 5, 6, 7, 8, 9, 10, 11, 12, 13, 14, 15, 16, 17, 18, 19, 20, 21, 22, 23, 24, 25, 26, 27, 28] rfl rfl (ws' := (wF cA cQ adF adB adT adH kH adR adO u3 vT u2.1 u2.2 vR vO)) rfl (fun H locs hP hD hS => ?_)
    refine lv_iload_n hx hb dX4_settled_26 rfl (lv_at hl 1 rfl) ?_
    cases h
    exact endI hx hb hr hlocks hP hS rfl dX4_settled_27
theorem iw_X4_clear_X4 : ∀ w ∈ wsX40, w ∈ wsX4_clear := fun _ h => List.mem_cons_of_mem _ (List.mem_append_left _ (List.mem_append_left _ (List.mem_append_left _ (List.mem_append_right _ (h)))))
set_option maxHeartbeats 4000000 in
set_option maxRecDepth 100000 in
theorem c_X4_clear (l : Launch) (D : va_G) (cA cQ : ClassId) (adF : Nat) (adB : Nat → Nat) (adT : Nat → Nat) (adH : Nat → Nat) (kH : Nat → Nat → Nat) (adR : Nat → Nat) (adO : Nat → Nat) (vB : St) (vT : St) (vH : St) (bH : Nat → St) (vR : St) (vO : St) (p1 : Int32) (o : Int32 × St × St × St × (Nat → St) × St) (hf : X4_clear vB vT vH bH vR vO p1 = some o) : Cti l yX4_clear wsX4_clear ({ frames := 6, cells := 0, slots := 0, locals := 165 }) D (TY cA cQ) [.ref adF, .int p1] (wF cA cQ adF adB adT adH kH adR adO vB vT vH bH vR vO) (wF cA cQ adF adB adT adH kH adR adO o.2.1 o.2.2.1 o.2.2.2.1 o.2.2.2.2.1 o.2.2.2.2.2 vO) o.1 := by
  refine Wk.i (cc := cX4_clear) (maxL := 2) (ret := (some .int)) (by decide) rfl (Nat.le_of_ble_eq_true rfl) ?_
  intro p e s m below meth c A ls hx hb hr hlocks hml hown hts hK hN hP hD hA hl
  have hown : s.vm.findClass RX4 = some m.cls := hown
  have hS : va_S A s.heap s.heap [] := va_S.rf
  have hl : lv_has ls 2 [(0, .ref adF), (1, .int p1)] := hl
  have h := hf
  unfold X4_clear at h
  refine lv_aload_n hx hb dX4_clear_0 rfl (lv_at hl 0 rfl) ?_
  refine lv_aload_n hx hb dX4_clear_1 rfl (lv_at hl 0 rfl) ?_
  refine va_get (D := D) (ci := 4) (v := .ref (adR 0)) (C := RX4) (T := TX4) (N := 5) hx hb hts iw_X4_clear_X4 hown hK hP 0 rfl rfl 3 (by decide) (hts (.fieldLink RX4 29 "FavourRings" "rings" "LFavourRings$Rings;") (List.mem_of_getElem? (i := 1) rfl)) (fun _ h9 => h9) rfl dX4_clear_2 ?_
  refine lv_aload_n hx hb dX4_clear_5 rfl (lv_at hl 0 rfl) ?_
  obtain ⟨u1, eu1, h⟩ := bd_in h
  refine kR (va_runV (As := []) (rest := [.ref (adR 0), .ref adF]) ⟨hx, hb, hml, hown, hts⟩ (c_X4_freshTrial l D cA cQ adF adB adT adH kH adR adO vB vT vH bH vR vO u1 eu1 _) (cwV 0 hts gX4_clear_X4_freshTrial rfl rfl rfl (by decide +kernel) ⟨Nat.le_of_ble_eq_true rfl, Nat.le_of_ble_eq_true rfl⟩) (pV (ci := 4) (q := (RX4, TX4, 5)) hK hN hP hD [0, 1, 2, 3, 4, 5, 6, 7, 8, 9, 10, 11, 12, 13, 14, 15, 16, 17, 18, 19, 20, 21, 22, 23, 24, 25, 26, 27, 28, 29, 30, 31, 32, 33, 34, 35, 36, 37, 38, 39, 40, 41, 42, 43, 44, 45, 46, 47, 48, 49, 50, 51, 52, 53, 54, 55, 56, 57, 58, 59, 60, 61, 62, 63, 64, 65, 66, 67, 68, 69, 70, 71, 72, 73, 74, 75, 76, 77, 78, 79, 80, 81, 82, 83, 84, 85, 86, 87, 88, 89, 90, 91, 92, 93, 94] rfl rfl rfl rfl) rfl rfl hl.1 rfl (lv_room (Nat.le_of_ble_eq_true rfl)) dX4_clear_6 ⟨Nat.zero_le _, Nat.zero_le _⟩) hP hD hS hA [0, 1, 2, 3, 4, 5, 6, 7, 8, 9, 10, 11, 12, 13, 14, 15, 16, 17, 18, 19, 20, 21, 22, 23, 24, 25, 26, 27, 28, 29, 30, 31, 32, 33, 34, 35, 36, 37, 38, 39, 40, 41, 42, 43, 44, 45, 46, 47, 48, 49, 50, 51, 52, 53, 54, 55, 56, 57, 58, 59, 60, 61, 62, 63, 64, 65, 66, 67, 68, 69, 70, 71, 72, 73, 74, 75, 76, 77, 78, 79, 80, 81, 82, 83, 84, 85, 86, 87, 88, 89, 90, 91, 92, 93, 94] rfl rfl (ws' := (wF cA cQ adF adB adT adH kH adR adO vB u1 vH bH vR vO)) rfl (fun H locs hP hD hS => ?_)
  refine lv_iload_n hx hb dX4_clear_9 rfl (lv_at hl 1 rfl) ?_
  obtain ⟨u2, eu2, h⟩ := bd_in h
  refine kI (va_runV (As := [.ref (adT 0), .int p1]) (rest := [.ref adF]) ⟨hx, hb, hml, hown, hts⟩ (c_X3_clearKind l D cA cQ adR adT vR u1 p1 u2 eu2 _) (cwV 2 hts gX4_clear_X3_clearKind rfl rfl rfl (by decide +kernel) ⟨Nat.le_of_ble_eq_true rfl, Nat.le_of_ble_eq_true rfl⟩) (pV (ci := 3) (q := (RX3, TX3, 5)) hK hN hP hD [87, 88, 89, 90, 91, 15, 16, 17, 18, 19, 20, 21, 22, 23, 24, 25, 26, 27, 28] rfl rfl rfl rfl) rfl rfl hl.1 rfl (lv_room (Nat.le_of_ble_eq_true rfl)) dX4_clear_10 ⟨Nat.zero_le _, Nat.zero_le _⟩) hP hD hS hA [87, 88, 89, 90, 91, 15, 16, 17, 18, 19, 20, 21, 22, 23, 24, 25, 26, 27, 28] rfl rfl (ws' := (wF cA cQ adF adB adT adH kH adR adO vB u2.2.2 vH bH u2.2.1 vO)) rfl (fun H locs hP hD hS => ?_)
  obtain ⟨u3, eu3, h⟩ := bd_in h
  refine kI (va_runV (As := [.int u2.1]) (rest := []) ⟨hx, hb, hml, hown, hts⟩ (c_X4_settled l D cA cQ adF adB adT adH kH adR adO vB u2.2.2 vH bH u2.2.1 vO u2.1 u3 eu3 _) (cwV 1 hts gX4_clear_X4_settled rfl rfl rfl (by decide +kernel) ⟨Nat.le_of_ble_eq_true rfl, Nat.le_of_ble_eq_true rfl⟩) (pV (ci := 4) (q := (RX4, TX4, 5)) hK hN hP hD [0, 1, 2, 3, 4, 5, 6, 7, 8, 9, 10, 11, 12, 13, 14, 15, 16, 17, 18, 19, 20, 21, 22, 23, 24, 25, 26, 27, 28, 29, 30, 31, 32, 33, 34, 35, 36, 37, 38, 39, 40, 41, 42, 43, 44, 45, 46, 47, 48, 49, 50, 51, 52, 53, 54, 55, 56, 57, 58, 59, 60, 61, 62, 63, 64, 65, 66, 67, 68, 69, 70, 71, 72, 73, 74, 75, 76, 77, 78, 79, 80, 81, 82, 83, 84, 85, 86, 87, 88, 89, 90, 91, 92, 93, 94] rfl rfl rfl rfl) rfl rfl hl.1 rfl (lv_room (Nat.le_of_ble_eq_true rfl)) dX4_clear_13 ⟨Nat.zero_le _, Nat.zero_le _⟩) hP hD hS hA [0, 1, 2, 3, 4, 5, 6, 7, 8, 9, 10, 11, 12, 13, 14, 15, 16, 17, 18, 19, 20, 21, 22, 23, 24, 25, 26, 27, 28, 29, 30, 31, 32, 33, 34, 35, 36, 37, 38, 39, 40, 41, 42, 43, 44, 45, 46, 47, 48, 49, 50, 51, 52, 53, 54, 55, 56, 57, 58, 59, 60, 61, 62, 63, 64, 65, 66, 67, 68, 69, 70, 71, 72, 73, 74, 75, 76, 77, 78, 79, 80, 81, 82, 83, 84, 85, 86, 87, 88, 89, 90, 91, 92, 93, 94] rfl rfl (ws' := (wF cA cQ adF adB adT adH kH adR adO u3.2.1 u2.2.2 u3.2.2.1 u3.2.2.2 u2.2.1 vO)) rfl (fun H locs hP hD hS => ?_)
  cases h
  exact endI hx hb hr hlocks hP hS rfl dX4_clear_16
theorem iw_X4_clearText_X4 : ∀ w ∈ wsX40, w ∈ wsX4_clearText := fun _ h => List.mem_cons_of_mem _ (List.mem_append_left _ (List.mem_append_right _ (h)))
set_option maxHeartbeats 4000000 in
set_option maxRecDepth 100000 in
theorem c_X4_clearText (l : Launch) (D : va_G) (cA cQ : ClassId) (adF : Nat) (adB : Nat → Nat) (adT : Nat → Nat) (adH : Nat → Nat) (kH : Nat → Nat → Nat) (adR : Nat → Nat) (adO : Nat → Nat) (vB : St) (vT : St) (vH : St) (bH : Nat → St) (vR : St) (vO : St) (o : Int32 × St) (hf : X4_clearText vB vT vH bH vR vO = some o) : Cti l yX4_clearText wsX4_clearText ({ frames := 1, cells := 0, slots := 0, locals := 21 }) D (TY cA cQ) [.ref adF] (wF cA cQ adF adB adT adH kH adR adO vB vT vH bH vR vO) (wF cA cQ adF adB adT adH kH adR adO vB vT vH bH vR o.2) o.1 := by
  refine Wk.i (cc := cX4_clearText) (maxL := 1) (ret := (some .int)) (by decide) rfl (Nat.le_of_ble_eq_true rfl) ?_
  intro p e s m below meth c A ls hx hb hr hlocks hml hown hts hK hN hP hD hA hl
  have hown : s.vm.findClass RX4 = some m.cls := hown
  have hS : va_S A s.heap s.heap [] := va_S.rf
  have hl : lv_has ls 1 [(0, .ref adF)] := hl
  have h := hf
  unfold X4_clearText at h
  refine lv_aload_n hx hb dX4_clearText_0 rfl (lv_at hl 0 rfl) ?_
  refine va_get (D := D) (ci := 4) (v := .ref (adO 0)) (C := RX4) (T := TX4) (N := 5) hx hb hts iw_X4_clearText_X4 hown hK hP 0 rfl rfl 4 (by decide) (hts (.fieldLink RX4 36 "FavourRings" "orders" "LFavourRings$Orders;") (List.mem_of_getElem? (i := 1) rfl)) (fun _ h9 => h9) rfl dX4_clearText_1 ?_
  obtain ⟨u1, eu1, h⟩ := bd_in h
  refine kI (va_runV (As := []) (rest := []) ⟨hx, hb, hml, hown, hts⟩ (c_X2_empty l D cA cQ adO vO u1 eu1 _) (cwV 0 hts gX4_clearText_X2_empty rfl rfl rfl (by decide +kernel) ⟨Nat.le_of_ble_eq_true rfl, Nat.le_of_ble_eq_true rfl⟩) (pV (ci := 2) (q := (RX2, TX2, 8)) hK hN hP hD [92, 93, 94] rfl rfl rfl rfl) rfl rfl hl.1 rfl (lv_room (Nat.le_of_ble_eq_true rfl)) dX4_clearText_4 ⟨Nat.zero_le _, Nat.zero_le _⟩) hP hD hS hA [92, 93, 94] rfl rfl (ws' := (wF cA cQ adF adB adT adH kH adR adO vB vT vH bH vR u1.2)) rfl (fun H locs hP hD hS => ?_)
  cases h
  exact endI hx hb hr hlocks hP hS rfl dX4_clearText_7
theorem iw_X4_count_X4 : ∀ w ∈ wsX40, w ∈ wsX4_count := fun _ h => List.mem_cons_of_mem _ (List.mem_append_left _ (List.mem_append_left _ (List.mem_append_left _ (List.mem_append_right _ (h)))))
set_option maxHeartbeats 4000000 in
set_option maxRecDepth 100000 in
theorem c_X4_count (l : Launch) (D : va_G) (cA cQ : ClassId) (adF : Nat) (adB : Nat → Nat) (adT : Nat → Nat) (adH : Nat → Nat) (kH : Nat → Nat → Nat) (adR : Nat → Nat) (adO : Nat → Nat) (vB : St) (vT : St) (vH : St) (bH : Nat → St) (vR : St) (vO : St) (p1 : Int32) (o : Int32) (hf : X4_count vB vT vH bH vR vO p1 = some o) : Cti l yX4_count wsX4_count ({ frames := 2, cells := 0, slots := 0, locals := 49 }) D (TY cA cQ) [.ref adF, .int p1] (wF cA cQ adF adB adT adH kH adR adO vB vT vH bH vR vO) (wF cA cQ adF adB adT adH kH adR adO vB vT vH bH vR vO) o := by
  refine Wk.i (cc := cX4_count) (maxL := 2) (ret := (some .int)) (by decide) rfl (Nat.le_of_ble_eq_true rfl) ?_
  intro p e s m below meth c A ls hx hb hr hlocks hml hown hts hK hN hP hD hA hl
  have hown : s.vm.findClass RX4 = some m.cls := hown
  have hS : va_S A s.heap s.heap [] := va_S.rf
  have hl : lv_has ls 2 [(0, .ref adF), (1, .int p1)] := hl
  have B16 : ∀  (H : Heap) (locs : List Loc) (ls : Array Slot), X4_count_b16 vB vT vH bH vR vO p1 = some o → va_P D vwCl (wF cA cQ adF adB adT adH kH adR adO vB vT vH bH vR vO) H → va_D A (wF cA cQ adF adB adT adH kH adR adO vB vT vH bH vR vO) → va_S A s.heap H locs → lv_has ls 2 [(0, .ref adF), (1, .int p1)] → W p l e (headSpec wsX4_count ({ frames := 2, cells := 0, slots := 0, locals := 49 })).room s m ([.ref adF, .int p1] : List Value).toArray below meth c H locs 0 0 (MQ below (QI D (wF cA cQ adF adB adT adH kH adR adO vB vT vH bH vR vO) o A) ([.ref adF, .int p1] : List Value).toArray s 0 0 A) (F0 m 16 ls []) := by
    intro H locs ls h hP hD hS hl
    unfold X4_count_b16 at h
    refine lv_iload_n hx hb dX4_count_16 rfl (lv_at hl 1 rfl) ?_
    refine lv_bipush (v := (26 : Int32)) hx hb dX4_count_17 (by decide) ?_
    refine lv_icmp_lt (tgt := 25) hx hb dX4_count_19 (by decide) (fun c1 => ?_) (fun c1 => ?_)
    · have h := (if_pos c1).symm.trans h
      refine lv_iload_n hx hb dX4_count_25 rfl (lv_at hl 1 rfl) ?_
      by_cases c2 : p1 = (3 : Int32)
      · have h := (if_pos c2).symm.trans h
        refine lv_lookup (off := 42) (tgt := 68) hx hb dX4_count_26 (by decide +kernel) (by rw [c2]; decide +kernel) (by decide) ?_
        refine lv_aload_n hx hb dX4_count_68 rfl (lv_at hl 0 rfl) ?_
        refine va_get (D := D) (ci := 4) (v := .ref (adB 0)) (C := RX4) (T := TX4) (N := 5) hx hb hts iw_X4_count_X4 hown hK hP 0 rfl rfl 0 (by decide) (hts (.fieldLink RX4 10 "FavourRings" "bank" "LFavourRings$Bank;") (List.mem_of_getElem? (i := 2) rfl)) (fun _ h9 => h9) rfl dX4_count_69 ?_
        refine lv_iconst (v := (-1 : Int32)) hx hb dX4_count_72 (by decide) ?_
        refine lv_iconst (v := (-1 : Int32)) hx hb dX4_count_73 (by decide) ?_
        refine lv_iconst (v := (-1 : Int32)) hx hb dX4_count_74 (by decide) ?_
        obtain ⟨u3, eu3, h⟩ := bd_in h
        refine kI (va_runV (As := [.int (-1 : Int32), .int (-1 : Int32), .int (-1 : Int32)]) (rest := []) ⟨hx, hb, hml, hown, hts⟩ (c_X0_sumOwed l D cA cQ adB vB (-1 : Int32) (-1 : Int32) (-1 : Int32) u3 eu3 _) (cwV 3 hts gX4_count_X0_sumOwed rfl rfl rfl (by decide +kernel) ⟨Nat.le_of_ble_eq_true rfl, Nat.le_of_ble_eq_true rfl⟩) (pV (ci := 0) (q := (RX0, TX0, 13)) hK hN hP hD [1, 2, 3, 4, 5, 6, 7, 8, 9, 10, 11, 12, 13, 14] rfl rfl rfl rfl) rfl rfl hl.1 rfl (lv_room (Nat.le_of_ble_eq_true rfl)) dX4_count_75 ⟨Nat.zero_le _, Nat.zero_le _⟩) hP hD hS hA [1, 2, 3, 4, 5, 6, 7, 8, 9, 10, 11, 12, 13, 14] rfl rfl (ws' := (wF cA cQ adF adB adT adH kH adR adO vB vT vH bH vR vO)) rfl (fun H locs hP hD hS => ?_)
        cases h
        exact endI hx hb hr hlocks hP hS rfl dX4_count_78
      have h := (if_neg c2).symm.trans h
      by_cases c4 : p1 = (11 : Int32)
      · have h := (if_pos c4).symm.trans h
        refine lv_lookup (off := 53) (tgt := 79) hx hb dX4_count_26 (by decide +kernel) (by rw [c4]; decide +kernel) (by decide) ?_
        refine lv_aload_n hx hb dX4_count_79 rfl (lv_at hl 0 rfl) ?_
        refine va_get (D := D) (ci := 4) (v := .ref (adB 0)) (C := RX4) (T := TX4) (N := 5) hx hb hts iw_X4_count_X4 hown hK hP 0 rfl rfl 0 (by decide) (hts (.fieldLink RX4 10 "FavourRings" "bank" "LFavourRings$Bank;") (List.mem_of_getElem? (i := 2) rfl)) (fun _ h9 => h9) rfl dX4_count_80 ?_
        obtain ⟨u5, eu5, h⟩ := bd_in h
        refine kI (va_runV (As := []) (rest := []) ⟨hx, hb, hml, hown, hts⟩ (c_X0_setWithoutGuarantor l D cA cQ adB vB u5 eu5 _) (cwV 0 hts gX4_count_X0_setWithoutGuarantor rfl rfl rfl (by decide +kernel) ⟨Nat.le_of_ble_eq_true rfl, Nat.le_of_ble_eq_true rfl⟩) (pV (ci := 0) (q := (RX0, TX0, 13)) hK hN hP hD [1, 2, 3, 4, 5, 6, 7, 8, 9, 10, 11, 12, 13, 14] rfl rfl rfl rfl) rfl rfl hl.1 rfl (lv_room (Nat.le_of_ble_eq_true rfl)) dX4_count_83 ⟨Nat.zero_le _, Nat.zero_le _⟩) hP hD hS hA [1, 2, 3, 4, 5, 6, 7, 8, 9, 10, 11, 12, 13, 14] rfl rfl (ws' := (wF cA cQ adF adB adT adH kH adR adO vB vT vH bH vR vO)) rfl (fun H locs hP hD hS => ?_)
        cases h
        exact endI hx hb hr hlocks hP hS rfl dX4_count_86
      have h := (if_neg c4).symm.trans h
      by_cases c6 : p1 = (12 : Int32)
      · have h := (if_pos c6).symm.trans h
        refine lv_lookup (off := 61) (tgt := 87) hx hb dX4_count_26 (by decide +kernel) (by rw [c6]; decide +kernel) (by decide) ?_
        refine lv_aload_n hx hb dX4_count_87 rfl (lv_at hl 0 rfl) ?_
        refine va_get (D := D) (ci := 4) (v := .ref (adH 0)) (C := RX4) (T := TX4) (N := 5) hx hb hts iw_X4_count_X4 hown hK hP 0 rfl rfl 2 (by decide) (hts (.fieldLink RX4 22 "FavourRings" "history" "LFavourRings$History;") (List.mem_of_getElem? (i := 3) rfl)) (fun _ h9 => h9) rfl dX4_count_88 ?_
        obtain ⟨u7, eu7, h⟩ := bd_in h
        refine kI (va_runV (As := []) (rest := []) ⟨hx, hb, hml, hown, hts⟩ (c_X1_size l D cA cQ adH kH vH bH u7 eu7 _) (cwV 0 hts gX4_count_X1_size rfl rfl rfl (by decide +kernel) ⟨Nat.le_of_ble_eq_true rfl, Nat.le_of_ble_eq_true rfl⟩) (pV (ci := 1) (q := (RX1, TX1, 2)) hK hN hP hD [29, 30, 31, 32, 33, 34, 35, 36, 37, 38, 39, 40, 41, 42, 43, 44, 45, 46, 47, 48, 49, 50, 51, 52, 53, 54, 55, 56, 57, 58, 59, 60, 61, 62, 63, 64, 65, 66, 67, 68, 69, 70, 71, 72, 73, 74, 75, 76, 77, 78, 79, 80, 81, 82, 83, 84, 85, 86] rfl rfl rfl rfl) rfl rfl hl.1 rfl (lv_room (Nat.le_of_ble_eq_true rfl)) dX4_count_91 ⟨Nat.zero_le _, Nat.zero_le _⟩) hP hD hS hA [29, 30, 31, 32, 33, 34, 35, 36, 37, 38, 39, 40, 41, 42, 43, 44, 45, 46, 47, 48, 49, 50, 51, 52, 53, 54, 55, 56, 57, 58, 59, 60, 61, 62, 63, 64, 65, 66, 67, 68, 69, 70, 71, 72, 73, 74, 75, 76, 77, 78, 79, 80, 81, 82, 83, 84, 85, 86] rfl rfl (ws' := (wF cA cQ adF adB adT adH kH adR adO vB vT vH bH vR vO)) rfl (fun H locs hP hD hS => ?_)
        cases h
        exact endI hx hb hr hlocks hP hS rfl dX4_count_94
      have h := (if_neg c6).symm.trans h
      by_cases c8 : p1 = (13 : Int32)
      · have h := (if_pos c8).symm.trans h
        refine lv_lookup (off := 69) (tgt := 95) hx hb dX4_count_26 (by decide +kernel) (by rw [c8]; decide +kernel) (by decide) ?_
        refine lv_aload_n hx hb dX4_count_95 rfl (lv_at hl 0 rfl) ?_
        refine va_get (D := D) (ci := 4) (v := .ref (adO 0)) (C := RX4) (T := TX4) (N := 5) hx hb hts iw_X4_count_X4 hown hK hP 0 rfl rfl 4 (by decide) (hts (.fieldLink RX4 36 "FavourRings" "orders" "LFavourRings$Orders;") (List.mem_of_getElem? (i := 4) rfl)) (fun _ h9 => h9) rfl dX4_count_96 ?_
        obtain ⟨u9, eu9, h⟩ := bd_in h
        refine kI (va_runV (As := []) (rest := []) ⟨hx, hb, hml, hown, hts⟩ (c_X2_length l D cA cQ adO vO u9 eu9 _) (cwV 0 hts gX4_count_X2_length rfl rfl rfl (by decide +kernel) ⟨Nat.le_of_ble_eq_true rfl, Nat.le_of_ble_eq_true rfl⟩) (pV (ci := 2) (q := (RX2, TX2, 8)) hK hN hP hD [92, 93, 94] rfl rfl rfl rfl) rfl rfl hl.1 rfl (lv_room (Nat.le_of_ble_eq_true rfl)) dX4_count_99 ⟨Nat.zero_le _, Nat.zero_le _⟩) hP hD hS hA [92, 93, 94] rfl rfl (ws' := (wF cA cQ adF adB adT adH kH adR adO vB vT vH bH vR vO)) rfl (fun H locs hP hD hS => ?_)
        cases h
        exact endI hx hb hr hlocks hP hS rfl dX4_count_102
      have h := (if_neg c8).symm.trans h
      have nc2 : (p1).toInt ≠ 3 := ne_toInt c2
      have nc4 : (p1).toInt ≠ 11 := ne_toInt c4
      have nc6 : (p1).toInt ≠ 12 := ne_toInt c6
      have nc8 : (p1).toInt ≠ 13 := ne_toInt c8
      refine lv_lookup (off := 77) (tgt := 103) hx hb dX4_count_26 (by decide +kernel) (by simp [Op.lookupswitch.offset, nc2.symm, nc4.symm, nc6.symm, nc8.symm]) (by decide) ?_
      refine lv_aload_n hx hb dX4_count_103 rfl (lv_at hl 0 rfl) ?_
      refine va_get (D := D) (ci := 4) (v := .ref (adB 0)) (C := RX4) (T := TX4) (N := 5) hx hb hts iw_X4_count_X4 hown hK hP 0 rfl rfl 0 (by decide) (hts (.fieldLink RX4 10 "FavourRings" "bank" "LFavourRings$Bank;") (List.mem_of_getElem? (i := 2) rfl)) (fun _ h9 => h9) rfl dX4_count_104 ?_
      refine lv_iload_n hx hb dX4_count_107 rfl (lv_at hl 1 rfl) ?_
      obtain ⟨u10, eu10, h⟩ := bd_in h
      refine kI (va_runV (As := [.int p1]) (rest := []) ⟨hx, hb, hml, hown, hts⟩ (c_X0_number l D cA cQ adB vB p1 u10 eu10 _) (cwV 1 hts gX4_count_X0_number rfl rfl rfl (by decide +kernel) ⟨Nat.le_of_ble_eq_true rfl, Nat.le_of_ble_eq_true rfl⟩) (pV (ci := 0) (q := (RX0, TX0, 13)) hK hN hP hD [1, 2, 3, 4, 5, 6, 7, 8, 9, 10, 11, 12, 13, 14] rfl rfl rfl rfl) rfl rfl hl.1 rfl (lv_room (Nat.le_of_ble_eq_true rfl)) dX4_count_108 ⟨Nat.zero_le _, Nat.zero_le _⟩) hP hD hS hA [1, 2, 3, 4, 5, 6, 7, 8, 9, 10, 11, 12, 13, 14] rfl rfl (ws' := (wF cA cQ adF adB adT adH kH adR adO vB vT vH bH vR vO)) rfl (fun H locs hP hD hS => ?_)
      cases h
      exact endI hx hb hr hlocks hP hS rfl dX4_count_111
    · have h := (if_neg c1).symm.trans h
      refine lv_ldc (v := (-1000001 : Int32)) hx hb hown (hts (.constant RX4 81 (-1000001)) (List.mem_of_getElem? (i := 1) rfl)) dX4_count_22 ?_
      cases h
      exact endI hx hb hr hlocks hP hS rfl dX4_count_24
  have h := hf
  unfold X4_count at h
  refine lv_iload_n hx hb dX4_count_0 rfl (lv_at hl 1 rfl) ?_
  refine lv_if_lt (tgt := 22) hx hb dX4_count_1 (by decide) (fun c11 => ?_) (fun c11 => ?_)
  · have h := (if_pos c11).symm.trans h
    refine lv_ldc (v := (-1000001 : Int32)) hx hb hown (hts (.constant RX4 81 (-1000001)) (List.mem_of_getElem? (i := 1) rfl)) dX4_count_22 ?_
    cases h
    exact endI hx hb hr hlocks hP hS rfl dX4_count_24
  · have h := (if_neg c11).symm.trans h
    refine lv_iload_n hx hb dX4_count_4 rfl (lv_at hl 1 rfl) ?_
    refine lv_bipush (v := (13 : Int32)) hx hb dX4_count_5 (by decide) ?_
    refine lv_icmp_le (tgt := 16) hx hb dX4_count_7 (by decide) (fun c12 => ?_) (fun c12 => ?_)
    · have h := (if_pos c12).symm.trans h
      exact B16 _ _ _ h hP hD hS (lv_sub hl [0, 1] rfl)
    · have h := (if_neg c12).symm.trans h
      refine lv_iload_n hx hb dX4_count_10 rfl (lv_at hl 1 rfl) ?_
      refine lv_bipush (v := (20 : Int32)) hx hb dX4_count_11 (by decide) ?_
      refine lv_icmp_lt (tgt := 22) hx hb dX4_count_13 (by decide) (fun c13 => ?_) (fun c13 => ?_)
      · have h := (if_pos c13).symm.trans h
        refine lv_ldc (v := (-1000001 : Int32)) hx hb hown (hts (.constant RX4 81 (-1000001)) (List.mem_of_getElem? (i := 1) rfl)) dX4_count_22 ?_
        cases h
        exact endI hx hb hr hlocks hP hS rfl dX4_count_24
      · have h := (if_neg c13).symm.trans h
        exact B16 _ _ _ h hP hD hS (lv_sub hl [0, 1] rfl)
theorem iw_X4_deepest_X4 : ∀ w ∈ wsX40, w ∈ wsX4_deepest := fun _ h => List.mem_cons_of_mem _ (List.mem_append_left _ (List.mem_append_right _ (h)))
set_option maxHeartbeats 4000000 in
set_option maxRecDepth 100000 in
theorem c_X4_deepest (l : Launch) (D : va_G) (cA cQ : ClassId) (adF : Nat) (adB : Nat → Nat) (adT : Nat → Nat) (adH : Nat → Nat) (kH : Nat → Nat → Nat) (adR : Nat → Nat) (adO : Nat → Nat) (vB : St) (vT : St) (vH : St) (bH : Nat → St) (vR : St) (vO : St) (p1 : Int32) (o : Int32) (hf : X4_deepest vB vT vH bH vR vO p1 = some o) : Cti l yX4_deepest wsX4_deepest ({ frames := 2, cells := 0, slots := 0, locals := 49 }) D (TY cA cQ) [.ref adF, .int p1] (wF cA cQ adF adB adT adH kH adR adO vB vT vH bH vR vO) (wF cA cQ adF adB adT adH kH adR adO vB vT vH bH vR vO) o := by
  refine Wk.i (cc := cX4_deepest) (maxL := 6) (ret := (some .int)) (by decide) rfl (Nat.le_of_ble_eq_true rfl) ?_
  intro p e s m below meth c A ls hx hb hr hlocks hml hown hts hK hN hP hD hA hl
  have hown : s.vm.findClass RX4 = some m.cls := hown
  have hS : va_S A s.heap s.heap [] := va_S.rf
  have hl : lv_has ls 6 [(0, .ref adF), (1, .int p1)] := hl
  have B18 : ∀ (fu18 : Nat) (x2 : Int32) (x3 : Int32) (x4 : Int32) (H : Heap) (locs : List Loc) (ls : Array Slot), X4_deepest_l18 vB vT vH bH vR vO p1 fu18 x2 x3 x4 = some o → va_P D vwCl (wF cA cQ adF adB adT adH kH adR adO vB vT vH bH vR vO) H → va_D A (wF cA cQ adF adB adT adH kH adR adO vB vT vH bH vR vO) → va_S A s.heap H locs → lv_has ls 6 [(0, .ref adF), (1, .int p1), (2, .int x2), (3, .int x3), (4, .int x4)] → W p l e (headSpec wsX4_deepest ({ frames := 2, cells := 0, slots := 0, locals := 49 })).room s m ([.ref adF, .int p1] : List Value).toArray below meth c H locs 0 0 (MQ below (QI D (wF cA cQ adF adB adT adH kH adR adO vB vT vH bH vR vO) o A) ([.ref adF, .int p1] : List Value).toArray s 0 0 A) (F0 m 18 ls []) := by
    intro fu18
    induction fu18 with
    | zero =>
      intro x2 x3 x4 H locs ls h hP hD hS hl
      cases h
    | succ fu18 ih18 =>
      intro x2 x3 x4 H locs ls h hP hD hS hl
      rw [X4_deepest_l18] at h
      refine lv_iload hx hb dX4_deepest_18 (lv_at hl 4 rfl) ?_
      refine lv_aload_n hx hb dX4_deepest_20 rfl (lv_at hl 0 rfl) ?_
      refine va_get (D := D) (ci := 4) (v := .ref (adB 0)) (C := RX4) (T := TX4) (N := 5) hx hb hts iw_X4_deepest_X4 hown hK hP 0 rfl rfl 0 (by decide) (hts (.fieldLink RX4 10 "FavourRings" "bank" "LFavourRings$Bank;") (List.mem_of_getElem? (i := 3) rfl)) (fun _ h9 => h9) rfl dX4_deepest_21 ?_
      refine lv_iconst (v := (1 : Int32)) hx hb dX4_deepest_24 (by decide) ?_
      obtain ⟨u1, eu1, h⟩ := bd_in h
      refine kI (va_runV (As := [.int (1 : Int32)]) (rest := [.int x4]) ⟨hx, hb, hml, hown, hts⟩ (c_X0_number l D cA cQ adB vB (1 : Int32) u1 eu1 _) (cwV 1 hts gX4_deepest_X0_number rfl rfl rfl (by decide +kernel) ⟨Nat.le_of_ble_eq_true rfl, Nat.le_of_ble_eq_true rfl⟩) (pV (ci := 0) (q := (RX0, TX0, 13)) hK hN hP hD [1, 2, 3, 4, 5, 6, 7, 8, 9, 10, 11, 12, 13, 14] rfl rfl rfl rfl) rfl rfl hl.1 rfl (lv_room (Nat.le_of_ble_eq_true rfl)) dX4_deepest_25 ⟨Nat.zero_le _, Nat.zero_le _⟩) hP hD hS hA [1, 2, 3, 4, 5, 6, 7, 8, 9, 10, 11, 12, 13, 14] rfl rfl (ws' := (wF cA cQ adF adB adT adH kH adR adO vB vT vH bH vR vO)) rfl (fun H locs hP hD hS => ?_)
      refine lv_icmp_ge (tgt := 62) hx hb dX4_deepest_28 (by decide) (fun c2 => ?_) (fun c2 => ?_)
      · have h := (if_pos c2).symm.trans h
        refine lv_iload_n hx hb dX4_deepest_62 rfl (lv_at hl 2 rfl) ?_
        cases h
        exact endI hx hb hr hlocks hP hS rfl dX4_deepest_63
      · have h := (if_neg c2).symm.trans h
        refine lv_aload_n hx hb dX4_deepest_31 rfl (lv_at hl 0 rfl) ?_
        refine va_get (D := D) (ci := 4) (v := .ref (adB 0)) (C := RX4) (T := TX4) (N := 5) hx hb hts iw_X4_deepest_X4 hown hK hP 0 rfl rfl 0 (by decide) (hts (.fieldLink RX4 10 "FavourRings" "bank" "LFavourRings$Bank;") (List.mem_of_getElem? (i := 3) rfl)) (fun _ h9 => h9) rfl dX4_deepest_32 ?_
        refine lv_iload hx hb dX4_deepest_35 (lv_at hl 4 rfl) ?_
        refine lv_iconst (v := (-1 : Int32)) hx hb dX4_deepest_37 (by decide) ?_
        refine lv_iload_n hx hb dX4_deepest_38 rfl (lv_at hl 1 rfl) ?_
        obtain ⟨u3, eu3, h⟩ := bd_in h
        refine kI (va_runV (As := [.int x4, .int (-1 : Int32), .int p1]) (rest := []) ⟨hx, hb, hml, hown, hts⟩ (c_X0_sumOwed l D cA cQ adB vB x4 (-1 : Int32) p1 u3 eu3 _) (cwV 3 hts gX4_deepest_X0_sumOwed rfl rfl rfl (by decide +kernel) ⟨Nat.le_of_ble_eq_true rfl, Nat.le_of_ble_eq_true rfl⟩) (pV (ci := 0) (q := (RX0, TX0, 13)) hK hN hP hD [1, 2, 3, 4, 5, 6, 7, 8, 9, 10, 11, 12, 13, 14] rfl rfl rfl rfl) rfl rfl hl.1 rfl (lv_room (Nat.le_of_ble_eq_true rfl)) dX4_deepest_39 ⟨Nat.zero_le _, Nat.zero_le _⟩) hP hD hS hA [1, 2, 3, 4, 5, 6, 7, 8, 9, 10, 11, 12, 13, 14] rfl rfl (ws' := (wF cA cQ adF adB adT adH kH adR adO vB vT vH bH vR vO)) rfl (fun H locs hP hD hS => ?_)
        refine lv_istore (lv' := [(5, .int u3), (0, .ref adF), (1, .int p1), (2, .int x2), (3, .int x3), (4, .int x4)]) hx hb dX4_deepest_42 hl (by decide) rfl (fun ls hl => ?_)
        refine lv_iload hx hb dX4_deepest_44 (lv_at hl 0 rfl) ?_
        refine lv_iload_n hx hb dX4_deepest_46 rfl (lv_at hl 4 rfl) ?_
        refine lv_icmp_le (tgt := 56) hx hb dX4_deepest_47 (by decide) (fun c4 => ?_) (fun c4 => ?_)
        · have h := (if_pos c4).symm.trans h
          refine lv_iinc (v := (x4 + (1 : Int32))) (lv' := [(4, .int (x4 + (1 : Int32))), (5, .int u3), (0, .ref adF), (1, .int p1), (2, .int x2), (3, .int x3)]) hx hb dX4_deepest_56 hl (k := 5) rfl rfl (by decide) rfl (fun ls hl => ?_)
          refine lv_goto (tgt := 18) hx hb dX4_deepest_59 (by decide) ?_
          exact ih18 x2 x3 (x4 + (1 : Int32)) _ _ _ h hP hD hS (lv_sub hl [2, 3, 4, 5, 0] rfl)
        · have h := (if_neg c4).symm.trans h
          refine lv_iload hx hb dX4_deepest_50 (lv_at hl 0 rfl) ?_
          refine lv_istore_n (lv' := [(3, .int u3), (5, .int u3), (0, .ref adF), (1, .int p1), (2, .int x2), (4, .int x4)]) hx hb dX4_deepest_52 rfl hl (by decide) rfl (fun ls hl => ?_)
          refine lv_iload hx hb dX4_deepest_53 (lv_at hl 5 rfl) ?_
          refine lv_istore_n (lv' := [(2, .int x4), (3, .int u3), (5, .int u3), (0, .ref adF), (1, .int p1), (4, .int x4)]) hx hb dX4_deepest_55 rfl hl (by decide) rfl (fun ls hl => ?_)
          refine lv_iinc (v := (x4 + (1 : Int32))) (lv' := [(4, .int (x4 + (1 : Int32))), (2, .int x4), (3, .int u3), (5, .int u3), (0, .ref adF), (1, .int p1)]) hx hb dX4_deepest_56 hl (k := 5) rfl rfl (by decide) rfl (fun ls hl => ?_)
          refine lv_goto (tgt := 18) hx hb dX4_deepest_59 (by decide) ?_
          exact ih18 x4 u3 (x4 + (1 : Int32)) _ _ _ h hP hD hS (lv_sub hl [4, 5, 1, 2, 0] rfl)
  have h := hf
  unfold X4_deepest at h
  refine lv_iload_n hx hb dX4_deepest_0 rfl (lv_at hl 1 rfl) ?_
  obtain ⟨u5, eu5, h⟩ := bd_in h
  refine kI (va_runS (As := [.int p1]) (rest := []) ⟨hx, hb, hml, hown, hts⟩ (c_X4_isKind l D cA cQ  p1 u5 eu5 _) (va_cwS 1 hts gX4_deepest_X4_isKind rfl rfl rfl (by decide +kernel) ⟨Nat.le_of_ble_eq_true rfl, Nat.le_of_ble_eq_true rfl⟩) (pS hK hN hP hD [] rfl rfl) rfl rfl hl.1 rfl (lv_room (Nat.le_of_ble_eq_true rfl)) dX4_deepest_1 ⟨Nat.zero_le _, Nat.zero_le _⟩) hP hD hS hA [] rfl rfl (ws' := (wF cA cQ adF adB adT adH kH adR adO vB vT vH bH vR vO)) rfl (fun H locs hP hD hS => ?_)
  refine lv_if_ne (tgt := 10) hx hb dX4_deepest_4 (by decide) (fun c6 => ?_) (fun c6 => ?_)
  · have h := (if_neg c6).symm.trans h
    refine lv_ldc (v := (-1000004 : Int32)) hx hb hown (hts (.constant RX4 98 (-1000004)) (List.mem_of_getElem? (i := 2) rfl)) dX4_deepest_10 ?_
    refine lv_istore_n (lv' := [(2, .int (-1000004 : Int32)), (0, .ref adF), (1, .int p1)]) hx hb dX4_deepest_12 rfl hl (by decide) rfl (fun ls hl => ?_)
    refine lv_iconst (v := (0 : Int32)) hx hb dX4_deepest_13 (by decide) ?_
    refine lv_istore_n (lv' := [(3, .int (0 : Int32)), (2, .int (-1000004 : Int32)), (0, .ref adF), (1, .int p1)]) hx hb dX4_deepest_14 rfl hl (by decide) rfl (fun ls hl => ?_)
    refine lv_iconst (v := (0 : Int32)) hx hb dX4_deepest_15 (by decide) ?_
    refine lv_istore (lv' := [(4, .int (0 : Int32)), (3, .int (0 : Int32)), (2, .int (-1000004 : Int32)), (0, .ref adF), (1, .int p1)]) hx hb dX4_deepest_16 hl (by decide) rfl (fun ls hl => ?_)
    exact B18 FU (-1000004 : Int32) (0 : Int32) (0 : Int32) _ _ _ h hP hD hS (lv_sub hl [3, 4, 2, 1, 0] rfl)
  · have h := (if_pos c6).symm.trans h
    refine lv_ldc (v := (-1000001 : Int32)) hx hb hown (hts (.constant RX4 81 (-1000001)) (List.mem_of_getElem? (i := 1) rfl)) dX4_deepest_7 ?_
    cases h
    exact endI hx hb hr hlocks hP hS rfl dX4_deepest_9
theorem iw_X4_fault_X4 : ∀ w ∈ wsX40, w ∈ wsX4_fault := fun _ h => List.mem_cons_of_mem _ (List.mem_append_left _ (List.mem_append_left _ (List.mem_append_left _ (List.mem_append_right _ (h)))))
set_option maxHeartbeats 4000000 in
set_option maxRecDepth 100000 in
theorem c_X4_fault (l : Launch) (D : va_G) (cA cQ : ClassId) (adF : Nat) (adB : Nat → Nat) (adT : Nat → Nat) (adH : Nat → Nat) (kH : Nat → Nat → Nat) (adR : Nat → Nat) (adO : Nat → Nat) (vB : St) (vT : St) (vH : St) (bH : Nat → St) (vR : St) (vO : St) (p1 : Int32) (o : Int32 × St × St × St) (hf : X4_fault vB vT vH bH vR vO p1 = some o) : Cti l yX4_fault wsX4_fault ({ frames := 6, cells := 0, slots := 0, locals := 153 }) D (TY cA cQ) [.ref adF, .int p1] (wF cA cQ adF adB adT adH kH adR adO vB vT vH bH vR vO) (wF cA cQ adF adB adT adH kH adR adO vB o.2.1 vH bH o.2.2.1 o.2.2.2) o.1 := by
  refine Wk.i (cc := cX4_fault) (maxL := 2) (ret := (some .int)) (by decide) rfl (Nat.le_of_ble_eq_true rfl) ?_
  intro p e s m below meth c A ls hx hb hr hlocks hml hown hts hK hN hP hD hA hl
  have hown : s.vm.findClass RX4 = some m.cls := hown
  have hS : va_S A s.heap s.heap [] := va_S.rf
  have hl : lv_has ls 2 [(0, .ref adF), (1, .int p1)] := hl
  have h := hf
  unfold X4_fault at h
  refine lv_iload_n hx hb dX4_fault_0 rfl (lv_at hl 1 rfl) ?_
  refine lv_if_lt (tgt := 9) hx hb dX4_fault_1 (by decide) (fun c1 => ?_) (fun c1 => ?_)
  · have h := (if_pos c1).symm.trans h
    refine lv_ldc (v := (-1000001 : Int32)) hx hb hown (hts (.constant RX4 81 (-1000001)) (List.mem_of_getElem? (i := 1) rfl)) dX4_fault_9 ?_
    cases h
    exact endI hx hb hr hlocks hP hS rfl dX4_fault_11
  · have h := (if_neg c1).symm.trans h
    refine lv_iload_n hx hb dX4_fault_4 rfl (lv_at hl 1 rfl) ?_
    refine lv_iconst (v := (2 : Int32)) hx hb dX4_fault_5 (by decide) ?_
    refine lv_icmp_le (tgt := 12) hx hb dX4_fault_6 (by decide) (fun c2 => ?_) (fun c2 => ?_)
    · have h := (if_pos c2).symm.trans h
      refine lv_aload_n hx hb dX4_fault_12 rfl (lv_at hl 0 rfl) ?_
      refine va_get (D := D) (ci := 4) (v := .ref (adO 0)) (C := RX4) (T := TX4) (N := 5) hx hb hts iw_X4_fault_X4 hown hK hP 0 rfl rfl 4 (by decide) (hts (.fieldLink RX4 36 "FavourRings" "orders" "LFavourRings$Orders;") (List.mem_of_getElem? (i := 2) rfl)) (fun _ h9 => h9) rfl dX4_fault_13 ?_
      refine lv_aload_n hx hb dX4_fault_16 rfl (lv_at hl 0 rfl) ?_
      obtain ⟨u3, eu3, h⟩ := bd_in h
      refine kR (va_runV (As := []) (rest := [.ref (adO 0)]) ⟨hx, hb, hml, hown, hts⟩ (c_X4_freshTrial l D cA cQ adF adB adT adH kH adR adO vB vT vH bH vR vO u3 eu3 _) (cwV 0 hts gX4_fault_X4_freshTrial rfl rfl rfl (by decide +kernel) ⟨Nat.le_of_ble_eq_true rfl, Nat.le_of_ble_eq_true rfl⟩) (pV (ci := 4) (q := (RX4, TX4, 5)) hK hN hP hD [0, 1, 2, 3, 4, 5, 6, 7, 8, 9, 10, 11, 12, 13, 14, 15, 16, 17, 18, 19, 20, 21, 22, 23, 24, 25, 26, 27, 28, 29, 30, 31, 32, 33, 34, 35, 36, 37, 38, 39, 40, 41, 42, 43, 44, 45, 46, 47, 48, 49, 50, 51, 52, 53, 54, 55, 56, 57, 58, 59, 60, 61, 62, 63, 64, 65, 66, 67, 68, 69, 70, 71, 72, 73, 74, 75, 76, 77, 78, 79, 80, 81, 82, 83, 84, 85, 86, 87, 88, 89, 90, 91, 92, 93, 94] rfl rfl rfl rfl) rfl rfl hl.1 rfl (lv_room (Nat.le_of_ble_eq_true rfl)) dX4_fault_17 ⟨Nat.zero_le _, Nat.zero_le _⟩) hP hD hS hA [0, 1, 2, 3, 4, 5, 6, 7, 8, 9, 10, 11, 12, 13, 14, 15, 16, 17, 18, 19, 20, 21, 22, 23, 24, 25, 26, 27, 28, 29, 30, 31, 32, 33, 34, 35, 36, 37, 38, 39, 40, 41, 42, 43, 44, 45, 46, 47, 48, 49, 50, 51, 52, 53, 54, 55, 56, 57, 58, 59, 60, 61, 62, 63, 64, 65, 66, 67, 68, 69, 70, 71, 72, 73, 74, 75, 76, 77, 78, 79, 80, 81, 82, 83, 84, 85, 86, 87, 88, 89, 90, 91, 92, 93, 94] rfl rfl (ws' := (wF cA cQ adF adB adT adH kH adR adO vB u3 vH bH vR vO)) rfl (fun H locs hP hD hS => ?_)
      refine lv_aload_n hx hb dX4_fault_20 rfl (lv_at hl 0 rfl) ?_
      refine va_get (D := D) (ci := 4) (v := .ref (adR 0)) (C := RX4) (T := TX4) (N := 5) hx hb hts iw_X4_fault_X4 hown hK hP 0 rfl rfl 3 (by decide) (hts (.fieldLink RX4 29 "FavourRings" "rings" "LFavourRings$Rings;") (List.mem_of_getElem? (i := 3) rfl)) (fun _ h9 => h9) rfl dX4_fault_21 ?_
      obtain ⟨u4, eu4, h⟩ := bd_in h
      refine kI (va_runV (As := [.ref (adT 0), .ref (adR 0)]) (rest := []) ⟨hx, hb, hml, hown, hts⟩ (c_X2_doAll l D cA cQ adO adT adR vO u3 vR u4 eu4 _) (cwV 2 hts gX4_fault_X2_doAll rfl rfl rfl (by decide +kernel) ⟨Nat.le_of_ble_eq_true rfl, Nat.le_of_ble_eq_true rfl⟩) (pV (ci := 2) (q := (RX2, TX2, 8)) hK hN hP hD [92, 93, 94, 15, 16, 17, 18, 19, 20, 21, 22, 23, 24, 25, 26, 27, 28, 87, 88, 89, 90, 91] rfl rfl rfl rfl) rfl rfl hl.1 rfl (lv_room (Nat.le_of_ble_eq_true rfl)) dX4_fault_24 ⟨Nat.zero_le _, Nat.zero_le _⟩) hP hD hS hA [92, 93, 94, 15, 16, 17, 18, 19, 20, 21, 22, 23, 24, 25, 26, 27, 28, 87, 88, 89, 90, 91] rfl rfl (ws' := (wF cA cQ adF adB adT adH kH adR adO vB u4.2.2.1 vH bH u4.2.2.2 u4.2.1)) rfl (fun H locs hP hD hS => ?_)
      refine lv_if_eq (tgt := 33) hx hb dX4_fault_27 (by decide) (fun c5 => ?_) (fun c5 => ?_)
      · have h := (if_pos c5).symm.trans h
        refine lv_iload_n hx hb dX4_fault_33 rfl (lv_at hl 1 rfl) ?_
        refine lv_if_ne (tgt := 45) hx hb dX4_fault_34 (by decide) (fun c6 => ?_) (fun c6 => ?_)
        · have h := (if_neg c6).symm.trans h
          refine lv_iload_n hx hb dX4_fault_45 rfl (lv_at hl 1 rfl) ?_
          refine lv_iconst (v := (1 : Int32)) hx hb dX4_fault_46 (by decide) ?_
          refine lv_icmp_ne (tgt := 60) hx hb dX4_fault_47 (by decide) (fun c7 => ?_) (fun c7 => ?_)
          · have h := (if_neg c7).symm.trans h
            refine lv_aload_n hx hb dX4_fault_60 rfl (lv_at hl 0 rfl) ?_
            refine va_get (D := D) (ci := 4) (v := .ref (adO 0)) (C := RX4) (T := TX4) (N := 5) hx hb hts iw_X4_fault_X4 hown hK hP 0 rfl rfl 4 (by decide) (hts (.fieldLink RX4 36 "FavourRings" "orders" "LFavourRings$Orders;") (List.mem_of_getElem? (i := 2) rfl)) (fun _ h9 => h9) rfl dX4_fault_61 ?_
            obtain ⟨u8, eu8, h⟩ := bd_in h
            refine kI (va_runV (As := []) (rest := []) ⟨hx, hb, hml, hown, hts⟩ (c_X2_faultCause l D cA cQ adO u4.2.1 u8 eu8 _) (cwV 0 hts gX4_fault_X2_faultCause rfl rfl rfl (by decide +kernel) ⟨Nat.le_of_ble_eq_true rfl, Nat.le_of_ble_eq_true rfl⟩) (pV (ci := 2) (q := (RX2, TX2, 8)) hK hN hP hD [92, 93, 94] rfl rfl rfl rfl) rfl rfl hl.1 rfl (lv_room (Nat.le_of_ble_eq_true rfl)) dX4_fault_64 ⟨Nat.zero_le _, Nat.zero_le _⟩) hP hD hS hA [92, 93, 94] rfl rfl (ws' := (wF cA cQ adF adB adT adH kH adR adO vB u4.2.2.1 vH bH u4.2.2.2 u4.2.1)) rfl (fun H locs hP hD hS => ?_)
            cases h
            exact endI hx hb hr hlocks hP hS rfl dX4_fault_67
          · have h := (if_pos c7).symm.trans h
            refine lv_aload_n hx hb dX4_fault_50 rfl (lv_at hl 0 rfl) ?_
            refine va_get (D := D) (ci := 4) (v := .ref (adO 0)) (C := RX4) (T := TX4) (N := 5) hx hb hts iw_X4_fault_X4 hown hK hP 0 rfl rfl 4 (by decide) (hts (.fieldLink RX4 36 "FavourRings" "orders" "LFavourRings$Orders;") (List.mem_of_getElem? (i := 2) rfl)) (fun _ h9 => h9) rfl dX4_fault_51 ?_
            obtain ⟨u9, eu9, h⟩ := bd_in h
            refine kI (va_runV (As := []) (rest := []) ⟨hx, hb, hml, hown, hts⟩ (c_X2_faultReason l D cA cQ adO u4.2.1 u9 eu9 _) (cwV 0 hts gX4_fault_X2_faultReason rfl rfl rfl (by decide +kernel) ⟨Nat.le_of_ble_eq_true rfl, Nat.le_of_ble_eq_true rfl⟩) (pV (ci := 2) (q := (RX2, TX2, 8)) hK hN hP hD [92, 93, 94] rfl rfl rfl rfl) rfl rfl hl.1 rfl (lv_room (Nat.le_of_ble_eq_true rfl)) dX4_fault_54 ⟨Nat.zero_le _, Nat.zero_le _⟩) hP hD hS hA [92, 93, 94] rfl rfl (ws' := (wF cA cQ adF adB adT adH kH adR adO vB u4.2.2.1 vH bH u4.2.2.2 u4.2.1)) rfl (fun H locs hP hD hS => ?_)
            refine lv_goto (tgt := 67) hx hb dX4_fault_57 (by decide) ?_
            cases h
            exact endI hx hb hr hlocks hP hS rfl dX4_fault_67
        · have h := (if_pos c6).symm.trans h
          refine lv_aload_n hx hb dX4_fault_37 rfl (lv_at hl 0 rfl) ?_
          refine va_get (D := D) (ci := 4) (v := .ref (adO 0)) (C := RX4) (T := TX4) (N := 5) hx hb hts iw_X4_fault_X4 hown hK hP 0 rfl rfl 4 (by decide) (hts (.fieldLink RX4 36 "FavourRings" "orders" "LFavourRings$Orders;") (List.mem_of_getElem? (i := 2) rfl)) (fun _ h9 => h9) rfl dX4_fault_38 ?_
          obtain ⟨u10, eu10, h⟩ := bd_in h
          refine kI (va_runV (As := []) (rest := []) ⟨hx, hb, hml, hown, hts⟩ (c_X2_faultPlace l D cA cQ adO u4.2.1 u10 eu10 _) (cwV 0 hts gX4_fault_X2_faultPlace rfl rfl rfl (by decide +kernel) ⟨Nat.le_of_ble_eq_true rfl, Nat.le_of_ble_eq_true rfl⟩) (pV (ci := 2) (q := (RX2, TX2, 8)) hK hN hP hD [92, 93, 94] rfl rfl rfl rfl) rfl rfl hl.1 rfl (lv_room (Nat.le_of_ble_eq_true rfl)) dX4_fault_41 ⟨Nat.zero_le _, Nat.zero_le _⟩) hP hD hS hA [92, 93, 94] rfl rfl (ws' := (wF cA cQ adF adB adT adH kH adR adO vB u4.2.2.1 vH bH u4.2.2.2 u4.2.1)) rfl (fun H locs hP hD hS => ?_)
          cases h
          exact endI hx hb hr hlocks hP hS rfl dX4_fault_44
      · have h := (if_neg c5).symm.trans h
        refine lv_ldc (v := (-1000004 : Int32)) hx hb hown (hts (.constant RX4 98 (-1000004)) (List.mem_of_getElem? (i := 4) rfl)) dX4_fault_30 ?_
        cases h
        exact endI hx hb hr hlocks hP hS rfl dX4_fault_32
    · have h := (if_neg c2).symm.trans h
      refine lv_ldc (v := (-1000001 : Int32)) hx hb hown (hts (.constant RX4 81 (-1000001)) (List.mem_of_getElem? (i := 1) rfl)) dX4_fault_9 ?_
      cases h
      exact endI hx hb hr hlocks hP hS rfl dX4_fault_11

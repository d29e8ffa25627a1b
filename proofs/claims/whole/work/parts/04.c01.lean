theorem iw_X0_firstToTake_X0 : ∀ w ∈ wsX00, w ∈ wsX0_firstToTake := fun _ h => List.mem_cons_of_mem _ (List.mem_append_right _ (h))
set_option maxHeartbeats 4000000 in
set_option maxRecDepth 100000 in
theorem c_X0_firstToTake (l : Launch) (D : va_G) (cA cQ : ClassId) (adB : Nat → Nat) (vB : St) (p1 : Int32) (p2 : Int32) (p3 : Int32) (o : Int32) (hf : X0_firstToTake vB p1 p2 p3 = some o) : Cti l yX0_firstToTake wsX0_firstToTake ({ frames := 1, cells := 0, slots := 0, locals := 24 }) D (TY cA cQ) [.ref (adB 0), .int p1, .int p2, .int p3] (wB cA adB vB) (wB cA adB vB) o := by
  refine Wk.i (cc := cX0_firstToTake) (maxL := 6) (ret := (some .int)) (by decide) rfl (Nat.le_of_ble_eq_true rfl) ?_
  intro p e s m below meth c A ls hx hb hr hlocks hml hown hts hK hN hP hD hA hl
  have hown : s.vm.findClass RX0 = some m.cls := hown
  have hS : va_S A s.heap s.heap [] := va_S.rf
  have hl : lv_has ls 6 [(0, .ref (adB 0)), (1, .int p1), (2, .int p2), (3, .int p3)] := hl
  have B6 : ∀ (fu6 : Nat) (x4 : Int32) (x5 : Int32) (H : Heap) (locs : List Loc) (ls : Array Slot), X0_firstToTake_l6 vB p1 p2 p3 fu6 x4 x5 = some o → va_P D vwCl (wB cA adB vB) H → va_D A (wB cA adB vB) → va_S A s.heap H locs → lv_has ls 6 [(0, .ref (adB 0)), (1, .int p1), (2, .int p2), (3, .int p3), (4, .int x4), (5, .int x5)] → W p l e (headSpec wsX0_firstToTake ({ frames := 1, cells := 0, slots := 0, locals := 24 })).room s m ([.ref (adB 0), .int p1, .int p2, .int p3] : List Value).toArray below meth c H locs 0 0 (MQ below (QI D (wB cA adB vB) o A) ([.ref (adB 0), .int p1, .int p2, .int p3] : List Value).toArray s 0 0 A) (F0 m 6 ls []) := by
    intro fu6
    induction fu6 with
    | zero =>
      intro x4 x5 H locs ls h hP hD hS hl
      cases h
    | succ fu6 ih6 =>
      intro x4 x5 H locs ls h hP hD hS hl
      rw [X0_firstToTake_l6] at h
      refine lv_iload hx hb dX0_firstToTake_6 (lv_at hl 5 rfl) ?_
      refine lv_aload_n hx hb dX0_firstToTake_8 rfl (lv_at hl 0 rfl) ?_
      refine lv_iconst (v := (2 : Int32)) hx hb dX0_firstToTake_9 (by decide) ?_
      obtain ⟨u1, eu1, h⟩ := bd_in h
      refine kI (va_runV (As := [.int (2 : Int32)]) (rest := [.int x5]) ⟨hx, hb, hml, hown, hts⟩ (c_X0_number l D cA cQ adB vB (2 : Int32) u1 eu1 _) (cwV 1 hts gX0_firstToTake_X0_number rfl rfl rfl (by decide +kernel) ⟨Nat.le_of_ble_eq_true rfl, Nat.le_of_ble_eq_true rfl⟩) (pV (ci := 0) (q := (RX0, TX0, 13)) hK hN hP hD [0, 1, 2, 3, 4, 5, 6, 7, 8, 9, 10, 11, 12, 13] rfl rfl rfl rfl) rfl rfl hl.1 rfl (lv_room (Nat.le_of_ble_eq_true rfl)) dX0_firstToTake_10 ⟨Nat.zero_le _, Nat.zero_le _⟩) hP hD hS hA [0, 1, 2, 3, 4, 5, 6, 7, 8, 9, 10, 11, 12, 13] rfl rfl (ws' := (wB cA adB vB)) rfl (fun H locs hP hD hS => ?_)
      refine lv_icmp_ge (tgt := 76) hx hb dX0_firstToTake_13 (by decide) (fun c2 => ?_) (fun c2 => ?_)
      · have h := (if_pos c2).symm.trans h
        refine lv_iload hx hb dX0_firstToTake_76 (lv_at hl 4 rfl) ?_
        cases h
        exact endI hx hb hr hlocks hP hS rfl dX0_firstToTake_78
      · have h := (if_neg c2).symm.trans h
        refine lv_aload_n hx hb dX0_firstToTake_16 rfl (lv_at hl 0 rfl) ?_
        refine lv_iload hx hb dX0_firstToTake_17 (lv_at hl 5 rfl) ?_
        refine lv_iload_n hx hb dX0_firstToTake_19 rfl (lv_at hl 1 rfl) ?_
        refine lv_iload_n hx hb dX0_firstToTake_20 rfl (lv_at hl 2 rfl) ?_
        refine lv_iload_n hx hb dX0_firstToTake_21 rfl (lv_at hl 3 rfl) ?_
        obtain ⟨u3, eu3, h⟩ := bd_in h
        refine kI (va_runV (As := [.int x5, .int p1, .int p2, .int p3]) (rest := []) ⟨hx, hb, hml, hown, hts⟩ (c_X0_isLotOf l D cA cQ adB vB x5 p1 p2 p3 u3 eu3 _) (cwV 4 hts gX0_firstToTake_X0_isLotOf rfl rfl rfl (by decide +kernel) ⟨Nat.le_of_ble_eq_true rfl, Nat.le_of_ble_eq_true rfl⟩) (pV (ci := 0) (q := (RX0, TX0, 13)) hK hN hP hD [0, 1, 2, 3, 4, 5, 6, 7, 8, 9, 10, 11, 12, 13] rfl rfl rfl rfl) rfl rfl hl.1 rfl (lv_room (Nat.le_of_ble_eq_true rfl)) dX0_firstToTake_22 ⟨Nat.zero_le _, Nat.zero_le _⟩) hP hD hS hA [0, 1, 2, 3, 4, 5, 6, 7, 8, 9, 10, 11, 12, 13] rfl rfl (ws' := (wB cA adB vB)) rfl (fun H locs hP hD hS => ?_)
        refine lv_if_eq (tgt := 70) hx hb dX0_firstToTake_25 (by decide) (fun c4 => ?_) (fun c4 => ?_)
        · have h := (if_pos c4).symm.trans h
          refine lv_iinc (v := (x5 + (1 : Int32))) (lv' := [(5, .int (x5 + (1 : Int32))), (0, .ref (adB 0)), (1, .int p1), (2, .int p2), (3, .int p3), (4, .int x4)]) hx hb dX0_firstToTake_70 hl (k := 5) rfl rfl (by decide) rfl (fun ls hl => ?_)
          refine lv_goto (tgt := 6) hx hb dX0_firstToTake_73 (by decide) ?_
          exact ih6 x4 (x5 + (1 : Int32)) _ _ _ h hP hD hS (lv_sub hl [1, 2, 3, 4, 5, 0] rfl)
        · have h := (if_neg c4).symm.trans h
          refine lv_aload_n hx hb dX0_firstToTake_28 rfl (lv_at hl 0 rfl) ?_
          refine va_get (D := D) (ci := 0) (v := .ref (adB 11)) (C := RX0) (T := TX0) (N := 13) hx hb hts iw_X0_firstToTake_X0 hown hK hP 0 rfl rfl 10 (by decide) (hts (.fieldLink RX0 42 "FavourRings$Bank" "sizes" "[I") (List.mem_of_getElem? (i := 1) rfl)) (fun _ h9 => h9) rfl dX0_firstToTake_29 ?_
          refine lv_iload hx hb dX0_firstToTake_32 (lv_at hl 5 rfl) ?_
          obtain ⟨u5, eu5, h⟩ := bd_in h
          refine kI (va_runSN (As := [.ref (adB 11), .int x5]) (rest := []) ⟨hx, hb, hml, hown, hts⟩ (c_X4_at l D cA cQ (adB 11) 40 (vB 11) x5 u5 eu5 _) ⟨va_cnB 2 hts gX0_firstToTake_X4_at_n77 rfl rfl rfl hN.2.2.2.1 (hts (.initialized RX4) (List.mem_of_getElem? (i := 17) rfl)) (by decide +kernel) ⟨Nat.le_of_ble_eq_true rfl, Nat.le_of_ble_eq_true rfl⟩, (hts (.static yX4_at) (List.mem_of_getElem? (i := 16) rfl)), trivial⟩ (pS hK hN hP hD [11] rfl rfl) rfl rfl hl.1 rfl (lv_room (Nat.le_of_ble_eq_true rfl)) dX0_firstToTake_34 ⟨Nat.zero_le _, Nat.zero_le _⟩) hP hD hS hA [11] rfl rfl (ws' := (wB cA adB vB)) rfl (fun H locs hP hD hS => ?_)
          refine lv_if_le (tgt := 70) hx hb dX0_firstToTake_37 (by decide) (fun c6 => ?_) (fun c6 => ?_)
          · have h := (if_pos c6).symm.trans h
            refine lv_iinc (v := (x5 + (1 : Int32))) (lv' := [(5, .int (x5 + (1 : Int32))), (0, .ref (adB 0)), (1, .int p1), (2, .int p2), (3, .int p3), (4, .int x4)]) hx hb dX0_firstToTake_70 hl (k := 5) rfl rfl (by decide) rfl (fun ls hl => ?_)
            refine lv_goto (tgt := 6) hx hb dX0_firstToTake_73 (by decide) ?_
            exact ih6 x4 (x5 + (1 : Int32)) _ _ _ h hP hD hS (lv_sub hl [1, 2, 3, 4, 5, 0] rfl)
          · have h := (if_neg c6).symm.trans h
            refine lv_iload hx hb dX0_firstToTake_40 (lv_at hl 4 rfl) ?_
            refine lv_if_lt (tgt := 66) hx hb dX0_firstToTake_42 (by decide) (fun c7 => ?_) (fun c7 => ?_)
            · have h := (if_pos c7).symm.trans h
              refine lv_iload hx hb dX0_firstToTake_66 (lv_at hl 5 rfl) ?_
              refine lv_istore (lv' := [(4, .int x5), (0, .ref (adB 0)), (1, .int p1), (2, .int p2), (3, .int p3), (5, .int x5)]) hx hb dX0_firstToTake_68 hl (by decide) rfl (fun ls hl => ?_)
              refine lv_iinc (v := (x5 + (1 : Int32))) (lv' := [(5, .int (x5 + (1 : Int32))), (4, .int x5), (0, .ref (adB 0)), (1, .int p1), (2, .int p2), (3, .int p3)]) hx hb dX0_firstToTake_70 hl (k := 5) rfl rfl (by decide) rfl (fun ls hl => ?_)
              refine lv_goto (tgt := 6) hx hb dX0_firstToTake_73 (by decide) ?_
              exact ih6 x5 (x5 + (1 : Int32)) _ _ _ h hP hD hS (lv_sub hl [2, 3, 4, 5, 1, 0] rfl)
            · have h := (if_neg c7).symm.trans h
              refine lv_aload_n hx hb dX0_firstToTake_45 rfl (lv_at hl 0 rfl) ?_
              refine va_get (D := D) (ci := 0) (v := .ref (adB 12)) (C := RX0) (T := TX0) (N := 13) hx hb hts iw_X0_firstToTake_X0 hown hK hP 0 rfl rfl 11 (by decide) (hts (.fieldLink RX0 45 "FavourRings$Bank" "ages" "[I") (List.mem_of_getElem? (i := 2) rfl)) (fun _ h9 => h9) rfl dX0_firstToTake_46 ?_
              refine lv_iload hx hb dX0_firstToTake_49 (lv_at hl 5 rfl) ?_
              obtain ⟨u8, eu8, h⟩ := bd_in h
              refine kI (va_runSN (As := [.ref (adB 12), .int x5]) (rest := []) ⟨hx, hb, hml, hown, hts⟩ (c_X4_at l D cA cQ (adB 12) 40 (vB 12) x5 u8 eu8 _) ⟨va_cnB 2 hts gX0_firstToTake_X4_at_n77 rfl rfl rfl hN.2.2.2.1 (hts (.initialized RX4) (List.mem_of_getElem? (i := 17) rfl)) (by decide +kernel) ⟨Nat.le_of_ble_eq_true rfl, Nat.le_of_ble_eq_true rfl⟩, (hts (.static yX4_at) (List.mem_of_getElem? (i := 16) rfl)), trivial⟩ (pS hK hN hP hD [12] rfl rfl) rfl rfl hl.1 rfl (lv_room (Nat.le_of_ble_eq_true rfl)) dX0_firstToTake_51 ⟨Nat.zero_le _, Nat.zero_le _⟩) hP hD hS hA [12] rfl rfl (ws' := (wB cA adB vB)) rfl (fun H locs hP hD hS => ?_)
              refine lv_aload_n hx hb dX0_firstToTake_54 rfl (lv_at hl 0 rfl) ?_
              refine va_get (D := D) (ci := 0) (v := .ref (adB 12)) (C := RX0) (T := TX0) (N := 13) hx hb hts iw_X0_firstToTake_X0 hown hK hP 0 rfl rfl 11 (by decide) (hts (.fieldLink RX0 45 "FavourRings$Bank" "ages" "[I") (List.mem_of_getElem? (i := 2) rfl)) (fun _ h9 => h9) rfl dX0_firstToTake_55 ?_
              refine lv_iload hx hb dX0_firstToTake_58 (lv_at hl 4 rfl) ?_
              obtain ⟨u9, eu9, h⟩ := bd_in h
              refine kI (va_runSN (As := [.ref (adB 12), .int x4]) (rest := [.int u8]) ⟨hx, hb, hml, hown, hts⟩ (c_X4_at l D cA cQ (adB 12) 40 (vB 12) x4 u9 eu9 _) ⟨va_cnB 2 hts gX0_firstToTake_X4_at_n77 rfl rfl rfl hN.2.2.2.1 (hts (.initialized RX4) (List.mem_of_getElem? (i := 17) rfl)) (by decide +kernel) ⟨Nat.le_of_ble_eq_true rfl, Nat.le_of_ble_eq_true rfl⟩, (hts (.static yX4_at) (List.mem_of_getElem? (i := 16) rfl)), trivial⟩ (pS hK hN hP hD [12] rfl rfl) rfl rfl hl.1 rfl (lv_room (Nat.le_of_ble_eq_true rfl)) dX0_firstToTake_60 ⟨Nat.zero_le _, Nat.zero_le _⟩) hP hD hS hA [12] rfl rfl (ws' := (wB cA adB vB)) rfl (fun H locs hP hD hS => ?_)
              refine lv_icmp_le (tgt := 70) hx hb dX0_firstToTake_63 (by decide) (fun c10 => ?_) (fun c10 => ?_)
              · have h := (if_pos c10).symm.trans h
                refine lv_iinc (v := (x5 + (1 : Int32))) (lv' := [(5, .int (x5 + (1 : Int32))), (0, .ref (adB 0)), (1, .int p1), (2, .int p2), (3, .int p3), (4, .int x4)]) hx hb dX0_firstToTake_70 hl (k := 5) rfl rfl (by decide) rfl (fun ls hl => ?_)
                refine lv_goto (tgt := 6) hx hb dX0_firstToTake_73 (by decide) ?_
                exact ih6 x4 (x5 + (1 : Int32)) _ _ _ h hP hD hS (lv_sub hl [1, 2, 3, 4, 5, 0] rfl)
              · have h := (if_neg c10).symm.trans h
                refine lv_iload hx hb dX0_firstToTake_66 (lv_at hl 5 rfl) ?_
                refine lv_istore (lv' := [(4, .int x5), (0, .ref (adB 0)), (1, .int p1), (2, .int p2), (3, .int p3), (5, .int x5)]) hx hb dX0_firstToTake_68 hl (by decide) rfl (fun ls hl => ?_)
                refine lv_iinc (v := (x5 + (1 : Int32))) (lv' := [(5, .int (x5 + (1 : Int32))), (4, .int x5), (0, .ref (adB 0)), (1, .int p1), (2, .int p2), (3, .int p3)]) hx hb dX0_firstToTake_70 hl (k := 5) rfl rfl (by decide) rfl (fun ls hl => ?_)
                refine lv_goto (tgt := 6) hx hb dX0_firstToTake_73 (by decide) ?_
                exact ih6 x5 (x5 + (1 : Int32)) _ _ _ h hP hD hS (lv_sub hl [2, 3, 4, 5, 1, 0] rfl)
  have h := hf
  unfold X0_firstToTake at h
  refine lv_iconst (v := (-1 : Int32)) hx hb dX0_firstToTake_0 (by decide) ?_
  refine lv_istore (lv' := [(4, .int (-1 : Int32)), (0, .ref (adB 0)), (1, .int p1), (2, .int p2), (3, .int p3)]) hx hb dX0_firstToTake_1 hl (by decide) rfl (fun ls hl => ?_)
  refine lv_iconst (v := (0 : Int32)) hx hb dX0_firstToTake_3 (by decide) ?_
  refine lv_istore (lv' := [(5, .int (0 : Int32)), (4, .int (-1 : Int32)), (0, .ref (adB 0)), (1, .int p1), (2, .int p2), (3, .int p3)]) hx hb dX0_firstToTake_4 hl (by decide) rfl (fun ls hl => ?_)
  exact B6 FU (-1 : Int32) (0 : Int32) _ _ _ h hP hD hS (lv_sub hl [2, 3, 4, 5, 1, 0] rfl)
set_option maxHeartbeats 4000000 in
set_option maxRecDepth 100000 in
theorem c_X0_isPupil (l : Launch) (D : va_G) (cA cQ : ClassId) (adB : Nat → Nat) (vB : St) (p1 : Int32) (o : Int32) (hf : X0_isPupil vB p1 = some o) : Cti l yX0_isPupil wsX0_isPupil ({ frames := 1, cells := 0, slots := 0, locals := 21 }) D (TY cA cQ) [.ref (adB 0), .int p1] (wB cA adB vB) (wB cA adB vB) o := by
  refine Wk.i (cc := cX0_isPupil) (maxL := 2) (ret := (some .boolean)) (by decide) rfl (Nat.le_of_ble_eq_true rfl) ?_
  intro p e s m below meth c A ls hx hb hr hlocks hml hown hts hK hN hP hD hA hl
  have hown : s.vm.findClass RX0 = some m.cls := hown
  have hS : va_S A s.heap s.heap [] := va_S.rf
  have hl : lv_has ls 2 [(0, .ref (adB 0)), (1, .int p1)] := hl
  have h := hf
  unfold X0_isPupil at h
  refine lv_iload_n hx hb dX0_isPupil_0 rfl (lv_at hl 1 rfl) ?_
  refine lv_if_lt (tgt := 17) hx hb dX0_isPupil_1 (by decide) (fun c1 => ?_) (fun c1 => ?_)
  · have h := (if_pos c1).symm.trans h
    refine lv_iconst (v := (0 : Int32)) hx hb dX0_isPupil_17 (by decide) ?_
    cases h
    exact endZ hx hb hr hlocks hP hS ⟨rfl, rfl⟩ dX0_isPupil_18
  · have h := (if_neg c1).symm.trans h
    refine lv_iload_n hx hb dX0_isPupil_4 rfl (lv_at hl 1 rfl) ?_
    refine lv_aload_n hx hb dX0_isPupil_5 rfl (lv_at hl 0 rfl) ?_
    refine lv_iconst (v := (1 : Int32)) hx hb dX0_isPupil_6 (by decide) ?_
    obtain ⟨u2, eu2, h⟩ := bd_in h
    refine kI (va_runV (As := [.int (1 : Int32)]) (rest := [.int p1]) ⟨hx, hb, hml, hown, hts⟩ (c_X0_number l D cA cQ adB vB (1 : Int32) u2 eu2 _) (cwV 1 hts gX0_isPupil_X0_number rfl rfl rfl (by decide +kernel) ⟨Nat.le_of_ble_eq_true rfl, Nat.le_of_ble_eq_true rfl⟩) (pV (ci := 0) (q := (RX0, TX0, 13)) hK hN hP hD [0, 1, 2, 3, 4, 5, 6, 7, 8, 9, 10, 11, 12, 13] rfl rfl rfl rfl) rfl rfl hl.1 rfl (lv_room (Nat.le_of_ble_eq_true rfl)) dX0_isPupil_7 ⟨Nat.zero_le _, Nat.zero_le _⟩) hP hD hS hA [0, 1, 2, 3, 4, 5, 6, 7, 8, 9, 10, 11, 12, 13] rfl rfl (ws' := (wB cA adB vB)) rfl (fun H locs hP hD hS => ?_)
    refine lv_icmp_ge (tgt := 17) hx hb dX0_isPupil_10 (by decide) (fun c3 => ?_) (fun c3 => ?_)
    · have h := (if_pos c3).symm.trans h
      refine lv_iconst (v := (0 : Int32)) hx hb dX0_isPupil_17 (by decide) ?_
      cases h
      exact endZ hx hb hr hlocks hP hS ⟨rfl, rfl⟩ dX0_isPupil_18
    · have h := (if_neg c3).symm.trans h
      refine lv_iconst (v := (1 : Int32)) hx hb dX0_isPupil_13 (by decide) ?_
      refine lv_goto (tgt := 18) hx hb dX0_isPupil_14 (by decide) ?_
      cases h
      exact endZ hx hb hr hlocks hP hS ⟨rfl, rfl⟩ dX0_isPupil_18
set_option maxHeartbeats 4000000 in
set_option maxRecDepth 100000 in
theorem c_X0_isPair (l : Launch) (D : va_G) (cA cQ : ClassId) (adB : Nat → Nat) (vB : St) (p1 : Int32) (p2 : Int32) (o : Int32) (hf : X0_isPair vB p1 p2 = some o) : Cti l yX0_isPair wsX0_isPair ({ frames := 2, cells := 0, slots := 0, locals := 42 }) D (TY cA cQ) [.ref (adB 0), .int p1, .int p2] (wB cA adB vB) (wB cA adB vB) o := by
  refine Wk.i (cc := cX0_isPair) (maxL := 3) (ret := (some .boolean)) (by decide) rfl (Nat.le_of_ble_eq_true rfl) ?_
  intro p e s m below meth c A ls hx hb hr hlocks hml hown hts hK hN hP hD hA hl
  have hown : s.vm.findClass RX0 = some m.cls := hown
  have hS : va_S A s.heap s.heap [] := va_S.rf
  have hl : lv_has ls 3 [(0, .ref (adB 0)), (1, .int p1), (2, .int p2)] := hl
  have h := hf
  unfold X0_isPair at h
  refine lv_aload_n hx hb dX0_isPair_0 rfl (lv_at hl 0 rfl) ?_
  refine lv_iload_n hx hb dX0_isPair_1 rfl (lv_at hl 1 rfl) ?_
  obtain ⟨u1, eu1, h⟩ := bd_in h
  refine kI (va_runV (As := [.int p1]) (rest := []) ⟨hx, hb, hml, hown, hts⟩ (c_X0_isPupil l D cA cQ adB vB p1 u1 eu1 _) (cwV 1 hts gX0_isPair_X0_isPupil rfl rfl rfl (by decide +kernel) ⟨Nat.le_of_ble_eq_true rfl, Nat.le_of_ble_eq_true rfl⟩) (pV (ci := 0) (q := (RX0, TX0, 13)) hK hN hP hD [0, 1, 2, 3, 4, 5, 6, 7, 8, 9, 10, 11, 12, 13] rfl rfl rfl rfl) rfl rfl hl.1 rfl (lv_room (Nat.le_of_ble_eq_true rfl)) dX0_isPair_2 ⟨Nat.zero_le _, Nat.zero_le _⟩) hP hD hS hA [0, 1, 2, 3, 4, 5, 6, 7, 8, 9, 10, 11, 12, 13] rfl rfl (ws' := (wB cA adB vB)) rfl (fun H locs hP hD hS => ?_)
  refine lv_if_eq (tgt := 25) hx hb dX0_isPair_5 (by decide) (fun c2 => ?_) (fun c2 => ?_)
  · have h := (if_pos c2).symm.trans h
    refine lv_iconst (v := (0 : Int32)) hx hb dX0_isPair_25 (by decide) ?_
    cases h
    exact endZ hx hb hr hlocks hP hS ⟨rfl, rfl⟩ dX0_isPair_26
  · have h := (if_neg c2).symm.trans h
    refine lv_aload_n hx hb dX0_isPair_8 rfl (lv_at hl 0 rfl) ?_
    refine lv_iload_n hx hb dX0_isPair_9 rfl (lv_at hl 2 rfl) ?_
    obtain ⟨u3, eu3, h⟩ := bd_in h
    refine kI (va_runV (As := [.int p2]) (rest := []) ⟨hx, hb, hml, hown, hts⟩ (c_X0_isPupil l D cA cQ adB vB p2 u3 eu3 _) (cwV 1 hts gX0_isPair_X0_isPupil rfl rfl rfl (by decide +kernel) ⟨Nat.le_of_ble_eq_true rfl, Nat.le_of_ble_eq_true rfl⟩) (pV (ci := 0) (q := (RX0, TX0, 13)) hK hN hP hD [0, 1, 2, 3, 4, 5, 6, 7, 8, 9, 10, 11, 12, 13] rfl rfl rfl rfl) rfl rfl hl.1 rfl (lv_room (Nat.le_of_ble_eq_true rfl)) dX0_isPair_10 ⟨Nat.zero_le _, Nat.zero_le _⟩) hP hD hS hA [0, 1, 2, 3, 4, 5, 6, 7, 8, 9, 10, 11, 12, 13] rfl rfl (ws' := (wB cA adB vB)) rfl (fun H locs hP hD hS => ?_)
    refine lv_if_eq (tgt := 25) hx hb dX0_isPair_13 (by decide) (fun c4 => ?_) (fun c4 => ?_)
    · have h := (if_pos c4).symm.trans h
      refine lv_iconst (v := (0 : Int32)) hx hb dX0_isPair_25 (by decide) ?_
      cases h
      exact endZ hx hb hr hlocks hP hS ⟨rfl, rfl⟩ dX0_isPair_26
    · have h := (if_neg c4).symm.trans h
      refine lv_iload_n hx hb dX0_isPair_16 rfl (lv_at hl 1 rfl) ?_
      refine lv_iload_n hx hb dX0_isPair_17 rfl (lv_at hl 2 rfl) ?_
      refine lv_icmp_eq (tgt := 25) hx hb dX0_isPair_18 (by decide) (fun c5 => ?_) (fun c5 => ?_)
      · have h := (if_pos c5).symm.trans h
        refine lv_iconst (v := (0 : Int32)) hx hb dX0_isPair_25 (by decide) ?_
        cases h
        exact endZ hx hb hr hlocks hP hS ⟨rfl, rfl⟩ dX0_isPair_26
      · have h := (if_neg c5).symm.trans h
        refine lv_iconst (v := (1 : Int32)) hx hb dX0_isPair_21 (by decide) ?_
        refine lv_goto (tgt := 26) hx hb dX0_isPair_22 (by decide) ?_
        cases h
        exact endZ hx hb hr hlocks hP hS ⟨rfl, rfl⟩ dX0_isPair_26
set_option maxHeartbeats 4000000 in
set_option maxRecDepth 100000 in
theorem c_X4_isKind (l : Launch) (D : va_G) (cA cQ : ClassId) (p0 : Int32) (o : Int32) (hf : X4_isKind p0 = some o) : Cti l yX4_isKind wsX4_isKind ({ frames := 0, cells := 0, slots := 0, locals := 0 }) D (TY cA cQ) [.int p0] ([] : va_W) ([] : va_W) o := by
  refine Wk.i (cc := cX4_isKind) (maxL := 1) (ret := (some .boolean)) (by decide) rfl (Nat.le_of_ble_eq_true rfl) ?_
  intro p e s m below meth c A ls hx hb hr hlocks hml hown hts hK hN hP hD hA hl
  have hown : s.vm.findClass RX4 = some m.cls := hown
  have hS : va_S A s.heap s.heap [] := va_S.rf
  have hl : lv_has ls 1 [(0, .int p0)] := hl
  have h := hf
  unfold X4_isKind at h
  refine lv_iload_n hx hb dX4_isKind_0 rfl (lv_at hl 0 rfl) ?_
  refine lv_if_lt (tgt := 13) hx hb dX4_isKind_1 (by decide) (fun c1 => ?_) (fun c1 => ?_)
  · have h := (if_pos c1).symm.trans h
    refine lv_iconst (v := (0 : Int32)) hx hb dX4_isKind_13 (by decide) ?_
    cases h
    exact endZ hx hb hr hlocks hP hS ⟨rfl, rfl⟩ dX4_isKind_14
  · have h := (if_neg c1).symm.trans h
    refine lv_iload_n hx hb dX4_isKind_4 rfl (lv_at hl 0 rfl) ?_
    refine lv_iconst (v := (4 : Int32)) hx hb dX4_isKind_5 (by decide) ?_
    refine lv_icmp_ge (tgt := 13) hx hb dX4_isKind_6 (by decide) (fun c2 => ?_) (fun c2 => ?_)
    · have h := (if_pos c2).symm.trans h
      refine lv_iconst (v := (0 : Int32)) hx hb dX4_isKind_13 (by decide) ?_
      cases h
      exact endZ hx hb hr hlocks hP hS ⟨rfl, rfl⟩ dX4_isKind_14
    · have h := (if_neg c2).symm.trans h
      refine lv_iconst (v := (1 : Int32)) hx hb dX4_isKind_9 (by decide) ?_
      refine lv_goto (tgt := 14) hx hb dX4_isKind_10 (by decide) ?_
      cases h
      exact endZ hx hb hr hlocks hP hS ⟨rfl, rfl⟩ dX4_isKind_14
set_option maxHeartbeats 4000000 in
set_option maxRecDepth 100000 in
theorem c_X4_isMany (l : Launch) (D : va_G) (cA cQ : ClassId) (p0 : Int32) (o : Int32) (hf : X4_isMany p0 = some o) : Cti l yX4_isMany wsX4_isMany ({ frames := 0, cells := 0, slots := 0, locals := 0 }) D (TY cA cQ) [.int p0] ([] : va_W) ([] : va_W) o := by
  refine Wk.i (cc := cX4_isMany) (maxL := 1) (ret := (some .boolean)) (by decide) rfl (Nat.le_of_ble_eq_true rfl) ?_
  intro p e s m below meth c A ls hx hb hr hlocks hml hown hts hK hN hP hD hA hl
  have hown : s.vm.findClass RX4 = some m.cls := hown
  have hS : va_S A s.heap s.heap [] := va_S.rf
  have hl : lv_has ls 1 [(0, .int p0)] := hl
  have h := hf
  unfold X4_isMany at h
  refine lv_iload_n hx hb dX4_isMany_0 rfl (lv_at hl 0 rfl) ?_
  refine lv_iconst (v := (1 : Int32)) hx hb dX4_isMany_1 (by decide) ?_
  refine lv_icmp_lt (tgt := 15) hx hb dX4_isMany_2 (by decide) (fun c1 => ?_) (fun c1 => ?_)
  · have h := (if_pos c1).symm.trans h
    refine lv_iconst (v := (0 : Int32)) hx hb dX4_isMany_15 (by decide) ?_
    cases h
    exact endZ hx hb hr hlocks hP hS ⟨rfl, rfl⟩ dX4_isMany_16
  · have h := (if_neg c1).symm.trans h
    refine lv_iload_n hx hb dX4_isMany_5 rfl (lv_at hl 0 rfl) ?_
    refine lv_bipush (v := (9 : Int32)) hx hb dX4_isMany_6 (by decide) ?_
    refine lv_icmp_gt (tgt := 15) hx hb dX4_isMany_8 (by decide) (fun c2 => ?_) (fun c2 => ?_)
    · have h := (if_pos c2).symm.trans h
      refine lv_iconst (v := (0 : Int32)) hx hb dX4_isMany_15 (by decide) ?_
      cases h
      exact endZ hx hb hr hlocks hP hS ⟨rfl, rfl⟩ dX4_isMany_16
    · have h := (if_neg c2).symm.trans h
      refine lv_iconst (v := (1 : Int32)) hx hb dX4_isMany_11 (by decide) ?_
      refine lv_goto (tgt := 16) hx hb dX4_isMany_12 (by decide) ?_
      cases h
      exact endZ hx hb hr hlocks hP hS ⟨rfl, rfl⟩ dX4_isMany_16
theorem iw_X0_takeFavours_X0 : ∀ w ∈ wsX00, w ∈ wsX0_takeFavours := fun _ h => List.mem_cons_of_mem _ (List.mem_append_right _ (h))
set_option maxHeartbeats 4000000 in
set_option maxRecDepth 100000 in
theorem c_X0_takeFavours (l : Launch) (D : va_G) (cA cQ : ClassId) (adB : Nat → Nat) (vB : St) (p1 : Int32) (p2 : Int32) (p3 : Int32) (p4 : Int32) (o : St) (hf : X0_takeFavours vB p1 p2 p3 p4 = some o) : Ctv l yX0_takeFavours wsX0_takeFavours ({ frames := 2, cells := 0, slots := 0, locals := 49 }) D (TY cA cQ) [.ref (adB 0), .int p1, .int p2, .int p3, .int p4] (wB cA adB vB) (wB cA adB o) := by
  refine Wk.v (cc := cX0_takeFavours) (maxL := 9) (ret := none) (by decide) rfl (Nat.le_of_ble_eq_true rfl) ?_
  intro p e s m below meth c A ls hx hb hr hlocks hml hown hts hK hN hP hD hA hl
  have hown : s.vm.findClass RX0 = some m.cls := hown
  have hS : va_S A s.heap s.heap [] := va_S.rf
  have hl : lv_has ls 9 [(0, .ref (adB 0)), (1, .int p1), (2, .int p2), (3, .int p3), (4, .int p4)] := hl
  have B69 : ∀ (vB : St) (H : Heap) (locs : List Loc) (ls : Array Slot), X0_takeFavours_b69 p1 p2 p3 p4 vB = some o → va_P D vwCl (wB cA adB vB) H → va_D A (wB cA adB vB) → va_S A s.heap H locs → lv_has ls 9 [(0, .ref (adB 0))] → W p l e (headSpec wsX0_takeFavours ({ frames := 2, cells := 0, slots := 0, locals := 49 })).room s m ([.ref (adB 0), .int p1, .int p2, .int p3, .int p4] : List Value).toArray below meth c H locs 0 0 (MQ below (QV D (wB cA adB o) A) ([.ref (adB 0), .int p1, .int p2, .int p3, .int p4] : List Value).toArray s 0 0 A) (F0 m 69 ls []) := by
    intro vB H locs ls h hP hD hS hl
    unfold X0_takeFavours_b69 at h
    refine lv_aload_n hx hb dX0_takeFavours_69 rfl (lv_at hl 0 rfl) ?_
    obtain ⟨u1, eu1, h⟩ := bd_in h
    refine kV (va_runV (As := []) (rest := []) ⟨hx, hb, hml, hown, hts⟩ (c_X0_dropEmptyLots l D cA cQ adB vB u1 eu1 _) (cwV 0 hts gX0_takeFavours_X0_dropEmptyLots rfl rfl rfl (by decide +kernel) ⟨Nat.le_of_ble_eq_true rfl, Nat.le_of_ble_eq_true rfl⟩) (pV (ci := 0) (q := (RX0, TX0, 13)) hK hN hP hD [0, 1, 2, 3, 4, 5, 6, 7, 8, 9, 10, 11, 12, 13] rfl rfl rfl rfl) rfl rfl hl.1 rfl (lv_room (Nat.le_of_ble_eq_true rfl)) dX0_takeFavours_70 ⟨Nat.zero_le _, Nat.zero_le _⟩) hP hD hS hA [0, 1, 2, 3, 4, 5, 6, 7, 8, 9, 10, 11, 12, 13] rfl rfl (ws' := (wB cA adB u1)) rfl (fun H locs hP hD hS => ?_)
    cases h
    exact endV hx hb hr hlocks hP hS dX0_takeFavours_73
  have B7 : ∀ (fu7 : Nat) (vB : St) (x5 : Int32) (x6 : Int32) (H : Heap) (locs : List Loc) (ls : Array Slot), X0_takeFavours_l7 p1 p2 p3 p4 fu7 vB x5 x6 = some o → va_P D vwCl (wB cA adB vB) H → va_D A (wB cA adB vB) → va_S A s.heap H locs → lv_has ls 9 [(0, .ref (adB 0)), (1, .int p1), (2, .int p2), (3, .int p3), (5, .int x5), (6, .int x6)] → W p l e (headSpec wsX0_takeFavours ({ frames := 2, cells := 0, slots := 0, locals := 49 })).room s m ([.ref (adB 0), .int p1, .int p2, .int p3, .int p4] : List Value).toArray below meth c H locs 0 0 (MQ below (QV D (wB cA adB o) A) ([.ref (adB 0), .int p1, .int p2, .int p3, .int p4] : List Value).toArray s 0 0 A) (F0 m 7 ls []) := by
    intro fu7
    induction fu7 with
    | zero =>
      intro vB x5 x6 H locs ls h hP hD hS hl
      cases h
    | succ fu7 ih7 =>
      intro vB x5 x6 H locs ls h hP hD hS hl
      rw [X0_takeFavours_l7] at h
      refine lv_iload hx hb dX0_takeFavours_7 (lv_at hl 5 rfl) ?_
      refine lv_bipush (v := (40 : Int32)) hx hb dX0_takeFavours_9 (by decide) ?_
      refine lv_icmp_ge (tgt := 69) hx hb dX0_takeFavours_11 (by decide) (fun c2 => ?_) (fun c2 => ?_)
      · have h := (if_pos c2).symm.trans h
        exact B69 vB _ _ _ h hP hD hS (lv_sub hl [0] rfl)
      · have h := (if_neg c2).symm.trans h
        refine lv_iload hx hb dX0_takeFavours_14 (lv_at hl 4 rfl) ?_
        refine lv_if_le (tgt := 69) hx hb dX0_takeFavours_16 (by decide) (fun c3 => ?_) (fun c3 => ?_)
        · have h := (if_pos c3).symm.trans h
          exact B69 vB _ _ _ h hP hD hS (lv_sub hl [0] rfl)
        · have h := (if_neg c3).symm.trans h
          refine lv_aload_n hx hb dX0_takeFavours_19 rfl (lv_at hl 0 rfl) ?_
          refine lv_iload_n hx hb dX0_takeFavours_20 rfl (lv_at hl 1 rfl) ?_
          refine lv_iload_n hx hb dX0_takeFavours_21 rfl (lv_at hl 2 rfl) ?_
          refine lv_iload_n hx hb dX0_takeFavours_22 rfl (lv_at hl 3 rfl) ?_
          obtain ⟨u4, eu4, h⟩ := bd_in h
          refine kI (va_runV (As := [.int p1, .int p2, .int p3]) (rest := []) ⟨hx, hb, hml, hown, hts⟩ (c_X0_firstToTake l D cA cQ adB vB p1 p2 p3 u4 eu4 _) (cwV 3 hts gX0_takeFavours_X0_firstToTake rfl rfl rfl (by decide +kernel) ⟨Nat.le_of_ble_eq_true rfl, Nat.le_of_ble_eq_true rfl⟩) (pV (ci := 0) (q := (RX0, TX0, 13)) hK hN hP hD [0, 1, 2, 3, 4, 5, 6, 7, 8, 9, 10, 11, 12, 13] rfl rfl rfl rfl) rfl rfl hl.1 rfl (lv_room (Nat.le_of_ble_eq_true rfl)) dX0_takeFavours_23 ⟨Nat.zero_le _, Nat.zero_le _⟩) hP hD hS hA [0, 1, 2, 3, 4, 5, 6, 7, 8, 9, 10, 11, 12, 13] rfl rfl (ws' := (wB cA adB vB)) rfl (fun H locs hP hD hS => ?_)
          refine lv_istore (lv' := [(7, .int u4), (0, .ref (adB 0)), (1, .int p1), (2, .int p2), (3, .int p3), (5, .int x5), (6, .int x6)]) hx hb dX0_takeFavours_26 hl (by decide) rfl (fun ls hl => ?_)
          refine lv_iload hx hb dX0_takeFavours_28 (lv_at hl 5 rfl) ?_
          refine lv_aload_n hx hb dX0_takeFavours_30 rfl (lv_at hl 1 rfl) ?_
          refine va_get (D := D) (ci := 0) (v := .ref (adB 11)) (C := RX0) (T := TX0) (N := 13) hx hb hts iw_X0_takeFavours_X0 hown hK hP 0 rfl rfl 10 (by decide) (hts (.fieldLink RX0 42 "FavourRings$Bank" "sizes" "[I") (List.mem_of_getElem? (i := 1) rfl)) (fun _ h9 => h9) rfl dX0_takeFavours_31 ?_
          refine lv_iload hx hb dX0_takeFavours_34 (lv_at hl 0 rfl) ?_
          obtain ⟨u5, eu5, h⟩ := bd_in h
          refine kI (va_runSN (As := [.ref (adB 11), .int u4]) (rest := [.int x5]) ⟨hx, hb, hml, hown, hts⟩ (c_X4_at l D cA cQ (adB 11) 40 (vB 11) u4 u5 eu5 _) ⟨va_cnB 2 hts gX0_takeFavours_X4_at_n77 rfl rfl rfl hN.2.2.2.1 (hts (.initialized RX4) (List.mem_of_getElem? (i := 25) rfl)) (by decide +kernel) ⟨Nat.le_of_ble_eq_true rfl, Nat.le_of_ble_eq_true rfl⟩, (hts (.static yX4_at) (List.mem_of_getElem? (i := 24) rfl)), trivial⟩ (pS hK hN hP hD [11] rfl rfl) rfl rfl hl.1 rfl (lv_room (Nat.le_of_ble_eq_true rfl)) dX0_takeFavours_36 ⟨Nat.zero_le _, Nat.zero_le _⟩) hP hD hS hA [11] rfl rfl (ws' := (wB cA adB vB)) rfl (fun H locs hP hD hS => ?_)
          refine va_mmin hx hb (hml.trans hl.1.symm) hown (hts (.methodLink RX0 107 Lib.Math.min.name) (List.mem_of_getElem? (i := 2) rfl)) (hts (.static Lib.Math.min.name) (List.mem_of_getElem? (i := 3) rfl)) (hts (.initialized "java/lang/Math") (List.mem_of_getElem? (i := 4) rfl)) (hts (.code Lib.Math.min.name Lib.Math.min.code 2 (some .int)) (List.mem_of_getElem? (i := 5) rfl)) (Nat.le_of_ble_eq_true rfl) (Nat.le_of_ble_eq_true rfl) (Nat.zero_le _) (Nat.zero_le _) dX0_takeFavours_39 ?_
          refine lv_istore (lv' := [(8, .int (if u5 < x5 then u5 else x5)), (7, .int u4), (0, .ref (adB 0)), (1, .int p1), (2, .int p2), (3, .int p3), (5, .int x5), (6, .int x6)]) hx hb dX0_takeFavours_42 hl (by decide) rfl (fun ls hl => ?_)
          refine lv_aload_n hx hb dX0_takeFavours_44 rfl (lv_at hl 2 rfl) ?_
          refine va_get (D := D) (ci := 0) (v := .ref (adB 11)) (C := RX0) (T := TX0) (N := 13) hx hb hts iw_X0_takeFavours_X0 hown hK hP 0 rfl rfl 10 (by decide) (hts (.fieldLink RX0 42 "FavourRings$Bank" "sizes" "[I") (List.mem_of_getElem? (i := 1) rfl)) (fun _ h9 => h9) rfl dX0_takeFavours_45 ?_
          refine lv_iload hx hb dX0_takeFavours_48 (lv_at hl 1 rfl) ?_
          refine lv_iload hx hb dX0_takeFavours_50 (lv_at hl 0 rfl) ?_
          refine lv_ineg hx hb dX0_takeFavours_52 ?_
          obtain ⟨u6, eu6, h⟩ := bd_in h
          refine kV (va_runSN (As := [.ref (adB 11), .int u4, .int (-(if u5 < x5 then u5 else x5))]) (rest := []) ⟨hx, hb, hml, hown, hts⟩ (c_X4_add l D cA cQ (adB 11) 40 (vB 11) u4 (-(if u5 < x5 then u5 else x5)) u6 eu6 _) ⟨va_cnB 3 hts gX0_takeFavours_X4_add_n86 rfl rfl rfl hN.2.2.2.2.1 (hts (.initialized RX4) (List.mem_of_getElem? (i := 25) rfl)) (by decide +kernel) ⟨Nat.le_of_ble_eq_true rfl, Nat.le_of_ble_eq_true rfl⟩, (hts (.static yX4_add) (List.mem_of_getElem? (i := 27) rfl)), trivial⟩ (pS hK hN hP hD [11] rfl rfl) rfl rfl hl.1 rfl (lv_room (Nat.le_of_ble_eq_true rfl)) dX0_takeFavours_53 ⟨Nat.zero_le _, Nat.zero_le _⟩) hP hD hS hA [11] rfl rfl (ws' := (wB cA adB (setA vB 11 u6))) rfl (fun H locs hP hD hS => ?_)
          refine lv_iload hx hb dX0_takeFavours_56 (lv_at hl 6 rfl) ?_
          refine lv_iload hx hb dX0_takeFavours_58 (lv_at hl 0 rfl) ?_
          refine lv_isub hx hb dX0_takeFavours_60 ?_
          refine lv_istore (lv' := [(5, .int (x5 - (if u5 < x5 then u5 else x5))), (8, .int (if u5 < x5 then u5 else x5)), (7, .int u4), (0, .ref (adB 0)), (1, .int p1), (2, .int p2), (3, .int p3), (6, .int x6)]) hx hb dX0_takeFavours_61 hl (by decide) rfl (fun ls hl => ?_)
          refine lv_iinc (v := (x6 + (1 : Int32))) (lv' := [(6, .int (x6 + (1 : Int32))), (5, .int (x5 - (if u5 < x5 then u5 else x5))), (8, .int (if u5 < x5 then u5 else x5)), (7, .int u4), (0, .ref (adB 0)), (1, .int p1), (2, .int p2), (3, .int p3)]) hx hb dX0_takeFavours_63 hl (k := 7) rfl rfl (by decide) rfl (fun ls hl => ?_)
          refine lv_goto (tgt := 7) hx hb dX0_takeFavours_66 (by decide) ?_
          exact ih7 (setA vB 11 u6) (x5 - (if u5 < x5 then u5 else x5)) (x6 + (1 : Int32)) _ _ _ h hP hD hS (lv_sub hl [4, 5, 6, 7, 1, 0] rfl)
  have h := hf
  unfold X0_takeFavours at h
  refine lv_iload hx hb dX0_takeFavours_0 (lv_at hl 4 rfl) ?_
  refine lv_istore (lv' := [(5, .int p4), (0, .ref (adB 0)), (1, .int p1), (2, .int p2), (3, .int p3), (4, .int p4)]) hx hb dX0_takeFavours_2 hl (by decide) rfl (fun ls hl => ?_)
  refine lv_iconst (v := (0 : Int32)) hx hb dX0_takeFavours_4 (by decide) ?_
  refine lv_istore (lv' := [(6, .int (0 : Int32)), (5, .int p4), (0, .ref (adB 0)), (1, .int p1), (2, .int p2), (3, .int p3), (4, .int p4)]) hx hb dX0_takeFavours_5 hl (by decide) rfl (fun ls hl => ?_)
  exact B7 FU vB p4 (0 : Int32) _ _ _ h hP hD hS (lv_sub hl [2, 3, 4, 5, 1, 0] rfl)
theorem iw_X0_fulfilFavours_X0 : ∀ w ∈ wsX00, w ∈ wsX0_fulfilFavours := fun _ h => List.mem_cons_of_mem _ (List.mem_append_right _ (h))
set_option maxHeartbeats 4000000 in
set_option maxRecDepth 100000 in
theorem c_X0_fulfilFavours (l : Launch) (D : va_G) (cA cQ : ClassId) (adB : Nat → Nat) (vB : St) (p1 : Int32) (p2 : Int32) (p3 : Int32) (p4 : Int32) (o : Int32 × St) (hf : X0_fulfilFavours vB p1 p2 p3 p4 = some o) : Cti l yX0_fulfilFavours wsX0_fulfilFavours ({ frames := 3, cells := 0, slots := 0, locals := 77 }) D (TY cA cQ) [.ref (adB 0), .int p1, .int p2, .int p3, .int p4] (wB cA adB vB) (wB cA adB o.2) o.1 := by
  refine Wk.i (cc := cX0_fulfilFavours) (maxL := 5) (ret := (some .int)) (by decide) rfl (Nat.le_of_ble_eq_true rfl) ?_
  intro p e s m below meth c A ls hx hb hr hlocks hml hown hts hK hN hP hD hA hl
  have hown : s.vm.findClass RX0 = some m.cls := hown
  have hS : va_S A s.heap s.heap [] := va_S.rf
  have hl : lv_has ls 5 [(0, .ref (adB 0)), (1, .int p1), (2, .int p2), (3, .int p3), (4, .int p4)] := hl
  have h := hf
  unfold X0_fulfilFavours at h
  refine lv_aload_n hx hb dX0_fulfilFavours_0 rfl (lv_at hl 0 rfl) ?_
  refine lv_iload_n hx hb dX0_fulfilFavours_1 rfl (lv_at hl 1 rfl) ?_
  refine lv_iload_n hx hb dX0_fulfilFavours_2 rfl (lv_at hl 2 rfl) ?_
  obtain ⟨u1, eu1, h⟩ := bd_in h
  refine kI (va_runV (As := [.int p1, .int p2]) (rest := []) ⟨hx, hb, hml, hown, hts⟩ (c_X0_isPair l D cA cQ adB vB p1 p2 u1 eu1 _) (cwV 2 hts gX0_fulfilFavours_X0_isPair rfl rfl rfl (by decide +kernel) ⟨Nat.le_of_ble_eq_true rfl, Nat.le_of_ble_eq_true rfl⟩) (pV (ci := 0) (q := (RX0, TX0, 13)) hK hN hP hD [0, 1, 2, 3, 4, 5, 6, 7, 8, 9, 10, 11, 12, 13] rfl rfl rfl rfl) rfl rfl hl.1 rfl (lv_room (Nat.le_of_ble_eq_true rfl)) dX0_fulfilFavours_3 ⟨Nat.zero_le _, Nat.zero_le _⟩) hP hD hS hA [0, 1, 2, 3, 4, 5, 6, 7, 8, 9, 10, 11, 12, 13] rfl rfl (ws' := (wB cA adB vB)) rfl (fun H locs hP hD hS => ?_)
  refine lv_if_eq (tgt := 24) hx hb dX0_fulfilFavours_6 (by decide) (fun c2 => ?_) (fun c2 => ?_)
  · have h := (if_pos c2).symm.trans h
    refine lv_ldc (v := (-1000001 : Int32)) hx hb hown (hts (.constant RX0 93 (-1000001)) (List.mem_of_getElem? (i := 1) rfl)) dX0_fulfilFavours_24 ?_
    cases h
    exact endI hx hb hr hlocks hP hS rfl dX0_fulfilFavours_26
  · have h := (if_neg c2).symm.trans h
    refine lv_iload_n hx hb dX0_fulfilFavours_9 rfl (lv_at hl 3 rfl) ?_
    obtain ⟨u3, eu3, h⟩ := bd_in h
    refine kI (va_runSN (As := [.int p3]) (rest := []) ⟨hx, hb, hml, hown, hts⟩ (c_X4_isKind l D cA cQ  p3 u3 eu3 _) ⟨va_cnB 1 hts gX0_fulfilFavours_X4_isKind_n116 rfl rfl rfl hN.2.2.2.2.2.1 (hts (.initialized RX4) (List.mem_of_getElem? (i := 20) rfl)) (by decide +kernel) ⟨Nat.le_of_ble_eq_true rfl, Nat.le_of_ble_eq_true rfl⟩, (hts (.static yX4_isKind) (List.mem_of_getElem? (i := 19) rfl)), trivial⟩ (pS hK hN hP hD [] rfl rfl) rfl rfl hl.1 rfl (lv_room (Nat.le_of_ble_eq_true rfl)) dX0_fulfilFavours_10 ⟨Nat.zero_le _, Nat.zero_le _⟩) hP hD hS hA [] rfl rfl (ws' := (wB cA adB vB)) rfl (fun H locs hP hD hS => ?_)
    refine lv_if_eq (tgt := 24) hx hb dX0_fulfilFavours_13 (by decide) (fun c4 => ?_) (fun c4 => ?_)
    · have h := (if_pos c4).symm.trans h
      refine lv_ldc (v := (-1000001 : Int32)) hx hb hown (hts (.constant RX0 93 (-1000001)) (List.mem_of_getElem? (i := 1) rfl)) dX0_fulfilFavours_24 ?_
      cases h
      exact endI hx hb hr hlocks hP hS rfl dX0_fulfilFavours_26
    · have h := (if_neg c4).symm.trans h
      refine lv_iload hx hb dX0_fulfilFavours_16 (lv_at hl 4 rfl) ?_
      obtain ⟨u5, eu5, h⟩ := bd_in h
      refine kI (va_runSN (As := [.int p4]) (rest := []) ⟨hx, hb, hml, hown, hts⟩ (c_X4_isMany l D cA cQ  p4 u5 eu5 _) ⟨va_cnB 1 hts gX0_fulfilFavours_X4_isMany_n119 rfl rfl rfl hN.2.2.2.2.2.2.1 (hts (.initialized RX4) (List.mem_of_getElem? (i := 20) rfl)) (by decide +kernel) ⟨Nat.le_of_ble_eq_true rfl, Nat.le_of_ble_eq_true rfl⟩, (hts (.static yX4_isMany) (List.mem_of_getElem? (i := 22) rfl)), trivial⟩ (pS hK hN hP hD [] rfl rfl) rfl rfl hl.1 rfl (lv_room (Nat.le_of_ble_eq_true rfl)) dX0_fulfilFavours_18 ⟨Nat.zero_le _, Nat.zero_le _⟩) hP hD hS hA [] rfl rfl (ws' := (wB cA adB vB)) rfl (fun H locs hP hD hS => ?_)
      refine lv_if_ne (tgt := 27) hx hb dX0_fulfilFavours_21 (by decide) (fun c6 => ?_) (fun c6 => ?_)
      · have h := (if_neg c6).symm.trans h
        refine lv_aload_n hx hb dX0_fulfilFavours_27 rfl (lv_at hl 0 rfl) ?_
        refine lv_iload_n hx hb dX0_fulfilFavours_28 rfl (lv_at hl 1 rfl) ?_
        refine lv_iload_n hx hb dX0_fulfilFavours_29 rfl (lv_at hl 2 rfl) ?_
        refine lv_iload_n hx hb dX0_fulfilFavours_30 rfl (lv_at hl 3 rfl) ?_
        obtain ⟨u7, eu7, h⟩ := bd_in h
        refine kI (va_runV (As := [.int p1, .int p2, .int p3]) (rest := []) ⟨hx, hb, hml, hown, hts⟩ (c_X0_sumOwed l D cA cQ adB vB p1 p2 p3 u7 eu7 _) (cwV 3 hts gX0_fulfilFavours_X0_sumOwed rfl rfl rfl (by decide +kernel) ⟨Nat.le_of_ble_eq_true rfl, Nat.le_of_ble_eq_true rfl⟩) (pV (ci := 0) (q := (RX0, TX0, 13)) hK hN hP hD [0, 1, 2, 3, 4, 5, 6, 7, 8, 9, 10, 11, 12, 13] rfl rfl rfl rfl) rfl rfl hl.1 rfl (lv_room (Nat.le_of_ble_eq_true rfl)) dX0_fulfilFavours_31 ⟨Nat.zero_le _, Nat.zero_le _⟩) hP hD hS hA [0, 1, 2, 3, 4, 5, 6, 7, 8, 9, 10, 11, 12, 13] rfl rfl (ws' := (wB cA adB vB)) rfl (fun H locs hP hD hS => ?_)
        refine lv_iload hx hb dX0_fulfilFavours_34 (lv_at hl 4 rfl) ?_
        refine lv_icmp_ge (tgt := 42) hx hb dX0_fulfilFavours_36 (by decide) (fun c8 => ?_) (fun c8 => ?_)
        · have h := (if_pos c8).symm.trans h
          refine lv_aload_n hx hb dX0_fulfilFavours_42 rfl (lv_at hl 0 rfl) ?_
          refine lv_iload_n hx hb dX0_fulfilFavours_43 rfl (lv_at hl 1 rfl) ?_
          refine lv_iload_n hx hb dX0_fulfilFavours_44 rfl (lv_at hl 2 rfl) ?_
          refine lv_iload_n hx hb dX0_fulfilFavours_45 rfl (lv_at hl 3 rfl) ?_
          refine lv_iload hx hb dX0_fulfilFavours_46 (lv_at hl 4 rfl) ?_
          obtain ⟨u9, eu9, h⟩ := bd_in h
          refine kV (va_runV (As := [.int p1, .int p2, .int p3, .int p4]) (rest := []) ⟨hx, hb, hml, hown, hts⟩ (c_X0_takeFavours l D cA cQ adB vB p1 p2 p3 p4 u9 eu9 _) (cwV 4 hts gX0_fulfilFavours_X0_takeFavours rfl rfl rfl (by decide +kernel) ⟨Nat.le_of_ble_eq_true rfl, Nat.le_of_ble_eq_true rfl⟩) (pV (ci := 0) (q := (RX0, TX0, 13)) hK hN hP hD [0, 1, 2, 3, 4, 5, 6, 7, 8, 9, 10, 11, 12, 13] rfl rfl rfl rfl) rfl rfl hl.1 rfl (lv_room (Nat.le_of_ble_eq_true rfl)) dX0_fulfilFavours_48 ⟨Nat.zero_le _, Nat.zero_le _⟩) hP hD hS hA [0, 1, 2, 3, 4, 5, 6, 7, 8, 9, 10, 11, 12, 13] rfl rfl (ws' := (wB cA adB u9)) rfl (fun H locs hP hD hS => ?_)
          refine lv_aload_n hx hb dX0_fulfilFavours_51 rfl (lv_at hl 0 rfl) ?_
          refine va_get (D := D) (ci := 0) (v := .ref (adB 2)) (C := RX0) (T := TX0) (N := 13) hx hb hts iw_X0_fulfilFavours_X0 hown hK hP 0 rfl rfl 1 (by decide) (hts (.fieldLink RX0 15 "FavourRings$Bank" "came" "[I") (List.mem_of_getElem? (i := 3) rfl)) (fun _ h9 => h9) rfl dX0_fulfilFavours_52 ?_
          refine lv_iload_n hx hb dX0_fulfilFavours_55 rfl (lv_at hl 1 rfl) ?_
          refine lv_iload hx hb dX0_fulfilFavours_56 (lv_at hl 4 rfl) ?_
          obtain ⟨u10, eu10, h⟩ := bd_in h
          refine kV (va_runSN (As := [.ref (adB 2), .int p1, .int p4]) (rest := []) ⟨hx, hb, hml, hown, hts⟩ (c_X4_add l D cA cQ (adB 2) 8 (u9 2) p1 p4 u10 eu10 _) ⟨va_cnB 3 hts gX0_fulfilFavours_X4_add_n86 rfl rfl rfl hN.2.2.2.2.1 (hts (.initialized RX4) (List.mem_of_getElem? (i := 20) rfl)) (by decide +kernel) ⟨Nat.le_of_ble_eq_true rfl, Nat.le_of_ble_eq_true rfl⟩, (hts (.static yX4_add) (List.mem_of_getElem? (i := 51) rfl)), trivial⟩ (pS hK hN hP hD [2] rfl rfl) rfl rfl hl.1 rfl (lv_room (Nat.le_of_ble_eq_true rfl)) dX0_fulfilFavours_58 ⟨Nat.zero_le _, Nat.zero_le _⟩) hP hD hS hA [2] rfl rfl (ws' := (wB cA adB (setA u9 2 u10))) rfl (fun H locs hP hD hS => ?_)
          refine lv_aload_n hx hb dX0_fulfilFavours_61 rfl (lv_at hl 0 rfl) ?_
          refine va_get (D := D) (ci := 0) (v := .ref (adB 2)) (C := RX0) (T := TX0) (N := 13) hx hb hts iw_X0_fulfilFavours_X0 hown hK hP 0 rfl rfl 1 (by decide) (hts (.fieldLink RX0 15 "FavourRings$Bank" "came" "[I") (List.mem_of_getElem? (i := 3) rfl)) (fun _ h9 => h9) rfl dX0_fulfilFavours_62 ?_
          refine lv_iload_n hx hb dX0_fulfilFavours_65 rfl (lv_at hl 2 rfl) ?_
          refine lv_iload hx hb dX0_fulfilFavours_66 (lv_at hl 4 rfl) ?_
          refine lv_ineg hx hb dX0_fulfilFavours_68 ?_
          obtain ⟨u11, eu11, h⟩ := bd_in h
          refine kV (va_runSN (As := [.ref (adB 2), .int p2, .int (-p4)]) (rest := []) ⟨hx, hb, hml, hown, hts⟩ (c_X4_add l D cA cQ (adB 2) 8 u10 p2 (-p4) u11 eu11 _) ⟨va_cnB 3 hts gX0_fulfilFavours_X4_add_n86 rfl rfl rfl hN.2.2.2.2.1 (hts (.initialized RX4) (List.mem_of_getElem? (i := 20) rfl)) (by decide +kernel) ⟨Nat.le_of_ble_eq_true rfl, Nat.le_of_ble_eq_true rfl⟩, (hts (.static yX4_add) (List.mem_of_getElem? (i := 51) rfl)), trivial⟩ (pS hK hN hP hD [2] rfl rfl) rfl rfl hl.1 rfl (lv_room (Nat.le_of_ble_eq_true rfl)) dX0_fulfilFavours_69 ⟨Nat.zero_le _, Nat.zero_le _⟩) hP hD hS hA [2] rfl rfl (ws' := (wB cA adB (setA u9 2 u11))) rfl (fun H locs hP hD hS => ?_)
          refine lv_aload_n hx hb dX0_fulfilFavours_72 rfl (lv_at hl 0 rfl) ?_
          refine va_get (D := D) (ci := 0) (v := .ref (adB 3)) (C := RX0) (T := TX0) (N := 13) hx hb hts iw_X0_fulfilFavours_X0 hown hK hP 0 rfl rfl 2 (by decide) (hts (.fieldLink RX0 18 "FavourRings$Bank" "done" "[I") (List.mem_of_getElem? (i := 4) rfl)) (fun _ h9 => h9) rfl dX0_fulfilFavours_73 ?_
          refine lv_iload_n hx hb dX0_fulfilFavours_76 rfl (lv_at hl 1 rfl) ?_
          refine lv_iload hx hb dX0_fulfilFavours_77 (lv_at hl 4 rfl) ?_
          obtain ⟨u12, eu12, h⟩ := bd_in h
          refine kV (va_runSN (As := [.ref (adB 3), .int p1, .int p4]) (rest := []) ⟨hx, hb, hml, hown, hts⟩ (c_X4_add l D cA cQ (adB 3) 8 (u9 3) p1 p4 u12 eu12 _) ⟨va_cnB 3 hts gX0_fulfilFavours_X4_add_n86 rfl rfl rfl hN.2.2.2.2.1 (hts (.initialized RX4) (List.mem_of_getElem? (i := 20) rfl)) (by decide +kernel) ⟨Nat.le_of_ble_eq_true rfl, Nat.le_of_ble_eq_true rfl⟩, (hts (.static yX4_add) (List.mem_of_getElem? (i := 51) rfl)), trivial⟩ (pS hK hN hP hD [3] rfl rfl) rfl rfl hl.1 rfl (lv_room (Nat.le_of_ble_eq_true rfl)) dX0_fulfilFavours_79 ⟨Nat.zero_le _, Nat.zero_le _⟩) hP hD hS hA [3] rfl rfl (ws' := (wB cA adB (setA (setA u9 2 u11) 3 u12))) rfl (fun H locs hP hD hS => ?_)
          refine lv_aload_n hx hb dX0_fulfilFavours_82 rfl (lv_at hl 0 rfl) ?_
          refine va_get (D := D) (ci := 0) (v := .ref (adB 1)) (C := RX0) (T := TX0) (N := 13) hx hb hts iw_X0_fulfilFavours_X0 hown hK hP 0 rfl rfl 0 (by decide) (hts (.fieldLink RX0 9 "FavourRings$Bank" "numbers" "[I") (List.mem_of_getElem? (i := 5) rfl)) (fun _ h9 => h9) rfl dX0_fulfilFavours_83 ?_
          refine lv_iconst (v := (5 : Int32)) hx hb dX0_fulfilFavours_86 (by decide) ?_
          refine lv_iload hx hb dX0_fulfilFavours_87 (lv_at hl 4 rfl) ?_
          obtain ⟨u13, eu13, h⟩ := bd_in h
          refine kV (va_runSN (As := [.ref (adB 1), .int (5 : Int32), .int p4]) (rest := []) ⟨hx, hb, hml, hown, hts⟩ (c_X4_add l D cA cQ (adB 1) 26 (u9 1) (5 : Int32) p4 u13 eu13 _) ⟨va_cnB 3 hts gX0_fulfilFavours_X4_add_n86 rfl rfl rfl hN.2.2.2.2.1 (hts (.initialized RX4) (List.mem_of_getElem? (i := 20) rfl)) (by decide +kernel) ⟨Nat.le_of_ble_eq_true rfl, Nat.le_of_ble_eq_true rfl⟩, (hts (.static yX4_add) (List.mem_of_getElem? (i := 51) rfl)), trivial⟩ (pS hK hN hP hD [1] rfl rfl) rfl rfl hl.1 rfl (lv_room (Nat.le_of_ble_eq_true rfl)) dX0_fulfilFavours_89 ⟨Nat.zero_le _, Nat.zero_le _⟩) hP hD hS hA [1] rfl rfl (ws' := (wB cA adB (setA (setA (setA u9 2 u11) 3 u12) 1 u13))) rfl (fun H locs hP hD hS => ?_)
          refine lv_aload_n hx hb dX0_fulfilFavours_92 rfl (lv_at hl 0 rfl) ?_
          refine lv_iload_n hx hb dX0_fulfilFavours_93 rfl (lv_at hl 1 rfl) ?_
          refine lv_iload_n hx hb dX0_fulfilFavours_94 rfl (lv_at hl 2 rfl) ?_
          refine lv_iload_n hx hb dX0_fulfilFavours_95 rfl (lv_at hl 3 rfl) ?_
          obtain ⟨u14, eu14, h⟩ := bd_in h
          refine kI (va_runV (As := [.int p1, .int p2, .int p3]) (rest := []) ⟨hx, hb, hml, hown, hts⟩ (c_X0_sumOwed l D cA cQ adB (setA (setA (setA u9 2 u11) 3 u12) 1 u13) p1 p2 p3 u14 eu14 _) (cwV 3 hts gX0_fulfilFavours_X0_sumOwed rfl rfl rfl (by decide +kernel) ⟨Nat.le_of_ble_eq_true rfl, Nat.le_of_ble_eq_true rfl⟩) (pV (ci := 0) (q := (RX0, TX0, 13)) hK hN hP hD [0, 1, 2, 3, 4, 5, 6, 7, 8, 9, 10, 11, 12, 13] rfl rfl rfl rfl) rfl rfl hl.1 rfl (lv_room (Nat.le_of_ble_eq_true rfl)) dX0_fulfilFavours_96 ⟨Nat.zero_le _, Nat.zero_le _⟩) hP hD hS hA [0, 1, 2, 3, 4, 5, 6, 7, 8, 9, 10, 11, 12, 13] rfl rfl (ws' := (wB cA adB (setA (setA (setA u9 2 u11) 3 u12) 1 u13))) rfl (fun H locs hP hD hS => ?_)
          cases h
          exact endI hx hb hr hlocks hP hS rfl dX0_fulfilFavours_99
        · have h := (if_neg c8).symm.trans h
          refine lv_ldc (v := (-1000002 : Int32)) hx hb hown (hts (.constant RX0 125 (-1000002)) (List.mem_of_getElem? (i := 2) rfl)) dX0_fulfilFavours_39 ?_
          cases h
          exact endI hx hb hr hlocks hP hS rfl dX0_fulfilFavours_41
      · have h := (if_pos c6).symm.trans h
        refine lv_ldc (v := (-1000001 : Int32)) hx hb hown (hts (.constant RX0 93 (-1000001)) (List.mem_of_getElem? (i := 1) rfl)) dX0_fulfilFavours_24 ?_
        cases h
        exact endI hx hb hr hlocks hP hS rfl dX0_fulfilFavours_26
theorem iw_X0_giveGuarantor_X0 : ∀ w ∈ wsX00, w ∈ wsX0_giveGuarantor := fun _ h => List.mem_cons_of_mem _ (List.mem_append_right _ (h))
set_option maxHeartbeats 4000000 in
set_option maxRecDepth 100000 in
theorem c_X0_giveGuarantor (l : Launch) (D : va_G) (cA cQ : ClassId) (adB : Nat → Nat) (vB : St) (p1 : Int32) (p2 : Int32) (o : Int32 × St) (hf : X0_giveGuarantor vB p1 p2 = some o) : Cti l yX0_giveGuarantor wsX0_giveGuarantor ({ frames := 3, cells := 0, slots := 0, locals := 64 }) D (TY cA cQ) [.ref (adB 0), .int p1, .int p2] (wB cA adB vB) (wB cA adB o.2) o.1 := by
  refine Wk.i (cc := cX0_giveGuarantor) (maxL := 4) (ret := (some .int)) (by decide) rfl (Nat.le_of_ble_eq_true rfl) ?_
  intro p e s m below meth c A ls hx hb hr hlocks hml hown hts hK hN hP hD hA hl
  have hown : s.vm.findClass RX0 = some m.cls := hown
  have hS : va_S A s.heap s.heap [] := va_S.rf
  have hl : lv_has ls 4 [(0, .ref (adB 0)), (1, .int p1), (2, .int p2)] := hl
  have B25 : ∀ (vB : St) (H : Heap) (locs : List Loc) (ls : Array Slot), X0_giveGuarantor_b25 p1 p2 vB = some o → va_P D vwCl (wB cA adB vB) H → va_D A (wB cA adB vB) → va_S A s.heap H locs → lv_has ls 4 [(0, .ref (adB 0)), (1, .int p1), (2, .int p2)] → W p l e (headSpec wsX0_giveGuarantor ({ frames := 3, cells := 0, slots := 0, locals := 64 })).room s m ([.ref (adB 0), .int p1, .int p2] : List Value).toArray below meth c H locs 0 0 (MQ below (QI D (wB cA adB o.2) o.1 A) ([.ref (adB 0), .int p1, .int p2] : List Value).toArray s 0 0 A) (F0 m 25 ls []) := by
    intro vB H locs ls h hP hD hS hl
    unfold X0_giveGuarantor_b25 at h
    refine lv_aload_n hx hb dX0_giveGuarantor_25 rfl (lv_at hl 0 rfl) ?_
    refine va_get (D := D) (ci := 0) (v := .ref (adB 5)) (C := RX0) (T := TX0) (N := 13) hx hb hts iw_X0_giveGuarantor_X0 hown hK hP 0 rfl rfl 4 (by decide) (hts (.fieldLink RX0 24 "FavourRings$Bank" "guarantors" "[I") (List.mem_of_getElem? (i := 2) rfl)) (fun _ h9 => h9) rfl dX0_giveGuarantor_26 ?_
    refine lv_iload_n hx hb dX0_giveGuarantor_29 rfl (lv_at hl 1 rfl) ?_
    obtain ⟨u1, eu1, h⟩ := bd_in h
    refine kI (va_runSN (As := [.ref (adB 5), .int p1]) (rest := []) ⟨hx, hb, hml, hown, hts⟩ (c_X4_at l D cA cQ (adB 5) 8 (vB 5) p1 u1 eu1 _) ⟨va_cnB 2 hts gX0_giveGuarantor_X4_at_n77 rfl rfl rfl hN.2.2.2.1 (hts (.initialized RX4) (List.mem_of_getElem? (i := 18) rfl)) (by decide +kernel) ⟨Nat.le_of_ble_eq_true rfl, Nat.le_of_ble_eq_true rfl⟩, (hts (.static yX4_at) (List.mem_of_getElem? (i := 17) rfl)), trivial⟩ (pS hK hN hP hD [5] rfl rfl) rfl rfl hl.1 rfl (lv_room (Nat.le_of_ble_eq_true rfl)) dX0_giveGuarantor_30 ⟨Nat.zero_le _, Nat.zero_le _⟩) hP hD hS hA [5] rfl rfl (ws' := (wB cA adB vB)) rfl (fun H locs hP hD hS => ?_)
    refine lv_istore_n (lv' := [(3, .int u1), (0, .ref (adB 0)), (1, .int p1), (2, .int p2)]) hx hb dX0_giveGuarantor_33 rfl hl (by decide) rfl (fun ls hl => ?_)
    refine lv_aload_n hx hb dX0_giveGuarantor_34 rfl (lv_at hl 1 rfl) ?_
    refine va_get (D := D) (ci := 0) (v := .ref (adB 5)) (C := RX0) (T := TX0) (N := 13) hx hb hts iw_X0_giveGuarantor_X0 hown hK hP 0 rfl rfl 4 (by decide) (hts (.fieldLink RX0 24 "FavourRings$Bank" "guarantors" "[I") (List.mem_of_getElem? (i := 2) rfl)) (fun _ h9 => h9) rfl dX0_giveGuarantor_35 ?_
    refine lv_iload_n hx hb dX0_giveGuarantor_38 rfl (lv_at hl 2 rfl) ?_
    refine lv_iload_n hx hb dX0_giveGuarantor_39 rfl (lv_at hl 3 rfl) ?_
    refine lv_iconst (v := (1 : Int32)) hx hb dX0_giveGuarantor_40 (by decide) ?_
    refine lv_iadd hx hb dX0_giveGuarantor_41 ?_
    obtain ⟨u2, eu2, h⟩ := bd_in h
    refine kV (va_runSN (As := [.ref (adB 5), .int p1, .int (p2 + (1 : Int32))]) (rest := []) ⟨hx, hb, hml, hown, hts⟩ (c_X4_put l D cA cQ (adB 5) 8 (vB 5) p1 (p2 + (1 : Int32)) u2 eu2 _) ⟨va_cnB 3 hts gX0_giveGuarantor_X4_put_n55 rfl rfl rfl hN.2.1 (hts (.initialized RX4) (List.mem_of_getElem? (i := 18) rfl)) (by decide +kernel) ⟨Nat.le_of_ble_eq_true rfl, Nat.le_of_ble_eq_true rfl⟩, (hts (.static yX4_put) (List.mem_of_getElem? (i := 20) rfl)), trivial⟩ (pS hK hN hP hD [5] rfl rfl) rfl rfl hl.1 rfl (lv_room (Nat.le_of_ble_eq_true rfl)) dX0_giveGuarantor_42 ⟨Nat.zero_le _, Nat.zero_le _⟩) hP hD hS hA [5] rfl rfl (ws' := (wB cA adB (setA vB 5 u2))) rfl (fun H locs hP hD hS => ?_)
    refine lv_iload_n hx hb dX0_giveGuarantor_45 rfl (lv_at hl 0 rfl) ?_
    cases h
    exact endI hx hb hr hlocks hP hS rfl dX0_giveGuarantor_46
  have h := hf
  unfold X0_giveGuarantor at h
  refine lv_aload_n hx hb dX0_giveGuarantor_0 rfl (lv_at hl 0 rfl) ?_
  refine lv_iload_n hx hb dX0_giveGuarantor_1 rfl (lv_at hl 1 rfl) ?_
  obtain ⟨u3, eu3, h⟩ := bd_in h
  refine kI (va_runV (As := [.int p1]) (rest := []) ⟨hx, hb, hml, hown, hts⟩ (c_X0_isPupil l D cA cQ adB vB p1 u3 eu3 _) (cwV 1 hts gX0_giveGuarantor_X0_isPupil rfl rfl rfl (by decide +kernel) ⟨Nat.le_of_ble_eq_true rfl, Nat.le_of_ble_eq_true rfl⟩) (pV (ci := 0) (q := (RX0, TX0, 13)) hK hN hP hD [0, 1, 2, 3, 4, 5, 6, 7, 8, 9, 10, 11, 12, 13] rfl rfl rfl rfl) rfl rfl hl.1 rfl (lv_room (Nat.le_of_ble_eq_true rfl)) dX0_giveGuarantor_2 ⟨Nat.zero_le _, Nat.zero_le _⟩) hP hD hS hA [0, 1, 2, 3, 4, 5, 6, 7, 8, 9, 10, 11, 12, 13] rfl rfl (ws' := (wB cA adB vB)) rfl (fun H locs hP hD hS => ?_)
  refine lv_if_eq (tgt := 22) hx hb dX0_giveGuarantor_5 (by decide) (fun c4 => ?_) (fun c4 => ?_)
  · have h := (if_pos c4).symm.trans h
    refine lv_ldc (v := (-1000001 : Int32)) hx hb hown (hts (.constant RX0 93 (-1000001)) (List.mem_of_getElem? (i := 1) rfl)) dX0_giveGuarantor_22 ?_
    cases h
    exact endI hx hb hr hlocks hP hS rfl dX0_giveGuarantor_24
  · have h := (if_neg c4).symm.trans h
    refine lv_iload_n hx hb dX0_giveGuarantor_8 rfl (lv_at hl 2 rfl) ?_
    refine lv_iconst (v := (-1 : Int32)) hx hb dX0_giveGuarantor_9 (by decide) ?_
    refine lv_icmp_eq (tgt := 25) hx hb dX0_giveGuarantor_10 (by decide) (fun c5 => ?_) (fun c5 => ?_)
    · have h := (if_pos c5).symm.trans h
      exact B25 vB _ _ _ h hP hD hS (lv_sub hl [0, 1, 2] rfl)
    · have h := (if_neg c5).symm.trans h
      refine lv_aload_n hx hb dX0_giveGuarantor_13 rfl (lv_at hl 0 rfl) ?_
      refine lv_iload_n hx hb dX0_giveGuarantor_14 rfl (lv_at hl 1 rfl) ?_
      refine lv_iload_n hx hb dX0_giveGuarantor_15 rfl (lv_at hl 2 rfl) ?_
      obtain ⟨u6, eu6, h⟩ := bd_in h
      refine kI (va_runV (As := [.int p1, .int p2]) (rest := []) ⟨hx, hb, hml, hown, hts⟩ (c_X0_isPair l D cA cQ adB vB p1 p2 u6 eu6 _) (cwV 2 hts gX0_giveGuarantor_X0_isPair rfl rfl rfl (by decide +kernel) ⟨Nat.le_of_ble_eq_true rfl, Nat.le_of_ble_eq_true rfl⟩) (pV (ci := 0) (q := (RX0, TX0, 13)) hK hN hP hD [0, 1, 2, 3, 4, 5, 6, 7, 8, 9, 10, 11, 12, 13] rfl rfl rfl rfl) rfl rfl hl.1 rfl (lv_room (Nat.le_of_ble_eq_true rfl)) dX0_giveGuarantor_16 ⟨Nat.zero_le _, Nat.zero_le _⟩) hP hD hS hA [0, 1, 2, 3, 4, 5, 6, 7, 8, 9, 10, 11, 12, 13] rfl rfl (ws' := (wB cA adB vB)) rfl (fun H locs hP hD hS => ?_)
      refine lv_if_ne (tgt := 25) hx hb dX0_giveGuarantor_19 (by decide) (fun c7 => ?_) (fun c7 => ?_)
      · have h := (if_neg c7).symm.trans h
        exact B25 vB _ _ _ h hP hD hS (lv_sub hl [0, 1, 2] rfl)
      · have h := (if_pos c7).symm.trans h
        refine lv_ldc (v := (-1000001 : Int32)) hx hb hown (hts (.constant RX0 93 (-1000001)) (List.mem_of_getElem? (i := 1) rfl)) dX0_giveGuarantor_22 ?_
        cases h
        exact endI hx hb hr hlocks hP hS rfl dX0_giveGuarantor_24
theorem iw_X0_reasonAgainst_X0 : ∀ w ∈ wsX00, w ∈ wsX0_reasonAgainst := fun _ h => List.mem_cons_of_mem _ (List.mem_append_right _ (h))
set_option maxHeartbeats 4000000 in
set_option maxRecDepth 100000 in
theorem c_X0_reasonAgainst (l : Launch) (D : va_G) (cA cQ : ClassId) (adB : Nat → Nat) (vB : St) (p1 : Int32) (p2 : Int32) (o : Int32) (hf : X0_reasonAgainst vB p1 p2 = some o) : Cti l yX0_reasonAgainst wsX0_reasonAgainst ({ frames := 2, cells := 0, slots := 0, locals := 49 }) D (TY cA cQ) [.ref (adB 0), .int p1, .int p2] (wB cA adB vB) (wB cA adB vB) o := by
  refine Wk.i (cc := cX0_reasonAgainst) (maxL := 4) (ret := (some .int)) (by decide) rfl (Nat.le_of_ble_eq_true rfl) ?_
  intro p e s m below meth c A ls hx hb hr hlocks hml hown hts hK hN hP hD hA hl
  have hown : s.vm.findClass RX0 = some m.cls := hown
  have hS : va_S A s.heap s.heap [] := va_S.rf
  have hl : lv_has ls 4 [(0, .ref (adB 0)), (1, .int p1), (2, .int p2)] := hl
  have B42 : ∀ (t0 : Int32) (H : Heap) (locs : List Loc) (ls : Array Slot), X0_reasonAgainst_b42 vB p1 p2 t0 = some o → va_P D vwCl (wB cA adB vB) H → va_D A (wB cA adB vB) → va_S A s.heap H locs → lv_has ls 4 [(0, .ref (adB 0)), (1, .int p1)] → W p l e (headSpec wsX0_reasonAgainst ({ frames := 2, cells := 0, slots := 0, locals := 49 })).room s m ([.ref (adB 0), .int p1, .int p2] : List Value).toArray below meth c H locs 0 0 (MQ below (QI D (wB cA adB vB) o A) ([.ref (adB 0), .int p1, .int p2] : List Value).toArray s 0 0 A) (F0 m 42 ls [.int t0]) := by
    intro t0 H locs ls h hP hD hS hl
    unfold X0_reasonAgainst_b42 at h
    refine lv_istore_n (lv' := [(3, .int t0), (0, .ref (adB 0)), (1, .int p1)]) hx hb dX0_reasonAgainst_42 rfl hl (by decide) rfl (fun ls hl => ?_)
    refine lv_iload_n hx hb dX0_reasonAgainst_43 rfl (lv_at hl 0 rfl) ?_
    refine lv_if_eq (tgt := 59) hx hb dX0_reasonAgainst_44 (by decide) (fun c1 => ?_) (fun c1 => ?_)
    · have h := (if_pos c1).symm.trans h
      refine lv_iconst (v := (0 : Int32)) hx hb dX0_reasonAgainst_59 (by decide) ?_
      cases h
      exact endI hx hb hr hlocks hP hS rfl dX0_reasonAgainst_60
    · have h := (if_neg c1).symm.trans h
      refine lv_aload_n hx hb dX0_reasonAgainst_47 rfl (lv_at hl 1 rfl) ?_
      refine lv_iload_n hx hb dX0_reasonAgainst_48 rfl (lv_at hl 2 rfl) ?_
      obtain ⟨u2, eu2, h⟩ := bd_in h
      refine kI (va_runV (As := [.int p1]) (rest := []) ⟨hx, hb, hml, hown, hts⟩ (c_X0_guarantorOf l D cA cQ adB vB p1 u2 eu2 _) (cwV 1 hts gX0_reasonAgainst_X0_guarantorOf rfl rfl rfl (by decide +kernel) ⟨Nat.le_of_ble_eq_true rfl, Nat.le_of_ble_eq_true rfl⟩) (pV (ci := 0) (q := (RX0, TX0, 13)) hK hN hP hD [0, 1, 2, 3, 4, 5, 6, 7, 8, 9, 10, 11, 12, 13] rfl rfl rfl rfl) rfl rfl hl.1 rfl (lv_room (Nat.le_of_ble_eq_true rfl)) dX0_reasonAgainst_49 ⟨Nat.zero_le _, Nat.zero_le _⟩) hP hD hS hA [0, 1, 2, 3, 4, 5, 6, 7, 8, 9, 10, 11, 12, 13] rfl rfl (ws' := (wB cA adB vB)) rfl (fun H locs hP hD hS => ?_)
      refine lv_if_ge (tgt := 59) hx hb dX0_reasonAgainst_52 (by decide) (fun c3 => ?_) (fun c3 => ?_)
      · have h := (if_pos c3).symm.trans h
        refine lv_iconst (v := (0 : Int32)) hx hb dX0_reasonAgainst_59 (by decide) ?_
        cases h
        exact endI hx hb hr hlocks hP hS rfl dX0_reasonAgainst_60
      · have h := (if_neg c3).symm.trans h
        refine lv_iconst (v := (2 : Int32)) hx hb dX0_reasonAgainst_55 (by decide) ?_
        refine lv_goto (tgt := 60) hx hb dX0_reasonAgainst_56 (by decide) ?_
        cases h
        exact endI hx hb hr hlocks hP hS rfl dX0_reasonAgainst_60
  have h := hf
  unfold X0_reasonAgainst at h
  refine lv_aload_n hx hb dX0_reasonAgainst_0 rfl (lv_at hl 0 rfl) ?_
  refine lv_iload_n hx hb dX0_reasonAgainst_1 rfl (lv_at hl 1 rfl) ?_
  refine lv_iconst (v := (-1 : Int32)) hx hb dX0_reasonAgainst_2 (by decide) ?_
  refine lv_iconst (v := (-1 : Int32)) hx hb dX0_reasonAgainst_3 (by decide) ?_
  obtain ⟨u4, eu4, h⟩ := bd_in h
  refine kI (va_runV (As := [.int p1, .int (-1 : Int32), .int (-1 : Int32)]) (rest := []) ⟨hx, hb, hml, hown, hts⟩ (c_X0_sumOwed l D cA cQ adB vB p1 (-1 : Int32) (-1 : Int32) u4 eu4 _) (cwV 3 hts gX0_reasonAgainst_X0_sumOwed rfl rfl rfl (by decide +kernel) ⟨Nat.le_of_ble_eq_true rfl, Nat.le_of_ble_eq_true rfl⟩) (pV (ci := 0) (q := (RX0, TX0, 13)) hK hN hP hD [0, 1, 2, 3, 4, 5, 6, 7, 8, 9, 10, 11, 12, 13] rfl rfl rfl rfl) rfl rfl hl.1 rfl (lv_room (Nat.le_of_ble_eq_true rfl)) dX0_reasonAgainst_4 ⟨Nat.zero_le _, Nat.zero_le _⟩) hP hD hS hA [0, 1, 2, 3, 4, 5, 6, 7, 8, 9, 10, 11, 12, 13] rfl rfl (ws' := (wB cA adB vB)) rfl (fun H locs hP hD hS => ?_)
  refine lv_iload_n hx hb dX0_reasonAgainst_7 rfl (lv_at hl 2 rfl) ?_
  refine lv_iadd hx hb dX0_reasonAgainst_8 ?_
  refine lv_aload_n hx hb dX0_reasonAgainst_9 rfl (lv_at hl 0 rfl) ?_
  refine lv_bipush (v := (24 : Int32)) hx hb dX0_reasonAgainst_10 (by decide) ?_
  obtain ⟨u5, eu5, h⟩ := bd_in h
  refine kI (va_runV (As := [.int (24 : Int32)]) (rest := [.int (u4 + p2)]) ⟨hx, hb, hml, hown, hts⟩ (c_X0_number l D cA cQ adB vB (24 : Int32) u5 eu5 _) (cwV 1 hts gX0_reasonAgainst_X0_number rfl rfl rfl (by decide +kernel) ⟨Nat.le_of_ble_eq_true rfl, Nat.le_of_ble_eq_true rfl⟩) (pV (ci := 0) (q := (RX0, TX0, 13)) hK hN hP hD [0, 1, 2, 3, 4, 5, 6, 7, 8, 9, 10, 11, 12, 13] rfl rfl rfl rfl) rfl rfl hl.1 rfl (lv_room (Nat.le_of_ble_eq_true rfl)) dX0_reasonAgainst_12 ⟨Nat.zero_le _, Nat.zero_le _⟩) hP hD hS hA [0, 1, 2, 3, 4, 5, 6, 7, 8, 9, 10, 11, 12, 13] rfl rfl (ws' := (wB cA adB vB)) rfl (fun H locs hP hD hS => ?_)
  refine lv_icmp_le (tgt := 20) hx hb dX0_reasonAgainst_15 (by decide) (fun c6 => ?_) (fun c6 => ?_)
  · have h := (if_pos c6).symm.trans h
    refine lv_aload_n hx hb dX0_reasonAgainst_20 rfl (lv_at hl 0 rfl) ?_
    refine va_get (D := D) (ci := 0) (v := .ref (adB 4)) (C := RX0) (T := TX0) (N := 13) hx hb hts iw_X0_reasonAgainst_X0 hown hK hP 0 rfl rfl 3 (by decide) (hts (.fieldLink RX0 21 "FavourRings$Bank" "spoiled" "[I") (List.mem_of_getElem? (i := 1) rfl)) (fun _ h9 => h9) rfl dX0_reasonAgainst_21 ?_
    refine lv_iload_n hx hb dX0_reasonAgainst_24 rfl (lv_at hl 1 rfl) ?_
    obtain ⟨u7, eu7, h⟩ := bd_in h
    refine kI (va_runSN (As := [.ref (adB 4), .int p1]) (rest := []) ⟨hx, hb, hml, hown, hts⟩ (c_X4_at l D cA cQ (adB 4) 8 (vB 4) p1 u7 eu7 _) ⟨va_cnB 2 hts gX0_reasonAgainst_X4_at_n77 rfl rfl rfl hN.2.2.2.1 (hts (.initialized RX4) (List.mem_of_getElem? (i := 21) rfl)) (by decide +kernel) ⟨Nat.le_of_ble_eq_true rfl, Nat.le_of_ble_eq_true rfl⟩, (hts (.static yX4_at) (List.mem_of_getElem? (i := 20) rfl)), trivial⟩ (pS hK hN hP hD [4] rfl rfl) rfl rfl hl.1 rfl (lv_room (Nat.le_of_ble_eq_true rfl)) dX0_reasonAgainst_25 ⟨Nat.zero_le _, Nat.zero_le _⟩) hP hD hS hA [4] rfl rfl (ws' := (wB cA adB vB)) rfl (fun H locs hP hD hS => ?_)
    refine lv_aload_n hx hb dX0_reasonAgainst_28 rfl (lv_at hl 0 rfl) ?_
    refine lv_bipush (v := (25 : Int32)) hx hb dX0_reasonAgainst_29 (by decide) ?_
    obtain ⟨u8, eu8, h⟩ := bd_in h
    refine kI (va_runV (As := [.int (25 : Int32)]) (rest := [.int u7]) ⟨hx, hb, hml, hown, hts⟩ (c_X0_number l D cA cQ adB vB (25 : Int32) u8 eu8 _) (cwV 1 hts gX0_reasonAgainst_X0_number rfl rfl rfl (by decide +kernel) ⟨Nat.le_of_ble_eq_true rfl, Nat.le_of_ble_eq_true rfl⟩) (pV (ci := 0) (q := (RX0, TX0, 13)) hK hN hP hD [0, 1, 2, 3, 4, 5, 6, 7, 8, 9, 10, 11, 12, 13] rfl rfl rfl rfl) rfl rfl hl.1 rfl (lv_room (Nat.le_of_ble_eq_true rfl)) dX0_reasonAgainst_31 ⟨Nat.zero_le _, Nat.zero_le _⟩) hP hD hS hA [0, 1, 2, 3, 4, 5, 6, 7, 8, 9, 10, 11, 12, 13] rfl rfl (ws' := (wB cA adB vB)) rfl (fun H locs hP hD hS => ?_)
    refine lv_icmp_lt (tgt := 41) hx hb dX0_reasonAgainst_34 (by decide) (fun c9 => ?_) (fun c9 => ?_)
    · have h := (if_pos c9).symm.trans h
      refine lv_iconst (v := (0 : Int32)) hx hb dX0_reasonAgainst_41 (by decide) ?_
      exact B42 (0 : Int32) _ _ _ h hP hD hS (lv_sub hl [0, 1] rfl)
    · have h := (if_neg c9).symm.trans h
      refine lv_iconst (v := (1 : Int32)) hx hb dX0_reasonAgainst_37 (by decide) ?_
      refine lv_goto (tgt := 42) hx hb dX0_reasonAgainst_38 (by decide) ?_
      exact B42 (1 : Int32) _ _ _ h hP hD hS (lv_sub hl [0, 1] rfl)
  · have h := (if_neg c6).symm.trans h
    refine lv_iconst (v := (1 : Int32)) hx hb dX0_reasonAgainst_18 (by decide) ?_
    cases h
    exact endI hx hb hr hlocks hP hS rfl dX0_reasonAgainst_19
theorem iw_X0_lendFavours_X0 : ∀ w ∈ wsX00, w ∈ wsX0_lendFavours := fun _ h => List.mem_cons_of_mem _ (List.mem_append_right _ (h))
set_option maxHeartbeats 4000000 in
set_option maxRecDepth 100000 in
theorem c_X0_lendFavours (l : Launch) (D : va_G) (cA cQ : ClassId) (adB : Nat → Nat) (vB : St) (p1 : Int32) (p2 : Int32) (p3 : Int32) (p4 : Int32) (o : Int32 × St) (hf : X0_lendFavours vB p1 p2 p3 p4 = some o) : Cti l yX0_lendFavours wsX0_lendFavours ({ frames := 3, cells := 0, slots := 0, locals := 72 }) D (TY cA cQ) [.ref (adB 0), .int p1, .int p2, .int p3, .int p4] (wB cA adB vB) (wB cA adB o.2) o.1 := by
  refine Wk.i (cc := cX0_lendFavours) (maxL := 5) (ret := (some .int)) (by decide) rfl (Nat.le_of_ble_eq_true rfl) ?_
  intro p e s m below meth c A ls hx hb hr hlocks hml hown hts hK hN hP hD hA hl
  have hown : s.vm.findClass RX0 = some m.cls := hown
  have hS : va_S A s.heap s.heap [] := va_S.rf
  have hl : lv_has ls 5 [(0, .ref (adB 0)), (1, .int p1), (2, .int p2), (3, .int p3), (4, .int p4)] := hl
  have h := hf
  unfold X0_lendFavours at h
  refine lv_aload_n hx hb dX0_lendFavours_0 rfl (lv_at hl 0 rfl) ?_
  refine lv_iload_n hx hb dX0_lendFavours_1 rfl (lv_at hl 1 rfl) ?_
  refine lv_iload_n hx hb dX0_lendFavours_2 rfl (lv_at hl 2 rfl) ?_
  obtain ⟨u1, eu1, h⟩ := bd_in h
  refine kI (va_runV (As := [.int p1, .int p2]) (rest := []) ⟨hx, hb, hml, hown, hts⟩ (c_X0_isPair l D cA cQ adB vB p1 p2 u1 eu1 _) (cwV 2 hts gX0_lendFavours_X0_isPair rfl rfl rfl (by decide +kernel) ⟨Nat.le_of_ble_eq_true rfl, Nat.le_of_ble_eq_true rfl⟩) (pV (ci := 0) (q := (RX0, TX0, 13)) hK hN hP hD [0, 1, 2, 3, 4, 5, 6, 7, 8, 9, 10, 11, 12, 13] rfl rfl rfl rfl) rfl rfl hl.1 rfl (lv_room (Nat.le_of_ble_eq_true rfl)) dX0_lendFavours_3 ⟨Nat.zero_le _, Nat.zero_le _⟩) hP hD hS hA [0, 1, 2, 3, 4, 5, 6, 7, 8, 9, 10, 11, 12, 13] rfl rfl (ws' := (wB cA adB vB)) rfl (fun H locs hP hD hS => ?_)
  refine lv_if_eq (tgt := 24) hx hb dX0_lendFavours_6 (by decide) (fun c2 => ?_) (fun c2 => ?_)
  · have h := (if_pos c2).symm.trans h
    refine lv_ldc (v := (-1000001 : Int32)) hx hb hown (hts (.constant RX0 93 (-1000001)) (List.mem_of_getElem? (i := 1) rfl)) dX0_lendFavours_24 ?_
    cases h
    exact endI hx hb hr hlocks hP hS rfl dX0_lendFavours_26
  · have h := (if_neg c2).symm.trans h
    refine lv_iload_n hx hb dX0_lendFavours_9 rfl (lv_at hl 3 rfl) ?_
    obtain ⟨u3, eu3, h⟩ := bd_in h
    refine kI (va_runSN (As := [.int p3]) (rest := []) ⟨hx, hb, hml, hown, hts⟩ (c_X4_isKind l D cA cQ  p3 u3 eu3 _) ⟨va_cnB 1 hts gX0_lendFavours_X4_isKind_n116 rfl rfl rfl hN.2.2.2.2.2.1 (hts (.initialized RX4) (List.mem_of_getElem? (i := 20) rfl)) (by decide +kernel) ⟨Nat.le_of_ble_eq_true rfl, Nat.le_of_ble_eq_true rfl⟩, (hts (.static yX4_isKind) (List.mem_of_getElem? (i := 19) rfl)), trivial⟩ (pS hK hN hP hD [] rfl rfl) rfl rfl hl.1 rfl (lv_room (Nat.le_of_ble_eq_true rfl)) dX0_lendFavours_10 ⟨Nat.zero_le _, Nat.zero_le _⟩) hP hD hS hA [] rfl rfl (ws' := (wB cA adB vB)) rfl (fun H locs hP hD hS => ?_)
    refine lv_if_eq (tgt := 24) hx hb dX0_lendFavours_13 (by decide) (fun c4 => ?_) (fun c4 => ?_)
    · have h := (if_pos c4).symm.trans h
      refine lv_ldc (v := (-1000001 : Int32)) hx hb hown (hts (.constant RX0 93 (-1000001)) (List.mem_of_getElem? (i := 1) rfl)) dX0_lendFavours_24 ?_
      cases h
      exact endI hx hb hr hlocks hP hS rfl dX0_lendFavours_26
    · have h := (if_neg c4).symm.trans h
      refine lv_iload hx hb dX0_lendFavours_16 (lv_at hl 4 rfl) ?_
      obtain ⟨u5, eu5, h⟩ := bd_in h
      refine kI (va_runSN (As := [.int p4]) (rest := []) ⟨hx, hb, hml, hown, hts⟩ (c_X4_isMany l D cA cQ  p4 u5 eu5 _) ⟨va_cnB 1 hts gX0_lendFavours_X4_isMany_n119 rfl rfl rfl hN.2.2.2.2.2.2.1 (hts (.initialized RX4) (List.mem_of_getElem? (i := 20) rfl)) (by decide +kernel) ⟨Nat.le_of_ble_eq_true rfl, Nat.le_of_ble_eq_true rfl⟩, (hts (.static yX4_isMany) (List.mem_of_getElem? (i := 22) rfl)), trivial⟩ (pS hK hN hP hD [] rfl rfl) rfl rfl hl.1 rfl (lv_room (Nat.le_of_ble_eq_true rfl)) dX0_lendFavours_18 ⟨Nat.zero_le _, Nat.zero_le _⟩) hP hD hS hA [] rfl rfl (ws' := (wB cA adB vB)) rfl (fun H locs hP hD hS => ?_)
      refine lv_if_ne (tgt := 27) hx hb dX0_lendFavours_21 (by decide) (fun c6 => ?_) (fun c6 => ?_)
      · have h := (if_neg c6).symm.trans h
        refine lv_aload_n hx hb dX0_lendFavours_27 rfl (lv_at hl 0 rfl) ?_
        refine lv_iload_n hx hb dX0_lendFavours_28 rfl (lv_at hl 1 rfl) ?_
        refine lv_iload hx hb dX0_lendFavours_29 (lv_at hl 4 rfl) ?_
        obtain ⟨u7, eu7, h⟩ := bd_in h
        refine kI (va_runV (As := [.int p1, .int p4]) (rest := []) ⟨hx, hb, hml, hown, hts⟩ (c_X0_reasonAgainst l D cA cQ adB vB p1 p4 u7 eu7 _) (cwV 2 hts gX0_lendFavours_X0_reasonAgainst rfl rfl rfl (by decide +kernel) ⟨Nat.le_of_ble_eq_true rfl, Nat.le_of_ble_eq_true rfl⟩) (pV (ci := 0) (q := (RX0, TX0, 13)) hK hN hP hD [0, 1, 2, 3, 4, 5, 6, 7, 8, 9, 10, 11, 12, 13] rfl rfl rfl rfl) rfl rfl hl.1 rfl (lv_room (Nat.le_of_ble_eq_true rfl)) dX0_lendFavours_31 ⟨Nat.zero_le _, Nat.zero_le _⟩) hP hD hS hA [0, 1, 2, 3, 4, 5, 6, 7, 8, 9, 10, 11, 12, 13] rfl rfl (ws' := (wB cA adB vB)) rfl (fun H locs hP hD hS => ?_)
        refine lv_if_eq (tgt := 40) hx hb dX0_lendFavours_34 (by decide) (fun c8 => ?_) (fun c8 => ?_)
        · have h := (if_pos c8).symm.trans h
          refine lv_aload_n hx hb dX0_lendFavours_40 rfl (lv_at hl 0 rfl) ?_
          refine lv_iconst (v := (2 : Int32)) hx hb dX0_lendFavours_41 (by decide) ?_
          obtain ⟨u9, eu9, h⟩ := bd_in h
          refine kI (va_runV (As := [.int (2 : Int32)]) (rest := []) ⟨hx, hb, hml, hown, hts⟩ (c_X0_number l D cA cQ adB vB (2 : Int32) u9 eu9 _) (cwV 1 hts gX0_lendFavours_X0_number rfl rfl rfl (by decide +kernel) ⟨Nat.le_of_ble_eq_true rfl, Nat.le_of_ble_eq_true rfl⟩) (pV (ci := 0) (q := (RX0, TX0, 13)) hK hN hP hD [0, 1, 2, 3, 4, 5, 6, 7, 8, 9, 10, 11, 12, 13] rfl rfl rfl rfl) rfl rfl hl.1 rfl (lv_room (Nat.le_of_ble_eq_true rfl)) dX0_lendFavours_42 ⟨Nat.zero_le _, Nat.zero_le _⟩) hP hD hS hA [0, 1, 2, 3, 4, 5, 6, 7, 8, 9, 10, 11, 12, 13] rfl rfl (ws' := (wB cA adB vB)) rfl (fun H locs hP hD hS => ?_)
          refine lv_bipush (v := (40 : Int32)) hx hb dX0_lendFavours_45 (by decide) ?_
          refine lv_icmp_lt (tgt := 53) hx hb dX0_lendFavours_47 (by decide) (fun c10 => ?_) (fun c10 => ?_)
          · have h := (if_pos c10).symm.trans h
            refine lv_aload_n hx hb dX0_lendFavours_53 rfl (lv_at hl 0 rfl) ?_
            refine lv_iload_n hx hb dX0_lendFavours_54 rfl (lv_at hl 1 rfl) ?_
            refine lv_iload_n hx hb dX0_lendFavours_55 rfl (lv_at hl 2 rfl) ?_
            refine lv_iload_n hx hb dX0_lendFavours_56 rfl (lv_at hl 3 rfl) ?_
            refine lv_iload hx hb dX0_lendFavours_57 (lv_at hl 4 rfl) ?_
            obtain ⟨u11, eu11, h⟩ := bd_in h
            refine kV (va_runV (As := [.int p1, .int p2, .int p3, .int p4]) (rest := []) ⟨hx, hb, hml, hown, hts⟩ (c_X0_addLot l D cA cQ adB vB p1 p2 p3 p4 u11 eu11 _) (cwV 4 hts gX0_lendFavours_X0_addLot rfl rfl rfl (by decide +kernel) ⟨Nat.le_of_ble_eq_true rfl, Nat.le_of_ble_eq_true rfl⟩) (pV (ci := 0) (q := (RX0, TX0, 13)) hK hN hP hD [0, 1, 2, 3, 4, 5, 6, 7, 8, 9, 10, 11, 12, 13] rfl rfl rfl rfl) rfl rfl hl.1 rfl (lv_room (Nat.le_of_ble_eq_true rfl)) dX0_lendFavours_59 ⟨Nat.zero_le _, Nat.zero_le _⟩) hP hD hS hA [0, 1, 2, 3, 4, 5, 6, 7, 8, 9, 10, 11, 12, 13] rfl rfl (ws' := (wB cA adB u11)) rfl (fun H locs hP hD hS => ?_)
            refine lv_aload_n hx hb dX0_lendFavours_62 rfl (lv_at hl 0 rfl) ?_
            refine va_get (D := D) (ci := 0) (v := .ref (adB 2)) (C := RX0) (T := TX0) (N := 13) hx hb hts iw_X0_lendFavours_X0 hown hK hP 0 rfl rfl 1 (by decide) (hts (.fieldLink RX0 15 "FavourRings$Bank" "came" "[I") (List.mem_of_getElem? (i := 4) rfl)) (fun _ h9 => h9) rfl dX0_lendFavours_63 ?_
            refine lv_iload_n hx hb dX0_lendFavours_66 rfl (lv_at hl 1 rfl) ?_
            refine lv_iload hx hb dX0_lendFavours_67 (lv_at hl 4 rfl) ?_
            refine lv_ineg hx hb dX0_lendFavours_69 ?_
            obtain ⟨u12, eu12, h⟩ := bd_in h
            refine kV (va_runSN (As := [.ref (adB 2), .int p1, .int (-p4)]) (rest := []) ⟨hx, hb, hml, hown, hts⟩ (c_X4_add l D cA cQ (adB 2) 8 (u11 2) p1 (-p4) u12 eu12 _) ⟨va_cnB 3 hts gX0_lendFavours_X4_add_n86 rfl rfl rfl hN.2.2.2.2.1 (hts (.initialized RX4) (List.mem_of_getElem? (i := 20) rfl)) (by decide +kernel) ⟨Nat.le_of_ble_eq_true rfl, Nat.le_of_ble_eq_true rfl⟩, (hts (.static yX4_add) (List.mem_of_getElem? (i := 56) rfl)), trivial⟩ (pS hK hN hP hD [2] rfl rfl) rfl rfl hl.1 rfl (lv_room (Nat.le_of_ble_eq_true rfl)) dX0_lendFavours_70 ⟨Nat.zero_le _, Nat.zero_le _⟩) hP hD hS hA [2] rfl rfl (ws' := (wB cA adB (setA u11 2 u12))) rfl (fun H locs hP hD hS => ?_)
            refine lv_aload_n hx hb dX0_lendFavours_73 rfl (lv_at hl 0 rfl) ?_
            refine va_get (D := D) (ci := 0) (v := .ref (adB 2)) (C := RX0) (T := TX0) (N := 13) hx hb hts iw_X0_lendFavours_X0 hown hK hP 0 rfl rfl 1 (by decide) (hts (.fieldLink RX0 15 "FavourRings$Bank" "came" "[I") (List.mem_of_getElem? (i := 4) rfl)) (fun _ h9 => h9) rfl dX0_lendFavours_74 ?_
            refine lv_iload_n hx hb dX0_lendFavours_77 rfl (lv_at hl 2 rfl) ?_
            refine lv_iload hx hb dX0_lendFavours_78 (lv_at hl 4 rfl) ?_
            obtain ⟨u13, eu13, h⟩ := bd_in h
            refine kV (va_runSN (As := [.ref (adB 2), .int p2, .int p4]) (rest := []) ⟨hx, hb, hml, hown, hts⟩ (c_X4_add l D cA cQ (adB 2) 8 u12 p2 p4 u13 eu13 _) ⟨va_cnB 3 hts gX0_lendFavours_X4_add_n86 rfl rfl rfl hN.2.2.2.2.1 (hts (.initialized RX4) (List.mem_of_getElem? (i := 20) rfl)) (by decide +kernel) ⟨Nat.le_of_ble_eq_true rfl, Nat.le_of_ble_eq_true rfl⟩, (hts (.static yX4_add) (List.mem_of_getElem? (i := 56) rfl)), trivial⟩ (pS hK hN hP hD [2] rfl rfl) rfl rfl hl.1 rfl (lv_room (Nat.le_of_ble_eq_true rfl)) dX0_lendFavours_80 ⟨Nat.zero_le _, Nat.zero_le _⟩) hP hD hS hA [2] rfl rfl (ws' := (wB cA adB (setA u11 2 u13))) rfl (fun H locs hP hD hS => ?_)
            refine lv_aload_n hx hb dX0_lendFavours_83 rfl (lv_at hl 0 rfl) ?_
            refine va_get (D := D) (ci := 0) (v := .ref (adB 1)) (C := RX0) (T := TX0) (N := 13) hx hb hts iw_X0_lendFavours_X0 hown hK hP 0 rfl rfl 0 (by decide) (hts (.fieldLink RX0 9 "FavourRings$Bank" "numbers" "[I") (List.mem_of_getElem? (i := 5) rfl)) (fun _ h9 => h9) rfl dX0_lendFavours_84 ?_
            refine lv_iconst (v := (4 : Int32)) hx hb dX0_lendFavours_87 (by decide) ?_
            refine lv_iload hx hb dX0_lendFavours_88 (lv_at hl 4 rfl) ?_
            obtain ⟨u14, eu14, h⟩ := bd_in h
            refine kV (va_runSN (As := [.ref (adB 1), .int (4 : Int32), .int p4]) (rest := []) ⟨hx, hb, hml, hown, hts⟩ (c_X4_add l D cA cQ (adB 1) 26 (u11 1) (4 : Int32) p4 u14 eu14 _) ⟨va_cnB 3 hts gX0_lendFavours_X4_add_n86 rfl rfl rfl hN.2.2.2.2.1 (hts (.initialized RX4) (List.mem_of_getElem? (i := 20) rfl)) (by decide +kernel) ⟨Nat.le_of_ble_eq_true rfl, Nat.le_of_ble_eq_true rfl⟩, (hts (.static yX4_add) (List.mem_of_getElem? (i := 56) rfl)), trivial⟩ (pS hK hN hP hD [1] rfl rfl) rfl rfl hl.1 rfl (lv_room (Nat.le_of_ble_eq_true rfl)) dX0_lendFavours_90 ⟨Nat.zero_le _, Nat.zero_le _⟩) hP hD hS hA [1] rfl rfl (ws' := (wB cA adB (setA (setA u11 2 u13) 1 u14))) rfl (fun H locs hP hD hS => ?_)
            refine lv_aload_n hx hb dX0_lendFavours_93 rfl (lv_at hl 0 rfl) ?_
            refine lv_iload_n hx hb dX0_lendFavours_94 rfl (lv_at hl 1 rfl) ?_
            refine lv_iload_n hx hb dX0_lendFavours_95 rfl (lv_at hl 2 rfl) ?_
            refine lv_iload_n hx hb dX0_lendFavours_96 rfl (lv_at hl 3 rfl) ?_
            obtain ⟨u15, eu15, h⟩ := bd_in h
            refine kI (va_runV (As := [.int p1, .int p2, .int p3]) (rest := []) ⟨hx, hb, hml, hown, hts⟩ (c_X0_sumOwed l D cA cQ adB (setA (setA u11 2 u13) 1 u14) p1 p2 p3 u15 eu15 _) (cwV 3 hts gX0_lendFavours_X0_sumOwed rfl rfl rfl (by decide +kernel) ⟨Nat.le_of_ble_eq_true rfl, Nat.le_of_ble_eq_true rfl⟩) (pV (ci := 0) (q := (RX0, TX0, 13)) hK hN hP hD [0, 1, 2, 3, 4, 5, 6, 7, 8, 9, 10, 11, 12, 13] rfl rfl rfl rfl) rfl rfl hl.1 rfl (lv_room (Nat.le_of_ble_eq_true rfl)) dX0_lendFavours_97 ⟨Nat.zero_le _, Nat.zero_le _⟩) hP hD hS hA [0, 1, 2, 3, 4, 5, 6, 7, 8, 9, 10, 11, 12, 13] rfl rfl (ws' := (wB cA adB (setA (setA u11 2 u13) 1 u14))) rfl (fun H locs hP hD hS => ?_)
            cases h
            exact endI hx hb hr hlocks hP hS rfl dX0_lendFavours_100
          · have h := (if_neg c10).symm.trans h
            refine lv_ldc (v := (-1000003 : Int32)) hx hb hown (hts (.constant RX0 85 (-1000003)) (List.mem_of_getElem? (i := 3) rfl)) dX0_lendFavours_50 ?_
            cases h
            exact endI hx hb hr hlocks hP hS rfl dX0_lendFavours_52
        · have h := (if_neg c8).symm.trans h
          refine lv_ldc (v := (-1000002 : Int32)) hx hb hown (hts (.constant RX0 125 (-1000002)) (List.mem_of_getElem? (i := 2) rfl)) dX0_lendFavours_37 ?_
          cases h
          exact endI hx hb hr hlocks hP hS rfl dX0_lendFavours_39
      · have h := (if_pos c6).symm.trans h
        refine lv_ldc (v := (-1000001 : Int32)) hx hb hown (hts (.constant RX0 93 (-1000001)) (List.mem_of_getElem? (i := 1) rfl)) dX0_lendFavours_24 ?_
        cases h
        exact endI hx hb hr hlocks hP hS rfl dX0_lendFavours_26
set_option maxHeartbeats 4000000 in
set_option maxRecDepth 100000 in
theorem c_X0_rankOf (l : Launch) (D : va_G) (cA cQ : ClassId) (adB : Nat → Nat) (vB : St) (p1 : Int32) (o : Int32) (hf : X0_rankOf vB p1 = some o) : Cti l yX0_rankOf wsX0_rankOf ({ frames := 3, cells := 0, slots := 0, locals := 70 }) D (TY cA cQ) [.ref (adB 0), .int p1] (wB cA adB vB) (wB cA adB vB) o := by
  refine Wk.i (cc := cX0_rankOf) (maxL := 6) (ret := (some .int)) (by decide) rfl (Nat.le_of_ble_eq_true rfl) ?_
  intro p e s m below meth c A ls hx hb hr hlocks hml hown hts hK hN hP hD hA hl
  have hown : s.vm.findClass RX0 = some m.cls := hown
  have hS : va_S A s.heap s.heap [] := va_S.rf
  have hl : lv_has ls 6 [(0, .ref (adB 0)), (1, .int p1)] := hl
  have B11 : ∀ (fu11 : Nat) (x2 : Int32) (x3 : Int32) (x4 : Int32) (H : Heap) (locs : List Loc) (ls : Array Slot), X0_rankOf_l11 vB p1 fu11 x2 x3 x4 = some o → va_P D vwCl (wB cA adB vB) H → va_D A (wB cA adB vB) → va_S A s.heap H locs → lv_has ls 6 [(0, .ref (adB 0)), (1, .int p1), (2, .int x2), (3, .int x3), (4, .int x4)] → W p l e (headSpec wsX0_rankOf ({ frames := 3, cells := 0, slots := 0, locals := 70 })).room s m ([.ref (adB 0), .int p1] : List Value).toArray below meth c H locs 0 0 (MQ below (QI D (wB cA adB vB) o A) ([.ref (adB 0), .int p1] : List Value).toArray s 0 0 A) (F0 m 11 ls []) := by
    intro fu11
    induction fu11 with
    | zero =>
      intro x2 x3 x4 H locs ls h hP hD hS hl
      cases h
    | succ fu11 ih11 =>
      intro x2 x3 x4 H locs ls h hP hD hS hl
      rw [X0_rankOf_l11] at h
      refine lv_iload hx hb dX0_rankOf_11 (lv_at hl 4 rfl) ?_
      refine lv_aload_n hx hb dX0_rankOf_13 rfl (lv_at hl 0 rfl) ?_
      refine lv_iconst (v := (1 : Int32)) hx hb dX0_rankOf_14 (by decide) ?_
      obtain ⟨u1, eu1, h⟩ := bd_in h
      refine kI (va_runV (As := [.int (1 : Int32)]) (rest := [.int x4]) ⟨hx, hb, hml, hown, hts⟩ (c_X0_number l D cA cQ adB vB (1 : Int32) u1 eu1 _) (cwV 1 hts gX0_rankOf_X0_number rfl rfl rfl (by decide +kernel) ⟨Nat.le_of_ble_eq_true rfl, Nat.le_of_ble_eq_true rfl⟩) (pV (ci := 0) (q := (RX0, TX0, 13)) hK hN hP hD [0, 1, 2, 3, 4, 5, 6, 7, 8, 9, 10, 11, 12, 13] rfl rfl rfl rfl) rfl rfl hl.1 rfl (lv_room (Nat.le_of_ble_eq_true rfl)) dX0_rankOf_15 ⟨Nat.zero_le _, Nat.zero_le _⟩) hP hD hS hA [0, 1, 2, 3, 4, 5, 6, 7, 8, 9, 10, 11, 12, 13] rfl rfl (ws' := (wB cA adB vB)) rfl (fun H locs hP hD hS => ?_)
      refine lv_icmp_ge (tgt := 56) hx hb dX0_rankOf_18 (by decide) (fun c2 => ?_) (fun c2 => ?_)
      · have h := (if_pos c2).symm.trans h
        refine lv_iload_n hx hb dX0_rankOf_56 rfl (lv_at hl 3 rfl) ?_
        cases h
        exact endI hx hb hr hlocks hP hS rfl dX0_rankOf_57
      · have h := (if_neg c2).symm.trans h
        refine lv_aload_n hx hb dX0_rankOf_21 rfl (lv_at hl 0 rfl) ?_
        refine lv_iload hx hb dX0_rankOf_22 (lv_at hl 4 rfl) ?_
        obtain ⟨u3, eu3, h⟩ := bd_in h
        refine kI (va_runV (As := [.int x4]) (rest := []) ⟨hx, hb, hml, hown, hts⟩ (c_X0_balanceByLots l D cA cQ adB vB x4 u3 eu3 _) (cwV 1 hts gX0_rankOf_X0_balanceByLots rfl rfl rfl (by decide +kernel) ⟨Nat.le_of_ble_eq_true rfl, Nat.le_of_ble_eq_true rfl⟩) (pV (ci := 0) (q := (RX0, TX0, 13)) hK hN hP hD [0, 1, 2, 3, 4, 5, 6, 7, 8, 9, 10, 11, 12, 13] rfl rfl rfl rfl) rfl rfl hl.1 rfl (lv_room (Nat.le_of_ble_eq_true rfl)) dX0_rankOf_24 ⟨Nat.zero_le _, Nat.zero_le _⟩) hP hD hS hA [0, 1, 2, 3, 4, 5, 6, 7, 8, 9, 10, 11, 12, 13] rfl rfl (ws' := (wB cA adB vB)) rfl (fun H locs hP hD hS => ?_)
        refine lv_istore (lv' := [(5, .int u3), (0, .ref (adB 0)), (1, .int p1), (2, .int x2), (3, .int x3), (4, .int x4)]) hx hb dX0_rankOf_27 hl (by decide) rfl (fun ls hl => ?_)
        refine lv_iload hx hb dX0_rankOf_29 (lv_at hl 0 rfl) ?_
        refine lv_iload_n hx hb dX0_rankOf_31 rfl (lv_at hl 3 rfl) ?_
        refine lv_icmp_gt (tgt := 47) hx hb dX0_rankOf_32 (by decide) (fun c4 => ?_) (fun c4 => ?_)
        · have h := (if_pos c4).symm.trans h
          refine lv_iinc (v := (x3 + (1 : Int32))) (lv' := [(3, .int (x3 + (1 : Int32))), (5, .int u3), (0, .ref (adB 0)), (1, .int p1), (2, .int x2), (4, .int x4)]) hx hb dX0_rankOf_47 hl (k := 4) rfl rfl (by decide) rfl (fun ls hl => ?_)
          refine lv_iinc (v := (x4 + (1 : Int32))) (lv' := [(4, .int (x4 + (1 : Int32))), (3, .int (x3 + (1 : Int32))), (5, .int u3), (0, .ref (adB 0)), (1, .int p1), (2, .int x2)]) hx hb dX0_rankOf_50 hl (k := 5) rfl rfl (by decide) rfl (fun ls hl => ?_)
          refine lv_goto (tgt := 11) hx hb dX0_rankOf_53 (by decide) ?_
          exact ih11 x2 (x3 + (1 : Int32)) (x4 + (1 : Int32)) _ _ _ h hP hD hS (lv_sub hl [3, 4, 5, 1, 0] rfl)
        · have h := (if_neg c4).symm.trans h
          refine lv_iload hx hb dX0_rankOf_35 (lv_at hl 0 rfl) ?_
          refine lv_iload_n hx hb dX0_rankOf_37 rfl (lv_at hl 3 rfl) ?_
          refine lv_icmp_ne (tgt := 50) hx hb dX0_rankOf_38 (by decide) (fun c5 => ?_) (fun c5 => ?_)
          · have h := (if_neg c5).symm.trans h
            refine lv_iinc (v := (x4 + (1 : Int32))) (lv' := [(4, .int (x4 + (1 : Int32))), (5, .int u3), (0, .ref (adB 0)), (1, .int p1), (2, .int x2), (3, .int x3)]) hx hb dX0_rankOf_50 hl (k := 5) rfl rfl (by decide) rfl (fun ls hl => ?_)
            refine lv_goto (tgt := 11) hx hb dX0_rankOf_53 (by decide) ?_
            exact ih11 x2 x3 (x4 + (1 : Int32)) _ _ _ h hP hD hS (lv_sub hl [2, 3, 4, 5, 0] rfl)
          · have h := (if_pos c5).symm.trans h
            refine lv_iload hx hb dX0_rankOf_41 (lv_at hl 5 rfl) ?_
            refine lv_iload_n hx hb dX0_rankOf_43 rfl (lv_at hl 2 rfl) ?_
            refine lv_icmp_ge (tgt := 50) hx hb dX0_rankOf_44 (by decide) (fun c6 => ?_) (fun c6 => ?_)
            · have h := (if_pos c6).symm.trans h
              refine lv_iinc (v := (x4 + (1 : Int32))) (lv' := [(4, .int (x4 + (1 : Int32))), (5, .int u3), (0, .ref (adB 0)), (1, .int p1), (2, .int x2), (3, .int x3)]) hx hb dX0_rankOf_50 hl (k := 5) rfl rfl (by decide) rfl (fun ls hl => ?_)
              refine lv_goto (tgt := 11) hx hb dX0_rankOf_53 (by decide) ?_
              exact ih11 x2 x3 (x4 + (1 : Int32)) _ _ _ h hP hD hS (lv_sub hl [2, 3, 4, 5, 0] rfl)
            · have h := (if_neg c6).symm.trans h
              refine lv_iinc (v := (x3 + (1 : Int32))) (lv' := [(3, .int (x3 + (1 : Int32))), (5, .int u3), (0, .ref (adB 0)), (1, .int p1), (2, .int x2), (4, .int x4)]) hx hb dX0_rankOf_47 hl (k := 4) rfl rfl (by decide) rfl (fun ls hl => ?_)
              refine lv_iinc (v := (x4 + (1 : Int32))) (lv' := [(4, .int (x4 + (1 : Int32))), (3, .int (x3 + (1 : Int32))), (5, .int u3), (0, .ref (adB 0)), (1, .int p1), (2, .int x2)]) hx hb dX0_rankOf_50 hl (k := 5) rfl rfl (by decide) rfl (fun ls hl => ?_)
              refine lv_goto (tgt := 11) hx hb dX0_rankOf_53 (by decide) ?_
              exact ih11 x2 (x3 + (1 : Int32)) (x4 + (1 : Int32)) _ _ _ h hP hD hS (lv_sub hl [3, 4, 5, 1, 0] rfl)
  have h := hf
  unfold X0_rankOf at h
  refine lv_aload_n hx hb dX0_rankOf_0 rfl (lv_at hl 0 rfl) ?_
  refine lv_iload_n hx hb dX0_rankOf_1 rfl (lv_at hl 1 rfl) ?_
  obtain ⟨u7, eu7, h⟩ := bd_in h
  refine kI (va_runV (As := [.int p1]) (rest := []) ⟨hx, hb, hml, hown, hts⟩ (c_X0_balanceByLots l D cA cQ adB vB p1 u7 eu7 _) (cwV 1 hts gX0_rankOf_X0_balanceByLots rfl rfl rfl (by decide +kernel) ⟨Nat.le_of_ble_eq_true rfl, Nat.le_of_ble_eq_true rfl⟩) (pV (ci := 0) (q := (RX0, TX0, 13)) hK hN hP hD [0, 1, 2, 3, 4, 5, 6, 7, 8, 9, 10, 11, 12, 13] rfl rfl rfl rfl) rfl rfl hl.1 rfl (lv_room (Nat.le_of_ble_eq_true rfl)) dX0_rankOf_2 ⟨Nat.zero_le _, Nat.zero_le _⟩) hP hD hS hA [0, 1, 2, 3, 4, 5, 6, 7, 8, 9, 10, 11, 12, 13] rfl rfl (ws' := (wB cA adB vB)) rfl (fun H locs hP hD hS => ?_)
  refine lv_istore_n (lv' := [(2, .int u7), (0, .ref (adB 0)), (1, .int p1)]) hx hb dX0_rankOf_5 rfl hl (by decide) rfl (fun ls hl => ?_)
  refine lv_iconst (v := (0 : Int32)) hx hb dX0_rankOf_6 (by decide) ?_
  refine lv_istore_n (lv' := [(3, .int (0 : Int32)), (2, .int u7), (0, .ref (adB 0)), (1, .int p1)]) hx hb dX0_rankOf_7 rfl hl (by decide) rfl (fun ls hl => ?_)
  refine lv_iconst (v := (0 : Int32)) hx hb dX0_rankOf_8 (by decide) ?_
  refine lv_istore (lv' := [(4, .int (0 : Int32)), (3, .int (0 : Int32)), (2, .int u7), (0, .ref (adB 0)), (1, .int p1)]) hx hb dX0_rankOf_9 hl (by decide) rfl (fun ls hl => ?_)
  exact B11 FU u7 (0 : Int32) (0 : Int32) _ _ _ h hP hD hS (lv_sub hl [3, 4, 2, 1, 0] rfl)
set_option maxHeartbeats 4000000 in
set_option maxRecDepth 100000 in
theorem c_X0_setWithoutGuarantor (l : Launch) (D : va_G) (cA cQ : ClassId) (adB : Nat → Nat) (vB : St) (o : Int32) (hf : X0_setWithoutGuarantor vB = some o) : Cti l yX0_setWithoutGuarantor wsX0_setWithoutGuarantor ({ frames := 1, cells := 0, slots := 0, locals := 21 }) D (TY cA cQ) [.ref (adB 0)] (wB cA adB vB) (wB cA adB vB) o := by
  refine Wk.i (cc := cX0_setWithoutGuarantor) (maxL := 3) (ret := (some .int)) (by decide) rfl (Nat.le_of_ble_eq_true rfl) ?_
  intro p e s m below meth c A ls hx hb hr hlocks hml hown hts hK hN hP hD hA hl
  have hown : s.vm.findClass RX0 = some m.cls := hown
  have hS : va_S A s.heap s.heap [] := va_S.rf
  have hl : lv_has ls 3 [(0, .ref (adB 0))] := hl
  have B4 : ∀ (fu4 : Nat) (x1 : Int32) (x2 : Int32) (H : Heap) (locs : List Loc) (ls : Array Slot), X0_setWithoutGuarantor_l4 vB fu4 x1 x2 = some o → va_P D vwCl (wB cA adB vB) H → va_D A (wB cA adB vB) → va_S A s.heap H locs → lv_has ls 3 [(0, .ref (adB 0)), (1, .int x1), (2, .int x2)] → W p l e (headSpec wsX0_setWithoutGuarantor ({ frames := 1, cells := 0, slots := 0, locals := 21 })).room s m ([.ref (adB 0)] : List Value).toArray below meth c H locs 0 0 (MQ below (QI D (wB cA adB vB) o A) ([.ref (adB 0)] : List Value).toArray s 0 0 A) (F0 m 4 ls []) := by
    intro fu4
    induction fu4 with
    | zero =>
      intro x1 x2 H locs ls h hP hD hS hl
      cases h
    | succ fu4 ih4 =>
      intro x1 x2 H locs ls h hP hD hS hl
      rw [X0_setWithoutGuarantor_l4] at h
      refine lv_iload_n hx hb dX0_setWithoutGuarantor_4 rfl (lv_at hl 2 rfl) ?_
      refine lv_aload_n hx hb dX0_setWithoutGuarantor_5 rfl (lv_at hl 0 rfl) ?_
      refine lv_iconst (v := (1 : Int32)) hx hb dX0_setWithoutGuarantor_6 (by decide) ?_
      obtain ⟨u1, eu1, h⟩ := bd_in h
      refine kI (va_runV (As := [.int (1 : Int32)]) (rest := [.int x2]) ⟨hx, hb, hml, hown, hts⟩ (c_X0_number l D cA cQ adB vB (1 : Int32) u1 eu1 _) (cwV 1 hts gX0_setWithoutGuarantor_X0_number rfl rfl rfl (by decide +kernel) ⟨Nat.le_of_ble_eq_true rfl, Nat.le_of_ble_eq_true rfl⟩) (pV (ci := 0) (q := (RX0, TX0, 13)) hK hN hP hD [0, 1, 2, 3, 4, 5, 6, 7, 8, 9, 10, 11, 12, 13] rfl rfl rfl rfl) rfl rfl hl.1 rfl (lv_room (Nat.le_of_ble_eq_true rfl)) dX0_setWithoutGuarantor_7 ⟨Nat.zero_le _, Nat.zero_le _⟩) hP hD hS hA [0, 1, 2, 3, 4, 5, 6, 7, 8, 9, 10, 11, 12, 13] rfl rfl (ws' := (wB cA adB vB)) rfl (fun H locs hP hD hS => ?_)
      refine lv_icmp_ge (tgt := 33) hx hb dX0_setWithoutGuarantor_10 (by decide) (fun c2 => ?_) (fun c2 => ?_)
      · have h := (if_pos c2).symm.trans h
        refine lv_iload_n hx hb dX0_setWithoutGuarantor_33 rfl (lv_at hl 1 rfl) ?_
        cases h
        exact endI hx hb hr hlocks hP hS rfl dX0_setWithoutGuarantor_34
      · have h := (if_neg c2).symm.trans h
        refine lv_aload_n hx hb dX0_setWithoutGuarantor_13 rfl (lv_at hl 0 rfl) ?_
        refine lv_iload_n hx hb dX0_setWithoutGuarantor_14 rfl (lv_at hl 2 rfl) ?_
        obtain ⟨u3, eu3, h⟩ := bd_in h
        refine kI (va_runV (As := [.int x2]) (rest := []) ⟨hx, hb, hml, hown, hts⟩ (c_X0_guarantorOf l D cA cQ adB vB x2 u3 eu3 _) (cwV 1 hts gX0_setWithoutGuarantor_X0_guarantorOf rfl rfl rfl (by decide +kernel) ⟨Nat.le_of_ble_eq_true rfl, Nat.le_of_ble_eq_true rfl⟩) (pV (ci := 0) (q := (RX0, TX0, 13)) hK hN hP hD [0, 1, 2, 3, 4, 5, 6, 7, 8, 9, 10, 11, 12, 13] rfl rfl rfl rfl) rfl rfl hl.1 rfl (lv_room (Nat.le_of_ble_eq_true rfl)) dX0_setWithoutGuarantor_15 ⟨Nat.zero_le _, Nat.zero_le _⟩) hP hD hS hA [0, 1, 2, 3, 4, 5, 6, 7, 8, 9, 10, 11, 12, 13] rfl rfl (ws' := (wB cA adB vB)) rfl (fun H locs hP hD hS => ?_)
        refine lv_if_ge (tgt := 27) hx hb dX0_setWithoutGuarantor_18 (by decide) (fun c4 => ?_) (fun c4 => ?_)
        · have h := (if_pos c4).symm.trans h
          refine lv_iinc (v := (x2 + (1 : Int32))) (lv' := [(2, .int (x2 + (1 : Int32))), (0, .ref (adB 0)), (1, .int x1)]) hx hb dX0_setWithoutGuarantor_27 hl (k := 2) rfl rfl (by decide) rfl (fun ls hl => ?_)
          refine lv_goto (tgt := 4) hx hb dX0_setWithoutGuarantor_30 (by decide) ?_
          exact ih4 x1 (x2 + (1 : Int32)) _ _ _ h hP hD hS (lv_sub hl [1, 2, 0] rfl)
        · have h := (if_neg c4).symm.trans h
          refine lv_iload_n hx hb dX0_setWithoutGuarantor_21 rfl (lv_at hl 1 rfl) ?_
          refine lv_iconst (v := (1 : Int32)) hx hb dX0_setWithoutGuarantor_22 (by decide) ?_
          refine lv_iload_n hx hb dX0_setWithoutGuarantor_23 rfl (lv_at hl 2 rfl) ?_
          refine lv_ishl hx hb dX0_setWithoutGuarantor_24 ?_
          refine lv_ior hx hb dX0_setWithoutGuarantor_25 ?_
          refine lv_istore_n (lv' := [(1, .int (x1 ||| ((1 : Int32) <<< (x2 &&& 31)))), (0, .ref (adB 0)), (2, .int x2)]) hx hb dX0_setWithoutGuarantor_26 rfl hl (by decide) rfl (fun ls hl => ?_)
          refine lv_iinc (v := (x2 + (1 : Int32))) (lv' := [(2, .int (x2 + (1 : Int32))), (1, .int (x1 ||| ((1 : Int32) <<< (x2 &&& 31)))), (0, .ref (adB 0))]) hx hb dX0_setWithoutGuarantor_27 hl (k := 2) rfl rfl (by decide) rfl (fun ls hl => ?_)
          refine lv_goto (tgt := 4) hx hb dX0_setWithoutGuarantor_30 (by decide) ?_
          exact ih4 (x1 ||| ((1 : Int32) <<< (x2 &&& 31))) (x2 + (1 : Int32)) _ _ _ h hP hD hS (lv_sub hl [2, 1, 0] rfl)
  have h := hf
  unfold X0_setWithoutGuarantor at h
  refine lv_iconst (v := (0 : Int32)) hx hb dX0_setWithoutGuarantor_0 (by decide) ?_
  refine lv_istore_n (lv' := [(1, .int (0 : Int32)), (0, .ref (adB 0))]) hx hb dX0_setWithoutGuarantor_1 rfl hl (by decide) rfl (fun ls hl => ?_)
  refine lv_iconst (v := (0 : Int32)) hx hb dX0_setWithoutGuarantor_2 (by decide) ?_
  refine lv_istore_n (lv' := [(2, .int (0 : Int32)), (1, .int (0 : Int32)), (0, .ref (adB 0))]) hx hb dX0_setWithoutGuarantor_3 rfl hl (by decide) rfl (fun ls hl => ?_)
  exact B4 FU (0 : Int32) (0 : Int32) _ _ _ h hP hD hS (lv_sub hl [2, 1, 0] rfl)
theorem iw_X0_sumOfAges_X0 : ∀ w ∈ wsX00, w ∈ wsX0_sumOfAges := fun _ h => List.mem_cons_of_mem _ (List.mem_append_right _ (h))
set_option maxHeartbeats 4000000 in
set_option maxRecDepth 100000 in
theorem c_X0_sumOfAges (l : Launch) (D : va_G) (cA cQ : ClassId) (adB : Nat → Nat) (vB : St) (o : Int32) (hf : X0_sumOfAges vB = some o) : Cti l yX0_sumOfAges wsX0_sumOfAges ({ frames := 1, cells := 0, slots := 0, locals := 21 }) D (TY cA cQ) [.ref (adB 0)] (wB cA adB vB) (wB cA adB vB) o := by
  refine Wk.i (cc := cX0_sumOfAges) (maxL := 3) (ret := (some .int)) (by decide) rfl (Nat.le_of_ble_eq_true rfl) ?_
  intro p e s m below meth c A ls hx hb hr hlocks hml hown hts hK hN hP hD hA hl
  have hown : s.vm.findClass RX0 = some m.cls := hown
  have hS : va_S A s.heap s.heap [] := va_S.rf
  have hl : lv_has ls 3 [(0, .ref (adB 0))] := hl
  have B4 : ∀ (fu4 : Nat) (x1 : Int32) (x2 : Int32) (H : Heap) (locs : List Loc) (ls : Array Slot), X0_sumOfAges_l4 vB fu4 x1 x2 = some o → va_P D vwCl (wB cA adB vB) H → va_D A (wB cA adB vB) → va_S A s.heap H locs → lv_has ls 3 [(0, .ref (adB 0)), (1, .int x1), (2, .int x2)] → W p l e (headSpec wsX0_sumOfAges ({ frames := 1, cells := 0, slots := 0, locals := 21 })).room s m ([.ref (adB 0)] : List Value).toArray below meth c H locs 0 0 (MQ below (QI D (wB cA adB vB) o A) ([.ref (adB 0)] : List Value).toArray s 0 0 A) (F0 m 4 ls []) := by
    intro fu4
    induction fu4 with
    | zero =>
      intro x1 x2 H locs ls h hP hD hS hl
      cases h
    | succ fu4 ih4 =>
      intro x1 x2 H locs ls h hP hD hS hl
      rw [X0_sumOfAges_l4] at h
      refine lv_iload_n hx hb dX0_sumOfAges_4 rfl (lv_at hl 2 rfl) ?_
      refine lv_aload_n hx hb dX0_sumOfAges_5 rfl (lv_at hl 0 rfl) ?_
      refine lv_iconst (v := (2 : Int32)) hx hb dX0_sumOfAges_6 (by decide) ?_
      obtain ⟨u1, eu1, h⟩ := bd_in h
      refine kI (va_runV (As := [.int (2 : Int32)]) (rest := [.int x2]) ⟨hx, hb, hml, hown, hts⟩ (c_X0_number l D cA cQ adB vB (2 : Int32) u1 eu1 _) (cwV 1 hts gX0_sumOfAges_X0_number rfl rfl rfl (by decide +kernel) ⟨Nat.le_of_ble_eq_true rfl, Nat.le_of_ble_eq_true rfl⟩) (pV (ci := 0) (q := (RX0, TX0, 13)) hK hN hP hD [0, 1, 2, 3, 4, 5, 6, 7, 8, 9, 10, 11, 12, 13] rfl rfl rfl rfl) rfl rfl hl.1 rfl (lv_room (Nat.le_of_ble_eq_true rfl)) dX0_sumOfAges_7 ⟨Nat.zero_le _, Nat.zero_le _⟩) hP hD hS hA [0, 1, 2, 3, 4, 5, 6, 7, 8, 9, 10, 11, 12, 13] rfl rfl (ws' := (wB cA adB vB)) rfl (fun H locs hP hD hS => ?_)
      refine lv_icmp_ge (tgt := 39) hx hb dX0_sumOfAges_10 (by decide) (fun c2 => ?_) (fun c2 => ?_)
      · have h := (if_pos c2).symm.trans h
        refine lv_iload_n hx hb dX0_sumOfAges_39 rfl (lv_at hl 1 rfl) ?_
        cases h
        exact endI hx hb hr hlocks hP hS rfl dX0_sumOfAges_40
      · have h := (if_neg c2).symm.trans h
        refine lv_iload_n hx hb dX0_sumOfAges_13 rfl (lv_at hl 1 rfl) ?_
        refine lv_aload_n hx hb dX0_sumOfAges_14 rfl (lv_at hl 0 rfl) ?_
        refine va_get (D := D) (ci := 0) (v := .ref (adB 11)) (C := RX0) (T := TX0) (N := 13) hx hb hts iw_X0_sumOfAges_X0 hown hK hP 0 rfl rfl 10 (by decide) (hts (.fieldLink RX0 42 "FavourRings$Bank" "sizes" "[I") (List.mem_of_getElem? (i := 1) rfl)) (fun _ h9 => h9) rfl dX0_sumOfAges_15 ?_
        refine lv_iload_n hx hb dX0_sumOfAges_18 rfl (lv_at hl 2 rfl) ?_
        obtain ⟨u3, eu3, h⟩ := bd_in h
        refine kI (va_runSN (As := [.ref (adB 11), .int x2]) (rest := [.int x1]) ⟨hx, hb, hml, hown, hts⟩ (c_X4_at l D cA cQ (adB 11) 40 (vB 11) x2 u3 eu3 _) ⟨va_cnB 2 hts gX0_sumOfAges_X4_at_n77 rfl rfl rfl hN.2.2.2.1 (hts (.initialized RX4) (List.mem_of_getElem? (i := 10) rfl)) (by decide +kernel) ⟨Nat.le_of_ble_eq_true rfl, Nat.le_of_ble_eq_true rfl⟩, (hts (.static yX4_at) (List.mem_of_getElem? (i := 9) rfl)), trivial⟩ (pS hK hN hP hD [11] rfl rfl) rfl rfl hl.1 rfl (lv_room (Nat.le_of_ble_eq_true rfl)) dX0_sumOfAges_19 ⟨Nat.zero_le _, Nat.zero_le _⟩) hP hD hS hA [11] rfl rfl (ws' := (wB cA adB vB)) rfl (fun H locs hP hD hS => ?_)
        refine lv_aload_n hx hb dX0_sumOfAges_22 rfl (lv_at hl 0 rfl) ?_
        refine va_get (D := D) (ci := 0) (v := .ref (adB 12)) (C := RX0) (T := TX0) (N := 13) hx hb hts iw_X0_sumOfAges_X0 hown hK hP 0 rfl rfl 11 (by decide) (hts (.fieldLink RX0 45 "FavourRings$Bank" "ages" "[I") (List.mem_of_getElem? (i := 2) rfl)) (fun _ h9 => h9) rfl dX0_sumOfAges_23 ?_
        refine lv_iload_n hx hb dX0_sumOfAges_26 rfl (lv_at hl 2 rfl) ?_
        obtain ⟨u4, eu4, h⟩ := bd_in h
        refine kI (va_runSN (As := [.ref (adB 12), .int x2]) (rest := [.int u3, .int x1]) ⟨hx, hb, hml, hown, hts⟩ (c_X4_at l D cA cQ (adB 12) 40 (vB 12) x2 u4 eu4 _) ⟨va_cnB 2 hts gX0_sumOfAges_X4_at_n77 rfl rfl rfl hN.2.2.2.1 (hts (.initialized RX4) (List.mem_of_getElem? (i := 10) rfl)) (by decide +kernel) ⟨Nat.le_of_ble_eq_true rfl, Nat.le_of_ble_eq_true rfl⟩, (hts (.static yX4_at) (List.mem_of_getElem? (i := 9) rfl)), trivial⟩ (pS hK hN hP hD [12] rfl rfl) rfl rfl hl.1 rfl (lv_room (Nat.le_of_ble_eq_true rfl)) dX0_sumOfAges_27 ⟨Nat.zero_le _, Nat.zero_le _⟩) hP hD hS hA [12] rfl rfl (ws' := (wB cA adB vB)) rfl (fun H locs hP hD hS => ?_)
        refine lv_imul hx hb dX0_sumOfAges_30 ?_
        refine lv_iadd hx hb dX0_sumOfAges_31 ?_
        refine lv_istore_n (lv' := [(1, .int (x1 + (u3 * u4))), (0, .ref (adB 0)), (2, .int x2)]) hx hb dX0_sumOfAges_32 rfl hl (by decide) rfl (fun ls hl => ?_)
        refine lv_iinc (v := (x2 + (1 : Int32))) (lv' := [(2, .int (x2 + (1 : Int32))), (1, .int (x1 + (u3 * u4))), (0, .ref (adB 0))]) hx hb dX0_sumOfAges_33 hl (k := 2) rfl rfl (by decide) rfl (fun ls hl => ?_)
        refine lv_goto (tgt := 4) hx hb dX0_sumOfAges_36 (by decide) ?_
        exact ih4 (x1 + (u3 * u4)) (x2 + (1 : Int32)) _ _ _ h hP hD hS (lv_sub hl [2, 1, 0] rfl)
  have h := hf
  unfold X0_sumOfAges at h
  refine lv_iconst (v := (0 : Int32)) hx hb dX0_sumOfAges_0 (by decide) ?_
  refine lv_istore_n (lv' := [(1, .int (0 : Int32)), (0, .ref (adB 0))]) hx hb dX0_sumOfAges_1 rfl hl (by decide) rfl (fun ls hl => ?_)
  refine lv_iconst (v := (0 : Int32)) hx hb dX0_sumOfAges_2 (by decide) ?_
  refine lv_istore_n (lv' := [(2, .int (0 : Int32)), (1, .int (0 : Int32)), (0, .ref (adB 0))]) hx hb dX0_sumOfAges_3 rfl hl (by decide) rfl (fun ls hl => ?_)
  exact B4 FU (0 : Int32) (0 : Int32) _ _ _ h hP hD hS (lv_sub hl [2, 1, 0] rfl)
theorem iw_X0_tellOfLot_X0 : ∀ w ∈ wsX00, w ∈ wsX0_tellOfLot := fun _ h => List.mem_cons_of_mem _ (List.mem_append_right _ (h))
set_option maxHeartbeats 4000000 in
set_option maxRecDepth 100000 in
theorem c_X0_tellOfLot (l : Launch) (D : va_G) (cA cQ : ClassId) (adB : Nat → Nat) (vB : St) (p1 : Int32) (p2 : Int32) (o : Int32) (hf : X0_tellOfLot vB p1 p2 = some o) : Cti l yX0_tellOfLot wsX0_tellOfLot ({ frames := 1, cells := 0, slots := 0, locals := 21 }) D (TY cA cQ) [.ref (adB 0), .int p1, .int p2] (wB cA adB vB) (wB cA adB vB) o := by
  refine Wk.i (cc := cX0_tellOfLot) (maxL := 3) (ret := (some .int)) (by decide) rfl (Nat.le_of_ble_eq_true rfl) ?_
  intro p e s m below meth c A ls hx hb hr hlocks hml hown hts hK hN hP hD hA hl
  have hown : s.vm.findClass RX0 = some m.cls := hown
  have hS : va_S A s.heap s.heap [] := va_S.rf
  have hl : lv_has ls 3 [(0, .ref (adB 0)), (1, .int p1), (2, .int p2)] := hl
  have h := hf
  unfold X0_tellOfLot at h
  refine lv_iload_n hx hb dX0_tellOfLot_0 rfl (lv_at hl 2 rfl) ?_
  by_cases c1 : p2 = (0 : Int32)
  · have h := (if_pos c1).symm.trans h
    refine lv_tableIn (off := 35) (tgt := 36) hx hb dX0_tellOfLot_1 (by rw [c1]; decide +kernel) (by rw [c1]; decide +kernel) (by rw [c1]; decide +kernel) (by decide) ?_
    refine lv_aload_n hx hb dX0_tellOfLot_36 rfl (lv_at hl 0 rfl) ?_
    refine va_get (D := D) (ci := 0) (v := .ref (adB 8)) (C := RX0) (T := TX0) (N := 13) hx hb hts iw_X0_tellOfLot_X0 hown hK hP 0 rfl rfl 7 (by decide) (hts (.fieldLink RX0 33 "FavourRings$Bank" "debtors" "[I") (List.mem_of_getElem? (i := 1) rfl)) (fun _ h9 => h9) rfl dX0_tellOfLot_37 ?_
    refine lv_iload_n hx hb dX0_tellOfLot_40 rfl (lv_at hl 1 rfl) ?_
    obtain ⟨u2, eu2, h⟩ := bd_in h
    refine kI (va_runSN (As := [.ref (adB 8), .int p1]) (rest := []) ⟨hx, hb, hml, hown, hts⟩ (c_X4_at l D cA cQ (adB 8) 40 (vB 8) p1 u2 eu2 _) ⟨va_cnB 2 hts gX0_tellOfLot_X4_at_n77 rfl rfl rfl hN.2.2.2.1 (hts (.initialized RX4) (List.mem_of_getElem? (i := 8) rfl)) (by decide +kernel) ⟨Nat.le_of_ble_eq_true rfl, Nat.le_of_ble_eq_true rfl⟩, (hts (.static yX4_at) (List.mem_of_getElem? (i := 7) rfl)), trivial⟩ (pS hK hN hP hD [8] rfl rfl) rfl rfl hl.1 rfl (lv_room (Nat.le_of_ble_eq_true rfl)) dX0_tellOfLot_41 ⟨Nat.zero_le _, Nat.zero_le _⟩) hP hD hS hA [8] rfl rfl (ws' := (wB cA adB vB)) rfl (fun H locs hP hD hS => ?_)
    cases h
    exact endI hx hb hr hlocks hP hS rfl dX0_tellOfLot_44
  have h := (if_neg c1).symm.trans h
  by_cases c3 : p2 = (1 : Int32)
  · have h := (if_pos c3).symm.trans h
    refine lv_tableIn (off := 44) (tgt := 45) hx hb dX0_tellOfLot_1 (by rw [c3]; decide +kernel) (by rw [c3]; decide +kernel) (by rw [c3]; decide +kernel) (by decide) ?_
    refine lv_aload_n hx hb dX0_tellOfLot_45 rfl (lv_at hl 0 rfl) ?_
    refine va_get (D := D) (ci := 0) (v := .ref (adB 9)) (C := RX0) (T := TX0) (N := 13) hx hb hts iw_X0_tellOfLot_X0 hown hK hP 0 rfl rfl 8 (by decide) (hts (.fieldLink RX0 36 "FavourRings$Bank" "creditors" "[I") (List.mem_of_getElem? (i := 2) rfl)) (fun _ h9 => h9) rfl dX0_tellOfLot_46 ?_
    refine lv_iload_n hx hb dX0_tellOfLot_49 rfl (lv_at hl 1 rfl) ?_
    obtain ⟨u4, eu4, h⟩ := bd_in h
    refine kI (va_runSN (As := [.ref (adB 9), .int p1]) (rest := []) ⟨hx, hb, hml, hown, hts⟩ (c_X4_at l D cA cQ (adB 9) 40 (vB 9) p1 u4 eu4 _) ⟨va_cnB 2 hts gX0_tellOfLot_X4_at_n77 rfl rfl rfl hN.2.2.2.1 (hts (.initialized RX4) (List.mem_of_getElem? (i := 8) rfl)) (by decide +kernel) ⟨Nat.le_of_ble_eq_true rfl, Nat.le_of_ble_eq_true rfl⟩, (hts (.static yX4_at) (List.mem_of_getElem? (i := 7) rfl)), trivial⟩ (pS hK hN hP hD [9] rfl rfl) rfl rfl hl.1 rfl (lv_room (Nat.le_of_ble_eq_true rfl)) dX0_tellOfLot_50 ⟨Nat.zero_le _, Nat.zero_le _⟩) hP hD hS hA [9] rfl rfl (ws' := (wB cA adB vB)) rfl (fun H locs hP hD hS => ?_)
    cases h
    exact endI hx hb hr hlocks hP hS rfl dX0_tellOfLot_53
  have h := (if_neg c3).symm.trans h
  by_cases c5 : p2 = (2 : Int32)
  · have h := (if_pos c5).symm.trans h
    refine lv_tableIn (off := 53) (tgt := 54) hx hb dX0_tellOfLot_1 (by rw [c5]; decide +kernel) (by rw [c5]; decide +kernel) (by rw [c5]; decide +kernel) (by decide) ?_
    refine lv_aload_n hx hb dX0_tellOfLot_54 rfl (lv_at hl 0 rfl) ?_
    refine va_get (D := D) (ci := 0) (v := .ref (adB 10)) (C := RX0) (T := TX0) (N := 13) hx hb hts iw_X0_tellOfLot_X0 hown hK hP 0 rfl rfl 9 (by decide) (hts (.fieldLink RX0 39 "FavourRings$Bank" "kinds" "[I") (List.mem_of_getElem? (i := 3) rfl)) (fun _ h9 => h9) rfl dX0_tellOfLot_55 ?_
    refine lv_iload_n hx hb dX0_tellOfLot_58 rfl (lv_at hl 1 rfl) ?_
    obtain ⟨u6, eu6, h⟩ := bd_in h
    refine kI (va_runSN (As := [.ref (adB 10), .int p1]) (rest := []) ⟨hx, hb, hml, hown, hts⟩ (c_X4_at l D cA cQ (adB 10) 40 (vB 10) p1 u6 eu6 _) ⟨va_cnB 2 hts gX0_tellOfLot_X4_at_n77 rfl rfl rfl hN.2.2.2.1 (hts (.initialized RX4) (List.mem_of_getElem? (i := 8) rfl)) (by decide +kernel) ⟨Nat.le_of_ble_eq_true rfl, Nat.le_of_ble_eq_true rfl⟩, (hts (.static yX4_at) (List.mem_of_getElem? (i := 7) rfl)), trivial⟩ (pS hK hN hP hD [10] rfl rfl) rfl rfl hl.1 rfl (lv_room (Nat.le_of_ble_eq_true rfl)) dX0_tellOfLot_59 ⟨Nat.zero_le _, Nat.zero_le _⟩) hP hD hS hA [10] rfl rfl (ws' := (wB cA adB vB)) rfl (fun H locs hP hD hS => ?_)
    cases h
    exact endI hx hb hr hlocks hP hS rfl dX0_tellOfLot_62
  have h := (if_neg c5).symm.trans h
  by_cases c7 : p2 = (3 : Int32)
  · have h := (if_pos c7).symm.trans h
    refine lv_tableIn (off := 62) (tgt := 63) hx hb dX0_tellOfLot_1 (by rw [c7]; decide +kernel) (by rw [c7]; decide +kernel) (by rw [c7]; decide +kernel) (by decide) ?_
    refine lv_aload_n hx hb dX0_tellOfLot_63 rfl (lv_at hl 0 rfl) ?_
    refine va_get (D := D) (ci := 0) (v := .ref (adB 11)) (C := RX0) (T := TX0) (N := 13) hx hb hts iw_X0_tellOfLot_X0 hown hK hP 0 rfl rfl 10 (by decide) (hts (.fieldLink RX0 42 "FavourRings$Bank" "sizes" "[I") (List.mem_of_getElem? (i := 4) rfl)) (fun _ h9 => h9) rfl dX0_tellOfLot_64 ?_
    refine lv_iload_n hx hb dX0_tellOfLot_67 rfl (lv_at hl 1 rfl) ?_
    obtain ⟨u8, eu8, h⟩ := bd_in h
    refine kI (va_runSN (As := [.ref (adB 11), .int p1]) (rest := []) ⟨hx, hb, hml, hown, hts⟩ (c_X4_at l D cA cQ (adB 11) 40 (vB 11) p1 u8 eu8 _) ⟨va_cnB 2 hts gX0_tellOfLot_X4_at_n77 rfl rfl rfl hN.2.2.2.1 (hts (.initialized RX4) (List.mem_of_getElem? (i := 8) rfl)) (by decide +kernel) ⟨Nat.le_of_ble_eq_true rfl, Nat.le_of_ble_eq_true rfl⟩, (hts (.static yX4_at) (List.mem_of_getElem? (i := 7) rfl)), trivial⟩ (pS hK hN hP hD [11] rfl rfl) rfl rfl hl.1 rfl (lv_room (Nat.le_of_ble_eq_true rfl)) dX0_tellOfLot_68 ⟨Nat.zero_le _, Nat.zero_le _⟩) hP hD hS hA [11] rfl rfl (ws' := (wB cA adB vB)) rfl (fun H locs hP hD hS => ?_)
    cases h
    exact endI hx hb hr hlocks hP hS rfl dX0_tellOfLot_71
  have h := (if_neg c7).symm.trans h
  by_cases c9 : p2 = (4 : Int32)
  · have h := (if_pos c9).symm.trans h
    refine lv_tableIn (off := 71) (tgt := 72) hx hb dX0_tellOfLot_1 (by rw [c9]; decide +kernel) (by rw [c9]; decide +kernel) (by rw [c9]; decide +kernel) (by decide) ?_
    refine lv_aload_n hx hb dX0_tellOfLot_72 rfl (lv_at hl 0 rfl) ?_
    refine va_get (D := D) (ci := 0) (v := .ref (adB 12)) (C := RX0) (T := TX0) (N := 13) hx hb hts iw_X0_tellOfLot_X0 hown hK hP 0 rfl rfl 11 (by decide) (hts (.fieldLink RX0 45 "FavourRings$Bank" "ages" "[I") (List.mem_of_getElem? (i := 5) rfl)) (fun _ h9 => h9) rfl dX0_tellOfLot_73 ?_
    refine lv_iload_n hx hb dX0_tellOfLot_76 rfl (lv_at hl 1 rfl) ?_
    obtain ⟨u10, eu10, h⟩ := bd_in h
    refine kI (va_runSN (As := [.ref (adB 12), .int p1]) (rest := []) ⟨hx, hb, hml, hown, hts⟩ (c_X4_at l D cA cQ (adB 12) 40 (vB 12) p1 u10 eu10 _) ⟨va_cnB 2 hts gX0_tellOfLot_X4_at_n77 rfl rfl rfl hN.2.2.2.1 (hts (.initialized RX4) (List.mem_of_getElem? (i := 8) rfl)) (by decide +kernel) ⟨Nat.le_of_ble_eq_true rfl, Nat.le_of_ble_eq_true rfl⟩, (hts (.static yX4_at) (List.mem_of_getElem? (i := 7) rfl)), trivial⟩ (pS hK hN hP hD [12] rfl rfl) rfl rfl hl.1 rfl (lv_room (Nat.le_of_ble_eq_true rfl)) dX0_tellOfLot_77 ⟨Nat.zero_le _, Nat.zero_le _⟩) hP hD hS hA [12] rfl rfl (ws' := (wB cA adB vB)) rfl (fun H locs hP hD hS => ?_)
    cases h
    exact endI hx hb hr hlocks hP hS rfl dX0_tellOfLot_80
  have h := (if_neg c9).symm.trans h
  have nc1 : (p2).toInt ≠ 0 := ne_toInt c1
  have nc3 : (p2).toInt ≠ 1 := ne_toInt c3
  have nc5 : (p2).toInt ≠ 2 := ne_toInt c5
  have nc7 : (p2).toInt ≠ 3 := ne_toInt c7
  have nc9 : (p2).toInt ≠ 4 := ne_toInt c9
  refine lv_tableOut (tgt := 81) hx hb dX0_tellOfLot_1 (by omega) (by decide) ?_
  refine lv_aload_n hx hb dX0_tellOfLot_81 rfl (lv_at hl 0 rfl) ?_
  refine va_get (D := D) (ci := 0) (v := .ref (adB 13)) (C := RX0) (T := TX0) (N := 13) hx hb hts iw_X0_tellOfLot_X0 hown hK hP 0 rfl rfl 12 (by decide) (hts (.fieldLink RX0 48 "FavourRings$Bank" "passed" "[I") (List.mem_of_getElem? (i := 6) rfl)) (fun _ h9 => h9) rfl dX0_tellOfLot_82 ?_
  refine lv_iload_n hx hb dX0_tellOfLot_85 rfl (lv_at hl 1 rfl) ?_
  obtain ⟨u11, eu11, h⟩ := bd_in h
  refine kI (va_runSN (As := [.ref (adB 13), .int p1]) (rest := []) ⟨hx, hb, hml, hown, hts⟩ (c_X4_at l D cA cQ (adB 13) 40 (vB 13) p1 u11 eu11 _) ⟨va_cnB 2 hts gX0_tellOfLot_X4_at_n77 rfl rfl rfl hN.2.2.2.1 (hts (.initialized RX4) (List.mem_of_getElem? (i := 8) rfl)) (by decide +kernel) ⟨Nat.le_of_ble_eq_true rfl, Nat.le_of_ble_eq_true rfl⟩, (hts (.static yX4_at) (List.mem_of_getElem? (i := 7) rfl)), trivial⟩ (pS hK hN hP hD [13] rfl rfl) rfl rfl hl.1 rfl (lv_room (Nat.le_of_ble_eq_true rfl)) dX0_tellOfLot_86 ⟨Nat.zero_le _, Nat.zero_le _⟩) hP hD hS hA [13] rfl rfl (ws' := (wB cA adB vB)) rfl (fun H locs hP hD hS => ?_)
  cases h
  exact endI hx hb hr hlocks hP hS rfl dX0_tellOfLot_89
theorem iw_X0_tellOfPupil_X0 : ∀ w ∈ wsX00, w ∈ wsX0_tellOfPupil := fun _ h => List.mem_cons_of_mem _ (List.mem_append_right _ (h))
set_option maxHeartbeats 4000000 in
set_option maxRecDepth 100000 in
theorem c_X0_tellOfPupil (l : Launch) (D : va_G) (cA cQ : ClassId) (adB : Nat → Nat) (vB : St) (p1 : Int32) (p2 : Int32) (o : Int32) (hf : X0_tellOfPupil vB p1 p2 = some o) : Cti l yX0_tellOfPupil wsX0_tellOfPupil ({ frames := 3, cells := 0, slots := 0, locals := 70 }) D (TY cA cQ) [.ref (adB 0), .int p1, .int p2] (wB cA adB vB) (wB cA adB vB) o := by
  refine Wk.i (cc := cX0_tellOfPupil) (maxL := 3) (ret := (some .int)) (by decide) rfl (Nat.le_of_ble_eq_true rfl) ?_
  intro p e s m below meth c A ls hx hb hr hlocks hml hown hts hK hN hP hD hA hl
  have hown : s.vm.findClass RX0 = some m.cls := hown
  have hS : va_S A s.heap s.heap [] := va_S.rf
  have hl : lv_has ls 3 [(0, .ref (adB 0)), (1, .int p1), (2, .int p2)] := hl
  have h := hf
  unfold X0_tellOfPupil at h
  refine lv_iload_n hx hb dX0_tellOfPupil_0 rfl (lv_at hl 2 rfl) ?_
  by_cases c1 : p2 = (0 : Int32)
  · have h := (if_pos c1).symm.trans h
    refine lv_tableIn (off := 47) (tgt := 48) hx hb dX0_tellOfPupil_1 (by rw [c1]; decide +kernel) (by rw [c1]; decide +kernel) (by rw [c1]; decide +kernel) (by decide) ?_
    refine lv_aload_n hx hb dX0_tellOfPupil_48 rfl (lv_at hl 0 rfl) ?_
    refine lv_iload_n hx hb dX0_tellOfPupil_49 rfl (lv_at hl 1 rfl) ?_
    refine lv_iconst (v := (-1 : Int32)) hx hb dX0_tellOfPupil_50 (by decide) ?_
    refine lv_iconst (v := (-1 : Int32)) hx hb dX0_tellOfPupil_51 (by decide) ?_
    obtain ⟨u2, eu2, h⟩ := bd_in h
    refine kI (va_runV (As := [.int p1, .int (-1 : Int32), .int (-1 : Int32)]) (rest := []) ⟨hx, hb, hml, hown, hts⟩ (c_X0_sumOwed l D cA cQ adB vB p1 (-1 : Int32) (-1 : Int32) u2 eu2 _) (cwV 3 hts gX0_tellOfPupil_X0_sumOwed rfl rfl rfl (by decide +kernel) ⟨Nat.le_of_ble_eq_true rfl, Nat.le_of_ble_eq_true rfl⟩) (pV (ci := 0) (q := (RX0, TX0, 13)) hK hN hP hD [0, 1, 2, 3, 4, 5, 6, 7, 8, 9, 10, 11, 12, 13] rfl rfl rfl rfl) rfl rfl hl.1 rfl (lv_room (Nat.le_of_ble_eq_true rfl)) dX0_tellOfPupil_52 ⟨Nat.zero_le _, Nat.zero_le _⟩) hP hD hS hA [0, 1, 2, 3, 4, 5, 6, 7, 8, 9, 10, 11, 12, 13] rfl rfl (ws' := (wB cA adB vB)) rfl (fun H locs hP hD hS => ?_)
    cases h
    exact endI hx hb hr hlocks hP hS rfl dX0_tellOfPupil_55
  have h := (if_neg c1).symm.trans h
  by_cases c3 : p2 = (1 : Int32)
  · have h := (if_pos c3).symm.trans h
    refine lv_tableIn (off := 55) (tgt := 56) hx hb dX0_tellOfPupil_1 (by rw [c3]; decide +kernel) (by rw [c3]; decide +kernel) (by rw [c3]; decide +kernel) (by decide) ?_
    refine lv_aload_n hx hb dX0_tellOfPupil_56 rfl (lv_at hl 0 rfl) ?_
    refine lv_iconst (v := (-1 : Int32)) hx hb dX0_tellOfPupil_57 (by decide) ?_
    refine lv_iload_n hx hb dX0_tellOfPupil_58 rfl (lv_at hl 1 rfl) ?_
    refine lv_iconst (v := (-1 : Int32)) hx hb dX0_tellOfPupil_59 (by decide) ?_
    obtain ⟨u4, eu4, h⟩ := bd_in h
    refine kI (va_runV (As := [.int (-1 : Int32), .int p1, .int (-1 : Int32)]) (rest := []) ⟨hx, hb, hml, hown, hts⟩ (c_X0_sumOwed l D cA cQ adB vB (-1 : Int32) p1 (-1 : Int32) u4 eu4 _) (cwV 3 hts gX0_tellOfPupil_X0_sumOwed rfl rfl rfl (by decide +kernel) ⟨Nat.le_of_ble_eq_true rfl, Nat.le_of_ble_eq_true rfl⟩) (pV (ci := 0) (q := (RX0, TX0, 13)) hK hN hP hD [0, 1, 2, 3, 4, 5, 6, 7, 8, 9, 10, 11, 12, 13] rfl rfl rfl rfl) rfl rfl hl.1 rfl (lv_room (Nat.le_of_ble_eq_true rfl)) dX0_tellOfPupil_60 ⟨Nat.zero_le _, Nat.zero_le _⟩) hP hD hS hA [0, 1, 2, 3, 4, 5, 6, 7, 8, 9, 10, 11, 12, 13] rfl rfl (ws' := (wB cA adB vB)) rfl (fun H locs hP hD hS => ?_)
    cases h
    exact endI hx hb hr hlocks hP hS rfl dX0_tellOfPupil_63
  have h := (if_neg c3).symm.trans h
  by_cases c5 : p2 = (2 : Int32)
  · have h := (if_pos c5).symm.trans h
    refine lv_tableIn (off := 63) (tgt := 64) hx hb dX0_tellOfPupil_1 (by rw [c5]; decide +kernel) (by rw [c5]; decide +kernel) (by rw [c5]; decide +kernel) (by decide) ?_
    refine lv_sipush (v := (1000 : Int32)) hx hb dX0_tellOfPupil_64 (by decide) ?_
    refine lv_aload_n hx hb dX0_tellOfPupil_67 rfl (lv_at hl 0 rfl) ?_
    refine lv_iload_n hx hb dX0_tellOfPupil_68 rfl (lv_at hl 1 rfl) ?_
    obtain ⟨u6, eu6, h⟩ := bd_in h
    refine kI (va_runV (As := [.int p1]) (rest := [.int (1000 : Int32)]) ⟨hx, hb, hml, hown, hts⟩ (c_X0_balanceByLots l D cA cQ adB vB p1 u6 eu6 _) (cwV 1 hts gX0_tellOfPupil_X0_balanceByLots rfl rfl rfl (by decide +kernel) ⟨Nat.le_of_ble_eq_true rfl, Nat.le_of_ble_eq_true rfl⟩) (pV (ci := 0) (q := (RX0, TX0, 13)) hK hN hP hD [0, 1, 2, 3, 4, 5, 6, 7, 8, 9, 10, 11, 12, 13] rfl rfl rfl rfl) rfl rfl hl.1 rfl (lv_room (Nat.le_of_ble_eq_true rfl)) dX0_tellOfPupil_69 ⟨Nat.zero_le _, Nat.zero_le _⟩) hP hD hS hA [0, 1, 2, 3, 4, 5, 6, 7, 8, 9, 10, 11, 12, 13] rfl rfl (ws' := (wB cA adB vB)) rfl (fun H locs hP hD hS => ?_)
    refine lv_iadd hx hb dX0_tellOfPupil_72 ?_
    cases h
    exact endI hx hb hr hlocks hP hS rfl dX0_tellOfPupil_73
  have h := (if_neg c5).symm.trans h
  by_cases c7 : p2 = (3 : Int32)
  · have h := (if_pos c7).symm.trans h
    refine lv_tableIn (off := 73) (tgt := 74) hx hb dX0_tellOfPupil_1 (by rw [c7]; decide +kernel) (by rw [c7]; decide +kernel) (by rw [c7]; decide +kernel) (by decide) ?_
    refine lv_sipush (v := (1000 : Int32)) hx hb dX0_tellOfPupil_74 (by decide) ?_
    refine lv_aload_n hx hb dX0_tellOfPupil_77 rfl (lv_at hl 0 rfl) ?_
    refine va_get (D := D) (ci := 0) (v := .ref (adB 2)) (C := RX0) (T := TX0) (N := 13) hx hb hts iw_X0_tellOfPupil_X0 hown hK hP 0 rfl rfl 1 (by decide) (hts (.fieldLink RX0 15 "FavourRings$Bank" "came" "[I") (List.mem_of_getElem? (i := 1) rfl)) (fun _ h9 => h9) rfl dX0_tellOfPupil_78 ?_
    refine lv_iload_n hx hb dX0_tellOfPupil_81 rfl (lv_at hl 1 rfl) ?_
    obtain ⟨u8, eu8, h⟩ := bd_in h
    refine kI (va_runSN (As := [.ref (adB 2), .int p1]) (rest := [.int (1000 : Int32)]) ⟨hx, hb, hml, hown, hts⟩ (c_X4_at l D cA cQ (adB 2) 8 (vB 2) p1 u8 eu8 _) ⟨va_cnB 2 hts gX0_tellOfPupil_X4_at_n77 rfl rfl rfl hN.2.2.2.1 (hts (.initialized RX4) (List.mem_of_getElem? (i := 26) rfl)) (by decide +kernel) ⟨Nat.le_of_ble_eq_true rfl, Nat.le_of_ble_eq_true rfl⟩, (hts (.static yX4_at) (List.mem_of_getElem? (i := 25) rfl)), trivial⟩ (pS hK hN hP hD [2] rfl rfl) rfl rfl hl.1 rfl (lv_room (Nat.le_of_ble_eq_true rfl)) dX0_tellOfPupil_82 ⟨Nat.zero_le _, Nat.zero_le _⟩) hP hD hS hA [2] rfl rfl (ws' := (wB cA adB vB)) rfl (fun H locs hP hD hS => ?_)
    refine lv_iadd hx hb dX0_tellOfPupil_85 ?_
    cases h
    exact endI hx hb hr hlocks hP hS rfl dX0_tellOfPupil_86
  have h := (if_neg c7).symm.trans h
  by_cases c9 : p2 = (4 : Int32)
  · have h := (if_pos c9).symm.trans h
    refine lv_tableIn (off := 86) (tgt := 87) hx hb dX0_tellOfPupil_1 (by rw [c9]; decide +kernel) (by rw [c9]; decide +kernel) (by rw [c9]; decide +kernel) (by decide) ?_
    refine lv_aload_n hx hb dX0_tellOfPupil_87 rfl (lv_at hl 0 rfl) ?_
    refine va_get (D := D) (ci := 0) (v := .ref (adB 3)) (C := RX0) (T := TX0) (N := 13) hx hb hts iw_X0_tellOfPupil_X0 hown hK hP 0 rfl rfl 2 (by decide) (hts (.fieldLink RX0 18 "FavourRings$Bank" "done" "[I") (List.mem_of_getElem? (i := 2) rfl)) (fun _ h9 => h9) rfl dX0_tellOfPupil_88 ?_
    refine lv_iload_n hx hb dX0_tellOfPupil_91 rfl (lv_at hl 1 rfl) ?_
    obtain ⟨u10, eu10, h⟩ := bd_in h
    refine kI (va_runSN (As := [.ref (adB 3), .int p1]) (rest := []) ⟨hx, hb, hml, hown, hts⟩ (c_X4_at l D cA cQ (adB 3) 8 (vB 3) p1 u10 eu10 _) ⟨va_cnB 2 hts gX0_tellOfPupil_X4_at_n77 rfl rfl rfl hN.2.2.2.1 (hts (.initialized RX4) (List.mem_of_getElem? (i := 26) rfl)) (by decide +kernel) ⟨Nat.le_of_ble_eq_true rfl, Nat.le_of_ble_eq_true rfl⟩, (hts (.static yX4_at) (List.mem_of_getElem? (i := 25) rfl)), trivial⟩ (pS hK hN hP hD [3] rfl rfl) rfl rfl hl.1 rfl (lv_room (Nat.le_of_ble_eq_true rfl)) dX0_tellOfPupil_92 ⟨Nat.zero_le _, Nat.zero_le _⟩) hP hD hS hA [3] rfl rfl (ws' := (wB cA adB vB)) rfl (fun H locs hP hD hS => ?_)
    cases h
    exact endI hx hb hr hlocks hP hS rfl dX0_tellOfPupil_95
  have h := (if_neg c9).symm.trans h
  by_cases c11 : p2 = (5 : Int32)
  · have h := (if_pos c11).symm.trans h
    refine lv_tableIn (off := 95) (tgt := 96) hx hb dX0_tellOfPupil_1 (by rw [c11]; decide +kernel) (by rw [c11]; decide +kernel) (by rw [c11]; decide +kernel) (by decide) ?_
    refine lv_aload_n hx hb dX0_tellOfPupil_96 rfl (lv_at hl 0 rfl) ?_
    refine va_get (D := D) (ci := 0) (v := .ref (adB 4)) (C := RX0) (T := TX0) (N := 13) hx hb hts iw_X0_tellOfPupil_X0 hown hK hP 0 rfl rfl 3 (by decide) (hts (.fieldLink RX0 21 "FavourRings$Bank" "spoiled" "[I") (List.mem_of_getElem? (i := 3) rfl)) (fun _ h9 => h9) rfl dX0_tellOfPupil_97 ?_
    refine lv_iload_n hx hb dX0_tellOfPupil_100 rfl (lv_at hl 1 rfl) ?_
    obtain ⟨u12, eu12, h⟩ := bd_in h
    refine kI (va_runSN (As := [.ref (adB 4), .int p1]) (rest := []) ⟨hx, hb, hml, hown, hts⟩ (c_X4_at l D cA cQ (adB 4) 8 (vB 4) p1 u12 eu12 _) ⟨va_cnB 2 hts gX0_tellOfPupil_X4_at_n77 rfl rfl rfl hN.2.2.2.1 (hts (.initialized RX4) (List.mem_of_getElem? (i := 26) rfl)) (by decide +kernel) ⟨Nat.le_of_ble_eq_true rfl, Nat.le_of_ble_eq_true rfl⟩, (hts (.static yX4_at) (List.mem_of_getElem? (i := 25) rfl)), trivial⟩ (pS hK hN hP hD [4] rfl rfl) rfl rfl hl.1 rfl (lv_room (Nat.le_of_ble_eq_true rfl)) dX0_tellOfPupil_101 ⟨Nat.zero_le _, Nat.zero_le _⟩) hP hD hS hA [4] rfl rfl (ws' := (wB cA adB vB)) rfl (fun H locs hP hD hS => ?_)
    cases h
    exact endI hx hb hr hlocks hP hS rfl dX0_tellOfPupil_104
  have h := (if_neg c11).symm.trans h
  by_cases c13 : p2 = (6 : Int32)
  · have h := (if_pos c13).symm.trans h
    refine lv_tableIn (off := 104) (tgt := 105) hx hb dX0_tellOfPupil_1 (by rw [c13]; decide +kernel) (by rw [c13]; decide +kernel) (by rw [c13]; decide +kernel) (by decide) ?_
    refine lv_aload_n hx hb dX0_tellOfPupil_105 rfl (lv_at hl 0 rfl) ?_
    refine lv_iload_n hx hb dX0_tellOfPupil_106 rfl (lv_at hl 1 rfl) ?_
    obtain ⟨u14, eu14, h⟩ := bd_in h
    refine kI (va_runV (As := [.int p1]) (rest := []) ⟨hx, hb, hml, hown, hts⟩ (c_X0_guarantorOf l D cA cQ adB vB p1 u14 eu14 _) (cwV 1 hts gX0_tellOfPupil_X0_guarantorOf rfl rfl rfl (by decide +kernel) ⟨Nat.le_of_ble_eq_true rfl, Nat.le_of_ble_eq_true rfl⟩) (pV (ci := 0) (q := (RX0, TX0, 13)) hK hN hP hD [0, 1, 2, 3, 4, 5, 6, 7, 8, 9, 10, 11, 12, 13] rfl rfl rfl rfl) rfl rfl hl.1 rfl (lv_room (Nat.le_of_ble_eq_true rfl)) dX0_tellOfPupil_107 ⟨Nat.zero_le _, Nat.zero_le _⟩) hP hD hS hA [0, 1, 2, 3, 4, 5, 6, 7, 8, 9, 10, 11, 12, 13] rfl rfl (ws' := (wB cA adB vB)) rfl (fun H locs hP hD hS => ?_)
    refine lv_if_lt (tgt := 121) hx hb dX0_tellOfPupil_110 (by decide) (fun c15 => ?_) (fun c15 => ?_)
    · have h := (if_pos c15).symm.trans h
      refine lv_ldc (v := (-1000004 : Int32)) hx hb hown (hts (.constant RX0 84 (-1000004)) (List.mem_of_getElem? (i := 4) rfl)) dX0_tellOfPupil_121 ?_
      cases h
      exact endI hx hb hr hlocks hP hS rfl dX0_tellOfPupil_123
    · have h := (if_neg c15).symm.trans h
      refine lv_aload_n hx hb dX0_tellOfPupil_113 rfl (lv_at hl 0 rfl) ?_
      refine lv_iload_n hx hb dX0_tellOfPupil_114 rfl (lv_at hl 1 rfl) ?_
      obtain ⟨u16, eu16, h⟩ := bd_in h
      refine kI (va_runV (As := [.int p1]) (rest := []) ⟨hx, hb, hml, hown, hts⟩ (c_X0_guarantorOf l D cA cQ adB vB p1 u16 eu16 _) (cwV 1 hts gX0_tellOfPupil_X0_guarantorOf rfl rfl rfl (by decide +kernel) ⟨Nat.le_of_ble_eq_true rfl, Nat.le_of_ble_eq_true rfl⟩) (pV (ci := 0) (q := (RX0, TX0, 13)) hK hN hP hD [0, 1, 2, 3, 4, 5, 6, 7, 8, 9, 10, 11, 12, 13] rfl rfl rfl rfl) rfl rfl hl.1 rfl (lv_room (Nat.le_of_ble_eq_true rfl)) dX0_tellOfPupil_115 ⟨Nat.zero_le _, Nat.zero_le _⟩) hP hD hS hA [0, 1, 2, 3, 4, 5, 6, 7, 8, 9, 10, 11, 12, 13] rfl rfl (ws' := (wB cA adB vB)) rfl (fun H locs hP hD hS => ?_)
      refine lv_goto (tgt := 123) hx hb dX0_tellOfPupil_118 (by decide) ?_
      cases h
      exact endI hx hb hr hlocks hP hS rfl dX0_tellOfPupil_123
  have h := (if_neg c13).symm.trans h
  by_cases c17 : p2 = (7 : Int32)
  · have h := (if_pos c17).symm.trans h
    refine lv_tableIn (off := 123) (tgt := 124) hx hb dX0_tellOfPupil_1 (by rw [c17]; decide +kernel) (by rw [c17]; decide +kernel) (by rw [c17]; decide +kernel) (by decide) ?_
    refine lv_aload_n hx hb dX0_tellOfPupil_124 rfl (lv_at hl 0 rfl) ?_
    refine va_get (D := D) (ci := 0) (v := .ref (adB 6)) (C := RX0) (T := TX0) (N := 13) hx hb hts iw_X0_tellOfPupil_X0 hown hK hP 0 rfl rfl 5 (by decide) (hts (.fieldLink RX0 27 "FavourRings$Bank" "takenOver" "[I") (List.mem_of_getElem? (i := 5) rfl)) (fun _ h9 => h9) rfl dX0_tellOfPupil_125 ?_
    refine lv_iload_n hx hb dX0_tellOfPupil_128 rfl (lv_at hl 1 rfl) ?_
    obtain ⟨u18, eu18, h⟩ := bd_in h
    refine kI (va_runSN (As := [.ref (adB 6), .int p1]) (rest := []) ⟨hx, hb, hml, hown, hts⟩ (c_X4_at l D cA cQ (adB 6) 8 (vB 6) p1 u18 eu18 _) ⟨va_cnB 2 hts gX0_tellOfPupil_X4_at_n77 rfl rfl rfl hN.2.2.2.1 (hts (.initialized RX4) (List.mem_of_getElem? (i := 26) rfl)) (by decide +kernel) ⟨Nat.le_of_ble_eq_true rfl, Nat.le_of_ble_eq_true rfl⟩, (hts (.static yX4_at) (List.mem_of_getElem? (i := 25) rfl)), trivial⟩ (pS hK hN hP hD [6] rfl rfl) rfl rfl hl.1 rfl (lv_room (Nat.le_of_ble_eq_true rfl)) dX0_tellOfPupil_129 ⟨Nat.zero_le _, Nat.zero_le _⟩) hP hD hS hA [6] rfl rfl (ws' := (wB cA adB vB)) rfl (fun H locs hP hD hS => ?_)
    cases h
    exact endI hx hb hr hlocks hP hS rfl dX0_tellOfPupil_132
  have h := (if_neg c17).symm.trans h
  have nc1 : (p2).toInt ≠ 0 := ne_toInt c1
  have nc3 : (p2).toInt ≠ 1 := ne_toInt c3
  have nc5 : (p2).toInt ≠ 2 := ne_toInt c5
  have nc7 : (p2).toInt ≠ 3 := ne_toInt c7
  have nc9 : (p2).toInt ≠ 4 := ne_toInt c9
  have nc11 : (p2).toInt ≠ 5 := ne_toInt c11
  have nc13 : (p2).toInt ≠ 6 := ne_toInt c13
  have nc17 : (p2).toInt ≠ 7 := ne_toInt c17
  refine lv_tableOut (tgt := 133) hx hb dX0_tellOfPupil_1 (by omega) (by decide) ?_
  refine lv_aload_n hx hb dX0_tellOfPupil_133 rfl (lv_at hl 0 rfl) ?_
  refine va_get (D := D) (ci := 0) (v := .ref (adB 7)) (C := RX0) (T := TX0) (N := 13) hx hb hts iw_X0_tellOfPupil_X0 hown hK hP 0 rfl rfl 6 (by decide) (hts (.fieldLink RX0 30 "FavourRings$Bank" "cleared" "[I") (List.mem_of_getElem? (i := 6) rfl)) (fun _ h9 => h9) rfl dX0_tellOfPupil_134 ?_
  refine lv_iload_n hx hb dX0_tellOfPupil_137 rfl (lv_at hl 1 rfl) ?_
  obtain ⟨u19, eu19, h⟩ := bd_in h
  refine kI (va_runSN (As := [.ref (adB 7), .int p1]) (rest := []) ⟨hx, hb, hml, hown, hts⟩ (c_X4_at l D cA cQ (adB 7) 8 (vB 7) p1 u19 eu19 _) ⟨va_cnB 2 hts gX0_tellOfPupil_X4_at_n77 rfl rfl rfl hN.2.2.2.1 (hts (.initialized RX4) (List.mem_of_getElem? (i := 26) rfl)) (by decide +kernel) ⟨Nat.le_of_ble_eq_true rfl, Nat.le_of_ble_eq_true rfl⟩, (hts (.static yX4_at) (List.mem_of_getElem? (i := 25) rfl)), trivial⟩ (pS hK hN hP hD [7] rfl rfl) rfl rfl hl.1 rfl (lv_room (Nat.le_of_ble_eq_true rfl)) dX0_tellOfPupil_138 ⟨Nat.zero_le _, Nat.zero_le _⟩) hP hD hS hA [7] rfl rfl (ws' := (wB cA adB vB)) rfl (fun H locs hP hD hS => ?_)
  cases h
  exact endI hx hb hr hlocks hP hS rfl dX0_tellOfPupil_141
theorem iw_X0_turnHolidays_X0 : ∀ w ∈ wsX00, w ∈ wsX0_turnHolidays := fun _ h => List.mem_cons_of_mem _ (List.mem_append_right _ (h))
set_option maxHeartbeats 4000000 in
set_option maxRecDepth 100000 in
theorem c_X0_turnHolidays (l : Launch) (D : va_G) (cA cQ : ClassId) (adB : Nat → Nat) (vB : St) (p1 : Int32) (o : Int32 × St) (hf : X0_turnHolidays vB p1 = some o) : Cti l yX0_turnHolidays wsX0_turnHolidays ({ frames := 1, cells := 0, slots := 0, locals := 22 }) D (TY cA cQ) [.ref (adB 0), .int p1] (wB cA adB vB) (wB cA adB o.2) o.1 := by
  refine Wk.i (cc := cX0_turnHolidays) (maxL := 3) (ret := (some .int)) (by decide) rfl (Nat.le_of_ble_eq_true rfl) ?_
  intro p e s m below meth c A ls hx hb hr hlocks hml hown hts hK hN hP hD hA hl
  have hown : s.vm.findClass RX0 = some m.cls := hown
  have hS : va_S A s.heap s.heap [] := va_S.rf
  have hl : lv_has ls 3 [(0, .ref (adB 0)), (1, .int p1)] := hl
  have B22 : ∀ (vB : St) (x2 : Int32) (t1 : Int32) (t2 : Int32) (H : Heap) (locs : List Loc) (ls : Array Slot), X0_turnHolidays_b22 p1 vB x2 t1 t2 = some o → va_P D vwCl (wB cA adB vB) H → va_D A (wB cA adB vB) → va_S A s.heap H locs → lv_has ls 3 [(2, .int x2)] → W p l e (headSpec wsX0_turnHolidays ({ frames := 1, cells := 0, slots := 0, locals := 22 })).room s m ([.ref (adB 0), .int p1] : List Value).toArray below meth c H locs 0 0 (MQ below (QI D (wB cA adB o.2) o.1 A) ([.ref (adB 0), .int p1] : List Value).toArray s 0 0 A) (F0 m 22 ls [.int t2, .int t1, .ref (adB 1)]) := by
    intro vB x2 t1 t2 H locs ls h hP hD hS hl
    unfold X0_turnHolidays_b22 at h
    obtain ⟨u1, eu1, h⟩ := bd_in h
    refine kV (va_runSN (As := [.ref (adB 1), .int t1, .int t2]) (rest := []) ⟨hx, hb, hml, hown, hts⟩ (c_X4_put l D cA cQ (adB 1) 26 (vB 1) t1 t2 u1 eu1 _) ⟨va_cnB 3 hts gX0_turnHolidays_X4_put_n55 rfl rfl rfl hN.2.1 (hts (.initialized RX4) (List.mem_of_getElem? (i := 8) rfl)) (by decide +kernel) ⟨Nat.le_of_ble_eq_true rfl, Nat.le_of_ble_eq_true rfl⟩, (hts (.static yX4_put) (List.mem_of_getElem? (i := 7) rfl)), trivial⟩ (pS hK hN hP hD [1] rfl rfl) rfl rfl hl.1 rfl (lv_room (Nat.le_of_ble_eq_true rfl)) dX0_turnHolidays_22 ⟨Nat.zero_le _, Nat.zero_le _⟩) hP hD hS hA [1] rfl rfl (ws' := (wB cA adB (setA vB 1 u1))) rfl (fun H locs hP hD hS => ?_)
    refine lv_iload_n hx hb dX0_turnHolidays_25 rfl (lv_at hl 0 rfl) ?_
    cases h
    exact endI hx hb hr hlocks hP hS rfl dX0_turnHolidays_26
  have h := hf
  unfold X0_turnHolidays at h
  refine lv_aload_n hx hb dX0_turnHolidays_0 rfl (lv_at hl 0 rfl) ?_
  refine lv_bipush (v := (10 : Int32)) hx hb dX0_turnHolidays_1 (by decide) ?_
  obtain ⟨u2, eu2, h⟩ := bd_in h
  refine kI (va_runV (As := [.int (10 : Int32)]) (rest := []) ⟨hx, hb, hml, hown, hts⟩ (c_X0_number l D cA cQ adB vB (10 : Int32) u2 eu2 _) (cwV 1 hts gX0_turnHolidays_X0_number rfl rfl rfl (by decide +kernel) ⟨Nat.le_of_ble_eq_true rfl, Nat.le_of_ble_eq_true rfl⟩) (pV (ci := 0) (q := (RX0, TX0, 13)) hK hN hP hD [0, 1, 2, 3, 4, 5, 6, 7, 8, 9, 10, 11, 12, 13] rfl rfl rfl rfl) rfl rfl hl.1 rfl (lv_room (Nat.le_of_ble_eq_true rfl)) dX0_turnHolidays_3 ⟨Nat.zero_le _, Nat.zero_le _⟩) hP hD hS hA [0, 1, 2, 3, 4, 5, 6, 7, 8, 9, 10, 11, 12, 13] rfl rfl (ws' := (wB cA adB vB)) rfl (fun H locs hP hD hS => ?_)
  refine lv_istore_n (lv' := [(2, .int u2), (0, .ref (adB 0)), (1, .int p1)]) hx hb dX0_turnHolidays_6 rfl hl (by decide) rfl (fun ls hl => ?_)
  refine lv_aload_n hx hb dX0_turnHolidays_7 rfl (lv_at hl 1 rfl) ?_
  refine va_get (D := D) (ci := 0) (v := .ref (adB 1)) (C := RX0) (T := TX0) (N := 13) hx hb hts iw_X0_turnHolidays_X0 hown hK hP 0 rfl rfl 0 (by decide) (hts (.fieldLink RX0 9 "FavourRings$Bank" "numbers" "[I") (List.mem_of_getElem? (i := 1) rfl)) (fun _ h9 => h9) rfl dX0_turnHolidays_8 ?_
  refine lv_bipush (v := (10 : Int32)) hx hb dX0_turnHolidays_11 (by decide) ?_
  refine lv_iload_n hx hb dX0_turnHolidays_13 rfl (lv_at hl 2 rfl) ?_
  refine lv_if_eq (tgt := 21) hx hb dX0_turnHolidays_14 (by decide) (fun c3 => ?_) (fun c3 => ?_)
  · have h := (if_pos c3).symm.trans h
    refine lv_iconst (v := (0 : Int32)) hx hb dX0_turnHolidays_21 (by decide) ?_
    exact B22 vB u2 (10 : Int32) (0 : Int32) _ _ _ h hP hD hS (lv_sub hl [0] rfl)
  · have h := (if_neg c3).symm.trans h
    refine lv_iconst (v := (1 : Int32)) hx hb dX0_turnHolidays_17 (by decide) ?_
    refine lv_goto (tgt := 22) hx hb dX0_turnHolidays_18 (by decide) ?_
    exact B22 vB u2 (10 : Int32) (1 : Int32) _ _ _ h hP hD hS (lv_sub hl [0] rfl)
set_option maxHeartbeats 4000000 in
set_option maxRecDepth 100000 in
theorem c_X0_weeksUntilNextSpoils (l : Launch) (D : va_G) (cA cQ : ClassId) (adB : Nat → Nat) (vB : St) (p1 : Int32) (o : Int32) (hf : X0_weeksUntilNextSpoils vB p1 = some o) : Cti l yX0_weeksUntilNextSpoils wsX0_weeksUntilNextSpoils ({ frames := 2, cells := 0, slots := 0, locals := 42 }) D (TY cA cQ) [.ref (adB 0), .int p1] (wB cA adB vB) (wB cA adB vB) o := by
  refine Wk.i (cc := cX0_weeksUntilNextSpoils) (maxL := 5) (ret := (some .int)) (by decide) rfl (Nat.le_of_ble_eq_true rfl) ?_
  intro p e s m below meth c A ls hx hb hr hlocks hml hown hts hK hN hP hD hA hl
  have hown : s.vm.findClass RX0 = some m.cls := hown
  have hS : va_S A s.heap s.heap [] := va_S.rf
  have hl : lv_has ls 5 [(0, .ref (adB 0)), (1, .int p1)] := hl
  have B4 : ∀ (fu4 : Nat) (x2 : Int32) (x3 : Int32) (H : Heap) (locs : List Loc) (ls : Array Slot), X0_weeksUntilNextSpoils_l4 vB p1 fu4 x2 x3 = some o → va_P D vwCl (wB cA adB vB) H → va_D A (wB cA adB vB) → va_S A s.heap H locs → lv_has ls 5 [(0, .ref (adB 0)), (1, .int p1), (2, .int x2), (3, .int x3)] → W p l e (headSpec wsX0_weeksUntilNextSpoils ({ frames := 2, cells := 0, slots := 0, locals := 42 })).room s m ([.ref (adB 0), .int p1] : List Value).toArray below meth c H locs 0 0 (MQ below (QI D (wB cA adB vB) o A) ([.ref (adB 0), .int p1] : List Value).toArray s 0 0 A) (F0 m 4 ls []) := by
    intro fu4
    induction fu4 with
    | zero =>
      intro x2 x3 H locs ls h hP hD hS hl
      cases h
    | succ fu4 ih4 =>
      intro x2 x3 H locs ls h hP hD hS hl
      rw [X0_weeksUntilNextSpoils_l4] at h
      refine lv_iload_n hx hb dX0_weeksUntilNextSpoils_4 rfl (lv_at hl 3 rfl) ?_
      refine lv_aload_n hx hb dX0_weeksUntilNextSpoils_5 rfl (lv_at hl 0 rfl) ?_
      refine lv_iconst (v := (2 : Int32)) hx hb dX0_weeksUntilNextSpoils_6 (by decide) ?_
      obtain ⟨u1, eu1, h⟩ := bd_in h
      refine kI (va_runV (As := [.int (2 : Int32)]) (rest := [.int x3]) ⟨hx, hb, hml, hown, hts⟩ (c_X0_number l D cA cQ adB vB (2 : Int32) u1 eu1 _) (cwV 1 hts gX0_weeksUntilNextSpoils_X0_number rfl rfl rfl (by decide +kernel) ⟨Nat.le_of_ble_eq_true rfl, Nat.le_of_ble_eq_true rfl⟩) (pV (ci := 0) (q := (RX0, TX0, 13)) hK hN hP hD [0, 1, 2, 3, 4, 5, 6, 7, 8, 9, 10, 11, 12, 13] rfl rfl rfl rfl) rfl rfl hl.1 rfl (lv_room (Nat.le_of_ble_eq_true rfl)) dX0_weeksUntilNextSpoils_7 ⟨Nat.zero_le _, Nat.zero_le _⟩) hP hD hS hA [0, 1, 2, 3, 4, 5, 6, 7, 8, 9, 10, 11, 12, 13] rfl rfl (ws' := (wB cA adB vB)) rfl (fun H locs hP hD hS => ?_)
      refine lv_icmp_ge (tgt := 57) hx hb dX0_weeksUntilNextSpoils_10 (by decide) (fun c2 => ?_) (fun c2 => ?_)
      · have h := (if_pos c2).symm.trans h
        refine lv_iload_n hx hb dX0_weeksUntilNextSpoils_57 rfl (lv_at hl 2 rfl) ?_
        cases h
        exact endI hx hb hr hlocks hP hS rfl dX0_weeksUntilNextSpoils_58
      · have h := (if_neg c2).symm.trans h
        refine lv_aload_n hx hb dX0_weeksUntilNextSpoils_13 rfl (lv_at hl 0 rfl) ?_
        refine lv_iload_n hx hb dX0_weeksUntilNextSpoils_14 rfl (lv_at hl 3 rfl) ?_
        refine lv_iload_n hx hb dX0_weeksUntilNextSpoils_15 rfl (lv_at hl 1 rfl) ?_
        refine lv_iconst (v := (-1 : Int32)) hx hb dX0_weeksUntilNextSpoils_16 (by decide) ?_
        refine lv_iconst (v := (-1 : Int32)) hx hb dX0_weeksUntilNextSpoils_17 (by decide) ?_
        obtain ⟨u3, eu3, h⟩ := bd_in h
        refine kI (va_runV (As := [.int x3, .int p1, .int (-1 : Int32), .int (-1 : Int32)]) (rest := []) ⟨hx, hb, hml, hown, hts⟩ (c_X0_isLotOf l D cA cQ adB vB x3 p1 (-1 : Int32) (-1 : Int32) u3 eu3 _) (cwV 4 hts gX0_weeksUntilNextSpoils_X0_isLotOf rfl rfl rfl (by decide +kernel) ⟨Nat.le_of_ble_eq_true rfl, Nat.le_of_ble_eq_true rfl⟩) (pV (ci := 0) (q := (RX0, TX0, 13)) hK hN hP hD [0, 1, 2, 3, 4, 5, 6, 7, 8, 9, 10, 11, 12, 13] rfl rfl rfl rfl) rfl rfl hl.1 rfl (lv_room (Nat.le_of_ble_eq_true rfl)) dX0_weeksUntilNextSpoils_18 ⟨Nat.zero_le _, Nat.zero_le _⟩) hP hD hS hA [0, 1, 2, 3, 4, 5, 6, 7, 8, 9, 10, 11, 12, 13] rfl rfl (ws' := (wB cA adB vB)) rfl (fun H locs hP hD hS => ?_)
        refine lv_if_eq (tgt := 51) hx hb dX0_weeksUntilNextSpoils_21 (by decide) (fun c4 => ?_) (fun c4 => ?_)
        · have h := (if_pos c4).symm.trans h
          refine lv_iinc (v := (x3 + (1 : Int32))) (lv' := [(3, .int (x3 + (1 : Int32))), (0, .ref (adB 0)), (1, .int p1), (2, .int x2)]) hx hb dX0_weeksUntilNextSpoils_51 hl (k := 3) rfl rfl (by decide) rfl (fun ls hl => ?_)
          refine lv_goto (tgt := 4) hx hb dX0_weeksUntilNextSpoils_54 (by decide) ?_
          exact ih4 x2 (x3 + (1 : Int32)) _ _ _ h hP hD hS (lv_sub hl [1, 2, 3, 0] rfl)
        · have h := (if_neg c4).symm.trans h
          refine lv_iconst (v := (1 : Int32)) hx hb dX0_weeksUntilNextSpoils_24 (by decide) ?_
          refine lv_aload_n hx hb dX0_weeksUntilNextSpoils_25 rfl (lv_at hl 0 rfl) ?_
          refine lv_iload_n hx hb dX0_weeksUntilNextSpoils_26 rfl (lv_at hl 3 rfl) ?_
          obtain ⟨u5, eu5, h⟩ := bd_in h
          refine kI (va_runV (As := [.int x3]) (rest := [.int (1 : Int32)]) ⟨hx, hb, hml, hown, hts⟩ (c_X0_weeksLeft l D cA cQ adB vB x3 u5 eu5 _) (cwV 1 hts gX0_weeksUntilNextSpoils_X0_weeksLeft rfl rfl rfl (by decide +kernel) ⟨Nat.le_of_ble_eq_true rfl, Nat.le_of_ble_eq_true rfl⟩) (pV (ci := 0) (q := (RX0, TX0, 13)) hK hN hP hD [0, 1, 2, 3, 4, 5, 6, 7, 8, 9, 10, 11, 12, 13] rfl rfl rfl rfl) rfl rfl hl.1 rfl (lv_room (Nat.le_of_ble_eq_true rfl)) dX0_weeksUntilNextSpoils_27 ⟨Nat.zero_le _, Nat.zero_le _⟩) hP hD hS hA [0, 1, 2, 3, 4, 5, 6, 7, 8, 9, 10, 11, 12, 13] rfl rfl (ws' := (wB cA adB vB)) rfl (fun H locs hP hD hS => ?_)
          refine va_mmax hx hb (hml.trans hl.1.symm) hown (hts (.methodLink RX0 101 Lib.Math.max.name) (List.mem_of_getElem? (i := 1) rfl)) (hts (.static Lib.Math.max.name) (List.mem_of_getElem? (i := 2) rfl)) (hts (.initialized "java/lang/Math") (List.mem_of_getElem? (i := 3) rfl)) (hts (.code Lib.Math.max.name Lib.Math.max.code 2 (some .int)) (List.mem_of_getElem? (i := 4) rfl)) (Nat.le_of_ble_eq_true rfl) (Nat.le_of_ble_eq_true rfl) (Nat.zero_le _) (Nat.zero_le _) dX0_weeksUntilNextSpoils_30 ?_
          refine lv_istore (lv' := [(4, .int (if (1 : Int32) < u5 then u5 else (1 : Int32))), (0, .ref (adB 0)), (1, .int p1), (2, .int x2), (3, .int x3)]) hx hb dX0_weeksUntilNextSpoils_33 hl (by decide) rfl (fun ls hl => ?_)
          refine lv_iload_n hx hb dX0_weeksUntilNextSpoils_35 rfl (lv_at hl 3 rfl) ?_
          refine lv_if_ne (tgt := 44) hx hb dX0_weeksUntilNextSpoils_36 (by decide) (fun c6 => ?_) (fun c6 => ?_)
          · have h := (if_neg c6).symm.trans h
            refine lv_iload_n hx hb dX0_weeksUntilNextSpoils_44 rfl (lv_at hl 3 rfl) ?_
            refine lv_iload hx hb dX0_weeksUntilNextSpoils_45 (lv_at hl 0 rfl) ?_
            refine va_mmin hx hb (hml.trans hl.1.symm) hown (hts (.methodLink RX0 107 Lib.Math.min.name) (List.mem_of_getElem? (i := 5) rfl)) (hts (.static Lib.Math.min.name) (List.mem_of_getElem? (i := 6) rfl)) (hts (.initialized "java/lang/Math") (List.mem_of_getElem? (i := 3) rfl)) (hts (.code Lib.Math.min.name Lib.Math.min.code 2 (some .int)) (List.mem_of_getElem? (i := 7) rfl)) (Nat.le_of_ble_eq_true rfl) (Nat.le_of_ble_eq_true rfl) (Nat.zero_le _) (Nat.zero_le _) dX0_weeksUntilNextSpoils_47 ?_
            refine lv_istore_n (lv' := [(2, .int (if (if (1 : Int32) < u5 then u5 else (1 : Int32)) < x2 then (if (1 : Int32) < u5 then u5 else (1 : Int32)) else x2)), (4, .int (if (1 : Int32) < u5 then u5 else (1 : Int32))), (0, .ref (adB 0)), (1, .int p1), (3, .int x3)]) hx hb dX0_weeksUntilNextSpoils_50 rfl hl (by decide) rfl (fun ls hl => ?_)
            refine lv_iinc (v := (x3 + (1 : Int32))) (lv' := [(3, .int (x3 + (1 : Int32))), (2, .int (if (if (1 : Int32) < u5 then u5 else (1 : Int32)) < x2 then (if (1 : Int32) < u5 then u5 else (1 : Int32)) else x2)), (4, .int (if (1 : Int32) < u5 then u5 else (1 : Int32))), (0, .ref (adB 0)), (1, .int p1)]) hx hb dX0_weeksUntilNextSpoils_51 hl (k := 4) rfl rfl (by decide) rfl (fun ls hl => ?_)
            refine lv_goto (tgt := 4) hx hb dX0_weeksUntilNextSpoils_54 (by decide) ?_
            exact ih4 (if (if (1 : Int32) < u5 then u5 else (1 : Int32)) < x2 then (if (1 : Int32) < u5 then u5 else (1 : Int32)) else x2) (x3 + (1 : Int32)) _ _ _ h hP hD hS (lv_sub hl [3, 4, 1, 0] rfl)
          · have h := (if_pos c6).symm.trans h
            refine lv_iload hx hb dX0_weeksUntilNextSpoils_39 (lv_at hl 0 rfl) ?_
            refine lv_goto (tgt := 50) hx hb dX0_weeksUntilNextSpoils_41 (by decide) ?_
            refine lv_istore_n (lv' := [(2, .int (if (1 : Int32) < u5 then u5 else (1 : Int32))), (4, .int (if (1 : Int32) < u5 then u5 else (1 : Int32))), (0, .ref (adB 0)), (1, .int p1), (3, .int x3)]) hx hb dX0_weeksUntilNextSpoils_50 rfl hl (by decide) rfl (fun ls hl => ?_)
            refine lv_iinc (v := (x3 + (1 : Int32))) (lv' := [(3, .int (x3 + (1 : Int32))), (2, .int (if (1 : Int32) < u5 then u5 else (1 : Int32))), (4, .int (if (1 : Int32) < u5 then u5 else (1 : Int32))), (0, .ref (adB 0)), (1, .int p1)]) hx hb dX0_weeksUntilNextSpoils_51 hl (k := 4) rfl rfl (by decide) rfl (fun ls hl => ?_)
            refine lv_goto (tgt := 4) hx hb dX0_weeksUntilNextSpoils_54 (by decide) ?_
            exact ih4 (if (1 : Int32) < u5 then u5 else (1 : Int32)) (x3 + (1 : Int32)) _ _ _ h hP hD hS (lv_sub hl [3, 4, 1, 0] rfl)
  have h := hf
  unfold X0_weeksUntilNextSpoils at h
  refine lv_iconst (v := (0 : Int32)) hx hb dX0_weeksUntilNextSpoils_0 (by decide) ?_
  refine lv_istore_n (lv' := [(2, .int (0 : Int32)), (0, .ref (adB 0)), (1, .int p1)]) hx hb dX0_weeksUntilNextSpoils_1 rfl hl (by decide) rfl (fun ls hl => ?_)
  refine lv_iconst (v := (0 : Int32)) hx hb dX0_weeksUntilNextSpoils_2 (by decide) ?_
  refine lv_istore_n (lv' := [(3, .int (0 : Int32)), (2, .int (0 : Int32)), (0, .ref (adB 0)), (1, .int p1)]) hx hb dX0_weeksUntilNextSpoils_3 rfl hl (by decide) rfl (fun ls hl => ?_)
  exact B4 FU (0 : Int32) (0 : Int32) _ _ _ h hP hD hS (lv_sub hl [2, 3, 1, 0] rfl)
theorem iw_X1_dropOldest_X1 : ∀ w ∈ wsX10, w ∈ wsX1_dropOldest := fun _ h => List.mem_cons_of_mem _ (List.mem_append_left _ (List.mem_append_right _ (h)))
set_option maxHeartbeats 4000000 in
set_option maxRecDepth 100000 in
theorem c_X1_dropOldest (l : Launch) (D : va_G) (cA cQ : ClassId) (adH : Nat → Nat) (kH : Nat → Nat → Nat) (vH : St) (bH : Nat → St) (o : St × (Nat → St)) (hf : X1_dropOldest vH bH = some o) : Ctv l yX1_dropOldest wsX1_dropOldest ({ frames := 3, cells := 0, slots := 0, locals := 102 }) D (TY cA cQ) [.ref (adH 0)] (wH cA cQ adH vH kH bH) (wH cA cQ adH o.1 kH o.2) := by
  refine Wk.v (cc := cX1_dropOldest) (maxL := 2) (ret := none) (by decide) rfl (Nat.le_of_ble_eq_true rfl) ?_
  intro p e s m below meth c A ls hx hb hr hlocks hml hown hts hK hN hP hD hA hl
  have hown : s.vm.findClass RX1 = some m.cls := hown
  have hS : va_S A s.heap s.heap [] := va_S.rf
  have hl : lv_has ls 2 [(0, .ref (adH 0))] := hl
  have h := hf
  unfold X1_dropOldest at h
  refine lv_iconst (v := (1 : Int32)) hx hb dX1_dropOldest_0 (by decide) ?_
  refine lv_istore_n (lv' := [(1, .int (1 : Int32)), (0, .ref (adH 0))]) hx hb dX1_dropOldest_1 rfl hl (by decide) rfl (fun ls hl => ?_)
  refine lv_iload_n hx hb dX1_dropOldest_2 rfl (lv_at hl 0 rfl) ?_
  refine lv_aload_n hx hb dX1_dropOldest_3 rfl (lv_at hl 1 rfl) ?_
  refine va_get (D := D) (ci := 1) (v := .ref (adH 1)) (C := RX1) (T := TX1) (N := 2) hx hb hts iw_X1_dropOldest_X1 hown hK hP 0 rfl rfl 0 (by decide) (hts (.fieldLink RX1 11 "FavourRings$History" "states" "[LFavourRings$Bank;") (List.mem_of_getElem? (i := 1) rfl)) (fun _ h9 => h9) rfl dX1_dropOldest_4 ?_
  refine va_alen hx hb hK hP 1 1 rfl rfl (v := (4 : Int32)) rfl dX1_dropOldest_7 ?_
  refine lv_icmp_ge (tgt := 54) hx hb dX1_dropOldest_8 (by decide) (fun c1 => ?_) (fun c1 => ?_)
  · exact absurd c1 (by decide)
  · skip
    refine lv_aload_n hx hb dX1_dropOldest_11 rfl (lv_at hl 1 rfl) ?_
    refine va_get (D := D) (ci := 1) (v := .ref (adH 1)) (C := RX1) (T := TX1) (N := 2) hx hb hts iw_X1_dropOldest_X1 hown hK hP 0 rfl rfl 0 (by decide) (hts (.fieldLink RX1 11 "FavourRings$History" "states" "[LFavourRings$Bank;") (List.mem_of_getElem? (i := 1) rfl)) (fun _ h9 => h9) rfl dX1_dropOldest_12 ?_
    refine lv_iload_n hx hb dX1_dropOldest_15 rfl (lv_at hl 0 rfl) ?_
    refine lv_iconst (v := (1 : Int32)) hx hb dX1_dropOldest_16 (by decide) ?_
    refine lv_isub hx hb dX1_dropOldest_17 ?_
    refine aaR (k := 0) (b := kH 0 0) hx hb hK hP 1 1 rfl rfl rfl (by decide) (vp_in_iff.mpr (by decide)) rfl dX1_dropOldest_18 ?_
    refine lv_ifnull hx hb dX1_dropOldest_19 ?_
    refine lv_aload_n hx hb dX1_dropOldest_22 rfl (lv_at hl 1 rfl) ?_
    refine va_get (D := D) (ci := 1) (v := .ref (adH 1)) (C := RX1) (T := TX1) (N := 2) hx hb hts iw_X1_dropOldest_X1 hown hK hP 0 rfl rfl 0 (by decide) (hts (.fieldLink RX1 11 "FavourRings$History" "states" "[LFavourRings$Bank;") (List.mem_of_getElem? (i := 1) rfl)) (fun _ h9 => h9) rfl dX1_dropOldest_23 ?_
    refine lv_iload_n hx hb dX1_dropOldest_26 rfl (lv_at hl 0 rfl) ?_
    refine aaR (k := 1) (b := kH 1 0) hx hb hK hP 1 1 rfl rfl rfl (by decide) (vp_in_iff.mpr (by decide)) rfl dX1_dropOldest_27 ?_
    refine lv_ifnull hx hb dX1_dropOldest_28 ?_
    refine lv_aload_n hx hb dX1_dropOldest_31 rfl (lv_at hl 1 rfl) ?_
    refine va_get (D := D) (ci := 1) (v := .ref (adH 1)) (C := RX1) (T := TX1) (N := 2) hx hb hts iw_X1_dropOldest_X1 hown hK hP 0 rfl rfl 0 (by decide) (hts (.fieldLink RX1 11 "FavourRings$History" "states" "[LFavourRings$Bank;") (List.mem_of_getElem? (i := 1) rfl)) (fun _ h9 => h9) rfl dX1_dropOldest_32 ?_
    refine lv_iload_n hx hb dX1_dropOldest_35 rfl (lv_at hl 0 rfl) ?_
    refine lv_iconst (v := (1 : Int32)) hx hb dX1_dropOldest_36 (by decide) ?_
    refine lv_isub hx hb dX1_dropOldest_37 ?_
    refine aaR (k := 0) (b := kH 0 0) hx hb hK hP 1 1 rfl rfl rfl (by decide) (vp_in_iff.mpr (by decide)) rfl dX1_dropOldest_38 ?_
    refine lv_aload_n hx hb dX1_dropOldest_39 rfl (lv_at hl 1 rfl) ?_
    refine va_get (D := D) (ci := 1) (v := .ref (adH 1)) (C := RX1) (T := TX1) (N := 2) hx hb hts iw_X1_dropOldest_X1 hown hK hP 0 rfl rfl 0 (by decide) (hts (.fieldLink RX1 11 "FavourRings$History" "states" "[LFavourRings$Bank;") (List.mem_of_getElem? (i := 1) rfl)) (fun _ h9 => h9) rfl dX1_dropOldest_40 ?_
    refine lv_iload_n hx hb dX1_dropOldest_43 rfl (lv_at hl 0 rfl) ?_
    refine aaR (k := 1) (b := kH 1 0) hx hb hK hP 1 1 rfl rfl rfl (by decide) (vp_in_iff.mpr (by decide)) rfl dX1_dropOldest_44 ?_
    obtain ⟨u2, eu2, h⟩ := bd_in h
    refine kV (va_runV (As := [.ref ((kH 1) 0)]) (rest := []) ⟨hx, hb, hml, hown, hts⟩ (c_X0_copyFrom l D cA cQ (kH 0) (kH 1) (bH 0) (bH 1) u2 eu2 _) (cwV 1 hts gX1_dropOldest_X0_copyFrom rfl rfl rfl (by decide +kernel) ⟨Nat.le_of_ble_eq_true rfl, Nat.le_of_ble_eq_true rfl⟩) (pV (ci := 0) (q := (RX0, TX0, 13)) hK hN hP hD [2, 3, 4, 5, 6, 7, 8, 9, 10, 11, 12, 13, 14, 15, 16, 17, 18, 19, 20, 21, 22, 23, 24, 25, 26, 27, 28, 29] rfl rfl rfl rfl) rfl rfl hl.1 rfl (lv_room (Nat.le_of_ble_eq_true rfl)) dX1_dropOldest_45 ⟨Nat.zero_le _, Nat.zero_le _⟩) hP hD hS hA [2, 3, 4, 5, 6, 7, 8, 9, 10, 11, 12, 13, 14, 15, 16, 17, 18, 19, 20, 21, 22, 23, 24, 25, 26, 27, 28, 29] rfl rfl (ws' := (wH cA cQ adH vH kH (setB bH 0 u2))) rfl (fun H locs hP hD hS => ?_)
    refine lv_iinc (v := (2 : Int32)) (lv' := [(1, .int (2 : Int32)), (0, .ref (adH 0))]) hx hb dX1_dropOldest_48 hl (k := 0) rfl rfl (by decide) rfl (fun ls hl => ?_)
    refine lv_goto (tgt := 2) hx hb dX1_dropOldest_51 (by decide) ?_
    refine lv_iload_n hx hb dX1_dropOldest_2 rfl (lv_at hl 0 rfl) ?_
    refine lv_aload_n hx hb dX1_dropOldest_3 rfl (lv_at hl 1 rfl) ?_
    refine va_get (D := D) (ci := 1) (v := .ref (adH 1)) (C := RX1) (T := TX1) (N := 2) hx hb hts iw_X1_dropOldest_X1 hown hK hP 0 rfl rfl 0 (by decide) (hts (.fieldLink RX1 11 "FavourRings$History" "states" "[LFavourRings$Bank;") (List.mem_of_getElem? (i := 1) rfl)) (fun _ h9 => h9) rfl dX1_dropOldest_4 ?_
    refine va_alen hx hb hK hP 1 1 rfl rfl (v := (4 : Int32)) rfl dX1_dropOldest_7 ?_
    refine lv_icmp_ge (tgt := 54) hx hb dX1_dropOldest_8 (by decide) (fun c3 => ?_) (fun c3 => ?_)
    · exact absurd c3 (by decide)
    · skip
      refine lv_aload_n hx hb dX1_dropOldest_11 rfl (lv_at hl 1 rfl) ?_
      refine va_get (D := D) (ci := 1) (v := .ref (adH 1)) (C := RX1) (T := TX1) (N := 2) hx hb hts iw_X1_dropOldest_X1 hown hK hP 0 rfl rfl 0 (by decide) (hts (.fieldLink RX1 11 "FavourRings$History" "states" "[LFavourRings$Bank;") (List.mem_of_getElem? (i := 1) rfl)) (fun _ h9 => h9) rfl dX1_dropOldest_12 ?_
      refine lv_iload_n hx hb dX1_dropOldest_15 rfl (lv_at hl 0 rfl) ?_
      refine lv_iconst (v := (1 : Int32)) hx hb dX1_dropOldest_16 (by decide) ?_
      refine lv_isub hx hb dX1_dropOldest_17 ?_
      refine aaR (k := 1) (b := kH 1 0) hx hb hK hP 1 1 rfl rfl rfl (by decide) (vp_in_iff.mpr (by decide)) rfl dX1_dropOldest_18 ?_
      refine lv_ifnull hx hb dX1_dropOldest_19 ?_
      refine lv_aload_n hx hb dX1_dropOldest_22 rfl (lv_at hl 1 rfl) ?_
      refine va_get (D := D) (ci := 1) (v := .ref (adH 1)) (C := RX1) (T := TX1) (N := 2) hx hb hts iw_X1_dropOldest_X1 hown hK hP 0 rfl rfl 0 (by decide) (hts (.fieldLink RX1 11 "FavourRings$History" "states" "[LFavourRings$Bank;") (List.mem_of_getElem? (i := 1) rfl)) (fun _ h9 => h9) rfl dX1_dropOldest_23 ?_
      refine lv_iload_n hx hb dX1_dropOldest_26 rfl (lv_at hl 0 rfl) ?_
      refine aaR (k := 2) (b := kH 2 0) hx hb hK hP 1 1 rfl rfl rfl (by decide) (vp_in_iff.mpr (by decide)) rfl dX1_dropOldest_27 ?_
      refine lv_ifnull hx hb dX1_dropOldest_28 ?_
      refine lv_aload_n hx hb dX1_dropOldest_31 rfl (lv_at hl 1 rfl) ?_
      refine va_get (D := D) (ci := 1) (v := .ref (adH 1)) (C := RX1) (T := TX1) (N := 2) hx hb hts iw_X1_dropOldest_X1 hown hK hP 0 rfl rfl 0 (by decide) (hts (.fieldLink RX1 11 "FavourRings$History" "states" "[LFavourRings$Bank;") (List.mem_of_getElem? (i := 1) rfl)) (fun _ h9 => h9) rfl dX1_dropOldest_32 ?_
      refine lv_iload_n hx hb dX1_dropOldest_35 rfl (lv_at hl 0 rfl) ?_
      refine lv_iconst (v := (1 : Int32)) hx hb dX1_dropOldest_36 (by decide) ?_
      refine lv_isub hx hb dX1_dropOldest_37 ?_
      refine aaR (k := 1) (b := kH 1 0) hx hb hK hP 1 1 rfl rfl rfl (by decide) (vp_in_iff.mpr (by decide)) rfl dX1_dropOldest_38 ?_
      refine lv_aload_n hx hb dX1_dropOldest_39 rfl (lv_at hl 1 rfl) ?_
      refine va_get (D := D) (ci := 1) (v := .ref (adH 1)) (C := RX1) (T := TX1) (N := 2) hx hb hts iw_X1_dropOldest_X1 hown hK hP 0 rfl rfl 0 (by decide) (hts (.fieldLink RX1 11 "FavourRings$History" "states" "[LFavourRings$Bank;") (List.mem_of_getElem? (i := 1) rfl)) (fun _ h9 => h9) rfl dX1_dropOldest_40 ?_
      refine lv_iload_n hx hb dX1_dropOldest_43 rfl (lv_at hl 0 rfl) ?_
      refine aaR (k := 2) (b := kH 2 0) hx hb hK hP 1 1 rfl rfl rfl (by decide) (vp_in_iff.mpr (by decide)) rfl dX1_dropOldest_44 ?_
      obtain ⟨u4, eu4, h⟩ := bd_in h
      refine kV (va_runV (As := [.ref ((kH 2) 0)]) (rest := []) ⟨hx, hb, hml, hown, hts⟩ (c_X0_copyFrom l D cA cQ (kH 1) (kH 2) (bH 1) (bH 2) u4 eu4 _) (cwV 1 hts gX1_dropOldest_X0_copyFrom rfl rfl rfl (by decide +kernel) ⟨Nat.le_of_ble_eq_true rfl, Nat.le_of_ble_eq_true rfl⟩) (pV (ci := 0) (q := (RX0, TX0, 13)) hK hN hP hD [16, 17, 18, 19, 20, 21, 22, 23, 24, 25, 26, 27, 28, 29, 30, 31, 32, 33, 34, 35, 36, 37, 38, 39, 40, 41, 42, 43] rfl rfl rfl rfl) rfl rfl hl.1 rfl (lv_room (Nat.le_of_ble_eq_true rfl)) dX1_dropOldest_45 ⟨Nat.zero_le _, Nat.zero_le _⟩) hP hD hS hA [16, 17, 18, 19, 20, 21, 22, 23, 24, 25, 26, 27, 28, 29, 30, 31, 32, 33, 34, 35, 36, 37, 38, 39, 40, 41, 42, 43] rfl rfl (ws' := (wH cA cQ adH vH kH (setB (setB bH 0 u2) 1 u4))) rfl (fun H locs hP hD hS => ?_)
      refine lv_iinc (v := (3 : Int32)) (lv' := [(1, .int (3 : Int32)), (0, .ref (adH 0))]) hx hb dX1_dropOldest_48 hl (k := 0) rfl rfl (by decide) rfl (fun ls hl => ?_)
      refine lv_goto (tgt := 2) hx hb dX1_dropOldest_51 (by decide) ?_
      refine lv_iload_n hx hb dX1_dropOldest_2 rfl (lv_at hl 0 rfl) ?_
      refine lv_aload_n hx hb dX1_dropOldest_3 rfl (lv_at hl 1 rfl) ?_
      refine va_get (D := D) (ci := 1) (v := .ref (adH 1)) (C := RX1) (T := TX1) (N := 2) hx hb hts iw_X1_dropOldest_X1 hown hK hP 0 rfl rfl 0 (by decide) (hts (.fieldLink RX1 11 "FavourRings$History" "states" "[LFavourRings$Bank;") (List.mem_of_getElem? (i := 1) rfl)) (fun _ h9 => h9) rfl dX1_dropOldest_4 ?_
      refine va_alen hx hb hK hP 1 1 rfl rfl (v := (4 : Int32)) rfl dX1_dropOldest_7 ?_
      refine lv_icmp_ge (tgt := 54) hx hb dX1_dropOldest_8 (by decide) (fun c5 => ?_) (fun c5 => ?_)
      · exact absurd c5 (by decide)
      · skip
        refine lv_aload_n hx hb dX1_dropOldest_11 rfl (lv_at hl 1 rfl) ?_
        refine va_get (D := D) (ci := 1) (v := .ref (adH 1)) (C := RX1) (T := TX1) (N := 2) hx hb hts iw_X1_dropOldest_X1 hown hK hP 0 rfl rfl 0 (by decide) (hts (.fieldLink RX1 11 "FavourRings$History" "states" "[LFavourRings$Bank;") (List.mem_of_getElem? (i := 1) rfl)) (fun _ h9 => h9) rfl dX1_dropOldest_12 ?_
        refine lv_iload_n hx hb dX1_dropOldest_15 rfl (lv_at hl 0 rfl) ?_
        refine lv_iconst (v := (1 : Int32)) hx hb dX1_dropOldest_16 (by decide) ?_
        refine lv_isub hx hb dX1_dropOldest_17 ?_
        refine aaR (k := 2) (b := kH 2 0) hx hb hK hP 1 1 rfl rfl rfl (by decide) (vp_in_iff.mpr (by decide)) rfl dX1_dropOldest_18 ?_
        refine lv_ifnull hx hb dX1_dropOldest_19 ?_
        refine lv_aload_n hx hb dX1_dropOldest_22 rfl (lv_at hl 1 rfl) ?_
        refine va_get (D := D) (ci := 1) (v := .ref (adH 1)) (C := RX1) (T := TX1) (N := 2) hx hb hts iw_X1_dropOldest_X1 hown hK hP 0 rfl rfl 0 (by decide) (hts (.fieldLink RX1 11 "FavourRings$History" "states" "[LFavourRings$Bank;") (List.mem_of_getElem? (i := 1) rfl)) (fun _ h9 => h9) rfl dX1_dropOldest_23 ?_
        refine lv_iload_n hx hb dX1_dropOldest_26 rfl (lv_at hl 0 rfl) ?_
        refine aaR (k := 3) (b := kH 3 0) hx hb hK hP 1 1 rfl rfl rfl (by decide) (vp_in_iff.mpr (by decide)) rfl dX1_dropOldest_27 ?_
        refine lv_ifnull hx hb dX1_dropOldest_28 ?_
        refine lv_aload_n hx hb dX1_dropOldest_31 rfl (lv_at hl 1 rfl) ?_
        refine va_get (D := D) (ci := 1) (v := .ref (adH 1)) (C := RX1) (T := TX1) (N := 2) hx hb hts iw_X1_dropOldest_X1 hown hK hP 0 rfl rfl 0 (by decide) (hts (.fieldLink RX1 11 "FavourRings$History" "states" "[LFavourRings$Bank;") (List.mem_of_getElem? (i := 1) rfl)) (fun _ h9 => h9) rfl dX1_dropOldest_32 ?_
        refine lv_iload_n hx hb dX1_dropOldest_35 rfl (lv_at hl 0 rfl) ?_
        refine lv_iconst (v := (1 : Int32)) hx hb dX1_dropOldest_36 (by decide) ?_
        refine lv_isub hx hb dX1_dropOldest_37 ?_
        refine aaR (k := 2) (b := kH 2 0) hx hb hK hP 1 1 rfl rfl rfl (by decide) (vp_in_iff.mpr (by decide)) rfl dX1_dropOldest_38 ?_
        refine lv_aload_n hx hb dX1_dropOldest_39 rfl (lv_at hl 1 rfl) ?_
        refine va_get (D := D) (ci := 1) (v := .ref (adH 1)) (C := RX1) (T := TX1) (N := 2) hx hb hts iw_X1_dropOldest_X1 hown hK hP 0 rfl rfl 0 (by decide) (hts (.fieldLink RX1 11 "FavourRings$History" "states" "[LFavourRings$Bank;") (List.mem_of_getElem? (i := 1) rfl)) (fun _ h9 => h9) rfl dX1_dropOldest_40 ?_
        refine lv_iload_n hx hb dX1_dropOldest_43 rfl (lv_at hl 0 rfl) ?_
        refine aaR (k := 3) (b := kH 3 0) hx hb hK hP 1 1 rfl rfl rfl (by decide) (vp_in_iff.mpr (by decide)) rfl dX1_dropOldest_44 ?_
        obtain ⟨u6, eu6, h⟩ := bd_in h
        refine kV (va_runV (As := [.ref ((kH 3) 0)]) (rest := []) ⟨hx, hb, hml, hown, hts⟩ (c_X0_copyFrom l D cA cQ (kH 2) (kH 3) (bH 2) (bH 3) u6 eu6 _) (cwV 1 hts gX1_dropOldest_X0_copyFrom rfl rfl rfl (by decide +kernel) ⟨Nat.le_of_ble_eq_true rfl, Nat.le_of_ble_eq_true rfl⟩) (pV (ci := 0) (q := (RX0, TX0, 13)) hK hN hP hD [30, 31, 32, 33, 34, 35, 36, 37, 38, 39, 40, 41, 42, 43, 44, 45, 46, 47, 48, 49, 50, 51, 52, 53, 54, 55, 56, 57] rfl rfl rfl rfl) rfl rfl hl.1 rfl (lv_room (Nat.le_of_ble_eq_true rfl)) dX1_dropOldest_45 ⟨Nat.zero_le _, Nat.zero_le _⟩) hP hD hS hA [30, 31, 32, 33, 34, 35, 36, 37, 38, 39, 40, 41, 42, 43, 44, 45, 46, 47, 48, 49, 50, 51, 52, 53, 54, 55, 56, 57] rfl rfl (ws' := (wH cA cQ adH vH kH (setB (setB (setB bH 0 u2) 1 u4) 2 u6))) rfl (fun H locs hP hD hS => ?_)
        refine lv_iinc (v := (4 : Int32)) (lv' := [(1, .int (4 : Int32)), (0, .ref (adH 0))]) hx hb dX1_dropOldest_48 hl (k := 0) rfl rfl (by decide) rfl (fun ls hl => ?_)
        refine lv_goto (tgt := 2) hx hb dX1_dropOldest_51 (by decide) ?_
        refine lv_iload_n hx hb dX1_dropOldest_2 rfl (lv_at hl 0 rfl) ?_
        refine lv_aload_n hx hb dX1_dropOldest_3 rfl (lv_at hl 1 rfl) ?_
        refine va_get (D := D) (ci := 1) (v := .ref (adH 1)) (C := RX1) (T := TX1) (N := 2) hx hb hts iw_X1_dropOldest_X1 hown hK hP 0 rfl rfl 0 (by decide) (hts (.fieldLink RX1 11 "FavourRings$History" "states" "[LFavourRings$Bank;") (List.mem_of_getElem? (i := 1) rfl)) (fun _ h9 => h9) rfl dX1_dropOldest_4 ?_
        refine va_alen hx hb hK hP 1 1 rfl rfl (v := (4 : Int32)) rfl dX1_dropOldest_7 ?_
        refine lv_icmp_ge (tgt := 54) hx hb dX1_dropOldest_8 (by decide) (fun c7 => ?_) (fun c7 => ?_)
        · skip
          refine lv_aload_n hx hb dX1_dropOldest_54 rfl (lv_at hl 1 rfl) ?_
          refine lv_dup hx hb dX1_dropOldest_55 rfl ?_
          refine va_get (D := D) (ci := 1) (v := .int (vH 99 1)) (C := RX1) (T := TX1) (N := 2) hx hb hts iw_X1_dropOldest_X1 hown hK hP 0 rfl rfl 1 (by decide) (hts (.fieldLink RX1 18 "FavourRings$History" "size" "I") (List.mem_of_getElem? (i := 2) rfl)) (fun _ h9 => h9) rfl dX1_dropOldest_56 ?_
          refine lv_iconst (v := (1 : Int32)) hx hb dX1_dropOldest_59 (by decide) ?_
          refine lv_isub hx hb dX1_dropOldest_60 ?_
          refine ptR (ci := 1) (v := .int ((vH 99 1) - (1 : Int32))) (ty := .int) (C := RX1) (T := TX1) (N := 2) hx hb hts iw_X1_dropOldest_X1 tyX1 tyX1_ok nmX1 hown hK hP hD hS 0 rfl rfl 1 (by decide) (hts (.fieldLink RX1 18 "FavourRings$History" "size" "I") (List.mem_of_getElem? (i := 2) rfl)) (fun _ h9 => h9) rfl (by decide +kernel) rfl rfl (Nat.le_of_ble_eq_true rfl) (ws' := (wH cA cQ adH (setI vH 1 ((vH 99 1) - (1 : Int32))) kH (setB (setB (setB bH 0 u2) 1 u4) 2 u6))) rfl dX1_dropOldest_61 (fun H locs hP hD hS => ?_)
          cases h
          exact endV hx hb hr hlocks hP hS dX1_dropOldest_64
        · exact absurd c7 (by decide)

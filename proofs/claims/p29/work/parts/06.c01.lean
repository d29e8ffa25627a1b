set_option maxHeartbeats 4000000 in
set_option maxRecDepth 100000 in
theorem c_L_arePupils (l : Launch) (D : va_G) (cA cQ : ClassId) (adF : Nat) (adB : Nat → Nat) (adT : Nat → Nat) (adH : Nat → Nat) (kH : Nat → Nat → Nat) (adR : Nat → Nat) (adO : Nat → Nat) (zl : Nat) (zp : Nat) (zt : Nat) (vB : St) (vT : St) (vH : St) (bH : Nat → St) (vR : St) (vO : St) (fl : Nat → Int32) (fp : Nat → Int32) (ft : Nat → Int32) (o : Int32) (hf : L_arePupils vB vT vH bH vR vO fl fp ft = some o) : Cti l yL_arePupils wsL_arePupils ({ frames := 5, cells := 0, slots := 0, locals := 117 }) D (TY cA cQ) [.ref adF, .ref zl, .ref zp, .ref zt] (wF cA cQ adF adB adT adH kH adR adO vB vT vH bH vR vO ++ [aI cA zl 41 fl, aI cA zp 48 fp, aI cA zt 16 ft]) (wF cA cQ adF adB adT adH kH adR adO vB vT vH bH vR vO ++ [aI cA zl 41 fl, aI cA zp 48 fp, aI cA zt 16 ft]) o := by
  refine Wk.i (cc := cL_arePupils) (maxL := 12) (ret := (some .boolean)) (by decide) rfl (Nat.le_of_ble_eq_true rfl) ?_
  intro p e s m below meth c A ls hx hb hr hlocks hml hown hts hK hN hP hD hA hl
  have hown : s.vm.findClass RL = some m.cls := hown
  have hS : va_S A s.heap s.heap [] := va_S.rf
  have hl : lv_has ls 12 [(0, .ref adF), (1, .ref zl), (2, .ref zp), (3, .ref zt)] := hl
  have B516 : ∀ (x4 : Int32) (x5 : Int32) (H : Heap) (locs : List Loc) (ls : Array Slot), L_arePupils_b516 vB vT vH bH vR vO fl fp ft x4 x5 = some o → va_P D vwCl (wF cA cQ adF adB adT adH kH adR adO vB vT vH bH vR vO ++ [aI cA zl 41 fl, aI cA zp 48 fp, aI cA zt 16 ft]) H → va_D A (wF cA cQ adF adB adT adH kH adR adO vB vT vH bH vR vO ++ [aI cA zl 41 fl, aI cA zp 48 fp, aI cA zt 16 ft]) → va_S A s.heap H locs → lv_has ls 12 [(0, .ref adF), (4, .int x4), (5, .int x5)] → W p l e (headSpec wsL_arePupils ({ frames := 5, cells := 0, slots := 0, locals := 117 })).room s m ([.ref adF, .ref zl, .ref zp, .ref zt] : List Value).toArray below meth c H locs 0 0 (MQ below (QI D (wF cA cQ adF adB adT adH kH adR adO vB vT vH bH vR vO ++ [aI cA zl 41 fl, aI cA zp 48 fp, aI cA zt 16 ft]) o A) ([.ref adF, .ref zl, .ref zp, .ref zt] : List Value).toArray s 0 0 A) (F0 m 516 ls []) := by
    intro x4 x5 H locs ls h hP hD hS hl
    unfold L_arePupils_b516 at h
    refine lv_iload hx hb dL_arePupils_516 (lv_at hl 2 rfl) ?_
    refine lv_if_eq (tgt := 536) hx hb dL_arePupils_518 (by decide) (fun c1 => ?_) (fun c1 => ?_)
    · have h := (if_pos c1).symm.trans h
      refine lv_iconst (v := (0 : Int32)) hx hb dL_arePupils_536 (by decide) ?_
      cases h
      exact endZ hx hb hr hlocks hP hS ⟨rfl, rfl⟩ dL_arePupils_537
    · have h := (if_neg c1).symm.trans h
      refine lv_aload_n hx hb dL_arePupils_521 rfl (lv_at hl 0 rfl) ?_
      refine lv_bipush (v := (11 : Int32)) hx hb dL_arePupils_522 (by decide) ?_
      obtain ⟨u2, eu2, h⟩ := bd_in h
      refine kI (va_runV (As := [.int (11 : Int32)]) (rest := []) ⟨hx, hb, hml, hown, hts⟩ (c_X4_count l D cA cQ adF adB adT adH kH adR adO vB vT vH bH vR vO (11 : Int32) u2 eu2 _) (cwV 1 hts gL_arePupils_X4_count rfl rfl rfl (by decide +kernel) ⟨Nat.le_of_ble_eq_true rfl, Nat.le_of_ble_eq_true rfl⟩) (pV (ci := 4) (q := (RX4, TX4, 5)) hK hN hP hD [0, 1, 2, 3, 4, 5, 6, 7, 8, 9, 10, 11, 12, 13, 14, 15, 16, 17, 18, 19, 20, 21, 22, 23, 24, 25, 26, 27, 28, 29, 30, 31, 32, 33, 34, 35, 36, 37, 38, 39, 40, 41, 42, 43, 44, 45, 46, 47, 48, 49, 50, 51, 52, 53, 54, 55, 56, 57, 58, 59, 60, 61, 62, 63, 64, 65, 66, 67, 68, 69, 70, 71, 72, 73, 74, 75, 76, 77, 78, 79, 80, 81, 82, 83, 84, 85, 86, 87, 88, 89, 90, 91, 92, 93, 94] rfl rfl rfl rfl) rfl rfl hl.1 rfl (lv_room (Nat.le_of_ble_eq_true rfl)) dL_arePupils_524 ⟨Nat.zero_le _, Nat.zero_le _⟩) hP hD hS hA [0, 1, 2, 3, 4, 5, 6, 7, 8, 9, 10, 11, 12, 13, 14, 15, 16, 17, 18, 19, 20, 21, 22, 23, 24, 25, 26, 27, 28, 29, 30, 31, 32, 33, 34, 35, 36, 37, 38, 39, 40, 41, 42, 43, 44, 45, 46, 47, 48, 49, 50, 51, 52, 53, 54, 55, 56, 57, 58, 59, 60, 61, 62, 63, 64, 65, 66, 67, 68, 69, 70, 71, 72, 73, 74, 75, 76, 77, 78, 79, 80, 81, 82, 83, 84, 85, 86, 87, 88, 89, 90, 91, 92, 93, 94] rfl rfl (ws' := (wF cA cQ adF adB adT adH kH adR adO vB vT vH bH vR vO ++ [aI cA zl 41 fl, aI cA zp 48 fp, aI cA zt 16 ft])) rfl (fun H locs hP hD hS => ?_)
      refine lv_iload hx hb dL_arePupils_527 (lv_at hl 1 rfl) ?_
      refine lv_icmp_ne (tgt := 536) hx hb dL_arePupils_529 (by decide) (fun c3 => ?_) (fun c3 => ?_)
      · have h := (if_neg c3).symm.trans h
        refine lv_iconst (v := (0 : Int32)) hx hb dL_arePupils_536 (by decide) ?_
        cases h
        exact endZ hx hb hr hlocks hP hS ⟨rfl, rfl⟩ dL_arePupils_537
      · have h := (if_pos c3).symm.trans h
        refine lv_iconst (v := (1 : Int32)) hx hb dL_arePupils_532 (by decide) ?_
        refine lv_goto (tgt := 537) hx hb dL_arePupils_533 (by decide) ?_
        cases h
        exact endZ hx hb hr hlocks hP hS ⟨rfl, rfl⟩ dL_arePupils_537
  have B48 : ∀ (fu48 : Nat) (x4 : Int32) (x5 : Int32) (x6 : Int32) (H : Heap) (locs : List Loc) (ls : Array Slot), L_arePupils_l48 vB vT vH bH vR vO fl fp ft fu48 x4 x5 x6 = some o → va_P D vwCl (wF cA cQ adF adB adT adH kH adR adO vB vT vH bH vR vO ++ [aI cA zl 41 fl, aI cA zp 48 fp, aI cA zt 16 ft]) H → va_D A (wF cA cQ adF adB adT adH kH adR adO vB vT vH bH vR vO ++ [aI cA zl 41 fl, aI cA zp 48 fp, aI cA zt 16 ft]) → va_S A s.heap H locs → lv_has ls 12 [(0, .ref adF), (1, .ref zl), (2, .ref zp), (3, .ref zt), (4, .int x4), (5, .int x5), (6, .int x6)] → W p l e (headSpec wsL_arePupils ({ frames := 5, cells := 0, slots := 0, locals := 117 })).room s m ([.ref adF, .ref zl, .ref zp, .ref zt] : List Value).toArray below meth c H locs 0 0 (MQ below (QI D (wF cA cQ adF adB adT adH kH adR adO vB vT vH bH vR vO ++ [aI cA zl 41 fl, aI cA zp 48 fp, aI cA zt 16 ft]) o A) ([.ref adF, .ref zl, .ref zp, .ref zt] : List Value).toArray s 0 0 A) (F0 m 48 ls []) := by
    intro fu48
    induction fu48 with
    | zero =>
      intro x4 x5 x6 H locs ls h hP hD hS hl
      cases h
    | succ fu48 ih48 =>
      have B413 : ∀ (x4 : Int32) (x6 : Int32) (x8 : Int32) (x9 : Int32) (t0 : Int32) (t1 : Int32) (H : Heap) (locs : List Loc) (ls : Array Slot), L_arePupils_b413 vB vT vH bH vR vO fl fp ft (L_arePupils_l48 vB vT vH bH vR vO fl fp ft fu48) x4 x6 x8 x9 t0 t1 = some o → va_P D vwCl (wF cA cQ adF adB adT adH kH adR adO vB vT vH bH vR vO ++ [aI cA zl 41 fl, aI cA zp 48 fp, aI cA zt 16 ft]) H → va_D A (wF cA cQ adF adB adT adH kH adR adO vB vT vH bH vR vO ++ [aI cA zl 41 fl, aI cA zp 48 fp, aI cA zt 16 ft]) → va_S A s.heap H locs → lv_has ls 12 [(0, .ref adF), (1, .ref zl), (2, .ref zp), (3, .ref zt), (4, .int x4), (6, .int x6), (8, .int x8), (9, .int x9)] → W p l e (headSpec wsL_arePupils ({ frames := 5, cells := 0, slots := 0, locals := 117 })).room s m ([.ref adF, .ref zl, .ref zp, .ref zt] : List Value).toArray below meth c H locs 0 0 (MQ below (QI D (wF cA cQ adF adB adT adH kH adR adO vB vT vH bH vR vO ++ [aI cA zl 41 fl, aI cA zp 48 fp, aI cA zt 16 ft]) o A) ([.ref adF, .ref zl, .ref zp, .ref zt] : List Value).toArray s 0 0 A) (F0 m 413 ls [.int t1, .int t0]) := by
        intro x4 x6 x8 x9 t0 t1 H locs ls h hP hD hS hl
        unfold L_arePupils_b413 at h
        refine lv_icmp_ne (tgt := 507) hx hb dL_arePupils_413 (by decide) (fun c4 => ?_) (fun c4 => ?_)
        · have h := (if_neg c4).symm.trans h
          refine lv_iconst (v := (0 : Int32)) hx hb dL_arePupils_507 (by decide) ?_
          refine lv_istore (lv' := [(5, .int (0 : Int32)), (0, .ref adF), (1, .ref zl), (2, .ref zp), (3, .ref zt), (4, .int x4), (6, .int x6), (8, .int x8), (9, .int x9)]) hx hb dL_arePupils_508 hl (by decide) rfl (fun ls hl => ?_)
          refine lv_iinc (v := (x6 + (1 : Int32))) (lv' := [(6, .int (x6 + (1 : Int32))), (5, .int (0 : Int32)), (0, .ref adF), (1, .ref zl), (2, .ref zp), (3, .ref zt), (4, .int x4), (8, .int x8), (9, .int x9)]) hx hb dL_arePupils_510 hl (k := 6) rfl rfl (by decide) rfl (fun ls hl => ?_)
          refine lv_goto (tgt := 48) hx hb dL_arePupils_513 (by decide) ?_
          exact ih48 x4 (0 : Int32) (x6 + (1 : Int32)) _ _ _ h hP hD hS (lv_sub hl [2, 3, 4, 5, 6, 1, 0] rfl)
        · have h := (if_pos c4).symm.trans h
          refine lv_aload_n hx hb dL_arePupils_416 rfl (lv_at hl 0 rfl) ?_
          refine lv_iload hx hb dL_arePupils_417 (lv_at hl 5 rfl) ?_
          refine lv_bipush (v := (7 : Int32)) hx hb dL_arePupils_419 (by decide) ?_
          obtain ⟨u5, eu5, h⟩ := bd_in h
          refine kI (va_runV (As := [.int x6, .int (7 : Int32)]) (rest := []) ⟨hx, hb, hml, hown, hts⟩ (c_X4_pupilOf l D cA cQ adF adB adT adH kH adR adO vB vT vH bH vR vO x6 (7 : Int32) u5 eu5 _) (cwV 2 hts gL_arePupils_X4_pupilOf rfl rfl rfl (by decide +kernel) ⟨Nat.le_of_ble_eq_true rfl, Nat.le_of_ble_eq_true rfl⟩) (pV (ci := 4) (q := (RX4, TX4, 5)) hK hN hP hD [0, 1, 2, 3, 4, 5, 6, 7, 8, 9, 10, 11, 12, 13, 14, 15, 16, 17, 18, 19, 20, 21, 22, 23, 24, 25, 26, 27, 28, 29, 30, 31, 32, 33, 34, 35, 36, 37, 38, 39, 40, 41, 42, 43, 44, 45, 46, 47, 48, 49, 50, 51, 52, 53, 54, 55, 56, 57, 58, 59, 60, 61, 62, 63, 64, 65, 66, 67, 68, 69, 70, 71, 72, 73, 74, 75, 76, 77, 78, 79, 80, 81, 82, 83, 84, 85, 86, 87, 88, 89, 90, 91, 92, 93, 94] rfl rfl rfl rfl) rfl rfl hl.1 rfl (lv_room (Nat.le_of_ble_eq_true rfl)) dL_arePupils_421 ⟨Nat.zero_le _, Nat.zero_le _⟩) hP hD hS hA [0, 1, 2, 3, 4, 5, 6, 7, 8, 9, 10, 11, 12, 13, 14, 15, 16, 17, 18, 19, 20, 21, 22, 23, 24, 25, 26, 27, 28, 29, 30, 31, 32, 33, 34, 35, 36, 37, 38, 39, 40, 41, 42, 43, 44, 45, 46, 47, 48, 49, 50, 51, 52, 53, 54, 55, 56, 57, 58, 59, 60, 61, 62, 63, 64, 65, 66, 67, 68, 69, 70, 71, 72, 73, 74, 75, 76, 77, 78, 79, 80, 81, 82, 83, 84, 85, 86, 87, 88, 89, 90, 91, 92, 93, 94] rfl rfl (ws' := (wF cA cQ adF adB adT adH kH adR adO vB vT vH bH vR vO ++ [aI cA zl 41 fl, aI cA zp 48 fp, aI cA zt 16 ft])) rfl (fun H locs hP hD hS => ?_)
          refine lv_aload_n hx hb dL_arePupils_424 rfl (lv_at hl 2 rfl) ?_
          refine lv_bipush (v := (6 : Int32)) hx hb dL_arePupils_425 (by decide) ?_
          refine lv_iload hx hb dL_arePupils_427 (lv_at hl 5 rfl) ?_
          refine lv_imul hx hb dL_arePupils_429 ?_
          refine lv_iconst (v := (3 : Int32)) hx hb dL_arePupils_430 (by decide) ?_
          refine lv_iadd hx hb dL_arePupils_431 ?_
          obtain ⟨y6, ey6, h⟩ := bd_in h
          refine ldR hx hb hK hP 96 0 rfl rfl ey6 dL_arePupils_432 ?_
          refine lv_icmp_ne (tgt := 507) hx hb dL_arePupils_433 (by decide) (fun c7 => ?_) (fun c7 => ?_)
          · have h := (if_neg c7).symm.trans h
            refine lv_iconst (v := (0 : Int32)) hx hb dL_arePupils_507 (by decide) ?_
            refine lv_istore (lv' := [(5, .int (0 : Int32)), (0, .ref adF), (1, .ref zl), (2, .ref zp), (3, .ref zt), (4, .int x4), (6, .int x6), (8, .int x8), (9, .int x9)]) hx hb dL_arePupils_508 hl (by decide) rfl (fun ls hl => ?_)
            refine lv_iinc (v := (x6 + (1 : Int32))) (lv' := [(6, .int (x6 + (1 : Int32))), (5, .int (0 : Int32)), (0, .ref adF), (1, .ref zl), (2, .ref zp), (3, .ref zt), (4, .int x4), (8, .int x8), (9, .int x9)]) hx hb dL_arePupils_510 hl (k := 6) rfl rfl (by decide) rfl (fun ls hl => ?_)
            refine lv_goto (tgt := 48) hx hb dL_arePupils_513 (by decide) ?_
            exact ih48 x4 (0 : Int32) (x6 + (1 : Int32)) _ _ _ h hP hD hS (lv_sub hl [2, 3, 4, 5, 6, 1, 0] rfl)
          · have h := (if_pos c7).symm.trans h
            refine lv_aload_n hx hb dL_arePupils_436 rfl (lv_at hl 0 rfl) ?_
            refine lv_iload hx hb dL_arePupils_437 (lv_at hl 5 rfl) ?_
            refine lv_bipush (v := (8 : Int32)) hx hb dL_arePupils_439 (by decide) ?_
            obtain ⟨u8, eu8, h⟩ := bd_in h
            refine kI (va_runV (As := [.int x6, .int (8 : Int32)]) (rest := []) ⟨hx, hb, hml, hown, hts⟩ (c_X4_pupilOf l D cA cQ adF adB adT adH kH adR adO vB vT vH bH vR vO x6 (8 : Int32) u8 eu8 _) (cwV 2 hts gL_arePupils_X4_pupilOf rfl rfl rfl (by decide +kernel) ⟨Nat.le_of_ble_eq_true rfl, Nat.le_of_ble_eq_true rfl⟩) (pV (ci := 4) (q := (RX4, TX4, 5)) hK hN hP hD [0, 1, 2, 3, 4, 5, 6, 7, 8, 9, 10, 11, 12, 13, 14, 15, 16, 17, 18, 19, 20, 21, 22, 23, 24, 25, 26, 27, 28, 29, 30, 31, 32, 33, 34, 35, 36, 37, 38, 39, 40, 41, 42, 43, 44, 45, 46, 47, 48, 49, 50, 51, 52, 53, 54, 55, 56, 57, 58, 59, 60, 61, 62, 63, 64, 65, 66, 67, 68, 69, 70, 71, 72, 73, 74, 75, 76, 77, 78, 79, 80, 81, 82, 83, 84, 85, 86, 87, 88, 89, 90, 91, 92, 93, 94] rfl rfl rfl rfl) rfl rfl hl.1 rfl (lv_room (Nat.le_of_ble_eq_true rfl)) dL_arePupils_441 ⟨Nat.zero_le _, Nat.zero_le _⟩) hP hD hS hA [0, 1, 2, 3, 4, 5, 6, 7, 8, 9, 10, 11, 12, 13, 14, 15, 16, 17, 18, 19, 20, 21, 22, 23, 24, 25, 26, 27, 28, 29, 30, 31, 32, 33, 34, 35, 36, 37, 38, 39, 40, 41, 42, 43, 44, 45, 46, 47, 48, 49, 50, 51, 52, 53, 54, 55, 56, 57, 58, 59, 60, 61, 62, 63, 64, 65, 66, 67, 68, 69, 70, 71, 72, 73, 74, 75, 76, 77, 78, 79, 80, 81, 82, 83, 84, 85, 86, 87, 88, 89, 90, 91, 92, 93, 94] rfl rfl (ws' := (wF cA cQ adF adB adT adH kH adR adO vB vT vH bH vR vO ++ [aI cA zl 41 fl, aI cA zp 48 fp, aI cA zt 16 ft])) rfl (fun H locs hP hD hS => ?_)
            refine lv_aload_n hx hb dL_arePupils_444 rfl (lv_at hl 2 rfl) ?_
            refine lv_bipush (v := (6 : Int32)) hx hb dL_arePupils_445 (by decide) ?_
            refine lv_iload hx hb dL_arePupils_447 (lv_at hl 5 rfl) ?_
            refine lv_imul hx hb dL_arePupils_449 ?_
            refine lv_iconst (v := (4 : Int32)) hx hb dL_arePupils_450 (by decide) ?_
            refine lv_iadd hx hb dL_arePupils_451 ?_
            obtain ⟨y9, ey9, h⟩ := bd_in h
            refine ldR hx hb hK hP 96 0 rfl rfl ey9 dL_arePupils_452 ?_
            refine lv_icmp_ne (tgt := 507) hx hb dL_arePupils_453 (by decide) (fun c10 => ?_) (fun c10 => ?_)
            · have h := (if_neg c10).symm.trans h
              refine lv_iconst (v := (0 : Int32)) hx hb dL_arePupils_507 (by decide) ?_
              refine lv_istore (lv' := [(5, .int (0 : Int32)), (0, .ref adF), (1, .ref zl), (2, .ref zp), (3, .ref zt), (4, .int x4), (6, .int x6), (8, .int x8), (9, .int x9)]) hx hb dL_arePupils_508 hl (by decide) rfl (fun ls hl => ?_)
              refine lv_iinc (v := (x6 + (1 : Int32))) (lv' := [(6, .int (x6 + (1 : Int32))), (5, .int (0 : Int32)), (0, .ref adF), (1, .ref zl), (2, .ref zp), (3, .ref zt), (4, .int x4), (8, .int x8), (9, .int x9)]) hx hb dL_arePupils_510 hl (k := 6) rfl rfl (by decide) rfl (fun ls hl => ?_)
              refine lv_goto (tgt := 48) hx hb dL_arePupils_513 (by decide) ?_
              exact ih48 x4 (0 : Int32) (x6 + (1 : Int32)) _ _ _ h hP hD hS (lv_sub hl [2, 3, 4, 5, 6, 1, 0] rfl)
            · have h := (if_pos c10).symm.trans h
              refine lv_aload_n hx hb dL_arePupils_456 rfl (lv_at hl 0 rfl) ?_
              refine lv_iload hx hb dL_arePupils_457 (lv_at hl 5 rfl) ?_
              obtain ⟨u11, eu11, h⟩ := bd_in h
              refine kI (va_runV (As := [.int x6]) (rest := []) ⟨hx, hb, hml, hown, hts⟩ (c_X4_spoilsIn l D cA cQ adF adB adT adH kH adR adO vB vT vH bH vR vO x6 u11 eu11 _) (cwV 1 hts gL_arePupils_X4_spoilsIn rfl rfl rfl (by decide +kernel) ⟨Nat.le_of_ble_eq_true rfl, Nat.le_of_ble_eq_true rfl⟩) (pV (ci := 4) (q := (RX4, TX4, 5)) hK hN hP hD [0, 1, 2, 3, 4, 5, 6, 7, 8, 9, 10, 11, 12, 13, 14, 15, 16, 17, 18, 19, 20, 21, 22, 23, 24, 25, 26, 27, 28, 29, 30, 31, 32, 33, 34, 35, 36, 37, 38, 39, 40, 41, 42, 43, 44, 45, 46, 47, 48, 49, 50, 51, 52, 53, 54, 55, 56, 57, 58, 59, 60, 61, 62, 63, 64, 65, 66, 67, 68, 69, 70, 71, 72, 73, 74, 75, 76, 77, 78, 79, 80, 81, 82, 83, 84, 85, 86, 87, 88, 89, 90, 91, 92, 93, 94] rfl rfl rfl rfl) rfl rfl hl.1 rfl (lv_room (Nat.le_of_ble_eq_true rfl)) dL_arePupils_459 ⟨Nat.zero_le _, Nat.zero_le _⟩) hP hD hS hA [0, 1, 2, 3, 4, 5, 6, 7, 8, 9, 10, 11, 12, 13, 14, 15, 16, 17, 18, 19, 20, 21, 22, 23, 24, 25, 26, 27, 28, 29, 30, 31, 32, 33, 34, 35, 36, 37, 38, 39, 40, 41, 42, 43, 44, 45, 46, 47, 48, 49, 50, 51, 52, 53, 54, 55, 56, 57, 58, 59, 60, 61, 62, 63, 64, 65, 66, 67, 68, 69, 70, 71, 72, 73, 74, 75, 76, 77, 78, 79, 80, 81, 82, 83, 84, 85, 86, 87, 88, 89, 90, 91, 92, 93, 94] rfl rfl (ws' := (wF cA cQ adF adB adT adH kH adR adO vB vT vH bH vR vO ++ [aI cA zl 41 fl, aI cA zp 48 fp, aI cA zt 16 ft])) rfl (fun H locs hP hD hS => ?_)
              refine lv_iload hx hb dL_arePupils_462 (lv_at hl 6 rfl) ?_
              refine lv_icmp_ne (tgt := 507) hx hb dL_arePupils_464 (by decide) (fun c12 => ?_) (fun c12 => ?_)
              · have h := (if_neg c12).symm.trans h
                refine lv_iconst (v := (0 : Int32)) hx hb dL_arePupils_507 (by decide) ?_
                refine lv_istore (lv' := [(5, .int (0 : Int32)), (0, .ref adF), (1, .ref zl), (2, .ref zp), (3, .ref zt), (4, .int x4), (6, .int x6), (8, .int x8), (9, .int x9)]) hx hb dL_arePupils_508 hl (by decide) rfl (fun ls hl => ?_)
                refine lv_iinc (v := (x6 + (1 : Int32))) (lv' := [(6, .int (x6 + (1 : Int32))), (5, .int (0 : Int32)), (0, .ref adF), (1, .ref zl), (2, .ref zp), (3, .ref zt), (4, .int x4), (8, .int x8), (9, .int x9)]) hx hb dL_arePupils_510 hl (k := 6) rfl rfl (by decide) rfl (fun ls hl => ?_)
                refine lv_goto (tgt := 48) hx hb dL_arePupils_513 (by decide) ?_
                exact ih48 x4 (0 : Int32) (x6 + (1 : Int32)) _ _ _ h hP hD hS (lv_sub hl [2, 3, 4, 5, 6, 1, 0] rfl)
              · have h := (if_pos c12).symm.trans h
                refine lv_aload_n hx hb dL_arePupils_467 rfl (lv_at hl 0 rfl) ?_
                refine lv_iload hx hb dL_arePupils_468 (lv_at hl 7 rfl) ?_
                obtain ⟨u13, eu13, h⟩ := bd_in h
                refine kI (va_runV (As := [.int x9]) (rest := []) ⟨hx, hb, hml, hown, hts⟩ (c_X4_richest l D cA cQ adF adB adT adH kH adR adO vB vT vH bH vR vO x9 u13 eu13 _) (cwV 1 hts gL_arePupils_X4_richest rfl rfl rfl (by decide +kernel) ⟨Nat.le_of_ble_eq_true rfl, Nat.le_of_ble_eq_true rfl⟩) (pV (ci := 4) (q := (RX4, TX4, 5)) hK hN hP hD [0, 1, 2, 3, 4, 5, 6, 7, 8, 9, 10, 11, 12, 13, 14, 15, 16, 17, 18, 19, 20, 21, 22, 23, 24, 25, 26, 27, 28, 29, 30, 31, 32, 33, 34, 35, 36, 37, 38, 39, 40, 41, 42, 43, 44, 45, 46, 47, 48, 49, 50, 51, 52, 53, 54, 55, 56, 57, 58, 59, 60, 61, 62, 63, 64, 65, 66, 67, 68, 69, 70, 71, 72, 73, 74, 75, 76, 77, 78, 79, 80, 81, 82, 83, 84, 85, 86, 87, 88, 89, 90, 91, 92, 93, 94] rfl rfl rfl rfl) rfl rfl hl.1 rfl (lv_room (Nat.le_of_ble_eq_true rfl)) dL_arePupils_470 ⟨Nat.zero_le _, Nat.zero_le _⟩) hP hD hS hA [0, 1, 2, 3, 4, 5, 6, 7, 8, 9, 10, 11, 12, 13, 14, 15, 16, 17, 18, 19, 20, 21, 22, 23, 24, 25, 26, 27, 28, 29, 30, 31, 32, 33, 34, 35, 36, 37, 38, 39, 40, 41, 42, 43, 44, 45, 46, 47, 48, 49, 50, 51, 52, 53, 54, 55, 56, 57, 58, 59, 60, 61, 62, 63, 64, 65, 66, 67, 68, 69, 70, 71, 72, 73, 74, 75, 76, 77, 78, 79, 80, 81, 82, 83, 84, 85, 86, 87, 88, 89, 90, 91, 92, 93, 94] rfl rfl (ws' := (wF cA cQ adF adB adT adH kH adR adO vB vT vH bH vR vO ++ [aI cA zl 41 fl, aI cA zp 48 fp, aI cA zt 16 ft])) rfl (fun H locs hP hD hS => ?_)
                refine lv_iload hx hb dL_arePupils_473 (lv_at hl 5 rfl) ?_
                refine lv_icmp_ne (tgt := 507) hx hb dL_arePupils_475 (by decide) (fun c14 => ?_) (fun c14 => ?_)
                · have h := (if_neg c14).symm.trans h
                  refine lv_iconst (v := (0 : Int32)) hx hb dL_arePupils_507 (by decide) ?_
                  refine lv_istore (lv' := [(5, .int (0 : Int32)), (0, .ref adF), (1, .ref zl), (2, .ref zp), (3, .ref zt), (4, .int x4), (6, .int x6), (8, .int x8), (9, .int x9)]) hx hb dL_arePupils_508 hl (by decide) rfl (fun ls hl => ?_)
                  refine lv_iinc (v := (x6 + (1 : Int32))) (lv' := [(6, .int (x6 + (1 : Int32))), (5, .int (0 : Int32)), (0, .ref adF), (1, .ref zl), (2, .ref zp), (3, .ref zt), (4, .int x4), (8, .int x8), (9, .int x9)]) hx hb dL_arePupils_510 hl (k := 6) rfl rfl (by decide) rfl (fun ls hl => ?_)
                  refine lv_goto (tgt := 48) hx hb dL_arePupils_513 (by decide) ?_
                  exact ih48 x4 (0 : Int32) (x6 + (1 : Int32)) _ _ _ h hP hD hS (lv_sub hl [2, 3, 4, 5, 6, 1, 0] rfl)
                · have h := (if_pos c14).symm.trans h
                  refine lv_aload_n hx hb dL_arePupils_478 rfl (lv_at hl 0 rfl) ?_
                  refine lv_iload hx hb dL_arePupils_479 (lv_at hl 5 rfl) ?_
                  refine lv_iconst (v := (1 : Int32)) hx hb dL_arePupils_481 (by decide) ?_
                  refine lv_iload hx hb dL_arePupils_482 (lv_at hl 5 rfl) ?_
                  refine lv_iadd hx hb dL_arePupils_484 ?_
                  obtain ⟨u15, eu15, h⟩ := bd_in h
                  refine kI (va_runV (As := [.int x6, .int ((1 : Int32) + x6)]) (rest := []) ⟨hx, hb, hml, hown, hts⟩ (c_X4_why l D cA cQ adF adB adT adH kH adR adO vB vT vH bH vR vO x6 ((1 : Int32) + x6) u15 eu15 _) (cwV 2 hts gL_arePupils_X4_why rfl rfl rfl (by decide +kernel) ⟨Nat.le_of_ble_eq_true rfl, Nat.le_of_ble_eq_true rfl⟩) (pV (ci := 4) (q := (RX4, TX4, 5)) hK hN hP hD [0, 1, 2, 3, 4, 5, 6, 7, 8, 9, 10, 11, 12, 13, 14, 15, 16, 17, 18, 19, 20, 21, 22, 23, 24, 25, 26, 27, 28, 29, 30, 31, 32, 33, 34, 35, 36, 37, 38, 39, 40, 41, 42, 43, 44, 45, 46, 47, 48, 49, 50, 51, 52, 53, 54, 55, 56, 57, 58, 59, 60, 61, 62, 63, 64, 65, 66, 67, 68, 69, 70, 71, 72, 73, 74, 75, 76, 77, 78, 79, 80, 81, 82, 83, 84, 85, 86, 87, 88, 89, 90, 91, 92, 93, 94] rfl rfl rfl rfl) rfl rfl hl.1 rfl (lv_room (Nat.le_of_ble_eq_true rfl)) dL_arePupils_485 ⟨Nat.zero_le _, Nat.zero_le _⟩) hP hD hS hA [0, 1, 2, 3, 4, 5, 6, 7, 8, 9, 10, 11, 12, 13, 14, 15, 16, 17, 18, 19, 20, 21, 22, 23, 24, 25, 26, 27, 28, 29, 30, 31, 32, 33, 34, 35, 36, 37, 38, 39, 40, 41, 42, 43, 44, 45, 46, 47, 48, 49, 50, 51, 52, 53, 54, 55, 56, 57, 58, 59, 60, 61, 62, 63, 64, 65, 66, 67, 68, 69, 70, 71, 72, 73, 74, 75, 76, 77, 78, 79, 80, 81, 82, 83, 84, 85, 86, 87, 88, 89, 90, 91, 92, 93, 94] rfl rfl (ws' := (wF cA cQ adF adB adT adH kH adR adO vB vT vH bH vR vO ++ [aI cA zl 41 fl, aI cA zp 48 fp, aI cA zt 16 ft])) rfl (fun H locs hP hD hS => ?_)
                  refine lv_aload_n hx hb dL_arePupils_488 rfl (lv_at hl 1 rfl) ?_
                  refine lv_aload_n hx hb dL_arePupils_489 rfl (lv_at hl 2 rfl) ?_
                  refine lv_aload_n hx hb dL_arePupils_490 rfl (lv_at hl 3 rfl) ?_
                  refine lv_iload hx hb dL_arePupils_491 (lv_at hl 5 rfl) ?_
                  refine lv_iconst (v := (1 : Int32)) hx hb dL_arePupils_493 (by decide) ?_
                  refine lv_iload hx hb dL_arePupils_494 (lv_at hl 5 rfl) ?_
                  refine lv_iadd hx hb dL_arePupils_496 ?_
                  obtain ⟨u16, eu16, h⟩ := bd_in h
                  refine kI (va_runS (As := [.ref zl, .ref zp, .ref zt, .int x6, .int ((1 : Int32) + x6)]) (rest := [.int u15]) ⟨hx, hb, hml, hown, hts⟩ (c_L_why l D cA cQ zl zp zt fl fp ft x6 ((1 : Int32) + x6) u16 eu16 _) (va_cwS 5 hts gL_arePupils_L_why rfl rfl rfl (by decide +kernel) ⟨Nat.le_of_ble_eq_true rfl, Nat.le_of_ble_eq_true rfl⟩) (pS hK hN hP hD [95, 96, 97] rfl rfl) rfl rfl hl.1 rfl (lv_room (Nat.le_of_ble_eq_true rfl)) dL_arePupils_497 ⟨Nat.zero_le _, Nat.zero_le _⟩) hP hD hS hA [95, 96, 97] rfl rfl (ws' := (wF cA cQ adF adB adT adH kH adR adO vB vT vH bH vR vO ++ [aI cA zl 41 fl, aI cA zp 48 fp, aI cA zt 16 ft])) rfl (fun H locs hP hD hS => ?_)
                  refine lv_icmp_ne (tgt := 507) hx hb dL_arePupils_500 (by decide) (fun c17 => ?_) (fun c17 => ?_)
                  · have h := (if_neg c17).symm.trans h
                    refine lv_iconst (v := (0 : Int32)) hx hb dL_arePupils_507 (by decide) ?_
                    refine lv_istore (lv' := [(5, .int (0 : Int32)), (0, .ref adF), (1, .ref zl), (2, .ref zp), (3, .ref zt), (4, .int x4), (6, .int x6), (8, .int x8), (9, .int x9)]) hx hb dL_arePupils_508 hl (by decide) rfl (fun ls hl => ?_)
                    refine lv_iinc (v := (x6 + (1 : Int32))) (lv' := [(6, .int (x6 + (1 : Int32))), (5, .int (0 : Int32)), (0, .ref adF), (1, .ref zl), (2, .ref zp), (3, .ref zt), (4, .int x4), (8, .int x8), (9, .int x9)]) hx hb dL_arePupils_510 hl (k := 6) rfl rfl (by decide) rfl (fun ls hl => ?_)
                    refine lv_goto (tgt := 48) hx hb dL_arePupils_513 (by decide) ?_
                    exact ih48 x4 (0 : Int32) (x6 + (1 : Int32)) _ _ _ h hP hD hS (lv_sub hl [2, 3, 4, 5, 6, 1, 0] rfl)
                  · have h := (if_pos c17).symm.trans h
                    refine lv_iconst (v := (1 : Int32)) hx hb dL_arePupils_503 (by decide) ?_
                    refine lv_goto (tgt := 508) hx hb dL_arePupils_504 (by decide) ?_
                    refine lv_istore (lv' := [(5, .int (1 : Int32)), (0, .ref adF), (1, .ref zl), (2, .ref zp), (3, .ref zt), (4, .int x4), (6, .int x6), (8, .int x8), (9, .int x9)]) hx hb dL_arePupils_508 hl (by decide) rfl (fun ls hl => ?_)
                    refine lv_iinc (v := (x6 + (1 : Int32))) (lv' := [(6, .int (x6 + (1 : Int32))), (5, .int (1 : Int32)), (0, .ref adF), (1, .ref zl), (2, .ref zp), (3, .ref zt), (4, .int x4), (8, .int x8), (9, .int x9)]) hx hb dL_arePupils_510 hl (k := 6) rfl rfl (by decide) rfl (fun ls hl => ?_)
                    refine lv_goto (tgt := 48) hx hb dL_arePupils_513 (by decide) ?_
                    exact ih48 x4 (1 : Int32) (x6 + (1 : Int32)) _ _ _ h hP hD hS (lv_sub hl [2, 3, 4, 5, 6, 1, 0] rfl)
      have B261 : ∀ (x4 : Int32) (x6 : Int32) (x7 : Int32) (x8 : Int32) (x9 : Int32) (H : Heap) (locs : List Loc) (ls : Array Slot), L_arePupils_b261 vB vT vH bH vR vO fl fp ft (L_arePupils_l48 vB vT vH bH vR vO fl fp ft fu48) x4 x6 x7 x8 x9 = some o → va_P D vwCl (wF cA cQ adF adB adT adH kH adR adO vB vT vH bH vR vO ++ [aI cA zl 41 fl, aI cA zp 48 fp, aI cA zt 16 ft]) H → va_D A (wF cA cQ adF adB adT adH kH adR adO vB vT vH bH vR vO ++ [aI cA zl 41 fl, aI cA zp 48 fp, aI cA zt 16 ft]) → va_S A s.heap H locs → lv_has ls 12 [(0, .ref adF), (1, .ref zl), (2, .ref zp), (3, .ref zt), (4, .int x4), (6, .int x6), (7, .int x7), (8, .int x8), (9, .int x9)] → W p l e (headSpec wsL_arePupils ({ frames := 5, cells := 0, slots := 0, locals := 117 })).room s m ([.ref adF, .ref zl, .ref zp, .ref zt] : List Value).toArray below meth c H locs 0 0 (MQ below (QI D (wF cA cQ adF adB adT adH kH adR adO vB vT vH bH vR vO ++ [aI cA zl 41 fl, aI cA zp 48 fp, aI cA zt 16 ft]) o A) ([.ref adF, .ref zl, .ref zp, .ref zt] : List Value).toArray s 0 0 A) (F0 m 261 ls []) := by
        intro x4 x6 x7 x8 x9 H locs ls h hP hD hS hl
        unfold L_arePupils_b261 at h
        refine lv_aload_n hx hb dL_arePupils_261 rfl (lv_at hl 0 rfl) ?_
        refine lv_iload hx hb dL_arePupils_262 (lv_at hl 5 rfl) ?_
        refine lv_iconst (v := (0 : Int32)) hx hb dL_arePupils_264 (by decide) ?_
        obtain ⟨u18, eu18, h⟩ := bd_in h
        refine kI (va_runV (As := [.int x6, .int (0 : Int32)]) (rest := []) ⟨hx, hb, hml, hown, hts⟩ (c_X4_pupilOf l D cA cQ adF adB adT adH kH adR adO vB vT vH bH vR vO x6 (0 : Int32) u18 eu18 _) (cwV 2 hts gL_arePupils_X4_pupilOf rfl rfl rfl (by decide +kernel) ⟨Nat.le_of_ble_eq_true rfl, Nat.le_of_ble_eq_true rfl⟩) (pV (ci := 4) (q := (RX4, TX4, 5)) hK hN hP hD [0, 1, 2, 3, 4, 5, 6, 7, 8, 9, 10, 11, 12, 13, 14, 15, 16, 17, 18, 19, 20, 21, 22, 23, 24, 25, 26, 27, 28, 29, 30, 31, 32, 33, 34, 35, 36, 37, 38, 39, 40, 41, 42, 43, 44, 45, 46, 47, 48, 49, 50, 51, 52, 53, 54, 55, 56, 57, 58, 59, 60, 61, 62, 63, 64, 65, 66, 67, 68, 69, 70, 71, 72, 73, 74, 75, 76, 77, 78, 79, 80, 81, 82, 83, 84, 85, 86, 87, 88, 89, 90, 91, 92, 93, 94] rfl rfl rfl rfl) rfl rfl hl.1 rfl (lv_room (Nat.le_of_ble_eq_true rfl)) dL_arePupils_265 ⟨Nat.zero_le _, Nat.zero_le _⟩) hP hD hS hA [0, 1, 2, 3, 4, 5, 6, 7, 8, 9, 10, 11, 12, 13, 14, 15, 16, 17, 18, 19, 20, 21, 22, 23, 24, 25, 26, 27, 28, 29, 30, 31, 32, 33, 34, 35, 36, 37, 38, 39, 40, 41, 42, 43, 44, 45, 46, 47, 48, 49, 50, 51, 52, 53, 54, 55, 56, 57, 58, 59, 60, 61, 62, 63, 64, 65, 66, 67, 68, 69, 70, 71, 72, 73, 74, 75, 76, 77, 78, 79, 80, 81, 82, 83, 84, 85, 86, 87, 88, 89, 90, 91, 92, 93, 94] rfl rfl (ws' := (wF cA cQ adF adB adT adH kH adR adO vB vT vH bH vR vO ++ [aI cA zl 41 fl, aI cA zp 48 fp, aI cA zt 16 ft])) rfl (fun H locs hP hD hS => ?_)
        refine lv_aload_n hx hb dL_arePupils_268 rfl (lv_at hl 1 rfl) ?_
        refine lv_aload_n hx hb dL_arePupils_269 rfl (lv_at hl 3 rfl) ?_
        refine lv_iload hx hb dL_arePupils_270 (lv_at hl 5 rfl) ?_
        obtain ⟨u19, eu19, h⟩ := bd_in h
        refine kI (va_runS (As := [.ref zl, .ref zt, .int x6]) (rest := [.int u18]) ⟨hx, hb, hml, hown, hts⟩ (c_L_owing l D cA cQ zl zt fl ft x6 u19 eu19 _) (va_cwS 3 hts gL_arePupils_L_owing rfl rfl rfl (by decide +kernel) ⟨Nat.le_of_ble_eq_true rfl, Nat.le_of_ble_eq_true rfl⟩) (pS hK hN hP hD [95, 97] rfl rfl) rfl rfl hl.1 rfl (lv_room (Nat.le_of_ble_eq_true rfl)) dL_arePupils_272 ⟨Nat.zero_le _, Nat.zero_le _⟩) hP hD hS hA [95, 97] rfl rfl (ws' := (wF cA cQ adF adB adT adH kH adR adO vB vT vH bH vR vO ++ [aI cA zl 41 fl, aI cA zp 48 fp, aI cA zt 16 ft])) rfl (fun H locs hP hD hS => ?_)
        refine lv_icmp_ne (tgt := 507) hx hb dL_arePupils_275 (by decide) (fun c20 => ?_) (fun c20 => ?_)
        · have h := (if_neg c20).symm.trans h
          refine lv_iconst (v := (0 : Int32)) hx hb dL_arePupils_507 (by decide) ?_
          refine lv_istore (lv' := [(5, .int (0 : Int32)), (0, .ref adF), (1, .ref zl), (2, .ref zp), (3, .ref zt), (4, .int x4), (6, .int x6), (7, .int x7), (8, .int x8), (9, .int x9)]) hx hb dL_arePupils_508 hl (by decide) rfl (fun ls hl => ?_)
          refine lv_iinc (v := (x6 + (1 : Int32))) (lv' := [(6, .int (x6 + (1 : Int32))), (5, .int (0 : Int32)), (0, .ref adF), (1, .ref zl), (2, .ref zp), (3, .ref zt), (4, .int x4), (7, .int x7), (8, .int x8), (9, .int x9)]) hx hb dL_arePupils_510 hl (k := 6) rfl rfl (by decide) rfl (fun ls hl => ?_)
          refine lv_goto (tgt := 48) hx hb dL_arePupils_513 (by decide) ?_
          exact ih48 x4 (0 : Int32) (x6 + (1 : Int32)) _ _ _ h hP hD hS (lv_sub hl [2, 3, 4, 5, 6, 1, 0] rfl)
        · have h := (if_pos c20).symm.trans h
          refine lv_aload_n hx hb dL_arePupils_278 rfl (lv_at hl 0 rfl) ?_
          refine lv_iload hx hb dL_arePupils_279 (lv_at hl 5 rfl) ?_
          refine lv_iconst (v := (1 : Int32)) hx hb dL_arePupils_281 (by decide) ?_
          obtain ⟨u21, eu21, h⟩ := bd_in h
          refine kI (va_runV (As := [.int x6, .int (1 : Int32)]) (rest := []) ⟨hx, hb, hml, hown, hts⟩ (c_X4_pupilOf l D cA cQ adF adB adT adH kH adR adO vB vT vH bH vR vO x6 (1 : Int32) u21 eu21 _) (cwV 2 hts gL_arePupils_X4_pupilOf rfl rfl rfl (by decide +kernel) ⟨Nat.le_of_ble_eq_true rfl, Nat.le_of_ble_eq_true rfl⟩) (pV (ci := 4) (q := (RX4, TX4, 5)) hK hN hP hD [0, 1, 2, 3, 4, 5, 6, 7, 8, 9, 10, 11, 12, 13, 14, 15, 16, 17, 18, 19, 20, 21, 22, 23, 24, 25, 26, 27, 28, 29, 30, 31, 32, 33, 34, 35, 36, 37, 38, 39, 40, 41, 42, 43, 44, 45, 46, 47, 48, 49, 50, 51, 52, 53, 54, 55, 56, 57, 58, 59, 60, 61, 62, 63, 64, 65, 66, 67, 68, 69, 70, 71, 72, 73, 74, 75, 76, 77, 78, 79, 80, 81, 82, 83, 84, 85, 86, 87, 88, 89, 90, 91, 92, 93, 94] rfl rfl rfl rfl) rfl rfl hl.1 rfl (lv_room (Nat.le_of_ble_eq_true rfl)) dL_arePupils_282 ⟨Nat.zero_le _, Nat.zero_le _⟩) hP hD hS hA [0, 1, 2, 3, 4, 5, 6, 7, 8, 9, 10, 11, 12, 13, 14, 15, 16, 17, 18, 19, 20, 21, 22, 23, 24, 25, 26, 27, 28, 29, 30, 31, 32, 33, 34, 35, 36, 37, 38, 39, 40, 41, 42, 43, 44, 45, 46, 47, 48, 49, 50, 51, 52, 53, 54, 55, 56, 57, 58, 59, 60, 61, 62, 63, 64, 65, 66, 67, 68, 69, 70, 71, 72, 73, 74, 75, 76, 77, 78, 79, 80, 81, 82, 83, 84, 85, 86, 87, 88, 89, 90, 91, 92, 93, 94] rfl rfl (ws' := (wF cA cQ adF adB adT adH kH adR adO vB vT vH bH vR vO ++ [aI cA zl 41 fl, aI cA zp 48 fp, aI cA zt 16 ft])) rfl (fun H locs hP hD hS => ?_)
          refine lv_aload_n hx hb dL_arePupils_285 rfl (lv_at hl 1 rfl) ?_
          refine lv_aload_n hx hb dL_arePupils_286 rfl (lv_at hl 3 rfl) ?_
          refine lv_iload hx hb dL_arePupils_287 (lv_at hl 5 rfl) ?_
          obtain ⟨u22, eu22, h⟩ := bd_in h
          refine kI (va_runS (As := [.ref zl, .ref zt, .int x6]) (rest := [.int u21]) ⟨hx, hb, hml, hown, hts⟩ (c_L_had l D cA cQ zl zt fl ft x6 u22 eu22 _) (va_cwS 3 hts gL_arePupils_L_had rfl rfl rfl (by decide +kernel) ⟨Nat.le_of_ble_eq_true rfl, Nat.le_of_ble_eq_true rfl⟩) (pS hK hN hP hD [95, 97] rfl rfl) rfl rfl hl.1 rfl (lv_room (Nat.le_of_ble_eq_true rfl)) dL_arePupils_289 ⟨Nat.zero_le _, Nat.zero_le _⟩) hP hD hS hA [95, 97] rfl rfl (ws' := (wF cA cQ adF adB adT adH kH adR adO vB vT vH bH vR vO ++ [aI cA zl 41 fl, aI cA zp 48 fp, aI cA zt 16 ft])) rfl (fun H locs hP hD hS => ?_)
          refine lv_icmp_ne (tgt := 507) hx hb dL_arePupils_292 (by decide) (fun c23 => ?_) (fun c23 => ?_)
          · have h := (if_neg c23).symm.trans h
            refine lv_iconst (v := (0 : Int32)) hx hb dL_arePupils_507 (by decide) ?_
            refine lv_istore (lv' := [(5, .int (0 : Int32)), (0, .ref adF), (1, .ref zl), (2, .ref zp), (3, .ref zt), (4, .int x4), (6, .int x6), (7, .int x7), (8, .int x8), (9, .int x9)]) hx hb dL_arePupils_508 hl (by decide) rfl (fun ls hl => ?_)
            refine lv_iinc (v := (x6 + (1 : Int32))) (lv' := [(6, .int (x6 + (1 : Int32))), (5, .int (0 : Int32)), (0, .ref adF), (1, .ref zl), (2, .ref zp), (3, .ref zt), (4, .int x4), (7, .int x7), (8, .int x8), (9, .int x9)]) hx hb dL_arePupils_510 hl (k := 6) rfl rfl (by decide) rfl (fun ls hl => ?_)
            refine lv_goto (tgt := 48) hx hb dL_arePupils_513 (by decide) ?_
            exact ih48 x4 (0 : Int32) (x6 + (1 : Int32)) _ _ _ h hP hD hS (lv_sub hl [2, 3, 4, 5, 6, 1, 0] rfl)
          · have h := (if_pos c23).symm.trans h
            refine lv_aload_n hx hb dL_arePupils_295 rfl (lv_at hl 0 rfl) ?_
            refine lv_iload hx hb dL_arePupils_296 (lv_at hl 5 rfl) ?_
            refine lv_iconst (v := (2 : Int32)) hx hb dL_arePupils_298 (by decide) ?_
            obtain ⟨u24, eu24, h⟩ := bd_in h
            refine kI (va_runV (As := [.int x6, .int (2 : Int32)]) (rest := []) ⟨hx, hb, hml, hown, hts⟩ (c_X4_pupilOf l D cA cQ adF adB adT adH kH adR adO vB vT vH bH vR vO x6 (2 : Int32) u24 eu24 _) (cwV 2 hts gL_arePupils_X4_pupilOf rfl rfl rfl (by decide +kernel) ⟨Nat.le_of_ble_eq_true rfl, Nat.le_of_ble_eq_true rfl⟩) (pV (ci := 4) (q := (RX4, TX4, 5)) hK hN hP hD [0, 1, 2, 3, 4, 5, 6, 7, 8, 9, 10, 11, 12, 13, 14, 15, 16, 17, 18, 19, 20, 21, 22, 23, 24, 25, 26, 27, 28, 29, 30, 31, 32, 33, 34, 35, 36, 37, 38, 39, 40, 41, 42, 43, 44, 45, 46, 47, 48, 49, 50, 51, 52, 53, 54, 55, 56, 57, 58, 59, 60, 61, 62, 63, 64, 65, 66, 67, 68, 69, 70, 71, 72, 73, 74, 75, 76, 77, 78, 79, 80, 81, 82, 83, 84, 85, 86, 87, 88, 89, 90, 91, 92, 93, 94] rfl rfl rfl rfl) rfl rfl hl.1 rfl (lv_room (Nat.le_of_ble_eq_true rfl)) dL_arePupils_299 ⟨Nat.zero_le _, Nat.zero_le _⟩) hP hD hS hA [0, 1, 2, 3, 4, 5, 6, 7, 8, 9, 10, 11, 12, 13, 14, 15, 16, 17, 18, 19, 20, 21, 22, 23, 24, 25, 26, 27, 28, 29, 30, 31, 32, 33, 34, 35, 36, 37, 38, 39, 40, 41, 42, 43, 44, 45, 46, 47, 48, 49, 50, 51, 52, 53, 54, 55, 56, 57, 58, 59, 60, 61, 62, 63, 64, 65, 66, 67, 68, 69, 70, 71, 72, 73, 74, 75, 76, 77, 78, 79, 80, 81, 82, 83, 84, 85, 86, 87, 88, 89, 90, 91, 92, 93, 94] rfl rfl (ws' := (wF cA cQ adF adB adT adH kH adR adO vB vT vH bH vR vO ++ [aI cA zl 41 fl, aI cA zp 48 fp, aI cA zt 16 ft])) rfl (fun H locs hP hD hS => ?_)
            refine lv_sipush (v := (1000 : Int32)) hx hb dL_arePupils_302 (by decide) ?_
            refine lv_iload hx hb dL_arePupils_305 (lv_at hl 6 rfl) ?_
            refine lv_iadd hx hb dL_arePupils_307 ?_
            refine lv_icmp_ne (tgt := 507) hx hb dL_arePupils_308 (by decide) (fun c25 => ?_) (fun c25 => ?_)
            · have h := (if_neg c25).symm.trans h
              refine lv_iconst (v := (0 : Int32)) hx hb dL_arePupils_507 (by decide) ?_
              refine lv_istore (lv' := [(5, .int (0 : Int32)), (0, .ref adF), (1, .ref zl), (2, .ref zp), (3, .ref zt), (4, .int x4), (6, .int x6), (7, .int x7), (8, .int x8), (9, .int x9)]) hx hb dL_arePupils_508 hl (by decide) rfl (fun ls hl => ?_)
              refine lv_iinc (v := (x6 + (1 : Int32))) (lv' := [(6, .int (x6 + (1 : Int32))), (5, .int (0 : Int32)), (0, .ref adF), (1, .ref zl), (2, .ref zp), (3, .ref zt), (4, .int x4), (7, .int x7), (8, .int x8), (9, .int x9)]) hx hb dL_arePupils_510 hl (k := 6) rfl rfl (by decide) rfl (fun ls hl => ?_)
              refine lv_goto (tgt := 48) hx hb dL_arePupils_513 (by decide) ?_
              exact ih48 x4 (0 : Int32) (x6 + (1 : Int32)) _ _ _ h hP hD hS (lv_sub hl [2, 3, 4, 5, 6, 1, 0] rfl)
            · have h := (if_pos c25).symm.trans h
              refine lv_aload_n hx hb dL_arePupils_311 rfl (lv_at hl 0 rfl) ?_
              refine lv_iload hx hb dL_arePupils_312 (lv_at hl 5 rfl) ?_
              refine lv_iconst (v := (3 : Int32)) hx hb dL_arePupils_314 (by decide) ?_
              obtain ⟨u26, eu26, h⟩ := bd_in h
              refine kI (va_runV (As := [.int x6, .int (3 : Int32)]) (rest := []) ⟨hx, hb, hml, hown, hts⟩ (c_X4_pupilOf l D cA cQ adF adB adT adH kH adR adO vB vT vH bH vR vO x6 (3 : Int32) u26 eu26 _) (cwV 2 hts gL_arePupils_X4_pupilOf rfl rfl rfl (by decide +kernel) ⟨Nat.le_of_ble_eq_true rfl, Nat.le_of_ble_eq_true rfl⟩) (pV (ci := 4) (q := (RX4, TX4, 5)) hK hN hP hD [0, 1, 2, 3, 4, 5, 6, 7, 8, 9, 10, 11, 12, 13, 14, 15, 16, 17, 18, 19, 20, 21, 22, 23, 24, 25, 26, 27, 28, 29, 30, 31, 32, 33, 34, 35, 36, 37, 38, 39, 40, 41, 42, 43, 44, 45, 46, 47, 48, 49, 50, 51, 52, 53, 54, 55, 56, 57, 58, 59, 60, 61, 62, 63, 64, 65, 66, 67, 68, 69, 70, 71, 72, 73, 74, 75, 76, 77, 78, 79, 80, 81, 82, 83, 84, 85, 86, 87, 88, 89, 90, 91, 92, 93, 94] rfl rfl rfl rfl) rfl rfl hl.1 rfl (lv_room (Nat.le_of_ble_eq_true rfl)) dL_arePupils_315 ⟨Nat.zero_le _, Nat.zero_le _⟩) hP hD hS hA [0, 1, 2, 3, 4, 5, 6, 7, 8, 9, 10, 11, 12, 13, 14, 15, 16, 17, 18, 19, 20, 21, 22, 23, 24, 25, 26, 27, 28, 29, 30, 31, 32, 33, 34, 35, 36, 37, 38, 39, 40, 41, 42, 43, 44, 45, 46, 47, 48, 49, 50, 51, 52, 53, 54, 55, 56, 57, 58, 59, 60, 61, 62, 63, 64, 65, 66, 67, 68, 69, 70, 71, 72, 73, 74, 75, 76, 77, 78, 79, 80, 81, 82, 83, 84, 85, 86, 87, 88, 89, 90, 91, 92, 93, 94] rfl rfl (ws' := (wF cA cQ adF adB adT adH kH adR adO vB vT vH bH vR vO ++ [aI cA zl 41 fl, aI cA zp 48 fp, aI cA zt 16 ft])) rfl (fun H locs hP hD hS => ?_)
              refine lv_sipush (v := (1000 : Int32)) hx hb dL_arePupils_318 (by decide) ?_
              refine lv_iload hx hb dL_arePupils_321 (lv_at hl 6 rfl) ?_
              refine lv_iadd hx hb dL_arePupils_323 ?_
              refine lv_icmp_ne (tgt := 507) hx hb dL_arePupils_324 (by decide) (fun c27 => ?_) (fun c27 => ?_)
              · have h := (if_neg c27).symm.trans h
                refine lv_iconst (v := (0 : Int32)) hx hb dL_arePupils_507 (by decide) ?_
                refine lv_istore (lv' := [(5, .int (0 : Int32)), (0, .ref adF), (1, .ref zl), (2, .ref zp), (3, .ref zt), (4, .int x4), (6, .int x6), (7, .int x7), (8, .int x8), (9, .int x9)]) hx hb dL_arePupils_508 hl (by decide) rfl (fun ls hl => ?_)
                refine lv_iinc (v := (x6 + (1 : Int32))) (lv' := [(6, .int (x6 + (1 : Int32))), (5, .int (0 : Int32)), (0, .ref adF), (1, .ref zl), (2, .ref zp), (3, .ref zt), (4, .int x4), (7, .int x7), (8, .int x8), (9, .int x9)]) hx hb dL_arePupils_510 hl (k := 6) rfl rfl (by decide) rfl (fun ls hl => ?_)
                refine lv_goto (tgt := 48) hx hb dL_arePupils_513 (by decide) ?_
                exact ih48 x4 (0 : Int32) (x6 + (1 : Int32)) _ _ _ h hP hD hS (lv_sub hl [2, 3, 4, 5, 6, 1, 0] rfl)
              · have h := (if_pos c27).symm.trans h
                refine lv_aload_n hx hb dL_arePupils_327 rfl (lv_at hl 2 rfl) ?_
                refine lv_bipush (v := (6 : Int32)) hx hb dL_arePupils_328 (by decide) ?_
                refine lv_iload hx hb dL_arePupils_330 (lv_at hl 5 rfl) ?_
                refine lv_imul hx hb dL_arePupils_332 ?_
                refine lv_iconst (v := (5 : Int32)) hx hb dL_arePupils_333 (by decide) ?_
                refine lv_iadd hx hb dL_arePupils_334 ?_
                obtain ⟨y28, ey28, h⟩ := bd_in h
                refine ldR hx hb hK hP 96 0 rfl rfl ey28 dL_arePupils_335 ?_
                refine lv_iload hx hb dL_arePupils_336 (lv_at hl 6 rfl) ?_
                refine lv_icmp_ne (tgt := 507) hx hb dL_arePupils_338 (by decide) (fun c29 => ?_) (fun c29 => ?_)
                · have h := (if_neg c29).symm.trans h
                  refine lv_iconst (v := (0 : Int32)) hx hb dL_arePupils_507 (by decide) ?_
                  refine lv_istore (lv' := [(5, .int (0 : Int32)), (0, .ref adF), (1, .ref zl), (2, .ref zp), (3, .ref zt), (4, .int x4), (6, .int x6), (7, .int x7), (8, .int x8), (9, .int x9)]) hx hb dL_arePupils_508 hl (by decide) rfl (fun ls hl => ?_)
                  refine lv_iinc (v := (x6 + (1 : Int32))) (lv' := [(6, .int (x6 + (1 : Int32))), (5, .int (0 : Int32)), (0, .ref adF), (1, .ref zl), (2, .ref zp), (3, .ref zt), (4, .int x4), (7, .int x7), (8, .int x8), (9, .int x9)]) hx hb dL_arePupils_510 hl (k := 6) rfl rfl (by decide) rfl (fun ls hl => ?_)
                  refine lv_goto (tgt := 48) hx hb dL_arePupils_513 (by decide) ?_
                  exact ih48 x4 (0 : Int32) (x6 + (1 : Int32)) _ _ _ h hP hD hS (lv_sub hl [2, 3, 4, 5, 6, 1, 0] rfl)
                · have h := (if_pos c29).symm.trans h
                  refine lv_aload_n hx hb dL_arePupils_341 rfl (lv_at hl 0 rfl) ?_
                  refine lv_iload hx hb dL_arePupils_342 (lv_at hl 5 rfl) ?_
                  refine lv_iconst (v := (4 : Int32)) hx hb dL_arePupils_344 (by decide) ?_
                  obtain ⟨u30, eu30, h⟩ := bd_in h
                  refine kI (va_runV (As := [.int x6, .int (4 : Int32)]) (rest := []) ⟨hx, hb, hml, hown, hts⟩ (c_X4_pupilOf l D cA cQ adF adB adT adH kH adR adO vB vT vH bH vR vO x6 (4 : Int32) u30 eu30 _) (cwV 2 hts gL_arePupils_X4_pupilOf rfl rfl rfl (by decide +kernel) ⟨Nat.le_of_ble_eq_true rfl, Nat.le_of_ble_eq_true rfl⟩) (pV (ci := 4) (q := (RX4, TX4, 5)) hK hN hP hD [0, 1, 2, 3, 4, 5, 6, 7, 8, 9, 10, 11, 12, 13, 14, 15, 16, 17, 18, 19, 20, 21, 22, 23, 24, 25, 26, 27, 28, 29, 30, 31, 32, 33, 34, 35, 36, 37, 38, 39, 40, 41, 42, 43, 44, 45, 46, 47, 48, 49, 50, 51, 52, 53, 54, 55, 56, 57, 58, 59, 60, 61, 62, 63, 64, 65, 66, 67, 68, 69, 70, 71, 72, 73, 74, 75, 76, 77, 78, 79, 80, 81, 82, 83, 84, 85, 86, 87, 88, 89, 90, 91, 92, 93, 94] rfl rfl rfl rfl) rfl rfl hl.1 rfl (lv_room (Nat.le_of_ble_eq_true rfl)) dL_arePupils_345 ⟨Nat.zero_le _, Nat.zero_le _⟩) hP hD hS hA [0, 1, 2, 3, 4, 5, 6, 7, 8, 9, 10, 11, 12, 13, 14, 15, 16, 17, 18, 19, 20, 21, 22, 23, 24, 25, 26, 27, 28, 29, 30, 31, 32, 33, 34, 35, 36, 37, 38, 39, 40, 41, 42, 43, 44, 45, 46, 47, 48, 49, 50, 51, 52, 53, 54, 55, 56, 57, 58, 59, 60, 61, 62, 63, 64, 65, 66, 67, 68, 69, 70, 71, 72, 73, 74, 75, 76, 77, 78, 79, 80, 81, 82, 83, 84, 85, 86, 87, 88, 89, 90, 91, 92, 93, 94] rfl rfl (ws' := (wF cA cQ adF adB adT adH kH adR adO vB vT vH bH vR vO ++ [aI cA zl 41 fl, aI cA zp 48 fp, aI cA zt 16 ft])) rfl (fun H locs hP hD hS => ?_)
                  refine lv_aload_n hx hb dL_arePupils_348 rfl (lv_at hl 2 rfl) ?_
                  refine lv_bipush (v := (6 : Int32)) hx hb dL_arePupils_349 (by decide) ?_
                  refine lv_iload hx hb dL_arePupils_351 (lv_at hl 5 rfl) ?_
                  refine lv_imul hx hb dL_arePupils_353 ?_
                  obtain ⟨y31, ey31, h⟩ := bd_in h
                  refine ldR hx hb hK hP 96 0 rfl rfl ey31 dL_arePupils_354 ?_
                  refine lv_icmp_ne (tgt := 507) hx hb dL_arePupils_355 (by decide) (fun c32 => ?_) (fun c32 => ?_)
                  · have h := (if_neg c32).symm.trans h
                    refine lv_iconst (v := (0 : Int32)) hx hb dL_arePupils_507 (by decide) ?_
                    refine lv_istore (lv' := [(5, .int (0 : Int32)), (0, .ref adF), (1, .ref zl), (2, .ref zp), (3, .ref zt), (4, .int x4), (6, .int x6), (7, .int x7), (8, .int x8), (9, .int x9)]) hx hb dL_arePupils_508 hl (by decide) rfl (fun ls hl => ?_)
                    refine lv_iinc (v := (x6 + (1 : Int32))) (lv' := [(6, .int (x6 + (1 : Int32))), (5, .int (0 : Int32)), (0, .ref adF), (1, .ref zl), (2, .ref zp), (3, .ref zt), (4, .int x4), (7, .int x7), (8, .int x8), (9, .int x9)]) hx hb dL_arePupils_510 hl (k := 6) rfl rfl (by decide) rfl (fun ls hl => ?_)
                    refine lv_goto (tgt := 48) hx hb dL_arePupils_513 (by decide) ?_
                    exact ih48 x4 (0 : Int32) (x6 + (1 : Int32)) _ _ _ h hP hD hS (lv_sub hl [2, 3, 4, 5, 6, 1, 0] rfl)
                  · have h := (if_pos c32).symm.trans h
                    refine lv_aload_n hx hb dL_arePupils_358 rfl (lv_at hl 0 rfl) ?_
                    refine lv_iload hx hb dL_arePupils_359 (lv_at hl 5 rfl) ?_
                    refine lv_iconst (v := (5 : Int32)) hx hb dL_arePupils_361 (by decide) ?_
                    obtain ⟨u33, eu33, h⟩ := bd_in h
                    refine kI (va_runV (As := [.int x6, .int (5 : Int32)]) (rest := []) ⟨hx, hb, hml, hown, hts⟩ (c_X4_pupilOf l D cA cQ adF adB adT adH kH adR adO vB vT vH bH vR vO x6 (5 : Int32) u33 eu33 _) (cwV 2 hts gL_arePupils_X4_pupilOf rfl rfl rfl (by decide +kernel) ⟨Nat.le_of_ble_eq_true rfl, Nat.le_of_ble_eq_true rfl⟩) (pV (ci := 4) (q := (RX4, TX4, 5)) hK hN hP hD [0, 1, 2, 3, 4, 5, 6, 7, 8, 9, 10, 11, 12, 13, 14, 15, 16, 17, 18, 19, 20, 21, 22, 23, 24, 25, 26, 27, 28, 29, 30, 31, 32, 33, 34, 35, 36, 37, 38, 39, 40, 41, 42, 43, 44, 45, 46, 47, 48, 49, 50, 51, 52, 53, 54, 55, 56, 57, 58, 59, 60, 61, 62, 63, 64, 65, 66, 67, 68, 69, 70, 71, 72, 73, 74, 75, 76, 77, 78, 79, 80, 81, 82, 83, 84, 85, 86, 87, 88, 89, 90, 91, 92, 93, 94] rfl rfl rfl rfl) rfl rfl hl.1 rfl (lv_room (Nat.le_of_ble_eq_true rfl)) dL_arePupils_362 ⟨Nat.zero_le _, Nat.zero_le _⟩) hP hD hS hA [0, 1, 2, 3, 4, 5, 6, 7, 8, 9, 10, 11, 12, 13, 14, 15, 16, 17, 18, 19, 20, 21, 22, 23, 24, 25, 26, 27, 28, 29, 30, 31, 32, 33, 34, 35, 36, 37, 38, 39, 40, 41, 42, 43, 44, 45, 46, 47, 48, 49, 50, 51, 52, 53, 54, 55, 56, 57, 58, 59, 60, 61, 62, 63, 64, 65, 66, 67, 68, 69, 70, 71, 72, 73, 74, 75, 76, 77, 78, 79, 80, 81, 82, 83, 84, 85, 86, 87, 88, 89, 90, 91, 92, 93, 94] rfl rfl (ws' := (wF cA cQ adF adB adT adH kH adR adO vB vT vH bH vR vO ++ [aI cA zl 41 fl, aI cA zp 48 fp, aI cA zt 16 ft])) rfl (fun H locs hP hD hS => ?_)
                    refine lv_aload_n hx hb dL_arePupils_365 rfl (lv_at hl 2 rfl) ?_
                    refine lv_bipush (v := (6 : Int32)) hx hb dL_arePupils_366 (by decide) ?_
                    refine lv_iload hx hb dL_arePupils_368 (lv_at hl 5 rfl) ?_
                    refine lv_imul hx hb dL_arePupils_370 ?_
                    refine lv_iconst (v := (1 : Int32)) hx hb dL_arePupils_371 (by decide) ?_
                    refine lv_iadd hx hb dL_arePupils_372 ?_
                    obtain ⟨y34, ey34, h⟩ := bd_in h
                    refine ldR hx hb hK hP 96 0 rfl rfl ey34 dL_arePupils_373 ?_
                    refine lv_icmp_ne (tgt := 507) hx hb dL_arePupils_374 (by decide) (fun c35 => ?_) (fun c35 => ?_)
                    · have h := (if_neg c35).symm.trans h
                      refine lv_iconst (v := (0 : Int32)) hx hb dL_arePupils_507 (by decide) ?_
                      refine lv_istore (lv' := [(5, .int (0 : Int32)), (0, .ref adF), (1, .ref zl), (2, .ref zp), (3, .ref zt), (4, .int x4), (6, .int x6), (7, .int x7), (8, .int x8), (9, .int x9)]) hx hb dL_arePupils_508 hl (by decide) rfl (fun ls hl => ?_)
                      refine lv_iinc (v := (x6 + (1 : Int32))) (lv' := [(6, .int (x6 + (1 : Int32))), (5, .int (0 : Int32)), (0, .ref adF), (1, .ref zl), (2, .ref zp), (3, .ref zt), (4, .int x4), (7, .int x7), (8, .int x8), (9, .int x9)]) hx hb dL_arePupils_510 hl (k := 6) rfl rfl (by decide) rfl (fun ls hl => ?_)
                      refine lv_goto (tgt := 48) hx hb dL_arePupils_513 (by decide) ?_
                      exact ih48 x4 (0 : Int32) (x6 + (1 : Int32)) _ _ _ h hP hD hS (lv_sub hl [2, 3, 4, 5, 6, 1, 0] rfl)
                    · have h := (if_pos c35).symm.trans h
                      refine lv_aload_n hx hb dL_arePupils_377 rfl (lv_at hl 0 rfl) ?_
                      refine lv_iload hx hb dL_arePupils_378 (lv_at hl 5 rfl) ?_
                      refine lv_bipush (v := (6 : Int32)) hx hb dL_arePupils_380 (by decide) ?_
                      obtain ⟨u36, eu36, h⟩ := bd_in h
                      refine kI (va_runV (As := [.int x6, .int (6 : Int32)]) (rest := []) ⟨hx, hb, hml, hown, hts⟩ (c_X4_pupilOf l D cA cQ adF adB adT adH kH adR adO vB vT vH bH vR vO x6 (6 : Int32) u36 eu36 _) (cwV 2 hts gL_arePupils_X4_pupilOf rfl rfl rfl (by decide +kernel) ⟨Nat.le_of_ble_eq_true rfl, Nat.le_of_ble_eq_true rfl⟩) (pV (ci := 4) (q := (RX4, TX4, 5)) hK hN hP hD [0, 1, 2, 3, 4, 5, 6, 7, 8, 9, 10, 11, 12, 13, 14, 15, 16, 17, 18, 19, 20, 21, 22, 23, 24, 25, 26, 27, 28, 29, 30, 31, 32, 33, 34, 35, 36, 37, 38, 39, 40, 41, 42, 43, 44, 45, 46, 47, 48, 49, 50, 51, 52, 53, 54, 55, 56, 57, 58, 59, 60, 61, 62, 63, 64, 65, 66, 67, 68, 69, 70, 71, 72, 73, 74, 75, 76, 77, 78, 79, 80, 81, 82, 83, 84, 85, 86, 87, 88, 89, 90, 91, 92, 93, 94] rfl rfl rfl rfl) rfl rfl hl.1 rfl (lv_room (Nat.le_of_ble_eq_true rfl)) dL_arePupils_382 ⟨Nat.zero_le _, Nat.zero_le _⟩) hP hD hS hA [0, 1, 2, 3, 4, 5, 6, 7, 8, 9, 10, 11, 12, 13, 14, 15, 16, 17, 18, 19, 20, 21, 22, 23, 24, 25, 26, 27, 28, 29, 30, 31, 32, 33, 34, 35, 36, 37, 38, 39, 40, 41, 42, 43, 44, 45, 46, 47, 48, 49, 50, 51, 52, 53, 54, 55, 56, 57, 58, 59, 60, 61, 62, 63, 64, 65, 66, 67, 68, 69, 70, 71, 72, 73, 74, 75, 76, 77, 78, 79, 80, 81, 82, 83, 84, 85, 86, 87, 88, 89, 90, 91, 92, 93, 94] rfl rfl (ws' := (wF cA cQ adF adB adT adH kH adR adO vB vT vH bH vR vO ++ [aI cA zl 41 fl, aI cA zp 48 fp, aI cA zt 16 ft])) rfl (fun H locs hP hD hS => ?_)
                      refine lv_aload_n hx hb dL_arePupils_385 rfl (lv_at hl 2 rfl) ?_
                      refine lv_bipush (v := (6 : Int32)) hx hb dL_arePupils_386 (by decide) ?_
                      refine lv_iload hx hb dL_arePupils_388 (lv_at hl 5 rfl) ?_
                      refine lv_imul hx hb dL_arePupils_390 ?_
                      refine lv_iconst (v := (2 : Int32)) hx hb dL_arePupils_391 (by decide) ?_
                      refine lv_iadd hx hb dL_arePupils_392 ?_
                      obtain ⟨y37, ey37, h⟩ := bd_in h
                      refine ldR hx hb hK hP 96 0 rfl rfl ey37 dL_arePupils_393 ?_
                      refine lv_if_le (tgt := 411) hx hb dL_arePupils_394 (by decide) (fun c38 => ?_) (fun c38 => ?_)
                      · have h := (if_pos c38).symm.trans h
                        refine lv_ldc (v := (-1000004 : Int32)) hx hb hown (hts (.constant RL 59 (-1000004)) (List.mem_of_getElem? (i := 2) rfl)) dL_arePupils_411 ?_
                        exact B413 x4 x6 x8 x9 u36 (-1000004 : Int32) _ _ _ h hP hD hS (lv_sub hl [0, 1, 2, 3, 4, 5, 7, 8] rfl)
                      · have h := (if_neg c38).symm.trans h
                        refine lv_aload_n hx hb dL_arePupils_397 rfl (lv_at hl 2 rfl) ?_
                        refine lv_bipush (v := (6 : Int32)) hx hb dL_arePupils_398 (by decide) ?_
                        refine lv_iload hx hb dL_arePupils_400 (lv_at hl 5 rfl) ?_
                        refine lv_imul hx hb dL_arePupils_402 ?_
                        refine lv_iconst (v := (2 : Int32)) hx hb dL_arePupils_403 (by decide) ?_
                        refine lv_iadd hx hb dL_arePupils_404 ?_
                        obtain ⟨y39, ey39, h⟩ := bd_in h
                        refine ldR hx hb hK hP 96 0 rfl rfl ey39 dL_arePupils_405 ?_
                        refine lv_iconst (v := (1 : Int32)) hx hb dL_arePupils_406 (by decide) ?_
                        refine lv_isub hx hb dL_arePupils_407 ?_
                        refine lv_goto (tgt := 413) hx hb dL_arePupils_408 (by decide) ?_
                        exact B413 x4 x6 x8 x9 u36 (y39 - (1 : Int32)) _ _ _ h hP hD hS (lv_sub hl [0, 1, 2, 3, 4, 5, 7, 8] rfl)
      have B199 : ∀ (fu199 : Nat) (x4 : Int32) (x6 : Int32) (x7 : Int32) (x8 : Int32) (x9 : Int32) (x10 : Int32) (H : Heap) (locs : List Loc) (ls : Array Slot), L_arePupils_l199 vB vT vH bH vR vO fl fp ft (L_arePupils_l48 vB vT vH bH vR vO fl fp ft fu48) fu199 x4 x6 x7 x8 x9 x10 = some o → va_P D vwCl (wF cA cQ adF adB adT adH kH adR adO vB vT vH bH vR vO ++ [aI cA zl 41 fl, aI cA zp 48 fp, aI cA zt 16 ft]) H → va_D A (wF cA cQ adF adB adT adH kH adR adO vB vT vH bH vR vO ++ [aI cA zl 41 fl, aI cA zp 48 fp, aI cA zt 16 ft]) → va_S A s.heap H locs → lv_has ls 12 [(0, .ref adF), (1, .ref zl), (2, .ref zp), (3, .ref zt), (4, .int x4), (6, .int x6), (7, .int x7), (8, .int x8), (9, .int x9), (10, .int x10)] → W p l e (headSpec wsL_arePupils ({ frames := 5, cells := 0, slots := 0, locals := 117 })).room s m ([.ref adF, .ref zl, .ref zp, .ref zt] : List Value).toArray below meth c H locs 0 0 (MQ below (QI D (wF cA cQ adF adB adT adH kH adR adO vB vT vH bH vR vO ++ [aI cA zl 41 fl, aI cA zp 48 fp, aI cA zt 16 ft]) o A) ([.ref adF, .ref zl, .ref zp, .ref zt] : List Value).toArray s 0 0 A) (F0 m 199 ls []) := by
        intro fu199
        induction fu199 with
        | zero =>
          intro x4 x6 x7 x8 x9 x10 H locs ls h hP hD hS hl
          cases h
        | succ fu199 ih199 =>
          have B247 : ∀ (x4 : Int32) (x6 : Int32) (x7 : Int32) (x8 : Int32) (x10 : Int32) (t0 : Int32) (H : Heap) (locs : List Loc) (ls : Array Slot), L_arePupils_b247 vB vT vH bH vR vO fl fp ft (L_arePupils_l48 vB vT vH bH vR vO fl fp ft fu48) (L_arePupils_l199 vB vT vH bH vR vO fl fp ft (L_arePupils_l48 vB vT vH bH vR vO fl fp ft fu48) fu199) x4 x6 x7 x8 x10 t0 = some o → va_P D vwCl (wF cA cQ adF adB adT adH kH adR adO vB vT vH bH vR vO ++ [aI cA zl 41 fl, aI cA zp 48 fp, aI cA zt 16 ft]) H → va_D A (wF cA cQ adF adB adT adH kH adR adO vB vT vH bH vR vO ++ [aI cA zl 41 fl, aI cA zp 48 fp, aI cA zt 16 ft]) → va_S A s.heap H locs → lv_has ls 12 [(0, .ref adF), (1, .ref zl), (2, .ref zp), (3, .ref zt), (4, .int x4), (6, .int x6), (7, .int x7), (8, .int x8), (10, .int x10)] → W p l e (headSpec wsL_arePupils ({ frames := 5, cells := 0, slots := 0, locals := 117 })).room s m ([.ref adF, .ref zl, .ref zp, .ref zt] : List Value).toArray below meth c H locs 0 0 (MQ below (QI D (wF cA cQ adF adB adT adH kH adR adO vB vT vH bH vR vO ++ [aI cA zl 41 fl, aI cA zp 48 fp, aI cA zt 16 ft]) o A) ([.ref adF, .ref zl, .ref zp, .ref zt] : List Value).toArray s 0 0 A) (F0 m 247 ls [.int t0]) := by
            intro x4 x6 x7 x8 x10 t0 H locs ls h hP hD hS hl
            unfold L_arePupils_b247 at h
            refine lv_iconst (v := (1 : Int32)) hx hb dL_arePupils_247 (by decide) ?_
            refine lv_goto (tgt := 252) hx hb dL_arePupils_248 (by decide) ?_
            refine lv_iadd hx hb dL_arePupils_252 ?_
            refine lv_istore (lv' := [(9, .int (t0 + (1 : Int32))), (0, .ref adF), (1, .ref zl), (2, .ref zp), (3, .ref zt), (4, .int x4), (6, .int x6), (7, .int x7), (8, .int x8), (10, .int x10)]) hx hb dL_arePupils_253 hl (by decide) rfl (fun ls hl => ?_)
            refine lv_iinc (v := (x10 + (1 : Int32))) (lv' := [(10, .int (x10 + (1 : Int32))), (9, .int (t0 + (1 : Int32))), (0, .ref adF), (1, .ref zl), (2, .ref zp), (3, .ref zt), (4, .int x4), (6, .int x6), (7, .int x7), (8, .int x8)]) hx hb dL_arePupils_255 hl (k := 9) rfl rfl (by decide) rfl (fun ls hl => ?_)
            refine lv_goto (tgt := 199) hx hb dL_arePupils_258 (by decide) ?_
            exact ih199 x4 x6 x7 x8 (t0 + (1 : Int32)) (x10 + (1 : Int32)) _ _ _ h hP hD hS (lv_sub hl [2, 3, 4, 5, 6, 7, 8, 9, 1, 0] rfl)
          intro x4 x6 x7 x8 x9 x10 H locs ls h hP hD hS hl
          rw [L_arePupils_l199] at h
          refine lv_iload hx hb dL_arePupils_199 (lv_at hl 9 rfl) ?_
          refine lv_aload_n hx hb dL_arePupils_201 rfl (lv_at hl 3 rfl) ?_
          refine lv_iconst (v := (1 : Int32)) hx hb dL_arePupils_202 (by decide) ?_
          obtain ⟨y40, ey40, h⟩ := bd_in h
          refine ldR hx hb hK hP 97 0 rfl rfl ey40 dL_arePupils_203 ?_
          refine lv_icmp_ge (tgt := 261) hx hb dL_arePupils_204 (by decide) (fun c41 => ?_) (fun c41 => ?_)
          · have h := (if_pos c41).symm.trans h
            exact B261 x4 x6 x7 x8 x9 _ _ _ h hP hD hS (lv_sub hl [0, 1, 2, 3, 4, 5, 6, 7, 8] rfl)
          · have h := (if_neg c41).symm.trans h
            refine lv_aload_n hx hb dL_arePupils_207 rfl (lv_at hl 1 rfl) ?_
            refine lv_aload_n hx hb dL_arePupils_208 rfl (lv_at hl 3 rfl) ?_
            refine lv_iload hx hb dL_arePupils_209 (lv_at hl 9 rfl) ?_
            obtain ⟨u42, eu42, h⟩ := bd_in h
            refine kI (va_runS (As := [.ref zl, .ref zt, .int x10]) (rest := []) ⟨hx, hb, hml, hown, hts⟩ (c_L_had l D cA cQ zl zt fl ft x10 u42 eu42 _) (va_cwS 3 hts gL_arePupils_L_had rfl rfl rfl (by decide +kernel) ⟨Nat.le_of_ble_eq_true rfl, Nat.le_of_ble_eq_true rfl⟩) (pS hK hN hP hD [95, 97] rfl rfl) rfl rfl hl.1 rfl (lv_room (Nat.le_of_ble_eq_true rfl)) dL_arePupils_211 ⟨Nat.zero_le _, Nat.zero_le _⟩) hP hD hS hA [95, 97] rfl rfl (ws' := (wF cA cQ adF adB adT adH kH adR adO vB vT vH bH vR vO ++ [aI cA zl 41 fl, aI cA zp 48 fp, aI cA zt 16 ft])) rfl (fun H locs hP hD hS => ?_)
            refine lv_aload_n hx hb dL_arePupils_214 rfl (lv_at hl 1 rfl) ?_
            refine lv_aload_n hx hb dL_arePupils_215 rfl (lv_at hl 3 rfl) ?_
            refine lv_iload hx hb dL_arePupils_216 (lv_at hl 9 rfl) ?_
            obtain ⟨u43, eu43, h⟩ := bd_in h
            refine kI (va_runS (As := [.ref zl, .ref zt, .int x10]) (rest := [.int u42]) ⟨hx, hb, hml, hown, hts⟩ (c_L_owing l D cA cQ zl zt fl ft x10 u43 eu43 _) (va_cwS 3 hts gL_arePupils_L_owing rfl rfl rfl (by decide +kernel) ⟨Nat.le_of_ble_eq_true rfl, Nat.le_of_ble_eq_true rfl⟩) (pS hK hN hP hD [95, 97] rfl rfl) rfl rfl hl.1 rfl (lv_room (Nat.le_of_ble_eq_true rfl)) dL_arePupils_218 ⟨Nat.zero_le _, Nat.zero_le _⟩) hP hD hS hA [95, 97] rfl rfl (ws' := (wF cA cQ adF adB adT adH kH adR adO vB vT vH bH vR vO ++ [aI cA zl 41 fl, aI cA zp 48 fp, aI cA zt 16 ft])) rfl (fun H locs hP hD hS => ?_)
            refine lv_isub hx hb dL_arePupils_221 ?_
            refine lv_istore (lv' := [(11, .int (u42 - u43)), (0, .ref adF), (1, .ref zl), (2, .ref zp), (3, .ref zt), (4, .int x4), (6, .int x6), (7, .int x7), (8, .int x8), (9, .int x9), (10, .int x10)]) hx hb dL_arePupils_222 hl (by decide) rfl (fun ls hl => ?_)
            refine lv_iload hx hb dL_arePupils_224 (lv_at hl 9 rfl) ?_
            refine lv_iload hx hb dL_arePupils_226 (lv_at hl 0 rfl) ?_
            refine lv_iload hx hb dL_arePupils_228 (lv_at hl 7 rfl) ?_
            refine lv_icmp_gt (tgt := 247) hx hb dL_arePupils_230 (by decide) (fun c44 => ?_) (fun c44 => ?_)
            · have h := (if_pos c44).symm.trans h
              exact B247 x4 x6 x7 x8 x10 x9 _ _ _ h hP hD hS (lv_sub hl [1, 2, 3, 4, 5, 6, 7, 8, 10] rfl)
            · have h := (if_neg c44).symm.trans h
              refine lv_iload hx hb dL_arePupils_233 (lv_at hl 0 rfl) ?_
              refine lv_iload hx hb dL_arePupils_235 (lv_at hl 7 rfl) ?_
              refine lv_icmp_ne (tgt := 251) hx hb dL_arePupils_237 (by decide) (fun c45 => ?_) (fun c45 => ?_)
              · have h := (if_neg c45).symm.trans h
                refine lv_iconst (v := (0 : Int32)) hx hb dL_arePupils_251 (by decide) ?_
                refine lv_iadd hx hb dL_arePupils_252 ?_
                refine lv_istore (lv' := [(9, .int (x9 + (0 : Int32))), (11, .int (u42 - u43)), (0, .ref adF), (1, .ref zl), (2, .ref zp), (3, .ref zt), (4, .int x4), (6, .int x6), (7, .int x7), (8, .int x8), (10, .int x10)]) hx hb dL_arePupils_253 hl (by decide) rfl (fun ls hl => ?_)
                refine lv_iinc (v := (x10 + (1 : Int32))) (lv' := [(10, .int (x10 + (1 : Int32))), (9, .int (x9 + (0 : Int32))), (11, .int (u42 - u43)), (0, .ref adF), (1, .ref zl), (2, .ref zp), (3, .ref zt), (4, .int x4), (6, .int x6), (7, .int x7), (8, .int x8)]) hx hb dL_arePupils_255 hl (k := 10) rfl rfl (by decide) rfl (fun ls hl => ?_)
                refine lv_goto (tgt := 199) hx hb dL_arePupils_258 (by decide) ?_
                exact ih199 x4 x6 x7 x8 (x9 + (0 : Int32)) (x10 + (1 : Int32)) _ _ _ h hP hD hS (lv_sub hl [3, 4, 5, 6, 7, 8, 9, 10, 1, 0] rfl)
              · have h := (if_pos c45).symm.trans h
                refine lv_iload hx hb dL_arePupils_240 (lv_at hl 10 rfl) ?_
                refine lv_iload hx hb dL_arePupils_242 (lv_at hl 6 rfl) ?_
                refine lv_icmp_ge (tgt := 251) hx hb dL_arePupils_244 (by decide) (fun c46 => ?_) (fun c46 => ?_)
                · have h := (if_pos c46).symm.trans h
                  refine lv_iconst (v := (0 : Int32)) hx hb dL_arePupils_251 (by decide) ?_
                  refine lv_iadd hx hb dL_arePupils_252 ?_
                  refine lv_istore (lv' := [(9, .int (x9 + (0 : Int32))), (11, .int (u42 - u43)), (0, .ref adF), (1, .ref zl), (2, .ref zp), (3, .ref zt), (4, .int x4), (6, .int x6), (7, .int x7), (8, .int x8), (10, .int x10)]) hx hb dL_arePupils_253 hl (by decide) rfl (fun ls hl => ?_)
                  refine lv_iinc (v := (x10 + (1 : Int32))) (lv' := [(10, .int (x10 + (1 : Int32))), (9, .int (x9 + (0 : Int32))), (11, .int (u42 - u43)), (0, .ref adF), (1, .ref zl), (2, .ref zp), (3, .ref zt), (4, .int x4), (6, .int x6), (7, .int x7), (8, .int x8)]) hx hb dL_arePupils_255 hl (k := 10) rfl rfl (by decide) rfl (fun ls hl => ?_)
                  refine lv_goto (tgt := 199) hx hb dL_arePupils_258 (by decide) ?_
                  exact ih199 x4 x6 x7 x8 (x9 + (0 : Int32)) (x10 + (1 : Int32)) _ _ _ h hP hD hS (lv_sub hl [3, 4, 5, 6, 7, 8, 9, 10, 1, 0] rfl)
                · have h := (if_neg c46).symm.trans h
                  exact B247 x4 x6 x7 x8 x10 x9 _ _ _ h hP hD hS (lv_sub hl [1, 2, 3, 4, 5, 6, 7, 8, 10] rfl)
      have B113 : ∀ (fu113 : Nat) (x4 : Int32) (x6 : Int32) (x7 : Int32) (x8 : Int32) (x9 : Int32) (x10 : Int32) (H : Heap) (locs : List Loc) (ls : Array Slot), L_arePupils_l113 vB vT vH bH vR vO fl fp ft (L_arePupils_l48 vB vT vH bH vR vO fl fp ft fu48) fu113 x4 x6 x7 x8 x9 x10 = some o → va_P D vwCl (wF cA cQ adF adB adT adH kH adR adO vB vT vH bH vR vO ++ [aI cA zl 41 fl, aI cA zp 48 fp, aI cA zt 16 ft]) H → va_D A (wF cA cQ adF adB adT adH kH adR adO vB vT vH bH vR vO ++ [aI cA zl 41 fl, aI cA zp 48 fp, aI cA zt 16 ft]) → va_S A s.heap H locs → lv_has ls 12 [(0, .ref adF), (1, .ref zl), (2, .ref zp), (3, .ref zt), (4, .int x4), (6, .int x6), (7, .int x7), (8, .int x8), (9, .int x9), (10, .int x10)] → W p l e (headSpec wsL_arePupils ({ frames := 5, cells := 0, slots := 0, locals := 117 })).room s m ([.ref adF, .ref zl, .ref zp, .ref zt] : List Value).toArray below meth c H locs 0 0 (MQ below (QI D (wF cA cQ adF adB adT adH kH adR adO vB vT vH bH vR vO ++ [aI cA zl 41 fl, aI cA zp 48 fp, aI cA zt 16 ft]) o A) ([.ref adF, .ref zl, .ref zp, .ref zt] : List Value).toArray s 0 0 A) (F0 m 113 ls []) := by
        intro fu113
        induction fu113 with
        | zero =>
          intro x4 x6 x7 x8 x9 x10 H locs ls h hP hD hS hl
          cases h
        | succ fu113 ih113 =>
          have B155 : ∀ (x4 : Int32) (x6 : Int32) (x7 : Int32) (x8 : Int32) (x9 : Int32) (x10 : Int32) (t0 : Int32) (H : Heap) (locs : List Loc) (ls : Array Slot), L_arePupils_b155 vB vT vH bH vR vO fl fp ft (L_arePupils_l48 vB vT vH bH vR vO fl fp ft fu48) (L_arePupils_l113 vB vT vH bH vR vO fl fp ft (L_arePupils_l48 vB vT vH bH vR vO fl fp ft fu48) fu113) x4 x6 x7 x8 x9 x10 t0 = some o → va_P D vwCl (wF cA cQ adF adB adT adH kH adR adO vB vT vH bH vR vO ++ [aI cA zl 41 fl, aI cA zp 48 fp, aI cA zt 16 ft]) H → va_D A (wF cA cQ adF adB adT adH kH adR adO vB vT vH bH vR vO ++ [aI cA zl 41 fl, aI cA zp 48 fp, aI cA zt 16 ft]) → va_S A s.heap H locs → lv_has ls 12 [(0, .ref adF), (1, .ref zl), (2, .ref zp), (3, .ref zt), (4, .int x4), (6, .int x6), (7, .int x7), (8, .int x8), (9, .int x9), (10, .int x10)] → W p l e (headSpec wsL_arePupils ({ frames := 5, cells := 0, slots := 0, locals := 117 })).room s m ([.ref adF, .ref zl, .ref zp, .ref zt] : List Value).toArray below meth c H locs 0 0 (MQ below (QI D (wF cA cQ adF adB adT adH kH adR adO vB vT vH bH vR vO ++ [aI cA zl 41 fl, aI cA zp 48 fp, aI cA zt 16 ft]) o A) ([.ref adF, .ref zl, .ref zp, .ref zt] : List Value).toArray s 0 0 A) (F0 m 155 ls [.int t0]) := by
            intro x4 x6 x7 x8 x9 x10 t0 H locs ls h hP hD hS hl
            unfold L_arePupils_b155 at h
            refine lv_istore (lv' := [(11, .int t0), (0, .ref adF), (1, .ref zl), (2, .ref zp), (3, .ref zt), (4, .int x4), (6, .int x6), (7, .int x7), (8, .int x8), (9, .int x9), (10, .int x10)]) hx hb dL_arePupils_155 hl (by decide) rfl (fun ls hl => ?_)
            refine lv_aload_n hx hb dL_arePupils_157 rfl (lv_at hl 2 rfl) ?_
            refine lv_iload hx hb dL_arePupils_158 (lv_at hl 10 rfl) ?_
            obtain ⟨y47, ey47, h⟩ := bd_in h
            refine ldR hx hb hK hP 95 0 rfl rfl ey47 dL_arePupils_160 ?_
            obtain ⟨u48, eu48, h⟩ := bd_in h
            refine kI (va_runS (As := [.int y47]) (rest := []) ⟨hx, hb, hml, hown, hts⟩ (c_L_debtor l D cA cQ  y47 u48 eu48 _) (va_cwS 1 hts gL_arePupils_L_debtor rfl rfl rfl (by decide +kernel) ⟨Nat.le_of_ble_eq_true rfl, Nat.le_of_ble_eq_true rfl⟩) (pS hK hN hP hD [] rfl rfl) rfl rfl hl.1 rfl (lv_room (Nat.le_of_ble_eq_true rfl)) dL_arePupils_161 ⟨Nat.zero_le _, Nat.zero_le _⟩) hP hD hS hA [] rfl rfl (ws' := (wF cA cQ adF adB adT adH kH adR adO vB vT vH bH vR vO ++ [aI cA zl 41 fl, aI cA zp 48 fp, aI cA zt 16 ft])) rfl (fun H locs hP hD hS => ?_)
            refine lv_iload hx hb dL_arePupils_164 (lv_at hl 6 rfl) ?_
            refine lv_icmp_ne (tgt := 186) hx hb dL_arePupils_166 (by decide) (fun c49 => ?_) (fun c49 => ?_)
            · have h := (if_neg c49).symm.trans h
              refine lv_iload hx hb dL_arePupils_186 (lv_at hl 8 rfl) ?_
              refine lv_istore (lv' := [(8, .int x8), (11, .int t0), (0, .ref adF), (1, .ref zl), (2, .ref zp), (3, .ref zt), (4, .int x4), (6, .int x6), (7, .int x7), (9, .int x9), (10, .int x10)]) hx hb dL_arePupils_188 hl (by decide) rfl (fun ls hl => ?_)
              refine lv_iinc (v := (x10 + (1 : Int32))) (lv' := [(10, .int (x10 + (1 : Int32))), (8, .int x8), (11, .int t0), (0, .ref adF), (1, .ref zl), (2, .ref zp), (3, .ref zt), (4, .int x4), (6, .int x6), (7, .int x7), (9, .int x9)]) hx hb dL_arePupils_190 hl (k := 10) rfl rfl (by decide) rfl (fun ls hl => ?_)
              refine lv_goto (tgt := 113) hx hb dL_arePupils_193 (by decide) ?_
              exact ih113 x4 x6 x7 x8 x9 (x10 + (1 : Int32)) _ _ _ h hP hD hS (lv_sub hl [3, 4, 5, 6, 7, 8, 9, 1, 10, 0] rfl)
            · have h := (if_pos c49).symm.trans h
              refine lv_iload hx hb dL_arePupils_169 (lv_at hl 8 rfl) ?_
              refine lv_if_lt (tgt := 181) hx hb dL_arePupils_171 (by decide) (fun c50 => ?_) (fun c50 => ?_)
              · have h := (if_pos c50).symm.trans h
                refine lv_iload hx hb dL_arePupils_181 (lv_at hl 0 rfl) ?_
                refine lv_goto (tgt := 188) hx hb dL_arePupils_183 (by decide) ?_
                refine lv_istore (lv' := [(8, .int t0), (11, .int t0), (0, .ref adF), (1, .ref zl), (2, .ref zp), (3, .ref zt), (4, .int x4), (6, .int x6), (7, .int x7), (9, .int x9), (10, .int x10)]) hx hb dL_arePupils_188 hl (by decide) rfl (fun ls hl => ?_)
                refine lv_iinc (v := (x10 + (1 : Int32))) (lv' := [(10, .int (x10 + (1 : Int32))), (8, .int t0), (11, .int t0), (0, .ref adF), (1, .ref zl), (2, .ref zp), (3, .ref zt), (4, .int x4), (6, .int x6), (7, .int x7), (9, .int x9)]) hx hb dL_arePupils_190 hl (k := 10) rfl rfl (by decide) rfl (fun ls hl => ?_)
                refine lv_goto (tgt := 113) hx hb dL_arePupils_193 (by decide) ?_
                exact ih113 x4 x6 x7 t0 x9 (x10 + (1 : Int32)) _ _ _ h hP hD hS (lv_sub hl [3, 4, 5, 6, 7, 8, 9, 1, 10, 0] rfl)
              · have h := (if_neg c50).symm.trans h
                refine lv_iload hx hb dL_arePupils_174 (lv_at hl 0 rfl) ?_
                refine lv_iload hx hb dL_arePupils_176 (lv_at hl 8 rfl) ?_
                refine lv_icmp_ge (tgt := 186) hx hb dL_arePupils_178 (by decide) (fun c51 => ?_) (fun c51 => ?_)
                · have h := (if_pos c51).symm.trans h
                  refine lv_iload hx hb dL_arePupils_186 (lv_at hl 8 rfl) ?_
                  refine lv_istore (lv' := [(8, .int x8), (11, .int t0), (0, .ref adF), (1, .ref zl), (2, .ref zp), (3, .ref zt), (4, .int x4), (6, .int x6), (7, .int x7), (9, .int x9), (10, .int x10)]) hx hb dL_arePupils_188 hl (by decide) rfl (fun ls hl => ?_)
                  refine lv_iinc (v := (x10 + (1 : Int32))) (lv' := [(10, .int (x10 + (1 : Int32))), (8, .int x8), (11, .int t0), (0, .ref adF), (1, .ref zl), (2, .ref zp), (3, .ref zt), (4, .int x4), (6, .int x6), (7, .int x7), (9, .int x9)]) hx hb dL_arePupils_190 hl (k := 10) rfl rfl (by decide) rfl (fun ls hl => ?_)
                  refine lv_goto (tgt := 113) hx hb dL_arePupils_193 (by decide) ?_
                  exact ih113 x4 x6 x7 x8 x9 (x10 + (1 : Int32)) _ _ _ h hP hD hS (lv_sub hl [3, 4, 5, 6, 7, 8, 9, 1, 10, 0] rfl)
                · have h := (if_neg c51).symm.trans h
                  refine lv_iload hx hb dL_arePupils_181 (lv_at hl 0 rfl) ?_
                  refine lv_goto (tgt := 188) hx hb dL_arePupils_183 (by decide) ?_
                  refine lv_istore (lv' := [(8, .int t0), (11, .int t0), (0, .ref adF), (1, .ref zl), (2, .ref zp), (3, .ref zt), (4, .int x4), (6, .int x6), (7, .int x7), (9, .int x9), (10, .int x10)]) hx hb dL_arePupils_188 hl (by decide) rfl (fun ls hl => ?_)
                  refine lv_iinc (v := (x10 + (1 : Int32))) (lv' := [(10, .int (x10 + (1 : Int32))), (8, .int t0), (11, .int t0), (0, .ref adF), (1, .ref zl), (2, .ref zp), (3, .ref zt), (4, .int x4), (6, .int x6), (7, .int x7), (9, .int x9)]) hx hb dL_arePupils_190 hl (k := 10) rfl rfl (by decide) rfl (fun ls hl => ?_)
                  refine lv_goto (tgt := 113) hx hb dL_arePupils_193 (by decide) ?_
                  exact ih113 x4 x6 x7 t0 x9 (x10 + (1 : Int32)) _ _ _ h hP hD hS (lv_sub hl [3, 4, 5, 6, 7, 8, 9, 1, 10, 0] rfl)
          intro x4 x6 x7 x8 x9 x10 H locs ls h hP hD hS hl
          rw [L_arePupils_l113] at h
          refine lv_iload hx hb dL_arePupils_113 (lv_at hl 9 rfl) ?_
          refine lv_aload_n hx hb dL_arePupils_115 rfl (lv_at hl 3 rfl) ?_
          refine lv_iconst (v := (2 : Int32)) hx hb dL_arePupils_116 (by decide) ?_
          obtain ⟨y52, ey52, h⟩ := bd_in h
          refine ldR hx hb hK hP 97 0 rfl rfl ey52 dL_arePupils_117 ?_
          refine lv_icmp_ge (tgt := 196) hx hb dL_arePupils_118 (by decide) (fun c53 => ?_) (fun c53 => ?_)
          · have h := (if_pos c53).symm.trans h
            refine lv_iconst (v := (0 : Int32)) hx hb dL_arePupils_196 (by decide) ?_
            refine lv_istore (lv' := [(10, .int (0 : Int32)), (0, .ref adF), (1, .ref zl), (2, .ref zp), (3, .ref zt), (4, .int x4), (6, .int x6), (7, .int x7), (8, .int x8), (9, .int x9)]) hx hb dL_arePupils_197 hl (by decide) rfl (fun ls hl => ?_)
            exact B199 FU x4 x6 x7 x8 x9 (0 : Int32) _ _ _ h hP hD hS (lv_sub hl [1, 2, 3, 4, 5, 6, 7, 8, 9, 0] rfl)
          · have h := (if_neg c53).symm.trans h
            refine lv_aload_n hx hb dL_arePupils_121 rfl (lv_at hl 3 rfl) ?_
            refine lv_bipush (v := (10 : Int32)) hx hb dL_arePupils_122 (by decide) ?_
            refine lv_aload_n hx hb dL_arePupils_124 rfl (lv_at hl 1 rfl) ?_
            refine lv_iload hx hb dL_arePupils_125 (lv_at hl 9 rfl) ?_
            obtain ⟨y54, ey54, h⟩ := bd_in h
            refine ldR hx hb hK hP 95 0 rfl rfl ey54 dL_arePupils_127 ?_
            obtain ⟨u55, eu55, h⟩ := bd_in h
            refine kI (va_runS (As := [.int y54]) (rest := [.int (10 : Int32), .ref zt]) ⟨hx, hb, hml, hown, hts⟩ (c_L_kind l D cA cQ  y54 u55 eu55 _) (va_cwS 1 hts gL_arePupils_L_kind rfl rfl rfl (by decide +kernel) ⟨Nat.le_of_ble_eq_true rfl, Nat.le_of_ble_eq_true rfl⟩) (pS hK hN hP hD [] rfl rfl) rfl rfl hl.1 rfl (lv_room (Nat.le_of_ble_eq_true rfl)) dL_arePupils_128 ⟨Nat.zero_le _, Nat.zero_le _⟩) hP hD hS hA [] rfl rfl (ws' := (wF cA cQ adF adB adT adH kH adR adO vB vT vH bH vR vO ++ [aI cA zl 41 fl, aI cA zp 48 fp, aI cA zt 16 ft])) rfl (fun H locs hP hD hS => ?_)
            refine lv_iadd hx hb dL_arePupils_131 ?_
            obtain ⟨y56, ey56, h⟩ := bd_in h
            refine ldR hx hb hK hP 97 0 rfl rfl ey56 dL_arePupils_132 ?_
            refine lv_aload_n hx hb dL_arePupils_133 rfl (lv_at hl 1 rfl) ?_
            refine lv_iload hx hb dL_arePupils_134 (lv_at hl 9 rfl) ?_
            obtain ⟨y57, ey57, h⟩ := bd_in h
            refine ldR hx hb hK hP 95 0 rfl rfl ey57 dL_arePupils_136 ?_
            obtain ⟨u58, eu58, h⟩ := bd_in h
            refine kI (va_runS (As := [.int y57]) (rest := [.int y56]) ⟨hx, hb, hml, hown, hts⟩ (c_L_age l D cA cQ  y57 u58 eu58 _) (va_cwS 1 hts gL_arePupils_L_age rfl rfl rfl (by decide +kernel) ⟨Nat.le_of_ble_eq_true rfl, Nat.le_of_ble_eq_true rfl⟩) (pS hK hN hP hD [] rfl rfl) rfl rfl hl.1 rfl (lv_room (Nat.le_of_ble_eq_true rfl)) dL_arePupils_137 ⟨Nat.zero_le _, Nat.zero_le _⟩) hP hD hS hA [] rfl rfl (ws' := (wF cA cQ adF adB adT adH kH adR adO vB vT vH bH vR vO ++ [aI cA zl 41 fl, aI cA zp 48 fp, aI cA zt 16 ft])) rfl (fun H locs hP hD hS => ?_)
            refine lv_isub hx hb dL_arePupils_140 ?_
            refine lv_istore (lv' := [(11, .int (y56 - u58)), (0, .ref adF), (1, .ref zl), (2, .ref zp), (3, .ref zt), (4, .int x4), (6, .int x6), (7, .int x7), (8, .int x8), (9, .int x9), (10, .int x10)]) hx hb dL_arePupils_141 hl (by decide) rfl (fun ls hl => ?_)
            refine lv_iload hx hb dL_arePupils_143 (lv_at hl 0 rfl) ?_
            refine lv_iconst (v := (1 : Int32)) hx hb dL_arePupils_145 (by decide) ?_
            refine lv_icmp_ge (tgt := 153) hx hb dL_arePupils_146 (by decide) (fun c59 => ?_) (fun c59 => ?_)
            · have h := (if_pos c59).symm.trans h
              refine lv_iload hx hb dL_arePupils_153 (lv_at hl 0 rfl) ?_
              exact B155 x4 x6 x7 x8 x9 x10 (y56 - u58) _ _ _ h hP hD hS (lv_sub hl [1, 2, 3, 4, 5, 6, 7, 8, 9, 10] rfl)
            · have h := (if_neg c59).symm.trans h
              refine lv_iconst (v := (1 : Int32)) hx hb dL_arePupils_149 (by decide) ?_
              refine lv_goto (tgt := 155) hx hb dL_arePupils_150 (by decide) ?_
              exact B155 x4 x6 x7 x8 x9 x10 (1 : Int32) _ _ _ h hP hD hS (lv_sub hl [1, 2, 3, 4, 5, 6, 7, 8, 9, 10] rfl)
      intro x4 x5 x6 H locs ls h hP hD hS hl
      rw [L_arePupils_l48] at h
      refine lv_iload hx hb dL_arePupils_48 (lv_at hl 6 rfl) ?_
      refine lv_aload_n hx hb dL_arePupils_50 rfl (lv_at hl 3 rfl) ?_
      refine lv_iconst (v := (1 : Int32)) hx hb dL_arePupils_51 (by decide) ?_
      obtain ⟨y60, ey60, h⟩ := bd_in h
      refine ldR hx hb hK hP 97 0 rfl rfl ey60 dL_arePupils_52 ?_
      refine lv_icmp_ge (tgt := 516) hx hb dL_arePupils_53 (by decide) (fun c61 => ?_) (fun c61 => ?_)
      · have h := (if_pos c61).symm.trans h
        exact B516 x4 x5 _ _ _ h hP hD hS (lv_sub hl [0, 4, 5] rfl)
      · have h := (if_neg c61).symm.trans h
        refine lv_iload hx hb dL_arePupils_56 (lv_at hl 5 rfl) ?_
        refine lv_if_eq (tgt := 516) hx hb dL_arePupils_58 (by decide) (fun c62 => ?_) (fun c62 => ?_)
        · have h := (if_pos c62).symm.trans h
          exact B516 x4 x5 _ _ _ h hP hD hS (lv_sub hl [0, 4, 5] rfl)
        · have h := (if_neg c62).symm.trans h
          refine lv_aload_n hx hb dL_arePupils_61 rfl (lv_at hl 1 rfl) ?_
          refine lv_aload_n hx hb dL_arePupils_62 rfl (lv_at hl 3 rfl) ?_
          refine lv_iload hx hb dL_arePupils_63 (lv_at hl 6 rfl) ?_
          obtain ⟨u63, eu63, h⟩ := bd_in h
          refine kI (va_runS (As := [.ref zl, .ref zt, .int x6]) (rest := []) ⟨hx, hb, hml, hown, hts⟩ (c_L_had l D cA cQ zl zt fl ft x6 u63 eu63 _) (va_cwS 3 hts gL_arePupils_L_had rfl rfl rfl (by decide +kernel) ⟨Nat.le_of_ble_eq_true rfl, Nat.le_of_ble_eq_true rfl⟩) (pS hK hN hP hD [95, 97] rfl rfl) rfl rfl hl.1 rfl (lv_room (Nat.le_of_ble_eq_true rfl)) dL_arePupils_65 ⟨Nat.zero_le _, Nat.zero_le _⟩) hP hD hS hA [95, 97] rfl rfl (ws' := (wF cA cQ adF adB adT adH kH adR adO vB vT vH bH vR vO ++ [aI cA zl 41 fl, aI cA zp 48 fp, aI cA zt 16 ft])) rfl (fun H locs hP hD hS => ?_)
          refine lv_aload_n hx hb dL_arePupils_68 rfl (lv_at hl 1 rfl) ?_
          refine lv_aload_n hx hb dL_arePupils_69 rfl (lv_at hl 3 rfl) ?_
          refine lv_iload hx hb dL_arePupils_70 (lv_at hl 6 rfl) ?_
          obtain ⟨u64, eu64, h⟩ := bd_in h
          refine kI (va_runS (As := [.ref zl, .ref zt, .int x6]) (rest := [.int u63]) ⟨hx, hb, hml, hown, hts⟩ (c_L_owing l D cA cQ zl zt fl ft x6 u64 eu64 _) (va_cwS 3 hts gL_arePupils_L_owing rfl rfl rfl (by decide +kernel) ⟨Nat.le_of_ble_eq_true rfl, Nat.le_of_ble_eq_true rfl⟩) (pS hK hN hP hD [95, 97] rfl rfl) rfl rfl hl.1 rfl (lv_room (Nat.le_of_ble_eq_true rfl)) dL_arePupils_72 ⟨Nat.zero_le _, Nat.zero_le _⟩) hP hD hS hA [95, 97] rfl rfl (ws' := (wF cA cQ adF adB adT adH kH adR adO vB vT vH bH vR vO ++ [aI cA zl 41 fl, aI cA zp 48 fp, aI cA zt 16 ft])) rfl (fun H locs hP hD hS => ?_)
          refine lv_isub hx hb dL_arePupils_75 ?_
          refine lv_istore (lv' := [(7, .int (u63 - u64)), (0, .ref adF), (1, .ref zl), (2, .ref zp), (3, .ref zt), (4, .int x4), (5, .int x5), (6, .int x6)]) hx hb dL_arePupils_76 hl (by decide) rfl (fun ls hl => ?_)
          refine lv_ldc (v := (-1000004 : Int32)) hx hb hown (hts (.constant RL 59 (-1000004)) (List.mem_of_getElem? (i := 2) rfl)) dL_arePupils_78 ?_
          refine lv_istore (lv' := [(8, .int (-1000004 : Int32)), (7, .int (u63 - u64)), (0, .ref adF), (1, .ref zl), (2, .ref zp), (3, .ref zt), (4, .int x4), (5, .int x5), (6, .int x6)]) hx hb dL_arePupils_80 hl (by decide) rfl (fun ls hl => ?_)
          refine lv_iconst (v := (0 : Int32)) hx hb dL_arePupils_82 (by decide) ?_
          refine lv_istore (lv' := [(9, .int (0 : Int32)), (8, .int (-1000004 : Int32)), (7, .int (u63 - u64)), (0, .ref adF), (1, .ref zl), (2, .ref zp), (3, .ref zt), (4, .int x4), (5, .int x5), (6, .int x6)]) hx hb dL_arePupils_83 hl (by decide) rfl (fun ls hl => ?_)
          refine lv_iload hx hb dL_arePupils_85 (lv_at hl 7 rfl) ?_
          refine lv_aload_n hx hb dL_arePupils_87 rfl (lv_at hl 5 rfl) ?_
          refine lv_bipush (v := (6 : Int32)) hx hb dL_arePupils_88 (by decide) ?_
          refine lv_iload hx hb dL_arePupils_90 (lv_at hl 9 rfl) ?_
          refine lv_imul hx hb dL_arePupils_92 ?_
          refine lv_iconst (v := (2 : Int32)) hx hb dL_arePupils_93 (by decide) ?_
          refine lv_iadd hx hb dL_arePupils_94 ?_
          obtain ⟨y65, ey65, h⟩ := bd_in h
          refine ldR hx hb hK hP 96 0 rfl rfl ey65 dL_arePupils_95 ?_
          refine lv_if_ne (tgt := 106) hx hb dL_arePupils_96 (by decide) (fun c66 => ?_) (fun c66 => ?_)
          · have h := (if_neg c66).symm.trans h
            refine lv_iconst (v := (0 : Int32)) hx hb dL_arePupils_106 (by decide) ?_
            refine lv_ior hx hb dL_arePupils_107 ?_
            refine lv_istore (lv' := [(4, .int (x4 ||| (0 : Int32))), (9, .int (0 : Int32)), (8, .int (-1000004 : Int32)), (7, .int (u63 - u64)), (0, .ref adF), (1, .ref zl), (2, .ref zp), (3, .ref zt), (5, .int x5), (6, .int x6)]) hx hb dL_arePupils_108 hl (by decide) rfl (fun ls hl => ?_)
            refine lv_iconst (v := (0 : Int32)) hx hb dL_arePupils_110 (by decide) ?_
            refine lv_istore (lv' := [(10, .int (0 : Int32)), (4, .int (x4 ||| (0 : Int32))), (9, .int (0 : Int32)), (8, .int (-1000004 : Int32)), (7, .int (u63 - u64)), (0, .ref adF), (1, .ref zl), (2, .ref zp), (3, .ref zt), (5, .int x5), (6, .int x6)]) hx hb dL_arePupils_111 hl (by decide) rfl (fun ls hl => ?_)
            exact B113 FU (x4 ||| (0 : Int32)) x6 (u63 - u64) (-1000004 : Int32) (0 : Int32) (0 : Int32) _ _ _ h hP hD hS (lv_sub hl [5, 6, 7, 8, 1, 10, 4, 3, 2, 0] rfl)
          · have h := (if_pos c66).symm.trans h
            refine lv_iconst (v := (1 : Int32)) hx hb dL_arePupils_99 (by decide) ?_
            refine lv_iload hx hb dL_arePupils_100 (lv_at hl 9 rfl) ?_
            refine lv_ishl hx hb dL_arePupils_102 ?_
            refine lv_goto (tgt := 107) hx hb dL_arePupils_103 (by decide) ?_
            refine lv_ior hx hb dL_arePupils_107 ?_
            refine lv_istore (lv' := [(4, .int (x4 ||| ((1 : Int32) <<< (x6 &&& 31)))), (9, .int (0 : Int32)), (8, .int (-1000004 : Int32)), (7, .int (u63 - u64)), (0, .ref adF), (1, .ref zl), (2, .ref zp), (3, .ref zt), (5, .int x5), (6, .int x6)]) hx hb dL_arePupils_108 hl (by decide) rfl (fun ls hl => ?_)
            refine lv_iconst (v := (0 : Int32)) hx hb dL_arePupils_110 (by decide) ?_
            refine lv_istore (lv' := [(10, .int (0 : Int32)), (4, .int (x4 ||| ((1 : Int32) <<< (x6 &&& 31)))), (9, .int (0 : Int32)), (8, .int (-1000004 : Int32)), (7, .int (u63 - u64)), (0, .ref adF), (1, .ref zl), (2, .ref zp), (3, .ref zt), (5, .int x5), (6, .int x6)]) hx hb dL_arePupils_111 hl (by decide) rfl (fun ls hl => ?_)
            exact B113 FU (x4 ||| ((1 : Int32) <<< (x6 &&& 31))) x6 (u63 - u64) (-1000004 : Int32) (0 : Int32) (0 : Int32) _ _ _ h hP hD hS (lv_sub hl [5, 6, 7, 8, 1, 10, 4, 3, 2, 0] rfl)
  have h := hf
  unfold L_arePupils at h
  refine lv_iconst (v := (0 : Int32)) hx hb dL_arePupils_0 (by decide) ?_
  refine lv_istore (lv' := [(4, .int (0 : Int32)), (0, .ref adF), (1, .ref zl), (2, .ref zp), (3, .ref zt)]) hx hb dL_arePupils_1 hl (by decide) rfl (fun ls hl => ?_)
  refine lv_aload_n hx hb dL_arePupils_3 rfl (lv_at hl 1 rfl) ?_
  refine lv_aload_n hx hb dL_arePupils_4 rfl (lv_at hl 4 rfl) ?_
  refine lv_iconst (v := (1 : Int32)) hx hb dL_arePupils_5 (by decide) ?_
  obtain ⟨y67, ey67, h⟩ := bd_in h
  refine ldR hx hb hK hP 97 0 rfl rfl ey67 dL_arePupils_6 ?_
  refine lv_iconst (v := (0 : Int32)) hx hb dL_arePupils_7 (by decide) ?_
  obtain ⟨u68, eu68, h⟩ := bd_in h
  refine kI (va_runV (As := [.int y67, .int (0 : Int32)]) (rest := []) ⟨hx, hb, hml, hown, hts⟩ (c_X4_pupilOf l D cA cQ adF adB adT adH kH adR adO vB vT vH bH vR vO y67 (0 : Int32) u68 eu68 _) (cwV 2 hts gL_arePupils_X4_pupilOf rfl rfl rfl (by decide +kernel) ⟨Nat.le_of_ble_eq_true rfl, Nat.le_of_ble_eq_true rfl⟩) (pV (ci := 4) (q := (RX4, TX4, 5)) hK hN hP hD [0, 1, 2, 3, 4, 5, 6, 7, 8, 9, 10, 11, 12, 13, 14, 15, 16, 17, 18, 19, 20, 21, 22, 23, 24, 25, 26, 27, 28, 29, 30, 31, 32, 33, 34, 35, 36, 37, 38, 39, 40, 41, 42, 43, 44, 45, 46, 47, 48, 49, 50, 51, 52, 53, 54, 55, 56, 57, 58, 59, 60, 61, 62, 63, 64, 65, 66, 67, 68, 69, 70, 71, 72, 73, 74, 75, 76, 77, 78, 79, 80, 81, 82, 83, 84, 85, 86, 87, 88, 89, 90, 91, 92, 93, 94] rfl rfl rfl rfl) rfl rfl hl.1 rfl (lv_room (Nat.le_of_ble_eq_true rfl)) dL_arePupils_8 ⟨Nat.zero_le _, Nat.zero_le _⟩) hP hD hS hA [0, 1, 2, 3, 4, 5, 6, 7, 8, 9, 10, 11, 12, 13, 14, 15, 16, 17, 18, 19, 20, 21, 22, 23, 24, 25, 26, 27, 28, 29, 30, 31, 32, 33, 34, 35, 36, 37, 38, 39, 40, 41, 42, 43, 44, 45, 46, 47, 48, 49, 50, 51, 52, 53, 54, 55, 56, 57, 58, 59, 60, 61, 62, 63, 64, 65, 66, 67, 68, 69, 70, 71, 72, 73, 74, 75, 76, 77, 78, 79, 80, 81, 82, 83, 84, 85, 86, 87, 88, 89, 90, 91, 92, 93, 94] rfl rfl (ws' := (wF cA cQ adF adB adT adH kH adR adO vB vT vH bH vR vO ++ [aI cA zl 41 fl, aI cA zp 48 fp, aI cA zt 16 ft])) rfl (fun H locs hP hD hS => ?_)
  refine lv_ldc (v := (-1000001 : Int32)) hx hb hown (hts (.constant RL 58 (-1000001)) (List.mem_of_getElem? (i := 1) rfl)) dL_arePupils_11 ?_
  refine lv_icmp_ne (tgt := 42) hx hb dL_arePupils_13 (by decide) (fun c69 => ?_) (fun c69 => ?_)
  · have h := (if_neg c69).symm.trans h
    refine lv_iconst (v := (0 : Int32)) hx hb dL_arePupils_42 (by decide) ?_
    refine lv_istore (lv' := [(5, .int (0 : Int32)), (4, .int (0 : Int32)), (0, .ref adF), (1, .ref zl), (2, .ref zp), (3, .ref zt)]) hx hb dL_arePupils_43 hl (by decide) rfl (fun ls hl => ?_)
    refine lv_iconst (v := (0 : Int32)) hx hb dL_arePupils_45 (by decide) ?_
    refine lv_istore (lv' := [(6, .int (0 : Int32)), (5, .int (0 : Int32)), (4, .int (0 : Int32)), (0, .ref adF), (1, .ref zl), (2, .ref zp), (3, .ref zt)]) hx hb dL_arePupils_46 hl (by decide) rfl (fun ls hl => ?_)
    exact B48 FU (0 : Int32) (0 : Int32) (0 : Int32) _ _ _ h hP hD hS (lv_sub hl [3, 4, 5, 6, 2, 1, 0] rfl)
  · have h := (if_pos c69).symm.trans h
    refine lv_aload_n hx hb dL_arePupils_16 rfl (lv_at hl 1 rfl) ?_
    refine lv_aload_n hx hb dL_arePupils_17 rfl (lv_at hl 4 rfl) ?_
    refine lv_iconst (v := (1 : Int32)) hx hb dL_arePupils_18 (by decide) ?_
    obtain ⟨y70, ey70, h⟩ := bd_in h
    refine ldR hx hb hK hP 97 0 rfl rfl ey70 dL_arePupils_19 ?_
    obtain ⟨u71, eu71, h⟩ := bd_in h
    refine kI (va_runV (As := [.int y70]) (rest := []) ⟨hx, hb, hml, hown, hts⟩ (c_X4_richest l D cA cQ adF adB adT adH kH adR adO vB vT vH bH vR vO y70 u71 eu71 _) (cwV 1 hts gL_arePupils_X4_richest rfl rfl rfl (by decide +kernel) ⟨Nat.le_of_ble_eq_true rfl, Nat.le_of_ble_eq_true rfl⟩) (pV (ci := 4) (q := (RX4, TX4, 5)) hK hN hP hD [0, 1, 2, 3, 4, 5, 6, 7, 8, 9, 10, 11, 12, 13, 14, 15, 16, 17, 18, 19, 20, 21, 22, 23, 24, 25, 26, 27, 28, 29, 30, 31, 32, 33, 34, 35, 36, 37, 38, 39, 40, 41, 42, 43, 44, 45, 46, 47, 48, 49, 50, 51, 52, 53, 54, 55, 56, 57, 58, 59, 60, 61, 62, 63, 64, 65, 66, 67, 68, 69, 70, 71, 72, 73, 74, 75, 76, 77, 78, 79, 80, 81, 82, 83, 84, 85, 86, 87, 88, 89, 90, 91, 92, 93, 94] rfl rfl rfl rfl) rfl rfl hl.1 rfl (lv_room (Nat.le_of_ble_eq_true rfl)) dL_arePupils_20 ⟨Nat.zero_le _, Nat.zero_le _⟩) hP hD hS hA [0, 1, 2, 3, 4, 5, 6, 7, 8, 9, 10, 11, 12, 13, 14, 15, 16, 17, 18, 19, 20, 21, 22, 23, 24, 25, 26, 27, 28, 29, 30, 31, 32, 33, 34, 35, 36, 37, 38, 39, 40, 41, 42, 43, 44, 45, 46, 47, 48, 49, 50, 51, 52, 53, 54, 55, 56, 57, 58, 59, 60, 61, 62, 63, 64, 65, 66, 67, 68, 69, 70, 71, 72, 73, 74, 75, 76, 77, 78, 79, 80, 81, 82, 83, 84, 85, 86, 87, 88, 89, 90, 91, 92, 93, 94] rfl rfl (ws' := (wF cA cQ adF adB adT adH kH adR adO vB vT vH bH vR vO ++ [aI cA zl 41 fl, aI cA zp 48 fp, aI cA zt 16 ft])) rfl (fun H locs hP hD hS => ?_)
    refine lv_ldc (v := (-1000004 : Int32)) hx hb hown (hts (.constant RL 59 (-1000004)) (List.mem_of_getElem? (i := 2) rfl)) dL_arePupils_23 ?_
    refine lv_icmp_ne (tgt := 42) hx hb dL_arePupils_25 (by decide) (fun c72 => ?_) (fun c72 => ?_)
    · have h := (if_neg c72).symm.trans h
      refine lv_iconst (v := (0 : Int32)) hx hb dL_arePupils_42 (by decide) ?_
      refine lv_istore (lv' := [(5, .int (0 : Int32)), (4, .int (0 : Int32)), (0, .ref adF), (1, .ref zl), (2, .ref zp), (3, .ref zt)]) hx hb dL_arePupils_43 hl (by decide) rfl (fun ls hl => ?_)
      refine lv_iconst (v := (0 : Int32)) hx hb dL_arePupils_45 (by decide) ?_
      refine lv_istore (lv' := [(6, .int (0 : Int32)), (5, .int (0 : Int32)), (4, .int (0 : Int32)), (0, .ref adF), (1, .ref zl), (2, .ref zp), (3, .ref zt)]) hx hb dL_arePupils_46 hl (by decide) rfl (fun ls hl => ?_)
      exact B48 FU (0 : Int32) (0 : Int32) (0 : Int32) _ _ _ h hP hD hS (lv_sub hl [3, 4, 5, 6, 2, 1, 0] rfl)
    · have h := (if_pos c72).symm.trans h
      refine lv_aload_n hx hb dL_arePupils_28 rfl (lv_at hl 1 rfl) ?_
      refine lv_iconst (v := (-1 : Int32)) hx hb dL_arePupils_29 (by decide) ?_
      obtain ⟨u73, eu73, h⟩ := bd_in h
      refine kI (va_runV (As := [.int (-1 : Int32)]) (rest := []) ⟨hx, hb, hml, hown, hts⟩ (c_X4_richest l D cA cQ adF adB adT adH kH adR adO vB vT vH bH vR vO (-1 : Int32) u73 eu73 _) (cwV 1 hts gL_arePupils_X4_richest rfl rfl rfl (by decide +kernel) ⟨Nat.le_of_ble_eq_true rfl, Nat.le_of_ble_eq_true rfl⟩) (pV (ci := 4) (q := (RX4, TX4, 5)) hK hN hP hD [0, 1, 2, 3, 4, 5, 6, 7, 8, 9, 10, 11, 12, 13, 14, 15, 16, 17, 18, 19, 20, 21, 22, 23, 24, 25, 26, 27, 28, 29, 30, 31, 32, 33, 34, 35, 36, 37, 38, 39, 40, 41, 42, 43, 44, 45, 46, 47, 48, 49, 50, 51, 52, 53, 54, 55, 56, 57, 58, 59, 60, 61, 62, 63, 64, 65, 66, 67, 68, 69, 70, 71, 72, 73, 74, 75, 76, 77, 78, 79, 80, 81, 82, 83, 84, 85, 86, 87, 88, 89, 90, 91, 92, 93, 94] rfl rfl rfl rfl) rfl rfl hl.1 rfl (lv_room (Nat.le_of_ble_eq_true rfl)) dL_arePupils_30 ⟨Nat.zero_le _, Nat.zero_le _⟩) hP hD hS hA [0, 1, 2, 3, 4, 5, 6, 7, 8, 9, 10, 11, 12, 13, 14, 15, 16, 17, 18, 19, 20, 21, 22, 23, 24, 25, 26, 27, 28, 29, 30, 31, 32, 33, 34, 35, 36, 37, 38, 39, 40, 41, 42, 43, 44, 45, 46, 47, 48, 49, 50, 51, 52, 53, 54, 55, 56, 57, 58, 59, 60, 61, 62, 63, 64, 65, 66, 67, 68, 69, 70, 71, 72, 73, 74, 75, 76, 77, 78, 79, 80, 81, 82, 83, 84, 85, 86, 87, 88, 89, 90, 91, 92, 93, 94] rfl rfl (ws' := (wF cA cQ adF adB adT adH kH adR adO vB vT vH bH vR vO ++ [aI cA zl 41 fl, aI cA zp 48 fp, aI cA zt 16 ft])) rfl (fun H locs hP hD hS => ?_)
      refine lv_ldc (v := (-1000001 : Int32)) hx hb hown (hts (.constant RL 58 (-1000001)) (List.mem_of_getElem? (i := 1) rfl)) dL_arePupils_33 ?_
      refine lv_icmp_ne (tgt := 42) hx hb dL_arePupils_35 (by decide) (fun c74 => ?_) (fun c74 => ?_)
      · have h := (if_neg c74).symm.trans h
        refine lv_iconst (v := (0 : Int32)) hx hb dL_arePupils_42 (by decide) ?_
        refine lv_istore (lv' := [(5, .int (0 : Int32)), (4, .int (0 : Int32)), (0, .ref adF), (1, .ref zl), (2, .ref zp), (3, .ref zt)]) hx hb dL_arePupils_43 hl (by decide) rfl (fun ls hl => ?_)
        refine lv_iconst (v := (0 : Int32)) hx hb dL_arePupils_45 (by decide) ?_
        refine lv_istore (lv' := [(6, .int (0 : Int32)), (5, .int (0 : Int32)), (4, .int (0 : Int32)), (0, .ref adF), (1, .ref zl), (2, .ref zp), (3, .ref zt)]) hx hb dL_arePupils_46 hl (by decide) rfl (fun ls hl => ?_)
        exact B48 FU (0 : Int32) (0 : Int32) (0 : Int32) _ _ _ h hP hD hS (lv_sub hl [3, 4, 5, 6, 2, 1, 0] rfl)
      · have h := (if_pos c74).symm.trans h
        refine lv_iconst (v := (1 : Int32)) hx hb dL_arePupils_38 (by decide) ?_
        refine lv_goto (tgt := 43) hx hb dL_arePupils_39 (by decide) ?_
        refine lv_istore (lv' := [(5, .int (1 : Int32)), (4, .int (0 : Int32)), (0, .ref adF), (1, .ref zl), (2, .ref zp), (3, .ref zt)]) hx hb dL_arePupils_43 hl (by decide) rfl (fun ls hl => ?_)
        refine lv_iconst (v := (0 : Int32)) hx hb dL_arePupils_45 (by decide) ?_
        refine lv_istore (lv' := [(6, .int (0 : Int32)), (5, .int (1 : Int32)), (4, .int (0 : Int32)), (0, .ref adF), (1, .ref zl), (2, .ref zp), (3, .ref zt)]) hx hb dL_arePupils_46 hl (by decide) rfl (fun ls hl => ?_)
        exact B48 FU (0 : Int32) (1 : Int32) (0 : Int32) _ _ _ h hP hD hS (lv_sub hl [3, 4, 5, 6, 2, 1, 0] rfl)
set_option maxHeartbeats 4000000 in
set_option maxRecDepth 100000 in
theorem c_L_ring (l : Launch) (D : va_G) (cA cQ : ClassId) (zl : Nat) (zt : Nat) (zr : Nat) (fl : Nat → Int32) (ft : Nat → Int32) (fr : Nat → Int32) (p3 : Int32) (o : Int32 × (Nat → Int32)) (hf : L_ring fl ft fr p3 = some o) : Ctj l yL_ring wsL_ring ({ frames := 1, cells := 1, slots := 8, locals := 20 }) D (TY cA cQ) [.ref zl, .ref zt, .ref zr, .int p3] ([aI cA zl 41 fl, aI cA zt 16 ft, aI cA zr 9 fr] : va_W) ([aI cA zl 41 fl, aI cA zt 16 ft, aI cA zr 9 o.2] : va_W) o.1 1 8 := by
  refine Wk.j (cc := cL_ring) (maxL := 10) (ret := (some .int)) (by decide) rfl (Nat.le_of_ble_eq_true rfl) ?_
  intro p e s m below meth c A ls hx hb hr hlocks hml hown hts hK hN hP hD hA hl
  have hown : s.vm.findClass RL = some m.cls := hown
  have hS : va_S A s.heap s.heap [] := va_S.rf
  have hl : lv_has ls 10 [(0, .ref zl), (1, .ref zt), (2, .ref zr), (3, .int p3)] := hl
  have B63 : ∀ (fu63 : Nat) (zq : Nat) (fr : Nat → Int32) (fq : Nat → Int32) (x5 : Int32) (H : Heap) (locs : List Loc) (ls : Array Slot), L_ring_l63 fl ft p3 fu63 fr fq x5 = some o → va_P D vwCl ([aI cA zl 41 fl, aI cA zt 16 ft, aI cA zr 9 fr, aI cA zq 8 fq] : va_W) H → va_D A ([aI cA zl 41 fl, aI cA zt 16 ft, aI cA zr 9 fr, aI cA zq 8 fq] : va_W) → va_S A s.heap H locs → lv_has ls 10 [(2, .ref zr), (4, .ref zq), (5, .int x5)] → W p l e (headSpec wsL_ring ({ frames := 1, cells := 1, slots := 8, locals := 20 })).room s m ([.ref zl, .ref zt, .ref zr, .int p3] : List Value).toArray below meth c H locs 1 8 (MQ below (QI D ([aI cA zl 41 fl, aI cA zt 16 ft, aI cA zr 9 o.2] : va_W) o.1 A) ([.ref zl, .ref zt, .ref zr, .int p3] : List Value).toArray s 1 8 A) (F0 m 63 ls []) := by
    intro fu63
    induction fu63 with
    | zero =>
      intro zq fr fq x5 H locs ls h hP hD hS hl
      cases h
    | succ fu63 ih63 =>
      have B73 : ∀ (fu73 : Nat) (zq : Nat) (fr : Nat → Int32) (fq : Nat → Int32) (x5 : Int32) (x6 : Int32) (H : Heap) (locs : List Loc) (ls : Array Slot), L_ring_l73 fl ft p3 (L_ring_l63 fl ft p3 fu63) fu73 fr fq x5 x6 = some o → va_P D vwCl ([aI cA zl 41 fl, aI cA zt 16 ft, aI cA zr 9 fr, aI cA zq 8 fq] : va_W) H → va_D A ([aI cA zl 41 fl, aI cA zt 16 ft, aI cA zr 9 fr, aI cA zq 8 fq] : va_W) → va_S A s.heap H locs → lv_has ls 10 [(2, .ref zr), (4, .ref zq), (5, .int x5), (6, .int x6)] → W p l e (headSpec wsL_ring ({ frames := 1, cells := 1, slots := 8, locals := 20 })).room s m ([.ref zl, .ref zt, .ref zr, .int p3] : List Value).toArray below meth c H locs 1 8 (MQ below (QI D ([aI cA zl 41 fl, aI cA zt 16 ft, aI cA zr 9 o.2] : va_W) o.1 A) ([.ref zl, .ref zt, .ref zr, .int p3] : List Value).toArray s 1 8 A) (F0 m 73 ls []) := by
        intro fu73
        induction fu73 with
        | zero =>
          intro zq fr fq x5 x6 H locs ls h hP hD hS hl
          cases h
        | succ fu73 ih73 =>
          have B93 : ∀ (fu93 : Nat) (zq : Nat) (fr : Nat → Int32) (fq : Nat → Int32) (x5 : Int32) (x6 : Int32) (x7 : Int32) (H : Heap) (locs : List Loc) (ls : Array Slot), L_ring_l93 fl ft p3 (L_ring_l63 fl ft p3 fu63) (L_ring_l73 fl ft p3 (L_ring_l63 fl ft p3 fu63) fu73) fu93 fr fq x5 x6 x7 = some o → va_P D vwCl ([aI cA zl 41 fl, aI cA zt 16 ft, aI cA zr 9 fr, aI cA zq 8 fq] : va_W) H → va_D A ([aI cA zl 41 fl, aI cA zt 16 ft, aI cA zr 9 fr, aI cA zq 8 fq] : va_W) → va_S A s.heap H locs → lv_has ls 10 [(2, .ref zr), (4, .ref zq), (5, .int x5), (6, .int x6), (7, .int x7)] → W p l e (headSpec wsL_ring ({ frames := 1, cells := 1, slots := 8, locals := 20 })).room s m ([.ref zl, .ref zt, .ref zr, .int p3] : List Value).toArray below meth c H locs 1 8 (MQ below (QI D ([aI cA zl 41 fl, aI cA zt 16 ft, aI cA zr 9 o.2] : va_W) o.1 A) ([.ref zl, .ref zt, .ref zr, .int p3] : List Value).toArray s 1 8 A) (F0 m 93 ls []) := by
            intro fu93
            induction fu93 with
            | zero =>
              intro zq fr fq x5 x6 x7 H locs ls h hP hD hS hl
              cases h
            | succ fu93 ih93 =>
              have B148 : ∀ (zq : Nat) (fr : Nat → Int32) (fq : Nat → Int32) (x5 : Int32) (x6 : Int32) (x7 : Int32) (x8 : Int32) (H : Heap) (locs : List Loc) (ls : Array Slot), L_ring_b148 fl ft p3 (L_ring_l63 fl ft p3 fu63) (L_ring_l73 fl ft p3 (L_ring_l63 fl ft p3 fu63) fu73) (L_ring_l93 fl ft p3 (L_ring_l63 fl ft p3 fu63) (L_ring_l73 fl ft p3 (L_ring_l63 fl ft p3 fu63) fu73) fu93) fr fq x5 x6 x7 x8 = some o → va_P D vwCl ([aI cA zl 41 fl, aI cA zt 16 ft, aI cA zr 9 fr, aI cA zq 8 fq] : va_W) H → va_D A ([aI cA zl 41 fl, aI cA zt 16 ft, aI cA zr 9 fr, aI cA zq 8 fq] : va_W) → va_S A s.heap H locs → lv_has ls 10 [(2, .ref zr), (4, .ref zq), (5, .int x5), (6, .int x6), (7, .int x7), (8, .int x8)] → W p l e (headSpec wsL_ring ({ frames := 1, cells := 1, slots := 8, locals := 20 })).room s m ([.ref zl, .ref zt, .ref zr, .int p3] : List Value).toArray below meth c H locs 1 8 (MQ below (QI D ([aI cA zl 41 fl, aI cA zt 16 ft, aI cA zr 9 o.2] : va_W) o.1 A) ([.ref zl, .ref zt, .ref zr, .int p3] : List Value).toArray s 1 8 A) (F0 m 148 ls []) := by
                intro zq fr fq x5 x6 x7 x8 H locs ls h hP hD hS hl
                unfold L_ring_b148 at h
                refine lv_aload_n hx hb dL_ring_148 rfl (lv_at hl 0 rfl) ?_
                refine lv_iload hx hb dL_ring_149 (lv_at hl 4 rfl) ?_
                obtain ⟨y1, ey1, h⟩ := bd_in h
                refine ldR hx hb hK hP 2 0 rfl rfl ey1 dL_ring_151 ?_
                refine lv_bipush (v := (7 : Int32)) hx hb dL_ring_152 (by decide) ?_
                refine lv_icmp_le (tgt := 163) hx hb dL_ring_154 (by decide) (fun c2 => ?_) (fun c2 => ?_)
                · have h := (if_pos c2).symm.trans h
                  refine lv_iload hx hb dL_ring_163 (lv_at hl 5 rfl) ?_
                  refine lv_if_eq (tgt := 228) hx hb dL_ring_165 (by decide) (fun c3 => ?_) (fun c3 => ?_)
                  · have h := (if_pos c3).symm.trans h
                    refine lv_goto (tgt := 93) hx hb dL_ring_228 (by decide) ?_
                    exact ih93 _ fr fq x5 x6 x7 _ _ _ h hP hD hS (lv_sub hl [0, 1, 2, 3, 4] rfl)
                  · have h := (if_neg c3).symm.trans h
                    refine lv_aload hx hb dL_ring_168 (lv_at hl 1 rfl) ?_
                    refine lv_aload_n hx hb dL_ring_170 rfl (lv_at hl 0 rfl) ?_
                    refine lv_iload hx hb dL_ring_171 (lv_at hl 4 rfl) ?_
                    refine lv_iconst (v := (1 : Int32)) hx hb dL_ring_173 (by decide) ?_
                    refine lv_isub hx hb dL_ring_174 ?_
                    obtain ⟨y4, ey4, h⟩ := bd_in h
                    refine ldR hx hb hK hP 2 0 rfl rfl ey4 dL_ring_175 ?_
                    obtain ⟨y5, ey5, h⟩ := bd_in h
                    refine ldR hx hb hK hP 3 0 rfl rfl ey5 dL_ring_176 ?_
                    refine lv_aload_n hx hb dL_ring_177 rfl (lv_at hl 0 rfl) ?_
                    refine lv_iload hx hb dL_ring_178 (lv_at hl 4 rfl) ?_
                    obtain ⟨y6, ey6, h⟩ := bd_in h
                    refine ldR hx hb hK hP 2 0 rfl rfl ey6 dL_ring_180 ?_
                    refine lv_ishr hx hb dL_ring_181 ?_
                    refine lv_iconst (v := (1 : Int32)) hx hb dL_ring_182 (by decide) ?_
                    refine lv_iand hx hb dL_ring_183 ?_
                    refine lv_iconst (v := (1 : Int32)) hx hb dL_ring_184 (by decide) ?_
                    refine lv_icmp_ne (tgt := 228) hx hb dL_ring_185 (by decide) (fun c7 => ?_) (fun c7 => ?_)
                    · have h := (if_neg c7).symm.trans h
                      refine lv_goto (tgt := 93) hx hb dL_ring_228 (by decide) ?_
                      exact ih93 _ fr fq x5 x6 x7 _ _ _ h hP hD hS (lv_sub hl [0, 1, 2, 3, 4] rfl)
                    · have h := (if_pos c7).symm.trans h
                      refine lv_iload hx hb dL_ring_188 (lv_at hl 4 rfl) ?_
                      refine lv_iload hx hb dL_ring_190 (lv_at hl 2 rfl) ?_
                      refine lv_iconst (v := (1 : Int32)) hx hb dL_ring_192 (by decide) ?_
                      refine lv_isub hx hb dL_ring_193 ?_
                      refine lv_icmp_ge (tgt := 209) hx hb dL_ring_194 (by decide) (fun c8 => ?_) (fun c8 => ?_)
                      · have h := (if_pos c8).symm.trans h
                        refine lv_aload hx hb dL_ring_209 (lv_at hl 1 rfl) ?_
                        refine lv_aload_n hx hb dL_ring_211 rfl (lv_at hl 0 rfl) ?_
                        refine lv_iload hx hb dL_ring_212 (lv_at hl 4 rfl) ?_
                        obtain ⟨y9, ey9, h⟩ := bd_in h
                        refine ldR hx hb hK hP 2 0 rfl rfl ey9 dL_ring_214 ?_
                        obtain ⟨y10, ey10, h⟩ := bd_in h
                        refine ldR hx hb hK hP 3 0 rfl rfl ey10 dL_ring_215 ?_
                        refine lv_iload hx hb dL_ring_216 (lv_at hl 3 rfl) ?_
                        refine lv_ishr hx hb dL_ring_218 ?_
                        refine lv_iconst (v := (1 : Int32)) hx hb dL_ring_219 (by decide) ?_
                        refine lv_iand hx hb dL_ring_220 ?_
                        refine lv_iconst (v := (1 : Int32)) hx hb dL_ring_221 (by decide) ?_
                        refine lv_icmp_ne (tgt := 228) hx hb dL_ring_222 (by decide) (fun c11 => ?_) (fun c11 => ?_)
                        · have h := (if_neg c11).symm.trans h
                          refine lv_goto (tgt := 93) hx hb dL_ring_228 (by decide) ?_
                          exact ih93 _ fr fq x5 x6 x7 _ _ _ h hP hD hS (lv_sub hl [0, 1, 2, 3, 4] rfl)
                        · have h := (if_pos c11).symm.trans h
                          refine lv_iload hx hb dL_ring_225 (lv_at hl 2 rfl) ?_
                          cases h
                          exact endI hx hb hr hlocks (cut_P (wc := ([aI cA zl 41 fl, aI cA zt 16 ft, aI cA zr 9 fr] : va_W)) (is := [0, 1, 2]) hP rfl) hS rfl dL_ring_227
                      · have h := (if_neg c8).symm.trans h
                        refine lv_iinc (v := (x7 + (1 : Int32))) (lv' := [(7, .int (x7 + (1 : Int32))), (2, .ref zr), (4, .ref zq), (5, .int x5), (6, .int x6), (8, .int x8)]) hx hb dL_ring_197 hl (k := 4) rfl rfl (by decide) rfl (fun ls hl => ?_)
                        refine lv_aload_n hx hb dL_ring_200 rfl (lv_at hl 1 rfl) ?_
                        refine lv_iload hx hb dL_ring_201 (lv_at hl 0 rfl) ?_
                        refine lv_iload hx hb dL_ring_203 (lv_at hl 4 rfl) ?_
                        obtain ⟨g12, eg12, h⟩ := bd_in h
                        refine stR hx hb hK hP hD hS 2 0 rfl rfl eg12 (ws' := ([aI cA zl 41 fl, aI cA zt 16 ft, aI cA zr 9 g12, aI cA zq 8 fq] : va_W)) rfl dL_ring_205 (fun H locs hP hD hS => ?_)
                        refine lv_goto (tgt := 228) hx hb dL_ring_206 (by decide) ?_
                        refine lv_goto (tgt := 93) hx hb dL_ring_228 (by decide) ?_
                        exact ih93 _ g12 fq x5 x6 (x7 + (1 : Int32)) _ _ _ h hP hD hS (lv_sub hl [1, 2, 3, 4, 0] rfl)
                · have h := (if_neg c2).symm.trans h
                  refine lv_iinc (v := (x7 + (-1 : Int32))) (lv' := [(7, .int (x7 + (-1 : Int32))), (2, .ref zr), (4, .ref zq), (5, .int x5), (6, .int x6), (8, .int x8)]) hx hb dL_ring_157 hl (k := 4) rfl rfl (by decide) rfl (fun ls hl => ?_)
                  refine lv_goto (tgt := 228) hx hb dL_ring_160 (by decide) ?_
                  refine lv_goto (tgt := 93) hx hb dL_ring_228 (by decide) ?_
                  exact ih93 _ fr fq x5 x6 (x7 + (-1 : Int32)) _ _ _ h hP hD hS (lv_sub hl [1, 2, 3, 4, 0] rfl)
              have B112 : ∀ (fu112 : Nat) (zq : Nat) (fr : Nat → Int32) (fq : Nat → Int32) (x5 : Int32) (x6 : Int32) (x7 : Int32) (x8 : Int32) (x9 : Int32) (H : Heap) (locs : List Loc) (ls : Array Slot), L_ring_l112 fl ft p3 (L_ring_l63 fl ft p3 fu63) (L_ring_l73 fl ft p3 (L_ring_l63 fl ft p3 fu63) fu73) (L_ring_l93 fl ft p3 (L_ring_l63 fl ft p3 fu63) (L_ring_l73 fl ft p3 (L_ring_l63 fl ft p3 fu63) fu73) fu93) fu112 fr fq x5 x6 x7 x8 x9 = some o → va_P D vwCl ([aI cA zl 41 fl, aI cA zt 16 ft, aI cA zr 9 fr, aI cA zq 8 fq] : va_W) H → va_D A ([aI cA zl 41 fl, aI cA zt 16 ft, aI cA zr 9 fr, aI cA zq 8 fq] : va_W) → va_S A s.heap H locs → lv_has ls 10 [(2, .ref zr), (4, .ref zq), (5, .int x5), (6, .int x6), (7, .int x7), (8, .int x8), (9, .int x9)] → W p l e (headSpec wsL_ring ({ frames := 1, cells := 1, slots := 8, locals := 20 })).room s m ([.ref zl, .ref zt, .ref zr, .int p3] : List Value).toArray below meth c H locs 1 8 (MQ below (QI D ([aI cA zl 41 fl, aI cA zt 16 ft, aI cA zr 9 o.2] : va_W) o.1 A) ([.ref zl, .ref zt, .ref zr, .int p3] : List Value).toArray s 1 8 A) (F0 m 112 ls []) := by
                intro fu112
                induction fu112 with
                | zero =>
                  intro zq fr fq x5 x6 x7 x8 x9 H locs ls h hP hD hS hl
                  cases h
                | succ fu112 ih112 =>
                  intro zq fr fq x5 x6 x7 x8 x9 H locs ls h hP hD hS hl
                  rw [L_ring_l112] at h
                  refine lv_iload hx hb dL_ring_112 (lv_at hl 6 rfl) ?_
                  refine lv_iload hx hb dL_ring_114 (lv_at hl 4 rfl) ?_
                  refine lv_icmp_ge (tgt := 148) hx hb dL_ring_116 (by decide) (fun c13 => ?_) (fun c13 => ?_)
                  · have h := (if_pos c13).symm.trans h
                    exact B148 _ fr fq x5 x6 x7 x8 _ _ _ h hP hD hS (lv_sub hl [0, 1, 2, 3, 4, 5] rfl)
                  · have h := (if_neg c13).symm.trans h
                    refine lv_iload hx hb dL_ring_119 (lv_at hl 5 rfl) ?_
                    refine lv_if_eq (tgt := 139) hx hb dL_ring_121 (by decide) (fun c14 => ?_) (fun c14 => ?_)
                    · have h := (if_pos c14).symm.trans h
                      refine lv_iconst (v := (0 : Int32)) hx hb dL_ring_139 (by decide) ?_
                      refine lv_istore (lv' := [(8, .int (0 : Int32)), (2, .ref zr), (4, .ref zq), (5, .int x5), (6, .int x6), (7, .int x7), (9, .int x9)]) hx hb dL_ring_140 hl (by decide) rfl (fun ls hl => ?_)
                      refine lv_iinc (v := (x9 + (1 : Int32))) (lv' := [(9, .int (x9 + (1 : Int32))), (8, .int (0 : Int32)), (2, .ref zr), (4, .ref zq), (5, .int x5), (6, .int x6), (7, .int x7)]) hx hb dL_ring_142 hl (k := 6) rfl rfl (by decide) rfl (fun ls hl => ?_)
                      refine lv_goto (tgt := 112) hx hb dL_ring_145 (by decide) ?_
                      exact ih112 _ fr fq x5 x6 x7 (0 : Int32) (x9 + (1 : Int32)) _ _ _ h hP hD hS (lv_sub hl [2, 3, 4, 5, 6, 1, 0] rfl)
                    · have h := (if_neg c14).symm.trans h
                      refine lv_aload_n hx hb dL_ring_124 rfl (lv_at hl 0 rfl) ?_
                      refine lv_iload hx hb dL_ring_125 (lv_at hl 6 rfl) ?_
                      obtain ⟨y15, ey15, h⟩ := bd_in h
                      refine ldR hx hb hK hP 2 0 rfl rfl ey15 dL_ring_127 ?_
                      refine lv_aload_n hx hb dL_ring_128 rfl (lv_at hl 0 rfl) ?_
                      refine lv_iload hx hb dL_ring_129 (lv_at hl 4 rfl) ?_
                      obtain ⟨y16, ey16, h⟩ := bd_in h
                      refine ldR hx hb hK hP 2 0 rfl rfl ey16 dL_ring_131 ?_
                      refine lv_icmp_eq (tgt := 139) hx hb dL_ring_132 (by decide) (fun c17 => ?_) (fun c17 => ?_)
                      · have h := (if_pos c17).symm.trans h
                        refine lv_iconst (v := (0 : Int32)) hx hb dL_ring_139 (by decide) ?_
                        refine lv_istore (lv' := [(8, .int (0 : Int32)), (2, .ref zr), (4, .ref zq), (5, .int x5), (6, .int x6), (7, .int x7), (9, .int x9)]) hx hb dL_ring_140 hl (by decide) rfl (fun ls hl => ?_)
                        refine lv_iinc (v := (x9 + (1 : Int32))) (lv' := [(9, .int (x9 + (1 : Int32))), (8, .int (0 : Int32)), (2, .ref zr), (4, .ref zq), (5, .int x5), (6, .int x6), (7, .int x7)]) hx hb dL_ring_142 hl (k := 6) rfl rfl (by decide) rfl (fun ls hl => ?_)
                        refine lv_goto (tgt := 112) hx hb dL_ring_145 (by decide) ?_
                        exact ih112 _ fr fq x5 x6 x7 (0 : Int32) (x9 + (1 : Int32)) _ _ _ h hP hD hS (lv_sub hl [2, 3, 4, 5, 6, 1, 0] rfl)
                      · have h := (if_neg c17).symm.trans h
                        refine lv_iconst (v := (1 : Int32)) hx hb dL_ring_135 (by decide) ?_
                        refine lv_goto (tgt := 140) hx hb dL_ring_136 (by decide) ?_
                        refine lv_istore (lv' := [(8, .int (1 : Int32)), (2, .ref zr), (4, .ref zq), (5, .int x5), (6, .int x6), (7, .int x7), (9, .int x9)]) hx hb dL_ring_140 hl (by decide) rfl (fun ls hl => ?_)
                        refine lv_iinc (v := (x9 + (1 : Int32))) (lv' := [(9, .int (x9 + (1 : Int32))), (8, .int (1 : Int32)), (2, .ref zr), (4, .ref zq), (5, .int x5), (6, .int x6), (7, .int x7)]) hx hb dL_ring_142 hl (k := 6) rfl rfl (by decide) rfl (fun ls hl => ?_)
                        refine lv_goto (tgt := 112) hx hb dL_ring_145 (by decide) ?_
                        exact ih112 _ fr fq x5 x6 x7 (1 : Int32) (x9 + (1 : Int32)) _ _ _ h hP hD hS (lv_sub hl [2, 3, 4, 5, 6, 1, 0] rfl)
              intro zq fr fq x5 x6 x7 H locs ls h hP hD hS hl
              rw [L_ring_l93] at h
              refine lv_iload hx hb dL_ring_93 (lv_at hl 4 rfl) ?_
              refine lv_if_le (tgt := 231) hx hb dL_ring_95 (by decide) (fun c18 => ?_) (fun c18 => ?_)
              · have h := (if_pos c18).symm.trans h
                refine lv_iinc (v := (x6 + (1 : Int32))) (lv' := [(6, .int (x6 + (1 : Int32))), (2, .ref zr), (4, .ref zq), (5, .int x5), (7, .int x7)]) hx hb dL_ring_231 hl (k := 3) rfl rfl (by decide) rfl (fun ls hl => ?_)
                refine lv_goto (tgt := 73) hx hb dL_ring_234 (by decide) ?_
                exact ih73 _ fr fq x5 (x6 + (1 : Int32)) _ _ _ h hP hD hS (lv_sub hl [1, 2, 3, 0] rfl)
              · have h := (if_neg c18).symm.trans h
                refine lv_aload_n hx hb dL_ring_98 rfl (lv_at hl 0 rfl) ?_
                refine lv_iload hx hb dL_ring_99 (lv_at hl 4 rfl) ?_
                refine lv_dup2_11 hx hb dL_ring_101 rfl rfl ?_
                obtain ⟨y19, ey19, h⟩ := bd_in h
                refine ldR hx hb hK hP 2 0 rfl rfl ey19 dL_ring_102 ?_
                refine lv_iconst (v := (1 : Int32)) hx hb dL_ring_103 (by decide) ?_
                refine lv_iadd hx hb dL_ring_104 ?_
                obtain ⟨g20, eg20, h⟩ := bd_in h
                refine stR hx hb hK hP hD hS 2 0 rfl rfl eg20 (ws' := ([aI cA zl 41 fl, aI cA zt 16 ft, aI cA zr 9 g20, aI cA zq 8 fq] : va_W)) rfl dL_ring_105 (fun H locs hP hD hS => ?_)
                refine lv_iconst (v := (1 : Int32)) hx hb dL_ring_106 (by decide) ?_
                refine lv_istore (lv' := [(8, .int (1 : Int32)), (2, .ref zr), (4, .ref zq), (5, .int x5), (6, .int x6), (7, .int x7)]) hx hb dL_ring_107 hl (by decide) rfl (fun ls hl => ?_)
                refine lv_iconst (v := (0 : Int32)) hx hb dL_ring_109 (by decide) ?_
                refine lv_istore (lv' := [(9, .int (0 : Int32)), (8, .int (1 : Int32)), (2, .ref zr), (4, .ref zq), (5, .int x5), (6, .int x6), (7, .int x7)]) hx hb dL_ring_110 hl (by decide) rfl (fun ls hl => ?_)
                exact B112 FU _ g20 fq x5 x6 x7 (1 : Int32) (0 : Int32) _ _ _ h hP hD hS (lv_sub hl [2, 3, 4, 5, 6, 1, 0] rfl)
          intro zq fr fq x5 x6 H locs ls h hP hD hS hl
          rw [L_ring_l73] at h
          refine lv_iload hx hb dL_ring_73 (lv_at hl 3 rfl) ?_
          refine lv_bipush (v := (8 : Int32)) hx hb dL_ring_75 (by decide) ?_
          refine lv_icmp_ge (tgt := 237) hx hb dL_ring_77 (by decide) (fun c21 => ?_) (fun c21 => ?_)
          · have h := (if_pos c21).symm.trans h
            refine lv_iinc (v := (x5 + (1 : Int32))) (lv' := [(5, .int (x5 + (1 : Int32))), (2, .ref zr), (4, .ref zq), (6, .int x6)]) hx hb dL_ring_237 hl (k := 2) rfl rfl (by decide) rfl (fun ls hl => ?_)
            refine lv_goto (tgt := 63) hx hb dL_ring_240 (by decide) ?_
            exact ih63 _ fr fq (x5 + (1 : Int32)) _ _ _ h hP hD hS (lv_sub hl [1, 2, 0] rfl)
          · have h := (if_neg c21).symm.trans h
            refine lv_iconst (v := (1 : Int32)) hx hb dL_ring_80 (by decide) ?_
            refine lv_istore (lv' := [(7, .int (1 : Int32)), (2, .ref zr), (4, .ref zq), (5, .int x5), (6, .int x6)]) hx hb dL_ring_81 hl (by decide) rfl (fun ls hl => ?_)
            refine lv_aload_n hx hb dL_ring_83 rfl (lv_at hl 1 rfl) ?_
            refine lv_iconst (v := (0 : Int32)) hx hb dL_ring_84 (by decide) ?_
            refine lv_iload hx hb dL_ring_85 (lv_at hl 4 rfl) ?_
            obtain ⟨g22, eg22, h⟩ := bd_in h
            refine stR hx hb hK hP hD hS 2 0 rfl rfl eg22 (ws' := ([aI cA zl 41 fl, aI cA zt 16 ft, aI cA zr 9 g22, aI cA zq 8 fq] : va_W)) rfl dL_ring_87 (fun H locs hP hD hS => ?_)
            refine lv_aload_n hx hb dL_ring_88 rfl (lv_at hl 1 rfl) ?_
            refine lv_iconst (v := (1 : Int32)) hx hb dL_ring_89 (by decide) ?_
            refine lv_iload hx hb dL_ring_90 (lv_at hl 4 rfl) ?_
            obtain ⟨g23, eg23, h⟩ := bd_in h
            refine stR hx hb hK hP hD hS 2 0 rfl rfl eg23 (ws' := ([aI cA zl 41 fl, aI cA zt 16 ft, aI cA zr 9 g23, aI cA zq 8 fq] : va_W)) rfl dL_ring_92 (fun H locs hP hD hS => ?_)
            exact B93 FV _ g23 fq x5 x6 (1 : Int32) _ _ _ h hP hD hS (lv_sub hl [1, 2, 3, 4, 0] rfl)
      intro zq fr fq x5 H locs ls h hP hD hS hl
      rw [L_ring_l63] at h
      refine lv_iload hx hb dL_ring_63 (lv_at hl 2 rfl) ?_
      refine lv_bipush (v := (9 : Int32)) hx hb dL_ring_65 (by decide) ?_
      refine lv_icmp_ge (tgt := 243) hx hb dL_ring_67 (by decide) (fun c24 => ?_) (fun c24 => ?_)
      · have h := (if_pos c24).symm.trans h
        refine lv_iconst (v := (0 : Int32)) hx hb dL_ring_243 (by decide) ?_
        cases h
        exact endI hx hb hr hlocks (cut_P (wc := ([aI cA zl 41 fl, aI cA zt 16 ft, aI cA zr 9 fr] : va_W)) (is := [0, 1, 2]) hP rfl) hS rfl dL_ring_244
      · have h := (if_neg c24).symm.trans h
        refine lv_iconst (v := (0 : Int32)) hx hb dL_ring_70 (by decide) ?_
        refine lv_istore (lv' := [(6, .int (0 : Int32)), (2, .ref zr), (4, .ref zq), (5, .int x5)]) hx hb dL_ring_71 hl (by decide) rfl (fun ls hl => ?_)
        exact B73 FU _ fr fq x5 (0 : Int32) _ _ _ h hP hD hS (lv_sub hl [1, 2, 3, 0] rfl)
  have B9 : ∀ (fu9 : Nat) (zq : Nat) (fr : Nat → Int32) (fq : Nat → Int32) (x5 : Int32) (H : Heap) (locs : List Loc) (ls : Array Slot), L_ring_l9 fl ft p3 fu9 fr fq x5 = some o → va_P D vwCl ([aI cA zl 41 fl, aI cA zt 16 ft, aI cA zr 9 fr, aI cA zq 8 fq] : va_W) H → va_D A ([aI cA zl 41 fl, aI cA zt 16 ft, aI cA zr 9 fr, aI cA zq 8 fq] : va_W) → va_S A s.heap H locs → lv_has ls 10 [(0, .ref zl), (1, .ref zt), (2, .ref zr), (3, .int p3), (4, .ref zq), (5, .int x5)] → W p l e (headSpec wsL_ring ({ frames := 1, cells := 1, slots := 8, locals := 20 })).room s m ([.ref zl, .ref zt, .ref zr, .int p3] : List Value).toArray below meth c H locs 1 8 (MQ below (QI D ([aI cA zl 41 fl, aI cA zt 16 ft, aI cA zr 9 o.2] : va_W) o.1 A) ([.ref zl, .ref zt, .ref zr, .int p3] : List Value).toArray s 1 8 A) (F0 m 9 ls []) := by
    intro fu9
    induction fu9 with
    | zero =>
      intro zq fr fq x5 H locs ls h hP hD hS hl
      cases h
    | succ fu9 ih9 =>
      intro zq fr fq x5 H locs ls h hP hD hS hl
      rw [L_ring_l9] at h
      refine lv_iload hx hb dL_ring_9 (lv_at hl 5 rfl) ?_
      refine lv_aload_n hx hb dL_ring_11 rfl (lv_at hl 1 rfl) ?_
      refine lv_iconst (v := (2 : Int32)) hx hb dL_ring_12 (by decide) ?_
      obtain ⟨y25, ey25, h⟩ := bd_in h
      refine ldR hx hb hK hP 1 0 rfl rfl ey25 dL_ring_13 ?_
      refine lv_icmp_ge (tgt := 60) hx hb dL_ring_14 (by decide) (fun c26 => ?_) (fun c26 => ?_)
      · have h := (if_pos c26).symm.trans h
        refine lv_iconst (v := (2 : Int32)) hx hb dL_ring_60 (by decide) ?_
        refine lv_istore (lv' := [(5, .int (2 : Int32)), (0, .ref zl), (1, .ref zt), (2, .ref zr), (3, .int p3), (4, .ref zq)]) hx hb dL_ring_61 hl (by decide) rfl (fun ls hl => ?_)
        exact B63 FU _ fr fq (2 : Int32) _ _ _ h hP hD hS (lv_sub hl [3, 5, 0] rfl)
      · have h := (if_neg c26).symm.trans h
        refine lv_aload hx hb dL_ring_17 (lv_at hl 4 rfl) ?_
        refine lv_aload_n hx hb dL_ring_19 rfl (lv_at hl 0 rfl) ?_
        refine lv_iload hx hb dL_ring_20 (lv_at hl 5 rfl) ?_
        obtain ⟨y27, ey27, h⟩ := bd_in h
        refine ldR hx hb hK hP 0 0 rfl rfl ey27 dL_ring_22 ?_
        obtain ⟨u28, eu28, h⟩ := bd_in h
        refine kI (va_runS (As := [.int y27]) (rest := [.ref zq]) ⟨hx, hb, hml, hown, hts⟩ (c_L_debtor l D cA cQ  y27 u28 eu28 _) (va_cwS 1 hts gL_ring_L_debtor rfl rfl rfl (by decide +kernel) ⟨Nat.le_of_ble_eq_true rfl, Nat.le_of_ble_eq_true rfl⟩) (pS hK hN hP hD [] rfl rfl) rfl rfl hl.1 rfl (lv_room (Nat.le_of_ble_eq_true rfl)) dL_ring_23 ⟨(by show _ + _ ≤ 1; omega), (by show _ + _ ≤ 8; omega)⟩) hP hD hS hA [] rfl rfl (ws' := ([aI cA zl 41 fl, aI cA zt 16 ft, aI cA zr 9 fr, aI cA zq 8 fq] : va_W)) rfl (fun H locs hP hD hS => ?_)
        refine lv_dup2_11 hx hb dL_ring_26 rfl rfl ?_
        obtain ⟨y29, ey29, h⟩ := bd_in h
        refine ldR hx hb hK hP 3 0 rfl rfl ey29 dL_ring_27 ?_
        refine lv_aload_n hx hb dL_ring_28 rfl (lv_at hl 0 rfl) ?_
        refine lv_iload hx hb dL_ring_29 (lv_at hl 5 rfl) ?_
        obtain ⟨y30, ey30, h⟩ := bd_in h
        refine ldR hx hb hK hP 0 0 rfl rfl ey30 dL_ring_31 ?_
        obtain ⟨u31, eu31, h⟩ := bd_in h
        refine kI (va_runS (As := [.int y30]) (rest := [.int y29, .int u28, .ref zq]) ⟨hx, hb, hml, hown, hts⟩ (c_L_kind l D cA cQ  y30 u31 eu31 _) (va_cwS 1 hts gL_ring_L_kind rfl rfl rfl (by decide +kernel) ⟨Nat.le_of_ble_eq_true rfl, Nat.le_of_ble_eq_true rfl⟩) (pS hK hN hP hD [] rfl rfl) rfl rfl hl.1 rfl (lv_room (Nat.le_of_ble_eq_true rfl)) dL_ring_32 ⟨(by show _ + _ ≤ 1; omega), (by show _ + _ ≤ 8; omega)⟩) hP hD hS hA [] rfl rfl (ws' := ([aI cA zl 41 fl, aI cA zt 16 ft, aI cA zr 9 fr, aI cA zq 8 fq] : va_W)) rfl (fun H locs hP hD hS => ?_)
        refine lv_iload_n hx hb dL_ring_35 rfl (lv_at hl 3 rfl) ?_
        refine lv_icmp_ne (tgt := 51) hx hb dL_ring_36 (by decide) (fun c32 => ?_) (fun c32 => ?_)
        · have h := (if_neg c32).symm.trans h
          refine lv_iconst (v := (0 : Int32)) hx hb dL_ring_51 (by decide) ?_
          refine lv_ior hx hb dL_ring_52 ?_
          obtain ⟨g33, eg33, h⟩ := bd_in h
          refine stR hx hb hK hP hD hS 3 0 rfl rfl eg33 (ws' := ([aI cA zl 41 fl, aI cA zt 16 ft, aI cA zr 9 fr, aI cA zq 8 g33] : va_W)) rfl dL_ring_53 (fun H locs hP hD hS => ?_)
          refine lv_iinc (v := (x5 + (1 : Int32))) (lv' := [(5, .int (x5 + (1 : Int32))), (0, .ref zl), (1, .ref zt), (2, .ref zr), (3, .int p3), (4, .ref zq)]) hx hb dL_ring_54 hl (k := 5) rfl rfl (by decide) rfl (fun ls hl => ?_)
          refine lv_goto (tgt := 9) hx hb dL_ring_57 (by decide) ?_
          exact ih9 _ fr g33 (x5 + (1 : Int32)) _ _ _ h hP hD hS (lv_sub hl [1, 2, 3, 4, 5, 0] rfl)
        · have h := (if_pos c32).symm.trans h
          refine lv_iconst (v := (1 : Int32)) hx hb dL_ring_39 (by decide) ?_
          refine lv_aload_n hx hb dL_ring_40 rfl (lv_at hl 0 rfl) ?_
          refine lv_iload hx hb dL_ring_41 (lv_at hl 5 rfl) ?_
          obtain ⟨y34, ey34, h⟩ := bd_in h
          refine ldR hx hb hK hP 0 0 rfl rfl ey34 dL_ring_43 ?_
          obtain ⟨u35, eu35, h⟩ := bd_in h
          refine kI (va_runS (As := [.int y34]) (rest := [.int (1 : Int32), .int y29, .int u28, .ref zq]) ⟨hx, hb, hml, hown, hts⟩ (c_L_creditor l D cA cQ  y34 u35 eu35 _) (va_cwS 1 hts gL_ring_L_creditor rfl rfl rfl (by decide +kernel) ⟨Nat.le_of_ble_eq_true rfl, Nat.le_of_ble_eq_true rfl⟩) (pS hK hN hP hD [] rfl rfl) rfl rfl hl.1 rfl (lv_room (Nat.le_of_ble_eq_true rfl)) dL_ring_44 ⟨(by show _ + _ ≤ 1; omega), (by show _ + _ ≤ 8; omega)⟩) hP hD hS hA [] rfl rfl (ws' := ([aI cA zl 41 fl, aI cA zt 16 ft, aI cA zr 9 fr, aI cA zq 8 fq] : va_W)) rfl (fun H locs hP hD hS => ?_)
          refine lv_ishl hx hb dL_ring_47 ?_
          refine lv_goto (tgt := 52) hx hb dL_ring_48 (by decide) ?_
          refine lv_ior hx hb dL_ring_52 ?_
          obtain ⟨g36, eg36, h⟩ := bd_in h
          refine stR hx hb hK hP hD hS 3 0 rfl rfl eg36 (ws' := ([aI cA zl 41 fl, aI cA zt 16 ft, aI cA zr 9 fr, aI cA zq 8 g36] : va_W)) rfl dL_ring_53 (fun H locs hP hD hS => ?_)
          refine lv_iinc (v := (x5 + (1 : Int32))) (lv' := [(5, .int (x5 + (1 : Int32))), (0, .ref zl), (1, .ref zt), (2, .ref zr), (3, .int p3), (4, .ref zq)]) hx hb dL_ring_54 hl (k := 5) rfl rfl (by decide) rfl (fun ls hl => ?_)
          refine lv_goto (tgt := 9) hx hb dL_ring_57 (by decide) ?_
          exact ih9 _ fr g36 (x5 + (1 : Int32)) _ _ _ h hP hD hS (lv_sub hl [1, 2, 3, 4, 5, 0] rfl)
  have h := hf
  unfold L_ring at h
  refine lv_bipush (v := (8 : Int32)) hx hb dL_ring_0 (by decide) ?_
  refine nwI (N := 8) hx hb (hts (.arrayClass .int) (List.mem_of_getElem? (i := 1) rfl)) hK hP hD hS hA (by decide) rfl (Nat.le_of_ble_eq_true rfl) (Nat.le_of_ble_eq_true rfl) (Nat.le_of_ble_eq_true rfl) (fun _ => rfl) dL_ring_2 (fun zq H hP hD hS => ?_)
  have hP : va_P D vwCl ([aI cA zl 41 fl, aI cA zt 16 ft, aI cA zr 9 fr, aI cA zq 8 (fun _ => 0)] : va_W) H := hP
  have hD : va_D A ([aI cA zl 41 fl, aI cA zt 16 ft, aI cA zr 9 fr, aI cA zq 8 (fun _ => 0)] : va_W) := hD
  refine lv_astore (lv' := [(4, .ref zq), (0, .ref zl), (1, .ref zt), (2, .ref zr), (3, .int p3)]) hx hb dL_ring_4 hl (by decide) rfl (fun ls hl => ?_)
  refine lv_iconst (v := (0 : Int32)) hx hb dL_ring_6 (by decide) ?_
  refine lv_istore (lv' := [(5, .int (0 : Int32)), (4, .ref zq), (0, .ref zl), (1, .ref zt), (2, .ref zr), (3, .int p3)]) hx hb dL_ring_7 hl (by decide) rfl (fun ls hl => ?_)
  exact B9 FU _ fr (fun _ => 0) (0 : Int32) _ _ _ h hP hD hS (lv_sub hl [2, 3, 4, 5, 1, 0] rfl)

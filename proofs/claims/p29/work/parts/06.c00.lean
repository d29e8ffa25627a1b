set_option maxHeartbeats 4000000 in
set_option maxRecDepth 100000 in
theorem c_L_age (l : Launch) (D : va_G) (cA cQ : ClassId) (p0 : Int32) (o : Int32) (hf : L_age p0 = some o) : Cti l yL_age wsL_age ({ frames := 0, cells := 0, slots := 0, locals := 0 }) D (TY cA cQ) [.int p0] ([] : va_W) ([] : va_W) o := by
  refine Wk.i (cc := cL_age) (maxL := 1) (ret := (some .int)) (by decide) rfl (Nat.le_of_ble_eq_true rfl) ?_
  intro p e s m below meth c A ls hx hb hr hlocks hml hown hts hK hN hP hD hA hl
  have hown : s.vm.findClass RL = some m.cls := hown
  have hS : va_S A s.heap s.heap [] := va_S.rf
  have hl : lv_has ls 1 [(0, .int p0)] := hl
  have h := hf
  unfold L_age at h
  refine lv_iload_n hx hb dL_age_0 rfl (lv_at hl 0 rfl) ?_
  refine lv_bipush (v := (12 : Int32)) hx hb dL_age_1 (by decide) ?_
  refine lv_ishr hx hb dL_age_3 ?_
  refine lv_sipush (v := (255 : Int32)) hx hb dL_age_4 (by decide) ?_
  refine lv_iand hx hb dL_age_7 ?_
  cases h
  exact endI hx hb hr hlocks hP hS rfl dL_age_8
set_option maxHeartbeats 4000000 in
set_option maxRecDepth 100000 in
theorem c_L_many (l : Launch) (D : va_G) (cA cQ : ClassId) (p0 : Int32) (o : Int32) (hf : L_many p0 = some o) : Cti l yL_many wsL_many ({ frames := 0, cells := 0, slots := 0, locals := 0 }) D (TY cA cQ) [.int p0] ([] : va_W) ([] : va_W) o := by
  refine Wk.i (cc := cL_many) (maxL := 1) (ret := (some .int)) (by decide) rfl (Nat.le_of_ble_eq_true rfl) ?_
  intro p e s m below meth c A ls hx hb hr hlocks hml hown hts hK hN hP hD hA hl
  have hown : s.vm.findClass RL = some m.cls := hown
  have hS : va_S A s.heap s.heap [] := va_S.rf
  have hl : lv_has ls 1 [(0, .int p0)] := hl
  have h := hf
  unfold L_many at h
  refine lv_iload_n hx hb dL_many_0 rfl (lv_at hl 0 rfl) ?_
  refine lv_bipush (v := (8 : Int32)) hx hb dL_many_1 (by decide) ?_
  refine lv_ishr hx hb dL_many_3 ?_
  refine lv_bipush (v := (15 : Int32)) hx hb dL_many_4 (by decide) ?_
  refine lv_iand hx hb dL_many_6 ?_
  cases h
  exact endI hx hb hr hlocks hP hS rfl dL_many_7
set_option maxHeartbeats 4000000 in
set_option maxRecDepth 100000 in
theorem c_L_owed (l : Launch) (D : va_G) (cA cQ : ClassId) (zl : Nat) (zt : Nat) (fl : Nat → Int32) (ft : Nat → Int32) (p2 : Int32) (p3 : Int32) (p4 : Int32) (o : Int32) (hf : L_owed fl ft p2 p3 p4 = some o) : Cti l yL_owed wsL_owed ({ frames := 1, cells := 0, slots := 0, locals := 20 }) D (TY cA cQ) [.ref zl, .ref zt, .int p2, .int p3, .int p4] ([aI cA zl 41 fl, aI cA zt 16 ft] : va_W) ([aI cA zl 41 fl, aI cA zt 16 ft] : va_W) o := by
  refine Wk.i (cc := cL_owed) (maxL := 7) (ret := (some .int)) (by decide) rfl (Nat.le_of_ble_eq_true rfl) ?_
  intro p e s m below meth c A ls hx hb hr hlocks hml hown hts hK hN hP hD hA hl
  have hown : s.vm.findClass RL = some m.cls := hown
  have hS : va_S A s.heap s.heap [] := va_S.rf
  have hl : lv_has ls 7 [(0, .ref zl), (1, .ref zt), (2, .int p2), (3, .int p3), (4, .int p4)] := hl
  have B6 : ∀ (fu6 : Nat) (x5 : Int32) (x6 : Int32) (H : Heap) (locs : List Loc) (ls : Array Slot), L_owed_l6 fl ft p2 p3 p4 fu6 x5 x6 = some o → va_P D vwCl ([aI cA zl 41 fl, aI cA zt 16 ft] : va_W) H → va_D A ([aI cA zl 41 fl, aI cA zt 16 ft] : va_W) → va_S A s.heap H locs → lv_has ls 7 [(0, .ref zl), (1, .ref zt), (2, .int p2), (3, .int p3), (4, .int p4), (5, .int x5), (6, .int x6)] → W p l e (headSpec wsL_owed ({ frames := 1, cells := 0, slots := 0, locals := 20 })).room s m ([.ref zl, .ref zt, .int p2, .int p3, .int p4] : List Value).toArray below meth c H locs 0 0 (MQ below (QI D ([aI cA zl 41 fl, aI cA zt 16 ft] : va_W) o A) ([.ref zl, .ref zt, .int p2, .int p3, .int p4] : List Value).toArray s 0 0 A) (F0 m 6 ls []) := by
    intro fu6
    induction fu6 with
    | zero =>
      intro x5 x6 H locs ls h hP hD hS hl
      cases h
    | succ fu6 ih6 =>
      intro x5 x6 H locs ls h hP hD hS hl
      rw [L_owed_l6] at h
      refine lv_iload hx hb dL_owed_6 (lv_at hl 6 rfl) ?_
      refine lv_aload_n hx hb dL_owed_8 rfl (lv_at hl 1 rfl) ?_
      refine lv_iconst (v := (2 : Int32)) hx hb dL_owed_9 (by decide) ?_
      obtain ⟨y1, ey1, h⟩ := bd_in h
      refine ldR hx hb hK hP 1 0 rfl rfl ey1 dL_owed_10 ?_
      refine lv_icmp_ge (tgt := 59) hx hb dL_owed_11 (by decide) (fun c2 => ?_) (fun c2 => ?_)
      · have h := (if_pos c2).symm.trans h
        refine lv_iload hx hb dL_owed_59 (lv_at hl 5 rfl) ?_
        cases h
        exact endI hx hb hr hlocks hP hS rfl dL_owed_61
      · have h := (if_neg c2).symm.trans h
        refine lv_iload hx hb dL_owed_14 (lv_at hl 5 rfl) ?_
        refine lv_aload_n hx hb dL_owed_16 rfl (lv_at hl 0 rfl) ?_
        refine lv_iload hx hb dL_owed_17 (lv_at hl 6 rfl) ?_
        obtain ⟨y3, ey3, h⟩ := bd_in h
        refine ldR hx hb hK hP 0 0 rfl rfl ey3 dL_owed_19 ?_
        refine lv_sipush (v := (255 : Int32)) hx hb dL_owed_20 (by decide) ?_
        refine lv_iand hx hb dL_owed_23 ?_
        refine lv_iload_n hx hb dL_owed_24 rfl (lv_at hl 2 rfl) ?_
        refine lv_bipush (v := (8 : Int32)) hx hb dL_owed_25 (by decide) ?_
        refine lv_iload_n hx hb dL_owed_27 rfl (lv_at hl 3 rfl) ?_
        refine lv_imul hx hb dL_owed_28 ?_
        refine lv_iadd hx hb dL_owed_29 ?_
        refine lv_bipush (v := (64 : Int32)) hx hb dL_owed_30 (by decide) ?_
        refine lv_iload hx hb dL_owed_32 (lv_at hl 4 rfl) ?_
        refine lv_imul hx hb dL_owed_34 ?_
        refine lv_iadd hx hb dL_owed_35 ?_
        refine lv_icmp_ne (tgt := 49) hx hb dL_owed_36 (by decide) (fun c4 => ?_) (fun c4 => ?_)
        · have h := (if_neg c4).symm.trans h
          refine lv_iconst (v := (0 : Int32)) hx hb dL_owed_49 (by decide) ?_
          refine lv_iadd hx hb dL_owed_50 ?_
          refine lv_istore (lv' := [(5, .int (x5 + (0 : Int32))), (0, .ref zl), (1, .ref zt), (2, .int p2), (3, .int p3), (4, .int p4), (6, .int x6)]) hx hb dL_owed_51 hl (by decide) rfl (fun ls hl => ?_)
          refine lv_iinc (v := (x6 + (1 : Int32))) (lv' := [(6, .int (x6 + (1 : Int32))), (5, .int (x5 + (0 : Int32))), (0, .ref zl), (1, .ref zt), (2, .int p2), (3, .int p3), (4, .int p4)]) hx hb dL_owed_53 hl (k := 6) rfl rfl (by decide) rfl (fun ls hl => ?_)
          refine lv_goto (tgt := 6) hx hb dL_owed_56 (by decide) ?_
          exact ih6 (x5 + (0 : Int32)) (x6 + (1 : Int32)) _ _ _ h hP hD hS (lv_sub hl [2, 3, 4, 5, 6, 1, 0] rfl)
        · have h := (if_pos c4).symm.trans h
          refine lv_aload_n hx hb dL_owed_39 rfl (lv_at hl 0 rfl) ?_
          refine lv_iload hx hb dL_owed_40 (lv_at hl 6 rfl) ?_
          obtain ⟨y5, ey5, h⟩ := bd_in h
          refine ldR hx hb hK hP 0 0 rfl rfl ey5 dL_owed_42 ?_
          obtain ⟨u6, eu6, h⟩ := bd_in h
          refine kI (va_runS (As := [.int y5]) (rest := [.int x5]) ⟨hx, hb, hml, hown, hts⟩ (c_L_many l D cA cQ  y5 u6 eu6 _) (va_cwS 1 hts gL_owed_L_many rfl rfl rfl (by decide +kernel) ⟨Nat.le_of_ble_eq_true rfl, Nat.le_of_ble_eq_true rfl⟩) (pS hK hN hP hD [] rfl rfl) rfl rfl hl.1 rfl (lv_room (Nat.le_of_ble_eq_true rfl)) dL_owed_43 ⟨Nat.zero_le _, Nat.zero_le _⟩) hP hD hS hA [] rfl rfl (ws' := ([aI cA zl 41 fl, aI cA zt 16 ft] : va_W)) rfl (fun H locs hP hD hS => ?_)
          refine lv_goto (tgt := 50) hx hb dL_owed_46 (by decide) ?_
          refine lv_iadd hx hb dL_owed_50 ?_
          refine lv_istore (lv' := [(5, .int (x5 + u6)), (0, .ref zl), (1, .ref zt), (2, .int p2), (3, .int p3), (4, .int p4), (6, .int x6)]) hx hb dL_owed_51 hl (by decide) rfl (fun ls hl => ?_)
          refine lv_iinc (v := (x6 + (1 : Int32))) (lv' := [(6, .int (x6 + (1 : Int32))), (5, .int (x5 + u6)), (0, .ref zl), (1, .ref zt), (2, .int p2), (3, .int p3), (4, .int p4)]) hx hb dL_owed_53 hl (k := 6) rfl rfl (by decide) rfl (fun ls hl => ?_)
          refine lv_goto (tgt := 6) hx hb dL_owed_56 (by decide) ?_
          exact ih6 (x5 + u6) (x6 + (1 : Int32)) _ _ _ h hP hD hS (lv_sub hl [2, 3, 4, 5, 6, 1, 0] rfl)
  have h := hf
  unfold L_owed at h
  refine lv_iconst (v := (0 : Int32)) hx hb dL_owed_0 (by decide) ?_
  refine lv_istore (lv' := [(5, .int (0 : Int32)), (0, .ref zl), (1, .ref zt), (2, .int p2), (3, .int p3), (4, .int p4)]) hx hb dL_owed_1 hl (by decide) rfl (fun ls hl => ?_)
  refine lv_iconst (v := (0 : Int32)) hx hb dL_owed_3 (by decide) ?_
  refine lv_istore (lv' := [(6, .int (0 : Int32)), (5, .int (0 : Int32)), (0, .ref zl), (1, .ref zt), (2, .int p2), (3, .int p3), (4, .int p4)]) hx hb dL_owed_4 hl (by decide) rfl (fun ls hl => ?_)
  exact B6 FU (0 : Int32) (0 : Int32) _ _ _ h hP hD hS (lv_sub hl [2, 3, 4, 5, 6, 1, 0] rfl)
set_option maxHeartbeats 4000000 in
set_option maxRecDepth 100000 in
theorem c_L_amount (l : Launch) (D : va_G) (cA cQ : ClassId) (zl : Nat) (zt : Nat) (zr : Nat) (fl : Nat → Int32) (ft : Nat → Int32) (fr : Nat → Int32) (p3 : Int32) (p4 : Int32) (o : Int32) (hf : L_amount fl ft fr p3 p4 = some o) : Cti l yL_amount wsL_amount ({ frames := 2, cells := 0, slots := 0, locals := 46 }) D (TY cA cQ) [.ref zl, .ref zt, .ref zr, .int p3, .int p4] ([aI cA zl 41 fl, aI cA zt 16 ft, aI cA zr 9 fr] : va_W) ([aI cA zl 41 fl, aI cA zt 16 ft, aI cA zr 9 fr] : va_W) o := by
  refine Wk.i (cc := cL_amount) (maxL := 8) (ret := (some .int)) (by decide) rfl (Nat.le_of_ble_eq_true rfl) ?_
  intro p e s m below meth c A ls hx hb hr hlocks hml hown hts hK hN hP hD hA hl
  have hown : s.vm.findClass RL = some m.cls := hown
  have hS : va_S A s.heap s.heap [] := va_S.rf
  have hl : lv_has ls 8 [(0, .ref zl), (1, .ref zt), (2, .ref zr), (3, .int p3), (4, .int p4)] := hl
  have B8 : ∀ (fu8 : Nat) (x5 : Int32) (x6 : Int32) (H : Heap) (locs : List Loc) (ls : Array Slot), L_amount_l8 fl ft fr p3 p4 fu8 x5 x6 = some o → va_P D vwCl ([aI cA zl 41 fl, aI cA zt 16 ft, aI cA zr 9 fr] : va_W) H → va_D A ([aI cA zl 41 fl, aI cA zt 16 ft, aI cA zr 9 fr] : va_W) → va_S A s.heap H locs → lv_has ls 8 [(0, .ref zl), (1, .ref zt), (2, .ref zr), (3, .int p3), (4, .int p4), (5, .int x5), (6, .int x6)] → W p l e (headSpec wsL_amount ({ frames := 2, cells := 0, slots := 0, locals := 46 })).room s m ([.ref zl, .ref zt, .ref zr, .int p3, .int p4] : List Value).toArray below meth c H locs 0 0 (MQ below (QI D ([aI cA zl 41 fl, aI cA zt 16 ft, aI cA zr 9 fr] : va_W) o A) ([.ref zl, .ref zt, .ref zr, .int p3, .int p4] : List Value).toArray s 0 0 A) (F0 m 8 ls []) := by
    intro fu8
    induction fu8 with
    | zero =>
      intro x5 x6 H locs ls h hP hD hS hl
      cases h
    | succ fu8 ih8 =>
      have B37 : ∀ (x5 : Int32) (x6 : Int32) (t2 : Int32) (t4 : Int32) (H : Heap) (locs : List Loc) (ls : Array Slot), L_amount_b37 fl ft fr p3 p4 (L_amount_l8 fl ft fr p3 p4 fu8) x5 x6 t2 t4 = some o → va_P D vwCl ([aI cA zl 41 fl, aI cA zt 16 ft, aI cA zr 9 fr] : va_W) H → va_D A ([aI cA zl 41 fl, aI cA zt 16 ft, aI cA zr 9 fr] : va_W) → va_S A s.heap H locs → lv_has ls 8 [(0, .ref zl), (1, .ref zt), (2, .ref zr), (3, .int p3), (4, .int p4), (5, .int x5), (6, .int x6)] → W p l e (headSpec wsL_amount ({ frames := 2, cells := 0, slots := 0, locals := 46 })).room s m ([.ref zl, .ref zt, .ref zr, .int p3, .int p4] : List Value).toArray below meth c H locs 0 0 (MQ below (QI D ([aI cA zl 41 fl, aI cA zt 16 ft, aI cA zr 9 fr] : va_W) o A) ([.ref zl, .ref zt, .ref zr, .int p3, .int p4] : List Value).toArray s 0 0 A) (F0 m 37 ls [.int t4, .ref zr, .int t2, .ref zt, .ref zl]) := by
        intro x5 x6 t2 t4 H locs ls h hP hD hS hl
        unfold L_amount_b37 at h
        obtain ⟨y1, ey1, h⟩ := bd_in h
        refine ldR hx hb hK hP 2 0 rfl rfl ey1 dL_amount_37 ?_
        refine lv_iload hx hb dL_amount_38 (lv_at hl 4 rfl) ?_
        obtain ⟨u2, eu2, h⟩ := bd_in h
        refine kI (va_runS (As := [.ref zl, .ref zt, .int t2, .int y1, .int p4]) (rest := []) ⟨hx, hb, hml, hown, hts⟩ (c_L_owed l D cA cQ zl zt fl ft t2 y1 p4 u2 eu2 _) (va_cwS 5 hts gL_amount_L_owed rfl rfl rfl (by decide +kernel) ⟨Nat.le_of_ble_eq_true rfl, Nat.le_of_ble_eq_true rfl⟩) (pS hK hN hP hD [0, 1] rfl rfl) rfl rfl hl.1 rfl (lv_room (Nat.le_of_ble_eq_true rfl)) dL_amount_40 ⟨Nat.zero_le _, Nat.zero_le _⟩) hP hD hS hA [0, 1] rfl rfl (ws' := ([aI cA zl 41 fl, aI cA zt 16 ft, aI cA zr 9 fr] : va_W)) rfl (fun H locs hP hD hS => ?_)
        refine lv_istore (lv' := [(7, .int u2), (0, .ref zl), (1, .ref zt), (2, .ref zr), (3, .int p3), (4, .int p4), (5, .int x5), (6, .int x6)]) hx hb dL_amount_43 hl (by decide) rfl (fun ls hl => ?_)
        refine lv_iload hx hb dL_amount_45 (lv_at hl 0 rfl) ?_
        refine lv_iload hx hb dL_amount_47 (lv_at hl 6 rfl) ?_
        refine lv_icmp_ge (tgt := 57) hx hb dL_amount_49 (by decide) (fun c3 => ?_) (fun c3 => ?_)
        · have h := (if_pos c3).symm.trans h
          refine lv_iload hx hb dL_amount_57 (lv_at hl 6 rfl) ?_
          refine lv_istore (lv' := [(5, .int x5), (7, .int u2), (0, .ref zl), (1, .ref zt), (2, .ref zr), (3, .int p3), (4, .int p4), (6, .int x6)]) hx hb dL_amount_59 hl (by decide) rfl (fun ls hl => ?_)
          refine lv_iinc (v := (x6 + (1 : Int32))) (lv' := [(6, .int (x6 + (1 : Int32))), (5, .int x5), (7, .int u2), (0, .ref zl), (1, .ref zt), (2, .ref zr), (3, .int p3), (4, .int p4)]) hx hb dL_amount_61 hl (k := 7) rfl rfl (by decide) rfl (fun ls hl => ?_)
          refine lv_goto (tgt := 8) hx hb dL_amount_64 (by decide) ?_
          exact ih8 x5 (x6 + (1 : Int32)) _ _ _ h hP hD hS (lv_sub hl [3, 4, 5, 6, 7, 1, 0] rfl)
        · have h := (if_neg c3).symm.trans h
          refine lv_iload hx hb dL_amount_52 (lv_at hl 0 rfl) ?_
          refine lv_goto (tgt := 59) hx hb dL_amount_54 (by decide) ?_
          refine lv_istore (lv' := [(5, .int u2), (7, .int u2), (0, .ref zl), (1, .ref zt), (2, .ref zr), (3, .int p3), (4, .int p4), (6, .int x6)]) hx hb dL_amount_59 hl (by decide) rfl (fun ls hl => ?_)
          refine lv_iinc (v := (x6 + (1 : Int32))) (lv' := [(6, .int (x6 + (1 : Int32))), (5, .int u2), (7, .int u2), (0, .ref zl), (1, .ref zt), (2, .ref zr), (3, .int p3), (4, .int p4)]) hx hb dL_amount_61 hl (k := 7) rfl rfl (by decide) rfl (fun ls hl => ?_)
          refine lv_goto (tgt := 8) hx hb dL_amount_64 (by decide) ?_
          exact ih8 u2 (x6 + (1 : Int32)) _ _ _ h hP hD hS (lv_sub hl [3, 4, 5, 6, 7, 1, 0] rfl)
      intro x5 x6 H locs ls h hP hD hS hl
      rw [L_amount_l8] at h
      refine lv_iload hx hb dL_amount_8 (lv_at hl 6 rfl) ?_
      refine lv_iload_n hx hb dL_amount_10 rfl (lv_at hl 3 rfl) ?_
      refine lv_icmp_ge (tgt := 67) hx hb dL_amount_11 (by decide) (fun c4 => ?_) (fun c4 => ?_)
      · have h := (if_pos c4).symm.trans h
        refine lv_iload hx hb dL_amount_67 (lv_at hl 5 rfl) ?_
        cases h
        exact endI hx hb hr hlocks hP hS rfl dL_amount_69
      · have h := (if_neg c4).symm.trans h
        refine lv_aload_n hx hb dL_amount_14 rfl (lv_at hl 0 rfl) ?_
        refine lv_aload_n hx hb dL_amount_15 rfl (lv_at hl 1 rfl) ?_
        refine lv_aload_n hx hb dL_amount_16 rfl (lv_at hl 2 rfl) ?_
        refine lv_iload hx hb dL_amount_17 (lv_at hl 6 rfl) ?_
        obtain ⟨y5, ey5, h⟩ := bd_in h
        refine ldR hx hb hK hP 2 0 rfl rfl ey5 dL_amount_19 ?_
        refine lv_aload_n hx hb dL_amount_20 rfl (lv_at hl 2 rfl) ?_
        refine lv_iload hx hb dL_amount_21 (lv_at hl 6 rfl) ?_
        refine lv_iconst (v := (1 : Int32)) hx hb dL_amount_23 (by decide) ?_
        refine lv_iadd hx hb dL_amount_24 ?_
        refine lv_iload_n hx hb dL_amount_25 rfl (lv_at hl 3 rfl) ?_
        refine lv_icmp_ge (tgt := 36) hx hb dL_amount_26 (by decide) (fun c6 => ?_) (fun c6 => ?_)
        · have h := (if_pos c6).symm.trans h
          refine lv_iconst (v := (0 : Int32)) hx hb dL_amount_36 (by decide) ?_
          exact B37 x5 x6 y5 (0 : Int32) _ _ _ h hP hD hS (lv_sub hl [0, 1, 2, 3, 4, 5, 6] rfl)
        · have h := (if_neg c6).symm.trans h
          refine lv_iload hx hb dL_amount_29 (lv_at hl 6 rfl) ?_
          refine lv_iconst (v := (1 : Int32)) hx hb dL_amount_31 (by decide) ?_
          refine lv_iadd hx hb dL_amount_32 ?_
          refine lv_goto (tgt := 37) hx hb dL_amount_33 (by decide) ?_
          exact B37 x5 x6 y5 (x6 + (1 : Int32)) _ _ _ h hP hD hS (lv_sub hl [0, 1, 2, 3, 4, 5, 6] rfl)
  have h := hf
  unfold L_amount at h
  refine lv_sipush (v := (9999 : Int32)) hx hb dL_amount_0 (by decide) ?_
  refine lv_istore (lv' := [(5, .int (9999 : Int32)), (0, .ref zl), (1, .ref zt), (2, .ref zr), (3, .int p3), (4, .int p4)]) hx hb dL_amount_3 hl (by decide) rfl (fun ls hl => ?_)
  refine lv_iconst (v := (0 : Int32)) hx hb dL_amount_5 (by decide) ?_
  refine lv_istore (lv' := [(6, .int (0 : Int32)), (5, .int (9999 : Int32)), (0, .ref zl), (1, .ref zt), (2, .ref zr), (3, .int p3), (4, .int p4)]) hx hb dL_amount_6 hl (by decide) rfl (fun ls hl => ?_)
  exact B8 FU (9999 : Int32) (0 : Int32) _ _ _ h hP hD hS (lv_sub hl [2, 3, 4, 5, 6, 1, 0] rfl)
set_option maxHeartbeats 4000000 in
set_option maxRecDepth 100000 in
theorem c_L_debtor (l : Launch) (D : va_G) (cA cQ : ClassId) (p0 : Int32) (o : Int32) (hf : L_debtor p0 = some o) : Cti l yL_debtor wsL_debtor ({ frames := 0, cells := 0, slots := 0, locals := 0 }) D (TY cA cQ) [.int p0] ([] : va_W) ([] : va_W) o := by
  refine Wk.i (cc := cL_debtor) (maxL := 1) (ret := (some .int)) (by decide) rfl (Nat.le_of_ble_eq_true rfl) ?_
  intro p e s m below meth c A ls hx hb hr hlocks hml hown hts hK hN hP hD hA hl
  have hown : s.vm.findClass RL = some m.cls := hown
  have hS : va_S A s.heap s.heap [] := va_S.rf
  have hl : lv_has ls 1 [(0, .int p0)] := hl
  have h := hf
  unfold L_debtor at h
  refine lv_iload_n hx hb dL_debtor_0 rfl (lv_at hl 0 rfl) ?_
  refine lv_bipush (v := (7 : Int32)) hx hb dL_debtor_1 (by decide) ?_
  refine lv_iand hx hb dL_debtor_3 ?_
  cases h
  exact endI hx hb hr hlocks hP hS rfl dL_debtor_4
set_option maxHeartbeats 4000000 in
set_option maxRecDepth 100000 in
theorem c_L_creditor (l : Launch) (D : va_G) (cA cQ : ClassId) (p0 : Int32) (o : Int32) (hf : L_creditor p0 = some o) : Cti l yL_creditor wsL_creditor ({ frames := 0, cells := 0, slots := 0, locals := 0 }) D (TY cA cQ) [.int p0] ([] : va_W) ([] : va_W) o := by
  refine Wk.i (cc := cL_creditor) (maxL := 1) (ret := (some .int)) (by decide) rfl (Nat.le_of_ble_eq_true rfl) ?_
  intro p e s m below meth c A ls hx hb hr hlocks hml hown hts hK hN hP hD hA hl
  have hown : s.vm.findClass RL = some m.cls := hown
  have hS : va_S A s.heap s.heap [] := va_S.rf
  have hl : lv_has ls 1 [(0, .int p0)] := hl
  have h := hf
  unfold L_creditor at h
  refine lv_iload_n hx hb dL_creditor_0 rfl (lv_at hl 0 rfl) ?_
  refine lv_iconst (v := (3 : Int32)) hx hb dL_creditor_1 (by decide) ?_
  refine lv_ishr hx hb dL_creditor_2 ?_
  refine lv_bipush (v := (7 : Int32)) hx hb dL_creditor_3 (by decide) ?_
  refine lv_iand hx hb dL_creditor_5 ?_
  cases h
  exact endI hx hb hr hlocks hP hS rfl dL_creditor_6
set_option maxHeartbeats 4000000 in
set_option maxRecDepth 100000 in
theorem c_L_kind (l : Launch) (D : va_G) (cA cQ : ClassId) (p0 : Int32) (o : Int32) (hf : L_kind p0 = some o) : Cti l yL_kind wsL_kind ({ frames := 0, cells := 0, slots := 0, locals := 0 }) D (TY cA cQ) [.int p0] ([] : va_W) ([] : va_W) o := by
  refine Wk.i (cc := cL_kind) (maxL := 1) (ret := (some .int)) (by decide) rfl (Nat.le_of_ble_eq_true rfl) ?_
  intro p e s m below meth c A ls hx hb hr hlocks hml hown hts hK hN hP hD hA hl
  have hown : s.vm.findClass RL = some m.cls := hown
  have hS : va_S A s.heap s.heap [] := va_S.rf
  have hl : lv_has ls 1 [(0, .int p0)] := hl
  have h := hf
  unfold L_kind at h
  refine lv_iload_n hx hb dL_kind_0 rfl (lv_at hl 0 rfl) ?_
  refine lv_bipush (v := (6 : Int32)) hx hb dL_kind_1 (by decide) ?_
  refine lv_ishr hx hb dL_kind_3 ?_
  refine lv_iconst (v := (3 : Int32)) hx hb dL_kind_4 (by decide) ?_
  refine lv_iand hx hb dL_kind_5 ?_
  cases h
  exact endI hx hb hr hlocks hP hS rfl dL_kind_6
set_option maxHeartbeats 4000000 in
set_option maxRecDepth 100000 in
theorem c_L_areLots (l : Launch) (D : va_G) (cA cQ : ClassId) (adF : Nat) (adB : Nat → Nat) (adT : Nat → Nat) (adH : Nat → Nat) (kH : Nat → Nat → Nat) (adR : Nat → Nat) (adO : Nat → Nat) (zl : Nat) (zt : Nat) (vB : St) (vT : St) (vH : St) (bH : Nat → St) (vR : St) (vO : St) (fl : Nat → Int32) (ft : Nat → Int32) (o : Int32) (hf : L_areLots vB vT vH bH vR vO fl ft = some o) : Cti l yL_areLots wsL_areLots ({ frames := 3, cells := 0, slots := 0, locals := 70 }) D (TY cA cQ) [.ref adF, .ref zl, .ref zt] (wF cA cQ adF adB adT adH kH adR adO vB vT vH bH vR vO ++ [aI cA zl 41 fl, aI cA zt 16 ft]) (wF cA cQ adF adB adT adH kH adR adO vB vT vH bH vR vO ++ [aI cA zl 41 fl, aI cA zt 16 ft]) o := by
  refine Wk.i (cc := cL_areLots) (maxL := 6) (ret := (some .boolean)) (by decide) rfl (Nat.le_of_ble_eq_true rfl) ?_
  intro p e s m below meth c A ls hx hb hr hlocks hml hown hts hK hN hP hD hA hl
  have hown : s.vm.findClass RL = some m.cls := hown
  have hS : va_S A s.heap s.heap [] := va_S.rf
  have hl : lv_has ls 6 [(0, .ref adF), (1, .ref zl), (2, .ref zt)] := hl
  have B252 : ∀ (x3 : Int32) (x4 : Int32) (H : Heap) (locs : List Loc) (ls : Array Slot), L_areLots_b252 vB vT vH bH vR vO fl ft x3 x4 = some o → va_P D vwCl (wF cA cQ adF adB adT adH kH adR adO vB vT vH bH vR vO ++ [aI cA zl 41 fl, aI cA zt 16 ft]) H → va_D A (wF cA cQ adF adB adT adH kH adR adO vB vT vH bH vR vO ++ [aI cA zl 41 fl, aI cA zt 16 ft]) → va_S A s.heap H locs → lv_has ls 6 [(0, .ref adF), (2, .ref zt), (3, .int x3), (4, .int x4)] → W p l e (headSpec wsL_areLots ({ frames := 3, cells := 0, slots := 0, locals := 70 })).room s m ([.ref adF, .ref zl, .ref zt] : List Value).toArray below meth c H locs 0 0 (MQ below (QI D (wF cA cQ adF adB adT adH kH adR adO vB vT vH bH vR vO ++ [aI cA zl 41 fl, aI cA zt 16 ft]) o A) ([.ref adF, .ref zl, .ref zt] : List Value).toArray s 0 0 A) (F0 m 252 ls []) := by
    intro x3 x4 H locs ls h hP hD hS hl
    unfold L_areLots_b252 at h
    refine lv_iload hx hb dL_areLots_252 (lv_at hl 3 rfl) ?_
    refine lv_if_eq (tgt := 356) hx hb dL_areLots_254 (by decide) (fun c1 => ?_) (fun c1 => ?_)
    · have h := (if_pos c1).symm.trans h
      refine lv_iconst (v := (0 : Int32)) hx hb dL_areLots_356 (by decide) ?_
      cases h
      exact endZ hx hb hr hlocks hP hS ⟨rfl, rfl⟩ dL_areLots_357
    · have h := (if_neg c1).symm.trans h
      refine lv_aload_n hx hb dL_areLots_257 rfl (lv_at hl 0 rfl) ?_
      refine lv_iconst (v := (3 : Int32)) hx hb dL_areLots_258 (by decide) ?_
      obtain ⟨u2, eu2, h⟩ := bd_in h
      refine kI (va_runV (As := [.int (3 : Int32)]) (rest := []) ⟨hx, hb, hml, hown, hts⟩ (c_X4_count l D cA cQ adF adB adT adH kH adR adO vB vT vH bH vR vO (3 : Int32) u2 eu2 _) (cwV 1 hts gL_areLots_X4_count rfl rfl rfl (by decide +kernel) ⟨Nat.le_of_ble_eq_true rfl, Nat.le_of_ble_eq_true rfl⟩) (pV (ci := 4) (q := (RX4, TX4, 5)) hK hN hP hD [0, 1, 2, 3, 4, 5, 6, 7, 8, 9, 10, 11, 12, 13, 14, 15, 16, 17, 18, 19, 20, 21, 22, 23, 24, 25, 26, 27, 28, 29, 30, 31, 32, 33, 34, 35, 36, 37, 38, 39, 40, 41, 42, 43, 44, 45, 46, 47, 48, 49, 50, 51, 52, 53, 54, 55, 56, 57, 58, 59, 60, 61, 62, 63, 64, 65, 66, 67, 68, 69, 70, 71, 72, 73, 74, 75, 76, 77, 78, 79, 80, 81, 82, 83, 84, 85, 86, 87, 88, 89, 90, 91, 92, 93, 94] rfl rfl rfl rfl) rfl rfl hl.1 rfl (lv_room (Nat.le_of_ble_eq_true rfl)) dL_areLots_259 ⟨Nat.zero_le _, Nat.zero_le _⟩) hP hD hS hA [0, 1, 2, 3, 4, 5, 6, 7, 8, 9, 10, 11, 12, 13, 14, 15, 16, 17, 18, 19, 20, 21, 22, 23, 24, 25, 26, 27, 28, 29, 30, 31, 32, 33, 34, 35, 36, 37, 38, 39, 40, 41, 42, 43, 44, 45, 46, 47, 48, 49, 50, 51, 52, 53, 54, 55, 56, 57, 58, 59, 60, 61, 62, 63, 64, 65, 66, 67, 68, 69, 70, 71, 72, 73, 74, 75, 76, 77, 78, 79, 80, 81, 82, 83, 84, 85, 86, 87, 88, 89, 90, 91, 92, 93, 94] rfl rfl (ws' := (wF cA cQ adF adB adT adH kH adR adO vB vT vH bH vR vO ++ [aI cA zl 41 fl, aI cA zt 16 ft])) rfl (fun H locs hP hD hS => ?_)
      refine lv_iload_n hx hb dL_areLots_262 rfl (lv_at hl 2 rfl) ?_
      refine lv_icmp_ne (tgt := 356) hx hb dL_areLots_263 (by decide) (fun c3 => ?_) (fun c3 => ?_)
      · have h := (if_neg c3).symm.trans h
        refine lv_iconst (v := (0 : Int32)) hx hb dL_areLots_356 (by decide) ?_
        cases h
        exact endZ hx hb hr hlocks hP hS ⟨rfl, rfl⟩ dL_areLots_357
      · have h := (if_pos c3).symm.trans h
        refine lv_aload_n hx hb dL_areLots_266 rfl (lv_at hl 0 rfl) ?_
        refine lv_iconst (v := (4 : Int32)) hx hb dL_areLots_267 (by decide) ?_
        obtain ⟨u4, eu4, h⟩ := bd_in h
        refine kI (va_runV (As := [.int (4 : Int32)]) (rest := []) ⟨hx, hb, hml, hown, hts⟩ (c_X4_count l D cA cQ adF adB adT adH kH adR adO vB vT vH bH vR vO (4 : Int32) u4 eu4 _) (cwV 1 hts gL_areLots_X4_count rfl rfl rfl (by decide +kernel) ⟨Nat.le_of_ble_eq_true rfl, Nat.le_of_ble_eq_true rfl⟩) (pV (ci := 4) (q := (RX4, TX4, 5)) hK hN hP hD [0, 1, 2, 3, 4, 5, 6, 7, 8, 9, 10, 11, 12, 13, 14, 15, 16, 17, 18, 19, 20, 21, 22, 23, 24, 25, 26, 27, 28, 29, 30, 31, 32, 33, 34, 35, 36, 37, 38, 39, 40, 41, 42, 43, 44, 45, 46, 47, 48, 49, 50, 51, 52, 53, 54, 55, 56, 57, 58, 59, 60, 61, 62, 63, 64, 65, 66, 67, 68, 69, 70, 71, 72, 73, 74, 75, 76, 77, 78, 79, 80, 81, 82, 83, 84, 85, 86, 87, 88, 89, 90, 91, 92, 93, 94] rfl rfl rfl rfl) rfl rfl hl.1 rfl (lv_room (Nat.le_of_ble_eq_true rfl)) dL_areLots_268 ⟨Nat.zero_le _, Nat.zero_le _⟩) hP hD hS hA [0, 1, 2, 3, 4, 5, 6, 7, 8, 9, 10, 11, 12, 13, 14, 15, 16, 17, 18, 19, 20, 21, 22, 23, 24, 25, 26, 27, 28, 29, 30, 31, 32, 33, 34, 35, 36, 37, 38, 39, 40, 41, 42, 43, 44, 45, 46, 47, 48, 49, 50, 51, 52, 53, 54, 55, 56, 57, 58, 59, 60, 61, 62, 63, 64, 65, 66, 67, 68, 69, 70, 71, 72, 73, 74, 75, 76, 77, 78, 79, 80, 81, 82, 83, 84, 85, 86, 87, 88, 89, 90, 91, 92, 93, 94] rfl rfl (ws' := (wF cA cQ adF adB adT adH kH adR adO vB vT vH bH vR vO ++ [aI cA zl 41 fl, aI cA zt 16 ft])) rfl (fun H locs hP hD hS => ?_)
        refine lv_aload_n hx hb dL_areLots_271 rfl (lv_at hl 1 rfl) ?_
        refine lv_iconst (v := (3 : Int32)) hx hb dL_areLots_272 (by decide) ?_
        obtain ⟨y5, ey5, h⟩ := bd_in h
        refine ldR hx hb hK hP 96 0 rfl rfl ey5 dL_areLots_273 ?_
        refine lv_icmp_ne (tgt := 356) hx hb dL_areLots_274 (by decide) (fun c6 => ?_) (fun c6 => ?_)
        · have h := (if_neg c6).symm.trans h
          refine lv_iconst (v := (0 : Int32)) hx hb dL_areLots_356 (by decide) ?_
          cases h
          exact endZ hx hb hr hlocks hP hS ⟨rfl, rfl⟩ dL_areLots_357
        · have h := (if_pos c6).symm.trans h
          refine lv_aload_n hx hb dL_areLots_277 rfl (lv_at hl 0 rfl) ?_
          refine lv_iconst (v := (5 : Int32)) hx hb dL_areLots_278 (by decide) ?_
          obtain ⟨u7, eu7, h⟩ := bd_in h
          refine kI (va_runV (As := [.int (5 : Int32)]) (rest := []) ⟨hx, hb, hml, hown, hts⟩ (c_X4_count l D cA cQ adF adB adT adH kH adR adO vB vT vH bH vR vO (5 : Int32) u7 eu7 _) (cwV 1 hts gL_areLots_X4_count rfl rfl rfl (by decide +kernel) ⟨Nat.le_of_ble_eq_true rfl, Nat.le_of_ble_eq_true rfl⟩) (pV (ci := 4) (q := (RX4, TX4, 5)) hK hN hP hD [0, 1, 2, 3, 4, 5, 6, 7, 8, 9, 10, 11, 12, 13, 14, 15, 16, 17, 18, 19, 20, 21, 22, 23, 24, 25, 26, 27, 28, 29, 30, 31, 32, 33, 34, 35, 36, 37, 38, 39, 40, 41, 42, 43, 44, 45, 46, 47, 48, 49, 50, 51, 52, 53, 54, 55, 56, 57, 58, 59, 60, 61, 62, 63, 64, 65, 66, 67, 68, 69, 70, 71, 72, 73, 74, 75, 76, 77, 78, 79, 80, 81, 82, 83, 84, 85, 86, 87, 88, 89, 90, 91, 92, 93, 94] rfl rfl rfl rfl) rfl rfl hl.1 rfl (lv_room (Nat.le_of_ble_eq_true rfl)) dL_areLots_279 ⟨Nat.zero_le _, Nat.zero_le _⟩) hP hD hS hA [0, 1, 2, 3, 4, 5, 6, 7, 8, 9, 10, 11, 12, 13, 14, 15, 16, 17, 18, 19, 20, 21, 22, 23, 24, 25, 26, 27, 28, 29, 30, 31, 32, 33, 34, 35, 36, 37, 38, 39, 40, 41, 42, 43, 44, 45, 46, 47, 48, 49, 50, 51, 52, 53, 54, 55, 56, 57, 58, 59, 60, 61, 62, 63, 64, 65, 66, 67, 68, 69, 70, 71, 72, 73, 74, 75, 76, 77, 78, 79, 80, 81, 82, 83, 84, 85, 86, 87, 88, 89, 90, 91, 92, 93, 94] rfl rfl (ws' := (wF cA cQ adF adB adT adH kH adR adO vB vT vH bH vR vO ++ [aI cA zl 41 fl, aI cA zt 16 ft])) rfl (fun H locs hP hD hS => ?_)
          refine lv_aload_n hx hb dL_areLots_282 rfl (lv_at hl 1 rfl) ?_
          refine lv_iconst (v := (4 : Int32)) hx hb dL_areLots_283 (by decide) ?_
          obtain ⟨y8, ey8, h⟩ := bd_in h
          refine ldR hx hb hK hP 96 0 rfl rfl ey8 dL_areLots_284 ?_
          refine lv_icmp_ne (tgt := 356) hx hb dL_areLots_285 (by decide) (fun c9 => ?_) (fun c9 => ?_)
          · have h := (if_neg c9).symm.trans h
            refine lv_iconst (v := (0 : Int32)) hx hb dL_areLots_356 (by decide) ?_
            cases h
            exact endZ hx hb hr hlocks hP hS ⟨rfl, rfl⟩ dL_areLots_357
          · have h := (if_pos c9).symm.trans h
            refine lv_aload_n hx hb dL_areLots_288 rfl (lv_at hl 0 rfl) ?_
            refine lv_bipush (v := (6 : Int32)) hx hb dL_areLots_289 (by decide) ?_
            obtain ⟨u10, eu10, h⟩ := bd_in h
            refine kI (va_runV (As := [.int (6 : Int32)]) (rest := []) ⟨hx, hb, hml, hown, hts⟩ (c_X4_count l D cA cQ adF adB adT adH kH adR adO vB vT vH bH vR vO (6 : Int32) u10 eu10 _) (cwV 1 hts gL_areLots_X4_count rfl rfl rfl (by decide +kernel) ⟨Nat.le_of_ble_eq_true rfl, Nat.le_of_ble_eq_true rfl⟩) (pV (ci := 4) (q := (RX4, TX4, 5)) hK hN hP hD [0, 1, 2, 3, 4, 5, 6, 7, 8, 9, 10, 11, 12, 13, 14, 15, 16, 17, 18, 19, 20, 21, 22, 23, 24, 25, 26, 27, 28, 29, 30, 31, 32, 33, 34, 35, 36, 37, 38, 39, 40, 41, 42, 43, 44, 45, 46, 47, 48, 49, 50, 51, 52, 53, 54, 55, 56, 57, 58, 59, 60, 61, 62, 63, 64, 65, 66, 67, 68, 69, 70, 71, 72, 73, 74, 75, 76, 77, 78, 79, 80, 81, 82, 83, 84, 85, 86, 87, 88, 89, 90, 91, 92, 93, 94] rfl rfl rfl rfl) rfl rfl hl.1 rfl (lv_room (Nat.le_of_ble_eq_true rfl)) dL_areLots_291 ⟨Nat.zero_le _, Nat.zero_le _⟩) hP hD hS hA [0, 1, 2, 3, 4, 5, 6, 7, 8, 9, 10, 11, 12, 13, 14, 15, 16, 17, 18, 19, 20, 21, 22, 23, 24, 25, 26, 27, 28, 29, 30, 31, 32, 33, 34, 35, 36, 37, 38, 39, 40, 41, 42, 43, 44, 45, 46, 47, 48, 49, 50, 51, 52, 53, 54, 55, 56, 57, 58, 59, 60, 61, 62, 63, 64, 65, 66, 67, 68, 69, 70, 71, 72, 73, 74, 75, 76, 77, 78, 79, 80, 81, 82, 83, 84, 85, 86, 87, 88, 89, 90, 91, 92, 93, 94] rfl rfl (ws' := (wF cA cQ adF adB adT adH kH adR adO vB vT vH bH vR vO ++ [aI cA zl 41 fl, aI cA zt 16 ft])) rfl (fun H locs hP hD hS => ?_)
            refine lv_aload_n hx hb dL_areLots_294 rfl (lv_at hl 1 rfl) ?_
            refine lv_iconst (v := (5 : Int32)) hx hb dL_areLots_295 (by decide) ?_
            obtain ⟨y11, ey11, h⟩ := bd_in h
            refine ldR hx hb hK hP 96 0 rfl rfl ey11 dL_areLots_296 ?_
            refine lv_icmp_ne (tgt := 356) hx hb dL_areLots_297 (by decide) (fun c12 => ?_) (fun c12 => ?_)
            · have h := (if_neg c12).symm.trans h
              refine lv_iconst (v := (0 : Int32)) hx hb dL_areLots_356 (by decide) ?_
              cases h
              exact endZ hx hb hr hlocks hP hS ⟨rfl, rfl⟩ dL_areLots_357
            · have h := (if_pos c12).symm.trans h
              refine lv_aload_n hx hb dL_areLots_300 rfl (lv_at hl 0 rfl) ?_
              refine lv_bipush (v := (7 : Int32)) hx hb dL_areLots_301 (by decide) ?_
              obtain ⟨u13, eu13, h⟩ := bd_in h
              refine kI (va_runV (As := [.int (7 : Int32)]) (rest := []) ⟨hx, hb, hml, hown, hts⟩ (c_X4_count l D cA cQ adF adB adT adH kH adR adO vB vT vH bH vR vO (7 : Int32) u13 eu13 _) (cwV 1 hts gL_areLots_X4_count rfl rfl rfl (by decide +kernel) ⟨Nat.le_of_ble_eq_true rfl, Nat.le_of_ble_eq_true rfl⟩) (pV (ci := 4) (q := (RX4, TX4, 5)) hK hN hP hD [0, 1, 2, 3, 4, 5, 6, 7, 8, 9, 10, 11, 12, 13, 14, 15, 16, 17, 18, 19, 20, 21, 22, 23, 24, 25, 26, 27, 28, 29, 30, 31, 32, 33, 34, 35, 36, 37, 38, 39, 40, 41, 42, 43, 44, 45, 46, 47, 48, 49, 50, 51, 52, 53, 54, 55, 56, 57, 58, 59, 60, 61, 62, 63, 64, 65, 66, 67, 68, 69, 70, 71, 72, 73, 74, 75, 76, 77, 78, 79, 80, 81, 82, 83, 84, 85, 86, 87, 88, 89, 90, 91, 92, 93, 94] rfl rfl rfl rfl) rfl rfl hl.1 rfl (lv_room (Nat.le_of_ble_eq_true rfl)) dL_areLots_303 ⟨Nat.zero_le _, Nat.zero_le _⟩) hP hD hS hA [0, 1, 2, 3, 4, 5, 6, 7, 8, 9, 10, 11, 12, 13, 14, 15, 16, 17, 18, 19, 20, 21, 22, 23, 24, 25, 26, 27, 28, 29, 30, 31, 32, 33, 34, 35, 36, 37, 38, 39, 40, 41, 42, 43, 44, 45, 46, 47, 48, 49, 50, 51, 52, 53, 54, 55, 56, 57, 58, 59, 60, 61, 62, 63, 64, 65, 66, 67, 68, 69, 70, 71, 72, 73, 74, 75, 76, 77, 78, 79, 80, 81, 82, 83, 84, 85, 86, 87, 88, 89, 90, 91, 92, 93, 94] rfl rfl (ws' := (wF cA cQ adF adB adT adH kH adR adO vB vT vH bH vR vO ++ [aI cA zl 41 fl, aI cA zt 16 ft])) rfl (fun H locs hP hD hS => ?_)
              refine lv_aload_n hx hb dL_areLots_306 rfl (lv_at hl 1 rfl) ?_
              refine lv_bipush (v := (6 : Int32)) hx hb dL_areLots_307 (by decide) ?_
              obtain ⟨y14, ey14, h⟩ := bd_in h
              refine ldR hx hb hK hP 96 0 rfl rfl ey14 dL_areLots_309 ?_
              refine lv_icmp_ne (tgt := 356) hx hb dL_areLots_310 (by decide) (fun c15 => ?_) (fun c15 => ?_)
              · have h := (if_neg c15).symm.trans h
                refine lv_iconst (v := (0 : Int32)) hx hb dL_areLots_356 (by decide) ?_
                cases h
                exact endZ hx hb hr hlocks hP hS ⟨rfl, rfl⟩ dL_areLots_357
              · have h := (if_pos c15).symm.trans h
                refine lv_aload_n hx hb dL_areLots_313 rfl (lv_at hl 0 rfl) ?_
                refine lv_bipush (v := (8 : Int32)) hx hb dL_areLots_314 (by decide) ?_
                obtain ⟨u16, eu16, h⟩ := bd_in h
                refine kI (va_runV (As := [.int (8 : Int32)]) (rest := []) ⟨hx, hb, hml, hown, hts⟩ (c_X4_count l D cA cQ adF adB adT adH kH adR adO vB vT vH bH vR vO (8 : Int32) u16 eu16 _) (cwV 1 hts gL_areLots_X4_count rfl rfl rfl (by decide +kernel) ⟨Nat.le_of_ble_eq_true rfl, Nat.le_of_ble_eq_true rfl⟩) (pV (ci := 4) (q := (RX4, TX4, 5)) hK hN hP hD [0, 1, 2, 3, 4, 5, 6, 7, 8, 9, 10, 11, 12, 13, 14, 15, 16, 17, 18, 19, 20, 21, 22, 23, 24, 25, 26, 27, 28, 29, 30, 31, 32, 33, 34, 35, 36, 37, 38, 39, 40, 41, 42, 43, 44, 45, 46, 47, 48, 49, 50, 51, 52, 53, 54, 55, 56, 57, 58, 59, 60, 61, 62, 63, 64, 65, 66, 67, 68, 69, 70, 71, 72, 73, 74, 75, 76, 77, 78, 79, 80, 81, 82, 83, 84, 85, 86, 87, 88, 89, 90, 91, 92, 93, 94] rfl rfl rfl rfl) rfl rfl hl.1 rfl (lv_room (Nat.le_of_ble_eq_true rfl)) dL_areLots_316 ⟨Nat.zero_le _, Nat.zero_le _⟩) hP hD hS hA [0, 1, 2, 3, 4, 5, 6, 7, 8, 9, 10, 11, 12, 13, 14, 15, 16, 17, 18, 19, 20, 21, 22, 23, 24, 25, 26, 27, 28, 29, 30, 31, 32, 33, 34, 35, 36, 37, 38, 39, 40, 41, 42, 43, 44, 45, 46, 47, 48, 49, 50, 51, 52, 53, 54, 55, 56, 57, 58, 59, 60, 61, 62, 63, 64, 65, 66, 67, 68, 69, 70, 71, 72, 73, 74, 75, 76, 77, 78, 79, 80, 81, 82, 83, 84, 85, 86, 87, 88, 89, 90, 91, 92, 93, 94] rfl rfl (ws' := (wF cA cQ adF adB adT adH kH adR adO vB vT vH bH vR vO ++ [aI cA zl 41 fl, aI cA zt 16 ft])) rfl (fun H locs hP hD hS => ?_)
                refine lv_aload_n hx hb dL_areLots_319 rfl (lv_at hl 1 rfl) ?_
                refine lv_bipush (v := (7 : Int32)) hx hb dL_areLots_320 (by decide) ?_
                obtain ⟨y17, ey17, h⟩ := bd_in h
                refine ldR hx hb hK hP 96 0 rfl rfl ey17 dL_areLots_322 ?_
                refine lv_icmp_ne (tgt := 356) hx hb dL_areLots_323 (by decide) (fun c18 => ?_) (fun c18 => ?_)
                · have h := (if_neg c18).symm.trans h
                  refine lv_iconst (v := (0 : Int32)) hx hb dL_areLots_356 (by decide) ?_
                  cases h
                  exact endZ hx hb hr hlocks hP hS ⟨rfl, rfl⟩ dL_areLots_357
                · have h := (if_pos c18).symm.trans h
                  refine lv_aload_n hx hb dL_areLots_326 rfl (lv_at hl 0 rfl) ?_
                  refine lv_bipush (v := (9 : Int32)) hx hb dL_areLots_327 (by decide) ?_
                  obtain ⟨u19, eu19, h⟩ := bd_in h
                  refine kI (va_runV (As := [.int (9 : Int32)]) (rest := []) ⟨hx, hb, hml, hown, hts⟩ (c_X4_count l D cA cQ adF adB adT adH kH adR adO vB vT vH bH vR vO (9 : Int32) u19 eu19 _) (cwV 1 hts gL_areLots_X4_count rfl rfl rfl (by decide +kernel) ⟨Nat.le_of_ble_eq_true rfl, Nat.le_of_ble_eq_true rfl⟩) (pV (ci := 4) (q := (RX4, TX4, 5)) hK hN hP hD [0, 1, 2, 3, 4, 5, 6, 7, 8, 9, 10, 11, 12, 13, 14, 15, 16, 17, 18, 19, 20, 21, 22, 23, 24, 25, 26, 27, 28, 29, 30, 31, 32, 33, 34, 35, 36, 37, 38, 39, 40, 41, 42, 43, 44, 45, 46, 47, 48, 49, 50, 51, 52, 53, 54, 55, 56, 57, 58, 59, 60, 61, 62, 63, 64, 65, 66, 67, 68, 69, 70, 71, 72, 73, 74, 75, 76, 77, 78, 79, 80, 81, 82, 83, 84, 85, 86, 87, 88, 89, 90, 91, 92, 93, 94] rfl rfl rfl rfl) rfl rfl hl.1 rfl (lv_room (Nat.le_of_ble_eq_true rfl)) dL_areLots_329 ⟨Nat.zero_le _, Nat.zero_le _⟩) hP hD hS hA [0, 1, 2, 3, 4, 5, 6, 7, 8, 9, 10, 11, 12, 13, 14, 15, 16, 17, 18, 19, 20, 21, 22, 23, 24, 25, 26, 27, 28, 29, 30, 31, 32, 33, 34, 35, 36, 37, 38, 39, 40, 41, 42, 43, 44, 45, 46, 47, 48, 49, 50, 51, 52, 53, 54, 55, 56, 57, 58, 59, 60, 61, 62, 63, 64, 65, 66, 67, 68, 69, 70, 71, 72, 73, 74, 75, 76, 77, 78, 79, 80, 81, 82, 83, 84, 85, 86, 87, 88, 89, 90, 91, 92, 93, 94] rfl rfl (ws' := (wF cA cQ adF adB adT adH kH adR adO vB vT vH bH vR vO ++ [aI cA zl 41 fl, aI cA zt 16 ft])) rfl (fun H locs hP hD hS => ?_)
                  refine lv_aload_n hx hb dL_areLots_332 rfl (lv_at hl 1 rfl) ?_
                  refine lv_bipush (v := (8 : Int32)) hx hb dL_areLots_333 (by decide) ?_
                  obtain ⟨y20, ey20, h⟩ := bd_in h
                  refine ldR hx hb hK hP 96 0 rfl rfl ey20 dL_areLots_335 ?_
                  refine lv_icmp_ne (tgt := 356) hx hb dL_areLots_336 (by decide) (fun c21 => ?_) (fun c21 => ?_)
                  · have h := (if_neg c21).symm.trans h
                    refine lv_iconst (v := (0 : Int32)) hx hb dL_areLots_356 (by decide) ?_
                    cases h
                    exact endZ hx hb hr hlocks hP hS ⟨rfl, rfl⟩ dL_areLots_357
                  · have h := (if_pos c21).symm.trans h
                    refine lv_aload_n hx hb dL_areLots_339 rfl (lv_at hl 0 rfl) ?_
                    refine lv_bipush (v := (10 : Int32)) hx hb dL_areLots_340 (by decide) ?_
                    obtain ⟨u22, eu22, h⟩ := bd_in h
                    refine kI (va_runV (As := [.int (10 : Int32)]) (rest := []) ⟨hx, hb, hml, hown, hts⟩ (c_X4_count l D cA cQ adF adB adT adH kH adR adO vB vT vH bH vR vO (10 : Int32) u22 eu22 _) (cwV 1 hts gL_areLots_X4_count rfl rfl rfl (by decide +kernel) ⟨Nat.le_of_ble_eq_true rfl, Nat.le_of_ble_eq_true rfl⟩) (pV (ci := 4) (q := (RX4, TX4, 5)) hK hN hP hD [0, 1, 2, 3, 4, 5, 6, 7, 8, 9, 10, 11, 12, 13, 14, 15, 16, 17, 18, 19, 20, 21, 22, 23, 24, 25, 26, 27, 28, 29, 30, 31, 32, 33, 34, 35, 36, 37, 38, 39, 40, 41, 42, 43, 44, 45, 46, 47, 48, 49, 50, 51, 52, 53, 54, 55, 56, 57, 58, 59, 60, 61, 62, 63, 64, 65, 66, 67, 68, 69, 70, 71, 72, 73, 74, 75, 76, 77, 78, 79, 80, 81, 82, 83, 84, 85, 86, 87, 88, 89, 90, 91, 92, 93, 94] rfl rfl rfl rfl) rfl rfl hl.1 rfl (lv_room (Nat.le_of_ble_eq_true rfl)) dL_areLots_342 ⟨Nat.zero_le _, Nat.zero_le _⟩) hP hD hS hA [0, 1, 2, 3, 4, 5, 6, 7, 8, 9, 10, 11, 12, 13, 14, 15, 16, 17, 18, 19, 20, 21, 22, 23, 24, 25, 26, 27, 28, 29, 30, 31, 32, 33, 34, 35, 36, 37, 38, 39, 40, 41, 42, 43, 44, 45, 46, 47, 48, 49, 50, 51, 52, 53, 54, 55, 56, 57, 58, 59, 60, 61, 62, 63, 64, 65, 66, 67, 68, 69, 70, 71, 72, 73, 74, 75, 76, 77, 78, 79, 80, 81, 82, 83, 84, 85, 86, 87, 88, 89, 90, 91, 92, 93, 94] rfl rfl (ws' := (wF cA cQ adF adB adT adH kH adR adO vB vT vH bH vR vO ++ [aI cA zl 41 fl, aI cA zt 16 ft])) rfl (fun H locs hP hD hS => ?_)
                    refine lv_aload_n hx hb dL_areLots_345 rfl (lv_at hl 1 rfl) ?_
                    refine lv_bipush (v := (9 : Int32)) hx hb dL_areLots_346 (by decide) ?_
                    obtain ⟨y23, ey23, h⟩ := bd_in h
                    refine ldR hx hb hK hP 96 0 rfl rfl ey23 dL_areLots_348 ?_
                    refine lv_icmp_ne (tgt := 356) hx hb dL_areLots_349 (by decide) (fun c24 => ?_) (fun c24 => ?_)
                    · have h := (if_neg c24).symm.trans h
                      refine lv_iconst (v := (0 : Int32)) hx hb dL_areLots_356 (by decide) ?_
                      cases h
                      exact endZ hx hb hr hlocks hP hS ⟨rfl, rfl⟩ dL_areLots_357
                    · have h := (if_pos c24).symm.trans h
                      refine lv_iconst (v := (1 : Int32)) hx hb dL_areLots_352 (by decide) ?_
                      refine lv_goto (tgt := 357) hx hb dL_areLots_353 (by decide) ?_
                      cases h
                      exact endZ hx hb hr hlocks hP hS ⟨rfl, rfl⟩ dL_areLots_357
  have B189 : ∀ (fu189 : Nat) (x3 : Int32) (x4 : Int32) (x5 : Int32) (H : Heap) (locs : List Loc) (ls : Array Slot), L_areLots_l189 vB vT vH bH vR vO fl ft fu189 x3 x4 x5 = some o → va_P D vwCl (wF cA cQ adF adB adT adH kH adR adO vB vT vH bH vR vO ++ [aI cA zl 41 fl, aI cA zt 16 ft]) H → va_D A (wF cA cQ adF adB adT adH kH adR adO vB vT vH bH vR vO ++ [aI cA zl 41 fl, aI cA zt 16 ft]) → va_S A s.heap H locs → lv_has ls 6 [(0, .ref adF), (2, .ref zt), (3, .int x3), (4, .int x4), (5, .int x5)] → W p l e (headSpec wsL_areLots ({ frames := 3, cells := 0, slots := 0, locals := 70 })).room s m ([.ref adF, .ref zl, .ref zt] : List Value).toArray below meth c H locs 0 0 (MQ below (QI D (wF cA cQ adF adB adT adH kH adR adO vB vT vH bH vR vO ++ [aI cA zl 41 fl, aI cA zt 16 ft]) o A) ([.ref adF, .ref zl, .ref zt] : List Value).toArray s 0 0 A) (F0 m 189 ls []) := by
    intro fu189
    induction fu189 with
    | zero =>
      intro x3 x4 x5 H locs ls h hP hD hS hl
      cases h
    | succ fu189 ih189 =>
      have B220 : ∀ (x3 : Int32) (x5 : Int32) (H : Heap) (locs : List Loc) (ls : Array Slot), L_areLots_b220 vB vT vH bH vR vO fl ft (L_areLots_l189 vB vT vH bH vR vO fl ft fu189) x3 x5 = some o → va_P D vwCl (wF cA cQ adF adB adT adH kH adR adO vB vT vH bH vR vO ++ [aI cA zl 41 fl, aI cA zt 16 ft]) H → va_D A (wF cA cQ adF adB adT adH kH adR adO vB vT vH bH vR vO ++ [aI cA zl 41 fl, aI cA zt 16 ft]) → va_S A s.heap H locs → lv_has ls 6 [(0, .ref adF), (2, .ref zt), (3, .int x3), (5, .int x5)] → W p l e (headSpec wsL_areLots ({ frames := 3, cells := 0, slots := 0, locals := 70 })).room s m ([.ref adF, .ref zl, .ref zt] : List Value).toArray below meth c H locs 0 0 (MQ below (QI D (wF cA cQ adF adB adT adH kH adR adO vB vT vH bH vR vO ++ [aI cA zl 41 fl, aI cA zt 16 ft]) o A) ([.ref adF, .ref zl, .ref zt] : List Value).toArray s 0 0 A) (F0 m 220 ls []) := by
        intro x3 x5 H locs ls h hP hD hS hl
        unfold L_areLots_b220 at h
        refine lv_aload_n hx hb dL_areLots_220 rfl (lv_at hl 0 rfl) ?_
        refine lv_bipush (v := (20 : Int32)) hx hb dL_areLots_221 (by decide) ?_
        refine lv_iload hx hb dL_areLots_223 (lv_at hl 3 rfl) ?_
        refine lv_iadd hx hb dL_areLots_225 ?_
        obtain ⟨u25, eu25, h⟩ := bd_in h
        refine kI (va_runV (As := [.int ((20 : Int32) + x5)]) (rest := []) ⟨hx, hb, hml, hown, hts⟩ (c_X4_count l D cA cQ adF adB adT adH kH adR adO vB vT vH bH vR vO ((20 : Int32) + x5) u25 eu25 _) (cwV 1 hts gL_areLots_X4_count rfl rfl rfl (by decide +kernel) ⟨Nat.le_of_ble_eq_true rfl, Nat.le_of_ble_eq_true rfl⟩) (pV (ci := 4) (q := (RX4, TX4, 5)) hK hN hP hD [0, 1, 2, 3, 4, 5, 6, 7, 8, 9, 10, 11, 12, 13, 14, 15, 16, 17, 18, 19, 20, 21, 22, 23, 24, 25, 26, 27, 28, 29, 30, 31, 32, 33, 34, 35, 36, 37, 38, 39, 40, 41, 42, 43, 44, 45, 46, 47, 48, 49, 50, 51, 52, 53, 54, 55, 56, 57, 58, 59, 60, 61, 62, 63, 64, 65, 66, 67, 68, 69, 70, 71, 72, 73, 74, 75, 76, 77, 78, 79, 80, 81, 82, 83, 84, 85, 86, 87, 88, 89, 90, 91, 92, 93, 94] rfl rfl rfl rfl) rfl rfl hl.1 rfl (lv_room (Nat.le_of_ble_eq_true rfl)) dL_areLots_226 ⟨Nat.zero_le _, Nat.zero_le _⟩) hP hD hS hA [0, 1, 2, 3, 4, 5, 6, 7, 8, 9, 10, 11, 12, 13, 14, 15, 16, 17, 18, 19, 20, 21, 22, 23, 24, 25, 26, 27, 28, 29, 30, 31, 32, 33, 34, 35, 36, 37, 38, 39, 40, 41, 42, 43, 44, 45, 46, 47, 48, 49, 50, 51, 52, 53, 54, 55, 56, 57, 58, 59, 60, 61, 62, 63, 64, 65, 66, 67, 68, 69, 70, 71, 72, 73, 74, 75, 76, 77, 78, 79, 80, 81, 82, 83, 84, 85, 86, 87, 88, 89, 90, 91, 92, 93, 94] rfl rfl (ws' := (wF cA cQ adF adB adT adH kH adR adO vB vT vH bH vR vO ++ [aI cA zl 41 fl, aI cA zt 16 ft])) rfl (fun H locs hP hD hS => ?_)
        refine lv_aload_n hx hb dL_areLots_229 rfl (lv_at hl 1 rfl) ?_
        refine lv_bipush (v := (10 : Int32)) hx hb dL_areLots_230 (by decide) ?_
        refine lv_iload hx hb dL_areLots_232 (lv_at hl 3 rfl) ?_
        refine lv_iadd hx hb dL_areLots_234 ?_
        obtain ⟨y26, ey26, h⟩ := bd_in h
        refine ldR hx hb hK hP 96 0 rfl rfl ey26 dL_areLots_235 ?_
        refine lv_icmp_ne (tgt := 243) hx hb dL_areLots_236 (by decide) (fun c27 => ?_) (fun c27 => ?_)
        · have h := (if_neg c27).symm.trans h
          refine lv_iconst (v := (0 : Int32)) hx hb dL_areLots_243 (by decide) ?_
          refine lv_istore (lv' := [(4, .int (0 : Int32)), (0, .ref adF), (2, .ref zt), (3, .int x3), (5, .int x5)]) hx hb dL_areLots_244 hl (by decide) rfl (fun ls hl => ?_)
          refine lv_iinc (v := (x5 + (1 : Int32))) (lv' := [(5, .int (x5 + (1 : Int32))), (4, .int (0 : Int32)), (0, .ref adF), (2, .ref zt), (3, .int x3)]) hx hb dL_areLots_246 hl (k := 4) rfl rfl (by decide) rfl (fun ls hl => ?_)
          refine lv_goto (tgt := 189) hx hb dL_areLots_249 (by decide) ?_
          exact ih189 x3 (0 : Int32) (x5 + (1 : Int32)) _ _ _ h hP hD hS (lv_sub hl [2, 3, 4, 1, 0] rfl)
        · have h := (if_pos c27).symm.trans h
          refine lv_iconst (v := (1 : Int32)) hx hb dL_areLots_239 (by decide) ?_
          refine lv_goto (tgt := 244) hx hb dL_areLots_240 (by decide) ?_
          refine lv_istore (lv' := [(4, .int (1 : Int32)), (0, .ref adF), (2, .ref zt), (3, .int x3), (5, .int x5)]) hx hb dL_areLots_244 hl (by decide) rfl (fun ls hl => ?_)
          refine lv_iinc (v := (x5 + (1 : Int32))) (lv' := [(5, .int (x5 + (1 : Int32))), (4, .int (1 : Int32)), (0, .ref adF), (2, .ref zt), (3, .int x3)]) hx hb dL_areLots_246 hl (k := 4) rfl rfl (by decide) rfl (fun ls hl => ?_)
          refine lv_goto (tgt := 189) hx hb dL_areLots_249 (by decide) ?_
          exact ih189 x3 (1 : Int32) (x5 + (1 : Int32)) _ _ _ h hP hD hS (lv_sub hl [2, 3, 4, 1, 0] rfl)
      intro x3 x4 x5 H locs ls h hP hD hS hl
      rw [L_areLots_l189] at h
      refine lv_iload hx hb dL_areLots_189 (lv_at hl 4 rfl) ?_
      refine lv_bipush (v := (6 : Int32)) hx hb dL_areLots_191 (by decide) ?_
      refine lv_icmp_ge (tgt := 252) hx hb dL_areLots_193 (by decide) (fun c28 => ?_) (fun c28 => ?_)
      · have h := (if_pos c28).symm.trans h
        exact B252 x3 x4 _ _ _ h hP hD hS (lv_sub hl [0, 1, 2, 3] rfl)
      · have h := (if_neg c28).symm.trans h
        refine lv_iload hx hb dL_areLots_196 (lv_at hl 3 rfl) ?_
        refine lv_if_eq (tgt := 243) hx hb dL_areLots_198 (by decide) (fun c29 => ?_) (fun c29 => ?_)
        · have h := (if_pos c29).symm.trans h
          refine lv_iconst (v := (0 : Int32)) hx hb dL_areLots_243 (by decide) ?_
          refine lv_istore (lv' := [(4, .int (0 : Int32)), (0, .ref adF), (2, .ref zt), (3, .int x3), (5, .int x5)]) hx hb dL_areLots_244 hl (by decide) rfl (fun ls hl => ?_)
          refine lv_iinc (v := (x5 + (1 : Int32))) (lv' := [(5, .int (x5 + (1 : Int32))), (4, .int (0 : Int32)), (0, .ref adF), (2, .ref zt), (3, .int x3)]) hx hb dL_areLots_246 hl (k := 4) rfl rfl (by decide) rfl (fun ls hl => ?_)
          refine lv_goto (tgt := 189) hx hb dL_areLots_249 (by decide) ?_
          exact ih189 x3 (0 : Int32) (x5 + (1 : Int32)) _ _ _ h hP hD hS (lv_sub hl [2, 3, 4, 1, 0] rfl)
        · have h := (if_neg c29).symm.trans h
          refine lv_iload hx hb dL_areLots_201 (lv_at hl 4 rfl) ?_
          refine lv_iconst (v := (2 : Int32)) hx hb dL_areLots_203 (by decide) ?_
          refine lv_icmp_gt (tgt := 220) hx hb dL_areLots_204 (by decide) (fun c30 => ?_) (fun c30 => ?_)
          · have h := (if_pos c30).symm.trans h
            exact B220 x3 x5 _ _ _ h hP hD hS (lv_sub hl [0, 1, 2, 4] rfl)
          · have h := (if_neg c30).symm.trans h
            refine lv_aload_n hx hb dL_areLots_207 rfl (lv_at hl 0 rfl) ?_
            refine lv_iload hx hb dL_areLots_208 (lv_at hl 4 rfl) ?_
            obtain ⟨u31, eu31, h⟩ := bd_in h
            refine kI (va_runV (As := [.int x5]) (rest := []) ⟨hx, hb, hml, hown, hts⟩ (c_X4_count l D cA cQ adF adB adT adH kH adR adO vB vT vH bH vR vO x5 u31 eu31 _) (cwV 1 hts gL_areLots_X4_count rfl rfl rfl (by decide +kernel) ⟨Nat.le_of_ble_eq_true rfl, Nat.le_of_ble_eq_true rfl⟩) (pV (ci := 4) (q := (RX4, TX4, 5)) hK hN hP hD [0, 1, 2, 3, 4, 5, 6, 7, 8, 9, 10, 11, 12, 13, 14, 15, 16, 17, 18, 19, 20, 21, 22, 23, 24, 25, 26, 27, 28, 29, 30, 31, 32, 33, 34, 35, 36, 37, 38, 39, 40, 41, 42, 43, 44, 45, 46, 47, 48, 49, 50, 51, 52, 53, 54, 55, 56, 57, 58, 59, 60, 61, 62, 63, 64, 65, 66, 67, 68, 69, 70, 71, 72, 73, 74, 75, 76, 77, 78, 79, 80, 81, 82, 83, 84, 85, 86, 87, 88, 89, 90, 91, 92, 93, 94] rfl rfl rfl rfl) rfl rfl hl.1 rfl (lv_room (Nat.le_of_ble_eq_true rfl)) dL_areLots_210 ⟨Nat.zero_le _, Nat.zero_le _⟩) hP hD hS hA [0, 1, 2, 3, 4, 5, 6, 7, 8, 9, 10, 11, 12, 13, 14, 15, 16, 17, 18, 19, 20, 21, 22, 23, 24, 25, 26, 27, 28, 29, 30, 31, 32, 33, 34, 35, 36, 37, 38, 39, 40, 41, 42, 43, 44, 45, 46, 47, 48, 49, 50, 51, 52, 53, 54, 55, 56, 57, 58, 59, 60, 61, 62, 63, 64, 65, 66, 67, 68, 69, 70, 71, 72, 73, 74, 75, 76, 77, 78, 79, 80, 81, 82, 83, 84, 85, 86, 87, 88, 89, 90, 91, 92, 93, 94] rfl rfl (ws' := (wF cA cQ adF adB adT adH kH adR adO vB vT vH bH vR vO ++ [aI cA zl 41 fl, aI cA zt 16 ft])) rfl (fun H locs hP hD hS => ?_)
            refine lv_aload_n hx hb dL_areLots_213 rfl (lv_at hl 1 rfl) ?_
            refine lv_iload hx hb dL_areLots_214 (lv_at hl 4 rfl) ?_
            obtain ⟨y32, ey32, h⟩ := bd_in h
            refine ldR hx hb hK hP 96 0 rfl rfl ey32 dL_areLots_216 ?_
            refine lv_icmp_ne (tgt := 243) hx hb dL_areLots_217 (by decide) (fun c33 => ?_) (fun c33 => ?_)
            · have h := (if_neg c33).symm.trans h
              refine lv_iconst (v := (0 : Int32)) hx hb dL_areLots_243 (by decide) ?_
              refine lv_istore (lv' := [(4, .int (0 : Int32)), (0, .ref adF), (2, .ref zt), (3, .int x3), (5, .int x5)]) hx hb dL_areLots_244 hl (by decide) rfl (fun ls hl => ?_)
              refine lv_iinc (v := (x5 + (1 : Int32))) (lv' := [(5, .int (x5 + (1 : Int32))), (4, .int (0 : Int32)), (0, .ref adF), (2, .ref zt), (3, .int x3)]) hx hb dL_areLots_246 hl (k := 4) rfl rfl (by decide) rfl (fun ls hl => ?_)
              refine lv_goto (tgt := 189) hx hb dL_areLots_249 (by decide) ?_
              exact ih189 x3 (0 : Int32) (x5 + (1 : Int32)) _ _ _ h hP hD hS (lv_sub hl [2, 3, 4, 1, 0] rfl)
            · have h := (if_pos c33).symm.trans h
              exact B220 x3 x5 _ _ _ h hP hD hS (lv_sub hl [0, 1, 2, 4] rfl)
  have B48 : ∀ (fu48 : Nat) (x3 : Int32) (x4 : Int32) (x5 : Int32) (H : Heap) (locs : List Loc) (ls : Array Slot), L_areLots_l48 vB vT vH bH vR vO fl ft fu48 x3 x4 x5 = some o → va_P D vwCl (wF cA cQ adF adB adT adH kH adR adO vB vT vH bH vR vO ++ [aI cA zl 41 fl, aI cA zt 16 ft]) H → va_D A (wF cA cQ adF adB adT adH kH adR adO vB vT vH bH vR vO ++ [aI cA zl 41 fl, aI cA zt 16 ft]) → va_S A s.heap H locs → lv_has ls 6 [(0, .ref adF), (1, .ref zl), (2, .ref zt), (3, .int x3), (4, .int x4), (5, .int x5)] → W p l e (headSpec wsL_areLots ({ frames := 3, cells := 0, slots := 0, locals := 70 })).room s m ([.ref adF, .ref zl, .ref zt] : List Value).toArray below meth c H locs 0 0 (MQ below (QI D (wF cA cQ adF adB adT adH kH adR adO vB vT vH bH vR vO ++ [aI cA zl 41 fl, aI cA zt 16 ft]) o A) ([.ref adF, .ref zl, .ref zt] : List Value).toArray s 0 0 A) (F0 m 48 ls []) := by
    intro fu48
    induction fu48 with
    | zero =>
      intro x3 x4 x5 H locs ls h hP hD hS hl
      cases h
    | succ fu48 ih48 =>
      intro x3 x4 x5 H locs ls h hP hD hS hl
      rw [L_areLots_l48] at h
      refine lv_iload hx hb dL_areLots_48 (lv_at hl 5 rfl) ?_
      refine lv_aload_n hx hb dL_areLots_50 rfl (lv_at hl 2 rfl) ?_
      refine lv_iconst (v := (2 : Int32)) hx hb dL_areLots_51 (by decide) ?_
      obtain ⟨y34, ey34, h⟩ := bd_in h
      refine ldR hx hb hK hP 96 0 rfl rfl ey34 dL_areLots_52 ?_
      refine lv_icmp_ge (tgt := 186) hx hb dL_areLots_53 (by decide) (fun c35 => ?_) (fun c35 => ?_)
      · have h := (if_pos c35).symm.trans h
        refine lv_iconst (v := (0 : Int32)) hx hb dL_areLots_186 (by decide) ?_
        refine lv_istore (lv' := [(5, .int (0 : Int32)), (0, .ref adF), (1, .ref zl), (2, .ref zt), (3, .int x3), (4, .int x4)]) hx hb dL_areLots_187 hl (by decide) rfl (fun ls hl => ?_)
        exact B189 FU x3 x4 (0 : Int32) _ _ _ h hP hD hS (lv_sub hl [1, 3, 4, 5, 0] rfl)
      · have h := (if_neg c35).symm.trans h
        refine lv_iload hx hb dL_areLots_56 (lv_at hl 4 rfl) ?_
        refine lv_if_eq (tgt := 186) hx hb dL_areLots_58 (by decide) (fun c36 => ?_) (fun c36 => ?_)
        · have h := (if_pos c36).symm.trans h
          refine lv_iconst (v := (0 : Int32)) hx hb dL_areLots_186 (by decide) ?_
          refine lv_istore (lv' := [(5, .int (0 : Int32)), (0, .ref adF), (1, .ref zl), (2, .ref zt), (3, .int x3), (4, .int x4)]) hx hb dL_areLots_187 hl (by decide) rfl (fun ls hl => ?_)
          exact B189 FU x3 x4 (0 : Int32) _ _ _ h hP hD hS (lv_sub hl [1, 3, 4, 5, 0] rfl)
        · have h := (if_neg c36).symm.trans h
          refine lv_iload_n hx hb dL_areLots_61 rfl (lv_at hl 3 rfl) ?_
          refine lv_aload_n hx hb dL_areLots_62 rfl (lv_at hl 1 rfl) ?_
          refine lv_iload hx hb dL_areLots_63 (lv_at hl 5 rfl) ?_
          obtain ⟨y37, ey37, h⟩ := bd_in h
          refine ldR hx hb hK hP 95 0 rfl rfl ey37 dL_areLots_65 ?_
          obtain ⟨u38, eu38, h⟩ := bd_in h
          refine kI (va_runS (As := [.int y37]) (rest := [.int x3]) ⟨hx, hb, hml, hown, hts⟩ (c_L_many l D cA cQ  y37 u38 eu38 _) (va_cwS 1 hts gL_areLots_L_many rfl rfl rfl (by decide +kernel) ⟨Nat.le_of_ble_eq_true rfl, Nat.le_of_ble_eq_true rfl⟩) (pS hK hN hP hD [] rfl rfl) rfl rfl hl.1 rfl (lv_room (Nat.le_of_ble_eq_true rfl)) dL_areLots_66 ⟨Nat.zero_le _, Nat.zero_le _⟩) hP hD hS hA [] rfl rfl (ws' := (wF cA cQ adF adB adT adH kH adR adO vB vT vH bH vR vO ++ [aI cA zl 41 fl, aI cA zt 16 ft])) rfl (fun H locs hP hD hS => ?_)
          refine lv_iadd hx hb dL_areLots_69 ?_
          refine lv_istore_n (lv' := [(3, .int (x3 + u38)), (0, .ref adF), (1, .ref zl), (2, .ref zt), (4, .int x4), (5, .int x5)]) hx hb dL_areLots_70 rfl hl (by decide) rfl (fun ls hl => ?_)
          refine lv_aload_n hx hb dL_areLots_71 rfl (lv_at hl 1 rfl) ?_
          refine lv_iload hx hb dL_areLots_72 (lv_at hl 5 rfl) ?_
          refine lv_iconst (v := (0 : Int32)) hx hb dL_areLots_74 (by decide) ?_
          obtain ⟨u39, eu39, h⟩ := bd_in h
          refine kI (va_runV (As := [.int x5, .int (0 : Int32)]) (rest := []) ⟨hx, hb, hml, hown, hts⟩ (c_X4_lot l D cA cQ adF adB adT adH kH adR adO vB vT vH bH vR vO x5 (0 : Int32) u39 eu39 _) (cwV 2 hts gL_areLots_X4_lot rfl rfl rfl (by decide +kernel) ⟨Nat.le_of_ble_eq_true rfl, Nat.le_of_ble_eq_true rfl⟩) (pV (ci := 4) (q := (RX4, TX4, 5)) hK hN hP hD [0, 1, 2, 3, 4, 5, 6, 7, 8, 9, 10, 11, 12, 13, 14, 15, 16, 17, 18, 19, 20, 21, 22, 23, 24, 25, 26, 27, 28, 29, 30, 31, 32, 33, 34, 35, 36, 37, 38, 39, 40, 41, 42, 43, 44, 45, 46, 47, 48, 49, 50, 51, 52, 53, 54, 55, 56, 57, 58, 59, 60, 61, 62, 63, 64, 65, 66, 67, 68, 69, 70, 71, 72, 73, 74, 75, 76, 77, 78, 79, 80, 81, 82, 83, 84, 85, 86, 87, 88, 89, 90, 91, 92, 93, 94] rfl rfl rfl rfl) rfl rfl hl.1 rfl (lv_room (Nat.le_of_ble_eq_true rfl)) dL_areLots_75 ⟨Nat.zero_le _, Nat.zero_le _⟩) hP hD hS hA [0, 1, 2, 3, 4, 5, 6, 7, 8, 9, 10, 11, 12, 13, 14, 15, 16, 17, 18, 19, 20, 21, 22, 23, 24, 25, 26, 27, 28, 29, 30, 31, 32, 33, 34, 35, 36, 37, 38, 39, 40, 41, 42, 43, 44, 45, 46, 47, 48, 49, 50, 51, 52, 53, 54, 55, 56, 57, 58, 59, 60, 61, 62, 63, 64, 65, 66, 67, 68, 69, 70, 71, 72, 73, 74, 75, 76, 77, 78, 79, 80, 81, 82, 83, 84, 85, 86, 87, 88, 89, 90, 91, 92, 93, 94] rfl rfl (ws' := (wF cA cQ adF adB adT adH kH adR adO vB vT vH bH vR vO ++ [aI cA zl 41 fl, aI cA zt 16 ft])) rfl (fun H locs hP hD hS => ?_)
          refine lv_aload_n hx hb dL_areLots_78 rfl (lv_at hl 2 rfl) ?_
          refine lv_iload hx hb dL_areLots_79 (lv_at hl 5 rfl) ?_
          obtain ⟨y40, ey40, h⟩ := bd_in h
          refine ldR hx hb hK hP 95 0 rfl rfl ey40 dL_areLots_81 ?_
          obtain ⟨u41, eu41, h⟩ := bd_in h
          refine kI (va_runS (As := [.int y40]) (rest := [.int u39]) ⟨hx, hb, hml, hown, hts⟩ (c_L_debtor l D cA cQ  y40 u41 eu41 _) (va_cwS 1 hts gL_areLots_L_debtor rfl rfl rfl (by decide +kernel) ⟨Nat.le_of_ble_eq_true rfl, Nat.le_of_ble_eq_true rfl⟩) (pS hK hN hP hD [] rfl rfl) rfl rfl hl.1 rfl (lv_room (Nat.le_of_ble_eq_true rfl)) dL_areLots_82 ⟨Nat.zero_le _, Nat.zero_le _⟩) hP hD hS hA [] rfl rfl (ws' := (wF cA cQ adF adB adT adH kH adR adO vB vT vH bH vR vO ++ [aI cA zl 41 fl, aI cA zt 16 ft])) rfl (fun H locs hP hD hS => ?_)
          refine lv_icmp_ne (tgt := 177) hx hb dL_areLots_85 (by decide) (fun c42 => ?_) (fun c42 => ?_)
          · have h := (if_neg c42).symm.trans h
            refine lv_iconst (v := (0 : Int32)) hx hb dL_areLots_177 (by decide) ?_
            refine lv_istore (lv' := [(4, .int (0 : Int32)), (3, .int (x3 + u38)), (0, .ref adF), (1, .ref zl), (2, .ref zt), (5, .int x5)]) hx hb dL_areLots_178 hl (by decide) rfl (fun ls hl => ?_)
            refine lv_iinc (v := (x5 + (1 : Int32))) (lv' := [(5, .int (x5 + (1 : Int32))), (4, .int (0 : Int32)), (3, .int (x3 + u38)), (0, .ref adF), (1, .ref zl), (2, .ref zt)]) hx hb dL_areLots_180 hl (k := 5) rfl rfl (by decide) rfl (fun ls hl => ?_)
            refine lv_goto (tgt := 48) hx hb dL_areLots_183 (by decide) ?_
            exact ih48 (x3 + u38) (0 : Int32) (x5 + (1 : Int32)) _ _ _ h hP hD hS (lv_sub hl [3, 4, 5, 2, 1, 0] rfl)
          · have h := (if_pos c42).symm.trans h
            refine lv_aload_n hx hb dL_areLots_88 rfl (lv_at hl 1 rfl) ?_
            refine lv_iload hx hb dL_areLots_89 (lv_at hl 5 rfl) ?_
            refine lv_iconst (v := (1 : Int32)) hx hb dL_areLots_91 (by decide) ?_
            obtain ⟨u43, eu43, h⟩ := bd_in h
            refine kI (va_runV (As := [.int x5, .int (1 : Int32)]) (rest := []) ⟨hx, hb, hml, hown, hts⟩ (c_X4_lot l D cA cQ adF adB adT adH kH adR adO vB vT vH bH vR vO x5 (1 : Int32) u43 eu43 _) (cwV 2 hts gL_areLots_X4_lot rfl rfl rfl (by decide +kernel) ⟨Nat.le_of_ble_eq_true rfl, Nat.le_of_ble_eq_true rfl⟩) (pV (ci := 4) (q := (RX4, TX4, 5)) hK hN hP hD [0, 1, 2, 3, 4, 5, 6, 7, 8, 9, 10, 11, 12, 13, 14, 15, 16, 17, 18, 19, 20, 21, 22, 23, 24, 25, 26, 27, 28, 29, 30, 31, 32, 33, 34, 35, 36, 37, 38, 39, 40, 41, 42, 43, 44, 45, 46, 47, 48, 49, 50, 51, 52, 53, 54, 55, 56, 57, 58, 59, 60, 61, 62, 63, 64, 65, 66, 67, 68, 69, 70, 71, 72, 73, 74, 75, 76, 77, 78, 79, 80, 81, 82, 83, 84, 85, 86, 87, 88, 89, 90, 91, 92, 93, 94] rfl rfl rfl rfl) rfl rfl hl.1 rfl (lv_room (Nat.le_of_ble_eq_true rfl)) dL_areLots_92 ⟨Nat.zero_le _, Nat.zero_le _⟩) hP hD hS hA [0, 1, 2, 3, 4, 5, 6, 7, 8, 9, 10, 11, 12, 13, 14, 15, 16, 17, 18, 19, 20, 21, 22, 23, 24, 25, 26, 27, 28, 29, 30, 31, 32, 33, 34, 35, 36, 37, 38, 39, 40, 41, 42, 43, 44, 45, 46, 47, 48, 49, 50, 51, 52, 53, 54, 55, 56, 57, 58, 59, 60, 61, 62, 63, 64, 65, 66, 67, 68, 69, 70, 71, 72, 73, 74, 75, 76, 77, 78, 79, 80, 81, 82, 83, 84, 85, 86, 87, 88, 89, 90, 91, 92, 93, 94] rfl rfl (ws' := (wF cA cQ adF adB adT adH kH adR adO vB vT vH bH vR vO ++ [aI cA zl 41 fl, aI cA zt 16 ft])) rfl (fun H locs hP hD hS => ?_)
            refine lv_aload_n hx hb dL_areLots_95 rfl (lv_at hl 2 rfl) ?_
            refine lv_iload hx hb dL_areLots_96 (lv_at hl 5 rfl) ?_
            obtain ⟨y44, ey44, h⟩ := bd_in h
            refine ldR hx hb hK hP 95 0 rfl rfl ey44 dL_areLots_98 ?_
            obtain ⟨u45, eu45, h⟩ := bd_in h
            refine kI (va_runS (As := [.int y44]) (rest := [.int u43]) ⟨hx, hb, hml, hown, hts⟩ (c_L_creditor l D cA cQ  y44 u45 eu45 _) (va_cwS 1 hts gL_areLots_L_creditor rfl rfl rfl (by decide +kernel) ⟨Nat.le_of_ble_eq_true rfl, Nat.le_of_ble_eq_true rfl⟩) (pS hK hN hP hD [] rfl rfl) rfl rfl hl.1 rfl (lv_room (Nat.le_of_ble_eq_true rfl)) dL_areLots_99 ⟨Nat.zero_le _, Nat.zero_le _⟩) hP hD hS hA [] rfl rfl (ws' := (wF cA cQ adF adB adT adH kH adR adO vB vT vH bH vR vO ++ [aI cA zl 41 fl, aI cA zt 16 ft])) rfl (fun H locs hP hD hS => ?_)
            refine lv_icmp_ne (tgt := 177) hx hb dL_areLots_102 (by decide) (fun c46 => ?_) (fun c46 => ?_)
            · have h := (if_neg c46).symm.trans h
              refine lv_iconst (v := (0 : Int32)) hx hb dL_areLots_177 (by decide) ?_
              refine lv_istore (lv' := [(4, .int (0 : Int32)), (3, .int (x3 + u38)), (0, .ref adF), (1, .ref zl), (2, .ref zt), (5, .int x5)]) hx hb dL_areLots_178 hl (by decide) rfl (fun ls hl => ?_)
              refine lv_iinc (v := (x5 + (1 : Int32))) (lv' := [(5, .int (x5 + (1 : Int32))), (4, .int (0 : Int32)), (3, .int (x3 + u38)), (0, .ref adF), (1, .ref zl), (2, .ref zt)]) hx hb dL_areLots_180 hl (k := 5) rfl rfl (by decide) rfl (fun ls hl => ?_)
              refine lv_goto (tgt := 48) hx hb dL_areLots_183 (by decide) ?_
              exact ih48 (x3 + u38) (0 : Int32) (x5 + (1 : Int32)) _ _ _ h hP hD hS (lv_sub hl [3, 4, 5, 2, 1, 0] rfl)
            · have h := (if_pos c46).symm.trans h
              refine lv_aload_n hx hb dL_areLots_105 rfl (lv_at hl 1 rfl) ?_
              refine lv_iload hx hb dL_areLots_106 (lv_at hl 5 rfl) ?_
              refine lv_iconst (v := (2 : Int32)) hx hb dL_areLots_108 (by decide) ?_
              obtain ⟨u47, eu47, h⟩ := bd_in h
              refine kI (va_runV (As := [.int x5, .int (2 : Int32)]) (rest := []) ⟨hx, hb, hml, hown, hts⟩ (c_X4_lot l D cA cQ adF adB adT adH kH adR adO vB vT vH bH vR vO x5 (2 : Int32) u47 eu47 _) (cwV 2 hts gL_areLots_X4_lot rfl rfl rfl (by decide +kernel) ⟨Nat.le_of_ble_eq_true rfl, Nat.le_of_ble_eq_true rfl⟩) (pV (ci := 4) (q := (RX4, TX4, 5)) hK hN hP hD [0, 1, 2, 3, 4, 5, 6, 7, 8, 9, 10, 11, 12, 13, 14, 15, 16, 17, 18, 19, 20, 21, 22, 23, 24, 25, 26, 27, 28, 29, 30, 31, 32, 33, 34, 35, 36, 37, 38, 39, 40, 41, 42, 43, 44, 45, 46, 47, 48, 49, 50, 51, 52, 53, 54, 55, 56, 57, 58, 59, 60, 61, 62, 63, 64, 65, 66, 67, 68, 69, 70, 71, 72, 73, 74, 75, 76, 77, 78, 79, 80, 81, 82, 83, 84, 85, 86, 87, 88, 89, 90, 91, 92, 93, 94] rfl rfl rfl rfl) rfl rfl hl.1 rfl (lv_room (Nat.le_of_ble_eq_true rfl)) dL_areLots_109 ⟨Nat.zero_le _, Nat.zero_le _⟩) hP hD hS hA [0, 1, 2, 3, 4, 5, 6, 7, 8, 9, 10, 11, 12, 13, 14, 15, 16, 17, 18, 19, 20, 21, 22, 23, 24, 25, 26, 27, 28, 29, 30, 31, 32, 33, 34, 35, 36, 37, 38, 39, 40, 41, 42, 43, 44, 45, 46, 47, 48, 49, 50, 51, 52, 53, 54, 55, 56, 57, 58, 59, 60, 61, 62, 63, 64, 65, 66, 67, 68, 69, 70, 71, 72, 73, 74, 75, 76, 77, 78, 79, 80, 81, 82, 83, 84, 85, 86, 87, 88, 89, 90, 91, 92, 93, 94] rfl rfl (ws' := (wF cA cQ adF adB adT adH kH adR adO vB vT vH bH vR vO ++ [aI cA zl 41 fl, aI cA zt 16 ft])) rfl (fun H locs hP hD hS => ?_)
              refine lv_aload_n hx hb dL_areLots_112 rfl (lv_at hl 2 rfl) ?_
              refine lv_iload hx hb dL_areLots_113 (lv_at hl 5 rfl) ?_
              obtain ⟨y48, ey48, h⟩ := bd_in h
              refine ldR hx hb hK hP 95 0 rfl rfl ey48 dL_areLots_115 ?_
              obtain ⟨u49, eu49, h⟩ := bd_in h
              refine kI (va_runS (As := [.int y48]) (rest := [.int u47]) ⟨hx, hb, hml, hown, hts⟩ (c_L_kind l D cA cQ  y48 u49 eu49 _) (va_cwS 1 hts gL_areLots_L_kind rfl rfl rfl (by decide +kernel) ⟨Nat.le_of_ble_eq_true rfl, Nat.le_of_ble_eq_true rfl⟩) (pS hK hN hP hD [] rfl rfl) rfl rfl hl.1 rfl (lv_room (Nat.le_of_ble_eq_true rfl)) dL_areLots_116 ⟨Nat.zero_le _, Nat.zero_le _⟩) hP hD hS hA [] rfl rfl (ws' := (wF cA cQ adF adB adT adH kH adR adO vB vT vH bH vR vO ++ [aI cA zl 41 fl, aI cA zt 16 ft])) rfl (fun H locs hP hD hS => ?_)
              refine lv_icmp_ne (tgt := 177) hx hb dL_areLots_119 (by decide) (fun c50 => ?_) (fun c50 => ?_)
              · have h := (if_neg c50).symm.trans h
                refine lv_iconst (v := (0 : Int32)) hx hb dL_areLots_177 (by decide) ?_
                refine lv_istore (lv' := [(4, .int (0 : Int32)), (3, .int (x3 + u38)), (0, .ref adF), (1, .ref zl), (2, .ref zt), (5, .int x5)]) hx hb dL_areLots_178 hl (by decide) rfl (fun ls hl => ?_)
                refine lv_iinc (v := (x5 + (1 : Int32))) (lv' := [(5, .int (x5 + (1 : Int32))), (4, .int (0 : Int32)), (3, .int (x3 + u38)), (0, .ref adF), (1, .ref zl), (2, .ref zt)]) hx hb dL_areLots_180 hl (k := 5) rfl rfl (by decide) rfl (fun ls hl => ?_)
                refine lv_goto (tgt := 48) hx hb dL_areLots_183 (by decide) ?_
                exact ih48 (x3 + u38) (0 : Int32) (x5 + (1 : Int32)) _ _ _ h hP hD hS (lv_sub hl [3, 4, 5, 2, 1, 0] rfl)
              · have h := (if_pos c50).symm.trans h
                refine lv_aload_n hx hb dL_areLots_122 rfl (lv_at hl 1 rfl) ?_
                refine lv_iload hx hb dL_areLots_123 (lv_at hl 5 rfl) ?_
                refine lv_iconst (v := (3 : Int32)) hx hb dL_areLots_125 (by decide) ?_
                obtain ⟨u51, eu51, h⟩ := bd_in h
                refine kI (va_runV (As := [.int x5, .int (3 : Int32)]) (rest := []) ⟨hx, hb, hml, hown, hts⟩ (c_X4_lot l D cA cQ adF adB adT adH kH adR adO vB vT vH bH vR vO x5 (3 : Int32) u51 eu51 _) (cwV 2 hts gL_areLots_X4_lot rfl rfl rfl (by decide +kernel) ⟨Nat.le_of_ble_eq_true rfl, Nat.le_of_ble_eq_true rfl⟩) (pV (ci := 4) (q := (RX4, TX4, 5)) hK hN hP hD [0, 1, 2, 3, 4, 5, 6, 7, 8, 9, 10, 11, 12, 13, 14, 15, 16, 17, 18, 19, 20, 21, 22, 23, 24, 25, 26, 27, 28, 29, 30, 31, 32, 33, 34, 35, 36, 37, 38, 39, 40, 41, 42, 43, 44, 45, 46, 47, 48, 49, 50, 51, 52, 53, 54, 55, 56, 57, 58, 59, 60, 61, 62, 63, 64, 65, 66, 67, 68, 69, 70, 71, 72, 73, 74, 75, 76, 77, 78, 79, 80, 81, 82, 83, 84, 85, 86, 87, 88, 89, 90, 91, 92, 93, 94] rfl rfl rfl rfl) rfl rfl hl.1 rfl (lv_room (Nat.le_of_ble_eq_true rfl)) dL_areLots_126 ⟨Nat.zero_le _, Nat.zero_le _⟩) hP hD hS hA [0, 1, 2, 3, 4, 5, 6, 7, 8, 9, 10, 11, 12, 13, 14, 15, 16, 17, 18, 19, 20, 21, 22, 23, 24, 25, 26, 27, 28, 29, 30, 31, 32, 33, 34, 35, 36, 37, 38, 39, 40, 41, 42, 43, 44, 45, 46, 47, 48, 49, 50, 51, 52, 53, 54, 55, 56, 57, 58, 59, 60, 61, 62, 63, 64, 65, 66, 67, 68, 69, 70, 71, 72, 73, 74, 75, 76, 77, 78, 79, 80, 81, 82, 83, 84, 85, 86, 87, 88, 89, 90, 91, 92, 93, 94] rfl rfl (ws' := (wF cA cQ adF adB adT adH kH adR adO vB vT vH bH vR vO ++ [aI cA zl 41 fl, aI cA zt 16 ft])) rfl (fun H locs hP hD hS => ?_)
                refine lv_aload_n hx hb dL_areLots_129 rfl (lv_at hl 2 rfl) ?_
                refine lv_iload hx hb dL_areLots_130 (lv_at hl 5 rfl) ?_
                obtain ⟨y52, ey52, h⟩ := bd_in h
                refine ldR hx hb hK hP 95 0 rfl rfl ey52 dL_areLots_132 ?_
                obtain ⟨u53, eu53, h⟩ := bd_in h
                refine kI (va_runS (As := [.int y52]) (rest := [.int u51]) ⟨hx, hb, hml, hown, hts⟩ (c_L_many l D cA cQ  y52 u53 eu53 _) (va_cwS 1 hts gL_areLots_L_many rfl rfl rfl (by decide +kernel) ⟨Nat.le_of_ble_eq_true rfl, Nat.le_of_ble_eq_true rfl⟩) (pS hK hN hP hD [] rfl rfl) rfl rfl hl.1 rfl (lv_room (Nat.le_of_ble_eq_true rfl)) dL_areLots_133 ⟨Nat.zero_le _, Nat.zero_le _⟩) hP hD hS hA [] rfl rfl (ws' := (wF cA cQ adF adB adT adH kH adR adO vB vT vH bH vR vO ++ [aI cA zl 41 fl, aI cA zt 16 ft])) rfl (fun H locs hP hD hS => ?_)
                refine lv_icmp_ne (tgt := 177) hx hb dL_areLots_136 (by decide) (fun c54 => ?_) (fun c54 => ?_)
                · have h := (if_neg c54).symm.trans h
                  refine lv_iconst (v := (0 : Int32)) hx hb dL_areLots_177 (by decide) ?_
                  refine lv_istore (lv' := [(4, .int (0 : Int32)), (3, .int (x3 + u38)), (0, .ref adF), (1, .ref zl), (2, .ref zt), (5, .int x5)]) hx hb dL_areLots_178 hl (by decide) rfl (fun ls hl => ?_)
                  refine lv_iinc (v := (x5 + (1 : Int32))) (lv' := [(5, .int (x5 + (1 : Int32))), (4, .int (0 : Int32)), (3, .int (x3 + u38)), (0, .ref adF), (1, .ref zl), (2, .ref zt)]) hx hb dL_areLots_180 hl (k := 5) rfl rfl (by decide) rfl (fun ls hl => ?_)
                  refine lv_goto (tgt := 48) hx hb dL_areLots_183 (by decide) ?_
                  exact ih48 (x3 + u38) (0 : Int32) (x5 + (1 : Int32)) _ _ _ h hP hD hS (lv_sub hl [3, 4, 5, 2, 1, 0] rfl)
                · have h := (if_pos c54).symm.trans h
                  refine lv_aload_n hx hb dL_areLots_139 rfl (lv_at hl 1 rfl) ?_
                  refine lv_iload hx hb dL_areLots_140 (lv_at hl 5 rfl) ?_
                  refine lv_iconst (v := (4 : Int32)) hx hb dL_areLots_142 (by decide) ?_
                  obtain ⟨u55, eu55, h⟩ := bd_in h
                  refine kI (va_runV (As := [.int x5, .int (4 : Int32)]) (rest := []) ⟨hx, hb, hml, hown, hts⟩ (c_X4_lot l D cA cQ adF adB adT adH kH adR adO vB vT vH bH vR vO x5 (4 : Int32) u55 eu55 _) (cwV 2 hts gL_areLots_X4_lot rfl rfl rfl (by decide +kernel) ⟨Nat.le_of_ble_eq_true rfl, Nat.le_of_ble_eq_true rfl⟩) (pV (ci := 4) (q := (RX4, TX4, 5)) hK hN hP hD [0, 1, 2, 3, 4, 5, 6, 7, 8, 9, 10, 11, 12, 13, 14, 15, 16, 17, 18, 19, 20, 21, 22, 23, 24, 25, 26, 27, 28, 29, 30, 31, 32, 33, 34, 35, 36, 37, 38, 39, 40, 41, 42, 43, 44, 45, 46, 47, 48, 49, 50, 51, 52, 53, 54, 55, 56, 57, 58, 59, 60, 61, 62, 63, 64, 65, 66, 67, 68, 69, 70, 71, 72, 73, 74, 75, 76, 77, 78, 79, 80, 81, 82, 83, 84, 85, 86, 87, 88, 89, 90, 91, 92, 93, 94] rfl rfl rfl rfl) rfl rfl hl.1 rfl (lv_room (Nat.le_of_ble_eq_true rfl)) dL_areLots_143 ⟨Nat.zero_le _, Nat.zero_le _⟩) hP hD hS hA [0, 1, 2, 3, 4, 5, 6, 7, 8, 9, 10, 11, 12, 13, 14, 15, 16, 17, 18, 19, 20, 21, 22, 23, 24, 25, 26, 27, 28, 29, 30, 31, 32, 33, 34, 35, 36, 37, 38, 39, 40, 41, 42, 43, 44, 45, 46, 47, 48, 49, 50, 51, 52, 53, 54, 55, 56, 57, 58, 59, 60, 61, 62, 63, 64, 65, 66, 67, 68, 69, 70, 71, 72, 73, 74, 75, 76, 77, 78, 79, 80, 81, 82, 83, 84, 85, 86, 87, 88, 89, 90, 91, 92, 93, 94] rfl rfl (ws' := (wF cA cQ adF adB adT adH kH adR adO vB vT vH bH vR vO ++ [aI cA zl 41 fl, aI cA zt 16 ft])) rfl (fun H locs hP hD hS => ?_)
                  refine lv_aload_n hx hb dL_areLots_146 rfl (lv_at hl 2 rfl) ?_
                  refine lv_iload hx hb dL_areLots_147 (lv_at hl 5 rfl) ?_
                  obtain ⟨y56, ey56, h⟩ := bd_in h
                  refine ldR hx hb hK hP 95 0 rfl rfl ey56 dL_areLots_149 ?_
                  obtain ⟨u57, eu57, h⟩ := bd_in h
                  refine kI (va_runS (As := [.int y56]) (rest := [.int u55]) ⟨hx, hb, hml, hown, hts⟩ (c_L_age l D cA cQ  y56 u57 eu57 _) (va_cwS 1 hts gL_areLots_L_age rfl rfl rfl (by decide +kernel) ⟨Nat.le_of_ble_eq_true rfl, Nat.le_of_ble_eq_true rfl⟩) (pS hK hN hP hD [] rfl rfl) rfl rfl hl.1 rfl (lv_room (Nat.le_of_ble_eq_true rfl)) dL_areLots_150 ⟨Nat.zero_le _, Nat.zero_le _⟩) hP hD hS hA [] rfl rfl (ws' := (wF cA cQ adF adB adT adH kH adR adO vB vT vH bH vR vO ++ [aI cA zl 41 fl, aI cA zt 16 ft])) rfl (fun H locs hP hD hS => ?_)
                  refine lv_icmp_ne (tgt := 177) hx hb dL_areLots_153 (by decide) (fun c58 => ?_) (fun c58 => ?_)
                  · have h := (if_neg c58).symm.trans h
                    refine lv_iconst (v := (0 : Int32)) hx hb dL_areLots_177 (by decide) ?_
                    refine lv_istore (lv' := [(4, .int (0 : Int32)), (3, .int (x3 + u38)), (0, .ref adF), (1, .ref zl), (2, .ref zt), (5, .int x5)]) hx hb dL_areLots_178 hl (by decide) rfl (fun ls hl => ?_)
                    refine lv_iinc (v := (x5 + (1 : Int32))) (lv' := [(5, .int (x5 + (1 : Int32))), (4, .int (0 : Int32)), (3, .int (x3 + u38)), (0, .ref adF), (1, .ref zl), (2, .ref zt)]) hx hb dL_areLots_180 hl (k := 5) rfl rfl (by decide) rfl (fun ls hl => ?_)
                    refine lv_goto (tgt := 48) hx hb dL_areLots_183 (by decide) ?_
                    exact ih48 (x3 + u38) (0 : Int32) (x5 + (1 : Int32)) _ _ _ h hP hD hS (lv_sub hl [3, 4, 5, 2, 1, 0] rfl)
                  · have h := (if_pos c58).symm.trans h
                    refine lv_aload_n hx hb dL_areLots_156 rfl (lv_at hl 1 rfl) ?_
                    refine lv_iload hx hb dL_areLots_157 (lv_at hl 5 rfl) ?_
                    refine lv_iconst (v := (5 : Int32)) hx hb dL_areLots_159 (by decide) ?_
                    obtain ⟨u59, eu59, h⟩ := bd_in h
                    refine kI (va_runV (As := [.int x5, .int (5 : Int32)]) (rest := []) ⟨hx, hb, hml, hown, hts⟩ (c_X4_lot l D cA cQ adF adB adT adH kH adR adO vB vT vH bH vR vO x5 (5 : Int32) u59 eu59 _) (cwV 2 hts gL_areLots_X4_lot rfl rfl rfl (by decide +kernel) ⟨Nat.le_of_ble_eq_true rfl, Nat.le_of_ble_eq_true rfl⟩) (pV (ci := 4) (q := (RX4, TX4, 5)) hK hN hP hD [0, 1, 2, 3, 4, 5, 6, 7, 8, 9, 10, 11, 12, 13, 14, 15, 16, 17, 18, 19, 20, 21, 22, 23, 24, 25, 26, 27, 28, 29, 30, 31, 32, 33, 34, 35, 36, 37, 38, 39, 40, 41, 42, 43, 44, 45, 46, 47, 48, 49, 50, 51, 52, 53, 54, 55, 56, 57, 58, 59, 60, 61, 62, 63, 64, 65, 66, 67, 68, 69, 70, 71, 72, 73, 74, 75, 76, 77, 78, 79, 80, 81, 82, 83, 84, 85, 86, 87, 88, 89, 90, 91, 92, 93, 94] rfl rfl rfl rfl) rfl rfl hl.1 rfl (lv_room (Nat.le_of_ble_eq_true rfl)) dL_areLots_160 ⟨Nat.zero_le _, Nat.zero_le _⟩) hP hD hS hA [0, 1, 2, 3, 4, 5, 6, 7, 8, 9, 10, 11, 12, 13, 14, 15, 16, 17, 18, 19, 20, 21, 22, 23, 24, 25, 26, 27, 28, 29, 30, 31, 32, 33, 34, 35, 36, 37, 38, 39, 40, 41, 42, 43, 44, 45, 46, 47, 48, 49, 50, 51, 52, 53, 54, 55, 56, 57, 58, 59, 60, 61, 62, 63, 64, 65, 66, 67, 68, 69, 70, 71, 72, 73, 74, 75, 76, 77, 78, 79, 80, 81, 82, 83, 84, 85, 86, 87, 88, 89, 90, 91, 92, 93, 94] rfl rfl (ws' := (wF cA cQ adF adB adT adH kH adR adO vB vT vH bH vR vO ++ [aI cA zl 41 fl, aI cA zt 16 ft])) rfl (fun H locs hP hD hS => ?_)
                    refine lv_aload_n hx hb dL_areLots_163 rfl (lv_at hl 2 rfl) ?_
                    refine lv_iload hx hb dL_areLots_164 (lv_at hl 5 rfl) ?_
                    obtain ⟨y60, ey60, h⟩ := bd_in h
                    refine ldR hx hb hK hP 95 0 rfl rfl ey60 dL_areLots_166 ?_
                    refine lv_bipush (v := (20 : Int32)) hx hb dL_areLots_167 (by decide) ?_
                    refine lv_ishr hx hb dL_areLots_169 ?_
                    refine lv_icmp_ne (tgt := 177) hx hb dL_areLots_170 (by decide) (fun c61 => ?_) (fun c61 => ?_)
                    · have h := (if_neg c61).symm.trans h
                      refine lv_iconst (v := (0 : Int32)) hx hb dL_areLots_177 (by decide) ?_
                      refine lv_istore (lv' := [(4, .int (0 : Int32)), (3, .int (x3 + u38)), (0, .ref adF), (1, .ref zl), (2, .ref zt), (5, .int x5)]) hx hb dL_areLots_178 hl (by decide) rfl (fun ls hl => ?_)
                      refine lv_iinc (v := (x5 + (1 : Int32))) (lv' := [(5, .int (x5 + (1 : Int32))), (4, .int (0 : Int32)), (3, .int (x3 + u38)), (0, .ref adF), (1, .ref zl), (2, .ref zt)]) hx hb dL_areLots_180 hl (k := 5) rfl rfl (by decide) rfl (fun ls hl => ?_)
                      refine lv_goto (tgt := 48) hx hb dL_areLots_183 (by decide) ?_
                      exact ih48 (x3 + u38) (0 : Int32) (x5 + (1 : Int32)) _ _ _ h hP hD hS (lv_sub hl [3, 4, 5, 2, 1, 0] rfl)
                    · have h := (if_pos c61).symm.trans h
                      refine lv_iconst (v := (1 : Int32)) hx hb dL_areLots_173 (by decide) ?_
                      refine lv_goto (tgt := 178) hx hb dL_areLots_174 (by decide) ?_
                      refine lv_istore (lv' := [(4, .int (1 : Int32)), (3, .int (x3 + u38)), (0, .ref adF), (1, .ref zl), (2, .ref zt), (5, .int x5)]) hx hb dL_areLots_178 hl (by decide) rfl (fun ls hl => ?_)
                      refine lv_iinc (v := (x5 + (1 : Int32))) (lv' := [(5, .int (x5 + (1 : Int32))), (4, .int (1 : Int32)), (3, .int (x3 + u38)), (0, .ref adF), (1, .ref zl), (2, .ref zt)]) hx hb dL_areLots_180 hl (k := 5) rfl rfl (by decide) rfl (fun ls hl => ?_)
                      refine lv_goto (tgt := 48) hx hb dL_areLots_183 (by decide) ?_
                      exact ih48 (x3 + u38) (1 : Int32) (x5 + (1 : Int32)) _ _ _ h hP hD hS (lv_sub hl [3, 4, 5, 2, 1, 0] rfl)
  have h := hf
  unfold L_areLots at h
  refine lv_iconst (v := (0 : Int32)) hx hb dL_areLots_0 (by decide) ?_
  refine lv_istore_n (lv' := [(3, .int (0 : Int32)), (0, .ref adF), (1, .ref zl), (2, .ref zt)]) hx hb dL_areLots_1 rfl hl (by decide) rfl (fun ls hl => ?_)
  refine lv_aload_n hx hb dL_areLots_2 rfl (lv_at hl 1 rfl) ?_
  refine lv_iconst (v := (-1 : Int32)) hx hb dL_areLots_3 (by decide) ?_
  refine lv_iconst (v := (0 : Int32)) hx hb dL_areLots_4 (by decide) ?_
  obtain ⟨u62, eu62, h⟩ := bd_in h
  refine kI (va_runV (As := [.int (-1 : Int32), .int (0 : Int32)]) (rest := []) ⟨hx, hb, hml, hown, hts⟩ (c_X4_lot l D cA cQ adF adB adT adH kH adR adO vB vT vH bH vR vO (-1 : Int32) (0 : Int32) u62 eu62 _) (cwV 2 hts gL_areLots_X4_lot rfl rfl rfl (by decide +kernel) ⟨Nat.le_of_ble_eq_true rfl, Nat.le_of_ble_eq_true rfl⟩) (pV (ci := 4) (q := (RX4, TX4, 5)) hK hN hP hD [0, 1, 2, 3, 4, 5, 6, 7, 8, 9, 10, 11, 12, 13, 14, 15, 16, 17, 18, 19, 20, 21, 22, 23, 24, 25, 26, 27, 28, 29, 30, 31, 32, 33, 34, 35, 36, 37, 38, 39, 40, 41, 42, 43, 44, 45, 46, 47, 48, 49, 50, 51, 52, 53, 54, 55, 56, 57, 58, 59, 60, 61, 62, 63, 64, 65, 66, 67, 68, 69, 70, 71, 72, 73, 74, 75, 76, 77, 78, 79, 80, 81, 82, 83, 84, 85, 86, 87, 88, 89, 90, 91, 92, 93, 94] rfl rfl rfl rfl) rfl rfl hl.1 rfl (lv_room (Nat.le_of_ble_eq_true rfl)) dL_areLots_5 ⟨Nat.zero_le _, Nat.zero_le _⟩) hP hD hS hA [0, 1, 2, 3, 4, 5, 6, 7, 8, 9, 10, 11, 12, 13, 14, 15, 16, 17, 18, 19, 20, 21, 22, 23, 24, 25, 26, 27, 28, 29, 30, 31, 32, 33, 34, 35, 36, 37, 38, 39, 40, 41, 42, 43, 44, 45, 46, 47, 48, 49, 50, 51, 52, 53, 54, 55, 56, 57, 58, 59, 60, 61, 62, 63, 64, 65, 66, 67, 68, 69, 70, 71, 72, 73, 74, 75, 76, 77, 78, 79, 80, 81, 82, 83, 84, 85, 86, 87, 88, 89, 90, 91, 92, 93, 94] rfl rfl (ws' := (wF cA cQ adF adB adT adH kH adR adO vB vT vH bH vR vO ++ [aI cA zl 41 fl, aI cA zt 16 ft])) rfl (fun H locs hP hD hS => ?_)
  refine lv_ldc (v := (-1000001 : Int32)) hx hb hown (hts (.constant RL 58 (-1000001)) (List.mem_of_getElem? (i := 1) rfl)) dL_areLots_8 ?_
  refine lv_icmp_ne (tgt := 42) hx hb dL_areLots_10 (by decide) (fun c63 => ?_) (fun c63 => ?_)
  · have h := (if_neg c63).symm.trans h
    refine lv_iconst (v := (0 : Int32)) hx hb dL_areLots_42 (by decide) ?_
    refine lv_istore (lv' := [(4, .int (0 : Int32)), (3, .int (0 : Int32)), (0, .ref adF), (1, .ref zl), (2, .ref zt)]) hx hb dL_areLots_43 hl (by decide) rfl (fun ls hl => ?_)
    refine lv_iconst (v := (0 : Int32)) hx hb dL_areLots_45 (by decide) ?_
    refine lv_istore (lv' := [(5, .int (0 : Int32)), (4, .int (0 : Int32)), (3, .int (0 : Int32)), (0, .ref adF), (1, .ref zl), (2, .ref zt)]) hx hb dL_areLots_46 hl (by decide) rfl (fun ls hl => ?_)
    exact B48 FU (0 : Int32) (0 : Int32) (0 : Int32) _ _ _ h hP hD hS (lv_sub hl [3, 4, 5, 2, 1, 0] rfl)
  · have h := (if_pos c63).symm.trans h
    refine lv_aload_n hx hb dL_areLots_13 rfl (lv_at hl 1 rfl) ?_
    refine lv_iconst (v := (0 : Int32)) hx hb dL_areLots_14 (by decide) ?_
    refine lv_bipush (v := (6 : Int32)) hx hb dL_areLots_15 (by decide) ?_
    obtain ⟨u64, eu64, h⟩ := bd_in h
    refine kI (va_runV (As := [.int (0 : Int32), .int (6 : Int32)]) (rest := []) ⟨hx, hb, hml, hown, hts⟩ (c_X4_lot l D cA cQ adF adB adT adH kH adR adO vB vT vH bH vR vO (0 : Int32) (6 : Int32) u64 eu64 _) (cwV 2 hts gL_areLots_X4_lot rfl rfl rfl (by decide +kernel) ⟨Nat.le_of_ble_eq_true rfl, Nat.le_of_ble_eq_true rfl⟩) (pV (ci := 4) (q := (RX4, TX4, 5)) hK hN hP hD [0, 1, 2, 3, 4, 5, 6, 7, 8, 9, 10, 11, 12, 13, 14, 15, 16, 17, 18, 19, 20, 21, 22, 23, 24, 25, 26, 27, 28, 29, 30, 31, 32, 33, 34, 35, 36, 37, 38, 39, 40, 41, 42, 43, 44, 45, 46, 47, 48, 49, 50, 51, 52, 53, 54, 55, 56, 57, 58, 59, 60, 61, 62, 63, 64, 65, 66, 67, 68, 69, 70, 71, 72, 73, 74, 75, 76, 77, 78, 79, 80, 81, 82, 83, 84, 85, 86, 87, 88, 89, 90, 91, 92, 93, 94] rfl rfl rfl rfl) rfl rfl hl.1 rfl (lv_room (Nat.le_of_ble_eq_true rfl)) dL_areLots_17 ⟨Nat.zero_le _, Nat.zero_le _⟩) hP hD hS hA [0, 1, 2, 3, 4, 5, 6, 7, 8, 9, 10, 11, 12, 13, 14, 15, 16, 17, 18, 19, 20, 21, 22, 23, 24, 25, 26, 27, 28, 29, 30, 31, 32, 33, 34, 35, 36, 37, 38, 39, 40, 41, 42, 43, 44, 45, 46, 47, 48, 49, 50, 51, 52, 53, 54, 55, 56, 57, 58, 59, 60, 61, 62, 63, 64, 65, 66, 67, 68, 69, 70, 71, 72, 73, 74, 75, 76, 77, 78, 79, 80, 81, 82, 83, 84, 85, 86, 87, 88, 89, 90, 91, 92, 93, 94] rfl rfl (ws' := (wF cA cQ adF adB adT adH kH adR adO vB vT vH bH vR vO ++ [aI cA zl 41 fl, aI cA zt 16 ft])) rfl (fun H locs hP hD hS => ?_)
    refine lv_ldc (v := (-1000001 : Int32)) hx hb hown (hts (.constant RL 58 (-1000001)) (List.mem_of_getElem? (i := 1) rfl)) dL_areLots_20 ?_
    refine lv_icmp_ne (tgt := 42) hx hb dL_areLots_22 (by decide) (fun c65 => ?_) (fun c65 => ?_)
    · have h := (if_neg c65).symm.trans h
      refine lv_iconst (v := (0 : Int32)) hx hb dL_areLots_42 (by decide) ?_
      refine lv_istore (lv' := [(4, .int (0 : Int32)), (3, .int (0 : Int32)), (0, .ref adF), (1, .ref zl), (2, .ref zt)]) hx hb dL_areLots_43 hl (by decide) rfl (fun ls hl => ?_)
      refine lv_iconst (v := (0 : Int32)) hx hb dL_areLots_45 (by decide) ?_
      refine lv_istore (lv' := [(5, .int (0 : Int32)), (4, .int (0 : Int32)), (3, .int (0 : Int32)), (0, .ref adF), (1, .ref zl), (2, .ref zt)]) hx hb dL_areLots_46 hl (by decide) rfl (fun ls hl => ?_)
      exact B48 FU (0 : Int32) (0 : Int32) (0 : Int32) _ _ _ h hP hD hS (lv_sub hl [3, 4, 5, 2, 1, 0] rfl)
    · have h := (if_pos c65).symm.trans h
      refine lv_aload_n hx hb dL_areLots_25 rfl (lv_at hl 1 rfl) ?_
      refine lv_aload_n hx hb dL_areLots_26 rfl (lv_at hl 3 rfl) ?_
      refine lv_iconst (v := (2 : Int32)) hx hb dL_areLots_27 (by decide) ?_
      obtain ⟨y66, ey66, h⟩ := bd_in h
      refine ldR hx hb hK hP 96 0 rfl rfl ey66 dL_areLots_28 ?_
      refine lv_iconst (v := (0 : Int32)) hx hb dL_areLots_29 (by decide) ?_
      obtain ⟨u67, eu67, h⟩ := bd_in h
      refine kI (va_runV (As := [.int y66, .int (0 : Int32)]) (rest := []) ⟨hx, hb, hml, hown, hts⟩ (c_X4_lot l D cA cQ adF adB adT adH kH adR adO vB vT vH bH vR vO y66 (0 : Int32) u67 eu67 _) (cwV 2 hts gL_areLots_X4_lot rfl rfl rfl (by decide +kernel) ⟨Nat.le_of_ble_eq_true rfl, Nat.le_of_ble_eq_true rfl⟩) (pV (ci := 4) (q := (RX4, TX4, 5)) hK hN hP hD [0, 1, 2, 3, 4, 5, 6, 7, 8, 9, 10, 11, 12, 13, 14, 15, 16, 17, 18, 19, 20, 21, 22, 23, 24, 25, 26, 27, 28, 29, 30, 31, 32, 33, 34, 35, 36, 37, 38, 39, 40, 41, 42, 43, 44, 45, 46, 47, 48, 49, 50, 51, 52, 53, 54, 55, 56, 57, 58, 59, 60, 61, 62, 63, 64, 65, 66, 67, 68, 69, 70, 71, 72, 73, 74, 75, 76, 77, 78, 79, 80, 81, 82, 83, 84, 85, 86, 87, 88, 89, 90, 91, 92, 93, 94] rfl rfl rfl rfl) rfl rfl hl.1 rfl (lv_room (Nat.le_of_ble_eq_true rfl)) dL_areLots_30 ⟨Nat.zero_le _, Nat.zero_le _⟩) hP hD hS hA [0, 1, 2, 3, 4, 5, 6, 7, 8, 9, 10, 11, 12, 13, 14, 15, 16, 17, 18, 19, 20, 21, 22, 23, 24, 25, 26, 27, 28, 29, 30, 31, 32, 33, 34, 35, 36, 37, 38, 39, 40, 41, 42, 43, 44, 45, 46, 47, 48, 49, 50, 51, 52, 53, 54, 55, 56, 57, 58, 59, 60, 61, 62, 63, 64, 65, 66, 67, 68, 69, 70, 71, 72, 73, 74, 75, 76, 77, 78, 79, 80, 81, 82, 83, 84, 85, 86, 87, 88, 89, 90, 91, 92, 93, 94] rfl rfl (ws' := (wF cA cQ adF adB adT adH kH adR adO vB vT vH bH vR vO ++ [aI cA zl 41 fl, aI cA zt 16 ft])) rfl (fun H locs hP hD hS => ?_)
      refine lv_ldc (v := (-1000004 : Int32)) hx hb hown (hts (.constant RL 59 (-1000004)) (List.mem_of_getElem? (i := 2) rfl)) dL_areLots_33 ?_
      refine lv_icmp_ne (tgt := 42) hx hb dL_areLots_35 (by decide) (fun c68 => ?_) (fun c68 => ?_)
      · have h := (if_neg c68).symm.trans h
        refine lv_iconst (v := (0 : Int32)) hx hb dL_areLots_42 (by decide) ?_
        refine lv_istore (lv' := [(4, .int (0 : Int32)), (3, .int (0 : Int32)), (0, .ref adF), (1, .ref zl), (2, .ref zt)]) hx hb dL_areLots_43 hl (by decide) rfl (fun ls hl => ?_)
        refine lv_iconst (v := (0 : Int32)) hx hb dL_areLots_45 (by decide) ?_
        refine lv_istore (lv' := [(5, .int (0 : Int32)), (4, .int (0 : Int32)), (3, .int (0 : Int32)), (0, .ref adF), (1, .ref zl), (2, .ref zt)]) hx hb dL_areLots_46 hl (by decide) rfl (fun ls hl => ?_)
        exact B48 FU (0 : Int32) (0 : Int32) (0 : Int32) _ _ _ h hP hD hS (lv_sub hl [3, 4, 5, 2, 1, 0] rfl)
      · have h := (if_pos c68).symm.trans h
        refine lv_iconst (v := (1 : Int32)) hx hb dL_areLots_38 (by decide) ?_
        refine lv_goto (tgt := 43) hx hb dL_areLots_39 (by decide) ?_
        refine lv_istore (lv' := [(4, .int (1 : Int32)), (3, .int (0 : Int32)), (0, .ref adF), (1, .ref zl), (2, .ref zt)]) hx hb dL_areLots_43 hl (by decide) rfl (fun ls hl => ?_)
        refine lv_iconst (v := (0 : Int32)) hx hb dL_areLots_45 (by decide) ?_
        refine lv_istore (lv' := [(5, .int (0 : Int32)), (4, .int (1 : Int32)), (3, .int (0 : Int32)), (0, .ref adF), (1, .ref zl), (2, .ref zt)]) hx hb dL_areLots_46 hl (by decide) rfl (fun ls hl => ?_)
        exact B48 FU (0 : Int32) (1 : Int32) (0 : Int32) _ _ _ h hP hD hS (lv_sub hl [3, 4, 5, 2, 1, 0] rfl)
set_option maxHeartbeats 4000000 in
set_option maxRecDepth 100000 in
theorem c_L_had (l : Launch) (D : va_G) (cA cQ : ClassId) (zl : Nat) (zt : Nat) (fl : Nat → Int32) (ft : Nat → Int32) (p2 : Int32) (o : Int32) (hf : L_had fl ft p2 = some o) : Cti l yL_had wsL_had ({ frames := 1, cells := 0, slots := 0, locals := 20 }) D (TY cA cQ) [.ref zl, .ref zt, .int p2] ([aI cA zl 41 fl, aI cA zt 16 ft] : va_W) ([aI cA zl 41 fl, aI cA zt 16 ft] : va_W) o := by
  refine Wk.i (cc := cL_had) (maxL := 5) (ret := (some .int)) (by decide) rfl (Nat.le_of_ble_eq_true rfl) ?_
  intro p e s m below meth c A ls hx hb hr hlocks hml hown hts hK hN hP hD hA hl
  have hown : s.vm.findClass RL = some m.cls := hown
  have hS : va_S A s.heap s.heap [] := va_S.rf
  have hl : lv_has ls 5 [(0, .ref zl), (1, .ref zt), (2, .int p2)] := hl
  have B5 : ∀ (fu5 : Nat) (x3 : Int32) (x4 : Int32) (H : Heap) (locs : List Loc) (ls : Array Slot), L_had_l5 fl ft p2 fu5 x3 x4 = some o → va_P D vwCl ([aI cA zl 41 fl, aI cA zt 16 ft] : va_W) H → va_D A ([aI cA zl 41 fl, aI cA zt 16 ft] : va_W) → va_S A s.heap H locs → lv_has ls 5 [(0, .ref zl), (1, .ref zt), (2, .int p2), (3, .int x3), (4, .int x4)] → W p l e (headSpec wsL_had ({ frames := 1, cells := 0, slots := 0, locals := 20 })).room s m ([.ref zl, .ref zt, .int p2] : List Value).toArray below meth c H locs 0 0 (MQ below (QI D ([aI cA zl 41 fl, aI cA zt 16 ft] : va_W) o A) ([.ref zl, .ref zt, .int p2] : List Value).toArray s 0 0 A) (F0 m 5 ls []) := by
    intro fu5
    induction fu5 with
    | zero =>
      intro x3 x4 H locs ls h hP hD hS hl
      cases h
    | succ fu5 ih5 =>
      intro x3 x4 H locs ls h hP hD hS hl
      rw [L_had_l5] at h
      refine lv_iload hx hb dL_had_5 (lv_at hl 4 rfl) ?_
      refine lv_aload_n hx hb dL_had_7 rfl (lv_at hl 1 rfl) ?_
      refine lv_iconst (v := (2 : Int32)) hx hb dL_had_8 (by decide) ?_
      obtain ⟨y1, ey1, h⟩ := bd_in h
      refine ldR hx hb hK hP 1 0 rfl rfl ey1 dL_had_9 ?_
      refine lv_icmp_ge (tgt := 44) hx hb dL_had_10 (by decide) (fun c2 => ?_) (fun c2 => ?_)
      · have h := (if_pos c2).symm.trans h
        refine lv_iload_n hx hb dL_had_44 rfl (lv_at hl 3 rfl) ?_
        cases h
        exact endI hx hb hr hlocks hP hS rfl dL_had_45
      · have h := (if_neg c2).symm.trans h
        refine lv_iload_n hx hb dL_had_13 rfl (lv_at hl 3 rfl) ?_
        refine lv_aload_n hx hb dL_had_14 rfl (lv_at hl 0 rfl) ?_
        refine lv_iload hx hb dL_had_15 (lv_at hl 4 rfl) ?_
        obtain ⟨y3, ey3, h⟩ := bd_in h
        refine ldR hx hb hK hP 0 0 rfl rfl ey3 dL_had_17 ?_
        obtain ⟨u4, eu4, h⟩ := bd_in h
        refine kI (va_runS (As := [.int y3]) (rest := [.int x3]) ⟨hx, hb, hml, hown, hts⟩ (c_L_creditor l D cA cQ  y3 u4 eu4 _) (va_cwS 1 hts gL_had_L_creditor rfl rfl rfl (by decide +kernel) ⟨Nat.le_of_ble_eq_true rfl, Nat.le_of_ble_eq_true rfl⟩) (pS hK hN hP hD [] rfl rfl) rfl rfl hl.1 rfl (lv_room (Nat.le_of_ble_eq_true rfl)) dL_had_18 ⟨Nat.zero_le _, Nat.zero_le _⟩) hP hD hS hA [] rfl rfl (ws' := ([aI cA zl 41 fl, aI cA zt 16 ft] : va_W)) rfl (fun H locs hP hD hS => ?_)
        refine lv_iload_n hx hb dL_had_21 rfl (lv_at hl 2 rfl) ?_
        refine lv_icmp_ne (tgt := 35) hx hb dL_had_22 (by decide) (fun c5 => ?_) (fun c5 => ?_)
        · have h := (if_neg c5).symm.trans h
          refine lv_iconst (v := (0 : Int32)) hx hb dL_had_35 (by decide) ?_
          refine lv_iadd hx hb dL_had_36 ?_
          refine lv_istore_n (lv' := [(3, .int (x3 + (0 : Int32))), (0, .ref zl), (1, .ref zt), (2, .int p2), (4, .int x4)]) hx hb dL_had_37 rfl hl (by decide) rfl (fun ls hl => ?_)
          refine lv_iinc (v := (x4 + (1 : Int32))) (lv' := [(4, .int (x4 + (1 : Int32))), (3, .int (x3 + (0 : Int32))), (0, .ref zl), (1, .ref zt), (2, .int p2)]) hx hb dL_had_38 hl (k := 4) rfl rfl (by decide) rfl (fun ls hl => ?_)
          refine lv_goto (tgt := 5) hx hb dL_had_41 (by decide) ?_
          exact ih5 (x3 + (0 : Int32)) (x4 + (1 : Int32)) _ _ _ h hP hD hS (lv_sub hl [2, 3, 4, 1, 0] rfl)
        · have h := (if_pos c5).symm.trans h
          refine lv_aload_n hx hb dL_had_25 rfl (lv_at hl 0 rfl) ?_
          refine lv_iload hx hb dL_had_26 (lv_at hl 4 rfl) ?_
          obtain ⟨y6, ey6, h⟩ := bd_in h
          refine ldR hx hb hK hP 0 0 rfl rfl ey6 dL_had_28 ?_
          obtain ⟨u7, eu7, h⟩ := bd_in h
          refine kI (va_runS (As := [.int y6]) (rest := [.int x3]) ⟨hx, hb, hml, hown, hts⟩ (c_L_many l D cA cQ  y6 u7 eu7 _) (va_cwS 1 hts gL_had_L_many rfl rfl rfl (by decide +kernel) ⟨Nat.le_of_ble_eq_true rfl, Nat.le_of_ble_eq_true rfl⟩) (pS hK hN hP hD [] rfl rfl) rfl rfl hl.1 rfl (lv_room (Nat.le_of_ble_eq_true rfl)) dL_had_29 ⟨Nat.zero_le _, Nat.zero_le _⟩) hP hD hS hA [] rfl rfl (ws' := ([aI cA zl 41 fl, aI cA zt 16 ft] : va_W)) rfl (fun H locs hP hD hS => ?_)
          refine lv_goto (tgt := 36) hx hb dL_had_32 (by decide) ?_
          refine lv_iadd hx hb dL_had_36 ?_
          refine lv_istore_n (lv' := [(3, .int (x3 + u7)), (0, .ref zl), (1, .ref zt), (2, .int p2), (4, .int x4)]) hx hb dL_had_37 rfl hl (by decide) rfl (fun ls hl => ?_)
          refine lv_iinc (v := (x4 + (1 : Int32))) (lv' := [(4, .int (x4 + (1 : Int32))), (3, .int (x3 + u7)), (0, .ref zl), (1, .ref zt), (2, .int p2)]) hx hb dL_had_38 hl (k := 4) rfl rfl (by decide) rfl (fun ls hl => ?_)
          refine lv_goto (tgt := 5) hx hb dL_had_41 (by decide) ?_
          exact ih5 (x3 + u7) (x4 + (1 : Int32)) _ _ _ h hP hD hS (lv_sub hl [2, 3, 4, 1, 0] rfl)
  have h := hf
  unfold L_had at h
  refine lv_iconst (v := (0 : Int32)) hx hb dL_had_0 (by decide) ?_
  refine lv_istore_n (lv' := [(3, .int (0 : Int32)), (0, .ref zl), (1, .ref zt), (2, .int p2)]) hx hb dL_had_1 rfl hl (by decide) rfl (fun ls hl => ?_)
  refine lv_iconst (v := (0 : Int32)) hx hb dL_had_2 (by decide) ?_
  refine lv_istore (lv' := [(4, .int (0 : Int32)), (3, .int (0 : Int32)), (0, .ref zl), (1, .ref zt), (2, .int p2)]) hx hb dL_had_3 hl (by decide) rfl (fun ls hl => ?_)
  exact B5 FU (0 : Int32) (0 : Int32) _ _ _ h hP hD hS (lv_sub hl [2, 3, 4, 1, 0] rfl)
set_option maxHeartbeats 4000000 in
set_option maxRecDepth 100000 in
theorem c_L_owing (l : Launch) (D : va_G) (cA cQ : ClassId) (zl : Nat) (zt : Nat) (fl : Nat → Int32) (ft : Nat → Int32) (p2 : Int32) (o : Int32) (hf : L_owing fl ft p2 = some o) : Cti l yL_owing wsL_owing ({ frames := 1, cells := 0, slots := 0, locals := 20 }) D (TY cA cQ) [.ref zl, .ref zt, .int p2] ([aI cA zl 41 fl, aI cA zt 16 ft] : va_W) ([aI cA zl 41 fl, aI cA zt 16 ft] : va_W) o := by
  refine Wk.i (cc := cL_owing) (maxL := 5) (ret := (some .int)) (by decide) rfl (Nat.le_of_ble_eq_true rfl) ?_
  intro p e s m below meth c A ls hx hb hr hlocks hml hown hts hK hN hP hD hA hl
  have hown : s.vm.findClass RL = some m.cls := hown
  have hS : va_S A s.heap s.heap [] := va_S.rf
  have hl : lv_has ls 5 [(0, .ref zl), (1, .ref zt), (2, .int p2)] := hl
  have B5 : ∀ (fu5 : Nat) (x3 : Int32) (x4 : Int32) (H : Heap) (locs : List Loc) (ls : Array Slot), L_owing_l5 fl ft p2 fu5 x3 x4 = some o → va_P D vwCl ([aI cA zl 41 fl, aI cA zt 16 ft] : va_W) H → va_D A ([aI cA zl 41 fl, aI cA zt 16 ft] : va_W) → va_S A s.heap H locs → lv_has ls 5 [(0, .ref zl), (1, .ref zt), (2, .int p2), (3, .int x3), (4, .int x4)] → W p l e (headSpec wsL_owing ({ frames := 1, cells := 0, slots := 0, locals := 20 })).room s m ([.ref zl, .ref zt, .int p2] : List Value).toArray below meth c H locs 0 0 (MQ below (QI D ([aI cA zl 41 fl, aI cA zt 16 ft] : va_W) o A) ([.ref zl, .ref zt, .int p2] : List Value).toArray s 0 0 A) (F0 m 5 ls []) := by
    intro fu5
    induction fu5 with
    | zero =>
      intro x3 x4 H locs ls h hP hD hS hl
      cases h
    | succ fu5 ih5 =>
      intro x3 x4 H locs ls h hP hD hS hl
      rw [L_owing_l5] at h
      refine lv_iload hx hb dL_owing_5 (lv_at hl 4 rfl) ?_
      refine lv_aload_n hx hb dL_owing_7 rfl (lv_at hl 1 rfl) ?_
      refine lv_iconst (v := (2 : Int32)) hx hb dL_owing_8 (by decide) ?_
      obtain ⟨y1, ey1, h⟩ := bd_in h
      refine ldR hx hb hK hP 1 0 rfl rfl ey1 dL_owing_9 ?_
      refine lv_icmp_ge (tgt := 44) hx hb dL_owing_10 (by decide) (fun c2 => ?_) (fun c2 => ?_)
      · have h := (if_pos c2).symm.trans h
        refine lv_iload_n hx hb dL_owing_44 rfl (lv_at hl 3 rfl) ?_
        cases h
        exact endI hx hb hr hlocks hP hS rfl dL_owing_45
      · have h := (if_neg c2).symm.trans h
        refine lv_iload_n hx hb dL_owing_13 rfl (lv_at hl 3 rfl) ?_
        refine lv_aload_n hx hb dL_owing_14 rfl (lv_at hl 0 rfl) ?_
        refine lv_iload hx hb dL_owing_15 (lv_at hl 4 rfl) ?_
        obtain ⟨y3, ey3, h⟩ := bd_in h
        refine ldR hx hb hK hP 0 0 rfl rfl ey3 dL_owing_17 ?_
        obtain ⟨u4, eu4, h⟩ := bd_in h
        refine kI (va_runS (As := [.int y3]) (rest := [.int x3]) ⟨hx, hb, hml, hown, hts⟩ (c_L_debtor l D cA cQ  y3 u4 eu4 _) (va_cwS 1 hts gL_owing_L_debtor rfl rfl rfl (by decide +kernel) ⟨Nat.le_of_ble_eq_true rfl, Nat.le_of_ble_eq_true rfl⟩) (pS hK hN hP hD [] rfl rfl) rfl rfl hl.1 rfl (lv_room (Nat.le_of_ble_eq_true rfl)) dL_owing_18 ⟨Nat.zero_le _, Nat.zero_le _⟩) hP hD hS hA [] rfl rfl (ws' := ([aI cA zl 41 fl, aI cA zt 16 ft] : va_W)) rfl (fun H locs hP hD hS => ?_)
        refine lv_iload_n hx hb dL_owing_21 rfl (lv_at hl 2 rfl) ?_
        refine lv_icmp_ne (tgt := 35) hx hb dL_owing_22 (by decide) (fun c5 => ?_) (fun c5 => ?_)
        · have h := (if_neg c5).symm.trans h
          refine lv_iconst (v := (0 : Int32)) hx hb dL_owing_35 (by decide) ?_
          refine lv_iadd hx hb dL_owing_36 ?_
          refine lv_istore_n (lv' := [(3, .int (x3 + (0 : Int32))), (0, .ref zl), (1, .ref zt), (2, .int p2), (4, .int x4)]) hx hb dL_owing_37 rfl hl (by decide) rfl (fun ls hl => ?_)
          refine lv_iinc (v := (x4 + (1 : Int32))) (lv' := [(4, .int (x4 + (1 : Int32))), (3, .int (x3 + (0 : Int32))), (0, .ref zl), (1, .ref zt), (2, .int p2)]) hx hb dL_owing_38 hl (k := 4) rfl rfl (by decide) rfl (fun ls hl => ?_)
          refine lv_goto (tgt := 5) hx hb dL_owing_41 (by decide) ?_
          exact ih5 (x3 + (0 : Int32)) (x4 + (1 : Int32)) _ _ _ h hP hD hS (lv_sub hl [2, 3, 4, 1, 0] rfl)
        · have h := (if_pos c5).symm.trans h
          refine lv_aload_n hx hb dL_owing_25 rfl (lv_at hl 0 rfl) ?_
          refine lv_iload hx hb dL_owing_26 (lv_at hl 4 rfl) ?_
          obtain ⟨y6, ey6, h⟩ := bd_in h
          refine ldR hx hb hK hP 0 0 rfl rfl ey6 dL_owing_28 ?_
          obtain ⟨u7, eu7, h⟩ := bd_in h
          refine kI (va_runS (As := [.int y6]) (rest := [.int x3]) ⟨hx, hb, hml, hown, hts⟩ (c_L_many l D cA cQ  y6 u7 eu7 _) (va_cwS 1 hts gL_owing_L_many rfl rfl rfl (by decide +kernel) ⟨Nat.le_of_ble_eq_true rfl, Nat.le_of_ble_eq_true rfl⟩) (pS hK hN hP hD [] rfl rfl) rfl rfl hl.1 rfl (lv_room (Nat.le_of_ble_eq_true rfl)) dL_owing_29 ⟨Nat.zero_le _, Nat.zero_le _⟩) hP hD hS hA [] rfl rfl (ws' := ([aI cA zl 41 fl, aI cA zt 16 ft] : va_W)) rfl (fun H locs hP hD hS => ?_)
          refine lv_goto (tgt := 36) hx hb dL_owing_32 (by decide) ?_
          refine lv_iadd hx hb dL_owing_36 ?_
          refine lv_istore_n (lv' := [(3, .int (x3 + u7)), (0, .ref zl), (1, .ref zt), (2, .int p2), (4, .int x4)]) hx hb dL_owing_37 rfl hl (by decide) rfl (fun ls hl => ?_)
          refine lv_iinc (v := (x4 + (1 : Int32))) (lv' := [(4, .int (x4 + (1 : Int32))), (3, .int (x3 + u7)), (0, .ref zl), (1, .ref zt), (2, .int p2)]) hx hb dL_owing_38 hl (k := 4) rfl rfl (by decide) rfl (fun ls hl => ?_)
          refine lv_goto (tgt := 5) hx hb dL_owing_41 (by decide) ?_
          exact ih5 (x3 + u7) (x4 + (1 : Int32)) _ _ _ h hP hD hS (lv_sub hl [2, 3, 4, 1, 0] rfl)
  have h := hf
  unfold L_owing at h
  refine lv_iconst (v := (0 : Int32)) hx hb dL_owing_0 (by decide) ?_
  refine lv_istore_n (lv' := [(3, .int (0 : Int32)), (0, .ref zl), (1, .ref zt), (2, .int p2)]) hx hb dL_owing_1 rfl hl (by decide) rfl (fun ls hl => ?_)
  refine lv_iconst (v := (0 : Int32)) hx hb dL_owing_2 (by decide) ?_
  refine lv_istore (lv' := [(4, .int (0 : Int32)), (3, .int (0 : Int32)), (0, .ref zl), (1, .ref zt), (2, .int p2)]) hx hb dL_owing_3 hl (by decide) rfl (fun ls hl => ?_)
  exact B5 FU (0 : Int32) (0 : Int32) _ _ _ h hP hD hS (lv_sub hl [2, 3, 4, 1, 0] rfl)
set_option maxHeartbeats 4000000 in
set_option maxRecDepth 100000 in
theorem c_L_why (l : Launch) (D : va_G) (cA cQ : ClassId) (zl : Nat) (zp : Nat) (zt : Nat) (fl : Nat → Int32) (fp : Nat → Int32) (ft : Nat → Int32) (p3 : Int32) (p4 : Int32) (o : Int32) (hf : L_why fl fp ft p3 p4 = some o) : Cti l yL_why wsL_why ({ frames := 2, cells := 0, slots := 0, locals := 44 }) D (TY cA cQ) [.ref zl, .ref zp, .ref zt, .int p3, .int p4] ([aI cA zl 41 fl, aI cA zp 48 fp, aI cA zt 16 ft] : va_W) ([aI cA zl 41 fl, aI cA zp 48 fp, aI cA zt 16 ft] : va_W) o := by
  refine Wk.i (cc := cL_why) (maxL := 5) (ret := (some .int)) (by decide) rfl (Nat.le_of_ble_eq_true rfl) ?_
  intro p e s m below meth c A ls hx hb hr hlocks hml hown hts hK hN hP hD hA hl
  have hown : s.vm.findClass RL = some m.cls := hown
  have hS : va_S A s.heap s.heap [] := va_S.rf
  have hl : lv_has ls 5 [(0, .ref zl), (1, .ref zp), (2, .ref zt), (3, .int p3), (4, .int p4)] := hl
  have h := hf
  unfold L_why at h
  refine lv_aload_n hx hb dL_why_0 rfl (lv_at hl 0 rfl) ?_
  refine lv_aload_n hx hb dL_why_1 rfl (lv_at hl 2 rfl) ?_
  refine lv_iload_n hx hb dL_why_2 rfl (lv_at hl 3 rfl) ?_
  obtain ⟨u1, eu1, h⟩ := bd_in h
  refine kI (va_runS (As := [.ref zl, .ref zt, .int p3]) (rest := []) ⟨hx, hb, hml, hown, hts⟩ (c_L_owing l D cA cQ zl zt fl ft p3 u1 eu1 _) (va_cwS 3 hts gL_why_L_owing rfl rfl rfl (by decide +kernel) ⟨Nat.le_of_ble_eq_true rfl, Nat.le_of_ble_eq_true rfl⟩) (pS hK hN hP hD [0, 2] rfl rfl) rfl rfl hl.1 rfl (lv_room (Nat.le_of_ble_eq_true rfl)) dL_why_3 ⟨Nat.zero_le _, Nat.zero_le _⟩) hP hD hS hA [0, 2] rfl rfl (ws' := ([aI cA zl 41 fl, aI cA zp 48 fp, aI cA zt 16 ft] : va_W)) rfl (fun H locs hP hD hS => ?_)
  refine lv_iload hx hb dL_why_6 (lv_at hl 4 rfl) ?_
  refine lv_iadd hx hb dL_why_8 ?_
  refine lv_aload_n hx hb dL_why_9 rfl (lv_at hl 2 rfl) ?_
  refine lv_bipush (v := (14 : Int32)) hx hb dL_why_10 (by decide) ?_
  obtain ⟨y2, ey2, h⟩ := bd_in h
  refine ldR hx hb hK hP 2 0 rfl rfl ey2 dL_why_12 ?_
  refine lv_icmp_le (tgt := 20) hx hb dL_why_13 (by decide) (fun c3 => ?_) (fun c3 => ?_)
  · have h := (if_pos c3).symm.trans h
    refine lv_aload_n hx hb dL_why_20 rfl (lv_at hl 1 rfl) ?_
    refine lv_bipush (v := (6 : Int32)) hx hb dL_why_21 (by decide) ?_
    refine lv_iload_n hx hb dL_why_23 rfl (lv_at hl 3 rfl) ?_
    refine lv_imul hx hb dL_why_24 ?_
    refine lv_iconst (v := (1 : Int32)) hx hb dL_why_25 (by decide) ?_
    refine lv_iadd hx hb dL_why_26 ?_
    obtain ⟨y4, ey4, h⟩ := bd_in h
    refine ldR hx hb hK hP 1 0 rfl rfl ey4 dL_why_27 ?_
    refine lv_aload_n hx hb dL_why_28 rfl (lv_at hl 2 rfl) ?_
    refine lv_bipush (v := (15 : Int32)) hx hb dL_why_29 (by decide) ?_
    obtain ⟨y5, ey5, h⟩ := bd_in h
    refine ldR hx hb hK hP 2 0 rfl rfl ey5 dL_why_31 ?_
    refine lv_icmp_lt (tgt := 50) hx hb dL_why_32 (by decide) (fun c6 => ?_) (fun c6 => ?_)
    · have h := (if_pos c6).symm.trans h
      refine lv_iconst (v := (0 : Int32)) hx hb dL_why_50 (by decide) ?_
      cases h
      exact endI hx hb hr hlocks hP hS rfl dL_why_51
    · have h := (if_neg c6).symm.trans h
      refine lv_aload_n hx hb dL_why_35 rfl (lv_at hl 1 rfl) ?_
      refine lv_bipush (v := (6 : Int32)) hx hb dL_why_36 (by decide) ?_
      refine lv_iload_n hx hb dL_why_38 rfl (lv_at hl 3 rfl) ?_
      refine lv_imul hx hb dL_why_39 ?_
      refine lv_iconst (v := (2 : Int32)) hx hb dL_why_40 (by decide) ?_
      refine lv_iadd hx hb dL_why_41 ?_
      obtain ⟨y7, ey7, h⟩ := bd_in h
      refine ldR hx hb hK hP 1 0 rfl rfl ey7 dL_why_42 ?_
      refine lv_if_ne (tgt := 50) hx hb dL_why_43 (by decide) (fun c8 => ?_) (fun c8 => ?_)
      · have h := (if_neg c8).symm.trans h
        refine lv_iconst (v := (0 : Int32)) hx hb dL_why_50 (by decide) ?_
        cases h
        exact endI hx hb hr hlocks hP hS rfl dL_why_51
      · have h := (if_pos c8).symm.trans h
        refine lv_iconst (v := (2 : Int32)) hx hb dL_why_46 (by decide) ?_
        refine lv_goto (tgt := 51) hx hb dL_why_47 (by decide) ?_
        cases h
        exact endI hx hb hr hlocks hP hS rfl dL_why_51
  · have h := (if_neg c3).symm.trans h
    refine lv_iconst (v := (1 : Int32)) hx hb dL_why_16 (by decide) ?_
    refine lv_goto (tgt := 51) hx hb dL_why_17 (by decide) ?_
    cases h
    exact endI hx hb hr hlocks hP hS rfl dL_why_51

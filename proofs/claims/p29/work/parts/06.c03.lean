set_option maxHeartbeats 4000000 in
set_option maxRecDepth 100000 in
theorem c_L_isActed (l : Launch) (D : va_G) (cA cQ : ClassId) (adF : Nat) (adB : Nat → Nat) (adT : Nat → Nat) (adH : Nat → Nat) (kH : Nat → Nat → Nat) (adR : Nat → Nat) (adO : Nat → Nat) (zl : Nat) (zp : Nat) (zt : Nat) (zr : Nat) (vB : St) (vT : St) (vH : St) (bH : Nat → St) (vR : St) (vO : St) (fl : Nat → Int32) (fp : Nat → Int32) (ft : Nat → Int32) (fr : Nat → Int32) (p5 : Int32) (p6 : Int32) (o : Int32 × St × St × St × (Nat → St) × St × (Nat → Int32) × (Nat → Int32) × (Nat → Int32) × (Nat → Int32)) (hf : L_isActed vB vT vH bH vR vO fl fp ft fr p5 p6 = some o) : Ctj l yL_isActed wsL_isActed ({ frames := 7, cells := 2001, slots := 16008, locals := 189 }) D (TY cA cQ) [.ref adF, .ref zl, .ref zp, .ref zt, .ref zr, .int p5, .int p6] (wF cA cQ adF adB adT adH kH adR adO vB vT vH bH vR vO ++ [aI cA zl 41 fl, aI cA zp 48 fp, aI cA zt 16 ft, aI cA zr 9 fr]) (wF cA cQ adF adB adT adH kH adR adO o.2.1 o.2.2.1 o.2.2.2.1 o.2.2.2.2.1 o.2.2.2.2.2.1 vO ++ [aI cA zl 41 o.2.2.2.2.2.2.1, aI cA zp 48 o.2.2.2.2.2.2.2.1, aI cA zt 16 o.2.2.2.2.2.2.2.2.1, aI cA zr 9 o.2.2.2.2.2.2.2.2.2]) o.1 2001 16008 := by
  refine Wk.j (cc := cL_isActed) (maxL := 15) (ret := (some .boolean)) (by decide) rfl (Nat.le_of_ble_eq_true rfl) ?_
  intro p e s m below meth c A ls hx hb hr hlocks hml hown hts hK hN hP hD hA hl
  have hown : s.vm.findClass RL = some m.cls := hown
  have hS : va_S A s.heap s.heap [] := va_S.rf
  have hl : lv_has ls 15 [(0, .ref adF), (1, .ref zl), (2, .ref zp), (3, .ref zt), (4, .ref zr), (5, .int p5), (6, .int p6)] := hl
  have B813 : ∀ (N S : Nat) (vB : St) (vT : St) (vH : St) (bH : Nat → St) (vR : St) (fl : Nat → Int32) (fp : Nat → Int32) (ft : Nat → Int32) (fr : Nat → Int32) (x12 : Int32) (x13 : Int32) (H : Heap) (locs : List Loc) (ls : Array Slot), N + 0 ≤ 2001 → S + 8 * 0 ≤ 16008 → L_isActed_b813 vO p5 p6 vB vT vH bH vR fl fp ft fr x12 x13 = some o → va_P D vwCl (wF cA cQ adF adB adT adH kH adR adO vB vT vH bH vR vO ++ [aI cA zl 41 fl, aI cA zp 48 fp, aI cA zt 16 ft, aI cA zr 9 fr]) H → va_D A (wF cA cQ adF adB adT adH kH adR adO vB vT vH bH vR vO ++ [aI cA zl 41 fl, aI cA zp 48 fp, aI cA zt 16 ft, aI cA zr 9 fr]) → va_S A s.heap H locs → lv_has ls 15 [(0, .ref adF), (12, .int x12), (13, .int x13)] → W p l e (headSpec wsL_isActed ({ frames := 7, cells := 2001, slots := 16008, locals := 189 })).room s m ([.ref adF, .ref zl, .ref zp, .ref zt, .ref zr, .int p5, .int p6] : List Value).toArray below meth c H locs N S (MQ below (QI D (wF cA cQ adF adB adT adH kH adR adO o.2.1 o.2.2.1 o.2.2.2.1 o.2.2.2.2.1 o.2.2.2.2.2.1 vO ++ [aI cA zl 41 o.2.2.2.2.2.2.1, aI cA zp 48 o.2.2.2.2.2.2.2.1, aI cA zt 16 o.2.2.2.2.2.2.2.2.1, aI cA zr 9 o.2.2.2.2.2.2.2.2.2]) o.1 A) ([.ref adF, .ref zl, .ref zp, .ref zt, .ref zr, .int p5, .int p6] : List Value).toArray s 2001 16008 A) (F0 m 813 ls []) := by
    intro N S vB vT vH bH vR fl fp ft fr x12 x13 H locs ls hn1 hn2 h hP hD hS hl
    unfold L_isActed_b813 at h
    refine lv_aload_n hx hb dL_isActed_813 rfl (lv_at hl 0 rfl) ?_
    refine lv_iload hx hb dL_isActed_814 (lv_at hl 1 rfl) ?_
    obtain ⟨u1, eu1, h⟩ := bd_in h
    refine kI (va_runV (As := [.int x12]) (rest := []) ⟨hx, hb, hml, hown, hts⟩ (c_X4_weeks l D cA cQ adF adB adT adH kH adR adO vB vT vH bH vR vO x12 u1 eu1 _) (cwV 1 hts gL_isActed_X4_weeks rfl rfl rfl (by decide +kernel) ⟨Nat.le_of_ble_eq_true rfl, Nat.le_of_ble_eq_true rfl⟩) (pV (ci := 4) (q := (RX4, TX4, 5)) hK hN hP hD [0, 1, 2, 3, 4, 5, 6, 7, 8, 9, 10, 11, 12, 13, 14, 15, 16, 17, 18, 19, 20, 21, 22, 23, 24, 25, 26, 27, 28, 29, 30, 31, 32, 33, 34, 35, 36, 37, 38, 39, 40, 41, 42, 43, 44, 45, 46, 47, 48, 49, 50, 51, 52, 53, 54, 55, 56, 57, 58, 59, 60, 61, 62, 63, 64, 65, 66, 67, 68, 69, 70, 71, 72, 73, 74, 75, 76, 77, 78, 79, 80, 81, 82, 83, 84, 85, 86, 87, 88, 89, 90, 91, 92, 93, 94] rfl rfl rfl rfl) rfl rfl hl.1 rfl (lv_room (Nat.le_of_ble_eq_true rfl)) dL_isActed_816 ⟨(by show _ + _ ≤ 2001; omega), (by show _ + _ ≤ 16008; omega)⟩) hP hD hS hA [0, 1, 2, 3, 4, 5, 6, 7, 8, 9, 10, 11, 12, 13, 14, 15, 16, 17, 18, 19, 20, 21, 22, 23, 24, 25, 26, 27, 28, 29, 30, 31, 32, 33, 34, 35, 36, 37, 38, 39, 40, 41, 42, 43, 44, 45, 46, 47, 48, 49, 50, 51, 52, 53, 54, 55, 56, 57, 58, 59, 60, 61, 62, 63, 64, 65, 66, 67, 68, 69, 70, 71, 72, 73, 74, 75, 76, 77, 78, 79, 80, 81, 82, 83, 84, 85, 86, 87, 88, 89, 90, 91, 92, 93, 94] rfl rfl (ws' := (wF cA cQ adF adB adT adH kH adR adO u1.2.1 u1.2.2.1 u1.2.2.2.1 u1.2.2.2.2 vR vO ++ [aI cA zl 41 fl, aI cA zp 48 fp, aI cA zt 16 ft, aI cA zr 9 fr])) rfl (fun H locs hP hD hS => ?_)
    refine lv_iload hx hb dL_isActed_819 (lv_at hl 2 rfl) ?_
    refine lv_icmp_ne (tgt := 828) hx hb dL_isActed_821 (by decide) (fun c2 => ?_) (fun c2 => ?_)
    · have h := (if_neg c2).symm.trans h
      refine lv_iconst (v := (0 : Int32)) hx hb dL_isActed_828 (by decide) ?_
      cases h
      refine W.widen (k := 2001) (n := 16008) (by omega) (by omega) ?_
      exact endZ hx hb hr hlocks hP hS ⟨rfl, rfl⟩ dL_isActed_829
    · have h := (if_pos c2).symm.trans h
      refine lv_iconst (v := (1 : Int32)) hx hb dL_isActed_824 (by decide) ?_
      refine lv_goto (tgt := 829) hx hb dL_isActed_825 (by decide) ?_
      cases h
      refine W.widen (k := 2001) (n := 16008) (by omega) (by omega) ?_
      exact endZ hx hb hr hlocks hP hS ⟨rfl, rfl⟩ dL_isActed_829
  have B789 : ∀ (fu789 : Nat) (N S : Nat) (vB : St) (vT : St) (vH : St) (bH : Nat → St) (vR : St) (fl : Nat → Int32) (fp : Nat → Int32) (ft : Nat → Int32) (fr : Nat → Int32) (x12 : Int32) (x13 : Int32) (x14 : Int32) (H : Heap) (locs : List Loc) (ls : Array Slot), N + 0 ≤ 2001 → S + 8 * 0 ≤ 16008 → L_isActed_l789 vO p5 p6 fu789 vB vT vH bH vR fl fp ft fr x12 x13 x14 = some o → va_P D vwCl (wF cA cQ adF adB adT adH kH adR adO vB vT vH bH vR vO ++ [aI cA zl 41 fl, aI cA zp 48 fp, aI cA zt 16 ft, aI cA zr 9 fr]) H → va_D A (wF cA cQ adF adB adT adH kH adR adO vB vT vH bH vR vO ++ [aI cA zl 41 fl, aI cA zp 48 fp, aI cA zt 16 ft, aI cA zr 9 fr]) → va_S A s.heap H locs → lv_has ls 15 [(0, .ref adF), (1, .ref zl), (2, .ref zp), (3, .ref zt), (12, .int x12), (13, .int x13), (14, .int x14)] → W p l e (headSpec wsL_isActed ({ frames := 7, cells := 2001, slots := 16008, locals := 189 })).room s m ([.ref adF, .ref zl, .ref zp, .ref zt, .ref zr, .int p5, .int p6] : List Value).toArray below meth c H locs N S (MQ below (QI D (wF cA cQ adF adB adT adH kH adR adO o.2.1 o.2.2.1 o.2.2.2.1 o.2.2.2.2.1 o.2.2.2.2.2.1 vO ++ [aI cA zl 41 o.2.2.2.2.2.2.1, aI cA zp 48 o.2.2.2.2.2.2.2.1, aI cA zt 16 o.2.2.2.2.2.2.2.2.1, aI cA zr 9 o.2.2.2.2.2.2.2.2.2]) o.1 A) ([.ref adF, .ref zl, .ref zp, .ref zt, .ref zr, .int p5, .int p6] : List Value).toArray s 2001 16008 A) (F0 m 789 ls []) := by
    intro fu789
    induction fu789 with
    | zero =>
      intro N S vB vT vH bH vR fl fp ft fr x12 x13 x14 H locs ls hn1 hn2 h hP hD hS hl
      cases h
    | succ fu789 ih789 =>
      intro N S vB vT vH bH vR fl fp ft fr x12 x13 x14 H locs ls hn1 hn2 h hP hD hS hl
      rw [L_isActed_l789] at h
      refine lv_iload hx hb dL_isActed_789 (lv_at hl 6 rfl) ?_
      refine lv_iload hx hb dL_isActed_791 (lv_at hl 4 rfl) ?_
      refine lv_icmp_ge (tgt := 813) hx hb dL_isActed_793 (by decide) (fun c3 => ?_) (fun c3 => ?_)
      · have h := (if_pos c3).symm.trans h
        exact B813 _ _ vB vT vH bH vR fl fp ft fr x12 x13 _ _ _ (by first | omega | (unfold FU; omega)) (by first | omega | (unfold FU; omega)) h hP hD hS (lv_sub hl [0, 4, 5] rfl)
      · have h := (if_neg c3).symm.trans h
        refine lv_iload hx hb dL_isActed_796 (lv_at hl 5 rfl) ?_
        refine lv_aload_n hx hb dL_isActed_798 rfl (lv_at hl 1 rfl) ?_
        refine lv_aload_n hx hb dL_isActed_799 rfl (lv_at hl 2 rfl) ?_
        refine lv_aload_n hx hb dL_isActed_800 rfl (lv_at hl 3 rfl) ?_
        obtain ⟨u4, eu4, h⟩ := bd_in h
        refine kI (va_runS (As := [.ref zl, .ref zp, .ref zt]) (rest := [.int x13]) ⟨hx, hb, hml, hown, hts⟩ (c_L_week l D cA cQ zl zp zt fl fp ft u4 eu4 _) (va_cwS 3 hts gL_isActed_L_week rfl rfl rfl (by decide +kernel) ⟨Nat.le_of_ble_eq_true rfl, Nat.le_of_ble_eq_true rfl⟩) (pS hK hN hP hD [95, 96, 97] rfl rfl) rfl rfl hl.1 rfl (lv_room (Nat.le_of_ble_eq_true rfl)) dL_isActed_801 ⟨(by show _ + _ ≤ 2001; omega), (by show _ + _ ≤ 16008; omega)⟩) hP hD hS hA [95, 96, 97] rfl rfl (ws' := (wF cA cQ adF adB adT adH kH adR adO vB vT vH bH vR vO ++ [aI cA zl 41 u4.2.1, aI cA zp 48 u4.2.2.1, aI cA zt 16 u4.2.2.2, aI cA zr 9 fr])) rfl (fun H locs hP hD hS => ?_)
        refine lv_iadd hx hb dL_isActed_804 ?_
        refine lv_istore (lv' := [(13, .int (x13 + u4.1)), (0, .ref adF), (1, .ref zl), (2, .ref zp), (3, .ref zt), (12, .int x12), (14, .int x14)]) hx hb dL_isActed_805 hl (by decide) rfl (fun ls hl => ?_)
        refine lv_iinc (v := (x14 + (1 : Int32))) (lv' := [(14, .int (x14 + (1 : Int32))), (13, .int (x13 + u4.1)), (0, .ref adF), (1, .ref zl), (2, .ref zp), (3, .ref zt), (12, .int x12)]) hx hb dL_isActed_807 hl (k := 6) rfl rfl (by decide) rfl (fun ls hl => ?_)
        refine lv_goto (tgt := 789) hx hb dL_isActed_810 (by decide) ?_
        exact ih789 _ _ vB vT vH bH vR u4.2.1 u4.2.2.1 u4.2.2.2 fr x12 (x13 + u4.1) (x14 + (1 : Int32)) _ _ _ (by first | omega | (unfold FU; omega)) (by first | omega | (unfold FU; omega)) h hP hD hS (lv_sub hl [2, 3, 4, 5, 6, 1, 0] rfl)
  have B761 : ∀ (N S : Nat) (vB : St) (vT : St) (vH : St) (bH : Nat → St) (vR : St) (fl : Nat → Int32) (fp : Nat → Int32) (ft : Nat → Int32) (fr : Nat → Int32) (x12 : Int32) (t1 : Int32) (H : Heap) (locs : List Loc) (ls : Array Slot), N + 0 ≤ 2001 → S + 8 * 0 ≤ 16008 → L_isActed_b761 vO p5 p6 vB vT vH bH vR fl fp ft fr x12 t1 = some o → va_P D vwCl (wF cA cQ adF adB adT adH kH adR adO vB vT vH bH vR vO ++ [aI cA zl 41 fl, aI cA zp 48 fp, aI cA zt 16 ft, aI cA zr 9 fr]) H → va_D A (wF cA cQ adF adB adT adH kH adR adO vB vT vH bH vR vO ++ [aI cA zl 41 fl, aI cA zp 48 fp, aI cA zt 16 ft, aI cA zr 9 fr]) → va_S A s.heap H locs → lv_has ls 15 [(12, .int x12)] → W p l e (headSpec wsL_isActed ({ frames := 7, cells := 2001, slots := 16008, locals := 189 })).room s m ([.ref adF, .ref zl, .ref zp, .ref zt, .ref zr, .int p5, .int p6] : List Value).toArray below meth c H locs N S (MQ below (QI D (wF cA cQ adF adB adT adH kH adR adO o.2.1 o.2.2.1 o.2.2.2.1 o.2.2.2.2.1 o.2.2.2.2.2.1 vO ++ [aI cA zl 41 o.2.2.2.2.2.2.1, aI cA zp 48 o.2.2.2.2.2.2.2.1, aI cA zt 16 o.2.2.2.2.2.2.2.2.1, aI cA zr 9 o.2.2.2.2.2.2.2.2.2]) o.1 A) ([.ref adF, .ref zl, .ref zp, .ref zt, .ref zr, .int p5, .int p6] : List Value).toArray s 2001 16008 A) (F0 m 761 ls [.int t1, .ref adF]) := by
    intro N S vB vT vH bH vR fl fp ft fr x12 t1 H locs ls hn1 hn2 h hP hD hS hl
    unfold L_isActed_b761 at h
    obtain ⟨u5, eu5, h⟩ := bd_in h
    refine kI (va_runV (As := [.int t1]) (rest := []) ⟨hx, hb, hml, hown, hts⟩ (c_X4_holiday l D cA cQ adF adB adT adH kH adR adO vB vT vH bH vR vO t1 u5 eu5 _) (cwV 1 hts gL_isActed_X4_holiday rfl rfl rfl (by decide +kernel) ⟨Nat.le_of_ble_eq_true rfl, Nat.le_of_ble_eq_true rfl⟩) (pV (ci := 4) (q := (RX4, TX4, 5)) hK hN hP hD [0, 1, 2, 3, 4, 5, 6, 7, 8, 9, 10, 11, 12, 13, 14, 15, 16, 17, 18, 19, 20, 21, 22, 23, 24, 25, 26, 27, 28, 29, 30, 31, 32, 33, 34, 35, 36, 37, 38, 39, 40, 41, 42, 43, 44, 45, 46, 47, 48, 49, 50, 51, 52, 53, 54, 55, 56, 57, 58, 59, 60, 61, 62, 63, 64, 65, 66, 67, 68, 69, 70, 71, 72, 73, 74, 75, 76, 77, 78, 79, 80, 81, 82, 83, 84, 85, 86, 87, 88, 89, 90, 91, 92, 93, 94] rfl rfl rfl rfl) rfl rfl hl.1 rfl (lv_room (Nat.le_of_ble_eq_true rfl)) dL_isActed_761 ⟨(by show _ + _ ≤ 2001; omega), (by show _ + _ ≤ 16008; omega)⟩) hP hD hS hA [0, 1, 2, 3, 4, 5, 6, 7, 8, 9, 10, 11, 12, 13, 14, 15, 16, 17, 18, 19, 20, 21, 22, 23, 24, 25, 26, 27, 28, 29, 30, 31, 32, 33, 34, 35, 36, 37, 38, 39, 40, 41, 42, 43, 44, 45, 46, 47, 48, 49, 50, 51, 52, 53, 54, 55, 56, 57, 58, 59, 60, 61, 62, 63, 64, 65, 66, 67, 68, 69, 70, 71, 72, 73, 74, 75, 76, 77, 78, 79, 80, 81, 82, 83, 84, 85, 86, 87, 88, 89, 90, 91, 92, 93, 94] rfl rfl (ws' := (wF cA cQ adF adB adT adH kH adR adO u5.2.1 u5.2.2.1 u5.2.2.2.1 u5.2.2.2.2 vR vO ++ [aI cA zl 41 fl, aI cA zp 48 fp, aI cA zt 16 ft, aI cA zr 9 fr])) rfl (fun H locs hP hD hS => ?_)
    refine lv_iload hx hb dL_isActed_764 (lv_at hl 0 rfl) ?_
    refine lv_icmp_ne (tgt := 773) hx hb dL_isActed_766 (by decide) (fun c6 => ?_) (fun c6 => ?_)
    · have h := (if_neg c6).symm.trans h
      refine lv_iconst (v := (0 : Int32)) hx hb dL_isActed_773 (by decide) ?_
      cases h
      refine W.widen (k := 2001) (n := 16008) (by omega) (by omega) ?_
      exact endZ hx hb hr hlocks hP hS ⟨rfl, rfl⟩ dL_isActed_774
    · have h := (if_pos c6).symm.trans h
      refine lv_iconst (v := (1 : Int32)) hx hb dL_isActed_769 (by decide) ?_
      refine lv_goto (tgt := 774) hx hb dL_isActed_770 (by decide) ?_
      cases h
      refine W.widen (k := 2001) (n := 16008) (by omega) (by omega) ?_
      exact endZ hx hb hr hlocks hP hS ⟨rfl, rfl⟩ dL_isActed_774
  have B747 : ∀ (N S : Nat) (vB : St) (vT : St) (vH : St) (bH : Nat → St) (vR : St) (fl : Nat → Int32) (fp : Nat → Int32) (ft : Nat → Int32) (fr : Nat → Int32) (x12 : Int32) (t1 : Int32) (t2 : Int32) (H : Heap) (locs : List Loc) (ls : Array Slot), N + 0 ≤ 2001 → S + 8 * 0 ≤ 16008 → L_isActed_b747 vO p5 p6 vB vT vH bH vR fl fp ft fr x12 t1 t2 = some o → va_P D vwCl (wF cA cQ adF adB adT adH kH adR adO vB vT vH bH vR vO ++ [aI cA zl 41 fl, aI cA zp 48 fp, aI cA zt 16 ft, aI cA zr 9 fr]) H → va_D A (wF cA cQ adF adB adT adH kH adR adO vB vT vH bH vR vO ++ [aI cA zl 41 fl, aI cA zp 48 fp, aI cA zt 16 ft, aI cA zr 9 fr]) → va_S A s.heap H locs → lv_has ls 15 [(0, .ref adF), (6, .int p6), (12, .int x12)] → W p l e (headSpec wsL_isActed ({ frames := 7, cells := 2001, slots := 16008, locals := 189 })).room s m ([.ref adF, .ref zl, .ref zp, .ref zt, .ref zr, .int p5, .int p6] : List Value).toArray below meth c H locs N S (MQ below (QI D (wF cA cQ adF adB adT adH kH adR adO o.2.1 o.2.2.1 o.2.2.2.1 o.2.2.2.2.1 o.2.2.2.2.2.1 vO ++ [aI cA zl 41 o.2.2.2.2.2.2.1, aI cA zp 48 o.2.2.2.2.2.2.2.1, aI cA zt 16 o.2.2.2.2.2.2.2.2.1, aI cA zr 9 o.2.2.2.2.2.2.2.2.2]) o.1 A) ([.ref adF, .ref zl, .ref zp, .ref zt, .ref zr, .int p5, .int p6] : List Value).toArray s 2001 16008 A) (F0 m 747 ls [.int t2, .int t1, .ref zt]) := by
    intro N S vB vT vH bH vR fl fp ft fr x12 t1 t2 H locs ls hn1 hn2 h hP hD hS hl
    unfold L_isActed_b747 at h
    obtain ⟨g7, eg7, h⟩ := bd_in h
    refine stR hx hb hK hP hD hS 97 0 rfl rfl eg7 (ws' := (wF cA cQ adF adB adT adH kH adR adO vB vT vH bH vR vO ++ [aI cA zl 41 fl, aI cA zp 48 fp, aI cA zt 16 g7, aI cA zr 9 fr])) rfl dL_isActed_747 (fun H locs hP hD hS => ?_)
    refine lv_aload_n hx hb dL_isActed_748 rfl (lv_at hl 0 rfl) ?_
    refine lv_iload hx hb dL_isActed_749 (lv_at hl 1 rfl) ?_
    refine lv_iconst (v := (3 : Int32)) hx hb dL_isActed_751 (by decide) ?_
    obtain ⟨r8, er8, h⟩ := bd_in h
    refine rmR hx hb er8 dL_isActed_752 ?_
    refine lv_if_ne (tgt := 760) hx hb dL_isActed_753 (by decide) (fun c9 => ?_) (fun c9 => ?_)
    · have h := (if_neg c9).symm.trans h
      refine lv_iconst (v := (0 : Int32)) hx hb dL_isActed_760 (by decide) ?_
      exact B761 _ _ vB vT vH bH vR fl fp g7 fr x12 (0 : Int32) _ _ _ (by first | omega | (unfold FU; omega)) (by first | omega | (unfold FU; omega)) h hP hD hS (lv_sub hl [2] rfl)
    · have h := (if_pos c9).symm.trans h
      refine lv_iconst (v := (1 : Int32)) hx hb dL_isActed_756 (by decide) ?_
      refine lv_goto (tgt := 761) hx hb dL_isActed_757 (by decide) ?_
      exact B761 _ _ vB vT vH bH vR fl fp g7 fr x12 (1 : Int32) _ _ _ (by first | omega | (unfold FU; omega)) (by first | omega | (unfold FU; omega)) h hP hD hS (lv_sub hl [2] rfl)
  have B680 : ∀ (N S : Nat) (vB : St) (vT : St) (vH : St) (bH : Nat → St) (vR : St) (fl : Nat → Int32) (fp : Nat → Int32) (ft : Nat → Int32) (fr : Nat → Int32) (x12 : Int32) (t0 : Int32) (H : Heap) (locs : List Loc) (ls : Array Slot), N + 0 ≤ 2001 → S + 8 * 0 ≤ 16008 → L_isActed_b680 vO p5 p6 vB vT vH bH vR fl fp ft fr x12 t0 = some o → va_P D vwCl (wF cA cQ adF adB adT adH kH adR adO vB vT vH bH vR vO ++ [aI cA zl 41 fl, aI cA zp 48 fp, aI cA zt 16 ft, aI cA zr 9 fr]) H → va_D A (wF cA cQ adF adB adT adH kH adR adO vB vT vH bH vR vO ++ [aI cA zl 41 fl, aI cA zp 48 fp, aI cA zt 16 ft, aI cA zr 9 fr]) → va_S A s.heap H locs → lv_has ls 15 [(0, .ref adF), (3, .ref zt), (12, .int x12)] → W p l e (headSpec wsL_isActed ({ frames := 7, cells := 2001, slots := 16008, locals := 189 })).room s m ([.ref adF, .ref zl, .ref zp, .ref zt, .ref zr, .int p5, .int p6] : List Value).toArray below meth c H locs N S (MQ below (QI D (wF cA cQ adF adB adT adH kH adR adO o.2.1 o.2.2.1 o.2.2.2.1 o.2.2.2.2.1 o.2.2.2.2.2.1 vO ++ [aI cA zl 41 o.2.2.2.2.2.2.1, aI cA zp 48 o.2.2.2.2.2.2.2.1, aI cA zt 16 o.2.2.2.2.2.2.2.2.1, aI cA zr 9 o.2.2.2.2.2.2.2.2.2]) o.1 A) ([.ref adF, .ref zl, .ref zp, .ref zt, .ref zr, .int p5, .int p6] : List Value).toArray s 2001 16008 A) (F0 m 680 ls [.int t0]) := by
    intro N S vB vT vH bH vR fl fp ft fr x12 t0 H locs ls hn1 hn2 h hP hD hS hl
    unfold L_isActed_b680 at h
    refine lv_istore (lv' := [(13, .int t0), (0, .ref adF), (3, .ref zt), (12, .int x12)]) hx hb dL_isActed_680 hl (by decide) rfl (fun ls hl => ?_)
    refine lv_aload_n hx hb dL_isActed_682 rfl (lv_at hl 2 rfl) ?_
    refine lv_bipush (v := (10 : Int32)) hx hb dL_isActed_683 (by decide) ?_
    refine lv_iload hx hb dL_isActed_685 (lv_at hl 3 rfl) ?_
    refine lv_iadd hx hb dL_isActed_687 ?_
    obtain ⟨y10, ey10, h⟩ := bd_in h
    refine ldR hx hb hK hP 97 0 rfl rfl ey10 dL_isActed_688 ?_
    refine lv_istore (lv' := [(14, .int y10), (13, .int t0), (0, .ref adF), (3, .ref zt), (12, .int x12)]) hx hb dL_isActed_689 hl (by decide) rfl (fun ls hl => ?_)
    refine lv_aload_n hx hb dL_isActed_691 rfl (lv_at hl 3 rfl) ?_
    refine lv_bipush (v := (10 : Int32)) hx hb dL_isActed_692 (by decide) ?_
    refine lv_iload hx hb dL_isActed_694 (lv_at hl 4 rfl) ?_
    refine lv_iadd hx hb dL_isActed_696 ?_
    refine lv_iload hx hb dL_isActed_697 (lv_at hl 1 rfl) ?_
    obtain ⟨g11, eg11, h⟩ := bd_in h
    refine stR hx hb hK hP hD hS 97 0 rfl rfl eg11 (ws' := (wF cA cQ adF adB adT adH kH adR adO vB vT vH bH vR vO ++ [aI cA zl 41 fl, aI cA zp 48 fp, aI cA zt 16 g11, aI cA zr 9 fr])) rfl dL_isActed_699 (fun H locs hP hD hS => ?_)
    refine lv_aload_n hx hb dL_isActed_700 rfl (lv_at hl 2 rfl) ?_
    refine lv_iload hx hb dL_isActed_701 (lv_at hl 4 rfl) ?_
    refine lv_iload hx hb dL_isActed_703 (lv_at hl 1 rfl) ?_
    obtain ⟨u12, eu12, h⟩ := bd_in h
    refine kI (va_runV (As := [.int x12, .int t0]) (rest := []) ⟨hx, hb, hml, hown, hts⟩ (c_X4_set l D cA cQ adF adB adT adH kH adR adO vB vT vH bH vR vO x12 t0 u12 eu12 _) (cwV 2 hts gL_isActed_X4_set rfl rfl rfl (by decide +kernel) ⟨Nat.le_of_ble_eq_true rfl, Nat.le_of_ble_eq_true rfl⟩) (pV (ci := 4) (q := (RX4, TX4, 5)) hK hN hP hD [0, 1, 2, 3, 4, 5, 6, 7, 8, 9, 10, 11, 12, 13, 14, 15, 16, 17, 18, 19, 20, 21, 22, 23, 24, 25, 26, 27, 28, 29, 30, 31, 32, 33, 34, 35, 36, 37, 38, 39, 40, 41, 42, 43, 44, 45, 46, 47, 48, 49, 50, 51, 52, 53, 54, 55, 56, 57, 58, 59, 60, 61, 62, 63, 64, 65, 66, 67, 68, 69, 70, 71, 72, 73, 74, 75, 76, 77, 78, 79, 80, 81, 82, 83, 84, 85, 86, 87, 88, 89, 90, 91, 92, 93, 94] rfl rfl rfl rfl) rfl rfl hl.1 rfl (lv_room (Nat.le_of_ble_eq_true rfl)) dL_isActed_705 ⟨(by show _ + _ ≤ 2001; omega), (by show _ + _ ≤ 16008; omega)⟩) hP hD hS hA [0, 1, 2, 3, 4, 5, 6, 7, 8, 9, 10, 11, 12, 13, 14, 15, 16, 17, 18, 19, 20, 21, 22, 23, 24, 25, 26, 27, 28, 29, 30, 31, 32, 33, 34, 35, 36, 37, 38, 39, 40, 41, 42, 43, 44, 45, 46, 47, 48, 49, 50, 51, 52, 53, 54, 55, 56, 57, 58, 59, 60, 61, 62, 63, 64, 65, 66, 67, 68, 69, 70, 71, 72, 73, 74, 75, 76, 77, 78, 79, 80, 81, 82, 83, 84, 85, 86, 87, 88, 89, 90, 91, 92, 93, 94] rfl rfl (ws' := (wF cA cQ adF adB adT adH kH adR adO u12.2.1 u12.2.2.1 u12.2.2.2.1 u12.2.2.2.2 vR vO ++ [aI cA zl 41 fl, aI cA zp 48 fp, aI cA zt 16 g11, aI cA zr 9 fr])) rfl (fun H locs hP hD hS => ?_)
    refine lv_iload hx hb dL_isActed_708 (lv_at hl 0 rfl) ?_
    refine lv_icmp_ne (tgt := 717) hx hb dL_isActed_710 (by decide) (fun c13 => ?_) (fun c13 => ?_)
    · have h := (if_neg c13).symm.trans h
      refine lv_iconst (v := (0 : Int32)) hx hb dL_isActed_717 (by decide) ?_
      cases h
      refine W.widen (k := 2001) (n := 16008) (by omega) (by omega) ?_
      exact endZ hx hb hr hlocks hP hS ⟨rfl, rfl⟩ dL_isActed_718
    · have h := (if_pos c13).symm.trans h
      refine lv_iconst (v := (1 : Int32)) hx hb dL_isActed_713 (by decide) ?_
      refine lv_goto (tgt := 718) hx hb dL_isActed_714 (by decide) ?_
      cases h
      refine W.widen (k := 2001) (n := 16008) (by omega) (by omega) ?_
      exact endZ hx hb hr hlocks hP hS ⟨rfl, rfl⟩ dL_isActed_718
  have B606 : ∀ (N S : Nat) (vB : St) (vT : St) (vH : St) (bH : Nat → St) (vR : St) (fl : Nat → Int32) (fp : Nat → Int32) (ft : Nat → Int32) (fr : Nat → Int32) (t0 : Int32) (H : Heap) (locs : List Loc) (ls : Array Slot), N + 2001 ≤ 2001 → S + 8 * 2001 ≤ 16008 → L_isActed_b606 vO p5 p6 vB vT vH bH vR fl fp ft fr t0 = some o → va_P D vwCl (wF cA cQ adF adB adT adH kH adR adO vB vT vH bH vR vO ++ [aI cA zl 41 fl, aI cA zp 48 fp, aI cA zt 16 ft, aI cA zr 9 fr]) H → va_D A (wF cA cQ adF adB adT adH kH adR adO vB vT vH bH vR vO ++ [aI cA zl 41 fl, aI cA zp 48 fp, aI cA zt 16 ft, aI cA zr 9 fr]) → va_S A s.heap H locs → lv_has ls 15 [(0, .ref adF), (1, .ref zl), (2, .ref zp), (3, .ref zt), (4, .ref zr)] → W p l e (headSpec wsL_isActed ({ frames := 7, cells := 2001, slots := 16008, locals := 189 })).room s m ([.ref adF, .ref zl, .ref zp, .ref zt, .ref zr, .int p5, .int p6] : List Value).toArray below meth c H locs N S (MQ below (QI D (wF cA cQ adF adB adT adH kH adR adO o.2.1 o.2.2.1 o.2.2.2.1 o.2.2.2.2.1 o.2.2.2.2.2.1 vO ++ [aI cA zl 41 o.2.2.2.2.2.2.1, aI cA zp 48 o.2.2.2.2.2.2.2.1, aI cA zt 16 o.2.2.2.2.2.2.2.2.1, aI cA zr 9 o.2.2.2.2.2.2.2.2.2]) o.1 A) ([.ref adF, .ref zl, .ref zp, .ref zt, .ref zr, .int p5, .int p6] : List Value).toArray s 2001 16008 A) (F0 m 606 ls [.int t0]) := by
    intro N S vB vT vH bH vR fl fp ft fr t0 H locs ls hn1 hn2 h hP hD hS hl
    unfold L_isActed_b606 at h
    refine lv_istore (lv' := [(12, .int t0), (0, .ref adF), (1, .ref zl), (2, .ref zp), (3, .ref zt), (4, .ref zr)]) hx hb dL_isActed_606 hl (by decide) rfl (fun ls hl => ?_)
    refine lv_aload_n hx hb dL_isActed_608 rfl (lv_at hl 2 rfl) ?_
    refine lv_aload_n hx hb dL_isActed_609 rfl (lv_at hl 3 rfl) ?_
    refine lv_aload_n hx hb dL_isActed_610 rfl (lv_at hl 4 rfl) ?_
    refine lv_aload hx hb dL_isActed_611 (lv_at hl 5 rfl) ?_
    refine lv_iload hx hb dL_isActed_613 (lv_at hl 0 rfl) ?_
    obtain ⟨u14, eu14, h⟩ := bd_in h
    refine kJ (va_runS (As := [.ref zl, .ref zp, .ref zt, .ref zr, .int t0]) (rest := []) ⟨hx, hb, hml, hown, hts⟩ (c_L_clear l D cA cQ zl zp zt zr fl fp ft fr t0 u14 eu14 _) (va_cwS 5 hts gL_isActed_L_clear rfl rfl rfl (by decide +kernel) ⟨Nat.le_of_ble_eq_true rfl, Nat.le_of_ble_eq_true rfl⟩) (pS hK hN hP hD [95, 96, 97, 98] rfl rfl) rfl rfl hl.1 rfl (lv_room (Nat.le_of_ble_eq_true rfl)) dL_isActed_615 ⟨(by show _ + _ ≤ 2001; omega), (by show _ + _ ≤ 16008; omega)⟩) hP hD hS hA [95, 96, 97, 98] rfl rfl (ws' := (wF cA cQ adF adB adT adH kH adR adO vB vT vH bH vR vO ++ [aI cA zl 41 u14.2.1, aI cA zp 48 u14.2.2.1, aI cA zt 16 u14.2.2.2.1, aI cA zr 9 u14.2.2.2.2])) rfl (fun H locs hP hD hS => ?_)
    refine lv_istore (lv' := [(13, .int u14.1), (12, .int t0), (0, .ref adF), (1, .ref zl), (2, .ref zp), (3, .ref zt), (4, .ref zr)]) hx hb dL_isActed_618 hl (by decide) rfl (fun ls hl => ?_)
    refine lv_aload_n hx hb dL_isActed_620 rfl (lv_at hl 2 rfl) ?_
    refine lv_iload hx hb dL_isActed_621 (lv_at hl 1 rfl) ?_
    obtain ⟨u15, eu15, h⟩ := bd_in h
    refine kI (va_runV (As := [.int t0]) (rest := []) ⟨hx, hb, hml, hown, hts⟩ (c_X4_clear l D cA cQ adF adB adT adH kH adR adO vB vT vH bH vR vO t0 u15 eu15 _) (cwV 1 hts gL_isActed_X4_clear rfl rfl rfl (by decide +kernel) ⟨Nat.le_of_ble_eq_true rfl, Nat.le_of_ble_eq_true rfl⟩) (pV (ci := 4) (q := (RX4, TX4, 5)) hK hN hP hD [0, 1, 2, 3, 4, 5, 6, 7, 8, 9, 10, 11, 12, 13, 14, 15, 16, 17, 18, 19, 20, 21, 22, 23, 24, 25, 26, 27, 28, 29, 30, 31, 32, 33, 34, 35, 36, 37, 38, 39, 40, 41, 42, 43, 44, 45, 46, 47, 48, 49, 50, 51, 52, 53, 54, 55, 56, 57, 58, 59, 60, 61, 62, 63, 64, 65, 66, 67, 68, 69, 70, 71, 72, 73, 74, 75, 76, 77, 78, 79, 80, 81, 82, 83, 84, 85, 86, 87, 88, 89, 90, 91, 92, 93, 94] rfl rfl rfl rfl) rfl rfl hl.1 rfl (lv_room (Nat.le_of_ble_eq_true rfl)) dL_isActed_623 ⟨(by show _ + _ ≤ 2001; omega), (by show _ + _ ≤ 16008; omega)⟩) hP hD hS hA [0, 1, 2, 3, 4, 5, 6, 7, 8, 9, 10, 11, 12, 13, 14, 15, 16, 17, 18, 19, 20, 21, 22, 23, 24, 25, 26, 27, 28, 29, 30, 31, 32, 33, 34, 35, 36, 37, 38, 39, 40, 41, 42, 43, 44, 45, 46, 47, 48, 49, 50, 51, 52, 53, 54, 55, 56, 57, 58, 59, 60, 61, 62, 63, 64, 65, 66, 67, 68, 69, 70, 71, 72, 73, 74, 75, 76, 77, 78, 79, 80, 81, 82, 83, 84, 85, 86, 87, 88, 89, 90, 91, 92, 93, 94] rfl rfl (ws' := (wF cA cQ adF adB adT adH kH adR adO u15.2.1 u15.2.2.1 u15.2.2.2.1 u15.2.2.2.2.1 u15.2.2.2.2.2 vO ++ [aI cA zl 41 u14.2.1, aI cA zp 48 u14.2.2.1, aI cA zt 16 u14.2.2.2.1, aI cA zr 9 u14.2.2.2.2])) rfl (fun H locs hP hD hS => ?_)
    refine lv_iload hx hb dL_isActed_626 (lv_at hl 0 rfl) ?_
    refine lv_icmp_ne (tgt := 635) hx hb dL_isActed_628 (by decide) (fun c16 => ?_) (fun c16 => ?_)
    · have h := (if_neg c16).symm.trans h
      refine lv_iconst (v := (0 : Int32)) hx hb dL_isActed_635 (by decide) ?_
      cases h
      refine W.widen (k := 2001) (n := 16008) (by omega) (by omega) ?_
      exact endZ hx hb hr hlocks hP hS ⟨rfl, rfl⟩ dL_isActed_636
    · have h := (if_pos c16).symm.trans h
      refine lv_iconst (v := (1 : Int32)) hx hb dL_isActed_631 (by decide) ?_
      refine lv_goto (tgt := 636) hx hb dL_isActed_632 (by decide) ?_
      cases h
      refine W.widen (k := 2001) (n := 16008) (by omega) (by omega) ?_
      exact endZ hx hb hr hlocks hP hS ⟨rfl, rfl⟩ dL_isActed_636
  have B569 : ∀ (N S : Nat) (vB : St) (vT : St) (vH : St) (bH : Nat → St) (vR : St) (fl : Nat → Int32) (fp : Nat → Int32) (ft : Nat → Int32) (fr : Nat → Int32) (x13 : Int32) (t1 : Int32) (t2 : Int32) (H : Heap) (locs : List Loc) (ls : Array Slot), N + 0 ≤ 2001 → S + 8 * 0 ≤ 16008 → L_isActed_b569 vO p5 p6 vB vT vH bH vR fl fp ft fr x13 t1 t2 = some o → va_P D vwCl (wF cA cQ adF adB adT adH kH adR adO vB vT vH bH vR vO ++ [aI cA zl 41 fl, aI cA zp 48 fp, aI cA zt 16 ft, aI cA zr 9 fr]) H → va_D A (wF cA cQ adF adB adT adH kH adR adO vB vT vH bH vR vO ++ [aI cA zl 41 fl, aI cA zp 48 fp, aI cA zt 16 ft, aI cA zr 9 fr]) → va_S A s.heap H locs → lv_has ls 15 [(13, .int x13)] → W p l e (headSpec wsL_isActed ({ frames := 7, cells := 2001, slots := 16008, locals := 189 })).room s m ([.ref adF, .ref zl, .ref zp, .ref zt, .ref zr, .int p5, .int p6] : List Value).toArray below meth c H locs N S (MQ below (QI D (wF cA cQ adF adB adT adH kH adR adO o.2.1 o.2.2.1 o.2.2.2.1 o.2.2.2.2.1 o.2.2.2.2.2.1 vO ++ [aI cA zl 41 o.2.2.2.2.2.2.1, aI cA zp 48 o.2.2.2.2.2.2.2.1, aI cA zt 16 o.2.2.2.2.2.2.2.2.1, aI cA zr 9 o.2.2.2.2.2.2.2.2.2]) o.1 A) ([.ref adF, .ref zl, .ref zp, .ref zt, .ref zr, .int p5, .int p6] : List Value).toArray s 2001 16008 A) (F0 m 569 ls [.int t2, .int t1, .ref adF]) := by
    intro N S vB vT vH bH vR fl fp ft fr x13 t1 t2 H locs ls hn1 hn2 h hP hD hS hl
    unfold L_isActed_b569 at h
    obtain ⟨u17, eu17, h⟩ := bd_in h
    refine kI (va_runV (As := [.int t1, .int t2]) (rest := []) ⟨hx, hb, hml, hown, hts⟩ (c_X4_guarantee l D cA cQ adF adB adT adH kH adR adO vB vT vH bH vR vO t1 t2 u17 eu17 _) (cwV 2 hts gL_isActed_X4_guarantee rfl rfl rfl (by decide +kernel) ⟨Nat.le_of_ble_eq_true rfl, Nat.le_of_ble_eq_true rfl⟩) (pV (ci := 4) (q := (RX4, TX4, 5)) hK hN hP hD [0, 1, 2, 3, 4, 5, 6, 7, 8, 9, 10, 11, 12, 13, 14, 15, 16, 17, 18, 19, 20, 21, 22, 23, 24, 25, 26, 27, 28, 29, 30, 31, 32, 33, 34, 35, 36, 37, 38, 39, 40, 41, 42, 43, 44, 45, 46, 47, 48, 49, 50, 51, 52, 53, 54, 55, 56, 57, 58, 59, 60, 61, 62, 63, 64, 65, 66, 67, 68, 69, 70, 71, 72, 73, 74, 75, 76, 77, 78, 79, 80, 81, 82, 83, 84, 85, 86, 87, 88, 89, 90, 91, 92, 93, 94] rfl rfl rfl rfl) rfl rfl hl.1 rfl (lv_room (Nat.le_of_ble_eq_true rfl)) dL_isActed_569 ⟨(by show _ + _ ≤ 2001; omega), (by show _ + _ ≤ 16008; omega)⟩) hP hD hS hA [0, 1, 2, 3, 4, 5, 6, 7, 8, 9, 10, 11, 12, 13, 14, 15, 16, 17, 18, 19, 20, 21, 22, 23, 24, 25, 26, 27, 28, 29, 30, 31, 32, 33, 34, 35, 36, 37, 38, 39, 40, 41, 42, 43, 44, 45, 46, 47, 48, 49, 50, 51, 52, 53, 54, 55, 56, 57, 58, 59, 60, 61, 62, 63, 64, 65, 66, 67, 68, 69, 70, 71, 72, 73, 74, 75, 76, 77, 78, 79, 80, 81, 82, 83, 84, 85, 86, 87, 88, 89, 90, 91, 92, 93, 94] rfl rfl (ws' := (wF cA cQ adF adB adT adH kH adR adO u17.2.1 u17.2.2.1 u17.2.2.2.1 u17.2.2.2.2 vR vO ++ [aI cA zl 41 fl, aI cA zp 48 fp, aI cA zt 16 ft, aI cA zr 9 fr])) rfl (fun H locs hP hD hS => ?_)
    refine lv_iload hx hb dL_isActed_572 (lv_at hl 0 rfl) ?_
    refine lv_icmp_ne (tgt := 581) hx hb dL_isActed_574 (by decide) (fun c18 => ?_) (fun c18 => ?_)
    · have h := (if_neg c18).symm.trans h
      refine lv_iconst (v := (0 : Int32)) hx hb dL_isActed_581 (by decide) ?_
      cases h
      refine W.widen (k := 2001) (n := 16008) (by omega) (by omega) ?_
      exact endZ hx hb hr hlocks hP hS ⟨rfl, rfl⟩ dL_isActed_582
    · have h := (if_pos c18).symm.trans h
      refine lv_iconst (v := (1 : Int32)) hx hb dL_isActed_577 (by decide) ?_
      refine lv_goto (tgt := 582) hx hb dL_isActed_578 (by decide) ?_
      cases h
      refine W.widen (k := 2001) (n := 16008) (by omega) (by omega) ?_
      exact endZ hx hb hr hlocks hP hS ⟨rfl, rfl⟩ dL_isActed_582
  have B553 : ∀ (N S : Nat) (vB : St) (vT : St) (vH : St) (bH : Nat → St) (vR : St) (fl : Nat → Int32) (fp : Nat → Int32) (ft : Nat → Int32) (fr : Nat → Int32) (x7 : Int32) (x8 : Int32) (x10 : Int32) (x13 : Int32) (t1 : Int32) (t2 : Int32) (H : Heap) (locs : List Loc) (ls : Array Slot), N + 0 ≤ 2001 → S + 8 * 0 ≤ 16008 → L_isActed_b553 vO p5 p6 vB vT vH bH vR fl fp ft fr x7 x8 x10 x13 t1 t2 = some o → va_P D vwCl (wF cA cQ adF adB adT adH kH adR adO vB vT vH bH vR vO ++ [aI cA zl 41 fl, aI cA zp 48 fp, aI cA zt 16 ft, aI cA zr 9 fr]) H → va_D A (wF cA cQ adF adB adT adH kH adR adO vB vT vH bH vR vO ++ [aI cA zl 41 fl, aI cA zp 48 fp, aI cA zt 16 ft, aI cA zr 9 fr]) → va_S A s.heap H locs → lv_has ls 15 [(0, .ref adF), (7, .int x7), (8, .int x8), (10, .int x10), (13, .int x13)] → W p l e (headSpec wsL_isActed ({ frames := 7, cells := 2001, slots := 16008, locals := 189 })).room s m ([.ref adF, .ref zl, .ref zp, .ref zt, .ref zr, .int p5, .int p6] : List Value).toArray below meth c H locs N S (MQ below (QI D (wF cA cQ adF adB adT adH kH adR adO o.2.1 o.2.2.1 o.2.2.2.1 o.2.2.2.2.1 o.2.2.2.2.2.1 vO ++ [aI cA zl 41 o.2.2.2.2.2.2.1, aI cA zp 48 o.2.2.2.2.2.2.2.1, aI cA zt 16 o.2.2.2.2.2.2.2.2.1, aI cA zr 9 o.2.2.2.2.2.2.2.2.2]) o.1 A) ([.ref adF, .ref zl, .ref zp, .ref zt, .ref zr, .int p5, .int p6] : List Value).toArray s 2001 16008 A) (F0 m 553 ls [.int t2, .int t1, .ref zp]) := by
    intro N S vB vT vH bH vR fl fp ft fr x7 x8 x10 x13 t1 t2 H locs ls hn1 hn2 h hP hD hS hl
    unfold L_isActed_b553 at h
    obtain ⟨g19, eg19, h⟩ := bd_in h
    refine stR hx hb hK hP hD hS 96 0 rfl rfl eg19 (ws' := (wF cA cQ adF adB adT adH kH adR adO vB vT vH bH vR vO ++ [aI cA zl 41 fl, aI cA zp 48 g19, aI cA zt 16 ft, aI cA zr 9 fr])) rfl dL_isActed_553 (fun H locs hP hD hS => ?_)
    refine lv_aload_n hx hb dL_isActed_554 rfl (lv_at hl 0 rfl) ?_
    refine lv_iload hx hb dL_isActed_555 (lv_at hl 1 rfl) ?_
    refine lv_iload hx hb dL_isActed_557 (lv_at hl 3 rfl) ?_
    refine lv_iconst (v := (1 : Int32)) hx hb dL_isActed_559 (by decide) ?_
    refine lv_icmp_ne (tgt := 567) hx hb dL_isActed_560 (by decide) (fun c20 => ?_) (fun c20 => ?_)
    · have h := (if_neg c20).symm.trans h
      refine lv_iload hx hb dL_isActed_567 (lv_at hl 2 rfl) ?_
      exact B569 _ _ vB vT vH bH vR fl g19 ft fr x13 x7 x8 _ _ _ (by first | omega | (unfold FU; omega)) (by first | omega | (unfold FU; omega)) h hP hD hS (lv_sub hl [4] rfl)
    · have h := (if_pos c20).symm.trans h
      refine lv_iconst (v := (-1 : Int32)) hx hb dL_isActed_563 (by decide) ?_
      refine lv_goto (tgt := 569) hx hb dL_isActed_564 (by decide) ?_
      exact B569 _ _ vB vT vH bH vR fl g19 ft fr x13 x7 (-1 : Int32) _ _ _ (by first | omega | (unfold FU; omega)) (by first | omega | (unfold FU; omega)) h hP hD hS (lv_sub hl [4] rfl)
  have B512 : ∀ (N S : Nat) (vB : St) (vT : St) (vH : St) (bH : Nat → St) (vR : St) (fl : Nat → Int32) (fp : Nat → Int32) (ft : Nat → Int32) (fr : Nat → Int32) (x7 : Int32) (x8 : Int32) (x10 : Int32) (x12 : Int32) (t0 : Int32) (H : Heap) (locs : List Loc) (ls : Array Slot), N + 0 ≤ 2001 → S + 8 * 0 ≤ 16008 → L_isActed_b512 vO p5 p6 vB vT vH bH vR fl fp ft fr x7 x8 x10 x12 t0 = some o → va_P D vwCl (wF cA cQ adF adB adT adH kH adR adO vB vT vH bH vR vO ++ [aI cA zl 41 fl, aI cA zp 48 fp, aI cA zt 16 ft, aI cA zr 9 fr]) H → va_D A (wF cA cQ adF adB adT adH kH adR adO vB vT vH bH vR vO ++ [aI cA zl 41 fl, aI cA zp 48 fp, aI cA zt 16 ft, aI cA zr 9 fr]) → va_S A s.heap H locs → lv_has ls 15 [(0, .ref adF), (2, .ref zp), (7, .int x7), (8, .int x8), (10, .int x10), (12, .int x12)] → W p l e (headSpec wsL_isActed ({ frames := 7, cells := 2001, slots := 16008, locals := 189 })).room s m ([.ref adF, .ref zl, .ref zp, .ref zt, .ref zr, .int p5, .int p6] : List Value).toArray below meth c H locs N S (MQ below (QI D (wF cA cQ adF adB adT adH kH adR adO o.2.1 o.2.2.1 o.2.2.2.1 o.2.2.2.2.1 o.2.2.2.2.2.1 vO ++ [aI cA zl 41 o.2.2.2.2.2.2.1, aI cA zp 48 o.2.2.2.2.2.2.2.1, aI cA zt 16 o.2.2.2.2.2.2.2.2.1, aI cA zr 9 o.2.2.2.2.2.2.2.2.2]) o.1 A) ([.ref adF, .ref zl, .ref zp, .ref zt, .ref zr, .int p5, .int p6] : List Value).toArray s 2001 16008 A) (F0 m 512 ls [.int t0]) := by
    intro N S vB vT vH bH vR fl fp ft fr x7 x8 x10 x12 t0 H locs ls hn1 hn2 h hP hD hS hl
    unfold L_isActed_b512 at h
    refine lv_istore (lv' := [(13, .int t0), (0, .ref adF), (2, .ref zp), (7, .int x7), (8, .int x8), (10, .int x10), (12, .int x12)]) hx hb dL_isActed_512 hl (by decide) rfl (fun ls hl => ?_)
    refine lv_aload_n hx hb dL_isActed_514 rfl (lv_at hl 2 rfl) ?_
    refine lv_bipush (v := (6 : Int32)) hx hb dL_isActed_515 (by decide) ?_
    refine lv_iload hx hb dL_isActed_517 (lv_at hl 3 rfl) ?_
    refine lv_imul hx hb dL_isActed_519 ?_
    refine lv_iconst (v := (2 : Int32)) hx hb dL_isActed_520 (by decide) ?_
    refine lv_iadd hx hb dL_isActed_521 ?_
    refine lv_iload hx hb dL_isActed_522 (lv_at hl 6 rfl) ?_
    refine lv_if_eq (tgt := 544) hx hb dL_isActed_524 (by decide) (fun c21 => ?_) (fun c21 => ?_)
    · have h := (if_pos c21).symm.trans h
      refine lv_aload_n hx hb dL_isActed_544 rfl (lv_at hl 2 rfl) ?_
      refine lv_bipush (v := (6 : Int32)) hx hb dL_isActed_545 (by decide) ?_
      refine lv_iload hx hb dL_isActed_547 (lv_at hl 3 rfl) ?_
      refine lv_imul hx hb dL_isActed_549 ?_
      refine lv_iconst (v := (2 : Int32)) hx hb dL_isActed_550 (by decide) ?_
      refine lv_iadd hx hb dL_isActed_551 ?_
      obtain ⟨y22, ey22, h⟩ := bd_in h
      refine ldR hx hb hK hP 96 0 rfl rfl ey22 dL_isActed_552 ?_
      exact B553 _ _ vB vT vH bH vR fl fp ft fr x7 x8 x10 t0 (((6 : Int32) * x7) + (2 : Int32)) y22 _ _ _ (by first | omega | (unfold FU; omega)) (by first | omega | (unfold FU; omega)) h hP hD hS (lv_sub hl [1, 3, 4, 5, 0] rfl)
    · have h := (if_neg c21).symm.trans h
      refine lv_iload hx hb dL_isActed_527 (lv_at hl 5 rfl) ?_
      refine lv_iconst (v := (1 : Int32)) hx hb dL_isActed_529 (by decide) ?_
      refine lv_icmp_ne (tgt := 537) hx hb dL_isActed_530 (by decide) (fun c23 => ?_) (fun c23 => ?_)
      · have h := (if_neg c23).symm.trans h
        refine lv_iload hx hb dL_isActed_537 (lv_at hl 4 rfl) ?_
        refine lv_iconst (v := (1 : Int32)) hx hb dL_isActed_539 (by decide) ?_
        refine lv_iadd hx hb dL_isActed_540 ?_
        refine lv_goto (tgt := 553) hx hb dL_isActed_541 (by decide) ?_
        exact B553 _ _ vB vT vH bH vR fl fp ft fr x7 x8 x10 t0 (((6 : Int32) * x7) + (2 : Int32)) (x8 + (1 : Int32)) _ _ _ (by first | omega | (unfold FU; omega)) (by first | omega | (unfold FU; omega)) h hP hD hS (lv_sub hl [1, 3, 4, 5, 0] rfl)
      · have h := (if_pos c23).symm.trans h
        refine lv_iconst (v := (0 : Int32)) hx hb dL_isActed_533 (by decide) ?_
        refine lv_goto (tgt := 553) hx hb dL_isActed_534 (by decide) ?_
        exact B553 _ _ vB vT vH bH vR fl fp ft fr x7 x8 x10 t0 (((6 : Int32) * x7) + (2 : Int32)) (0 : Int32) _ _ _ (by first | omega | (unfold FU; omega)) (by first | omega | (unfold FU; omega)) h hP hD hS (lv_sub hl [1, 3, 4, 5, 0] rfl)
  have B491 : ∀ (N S : Nat) (vB : St) (vT : St) (vH : St) (bH : Nat → St) (vR : St) (fl : Nat → Int32) (fp : Nat → Int32) (ft : Nat → Int32) (fr : Nat → Int32) (x7 : Int32) (x8 : Int32) (x10 : Int32) (t0 : Int32) (H : Heap) (locs : List Loc) (ls : Array Slot), N + 0 ≤ 2001 → S + 8 * 0 ≤ 16008 → L_isActed_b491 vO p5 p6 vB vT vH bH vR fl fp ft fr x7 x8 x10 t0 = some o → va_P D vwCl (wF cA cQ adF adB adT adH kH adR adO vB vT vH bH vR vO ++ [aI cA zl 41 fl, aI cA zp 48 fp, aI cA zt 16 ft, aI cA zr 9 fr]) H → va_D A (wF cA cQ adF adB adT adH kH adR adO vB vT vH bH vR vO ++ [aI cA zl 41 fl, aI cA zp 48 fp, aI cA zt 16 ft, aI cA zr 9 fr]) → va_S A s.heap H locs → lv_has ls 15 [(0, .ref adF), (2, .ref zp), (7, .int x7), (8, .int x8), (10, .int x10)] → W p l e (headSpec wsL_isActed ({ frames := 7, cells := 2001, slots := 16008, locals := 189 })).room s m ([.ref adF, .ref zl, .ref zp, .ref zt, .ref zr, .int p5, .int p6] : List Value).toArray below meth c H locs N S (MQ below (QI D (wF cA cQ adF adB adT adH kH adR adO o.2.1 o.2.2.1 o.2.2.2.1 o.2.2.2.2.1 o.2.2.2.2.2.1 vO ++ [aI cA zl 41 o.2.2.2.2.2.2.1, aI cA zp 48 o.2.2.2.2.2.2.2.1, aI cA zt 16 o.2.2.2.2.2.2.2.2.1, aI cA zr 9 o.2.2.2.2.2.2.2.2.2]) o.1 A) ([.ref adF, .ref zl, .ref zp, .ref zt, .ref zr, .int p5, .int p6] : List Value).toArray s 2001 16008 A) (F0 m 491 ls [.int t0]) := by
    intro N S vB vT vH bH vR fl fp ft fr x7 x8 x10 t0 H locs ls hn1 hn2 h hP hD hS hl
    unfold L_isActed_b491 at h
    refine lv_istore (lv' := [(12, .int t0), (0, .ref adF), (2, .ref zp), (7, .int x7), (8, .int x8), (10, .int x10)]) hx hb dL_isActed_491 hl (by decide) rfl (fun ls hl => ?_)
    refine lv_iload hx hb dL_isActed_493 (lv_at hl 0 rfl) ?_
    refine lv_if_eq (tgt := 510) hx hb dL_isActed_495 (by decide) (fun c24 => ?_) (fun c24 => ?_)
    · have h := (if_pos c24).symm.trans h
      refine lv_ldc (v := (-1000001 : Int32)) hx hb hown (hts (.constant RL 58 (-1000001)) (List.mem_of_getElem? (i := 2) rfl)) dL_isActed_510 ?_
      exact B512 _ _ vB vT vH bH vR fl fp ft fr x7 x8 x10 t0 (-1000001 : Int32) _ _ _ (by first | omega | (unfold FU; omega)) (by first | omega | (unfold FU; omega)) h hP hD hS (lv_sub hl [1, 2, 3, 4, 5, 0] rfl)
    · have h := (if_neg c24).symm.trans h
      refine lv_aload_n hx hb dL_isActed_498 rfl (lv_at hl 2 rfl) ?_
      refine lv_bipush (v := (6 : Int32)) hx hb dL_isActed_499 (by decide) ?_
      refine lv_iload hx hb dL_isActed_501 (lv_at hl 3 rfl) ?_
      refine lv_imul hx hb dL_isActed_503 ?_
      refine lv_iconst (v := (2 : Int32)) hx hb dL_isActed_504 (by decide) ?_
      refine lv_iadd hx hb dL_isActed_505 ?_
      obtain ⟨y25, ey25, h⟩ := bd_in h
      refine ldR hx hb hK hP 96 0 rfl rfl ey25 dL_isActed_506 ?_
      refine lv_goto (tgt := 512) hx hb dL_isActed_507 (by decide) ?_
      exact B512 _ _ vB vT vH bH vR fl fp ft fr x7 x8 x10 t0 y25 _ _ _ (by first | omega | (unfold FU; omega)) (by first | omega | (unfold FU; omega)) h hP hD hS (lv_sub hl [1, 2, 3, 4, 5, 0] rfl)
  have B490 : ∀ (N S : Nat) (vB : St) (vT : St) (vH : St) (bH : Nat → St) (vR : St) (fl : Nat → Int32) (fp : Nat → Int32) (ft : Nat → Int32) (fr : Nat → Int32) (x7 : Int32) (x8 : Int32) (x10 : Int32) (H : Heap) (locs : List Loc) (ls : Array Slot), N + 0 ≤ 2001 → S + 8 * 0 ≤ 16008 → L_isActed_b490 vO p5 p6 vB vT vH bH vR fl fp ft fr x7 x8 x10 = some o → va_P D vwCl (wF cA cQ adF adB adT adH kH adR adO vB vT vH bH vR vO ++ [aI cA zl 41 fl, aI cA zp 48 fp, aI cA zt 16 ft, aI cA zr 9 fr]) H → va_D A (wF cA cQ adF adB adT adH kH adR adO vB vT vH bH vR vO ++ [aI cA zl 41 fl, aI cA zp 48 fp, aI cA zt 16 ft, aI cA zr 9 fr]) → va_S A s.heap H locs → lv_has ls 15 [(0, .ref adF), (2, .ref zp), (7, .int x7), (8, .int x8), (10, .int x10)] → W p l e (headSpec wsL_isActed ({ frames := 7, cells := 2001, slots := 16008, locals := 189 })).room s m ([.ref adF, .ref zl, .ref zp, .ref zt, .ref zr, .int p5, .int p6] : List Value).toArray below meth c H locs N S (MQ below (QI D (wF cA cQ adF adB adT adH kH adR adO o.2.1 o.2.2.1 o.2.2.2.1 o.2.2.2.2.1 o.2.2.2.2.2.1 vO ++ [aI cA zl 41 o.2.2.2.2.2.2.1, aI cA zp 48 o.2.2.2.2.2.2.2.1, aI cA zt 16 o.2.2.2.2.2.2.2.2.1, aI cA zr 9 o.2.2.2.2.2.2.2.2.2]) o.1 A) ([.ref adF, .ref zl, .ref zp, .ref zt, .ref zr, .int p5, .int p6] : List Value).toArray s 2001 16008 A) (F0 m 490 ls []) := by
    intro N S vB vT vH bH vR fl fp ft fr x7 x8 x10 H locs ls hn1 hn2 h hP hD hS hl
    unfold L_isActed_b490 at h
    refine lv_iconst (v := (0 : Int32)) hx hb dL_isActed_490 (by decide) ?_
    exact B491 _ _ vB vT vH bH vR fl fp ft fr x7 x8 x10 (0 : Int32) _ _ _ (by first | omega | (unfold FU; omega)) (by first | omega | (unfold FU; omega)) h hP hD hS (lv_sub hl [0, 1, 2, 3, 4] rfl)
  have B486 : ∀ (N S : Nat) (vB : St) (vT : St) (vH : St) (bH : Nat → St) (vR : St) (fl : Nat → Int32) (fp : Nat → Int32) (ft : Nat → Int32) (fr : Nat → Int32) (x7 : Int32) (x8 : Int32) (x10 : Int32) (H : Heap) (locs : List Loc) (ls : Array Slot), N + 0 ≤ 2001 → S + 8 * 0 ≤ 16008 → L_isActed_b486 vO p5 p6 vB vT vH bH vR fl fp ft fr x7 x8 x10 = some o → va_P D vwCl (wF cA cQ adF adB adT adH kH adR adO vB vT vH bH vR vO ++ [aI cA zl 41 fl, aI cA zp 48 fp, aI cA zt 16 ft, aI cA zr 9 fr]) H → va_D A (wF cA cQ adF adB adT adH kH adR adO vB vT vH bH vR vO ++ [aI cA zl 41 fl, aI cA zp 48 fp, aI cA zt 16 ft, aI cA zr 9 fr]) → va_S A s.heap H locs → lv_has ls 15 [(0, .ref adF), (2, .ref zp), (7, .int x7), (8, .int x8), (10, .int x10)] → W p l e (headSpec wsL_isActed ({ frames := 7, cells := 2001, slots := 16008, locals := 189 })).room s m ([.ref adF, .ref zl, .ref zp, .ref zt, .ref zr, .int p5, .int p6] : List Value).toArray below meth c H locs N S (MQ below (QI D (wF cA cQ adF adB adT adH kH adR adO o.2.1 o.2.2.1 o.2.2.2.1 o.2.2.2.2.1 o.2.2.2.2.2.1 vO ++ [aI cA zl 41 o.2.2.2.2.2.2.1, aI cA zp 48 o.2.2.2.2.2.2.2.1, aI cA zt 16 o.2.2.2.2.2.2.2.2.1, aI cA zr 9 o.2.2.2.2.2.2.2.2.2]) o.1 A) ([.ref adF, .ref zl, .ref zp, .ref zt, .ref zr, .int p5, .int p6] : List Value).toArray s 2001 16008 A) (F0 m 486 ls []) := by
    intro N S vB vT vH bH vR fl fp ft fr x7 x8 x10 H locs ls hn1 hn2 h hP hD hS hl
    unfold L_isActed_b486 at h
    refine lv_iconst (v := (1 : Int32)) hx hb dL_isActed_486 (by decide) ?_
    refine lv_goto (tgt := 491) hx hb dL_isActed_487 (by decide) ?_
    exact B491 _ _ vB vT vH bH vR fl fp ft fr x7 x8 x10 (1 : Int32) _ _ _ (by first | omega | (unfold FU; omega)) (by first | omega | (unfold FU; omega)) h hP hD hS (lv_sub hl [0, 1, 2, 3, 4] rfl)
  have B437 : ∀ (N S : Nat) (vB : St) (vT : St) (vH : St) (bH : Nat → St) (vR : St) (fl : Nat → Int32) (fp : Nat → Int32) (ft : Nat → Int32) (fr : Nat → Int32) (x7 : Int32) (x8 : Int32) (x9 : Int32) (x12 : Int32) (x13 : Int32) (H : Heap) (locs : List Loc) (ls : Array Slot), N + 0 ≤ 2001 → S + 8 * 0 ≤ 16008 → L_isActed_b437 vO p5 p6 vB vT vH bH vR fl fp ft fr x7 x8 x9 x12 x13 = some o → va_P D vwCl (wF cA cQ adF adB adT adH kH adR adO vB vT vH bH vR vO ++ [aI cA zl 41 fl, aI cA zp 48 fp, aI cA zt 16 ft, aI cA zr 9 fr]) H → va_D A (wF cA cQ adF adB adT adH kH adR adO vB vT vH bH vR vO ++ [aI cA zl 41 fl, aI cA zp 48 fp, aI cA zt 16 ft, aI cA zr 9 fr]) → va_S A s.heap H locs → lv_has ls 15 [(0, .ref adF), (7, .int x7), (8, .int x8), (9, .int x9), (12, .int x12), (13, .int x13)] → W p l e (headSpec wsL_isActed ({ frames := 7, cells := 2001, slots := 16008, locals := 189 })).room s m ([.ref adF, .ref zl, .ref zp, .ref zt, .ref zr, .int p5, .int p6] : List Value).toArray below meth c H locs N S (MQ below (QI D (wF cA cQ adF adB adT adH kH adR adO o.2.1 o.2.2.1 o.2.2.2.1 o.2.2.2.2.1 o.2.2.2.2.2.1 vO ++ [aI cA zl 41 o.2.2.2.2.2.2.1, aI cA zp 48 o.2.2.2.2.2.2.2.1, aI cA zt 16 o.2.2.2.2.2.2.2.2.1, aI cA zr 9 o.2.2.2.2.2.2.2.2.2]) o.1 A) ([.ref adF, .ref zl, .ref zp, .ref zt, .ref zr, .int p5, .int p6] : List Value).toArray s 2001 16008 A) (F0 m 437 ls []) := by
    intro N S vB vT vH bH vR fl fp ft fr x7 x8 x9 x12 x13 H locs ls hn1 hn2 h hP hD hS hl
    unfold L_isActed_b437 at h
    refine lv_aload_n hx hb dL_isActed_437 rfl (lv_at hl 0 rfl) ?_
    refine lv_iload hx hb dL_isActed_438 (lv_at hl 1 rfl) ?_
    refine lv_iload hx hb dL_isActed_440 (lv_at hl 2 rfl) ?_
    refine lv_iload hx hb dL_isActed_442 (lv_at hl 3 rfl) ?_
    refine lv_iload hx hb dL_isActed_444 (lv_at hl 4 rfl) ?_
    obtain ⟨u26, eu26, h⟩ := bd_in h
    refine kI (va_runV (As := [.int x7, .int x8, .int x9, .int x12]) (rest := []) ⟨hx, hb, hml, hown, hts⟩ (c_X4_fulfil l D cA cQ adF adB adT adH kH adR adO vB vT vH bH vR vO x7 x8 x9 x12 u26 eu26 _) (cwV 4 hts gL_isActed_X4_fulfil rfl rfl rfl (by decide +kernel) ⟨Nat.le_of_ble_eq_true rfl, Nat.le_of_ble_eq_true rfl⟩) (pV (ci := 4) (q := (RX4, TX4, 5)) hK hN hP hD [0, 1, 2, 3, 4, 5, 6, 7, 8, 9, 10, 11, 12, 13, 14, 15, 16, 17, 18, 19, 20, 21, 22, 23, 24, 25, 26, 27, 28, 29, 30, 31, 32, 33, 34, 35, 36, 37, 38, 39, 40, 41, 42, 43, 44, 45, 46, 47, 48, 49, 50, 51, 52, 53, 54, 55, 56, 57, 58, 59, 60, 61, 62, 63, 64, 65, 66, 67, 68, 69, 70, 71, 72, 73, 74, 75, 76, 77, 78, 79, 80, 81, 82, 83, 84, 85, 86, 87, 88, 89, 90, 91, 92, 93, 94] rfl rfl rfl rfl) rfl rfl hl.1 rfl (lv_room (Nat.le_of_ble_eq_true rfl)) dL_isActed_446 ⟨(by show _ + _ ≤ 2001; omega), (by show _ + _ ≤ 16008; omega)⟩) hP hD hS hA [0, 1, 2, 3, 4, 5, 6, 7, 8, 9, 10, 11, 12, 13, 14, 15, 16, 17, 18, 19, 20, 21, 22, 23, 24, 25, 26, 27, 28, 29, 30, 31, 32, 33, 34, 35, 36, 37, 38, 39, 40, 41, 42, 43, 44, 45, 46, 47, 48, 49, 50, 51, 52, 53, 54, 55, 56, 57, 58, 59, 60, 61, 62, 63, 64, 65, 66, 67, 68, 69, 70, 71, 72, 73, 74, 75, 76, 77, 78, 79, 80, 81, 82, 83, 84, 85, 86, 87, 88, 89, 90, 91, 92, 93, 94] rfl rfl (ws' := (wF cA cQ adF adB adT adH kH adR adO u26.2.1 u26.2.2.1 u26.2.2.2.1 u26.2.2.2.2 vR vO ++ [aI cA zl 41 fl, aI cA zp 48 fp, aI cA zt 16 ft, aI cA zr 9 fr])) rfl (fun H locs hP hD hS => ?_)
    refine lv_iload hx hb dL_isActed_449 (lv_at hl 5 rfl) ?_
    refine lv_icmp_ne (tgt := 458) hx hb dL_isActed_451 (by decide) (fun c27 => ?_) (fun c27 => ?_)
    · have h := (if_neg c27).symm.trans h
      refine lv_iconst (v := (0 : Int32)) hx hb dL_isActed_458 (by decide) ?_
      cases h
      refine W.widen (k := 2001) (n := 16008) (by omega) (by omega) ?_
      exact endZ hx hb hr hlocks hP hS ⟨rfl, rfl⟩ dL_isActed_459
    · have h := (if_pos c27).symm.trans h
      refine lv_iconst (v := (1 : Int32)) hx hb dL_isActed_454 (by decide) ?_
      refine lv_goto (tgt := 459) hx hb dL_isActed_455 (by decide) ?_
      cases h
      refine W.widen (k := 2001) (n := 16008) (by omega) (by omega) ?_
      exact endZ hx hb hr hlocks hP hS ⟨rfl, rfl⟩ dL_isActed_459
  have B369 : ∀ (N S : Nat) (vB : St) (vT : St) (vH : St) (bH : Nat → St) (vR : St) (fl : Nat → Int32) (fp : Nat → Int32) (ft : Nat → Int32) (fr : Nat → Int32) (x7 : Int32) (x8 : Int32) (x9 : Int32) (x12 : Int32) (t0 : Int32) (H : Heap) (locs : List Loc) (ls : Array Slot), N + 0 ≤ 2001 → S + 8 * 0 ≤ 16008 → L_isActed_b369 vO p5 p6 vB vT vH bH vR fl fp ft fr x7 x8 x9 x12 t0 = some o → va_P D vwCl (wF cA cQ adF adB adT adH kH adR adO vB vT vH bH vR vO ++ [aI cA zl 41 fl, aI cA zp 48 fp, aI cA zt 16 ft, aI cA zr 9 fr]) H → va_D A (wF cA cQ adF adB adT adH kH adR adO vB vT vH bH vR vO ++ [aI cA zl 41 fl, aI cA zp 48 fp, aI cA zt 16 ft, aI cA zr 9 fr]) → va_S A s.heap H locs → lv_has ls 15 [(0, .ref adF), (1, .ref zl), (2, .ref zp), (3, .ref zt), (7, .int x7), (8, .int x8), (9, .int x9), (12, .int x12)] → W p l e (headSpec wsL_isActed ({ frames := 7, cells := 2001, slots := 16008, locals := 189 })).room s m ([.ref adF, .ref zl, .ref zp, .ref zt, .ref zr, .int p5, .int p6] : List Value).toArray below meth c H locs N S (MQ below (QI D (wF cA cQ adF adB adT adH kH adR adO o.2.1 o.2.2.1 o.2.2.2.1 o.2.2.2.2.1 o.2.2.2.2.2.1 vO ++ [aI cA zl 41 o.2.2.2.2.2.2.1, aI cA zp 48 o.2.2.2.2.2.2.2.1, aI cA zt 16 o.2.2.2.2.2.2.2.2.1, aI cA zr 9 o.2.2.2.2.2.2.2.2.2]) o.1 A) ([.ref adF, .ref zl, .ref zp, .ref zt, .ref zr, .int p5, .int p6] : List Value).toArray s 2001 16008 A) (F0 m 369 ls [.int t0]) := by
    intro N S vB vT vH bH vR fl fp ft fr x7 x8 x9 x12 t0 H locs ls hn1 hn2 h hP hD hS hl
    unfold L_isActed_b369 at h
    refine lv_istore (lv' := [(13, .int t0), (0, .ref adF), (1, .ref zl), (2, .ref zp), (3, .ref zt), (7, .int x7), (8, .int x8), (9, .int x9), (12, .int x12)]) hx hb dL_isActed_369 hl (by decide) rfl (fun ls hl => ?_)
    refine lv_iload hx hb dL_isActed_371 (lv_at hl 0 rfl) ?_
    refine lv_if_lt (tgt := 437) hx hb dL_isActed_373 (by decide) (fun c28 => ?_) (fun c28 => ?_)
    · have h := (if_pos c28).symm.trans h
      exact B437 _ _ vB vT vH bH vR fl fp ft fr x7 x8 x9 x12 t0 _ _ _ (by first | omega | (unfold FU; omega)) (by first | omega | (unfold FU; omega)) h hP hD hS (lv_sub hl [1, 5, 6, 7, 8, 0] rfl)
    · have h := (if_neg c28).symm.trans h
      refine lv_aload_n hx hb dL_isActed_376 rfl (lv_at hl 2 rfl) ?_
      refine lv_aload_n hx hb dL_isActed_377 rfl (lv_at hl 4 rfl) ?_
      refine lv_iload hx hb dL_isActed_378 (lv_at hl 5 rfl) ?_
      refine lv_iload hx hb dL_isActed_380 (lv_at hl 6 rfl) ?_
      refine lv_iload hx hb dL_isActed_382 (lv_at hl 7 rfl) ?_
      refine lv_iload hx hb dL_isActed_384 (lv_at hl 8 rfl) ?_
      obtain ⟨u29, eu29, h⟩ := bd_in h
      refine kV (va_runS (As := [.ref zl, .ref zt, .int x7, .int x8, .int x9, .int x12]) (rest := []) ⟨hx, hb, hml, hown, hts⟩ (c_L_take l D cA cQ zl zt fl ft x7 x8 x9 x12 u29 eu29 _) (va_cwS 6 hts gL_isActed_L_take rfl rfl rfl (by decide +kernel) ⟨Nat.le_of_ble_eq_true rfl, Nat.le_of_ble_eq_true rfl⟩) (pS hK hN hP hD [95, 97] rfl rfl) rfl rfl hl.1 rfl (lv_room (Nat.le_of_ble_eq_true rfl)) dL_isActed_386 ⟨(by show _ + _ ≤ 2001; omega), (by show _ + _ ≤ 16008; omega)⟩) hP hD hS hA [95, 97] rfl rfl (ws' := (wF cA cQ adF adB adT adH kH adR adO vB vT vH bH vR vO ++ [aI cA zl 41 u29.1, aI cA zp 48 fp, aI cA zt 16 u29.2, aI cA zr 9 fr])) rfl (fun H locs hP hD hS => ?_)
      refine lv_aload_n hx hb dL_isActed_389 rfl (lv_at hl 3 rfl) ?_
      refine lv_bipush (v := (6 : Int32)) hx hb dL_isActed_390 (by decide) ?_
      refine lv_iload hx hb dL_isActed_392 (lv_at hl 5 rfl) ?_
      refine lv_imul hx hb dL_isActed_394 ?_
      refine lv_dup2_11 hx hb dL_isActed_395 rfl rfl ?_
      obtain ⟨y30, ey30, h⟩ := bd_in h
      refine ldR hx hb hK hP 96 0 rfl rfl ey30 dL_isActed_396 ?_
      refine lv_iload hx hb dL_isActed_397 (lv_at hl 8 rfl) ?_
      refine lv_iadd hx hb dL_isActed_399 ?_
      obtain ⟨g31, eg31, h⟩ := bd_in h
      refine stR hx hb hK hP hD hS 96 0 rfl rfl eg31 (ws' := (wF cA cQ adF adB adT adH kH adR adO vB vT vH bH vR vO ++ [aI cA zl 41 u29.1, aI cA zp 48 g31, aI cA zt 16 u29.2, aI cA zr 9 fr])) rfl dL_isActed_400 (fun H locs hP hD hS => ?_)
      refine lv_aload_n hx hb dL_isActed_401 rfl (lv_at hl 3 rfl) ?_
      refine lv_bipush (v := (6 : Int32)) hx hb dL_isActed_402 (by decide) ?_
      refine lv_iload hx hb dL_isActed_404 (lv_at hl 5 rfl) ?_
      refine lv_imul hx hb dL_isActed_406 ?_
      refine lv_iconst (v := (5 : Int32)) hx hb dL_isActed_407 (by decide) ?_
      refine lv_iadd hx hb dL_isActed_408 ?_
      refine lv_dup2_11 hx hb dL_isActed_409 rfl rfl ?_
      obtain ⟨y32, ey32, h⟩ := bd_in h
      refine ldR hx hb hK hP 96 0 rfl rfl ey32 dL_isActed_410 ?_
      refine lv_iload hx hb dL_isActed_411 (lv_at hl 8 rfl) ?_
      refine lv_iadd hx hb dL_isActed_413 ?_
      obtain ⟨g33, eg33, h⟩ := bd_in h
      refine stR hx hb hK hP hD hS 96 0 rfl rfl eg33 (ws' := (wF cA cQ adF adB adT adH kH adR adO vB vT vH bH vR vO ++ [aI cA zl 41 u29.1, aI cA zp 48 g33, aI cA zt 16 u29.2, aI cA zr 9 fr])) rfl dL_isActed_414 (fun H locs hP hD hS => ?_)
      refine lv_aload_n hx hb dL_isActed_415 rfl (lv_at hl 3 rfl) ?_
      refine lv_bipush (v := (6 : Int32)) hx hb dL_isActed_416 (by decide) ?_
      refine lv_iload hx hb dL_isActed_418 (lv_at hl 6 rfl) ?_
      refine lv_imul hx hb dL_isActed_420 ?_
      refine lv_iconst (v := (5 : Int32)) hx hb dL_isActed_421 (by decide) ?_
      refine lv_iadd hx hb dL_isActed_422 ?_
      refine lv_dup2_11 hx hb dL_isActed_423 rfl rfl ?_
      obtain ⟨y34, ey34, h⟩ := bd_in h
      refine ldR hx hb hK hP 96 0 rfl rfl ey34 dL_isActed_424 ?_
      refine lv_iload hx hb dL_isActed_425 (lv_at hl 8 rfl) ?_
      refine lv_isub hx hb dL_isActed_427 ?_
      obtain ⟨g35, eg35, h⟩ := bd_in h
      refine stR hx hb hK hP hD hS 96 0 rfl rfl eg35 (ws' := (wF cA cQ adF adB adT adH kH adR adO vB vT vH bH vR vO ++ [aI cA zl 41 u29.1, aI cA zp 48 g35, aI cA zt 16 u29.2, aI cA zr 9 fr])) rfl dL_isActed_428 (fun H locs hP hD hS => ?_)
      refine lv_aload_n hx hb dL_isActed_429 rfl (lv_at hl 4 rfl) ?_
      refine lv_iconst (v := (4 : Int32)) hx hb dL_isActed_430 (by decide) ?_
      refine lv_dup2_11 hx hb dL_isActed_431 rfl rfl ?_
      obtain ⟨y36, ey36, h⟩ := bd_in h
      refine ldR hx hb hK hP 97 0 rfl rfl ey36 dL_isActed_432 ?_
      refine lv_iload hx hb dL_isActed_433 (lv_at hl 8 rfl) ?_
      refine lv_iadd hx hb dL_isActed_435 ?_
      obtain ⟨g37, eg37, h⟩ := bd_in h
      refine stR hx hb hK hP hD hS 97 0 rfl rfl eg37 (ws' := (wF cA cQ adF adB adT adH kH adR adO vB vT vH bH vR vO ++ [aI cA zl 41 u29.1, aI cA zp 48 g35, aI cA zt 16 g37, aI cA zr 9 fr])) rfl dL_isActed_436 (fun H locs hP hD hS => ?_)
      exact B437 _ _ vB vT vH bH vR u29.1 g35 g37 fr x7 x8 x9 x12 t0 _ _ _ (by first | omega | (unfold FU; omega)) (by first | omega | (unfold FU; omega)) h hP hD hS (lv_sub hl [1, 5, 6, 7, 8, 0] rfl)
  have B286 : ∀ (N S : Nat) (vB : St) (vT : St) (vH : St) (bH : Nat → St) (vR : St) (fl : Nat → Int32) (fp : Nat → Int32) (ft : Nat → Int32) (fr : Nat → Int32) (x7 : Int32) (x8 : Int32) (x9 : Int32) (x10 : Int32) (x12 : Int32) (H : Heap) (locs : List Loc) (ls : Array Slot), N + 0 ≤ 2001 → S + 8 * 0 ≤ 16008 → L_isActed_b286 vO p5 p6 vB vT vH bH vR fl fp ft fr x7 x8 x9 x10 x12 = some o → va_P D vwCl (wF cA cQ adF adB adT adH kH adR adO vB vT vH bH vR vO ++ [aI cA zl 41 fl, aI cA zp 48 fp, aI cA zt 16 ft, aI cA zr 9 fr]) H → va_D A (wF cA cQ adF adB adT adH kH adR adO vB vT vH bH vR vO ++ [aI cA zl 41 fl, aI cA zp 48 fp, aI cA zt 16 ft, aI cA zr 9 fr]) → va_S A s.heap H locs → lv_has ls 15 [(0, .ref adF), (7, .int x7), (8, .int x8), (9, .int x9), (10, .int x10), (12, .int x12)] → W p l e (headSpec wsL_isActed ({ frames := 7, cells := 2001, slots := 16008, locals := 189 })).room s m ([.ref adF, .ref zl, .ref zp, .ref zt, .ref zr, .int p5, .int p6] : List Value).toArray below meth c H locs N S (MQ below (QI D (wF cA cQ adF adB adT adH kH adR adO o.2.1 o.2.2.1 o.2.2.2.1 o.2.2.2.2.1 o.2.2.2.2.2.1 vO ++ [aI cA zl 41 o.2.2.2.2.2.2.1, aI cA zp 48 o.2.2.2.2.2.2.2.1, aI cA zt 16 o.2.2.2.2.2.2.2.2.1, aI cA zr 9 o.2.2.2.2.2.2.2.2.2]) o.1 A) ([.ref adF, .ref zl, .ref zp, .ref zt, .ref zr, .int p5, .int p6] : List Value).toArray s 2001 16008 A) (F0 m 286 ls []) := by
    intro N S vB vT vH bH vR fl fp ft fr x7 x8 x9 x10 x12 H locs ls hn1 hn2 h hP hD hS hl
    unfold L_isActed_b286 at h
    refine lv_aload_n hx hb dL_isActed_286 rfl (lv_at hl 0 rfl) ?_
    refine lv_iload hx hb dL_isActed_287 (lv_at hl 1 rfl) ?_
    refine lv_iload hx hb dL_isActed_289 (lv_at hl 2 rfl) ?_
    refine lv_iload hx hb dL_isActed_291 (lv_at hl 3 rfl) ?_
    refine lv_iload hx hb dL_isActed_293 (lv_at hl 4 rfl) ?_
    obtain ⟨u38, eu38, h⟩ := bd_in h
    refine kI (va_runV (As := [.int x7, .int x8, .int x9, .int x10]) (rest := []) ⟨hx, hb, hml, hown, hts⟩ (c_X4_lend l D cA cQ adF adB adT adH kH adR adO vB vT vH bH vR vO x7 x8 x9 x10 u38 eu38 _) (cwV 4 hts gL_isActed_X4_lend rfl rfl rfl (by decide +kernel) ⟨Nat.le_of_ble_eq_true rfl, Nat.le_of_ble_eq_true rfl⟩) (pV (ci := 4) (q := (RX4, TX4, 5)) hK hN hP hD [0, 1, 2, 3, 4, 5, 6, 7, 8, 9, 10, 11, 12, 13, 14, 15, 16, 17, 18, 19, 20, 21, 22, 23, 24, 25, 26, 27, 28, 29, 30, 31, 32, 33, 34, 35, 36, 37, 38, 39, 40, 41, 42, 43, 44, 45, 46, 47, 48, 49, 50, 51, 52, 53, 54, 55, 56, 57, 58, 59, 60, 61, 62, 63, 64, 65, 66, 67, 68, 69, 70, 71, 72, 73, 74, 75, 76, 77, 78, 79, 80, 81, 82, 83, 84, 85, 86, 87, 88, 89, 90, 91, 92, 93, 94] rfl rfl rfl rfl) rfl rfl hl.1 rfl (lv_room (Nat.le_of_ble_eq_true rfl)) dL_isActed_295 ⟨(by show _ + _ ≤ 2001; omega), (by show _ + _ ≤ 16008; omega)⟩) hP hD hS hA [0, 1, 2, 3, 4, 5, 6, 7, 8, 9, 10, 11, 12, 13, 14, 15, 16, 17, 18, 19, 20, 21, 22, 23, 24, 25, 26, 27, 28, 29, 30, 31, 32, 33, 34, 35, 36, 37, 38, 39, 40, 41, 42, 43, 44, 45, 46, 47, 48, 49, 50, 51, 52, 53, 54, 55, 56, 57, 58, 59, 60, 61, 62, 63, 64, 65, 66, 67, 68, 69, 70, 71, 72, 73, 74, 75, 76, 77, 78, 79, 80, 81, 82, 83, 84, 85, 86, 87, 88, 89, 90, 91, 92, 93, 94] rfl rfl (ws' := (wF cA cQ adF adB adT adH kH adR adO u38.2.1 u38.2.2.1 u38.2.2.2.1 u38.2.2.2.2 vR vO ++ [aI cA zl 41 fl, aI cA zp 48 fp, aI cA zt 16 ft, aI cA zr 9 fr])) rfl (fun H locs hP hD hS => ?_)
    refine lv_iload hx hb dL_isActed_298 (lv_at hl 5 rfl) ?_
    refine lv_icmp_ne (tgt := 307) hx hb dL_isActed_300 (by decide) (fun c39 => ?_) (fun c39 => ?_)
    · have h := (if_neg c39).symm.trans h
      refine lv_iconst (v := (0 : Int32)) hx hb dL_isActed_307 (by decide) ?_
      cases h
      refine W.widen (k := 2001) (n := 16008) (by omega) (by omega) ?_
      exact endZ hx hb hr hlocks hP hS ⟨rfl, rfl⟩ dL_isActed_308
    · have h := (if_pos c39).symm.trans h
      refine lv_iconst (v := (1 : Int32)) hx hb dL_isActed_303 (by decide) ?_
      refine lv_goto (tgt := 308) hx hb dL_isActed_304 (by decide) ?_
      cases h
      refine W.widen (k := 2001) (n := 16008) (by omega) (by omega) ?_
      exact endZ hx hb hr hlocks hP hS ⟨rfl, rfl⟩ dL_isActed_308
  have B197 : ∀ (N S : Nat) (vB : St) (vT : St) (vH : St) (bH : Nat → St) (vR : St) (fl : Nat → Int32) (fp : Nat → Int32) (ft : Nat → Int32) (fr : Nat → Int32) (x7 : Int32) (x8 : Int32) (x9 : Int32) (x10 : Int32) (t0 : Int32) (H : Heap) (locs : List Loc) (ls : Array Slot), N + 0 ≤ 2001 → S + 8 * 0 ≤ 16008 → L_isActed_b197 vO p5 p6 vB vT vH bH vR fl fp ft fr x7 x8 x9 x10 t0 = some o → va_P D vwCl (wF cA cQ adF adB adT adH kH adR adO vB vT vH bH vR vO ++ [aI cA zl 41 fl, aI cA zp 48 fp, aI cA zt 16 ft, aI cA zr 9 fr]) H → va_D A (wF cA cQ adF adB adT adH kH adR adO vB vT vH bH vR vO ++ [aI cA zl 41 fl, aI cA zp 48 fp, aI cA zt 16 ft, aI cA zr 9 fr]) → va_S A s.heap H locs → lv_has ls 15 [(0, .ref adF), (1, .ref zl), (2, .ref zp), (3, .ref zt), (7, .int x7), (8, .int x8), (9, .int x9), (10, .int x10)] → W p l e (headSpec wsL_isActed ({ frames := 7, cells := 2001, slots := 16008, locals := 189 })).room s m ([.ref adF, .ref zl, .ref zp, .ref zt, .ref zr, .int p5, .int p6] : List Value).toArray below meth c H locs N S (MQ below (QI D (wF cA cQ adF adB adT adH kH adR adO o.2.1 o.2.2.1 o.2.2.2.1 o.2.2.2.2.1 o.2.2.2.2.2.1 vO ++ [aI cA zl 41 o.2.2.2.2.2.2.1, aI cA zp 48 o.2.2.2.2.2.2.2.1, aI cA zt 16 o.2.2.2.2.2.2.2.2.1, aI cA zr 9 o.2.2.2.2.2.2.2.2.2]) o.1 A) ([.ref adF, .ref zl, .ref zp, .ref zt, .ref zr, .int p5, .int p6] : List Value).toArray s 2001 16008 A) (F0 m 197 ls [.int t0]) := by
    intro N S vB vT vH bH vR fl fp ft fr x7 x8 x9 x10 t0 H locs ls hn1 hn2 h hP hD hS hl
    unfold L_isActed_b197 at h
    refine lv_istore (lv' := [(12, .int t0), (0, .ref adF), (1, .ref zl), (2, .ref zp), (3, .ref zt), (7, .int x7), (8, .int x8), (9, .int x9), (10, .int x10)]) hx hb dL_isActed_197 hl (by decide) rfl (fun ls hl => ?_)
    refine lv_iload hx hb dL_isActed_199 (lv_at hl 0 rfl) ?_
    refine lv_if_ne (tgt := 286) hx hb dL_isActed_201 (by decide) (fun c40 => ?_) (fun c40 => ?_)
    · have h := (if_neg c40).symm.trans h
      exact B286 _ _ vB vT vH bH vR fl fp ft fr x7 x8 x9 x10 t0 _ _ _ (by first | omega | (unfold FU; omega)) (by first | omega | (unfold FU; omega)) h hP hD hS (lv_sub hl [1, 5, 6, 7, 8, 0] rfl)
    · have h := (if_pos c40).symm.trans h
      refine lv_aload_n hx hb dL_isActed_204 rfl (lv_at hl 2 rfl) ?_
      refine lv_aload_n hx hb dL_isActed_205 rfl (lv_at hl 4 rfl) ?_
      refine lv_iconst (v := (2 : Int32)) hx hb dL_isActed_206 (by decide) ?_
      obtain ⟨y41, ey41, h⟩ := bd_in h
      refine ldR hx hb hK hP 97 0 rfl rfl ey41 dL_isActed_207 ?_
      refine lv_iload hx hb dL_isActed_208 (lv_at hl 5 rfl) ?_
      refine lv_bipush (v := (8 : Int32)) hx hb dL_isActed_210 (by decide) ?_
      refine lv_iload hx hb dL_isActed_212 (lv_at hl 6 rfl) ?_
      refine lv_imul hx hb dL_isActed_214 ?_
      refine lv_iadd hx hb dL_isActed_215 ?_
      refine lv_bipush (v := (64 : Int32)) hx hb dL_isActed_216 (by decide) ?_
      refine lv_iload hx hb dL_isActed_218 (lv_at hl 7 rfl) ?_
      refine lv_imul hx hb dL_isActed_220 ?_
      refine lv_iadd hx hb dL_isActed_221 ?_
      refine lv_sipush (v := (256 : Int32)) hx hb dL_isActed_222 (by decide) ?_
      refine lv_iload hx hb dL_isActed_225 (lv_at hl 8 rfl) ?_
      refine lv_imul hx hb dL_isActed_227 ?_
      refine lv_iadd hx hb dL_isActed_228 ?_
      obtain ⟨g42, eg42, h⟩ := bd_in h
      refine stR hx hb hK hP hD hS 95 0 rfl rfl eg42 (ws' := (wF cA cQ adF adB adT adH kH adR adO vB vT vH bH vR vO ++ [aI cA zl 41 g42, aI cA zp 48 fp, aI cA zt 16 ft, aI cA zr 9 fr])) rfl dL_isActed_229 (fun H locs hP hD hS => ?_)
      refine lv_aload_n hx hb dL_isActed_230 rfl (lv_at hl 4 rfl) ?_
      refine lv_iconst (v := (2 : Int32)) hx hb dL_isActed_231 (by decide) ?_
      refine lv_dup2_11 hx hb dL_isActed_232 rfl rfl ?_
      obtain ⟨y43, ey43, h⟩ := bd_in h
      refine ldR hx hb hK hP 97 0 rfl rfl ey43 dL_isActed_233 ?_
      refine lv_iconst (v := (1 : Int32)) hx hb dL_isActed_234 (by decide) ?_
      refine lv_iadd hx hb dL_isActed_235 ?_
      obtain ⟨g44, eg44, h⟩ := bd_in h
      refine stR hx hb hK hP hD hS 97 0 rfl rfl eg44 (ws' := (wF cA cQ adF adB adT adH kH adR adO vB vT vH bH vR vO ++ [aI cA zl 41 g42, aI cA zp 48 fp, aI cA zt 16 g44, aI cA zr 9 fr])) rfl dL_isActed_236 (fun H locs hP hD hS => ?_)
      refine lv_aload_n hx hb dL_isActed_237 rfl (lv_at hl 4 rfl) ?_
      refine lv_iconst (v := (3 : Int32)) hx hb dL_isActed_238 (by decide) ?_
      refine lv_dup2_11 hx hb dL_isActed_239 rfl rfl ?_
      obtain ⟨y45, ey45, h⟩ := bd_in h
      refine ldR hx hb hK hP 97 0 rfl rfl ey45 dL_isActed_240 ?_
      refine lv_iload hx hb dL_isActed_241 (lv_at hl 8 rfl) ?_
      refine lv_iadd hx hb dL_isActed_243 ?_
      obtain ⟨g46, eg46, h⟩ := bd_in h
      refine stR hx hb hK hP hD hS 97 0 rfl rfl eg46 (ws' := (wF cA cQ adF adB adT adH kH adR adO vB vT vH bH vR vO ++ [aI cA zl 41 g42, aI cA zp 48 fp, aI cA zt 16 g46, aI cA zr 9 fr])) rfl dL_isActed_244 (fun H locs hP hD hS => ?_)
      refine lv_aload_n hx hb dL_isActed_245 rfl (lv_at hl 3 rfl) ?_
      refine lv_bipush (v := (6 : Int32)) hx hb dL_isActed_246 (by decide) ?_
      refine lv_iload hx hb dL_isActed_248 (lv_at hl 5 rfl) ?_
      refine lv_imul hx hb dL_isActed_250 ?_
      refine lv_iconst (v := (5 : Int32)) hx hb dL_isActed_251 (by decide) ?_
      refine lv_iadd hx hb dL_isActed_252 ?_
      refine lv_dup2_11 hx hb dL_isActed_253 rfl rfl ?_
      obtain ⟨y47, ey47, h⟩ := bd_in h
      refine ldR hx hb hK hP 96 0 rfl rfl ey47 dL_isActed_254 ?_
      refine lv_iload hx hb dL_isActed_255 (lv_at hl 8 rfl) ?_
      refine lv_isub hx hb dL_isActed_257 ?_
      obtain ⟨g48, eg48, h⟩ := bd_in h
      refine stR hx hb hK hP hD hS 96 0 rfl rfl eg48 (ws' := (wF cA cQ adF adB adT adH kH adR adO vB vT vH bH vR vO ++ [aI cA zl 41 g42, aI cA zp 48 g48, aI cA zt 16 g46, aI cA zr 9 fr])) rfl dL_isActed_258 (fun H locs hP hD hS => ?_)
      refine lv_aload_n hx hb dL_isActed_259 rfl (lv_at hl 3 rfl) ?_
      refine lv_bipush (v := (6 : Int32)) hx hb dL_isActed_260 (by decide) ?_
      refine lv_iload hx hb dL_isActed_262 (lv_at hl 6 rfl) ?_
      refine lv_imul hx hb dL_isActed_264 ?_
      refine lv_iconst (v := (5 : Int32)) hx hb dL_isActed_265 (by decide) ?_
      refine lv_iadd hx hb dL_isActed_266 ?_
      refine lv_dup2_11 hx hb dL_isActed_267 rfl rfl ?_
      obtain ⟨y49, ey49, h⟩ := bd_in h
      refine ldR hx hb hK hP 96 0 rfl rfl ey49 dL_isActed_268 ?_
      refine lv_iload hx hb dL_isActed_269 (lv_at hl 8 rfl) ?_
      refine lv_iadd hx hb dL_isActed_271 ?_
      obtain ⟨g50, eg50, h⟩ := bd_in h
      refine stR hx hb hK hP hD hS 96 0 rfl rfl eg50 (ws' := (wF cA cQ adF adB adT adH kH adR adO vB vT vH bH vR vO ++ [aI cA zl 41 g42, aI cA zp 48 g50, aI cA zt 16 g46, aI cA zr 9 fr])) rfl dL_isActed_272 (fun H locs hP hD hS => ?_)
      refine lv_aload_n hx hb dL_isActed_273 rfl (lv_at hl 2 rfl) ?_
      refine lv_aload_n hx hb dL_isActed_274 rfl (lv_at hl 4 rfl) ?_
      refine lv_iload hx hb dL_isActed_275 (lv_at hl 5 rfl) ?_
      refine lv_iload hx hb dL_isActed_277 (lv_at hl 6 rfl) ?_
      refine lv_iload hx hb dL_isActed_279 (lv_at hl 7 rfl) ?_
      obtain ⟨u51, eu51, h⟩ := bd_in h
      refine kI (va_runS (As := [.ref zl, .ref zt, .int x7, .int x8, .int x9]) (rest := []) ⟨hx, hb, hml, hown, hts⟩ (c_L_owed l D cA cQ zl zt g42 g46 x7 x8 x9 u51 eu51 _) (va_cwS 5 hts gL_isActed_L_owed rfl rfl rfl (by decide +kernel) ⟨Nat.le_of_ble_eq_true rfl, Nat.le_of_ble_eq_true rfl⟩) (pS hK hN hP hD [95, 97] rfl rfl) rfl rfl hl.1 rfl (lv_room (Nat.le_of_ble_eq_true rfl)) dL_isActed_281 ⟨(by show _ + _ ≤ 2001; omega), (by show _ + _ ≤ 16008; omega)⟩) hP hD hS hA [95, 97] rfl rfl (ws' := (wF cA cQ adF adB adT adH kH adR adO vB vT vH bH vR vO ++ [aI cA zl 41 g42, aI cA zp 48 g50, aI cA zt 16 g46, aI cA zr 9 fr])) rfl (fun H locs hP hD hS => ?_)
      refine lv_istore (lv' := [(12, .int u51), (0, .ref adF), (1, .ref zl), (2, .ref zp), (3, .ref zt), (7, .int x7), (8, .int x8), (9, .int x9), (10, .int x10)]) hx hb dL_isActed_284 hl (by decide) rfl (fun ls hl => ?_)
      exact B286 _ _ vB vT vH bH vR g42 g50 g46 fr x7 x8 x9 x10 u51 _ _ _ (by first | omega | (unfold FU; omega)) (by first | omega | (unfold FU; omega)) h hP hD hS (lv_sub hl [1, 5, 6, 7, 8, 0] rfl)
  have B146 : ∀ (N S : Nat) (vB : St) (vT : St) (vH : St) (bH : Nat → St) (vR : St) (fl : Nat → Int32) (fp : Nat → Int32) (ft : Nat → Int32) (fr : Nat → Int32) (x7 : Int32) (x8 : Int32) (x9 : Int32) (x10 : Int32) (t0 : Int32) (H : Heap) (locs : List Loc) (ls : Array Slot), N + 2001 ≤ 2001 → S + 8 * 2001 ≤ 16008 → L_isActed_b146 vO p5 p6 vB vT vH bH vR fl fp ft fr x7 x8 x9 x10 t0 = some o → va_P D vwCl (wF cA cQ adF adB adT adH kH adR adO vB vT vH bH vR vO ++ [aI cA zl 41 fl, aI cA zp 48 fp, aI cA zt 16 ft, aI cA zr 9 fr]) H → va_D A (wF cA cQ adF adB adT adH kH adR adO vB vT vH bH vR vO ++ [aI cA zl 41 fl, aI cA zp 48 fp, aI cA zt 16 ft, aI cA zr 9 fr]) → va_S A s.heap H locs → lv_has ls 15 [(0, .ref adF), (1, .ref zl), (2, .ref zp), (3, .ref zt), (4, .ref zr), (5, .int p5), (6, .int p6), (7, .int x7), (8, .int x8), (9, .int x9), (10, .int x10)] → W p l e (headSpec wsL_isActed ({ frames := 7, cells := 2001, slots := 16008, locals := 189 })).room s m ([.ref adF, .ref zl, .ref zp, .ref zt, .ref zr, .int p5, .int p6] : List Value).toArray below meth c H locs N S (MQ below (QI D (wF cA cQ adF adB adT adH kH adR adO o.2.1 o.2.2.1 o.2.2.2.1 o.2.2.2.2.1 o.2.2.2.2.2.1 vO ++ [aI cA zl 41 o.2.2.2.2.2.2.1, aI cA zp 48 o.2.2.2.2.2.2.2.1, aI cA zt 16 o.2.2.2.2.2.2.2.2.1, aI cA zr 9 o.2.2.2.2.2.2.2.2.2]) o.1 A) ([.ref adF, .ref zl, .ref zp, .ref zt, .ref zr, .int p5, .int p6] : List Value).toArray s 2001 16008 A) (F0 m 146 ls [.int t0]) := by
    intro N S vB vT vH bH vR fl fp ft fr x7 x8 x9 x10 t0 H locs ls hn1 hn2 h hP hD hS hl
    unfold L_isActed_b146 at h
    refine lv_istore (lv' := [(11, .int t0), (0, .ref adF), (1, .ref zl), (2, .ref zp), (3, .ref zt), (4, .ref zr), (5, .int p5), (6, .int p6), (7, .int x7), (8, .int x8), (9, .int x9), (10, .int x10)]) hx hb dL_isActed_146 hl (by decide) rfl (fun ls hl => ?_)
    refine lv_iload hx hb dL_isActed_148 (lv_at hl 6 rfl) ?_
    refine lv_bipush (v := (10 : Int32)) hx hb dL_isActed_150 (by decide) ?_
    refine lv_icmp_ge (tgt := 309) hx hb dL_isActed_152 (by decide) (fun c52 => ?_) (fun c52 => ?_)
    · have h := (if_pos c52).symm.trans h
      refine lv_iload hx hb dL_isActed_309 (lv_at hl 6 rfl) ?_
      refine lv_bipush (v := (12 : Int32)) hx hb dL_isActed_311 (by decide) ?_
      refine lv_icmp_ge (tgt := 460) hx hb dL_isActed_313 (by decide) (fun c53 => ?_) (fun c53 => ?_)
      · have h := (if_pos c53).symm.trans h
        refine lv_iload hx hb dL_isActed_460 (lv_at hl 6 rfl) ?_
        refine lv_bipush (v := (14 : Int32)) hx hb dL_isActed_462 (by decide) ?_
        refine lv_icmp_ge (tgt := 583) hx hb dL_isActed_464 (by decide) (fun c54 => ?_) (fun c54 => ?_)
        · have h := (if_pos c54).symm.trans h
          refine lv_iload hx hb dL_isActed_583 (lv_at hl 6 rfl) ?_
          refine lv_bipush (v := (16 : Int32)) hx hb dL_isActed_585 (by decide) ?_
          refine lv_icmp_ge (tgt := 637) hx hb dL_isActed_587 (by decide) (fun c55 => ?_) (fun c55 => ?_)
          · have h := (if_pos c55).symm.trans h
            refine lv_iload hx hb dL_isActed_637 (lv_at hl 6 rfl) ?_
            refine lv_bipush (v := (16 : Int32)) hx hb dL_isActed_639 (by decide) ?_
            refine lv_icmp_ne (tgt := 719) hx hb dL_isActed_641 (by decide) (fun c56 => ?_) (fun c56 => ?_)
            · have h := (if_neg c56).symm.trans h
              refine lv_iload hx hb dL_isActed_719 (lv_at hl 6 rfl) ?_
              refine lv_bipush (v := (17 : Int32)) hx hb dL_isActed_721 (by decide) ?_
              refine lv_icmp_ne (tgt := 775) hx hb dL_isActed_723 (by decide) (fun c57 => ?_) (fun c57 => ?_)
              · have h := (if_neg c57).symm.trans h
                refine lv_iconst (v := (1 : Int32)) hx hb dL_isActed_775 (by decide) ?_
                refine lv_iload hx hb dL_isActed_776 (lv_at hl 7 rfl) ?_
                refine lv_iconst (v := (5 : Int32)) hx hb dL_isActed_778 (by decide) ?_
                obtain ⟨r58, er58, h⟩ := bd_in h
                refine rmR hx hb er58 dL_isActed_779 ?_
                refine lv_iadd hx hb dL_isActed_780 ?_
                refine lv_istore (lv' := [(12, .int ((1 : Int32) + r58)), (11, .int t0), (0, .ref adF), (1, .ref zl), (2, .ref zp), (3, .ref zt), (4, .ref zr), (5, .int p5), (6, .int p6), (7, .int x7), (8, .int x8), (9, .int x9), (10, .int x10)]) hx hb dL_isActed_781 hl (by decide) rfl (fun ls hl => ?_)
                refine lv_iconst (v := (0 : Int32)) hx hb dL_isActed_783 (by decide) ?_
                refine lv_istore (lv' := [(13, .int (0 : Int32)), (12, .int ((1 : Int32) + r58)), (11, .int t0), (0, .ref adF), (1, .ref zl), (2, .ref zp), (3, .ref zt), (4, .ref zr), (5, .int p5), (6, .int p6), (7, .int x7), (8, .int x8), (9, .int x9), (10, .int x10)]) hx hb dL_isActed_784 hl (by decide) rfl (fun ls hl => ?_)
                refine lv_iconst (v := (0 : Int32)) hx hb dL_isActed_786 (by decide) ?_
                refine lv_istore (lv' := [(14, .int (0 : Int32)), (13, .int (0 : Int32)), (12, .int ((1 : Int32) + r58)), (11, .int t0), (0, .ref adF), (1, .ref zl), (2, .ref zp), (3, .ref zt), (4, .ref zr), (5, .int p5), (6, .int p6), (7, .int x7), (8, .int x8), (9, .int x9), (10, .int x10)]) hx hb dL_isActed_787 hl (by decide) rfl (fun ls hl => ?_)
                exact B789 FU _ _ vB vT vH bH vR fl fp ft fr ((1 : Int32) + r58) (0 : Int32) (0 : Int32) _ _ _ (by first | omega | (unfold FU; omega)) (by first | omega | (unfold FU; omega)) h hP hD hS (lv_sub hl [4, 5, 6, 7, 2, 1, 0] rfl)
              · have h := (if_pos c57).symm.trans h
                refine lv_aload_n hx hb dL_isActed_726 rfl (lv_at hl 4 rfl) ?_
                refine lv_bipush (v := (9 : Int32)) hx hb dL_isActed_727 (by decide) ?_
                obtain ⟨y59, ey59, h⟩ := bd_in h
                refine ldR hx hb hK hP 97 0 rfl rfl ey59 dL_isActed_729 ?_
                refine lv_istore (lv' := [(12, .int y59), (11, .int t0), (0, .ref adF), (1, .ref zl), (2, .ref zp), (3, .ref zt), (4, .ref zr), (5, .int p5), (6, .int p6), (7, .int x7), (8, .int x8), (9, .int x9), (10, .int x10)]) hx hb dL_isActed_730 hl (by decide) rfl (fun ls hl => ?_)
                refine lv_aload_n hx hb dL_isActed_732 rfl (lv_at hl 5 rfl) ?_
                refine lv_bipush (v := (9 : Int32)) hx hb dL_isActed_733 (by decide) ?_
                refine lv_iload hx hb dL_isActed_735 (lv_at hl 8 rfl) ?_
                refine lv_iconst (v := (3 : Int32)) hx hb dL_isActed_737 (by decide) ?_
                obtain ⟨r60, er60, h⟩ := bd_in h
                refine rmR hx hb er60 dL_isActed_738 ?_
                refine lv_if_ne (tgt := 746) hx hb dL_isActed_739 (by decide) (fun c61 => ?_) (fun c61 => ?_)
                · have h := (if_neg c61).symm.trans h
                  refine lv_iconst (v := (0 : Int32)) hx hb dL_isActed_746 (by decide) ?_
                  exact B747 _ _ vB vT vH bH vR fl fp ft fr y59 (9 : Int32) (0 : Int32) _ _ _ (by first | omega | (unfold FU; omega)) (by first | omega | (unfold FU; omega)) h hP hD hS (lv_sub hl [2, 8, 0] rfl)
                · have h := (if_pos c61).symm.trans h
                  refine lv_iconst (v := (1 : Int32)) hx hb dL_isActed_742 (by decide) ?_
                  refine lv_goto (tgt := 747) hx hb dL_isActed_743 (by decide) ?_
                  exact B747 _ _ vB vT vH bH vR fl fp ft fr y59 (9 : Int32) (1 : Int32) _ _ _ (by first | omega | (unfold FU; omega)) (by first | omega | (unfold FU; omega)) h hP hD hS (lv_sub hl [2, 8, 0] rfl)
            · have h := (if_pos c56).symm.trans h
              refine lv_iload hx hb dL_isActed_644 (lv_at hl 7 rfl) ?_
              refine lv_bipush (v := (6 : Int32)) hx hb dL_isActed_646 (by decide) ?_
              obtain ⟨r62, er62, h⟩ := bd_in h
              refine rmR hx hb er62 dL_isActed_648 ?_
              refine lv_istore (lv' := [(12, .int r62), (11, .int t0), (0, .ref adF), (1, .ref zl), (2, .ref zp), (3, .ref zt), (4, .ref zr), (5, .int p5), (6, .int p6), (7, .int x7), (8, .int x8), (9, .int x9), (10, .int x10)]) hx hb dL_isActed_649 hl (by decide) rfl (fun ls hl => ?_)
              refine lv_iload hx hb dL_isActed_651 (lv_at hl 0 rfl) ?_
              refine lv_iconst (v := (4 : Int32)) hx hb dL_isActed_653 (by decide) ?_
              refine lv_icmp_ne (tgt := 670) hx hb dL_isActed_654 (by decide) (fun c63 => ?_) (fun c63 => ?_)
              · have h := (if_neg c63).symm.trans h
                refine lv_iconst (v := (1 : Int32)) hx hb dL_isActed_670 (by decide) ?_
                refine lv_iload hx hb dL_isActed_671 (lv_at hl 8 rfl) ?_
                refine lv_bipush (v := (6 : Int32)) hx hb dL_isActed_673 (by decide) ?_
                obtain ⟨r64, er64, h⟩ := bd_in h
                refine dvR hx hb er64 dL_isActed_675 ?_
                refine lv_bipush (v := (20 : Int32)) hx hb dL_isActed_676 (by decide) ?_
                obtain ⟨r65, er65, h⟩ := bd_in h
                refine rmR hx hb er65 dL_isActed_678 ?_
                refine lv_iadd hx hb dL_isActed_679 ?_
                exact B680 _ _ vB vT vH bH vR fl fp ft fr r62 ((1 : Int32) + r65) _ _ _ (by first | omega | (unfold FU; omega)) (by first | omega | (unfold FU; omega)) h hP hD hS (lv_sub hl [2, 5, 0] rfl)
              · have h := (if_pos c63).symm.trans h
                refine lv_iconst (v := (5 : Int32)) hx hb dL_isActed_657 (by decide) ?_
                refine lv_iload hx hb dL_isActed_658 (lv_at hl 8 rfl) ?_
                refine lv_bipush (v := (6 : Int32)) hx hb dL_isActed_660 (by decide) ?_
                obtain ⟨r66, er66, h⟩ := bd_in h
                refine dvR hx hb er66 dL_isActed_662 ?_
                refine lv_bipush (v := (60 : Int32)) hx hb dL_isActed_663 (by decide) ?_
                obtain ⟨r67, er67, h⟩ := bd_in h
                refine rmR hx hb er67 dL_isActed_665 ?_
                refine lv_iadd hx hb dL_isActed_666 ?_
                refine lv_goto (tgt := 680) hx hb dL_isActed_667 (by decide) ?_
                exact B680 _ _ vB vT vH bH vR fl fp ft fr r62 ((5 : Int32) + r67) _ _ _ (by first | omega | (unfold FU; omega)) (by first | omega | (unfold FU; omega)) h hP hD hS (lv_sub hl [2, 5, 0] rfl)
          · have h := (if_neg c55).symm.trans h
            refine lv_iload hx hb dL_isActed_590 (lv_at hl 6 rfl) ?_
            refine lv_bipush (v := (14 : Int32)) hx hb dL_isActed_592 (by decide) ?_
            refine lv_icmp_ne (tgt := 602) hx hb dL_isActed_594 (by decide) (fun c68 => ?_) (fun c68 => ?_)
            · have h := (if_neg c68).symm.trans h
              refine lv_iload hx hb dL_isActed_602 (lv_at hl 7 rfl) ?_
              refine lv_iconst (v := (4 : Int32)) hx hb dL_isActed_604 (by decide) ?_
              obtain ⟨r69, er69, h⟩ := bd_in h
              refine rmR hx hb er69 dL_isActed_605 ?_
              exact B606 _ _ vB vT vH bH vR fl fp ft fr r69 _ _ _ (by first | omega | (unfold FU; omega)) (by first | omega | (unfold FU; omega)) h hP hD hS (lv_sub hl [1, 2, 3, 4, 5] rfl)
            · have h := (if_pos c68).symm.trans h
              refine lv_iload hx hb dL_isActed_597 (lv_at hl 10 rfl) ?_
              refine lv_goto (tgt := 606) hx hb dL_isActed_599 (by decide) ?_
              exact B606 _ _ vB vT vH bH vR fl fp ft fr x9 _ _ _ (by first | omega | (unfold FU; omega)) (by first | omega | (unfold FU; omega)) h hP hD hS (lv_sub hl [1, 2, 3, 4, 5] rfl)
        · have h := (if_neg c54).symm.trans h
          refine lv_iload hx hb dL_isActed_467 (lv_at hl 8 rfl) ?_
          refine lv_aload_n hx hb dL_isActed_469 rfl (lv_at hl 4 rfl) ?_
          refine lv_iconst (v := (1 : Int32)) hx hb dL_isActed_470 (by decide) ?_
          obtain ⟨y70, ey70, h⟩ := bd_in h
          refine ldR hx hb hK hP 97 0 rfl rfl ey70 dL_isActed_471 ?_
          refine lv_icmp_ge (tgt := 490) hx hb dL_isActed_472 (by decide) (fun c71 => ?_) (fun c71 => ?_)
          · have h := (if_pos c71).symm.trans h
            exact B490 _ _ vB vT vH bH vR fl fp ft fr x7 x8 x10 _ _ _ (by first | omega | (unfold FU; omega)) (by first | omega | (unfold FU; omega)) h hP hD hS (lv_sub hl [1, 3, 8, 9, 11] rfl)
          · have h := (if_neg c71).symm.trans h
            refine lv_iload hx hb dL_isActed_475 (lv_at hl 11 rfl) ?_
            refine lv_iconst (v := (1 : Int32)) hx hb dL_isActed_477 (by decide) ?_
            refine lv_icmp_eq (tgt := 486) hx hb dL_isActed_478 (by decide) (fun c72 => ?_) (fun c72 => ?_)
            · have h := (if_pos c72).symm.trans h
              exact B486 _ _ vB vT vH bH vR fl fp ft fr x7 x8 x10 _ _ _ (by first | omega | (unfold FU; omega)) (by first | omega | (unfold FU; omega)) h hP hD hS (lv_sub hl [1, 3, 8, 9, 11] rfl)
            · have h := (if_neg c72).symm.trans h
              refine lv_iload hx hb dL_isActed_481 (lv_at hl 0 rfl) ?_
              refine lv_if_eq (tgt := 490) hx hb dL_isActed_483 (by decide) (fun c73 => ?_) (fun c73 => ?_)
              · have h := (if_pos c73).symm.trans h
                exact B490 _ _ vB vT vH bH vR fl fp ft fr x7 x8 x10 _ _ _ (by first | omega | (unfold FU; omega)) (by first | omega | (unfold FU; omega)) h hP hD hS (lv_sub hl [1, 3, 8, 9, 11] rfl)
              · have h := (if_neg c73).symm.trans h
                exact B486 _ _ vB vT vH bH vR fl fp ft fr x7 x8 x10 _ _ _ (by first | omega | (unfold FU; omega)) (by first | omega | (unfold FU; omega)) h hP hD hS (lv_sub hl [1, 3, 8, 9, 11] rfl)
      · have h := (if_neg c53).symm.trans h
        refine lv_iconst (v := (1 : Int32)) hx hb dL_isActed_316 (by decide) ?_
        refine lv_iload hx hb dL_isActed_317 (lv_at hl 11 rfl) ?_
        refine lv_iconst (v := (3 : Int32)) hx hb dL_isActed_319 (by decide) ?_
        obtain ⟨r74, er74, h⟩ := bd_in h
        refine rmR hx hb er74 dL_isActed_320 ?_
        refine lv_iadd hx hb dL_isActed_321 ?_
        refine lv_istore (lv' := [(12, .int ((1 : Int32) + r74)), (11, .int t0), (0, .ref adF), (1, .ref zl), (2, .ref zp), (3, .ref zt), (4, .ref zr), (5, .int p5), (6, .int p6), (7, .int x7), (8, .int x8), (9, .int x9), (10, .int x10)]) hx hb dL_isActed_322 hl (by decide) rfl (fun ls hl => ?_)
        refine lv_iload hx hb dL_isActed_324 (lv_at hl 1 rfl) ?_
        refine lv_if_ne (tgt := 334) hx hb dL_isActed_326 (by decide) (fun c75 => ?_) (fun c75 => ?_)
        · have h := (if_neg c75).symm.trans h
          refine lv_aload_n hx hb dL_isActed_334 rfl (lv_at hl 3 rfl) ?_
          refine lv_aload_n hx hb dL_isActed_335 rfl (lv_at hl 5 rfl) ?_
          refine lv_iload hx hb dL_isActed_336 (lv_at hl 9 rfl) ?_
          refine lv_iload hx hb dL_isActed_338 (lv_at hl 10 rfl) ?_
          refine lv_iload hx hb dL_isActed_340 (lv_at hl 11 rfl) ?_
          obtain ⟨u76, eu76, h⟩ := bd_in h
          refine kI (va_runS (As := [.ref zl, .ref zt, .int x7, .int x8, .int x9]) (rest := []) ⟨hx, hb, hml, hown, hts⟩ (c_L_owed l D cA cQ zl zt fl ft x7 x8 x9 u76 eu76 _) (va_cwS 5 hts gL_isActed_L_owed rfl rfl rfl (by decide +kernel) ⟨Nat.le_of_ble_eq_true rfl, Nat.le_of_ble_eq_true rfl⟩) (pS hK hN hP hD [95, 97] rfl rfl) rfl rfl hl.1 rfl (lv_room (Nat.le_of_ble_eq_true rfl)) dL_isActed_342 ⟨(by show _ + _ ≤ 2001; omega), (by show _ + _ ≤ 16008; omega)⟩) hP hD hS hA [95, 97] rfl rfl (ws' := (wF cA cQ adF adB adT adH kH adR adO vB vT vH bH vR vO ++ [aI cA zl 41 fl, aI cA zp 48 fp, aI cA zt 16 ft, aI cA zr 9 fr])) rfl (fun H locs hP hD hS => ?_)
          refine lv_iload hx hb dL_isActed_345 (lv_at hl 0 rfl) ?_
          refine lv_icmp_ge (tgt := 355) hx hb dL_isActed_347 (by decide) (fun c77 => ?_) (fun c77 => ?_)
          · have h := (if_pos c77).symm.trans h
            refine lv_aload_n hx hb dL_isActed_355 rfl (lv_at hl 3 rfl) ?_
            refine lv_aload_n hx hb dL_isActed_356 rfl (lv_at hl 5 rfl) ?_
            refine lv_iload hx hb dL_isActed_357 (lv_at hl 9 rfl) ?_
            refine lv_iload hx hb dL_isActed_359 (lv_at hl 10 rfl) ?_
            refine lv_iload hx hb dL_isActed_361 (lv_at hl 11 rfl) ?_
            obtain ⟨u78, eu78, h⟩ := bd_in h
            refine kI (va_runS (As := [.ref zl, .ref zt, .int x7, .int x8, .int x9]) (rest := []) ⟨hx, hb, hml, hown, hts⟩ (c_L_owed l D cA cQ zl zt fl ft x7 x8 x9 u78 eu78 _) (va_cwS 5 hts gL_isActed_L_owed rfl rfl rfl (by decide +kernel) ⟨Nat.le_of_ble_eq_true rfl, Nat.le_of_ble_eq_true rfl⟩) (pS hK hN hP hD [95, 97] rfl rfl) rfl rfl hl.1 rfl (lv_room (Nat.le_of_ble_eq_true rfl)) dL_isActed_363 ⟨(by show _ + _ ≤ 2001; omega), (by show _ + _ ≤ 16008; omega)⟩) hP hD hS hA [95, 97] rfl rfl (ws' := (wF cA cQ adF adB adT adH kH adR adO vB vT vH bH vR vO ++ [aI cA zl 41 fl, aI cA zp 48 fp, aI cA zt 16 ft, aI cA zr 9 fr])) rfl (fun H locs hP hD hS => ?_)
            refine lv_iload hx hb dL_isActed_366 (lv_at hl 0 rfl) ?_
            refine lv_isub hx hb dL_isActed_368 ?_
            exact B369 _ _ vB vT vH bH vR fl fp ft fr x7 x8 x9 ((1 : Int32) + r74) (u78 - ((1 : Int32) + r74)) _ _ _ (by first | omega | (unfold FU; omega)) (by first | omega | (unfold FU; omega)) h hP hD hS (lv_sub hl [2, 3, 4, 5, 9, 10, 11, 0] rfl)
          · have h := (if_neg c77).symm.trans h
            refine lv_ldc (v := (-1000002 : Int32)) hx hb hown (hts (.constant RL 93 (-1000002)) (List.mem_of_getElem? (i := 3) rfl)) dL_isActed_350 ?_
            refine lv_goto (tgt := 369) hx hb dL_isActed_352 (by decide) ?_
            exact B369 _ _ vB vT vH bH vR fl fp ft fr x7 x8 x9 ((1 : Int32) + r74) (-1000002 : Int32) _ _ _ (by first | omega | (unfold FU; omega)) (by first | omega | (unfold FU; omega)) h hP hD hS (lv_sub hl [2, 3, 4, 5, 9, 10, 11, 0] rfl)
        · have h := (if_pos c75).symm.trans h
          refine lv_ldc (v := (-1000001 : Int32)) hx hb hown (hts (.constant RL 58 (-1000001)) (List.mem_of_getElem? (i := 2) rfl)) dL_isActed_329 ?_
          refine lv_goto (tgt := 369) hx hb dL_isActed_331 (by decide) ?_
          exact B369 _ _ vB vT vH bH vR fl fp ft fr x7 x8 x9 ((1 : Int32) + r74) (-1000001 : Int32) _ _ _ (by first | omega | (unfold FU; omega)) (by first | omega | (unfold FU; omega)) h hP hD hS (lv_sub hl [2, 3, 4, 5, 9, 10, 11, 0] rfl)
    · have h := (if_neg c52).symm.trans h
      refine lv_iload hx hb dL_isActed_155 (lv_at hl 0 rfl) ?_
      refine lv_if_ne (tgt := 165) hx hb dL_isActed_157 (by decide) (fun c79 => ?_) (fun c79 => ?_)
      · have h := (if_neg c79).symm.trans h
        refine lv_aload_n hx hb dL_isActed_165 rfl (lv_at hl 2 rfl) ?_
        refine lv_aload_n hx hb dL_isActed_166 rfl (lv_at hl 3 rfl) ?_
        refine lv_aload_n hx hb dL_isActed_167 rfl (lv_at hl 4 rfl) ?_
        refine lv_iload hx hb dL_isActed_168 (lv_at hl 8 rfl) ?_
        refine lv_iload hx hb dL_isActed_170 (lv_at hl 11 rfl) ?_
        obtain ⟨u80, eu80, h⟩ := bd_in h
        refine kI (va_runS (As := [.ref zl, .ref zp, .ref zt, .int x7, .int x10]) (rest := []) ⟨hx, hb, hml, hown, hts⟩ (c_L_why l D cA cQ zl zp zt fl fp ft x7 x10 u80 eu80 _) (va_cwS 5 hts gL_isActed_L_why rfl rfl rfl (by decide +kernel) ⟨Nat.le_of_ble_eq_true rfl, Nat.le_of_ble_eq_true rfl⟩) (pS hK hN hP hD [95, 96, 97] rfl rfl) rfl rfl hl.1 rfl (lv_room (Nat.le_of_ble_eq_true rfl)) dL_isActed_172 ⟨(by show _ + _ ≤ 2001; omega), (by show _ + _ ≤ 16008; omega)⟩) hP hD hS hA [95, 96, 97] rfl rfl (ws' := (wF cA cQ adF adB adT adH kH adR adO vB vT vH bH vR vO ++ [aI cA zl 41 fl, aI cA zp 48 fp, aI cA zt 16 ft, aI cA zr 9 fr])) rfl (fun H locs hP hD hS => ?_)
        refine lv_if_le (tgt := 183) hx hb dL_isActed_175 (by decide) (fun c81 => ?_) (fun c81 => ?_)
        · have h := (if_pos c81).symm.trans h
          refine lv_aload_n hx hb dL_isActed_183 rfl (lv_at hl 4 rfl) ?_
          refine lv_iconst (v := (2 : Int32)) hx hb dL_isActed_184 (by decide) ?_
          obtain ⟨y82, ey82, h⟩ := bd_in h
          refine ldR hx hb hK hP 97 0 rfl rfl ey82 dL_isActed_185 ?_
          refine lv_bipush (v := (40 : Int32)) hx hb dL_isActed_186 (by decide) ?_
          refine lv_icmp_ne (tgt := 196) hx hb dL_isActed_188 (by decide) (fun c83 => ?_) (fun c83 => ?_)
          · have h := (if_neg c83).symm.trans h
            refine lv_iconst (v := (0 : Int32)) hx hb dL_isActed_196 (by decide) ?_
            exact B197 _ _ vB vT vH bH vR fl fp ft fr x7 x8 x9 x10 (0 : Int32) _ _ _ (by first | omega | (unfold FU; omega)) (by first | omega | (unfold FU; omega)) h hP hD hS (lv_sub hl [1, 2, 3, 4, 8, 9, 10, 11] rfl)
          · have h := (if_pos c83).symm.trans h
            refine lv_ldc (v := (-1000003 : Int32)) hx hb hown (hts (.constant RL 92 (-1000003)) (List.mem_of_getElem? (i := 1) rfl)) dL_isActed_191 ?_
            refine lv_goto (tgt := 197) hx hb dL_isActed_193 (by decide) ?_
            exact B197 _ _ vB vT vH bH vR fl fp ft fr x7 x8 x9 x10 (-1000003 : Int32) _ _ _ (by first | omega | (unfold FU; omega)) (by first | omega | (unfold FU; omega)) h hP hD hS (lv_sub hl [1, 2, 3, 4, 8, 9, 10, 11] rfl)
        · have h := (if_neg c81).symm.trans h
          refine lv_ldc (v := (-1000002 : Int32)) hx hb hown (hts (.constant RL 93 (-1000002)) (List.mem_of_getElem? (i := 3) rfl)) dL_isActed_178 ?_
          refine lv_goto (tgt := 197) hx hb dL_isActed_180 (by decide) ?_
          exact B197 _ _ vB vT vH bH vR fl fp ft fr x7 x8 x9 x10 (-1000002 : Int32) _ _ _ (by first | omega | (unfold FU; omega)) (by first | omega | (unfold FU; omega)) h hP hD hS (lv_sub hl [1, 2, 3, 4, 8, 9, 10, 11] rfl)
      · have h := (if_pos c79).symm.trans h
        refine lv_ldc (v := (-1000001 : Int32)) hx hb hown (hts (.constant RL 58 (-1000001)) (List.mem_of_getElem? (i := 2) rfl)) dL_isActed_160 ?_
        refine lv_goto (tgt := 197) hx hb dL_isActed_162 (by decide) ?_
        exact B197 _ _ vB vT vH bH vR fl fp ft fr x7 x8 x9 x10 (-1000001 : Int32) _ _ _ (by first | omega | (unfold FU; omega)) (by first | omega | (unfold FU; omega)) h hP hD hS (lv_sub hl [1, 2, 3, 4, 8, 9, 10, 11] rfl)
  have B145 : ∀ (N S : Nat) (vB : St) (vT : St) (vH : St) (bH : Nat → St) (vR : St) (fl : Nat → Int32) (fp : Nat → Int32) (ft : Nat → Int32) (fr : Nat → Int32) (x7 : Int32) (x8 : Int32) (x9 : Int32) (x10 : Int32) (H : Heap) (locs : List Loc) (ls : Array Slot), N + 2001 ≤ 2001 → S + 8 * 2001 ≤ 16008 → L_isActed_b145 vO p5 p6 vB vT vH bH vR fl fp ft fr x7 x8 x9 x10 = some o → va_P D vwCl (wF cA cQ adF adB adT adH kH adR adO vB vT vH bH vR vO ++ [aI cA zl 41 fl, aI cA zp 48 fp, aI cA zt 16 ft, aI cA zr 9 fr]) H → va_D A (wF cA cQ adF adB adT adH kH adR adO vB vT vH bH vR vO ++ [aI cA zl 41 fl, aI cA zp 48 fp, aI cA zt 16 ft, aI cA zr 9 fr]) → va_S A s.heap H locs → lv_has ls 15 [(0, .ref adF), (1, .ref zl), (2, .ref zp), (3, .ref zt), (4, .ref zr), (5, .int p5), (6, .int p6), (7, .int x7), (8, .int x8), (9, .int x9), (10, .int x10)] → W p l e (headSpec wsL_isActed ({ frames := 7, cells := 2001, slots := 16008, locals := 189 })).room s m ([.ref adF, .ref zl, .ref zp, .ref zt, .ref zr, .int p5, .int p6] : List Value).toArray below meth c H locs N S (MQ below (QI D (wF cA cQ adF adB adT adH kH adR adO o.2.1 o.2.2.1 o.2.2.2.1 o.2.2.2.2.1 o.2.2.2.2.2.1 vO ++ [aI cA zl 41 o.2.2.2.2.2.2.1, aI cA zp 48 o.2.2.2.2.2.2.2.1, aI cA zt 16 o.2.2.2.2.2.2.2.2.1, aI cA zr 9 o.2.2.2.2.2.2.2.2.2]) o.1 A) ([.ref adF, .ref zl, .ref zp, .ref zt, .ref zr, .int p5, .int p6] : List Value).toArray s 2001 16008 A) (F0 m 145 ls []) := by
    intro N S vB vT vH bH vR fl fp ft fr x7 x8 x9 x10 H locs ls hn1 hn2 h hP hD hS hl
    unfold L_isActed_b145 at h
    refine lv_iconst (v := (0 : Int32)) hx hb dL_isActed_145 (by decide) ?_
    exact B146 _ _ vB vT vH bH vR fl fp ft fr x7 x8 x9 x10 (0 : Int32) _ _ _ (by first | omega | (unfold FU; omega)) (by first | omega | (unfold FU; omega)) h hP hD hS (lv_sub hl [0, 1, 2, 3, 4, 5, 6, 7, 8, 9, 10] rfl)
  have B109 : ∀ (N S : Nat) (vB : St) (vT : St) (vH : St) (bH : Nat → St) (vR : St) (fl : Nat → Int32) (fp : Nat → Int32) (ft : Nat → Int32) (fr : Nat → Int32) (t0 : Int32) (t1 : Int32) (H : Heap) (locs : List Loc) (ls : Array Slot), N + 0 ≤ 2001 → S + 8 * 0 ≤ 16008 → L_isActed_b109 vO p5 p6 vB vT vH bH vR fl fp ft fr t0 t1 = some o → va_P D vwCl (wF cA cQ adF adB adT adH kH adR adO vB vT vH bH vR vO ++ [aI cA zl 41 fl, aI cA zp 48 fp, aI cA zt 16 ft, aI cA zr 9 fr]) H → va_D A (wF cA cQ adF adB adT adH kH adR adO vB vT vH bH vR vO ++ [aI cA zl 41 fl, aI cA zp 48 fp, aI cA zt 16 ft, aI cA zr 9 fr]) → va_S A s.heap H locs → lv_has ls 15 [] → W p l e (headSpec wsL_isActed ({ frames := 7, cells := 2001, slots := 16008, locals := 189 })).room s m ([.ref adF, .ref zl, .ref zp, .ref zt, .ref zr, .int p5, .int p6] : List Value).toArray below meth c H locs N S (MQ below (QI D (wF cA cQ adF adB adT adH kH adR adO o.2.1 o.2.2.1 o.2.2.2.1 o.2.2.2.2.1 o.2.2.2.2.2.1 vO ++ [aI cA zl 41 o.2.2.2.2.2.2.1, aI cA zp 48 o.2.2.2.2.2.2.2.1, aI cA zt 16 o.2.2.2.2.2.2.2.2.1, aI cA zr 9 o.2.2.2.2.2.2.2.2.2]) o.1 A) ([.ref adF, .ref zl, .ref zp, .ref zt, .ref zr, .int p5, .int p6] : List Value).toArray s 2001 16008 A) (F0 m 109 ls [.int t1, .int t0]) := by
    intro N S vB vT vH bH vR fl fp ft fr t0 t1 H locs ls hn1 hn2 h hP hD hS hl
    unfold L_isActed_b109 at h
    refine lv_icmp_ne (tgt := 116) hx hb dL_isActed_109 (by decide) (fun c84 => ?_) (fun c84 => ?_)
    · have h := (if_neg c84).symm.trans h
      refine lv_iconst (v := (0 : Int32)) hx hb dL_isActed_116 (by decide) ?_
      cases h
      refine W.widen (k := 2001) (n := 16008) (by omega) (by omega) ?_
      exact endZ hx hb hr hlocks hP hS ⟨rfl, rfl⟩ dL_isActed_117
    · have h := (if_pos c84).symm.trans h
      refine lv_iconst (v := (1 : Int32)) hx hb dL_isActed_112 (by decide) ?_
      refine lv_goto (tgt := 117) hx hb dL_isActed_113 (by decide) ?_
      cases h
      refine W.widen (k := 2001) (n := 16008) (by omega) (by omega) ?_
      exact endZ hx hb hr hlocks hP hS ⟨rfl, rfl⟩ dL_isActed_117
  have B88 : ∀ (N S : Nat) (vB : St) (vT : St) (vH : St) (bH : Nat → St) (vR : St) (fl : Nat → Int32) (fp : Nat → Int32) (ft : Nat → Int32) (fr : Nat → Int32) (x11 : Int32) (t1 : Int32) (t2 : Int32) (t3 : Int32) (H : Heap) (locs : List Loc) (ls : Array Slot), N + 0 ≤ 2001 → S + 8 * 0 ≤ 16008 → L_isActed_b88 vO p5 p6 vB vT vH bH vR fl fp ft fr x11 t1 t2 t3 = some o → va_P D vwCl (wF cA cQ adF adB adT adH kH adR adO vB vT vH bH vR vO ++ [aI cA zl 41 fl, aI cA zp 48 fp, aI cA zt 16 ft, aI cA zr 9 fr]) H → va_D A (wF cA cQ adF adB adT adH kH adR adO vB vT vH bH vR vO ++ [aI cA zl 41 fl, aI cA zp 48 fp, aI cA zt 16 ft, aI cA zr 9 fr]) → va_S A s.heap H locs → lv_has ls 15 [(0, .ref adF), (3, .ref zt), (11, .int x11)] → W p l e (headSpec wsL_isActed ({ frames := 7, cells := 2001, slots := 16008, locals := 189 })).room s m ([.ref adF, .ref zl, .ref zp, .ref zt, .ref zr, .int p5, .int p6] : List Value).toArray below meth c H locs N S (MQ below (QI D (wF cA cQ adF adB adT adH kH adR adO o.2.1 o.2.2.1 o.2.2.2.1 o.2.2.2.2.1 o.2.2.2.2.2.1 vO ++ [aI cA zl 41 o.2.2.2.2.2.2.1, aI cA zp 48 o.2.2.2.2.2.2.2.1, aI cA zt 16 o.2.2.2.2.2.2.2.2.1, aI cA zr 9 o.2.2.2.2.2.2.2.2.2]) o.1 A) ([.ref adF, .ref zl, .ref zp, .ref zt, .ref zr, .int p5, .int p6] : List Value).toArray s 2001 16008 A) (F0 m 88 ls [.int t3, .int t2, .int t1, .ref zt]) := by
    intro N S vB vT vH bH vR fl fp ft fr x11 t1 t2 t3 H locs ls hn1 hn2 h hP hD hS hl
    unfold L_isActed_b88 at h
    refine lv_iadd hx hb dL_isActed_88 ?_
    obtain ⟨g85, eg85, h⟩ := bd_in h
    refine stR hx hb hK hP hD hS 97 0 rfl rfl eg85 (ws' := (wF cA cQ adF adB adT adH kH adR adO vB vT vH bH vR vO ++ [aI cA zl 41 fl, aI cA zp 48 fp, aI cA zt 16 g85, aI cA zr 9 fr])) rfl dL_isActed_89 (fun H locs hP hD hS => ?_)
    refine lv_aload_n hx hb dL_isActed_90 rfl (lv_at hl 0 rfl) ?_
    obtain ⟨u86, eu86, h⟩ := bd_in h
    refine kI (va_runV (As := []) (rest := []) ⟨hx, hb, hml, hown, hts⟩ (c_X4_pupil l D cA cQ adF adB adT adH kH adR adO vB vT vH bH vR vO u86 eu86 _) (cwV 0 hts gL_isActed_X4_pupil rfl rfl rfl (by decide +kernel) ⟨Nat.le_of_ble_eq_true rfl, Nat.le_of_ble_eq_true rfl⟩) (pV (ci := 4) (q := (RX4, TX4, 5)) hK hN hP hD [0, 1, 2, 3, 4, 5, 6, 7, 8, 9, 10, 11, 12, 13, 14, 15, 16, 17, 18, 19, 20, 21, 22, 23, 24, 25, 26, 27, 28, 29, 30, 31, 32, 33, 34, 35, 36, 37, 38, 39, 40, 41, 42, 43, 44, 45, 46, 47, 48, 49, 50, 51, 52, 53, 54, 55, 56, 57, 58, 59, 60, 61, 62, 63, 64, 65, 66, 67, 68, 69, 70, 71, 72, 73, 74, 75, 76, 77, 78, 79, 80, 81, 82, 83, 84, 85, 86, 87, 88, 89, 90, 91, 92, 93, 94] rfl rfl rfl rfl) rfl rfl hl.1 rfl (lv_room (Nat.le_of_ble_eq_true rfl)) dL_isActed_91 ⟨(by show _ + _ ≤ 2001; omega), (by show _ + _ ≤ 16008; omega)⟩) hP hD hS hA [0, 1, 2, 3, 4, 5, 6, 7, 8, 9, 10, 11, 12, 13, 14, 15, 16, 17, 18, 19, 20, 21, 22, 23, 24, 25, 26, 27, 28, 29, 30, 31, 32, 33, 34, 35, 36, 37, 38, 39, 40, 41, 42, 43, 44, 45, 46, 47, 48, 49, 50, 51, 52, 53, 54, 55, 56, 57, 58, 59, 60, 61, 62, 63, 64, 65, 66, 67, 68, 69, 70, 71, 72, 73, 74, 75, 76, 77, 78, 79, 80, 81, 82, 83, 84, 85, 86, 87, 88, 89, 90, 91, 92, 93, 94] rfl rfl (ws' := (wF cA cQ adF adB adT adH kH adR adO u86.2.1 u86.2.2.1 u86.2.2.2.1 u86.2.2.2.2 vR vO ++ [aI cA zl 41 fl, aI cA zp 48 fp, aI cA zt 16 g85, aI cA zr 9 fr])) rfl (fun H locs hP hD hS => ?_)
    refine lv_iload hx hb dL_isActed_94 (lv_at hl 2 rfl) ?_
    refine lv_if_eq (tgt := 104) hx hb dL_isActed_96 (by decide) (fun c87 => ?_) (fun c87 => ?_)
    · have h := (if_pos c87).symm.trans h
      refine lv_aload_n hx hb dL_isActed_104 rfl (lv_at hl 1 rfl) ?_
      refine lv_iconst (v := (1 : Int32)) hx hb dL_isActed_105 (by decide) ?_
      obtain ⟨y88, ey88, h⟩ := bd_in h
      refine ldR hx hb hK hP 97 0 rfl rfl ey88 dL_isActed_106 ?_
      refine lv_iconst (v := (1 : Int32)) hx hb dL_isActed_107 (by decide) ?_
      refine lv_isub hx hb dL_isActed_108 ?_
      exact B109 _ _ u86.2.1 u86.2.2.1 u86.2.2.2.1 u86.2.2.2.2 vR fl fp g85 fr u86.1 (y88 - (1 : Int32)) _ _ _ (by first | omega | (unfold FU; omega)) (by first | omega | (unfold FU; omega)) h hP hD hS (lv_sub hl [] rfl)
    · have h := (if_neg c87).symm.trans h
      refine lv_ldc (v := (-1000003 : Int32)) hx hb hown (hts (.constant RL 92 (-1000003)) (List.mem_of_getElem? (i := 1) rfl)) dL_isActed_99 ?_
      refine lv_goto (tgt := 109) hx hb dL_isActed_101 (by decide) ?_
      exact B109 _ _ u86.2.1 u86.2.2.1 u86.2.2.2.1 u86.2.2.2.2 vR fl fp g85 fr u86.1 (-1000003 : Int32) _ _ _ (by first | omega | (unfold FU; omega)) (by first | omega | (unfold FU; omega)) h hP hD hS (lv_sub hl [] rfl)
  have B72 : ∀ (N S : Nat) (vB : St) (vT : St) (vH : St) (bH : Nat → St) (vR : St) (fl : Nat → Int32) (fp : Nat → Int32) (ft : Nat → Int32) (fr : Nat → Int32) (t0 : Int32) (H : Heap) (locs : List Loc) (ls : Array Slot), N + 0 ≤ 2001 → S + 8 * 0 ≤ 16008 → L_isActed_b72 vO p5 p6 vB vT vH bH vR fl fp ft fr t0 = some o → va_P D vwCl (wF cA cQ adF adB adT adH kH adR adO vB vT vH bH vR vO ++ [aI cA zl 41 fl, aI cA zp 48 fp, aI cA zt 16 ft, aI cA zr 9 fr]) H → va_D A (wF cA cQ adF adB adT adH kH adR adO vB vT vH bH vR vO ++ [aI cA zl 41 fl, aI cA zp 48 fp, aI cA zt 16 ft, aI cA zr 9 fr]) → va_S A s.heap H locs → lv_has ls 15 [(0, .ref adF), (3, .ref zt)] → W p l e (headSpec wsL_isActed ({ frames := 7, cells := 2001, slots := 16008, locals := 189 })).room s m ([.ref adF, .ref zl, .ref zp, .ref zt, .ref zr, .int p5, .int p6] : List Value).toArray below meth c H locs N S (MQ below (QI D (wF cA cQ adF adB adT adH kH adR adO o.2.1 o.2.2.1 o.2.2.2.1 o.2.2.2.2.1 o.2.2.2.2.2.1 vO ++ [aI cA zl 41 o.2.2.2.2.2.2.1, aI cA zp 48 o.2.2.2.2.2.2.2.1, aI cA zt 16 o.2.2.2.2.2.2.2.2.1, aI cA zr 9 o.2.2.2.2.2.2.2.2.2]) o.1 A) ([.ref adF, .ref zl, .ref zp, .ref zt, .ref zr, .int p5, .int p6] : List Value).toArray s 2001 16008 A) (F0 m 72 ls [.int t0]) := by
    intro N S vB vT vH bH vR fl fp ft fr t0 H locs ls hn1 hn2 h hP hD hS hl
    unfold L_isActed_b72 at h
    refine lv_istore (lv' := [(11, .int t0), (0, .ref adF), (3, .ref zt)]) hx hb dL_isActed_72 hl (by decide) rfl (fun ls hl => ?_)
    refine lv_aload_n hx hb dL_isActed_74 rfl (lv_at hl 2 rfl) ?_
    refine lv_iconst (v := (1 : Int32)) hx hb dL_isActed_75 (by decide) ?_
    refine lv_dup2_11 hx hb dL_isActed_76 rfl rfl ?_
    obtain ⟨y89, ey89, h⟩ := bd_in h
    refine ldR hx hb hK hP 97 0 rfl rfl ey89 dL_isActed_77 ?_
    refine lv_iload hx hb dL_isActed_78 (lv_at hl 0 rfl) ?_
    refine lv_if_eq (tgt := 87) hx hb dL_isActed_80 (by decide) (fun c90 => ?_) (fun c90 => ?_)
    · have h := (if_pos c90).symm.trans h
      refine lv_iconst (v := (1 : Int32)) hx hb dL_isActed_87 (by decide) ?_
      exact B88 _ _ vB vT vH bH vR fl fp ft fr t0 (1 : Int32) y89 (1 : Int32) _ _ _ (by first | omega | (unfold FU; omega)) (by first | omega | (unfold FU; omega)) h hP hD hS (lv_sub hl [1, 2, 0] rfl)
    · have h := (if_neg c90).symm.trans h
      refine lv_iconst (v := (0 : Int32)) hx hb dL_isActed_83 (by decide) ?_
      refine lv_goto (tgt := 88) hx hb dL_isActed_84 (by decide) ?_
      exact B88 _ _ vB vT vH bH vR fl fp ft fr t0 (1 : Int32) y89 (0 : Int32) _ _ _ (by first | omega | (unfold FU; omega)) (by first | omega | (unfold FU; omega)) h hP hD hS (lv_sub hl [1, 2, 0] rfl)
  have B39 : ∀ (N S : Nat) (vB : St) (vT : St) (vH : St) (bH : Nat → St) (vR : St) (fl : Nat → Int32) (fp : Nat → Int32) (ft : Nat → Int32) (fr : Nat → Int32) (x7 : Int32) (x8 : Int32) (t0 : Int32) (H : Heap) (locs : List Loc) (ls : Array Slot), N + 2001 ≤ 2001 → S + 8 * 2001 ≤ 16008 → L_isActed_b39 vO p5 p6 vB vT vH bH vR fl fp ft fr x7 x8 t0 = some o → va_P D vwCl (wF cA cQ adF adB adT adH kH adR adO vB vT vH bH vR vO ++ [aI cA zl 41 fl, aI cA zp 48 fp, aI cA zt 16 ft, aI cA zr 9 fr]) H → va_D A (wF cA cQ adF adB adT adH kH adR adO vB vT vH bH vR vO ++ [aI cA zl 41 fl, aI cA zp 48 fp, aI cA zt 16 ft, aI cA zr 9 fr]) → va_S A s.heap H locs → lv_has ls 15 [(0, .ref adF), (1, .ref zl), (2, .ref zp), (3, .ref zt), (4, .ref zr), (5, .int p5), (6, .int p6), (7, .int x7), (8, .int x8)] → W p l e (headSpec wsL_isActed ({ frames := 7, cells := 2001, slots := 16008, locals := 189 })).room s m ([.ref adF, .ref zl, .ref zp, .ref zt, .ref zr, .int p5, .int p6] : List Value).toArray below meth c H locs N S (MQ below (QI D (wF cA cQ adF adB adT adH kH adR adO o.2.1 o.2.2.1 o.2.2.2.1 o.2.2.2.2.1 o.2.2.2.2.2.1 vO ++ [aI cA zl 41 o.2.2.2.2.2.2.1, aI cA zp 48 o.2.2.2.2.2.2.2.1, aI cA zt 16 o.2.2.2.2.2.2.2.2.1, aI cA zr 9 o.2.2.2.2.2.2.2.2.2]) o.1 A) ([.ref adF, .ref zl, .ref zp, .ref zt, .ref zr, .int p5, .int p6] : List Value).toArray s 2001 16008 A) (F0 m 39 ls [.int t0]) := by
    intro N S vB vT vH bH vR fl fp ft fr x7 x8 t0 H locs ls hn1 hn2 h hP hD hS hl
    unfold L_isActed_b39 at h
    refine lv_istore (lv' := [(9, .int t0), (0, .ref adF), (1, .ref zl), (2, .ref zp), (3, .ref zt), (4, .ref zr), (5, .int p5), (6, .int p6), (7, .int x7), (8, .int x8)]) hx hb dL_isActed_39 hl (by decide) rfl (fun ls hl => ?_)
    refine lv_iconst (v := (1 : Int32)) hx hb dL_isActed_41 (by decide) ?_
    refine lv_iload hx hb dL_isActed_42 (lv_at hl 7 rfl) ?_
    refine lv_sipush (v := (1280 : Int32)) hx hb dL_isActed_44 (by decide) ?_
    obtain ⟨r91, er91, h⟩ := bd_in h
    refine dvR hx hb er91 dL_isActed_47 ?_
    refine lv_bipush (v := (9 : Int32)) hx hb dL_isActed_48 (by decide) ?_
    obtain ⟨r92, er92, h⟩ := bd_in h
    refine rmR hx hb er92 dL_isActed_50 ?_
    refine lv_iadd hx hb dL_isActed_51 ?_
    refine lv_istore (lv' := [(10, .int ((1 : Int32) + r92)), (9, .int t0), (0, .ref adF), (1, .ref zl), (2, .ref zp), (3, .ref zt), (4, .ref zr), (5, .int p5), (6, .int p6), (7, .int x7), (8, .int x8)]) hx hb dL_isActed_52 hl (by decide) rfl (fun ls hl => ?_)
    refine lv_iload hx hb dL_isActed_54 (lv_at hl 7 rfl) ?_
    refine lv_if_ne (tgt := 118) hx hb dL_isActed_56 (by decide) (fun c93 => ?_) (fun c93 => ?_)
    · have h := (if_neg c93).symm.trans h
      refine lv_iload hx hb dL_isActed_118 (lv_at hl 9 rfl) ?_
      refine lv_aload_n hx hb dL_isActed_120 rfl (lv_at hl 5 rfl) ?_
      refine lv_iconst (v := (1 : Int32)) hx hb dL_isActed_121 (by decide) ?_
      obtain ⟨y94, ey94, h⟩ := bd_in h
      refine ldR hx hb hK hP 97 0 rfl rfl ey94 dL_isActed_122 ?_
      refine lv_icmp_ge (tgt := 145) hx hb dL_isActed_123 (by decide) (fun c95 => ?_) (fun c95 => ?_)
      · have h := (if_pos c95).symm.trans h
        exact B145 _ _ vB vT vH bH vR fl fp ft fr x7 x8 t0 ((1 : Int32) + r92) _ _ _ (by first | omega | (unfold FU; omega)) (by first | omega | (unfold FU; omega)) h hP hD hS (lv_sub hl [2, 3, 4, 5, 6, 7, 8, 9, 10, 1, 0] rfl)
      · have h := (if_neg c95).symm.trans h
        refine lv_iload hx hb dL_isActed_126 (lv_at hl 10 rfl) ?_
        refine lv_aload_n hx hb dL_isActed_128 rfl (lv_at hl 5 rfl) ?_
        refine lv_iconst (v := (1 : Int32)) hx hb dL_isActed_129 (by decide) ?_
        obtain ⟨y96, ey96, h⟩ := bd_in h
        refine ldR hx hb hK hP 97 0 rfl rfl ey96 dL_isActed_130 ?_
        refine lv_icmp_ge (tgt := 145) hx hb dL_isActed_131 (by decide) (fun c97 => ?_) (fun c97 => ?_)
        · have h := (if_pos c97).symm.trans h
          exact B145 _ _ vB vT vH bH vR fl fp ft fr x7 x8 t0 ((1 : Int32) + r92) _ _ _ (by first | omega | (unfold FU; omega)) (by first | omega | (unfold FU; omega)) h hP hD hS (lv_sub hl [2, 3, 4, 5, 6, 7, 8, 9, 10, 1, 0] rfl)
        · have h := (if_neg c97).symm.trans h
          refine lv_iload hx hb dL_isActed_134 (lv_at hl 9 rfl) ?_
          refine lv_iload hx hb dL_isActed_136 (lv_at hl 10 rfl) ?_
          refine lv_icmp_eq (tgt := 145) hx hb dL_isActed_138 (by decide) (fun c98 => ?_) (fun c98 => ?_)
          · have h := (if_pos c98).symm.trans h
            exact B145 _ _ vB vT vH bH vR fl fp ft fr x7 x8 t0 ((1 : Int32) + r92) _ _ _ (by first | omega | (unfold FU; omega)) (by first | omega | (unfold FU; omega)) h hP hD hS (lv_sub hl [2, 3, 4, 5, 6, 7, 8, 9, 10, 1, 0] rfl)
          · have h := (if_neg c98).symm.trans h
            refine lv_iconst (v := (1 : Int32)) hx hb dL_isActed_141 (by decide) ?_
            refine lv_goto (tgt := 146) hx hb dL_isActed_142 (by decide) ?_
            exact B146 _ _ vB vT vH bH vR fl fp ft fr x7 x8 t0 ((1 : Int32) + r92) (1 : Int32) _ _ _ (by first | omega | (unfold FU; omega)) (by first | omega | (unfold FU; omega)) h hP hD hS (lv_sub hl [2, 3, 4, 5, 6, 7, 8, 9, 10, 1, 0] rfl)
    · have h := (if_pos c93).symm.trans h
      refine lv_aload_n hx hb dL_isActed_59 rfl (lv_at hl 5 rfl) ?_
      refine lv_iconst (v := (1 : Int32)) hx hb dL_isActed_60 (by decide) ?_
      obtain ⟨y99, ey99, h⟩ := bd_in h
      refine ldR hx hb hK hP 97 0 rfl rfl ey99 dL_isActed_61 ?_
      refine lv_bipush (v := (8 : Int32)) hx hb dL_isActed_62 (by decide) ?_
      refine lv_icmp_ne (tgt := 71) hx hb dL_isActed_64 (by decide) (fun c100 => ?_) (fun c100 => ?_)
      · have h := (if_neg c100).symm.trans h
        refine lv_iconst (v := (0 : Int32)) hx hb dL_isActed_71 (by decide) ?_
        exact B72 _ _ vB vT vH bH vR fl fp ft fr (0 : Int32) _ _ _ (by first | omega | (unfold FU; omega)) (by first | omega | (unfold FU; omega)) h hP hD hS (lv_sub hl [2, 5] rfl)
      · have h := (if_pos c100).symm.trans h
        refine lv_iconst (v := (1 : Int32)) hx hb dL_isActed_67 (by decide) ?_
        refine lv_goto (tgt := 72) hx hb dL_isActed_68 (by decide) ?_
        exact B72 _ _ vB vT vH bH vR fl fp ft fr (1 : Int32) _ _ _ (by first | omega | (unfold FU; omega)) (by first | omega | (unfold FU; omega)) h hP hD hS (lv_sub hl [2, 5] rfl)
  have h := hf
  unfold L_isActed at h
  refine lv_iload hx hb dL_isActed_0 (lv_at hl 6 rfl) ?_
  refine lv_bipush (v := (8 : Int32)) hx hb dL_isActed_2 (by decide) ?_
  obtain ⟨r101, er101, h⟩ := bd_in h
  refine rmR hx hb er101 dL_isActed_4 ?_
  refine lv_istore (lv' := [(7, .int r101), (0, .ref adF), (1, .ref zl), (2, .ref zp), (3, .ref zt), (4, .ref zr), (5, .int p5), (6, .int p6)]) hx hb dL_isActed_5 hl (by decide) rfl (fun ls hl => ?_)
  refine lv_iload hx hb dL_isActed_7 (lv_at hl 7 rfl) ?_
  refine lv_bipush (v := (8 : Int32)) hx hb dL_isActed_9 (by decide) ?_
  obtain ⟨r102, er102, h⟩ := bd_in h
  refine dvR hx hb er102 dL_isActed_11 ?_
  refine lv_bipush (v := (8 : Int32)) hx hb dL_isActed_12 (by decide) ?_
  obtain ⟨r103, er103, h⟩ := bd_in h
  refine rmR hx hb er103 dL_isActed_14 ?_
  refine lv_istore (lv' := [(8, .int r103), (7, .int r101), (0, .ref adF), (1, .ref zl), (2, .ref zp), (3, .ref zt), (4, .ref zr), (5, .int p5), (6, .int p6)]) hx hb dL_isActed_15 hl (by decide) rfl (fun ls hl => ?_)
  refine lv_iload hx hb dL_isActed_17 (lv_at hl 8 rfl) ?_
  refine lv_bipush (v := (64 : Int32)) hx hb dL_isActed_19 (by decide) ?_
  obtain ⟨r104, er104, h⟩ := bd_in h
  refine dvR hx hb er104 dL_isActed_21 ?_
  refine lv_iconst (v := (5 : Int32)) hx hb dL_isActed_22 (by decide) ?_
  obtain ⟨r105, er105, h⟩ := bd_in h
  refine rmR hx hb er105 dL_isActed_23 ?_
  refine lv_if_ne (tgt := 38) hx hb dL_isActed_24 (by decide) (fun c106 => ?_) (fun c106 => ?_)
  · have h := (if_neg c106).symm.trans h
    refine lv_iconst (v := (1 : Int32)) hx hb dL_isActed_38 (by decide) ?_
    exact B39 _ _ vB vT vH bH vR fl fp ft fr r101 r103 (1 : Int32) _ _ _ (by first | omega | (unfold FU; omega)) (by first | omega | (unfold FU; omega)) h hP hD hS (lv_sub hl [2, 3, 4, 5, 6, 7, 8, 1, 0] rfl)
  · have h := (if_pos c106).symm.trans h
    refine lv_iload hx hb dL_isActed_27 (lv_at hl 8 rfl) ?_
    refine lv_sipush (v := (320 : Int32)) hx hb dL_isActed_29 (by decide) ?_
    obtain ⟨r107, er107, h⟩ := bd_in h
    refine dvR hx hb er107 dL_isActed_32 ?_
    refine lv_iconst (v := (4 : Int32)) hx hb dL_isActed_33 (by decide) ?_
    obtain ⟨r108, er108, h⟩ := bd_in h
    refine rmR hx hb er108 dL_isActed_34 ?_
    refine lv_goto (tgt := 39) hx hb dL_isActed_35 (by decide) ?_
    exact B39 _ _ vB vT vH bH vR fl fp ft fr r101 r103 r108 _ _ _ (by first | omega | (unfold FU; omega)) (by first | omega | (unfold FU; omega)) h hP hD hS (lv_sub hl [2, 3, 4, 5, 6, 7, 8, 1, 0] rfl)

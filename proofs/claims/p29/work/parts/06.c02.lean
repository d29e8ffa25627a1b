set_option maxHeartbeats 4000000 in
set_option maxRecDepth 100000 in
theorem c_L_areRings (l : Launch) (D : va_G) (cA cQ : ClassId) (adF : Nat) (adB : Nat → Nat) (adT : Nat → Nat) (adH : Nat → Nat) (kH : Nat → Nat → Nat) (adR : Nat → Nat) (adO : Nat → Nat) (zl : Nat) (zt : Nat) (zr : Nat) (vB : St) (vT : St) (vH : St) (bH : Nat → St) (vR : St) (vO : St) (fl : Nat → Int32) (ft : Nat → Int32) (fr : Nat → Int32) (o : Int32 × St × (Nat → Int32)) (hf : L_areRings vB vT vH bH vR vO fl ft fr = some o) : Ctj l yL_areRings wsL_areRings ({ frames := 4, cells := 5, slots := 40, locals := 96 }) D (TY cA cQ) [.ref adF, .ref zl, .ref zt, .ref zr] (wF cA cQ adF adB adT adH kH adR adO vB vT vH bH vR vO ++ [aI cA zl 41 fl, aI cA zt 16 ft, aI cA zr 9 fr]) (wF cA cQ adF adB adT adH kH adR adO vB vT vH bH o.2.1 vO ++ [aI cA zl 41 fl, aI cA zt 16 ft, aI cA zr 9 o.2.2]) o.1 5 40 := by
  refine Wk.j (cc := cL_areRings) (maxL := 9) (ret := (some .boolean)) (by decide) rfl (Nat.le_of_ble_eq_true rfl) ?_
  intro p e s m below meth c A ls hx hb hr hlocks hml hown hts hK hN hP hD hA hl
  have hown : s.vm.findClass RL = some m.cls := hown
  have hS : va_S A s.heap s.heap [] := va_S.rf
  have hl : lv_has ls 9 [(0, .ref adF), (1, .ref zl), (2, .ref zt), (3, .ref zr)] := hl
  have B42 : ∀ (fu42 : Nat) (N S : Nat) (vR : St) (fr : Nat → Int32) (x4 : Int32) (x5 : Int32) (H : Heap) (locs : List Loc) (ls : Array Slot), N + fu42 ≤ 5 → S + 8 * fu42 ≤ 40 → L_areRings_l42 vB vT vH bH vO fl ft fu42 vR fr x4 x5 = some o → va_P D vwCl (wF cA cQ adF adB adT adH kH adR adO vB vT vH bH vR vO ++ [aI cA zl 41 fl, aI cA zt 16 ft, aI cA zr 9 fr]) H → va_D A (wF cA cQ adF adB adT adH kH adR adO vB vT vH bH vR vO ++ [aI cA zl 41 fl, aI cA zt 16 ft, aI cA zr 9 fr]) → va_S A s.heap H locs → lv_has ls 9 [(0, .ref adF), (1, .ref zl), (2, .ref zt), (3, .ref zr), (4, .int x4), (5, .int x5)] → W p l e (headSpec wsL_areRings ({ frames := 4, cells := 5, slots := 40, locals := 96 })).room s m ([.ref adF, .ref zl, .ref zt, .ref zr] : List Value).toArray below meth c H locs N S (MQ below (QI D (wF cA cQ adF adB adT adH kH adR adO vB vT vH bH o.2.1 vO ++ [aI cA zl 41 fl, aI cA zt 16 ft, aI cA zr 9 o.2.2]) o.1 A) ([.ref adF, .ref zl, .ref zt, .ref zr] : List Value).toArray s 5 40 A) (F0 m 42 ls []) := by
    intro fu42
    induction fu42 with
    | zero =>
      intro N S vR fr x4 x5 H locs ls hn1 hn2 h hP hD hS hl
      cases h
    | succ fu42 ih42 =>
      have B163 : ∀ (fu163 : Nat) (N S : Nat) (vR : St) (fr : Nat → Int32) (x4 : Int32) (x5 : Int32) (x7 : Int32) (H : Heap) (locs : List Loc) (ls : Array Slot), N + fu42 ≤ 5 → S + 8 * fu42 ≤ 40 → L_areRings_l163 vB vT vH bH vO fl ft (L_areRings_l42 vB vT vH bH vO fl ft fu42) fu163 vR fr x4 x5 x7 = some o → va_P D vwCl (wF cA cQ adF adB adT adH kH adR adO vB vT vH bH vR vO ++ [aI cA zl 41 fl, aI cA zt 16 ft, aI cA zr 9 fr]) H → va_D A (wF cA cQ adF adB adT adH kH adR adO vB vT vH bH vR vO ++ [aI cA zl 41 fl, aI cA zt 16 ft, aI cA zr 9 fr]) → va_S A s.heap H locs → lv_has ls 9 [(0, .ref adF), (1, .ref zl), (2, .ref zt), (3, .ref zr), (4, .int x4), (5, .int x5), (7, .int x7)] → W p l e (headSpec wsL_areRings ({ frames := 4, cells := 5, slots := 40, locals := 96 })).room s m ([.ref adF, .ref zl, .ref zt, .ref zr] : List Value).toArray below meth c H locs N S (MQ below (QI D (wF cA cQ adF adB adT adH kH adR adO vB vT vH bH o.2.1 vO ++ [aI cA zl 41 fl, aI cA zt 16 ft, aI cA zr 9 o.2.2]) o.1 A) ([.ref adF, .ref zl, .ref zt, .ref zr] : List Value).toArray s 5 40 A) (F0 m 163 ls []) := by
        intro fu163
        induction fu163 with
        | zero =>
          intro N S vR fr x4 x5 x7 H locs ls hn1 hn2 h hP hD hS hl
          cases h
        | succ fu163 ih163 =>
          intro N S vR fr x4 x5 x7 H locs ls hn1 hn2 h hP hD hS hl
          rw [L_areRings_l163] at h
          refine lv_iload hx hb dL_areRings_163 (lv_at hl 6 rfl) ?_
          refine lv_aload_n hx hb dL_areRings_165 rfl (lv_at hl 2 rfl) ?_
          refine lv_iconst (v := (1 : Int32)) hx hb dL_areRings_166 (by decide) ?_
          obtain ⟨y1, ey1, h⟩ := bd_in h
          refine ldR hx hb hK hP 96 0 rfl rfl ey1 dL_areRings_167 ?_
          refine lv_icmp_ge (tgt := 226) hx hb dL_areRings_168 (by decide) (fun c2 => ?_) (fun c2 => ?_)
          · have h := (if_pos c2).symm.trans h
            refine lv_iinc (v := (x5 + (1 : Int32))) (lv' := [(5, .int (x5 + (1 : Int32))), (0, .ref adF), (1, .ref zl), (2, .ref zt), (3, .ref zr), (4, .int x4), (7, .int x7)]) hx hb dL_areRings_226 hl (k := 5) rfl rfl (by decide) rfl (fun ls hl => ?_)
            refine lv_goto (tgt := 42) hx hb dL_areRings_229 (by decide) ?_
            exact ih42 _ _ vR fr x4 (x5 + (1 : Int32)) _ _ _ (by first | omega | (unfold FU; omega)) (by first | omega | (unfold FU; omega)) h hP hD hS (lv_sub hl [1, 2, 3, 4, 5, 0] rfl)
          · have h := (if_neg c2).symm.trans h
            refine lv_iload hx hb dL_areRings_171 (lv_at hl 6 rfl) ?_
            refine lv_iconst (v := (1 : Int32)) hx hb dL_areRings_173 (by decide) ?_
            refine lv_iadd hx hb dL_areRings_174 ?_
            refine lv_iload hx hb dL_areRings_175 (lv_at hl 5 rfl) ?_
            refine lv_iadd hx hb dL_areRings_177 ?_
            refine lv_aload_n hx hb dL_areRings_178 rfl (lv_at hl 2 rfl) ?_
            refine lv_iconst (v := (1 : Int32)) hx hb dL_areRings_179 (by decide) ?_
            obtain ⟨y3, ey3, h⟩ := bd_in h
            refine ldR hx hb hK hP 96 0 rfl rfl ey3 dL_areRings_180 ?_
            obtain ⟨r4, er4, h⟩ := bd_in h
            refine rmR hx hb er4 dL_areRings_181 ?_
            refine lv_istore (lv' := [(8, .int r4), (0, .ref adF), (1, .ref zl), (2, .ref zt), (3, .ref zr), (4, .int x4), (5, .int x5), (7, .int x7)]) hx hb dL_areRings_182 hl (by decide) rfl (fun ls hl => ?_)
            refine lv_iload hx hb dL_areRings_184 (lv_at hl 5 rfl) ?_
            refine lv_if_eq (tgt := 217) hx hb dL_areRings_186 (by decide) (fun c5 => ?_) (fun c5 => ?_)
            · have h := (if_pos c5).symm.trans h
              refine lv_iconst (v := (0 : Int32)) hx hb dL_areRings_217 (by decide) ?_
              refine lv_istore (lv' := [(4, .int (0 : Int32)), (8, .int r4), (0, .ref adF), (1, .ref zl), (2, .ref zt), (3, .ref zr), (5, .int x5), (7, .int x7)]) hx hb dL_areRings_218 hl (by decide) rfl (fun ls hl => ?_)
              refine lv_iinc (v := (x7 + (1 : Int32))) (lv' := [(7, .int (x7 + (1 : Int32))), (4, .int (0 : Int32)), (8, .int r4), (0, .ref adF), (1, .ref zl), (2, .ref zt), (3, .ref zr), (5, .int x5)]) hx hb dL_areRings_220 hl (k := 7) rfl rfl (by decide) rfl (fun ls hl => ?_)
              refine lv_goto (tgt := 163) hx hb dL_areRings_223 (by decide) ?_
              exact ih163 _ _ vR fr (0 : Int32) x5 (x7 + (1 : Int32)) _ _ _ (by first | omega | (unfold FU; omega)) (by first | omega | (unfold FU; omega)) h hP hD hS (lv_sub hl [3, 4, 5, 6, 1, 7, 0] rfl)
            · have h := (if_neg c5).symm.trans h
              refine lv_aload_n hx hb dL_areRings_189 rfl (lv_at hl 1 rfl) ?_
              refine lv_iload hx hb dL_areRings_190 (lv_at hl 7 rfl) ?_
              refine lv_iload hx hb dL_areRings_192 (lv_at hl 0 rfl) ?_
              refine lv_iload hx hb dL_areRings_194 (lv_at hl 6 rfl) ?_
              obtain ⟨u6, eu6, h⟩ := bd_in h
              refine kI (va_runV (As := [.int x7, .int r4, .int x5]) (rest := []) ⟨hx, hb, hml, hown, hts⟩ (c_X4_owes l D cA cQ adF adB adT adH kH adR adO vB vT vH bH vR vO x7 r4 x5 u6 eu6 _) (cwV 3 hts gL_areRings_X4_owes rfl rfl rfl (by decide +kernel) ⟨Nat.le_of_ble_eq_true rfl, Nat.le_of_ble_eq_true rfl⟩) (pV (ci := 4) (q := (RX4, TX4, 5)) hK hN hP hD [0, 1, 2, 3, 4, 5, 6, 7, 8, 9, 10, 11, 12, 13, 14, 15, 16, 17, 18, 19, 20, 21, 22, 23, 24, 25, 26, 27, 28, 29, 30, 31, 32, 33, 34, 35, 36, 37, 38, 39, 40, 41, 42, 43, 44, 45, 46, 47, 48, 49, 50, 51, 52, 53, 54, 55, 56, 57, 58, 59, 60, 61, 62, 63, 64, 65, 66, 67, 68, 69, 70, 71, 72, 73, 74, 75, 76, 77, 78, 79, 80, 81, 82, 83, 84, 85, 86, 87, 88, 89, 90, 91, 92, 93, 94] rfl rfl rfl rfl) rfl rfl hl.1 rfl (lv_room (Nat.le_of_ble_eq_true rfl)) dL_areRings_196 ⟨(by show _ + _ ≤ 5; omega), (by show _ + _ ≤ 40; omega)⟩) hP hD hS hA [0, 1, 2, 3, 4, 5, 6, 7, 8, 9, 10, 11, 12, 13, 14, 15, 16, 17, 18, 19, 20, 21, 22, 23, 24, 25, 26, 27, 28, 29, 30, 31, 32, 33, 34, 35, 36, 37, 38, 39, 40, 41, 42, 43, 44, 45, 46, 47, 48, 49, 50, 51, 52, 53, 54, 55, 56, 57, 58, 59, 60, 61, 62, 63, 64, 65, 66, 67, 68, 69, 70, 71, 72, 73, 74, 75, 76, 77, 78, 79, 80, 81, 82, 83, 84, 85, 86, 87, 88, 89, 90, 91, 92, 93, 94] rfl rfl (ws' := (wF cA cQ adF adB adT adH kH adR adO vB vT vH bH vR vO ++ [aI cA zl 41 fl, aI cA zt 16 ft, aI cA zr 9 fr])) rfl (fun H locs hP hD hS => ?_)
              refine lv_aload_n hx hb dL_areRings_199 rfl (lv_at hl 2 rfl) ?_
              refine lv_aload_n hx hb dL_areRings_200 rfl (lv_at hl 3 rfl) ?_
              refine lv_iload hx hb dL_areRings_201 (lv_at hl 7 rfl) ?_
              refine lv_iload hx hb dL_areRings_203 (lv_at hl 0 rfl) ?_
              refine lv_iload hx hb dL_areRings_205 (lv_at hl 6 rfl) ?_
              obtain ⟨u7, eu7, h⟩ := bd_in h
              refine kI (va_runS (As := [.ref zl, .ref zt, .int x7, .int r4, .int x5]) (rest := [.int u6]) ⟨hx, hb, hml, hown, hts⟩ (c_L_owed l D cA cQ zl zt fl ft x7 r4 x5 u7 eu7 _) (va_cwS 5 hts gL_areRings_L_owed rfl rfl rfl (by decide +kernel) ⟨Nat.le_of_ble_eq_true rfl, Nat.le_of_ble_eq_true rfl⟩) (pS hK hN hP hD [95, 96] rfl rfl) rfl rfl hl.1 rfl (lv_room (Nat.le_of_ble_eq_true rfl)) dL_areRings_207 ⟨(by show _ + _ ≤ 5; omega), (by show _ + _ ≤ 40; omega)⟩) hP hD hS hA [95, 96] rfl rfl (ws' := (wF cA cQ adF adB adT adH kH adR adO vB vT vH bH vR vO ++ [aI cA zl 41 fl, aI cA zt 16 ft, aI cA zr 9 fr])) rfl (fun H locs hP hD hS => ?_)
              refine lv_icmp_ne (tgt := 217) hx hb dL_areRings_210 (by decide) (fun c8 => ?_) (fun c8 => ?_)
              · have h := (if_neg c8).symm.trans h
                refine lv_iconst (v := (0 : Int32)) hx hb dL_areRings_217 (by decide) ?_
                refine lv_istore (lv' := [(4, .int (0 : Int32)), (8, .int r4), (0, .ref adF), (1, .ref zl), (2, .ref zt), (3, .ref zr), (5, .int x5), (7, .int x7)]) hx hb dL_areRings_218 hl (by decide) rfl (fun ls hl => ?_)
                refine lv_iinc (v := (x7 + (1 : Int32))) (lv' := [(7, .int (x7 + (1 : Int32))), (4, .int (0 : Int32)), (8, .int r4), (0, .ref adF), (1, .ref zl), (2, .ref zt), (3, .ref zr), (5, .int x5)]) hx hb dL_areRings_220 hl (k := 7) rfl rfl (by decide) rfl (fun ls hl => ?_)
                refine lv_goto (tgt := 163) hx hb dL_areRings_223 (by decide) ?_
                exact ih163 _ _ vR fr (0 : Int32) x5 (x7 + (1 : Int32)) _ _ _ (by first | omega | (unfold FU; omega)) (by first | omega | (unfold FU; omega)) h hP hD hS (lv_sub hl [3, 4, 5, 6, 1, 7, 0] rfl)
              · have h := (if_pos c8).symm.trans h
                refine lv_iconst (v := (1 : Int32)) hx hb dL_areRings_213 (by decide) ?_
                refine lv_goto (tgt := 218) hx hb dL_areRings_214 (by decide) ?_
                refine lv_istore (lv' := [(4, .int (1 : Int32)), (8, .int r4), (0, .ref adF), (1, .ref zl), (2, .ref zt), (3, .ref zr), (5, .int x5), (7, .int x7)]) hx hb dL_areRings_218 hl (by decide) rfl (fun ls hl => ?_)
                refine lv_iinc (v := (x7 + (1 : Int32))) (lv' := [(7, .int (x7 + (1 : Int32))), (4, .int (1 : Int32)), (8, .int r4), (0, .ref adF), (1, .ref zl), (2, .ref zt), (3, .ref zr), (5, .int x5)]) hx hb dL_areRings_220 hl (k := 7) rfl rfl (by decide) rfl (fun ls hl => ?_)
                refine lv_goto (tgt := 163) hx hb dL_areRings_223 (by decide) ?_
                exact ih163 _ _ vR fr (1 : Int32) x5 (x7 + (1 : Int32)) _ _ _ (by first | omega | (unfold FU; omega)) (by first | omega | (unfold FU; omega)) h hP hD hS (lv_sub hl [3, 4, 5, 6, 1, 7, 0] rfl)
      have B150 : ∀ (N S : Nat) (vR : St) (fr : Nat → Int32) (x5 : Int32) (t0 : Int32) (t1 : Int32) (H : Heap) (locs : List Loc) (ls : Array Slot), N + fu42 ≤ 5 → S + 8 * fu42 ≤ 40 → L_areRings_b150 vB vT vH bH vO fl ft (L_areRings_l42 vB vT vH bH vO fl ft fu42) vR fr x5 t0 t1 = some o → va_P D vwCl (wF cA cQ adF adB adT adH kH adR adO vB vT vH bH vR vO ++ [aI cA zl 41 fl, aI cA zt 16 ft, aI cA zr 9 fr]) H → va_D A (wF cA cQ adF adB adT adH kH adR adO vB vT vH bH vR vO ++ [aI cA zl 41 fl, aI cA zt 16 ft, aI cA zr 9 fr]) → va_S A s.heap H locs → lv_has ls 9 [(0, .ref adF), (1, .ref zl), (2, .ref zt), (3, .ref zr), (5, .int x5)] → W p l e (headSpec wsL_areRings ({ frames := 4, cells := 5, slots := 40, locals := 96 })).room s m ([.ref adF, .ref zl, .ref zt, .ref zr] : List Value).toArray below meth c H locs N S (MQ below (QI D (wF cA cQ adF adB adT adH kH adR adO vB vT vH bH o.2.1 vO ++ [aI cA zl 41 fl, aI cA zt 16 ft, aI cA zr 9 o.2.2]) o.1 A) ([.ref adF, .ref zl, .ref zt, .ref zr] : List Value).toArray s 5 40 A) (F0 m 150 ls [.int t1, .int t0]) := by
        intro N S vR fr x5 t0 t1 H locs ls hn1 hn2 h hP hD hS hl
        unfold L_areRings_b150 at h
        refine lv_icmp_ne (tgt := 157) hx hb dL_areRings_150 (by decide) (fun c9 => ?_) (fun c9 => ?_)
        · have h := (if_neg c9).symm.trans h
          refine lv_iconst (v := (0 : Int32)) hx hb dL_areRings_157 (by decide) ?_
          refine lv_istore (lv' := [(4, .int (0 : Int32)), (0, .ref adF), (1, .ref zl), (2, .ref zt), (3, .ref zr), (5, .int x5)]) hx hb dL_areRings_158 hl (by decide) rfl (fun ls hl => ?_)
          refine lv_iconst (v := (0 : Int32)) hx hb dL_areRings_160 (by decide) ?_
          refine lv_istore (lv' := [(7, .int (0 : Int32)), (4, .int (0 : Int32)), (0, .ref adF), (1, .ref zl), (2, .ref zt), (3, .ref zr), (5, .int x5)]) hx hb dL_areRings_161 hl (by decide) rfl (fun ls hl => ?_)
          exact B163 FU _ _ vR fr (0 : Int32) x5 (0 : Int32) _ _ _ (by first | omega | (unfold FU; omega)) (by first | omega | (unfold FU; omega)) h hP hD hS (lv_sub hl [2, 3, 4, 5, 1, 6, 0] rfl)
        · have h := (if_pos c9).symm.trans h
          refine lv_iconst (v := (1 : Int32)) hx hb dL_areRings_153 (by decide) ?_
          refine lv_goto (tgt := 158) hx hb dL_areRings_154 (by decide) ?_
          refine lv_istore (lv' := [(4, .int (1 : Int32)), (0, .ref adF), (1, .ref zl), (2, .ref zt), (3, .ref zr), (5, .int x5)]) hx hb dL_areRings_158 hl (by decide) rfl (fun ls hl => ?_)
          refine lv_iconst (v := (0 : Int32)) hx hb dL_areRings_160 (by decide) ?_
          refine lv_istore (lv' := [(7, .int (0 : Int32)), (4, .int (1 : Int32)), (0, .ref adF), (1, .ref zl), (2, .ref zt), (3, .ref zr), (5, .int x5)]) hx hb dL_areRings_161 hl (by decide) rfl (fun ls hl => ?_)
          exact B163 FU _ _ vR fr (1 : Int32) x5 (0 : Int32) _ _ _ (by first | omega | (unfold FU; omega)) (by first | omega | (unfold FU; omega)) h hP hD hS (lv_sub hl [2, 3, 4, 5, 1, 6, 0] rfl)
      have B106 : ∀ (N S : Nat) (vR : St) (fr : Nat → Int32) (x4 : Int32) (x5 : Int32) (x6 : Int32) (H : Heap) (locs : List Loc) (ls : Array Slot), N + fu42 ≤ 5 → S + 8 * fu42 ≤ 40 → L_areRings_b106 vB vT vH bH vO fl ft (L_areRings_l42 vB vT vH bH vO fl ft fu42) vR fr x4 x5 x6 = some o → va_P D vwCl (wF cA cQ adF adB adT adH kH adR adO vB vT vH bH vR vO ++ [aI cA zl 41 fl, aI cA zt 16 ft, aI cA zr 9 fr]) H → va_D A (wF cA cQ adF adB adT adH kH adR adO vB vT vH bH vR vO ++ [aI cA zl 41 fl, aI cA zt 16 ft, aI cA zr 9 fr]) → va_S A s.heap H locs → lv_has ls 9 [(0, .ref adF), (1, .ref zl), (2, .ref zt), (3, .ref zr), (4, .int x4), (5, .int x5), (6, .int x6)] → W p l e (headSpec wsL_areRings ({ frames := 4, cells := 5, slots := 40, locals := 96 })).room s m ([.ref adF, .ref zl, .ref zt, .ref zr] : List Value).toArray below meth c H locs N S (MQ below (QI D (wF cA cQ adF adB adT adH kH adR adO vB vT vH bH o.2.1 vO ++ [aI cA zl 41 fl, aI cA zt 16 ft, aI cA zr 9 o.2.2]) o.1 A) ([.ref adF, .ref zl, .ref zt, .ref zr] : List Value).toArray s 5 40 A) (F0 m 106 ls []) := by
        intro N S vR fr x4 x5 x6 H locs ls hn1 hn2 h hP hD hS hl
        unfold L_areRings_b106 at h
        refine lv_iload hx hb dL_areRings_106 (lv_at hl 4 rfl) ?_
        refine lv_if_eq (tgt := 157) hx hb dL_areRings_108 (by decide) (fun c10 => ?_) (fun c10 => ?_)
        · have h := (if_pos c10).symm.trans h
          refine lv_iconst (v := (0 : Int32)) hx hb dL_areRings_157 (by decide) ?_
          refine lv_istore (lv' := [(4, .int (0 : Int32)), (0, .ref adF), (1, .ref zl), (2, .ref zt), (3, .ref zr), (5, .int x5), (6, .int x6)]) hx hb dL_areRings_158 hl (by decide) rfl (fun ls hl => ?_)
          refine lv_iconst (v := (0 : Int32)) hx hb dL_areRings_160 (by decide) ?_
          refine lv_istore (lv' := [(7, .int (0 : Int32)), (4, .int (0 : Int32)), (0, .ref adF), (1, .ref zl), (2, .ref zt), (3, .ref zr), (5, .int x5), (6, .int x6)]) hx hb dL_areRings_161 hl (by decide) rfl (fun ls hl => ?_)
          exact B163 FU _ _ vR fr (0 : Int32) x5 (0 : Int32) _ _ _ (by first | omega | (unfold FU; omega)) (by first | omega | (unfold FU; omega)) h hP hD hS (lv_sub hl [2, 3, 4, 5, 1, 6, 0] rfl)
        · have h := (if_neg c10).symm.trans h
          refine lv_aload_n hx hb dL_areRings_111 rfl (lv_at hl 0 rfl) ?_
          refine lv_iload hx hb dL_areRings_112 (lv_at hl 5 rfl) ?_
          refine lv_iload hx hb dL_areRings_114 (lv_at hl 6 rfl) ?_
          obtain ⟨u11, eu11, h⟩ := bd_in h
          refine kI (va_runV (As := [.int x5, .int x6]) (rest := []) ⟨hx, hb, hml, hown, hts⟩ (c_X4_ring l D cA cQ adF adB adT adH kH adR adO vB vT vH bH vR vO x5 x6 u11 eu11 _) (cwV 2 hts gL_areRings_X4_ring rfl rfl rfl (by decide +kernel) ⟨Nat.le_of_ble_eq_true rfl, Nat.le_of_ble_eq_true rfl⟩) (pV (ci := 4) (q := (RX4, TX4, 5)) hK hN hP hD [0, 1, 2, 3, 4, 5, 6, 7, 8, 9, 10, 11, 12, 13, 14, 15, 16, 17, 18, 19, 20, 21, 22, 23, 24, 25, 26, 27, 28, 29, 30, 31, 32, 33, 34, 35, 36, 37, 38, 39, 40, 41, 42, 43, 44, 45, 46, 47, 48, 49, 50, 51, 52, 53, 54, 55, 56, 57, 58, 59, 60, 61, 62, 63, 64, 65, 66, 67, 68, 69, 70, 71, 72, 73, 74, 75, 76, 77, 78, 79, 80, 81, 82, 83, 84, 85, 86, 87, 88, 89, 90, 91, 92, 93, 94] rfl rfl rfl rfl) rfl rfl hl.1 rfl (lv_room (Nat.le_of_ble_eq_true rfl)) dL_areRings_116 ⟨(by show _ + _ ≤ 5; omega), (by show _ + _ ≤ 40; omega)⟩) hP hD hS hA [0, 1, 2, 3, 4, 5, 6, 7, 8, 9, 10, 11, 12, 13, 14, 15, 16, 17, 18, 19, 20, 21, 22, 23, 24, 25, 26, 27, 28, 29, 30, 31, 32, 33, 34, 35, 36, 37, 38, 39, 40, 41, 42, 43, 44, 45, 46, 47, 48, 49, 50, 51, 52, 53, 54, 55, 56, 57, 58, 59, 60, 61, 62, 63, 64, 65, 66, 67, 68, 69, 70, 71, 72, 73, 74, 75, 76, 77, 78, 79, 80, 81, 82, 83, 84, 85, 86, 87, 88, 89, 90, 91, 92, 93, 94] rfl rfl (ws' := (wF cA cQ adF adB adT adH kH adR adO vB vT vH bH u11.2 vO ++ [aI cA zl 41 fl, aI cA zt 16 ft, aI cA zr 9 fr])) rfl (fun H locs hP hD hS => ?_)
          refine lv_ldc (v := (-1000004 : Int32)) hx hb hown (hts (.constant RL 59 (-1000004)) (List.mem_of_getElem? (i := 2) rfl)) dL_areRings_119 ?_
          refine lv_icmp_ne (tgt := 157) hx hb dL_areRings_121 (by decide) (fun c12 => ?_) (fun c12 => ?_)
          · have h := (if_neg c12).symm.trans h
            refine lv_iconst (v := (0 : Int32)) hx hb dL_areRings_157 (by decide) ?_
            refine lv_istore (lv' := [(4, .int (0 : Int32)), (0, .ref adF), (1, .ref zl), (2, .ref zt), (3, .ref zr), (5, .int x5), (6, .int x6)]) hx hb dL_areRings_158 hl (by decide) rfl (fun ls hl => ?_)
            refine lv_iconst (v := (0 : Int32)) hx hb dL_areRings_160 (by decide) ?_
            refine lv_istore (lv' := [(7, .int (0 : Int32)), (4, .int (0 : Int32)), (0, .ref adF), (1, .ref zl), (2, .ref zt), (3, .ref zr), (5, .int x5), (6, .int x6)]) hx hb dL_areRings_161 hl (by decide) rfl (fun ls hl => ?_)
            exact B163 FU _ _ u11.2 fr (0 : Int32) x5 (0 : Int32) _ _ _ (by first | omega | (unfold FU; omega)) (by first | omega | (unfold FU; omega)) h hP hD hS (lv_sub hl [2, 3, 4, 5, 1, 6, 0] rfl)
          · have h := (if_pos c12).symm.trans h
            refine lv_aload_n hx hb dL_areRings_124 rfl (lv_at hl 0 rfl) ?_
            refine lv_iload hx hb dL_areRings_125 (lv_at hl 5 rfl) ?_
            obtain ⟨u13, eu13, h⟩ := bd_in h
            refine kI (va_runV (As := [.int x5]) (rest := []) ⟨hx, hb, hml, hown, hts⟩ (c_X4_amount l D cA cQ adF adB adT adH kH adR adO vB vT vH bH u11.2 vO x5 u13 eu13 _) (cwV 1 hts gL_areRings_X4_amount rfl rfl rfl (by decide +kernel) ⟨Nat.le_of_ble_eq_true rfl, Nat.le_of_ble_eq_true rfl⟩) (pV (ci := 4) (q := (RX4, TX4, 5)) hK hN hP hD [0, 1, 2, 3, 4, 5, 6, 7, 8, 9, 10, 11, 12, 13, 14, 15, 16, 17, 18, 19, 20, 21, 22, 23, 24, 25, 26, 27, 28, 29, 30, 31, 32, 33, 34, 35, 36, 37, 38, 39, 40, 41, 42, 43, 44, 45, 46, 47, 48, 49, 50, 51, 52, 53, 54, 55, 56, 57, 58, 59, 60, 61, 62, 63, 64, 65, 66, 67, 68, 69, 70, 71, 72, 73, 74, 75, 76, 77, 78, 79, 80, 81, 82, 83, 84, 85, 86, 87, 88, 89, 90, 91, 92, 93, 94] rfl rfl rfl rfl) rfl rfl hl.1 rfl (lv_room (Nat.le_of_ble_eq_true rfl)) dL_areRings_127 ⟨(by show _ + _ ≤ 5; omega), (by show _ + _ ≤ 40; omega)⟩) hP hD hS hA [0, 1, 2, 3, 4, 5, 6, 7, 8, 9, 10, 11, 12, 13, 14, 15, 16, 17, 18, 19, 20, 21, 22, 23, 24, 25, 26, 27, 28, 29, 30, 31, 32, 33, 34, 35, 36, 37, 38, 39, 40, 41, 42, 43, 44, 45, 46, 47, 48, 49, 50, 51, 52, 53, 54, 55, 56, 57, 58, 59, 60, 61, 62, 63, 64, 65, 66, 67, 68, 69, 70, 71, 72, 73, 74, 75, 76, 77, 78, 79, 80, 81, 82, 83, 84, 85, 86, 87, 88, 89, 90, 91, 92, 93, 94] rfl rfl (ws' := (wF cA cQ adF adB adT adH kH adR adO vB vT vH bH u13.2 vO ++ [aI cA zl 41 fl, aI cA zt 16 ft, aI cA zr 9 fr])) rfl (fun H locs hP hD hS => ?_)
            refine lv_iload hx hb dL_areRings_130 (lv_at hl 6 rfl) ?_
            refine lv_if_le (tgt := 148) hx hb dL_areRings_132 (by decide) (fun c14 => ?_) (fun c14 => ?_)
            · have h := (if_pos c14).symm.trans h
              refine lv_ldc (v := (-1000004 : Int32)) hx hb hown (hts (.constant RL 59 (-1000004)) (List.mem_of_getElem? (i := 2) rfl)) dL_areRings_148 ?_
              exact B150 _ _ u13.2 fr x5 u13.1 (-1000004 : Int32) _ _ _ (by first | omega | (unfold FU; omega)) (by first | omega | (unfold FU; omega)) h hP hD hS (lv_sub hl [0, 1, 2, 3, 5] rfl)
            · have h := (if_neg c14).symm.trans h
              refine lv_aload_n hx hb dL_areRings_135 rfl (lv_at hl 1 rfl) ?_
              refine lv_aload_n hx hb dL_areRings_136 rfl (lv_at hl 2 rfl) ?_
              refine lv_aload_n hx hb dL_areRings_137 rfl (lv_at hl 3 rfl) ?_
              refine lv_iload hx hb dL_areRings_138 (lv_at hl 6 rfl) ?_
              refine lv_iload hx hb dL_areRings_140 (lv_at hl 5 rfl) ?_
              obtain ⟨u15, eu15, h⟩ := bd_in h
              refine kI (va_runS (As := [.ref zl, .ref zt, .ref zr, .int x6, .int x5]) (rest := [.int u13.1]) ⟨hx, hb, hml, hown, hts⟩ (c_L_amount l D cA cQ zl zt zr fl ft fr x6 x5 u15 eu15 _) (va_cwS 5 hts gL_areRings_L_amount rfl rfl rfl (by decide +kernel) ⟨Nat.le_of_ble_eq_true rfl, Nat.le_of_ble_eq_true rfl⟩) (pS hK hN hP hD [95, 96, 97] rfl rfl) rfl rfl hl.1 rfl (lv_room (Nat.le_of_ble_eq_true rfl)) dL_areRings_142 ⟨(by show _ + _ ≤ 5; omega), (by show _ + _ ≤ 40; omega)⟩) hP hD hS hA [95, 96, 97] rfl rfl (ws' := (wF cA cQ adF adB adT adH kH adR adO vB vT vH bH u13.2 vO ++ [aI cA zl 41 fl, aI cA zt 16 ft, aI cA zr 9 fr])) rfl (fun H locs hP hD hS => ?_)
              refine lv_goto (tgt := 150) hx hb dL_areRings_145 (by decide) ?_
              exact B150 _ _ u13.2 fr x5 u13.1 u15 _ _ _ (by first | omega | (unfold FU; omega)) (by first | omega | (unfold FU; omega)) h hP hD hS (lv_sub hl [0, 1, 2, 3, 5] rfl)
      have B66 : ∀ (fu66 : Nat) (N S : Nat) (vR : St) (fr : Nat → Int32) (x4 : Int32) (x5 : Int32) (x6 : Int32) (x7 : Int32) (H : Heap) (locs : List Loc) (ls : Array Slot), N + fu42 ≤ 5 → S + 8 * fu42 ≤ 40 → L_areRings_l66 vB vT vH bH vO fl ft (L_areRings_l42 vB vT vH bH vO fl ft fu42) fu66 vR fr x4 x5 x6 x7 = some o → va_P D vwCl (wF cA cQ adF adB adT adH kH adR adO vB vT vH bH vR vO ++ [aI cA zl 41 fl, aI cA zt 16 ft, aI cA zr 9 fr]) H → va_D A (wF cA cQ adF adB adT adH kH adR adO vB vT vH bH vR vO ++ [aI cA zl 41 fl, aI cA zt 16 ft, aI cA zr 9 fr]) → va_S A s.heap H locs → lv_has ls 9 [(0, .ref adF), (1, .ref zl), (2, .ref zt), (3, .ref zr), (4, .int x4), (5, .int x5), (6, .int x6), (7, .int x7)] → W p l e (headSpec wsL_areRings ({ frames := 4, cells := 5, slots := 40, locals := 96 })).room s m ([.ref adF, .ref zl, .ref zt, .ref zr] : List Value).toArray below meth c H locs N S (MQ below (QI D (wF cA cQ adF adB adT adH kH adR adO vB vT vH bH o.2.1 vO ++ [aI cA zl 41 fl, aI cA zt 16 ft, aI cA zr 9 o.2.2]) o.1 A) ([.ref adF, .ref zl, .ref zt, .ref zr] : List Value).toArray s 5 40 A) (F0 m 66 ls []) := by
        intro fu66
        induction fu66 with
        | zero =>
          intro N S vR fr x4 x5 x6 x7 H locs ls hn1 hn2 h hP hD hS hl
          cases h
        | succ fu66 ih66 =>
          intro N S vR fr x4 x5 x6 x7 H locs ls hn1 hn2 h hP hD hS hl
          rw [L_areRings_l66] at h
          refine lv_iload hx hb dL_areRings_66 (lv_at hl 7 rfl) ?_
          refine lv_iload hx hb dL_areRings_68 (lv_at hl 6 rfl) ?_
          refine lv_icmp_ge (tgt := 106) hx hb dL_areRings_70 (by decide) (fun c16 => ?_) (fun c16 => ?_)
          · have h := (if_pos c16).symm.trans h
            exact B106 _ _ vR fr x4 x5 x6 _ _ _ (by first | omega | (unfold FU; omega)) (by first | omega | (unfold FU; omega)) h hP hD hS (lv_sub hl [0, 1, 2, 3, 4, 5, 6] rfl)
          · have h := (if_neg c16).symm.trans h
            refine lv_iload hx hb dL_areRings_73 (lv_at hl 4 rfl) ?_
            refine lv_if_eq (tgt := 97) hx hb dL_areRings_75 (by decide) (fun c17 => ?_) (fun c17 => ?_)
            · have h := (if_pos c17).symm.trans h
              refine lv_iconst (v := (0 : Int32)) hx hb dL_areRings_97 (by decide) ?_
              refine lv_istore (lv' := [(4, .int (0 : Int32)), (0, .ref adF), (1, .ref zl), (2, .ref zt), (3, .ref zr), (5, .int x5), (6, .int x6), (7, .int x7)]) hx hb dL_areRings_98 hl (by decide) rfl (fun ls hl => ?_)
              refine lv_iinc (v := (x7 + (1 : Int32))) (lv' := [(7, .int (x7 + (1 : Int32))), (4, .int (0 : Int32)), (0, .ref adF), (1, .ref zl), (2, .ref zt), (3, .ref zr), (5, .int x5), (6, .int x6)]) hx hb dL_areRings_100 hl (k := 7) rfl rfl (by decide) rfl (fun ls hl => ?_)
              refine lv_goto (tgt := 66) hx hb dL_areRings_103 (by decide) ?_
              exact ih66 _ _ vR fr (0 : Int32) x5 x6 (x7 + (1 : Int32)) _ _ _ (by first | omega | (unfold FU; omega)) (by first | omega | (unfold FU; omega)) h hP hD hS (lv_sub hl [2, 3, 4, 5, 1, 6, 7, 0] rfl)
            · have h := (if_neg c17).symm.trans h
              refine lv_aload_n hx hb dL_areRings_78 rfl (lv_at hl 0 rfl) ?_
              refine lv_iload hx hb dL_areRings_79 (lv_at hl 5 rfl) ?_
              refine lv_iload hx hb dL_areRings_81 (lv_at hl 7 rfl) ?_
              obtain ⟨u18, eu18, h⟩ := bd_in h
              refine kI (va_runV (As := [.int x5, .int x7]) (rest := []) ⟨hx, hb, hml, hown, hts⟩ (c_X4_ring l D cA cQ adF adB adT adH kH adR adO vB vT vH bH vR vO x5 x7 u18 eu18 _) (cwV 2 hts gL_areRings_X4_ring rfl rfl rfl (by decide +kernel) ⟨Nat.le_of_ble_eq_true rfl, Nat.le_of_ble_eq_true rfl⟩) (pV (ci := 4) (q := (RX4, TX4, 5)) hK hN hP hD [0, 1, 2, 3, 4, 5, 6, 7, 8, 9, 10, 11, 12, 13, 14, 15, 16, 17, 18, 19, 20, 21, 22, 23, 24, 25, 26, 27, 28, 29, 30, 31, 32, 33, 34, 35, 36, 37, 38, 39, 40, 41, 42, 43, 44, 45, 46, 47, 48, 49, 50, 51, 52, 53, 54, 55, 56, 57, 58, 59, 60, 61, 62, 63, 64, 65, 66, 67, 68, 69, 70, 71, 72, 73, 74, 75, 76, 77, 78, 79, 80, 81, 82, 83, 84, 85, 86, 87, 88, 89, 90, 91, 92, 93, 94] rfl rfl rfl rfl) rfl rfl hl.1 rfl (lv_room (Nat.le_of_ble_eq_true rfl)) dL_areRings_83 ⟨(by show _ + _ ≤ 5; omega), (by show _ + _ ≤ 40; omega)⟩) hP hD hS hA [0, 1, 2, 3, 4, 5, 6, 7, 8, 9, 10, 11, 12, 13, 14, 15, 16, 17, 18, 19, 20, 21, 22, 23, 24, 25, 26, 27, 28, 29, 30, 31, 32, 33, 34, 35, 36, 37, 38, 39, 40, 41, 42, 43, 44, 45, 46, 47, 48, 49, 50, 51, 52, 53, 54, 55, 56, 57, 58, 59, 60, 61, 62, 63, 64, 65, 66, 67, 68, 69, 70, 71, 72, 73, 74, 75, 76, 77, 78, 79, 80, 81, 82, 83, 84, 85, 86, 87, 88, 89, 90, 91, 92, 93, 94] rfl rfl (ws' := (wF cA cQ adF adB adT adH kH adR adO vB vT vH bH u18.2 vO ++ [aI cA zl 41 fl, aI cA zt 16 ft, aI cA zr 9 fr])) rfl (fun H locs hP hD hS => ?_)
              refine lv_aload_n hx hb dL_areRings_86 rfl (lv_at hl 3 rfl) ?_
              refine lv_iload hx hb dL_areRings_87 (lv_at hl 7 rfl) ?_
              obtain ⟨y19, ey19, h⟩ := bd_in h
              refine ldR hx hb hK hP 97 0 rfl rfl ey19 dL_areRings_89 ?_
              refine lv_icmp_ne (tgt := 97) hx hb dL_areRings_90 (by decide) (fun c20 => ?_) (fun c20 => ?_)
              · have h := (if_neg c20).symm.trans h
                refine lv_iconst (v := (0 : Int32)) hx hb dL_areRings_97 (by decide) ?_
                refine lv_istore (lv' := [(4, .int (0 : Int32)), (0, .ref adF), (1, .ref zl), (2, .ref zt), (3, .ref zr), (5, .int x5), (6, .int x6), (7, .int x7)]) hx hb dL_areRings_98 hl (by decide) rfl (fun ls hl => ?_)
                refine lv_iinc (v := (x7 + (1 : Int32))) (lv' := [(7, .int (x7 + (1 : Int32))), (4, .int (0 : Int32)), (0, .ref adF), (1, .ref zl), (2, .ref zt), (3, .ref zr), (5, .int x5), (6, .int x6)]) hx hb dL_areRings_100 hl (k := 7) rfl rfl (by decide) rfl (fun ls hl => ?_)
                refine lv_goto (tgt := 66) hx hb dL_areRings_103 (by decide) ?_
                exact ih66 _ _ u18.2 fr (0 : Int32) x5 x6 (x7 + (1 : Int32)) _ _ _ (by first | omega | (unfold FU; omega)) (by first | omega | (unfold FU; omega)) h hP hD hS (lv_sub hl [2, 3, 4, 5, 1, 6, 7, 0] rfl)
              · have h := (if_pos c20).symm.trans h
                refine lv_iconst (v := (1 : Int32)) hx hb dL_areRings_93 (by decide) ?_
                refine lv_goto (tgt := 98) hx hb dL_areRings_94 (by decide) ?_
                refine lv_istore (lv' := [(4, .int (1 : Int32)), (0, .ref adF), (1, .ref zl), (2, .ref zt), (3, .ref zr), (5, .int x5), (6, .int x6), (7, .int x7)]) hx hb dL_areRings_98 hl (by decide) rfl (fun ls hl => ?_)
                refine lv_iinc (v := (x7 + (1 : Int32))) (lv' := [(7, .int (x7 + (1 : Int32))), (4, .int (1 : Int32)), (0, .ref adF), (1, .ref zl), (2, .ref zt), (3, .ref zr), (5, .int x5), (6, .int x6)]) hx hb dL_areRings_100 hl (k := 7) rfl rfl (by decide) rfl (fun ls hl => ?_)
                refine lv_goto (tgt := 66) hx hb dL_areRings_103 (by decide) ?_
                exact ih66 _ _ u18.2 fr (1 : Int32) x5 x6 (x7 + (1 : Int32)) _ _ _ (by first | omega | (unfold FU; omega)) (by first | omega | (unfold FU; omega)) h hP hD hS (lv_sub hl [2, 3, 4, 5, 1, 6, 7, 0] rfl)
      intro N S vR fr x4 x5 H locs ls hn1 hn2 h hP hD hS hl
      rw [L_areRings_l42] at h
      refine lv_iload hx hb dL_areRings_42 (lv_at hl 5 rfl) ?_
      refine lv_iconst (v := (4 : Int32)) hx hb dL_areRings_44 (by decide) ?_
      refine lv_icmp_ge (tgt := 232) hx hb dL_areRings_45 (by decide) (fun c21 => ?_) (fun c21 => ?_)
      · have h := (if_pos c21).symm.trans h
        refine lv_iload hx hb dL_areRings_232 (lv_at hl 4 rfl) ?_
        obtain ⟨b22, eb22, h⟩ := bd_in h
        cases h
        refine W.widen (k := 5) (n := 40) (by omega) (by omega) ?_
        exact endZ hx hb hr hlocks hP hS (zb_in eb22) dL_areRings_234
      · have h := (if_neg c21).symm.trans h
        refine lv_iload hx hb dL_areRings_48 (lv_at hl 4 rfl) ?_
        refine lv_if_eq (tgt := 232) hx hb dL_areRings_50 (by decide) (fun c23 => ?_) (fun c23 => ?_)
        · have h := (if_pos c23).symm.trans h
          refine lv_iload hx hb dL_areRings_232 (lv_at hl 4 rfl) ?_
          obtain ⟨b24, eb24, h⟩ := bd_in h
          cases h
          refine W.widen (k := 5) (n := 40) (by omega) (by omega) ?_
          exact endZ hx hb hr hlocks hP hS (zb_in eb24) dL_areRings_234
        · have h := (if_neg c23).symm.trans h
          refine lv_aload_n hx hb dL_areRings_53 rfl (lv_at hl 1 rfl) ?_
          refine lv_aload_n hx hb dL_areRings_54 rfl (lv_at hl 2 rfl) ?_
          refine lv_aload_n hx hb dL_areRings_55 rfl (lv_at hl 3 rfl) ?_
          refine lv_iload hx hb dL_areRings_56 (lv_at hl 5 rfl) ?_
          obtain ⟨u25, eu25, h⟩ := bd_in h
          refine kJ (va_runS (As := [.ref zl, .ref zt, .ref zr, .int x5]) (rest := []) ⟨hx, hb, hml, hown, hts⟩ (c_L_ring l D cA cQ zl zt zr fl ft fr x5 u25 eu25 _) (va_cwS 4 hts gL_areRings_L_ring rfl rfl rfl (by decide +kernel) ⟨Nat.le_of_ble_eq_true rfl, Nat.le_of_ble_eq_true rfl⟩) (pS hK hN hP hD [95, 96, 97] rfl rfl) rfl rfl hl.1 rfl (lv_room (Nat.le_of_ble_eq_true rfl)) dL_areRings_58 ⟨(by show _ + _ ≤ 5; omega), (by show _ + _ ≤ 40; omega)⟩) hP hD hS hA [95, 96, 97] rfl rfl (ws' := (wF cA cQ adF adB adT adH kH adR adO vB vT vH bH vR vO ++ [aI cA zl 41 fl, aI cA zt 16 ft, aI cA zr 9 u25.2])) rfl (fun H locs hP hD hS => ?_)
          refine lv_istore (lv' := [(6, .int u25.1), (0, .ref adF), (1, .ref zl), (2, .ref zt), (3, .ref zr), (4, .int x4), (5, .int x5)]) hx hb dL_areRings_61 hl (by decide) rfl (fun ls hl => ?_)
          refine lv_iconst (v := (0 : Int32)) hx hb dL_areRings_63 (by decide) ?_
          refine lv_istore (lv' := [(7, .int (0 : Int32)), (6, .int u25.1), (0, .ref adF), (1, .ref zl), (2, .ref zt), (3, .ref zr), (4, .int x4), (5, .int x5)]) hx hb dL_areRings_64 hl (by decide) rfl (fun ls hl => ?_)
          exact B66 FU _ _ vR u25.2 x4 x5 u25.1 (0 : Int32) _ _ _ (by first | omega | (unfold FU; omega)) (by first | omega | (unfold FU; omega)) h hP hD hS (lv_sub hl [2, 3, 4, 5, 6, 7, 1, 0] rfl)
  have h := hf
  unfold L_areRings at h
  refine lv_aload_n hx hb dL_areRings_0 rfl (lv_at hl 0 rfl) ?_
  refine lv_iconst (v := (4 : Int32)) hx hb dL_areRings_1 (by decide) ?_
  refine lv_iconst (v := (0 : Int32)) hx hb dL_areRings_2 (by decide) ?_
  obtain ⟨u26, eu26, h⟩ := bd_in h
  refine kI (va_runV (As := [.int (4 : Int32), .int (0 : Int32)]) (rest := []) ⟨hx, hb, hml, hown, hts⟩ (c_X4_ring l D cA cQ adF adB adT adH kH adR adO vB vT vH bH vR vO (4 : Int32) (0 : Int32) u26 eu26 _) (cwV 2 hts gL_areRings_X4_ring rfl rfl rfl (by decide +kernel) ⟨Nat.le_of_ble_eq_true rfl, Nat.le_of_ble_eq_true rfl⟩) (pV (ci := 4) (q := (RX4, TX4, 5)) hK hN hP hD [0, 1, 2, 3, 4, 5, 6, 7, 8, 9, 10, 11, 12, 13, 14, 15, 16, 17, 18, 19, 20, 21, 22, 23, 24, 25, 26, 27, 28, 29, 30, 31, 32, 33, 34, 35, 36, 37, 38, 39, 40, 41, 42, 43, 44, 45, 46, 47, 48, 49, 50, 51, 52, 53, 54, 55, 56, 57, 58, 59, 60, 61, 62, 63, 64, 65, 66, 67, 68, 69, 70, 71, 72, 73, 74, 75, 76, 77, 78, 79, 80, 81, 82, 83, 84, 85, 86, 87, 88, 89, 90, 91, 92, 93, 94] rfl rfl rfl rfl) rfl rfl hl.1 rfl (lv_room (Nat.le_of_ble_eq_true rfl)) dL_areRings_3 ⟨(by show _ + _ ≤ 5; omega), (by show _ + _ ≤ 40; omega)⟩) hP hD hS hA [0, 1, 2, 3, 4, 5, 6, 7, 8, 9, 10, 11, 12, 13, 14, 15, 16, 17, 18, 19, 20, 21, 22, 23, 24, 25, 26, 27, 28, 29, 30, 31, 32, 33, 34, 35, 36, 37, 38, 39, 40, 41, 42, 43, 44, 45, 46, 47, 48, 49, 50, 51, 52, 53, 54, 55, 56, 57, 58, 59, 60, 61, 62, 63, 64, 65, 66, 67, 68, 69, 70, 71, 72, 73, 74, 75, 76, 77, 78, 79, 80, 81, 82, 83, 84, 85, 86, 87, 88, 89, 90, 91, 92, 93, 94] rfl rfl (ws' := (wF cA cQ adF adB adT adH kH adR adO vB vT vH bH u26.2 vO ++ [aI cA zl 41 fl, aI cA zt 16 ft, aI cA zr 9 fr])) rfl (fun H locs hP hD hS => ?_)
  refine lv_ldc (v := (-1000001 : Int32)) hx hb hown (hts (.constant RL 58 (-1000001)) (List.mem_of_getElem? (i := 1) rfl)) dL_areRings_6 ?_
  refine lv_icmp_ne (tgt := 36) hx hb dL_areRings_8 (by decide) (fun c27 => ?_) (fun c27 => ?_)
  · have h := (if_neg c27).symm.trans h
    refine lv_iconst (v := (0 : Int32)) hx hb dL_areRings_36 (by decide) ?_
    refine lv_istore (lv' := [(4, .int (0 : Int32)), (0, .ref adF), (1, .ref zl), (2, .ref zt), (3, .ref zr)]) hx hb dL_areRings_37 hl (by decide) rfl (fun ls hl => ?_)
    refine lv_iconst (v := (0 : Int32)) hx hb dL_areRings_39 (by decide) ?_
    refine lv_istore (lv' := [(5, .int (0 : Int32)), (4, .int (0 : Int32)), (0, .ref adF), (1, .ref zl), (2, .ref zt), (3, .ref zr)]) hx hb dL_areRings_40 hl (by decide) rfl (fun ls hl => ?_)
    exact B42 5 _ _ u26.2 fr (0 : Int32) (0 : Int32) _ _ _ (by first | omega | (unfold FU; omega)) (by first | omega | (unfold FU; omega)) h hP hD hS (lv_sub hl [2, 3, 4, 5, 1, 0] rfl)
  · have h := (if_pos c27).symm.trans h
    refine lv_aload_n hx hb dL_areRings_11 rfl (lv_at hl 0 rfl) ?_
    refine lv_iconst (v := (0 : Int32)) hx hb dL_areRings_12 (by decide) ?_
    refine lv_iconst (v := (-1 : Int32)) hx hb dL_areRings_13 (by decide) ?_
    obtain ⟨u28, eu28, h⟩ := bd_in h
    refine kI (va_runV (As := [.int (0 : Int32), .int (-1 : Int32)]) (rest := []) ⟨hx, hb, hml, hown, hts⟩ (c_X4_ring l D cA cQ adF adB adT adH kH adR adO vB vT vH bH u26.2 vO (0 : Int32) (-1 : Int32) u28 eu28 _) (cwV 2 hts gL_areRings_X4_ring rfl rfl rfl (by decide +kernel) ⟨Nat.le_of_ble_eq_true rfl, Nat.le_of_ble_eq_true rfl⟩) (pV (ci := 4) (q := (RX4, TX4, 5)) hK hN hP hD [0, 1, 2, 3, 4, 5, 6, 7, 8, 9, 10, 11, 12, 13, 14, 15, 16, 17, 18, 19, 20, 21, 22, 23, 24, 25, 26, 27, 28, 29, 30, 31, 32, 33, 34, 35, 36, 37, 38, 39, 40, 41, 42, 43, 44, 45, 46, 47, 48, 49, 50, 51, 52, 53, 54, 55, 56, 57, 58, 59, 60, 61, 62, 63, 64, 65, 66, 67, 68, 69, 70, 71, 72, 73, 74, 75, 76, 77, 78, 79, 80, 81, 82, 83, 84, 85, 86, 87, 88, 89, 90, 91, 92, 93, 94] rfl rfl rfl rfl) rfl rfl hl.1 rfl (lv_room (Nat.le_of_ble_eq_true rfl)) dL_areRings_14 ⟨(by show _ + _ ≤ 5; omega), (by show _ + _ ≤ 40; omega)⟩) hP hD hS hA [0, 1, 2, 3, 4, 5, 6, 7, 8, 9, 10, 11, 12, 13, 14, 15, 16, 17, 18, 19, 20, 21, 22, 23, 24, 25, 26, 27, 28, 29, 30, 31, 32, 33, 34, 35, 36, 37, 38, 39, 40, 41, 42, 43, 44, 45, 46, 47, 48, 49, 50, 51, 52, 53, 54, 55, 56, 57, 58, 59, 60, 61, 62, 63, 64, 65, 66, 67, 68, 69, 70, 71, 72, 73, 74, 75, 76, 77, 78, 79, 80, 81, 82, 83, 84, 85, 86, 87, 88, 89, 90, 91, 92, 93, 94] rfl rfl (ws' := (wF cA cQ adF adB adT adH kH adR adO vB vT vH bH u28.2 vO ++ [aI cA zl 41 fl, aI cA zt 16 ft, aI cA zr 9 fr])) rfl (fun H locs hP hD hS => ?_)
    refine lv_ldc (v := (-1000001 : Int32)) hx hb hown (hts (.constant RL 58 (-1000001)) (List.mem_of_getElem? (i := 1) rfl)) dL_areRings_17 ?_
    refine lv_icmp_ne (tgt := 36) hx hb dL_areRings_19 (by decide) (fun c29 => ?_) (fun c29 => ?_)
    · have h := (if_neg c29).symm.trans h
      refine lv_iconst (v := (0 : Int32)) hx hb dL_areRings_36 (by decide) ?_
      refine lv_istore (lv' := [(4, .int (0 : Int32)), (0, .ref adF), (1, .ref zl), (2, .ref zt), (3, .ref zr)]) hx hb dL_areRings_37 hl (by decide) rfl (fun ls hl => ?_)
      refine lv_iconst (v := (0 : Int32)) hx hb dL_areRings_39 (by decide) ?_
      refine lv_istore (lv' := [(5, .int (0 : Int32)), (4, .int (0 : Int32)), (0, .ref adF), (1, .ref zl), (2, .ref zt), (3, .ref zr)]) hx hb dL_areRings_40 hl (by decide) rfl (fun ls hl => ?_)
      exact B42 5 _ _ u28.2 fr (0 : Int32) (0 : Int32) _ _ _ (by first | omega | (unfold FU; omega)) (by first | omega | (unfold FU; omega)) h hP hD hS (lv_sub hl [2, 3, 4, 5, 1, 0] rfl)
    · have h := (if_pos c29).symm.trans h
      refine lv_aload_n hx hb dL_areRings_22 rfl (lv_at hl 0 rfl) ?_
      refine lv_iconst (v := (4 : Int32)) hx hb dL_areRings_23 (by decide) ?_
      obtain ⟨u30, eu30, h⟩ := bd_in h
      refine kI (va_runV (As := [.int (4 : Int32)]) (rest := []) ⟨hx, hb, hml, hown, hts⟩ (c_X4_amount l D cA cQ adF adB adT adH kH adR adO vB vT vH bH u28.2 vO (4 : Int32) u30 eu30 _) (cwV 1 hts gL_areRings_X4_amount rfl rfl rfl (by decide +kernel) ⟨Nat.le_of_ble_eq_true rfl, Nat.le_of_ble_eq_true rfl⟩) (pV (ci := 4) (q := (RX4, TX4, 5)) hK hN hP hD [0, 1, 2, 3, 4, 5, 6, 7, 8, 9, 10, 11, 12, 13, 14, 15, 16, 17, 18, 19, 20, 21, 22, 23, 24, 25, 26, 27, 28, 29, 30, 31, 32, 33, 34, 35, 36, 37, 38, 39, 40, 41, 42, 43, 44, 45, 46, 47, 48, 49, 50, 51, 52, 53, 54, 55, 56, 57, 58, 59, 60, 61, 62, 63, 64, 65, 66, 67, 68, 69, 70, 71, 72, 73, 74, 75, 76, 77, 78, 79, 80, 81, 82, 83, 84, 85, 86, 87, 88, 89, 90, 91, 92, 93, 94] rfl rfl rfl rfl) rfl rfl hl.1 rfl (lv_room (Nat.le_of_ble_eq_true rfl)) dL_areRings_24 ⟨(by show _ + _ ≤ 5; omega), (by show _ + _ ≤ 40; omega)⟩) hP hD hS hA [0, 1, 2, 3, 4, 5, 6, 7, 8, 9, 10, 11, 12, 13, 14, 15, 16, 17, 18, 19, 20, 21, 22, 23, 24, 25, 26, 27, 28, 29, 30, 31, 32, 33, 34, 35, 36, 37, 38, 39, 40, 41, 42, 43, 44, 45, 46, 47, 48, 49, 50, 51, 52, 53, 54, 55, 56, 57, 58, 59, 60, 61, 62, 63, 64, 65, 66, 67, 68, 69, 70, 71, 72, 73, 74, 75, 76, 77, 78, 79, 80, 81, 82, 83, 84, 85, 86, 87, 88, 89, 90, 91, 92, 93, 94] rfl rfl (ws' := (wF cA cQ adF adB adT adH kH adR adO vB vT vH bH u30.2 vO ++ [aI cA zl 41 fl, aI cA zt 16 ft, aI cA zr 9 fr])) rfl (fun H locs hP hD hS => ?_)
      refine lv_ldc (v := (-1000001 : Int32)) hx hb hown (hts (.constant RL 58 (-1000001)) (List.mem_of_getElem? (i := 1) rfl)) dL_areRings_27 ?_
      refine lv_icmp_ne (tgt := 36) hx hb dL_areRings_29 (by decide) (fun c31 => ?_) (fun c31 => ?_)
      · have h := (if_neg c31).symm.trans h
        refine lv_iconst (v := (0 : Int32)) hx hb dL_areRings_36 (by decide) ?_
        refine lv_istore (lv' := [(4, .int (0 : Int32)), (0, .ref adF), (1, .ref zl), (2, .ref zt), (3, .ref zr)]) hx hb dL_areRings_37 hl (by decide) rfl (fun ls hl => ?_)
        refine lv_iconst (v := (0 : Int32)) hx hb dL_areRings_39 (by decide) ?_
        refine lv_istore (lv' := [(5, .int (0 : Int32)), (4, .int (0 : Int32)), (0, .ref adF), (1, .ref zl), (2, .ref zt), (3, .ref zr)]) hx hb dL_areRings_40 hl (by decide) rfl (fun ls hl => ?_)
        exact B42 5 _ _ u30.2 fr (0 : Int32) (0 : Int32) _ _ _ (by first | omega | (unfold FU; omega)) (by first | omega | (unfold FU; omega)) h hP hD hS (lv_sub hl [2, 3, 4, 5, 1, 0] rfl)
      · have h := (if_pos c31).symm.trans h
        refine lv_iconst (v := (1 : Int32)) hx hb dL_areRings_32 (by decide) ?_
        refine lv_goto (tgt := 37) hx hb dL_areRings_33 (by decide) ?_
        refine lv_istore (lv' := [(4, .int (1 : Int32)), (0, .ref adF), (1, .ref zl), (2, .ref zt), (3, .ref zr)]) hx hb dL_areRings_37 hl (by decide) rfl (fun ls hl => ?_)
        refine lv_iconst (v := (0 : Int32)) hx hb dL_areRings_39 (by decide) ?_
        refine lv_istore (lv' := [(5, .int (0 : Int32)), (4, .int (1 : Int32)), (0, .ref adF), (1, .ref zl), (2, .ref zt), (3, .ref zr)]) hx hb dL_areRings_40 hl (by decide) rfl (fun ls hl => ?_)
        exact B42 5 _ _ u30.2 fr (1 : Int32) (0 : Int32) _ _ _ (by first | omega | (unfold FU; omega)) (by first | omega | (unfold FU; omega)) h hP hD hS (lv_sub hl [2, 3, 4, 5, 1, 0] rfl)
set_option maxHeartbeats 4000000 in
set_option maxRecDepth 100000 in
theorem c_L_out (l : Launch) (D : va_G) (cA cQ : ClassId) (zl : Nat) (zt : Nat) (fl : Nat → Int32) (ft : Nat → Int32) (p2 : Int32) (o : (Nat → Int32) × (Nat → Int32)) (hf : L_out fl ft p2 = some o) : Ctv l yL_out wsL_out ({ frames := 0, cells := 0, slots := 0, locals := 0 }) D (TY cA cQ) [.ref zl, .ref zt, .int p2] ([aI cA zl 41 fl, aI cA zt 16 ft] : va_W) ([aI cA zl 41 o.1, aI cA zt 16 o.2] : va_W) := by
  refine Wk.v (cc := cL_out) (maxL := 4) (ret := none) (by decide) rfl (Nat.le_of_ble_eq_true rfl) ?_
  intro p e s m below meth c A ls hx hb hr hlocks hml hown hts hK hN hP hD hA hl
  have hown : s.vm.findClass RL = some m.cls := hown
  have hS : va_S A s.heap s.heap [] := va_S.rf
  have hl : lv_has ls 4 [(0, .ref zl), (1, .ref zt), (2, .int p2)] := hl
  have B9 : ∀ (fu9 : Nat) (fl : Nat → Int32) (ft : Nat → Int32) (x3 : Int32) (H : Heap) (locs : List Loc) (ls : Array Slot), L_out_l9 p2 fu9 fl ft x3 = some o → va_P D vwCl ([aI cA zl 41 fl, aI cA zt 16 ft] : va_W) H → va_D A ([aI cA zl 41 fl, aI cA zt 16 ft] : va_W) → va_S A s.heap H locs → lv_has ls 4 [(0, .ref zl), (1, .ref zt), (3, .int x3)] → W p l e (headSpec wsL_out ({ frames := 0, cells := 0, slots := 0, locals := 0 })).room s m ([.ref zl, .ref zt, .int p2] : List Value).toArray below meth c H locs 0 0 (MQ below (QV D ([aI cA zl 41 o.1, aI cA zt 16 o.2] : va_W) A) ([.ref zl, .ref zt, .int p2] : List Value).toArray s 0 0 A) (F0 m 9 ls []) := by
    intro fu9
    induction fu9 with
    | zero =>
      intro fl ft x3 H locs ls h hP hD hS hl
      cases h
    | succ fu9 ih9 =>
      intro fl ft x3 H locs ls h hP hD hS hl
      rw [L_out_l9] at h
      refine lv_iload_n hx hb dL_out_9 rfl (lv_at hl 2 rfl) ?_
      refine lv_aload_n hx hb dL_out_10 rfl (lv_at hl 1 rfl) ?_
      refine lv_iconst (v := (2 : Int32)) hx hb dL_out_11 (by decide) ?_
      obtain ⟨y1, ey1, h⟩ := bd_in h
      refine ldR hx hb hK hP 1 0 rfl rfl ey1 dL_out_12 ?_
      refine lv_icmp_ge (tgt := 30) hx hb dL_out_13 (by decide) (fun c2 => ?_) (fun c2 => ?_)
      · have h := (if_pos c2).symm.trans h
        cases h
        exact endV hx hb hr hlocks hP hS dL_out_30
      · have h := (if_neg c2).symm.trans h
        refine lv_aload_n hx hb dL_out_16 rfl (lv_at hl 0 rfl) ?_
        refine lv_iload_n hx hb dL_out_17 rfl (lv_at hl 2 rfl) ?_
        refine lv_aload_n hx hb dL_out_18 rfl (lv_at hl 0 rfl) ?_
        refine lv_iload_n hx hb dL_out_19 rfl (lv_at hl 2 rfl) ?_
        refine lv_iconst (v := (1 : Int32)) hx hb dL_out_20 (by decide) ?_
        refine lv_iadd hx hb dL_out_21 ?_
        obtain ⟨y3, ey3, h⟩ := bd_in h
        refine ldR hx hb hK hP 0 0 rfl rfl ey3 dL_out_22 ?_
        obtain ⟨g4, eg4, h⟩ := bd_in h
        refine stR hx hb hK hP hD hS 0 0 rfl rfl eg4 (ws' := ([aI cA zl 41 g4, aI cA zt 16 ft] : va_W)) rfl dL_out_23 (fun H locs hP hD hS => ?_)
        refine lv_iinc (v := (x3 + (1 : Int32))) (lv' := [(3, .int (x3 + (1 : Int32))), (0, .ref zl), (1, .ref zt)]) hx hb dL_out_24 hl (k := 2) rfl rfl (by decide) rfl (fun ls hl => ?_)
        refine lv_goto (tgt := 9) hx hb dL_out_27 (by decide) ?_
        exact ih9 g4 ft (x3 + (1 : Int32)) _ _ _ h hP hD hS (lv_sub hl [1, 2, 0] rfl)
  have h := hf
  unfold L_out at h
  refine lv_aload_n hx hb dL_out_0 rfl (lv_at hl 1 rfl) ?_
  refine lv_iconst (v := (2 : Int32)) hx hb dL_out_1 (by decide) ?_
  refine lv_dup2_11 hx hb dL_out_2 rfl rfl ?_
  obtain ⟨y5, ey5, h⟩ := bd_in h
  refine ldR hx hb hK hP 1 0 rfl rfl ey5 dL_out_3 ?_
  refine lv_iconst (v := (1 : Int32)) hx hb dL_out_4 (by decide) ?_
  refine lv_isub hx hb dL_out_5 ?_
  obtain ⟨g6, eg6, h⟩ := bd_in h
  refine stR hx hb hK hP hD hS 1 0 rfl rfl eg6 (ws' := ([aI cA zl 41 fl, aI cA zt 16 g6] : va_W)) rfl dL_out_6 (fun H locs hP hD hS => ?_)
  refine lv_iload_n hx hb dL_out_7 rfl (lv_at hl 2 rfl) ?_
  refine lv_istore_n (lv' := [(3, .int p2), (0, .ref zl), (1, .ref zt), (2, .int p2)]) hx hb dL_out_8 rfl hl (by decide) rfl (fun ls hl => ?_)
  exact B9 FU fl g6 p2 _ _ _ h hP hD hS (lv_sub hl [1, 2, 0] rfl)
set_option maxHeartbeats 4000000 in
set_option maxRecDepth 100000 in
theorem c_L_take (l : Launch) (D : va_G) (cA cQ : ClassId) (zl : Nat) (zt : Nat) (fl : Nat → Int32) (ft : Nat → Int32) (p2 : Int32) (p3 : Int32) (p4 : Int32) (p5 : Int32) (o : (Nat → Int32) × (Nat → Int32)) (hf : L_take fl ft p2 p3 p4 p5 = some o) : Ctv l yL_take wsL_take ({ frames := 1, cells := 0, slots := 0, locals := 23 }) D (TY cA cQ) [.ref zl, .ref zt, .int p2, .int p3, .int p4, .int p5] ([aI cA zl 41 fl, aI cA zt 16 ft] : va_W) ([aI cA zl 41 o.1, aI cA zt 16 o.2] : va_W) := by
  refine Wk.v (cc := cL_take) (maxL := 10) (ret := none) (by decide) rfl (Nat.le_of_ble_eq_true rfl) ?_
  intro p e s m below meth c A ls hx hb hr hlocks hml hown hts hK hN hP hD hA hl
  have hown : s.vm.findClass RL = some m.cls := hown
  have hS : va_S A s.heap s.heap [] := va_S.rf
  have hl : lv_has ls 10 [(0, .ref zl), (1, .ref zt), (2, .int p2), (3, .int p3), (4, .int p4), (5, .int p5)] := hl
  have B4 : ∀ (fu4 : Nat) (fl : Nat → Int32) (ft : Nat → Int32) (x6 : Int32) (H : Heap) (locs : List Loc) (ls : Array Slot), L_take_l4 p2 p3 p4 p5 fu4 fl ft x6 = some o → va_P D vwCl ([aI cA zl 41 fl, aI cA zt 16 ft] : va_W) H → va_D A ([aI cA zl 41 fl, aI cA zt 16 ft] : va_W) → va_S A s.heap H locs → lv_has ls 10 [(0, .ref zl), (1, .ref zt), (2, .int p2), (3, .int p3), (4, .int p4), (6, .int x6)] → W p l e (headSpec wsL_take ({ frames := 1, cells := 0, slots := 0, locals := 23 })).room s m ([.ref zl, .ref zt, .int p2, .int p3, .int p4, .int p5] : List Value).toArray below meth c H locs 0 0 (MQ below (QV D ([aI cA zl 41 o.1, aI cA zt 16 o.2] : va_W) A) ([.ref zl, .ref zt, .int p2, .int p3, .int p4, .int p5] : List Value).toArray s 0 0 A) (F0 m 4 ls []) := by
    intro fu4
    induction fu4 with
    | zero =>
      intro fl ft x6 H locs ls h hP hD hS hl
      cases h
    | succ fu4 ih4 =>
      have B95 : ∀ (fl : Nat → Int32) (ft : Nat → Int32) (x6 : Int32) (x7 : Int32) (H : Heap) (locs : List Loc) (ls : Array Slot), L_take_b95 p2 p3 p4 p5 (L_take_l4 p2 p3 p4 p5 fu4) fl ft x6 x7 = some o → va_P D vwCl ([aI cA zl 41 fl, aI cA zt 16 ft] : va_W) H → va_D A ([aI cA zl 41 fl, aI cA zt 16 ft] : va_W) → va_S A s.heap H locs → lv_has ls 10 [(0, .ref zl), (1, .ref zt), (2, .int p2), (3, .int p3), (4, .int p4), (6, .int x6), (7, .int x7)] → W p l e (headSpec wsL_take ({ frames := 1, cells := 0, slots := 0, locals := 23 })).room s m ([.ref zl, .ref zt, .int p2, .int p3, .int p4, .int p5] : List Value).toArray below meth c H locs 0 0 (MQ below (QV D ([aI cA zl 41 o.1, aI cA zt 16 o.2] : va_W) A) ([.ref zl, .ref zt, .int p2, .int p3, .int p4, .int p5] : List Value).toArray s 0 0 A) (F0 m 95 ls []) := by
        intro fl ft x6 x7 H locs ls h hP hD hS hl
        unfold L_take_b95 at h
        refine lv_aload_n hx hb dL_take_95 rfl (lv_at hl 0 rfl) ?_
        refine lv_iload hx hb dL_take_96 (lv_at hl 6 rfl) ?_
        refine lv_dup2_11 hx hb dL_take_98 rfl rfl ?_
        obtain ⟨y1, ey1, h⟩ := bd_in h
        refine ldR hx hb hK hP 0 0 rfl rfl ey1 dL_take_99 ?_
        refine lv_sipush (v := (256 : Int32)) hx hb dL_take_100 (by decide) ?_
        refine lv_isub hx hb dL_take_103 ?_
        obtain ⟨g2, eg2, h⟩ := bd_in h
        refine stR hx hb hK hP hD hS 0 0 rfl rfl eg2 (ws' := ([aI cA zl 41 g2, aI cA zt 16 ft] : va_W)) rfl dL_take_104 (fun H locs hP hD hS => ?_)
        refine lv_aload_n hx hb dL_take_105 rfl (lv_at hl 0 rfl) ?_
        refine lv_iload hx hb dL_take_106 (lv_at hl 6 rfl) ?_
        obtain ⟨y3, ey3, h⟩ := bd_in h
        refine ldR hx hb hK hP 0 0 rfl rfl ey3 dL_take_108 ?_
        obtain ⟨u4, eu4, h⟩ := bd_in h
        refine kI (va_runS (As := [.int y3]) (rest := []) ⟨hx, hb, hml, hown, hts⟩ (c_L_many l D cA cQ  y3 u4 eu4 _) (va_cwS 1 hts gL_take_L_many rfl rfl rfl (by decide +kernel) ⟨Nat.le_of_ble_eq_true rfl, Nat.le_of_ble_eq_true rfl⟩) (pS hK hN hP hD [] rfl rfl) rfl rfl hl.1 rfl (lv_room (Nat.le_of_ble_eq_true rfl)) dL_take_109 ⟨Nat.zero_le _, Nat.zero_le _⟩) hP hD hS hA [] rfl rfl (ws' := ([aI cA zl 41 g2, aI cA zt 16 ft] : va_W)) rfl (fun H locs hP hD hS => ?_)
        refine lv_if_ne (tgt := 122) hx hb dL_take_112 (by decide) (fun c5 => ?_) (fun c5 => ?_)
        · have h := (if_neg c5).symm.trans h
          refine lv_iinc (v := (x6 + (-1 : Int32))) (lv' := [(6, .int (x6 + (-1 : Int32))), (0, .ref zl), (1, .ref zt), (2, .int p2), (3, .int p3), (4, .int p4), (7, .int x7)]) hx hb dL_take_122 hl (k := 5) rfl rfl (by decide) rfl (fun ls hl => ?_)
          refine lv_goto (tgt := 4) hx hb dL_take_125 (by decide) ?_
          exact ih4 g2 ft (x6 + (-1 : Int32)) _ _ _ h hP hD hS (lv_sub hl [1, 2, 3, 4, 5, 0] rfl)
        · have h := (if_pos c5).symm.trans h
          refine lv_aload_n hx hb dL_take_115 rfl (lv_at hl 0 rfl) ?_
          refine lv_aload_n hx hb dL_take_116 rfl (lv_at hl 1 rfl) ?_
          refine lv_iload hx hb dL_take_117 (lv_at hl 6 rfl) ?_
          obtain ⟨u6, eu6, h⟩ := bd_in h
          refine kV (va_runS (As := [.ref zl, .ref zt, .int x7]) (rest := []) ⟨hx, hb, hml, hown, hts⟩ (c_L_out l D cA cQ zl zt g2 ft x7 u6 eu6 _) (va_cwS 3 hts gL_take_L_out rfl rfl rfl (by decide +kernel) ⟨Nat.le_of_ble_eq_true rfl, Nat.le_of_ble_eq_true rfl⟩) (pS hK hN hP hD [0, 1] rfl rfl) rfl rfl hl.1 rfl (lv_room (Nat.le_of_ble_eq_true rfl)) dL_take_119 ⟨Nat.zero_le _, Nat.zero_le _⟩) hP hD hS hA [0, 1] rfl rfl (ws' := ([aI cA zl 41 u6.1, aI cA zt 16 u6.2] : va_W)) rfl (fun H locs hP hD hS => ?_)
          refine lv_iinc (v := (x6 + (-1 : Int32))) (lv' := [(6, .int (x6 + (-1 : Int32))), (0, .ref zl), (1, .ref zt), (2, .int p2), (3, .int p3), (4, .int p4), (7, .int x7)]) hx hb dL_take_122 hl (k := 5) rfl rfl (by decide) rfl (fun ls hl => ?_)
          refine lv_goto (tgt := 4) hx hb dL_take_125 (by decide) ?_
          exact ih4 u6.1 u6.2 (x6 + (-1 : Int32)) _ _ _ h hP hD hS (lv_sub hl [1, 2, 3, 4, 5, 0] rfl)
      have B15 : ∀ (fu15 : Nat) (fl : Nat → Int32) (ft : Nat → Int32) (x6 : Int32) (x7 : Int32) (x8 : Int32) (H : Heap) (locs : List Loc) (ls : Array Slot), L_take_l15 p2 p3 p4 p5 (L_take_l4 p2 p3 p4 p5 fu4) fu15 fl ft x6 x7 x8 = some o → va_P D vwCl ([aI cA zl 41 fl, aI cA zt 16 ft] : va_W) H → va_D A ([aI cA zl 41 fl, aI cA zt 16 ft] : va_W) → va_S A s.heap H locs → lv_has ls 10 [(0, .ref zl), (1, .ref zt), (2, .int p2), (3, .int p3), (4, .int p4), (6, .int x6), (7, .int x7), (8, .int x8)] → W p l e (headSpec wsL_take ({ frames := 1, cells := 0, slots := 0, locals := 23 })).room s m ([.ref zl, .ref zt, .int p2, .int p3, .int p4, .int p5] : List Value).toArray below meth c H locs 0 0 (MQ below (QV D ([aI cA zl 41 o.1, aI cA zt 16 o.2] : va_W) A) ([.ref zl, .ref zt, .int p2, .int p3, .int p4, .int p5] : List Value).toArray s 0 0 A) (F0 m 15 ls []) := by
        intro fu15
        induction fu15 with
        | zero =>
          intro fl ft x6 x7 x8 H locs ls h hP hD hS hl
          cases h
        | succ fu15 ih15 =>
          have B51 : ∀ (fl : Nat → Int32) (ft : Nat → Int32) (x6 : Int32) (x7 : Int32) (x8 : Int32) (t0 : Int32) (H : Heap) (locs : List Loc) (ls : Array Slot), L_take_b51 p2 p3 p4 p5 (L_take_l4 p2 p3 p4 p5 fu4) (L_take_l15 p2 p3 p4 p5 (L_take_l4 p2 p3 p4 p5 fu4) fu15) fl ft x6 x7 x8 t0 = some o → va_P D vwCl ([aI cA zl 41 fl, aI cA zt 16 ft] : va_W) H → va_D A ([aI cA zl 41 fl, aI cA zt 16 ft] : va_W) → va_S A s.heap H locs → lv_has ls 10 [(0, .ref zl), (1, .ref zt), (2, .int p2), (3, .int p3), (4, .int p4), (6, .int x6), (7, .int x7), (8, .int x8)] → W p l e (headSpec wsL_take ({ frames := 1, cells := 0, slots := 0, locals := 23 })).room s m ([.ref zl, .ref zt, .int p2, .int p3, .int p4, .int p5] : List Value).toArray below meth c H locs 0 0 (MQ below (QV D ([aI cA zl 41 o.1, aI cA zt 16 o.2] : va_W) A) ([.ref zl, .ref zt, .int p2, .int p3, .int p4, .int p5] : List Value).toArray s 0 0 A) (F0 m 51 ls [.int t0]) := by
            intro fl ft x6 x7 x8 t0 H locs ls h hP hD hS hl
            unfold L_take_b51 at h
            refine lv_istore (lv' := [(9, .int t0), (0, .ref zl), (1, .ref zt), (2, .int p2), (3, .int p3), (4, .int p4), (6, .int x6), (7, .int x7), (8, .int x8)]) hx hb dL_take_51 hl (by decide) rfl (fun ls hl => ?_)
            refine lv_iload hx hb dL_take_53 (lv_at hl 0 rfl) ?_
            refine lv_if_eq (tgt := 85) hx hb dL_take_55 (by decide) (fun c7 => ?_) (fun c7 => ?_)
            · have h := (if_pos c7).symm.trans h
              refine lv_iload hx hb dL_take_85 (lv_at hl 7 rfl) ?_
              refine lv_istore (lv' := [(7, .int x7), (9, .int t0), (0, .ref zl), (1, .ref zt), (2, .int p2), (3, .int p3), (4, .int p4), (6, .int x6), (8, .int x8)]) hx hb dL_take_87 hl (by decide) rfl (fun ls hl => ?_)
              refine lv_iinc (v := (x8 + (1 : Int32))) (lv' := [(8, .int (x8 + (1 : Int32))), (7, .int x7), (9, .int t0), (0, .ref zl), (1, .ref zt), (2, .int p2), (3, .int p3), (4, .int p4), (6, .int x6)]) hx hb dL_take_89 hl (k := 8) rfl rfl (by decide) rfl (fun ls hl => ?_)
              refine lv_goto (tgt := 15) hx hb dL_take_92 (by decide) ?_
              exact ih15 fl ft x6 x7 (x8 + (1 : Int32)) _ _ _ h hP hD hS (lv_sub hl [3, 4, 5, 6, 7, 8, 1, 0] rfl)
            · have h := (if_neg c7).symm.trans h
              refine lv_iload hx hb dL_take_58 (lv_at hl 7 rfl) ?_
              refine lv_if_lt (tgt := 80) hx hb dL_take_60 (by decide) (fun c8 => ?_) (fun c8 => ?_)
              · have h := (if_pos c8).symm.trans h
                refine lv_iload hx hb dL_take_80 (lv_at hl 8 rfl) ?_
                refine lv_goto (tgt := 87) hx hb dL_take_82 (by decide) ?_
                refine lv_istore (lv' := [(7, .int x8), (9, .int t0), (0, .ref zl), (1, .ref zt), (2, .int p2), (3, .int p3), (4, .int p4), (6, .int x6), (8, .int x8)]) hx hb dL_take_87 hl (by decide) rfl (fun ls hl => ?_)
                refine lv_iinc (v := (x8 + (1 : Int32))) (lv' := [(8, .int (x8 + (1 : Int32))), (7, .int x8), (9, .int t0), (0, .ref zl), (1, .ref zt), (2, .int p2), (3, .int p3), (4, .int p4), (6, .int x6)]) hx hb dL_take_89 hl (k := 8) rfl rfl (by decide) rfl (fun ls hl => ?_)
                refine lv_goto (tgt := 15) hx hb dL_take_92 (by decide) ?_
                exact ih15 fl ft x6 x8 (x8 + (1 : Int32)) _ _ _ h hP hD hS (lv_sub hl [3, 4, 5, 6, 7, 8, 1, 0] rfl)
              · have h := (if_neg c8).symm.trans h
                refine lv_aload_n hx hb dL_take_63 rfl (lv_at hl 1 rfl) ?_
                refine lv_iload hx hb dL_take_64 (lv_at hl 8 rfl) ?_
                obtain ⟨y9, ey9, h⟩ := bd_in h
                refine ldR hx hb hK hP 0 0 rfl rfl ey9 dL_take_66 ?_
                obtain ⟨u10, eu10, h⟩ := bd_in h
                refine kI (va_runS (As := [.int y9]) (rest := []) ⟨hx, hb, hml, hown, hts⟩ (c_L_age l D cA cQ  y9 u10 eu10 _) (va_cwS 1 hts gL_take_L_age rfl rfl rfl (by decide +kernel) ⟨Nat.le_of_ble_eq_true rfl, Nat.le_of_ble_eq_true rfl⟩) (pS hK hN hP hD [] rfl rfl) rfl rfl hl.1 rfl (lv_room (Nat.le_of_ble_eq_true rfl)) dL_take_67 ⟨Nat.zero_le _, Nat.zero_le _⟩) hP hD hS hA [] rfl rfl (ws' := ([aI cA zl 41 fl, aI cA zt 16 ft] : va_W)) rfl (fun H locs hP hD hS => ?_)
                refine lv_aload_n hx hb dL_take_70 rfl (lv_at hl 1 rfl) ?_
                refine lv_iload hx hb dL_take_71 (lv_at hl 7 rfl) ?_
                obtain ⟨y11, ey11, h⟩ := bd_in h
                refine ldR hx hb hK hP 0 0 rfl rfl ey11 dL_take_73 ?_
                obtain ⟨u12, eu12, h⟩ := bd_in h
                refine kI (va_runS (As := [.int y11]) (rest := [.int u10]) ⟨hx, hb, hml, hown, hts⟩ (c_L_age l D cA cQ  y11 u12 eu12 _) (va_cwS 1 hts gL_take_L_age rfl rfl rfl (by decide +kernel) ⟨Nat.le_of_ble_eq_true rfl, Nat.le_of_ble_eq_true rfl⟩) (pS hK hN hP hD [] rfl rfl) rfl rfl hl.1 rfl (lv_room (Nat.le_of_ble_eq_true rfl)) dL_take_74 ⟨Nat.zero_le _, Nat.zero_le _⟩) hP hD hS hA [] rfl rfl (ws' := ([aI cA zl 41 fl, aI cA zt 16 ft] : va_W)) rfl (fun H locs hP hD hS => ?_)
                refine lv_icmp_le (tgt := 85) hx hb dL_take_77 (by decide) (fun c13 => ?_) (fun c13 => ?_)
                · have h := (if_pos c13).symm.trans h
                  refine lv_iload hx hb dL_take_85 (lv_at hl 7 rfl) ?_
                  refine lv_istore (lv' := [(7, .int x7), (9, .int t0), (0, .ref zl), (1, .ref zt), (2, .int p2), (3, .int p3), (4, .int p4), (6, .int x6), (8, .int x8)]) hx hb dL_take_87 hl (by decide) rfl (fun ls hl => ?_)
                  refine lv_iinc (v := (x8 + (1 : Int32))) (lv' := [(8, .int (x8 + (1 : Int32))), (7, .int x7), (9, .int t0), (0, .ref zl), (1, .ref zt), (2, .int p2), (3, .int p3), (4, .int p4), (6, .int x6)]) hx hb dL_take_89 hl (k := 8) rfl rfl (by decide) rfl (fun ls hl => ?_)
                  refine lv_goto (tgt := 15) hx hb dL_take_92 (by decide) ?_
                  exact ih15 fl ft x6 x7 (x8 + (1 : Int32)) _ _ _ h hP hD hS (lv_sub hl [3, 4, 5, 6, 7, 8, 1, 0] rfl)
                · have h := (if_neg c13).symm.trans h
                  refine lv_iload hx hb dL_take_80 (lv_at hl 8 rfl) ?_
                  refine lv_goto (tgt := 87) hx hb dL_take_82 (by decide) ?_
                  refine lv_istore (lv' := [(7, .int x8), (9, .int t0), (0, .ref zl), (1, .ref zt), (2, .int p2), (3, .int p3), (4, .int p4), (6, .int x6), (8, .int x8)]) hx hb dL_take_87 hl (by decide) rfl (fun ls hl => ?_)
                  refine lv_iinc (v := (x8 + (1 : Int32))) (lv' := [(8, .int (x8 + (1 : Int32))), (7, .int x8), (9, .int t0), (0, .ref zl), (1, .ref zt), (2, .int p2), (3, .int p3), (4, .int p4), (6, .int x6)]) hx hb dL_take_89 hl (k := 8) rfl rfl (by decide) rfl (fun ls hl => ?_)
                  refine lv_goto (tgt := 15) hx hb dL_take_92 (by decide) ?_
                  exact ih15 fl ft x6 x8 (x8 + (1 : Int32)) _ _ _ h hP hD hS (lv_sub hl [3, 4, 5, 6, 7, 8, 1, 0] rfl)
          intro fl ft x6 x7 x8 H locs ls h hP hD hS hl
          rw [L_take_l15] at h
          refine lv_iload hx hb dL_take_15 (lv_at hl 7 rfl) ?_
          refine lv_aload_n hx hb dL_take_17 rfl (lv_at hl 1 rfl) ?_
          refine lv_iconst (v := (2 : Int32)) hx hb dL_take_18 (by decide) ?_
          obtain ⟨y14, ey14, h⟩ := bd_in h
          refine ldR hx hb hK hP 1 0 rfl rfl ey14 dL_take_19 ?_
          refine lv_icmp_ge (tgt := 95) hx hb dL_take_20 (by decide) (fun c15 => ?_) (fun c15 => ?_)
          · have h := (if_pos c15).symm.trans h
            exact B95 fl ft x6 x7 _ _ _ h hP hD hS (lv_sub hl [0, 1, 2, 3, 4, 5, 6] rfl)
          · have h := (if_neg c15).symm.trans h
            refine lv_aload_n hx hb dL_take_23 rfl (lv_at hl 0 rfl) ?_
            refine lv_iload hx hb dL_take_24 (lv_at hl 7 rfl) ?_
            obtain ⟨y16, ey16, h⟩ := bd_in h
            refine ldR hx hb hK hP 0 0 rfl rfl ey16 dL_take_26 ?_
            refine lv_sipush (v := (255 : Int32)) hx hb dL_take_27 (by decide) ?_
            refine lv_iand hx hb dL_take_30 ?_
            refine lv_iload_n hx hb dL_take_31 rfl (lv_at hl 2 rfl) ?_
            refine lv_bipush (v := (8 : Int32)) hx hb dL_take_32 (by decide) ?_
            refine lv_iload_n hx hb dL_take_34 rfl (lv_at hl 3 rfl) ?_
            refine lv_imul hx hb dL_take_35 ?_
            refine lv_iadd hx hb dL_take_36 ?_
            refine lv_bipush (v := (64 : Int32)) hx hb dL_take_37 (by decide) ?_
            refine lv_iload hx hb dL_take_39 (lv_at hl 4 rfl) ?_
            refine lv_imul hx hb dL_take_41 ?_
            refine lv_iadd hx hb dL_take_42 ?_
            refine lv_icmp_ne (tgt := 50) hx hb dL_take_43 (by decide) (fun c17 => ?_) (fun c17 => ?_)
            · have h := (if_neg c17).symm.trans h
              refine lv_iconst (v := (0 : Int32)) hx hb dL_take_50 (by decide) ?_
              exact B51 fl ft x6 x7 x8 (0 : Int32) _ _ _ h hP hD hS (lv_sub hl [0, 1, 2, 3, 4, 5, 6, 7] rfl)
            · have h := (if_pos c17).symm.trans h
              refine lv_iconst (v := (1 : Int32)) hx hb dL_take_46 (by decide) ?_
              refine lv_goto (tgt := 51) hx hb dL_take_47 (by decide) ?_
              exact B51 fl ft x6 x7 x8 (1 : Int32) _ _ _ h hP hD hS (lv_sub hl [0, 1, 2, 3, 4, 5, 6, 7] rfl)
      intro fl ft x6 H locs ls h hP hD hS hl
      rw [L_take_l4] at h
      refine lv_iload hx hb dL_take_4 (lv_at hl 5 rfl) ?_
      refine lv_if_le (tgt := 128) hx hb dL_take_6 (by decide) (fun c18 => ?_) (fun c18 => ?_)
      · have h := (if_pos c18).symm.trans h
        cases h
        exact endV hx hb hr hlocks hP hS dL_take_128
      · have h := (if_neg c18).symm.trans h
        refine lv_iconst (v := (-1 : Int32)) hx hb dL_take_9 (by decide) ?_
        refine lv_istore (lv' := [(7, .int (-1 : Int32)), (0, .ref zl), (1, .ref zt), (2, .int p2), (3, .int p3), (4, .int p4), (6, .int x6)]) hx hb dL_take_10 hl (by decide) rfl (fun ls hl => ?_)
        refine lv_iconst (v := (0 : Int32)) hx hb dL_take_12 (by decide) ?_
        refine lv_istore (lv' := [(8, .int (0 : Int32)), (7, .int (-1 : Int32)), (0, .ref zl), (1, .ref zt), (2, .int p2), (3, .int p3), (4, .int p4), (6, .int x6)]) hx hb dL_take_13 hl (by decide) rfl (fun ls hl => ?_)
        exact B15 FU fl ft x6 (-1 : Int32) (0 : Int32) _ _ _ h hP hD hS (lv_sub hl [2, 3, 4, 5, 6, 7, 1, 0] rfl)
  have h := hf
  unfold L_take at h
  refine lv_iload hx hb dL_take_0 (lv_at hl 5 rfl) ?_
  refine lv_istore (lv' := [(6, .int p5), (0, .ref zl), (1, .ref zt), (2, .int p2), (3, .int p3), (4, .int p4), (5, .int p5)]) hx hb dL_take_2 hl (by decide) rfl (fun ls hl => ?_)
  exact B4 FU fl ft p5 _ _ _ h hP hD hS (lv_sub hl [1, 2, 3, 4, 5, 0] rfl)
set_option maxHeartbeats 4000000 in
set_option maxRecDepth 100000 in
theorem c_L_clear (l : Launch) (D : va_G) (cA cQ : ClassId) (zl : Nat) (zp : Nat) (zt : Nat) (zr : Nat) (fl : Nat → Int32) (fp : Nat → Int32) (ft : Nat → Int32) (fr : Nat → Int32) (p4 : Int32) (o : Int32 × (Nat → Int32) × (Nat → Int32) × (Nat → Int32) × (Nat → Int32)) (hf : L_clear fl fp ft fr p4 = some o) : Ctj l yL_clear wsL_clear ({ frames := 3, cells := 2001, slots := 16008, locals := 73 }) D (TY cA cQ) [.ref zl, .ref zp, .ref zt, .ref zr, .int p4] ([aI cA zl 41 fl, aI cA zp 48 fp, aI cA zt 16 ft, aI cA zr 9 fr] : va_W) ([aI cA zl 41 o.2.1, aI cA zp 48 o.2.2.1, aI cA zt 16 o.2.2.2.1, aI cA zr 9 o.2.2.2.2] : va_W) o.1 2001 16008 := by
  refine Wk.j (cc := cL_clear) (maxL := 9) (ret := (some .int)) (by decide) rfl (Nat.le_of_ble_eq_true rfl) ?_
  intro p e s m below meth c A ls hx hb hr hlocks hml hown hts hK hN hP hD hA hl
  have hown : s.vm.findClass RL = some m.cls := hown
  have hS : va_S A s.heap s.heap [] := va_S.rf
  have hl : lv_has ls 9 [(0, .ref zl), (1, .ref zp), (2, .ref zt), (3, .ref zr), (4, .int p4)] := hl
  have B125 : ∀ (N S : Nat) (fl : Nat → Int32) (fp : Nat → Int32) (ft : Nat → Int32) (fr : Nat → Int32) (x5 : Int32) (H : Heap) (locs : List Loc) (ls : Array Slot), N + 0 ≤ 2001 → S + 8 * 0 ≤ 16008 → L_clear_b125 p4 fl fp ft fr x5 = some o → va_P D vwCl ([aI cA zl 41 fl, aI cA zp 48 fp, aI cA zt 16 ft, aI cA zr 9 fr] : va_W) H → va_D A ([aI cA zl 41 fl, aI cA zp 48 fp, aI cA zt 16 ft, aI cA zr 9 fr] : va_W) → va_S A s.heap H locs → lv_has ls 9 [(2, .ref zt), (5, .int x5)] → W p l e (headSpec wsL_clear ({ frames := 3, cells := 2001, slots := 16008, locals := 73 })).room s m ([.ref zl, .ref zp, .ref zt, .ref zr, .int p4] : List Value).toArray below meth c H locs N S (MQ below (QI D ([aI cA zl 41 o.2.1, aI cA zp 48 o.2.2.1, aI cA zt 16 o.2.2.2.1, aI cA zr 9 o.2.2.2.2] : va_W) o.1 A) ([.ref zl, .ref zp, .ref zt, .ref zr, .int p4] : List Value).toArray s 2001 16008 A) (F0 m 125 ls []) := by
    intro N S fl fp ft fr x5 H locs ls hn1 hn2 h hP hD hS hl
    unfold L_clear_b125 at h
    refine lv_aload_n hx hb dL_clear_125 rfl (lv_at hl 0 rfl) ?_
    refine lv_bipush (v := (6 : Int32)) hx hb dL_clear_126 (by decide) ?_
    refine lv_dup2_11 hx hb dL_clear_128 rfl rfl ?_
    obtain ⟨y1, ey1, h⟩ := bd_in h
    refine ldR hx hb hK hP 2 0 rfl rfl ey1 dL_clear_129 ?_
    refine lv_iload hx hb dL_clear_130 (lv_at hl 1 rfl) ?_
    refine lv_iadd hx hb dL_clear_132 ?_
    obtain ⟨g2, eg2, h⟩ := bd_in h
    refine stR hx hb hK hP hD hS 2 0 rfl rfl eg2 (ws' := ([aI cA zl 41 fl, aI cA zp 48 fp, aI cA zt 16 g2, aI cA zr 9 fr] : va_W)) rfl dL_clear_133 (fun H locs hP hD hS => ?_)
    refine lv_iload hx hb dL_clear_134 (lv_at hl 1 rfl) ?_
    cases h
    refine W.widen (k := 2001) (n := 16008) (by omega) (by omega) ?_
    exact endI hx hb hr hlocks hP hS rfl dL_clear_136
  have B13 : ∀ (fu13 : Nat) (N S : Nat) (fl : Nat → Int32) (fp : Nat → Int32) (ft : Nat → Int32) (fr : Nat → Int32) (x5 : Int32) (x6 : Int32) (H : Heap) (locs : List Loc) (ls : Array Slot), N + fu13 ≤ 2001 → S + 8 * fu13 ≤ 16008 → L_clear_l13 p4 fu13 fl fp ft fr x5 x6 = some o → va_P D vwCl ([aI cA zl 41 fl, aI cA zp 48 fp, aI cA zt 16 ft, aI cA zr 9 fr] : va_W) H → va_D A ([aI cA zl 41 fl, aI cA zp 48 fp, aI cA zt 16 ft, aI cA zr 9 fr] : va_W) → va_S A s.heap H locs → lv_has ls 9 [(0, .ref zl), (1, .ref zp), (2, .ref zt), (3, .ref zr), (4, .int p4), (5, .int x5), (6, .int x6)] → W p l e (headSpec wsL_clear ({ frames := 3, cells := 2001, slots := 16008, locals := 73 })).room s m ([.ref zl, .ref zp, .ref zt, .ref zr, .int p4] : List Value).toArray below meth c H locs N S (MQ below (QI D ([aI cA zl 41 o.2.1, aI cA zp 48 o.2.2.1, aI cA zt 16 o.2.2.2.1, aI cA zr 9 o.2.2.2.2] : va_W) o.1 A) ([.ref zl, .ref zp, .ref zt, .ref zr, .int p4] : List Value).toArray s 2001 16008 A) (F0 m 13 ls []) := by
    intro fu13
    induction fu13 with
    | zero =>
      intro N S fl fp ft fr x5 x6 H locs ls hn1 hn2 h hP hD hS hl
      cases h
    | succ fu13 ih13 =>
      have B94 : ∀ (N S : Nat) (fl : Nat → Int32) (fp : Nat → Int32) (ft : Nat → Int32) (fr : Nat → Int32) (x5 : Int32) (x6 : Int32) (x7 : Int32) (H : Heap) (locs : List Loc) (ls : Array Slot), N + (fu13 + 1) ≤ 2001 → S + 8 * (fu13 + 1) ≤ 16008 → L_clear_b94 p4 (L_clear_l13 p4 fu13) fl fp ft fr x5 x6 x7 = some o → va_P D vwCl ([aI cA zl 41 fl, aI cA zp 48 fp, aI cA zt 16 ft, aI cA zr 9 fr] : va_W) H → va_D A ([aI cA zl 41 fl, aI cA zp 48 fp, aI cA zt 16 ft, aI cA zr 9 fr] : va_W) → va_S A s.heap H locs → lv_has ls 9 [(0, .ref zl), (1, .ref zp), (2, .ref zt), (3, .ref zr), (4, .int p4), (5, .int x5), (6, .int x6), (7, .int x7)] → W p l e (headSpec wsL_clear ({ frames := 3, cells := 2001, slots := 16008, locals := 73 })).room s m ([.ref zl, .ref zp, .ref zt, .ref zr, .int p4] : List Value).toArray below meth c H locs N S (MQ below (QI D ([aI cA zl 41 o.2.1, aI cA zp 48 o.2.2.1, aI cA zt 16 o.2.2.2.1, aI cA zr 9 o.2.2.2.2] : va_W) o.1 A) ([.ref zl, .ref zp, .ref zt, .ref zr, .int p4] : List Value).toArray s 2001 16008 A) (F0 m 94 ls []) := by
        intro N S fl fp ft fr x5 x6 x7 H locs ls hn1 hn2 h hP hD hS hl
        unfold L_clear_b94 at h
        refine lv_iload hx hb dL_clear_94 (lv_at hl 5 rfl) ?_
        refine lv_iload hx hb dL_clear_96 (lv_at hl 7 rfl) ?_
        refine lv_iload hx hb dL_clear_98 (lv_at hl 6 rfl) ?_
        refine lv_imul hx hb dL_clear_100 ?_
        refine lv_iadd hx hb dL_clear_101 ?_
        refine lv_istore (lv' := [(5, .int (x5 + (x7 * x6))), (0, .ref zl), (1, .ref zp), (2, .ref zt), (3, .ref zr), (4, .int p4), (6, .int x6), (7, .int x7)]) hx hb dL_clear_102 hl (by decide) rfl (fun ls hl => ?_)
        refine lv_aload_n hx hb dL_clear_104 rfl (lv_at hl 3 rfl) ?_
        refine lv_bipush (v := (8 : Int32)) hx hb dL_clear_105 (by decide) ?_
        refine lv_dup2_11 hx hb dL_clear_107 rfl rfl ?_
        obtain ⟨y3, ey3, h⟩ := bd_in h
        refine ldR hx hb hK hP 2 0 rfl rfl ey3 dL_clear_108 ?_
        refine lv_iconst (v := (1 : Int32)) hx hb dL_clear_109 (by decide) ?_
        refine lv_iadd hx hb dL_clear_110 ?_
        obtain ⟨g4, eg4, h⟩ := bd_in h
        refine stR hx hb hK hP hD hS 2 0 rfl rfl eg4 (ws' := ([aI cA zl 41 fl, aI cA zp 48 fp, aI cA zt 16 g4, aI cA zr 9 fr] : va_W)) rfl dL_clear_111 (fun H locs hP hD hS => ?_)
        refine lv_aload_n hx hb dL_clear_112 rfl (lv_at hl 1 rfl) ?_
        refine lv_aload_n hx hb dL_clear_113 rfl (lv_at hl 3 rfl) ?_
        refine lv_aload_n hx hb dL_clear_114 rfl (lv_at hl 4 rfl) ?_
        refine lv_iload hx hb dL_clear_115 (lv_at hl 5 rfl) ?_
        obtain ⟨u5, eu5, h⟩ := bd_in h
        refine kJ (va_runS (As := [.ref zl, .ref zt, .ref zr, .int p4]) (rest := []) ⟨hx, hb, hml, hown, hts⟩ (c_L_ring l D cA cQ zl zt zr fl g4 fr p4 u5 eu5 _) (va_cwS 4 hts gL_clear_L_ring rfl rfl rfl (by decide +kernel) ⟨Nat.le_of_ble_eq_true rfl, Nat.le_of_ble_eq_true rfl⟩) (pS hK hN hP hD [0, 2, 3] rfl rfl) rfl rfl hl.1 rfl (lv_room (Nat.le_of_ble_eq_true rfl)) dL_clear_117 ⟨(by show _ + _ ≤ 2001; omega), (by show _ + _ ≤ 16008; omega)⟩) hP hD hS hA [0, 2, 3] rfl rfl (ws' := ([aI cA zl 41 fl, aI cA zp 48 fp, aI cA zt 16 g4, aI cA zr 9 u5.2] : va_W)) rfl (fun H locs hP hD hS => ?_)
        refine lv_istore (lv' := [(6, .int u5.1), (5, .int (x5 + (x7 * x6))), (0, .ref zl), (1, .ref zp), (2, .ref zt), (3, .ref zr), (4, .int p4), (7, .int x7)]) hx hb dL_clear_120 hl (by decide) rfl (fun ls hl => ?_)
        refine lv_goto (tgt := 13) hx hb dL_clear_122 (by decide) ?_
        exact ih13 _ _ fl fp g4 u5.2 (x5 + (x7 * x6)) u5.1 _ _ _ (by first | omega | (unfold FU; omega)) (by first | omega | (unfold FU; omega)) h hP hD hS (lv_sub hl [2, 3, 4, 5, 6, 1, 0] rfl)
      have B33 : ∀ (fu33 : Nat) (N S : Nat) (fl : Nat → Int32) (fp : Nat → Int32) (ft : Nat → Int32) (fr : Nat → Int32) (x5 : Int32) (x6 : Int32) (x7 : Int32) (x8 : Int32) (H : Heap) (locs : List Loc) (ls : Array Slot), N + (fu13 + 1) ≤ 2001 → S + 8 * (fu13 + 1) ≤ 16008 → L_clear_l33 p4 (L_clear_l13 p4 fu13) fu33 fl fp ft fr x5 x6 x7 x8 = some o → va_P D vwCl ([aI cA zl 41 fl, aI cA zp 48 fp, aI cA zt 16 ft, aI cA zr 9 fr] : va_W) H → va_D A ([aI cA zl 41 fl, aI cA zp 48 fp, aI cA zt 16 ft, aI cA zr 9 fr] : va_W) → va_S A s.heap H locs → lv_has ls 9 [(0, .ref zl), (1, .ref zp), (2, .ref zt), (3, .ref zr), (4, .int p4), (5, .int x5), (6, .int x6), (7, .int x7), (8, .int x8)] → W p l e (headSpec wsL_clear ({ frames := 3, cells := 2001, slots := 16008, locals := 73 })).room s m ([.ref zl, .ref zp, .ref zt, .ref zr, .int p4] : List Value).toArray below meth c H locs N S (MQ below (QI D ([aI cA zl 41 o.2.1, aI cA zp 48 o.2.2.1, aI cA zt 16 o.2.2.2.1, aI cA zr 9 o.2.2.2.2] : va_W) o.1 A) ([.ref zl, .ref zp, .ref zt, .ref zr, .int p4] : List Value).toArray s 2001 16008 A) (F0 m 33 ls []) := by
        intro fu33
        induction fu33 with
        | zero =>
          intro N S fl fp ft fr x5 x6 x7 x8 H locs ls hn1 hn2 h hP hD hS hl
          cases h
        | succ fu33 ih33 =>
          have B64 : ∀ (N S : Nat) (fl : Nat → Int32) (fp : Nat → Int32) (ft : Nat → Int32) (fr : Nat → Int32) (x5 : Int32) (x6 : Int32) (x7 : Int32) (x8 : Int32) (t2 : Int32) (t4 : Int32) (H : Heap) (locs : List Loc) (ls : Array Slot), N + (fu13 + 1) ≤ 2001 → S + 8 * (fu13 + 1) ≤ 16008 → L_clear_b64 p4 (L_clear_l13 p4 fu13) (L_clear_l33 p4 (L_clear_l13 p4 fu13) fu33) fl fp ft fr x5 x6 x7 x8 t2 t4 = some o → va_P D vwCl ([aI cA zl 41 fl, aI cA zp 48 fp, aI cA zt 16 ft, aI cA zr 9 fr] : va_W) H → va_D A ([aI cA zl 41 fl, aI cA zp 48 fp, aI cA zt 16 ft, aI cA zr 9 fr] : va_W) → va_S A s.heap H locs → lv_has ls 9 [(0, .ref zl), (1, .ref zp), (2, .ref zt), (3, .ref zr), (4, .int p4), (5, .int x5), (6, .int x6), (7, .int x7), (8, .int x8)] → W p l e (headSpec wsL_clear ({ frames := 3, cells := 2001, slots := 16008, locals := 73 })).room s m ([.ref zl, .ref zp, .ref zt, .ref zr, .int p4] : List Value).toArray below meth c H locs N S (MQ below (QI D ([aI cA zl 41 o.2.1, aI cA zp 48 o.2.2.1, aI cA zt 16 o.2.2.2.1, aI cA zr 9 o.2.2.2.2] : va_W) o.1 A) ([.ref zl, .ref zp, .ref zt, .ref zr, .int p4] : List Value).toArray s 2001 16008 A) (F0 m 64 ls [.int t4, .ref zr, .int t2, .ref zt, .ref zl]) := by
            intro N S fl fp ft fr x5 x6 x7 x8 t2 t4 H locs ls hn1 hn2 h hP hD hS hl
            unfold L_clear_b64 at h
            obtain ⟨y6, ey6, h⟩ := bd_in h
            refine ldR hx hb hK hP 3 0 rfl rfl ey6 dL_clear_64 ?_
            refine lv_iload hx hb dL_clear_65 (lv_at hl 4 rfl) ?_
            refine lv_iload hx hb dL_clear_67 (lv_at hl 7 rfl) ?_
            obtain ⟨u7, eu7, h⟩ := bd_in h
            refine kV (va_runS (As := [.ref zl, .ref zt, .int t2, .int y6, .int p4, .int x7]) (rest := []) ⟨hx, hb, hml, hown, hts⟩ (c_L_take l D cA cQ zl zt fl ft t2 y6 p4 x7 u7 eu7 _) (va_cwS 6 hts gL_clear_L_take rfl rfl rfl (by decide +kernel) ⟨Nat.le_of_ble_eq_true rfl, Nat.le_of_ble_eq_true rfl⟩) (pS hK hN hP hD [0, 2] rfl rfl) rfl rfl hl.1 rfl (lv_room (Nat.le_of_ble_eq_true rfl)) dL_clear_69 ⟨(by show _ + _ ≤ 2001; omega), (by show _ + _ ≤ 16008; omega)⟩) hP hD hS hA [0, 2] rfl rfl (ws' := ([aI cA zl 41 u7.1, aI cA zp 48 fp, aI cA zt 16 u7.2, aI cA zr 9 fr] : va_W)) rfl (fun H locs hP hD hS => ?_)
            refine lv_aload_n hx hb dL_clear_72 rfl (lv_at hl 1 rfl) ?_
            refine lv_bipush (v := (6 : Int32)) hx hb dL_clear_73 (by decide) ?_
            refine lv_aload_n hx hb dL_clear_75 rfl (lv_at hl 3 rfl) ?_
            refine lv_iload hx hb dL_clear_76 (lv_at hl 8 rfl) ?_
            obtain ⟨y8, ey8, h⟩ := bd_in h
            refine ldR hx hb hK hP 3 0 rfl rfl ey8 dL_clear_78 ?_
            refine lv_imul hx hb dL_clear_79 ?_
            refine lv_iconst (v := (4 : Int32)) hx hb dL_clear_80 (by decide) ?_
            refine lv_iadd hx hb dL_clear_81 ?_
            refine lv_dup2_11 hx hb dL_clear_82 rfl rfl ?_
            obtain ⟨y9, ey9, h⟩ := bd_in h
            refine ldR hx hb hK hP 1 0 rfl rfl ey9 dL_clear_83 ?_
            refine lv_iload hx hb dL_clear_84 (lv_at hl 7 rfl) ?_
            refine lv_iadd hx hb dL_clear_86 ?_
            obtain ⟨g10, eg10, h⟩ := bd_in h
            refine stR hx hb hK hP hD hS 1 0 rfl rfl eg10 (ws' := ([aI cA zl 41 u7.1, aI cA zp 48 g10, aI cA zt 16 u7.2, aI cA zr 9 fr] : va_W)) rfl dL_clear_87 (fun H locs hP hD hS => ?_)
            refine lv_iinc (v := (x8 + (1 : Int32))) (lv' := [(8, .int (x8 + (1 : Int32))), (0, .ref zl), (1, .ref zp), (2, .ref zt), (3, .ref zr), (4, .int p4), (5, .int x5), (6, .int x6), (7, .int x7)]) hx hb dL_clear_88 hl (k := 8) rfl rfl (by decide) rfl (fun ls hl => ?_)
            refine lv_goto (tgt := 33) hx hb dL_clear_91 (by decide) ?_
            exact ih33 _ _ u7.1 g10 u7.2 fr x5 x6 x7 (x8 + (1 : Int32)) _ _ _ (by first | omega | (unfold FU; omega)) (by first | omega | (unfold FU; omega)) h hP hD hS (lv_sub hl [1, 2, 3, 4, 5, 6, 7, 8, 0] rfl)
          intro N S fl fp ft fr x5 x6 x7 x8 H locs ls hn1 hn2 h hP hD hS hl
          rw [L_clear_l33] at h
          refine lv_iload hx hb dL_clear_33 (lv_at hl 8 rfl) ?_
          refine lv_iload hx hb dL_clear_35 (lv_at hl 6 rfl) ?_
          refine lv_icmp_ge (tgt := 94) hx hb dL_clear_37 (by decide) (fun c11 => ?_) (fun c11 => ?_)
          · have h := (if_pos c11).symm.trans h
            exact B94 _ _ fl fp ft fr x5 x6 x7 _ _ _ (by first | omega | (unfold FU; omega)) (by first | omega | (unfold FU; omega)) h hP hD hS (lv_sub hl [0, 1, 2, 3, 4, 5, 6, 7] rfl)
          · have h := (if_neg c11).symm.trans h
            refine lv_aload_n hx hb dL_clear_40 rfl (lv_at hl 0 rfl) ?_
            refine lv_aload_n hx hb dL_clear_41 rfl (lv_at hl 2 rfl) ?_
            refine lv_aload_n hx hb dL_clear_42 rfl (lv_at hl 3 rfl) ?_
            refine lv_iload hx hb dL_clear_43 (lv_at hl 8 rfl) ?_
            obtain ⟨y12, ey12, h⟩ := bd_in h
            refine ldR hx hb hK hP 3 0 rfl rfl ey12 dL_clear_45 ?_
            refine lv_aload_n hx hb dL_clear_46 rfl (lv_at hl 3 rfl) ?_
            refine lv_iload hx hb dL_clear_47 (lv_at hl 8 rfl) ?_
            refine lv_iconst (v := (1 : Int32)) hx hb dL_clear_49 (by decide) ?_
            refine lv_iadd hx hb dL_clear_50 ?_
            refine lv_iload hx hb dL_clear_51 (lv_at hl 6 rfl) ?_
            refine lv_icmp_ge (tgt := 63) hx hb dL_clear_53 (by decide) (fun c13 => ?_) (fun c13 => ?_)
            · have h := (if_pos c13).symm.trans h
              refine lv_iconst (v := (0 : Int32)) hx hb dL_clear_63 (by decide) ?_
              exact B64 _ _ fl fp ft fr x5 x6 x7 x8 y12 (0 : Int32) _ _ _ (by first | omega | (unfold FU; omega)) (by first | omega | (unfold FU; omega)) h hP hD hS (lv_sub hl [0, 1, 2, 3, 4, 5, 6, 7, 8] rfl)
            · have h := (if_neg c13).symm.trans h
              refine lv_iload hx hb dL_clear_56 (lv_at hl 8 rfl) ?_
              refine lv_iconst (v := (1 : Int32)) hx hb dL_clear_58 (by decide) ?_
              refine lv_iadd hx hb dL_clear_59 ?_
              refine lv_goto (tgt := 64) hx hb dL_clear_60 (by decide) ?_
              exact B64 _ _ fl fp ft fr x5 x6 x7 x8 y12 (x8 + (1 : Int32)) _ _ _ (by first | omega | (unfold FU; omega)) (by first | omega | (unfold FU; omega)) h hP hD hS (lv_sub hl [0, 1, 2, 3, 4, 5, 6, 7, 8] rfl)
      intro N S fl fp ft fr x5 x6 H locs ls hn1 hn2 h hP hD hS hl
      rw [L_clear_l13] at h
      refine lv_iload hx hb dL_clear_13 (lv_at hl 6 rfl) ?_
      refine lv_if_le (tgt := 125) hx hb dL_clear_15 (by decide) (fun c14 => ?_) (fun c14 => ?_)
      · have h := (if_pos c14).symm.trans h
        exact B125 _ _ fl fp ft fr x5 _ _ _ (by first | omega | (unfold FU; omega)) (by first | omega | (unfold FU; omega)) h hP hD hS (lv_sub hl [2, 5] rfl)
      · have h := (if_neg c14).symm.trans h
        refine lv_aload_n hx hb dL_clear_18 rfl (lv_at hl 0 rfl) ?_
        refine lv_aload_n hx hb dL_clear_19 rfl (lv_at hl 2 rfl) ?_
        refine lv_aload_n hx hb dL_clear_20 rfl (lv_at hl 3 rfl) ?_
        refine lv_iload hx hb dL_clear_21 (lv_at hl 6 rfl) ?_
        refine lv_iload hx hb dL_clear_23 (lv_at hl 4 rfl) ?_
        obtain ⟨u15, eu15, h⟩ := bd_in h
        refine kI (va_runS (As := [.ref zl, .ref zt, .ref zr, .int x6, .int p4]) (rest := []) ⟨hx, hb, hml, hown, hts⟩ (c_L_amount l D cA cQ zl zt zr fl ft fr x6 p4 u15 eu15 _) (va_cwS 5 hts gL_clear_L_amount rfl rfl rfl (by decide +kernel) ⟨Nat.le_of_ble_eq_true rfl, Nat.le_of_ble_eq_true rfl⟩) (pS hK hN hP hD [0, 2, 3] rfl rfl) rfl rfl hl.1 rfl (lv_room (Nat.le_of_ble_eq_true rfl)) dL_clear_25 ⟨(by show _ + _ ≤ 2001; omega), (by show _ + _ ≤ 16008; omega)⟩) hP hD hS hA [0, 2, 3] rfl rfl (ws' := ([aI cA zl 41 fl, aI cA zp 48 fp, aI cA zt 16 ft, aI cA zr 9 fr] : va_W)) rfl (fun H locs hP hD hS => ?_)
        refine lv_istore (lv' := [(7, .int u15), (0, .ref zl), (1, .ref zp), (2, .ref zt), (3, .ref zr), (4, .int p4), (5, .int x5), (6, .int x6)]) hx hb dL_clear_28 hl (by decide) rfl (fun ls hl => ?_)
        refine lv_iconst (v := (0 : Int32)) hx hb dL_clear_30 (by decide) ?_
        refine lv_istore (lv' := [(8, .int (0 : Int32)), (7, .int u15), (0, .ref zl), (1, .ref zp), (2, .ref zt), (3, .ref zr), (4, .int p4), (5, .int x5), (6, .int x6)]) hx hb dL_clear_31 hl (by decide) rfl (fun ls hl => ?_)
        exact B33 FU _ _ fl fp ft fr x5 x6 u15 (0 : Int32) _ _ _ (by first | omega | (unfold FU; omega)) (by first | omega | (unfold FU; omega)) h hP hD hS (lv_sub hl [2, 3, 4, 5, 6, 7, 8, 1, 0] rfl)
  have h := hf
  unfold L_clear at h
  refine lv_iconst (v := (0 : Int32)) hx hb dL_clear_0 (by decide) ?_
  refine lv_istore (lv' := [(5, .int (0 : Int32)), (0, .ref zl), (1, .ref zp), (2, .ref zt), (3, .ref zr), (4, .int p4)]) hx hb dL_clear_1 hl (by decide) rfl (fun ls hl => ?_)
  refine lv_aload_n hx hb dL_clear_3 rfl (lv_at hl 1 rfl) ?_
  refine lv_aload_n hx hb dL_clear_4 rfl (lv_at hl 3 rfl) ?_
  refine lv_aload_n hx hb dL_clear_5 rfl (lv_at hl 4 rfl) ?_
  refine lv_iload hx hb dL_clear_6 (lv_at hl 5 rfl) ?_
  obtain ⟨u16, eu16, h⟩ := bd_in h
  refine kJ (va_runS (As := [.ref zl, .ref zt, .ref zr, .int p4]) (rest := []) ⟨hx, hb, hml, hown, hts⟩ (c_L_ring l D cA cQ zl zt zr fl ft fr p4 u16 eu16 _) (va_cwS 4 hts gL_clear_L_ring rfl rfl rfl (by decide +kernel) ⟨Nat.le_of_ble_eq_true rfl, Nat.le_of_ble_eq_true rfl⟩) (pS hK hN hP hD [0, 2, 3] rfl rfl) rfl rfl hl.1 rfl (lv_room (Nat.le_of_ble_eq_true rfl)) dL_clear_8 ⟨(by show _ + _ ≤ 2001; omega), (by show _ + _ ≤ 16008; omega)⟩) hP hD hS hA [0, 2, 3] rfl rfl (ws' := ([aI cA zl 41 fl, aI cA zp 48 fp, aI cA zt 16 ft, aI cA zr 9 u16.2] : va_W)) rfl (fun H locs hP hD hS => ?_)
  refine lv_istore (lv' := [(6, .int u16.1), (5, .int (0 : Int32)), (0, .ref zl), (1, .ref zp), (2, .ref zt), (3, .ref zr), (4, .int p4)]) hx hb dL_clear_11 hl (by decide) rfl (fun ls hl => ?_)
  exact B13 FU _ _ fl fp ft u16.2 (0 : Int32) u16.1 _ _ _ (by first | omega | (unfold FU; omega)) (by first | omega | (unfold FU; omega)) h hP hD hS (lv_sub hl [2, 3, 4, 5, 6, 1, 0] rfl)
set_option maxHeartbeats 4000000 in
set_option maxRecDepth 100000 in
theorem c_L_week (l : Launch) (D : va_G) (cA cQ : ClassId) (zl : Nat) (zp : Nat) (zt : Nat) (fl : Nat → Int32) (fp : Nat → Int32) (ft : Nat → Int32) (o : Int32 × (Nat → Int32) × (Nat → Int32) × (Nat → Int32)) (hf : L_week fl fp ft = some o) : Cti l yL_week wsL_week ({ frames := 1, cells := 0, slots := 0, locals := 23 }) D (TY cA cQ) [.ref zl, .ref zp, .ref zt] ([aI cA zl 41 fl, aI cA zp 48 fp, aI cA zt 16 ft] : va_W) ([aI cA zl 41 o.2.1, aI cA zp 48 o.2.2.1, aI cA zt 16 o.2.2.2] : va_W) o.1 := by
  refine Wk.i (cc := cL_week) (maxL := 9) (ret := (some .int)) (by decide) rfl (Nat.le_of_ble_eq_true rfl) ?_
  intro p e s m below meth c A ls hx hb hr hlocks hml hown hts hK hN hP hD hA hl
  have hown : s.vm.findClass RL = some m.cls := hown
  have hS : va_S A s.heap s.heap [] := va_S.rf
  have hl : lv_has ls 9 [(0, .ref zl), (1, .ref zp), (2, .ref zt)] := hl
  have B46 : ∀ (fu46 : Nat) (fl : Nat → Int32) (fp : Nat → Int32) (ft : Nat → Int32) (x3 : Int32) (x4 : Int32) (H : Heap) (locs : List Loc) (ls : Array Slot), L_week_l46 fu46 fl fp ft x3 x4 = some o → va_P D vwCl ([aI cA zl 41 fl, aI cA zp 48 fp, aI cA zt 16 ft] : va_W) H → va_D A ([aI cA zl 41 fl, aI cA zp 48 fp, aI cA zt 16 ft] : va_W) → va_S A s.heap H locs → lv_has ls 9 [(0, .ref zl), (1, .ref zp), (2, .ref zt), (3, .int x3), (4, .int x4)] → W p l e (headSpec wsL_week ({ frames := 1, cells := 0, slots := 0, locals := 23 })).room s m ([.ref zl, .ref zp, .ref zt] : List Value).toArray below meth c H locs 0 0 (MQ below (QI D ([aI cA zl 41 o.2.1, aI cA zp 48 o.2.2.1, aI cA zt 16 o.2.2.2] : va_W) o.1 A) ([.ref zl, .ref zp, .ref zt] : List Value).toArray s 0 0 A) (F0 m 46 ls []) := by
    intro fu46
    induction fu46 with
    | zero =>
      intro fl fp ft x3 x4 H locs ls h hP hD hS hl
      cases h
    | succ fu46 ih46 =>
      have B231 : ∀ (fl : Nat → Int32) (fp : Nat → Int32) (ft : Nat → Int32) (x3 : Int32) (x4 : Int32) (x5 : Int32) (x6 : Int32) (x7 : Int32) (H : Heap) (locs : List Loc) (ls : Array Slot), L_week_b231 (L_week_l46 fu46) fl fp ft x3 x4 x5 x6 x7 = some o → va_P D vwCl ([aI cA zl 41 fl, aI cA zp 48 fp, aI cA zt 16 ft] : va_W) H → va_D A ([aI cA zl 41 fl, aI cA zp 48 fp, aI cA zt 16 ft] : va_W) → va_S A s.heap H locs → lv_has ls 9 [(0, .ref zl), (1, .ref zp), (2, .ref zt), (3, .int x3), (4, .int x4), (5, .int x5), (6, .int x6), (7, .int x7)] → W p l e (headSpec wsL_week ({ frames := 1, cells := 0, slots := 0, locals := 23 })).room s m ([.ref zl, .ref zp, .ref zt] : List Value).toArray below meth c H locs 0 0 (MQ below (QI D ([aI cA zl 41 o.2.1, aI cA zp 48 o.2.2.1, aI cA zt 16 o.2.2.2] : va_W) o.1 A) ([.ref zl, .ref zp, .ref zt] : List Value).toArray s 0 0 A) (F0 m 231 ls []) := by
        intro fl fp ft x3 x4 x5 x6 x7 H locs ls h hP hD hS hl
        unfold L_week_b231 at h
        refine lv_aload_n hx hb dL_week_231 rfl (lv_at hl 1 rfl) ?_
        refine lv_bipush (v := (6 : Int32)) hx hb dL_week_232 (by decide) ?_
        refine lv_iload hx hb dL_week_234 (lv_at hl 6 rfl) ?_
        refine lv_imul hx hb dL_week_236 ?_
        refine lv_iconst (v := (1 : Int32)) hx hb dL_week_237 (by decide) ?_
        refine lv_iadd hx hb dL_week_238 ?_
        refine lv_dup2_11 hx hb dL_week_239 rfl rfl ?_
        obtain ⟨y1, ey1, h⟩ := bd_in h
        refine ldR hx hb hK hP 1 0 rfl rfl ey1 dL_week_240 ?_
        refine lv_iload hx hb dL_week_241 (lv_at hl 7 rfl) ?_
        refine lv_iadd hx hb dL_week_243 ?_
        obtain ⟨g2, eg2, h⟩ := bd_in h
        refine stR hx hb hK hP hD hS 1 0 rfl rfl eg2 (ws' := ([aI cA zl 41 fl, aI cA zp 48 g2, aI cA zt 16 ft] : va_W)) rfl dL_week_244 (fun H locs hP hD hS => ?_)
        refine lv_aload_n hx hb dL_week_245 rfl (lv_at hl 1 rfl) ?_
        refine lv_bipush (v := (6 : Int32)) hx hb dL_week_246 (by decide) ?_
        refine lv_iload hx hb dL_week_248 (lv_at hl 6 rfl) ?_
        refine lv_imul hx hb dL_week_250 ?_
        refine lv_iconst (v := (5 : Int32)) hx hb dL_week_251 (by decide) ?_
        refine lv_iadd hx hb dL_week_252 ?_
        refine lv_dup2_11 hx hb dL_week_253 rfl rfl ?_
        obtain ⟨y3, ey3, h⟩ := bd_in h
        refine ldR hx hb hK hP 1 0 rfl rfl ey3 dL_week_254 ?_
        refine lv_iload hx hb dL_week_255 (lv_at hl 7 rfl) ?_
        refine lv_iadd hx hb dL_week_257 ?_
        obtain ⟨g4, eg4, h⟩ := bd_in h
        refine stR hx hb hK hP hD hS 1 0 rfl rfl eg4 (ws' := ([aI cA zl 41 fl, aI cA zp 48 g4, aI cA zt 16 ft] : va_W)) rfl dL_week_258 (fun H locs hP hD hS => ?_)
        refine lv_aload_n hx hb dL_week_259 rfl (lv_at hl 1 rfl) ?_
        refine lv_bipush (v := (6 : Int32)) hx hb dL_week_260 (by decide) ?_
        refine lv_iload hx hb dL_week_262 (lv_at hl 5 rfl) ?_
        obtain ⟨u5, eu5, h⟩ := bd_in h
        refine kI (va_runS (As := [.int x5]) (rest := [.int (6 : Int32), .ref zp]) ⟨hx, hb, hml, hown, hts⟩ (c_L_creditor l D cA cQ  x5 u5 eu5 _) (va_cwS 1 hts gL_week_L_creditor rfl rfl rfl (by decide +kernel) ⟨Nat.le_of_ble_eq_true rfl, Nat.le_of_ble_eq_true rfl⟩) (pS hK hN hP hD [] rfl rfl) rfl rfl hl.1 rfl (lv_room (Nat.le_of_ble_eq_true rfl)) dL_week_264 ⟨Nat.zero_le _, Nat.zero_le _⟩) hP hD hS hA [] rfl rfl (ws' := ([aI cA zl 41 fl, aI cA zp 48 g4, aI cA zt 16 ft] : va_W)) rfl (fun H locs hP hD hS => ?_)
        refine lv_imul hx hb dL_week_267 ?_
        refine lv_iconst (v := (5 : Int32)) hx hb dL_week_268 (by decide) ?_
        refine lv_iadd hx hb dL_week_269 ?_
        refine lv_dup2_11 hx hb dL_week_270 rfl rfl ?_
        obtain ⟨y6, ey6, h⟩ := bd_in h
        refine ldR hx hb hK hP 1 0 rfl rfl ey6 dL_week_271 ?_
        refine lv_iload hx hb dL_week_272 (lv_at hl 7 rfl) ?_
        refine lv_isub hx hb dL_week_274 ?_
        obtain ⟨g7, eg7, h⟩ := bd_in h
        refine stR hx hb hK hP hD hS 1 0 rfl rfl eg7 (ws' := ([aI cA zl 41 fl, aI cA zp 48 g7, aI cA zt 16 ft] : va_W)) rfl dL_week_275 (fun H locs hP hD hS => ?_)
        refine lv_aload_n hx hb dL_week_276 rfl (lv_at hl 2 rfl) ?_
        refine lv_iconst (v := (5 : Int32)) hx hb dL_week_277 (by decide) ?_
        refine lv_dup2_11 hx hb dL_week_278 rfl rfl ?_
        obtain ⟨y8, ey8, h⟩ := bd_in h
        refine ldR hx hb hK hP 2 0 rfl rfl ey8 dL_week_279 ?_
        refine lv_iload hx hb dL_week_280 (lv_at hl 7 rfl) ?_
        refine lv_iadd hx hb dL_week_282 ?_
        obtain ⟨g9, eg9, h⟩ := bd_in h
        refine stR hx hb hK hP hD hS 2 0 rfl rfl eg9 (ws' := ([aI cA zl 41 fl, aI cA zp 48 g7, aI cA zt 16 g9] : va_W)) rfl dL_week_283 (fun H locs hP hD hS => ?_)
        refine lv_iload_n hx hb dL_week_284 rfl (lv_at hl 3 rfl) ?_
        refine lv_iload hx hb dL_week_285 (lv_at hl 7 rfl) ?_
        refine lv_iadd hx hb dL_week_287 ?_
        refine lv_istore_n (lv' := [(3, .int (x3 + x7)), (0, .ref zl), (1, .ref zp), (2, .ref zt), (4, .int x4), (5, .int x5), (6, .int x6), (7, .int x7)]) hx hb dL_week_288 rfl hl (by decide) rfl (fun ls hl => ?_)
        refine lv_aload_n hx hb dL_week_289 rfl (lv_at hl 1 rfl) ?_
        refine lv_aload_n hx hb dL_week_290 rfl (lv_at hl 3 rfl) ?_
        refine lv_iload hx hb dL_week_291 (lv_at hl 4 rfl) ?_
        obtain ⟨u10, eu10, h⟩ := bd_in h
        refine kV (va_runS (As := [.ref zl, .ref zt, .int x4]) (rest := []) ⟨hx, hb, hml, hown, hts⟩ (c_L_out l D cA cQ zl zt fl g9 x4 u10 eu10 _) (va_cwS 3 hts gL_week_L_out rfl rfl rfl (by decide +kernel) ⟨Nat.le_of_ble_eq_true rfl, Nat.le_of_ble_eq_true rfl⟩) (pS hK hN hP hD [0, 2] rfl rfl) rfl rfl hl.1 rfl (lv_room (Nat.le_of_ble_eq_true rfl)) dL_week_293 ⟨Nat.zero_le _, Nat.zero_le _⟩) hP hD hS hA [0, 2] rfl rfl (ws' := ([aI cA zl 41 u10.1, aI cA zp 48 g7, aI cA zt 16 u10.2] : va_W)) rfl (fun H locs hP hD hS => ?_)
        refine lv_goto (tgt := 46) hx hb dL_week_296 (by decide) ?_
        exact ih46 u10.1 g7 u10.2 (x3 + x7) x4 _ _ _ h hP hD hS (lv_sub hl [1, 2, 3, 0, 4] rfl)
      intro fl fp ft x3 x4 H locs ls h hP hD hS hl
      rw [L_week_l46] at h
      refine lv_iload hx hb dL_week_46 (lv_at hl 4 rfl) ?_
      refine lv_aload_n hx hb dL_week_48 rfl (lv_at hl 2 rfl) ?_
      refine lv_iconst (v := (2 : Int32)) hx hb dL_week_49 (by decide) ?_
      obtain ⟨y11, ey11, h⟩ := bd_in h
      refine ldR hx hb hK hP 2 0 rfl rfl ey11 dL_week_50 ?_
      refine lv_icmp_ge (tgt := 299) hx hb dL_week_51 (by decide) (fun c12 => ?_) (fun c12 => ?_)
      · have h := (if_pos c12).symm.trans h
        refine lv_iload_n hx hb dL_week_299 rfl (lv_at hl 3 rfl) ?_
        cases h
        exact endI hx hb hr hlocks hP hS rfl dL_week_300
      · have h := (if_neg c12).symm.trans h
        refine lv_aload_n hx hb dL_week_54 rfl (lv_at hl 2 rfl) ?_
        refine lv_bipush (v := (9 : Int32)) hx hb dL_week_55 (by decide) ?_
        obtain ⟨y13, ey13, h⟩ := bd_in h
        refine ldR hx hb hK hP 2 0 rfl rfl ey13 dL_week_57 ?_
        refine lv_if_ne (tgt := 299) hx hb dL_week_58 (by decide) (fun c14 => ?_) (fun c14 => ?_)
        · have h := (if_neg c14).symm.trans h
          refine lv_iload_n hx hb dL_week_299 rfl (lv_at hl 3 rfl) ?_
          cases h
          exact endI hx hb hr hlocks hP hS rfl dL_week_300
        · have h := (if_pos c14).symm.trans h
          refine lv_aload_n hx hb dL_week_61 rfl (lv_at hl 0 rfl) ?_
          refine lv_iload hx hb dL_week_62 (lv_at hl 4 rfl) ?_
          obtain ⟨y15, ey15, h⟩ := bd_in h
          refine ldR hx hb hK hP 0 0 rfl rfl ey15 dL_week_64 ?_
          refine lv_istore (lv' := [(5, .int y15), (0, .ref zl), (1, .ref zp), (2, .ref zt), (3, .int x3), (4, .int x4)]) hx hb dL_week_65 hl (by decide) rfl (fun ls hl => ?_)
          refine lv_iload hx hb dL_week_67 (lv_at hl 0 rfl) ?_
          obtain ⟨u16, eu16, h⟩ := bd_in h
          refine kI (va_runS (As := [.int y15]) (rest := []) ⟨hx, hb, hml, hown, hts⟩ (c_L_debtor l D cA cQ  y15 u16 eu16 _) (va_cwS 1 hts gL_week_L_debtor rfl rfl rfl (by decide +kernel) ⟨Nat.le_of_ble_eq_true rfl, Nat.le_of_ble_eq_true rfl⟩) (pS hK hN hP hD [] rfl rfl) rfl rfl hl.1 rfl (lv_room (Nat.le_of_ble_eq_true rfl)) dL_week_69 ⟨Nat.zero_le _, Nat.zero_le _⟩) hP hD hS hA [] rfl rfl (ws' := ([aI cA zl 41 fl, aI cA zp 48 fp, aI cA zt 16 ft] : va_W)) rfl (fun H locs hP hD hS => ?_)
          refine lv_istore (lv' := [(6, .int u16), (5, .int y15), (0, .ref zl), (1, .ref zp), (2, .ref zt), (3, .int x3), (4, .int x4)]) hx hb dL_week_72 hl (by decide) rfl (fun ls hl => ?_)
          refine lv_iload hx hb dL_week_74 (lv_at hl 1 rfl) ?_
          obtain ⟨u17, eu17, h⟩ := bd_in h
          refine kI (va_runS (As := [.int y15]) (rest := []) ⟨hx, hb, hml, hown, hts⟩ (c_L_many l D cA cQ  y15 u17 eu17 _) (va_cwS 1 hts gL_week_L_many rfl rfl rfl (by decide +kernel) ⟨Nat.le_of_ble_eq_true rfl, Nat.le_of_ble_eq_true rfl⟩) (pS hK hN hP hD [] rfl rfl) rfl rfl hl.1 rfl (lv_room (Nat.le_of_ble_eq_true rfl)) dL_week_76 ⟨Nat.zero_le _, Nat.zero_le _⟩) hP hD hS hA [] rfl rfl (ws' := ([aI cA zl 41 fl, aI cA zp 48 fp, aI cA zt 16 ft] : va_W)) rfl (fun H locs hP hD hS => ?_)
          refine lv_istore (lv' := [(7, .int u17), (6, .int u16), (5, .int y15), (0, .ref zl), (1, .ref zp), (2, .ref zt), (3, .int x3), (4, .int x4)]) hx hb dL_week_79 hl (by decide) rfl (fun ls hl => ?_)
          refine lv_aload_n hx hb dL_week_81 rfl (lv_at hl 4 rfl) ?_
          refine lv_bipush (v := (6 : Int32)) hx hb dL_week_82 (by decide) ?_
          refine lv_iload hx hb dL_week_84 (lv_at hl 1 rfl) ?_
          refine lv_imul hx hb dL_week_86 ?_
          refine lv_iconst (v := (2 : Int32)) hx hb dL_week_87 (by decide) ?_
          refine lv_iadd hx hb dL_week_88 ?_
          obtain ⟨y18, ey18, h⟩ := bd_in h
          refine ldR hx hb hK hP 1 0 rfl rfl ey18 dL_week_89 ?_
          refine lv_iconst (v := (1 : Int32)) hx hb dL_week_90 (by decide) ?_
          refine lv_isub hx hb dL_week_91 ?_
          refine lv_istore (lv' := [(8, .int (y18 - (1 : Int32))), (7, .int u17), (6, .int u16), (5, .int y15), (0, .ref zl), (1, .ref zp), (2, .ref zt), (3, .int x3), (4, .int x4)]) hx hb dL_week_92 hl (by decide) rfl (fun ls hl => ?_)
          refine lv_iload hx hb dL_week_94 (lv_at hl 3 rfl) ?_
          obtain ⟨u19, eu19, h⟩ := bd_in h
          refine kI (va_runS (As := [.int y15]) (rest := []) ⟨hx, hb, hml, hown, hts⟩ (c_L_age l D cA cQ  y15 u19 eu19 _) (va_cwS 1 hts gL_week_L_age rfl rfl rfl (by decide +kernel) ⟨Nat.le_of_ble_eq_true rfl, Nat.le_of_ble_eq_true rfl⟩) (pS hK hN hP hD [] rfl rfl) rfl rfl hl.1 rfl (lv_room (Nat.le_of_ble_eq_true rfl)) dL_week_96 ⟨Nat.zero_le _, Nat.zero_le _⟩) hP hD hS hA [] rfl rfl (ws' := ([aI cA zl 41 fl, aI cA zp 48 fp, aI cA zt 16 ft] : va_W)) rfl (fun H locs hP hD hS => ?_)
          refine lv_aload_n hx hb dL_week_99 rfl (lv_at hl 6 rfl) ?_
          refine lv_bipush (v := (10 : Int32)) hx hb dL_week_100 (by decide) ?_
          refine lv_iload hx hb dL_week_102 (lv_at hl 3 rfl) ?_
          obtain ⟨u20, eu20, h⟩ := bd_in h
          refine kI (va_runS (As := [.int y15]) (rest := [.int (10 : Int32), .ref zt, .int u19]) ⟨hx, hb, hml, hown, hts⟩ (c_L_kind l D cA cQ  y15 u20 eu20 _) (va_cwS 1 hts gL_week_L_kind rfl rfl rfl (by decide +kernel) ⟨Nat.le_of_ble_eq_true rfl, Nat.le_of_ble_eq_true rfl⟩) (pS hK hN hP hD [] rfl rfl) rfl rfl hl.1 rfl (lv_room (Nat.le_of_ble_eq_true rfl)) dL_week_104 ⟨Nat.zero_le _, Nat.zero_le _⟩) hP hD hS hA [] rfl rfl (ws' := ([aI cA zl 41 fl, aI cA zp 48 fp, aI cA zt 16 ft] : va_W)) rfl (fun H locs hP hD hS => ?_)
          refine lv_iadd hx hb dL_week_107 ?_
          obtain ⟨y21, ey21, h⟩ := bd_in h
          refine ldR hx hb hK hP 2 0 rfl rfl ey21 dL_week_108 ?_
          refine lv_icmp_ge (tgt := 118) hx hb dL_week_109 (by decide) (fun c22 => ?_) (fun c22 => ?_)
          · have h := (if_pos c22).symm.trans h
            refine lv_iload hx hb dL_week_118 (lv_at hl 0 rfl) ?_
            refine lv_if_lt (tgt := 231) hx hb dL_week_120 (by decide) (fun c23 => ?_) (fun c23 => ?_)
            · have h := (if_pos c23).symm.trans h
              exact B231 fl fp ft x3 x4 y15 u16 u17 _ _ _ h hP hD hS (lv_sub hl [4, 5, 6, 7, 8, 3, 2, 1] rfl)
            · have h := (if_neg c23).symm.trans h
              refine lv_iload hx hb dL_week_123 (lv_at hl 0 rfl) ?_
              refine lv_iload hx hb dL_week_125 (lv_at hl 3 rfl) ?_
              obtain ⟨u24, eu24, h⟩ := bd_in h
              refine kI (va_runS (As := [.int y15]) (rest := [.int (y18 - (1 : Int32))]) ⟨hx, hb, hml, hown, hts⟩ (c_L_creditor l D cA cQ  y15 u24 eu24 _) (va_cwS 1 hts gL_week_L_creditor rfl rfl rfl (by decide +kernel) ⟨Nat.le_of_ble_eq_true rfl, Nat.le_of_ble_eq_true rfl⟩) (pS hK hN hP hD [] rfl rfl) rfl rfl hl.1 rfl (lv_room (Nat.le_of_ble_eq_true rfl)) dL_week_127 ⟨Nat.zero_le _, Nat.zero_le _⟩) hP hD hS hA [] rfl rfl (ws' := ([aI cA zl 41 fl, aI cA zp 48 fp, aI cA zt 16 ft] : va_W)) rfl (fun H locs hP hD hS => ?_)
              refine lv_icmp_eq (tgt := 231) hx hb dL_week_130 (by decide) (fun c25 => ?_) (fun c25 => ?_)
              · have h := (if_pos c25).symm.trans h
                exact B231 fl fp ft x3 x4 y15 u16 u17 _ _ _ h hP hD hS (lv_sub hl [4, 5, 6, 7, 8, 3, 2, 1] rfl)
              · have h := (if_neg c25).symm.trans h
                refine lv_iload hx hb dL_week_133 (lv_at hl 3 rfl) ?_
                refine lv_ldc (v := (1048576 : Int32)) hx hb hown (hts (.constant RL 35 (1048576)) (List.mem_of_getElem? (i := 1) rfl)) dL_week_135 ?_
                refine lv_icmp_ge (tgt := 231) hx hb dL_week_137 (by decide) (fun c26 => ?_) (fun c26 => ?_)
                · have h := (if_pos c26).symm.trans h
                  exact B231 fl fp ft x3 x4 y15 u16 u17 _ _ _ h hP hD hS (lv_sub hl [4, 5, 6, 7, 8, 3, 2, 1] rfl)
                · have h := (if_neg c26).symm.trans h
                  refine lv_aload_n hx hb dL_week_140 rfl (lv_at hl 4 rfl) ?_
                  refine lv_iload hx hb dL_week_141 (lv_at hl 8 rfl) ?_
                  refine lv_iload hx hb dL_week_143 (lv_at hl 0 rfl) ?_
                  refine lv_bipush (v := (8 : Int32)) hx hb dL_week_145 (by decide) ?_
                  refine lv_iload hx hb dL_week_147 (lv_at hl 3 rfl) ?_
                  obtain ⟨u27, eu27, h⟩ := bd_in h
                  refine kI (va_runS (As := [.int y15]) (rest := [.int (8 : Int32), .int (y18 - (1 : Int32)), .int x4, .ref zl]) ⟨hx, hb, hml, hown, hts⟩ (c_L_creditor l D cA cQ  y15 u27 eu27 _) (va_cwS 1 hts gL_week_L_creditor rfl rfl rfl (by decide +kernel) ⟨Nat.le_of_ble_eq_true rfl, Nat.le_of_ble_eq_true rfl⟩) (pS hK hN hP hD [] rfl rfl) rfl rfl hl.1 rfl (lv_room (Nat.le_of_ble_eq_true rfl)) dL_week_149 ⟨Nat.zero_le _, Nat.zero_le _⟩) hP hD hS hA [] rfl rfl (ws' := ([aI cA zl 41 fl, aI cA zp 48 fp, aI cA zt 16 ft] : va_W)) rfl (fun H locs hP hD hS => ?_)
                  refine lv_imul hx hb dL_week_152 ?_
                  refine lv_iadd hx hb dL_week_153 ?_
                  refine lv_bipush (v := (64 : Int32)) hx hb dL_week_154 (by decide) ?_
                  refine lv_iload hx hb dL_week_156 (lv_at hl 3 rfl) ?_
                  obtain ⟨u28, eu28, h⟩ := bd_in h
                  refine kI (va_runS (As := [.int y15]) (rest := [.int (64 : Int32), .int ((y18 - (1 : Int32)) + ((8 : Int32) * u27)), .int x4, .ref zl]) ⟨hx, hb, hml, hown, hts⟩ (c_L_kind l D cA cQ  y15 u28 eu28 _) (va_cwS 1 hts gL_week_L_kind rfl rfl rfl (by decide +kernel) ⟨Nat.le_of_ble_eq_true rfl, Nat.le_of_ble_eq_true rfl⟩) (pS hK hN hP hD [] rfl rfl) rfl rfl hl.1 rfl (lv_room (Nat.le_of_ble_eq_true rfl)) dL_week_158 ⟨Nat.zero_le _, Nat.zero_le _⟩) hP hD hS hA [] rfl rfl (ws' := ([aI cA zl 41 fl, aI cA zp 48 fp, aI cA zt 16 ft] : va_W)) rfl (fun H locs hP hD hS => ?_)
                  refine lv_imul hx hb dL_week_161 ?_
                  refine lv_iadd hx hb dL_week_162 ?_
                  refine lv_sipush (v := (256 : Int32)) hx hb dL_week_163 (by decide) ?_
                  refine lv_iload hx hb dL_week_166 (lv_at hl 1 rfl) ?_
                  refine lv_imul hx hb dL_week_168 ?_
                  refine lv_iadd hx hb dL_week_169 ?_
                  refine lv_ldc (v := (1048576 : Int32)) hx hb hown (hts (.constant RL 35 (1048576)) (List.mem_of_getElem? (i := 1) rfl)) dL_week_170 ?_
                  refine lv_iadd hx hb dL_week_172 ?_
                  obtain ⟨g29, eg29, h⟩ := bd_in h
                  refine stR hx hb hK hP hD hS 0 0 rfl rfl eg29 (ws' := ([aI cA zl 41 g29, aI cA zp 48 fp, aI cA zt 16 ft] : va_W)) rfl dL_week_173 (fun H locs hP hD hS => ?_)
                  refine lv_aload_n hx hb dL_week_174 rfl (lv_at hl 5 rfl) ?_
                  refine lv_bipush (v := (6 : Int32)) hx hb dL_week_175 (by decide) ?_
                  refine lv_iload hx hb dL_week_177 (lv_at hl 0 rfl) ?_
                  refine lv_imul hx hb dL_week_179 ?_
                  refine lv_iconst (v := (3 : Int32)) hx hb dL_week_180 (by decide) ?_
                  refine lv_iadd hx hb dL_week_181 ?_
                  refine lv_dup2_11 hx hb dL_week_182 rfl rfl ?_
                  obtain ⟨y30, ey30, h⟩ := bd_in h
                  refine ldR hx hb hK hP 1 0 rfl rfl ey30 dL_week_183 ?_
                  refine lv_iload hx hb dL_week_184 (lv_at hl 1 rfl) ?_
                  refine lv_iadd hx hb dL_week_186 ?_
                  obtain ⟨g31, eg31, h⟩ := bd_in h
                  refine stR hx hb hK hP hD hS 1 0 rfl rfl eg31 (ws' := ([aI cA zl 41 g29, aI cA zp 48 g31, aI cA zt 16 ft] : va_W)) rfl dL_week_187 (fun H locs hP hD hS => ?_)
                  refine lv_aload_n hx hb dL_week_188 rfl (lv_at hl 5 rfl) ?_
                  refine lv_bipush (v := (6 : Int32)) hx hb dL_week_189 (by decide) ?_
                  refine lv_iload hx hb dL_week_191 (lv_at hl 0 rfl) ?_
                  refine lv_imul hx hb dL_week_193 ?_
                  refine lv_iconst (v := (5 : Int32)) hx hb dL_week_194 (by decide) ?_
                  refine lv_iadd hx hb dL_week_195 ?_
                  refine lv_dup2_11 hx hb dL_week_196 rfl rfl ?_
                  obtain ⟨y32, ey32, h⟩ := bd_in h
                  refine ldR hx hb hK hP 1 0 rfl rfl ey32 dL_week_197 ?_
                  refine lv_iload hx hb dL_week_198 (lv_at hl 1 rfl) ?_
                  refine lv_isub hx hb dL_week_200 ?_
                  obtain ⟨g33, eg33, h⟩ := bd_in h
                  refine stR hx hb hK hP hD hS 1 0 rfl rfl eg33 (ws' := ([aI cA zl 41 g29, aI cA zp 48 g33, aI cA zt 16 ft] : va_W)) rfl dL_week_201 (fun H locs hP hD hS => ?_)
                  refine lv_aload_n hx hb dL_week_202 rfl (lv_at hl 5 rfl) ?_
                  refine lv_bipush (v := (6 : Int32)) hx hb dL_week_203 (by decide) ?_
                  refine lv_iload hx hb dL_week_205 (lv_at hl 2 rfl) ?_
                  refine lv_imul hx hb dL_week_207 ?_
                  refine lv_iconst (v := (5 : Int32)) hx hb dL_week_208 (by decide) ?_
                  refine lv_iadd hx hb dL_week_209 ?_
                  refine lv_dup2_11 hx hb dL_week_210 rfl rfl ?_
                  obtain ⟨y34, ey34, h⟩ := bd_in h
                  refine ldR hx hb hK hP 1 0 rfl rfl ey34 dL_week_211 ?_
                  refine lv_iload hx hb dL_week_212 (lv_at hl 1 rfl) ?_
                  refine lv_iadd hx hb dL_week_214 ?_
                  obtain ⟨g35, eg35, h⟩ := bd_in h
                  refine stR hx hb hK hP hD hS 1 0 rfl rfl eg35 (ws' := ([aI cA zl 41 g29, aI cA zp 48 g35, aI cA zt 16 ft] : va_W)) rfl dL_week_215 (fun H locs hP hD hS => ?_)
                  refine lv_aload_n hx hb dL_week_216 rfl (lv_at hl 6 rfl) ?_
                  refine lv_bipush (v := (7 : Int32)) hx hb dL_week_217 (by decide) ?_
                  refine lv_dup2_11 hx hb dL_week_219 rfl rfl ?_
                  obtain ⟨y36, ey36, h⟩ := bd_in h
                  refine ldR hx hb hK hP 2 0 rfl rfl ey36 dL_week_220 ?_
                  refine lv_iload hx hb dL_week_221 (lv_at hl 1 rfl) ?_
                  refine lv_iadd hx hb dL_week_223 ?_
                  obtain ⟨g37, eg37, h⟩ := bd_in h
                  refine stR hx hb hK hP hD hS 2 0 rfl rfl eg37 (ws' := ([aI cA zl 41 g29, aI cA zp 48 g35, aI cA zt 16 g37] : va_W)) rfl dL_week_224 (fun H locs hP hD hS => ?_)
                  refine lv_iinc (v := (x4 + (1 : Int32))) (lv' := [(4, .int (x4 + (1 : Int32))), (8, .int (y18 - (1 : Int32))), (7, .int u17), (6, .int u16), (5, .int y15), (0, .ref zl), (1, .ref zp), (2, .ref zt), (3, .int x3)]) hx hb dL_week_225 hl (k := 8) rfl rfl (by decide) rfl (fun ls hl => ?_)
                  refine lv_goto (tgt := 296) hx hb dL_week_228 (by decide) ?_
                  refine lv_goto (tgt := 46) hx hb dL_week_296 (by decide) ?_
                  exact ih46 g29 g35 g37 x3 (x4 + (1 : Int32)) _ _ _ h hP hD hS (lv_sub hl [5, 6, 7, 8, 0] rfl)
          · have h := (if_neg c22).symm.trans h
            refine lv_iinc (v := (x4 + (1 : Int32))) (lv' := [(4, .int (x4 + (1 : Int32))), (8, .int (y18 - (1 : Int32))), (7, .int u17), (6, .int u16), (5, .int y15), (0, .ref zl), (1, .ref zp), (2, .ref zt), (3, .int x3)]) hx hb dL_week_112 hl (k := 8) rfl rfl (by decide) rfl (fun ls hl => ?_)
            refine lv_goto (tgt := 296) hx hb dL_week_115 (by decide) ?_
            refine lv_goto (tgt := 46) hx hb dL_week_296 (by decide) ?_
            exact ih46 fl fp ft x3 (x4 + (1 : Int32)) _ _ _ h hP hD hS (lv_sub hl [5, 6, 7, 8, 0] rfl)
  have B12 : ∀ (fu12 : Nat) (fl : Nat → Int32) (fp : Nat → Int32) (ft : Nat → Int32) (x3 : Int32) (x4 : Int32) (H : Heap) (locs : List Loc) (ls : Array Slot), L_week_l12 fu12 fl fp ft x3 x4 = some o → va_P D vwCl ([aI cA zl 41 fl, aI cA zp 48 fp, aI cA zt 16 ft] : va_W) H → va_D A ([aI cA zl 41 fl, aI cA zp 48 fp, aI cA zt 16 ft] : va_W) → va_S A s.heap H locs → lv_has ls 9 [(0, .ref zl), (1, .ref zp), (2, .ref zt), (3, .int x3), (4, .int x4)] → W p l e (headSpec wsL_week ({ frames := 1, cells := 0, slots := 0, locals := 23 })).room s m ([.ref zl, .ref zp, .ref zt] : List Value).toArray below meth c H locs 0 0 (MQ below (QI D ([aI cA zl 41 o.2.1, aI cA zp 48 o.2.2.1, aI cA zt 16 o.2.2.2] : va_W) o.1 A) ([.ref zl, .ref zp, .ref zt] : List Value).toArray s 0 0 A) (F0 m 12 ls []) := by
    intro fu12
    induction fu12 with
    | zero =>
      intro fl fp ft x3 x4 H locs ls h hP hD hS hl
      cases h
    | succ fu12 ih12 =>
      intro fl fp ft x3 x4 H locs ls h hP hD hS hl
      rw [L_week_l12] at h
      refine lv_iload hx hb dL_week_12 (lv_at hl 4 rfl) ?_
      refine lv_aload_n hx hb dL_week_14 rfl (lv_at hl 2 rfl) ?_
      refine lv_iconst (v := (2 : Int32)) hx hb dL_week_15 (by decide) ?_
      obtain ⟨y38, ey38, h⟩ := bd_in h
      refine ldR hx hb hK hP 2 0 rfl rfl ey38 dL_week_16 ?_
      refine lv_icmp_ge (tgt := 43) hx hb dL_week_17 (by decide) (fun c39 => ?_) (fun c39 => ?_)
      · have h := (if_pos c39).symm.trans h
        refine lv_iconst (v := (0 : Int32)) hx hb dL_week_43 (by decide) ?_
        refine lv_istore (lv' := [(4, .int (0 : Int32)), (0, .ref zl), (1, .ref zp), (2, .ref zt), (3, .int x3)]) hx hb dL_week_44 hl (by decide) rfl (fun ls hl => ?_)
        exact B46 FU fl fp ft x3 (0 : Int32) _ _ _ h hP hD hS (lv_sub hl [1, 2, 3, 4, 0] rfl)
      · have h := (if_neg c39).symm.trans h
        refine lv_aload_n hx hb dL_week_20 rfl (lv_at hl 2 rfl) ?_
        refine lv_bipush (v := (9 : Int32)) hx hb dL_week_21 (by decide) ?_
        obtain ⟨y40, ey40, h⟩ := bd_in h
        refine ldR hx hb hK hP 2 0 rfl rfl ey40 dL_week_23 ?_
        refine lv_if_ne (tgt := 43) hx hb dL_week_24 (by decide) (fun c41 => ?_) (fun c41 => ?_)
        · have h := (if_neg c41).symm.trans h
          refine lv_iconst (v := (0 : Int32)) hx hb dL_week_43 (by decide) ?_
          refine lv_istore (lv' := [(4, .int (0 : Int32)), (0, .ref zl), (1, .ref zp), (2, .ref zt), (3, .int x3)]) hx hb dL_week_44 hl (by decide) rfl (fun ls hl => ?_)
          exact B46 FU fl fp ft x3 (0 : Int32) _ _ _ h hP hD hS (lv_sub hl [1, 2, 3, 4, 0] rfl)
        · have h := (if_pos c41).symm.trans h
          refine lv_aload_n hx hb dL_week_27 rfl (lv_at hl 0 rfl) ?_
          refine lv_iload hx hb dL_week_28 (lv_at hl 4 rfl) ?_
          refine lv_dup2_11 hx hb dL_week_30 rfl rfl ?_
          obtain ⟨y42, ey42, h⟩ := bd_in h
          refine ldR hx hb hK hP 0 0 rfl rfl ey42 dL_week_31 ?_
          refine lv_sipush (v := (4096 : Int32)) hx hb dL_week_32 (by decide) ?_
          refine lv_iadd hx hb dL_week_35 ?_
          obtain ⟨g43, eg43, h⟩ := bd_in h
          refine stR hx hb hK hP hD hS 0 0 rfl rfl eg43 (ws' := ([aI cA zl 41 g43, aI cA zp 48 fp, aI cA zt 16 ft] : va_W)) rfl dL_week_36 (fun H locs hP hD hS => ?_)
          refine lv_iinc (v := (x4 + (1 : Int32))) (lv' := [(4, .int (x4 + (1 : Int32))), (0, .ref zl), (1, .ref zp), (2, .ref zt), (3, .int x3)]) hx hb dL_week_37 hl (k := 4) rfl rfl (by decide) rfl (fun ls hl => ?_)
          refine lv_goto (tgt := 12) hx hb dL_week_40 (by decide) ?_
          exact ih12 g43 fp ft x3 (x4 + (1 : Int32)) _ _ _ h hP hD hS (lv_sub hl [1, 2, 3, 4, 0] rfl)
  have h := hf
  unfold L_week at h
  refine lv_aload_n hx hb dL_week_0 rfl (lv_at hl 2 rfl) ?_
  refine lv_iconst (v := (0 : Int32)) hx hb dL_week_1 (by decide) ?_
  refine lv_dup2_11 hx hb dL_week_2 rfl rfl ?_
  obtain ⟨y44, ey44, h⟩ := bd_in h
  refine ldR hx hb hK hP 2 0 rfl rfl ey44 dL_week_3 ?_
  refine lv_iconst (v := (1 : Int32)) hx hb dL_week_4 (by decide) ?_
  refine lv_iadd hx hb dL_week_5 ?_
  obtain ⟨g45, eg45, h⟩ := bd_in h
  refine stR hx hb hK hP hD hS 2 0 rfl rfl eg45 (ws' := ([aI cA zl 41 fl, aI cA zp 48 fp, aI cA zt 16 g45] : va_W)) rfl dL_week_6 (fun H locs hP hD hS => ?_)
  refine lv_iconst (v := (0 : Int32)) hx hb dL_week_7 (by decide) ?_
  refine lv_istore_n (lv' := [(3, .int (0 : Int32)), (0, .ref zl), (1, .ref zp), (2, .ref zt)]) hx hb dL_week_8 rfl hl (by decide) rfl (fun ls hl => ?_)
  refine lv_iconst (v := (0 : Int32)) hx hb dL_week_9 (by decide) ?_
  refine lv_istore (lv' := [(4, .int (0 : Int32)), (3, .int (0 : Int32)), (0, .ref zl), (1, .ref zp), (2, .ref zt)]) hx hb dL_week_10 hl (by decide) rfl (fun ls hl => ?_)
  exact B12 FU fl fp g45 (0 : Int32) (0 : Int32) _ _ _ h hP hD hS (lv_sub hl [2, 3, 4, 1, 0] rfl)

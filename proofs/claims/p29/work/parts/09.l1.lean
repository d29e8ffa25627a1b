/-! The method that reads the script. -/
def BX (D : va_G) (tys : List (ClassId × FieldType)) (b n0 : Nat) (xs : Nat → Int32) (sz : Nat) (U : State) : Prop := BB D tys [] sz U ∧ va_X b n0 xs U U.heap ∧ b < sz
theorem BX.blind {D : va_G} {tys : List (ClassId × FieldType)} {b n0 : Nat} {xs : Nat → Int32} {sz : Nat} {av : List Value} : FrameBlind (va_Pc av (BX D tys b n0 xs sz)) := fun a U g mk q => by
  obtain ⟨q0, q1, q2, q3⟩ := q
  have h := BB.blind a U g mk ⟨q0, q1⟩
  exact ⟨h.1, h.2, va_X.moved (u := U) (U := U.calling g mk a) (Vm.Alike.refl U.vm) q2, q3⟩
theorem pX {s : State} {H : Heap} {As : List Value} {A : Nat → Prop} {locs : List Loc} {D : va_G} {tys : List (ClassId × FieldType)} {b n0 : Nat} {xs : Nat → Int32} (hX : va_X b n0 xs s s.heap) (hbl : b < s.heap.size) (hbA : ¬ A b) (hS : va_S A s.heap H locs) (hK : va_K D vwCl tys s) (hN : NW s) : PreS s H (va_Pc As (BX D tys b n0 xs H.size)) As :=
  ⟨BX.blind, fun U hU hW => ⟨rfl, BB.enter (A := A) hK hN (fun k q h => by simp at h) ⟨fun i j p q h => by simp at h, fun k q h => by simp at h⟩ hU hW, by
    have h1 := (hX.kept (hS.2.1 b hbl hbA)).moved hW.alike
    rw [hU]
    exact h1, Nat.lt_of_lt_of_le hbl hS.1⟩⟩
set_option maxHeartbeats 4000000 in
theorem c_L_cell (l : Launch) (D : va_G) (cA cQ : ClassId) (b n0 : Nat) (xs : Nat → Int32) (p1 : Int32) (o : Int32) (hf : L_cell xs n0 p1 = some o) : ∀ sz, Met l yL_cell wsL_cell ({ frames := 0, cells := 0, slots := 0, locals := 0 }) (va_Pc [.ref b, .int p1] (BX D (TY cA cQ) b n0 xs sz)) (QI D [] o (va_A [] sz)) 0 0 (va_A [] sz) := by
  intro sz
  refine Met.ofW (cc := cL_cell) (maxL := 2) (ret := some .int) (by decide) rfl ?_
  intro p e s m args below meth c s₁ B hml hv
  obtain ⟨rfl, ⟨hsz, hP, hK, hD0, hN⟩, hX, hbl⟩ := hv
  have hl := lv_entry ([.ref b, .int p1]) (n := 2) (Nat.le_of_ble_eq_true rfl)
  rw [lg_entry_eq]
  subst hsz
  generalize (lg_sl ([.ref b, .int p1]) ++ List.replicate (2 - (lg_sl ([.ref b, .int p1])).length) Slot.unset).toArray = ls at hl ⊢
  have hx := B.exec
  have hb := B.bytes
  have hr := B.returns
  have hlocks := B.notSynchronized
  have hown := findClass_of_methodNamed B.named
  have hts := atoms_spec (ws := wsL_cell) B.pre
  have hbA : ¬ va_A [] s.heap.size b := fun z => by
    rcases z with ⟨k, w, hw⟩ | z
    · simp at hw
    · exact absurd hbl (Nat.not_lt.mpr z)
  have hown : s.vm.findClass RL = some m.cls := hown
  have hS : va_S (va_A [] s.heap.size) s.heap s.heap [] := va_S.rf
  have hl : lv_has ls 2 [(0, .ref b), (1, .int p1)] := hl
  have h := hf
  unfold L_cell at h
  refine lv_iload_n hx hb dL_cell_0 rfl (lv_at hl 1 rfl) ?_
  refine lv_aload_n hx hb dL_cell_1 rfl (lv_at hl 0 rfl) ?_
  refine va_slen hx hb hX hbl hbA hS dL_cell_2 ?_
  refine lv_icmp_ge (tgt := 12) hx hb dL_cell_3 (by decide) (fun c1 => ?_) (fun c1 => ?_)
  · have h := (if_pos c1).symm.trans h
    refine lv_ldc (v := (40503 : Int32)) hx hb hown (hts (.constant RL 7 (40503)) (List.mem_of_getElem? (i := 1) rfl)) dL_cell_12 ?_
    refine lv_iload_n hx hb dL_cell_14 rfl (lv_at hl 1 rfl) ?_
    refine lv_iconst (v := (3 : Int32)) hx hb dL_cell_15 (by decide) ?_
    refine lv_iadd hx hb dL_cell_16 ?_
    refine lv_imul hx hb dL_cell_17 ?_
    cases h
    exact endI hx hb hr hlocks hP hS rfl dL_cell_18
  · have h := (if_neg c1).symm.trans h
    refine lv_aload_n hx hb dL_cell_6 rfl (lv_at hl 0 rfl) ?_
    refine lv_iload_n hx hb dL_cell_7 rfl (lv_at hl 1 rfl) ?_
    obtain ⟨y2, ey2, h⟩ := bd_in h
    refine slR hx hb hX hbl hbA hS ey2 dL_cell_8 ?_
    refine lv_goto (tgt := 18) hx hb dL_cell_9 (by decide) ?_
    cases h
    exact endI hx hb hr hlocks hP hS rfl dL_cell_18
set_option maxHeartbeats 8000000 in
set_option maxRecDepth 100000 in
theorem law_go {p : Program} {l : Launch} {e : Env} {s : State} {m : MethodId} {below : List Frame} {meth : Method} {c : Code} {D : va_G} {cA cQ : ClassId} {b n0 : Nat} {xs : Nat → Int32} (C0 : lw_At p s m meth c b n0 xs) (hK : va_K D vwCl (TY cA cQ) s) (adF : Nat) (adB adT adH : Nat → Nat) (kH : Nat → Nat → Nat) (adR adO : Nat → Nat) (zl zp zt zr : Nat) (vB : St) (vT : St) (vH : St) (bH : Nat → St) (vR : St) (vO : St) (fl : Nat → Int32) (fp : Nat → Int32) (ft : Nat → Int32) (fr : Nat → Int32) (H : Heap) (locs : List Loc) (ls : Array Slot) (hf : L_law xs n0 vB vT vH bH vR vO fl fp ft fr = some 1) (hP : va_P D vwCl (wF cA cQ adF adB adT adH kH adR adO vB vT vH bH vR vO ++ [aI cA zl 41 fl, aI cA zp 48 fp, aI cA zt 16 ft, aI cA zr 9 fr]) H) (hD : va_D (fun q : Nat => s.heap.size ≤ q) (wF cA cQ adF adB adT adH kH adR adO vB vT vH bH vR vO ++ [aI cA zl 41 fl, aI cA zp 48 fp, aI cA zt 16 ft, aI cA zr 9 fr])) (hS : va_S (fun q : Nat => s.heap.size ≤ q) s.heap H locs) (hl : lv_has ls 9 [(5, .ref zr), (4, .ref zt), (3, .ref zp), (2, .ref zl), (1, .ref adF), (0, .ref b)]) : W p l e room_1 s m #[Value.ref b] below meth c H locs 99 2252 (lw_Z below #[Value.ref b] s) (F0 m 30 ls []) := by
  obtain ⟨hx, hb, hr, hml, hown, hts, hX, hbl, hlocks, hgv⟩ := C0
  have hts0 := hts
  have hN : NW s := lw_nw hts0
  have hts : ∀ w ∈ wsL_law, w.before #[Value.ref b] s = true := fun w h => hts0 w (wsL_law_in w h)
  have hown : s.vm.findClass RL = some m.cls := hown
  have hA : ∀ q : Nat, s.heap.size ≤ q → (fun q : Nat => s.heap.size ≤ q) q := fun _ h => h
  have hbA : ¬ (fun q : Nat => s.heap.size ≤ q) b := Nat.not_le.mpr hbl
  have B108 : ∀ (fu108 : Nat) (N S : Nat) (vB : St) (vT : St) (vH : St) (bH : Nat → St) (vR : St) (fl : Nat → Int32) (fp : Nat → Int32) (ft : Nat → Int32) (fr : Nat → Int32) (x6 : Int32) (x7 : Int32) (H : Heap) (locs : List Loc) (ls : Array Slot), N + (2006 * fu108) ≤ 600000 → S + 8 * (2006 * fu108) ≤ 7302250 → L_law_l108 vO xs n0 fu108 vB vT vH bH vR fl fp ft fr x6 x7 = some 1 → va_P D vwCl (wF cA cQ adF adB adT adH kH adR adO vB vT vH bH vR vO ++ [aI cA zl 41 fl, aI cA zp 48 fp, aI cA zt 16 ft, aI cA zr 9 fr]) H → va_D (fun q : Nat => s.heap.size ≤ q) (wF cA cQ adF adB adT adH kH adR adO vB vT vH bH vR vO ++ [aI cA zl 41 fl, aI cA zp 48 fp, aI cA zt 16 ft, aI cA zr 9 fr]) → va_S (fun q : Nat => s.heap.size ≤ q) s.heap H locs → lv_has ls 9 [(0, .ref b), (1, .ref adF), (2, .ref zl), (3, .ref zp), (4, .ref zt), (5, .ref zr), (6, .int x6), (7, .int x7)] → W p l e room_1 s m #[Value.ref b] below meth c H locs N S (lw_Z below #[Value.ref b] s) (F0 m 108 ls []) := by
    intro fu108
    induction fu108 with
    | zero =>
      intro N S vB vT vH bH vR fl fp ft fr x6 x7 H locs ls hn1 hn2 h hP hD hS hl
      cases h
    | succ fu108 ih108 =>
      have B158 : ∀ (N S : Nat) (vB : St) (vT : St) (vH : St) (bH : Nat → St) (vR : St) (fl : Nat → Int32) (fp : Nat → Int32) (ft : Nat → Int32) (fr : Nat → Int32) (x7 : Int32) (x8 : Int32) (t5 : Int32) (H : Heap) (locs : List Loc) (ls : Array Slot), N + (2006 * fu108 + 2006) ≤ 600000 → S + 8 * (2006 * fu108 + 2006) ≤ 7302250 → L_law_b158 vO xs n0 (L_law_l108 vO xs n0 fu108) vB vT vH bH vR fl fp ft fr x7 x8 t5 = some 1 → va_P D vwCl (wF cA cQ adF adB adT adH kH adR adO vB vT vH bH vR vO ++ [aI cA zl 41 fl, aI cA zp 48 fp, aI cA zt 16 ft, aI cA zr 9 fr]) H → va_D (fun q : Nat => s.heap.size ≤ q) (wF cA cQ adF adB adT adH kH adR adO vB vT vH bH vR vO ++ [aI cA zl 41 fl, aI cA zp 48 fp, aI cA zt 16 ft, aI cA zr 9 fr]) → va_S (fun q : Nat => s.heap.size ≤ q) s.heap H locs → lv_has ls 9 [(0, .ref b), (1, .ref adF), (2, .ref zl), (3, .ref zp), (4, .ref zt), (5, .ref zr), (7, .int x7), (8, .int x8)] → W p l e room_1 s m #[Value.ref b] below meth c H locs N S (lw_Z below #[Value.ref b] s) (F0 m 158 ls [.int t5, .ref zr, .ref zt, .ref zp, .ref zl, .ref adF]) := by
        intro N S vB vT vH bH vR fl fp ft fr x7 x8 t5 H locs ls hn1 hn2 h hP hD hS hl
        unfold L_law_b158 at h
        refine lv_iload hx hb dL_law_158 (lv_at hl 7 rfl) ?_
        refine lv_bipush (v := (20 : Int32)) hx hb dL_law_160 (by decide) ?_
        obtain ⟨r1, er1, h⟩ := bd_in h
        refine dvR hx hb er1 dL_law_162 ?_
        obtain ⟨u2, eu2, h⟩ := bd_in h
        refine kJ (va_runS (As := [.ref adF, .ref zl, .ref zp, .ref zt, .ref zr, .int t5, .int r1]) (rest := []) ⟨hx, hb, hml, hown, hts⟩ (c_L_isActed l D cA cQ adF adB adT adH kH adR adO zl zp zt zr vB vT vH bH vR vO fl fp ft fr t5 r1 u2 eu2 _) (va_cwS 7 hts gL_law_L_isActed rfl rfl rfl (by decide +kernel) ⟨Nat.le_of_ble_eq_true rfl, Nat.le_of_ble_eq_true rfl⟩) (pS hK hN hP hD [0, 1, 2, 3, 4, 5, 6, 7, 8, 9, 10, 11, 12, 13, 14, 15, 16, 17, 18, 19, 20, 21, 22, 23, 24, 25, 26, 27, 28, 29, 30, 31, 32, 33, 34, 35, 36, 37, 38, 39, 40, 41, 42, 43, 44, 45, 46, 47, 48, 49, 50, 51, 52, 53, 54, 55, 56, 57, 58, 59, 60, 61, 62, 63, 64, 65, 66, 67, 68, 69, 70, 71, 72, 73, 74, 75, 76, 77, 78, 79, 80, 81, 82, 83, 84, 85, 86, 87, 88, 89, 90, 91, 92, 93, 94, 95, 96, 97, 98] rfl rfl) rfl rfl hl.1 rfl (lv_room (Nat.le_of_ble_eq_true rfl)) dL_law_163 ⟨(by show _ + _ ≤ 600000; omega), (by show _ + _ ≤ 7302250; omega)⟩) hP hD hS hA [0, 1, 2, 3, 4, 5, 6, 7, 8, 9, 10, 11, 12, 13, 14, 15, 16, 17, 18, 19, 20, 21, 22, 23, 24, 25, 26, 27, 28, 29, 30, 31, 32, 33, 34, 35, 36, 37, 38, 39, 40, 41, 42, 43, 44, 45, 46, 47, 48, 49, 50, 51, 52, 53, 54, 55, 56, 57, 58, 59, 60, 61, 62, 63, 64, 65, 66, 67, 68, 69, 70, 71, 72, 73, 74, 75, 76, 77, 78, 79, 80, 81, 82, 83, 84, 85, 86, 87, 88, 89, 90, 91, 92, 93, 94, 95, 96, 97, 98] rfl rfl (ws' := (wF cA cQ adF adB adT adH kH adR adO u2.2.1 u2.2.2.1 u2.2.2.2.1 u2.2.2.2.2.1 u2.2.2.2.2.2.1 vO ++ [aI cA zl 41 u2.2.2.2.2.2.2.1, aI cA zp 48 u2.2.2.2.2.2.2.2.1, aI cA zt 16 u2.2.2.2.2.2.2.2.2.1, aI cA zr 9 u2.2.2.2.2.2.2.2.2.2])) rfl (fun H locs hP hD hS => ?_)
        refine lv_if_eq (tgt := 206) hx hb dL_law_166 (by decide) (fun c3 => ?_) (fun c3 => ?_)
        · have h := (if_pos c3).symm.trans h
          refine lv_iconst (v := (0 : Int32)) hx hb dL_law_206 (by decide) ?_
          refine lv_istore (lv' := [(6, .int (0 : Int32)), (0, .ref b), (1, .ref adF), (2, .ref zl), (3, .ref zp), (4, .ref zt), (5, .ref zr), (7, .int x7), (8, .int x8)]) hx hb dL_law_207 hl (by decide) rfl (fun ls hl => ?_)
          refine lv_iinc (v := (x7 + (1 : Int32))) (lv' := [(7, .int (x7 + (1 : Int32))), (6, .int (0 : Int32)), (0, .ref b), (1, .ref adF), (2, .ref zl), (3, .ref zp), (4, .ref zt), (5, .ref zr), (8, .int x8)]) hx hb dL_law_209 hl (k := 7) rfl rfl (by decide) rfl (fun ls hl => ?_)
          refine lv_goto (tgt := 108) hx hb dL_law_212 (by decide) ?_
          exact ih108 _ _ u2.2.1 u2.2.2.1 u2.2.2.2.1 u2.2.2.2.2.1 u2.2.2.2.2.2.1 u2.2.2.2.2.2.2.1 u2.2.2.2.2.2.2.2.1 u2.2.2.2.2.2.2.2.2.1 u2.2.2.2.2.2.2.2.2.2 (0 : Int32) (x7 + (1 : Int32)) _ _ _ (by first | omega | (unfold FU; omega)) (by first | omega | (unfold FU; omega)) h hP hD hS (lv_sub hl [2, 3, 4, 5, 6, 7, 1, 0] rfl)
        · have h := (if_neg c3).symm.trans h
          refine lv_aload_n hx hb dL_law_169 rfl (lv_at hl 1 rfl) ?_
          refine lv_aload_n hx hb dL_law_170 rfl (lv_at hl 2 rfl) ?_
          refine lv_aload hx hb dL_law_171 (lv_at hl 4 rfl) ?_
          obtain ⟨u4, eu4, h⟩ := bd_in h
          refine kI (va_runS (As := [.ref adF, .ref zl, .ref zt]) (rest := []) ⟨hx, hb, hml, hown, hts⟩ (c_L_areLots l D cA cQ adF adB adT adH kH adR adO zl zt u2.2.1 u2.2.2.1 u2.2.2.2.1 u2.2.2.2.2.1 u2.2.2.2.2.2.1 vO u2.2.2.2.2.2.2.1 u2.2.2.2.2.2.2.2.2.1 u4 eu4 _) (va_cwS 3 hts gL_law_L_areLots rfl rfl rfl (by decide +kernel) ⟨Nat.le_of_ble_eq_true rfl, Nat.le_of_ble_eq_true rfl⟩) (pS hK hN hP hD [0, 1, 2, 3, 4, 5, 6, 7, 8, 9, 10, 11, 12, 13, 14, 15, 16, 17, 18, 19, 20, 21, 22, 23, 24, 25, 26, 27, 28, 29, 30, 31, 32, 33, 34, 35, 36, 37, 38, 39, 40, 41, 42, 43, 44, 45, 46, 47, 48, 49, 50, 51, 52, 53, 54, 55, 56, 57, 58, 59, 60, 61, 62, 63, 64, 65, 66, 67, 68, 69, 70, 71, 72, 73, 74, 75, 76, 77, 78, 79, 80, 81, 82, 83, 84, 85, 86, 87, 88, 89, 90, 91, 92, 93, 94, 95, 97] rfl rfl) rfl rfl hl.1 rfl (lv_room (Nat.le_of_ble_eq_true rfl)) dL_law_173 ⟨(by show _ + _ ≤ 600000; omega), (by show _ + _ ≤ 7302250; omega)⟩) hP hD hS hA [0, 1, 2, 3, 4, 5, 6, 7, 8, 9, 10, 11, 12, 13, 14, 15, 16, 17, 18, 19, 20, 21, 22, 23, 24, 25, 26, 27, 28, 29, 30, 31, 32, 33, 34, 35, 36, 37, 38, 39, 40, 41, 42, 43, 44, 45, 46, 47, 48, 49, 50, 51, 52, 53, 54, 55, 56, 57, 58, 59, 60, 61, 62, 63, 64, 65, 66, 67, 68, 69, 70, 71, 72, 73, 74, 75, 76, 77, 78, 79, 80, 81, 82, 83, 84, 85, 86, 87, 88, 89, 90, 91, 92, 93, 94, 95, 97] rfl rfl (ws' := (wF cA cQ adF adB adT adH kH adR adO u2.2.1 u2.2.2.1 u2.2.2.2.1 u2.2.2.2.2.1 u2.2.2.2.2.2.1 vO ++ [aI cA zl 41 u2.2.2.2.2.2.2.1, aI cA zp 48 u2.2.2.2.2.2.2.2.1, aI cA zt 16 u2.2.2.2.2.2.2.2.2.1, aI cA zr 9 u2.2.2.2.2.2.2.2.2.2])) rfl (fun H locs hP hD hS => ?_)
          refine lv_if_eq (tgt := 206) hx hb dL_law_176 (by decide) (fun c5 => ?_) (fun c5 => ?_)
          · have h := (if_pos c5).symm.trans h
            refine lv_iconst (v := (0 : Int32)) hx hb dL_law_206 (by decide) ?_
            refine lv_istore (lv' := [(6, .int (0 : Int32)), (0, .ref b), (1, .ref adF), (2, .ref zl), (3, .ref zp), (4, .ref zt), (5, .ref zr), (7, .int x7), (8, .int x8)]) hx hb dL_law_207 hl (by decide) rfl (fun ls hl => ?_)
            refine lv_iinc (v := (x7 + (1 : Int32))) (lv' := [(7, .int (x7 + (1 : Int32))), (6, .int (0 : Int32)), (0, .ref b), (1, .ref adF), (2, .ref zl), (3, .ref zp), (4, .ref zt), (5, .ref zr), (8, .int x8)]) hx hb dL_law_209 hl (k := 7) rfl rfl (by decide) rfl (fun ls hl => ?_)
            refine lv_goto (tgt := 108) hx hb dL_law_212 (by decide) ?_
            exact ih108 _ _ u2.2.1 u2.2.2.1 u2.2.2.2.1 u2.2.2.2.2.1 u2.2.2.2.2.2.1 u2.2.2.2.2.2.2.1 u2.2.2.2.2.2.2.2.1 u2.2.2.2.2.2.2.2.2.1 u2.2.2.2.2.2.2.2.2.2 (0 : Int32) (x7 + (1 : Int32)) _ _ _ (by first | omega | (unfold FU; omega)) (by first | omega | (unfold FU; omega)) h hP hD hS (lv_sub hl [2, 3, 4, 5, 6, 7, 1, 0] rfl)
          · have h := (if_neg c5).symm.trans h
            refine lv_aload_n hx hb dL_law_179 rfl (lv_at hl 1 rfl) ?_
            refine lv_aload_n hx hb dL_law_180 rfl (lv_at hl 2 rfl) ?_
            refine lv_aload_n hx hb dL_law_181 rfl (lv_at hl 3 rfl) ?_
            refine lv_aload hx hb dL_law_182 (lv_at hl 4 rfl) ?_
            obtain ⟨u6, eu6, h⟩ := bd_in h
            refine kI (va_runS (As := [.ref adF, .ref zl, .ref zp, .ref zt]) (rest := []) ⟨hx, hb, hml, hown, hts⟩ (c_L_arePupils l D cA cQ adF adB adT adH kH adR adO zl zp zt u2.2.1 u2.2.2.1 u2.2.2.2.1 u2.2.2.2.2.1 u2.2.2.2.2.2.1 vO u2.2.2.2.2.2.2.1 u2.2.2.2.2.2.2.2.1 u2.2.2.2.2.2.2.2.2.1 u6 eu6 _) (va_cwS 4 hts gL_law_L_arePupils rfl rfl rfl (by decide +kernel) ⟨Nat.le_of_ble_eq_true rfl, Nat.le_of_ble_eq_true rfl⟩) (pS hK hN hP hD [0, 1, 2, 3, 4, 5, 6, 7, 8, 9, 10, 11, 12, 13, 14, 15, 16, 17, 18, 19, 20, 21, 22, 23, 24, 25, 26, 27, 28, 29, 30, 31, 32, 33, 34, 35, 36, 37, 38, 39, 40, 41, 42, 43, 44, 45, 46, 47, 48, 49, 50, 51, 52, 53, 54, 55, 56, 57, 58, 59, 60, 61, 62, 63, 64, 65, 66, 67, 68, 69, 70, 71, 72, 73, 74, 75, 76, 77, 78, 79, 80, 81, 82, 83, 84, 85, 86, 87, 88, 89, 90, 91, 92, 93, 94, 95, 96, 97] rfl rfl) rfl rfl hl.1 rfl (lv_room (Nat.le_of_ble_eq_true rfl)) dL_law_184 ⟨(by show _ + _ ≤ 600000; omega), (by show _ + _ ≤ 7302250; omega)⟩) hP hD hS hA [0, 1, 2, 3, 4, 5, 6, 7, 8, 9, 10, 11, 12, 13, 14, 15, 16, 17, 18, 19, 20, 21, 22, 23, 24, 25, 26, 27, 28, 29, 30, 31, 32, 33, 34, 35, 36, 37, 38, 39, 40, 41, 42, 43, 44, 45, 46, 47, 48, 49, 50, 51, 52, 53, 54, 55, 56, 57, 58, 59, 60, 61, 62, 63, 64, 65, 66, 67, 68, 69, 70, 71, 72, 73, 74, 75, 76, 77, 78, 79, 80, 81, 82, 83, 84, 85, 86, 87, 88, 89, 90, 91, 92, 93, 94, 95, 96, 97] rfl rfl (ws' := (wF cA cQ adF adB adT adH kH adR adO u2.2.1 u2.2.2.1 u2.2.2.2.1 u2.2.2.2.2.1 u2.2.2.2.2.2.1 vO ++ [aI cA zl 41 u2.2.2.2.2.2.2.1, aI cA zp 48 u2.2.2.2.2.2.2.2.1, aI cA zt 16 u2.2.2.2.2.2.2.2.2.1, aI cA zr 9 u2.2.2.2.2.2.2.2.2.2])) rfl (fun H locs hP hD hS => ?_)
            refine lv_if_eq (tgt := 206) hx hb dL_law_187 (by decide) (fun c7 => ?_) (fun c7 => ?_)
            · have h := (if_pos c7).symm.trans h
              refine lv_iconst (v := (0 : Int32)) hx hb dL_law_206 (by decide) ?_
              refine lv_istore (lv' := [(6, .int (0 : Int32)), (0, .ref b), (1, .ref adF), (2, .ref zl), (3, .ref zp), (4, .ref zt), (5, .ref zr), (7, .int x7), (8, .int x8)]) hx hb dL_law_207 hl (by decide) rfl (fun ls hl => ?_)
              refine lv_iinc (v := (x7 + (1 : Int32))) (lv' := [(7, .int (x7 + (1 : Int32))), (6, .int (0 : Int32)), (0, .ref b), (1, .ref adF), (2, .ref zl), (3, .ref zp), (4, .ref zt), (5, .ref zr), (8, .int x8)]) hx hb dL_law_209 hl (k := 7) rfl rfl (by decide) rfl (fun ls hl => ?_)
              refine lv_goto (tgt := 108) hx hb dL_law_212 (by decide) ?_
              exact ih108 _ _ u2.2.1 u2.2.2.1 u2.2.2.2.1 u2.2.2.2.2.1 u2.2.2.2.2.2.1 u2.2.2.2.2.2.2.1 u2.2.2.2.2.2.2.2.1 u2.2.2.2.2.2.2.2.2.1 u2.2.2.2.2.2.2.2.2.2 (0 : Int32) (x7 + (1 : Int32)) _ _ _ (by first | omega | (unfold FU; omega)) (by first | omega | (unfold FU; omega)) h hP hD hS (lv_sub hl [2, 3, 4, 5, 6, 7, 1, 0] rfl)
            · have h := (if_neg c7).symm.trans h
              refine lv_aload_n hx hb dL_law_190 rfl (lv_at hl 1 rfl) ?_
              refine lv_aload_n hx hb dL_law_191 rfl (lv_at hl 2 rfl) ?_
              refine lv_aload hx hb dL_law_192 (lv_at hl 4 rfl) ?_
              refine lv_aload hx hb dL_law_194 (lv_at hl 5 rfl) ?_
              obtain ⟨u8, eu8, h⟩ := bd_in h
              refine kJ (va_runS (As := [.ref adF, .ref zl, .ref zt, .ref zr]) (rest := []) ⟨hx, hb, hml, hown, hts⟩ (c_L_areRings l D cA cQ adF adB adT adH kH adR adO zl zt zr u2.2.1 u2.2.2.1 u2.2.2.2.1 u2.2.2.2.2.1 u2.2.2.2.2.2.1 vO u2.2.2.2.2.2.2.1 u2.2.2.2.2.2.2.2.2.1 u2.2.2.2.2.2.2.2.2.2 u8 eu8 _) (va_cwS 4 hts gL_law_L_areRings rfl rfl rfl (by decide +kernel) ⟨Nat.le_of_ble_eq_true rfl, Nat.le_of_ble_eq_true rfl⟩) (pS hK hN hP hD [0, 1, 2, 3, 4, 5, 6, 7, 8, 9, 10, 11, 12, 13, 14, 15, 16, 17, 18, 19, 20, 21, 22, 23, 24, 25, 26, 27, 28, 29, 30, 31, 32, 33, 34, 35, 36, 37, 38, 39, 40, 41, 42, 43, 44, 45, 46, 47, 48, 49, 50, 51, 52, 53, 54, 55, 56, 57, 58, 59, 60, 61, 62, 63, 64, 65, 66, 67, 68, 69, 70, 71, 72, 73, 74, 75, 76, 77, 78, 79, 80, 81, 82, 83, 84, 85, 86, 87, 88, 89, 90, 91, 92, 93, 94, 95, 97, 98] rfl rfl) rfl rfl hl.1 rfl (lv_room (Nat.le_of_ble_eq_true rfl)) dL_law_196 ⟨(by show _ + _ ≤ 600000; omega), (by show _ + _ ≤ 7302250; omega)⟩) hP hD hS hA [0, 1, 2, 3, 4, 5, 6, 7, 8, 9, 10, 11, 12, 13, 14, 15, 16, 17, 18, 19, 20, 21, 22, 23, 24, 25, 26, 27, 28, 29, 30, 31, 32, 33, 34, 35, 36, 37, 38, 39, 40, 41, 42, 43, 44, 45, 46, 47, 48, 49, 50, 51, 52, 53, 54, 55, 56, 57, 58, 59, 60, 61, 62, 63, 64, 65, 66, 67, 68, 69, 70, 71, 72, 73, 74, 75, 76, 77, 78, 79, 80, 81, 82, 83, 84, 85, 86, 87, 88, 89, 90, 91, 92, 93, 94, 95, 97, 98] rfl rfl (ws' := (wF cA cQ adF adB adT adH kH adR adO u2.2.1 u2.2.2.1 u2.2.2.2.1 u2.2.2.2.2.1 u8.2.1 vO ++ [aI cA zl 41 u2.2.2.2.2.2.2.1, aI cA zp 48 u2.2.2.2.2.2.2.2.1, aI cA zt 16 u2.2.2.2.2.2.2.2.2.1, aI cA zr 9 u8.2.2])) rfl (fun H locs hP hD hS => ?_)
              refine lv_if_eq (tgt := 206) hx hb dL_law_199 (by decide) (fun c9 => ?_) (fun c9 => ?_)
              · have h := (if_pos c9).symm.trans h
                refine lv_iconst (v := (0 : Int32)) hx hb dL_law_206 (by decide) ?_
                refine lv_istore (lv' := [(6, .int (0 : Int32)), (0, .ref b), (1, .ref adF), (2, .ref zl), (3, .ref zp), (4, .ref zt), (5, .ref zr), (7, .int x7), (8, .int x8)]) hx hb dL_law_207 hl (by decide) rfl (fun ls hl => ?_)
                refine lv_iinc (v := (x7 + (1 : Int32))) (lv' := [(7, .int (x7 + (1 : Int32))), (6, .int (0 : Int32)), (0, .ref b), (1, .ref adF), (2, .ref zl), (3, .ref zp), (4, .ref zt), (5, .ref zr), (8, .int x8)]) hx hb dL_law_209 hl (k := 7) rfl rfl (by decide) rfl (fun ls hl => ?_)
                refine lv_goto (tgt := 108) hx hb dL_law_212 (by decide) ?_
                exact ih108 _ _ u2.2.1 u2.2.2.1 u2.2.2.2.1 u2.2.2.2.2.1 u8.2.1 u2.2.2.2.2.2.2.1 u2.2.2.2.2.2.2.2.1 u2.2.2.2.2.2.2.2.2.1 u8.2.2 (0 : Int32) (x7 + (1 : Int32)) _ _ _ (by first | omega | (unfold FU; omega)) (by first | omega | (unfold FU; omega)) h hP hD hS (lv_sub hl [2, 3, 4, 5, 6, 7, 1, 0] rfl)
              · have h := (if_neg c9).symm.trans h
                refine lv_iconst (v := (1 : Int32)) hx hb dL_law_202 (by decide) ?_
                refine lv_goto (tgt := 207) hx hb dL_law_203 (by decide) ?_
                refine lv_istore (lv' := [(6, .int (1 : Int32)), (0, .ref b), (1, .ref adF), (2, .ref zl), (3, .ref zp), (4, .ref zt), (5, .ref zr), (7, .int x7), (8, .int x8)]) hx hb dL_law_207 hl (by decide) rfl (fun ls hl => ?_)
                refine lv_iinc (v := (x7 + (1 : Int32))) (lv' := [(7, .int (x7 + (1 : Int32))), (6, .int (1 : Int32)), (0, .ref b), (1, .ref adF), (2, .ref zl), (3, .ref zp), (4, .ref zt), (5, .ref zr), (8, .int x8)]) hx hb dL_law_209 hl (k := 7) rfl rfl (by decide) rfl (fun ls hl => ?_)
                refine lv_goto (tgt := 108) hx hb dL_law_212 (by decide) ?_
                exact ih108 _ _ u2.2.1 u2.2.2.1 u2.2.2.2.1 u2.2.2.2.2.1 u8.2.1 u2.2.2.2.2.2.2.1 u2.2.2.2.2.2.2.2.1 u2.2.2.2.2.2.2.2.2.1 u8.2.2 (1 : Int32) (x7 + (1 : Int32)) _ _ _ (by first | omega | (unfold FU; omega)) (by first | omega | (unfold FU; omega)) h hP hD hS (lv_sub hl [2, 3, 4, 5, 6, 7, 1, 0] rfl)
      intro N S vB vT vH bH vR fl fp ft fr x6 x7 H locs ls hn1 hn2 h hP hD hS hl
      rw [L_law_l108] at h
      refine lv_iload hx hb dL_law_108 (lv_at hl 7 rfl) ?_
      refine lv_bipush (v := (64 : Int32)) hx hb dL_law_110 (by decide) ?_
      refine lv_icmp_ge (tgt := 215) hx hb dL_law_112 (by decide) (fun c10 => ?_) (fun c10 => ?_)
      · have h := (if_pos c10).symm.trans h
        refine lv_iload hx hb dL_law_215 (lv_at hl 6 rfl) ?_
        have e9 : x6 = (1 : Int32) := Option.some.inj h
        rw [e9]
        refine va_forget (fun q hq => hS.2.2 q hq) ?_
        refine W.widen (k := 600000) (n := 7302250) (by omega) (by omega) ?_
        exact lw_ret hx hb hr hlocks dL_law_217
      · have h := (if_neg c10).symm.trans h
        refine lv_iload hx hb dL_law_115 (lv_at hl 6 rfl) ?_
        refine lv_if_eq (tgt := 215) hx hb dL_law_117 (by decide) (fun c11 => ?_) (fun c11 => ?_)
        · have h := (if_pos c11).symm.trans h
          refine lv_iload hx hb dL_law_215 (lv_at hl 6 rfl) ?_
          have e9 : x6 = (1 : Int32) := Option.some.inj h
          rw [e9]
          refine va_forget (fun q hq => hS.2.2 q hq) ?_
          refine W.widen (k := 600000) (n := 7302250) (by omega) (by omega) ?_
          exact lw_ret hx hb hr hlocks dL_law_217
        · have h := (if_neg c11).symm.trans h
          refine lv_aload_n hx hb dL_law_120 rfl (lv_at hl 0 rfl) ?_
          refine lv_iload hx hb dL_law_121 (lv_at hl 7 rfl) ?_
          obtain ⟨u12, eu12, h⟩ := bd_in h
          refine kI (va_runS (As := [.ref b, .int x7]) (rest := []) ⟨hx, hb, hml, hown, hts⟩ (c_L_cell l D cA cQ b n0 xs x7 u12 eu12 _) (va_cwS 2 hts gL_law_L_cell rfl rfl rfl (by decide +kernel) ⟨Nat.le_of_ble_eq_true rfl, Nat.le_of_ble_eq_true rfl⟩) (pX hX hbl hbA hS hK hN) rfl rfl hl.1 rfl (lv_room (Nat.le_of_ble_eq_true rfl)) dL_law_123 ⟨(by show _ + _ ≤ 600000; omega), (by show _ + _ ≤ 7302250; omega)⟩) hP hD hS hA [] rfl rfl (ws' := (wF cA cQ adF adB adT adH kH adR adO vB vT vH bH vR vO ++ [aI cA zl 41 fl, aI cA zp 48 fp, aI cA zt 16 ft, aI cA zr 9 fr])) rfl (fun H locs hP hD hS => ?_)
          refine lv_ldc (v := (2147483647 : Int32)) hx hb hown (hts (.constant RL 8 (2147483647)) (List.mem_of_getElem? (i := 4) rfl)) dL_law_126 ?_
          refine lv_iand hx hb dL_law_128 ?_
          refine lv_istore (lv' := [(8, .int (u12 &&& (2147483647 : Int32))), (0, .ref b), (1, .ref adF), (2, .ref zl), (3, .ref zp), (4, .ref zt), (5, .ref zr), (6, .int x6), (7, .int x7)]) hx hb dL_law_129 hl (by decide) rfl (fun ls hl => ?_)
          refine lv_aload_n hx hb dL_law_131 rfl (lv_at hl 2 rfl) ?_
          refine lv_aload_n hx hb dL_law_132 rfl (lv_at hl 3 rfl) ?_
          refine lv_aload_n hx hb dL_law_133 rfl (lv_at hl 4 rfl) ?_
          refine lv_aload hx hb dL_law_134 (lv_at hl 5 rfl) ?_
          refine lv_aload hx hb dL_law_136 (lv_at hl 6 rfl) ?_
          refine lv_iload hx hb dL_law_138 (lv_at hl 8 rfl) ?_
          refine lv_bipush (v := (7 : Int32)) hx hb dL_law_140 (by decide) ?_
          refine lv_icmp_ge (tgt := 153) hx hb dL_law_142 (by decide) (fun c13 => ?_) (fun c13 => ?_)
          · have h := (if_pos c13).symm.trans h
            refine lv_iload hx hb dL_law_153 (lv_at hl 0 rfl) ?_
            refine lv_bipush (v := (20 : Int32)) hx hb dL_law_155 (by decide) ?_
            obtain ⟨r14, er14, h⟩ := bd_in h
            refine rmR hx hb er14 dL_law_157 ?_
            exact B158 _ _ vB vT vH bH vR fl fp ft fr x7 (u12 &&& (2147483647 : Int32)) r14 _ _ _ (by first | omega | (unfold FU; omega)) (by first | omega | (unfold FU; omega)) h hP hD hS (lv_sub hl [1, 2, 3, 4, 5, 6, 8, 0] rfl)
          · have h := (if_neg c13).symm.trans h
            refine lv_iload hx hb dL_law_145 (lv_at hl 0 rfl) ?_
            refine lv_bipush (v := (10 : Int32)) hx hb dL_law_147 (by decide) ?_
            obtain ⟨r15, er15, h⟩ := bd_in h
            refine rmR hx hb er15 dL_law_149 ?_
            refine lv_goto (tgt := 158) hx hb dL_law_150 (by decide) ?_
            exact B158 _ _ vB vT vH bH vR fl fp ft fr x7 (u12 &&& (2147483647 : Int32)) r15 _ _ _ (by first | omega | (unfold FU; omega)) (by first | omega | (unfold FU; omega)) h hP hD hS (lv_sub hl [1, 2, 3, 4, 5, 6, 8, 0] rfl)
  have B58 : ∀ (N S : Nat) (vB : St) (vT : St) (vH : St) (bH : Nat → St) (vR : St) (fl : Nat → Int32) (fp : Nat → Int32) (ft : Nat → Int32) (fr : Nat → Int32) (t0 : Int32) (H : Heap) (locs : List Loc) (ls : Array Slot), N + (2006 * 65) ≤ 600000 → S + 8 * (2006 * 65) ≤ 7302250 → L_law_b58 vO xs n0 vB vT vH bH vR fl fp ft fr t0 = some 1 → va_P D vwCl (wF cA cQ adF adB adT adH kH adR adO vB vT vH bH vR vO ++ [aI cA zl 41 fl, aI cA zp 48 fp, aI cA zt 16 ft, aI cA zr 9 fr]) H → va_D (fun q : Nat => s.heap.size ≤ q) (wF cA cQ adF adB adT adH kH adR adO vB vT vH bH vR vO ++ [aI cA zl 41 fl, aI cA zp 48 fp, aI cA zt 16 ft, aI cA zr 9 fr]) → va_S (fun q : Nat => s.heap.size ≤ q) s.heap H locs → lv_has ls 9 [(0, .ref b), (1, .ref adF), (2, .ref zl), (3, .ref zp), (4, .ref zt), (5, .ref zr)] → W p l e room_1 s m #[Value.ref b] below meth c H locs N S (lw_Z below #[Value.ref b] s) (F0 m 58 ls [.int t0]) := by
    intro N S vB vT vH bH vR fl fp ft fr t0 H locs ls hn1 hn2 h hP hD hS hl
    unfold L_law_b58 at h
    refine lv_istore (lv' := [(6, .int t0), (0, .ref b), (1, .ref adF), (2, .ref zl), (3, .ref zp), (4, .ref zt), (5, .ref zr)]) hx hb dL_law_58 hl (by decide) rfl (fun ls hl => ?_)
    refine lv_aload hx hb dL_law_60 (lv_at hl 5 rfl) ?_
    refine lv_iconst (v := (1 : Int32)) hx hb dL_law_62 (by decide) ?_
    refine lv_iconst (v := (3 : Int32)) hx hb dL_law_63 (by decide) ?_
    obtain ⟨g16, eg16, h⟩ := bd_in h
    refine stR hx hb hK hP hD hS 97 0 rfl rfl eg16 (ws' := (wF cA cQ adF adB adT adH kH adR adO vB vT vH bH vR vO ++ [aI cA zl 41 fl, aI cA zp 48 fp, aI cA zt 16 g16, aI cA zr 9 fr])) rfl dL_law_64 (fun H locs hP hD hS => ?_)
    refine lv_aload hx hb dL_law_65 (lv_at hl 5 rfl) ?_
    refine lv_bipush (v := (10 : Int32)) hx hb dL_law_67 (by decide) ?_
    refine lv_iconst (v := (4 : Int32)) hx hb dL_law_69 (by decide) ?_
    obtain ⟨g17, eg17, h⟩ := bd_in h
    refine stR hx hb hK hP hD hS 97 0 rfl rfl eg17 (ws' := (wF cA cQ adF adB adT adH kH adR adO vB vT vH bH vR vO ++ [aI cA zl 41 fl, aI cA zp 48 fp, aI cA zt 16 g17, aI cA zr 9 fr])) rfl dL_law_70 (fun H locs hP hD hS => ?_)
    refine lv_aload hx hb dL_law_71 (lv_at hl 5 rfl) ?_
    refine lv_bipush (v := (11 : Int32)) hx hb dL_law_73 (by decide) ?_
    refine lv_bipush (v := (6 : Int32)) hx hb dL_law_75 (by decide) ?_
    obtain ⟨g18, eg18, h⟩ := bd_in h
    refine stR hx hb hK hP hD hS 97 0 rfl rfl eg18 (ws' := (wF cA cQ adF adB adT adH kH adR adO vB vT vH bH vR vO ++ [aI cA zl 41 fl, aI cA zp 48 fp, aI cA zt 16 g18, aI cA zr 9 fr])) rfl dL_law_77 (fun H locs hP hD hS => ?_)
    refine lv_aload hx hb dL_law_78 (lv_at hl 5 rfl) ?_
    refine lv_bipush (v := (12 : Int32)) hx hb dL_law_80 (by decide) ?_
    refine lv_bipush (v := (8 : Int32)) hx hb dL_law_82 (by decide) ?_
    obtain ⟨g19, eg19, h⟩ := bd_in h
    refine stR hx hb hK hP hD hS 97 0 rfl rfl eg19 (ws' := (wF cA cQ adF adB adT adH kH adR adO vB vT vH bH vR vO ++ [aI cA zl 41 fl, aI cA zp 48 fp, aI cA zt 16 g19, aI cA zr 9 fr])) rfl dL_law_84 (fun H locs hP hD hS => ?_)
    refine lv_aload hx hb dL_law_85 (lv_at hl 5 rfl) ?_
    refine lv_bipush (v := (13 : Int32)) hx hb dL_law_87 (by decide) ?_
    refine lv_bipush (v := (10 : Int32)) hx hb dL_law_89 (by decide) ?_
    obtain ⟨g20, eg20, h⟩ := bd_in h
    refine stR hx hb hK hP hD hS 97 0 rfl rfl eg20 (ws' := (wF cA cQ adF adB adT adH kH adR adO vB vT vH bH vR vO ++ [aI cA zl 41 fl, aI cA zp 48 fp, aI cA zt 16 g20, aI cA zr 9 fr])) rfl dL_law_91 (fun H locs hP hD hS => ?_)
    refine lv_aload hx hb dL_law_92 (lv_at hl 5 rfl) ?_
    refine lv_bipush (v := (14 : Int32)) hx hb dL_law_94 (by decide) ?_
    refine lv_bipush (v := (20 : Int32)) hx hb dL_law_96 (by decide) ?_
    obtain ⟨g21, eg21, h⟩ := bd_in h
    refine stR hx hb hK hP hD hS 97 0 rfl rfl eg21 (ws' := (wF cA cQ adF adB adT adH kH adR adO vB vT vH bH vR vO ++ [aI cA zl 41 fl, aI cA zp 48 fp, aI cA zt 16 g21, aI cA zr 9 fr])) rfl dL_law_98 (fun H locs hP hD hS => ?_)
    refine lv_aload hx hb dL_law_99 (lv_at hl 5 rfl) ?_
    refine lv_bipush (v := (15 : Int32)) hx hb dL_law_101 (by decide) ?_
    refine lv_iconst (v := (3 : Int32)) hx hb dL_law_103 (by decide) ?_
    obtain ⟨g22, eg22, h⟩ := bd_in h
    refine stR hx hb hK hP hD hS 97 0 rfl rfl eg22 (ws' := (wF cA cQ adF adB adT adH kH adR adO vB vT vH bH vR vO ++ [aI cA zl 41 fl, aI cA zp 48 fp, aI cA zt 16 g22, aI cA zr 9 fr])) rfl dL_law_104 (fun H locs hP hD hS => ?_)
    refine lv_iconst (v := (0 : Int32)) hx hb dL_law_105 (by decide) ?_
    refine lv_istore (lv' := [(7, .int (0 : Int32)), (6, .int t0), (0, .ref b), (1, .ref adF), (2, .ref zl), (3, .ref zp), (4, .ref zt), (5, .ref zr)]) hx hb dL_law_106 hl (by decide) rfl (fun ls hl => ?_)
    exact B108 65 _ _ vB vT vH bH vR fl fp g22 fr t0 (0 : Int32) _ _ _ (by first | omega | (unfold FU; omega)) (by first | omega | (unfold FU; omega)) h hP hD hS (lv_sub hl [2, 3, 4, 5, 6, 7, 1, 0] rfl)
  have B57 : ∀ (N S : Nat) (vB : St) (vT : St) (vH : St) (bH : Nat → St) (vR : St) (fl : Nat → Int32) (fp : Nat → Int32) (ft : Nat → Int32) (fr : Nat → Int32) (H : Heap) (locs : List Loc) (ls : Array Slot), N + (2006 * 65) ≤ 600000 → S + 8 * (2006 * 65) ≤ 7302250 → L_law_b57 vO xs n0 vB vT vH bH vR fl fp ft fr = some 1 → va_P D vwCl (wF cA cQ adF adB adT adH kH adR adO vB vT vH bH vR vO ++ [aI cA zl 41 fl, aI cA zp 48 fp, aI cA zt 16 ft, aI cA zr 9 fr]) H → va_D (fun q : Nat => s.heap.size ≤ q) (wF cA cQ adF adB adT adH kH adR adO vB vT vH bH vR vO ++ [aI cA zl 41 fl, aI cA zp 48 fp, aI cA zt 16 ft, aI cA zr 9 fr]) → va_S (fun q : Nat => s.heap.size ≤ q) s.heap H locs → lv_has ls 9 [(0, .ref b), (1, .ref adF), (2, .ref zl), (3, .ref zp), (4, .ref zt), (5, .ref zr)] → W p l e room_1 s m #[Value.ref b] below meth c H locs N S (lw_Z below #[Value.ref b] s) (F0 m 57 ls []) := by
    intro N S vB vT vH bH vR fl fp ft fr H locs ls hn1 hn2 h hP hD hS hl
    unfold L_law_b57 at h
    refine lv_iconst (v := (0 : Int32)) hx hb dL_law_57 (by decide) ?_
    exact B58 _ _ vB vT vH bH vR fl fp ft fr (0 : Int32) _ _ _ (by first | omega | (unfold FU; omega)) (by first | omega | (unfold FU; omega)) h hP hD hS (lv_sub hl [0, 1, 2, 3, 4, 5] rfl)
  have h := hf
  unfold L_law at h
  refine lv_aload_n hx hb dL_law_30 rfl (lv_at hl 4 rfl) ?_
  obtain ⟨u23, eu23, h⟩ := bd_in h
  refine kI (va_runV (As := []) (rest := []) ⟨hx, hb, hml, hown, hts⟩ (c_X4_pupil l D cA cQ adF adB adT adH kH adR adO vB vT vH bH vR vO u23 eu23 _) (cwV 0 hts gL_law_X4_pupil rfl rfl rfl (by decide +kernel) ⟨Nat.le_of_ble_eq_true rfl, Nat.le_of_ble_eq_true rfl⟩) (pV (ci := 4) (q := (RX4, TX4, 5)) hK hN hP hD [0, 1, 2, 3, 4, 5, 6, 7, 8, 9, 10, 11, 12, 13, 14, 15, 16, 17, 18, 19, 20, 21, 22, 23, 24, 25, 26, 27, 28, 29, 30, 31, 32, 33, 34, 35, 36, 37, 38, 39, 40, 41, 42, 43, 44, 45, 46, 47, 48, 49, 50, 51, 52, 53, 54, 55, 56, 57, 58, 59, 60, 61, 62, 63, 64, 65, 66, 67, 68, 69, 70, 71, 72, 73, 74, 75, 76, 77, 78, 79, 80, 81, 82, 83, 84, 85, 86, 87, 88, 89, 90, 91, 92, 93, 94] rfl rfl rfl rfl) rfl rfl hl.1 rfl (lv_room (Nat.le_of_ble_eq_true rfl)) dL_law_31 ⟨(by show _ + _ ≤ 600000; omega), (by show _ + _ ≤ 7302250; omega)⟩) hP hD hS hA [0, 1, 2, 3, 4, 5, 6, 7, 8, 9, 10, 11, 12, 13, 14, 15, 16, 17, 18, 19, 20, 21, 22, 23, 24, 25, 26, 27, 28, 29, 30, 31, 32, 33, 34, 35, 36, 37, 38, 39, 40, 41, 42, 43, 44, 45, 46, 47, 48, 49, 50, 51, 52, 53, 54, 55, 56, 57, 58, 59, 60, 61, 62, 63, 64, 65, 66, 67, 68, 69, 70, 71, 72, 73, 74, 75, 76, 77, 78, 79, 80, 81, 82, 83, 84, 85, 86, 87, 88, 89, 90, 91, 92, 93, 94] rfl rfl (ws' := (wF cA cQ adF adB adT adH kH adR adO u23.2.1 u23.2.2.1 u23.2.2.2.1 u23.2.2.2.2 vR vO ++ [aI cA zl 41 fl, aI cA zp 48 fp, aI cA zt 16 ft, aI cA zr 9 fr])) rfl (fun H locs hP hD hS => ?_)
  refine lv_if_ne (tgt := 57) hx hb dL_law_34 (by decide) (fun c24 => ?_) (fun c24 => ?_)
  · have h := (if_neg c24).symm.trans h
    exact B57 _ _ u23.2.1 u23.2.2.1 u23.2.2.2.1 u23.2.2.2.2 vR fl fp ft fr _ _ _ (by first | omega | (unfold FU; omega)) (by first | omega | (unfold FU; omega)) h hP hD hS (lv_sub hl [5, 4, 3, 2, 1, 0] rfl)
  · have h := (if_pos c24).symm.trans h
    refine lv_aload_n hx hb dL_law_37 rfl (lv_at hl 4 rfl) ?_
    obtain ⟨u25, eu25, h⟩ := bd_in h
    refine kI (va_runV (As := []) (rest := []) ⟨hx, hb, hml, hown, hts⟩ (c_X4_pupil l D cA cQ adF adB adT adH kH adR adO u23.2.1 u23.2.2.1 u23.2.2.2.1 u23.2.2.2.2 vR vO u25 eu25 _) (cwV 0 hts gL_law_X4_pupil rfl rfl rfl (by decide +kernel) ⟨Nat.le_of_ble_eq_true rfl, Nat.le_of_ble_eq_true rfl⟩) (pV (ci := 4) (q := (RX4, TX4, 5)) hK hN hP hD [0, 1, 2, 3, 4, 5, 6, 7, 8, 9, 10, 11, 12, 13, 14, 15, 16, 17, 18, 19, 20, 21, 22, 23, 24, 25, 26, 27, 28, 29, 30, 31, 32, 33, 34, 35, 36, 37, 38, 39, 40, 41, 42, 43, 44, 45, 46, 47, 48, 49, 50, 51, 52, 53, 54, 55, 56, 57, 58, 59, 60, 61, 62, 63, 64, 65, 66, 67, 68, 69, 70, 71, 72, 73, 74, 75, 76, 77, 78, 79, 80, 81, 82, 83, 84, 85, 86, 87, 88, 89, 90, 91, 92, 93, 94] rfl rfl rfl rfl) rfl rfl hl.1 rfl (lv_room (Nat.le_of_ble_eq_true rfl)) dL_law_38 ⟨(by show _ + _ ≤ 600000; omega), (by show _ + _ ≤ 7302250; omega)⟩) hP hD hS hA [0, 1, 2, 3, 4, 5, 6, 7, 8, 9, 10, 11, 12, 13, 14, 15, 16, 17, 18, 19, 20, 21, 22, 23, 24, 25, 26, 27, 28, 29, 30, 31, 32, 33, 34, 35, 36, 37, 38, 39, 40, 41, 42, 43, 44, 45, 46, 47, 48, 49, 50, 51, 52, 53, 54, 55, 56, 57, 58, 59, 60, 61, 62, 63, 64, 65, 66, 67, 68, 69, 70, 71, 72, 73, 74, 75, 76, 77, 78, 79, 80, 81, 82, 83, 84, 85, 86, 87, 88, 89, 90, 91, 92, 93, 94] rfl rfl (ws' := (wF cA cQ adF adB adT adH kH adR adO u25.2.1 u25.2.2.1 u25.2.2.2.1 u25.2.2.2.2 vR vO ++ [aI cA zl 41 fl, aI cA zp 48 fp, aI cA zt 16 ft, aI cA zr 9 fr])) rfl (fun H locs hP hD hS => ?_)
    refine lv_iconst (v := (1 : Int32)) hx hb dL_law_41 (by decide) ?_
    refine lv_icmp_ne (tgt := 57) hx hb dL_law_42 (by decide) (fun c26 => ?_) (fun c26 => ?_)
    · have h := (if_neg c26).symm.trans h
      exact B57 _ _ u25.2.1 u25.2.2.1 u25.2.2.2.1 u25.2.2.2.2 vR fl fp ft fr _ _ _ (by first | omega | (unfold FU; omega)) (by first | omega | (unfold FU; omega)) h hP hD hS (lv_sub hl [5, 4, 3, 2, 1, 0] rfl)
    · have h := (if_pos c26).symm.trans h
      refine lv_aload_n hx hb dL_law_45 rfl (lv_at hl 4 rfl) ?_
      obtain ⟨u27, eu27, h⟩ := bd_in h
      refine kI (va_runV (As := []) (rest := []) ⟨hx, hb, hml, hown, hts⟩ (c_X4_pupil l D cA cQ adF adB adT adH kH adR adO u25.2.1 u25.2.2.1 u25.2.2.2.1 u25.2.2.2.2 vR vO u27 eu27 _) (cwV 0 hts gL_law_X4_pupil rfl rfl rfl (by decide +kernel) ⟨Nat.le_of_ble_eq_true rfl, Nat.le_of_ble_eq_true rfl⟩) (pV (ci := 4) (q := (RX4, TX4, 5)) hK hN hP hD [0, 1, 2, 3, 4, 5, 6, 7, 8, 9, 10, 11, 12, 13, 14, 15, 16, 17, 18, 19, 20, 21, 22, 23, 24, 25, 26, 27, 28, 29, 30, 31, 32, 33, 34, 35, 36, 37, 38, 39, 40, 41, 42, 43, 44, 45, 46, 47, 48, 49, 50, 51, 52, 53, 54, 55, 56, 57, 58, 59, 60, 61, 62, 63, 64, 65, 66, 67, 68, 69, 70, 71, 72, 73, 74, 75, 76, 77, 78, 79, 80, 81, 82, 83, 84, 85, 86, 87, 88, 89, 90, 91, 92, 93, 94] rfl rfl rfl rfl) rfl rfl hl.1 rfl (lv_room (Nat.le_of_ble_eq_true rfl)) dL_law_46 ⟨(by show _ + _ ≤ 600000; omega), (by show _ + _ ≤ 7302250; omega)⟩) hP hD hS hA [0, 1, 2, 3, 4, 5, 6, 7, 8, 9, 10, 11, 12, 13, 14, 15, 16, 17, 18, 19, 20, 21, 22, 23, 24, 25, 26, 27, 28, 29, 30, 31, 32, 33, 34, 35, 36, 37, 38, 39, 40, 41, 42, 43, 44, 45, 46, 47, 48, 49, 50, 51, 52, 53, 54, 55, 56, 57, 58, 59, 60, 61, 62, 63, 64, 65, 66, 67, 68, 69, 70, 71, 72, 73, 74, 75, 76, 77, 78, 79, 80, 81, 82, 83, 84, 85, 86, 87, 88, 89, 90, 91, 92, 93, 94] rfl rfl (ws' := (wF cA cQ adF adB adT adH kH adR adO u27.2.1 u27.2.2.1 u27.2.2.2.1 u27.2.2.2.2 vR vO ++ [aI cA zl 41 fl, aI cA zp 48 fp, aI cA zt 16 ft, aI cA zr 9 fr])) rfl (fun H locs hP hD hS => ?_)
      refine lv_iconst (v := (2 : Int32)) hx hb dL_law_49 (by decide) ?_
      refine lv_icmp_ne (tgt := 57) hx hb dL_law_50 (by decide) (fun c28 => ?_) (fun c28 => ?_)
      · have h := (if_neg c28).symm.trans h
        exact B57 _ _ u27.2.1 u27.2.2.1 u27.2.2.2.1 u27.2.2.2.2 vR fl fp ft fr _ _ _ (by first | omega | (unfold FU; omega)) (by first | omega | (unfold FU; omega)) h hP hD hS (lv_sub hl [5, 4, 3, 2, 1, 0] rfl)
      · have h := (if_pos c28).symm.trans h
        refine lv_iconst (v := (1 : Int32)) hx hb dL_law_53 (by decide) ?_
        refine lv_goto (tgt := 58) hx hb dL_law_54 (by decide) ?_
        exact B58 _ _ u27.2.1 u27.2.2.1 u27.2.2.2.1 u27.2.2.2.2 vR fl fp ft fr (1 : Int32) _ _ _ (by first | omega | (unfold FU; omega)) (by first | omega | (unfold FU; omega)) h hP hD hS (lv_sub hl [5, 4, 3, 2, 1, 0] rfl)

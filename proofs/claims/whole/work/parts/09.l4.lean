set_option maxHeartbeats 8000000 in
set_option maxRecDepth 100000 in
theorem law_b152 {p : Program} {l : Launch} {e : Env} {s : State} {m : MethodId} {below : List Frame} {meth : Method} {c : Code} {D : va_G} {cA cQ : ClassId} {b n0 : Nat} {xs : Nat → Int32} (C0 : lw_At p s m meth c b n0 xs) (hK : va_K D vwCl (TY cA cQ) s) (adF : Nat) (adB adT adH : Nat → Nat) (kH : Nat → Nat → Nat) (adR adO adM : Nat → Nat) (k18 : St → St → St → (Nat → St) → St → St → St → Int32 → Option Int32) (ih18 : ∀ (vB : St) (vT : St) (vH : St) (bH : Nat → St) (vR : St) (vO : St) (vM : St) (x3 : Int32) (H : Heap) (locs : List Loc) (ls : Array Slot), k18 vB vT vH bH vR vO vM x3 = some 1 → va_P D vwCl (wF cA cQ adF adB adT adH kH adR adO vB vT vH bH vR vO ++ wM cA adM vM) H → va_D (fun q : Nat => s.heap.size ≤ q) (wF cA cQ adF adB adT adH kH adR adO vB vT vH bH vR vO ++ wM cA adM vM) → va_S (fun q : Nat => s.heap.size ≤ q) s.heap H locs → lv_has ls 4 [(0, .ref b), (1, .ref adF), (2, .ref (adM 0)), (3, .int x3)] → W p l e room_1 s m #[Value.ref b] below meth c H locs 600000 7302250 (lw_Z below #[Value.ref b] s) (F0 m 18 ls [])) : ∀ (vB : St) (vT : St) (vH : St) (bH : Nat → St) (vR : St) (vO : St) (vM : St) (x3 : Int32) (H : Heap) (locs : List Loc) (ls : Array Slot), L_law_b152 xs n0 k18 vB vT vH bH vR vO vM x3 = some 1 → va_P D vwCl (wF cA cQ adF adB adT adH kH adR adO vB vT vH bH vR vO ++ wM cA adM vM) H → va_D (fun q : Nat => s.heap.size ≤ q) (wF cA cQ adF adB adT adH kH adR adO vB vT vH bH vR vO ++ wM cA adM vM) → va_S (fun q : Nat => s.heap.size ≤ q) s.heap H locs → lv_has ls 4 [(0, .ref b), (1, .ref adF), (2, .ref (adM 0)), (3, .int x3)] → W p l e room_1 s m #[Value.ref b] below meth c H locs 600000 7302250 (lw_Z below #[Value.ref b] s) (F0 m 152 ls []) := by
  have C1 := C0
  obtain ⟨hx, hb, hr, hml, hown, hts, hX, hbl, hlocks, hgv⟩ := C0
  have hts0 := hts
  have hN : NW s := lw_nw hts0
  have hts : ∀ w ∈ wsL_law, w.before #[Value.ref b] s = true := fun w h => hts0 w (wsL_law_in w h)
  have hown : s.vm.findClass RL = some m.cls := hown
  have hA : ∀ q : Nat, s.heap.size ≤ q → (fun q : Nat => s.heap.size ≤ q) q := fun _ h => h
  have hbA : ¬ (fun q : Nat => s.heap.size ≤ q) b := Nat.not_le.mpr hbl
  intro vB vT vH bH vR vO vM x3 H locs ls h hP hD hS hl
  unfold L_law_b152 at h
  refine lv_aload_n hx hb dL_law_152 rfl (lv_at hl 1 rfl) ?_
  obtain ⟨u182, eu182, h⟩ := bd_in h
  refine kI (va_runV (As := []) (rest := []) ⟨hx, hb, hml, hown, hts⟩ (c_X4_pupil l D cA cQ adF adB adT adH kH adR adO vB vT vH bH vR vO u182 eu182 _) (cwV 0 hts gL_law_X4_pupil rfl rfl rfl (by decide +kernel) ⟨Nat.le_of_ble_eq_true rfl, Nat.le_of_ble_eq_true rfl⟩) (pV (ci := 4) (q := (RX4, TX4, 5)) hK hN hP hD [0, 1, 2, 3, 4, 5, 6, 7, 8, 9, 10, 11, 12, 13, 14, 15, 16, 17, 18, 19, 20, 21, 22, 23, 24, 25, 26, 27, 28, 29, 30, 31, 32, 33, 34, 35, 36, 37, 38, 39, 40, 41, 42, 43, 44, 45, 46, 47, 48, 49, 50, 51, 52, 53, 54, 55, 56, 57, 58, 59, 60, 61, 62, 63, 64, 65, 66, 67, 68, 69, 70, 71, 72, 73, 74, 75, 76, 77, 78, 79, 80, 81, 82, 83, 84, 85, 86, 87, 88, 89, 90, 91, 92, 93, 94] rfl rfl rfl rfl) rfl rfl hl.1 rfl (lv_room (Nat.le_of_ble_eq_true rfl)) dL_law_153 ⟨Nat.le_of_ble_eq_true rfl, Nat.le_of_ble_eq_true rfl⟩) hP hD hS hA [0, 1, 2, 3, 4, 5, 6, 7, 8, 9, 10, 11, 12, 13, 14, 15, 16, 17, 18, 19, 20, 21, 22, 23, 24, 25, 26, 27, 28, 29, 30, 31, 32, 33, 34, 35, 36, 37, 38, 39, 40, 41, 42, 43, 44, 45, 46, 47, 48, 49, 50, 51, 52, 53, 54, 55, 56, 57, 58, 59, 60, 61, 62, 63, 64, 65, 66, 67, 68, 69, 70, 71, 72, 73, 74, 75, 76, 77, 78, 79, 80, 81, 82, 83, 84, 85, 86, 87, 88, 89, 90, 91, 92, 93, 94] rfl rfl (ws' := (wF cA cQ adF adB adT adH kH adR adO u182.2.1 u182.2.2.1 u182.2.2.2.1 u182.2.2.2.2 vR vO ++ wM cA adM vM)) rfl (fun H locs hP hD hS => ?_)
  refine lv_aload_n hx hb dL_law_156 rfl (lv_at hl 2 rfl) ?_
  obtain ⟨u183, eu183, h⟩ := bd_in h
  refine kI (va_runV (As := []) (rest := [.int u182.1]) ⟨hx, hb, hml, hown, hts⟩ (c_X5_pupil l D cA cQ adM vM u183 eu183 _) (cwV 0 hts gL_law_X5_pupil rfl rfl rfl (by decide +kernel) ⟨Nat.le_of_ble_eq_true rfl, Nat.le_of_ble_eq_true rfl⟩) (pV (ci := 5) (q := (RX5, TX5, 18)) hK hN hP hD [95, 96, 97, 98, 99, 100, 101, 102, 103, 104] rfl rfl rfl rfl) rfl rfl hl.1 rfl (lv_room (Nat.le_of_ble_eq_true rfl)) dL_law_157 ⟨Nat.le_of_ble_eq_true rfl, Nat.le_of_ble_eq_true rfl⟩) hP hD hS hA [95, 96, 97, 98, 99, 100, 101, 102, 103, 104] rfl rfl (ws' := (wF cA cQ adF adB adT adH kH adR adO u182.2.1 u182.2.2.1 u182.2.2.2.1 u182.2.2.2.2 vR vO ++ wM cA adM u183.2)) rfl (fun H locs hP hD hS => ?_)
  refine lv_icmp_eq (tgt := 886) hx hb dL_law_160 (by decide) (fun c184 => ?_) (fun c184 => ?_)
  · have h := (if_pos c184).symm.trans h
    refine lv_iinc (v := (x3 + (5 : Int32))) (lv' := [(3, .int (x3 + (5 : Int32))), (0, .ref b), (1, .ref adF), (2, .ref (adM 0))]) hx hb dL_law_886 hl (k := 3) rfl rfl (by decide) rfl (fun ls hl => ?_)
    refine lv_goto (tgt := 18) hx hb dL_law_889 (by decide) ?_
    exact ih18 u182.2.1 u182.2.2.1 u182.2.2.2.1 u182.2.2.2.2 vR vO u183.2 (x3 + (5 : Int32)) _ _ _ h hP hD hS (lv_sub hl [1, 2, 3, 0] rfl)
  · have h := (if_neg c184).symm.trans h
    refine lv_iconst (v := (0 : Int32)) hx hb dL_law_163 (by decide) ?_
    exact absurd h (by decide)
set_option maxHeartbeats 8000000 in
set_option maxRecDepth 100000 in
theorem law_l18 {p : Program} {l : Launch} {e : Env} {s : State} {m : MethodId} {below : List Frame} {meth : Method} {c : Code} {D : va_G} {cA cQ : ClassId} {b n0 : Nat} {xs : Nat → Int32} (C0 : lw_At p s m meth c b n0 xs) (hK : va_K D vwCl (TY cA cQ) s) (adF : Nat) (adB adT adH : Nat → Nat) (kH : Nat → Nat → Nat) (adR adO adM : Nat → Nat) : ∀ (fu18 : Nat), ∀ (vB : St) (vT : St) (vH : St) (bH : Nat → St) (vR : St) (vO : St) (vM : St) (x3 : Int32) (H : Heap) (locs : List Loc) (ls : Array Slot), L_law_l18 xs n0 fu18 vB vT vH bH vR vO vM x3 = some 1 → va_P D vwCl (wF cA cQ adF adB adT adH kH adR adO vB vT vH bH vR vO ++ wM cA adM vM) H → va_D (fun q : Nat => s.heap.size ≤ q) (wF cA cQ adF adB adT adH kH adR adO vB vT vH bH vR vO ++ wM cA adM vM) → va_S (fun q : Nat => s.heap.size ≤ q) s.heap H locs → lv_has ls 4 [(0, .ref b), (1, .ref adF), (2, .ref (adM 0)), (3, .int x3)] → W p l e room_1 s m #[Value.ref b] below meth c H locs 600000 7302250 (lw_Z below #[Value.ref b] s) (F0 m 18 ls []) := by
  have C1 := C0
  obtain ⟨hx, hb, hr, hml, hown, hts, hX, hbl, hlocks, hgv⟩ := C0
  have hts0 := hts
  have hN : NW s := lw_nw hts0
  have hts : ∀ w ∈ wsL_law, w.before #[Value.ref b] s = true := fun w h => hts0 w (wsL_law_in w h)
  have hown : s.vm.findClass RL = some m.cls := hown
  have hA : ∀ q : Nat, s.heap.size ≤ q → (fun q : Nat => s.heap.size ≤ q) q := fun _ h => h
  have hbA : ¬ (fun q : Nat => s.heap.size ≤ q) b := Nat.not_le.mpr hbl
  intro fu18
  induction fu18 with
  | zero =>
    intro vB vT vH bH vR vO vM x3 H locs ls h hP hD hS hl
    cases h
  | succ fu18 ih18 =>
    intro vB vT vH bH vR vO vM x3 H locs ls h hP hD hS hl
    rw [L_law_l18] at h
    refine lv_iload_n hx hb dL_law_18 rfl (lv_at hl 3 rfl) ?_
    refine lv_aload_n hx hb dL_law_19 rfl (lv_at hl 0 rfl) ?_
    refine va_slen hx hb hX hbl hbA hS dL_law_20 ?_
    refine lv_iconst (v := (5 : Int32)) hx hb dL_law_21 (by decide) ?_
    refine lv_isub hx hb dL_law_22 ?_
    refine lv_icmp_gt (tgt := 892) hx hb dL_law_23 (by decide) (fun c1 => ?_) (fun c1 => ?_)
    · have h := (if_pos c1).symm.trans h
      refine lv_iconst (v := (1 : Int32)) hx hb dL_law_892 (by decide) ?_
      refine va_forget (fun q hq => hS.2.2 q hq) ?_
      exact W.base (lw_ret (d0 := s.drawn) (Drawn.sameBut.refl s.drawn lw_cs) hx hb hr hlocks dL_law_893)
    · have h := (if_neg c1).symm.trans h
      refine lv_aload_n hx hb dL_law_26 rfl (lv_at hl 0 rfl) ?_
      refine lv_iload_n hx hb dL_law_27 rfl (lv_at hl 3 rfl) ?_
      obtain ⟨y2, ey2, h⟩ := bd_in h
      refine slR hx hb hX hbl hbA hS ey2 dL_law_28 ?_
      refine lv_bipush (v := (31 : Int32)) hx hb dL_law_29 (by decide) ?_
      refine lv_iand hx hb dL_law_31 ?_
      by_cases c3 : (y2 &&& (31 : Int32)) = (0 : Int32)
      · have h := (if_pos c3).symm.trans h
        refine lv_tableIn (off := 120) (tgt := 152) hx hb dL_law_32 (by rw [c3]; decide +kernel) (by rw [c3]; decide +kernel) (by rw [c3]; decide +kernel) (by decide) ?_
        exact law_b152 C1 hK adF adB adT adH kH adR adO adM (L_law_l18 xs n0 fu18) ih18 vB vT vH bH vR vO vM x3 _ _ _ h hP hD hS (lv_sub hl [0, 1, 2, 3] rfl)
      have h := (if_neg c3).symm.trans h
      by_cases c4 : (y2 &&& (31 : Int32)) = (1 : Int32)
      · have h := (if_pos c4).symm.trans h
        refine lv_tableIn (off := 133) (tgt := 165) hx hb dL_law_32 (by rw [c4]; decide +kernel) (by rw [c4]; decide +kernel) (by rw [c4]; decide +kernel) (by decide) ?_
        exact law_b165 C1 hK adF adB adT adH kH adR adO adM (L_law_l18 xs n0 fu18) ih18 vB vT vH bH vR vO vM x3 _ _ _ h hP hD hS (lv_sub hl [0, 1, 2, 3] rfl)
      have h := (if_neg c4).symm.trans h
      by_cases c5 : (y2 &&& (31 : Int32)) = (2 : Int32)
      · have h := (if_pos c5).symm.trans h
        refine lv_tableIn (off := 186) (tgt := 218) hx hb dL_law_32 (by rw [c5]; decide +kernel) (by rw [c5]; decide +kernel) (by rw [c5]; decide +kernel) (by decide) ?_
        exact law_b218 C1 hK adF adB adT adH kH adR adO adM (L_law_l18 xs n0 fu18) ih18 vB vT vH bH vR vO vM x3 _ _ _ h hP hD hS (lv_sub hl [0, 1, 2, 3] rfl)
      have h := (if_neg c5).symm.trans h
      by_cases c6 : (y2 &&& (31 : Int32)) = (3 : Int32)
      · have h := (if_pos c6).symm.trans h
        refine lv_tableIn (off := 239) (tgt := 271) hx hb dL_law_32 (by rw [c6]; decide +kernel) (by rw [c6]; decide +kernel) (by rw [c6]; decide +kernel) (by decide) ?_
        exact law_b271 C1 hK adF adB adT adH kH adR adO adM (L_law_l18 xs n0 fu18) ih18 vB vT vH bH vR vO vM x3 _ _ _ h hP hD hS (lv_sub hl [0, 1, 2, 3] rfl)
      have h := (if_neg c6).symm.trans h
      by_cases c7 : (y2 &&& (31 : Int32)) = (4 : Int32)
      · have h := (if_pos c7).symm.trans h
        refine lv_tableIn (off := 272) (tgt := 304) hx hb dL_law_32 (by rw [c7]; decide +kernel) (by rw [c7]; decide +kernel) (by rw [c7]; decide +kernel) (by decide) ?_
        exact law_b304 C1 hK adF adB adT adH kH adR adO adM (L_law_l18 xs n0 fu18) ih18 vB vT vH bH vR vO vM x3 _ _ _ h hP hD hS (lv_sub hl [0, 1, 2, 3] rfl)
      have h := (if_neg c7).symm.trans h
      by_cases c8 : (y2 &&& (31 : Int32)) = (5 : Int32)
      · have h := (if_pos c8).symm.trans h
        refine lv_tableIn (off := 295) (tgt := 327) hx hb dL_law_32 (by rw [c8]; decide +kernel) (by rw [c8]; decide +kernel) (by rw [c8]; decide +kernel) (by decide) ?_
        exact law_b327 C1 hK adF adB adT adH kH adR adO adM (L_law_l18 xs n0 fu18) ih18 vB vT vH bH vR vO vM x3 _ _ _ h hP hD hS (lv_sub hl [0, 1, 2, 3] rfl)
      have h := (if_neg c8).symm.trans h
      by_cases c9 : (y2 &&& (31 : Int32)) = (6 : Int32)
      · have h := (if_pos c9).symm.trans h
        refine lv_tableIn (off := 334) (tgt := 366) hx hb dL_law_32 (by rw [c9]; decide +kernel) (by rw [c9]; decide +kernel) (by rw [c9]; decide +kernel) (by decide) ?_
        exact law_b366 C1 hK adF adB adT adH kH adR adO adM (L_law_l18 xs n0 fu18) ih18 vB vT vH bH vR vO vM x3 _ _ _ h hP hD hS (lv_sub hl [0, 1, 2, 3] rfl)
      have h := (if_neg c9).symm.trans h
      by_cases c10 : (y2 &&& (31 : Int32)) = (7 : Int32)
      · have h := (if_pos c10).symm.trans h
        refine lv_tableIn (off := 357) (tgt := 389) hx hb dL_law_32 (by rw [c10]; decide +kernel) (by rw [c10]; decide +kernel) (by rw [c10]; decide +kernel) (by decide) ?_
        exact law_b389 C1 hK adF adB adT adH kH adR adO adM (L_law_l18 xs n0 fu18) ih18 vB vT vH bH vR vO vM x3 _ _ _ h hP hD hS (lv_sub hl [0, 1, 2, 3] rfl)
      have h := (if_neg c10).symm.trans h
      by_cases c11 : (y2 &&& (31 : Int32)) = (8 : Int32)
      · have h := (if_pos c11).symm.trans h
        refine lv_tableIn (off := 390) (tgt := 422) hx hb dL_law_32 (by rw [c11]; decide +kernel) (by rw [c11]; decide +kernel) (by rw [c11]; decide +kernel) (by decide) ?_
        exact law_b422 C1 hK adF adB adT adH kH adR adO adM (L_law_l18 xs n0 fu18) ih18 vB vT vH bH vR vO vM x3 _ _ _ h hP hD hS (lv_sub hl [0, 1, 2, 3] rfl)
      have h := (if_neg c11).symm.trans h
      by_cases c12 : (y2 &&& (31 : Int32)) = (9 : Int32)
      · have h := (if_pos c12).symm.trans h
        refine lv_tableIn (off := 423) (tgt := 455) hx hb dL_law_32 (by rw [c12]; decide +kernel) (by rw [c12]; decide +kernel) (by rw [c12]; decide +kernel) (by decide) ?_
        exact law_b455 C1 hK adF adB adT adH kH adR adO adM (L_law_l18 xs n0 fu18) ih18 vB vT vH bH vR vO vM x3 _ _ _ h hP hD hS (lv_sub hl [0, 1, 2, 3] rfl)
      have h := (if_neg c12).symm.trans h
      by_cases c13 : (y2 &&& (31 : Int32)) = (10 : Int32)
      · have h := (if_pos c13).symm.trans h
        refine lv_tableIn (off := 466) (tgt := 498) hx hb dL_law_32 (by rw [c13]; decide +kernel) (by rw [c13]; decide +kernel) (by rw [c13]; decide +kernel) (by decide) ?_
        exact law_b498 C1 hK adF adB adT adH kH adR adO adM (L_law_l18 xs n0 fu18) ih18 vB vT vH bH vR vO vM x3 _ _ _ h hP hD hS (lv_sub hl [0, 1, 2, 3] rfl)
      have h := (if_neg c13).symm.trans h
      by_cases c14 : (y2 &&& (31 : Int32)) = (11 : Int32)
      · have h := (if_pos c14).symm.trans h
        refine lv_tableIn (off := 499) (tgt := 531) hx hb dL_law_32 (by rw [c14]; decide +kernel) (by rw [c14]; decide +kernel) (by rw [c14]; decide +kernel) (by decide) ?_
        exact law_b531 C1 hK adF adB adT adH kH adR adO adM (L_law_l18 xs n0 fu18) ih18 vB vT vH bH vR vO vM x3 _ _ _ h hP hD hS (lv_sub hl [0, 1, 2, 3] rfl)
      have h := (if_neg c14).symm.trans h
      by_cases c15 : (y2 &&& (31 : Int32)) = (12 : Int32)
      · have h := (if_pos c15).symm.trans h
        refine lv_tableIn (off := 532) (tgt := 564) hx hb dL_law_32 (by rw [c15]; decide +kernel) (by rw [c15]; decide +kernel) (by rw [c15]; decide +kernel) (by decide) ?_
        exact law_b564 C1 hK adF adB adT adH kH adR adO adM (L_law_l18 xs n0 fu18) ih18 vB vT vH bH vR vO vM x3 _ _ _ h hP hD hS (lv_sub hl [0, 1, 2, 3] rfl)
      have h := (if_neg c15).symm.trans h
      by_cases c16 : (y2 &&& (31 : Int32)) = (13 : Int32)
      · have h := (if_pos c16).symm.trans h
        refine lv_tableIn (off := 565) (tgt := 597) hx hb dL_law_32 (by rw [c16]; decide +kernel) (by rw [c16]; decide +kernel) (by rw [c16]; decide +kernel) (by decide) ?_
        exact law_b597 C1 hK adF adB adT adH kH adR adO adM (L_law_l18 xs n0 fu18) ih18 vB vT vH bH vR vO vM x3 _ _ _ h hP hD hS (lv_sub hl [0, 1, 2, 3] rfl)
      have h := (if_neg c16).symm.trans h
      by_cases c17 : (y2 &&& (31 : Int32)) = (14 : Int32)
      · have h := (if_pos c17).symm.trans h
        refine lv_tableIn (off := 588) (tgt := 620) hx hb dL_law_32 (by rw [c17]; decide +kernel) (by rw [c17]; decide +kernel) (by rw [c17]; decide +kernel) (by decide) ?_
        exact law_b620 C1 hK adF adB adT adH kH adR adO adM (L_law_l18 xs n0 fu18) ih18 vB vT vH bH vR vO vM x3 _ _ _ h hP hD hS (lv_sub hl [0, 1, 2, 3] rfl)
      have h := (if_neg c17).symm.trans h
      by_cases c18 : (y2 &&& (31 : Int32)) = (15 : Int32)
      · have h := (if_pos c18).symm.trans h
        refine lv_tableIn (off := 621) (tgt := 653) hx hb dL_law_32 (by rw [c18]; decide +kernel) (by rw [c18]; decide +kernel) (by rw [c18]; decide +kernel) (by decide) ?_
        exact law_b653 C1 hK adF adB adT adH kH adR adO adM (L_law_l18 xs n0 fu18) ih18 vB vT vH bH vR vO vM x3 _ _ _ h hP hD hS (lv_sub hl [0, 1, 2, 3] rfl)
      have h := (if_neg c18).symm.trans h
      by_cases c19 : (y2 &&& (31 : Int32)) = (16 : Int32)
      · have h := (if_pos c19).symm.trans h
        refine lv_tableIn (off := 664) (tgt := 696) hx hb dL_law_32 (by rw [c19]; decide +kernel) (by rw [c19]; decide +kernel) (by rw [c19]; decide +kernel) (by decide) ?_
        exact law_b696 C1 hK adF adB adT adH kH adR adO adM (L_law_l18 xs n0 fu18) ih18 vB vT vH bH vR vO vM x3 _ _ _ h hP hD hS (lv_sub hl [0, 1, 2, 3] rfl)
      have h := (if_neg c19).symm.trans h
      by_cases c20 : (y2 &&& (31 : Int32)) = (17 : Int32)
      · have h := (if_pos c20).symm.trans h
        refine lv_tableIn (off := 687) (tgt := 719) hx hb dL_law_32 (by rw [c20]; decide +kernel) (by rw [c20]; decide +kernel) (by rw [c20]; decide +kernel) (by decide) ?_
        exact law_b719 C1 hK adF adB adT adH kH adR adO adM (L_law_l18 xs n0 fu18) ih18 vB vT vH bH vR vO vM x3 _ _ _ h hP hD hS (lv_sub hl [0, 1, 2, 3] rfl)
      have h := (if_neg c20).symm.trans h
      by_cases c21 : (y2 &&& (31 : Int32)) = (18 : Int32)
      · have h := (if_pos c21).symm.trans h
        refine lv_tableIn (off := 710) (tgt := 742) hx hb dL_law_32 (by rw [c21]; decide +kernel) (by rw [c21]; decide +kernel) (by rw [c21]; decide +kernel) (by decide) ?_
        exact law_b742 C1 hK adF adB adT adH kH adR adO adM (L_law_l18 xs n0 fu18) ih18 vB vT vH bH vR vO vM x3 _ _ _ h hP hD hS (lv_sub hl [0, 1, 2, 3] rfl)
      have h := (if_neg c21).symm.trans h
      by_cases c22 : (y2 &&& (31 : Int32)) = (19 : Int32)
      · have h := (if_pos c22).symm.trans h
        refine lv_tableIn (off := 733) (tgt := 765) hx hb dL_law_32 (by rw [c22]; decide +kernel) (by rw [c22]; decide +kernel) (by rw [c22]; decide +kernel) (by decide) ?_
        exact law_b765 C1 hK adF adB adT adH kH adR adO adM (L_law_l18 xs n0 fu18) ih18 vB vT vH bH vR vO vM x3 _ _ _ h hP hD hS (lv_sub hl [0, 1, 2, 3] rfl)
      have h := (if_neg c22).symm.trans h
      by_cases c23 : (y2 &&& (31 : Int32)) = (20 : Int32)
      · have h := (if_pos c23).symm.trans h
        refine lv_tableIn (off := 746) (tgt := 778) hx hb dL_law_32 (by rw [c23]; decide +kernel) (by rw [c23]; decide +kernel) (by rw [c23]; decide +kernel) (by decide) ?_
        exact law_b778 C1 hK adF adB adT adH kH adR adO adM (L_law_l18 xs n0 fu18) ih18 vB vT vH bH vR vO vM x3 _ _ _ h hP hD hS (lv_sub hl [0, 1, 2, 3] rfl)
      have h := (if_neg c23).symm.trans h
      by_cases c24 : (y2 &&& (31 : Int32)) = (21 : Int32)
      · have h := (if_pos c24).symm.trans h
        refine lv_tableIn (off := 769) (tgt := 801) hx hb dL_law_32 (by rw [c24]; decide +kernel) (by rw [c24]; decide +kernel) (by rw [c24]; decide +kernel) (by decide) ?_
        exact law_b801 C1 hK adF adB adT adH kH adR adO adM (L_law_l18 xs n0 fu18) ih18 vB vT vH bH vR vO vM x3 _ _ _ h hP hD hS (lv_sub hl [0, 1, 2, 3] rfl)
      have h := (if_neg c24).symm.trans h
      by_cases c25 : (y2 &&& (31 : Int32)) = (22 : Int32)
      · have h := (if_pos c25).symm.trans h
        refine lv_tableIn (off := 782) (tgt := 814) hx hb dL_law_32 (by rw [c25]; decide +kernel) (by rw [c25]; decide +kernel) (by rw [c25]; decide +kernel) (by decide) ?_
        exact law_b814 C1 hK adF adB adT adH kH adR adO adM (L_law_l18 xs n0 fu18) ih18 vB vT vH bH vR vO vM x3 _ _ _ h hP hD hS (lv_sub hl [0, 1, 2, 3] rfl)
      have h := (if_neg c25).symm.trans h
      by_cases c26 : (y2 &&& (31 : Int32)) = (23 : Int32)
      · have h := (if_pos c26).symm.trans h
        refine lv_tableIn (off := 805) (tgt := 837) hx hb dL_law_32 (by rw [c26]; decide +kernel) (by rw [c26]; decide +kernel) (by rw [c26]; decide +kernel) (by decide) ?_
        exact law_b837 C1 hK adF adB adT adH kH adR adO adM (L_law_l18 xs n0 fu18) ih18 vB vT vH bH vR vO vM x3 _ _ _ h hP hD hS (lv_sub hl [0, 1, 2, 3] rfl)
      have h := (if_neg c26).symm.trans h
      by_cases c27 : (y2 &&& (31 : Int32)) = (24 : Int32)
      · have h := (if_pos c27).symm.trans h
        refine lv_tableIn (off := 818) (tgt := 850) hx hb dL_law_32 (by rw [c27]; decide +kernel) (by rw [c27]; decide +kernel) (by rw [c27]; decide +kernel) (by decide) ?_
        exact law_b850 C1 hK adF adB adT adH kH adR adO adM (L_law_l18 xs n0 fu18) ih18 vB vT vH bH vR vO vM x3 _ _ _ h hP hD hS (lv_sub hl [0, 1, 2, 3] rfl)
      have h := (if_neg c27).symm.trans h
      by_cases c28 : (y2 &&& (31 : Int32)) = (25 : Int32)
      · have h := (if_pos c28).symm.trans h
        refine lv_tableIn (off := 841) (tgt := 873) hx hb dL_law_32 (by rw [c28]; decide +kernel) (by rw [c28]; decide +kernel) (by rw [c28]; decide +kernel) (by decide) ?_
        exact law_b873 C1 hK adF adB adT adH kH adR adO adM (L_law_l18 xs n0 fu18) ih18 vB vT vH bH vR vO vM x3 _ _ _ h hP hD hS (lv_sub hl [0, 1, 2, 3] rfl)
      have h := (if_neg c28).symm.trans h
      have nc3 : ((y2 &&& (31 : Int32))).toInt ≠ 0 := ne_toInt c3
      have nc4 : ((y2 &&& (31 : Int32))).toInt ≠ 1 := ne_toInt c4
      have nc5 : ((y2 &&& (31 : Int32))).toInt ≠ 2 := ne_toInt c5
      have nc6 : ((y2 &&& (31 : Int32))).toInt ≠ 3 := ne_toInt c6
      have nc7 : ((y2 &&& (31 : Int32))).toInt ≠ 4 := ne_toInt c7
      have nc8 : ((y2 &&& (31 : Int32))).toInt ≠ 5 := ne_toInt c8
      have nc9 : ((y2 &&& (31 : Int32))).toInt ≠ 6 := ne_toInt c9
      have nc10 : ((y2 &&& (31 : Int32))).toInt ≠ 7 := ne_toInt c10
      have nc11 : ((y2 &&& (31 : Int32))).toInt ≠ 8 := ne_toInt c11
      have nc12 : ((y2 &&& (31 : Int32))).toInt ≠ 9 := ne_toInt c12
      have nc13 : ((y2 &&& (31 : Int32))).toInt ≠ 10 := ne_toInt c13
      have nc14 : ((y2 &&& (31 : Int32))).toInt ≠ 11 := ne_toInt c14
      have nc15 : ((y2 &&& (31 : Int32))).toInt ≠ 12 := ne_toInt c15
      have nc16 : ((y2 &&& (31 : Int32))).toInt ≠ 13 := ne_toInt c16
      have nc17 : ((y2 &&& (31 : Int32))).toInt ≠ 14 := ne_toInt c17
      have nc18 : ((y2 &&& (31 : Int32))).toInt ≠ 15 := ne_toInt c18
      have nc19 : ((y2 &&& (31 : Int32))).toInt ≠ 16 := ne_toInt c19
      have nc20 : ((y2 &&& (31 : Int32))).toInt ≠ 17 := ne_toInt c20
      have nc21 : ((y2 &&& (31 : Int32))).toInt ≠ 18 := ne_toInt c21
      have nc22 : ((y2 &&& (31 : Int32))).toInt ≠ 19 := ne_toInt c22
      have nc23 : ((y2 &&& (31 : Int32))).toInt ≠ 20 := ne_toInt c23
      have nc24 : ((y2 &&& (31 : Int32))).toInt ≠ 21 := ne_toInt c24
      have nc25 : ((y2 &&& (31 : Int32))).toInt ≠ 22 := ne_toInt c25
      have nc26 : ((y2 &&& (31 : Int32))).toInt ≠ 23 := ne_toInt c26
      have nc27 : ((y2 &&& (31 : Int32))).toInt ≠ 24 := ne_toInt c27
      have nc28 : ((y2 &&& (31 : Int32))).toInt ≠ 25 := ne_toInt c28
      refine lv_tableOut (tgt := 886) hx hb dL_law_32 (by omega) (by decide) ?_
      refine lv_iinc (v := (x3 + (5 : Int32))) (lv' := [(3, .int (x3 + (5 : Int32))), (0, .ref b), (1, .ref adF), (2, .ref (adM 0))]) hx hb dL_law_886 hl (k := 3) rfl rfl (by decide) rfl (fun ls hl => ?_)
      refine lv_goto (tgt := 18) hx hb dL_law_889 (by decide) ?_
      exact ih18 vB vT vH bH vR vO vM (x3 + (5 : Int32)) _ _ _ h hP hD hS (lv_sub hl [1, 2, 3, 0] rfl)

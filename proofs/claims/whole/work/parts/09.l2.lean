set_option maxHeartbeats 8000000 in
set_option maxRecDepth 100000 in
theorem law_b620 {p : Program} {l : Launch} {e : Env} {s : State} {m : MethodId} {below : List Frame} {meth : Method} {c : Code} {D : va_G} {cA cQ : ClassId} {b n0 : Nat} {xs : Nat → Int32} (C0 : lw_At p s m meth c b n0 xs) (hK : va_K D vwCl (TY cA cQ) s) (adF : Nat) (adB adT adH : Nat → Nat) (kH : Nat → Nat → Nat) (adR adO adM : Nat → Nat) (k18 : St → St → St → (Nat → St) → St → St → St → Int32 → Option Int32) (ih18 : ∀ (vB : St) (vT : St) (vH : St) (bH : Nat → St) (vR : St) (vO : St) (vM : St) (x3 : Int32) (H : Heap) (locs : List Loc) (ls : Array Slot), k18 vB vT vH bH vR vO vM x3 = some 1 → va_P D vwCl (wF cA cQ adF adB adT adH kH adR adO vB vT vH bH vR vO ++ wM cA adM vM) H → va_D (fun q : Nat => s.heap.size ≤ q) (wF cA cQ adF adB adT adH kH adR adO vB vT vH bH vR vO ++ wM cA adM vM) → va_S (fun q : Nat => s.heap.size ≤ q) s.heap H locs → lv_has ls 4 [(0, .ref b), (1, .ref adF), (2, .ref (adM 0)), (3, .int x3)] → W p l e room_1 s m #[Value.ref b] below meth c H locs 600000 7302250 (lw_Z below #[Value.ref b] s) (F0 m 18 ls [])) : ∀ (vB : St) (vT : St) (vH : St) (bH : Nat → St) (vR : St) (vO : St) (vM : St) (x3 : Int32) (H : Heap) (locs : List Loc) (ls : Array Slot), L_law_b620 xs n0 k18 vB vT vH bH vR vO vM x3 = some 1 → va_P D vwCl (wF cA cQ adF adB adT adH kH adR adO vB vT vH bH vR vO ++ wM cA adM vM) H → va_D (fun q : Nat => s.heap.size ≤ q) (wF cA cQ adF adB adT adH kH adR adO vB vT vH bH vR vO ++ wM cA adM vM) → va_S (fun q : Nat => s.heap.size ≤ q) s.heap H locs → lv_has ls 4 [(0, .ref b), (1, .ref adF), (2, .ref (adM 0)), (3, .int x3)] → W p l e room_1 s m #[Value.ref b] below meth c H locs 600000 7302250 (lw_Z below #[Value.ref b] s) (F0 m 620 ls []) := by
  have C1 := C0
  obtain ⟨hx, hb, hr, hml, hown, hts, hX, hbl, hlocks, hgv⟩ := C0
  have hts0 := hts
  have hN : NW s := lw_nw hts0
  have hts : ∀ w ∈ wsL_law, w.before #[Value.ref b] s = true := fun w h => hts0 w (wsL_law_in w h)
  have hown : s.vm.findClass RL = some m.cls := hown
  have hA : ∀ q : Nat, s.heap.size ≤ q → (fun q : Nat => s.heap.size ≤ q) q := fun _ h => h
  have hbA : ¬ (fun q : Nat => s.heap.size ≤ q) b := Nat.not_le.mpr hbl
  intro vB vT vH bH vR vO vM x3 H locs ls h hP hD hS hl
  unfold L_law_b620 at h
  refine lv_aload_n hx hb dL_law_620 rfl (lv_at hl 1 rfl) ?_
  refine lv_aload_n hx hb dL_law_621 rfl (lv_at hl 0 rfl) ?_
  refine lv_iload_n hx hb dL_law_622 rfl (lv_at hl 3 rfl) ?_
  refine lv_iconst (v := (1 : Int32)) hx hb dL_law_623 (by decide) ?_
  refine lv_iadd hx hb dL_law_624 ?_
  obtain ⟨y80, ey80, h⟩ := bd_in h
  refine slR hx hb hX hbl hbA hS ey80 dL_law_625 ?_
  refine lv_aload_n hx hb dL_law_626 rfl (lv_at hl 0 rfl) ?_
  refine lv_iload_n hx hb dL_law_627 rfl (lv_at hl 3 rfl) ?_
  refine lv_iconst (v := (2 : Int32)) hx hb dL_law_628 (by decide) ?_
  refine lv_iadd hx hb dL_law_629 ?_
  obtain ⟨y81, ey81, h⟩ := bd_in h
  refine slR hx hb hX hbl hbA hS ey81 dL_law_630 ?_
  obtain ⟨u82, eu82, h⟩ := bd_in h
  refine kI (va_runV (As := [.int y80, .int y81]) (rest := []) ⟨hx, hb, hml, hown, hts⟩ (c_X4_ifCleared l D cA cQ adF adB adT adH kH adR adO vB vT vH bH vR vO y80 y81 u82 eu82 _) (cwV 2 hts gL_law_X4_ifCleared rfl rfl rfl (by decide +kernel) ⟨Nat.le_of_ble_eq_true rfl, Nat.le_of_ble_eq_true rfl⟩) (pV (ci := 4) (q := (RX4, TX4, 5)) hK hN hP hD [0, 1, 2, 3, 4, 5, 6, 7, 8, 9, 10, 11, 12, 13, 14, 15, 16, 17, 18, 19, 20, 21, 22, 23, 24, 25, 26, 27, 28, 29, 30, 31, 32, 33, 34, 35, 36, 37, 38, 39, 40, 41, 42, 43, 44, 45, 46, 47, 48, 49, 50, 51, 52, 53, 54, 55, 56, 57, 58, 59, 60, 61, 62, 63, 64, 65, 66, 67, 68, 69, 70, 71, 72, 73, 74, 75, 76, 77, 78, 79, 80, 81, 82, 83, 84, 85, 86, 87, 88, 89, 90, 91, 92, 93, 94] rfl rfl rfl rfl) rfl rfl hl.1 rfl (lv_room (Nat.le_of_ble_eq_true rfl)) dL_law_631 ⟨Nat.le_of_ble_eq_true rfl, Nat.le_of_ble_eq_true rfl⟩) hP hD hS hA [0, 1, 2, 3, 4, 5, 6, 7, 8, 9, 10, 11, 12, 13, 14, 15, 16, 17, 18, 19, 20, 21, 22, 23, 24, 25, 26, 27, 28, 29, 30, 31, 32, 33, 34, 35, 36, 37, 38, 39, 40, 41, 42, 43, 44, 45, 46, 47, 48, 49, 50, 51, 52, 53, 54, 55, 56, 57, 58, 59, 60, 61, 62, 63, 64, 65, 66, 67, 68, 69, 70, 71, 72, 73, 74, 75, 76, 77, 78, 79, 80, 81, 82, 83, 84, 85, 86, 87, 88, 89, 90, 91, 92, 93, 94] rfl rfl (ws' := (wF cA cQ adF adB adT adH kH adR adO vB u82.2.1 vH bH u82.2.2 vO ++ wM cA adM vM)) rfl (fun H locs hP hD hS => ?_)
  refine lv_aload_n hx hb dL_law_634 rfl (lv_at hl 2 rfl) ?_
  refine lv_aload_n hx hb dL_law_635 rfl (lv_at hl 0 rfl) ?_
  refine lv_iload_n hx hb dL_law_636 rfl (lv_at hl 3 rfl) ?_
  refine lv_iconst (v := (1 : Int32)) hx hb dL_law_637 (by decide) ?_
  refine lv_iadd hx hb dL_law_638 ?_
  obtain ⟨y83, ey83, h⟩ := bd_in h
  refine slR hx hb hX hbl hbA hS ey83 dL_law_639 ?_
  refine lv_aload_n hx hb dL_law_640 rfl (lv_at hl 0 rfl) ?_
  refine lv_iload_n hx hb dL_law_641 rfl (lv_at hl 3 rfl) ?_
  refine lv_iconst (v := (2 : Int32)) hx hb dL_law_642 (by decide) ?_
  refine lv_iadd hx hb dL_law_643 ?_
  obtain ⟨y84, ey84, h⟩ := bd_in h
  refine slR hx hb hX hbl hbA hS ey84 dL_law_644 ?_
  obtain ⟨u85, eu85, h⟩ := bd_in h
  refine kI (va_runV (As := [.int y83, .int y84]) (rest := [.int u82.1]) ⟨hx, hb, hml, hown, hts⟩ (c_X5_ifCleared l D cA cQ adM vM y83 y84 u85 eu85 _) (cwV 2 hts gL_law_X5_ifCleared rfl rfl rfl (by decide +kernel) ⟨Nat.le_of_ble_eq_true rfl, Nat.le_of_ble_eq_true rfl⟩) (pV (ci := 5) (q := (RX5, TX5, 18)) hK hN hP hD [95, 96, 97, 98, 99, 100, 101, 102, 103, 104] rfl rfl rfl rfl) rfl rfl hl.1 rfl (lv_room (Nat.le_of_ble_eq_true rfl)) dL_law_645 ⟨Nat.le_of_ble_eq_true rfl, Nat.le_of_ble_eq_true rfl⟩) hP hD hS hA [95, 96, 97, 98, 99, 100, 101, 102, 103, 104] rfl rfl (ws' := (wF cA cQ adF adB adT adH kH adR adO vB u82.2.1 vH bH u82.2.2 vO ++ wM cA adM u85.2)) rfl (fun H locs hP hD hS => ?_)
  refine lv_icmp_eq (tgt := 886) hx hb dL_law_648 (by decide) (fun c86 => ?_) (fun c86 => ?_)
  · have h := (if_pos c86).symm.trans h
    refine lv_iinc (v := (x3 + (5 : Int32))) (lv' := [(3, .int (x3 + (5 : Int32))), (0, .ref b), (1, .ref adF), (2, .ref (adM 0))]) hx hb dL_law_886 hl (k := 3) rfl rfl (by decide) rfl (fun ls hl => ?_)
    refine lv_goto (tgt := 18) hx hb dL_law_889 (by decide) ?_
    exact ih18 vB u82.2.1 vH bH u82.2.2 vO u85.2 (x3 + (5 : Int32)) _ _ _ h hP hD hS (lv_sub hl [1, 2, 3, 0] rfl)
  · have h := (if_neg c86).symm.trans h
    refine lv_iconst (v := (0 : Int32)) hx hb dL_law_651 (by decide) ?_
    exact absurd h (by decide)
set_option maxHeartbeats 8000000 in
set_option maxRecDepth 100000 in
theorem law_b597 {p : Program} {l : Launch} {e : Env} {s : State} {m : MethodId} {below : List Frame} {meth : Method} {c : Code} {D : va_G} {cA cQ : ClassId} {b n0 : Nat} {xs : Nat → Int32} (C0 : lw_At p s m meth c b n0 xs) (hK : va_K D vwCl (TY cA cQ) s) (adF : Nat) (adB adT adH : Nat → Nat) (kH : Nat → Nat → Nat) (adR adO adM : Nat → Nat) (k18 : St → St → St → (Nat → St) → St → St → St → Int32 → Option Int32) (ih18 : ∀ (vB : St) (vT : St) (vH : St) (bH : Nat → St) (vR : St) (vO : St) (vM : St) (x3 : Int32) (H : Heap) (locs : List Loc) (ls : Array Slot), k18 vB vT vH bH vR vO vM x3 = some 1 → va_P D vwCl (wF cA cQ adF adB adT adH kH adR adO vB vT vH bH vR vO ++ wM cA adM vM) H → va_D (fun q : Nat => s.heap.size ≤ q) (wF cA cQ adF adB adT adH kH adR adO vB vT vH bH vR vO ++ wM cA adM vM) → va_S (fun q : Nat => s.heap.size ≤ q) s.heap H locs → lv_has ls 4 [(0, .ref b), (1, .ref adF), (2, .ref (adM 0)), (3, .int x3)] → W p l e room_1 s m #[Value.ref b] below meth c H locs 600000 7302250 (lw_Z below #[Value.ref b] s) (F0 m 18 ls [])) : ∀ (vB : St) (vT : St) (vH : St) (bH : Nat → St) (vR : St) (vO : St) (vM : St) (x3 : Int32) (H : Heap) (locs : List Loc) (ls : Array Slot), L_law_b597 xs n0 k18 vB vT vH bH vR vO vM x3 = some 1 → va_P D vwCl (wF cA cQ adF adB adT adH kH adR adO vB vT vH bH vR vO ++ wM cA adM vM) H → va_D (fun q : Nat => s.heap.size ≤ q) (wF cA cQ adF adB adT adH kH adR adO vB vT vH bH vR vO ++ wM cA adM vM) → va_S (fun q : Nat => s.heap.size ≤ q) s.heap H locs → lv_has ls 4 [(0, .ref b), (1, .ref adF), (2, .ref (adM 0)), (3, .int x3)] → W p l e room_1 s m #[Value.ref b] below meth c H locs 600000 7302250 (lw_Z below #[Value.ref b] s) (F0 m 597 ls []) := by
  have C1 := C0
  obtain ⟨hx, hb, hr, hml, hown, hts, hX, hbl, hlocks, hgv⟩ := C0
  have hts0 := hts
  have hN : NW s := lw_nw hts0
  have hts : ∀ w ∈ wsL_law, w.before #[Value.ref b] s = true := fun w h => hts0 w (wsL_law_in w h)
  have hown : s.vm.findClass RL = some m.cls := hown
  have hA : ∀ q : Nat, s.heap.size ≤ q → (fun q : Nat => s.heap.size ≤ q) q := fun _ h => h
  have hbA : ¬ (fun q : Nat => s.heap.size ≤ q) b := Nat.not_le.mpr hbl
  intro vB vT vH bH vR vO vM x3 H locs ls h hP hD hS hl
  unfold L_law_b597 at h
  refine lv_aload_n hx hb dL_law_597 rfl (lv_at hl 1 rfl) ?_
  refine lv_aload_n hx hb dL_law_598 rfl (lv_at hl 0 rfl) ?_
  refine lv_iload_n hx hb dL_law_599 rfl (lv_at hl 3 rfl) ?_
  refine lv_iconst (v := (1 : Int32)) hx hb dL_law_600 (by decide) ?_
  refine lv_iadd hx hb dL_law_601 ?_
  obtain ⟨y87, ey87, h⟩ := bd_in h
  refine slR hx hb hX hbl hbA hS ey87 dL_law_602 ?_
  obtain ⟨u88, eu88, h⟩ := bd_in h
  refine kI (va_runV (As := [.int y87]) (rest := []) ⟨hx, hb, hml, hown, hts⟩ (c_X4_amount l D cA cQ adF adB adT adH kH adR adO vB vT vH bH vR vO y87 u88 eu88 _) (cwV 1 hts gL_law_X4_amount rfl rfl rfl (by decide +kernel) ⟨Nat.le_of_ble_eq_true rfl, Nat.le_of_ble_eq_true rfl⟩) (pV (ci := 4) (q := (RX4, TX4, 5)) hK hN hP hD [0, 1, 2, 3, 4, 5, 6, 7, 8, 9, 10, 11, 12, 13, 14, 15, 16, 17, 18, 19, 20, 21, 22, 23, 24, 25, 26, 27, 28, 29, 30, 31, 32, 33, 34, 35, 36, 37, 38, 39, 40, 41, 42, 43, 44, 45, 46, 47, 48, 49, 50, 51, 52, 53, 54, 55, 56, 57, 58, 59, 60, 61, 62, 63, 64, 65, 66, 67, 68, 69, 70, 71, 72, 73, 74, 75, 76, 77, 78, 79, 80, 81, 82, 83, 84, 85, 86, 87, 88, 89, 90, 91, 92, 93, 94] rfl rfl rfl rfl) rfl rfl hl.1 rfl (lv_room (Nat.le_of_ble_eq_true rfl)) dL_law_603 ⟨Nat.le_of_ble_eq_true rfl, Nat.le_of_ble_eq_true rfl⟩) hP hD hS hA [0, 1, 2, 3, 4, 5, 6, 7, 8, 9, 10, 11, 12, 13, 14, 15, 16, 17, 18, 19, 20, 21, 22, 23, 24, 25, 26, 27, 28, 29, 30, 31, 32, 33, 34, 35, 36, 37, 38, 39, 40, 41, 42, 43, 44, 45, 46, 47, 48, 49, 50, 51, 52, 53, 54, 55, 56, 57, 58, 59, 60, 61, 62, 63, 64, 65, 66, 67, 68, 69, 70, 71, 72, 73, 74, 75, 76, 77, 78, 79, 80, 81, 82, 83, 84, 85, 86, 87, 88, 89, 90, 91, 92, 93, 94] rfl rfl (ws' := (wF cA cQ adF adB adT adH kH adR adO vB vT vH bH u88.2 vO ++ wM cA adM vM)) rfl (fun H locs hP hD hS => ?_)
  refine lv_aload_n hx hb dL_law_606 rfl (lv_at hl 2 rfl) ?_
  refine lv_aload_n hx hb dL_law_607 rfl (lv_at hl 0 rfl) ?_
  refine lv_iload_n hx hb dL_law_608 rfl (lv_at hl 3 rfl) ?_
  refine lv_iconst (v := (1 : Int32)) hx hb dL_law_609 (by decide) ?_
  refine lv_iadd hx hb dL_law_610 ?_
  obtain ⟨y89, ey89, h⟩ := bd_in h
  refine slR hx hb hX hbl hbA hS ey89 dL_law_611 ?_
  obtain ⟨u90, eu90, h⟩ := bd_in h
  refine kI (va_runV (As := [.int y89]) (rest := [.int u88.1]) ⟨hx, hb, hml, hown, hts⟩ (c_X5_amount l D cA cQ adM vM y89 u90 eu90 _) (cwV 1 hts gL_law_X5_amount rfl rfl rfl (by decide +kernel) ⟨Nat.le_of_ble_eq_true rfl, Nat.le_of_ble_eq_true rfl⟩) (pV (ci := 5) (q := (RX5, TX5, 18)) hK hN hP hD [95, 96, 97, 98, 99, 100, 101, 102, 103, 104] rfl rfl rfl rfl) rfl rfl hl.1 rfl (lv_room (Nat.le_of_ble_eq_true rfl)) dL_law_612 ⟨Nat.le_of_ble_eq_true rfl, Nat.le_of_ble_eq_true rfl⟩) hP hD hS hA [95, 96, 97, 98, 99, 100, 101, 102, 103, 104] rfl rfl (ws' := (wF cA cQ adF adB adT adH kH adR adO vB vT vH bH u88.2 vO ++ wM cA adM u90.2)) rfl (fun H locs hP hD hS => ?_)
  refine lv_icmp_eq (tgt := 886) hx hb dL_law_615 (by decide) (fun c91 => ?_) (fun c91 => ?_)
  · have h := (if_pos c91).symm.trans h
    refine lv_iinc (v := (x3 + (5 : Int32))) (lv' := [(3, .int (x3 + (5 : Int32))), (0, .ref b), (1, .ref adF), (2, .ref (adM 0))]) hx hb dL_law_886 hl (k := 3) rfl rfl (by decide) rfl (fun ls hl => ?_)
    refine lv_goto (tgt := 18) hx hb dL_law_889 (by decide) ?_
    exact ih18 vB vT vH bH u88.2 vO u90.2 (x3 + (5 : Int32)) _ _ _ h hP hD hS (lv_sub hl [1, 2, 3, 0] rfl)
  · have h := (if_neg c91).symm.trans h
    refine lv_iconst (v := (0 : Int32)) hx hb dL_law_618 (by decide) ?_
    exact absurd h (by decide)
set_option maxHeartbeats 8000000 in
set_option maxRecDepth 100000 in
theorem law_b564 {p : Program} {l : Launch} {e : Env} {s : State} {m : MethodId} {below : List Frame} {meth : Method} {c : Code} {D : va_G} {cA cQ : ClassId} {b n0 : Nat} {xs : Nat → Int32} (C0 : lw_At p s m meth c b n0 xs) (hK : va_K D vwCl (TY cA cQ) s) (adF : Nat) (adB adT adH : Nat → Nat) (kH : Nat → Nat → Nat) (adR adO adM : Nat → Nat) (k18 : St → St → St → (Nat → St) → St → St → St → Int32 → Option Int32) (ih18 : ∀ (vB : St) (vT : St) (vH : St) (bH : Nat → St) (vR : St) (vO : St) (vM : St) (x3 : Int32) (H : Heap) (locs : List Loc) (ls : Array Slot), k18 vB vT vH bH vR vO vM x3 = some 1 → va_P D vwCl (wF cA cQ adF adB adT adH kH adR adO vB vT vH bH vR vO ++ wM cA adM vM) H → va_D (fun q : Nat => s.heap.size ≤ q) (wF cA cQ adF adB adT adH kH adR adO vB vT vH bH vR vO ++ wM cA adM vM) → va_S (fun q : Nat => s.heap.size ≤ q) s.heap H locs → lv_has ls 4 [(0, .ref b), (1, .ref adF), (2, .ref (adM 0)), (3, .int x3)] → W p l e room_1 s m #[Value.ref b] below meth c H locs 600000 7302250 (lw_Z below #[Value.ref b] s) (F0 m 18 ls [])) : ∀ (vB : St) (vT : St) (vH : St) (bH : Nat → St) (vR : St) (vO : St) (vM : St) (x3 : Int32) (H : Heap) (locs : List Loc) (ls : Array Slot), L_law_b564 xs n0 k18 vB vT vH bH vR vO vM x3 = some 1 → va_P D vwCl (wF cA cQ adF adB adT adH kH adR adO vB vT vH bH vR vO ++ wM cA adM vM) H → va_D (fun q : Nat => s.heap.size ≤ q) (wF cA cQ adF adB adT adH kH adR adO vB vT vH bH vR vO ++ wM cA adM vM) → va_S (fun q : Nat => s.heap.size ≤ q) s.heap H locs → lv_has ls 4 [(0, .ref b), (1, .ref adF), (2, .ref (adM 0)), (3, .int x3)] → W p l e room_1 s m #[Value.ref b] below meth c H locs 600000 7302250 (lw_Z below #[Value.ref b] s) (F0 m 564 ls []) := by
  have C1 := C0
  obtain ⟨hx, hb, hr, hml, hown, hts, hX, hbl, hlocks, hgv⟩ := C0
  have hts0 := hts
  have hN : NW s := lw_nw hts0
  have hts : ∀ w ∈ wsL_law, w.before #[Value.ref b] s = true := fun w h => hts0 w (wsL_law_in w h)
  have hown : s.vm.findClass RL = some m.cls := hown
  have hA : ∀ q : Nat, s.heap.size ≤ q → (fun q : Nat => s.heap.size ≤ q) q := fun _ h => h
  have hbA : ¬ (fun q : Nat => s.heap.size ≤ q) b := Nat.not_le.mpr hbl
  intro vB vT vH bH vR vO vM x3 H locs ls h hP hD hS hl
  unfold L_law_b564 at h
  refine lv_aload_n hx hb dL_law_564 rfl (lv_at hl 1 rfl) ?_
  refine lv_aload_n hx hb dL_law_565 rfl (lv_at hl 0 rfl) ?_
  refine lv_iload_n hx hb dL_law_566 rfl (lv_at hl 3 rfl) ?_
  refine lv_iconst (v := (1 : Int32)) hx hb dL_law_567 (by decide) ?_
  refine lv_iadd hx hb dL_law_568 ?_
  obtain ⟨y92, ey92, h⟩ := bd_in h
  refine slR hx hb hX hbl hbA hS ey92 dL_law_569 ?_
  refine lv_aload_n hx hb dL_law_570 rfl (lv_at hl 0 rfl) ?_
  refine lv_iload_n hx hb dL_law_571 rfl (lv_at hl 3 rfl) ?_
  refine lv_iconst (v := (2 : Int32)) hx hb dL_law_572 (by decide) ?_
  refine lv_iadd hx hb dL_law_573 ?_
  obtain ⟨y93, ey93, h⟩ := bd_in h
  refine slR hx hb hX hbl hbA hS ey93 dL_law_574 ?_
  obtain ⟨u94, eu94, h⟩ := bd_in h
  refine kI (va_runV (As := [.int y92, .int y93]) (rest := []) ⟨hx, hb, hml, hown, hts⟩ (c_X4_ring l D cA cQ adF adB adT adH kH adR adO vB vT vH bH vR vO y92 y93 u94 eu94 _) (cwV 2 hts gL_law_X4_ring rfl rfl rfl (by decide +kernel) ⟨Nat.le_of_ble_eq_true rfl, Nat.le_of_ble_eq_true rfl⟩) (pV (ci := 4) (q := (RX4, TX4, 5)) hK hN hP hD [0, 1, 2, 3, 4, 5, 6, 7, 8, 9, 10, 11, 12, 13, 14, 15, 16, 17, 18, 19, 20, 21, 22, 23, 24, 25, 26, 27, 28, 29, 30, 31, 32, 33, 34, 35, 36, 37, 38, 39, 40, 41, 42, 43, 44, 45, 46, 47, 48, 49, 50, 51, 52, 53, 54, 55, 56, 57, 58, 59, 60, 61, 62, 63, 64, 65, 66, 67, 68, 69, 70, 71, 72, 73, 74, 75, 76, 77, 78, 79, 80, 81, 82, 83, 84, 85, 86, 87, 88, 89, 90, 91, 92, 93, 94] rfl rfl rfl rfl) rfl rfl hl.1 rfl (lv_room (Nat.le_of_ble_eq_true rfl)) dL_law_575 ⟨Nat.le_of_ble_eq_true rfl, Nat.le_of_ble_eq_true rfl⟩) hP hD hS hA [0, 1, 2, 3, 4, 5, 6, 7, 8, 9, 10, 11, 12, 13, 14, 15, 16, 17, 18, 19, 20, 21, 22, 23, 24, 25, 26, 27, 28, 29, 30, 31, 32, 33, 34, 35, 36, 37, 38, 39, 40, 41, 42, 43, 44, 45, 46, 47, 48, 49, 50, 51, 52, 53, 54, 55, 56, 57, 58, 59, 60, 61, 62, 63, 64, 65, 66, 67, 68, 69, 70, 71, 72, 73, 74, 75, 76, 77, 78, 79, 80, 81, 82, 83, 84, 85, 86, 87, 88, 89, 90, 91, 92, 93, 94] rfl rfl (ws' := (wF cA cQ adF adB adT adH kH adR adO vB vT vH bH u94.2 vO ++ wM cA adM vM)) rfl (fun H locs hP hD hS => ?_)
  refine lv_aload_n hx hb dL_law_578 rfl (lv_at hl 2 rfl) ?_
  refine lv_aload_n hx hb dL_law_579 rfl (lv_at hl 0 rfl) ?_
  refine lv_iload_n hx hb dL_law_580 rfl (lv_at hl 3 rfl) ?_
  refine lv_iconst (v := (1 : Int32)) hx hb dL_law_581 (by decide) ?_
  refine lv_iadd hx hb dL_law_582 ?_
  obtain ⟨y95, ey95, h⟩ := bd_in h
  refine slR hx hb hX hbl hbA hS ey95 dL_law_583 ?_
  refine lv_aload_n hx hb dL_law_584 rfl (lv_at hl 0 rfl) ?_
  refine lv_iload_n hx hb dL_law_585 rfl (lv_at hl 3 rfl) ?_
  refine lv_iconst (v := (2 : Int32)) hx hb dL_law_586 (by decide) ?_
  refine lv_iadd hx hb dL_law_587 ?_
  obtain ⟨y96, ey96, h⟩ := bd_in h
  refine slR hx hb hX hbl hbA hS ey96 dL_law_588 ?_
  obtain ⟨u97, eu97, h⟩ := bd_in h
  refine kI (va_runV (As := [.int y95, .int y96]) (rest := [.int u94.1]) ⟨hx, hb, hml, hown, hts⟩ (c_X5_ring l D cA cQ adM vM y95 y96 u97 eu97 _) (cwV 2 hts gL_law_X5_ring rfl rfl rfl (by decide +kernel) ⟨Nat.le_of_ble_eq_true rfl, Nat.le_of_ble_eq_true rfl⟩) (pV (ci := 5) (q := (RX5, TX5, 18)) hK hN hP hD [95, 96, 97, 98, 99, 100, 101, 102, 103, 104] rfl rfl rfl rfl) rfl rfl hl.1 rfl (lv_room (Nat.le_of_ble_eq_true rfl)) dL_law_589 ⟨Nat.le_of_ble_eq_true rfl, Nat.le_of_ble_eq_true rfl⟩) hP hD hS hA [95, 96, 97, 98, 99, 100, 101, 102, 103, 104] rfl rfl (ws' := (wF cA cQ adF adB adT adH kH adR adO vB vT vH bH u94.2 vO ++ wM cA adM u97.2)) rfl (fun H locs hP hD hS => ?_)
  refine lv_icmp_eq (tgt := 886) hx hb dL_law_592 (by decide) (fun c98 => ?_) (fun c98 => ?_)
  · have h := (if_pos c98).symm.trans h
    refine lv_iinc (v := (x3 + (5 : Int32))) (lv' := [(3, .int (x3 + (5 : Int32))), (0, .ref b), (1, .ref adF), (2, .ref (adM 0))]) hx hb dL_law_886 hl (k := 3) rfl rfl (by decide) rfl (fun ls hl => ?_)
    refine lv_goto (tgt := 18) hx hb dL_law_889 (by decide) ?_
    exact ih18 vB vT vH bH u94.2 vO u97.2 (x3 + (5 : Int32)) _ _ _ h hP hD hS (lv_sub hl [1, 2, 3, 0] rfl)
  · have h := (if_neg c98).symm.trans h
    refine lv_iconst (v := (0 : Int32)) hx hb dL_law_595 (by decide) ?_
    exact absurd h (by decide)
set_option maxHeartbeats 8000000 in
set_option maxRecDepth 100000 in
theorem law_b531 {p : Program} {l : Launch} {e : Env} {s : State} {m : MethodId} {below : List Frame} {meth : Method} {c : Code} {D : va_G} {cA cQ : ClassId} {b n0 : Nat} {xs : Nat → Int32} (C0 : lw_At p s m meth c b n0 xs) (hK : va_K D vwCl (TY cA cQ) s) (adF : Nat) (adB adT adH : Nat → Nat) (kH : Nat → Nat → Nat) (adR adO adM : Nat → Nat) (k18 : St → St → St → (Nat → St) → St → St → St → Int32 → Option Int32) (ih18 : ∀ (vB : St) (vT : St) (vH : St) (bH : Nat → St) (vR : St) (vO : St) (vM : St) (x3 : Int32) (H : Heap) (locs : List Loc) (ls : Array Slot), k18 vB vT vH bH vR vO vM x3 = some 1 → va_P D vwCl (wF cA cQ adF adB adT adH kH adR adO vB vT vH bH vR vO ++ wM cA adM vM) H → va_D (fun q : Nat => s.heap.size ≤ q) (wF cA cQ adF adB adT adH kH adR adO vB vT vH bH vR vO ++ wM cA adM vM) → va_S (fun q : Nat => s.heap.size ≤ q) s.heap H locs → lv_has ls 4 [(0, .ref b), (1, .ref adF), (2, .ref (adM 0)), (3, .int x3)] → W p l e room_1 s m #[Value.ref b] below meth c H locs 600000 7302250 (lw_Z below #[Value.ref b] s) (F0 m 18 ls [])) : ∀ (vB : St) (vT : St) (vH : St) (bH : Nat → St) (vR : St) (vO : St) (vM : St) (x3 : Int32) (H : Heap) (locs : List Loc) (ls : Array Slot), L_law_b531 xs n0 k18 vB vT vH bH vR vO vM x3 = some 1 → va_P D vwCl (wF cA cQ adF adB adT adH kH adR adO vB vT vH bH vR vO ++ wM cA adM vM) H → va_D (fun q : Nat => s.heap.size ≤ q) (wF cA cQ adF adB adT adH kH adR adO vB vT vH bH vR vO ++ wM cA adM vM) → va_S (fun q : Nat => s.heap.size ≤ q) s.heap H locs → lv_has ls 4 [(0, .ref b), (1, .ref adF), (2, .ref (adM 0)), (3, .int x3)] → W p l e room_1 s m #[Value.ref b] below meth c H locs 600000 7302250 (lw_Z below #[Value.ref b] s) (F0 m 531 ls []) := by
  have C1 := C0
  obtain ⟨hx, hb, hr, hml, hown, hts, hX, hbl, hlocks, hgv⟩ := C0
  have hts0 := hts
  have hN : NW s := lw_nw hts0
  have hts : ∀ w ∈ wsL_law, w.before #[Value.ref b] s = true := fun w h => hts0 w (wsL_law_in w h)
  have hown : s.vm.findClass RL = some m.cls := hown
  have hA : ∀ q : Nat, s.heap.size ≤ q → (fun q : Nat => s.heap.size ≤ q) q := fun _ h => h
  have hbA : ¬ (fun q : Nat => s.heap.size ≤ q) b := Nat.not_le.mpr hbl
  intro vB vT vH bH vR vO vM x3 H locs ls h hP hD hS hl
  unfold L_law_b531 at h
  refine lv_aload_n hx hb dL_law_531 rfl (lv_at hl 1 rfl) ?_
  refine lv_aload_n hx hb dL_law_532 rfl (lv_at hl 0 rfl) ?_
  refine lv_iload_n hx hb dL_law_533 rfl (lv_at hl 3 rfl) ?_
  refine lv_iconst (v := (1 : Int32)) hx hb dL_law_534 (by decide) ?_
  refine lv_iadd hx hb dL_law_535 ?_
  obtain ⟨y99, ey99, h⟩ := bd_in h
  refine slR hx hb hX hbl hbA hS ey99 dL_law_536 ?_
  refine lv_aload_n hx hb dL_law_537 rfl (lv_at hl 0 rfl) ?_
  refine lv_iload_n hx hb dL_law_538 rfl (lv_at hl 3 rfl) ?_
  refine lv_iconst (v := (2 : Int32)) hx hb dL_law_539 (by decide) ?_
  refine lv_iadd hx hb dL_law_540 ?_
  obtain ⟨y100, ey100, h⟩ := bd_in h
  refine slR hx hb hX hbl hbA hS ey100 dL_law_541 ?_
  obtain ⟨u101, eu101, h⟩ := bd_in h
  refine kI (va_runV (As := [.int y99, .int y100]) (rest := []) ⟨hx, hb, hml, hown, hts⟩ (c_X4_why l D cA cQ adF adB adT adH kH adR adO vB vT vH bH vR vO y99 y100 u101 eu101 _) (cwV 2 hts gL_law_X4_why rfl rfl rfl (by decide +kernel) ⟨Nat.le_of_ble_eq_true rfl, Nat.le_of_ble_eq_true rfl⟩) (pV (ci := 4) (q := (RX4, TX4, 5)) hK hN hP hD [0, 1, 2, 3, 4, 5, 6, 7, 8, 9, 10, 11, 12, 13, 14, 15, 16, 17, 18, 19, 20, 21, 22, 23, 24, 25, 26, 27, 28, 29, 30, 31, 32, 33, 34, 35, 36, 37, 38, 39, 40, 41, 42, 43, 44, 45, 46, 47, 48, 49, 50, 51, 52, 53, 54, 55, 56, 57, 58, 59, 60, 61, 62, 63, 64, 65, 66, 67, 68, 69, 70, 71, 72, 73, 74, 75, 76, 77, 78, 79, 80, 81, 82, 83, 84, 85, 86, 87, 88, 89, 90, 91, 92, 93, 94] rfl rfl rfl rfl) rfl rfl hl.1 rfl (lv_room (Nat.le_of_ble_eq_true rfl)) dL_law_542 ⟨Nat.le_of_ble_eq_true rfl, Nat.le_of_ble_eq_true rfl⟩) hP hD hS hA [0, 1, 2, 3, 4, 5, 6, 7, 8, 9, 10, 11, 12, 13, 14, 15, 16, 17, 18, 19, 20, 21, 22, 23, 24, 25, 26, 27, 28, 29, 30, 31, 32, 33, 34, 35, 36, 37, 38, 39, 40, 41, 42, 43, 44, 45, 46, 47, 48, 49, 50, 51, 52, 53, 54, 55, 56, 57, 58, 59, 60, 61, 62, 63, 64, 65, 66, 67, 68, 69, 70, 71, 72, 73, 74, 75, 76, 77, 78, 79, 80, 81, 82, 83, 84, 85, 86, 87, 88, 89, 90, 91, 92, 93, 94] rfl rfl (ws' := (wF cA cQ adF adB adT adH kH adR adO vB vT vH bH vR vO ++ wM cA adM vM)) rfl (fun H locs hP hD hS => ?_)
  refine lv_aload_n hx hb dL_law_545 rfl (lv_at hl 2 rfl) ?_
  refine lv_aload_n hx hb dL_law_546 rfl (lv_at hl 0 rfl) ?_
  refine lv_iload_n hx hb dL_law_547 rfl (lv_at hl 3 rfl) ?_
  refine lv_iconst (v := (1 : Int32)) hx hb dL_law_548 (by decide) ?_
  refine lv_iadd hx hb dL_law_549 ?_
  obtain ⟨y102, ey102, h⟩ := bd_in h
  refine slR hx hb hX hbl hbA hS ey102 dL_law_550 ?_
  refine lv_aload_n hx hb dL_law_551 rfl (lv_at hl 0 rfl) ?_
  refine lv_iload_n hx hb dL_law_552 rfl (lv_at hl 3 rfl) ?_
  refine lv_iconst (v := (2 : Int32)) hx hb dL_law_553 (by decide) ?_
  refine lv_iadd hx hb dL_law_554 ?_
  obtain ⟨y103, ey103, h⟩ := bd_in h
  refine slR hx hb hX hbl hbA hS ey103 dL_law_555 ?_
  obtain ⟨u104, eu104, h⟩ := bd_in h
  refine kI (va_runV (As := [.int y102, .int y103]) (rest := [.int u101]) ⟨hx, hb, hml, hown, hts⟩ (c_X5_why l D cA cQ adM vM y102 y103 u104 eu104 _) (cwV 2 hts gL_law_X5_why rfl rfl rfl (by decide +kernel) ⟨Nat.le_of_ble_eq_true rfl, Nat.le_of_ble_eq_true rfl⟩) (pV (ci := 5) (q := (RX5, TX5, 18)) hK hN hP hD [95, 96, 97, 98, 99, 100, 101, 102, 103, 104] rfl rfl rfl rfl) rfl rfl hl.1 rfl (lv_room (Nat.le_of_ble_eq_true rfl)) dL_law_556 ⟨Nat.le_of_ble_eq_true rfl, Nat.le_of_ble_eq_true rfl⟩) hP hD hS hA [95, 96, 97, 98, 99, 100, 101, 102, 103, 104] rfl rfl (ws' := (wF cA cQ adF adB adT adH kH adR adO vB vT vH bH vR vO ++ wM cA adM vM)) rfl (fun H locs hP hD hS => ?_)
  refine lv_icmp_eq (tgt := 886) hx hb dL_law_559 (by decide) (fun c105 => ?_) (fun c105 => ?_)
  · have h := (if_pos c105).symm.trans h
    refine lv_iinc (v := (x3 + (5 : Int32))) (lv' := [(3, .int (x3 + (5 : Int32))), (0, .ref b), (1, .ref adF), (2, .ref (adM 0))]) hx hb dL_law_886 hl (k := 3) rfl rfl (by decide) rfl (fun ls hl => ?_)
    refine lv_goto (tgt := 18) hx hb dL_law_889 (by decide) ?_
    exact ih18 vB vT vH bH vR vO vM (x3 + (5 : Int32)) _ _ _ h hP hD hS (lv_sub hl [1, 2, 3, 0] rfl)
  · have h := (if_neg c105).symm.trans h
    refine lv_iconst (v := (0 : Int32)) hx hb dL_law_562 (by decide) ?_
    exact absurd h (by decide)
set_option maxHeartbeats 8000000 in
set_option maxRecDepth 100000 in
theorem law_b498 {p : Program} {l : Launch} {e : Env} {s : State} {m : MethodId} {below : List Frame} {meth : Method} {c : Code} {D : va_G} {cA cQ : ClassId} {b n0 : Nat} {xs : Nat → Int32} (C0 : lw_At p s m meth c b n0 xs) (hK : va_K D vwCl (TY cA cQ) s) (adF : Nat) (adB adT adH : Nat → Nat) (kH : Nat → Nat → Nat) (adR adO adM : Nat → Nat) (k18 : St → St → St → (Nat → St) → St → St → St → Int32 → Option Int32) (ih18 : ∀ (vB : St) (vT : St) (vH : St) (bH : Nat → St) (vR : St) (vO : St) (vM : St) (x3 : Int32) (H : Heap) (locs : List Loc) (ls : Array Slot), k18 vB vT vH bH vR vO vM x3 = some 1 → va_P D vwCl (wF cA cQ adF adB adT adH kH adR adO vB vT vH bH vR vO ++ wM cA adM vM) H → va_D (fun q : Nat => s.heap.size ≤ q) (wF cA cQ adF adB adT adH kH adR adO vB vT vH bH vR vO ++ wM cA adM vM) → va_S (fun q : Nat => s.heap.size ≤ q) s.heap H locs → lv_has ls 4 [(0, .ref b), (1, .ref adF), (2, .ref (adM 0)), (3, .int x3)] → W p l e room_1 s m #[Value.ref b] below meth c H locs 600000 7302250 (lw_Z below #[Value.ref b] s) (F0 m 18 ls [])) : ∀ (vB : St) (vT : St) (vH : St) (bH : Nat → St) (vR : St) (vO : St) (vM : St) (x3 : Int32) (H : Heap) (locs : List Loc) (ls : Array Slot), L_law_b498 xs n0 k18 vB vT vH bH vR vO vM x3 = some 1 → va_P D vwCl (wF cA cQ adF adB adT adH kH adR adO vB vT vH bH vR vO ++ wM cA adM vM) H → va_D (fun q : Nat => s.heap.size ≤ q) (wF cA cQ adF adB adT adH kH adR adO vB vT vH bH vR vO ++ wM cA adM vM) → va_S (fun q : Nat => s.heap.size ≤ q) s.heap H locs → lv_has ls 4 [(0, .ref b), (1, .ref adF), (2, .ref (adM 0)), (3, .int x3)] → W p l e room_1 s m #[Value.ref b] below meth c H locs 600000 7302250 (lw_Z below #[Value.ref b] s) (F0 m 498 ls []) := by
  have C1 := C0
  obtain ⟨hx, hb, hr, hml, hown, hts, hX, hbl, hlocks, hgv⟩ := C0
  have hts0 := hts
  have hN : NW s := lw_nw hts0
  have hts : ∀ w ∈ wsL_law, w.before #[Value.ref b] s = true := fun w h => hts0 w (wsL_law_in w h)
  have hown : s.vm.findClass RL = some m.cls := hown
  have hA : ∀ q : Nat, s.heap.size ≤ q → (fun q : Nat => s.heap.size ≤ q) q := fun _ h => h
  have hbA : ¬ (fun q : Nat => s.heap.size ≤ q) b := Nat.not_le.mpr hbl
  intro vB vT vH bH vR vO vM x3 H locs ls h hP hD hS hl
  unfold L_law_b498 at h
  refine lv_aload_n hx hb dL_law_498 rfl (lv_at hl 1 rfl) ?_
  refine lv_aload_n hx hb dL_law_499 rfl (lv_at hl 0 rfl) ?_
  refine lv_iload_n hx hb dL_law_500 rfl (lv_at hl 3 rfl) ?_
  refine lv_iconst (v := (1 : Int32)) hx hb dL_law_501 (by decide) ?_
  refine lv_iadd hx hb dL_law_502 ?_
  obtain ⟨y106, ey106, h⟩ := bd_in h
  refine slR hx hb hX hbl hbA hS ey106 dL_law_503 ?_
  refine lv_aload_n hx hb dL_law_504 rfl (lv_at hl 0 rfl) ?_
  refine lv_iload_n hx hb dL_law_505 rfl (lv_at hl 3 rfl) ?_
  refine lv_iconst (v := (2 : Int32)) hx hb dL_law_506 (by decide) ?_
  refine lv_iadd hx hb dL_law_507 ?_
  obtain ⟨y107, ey107, h⟩ := bd_in h
  refine slR hx hb hX hbl hbA hS ey107 dL_law_508 ?_
  obtain ⟨u108, eu108, h⟩ := bd_in h
  refine kI (va_runV (As := [.int y106, .int y107]) (rest := []) ⟨hx, hb, hml, hown, hts⟩ (c_X4_lot l D cA cQ adF adB adT adH kH adR adO vB vT vH bH vR vO y106 y107 u108 eu108 _) (cwV 2 hts gL_law_X4_lot rfl rfl rfl (by decide +kernel) ⟨Nat.le_of_ble_eq_true rfl, Nat.le_of_ble_eq_true rfl⟩) (pV (ci := 4) (q := (RX4, TX4, 5)) hK hN hP hD [0, 1, 2, 3, 4, 5, 6, 7, 8, 9, 10, 11, 12, 13, 14, 15, 16, 17, 18, 19, 20, 21, 22, 23, 24, 25, 26, 27, 28, 29, 30, 31, 32, 33, 34, 35, 36, 37, 38, 39, 40, 41, 42, 43, 44, 45, 46, 47, 48, 49, 50, 51, 52, 53, 54, 55, 56, 57, 58, 59, 60, 61, 62, 63, 64, 65, 66, 67, 68, 69, 70, 71, 72, 73, 74, 75, 76, 77, 78, 79, 80, 81, 82, 83, 84, 85, 86, 87, 88, 89, 90, 91, 92, 93, 94] rfl rfl rfl rfl) rfl rfl hl.1 rfl (lv_room (Nat.le_of_ble_eq_true rfl)) dL_law_509 ⟨Nat.le_of_ble_eq_true rfl, Nat.le_of_ble_eq_true rfl⟩) hP hD hS hA [0, 1, 2, 3, 4, 5, 6, 7, 8, 9, 10, 11, 12, 13, 14, 15, 16, 17, 18, 19, 20, 21, 22, 23, 24, 25, 26, 27, 28, 29, 30, 31, 32, 33, 34, 35, 36, 37, 38, 39, 40, 41, 42, 43, 44, 45, 46, 47, 48, 49, 50, 51, 52, 53, 54, 55, 56, 57, 58, 59, 60, 61, 62, 63, 64, 65, 66, 67, 68, 69, 70, 71, 72, 73, 74, 75, 76, 77, 78, 79, 80, 81, 82, 83, 84, 85, 86, 87, 88, 89, 90, 91, 92, 93, 94] rfl rfl (ws' := (wF cA cQ adF adB adT adH kH adR adO vB vT vH bH vR vO ++ wM cA adM vM)) rfl (fun H locs hP hD hS => ?_)
  refine lv_aload_n hx hb dL_law_512 rfl (lv_at hl 2 rfl) ?_
  refine lv_aload_n hx hb dL_law_513 rfl (lv_at hl 0 rfl) ?_
  refine lv_iload_n hx hb dL_law_514 rfl (lv_at hl 3 rfl) ?_
  refine lv_iconst (v := (1 : Int32)) hx hb dL_law_515 (by decide) ?_
  refine lv_iadd hx hb dL_law_516 ?_
  obtain ⟨y109, ey109, h⟩ := bd_in h
  refine slR hx hb hX hbl hbA hS ey109 dL_law_517 ?_
  refine lv_aload_n hx hb dL_law_518 rfl (lv_at hl 0 rfl) ?_
  refine lv_iload_n hx hb dL_law_519 rfl (lv_at hl 3 rfl) ?_
  refine lv_iconst (v := (2 : Int32)) hx hb dL_law_520 (by decide) ?_
  refine lv_iadd hx hb dL_law_521 ?_
  obtain ⟨y110, ey110, h⟩ := bd_in h
  refine slR hx hb hX hbl hbA hS ey110 dL_law_522 ?_
  obtain ⟨u111, eu111, h⟩ := bd_in h
  refine kI (va_runV (As := [.int y109, .int y110]) (rest := [.int u108]) ⟨hx, hb, hml, hown, hts⟩ (c_X5_lot l D cA cQ adM vM y109 y110 u111 eu111 _) (cwV 2 hts gL_law_X5_lot rfl rfl rfl (by decide +kernel) ⟨Nat.le_of_ble_eq_true rfl, Nat.le_of_ble_eq_true rfl⟩) (pV (ci := 5) (q := (RX5, TX5, 18)) hK hN hP hD [95, 96, 97, 98, 99, 100, 101, 102, 103, 104] rfl rfl rfl rfl) rfl rfl hl.1 rfl (lv_room (Nat.le_of_ble_eq_true rfl)) dL_law_523 ⟨Nat.le_of_ble_eq_true rfl, Nat.le_of_ble_eq_true rfl⟩) hP hD hS hA [95, 96, 97, 98, 99, 100, 101, 102, 103, 104] rfl rfl (ws' := (wF cA cQ adF adB adT adH kH adR adO vB vT vH bH vR vO ++ wM cA adM vM)) rfl (fun H locs hP hD hS => ?_)
  refine lv_icmp_eq (tgt := 886) hx hb dL_law_526 (by decide) (fun c112 => ?_) (fun c112 => ?_)
  · have h := (if_pos c112).symm.trans h
    refine lv_iinc (v := (x3 + (5 : Int32))) (lv' := [(3, .int (x3 + (5 : Int32))), (0, .ref b), (1, .ref adF), (2, .ref (adM 0))]) hx hb dL_law_886 hl (k := 3) rfl rfl (by decide) rfl (fun ls hl => ?_)
    refine lv_goto (tgt := 18) hx hb dL_law_889 (by decide) ?_
    exact ih18 vB vT vH bH vR vO vM (x3 + (5 : Int32)) _ _ _ h hP hD hS (lv_sub hl [1, 2, 3, 0] rfl)
  · have h := (if_neg c112).symm.trans h
    refine lv_iconst (v := (0 : Int32)) hx hb dL_law_529 (by decide) ?_
    exact absurd h (by decide)
set_option maxHeartbeats 8000000 in
set_option maxRecDepth 100000 in
theorem law_b455 {p : Program} {l : Launch} {e : Env} {s : State} {m : MethodId} {below : List Frame} {meth : Method} {c : Code} {D : va_G} {cA cQ : ClassId} {b n0 : Nat} {xs : Nat → Int32} (C0 : lw_At p s m meth c b n0 xs) (hK : va_K D vwCl (TY cA cQ) s) (adF : Nat) (adB adT adH : Nat → Nat) (kH : Nat → Nat → Nat) (adR adO adM : Nat → Nat) (k18 : St → St → St → (Nat → St) → St → St → St → Int32 → Option Int32) (ih18 : ∀ (vB : St) (vT : St) (vH : St) (bH : Nat → St) (vR : St) (vO : St) (vM : St) (x3 : Int32) (H : Heap) (locs : List Loc) (ls : Array Slot), k18 vB vT vH bH vR vO vM x3 = some 1 → va_P D vwCl (wF cA cQ adF adB adT adH kH adR adO vB vT vH bH vR vO ++ wM cA adM vM) H → va_D (fun q : Nat => s.heap.size ≤ q) (wF cA cQ adF adB adT adH kH adR adO vB vT vH bH vR vO ++ wM cA adM vM) → va_S (fun q : Nat => s.heap.size ≤ q) s.heap H locs → lv_has ls 4 [(0, .ref b), (1, .ref adF), (2, .ref (adM 0)), (3, .int x3)] → W p l e room_1 s m #[Value.ref b] below meth c H locs 600000 7302250 (lw_Z below #[Value.ref b] s) (F0 m 18 ls [])) : ∀ (vB : St) (vT : St) (vH : St) (bH : Nat → St) (vR : St) (vO : St) (vM : St) (x3 : Int32) (H : Heap) (locs : List Loc) (ls : Array Slot), L_law_b455 xs n0 k18 vB vT vH bH vR vO vM x3 = some 1 → va_P D vwCl (wF cA cQ adF adB adT adH kH adR adO vB vT vH bH vR vO ++ wM cA adM vM) H → va_D (fun q : Nat => s.heap.size ≤ q) (wF cA cQ adF adB adT adH kH adR adO vB vT vH bH vR vO ++ wM cA adM vM) → va_S (fun q : Nat => s.heap.size ≤ q) s.heap H locs → lv_has ls 4 [(0, .ref b), (1, .ref adF), (2, .ref (adM 0)), (3, .int x3)] → W p l e room_1 s m #[Value.ref b] below meth c H locs 600000 7302250 (lw_Z below #[Value.ref b] s) (F0 m 455 ls []) := by
  have C1 := C0
  obtain ⟨hx, hb, hr, hml, hown, hts, hX, hbl, hlocks, hgv⟩ := C0
  have hts0 := hts
  have hN : NW s := lw_nw hts0
  have hts : ∀ w ∈ wsL_law, w.before #[Value.ref b] s = true := fun w h => hts0 w (wsL_law_in w h)
  have hown : s.vm.findClass RL = some m.cls := hown
  have hA : ∀ q : Nat, s.heap.size ≤ q → (fun q : Nat => s.heap.size ≤ q) q := fun _ h => h
  have hbA : ¬ (fun q : Nat => s.heap.size ≤ q) b := Nat.not_le.mpr hbl
  intro vB vT vH bH vR vO vM x3 H locs ls h hP hD hS hl
  unfold L_law_b455 at h
  refine lv_aload_n hx hb dL_law_455 rfl (lv_at hl 1 rfl) ?_
  refine lv_aload_n hx hb dL_law_456 rfl (lv_at hl 0 rfl) ?_
  refine lv_iload_n hx hb dL_law_457 rfl (lv_at hl 3 rfl) ?_
  refine lv_iconst (v := (1 : Int32)) hx hb dL_law_458 (by decide) ?_
  refine lv_iadd hx hb dL_law_459 ?_
  obtain ⟨y113, ey113, h⟩ := bd_in h
  refine slR hx hb hX hbl hbA hS ey113 dL_law_460 ?_
  refine lv_aload_n hx hb dL_law_461 rfl (lv_at hl 0 rfl) ?_
  refine lv_iload_n hx hb dL_law_462 rfl (lv_at hl 3 rfl) ?_
  refine lv_iconst (v := (2 : Int32)) hx hb dL_law_463 (by decide) ?_
  refine lv_iadd hx hb dL_law_464 ?_
  obtain ⟨y114, ey114, h⟩ := bd_in h
  refine slR hx hb hX hbl hbA hS ey114 dL_law_465 ?_
  refine lv_aload_n hx hb dL_law_466 rfl (lv_at hl 0 rfl) ?_
  refine lv_iload_n hx hb dL_law_467 rfl (lv_at hl 3 rfl) ?_
  refine lv_iconst (v := (3 : Int32)) hx hb dL_law_468 (by decide) ?_
  refine lv_iadd hx hb dL_law_469 ?_
  obtain ⟨y115, ey115, h⟩ := bd_in h
  refine slR hx hb hX hbl hbA hS ey115 dL_law_470 ?_
  obtain ⟨u116, eu116, h⟩ := bd_in h
  refine kI (va_runV (As := [.int y113, .int y114, .int y115]) (rest := []) ⟨hx, hb, hml, hown, hts⟩ (c_X4_owes l D cA cQ adF adB adT adH kH adR adO vB vT vH bH vR vO y113 y114 y115 u116 eu116 _) (cwV 3 hts gL_law_X4_owes rfl rfl rfl (by decide +kernel) ⟨Nat.le_of_ble_eq_true rfl, Nat.le_of_ble_eq_true rfl⟩) (pV (ci := 4) (q := (RX4, TX4, 5)) hK hN hP hD [0, 1, 2, 3, 4, 5, 6, 7, 8, 9, 10, 11, 12, 13, 14, 15, 16, 17, 18, 19, 20, 21, 22, 23, 24, 25, 26, 27, 28, 29, 30, 31, 32, 33, 34, 35, 36, 37, 38, 39, 40, 41, 42, 43, 44, 45, 46, 47, 48, 49, 50, 51, 52, 53, 54, 55, 56, 57, 58, 59, 60, 61, 62, 63, 64, 65, 66, 67, 68, 69, 70, 71, 72, 73, 74, 75, 76, 77, 78, 79, 80, 81, 82, 83, 84, 85, 86, 87, 88, 89, 90, 91, 92, 93, 94] rfl rfl rfl rfl) rfl rfl hl.1 rfl (lv_room (Nat.le_of_ble_eq_true rfl)) dL_law_471 ⟨Nat.le_of_ble_eq_true rfl, Nat.le_of_ble_eq_true rfl⟩) hP hD hS hA [0, 1, 2, 3, 4, 5, 6, 7, 8, 9, 10, 11, 12, 13, 14, 15, 16, 17, 18, 19, 20, 21, 22, 23, 24, 25, 26, 27, 28, 29, 30, 31, 32, 33, 34, 35, 36, 37, 38, 39, 40, 41, 42, 43, 44, 45, 46, 47, 48, 49, 50, 51, 52, 53, 54, 55, 56, 57, 58, 59, 60, 61, 62, 63, 64, 65, 66, 67, 68, 69, 70, 71, 72, 73, 74, 75, 76, 77, 78, 79, 80, 81, 82, 83, 84, 85, 86, 87, 88, 89, 90, 91, 92, 93, 94] rfl rfl (ws' := (wF cA cQ adF adB adT adH kH adR adO vB vT vH bH vR vO ++ wM cA adM vM)) rfl (fun H locs hP hD hS => ?_)
  refine lv_aload_n hx hb dL_law_474 rfl (lv_at hl 2 rfl) ?_
  refine lv_aload_n hx hb dL_law_475 rfl (lv_at hl 0 rfl) ?_
  refine lv_iload_n hx hb dL_law_476 rfl (lv_at hl 3 rfl) ?_
  refine lv_iconst (v := (1 : Int32)) hx hb dL_law_477 (by decide) ?_
  refine lv_iadd hx hb dL_law_478 ?_
  obtain ⟨y117, ey117, h⟩ := bd_in h
  refine slR hx hb hX hbl hbA hS ey117 dL_law_479 ?_
  refine lv_aload_n hx hb dL_law_480 rfl (lv_at hl 0 rfl) ?_
  refine lv_iload_n hx hb dL_law_481 rfl (lv_at hl 3 rfl) ?_
  refine lv_iconst (v := (2 : Int32)) hx hb dL_law_482 (by decide) ?_
  refine lv_iadd hx hb dL_law_483 ?_
  obtain ⟨y118, ey118, h⟩ := bd_in h
  refine slR hx hb hX hbl hbA hS ey118 dL_law_484 ?_
  refine lv_aload_n hx hb dL_law_485 rfl (lv_at hl 0 rfl) ?_
  refine lv_iload_n hx hb dL_law_486 rfl (lv_at hl 3 rfl) ?_
  refine lv_iconst (v := (3 : Int32)) hx hb dL_law_487 (by decide) ?_
  refine lv_iadd hx hb dL_law_488 ?_
  obtain ⟨y119, ey119, h⟩ := bd_in h
  refine slR hx hb hX hbl hbA hS ey119 dL_law_489 ?_
  obtain ⟨u120, eu120, h⟩ := bd_in h
  refine kI (va_runV (As := [.int y117, .int y118, .int y119]) (rest := [.int u116]) ⟨hx, hb, hml, hown, hts⟩ (c_X5_owes l D cA cQ adM vM y117 y118 y119 u120 eu120 _) (cwV 3 hts gL_law_X5_owes rfl rfl rfl (by decide +kernel) ⟨Nat.le_of_ble_eq_true rfl, Nat.le_of_ble_eq_true rfl⟩) (pV (ci := 5) (q := (RX5, TX5, 18)) hK hN hP hD [95, 96, 97, 98, 99, 100, 101, 102, 103, 104] rfl rfl rfl rfl) rfl rfl hl.1 rfl (lv_room (Nat.le_of_ble_eq_true rfl)) dL_law_490 ⟨Nat.le_of_ble_eq_true rfl, Nat.le_of_ble_eq_true rfl⟩) hP hD hS hA [95, 96, 97, 98, 99, 100, 101, 102, 103, 104] rfl rfl (ws' := (wF cA cQ adF adB adT adH kH adR adO vB vT vH bH vR vO ++ wM cA adM vM)) rfl (fun H locs hP hD hS => ?_)
  refine lv_icmp_eq (tgt := 886) hx hb dL_law_493 (by decide) (fun c121 => ?_) (fun c121 => ?_)
  · have h := (if_pos c121).symm.trans h
    refine lv_iinc (v := (x3 + (5 : Int32))) (lv' := [(3, .int (x3 + (5 : Int32))), (0, .ref b), (1, .ref adF), (2, .ref (adM 0))]) hx hb dL_law_886 hl (k := 3) rfl rfl (by decide) rfl (fun ls hl => ?_)
    refine lv_goto (tgt := 18) hx hb dL_law_889 (by decide) ?_
    exact ih18 vB vT vH bH vR vO vM (x3 + (5 : Int32)) _ _ _ h hP hD hS (lv_sub hl [1, 2, 3, 0] rfl)
  · have h := (if_neg c121).symm.trans h
    refine lv_iconst (v := (0 : Int32)) hx hb dL_law_496 (by decide) ?_
    exact absurd h (by decide)
set_option maxHeartbeats 8000000 in
set_option maxRecDepth 100000 in
theorem law_b422 {p : Program} {l : Launch} {e : Env} {s : State} {m : MethodId} {below : List Frame} {meth : Method} {c : Code} {D : va_G} {cA cQ : ClassId} {b n0 : Nat} {xs : Nat → Int32} (C0 : lw_At p s m meth c b n0 xs) (hK : va_K D vwCl (TY cA cQ) s) (adF : Nat) (adB adT adH : Nat → Nat) (kH : Nat → Nat → Nat) (adR adO adM : Nat → Nat) (k18 : St → St → St → (Nat → St) → St → St → St → Int32 → Option Int32) (ih18 : ∀ (vB : St) (vT : St) (vH : St) (bH : Nat → St) (vR : St) (vO : St) (vM : St) (x3 : Int32) (H : Heap) (locs : List Loc) (ls : Array Slot), k18 vB vT vH bH vR vO vM x3 = some 1 → va_P D vwCl (wF cA cQ adF adB adT adH kH adR adO vB vT vH bH vR vO ++ wM cA adM vM) H → va_D (fun q : Nat => s.heap.size ≤ q) (wF cA cQ adF adB adT adH kH adR adO vB vT vH bH vR vO ++ wM cA adM vM) → va_S (fun q : Nat => s.heap.size ≤ q) s.heap H locs → lv_has ls 4 [(0, .ref b), (1, .ref adF), (2, .ref (adM 0)), (3, .int x3)] → W p l e room_1 s m #[Value.ref b] below meth c H locs 600000 7302250 (lw_Z below #[Value.ref b] s) (F0 m 18 ls [])) : ∀ (vB : St) (vT : St) (vH : St) (bH : Nat → St) (vR : St) (vO : St) (vM : St) (x3 : Int32) (H : Heap) (locs : List Loc) (ls : Array Slot), L_law_b422 xs n0 k18 vB vT vH bH vR vO vM x3 = some 1 → va_P D vwCl (wF cA cQ adF adB adT adH kH adR adO vB vT vH bH vR vO ++ wM cA adM vM) H → va_D (fun q : Nat => s.heap.size ≤ q) (wF cA cQ adF adB adT adH kH adR adO vB vT vH bH vR vO ++ wM cA adM vM) → va_S (fun q : Nat => s.heap.size ≤ q) s.heap H locs → lv_has ls 4 [(0, .ref b), (1, .ref adF), (2, .ref (adM 0)), (3, .int x3)] → W p l e room_1 s m #[Value.ref b] below meth c H locs 600000 7302250 (lw_Z below #[Value.ref b] s) (F0 m 422 ls []) := by
  have C1 := C0
  obtain ⟨hx, hb, hr, hml, hown, hts, hX, hbl, hlocks, hgv⟩ := C0
  have hts0 := hts
  have hN : NW s := lw_nw hts0
  have hts : ∀ w ∈ wsL_law, w.before #[Value.ref b] s = true := fun w h => hts0 w (wsL_law_in w h)
  have hown : s.vm.findClass RL = some m.cls := hown
  have hA : ∀ q : Nat, s.heap.size ≤ q → (fun q : Nat => s.heap.size ≤ q) q := fun _ h => h
  have hbA : ¬ (fun q : Nat => s.heap.size ≤ q) b := Nat.not_le.mpr hbl
  intro vB vT vH bH vR vO vM x3 H locs ls h hP hD hS hl
  unfold L_law_b422 at h
  refine lv_aload_n hx hb dL_law_422 rfl (lv_at hl 1 rfl) ?_
  refine lv_aload_n hx hb dL_law_423 rfl (lv_at hl 0 rfl) ?_
  refine lv_iload_n hx hb dL_law_424 rfl (lv_at hl 3 rfl) ?_
  refine lv_iconst (v := (1 : Int32)) hx hb dL_law_425 (by decide) ?_
  refine lv_iadd hx hb dL_law_426 ?_
  obtain ⟨y122, ey122, h⟩ := bd_in h
  refine slR hx hb hX hbl hbA hS ey122 dL_law_427 ?_
  refine lv_aload_n hx hb dL_law_428 rfl (lv_at hl 0 rfl) ?_
  refine lv_iload_n hx hb dL_law_429 rfl (lv_at hl 3 rfl) ?_
  refine lv_iconst (v := (2 : Int32)) hx hb dL_law_430 (by decide) ?_
  refine lv_iadd hx hb dL_law_431 ?_
  obtain ⟨y123, ey123, h⟩ := bd_in h
  refine slR hx hb hX hbl hbA hS ey123 dL_law_432 ?_
  obtain ⟨u124, eu124, h⟩ := bd_in h
  refine kI (va_runV (As := [.int y122, .int y123]) (rest := []) ⟨hx, hb, hml, hown, hts⟩ (c_X4_pupilOf l D cA cQ adF adB adT adH kH adR adO vB vT vH bH vR vO y122 y123 u124 eu124 _) (cwV 2 hts gL_law_X4_pupilOf rfl rfl rfl (by decide +kernel) ⟨Nat.le_of_ble_eq_true rfl, Nat.le_of_ble_eq_true rfl⟩) (pV (ci := 4) (q := (RX4, TX4, 5)) hK hN hP hD [0, 1, 2, 3, 4, 5, 6, 7, 8, 9, 10, 11, 12, 13, 14, 15, 16, 17, 18, 19, 20, 21, 22, 23, 24, 25, 26, 27, 28, 29, 30, 31, 32, 33, 34, 35, 36, 37, 38, 39, 40, 41, 42, 43, 44, 45, 46, 47, 48, 49, 50, 51, 52, 53, 54, 55, 56, 57, 58, 59, 60, 61, 62, 63, 64, 65, 66, 67, 68, 69, 70, 71, 72, 73, 74, 75, 76, 77, 78, 79, 80, 81, 82, 83, 84, 85, 86, 87, 88, 89, 90, 91, 92, 93, 94] rfl rfl rfl rfl) rfl rfl hl.1 rfl (lv_room (Nat.le_of_ble_eq_true rfl)) dL_law_433 ⟨Nat.le_of_ble_eq_true rfl, Nat.le_of_ble_eq_true rfl⟩) hP hD hS hA [0, 1, 2, 3, 4, 5, 6, 7, 8, 9, 10, 11, 12, 13, 14, 15, 16, 17, 18, 19, 20, 21, 22, 23, 24, 25, 26, 27, 28, 29, 30, 31, 32, 33, 34, 35, 36, 37, 38, 39, 40, 41, 42, 43, 44, 45, 46, 47, 48, 49, 50, 51, 52, 53, 54, 55, 56, 57, 58, 59, 60, 61, 62, 63, 64, 65, 66, 67, 68, 69, 70, 71, 72, 73, 74, 75, 76, 77, 78, 79, 80, 81, 82, 83, 84, 85, 86, 87, 88, 89, 90, 91, 92, 93, 94] rfl rfl (ws' := (wF cA cQ adF adB adT adH kH adR adO vB vT vH bH vR vO ++ wM cA adM vM)) rfl (fun H locs hP hD hS => ?_)
  refine lv_aload_n hx hb dL_law_436 rfl (lv_at hl 2 rfl) ?_
  refine lv_aload_n hx hb dL_law_437 rfl (lv_at hl 0 rfl) ?_
  refine lv_iload_n hx hb dL_law_438 rfl (lv_at hl 3 rfl) ?_
  refine lv_iconst (v := (1 : Int32)) hx hb dL_law_439 (by decide) ?_
  refine lv_iadd hx hb dL_law_440 ?_
  obtain ⟨y125, ey125, h⟩ := bd_in h
  refine slR hx hb hX hbl hbA hS ey125 dL_law_441 ?_
  refine lv_aload_n hx hb dL_law_442 rfl (lv_at hl 0 rfl) ?_
  refine lv_iload_n hx hb dL_law_443 rfl (lv_at hl 3 rfl) ?_
  refine lv_iconst (v := (2 : Int32)) hx hb dL_law_444 (by decide) ?_
  refine lv_iadd hx hb dL_law_445 ?_
  obtain ⟨y126, ey126, h⟩ := bd_in h
  refine slR hx hb hX hbl hbA hS ey126 dL_law_446 ?_
  obtain ⟨u127, eu127, h⟩ := bd_in h
  refine kI (va_runV (As := [.int y125, .int y126]) (rest := [.int u124]) ⟨hx, hb, hml, hown, hts⟩ (c_X5_pupilOf l D cA cQ adM vM y125 y126 u127 eu127 _) (cwV 2 hts gL_law_X5_pupilOf rfl rfl rfl (by decide +kernel) ⟨Nat.le_of_ble_eq_true rfl, Nat.le_of_ble_eq_true rfl⟩) (pV (ci := 5) (q := (RX5, TX5, 18)) hK hN hP hD [95, 96, 97, 98, 99, 100, 101, 102, 103, 104] rfl rfl rfl rfl) rfl rfl hl.1 rfl (lv_room (Nat.le_of_ble_eq_true rfl)) dL_law_447 ⟨Nat.le_of_ble_eq_true rfl, Nat.le_of_ble_eq_true rfl⟩) hP hD hS hA [95, 96, 97, 98, 99, 100, 101, 102, 103, 104] rfl rfl (ws' := (wF cA cQ adF adB adT adH kH adR adO vB vT vH bH vR vO ++ wM cA adM vM)) rfl (fun H locs hP hD hS => ?_)
  refine lv_icmp_eq (tgt := 886) hx hb dL_law_450 (by decide) (fun c128 => ?_) (fun c128 => ?_)
  · have h := (if_pos c128).symm.trans h
    refine lv_iinc (v := (x3 + (5 : Int32))) (lv' := [(3, .int (x3 + (5 : Int32))), (0, .ref b), (1, .ref adF), (2, .ref (adM 0))]) hx hb dL_law_886 hl (k := 3) rfl rfl (by decide) rfl (fun ls hl => ?_)
    refine lv_goto (tgt := 18) hx hb dL_law_889 (by decide) ?_
    exact ih18 vB vT vH bH vR vO vM (x3 + (5 : Int32)) _ _ _ h hP hD hS (lv_sub hl [1, 2, 3, 0] rfl)
  · have h := (if_neg c128).symm.trans h
    refine lv_iconst (v := (0 : Int32)) hx hb dL_law_453 (by decide) ?_
    exact absurd h (by decide)
set_option maxHeartbeats 8000000 in
set_option maxRecDepth 100000 in
theorem law_b389 {p : Program} {l : Launch} {e : Env} {s : State} {m : MethodId} {below : List Frame} {meth : Method} {c : Code} {D : va_G} {cA cQ : ClassId} {b n0 : Nat} {xs : Nat → Int32} (C0 : lw_At p s m meth c b n0 xs) (hK : va_K D vwCl (TY cA cQ) s) (adF : Nat) (adB adT adH : Nat → Nat) (kH : Nat → Nat → Nat) (adR adO adM : Nat → Nat) (k18 : St → St → St → (Nat → St) → St → St → St → Int32 → Option Int32) (ih18 : ∀ (vB : St) (vT : St) (vH : St) (bH : Nat → St) (vR : St) (vO : St) (vM : St) (x3 : Int32) (H : Heap) (locs : List Loc) (ls : Array Slot), k18 vB vT vH bH vR vO vM x3 = some 1 → va_P D vwCl (wF cA cQ adF adB adT adH kH adR adO vB vT vH bH vR vO ++ wM cA adM vM) H → va_D (fun q : Nat => s.heap.size ≤ q) (wF cA cQ adF adB adT adH kH adR adO vB vT vH bH vR vO ++ wM cA adM vM) → va_S (fun q : Nat => s.heap.size ≤ q) s.heap H locs → lv_has ls 4 [(0, .ref b), (1, .ref adF), (2, .ref (adM 0)), (3, .int x3)] → W p l e room_1 s m #[Value.ref b] below meth c H locs 600000 7302250 (lw_Z below #[Value.ref b] s) (F0 m 18 ls [])) : ∀ (vB : St) (vT : St) (vH : St) (bH : Nat → St) (vR : St) (vO : St) (vM : St) (x3 : Int32) (H : Heap) (locs : List Loc) (ls : Array Slot), L_law_b389 xs n0 k18 vB vT vH bH vR vO vM x3 = some 1 → va_P D vwCl (wF cA cQ adF adB adT adH kH adR adO vB vT vH bH vR vO ++ wM cA adM vM) H → va_D (fun q : Nat => s.heap.size ≤ q) (wF cA cQ adF adB adT adH kH adR adO vB vT vH bH vR vO ++ wM cA adM vM) → va_S (fun q : Nat => s.heap.size ≤ q) s.heap H locs → lv_has ls 4 [(0, .ref b), (1, .ref adF), (2, .ref (adM 0)), (3, .int x3)] → W p l e room_1 s m #[Value.ref b] below meth c H locs 600000 7302250 (lw_Z below #[Value.ref b] s) (F0 m 389 ls []) := by
  have C1 := C0
  obtain ⟨hx, hb, hr, hml, hown, hts, hX, hbl, hlocks, hgv⟩ := C0
  have hts0 := hts
  have hN : NW s := lw_nw hts0
  have hts : ∀ w ∈ wsL_law, w.before #[Value.ref b] s = true := fun w h => hts0 w (wsL_law_in w h)
  have hown : s.vm.findClass RL = some m.cls := hown
  have hA : ∀ q : Nat, s.heap.size ≤ q → (fun q : Nat => s.heap.size ≤ q) q := fun _ h => h
  have hbA : ¬ (fun q : Nat => s.heap.size ≤ q) b := Nat.not_le.mpr hbl
  intro vB vT vH bH vR vO vM x3 H locs ls h hP hD hS hl
  unfold L_law_b389 at h
  refine lv_aload_n hx hb dL_law_389 rfl (lv_at hl 1 rfl) ?_
  refine lv_aload_n hx hb dL_law_390 rfl (lv_at hl 0 rfl) ?_
  refine lv_iload_n hx hb dL_law_391 rfl (lv_at hl 3 rfl) ?_
  refine lv_iconst (v := (1 : Int32)) hx hb dL_law_392 (by decide) ?_
  refine lv_iadd hx hb dL_law_393 ?_
  obtain ⟨y129, ey129, h⟩ := bd_in h
  refine slR hx hb hX hbl hbA hS ey129 dL_law_394 ?_
  refine lv_aload_n hx hb dL_law_395 rfl (lv_at hl 0 rfl) ?_
  refine lv_iload_n hx hb dL_law_396 rfl (lv_at hl 3 rfl) ?_
  refine lv_iconst (v := (2 : Int32)) hx hb dL_law_397 (by decide) ?_
  refine lv_iadd hx hb dL_law_398 ?_
  obtain ⟨y130, ey130, h⟩ := bd_in h
  refine slR hx hb hX hbl hbA hS ey130 dL_law_399 ?_
  obtain ⟨u131, eu131, h⟩ := bd_in h
  refine kI (va_runV (As := [.int y129, .int y130]) (rest := []) ⟨hx, hb, hml, hown, hts⟩ (c_X4_set l D cA cQ adF adB adT adH kH adR adO vB vT vH bH vR vO y129 y130 u131 eu131 _) (cwV 2 hts gL_law_X4_set rfl rfl rfl (by decide +kernel) ⟨Nat.le_of_ble_eq_true rfl, Nat.le_of_ble_eq_true rfl⟩) (pV (ci := 4) (q := (RX4, TX4, 5)) hK hN hP hD [0, 1, 2, 3, 4, 5, 6, 7, 8, 9, 10, 11, 12, 13, 14, 15, 16, 17, 18, 19, 20, 21, 22, 23, 24, 25, 26, 27, 28, 29, 30, 31, 32, 33, 34, 35, 36, 37, 38, 39, 40, 41, 42, 43, 44, 45, 46, 47, 48, 49, 50, 51, 52, 53, 54, 55, 56, 57, 58, 59, 60, 61, 62, 63, 64, 65, 66, 67, 68, 69, 70, 71, 72, 73, 74, 75, 76, 77, 78, 79, 80, 81, 82, 83, 84, 85, 86, 87, 88, 89, 90, 91, 92, 93, 94] rfl rfl rfl rfl) rfl rfl hl.1 rfl (lv_room (Nat.le_of_ble_eq_true rfl)) dL_law_400 ⟨Nat.le_of_ble_eq_true rfl, Nat.le_of_ble_eq_true rfl⟩) hP hD hS hA [0, 1, 2, 3, 4, 5, 6, 7, 8, 9, 10, 11, 12, 13, 14, 15, 16, 17, 18, 19, 20, 21, 22, 23, 24, 25, 26, 27, 28, 29, 30, 31, 32, 33, 34, 35, 36, 37, 38, 39, 40, 41, 42, 43, 44, 45, 46, 47, 48, 49, 50, 51, 52, 53, 54, 55, 56, 57, 58, 59, 60, 61, 62, 63, 64, 65, 66, 67, 68, 69, 70, 71, 72, 73, 74, 75, 76, 77, 78, 79, 80, 81, 82, 83, 84, 85, 86, 87, 88, 89, 90, 91, 92, 93, 94] rfl rfl (ws' := (wF cA cQ adF adB adT adH kH adR adO u131.2.1 u131.2.2.1 u131.2.2.2.1 u131.2.2.2.2 vR vO ++ wM cA adM vM)) rfl (fun H locs hP hD hS => ?_)
  refine lv_aload_n hx hb dL_law_403 rfl (lv_at hl 2 rfl) ?_
  refine lv_aload_n hx hb dL_law_404 rfl (lv_at hl 0 rfl) ?_
  refine lv_iload_n hx hb dL_law_405 rfl (lv_at hl 3 rfl) ?_
  refine lv_iconst (v := (1 : Int32)) hx hb dL_law_406 (by decide) ?_
  refine lv_iadd hx hb dL_law_407 ?_
  obtain ⟨y132, ey132, h⟩ := bd_in h
  refine slR hx hb hX hbl hbA hS ey132 dL_law_408 ?_
  refine lv_aload_n hx hb dL_law_409 rfl (lv_at hl 0 rfl) ?_
  refine lv_iload_n hx hb dL_law_410 rfl (lv_at hl 3 rfl) ?_
  refine lv_iconst (v := (2 : Int32)) hx hb dL_law_411 (by decide) ?_
  refine lv_iadd hx hb dL_law_412 ?_
  obtain ⟨y133, ey133, h⟩ := bd_in h
  refine slR hx hb hX hbl hbA hS ey133 dL_law_413 ?_
  obtain ⟨u134, eu134, h⟩ := bd_in h
  refine kI (va_runV (As := [.int y132, .int y133]) (rest := [.int u131.1]) ⟨hx, hb, hml, hown, hts⟩ (c_X5_set l D cA cQ adM vM y132 y133 u134 eu134 _) (cwV 2 hts gL_law_X5_set rfl rfl rfl (by decide +kernel) ⟨Nat.le_of_ble_eq_true rfl, Nat.le_of_ble_eq_true rfl⟩) (pV (ci := 5) (q := (RX5, TX5, 18)) hK hN hP hD [95, 96, 97, 98, 99, 100, 101, 102, 103, 104] rfl rfl rfl rfl) rfl rfl hl.1 rfl (lv_room (Nat.le_of_ble_eq_true rfl)) dL_law_414 ⟨Nat.le_of_ble_eq_true rfl, Nat.le_of_ble_eq_true rfl⟩) hP hD hS hA [95, 96, 97, 98, 99, 100, 101, 102, 103, 104] rfl rfl (ws' := (wF cA cQ adF adB adT adH kH adR adO u131.2.1 u131.2.2.1 u131.2.2.2.1 u131.2.2.2.2 vR vO ++ wM cA adM u134.2)) rfl (fun H locs hP hD hS => ?_)
  refine lv_icmp_eq (tgt := 886) hx hb dL_law_417 (by decide) (fun c135 => ?_) (fun c135 => ?_)
  · have h := (if_pos c135).symm.trans h
    refine lv_iinc (v := (x3 + (5 : Int32))) (lv' := [(3, .int (x3 + (5 : Int32))), (0, .ref b), (1, .ref adF), (2, .ref (adM 0))]) hx hb dL_law_886 hl (k := 3) rfl rfl (by decide) rfl (fun ls hl => ?_)
    refine lv_goto (tgt := 18) hx hb dL_law_889 (by decide) ?_
    exact ih18 u131.2.1 u131.2.2.1 u131.2.2.2.1 u131.2.2.2.2 vR vO u134.2 (x3 + (5 : Int32)) _ _ _ h hP hD hS (lv_sub hl [1, 2, 3, 0] rfl)
  · have h := (if_neg c135).symm.trans h
    refine lv_iconst (v := (0 : Int32)) hx hb dL_law_420 (by decide) ?_
    exact absurd h (by decide)

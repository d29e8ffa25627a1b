set_option maxHeartbeats 8000000 in
set_option maxRecDepth 100000 in
theorem law_b873 {p : Program} {l : Launch} {e : Env} {s : State} {m : MethodId} {below : List Frame} {meth : Method} {c : Code} {D : va_G} {cA cQ : ClassId} {b n0 : Nat} {xs : Nat → Int32} (C0 : lw_At p s m meth c b n0 xs) (hK : va_K D vwCl (TY cA cQ) s) (adF : Nat) (adB adT adH : Nat → Nat) (kH : Nat → Nat → Nat) (adR adO adM : Nat → Nat) (k18 : St → St → St → (Nat → St) → St → St → St → Int32 → Option Int32) (ih18 : ∀ (vB : St) (vT : St) (vH : St) (bH : Nat → St) (vR : St) (vO : St) (vM : St) (x3 : Int32) (H : Heap) (locs : List Loc) (ls : Array Slot), k18 vB vT vH bH vR vO vM x3 = some 1 → va_P D vwCl (wF cA cQ adF adB adT adH kH adR adO vB vT vH bH vR vO ++ wM cA adM vM) H → va_D (fun q : Nat => s.heap.size ≤ q) (wF cA cQ adF adB adT adH kH adR adO vB vT vH bH vR vO ++ wM cA adM vM) → va_S (fun q : Nat => s.heap.size ≤ q) s.heap H locs → lv_has ls 4 [(0, .ref b), (1, .ref adF), (2, .ref (adM 0)), (3, .int x3)] → W p l e room_1 s m #[Value.ref b] below meth c H locs 600000 7302250 (lw_Z below #[Value.ref b] s) (F0 m 18 ls [])) : ∀ (vB : St) (vT : St) (vH : St) (bH : Nat → St) (vR : St) (vO : St) (vM : St) (x3 : Int32) (H : Heap) (locs : List Loc) (ls : Array Slot), L_law_b873 xs n0 k18 vB vT vH bH vR vO vM x3 = some 1 → va_P D vwCl (wF cA cQ adF adB adT adH kH adR adO vB vT vH bH vR vO ++ wM cA adM vM) H → va_D (fun q : Nat => s.heap.size ≤ q) (wF cA cQ adF adB adT adH kH adR adO vB vT vH bH vR vO ++ wM cA adM vM) → va_S (fun q : Nat => s.heap.size ≤ q) s.heap H locs → lv_has ls 4 [(0, .ref b), (1, .ref adF), (2, .ref (adM 0)), (3, .int x3)] → W p l e room_1 s m #[Value.ref b] below meth c H locs 600000 7302250 (lw_Z below #[Value.ref b] s) (F0 m 873 ls []) := by
  have C1 := C0
  obtain ⟨hx, hb, hr, hml, hown, hts, hX, hbl, hlocks, hgv⟩ := C0
  have hts0 := hts
  have hN : NW s := lw_nw hts0
  have hts : ∀ w ∈ wsL_law, w.before #[Value.ref b] s = true := fun w h => hts0 w (wsL_law_in w h)
  have hown : s.vm.findClass RL = some m.cls := hown
  have hA : ∀ q : Nat, s.heap.size ≤ q → (fun q : Nat => s.heap.size ≤ q) q := fun _ h => h
  have hbA : ¬ (fun q : Nat => s.heap.size ≤ q) b := Nat.not_le.mpr hbl
  intro vB vT vH bH vR vO vM x3 H locs ls h hP hD hS hl
  unfold L_law_b873 at h
  refine lv_aload_n hx hb dL_law_873 rfl (lv_at hl 1 rfl) ?_
  obtain ⟨u29, eu29, h⟩ := bd_in h
  refine kI (va_runV (As := []) (rest := []) ⟨hx, hb, hml, hown, hts⟩ (c_X4_play l D cA cQ adF adB adT adH kH adR adO vB vT vH bH vR vO u29 eu29 _) (cwV 0 hts gL_law_X4_play rfl rfl rfl (by decide +kernel) ⟨Nat.le_of_ble_eq_true rfl, Nat.le_of_ble_eq_true rfl⟩) (pV (ci := 4) (q := (RX4, TX4, 5)) hK hN hP hD [0, 1, 2, 3, 4, 5, 6, 7, 8, 9, 10, 11, 12, 13, 14, 15, 16, 17, 18, 19, 20, 21, 22, 23, 24, 25, 26, 27, 28, 29, 30, 31, 32, 33, 34, 35, 36, 37, 38, 39, 40, 41, 42, 43, 44, 45, 46, 47, 48, 49, 50, 51, 52, 53, 54, 55, 56, 57, 58, 59, 60, 61, 62, 63, 64, 65, 66, 67, 68, 69, 70, 71, 72, 73, 74, 75, 76, 77, 78, 79, 80, 81, 82, 83, 84, 85, 86, 87, 88, 89, 90, 91, 92, 93, 94] rfl rfl rfl rfl) rfl rfl hl.1 rfl (lv_room (Nat.le_of_ble_eq_true rfl)) dL_law_874 ⟨Nat.le_of_ble_eq_true rfl, Nat.le_of_ble_eq_true rfl⟩) hP hD hS hA [0, 1, 2, 3, 4, 5, 6, 7, 8, 9, 10, 11, 12, 13, 14, 15, 16, 17, 18, 19, 20, 21, 22, 23, 24, 25, 26, 27, 28, 29, 30, 31, 32, 33, 34, 35, 36, 37, 38, 39, 40, 41, 42, 43, 44, 45, 46, 47, 48, 49, 50, 51, 52, 53, 54, 55, 56, 57, 58, 59, 60, 61, 62, 63, 64, 65, 66, 67, 68, 69, 70, 71, 72, 73, 74, 75, 76, 77, 78, 79, 80, 81, 82, 83, 84, 85, 86, 87, 88, 89, 90, 91, 92, 93, 94] rfl rfl (ws' := (wF cA cQ adF adB adT adH kH adR adO u29.2.1 u29.2.2.1 u29.2.2.2.1 u29.2.2.2.2.1 u29.2.2.2.2.2.1 u29.2.2.2.2.2.2 ++ wM cA adM vM)) rfl (fun H locs hP hD hS => ?_)
  refine lv_aload_n hx hb dL_law_877 rfl (lv_at hl 2 rfl) ?_
  obtain ⟨u30, eu30, h⟩ := bd_in h
  refine kI (va_runV (As := []) (rest := [.int u29.1]) ⟨hx, hb, hml, hown, hts⟩ (c_X5_play l D cA cQ adM vM u30 eu30 _) (cwV 0 hts gL_law_X5_play rfl rfl rfl (by decide +kernel) ⟨Nat.le_of_ble_eq_true rfl, Nat.le_of_ble_eq_true rfl⟩) (pV (ci := 5) (q := (RX5, TX5, 18)) hK hN hP hD [95, 96, 97, 98, 99, 100, 101, 102, 103, 104] rfl rfl rfl rfl) rfl rfl hl.1 rfl (lv_room (Nat.le_of_ble_eq_true rfl)) dL_law_878 ⟨Nat.le_of_ble_eq_true rfl, Nat.le_of_ble_eq_true rfl⟩) hP hD hS hA [95, 96, 97, 98, 99, 100, 101, 102, 103, 104] rfl rfl (ws' := (wF cA cQ adF adB adT adH kH adR adO u29.2.1 u29.2.2.1 u29.2.2.2.1 u29.2.2.2.2.1 u29.2.2.2.2.2.1 u29.2.2.2.2.2.2 ++ wM cA adM u30.2)) rfl (fun H locs hP hD hS => ?_)
  refine lv_icmp_eq (tgt := 886) hx hb dL_law_881 (by decide) (fun c31 => ?_) (fun c31 => ?_)
  · have h := (if_pos c31).symm.trans h
    refine lv_iinc (v := (x3 + (5 : Int32))) (lv' := [(3, .int (x3 + (5 : Int32))), (0, .ref b), (1, .ref adF), (2, .ref (adM 0))]) hx hb dL_law_886 hl (k := 3) rfl rfl (by decide) rfl (fun ls hl => ?_)
    refine lv_goto (tgt := 18) hx hb dL_law_889 (by decide) ?_
    exact ih18 u29.2.1 u29.2.2.1 u29.2.2.2.1 u29.2.2.2.2.1 u29.2.2.2.2.2.1 u29.2.2.2.2.2.2 u30.2 (x3 + (5 : Int32)) _ _ _ h hP hD hS (lv_sub hl [1, 2, 3, 0] rfl)
  · have h := (if_neg c31).symm.trans h
    refine lv_iconst (v := (0 : Int32)) hx hb dL_law_884 (by decide) ?_
    exact absurd h (by decide)
set_option maxHeartbeats 8000000 in
set_option maxRecDepth 100000 in
theorem law_b850 {p : Program} {l : Launch} {e : Env} {s : State} {m : MethodId} {below : List Frame} {meth : Method} {c : Code} {D : va_G} {cA cQ : ClassId} {b n0 : Nat} {xs : Nat → Int32} (C0 : lw_At p s m meth c b n0 xs) (hK : va_K D vwCl (TY cA cQ) s) (adF : Nat) (adB adT adH : Nat → Nat) (kH : Nat → Nat → Nat) (adR adO adM : Nat → Nat) (k18 : St → St → St → (Nat → St) → St → St → St → Int32 → Option Int32) (ih18 : ∀ (vB : St) (vT : St) (vH : St) (bH : Nat → St) (vR : St) (vO : St) (vM : St) (x3 : Int32) (H : Heap) (locs : List Loc) (ls : Array Slot), k18 vB vT vH bH vR vO vM x3 = some 1 → va_P D vwCl (wF cA cQ adF adB adT adH kH adR adO vB vT vH bH vR vO ++ wM cA adM vM) H → va_D (fun q : Nat => s.heap.size ≤ q) (wF cA cQ adF adB adT adH kH adR adO vB vT vH bH vR vO ++ wM cA adM vM) → va_S (fun q : Nat => s.heap.size ≤ q) s.heap H locs → lv_has ls 4 [(0, .ref b), (1, .ref adF), (2, .ref (adM 0)), (3, .int x3)] → W p l e room_1 s m #[Value.ref b] below meth c H locs 600000 7302250 (lw_Z below #[Value.ref b] s) (F0 m 18 ls [])) : ∀ (vB : St) (vT : St) (vH : St) (bH : Nat → St) (vR : St) (vO : St) (vM : St) (x3 : Int32) (H : Heap) (locs : List Loc) (ls : Array Slot), L_law_b850 xs n0 k18 vB vT vH bH vR vO vM x3 = some 1 → va_P D vwCl (wF cA cQ adF adB adT adH kH adR adO vB vT vH bH vR vO ++ wM cA adM vM) H → va_D (fun q : Nat => s.heap.size ≤ q) (wF cA cQ adF adB adT adH kH adR adO vB vT vH bH vR vO ++ wM cA adM vM) → va_S (fun q : Nat => s.heap.size ≤ q) s.heap H locs → lv_has ls 4 [(0, .ref b), (1, .ref adF), (2, .ref (adM 0)), (3, .int x3)] → W p l e room_1 s m #[Value.ref b] below meth c H locs 600000 7302250 (lw_Z below #[Value.ref b] s) (F0 m 850 ls []) := by
  have C1 := C0
  obtain ⟨hx, hb, hr, hml, hown, hts, hX, hbl, hlocks, hgv⟩ := C0
  have hts0 := hts
  have hN : NW s := lw_nw hts0
  have hts : ∀ w ∈ wsL_law, w.before #[Value.ref b] s = true := fun w h => hts0 w (wsL_law_in w h)
  have hown : s.vm.findClass RL = some m.cls := hown
  have hA : ∀ q : Nat, s.heap.size ≤ q → (fun q : Nat => s.heap.size ≤ q) q := fun _ h => h
  have hbA : ¬ (fun q : Nat => s.heap.size ≤ q) b := Nat.not_le.mpr hbl
  intro vB vT vH bH vR vO vM x3 H locs ls h hP hD hS hl
  unfold L_law_b850 at h
  refine lv_aload_n hx hb dL_law_850 rfl (lv_at hl 1 rfl) ?_
  refine lv_aload_n hx hb dL_law_851 rfl (lv_at hl 0 rfl) ?_
  refine lv_iload_n hx hb dL_law_852 rfl (lv_at hl 3 rfl) ?_
  refine lv_iconst (v := (1 : Int32)) hx hb dL_law_853 (by decide) ?_
  refine lv_iadd hx hb dL_law_854 ?_
  obtain ⟨y32, ey32, h⟩ := bd_in h
  refine slR hx hb hX hbl hbA hS ey32 dL_law_855 ?_
  obtain ⟨u33, eu33, h⟩ := bd_in h
  refine kI (va_runV (As := [.int y32]) (rest := []) ⟨hx, hb, hml, hown, hts⟩ (c_X4_fault l D cA cQ adF adB adT adH kH adR adO vB vT vH bH vR vO y32 u33 eu33 _) (cwV 1 hts gL_law_X4_fault rfl rfl rfl (by decide +kernel) ⟨Nat.le_of_ble_eq_true rfl, Nat.le_of_ble_eq_true rfl⟩) (pV (ci := 4) (q := (RX4, TX4, 5)) hK hN hP hD [0, 1, 2, 3, 4, 5, 6, 7, 8, 9, 10, 11, 12, 13, 14, 15, 16, 17, 18, 19, 20, 21, 22, 23, 24, 25, 26, 27, 28, 29, 30, 31, 32, 33, 34, 35, 36, 37, 38, 39, 40, 41, 42, 43, 44, 45, 46, 47, 48, 49, 50, 51, 52, 53, 54, 55, 56, 57, 58, 59, 60, 61, 62, 63, 64, 65, 66, 67, 68, 69, 70, 71, 72, 73, 74, 75, 76, 77, 78, 79, 80, 81, 82, 83, 84, 85, 86, 87, 88, 89, 90, 91, 92, 93, 94] rfl rfl rfl rfl) rfl rfl hl.1 rfl (lv_room (Nat.le_of_ble_eq_true rfl)) dL_law_856 ⟨Nat.le_of_ble_eq_true rfl, Nat.le_of_ble_eq_true rfl⟩) hP hD hS hA [0, 1, 2, 3, 4, 5, 6, 7, 8, 9, 10, 11, 12, 13, 14, 15, 16, 17, 18, 19, 20, 21, 22, 23, 24, 25, 26, 27, 28, 29, 30, 31, 32, 33, 34, 35, 36, 37, 38, 39, 40, 41, 42, 43, 44, 45, 46, 47, 48, 49, 50, 51, 52, 53, 54, 55, 56, 57, 58, 59, 60, 61, 62, 63, 64, 65, 66, 67, 68, 69, 70, 71, 72, 73, 74, 75, 76, 77, 78, 79, 80, 81, 82, 83, 84, 85, 86, 87, 88, 89, 90, 91, 92, 93, 94] rfl rfl (ws' := (wF cA cQ adF adB adT adH kH adR adO vB u33.2.1 vH bH u33.2.2.1 u33.2.2.2 ++ wM cA adM vM)) rfl (fun H locs hP hD hS => ?_)
  refine lv_aload_n hx hb dL_law_859 rfl (lv_at hl 2 rfl) ?_
  refine lv_aload_n hx hb dL_law_860 rfl (lv_at hl 0 rfl) ?_
  refine lv_iload_n hx hb dL_law_861 rfl (lv_at hl 3 rfl) ?_
  refine lv_iconst (v := (1 : Int32)) hx hb dL_law_862 (by decide) ?_
  refine lv_iadd hx hb dL_law_863 ?_
  obtain ⟨y34, ey34, h⟩ := bd_in h
  refine slR hx hb hX hbl hbA hS ey34 dL_law_864 ?_
  obtain ⟨u35, eu35, h⟩ := bd_in h
  refine kI (va_runV (As := [.int y34]) (rest := [.int u33.1]) ⟨hx, hb, hml, hown, hts⟩ (c_X5_fault l D cA cQ adM vM y34 u35 eu35 _) (cwV 1 hts gL_law_X5_fault rfl rfl rfl (by decide +kernel) ⟨Nat.le_of_ble_eq_true rfl, Nat.le_of_ble_eq_true rfl⟩) (pV (ci := 5) (q := (RX5, TX5, 18)) hK hN hP hD [95, 96, 97, 98, 99, 100, 101, 102, 103, 104] rfl rfl rfl rfl) rfl rfl hl.1 rfl (lv_room (Nat.le_of_ble_eq_true rfl)) dL_law_865 ⟨Nat.le_of_ble_eq_true rfl, Nat.le_of_ble_eq_true rfl⟩) hP hD hS hA [95, 96, 97, 98, 99, 100, 101, 102, 103, 104] rfl rfl (ws' := (wF cA cQ adF adB adT adH kH adR adO vB u33.2.1 vH bH u33.2.2.1 u33.2.2.2 ++ wM cA adM u35.2)) rfl (fun H locs hP hD hS => ?_)
  refine lv_icmp_eq (tgt := 886) hx hb dL_law_868 (by decide) (fun c36 => ?_) (fun c36 => ?_)
  · have h := (if_pos c36).symm.trans h
    refine lv_iinc (v := (x3 + (5 : Int32))) (lv' := [(3, .int (x3 + (5 : Int32))), (0, .ref b), (1, .ref adF), (2, .ref (adM 0))]) hx hb dL_law_886 hl (k := 3) rfl rfl (by decide) rfl (fun ls hl => ?_)
    refine lv_goto (tgt := 18) hx hb dL_law_889 (by decide) ?_
    exact ih18 vB u33.2.1 vH bH u33.2.2.1 u33.2.2.2 u35.2 (x3 + (5 : Int32)) _ _ _ h hP hD hS (lv_sub hl [1, 2, 3, 0] rfl)
  · have h := (if_neg c36).symm.trans h
    refine lv_iconst (v := (0 : Int32)) hx hb dL_law_871 (by decide) ?_
    exact absurd h (by decide)
set_option maxHeartbeats 8000000 in
set_option maxRecDepth 100000 in
theorem law_b837 {p : Program} {l : Launch} {e : Env} {s : State} {m : MethodId} {below : List Frame} {meth : Method} {c : Code} {D : va_G} {cA cQ : ClassId} {b n0 : Nat} {xs : Nat → Int32} (C0 : lw_At p s m meth c b n0 xs) (hK : va_K D vwCl (TY cA cQ) s) (adF : Nat) (adB adT adH : Nat → Nat) (kH : Nat → Nat → Nat) (adR adO adM : Nat → Nat) (k18 : St → St → St → (Nat → St) → St → St → St → Int32 → Option Int32) (ih18 : ∀ (vB : St) (vT : St) (vH : St) (bH : Nat → St) (vR : St) (vO : St) (vM : St) (x3 : Int32) (H : Heap) (locs : List Loc) (ls : Array Slot), k18 vB vT vH bH vR vO vM x3 = some 1 → va_P D vwCl (wF cA cQ adF adB adT adH kH adR adO vB vT vH bH vR vO ++ wM cA adM vM) H → va_D (fun q : Nat => s.heap.size ≤ q) (wF cA cQ adF adB adT adH kH adR adO vB vT vH bH vR vO ++ wM cA adM vM) → va_S (fun q : Nat => s.heap.size ≤ q) s.heap H locs → lv_has ls 4 [(0, .ref b), (1, .ref adF), (2, .ref (adM 0)), (3, .int x3)] → W p l e room_1 s m #[Value.ref b] below meth c H locs 600000 7302250 (lw_Z below #[Value.ref b] s) (F0 m 18 ls [])) : ∀ (vB : St) (vT : St) (vH : St) (bH : Nat → St) (vR : St) (vO : St) (vM : St) (x3 : Int32) (H : Heap) (locs : List Loc) (ls : Array Slot), L_law_b837 xs n0 k18 vB vT vH bH vR vO vM x3 = some 1 → va_P D vwCl (wF cA cQ adF adB adT adH kH adR adO vB vT vH bH vR vO ++ wM cA adM vM) H → va_D (fun q : Nat => s.heap.size ≤ q) (wF cA cQ adF adB adT adH kH adR adO vB vT vH bH vR vO ++ wM cA adM vM) → va_S (fun q : Nat => s.heap.size ≤ q) s.heap H locs → lv_has ls 4 [(0, .ref b), (1, .ref adF), (2, .ref (adM 0)), (3, .int x3)] → W p l e room_1 s m #[Value.ref b] below meth c H locs 600000 7302250 (lw_Z below #[Value.ref b] s) (F0 m 837 ls []) := by
  have C1 := C0
  obtain ⟨hx, hb, hr, hml, hown, hts, hX, hbl, hlocks, hgv⟩ := C0
  have hts0 := hts
  have hN : NW s := lw_nw hts0
  have hts : ∀ w ∈ wsL_law, w.before #[Value.ref b] s = true := fun w h => hts0 w (wsL_law_in w h)
  have hown : s.vm.findClass RL = some m.cls := hown
  have hA : ∀ q : Nat, s.heap.size ≤ q → (fun q : Nat => s.heap.size ≤ q) q := fun _ h => h
  have hbA : ¬ (fun q : Nat => s.heap.size ≤ q) b := Nat.not_le.mpr hbl
  intro vB vT vH bH vR vO vM x3 H locs ls h hP hD hS hl
  unfold L_law_b837 at h
  refine lv_aload_n hx hb dL_law_837 rfl (lv_at hl 1 rfl) ?_
  obtain ⟨u37, eu37, h⟩ := bd_in h
  refine kI (va_runV (As := []) (rest := []) ⟨hx, hb, hml, hown, hts⟩ (c_X4_clearText l D cA cQ adF adB adT adH kH adR adO vB vT vH bH vR vO u37 eu37 _) (cwV 0 hts gL_law_X4_clearText rfl rfl rfl (by decide +kernel) ⟨Nat.le_of_ble_eq_true rfl, Nat.le_of_ble_eq_true rfl⟩) (pV (ci := 4) (q := (RX4, TX4, 5)) hK hN hP hD [0, 1, 2, 3, 4, 5, 6, 7, 8, 9, 10, 11, 12, 13, 14, 15, 16, 17, 18, 19, 20, 21, 22, 23, 24, 25, 26, 27, 28, 29, 30, 31, 32, 33, 34, 35, 36, 37, 38, 39, 40, 41, 42, 43, 44, 45, 46, 47, 48, 49, 50, 51, 52, 53, 54, 55, 56, 57, 58, 59, 60, 61, 62, 63, 64, 65, 66, 67, 68, 69, 70, 71, 72, 73, 74, 75, 76, 77, 78, 79, 80, 81, 82, 83, 84, 85, 86, 87, 88, 89, 90, 91, 92, 93, 94] rfl rfl rfl rfl) rfl rfl hl.1 rfl (lv_room (Nat.le_of_ble_eq_true rfl)) dL_law_838 ⟨Nat.le_of_ble_eq_true rfl, Nat.le_of_ble_eq_true rfl⟩) hP hD hS hA [0, 1, 2, 3, 4, 5, 6, 7, 8, 9, 10, 11, 12, 13, 14, 15, 16, 17, 18, 19, 20, 21, 22, 23, 24, 25, 26, 27, 28, 29, 30, 31, 32, 33, 34, 35, 36, 37, 38, 39, 40, 41, 42, 43, 44, 45, 46, 47, 48, 49, 50, 51, 52, 53, 54, 55, 56, 57, 58, 59, 60, 61, 62, 63, 64, 65, 66, 67, 68, 69, 70, 71, 72, 73, 74, 75, 76, 77, 78, 79, 80, 81, 82, 83, 84, 85, 86, 87, 88, 89, 90, 91, 92, 93, 94] rfl rfl (ws' := (wF cA cQ adF adB adT adH kH adR adO vB vT vH bH vR u37.2 ++ wM cA adM vM)) rfl (fun H locs hP hD hS => ?_)
  refine lv_aload_n hx hb dL_law_841 rfl (lv_at hl 2 rfl) ?_
  obtain ⟨u38, eu38, h⟩ := bd_in h
  refine kI (va_runV (As := []) (rest := [.int u37.1]) ⟨hx, hb, hml, hown, hts⟩ (c_X5_clearText l D cA cQ adM vM u38 eu38 _) (cwV 0 hts gL_law_X5_clearText rfl rfl rfl (by decide +kernel) ⟨Nat.le_of_ble_eq_true rfl, Nat.le_of_ble_eq_true rfl⟩) (pV (ci := 5) (q := (RX5, TX5, 18)) hK hN hP hD [95, 96, 97, 98, 99, 100, 101, 102, 103, 104] rfl rfl rfl rfl) rfl rfl hl.1 rfl (lv_room (Nat.le_of_ble_eq_true rfl)) dL_law_842 ⟨Nat.le_of_ble_eq_true rfl, Nat.le_of_ble_eq_true rfl⟩) hP hD hS hA [95, 96, 97, 98, 99, 100, 101, 102, 103, 104] rfl rfl (ws' := (wF cA cQ adF adB adT adH kH adR adO vB vT vH bH vR u37.2 ++ wM cA adM u38.2)) rfl (fun H locs hP hD hS => ?_)
  refine lv_icmp_eq (tgt := 886) hx hb dL_law_845 (by decide) (fun c39 => ?_) (fun c39 => ?_)
  · have h := (if_pos c39).symm.trans h
    refine lv_iinc (v := (x3 + (5 : Int32))) (lv' := [(3, .int (x3 + (5 : Int32))), (0, .ref b), (1, .ref adF), (2, .ref (adM 0))]) hx hb dL_law_886 hl (k := 3) rfl rfl (by decide) rfl (fun ls hl => ?_)
    refine lv_goto (tgt := 18) hx hb dL_law_889 (by decide) ?_
    exact ih18 vB vT vH bH vR u37.2 u38.2 (x3 + (5 : Int32)) _ _ _ h hP hD hS (lv_sub hl [1, 2, 3, 0] rfl)
  · have h := (if_neg c39).symm.trans h
    refine lv_iconst (v := (0 : Int32)) hx hb dL_law_848 (by decide) ?_
    exact absurd h (by decide)
set_option maxHeartbeats 8000000 in
set_option maxRecDepth 100000 in
theorem law_b814 {p : Program} {l : Launch} {e : Env} {s : State} {m : MethodId} {below : List Frame} {meth : Method} {c : Code} {D : va_G} {cA cQ : ClassId} {b n0 : Nat} {xs : Nat → Int32} (C0 : lw_At p s m meth c b n0 xs) (hK : va_K D vwCl (TY cA cQ) s) (adF : Nat) (adB adT adH : Nat → Nat) (kH : Nat → Nat → Nat) (adR adO adM : Nat → Nat) (k18 : St → St → St → (Nat → St) → St → St → St → Int32 → Option Int32) (ih18 : ∀ (vB : St) (vT : St) (vH : St) (bH : Nat → St) (vR : St) (vO : St) (vM : St) (x3 : Int32) (H : Heap) (locs : List Loc) (ls : Array Slot), k18 vB vT vH bH vR vO vM x3 = some 1 → va_P D vwCl (wF cA cQ adF adB adT adH kH adR adO vB vT vH bH vR vO ++ wM cA adM vM) H → va_D (fun q : Nat => s.heap.size ≤ q) (wF cA cQ adF adB adT adH kH adR adO vB vT vH bH vR vO ++ wM cA adM vM) → va_S (fun q : Nat => s.heap.size ≤ q) s.heap H locs → lv_has ls 4 [(0, .ref b), (1, .ref adF), (2, .ref (adM 0)), (3, .int x3)] → W p l e room_1 s m #[Value.ref b] below meth c H locs 600000 7302250 (lw_Z below #[Value.ref b] s) (F0 m 18 ls [])) : ∀ (vB : St) (vT : St) (vH : St) (bH : Nat → St) (vR : St) (vO : St) (vM : St) (x3 : Int32) (H : Heap) (locs : List Loc) (ls : Array Slot), L_law_b814 xs n0 k18 vB vT vH bH vR vO vM x3 = some 1 → va_P D vwCl (wF cA cQ adF adB adT adH kH adR adO vB vT vH bH vR vO ++ wM cA adM vM) H → va_D (fun q : Nat => s.heap.size ≤ q) (wF cA cQ adF adB adT adH kH adR adO vB vT vH bH vR vO ++ wM cA adM vM) → va_S (fun q : Nat => s.heap.size ≤ q) s.heap H locs → lv_has ls 4 [(0, .ref b), (1, .ref adF), (2, .ref (adM 0)), (3, .int x3)] → W p l e room_1 s m #[Value.ref b] below meth c H locs 600000 7302250 (lw_Z below #[Value.ref b] s) (F0 m 814 ls []) := by
  have C1 := C0
  obtain ⟨hx, hb, hr, hml, hown, hts, hX, hbl, hlocks, hgv⟩ := C0
  have hts0 := hts
  have hN : NW s := lw_nw hts0
  have hts : ∀ w ∈ wsL_law, w.before #[Value.ref b] s = true := fun w h => hts0 w (wsL_law_in w h)
  have hown : s.vm.findClass RL = some m.cls := hown
  have hA : ∀ q : Nat, s.heap.size ≤ q → (fun q : Nat => s.heap.size ≤ q) q := fun _ h => h
  have hbA : ¬ (fun q : Nat => s.heap.size ≤ q) b := Nat.not_le.mpr hbl
  intro vB vT vH bH vR vO vM x3 H locs ls h hP hD hS hl
  unfold L_law_b814 at h
  refine lv_aload_n hx hb dL_law_814 rfl (lv_at hl 1 rfl) ?_
  refine lv_aload_n hx hb dL_law_815 rfl (lv_at hl 0 rfl) ?_
  refine lv_iload_n hx hb dL_law_816 rfl (lv_at hl 3 rfl) ?_
  refine lv_iconst (v := (1 : Int32)) hx hb dL_law_817 (by decide) ?_
  refine lv_iadd hx hb dL_law_818 ?_
  obtain ⟨y40, ey40, h⟩ := bd_in h
  refine slR hx hb hX hbl hbA hS ey40 dL_law_819 ?_
  obtain ⟨u41, eu41, h⟩ := bd_in h
  refine kI (va_runV (As := [.int y40]) (rest := []) ⟨hx, hb, hml, hown, hts⟩ (c_X4_type l D cA cQ adF adB adT adH kH adR adO vB vT vH bH vR vO y40 u41 eu41 _) (cwV 1 hts gL_law_X4_type rfl rfl rfl (by decide +kernel) ⟨Nat.le_of_ble_eq_true rfl, Nat.le_of_ble_eq_true rfl⟩) (pV (ci := 4) (q := (RX4, TX4, 5)) hK hN hP hD [0, 1, 2, 3, 4, 5, 6, 7, 8, 9, 10, 11, 12, 13, 14, 15, 16, 17, 18, 19, 20, 21, 22, 23, 24, 25, 26, 27, 28, 29, 30, 31, 32, 33, 34, 35, 36, 37, 38, 39, 40, 41, 42, 43, 44, 45, 46, 47, 48, 49, 50, 51, 52, 53, 54, 55, 56, 57, 58, 59, 60, 61, 62, 63, 64, 65, 66, 67, 68, 69, 70, 71, 72, 73, 74, 75, 76, 77, 78, 79, 80, 81, 82, 83, 84, 85, 86, 87, 88, 89, 90, 91, 92, 93, 94] rfl rfl rfl rfl) rfl rfl hl.1 rfl (lv_room (Nat.le_of_ble_eq_true rfl)) dL_law_820 ⟨Nat.le_of_ble_eq_true rfl, Nat.le_of_ble_eq_true rfl⟩) hP hD hS hA [0, 1, 2, 3, 4, 5, 6, 7, 8, 9, 10, 11, 12, 13, 14, 15, 16, 17, 18, 19, 20, 21, 22, 23, 24, 25, 26, 27, 28, 29, 30, 31, 32, 33, 34, 35, 36, 37, 38, 39, 40, 41, 42, 43, 44, 45, 46, 47, 48, 49, 50, 51, 52, 53, 54, 55, 56, 57, 58, 59, 60, 61, 62, 63, 64, 65, 66, 67, 68, 69, 70, 71, 72, 73, 74, 75, 76, 77, 78, 79, 80, 81, 82, 83, 84, 85, 86, 87, 88, 89, 90, 91, 92, 93, 94] rfl rfl (ws' := (wF cA cQ adF adB adT adH kH adR adO vB vT vH bH vR u41.2 ++ wM cA adM vM)) rfl (fun H locs hP hD hS => ?_)
  refine lv_aload_n hx hb dL_law_823 rfl (lv_at hl 2 rfl) ?_
  refine lv_aload_n hx hb dL_law_824 rfl (lv_at hl 0 rfl) ?_
  refine lv_iload_n hx hb dL_law_825 rfl (lv_at hl 3 rfl) ?_
  refine lv_iconst (v := (1 : Int32)) hx hb dL_law_826 (by decide) ?_
  refine lv_iadd hx hb dL_law_827 ?_
  obtain ⟨y42, ey42, h⟩ := bd_in h
  refine slR hx hb hX hbl hbA hS ey42 dL_law_828 ?_
  obtain ⟨u43, eu43, h⟩ := bd_in h
  refine kI (va_runV (As := [.int y42]) (rest := [.int u41.1]) ⟨hx, hb, hml, hown, hts⟩ (c_X5_type l D cA cQ adM vM y42 u43 eu43 _) (cwV 1 hts gL_law_X5_type rfl rfl rfl (by decide +kernel) ⟨Nat.le_of_ble_eq_true rfl, Nat.le_of_ble_eq_true rfl⟩) (pV (ci := 5) (q := (RX5, TX5, 18)) hK hN hP hD [95, 96, 97, 98, 99, 100, 101, 102, 103, 104] rfl rfl rfl rfl) rfl rfl hl.1 rfl (lv_room (Nat.le_of_ble_eq_true rfl)) dL_law_829 ⟨Nat.le_of_ble_eq_true rfl, Nat.le_of_ble_eq_true rfl⟩) hP hD hS hA [95, 96, 97, 98, 99, 100, 101, 102, 103, 104] rfl rfl (ws' := (wF cA cQ adF adB adT adH kH adR adO vB vT vH bH vR u41.2 ++ wM cA adM u43.2)) rfl (fun H locs hP hD hS => ?_)
  refine lv_icmp_eq (tgt := 886) hx hb dL_law_832 (by decide) (fun c44 => ?_) (fun c44 => ?_)
  · have h := (if_pos c44).symm.trans h
    refine lv_iinc (v := (x3 + (5 : Int32))) (lv' := [(3, .int (x3 + (5 : Int32))), (0, .ref b), (1, .ref adF), (2, .ref (adM 0))]) hx hb dL_law_886 hl (k := 3) rfl rfl (by decide) rfl (fun ls hl => ?_)
    refine lv_goto (tgt := 18) hx hb dL_law_889 (by decide) ?_
    exact ih18 vB vT vH bH vR u41.2 u43.2 (x3 + (5 : Int32)) _ _ _ h hP hD hS (lv_sub hl [1, 2, 3, 0] rfl)
  · have h := (if_neg c44).symm.trans h
    refine lv_iconst (v := (0 : Int32)) hx hb dL_law_835 (by decide) ?_
    exact absurd h (by decide)
set_option maxHeartbeats 8000000 in
set_option maxRecDepth 100000 in
theorem law_b801 {p : Program} {l : Launch} {e : Env} {s : State} {m : MethodId} {below : List Frame} {meth : Method} {c : Code} {D : va_G} {cA cQ : ClassId} {b n0 : Nat} {xs : Nat → Int32} (C0 : lw_At p s m meth c b n0 xs) (hK : va_K D vwCl (TY cA cQ) s) (adF : Nat) (adB adT adH : Nat → Nat) (kH : Nat → Nat → Nat) (adR adO adM : Nat → Nat) (k18 : St → St → St → (Nat → St) → St → St → St → Int32 → Option Int32) (ih18 : ∀ (vB : St) (vT : St) (vH : St) (bH : Nat → St) (vR : St) (vO : St) (vM : St) (x3 : Int32) (H : Heap) (locs : List Loc) (ls : Array Slot), k18 vB vT vH bH vR vO vM x3 = some 1 → va_P D vwCl (wF cA cQ adF adB adT adH kH adR adO vB vT vH bH vR vO ++ wM cA adM vM) H → va_D (fun q : Nat => s.heap.size ≤ q) (wF cA cQ adF adB adT adH kH adR adO vB vT vH bH vR vO ++ wM cA adM vM) → va_S (fun q : Nat => s.heap.size ≤ q) s.heap H locs → lv_has ls 4 [(0, .ref b), (1, .ref adF), (2, .ref (adM 0)), (3, .int x3)] → W p l e room_1 s m #[Value.ref b] below meth c H locs 600000 7302250 (lw_Z below #[Value.ref b] s) (F0 m 18 ls [])) : ∀ (vB : St) (vT : St) (vH : St) (bH : Nat → St) (vR : St) (vO : St) (vM : St) (x3 : Int32) (H : Heap) (locs : List Loc) (ls : Array Slot), L_law_b801 xs n0 k18 vB vT vH bH vR vO vM x3 = some 1 → va_P D vwCl (wF cA cQ adF adB adT adH kH adR adO vB vT vH bH vR vO ++ wM cA adM vM) H → va_D (fun q : Nat => s.heap.size ≤ q) (wF cA cQ adF adB adT adH kH adR adO vB vT vH bH vR vO ++ wM cA adM vM) → va_S (fun q : Nat => s.heap.size ≤ q) s.heap H locs → lv_has ls 4 [(0, .ref b), (1, .ref adF), (2, .ref (adM 0)), (3, .int x3)] → W p l e room_1 s m #[Value.ref b] below meth c H locs 600000 7302250 (lw_Z below #[Value.ref b] s) (F0 m 801 ls []) := by
  have C1 := C0
  obtain ⟨hx, hb, hr, hml, hown, hts, hX, hbl, hlocks, hgv⟩ := C0
  have hts0 := hts
  have hN : NW s := lw_nw hts0
  have hts : ∀ w ∈ wsL_law, w.before #[Value.ref b] s = true := fun w h => hts0 w (wsL_law_in w h)
  have hown : s.vm.findClass RL = some m.cls := hown
  have hA : ∀ q : Nat, s.heap.size ≤ q → (fun q : Nat => s.heap.size ≤ q) q := fun _ h => h
  have hbA : ¬ (fun q : Nat => s.heap.size ≤ q) b := Nat.not_le.mpr hbl
  intro vB vT vH bH vR vO vM x3 H locs ls h hP hD hS hl
  unfold L_law_b801 at h
  refine lv_aload_n hx hb dL_law_801 rfl (lv_at hl 1 rfl) ?_
  obtain ⟨u45, eu45, h⟩ := bd_in h
  refine kI (va_runV (As := []) (rest := []) ⟨hx, hb, hml, hown, hts⟩ (c_X4_undo l D cA cQ adF adB adT adH kH adR adO vB vT vH bH vR vO u45 eu45 _) (cwV 0 hts gL_law_X4_undo rfl rfl rfl (by decide +kernel) ⟨Nat.le_of_ble_eq_true rfl, Nat.le_of_ble_eq_true rfl⟩) (pV (ci := 4) (q := (RX4, TX4, 5)) hK hN hP hD [0, 1, 2, 3, 4, 5, 6, 7, 8, 9, 10, 11, 12, 13, 14, 15, 16, 17, 18, 19, 20, 21, 22, 23, 24, 25, 26, 27, 28, 29, 30, 31, 32, 33, 34, 35, 36, 37, 38, 39, 40, 41, 42, 43, 44, 45, 46, 47, 48, 49, 50, 51, 52, 53, 54, 55, 56, 57, 58, 59, 60, 61, 62, 63, 64, 65, 66, 67, 68, 69, 70, 71, 72, 73, 74, 75, 76, 77, 78, 79, 80, 81, 82, 83, 84, 85, 86, 87, 88, 89, 90, 91, 92, 93, 94] rfl rfl rfl rfl) rfl rfl hl.1 rfl (lv_room (Nat.le_of_ble_eq_true rfl)) dL_law_802 ⟨Nat.le_of_ble_eq_true rfl, Nat.le_of_ble_eq_true rfl⟩) hP hD hS hA [0, 1, 2, 3, 4, 5, 6, 7, 8, 9, 10, 11, 12, 13, 14, 15, 16, 17, 18, 19, 20, 21, 22, 23, 24, 25, 26, 27, 28, 29, 30, 31, 32, 33, 34, 35, 36, 37, 38, 39, 40, 41, 42, 43, 44, 45, 46, 47, 48, 49, 50, 51, 52, 53, 54, 55, 56, 57, 58, 59, 60, 61, 62, 63, 64, 65, 66, 67, 68, 69, 70, 71, 72, 73, 74, 75, 76, 77, 78, 79, 80, 81, 82, 83, 84, 85, 86, 87, 88, 89, 90, 91, 92, 93, 94] rfl rfl (ws' := (wF cA cQ adF adB adT adH kH adR adO u45.2.1 vT u45.2.2 bH vR vO ++ wM cA adM vM)) rfl (fun H locs hP hD hS => ?_)
  refine lv_aload_n hx hb dL_law_805 rfl (lv_at hl 2 rfl) ?_
  obtain ⟨u46, eu46, h⟩ := bd_in h
  refine kI (va_runV (As := []) (rest := [.int u45.1]) ⟨hx, hb, hml, hown, hts⟩ (c_X5_undo l D cA cQ adM vM u46 eu46 _) (cwV 0 hts gL_law_X5_undo rfl rfl rfl (by decide +kernel) ⟨Nat.le_of_ble_eq_true rfl, Nat.le_of_ble_eq_true rfl⟩) (pV (ci := 5) (q := (RX5, TX5, 18)) hK hN hP hD [95, 96, 97, 98, 99, 100, 101, 102, 103, 104] rfl rfl rfl rfl) rfl rfl hl.1 rfl (lv_room (Nat.le_of_ble_eq_true rfl)) dL_law_806 ⟨Nat.le_of_ble_eq_true rfl, Nat.le_of_ble_eq_true rfl⟩) hP hD hS hA [95, 96, 97, 98, 99, 100, 101, 102, 103, 104] rfl rfl (ws' := (wF cA cQ adF adB adT adH kH adR adO u45.2.1 vT u45.2.2 bH vR vO ++ wM cA adM u46.2)) rfl (fun H locs hP hD hS => ?_)
  refine lv_icmp_eq (tgt := 886) hx hb dL_law_809 (by decide) (fun c47 => ?_) (fun c47 => ?_)
  · have h := (if_pos c47).symm.trans h
    refine lv_iinc (v := (x3 + (5 : Int32))) (lv' := [(3, .int (x3 + (5 : Int32))), (0, .ref b), (1, .ref adF), (2, .ref (adM 0))]) hx hb dL_law_886 hl (k := 3) rfl rfl (by decide) rfl (fun ls hl => ?_)
    refine lv_goto (tgt := 18) hx hb dL_law_889 (by decide) ?_
    exact ih18 u45.2.1 vT u45.2.2 bH vR vO u46.2 (x3 + (5 : Int32)) _ _ _ h hP hD hS (lv_sub hl [1, 2, 3, 0] rfl)
  · have h := (if_neg c47).symm.trans h
    refine lv_iconst (v := (0 : Int32)) hx hb dL_law_812 (by decide) ?_
    exact absurd h (by decide)
set_option maxHeartbeats 8000000 in
set_option maxRecDepth 100000 in
theorem law_b778 {p : Program} {l : Launch} {e : Env} {s : State} {m : MethodId} {below : List Frame} {meth : Method} {c : Code} {D : va_G} {cA cQ : ClassId} {b n0 : Nat} {xs : Nat → Int32} (C0 : lw_At p s m meth c b n0 xs) (hK : va_K D vwCl (TY cA cQ) s) (adF : Nat) (adB adT adH : Nat → Nat) (kH : Nat → Nat → Nat) (adR adO adM : Nat → Nat) (k18 : St → St → St → (Nat → St) → St → St → St → Int32 → Option Int32) (ih18 : ∀ (vB : St) (vT : St) (vH : St) (bH : Nat → St) (vR : St) (vO : St) (vM : St) (x3 : Int32) (H : Heap) (locs : List Loc) (ls : Array Slot), k18 vB vT vH bH vR vO vM x3 = some 1 → va_P D vwCl (wF cA cQ adF adB adT adH kH adR adO vB vT vH bH vR vO ++ wM cA adM vM) H → va_D (fun q : Nat => s.heap.size ≤ q) (wF cA cQ adF adB adT adH kH adR adO vB vT vH bH vR vO ++ wM cA adM vM) → va_S (fun q : Nat => s.heap.size ≤ q) s.heap H locs → lv_has ls 4 [(0, .ref b), (1, .ref adF), (2, .ref (adM 0)), (3, .int x3)] → W p l e room_1 s m #[Value.ref b] below meth c H locs 600000 7302250 (lw_Z below #[Value.ref b] s) (F0 m 18 ls [])) : ∀ (vB : St) (vT : St) (vH : St) (bH : Nat → St) (vR : St) (vO : St) (vM : St) (x3 : Int32) (H : Heap) (locs : List Loc) (ls : Array Slot), L_law_b778 xs n0 k18 vB vT vH bH vR vO vM x3 = some 1 → va_P D vwCl (wF cA cQ adF adB adT adH kH adR adO vB vT vH bH vR vO ++ wM cA adM vM) H → va_D (fun q : Nat => s.heap.size ≤ q) (wF cA cQ adF adB adT adH kH adR adO vB vT vH bH vR vO ++ wM cA adM vM) → va_S (fun q : Nat => s.heap.size ≤ q) s.heap H locs → lv_has ls 4 [(0, .ref b), (1, .ref adF), (2, .ref (adM 0)), (3, .int x3)] → W p l e room_1 s m #[Value.ref b] below meth c H locs 600000 7302250 (lw_Z below #[Value.ref b] s) (F0 m 778 ls []) := by
  have C1 := C0
  obtain ⟨hx, hb, hr, hml, hown, hts, hX, hbl, hlocks, hgv⟩ := C0
  have hts0 := hts
  have hN : NW s := lw_nw hts0
  have hts : ∀ w ∈ wsL_law, w.before #[Value.ref b] s = true := fun w h => hts0 w (wsL_law_in w h)
  have hown : s.vm.findClass RL = some m.cls := hown
  have hA : ∀ q : Nat, s.heap.size ≤ q → (fun q : Nat => s.heap.size ≤ q) q := fun _ h => h
  have hbA : ¬ (fun q : Nat => s.heap.size ≤ q) b := Nat.not_le.mpr hbl
  intro vB vT vH bH vR vO vM x3 H locs ls h hP hD hS hl
  unfold L_law_b778 at h
  refine lv_aload_n hx hb dL_law_778 rfl (lv_at hl 1 rfl) ?_
  refine lv_aload_n hx hb dL_law_779 rfl (lv_at hl 0 rfl) ?_
  refine lv_iload_n hx hb dL_law_780 rfl (lv_at hl 3 rfl) ?_
  refine lv_iconst (v := (1 : Int32)) hx hb dL_law_781 (by decide) ?_
  refine lv_iadd hx hb dL_law_782 ?_
  obtain ⟨y48, ey48, h⟩ := bd_in h
  refine slR hx hb hX hbl hbA hS ey48 dL_law_783 ?_
  obtain ⟨u49, eu49, h⟩ := bd_in h
  refine kI (va_runV (As := [.int y48]) (rest := []) ⟨hx, hb, hml, hown, hts⟩ (c_X4_count l D cA cQ adF adB adT adH kH adR adO vB vT vH bH vR vO y48 u49 eu49 _) (cwV 1 hts gL_law_X4_count rfl rfl rfl (by decide +kernel) ⟨Nat.le_of_ble_eq_true rfl, Nat.le_of_ble_eq_true rfl⟩) (pV (ci := 4) (q := (RX4, TX4, 5)) hK hN hP hD [0, 1, 2, 3, 4, 5, 6, 7, 8, 9, 10, 11, 12, 13, 14, 15, 16, 17, 18, 19, 20, 21, 22, 23, 24, 25, 26, 27, 28, 29, 30, 31, 32, 33, 34, 35, 36, 37, 38, 39, 40, 41, 42, 43, 44, 45, 46, 47, 48, 49, 50, 51, 52, 53, 54, 55, 56, 57, 58, 59, 60, 61, 62, 63, 64, 65, 66, 67, 68, 69, 70, 71, 72, 73, 74, 75, 76, 77, 78, 79, 80, 81, 82, 83, 84, 85, 86, 87, 88, 89, 90, 91, 92, 93, 94] rfl rfl rfl rfl) rfl rfl hl.1 rfl (lv_room (Nat.le_of_ble_eq_true rfl)) dL_law_784 ⟨Nat.le_of_ble_eq_true rfl, Nat.le_of_ble_eq_true rfl⟩) hP hD hS hA [0, 1, 2, 3, 4, 5, 6, 7, 8, 9, 10, 11, 12, 13, 14, 15, 16, 17, 18, 19, 20, 21, 22, 23, 24, 25, 26, 27, 28, 29, 30, 31, 32, 33, 34, 35, 36, 37, 38, 39, 40, 41, 42, 43, 44, 45, 46, 47, 48, 49, 50, 51, 52, 53, 54, 55, 56, 57, 58, 59, 60, 61, 62, 63, 64, 65, 66, 67, 68, 69, 70, 71, 72, 73, 74, 75, 76, 77, 78, 79, 80, 81, 82, 83, 84, 85, 86, 87, 88, 89, 90, 91, 92, 93, 94] rfl rfl (ws' := (wF cA cQ adF adB adT adH kH adR adO vB vT vH bH vR vO ++ wM cA adM vM)) rfl (fun H locs hP hD hS => ?_)
  refine lv_aload_n hx hb dL_law_787 rfl (lv_at hl 2 rfl) ?_
  refine lv_aload_n hx hb dL_law_788 rfl (lv_at hl 0 rfl) ?_
  refine lv_iload_n hx hb dL_law_789 rfl (lv_at hl 3 rfl) ?_
  refine lv_iconst (v := (1 : Int32)) hx hb dL_law_790 (by decide) ?_
  refine lv_iadd hx hb dL_law_791 ?_
  obtain ⟨y50, ey50, h⟩ := bd_in h
  refine slR hx hb hX hbl hbA hS ey50 dL_law_792 ?_
  obtain ⟨u51, eu51, h⟩ := bd_in h
  refine kI (va_runV (As := [.int y50]) (rest := [.int u49]) ⟨hx, hb, hml, hown, hts⟩ (c_X5_count l D cA cQ adM vM y50 u51 eu51 _) (cwV 1 hts gL_law_X5_count rfl rfl rfl (by decide +kernel) ⟨Nat.le_of_ble_eq_true rfl, Nat.le_of_ble_eq_true rfl⟩) (pV (ci := 5) (q := (RX5, TX5, 18)) hK hN hP hD [95, 96, 97, 98, 99, 100, 101, 102, 103, 104] rfl rfl rfl rfl) rfl rfl hl.1 rfl (lv_room (Nat.le_of_ble_eq_true rfl)) dL_law_793 ⟨Nat.le_of_ble_eq_true rfl, Nat.le_of_ble_eq_true rfl⟩) hP hD hS hA [95, 96, 97, 98, 99, 100, 101, 102, 103, 104] rfl rfl (ws' := (wF cA cQ adF adB adT adH kH adR adO vB vT vH bH vR vO ++ wM cA adM vM)) rfl (fun H locs hP hD hS => ?_)
  refine lv_icmp_eq (tgt := 886) hx hb dL_law_796 (by decide) (fun c52 => ?_) (fun c52 => ?_)
  · have h := (if_pos c52).symm.trans h
    refine lv_iinc (v := (x3 + (5 : Int32))) (lv' := [(3, .int (x3 + (5 : Int32))), (0, .ref b), (1, .ref adF), (2, .ref (adM 0))]) hx hb dL_law_886 hl (k := 3) rfl rfl (by decide) rfl (fun ls hl => ?_)
    refine lv_goto (tgt := 18) hx hb dL_law_889 (by decide) ?_
    exact ih18 vB vT vH bH vR vO vM (x3 + (5 : Int32)) _ _ _ h hP hD hS (lv_sub hl [1, 2, 3, 0] rfl)
  · have h := (if_neg c52).symm.trans h
    refine lv_iconst (v := (0 : Int32)) hx hb dL_law_799 (by decide) ?_
    exact absurd h (by decide)
set_option maxHeartbeats 8000000 in
set_option maxRecDepth 100000 in
theorem law_b765 {p : Program} {l : Launch} {e : Env} {s : State} {m : MethodId} {below : List Frame} {meth : Method} {c : Code} {D : va_G} {cA cQ : ClassId} {b n0 : Nat} {xs : Nat → Int32} (C0 : lw_At p s m meth c b n0 xs) (hK : va_K D vwCl (TY cA cQ) s) (adF : Nat) (adB adT adH : Nat → Nat) (kH : Nat → Nat → Nat) (adR adO adM : Nat → Nat) (k18 : St → St → St → (Nat → St) → St → St → St → Int32 → Option Int32) (ih18 : ∀ (vB : St) (vT : St) (vH : St) (bH : Nat → St) (vR : St) (vO : St) (vM : St) (x3 : Int32) (H : Heap) (locs : List Loc) (ls : Array Slot), k18 vB vT vH bH vR vO vM x3 = some 1 → va_P D vwCl (wF cA cQ adF adB adT adH kH adR adO vB vT vH bH vR vO ++ wM cA adM vM) H → va_D (fun q : Nat => s.heap.size ≤ q) (wF cA cQ adF adB adT adH kH adR adO vB vT vH bH vR vO ++ wM cA adM vM) → va_S (fun q : Nat => s.heap.size ≤ q) s.heap H locs → lv_has ls 4 [(0, .ref b), (1, .ref adF), (2, .ref (adM 0)), (3, .int x3)] → W p l e room_1 s m #[Value.ref b] below meth c H locs 600000 7302250 (lw_Z below #[Value.ref b] s) (F0 m 18 ls [])) : ∀ (vB : St) (vT : St) (vH : St) (bH : Nat → St) (vR : St) (vO : St) (vM : St) (x3 : Int32) (H : Heap) (locs : List Loc) (ls : Array Slot), L_law_b765 xs n0 k18 vB vT vH bH vR vO vM x3 = some 1 → va_P D vwCl (wF cA cQ adF adB adT adH kH adR adO vB vT vH bH vR vO ++ wM cA adM vM) H → va_D (fun q : Nat => s.heap.size ≤ q) (wF cA cQ adF adB adT adH kH adR adO vB vT vH bH vR vO ++ wM cA adM vM) → va_S (fun q : Nat => s.heap.size ≤ q) s.heap H locs → lv_has ls 4 [(0, .ref b), (1, .ref adF), (2, .ref (adM 0)), (3, .int x3)] → W p l e room_1 s m #[Value.ref b] below meth c H locs 600000 7302250 (lw_Z below #[Value.ref b] s) (F0 m 765 ls []) := by
  have C1 := C0
  obtain ⟨hx, hb, hr, hml, hown, hts, hX, hbl, hlocks, hgv⟩ := C0
  have hts0 := hts
  have hN : NW s := lw_nw hts0
  have hts : ∀ w ∈ wsL_law, w.before #[Value.ref b] s = true := fun w h => hts0 w (wsL_law_in w h)
  have hown : s.vm.findClass RL = some m.cls := hown
  have hA : ∀ q : Nat, s.heap.size ≤ q → (fun q : Nat => s.heap.size ≤ q) q := fun _ h => h
  have hbA : ¬ (fun q : Nat => s.heap.size ≤ q) b := Nat.not_le.mpr hbl
  intro vB vT vH bH vR vO vM x3 H locs ls h hP hD hS hl
  unfold L_law_b765 at h
  refine lv_aload_n hx hb dL_law_765 rfl (lv_at hl 1 rfl) ?_
  obtain ⟨u53, eu53, h⟩ := bd_in h
  refine kI (va_runV (As := []) (rest := []) ⟨hx, hb, hml, hown, hts⟩ (c_X4_mean l D cA cQ adF adB adT adH kH adR adO vB vT vH bH vR vO u53 eu53 _) (cwV 0 hts gL_law_X4_mean rfl rfl rfl (by decide +kernel) ⟨Nat.le_of_ble_eq_true rfl, Nat.le_of_ble_eq_true rfl⟩) (pV (ci := 4) (q := (RX4, TX4, 5)) hK hN hP hD [0, 1, 2, 3, 4, 5, 6, 7, 8, 9, 10, 11, 12, 13, 14, 15, 16, 17, 18, 19, 20, 21, 22, 23, 24, 25, 26, 27, 28, 29, 30, 31, 32, 33, 34, 35, 36, 37, 38, 39, 40, 41, 42, 43, 44, 45, 46, 47, 48, 49, 50, 51, 52, 53, 54, 55, 56, 57, 58, 59, 60, 61, 62, 63, 64, 65, 66, 67, 68, 69, 70, 71, 72, 73, 74, 75, 76, 77, 78, 79, 80, 81, 82, 83, 84, 85, 86, 87, 88, 89, 90, 91, 92, 93, 94] rfl rfl rfl rfl) rfl rfl hl.1 rfl (lv_room (Nat.le_of_ble_eq_true rfl)) dL_law_766 ⟨Nat.le_of_ble_eq_true rfl, Nat.le_of_ble_eq_true rfl⟩) hP hD hS hA [0, 1, 2, 3, 4, 5, 6, 7, 8, 9, 10, 11, 12, 13, 14, 15, 16, 17, 18, 19, 20, 21, 22, 23, 24, 25, 26, 27, 28, 29, 30, 31, 32, 33, 34, 35, 36, 37, 38, 39, 40, 41, 42, 43, 44, 45, 46, 47, 48, 49, 50, 51, 52, 53, 54, 55, 56, 57, 58, 59, 60, 61, 62, 63, 64, 65, 66, 67, 68, 69, 70, 71, 72, 73, 74, 75, 76, 77, 78, 79, 80, 81, 82, 83, 84, 85, 86, 87, 88, 89, 90, 91, 92, 93, 94] rfl rfl (ws' := (wF cA cQ adF adB adT adH kH adR adO vB vT vH bH vR vO ++ wM cA adM vM)) rfl (fun H locs hP hD hS => ?_)
  refine lv_aload_n hx hb dL_law_769 rfl (lv_at hl 2 rfl) ?_
  obtain ⟨u54, eu54, h⟩ := bd_in h
  refine kI (va_runV (As := []) (rest := [.int u53]) ⟨hx, hb, hml, hown, hts⟩ (c_X5_mean l D cA cQ adM vM u54 eu54 _) (cwV 0 hts gL_law_X5_mean rfl rfl rfl (by decide +kernel) ⟨Nat.le_of_ble_eq_true rfl, Nat.le_of_ble_eq_true rfl⟩) (pV (ci := 5) (q := (RX5, TX5, 18)) hK hN hP hD [95, 96, 97, 98, 99, 100, 101, 102, 103, 104] rfl rfl rfl rfl) rfl rfl hl.1 rfl (lv_room (Nat.le_of_ble_eq_true rfl)) dL_law_770 ⟨Nat.le_of_ble_eq_true rfl, Nat.le_of_ble_eq_true rfl⟩) hP hD hS hA [95, 96, 97, 98, 99, 100, 101, 102, 103, 104] rfl rfl (ws' := (wF cA cQ adF adB adT adH kH adR adO vB vT vH bH vR vO ++ wM cA adM vM)) rfl (fun H locs hP hD hS => ?_)
  refine lv_icmp_eq (tgt := 886) hx hb dL_law_773 (by decide) (fun c55 => ?_) (fun c55 => ?_)
  · have h := (if_pos c55).symm.trans h
    refine lv_iinc (v := (x3 + (5 : Int32))) (lv' := [(3, .int (x3 + (5 : Int32))), (0, .ref b), (1, .ref adF), (2, .ref (adM 0))]) hx hb dL_law_886 hl (k := 3) rfl rfl (by decide) rfl (fun ls hl => ?_)
    refine lv_goto (tgt := 18) hx hb dL_law_889 (by decide) ?_
    exact ih18 vB vT vH bH vR vO vM (x3 + (5 : Int32)) _ _ _ h hP hD hS (lv_sub hl [1, 2, 3, 0] rfl)
  · have h := (if_neg c55).symm.trans h
    refine lv_iconst (v := (0 : Int32)) hx hb dL_law_776 (by decide) ?_
    exact absurd h (by decide)
set_option maxHeartbeats 8000000 in
set_option maxRecDepth 100000 in
theorem law_b742 {p : Program} {l : Launch} {e : Env} {s : State} {m : MethodId} {below : List Frame} {meth : Method} {c : Code} {D : va_G} {cA cQ : ClassId} {b n0 : Nat} {xs : Nat → Int32} (C0 : lw_At p s m meth c b n0 xs) (hK : va_K D vwCl (TY cA cQ) s) (adF : Nat) (adB adT adH : Nat → Nat) (kH : Nat → Nat → Nat) (adR adO adM : Nat → Nat) (k18 : St → St → St → (Nat → St) → St → St → St → Int32 → Option Int32) (ih18 : ∀ (vB : St) (vT : St) (vH : St) (bH : Nat → St) (vR : St) (vO : St) (vM : St) (x3 : Int32) (H : Heap) (locs : List Loc) (ls : Array Slot), k18 vB vT vH bH vR vO vM x3 = some 1 → va_P D vwCl (wF cA cQ adF adB adT adH kH adR adO vB vT vH bH vR vO ++ wM cA adM vM) H → va_D (fun q : Nat => s.heap.size ≤ q) (wF cA cQ adF adB adT adH kH adR adO vB vT vH bH vR vO ++ wM cA adM vM) → va_S (fun q : Nat => s.heap.size ≤ q) s.heap H locs → lv_has ls 4 [(0, .ref b), (1, .ref adF), (2, .ref (adM 0)), (3, .int x3)] → W p l e room_1 s m #[Value.ref b] below meth c H locs 600000 7302250 (lw_Z below #[Value.ref b] s) (F0 m 18 ls [])) : ∀ (vB : St) (vT : St) (vH : St) (bH : Nat → St) (vR : St) (vO : St) (vM : St) (x3 : Int32) (H : Heap) (locs : List Loc) (ls : Array Slot), L_law_b742 xs n0 k18 vB vT vH bH vR vO vM x3 = some 1 → va_P D vwCl (wF cA cQ adF adB adT adH kH adR adO vB vT vH bH vR vO ++ wM cA adM vM) H → va_D (fun q : Nat => s.heap.size ≤ q) (wF cA cQ adF adB adT adH kH adR adO vB vT vH bH vR vO ++ wM cA adM vM) → va_S (fun q : Nat => s.heap.size ≤ q) s.heap H locs → lv_has ls 4 [(0, .ref b), (1, .ref adF), (2, .ref (adM 0)), (3, .int x3)] → W p l e room_1 s m #[Value.ref b] below meth c H locs 600000 7302250 (lw_Z below #[Value.ref b] s) (F0 m 742 ls []) := by
  have C1 := C0
  obtain ⟨hx, hb, hr, hml, hown, hts, hX, hbl, hlocks, hgv⟩ := C0
  have hts0 := hts
  have hN : NW s := lw_nw hts0
  have hts : ∀ w ∈ wsL_law, w.before #[Value.ref b] s = true := fun w h => hts0 w (wsL_law_in w h)
  have hown : s.vm.findClass RL = some m.cls := hown
  have hA : ∀ q : Nat, s.heap.size ≤ q → (fun q : Nat => s.heap.size ≤ q) q := fun _ h => h
  have hbA : ¬ (fun q : Nat => s.heap.size ≤ q) b := Nat.not_le.mpr hbl
  intro vB vT vH bH vR vO vM x3 H locs ls h hP hD hS hl
  unfold L_law_b742 at h
  refine lv_aload_n hx hb dL_law_742 rfl (lv_at hl 1 rfl) ?_
  refine lv_aload_n hx hb dL_law_743 rfl (lv_at hl 0 rfl) ?_
  refine lv_iload_n hx hb dL_law_744 rfl (lv_at hl 3 rfl) ?_
  refine lv_iconst (v := (1 : Int32)) hx hb dL_law_745 (by decide) ?_
  refine lv_iadd hx hb dL_law_746 ?_
  obtain ⟨y56, ey56, h⟩ := bd_in h
  refine slR hx hb hX hbl hbA hS ey56 dL_law_747 ?_
  obtain ⟨u57, eu57, h⟩ := bd_in h
  refine kI (va_runV (As := [.int y56]) (rest := []) ⟨hx, hb, hml, hown, hts⟩ (c_X4_richest l D cA cQ adF adB adT adH kH adR adO vB vT vH bH vR vO y56 u57 eu57 _) (cwV 1 hts gL_law_X4_richest rfl rfl rfl (by decide +kernel) ⟨Nat.le_of_ble_eq_true rfl, Nat.le_of_ble_eq_true rfl⟩) (pV (ci := 4) (q := (RX4, TX4, 5)) hK hN hP hD [0, 1, 2, 3, 4, 5, 6, 7, 8, 9, 10, 11, 12, 13, 14, 15, 16, 17, 18, 19, 20, 21, 22, 23, 24, 25, 26, 27, 28, 29, 30, 31, 32, 33, 34, 35, 36, 37, 38, 39, 40, 41, 42, 43, 44, 45, 46, 47, 48, 49, 50, 51, 52, 53, 54, 55, 56, 57, 58, 59, 60, 61, 62, 63, 64, 65, 66, 67, 68, 69, 70, 71, 72, 73, 74, 75, 76, 77, 78, 79, 80, 81, 82, 83, 84, 85, 86, 87, 88, 89, 90, 91, 92, 93, 94] rfl rfl rfl rfl) rfl rfl hl.1 rfl (lv_room (Nat.le_of_ble_eq_true rfl)) dL_law_748 ⟨Nat.le_of_ble_eq_true rfl, Nat.le_of_ble_eq_true rfl⟩) hP hD hS hA [0, 1, 2, 3, 4, 5, 6, 7, 8, 9, 10, 11, 12, 13, 14, 15, 16, 17, 18, 19, 20, 21, 22, 23, 24, 25, 26, 27, 28, 29, 30, 31, 32, 33, 34, 35, 36, 37, 38, 39, 40, 41, 42, 43, 44, 45, 46, 47, 48, 49, 50, 51, 52, 53, 54, 55, 56, 57, 58, 59, 60, 61, 62, 63, 64, 65, 66, 67, 68, 69, 70, 71, 72, 73, 74, 75, 76, 77, 78, 79, 80, 81, 82, 83, 84, 85, 86, 87, 88, 89, 90, 91, 92, 93, 94] rfl rfl (ws' := (wF cA cQ adF adB adT adH kH adR adO vB vT vH bH vR vO ++ wM cA adM vM)) rfl (fun H locs hP hD hS => ?_)
  refine lv_aload_n hx hb dL_law_751 rfl (lv_at hl 2 rfl) ?_
  refine lv_aload_n hx hb dL_law_752 rfl (lv_at hl 0 rfl) ?_
  refine lv_iload_n hx hb dL_law_753 rfl (lv_at hl 3 rfl) ?_
  refine lv_iconst (v := (1 : Int32)) hx hb dL_law_754 (by decide) ?_
  refine lv_iadd hx hb dL_law_755 ?_
  obtain ⟨y58, ey58, h⟩ := bd_in h
  refine slR hx hb hX hbl hbA hS ey58 dL_law_756 ?_
  obtain ⟨u59, eu59, h⟩ := bd_in h
  refine kI (va_runV (As := [.int y58]) (rest := [.int u57]) ⟨hx, hb, hml, hown, hts⟩ (c_X5_richest l D cA cQ adM vM y58 u59 eu59 _) (cwV 1 hts gL_law_X5_richest rfl rfl rfl (by decide +kernel) ⟨Nat.le_of_ble_eq_true rfl, Nat.le_of_ble_eq_true rfl⟩) (pV (ci := 5) (q := (RX5, TX5, 18)) hK hN hP hD [95, 96, 97, 98, 99, 100, 101, 102, 103, 104] rfl rfl rfl rfl) rfl rfl hl.1 rfl (lv_room (Nat.le_of_ble_eq_true rfl)) dL_law_757 ⟨Nat.le_of_ble_eq_true rfl, Nat.le_of_ble_eq_true rfl⟩) hP hD hS hA [95, 96, 97, 98, 99, 100, 101, 102, 103, 104] rfl rfl (ws' := (wF cA cQ adF adB adT adH kH adR adO vB vT vH bH vR vO ++ wM cA adM vM)) rfl (fun H locs hP hD hS => ?_)
  refine lv_icmp_eq (tgt := 886) hx hb dL_law_760 (by decide) (fun c60 => ?_) (fun c60 => ?_)
  · have h := (if_pos c60).symm.trans h
    refine lv_iinc (v := (x3 + (5 : Int32))) (lv' := [(3, .int (x3 + (5 : Int32))), (0, .ref b), (1, .ref adF), (2, .ref (adM 0))]) hx hb dL_law_886 hl (k := 3) rfl rfl (by decide) rfl (fun ls hl => ?_)
    refine lv_goto (tgt := 18) hx hb dL_law_889 (by decide) ?_
    exact ih18 vB vT vH bH vR vO vM (x3 + (5 : Int32)) _ _ _ h hP hD hS (lv_sub hl [1, 2, 3, 0] rfl)
  · have h := (if_neg c60).symm.trans h
    refine lv_iconst (v := (0 : Int32)) hx hb dL_law_763 (by decide) ?_
    exact absurd h (by decide)
set_option maxHeartbeats 8000000 in
set_option maxRecDepth 100000 in
theorem law_b719 {p : Program} {l : Launch} {e : Env} {s : State} {m : MethodId} {below : List Frame} {meth : Method} {c : Code} {D : va_G} {cA cQ : ClassId} {b n0 : Nat} {xs : Nat → Int32} (C0 : lw_At p s m meth c b n0 xs) (hK : va_K D vwCl (TY cA cQ) s) (adF : Nat) (adB adT adH : Nat → Nat) (kH : Nat → Nat → Nat) (adR adO adM : Nat → Nat) (k18 : St → St → St → (Nat → St) → St → St → St → Int32 → Option Int32) (ih18 : ∀ (vB : St) (vT : St) (vH : St) (bH : Nat → St) (vR : St) (vO : St) (vM : St) (x3 : Int32) (H : Heap) (locs : List Loc) (ls : Array Slot), k18 vB vT vH bH vR vO vM x3 = some 1 → va_P D vwCl (wF cA cQ adF adB adT adH kH adR adO vB vT vH bH vR vO ++ wM cA adM vM) H → va_D (fun q : Nat => s.heap.size ≤ q) (wF cA cQ adF adB adT adH kH adR adO vB vT vH bH vR vO ++ wM cA adM vM) → va_S (fun q : Nat => s.heap.size ≤ q) s.heap H locs → lv_has ls 4 [(0, .ref b), (1, .ref adF), (2, .ref (adM 0)), (3, .int x3)] → W p l e room_1 s m #[Value.ref b] below meth c H locs 600000 7302250 (lw_Z below #[Value.ref b] s) (F0 m 18 ls [])) : ∀ (vB : St) (vT : St) (vH : St) (bH : Nat → St) (vR : St) (vO : St) (vM : St) (x3 : Int32) (H : Heap) (locs : List Loc) (ls : Array Slot), L_law_b719 xs n0 k18 vB vT vH bH vR vO vM x3 = some 1 → va_P D vwCl (wF cA cQ adF adB adT adH kH adR adO vB vT vH bH vR vO ++ wM cA adM vM) H → va_D (fun q : Nat => s.heap.size ≤ q) (wF cA cQ adF adB adT adH kH adR adO vB vT vH bH vR vO ++ wM cA adM vM) → va_S (fun q : Nat => s.heap.size ≤ q) s.heap H locs → lv_has ls 4 [(0, .ref b), (1, .ref adF), (2, .ref (adM 0)), (3, .int x3)] → W p l e room_1 s m #[Value.ref b] below meth c H locs 600000 7302250 (lw_Z below #[Value.ref b] s) (F0 m 719 ls []) := by
  have C1 := C0
  obtain ⟨hx, hb, hr, hml, hown, hts, hX, hbl, hlocks, hgv⟩ := C0
  have hts0 := hts
  have hN : NW s := lw_nw hts0
  have hts : ∀ w ∈ wsL_law, w.before #[Value.ref b] s = true := fun w h => hts0 w (wsL_law_in w h)
  have hown : s.vm.findClass RL = some m.cls := hown
  have hA : ∀ q : Nat, s.heap.size ≤ q → (fun q : Nat => s.heap.size ≤ q) q := fun _ h => h
  have hbA : ¬ (fun q : Nat => s.heap.size ≤ q) b := Nat.not_le.mpr hbl
  intro vB vT vH bH vR vO vM x3 H locs ls h hP hD hS hl
  unfold L_law_b719 at h
  refine lv_aload_n hx hb dL_law_719 rfl (lv_at hl 1 rfl) ?_
  refine lv_aload_n hx hb dL_law_720 rfl (lv_at hl 0 rfl) ?_
  refine lv_iload_n hx hb dL_law_721 rfl (lv_at hl 3 rfl) ?_
  refine lv_iconst (v := (1 : Int32)) hx hb dL_law_722 (by decide) ?_
  refine lv_iadd hx hb dL_law_723 ?_
  obtain ⟨y61, ey61, h⟩ := bd_in h
  refine slR hx hb hX hbl hbA hS ey61 dL_law_724 ?_
  obtain ⟨u62, eu62, h⟩ := bd_in h
  refine kI (va_runV (As := [.int y61]) (rest := []) ⟨hx, hb, hml, hown, hts⟩ (c_X4_spoilsIn l D cA cQ adF adB adT adH kH adR adO vB vT vH bH vR vO y61 u62 eu62 _) (cwV 1 hts gL_law_X4_spoilsIn rfl rfl rfl (by decide +kernel) ⟨Nat.le_of_ble_eq_true rfl, Nat.le_of_ble_eq_true rfl⟩) (pV (ci := 4) (q := (RX4, TX4, 5)) hK hN hP hD [0, 1, 2, 3, 4, 5, 6, 7, 8, 9, 10, 11, 12, 13, 14, 15, 16, 17, 18, 19, 20, 21, 22, 23, 24, 25, 26, 27, 28, 29, 30, 31, 32, 33, 34, 35, 36, 37, 38, 39, 40, 41, 42, 43, 44, 45, 46, 47, 48, 49, 50, 51, 52, 53, 54, 55, 56, 57, 58, 59, 60, 61, 62, 63, 64, 65, 66, 67, 68, 69, 70, 71, 72, 73, 74, 75, 76, 77, 78, 79, 80, 81, 82, 83, 84, 85, 86, 87, 88, 89, 90, 91, 92, 93, 94] rfl rfl rfl rfl) rfl rfl hl.1 rfl (lv_room (Nat.le_of_ble_eq_true rfl)) dL_law_725 ⟨Nat.le_of_ble_eq_true rfl, Nat.le_of_ble_eq_true rfl⟩) hP hD hS hA [0, 1, 2, 3, 4, 5, 6, 7, 8, 9, 10, 11, 12, 13, 14, 15, 16, 17, 18, 19, 20, 21, 22, 23, 24, 25, 26, 27, 28, 29, 30, 31, 32, 33, 34, 35, 36, 37, 38, 39, 40, 41, 42, 43, 44, 45, 46, 47, 48, 49, 50, 51, 52, 53, 54, 55, 56, 57, 58, 59, 60, 61, 62, 63, 64, 65, 66, 67, 68, 69, 70, 71, 72, 73, 74, 75, 76, 77, 78, 79, 80, 81, 82, 83, 84, 85, 86, 87, 88, 89, 90, 91, 92, 93, 94] rfl rfl (ws' := (wF cA cQ adF adB adT adH kH adR adO vB vT vH bH vR vO ++ wM cA adM vM)) rfl (fun H locs hP hD hS => ?_)
  refine lv_aload_n hx hb dL_law_728 rfl (lv_at hl 2 rfl) ?_
  refine lv_aload_n hx hb dL_law_729 rfl (lv_at hl 0 rfl) ?_
  refine lv_iload_n hx hb dL_law_730 rfl (lv_at hl 3 rfl) ?_
  refine lv_iconst (v := (1 : Int32)) hx hb dL_law_731 (by decide) ?_
  refine lv_iadd hx hb dL_law_732 ?_
  obtain ⟨y63, ey63, h⟩ := bd_in h
  refine slR hx hb hX hbl hbA hS ey63 dL_law_733 ?_
  obtain ⟨u64, eu64, h⟩ := bd_in h
  refine kI (va_runV (As := [.int y63]) (rest := [.int u62]) ⟨hx, hb, hml, hown, hts⟩ (c_X5_spoilsIn l D cA cQ adM vM y63 u64 eu64 _) (cwV 1 hts gL_law_X5_spoilsIn rfl rfl rfl (by decide +kernel) ⟨Nat.le_of_ble_eq_true rfl, Nat.le_of_ble_eq_true rfl⟩) (pV (ci := 5) (q := (RX5, TX5, 18)) hK hN hP hD [95, 96, 97, 98, 99, 100, 101, 102, 103, 104] rfl rfl rfl rfl) rfl rfl hl.1 rfl (lv_room (Nat.le_of_ble_eq_true rfl)) dL_law_734 ⟨Nat.le_of_ble_eq_true rfl, Nat.le_of_ble_eq_true rfl⟩) hP hD hS hA [95, 96, 97, 98, 99, 100, 101, 102, 103, 104] rfl rfl (ws' := (wF cA cQ adF adB adT adH kH adR adO vB vT vH bH vR vO ++ wM cA adM vM)) rfl (fun H locs hP hD hS => ?_)
  refine lv_icmp_eq (tgt := 886) hx hb dL_law_737 (by decide) (fun c65 => ?_) (fun c65 => ?_)
  · have h := (if_pos c65).symm.trans h
    refine lv_iinc (v := (x3 + (5 : Int32))) (lv' := [(3, .int (x3 + (5 : Int32))), (0, .ref b), (1, .ref adF), (2, .ref (adM 0))]) hx hb dL_law_886 hl (k := 3) rfl rfl (by decide) rfl (fun ls hl => ?_)
    refine lv_goto (tgt := 18) hx hb dL_law_889 (by decide) ?_
    exact ih18 vB vT vH bH vR vO vM (x3 + (5 : Int32)) _ _ _ h hP hD hS (lv_sub hl [1, 2, 3, 0] rfl)
  · have h := (if_neg c65).symm.trans h
    refine lv_iconst (v := (0 : Int32)) hx hb dL_law_740 (by decide) ?_
    exact absurd h (by decide)
set_option maxHeartbeats 8000000 in
set_option maxRecDepth 100000 in
theorem law_b696 {p : Program} {l : Launch} {e : Env} {s : State} {m : MethodId} {below : List Frame} {meth : Method} {c : Code} {D : va_G} {cA cQ : ClassId} {b n0 : Nat} {xs : Nat → Int32} (C0 : lw_At p s m meth c b n0 xs) (hK : va_K D vwCl (TY cA cQ) s) (adF : Nat) (adB adT adH : Nat → Nat) (kH : Nat → Nat → Nat) (adR adO adM : Nat → Nat) (k18 : St → St → St → (Nat → St) → St → St → St → Int32 → Option Int32) (ih18 : ∀ (vB : St) (vT : St) (vH : St) (bH : Nat → St) (vR : St) (vO : St) (vM : St) (x3 : Int32) (H : Heap) (locs : List Loc) (ls : Array Slot), k18 vB vT vH bH vR vO vM x3 = some 1 → va_P D vwCl (wF cA cQ adF adB adT adH kH adR adO vB vT vH bH vR vO ++ wM cA adM vM) H → va_D (fun q : Nat => s.heap.size ≤ q) (wF cA cQ adF adB adT adH kH adR adO vB vT vH bH vR vO ++ wM cA adM vM) → va_S (fun q : Nat => s.heap.size ≤ q) s.heap H locs → lv_has ls 4 [(0, .ref b), (1, .ref adF), (2, .ref (adM 0)), (3, .int x3)] → W p l e room_1 s m #[Value.ref b] below meth c H locs 600000 7302250 (lw_Z below #[Value.ref b] s) (F0 m 18 ls [])) : ∀ (vB : St) (vT : St) (vH : St) (bH : Nat → St) (vR : St) (vO : St) (vM : St) (x3 : Int32) (H : Heap) (locs : List Loc) (ls : Array Slot), L_law_b696 xs n0 k18 vB vT vH bH vR vO vM x3 = some 1 → va_P D vwCl (wF cA cQ adF adB adT adH kH adR adO vB vT vH bH vR vO ++ wM cA adM vM) H → va_D (fun q : Nat => s.heap.size ≤ q) (wF cA cQ adF adB adT adH kH adR adO vB vT vH bH vR vO ++ wM cA adM vM) → va_S (fun q : Nat => s.heap.size ≤ q) s.heap H locs → lv_has ls 4 [(0, .ref b), (1, .ref adF), (2, .ref (adM 0)), (3, .int x3)] → W p l e room_1 s m #[Value.ref b] below meth c H locs 600000 7302250 (lw_Z below #[Value.ref b] s) (F0 m 696 ls []) := by
  have C1 := C0
  obtain ⟨hx, hb, hr, hml, hown, hts, hX, hbl, hlocks, hgv⟩ := C0
  have hts0 := hts
  have hN : NW s := lw_nw hts0
  have hts : ∀ w ∈ wsL_law, w.before #[Value.ref b] s = true := fun w h => hts0 w (wsL_law_in w h)
  have hown : s.vm.findClass RL = some m.cls := hown
  have hA : ∀ q : Nat, s.heap.size ≤ q → (fun q : Nat => s.heap.size ≤ q) q := fun _ h => h
  have hbA : ¬ (fun q : Nat => s.heap.size ≤ q) b := Nat.not_le.mpr hbl
  intro vB vT vH bH vR vO vM x3 H locs ls h hP hD hS hl
  unfold L_law_b696 at h
  refine lv_aload_n hx hb dL_law_696 rfl (lv_at hl 1 rfl) ?_
  refine lv_aload_n hx hb dL_law_697 rfl (lv_at hl 0 rfl) ?_
  refine lv_iload_n hx hb dL_law_698 rfl (lv_at hl 3 rfl) ?_
  refine lv_iconst (v := (1 : Int32)) hx hb dL_law_699 (by decide) ?_
  refine lv_iadd hx hb dL_law_700 ?_
  obtain ⟨y66, ey66, h⟩ := bd_in h
  refine slR hx hb hX hbl hbA hS ey66 dL_law_701 ?_
  obtain ⟨u67, eu67, h⟩ := bd_in h
  refine kI (va_runV (As := [.int y66]) (rest := []) ⟨hx, hb, hml, hown, hts⟩ (c_X4_deepest l D cA cQ adF adB adT adH kH adR adO vB vT vH bH vR vO y66 u67 eu67 _) (cwV 1 hts gL_law_X4_deepest rfl rfl rfl (by decide +kernel) ⟨Nat.le_of_ble_eq_true rfl, Nat.le_of_ble_eq_true rfl⟩) (pV (ci := 4) (q := (RX4, TX4, 5)) hK hN hP hD [0, 1, 2, 3, 4, 5, 6, 7, 8, 9, 10, 11, 12, 13, 14, 15, 16, 17, 18, 19, 20, 21, 22, 23, 24, 25, 26, 27, 28, 29, 30, 31, 32, 33, 34, 35, 36, 37, 38, 39, 40, 41, 42, 43, 44, 45, 46, 47, 48, 49, 50, 51, 52, 53, 54, 55, 56, 57, 58, 59, 60, 61, 62, 63, 64, 65, 66, 67, 68, 69, 70, 71, 72, 73, 74, 75, 76, 77, 78, 79, 80, 81, 82, 83, 84, 85, 86, 87, 88, 89, 90, 91, 92, 93, 94] rfl rfl rfl rfl) rfl rfl hl.1 rfl (lv_room (Nat.le_of_ble_eq_true rfl)) dL_law_702 ⟨Nat.le_of_ble_eq_true rfl, Nat.le_of_ble_eq_true rfl⟩) hP hD hS hA [0, 1, 2, 3, 4, 5, 6, 7, 8, 9, 10, 11, 12, 13, 14, 15, 16, 17, 18, 19, 20, 21, 22, 23, 24, 25, 26, 27, 28, 29, 30, 31, 32, 33, 34, 35, 36, 37, 38, 39, 40, 41, 42, 43, 44, 45, 46, 47, 48, 49, 50, 51, 52, 53, 54, 55, 56, 57, 58, 59, 60, 61, 62, 63, 64, 65, 66, 67, 68, 69, 70, 71, 72, 73, 74, 75, 76, 77, 78, 79, 80, 81, 82, 83, 84, 85, 86, 87, 88, 89, 90, 91, 92, 93, 94] rfl rfl (ws' := (wF cA cQ adF adB adT adH kH adR adO vB vT vH bH vR vO ++ wM cA adM vM)) rfl (fun H locs hP hD hS => ?_)
  refine lv_aload_n hx hb dL_law_705 rfl (lv_at hl 2 rfl) ?_
  refine lv_aload_n hx hb dL_law_706 rfl (lv_at hl 0 rfl) ?_
  refine lv_iload_n hx hb dL_law_707 rfl (lv_at hl 3 rfl) ?_
  refine lv_iconst (v := (1 : Int32)) hx hb dL_law_708 (by decide) ?_
  refine lv_iadd hx hb dL_law_709 ?_
  obtain ⟨y68, ey68, h⟩ := bd_in h
  refine slR hx hb hX hbl hbA hS ey68 dL_law_710 ?_
  obtain ⟨u69, eu69, h⟩ := bd_in h
  refine kI (va_runV (As := [.int y68]) (rest := [.int u67]) ⟨hx, hb, hml, hown, hts⟩ (c_X5_deepest l D cA cQ adM vM y68 u69 eu69 _) (cwV 1 hts gL_law_X5_deepest rfl rfl rfl (by decide +kernel) ⟨Nat.le_of_ble_eq_true rfl, Nat.le_of_ble_eq_true rfl⟩) (pV (ci := 5) (q := (RX5, TX5, 18)) hK hN hP hD [95, 96, 97, 98, 99, 100, 101, 102, 103, 104] rfl rfl rfl rfl) rfl rfl hl.1 rfl (lv_room (Nat.le_of_ble_eq_true rfl)) dL_law_711 ⟨Nat.le_of_ble_eq_true rfl, Nat.le_of_ble_eq_true rfl⟩) hP hD hS hA [95, 96, 97, 98, 99, 100, 101, 102, 103, 104] rfl rfl (ws' := (wF cA cQ adF adB adT adH kH adR adO vB vT vH bH vR vO ++ wM cA adM vM)) rfl (fun H locs hP hD hS => ?_)
  refine lv_icmp_eq (tgt := 886) hx hb dL_law_714 (by decide) (fun c70 => ?_) (fun c70 => ?_)
  · have h := (if_pos c70).symm.trans h
    refine lv_iinc (v := (x3 + (5 : Int32))) (lv' := [(3, .int (x3 + (5 : Int32))), (0, .ref b), (1, .ref adF), (2, .ref (adM 0))]) hx hb dL_law_886 hl (k := 3) rfl rfl (by decide) rfl (fun ls hl => ?_)
    refine lv_goto (tgt := 18) hx hb dL_law_889 (by decide) ?_
    exact ih18 vB vT vH bH vR vO vM (x3 + (5 : Int32)) _ _ _ h hP hD hS (lv_sub hl [1, 2, 3, 0] rfl)
  · have h := (if_neg c70).symm.trans h
    refine lv_iconst (v := (0 : Int32)) hx hb dL_law_717 (by decide) ?_
    exact absurd h (by decide)
set_option maxHeartbeats 8000000 in
set_option maxRecDepth 100000 in
theorem law_b653 {p : Program} {l : Launch} {e : Env} {s : State} {m : MethodId} {below : List Frame} {meth : Method} {c : Code} {D : va_G} {cA cQ : ClassId} {b n0 : Nat} {xs : Nat → Int32} (C0 : lw_At p s m meth c b n0 xs) (hK : va_K D vwCl (TY cA cQ) s) (adF : Nat) (adB adT adH : Nat → Nat) (kH : Nat → Nat → Nat) (adR adO adM : Nat → Nat) (k18 : St → St → St → (Nat → St) → St → St → St → Int32 → Option Int32) (ih18 : ∀ (vB : St) (vT : St) (vH : St) (bH : Nat → St) (vR : St) (vO : St) (vM : St) (x3 : Int32) (H : Heap) (locs : List Loc) (ls : Array Slot), k18 vB vT vH bH vR vO vM x3 = some 1 → va_P D vwCl (wF cA cQ adF adB adT adH kH adR adO vB vT vH bH vR vO ++ wM cA adM vM) H → va_D (fun q : Nat => s.heap.size ≤ q) (wF cA cQ adF adB adT adH kH adR adO vB vT vH bH vR vO ++ wM cA adM vM) → va_S (fun q : Nat => s.heap.size ≤ q) s.heap H locs → lv_has ls 4 [(0, .ref b), (1, .ref adF), (2, .ref (adM 0)), (3, .int x3)] → W p l e room_1 s m #[Value.ref b] below meth c H locs 600000 7302250 (lw_Z below #[Value.ref b] s) (F0 m 18 ls [])) : ∀ (vB : St) (vT : St) (vH : St) (bH : Nat → St) (vR : St) (vO : St) (vM : St) (x3 : Int32) (H : Heap) (locs : List Loc) (ls : Array Slot), L_law_b653 xs n0 k18 vB vT vH bH vR vO vM x3 = some 1 → va_P D vwCl (wF cA cQ adF adB adT adH kH adR adO vB vT vH bH vR vO ++ wM cA adM vM) H → va_D (fun q : Nat => s.heap.size ≤ q) (wF cA cQ adF adB adT adH kH adR adO vB vT vH bH vR vO ++ wM cA adM vM) → va_S (fun q : Nat => s.heap.size ≤ q) s.heap H locs → lv_has ls 4 [(0, .ref b), (1, .ref adF), (2, .ref (adM 0)), (3, .int x3)] → W p l e room_1 s m #[Value.ref b] below meth c H locs 600000 7302250 (lw_Z below #[Value.ref b] s) (F0 m 653 ls []) := by
  have C1 := C0
  obtain ⟨hx, hb, hr, hml, hown, hts, hX, hbl, hlocks, hgv⟩ := C0
  have hts0 := hts
  have hN : NW s := lw_nw hts0
  have hts : ∀ w ∈ wsL_law, w.before #[Value.ref b] s = true := fun w h => hts0 w (wsL_law_in w h)
  have hown : s.vm.findClass RL = some m.cls := hown
  have hA : ∀ q : Nat, s.heap.size ≤ q → (fun q : Nat => s.heap.size ≤ q) q := fun _ h => h
  have hbA : ¬ (fun q : Nat => s.heap.size ≤ q) b := Nat.not_le.mpr hbl
  intro vB vT vH bH vR vO vM x3 H locs ls h hP hD hS hl
  unfold L_law_b653 at h
  refine lv_aload_n hx hb dL_law_653 rfl (lv_at hl 1 rfl) ?_
  refine lv_aload_n hx hb dL_law_654 rfl (lv_at hl 0 rfl) ?_
  refine lv_iload_n hx hb dL_law_655 rfl (lv_at hl 3 rfl) ?_
  refine lv_iconst (v := (1 : Int32)) hx hb dL_law_656 (by decide) ?_
  refine lv_iadd hx hb dL_law_657 ?_
  obtain ⟨y71, ey71, h⟩ := bd_in h
  refine slR hx hb hX hbl hbA hS ey71 dL_law_658 ?_
  refine lv_aload_n hx hb dL_law_659 rfl (lv_at hl 0 rfl) ?_
  refine lv_iload_n hx hb dL_law_660 rfl (lv_at hl 3 rfl) ?_
  refine lv_iconst (v := (2 : Int32)) hx hb dL_law_661 (by decide) ?_
  refine lv_iadd hx hb dL_law_662 ?_
  obtain ⟨y72, ey72, h⟩ := bd_in h
  refine slR hx hb hX hbl hbA hS ey72 dL_law_663 ?_
  refine lv_aload_n hx hb dL_law_664 rfl (lv_at hl 0 rfl) ?_
  refine lv_iload_n hx hb dL_law_665 rfl (lv_at hl 3 rfl) ?_
  refine lv_iconst (v := (3 : Int32)) hx hb dL_law_666 (by decide) ?_
  refine lv_iadd hx hb dL_law_667 ?_
  obtain ⟨y73, ey73, h⟩ := bd_in h
  refine slR hx hb hX hbl hbA hS ey73 dL_law_668 ?_
  obtain ⟨u74, eu74, h⟩ := bd_in h
  refine kI (va_runV (As := [.int y71, .int y72, .int y73]) (rest := []) ⟨hx, hb, hml, hown, hts⟩ (c_X4_chain l D cA cQ adF adB adT adH kH adR adO vB vT vH bH vR vO y71 y72 y73 u74 eu74 _) (cwV 3 hts gL_law_X4_chain rfl rfl rfl (by decide +kernel) ⟨Nat.le_of_ble_eq_true rfl, Nat.le_of_ble_eq_true rfl⟩) (pV (ci := 4) (q := (RX4, TX4, 5)) hK hN hP hD [0, 1, 2, 3, 4, 5, 6, 7, 8, 9, 10, 11, 12, 13, 14, 15, 16, 17, 18, 19, 20, 21, 22, 23, 24, 25, 26, 27, 28, 29, 30, 31, 32, 33, 34, 35, 36, 37, 38, 39, 40, 41, 42, 43, 44, 45, 46, 47, 48, 49, 50, 51, 52, 53, 54, 55, 56, 57, 58, 59, 60, 61, 62, 63, 64, 65, 66, 67, 68, 69, 70, 71, 72, 73, 74, 75, 76, 77, 78, 79, 80, 81, 82, 83, 84, 85, 86, 87, 88, 89, 90, 91, 92, 93, 94] rfl rfl rfl rfl) rfl rfl hl.1 rfl (lv_room (Nat.le_of_ble_eq_true rfl)) dL_law_669 ⟨Nat.le_of_ble_eq_true rfl, Nat.le_of_ble_eq_true rfl⟩) hP hD hS hA [0, 1, 2, 3, 4, 5, 6, 7, 8, 9, 10, 11, 12, 13, 14, 15, 16, 17, 18, 19, 20, 21, 22, 23, 24, 25, 26, 27, 28, 29, 30, 31, 32, 33, 34, 35, 36, 37, 38, 39, 40, 41, 42, 43, 44, 45, 46, 47, 48, 49, 50, 51, 52, 53, 54, 55, 56, 57, 58, 59, 60, 61, 62, 63, 64, 65, 66, 67, 68, 69, 70, 71, 72, 73, 74, 75, 76, 77, 78, 79, 80, 81, 82, 83, 84, 85, 86, 87, 88, 89, 90, 91, 92, 93, 94] rfl rfl (ws' := (wF cA cQ adF adB adT adH kH adR adO vB vT vH bH u74.2 vO ++ wM cA adM vM)) rfl (fun H locs hP hD hS => ?_)
  refine lv_aload_n hx hb dL_law_672 rfl (lv_at hl 2 rfl) ?_
  refine lv_aload_n hx hb dL_law_673 rfl (lv_at hl 0 rfl) ?_
  refine lv_iload_n hx hb dL_law_674 rfl (lv_at hl 3 rfl) ?_
  refine lv_iconst (v := (1 : Int32)) hx hb dL_law_675 (by decide) ?_
  refine lv_iadd hx hb dL_law_676 ?_
  obtain ⟨y75, ey75, h⟩ := bd_in h
  refine slR hx hb hX hbl hbA hS ey75 dL_law_677 ?_
  refine lv_aload_n hx hb dL_law_678 rfl (lv_at hl 0 rfl) ?_
  refine lv_iload_n hx hb dL_law_679 rfl (lv_at hl 3 rfl) ?_
  refine lv_iconst (v := (2 : Int32)) hx hb dL_law_680 (by decide) ?_
  refine lv_iadd hx hb dL_law_681 ?_
  obtain ⟨y76, ey76, h⟩ := bd_in h
  refine slR hx hb hX hbl hbA hS ey76 dL_law_682 ?_
  refine lv_aload_n hx hb dL_law_683 rfl (lv_at hl 0 rfl) ?_
  refine lv_iload_n hx hb dL_law_684 rfl (lv_at hl 3 rfl) ?_
  refine lv_iconst (v := (3 : Int32)) hx hb dL_law_685 (by decide) ?_
  refine lv_iadd hx hb dL_law_686 ?_
  obtain ⟨y77, ey77, h⟩ := bd_in h
  refine slR hx hb hX hbl hbA hS ey77 dL_law_687 ?_
  obtain ⟨u78, eu78, h⟩ := bd_in h
  refine kI (va_runV (As := [.int y75, .int y76, .int y77]) (rest := [.int u74.1]) ⟨hx, hb, hml, hown, hts⟩ (c_X5_chain l D cA cQ adM vM y75 y76 y77 u78 eu78 _) (cwV 3 hts gL_law_X5_chain rfl rfl rfl (by decide +kernel) ⟨Nat.le_of_ble_eq_true rfl, Nat.le_of_ble_eq_true rfl⟩) (pV (ci := 5) (q := (RX5, TX5, 18)) hK hN hP hD [95, 96, 97, 98, 99, 100, 101, 102, 103, 104] rfl rfl rfl rfl) rfl rfl hl.1 rfl (lv_room (Nat.le_of_ble_eq_true rfl)) dL_law_688 ⟨Nat.le_of_ble_eq_true rfl, Nat.le_of_ble_eq_true rfl⟩) hP hD hS hA [95, 96, 97, 98, 99, 100, 101, 102, 103, 104] rfl rfl (ws' := (wF cA cQ adF adB adT adH kH adR adO vB vT vH bH u74.2 vO ++ wM cA adM u78.2)) rfl (fun H locs hP hD hS => ?_)
  refine lv_icmp_eq (tgt := 886) hx hb dL_law_691 (by decide) (fun c79 => ?_) (fun c79 => ?_)
  · have h := (if_pos c79).symm.trans h
    refine lv_iinc (v := (x3 + (5 : Int32))) (lv' := [(3, .int (x3 + (5 : Int32))), (0, .ref b), (1, .ref adF), (2, .ref (adM 0))]) hx hb dL_law_886 hl (k := 3) rfl rfl (by decide) rfl (fun ls hl => ?_)
    refine lv_goto (tgt := 18) hx hb dL_law_889 (by decide) ?_
    exact ih18 vB vT vH bH u74.2 vO u78.2 (x3 + (5 : Int32)) _ _ _ h hP hD hS (lv_sub hl [1, 2, 3, 0] rfl)
  · have h := (if_neg c79).symm.trans h
    refine lv_iconst (v := (0 : Int32)) hx hb dL_law_694 (by decide) ?_
    exact absurd h (by decide)

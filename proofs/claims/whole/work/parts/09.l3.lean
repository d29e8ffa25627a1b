set_option maxHeartbeats 8000000 in
set_option maxRecDepth 100000 in
theorem law_b366 {p : Program} {l : Launch} {e : Env} {s : State} {m : MethodId} {below : List Frame} {meth : Method} {c : Code} {D : va_G} {cA cQ : ClassId} {b n0 : Nat} {xs : Nat → Int32} (C0 : lw_At p s m meth c b n0 xs) (hK : va_K D vwCl (TY cA cQ) s) (adF : Nat) (adB adT adH : Nat → Nat) (kH : Nat → Nat → Nat) (adR adO adM : Nat → Nat) (k18 : St → St → St → (Nat → St) → St → St → St → Int32 → Option Int32) (ih18 : ∀ (vB : St) (vT : St) (vH : St) (bH : Nat → St) (vR : St) (vO : St) (vM : St) (x3 : Int32) (H : Heap) (locs : List Loc) (ls : Array Slot), k18 vB vT vH bH vR vO vM x3 = some 1 → va_P D vwCl (wF cA cQ adF adB adT adH kH adR adO vB vT vH bH vR vO ++ wM cA adM vM) H → va_D (fun q : Nat => s.heap.size ≤ q) (wF cA cQ adF adB adT adH kH adR adO vB vT vH bH vR vO ++ wM cA adM vM) → va_S (fun q : Nat => s.heap.size ≤ q) s.heap H locs → lv_has ls 4 [(0, .ref b), (1, .ref adF), (2, .ref (adM 0)), (3, .int x3)] → W p l e room_1 s m #[Value.ref b] below meth c H locs 600000 7302250 (lw_Z below #[Value.ref b] s) (F0 m 18 ls [])) : ∀ (vB : St) (vT : St) (vH : St) (bH : Nat → St) (vR : St) (vO : St) (vM : St) (x3 : Int32) (H : Heap) (locs : List Loc) (ls : Array Slot), L_law_b366 xs n0 k18 vB vT vH bH vR vO vM x3 = some 1 → va_P D vwCl (wF cA cQ adF adB adT adH kH adR adO vB vT vH bH vR vO ++ wM cA adM vM) H → va_D (fun q : Nat => s.heap.size ≤ q) (wF cA cQ adF adB adT adH kH adR adO vB vT vH bH vR vO ++ wM cA adM vM) → va_S (fun q : Nat => s.heap.size ≤ q) s.heap H locs → lv_has ls 4 [(0, .ref b), (1, .ref adF), (2, .ref (adM 0)), (3, .int x3)] → W p l e room_1 s m #[Value.ref b] below meth c H locs 600000 7302250 (lw_Z below #[Value.ref b] s) (F0 m 366 ls []) := by
  have C1 := C0
  obtain ⟨hx, hb, hr, hml, hown, hts, hX, hbl, hlocks, hgv⟩ := C0
  have hts0 := hts
  have hN : NW s := lw_nw hts0
  have hts : ∀ w ∈ wsL_law, w.before #[Value.ref b] s = true := fun w h => hts0 w (wsL_law_in w h)
  have hown : s.vm.findClass RL = some m.cls := hown
  have hA : ∀ q : Nat, s.heap.size ≤ q → (fun q : Nat => s.heap.size ≤ q) q := fun _ h => h
  have hbA : ¬ (fun q : Nat => s.heap.size ≤ q) b := Nat.not_le.mpr hbl
  intro vB vT vH bH vR vO vM x3 H locs ls h hP hD hS hl
  unfold L_law_b366 at h
  refine lv_aload_n hx hb dL_law_366 rfl (lv_at hl 1 rfl) ?_
  refine lv_aload_n hx hb dL_law_367 rfl (lv_at hl 0 rfl) ?_
  refine lv_iload_n hx hb dL_law_368 rfl (lv_at hl 3 rfl) ?_
  refine lv_iconst (v := (1 : Int32)) hx hb dL_law_369 (by decide) ?_
  refine lv_iadd hx hb dL_law_370 ?_
  obtain ⟨y136, ey136, h⟩ := bd_in h
  refine slR hx hb hX hbl hbA hS ey136 dL_law_371 ?_
  obtain ⟨u137, eu137, h⟩ := bd_in h
  refine kI (va_runV (As := [.int y136]) (rest := []) ⟨hx, hb, hml, hown, hts⟩ (c_X4_clear l D cA cQ adF adB adT adH kH adR adO vB vT vH bH vR vO y136 u137 eu137 _) (cwV 1 hts gL_law_X4_clear rfl rfl rfl (by decide +kernel) ⟨Nat.le_of_ble_eq_true rfl, Nat.le_of_ble_eq_true rfl⟩) (pV (ci := 4) (q := (RX4, TX4, 5)) hK hN hP hD [0, 1, 2, 3, 4, 5, 6, 7, 8, 9, 10, 11, 12, 13, 14, 15, 16, 17, 18, 19, 20, 21, 22, 23, 24, 25, 26, 27, 28, 29, 30, 31, 32, 33, 34, 35, 36, 37, 38, 39, 40, 41, 42, 43, 44, 45, 46, 47, 48, 49, 50, 51, 52, 53, 54, 55, 56, 57, 58, 59, 60, 61, 62, 63, 64, 65, 66, 67, 68, 69, 70, 71, 72, 73, 74, 75, 76, 77, 78, 79, 80, 81, 82, 83, 84, 85, 86, 87, 88, 89, 90, 91, 92, 93, 94] rfl rfl rfl rfl) rfl rfl hl.1 rfl (lv_room (Nat.le_of_ble_eq_true rfl)) dL_law_372 ⟨Nat.le_of_ble_eq_true rfl, Nat.le_of_ble_eq_true rfl⟩) hP hD hS hA [0, 1, 2, 3, 4, 5, 6, 7, 8, 9, 10, 11, 12, 13, 14, 15, 16, 17, 18, 19, 20, 21, 22, 23, 24, 25, 26, 27, 28, 29, 30, 31, 32, 33, 34, 35, 36, 37, 38, 39, 40, 41, 42, 43, 44, 45, 46, 47, 48, 49, 50, 51, 52, 53, 54, 55, 56, 57, 58, 59, 60, 61, 62, 63, 64, 65, 66, 67, 68, 69, 70, 71, 72, 73, 74, 75, 76, 77, 78, 79, 80, 81, 82, 83, 84, 85, 86, 87, 88, 89, 90, 91, 92, 93, 94] rfl rfl (ws' := (wF cA cQ adF adB adT adH kH adR adO u137.2.1 u137.2.2.1 u137.2.2.2.1 u137.2.2.2.2.1 u137.2.2.2.2.2 vO ++ wM cA adM vM)) rfl (fun H locs hP hD hS => ?_)
  refine lv_aload_n hx hb dL_law_375 rfl (lv_at hl 2 rfl) ?_
  refine lv_aload_n hx hb dL_law_376 rfl (lv_at hl 0 rfl) ?_
  refine lv_iload_n hx hb dL_law_377 rfl (lv_at hl 3 rfl) ?_
  refine lv_iconst (v := (1 : Int32)) hx hb dL_law_378 (by decide) ?_
  refine lv_iadd hx hb dL_law_379 ?_
  obtain ⟨y138, ey138, h⟩ := bd_in h
  refine slR hx hb hX hbl hbA hS ey138 dL_law_380 ?_
  obtain ⟨u139, eu139, h⟩ := bd_in h
  refine kI (va_runV (As := [.int y138]) (rest := [.int u137.1]) ⟨hx, hb, hml, hown, hts⟩ (c_X5_clear l D cA cQ adM vM y138 u139 eu139 _) (cwV 1 hts gL_law_X5_clear rfl rfl rfl (by decide +kernel) ⟨Nat.le_of_ble_eq_true rfl, Nat.le_of_ble_eq_true rfl⟩) (pV (ci := 5) (q := (RX5, TX5, 18)) hK hN hP hD [95, 96, 97, 98, 99, 100, 101, 102, 103, 104] rfl rfl rfl rfl) rfl rfl hl.1 rfl (lv_room (Nat.le_of_ble_eq_true rfl)) dL_law_381 ⟨Nat.le_of_ble_eq_true rfl, Nat.le_of_ble_eq_true rfl⟩) hP hD hS hA [95, 96, 97, 98, 99, 100, 101, 102, 103, 104] rfl rfl (ws' := (wF cA cQ adF adB adT adH kH adR adO u137.2.1 u137.2.2.1 u137.2.2.2.1 u137.2.2.2.2.1 u137.2.2.2.2.2 vO ++ wM cA adM u139.2)) rfl (fun H locs hP hD hS => ?_)
  refine lv_icmp_eq (tgt := 886) hx hb dL_law_384 (by decide) (fun c140 => ?_) (fun c140 => ?_)
  · have h := (if_pos c140).symm.trans h
    refine lv_iinc (v := (x3 + (5 : Int32))) (lv' := [(3, .int (x3 + (5 : Int32))), (0, .ref b), (1, .ref adF), (2, .ref (adM 0))]) hx hb dL_law_886 hl (k := 3) rfl rfl (by decide) rfl (fun ls hl => ?_)
    refine lv_goto (tgt := 18) hx hb dL_law_889 (by decide) ?_
    exact ih18 u137.2.1 u137.2.2.1 u137.2.2.2.1 u137.2.2.2.2.1 u137.2.2.2.2.2 vO u139.2 (x3 + (5 : Int32)) _ _ _ h hP hD hS (lv_sub hl [1, 2, 3, 0] rfl)
  · have h := (if_neg c140).symm.trans h
    refine lv_iconst (v := (0 : Int32)) hx hb dL_law_387 (by decide) ?_
    exact absurd h (by decide)
set_option maxHeartbeats 8000000 in
set_option maxRecDepth 100000 in
theorem law_b358 {p : Program} {l : Launch} {e : Env} {s : State} {m : MethodId} {below : List Frame} {meth : Method} {c : Code} {D : va_G} {cA cQ : ClassId} {b n0 : Nat} {xs : Nat → Int32} (C0 : lw_At p s m meth c b n0 xs) (hK : va_K D vwCl (TY cA cQ) s) (adF : Nat) (adB adT adH : Nat → Nat) (kH : Nat → Nat → Nat) (adR adO adM : Nat → Nat) (k18 : St → St → St → (Nat → St) → St → St → St → Int32 → Option Int32) (ih18 : ∀ (vB : St) (vT : St) (vH : St) (bH : Nat → St) (vR : St) (vO : St) (vM : St) (x3 : Int32) (H : Heap) (locs : List Loc) (ls : Array Slot), k18 vB vT vH bH vR vO vM x3 = some 1 → va_P D vwCl (wF cA cQ adF adB adT adH kH adR adO vB vT vH bH vR vO ++ wM cA adM vM) H → va_D (fun q : Nat => s.heap.size ≤ q) (wF cA cQ adF adB adT adH kH adR adO vB vT vH bH vR vO ++ wM cA adM vM) → va_S (fun q : Nat => s.heap.size ≤ q) s.heap H locs → lv_has ls 4 [(0, .ref b), (1, .ref adF), (2, .ref (adM 0)), (3, .int x3)] → W p l e room_1 s m #[Value.ref b] below meth c H locs 600000 7302250 (lw_Z below #[Value.ref b] s) (F0 m 18 ls [])) : ∀ (vB : St) (vT : St) (vH : St) (bH : Nat → St) (vR : St) (vO : St) (vM : St) (x3 : Int32) (t0 : Int32) (t2 : Int32) (H : Heap) (locs : List Loc) (ls : Array Slot), L_law_b358 xs n0 k18 vB vT vH bH vR vO vM x3 t0 t2 = some 1 → va_P D vwCl (wF cA cQ adF adB adT adH kH adR adO vB vT vH bH vR vO ++ wM cA adM vM) H → va_D (fun q : Nat => s.heap.size ≤ q) (wF cA cQ adF adB adT adH kH adR adO vB vT vH bH vR vO ++ wM cA adM vM) → va_S (fun q : Nat => s.heap.size ≤ q) s.heap H locs → lv_has ls 4 [(0, .ref b), (1, .ref adF), (2, .ref (adM 0)), (3, .int x3)] → W p l e room_1 s m #[Value.ref b] below meth c H locs 600000 7302250 (lw_Z below #[Value.ref b] s) (F0 m 358 ls [.int t2, .ref (adM 0), .int t0]) := by
  have C1 := C0
  obtain ⟨hx, hb, hr, hml, hown, hts, hX, hbl, hlocks, hgv⟩ := C0
  have hts0 := hts
  have hN : NW s := lw_nw hts0
  have hts : ∀ w ∈ wsL_law, w.before #[Value.ref b] s = true := fun w h => hts0 w (wsL_law_in w h)
  have hown : s.vm.findClass RL = some m.cls := hown
  have hA : ∀ q : Nat, s.heap.size ≤ q → (fun q : Nat => s.heap.size ≤ q) q := fun _ h => h
  have hbA : ¬ (fun q : Nat => s.heap.size ≤ q) b := Nat.not_le.mpr hbl
  intro vB vT vH bH vR vO vM x3 t0 t2 H locs ls h hP hD hS hl
  unfold L_law_b358 at h
  obtain ⟨u146, eu146, h⟩ := bd_in h
  refine kI (va_runV (As := [.int t2]) (rest := [.int t0]) ⟨hx, hb, hml, hown, hts⟩ (c_X5_holiday l D cA cQ adM vM t2 u146 eu146 _) (cwV 1 hts gL_law_X5_holiday rfl rfl rfl (by decide +kernel) ⟨Nat.le_of_ble_eq_true rfl, Nat.le_of_ble_eq_true rfl⟩) (pV (ci := 5) (q := (RX5, TX5, 18)) hK hN hP hD [95, 96, 97, 98, 99, 100, 101, 102, 103, 104] rfl rfl rfl rfl) rfl rfl hl.1 rfl (lv_room (Nat.le_of_ble_eq_true rfl)) dL_law_358 ⟨Nat.le_of_ble_eq_true rfl, Nat.le_of_ble_eq_true rfl⟩) hP hD hS hA [95, 96, 97, 98, 99, 100, 101, 102, 103, 104] rfl rfl (ws' := (wF cA cQ adF adB adT adH kH adR adO vB vT vH bH vR vO ++ wM cA adM u146.2)) rfl (fun H locs hP hD hS => ?_)
  refine lv_icmp_eq (tgt := 886) hx hb dL_law_361 (by decide) (fun c147 => ?_) (fun c147 => ?_)
  · have h := (if_pos c147).symm.trans h
    refine lv_iinc (v := (x3 + (5 : Int32))) (lv' := [(3, .int (x3 + (5 : Int32))), (0, .ref b), (1, .ref adF), (2, .ref (adM 0))]) hx hb dL_law_886 hl (k := 3) rfl rfl (by decide) rfl (fun ls hl => ?_)
    refine lv_goto (tgt := 18) hx hb dL_law_889 (by decide) ?_
    exact ih18 vB vT vH bH vR vO u146.2 (x3 + (5 : Int32)) _ _ _ h hP hD hS (lv_sub hl [1, 2, 3, 0] rfl)
  · have h := (if_neg c147).symm.trans h
    refine lv_iconst (v := (0 : Int32)) hx hb dL_law_364 (by decide) ?_
    exact absurd h (by decide)
set_option maxHeartbeats 8000000 in
set_option maxRecDepth 100000 in
theorem law_b341 {p : Program} {l : Launch} {e : Env} {s : State} {m : MethodId} {below : List Frame} {meth : Method} {c : Code} {D : va_G} {cA cQ : ClassId} {b n0 : Nat} {xs : Nat → Int32} (C0 : lw_At p s m meth c b n0 xs) (hK : va_K D vwCl (TY cA cQ) s) (adF : Nat) (adB adT adH : Nat → Nat) (kH : Nat → Nat → Nat) (adR adO adM : Nat → Nat) (k18 : St → St → St → (Nat → St) → St → St → St → Int32 → Option Int32) (ih18 : ∀ (vB : St) (vT : St) (vH : St) (bH : Nat → St) (vR : St) (vO : St) (vM : St) (x3 : Int32) (H : Heap) (locs : List Loc) (ls : Array Slot), k18 vB vT vH bH vR vO vM x3 = some 1 → va_P D vwCl (wF cA cQ adF adB adT adH kH adR adO vB vT vH bH vR vO ++ wM cA adM vM) H → va_D (fun q : Nat => s.heap.size ≤ q) (wF cA cQ adF adB adT adH kH adR adO vB vT vH bH vR vO ++ wM cA adM vM) → va_S (fun q : Nat => s.heap.size ≤ q) s.heap H locs → lv_has ls 4 [(0, .ref b), (1, .ref adF), (2, .ref (adM 0)), (3, .int x3)] → W p l e room_1 s m #[Value.ref b] below meth c H locs 600000 7302250 (lw_Z below #[Value.ref b] s) (F0 m 18 ls [])) : ∀ (vB : St) (vT : St) (vH : St) (bH : Nat → St) (vR : St) (vO : St) (vM : St) (x3 : Int32) (t1 : Int32) (H : Heap) (locs : List Loc) (ls : Array Slot), L_law_b341 xs n0 k18 vB vT vH bH vR vO vM x3 t1 = some 1 → va_P D vwCl (wF cA cQ adF adB adT adH kH adR adO vB vT vH bH vR vO ++ wM cA adM vM) H → va_D (fun q : Nat => s.heap.size ≤ q) (wF cA cQ adF adB adT adH kH adR adO vB vT vH bH vR vO ++ wM cA adM vM) → va_S (fun q : Nat => s.heap.size ≤ q) s.heap H locs → lv_has ls 4 [(0, .ref b), (1, .ref adF), (2, .ref (adM 0)), (3, .int x3)] → W p l e room_1 s m #[Value.ref b] below meth c H locs 600000 7302250 (lw_Z below #[Value.ref b] s) (F0 m 341 ls [.int t1, .ref adF]) := by
  have C1 := C0
  obtain ⟨hx, hb, hr, hml, hown, hts, hX, hbl, hlocks, hgv⟩ := C0
  have hts0 := hts
  have hN : NW s := lw_nw hts0
  have hts : ∀ w ∈ wsL_law, w.before #[Value.ref b] s = true := fun w h => hts0 w (wsL_law_in w h)
  have hown : s.vm.findClass RL = some m.cls := hown
  have hA : ∀ q : Nat, s.heap.size ≤ q → (fun q : Nat => s.heap.size ≤ q) q := fun _ h => h
  have hbA : ¬ (fun q : Nat => s.heap.size ≤ q) b := Nat.not_le.mpr hbl
  intro vB vT vH bH vR vO vM x3 t1 H locs ls h hP hD hS hl
  unfold L_law_b341 at h
  obtain ⟨u143, eu143, h⟩ := bd_in h
  refine kI (va_runV (As := [.int t1]) (rest := []) ⟨hx, hb, hml, hown, hts⟩ (c_X4_holiday l D cA cQ adF adB adT adH kH adR adO vB vT vH bH vR vO t1 u143 eu143 _) (cwV 1 hts gL_law_X4_holiday rfl rfl rfl (by decide +kernel) ⟨Nat.le_of_ble_eq_true rfl, Nat.le_of_ble_eq_true rfl⟩) (pV (ci := 4) (q := (RX4, TX4, 5)) hK hN hP hD [0, 1, 2, 3, 4, 5, 6, 7, 8, 9, 10, 11, 12, 13, 14, 15, 16, 17, 18, 19, 20, 21, 22, 23, 24, 25, 26, 27, 28, 29, 30, 31, 32, 33, 34, 35, 36, 37, 38, 39, 40, 41, 42, 43, 44, 45, 46, 47, 48, 49, 50, 51, 52, 53, 54, 55, 56, 57, 58, 59, 60, 61, 62, 63, 64, 65, 66, 67, 68, 69, 70, 71, 72, 73, 74, 75, 76, 77, 78, 79, 80, 81, 82, 83, 84, 85, 86, 87, 88, 89, 90, 91, 92, 93, 94] rfl rfl rfl rfl) rfl rfl hl.1 rfl (lv_room (Nat.le_of_ble_eq_true rfl)) dL_law_341 ⟨Nat.le_of_ble_eq_true rfl, Nat.le_of_ble_eq_true rfl⟩) hP hD hS hA [0, 1, 2, 3, 4, 5, 6, 7, 8, 9, 10, 11, 12, 13, 14, 15, 16, 17, 18, 19, 20, 21, 22, 23, 24, 25, 26, 27, 28, 29, 30, 31, 32, 33, 34, 35, 36, 37, 38, 39, 40, 41, 42, 43, 44, 45, 46, 47, 48, 49, 50, 51, 52, 53, 54, 55, 56, 57, 58, 59, 60, 61, 62, 63, 64, 65, 66, 67, 68, 69, 70, 71, 72, 73, 74, 75, 76, 77, 78, 79, 80, 81, 82, 83, 84, 85, 86, 87, 88, 89, 90, 91, 92, 93, 94] rfl rfl (ws' := (wF cA cQ adF adB adT adH kH adR adO u143.2.1 u143.2.2.1 u143.2.2.2.1 u143.2.2.2.2 vR vO ++ wM cA adM vM)) rfl (fun H locs hP hD hS => ?_)
  refine lv_aload_n hx hb dL_law_344 rfl (lv_at hl 2 rfl) ?_
  refine lv_aload_n hx hb dL_law_345 rfl (lv_at hl 0 rfl) ?_
  refine lv_iload_n hx hb dL_law_346 rfl (lv_at hl 3 rfl) ?_
  refine lv_iconst (v := (1 : Int32)) hx hb dL_law_347 (by decide) ?_
  refine lv_iadd hx hb dL_law_348 ?_
  obtain ⟨y144, ey144, h⟩ := bd_in h
  refine slR hx hb hX hbl hbA hS ey144 dL_law_349 ?_
  refine lv_if_eq (tgt := 357) hx hb dL_law_350 (by decide) (fun c145 => ?_) (fun c145 => ?_)
  · have h := (if_pos c145).symm.trans h
    refine lv_iconst (v := (0 : Int32)) hx hb dL_law_357 (by decide) ?_
    exact law_b358 C1 hK adF adB adT adH kH adR adO adM k18 ih18 u143.2.1 u143.2.2.1 u143.2.2.2.1 u143.2.2.2.2 vR vO vM x3 u143.1 (0 : Int32) _ _ _ h hP hD hS (lv_sub hl [0, 1, 2, 3] rfl)
  · have h := (if_neg c145).symm.trans h
    refine lv_iconst (v := (1 : Int32)) hx hb dL_law_353 (by decide) ?_
    refine lv_goto (tgt := 358) hx hb dL_law_354 (by decide) ?_
    exact law_b358 C1 hK adF adB adT adH kH adR adO adM k18 ih18 u143.2.1 u143.2.2.1 u143.2.2.2.1 u143.2.2.2.2 vR vO vM x3 u143.1 (1 : Int32) _ _ _ h hP hD hS (lv_sub hl [0, 1, 2, 3] rfl)
set_option maxHeartbeats 8000000 in
set_option maxRecDepth 100000 in
theorem law_b327 {p : Program} {l : Launch} {e : Env} {s : State} {m : MethodId} {below : List Frame} {meth : Method} {c : Code} {D : va_G} {cA cQ : ClassId} {b n0 : Nat} {xs : Nat → Int32} (C0 : lw_At p s m meth c b n0 xs) (hK : va_K D vwCl (TY cA cQ) s) (adF : Nat) (adB adT adH : Nat → Nat) (kH : Nat → Nat → Nat) (adR adO adM : Nat → Nat) (k18 : St → St → St → (Nat → St) → St → St → St → Int32 → Option Int32) (ih18 : ∀ (vB : St) (vT : St) (vH : St) (bH : Nat → St) (vR : St) (vO : St) (vM : St) (x3 : Int32) (H : Heap) (locs : List Loc) (ls : Array Slot), k18 vB vT vH bH vR vO vM x3 = some 1 → va_P D vwCl (wF cA cQ adF adB adT adH kH adR adO vB vT vH bH vR vO ++ wM cA adM vM) H → va_D (fun q : Nat => s.heap.size ≤ q) (wF cA cQ adF adB adT adH kH adR adO vB vT vH bH vR vO ++ wM cA adM vM) → va_S (fun q : Nat => s.heap.size ≤ q) s.heap H locs → lv_has ls 4 [(0, .ref b), (1, .ref adF), (2, .ref (adM 0)), (3, .int x3)] → W p l e room_1 s m #[Value.ref b] below meth c H locs 600000 7302250 (lw_Z below #[Value.ref b] s) (F0 m 18 ls [])) : ∀ (vB : St) (vT : St) (vH : St) (bH : Nat → St) (vR : St) (vO : St) (vM : St) (x3 : Int32) (H : Heap) (locs : List Loc) (ls : Array Slot), L_law_b327 xs n0 k18 vB vT vH bH vR vO vM x3 = some 1 → va_P D vwCl (wF cA cQ adF adB adT adH kH adR adO vB vT vH bH vR vO ++ wM cA adM vM) H → va_D (fun q : Nat => s.heap.size ≤ q) (wF cA cQ adF adB adT adH kH adR adO vB vT vH bH vR vO ++ wM cA adM vM) → va_S (fun q : Nat => s.heap.size ≤ q) s.heap H locs → lv_has ls 4 [(0, .ref b), (1, .ref adF), (2, .ref (adM 0)), (3, .int x3)] → W p l e room_1 s m #[Value.ref b] below meth c H locs 600000 7302250 (lw_Z below #[Value.ref b] s) (F0 m 327 ls []) := by
  have C1 := C0
  obtain ⟨hx, hb, hr, hml, hown, hts, hX, hbl, hlocks, hgv⟩ := C0
  have hts0 := hts
  have hN : NW s := lw_nw hts0
  have hts : ∀ w ∈ wsL_law, w.before #[Value.ref b] s = true := fun w h => hts0 w (wsL_law_in w h)
  have hown : s.vm.findClass RL = some m.cls := hown
  have hA : ∀ q : Nat, s.heap.size ≤ q → (fun q : Nat => s.heap.size ≤ q) q := fun _ h => h
  have hbA : ¬ (fun q : Nat => s.heap.size ≤ q) b := Nat.not_le.mpr hbl
  intro vB vT vH bH vR vO vM x3 H locs ls h hP hD hS hl
  unfold L_law_b327 at h
  refine lv_aload_n hx hb dL_law_327 rfl (lv_at hl 1 rfl) ?_
  refine lv_aload_n hx hb dL_law_328 rfl (lv_at hl 0 rfl) ?_
  refine lv_iload_n hx hb dL_law_329 rfl (lv_at hl 3 rfl) ?_
  refine lv_iconst (v := (1 : Int32)) hx hb dL_law_330 (by decide) ?_
  refine lv_iadd hx hb dL_law_331 ?_
  obtain ⟨y141, ey141, h⟩ := bd_in h
  refine slR hx hb hX hbl hbA hS ey141 dL_law_332 ?_
  refine lv_if_eq (tgt := 340) hx hb dL_law_333 (by decide) (fun c142 => ?_) (fun c142 => ?_)
  · have h := (if_pos c142).symm.trans h
    refine lv_iconst (v := (0 : Int32)) hx hb dL_law_340 (by decide) ?_
    exact law_b341 C1 hK adF adB adT adH kH adR adO adM k18 ih18 vB vT vH bH vR vO vM x3 (0 : Int32) _ _ _ h hP hD hS (lv_sub hl [0, 1, 2, 3] rfl)
  · have h := (if_neg c142).symm.trans h
    refine lv_iconst (v := (1 : Int32)) hx hb dL_law_336 (by decide) ?_
    refine lv_goto (tgt := 341) hx hb dL_law_337 (by decide) ?_
    exact law_b341 C1 hK adF adB adT adH kH adR adO adM k18 ih18 vB vT vH bH vR vO vM x3 (1 : Int32) _ _ _ h hP hD hS (lv_sub hl [0, 1, 2, 3] rfl)
set_option maxHeartbeats 8000000 in
set_option maxRecDepth 100000 in
theorem law_b304 {p : Program} {l : Launch} {e : Env} {s : State} {m : MethodId} {below : List Frame} {meth : Method} {c : Code} {D : va_G} {cA cQ : ClassId} {b n0 : Nat} {xs : Nat → Int32} (C0 : lw_At p s m meth c b n0 xs) (hK : va_K D vwCl (TY cA cQ) s) (adF : Nat) (adB adT adH : Nat → Nat) (kH : Nat → Nat → Nat) (adR adO adM : Nat → Nat) (k18 : St → St → St → (Nat → St) → St → St → St → Int32 → Option Int32) (ih18 : ∀ (vB : St) (vT : St) (vH : St) (bH : Nat → St) (vR : St) (vO : St) (vM : St) (x3 : Int32) (H : Heap) (locs : List Loc) (ls : Array Slot), k18 vB vT vH bH vR vO vM x3 = some 1 → va_P D vwCl (wF cA cQ adF adB adT adH kH adR adO vB vT vH bH vR vO ++ wM cA adM vM) H → va_D (fun q : Nat => s.heap.size ≤ q) (wF cA cQ adF adB adT adH kH adR adO vB vT vH bH vR vO ++ wM cA adM vM) → va_S (fun q : Nat => s.heap.size ≤ q) s.heap H locs → lv_has ls 4 [(0, .ref b), (1, .ref adF), (2, .ref (adM 0)), (3, .int x3)] → W p l e room_1 s m #[Value.ref b] below meth c H locs 600000 7302250 (lw_Z below #[Value.ref b] s) (F0 m 18 ls [])) : ∀ (vB : St) (vT : St) (vH : St) (bH : Nat → St) (vR : St) (vO : St) (vM : St) (x3 : Int32) (H : Heap) (locs : List Loc) (ls : Array Slot), L_law_b304 xs n0 k18 vB vT vH bH vR vO vM x3 = some 1 → va_P D vwCl (wF cA cQ adF adB adT adH kH adR adO vB vT vH bH vR vO ++ wM cA adM vM) H → va_D (fun q : Nat => s.heap.size ≤ q) (wF cA cQ adF adB adT adH kH adR adO vB vT vH bH vR vO ++ wM cA adM vM) → va_S (fun q : Nat => s.heap.size ≤ q) s.heap H locs → lv_has ls 4 [(0, .ref b), (1, .ref adF), (2, .ref (adM 0)), (3, .int x3)] → W p l e room_1 s m #[Value.ref b] below meth c H locs 600000 7302250 (lw_Z below #[Value.ref b] s) (F0 m 304 ls []) := by
  have C1 := C0
  obtain ⟨hx, hb, hr, hml, hown, hts, hX, hbl, hlocks, hgv⟩ := C0
  have hts0 := hts
  have hN : NW s := lw_nw hts0
  have hts : ∀ w ∈ wsL_law, w.before #[Value.ref b] s = true := fun w h => hts0 w (wsL_law_in w h)
  have hown : s.vm.findClass RL = some m.cls := hown
  have hA : ∀ q : Nat, s.heap.size ≤ q → (fun q : Nat => s.heap.size ≤ q) q := fun _ h => h
  have hbA : ¬ (fun q : Nat => s.heap.size ≤ q) b := Nat.not_le.mpr hbl
  intro vB vT vH bH vR vO vM x3 H locs ls h hP hD hS hl
  unfold L_law_b304 at h
  refine lv_aload_n hx hb dL_law_304 rfl (lv_at hl 1 rfl) ?_
  refine lv_aload_n hx hb dL_law_305 rfl (lv_at hl 0 rfl) ?_
  refine lv_iload_n hx hb dL_law_306 rfl (lv_at hl 3 rfl) ?_
  refine lv_iconst (v := (1 : Int32)) hx hb dL_law_307 (by decide) ?_
  refine lv_iadd hx hb dL_law_308 ?_
  obtain ⟨y148, ey148, h⟩ := bd_in h
  refine slR hx hb hX hbl hbA hS ey148 dL_law_309 ?_
  obtain ⟨u149, eu149, h⟩ := bd_in h
  refine kI (va_runV (As := [.int y148]) (rest := []) ⟨hx, hb, hml, hown, hts⟩ (c_X4_weeks l D cA cQ adF adB adT adH kH adR adO vB vT vH bH vR vO y148 u149 eu149 _) (cwV 1 hts gL_law_X4_weeks rfl rfl rfl (by decide +kernel) ⟨Nat.le_of_ble_eq_true rfl, Nat.le_of_ble_eq_true rfl⟩) (pV (ci := 4) (q := (RX4, TX4, 5)) hK hN hP hD [0, 1, 2, 3, 4, 5, 6, 7, 8, 9, 10, 11, 12, 13, 14, 15, 16, 17, 18, 19, 20, 21, 22, 23, 24, 25, 26, 27, 28, 29, 30, 31, 32, 33, 34, 35, 36, 37, 38, 39, 40, 41, 42, 43, 44, 45, 46, 47, 48, 49, 50, 51, 52, 53, 54, 55, 56, 57, 58, 59, 60, 61, 62, 63, 64, 65, 66, 67, 68, 69, 70, 71, 72, 73, 74, 75, 76, 77, 78, 79, 80, 81, 82, 83, 84, 85, 86, 87, 88, 89, 90, 91, 92, 93, 94] rfl rfl rfl rfl) rfl rfl hl.1 rfl (lv_room (Nat.le_of_ble_eq_true rfl)) dL_law_310 ⟨Nat.le_of_ble_eq_true rfl, Nat.le_of_ble_eq_true rfl⟩) hP hD hS hA [0, 1, 2, 3, 4, 5, 6, 7, 8, 9, 10, 11, 12, 13, 14, 15, 16, 17, 18, 19, 20, 21, 22, 23, 24, 25, 26, 27, 28, 29, 30, 31, 32, 33, 34, 35, 36, 37, 38, 39, 40, 41, 42, 43, 44, 45, 46, 47, 48, 49, 50, 51, 52, 53, 54, 55, 56, 57, 58, 59, 60, 61, 62, 63, 64, 65, 66, 67, 68, 69, 70, 71, 72, 73, 74, 75, 76, 77, 78, 79, 80, 81, 82, 83, 84, 85, 86, 87, 88, 89, 90, 91, 92, 93, 94] rfl rfl (ws' := (wF cA cQ adF adB adT adH kH adR adO u149.2.1 u149.2.2.1 u149.2.2.2.1 u149.2.2.2.2 vR vO ++ wM cA adM vM)) rfl (fun H locs hP hD hS => ?_)
  refine lv_aload_n hx hb dL_law_313 rfl (lv_at hl 2 rfl) ?_
  refine lv_aload_n hx hb dL_law_314 rfl (lv_at hl 0 rfl) ?_
  refine lv_iload_n hx hb dL_law_315 rfl (lv_at hl 3 rfl) ?_
  refine lv_iconst (v := (1 : Int32)) hx hb dL_law_316 (by decide) ?_
  refine lv_iadd hx hb dL_law_317 ?_
  obtain ⟨y150, ey150, h⟩ := bd_in h
  refine slR hx hb hX hbl hbA hS ey150 dL_law_318 ?_
  obtain ⟨u151, eu151, h⟩ := bd_in h
  refine kI (va_runV (As := [.int y150]) (rest := [.int u149.1]) ⟨hx, hb, hml, hown, hts⟩ (c_X5_weeks l D cA cQ adM vM y150 u151 eu151 _) (cwV 1 hts gL_law_X5_weeks rfl rfl rfl (by decide +kernel) ⟨Nat.le_of_ble_eq_true rfl, Nat.le_of_ble_eq_true rfl⟩) (pV (ci := 5) (q := (RX5, TX5, 18)) hK hN hP hD [95, 96, 97, 98, 99, 100, 101, 102, 103, 104] rfl rfl rfl rfl) rfl rfl hl.1 rfl (lv_room (Nat.le_of_ble_eq_true rfl)) dL_law_319 ⟨Nat.le_of_ble_eq_true rfl, Nat.le_of_ble_eq_true rfl⟩) hP hD hS hA [95, 96, 97, 98, 99, 100, 101, 102, 103, 104] rfl rfl (ws' := (wF cA cQ adF adB adT adH kH adR adO u149.2.1 u149.2.2.1 u149.2.2.2.1 u149.2.2.2.2 vR vO ++ wM cA adM u151.2)) rfl (fun H locs hP hD hS => ?_)
  refine lv_icmp_eq (tgt := 886) hx hb dL_law_322 (by decide) (fun c152 => ?_) (fun c152 => ?_)
  · have h := (if_pos c152).symm.trans h
    refine lv_iinc (v := (x3 + (5 : Int32))) (lv' := [(3, .int (x3 + (5 : Int32))), (0, .ref b), (1, .ref adF), (2, .ref (adM 0))]) hx hb dL_law_886 hl (k := 3) rfl rfl (by decide) rfl (fun ls hl => ?_)
    refine lv_goto (tgt := 18) hx hb dL_law_889 (by decide) ?_
    exact ih18 u149.2.1 u149.2.2.1 u149.2.2.2.1 u149.2.2.2.2 vR vO u151.2 (x3 + (5 : Int32)) _ _ _ h hP hD hS (lv_sub hl [1, 2, 3, 0] rfl)
  · have h := (if_neg c152).symm.trans h
    refine lv_iconst (v := (0 : Int32)) hx hb dL_law_325 (by decide) ?_
    exact absurd h (by decide)
set_option maxHeartbeats 8000000 in
set_option maxRecDepth 100000 in
theorem law_b271 {p : Program} {l : Launch} {e : Env} {s : State} {m : MethodId} {below : List Frame} {meth : Method} {c : Code} {D : va_G} {cA cQ : ClassId} {b n0 : Nat} {xs : Nat → Int32} (C0 : lw_At p s m meth c b n0 xs) (hK : va_K D vwCl (TY cA cQ) s) (adF : Nat) (adB adT adH : Nat → Nat) (kH : Nat → Nat → Nat) (adR adO adM : Nat → Nat) (k18 : St → St → St → (Nat → St) → St → St → St → Int32 → Option Int32) (ih18 : ∀ (vB : St) (vT : St) (vH : St) (bH : Nat → St) (vR : St) (vO : St) (vM : St) (x3 : Int32) (H : Heap) (locs : List Loc) (ls : Array Slot), k18 vB vT vH bH vR vO vM x3 = some 1 → va_P D vwCl (wF cA cQ adF adB adT adH kH adR adO vB vT vH bH vR vO ++ wM cA adM vM) H → va_D (fun q : Nat => s.heap.size ≤ q) (wF cA cQ adF adB adT adH kH adR adO vB vT vH bH vR vO ++ wM cA adM vM) → va_S (fun q : Nat => s.heap.size ≤ q) s.heap H locs → lv_has ls 4 [(0, .ref b), (1, .ref adF), (2, .ref (adM 0)), (3, .int x3)] → W p l e room_1 s m #[Value.ref b] below meth c H locs 600000 7302250 (lw_Z below #[Value.ref b] s) (F0 m 18 ls [])) : ∀ (vB : St) (vT : St) (vH : St) (bH : Nat → St) (vR : St) (vO : St) (vM : St) (x3 : Int32) (H : Heap) (locs : List Loc) (ls : Array Slot), L_law_b271 xs n0 k18 vB vT vH bH vR vO vM x3 = some 1 → va_P D vwCl (wF cA cQ adF adB adT adH kH adR adO vB vT vH bH vR vO ++ wM cA adM vM) H → va_D (fun q : Nat => s.heap.size ≤ q) (wF cA cQ adF adB adT adH kH adR adO vB vT vH bH vR vO ++ wM cA adM vM) → va_S (fun q : Nat => s.heap.size ≤ q) s.heap H locs → lv_has ls 4 [(0, .ref b), (1, .ref adF), (2, .ref (adM 0)), (3, .int x3)] → W p l e room_1 s m #[Value.ref b] below meth c H locs 600000 7302250 (lw_Z below #[Value.ref b] s) (F0 m 271 ls []) := by
  have C1 := C0
  obtain ⟨hx, hb, hr, hml, hown, hts, hX, hbl, hlocks, hgv⟩ := C0
  have hts0 := hts
  have hN : NW s := lw_nw hts0
  have hts : ∀ w ∈ wsL_law, w.before #[Value.ref b] s = true := fun w h => hts0 w (wsL_law_in w h)
  have hown : s.vm.findClass RL = some m.cls := hown
  have hA : ∀ q : Nat, s.heap.size ≤ q → (fun q : Nat => s.heap.size ≤ q) q := fun _ h => h
  have hbA : ¬ (fun q : Nat => s.heap.size ≤ q) b := Nat.not_le.mpr hbl
  intro vB vT vH bH vR vO vM x3 H locs ls h hP hD hS hl
  unfold L_law_b271 at h
  refine lv_aload_n hx hb dL_law_271 rfl (lv_at hl 1 rfl) ?_
  refine lv_aload_n hx hb dL_law_272 rfl (lv_at hl 0 rfl) ?_
  refine lv_iload_n hx hb dL_law_273 rfl (lv_at hl 3 rfl) ?_
  refine lv_iconst (v := (1 : Int32)) hx hb dL_law_274 (by decide) ?_
  refine lv_iadd hx hb dL_law_275 ?_
  obtain ⟨y153, ey153, h⟩ := bd_in h
  refine slR hx hb hX hbl hbA hS ey153 dL_law_276 ?_
  refine lv_aload_n hx hb dL_law_277 rfl (lv_at hl 0 rfl) ?_
  refine lv_iload_n hx hb dL_law_278 rfl (lv_at hl 3 rfl) ?_
  refine lv_iconst (v := (2 : Int32)) hx hb dL_law_279 (by decide) ?_
  refine lv_iadd hx hb dL_law_280 ?_
  obtain ⟨y154, ey154, h⟩ := bd_in h
  refine slR hx hb hX hbl hbA hS ey154 dL_law_281 ?_
  obtain ⟨u155, eu155, h⟩ := bd_in h
  refine kI (va_runV (As := [.int y153, .int y154]) (rest := []) ⟨hx, hb, hml, hown, hts⟩ (c_X4_guarantee l D cA cQ adF adB adT adH kH adR adO vB vT vH bH vR vO y153 y154 u155 eu155 _) (cwV 2 hts gL_law_X4_guarantee rfl rfl rfl (by decide +kernel) ⟨Nat.le_of_ble_eq_true rfl, Nat.le_of_ble_eq_true rfl⟩) (pV (ci := 4) (q := (RX4, TX4, 5)) hK hN hP hD [0, 1, 2, 3, 4, 5, 6, 7, 8, 9, 10, 11, 12, 13, 14, 15, 16, 17, 18, 19, 20, 21, 22, 23, 24, 25, 26, 27, 28, 29, 30, 31, 32, 33, 34, 35, 36, 37, 38, 39, 40, 41, 42, 43, 44, 45, 46, 47, 48, 49, 50, 51, 52, 53, 54, 55, 56, 57, 58, 59, 60, 61, 62, 63, 64, 65, 66, 67, 68, 69, 70, 71, 72, 73, 74, 75, 76, 77, 78, 79, 80, 81, 82, 83, 84, 85, 86, 87, 88, 89, 90, 91, 92, 93, 94] rfl rfl rfl rfl) rfl rfl hl.1 rfl (lv_room (Nat.le_of_ble_eq_true rfl)) dL_law_282 ⟨Nat.le_of_ble_eq_true rfl, Nat.le_of_ble_eq_true rfl⟩) hP hD hS hA [0, 1, 2, 3, 4, 5, 6, 7, 8, 9, 10, 11, 12, 13, 14, 15, 16, 17, 18, 19, 20, 21, 22, 23, 24, 25, 26, 27, 28, 29, 30, 31, 32, 33, 34, 35, 36, 37, 38, 39, 40, 41, 42, 43, 44, 45, 46, 47, 48, 49, 50, 51, 52, 53, 54, 55, 56, 57, 58, 59, 60, 61, 62, 63, 64, 65, 66, 67, 68, 69, 70, 71, 72, 73, 74, 75, 76, 77, 78, 79, 80, 81, 82, 83, 84, 85, 86, 87, 88, 89, 90, 91, 92, 93, 94] rfl rfl (ws' := (wF cA cQ adF adB adT adH kH adR adO u155.2.1 u155.2.2.1 u155.2.2.2.1 u155.2.2.2.2 vR vO ++ wM cA adM vM)) rfl (fun H locs hP hD hS => ?_)
  refine lv_aload_n hx hb dL_law_285 rfl (lv_at hl 2 rfl) ?_
  refine lv_aload_n hx hb dL_law_286 rfl (lv_at hl 0 rfl) ?_
  refine lv_iload_n hx hb dL_law_287 rfl (lv_at hl 3 rfl) ?_
  refine lv_iconst (v := (1 : Int32)) hx hb dL_law_288 (by decide) ?_
  refine lv_iadd hx hb dL_law_289 ?_
  obtain ⟨y156, ey156, h⟩ := bd_in h
  refine slR hx hb hX hbl hbA hS ey156 dL_law_290 ?_
  refine lv_aload_n hx hb dL_law_291 rfl (lv_at hl 0 rfl) ?_
  refine lv_iload_n hx hb dL_law_292 rfl (lv_at hl 3 rfl) ?_
  refine lv_iconst (v := (2 : Int32)) hx hb dL_law_293 (by decide) ?_
  refine lv_iadd hx hb dL_law_294 ?_
  obtain ⟨y157, ey157, h⟩ := bd_in h
  refine slR hx hb hX hbl hbA hS ey157 dL_law_295 ?_
  obtain ⟨u158, eu158, h⟩ := bd_in h
  refine kI (va_runV (As := [.int y156, .int y157]) (rest := [.int u155.1]) ⟨hx, hb, hml, hown, hts⟩ (c_X5_guarantee l D cA cQ adM vM y156 y157 u158 eu158 _) (cwV 2 hts gL_law_X5_guarantee rfl rfl rfl (by decide +kernel) ⟨Nat.le_of_ble_eq_true rfl, Nat.le_of_ble_eq_true rfl⟩) (pV (ci := 5) (q := (RX5, TX5, 18)) hK hN hP hD [95, 96, 97, 98, 99, 100, 101, 102, 103, 104] rfl rfl rfl rfl) rfl rfl hl.1 rfl (lv_room (Nat.le_of_ble_eq_true rfl)) dL_law_296 ⟨Nat.le_of_ble_eq_true rfl, Nat.le_of_ble_eq_true rfl⟩) hP hD hS hA [95, 96, 97, 98, 99, 100, 101, 102, 103, 104] rfl rfl (ws' := (wF cA cQ adF adB adT adH kH adR adO u155.2.1 u155.2.2.1 u155.2.2.2.1 u155.2.2.2.2 vR vO ++ wM cA adM u158.2)) rfl (fun H locs hP hD hS => ?_)
  refine lv_icmp_eq (tgt := 886) hx hb dL_law_299 (by decide) (fun c159 => ?_) (fun c159 => ?_)
  · have h := (if_pos c159).symm.trans h
    refine lv_iinc (v := (x3 + (5 : Int32))) (lv' := [(3, .int (x3 + (5 : Int32))), (0, .ref b), (1, .ref adF), (2, .ref (adM 0))]) hx hb dL_law_886 hl (k := 3) rfl rfl (by decide) rfl (fun ls hl => ?_)
    refine lv_goto (tgt := 18) hx hb dL_law_889 (by decide) ?_
    exact ih18 u155.2.1 u155.2.2.1 u155.2.2.2.1 u155.2.2.2.2 vR vO u158.2 (x3 + (5 : Int32)) _ _ _ h hP hD hS (lv_sub hl [1, 2, 3, 0] rfl)
  · have h := (if_neg c159).symm.trans h
    refine lv_iconst (v := (0 : Int32)) hx hb dL_law_302 (by decide) ?_
    exact absurd h (by decide)
set_option maxHeartbeats 8000000 in
set_option maxRecDepth 100000 in
theorem law_b218 {p : Program} {l : Launch} {e : Env} {s : State} {m : MethodId} {below : List Frame} {meth : Method} {c : Code} {D : va_G} {cA cQ : ClassId} {b n0 : Nat} {xs : Nat → Int32} (C0 : lw_At p s m meth c b n0 xs) (hK : va_K D vwCl (TY cA cQ) s) (adF : Nat) (adB adT adH : Nat → Nat) (kH : Nat → Nat → Nat) (adR adO adM : Nat → Nat) (k18 : St → St → St → (Nat → St) → St → St → St → Int32 → Option Int32) (ih18 : ∀ (vB : St) (vT : St) (vH : St) (bH : Nat → St) (vR : St) (vO : St) (vM : St) (x3 : Int32) (H : Heap) (locs : List Loc) (ls : Array Slot), k18 vB vT vH bH vR vO vM x3 = some 1 → va_P D vwCl (wF cA cQ adF adB adT adH kH adR adO vB vT vH bH vR vO ++ wM cA adM vM) H → va_D (fun q : Nat => s.heap.size ≤ q) (wF cA cQ adF adB adT adH kH adR adO vB vT vH bH vR vO ++ wM cA adM vM) → va_S (fun q : Nat => s.heap.size ≤ q) s.heap H locs → lv_has ls 4 [(0, .ref b), (1, .ref adF), (2, .ref (adM 0)), (3, .int x3)] → W p l e room_1 s m #[Value.ref b] below meth c H locs 600000 7302250 (lw_Z below #[Value.ref b] s) (F0 m 18 ls [])) : ∀ (vB : St) (vT : St) (vH : St) (bH : Nat → St) (vR : St) (vO : St) (vM : St) (x3 : Int32) (H : Heap) (locs : List Loc) (ls : Array Slot), L_law_b218 xs n0 k18 vB vT vH bH vR vO vM x3 = some 1 → va_P D vwCl (wF cA cQ adF adB adT adH kH adR adO vB vT vH bH vR vO ++ wM cA adM vM) H → va_D (fun q : Nat => s.heap.size ≤ q) (wF cA cQ adF adB adT adH kH adR adO vB vT vH bH vR vO ++ wM cA adM vM) → va_S (fun q : Nat => s.heap.size ≤ q) s.heap H locs → lv_has ls 4 [(0, .ref b), (1, .ref adF), (2, .ref (adM 0)), (3, .int x3)] → W p l e room_1 s m #[Value.ref b] below meth c H locs 600000 7302250 (lw_Z below #[Value.ref b] s) (F0 m 218 ls []) := by
  have C1 := C0
  obtain ⟨hx, hb, hr, hml, hown, hts, hX, hbl, hlocks, hgv⟩ := C0
  have hts0 := hts
  have hN : NW s := lw_nw hts0
  have hts : ∀ w ∈ wsL_law, w.before #[Value.ref b] s = true := fun w h => hts0 w (wsL_law_in w h)
  have hown : s.vm.findClass RL = some m.cls := hown
  have hA : ∀ q : Nat, s.heap.size ≤ q → (fun q : Nat => s.heap.size ≤ q) q := fun _ h => h
  have hbA : ¬ (fun q : Nat => s.heap.size ≤ q) b := Nat.not_le.mpr hbl
  intro vB vT vH bH vR vO vM x3 H locs ls h hP hD hS hl
  unfold L_law_b218 at h
  refine lv_aload_n hx hb dL_law_218 rfl (lv_at hl 1 rfl) ?_
  refine lv_aload_n hx hb dL_law_219 rfl (lv_at hl 0 rfl) ?_
  refine lv_iload_n hx hb dL_law_220 rfl (lv_at hl 3 rfl) ?_
  refine lv_iconst (v := (1 : Int32)) hx hb dL_law_221 (by decide) ?_
  refine lv_iadd hx hb dL_law_222 ?_
  obtain ⟨y160, ey160, h⟩ := bd_in h
  refine slR hx hb hX hbl hbA hS ey160 dL_law_223 ?_
  refine lv_aload_n hx hb dL_law_224 rfl (lv_at hl 0 rfl) ?_
  refine lv_iload_n hx hb dL_law_225 rfl (lv_at hl 3 rfl) ?_
  refine lv_iconst (v := (2 : Int32)) hx hb dL_law_226 (by decide) ?_
  refine lv_iadd hx hb dL_law_227 ?_
  obtain ⟨y161, ey161, h⟩ := bd_in h
  refine slR hx hb hX hbl hbA hS ey161 dL_law_228 ?_
  refine lv_aload_n hx hb dL_law_229 rfl (lv_at hl 0 rfl) ?_
  refine lv_iload_n hx hb dL_law_230 rfl (lv_at hl 3 rfl) ?_
  refine lv_iconst (v := (3 : Int32)) hx hb dL_law_231 (by decide) ?_
  refine lv_iadd hx hb dL_law_232 ?_
  obtain ⟨y162, ey162, h⟩ := bd_in h
  refine slR hx hb hX hbl hbA hS ey162 dL_law_233 ?_
  refine lv_aload_n hx hb dL_law_234 rfl (lv_at hl 0 rfl) ?_
  refine lv_iload_n hx hb dL_law_235 rfl (lv_at hl 3 rfl) ?_
  refine lv_iconst (v := (4 : Int32)) hx hb dL_law_236 (by decide) ?_
  refine lv_iadd hx hb dL_law_237 ?_
  obtain ⟨y163, ey163, h⟩ := bd_in h
  refine slR hx hb hX hbl hbA hS ey163 dL_law_238 ?_
  obtain ⟨u164, eu164, h⟩ := bd_in h
  refine kI (va_runV (As := [.int y160, .int y161, .int y162, .int y163]) (rest := []) ⟨hx, hb, hml, hown, hts⟩ (c_X4_fulfil l D cA cQ adF adB adT adH kH adR adO vB vT vH bH vR vO y160 y161 y162 y163 u164 eu164 _) (cwV 4 hts gL_law_X4_fulfil rfl rfl rfl (by decide +kernel) ⟨Nat.le_of_ble_eq_true rfl, Nat.le_of_ble_eq_true rfl⟩) (pV (ci := 4) (q := (RX4, TX4, 5)) hK hN hP hD [0, 1, 2, 3, 4, 5, 6, 7, 8, 9, 10, 11, 12, 13, 14, 15, 16, 17, 18, 19, 20, 21, 22, 23, 24, 25, 26, 27, 28, 29, 30, 31, 32, 33, 34, 35, 36, 37, 38, 39, 40, 41, 42, 43, 44, 45, 46, 47, 48, 49, 50, 51, 52, 53, 54, 55, 56, 57, 58, 59, 60, 61, 62, 63, 64, 65, 66, 67, 68, 69, 70, 71, 72, 73, 74, 75, 76, 77, 78, 79, 80, 81, 82, 83, 84, 85, 86, 87, 88, 89, 90, 91, 92, 93, 94] rfl rfl rfl rfl) rfl rfl hl.1 rfl (lv_room (Nat.le_of_ble_eq_true rfl)) dL_law_239 ⟨Nat.le_of_ble_eq_true rfl, Nat.le_of_ble_eq_true rfl⟩) hP hD hS hA [0, 1, 2, 3, 4, 5, 6, 7, 8, 9, 10, 11, 12, 13, 14, 15, 16, 17, 18, 19, 20, 21, 22, 23, 24, 25, 26, 27, 28, 29, 30, 31, 32, 33, 34, 35, 36, 37, 38, 39, 40, 41, 42, 43, 44, 45, 46, 47, 48, 49, 50, 51, 52, 53, 54, 55, 56, 57, 58, 59, 60, 61, 62, 63, 64, 65, 66, 67, 68, 69, 70, 71, 72, 73, 74, 75, 76, 77, 78, 79, 80, 81, 82, 83, 84, 85, 86, 87, 88, 89, 90, 91, 92, 93, 94] rfl rfl (ws' := (wF cA cQ adF adB adT adH kH adR adO u164.2.1 u164.2.2.1 u164.2.2.2.1 u164.2.2.2.2 vR vO ++ wM cA adM vM)) rfl (fun H locs hP hD hS => ?_)
  refine lv_aload_n hx hb dL_law_242 rfl (lv_at hl 2 rfl) ?_
  refine lv_aload_n hx hb dL_law_243 rfl (lv_at hl 0 rfl) ?_
  refine lv_iload_n hx hb dL_law_244 rfl (lv_at hl 3 rfl) ?_
  refine lv_iconst (v := (1 : Int32)) hx hb dL_law_245 (by decide) ?_
  refine lv_iadd hx hb dL_law_246 ?_
  obtain ⟨y165, ey165, h⟩ := bd_in h
  refine slR hx hb hX hbl hbA hS ey165 dL_law_247 ?_
  refine lv_aload_n hx hb dL_law_248 rfl (lv_at hl 0 rfl) ?_
  refine lv_iload_n hx hb dL_law_249 rfl (lv_at hl 3 rfl) ?_
  refine lv_iconst (v := (2 : Int32)) hx hb dL_law_250 (by decide) ?_
  refine lv_iadd hx hb dL_law_251 ?_
  obtain ⟨y166, ey166, h⟩ := bd_in h
  refine slR hx hb hX hbl hbA hS ey166 dL_law_252 ?_
  refine lv_aload_n hx hb dL_law_253 rfl (lv_at hl 0 rfl) ?_
  refine lv_iload_n hx hb dL_law_254 rfl (lv_at hl 3 rfl) ?_
  refine lv_iconst (v := (3 : Int32)) hx hb dL_law_255 (by decide) ?_
  refine lv_iadd hx hb dL_law_256 ?_
  obtain ⟨y167, ey167, h⟩ := bd_in h
  refine slR hx hb hX hbl hbA hS ey167 dL_law_257 ?_
  refine lv_aload_n hx hb dL_law_258 rfl (lv_at hl 0 rfl) ?_
  refine lv_iload_n hx hb dL_law_259 rfl (lv_at hl 3 rfl) ?_
  refine lv_iconst (v := (4 : Int32)) hx hb dL_law_260 (by decide) ?_
  refine lv_iadd hx hb dL_law_261 ?_
  obtain ⟨y168, ey168, h⟩ := bd_in h
  refine slR hx hb hX hbl hbA hS ey168 dL_law_262 ?_
  obtain ⟨u169, eu169, h⟩ := bd_in h
  refine kI (va_runV (As := [.int y165, .int y166, .int y167, .int y168]) (rest := [.int u164.1]) ⟨hx, hb, hml, hown, hts⟩ (c_X5_fulfil l D cA cQ adM vM y165 y166 y167 y168 u169 eu169 _) (cwV 4 hts gL_law_X5_fulfil rfl rfl rfl (by decide +kernel) ⟨Nat.le_of_ble_eq_true rfl, Nat.le_of_ble_eq_true rfl⟩) (pV (ci := 5) (q := (RX5, TX5, 18)) hK hN hP hD [95, 96, 97, 98, 99, 100, 101, 102, 103, 104] rfl rfl rfl rfl) rfl rfl hl.1 rfl (lv_room (Nat.le_of_ble_eq_true rfl)) dL_law_263 ⟨Nat.le_of_ble_eq_true rfl, Nat.le_of_ble_eq_true rfl⟩) hP hD hS hA [95, 96, 97, 98, 99, 100, 101, 102, 103, 104] rfl rfl (ws' := (wF cA cQ adF adB adT adH kH adR adO u164.2.1 u164.2.2.1 u164.2.2.2.1 u164.2.2.2.2 vR vO ++ wM cA adM u169.2)) rfl (fun H locs hP hD hS => ?_)
  refine lv_icmp_eq (tgt := 886) hx hb dL_law_266 (by decide) (fun c170 => ?_) (fun c170 => ?_)
  · have h := (if_pos c170).symm.trans h
    refine lv_iinc (v := (x3 + (5 : Int32))) (lv' := [(3, .int (x3 + (5 : Int32))), (0, .ref b), (1, .ref adF), (2, .ref (adM 0))]) hx hb dL_law_886 hl (k := 3) rfl rfl (by decide) rfl (fun ls hl => ?_)
    refine lv_goto (tgt := 18) hx hb dL_law_889 (by decide) ?_
    exact ih18 u164.2.1 u164.2.2.1 u164.2.2.2.1 u164.2.2.2.2 vR vO u169.2 (x3 + (5 : Int32)) _ _ _ h hP hD hS (lv_sub hl [1, 2, 3, 0] rfl)
  · have h := (if_neg c170).symm.trans h
    refine lv_iconst (v := (0 : Int32)) hx hb dL_law_269 (by decide) ?_
    exact absurd h (by decide)
set_option maxHeartbeats 8000000 in
set_option maxRecDepth 100000 in
theorem law_b165 {p : Program} {l : Launch} {e : Env} {s : State} {m : MethodId} {below : List Frame} {meth : Method} {c : Code} {D : va_G} {cA cQ : ClassId} {b n0 : Nat} {xs : Nat → Int32} (C0 : lw_At p s m meth c b n0 xs) (hK : va_K D vwCl (TY cA cQ) s) (adF : Nat) (adB adT adH : Nat → Nat) (kH : Nat → Nat → Nat) (adR adO adM : Nat → Nat) (k18 : St → St → St → (Nat → St) → St → St → St → Int32 → Option Int32) (ih18 : ∀ (vB : St) (vT : St) (vH : St) (bH : Nat → St) (vR : St) (vO : St) (vM : St) (x3 : Int32) (H : Heap) (locs : List Loc) (ls : Array Slot), k18 vB vT vH bH vR vO vM x3 = some 1 → va_P D vwCl (wF cA cQ adF adB adT adH kH adR adO vB vT vH bH vR vO ++ wM cA adM vM) H → va_D (fun q : Nat => s.heap.size ≤ q) (wF cA cQ adF adB adT adH kH adR adO vB vT vH bH vR vO ++ wM cA adM vM) → va_S (fun q : Nat => s.heap.size ≤ q) s.heap H locs → lv_has ls 4 [(0, .ref b), (1, .ref adF), (2, .ref (adM 0)), (3, .int x3)] → W p l e room_1 s m #[Value.ref b] below meth c H locs 600000 7302250 (lw_Z below #[Value.ref b] s) (F0 m 18 ls [])) : ∀ (vB : St) (vT : St) (vH : St) (bH : Nat → St) (vR : St) (vO : St) (vM : St) (x3 : Int32) (H : Heap) (locs : List Loc) (ls : Array Slot), L_law_b165 xs n0 k18 vB vT vH bH vR vO vM x3 = some 1 → va_P D vwCl (wF cA cQ adF adB adT adH kH adR adO vB vT vH bH vR vO ++ wM cA adM vM) H → va_D (fun q : Nat => s.heap.size ≤ q) (wF cA cQ adF adB adT adH kH adR adO vB vT vH bH vR vO ++ wM cA adM vM) → va_S (fun q : Nat => s.heap.size ≤ q) s.heap H locs → lv_has ls 4 [(0, .ref b), (1, .ref adF), (2, .ref (adM 0)), (3, .int x3)] → W p l e room_1 s m #[Value.ref b] below meth c H locs 600000 7302250 (lw_Z below #[Value.ref b] s) (F0 m 165 ls []) := by
  have C1 := C0
  obtain ⟨hx, hb, hr, hml, hown, hts, hX, hbl, hlocks, hgv⟩ := C0
  have hts0 := hts
  have hN : NW s := lw_nw hts0
  have hts : ∀ w ∈ wsL_law, w.before #[Value.ref b] s = true := fun w h => hts0 w (wsL_law_in w h)
  have hown : s.vm.findClass RL = some m.cls := hown
  have hA : ∀ q : Nat, s.heap.size ≤ q → (fun q : Nat => s.heap.size ≤ q) q := fun _ h => h
  have hbA : ¬ (fun q : Nat => s.heap.size ≤ q) b := Nat.not_le.mpr hbl
  intro vB vT vH bH vR vO vM x3 H locs ls h hP hD hS hl
  unfold L_law_b165 at h
  refine lv_aload_n hx hb dL_law_165 rfl (lv_at hl 1 rfl) ?_
  refine lv_aload_n hx hb dL_law_166 rfl (lv_at hl 0 rfl) ?_
  refine lv_iload_n hx hb dL_law_167 rfl (lv_at hl 3 rfl) ?_
  refine lv_iconst (v := (1 : Int32)) hx hb dL_law_168 (by decide) ?_
  refine lv_iadd hx hb dL_law_169 ?_
  obtain ⟨y171, ey171, h⟩ := bd_in h
  refine slR hx hb hX hbl hbA hS ey171 dL_law_170 ?_
  refine lv_aload_n hx hb dL_law_171 rfl (lv_at hl 0 rfl) ?_
  refine lv_iload_n hx hb dL_law_172 rfl (lv_at hl 3 rfl) ?_
  refine lv_iconst (v := (2 : Int32)) hx hb dL_law_173 (by decide) ?_
  refine lv_iadd hx hb dL_law_174 ?_
  obtain ⟨y172, ey172, h⟩ := bd_in h
  refine slR hx hb hX hbl hbA hS ey172 dL_law_175 ?_
  refine lv_aload_n hx hb dL_law_176 rfl (lv_at hl 0 rfl) ?_
  refine lv_iload_n hx hb dL_law_177 rfl (lv_at hl 3 rfl) ?_
  refine lv_iconst (v := (3 : Int32)) hx hb dL_law_178 (by decide) ?_
  refine lv_iadd hx hb dL_law_179 ?_
  obtain ⟨y173, ey173, h⟩ := bd_in h
  refine slR hx hb hX hbl hbA hS ey173 dL_law_180 ?_
  refine lv_aload_n hx hb dL_law_181 rfl (lv_at hl 0 rfl) ?_
  refine lv_iload_n hx hb dL_law_182 rfl (lv_at hl 3 rfl) ?_
  refine lv_iconst (v := (4 : Int32)) hx hb dL_law_183 (by decide) ?_
  refine lv_iadd hx hb dL_law_184 ?_
  obtain ⟨y174, ey174, h⟩ := bd_in h
  refine slR hx hb hX hbl hbA hS ey174 dL_law_185 ?_
  obtain ⟨u175, eu175, h⟩ := bd_in h
  refine kI (va_runV (As := [.int y171, .int y172, .int y173, .int y174]) (rest := []) ⟨hx, hb, hml, hown, hts⟩ (c_X4_lend l D cA cQ adF adB adT adH kH adR adO vB vT vH bH vR vO y171 y172 y173 y174 u175 eu175 _) (cwV 4 hts gL_law_X4_lend rfl rfl rfl (by decide +kernel) ⟨Nat.le_of_ble_eq_true rfl, Nat.le_of_ble_eq_true rfl⟩) (pV (ci := 4) (q := (RX4, TX4, 5)) hK hN hP hD [0, 1, 2, 3, 4, 5, 6, 7, 8, 9, 10, 11, 12, 13, 14, 15, 16, 17, 18, 19, 20, 21, 22, 23, 24, 25, 26, 27, 28, 29, 30, 31, 32, 33, 34, 35, 36, 37, 38, 39, 40, 41, 42, 43, 44, 45, 46, 47, 48, 49, 50, 51, 52, 53, 54, 55, 56, 57, 58, 59, 60, 61, 62, 63, 64, 65, 66, 67, 68, 69, 70, 71, 72, 73, 74, 75, 76, 77, 78, 79, 80, 81, 82, 83, 84, 85, 86, 87, 88, 89, 90, 91, 92, 93, 94] rfl rfl rfl rfl) rfl rfl hl.1 rfl (lv_room (Nat.le_of_ble_eq_true rfl)) dL_law_186 ⟨Nat.le_of_ble_eq_true rfl, Nat.le_of_ble_eq_true rfl⟩) hP hD hS hA [0, 1, 2, 3, 4, 5, 6, 7, 8, 9, 10, 11, 12, 13, 14, 15, 16, 17, 18, 19, 20, 21, 22, 23, 24, 25, 26, 27, 28, 29, 30, 31, 32, 33, 34, 35, 36, 37, 38, 39, 40, 41, 42, 43, 44, 45, 46, 47, 48, 49, 50, 51, 52, 53, 54, 55, 56, 57, 58, 59, 60, 61, 62, 63, 64, 65, 66, 67, 68, 69, 70, 71, 72, 73, 74, 75, 76, 77, 78, 79, 80, 81, 82, 83, 84, 85, 86, 87, 88, 89, 90, 91, 92, 93, 94] rfl rfl (ws' := (wF cA cQ adF adB adT adH kH adR adO u175.2.1 u175.2.2.1 u175.2.2.2.1 u175.2.2.2.2 vR vO ++ wM cA adM vM)) rfl (fun H locs hP hD hS => ?_)
  refine lv_aload_n hx hb dL_law_189 rfl (lv_at hl 2 rfl) ?_
  refine lv_aload_n hx hb dL_law_190 rfl (lv_at hl 0 rfl) ?_
  refine lv_iload_n hx hb dL_law_191 rfl (lv_at hl 3 rfl) ?_
  refine lv_iconst (v := (1 : Int32)) hx hb dL_law_192 (by decide) ?_
  refine lv_iadd hx hb dL_law_193 ?_
  obtain ⟨y176, ey176, h⟩ := bd_in h
  refine slR hx hb hX hbl hbA hS ey176 dL_law_194 ?_
  refine lv_aload_n hx hb dL_law_195 rfl (lv_at hl 0 rfl) ?_
  refine lv_iload_n hx hb dL_law_196 rfl (lv_at hl 3 rfl) ?_
  refine lv_iconst (v := (2 : Int32)) hx hb dL_law_197 (by decide) ?_
  refine lv_iadd hx hb dL_law_198 ?_
  obtain ⟨y177, ey177, h⟩ := bd_in h
  refine slR hx hb hX hbl hbA hS ey177 dL_law_199 ?_
  refine lv_aload_n hx hb dL_law_200 rfl (lv_at hl 0 rfl) ?_
  refine lv_iload_n hx hb dL_law_201 rfl (lv_at hl 3 rfl) ?_
  refine lv_iconst (v := (3 : Int32)) hx hb dL_law_202 (by decide) ?_
  refine lv_iadd hx hb dL_law_203 ?_
  obtain ⟨y178, ey178, h⟩ := bd_in h
  refine slR hx hb hX hbl hbA hS ey178 dL_law_204 ?_
  refine lv_aload_n hx hb dL_law_205 rfl (lv_at hl 0 rfl) ?_
  refine lv_iload_n hx hb dL_law_206 rfl (lv_at hl 3 rfl) ?_
  refine lv_iconst (v := (4 : Int32)) hx hb dL_law_207 (by decide) ?_
  refine lv_iadd hx hb dL_law_208 ?_
  obtain ⟨y179, ey179, h⟩ := bd_in h
  refine slR hx hb hX hbl hbA hS ey179 dL_law_209 ?_
  obtain ⟨u180, eu180, h⟩ := bd_in h
  refine kI (va_runV (As := [.int y176, .int y177, .int y178, .int y179]) (rest := [.int u175.1]) ⟨hx, hb, hml, hown, hts⟩ (c_X5_lend l D cA cQ adM vM y176 y177 y178 y179 u180 eu180 _) (cwV 4 hts gL_law_X5_lend rfl rfl rfl (by decide +kernel) ⟨Nat.le_of_ble_eq_true rfl, Nat.le_of_ble_eq_true rfl⟩) (pV (ci := 5) (q := (RX5, TX5, 18)) hK hN hP hD [95, 96, 97, 98, 99, 100, 101, 102, 103, 104] rfl rfl rfl rfl) rfl rfl hl.1 rfl (lv_room (Nat.le_of_ble_eq_true rfl)) dL_law_210 ⟨Nat.le_of_ble_eq_true rfl, Nat.le_of_ble_eq_true rfl⟩) hP hD hS hA [95, 96, 97, 98, 99, 100, 101, 102, 103, 104] rfl rfl (ws' := (wF cA cQ adF adB adT adH kH adR adO u175.2.1 u175.2.2.1 u175.2.2.2.1 u175.2.2.2.2 vR vO ++ wM cA adM u180.2)) rfl (fun H locs hP hD hS => ?_)
  refine lv_icmp_eq (tgt := 886) hx hb dL_law_213 (by decide) (fun c181 => ?_) (fun c181 => ?_)
  · have h := (if_pos c181).symm.trans h
    refine lv_iinc (v := (x3 + (5 : Int32))) (lv' := [(3, .int (x3 + (5 : Int32))), (0, .ref b), (1, .ref adF), (2, .ref (adM 0))]) hx hb dL_law_886 hl (k := 3) rfl rfl (by decide) rfl (fun ls hl => ?_)
    refine lv_goto (tgt := 18) hx hb dL_law_889 (by decide) ?_
    exact ih18 u175.2.1 u175.2.2.1 u175.2.2.2.1 u175.2.2.2.2 vR vO u180.2 (x3 + (5 : Int32)) _ _ _ h hP hD hS (lv_sub hl [1, 2, 3, 0] rfl)
  · have h := (if_neg c181).symm.trans h
    refine lv_iconst (v := (0 : Int32)) hx hb dL_law_216 (by decide) ?_
    exact absurd h (by decide)

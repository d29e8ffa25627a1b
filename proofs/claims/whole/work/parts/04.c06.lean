set_option maxHeartbeats 4000000 in
set_option maxRecDepth 100000 in
theorem c_X5_clear (l : Launch) (D : va_G) (cA cQ : ClassId) (adM : Nat → Nat) (vM : St) (p1 : Int32) (o : Int32 × St) (hf : X5_clear vM p1 = some o) : Cti l yX5_clear wsX5_clear ({ frames := 4, cells := 0, slots := 0, locals := 100 }) D (TY cA cQ) [.ref (adM 0), .int p1] (wM cA adM vM) (wM cA adM o.2) o.1 := by
  refine Wk.i (cc := cX5_clear) (maxL := 2) (ret := (some .int)) (by decide) rfl (Nat.le_of_ble_eq_true rfl) ?_
  intro p e s m below meth c A ls hx hb hr hlocks hml hown hts hK hN hP hD hA hl
  have hown : s.vm.findClass RX5 = some m.cls := hown
  have hS : va_S A s.heap s.heap [] := va_S.rf
  have hl : lv_has ls 2 [(0, .ref (adM 0)), (1, .int p1)] := hl
  have h := hf
  unfold X5_clear at h
  refine lv_iload_n hx hb dX5_clear_0 rfl (lv_at hl 1 rfl) ?_
  obtain ⟨u1, eu1, h⟩ := bd_in h
  refine kI (va_runS (As := [.int p1]) (rest := []) ⟨hx, hb, hml, hown, hts⟩ (c_X5_isKind l D cA cQ  p1 u1 eu1 _) (va_cwS 1 hts gX5_clear_X5_isKind rfl rfl rfl (by decide +kernel) ⟨Nat.le_of_ble_eq_true rfl, Nat.le_of_ble_eq_true rfl⟩) (pS hK hN hP hD [] rfl rfl) rfl rfl hl.1 rfl (lv_room (Nat.le_of_ble_eq_true rfl)) dX5_clear_1 ⟨Nat.zero_le _, Nat.zero_le _⟩) hP hD hS hA [] rfl rfl (ws' := (wM cA adM vM)) rfl (fun H locs hP hD hS => ?_)
  refine lv_if_ne (tgt := 10) hx hb dX5_clear_4 (by decide) (fun c2 => ?_) (fun c2 => ?_)
  · have h := (if_neg c2).symm.trans h
    refine lv_aload_n hx hb dX5_clear_10 rfl (lv_at hl 0 rfl) ?_
    obtain ⟨u3, eu3, h⟩ := bd_in h
    refine kV (va_runV (As := []) (rest := []) ⟨hx, hb, hml, hown, hts⟩ (c_X5_changes l D cA cQ adM vM u3 eu3 _) (cwV 0 hts gX5_clear_X5_changes rfl rfl rfl (by decide +kernel) ⟨Nat.le_of_ble_eq_true rfl, Nat.le_of_ble_eq_true rfl⟩) (pV (ci := 5) (q := (RX5, TX5, 18)) hK hN hP hD [0, 1, 2, 3, 4, 5, 6, 7, 8, 9] rfl rfl rfl rfl) rfl rfl hl.1 rfl (lv_room (Nat.le_of_ble_eq_true rfl)) dX5_clear_11 ⟨Nat.zero_le _, Nat.zero_le _⟩) hP hD hS hA [0, 1, 2, 3, 4, 5, 6, 7, 8, 9] rfl rfl (ws' := (wM cA adM u3)) rfl (fun H locs hP hD hS => ?_)
    refine lv_aload_n hx hb dX5_clear_14 rfl (lv_at hl 0 rfl) ?_
    refine lv_iload_n hx hb dX5_clear_15 rfl (lv_at hl 1 rfl) ?_
    obtain ⟨u4, eu4, h⟩ := bd_in h
    refine kI (va_runV (As := [.int p1]) (rest := []) ⟨hx, hb, hml, hown, hts⟩ (c_X5_clears l D cA cQ adM u3 p1 u4 eu4 _) (cwV 1 hts gX5_clear_X5_clears rfl rfl rfl (by decide +kernel) ⟨Nat.le_of_ble_eq_true rfl, Nat.le_of_ble_eq_true rfl⟩) (pV (ci := 5) (q := (RX5, TX5, 18)) hK hN hP hD [0, 1, 2, 3, 4, 5, 6, 7, 8, 9] rfl rfl rfl rfl) rfl rfl hl.1 rfl (lv_room (Nat.le_of_ble_eq_true rfl)) dX5_clear_16 ⟨Nat.zero_le _, Nat.zero_le _⟩) hP hD hS hA [0, 1, 2, 3, 4, 5, 6, 7, 8, 9] rfl rfl (ws' := (wM cA adM u4.2)) rfl (fun H locs hP hD hS => ?_)
    cases h
    exact endI hx hb hr hlocks hP hS rfl dX5_clear_19
  · have h := (if_pos c2).symm.trans h
    refine lv_ldc (v := (-1000001 : Int32)) hx hb hown (hts (.constant RX5 86 (-1000001)) (List.mem_of_getElem? (i := 1) rfl)) dX5_clear_7 ?_
    cases h
    exact endI hx hb hr hlocks hP hS rfl dX5_clear_9
theorem iw_X5_clearText_X5 : ∀ w ∈ wsX50, w ∈ wsX5_clearText := fun _ h => List.mem_cons_of_mem _ (List.mem_append_right _ (h))
set_option maxHeartbeats 4000000 in
set_option maxRecDepth 100000 in
theorem c_X5_clearText (l : Launch) (D : va_G) (cA cQ : ClassId) (adM : Nat → Nat) (vM : St) (o : Int32 × St) (hf : X5_clearText vM = some o) : Cti l yX5_clearText wsX5_clearText ({ frames := 0, cells := 0, slots := 0, locals := 0 }) D (TY cA cQ) [.ref (adM 0)] (wM cA adM vM) (wM cA adM o.2) o.1 := by
  refine Wk.i (cc := cX5_clearText) (maxL := 2) (ret := (some .int)) (by decide) rfl (Nat.le_of_ble_eq_true rfl) ?_
  intro p e s m below meth c A ls hx hb hr hlocks hml hown hts hK hN hP hD hA hl
  have hown : s.vm.findClass RX5 = some m.cls := hown
  have hS : va_S A s.heap s.heap [] := va_S.rf
  have hl : lv_has ls 2 [(0, .ref (adM 0))] := hl
  have h := hf
  unfold X5_clearText at h
  refine lv_aload_n hx hb dX5_clearText_0 rfl (lv_at hl 0 rfl) ?_
  refine va_get (D := D) (ci := 5) (v := .int (vM 99 7)) (C := RX5) (T := TX5) (N := 18) hx hb hts iw_X5_clearText_X5 hown hK hP 0 rfl rfl 7 (by decide) (hts (.fieldLink RX5 147 "FavourRingsModel" "typed" "I") (List.mem_of_getElem? (i := 1) rfl)) (fun _ h9 => h9) rfl dX5_clearText_1 ?_
  refine lv_istore_n (lv' := [(1, .int (vM 99 7)), (0, .ref (adM 0))]) hx hb dX5_clearText_4 rfl hl (by decide) rfl (fun ls hl => ?_)
  refine lv_aload_n hx hb dX5_clearText_5 rfl (lv_at hl 1 rfl) ?_
  refine lv_iconst (v := (0 : Int32)) hx hb dX5_clearText_6 (by decide) ?_
  refine ptR (ci := 5) (v := .int (0 : Int32)) (ty := .int) (C := RX5) (T := TX5) (N := 18) hx hb hts iw_X5_clearText_X5 tyX5 tyX5_ok nmX5 hown hK hP hD hS 0 rfl rfl 7 (by decide) (hts (.fieldLink RX5 147 "FavourRingsModel" "typed" "I") (List.mem_of_getElem? (i := 1) rfl)) (fun _ h9 => h9) rfl (by decide +kernel) rfl rfl (Nat.le_of_ble_eq_true rfl) (ws' := (wM cA adM (setI vM 7 (0 : Int32)))) rfl dX5_clearText_7 (fun H locs hP hD hS => ?_)
  refine lv_iload_n hx hb dX5_clearText_10 rfl (lv_at hl 0 rfl) ?_
  cases h
  exact endI hx hb hr hlocks hP hS rfl dX5_clearText_11
set_option maxHeartbeats 4000000 in
set_option maxRecDepth 100000 in
theorem c_X5_copies (l : Launch) (D : va_G) (cA cQ : ClassId) (a1 : Nat) (n1 : Nat) (a2 : Nat) (n2 : Nat) (f1 : Nat → Int32) (f2 : Nat → Int32) (o : (Nat → Int32)) (hf : X5_copies f1 f2 n1 n2 = some o) : Ctv l yX5_copies wsX5_copies ({ frames := 0, cells := 0, slots := 0, locals := 0 }) D (TY cA cQ) [.ref a1, .ref a2] (wA2 cA a1 n1 f1 a2 n2 f2) (wA2 cA a1 n1 f1 a2 n2 o) := by
  refine Wk.v (cc := cX5_copies) (maxL := 3) (ret := none) (by decide) rfl (Nat.le_of_ble_eq_true rfl) ?_
  intro p e s m below meth c A ls hx hb hr hlocks hml hown hts hK hN hP hD hA hl
  have hown : s.vm.findClass RX5 = some m.cls := hown
  have hS : va_S A s.heap s.heap [] := va_S.rf
  have hl : lv_has ls 3 [(0, .ref a1), (1, .ref a2)] := hl
  have B2 : ∀ (fu2 : Nat) (f2 : Nat → Int32) (x2 : Int32) (H : Heap) (locs : List Loc) (ls : Array Slot), X5_copies_l2 f1 n1 n2 fu2 f2 x2 = some o → va_P D vwCl (wA2 cA a1 n1 f1 a2 n2 f2) H → va_D A (wA2 cA a1 n1 f1 a2 n2 f2) → va_S A s.heap H locs → lv_has ls 3 [(0, .ref a1), (1, .ref a2), (2, .int x2)] → W p l e (headSpec wsX5_copies ({ frames := 0, cells := 0, slots := 0, locals := 0 })).room s m ([.ref a1, .ref a2] : List Value).toArray below meth c H locs 0 0 (MQ below (QV D (wA2 cA a1 n1 f1 a2 n2 o) A) ([.ref a1, .ref a2] : List Value).toArray s 0 0 A) (F0 m 2 ls []) := by
    intro fu2
    induction fu2 with
    | zero =>
      intro f2 x2 H locs ls h hP hD hS hl
      cases h
    | succ fu2 ih2 =>
      intro f2 x2 H locs ls h hP hD hS hl
      rw [X5_copies_l2] at h
      refine lv_iload_n hx hb dX5_copies_2 rfl (lv_at hl 2 rfl) ?_
      refine lv_sipush (v := (304 : Int32)) hx hb dX5_copies_3 (by decide) ?_
      refine lv_icmp_ge (tgt := 21) hx hb dX5_copies_6 (by decide) (fun c1 => ?_) (fun c1 => ?_)
      · have h := (if_pos c1).symm.trans h
        cases h
        exact endV hx hb hr hlocks hP hS dX5_copies_21
      · have h := (if_neg c1).symm.trans h
        refine lv_aload_n hx hb dX5_copies_9 rfl (lv_at hl 1 rfl) ?_
        refine lv_iload_n hx hb dX5_copies_10 rfl (lv_at hl 2 rfl) ?_
        refine lv_aload_n hx hb dX5_copies_11 rfl (lv_at hl 0 rfl) ?_
        refine lv_iload_n hx hb dX5_copies_12 rfl (lv_at hl 2 rfl) ?_
        obtain ⟨y2, ey2, h⟩ := bd_in h
        refine ldR hx hb hK hP 0 0 rfl rfl ey2 dX5_copies_13 ?_
        obtain ⟨g3, eg3, h⟩ := bd_in h
        refine stR hx hb hK hP hD hS 1 0 rfl rfl eg3 (ws' := (wA2 cA a1 n1 f1 a2 n2 g3)) rfl dX5_copies_14 (fun H locs hP hD hS => ?_)
        refine lv_iinc (v := (x2 + (1 : Int32))) (lv' := [(2, .int (x2 + (1 : Int32))), (0, .ref a1), (1, .ref a2)]) hx hb dX5_copies_15 hl (k := 2) rfl rfl (by decide) rfl (fun ls hl => ?_)
        refine lv_goto (tgt := 2) hx hb dX5_copies_18 (by decide) ?_
        exact ih2 g3 (x2 + (1 : Int32)) _ _ _ h hP hD hS (lv_sub hl [1, 2, 0] rfl)
  have h := hf
  unfold X5_copies at h
  refine lv_iconst (v := (0 : Int32)) hx hb dX5_copies_0 (by decide) ?_
  refine lv_istore_n (lv' := [(2, .int (0 : Int32)), (0, .ref a1), (1, .ref a2)]) hx hb dX5_copies_1 rfl hl (by decide) rfl (fun ls hl => ?_)
  exact B2 FU f2 (0 : Int32) _ _ _ h hP hD hS (lv_sub hl [1, 2, 0] rfl)
theorem iw_X5_owedInAll_X5 : ∀ w ∈ wsX50, w ∈ wsX5_owedInAll := fun _ h => List.mem_cons_of_mem _ (List.mem_append_right _ (h))
set_option maxHeartbeats 4000000 in
set_option maxRecDepth 100000 in
theorem c_X5_owedInAll (l : Launch) (D : va_G) (cA cQ : ClassId) (adM : Nat → Nat) (vM : St) (o : Int32) (hf : X5_owedInAll vM = some o) : Cti l yX5_owedInAll wsX5_owedInAll ({ frames := 1, cells := 0, slots := 0, locals := 22 }) D (TY cA cQ) [.ref (adM 0)] (wM cA adM vM) (wM cA adM vM) o := by
  refine Wk.i (cc := cX5_owedInAll) (maxL := 3) (ret := (some .int)) (by decide) rfl (Nat.le_of_ble_eq_true rfl) ?_
  intro p e s m below meth c A ls hx hb hr hlocks hml hown hts hK hN hP hD hA hl
  have hown : s.vm.findClass RX5 = some m.cls := hown
  have hS : va_S A s.heap s.heap [] := va_S.rf
  have hl : lv_has ls 3 [(0, .ref (adM 0))] := hl
  have B4 : ∀ (fu4 : Nat) (x1 : Int32) (x2 : Int32) (H : Heap) (locs : List Loc) (ls : Array Slot), X5_owedInAll_l4 vM fu4 x1 x2 = some o → va_P D vwCl (wM cA adM vM) H → va_D A (wM cA adM vM) → va_S A s.heap H locs → lv_has ls 3 [(0, .ref (adM 0)), (1, .int x1), (2, .int x2)] → W p l e (headSpec wsX5_owedInAll ({ frames := 1, cells := 0, slots := 0, locals := 22 })).room s m ([.ref (adM 0)] : List Value).toArray below meth c H locs 0 0 (MQ below (QI D (wM cA adM vM) o A) ([.ref (adM 0)] : List Value).toArray s 0 0 A) (F0 m 4 ls []) := by
    intro fu4
    induction fu4 with
    | zero =>
      intro x1 x2 H locs ls h hP hD hS hl
      cases h
    | succ fu4 ih4 =>
      intro x1 x2 H locs ls h hP hD hS hl
      rw [X5_owedInAll_l4] at h
      refine lv_iload_n hx hb dX5_owedInAll_4 rfl (lv_at hl 2 rfl) ?_
      refine lv_aload_n hx hb dX5_owedInAll_5 rfl (lv_at hl 0 rfl) ?_
      refine va_get (D := D) (ci := 5) (v := .ref (adM 1)) (C := RX5) (T := TX5) (N := 18) hx hb hts iw_X5_owedInAll_X5 hown hK hP 0 rfl rfl 0 (by decide) (hts (.fieldLink RX5 7 "FavourRingsModel" "s" "[I") (List.mem_of_getElem? (i := 1) rfl)) (fun _ h9 => h9) rfl dX5_owedInAll_6 ?_
      refine lv_sipush (v := (290 : Int32)) hx hb dX5_owedInAll_9 (by decide) ?_
      obtain ⟨y1, ey1, h⟩ := bd_in h
      refine ldR hx hb hK hP 1 0 rfl rfl ey1 dX5_owedInAll_12 ?_
      refine lv_icmp_ge (tgt := 31) hx hb dX5_owedInAll_13 (by decide) (fun c2 => ?_) (fun c2 => ?_)
      · have h := (if_pos c2).symm.trans h
        refine lv_iload_n hx hb dX5_owedInAll_31 rfl (lv_at hl 1 rfl) ?_
        cases h
        exact endI hx hb hr hlocks hP hS rfl dX5_owedInAll_32
      · have h := (if_neg c2).symm.trans h
        refine lv_iload_n hx hb dX5_owedInAll_16 rfl (lv_at hl 1 rfl) ?_
        refine lv_aload_n hx hb dX5_owedInAll_17 rfl (lv_at hl 0 rfl) ?_
        refine lv_iload_n hx hb dX5_owedInAll_18 rfl (lv_at hl 2 rfl) ?_
        refine lv_iconst (v := (3 : Int32)) hx hb dX5_owedInAll_19 (by decide) ?_
        obtain ⟨u3, eu3, h⟩ := bd_in h
        refine kI (va_runV (As := [.int x2, .int (3 : Int32)]) (rest := [.int x1]) ⟨hx, hb, hml, hown, hts⟩ (c_X5_of l D cA cQ adM vM x2 (3 : Int32) u3 eu3 _) (cwV 2 hts gX5_owedInAll_X5_of rfl rfl rfl (by decide +kernel) ⟨Nat.le_of_ble_eq_true rfl, Nat.le_of_ble_eq_true rfl⟩) (pV (ci := 5) (q := (RX5, TX5, 18)) hK hN hP hD [0, 1, 2, 3, 4, 5, 6, 7, 8, 9] rfl rfl rfl rfl) rfl rfl hl.1 rfl (lv_room (Nat.le_of_ble_eq_true rfl)) dX5_owedInAll_20 ⟨Nat.zero_le _, Nat.zero_le _⟩) hP hD hS hA [0, 1, 2, 3, 4, 5, 6, 7, 8, 9] rfl rfl (ws' := (wM cA adM vM)) rfl (fun H locs hP hD hS => ?_)
        refine lv_iadd hx hb dX5_owedInAll_23 ?_
        refine lv_istore_n (lv' := [(1, .int (x1 + u3)), (0, .ref (adM 0)), (2, .int x2)]) hx hb dX5_owedInAll_24 rfl hl (by decide) rfl (fun ls hl => ?_)
        refine lv_iinc (v := (x2 + (1 : Int32))) (lv' := [(2, .int (x2 + (1 : Int32))), (1, .int (x1 + u3)), (0, .ref (adM 0))]) hx hb dX5_owedInAll_25 hl (k := 2) rfl rfl (by decide) rfl (fun ls hl => ?_)
        refine lv_goto (tgt := 4) hx hb dX5_owedInAll_28 (by decide) ?_
        exact ih4 (x1 + u3) (x2 + (1 : Int32)) _ _ _ h hP hD hS (lv_sub hl [2, 1, 0] rfl)
  have h := hf
  unfold X5_owedInAll at h
  refine lv_iconst (v := (0 : Int32)) hx hb dX5_owedInAll_0 (by decide) ?_
  refine lv_istore_n (lv' := [(1, .int (0 : Int32)), (0, .ref (adM 0))]) hx hb dX5_owedInAll_1 rfl hl (by decide) rfl (fun ls hl => ?_)
  refine lv_iconst (v := (0 : Int32)) hx hb dX5_owedInAll_2 (by decide) ?_
  refine lv_istore_n (lv' := [(2, .int (0 : Int32)), (1, .int (0 : Int32)), (0, .ref (adM 0))]) hx hb dX5_owedInAll_3 rfl hl (by decide) rfl (fun ls hl => ?_)
  exact B4 FU (0 : Int32) (0 : Int32) _ _ _ h hP hD hS (lv_sub hl [2, 1, 0] rfl)
theorem iw_X5_count_X5 : ∀ w ∈ wsX50, w ∈ wsX5_count := fun _ h => List.mem_cons_of_mem _ (List.mem_append_right _ (h))
set_option maxHeartbeats 4000000 in
set_option maxRecDepth 100000 in
theorem c_X5_count (l : Launch) (D : va_G) (cA cQ : ClassId) (adM : Nat → Nat) (vM : St) (p1 : Int32) (o : Int32) (hf : X5_count vM p1 = some o) : Cti l yX5_count wsX5_count ({ frames := 2, cells := 0, slots := 0, locals := 44 }) D (TY cA cQ) [.ref (adM 0), .int p1] (wM cA adM vM) (wM cA adM vM) o := by
  refine Wk.i (cc := cX5_count) (maxL := 2) (ret := (some .int)) (by decide) rfl (Nat.le_of_ble_eq_true rfl) ?_
  intro p e s m below meth c A ls hx hb hr hlocks hml hown hts hK hN hP hD hA hl
  have hown : s.vm.findClass RX5 = some m.cls := hown
  have hS : va_S A s.heap s.heap [] := va_S.rf
  have hl : lv_has ls 2 [(0, .ref (adM 0)), (1, .int p1)] := hl
  have h := hf
  unfold X5_count at h
  refine lv_iload_n hx hb dX5_count_0 rfl (lv_at hl 1 rfl) ?_
  by_cases c1 : p1 = (0 : Int32)
  · have h := (if_pos c1).symm.trans h
    refine lv_tableIn (off := 119) (tgt := 120) hx hb dX5_count_1 (by rw [c1]; decide +kernel) (by rw [c1]; decide +kernel) (by rw [c1]; decide +kernel) (by decide) ?_
    refine lv_aload_n hx hb dX5_count_120 rfl (lv_at hl 0 rfl) ?_
    refine va_get (D := D) (ci := 5) (v := .ref (adM 1)) (C := RX5) (T := TX5) (N := 18) hx hb hts iw_X5_count_X5 hown hK hP 0 rfl rfl 0 (by decide) (hts (.fieldLink RX5 7 "FavourRingsModel" "s" "[I") (List.mem_of_getElem? (i := 1) rfl)) (fun _ h9 => h9) rfl dX5_count_121 ?_
    refine lv_sipush (v := (288 : Int32)) hx hb dX5_count_124 (by decide) ?_
    refine lv_iload_n hx hb dX5_count_127 rfl (lv_at hl 1 rfl) ?_
    refine lv_iadd hx hb dX5_count_128 ?_
    obtain ⟨y2, ey2, h⟩ := bd_in h
    refine ldR hx hb hK hP 1 0 rfl rfl ey2 dX5_count_129 ?_
    cases h
    exact endI hx hb hr hlocks hP hS rfl dX5_count_130
  have h := (if_neg c1).symm.trans h
  by_cases c3 : p1 = (1 : Int32)
  · have h := (if_pos c3).symm.trans h
    refine lv_tableIn (off := 119) (tgt := 120) hx hb dX5_count_1 (by rw [c3]; decide +kernel) (by rw [c3]; decide +kernel) (by rw [c3]; decide +kernel) (by decide) ?_
    refine lv_aload_n hx hb dX5_count_120 rfl (lv_at hl 0 rfl) ?_
    refine va_get (D := D) (ci := 5) (v := .ref (adM 1)) (C := RX5) (T := TX5) (N := 18) hx hb hts iw_X5_count_X5 hown hK hP 0 rfl rfl 0 (by decide) (hts (.fieldLink RX5 7 "FavourRingsModel" "s" "[I") (List.mem_of_getElem? (i := 1) rfl)) (fun _ h9 => h9) rfl dX5_count_121 ?_
    refine lv_sipush (v := (288 : Int32)) hx hb dX5_count_124 (by decide) ?_
    refine lv_iload_n hx hb dX5_count_127 rfl (lv_at hl 1 rfl) ?_
    refine lv_iadd hx hb dX5_count_128 ?_
    obtain ⟨y4, ey4, h⟩ := bd_in h
    refine ldR hx hb hK hP 1 0 rfl rfl ey4 dX5_count_129 ?_
    cases h
    exact endI hx hb hr hlocks hP hS rfl dX5_count_130
  have h := (if_neg c3).symm.trans h
  by_cases c5 : p1 = (2 : Int32)
  · have h := (if_pos c5).symm.trans h
    refine lv_tableIn (off := 119) (tgt := 120) hx hb dX5_count_1 (by rw [c5]; decide +kernel) (by rw [c5]; decide +kernel) (by rw [c5]; decide +kernel) (by decide) ?_
    refine lv_aload_n hx hb dX5_count_120 rfl (lv_at hl 0 rfl) ?_
    refine va_get (D := D) (ci := 5) (v := .ref (adM 1)) (C := RX5) (T := TX5) (N := 18) hx hb hts iw_X5_count_X5 hown hK hP 0 rfl rfl 0 (by decide) (hts (.fieldLink RX5 7 "FavourRingsModel" "s" "[I") (List.mem_of_getElem? (i := 1) rfl)) (fun _ h9 => h9) rfl dX5_count_121 ?_
    refine lv_sipush (v := (288 : Int32)) hx hb dX5_count_124 (by decide) ?_
    refine lv_iload_n hx hb dX5_count_127 rfl (lv_at hl 1 rfl) ?_
    refine lv_iadd hx hb dX5_count_128 ?_
    obtain ⟨y6, ey6, h⟩ := bd_in h
    refine ldR hx hb hK hP 1 0 rfl rfl ey6 dX5_count_129 ?_
    cases h
    exact endI hx hb hr hlocks hP hS rfl dX5_count_130
  have h := (if_neg c5).symm.trans h
  by_cases c7 : p1 = (3 : Int32)
  · have h := (if_pos c7).symm.trans h
    refine lv_tableIn (off := 130) (tgt := 131) hx hb dX5_count_1 (by rw [c7]; decide +kernel) (by rw [c7]; decide +kernel) (by rw [c7]; decide +kernel) (by decide) ?_
    refine lv_aload_n hx hb dX5_count_131 rfl (lv_at hl 0 rfl) ?_
    obtain ⟨u8, eu8, h⟩ := bd_in h
    refine kI (va_runV (As := []) (rest := []) ⟨hx, hb, hml, hown, hts⟩ (c_X5_owedInAll l D cA cQ adM vM u8 eu8 _) (cwV 0 hts gX5_count_X5_owedInAll rfl rfl rfl (by decide +kernel) ⟨Nat.le_of_ble_eq_true rfl, Nat.le_of_ble_eq_true rfl⟩) (pV (ci := 5) (q := (RX5, TX5, 18)) hK hN hP hD [0, 1, 2, 3, 4, 5, 6, 7, 8, 9] rfl rfl rfl rfl) rfl rfl hl.1 rfl (lv_room (Nat.le_of_ble_eq_true rfl)) dX5_count_132 ⟨Nat.zero_le _, Nat.zero_le _⟩) hP hD hS hA [0, 1, 2, 3, 4, 5, 6, 7, 8, 9] rfl rfl (ws' := (wM cA adM vM)) rfl (fun H locs hP hD hS => ?_)
    cases h
    exact endI hx hb hr hlocks hP hS rfl dX5_count_135
  have h := (if_neg c7).symm.trans h
  by_cases c9 : p1 = (4 : Int32)
  · have h := (if_pos c9).symm.trans h
    refine lv_tableIn (off := 135) (tgt := 136) hx hb dX5_count_1 (by rw [c9]; decide +kernel) (by rw [c9]; decide +kernel) (by rw [c9]; decide +kernel) (by decide) ?_
    refine lv_aload_n hx hb dX5_count_136 rfl (lv_at hl 0 rfl) ?_
    refine va_get (D := D) (ci := 5) (v := .ref (adM 1)) (C := RX5) (T := TX5) (N := 18) hx hb hts iw_X5_count_X5 hown hK hP 0 rfl rfl 0 (by decide) (hts (.fieldLink RX5 7 "FavourRingsModel" "s" "[I") (List.mem_of_getElem? (i := 1) rfl)) (fun _ h9 => h9) rfl dX5_count_137 ?_
    refine lv_sipush (v := (291 : Int32)) hx hb dX5_count_140 (by decide) ?_
    refine lv_iload_n hx hb dX5_count_143 rfl (lv_at hl 1 rfl) ?_
    refine lv_iadd hx hb dX5_count_144 ?_
    refine lv_iconst (v := (4 : Int32)) hx hb dX5_count_145 (by decide) ?_
    refine lv_isub hx hb dX5_count_146 ?_
    obtain ⟨y10, ey10, h⟩ := bd_in h
    refine ldR hx hb hK hP 1 0 rfl rfl ey10 dX5_count_147 ?_
    cases h
    exact endI hx hb hr hlocks hP hS rfl dX5_count_148
  have h := (if_neg c9).symm.trans h
  by_cases c11 : p1 = (5 : Int32)
  · have h := (if_pos c11).symm.trans h
    refine lv_tableIn (off := 135) (tgt := 136) hx hb dX5_count_1 (by rw [c11]; decide +kernel) (by rw [c11]; decide +kernel) (by rw [c11]; decide +kernel) (by decide) ?_
    refine lv_aload_n hx hb dX5_count_136 rfl (lv_at hl 0 rfl) ?_
    refine va_get (D := D) (ci := 5) (v := .ref (adM 1)) (C := RX5) (T := TX5) (N := 18) hx hb hts iw_X5_count_X5 hown hK hP 0 rfl rfl 0 (by decide) (hts (.fieldLink RX5 7 "FavourRingsModel" "s" "[I") (List.mem_of_getElem? (i := 1) rfl)) (fun _ h9 => h9) rfl dX5_count_137 ?_
    refine lv_sipush (v := (291 : Int32)) hx hb dX5_count_140 (by decide) ?_
    refine lv_iload_n hx hb dX5_count_143 rfl (lv_at hl 1 rfl) ?_
    refine lv_iadd hx hb dX5_count_144 ?_
    refine lv_iconst (v := (4 : Int32)) hx hb dX5_count_145 (by decide) ?_
    refine lv_isub hx hb dX5_count_146 ?_
    obtain ⟨y12, ey12, h⟩ := bd_in h
    refine ldR hx hb hK hP 1 0 rfl rfl ey12 dX5_count_147 ?_
    cases h
    exact endI hx hb hr hlocks hP hS rfl dX5_count_148
  have h := (if_neg c11).symm.trans h
  by_cases c13 : p1 = (6 : Int32)
  · have h := (if_pos c13).symm.trans h
    refine lv_tableIn (off := 135) (tgt := 136) hx hb dX5_count_1 (by rw [c13]; decide +kernel) (by rw [c13]; decide +kernel) (by rw [c13]; decide +kernel) (by decide) ?_
    refine lv_aload_n hx hb dX5_count_136 rfl (lv_at hl 0 rfl) ?_
    refine va_get (D := D) (ci := 5) (v := .ref (adM 1)) (C := RX5) (T := TX5) (N := 18) hx hb hts iw_X5_count_X5 hown hK hP 0 rfl rfl 0 (by decide) (hts (.fieldLink RX5 7 "FavourRingsModel" "s" "[I") (List.mem_of_getElem? (i := 1) rfl)) (fun _ h9 => h9) rfl dX5_count_137 ?_
    refine lv_sipush (v := (291 : Int32)) hx hb dX5_count_140 (by decide) ?_
    refine lv_iload_n hx hb dX5_count_143 rfl (lv_at hl 1 rfl) ?_
    refine lv_iadd hx hb dX5_count_144 ?_
    refine lv_iconst (v := (4 : Int32)) hx hb dX5_count_145 (by decide) ?_
    refine lv_isub hx hb dX5_count_146 ?_
    obtain ⟨y14, ey14, h⟩ := bd_in h
    refine ldR hx hb hK hP 1 0 rfl rfl ey14 dX5_count_147 ?_
    cases h
    exact endI hx hb hr hlocks hP hS rfl dX5_count_148
  have h := (if_neg c13).symm.trans h
  by_cases c15 : p1 = (7 : Int32)
  · have h := (if_pos c15).symm.trans h
    refine lv_tableIn (off := 135) (tgt := 136) hx hb dX5_count_1 (by rw [c15]; decide +kernel) (by rw [c15]; decide +kernel) (by rw [c15]; decide +kernel) (by decide) ?_
    refine lv_aload_n hx hb dX5_count_136 rfl (lv_at hl 0 rfl) ?_
    refine va_get (D := D) (ci := 5) (v := .ref (adM 1)) (C := RX5) (T := TX5) (N := 18) hx hb hts iw_X5_count_X5 hown hK hP 0 rfl rfl 0 (by decide) (hts (.fieldLink RX5 7 "FavourRingsModel" "s" "[I") (List.mem_of_getElem? (i := 1) rfl)) (fun _ h9 => h9) rfl dX5_count_137 ?_
    refine lv_sipush (v := (291 : Int32)) hx hb dX5_count_140 (by decide) ?_
    refine lv_iload_n hx hb dX5_count_143 rfl (lv_at hl 1 rfl) ?_
    refine lv_iadd hx hb dX5_count_144 ?_
    refine lv_iconst (v := (4 : Int32)) hx hb dX5_count_145 (by decide) ?_
    refine lv_isub hx hb dX5_count_146 ?_
    obtain ⟨y16, ey16, h⟩ := bd_in h
    refine ldR hx hb hK hP 1 0 rfl rfl ey16 dX5_count_147 ?_
    cases h
    exact endI hx hb hr hlocks hP hS rfl dX5_count_148
  have h := (if_neg c15).symm.trans h
  by_cases c17 : p1 = (8 : Int32)
  · have h := (if_pos c17).symm.trans h
    refine lv_tableIn (off := 135) (tgt := 136) hx hb dX5_count_1 (by rw [c17]; decide +kernel) (by rw [c17]; decide +kernel) (by rw [c17]; decide +kernel) (by decide) ?_
    refine lv_aload_n hx hb dX5_count_136 rfl (lv_at hl 0 rfl) ?_
    refine va_get (D := D) (ci := 5) (v := .ref (adM 1)) (C := RX5) (T := TX5) (N := 18) hx hb hts iw_X5_count_X5 hown hK hP 0 rfl rfl 0 (by decide) (hts (.fieldLink RX5 7 "FavourRingsModel" "s" "[I") (List.mem_of_getElem? (i := 1) rfl)) (fun _ h9 => h9) rfl dX5_count_137 ?_
    refine lv_sipush (v := (291 : Int32)) hx hb dX5_count_140 (by decide) ?_
    refine lv_iload_n hx hb dX5_count_143 rfl (lv_at hl 1 rfl) ?_
    refine lv_iadd hx hb dX5_count_144 ?_
    refine lv_iconst (v := (4 : Int32)) hx hb dX5_count_145 (by decide) ?_
    refine lv_isub hx hb dX5_count_146 ?_
    obtain ⟨y18, ey18, h⟩ := bd_in h
    refine ldR hx hb hK hP 1 0 rfl rfl ey18 dX5_count_147 ?_
    cases h
    exact endI hx hb hr hlocks hP hS rfl dX5_count_148
  have h := (if_neg c17).symm.trans h
  by_cases c19 : p1 = (9 : Int32)
  · have h := (if_pos c19).symm.trans h
    refine lv_tableIn (off := 135) (tgt := 136) hx hb dX5_count_1 (by rw [c19]; decide +kernel) (by rw [c19]; decide +kernel) (by rw [c19]; decide +kernel) (by decide) ?_
    refine lv_aload_n hx hb dX5_count_136 rfl (lv_at hl 0 rfl) ?_
    refine va_get (D := D) (ci := 5) (v := .ref (adM 1)) (C := RX5) (T := TX5) (N := 18) hx hb hts iw_X5_count_X5 hown hK hP 0 rfl rfl 0 (by decide) (hts (.fieldLink RX5 7 "FavourRingsModel" "s" "[I") (List.mem_of_getElem? (i := 1) rfl)) (fun _ h9 => h9) rfl dX5_count_137 ?_
    refine lv_sipush (v := (291 : Int32)) hx hb dX5_count_140 (by decide) ?_
    refine lv_iload_n hx hb dX5_count_143 rfl (lv_at hl 1 rfl) ?_
    refine lv_iadd hx hb dX5_count_144 ?_
    refine lv_iconst (v := (4 : Int32)) hx hb dX5_count_145 (by decide) ?_
    refine lv_isub hx hb dX5_count_146 ?_
    obtain ⟨y20, ey20, h⟩ := bd_in h
    refine ldR hx hb hK hP 1 0 rfl rfl ey20 dX5_count_147 ?_
    cases h
    exact endI hx hb hr hlocks hP hS rfl dX5_count_148
  have h := (if_neg c19).symm.trans h
  by_cases c21 : p1 = (10 : Int32)
  · have h := (if_pos c21).symm.trans h
    refine lv_tableIn (off := 135) (tgt := 136) hx hb dX5_count_1 (by rw [c21]; decide +kernel) (by rw [c21]; decide +kernel) (by rw [c21]; decide +kernel) (by decide) ?_
    refine lv_aload_n hx hb dX5_count_136 rfl (lv_at hl 0 rfl) ?_
    refine va_get (D := D) (ci := 5) (v := .ref (adM 1)) (C := RX5) (T := TX5) (N := 18) hx hb hts iw_X5_count_X5 hown hK hP 0 rfl rfl 0 (by decide) (hts (.fieldLink RX5 7 "FavourRingsModel" "s" "[I") (List.mem_of_getElem? (i := 1) rfl)) (fun _ h9 => h9) rfl dX5_count_137 ?_
    refine lv_sipush (v := (291 : Int32)) hx hb dX5_count_140 (by decide) ?_
    refine lv_iload_n hx hb dX5_count_143 rfl (lv_at hl 1 rfl) ?_
    refine lv_iadd hx hb dX5_count_144 ?_
    refine lv_iconst (v := (4 : Int32)) hx hb dX5_count_145 (by decide) ?_
    refine lv_isub hx hb dX5_count_146 ?_
    obtain ⟨y22, ey22, h⟩ := bd_in h
    refine ldR hx hb hK hP 1 0 rfl rfl ey22 dX5_count_147 ?_
    cases h
    exact endI hx hb hr hlocks hP hS rfl dX5_count_148
  have h := (if_neg c21).symm.trans h
  by_cases c23 : p1 = (11 : Int32)
  · have h := (if_pos c23).symm.trans h
    refine lv_tableIn (off := 148) (tgt := 149) hx hb dX5_count_1 (by rw [c23]; decide +kernel) (by rw [c23]; decide +kernel) (by rw [c23]; decide +kernel) (by decide) ?_
    refine lv_aload_n hx hb dX5_count_149 rfl (lv_at hl 0 rfl) ?_
    obtain ⟨u24, eu24, h⟩ := bd_in h
    refine kI (va_runV (As := []) (rest := []) ⟨hx, hb, hml, hown, hts⟩ (c_X5_alone l D cA cQ adM vM u24 eu24 _) (cwV 0 hts gX5_count_X5_alone rfl rfl rfl (by decide +kernel) ⟨Nat.le_of_ble_eq_true rfl, Nat.le_of_ble_eq_true rfl⟩) (pV (ci := 5) (q := (RX5, TX5, 18)) hK hN hP hD [0, 1, 2, 3, 4, 5, 6, 7, 8, 9] rfl rfl rfl rfl) rfl rfl hl.1 rfl (lv_room (Nat.le_of_ble_eq_true rfl)) dX5_count_150 ⟨Nat.zero_le _, Nat.zero_le _⟩) hP hD hS hA [0, 1, 2, 3, 4, 5, 6, 7, 8, 9] rfl rfl (ws' := (wM cA adM vM)) rfl (fun H locs hP hD hS => ?_)
    cases h
    exact endI hx hb hr hlocks hP hS rfl dX5_count_153
  have h := (if_neg c23).symm.trans h
  by_cases c25 : p1 = (12 : Int32)
  · have h := (if_pos c25).symm.trans h
    refine lv_tableIn (off := 153) (tgt := 154) hx hb dX5_count_1 (by rw [c25]; decide +kernel) (by rw [c25]; decide +kernel) (by rw [c25]; decide +kernel) (by decide) ?_
    refine lv_aload_n hx hb dX5_count_154 rfl (lv_at hl 0 rfl) ?_
    refine va_get (D := D) (ci := 5) (v := .int (vM 99 4)) (C := RX5) (T := TX5) (N := 18) hx hb hts iw_X5_count_X5 hown hK hP 0 rfl rfl 4 (by decide) (hts (.fieldLink RX5 41 "FavourRingsModel" "pasts" "I") (List.mem_of_getElem? (i := 2) rfl)) (fun _ h9 => h9) rfl dX5_count_155 ?_
    cases h
    exact endI hx hb hr hlocks hP hS rfl dX5_count_158
  have h := (if_neg c25).symm.trans h
  by_cases c26 : p1 = (13 : Int32)
  · have h := (if_pos c26).symm.trans h
    refine lv_tableIn (off := 158) (tgt := 159) hx hb dX5_count_1 (by rw [c26]; decide +kernel) (by rw [c26]; decide +kernel) (by rw [c26]; decide +kernel) (by decide) ?_
    refine lv_aload_n hx hb dX5_count_159 rfl (lv_at hl 0 rfl) ?_
    refine va_get (D := D) (ci := 5) (v := .int (vM 99 7)) (C := RX5) (T := TX5) (N := 18) hx hb hts iw_X5_count_X5 hown hK hP 0 rfl rfl 7 (by decide) (hts (.fieldLink RX5 147 "FavourRingsModel" "typed" "I") (List.mem_of_getElem? (i := 3) rfl)) (fun _ h9 => h9) rfl dX5_count_160 ?_
    cases h
    exact endI hx hb hr hlocks hP hS rfl dX5_count_163
  have h := (if_neg c26).symm.trans h
  by_cases c27 : p1 = (14 : Int32)
  · have h := (if_pos c27).symm.trans h
    refine lv_tableIn (off := 177) (tgt := 178) hx hb dX5_count_1 (by rw [c27]; decide +kernel) (by rw [c27]; decide +kernel) (by rw [c27]; decide +kernel) (by decide) ?_
    refine lv_ldc (v := (-1000001 : Int32)) hx hb hown (hts (.constant RX5 86 (-1000001)) (List.mem_of_getElem? (i := 4) rfl)) dX5_count_178 ?_
    cases h
    exact endI hx hb hr hlocks hP hS rfl dX5_count_180
  have h := (if_neg c27).symm.trans h
  by_cases c28 : p1 = (15 : Int32)
  · have h := (if_pos c28).symm.trans h
    refine lv_tableIn (off := 177) (tgt := 178) hx hb dX5_count_1 (by rw [c28]; decide +kernel) (by rw [c28]; decide +kernel) (by rw [c28]; decide +kernel) (by decide) ?_
    refine lv_ldc (v := (-1000001 : Int32)) hx hb hown (hts (.constant RX5 86 (-1000001)) (List.mem_of_getElem? (i := 4) rfl)) dX5_count_178 ?_
    cases h
    exact endI hx hb hr hlocks hP hS rfl dX5_count_180
  have h := (if_neg c28).symm.trans h
  by_cases c29 : p1 = (16 : Int32)
  · have h := (if_pos c29).symm.trans h
    refine lv_tableIn (off := 177) (tgt := 178) hx hb dX5_count_1 (by rw [c29]; decide +kernel) (by rw [c29]; decide +kernel) (by rw [c29]; decide +kernel) (by decide) ?_
    refine lv_ldc (v := (-1000001 : Int32)) hx hb hown (hts (.constant RX5 86 (-1000001)) (List.mem_of_getElem? (i := 4) rfl)) dX5_count_178 ?_
    cases h
    exact endI hx hb hr hlocks hP hS rfl dX5_count_180
  have h := (if_neg c29).symm.trans h
  by_cases c30 : p1 = (17 : Int32)
  · have h := (if_pos c30).symm.trans h
    refine lv_tableIn (off := 177) (tgt := 178) hx hb dX5_count_1 (by rw [c30]; decide +kernel) (by rw [c30]; decide +kernel) (by rw [c30]; decide +kernel) (by decide) ?_
    refine lv_ldc (v := (-1000001 : Int32)) hx hb hown (hts (.constant RX5 86 (-1000001)) (List.mem_of_getElem? (i := 4) rfl)) dX5_count_178 ?_
    cases h
    exact endI hx hb hr hlocks hP hS rfl dX5_count_180
  have h := (if_neg c30).symm.trans h
  by_cases c31 : p1 = (18 : Int32)
  · have h := (if_pos c31).symm.trans h
    refine lv_tableIn (off := 177) (tgt := 178) hx hb dX5_count_1 (by rw [c31]; decide +kernel) (by rw [c31]; decide +kernel) (by rw [c31]; decide +kernel) (by decide) ?_
    refine lv_ldc (v := (-1000001 : Int32)) hx hb hown (hts (.constant RX5 86 (-1000001)) (List.mem_of_getElem? (i := 4) rfl)) dX5_count_178 ?_
    cases h
    exact endI hx hb hr hlocks hP hS rfl dX5_count_180
  have h := (if_neg c31).symm.trans h
  by_cases c32 : p1 = (19 : Int32)
  · have h := (if_pos c32).symm.trans h
    refine lv_tableIn (off := 177) (tgt := 178) hx hb dX5_count_1 (by rw [c32]; decide +kernel) (by rw [c32]; decide +kernel) (by rw [c32]; decide +kernel) (by decide) ?_
    refine lv_ldc (v := (-1000001 : Int32)) hx hb hown (hts (.constant RX5 86 (-1000001)) (List.mem_of_getElem? (i := 4) rfl)) dX5_count_178 ?_
    cases h
    exact endI hx hb hr hlocks hP hS rfl dX5_count_180
  have h := (if_neg c32).symm.trans h
  by_cases c33 : p1 = (20 : Int32)
  · have h := (if_pos c33).symm.trans h
    refine lv_tableIn (off := 163) (tgt := 164) hx hb dX5_count_1 (by rw [c33]; decide +kernel) (by rw [c33]; decide +kernel) (by rw [c33]; decide +kernel) (by decide) ?_
    refine lv_aload_n hx hb dX5_count_164 rfl (lv_at hl 0 rfl) ?_
    refine va_get (D := D) (ci := 5) (v := .ref (adM 1)) (C := RX5) (T := TX5) (N := 18) hx hb hts iw_X5_count_X5 hown hK hP 0 rfl rfl 0 (by decide) (hts (.fieldLink RX5 7 "FavourRingsModel" "s" "[I") (List.mem_of_getElem? (i := 1) rfl)) (fun _ h9 => h9) rfl dX5_count_165 ?_
    refine lv_sipush (v := (298 : Int32)) hx hb dX5_count_168 (by decide) ?_
    refine lv_iload_n hx hb dX5_count_171 rfl (lv_at hl 1 rfl) ?_
    refine lv_iadd hx hb dX5_count_172 ?_
    refine lv_bipush (v := (20 : Int32)) hx hb dX5_count_173 (by decide) ?_
    refine lv_isub hx hb dX5_count_175 ?_
    obtain ⟨y34, ey34, h⟩ := bd_in h
    refine ldR hx hb hK hP 1 0 rfl rfl ey34 dX5_count_176 ?_
    cases h
    exact endI hx hb hr hlocks hP hS rfl dX5_count_177
  have h := (if_neg c33).symm.trans h
  by_cases c35 : p1 = (21 : Int32)
  · have h := (if_pos c35).symm.trans h
    refine lv_tableIn (off := 163) (tgt := 164) hx hb dX5_count_1 (by rw [c35]; decide +kernel) (by rw [c35]; decide +kernel) (by rw [c35]; decide +kernel) (by decide) ?_
    refine lv_aload_n hx hb dX5_count_164 rfl (lv_at hl 0 rfl) ?_
    refine va_get (D := D) (ci := 5) (v := .ref (adM 1)) (C := RX5) (T := TX5) (N := 18) hx hb hts iw_X5_count_X5 hown hK hP 0 rfl rfl 0 (by decide) (hts (.fieldLink RX5 7 "FavourRingsModel" "s" "[I") (List.mem_of_getElem? (i := 1) rfl)) (fun _ h9 => h9) rfl dX5_count_165 ?_
    refine lv_sipush (v := (298 : Int32)) hx hb dX5_count_168 (by decide) ?_
    refine lv_iload_n hx hb dX5_count_171 rfl (lv_at hl 1 rfl) ?_
    refine lv_iadd hx hb dX5_count_172 ?_
    refine lv_bipush (v := (20 : Int32)) hx hb dX5_count_173 (by decide) ?_
    refine lv_isub hx hb dX5_count_175 ?_
    obtain ⟨y36, ey36, h⟩ := bd_in h
    refine ldR hx hb hK hP 1 0 rfl rfl ey36 dX5_count_176 ?_
    cases h
    exact endI hx hb hr hlocks hP hS rfl dX5_count_177
  have h := (if_neg c35).symm.trans h
  by_cases c37 : p1 = (22 : Int32)
  · have h := (if_pos c37).symm.trans h
    refine lv_tableIn (off := 163) (tgt := 164) hx hb dX5_count_1 (by rw [c37]; decide +kernel) (by rw [c37]; decide +kernel) (by rw [c37]; decide +kernel) (by decide) ?_
    refine lv_aload_n hx hb dX5_count_164 rfl (lv_at hl 0 rfl) ?_
    refine va_get (D := D) (ci := 5) (v := .ref (adM 1)) (C := RX5) (T := TX5) (N := 18) hx hb hts iw_X5_count_X5 hown hK hP 0 rfl rfl 0 (by decide) (hts (.fieldLink RX5 7 "FavourRingsModel" "s" "[I") (List.mem_of_getElem? (i := 1) rfl)) (fun _ h9 => h9) rfl dX5_count_165 ?_
    refine lv_sipush (v := (298 : Int32)) hx hb dX5_count_168 (by decide) ?_
    refine lv_iload_n hx hb dX5_count_171 rfl (lv_at hl 1 rfl) ?_
    refine lv_iadd hx hb dX5_count_172 ?_
    refine lv_bipush (v := (20 : Int32)) hx hb dX5_count_173 (by decide) ?_
    refine lv_isub hx hb dX5_count_175 ?_
    obtain ⟨y38, ey38, h⟩ := bd_in h
    refine ldR hx hb hK hP 1 0 rfl rfl ey38 dX5_count_176 ?_
    cases h
    exact endI hx hb hr hlocks hP hS rfl dX5_count_177
  have h := (if_neg c37).symm.trans h
  by_cases c39 : p1 = (23 : Int32)
  · have h := (if_pos c39).symm.trans h
    refine lv_tableIn (off := 163) (tgt := 164) hx hb dX5_count_1 (by rw [c39]; decide +kernel) (by rw [c39]; decide +kernel) (by rw [c39]; decide +kernel) (by decide) ?_
    refine lv_aload_n hx hb dX5_count_164 rfl (lv_at hl 0 rfl) ?_
    refine va_get (D := D) (ci := 5) (v := .ref (adM 1)) (C := RX5) (T := TX5) (N := 18) hx hb hts iw_X5_count_X5 hown hK hP 0 rfl rfl 0 (by decide) (hts (.fieldLink RX5 7 "FavourRingsModel" "s" "[I") (List.mem_of_getElem? (i := 1) rfl)) (fun _ h9 => h9) rfl dX5_count_165 ?_
    refine lv_sipush (v := (298 : Int32)) hx hb dX5_count_168 (by decide) ?_
    refine lv_iload_n hx hb dX5_count_171 rfl (lv_at hl 1 rfl) ?_
    refine lv_iadd hx hb dX5_count_172 ?_
    refine lv_bipush (v := (20 : Int32)) hx hb dX5_count_173 (by decide) ?_
    refine lv_isub hx hb dX5_count_175 ?_
    obtain ⟨y40, ey40, h⟩ := bd_in h
    refine ldR hx hb hK hP 1 0 rfl rfl ey40 dX5_count_176 ?_
    cases h
    exact endI hx hb hr hlocks hP hS rfl dX5_count_177
  have h := (if_neg c39).symm.trans h
  by_cases c41 : p1 = (24 : Int32)
  · have h := (if_pos c41).symm.trans h
    refine lv_tableIn (off := 163) (tgt := 164) hx hb dX5_count_1 (by rw [c41]; decide +kernel) (by rw [c41]; decide +kernel) (by rw [c41]; decide +kernel) (by decide) ?_
    refine lv_aload_n hx hb dX5_count_164 rfl (lv_at hl 0 rfl) ?_
    refine va_get (D := D) (ci := 5) (v := .ref (adM 1)) (C := RX5) (T := TX5) (N := 18) hx hb hts iw_X5_count_X5 hown hK hP 0 rfl rfl 0 (by decide) (hts (.fieldLink RX5 7 "FavourRingsModel" "s" "[I") (List.mem_of_getElem? (i := 1) rfl)) (fun _ h9 => h9) rfl dX5_count_165 ?_
    refine lv_sipush (v := (298 : Int32)) hx hb dX5_count_168 (by decide) ?_
    refine lv_iload_n hx hb dX5_count_171 rfl (lv_at hl 1 rfl) ?_
    refine lv_iadd hx hb dX5_count_172 ?_
    refine lv_bipush (v := (20 : Int32)) hx hb dX5_count_173 (by decide) ?_
    refine lv_isub hx hb dX5_count_175 ?_
    obtain ⟨y42, ey42, h⟩ := bd_in h
    refine ldR hx hb hK hP 1 0 rfl rfl ey42 dX5_count_176 ?_
    cases h
    exact endI hx hb hr hlocks hP hS rfl dX5_count_177
  have h := (if_neg c41).symm.trans h
  by_cases c43 : p1 = (25 : Int32)
  · have h := (if_pos c43).symm.trans h
    refine lv_tableIn (off := 163) (tgt := 164) hx hb dX5_count_1 (by rw [c43]; decide +kernel) (by rw [c43]; decide +kernel) (by rw [c43]; decide +kernel) (by decide) ?_
    refine lv_aload_n hx hb dX5_count_164 rfl (lv_at hl 0 rfl) ?_
    refine va_get (D := D) (ci := 5) (v := .ref (adM 1)) (C := RX5) (T := TX5) (N := 18) hx hb hts iw_X5_count_X5 hown hK hP 0 rfl rfl 0 (by decide) (hts (.fieldLink RX5 7 "FavourRingsModel" "s" "[I") (List.mem_of_getElem? (i := 1) rfl)) (fun _ h9 => h9) rfl dX5_count_165 ?_
    refine lv_sipush (v := (298 : Int32)) hx hb dX5_count_168 (by decide) ?_
    refine lv_iload_n hx hb dX5_count_171 rfl (lv_at hl 1 rfl) ?_
    refine lv_iadd hx hb dX5_count_172 ?_
    refine lv_bipush (v := (20 : Int32)) hx hb dX5_count_173 (by decide) ?_
    refine lv_isub hx hb dX5_count_175 ?_
    obtain ⟨y44, ey44, h⟩ := bd_in h
    refine ldR hx hb hK hP 1 0 rfl rfl ey44 dX5_count_176 ?_
    cases h
    exact endI hx hb hr hlocks hP hS rfl dX5_count_177
  have h := (if_neg c43).symm.trans h
  have nc1 : (p1).toInt ≠ 0 := ne_toInt c1
  have nc3 : (p1).toInt ≠ 1 := ne_toInt c3
  have nc5 : (p1).toInt ≠ 2 := ne_toInt c5
  have nc7 : (p1).toInt ≠ 3 := ne_toInt c7
  have nc9 : (p1).toInt ≠ 4 := ne_toInt c9
  have nc11 : (p1).toInt ≠ 5 := ne_toInt c11
  have nc13 : (p1).toInt ≠ 6 := ne_toInt c13
  have nc15 : (p1).toInt ≠ 7 := ne_toInt c15
  have nc17 : (p1).toInt ≠ 8 := ne_toInt c17
  have nc19 : (p1).toInt ≠ 9 := ne_toInt c19
  have nc21 : (p1).toInt ≠ 10 := ne_toInt c21
  have nc23 : (p1).toInt ≠ 11 := ne_toInt c23
  have nc25 : (p1).toInt ≠ 12 := ne_toInt c25
  have nc26 : (p1).toInt ≠ 13 := ne_toInt c26
  have nc27 : (p1).toInt ≠ 14 := ne_toInt c27
  have nc28 : (p1).toInt ≠ 15 := ne_toInt c28
  have nc29 : (p1).toInt ≠ 16 := ne_toInt c29
  have nc30 : (p1).toInt ≠ 17 := ne_toInt c30
  have nc31 : (p1).toInt ≠ 18 := ne_toInt c31
  have nc32 : (p1).toInt ≠ 19 := ne_toInt c32
  have nc33 : (p1).toInt ≠ 20 := ne_toInt c33
  have nc35 : (p1).toInt ≠ 21 := ne_toInt c35
  have nc37 : (p1).toInt ≠ 22 := ne_toInt c37
  have nc39 : (p1).toInt ≠ 23 := ne_toInt c39
  have nc41 : (p1).toInt ≠ 24 := ne_toInt c41
  have nc43 : (p1).toInt ≠ 25 := ne_toInt c43
  refine lv_tableOut (tgt := 178) hx hb dX5_count_1 (by omega) (by decide) ?_
  refine lv_ldc (v := (-1000001 : Int32)) hx hb hown (hts (.constant RX5 86 (-1000001)) (List.mem_of_getElem? (i := 4) rfl)) dX5_count_178 ?_
  cases h
  exact endI hx hb hr hlocks hP hS rfl dX5_count_180
theorem iw_X5_deepest_X5 : ∀ w ∈ wsX50, w ∈ wsX5_deepest := fun _ h => List.mem_cons_of_mem _ (List.mem_append_right _ (h))
set_option maxHeartbeats 4000000 in
set_option maxRecDepth 100000 in
theorem c_X5_deepest (l : Launch) (D : va_G) (cA cQ : ClassId) (adM : Nat → Nat) (vM : St) (p1 : Int32) (o : Int32) (hf : X5_deepest vM p1 = some o) : Cti l yX5_deepest wsX5_deepest ({ frames := 2, cells := 0, slots := 0, locals := 42 }) D (TY cA cQ) [.ref (adM 0), .int p1] (wM cA adM vM) (wM cA adM vM) o := by
  refine Wk.i (cc := cX5_deepest) (maxL := 7) (ret := (some .int)) (by decide) rfl (Nat.le_of_ble_eq_true rfl) ?_
  intro p e s m below meth c A ls hx hb hr hlocks hml hown hts hK hN hP hD hA hl
  have hown : s.vm.findClass RX5 = some m.cls := hown
  have hS : va_S A s.heap s.heap [] := va_S.rf
  have hl : lv_has ls 7 [(0, .ref (adM 0)), (1, .int p1)] := hl
  have B18 : ∀ (fu18 : Nat) (x2 : Int32) (x3 : Int32) (x4 : Int32) (H : Heap) (locs : List Loc) (ls : Array Slot), X5_deepest_l18 vM p1 fu18 x2 x3 x4 = some o → va_P D vwCl (wM cA adM vM) H → va_D A (wM cA adM vM) → va_S A s.heap H locs → lv_has ls 7 [(0, .ref (adM 0)), (1, .int p1), (2, .int x2), (3, .int x3), (4, .int x4)] → W p l e (headSpec wsX5_deepest ({ frames := 2, cells := 0, slots := 0, locals := 42 })).room s m ([.ref (adM 0), .int p1] : List Value).toArray below meth c H locs 0 0 (MQ below (QI D (wM cA adM vM) o A) ([.ref (adM 0), .int p1] : List Value).toArray s 0 0 A) (F0 m 18 ls []) := by
    intro fu18
    induction fu18 with
    | zero =>
      intro x2 x3 x4 H locs ls h hP hD hS hl
      cases h
    | succ fu18 ih18 =>
      have B107 : ∀ (x3 : Int32) (x4 : Int32) (x5 : Int32) (t0 : Int32) (H : Heap) (locs : List Loc) (ls : Array Slot), X5_deepest_b107 vM p1 (X5_deepest_l18 vM p1 fu18) x3 x4 x5 t0 = some o → va_P D vwCl (wM cA adM vM) H → va_D A (wM cA adM vM) → va_S A s.heap H locs → lv_has ls 7 [(0, .ref (adM 0)), (1, .int p1), (3, .int x3), (4, .int x4), (5, .int x5)] → W p l e (headSpec wsX5_deepest ({ frames := 2, cells := 0, slots := 0, locals := 42 })).room s m ([.ref (adM 0), .int p1] : List Value).toArray below meth c H locs 0 0 (MQ below (QI D (wM cA adM vM) o A) ([.ref (adM 0), .int p1] : List Value).toArray s 0 0 A) (F0 m 107 ls [.int t0]) := by
        intro x3 x4 x5 t0 H locs ls h hP hD hS hl
        unfold X5_deepest_b107 at h
        refine lv_istore_n (lv' := [(2, .int t0), (0, .ref (adM 0)), (1, .int p1), (3, .int x3), (4, .int x4), (5, .int x5)]) hx hb dX5_deepest_107 rfl hl (by decide) rfl (fun ls hl => ?_)
        refine lv_iload hx hb dX5_deepest_108 (lv_at hl 5 rfl) ?_
        refine lv_iload_n hx hb dX5_deepest_110 rfl (lv_at hl 3 rfl) ?_
        refine lv_icmp_le (tgt := 119) hx hb dX5_deepest_111 (by decide) (fun c1 => ?_) (fun c1 => ?_)
        · have h := (if_pos c1).symm.trans h
          refine lv_iload_n hx hb dX5_deepest_119 rfl (lv_at hl 3 rfl) ?_
          refine lv_istore_n (lv' := [(3, .int x3), (2, .int t0), (0, .ref (adM 0)), (1, .int p1), (4, .int x4), (5, .int x5)]) hx hb dX5_deepest_120 rfl hl (by decide) rfl (fun ls hl => ?_)
          refine lv_iinc (v := (x4 + (1 : Int32))) (lv' := [(4, .int (x4 + (1 : Int32))), (3, .int x3), (2, .int t0), (0, .ref (adM 0)), (1, .int p1), (5, .int x5)]) hx hb dX5_deepest_121 hl (k := 4) rfl rfl (by decide) rfl (fun ls hl => ?_)
          refine lv_goto (tgt := 18) hx hb dX5_deepest_124 (by decide) ?_
          exact ih18 t0 x3 (x4 + (1 : Int32)) _ _ _ h hP hD hS (lv_sub hl [3, 4, 2, 1, 0] rfl)
        · have h := (if_neg c1).symm.trans h
          refine lv_iload hx hb dX5_deepest_114 (lv_at hl 5 rfl) ?_
          refine lv_goto (tgt := 120) hx hb dX5_deepest_116 (by decide) ?_
          refine lv_istore_n (lv' := [(3, .int x5), (2, .int t0), (0, .ref (adM 0)), (1, .int p1), (4, .int x4), (5, .int x5)]) hx hb dX5_deepest_120 rfl hl (by decide) rfl (fun ls hl => ?_)
          refine lv_iinc (v := (x4 + (1 : Int32))) (lv' := [(4, .int (x4 + (1 : Int32))), (3, .int x5), (2, .int t0), (0, .ref (adM 0)), (1, .int p1), (5, .int x5)]) hx hb dX5_deepest_121 hl (k := 4) rfl rfl (by decide) rfl (fun ls hl => ?_)
          refine lv_goto (tgt := 18) hx hb dX5_deepest_124 (by decide) ?_
          exact ih18 t0 x5 (x4 + (1 : Int32)) _ _ _ h hP hD hS (lv_sub hl [3, 4, 2, 1, 0] rfl)
      have B95 : ∀ (x2 : Int32) (x3 : Int32) (x4 : Int32) (x5 : Int32) (H : Heap) (locs : List Loc) (ls : Array Slot), X5_deepest_b95 vM p1 (X5_deepest_l18 vM p1 fu18) x2 x3 x4 x5 = some o → va_P D vwCl (wM cA adM vM) H → va_D A (wM cA adM vM) → va_S A s.heap H locs → lv_has ls 7 [(0, .ref (adM 0)), (1, .int p1), (2, .int x2), (3, .int x3), (4, .int x4), (5, .int x5)] → W p l e (headSpec wsX5_deepest ({ frames := 2, cells := 0, slots := 0, locals := 42 })).room s m ([.ref (adM 0), .int p1] : List Value).toArray below meth c H locs 0 0 (MQ below (QI D (wM cA adM vM) o A) ([.ref (adM 0), .int p1] : List Value).toArray s 0 0 A) (F0 m 95 ls []) := by
        intro x2 x3 x4 x5 H locs ls h hP hD hS hl
        unfold X5_deepest_b95 at h
        refine lv_iload hx hb dX5_deepest_95 (lv_at hl 5 rfl) ?_
        refine lv_iload_n hx hb dX5_deepest_97 rfl (lv_at hl 3 rfl) ?_
        refine lv_icmp_le (tgt := 106) hx hb dX5_deepest_98 (by decide) (fun c2 => ?_) (fun c2 => ?_)
        · have h := (if_pos c2).symm.trans h
          refine lv_iload_n hx hb dX5_deepest_106 rfl (lv_at hl 2 rfl) ?_
          exact B107 x3 x4 x5 x2 _ _ _ h hP hD hS (lv_sub hl [0, 1, 3, 4, 5] rfl)
        · have h := (if_neg c2).symm.trans h
          refine lv_iload hx hb dX5_deepest_101 (lv_at hl 4 rfl) ?_
          refine lv_goto (tgt := 107) hx hb dX5_deepest_103 (by decide) ?_
          exact B107 x3 x4 x5 x4 _ _ _ h hP hD hS (lv_sub hl [0, 1, 3, 4, 5] rfl)
      have B37 : ∀ (fu37 : Nat) (x2 : Int32) (x3 : Int32) (x4 : Int32) (x5 : Int32) (x6 : Int32) (H : Heap) (locs : List Loc) (ls : Array Slot), X5_deepest_l37 vM p1 (X5_deepest_l18 vM p1 fu18) fu37 x2 x3 x4 x5 x6 = some o → va_P D vwCl (wM cA adM vM) H → va_D A (wM cA adM vM) → va_S A s.heap H locs → lv_has ls 7 [(0, .ref (adM 0)), (1, .int p1), (2, .int x2), (3, .int x3), (4, .int x4), (5, .int x5), (6, .int x6)] → W p l e (headSpec wsX5_deepest ({ frames := 2, cells := 0, slots := 0, locals := 42 })).room s m ([.ref (adM 0), .int p1] : List Value).toArray below meth c H locs 0 0 (MQ below (QI D (wM cA adM vM) o A) ([.ref (adM 0), .int p1] : List Value).toArray s 0 0 A) (F0 m 37 ls []) := by
        intro fu37
        induction fu37 with
        | zero =>
          intro x2 x3 x4 x5 x6 H locs ls h hP hD hS hl
          cases h
        | succ fu37 ih37 =>
          intro x2 x3 x4 x5 x6 H locs ls h hP hD hS hl
          rw [X5_deepest_l37] at h
          refine lv_iload hx hb dX5_deepest_37 (lv_at hl 6 rfl) ?_
          refine lv_aload_n hx hb dX5_deepest_39 rfl (lv_at hl 0 rfl) ?_
          refine va_get (D := D) (ci := 5) (v := .ref (adM 1)) (C := RX5) (T := TX5) (N := 18) hx hb hts iw_X5_deepest_X5 hown hK hP 0 rfl rfl 0 (by decide) (hts (.fieldLink RX5 7 "FavourRingsModel" "s" "[I") (List.mem_of_getElem? (i := 3) rfl)) (fun _ h9 => h9) rfl dX5_deepest_40 ?_
          refine lv_sipush (v := (290 : Int32)) hx hb dX5_deepest_43 (by decide) ?_
          obtain ⟨y3, ey3, h⟩ := bd_in h
          refine ldR hx hb hK hP 1 0 rfl rfl ey3 dX5_deepest_46 ?_
          refine lv_icmp_ge (tgt := 95) hx hb dX5_deepest_47 (by decide) (fun c4 => ?_) (fun c4 => ?_)
          · have h := (if_pos c4).symm.trans h
            exact B95 x2 x3 x4 x5 _ _ _ h hP hD hS (lv_sub hl [0, 1, 2, 3, 4, 5] rfl)
          · have h := (if_neg c4).symm.trans h
            refine lv_iload hx hb dX5_deepest_50 (lv_at hl 5 rfl) ?_
            refine lv_aload_n hx hb dX5_deepest_52 rfl (lv_at hl 0 rfl) ?_
            refine lv_iload hx hb dX5_deepest_53 (lv_at hl 6 rfl) ?_
            refine lv_iconst (v := (0 : Int32)) hx hb dX5_deepest_55 (by decide) ?_
            obtain ⟨u5, eu5, h⟩ := bd_in h
            refine kI (va_runV (As := [.int x6, .int (0 : Int32)]) (rest := [.int x5]) ⟨hx, hb, hml, hown, hts⟩ (c_X5_of l D cA cQ adM vM x6 (0 : Int32) u5 eu5 _) (cwV 2 hts gX5_deepest_X5_of rfl rfl rfl (by decide +kernel) ⟨Nat.le_of_ble_eq_true rfl, Nat.le_of_ble_eq_true rfl⟩) (pV (ci := 5) (q := (RX5, TX5, 18)) hK hN hP hD [0, 1, 2, 3, 4, 5, 6, 7, 8, 9] rfl rfl rfl rfl) rfl rfl hl.1 rfl (lv_room (Nat.le_of_ble_eq_true rfl)) dX5_deepest_56 ⟨Nat.zero_le _, Nat.zero_le _⟩) hP hD hS hA [0, 1, 2, 3, 4, 5, 6, 7, 8, 9] rfl rfl (ws' := (wM cA adM vM)) rfl (fun H locs hP hD hS => ?_)
            refine lv_iload hx hb dX5_deepest_59 (lv_at hl 4 rfl) ?_
            refine lv_icmp_ne (tgt := 85) hx hb dX5_deepest_61 (by decide) (fun c6 => ?_) (fun c6 => ?_)
            · have h := (if_neg c6).symm.trans h
              refine lv_iconst (v := (0 : Int32)) hx hb dX5_deepest_85 (by decide) ?_
              refine lv_iadd hx hb dX5_deepest_86 ?_
              refine lv_istore (lv' := [(5, .int (x5 + (0 : Int32))), (0, .ref (adM 0)), (1, .int p1), (2, .int x2), (3, .int x3), (4, .int x4), (6, .int x6)]) hx hb dX5_deepest_87 hl (by decide) rfl (fun ls hl => ?_)
              refine lv_iinc (v := (x6 + (1 : Int32))) (lv' := [(6, .int (x6 + (1 : Int32))), (5, .int (x5 + (0 : Int32))), (0, .ref (adM 0)), (1, .int p1), (2, .int x2), (3, .int x3), (4, .int x4)]) hx hb dX5_deepest_89 hl (k := 6) rfl rfl (by decide) rfl (fun ls hl => ?_)
              refine lv_goto (tgt := 37) hx hb dX5_deepest_92 (by decide) ?_
              exact ih37 x2 x3 x4 (x5 + (0 : Int32)) (x6 + (1 : Int32)) _ _ _ h hP hD hS (lv_sub hl [2, 3, 4, 5, 6, 1, 0] rfl)
            · have h := (if_pos c6).symm.trans h
              refine lv_aload_n hx hb dX5_deepest_64 rfl (lv_at hl 0 rfl) ?_
              refine lv_iload hx hb dX5_deepest_65 (lv_at hl 6 rfl) ?_
              refine lv_iconst (v := (2 : Int32)) hx hb dX5_deepest_67 (by decide) ?_
              obtain ⟨u7, eu7, h⟩ := bd_in h
              refine kI (va_runV (As := [.int x6, .int (2 : Int32)]) (rest := [.int x5]) ⟨hx, hb, hml, hown, hts⟩ (c_X5_of l D cA cQ adM vM x6 (2 : Int32) u7 eu7 _) (cwV 2 hts gX5_deepest_X5_of rfl rfl rfl (by decide +kernel) ⟨Nat.le_of_ble_eq_true rfl, Nat.le_of_ble_eq_true rfl⟩) (pV (ci := 5) (q := (RX5, TX5, 18)) hK hN hP hD [0, 1, 2, 3, 4, 5, 6, 7, 8, 9] rfl rfl rfl rfl) rfl rfl hl.1 rfl (lv_room (Nat.le_of_ble_eq_true rfl)) dX5_deepest_68 ⟨Nat.zero_le _, Nat.zero_le _⟩) hP hD hS hA [0, 1, 2, 3, 4, 5, 6, 7, 8, 9] rfl rfl (ws' := (wM cA adM vM)) rfl (fun H locs hP hD hS => ?_)
              refine lv_iload_n hx hb dX5_deepest_71 rfl (lv_at hl 1 rfl) ?_
              refine lv_icmp_ne (tgt := 85) hx hb dX5_deepest_72 (by decide) (fun c8 => ?_) (fun c8 => ?_)
              · have h := (if_neg c8).symm.trans h
                refine lv_iconst (v := (0 : Int32)) hx hb dX5_deepest_85 (by decide) ?_
                refine lv_iadd hx hb dX5_deepest_86 ?_
                refine lv_istore (lv' := [(5, .int (x5 + (0 : Int32))), (0, .ref (adM 0)), (1, .int p1), (2, .int x2), (3, .int x3), (4, .int x4), (6, .int x6)]) hx hb dX5_deepest_87 hl (by decide) rfl (fun ls hl => ?_)
                refine lv_iinc (v := (x6 + (1 : Int32))) (lv' := [(6, .int (x6 + (1 : Int32))), (5, .int (x5 + (0 : Int32))), (0, .ref (adM 0)), (1, .int p1), (2, .int x2), (3, .int x3), (4, .int x4)]) hx hb dX5_deepest_89 hl (k := 6) rfl rfl (by decide) rfl (fun ls hl => ?_)
                refine lv_goto (tgt := 37) hx hb dX5_deepest_92 (by decide) ?_
                exact ih37 x2 x3 x4 (x5 + (0 : Int32)) (x6 + (1 : Int32)) _ _ _ h hP hD hS (lv_sub hl [2, 3, 4, 5, 6, 1, 0] rfl)
              · have h := (if_pos c8).symm.trans h
                refine lv_aload_n hx hb dX5_deepest_75 rfl (lv_at hl 0 rfl) ?_
                refine lv_iload hx hb dX5_deepest_76 (lv_at hl 6 rfl) ?_
                refine lv_iconst (v := (3 : Int32)) hx hb dX5_deepest_78 (by decide) ?_
                obtain ⟨u9, eu9, h⟩ := bd_in h
                refine kI (va_runV (As := [.int x6, .int (3 : Int32)]) (rest := [.int x5]) ⟨hx, hb, hml, hown, hts⟩ (c_X5_of l D cA cQ adM vM x6 (3 : Int32) u9 eu9 _) (cwV 2 hts gX5_deepest_X5_of rfl rfl rfl (by decide +kernel) ⟨Nat.le_of_ble_eq_true rfl, Nat.le_of_ble_eq_true rfl⟩) (pV (ci := 5) (q := (RX5, TX5, 18)) hK hN hP hD [0, 1, 2, 3, 4, 5, 6, 7, 8, 9] rfl rfl rfl rfl) rfl rfl hl.1 rfl (lv_room (Nat.le_of_ble_eq_true rfl)) dX5_deepest_79 ⟨Nat.zero_le _, Nat.zero_le _⟩) hP hD hS hA [0, 1, 2, 3, 4, 5, 6, 7, 8, 9] rfl rfl (ws' := (wM cA adM vM)) rfl (fun H locs hP hD hS => ?_)
                refine lv_goto (tgt := 86) hx hb dX5_deepest_82 (by decide) ?_
                refine lv_iadd hx hb dX5_deepest_86 ?_
                refine lv_istore (lv' := [(5, .int (x5 + u9)), (0, .ref (adM 0)), (1, .int p1), (2, .int x2), (3, .int x3), (4, .int x4), (6, .int x6)]) hx hb dX5_deepest_87 hl (by decide) rfl (fun ls hl => ?_)
                refine lv_iinc (v := (x6 + (1 : Int32))) (lv' := [(6, .int (x6 + (1 : Int32))), (5, .int (x5 + u9)), (0, .ref (adM 0)), (1, .int p1), (2, .int x2), (3, .int x3), (4, .int x4)]) hx hb dX5_deepest_89 hl (k := 6) rfl rfl (by decide) rfl (fun ls hl => ?_)
                refine lv_goto (tgt := 37) hx hb dX5_deepest_92 (by decide) ?_
                exact ih37 x2 x3 x4 (x5 + u9) (x6 + (1 : Int32)) _ _ _ h hP hD hS (lv_sub hl [2, 3, 4, 5, 6, 1, 0] rfl)
      intro x2 x3 x4 H locs ls h hP hD hS hl
      rw [X5_deepest_l18] at h
      refine lv_iload hx hb dX5_deepest_18 (lv_at hl 4 rfl) ?_
      refine lv_aload_n hx hb dX5_deepest_20 rfl (lv_at hl 0 rfl) ?_
      refine va_get (D := D) (ci := 5) (v := .ref (adM 1)) (C := RX5) (T := TX5) (N := 18) hx hb hts iw_X5_deepest_X5 hown hK hP 0 rfl rfl 0 (by decide) (hts (.fieldLink RX5 7 "FavourRingsModel" "s" "[I") (List.mem_of_getElem? (i := 3) rfl)) (fun _ h9 => h9) rfl dX5_deepest_21 ?_
      refine lv_sipush (v := (289 : Int32)) hx hb dX5_deepest_24 (by decide) ?_
      obtain ⟨y10, ey10, h⟩ := bd_in h
      refine ldR hx hb hK hP 1 0 rfl rfl ey10 dX5_deepest_27 ?_
      refine lv_icmp_ge (tgt := 127) hx hb dX5_deepest_28 (by decide) (fun c11 => ?_) (fun c11 => ?_)
      · have h := (if_pos c11).symm.trans h
        refine lv_iload_n hx hb dX5_deepest_127 rfl (lv_at hl 2 rfl) ?_
        cases h
        exact endI hx hb hr hlocks hP hS rfl dX5_deepest_128
      · have h := (if_neg c11).symm.trans h
        refine lv_iconst (v := (0 : Int32)) hx hb dX5_deepest_31 (by decide) ?_
        refine lv_istore (lv' := [(5, .int (0 : Int32)), (0, .ref (adM 0)), (1, .int p1), (2, .int x2), (3, .int x3), (4, .int x4)]) hx hb dX5_deepest_32 hl (by decide) rfl (fun ls hl => ?_)
        refine lv_iconst (v := (0 : Int32)) hx hb dX5_deepest_34 (by decide) ?_
        refine lv_istore (lv' := [(6, .int (0 : Int32)), (5, .int (0 : Int32)), (0, .ref (adM 0)), (1, .int p1), (2, .int x2), (3, .int x3), (4, .int x4)]) hx hb dX5_deepest_35 hl (by decide) rfl (fun ls hl => ?_)
        exact B37 FU x2 x3 x4 (0 : Int32) (0 : Int32) _ _ _ h hP hD hS (lv_sub hl [2, 3, 4, 5, 6, 1, 0] rfl)
  have h := hf
  unfold X5_deepest at h
  refine lv_iload_n hx hb dX5_deepest_0 rfl (lv_at hl 1 rfl) ?_
  obtain ⟨u12, eu12, h⟩ := bd_in h
  refine kI (va_runS (As := [.int p1]) (rest := []) ⟨hx, hb, hml, hown, hts⟩ (c_X5_isKind l D cA cQ  p1 u12 eu12 _) (va_cwS 1 hts gX5_deepest_X5_isKind rfl rfl rfl (by decide +kernel) ⟨Nat.le_of_ble_eq_true rfl, Nat.le_of_ble_eq_true rfl⟩) (pS hK hN hP hD [] rfl rfl) rfl rfl hl.1 rfl (lv_room (Nat.le_of_ble_eq_true rfl)) dX5_deepest_1 ⟨Nat.zero_le _, Nat.zero_le _⟩) hP hD hS hA [] rfl rfl (ws' := (wM cA adM vM)) rfl (fun H locs hP hD hS => ?_)
  refine lv_if_ne (tgt := 10) hx hb dX5_deepest_4 (by decide) (fun c13 => ?_) (fun c13 => ?_)
  · have h := (if_neg c13).symm.trans h
    refine lv_ldc (v := (-1000004 : Int32)) hx hb hown (hts (.constant RX5 57 (-1000004)) (List.mem_of_getElem? (i := 2) rfl)) dX5_deepest_10 ?_
    refine lv_istore_n (lv' := [(2, .int (-1000004 : Int32)), (0, .ref (adM 0)), (1, .int p1)]) hx hb dX5_deepest_12 rfl hl (by decide) rfl (fun ls hl => ?_)
    refine lv_iconst (v := (0 : Int32)) hx hb dX5_deepest_13 (by decide) ?_
    refine lv_istore_n (lv' := [(3, .int (0 : Int32)), (2, .int (-1000004 : Int32)), (0, .ref (adM 0)), (1, .int p1)]) hx hb dX5_deepest_14 rfl hl (by decide) rfl (fun ls hl => ?_)
    refine lv_iconst (v := (0 : Int32)) hx hb dX5_deepest_15 (by decide) ?_
    refine lv_istore (lv' := [(4, .int (0 : Int32)), (3, .int (0 : Int32)), (2, .int (-1000004 : Int32)), (0, .ref (adM 0)), (1, .int p1)]) hx hb dX5_deepest_16 hl (by decide) rfl (fun ls hl => ?_)
    exact B18 FU (-1000004 : Int32) (0 : Int32) (0 : Int32) _ _ _ h hP hD hS (lv_sub hl [3, 4, 2, 1, 0] rfl)
  · have h := (if_pos c13).symm.trans h
    refine lv_ldc (v := (-1000001 : Int32)) hx hb hown (hts (.constant RX5 86 (-1000001)) (List.mem_of_getElem? (i := 1) rfl)) dX5_deepest_7 ?_
    cases h
    exact endI hx hb hr hlocks hP hS rfl dX5_deepest_9
theorem iw_X5_shifts_X5 : ∀ w ∈ wsX50, w ∈ wsX5_shifts := fun _ h => List.mem_cons_of_mem _ (List.mem_append_right _ (h))
set_option maxHeartbeats 4000000 in
set_option maxRecDepth 100000 in
theorem c_X5_shifts (l : Launch) (D : va_G) (cA cQ : ClassId) (adM : Nat → Nat) (vM : St) (p1 : Int32) (p2 : Int32) (p3 : Int32) (o : St) (hf : X5_shifts vM p1 p2 p3 = some o) : Ctv l yX5_shifts wsX5_shifts ({ frames := 1, cells := 0, slots := 0, locals := 21 }) D (TY cA cQ) [.ref (adM 0), .int p1, .int p2, .int p3] (wM cA adM vM) (wM cA adM o) := by
  refine Wk.v (cc := cX5_shifts) (maxL := 4) (ret := none) (by decide) rfl (Nat.le_of_ble_eq_true rfl) ?_
  intro p e s m below meth c A ls hx hb hr hlocks hml hown hts hK hN hP hD hA hl
  have hown : s.vm.findClass RX5 = some m.cls := hown
  have hS : va_S A s.heap s.heap [] := va_S.rf
  have hl : lv_has ls 4 [(0, .ref (adM 0)), (1, .int p1), (2, .int p2), (3, .int p3)] := hl
  have h := hf
  unfold X5_shifts at h
  refine lv_aload_n hx hb dX5_shifts_0 rfl (lv_at hl 0 rfl) ?_
  refine va_get (D := D) (ci := 5) (v := .ref (adM 1)) (C := RX5) (T := TX5) (N := 18) hx hb hts iw_X5_shifts_X5 hown hK hP 0 rfl rfl 0 (by decide) (hts (.fieldLink RX5 7 "FavourRingsModel" "s" "[I") (List.mem_of_getElem? (i := 1) rfl)) (fun _ h9 => h9) rfl dX5_shifts_1 ?_
  refine lv_iload_n hx hb dX5_shifts_4 rfl (lv_at hl 1 rfl) ?_
  refine lv_iconst (v := (5 : Int32)) hx hb dX5_shifts_5 (by decide) ?_
  obtain ⟨u1, eu1, h⟩ := bd_in h
  refine kI (va_runS (As := [.int p1, .int (5 : Int32)]) (rest := [.ref (adM 1)]) ⟨hx, hb, hml, hown, hts⟩ (c_X5_at l D cA cQ  p1 (5 : Int32) u1 eu1 _) (va_cwS 2 hts gX5_shifts_X5_at rfl rfl rfl (by decide +kernel) ⟨Nat.le_of_ble_eq_true rfl, Nat.le_of_ble_eq_true rfl⟩) (pS hK hN hP hD [] rfl rfl) rfl rfl hl.1 rfl (lv_room (Nat.le_of_ble_eq_true rfl)) dX5_shifts_6 ⟨Nat.zero_le _, Nat.zero_le _⟩) hP hD hS hA [] rfl rfl (ws' := (wM cA adM vM)) rfl (fun H locs hP hD hS => ?_)
  refine lv_dup2_11 hx hb dX5_shifts_9 rfl rfl ?_
  obtain ⟨y2, ey2, h⟩ := bd_in h
  refine ldR hx hb hK hP 1 0 rfl rfl ey2 dX5_shifts_10 ?_
  refine lv_iload_n hx hb dX5_shifts_11 rfl (lv_at hl 3 rfl) ?_
  refine lv_iadd hx hb dX5_shifts_12 ?_
  obtain ⟨g3, eg3, h⟩ := bd_in h
  refine stR hx hb hK hP hD hS 1 0 rfl rfl eg3 (ws' := (wM cA adM (setA vM 1 g3))) rfl dX5_shifts_13 (fun H locs hP hD hS => ?_)
  refine lv_aload_n hx hb dX5_shifts_14 rfl (lv_at hl 0 rfl) ?_
  refine va_get (D := D) (ci := 5) (v := .ref (adM 1)) (C := RX5) (T := TX5) (N := 18) hx hb hts iw_X5_shifts_X5 hown hK hP 0 rfl rfl 0 (by decide) (hts (.fieldLink RX5 7 "FavourRingsModel" "s" "[I") (List.mem_of_getElem? (i := 1) rfl)) (fun _ h9 => h9) rfl dX5_shifts_15 ?_
  refine lv_iload_n hx hb dX5_shifts_18 rfl (lv_at hl 2 rfl) ?_
  refine lv_iconst (v := (5 : Int32)) hx hb dX5_shifts_19 (by decide) ?_
  obtain ⟨u4, eu4, h⟩ := bd_in h
  refine kI (va_runS (As := [.int p2, .int (5 : Int32)]) (rest := [.ref (adM 1)]) ⟨hx, hb, hml, hown, hts⟩ (c_X5_at l D cA cQ  p2 (5 : Int32) u4 eu4 _) (va_cwS 2 hts gX5_shifts_X5_at rfl rfl rfl (by decide +kernel) ⟨Nat.le_of_ble_eq_true rfl, Nat.le_of_ble_eq_true rfl⟩) (pS hK hN hP hD [] rfl rfl) rfl rfl hl.1 rfl (lv_room (Nat.le_of_ble_eq_true rfl)) dX5_shifts_20 ⟨Nat.zero_le _, Nat.zero_le _⟩) hP hD hS hA [] rfl rfl (ws' := (wM cA adM (setA vM 1 g3))) rfl (fun H locs hP hD hS => ?_)
  refine lv_dup2_11 hx hb dX5_shifts_23 rfl rfl ?_
  obtain ⟨y5, ey5, h⟩ := bd_in h
  refine ldR hx hb hK hP 1 0 rfl rfl ey5 dX5_shifts_24 ?_
  refine lv_iload_n hx hb dX5_shifts_25 rfl (lv_at hl 3 rfl) ?_
  refine lv_isub hx hb dX5_shifts_26 ?_
  obtain ⟨g6, eg6, h⟩ := bd_in h
  refine stR hx hb hK hP hD hS 1 0 rfl rfl eg6 (ws' := (wM cA adM (setA vM 1 g6))) rfl dX5_shifts_27 (fun H locs hP hD hS => ?_)
  cases h
  exact endV hx hb hr hlocks hP hS dX5_shifts_28
theorem iw_X5_lend_X5 : ∀ w ∈ wsX50, w ∈ wsX5_lend := fun _ h => List.mem_cons_of_mem _ (List.mem_append_right _ (h))
set_option maxHeartbeats 4000000 in
set_option maxRecDepth 100000 in
theorem c_X5_lend (l : Launch) (D : va_G) (cA cQ : ClassId) (adM : Nat → Nat) (vM : St) (p1 : Int32) (p2 : Int32) (p3 : Int32) (p4 : Int32) (o : Int32 × St) (hf : X5_lend vM p1 p2 p3 p4 = some o) : Cti l yX5_lend wsX5_lend ({ frames := 3, cells := 0, slots := 0, locals := 68 }) D (TY cA cQ) [.ref (adM 0), .int p1, .int p2, .int p3, .int p4] (wM cA adM vM) (wM cA adM o.2) o.1 := by
  refine Wk.i (cc := cX5_lend) (maxL := 6) (ret := (some .int)) (by decide) rfl (Nat.le_of_ble_eq_true rfl) ?_
  intro p e s m below meth c A ls hx hb hr hlocks hml hown hts hK hN hP hD hA hl
  have hown : s.vm.findClass RX5 = some m.cls := hown
  have hS : va_S A s.heap s.heap [] := va_S.rf
  have hl : lv_has ls 6 [(0, .ref (adM 0)), (1, .int p1), (2, .int p2), (3, .int p3), (4, .int p4)] := hl
  have h := hf
  unfold X5_lend at h
  refine lv_aload_n hx hb dX5_lend_0 rfl (lv_at hl 0 rfl) ?_
  refine lv_iload_n hx hb dX5_lend_1 rfl (lv_at hl 1 rfl) ?_
  refine lv_iload_n hx hb dX5_lend_2 rfl (lv_at hl 2 rfl) ?_
  obtain ⟨u1, eu1, h⟩ := bd_in h
  refine kI (va_runV (As := [.int p1, .int p2]) (rest := []) ⟨hx, hb, hml, hown, hts⟩ (c_X5_isPair l D cA cQ adM vM p1 p2 u1 eu1 _) (cwV 2 hts gX5_lend_X5_isPair rfl rfl rfl (by decide +kernel) ⟨Nat.le_of_ble_eq_true rfl, Nat.le_of_ble_eq_true rfl⟩) (pV (ci := 5) (q := (RX5, TX5, 18)) hK hN hP hD [0, 1, 2, 3, 4, 5, 6, 7, 8, 9] rfl rfl rfl rfl) rfl rfl hl.1 rfl (lv_room (Nat.le_of_ble_eq_true rfl)) dX5_lend_3 ⟨Nat.zero_le _, Nat.zero_le _⟩) hP hD hS hA [0, 1, 2, 3, 4, 5, 6, 7, 8, 9] rfl rfl (ws' := (wM cA adM vM)) rfl (fun H locs hP hD hS => ?_)
  refine lv_if_eq (tgt := 27) hx hb dX5_lend_6 (by decide) (fun c2 => ?_) (fun c2 => ?_)
  · have h := (if_pos c2).symm.trans h
    refine lv_ldc (v := (-1000001 : Int32)) hx hb hown (hts (.constant RX5 86 (-1000001)) (List.mem_of_getElem? (i := 1) rfl)) dX5_lend_27 ?_
    cases h
    exact endI hx hb hr hlocks hP hS rfl dX5_lend_29
  · have h := (if_neg c2).symm.trans h
    refine lv_iload_n hx hb dX5_lend_9 rfl (lv_at hl 3 rfl) ?_
    obtain ⟨u3, eu3, h⟩ := bd_in h
    refine kI (va_runS (As := [.int p3]) (rest := []) ⟨hx, hb, hml, hown, hts⟩ (c_X5_isKind l D cA cQ  p3 u3 eu3 _) (va_cwS 1 hts gX5_lend_X5_isKind rfl rfl rfl (by decide +kernel) ⟨Nat.le_of_ble_eq_true rfl, Nat.le_of_ble_eq_true rfl⟩) (pS hK hN hP hD [] rfl rfl) rfl rfl hl.1 rfl (lv_room (Nat.le_of_ble_eq_true rfl)) dX5_lend_10 ⟨Nat.zero_le _, Nat.zero_le _⟩) hP hD hS hA [] rfl rfl (ws' := (wM cA adM vM)) rfl (fun H locs hP hD hS => ?_)
    refine lv_if_eq (tgt := 27) hx hb dX5_lend_13 (by decide) (fun c4 => ?_) (fun c4 => ?_)
    · have h := (if_pos c4).symm.trans h
      refine lv_ldc (v := (-1000001 : Int32)) hx hb hown (hts (.constant RX5 86 (-1000001)) (List.mem_of_getElem? (i := 1) rfl)) dX5_lend_27 ?_
      cases h
      exact endI hx hb hr hlocks hP hS rfl dX5_lend_29
    · have h := (if_neg c4).symm.trans h
      refine lv_iload hx hb dX5_lend_16 (lv_at hl 4 rfl) ?_
      refine lv_iconst (v := (1 : Int32)) hx hb dX5_lend_18 (by decide) ?_
      refine lv_bipush (v := (9 : Int32)) hx hb dX5_lend_19 (by decide) ?_
      obtain ⟨u5, eu5, h⟩ := bd_in h
      refine kI (va_runS (As := [.int p4, .int (1 : Int32), .int (9 : Int32)]) (rest := []) ⟨hx, hb, hml, hown, hts⟩ (c_X5_in l D cA cQ  p4 (1 : Int32) (9 : Int32) u5 eu5 _) (va_cwS 3 hts gX5_lend_X5_in rfl rfl rfl (by decide +kernel) ⟨Nat.le_of_ble_eq_true rfl, Nat.le_of_ble_eq_true rfl⟩) (pS hK hN hP hD [] rfl rfl) rfl rfl hl.1 rfl (lv_room (Nat.le_of_ble_eq_true rfl)) dX5_lend_21 ⟨Nat.zero_le _, Nat.zero_le _⟩) hP hD hS hA [] rfl rfl (ws' := (wM cA adM vM)) rfl (fun H locs hP hD hS => ?_)
      refine lv_if_ne (tgt := 30) hx hb dX5_lend_24 (by decide) (fun c6 => ?_) (fun c6 => ?_)
      · have h := (if_neg c6).symm.trans h
        refine lv_aload_n hx hb dX5_lend_30 rfl (lv_at hl 0 rfl) ?_
        refine lv_iload_n hx hb dX5_lend_31 rfl (lv_at hl 1 rfl) ?_
        refine lv_iload hx hb dX5_lend_32 (lv_at hl 4 rfl) ?_
        obtain ⟨u7, eu7, h⟩ := bd_in h
        refine kI (va_runV (As := [.int p1, .int p4]) (rest := []) ⟨hx, hb, hml, hown, hts⟩ (c_X5_barred l D cA cQ adM vM p1 p4 u7 eu7 _) (cwV 2 hts gX5_lend_X5_barred rfl rfl rfl (by decide +kernel) ⟨Nat.le_of_ble_eq_true rfl, Nat.le_of_ble_eq_true rfl⟩) (pV (ci := 5) (q := (RX5, TX5, 18)) hK hN hP hD [0, 1, 2, 3, 4, 5, 6, 7, 8, 9] rfl rfl rfl rfl) rfl rfl hl.1 rfl (lv_room (Nat.le_of_ble_eq_true rfl)) dX5_lend_34 ⟨Nat.zero_le _, Nat.zero_le _⟩) hP hD hS hA [0, 1, 2, 3, 4, 5, 6, 7, 8, 9] rfl rfl (ws' := (wM cA adM vM)) rfl (fun H locs hP hD hS => ?_)
        refine lv_if_le (tgt := 43) hx hb dX5_lend_37 (by decide) (fun c8 => ?_) (fun c8 => ?_)
        · have h := (if_pos c8).symm.trans h
          refine lv_aload_n hx hb dX5_lend_43 rfl (lv_at hl 0 rfl) ?_
          refine va_get (D := D) (ci := 5) (v := .ref (adM 1)) (C := RX5) (T := TX5) (N := 18) hx hb hts iw_X5_lend_X5 hown hK hP 0 rfl rfl 0 (by decide) (hts (.fieldLink RX5 7 "FavourRingsModel" "s" "[I") (List.mem_of_getElem? (i := 3) rfl)) (fun _ h9 => h9) rfl dX5_lend_44 ?_
          refine lv_sipush (v := (290 : Int32)) hx hb dX5_lend_47 (by decide) ?_
          obtain ⟨y9, ey9, h⟩ := bd_in h
          refine ldR hx hb hK hP 1 0 rfl rfl ey9 dX5_lend_50 ?_
          refine lv_bipush (v := (40 : Int32)) hx hb dX5_lend_51 (by decide) ?_
          refine lv_icmp_ne (tgt := 59) hx hb dX5_lend_53 (by decide) (fun c10 => ?_) (fun c10 => ?_)
          · have h := (if_neg c10).symm.trans h
            refine lv_aload_n hx hb dX5_lend_59 rfl (lv_at hl 0 rfl) ?_
            obtain ⟨u11, eu11, h⟩ := bd_in h
            refine kV (va_runV (As := []) (rest := []) ⟨hx, hb, hml, hown, hts⟩ (c_X5_changes l D cA cQ adM vM u11 eu11 _) (cwV 0 hts gX5_lend_X5_changes rfl rfl rfl (by decide +kernel) ⟨Nat.le_of_ble_eq_true rfl, Nat.le_of_ble_eq_true rfl⟩) (pV (ci := 5) (q := (RX5, TX5, 18)) hK hN hP hD [0, 1, 2, 3, 4, 5, 6, 7, 8, 9] rfl rfl rfl rfl) rfl rfl hl.1 rfl (lv_room (Nat.le_of_ble_eq_true rfl)) dX5_lend_60 ⟨Nat.zero_le _, Nat.zero_le _⟩) hP hD hS hA [0, 1, 2, 3, 4, 5, 6, 7, 8, 9] rfl rfl (ws' := (wM cA adM u11)) rfl (fun H locs hP hD hS => ?_)
            refine lv_aload_n hx hb dX5_lend_63 rfl (lv_at hl 0 rfl) ?_
            refine va_get (D := D) (ci := 5) (v := .ref (adM 1)) (C := RX5) (T := TX5) (N := 18) hx hb hts iw_X5_lend_X5 hown hK hP 0 rfl rfl 0 (by decide) (hts (.fieldLink RX5 7 "FavourRingsModel" "s" "[I") (List.mem_of_getElem? (i := 3) rfl)) (fun _ h9 => h9) rfl dX5_lend_64 ?_
            refine lv_sipush (v := (290 : Int32)) hx hb dX5_lend_67 (by decide) ?_
            obtain ⟨y12, ey12, h⟩ := bd_in h
            refine ldR hx hb hK hP 1 0 rfl rfl ey12 dX5_lend_70 ?_
            refine lv_istore (lv' := [(5, .int y12), (0, .ref (adM 0)), (1, .int p1), (2, .int p2), (3, .int p3), (4, .int p4)]) hx hb dX5_lend_71 hl (by decide) rfl (fun ls hl => ?_)
            refine lv_aload_n hx hb dX5_lend_73 rfl (lv_at hl 1 rfl) ?_
            refine va_get (D := D) (ci := 5) (v := .ref (adM 1)) (C := RX5) (T := TX5) (N := 18) hx hb hts iw_X5_lend_X5 hown hK hP 0 rfl rfl 0 (by decide) (hts (.fieldLink RX5 7 "FavourRingsModel" "s" "[I") (List.mem_of_getElem? (i := 3) rfl)) (fun _ h9 => h9) rfl dX5_lend_74 ?_
            refine lv_sipush (v := (290 : Int32)) hx hb dX5_lend_77 (by decide) ?_
            refine lv_dup2_11 hx hb dX5_lend_80 rfl rfl ?_
            obtain ⟨y13, ey13, h⟩ := bd_in h
            refine ldR hx hb hK hP 1 0 rfl rfl ey13 dX5_lend_81 ?_
            refine lv_iconst (v := (1 : Int32)) hx hb dX5_lend_82 (by decide) ?_
            refine lv_iadd hx hb dX5_lend_83 ?_
            obtain ⟨g14, eg14, h⟩ := bd_in h
            refine stR hx hb hK hP hD hS 1 0 rfl rfl eg14 (ws' := (wM cA adM (setA u11 1 g14))) rfl dX5_lend_84 (fun H locs hP hD hS => ?_)
            refine lv_aload_n hx hb dX5_lend_85 rfl (lv_at hl 1 rfl) ?_
            refine lv_iload hx hb dX5_lend_86 (lv_at hl 0 rfl) ?_
            refine lv_iconst (v := (0 : Int32)) hx hb dX5_lend_88 (by decide) ?_
            refine lv_iload_n hx hb dX5_lend_89 rfl (lv_at hl 2 rfl) ?_
            obtain ⟨u15, eu15, h⟩ := bd_in h
            refine kV (va_runV (As := [.int y12, .int (0 : Int32), .int p1]) (rest := []) ⟨hx, hb, hml, hown, hts⟩ (c_X5_lay l D cA cQ adM (setA u11 1 g14) y12 (0 : Int32) p1 u15 eu15 _) (cwV 3 hts gX5_lend_X5_lay rfl rfl rfl (by decide +kernel) ⟨Nat.le_of_ble_eq_true rfl, Nat.le_of_ble_eq_true rfl⟩) (pV (ci := 5) (q := (RX5, TX5, 18)) hK hN hP hD [0, 1, 2, 3, 4, 5, 6, 7, 8, 9] rfl rfl rfl rfl) rfl rfl hl.1 rfl (lv_room (Nat.le_of_ble_eq_true rfl)) dX5_lend_90 ⟨Nat.zero_le _, Nat.zero_le _⟩) hP hD hS hA [0, 1, 2, 3, 4, 5, 6, 7, 8, 9] rfl rfl (ws' := (wM cA adM u15)) rfl (fun H locs hP hD hS => ?_)
            refine lv_aload_n hx hb dX5_lend_93 rfl (lv_at hl 1 rfl) ?_
            refine lv_iload hx hb dX5_lend_94 (lv_at hl 0 rfl) ?_
            refine lv_iconst (v := (1 : Int32)) hx hb dX5_lend_96 (by decide) ?_
            refine lv_iload_n hx hb dX5_lend_97 rfl (lv_at hl 3 rfl) ?_
            obtain ⟨u16, eu16, h⟩ := bd_in h
            refine kV (va_runV (As := [.int y12, .int (1 : Int32), .int p2]) (rest := []) ⟨hx, hb, hml, hown, hts⟩ (c_X5_lay l D cA cQ adM u15 y12 (1 : Int32) p2 u16 eu16 _) (cwV 3 hts gX5_lend_X5_lay rfl rfl rfl (by decide +kernel) ⟨Nat.le_of_ble_eq_true rfl, Nat.le_of_ble_eq_true rfl⟩) (pV (ci := 5) (q := (RX5, TX5, 18)) hK hN hP hD [0, 1, 2, 3, 4, 5, 6, 7, 8, 9] rfl rfl rfl rfl) rfl rfl hl.1 rfl (lv_room (Nat.le_of_ble_eq_true rfl)) dX5_lend_98 ⟨Nat.zero_le _, Nat.zero_le _⟩) hP hD hS hA [0, 1, 2, 3, 4, 5, 6, 7, 8, 9] rfl rfl (ws' := (wM cA adM u16)) rfl (fun H locs hP hD hS => ?_)
            refine lv_aload_n hx hb dX5_lend_101 rfl (lv_at hl 1 rfl) ?_
            refine lv_iload hx hb dX5_lend_102 (lv_at hl 0 rfl) ?_
            refine lv_iconst (v := (2 : Int32)) hx hb dX5_lend_104 (by decide) ?_
            refine lv_iload_n hx hb dX5_lend_105 rfl (lv_at hl 4 rfl) ?_
            obtain ⟨u17, eu17, h⟩ := bd_in h
            refine kV (va_runV (As := [.int y12, .int (2 : Int32), .int p3]) (rest := []) ⟨hx, hb, hml, hown, hts⟩ (c_X5_lay l D cA cQ adM u16 y12 (2 : Int32) p3 u17 eu17 _) (cwV 3 hts gX5_lend_X5_lay rfl rfl rfl (by decide +kernel) ⟨Nat.le_of_ble_eq_true rfl, Nat.le_of_ble_eq_true rfl⟩) (pV (ci := 5) (q := (RX5, TX5, 18)) hK hN hP hD [0, 1, 2, 3, 4, 5, 6, 7, 8, 9] rfl rfl rfl rfl) rfl rfl hl.1 rfl (lv_room (Nat.le_of_ble_eq_true rfl)) dX5_lend_106 ⟨Nat.zero_le _, Nat.zero_le _⟩) hP hD hS hA [0, 1, 2, 3, 4, 5, 6, 7, 8, 9] rfl rfl (ws' := (wM cA adM u17)) rfl (fun H locs hP hD hS => ?_)
            refine lv_aload_n hx hb dX5_lend_109 rfl (lv_at hl 1 rfl) ?_
            refine lv_iload hx hb dX5_lend_110 (lv_at hl 0 rfl) ?_
            refine lv_iconst (v := (3 : Int32)) hx hb dX5_lend_112 (by decide) ?_
            refine lv_iload hx hb dX5_lend_113 (lv_at hl 5 rfl) ?_
            obtain ⟨u18, eu18, h⟩ := bd_in h
            refine kV (va_runV (As := [.int y12, .int (3 : Int32), .int p4]) (rest := []) ⟨hx, hb, hml, hown, hts⟩ (c_X5_lay l D cA cQ adM u17 y12 (3 : Int32) p4 u18 eu18 _) (cwV 3 hts gX5_lend_X5_lay rfl rfl rfl (by decide +kernel) ⟨Nat.le_of_ble_eq_true rfl, Nat.le_of_ble_eq_true rfl⟩) (pV (ci := 5) (q := (RX5, TX5, 18)) hK hN hP hD [0, 1, 2, 3, 4, 5, 6, 7, 8, 9] rfl rfl rfl rfl) rfl rfl hl.1 rfl (lv_room (Nat.le_of_ble_eq_true rfl)) dX5_lend_115 ⟨Nat.zero_le _, Nat.zero_le _⟩) hP hD hS hA [0, 1, 2, 3, 4, 5, 6, 7, 8, 9] rfl rfl (ws' := (wM cA adM u18)) rfl (fun H locs hP hD hS => ?_)
            refine lv_aload_n hx hb dX5_lend_118 rfl (lv_at hl 1 rfl) ?_
            refine lv_iload hx hb dX5_lend_119 (lv_at hl 0 rfl) ?_
            refine lv_iconst (v := (4 : Int32)) hx hb dX5_lend_121 (by decide) ?_
            refine lv_iconst (v := (0 : Int32)) hx hb dX5_lend_122 (by decide) ?_
            obtain ⟨u19, eu19, h⟩ := bd_in h
            refine kV (va_runV (As := [.int y12, .int (4 : Int32), .int (0 : Int32)]) (rest := []) ⟨hx, hb, hml, hown, hts⟩ (c_X5_lay l D cA cQ adM u18 y12 (4 : Int32) (0 : Int32) u19 eu19 _) (cwV 3 hts gX5_lend_X5_lay rfl rfl rfl (by decide +kernel) ⟨Nat.le_of_ble_eq_true rfl, Nat.le_of_ble_eq_true rfl⟩) (pV (ci := 5) (q := (RX5, TX5, 18)) hK hN hP hD [0, 1, 2, 3, 4, 5, 6, 7, 8, 9] rfl rfl rfl rfl) rfl rfl hl.1 rfl (lv_room (Nat.le_of_ble_eq_true rfl)) dX5_lend_123 ⟨Nat.zero_le _, Nat.zero_le _⟩) hP hD hS hA [0, 1, 2, 3, 4, 5, 6, 7, 8, 9] rfl rfl (ws' := (wM cA adM u19)) rfl (fun H locs hP hD hS => ?_)
            refine lv_aload_n hx hb dX5_lend_126 rfl (lv_at hl 1 rfl) ?_
            refine lv_iload hx hb dX5_lend_127 (lv_at hl 0 rfl) ?_
            refine lv_iconst (v := (5 : Int32)) hx hb dX5_lend_129 (by decide) ?_
            refine lv_iconst (v := (0 : Int32)) hx hb dX5_lend_130 (by decide) ?_
            obtain ⟨u20, eu20, h⟩ := bd_in h
            refine kV (va_runV (As := [.int y12, .int (5 : Int32), .int (0 : Int32)]) (rest := []) ⟨hx, hb, hml, hown, hts⟩ (c_X5_lay l D cA cQ adM u19 y12 (5 : Int32) (0 : Int32) u20 eu20 _) (cwV 3 hts gX5_lend_X5_lay rfl rfl rfl (by decide +kernel) ⟨Nat.le_of_ble_eq_true rfl, Nat.le_of_ble_eq_true rfl⟩) (pV (ci := 5) (q := (RX5, TX5, 18)) hK hN hP hD [0, 1, 2, 3, 4, 5, 6, 7, 8, 9] rfl rfl rfl rfl) rfl rfl hl.1 rfl (lv_room (Nat.le_of_ble_eq_true rfl)) dX5_lend_131 ⟨Nat.zero_le _, Nat.zero_le _⟩) hP hD hS hA [0, 1, 2, 3, 4, 5, 6, 7, 8, 9] rfl rfl (ws' := (wM cA adM u20)) rfl (fun H locs hP hD hS => ?_)
            refine lv_aload_n hx hb dX5_lend_134 rfl (lv_at hl 1 rfl) ?_
            refine va_get (D := D) (ci := 5) (v := .ref (adM 1)) (C := RX5) (T := TX5) (N := 18) hx hb hts iw_X5_lend_X5 hown hK hP 0 rfl rfl 0 (by decide) (hts (.fieldLink RX5 7 "FavourRingsModel" "s" "[I") (List.mem_of_getElem? (i := 3) rfl)) (fun _ h9 => h9) rfl dX5_lend_135 ?_
            refine lv_sipush (v := (291 : Int32)) hx hb dX5_lend_138 (by decide) ?_
            refine lv_dup2_11 hx hb dX5_lend_141 rfl rfl ?_
            obtain ⟨y21, ey21, h⟩ := bd_in h
            refine ldR hx hb hK hP 1 0 rfl rfl ey21 dX5_lend_142 ?_
            refine lv_iload hx hb dX5_lend_143 (lv_at hl 5 rfl) ?_
            refine lv_iadd hx hb dX5_lend_145 ?_
            obtain ⟨g22, eg22, h⟩ := bd_in h
            refine stR hx hb hK hP hD hS 1 0 rfl rfl eg22 (ws' := (wM cA adM (setA u20 1 g22))) rfl dX5_lend_146 (fun H locs hP hD hS => ?_)
            refine lv_aload_n hx hb dX5_lend_147 rfl (lv_at hl 1 rfl) ?_
            refine lv_iload_n hx hb dX5_lend_148 rfl (lv_at hl 3 rfl) ?_
            refine lv_iload_n hx hb dX5_lend_149 rfl (lv_at hl 2 rfl) ?_
            refine lv_iload hx hb dX5_lend_150 (lv_at hl 5 rfl) ?_
            obtain ⟨u23, eu23, h⟩ := bd_in h
            refine kV (va_runV (As := [.int p2, .int p1, .int p4]) (rest := []) ⟨hx, hb, hml, hown, hts⟩ (c_X5_shifts l D cA cQ adM (setA u20 1 g22) p2 p1 p4 u23 eu23 _) (cwV 3 hts gX5_lend_X5_shifts rfl rfl rfl (by decide +kernel) ⟨Nat.le_of_ble_eq_true rfl, Nat.le_of_ble_eq_true rfl⟩) (pV (ci := 5) (q := (RX5, TX5, 18)) hK hN hP hD [0, 1, 2, 3, 4, 5, 6, 7, 8, 9] rfl rfl rfl rfl) rfl rfl hl.1 rfl (lv_room (Nat.le_of_ble_eq_true rfl)) dX5_lend_152 ⟨Nat.zero_le _, Nat.zero_le _⟩) hP hD hS hA [0, 1, 2, 3, 4, 5, 6, 7, 8, 9] rfl rfl (ws' := (wM cA adM u23)) rfl (fun H locs hP hD hS => ?_)
            refine lv_aload_n hx hb dX5_lend_155 rfl (lv_at hl 1 rfl) ?_
            refine lv_iload_n hx hb dX5_lend_156 rfl (lv_at hl 2 rfl) ?_
            refine lv_iload_n hx hb dX5_lend_157 rfl (lv_at hl 3 rfl) ?_
            refine lv_iload_n hx hb dX5_lend_158 rfl (lv_at hl 4 rfl) ?_
            obtain ⟨u24, eu24, h⟩ := bd_in h
            refine kI (va_runV (As := [.int p1, .int p2, .int p3]) (rest := []) ⟨hx, hb, hml, hown, hts⟩ (c_X5_owed l D cA cQ adM u23 p1 p2 p3 u24 eu24 _) (cwV 3 hts gX5_lend_X5_owed rfl rfl rfl (by decide +kernel) ⟨Nat.le_of_ble_eq_true rfl, Nat.le_of_ble_eq_true rfl⟩) (pV (ci := 5) (q := (RX5, TX5, 18)) hK hN hP hD [0, 1, 2, 3, 4, 5, 6, 7, 8, 9] rfl rfl rfl rfl) rfl rfl hl.1 rfl (lv_room (Nat.le_of_ble_eq_true rfl)) dX5_lend_159 ⟨Nat.zero_le _, Nat.zero_le _⟩) hP hD hS hA [0, 1, 2, 3, 4, 5, 6, 7, 8, 9] rfl rfl (ws' := (wM cA adM u23)) rfl (fun H locs hP hD hS => ?_)
            cases h
            exact endI hx hb hr hlocks hP hS rfl dX5_lend_162
          · have h := (if_pos c10).symm.trans h
            refine lv_ldc (v := (-1000003 : Int32)) hx hb hown (hts (.constant RX5 72 (-1000003)) (List.mem_of_getElem? (i := 4) rfl)) dX5_lend_56 ?_
            cases h
            exact endI hx hb hr hlocks hP hS rfl dX5_lend_58
        · have h := (if_neg c8).symm.trans h
          refine lv_ldc (v := (-1000002 : Int32)) hx hb hown (hts (.constant RX5 90 (-1000002)) (List.mem_of_getElem? (i := 2) rfl)) dX5_lend_40 ?_
          cases h
          exact endI hx hb hr hlocks hP hS rfl dX5_lend_42
      · have h := (if_pos c6).symm.trans h
        refine lv_ldc (v := (-1000001 : Int32)) hx hb hown (hts (.constant RX5 86 (-1000001)) (List.mem_of_getElem? (i := 1) rfl)) dX5_lend_27 ?_
        cases h
        exact endI hx hb hr hlocks hP hS rfl dX5_lend_29
theorem iw_X5_fulfil_X5 : ∀ w ∈ wsX50, w ∈ wsX5_fulfil := fun _ h => List.mem_cons_of_mem _ (List.mem_append_right _ (h))
set_option maxHeartbeats 4000000 in
set_option maxRecDepth 100000 in
theorem c_X5_fulfil (l : Launch) (D : va_G) (cA cQ : ClassId) (adM : Nat → Nat) (vM : St) (p1 : Int32) (p2 : Int32) (p3 : Int32) (p4 : Int32) (o : Int32 × St) (hf : X5_fulfil vM p1 p2 p3 p4 = some o) : Cti l yX5_fulfil wsX5_fulfil ({ frames := 3, cells := 0, slots := 0, locals := 75 }) D (TY cA cQ) [.ref (adM 0), .int p1, .int p2, .int p3, .int p4] (wM cA adM vM) (wM cA adM o.2) o.1 := by
  refine Wk.i (cc := cX5_fulfil) (maxL := 5) (ret := (some .int)) (by decide) rfl (Nat.le_of_ble_eq_true rfl) ?_
  intro p e s m below meth c A ls hx hb hr hlocks hml hown hts hK hN hP hD hA hl
  have hown : s.vm.findClass RX5 = some m.cls := hown
  have hS : va_S A s.heap s.heap [] := va_S.rf
  have hl : lv_has ls 5 [(0, .ref (adM 0)), (1, .int p1), (2, .int p2), (3, .int p3), (4, .int p4)] := hl
  have h := hf
  unfold X5_fulfil at h
  refine lv_aload_n hx hb dX5_fulfil_0 rfl (lv_at hl 0 rfl) ?_
  refine lv_iload_n hx hb dX5_fulfil_1 rfl (lv_at hl 1 rfl) ?_
  refine lv_iload_n hx hb dX5_fulfil_2 rfl (lv_at hl 2 rfl) ?_
  obtain ⟨u1, eu1, h⟩ := bd_in h
  refine kI (va_runV (As := [.int p1, .int p2]) (rest := []) ⟨hx, hb, hml, hown, hts⟩ (c_X5_isPair l D cA cQ adM vM p1 p2 u1 eu1 _) (cwV 2 hts gX5_fulfil_X5_isPair rfl rfl rfl (by decide +kernel) ⟨Nat.le_of_ble_eq_true rfl, Nat.le_of_ble_eq_true rfl⟩) (pV (ci := 5) (q := (RX5, TX5, 18)) hK hN hP hD [0, 1, 2, 3, 4, 5, 6, 7, 8, 9] rfl rfl rfl rfl) rfl rfl hl.1 rfl (lv_room (Nat.le_of_ble_eq_true rfl)) dX5_fulfil_3 ⟨Nat.zero_le _, Nat.zero_le _⟩) hP hD hS hA [0, 1, 2, 3, 4, 5, 6, 7, 8, 9] rfl rfl (ws' := (wM cA adM vM)) rfl (fun H locs hP hD hS => ?_)
  refine lv_if_eq (tgt := 27) hx hb dX5_fulfil_6 (by decide) (fun c2 => ?_) (fun c2 => ?_)
  · have h := (if_pos c2).symm.trans h
    refine lv_ldc (v := (-1000001 : Int32)) hx hb hown (hts (.constant RX5 86 (-1000001)) (List.mem_of_getElem? (i := 1) rfl)) dX5_fulfil_27 ?_
    cases h
    exact endI hx hb hr hlocks hP hS rfl dX5_fulfil_29
  · have h := (if_neg c2).symm.trans h
    refine lv_iload_n hx hb dX5_fulfil_9 rfl (lv_at hl 3 rfl) ?_
    obtain ⟨u3, eu3, h⟩ := bd_in h
    refine kI (va_runS (As := [.int p3]) (rest := []) ⟨hx, hb, hml, hown, hts⟩ (c_X5_isKind l D cA cQ  p3 u3 eu3 _) (va_cwS 1 hts gX5_fulfil_X5_isKind rfl rfl rfl (by decide +kernel) ⟨Nat.le_of_ble_eq_true rfl, Nat.le_of_ble_eq_true rfl⟩) (pS hK hN hP hD [] rfl rfl) rfl rfl hl.1 rfl (lv_room (Nat.le_of_ble_eq_true rfl)) dX5_fulfil_10 ⟨Nat.zero_le _, Nat.zero_le _⟩) hP hD hS hA [] rfl rfl (ws' := (wM cA adM vM)) rfl (fun H locs hP hD hS => ?_)
    refine lv_if_eq (tgt := 27) hx hb dX5_fulfil_13 (by decide) (fun c4 => ?_) (fun c4 => ?_)
    · have h := (if_pos c4).symm.trans h
      refine lv_ldc (v := (-1000001 : Int32)) hx hb hown (hts (.constant RX5 86 (-1000001)) (List.mem_of_getElem? (i := 1) rfl)) dX5_fulfil_27 ?_
      cases h
      exact endI hx hb hr hlocks hP hS rfl dX5_fulfil_29
    · have h := (if_neg c4).symm.trans h
      refine lv_iload hx hb dX5_fulfil_16 (lv_at hl 4 rfl) ?_
      refine lv_iconst (v := (1 : Int32)) hx hb dX5_fulfil_18 (by decide) ?_
      refine lv_bipush (v := (9 : Int32)) hx hb dX5_fulfil_19 (by decide) ?_
      obtain ⟨u5, eu5, h⟩ := bd_in h
      refine kI (va_runS (As := [.int p4, .int (1 : Int32), .int (9 : Int32)]) (rest := []) ⟨hx, hb, hml, hown, hts⟩ (c_X5_in l D cA cQ  p4 (1 : Int32) (9 : Int32) u5 eu5 _) (va_cwS 3 hts gX5_fulfil_X5_in rfl rfl rfl (by decide +kernel) ⟨Nat.le_of_ble_eq_true rfl, Nat.le_of_ble_eq_true rfl⟩) (pS hK hN hP hD [] rfl rfl) rfl rfl hl.1 rfl (lv_room (Nat.le_of_ble_eq_true rfl)) dX5_fulfil_21 ⟨Nat.zero_le _, Nat.zero_le _⟩) hP hD hS hA [] rfl rfl (ws' := (wM cA adM vM)) rfl (fun H locs hP hD hS => ?_)
      refine lv_if_ne (tgt := 30) hx hb dX5_fulfil_24 (by decide) (fun c6 => ?_) (fun c6 => ?_)
      · have h := (if_neg c6).symm.trans h
        refine lv_aload_n hx hb dX5_fulfil_30 rfl (lv_at hl 0 rfl) ?_
        refine lv_iload_n hx hb dX5_fulfil_31 rfl (lv_at hl 1 rfl) ?_
        refine lv_iload_n hx hb dX5_fulfil_32 rfl (lv_at hl 2 rfl) ?_
        refine lv_iload_n hx hb dX5_fulfil_33 rfl (lv_at hl 3 rfl) ?_
        obtain ⟨u7, eu7, h⟩ := bd_in h
        refine kI (va_runV (As := [.int p1, .int p2, .int p3]) (rest := []) ⟨hx, hb, hml, hown, hts⟩ (c_X5_owed l D cA cQ adM vM p1 p2 p3 u7 eu7 _) (cwV 3 hts gX5_fulfil_X5_owed rfl rfl rfl (by decide +kernel) ⟨Nat.le_of_ble_eq_true rfl, Nat.le_of_ble_eq_true rfl⟩) (pV (ci := 5) (q := (RX5, TX5, 18)) hK hN hP hD [0, 1, 2, 3, 4, 5, 6, 7, 8, 9] rfl rfl rfl rfl) rfl rfl hl.1 rfl (lv_room (Nat.le_of_ble_eq_true rfl)) dX5_fulfil_34 ⟨Nat.zero_le _, Nat.zero_le _⟩) hP hD hS hA [0, 1, 2, 3, 4, 5, 6, 7, 8, 9] rfl rfl (ws' := (wM cA adM vM)) rfl (fun H locs hP hD hS => ?_)
        refine lv_iload hx hb dX5_fulfil_37 (lv_at hl 4 rfl) ?_
        refine lv_icmp_ge (tgt := 45) hx hb dX5_fulfil_39 (by decide) (fun c8 => ?_) (fun c8 => ?_)
        · have h := (if_pos c8).symm.trans h
          refine lv_aload_n hx hb dX5_fulfil_45 rfl (lv_at hl 0 rfl) ?_
          obtain ⟨u9, eu9, h⟩ := bd_in h
          refine kV (va_runV (As := []) (rest := []) ⟨hx, hb, hml, hown, hts⟩ (c_X5_changes l D cA cQ adM vM u9 eu9 _) (cwV 0 hts gX5_fulfil_X5_changes rfl rfl rfl (by decide +kernel) ⟨Nat.le_of_ble_eq_true rfl, Nat.le_of_ble_eq_true rfl⟩) (pV (ci := 5) (q := (RX5, TX5, 18)) hK hN hP hD [0, 1, 2, 3, 4, 5, 6, 7, 8, 9] rfl rfl rfl rfl) rfl rfl hl.1 rfl (lv_room (Nat.le_of_ble_eq_true rfl)) dX5_fulfil_46 ⟨Nat.zero_le _, Nat.zero_le _⟩) hP hD hS hA [0, 1, 2, 3, 4, 5, 6, 7, 8, 9] rfl rfl (ws' := (wM cA adM u9)) rfl (fun H locs hP hD hS => ?_)
          refine lv_aload_n hx hb dX5_fulfil_49 rfl (lv_at hl 0 rfl) ?_
          refine lv_iload_n hx hb dX5_fulfil_50 rfl (lv_at hl 1 rfl) ?_
          refine lv_iload_n hx hb dX5_fulfil_51 rfl (lv_at hl 2 rfl) ?_
          refine lv_iload_n hx hb dX5_fulfil_52 rfl (lv_at hl 3 rfl) ?_
          refine lv_iload hx hb dX5_fulfil_53 (lv_at hl 4 rfl) ?_
          obtain ⟨u10, eu10, h⟩ := bd_in h
          refine kV (va_runV (As := [.int p1, .int p2, .int p3, .int p4]) (rest := []) ⟨hx, hb, hml, hown, hts⟩ (c_X5_takes l D cA cQ adM u9 p1 p2 p3 p4 u10 eu10 _) (cwV 4 hts gX5_fulfil_X5_takes rfl rfl rfl (by decide +kernel) ⟨Nat.le_of_ble_eq_true rfl, Nat.le_of_ble_eq_true rfl⟩) (pV (ci := 5) (q := (RX5, TX5, 18)) hK hN hP hD [0, 1, 2, 3, 4, 5, 6, 7, 8, 9] rfl rfl rfl rfl) rfl rfl hl.1 rfl (lv_room (Nat.le_of_ble_eq_true rfl)) dX5_fulfil_55 ⟨Nat.zero_le _, Nat.zero_le _⟩) hP hD hS hA [0, 1, 2, 3, 4, 5, 6, 7, 8, 9] rfl rfl (ws' := (wM cA adM u10)) rfl (fun H locs hP hD hS => ?_)
          refine lv_aload_n hx hb dX5_fulfil_58 rfl (lv_at hl 0 rfl) ?_
          refine va_get (D := D) (ci := 5) (v := .ref (adM 1)) (C := RX5) (T := TX5) (N := 18) hx hb hts iw_X5_fulfil_X5 hown hK hP 0 rfl rfl 0 (by decide) (hts (.fieldLink RX5 7 "FavourRingsModel" "s" "[I") (List.mem_of_getElem? (i := 3) rfl)) (fun _ h9 => h9) rfl dX5_fulfil_59 ?_
          refine lv_iload_n hx hb dX5_fulfil_62 rfl (lv_at hl 1 rfl) ?_
          refine lv_iconst (v := (0 : Int32)) hx hb dX5_fulfil_63 (by decide) ?_
          obtain ⟨u11, eu11, h⟩ := bd_in h
          refine kI (va_runS (As := [.int p1, .int (0 : Int32)]) (rest := [.ref (adM 1)]) ⟨hx, hb, hml, hown, hts⟩ (c_X5_at l D cA cQ  p1 (0 : Int32) u11 eu11 _) (va_cwS 2 hts gX5_fulfil_X5_at rfl rfl rfl (by decide +kernel) ⟨Nat.le_of_ble_eq_true rfl, Nat.le_of_ble_eq_true rfl⟩) (pS hK hN hP hD [] rfl rfl) rfl rfl hl.1 rfl (lv_room (Nat.le_of_ble_eq_true rfl)) dX5_fulfil_64 ⟨Nat.zero_le _, Nat.zero_le _⟩) hP hD hS hA [] rfl rfl (ws' := (wM cA adM u10)) rfl (fun H locs hP hD hS => ?_)
          refine lv_dup2_11 hx hb dX5_fulfil_67 rfl rfl ?_
          obtain ⟨y12, ey12, h⟩ := bd_in h
          refine ldR hx hb hK hP 1 0 rfl rfl ey12 dX5_fulfil_68 ?_
          refine lv_iload hx hb dX5_fulfil_69 (lv_at hl 4 rfl) ?_
          refine lv_iadd hx hb dX5_fulfil_71 ?_
          obtain ⟨g13, eg13, h⟩ := bd_in h
          refine stR hx hb hK hP hD hS 1 0 rfl rfl eg13 (ws' := (wM cA adM (setA u10 1 g13))) rfl dX5_fulfil_72 (fun H locs hP hD hS => ?_)
          refine lv_aload_n hx hb dX5_fulfil_73 rfl (lv_at hl 0 rfl) ?_
          refine va_get (D := D) (ci := 5) (v := .ref (adM 1)) (C := RX5) (T := TX5) (N := 18) hx hb hts iw_X5_fulfil_X5 hown hK hP 0 rfl rfl 0 (by decide) (hts (.fieldLink RX5 7 "FavourRingsModel" "s" "[I") (List.mem_of_getElem? (i := 3) rfl)) (fun _ h9 => h9) rfl dX5_fulfil_74 ?_
          refine lv_sipush (v := (292 : Int32)) hx hb dX5_fulfil_77 (by decide) ?_
          refine lv_dup2_11 hx hb dX5_fulfil_80 rfl rfl ?_
          obtain ⟨y14, ey14, h⟩ := bd_in h
          refine ldR hx hb hK hP 1 0 rfl rfl ey14 dX5_fulfil_81 ?_
          refine lv_iload hx hb dX5_fulfil_82 (lv_at hl 4 rfl) ?_
          refine lv_iadd hx hb dX5_fulfil_84 ?_
          obtain ⟨g15, eg15, h⟩ := bd_in h
          refine stR hx hb hK hP hD hS 1 0 rfl rfl eg15 (ws' := (wM cA adM (setA u10 1 g15))) rfl dX5_fulfil_85 (fun H locs hP hD hS => ?_)
          refine lv_aload_n hx hb dX5_fulfil_86 rfl (lv_at hl 0 rfl) ?_
          refine lv_iload_n hx hb dX5_fulfil_87 rfl (lv_at hl 1 rfl) ?_
          refine lv_iload_n hx hb dX5_fulfil_88 rfl (lv_at hl 2 rfl) ?_
          refine lv_iload hx hb dX5_fulfil_89 (lv_at hl 4 rfl) ?_
          obtain ⟨u16, eu16, h⟩ := bd_in h
          refine kV (va_runV (As := [.int p1, .int p2, .int p4]) (rest := []) ⟨hx, hb, hml, hown, hts⟩ (c_X5_shifts l D cA cQ adM (setA u10 1 g15) p1 p2 p4 u16 eu16 _) (cwV 3 hts gX5_fulfil_X5_shifts rfl rfl rfl (by decide +kernel) ⟨Nat.le_of_ble_eq_true rfl, Nat.le_of_ble_eq_true rfl⟩) (pV (ci := 5) (q := (RX5, TX5, 18)) hK hN hP hD [0, 1, 2, 3, 4, 5, 6, 7, 8, 9] rfl rfl rfl rfl) rfl rfl hl.1 rfl (lv_room (Nat.le_of_ble_eq_true rfl)) dX5_fulfil_91 ⟨Nat.zero_le _, Nat.zero_le _⟩) hP hD hS hA [0, 1, 2, 3, 4, 5, 6, 7, 8, 9] rfl rfl (ws' := (wM cA adM u16)) rfl (fun H locs hP hD hS => ?_)
          refine lv_aload_n hx hb dX5_fulfil_94 rfl (lv_at hl 0 rfl) ?_
          refine lv_iload_n hx hb dX5_fulfil_95 rfl (lv_at hl 1 rfl) ?_
          refine lv_iload_n hx hb dX5_fulfil_96 rfl (lv_at hl 2 rfl) ?_
          refine lv_iload_n hx hb dX5_fulfil_97 rfl (lv_at hl 3 rfl) ?_
          obtain ⟨u17, eu17, h⟩ := bd_in h
          refine kI (va_runV (As := [.int p1, .int p2, .int p3]) (rest := []) ⟨hx, hb, hml, hown, hts⟩ (c_X5_owed l D cA cQ adM u16 p1 p2 p3 u17 eu17 _) (cwV 3 hts gX5_fulfil_X5_owed rfl rfl rfl (by decide +kernel) ⟨Nat.le_of_ble_eq_true rfl, Nat.le_of_ble_eq_true rfl⟩) (pV (ci := 5) (q := (RX5, TX5, 18)) hK hN hP hD [0, 1, 2, 3, 4, 5, 6, 7, 8, 9] rfl rfl rfl rfl) rfl rfl hl.1 rfl (lv_room (Nat.le_of_ble_eq_true rfl)) dX5_fulfil_98 ⟨Nat.zero_le _, Nat.zero_le _⟩) hP hD hS hA [0, 1, 2, 3, 4, 5, 6, 7, 8, 9] rfl rfl (ws' := (wM cA adM u16)) rfl (fun H locs hP hD hS => ?_)
          cases h
          exact endI hx hb hr hlocks hP hS rfl dX5_fulfil_101
        · have h := (if_neg c8).symm.trans h
          refine lv_ldc (v := (-1000002 : Int32)) hx hb hown (hts (.constant RX5 90 (-1000002)) (List.mem_of_getElem? (i := 2) rfl)) dX5_fulfil_42 ?_
          cases h
          exact endI hx hb hr hlocks hP hS rfl dX5_fulfil_44
      · have h := (if_pos c6).symm.trans h
        refine lv_ldc (v := (-1000001 : Int32)) hx hb hown (hts (.constant RX5 86 (-1000001)) (List.mem_of_getElem? (i := 1) rfl)) dX5_fulfil_27 ?_
        cases h
        exact endI hx hb hr hlocks hP hS rfl dX5_fulfil_29
theorem iw_X5_guarantee_X5 : ∀ w ∈ wsX50, w ∈ wsX5_guarantee := fun _ h => List.mem_cons_of_mem _ (List.mem_append_right _ (h))
set_option maxHeartbeats 4000000 in
set_option maxRecDepth 100000 in
theorem c_X5_guarantee (l : Launch) (D : va_G) (cA cQ : ClassId) (adM : Nat → Nat) (vM : St) (p1 : Int32) (p2 : Int32) (o : Int32 × St) (hf : X5_guarantee vM p1 p2 = some o) : Cti l yX5_guarantee wsX5_guarantee ({ frames := 2, cells := 0, slots := 0, locals := 43 }) D (TY cA cQ) [.ref (adM 0), .int p1, .int p2] (wM cA adM vM) (wM cA adM o.2) o.1 := by
  refine Wk.i (cc := cX5_guarantee) (maxL := 4) (ret := (some .int)) (by decide) rfl (Nat.le_of_ble_eq_true rfl) ?_
  intro p e s m below meth c A ls hx hb hr hlocks hml hown hts hK hN hP hD hA hl
  have hown : s.vm.findClass RX5 = some m.cls := hown
  have hS : va_S A s.heap s.heap [] := va_S.rf
  have hl : lv_has ls 4 [(0, .ref (adM 0)), (1, .int p1), (2, .int p2)] := hl
  have B21 : ∀ (vM : St) (H : Heap) (locs : List Loc) (ls : Array Slot), X5_guarantee_b21 p1 p2 vM = some o → va_P D vwCl (wM cA adM vM) H → va_D A (wM cA adM vM) → va_S A s.heap H locs → lv_has ls 4 [(0, .ref (adM 0)), (1, .int p1), (2, .int p2)] → W p l e (headSpec wsX5_guarantee ({ frames := 2, cells := 0, slots := 0, locals := 43 })).room s m ([.ref (adM 0), .int p1, .int p2] : List Value).toArray below meth c H locs 0 0 (MQ below (QI D (wM cA adM o.2) o.1 A) ([.ref (adM 0), .int p1, .int p2] : List Value).toArray s 0 0 A) (F0 m 21 ls []) := by
    intro vM H locs ls h hP hD hS hl
    unfold X5_guarantee_b21 at h
    refine lv_iload_n hx hb dX5_guarantee_21 rfl (lv_at hl 1 rfl) ?_
    refine lv_iload_n hx hb dX5_guarantee_22 rfl (lv_at hl 2 rfl) ?_
    refine lv_icmp_ne (tgt := 29) hx hb dX5_guarantee_23 (by decide) (fun c1 => ?_) (fun c1 => ?_)
    · have h := (if_neg c1).symm.trans h
      refine lv_aload_n hx hb dX5_guarantee_29 rfl (lv_at hl 0 rfl) ?_
      obtain ⟨u2, eu2, h⟩ := bd_in h
      refine kV (va_runV (As := []) (rest := []) ⟨hx, hb, hml, hown, hts⟩ (c_X5_changes l D cA cQ adM vM u2 eu2 _) (cwV 0 hts gX5_guarantee_X5_changes rfl rfl rfl (by decide +kernel) ⟨Nat.le_of_ble_eq_true rfl, Nat.le_of_ble_eq_true rfl⟩) (pV (ci := 5) (q := (RX5, TX5, 18)) hK hN hP hD [0, 1, 2, 3, 4, 5, 6, 7, 8, 9] rfl rfl rfl rfl) rfl rfl hl.1 rfl (lv_room (Nat.le_of_ble_eq_true rfl)) dX5_guarantee_30 ⟨Nat.zero_le _, Nat.zero_le _⟩) hP hD hS hA [0, 1, 2, 3, 4, 5, 6, 7, 8, 9] rfl rfl (ws' := (wM cA adM u2)) rfl (fun H locs hP hD hS => ?_)
      refine lv_aload_n hx hb dX5_guarantee_33 rfl (lv_at hl 0 rfl) ?_
      refine va_get (D := D) (ci := 5) (v := .ref (adM 1)) (C := RX5) (T := TX5) (N := 18) hx hb hts iw_X5_guarantee_X5 hown hK hP 0 rfl rfl 0 (by decide) (hts (.fieldLink RX5 7 "FavourRingsModel" "s" "[I") (List.mem_of_getElem? (i := 2) rfl)) (fun _ h9 => h9) rfl dX5_guarantee_34 ?_
      refine lv_iload_n hx hb dX5_guarantee_37 rfl (lv_at hl 1 rfl) ?_
      refine lv_iconst (v := (2 : Int32)) hx hb dX5_guarantee_38 (by decide) ?_
      obtain ⟨u3, eu3, h⟩ := bd_in h
      refine kI (va_runS (As := [.int p1, .int (2 : Int32)]) (rest := [.ref (adM 1)]) ⟨hx, hb, hml, hown, hts⟩ (c_X5_at l D cA cQ  p1 (2 : Int32) u3 eu3 _) (va_cwS 2 hts gX5_guarantee_X5_at rfl rfl rfl (by decide +kernel) ⟨Nat.le_of_ble_eq_true rfl, Nat.le_of_ble_eq_true rfl⟩) (pS hK hN hP hD [] rfl rfl) rfl rfl hl.1 rfl (lv_room (Nat.le_of_ble_eq_true rfl)) dX5_guarantee_39 ⟨Nat.zero_le _, Nat.zero_le _⟩) hP hD hS hA [] rfl rfl (ws' := (wM cA adM u2)) rfl (fun H locs hP hD hS => ?_)
      obtain ⟨y4, ey4, h⟩ := bd_in h
      refine ldR hx hb hK hP 1 0 rfl rfl ey4 dX5_guarantee_42 ?_
      refine lv_istore_n (lv' := [(3, .int y4), (0, .ref (adM 0)), (1, .int p1), (2, .int p2)]) hx hb dX5_guarantee_43 rfl hl (by decide) rfl (fun ls hl => ?_)
      refine lv_aload_n hx hb dX5_guarantee_44 rfl (lv_at hl 1 rfl) ?_
      refine va_get (D := D) (ci := 5) (v := .ref (adM 1)) (C := RX5) (T := TX5) (N := 18) hx hb hts iw_X5_guarantee_X5 hown hK hP 0 rfl rfl 0 (by decide) (hts (.fieldLink RX5 7 "FavourRingsModel" "s" "[I") (List.mem_of_getElem? (i := 2) rfl)) (fun _ h9 => h9) rfl dX5_guarantee_45 ?_
      refine lv_iload_n hx hb dX5_guarantee_48 rfl (lv_at hl 2 rfl) ?_
      refine lv_iconst (v := (2 : Int32)) hx hb dX5_guarantee_49 (by decide) ?_
      obtain ⟨u5, eu5, h⟩ := bd_in h
      refine kI (va_runS (As := [.int p1, .int (2 : Int32)]) (rest := [.ref (adM 1)]) ⟨hx, hb, hml, hown, hts⟩ (c_X5_at l D cA cQ  p1 (2 : Int32) u5 eu5 _) (va_cwS 2 hts gX5_guarantee_X5_at rfl rfl rfl (by decide +kernel) ⟨Nat.le_of_ble_eq_true rfl, Nat.le_of_ble_eq_true rfl⟩) (pS hK hN hP hD [] rfl rfl) rfl rfl hl.1 rfl (lv_room (Nat.le_of_ble_eq_true rfl)) dX5_guarantee_50 ⟨Nat.zero_le _, Nat.zero_le _⟩) hP hD hS hA [] rfl rfl (ws' := (wM cA adM u2)) rfl (fun H locs hP hD hS => ?_)
      refine lv_iload_n hx hb dX5_guarantee_53 rfl (lv_at hl 3 rfl) ?_
      refine lv_iconst (v := (1 : Int32)) hx hb dX5_guarantee_54 (by decide) ?_
      refine lv_iadd hx hb dX5_guarantee_55 ?_
      obtain ⟨g6, eg6, h⟩ := bd_in h
      refine stR hx hb hK hP hD hS 1 0 rfl rfl eg6 (ws' := (wM cA adM (setA u2 1 g6))) rfl dX5_guarantee_56 (fun H locs hP hD hS => ?_)
      refine lv_iload_n hx hb dX5_guarantee_57 rfl (lv_at hl 0 rfl) ?_
      cases h
      exact endI hx hb hr hlocks hP hS rfl dX5_guarantee_58
    · have h := (if_pos c1).symm.trans h
      refine lv_ldc (v := (-1000001 : Int32)) hx hb hown (hts (.constant RX5 86 (-1000001)) (List.mem_of_getElem? (i := 1) rfl)) dX5_guarantee_26 ?_
      cases h
      exact endI hx hb hr hlocks hP hS rfl dX5_guarantee_28
  have h := hf
  unfold X5_guarantee at h
  refine lv_aload_n hx hb dX5_guarantee_0 rfl (lv_at hl 0 rfl) ?_
  refine lv_iload_n hx hb dX5_guarantee_1 rfl (lv_at hl 1 rfl) ?_
  obtain ⟨u7, eu7, h⟩ := bd_in h
  refine kI (va_runV (As := [.int p1]) (rest := []) ⟨hx, hb, hml, hown, hts⟩ (c_X5_isPupil l D cA cQ adM vM p1 u7 eu7 _) (cwV 1 hts gX5_guarantee_X5_isPupil rfl rfl rfl (by decide +kernel) ⟨Nat.le_of_ble_eq_true rfl, Nat.le_of_ble_eq_true rfl⟩) (pV (ci := 5) (q := (RX5, TX5, 18)) hK hN hP hD [0, 1, 2, 3, 4, 5, 6, 7, 8, 9] rfl rfl rfl rfl) rfl rfl hl.1 rfl (lv_room (Nat.le_of_ble_eq_true rfl)) dX5_guarantee_2 ⟨Nat.zero_le _, Nat.zero_le _⟩) hP hD hS hA [0, 1, 2, 3, 4, 5, 6, 7, 8, 9] rfl rfl (ws' := (wM cA adM vM)) rfl (fun H locs hP hD hS => ?_)
  refine lv_if_eq (tgt := 26) hx hb dX5_guarantee_5 (by decide) (fun c8 => ?_) (fun c8 => ?_)
  · have h := (if_pos c8).symm.trans h
    refine lv_ldc (v := (-1000001 : Int32)) hx hb hown (hts (.constant RX5 86 (-1000001)) (List.mem_of_getElem? (i := 1) rfl)) dX5_guarantee_26 ?_
    cases h
    exact endI hx hb hr hlocks hP hS rfl dX5_guarantee_28
  · have h := (if_neg c8).symm.trans h
    refine lv_iload_n hx hb dX5_guarantee_8 rfl (lv_at hl 2 rfl) ?_
    refine lv_iconst (v := (-1 : Int32)) hx hb dX5_guarantee_9 (by decide) ?_
    refine lv_icmp_eq (tgt := 21) hx hb dX5_guarantee_10 (by decide) (fun c9 => ?_) (fun c9 => ?_)
    · have h := (if_pos c9).symm.trans h
      exact B21 vM _ _ _ h hP hD hS (lv_sub hl [0, 1, 2] rfl)
    · have h := (if_neg c9).symm.trans h
      refine lv_aload_n hx hb dX5_guarantee_13 rfl (lv_at hl 0 rfl) ?_
      refine lv_iload_n hx hb dX5_guarantee_14 rfl (lv_at hl 2 rfl) ?_
      obtain ⟨u10, eu10, h⟩ := bd_in h
      refine kI (va_runV (As := [.int p2]) (rest := []) ⟨hx, hb, hml, hown, hts⟩ (c_X5_isPupil l D cA cQ adM vM p2 u10 eu10 _) (cwV 1 hts gX5_guarantee_X5_isPupil rfl rfl rfl (by decide +kernel) ⟨Nat.le_of_ble_eq_true rfl, Nat.le_of_ble_eq_true rfl⟩) (pV (ci := 5) (q := (RX5, TX5, 18)) hK hN hP hD [0, 1, 2, 3, 4, 5, 6, 7, 8, 9] rfl rfl rfl rfl) rfl rfl hl.1 rfl (lv_room (Nat.le_of_ble_eq_true rfl)) dX5_guarantee_15 ⟨Nat.zero_le _, Nat.zero_le _⟩) hP hD hS hA [0, 1, 2, 3, 4, 5, 6, 7, 8, 9] rfl rfl (ws' := (wM cA adM vM)) rfl (fun H locs hP hD hS => ?_)
      refine lv_if_eq (tgt := 26) hx hb dX5_guarantee_18 (by decide) (fun c11 => ?_) (fun c11 => ?_)
      · have h := (if_pos c11).symm.trans h
        refine lv_ldc (v := (-1000001 : Int32)) hx hb hown (hts (.constant RX5 86 (-1000001)) (List.mem_of_getElem? (i := 1) rfl)) dX5_guarantee_26 ?_
        cases h
        exact endI hx hb hr hlocks hP hS rfl dX5_guarantee_28
      · have h := (if_neg c11).symm.trans h
        exact B21 vM _ _ _ h hP hD hS (lv_sub hl [0, 1, 2] rfl)
theorem iw_X5_ends_X5 : ∀ w ∈ wsX50, w ∈ wsX5_ends := fun _ h => List.mem_cons_of_mem _ (List.mem_append_right _ (h))
set_option maxHeartbeats 4000000 in
set_option maxRecDepth 100000 in
theorem c_X5_ends (l : Launch) (D : va_G) (cA cQ : ClassId) (adM : Nat → Nat) (vM : St) (p1 : Int32) (o : Int32 × St) (hf : X5_ends vM p1 = some o) : Cti l yX5_ends wsX5_ends ({ frames := 2, cells := 0, slots := 0, locals := 44 }) D (TY cA cQ) [.ref (adM 0), .int p1] (wM cA adM vM) (wM cA adM o.2) o.1 := by
  refine Wk.i (cc := cX5_ends) (maxL := 5) (ret := (some .int)) (by decide) rfl (Nat.le_of_ble_eq_true rfl) ?_
  intro p e s m below meth c A ls hx hb hr hlocks hml hown hts hK hN hP hD hA hl
  have hown : s.vm.findClass RX5 = some m.cls := hown
  have hS : va_S A s.heap s.heap [] := va_S.rf
  have hl : lv_has ls 5 [(0, .ref (adM 0)), (1, .int p1)] := hl
  have B112 : ∀ (vM : St) (x2 : Int32) (x3 : Int32) (H : Heap) (locs : List Loc) (ls : Array Slot), X5_ends_b112 p1 vM x2 x3 = some o → va_P D vwCl (wM cA adM vM) H → va_D A (wM cA adM vM) → va_S A s.heap H locs → lv_has ls 5 [(0, .ref (adM 0)), (1, .int p1), (2, .int x2), (3, .int x3)] → W p l e (headSpec wsX5_ends ({ frames := 2, cells := 0, slots := 0, locals := 44 })).room s m ([.ref (adM 0), .int p1] : List Value).toArray below meth c H locs 0 0 (MQ below (QI D (wM cA adM o.2) o.1 A) ([.ref (adM 0), .int p1] : List Value).toArray s 0 0 A) (F0 m 112 ls []) := by
    intro vM x2 x3 H locs ls h hP hD hS hl
    unfold X5_ends_b112 at h
    refine lv_aload_n hx hb dX5_ends_112 rfl (lv_at hl 0 rfl) ?_
    refine va_get (D := D) (ci := 5) (v := .ref (adM 1)) (C := RX5) (T := TX5) (N := 18) hx hb hts iw_X5_ends_X5 hown hK hP 0 rfl rfl 0 (by decide) (hts (.fieldLink RX5 7 "FavourRingsModel" "s" "[I") (List.mem_of_getElem? (i := 1) rfl)) (fun _ h9 => h9) rfl dX5_ends_113 ?_
    refine lv_iload_n hx hb dX5_ends_116 rfl (lv_at hl 2 rfl) ?_
    refine lv_iconst (v := (1 : Int32)) hx hb dX5_ends_117 (by decide) ?_
    obtain ⟨u1, eu1, h⟩ := bd_in h
    refine kI (va_runS (As := [.int x2, .int (1 : Int32)]) (rest := [.ref (adM 1)]) ⟨hx, hb, hml, hown, hts⟩ (c_X5_at l D cA cQ  x2 (1 : Int32) u1 eu1 _) (va_cwS 2 hts gX5_ends_X5_at rfl rfl rfl (by decide +kernel) ⟨Nat.le_of_ble_eq_true rfl, Nat.le_of_ble_eq_true rfl⟩) (pS hK hN hP hD [] rfl rfl) rfl rfl hl.1 rfl (lv_room (Nat.le_of_ble_eq_true rfl)) dX5_ends_118 ⟨Nat.zero_le _, Nat.zero_le _⟩) hP hD hS hA [] rfl rfl (ws' := (wM cA adM vM)) rfl (fun H locs hP hD hS => ?_)
    refine lv_dup2_11 hx hb dX5_ends_121 rfl rfl ?_
    obtain ⟨y2, ey2, h⟩ := bd_in h
    refine ldR hx hb hK hP 1 0 rfl rfl ey2 dX5_ends_122 ?_
    refine lv_iload_n hx hb dX5_ends_123 rfl (lv_at hl 3 rfl) ?_
    refine lv_iadd hx hb dX5_ends_124 ?_
    obtain ⟨g3, eg3, h⟩ := bd_in h
    refine stR hx hb hK hP hD hS 1 0 rfl rfl eg3 (ws' := (wM cA adM (setA vM 1 g3))) rfl dX5_ends_125 (fun H locs hP hD hS => ?_)
    refine lv_aload_n hx hb dX5_ends_126 rfl (lv_at hl 0 rfl) ?_
    refine va_get (D := D) (ci := 5) (v := .ref (adM 1)) (C := RX5) (T := TX5) (N := 18) hx hb hts iw_X5_ends_X5 hown hK hP 0 rfl rfl 0 (by decide) (hts (.fieldLink RX5 7 "FavourRingsModel" "s" "[I") (List.mem_of_getElem? (i := 1) rfl)) (fun _ h9 => h9) rfl dX5_ends_127 ?_
    refine lv_sipush (v := (293 : Int32)) hx hb dX5_ends_130 (by decide) ?_
    refine lv_dup2_11 hx hb dX5_ends_133 rfl rfl ?_
    obtain ⟨y4, ey4, h⟩ := bd_in h
    refine ldR hx hb hK hP 1 0 rfl rfl ey4 dX5_ends_134 ?_
    refine lv_iload_n hx hb dX5_ends_135 rfl (lv_at hl 3 rfl) ?_
    refine lv_iadd hx hb dX5_ends_136 ?_
    obtain ⟨g5, eg5, h⟩ := bd_in h
    refine stR hx hb hK hP hD hS 1 0 rfl rfl eg5 (ws' := (wM cA adM (setA vM 1 g5))) rfl dX5_ends_137 (fun H locs hP hD hS => ?_)
    refine lv_aload_n hx hb dX5_ends_138 rfl (lv_at hl 0 rfl) ?_
    refine lv_iload_n hx hb dX5_ends_139 rfl (lv_at hl 2 rfl) ?_
    refine lv_aload_n hx hb dX5_ends_140 rfl (lv_at hl 0 rfl) ?_
    refine lv_iload_n hx hb dX5_ends_141 rfl (lv_at hl 1 rfl) ?_
    refine lv_iconst (v := (1 : Int32)) hx hb dX5_ends_142 (by decide) ?_
    obtain ⟨u6, eu6, h⟩ := bd_in h
    refine kI (va_runV (As := [.int p1, .int (1 : Int32)]) (rest := [.int x2, .ref (adM 0)]) ⟨hx, hb, hml, hown, hts⟩ (c_X5_of l D cA cQ adM (setA vM 1 g5) p1 (1 : Int32) u6 eu6 _) (cwV 2 hts gX5_ends_X5_of rfl rfl rfl (by decide +kernel) ⟨Nat.le_of_ble_eq_true rfl, Nat.le_of_ble_eq_true rfl⟩) (pV (ci := 5) (q := (RX5, TX5, 18)) hK hN hP hD [0, 1, 2, 3, 4, 5, 6, 7, 8, 9] rfl rfl rfl rfl) rfl rfl hl.1 rfl (lv_room (Nat.le_of_ble_eq_true rfl)) dX5_ends_143 ⟨Nat.zero_le _, Nat.zero_le _⟩) hP hD hS hA [0, 1, 2, 3, 4, 5, 6, 7, 8, 9] rfl rfl (ws' := (wM cA adM (setA vM 1 g5))) rfl (fun H locs hP hD hS => ?_)
    refine lv_iload_n hx hb dX5_ends_146 rfl (lv_at hl 3 rfl) ?_
    obtain ⟨u7, eu7, h⟩ := bd_in h
    refine kV (va_runV (As := [.int x2, .int u6, .int x3]) (rest := []) ⟨hx, hb, hml, hown, hts⟩ (c_X5_shifts l D cA cQ adM (setA vM 1 g5) x2 u6 x3 u7 eu7 _) (cwV 3 hts gX5_ends_X5_shifts rfl rfl rfl (by decide +kernel) ⟨Nat.le_of_ble_eq_true rfl, Nat.le_of_ble_eq_true rfl⟩) (pV (ci := 5) (q := (RX5, TX5, 18)) hK hN hP hD [0, 1, 2, 3, 4, 5, 6, 7, 8, 9] rfl rfl rfl rfl) rfl rfl hl.1 rfl (lv_room (Nat.le_of_ble_eq_true rfl)) dX5_ends_147 ⟨Nat.zero_le _, Nat.zero_le _⟩) hP hD hS hA [0, 1, 2, 3, 4, 5, 6, 7, 8, 9] rfl rfl (ws' := (wM cA adM u7)) rfl (fun H locs hP hD hS => ?_)
    refine lv_aload_n hx hb dX5_ends_150 rfl (lv_at hl 0 rfl) ?_
    refine lv_iload_n hx hb dX5_ends_151 rfl (lv_at hl 1 rfl) ?_
    refine lv_iconst (v := (3 : Int32)) hx hb dX5_ends_152 (by decide) ?_
    refine lv_iconst (v := (0 : Int32)) hx hb dX5_ends_153 (by decide) ?_
    obtain ⟨u8, eu8, h⟩ := bd_in h
    refine kV (va_runV (As := [.int p1, .int (3 : Int32), .int (0 : Int32)]) (rest := []) ⟨hx, hb, hml, hown, hts⟩ (c_X5_lay l D cA cQ adM u7 p1 (3 : Int32) (0 : Int32) u8 eu8 _) (cwV 3 hts gX5_ends_X5_lay rfl rfl rfl (by decide +kernel) ⟨Nat.le_of_ble_eq_true rfl, Nat.le_of_ble_eq_true rfl⟩) (pV (ci := 5) (q := (RX5, TX5, 18)) hK hN hP hD [0, 1, 2, 3, 4, 5, 6, 7, 8, 9] rfl rfl rfl rfl) rfl rfl hl.1 rfl (lv_room (Nat.le_of_ble_eq_true rfl)) dX5_ends_154 ⟨Nat.zero_le _, Nat.zero_le _⟩) hP hD hS hA [0, 1, 2, 3, 4, 5, 6, 7, 8, 9] rfl rfl (ws' := (wM cA adM u8)) rfl (fun H locs hP hD hS => ?_)
    refine lv_iload_n hx hb dX5_ends_157 rfl (lv_at hl 3 rfl) ?_
    cases h
    exact endI hx hb hr hlocks hP hS rfl dX5_ends_158
  have h := hf
  unfold X5_ends at h
  refine lv_aload_n hx hb dX5_ends_0 rfl (lv_at hl 0 rfl) ?_
  refine lv_iload_n hx hb dX5_ends_1 rfl (lv_at hl 1 rfl) ?_
  refine lv_iconst (v := (0 : Int32)) hx hb dX5_ends_2 (by decide) ?_
  obtain ⟨u9, eu9, h⟩ := bd_in h
  refine kI (va_runV (As := [.int p1, .int (0 : Int32)]) (rest := []) ⟨hx, hb, hml, hown, hts⟩ (c_X5_of l D cA cQ adM vM p1 (0 : Int32) u9 eu9 _) (cwV 2 hts gX5_ends_X5_of rfl rfl rfl (by decide +kernel) ⟨Nat.le_of_ble_eq_true rfl, Nat.le_of_ble_eq_true rfl⟩) (pV (ci := 5) (q := (RX5, TX5, 18)) hK hN hP hD [0, 1, 2, 3, 4, 5, 6, 7, 8, 9] rfl rfl rfl rfl) rfl rfl hl.1 rfl (lv_room (Nat.le_of_ble_eq_true rfl)) dX5_ends_3 ⟨Nat.zero_le _, Nat.zero_le _⟩) hP hD hS hA [0, 1, 2, 3, 4, 5, 6, 7, 8, 9] rfl rfl (ws' := (wM cA adM vM)) rfl (fun H locs hP hD hS => ?_)
  refine lv_istore_n (lv' := [(2, .int u9), (0, .ref (adM 0)), (1, .int p1)]) hx hb dX5_ends_6 rfl hl (by decide) rfl (fun ls hl => ?_)
  refine lv_aload_n hx hb dX5_ends_7 rfl (lv_at hl 1 rfl) ?_
  refine lv_iload_n hx hb dX5_ends_8 rfl (lv_at hl 2 rfl) ?_
  refine lv_iconst (v := (3 : Int32)) hx hb dX5_ends_9 (by decide) ?_
  obtain ⟨u10, eu10, h⟩ := bd_in h
  refine kI (va_runV (As := [.int p1, .int (3 : Int32)]) (rest := []) ⟨hx, hb, hml, hown, hts⟩ (c_X5_of l D cA cQ adM vM p1 (3 : Int32) u10 eu10 _) (cwV 2 hts gX5_ends_X5_of rfl rfl rfl (by decide +kernel) ⟨Nat.le_of_ble_eq_true rfl, Nat.le_of_ble_eq_true rfl⟩) (pV (ci := 5) (q := (RX5, TX5, 18)) hK hN hP hD [0, 1, 2, 3, 4, 5, 6, 7, 8, 9] rfl rfl rfl rfl) rfl rfl hl.1 rfl (lv_room (Nat.le_of_ble_eq_true rfl)) dX5_ends_10 ⟨Nat.zero_le _, Nat.zero_le _⟩) hP hD hS hA [0, 1, 2, 3, 4, 5, 6, 7, 8, 9] rfl rfl (ws' := (wM cA adM vM)) rfl (fun H locs hP hD hS => ?_)
  refine lv_istore_n (lv' := [(3, .int u10), (2, .int u9), (0, .ref (adM 0)), (1, .int p1)]) hx hb dX5_ends_13 rfl hl (by decide) rfl (fun ls hl => ?_)
  refine lv_aload_n hx hb dX5_ends_14 rfl (lv_at hl 2 rfl) ?_
  refine va_get (D := D) (ci := 5) (v := .ref (adM 1)) (C := RX5) (T := TX5) (N := 18) hx hb hts iw_X5_ends_X5 hown hK hP 0 rfl rfl 0 (by decide) (hts (.fieldLink RX5 7 "FavourRingsModel" "s" "[I") (List.mem_of_getElem? (i := 1) rfl)) (fun _ h9 => h9) rfl dX5_ends_15 ?_
  refine lv_iload_n hx hb dX5_ends_18 rfl (lv_at hl 1 rfl) ?_
  refine lv_iconst (v := (2 : Int32)) hx hb dX5_ends_19 (by decide) ?_
  obtain ⟨u11, eu11, h⟩ := bd_in h
  refine kI (va_runS (As := [.int u9, .int (2 : Int32)]) (rest := [.ref (adM 1)]) ⟨hx, hb, hml, hown, hts⟩ (c_X5_at l D cA cQ  u9 (2 : Int32) u11 eu11 _) (va_cwS 2 hts gX5_ends_X5_at rfl rfl rfl (by decide +kernel) ⟨Nat.le_of_ble_eq_true rfl, Nat.le_of_ble_eq_true rfl⟩) (pS hK hN hP hD [] rfl rfl) rfl rfl hl.1 rfl (lv_room (Nat.le_of_ble_eq_true rfl)) dX5_ends_20 ⟨Nat.zero_le _, Nat.zero_le _⟩) hP hD hS hA [] rfl rfl (ws' := (wM cA adM vM)) rfl (fun H locs hP hD hS => ?_)
  obtain ⟨y12, ey12, h⟩ := bd_in h
  refine ldR hx hb hK hP 1 0 rfl rfl ey12 dX5_ends_23 ?_
  refine lv_iconst (v := (1 : Int32)) hx hb dX5_ends_24 (by decide) ?_
  refine lv_isub hx hb dX5_ends_25 ?_
  refine lv_istore (lv' := [(4, .int (y12 - (1 : Int32))), (3, .int u10), (2, .int u9), (0, .ref (adM 0)), (1, .int p1)]) hx hb dX5_ends_26 hl (by decide) rfl (fun ls hl => ?_)
  refine lv_iload hx hb dX5_ends_28 (lv_at hl 0 rfl) ?_
  refine lv_if_lt (tgt := 112) hx hb dX5_ends_30 (by decide) (fun c13 => ?_) (fun c13 => ?_)
  · have h := (if_pos c13).symm.trans h
    exact B112 vM u9 u10 _ _ _ h hP hD hS (lv_sub hl [3, 4, 2, 1] rfl)
  · have h := (if_neg c13).symm.trans h
    refine lv_iload hx hb dX5_ends_33 (lv_at hl 0 rfl) ?_
    refine lv_aload_n hx hb dX5_ends_35 rfl (lv_at hl 3 rfl) ?_
    refine lv_iload_n hx hb dX5_ends_36 rfl (lv_at hl 4 rfl) ?_
    refine lv_iconst (v := (1 : Int32)) hx hb dX5_ends_37 (by decide) ?_
    obtain ⟨u14, eu14, h⟩ := bd_in h
    refine kI (va_runV (As := [.int p1, .int (1 : Int32)]) (rest := [.int (y12 - (1 : Int32))]) ⟨hx, hb, hml, hown, hts⟩ (c_X5_of l D cA cQ adM vM p1 (1 : Int32) u14 eu14 _) (cwV 2 hts gX5_ends_X5_of rfl rfl rfl (by decide +kernel) ⟨Nat.le_of_ble_eq_true rfl, Nat.le_of_ble_eq_true rfl⟩) (pV (ci := 5) (q := (RX5, TX5, 18)) hK hN hP hD [0, 1, 2, 3, 4, 5, 6, 7, 8, 9] rfl rfl rfl rfl) rfl rfl hl.1 rfl (lv_room (Nat.le_of_ble_eq_true rfl)) dX5_ends_38 ⟨Nat.zero_le _, Nat.zero_le _⟩) hP hD hS hA [0, 1, 2, 3, 4, 5, 6, 7, 8, 9] rfl rfl (ws' := (wM cA adM vM)) rfl (fun H locs hP hD hS => ?_)
    refine lv_icmp_eq (tgt := 112) hx hb dX5_ends_41 (by decide) (fun c15 => ?_) (fun c15 => ?_)
    · have h := (if_pos c15).symm.trans h
      exact B112 vM u9 u10 _ _ _ h hP hD hS (lv_sub hl [3, 4, 2, 1] rfl)
    · have h := (if_neg c15).symm.trans h
      refine lv_aload_n hx hb dX5_ends_44 rfl (lv_at hl 3 rfl) ?_
      refine lv_iload_n hx hb dX5_ends_45 rfl (lv_at hl 4 rfl) ?_
      refine lv_iconst (v := (5 : Int32)) hx hb dX5_ends_46 (by decide) ?_
      obtain ⟨u16, eu16, h⟩ := bd_in h
      refine kI (va_runV (As := [.int p1, .int (5 : Int32)]) (rest := []) ⟨hx, hb, hml, hown, hts⟩ (c_X5_of l D cA cQ adM vM p1 (5 : Int32) u16 eu16 _) (cwV 2 hts gX5_ends_X5_of rfl rfl rfl (by decide +kernel) ⟨Nat.le_of_ble_eq_true rfl, Nat.le_of_ble_eq_true rfl⟩) (pV (ci := 5) (q := (RX5, TX5, 18)) hK hN hP hD [0, 1, 2, 3, 4, 5, 6, 7, 8, 9] rfl rfl rfl rfl) rfl rfl hl.1 rfl (lv_room (Nat.le_of_ble_eq_true rfl)) dX5_ends_47 ⟨Nat.zero_le _, Nat.zero_le _⟩) hP hD hS hA [0, 1, 2, 3, 4, 5, 6, 7, 8, 9] rfl rfl (ws' := (wM cA adM vM)) rfl (fun H locs hP hD hS => ?_)
      refine lv_if_ne (tgt := 112) hx hb dX5_ends_50 (by decide) (fun c17 => ?_) (fun c17 => ?_)
      · have h := (if_neg c17).symm.trans h
        exact B112 vM u9 u10 _ _ _ h hP hD hS (lv_sub hl [3, 4, 2, 1] rfl)
      · have h := (if_pos c17).symm.trans h
        refine lv_aload_n hx hb dX5_ends_53 rfl (lv_at hl 3 rfl) ?_
        refine lv_iload_n hx hb dX5_ends_54 rfl (lv_at hl 4 rfl) ?_
        refine lv_iconst (v := (0 : Int32)) hx hb dX5_ends_55 (by decide) ?_
        refine lv_iload hx hb dX5_ends_56 (lv_at hl 0 rfl) ?_
        obtain ⟨u18, eu18, h⟩ := bd_in h
        refine kV (va_runV (As := [.int p1, .int (0 : Int32), .int (y12 - (1 : Int32))]) (rest := []) ⟨hx, hb, hml, hown, hts⟩ (c_X5_lay l D cA cQ adM vM p1 (0 : Int32) (y12 - (1 : Int32)) u18 eu18 _) (cwV 3 hts gX5_ends_X5_lay rfl rfl rfl (by decide +kernel) ⟨Nat.le_of_ble_eq_true rfl, Nat.le_of_ble_eq_true rfl⟩) (pV (ci := 5) (q := (RX5, TX5, 18)) hK hN hP hD [0, 1, 2, 3, 4, 5, 6, 7, 8, 9] rfl rfl rfl rfl) rfl rfl hl.1 rfl (lv_room (Nat.le_of_ble_eq_true rfl)) dX5_ends_58 ⟨Nat.zero_le _, Nat.zero_le _⟩) hP hD hS hA [0, 1, 2, 3, 4, 5, 6, 7, 8, 9] rfl rfl (ws' := (wM cA adM u18)) rfl (fun H locs hP hD hS => ?_)
        refine lv_aload_n hx hb dX5_ends_61 rfl (lv_at hl 3 rfl) ?_
        refine lv_iload_n hx hb dX5_ends_62 rfl (lv_at hl 4 rfl) ?_
        refine lv_iconst (v := (4 : Int32)) hx hb dX5_ends_63 (by decide) ?_
        refine lv_iconst (v := (0 : Int32)) hx hb dX5_ends_64 (by decide) ?_
        obtain ⟨u19, eu19, h⟩ := bd_in h
        refine kV (va_runV (As := [.int p1, .int (4 : Int32), .int (0 : Int32)]) (rest := []) ⟨hx, hb, hml, hown, hts⟩ (c_X5_lay l D cA cQ adM u18 p1 (4 : Int32) (0 : Int32) u19 eu19 _) (cwV 3 hts gX5_ends_X5_lay rfl rfl rfl (by decide +kernel) ⟨Nat.le_of_ble_eq_true rfl, Nat.le_of_ble_eq_true rfl⟩) (pV (ci := 5) (q := (RX5, TX5, 18)) hK hN hP hD [0, 1, 2, 3, 4, 5, 6, 7, 8, 9] rfl rfl rfl rfl) rfl rfl hl.1 rfl (lv_room (Nat.le_of_ble_eq_true rfl)) dX5_ends_65 ⟨Nat.zero_le _, Nat.zero_le _⟩) hP hD hS hA [0, 1, 2, 3, 4, 5, 6, 7, 8, 9] rfl rfl (ws' := (wM cA adM u19)) rfl (fun H locs hP hD hS => ?_)
        refine lv_aload_n hx hb dX5_ends_68 rfl (lv_at hl 3 rfl) ?_
        refine lv_iload_n hx hb dX5_ends_69 rfl (lv_at hl 4 rfl) ?_
        refine lv_iconst (v := (5 : Int32)) hx hb dX5_ends_70 (by decide) ?_
        refine lv_iconst (v := (1 : Int32)) hx hb dX5_ends_71 (by decide) ?_
        obtain ⟨u20, eu20, h⟩ := bd_in h
        refine kV (va_runV (As := [.int p1, .int (5 : Int32), .int (1 : Int32)]) (rest := []) ⟨hx, hb, hml, hown, hts⟩ (c_X5_lay l D cA cQ adM u19 p1 (5 : Int32) (1 : Int32) u20 eu20 _) (cwV 3 hts gX5_ends_X5_lay rfl rfl rfl (by decide +kernel) ⟨Nat.le_of_ble_eq_true rfl, Nat.le_of_ble_eq_true rfl⟩) (pV (ci := 5) (q := (RX5, TX5, 18)) hK hN hP hD [0, 1, 2, 3, 4, 5, 6, 7, 8, 9] rfl rfl rfl rfl) rfl rfl hl.1 rfl (lv_room (Nat.le_of_ble_eq_true rfl)) dX5_ends_72 ⟨Nat.zero_le _, Nat.zero_le _⟩) hP hD hS hA [0, 1, 2, 3, 4, 5, 6, 7, 8, 9] rfl rfl (ws' := (wM cA adM u20)) rfl (fun H locs hP hD hS => ?_)
        refine lv_aload_n hx hb dX5_ends_75 rfl (lv_at hl 3 rfl) ?_
        refine va_get (D := D) (ci := 5) (v := .ref (adM 1)) (C := RX5) (T := TX5) (N := 18) hx hb hts iw_X5_ends_X5 hown hK hP 0 rfl rfl 0 (by decide) (hts (.fieldLink RX5 7 "FavourRingsModel" "s" "[I") (List.mem_of_getElem? (i := 1) rfl)) (fun _ h9 => h9) rfl dX5_ends_76 ?_
        refine lv_iload hx hb dX5_ends_79 (lv_at hl 0 rfl) ?_
        refine lv_iconst (v := (3 : Int32)) hx hb dX5_ends_81 (by decide) ?_
        obtain ⟨u21, eu21, h⟩ := bd_in h
        refine kI (va_runS (As := [.int (y12 - (1 : Int32)), .int (3 : Int32)]) (rest := [.ref (adM 1)]) ⟨hx, hb, hml, hown, hts⟩ (c_X5_at l D cA cQ  (y12 - (1 : Int32)) (3 : Int32) u21 eu21 _) (va_cwS 2 hts gX5_ends_X5_at rfl rfl rfl (by decide +kernel) ⟨Nat.le_of_ble_eq_true rfl, Nat.le_of_ble_eq_true rfl⟩) (pS hK hN hP hD [] rfl rfl) rfl rfl hl.1 rfl (lv_room (Nat.le_of_ble_eq_true rfl)) dX5_ends_82 ⟨Nat.zero_le _, Nat.zero_le _⟩) hP hD hS hA [] rfl rfl (ws' := (wM cA adM u20)) rfl (fun H locs hP hD hS => ?_)
        refine lv_dup2_11 hx hb dX5_ends_85 rfl rfl ?_
        obtain ⟨y22, ey22, h⟩ := bd_in h
        refine ldR hx hb hK hP 1 0 rfl rfl ey22 dX5_ends_86 ?_
        refine lv_iload_n hx hb dX5_ends_87 rfl (lv_at hl 1 rfl) ?_
        refine lv_iadd hx hb dX5_ends_88 ?_
        obtain ⟨g23, eg23, h⟩ := bd_in h
        refine stR hx hb hK hP hD hS 1 0 rfl rfl eg23 (ws' := (wM cA adM (setA u20 1 g23))) rfl dX5_ends_89 (fun H locs hP hD hS => ?_)
        refine lv_aload_n hx hb dX5_ends_90 rfl (lv_at hl 3 rfl) ?_
        refine va_get (D := D) (ci := 5) (v := .ref (adM 1)) (C := RX5) (T := TX5) (N := 18) hx hb hts iw_X5_ends_X5 hown hK hP 0 rfl rfl 0 (by decide) (hts (.fieldLink RX5 7 "FavourRingsModel" "s" "[I") (List.mem_of_getElem? (i := 1) rfl)) (fun _ h9 => h9) rfl dX5_ends_91 ?_
        refine lv_sipush (v := (295 : Int32)) hx hb dX5_ends_94 (by decide) ?_
        refine lv_dup2_11 hx hb dX5_ends_97 rfl rfl ?_
        obtain ⟨y24, ey24, h⟩ := bd_in h
        refine ldR hx hb hK hP 1 0 rfl rfl ey24 dX5_ends_98 ?_
        refine lv_iload_n hx hb dX5_ends_99 rfl (lv_at hl 1 rfl) ?_
        refine lv_iadd hx hb dX5_ends_100 ?_
        obtain ⟨g25, eg25, h⟩ := bd_in h
        refine stR hx hb hK hP hD hS 1 0 rfl rfl eg25 (ws' := (wM cA adM (setA u20 1 g25))) rfl dX5_ends_101 (fun H locs hP hD hS => ?_)
        refine lv_aload_n hx hb dX5_ends_102 rfl (lv_at hl 3 rfl) ?_
        refine lv_iload_n hx hb dX5_ends_103 rfl (lv_at hl 2 rfl) ?_
        refine lv_iload hx hb dX5_ends_104 (lv_at hl 0 rfl) ?_
        refine lv_iload_n hx hb dX5_ends_106 rfl (lv_at hl 1 rfl) ?_
        obtain ⟨u26, eu26, h⟩ := bd_in h
        refine kV (va_runV (As := [.int u9, .int (y12 - (1 : Int32)), .int u10]) (rest := []) ⟨hx, hb, hml, hown, hts⟩ (c_X5_shifts l D cA cQ adM (setA u20 1 g25) u9 (y12 - (1 : Int32)) u10 u26 eu26 _) (cwV 3 hts gX5_ends_X5_shifts rfl rfl rfl (by decide +kernel) ⟨Nat.le_of_ble_eq_true rfl, Nat.le_of_ble_eq_true rfl⟩) (pV (ci := 5) (q := (RX5, TX5, 18)) hK hN hP hD [0, 1, 2, 3, 4, 5, 6, 7, 8, 9] rfl rfl rfl rfl) rfl rfl hl.1 rfl (lv_room (Nat.le_of_ble_eq_true rfl)) dX5_ends_107 ⟨Nat.zero_le _, Nat.zero_le _⟩) hP hD hS hA [0, 1, 2, 3, 4, 5, 6, 7, 8, 9] rfl rfl (ws' := (wM cA adM u26)) rfl (fun H locs hP hD hS => ?_)
        refine lv_iconst (v := (0 : Int32)) hx hb dX5_ends_110 (by decide) ?_
        cases h
        exact endI hx hb hr hlocks hP hS rfl dX5_ends_111

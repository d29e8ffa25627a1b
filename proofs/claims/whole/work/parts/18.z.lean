theorem law_pure (xs : Nat → Int32) (L : Nat) (hL : L ≤ 2560) (o0 om : Nat → Int32) (h0 : X0_init = some o0) (hm : X5_init = some om) : L_law_l18 xs L FU (setA (fun _ _ => 0) 1 o0) (setA (fun _ _ => 0) 1 o0) (fun _ _ => 0) (fun _ => setA (fun _ _ => 0) 1 o0) (fun _ _ => 0) (fun _ _ => 0) (setA (fun _ _ => 0) 1 om) (0 : Int32) = some 1 := by
  have e0 : o0 = o0F := Option.some.inj (h0.symm.trans c_init)
  have em : om = omF := Option.some.inj (hm.symm.trans m_init)
  subst e0 em
  exact law_loop hL 513 FU 0 _ _ _ _ _ _ _ (by decide) (by omega) (by omega) (by omega) (start_rel _ _ rfl)

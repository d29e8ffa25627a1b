section
-- ===== PART A: goes FIRST, ahead of the names: the tables' words, and 'selects' of the private methods out of them =====
/-- a private method of a class that the tables say can be made, by its rows of tables_1 -/
def lw_okq (q : MethodName × Nat) : Prop := (q.1.cls ≠ "java/lang/invoke/MethodHandle" ∧ q.1.cls ≠ "java/lang/invoke/VarHandle") ∧ Cond.instantiable q.1.cls q.2 ∈ tables_1 ∧ Cond.privateMethod q.1 ∈ tables_1 ∧ Cond.instanceMethod q.1 ∈ tables_1
theorem lw_p0 : lw_okq (⟨"FavourRings", "freshTrial", "()LFavourRings$Bank;"⟩, 5) := ⟨⟨by decide +kernel, by decide +kernel⟩, List.mem_of_getElem? (i := 11) (by decide +kernel), List.mem_of_getElem? (i := 164) (by decide +kernel), List.mem_of_getElem? (i := 165) (by decide +kernel)⟩
theorem lw_p1 : lw_okq (⟨"FavourRings", "settled", "(I)I"⟩, 5) := ⟨⟨by decide +kernel, by decide +kernel⟩, List.mem_of_getElem? (i := 11) (by decide +kernel), List.mem_of_getElem? (i := 193) (by decide +kernel), List.mem_of_getElem? (i := 194) (by decide +kernel)⟩
theorem lw_p2 : lw_okq (⟨"FavourRingsModel", "changes", "()V"⟩, 18) := ⟨⟨by decide +kernel, by decide +kernel⟩, List.mem_of_getElem? (i := 601) (by decide +kernel), List.mem_of_getElem? (i := 667) (by decide +kernel), List.mem_of_getElem? (i := 668) (by decide +kernel)⟩
theorem lw_p3 : lw_okq (⟨"FavourRingsModel", "isPair", "(II)Z"⟩, 18) := ⟨⟨by decide +kernel, by decide +kernel⟩, List.mem_of_getElem? (i := 601) (by decide +kernel), List.mem_of_getElem? (i := 675) (by decide +kernel), List.mem_of_getElem? (i := 676) (by decide +kernel)⟩
theorem lw_p4 : lw_okq (⟨"FavourRingsModel", "isPupil", "(I)Z"⟩, 18) := ⟨⟨by decide +kernel, by decide +kernel⟩, List.mem_of_getElem? (i := 601) (by decide +kernel), List.mem_of_getElem? (i := 679) (by decide +kernel), List.mem_of_getElem? (i := 680) (by decide +kernel)⟩
theorem lw_p5 : lw_okq (⟨"FavourRingsModel", "barred", "(II)I"⟩, 18) := ⟨⟨by decide +kernel, by decide +kernel⟩, List.mem_of_getElem? (i := 601) (by decide +kernel), List.mem_of_getElem? (i := 690) (by decide +kernel), List.mem_of_getElem? (i := 691) (by decide +kernel)⟩
theorem lw_p6 : lw_okq (⟨"FavourRingsModel", "sumOf", "(II)I"⟩, 18) := ⟨⟨by decide +kernel, by decide +kernel⟩, List.mem_of_getElem? (i := 601) (by decide +kernel), List.mem_of_getElem? (i := 694) (by decide +kernel), List.mem_of_getElem? (i := 695) (by decide +kernel)⟩
theorem lw_p7 : lw_okq (⟨"FavourRingsModel", "of", "(II)I"⟩, 18) := ⟨⟨by decide +kernel, by decide +kernel⟩, List.mem_of_getElem? (i := 601) (by decide +kernel), List.mem_of_getElem? (i := 698) (by decide +kernel), List.mem_of_getElem? (i := 699) (by decide +kernel)⟩
theorem lw_p8 : lw_okq (⟨"FavourRingsModel", "lay", "(III)V"⟩, 18) := ⟨⟨by decide +kernel, by decide +kernel⟩, List.mem_of_getElem? (i := 601) (by decide +kernel), List.mem_of_getElem? (i := 706) (by decide +kernel), List.mem_of_getElem? (i := 707) (by decide +kernel)⟩
theorem lw_p9 : lw_okq (⟨"FavourRingsModel", "shifts", "(III)V"⟩, 18) := ⟨⟨by decide +kernel, by decide +kernel⟩, List.mem_of_getElem? (i := 601) (by decide +kernel), List.mem_of_getElem? (i := 710) (by decide +kernel), List.mem_of_getElem? (i := 711) (by decide +kernel)⟩
theorem lw_p10 : lw_okq (⟨"FavourRingsModel", "owed", "(III)I"⟩, 18) := ⟨⟨by decide +kernel, by decide +kernel⟩, List.mem_of_getElem? (i := 601) (by decide +kernel), List.mem_of_getElem? (i := 714) (by decide +kernel), List.mem_of_getElem? (i := 715) (by decide +kernel)⟩
theorem lw_p11 : lw_okq (⟨"FavourRingsModel", "takes", "(IIII)V"⟩, 18) := ⟨⟨by decide +kernel, by decide +kernel⟩, List.mem_of_getElem? (i := 601) (by decide +kernel), List.mem_of_getElem? (i := 722) (by decide +kernel), List.mem_of_getElem? (i := 723) (by decide +kernel)⟩
theorem lw_p12 : lw_okq (⟨"FavourRingsModel", "oldest", "(III)I"⟩, 18) := ⟨⟨by decide +kernel, by decide +kernel⟩, List.mem_of_getElem? (i := 601) (by decide +kernel), List.mem_of_getElem? (i := 726) (by decide +kernel), List.mem_of_getElem? (i := 727) (by decide +kernel)⟩
theorem lw_p13 : lw_okq (⟨"FavourRingsModel", "dropsEmpty", "()V"⟩, 18) := ⟨⟨by decide +kernel, by decide +kernel⟩, List.mem_of_getElem? (i := 601) (by decide +kernel), List.mem_of_getElem? (i := 731) (by decide +kernel), List.mem_of_getElem? (i := 732) (by decide +kernel)⟩
theorem lw_p14 : lw_okq (⟨"FavourRingsModel", "week", "()I"⟩, 18) := ⟨⟨by decide +kernel, by decide +kernel⟩, List.mem_of_getElem? (i := 601) (by decide +kernel), List.mem_of_getElem? (i := 743) (by decide +kernel), List.mem_of_getElem? (i := 744) (by decide +kernel)⟩
theorem lw_p15 : lw_okq (⟨"FavourRingsModel", "ends", "(I)I"⟩, 18) := ⟨⟨by decide +kernel, by decide +kernel⟩, List.mem_of_getElem? (i := 601) (by decide +kernel), List.mem_of_getElem? (i := 747) (by decide +kernel), List.mem_of_getElem? (i := 748) (by decide +kernel)⟩
def lw_privs_1 : List (MethodName × Nat) := [(⟨"FavourRings", "freshTrial", "()LFavourRings$Bank;"⟩, 5), (⟨"FavourRings", "settled", "(I)I"⟩, 5), (⟨"FavourRingsModel", "changes", "()V"⟩, 18), (⟨"FavourRingsModel", "isPair", "(II)Z"⟩, 18), (⟨"FavourRingsModel", "isPupil", "(I)Z"⟩, 18), (⟨"FavourRingsModel", "barred", "(II)I"⟩, 18), (⟨"FavourRingsModel", "sumOf", "(II)I"⟩, 18), (⟨"FavourRingsModel", "of", "(II)I"⟩, 18), (⟨"FavourRingsModel", "lay", "(III)V"⟩, 18), (⟨"FavourRingsModel", "shifts", "(III)V"⟩, 18), (⟨"FavourRingsModel", "owed", "(III)I"⟩, 18), (⟨"FavourRingsModel", "takes", "(IIII)V"⟩, 18), (⟨"FavourRingsModel", "oldest", "(III)I"⟩, 18), (⟨"FavourRingsModel", "dropsEmpty", "()V"⟩, 18), (⟨"FavourRingsModel", "week", "()I"⟩, 18), (⟨"FavourRingsModel", "ends", "(I)I"⟩, 18)]
theorem lw_r1 : ∀ q ∈ lw_privs_1, lw_okq q := List.forall_mem_cons.mpr ⟨lw_p0, List.forall_mem_cons.mpr ⟨lw_p1, List.forall_mem_cons.mpr ⟨lw_p2, List.forall_mem_cons.mpr ⟨lw_p3, List.forall_mem_cons.mpr ⟨lw_p4, List.forall_mem_cons.mpr ⟨lw_p5, List.forall_mem_cons.mpr ⟨lw_p6, List.forall_mem_cons.mpr ⟨lw_p7, List.forall_mem_cons.mpr ⟨lw_p8, List.forall_mem_cons.mpr ⟨lw_p9, List.forall_mem_cons.mpr ⟨lw_p10, List.forall_mem_cons.mpr ⟨lw_p11, List.forall_mem_cons.mpr ⟨lw_p12, List.forall_mem_cons.mpr ⟨lw_p13, List.forall_mem_cons.mpr ⟨lw_p14, List.forall_mem_cons.mpr ⟨lw_p15, fun _ h => absurd h List.not_mem_nil⟩⟩⟩⟩⟩⟩⟩⟩⟩⟩⟩⟩⟩⟩⟩⟩
theorem lw_p16 : lw_okq (⟨"FavourRingsModel", "clears", "(I)I"⟩, 18) := ⟨⟨by decide +kernel, by decide +kernel⟩, List.mem_of_getElem? (i := 601) (by decide +kernel), List.mem_of_getElem? (i := 759) (by decide +kernel), List.mem_of_getElem? (i := 760) (by decide +kernel)⟩
theorem lw_p17 : lw_okq (⟨"FavourRingsModel", "rings", "(I)I"⟩, 18) := ⟨⟨by decide +kernel, by decide +kernel⟩, List.mem_of_getElem? (i := 601) (by decide +kernel), List.mem_of_getElem? (i := 763) (by decide +kernel), List.mem_of_getElem? (i := 764) (by decide +kernel)⟩
theorem lw_p18 : lw_okq (⟨"FavourRingsModel", "looks", "(I)V"⟩, 18) := ⟨⟨by decide +kernel, by decide +kernel⟩, List.mem_of_getElem? (i := 601) (by decide +kernel), List.mem_of_getElem? (i := 767) (by decide +kernel), List.mem_of_getElem? (i := 768) (by decide +kernel)⟩
theorem lw_p19 : lw_okq (⟨"FavourRingsModel", "isBack", "(II)Z"⟩, 18) := ⟨⟨by decide +kernel, by decide +kernel⟩, List.mem_of_getElem? (i := 601) (by decide +kernel), List.mem_of_getElem? (i := 771) (by decide +kernel), List.mem_of_getElem? (i := 772) (by decide +kernel)⟩
theorem lw_p20 : lw_okq (⟨"FavourRingsModel", "amountOf", "(II)I"⟩, 18) := ⟨⟨by decide +kernel, by decide +kernel⟩, List.mem_of_getElem? (i := 601) (by decide +kernel), List.mem_of_getElem? (i := 778) (by decide +kernel), List.mem_of_getElem? (i := 779) (by decide +kernel)⟩
theorem lw_p21 : lw_okq (⟨"FavourRingsModel", "balance", "(I)I"⟩, 18) := ⟨⟨by decide +kernel, by decide +kernel⟩, List.mem_of_getElem? (i := 601) (by decide +kernel), List.mem_of_getElem? (i := 790) (by decide +kernel), List.mem_of_getElem? (i := 791) (by decide +kernel)⟩
theorem lw_p22 : lw_okq (⟨"FavourRingsModel", "owedInAll", "()I"⟩, 18) := ⟨⟨by decide +kernel, by decide +kernel⟩, List.mem_of_getElem? (i := 601) (by decide +kernel), List.mem_of_getElem? (i := 841) (by decide +kernel), List.mem_of_getElem? (i := 842) (by decide +kernel)⟩
theorem lw_p23 : lw_okq (⟨"FavourRingsModel", "alone", "()I"⟩, 18) := ⟨⟨by decide +kernel, by decide +kernel⟩, List.mem_of_getElem? (i := 601) (by decide +kernel), List.mem_of_getElem? (i := 859) (by decide +kernel), List.mem_of_getElem? (i := 860) (by decide +kernel)⟩
theorem lw_p24 : lw_okq (⟨"FavourRingsModel", "plays", "()Z"⟩, 18) := ⟨⟨by decide +kernel, by decide +kernel⟩, List.mem_of_getElem? (i := 601) (by decide +kernel), List.mem_of_getElem? (i := 879) (by decide +kernel), List.mem_of_getElem? (i := 880) (by decide +kernel)⟩
theorem lw_p25 : lw_okq (⟨"FavourRingsModel", "parses", "()Z"⟩, 18) := ⟨⟨by decide +kernel, by decide +kernel⟩, List.mem_of_getElem? (i := 601) (by decide +kernel), List.mem_of_getElem? (i := 883) (by decide +kernel), List.mem_of_getElem? (i := 884) (by decide +kernel)⟩
theorem lw_p26 : lw_okq (⟨"FavourRingsModel", "isAt", "(II)Z"⟩, 18) := ⟨⟨by decide +kernel, by decide +kernel⟩, List.mem_of_getElem? (i := 601) (by decide +kernel), List.mem_of_getElem? (i := 887) (by decide +kernel), List.mem_of_getElem? (i := 888) (by decide +kernel)⟩
theorem lw_p27 : lw_okq (⟨"FavourRingsModel", "numbered", "(I)Z"⟩, 18) := ⟨⟨by decide +kernel, by decide +kernel⟩, List.mem_of_getElem? (i := 601) (by decide +kernel), List.mem_of_getElem? (i := 894) (by decide +kernel), List.mem_of_getElem? (i := 895) (by decide +kernel)⟩
theorem lw_p28 : lw_okq (⟨"FavourRingsModel", "sign", "(I)Z"⟩, 18) := ⟨⟨by decide +kernel, by decide +kernel⟩, List.mem_of_getElem? (i := 601) (by decide +kernel), List.mem_of_getElem? (i := 898) (by decide +kernel), List.mem_of_getElem? (i := 899) (by decide +kernel)⟩
theorem lw_p29 : lw_okq (⟨"FavourRingsModel", "does", "()I"⟩, 18) := ⟨⟨by decide +kernel, by decide +kernel⟩, List.mem_of_getElem? (i := 601) (by decide +kernel), List.mem_of_getElem? (i := 902) (by decide +kernel), List.mem_of_getElem? (i := 903) (by decide +kernel)⟩
def lw_privs_2 : List (MethodName × Nat) := [(⟨"FavourRingsModel", "clears", "(I)I"⟩, 18), (⟨"FavourRingsModel", "rings", "(I)I"⟩, 18), (⟨"FavourRingsModel", "looks", "(I)V"⟩, 18), (⟨"FavourRingsModel", "isBack", "(II)Z"⟩, 18), (⟨"FavourRingsModel", "amountOf", "(II)I"⟩, 18), (⟨"FavourRingsModel", "balance", "(I)I"⟩, 18), (⟨"FavourRingsModel", "owedInAll", "()I"⟩, 18), (⟨"FavourRingsModel", "alone", "()I"⟩, 18), (⟨"FavourRingsModel", "plays", "()Z"⟩, 18), (⟨"FavourRingsModel", "parses", "()Z"⟩, 18), (⟨"FavourRingsModel", "isAt", "(II)Z"⟩, 18), (⟨"FavourRingsModel", "numbered", "(I)Z"⟩, 18), (⟨"FavourRingsModel", "sign", "(I)Z"⟩, 18), (⟨"FavourRingsModel", "does", "()I"⟩, 18)]
theorem lw_r2 : ∀ q ∈ lw_privs_2, lw_okq q := List.forall_mem_cons.mpr ⟨lw_p16, List.forall_mem_cons.mpr ⟨lw_p17, List.forall_mem_cons.mpr ⟨lw_p18, List.forall_mem_cons.mpr ⟨lw_p19, List.forall_mem_cons.mpr ⟨lw_p20, List.forall_mem_cons.mpr ⟨lw_p21, List.forall_mem_cons.mpr ⟨lw_p22, List.forall_mem_cons.mpr ⟨lw_p23, List.forall_mem_cons.mpr ⟨lw_p24, List.forall_mem_cons.mpr ⟨lw_p25, List.forall_mem_cons.mpr ⟨lw_p26, List.forall_mem_cons.mpr ⟨lw_p27, List.forall_mem_cons.mpr ⟨lw_p28, List.forall_mem_cons.mpr ⟨lw_p29, fun _ h => absurd h List.not_mem_nil⟩⟩⟩⟩⟩⟩⟩⟩⟩⟩⟩⟩⟩⟩
def lw_privs : List (MethodName × Nat) := lw_privs_1 ++ (lw_privs_2)
def lw_tbl : List Cond := k2_sels lw_privs ++ tables_1
theorem lw_privs_ok : ∀ q ∈ lw_privs, lw_okq q := by
  show ∀ q ∈ lw_privs_1 ++ (lw_privs_2), lw_okq q
  exact List.forall_mem_append.mpr ⟨lw_r1, lw_r2⟩
/-- the streams that the claim lets the run draw from -/
abbrev lw_cs : List Choice := [Jvm.Choice.named "NaN.bits"]
theorem lw_bits : nanBits ∈ lw_cs := by first | decide | exact List.mem_cons_self | simp [lw_cs, nanBits]
-- ===== end of PART A; then your names; then what follows =====
end
section
/-! ===== BEGIN words of one list among another's, by their places ===== -/
theorem goodIn_r {big : List Cond} (ws : List Cond) (ps : List Nat) (hp : ws = ps.filterMap (fun i => big[i]?)) (h : ws.all goodWord = true) : GoodIn big ws := by
  intro w hw
  have h1 := List.all_eq_true.mp h w hw
  rw [hp] at hw
  obtain ⟨i, -, hi⟩ := List.mem_filterMap.mp hw
  have hm : w ∈ big := by first | exact List.mem_of_getElem? hi | exact List.getElem?_mem hi
  exact ⟨hm, good_of_word h1⟩
theorem goodIn_app {big a b : List Cond} (ha : GoodIn big a) (hb : GoodIn big b) : GoodIn big (a ++ b) := fun w h => (List.mem_append.mp h).elim (ha w) (hb w)
theorem goodIn_ca {big a b : List Cond} {c : Cond} (ha : GoodIn big (c :: a)) (hb : GoodIn big b) : GoodIn big (c :: (a ++ b)) := fun w h => (List.mem_cons.mp h).elim (fun e => ha w (List.mem_cons.mpr (Or.inl e))) (fun h => (List.mem_append.mp h).elim (fun h => ha w (List.mem_cons.mpr (Or.inr h))) (hb w))
theorem goodIn_sub {big ws : List Cond} (hm : ∀ w ∈ ws, w ∈ big) (h : ws.all goodWord = true) : GoodIn big ws := fun w hw => ⟨hm w hw, good_of_word (List.all_eq_true.mp h w hw)⟩
/-! ===== END ===== -/

/-! ===== BEGIN printed: names, fields, word lists, decode rows ===== -/
def RX0 : String := "FavourRings$Bank"
def TX0 : u_T := fun k => match k with
  | 0 => ("FavourRings$Bank", "numbers", "[I", true)
  | 1 => ("FavourRings$Bank", "came", "[I", true)
  | 2 => ("FavourRings$Bank", "done", "[I", true)
  | 3 => ("FavourRings$Bank", "spoiled", "[I", true)
  | 4 => ("FavourRings$Bank", "guarantors", "[I", true)
  | 5 => ("FavourRings$Bank", "takenOver", "[I", true)
  | 6 => ("FavourRings$Bank", "cleared", "[I", true)
  | 7 => ("FavourRings$Bank", "debtors", "[I", true)
  | 8 => ("FavourRings$Bank", "creditors", "[I", true)
  | 9 => ("FavourRings$Bank", "kinds", "[I", true)
  | 10 => ("FavourRings$Bank", "sizes", "[I", true)
  | 11 => ("FavourRings$Bank", "ages", "[I", true)
  | _ => ("FavourRings$Bank", "passed", "[I", true)
def tyX0 : Nat → FieldType := fun k => match k with
  | 0 => .array .int
  | 1 => .array .int
  | 2 => .array .int
  | 3 => .array .int
  | 4 => .array .int
  | 5 => .array .int
  | 6 => .array .int
  | 7 => .array .int
  | 8 => .array .int
  | 9 => .array .int
  | 10 => .array .int
  | 11 => .array .int
  | _ => .array .int
abbrev wsX00 : List Cond := u_ws RX0 TX0 13
theorem nmX0 : ∀ a, a < 13 → ∀ b, b < 13 → a ≠ b → (TX0 a).2.1 ≠ (TX0 b).2.1 := by decide +kernel
theorem tyX0_ok : ∀ k, k < 13 → parseFieldDescriptor (TX0 k).2.2.1 = some (tyX0 k) := by decide +kernel
abbrev cX0_init : ByteArray := prog_2_method_1_code
def yX0_init : MethodName := ⟨RX0, "<init>", "()V"⟩
abbrev cX0_copyFrom : ByteArray := prog_2_method_2_code
def yX0_copyFrom : MethodName := ⟨RX0, "copyFrom", "(LFavourRings$Bank;)V"⟩
abbrev cX0_number : ByteArray := prog_2_method_3_code
def yX0_number : MethodName := ⟨RX0, "number", "(I)I"⟩
abbrev cX0_hasHolidays : ByteArray := prog_2_method_4_code
def yX0_hasHolidays : MethodName := ⟨RX0, "hasHolidays", "()Z"⟩
abbrev cX0_isPupil : ByteArray := prog_2_method_5_code
def yX0_isPupil : MethodName := ⟨RX0, "isPupil", "(I)Z"⟩
abbrev cX0_isPair : ByteArray := prog_2_method_6_code
def yX0_isPair : MethodName := ⟨RX0, "isPair", "(II)Z"⟩
abbrev cX0_guarantorOf : ByteArray := prog_2_method_7_code
def yX0_guarantorOf : MethodName := ⟨RX0, "guarantorOf", "(I)I"⟩
abbrev cX0_tellOfPupil : ByteArray := prog_2_method_8_code
def yX0_tellOfPupil : MethodName := ⟨RX0, "tellOfPupil", "(II)I"⟩
abbrev cX0_setWithoutGuarantor : ByteArray := prog_2_method_9_code
def yX0_setWithoutGuarantor : MethodName := ⟨RX0, "setWithoutGuarantor", "()I"⟩
abbrev cX0_addPupil : ByteArray := prog_2_method_10_code
def yX0_addPupil : MethodName := ⟨RX0, "addPupil", "()I"⟩
abbrev cX0_giveGuarantor : ByteArray := prog_2_method_11_code
def yX0_giveGuarantor : MethodName := ⟨RX0, "giveGuarantor", "(II)I"⟩
abbrev cX0_balanceByLots : ByteArray := prog_2_method_12_code
def yX0_balanceByLots : MethodName := ⟨RX0, "balanceByLots", "(I)I"⟩
abbrev cX0_rankOf : ByteArray := prog_2_method_13_code
def yX0_rankOf : MethodName := ⟨RX0, "rankOf", "(I)I"⟩
abbrev cX0_tellOfLot : ByteArray := prog_2_method_14_code
def yX0_tellOfLot : MethodName := ⟨RX0, "tellOfLot", "(II)I"⟩
abbrev cX0_isLotOf : ByteArray := prog_2_method_15_code
def yX0_isLotOf : MethodName := ⟨RX0, "isLotOf", "(IIII)Z"⟩
abbrev cX0_sumOwed : ByteArray := prog_2_method_16_code
def yX0_sumOwed : MethodName := ⟨RX0, "sumOwed", "(III)I"⟩
abbrev cX0_sumOfAges : ByteArray := prog_2_method_17_code
def yX0_sumOfAges : MethodName := ⟨RX0, "sumOfAges", "()I"⟩
abbrev cX0_weeksLeft : ByteArray := prog_2_method_18_code
def yX0_weeksLeft : MethodName := ⟨RX0, "weeksLeft", "(I)I"⟩
abbrev cX0_weeksUntilNextSpoils : ByteArray := prog_2_method_19_code
def yX0_weeksUntilNextSpoils : MethodName := ⟨RX0, "weeksUntilNextSpoils", "(I)I"⟩
abbrev cX0_addLot : ByteArray := prog_2_method_20_code
def yX0_addLot : MethodName := ⟨RX0, "addLot", "(IIII)V"⟩
abbrev cX0_dropEmptyLots : ByteArray := prog_2_method_21_code
def yX0_dropEmptyLots : MethodName := ⟨RX0, "dropEmptyLots", "()V"⟩
abbrev cX0_firstToTake : ByteArray := prog_2_method_22_code
def yX0_firstToTake : MethodName := ⟨RX0, "firstToTake", "(III)I"⟩
abbrev cX0_takeFavours : ByteArray := prog_2_method_23_code
def yX0_takeFavours : MethodName := ⟨RX0, "takeFavours", "(IIII)V"⟩
abbrev cX0_reasonAgainst : ByteArray := prog_2_method_24_code
def yX0_reasonAgainst : MethodName := ⟨RX0, "reasonAgainst", "(II)I"⟩
abbrev cX0_lendFavours : ByteArray := prog_2_method_25_code
def yX0_lendFavours : MethodName := ⟨RX0, "lendFavours", "(IIII)I"⟩
abbrev cX0_fulfilFavours : ByteArray := prog_2_method_26_code
def yX0_fulfilFavours : MethodName := ⟨RX0, "fulfilFavours", "(IIII)I"⟩
abbrev cX0_countCleared : ByteArray := prog_2_method_27_code
def yX0_countCleared : MethodName := ⟨RX0, "countCleared", "(II)V"⟩
abbrev cX0_countRing : ByteArray := prog_2_method_28_code
def yX0_countRing : MethodName := ⟨RX0, "countRing", "()V"⟩
abbrev cX0_endWeeks : ByteArray := prog_2_method_29_code
def yX0_endWeeks : MethodName := ⟨RX0, "endWeeks", "(I)I"⟩
abbrev cX0_endWeek : ByteArray := prog_2_method_30_code
def yX0_endWeek : MethodName := ⟨RX0, "endWeek", "()V"⟩
abbrev cX0_passToGuarantor : ByteArray := prog_2_method_31_code
def yX0_passToGuarantor : MethodName := ⟨RX0, "passToGuarantor", "(I)Z"⟩
abbrev cX0_spoilLot : ByteArray := prog_2_method_32_code
def yX0_spoilLot : MethodName := ⟨RX0, "spoilLot", "(I)V"⟩
abbrev cX0_turnHolidays : ByteArray := prog_2_method_33_code
def yX0_turnHolidays : MethodName := ⟨RX0, "turnHolidays", "(Z)I"⟩
abbrev cX0_changeSetting : ByteArray := prog_2_method_34_code
def yX0_changeSetting : MethodName := ⟨RX0, "changeSetting", "(II)I"⟩
def RX1 : String := "FavourRings$History"
def TX1 : u_T := fun k => match k with
  | 0 => ("FavourRings$History", "states", "[LFavourRings$Bank;", true)
  | _ => ("FavourRings$History", "size", "I", false)
def tyX1 : Nat → FieldType := fun k => match k with
  | 0 => .array (.object "FavourRings$Bank")
  | _ => .int
abbrev wsX10 : List Cond := u_ws RX1 TX1 2
theorem nmX1 : ∀ a, a < 2 → ∀ b, b < 2 → a ≠ b → (TX1 a).2.1 ≠ (TX1 b).2.1 := by decide +kernel
theorem tyX1_ok : ∀ k, k < 2 → parseFieldDescriptor (TX1 k).2.2.1 = some (tyX1 k) := by decide +kernel
abbrev cX1_init : ByteArray := prog_3_method_1_code
def yX1_init : MethodName := ⟨RX1, "<init>", "()V"⟩
abbrev cX1_size : ByteArray := prog_3_method_2_code
def yX1_size : MethodName := ⟨RX1, "size", "()I"⟩
abbrev cX1_keep : ByteArray := prog_3_method_3_code
def yX1_keep : MethodName := ⟨RX1, "keep", "(LFavourRings$Bank;)V"⟩
abbrev cX1_dropOldest : ByteArray := prog_3_method_4_code
def yX1_dropOldest : MethodName := ⟨RX1, "dropOldest", "()V"⟩
abbrev cX1_restoreLatest : ByteArray := prog_3_method_5_code
def yX1_restoreLatest : MethodName := ⟨RX1, "restoreLatest", "(LFavourRings$Bank;)I"⟩
def RX2 : String := "FavourRings$Orders"
def TX2 : u_T := fun k => match k with
  | 0 => ("FavourRings$Orders", "text", "[I", true)
  | 1 => ("FavourRings$Orders", "numbers", "[I", true)
  | 2 => ("FavourRings$Orders", "length", "I", false)
  | 3 => ("FavourRings$Orders", "place", "I", false)
  | 4 => ("FavourRings$Orders", "done", "I", false)
  | 5 => ("FavourRings$Orders", "faultPlace", "I", false)
  | 6 => ("FavourRings$Orders", "faultReason", "I", false)
  | _ => ("FavourRings$Orders", "faultCause", "I", false)
def tyX2 : Nat → FieldType := fun k => match k with
  | 0 => .array .int
  | 1 => .array .int
  | 2 => .int
  | 3 => .int
  | 4 => .int
  | 5 => .int
  | 6 => .int
  | _ => .int
abbrev wsX20 : List Cond := u_ws RX2 TX2 8
theorem nmX2 : ∀ a, a < 8 → ∀ b, b < 8 → a ≠ b → (TX2 a).2.1 ≠ (TX2 b).2.1 := by decide +kernel
theorem tyX2_ok : ∀ k, k < 8 → parseFieldDescriptor (TX2 k).2.2.1 = some (tyX2 k) := by decide +kernel
abbrev cX2_init : ByteArray := prog_4_method_1_code
def yX2_init : MethodName := ⟨RX2, "<init>", "()V"⟩
abbrev cX2_length : ByteArray := prog_4_method_2_code
def yX2_length : MethodName := ⟨RX2, "length", "()I"⟩
abbrev cX2_ordersDone : ByteArray := prog_4_method_3_code
def yX2_ordersDone : MethodName := ⟨RX2, "ordersDone", "()I"⟩
abbrev cX2_faultPlace : ByteArray := prog_4_method_4_code
def yX2_faultPlace : MethodName := ⟨RX2, "faultPlace", "()I"⟩
abbrev cX2_faultReason : ByteArray := prog_4_method_5_code
def yX2_faultReason : MethodName := ⟨RX2, "faultReason", "()I"⟩
abbrev cX2_faultCause : ByteArray := prog_4_method_6_code
def yX2_faultCause : MethodName := ⟨RX2, "faultCause", "()I"⟩
abbrev cX2_append : ByteArray := prog_4_method_7_code
def yX2_append : MethodName := ⟨RX2, "append", "(I)I"⟩
abbrev cX2_empty : ByteArray := prog_4_method_8_code
def yX2_empty : MethodName := ⟨RX2, "empty", "()I"⟩
abbrev cX2_doAll : ByteArray := prog_4_method_9_code
def yX2_doAll : MethodName := ⟨RX2, "doAll", "(LFavourRings$Bank;LFavourRings$Rings;)Z"⟩
abbrev cX2_noteFault : ByteArray := prog_4_method_10_code
def yX2_noteFault : MethodName := ⟨RX2, "noteFault", "(III)Z"⟩
abbrev cX2_doOrder : ByteArray := prog_4_method_11_code
def yX2_doOrder : MethodName := ⟨RX2, "doOrder", "(LFavourRings$Bank;LFavourRings$Rings;I)I"⟩
abbrev cX2_readOrder : ByteArray := prog_4_method_12_code
def yX2_readOrder : MethodName := ⟨RX2, "readOrder", "(I)Z"⟩
abbrev cX2_numbersAfter : ByteArray := prog_4_method_13_code
def yX2_numbersAfter : MethodName := ⟨RX2, "numbersAfter", "(I)I"⟩
abbrev cX2_readNumber : ByteArray := prog_4_method_14_code
def yX2_readNumber : MethodName := ⟨RX2, "readNumber", "(I)Z"⟩
abbrev cX2_passSign : ByteArray := prog_4_method_15_code
def yX2_passSign : MethodName := ⟨RX2, "passSign", "(I)Z"⟩
abbrev cX2_signAt : ByteArray := prog_4_method_16_code
def yX2_signAt : MethodName := ⟨RX2, "signAt", "(I)I"⟩
abbrev cX2_isDigit : ByteArray := prog_4_method_17_code
def yX2_isDigit : MethodName := ⟨RX2, "isDigit", "(I)Z"⟩
def RX3 : String := "FavourRings$Rings"
def TX3 : u_T := fun k => match k with
  | 0 => ("FavourRings$Rings", "owed", "[I", true)
  | 1 => ("FavourRings$Rings", "steps", "[I", true)
  | 2 => ("FavourRings$Rings", "queue", "[I", true)
  | 3 => ("FavourRings$Rings", "members", "[I", true)
  | _ => ("FavourRings$Rings", "length", "I", false)
def tyX3 : Nat → FieldType := fun k => match k with
  | 0 => .array .int
  | 1 => .array .int
  | 2 => .array .int
  | 3 => .array .int
  | _ => .int
abbrev wsX30 : List Cond := u_ws RX3 TX3 5
theorem nmX3 : ∀ a, a < 5 → ∀ b, b < 5 → a ≠ b → (TX3 a).2.1 ≠ (TX3 b).2.1 := by decide +kernel
theorem tyX3_ok : ∀ k, k < 5 → parseFieldDescriptor (TX3 k).2.2.1 = some (tyX3 k) := by decide +kernel
abbrev cX3_init : ByteArray := prog_5_method_1_code
def yX3_init : MethodName := ⟨RX3, "<init>", "()V"⟩
abbrev cX3_nextLength : ByteArray := prog_5_method_2_code
def yX3_nextLength : MethodName := ⟨RX3, "nextLength", "()I"⟩
abbrev cX3_nextPupil : ByteArray := prog_5_method_3_code
def yX3_nextPupil : MethodName := ⟨RX3, "nextPupil", "(I)I"⟩
abbrev cX3_nextAmount : ByteArray := prog_5_method_4_code
def yX3_nextAmount : MethodName := ⟨RX3, "nextAmount", "()I"⟩
abbrev cX3_stepsBetween : ByteArray := prog_5_method_5_code
def yX3_stepsBetween : MethodName := ⟨RX3, "stepsBetween", "(LFavourRings$Bank;III)I"⟩
abbrev cX3_clearKind : ByteArray := prog_5_method_6_code
def yX3_clearKind : MethodName := ⟨RX3, "clearKind", "(LFavourRings$Bank;I)I"⟩
abbrev cX3_findNext : ByteArray := prog_5_method_7_code
def yX3_findNext : MethodName := ⟨RX3, "findNext", "(LFavourRings$Bank;I)Z"⟩
abbrev cX3_readOwed : ByteArray := prog_5_method_8_code
def yX3_readOwed : MethodName := ⟨RX3, "readOwed", "(LFavourRings$Bank;I)V"⟩
abbrev cX3_owedBetween : ByteArray := prog_5_method_9_code
def yX3_owedBetween : MethodName := ⟨RX3, "owedBetween", "(II)I"⟩
abbrev cX3_measureSteps : ByteArray := prog_5_method_10_code
def yX3_measureSteps : MethodName := ⟨RX3, "measureSteps", "(II)V"⟩
abbrev cX3_shortestFrom : ByteArray := prog_5_method_11_code
def yX3_shortestFrom : MethodName := ⟨RX3, "shortestFrom", "(I)I"⟩
abbrev cX3_lowestBehind : ByteArray := prog_5_method_12_code
def yX3_lowestBehind : MethodName := ⟨RX3, "lowestBehind", "(II)I"⟩
abbrev cX3_pupilBehind : ByteArray := prog_5_method_13_code
def yX3_pupilBehind : MethodName := ⟨RX3, "pupilBehind", "(I)I"⟩
def RX4 : String := "FavourRings"
def TX4 : u_T := fun k => match k with
  | 0 => ("FavourRings", "bank", "LFavourRings$Bank;", true)
  | 1 => ("FavourRings", "trial", "LFavourRings$Bank;", true)
  | 2 => ("FavourRings", "history", "LFavourRings$History;", true)
  | 3 => ("FavourRings", "rings", "LFavourRings$Rings;", true)
  | _ => ("FavourRings", "orders", "LFavourRings$Orders;", true)
def tyX4 : Nat → FieldType := fun k => match k with
  | 0 => .object "FavourRings$Bank"
  | 1 => .object "FavourRings$Bank"
  | 2 => .object "FavourRings$History"
  | 3 => .object "FavourRings$Rings"
  | _ => .object "FavourRings$Orders"
abbrev wsX40 : List Cond := u_ws RX4 TX4 5
theorem nmX4 : ∀ a, a < 5 → ∀ b, b < 5 → a ≠ b → (TX4 a).2.1 ≠ (TX4 b).2.1 := by decide +kernel
theorem tyX4_ok : ∀ k, k < 5 → parseFieldDescriptor (TX4 k).2.2.1 = some (tyX4 k) := by decide +kernel
abbrev cX4_init : ByteArray := prog_1_method_1_code
def yX4_init : MethodName := ⟨RX4, "<init>", "()V"⟩
abbrev cX4_pupil : ByteArray := prog_1_method_2_code
def yX4_pupil : MethodName := ⟨RX4, "pupil", "()I"⟩
abbrev cX4_lend : ByteArray := prog_1_method_3_code
def yX4_lend : MethodName := ⟨RX4, "lend", "(IIII)I"⟩
abbrev cX4_fulfil : ByteArray := prog_1_method_4_code
def yX4_fulfil : MethodName := ⟨RX4, "fulfil", "(IIII)I"⟩
abbrev cX4_guarantee : ByteArray := prog_1_method_5_code
def yX4_guarantee : MethodName := ⟨RX4, "guarantee", "(II)I"⟩
abbrev cX4_weeks : ByteArray := prog_1_method_6_code
def yX4_weeks : MethodName := ⟨RX4, "weeks", "(I)I"⟩
abbrev cX4_holiday : ByteArray := prog_1_method_7_code
def yX4_holiday : MethodName := ⟨RX4, "holiday", "(Z)I"⟩
abbrev cX4_clear : ByteArray := prog_1_method_8_code
def yX4_clear : MethodName := ⟨RX4, "clear", "(I)I"⟩
abbrev cX4_set : ByteArray := prog_1_method_9_code
def yX4_set : MethodName := ⟨RX4, "set", "(II)I"⟩
abbrev cX4_pupilOf : ByteArray := prog_1_method_10_code
def yX4_pupilOf : MethodName := ⟨RX4, "pupilOf", "(II)I"⟩
abbrev cX4_owes : ByteArray := prog_1_method_11_code
def yX4_owes : MethodName := ⟨RX4, "owes", "(III)I"⟩
abbrev cX4_lot : ByteArray := prog_1_method_12_code
def yX4_lot : MethodName := ⟨RX4, "lot", "(II)I"⟩
abbrev cX4_why : ByteArray := prog_1_method_13_code
def yX4_why : MethodName := ⟨RX4, "why", "(II)I"⟩
abbrev cX4_ring : ByteArray := prog_1_method_14_code
def yX4_ring : MethodName := ⟨RX4, "ring", "(II)I"⟩
abbrev cX4_amount : ByteArray := prog_1_method_15_code
def yX4_amount : MethodName := ⟨RX4, "amount", "(I)I"⟩
abbrev cX4_ifCleared : ByteArray := prog_1_method_16_code
def yX4_ifCleared : MethodName := ⟨RX4, "ifCleared", "(II)I"⟩
abbrev cX4_chain : ByteArray := prog_1_method_17_code
def yX4_chain : MethodName := ⟨RX4, "chain", "(III)I"⟩
abbrev cX4_deepest : ByteArray := prog_1_method_18_code
def yX4_deepest : MethodName := ⟨RX4, "deepest", "(I)I"⟩
abbrev cX4_spoilsIn : ByteArray := prog_1_method_19_code
def yX4_spoilsIn : MethodName := ⟨RX4, "spoilsIn", "(I)I"⟩
abbrev cX4_richest : ByteArray := prog_1_method_20_code
def yX4_richest : MethodName := ⟨RX4, "richest", "(I)I"⟩
abbrev cX4_mean : ByteArray := prog_1_method_21_code
def yX4_mean : MethodName := ⟨RX4, "mean", "()I"⟩
abbrev cX4_count : ByteArray := prog_1_method_22_code
def yX4_count : MethodName := ⟨RX4, "count", "(I)I"⟩
abbrev cX4_undo : ByteArray := prog_1_method_23_code
def yX4_undo : MethodName := ⟨RX4, "undo", "()I"⟩
abbrev cX4_type : ByteArray := prog_1_method_24_code
def yX4_type : MethodName := ⟨RX4, "type", "(I)I"⟩
abbrev cX4_clearText : ByteArray := prog_1_method_25_code
def yX4_clearText : MethodName := ⟨RX4, "clearText", "()I"⟩
abbrev cX4_fault : ByteArray := prog_1_method_26_code
def yX4_fault : MethodName := ⟨RX4, "fault", "(I)I"⟩
abbrev cX4_play : ByteArray := prog_1_method_27_code
def yX4_play : MethodName := ⟨RX4, "play", "()I"⟩
abbrev cX4_freshTrial : ByteArray := prog_1_method_28_code
def yX4_freshTrial : MethodName := ⟨RX4, "freshTrial", "()LFavourRings$Bank;"⟩
abbrev cX4_settled : ByteArray := prog_1_method_29_code
def yX4_settled : MethodName := ⟨RX4, "settled", "(I)I"⟩
abbrev cX4_isKind : ByteArray := prog_1_method_30_code
def yX4_isKind : MethodName := ⟨RX4, "isKind", "(I)Z"⟩
abbrev cX4_isMany : ByteArray := prog_1_method_31_code
def yX4_isMany : MethodName := ⟨RX4, "isMany", "(I)Z"⟩
abbrev cX4_at : ByteArray := prog_1_method_32_code
def yX4_at : MethodName := ⟨RX4, "at", "([II)I"⟩
abbrev cX4_put : ByteArray := prog_1_method_33_code
def yX4_put : MethodName := ⟨RX4, "put", "([III)V"⟩
abbrev cX4_add : ByteArray := prog_1_method_34_code
def yX4_add : MethodName := ⟨RX4, "add", "([III)V"⟩
abbrev cX4_copyRow : ByteArray := prog_1_method_35_code
def yX4_copyRow : MethodName := ⟨RX4, "copyRow", "([I[I)V"⟩
abbrev cX4_firstOfSetting : ByteArray := prog_1_method_36_code
def yX4_firstOfSetting : MethodName := ⟨RX4, "firstOfSetting", "(I)I"⟩
abbrev cX4_mostOfSetting : ByteArray := prog_1_method_37_code
def yX4_mostOfSetting : MethodName := ⟨RX4, "mostOfSetting", "(I)I"⟩
abbrev cX4_bitsOf : ByteArray := prog_1_method_38_code
def yX4_bitsOf : MethodName := ⟨RX4, "bitsOf", "(F)I"⟩
def RX5 : String := "FavourRingsModel"
def TX5 : u_T := fun k => match k with
  | 0 => ("FavourRingsModel", "s", "[I", true)
  | 1 => ("FavourRingsModel", "past", "[I", true)
  | 2 => ("FavourRingsModel", "held", "[I", true)
  | 3 => ("FavourRingsModel", "spare", "[I", true)
  | 4 => ("FavourRingsModel", "pasts", "I", false)
  | 5 => ("FavourRingsModel", "runs", "Z", false)
  | 6 => ("FavourRingsModel", "text", "[I", true)
  | 7 => ("FavourRingsModel", "typed", "I", false)
  | 8 => ("FavourRingsModel", "to", "[I", true)
  | 9 => ("FavourRingsModel", "ways", "[I", true)
  | 10 => ("FavourRingsModel", "ring", "[I", true)
  | 11 => ("FavourRingsModel", "spot", "I", false)
  | 12 => ("FavourRingsModel", "from", "I", false)
  | 13 => ("FavourRingsModel", "reason", "I", false)
  | 14 => ("FavourRingsModel", "cause", "I", false)
  | 15 => ("FavourRingsModel", "orders", "I", false)
  | 16 => ("FavourRingsModel", "order", "I", false)
  | _ => ("FavourRingsModel", "numbers", "[I", true)
def tyX5 : Nat → FieldType := fun k => match k with
  | 0 => .array .int
  | 1 => .array .int
  | 2 => .array .int
  | 3 => .array .int
  | 4 => .int
  | 5 => .boolean
  | 6 => .array .int
  | 7 => .int
  | 8 => .array .int
  | 9 => .array .int
  | 10 => .array .int
  | 11 => .int
  | 12 => .int
  | 13 => .int
  | 14 => .int
  | 15 => .int
  | 16 => .int
  | _ => .array .int
abbrev wsX50 : List Cond := u_ws RX5 TX5 18
theorem nmX5 : ∀ a, a < 18 → ∀ b, b < 18 → a ≠ b → (TX5 a).2.1 ≠ (TX5 b).2.1 := by decide +kernel
theorem tyX5_ok : ∀ k, k < 18 → parseFieldDescriptor (TX5 k).2.2.1 = some (tyX5 k) := by decide +kernel
abbrev cX5_init : ByteArray := prog_7_method_1_code
def yX5_init : MethodName := ⟨RX5, "<init>", "()V"⟩
abbrev cX5_in : ByteArray := prog_7_method_3_code
def yX5_in : MethodName := ⟨RX5, "in", "(III)Z"⟩
abbrev cX5_copies : ByteArray := prog_7_method_4_code
def yX5_copies : MethodName := ⟨RX5, "copies", "([I[I)V"⟩
abbrev cX5_changes : ByteArray := prog_7_method_5_code
def yX5_changes : MethodName := ⟨RX5, "changes", "()V"⟩
abbrev cX5_of : ByteArray := prog_7_method_6_code
def yX5_of : MethodName := ⟨RX5, "of", "(II)I"⟩
abbrev cX5_lay : ByteArray := prog_7_method_7_code
def yX5_lay : MethodName := ⟨RX5, "lay", "(III)V"⟩
abbrev cX5_at : ByteArray := prog_7_method_8_code
def yX5_at : MethodName := ⟨RX5, "at", "(II)I"⟩
abbrev cX5_isPupil : ByteArray := prog_7_method_9_code
def yX5_isPupil : MethodName := ⟨RX5, "isPupil", "(I)Z"⟩
abbrev cX5_isKind : ByteArray := prog_7_method_10_code
def yX5_isKind : MethodName := ⟨RX5, "isKind", "(I)Z"⟩
abbrev cX5_isPair : ByteArray := prog_7_method_11_code
def yX5_isPair : MethodName := ⟨RX5, "isPair", "(II)Z"⟩
abbrev cX5_owed : ByteArray := prog_7_method_12_code
def yX5_owed : MethodName := ⟨RX5, "owed", "(III)I"⟩
abbrev cX5_sumOf : ByteArray := prog_7_method_13_code
def yX5_sumOf : MethodName := ⟨RX5, "sumOf", "(II)I"⟩
abbrev cX5_dropsEmpty : ByteArray := prog_7_method_14_code
def yX5_dropsEmpty : MethodName := ⟨RX5, "dropsEmpty", "()V"⟩
abbrev cX5_oldest : ByteArray := prog_7_method_15_code
def yX5_oldest : MethodName := ⟨RX5, "oldest", "(III)I"⟩
abbrev cX5_takes : ByteArray := prog_7_method_16_code
def yX5_takes : MethodName := ⟨RX5, "takes", "(IIII)V"⟩
abbrev cX5_shifts : ByteArray := prog_7_method_17_code
def yX5_shifts : MethodName := ⟨RX5, "shifts", "(III)V"⟩
abbrev cX5_pupil : ByteArray := prog_7_method_18_code
def yX5_pupil : MethodName := ⟨RX5, "pupil", "()I"⟩
abbrev cX5_barred : ByteArray := prog_7_method_19_code
def yX5_barred : MethodName := ⟨RX5, "barred", "(II)I"⟩
abbrev cX5_lend : ByteArray := prog_7_method_20_code
def yX5_lend : MethodName := ⟨RX5, "lend", "(IIII)I"⟩
abbrev cX5_fulfil : ByteArray := prog_7_method_21_code
def yX5_fulfil : MethodName := ⟨RX5, "fulfil", "(IIII)I"⟩
abbrev cX5_guarantee : ByteArray := prog_7_method_22_code
def yX5_guarantee : MethodName := ⟨RX5, "guarantee", "(II)I"⟩
abbrev cX5_ends : ByteArray := prog_7_method_23_code
def yX5_ends : MethodName := ⟨RX5, "ends", "(I)I"⟩
abbrev cX5_week : ByteArray := prog_7_method_24_code
def yX5_week : MethodName := ⟨RX5, "week", "()I"⟩
abbrev cX5_weeks : ByteArray := prog_7_method_25_code
def yX5_weeks : MethodName := ⟨RX5, "weeks", "(I)I"⟩
abbrev cX5_holiday : ByteArray := prog_7_method_26_code
def yX5_holiday : MethodName := ⟨RX5, "holiday", "(Z)I"⟩
abbrev cX5_looks : ByteArray := prog_7_method_27_code
def yX5_looks : MethodName := ⟨RX5, "looks", "(I)V"⟩
abbrev cX5_isBack : ByteArray := prog_7_method_28_code
def yX5_isBack : MethodName := ⟨RX5, "isBack", "(II)Z"⟩
abbrev cX5_lowest : ByteArray := prog_7_method_29_code
def yX5_lowest : MethodName := ⟨RX5, "lowest", "(I)I"⟩
abbrev cX5_rings : ByteArray := prog_7_method_30_code
def yX5_rings : MethodName := ⟨RX5, "rings", "(I)I"⟩
abbrev cX5_amountOf : ByteArray := prog_7_method_31_code
def yX5_amountOf : MethodName := ⟨RX5, "amountOf", "(II)I"⟩
abbrev cX5_clears : ByteArray := prog_7_method_32_code
def yX5_clears : MethodName := ⟨RX5, "clears", "(I)I"⟩
abbrev cX5_clear : ByteArray := prog_7_method_33_code
def yX5_clear : MethodName := ⟨RX5, "clear", "(I)I"⟩
abbrev cX5_set : ByteArray := prog_7_method_34_code
def yX5_set : MethodName := ⟨RX5, "set", "(II)I"⟩
abbrev cX5_balance : ByteArray := prog_7_method_35_code
def yX5_balance : MethodName := ⟨RX5, "balance", "(I)I"⟩
abbrev cX5_pupilOf : ByteArray := prog_7_method_36_code
def yX5_pupilOf : MethodName := ⟨RX5, "pupilOf", "(II)I"⟩
abbrev cX5_owes : ByteArray := prog_7_method_37_code
def yX5_owes : MethodName := ⟨RX5, "owes", "(III)I"⟩
abbrev cX5_lot : ByteArray := prog_7_method_38_code
def yX5_lot : MethodName := ⟨RX5, "lot", "(II)I"⟩
abbrev cX5_why : ByteArray := prog_7_method_39_code
def yX5_why : MethodName := ⟨RX5, "why", "(II)I"⟩
abbrev cX5_ring : ByteArray := prog_7_method_40_code
def yX5_ring : MethodName := ⟨RX5, "ring", "(II)I"⟩
abbrev cX5_amount : ByteArray := prog_7_method_41_code
def yX5_amount : MethodName := ⟨RX5, "amount", "(I)I"⟩
abbrev cX5_ifCleared : ByteArray := prog_7_method_42_code
def yX5_ifCleared : MethodName := ⟨RX5, "ifCleared", "(II)I"⟩
abbrev cX5_chain : ByteArray := prog_7_method_43_code
def yX5_chain : MethodName := ⟨RX5, "chain", "(III)I"⟩
abbrev cX5_deepest : ByteArray := prog_7_method_44_code
def yX5_deepest : MethodName := ⟨RX5, "deepest", "(I)I"⟩
abbrev cX5_spoilsIn : ByteArray := prog_7_method_45_code
def yX5_spoilsIn : MethodName := ⟨RX5, "spoilsIn", "(I)I"⟩
abbrev cX5_richest : ByteArray := prog_7_method_46_code
def yX5_richest : MethodName := ⟨RX5, "richest", "(I)I"⟩
abbrev cX5_owedInAll : ByteArray := prog_7_method_47_code
def yX5_owedInAll : MethodName := ⟨RX5, "owedInAll", "()I"⟩
abbrev cX5_mean : ByteArray := prog_7_method_48_code
def yX5_mean : MethodName := ⟨RX5, "mean", "()I"⟩
abbrev cX5_alone : ByteArray := prog_7_method_49_code
def yX5_alone : MethodName := ⟨RX5, "alone", "()I"⟩
abbrev cX5_count : ByteArray := prog_7_method_50_code
def yX5_count : MethodName := ⟨RX5, "count", "(I)I"⟩
abbrev cX5_undo : ByteArray := prog_7_method_51_code
def yX5_undo : MethodName := ⟨RX5, "undo", "()I"⟩
abbrev cX5_type : ByteArray := prog_7_method_52_code
def yX5_type : MethodName := ⟨RX5, "type", "(I)I"⟩
abbrev cX5_clearText : ByteArray := prog_7_method_53_code
def yX5_clearText : MethodName := ⟨RX5, "clearText", "()I"⟩
abbrev cX5_isAt : ByteArray := prog_7_method_54_code
def yX5_isAt : MethodName := ⟨RX5, "isAt", "(II)Z"⟩
abbrev cX5_sign : ByteArray := prog_7_method_55_code
def yX5_sign : MethodName := ⟨RX5, "sign", "(I)Z"⟩
abbrev cX5_numbered : ByteArray := prog_7_method_56_code
def yX5_numbered : MethodName := ⟨RX5, "numbered", "(I)Z"⟩
abbrev cX5_numbersOf : ByteArray := prog_7_method_57_code
def yX5_numbersOf : MethodName := ⟨RX5, "numbersOf", "(I)I"⟩
abbrev cX5_parses : ByteArray := prog_7_method_58_code
def yX5_parses : MethodName := ⟨RX5, "parses", "()Z"⟩
abbrev cX5_does : ByteArray := prog_7_method_59_code
def yX5_does : MethodName := ⟨RX5, "does", "()I"⟩
abbrev cX5_plays : ByteArray := prog_7_method_60_code
def yX5_plays : MethodName := ⟨RX5, "plays", "()Z"⟩
abbrev cX5_fault : ByteArray := prog_7_method_61_code
def yX5_fault : MethodName := ⟨RX5, "fault", "(I)I"⟩
abbrev cX5_play : ByteArray := prog_7_method_62_code
def yX5_play : MethodName := ⟨RX5, "play", "()I"⟩
def RJxf58ca : String := "java/lang/Float"
def TJxf58ca : u_T := fun k => match k with
  | _ => ("", "", "", false)
def tyJxf58ca : Nat → FieldType := fun k => match k with
  | _ => .int
abbrev wsJxf58ca0 : List Cond := u_ws RJxf58ca TJxf58ca 0
theorem nmJxf58ca : ∀ a, a < 0 → ∀ b, b < 0 → a ≠ b → (TJxf58ca a).2.1 ≠ (TJxf58ca b).2.1 := by decide +kernel
theorem tyJxf58ca_ok : ∀ k, k < 0 → parseFieldDescriptor (TJxf58ca k).2.2.1 = some (tyJxf58ca k) := by decide +kernel
abbrev cJxf58ca_isNaN_12338 : ByteArray := prog_8_method_6_code
def yJxf58ca_isNaN_12338 : MethodName := ⟨RJxf58ca, "isNaN", "(F)Z"⟩
abbrev cJxf58ca_floatToIntBits_5c35a : ByteArray := prog_8_method_24_code
def yJxf58ca_floatToIntBits_5c35a : MethodName := ⟨RJxf58ca, "floatToIntBits", "(F)I"⟩
def RJ9 : String := "java/lang/Math"
def TJ9 : u_T := fun k => match k with
  | _ => ("", "", "", false)
def tyJ9 : Nat → FieldType := fun k => match k with
  | _ => .int
abbrev wsJ90 : List Cond := u_ws RJ9 TJ9 0
theorem nmJ9 : ∀ a, a < 0 → ∀ b, b < 0 → a ≠ b → (TJ9 a).2.1 ≠ (TJ9 b).2.1 := by decide +kernel
theorem tyJ9_ok : ∀ k, k < 0 → parseFieldDescriptor (TJ9 k).2.2.1 = some (tyJ9 k) := by decide +kernel
abbrev cJ9_max_7cf53 : ByteArray := prog_9_method_65_code
def yJ9_max_7cf53 : MethodName := ⟨RJ9, "max", "(II)I"⟩
abbrev cJ9_min_7cf53 : ByteArray := prog_9_method_69_code
def yJ9_min_7cf53 : MethodName := ⟨RJ9, "min", "(II)I"⟩
def RJ10 : String := "java/lang/System"
def TJ10 : u_T := fun k => match k with
  | _ => ("", "", "", false)
def tyJ10 : Nat → FieldType := fun k => match k with
  | _ => .int
abbrev wsJ100 : List Cond := u_ws RJ10 TJ10 0
theorem nmJ10 : ∀ a, a < 0 → ∀ b, b < 0 → a ≠ b → (TJ10 a).2.1 ≠ (TJ10 b).2.1 := by decide +kernel
theorem tyJ10_ok : ∀ k, k < 0 → parseFieldDescriptor (TJ10 k).2.2.1 = some (tyJ10 k) := by decide +kernel
def RL : String := "FavourRingsLaw"
abbrev cL_law : ByteArray := code
def yL_law : MethodName := ⟨RL, "law", "([I)Z"⟩
def wsX4_firstOfSetting : List Cond := .code yX4_firstOfSetting cX4_firstOfSetting 1 (some .int) :: ([])
def wsX4_put : List Cond := .code yX4_put cX4_put 3 none :: ([])
def wsX0_init : List Cond := .code yX0_init cX0_init 2 none :: ([.methodLink RX0 3 objectInit, .instanceMethod objectInit, .code objectInit ⟨#[0xb1]⟩ 1 none, .arrayClass .int, .fieldLink RX0 9 "FavourRings$Bank" "numbers" "[I", .fieldLink RX0 15 "FavourRings$Bank" "came" "[I", .fieldLink RX0 18 "FavourRings$Bank" "done" "[I", .fieldLink RX0 21 "FavourRings$Bank" "spoiled" "[I", .fieldLink RX0 24 "FavourRings$Bank" "guarantors" "[I", .fieldLink RX0 27 "FavourRings$Bank" "takenOver" "[I", .fieldLink RX0 30 "FavourRings$Bank" "cleared" "[I", .fieldLink RX0 33 "FavourRings$Bank" "debtors" "[I", .fieldLink RX0 36 "FavourRings$Bank" "creditors" "[I", .fieldLink RX0 39 "FavourRings$Bank" "kinds" "[I", .fieldLink RX0 42 "FavourRings$Bank" "sizes" "[I", .fieldLink RX0 45 "FavourRings$Bank" "ages" "[I", .fieldLink RX0 48 "FavourRings$Bank" "passed" "[I", .static yX4_firstOfSetting, .initialized RX4, .code yX4_firstOfSetting cX4_firstOfSetting 1 (some .int), .static yX4_put, .code yX4_put cX4_put 3 none] ++ wsX00)
def wsX4_copyRow : List Cond := .code yX4_copyRow cX4_copyRow 2 none :: ([.methodLink RX4 182 Lib.Math.min.name, .static Lib.Math.min.name, .initialized "java/lang/Math", .code Lib.Math.min.name Lib.Math.min.code 2 (some .int), .methodLink RX4 187 arraycopyName, .native arraycopyName, .static arraycopyName, .initialized "java/lang/System"])
def wsX0_copyFrom : List Cond := .code yX0_copyFrom cX0_copyFrom 2 none :: ([.fieldLink RX0 9 "FavourRings$Bank" "numbers" "[I", .fieldLink RX0 15 "FavourRings$Bank" "came" "[I", .fieldLink RX0 18 "FavourRings$Bank" "done" "[I", .fieldLink RX0 21 "FavourRings$Bank" "spoiled" "[I", .fieldLink RX0 24 "FavourRings$Bank" "guarantors" "[I", .fieldLink RX0 27 "FavourRings$Bank" "takenOver" "[I", .fieldLink RX0 30 "FavourRings$Bank" "cleared" "[I", .fieldLink RX0 33 "FavourRings$Bank" "debtors" "[I", .fieldLink RX0 36 "FavourRings$Bank" "creditors" "[I", .fieldLink RX0 39 "FavourRings$Bank" "kinds" "[I", .fieldLink RX0 42 "FavourRings$Bank" "sizes" "[I", .fieldLink RX0 45 "FavourRings$Bank" "ages" "[I", .fieldLink RX0 48 "FavourRings$Bank" "passed" "[I", .static yX4_copyRow, .initialized RX4, .code yX4_copyRow cX4_copyRow 2 none, .methodLink RX4 182 Lib.Math.min.name, .static Lib.Math.min.name, .initialized "java/lang/Math", .code Lib.Math.min.name Lib.Math.min.code 2 (some .int), .methodLink RX4 187 arraycopyName, .native arraycopyName, .static arraycopyName, .initialized "java/lang/System"] ++ wsX00)
def wsX0_number : List Cond := .code yX0_number cX0_number 2 (some .int) :: ([.fieldLink RX0 9 "FavourRings$Bank" "numbers" "[I"] ++ wsX00)
def wsX0_hasHolidays : List Cond := .code yX0_hasHolidays cX0_hasHolidays 1 (some .boolean) :: ([.methodLink RX0 63 yX0_number, .instanceMethod yX0_number, .selects RX0 yX0_number yX0_number, .initialized RX0, .code yX0_number cX0_number 2 (some .int), .fieldLink RX0 9 "FavourRings$Bank" "numbers" "[I"] ++ wsX00)
def wsX0_isPupil : List Cond := .code yX0_isPupil cX0_isPupil 2 (some .boolean) :: ([.methodLink RX0 63 yX0_number, .instanceMethod yX0_number, .selects RX0 yX0_number yX0_number, .initialized RX0, .code yX0_number cX0_number 2 (some .int), .fieldLink RX0 9 "FavourRings$Bank" "numbers" "[I"] ++ wsX00)
def wsX0_isPair : List Cond := .code yX0_isPair cX0_isPair 3 (some .boolean) :: ([.methodLink RX0 66 yX0_isPupil, .instanceMethod yX0_isPupil, .selects RX0 yX0_isPupil yX0_isPupil, .initialized RX0, .code yX0_isPupil cX0_isPupil 2 (some .boolean), .methodLink RX0 63 yX0_number, .instanceMethod yX0_number, .selects RX0 yX0_number yX0_number, .code yX0_number cX0_number 2 (some .int), .fieldLink RX0 9 "FavourRings$Bank" "numbers" "[I"] ++ wsX00)
def wsX0_guarantorOf : List Cond := .code yX0_guarantorOf cX0_guarantorOf 2 (some .int) :: ([.fieldLink RX0 24 "FavourRings$Bank" "guarantors" "[I"] ++ wsX00)
def wsX0_isLotOf : List Cond := .code yX0_isLotOf cX0_isLotOf 5 (some .boolean) :: ([.fieldLink RX0 33 "FavourRings$Bank" "debtors" "[I", .fieldLink RX0 36 "FavourRings$Bank" "creditors" "[I", .fieldLink RX0 39 "FavourRings$Bank" "kinds" "[I"] ++ wsX00)
def wsX4_at : List Cond := .code yX4_at cX4_at 2 (some .int) :: ([])
def wsX0_sumOwed : List Cond := .code yX0_sumOwed cX0_sumOwed 6 (some .int) :: ([.fieldLink RX0 42 "FavourRings$Bank" "sizes" "[I", .methodLink RX0 63 yX0_number, .instanceMethod yX0_number, .selects RX0 yX0_number yX0_number, .initialized RX0, .code yX0_number cX0_number 2 (some .int), .fieldLink RX0 9 "FavourRings$Bank" "numbers" "[I", .methodLink RX0 94 yX0_isLotOf, .instanceMethod yX0_isLotOf, .selects RX0 yX0_isLotOf yX0_isLotOf, .code yX0_isLotOf cX0_isLotOf 5 (some .boolean), .fieldLink RX0 33 "FavourRings$Bank" "debtors" "[I", .fieldLink RX0 36 "FavourRings$Bank" "creditors" "[I", .fieldLink RX0 39 "FavourRings$Bank" "kinds" "[I", .static yX4_at, .initialized RX4, .code yX4_at cX4_at 2 (some .int)] ++ wsX00)
def wsX0_balanceByLots : List Cond := .code yX0_balanceByLots cX0_balanceByLots 2 (some .int) :: ([.methodLink RX0 70 yX0_sumOwed, .instanceMethod yX0_sumOwed, .selects RX0 yX0_sumOwed yX0_sumOwed, .initialized RX0, .code yX0_sumOwed cX0_sumOwed 6 (some .int), .fieldLink RX0 42 "FavourRings$Bank" "sizes" "[I", .methodLink RX0 63 yX0_number, .instanceMethod yX0_number, .selects RX0 yX0_number yX0_number, .code yX0_number cX0_number 2 (some .int), .fieldLink RX0 9 "FavourRings$Bank" "numbers" "[I", .methodLink RX0 94 yX0_isLotOf, .instanceMethod yX0_isLotOf, .selects RX0 yX0_isLotOf yX0_isLotOf, .code yX0_isLotOf cX0_isLotOf 5 (some .boolean), .fieldLink RX0 33 "FavourRings$Bank" "debtors" "[I", .fieldLink RX0 36 "FavourRings$Bank" "creditors" "[I", .fieldLink RX0 39 "FavourRings$Bank" "kinds" "[I", .static yX4_at, .initialized RX4, .code yX4_at cX4_at 2 (some .int)] ++ wsX00)
def wsX0_tellOfPupil_r1 : List Cond := [Cond.fieldLink RX0 15 "FavourRings$Bank" "came" "[I", Cond.fieldLink RX0 18 "FavourRings$Bank" "done" "[I", Cond.fieldLink RX0 21 "FavourRings$Bank" "spoiled" "[I", Cond.constant RX0 84 (-1000004), Cond.fieldLink RX0 27 "FavourRings$Bank" "takenOver" "[I", Cond.fieldLink RX0 30 "FavourRings$Bank" "cleared" "[I", Cond.methodLink RX0 70 yX0_sumOwed, Cond.instanceMethod yX0_sumOwed, Cond.selects RX0 yX0_sumOwed yX0_sumOwed, Cond.initialized RX0, Cond.code yX0_sumOwed cX0_sumOwed 6 (some .int), Cond.fieldLink RX0 42 "FavourRings$Bank" "sizes" "[I", Cond.methodLink RX0 63 yX0_number, Cond.instanceMethod yX0_number, Cond.selects RX0 yX0_number yX0_number, Cond.code yX0_number cX0_number 2 (some .int), Cond.fieldLink RX0 9 "FavourRings$Bank" "numbers" "[I", Cond.methodLink RX0 94 yX0_isLotOf, Cond.instanceMethod yX0_isLotOf, Cond.selects RX0 yX0_isLotOf yX0_isLotOf, Cond.code yX0_isLotOf cX0_isLotOf 5 (some .boolean), Cond.fieldLink RX0 33 "FavourRings$Bank" "debtors" "[I", Cond.fieldLink RX0 36 "FavourRings$Bank" "creditors" "[I", Cond.fieldLink RX0 39 "FavourRings$Bank" "kinds" "[I"]
def wsX0_tellOfPupil_r2 : List Cond := [Cond.static yX4_at, Cond.initialized RX4, Cond.code yX4_at cX4_at 2 (some .int), Cond.methodLink RX0 74 yX0_balanceByLots, Cond.instanceMethod yX0_balanceByLots, Cond.selects RX0 yX0_balanceByLots yX0_balanceByLots, Cond.code yX0_balanceByLots cX0_balanceByLots 2 (some .int), Cond.methodLink RX0 81 yX0_guarantorOf, Cond.instanceMethod yX0_guarantorOf, Cond.selects RX0 yX0_guarantorOf yX0_guarantorOf, Cond.code yX0_guarantorOf cX0_guarantorOf 2 (some .int), Cond.fieldLink RX0 24 "FavourRings$Bank" "guarantors" "[I"]
def wsX0_tellOfPupil : List Cond := .code yX0_tellOfPupil cX0_tellOfPupil 3 (some .int) :: ((wsX0_tellOfPupil_r1 ++ wsX0_tellOfPupil_r2) ++ wsX00)
def wsX0_setWithoutGuarantor : List Cond := .code yX0_setWithoutGuarantor cX0_setWithoutGuarantor 3 (some .int) :: ([.methodLink RX0 63 yX0_number, .instanceMethod yX0_number, .selects RX0 yX0_number yX0_number, .initialized RX0, .code yX0_number cX0_number 2 (some .int), .fieldLink RX0 9 "FavourRings$Bank" "numbers" "[I", .methodLink RX0 81 yX0_guarantorOf, .instanceMethod yX0_guarantorOf, .selects RX0 yX0_guarantorOf yX0_guarantorOf, .code yX0_guarantorOf cX0_guarantorOf 2 (some .int), .fieldLink RX0 24 "FavourRings$Bank" "guarantors" "[I"] ++ wsX00)
def wsX4_add : List Cond := .code yX4_add cX4_add 3 none :: ([])
def wsX0_addPupil : List Cond := .code yX0_addPupil cX0_addPupil 1 (some .int) :: ([.constant RX0 85 (-1000003), .fieldLink RX0 9 "FavourRings$Bank" "numbers" "[I", .methodLink RX0 63 yX0_number, .instanceMethod yX0_number, .selects RX0 yX0_number yX0_number, .initialized RX0, .code yX0_number cX0_number 2 (some .int), .static yX4_add, .initialized RX4, .code yX4_add cX4_add 3 none] ++ wsX00)
def wsX0_giveGuarantor : List Cond := .code yX0_giveGuarantor cX0_giveGuarantor 4 (some .int) :: ([.constant RX0 93 (-1000001), .fieldLink RX0 24 "FavourRings$Bank" "guarantors" "[I", .methodLink RX0 66 yX0_isPupil, .instanceMethod yX0_isPupil, .selects RX0 yX0_isPupil yX0_isPupil, .initialized RX0, .code yX0_isPupil cX0_isPupil 2 (some .boolean), .methodLink RX0 63 yX0_number, .instanceMethod yX0_number, .selects RX0 yX0_number yX0_number, .code yX0_number cX0_number 2 (some .int), .fieldLink RX0 9 "FavourRings$Bank" "numbers" "[I", .methodLink RX0 89 yX0_isPair, .instanceMethod yX0_isPair, .selects RX0 yX0_isPair yX0_isPair, .code yX0_isPair cX0_isPair 3 (some .boolean), .static yX4_at, .initialized RX4, .code yX4_at cX4_at 2 (some .int), .static yX4_put, .code yX4_put cX4_put 3 none] ++ wsX00)
def wsX0_rankOf_r1 : List Cond := [Cond.methodLink RX0 74 yX0_balanceByLots, Cond.instanceMethod yX0_balanceByLots, Cond.selects RX0 yX0_balanceByLots yX0_balanceByLots, Cond.initialized RX0, Cond.code yX0_balanceByLots cX0_balanceByLots 2 (some .int), Cond.methodLink RX0 70 yX0_sumOwed, Cond.instanceMethod yX0_sumOwed, Cond.selects RX0 yX0_sumOwed yX0_sumOwed, Cond.code yX0_sumOwed cX0_sumOwed 6 (some .int), Cond.fieldLink RX0 42 "FavourRings$Bank" "sizes" "[I", Cond.methodLink RX0 63 yX0_number, Cond.instanceMethod yX0_number, Cond.selects RX0 yX0_number yX0_number, Cond.code yX0_number cX0_number 2 (some .int), Cond.fieldLink RX0 9 "FavourRings$Bank" "numbers" "[I", Cond.methodLink RX0 94 yX0_isLotOf, Cond.instanceMethod yX0_isLotOf, Cond.selects RX0 yX0_isLotOf yX0_isLotOf, Cond.code yX0_isLotOf cX0_isLotOf 5 (some .boolean), Cond.fieldLink RX0 33 "FavourRings$Bank" "debtors" "[I", Cond.fieldLink RX0 36 "FavourRings$Bank" "creditors" "[I", Cond.fieldLink RX0 39 "FavourRings$Bank" "kinds" "[I", Cond.static yX4_at, Cond.initialized RX4]
def wsX0_rankOf_r2 : List Cond := [Cond.code yX4_at cX4_at 2 (some .int)]
def wsX0_rankOf : List Cond := .code yX0_rankOf cX0_rankOf 6 (some .int) :: ((wsX0_rankOf_r1 ++ wsX0_rankOf_r2) ++ wsX00)
def wsX0_tellOfLot : List Cond := .code yX0_tellOfLot cX0_tellOfLot 3 (some .int) :: ([.fieldLink RX0 33 "FavourRings$Bank" "debtors" "[I", .fieldLink RX0 36 "FavourRings$Bank" "creditors" "[I", .fieldLink RX0 39 "FavourRings$Bank" "kinds" "[I", .fieldLink RX0 42 "FavourRings$Bank" "sizes" "[I", .fieldLink RX0 45 "FavourRings$Bank" "ages" "[I", .fieldLink RX0 48 "FavourRings$Bank" "passed" "[I", .static yX4_at, .initialized RX4, .code yX4_at cX4_at 2 (some .int)] ++ wsX00)
def wsX0_sumOfAges : List Cond := .code yX0_sumOfAges cX0_sumOfAges 3 (some .int) :: ([.fieldLink RX0 42 "FavourRings$Bank" "sizes" "[I", .fieldLink RX0 45 "FavourRings$Bank" "ages" "[I", .methodLink RX0 63 yX0_number, .instanceMethod yX0_number, .selects RX0 yX0_number yX0_number, .initialized RX0, .code yX0_number cX0_number 2 (some .int), .fieldLink RX0 9 "FavourRings$Bank" "numbers" "[I", .static yX4_at, .initialized RX4, .code yX4_at cX4_at 2 (some .int)] ++ wsX00)
def wsX0_weeksLeft : List Cond := .code yX0_weeksLeft cX0_weeksLeft 2 (some .int) :: ([.fieldLink RX0 39 "FavourRings$Bank" "kinds" "[I", .fieldLink RX0 45 "FavourRings$Bank" "ages" "[I", .static yX4_at, .initialized RX4, .code yX4_at cX4_at 2 (some .int), .methodLink RX0 63 yX0_number, .instanceMethod yX0_number, .selects RX0 yX0_number yX0_number, .initialized RX0, .code yX0_number cX0_number 2 (some .int), .fieldLink RX0 9 "FavourRings$Bank" "numbers" "[I"] ++ wsX00)
def wsX0_weeksUntilNextSpoils_r1 : List Cond := [Cond.methodLink RX0 101 Lib.Math.max.name, Cond.static Lib.Math.max.name, Cond.initialized "java/lang/Math", Cond.code Lib.Math.max.name Lib.Math.max.code 2 (some .int), Cond.methodLink RX0 107 Lib.Math.min.name, Cond.static Lib.Math.min.name, Cond.code Lib.Math.min.name Lib.Math.min.code 2 (some .int), Cond.methodLink RX0 63 yX0_number, Cond.instanceMethod yX0_number, Cond.selects RX0 yX0_number yX0_number, Cond.initialized RX0, Cond.code yX0_number cX0_number 2 (some .int), Cond.fieldLink RX0 9 "FavourRings$Bank" "numbers" "[I", Cond.methodLink RX0 94 yX0_isLotOf, Cond.instanceMethod yX0_isLotOf, Cond.selects RX0 yX0_isLotOf yX0_isLotOf, Cond.code yX0_isLotOf cX0_isLotOf 5 (some .boolean), Cond.fieldLink RX0 33 "FavourRings$Bank" "debtors" "[I", Cond.fieldLink RX0 36 "FavourRings$Bank" "creditors" "[I", Cond.fieldLink RX0 39 "FavourRings$Bank" "kinds" "[I", Cond.methodLink RX0 98 yX0_weeksLeft, Cond.instanceMethod yX0_weeksLeft, Cond.selects RX0 yX0_weeksLeft yX0_weeksLeft, Cond.code yX0_weeksLeft cX0_weeksLeft 2 (some .int)]
def wsX0_weeksUntilNextSpoils_r2 : List Cond := [Cond.fieldLink RX0 45 "FavourRings$Bank" "ages" "[I", Cond.static yX4_at, Cond.initialized RX4, Cond.code yX4_at cX4_at 2 (some .int)]
def wsX0_weeksUntilNextSpoils : List Cond := .code yX0_weeksUntilNextSpoils cX0_weeksUntilNextSpoils 5 (some .int) :: ((wsX0_weeksUntilNextSpoils_r1 ++ wsX0_weeksUntilNextSpoils_r2) ++ wsX00)
def wsX0_addLot : List Cond := .code yX0_addLot cX0_addLot 6 none :: ([.fieldLink RX0 33 "FavourRings$Bank" "debtors" "[I", .fieldLink RX0 36 "FavourRings$Bank" "creditors" "[I", .fieldLink RX0 39 "FavourRings$Bank" "kinds" "[I", .fieldLink RX0 42 "FavourRings$Bank" "sizes" "[I", .fieldLink RX0 45 "FavourRings$Bank" "ages" "[I", .fieldLink RX0 48 "FavourRings$Bank" "passed" "[I", .fieldLink RX0 9 "FavourRings$Bank" "numbers" "[I", .methodLink RX0 63 yX0_number, .instanceMethod yX0_number, .selects RX0 yX0_number yX0_number, .initialized RX0, .code yX0_number cX0_number 2 (some .int), .static yX4_put, .initialized RX4, .code yX4_put cX4_put 3 none, .static yX4_add, .code yX4_add cX4_add 3 none] ++ wsX00)
def wsX0_dropEmptyLots : List Cond := .code yX0_dropEmptyLots cX0_dropEmptyLots 3 none :: ([.fieldLink RX0 42 "FavourRings$Bank" "sizes" "[I", .fieldLink RX0 33 "FavourRings$Bank" "debtors" "[I", .fieldLink RX0 36 "FavourRings$Bank" "creditors" "[I", .fieldLink RX0 39 "FavourRings$Bank" "kinds" "[I", .fieldLink RX0 45 "FavourRings$Bank" "ages" "[I", .fieldLink RX0 48 "FavourRings$Bank" "passed" "[I", .fieldLink RX0 9 "FavourRings$Bank" "numbers" "[I", .methodLink RX0 63 yX0_number, .instanceMethod yX0_number, .selects RX0 yX0_number yX0_number, .initialized RX0, .code yX0_number cX0_number 2 (some .int), .static yX4_at, .initialized RX4, .code yX4_at cX4_at 2 (some .int), .static yX4_put, .code yX4_put cX4_put 3 none] ++ wsX00)
def wsX0_firstToTake : List Cond := .code yX0_firstToTake cX0_firstToTake 6 (some .int) :: ([.fieldLink RX0 42 "FavourRings$Bank" "sizes" "[I", .fieldLink RX0 45 "FavourRings$Bank" "ages" "[I", .methodLink RX0 63 yX0_number, .instanceMethod yX0_number, .selects RX0 yX0_number yX0_number, .initialized RX0, .code yX0_number cX0_number 2 (some .int), .fieldLink RX0 9 "FavourRings$Bank" "numbers" "[I", .methodLink RX0 94 yX0_isLotOf, .instanceMethod yX0_isLotOf, .selects RX0 yX0_isLotOf yX0_isLotOf, .code yX0_isLotOf cX0_isLotOf 5 (some .boolean), .fieldLink RX0 33 "FavourRings$Bank" "debtors" "[I", .fieldLink RX0 36 "FavourRings$Bank" "creditors" "[I", .fieldLink RX0 39 "FavourRings$Bank" "kinds" "[I", .static yX4_at, .initialized RX4, .code yX4_at cX4_at 2 (some .int)] ++ wsX00)
def wsX0_takeFavours_r1 : List Cond := [Cond.fieldLink RX0 42 "FavourRings$Bank" "sizes" "[I", Cond.methodLink RX0 107 Lib.Math.min.name, Cond.static Lib.Math.min.name, Cond.initialized "java/lang/Math", Cond.code Lib.Math.min.name Lib.Math.min.code 2 (some .int), Cond.methodLink RX0 110 yX0_firstToTake, Cond.instanceMethod yX0_firstToTake, Cond.selects RX0 yX0_firstToTake yX0_firstToTake, Cond.initialized RX0, Cond.code yX0_firstToTake cX0_firstToTake 6 (some .int), Cond.fieldLink RX0 45 "FavourRings$Bank" "ages" "[I", Cond.methodLink RX0 63 yX0_number, Cond.instanceMethod yX0_number, Cond.selects RX0 yX0_number yX0_number, Cond.code yX0_number cX0_number 2 (some .int), Cond.fieldLink RX0 9 "FavourRings$Bank" "numbers" "[I", Cond.methodLink RX0 94 yX0_isLotOf, Cond.instanceMethod yX0_isLotOf, Cond.selects RX0 yX0_isLotOf yX0_isLotOf, Cond.code yX0_isLotOf cX0_isLotOf 5 (some .boolean), Cond.fieldLink RX0 33 "FavourRings$Bank" "debtors" "[I", Cond.fieldLink RX0 36 "FavourRings$Bank" "creditors" "[I", Cond.fieldLink RX0 39 "FavourRings$Bank" "kinds" "[I", Cond.static yX4_at]
def wsX0_takeFavours_r2 : List Cond := [Cond.initialized RX4, Cond.code yX4_at cX4_at 2 (some .int), Cond.static yX4_add, Cond.code yX4_add cX4_add 3 none, Cond.methodLink RX0 113 yX0_dropEmptyLots, Cond.instanceMethod yX0_dropEmptyLots, Cond.selects RX0 yX0_dropEmptyLots yX0_dropEmptyLots, Cond.code yX0_dropEmptyLots cX0_dropEmptyLots 3 none, Cond.fieldLink RX0 48 "FavourRings$Bank" "passed" "[I", Cond.static yX4_put, Cond.code yX4_put cX4_put 3 none]
def wsX0_takeFavours : List Cond := .code yX0_takeFavours cX0_takeFavours 9 none :: ((wsX0_takeFavours_r1 ++ wsX0_takeFavours_r2) ++ wsX00)
def wsX0_reasonAgainst_r1 : List Cond := [Cond.fieldLink RX0 21 "FavourRings$Bank" "spoiled" "[I", Cond.methodLink RX0 70 yX0_sumOwed, Cond.instanceMethod yX0_sumOwed, Cond.selects RX0 yX0_sumOwed yX0_sumOwed, Cond.initialized RX0, Cond.code yX0_sumOwed cX0_sumOwed 6 (some .int), Cond.fieldLink RX0 42 "FavourRings$Bank" "sizes" "[I", Cond.methodLink RX0 63 yX0_number, Cond.instanceMethod yX0_number, Cond.selects RX0 yX0_number yX0_number, Cond.code yX0_number cX0_number 2 (some .int), Cond.fieldLink RX0 9 "FavourRings$Bank" "numbers" "[I", Cond.methodLink RX0 94 yX0_isLotOf, Cond.instanceMethod yX0_isLotOf, Cond.selects RX0 yX0_isLotOf yX0_isLotOf, Cond.code yX0_isLotOf cX0_isLotOf 5 (some .boolean), Cond.fieldLink RX0 33 "FavourRings$Bank" "debtors" "[I", Cond.fieldLink RX0 36 "FavourRings$Bank" "creditors" "[I", Cond.fieldLink RX0 39 "FavourRings$Bank" "kinds" "[I", Cond.static yX4_at, Cond.initialized RX4, Cond.code yX4_at cX4_at 2 (some .int), Cond.methodLink RX0 81 yX0_guarantorOf, Cond.instanceMethod yX0_guarantorOf]
def wsX0_reasonAgainst_r2 : List Cond := [Cond.selects RX0 yX0_guarantorOf yX0_guarantorOf, Cond.code yX0_guarantorOf cX0_guarantorOf 2 (some .int), Cond.fieldLink RX0 24 "FavourRings$Bank" "guarantors" "[I"]
def wsX0_reasonAgainst : List Cond := .code yX0_reasonAgainst cX0_reasonAgainst 4 (some .int) :: ((wsX0_reasonAgainst_r1 ++ wsX0_reasonAgainst_r2) ++ wsX00)
def wsX4_isKind : List Cond := .code yX4_isKind cX4_isKind 1 (some .boolean) :: ([])
def wsX4_isMany : List Cond := .code yX4_isMany cX4_isMany 1 (some .boolean) :: ([])
def wsX0_lendFavours_r1 : List Cond := [Cond.constant RX0 93 (-1000001), Cond.constant RX0 125 (-1000002), Cond.constant RX0 85 (-1000003), Cond.fieldLink RX0 15 "FavourRings$Bank" "came" "[I", Cond.fieldLink RX0 9 "FavourRings$Bank" "numbers" "[I", Cond.methodLink RX0 89 yX0_isPair, Cond.instanceMethod yX0_isPair, Cond.selects RX0 yX0_isPair yX0_isPair, Cond.initialized RX0, Cond.code yX0_isPair cX0_isPair 3 (some .boolean), Cond.methodLink RX0 66 yX0_isPupil, Cond.instanceMethod yX0_isPupil, Cond.selects RX0 yX0_isPupil yX0_isPupil, Cond.code yX0_isPupil cX0_isPupil 2 (some .boolean), Cond.methodLink RX0 63 yX0_number, Cond.instanceMethod yX0_number, Cond.selects RX0 yX0_number yX0_number, Cond.code yX0_number cX0_number 2 (some .int), Cond.static yX4_isKind, Cond.initialized RX4, Cond.code yX4_isKind cX4_isKind 1 (some .boolean), Cond.static yX4_isMany, Cond.code yX4_isMany cX4_isMany 1 (some .boolean), Cond.methodLink RX0 122 yX0_reasonAgainst]
def wsX0_lendFavours_r2 : List Cond := [Cond.instanceMethod yX0_reasonAgainst, Cond.selects RX0 yX0_reasonAgainst yX0_reasonAgainst, Cond.code yX0_reasonAgainst cX0_reasonAgainst 4 (some .int), Cond.fieldLink RX0 21 "FavourRings$Bank" "spoiled" "[I", Cond.methodLink RX0 70 yX0_sumOwed, Cond.instanceMethod yX0_sumOwed, Cond.selects RX0 yX0_sumOwed yX0_sumOwed, Cond.code yX0_sumOwed cX0_sumOwed 6 (some .int), Cond.fieldLink RX0 42 "FavourRings$Bank" "sizes" "[I", Cond.methodLink RX0 94 yX0_isLotOf, Cond.instanceMethod yX0_isLotOf, Cond.selects RX0 yX0_isLotOf yX0_isLotOf, Cond.code yX0_isLotOf cX0_isLotOf 5 (some .boolean), Cond.fieldLink RX0 33 "FavourRings$Bank" "debtors" "[I", Cond.fieldLink RX0 36 "FavourRings$Bank" "creditors" "[I", Cond.fieldLink RX0 39 "FavourRings$Bank" "kinds" "[I", Cond.static yX4_at, Cond.code yX4_at cX4_at 2 (some .int), Cond.methodLink RX0 81 yX0_guarantorOf, Cond.instanceMethod yX0_guarantorOf, Cond.selects RX0 yX0_guarantorOf yX0_guarantorOf, Cond.code yX0_guarantorOf cX0_guarantorOf 2 (some .int), Cond.fieldLink RX0 24 "FavourRings$Bank" "guarantors" "[I", Cond.methodLink RX0 126 yX0_addLot]
def wsX0_lendFavours_r3 : List Cond := [Cond.instanceMethod yX0_addLot, Cond.selects RX0 yX0_addLot yX0_addLot, Cond.code yX0_addLot cX0_addLot 6 none, Cond.fieldLink RX0 45 "FavourRings$Bank" "ages" "[I", Cond.fieldLink RX0 48 "FavourRings$Bank" "passed" "[I", Cond.static yX4_put, Cond.code yX4_put cX4_put 3 none, Cond.static yX4_add, Cond.code yX4_add cX4_add 3 none]
def wsX0_lendFavours : List Cond := .code yX0_lendFavours cX0_lendFavours 5 (some .int) :: ((wsX0_lendFavours_r1 ++ (wsX0_lendFavours_r2 ++ wsX0_lendFavours_r3)) ++ wsX00)
def wsX0_fulfilFavours_r1 : List Cond := [Cond.constant RX0 93 (-1000001), Cond.constant RX0 125 (-1000002), Cond.fieldLink RX0 15 "FavourRings$Bank" "came" "[I", Cond.fieldLink RX0 18 "FavourRings$Bank" "done" "[I", Cond.fieldLink RX0 9 "FavourRings$Bank" "numbers" "[I", Cond.methodLink RX0 89 yX0_isPair, Cond.instanceMethod yX0_isPair, Cond.selects RX0 yX0_isPair yX0_isPair, Cond.initialized RX0, Cond.code yX0_isPair cX0_isPair 3 (some .boolean), Cond.methodLink RX0 66 yX0_isPupil, Cond.instanceMethod yX0_isPupil, Cond.selects RX0 yX0_isPupil yX0_isPupil, Cond.code yX0_isPupil cX0_isPupil 2 (some .boolean), Cond.methodLink RX0 63 yX0_number, Cond.instanceMethod yX0_number, Cond.selects RX0 yX0_number yX0_number, Cond.code yX0_number cX0_number 2 (some .int), Cond.static yX4_isKind, Cond.initialized RX4, Cond.code yX4_isKind cX4_isKind 1 (some .boolean), Cond.static yX4_isMany, Cond.code yX4_isMany cX4_isMany 1 (some .boolean), Cond.methodLink RX0 70 yX0_sumOwed]
def wsX0_fulfilFavours_r2 : List Cond := [Cond.instanceMethod yX0_sumOwed, Cond.selects RX0 yX0_sumOwed yX0_sumOwed, Cond.code yX0_sumOwed cX0_sumOwed 6 (some .int), Cond.fieldLink RX0 42 "FavourRings$Bank" "sizes" "[I", Cond.methodLink RX0 94 yX0_isLotOf, Cond.instanceMethod yX0_isLotOf, Cond.selects RX0 yX0_isLotOf yX0_isLotOf, Cond.code yX0_isLotOf cX0_isLotOf 5 (some .boolean), Cond.fieldLink RX0 33 "FavourRings$Bank" "debtors" "[I", Cond.fieldLink RX0 36 "FavourRings$Bank" "creditors" "[I", Cond.fieldLink RX0 39 "FavourRings$Bank" "kinds" "[I", Cond.static yX4_at, Cond.code yX4_at cX4_at 2 (some .int), Cond.methodLink RX0 130 yX0_takeFavours, Cond.instanceMethod yX0_takeFavours, Cond.selects RX0 yX0_takeFavours yX0_takeFavours, Cond.code yX0_takeFavours cX0_takeFavours 9 none, Cond.methodLink RX0 107 Lib.Math.min.name, Cond.static Lib.Math.min.name, Cond.initialized "java/lang/Math", Cond.code Lib.Math.min.name Lib.Math.min.code 2 (some .int), Cond.methodLink RX0 110 yX0_firstToTake, Cond.instanceMethod yX0_firstToTake, Cond.selects RX0 yX0_firstToTake yX0_firstToTake]
def wsX0_fulfilFavours_r3 : List Cond := [Cond.code yX0_firstToTake cX0_firstToTake 6 (some .int), Cond.fieldLink RX0 45 "FavourRings$Bank" "ages" "[I", Cond.static yX4_add, Cond.code yX4_add cX4_add 3 none, Cond.methodLink RX0 113 yX0_dropEmptyLots, Cond.instanceMethod yX0_dropEmptyLots, Cond.selects RX0 yX0_dropEmptyLots yX0_dropEmptyLots, Cond.code yX0_dropEmptyLots cX0_dropEmptyLots 3 none, Cond.fieldLink RX0 48 "FavourRings$Bank" "passed" "[I", Cond.static yX4_put, Cond.code yX4_put cX4_put 3 none]
def wsX0_fulfilFavours : List Cond := .code yX0_fulfilFavours cX0_fulfilFavours 5 (some .int) :: ((wsX0_fulfilFavours_r1 ++ (wsX0_fulfilFavours_r2 ++ wsX0_fulfilFavours_r3)) ++ wsX00)
def wsX0_countCleared : List Cond := .code yX0_countCleared cX0_countCleared 3 none :: ([.fieldLink RX0 30 "FavourRings$Bank" "cleared" "[I", .fieldLink RX0 9 "FavourRings$Bank" "numbers" "[I", .static yX4_add, .initialized RX4, .code yX4_add cX4_add 3 none] ++ wsX00)
def wsX0_countRing : List Cond := .code yX0_countRing cX0_countRing 1 none :: ([.fieldLink RX0 9 "FavourRings$Bank" "numbers" "[I", .static yX4_add, .initialized RX4, .code yX4_add cX4_add 3 none] ++ wsX00)
def wsX0_passToGuarantor : List Cond := .code yX0_passToGuarantor cX0_passToGuarantor 5 (some .boolean) :: ([.fieldLink RX0 33 "FavourRings$Bank" "debtors" "[I", .fieldLink RX0 36 "FavourRings$Bank" "creditors" "[I", .fieldLink RX0 48 "FavourRings$Bank" "passed" "[I", .fieldLink RX0 42 "FavourRings$Bank" "sizes" "[I", .fieldLink RX0 45 "FavourRings$Bank" "ages" "[I", .fieldLink RX0 15 "FavourRings$Bank" "came" "[I", .fieldLink RX0 27 "FavourRings$Bank" "takenOver" "[I", .fieldLink RX0 9 "FavourRings$Bank" "numbers" "[I", .static yX4_at, .initialized RX4, .code yX4_at cX4_at 2 (some .int), .methodLink RX0 81 yX0_guarantorOf, .instanceMethod yX0_guarantorOf, .selects RX0 yX0_guarantorOf yX0_guarantorOf, .initialized RX0, .code yX0_guarantorOf cX0_guarantorOf 2 (some .int), .fieldLink RX0 24 "FavourRings$Bank" "guarantors" "[I", .static yX4_put, .code yX4_put cX4_put 3 none, .static yX4_add, .code yX4_add cX4_add 3 none] ++ wsX00)
def wsX0_spoilLot : List Cond := .code yX0_spoilLot cX0_spoilLot 4 none :: ([.fieldLink RX0 33 "FavourRings$Bank" "debtors" "[I", .fieldLink RX0 42 "FavourRings$Bank" "sizes" "[I", .fieldLink RX0 15 "FavourRings$Bank" "came" "[I", .fieldLink RX0 36 "FavourRings$Bank" "creditors" "[I", .fieldLink RX0 21 "FavourRings$Bank" "spoiled" "[I", .fieldLink RX0 9 "FavourRings$Bank" "numbers" "[I", .static yX4_at, .initialized RX4, .code yX4_at cX4_at 2 (some .int), .static yX4_put, .code yX4_put cX4_put 3 none, .static yX4_add, .code yX4_add cX4_add 3 none] ++ wsX00)
def wsX0_endWeek_r1 : List Cond := [Cond.fieldLink RX0 9 "FavourRings$Bank" "numbers" "[I", Cond.fieldLink RX0 45 "FavourRings$Bank" "ages" "[I", Cond.static yX4_add, Cond.initialized RX4, Cond.code yX4_add cX4_add 3 none, Cond.methodLink RX0 136 yX0_hasHolidays, Cond.instanceMethod yX0_hasHolidays, Cond.selects RX0 yX0_hasHolidays yX0_hasHolidays, Cond.initialized RX0, Cond.code yX0_hasHolidays cX0_hasHolidays 1 (some .boolean), Cond.methodLink RX0 63 yX0_number, Cond.instanceMethod yX0_number, Cond.selects RX0 yX0_number yX0_number, Cond.code yX0_number cX0_number 2 (some .int), Cond.methodLink RX0 98 yX0_weeksLeft, Cond.instanceMethod yX0_weeksLeft, Cond.selects RX0 yX0_weeksLeft yX0_weeksLeft, Cond.code yX0_weeksLeft cX0_weeksLeft 2 (some .int), Cond.fieldLink RX0 39 "FavourRings$Bank" "kinds" "[I", Cond.static yX4_at, Cond.code yX4_at cX4_at 2 (some .int), Cond.methodLink RX0 140 yX0_passToGuarantor, Cond.instanceMethod yX0_passToGuarantor, Cond.selects RX0 yX0_passToGuarantor yX0_passToGuarantor]
def wsX0_endWeek_r2 : List Cond := [Cond.code yX0_passToGuarantor cX0_passToGuarantor 5 (some .boolean), Cond.fieldLink RX0 33 "FavourRings$Bank" "debtors" "[I", Cond.fieldLink RX0 36 "FavourRings$Bank" "creditors" "[I", Cond.fieldLink RX0 48 "FavourRings$Bank" "passed" "[I", Cond.fieldLink RX0 42 "FavourRings$Bank" "sizes" "[I", Cond.fieldLink RX0 15 "FavourRings$Bank" "came" "[I", Cond.fieldLink RX0 27 "FavourRings$Bank" "takenOver" "[I", Cond.methodLink RX0 81 yX0_guarantorOf, Cond.instanceMethod yX0_guarantorOf, Cond.selects RX0 yX0_guarantorOf yX0_guarantorOf, Cond.code yX0_guarantorOf cX0_guarantorOf 2 (some .int), Cond.fieldLink RX0 24 "FavourRings$Bank" "guarantors" "[I", Cond.static yX4_put, Cond.code yX4_put cX4_put 3 none, Cond.methodLink RX0 143 yX0_spoilLot, Cond.instanceMethod yX0_spoilLot, Cond.selects RX0 yX0_spoilLot yX0_spoilLot, Cond.code yX0_spoilLot cX0_spoilLot 4 none, Cond.fieldLink RX0 21 "FavourRings$Bank" "spoiled" "[I", Cond.methodLink RX0 113 yX0_dropEmptyLots, Cond.instanceMethod yX0_dropEmptyLots, Cond.selects RX0 yX0_dropEmptyLots yX0_dropEmptyLots, Cond.code yX0_dropEmptyLots cX0_dropEmptyLots 3 none]
def wsX0_endWeek : List Cond := .code yX0_endWeek cX0_endWeek 2 none :: ((wsX0_endWeek_r1 ++ wsX0_endWeek_r2) ++ wsX00)
def wsX0_endWeeks_r1 : List Cond := [Cond.constant RX0 93 (-1000001), Cond.constant RX0 85 (-1000003), Cond.methodLink RX0 63 yX0_number, Cond.instanceMethod yX0_number, Cond.selects RX0 yX0_number yX0_number, Cond.initialized RX0, Cond.code yX0_number cX0_number 2 (some .int), Cond.fieldLink RX0 9 "FavourRings$Bank" "numbers" "[I", Cond.methodLink RX0 133 yX0_endWeek, Cond.instanceMethod yX0_endWeek, Cond.selects RX0 yX0_endWeek yX0_endWeek, Cond.code yX0_endWeek cX0_endWeek 2 none, Cond.fieldLink RX0 45 "FavourRings$Bank" "ages" "[I", Cond.static yX4_add, Cond.initialized RX4, Cond.code yX4_add cX4_add 3 none, Cond.methodLink RX0 136 yX0_hasHolidays, Cond.instanceMethod yX0_hasHolidays, Cond.selects RX0 yX0_hasHolidays yX0_hasHolidays, Cond.code yX0_hasHolidays cX0_hasHolidays 1 (some .boolean), Cond.methodLink RX0 98 yX0_weeksLeft, Cond.instanceMethod yX0_weeksLeft, Cond.selects RX0 yX0_weeksLeft yX0_weeksLeft, Cond.code yX0_weeksLeft cX0_weeksLeft 2 (some .int)]
def wsX0_endWeeks_r2 : List Cond := [Cond.fieldLink RX0 39 "FavourRings$Bank" "kinds" "[I", Cond.static yX4_at, Cond.code yX4_at cX4_at 2 (some .int), Cond.methodLink RX0 140 yX0_passToGuarantor, Cond.instanceMethod yX0_passToGuarantor, Cond.selects RX0 yX0_passToGuarantor yX0_passToGuarantor, Cond.code yX0_passToGuarantor cX0_passToGuarantor 5 (some .boolean), Cond.fieldLink RX0 33 "FavourRings$Bank" "debtors" "[I", Cond.fieldLink RX0 36 "FavourRings$Bank" "creditors" "[I", Cond.fieldLink RX0 48 "FavourRings$Bank" "passed" "[I", Cond.fieldLink RX0 42 "FavourRings$Bank" "sizes" "[I", Cond.fieldLink RX0 15 "FavourRings$Bank" "came" "[I", Cond.fieldLink RX0 27 "FavourRings$Bank" "takenOver" "[I", Cond.methodLink RX0 81 yX0_guarantorOf, Cond.instanceMethod yX0_guarantorOf, Cond.selects RX0 yX0_guarantorOf yX0_guarantorOf, Cond.code yX0_guarantorOf cX0_guarantorOf 2 (some .int), Cond.fieldLink RX0 24 "FavourRings$Bank" "guarantors" "[I", Cond.static yX4_put, Cond.code yX4_put cX4_put 3 none, Cond.methodLink RX0 143 yX0_spoilLot, Cond.instanceMethod yX0_spoilLot, Cond.selects RX0 yX0_spoilLot yX0_spoilLot, Cond.code yX0_spoilLot cX0_spoilLot 4 none]
def wsX0_endWeeks_r3 : List Cond := [Cond.fieldLink RX0 21 "FavourRings$Bank" "spoiled" "[I", Cond.methodLink RX0 113 yX0_dropEmptyLots, Cond.instanceMethod yX0_dropEmptyLots, Cond.selects RX0 yX0_dropEmptyLots yX0_dropEmptyLots, Cond.code yX0_dropEmptyLots cX0_dropEmptyLots 3 none]
def wsX0_endWeeks : List Cond := .code yX0_endWeeks cX0_endWeeks 4 (some .int) :: ((wsX0_endWeeks_r1 ++ (wsX0_endWeeks_r2 ++ wsX0_endWeeks_r3)) ++ wsX00)
def wsX0_turnHolidays : List Cond := .code yX0_turnHolidays cX0_turnHolidays 3 (some .int) :: ([.fieldLink RX0 9 "FavourRings$Bank" "numbers" "[I", .methodLink RX0 63 yX0_number, .instanceMethod yX0_number, .selects RX0 yX0_number yX0_number, .initialized RX0, .code yX0_number cX0_number 2 (some .int), .static yX4_put, .initialized RX4, .code yX4_put cX4_put 3 none] ++ wsX00)
def wsX4_mostOfSetting : List Cond := .code yX4_mostOfSetting cX4_mostOfSetting 1 (some .int) :: ([])
def wsX0_changeSetting : List Cond := .code yX0_changeSetting cX0_changeSetting 4 (some .int) :: ([.constant RX0 93 (-1000001), .fieldLink RX0 9 "FavourRings$Bank" "numbers" "[I", .static yX4_mostOfSetting, .initialized RX4, .code yX4_mostOfSetting cX4_mostOfSetting 1 (some .int), .methodLink RX0 63 yX0_number, .instanceMethod yX0_number, .selects RX0 yX0_number yX0_number, .initialized RX0, .code yX0_number cX0_number 2 (some .int), .static yX4_put, .code yX4_put cX4_put 3 none] ++ wsX00)
def wsX1_init_r1 : List Cond := [Cond.methodLink RX1 3 objectInit, Cond.instanceMethod objectInit, Cond.code objectInit ⟨#[0xb1]⟩ 1 none, Cond.classLink RX1 9 RX0, Cond.fieldLink RX1 11 "FavourRings$History" "states" "[LFavourRings$Bank;", Cond.instantiable RX0 13, Cond.initialized RX0, Cond.methodLink RX1 17 yX0_init, Cond.instanceMethod yX0_init, Cond.code yX0_init cX0_init 2 none, Cond.methodLink RX0 3 objectInit, Cond.arrayClass .int, Cond.fieldLink RX0 9 "FavourRings$Bank" "numbers" "[I", Cond.fieldLink RX0 15 "FavourRings$Bank" "came" "[I", Cond.fieldLink RX0 18 "FavourRings$Bank" "done" "[I", Cond.fieldLink RX0 21 "FavourRings$Bank" "spoiled" "[I", Cond.fieldLink RX0 24 "FavourRings$Bank" "guarantors" "[I", Cond.fieldLink RX0 27 "FavourRings$Bank" "takenOver" "[I", Cond.fieldLink RX0 30 "FavourRings$Bank" "cleared" "[I", Cond.fieldLink RX0 33 "FavourRings$Bank" "debtors" "[I", Cond.fieldLink RX0 36 "FavourRings$Bank" "creditors" "[I", Cond.fieldLink RX0 39 "FavourRings$Bank" "kinds" "[I", Cond.fieldLink RX0 42 "FavourRings$Bank" "sizes" "[I", Cond.fieldLink RX0 45 "FavourRings$Bank" "ages" "[I"]
def wsX1_init_r2 : List Cond := [Cond.fieldLink RX0 48 "FavourRings$Bank" "passed" "[I", Cond.static yX4_firstOfSetting, Cond.initialized RX4, Cond.code yX4_firstOfSetting cX4_firstOfSetting 1 (some .int), Cond.static yX4_put, Cond.code yX4_put cX4_put 3 none]
def wsX1_init : List Cond := .code yX1_init cX1_init 2 none :: ((wsX1_init_r1 ++ wsX1_init_r2) ++ wsX10 ++ wsX00)
def wsX1_size : List Cond := .code yX1_size cX1_size 1 (some .int) :: ([.fieldLink RX1 18 "FavourRings$History" "size" "I"] ++ wsX10)
def wsX1_dropOldest_r1 : List Cond := [Cond.fieldLink RX1 11 "FavourRings$History" "states" "[LFavourRings$Bank;", Cond.fieldLink RX1 18 "FavourRings$History" "size" "I", Cond.methodLink RX1 25 yX0_copyFrom, Cond.instanceMethod yX0_copyFrom, Cond.selects RX0 yX0_copyFrom yX0_copyFrom, Cond.initialized RX0, Cond.code yX0_copyFrom cX0_copyFrom 2 none, Cond.fieldLink RX0 9 "FavourRings$Bank" "numbers" "[I", Cond.fieldLink RX0 15 "FavourRings$Bank" "came" "[I", Cond.fieldLink RX0 18 "FavourRings$Bank" "done" "[I", Cond.fieldLink RX0 21 "FavourRings$Bank" "spoiled" "[I", Cond.fieldLink RX0 24 "FavourRings$Bank" "guarantors" "[I", Cond.fieldLink RX0 27 "FavourRings$Bank" "takenOver" "[I", Cond.fieldLink RX0 30 "FavourRings$Bank" "cleared" "[I", Cond.fieldLink RX0 33 "FavourRings$Bank" "debtors" "[I", Cond.fieldLink RX0 36 "FavourRings$Bank" "creditors" "[I", Cond.fieldLink RX0 39 "FavourRings$Bank" "kinds" "[I", Cond.fieldLink RX0 42 "FavourRings$Bank" "sizes" "[I", Cond.fieldLink RX0 45 "FavourRings$Bank" "ages" "[I", Cond.fieldLink RX0 48 "FavourRings$Bank" "passed" "[I", Cond.static yX4_copyRow, Cond.initialized RX4, Cond.code yX4_copyRow cX4_copyRow 2 none, Cond.methodLink RX4 182 Lib.Math.min.name]
def wsX1_dropOldest_r2 : List Cond := [Cond.static Lib.Math.min.name, Cond.initialized "java/lang/Math", Cond.code Lib.Math.min.name Lib.Math.min.code 2 (some .int), Cond.methodLink RX4 187 arraycopyName, Cond.native arraycopyName, Cond.static arraycopyName, Cond.initialized "java/lang/System"]
def wsX1_dropOldest : List Cond := .code yX1_dropOldest cX1_dropOldest 2 none :: ((wsX1_dropOldest_r1 ++ wsX1_dropOldest_r2) ++ wsX10 ++ wsX00)
def wsX1_keep_r1 : List Cond := [Cond.fieldLink RX1 18 "FavourRings$History" "size" "I", Cond.fieldLink RX1 11 "FavourRings$History" "states" "[LFavourRings$Bank;", Cond.methodLink RX1 22 yX1_dropOldest, Cond.instanceMethod yX1_dropOldest, Cond.selects RX1 yX1_dropOldest yX1_dropOldest, Cond.initialized RX1, Cond.code yX1_dropOldest cX1_dropOldest 2 none, Cond.methodLink RX1 25 yX0_copyFrom, Cond.instanceMethod yX0_copyFrom, Cond.selects RX0 yX0_copyFrom yX0_copyFrom, Cond.initialized RX0, Cond.code yX0_copyFrom cX0_copyFrom 2 none, Cond.fieldLink RX0 9 "FavourRings$Bank" "numbers" "[I", Cond.fieldLink RX0 15 "FavourRings$Bank" "came" "[I", Cond.fieldLink RX0 18 "FavourRings$Bank" "done" "[I", Cond.fieldLink RX0 21 "FavourRings$Bank" "spoiled" "[I", Cond.fieldLink RX0 24 "FavourRings$Bank" "guarantors" "[I", Cond.fieldLink RX0 27 "FavourRings$Bank" "takenOver" "[I", Cond.fieldLink RX0 30 "FavourRings$Bank" "cleared" "[I", Cond.fieldLink RX0 33 "FavourRings$Bank" "debtors" "[I", Cond.fieldLink RX0 36 "FavourRings$Bank" "creditors" "[I", Cond.fieldLink RX0 39 "FavourRings$Bank" "kinds" "[I", Cond.fieldLink RX0 42 "FavourRings$Bank" "sizes" "[I", Cond.fieldLink RX0 45 "FavourRings$Bank" "ages" "[I"]
def wsX1_keep_r2 : List Cond := [Cond.fieldLink RX0 48 "FavourRings$Bank" "passed" "[I", Cond.static yX4_copyRow, Cond.initialized RX4, Cond.code yX4_copyRow cX4_copyRow 2 none, Cond.methodLink RX4 182 Lib.Math.min.name, Cond.static Lib.Math.min.name, Cond.initialized "java/lang/Math", Cond.code Lib.Math.min.name Lib.Math.min.code 2 (some .int), Cond.methodLink RX4 187 arraycopyName, Cond.native arraycopyName, Cond.static arraycopyName, Cond.initialized "java/lang/System"]
def wsX1_keep : List Cond := .code yX1_keep cX1_keep 2 none :: ((wsX1_keep_r1 ++ wsX1_keep_r2) ++ wsX10 ++ wsX00)
def wsX1_restoreLatest_r1 : List Cond := [Cond.fieldLink RX1 18 "FavourRings$History" "size" "I", Cond.fieldLink RX1 11 "FavourRings$History" "states" "[LFavourRings$Bank;", Cond.constant RX1 29 (-1000002), Cond.methodLink RX1 25 yX0_copyFrom, Cond.instanceMethod yX0_copyFrom, Cond.selects RX0 yX0_copyFrom yX0_copyFrom, Cond.initialized RX0, Cond.code yX0_copyFrom cX0_copyFrom 2 none, Cond.fieldLink RX0 9 "FavourRings$Bank" "numbers" "[I", Cond.fieldLink RX0 15 "FavourRings$Bank" "came" "[I", Cond.fieldLink RX0 18 "FavourRings$Bank" "done" "[I", Cond.fieldLink RX0 21 "FavourRings$Bank" "spoiled" "[I", Cond.fieldLink RX0 24 "FavourRings$Bank" "guarantors" "[I", Cond.fieldLink RX0 27 "FavourRings$Bank" "takenOver" "[I", Cond.fieldLink RX0 30 "FavourRings$Bank" "cleared" "[I", Cond.fieldLink RX0 33 "FavourRings$Bank" "debtors" "[I", Cond.fieldLink RX0 36 "FavourRings$Bank" "creditors" "[I", Cond.fieldLink RX0 39 "FavourRings$Bank" "kinds" "[I", Cond.fieldLink RX0 42 "FavourRings$Bank" "sizes" "[I", Cond.fieldLink RX0 45 "FavourRings$Bank" "ages" "[I", Cond.fieldLink RX0 48 "FavourRings$Bank" "passed" "[I", Cond.static yX4_copyRow, Cond.initialized RX4, Cond.code yX4_copyRow cX4_copyRow 2 none]
def wsX1_restoreLatest_r2 : List Cond := [Cond.methodLink RX4 182 Lib.Math.min.name, Cond.static Lib.Math.min.name, Cond.initialized "java/lang/Math", Cond.code Lib.Math.min.name Lib.Math.min.code 2 (some .int), Cond.methodLink RX4 187 arraycopyName, Cond.native arraycopyName, Cond.static arraycopyName, Cond.initialized "java/lang/System"]
def wsX1_restoreLatest : List Cond := .code yX1_restoreLatest cX1_restoreLatest 3 (some .int) :: ((wsX1_restoreLatest_r1 ++ wsX1_restoreLatest_r2) ++ wsX10 ++ wsX00)
def wsX2_init : List Cond := .code yX2_init cX2_init 1 none :: ([.methodLink RX2 3 objectInit, .instanceMethod objectInit, .code objectInit ⟨#[0xb1]⟩ 1 none, .arrayClass .int, .fieldLink RX2 9 "FavourRings$Orders" "text" "[I", .fieldLink RX2 15 "FavourRings$Orders" "numbers" "[I"] ++ wsX20)
def wsX2_length : List Cond := .code yX2_length cX2_length 1 (some .int) :: ([.fieldLink RX2 18 "FavourRings$Orders" "length" "I"] ++ wsX20)
def wsX2_ordersDone : List Cond := .code yX2_ordersDone cX2_ordersDone 1 (some .int) :: ([.fieldLink RX2 22 "FavourRings$Orders" "done" "I"] ++ wsX20)
def wsX2_faultPlace : List Cond := .code yX2_faultPlace cX2_faultPlace 1 (some .int) :: ([.fieldLink RX2 25 "FavourRings$Orders" "faultPlace" "I"] ++ wsX20)
def wsX2_faultReason : List Cond := .code yX2_faultReason cX2_faultReason 1 (some .int) :: ([.fieldLink RX2 28 "FavourRings$Orders" "faultReason" "I"] ++ wsX20)
def wsX2_faultCause : List Cond := .code yX2_faultCause cX2_faultCause 1 (some .int) :: ([.fieldLink RX2 31 "FavourRings$Orders" "faultCause" "I"] ++ wsX20)
def wsX2_append : List Cond := .code yX2_append cX2_append 2 (some .int) :: ([.constant RX2 34 (-1000001), .fieldLink RX2 18 "FavourRings$Orders" "length" "I", .constant RX2 35 (-1000003), .fieldLink RX2 9 "FavourRings$Orders" "text" "[I", .static yX4_put, .initialized RX4, .code yX4_put cX4_put 3 none] ++ wsX20)
def wsX2_empty : List Cond := .code yX2_empty cX2_empty 2 (some .int) :: ([.fieldLink RX2 18 "FavourRings$Orders" "length" "I"] ++ wsX20)
def wsX2_signAt : List Cond := .code yX2_signAt cX2_signAt 2 (some .int) :: ([.fieldLink RX2 18 "FavourRings$Orders" "length" "I", .fieldLink RX2 9 "FavourRings$Orders" "text" "[I", .static yX4_at, .initialized RX4, .code yX4_at cX4_at 2 (some .int)] ++ wsX20)
def wsX2_numbersAfter : List Cond := .code yX2_numbersAfter cX2_numbersAfter 1 (some .int) :: ([])
def wsX2_passSign : List Cond := .code yX2_passSign cX2_passSign 2 (some .boolean) :: ([.fieldLink RX2 44 "FavourRings$Orders" "place" "I", .methodLink RX2 51 yX2_signAt, .instanceMethod yX2_signAt, .selects RX2 yX2_signAt yX2_signAt, .initialized RX2, .code yX2_signAt cX2_signAt 2 (some .int), .fieldLink RX2 18 "FavourRings$Orders" "length" "I", .fieldLink RX2 9 "FavourRings$Orders" "text" "[I", .static yX4_at, .initialized RX4, .code yX4_at cX4_at 2 (some .int)] ++ wsX20)
def wsX2_isDigit : List Cond := .code yX2_isDigit cX2_isDigit 1 (some .boolean) :: ([])
def wsX2_readNumber : List Cond := .code yX2_readNumber cX2_readNumber 4 (some .boolean) :: ([.fieldLink RX2 44 "FavourRings$Orders" "place" "I", .fieldLink RX2 15 "FavourRings$Orders" "numbers" "[I", .methodLink RX2 51 yX2_signAt, .instanceMethod yX2_signAt, .selects RX2 yX2_signAt yX2_signAt, .initialized RX2, .code yX2_signAt cX2_signAt 2 (some .int), .fieldLink RX2 18 "FavourRings$Orders" "length" "I", .fieldLink RX2 9 "FavourRings$Orders" "text" "[I", .static yX4_at, .initialized RX4, .code yX4_at cX4_at 2 (some .int), .methodLink RX2 102 yX2_isDigit, .static yX2_isDigit, .code yX2_isDigit cX2_isDigit 1 (some .boolean), .static yX4_put, .code yX4_put cX4_put 3 none] ++ wsX20)
def wsX2_readOrder_r1 : List Cond := [Cond.fieldLink RX2 44 "FavourRings$Orders" "place" "I", Cond.methodLink RX2 51 yX2_signAt, Cond.instanceMethod yX2_signAt, Cond.selects RX2 yX2_signAt yX2_signAt, Cond.initialized RX2, Cond.code yX2_signAt cX2_signAt 2 (some .int), Cond.fieldLink RX2 18 "FavourRings$Orders" "length" "I", Cond.fieldLink RX2 9 "FavourRings$Orders" "text" "[I", Cond.static yX4_at, Cond.initialized RX4, Cond.code yX4_at cX4_at 2 (some .int), Cond.methodLink RX2 93 yX2_numbersAfter, Cond.static yX2_numbersAfter, Cond.code yX2_numbersAfter cX2_numbersAfter 1 (some .int), Cond.methodLink RX2 96 yX2_passSign, Cond.instanceMethod yX2_passSign, Cond.selects RX2 yX2_passSign yX2_passSign, Cond.code yX2_passSign cX2_passSign 2 (some .boolean), Cond.methodLink RX2 99 yX2_readNumber, Cond.instanceMethod yX2_readNumber, Cond.selects RX2 yX2_readNumber yX2_readNumber, Cond.code yX2_readNumber cX2_readNumber 4 (some .boolean), Cond.fieldLink RX2 15 "FavourRings$Orders" "numbers" "[I", Cond.methodLink RX2 102 yX2_isDigit]
def wsX2_readOrder_r2 : List Cond := [Cond.static yX2_isDigit, Cond.code yX2_isDigit cX2_isDigit 1 (some .boolean), Cond.static yX4_put, Cond.code yX4_put cX4_put 3 none]
def wsX2_readOrder : List Cond := .code yX2_readOrder cX2_readOrder 4 (some .boolean) :: ((wsX2_readOrder_r1 ++ wsX2_readOrder_r2) ++ wsX20)
def wsX2_noteFault : List Cond := .code yX2_noteFault cX2_noteFault 4 (some .boolean) :: ([.fieldLink RX2 25 "FavourRings$Orders" "faultPlace" "I", .fieldLink RX2 28 "FavourRings$Orders" "faultReason" "I", .fieldLink RX2 31 "FavourRings$Orders" "faultCause" "I"] ++ wsX20)
def wsX3_readOwed : List Cond := .code yX3_readOwed cX3_readOwed 5 none :: ([.fieldLink RX3 9 "FavourRings$Rings" "owed" "[I", .methodLink RX3 91 yX0_number, .instanceMethod yX0_number, .selects RX0 yX0_number yX0_number, .initialized RX0, .code yX0_number cX0_number 2 (some .int), .fieldLink RX0 9 "FavourRings$Bank" "numbers" "[I", .methodLink RX3 94 yX0_isLotOf, .instanceMethod yX0_isLotOf, .selects RX0 yX0_isLotOf yX0_isLotOf, .code yX0_isLotOf cX0_isLotOf 5 (some .boolean), .fieldLink RX0 33 "FavourRings$Bank" "debtors" "[I", .fieldLink RX0 36 "FavourRings$Bank" "creditors" "[I", .fieldLink RX0 39 "FavourRings$Bank" "kinds" "[I", .static yX4_at, .initialized RX4, .code yX4_at cX4_at 2 (some .int), .static yX4_add, .code yX4_add cX4_add 3 none] ++ wsX30 ++ wsX00)
def wsX3_owedBetween : List Cond := .code yX3_owedBetween cX3_owedBetween 4 (some .int) :: ([.fieldLink RX3 9 "FavourRings$Rings" "owed" "[I"] ++ wsX30)
def wsX3_measureSteps : List Cond := .code yX3_measureSteps cX3_measureSteps 7 none :: ([.fieldLink RX3 15 "FavourRings$Rings" "steps" "[I", .fieldLink RX3 18 "FavourRings$Rings" "queue" "[I", .static yX4_put, .initialized RX4, .code yX4_put cX4_put 3 none, .static yX4_at, .code yX4_at cX4_at 2 (some .int), .methodLink RX3 39 yX3_owedBetween, .instanceMethod yX3_owedBetween, .selects RX3 yX3_owedBetween yX3_owedBetween, .initialized RX3, .code yX3_owedBetween cX3_owedBetween 4 (some .int), .fieldLink RX3 9 "FavourRings$Rings" "owed" "[I"] ++ wsX30)
def wsX3_shortestFrom : List Cond := .code yX3_shortestFrom cX3_shortestFrom 6 (some .int) :: ([.fieldLink RX3 15 "FavourRings$Rings" "steps" "[I", .static yX4_at, .initialized RX4, .code yX4_at cX4_at 2 (some .int), .methodLink RX3 39 yX3_owedBetween, .instanceMethod yX3_owedBetween, .selects RX3 yX3_owedBetween yX3_owedBetween, .initialized RX3, .code yX3_owedBetween cX3_owedBetween 4 (some .int), .fieldLink RX3 9 "FavourRings$Rings" "owed" "[I"] ++ wsX30)
def wsX3_nextPupil : List Cond := .code yX3_nextPupil cX3_nextPupil 2 (some .int) :: ([.fieldLink RX3 21 "FavourRings$Rings" "members" "[I", .static yX4_at, .initialized RX4, .code yX4_at cX4_at 2 (some .int)] ++ wsX30)
def wsX3_lowestBehind : List Cond := .code yX3_lowestBehind cX3_lowestBehind 4 (some .int) :: ([.fieldLink RX3 15 "FavourRings$Rings" "steps" "[I", .static yX4_at, .initialized RX4, .code yX4_at cX4_at 2 (some .int), .methodLink RX3 39 yX3_owedBetween, .instanceMethod yX3_owedBetween, .selects RX3 yX3_owedBetween yX3_owedBetween, .initialized RX3, .code yX3_owedBetween cX3_owedBetween 4 (some .int), .fieldLink RX3 9 "FavourRings$Rings" "owed" "[I"] ++ wsX30)
def wsX3_findNext_r1 : List Cond := [Cond.fieldLink RX3 24 "FavourRings$Rings" "length" "I", Cond.fieldLink RX3 21 "FavourRings$Rings" "members" "[I", Cond.methodLink RX3 48 yX3_readOwed, Cond.instanceMethod yX3_readOwed, Cond.selects RX3 yX3_readOwed yX3_readOwed, Cond.initialized RX3, Cond.code yX3_readOwed cX3_readOwed 5 none, Cond.fieldLink RX3 9 "FavourRings$Rings" "owed" "[I", Cond.methodLink RX3 91 yX0_number, Cond.instanceMethod yX0_number, Cond.selects RX0 yX0_number yX0_number, Cond.initialized RX0, Cond.code yX0_number cX0_number 2 (some .int), Cond.fieldLink RX0 9 "FavourRings$Bank" "numbers" "[I", Cond.methodLink RX3 94 yX0_isLotOf, Cond.instanceMethod yX0_isLotOf, Cond.selects RX0 yX0_isLotOf yX0_isLotOf, Cond.code yX0_isLotOf cX0_isLotOf 5 (some .boolean), Cond.fieldLink RX0 33 "FavourRings$Bank" "debtors" "[I", Cond.fieldLink RX0 36 "FavourRings$Bank" "creditors" "[I", Cond.fieldLink RX0 39 "FavourRings$Bank" "kinds" "[I", Cond.static yX4_at, Cond.initialized RX4, Cond.code yX4_at cX4_at 2 (some .int)]
def wsX3_findNext_r2 : List Cond := [Cond.static yX4_add, Cond.code yX4_add cX4_add 3 none, Cond.methodLink RX3 52 yX3_measureSteps, Cond.instanceMethod yX3_measureSteps, Cond.selects RX3 yX3_measureSteps yX3_measureSteps, Cond.code yX3_measureSteps cX3_measureSteps 7 none, Cond.fieldLink RX3 15 "FavourRings$Rings" "steps" "[I", Cond.fieldLink RX3 18 "FavourRings$Rings" "queue" "[I", Cond.static yX4_put, Cond.code yX4_put cX4_put 3 none, Cond.methodLink RX3 39 yX3_owedBetween, Cond.instanceMethod yX3_owedBetween, Cond.selects RX3 yX3_owedBetween yX3_owedBetween, Cond.code yX3_owedBetween cX3_owedBetween 4 (some .int), Cond.methodLink RX3 81 yX3_shortestFrom, Cond.instanceMethod yX3_shortestFrom, Cond.selects RX3 yX3_shortestFrom yX3_shortestFrom, Cond.code yX3_shortestFrom cX3_shortestFrom 6 (some .int), Cond.methodLink RX3 32 yX3_nextPupil, Cond.instanceMethod yX3_nextPupil, Cond.selects RX3 yX3_nextPupil yX3_nextPupil, Cond.code yX3_nextPupil cX3_nextPupil 2 (some .int), Cond.methodLink RX3 88 yX3_lowestBehind, Cond.instanceMethod yX3_lowestBehind]
def wsX3_findNext_r3 : List Cond := [Cond.selects RX3 yX3_lowestBehind yX3_lowestBehind, Cond.code yX3_lowestBehind cX3_lowestBehind 4 (some .int)]
def wsX3_findNext : List Cond := .code yX3_findNext cX3_findNext 6 (some .boolean) :: ((wsX3_findNext_r1 ++ (wsX3_findNext_r2 ++ wsX3_findNext_r3)) ++ wsX30 ++ wsX00)
def wsX3_pupilBehind : List Cond := .code yX3_pupilBehind cX3_pupilBehind 2 (some .int) :: ([.fieldLink RX3 21 "FavourRings$Rings" "members" "[I", .fieldLink RX3 24 "FavourRings$Rings" "length" "I", .static yX4_at, .initialized RX4, .code yX4_at cX4_at 2 (some .int)] ++ wsX30)
def wsX3_nextAmount : List Cond := .code yX3_nextAmount cX3_nextAmount 4 (some .int) :: ([.fieldLink RX3 24 "FavourRings$Rings" "length" "I", .methodLink RX3 43 Lib.Math.min.name, .static Lib.Math.min.name, .initialized "java/lang/Math", .code Lib.Math.min.name Lib.Math.min.code 2 (some .int), .methodLink RX3 32 yX3_nextPupil, .instanceMethod yX3_nextPupil, .selects RX3 yX3_nextPupil yX3_nextPupil, .initialized RX3, .code yX3_nextPupil cX3_nextPupil 2 (some .int), .fieldLink RX3 21 "FavourRings$Rings" "members" "[I", .static yX4_at, .initialized RX4, .code yX4_at cX4_at 2 (some .int), .methodLink RX3 36 yX3_pupilBehind, .instanceMethod yX3_pupilBehind, .selects RX3 yX3_pupilBehind yX3_pupilBehind, .code yX3_pupilBehind cX3_pupilBehind 2 (some .int), .methodLink RX3 39 yX3_owedBetween, .instanceMethod yX3_owedBetween, .selects RX3 yX3_owedBetween yX3_owedBetween, .code yX3_owedBetween cX3_owedBetween 4 (some .int), .fieldLink RX3 9 "FavourRings$Rings" "owed" "[I"] ++ wsX30)
def wsX3_clearKind_r1 : List Cond := [Cond.constant RX3 60 (-1000001), Cond.fieldLink RX3 24 "FavourRings$Rings" "length" "I", Cond.static yX4_isKind, Cond.initialized RX4, Cond.code yX4_isKind cX4_isKind 1 (some .boolean), Cond.methodLink RX3 61 yX3_findNext, Cond.instanceMethod yX3_findNext, Cond.selects RX3 yX3_findNext yX3_findNext, Cond.initialized RX3, Cond.code yX3_findNext cX3_findNext 6 (some .boolean), Cond.fieldLink RX3 21 "FavourRings$Rings" "members" "[I", Cond.methodLink RX3 48 yX3_readOwed, Cond.instanceMethod yX3_readOwed, Cond.selects RX3 yX3_readOwed yX3_readOwed, Cond.code yX3_readOwed cX3_readOwed 5 none, Cond.fieldLink RX3 9 "FavourRings$Rings" "owed" "[I", Cond.methodLink RX3 91 yX0_number, Cond.instanceMethod yX0_number, Cond.selects RX0 yX0_number yX0_number, Cond.initialized RX0, Cond.code yX0_number cX0_number 2 (some .int), Cond.fieldLink RX0 9 "FavourRings$Bank" "numbers" "[I", Cond.methodLink RX3 94 yX0_isLotOf, Cond.instanceMethod yX0_isLotOf]
def wsX3_clearKind_r2 : List Cond := [Cond.selects RX0 yX0_isLotOf yX0_isLotOf, Cond.code yX0_isLotOf cX0_isLotOf 5 (some .boolean), Cond.fieldLink RX0 33 "FavourRings$Bank" "debtors" "[I", Cond.fieldLink RX0 36 "FavourRings$Bank" "creditors" "[I", Cond.fieldLink RX0 39 "FavourRings$Bank" "kinds" "[I", Cond.static yX4_at, Cond.code yX4_at cX4_at 2 (some .int), Cond.static yX4_add, Cond.code yX4_add cX4_add 3 none, Cond.methodLink RX3 52 yX3_measureSteps, Cond.instanceMethod yX3_measureSteps, Cond.selects RX3 yX3_measureSteps yX3_measureSteps, Cond.code yX3_measureSteps cX3_measureSteps 7 none, Cond.fieldLink RX3 15 "FavourRings$Rings" "steps" "[I", Cond.fieldLink RX3 18 "FavourRings$Rings" "queue" "[I", Cond.static yX4_put, Cond.code yX4_put cX4_put 3 none, Cond.methodLink RX3 39 yX3_owedBetween, Cond.instanceMethod yX3_owedBetween, Cond.selects RX3 yX3_owedBetween yX3_owedBetween, Cond.code yX3_owedBetween cX3_owedBetween 4 (some .int), Cond.methodLink RX3 81 yX3_shortestFrom, Cond.instanceMethod yX3_shortestFrom, Cond.selects RX3 yX3_shortestFrom yX3_shortestFrom]
def wsX3_clearKind_r3 : List Cond := [Cond.code yX3_shortestFrom cX3_shortestFrom 6 (some .int), Cond.methodLink RX3 32 yX3_nextPupil, Cond.instanceMethod yX3_nextPupil, Cond.selects RX3 yX3_nextPupil yX3_nextPupil, Cond.code yX3_nextPupil cX3_nextPupil 2 (some .int), Cond.methodLink RX3 88 yX3_lowestBehind, Cond.instanceMethod yX3_lowestBehind, Cond.selects RX3 yX3_lowestBehind yX3_lowestBehind, Cond.code yX3_lowestBehind cX3_lowestBehind 4 (some .int), Cond.methodLink RX3 65 yX3_nextAmount, Cond.instanceMethod yX3_nextAmount, Cond.selects RX3 yX3_nextAmount yX3_nextAmount, Cond.code yX3_nextAmount cX3_nextAmount 4 (some .int), Cond.methodLink RX3 43 Lib.Math.min.name, Cond.static Lib.Math.min.name, Cond.initialized "java/lang/Math", Cond.code Lib.Math.min.name Lib.Math.min.code 2 (some .int), Cond.methodLink RX3 36 yX3_pupilBehind, Cond.instanceMethod yX3_pupilBehind, Cond.selects RX3 yX3_pupilBehind yX3_pupilBehind, Cond.code yX3_pupilBehind cX3_pupilBehind 2 (some .int), Cond.methodLink RX3 69 yX0_takeFavours, Cond.instanceMethod yX0_takeFavours, Cond.selects RX0 yX0_takeFavours yX0_takeFavours]
def wsX3_clearKind_r4 : List Cond := [Cond.code yX0_takeFavours cX0_takeFavours 9 none, Cond.fieldLink RX0 42 "FavourRings$Bank" "sizes" "[I", Cond.methodLink RX0 107 Lib.Math.min.name, Cond.methodLink RX0 110 yX0_firstToTake, Cond.instanceMethod yX0_firstToTake, Cond.selects RX0 yX0_firstToTake yX0_firstToTake, Cond.code yX0_firstToTake cX0_firstToTake 6 (some .int), Cond.fieldLink RX0 45 "FavourRings$Bank" "ages" "[I", Cond.methodLink RX0 63 yX0_number, Cond.methodLink RX0 94 yX0_isLotOf, Cond.methodLink RX0 113 yX0_dropEmptyLots, Cond.instanceMethod yX0_dropEmptyLots, Cond.selects RX0 yX0_dropEmptyLots yX0_dropEmptyLots, Cond.code yX0_dropEmptyLots cX0_dropEmptyLots 3 none, Cond.fieldLink RX0 48 "FavourRings$Bank" "passed" "[I", Cond.methodLink RX3 75 yX0_countCleared, Cond.instanceMethod yX0_countCleared, Cond.selects RX0 yX0_countCleared yX0_countCleared, Cond.code yX0_countCleared cX0_countCleared 3 none, Cond.fieldLink RX0 30 "FavourRings$Bank" "cleared" "[I", Cond.methodLink RX3 78 yX0_countRing, Cond.instanceMethod yX0_countRing, Cond.selects RX0 yX0_countRing yX0_countRing, Cond.code yX0_countRing cX0_countRing 1 none]
def wsX3_clearKind : List Cond := .code yX3_clearKind cX3_clearKind 7 (some .int) :: ((wsX3_clearKind_r1 ++ (wsX3_clearKind_r2 ++ (wsX3_clearKind_r3 ++ wsX3_clearKind_r4))) ++ wsX30 ++ wsX00)
def wsX2_doOrder_r1 : List Cond := [Cond.fieldLink RX2 15 "FavourRings$Orders" "numbers" "[I", Cond.static yX4_at, Cond.initialized RX4, Cond.code yX4_at cX4_at 2 (some .int), Cond.methodLink RX2 63 yX0_lendFavours, Cond.instanceMethod yX0_lendFavours, Cond.selects RX0 yX0_lendFavours yX0_lendFavours, Cond.initialized RX0, Cond.code yX0_lendFavours cX0_lendFavours 5 (some .int), Cond.constant RX0 93 (-1000001), Cond.constant RX0 125 (-1000002), Cond.constant RX0 85 (-1000003), Cond.fieldLink RX0 15 "FavourRings$Bank" "came" "[I", Cond.fieldLink RX0 9 "FavourRings$Bank" "numbers" "[I", Cond.methodLink RX0 89 yX0_isPair, Cond.instanceMethod yX0_isPair, Cond.selects RX0 yX0_isPair yX0_isPair, Cond.code yX0_isPair cX0_isPair 3 (some .boolean), Cond.methodLink RX0 66 yX0_isPupil, Cond.instanceMethod yX0_isPupil, Cond.selects RX0 yX0_isPupil yX0_isPupil, Cond.code yX0_isPupil cX0_isPupil 2 (some .boolean), Cond.methodLink RX0 63 yX0_number, Cond.instanceMethod yX0_number]
def wsX2_doOrder_r2 : List Cond := [Cond.selects RX0 yX0_number yX0_number, Cond.code yX0_number cX0_number 2 (some .int), Cond.static yX4_isKind, Cond.code yX4_isKind cX4_isKind 1 (some .boolean), Cond.static yX4_isMany, Cond.code yX4_isMany cX4_isMany 1 (some .boolean), Cond.methodLink RX0 122 yX0_reasonAgainst, Cond.instanceMethod yX0_reasonAgainst, Cond.selects RX0 yX0_reasonAgainst yX0_reasonAgainst, Cond.code yX0_reasonAgainst cX0_reasonAgainst 4 (some .int), Cond.fieldLink RX0 21 "FavourRings$Bank" "spoiled" "[I", Cond.methodLink RX0 70 yX0_sumOwed, Cond.instanceMethod yX0_sumOwed, Cond.selects RX0 yX0_sumOwed yX0_sumOwed, Cond.code yX0_sumOwed cX0_sumOwed 6 (some .int), Cond.fieldLink RX0 42 "FavourRings$Bank" "sizes" "[I", Cond.methodLink RX0 94 yX0_isLotOf, Cond.instanceMethod yX0_isLotOf, Cond.selects RX0 yX0_isLotOf yX0_isLotOf, Cond.code yX0_isLotOf cX0_isLotOf 5 (some .boolean), Cond.fieldLink RX0 33 "FavourRings$Bank" "debtors" "[I", Cond.fieldLink RX0 36 "FavourRings$Bank" "creditors" "[I", Cond.fieldLink RX0 39 "FavourRings$Bank" "kinds" "[I", Cond.methodLink RX0 81 yX0_guarantorOf]
def wsX2_doOrder_r3 : List Cond := [Cond.instanceMethod yX0_guarantorOf, Cond.selects RX0 yX0_guarantorOf yX0_guarantorOf, Cond.code yX0_guarantorOf cX0_guarantorOf 2 (some .int), Cond.fieldLink RX0 24 "FavourRings$Bank" "guarantors" "[I", Cond.methodLink RX0 126 yX0_addLot, Cond.instanceMethod yX0_addLot, Cond.selects RX0 yX0_addLot yX0_addLot, Cond.code yX0_addLot cX0_addLot 6 none, Cond.fieldLink RX0 45 "FavourRings$Bank" "ages" "[I", Cond.fieldLink RX0 48 "FavourRings$Bank" "passed" "[I", Cond.static yX4_put, Cond.code yX4_put cX4_put 3 none, Cond.static yX4_add, Cond.code yX4_add cX4_add 3 none, Cond.methodLink RX2 69 yX0_fulfilFavours, Cond.instanceMethod yX0_fulfilFavours, Cond.selects RX0 yX0_fulfilFavours yX0_fulfilFavours, Cond.code yX0_fulfilFavours cX0_fulfilFavours 5 (some .int), Cond.fieldLink RX0 18 "FavourRings$Bank" "done" "[I", Cond.methodLink RX0 130 yX0_takeFavours, Cond.instanceMethod yX0_takeFavours, Cond.selects RX0 yX0_takeFavours yX0_takeFavours, Cond.code yX0_takeFavours cX0_takeFavours 9 none, Cond.methodLink RX0 107 Lib.Math.min.name]
def wsX2_doOrder_r4 : List Cond := [Cond.static Lib.Math.min.name, Cond.initialized "java/lang/Math", Cond.code Lib.Math.min.name Lib.Math.min.code 2 (some .int), Cond.methodLink RX0 110 yX0_firstToTake, Cond.instanceMethod yX0_firstToTake, Cond.selects RX0 yX0_firstToTake yX0_firstToTake, Cond.code yX0_firstToTake cX0_firstToTake 6 (some .int), Cond.methodLink RX0 113 yX0_dropEmptyLots, Cond.instanceMethod yX0_dropEmptyLots, Cond.selects RX0 yX0_dropEmptyLots yX0_dropEmptyLots, Cond.code yX0_dropEmptyLots cX0_dropEmptyLots 3 none, Cond.methodLink RX2 72 yX0_giveGuarantor, Cond.instanceMethod yX0_giveGuarantor, Cond.selects RX0 yX0_giveGuarantor yX0_giveGuarantor, Cond.code yX0_giveGuarantor cX0_giveGuarantor 4 (some .int), Cond.methodLink RX2 76 yX3_clearKind, Cond.instanceMethod yX3_clearKind, Cond.selects RX3 yX3_clearKind yX3_clearKind, Cond.initialized RX3, Cond.code yX3_clearKind cX3_clearKind 7 (some .int), Cond.constant RX3 60 (-1000001), Cond.fieldLink RX3 24 "FavourRings$Rings" "length" "I", Cond.methodLink RX3 61 yX3_findNext, Cond.instanceMethod yX3_findNext]
def wsX2_doOrder_r5 : List Cond := [Cond.selects RX3 yX3_findNext yX3_findNext, Cond.code yX3_findNext cX3_findNext 6 (some .boolean), Cond.fieldLink RX3 21 "FavourRings$Rings" "members" "[I", Cond.methodLink RX3 48 yX3_readOwed, Cond.instanceMethod yX3_readOwed, Cond.selects RX3 yX3_readOwed yX3_readOwed, Cond.code yX3_readOwed cX3_readOwed 5 none, Cond.fieldLink RX3 9 "FavourRings$Rings" "owed" "[I", Cond.methodLink RX3 91 yX0_number, Cond.methodLink RX3 94 yX0_isLotOf, Cond.methodLink RX3 52 yX3_measureSteps, Cond.instanceMethod yX3_measureSteps, Cond.selects RX3 yX3_measureSteps yX3_measureSteps, Cond.code yX3_measureSteps cX3_measureSteps 7 none, Cond.fieldLink RX3 15 "FavourRings$Rings" "steps" "[I", Cond.fieldLink RX3 18 "FavourRings$Rings" "queue" "[I", Cond.methodLink RX3 39 yX3_owedBetween, Cond.instanceMethod yX3_owedBetween, Cond.selects RX3 yX3_owedBetween yX3_owedBetween, Cond.code yX3_owedBetween cX3_owedBetween 4 (some .int), Cond.methodLink RX3 81 yX3_shortestFrom, Cond.instanceMethod yX3_shortestFrom, Cond.selects RX3 yX3_shortestFrom yX3_shortestFrom, Cond.code yX3_shortestFrom cX3_shortestFrom 6 (some .int)]
def wsX2_doOrder_r6 : List Cond := [Cond.methodLink RX3 32 yX3_nextPupil, Cond.instanceMethod yX3_nextPupil, Cond.selects RX3 yX3_nextPupil yX3_nextPupil, Cond.code yX3_nextPupil cX3_nextPupil 2 (some .int), Cond.methodLink RX3 88 yX3_lowestBehind, Cond.instanceMethod yX3_lowestBehind, Cond.selects RX3 yX3_lowestBehind yX3_lowestBehind, Cond.code yX3_lowestBehind cX3_lowestBehind 4 (some .int), Cond.methodLink RX3 65 yX3_nextAmount, Cond.instanceMethod yX3_nextAmount, Cond.selects RX3 yX3_nextAmount yX3_nextAmount, Cond.code yX3_nextAmount cX3_nextAmount 4 (some .int), Cond.methodLink RX3 43 Lib.Math.min.name, Cond.methodLink RX3 36 yX3_pupilBehind, Cond.instanceMethod yX3_pupilBehind, Cond.selects RX3 yX3_pupilBehind yX3_pupilBehind, Cond.code yX3_pupilBehind cX3_pupilBehind 2 (some .int), Cond.methodLink RX3 69 yX0_takeFavours, Cond.methodLink RX3 75 yX0_countCleared, Cond.instanceMethod yX0_countCleared, Cond.selects RX0 yX0_countCleared yX0_countCleared, Cond.code yX0_countCleared cX0_countCleared 3 none, Cond.fieldLink RX0 30 "FavourRings$Bank" "cleared" "[I", Cond.methodLink RX3 78 yX0_countRing]
def wsX2_doOrder_r7 : List Cond := [Cond.instanceMethod yX0_countRing, Cond.selects RX0 yX0_countRing yX0_countRing, Cond.code yX0_countRing cX0_countRing 1 none, Cond.methodLink RX2 82 yX0_endWeeks, Cond.instanceMethod yX0_endWeeks, Cond.selects RX0 yX0_endWeeks yX0_endWeeks, Cond.code yX0_endWeeks cX0_endWeeks 4 (some .int), Cond.methodLink RX0 133 yX0_endWeek, Cond.instanceMethod yX0_endWeek, Cond.selects RX0 yX0_endWeek yX0_endWeek, Cond.code yX0_endWeek cX0_endWeek 2 none, Cond.methodLink RX0 136 yX0_hasHolidays, Cond.instanceMethod yX0_hasHolidays, Cond.selects RX0 yX0_hasHolidays yX0_hasHolidays, Cond.code yX0_hasHolidays cX0_hasHolidays 1 (some .boolean), Cond.methodLink RX0 98 yX0_weeksLeft, Cond.instanceMethod yX0_weeksLeft, Cond.selects RX0 yX0_weeksLeft yX0_weeksLeft, Cond.code yX0_weeksLeft cX0_weeksLeft 2 (some .int), Cond.methodLink RX0 140 yX0_passToGuarantor, Cond.instanceMethod yX0_passToGuarantor, Cond.selects RX0 yX0_passToGuarantor yX0_passToGuarantor, Cond.code yX0_passToGuarantor cX0_passToGuarantor 5 (some .boolean), Cond.fieldLink RX0 27 "FavourRings$Bank" "takenOver" "[I"]
def wsX2_doOrder_r8 : List Cond := [Cond.methodLink RX0 143 yX0_spoilLot, Cond.instanceMethod yX0_spoilLot, Cond.selects RX0 yX0_spoilLot yX0_spoilLot, Cond.code yX0_spoilLot cX0_spoilLot 4 none, Cond.methodLink RX2 85 yX0_hasHolidays, Cond.methodLink RX2 89 yX0_turnHolidays, Cond.instanceMethod yX0_turnHolidays, Cond.selects RX0 yX0_turnHolidays yX0_turnHolidays, Cond.code yX0_turnHolidays cX0_turnHolidays 3 (some .int)]
def wsX2_doOrder : List Cond := .code yX2_doOrder cX2_doOrder 6 (some .int) :: ((wsX2_doOrder_r1 ++ (wsX2_doOrder_r2 ++ (wsX2_doOrder_r3 ++ (wsX2_doOrder_r4 ++ (wsX2_doOrder_r5 ++ (wsX2_doOrder_r6 ++ (wsX2_doOrder_r7 ++ wsX2_doOrder_r8))))))) ++ wsX20 ++ wsX00 ++ wsX30)
def wsX2_doAll_r1 : List Cond := [Cond.fieldLink RX2 22 "FavourRings$Orders" "done" "I", Cond.fieldLink RX2 18 "FavourRings$Orders" "length" "I", Cond.fieldLink RX2 44 "FavourRings$Orders" "place" "I", Cond.methodLink RX2 40 yX2_readOrder, Cond.instanceMethod yX2_readOrder, Cond.selects RX2 yX2_readOrder yX2_readOrder, Cond.initialized RX2, Cond.code yX2_readOrder cX2_readOrder 4 (some .boolean), Cond.methodLink RX2 51 yX2_signAt, Cond.instanceMethod yX2_signAt, Cond.selects RX2 yX2_signAt yX2_signAt, Cond.code yX2_signAt cX2_signAt 2 (some .int), Cond.fieldLink RX2 9 "FavourRings$Orders" "text" "[I", Cond.static yX4_at, Cond.initialized RX4, Cond.code yX4_at cX4_at 2 (some .int), Cond.methodLink RX2 93 yX2_numbersAfter, Cond.static yX2_numbersAfter, Cond.code yX2_numbersAfter cX2_numbersAfter 1 (some .int), Cond.methodLink RX2 96 yX2_passSign, Cond.instanceMethod yX2_passSign, Cond.selects RX2 yX2_passSign yX2_passSign, Cond.code yX2_passSign cX2_passSign 2 (some .boolean), Cond.methodLink RX2 99 yX2_readNumber]
def wsX2_doAll_r2 : List Cond := [Cond.instanceMethod yX2_readNumber, Cond.selects RX2 yX2_readNumber yX2_readNumber, Cond.code yX2_readNumber cX2_readNumber 4 (some .boolean), Cond.fieldLink RX2 15 "FavourRings$Orders" "numbers" "[I", Cond.methodLink RX2 102 yX2_isDigit, Cond.static yX2_isDigit, Cond.code yX2_isDigit cX2_isDigit 1 (some .boolean), Cond.static yX4_put, Cond.code yX4_put cX4_put 3 none, Cond.methodLink RX2 47 yX2_noteFault, Cond.instanceMethod yX2_noteFault, Cond.selects RX2 yX2_noteFault yX2_noteFault, Cond.code yX2_noteFault cX2_noteFault 4 (some .boolean), Cond.fieldLink RX2 25 "FavourRings$Orders" "faultPlace" "I", Cond.fieldLink RX2 28 "FavourRings$Orders" "faultReason" "I", Cond.fieldLink RX2 31 "FavourRings$Orders" "faultCause" "I", Cond.methodLink RX2 55 yX2_doOrder, Cond.instanceMethod yX2_doOrder, Cond.selects RX2 yX2_doOrder yX2_doOrder, Cond.code yX2_doOrder cX2_doOrder 6 (some .int), Cond.methodLink RX2 63 yX0_lendFavours, Cond.instanceMethod yX0_lendFavours, Cond.selects RX0 yX0_lendFavours yX0_lendFavours, Cond.initialized RX0]
def wsX2_doAll_r3 : List Cond := [Cond.code yX0_lendFavours cX0_lendFavours 5 (some .int), Cond.constant RX0 93 (-1000001), Cond.constant RX0 125 (-1000002), Cond.constant RX0 85 (-1000003), Cond.fieldLink RX0 15 "FavourRings$Bank" "came" "[I", Cond.fieldLink RX0 9 "FavourRings$Bank" "numbers" "[I", Cond.methodLink RX0 89 yX0_isPair, Cond.instanceMethod yX0_isPair, Cond.selects RX0 yX0_isPair yX0_isPair, Cond.code yX0_isPair cX0_isPair 3 (some .boolean), Cond.methodLink RX0 66 yX0_isPupil, Cond.instanceMethod yX0_isPupil, Cond.selects RX0 yX0_isPupil yX0_isPupil, Cond.code yX0_isPupil cX0_isPupil 2 (some .boolean), Cond.methodLink RX0 63 yX0_number, Cond.instanceMethod yX0_number, Cond.selects RX0 yX0_number yX0_number, Cond.code yX0_number cX0_number 2 (some .int), Cond.static yX4_isKind, Cond.code yX4_isKind cX4_isKind 1 (some .boolean), Cond.static yX4_isMany, Cond.code yX4_isMany cX4_isMany 1 (some .boolean), Cond.methodLink RX0 122 yX0_reasonAgainst, Cond.instanceMethod yX0_reasonAgainst]
def wsX2_doAll_r4 : List Cond := [Cond.selects RX0 yX0_reasonAgainst yX0_reasonAgainst, Cond.code yX0_reasonAgainst cX0_reasonAgainst 4 (some .int), Cond.fieldLink RX0 21 "FavourRings$Bank" "spoiled" "[I", Cond.methodLink RX0 70 yX0_sumOwed, Cond.instanceMethod yX0_sumOwed, Cond.selects RX0 yX0_sumOwed yX0_sumOwed, Cond.code yX0_sumOwed cX0_sumOwed 6 (some .int), Cond.fieldLink RX0 42 "FavourRings$Bank" "sizes" "[I", Cond.methodLink RX0 94 yX0_isLotOf, Cond.instanceMethod yX0_isLotOf, Cond.selects RX0 yX0_isLotOf yX0_isLotOf, Cond.code yX0_isLotOf cX0_isLotOf 5 (some .boolean), Cond.fieldLink RX0 33 "FavourRings$Bank" "debtors" "[I", Cond.fieldLink RX0 36 "FavourRings$Bank" "creditors" "[I", Cond.fieldLink RX0 39 "FavourRings$Bank" "kinds" "[I", Cond.methodLink RX0 81 yX0_guarantorOf, Cond.instanceMethod yX0_guarantorOf, Cond.selects RX0 yX0_guarantorOf yX0_guarantorOf, Cond.code yX0_guarantorOf cX0_guarantorOf 2 (some .int), Cond.fieldLink RX0 24 "FavourRings$Bank" "guarantors" "[I", Cond.methodLink RX0 126 yX0_addLot, Cond.instanceMethod yX0_addLot, Cond.selects RX0 yX0_addLot yX0_addLot, Cond.code yX0_addLot cX0_addLot 6 none]
def wsX2_doAll_r5 : List Cond := [Cond.fieldLink RX0 45 "FavourRings$Bank" "ages" "[I", Cond.fieldLink RX0 48 "FavourRings$Bank" "passed" "[I", Cond.static yX4_add, Cond.code yX4_add cX4_add 3 none, Cond.methodLink RX2 69 yX0_fulfilFavours, Cond.instanceMethod yX0_fulfilFavours, Cond.selects RX0 yX0_fulfilFavours yX0_fulfilFavours, Cond.code yX0_fulfilFavours cX0_fulfilFavours 5 (some .int), Cond.fieldLink RX0 18 "FavourRings$Bank" "done" "[I", Cond.methodLink RX0 130 yX0_takeFavours, Cond.instanceMethod yX0_takeFavours, Cond.selects RX0 yX0_takeFavours yX0_takeFavours, Cond.code yX0_takeFavours cX0_takeFavours 9 none, Cond.methodLink RX0 107 Lib.Math.min.name, Cond.static Lib.Math.min.name, Cond.initialized "java/lang/Math", Cond.code Lib.Math.min.name Lib.Math.min.code 2 (some .int), Cond.methodLink RX0 110 yX0_firstToTake, Cond.instanceMethod yX0_firstToTake, Cond.selects RX0 yX0_firstToTake yX0_firstToTake, Cond.code yX0_firstToTake cX0_firstToTake 6 (some .int), Cond.methodLink RX0 113 yX0_dropEmptyLots, Cond.instanceMethod yX0_dropEmptyLots, Cond.selects RX0 yX0_dropEmptyLots yX0_dropEmptyLots]
def wsX2_doAll_r6 : List Cond := [Cond.code yX0_dropEmptyLots cX0_dropEmptyLots 3 none, Cond.methodLink RX2 72 yX0_giveGuarantor, Cond.instanceMethod yX0_giveGuarantor, Cond.selects RX0 yX0_giveGuarantor yX0_giveGuarantor, Cond.code yX0_giveGuarantor cX0_giveGuarantor 4 (some .int), Cond.methodLink RX2 76 yX3_clearKind, Cond.instanceMethod yX3_clearKind, Cond.selects RX3 yX3_clearKind yX3_clearKind, Cond.initialized RX3, Cond.code yX3_clearKind cX3_clearKind 7 (some .int), Cond.constant RX3 60 (-1000001), Cond.fieldLink RX3 24 "FavourRings$Rings" "length" "I", Cond.methodLink RX3 61 yX3_findNext, Cond.instanceMethod yX3_findNext, Cond.selects RX3 yX3_findNext yX3_findNext, Cond.code yX3_findNext cX3_findNext 6 (some .boolean), Cond.fieldLink RX3 21 "FavourRings$Rings" "members" "[I", Cond.methodLink RX3 48 yX3_readOwed, Cond.instanceMethod yX3_readOwed, Cond.selects RX3 yX3_readOwed yX3_readOwed, Cond.code yX3_readOwed cX3_readOwed 5 none, Cond.fieldLink RX3 9 "FavourRings$Rings" "owed" "[I", Cond.methodLink RX3 91 yX0_number, Cond.methodLink RX3 94 yX0_isLotOf]
def wsX2_doAll_r7 : List Cond := [Cond.methodLink RX3 52 yX3_measureSteps, Cond.instanceMethod yX3_measureSteps, Cond.selects RX3 yX3_measureSteps yX3_measureSteps, Cond.code yX3_measureSteps cX3_measureSteps 7 none, Cond.fieldLink RX3 15 "FavourRings$Rings" "steps" "[I", Cond.fieldLink RX3 18 "FavourRings$Rings" "queue" "[I", Cond.methodLink RX3 39 yX3_owedBetween, Cond.instanceMethod yX3_owedBetween, Cond.selects RX3 yX3_owedBetween yX3_owedBetween, Cond.code yX3_owedBetween cX3_owedBetween 4 (some .int), Cond.methodLink RX3 81 yX3_shortestFrom, Cond.instanceMethod yX3_shortestFrom, Cond.selects RX3 yX3_shortestFrom yX3_shortestFrom, Cond.code yX3_shortestFrom cX3_shortestFrom 6 (some .int), Cond.methodLink RX3 32 yX3_nextPupil, Cond.instanceMethod yX3_nextPupil, Cond.selects RX3 yX3_nextPupil yX3_nextPupil, Cond.code yX3_nextPupil cX3_nextPupil 2 (some .int), Cond.methodLink RX3 88 yX3_lowestBehind, Cond.instanceMethod yX3_lowestBehind, Cond.selects RX3 yX3_lowestBehind yX3_lowestBehind, Cond.code yX3_lowestBehind cX3_lowestBehind 4 (some .int), Cond.methodLink RX3 65 yX3_nextAmount, Cond.instanceMethod yX3_nextAmount]
def wsX2_doAll_r8 : List Cond := [Cond.selects RX3 yX3_nextAmount yX3_nextAmount, Cond.code yX3_nextAmount cX3_nextAmount 4 (some .int), Cond.methodLink RX3 43 Lib.Math.min.name, Cond.methodLink RX3 36 yX3_pupilBehind, Cond.instanceMethod yX3_pupilBehind, Cond.selects RX3 yX3_pupilBehind yX3_pupilBehind, Cond.code yX3_pupilBehind cX3_pupilBehind 2 (some .int), Cond.methodLink RX3 69 yX0_takeFavours, Cond.methodLink RX3 75 yX0_countCleared, Cond.instanceMethod yX0_countCleared, Cond.selects RX0 yX0_countCleared yX0_countCleared, Cond.code yX0_countCleared cX0_countCleared 3 none, Cond.fieldLink RX0 30 "FavourRings$Bank" "cleared" "[I", Cond.methodLink RX3 78 yX0_countRing, Cond.instanceMethod yX0_countRing, Cond.selects RX0 yX0_countRing yX0_countRing, Cond.code yX0_countRing cX0_countRing 1 none, Cond.methodLink RX2 82 yX0_endWeeks, Cond.instanceMethod yX0_endWeeks, Cond.selects RX0 yX0_endWeeks yX0_endWeeks, Cond.code yX0_endWeeks cX0_endWeeks 4 (some .int), Cond.methodLink RX0 133 yX0_endWeek, Cond.instanceMethod yX0_endWeek, Cond.selects RX0 yX0_endWeek yX0_endWeek]
def wsX2_doAll_r9 : List Cond := [Cond.code yX0_endWeek cX0_endWeek 2 none, Cond.methodLink RX0 136 yX0_hasHolidays, Cond.instanceMethod yX0_hasHolidays, Cond.selects RX0 yX0_hasHolidays yX0_hasHolidays, Cond.code yX0_hasHolidays cX0_hasHolidays 1 (some .boolean), Cond.methodLink RX0 98 yX0_weeksLeft, Cond.instanceMethod yX0_weeksLeft, Cond.selects RX0 yX0_weeksLeft yX0_weeksLeft, Cond.code yX0_weeksLeft cX0_weeksLeft 2 (some .int), Cond.methodLink RX0 140 yX0_passToGuarantor, Cond.instanceMethod yX0_passToGuarantor, Cond.selects RX0 yX0_passToGuarantor yX0_passToGuarantor, Cond.code yX0_passToGuarantor cX0_passToGuarantor 5 (some .boolean), Cond.fieldLink RX0 27 "FavourRings$Bank" "takenOver" "[I", Cond.methodLink RX0 143 yX0_spoilLot, Cond.instanceMethod yX0_spoilLot, Cond.selects RX0 yX0_spoilLot yX0_spoilLot, Cond.code yX0_spoilLot cX0_spoilLot 4 none, Cond.methodLink RX2 85 yX0_hasHolidays, Cond.methodLink RX2 89 yX0_turnHolidays, Cond.instanceMethod yX0_turnHolidays, Cond.selects RX0 yX0_turnHolidays yX0_turnHolidays, Cond.code yX0_turnHolidays cX0_turnHolidays 3 (some .int)]
def wsX2_doAll : List Cond := .code yX2_doAll cX2_doAll 6 (some .boolean) :: ((wsX2_doAll_r1 ++ (wsX2_doAll_r2 ++ (wsX2_doAll_r3 ++ (wsX2_doAll_r4 ++ (wsX2_doAll_r5 ++ (wsX2_doAll_r6 ++ (wsX2_doAll_r7 ++ (wsX2_doAll_r8 ++ wsX2_doAll_r9)))))))) ++ wsX20 ++ wsX00 ++ wsX30)
def wsX3_init : List Cond := .code yX3_init cX3_init 1 none :: ([.methodLink RX3 3 objectInit, .instanceMethod objectInit, .code objectInit ⟨#[0xb1]⟩ 1 none, .arrayClass .int, .fieldLink RX3 9 "FavourRings$Rings" "owed" "[I", .fieldLink RX3 15 "FavourRings$Rings" "steps" "[I", .fieldLink RX3 18 "FavourRings$Rings" "queue" "[I", .fieldLink RX3 21 "FavourRings$Rings" "members" "[I"] ++ wsX30)
def wsX3_nextLength : List Cond := .code yX3_nextLength cX3_nextLength 1 (some .int) :: ([.fieldLink RX3 24 "FavourRings$Rings" "length" "I"] ++ wsX30)
def wsX3_stepsBetween_r1 : List Cond := [Cond.fieldLink RX3 15 "FavourRings$Rings" "steps" "[I", Cond.methodLink RX3 48 yX3_readOwed, Cond.instanceMethod yX3_readOwed, Cond.selects RX3 yX3_readOwed yX3_readOwed, Cond.initialized RX3, Cond.code yX3_readOwed cX3_readOwed 5 none, Cond.fieldLink RX3 9 "FavourRings$Rings" "owed" "[I", Cond.methodLink RX3 91 yX0_number, Cond.instanceMethod yX0_number, Cond.selects RX0 yX0_number yX0_number, Cond.initialized RX0, Cond.code yX0_number cX0_number 2 (some .int), Cond.fieldLink RX0 9 "FavourRings$Bank" "numbers" "[I", Cond.methodLink RX3 94 yX0_isLotOf, Cond.instanceMethod yX0_isLotOf, Cond.selects RX0 yX0_isLotOf yX0_isLotOf, Cond.code yX0_isLotOf cX0_isLotOf 5 (some .boolean), Cond.fieldLink RX0 33 "FavourRings$Bank" "debtors" "[I", Cond.fieldLink RX0 36 "FavourRings$Bank" "creditors" "[I", Cond.fieldLink RX0 39 "FavourRings$Bank" "kinds" "[I", Cond.static yX4_at, Cond.initialized RX4, Cond.code yX4_at cX4_at 2 (some .int), Cond.static yX4_add]
def wsX3_stepsBetween_r2 : List Cond := [Cond.code yX4_add cX4_add 3 none, Cond.methodLink RX3 52 yX3_measureSteps, Cond.instanceMethod yX3_measureSteps, Cond.selects RX3 yX3_measureSteps yX3_measureSteps, Cond.code yX3_measureSteps cX3_measureSteps 7 none, Cond.fieldLink RX3 18 "FavourRings$Rings" "queue" "[I", Cond.static yX4_put, Cond.code yX4_put cX4_put 3 none, Cond.methodLink RX3 39 yX3_owedBetween, Cond.instanceMethod yX3_owedBetween, Cond.selects RX3 yX3_owedBetween yX3_owedBetween, Cond.code yX3_owedBetween cX3_owedBetween 4 (some .int)]
def wsX3_stepsBetween : List Cond := .code yX3_stepsBetween cX3_stepsBetween 5 (some .int) :: ((wsX3_stepsBetween_r1 ++ wsX3_stepsBetween_r2) ++ wsX30 ++ wsX00)
def wsX4_init_r1 : List Cond := [Cond.methodLink RX4 1 objectInit, Cond.instanceMethod objectInit, Cond.code objectInit ⟨#[0xb1]⟩ 1 none, Cond.classLink RX4 7 RX0, Cond.instantiable RX0 13, Cond.initialized RX0, Cond.fieldLink RX4 10 "FavourRings" "bank" "LFavourRings$Bank;", Cond.fieldLink RX4 16 "FavourRings" "trial" "LFavourRings$Bank;", Cond.classLink RX4 19 RX1, Cond.instantiable RX1 2, Cond.initialized RX1, Cond.fieldLink RX4 22 "FavourRings" "history" "LFavourRings$History;", Cond.classLink RX4 26 RX3, Cond.instantiable RX3 5, Cond.initialized RX3, Cond.fieldLink RX4 29 "FavourRings" "rings" "LFavourRings$Rings;", Cond.classLink RX4 33 RX2, Cond.instantiable RX2 8, Cond.initialized RX2, Cond.fieldLink RX4 36 "FavourRings" "orders" "LFavourRings$Orders;", Cond.methodLink RX4 9 yX0_init, Cond.instanceMethod yX0_init, Cond.code yX0_init cX0_init 2 none, Cond.methodLink RX0 3 objectInit]
def wsX4_init_r2 : List Cond := [Cond.arrayClass .int, Cond.fieldLink RX0 9 "FavourRings$Bank" "numbers" "[I", Cond.fieldLink RX0 15 "FavourRings$Bank" "came" "[I", Cond.fieldLink RX0 18 "FavourRings$Bank" "done" "[I", Cond.fieldLink RX0 21 "FavourRings$Bank" "spoiled" "[I", Cond.fieldLink RX0 24 "FavourRings$Bank" "guarantors" "[I", Cond.fieldLink RX0 27 "FavourRings$Bank" "takenOver" "[I", Cond.fieldLink RX0 30 "FavourRings$Bank" "cleared" "[I", Cond.fieldLink RX0 33 "FavourRings$Bank" "debtors" "[I", Cond.fieldLink RX0 36 "FavourRings$Bank" "creditors" "[I", Cond.fieldLink RX0 39 "FavourRings$Bank" "kinds" "[I", Cond.fieldLink RX0 42 "FavourRings$Bank" "sizes" "[I", Cond.fieldLink RX0 45 "FavourRings$Bank" "ages" "[I", Cond.fieldLink RX0 48 "FavourRings$Bank" "passed" "[I", Cond.static yX4_firstOfSetting, Cond.initialized RX4, Cond.code yX4_firstOfSetting cX4_firstOfSetting 1 (some .int), Cond.static yX4_put, Cond.code yX4_put cX4_put 3 none, Cond.methodLink RX4 21 yX1_init, Cond.instanceMethod yX1_init, Cond.code yX1_init cX1_init 2 none, Cond.methodLink RX1 3 objectInit, Cond.classLink RX1 9 RX0]
def wsX4_init_r3 : List Cond := [Cond.fieldLink RX1 11 "FavourRings$History" "states" "[LFavourRings$Bank;", Cond.methodLink RX1 17 yX0_init, Cond.methodLink RX4 28 yX3_init, Cond.instanceMethod yX3_init, Cond.code yX3_init cX3_init 1 none, Cond.methodLink RX3 3 objectInit, Cond.fieldLink RX3 9 "FavourRings$Rings" "owed" "[I", Cond.fieldLink RX3 15 "FavourRings$Rings" "steps" "[I", Cond.fieldLink RX3 18 "FavourRings$Rings" "queue" "[I", Cond.fieldLink RX3 21 "FavourRings$Rings" "members" "[I", Cond.methodLink RX4 35 yX2_init, Cond.instanceMethod yX2_init, Cond.code yX2_init cX2_init 1 none, Cond.methodLink RX2 3 objectInit, Cond.fieldLink RX2 9 "FavourRings$Orders" "text" "[I", Cond.fieldLink RX2 15 "FavourRings$Orders" "numbers" "[I"]
def wsX4_init : List Cond := .code yX4_init cX4_init 1 none :: ((wsX4_init_r1 ++ (wsX4_init_r2 ++ wsX4_init_r3)) ++ wsX00 ++ wsX40 ++ wsX10 ++ wsX30 ++ wsX20)
def wsX4_freshTrial_r1 : List Cond := [Cond.fieldLink RX4 16 "FavourRings" "trial" "LFavourRings$Bank;", Cond.fieldLink RX4 10 "FavourRings" "bank" "LFavourRings$Bank;", Cond.methodLink RX4 175 yX0_copyFrom, Cond.instanceMethod yX0_copyFrom, Cond.selects RX0 yX0_copyFrom yX0_copyFrom, Cond.initialized RX0, Cond.code yX0_copyFrom cX0_copyFrom 2 none, Cond.fieldLink RX0 9 "FavourRings$Bank" "numbers" "[I", Cond.fieldLink RX0 15 "FavourRings$Bank" "came" "[I", Cond.fieldLink RX0 18 "FavourRings$Bank" "done" "[I", Cond.fieldLink RX0 21 "FavourRings$Bank" "spoiled" "[I", Cond.fieldLink RX0 24 "FavourRings$Bank" "guarantors" "[I", Cond.fieldLink RX0 27 "FavourRings$Bank" "takenOver" "[I", Cond.fieldLink RX0 30 "FavourRings$Bank" "cleared" "[I", Cond.fieldLink RX0 33 "FavourRings$Bank" "debtors" "[I", Cond.fieldLink RX0 36 "FavourRings$Bank" "creditors" "[I", Cond.fieldLink RX0 39 "FavourRings$Bank" "kinds" "[I", Cond.fieldLink RX0 42 "FavourRings$Bank" "sizes" "[I", Cond.fieldLink RX0 45 "FavourRings$Bank" "ages" "[I", Cond.fieldLink RX0 48 "FavourRings$Bank" "passed" "[I", Cond.static yX4_copyRow, Cond.initialized RX4, Cond.code yX4_copyRow cX4_copyRow 2 none, Cond.methodLink RX4 182 Lib.Math.min.name]
def wsX4_freshTrial_r2 : List Cond := [Cond.static Lib.Math.min.name, Cond.initialized "java/lang/Math", Cond.code Lib.Math.min.name Lib.Math.min.code 2 (some .int), Cond.methodLink RX4 187 arraycopyName, Cond.native arraycopyName, Cond.static arraycopyName, Cond.initialized "java/lang/System"]
def wsX4_freshTrial : List Cond := .code yX4_freshTrial cX4_freshTrial 1 (some (.object "FavourRings$Bank")) :: ((wsX4_freshTrial_r1 ++ wsX4_freshTrial_r2) ++ wsX40 ++ wsX00)
def wsX4_settled_r1 : List Cond := [Cond.fieldLink RX4 22 "FavourRings" "history" "LFavourRings$History;", Cond.fieldLink RX4 10 "FavourRings" "bank" "LFavourRings$Bank;", Cond.fieldLink RX4 16 "FavourRings" "trial" "LFavourRings$Bank;", Cond.methodLink RX4 179 yX1_keep, Cond.instanceMethod yX1_keep, Cond.selects RX1 yX1_keep yX1_keep, Cond.initialized RX1, Cond.code yX1_keep cX1_keep 2 none, Cond.fieldLink RX1 18 "FavourRings$History" "size" "I", Cond.fieldLink RX1 11 "FavourRings$History" "states" "[LFavourRings$Bank;", Cond.methodLink RX1 22 yX1_dropOldest, Cond.instanceMethod yX1_dropOldest, Cond.selects RX1 yX1_dropOldest yX1_dropOldest, Cond.code yX1_dropOldest cX1_dropOldest 2 none, Cond.methodLink RX1 25 yX0_copyFrom, Cond.instanceMethod yX0_copyFrom, Cond.selects RX0 yX0_copyFrom yX0_copyFrom, Cond.initialized RX0, Cond.code yX0_copyFrom cX0_copyFrom 2 none, Cond.fieldLink RX0 9 "FavourRings$Bank" "numbers" "[I", Cond.fieldLink RX0 15 "FavourRings$Bank" "came" "[I", Cond.fieldLink RX0 18 "FavourRings$Bank" "done" "[I", Cond.fieldLink RX0 21 "FavourRings$Bank" "spoiled" "[I", Cond.fieldLink RX0 24 "FavourRings$Bank" "guarantors" "[I"]
def wsX4_settled_r2 : List Cond := [Cond.fieldLink RX0 27 "FavourRings$Bank" "takenOver" "[I", Cond.fieldLink RX0 30 "FavourRings$Bank" "cleared" "[I", Cond.fieldLink RX0 33 "FavourRings$Bank" "debtors" "[I", Cond.fieldLink RX0 36 "FavourRings$Bank" "creditors" "[I", Cond.fieldLink RX0 39 "FavourRings$Bank" "kinds" "[I", Cond.fieldLink RX0 42 "FavourRings$Bank" "sizes" "[I", Cond.fieldLink RX0 45 "FavourRings$Bank" "ages" "[I", Cond.fieldLink RX0 48 "FavourRings$Bank" "passed" "[I", Cond.static yX4_copyRow, Cond.initialized RX4, Cond.code yX4_copyRow cX4_copyRow 2 none, Cond.methodLink RX4 182 Lib.Math.min.name, Cond.static Lib.Math.min.name, Cond.initialized "java/lang/Math", Cond.code Lib.Math.min.name Lib.Math.min.code 2 (some .int), Cond.methodLink RX4 187 arraycopyName, Cond.native arraycopyName, Cond.static arraycopyName, Cond.initialized "java/lang/System", Cond.methodLink RX4 175 yX0_copyFrom]
def wsX4_settled : List Cond := .code yX4_settled cX4_settled 2 (some .int) :: ((wsX4_settled_r1 ++ wsX4_settled_r2) ++ wsX40 ++ wsX10 ++ wsX00)
def wsX4_pupil_r1 : List Cond := [Cond.methodLink RX4 40 yX4_freshTrial, Cond.instanceMethod yX4_freshTrial, Cond.selects RX4 yX4_freshTrial yX4_freshTrial, Cond.initialized RX4, Cond.code yX4_freshTrial cX4_freshTrial 1 (some (.object "FavourRings$Bank")), Cond.fieldLink RX4 16 "FavourRings" "trial" "LFavourRings$Bank;", Cond.fieldLink RX4 10 "FavourRings" "bank" "LFavourRings$Bank;", Cond.methodLink RX4 175 yX0_copyFrom, Cond.instanceMethod yX0_copyFrom, Cond.selects RX0 yX0_copyFrom yX0_copyFrom, Cond.initialized RX0, Cond.code yX0_copyFrom cX0_copyFrom 2 none, Cond.fieldLink RX0 9 "FavourRings$Bank" "numbers" "[I", Cond.fieldLink RX0 15 "FavourRings$Bank" "came" "[I", Cond.fieldLink RX0 18 "FavourRings$Bank" "done" "[I", Cond.fieldLink RX0 21 "FavourRings$Bank" "spoiled" "[I", Cond.fieldLink RX0 24 "FavourRings$Bank" "guarantors" "[I", Cond.fieldLink RX0 27 "FavourRings$Bank" "takenOver" "[I", Cond.fieldLink RX0 30 "FavourRings$Bank" "cleared" "[I", Cond.fieldLink RX0 33 "FavourRings$Bank" "debtors" "[I", Cond.fieldLink RX0 36 "FavourRings$Bank" "creditors" "[I", Cond.fieldLink RX0 39 "FavourRings$Bank" "kinds" "[I", Cond.fieldLink RX0 42 "FavourRings$Bank" "sizes" "[I", Cond.fieldLink RX0 45 "FavourRings$Bank" "ages" "[I"]
def wsX4_pupil_r2 : List Cond := [Cond.fieldLink RX0 48 "FavourRings$Bank" "passed" "[I", Cond.static yX4_copyRow, Cond.code yX4_copyRow cX4_copyRow 2 none, Cond.methodLink RX4 182 Lib.Math.min.name, Cond.static Lib.Math.min.name, Cond.initialized "java/lang/Math", Cond.code Lib.Math.min.name Lib.Math.min.code 2 (some .int), Cond.methodLink RX4 187 arraycopyName, Cond.native arraycopyName, Cond.static arraycopyName, Cond.initialized "java/lang/System", Cond.methodLink RX4 44 yX0_addPupil, Cond.instanceMethod yX0_addPupil, Cond.selects RX0 yX0_addPupil yX0_addPupil, Cond.code yX0_addPupil cX0_addPupil 1 (some .int), Cond.constant RX0 85 (-1000003), Cond.methodLink RX0 63 yX0_number, Cond.instanceMethod yX0_number, Cond.selects RX0 yX0_number yX0_number, Cond.code yX0_number cX0_number 2 (some .int), Cond.static yX4_add, Cond.code yX4_add cX4_add 3 none, Cond.methodLink RX4 48 yX4_settled, Cond.instanceMethod yX4_settled]
def wsX4_pupil_r3 : List Cond := [Cond.selects RX4 yX4_settled yX4_settled, Cond.code yX4_settled cX4_settled 2 (some .int), Cond.fieldLink RX4 22 "FavourRings" "history" "LFavourRings$History;", Cond.methodLink RX4 179 yX1_keep, Cond.instanceMethod yX1_keep, Cond.selects RX1 yX1_keep yX1_keep, Cond.initialized RX1, Cond.code yX1_keep cX1_keep 2 none, Cond.fieldLink RX1 18 "FavourRings$History" "size" "I", Cond.fieldLink RX1 11 "FavourRings$History" "states" "[LFavourRings$Bank;", Cond.methodLink RX1 22 yX1_dropOldest, Cond.instanceMethod yX1_dropOldest, Cond.selects RX1 yX1_dropOldest yX1_dropOldest, Cond.code yX1_dropOldest cX1_dropOldest 2 none, Cond.methodLink RX1 25 yX0_copyFrom]
def wsX4_pupil : List Cond := .code yX4_pupil cX4_pupil 1 (some .int) :: ((wsX4_pupil_r1 ++ (wsX4_pupil_r2 ++ wsX4_pupil_r3)) ++ wsX40 ++ wsX00 ++ wsX10)
def wsX4_lend_r1 : List Cond := [Cond.methodLink RX4 40 yX4_freshTrial, Cond.instanceMethod yX4_freshTrial, Cond.selects RX4 yX4_freshTrial yX4_freshTrial, Cond.initialized RX4, Cond.code yX4_freshTrial cX4_freshTrial 1 (some (.object "FavourRings$Bank")), Cond.fieldLink RX4 16 "FavourRings" "trial" "LFavourRings$Bank;", Cond.fieldLink RX4 10 "FavourRings" "bank" "LFavourRings$Bank;", Cond.methodLink RX4 175 yX0_copyFrom, Cond.instanceMethod yX0_copyFrom, Cond.selects RX0 yX0_copyFrom yX0_copyFrom, Cond.initialized RX0, Cond.code yX0_copyFrom cX0_copyFrom 2 none, Cond.fieldLink RX0 9 "FavourRings$Bank" "numbers" "[I", Cond.fieldLink RX0 15 "FavourRings$Bank" "came" "[I", Cond.fieldLink RX0 18 "FavourRings$Bank" "done" "[I", Cond.fieldLink RX0 21 "FavourRings$Bank" "spoiled" "[I", Cond.fieldLink RX0 24 "FavourRings$Bank" "guarantors" "[I", Cond.fieldLink RX0 27 "FavourRings$Bank" "takenOver" "[I", Cond.fieldLink RX0 30 "FavourRings$Bank" "cleared" "[I", Cond.fieldLink RX0 33 "FavourRings$Bank" "debtors" "[I", Cond.fieldLink RX0 36 "FavourRings$Bank" "creditors" "[I", Cond.fieldLink RX0 39 "FavourRings$Bank" "kinds" "[I", Cond.fieldLink RX0 42 "FavourRings$Bank" "sizes" "[I", Cond.fieldLink RX0 45 "FavourRings$Bank" "ages" "[I"]
def wsX4_lend_r2 : List Cond := [Cond.fieldLink RX0 48 "FavourRings$Bank" "passed" "[I", Cond.static yX4_copyRow, Cond.code yX4_copyRow cX4_copyRow 2 none, Cond.methodLink RX4 182 Lib.Math.min.name, Cond.static Lib.Math.min.name, Cond.initialized "java/lang/Math", Cond.code Lib.Math.min.name Lib.Math.min.code 2 (some .int), Cond.methodLink RX4 187 arraycopyName, Cond.native arraycopyName, Cond.static arraycopyName, Cond.initialized "java/lang/System", Cond.methodLink RX4 52 yX0_lendFavours, Cond.instanceMethod yX0_lendFavours, Cond.selects RX0 yX0_lendFavours yX0_lendFavours, Cond.code yX0_lendFavours cX0_lendFavours 5 (some .int), Cond.constant RX0 93 (-1000001), Cond.constant RX0 125 (-1000002), Cond.constant RX0 85 (-1000003), Cond.methodLink RX0 89 yX0_isPair, Cond.instanceMethod yX0_isPair, Cond.selects RX0 yX0_isPair yX0_isPair, Cond.code yX0_isPair cX0_isPair 3 (some .boolean), Cond.methodLink RX0 66 yX0_isPupil, Cond.instanceMethod yX0_isPupil]
def wsX4_lend_r3 : List Cond := [Cond.selects RX0 yX0_isPupil yX0_isPupil, Cond.code yX0_isPupil cX0_isPupil 2 (some .boolean), Cond.methodLink RX0 63 yX0_number, Cond.instanceMethod yX0_number, Cond.selects RX0 yX0_number yX0_number, Cond.code yX0_number cX0_number 2 (some .int), Cond.static yX4_isKind, Cond.code yX4_isKind cX4_isKind 1 (some .boolean), Cond.static yX4_isMany, Cond.code yX4_isMany cX4_isMany 1 (some .boolean), Cond.methodLink RX0 122 yX0_reasonAgainst, Cond.instanceMethod yX0_reasonAgainst, Cond.selects RX0 yX0_reasonAgainst yX0_reasonAgainst, Cond.code yX0_reasonAgainst cX0_reasonAgainst 4 (some .int), Cond.methodLink RX0 70 yX0_sumOwed, Cond.instanceMethod yX0_sumOwed, Cond.selects RX0 yX0_sumOwed yX0_sumOwed, Cond.code yX0_sumOwed cX0_sumOwed 6 (some .int), Cond.methodLink RX0 94 yX0_isLotOf, Cond.instanceMethod yX0_isLotOf, Cond.selects RX0 yX0_isLotOf yX0_isLotOf, Cond.code yX0_isLotOf cX0_isLotOf 5 (some .boolean), Cond.static yX4_at, Cond.code yX4_at cX4_at 2 (some .int)]
def wsX4_lend_r4 : List Cond := [Cond.methodLink RX0 81 yX0_guarantorOf, Cond.instanceMethod yX0_guarantorOf, Cond.selects RX0 yX0_guarantorOf yX0_guarantorOf, Cond.code yX0_guarantorOf cX0_guarantorOf 2 (some .int), Cond.methodLink RX0 126 yX0_addLot, Cond.instanceMethod yX0_addLot, Cond.selects RX0 yX0_addLot yX0_addLot, Cond.code yX0_addLot cX0_addLot 6 none, Cond.static yX4_put, Cond.code yX4_put cX4_put 3 none, Cond.static yX4_add, Cond.code yX4_add cX4_add 3 none, Cond.methodLink RX4 48 yX4_settled, Cond.instanceMethod yX4_settled, Cond.selects RX4 yX4_settled yX4_settled, Cond.code yX4_settled cX4_settled 2 (some .int), Cond.fieldLink RX4 22 "FavourRings" "history" "LFavourRings$History;", Cond.methodLink RX4 179 yX1_keep, Cond.instanceMethod yX1_keep, Cond.selects RX1 yX1_keep yX1_keep, Cond.initialized RX1, Cond.code yX1_keep cX1_keep 2 none, Cond.fieldLink RX1 18 "FavourRings$History" "size" "I", Cond.fieldLink RX1 11 "FavourRings$History" "states" "[LFavourRings$Bank;"]
def wsX4_lend_r5 : List Cond := [Cond.methodLink RX1 22 yX1_dropOldest, Cond.instanceMethod yX1_dropOldest, Cond.selects RX1 yX1_dropOldest yX1_dropOldest, Cond.code yX1_dropOldest cX1_dropOldest 2 none, Cond.methodLink RX1 25 yX0_copyFrom]
def wsX4_lend : List Cond := .code yX4_lend cX4_lend 5 (some .int) :: ((wsX4_lend_r1 ++ (wsX4_lend_r2 ++ (wsX4_lend_r3 ++ (wsX4_lend_r4 ++ wsX4_lend_r5)))) ++ wsX40 ++ wsX00 ++ wsX10)
def wsX4_fulfil_r1 : List Cond := [Cond.methodLink RX4 40 yX4_freshTrial, Cond.instanceMethod yX4_freshTrial, Cond.selects RX4 yX4_freshTrial yX4_freshTrial, Cond.initialized RX4, Cond.code yX4_freshTrial cX4_freshTrial 1 (some (.object "FavourRings$Bank")), Cond.fieldLink RX4 16 "FavourRings" "trial" "LFavourRings$Bank;", Cond.fieldLink RX4 10 "FavourRings" "bank" "LFavourRings$Bank;", Cond.methodLink RX4 175 yX0_copyFrom, Cond.instanceMethod yX0_copyFrom, Cond.selects RX0 yX0_copyFrom yX0_copyFrom, Cond.initialized RX0, Cond.code yX0_copyFrom cX0_copyFrom 2 none, Cond.fieldLink RX0 9 "FavourRings$Bank" "numbers" "[I", Cond.fieldLink RX0 15 "FavourRings$Bank" "came" "[I", Cond.fieldLink RX0 18 "FavourRings$Bank" "done" "[I", Cond.fieldLink RX0 21 "FavourRings$Bank" "spoiled" "[I", Cond.fieldLink RX0 24 "FavourRings$Bank" "guarantors" "[I", Cond.fieldLink RX0 27 "FavourRings$Bank" "takenOver" "[I", Cond.fieldLink RX0 30 "FavourRings$Bank" "cleared" "[I", Cond.fieldLink RX0 33 "FavourRings$Bank" "debtors" "[I", Cond.fieldLink RX0 36 "FavourRings$Bank" "creditors" "[I", Cond.fieldLink RX0 39 "FavourRings$Bank" "kinds" "[I", Cond.fieldLink RX0 42 "FavourRings$Bank" "sizes" "[I", Cond.fieldLink RX0 45 "FavourRings$Bank" "ages" "[I"]
def wsX4_fulfil_r2 : List Cond := [Cond.fieldLink RX0 48 "FavourRings$Bank" "passed" "[I", Cond.static yX4_copyRow, Cond.code yX4_copyRow cX4_copyRow 2 none, Cond.methodLink RX4 182 Lib.Math.min.name, Cond.static Lib.Math.min.name, Cond.initialized "java/lang/Math", Cond.code Lib.Math.min.name Lib.Math.min.code 2 (some .int), Cond.methodLink RX4 187 arraycopyName, Cond.native arraycopyName, Cond.static arraycopyName, Cond.initialized "java/lang/System", Cond.methodLink RX4 56 yX0_fulfilFavours, Cond.instanceMethod yX0_fulfilFavours, Cond.selects RX0 yX0_fulfilFavours yX0_fulfilFavours, Cond.code yX0_fulfilFavours cX0_fulfilFavours 5 (some .int), Cond.constant RX0 93 (-1000001), Cond.constant RX0 125 (-1000002), Cond.methodLink RX0 89 yX0_isPair, Cond.instanceMethod yX0_isPair, Cond.selects RX0 yX0_isPair yX0_isPair, Cond.code yX0_isPair cX0_isPair 3 (some .boolean), Cond.methodLink RX0 66 yX0_isPupil, Cond.instanceMethod yX0_isPupil, Cond.selects RX0 yX0_isPupil yX0_isPupil]
def wsX4_fulfil_r3 : List Cond := [Cond.code yX0_isPupil cX0_isPupil 2 (some .boolean), Cond.methodLink RX0 63 yX0_number, Cond.instanceMethod yX0_number, Cond.selects RX0 yX0_number yX0_number, Cond.code yX0_number cX0_number 2 (some .int), Cond.static yX4_isKind, Cond.code yX4_isKind cX4_isKind 1 (some .boolean), Cond.static yX4_isMany, Cond.code yX4_isMany cX4_isMany 1 (some .boolean), Cond.methodLink RX0 70 yX0_sumOwed, Cond.instanceMethod yX0_sumOwed, Cond.selects RX0 yX0_sumOwed yX0_sumOwed, Cond.code yX0_sumOwed cX0_sumOwed 6 (some .int), Cond.methodLink RX0 94 yX0_isLotOf, Cond.instanceMethod yX0_isLotOf, Cond.selects RX0 yX0_isLotOf yX0_isLotOf, Cond.code yX0_isLotOf cX0_isLotOf 5 (some .boolean), Cond.static yX4_at, Cond.code yX4_at cX4_at 2 (some .int), Cond.methodLink RX0 130 yX0_takeFavours, Cond.instanceMethod yX0_takeFavours, Cond.selects RX0 yX0_takeFavours yX0_takeFavours, Cond.code yX0_takeFavours cX0_takeFavours 9 none, Cond.methodLink RX0 107 Lib.Math.min.name]
def wsX4_fulfil_r4 : List Cond := [Cond.methodLink RX0 110 yX0_firstToTake, Cond.instanceMethod yX0_firstToTake, Cond.selects RX0 yX0_firstToTake yX0_firstToTake, Cond.code yX0_firstToTake cX0_firstToTake 6 (some .int), Cond.static yX4_add, Cond.code yX4_add cX4_add 3 none, Cond.methodLink RX0 113 yX0_dropEmptyLots, Cond.instanceMethod yX0_dropEmptyLots, Cond.selects RX0 yX0_dropEmptyLots yX0_dropEmptyLots, Cond.code yX0_dropEmptyLots cX0_dropEmptyLots 3 none, Cond.static yX4_put, Cond.code yX4_put cX4_put 3 none, Cond.methodLink RX4 48 yX4_settled, Cond.instanceMethod yX4_settled, Cond.selects RX4 yX4_settled yX4_settled, Cond.code yX4_settled cX4_settled 2 (some .int), Cond.fieldLink RX4 22 "FavourRings" "history" "LFavourRings$History;", Cond.methodLink RX4 179 yX1_keep, Cond.instanceMethod yX1_keep, Cond.selects RX1 yX1_keep yX1_keep, Cond.initialized RX1, Cond.code yX1_keep cX1_keep 2 none, Cond.fieldLink RX1 18 "FavourRings$History" "size" "I", Cond.fieldLink RX1 11 "FavourRings$History" "states" "[LFavourRings$Bank;"]
def wsX4_fulfil_r5 : List Cond := [Cond.methodLink RX1 22 yX1_dropOldest, Cond.instanceMethod yX1_dropOldest, Cond.selects RX1 yX1_dropOldest yX1_dropOldest, Cond.code yX1_dropOldest cX1_dropOldest 2 none, Cond.methodLink RX1 25 yX0_copyFrom]
def wsX4_fulfil : List Cond := .code yX4_fulfil cX4_fulfil 5 (some .int) :: ((wsX4_fulfil_r1 ++ (wsX4_fulfil_r2 ++ (wsX4_fulfil_r3 ++ (wsX4_fulfil_r4 ++ wsX4_fulfil_r5)))) ++ wsX40 ++ wsX00 ++ wsX10)
def wsX4_guarantee_r1 : List Cond := [Cond.methodLink RX4 40 yX4_freshTrial, Cond.instanceMethod yX4_freshTrial, Cond.selects RX4 yX4_freshTrial yX4_freshTrial, Cond.initialized RX4, Cond.code yX4_freshTrial cX4_freshTrial 1 (some (.object "FavourRings$Bank")), Cond.fieldLink RX4 16 "FavourRings" "trial" "LFavourRings$Bank;", Cond.fieldLink RX4 10 "FavourRings" "bank" "LFavourRings$Bank;", Cond.methodLink RX4 175 yX0_copyFrom, Cond.instanceMethod yX0_copyFrom, Cond.selects RX0 yX0_copyFrom yX0_copyFrom, Cond.initialized RX0, Cond.code yX0_copyFrom cX0_copyFrom 2 none, Cond.fieldLink RX0 9 "FavourRings$Bank" "numbers" "[I", Cond.fieldLink RX0 15 "FavourRings$Bank" "came" "[I", Cond.fieldLink RX0 18 "FavourRings$Bank" "done" "[I", Cond.fieldLink RX0 21 "FavourRings$Bank" "spoiled" "[I", Cond.fieldLink RX0 24 "FavourRings$Bank" "guarantors" "[I", Cond.fieldLink RX0 27 "FavourRings$Bank" "takenOver" "[I", Cond.fieldLink RX0 30 "FavourRings$Bank" "cleared" "[I", Cond.fieldLink RX0 33 "FavourRings$Bank" "debtors" "[I", Cond.fieldLink RX0 36 "FavourRings$Bank" "creditors" "[I", Cond.fieldLink RX0 39 "FavourRings$Bank" "kinds" "[I", Cond.fieldLink RX0 42 "FavourRings$Bank" "sizes" "[I", Cond.fieldLink RX0 45 "FavourRings$Bank" "ages" "[I"]
def wsX4_guarantee_r2 : List Cond := [Cond.fieldLink RX0 48 "FavourRings$Bank" "passed" "[I", Cond.static yX4_copyRow, Cond.code yX4_copyRow cX4_copyRow 2 none, Cond.methodLink RX4 182 Lib.Math.min.name, Cond.static Lib.Math.min.name, Cond.initialized "java/lang/Math", Cond.code Lib.Math.min.name Lib.Math.min.code 2 (some .int), Cond.methodLink RX4 187 arraycopyName, Cond.native arraycopyName, Cond.static arraycopyName, Cond.initialized "java/lang/System", Cond.methodLink RX4 59 yX0_giveGuarantor, Cond.instanceMethod yX0_giveGuarantor, Cond.selects RX0 yX0_giveGuarantor yX0_giveGuarantor, Cond.code yX0_giveGuarantor cX0_giveGuarantor 4 (some .int), Cond.constant RX0 93 (-1000001), Cond.methodLink RX0 66 yX0_isPupil, Cond.instanceMethod yX0_isPupil, Cond.selects RX0 yX0_isPupil yX0_isPupil, Cond.code yX0_isPupil cX0_isPupil 2 (some .boolean), Cond.methodLink RX0 63 yX0_number, Cond.instanceMethod yX0_number, Cond.selects RX0 yX0_number yX0_number, Cond.code yX0_number cX0_number 2 (some .int)]
def wsX4_guarantee_r3 : List Cond := [Cond.methodLink RX0 89 yX0_isPair, Cond.instanceMethod yX0_isPair, Cond.selects RX0 yX0_isPair yX0_isPair, Cond.code yX0_isPair cX0_isPair 3 (some .boolean), Cond.static yX4_at, Cond.code yX4_at cX4_at 2 (some .int), Cond.static yX4_put, Cond.code yX4_put cX4_put 3 none, Cond.methodLink RX4 48 yX4_settled, Cond.instanceMethod yX4_settled, Cond.selects RX4 yX4_settled yX4_settled, Cond.code yX4_settled cX4_settled 2 (some .int), Cond.fieldLink RX4 22 "FavourRings" "history" "LFavourRings$History;", Cond.methodLink RX4 179 yX1_keep, Cond.instanceMethod yX1_keep, Cond.selects RX1 yX1_keep yX1_keep, Cond.initialized RX1, Cond.code yX1_keep cX1_keep 2 none, Cond.fieldLink RX1 18 "FavourRings$History" "size" "I", Cond.fieldLink RX1 11 "FavourRings$History" "states" "[LFavourRings$Bank;", Cond.methodLink RX1 22 yX1_dropOldest, Cond.instanceMethod yX1_dropOldest, Cond.selects RX1 yX1_dropOldest yX1_dropOldest, Cond.code yX1_dropOldest cX1_dropOldest 2 none]
def wsX4_guarantee_r4 : List Cond := [Cond.methodLink RX1 25 yX0_copyFrom]
def wsX4_guarantee : List Cond := .code yX4_guarantee cX4_guarantee 3 (some .int) :: ((wsX4_guarantee_r1 ++ (wsX4_guarantee_r2 ++ (wsX4_guarantee_r3 ++ wsX4_guarantee_r4))) ++ wsX40 ++ wsX00 ++ wsX10)
def wsX4_weeks_r1 : List Cond := [Cond.methodLink RX4 40 yX4_freshTrial, Cond.instanceMethod yX4_freshTrial, Cond.selects RX4 yX4_freshTrial yX4_freshTrial, Cond.initialized RX4, Cond.code yX4_freshTrial cX4_freshTrial 1 (some (.object "FavourRings$Bank")), Cond.fieldLink RX4 16 "FavourRings" "trial" "LFavourRings$Bank;", Cond.fieldLink RX4 10 "FavourRings" "bank" "LFavourRings$Bank;", Cond.methodLink RX4 175 yX0_copyFrom, Cond.instanceMethod yX0_copyFrom, Cond.selects RX0 yX0_copyFrom yX0_copyFrom, Cond.initialized RX0, Cond.code yX0_copyFrom cX0_copyFrom 2 none, Cond.fieldLink RX0 9 "FavourRings$Bank" "numbers" "[I", Cond.fieldLink RX0 15 "FavourRings$Bank" "came" "[I", Cond.fieldLink RX0 18 "FavourRings$Bank" "done" "[I", Cond.fieldLink RX0 21 "FavourRings$Bank" "spoiled" "[I", Cond.fieldLink RX0 24 "FavourRings$Bank" "guarantors" "[I", Cond.fieldLink RX0 27 "FavourRings$Bank" "takenOver" "[I", Cond.fieldLink RX0 30 "FavourRings$Bank" "cleared" "[I", Cond.fieldLink RX0 33 "FavourRings$Bank" "debtors" "[I", Cond.fieldLink RX0 36 "FavourRings$Bank" "creditors" "[I", Cond.fieldLink RX0 39 "FavourRings$Bank" "kinds" "[I", Cond.fieldLink RX0 42 "FavourRings$Bank" "sizes" "[I", Cond.fieldLink RX0 45 "FavourRings$Bank" "ages" "[I"]
def wsX4_weeks_r2 : List Cond := [Cond.fieldLink RX0 48 "FavourRings$Bank" "passed" "[I", Cond.static yX4_copyRow, Cond.code yX4_copyRow cX4_copyRow 2 none, Cond.methodLink RX4 182 Lib.Math.min.name, Cond.static Lib.Math.min.name, Cond.initialized "java/lang/Math", Cond.code Lib.Math.min.name Lib.Math.min.code 2 (some .int), Cond.methodLink RX4 187 arraycopyName, Cond.native arraycopyName, Cond.static arraycopyName, Cond.initialized "java/lang/System", Cond.methodLink RX4 63 yX0_endWeeks, Cond.instanceMethod yX0_endWeeks, Cond.selects RX0 yX0_endWeeks yX0_endWeeks, Cond.code yX0_endWeeks cX0_endWeeks 4 (some .int), Cond.constant RX0 93 (-1000001), Cond.constant RX0 85 (-1000003), Cond.methodLink RX0 63 yX0_number, Cond.instanceMethod yX0_number, Cond.selects RX0 yX0_number yX0_number, Cond.code yX0_number cX0_number 2 (some .int), Cond.methodLink RX0 133 yX0_endWeek, Cond.instanceMethod yX0_endWeek, Cond.selects RX0 yX0_endWeek yX0_endWeek]
def wsX4_weeks_r3 : List Cond := [Cond.code yX0_endWeek cX0_endWeek 2 none, Cond.static yX4_add, Cond.code yX4_add cX4_add 3 none, Cond.methodLink RX0 136 yX0_hasHolidays, Cond.instanceMethod yX0_hasHolidays, Cond.selects RX0 yX0_hasHolidays yX0_hasHolidays, Cond.code yX0_hasHolidays cX0_hasHolidays 1 (some .boolean), Cond.methodLink RX0 98 yX0_weeksLeft, Cond.instanceMethod yX0_weeksLeft, Cond.selects RX0 yX0_weeksLeft yX0_weeksLeft, Cond.code yX0_weeksLeft cX0_weeksLeft 2 (some .int), Cond.static yX4_at, Cond.code yX4_at cX4_at 2 (some .int), Cond.methodLink RX0 140 yX0_passToGuarantor, Cond.instanceMethod yX0_passToGuarantor, Cond.selects RX0 yX0_passToGuarantor yX0_passToGuarantor, Cond.code yX0_passToGuarantor cX0_passToGuarantor 5 (some .boolean), Cond.methodLink RX0 81 yX0_guarantorOf, Cond.instanceMethod yX0_guarantorOf, Cond.selects RX0 yX0_guarantorOf yX0_guarantorOf, Cond.code yX0_guarantorOf cX0_guarantorOf 2 (some .int), Cond.static yX4_put, Cond.code yX4_put cX4_put 3 none, Cond.methodLink RX0 143 yX0_spoilLot]
def wsX4_weeks_r4 : List Cond := [Cond.instanceMethod yX0_spoilLot, Cond.selects RX0 yX0_spoilLot yX0_spoilLot, Cond.code yX0_spoilLot cX0_spoilLot 4 none, Cond.methodLink RX0 113 yX0_dropEmptyLots, Cond.instanceMethod yX0_dropEmptyLots, Cond.selects RX0 yX0_dropEmptyLots yX0_dropEmptyLots, Cond.code yX0_dropEmptyLots cX0_dropEmptyLots 3 none, Cond.methodLink RX4 48 yX4_settled, Cond.instanceMethod yX4_settled, Cond.selects RX4 yX4_settled yX4_settled, Cond.code yX4_settled cX4_settled 2 (some .int), Cond.fieldLink RX4 22 "FavourRings" "history" "LFavourRings$History;", Cond.methodLink RX4 179 yX1_keep, Cond.instanceMethod yX1_keep, Cond.selects RX1 yX1_keep yX1_keep, Cond.initialized RX1, Cond.code yX1_keep cX1_keep 2 none, Cond.fieldLink RX1 18 "FavourRings$History" "size" "I", Cond.fieldLink RX1 11 "FavourRings$History" "states" "[LFavourRings$Bank;", Cond.methodLink RX1 22 yX1_dropOldest, Cond.instanceMethod yX1_dropOldest, Cond.selects RX1 yX1_dropOldest yX1_dropOldest, Cond.code yX1_dropOldest cX1_dropOldest 2 none, Cond.methodLink RX1 25 yX0_copyFrom]
def wsX4_weeks : List Cond := .code yX4_weeks cX4_weeks 2 (some .int) :: ((wsX4_weeks_r1 ++ (wsX4_weeks_r2 ++ (wsX4_weeks_r3 ++ wsX4_weeks_r4))) ++ wsX40 ++ wsX00 ++ wsX10)
def wsX4_holiday_r1 : List Cond := [Cond.methodLink RX4 40 yX4_freshTrial, Cond.instanceMethod yX4_freshTrial, Cond.selects RX4 yX4_freshTrial yX4_freshTrial, Cond.initialized RX4, Cond.code yX4_freshTrial cX4_freshTrial 1 (some (.object "FavourRings$Bank")), Cond.fieldLink RX4 16 "FavourRings" "trial" "LFavourRings$Bank;", Cond.fieldLink RX4 10 "FavourRings" "bank" "LFavourRings$Bank;", Cond.methodLink RX4 175 yX0_copyFrom, Cond.instanceMethod yX0_copyFrom, Cond.selects RX0 yX0_copyFrom yX0_copyFrom, Cond.initialized RX0, Cond.code yX0_copyFrom cX0_copyFrom 2 none, Cond.fieldLink RX0 9 "FavourRings$Bank" "numbers" "[I", Cond.fieldLink RX0 15 "FavourRings$Bank" "came" "[I", Cond.fieldLink RX0 18 "FavourRings$Bank" "done" "[I", Cond.fieldLink RX0 21 "FavourRings$Bank" "spoiled" "[I", Cond.fieldLink RX0 24 "FavourRings$Bank" "guarantors" "[I", Cond.fieldLink RX0 27 "FavourRings$Bank" "takenOver" "[I", Cond.fieldLink RX0 30 "FavourRings$Bank" "cleared" "[I", Cond.fieldLink RX0 33 "FavourRings$Bank" "debtors" "[I", Cond.fieldLink RX0 36 "FavourRings$Bank" "creditors" "[I", Cond.fieldLink RX0 39 "FavourRings$Bank" "kinds" "[I", Cond.fieldLink RX0 42 "FavourRings$Bank" "sizes" "[I", Cond.fieldLink RX0 45 "FavourRings$Bank" "ages" "[I"]
def wsX4_holiday_r2 : List Cond := [Cond.fieldLink RX0 48 "FavourRings$Bank" "passed" "[I", Cond.static yX4_copyRow, Cond.code yX4_copyRow cX4_copyRow 2 none, Cond.methodLink RX4 182 Lib.Math.min.name, Cond.static Lib.Math.min.name, Cond.initialized "java/lang/Math", Cond.code Lib.Math.min.name Lib.Math.min.code 2 (some .int), Cond.methodLink RX4 187 arraycopyName, Cond.native arraycopyName, Cond.static arraycopyName, Cond.initialized "java/lang/System", Cond.methodLink RX4 66 yX0_turnHolidays, Cond.instanceMethod yX0_turnHolidays, Cond.selects RX0 yX0_turnHolidays yX0_turnHolidays, Cond.code yX0_turnHolidays cX0_turnHolidays 3 (some .int), Cond.methodLink RX0 63 yX0_number, Cond.instanceMethod yX0_number, Cond.selects RX0 yX0_number yX0_number, Cond.code yX0_number cX0_number 2 (some .int), Cond.static yX4_put, Cond.code yX4_put cX4_put 3 none, Cond.methodLink RX4 48 yX4_settled, Cond.instanceMethod yX4_settled, Cond.selects RX4 yX4_settled yX4_settled]
def wsX4_holiday_r3 : List Cond := [Cond.code yX4_settled cX4_settled 2 (some .int), Cond.fieldLink RX4 22 "FavourRings" "history" "LFavourRings$History;", Cond.methodLink RX4 179 yX1_keep, Cond.instanceMethod yX1_keep, Cond.selects RX1 yX1_keep yX1_keep, Cond.initialized RX1, Cond.code yX1_keep cX1_keep 2 none, Cond.fieldLink RX1 18 "FavourRings$History" "size" "I", Cond.fieldLink RX1 11 "FavourRings$History" "states" "[LFavourRings$Bank;", Cond.methodLink RX1 22 yX1_dropOldest, Cond.instanceMethod yX1_dropOldest, Cond.selects RX1 yX1_dropOldest yX1_dropOldest, Cond.code yX1_dropOldest cX1_dropOldest 2 none, Cond.methodLink RX1 25 yX0_copyFrom]
def wsX4_holiday : List Cond := .code yX4_holiday cX4_holiday 2 (some .int) :: ((wsX4_holiday_r1 ++ (wsX4_holiday_r2 ++ wsX4_holiday_r3)) ++ wsX40 ++ wsX00 ++ wsX10)
def wsX4_clear_r1 : List Cond := [Cond.fieldLink RX4 29 "FavourRings" "rings" "LFavourRings$Rings;", Cond.methodLink RX4 40 yX4_freshTrial, Cond.instanceMethod yX4_freshTrial, Cond.selects RX4 yX4_freshTrial yX4_freshTrial, Cond.initialized RX4, Cond.code yX4_freshTrial cX4_freshTrial 1 (some (.object "FavourRings$Bank")), Cond.fieldLink RX4 16 "FavourRings" "trial" "LFavourRings$Bank;", Cond.fieldLink RX4 10 "FavourRings" "bank" "LFavourRings$Bank;", Cond.methodLink RX4 175 yX0_copyFrom, Cond.instanceMethod yX0_copyFrom, Cond.selects RX0 yX0_copyFrom yX0_copyFrom, Cond.initialized RX0, Cond.code yX0_copyFrom cX0_copyFrom 2 none, Cond.fieldLink RX0 9 "FavourRings$Bank" "numbers" "[I", Cond.fieldLink RX0 15 "FavourRings$Bank" "came" "[I", Cond.fieldLink RX0 18 "FavourRings$Bank" "done" "[I", Cond.fieldLink RX0 21 "FavourRings$Bank" "spoiled" "[I", Cond.fieldLink RX0 24 "FavourRings$Bank" "guarantors" "[I", Cond.fieldLink RX0 27 "FavourRings$Bank" "takenOver" "[I", Cond.fieldLink RX0 30 "FavourRings$Bank" "cleared" "[I", Cond.fieldLink RX0 33 "FavourRings$Bank" "debtors" "[I", Cond.fieldLink RX0 36 "FavourRings$Bank" "creditors" "[I", Cond.fieldLink RX0 39 "FavourRings$Bank" "kinds" "[I", Cond.fieldLink RX0 42 "FavourRings$Bank" "sizes" "[I"]
def wsX4_clear_r2 : List Cond := [Cond.fieldLink RX0 45 "FavourRings$Bank" "ages" "[I", Cond.fieldLink RX0 48 "FavourRings$Bank" "passed" "[I", Cond.static yX4_copyRow, Cond.code yX4_copyRow cX4_copyRow 2 none, Cond.methodLink RX4 182 Lib.Math.min.name, Cond.static Lib.Math.min.name, Cond.initialized "java/lang/Math", Cond.code Lib.Math.min.name Lib.Math.min.code 2 (some .int), Cond.methodLink RX4 187 arraycopyName, Cond.native arraycopyName, Cond.static arraycopyName, Cond.initialized "java/lang/System", Cond.methodLink RX4 70 yX3_clearKind, Cond.instanceMethod yX3_clearKind, Cond.selects RX3 yX3_clearKind yX3_clearKind, Cond.initialized RX3, Cond.code yX3_clearKind cX3_clearKind 7 (some .int), Cond.constant RX3 60 (-1000001), Cond.fieldLink RX3 24 "FavourRings$Rings" "length" "I", Cond.static yX4_isKind, Cond.code yX4_isKind cX4_isKind 1 (some .boolean), Cond.methodLink RX3 61 yX3_findNext, Cond.instanceMethod yX3_findNext, Cond.selects RX3 yX3_findNext yX3_findNext]
def wsX4_clear_r3 : List Cond := [Cond.code yX3_findNext cX3_findNext 6 (some .boolean), Cond.fieldLink RX3 21 "FavourRings$Rings" "members" "[I", Cond.methodLink RX3 48 yX3_readOwed, Cond.instanceMethod yX3_readOwed, Cond.selects RX3 yX3_readOwed yX3_readOwed, Cond.code yX3_readOwed cX3_readOwed 5 none, Cond.fieldLink RX3 9 "FavourRings$Rings" "owed" "[I", Cond.methodLink RX3 91 yX0_number, Cond.instanceMethod yX0_number, Cond.selects RX0 yX0_number yX0_number, Cond.code yX0_number cX0_number 2 (some .int), Cond.methodLink RX3 94 yX0_isLotOf, Cond.instanceMethod yX0_isLotOf, Cond.selects RX0 yX0_isLotOf yX0_isLotOf, Cond.code yX0_isLotOf cX0_isLotOf 5 (some .boolean), Cond.static yX4_at, Cond.code yX4_at cX4_at 2 (some .int), Cond.static yX4_add, Cond.code yX4_add cX4_add 3 none, Cond.methodLink RX3 52 yX3_measureSteps, Cond.instanceMethod yX3_measureSteps, Cond.selects RX3 yX3_measureSteps yX3_measureSteps, Cond.code yX3_measureSteps cX3_measureSteps 7 none, Cond.fieldLink RX3 15 "FavourRings$Rings" "steps" "[I"]
def wsX4_clear_r4 : List Cond := [Cond.fieldLink RX3 18 "FavourRings$Rings" "queue" "[I", Cond.static yX4_put, Cond.code yX4_put cX4_put 3 none, Cond.methodLink RX3 39 yX3_owedBetween, Cond.instanceMethod yX3_owedBetween, Cond.selects RX3 yX3_owedBetween yX3_owedBetween, Cond.code yX3_owedBetween cX3_owedBetween 4 (some .int), Cond.methodLink RX3 81 yX3_shortestFrom, Cond.instanceMethod yX3_shortestFrom, Cond.selects RX3 yX3_shortestFrom yX3_shortestFrom, Cond.code yX3_shortestFrom cX3_shortestFrom 6 (some .int), Cond.methodLink RX3 32 yX3_nextPupil, Cond.instanceMethod yX3_nextPupil, Cond.selects RX3 yX3_nextPupil yX3_nextPupil, Cond.code yX3_nextPupil cX3_nextPupil 2 (some .int), Cond.methodLink RX3 88 yX3_lowestBehind, Cond.instanceMethod yX3_lowestBehind, Cond.selects RX3 yX3_lowestBehind yX3_lowestBehind, Cond.code yX3_lowestBehind cX3_lowestBehind 4 (some .int), Cond.methodLink RX3 65 yX3_nextAmount, Cond.instanceMethod yX3_nextAmount, Cond.selects RX3 yX3_nextAmount yX3_nextAmount, Cond.code yX3_nextAmount cX3_nextAmount 4 (some .int), Cond.methodLink RX3 43 Lib.Math.min.name]
def wsX4_clear_r5 : List Cond := [Cond.methodLink RX3 36 yX3_pupilBehind, Cond.instanceMethod yX3_pupilBehind, Cond.selects RX3 yX3_pupilBehind yX3_pupilBehind, Cond.code yX3_pupilBehind cX3_pupilBehind 2 (some .int), Cond.methodLink RX3 69 yX0_takeFavours, Cond.instanceMethod yX0_takeFavours, Cond.selects RX0 yX0_takeFavours yX0_takeFavours, Cond.code yX0_takeFavours cX0_takeFavours 9 none, Cond.methodLink RX0 107 Lib.Math.min.name, Cond.methodLink RX0 110 yX0_firstToTake, Cond.instanceMethod yX0_firstToTake, Cond.selects RX0 yX0_firstToTake yX0_firstToTake, Cond.code yX0_firstToTake cX0_firstToTake 6 (some .int), Cond.methodLink RX0 63 yX0_number, Cond.methodLink RX0 94 yX0_isLotOf, Cond.methodLink RX0 113 yX0_dropEmptyLots, Cond.instanceMethod yX0_dropEmptyLots, Cond.selects RX0 yX0_dropEmptyLots yX0_dropEmptyLots, Cond.code yX0_dropEmptyLots cX0_dropEmptyLots 3 none, Cond.methodLink RX3 75 yX0_countCleared, Cond.instanceMethod yX0_countCleared, Cond.selects RX0 yX0_countCleared yX0_countCleared, Cond.code yX0_countCleared cX0_countCleared 3 none, Cond.methodLink RX3 78 yX0_countRing]
def wsX4_clear_r6 : List Cond := [Cond.instanceMethod yX0_countRing, Cond.selects RX0 yX0_countRing yX0_countRing, Cond.code yX0_countRing cX0_countRing 1 none, Cond.methodLink RX4 48 yX4_settled, Cond.instanceMethod yX4_settled, Cond.selects RX4 yX4_settled yX4_settled, Cond.code yX4_settled cX4_settled 2 (some .int), Cond.fieldLink RX4 22 "FavourRings" "history" "LFavourRings$History;", Cond.methodLink RX4 179 yX1_keep, Cond.instanceMethod yX1_keep, Cond.selects RX1 yX1_keep yX1_keep, Cond.initialized RX1, Cond.code yX1_keep cX1_keep 2 none, Cond.fieldLink RX1 18 "FavourRings$History" "size" "I", Cond.fieldLink RX1 11 "FavourRings$History" "states" "[LFavourRings$Bank;", Cond.methodLink RX1 22 yX1_dropOldest, Cond.instanceMethod yX1_dropOldest, Cond.selects RX1 yX1_dropOldest yX1_dropOldest, Cond.code yX1_dropOldest cX1_dropOldest 2 none, Cond.methodLink RX1 25 yX0_copyFrom]
def wsX4_clear : List Cond := .code yX4_clear cX4_clear 2 (some .int) :: ((wsX4_clear_r1 ++ (wsX4_clear_r2 ++ (wsX4_clear_r3 ++ (wsX4_clear_r4 ++ (wsX4_clear_r5 ++ wsX4_clear_r6))))) ++ wsX40 ++ wsX00 ++ wsX30 ++ wsX10)
def wsX4_set_r1 : List Cond := [Cond.methodLink RX4 40 yX4_freshTrial, Cond.instanceMethod yX4_freshTrial, Cond.selects RX4 yX4_freshTrial yX4_freshTrial, Cond.initialized RX4, Cond.code yX4_freshTrial cX4_freshTrial 1 (some (.object "FavourRings$Bank")), Cond.fieldLink RX4 16 "FavourRings" "trial" "LFavourRings$Bank;", Cond.fieldLink RX4 10 "FavourRings" "bank" "LFavourRings$Bank;", Cond.methodLink RX4 175 yX0_copyFrom, Cond.instanceMethod yX0_copyFrom, Cond.selects RX0 yX0_copyFrom yX0_copyFrom, Cond.initialized RX0, Cond.code yX0_copyFrom cX0_copyFrom 2 none, Cond.fieldLink RX0 9 "FavourRings$Bank" "numbers" "[I", Cond.fieldLink RX0 15 "FavourRings$Bank" "came" "[I", Cond.fieldLink RX0 18 "FavourRings$Bank" "done" "[I", Cond.fieldLink RX0 21 "FavourRings$Bank" "spoiled" "[I", Cond.fieldLink RX0 24 "FavourRings$Bank" "guarantors" "[I", Cond.fieldLink RX0 27 "FavourRings$Bank" "takenOver" "[I", Cond.fieldLink RX0 30 "FavourRings$Bank" "cleared" "[I", Cond.fieldLink RX0 33 "FavourRings$Bank" "debtors" "[I", Cond.fieldLink RX0 36 "FavourRings$Bank" "creditors" "[I", Cond.fieldLink RX0 39 "FavourRings$Bank" "kinds" "[I", Cond.fieldLink RX0 42 "FavourRings$Bank" "sizes" "[I", Cond.fieldLink RX0 45 "FavourRings$Bank" "ages" "[I"]
def wsX4_set_r2 : List Cond := [Cond.fieldLink RX0 48 "FavourRings$Bank" "passed" "[I", Cond.static yX4_copyRow, Cond.code yX4_copyRow cX4_copyRow 2 none, Cond.methodLink RX4 182 Lib.Math.min.name, Cond.static Lib.Math.min.name, Cond.initialized "java/lang/Math", Cond.code Lib.Math.min.name Lib.Math.min.code 2 (some .int), Cond.methodLink RX4 187 arraycopyName, Cond.native arraycopyName, Cond.static arraycopyName, Cond.initialized "java/lang/System", Cond.methodLink RX4 74 yX0_changeSetting, Cond.instanceMethod yX0_changeSetting, Cond.selects RX0 yX0_changeSetting yX0_changeSetting, Cond.code yX0_changeSetting cX0_changeSetting 4 (some .int), Cond.constant RX0 93 (-1000001), Cond.static yX4_mostOfSetting, Cond.code yX4_mostOfSetting cX4_mostOfSetting 1 (some .int), Cond.methodLink RX0 63 yX0_number, Cond.instanceMethod yX0_number, Cond.selects RX0 yX0_number yX0_number, Cond.code yX0_number cX0_number 2 (some .int), Cond.static yX4_put, Cond.code yX4_put cX4_put 3 none]
def wsX4_set_r3 : List Cond := [Cond.methodLink RX4 48 yX4_settled, Cond.instanceMethod yX4_settled, Cond.selects RX4 yX4_settled yX4_settled, Cond.code yX4_settled cX4_settled 2 (some .int), Cond.fieldLink RX4 22 "FavourRings" "history" "LFavourRings$History;", Cond.methodLink RX4 179 yX1_keep, Cond.instanceMethod yX1_keep, Cond.selects RX1 yX1_keep yX1_keep, Cond.initialized RX1, Cond.code yX1_keep cX1_keep 2 none, Cond.fieldLink RX1 18 "FavourRings$History" "size" "I", Cond.fieldLink RX1 11 "FavourRings$History" "states" "[LFavourRings$Bank;", Cond.methodLink RX1 22 yX1_dropOldest, Cond.instanceMethod yX1_dropOldest, Cond.selects RX1 yX1_dropOldest yX1_dropOldest, Cond.code yX1_dropOldest cX1_dropOldest 2 none, Cond.methodLink RX1 25 yX0_copyFrom]
def wsX4_set : List Cond := .code yX4_set cX4_set 3 (some .int) :: ((wsX4_set_r1 ++ (wsX4_set_r2 ++ wsX4_set_r3)) ++ wsX40 ++ wsX00 ++ wsX10)
def wsX4_pupilOf_r1 : List Cond := [Cond.fieldLink RX4 10 "FavourRings" "bank" "LFavourRings$Bank;", Cond.constant RX4 81 (-1000001), Cond.methodLink RX4 77 yX0_isPupil, Cond.instanceMethod yX0_isPupil, Cond.selects RX0 yX0_isPupil yX0_isPupil, Cond.initialized RX0, Cond.code yX0_isPupil cX0_isPupil 2 (some .boolean), Cond.methodLink RX0 63 yX0_number, Cond.instanceMethod yX0_number, Cond.selects RX0 yX0_number yX0_number, Cond.code yX0_number cX0_number 2 (some .int), Cond.fieldLink RX0 9 "FavourRings$Bank" "numbers" "[I", Cond.methodLink RX4 82 yX0_tellOfPupil, Cond.instanceMethod yX0_tellOfPupil, Cond.selects RX0 yX0_tellOfPupil yX0_tellOfPupil, Cond.code yX0_tellOfPupil cX0_tellOfPupil 3 (some .int), Cond.fieldLink RX0 15 "FavourRings$Bank" "came" "[I", Cond.fieldLink RX0 18 "FavourRings$Bank" "done" "[I", Cond.fieldLink RX0 21 "FavourRings$Bank" "spoiled" "[I", Cond.constant RX0 84 (-1000004), Cond.fieldLink RX0 27 "FavourRings$Bank" "takenOver" "[I", Cond.fieldLink RX0 30 "FavourRings$Bank" "cleared" "[I", Cond.methodLink RX0 70 yX0_sumOwed, Cond.instanceMethod yX0_sumOwed]
def wsX4_pupilOf_r2 : List Cond := [Cond.selects RX0 yX0_sumOwed yX0_sumOwed, Cond.code yX0_sumOwed cX0_sumOwed 6 (some .int), Cond.fieldLink RX0 42 "FavourRings$Bank" "sizes" "[I", Cond.methodLink RX0 94 yX0_isLotOf, Cond.instanceMethod yX0_isLotOf, Cond.selects RX0 yX0_isLotOf yX0_isLotOf, Cond.code yX0_isLotOf cX0_isLotOf 5 (some .boolean), Cond.fieldLink RX0 33 "FavourRings$Bank" "debtors" "[I", Cond.fieldLink RX0 36 "FavourRings$Bank" "creditors" "[I", Cond.fieldLink RX0 39 "FavourRings$Bank" "kinds" "[I", Cond.static yX4_at, Cond.initialized RX4, Cond.code yX4_at cX4_at 2 (some .int), Cond.methodLink RX0 74 yX0_balanceByLots, Cond.instanceMethod yX0_balanceByLots, Cond.selects RX0 yX0_balanceByLots yX0_balanceByLots, Cond.code yX0_balanceByLots cX0_balanceByLots 2 (some .int), Cond.methodLink RX0 81 yX0_guarantorOf, Cond.instanceMethod yX0_guarantorOf, Cond.selects RX0 yX0_guarantorOf yX0_guarantorOf, Cond.code yX0_guarantorOf cX0_guarantorOf 2 (some .int), Cond.fieldLink RX0 24 "FavourRings$Bank" "guarantors" "[I"]
def wsX4_pupilOf : List Cond := .code yX4_pupilOf cX4_pupilOf 3 (some .int) :: ((wsX4_pupilOf_r1 ++ wsX4_pupilOf_r2) ++ wsX40 ++ wsX00)
def wsX4_owes_r1 : List Cond := [Cond.fieldLink RX4 10 "FavourRings" "bank" "LFavourRings$Bank;", Cond.constant RX4 81 (-1000001), Cond.methodLink RX4 77 yX0_isPupil, Cond.instanceMethod yX0_isPupil, Cond.selects RX0 yX0_isPupil yX0_isPupil, Cond.initialized RX0, Cond.code yX0_isPupil cX0_isPupil 2 (some .boolean), Cond.methodLink RX0 63 yX0_number, Cond.instanceMethod yX0_number, Cond.selects RX0 yX0_number yX0_number, Cond.code yX0_number cX0_number 2 (some .int), Cond.fieldLink RX0 9 "FavourRings$Bank" "numbers" "[I", Cond.methodLink RX4 85 yX4_isKind, Cond.static yX4_isKind, Cond.initialized RX4, Cond.code yX4_isKind cX4_isKind 1 (some .boolean), Cond.methodLink RX4 88 yX0_sumOwed, Cond.instanceMethod yX0_sumOwed, Cond.selects RX0 yX0_sumOwed yX0_sumOwed, Cond.code yX0_sumOwed cX0_sumOwed 6 (some .int), Cond.fieldLink RX0 42 "FavourRings$Bank" "sizes" "[I", Cond.methodLink RX0 94 yX0_isLotOf, Cond.instanceMethod yX0_isLotOf, Cond.selects RX0 yX0_isLotOf yX0_isLotOf]
def wsX4_owes_r2 : List Cond := [Cond.code yX0_isLotOf cX0_isLotOf 5 (some .boolean), Cond.fieldLink RX0 33 "FavourRings$Bank" "debtors" "[I", Cond.fieldLink RX0 36 "FavourRings$Bank" "creditors" "[I", Cond.fieldLink RX0 39 "FavourRings$Bank" "kinds" "[I", Cond.static yX4_at, Cond.code yX4_at cX4_at 2 (some .int)]
def wsX4_owes : List Cond := .code yX4_owes cX4_owes 4 (some .int) :: ((wsX4_owes_r1 ++ wsX4_owes_r2) ++ wsX40 ++ wsX00)
def wsX4_lot : List Cond := .code yX4_lot cX4_lot 3 (some .int) :: ([.constant RX4 81 (-1000001), .fieldLink RX4 10 "FavourRings" "bank" "LFavourRings$Bank;", .constant RX4 98 (-1000004), .methodLink RX4 92 yX0_number, .instanceMethod yX0_number, .selects RX0 yX0_number yX0_number, .initialized RX0, .code yX0_number cX0_number 2 (some .int), .fieldLink RX0 9 "FavourRings$Bank" "numbers" "[I", .methodLink RX4 95 yX0_tellOfLot, .instanceMethod yX0_tellOfLot, .selects RX0 yX0_tellOfLot yX0_tellOfLot, .code yX0_tellOfLot cX0_tellOfLot 3 (some .int), .fieldLink RX0 33 "FavourRings$Bank" "debtors" "[I", .fieldLink RX0 36 "FavourRings$Bank" "creditors" "[I", .fieldLink RX0 39 "FavourRings$Bank" "kinds" "[I", .fieldLink RX0 42 "FavourRings$Bank" "sizes" "[I", .fieldLink RX0 45 "FavourRings$Bank" "ages" "[I", .fieldLink RX0 48 "FavourRings$Bank" "passed" "[I", .static yX4_at, .initialized RX4, .code yX4_at cX4_at 2 (some .int)] ++ wsX40 ++ wsX00)
def wsX4_why_r1 : List Cond := [Cond.fieldLink RX4 10 "FavourRings" "bank" "LFavourRings$Bank;", Cond.constant RX4 81 (-1000001), Cond.methodLink RX4 77 yX0_isPupil, Cond.instanceMethod yX0_isPupil, Cond.selects RX0 yX0_isPupil yX0_isPupil, Cond.initialized RX0, Cond.code yX0_isPupil cX0_isPupil 2 (some .boolean), Cond.methodLink RX0 63 yX0_number, Cond.instanceMethod yX0_number, Cond.selects RX0 yX0_number yX0_number, Cond.code yX0_number cX0_number 2 (some .int), Cond.fieldLink RX0 9 "FavourRings$Bank" "numbers" "[I", Cond.methodLink RX4 99 yX4_isMany, Cond.static yX4_isMany, Cond.initialized RX4, Cond.code yX4_isMany cX4_isMany 1 (some .boolean), Cond.methodLink RX4 102 yX0_reasonAgainst, Cond.instanceMethod yX0_reasonAgainst, Cond.selects RX0 yX0_reasonAgainst yX0_reasonAgainst, Cond.code yX0_reasonAgainst cX0_reasonAgainst 4 (some .int), Cond.fieldLink RX0 21 "FavourRings$Bank" "spoiled" "[I", Cond.methodLink RX0 70 yX0_sumOwed, Cond.instanceMethod yX0_sumOwed, Cond.selects RX0 yX0_sumOwed yX0_sumOwed]
def wsX4_why_r2 : List Cond := [Cond.code yX0_sumOwed cX0_sumOwed 6 (some .int), Cond.fieldLink RX0 42 "FavourRings$Bank" "sizes" "[I", Cond.methodLink RX0 94 yX0_isLotOf, Cond.instanceMethod yX0_isLotOf, Cond.selects RX0 yX0_isLotOf yX0_isLotOf, Cond.code yX0_isLotOf cX0_isLotOf 5 (some .boolean), Cond.fieldLink RX0 33 "FavourRings$Bank" "debtors" "[I", Cond.fieldLink RX0 36 "FavourRings$Bank" "creditors" "[I", Cond.fieldLink RX0 39 "FavourRings$Bank" "kinds" "[I", Cond.static yX4_at, Cond.code yX4_at cX4_at 2 (some .int), Cond.methodLink RX0 81 yX0_guarantorOf, Cond.instanceMethod yX0_guarantorOf, Cond.selects RX0 yX0_guarantorOf yX0_guarantorOf, Cond.code yX0_guarantorOf cX0_guarantorOf 2 (some .int), Cond.fieldLink RX0 24 "FavourRings$Bank" "guarantors" "[I"]
def wsX4_why : List Cond := .code yX4_why cX4_why 3 (some .int) :: ((wsX4_why_r1 ++ wsX4_why_r2) ++ wsX40 ++ wsX00)
def wsX4_ring_r1 : List Cond := [Cond.constant RX4 81 (-1000001), Cond.fieldLink RX4 29 "FavourRings" "rings" "LFavourRings$Rings;", Cond.fieldLink RX4 10 "FavourRings" "bank" "LFavourRings$Bank;", Cond.constant RX4 98 (-1000004), Cond.methodLink RX4 85 yX4_isKind, Cond.static yX4_isKind, Cond.initialized RX4, Cond.code yX4_isKind cX4_isKind 1 (some .boolean), Cond.methodLink RX4 105 yX3_findNext, Cond.instanceMethod yX3_findNext, Cond.selects RX3 yX3_findNext yX3_findNext, Cond.initialized RX3, Cond.code yX3_findNext cX3_findNext 6 (some .boolean), Cond.fieldLink RX3 24 "FavourRings$Rings" "length" "I", Cond.fieldLink RX3 21 "FavourRings$Rings" "members" "[I", Cond.methodLink RX3 48 yX3_readOwed, Cond.instanceMethod yX3_readOwed, Cond.selects RX3 yX3_readOwed yX3_readOwed, Cond.code yX3_readOwed cX3_readOwed 5 none, Cond.fieldLink RX3 9 "FavourRings$Rings" "owed" "[I", Cond.methodLink RX3 91 yX0_number, Cond.instanceMethod yX0_number, Cond.selects RX0 yX0_number yX0_number, Cond.initialized RX0]
def wsX4_ring_r2 : List Cond := [Cond.code yX0_number cX0_number 2 (some .int), Cond.fieldLink RX0 9 "FavourRings$Bank" "numbers" "[I", Cond.methodLink RX3 94 yX0_isLotOf, Cond.instanceMethod yX0_isLotOf, Cond.selects RX0 yX0_isLotOf yX0_isLotOf, Cond.code yX0_isLotOf cX0_isLotOf 5 (some .boolean), Cond.fieldLink RX0 33 "FavourRings$Bank" "debtors" "[I", Cond.fieldLink RX0 36 "FavourRings$Bank" "creditors" "[I", Cond.fieldLink RX0 39 "FavourRings$Bank" "kinds" "[I", Cond.static yX4_at, Cond.code yX4_at cX4_at 2 (some .int), Cond.static yX4_add, Cond.code yX4_add cX4_add 3 none, Cond.methodLink RX3 52 yX3_measureSteps, Cond.instanceMethod yX3_measureSteps, Cond.selects RX3 yX3_measureSteps yX3_measureSteps, Cond.code yX3_measureSteps cX3_measureSteps 7 none, Cond.fieldLink RX3 15 "FavourRings$Rings" "steps" "[I", Cond.fieldLink RX3 18 "FavourRings$Rings" "queue" "[I", Cond.static yX4_put, Cond.code yX4_put cX4_put 3 none, Cond.methodLink RX3 39 yX3_owedBetween, Cond.instanceMethod yX3_owedBetween, Cond.selects RX3 yX3_owedBetween yX3_owedBetween]
def wsX4_ring_r3 : List Cond := [Cond.code yX3_owedBetween cX3_owedBetween 4 (some .int), Cond.methodLink RX3 81 yX3_shortestFrom, Cond.instanceMethod yX3_shortestFrom, Cond.selects RX3 yX3_shortestFrom yX3_shortestFrom, Cond.code yX3_shortestFrom cX3_shortestFrom 6 (some .int), Cond.methodLink RX3 32 yX3_nextPupil, Cond.instanceMethod yX3_nextPupil, Cond.selects RX3 yX3_nextPupil yX3_nextPupil, Cond.code yX3_nextPupil cX3_nextPupil 2 (some .int), Cond.methodLink RX3 88 yX3_lowestBehind, Cond.instanceMethod yX3_lowestBehind, Cond.selects RX3 yX3_lowestBehind yX3_lowestBehind, Cond.code yX3_lowestBehind cX3_lowestBehind 4 (some .int), Cond.methodLink RX4 109 yX3_nextLength, Cond.instanceMethod yX3_nextLength, Cond.selects RX3 yX3_nextLength yX3_nextLength, Cond.code yX3_nextLength cX3_nextLength 1 (some .int), Cond.methodLink RX4 112 yX3_nextPupil]
def wsX4_ring : List Cond := .code yX4_ring cX4_ring 3 (some .int) :: ((wsX4_ring_r1 ++ (wsX4_ring_r2 ++ wsX4_ring_r3)) ++ wsX40 ++ wsX30 ++ wsX00)
def wsX4_amount_r1 : List Cond := [Cond.constant RX4 81 (-1000001), Cond.fieldLink RX4 29 "FavourRings" "rings" "LFavourRings$Rings;", Cond.fieldLink RX4 10 "FavourRings" "bank" "LFavourRings$Bank;", Cond.constant RX4 98 (-1000004), Cond.methodLink RX4 85 yX4_isKind, Cond.static yX4_isKind, Cond.initialized RX4, Cond.code yX4_isKind cX4_isKind 1 (some .boolean), Cond.methodLink RX4 105 yX3_findNext, Cond.instanceMethod yX3_findNext, Cond.selects RX3 yX3_findNext yX3_findNext, Cond.initialized RX3, Cond.code yX3_findNext cX3_findNext 6 (some .boolean), Cond.fieldLink RX3 24 "FavourRings$Rings" "length" "I", Cond.fieldLink RX3 21 "FavourRings$Rings" "members" "[I", Cond.methodLink RX3 48 yX3_readOwed, Cond.instanceMethod yX3_readOwed, Cond.selects RX3 yX3_readOwed yX3_readOwed, Cond.code yX3_readOwed cX3_readOwed 5 none, Cond.fieldLink RX3 9 "FavourRings$Rings" "owed" "[I", Cond.methodLink RX3 91 yX0_number, Cond.instanceMethod yX0_number, Cond.selects RX0 yX0_number yX0_number, Cond.initialized RX0]
def wsX4_amount_r2 : List Cond := [Cond.code yX0_number cX0_number 2 (some .int), Cond.fieldLink RX0 9 "FavourRings$Bank" "numbers" "[I", Cond.methodLink RX3 94 yX0_isLotOf, Cond.instanceMethod yX0_isLotOf, Cond.selects RX0 yX0_isLotOf yX0_isLotOf, Cond.code yX0_isLotOf cX0_isLotOf 5 (some .boolean), Cond.fieldLink RX0 33 "FavourRings$Bank" "debtors" "[I", Cond.fieldLink RX0 36 "FavourRings$Bank" "creditors" "[I", Cond.fieldLink RX0 39 "FavourRings$Bank" "kinds" "[I", Cond.static yX4_at, Cond.code yX4_at cX4_at 2 (some .int), Cond.static yX4_add, Cond.code yX4_add cX4_add 3 none, Cond.methodLink RX3 52 yX3_measureSteps, Cond.instanceMethod yX3_measureSteps, Cond.selects RX3 yX3_measureSteps yX3_measureSteps, Cond.code yX3_measureSteps cX3_measureSteps 7 none, Cond.fieldLink RX3 15 "FavourRings$Rings" "steps" "[I", Cond.fieldLink RX3 18 "FavourRings$Rings" "queue" "[I", Cond.static yX4_put, Cond.code yX4_put cX4_put 3 none, Cond.methodLink RX3 39 yX3_owedBetween, Cond.instanceMethod yX3_owedBetween, Cond.selects RX3 yX3_owedBetween yX3_owedBetween]
def wsX4_amount_r3 : List Cond := [Cond.code yX3_owedBetween cX3_owedBetween 4 (some .int), Cond.methodLink RX3 81 yX3_shortestFrom, Cond.instanceMethod yX3_shortestFrom, Cond.selects RX3 yX3_shortestFrom yX3_shortestFrom, Cond.code yX3_shortestFrom cX3_shortestFrom 6 (some .int), Cond.methodLink RX3 32 yX3_nextPupil, Cond.instanceMethod yX3_nextPupil, Cond.selects RX3 yX3_nextPupil yX3_nextPupil, Cond.code yX3_nextPupil cX3_nextPupil 2 (some .int), Cond.methodLink RX3 88 yX3_lowestBehind, Cond.instanceMethod yX3_lowestBehind, Cond.selects RX3 yX3_lowestBehind yX3_lowestBehind, Cond.code yX3_lowestBehind cX3_lowestBehind 4 (some .int), Cond.methodLink RX4 115 yX3_nextAmount, Cond.instanceMethod yX3_nextAmount, Cond.selects RX3 yX3_nextAmount yX3_nextAmount, Cond.code yX3_nextAmount cX3_nextAmount 4 (some .int), Cond.methodLink RX3 43 Lib.Math.min.name, Cond.static Lib.Math.min.name, Cond.initialized "java/lang/Math", Cond.code Lib.Math.min.name Lib.Math.min.code 2 (some .int), Cond.methodLink RX3 36 yX3_pupilBehind, Cond.instanceMethod yX3_pupilBehind, Cond.selects RX3 yX3_pupilBehind yX3_pupilBehind]
def wsX4_amount_r4 : List Cond := [Cond.code yX3_pupilBehind cX3_pupilBehind 2 (some .int)]
def wsX4_amount : List Cond := .code yX4_amount cX4_amount 2 (some .int) :: ((wsX4_amount_r1 ++ (wsX4_amount_r2 ++ (wsX4_amount_r3 ++ wsX4_amount_r4))) ++ wsX40 ++ wsX30 ++ wsX00)
def wsX4_ifCleared_r1 : List Cond := [Cond.constant RX4 81 (-1000001), Cond.fieldLink RX4 29 "FavourRings" "rings" "LFavourRings$Rings;", Cond.fieldLink RX4 16 "FavourRings" "trial" "LFavourRings$Bank;", Cond.fieldLink RX4 10 "FavourRings" "bank" "LFavourRings$Bank;", Cond.methodLink RX4 85 yX4_isKind, Cond.static yX4_isKind, Cond.initialized RX4, Cond.code yX4_isKind cX4_isKind 1 (some .boolean), Cond.methodLink RX4 40 yX4_freshTrial, Cond.instanceMethod yX4_freshTrial, Cond.selects RX4 yX4_freshTrial yX4_freshTrial, Cond.code yX4_freshTrial cX4_freshTrial 1 (some (.object "FavourRings$Bank")), Cond.methodLink RX4 175 yX0_copyFrom, Cond.instanceMethod yX0_copyFrom, Cond.selects RX0 yX0_copyFrom yX0_copyFrom, Cond.initialized RX0, Cond.code yX0_copyFrom cX0_copyFrom 2 none, Cond.fieldLink RX0 9 "FavourRings$Bank" "numbers" "[I", Cond.fieldLink RX0 15 "FavourRings$Bank" "came" "[I", Cond.fieldLink RX0 18 "FavourRings$Bank" "done" "[I", Cond.fieldLink RX0 21 "FavourRings$Bank" "spoiled" "[I", Cond.fieldLink RX0 24 "FavourRings$Bank" "guarantors" "[I", Cond.fieldLink RX0 27 "FavourRings$Bank" "takenOver" "[I", Cond.fieldLink RX0 30 "FavourRings$Bank" "cleared" "[I"]
def wsX4_ifCleared_r2 : List Cond := [Cond.fieldLink RX0 33 "FavourRings$Bank" "debtors" "[I", Cond.fieldLink RX0 36 "FavourRings$Bank" "creditors" "[I", Cond.fieldLink RX0 39 "FavourRings$Bank" "kinds" "[I", Cond.fieldLink RX0 42 "FavourRings$Bank" "sizes" "[I", Cond.fieldLink RX0 45 "FavourRings$Bank" "ages" "[I", Cond.fieldLink RX0 48 "FavourRings$Bank" "passed" "[I", Cond.static yX4_copyRow, Cond.code yX4_copyRow cX4_copyRow 2 none, Cond.methodLink RX4 182 Lib.Math.min.name, Cond.static Lib.Math.min.name, Cond.initialized "java/lang/Math", Cond.code Lib.Math.min.name Lib.Math.min.code 2 (some .int), Cond.methodLink RX4 187 arraycopyName, Cond.native arraycopyName, Cond.static arraycopyName, Cond.initialized "java/lang/System", Cond.methodLink RX4 70 yX3_clearKind, Cond.instanceMethod yX3_clearKind, Cond.selects RX3 yX3_clearKind yX3_clearKind, Cond.initialized RX3, Cond.code yX3_clearKind cX3_clearKind 7 (some .int), Cond.constant RX3 60 (-1000001), Cond.fieldLink RX3 24 "FavourRings$Rings" "length" "I", Cond.methodLink RX3 61 yX3_findNext]
def wsX4_ifCleared_r3 : List Cond := [Cond.instanceMethod yX3_findNext, Cond.selects RX3 yX3_findNext yX3_findNext, Cond.code yX3_findNext cX3_findNext 6 (some .boolean), Cond.fieldLink RX3 21 "FavourRings$Rings" "members" "[I", Cond.methodLink RX3 48 yX3_readOwed, Cond.instanceMethod yX3_readOwed, Cond.selects RX3 yX3_readOwed yX3_readOwed, Cond.code yX3_readOwed cX3_readOwed 5 none, Cond.fieldLink RX3 9 "FavourRings$Rings" "owed" "[I", Cond.methodLink RX3 91 yX0_number, Cond.instanceMethod yX0_number, Cond.selects RX0 yX0_number yX0_number, Cond.code yX0_number cX0_number 2 (some .int), Cond.methodLink RX3 94 yX0_isLotOf, Cond.instanceMethod yX0_isLotOf, Cond.selects RX0 yX0_isLotOf yX0_isLotOf, Cond.code yX0_isLotOf cX0_isLotOf 5 (some .boolean), Cond.static yX4_at, Cond.code yX4_at cX4_at 2 (some .int), Cond.static yX4_add, Cond.code yX4_add cX4_add 3 none, Cond.methodLink RX3 52 yX3_measureSteps, Cond.instanceMethod yX3_measureSteps, Cond.selects RX3 yX3_measureSteps yX3_measureSteps]
def wsX4_ifCleared_r4 : List Cond := [Cond.code yX3_measureSteps cX3_measureSteps 7 none, Cond.fieldLink RX3 15 "FavourRings$Rings" "steps" "[I", Cond.fieldLink RX3 18 "FavourRings$Rings" "queue" "[I", Cond.static yX4_put, Cond.code yX4_put cX4_put 3 none, Cond.methodLink RX3 39 yX3_owedBetween, Cond.instanceMethod yX3_owedBetween, Cond.selects RX3 yX3_owedBetween yX3_owedBetween, Cond.code yX3_owedBetween cX3_owedBetween 4 (some .int), Cond.methodLink RX3 81 yX3_shortestFrom, Cond.instanceMethod yX3_shortestFrom, Cond.selects RX3 yX3_shortestFrom yX3_shortestFrom, Cond.code yX3_shortestFrom cX3_shortestFrom 6 (some .int), Cond.methodLink RX3 32 yX3_nextPupil, Cond.instanceMethod yX3_nextPupil, Cond.selects RX3 yX3_nextPupil yX3_nextPupil, Cond.code yX3_nextPupil cX3_nextPupil 2 (some .int), Cond.methodLink RX3 88 yX3_lowestBehind, Cond.instanceMethod yX3_lowestBehind, Cond.selects RX3 yX3_lowestBehind yX3_lowestBehind, Cond.code yX3_lowestBehind cX3_lowestBehind 4 (some .int), Cond.methodLink RX3 65 yX3_nextAmount, Cond.instanceMethod yX3_nextAmount, Cond.selects RX3 yX3_nextAmount yX3_nextAmount]
def wsX4_ifCleared_r5 : List Cond := [Cond.code yX3_nextAmount cX3_nextAmount 4 (some .int), Cond.methodLink RX3 43 Lib.Math.min.name, Cond.methodLink RX3 36 yX3_pupilBehind, Cond.instanceMethod yX3_pupilBehind, Cond.selects RX3 yX3_pupilBehind yX3_pupilBehind, Cond.code yX3_pupilBehind cX3_pupilBehind 2 (some .int), Cond.methodLink RX3 69 yX0_takeFavours, Cond.instanceMethod yX0_takeFavours, Cond.selects RX0 yX0_takeFavours yX0_takeFavours, Cond.code yX0_takeFavours cX0_takeFavours 9 none, Cond.methodLink RX0 107 Lib.Math.min.name, Cond.methodLink RX0 110 yX0_firstToTake, Cond.instanceMethod yX0_firstToTake, Cond.selects RX0 yX0_firstToTake yX0_firstToTake, Cond.code yX0_firstToTake cX0_firstToTake 6 (some .int), Cond.methodLink RX0 63 yX0_number, Cond.methodLink RX0 94 yX0_isLotOf, Cond.methodLink RX0 113 yX0_dropEmptyLots, Cond.instanceMethod yX0_dropEmptyLots, Cond.selects RX0 yX0_dropEmptyLots yX0_dropEmptyLots, Cond.code yX0_dropEmptyLots cX0_dropEmptyLots 3 none, Cond.methodLink RX3 75 yX0_countCleared, Cond.instanceMethod yX0_countCleared, Cond.selects RX0 yX0_countCleared yX0_countCleared]
def wsX4_ifCleared_r6 : List Cond := [Cond.code yX0_countCleared cX0_countCleared 3 none, Cond.methodLink RX3 78 yX0_countRing, Cond.instanceMethod yX0_countRing, Cond.selects RX0 yX0_countRing yX0_countRing, Cond.code yX0_countRing cX0_countRing 1 none, Cond.methodLink RX4 92 yX0_number]
def wsX4_ifCleared : List Cond := .code yX4_ifCleared cX4_ifCleared 4 (some .int) :: ((wsX4_ifCleared_r1 ++ (wsX4_ifCleared_r2 ++ (wsX4_ifCleared_r3 ++ (wsX4_ifCleared_r4 ++ (wsX4_ifCleared_r5 ++ wsX4_ifCleared_r6))))) ++ wsX40 ++ wsX00 ++ wsX30)
def wsX4_chain_r1 : List Cond := [Cond.fieldLink RX4 10 "FavourRings" "bank" "LFavourRings$Bank;", Cond.constant RX4 81 (-1000001), Cond.fieldLink RX4 29 "FavourRings" "rings" "LFavourRings$Rings;", Cond.constant RX4 98 (-1000004), Cond.methodLink RX4 118 yX0_isPair, Cond.instanceMethod yX0_isPair, Cond.selects RX0 yX0_isPair yX0_isPair, Cond.initialized RX0, Cond.code yX0_isPair cX0_isPair 3 (some .boolean), Cond.methodLink RX0 66 yX0_isPupil, Cond.instanceMethod yX0_isPupil, Cond.selects RX0 yX0_isPupil yX0_isPupil, Cond.code yX0_isPupil cX0_isPupil 2 (some .boolean), Cond.methodLink RX0 63 yX0_number, Cond.instanceMethod yX0_number, Cond.selects RX0 yX0_number yX0_number, Cond.code yX0_number cX0_number 2 (some .int), Cond.fieldLink RX0 9 "FavourRings$Bank" "numbers" "[I", Cond.methodLink RX4 85 yX4_isKind, Cond.static yX4_isKind, Cond.initialized RX4, Cond.code yX4_isKind cX4_isKind 1 (some .boolean), Cond.methodLink RX4 122 yX3_stepsBetween, Cond.instanceMethod yX3_stepsBetween]
def wsX4_chain_r2 : List Cond := [Cond.selects RX3 yX3_stepsBetween yX3_stepsBetween, Cond.initialized RX3, Cond.code yX3_stepsBetween cX3_stepsBetween 5 (some .int), Cond.fieldLink RX3 15 "FavourRings$Rings" "steps" "[I", Cond.methodLink RX3 48 yX3_readOwed, Cond.instanceMethod yX3_readOwed, Cond.selects RX3 yX3_readOwed yX3_readOwed, Cond.code yX3_readOwed cX3_readOwed 5 none, Cond.fieldLink RX3 9 "FavourRings$Rings" "owed" "[I", Cond.methodLink RX3 91 yX0_number, Cond.methodLink RX3 94 yX0_isLotOf, Cond.instanceMethod yX0_isLotOf, Cond.selects RX0 yX0_isLotOf yX0_isLotOf, Cond.code yX0_isLotOf cX0_isLotOf 5 (some .boolean), Cond.fieldLink RX0 33 "FavourRings$Bank" "debtors" "[I", Cond.fieldLink RX0 36 "FavourRings$Bank" "creditors" "[I", Cond.fieldLink RX0 39 "FavourRings$Bank" "kinds" "[I", Cond.static yX4_at, Cond.code yX4_at cX4_at 2 (some .int), Cond.static yX4_add, Cond.code yX4_add cX4_add 3 none, Cond.methodLink RX3 52 yX3_measureSteps, Cond.instanceMethod yX3_measureSteps, Cond.selects RX3 yX3_measureSteps yX3_measureSteps]
def wsX4_chain_r3 : List Cond := [Cond.code yX3_measureSteps cX3_measureSteps 7 none, Cond.fieldLink RX3 18 "FavourRings$Rings" "queue" "[I", Cond.static yX4_put, Cond.code yX4_put cX4_put 3 none, Cond.methodLink RX3 39 yX3_owedBetween, Cond.instanceMethod yX3_owedBetween, Cond.selects RX3 yX3_owedBetween yX3_owedBetween, Cond.code yX3_owedBetween cX3_owedBetween 4 (some .int)]
def wsX4_chain : List Cond := .code yX4_chain cX4_chain 5 (some .int) :: ((wsX4_chain_r1 ++ (wsX4_chain_r2 ++ wsX4_chain_r3)) ++ wsX40 ++ wsX00 ++ wsX30)
def wsX4_deepest_r1 : List Cond := [Cond.constant RX4 81 (-1000001), Cond.constant RX4 98 (-1000004), Cond.fieldLink RX4 10 "FavourRings" "bank" "LFavourRings$Bank;", Cond.methodLink RX4 85 yX4_isKind, Cond.static yX4_isKind, Cond.initialized RX4, Cond.code yX4_isKind cX4_isKind 1 (some .boolean), Cond.methodLink RX4 92 yX0_number, Cond.instanceMethod yX0_number, Cond.selects RX0 yX0_number yX0_number, Cond.initialized RX0, Cond.code yX0_number cX0_number 2 (some .int), Cond.fieldLink RX0 9 "FavourRings$Bank" "numbers" "[I", Cond.methodLink RX4 88 yX0_sumOwed, Cond.instanceMethod yX0_sumOwed, Cond.selects RX0 yX0_sumOwed yX0_sumOwed, Cond.code yX0_sumOwed cX0_sumOwed 6 (some .int), Cond.fieldLink RX0 42 "FavourRings$Bank" "sizes" "[I", Cond.methodLink RX0 63 yX0_number, Cond.methodLink RX0 94 yX0_isLotOf, Cond.instanceMethod yX0_isLotOf, Cond.selects RX0 yX0_isLotOf yX0_isLotOf, Cond.code yX0_isLotOf cX0_isLotOf 5 (some .boolean), Cond.fieldLink RX0 33 "FavourRings$Bank" "debtors" "[I"]
def wsX4_deepest_r2 : List Cond := [Cond.fieldLink RX0 36 "FavourRings$Bank" "creditors" "[I", Cond.fieldLink RX0 39 "FavourRings$Bank" "kinds" "[I", Cond.static yX4_at, Cond.code yX4_at cX4_at 2 (some .int)]
def wsX4_deepest : List Cond := .code yX4_deepest cX4_deepest 6 (some .int) :: ((wsX4_deepest_r1 ++ wsX4_deepest_r2) ++ wsX40 ++ wsX00)
def wsX4_spoilsIn_r1 : List Cond := [Cond.fieldLink RX4 10 "FavourRings" "bank" "LFavourRings$Bank;", Cond.constant RX4 81 (-1000001), Cond.constant RX4 98 (-1000004), Cond.methodLink RX4 77 yX0_isPupil, Cond.instanceMethod yX0_isPupil, Cond.selects RX0 yX0_isPupil yX0_isPupil, Cond.initialized RX0, Cond.code yX0_isPupil cX0_isPupil 2 (some .boolean), Cond.methodLink RX0 63 yX0_number, Cond.instanceMethod yX0_number, Cond.selects RX0 yX0_number yX0_number, Cond.code yX0_number cX0_number 2 (some .int), Cond.fieldLink RX0 9 "FavourRings$Bank" "numbers" "[I", Cond.methodLink RX4 126 yX0_weeksUntilNextSpoils, Cond.instanceMethod yX0_weeksUntilNextSpoils, Cond.selects RX0 yX0_weeksUntilNextSpoils yX0_weeksUntilNextSpoils, Cond.code yX0_weeksUntilNextSpoils cX0_weeksUntilNextSpoils 5 (some .int), Cond.methodLink RX0 101 Lib.Math.max.name, Cond.static Lib.Math.max.name, Cond.initialized "java/lang/Math", Cond.code Lib.Math.max.name Lib.Math.max.code 2 (some .int), Cond.methodLink RX0 107 Lib.Math.min.name, Cond.static Lib.Math.min.name, Cond.code Lib.Math.min.name Lib.Math.min.code 2 (some .int)]
def wsX4_spoilsIn_r2 : List Cond := [Cond.methodLink RX0 94 yX0_isLotOf, Cond.instanceMethod yX0_isLotOf, Cond.selects RX0 yX0_isLotOf yX0_isLotOf, Cond.code yX0_isLotOf cX0_isLotOf 5 (some .boolean), Cond.fieldLink RX0 33 "FavourRings$Bank" "debtors" "[I", Cond.fieldLink RX0 36 "FavourRings$Bank" "creditors" "[I", Cond.fieldLink RX0 39 "FavourRings$Bank" "kinds" "[I", Cond.methodLink RX0 98 yX0_weeksLeft, Cond.instanceMethod yX0_weeksLeft, Cond.selects RX0 yX0_weeksLeft yX0_weeksLeft, Cond.code yX0_weeksLeft cX0_weeksLeft 2 (some .int), Cond.fieldLink RX0 45 "FavourRings$Bank" "ages" "[I", Cond.static yX4_at, Cond.initialized RX4, Cond.code yX4_at cX4_at 2 (some .int)]
def wsX4_spoilsIn : List Cond := .code yX4_spoilsIn cX4_spoilsIn 3 (some .int) :: ((wsX4_spoilsIn_r1 ++ wsX4_spoilsIn_r2) ++ wsX40 ++ wsX00)
def wsX4_richest_r1 : List Cond := [Cond.constant RX4 81 (-1000001), Cond.fieldLink RX4 10 "FavourRings" "bank" "LFavourRings$Bank;", Cond.constant RX4 98 (-1000004), Cond.methodLink RX4 92 yX0_number, Cond.instanceMethod yX0_number, Cond.selects RX0 yX0_number yX0_number, Cond.initialized RX0, Cond.code yX0_number cX0_number 2 (some .int), Cond.fieldLink RX0 9 "FavourRings$Bank" "numbers" "[I", Cond.methodLink RX4 129 yX0_rankOf, Cond.instanceMethod yX0_rankOf, Cond.selects RX0 yX0_rankOf yX0_rankOf, Cond.code yX0_rankOf cX0_rankOf 6 (some .int), Cond.methodLink RX0 74 yX0_balanceByLots, Cond.instanceMethod yX0_balanceByLots, Cond.selects RX0 yX0_balanceByLots yX0_balanceByLots, Cond.code yX0_balanceByLots cX0_balanceByLots 2 (some .int), Cond.methodLink RX0 70 yX0_sumOwed, Cond.instanceMethod yX0_sumOwed, Cond.selects RX0 yX0_sumOwed yX0_sumOwed, Cond.code yX0_sumOwed cX0_sumOwed 6 (some .int), Cond.fieldLink RX0 42 "FavourRings$Bank" "sizes" "[I", Cond.methodLink RX0 63 yX0_number, Cond.methodLink RX0 94 yX0_isLotOf]
def wsX4_richest_r2 : List Cond := [Cond.instanceMethod yX0_isLotOf, Cond.selects RX0 yX0_isLotOf yX0_isLotOf, Cond.code yX0_isLotOf cX0_isLotOf 5 (some .boolean), Cond.fieldLink RX0 33 "FavourRings$Bank" "debtors" "[I", Cond.fieldLink RX0 36 "FavourRings$Bank" "creditors" "[I", Cond.fieldLink RX0 39 "FavourRings$Bank" "kinds" "[I", Cond.static yX4_at, Cond.initialized RX4, Cond.code yX4_at cX4_at 2 (some .int)]
def wsX4_richest : List Cond := .code yX4_richest cX4_richest 3 (some .int) :: ((wsX4_richest_r1 ++ wsX4_richest_r2) ++ wsX40 ++ wsX00)
def wsX4_bitsOf : List Cond := .code yX4_bitsOf cX4_bitsOf 4 (some .int) :: ([.constantFloat RX4 193 (1258291200)])
def wsX4_mean_r1 : List Cond := [Cond.fieldLink RX4 10 "FavourRings" "bank" "LFavourRings$Bank;", Cond.constant RX4 98 (-1000004), Cond.methodLink RX4 88 yX0_sumOwed, Cond.instanceMethod yX0_sumOwed, Cond.selects RX0 yX0_sumOwed yX0_sumOwed, Cond.initialized RX0, Cond.code yX0_sumOwed cX0_sumOwed 6 (some .int), Cond.fieldLink RX0 42 "FavourRings$Bank" "sizes" "[I", Cond.methodLink RX0 63 yX0_number, Cond.instanceMethod yX0_number, Cond.selects RX0 yX0_number yX0_number, Cond.code yX0_number cX0_number 2 (some .int), Cond.fieldLink RX0 9 "FavourRings$Bank" "numbers" "[I", Cond.methodLink RX0 94 yX0_isLotOf, Cond.instanceMethod yX0_isLotOf, Cond.selects RX0 yX0_isLotOf yX0_isLotOf, Cond.code yX0_isLotOf cX0_isLotOf 5 (some .boolean), Cond.fieldLink RX0 33 "FavourRings$Bank" "debtors" "[I", Cond.fieldLink RX0 36 "FavourRings$Bank" "creditors" "[I", Cond.fieldLink RX0 39 "FavourRings$Bank" "kinds" "[I", Cond.static yX4_at, Cond.initialized RX4, Cond.code yX4_at cX4_at 2 (some .int), Cond.methodLink RX4 132 yX0_sumOfAges]
def wsX4_mean_r2 : List Cond := [Cond.instanceMethod yX0_sumOfAges, Cond.selects RX0 yX0_sumOfAges yX0_sumOfAges, Cond.code yX0_sumOfAges cX0_sumOfAges 3 (some .int), Cond.fieldLink RX0 45 "FavourRings$Bank" "ages" "[I", Cond.methodLink RX4 135 yX4_bitsOf, Cond.static yX4_bitsOf, Cond.code yX4_bitsOf cX4_bitsOf 4 (some .int), Cond.constantFloat RX4 193 (1258291200)]
def wsX4_mean : List Cond := .code yX4_mean cX4_mean 2 (some .int) :: ((wsX4_mean_r1 ++ wsX4_mean_r2) ++ wsX40 ++ wsX00)
def wsX4_count_r1 : List Cond := [Cond.constant RX4 81 (-1000001), Cond.fieldLink RX4 10 "FavourRings" "bank" "LFavourRings$Bank;", Cond.fieldLink RX4 22 "FavourRings" "history" "LFavourRings$History;", Cond.fieldLink RX4 36 "FavourRings" "orders" "LFavourRings$Orders;", Cond.methodLink RX4 88 yX0_sumOwed, Cond.instanceMethod yX0_sumOwed, Cond.selects RX0 yX0_sumOwed yX0_sumOwed, Cond.initialized RX0, Cond.code yX0_sumOwed cX0_sumOwed 6 (some .int), Cond.fieldLink RX0 42 "FavourRings$Bank" "sizes" "[I", Cond.methodLink RX0 63 yX0_number, Cond.instanceMethod yX0_number, Cond.selects RX0 yX0_number yX0_number, Cond.code yX0_number cX0_number 2 (some .int), Cond.fieldLink RX0 9 "FavourRings$Bank" "numbers" "[I", Cond.methodLink RX0 94 yX0_isLotOf, Cond.instanceMethod yX0_isLotOf, Cond.selects RX0 yX0_isLotOf yX0_isLotOf, Cond.code yX0_isLotOf cX0_isLotOf 5 (some .boolean), Cond.fieldLink RX0 33 "FavourRings$Bank" "debtors" "[I", Cond.fieldLink RX0 36 "FavourRings$Bank" "creditors" "[I", Cond.fieldLink RX0 39 "FavourRings$Bank" "kinds" "[I", Cond.static yX4_at, Cond.initialized RX4]
def wsX4_count_r2 : List Cond := [Cond.code yX4_at cX4_at 2 (some .int), Cond.methodLink RX4 139 yX0_setWithoutGuarantor, Cond.instanceMethod yX0_setWithoutGuarantor, Cond.selects RX0 yX0_setWithoutGuarantor yX0_setWithoutGuarantor, Cond.code yX0_setWithoutGuarantor cX0_setWithoutGuarantor 3 (some .int), Cond.methodLink RX0 81 yX0_guarantorOf, Cond.instanceMethod yX0_guarantorOf, Cond.selects RX0 yX0_guarantorOf yX0_guarantorOf, Cond.code yX0_guarantorOf cX0_guarantorOf 2 (some .int), Cond.fieldLink RX0 24 "FavourRings$Bank" "guarantors" "[I", Cond.methodLink RX4 142 yX1_size, Cond.instanceMethod yX1_size, Cond.selects RX1 yX1_size yX1_size, Cond.initialized RX1, Cond.code yX1_size cX1_size 1 (some .int), Cond.fieldLink RX1 18 "FavourRings$History" "size" "I", Cond.methodLink RX4 145 yX2_length, Cond.instanceMethod yX2_length, Cond.selects RX2 yX2_length yX2_length, Cond.initialized RX2, Cond.code yX2_length cX2_length 1 (some .int), Cond.fieldLink RX2 18 "FavourRings$Orders" "length" "I", Cond.methodLink RX4 92 yX0_number]
def wsX4_count : List Cond := .code yX4_count cX4_count 2 (some .int) :: ((wsX4_count_r1 ++ wsX4_count_r2) ++ wsX40 ++ wsX00 ++ wsX10 ++ wsX20)
def wsX4_undo_r1 : List Cond := [Cond.fieldLink RX4 22 "FavourRings" "history" "LFavourRings$History;", Cond.fieldLink RX4 10 "FavourRings" "bank" "LFavourRings$Bank;", Cond.methodLink RX4 148 yX1_restoreLatest, Cond.instanceMethod yX1_restoreLatest, Cond.selects RX1 yX1_restoreLatest yX1_restoreLatest, Cond.initialized RX1, Cond.code yX1_restoreLatest cX1_restoreLatest 3 (some .int), Cond.fieldLink RX1 18 "FavourRings$History" "size" "I", Cond.fieldLink RX1 11 "FavourRings$History" "states" "[LFavourRings$Bank;", Cond.constant RX1 29 (-1000002), Cond.methodLink RX1 25 yX0_copyFrom, Cond.instanceMethod yX0_copyFrom, Cond.selects RX0 yX0_copyFrom yX0_copyFrom, Cond.initialized RX0, Cond.code yX0_copyFrom cX0_copyFrom 2 none, Cond.fieldLink RX0 9 "FavourRings$Bank" "numbers" "[I", Cond.fieldLink RX0 15 "FavourRings$Bank" "came" "[I", Cond.fieldLink RX0 18 "FavourRings$Bank" "done" "[I", Cond.fieldLink RX0 21 "FavourRings$Bank" "spoiled" "[I", Cond.fieldLink RX0 24 "FavourRings$Bank" "guarantors" "[I", Cond.fieldLink RX0 27 "FavourRings$Bank" "takenOver" "[I", Cond.fieldLink RX0 30 "FavourRings$Bank" "cleared" "[I", Cond.fieldLink RX0 33 "FavourRings$Bank" "debtors" "[I", Cond.fieldLink RX0 36 "FavourRings$Bank" "creditors" "[I"]
def wsX4_undo_r2 : List Cond := [Cond.fieldLink RX0 39 "FavourRings$Bank" "kinds" "[I", Cond.fieldLink RX0 42 "FavourRings$Bank" "sizes" "[I", Cond.fieldLink RX0 45 "FavourRings$Bank" "ages" "[I", Cond.fieldLink RX0 48 "FavourRings$Bank" "passed" "[I", Cond.static yX4_copyRow, Cond.initialized RX4, Cond.code yX4_copyRow cX4_copyRow 2 none, Cond.methodLink RX4 182 Lib.Math.min.name, Cond.static Lib.Math.min.name, Cond.initialized "java/lang/Math", Cond.code Lib.Math.min.name Lib.Math.min.code 2 (some .int), Cond.methodLink RX4 187 arraycopyName, Cond.native arraycopyName, Cond.static arraycopyName, Cond.initialized "java/lang/System"]
def wsX4_undo : List Cond := .code yX4_undo cX4_undo 1 (some .int) :: ((wsX4_undo_r1 ++ wsX4_undo_r2) ++ wsX40 ++ wsX10 ++ wsX00)
def wsX4_type : List Cond := .code yX4_type cX4_type 2 (some .int) :: ([.fieldLink RX4 36 "FavourRings" "orders" "LFavourRings$Orders;", .methodLink RX4 152 yX2_append, .instanceMethod yX2_append, .selects RX2 yX2_append yX2_append, .initialized RX2, .code yX2_append cX2_append 2 (some .int), .constant RX2 34 (-1000001), .fieldLink RX2 18 "FavourRings$Orders" "length" "I", .constant RX2 35 (-1000003), .fieldLink RX2 9 "FavourRings$Orders" "text" "[I", .static yX4_put, .initialized RX4, .code yX4_put cX4_put 3 none] ++ wsX40 ++ wsX20)
def wsX4_clearText : List Cond := .code yX4_clearText cX4_clearText 1 (some .int) :: ([.fieldLink RX4 36 "FavourRings" "orders" "LFavourRings$Orders;", .methodLink RX4 155 yX2_empty, .instanceMethod yX2_empty, .selects RX2 yX2_empty yX2_empty, .initialized RX2, .code yX2_empty cX2_empty 2 (some .int), .fieldLink RX2 18 "FavourRings$Orders" "length" "I"] ++ wsX40 ++ wsX20)
def wsX4_fault_r1 : List Cond := [Cond.constant RX4 81 (-1000001), Cond.fieldLink RX4 36 "FavourRings" "orders" "LFavourRings$Orders;", Cond.fieldLink RX4 29 "FavourRings" "rings" "LFavourRings$Rings;", Cond.constant RX4 98 (-1000004), Cond.methodLink RX4 40 yX4_freshTrial, Cond.instanceMethod yX4_freshTrial, Cond.selects RX4 yX4_freshTrial yX4_freshTrial, Cond.initialized RX4, Cond.code yX4_freshTrial cX4_freshTrial 1 (some (.object "FavourRings$Bank")), Cond.fieldLink RX4 16 "FavourRings" "trial" "LFavourRings$Bank;", Cond.fieldLink RX4 10 "FavourRings" "bank" "LFavourRings$Bank;", Cond.methodLink RX4 175 yX0_copyFrom, Cond.instanceMethod yX0_copyFrom, Cond.selects RX0 yX0_copyFrom yX0_copyFrom, Cond.initialized RX0, Cond.code yX0_copyFrom cX0_copyFrom 2 none, Cond.fieldLink RX0 9 "FavourRings$Bank" "numbers" "[I", Cond.fieldLink RX0 15 "FavourRings$Bank" "came" "[I", Cond.fieldLink RX0 18 "FavourRings$Bank" "done" "[I", Cond.fieldLink RX0 21 "FavourRings$Bank" "spoiled" "[I", Cond.fieldLink RX0 24 "FavourRings$Bank" "guarantors" "[I", Cond.fieldLink RX0 27 "FavourRings$Bank" "takenOver" "[I", Cond.fieldLink RX0 30 "FavourRings$Bank" "cleared" "[I", Cond.fieldLink RX0 33 "FavourRings$Bank" "debtors" "[I"]
def wsX4_fault_r2 : List Cond := [Cond.fieldLink RX0 36 "FavourRings$Bank" "creditors" "[I", Cond.fieldLink RX0 39 "FavourRings$Bank" "kinds" "[I", Cond.fieldLink RX0 42 "FavourRings$Bank" "sizes" "[I", Cond.fieldLink RX0 45 "FavourRings$Bank" "ages" "[I", Cond.fieldLink RX0 48 "FavourRings$Bank" "passed" "[I", Cond.static yX4_copyRow, Cond.code yX4_copyRow cX4_copyRow 2 none, Cond.methodLink RX4 182 Lib.Math.min.name, Cond.static Lib.Math.min.name, Cond.initialized "java/lang/Math", Cond.code Lib.Math.min.name Lib.Math.min.code 2 (some .int), Cond.methodLink RX4 187 arraycopyName, Cond.native arraycopyName, Cond.static arraycopyName, Cond.initialized "java/lang/System", Cond.methodLink RX4 158 yX2_doAll, Cond.instanceMethod yX2_doAll, Cond.selects RX2 yX2_doAll yX2_doAll, Cond.initialized RX2, Cond.code yX2_doAll cX2_doAll 6 (some .boolean), Cond.fieldLink RX2 22 "FavourRings$Orders" "done" "I", Cond.fieldLink RX2 18 "FavourRings$Orders" "length" "I", Cond.fieldLink RX2 44 "FavourRings$Orders" "place" "I", Cond.methodLink RX2 40 yX2_readOrder]
def wsX4_fault_r3 : List Cond := [Cond.instanceMethod yX2_readOrder, Cond.selects RX2 yX2_readOrder yX2_readOrder, Cond.code yX2_readOrder cX2_readOrder 4 (some .boolean), Cond.methodLink RX2 51 yX2_signAt, Cond.instanceMethod yX2_signAt, Cond.selects RX2 yX2_signAt yX2_signAt, Cond.code yX2_signAt cX2_signAt 2 (some .int), Cond.fieldLink RX2 9 "FavourRings$Orders" "text" "[I", Cond.static yX4_at, Cond.code yX4_at cX4_at 2 (some .int), Cond.methodLink RX2 93 yX2_numbersAfter, Cond.static yX2_numbersAfter, Cond.code yX2_numbersAfter cX2_numbersAfter 1 (some .int), Cond.methodLink RX2 96 yX2_passSign, Cond.instanceMethod yX2_passSign, Cond.selects RX2 yX2_passSign yX2_passSign, Cond.code yX2_passSign cX2_passSign 2 (some .boolean), Cond.methodLink RX2 99 yX2_readNumber, Cond.instanceMethod yX2_readNumber, Cond.selects RX2 yX2_readNumber yX2_readNumber, Cond.code yX2_readNumber cX2_readNumber 4 (some .boolean), Cond.fieldLink RX2 15 "FavourRings$Orders" "numbers" "[I", Cond.methodLink RX2 102 yX2_isDigit, Cond.static yX2_isDigit]
def wsX4_fault_r4 : List Cond := [Cond.code yX2_isDigit cX2_isDigit 1 (some .boolean), Cond.static yX4_put, Cond.code yX4_put cX4_put 3 none, Cond.methodLink RX2 47 yX2_noteFault, Cond.instanceMethod yX2_noteFault, Cond.selects RX2 yX2_noteFault yX2_noteFault, Cond.code yX2_noteFault cX2_noteFault 4 (some .boolean), Cond.fieldLink RX2 25 "FavourRings$Orders" "faultPlace" "I", Cond.fieldLink RX2 28 "FavourRings$Orders" "faultReason" "I", Cond.fieldLink RX2 31 "FavourRings$Orders" "faultCause" "I", Cond.methodLink RX2 55 yX2_doOrder, Cond.instanceMethod yX2_doOrder, Cond.selects RX2 yX2_doOrder yX2_doOrder, Cond.code yX2_doOrder cX2_doOrder 6 (some .int), Cond.methodLink RX2 63 yX0_lendFavours, Cond.instanceMethod yX0_lendFavours, Cond.selects RX0 yX0_lendFavours yX0_lendFavours, Cond.code yX0_lendFavours cX0_lendFavours 5 (some .int), Cond.constant RX0 93 (-1000001), Cond.constant RX0 125 (-1000002), Cond.constant RX0 85 (-1000003), Cond.methodLink RX0 89 yX0_isPair, Cond.instanceMethod yX0_isPair, Cond.selects RX0 yX0_isPair yX0_isPair]
def wsX4_fault_r5 : List Cond := [Cond.code yX0_isPair cX0_isPair 3 (some .boolean), Cond.methodLink RX0 66 yX0_isPupil, Cond.instanceMethod yX0_isPupil, Cond.selects RX0 yX0_isPupil yX0_isPupil, Cond.code yX0_isPupil cX0_isPupil 2 (some .boolean), Cond.methodLink RX0 63 yX0_number, Cond.instanceMethod yX0_number, Cond.selects RX0 yX0_number yX0_number, Cond.code yX0_number cX0_number 2 (some .int), Cond.static yX4_isKind, Cond.code yX4_isKind cX4_isKind 1 (some .boolean), Cond.static yX4_isMany, Cond.code yX4_isMany cX4_isMany 1 (some .boolean), Cond.methodLink RX0 122 yX0_reasonAgainst, Cond.instanceMethod yX0_reasonAgainst, Cond.selects RX0 yX0_reasonAgainst yX0_reasonAgainst, Cond.code yX0_reasonAgainst cX0_reasonAgainst 4 (some .int), Cond.methodLink RX0 70 yX0_sumOwed, Cond.instanceMethod yX0_sumOwed, Cond.selects RX0 yX0_sumOwed yX0_sumOwed, Cond.code yX0_sumOwed cX0_sumOwed 6 (some .int), Cond.methodLink RX0 94 yX0_isLotOf, Cond.instanceMethod yX0_isLotOf, Cond.selects RX0 yX0_isLotOf yX0_isLotOf]
def wsX4_fault_r6 : List Cond := [Cond.code yX0_isLotOf cX0_isLotOf 5 (some .boolean), Cond.methodLink RX0 81 yX0_guarantorOf, Cond.instanceMethod yX0_guarantorOf, Cond.selects RX0 yX0_guarantorOf yX0_guarantorOf, Cond.code yX0_guarantorOf cX0_guarantorOf 2 (some .int), Cond.methodLink RX0 126 yX0_addLot, Cond.instanceMethod yX0_addLot, Cond.selects RX0 yX0_addLot yX0_addLot, Cond.code yX0_addLot cX0_addLot 6 none, Cond.static yX4_add, Cond.code yX4_add cX4_add 3 none, Cond.methodLink RX2 69 yX0_fulfilFavours, Cond.instanceMethod yX0_fulfilFavours, Cond.selects RX0 yX0_fulfilFavours yX0_fulfilFavours, Cond.code yX0_fulfilFavours cX0_fulfilFavours 5 (some .int), Cond.methodLink RX0 130 yX0_takeFavours, Cond.instanceMethod yX0_takeFavours, Cond.selects RX0 yX0_takeFavours yX0_takeFavours, Cond.code yX0_takeFavours cX0_takeFavours 9 none, Cond.methodLink RX0 107 Lib.Math.min.name, Cond.methodLink RX0 110 yX0_firstToTake, Cond.instanceMethod yX0_firstToTake, Cond.selects RX0 yX0_firstToTake yX0_firstToTake, Cond.code yX0_firstToTake cX0_firstToTake 6 (some .int)]
def wsX4_fault_r7 : List Cond := [Cond.methodLink RX0 113 yX0_dropEmptyLots, Cond.instanceMethod yX0_dropEmptyLots, Cond.selects RX0 yX0_dropEmptyLots yX0_dropEmptyLots, Cond.code yX0_dropEmptyLots cX0_dropEmptyLots 3 none, Cond.methodLink RX2 72 yX0_giveGuarantor, Cond.instanceMethod yX0_giveGuarantor, Cond.selects RX0 yX0_giveGuarantor yX0_giveGuarantor, Cond.code yX0_giveGuarantor cX0_giveGuarantor 4 (some .int), Cond.methodLink RX2 76 yX3_clearKind, Cond.instanceMethod yX3_clearKind, Cond.selects RX3 yX3_clearKind yX3_clearKind, Cond.initialized RX3, Cond.code yX3_clearKind cX3_clearKind 7 (some .int), Cond.constant RX3 60 (-1000001), Cond.fieldLink RX3 24 "FavourRings$Rings" "length" "I", Cond.methodLink RX3 61 yX3_findNext, Cond.instanceMethod yX3_findNext, Cond.selects RX3 yX3_findNext yX3_findNext, Cond.code yX3_findNext cX3_findNext 6 (some .boolean), Cond.fieldLink RX3 21 "FavourRings$Rings" "members" "[I", Cond.methodLink RX3 48 yX3_readOwed, Cond.instanceMethod yX3_readOwed, Cond.selects RX3 yX3_readOwed yX3_readOwed, Cond.code yX3_readOwed cX3_readOwed 5 none]
def wsX4_fault_r8 : List Cond := [Cond.fieldLink RX3 9 "FavourRings$Rings" "owed" "[I", Cond.methodLink RX3 91 yX0_number, Cond.methodLink RX3 94 yX0_isLotOf, Cond.methodLink RX3 52 yX3_measureSteps, Cond.instanceMethod yX3_measureSteps, Cond.selects RX3 yX3_measureSteps yX3_measureSteps, Cond.code yX3_measureSteps cX3_measureSteps 7 none, Cond.fieldLink RX3 15 "FavourRings$Rings" "steps" "[I", Cond.fieldLink RX3 18 "FavourRings$Rings" "queue" "[I", Cond.methodLink RX3 39 yX3_owedBetween, Cond.instanceMethod yX3_owedBetween, Cond.selects RX3 yX3_owedBetween yX3_owedBetween, Cond.code yX3_owedBetween cX3_owedBetween 4 (some .int), Cond.methodLink RX3 81 yX3_shortestFrom, Cond.instanceMethod yX3_shortestFrom, Cond.selects RX3 yX3_shortestFrom yX3_shortestFrom, Cond.code yX3_shortestFrom cX3_shortestFrom 6 (some .int), Cond.methodLink RX3 32 yX3_nextPupil, Cond.instanceMethod yX3_nextPupil, Cond.selects RX3 yX3_nextPupil yX3_nextPupil, Cond.code yX3_nextPupil cX3_nextPupil 2 (some .int), Cond.methodLink RX3 88 yX3_lowestBehind, Cond.instanceMethod yX3_lowestBehind, Cond.selects RX3 yX3_lowestBehind yX3_lowestBehind]
def wsX4_fault_r9 : List Cond := [Cond.code yX3_lowestBehind cX3_lowestBehind 4 (some .int), Cond.methodLink RX3 65 yX3_nextAmount, Cond.instanceMethod yX3_nextAmount, Cond.selects RX3 yX3_nextAmount yX3_nextAmount, Cond.code yX3_nextAmount cX3_nextAmount 4 (some .int), Cond.methodLink RX3 43 Lib.Math.min.name, Cond.methodLink RX3 36 yX3_pupilBehind, Cond.instanceMethod yX3_pupilBehind, Cond.selects RX3 yX3_pupilBehind yX3_pupilBehind, Cond.code yX3_pupilBehind cX3_pupilBehind 2 (some .int), Cond.methodLink RX3 69 yX0_takeFavours, Cond.methodLink RX3 75 yX0_countCleared, Cond.instanceMethod yX0_countCleared, Cond.selects RX0 yX0_countCleared yX0_countCleared, Cond.code yX0_countCleared cX0_countCleared 3 none, Cond.methodLink RX3 78 yX0_countRing, Cond.instanceMethod yX0_countRing, Cond.selects RX0 yX0_countRing yX0_countRing, Cond.code yX0_countRing cX0_countRing 1 none, Cond.methodLink RX2 82 yX0_endWeeks, Cond.instanceMethod yX0_endWeeks, Cond.selects RX0 yX0_endWeeks yX0_endWeeks, Cond.code yX0_endWeeks cX0_endWeeks 4 (some .int), Cond.methodLink RX0 133 yX0_endWeek]
def wsX4_fault_r10 : List Cond := [Cond.instanceMethod yX0_endWeek, Cond.selects RX0 yX0_endWeek yX0_endWeek, Cond.code yX0_endWeek cX0_endWeek 2 none, Cond.methodLink RX0 136 yX0_hasHolidays, Cond.instanceMethod yX0_hasHolidays, Cond.selects RX0 yX0_hasHolidays yX0_hasHolidays, Cond.code yX0_hasHolidays cX0_hasHolidays 1 (some .boolean), Cond.methodLink RX0 98 yX0_weeksLeft, Cond.instanceMethod yX0_weeksLeft, Cond.selects RX0 yX0_weeksLeft yX0_weeksLeft, Cond.code yX0_weeksLeft cX0_weeksLeft 2 (some .int), Cond.methodLink RX0 140 yX0_passToGuarantor, Cond.instanceMethod yX0_passToGuarantor, Cond.selects RX0 yX0_passToGuarantor yX0_passToGuarantor, Cond.code yX0_passToGuarantor cX0_passToGuarantor 5 (some .boolean), Cond.methodLink RX0 143 yX0_spoilLot, Cond.instanceMethod yX0_spoilLot, Cond.selects RX0 yX0_spoilLot yX0_spoilLot, Cond.code yX0_spoilLot cX0_spoilLot 4 none, Cond.methodLink RX2 85 yX0_hasHolidays, Cond.methodLink RX2 89 yX0_turnHolidays, Cond.instanceMethod yX0_turnHolidays, Cond.selects RX0 yX0_turnHolidays yX0_turnHolidays, Cond.code yX0_turnHolidays cX0_turnHolidays 3 (some .int)]
def wsX4_fault_r11 : List Cond := [Cond.methodLink RX4 162 yX2_faultPlace, Cond.instanceMethod yX2_faultPlace, Cond.selects RX2 yX2_faultPlace yX2_faultPlace, Cond.code yX2_faultPlace cX2_faultPlace 1 (some .int), Cond.methodLink RX4 165 yX2_faultReason, Cond.instanceMethod yX2_faultReason, Cond.selects RX2 yX2_faultReason yX2_faultReason, Cond.code yX2_faultReason cX2_faultReason 1 (some .int), Cond.methodLink RX4 168 yX2_faultCause, Cond.instanceMethod yX2_faultCause, Cond.selects RX2 yX2_faultCause yX2_faultCause, Cond.code yX2_faultCause cX2_faultCause 1 (some .int)]
def wsX4_fault : List Cond := .code yX4_fault cX4_fault 2 (some .int) :: ((wsX4_fault_r1 ++ (wsX4_fault_r2 ++ (wsX4_fault_r3 ++ (wsX4_fault_r4 ++ (wsX4_fault_r5 ++ (wsX4_fault_r6 ++ (wsX4_fault_r7 ++ (wsX4_fault_r8 ++ (wsX4_fault_r9 ++ (wsX4_fault_r10 ++ wsX4_fault_r11)))))))))) ++ wsX40 ++ wsX00 ++ wsX20 ++ wsX30)
def wsX4_play_r1 : List Cond := [Cond.fieldLink RX4 36 "FavourRings" "orders" "LFavourRings$Orders;", Cond.fieldLink RX4 29 "FavourRings" "rings" "LFavourRings$Rings;", Cond.constant RX4 174 (-1000002), Cond.methodLink RX4 40 yX4_freshTrial, Cond.instanceMethod yX4_freshTrial, Cond.selects RX4 yX4_freshTrial yX4_freshTrial, Cond.initialized RX4, Cond.code yX4_freshTrial cX4_freshTrial 1 (some (.object "FavourRings$Bank")), Cond.fieldLink RX4 16 "FavourRings" "trial" "LFavourRings$Bank;", Cond.fieldLink RX4 10 "FavourRings" "bank" "LFavourRings$Bank;", Cond.methodLink RX4 175 yX0_copyFrom, Cond.instanceMethod yX0_copyFrom, Cond.selects RX0 yX0_copyFrom yX0_copyFrom, Cond.initialized RX0, Cond.code yX0_copyFrom cX0_copyFrom 2 none, Cond.fieldLink RX0 9 "FavourRings$Bank" "numbers" "[I", Cond.fieldLink RX0 15 "FavourRings$Bank" "came" "[I", Cond.fieldLink RX0 18 "FavourRings$Bank" "done" "[I", Cond.fieldLink RX0 21 "FavourRings$Bank" "spoiled" "[I", Cond.fieldLink RX0 24 "FavourRings$Bank" "guarantors" "[I", Cond.fieldLink RX0 27 "FavourRings$Bank" "takenOver" "[I", Cond.fieldLink RX0 30 "FavourRings$Bank" "cleared" "[I", Cond.fieldLink RX0 33 "FavourRings$Bank" "debtors" "[I", Cond.fieldLink RX0 36 "FavourRings$Bank" "creditors" "[I"]
def wsX4_play_r2 : List Cond := [Cond.fieldLink RX0 39 "FavourRings$Bank" "kinds" "[I", Cond.fieldLink RX0 42 "FavourRings$Bank" "sizes" "[I", Cond.fieldLink RX0 45 "FavourRings$Bank" "ages" "[I", Cond.fieldLink RX0 48 "FavourRings$Bank" "passed" "[I", Cond.static yX4_copyRow, Cond.code yX4_copyRow cX4_copyRow 2 none, Cond.methodLink RX4 182 Lib.Math.min.name, Cond.static Lib.Math.min.name, Cond.initialized "java/lang/Math", Cond.code Lib.Math.min.name Lib.Math.min.code 2 (some .int), Cond.methodLink RX4 187 arraycopyName, Cond.native arraycopyName, Cond.static arraycopyName, Cond.initialized "java/lang/System", Cond.methodLink RX4 158 yX2_doAll, Cond.instanceMethod yX2_doAll, Cond.selects RX2 yX2_doAll yX2_doAll, Cond.initialized RX2, Cond.code yX2_doAll cX2_doAll 6 (some .boolean), Cond.fieldLink RX2 22 "FavourRings$Orders" "done" "I", Cond.fieldLink RX2 18 "FavourRings$Orders" "length" "I", Cond.fieldLink RX2 44 "FavourRings$Orders" "place" "I", Cond.methodLink RX2 40 yX2_readOrder, Cond.instanceMethod yX2_readOrder]
def wsX4_play_r3 : List Cond := [Cond.selects RX2 yX2_readOrder yX2_readOrder, Cond.code yX2_readOrder cX2_readOrder 4 (some .boolean), Cond.methodLink RX2 51 yX2_signAt, Cond.instanceMethod yX2_signAt, Cond.selects RX2 yX2_signAt yX2_signAt, Cond.code yX2_signAt cX2_signAt 2 (some .int), Cond.fieldLink RX2 9 "FavourRings$Orders" "text" "[I", Cond.static yX4_at, Cond.code yX4_at cX4_at 2 (some .int), Cond.methodLink RX2 93 yX2_numbersAfter, Cond.static yX2_numbersAfter, Cond.code yX2_numbersAfter cX2_numbersAfter 1 (some .int), Cond.methodLink RX2 96 yX2_passSign, Cond.instanceMethod yX2_passSign, Cond.selects RX2 yX2_passSign yX2_passSign, Cond.code yX2_passSign cX2_passSign 2 (some .boolean), Cond.methodLink RX2 99 yX2_readNumber, Cond.instanceMethod yX2_readNumber, Cond.selects RX2 yX2_readNumber yX2_readNumber, Cond.code yX2_readNumber cX2_readNumber 4 (some .boolean), Cond.fieldLink RX2 15 "FavourRings$Orders" "numbers" "[I", Cond.methodLink RX2 102 yX2_isDigit, Cond.static yX2_isDigit, Cond.code yX2_isDigit cX2_isDigit 1 (some .boolean)]
def wsX4_play_r4 : List Cond := [Cond.static yX4_put, Cond.code yX4_put cX4_put 3 none, Cond.methodLink RX2 47 yX2_noteFault, Cond.instanceMethod yX2_noteFault, Cond.selects RX2 yX2_noteFault yX2_noteFault, Cond.code yX2_noteFault cX2_noteFault 4 (some .boolean), Cond.fieldLink RX2 25 "FavourRings$Orders" "faultPlace" "I", Cond.fieldLink RX2 28 "FavourRings$Orders" "faultReason" "I", Cond.fieldLink RX2 31 "FavourRings$Orders" "faultCause" "I", Cond.methodLink RX2 55 yX2_doOrder, Cond.instanceMethod yX2_doOrder, Cond.selects RX2 yX2_doOrder yX2_doOrder, Cond.code yX2_doOrder cX2_doOrder 6 (some .int), Cond.methodLink RX2 63 yX0_lendFavours, Cond.instanceMethod yX0_lendFavours, Cond.selects RX0 yX0_lendFavours yX0_lendFavours, Cond.code yX0_lendFavours cX0_lendFavours 5 (some .int), Cond.constant RX0 93 (-1000001), Cond.constant RX0 125 (-1000002), Cond.constant RX0 85 (-1000003), Cond.methodLink RX0 89 yX0_isPair, Cond.instanceMethod yX0_isPair, Cond.selects RX0 yX0_isPair yX0_isPair, Cond.code yX0_isPair cX0_isPair 3 (some .boolean)]
def wsX4_play_r5 : List Cond := [Cond.methodLink RX0 66 yX0_isPupil, Cond.instanceMethod yX0_isPupil, Cond.selects RX0 yX0_isPupil yX0_isPupil, Cond.code yX0_isPupil cX0_isPupil 2 (some .boolean), Cond.methodLink RX0 63 yX0_number, Cond.instanceMethod yX0_number, Cond.selects RX0 yX0_number yX0_number, Cond.code yX0_number cX0_number 2 (some .int), Cond.static yX4_isKind, Cond.code yX4_isKind cX4_isKind 1 (some .boolean), Cond.static yX4_isMany, Cond.code yX4_isMany cX4_isMany 1 (some .boolean), Cond.methodLink RX0 122 yX0_reasonAgainst, Cond.instanceMethod yX0_reasonAgainst, Cond.selects RX0 yX0_reasonAgainst yX0_reasonAgainst, Cond.code yX0_reasonAgainst cX0_reasonAgainst 4 (some .int), Cond.methodLink RX0 70 yX0_sumOwed, Cond.instanceMethod yX0_sumOwed, Cond.selects RX0 yX0_sumOwed yX0_sumOwed, Cond.code yX0_sumOwed cX0_sumOwed 6 (some .int), Cond.methodLink RX0 94 yX0_isLotOf, Cond.instanceMethod yX0_isLotOf, Cond.selects RX0 yX0_isLotOf yX0_isLotOf, Cond.code yX0_isLotOf cX0_isLotOf 5 (some .boolean)]
def wsX4_play_r6 : List Cond := [Cond.methodLink RX0 81 yX0_guarantorOf, Cond.instanceMethod yX0_guarantorOf, Cond.selects RX0 yX0_guarantorOf yX0_guarantorOf, Cond.code yX0_guarantorOf cX0_guarantorOf 2 (some .int), Cond.methodLink RX0 126 yX0_addLot, Cond.instanceMethod yX0_addLot, Cond.selects RX0 yX0_addLot yX0_addLot, Cond.code yX0_addLot cX0_addLot 6 none, Cond.static yX4_add, Cond.code yX4_add cX4_add 3 none, Cond.methodLink RX2 69 yX0_fulfilFavours, Cond.instanceMethod yX0_fulfilFavours, Cond.selects RX0 yX0_fulfilFavours yX0_fulfilFavours, Cond.code yX0_fulfilFavours cX0_fulfilFavours 5 (some .int), Cond.methodLink RX0 130 yX0_takeFavours, Cond.instanceMethod yX0_takeFavours, Cond.selects RX0 yX0_takeFavours yX0_takeFavours, Cond.code yX0_takeFavours cX0_takeFavours 9 none, Cond.methodLink RX0 107 Lib.Math.min.name, Cond.methodLink RX0 110 yX0_firstToTake, Cond.instanceMethod yX0_firstToTake, Cond.selects RX0 yX0_firstToTake yX0_firstToTake, Cond.code yX0_firstToTake cX0_firstToTake 6 (some .int), Cond.methodLink RX0 113 yX0_dropEmptyLots]
def wsX4_play_r7 : List Cond := [Cond.instanceMethod yX0_dropEmptyLots, Cond.selects RX0 yX0_dropEmptyLots yX0_dropEmptyLots, Cond.code yX0_dropEmptyLots cX0_dropEmptyLots 3 none, Cond.methodLink RX2 72 yX0_giveGuarantor, Cond.instanceMethod yX0_giveGuarantor, Cond.selects RX0 yX0_giveGuarantor yX0_giveGuarantor, Cond.code yX0_giveGuarantor cX0_giveGuarantor 4 (some .int), Cond.methodLink RX2 76 yX3_clearKind, Cond.instanceMethod yX3_clearKind, Cond.selects RX3 yX3_clearKind yX3_clearKind, Cond.initialized RX3, Cond.code yX3_clearKind cX3_clearKind 7 (some .int), Cond.constant RX3 60 (-1000001), Cond.fieldLink RX3 24 "FavourRings$Rings" "length" "I", Cond.methodLink RX3 61 yX3_findNext, Cond.instanceMethod yX3_findNext, Cond.selects RX3 yX3_findNext yX3_findNext, Cond.code yX3_findNext cX3_findNext 6 (some .boolean), Cond.fieldLink RX3 21 "FavourRings$Rings" "members" "[I", Cond.methodLink RX3 48 yX3_readOwed, Cond.instanceMethod yX3_readOwed, Cond.selects RX3 yX3_readOwed yX3_readOwed, Cond.code yX3_readOwed cX3_readOwed 5 none, Cond.fieldLink RX3 9 "FavourRings$Rings" "owed" "[I"]
def wsX4_play_r8 : List Cond := [Cond.methodLink RX3 91 yX0_number, Cond.methodLink RX3 94 yX0_isLotOf, Cond.methodLink RX3 52 yX3_measureSteps, Cond.instanceMethod yX3_measureSteps, Cond.selects RX3 yX3_measureSteps yX3_measureSteps, Cond.code yX3_measureSteps cX3_measureSteps 7 none, Cond.fieldLink RX3 15 "FavourRings$Rings" "steps" "[I", Cond.fieldLink RX3 18 "FavourRings$Rings" "queue" "[I", Cond.methodLink RX3 39 yX3_owedBetween, Cond.instanceMethod yX3_owedBetween, Cond.selects RX3 yX3_owedBetween yX3_owedBetween, Cond.code yX3_owedBetween cX3_owedBetween 4 (some .int), Cond.methodLink RX3 81 yX3_shortestFrom, Cond.instanceMethod yX3_shortestFrom, Cond.selects RX3 yX3_shortestFrom yX3_shortestFrom, Cond.code yX3_shortestFrom cX3_shortestFrom 6 (some .int), Cond.methodLink RX3 32 yX3_nextPupil, Cond.instanceMethod yX3_nextPupil, Cond.selects RX3 yX3_nextPupil yX3_nextPupil, Cond.code yX3_nextPupil cX3_nextPupil 2 (some .int), Cond.methodLink RX3 88 yX3_lowestBehind, Cond.instanceMethod yX3_lowestBehind, Cond.selects RX3 yX3_lowestBehind yX3_lowestBehind, Cond.code yX3_lowestBehind cX3_lowestBehind 4 (some .int)]
def wsX4_play_r9 : List Cond := [Cond.methodLink RX3 65 yX3_nextAmount, Cond.instanceMethod yX3_nextAmount, Cond.selects RX3 yX3_nextAmount yX3_nextAmount, Cond.code yX3_nextAmount cX3_nextAmount 4 (some .int), Cond.methodLink RX3 43 Lib.Math.min.name, Cond.methodLink RX3 36 yX3_pupilBehind, Cond.instanceMethod yX3_pupilBehind, Cond.selects RX3 yX3_pupilBehind yX3_pupilBehind, Cond.code yX3_pupilBehind cX3_pupilBehind 2 (some .int), Cond.methodLink RX3 69 yX0_takeFavours, Cond.methodLink RX3 75 yX0_countCleared, Cond.instanceMethod yX0_countCleared, Cond.selects RX0 yX0_countCleared yX0_countCleared, Cond.code yX0_countCleared cX0_countCleared 3 none, Cond.methodLink RX3 78 yX0_countRing, Cond.instanceMethod yX0_countRing, Cond.selects RX0 yX0_countRing yX0_countRing, Cond.code yX0_countRing cX0_countRing 1 none, Cond.methodLink RX2 82 yX0_endWeeks, Cond.instanceMethod yX0_endWeeks, Cond.selects RX0 yX0_endWeeks yX0_endWeeks, Cond.code yX0_endWeeks cX0_endWeeks 4 (some .int), Cond.methodLink RX0 133 yX0_endWeek, Cond.instanceMethod yX0_endWeek]
def wsX4_play_r10 : List Cond := [Cond.selects RX0 yX0_endWeek yX0_endWeek, Cond.code yX0_endWeek cX0_endWeek 2 none, Cond.methodLink RX0 136 yX0_hasHolidays, Cond.instanceMethod yX0_hasHolidays, Cond.selects RX0 yX0_hasHolidays yX0_hasHolidays, Cond.code yX0_hasHolidays cX0_hasHolidays 1 (some .boolean), Cond.methodLink RX0 98 yX0_weeksLeft, Cond.instanceMethod yX0_weeksLeft, Cond.selects RX0 yX0_weeksLeft yX0_weeksLeft, Cond.code yX0_weeksLeft cX0_weeksLeft 2 (some .int), Cond.methodLink RX0 140 yX0_passToGuarantor, Cond.instanceMethod yX0_passToGuarantor, Cond.selects RX0 yX0_passToGuarantor yX0_passToGuarantor, Cond.code yX0_passToGuarantor cX0_passToGuarantor 5 (some .boolean), Cond.methodLink RX0 143 yX0_spoilLot, Cond.instanceMethod yX0_spoilLot, Cond.selects RX0 yX0_spoilLot yX0_spoilLot, Cond.code yX0_spoilLot cX0_spoilLot 4 none, Cond.methodLink RX2 85 yX0_hasHolidays, Cond.methodLink RX2 89 yX0_turnHolidays, Cond.instanceMethod yX0_turnHolidays, Cond.selects RX0 yX0_turnHolidays yX0_turnHolidays, Cond.code yX0_turnHolidays cX0_turnHolidays 3 (some .int), Cond.methodLink RX4 171 yX2_ordersDone]
def wsX4_play_r11 : List Cond := [Cond.instanceMethod yX2_ordersDone, Cond.selects RX2 yX2_ordersDone yX2_ordersDone, Cond.code yX2_ordersDone cX2_ordersDone 1 (some .int), Cond.methodLink RX4 48 yX4_settled, Cond.instanceMethod yX4_settled, Cond.selects RX4 yX4_settled yX4_settled, Cond.code yX4_settled cX4_settled 2 (some .int), Cond.fieldLink RX4 22 "FavourRings" "history" "LFavourRings$History;", Cond.methodLink RX4 179 yX1_keep, Cond.instanceMethod yX1_keep, Cond.selects RX1 yX1_keep yX1_keep, Cond.initialized RX1, Cond.code yX1_keep cX1_keep 2 none, Cond.fieldLink RX1 18 "FavourRings$History" "size" "I", Cond.fieldLink RX1 11 "FavourRings$History" "states" "[LFavourRings$Bank;", Cond.methodLink RX1 22 yX1_dropOldest, Cond.instanceMethod yX1_dropOldest, Cond.selects RX1 yX1_dropOldest yX1_dropOldest, Cond.code yX1_dropOldest cX1_dropOldest 2 none, Cond.methodLink RX1 25 yX0_copyFrom]
def wsX4_play : List Cond := .code yX4_play cX4_play 1 (some .int) :: ((wsX4_play_r1 ++ (wsX4_play_r2 ++ (wsX4_play_r3 ++ (wsX4_play_r4 ++ (wsX4_play_r5 ++ (wsX4_play_r6 ++ (wsX4_play_r7 ++ (wsX4_play_r8 ++ (wsX4_play_r9 ++ (wsX4_play_r10 ++ wsX4_play_r11)))))))))) ++ wsX40 ++ wsX00 ++ wsX20 ++ wsX30 ++ wsX10)
def wsX5_init : List Cond := .code yX5_init cX5_init 1 none :: ([.methodLink RX5 1 objectInit, .instanceMethod objectInit, .code objectInit ⟨#[0xb1]⟩ 1 none, .arrayClass .int, .fieldLink RX5 7 "FavourRingsModel" "s" "[I", .fieldLink RX5 13 "FavourRingsModel" "past" "[I", .fieldLink RX5 16 "FavourRingsModel" "held" "[I", .fieldLink RX5 19 "FavourRingsModel" "spare" "[I", .fieldLink RX5 22 "FavourRingsModel" "text" "[I", .fieldLink RX5 25 "FavourRingsModel" "to" "[I", .fieldLink RX5 28 "FavourRingsModel" "ways" "[I", .fieldLink RX5 31 "FavourRingsModel" "ring" "[I", .fieldLink RX5 34 "FavourRingsModel" "numbers" "[I"] ++ wsX50)
def wsX5_in : List Cond := .code yX5_in cX5_in 3 (some .boolean) :: ([])
def wsX5_copies : List Cond := .code yX5_copies cX5_copies 3 none :: ([])
def wsX5_changes : List Cond := .code yX5_changes cX5_changes 2 none :: ([.fieldLink RX5 37 "FavourRingsModel" "runs" "Z", .fieldLink RX5 41 "FavourRingsModel" "pasts" "I", .fieldLink RX5 13 "FavourRingsModel" "past" "[I", .fieldLink RX5 7 "FavourRingsModel" "s" "[I"] ++ wsX50)
def wsX5_of : List Cond := .code yX5_of cX5_of 3 (some .int) :: ([.fieldLink RX5 7 "FavourRingsModel" "s" "[I"] ++ wsX50)
def wsX5_lay : List Cond := .code yX5_lay cX5_lay 4 none :: ([.fieldLink RX5 7 "FavourRingsModel" "s" "[I"] ++ wsX50)
def wsX5_at : List Cond := .code yX5_at cX5_at 2 (some .int) :: ([])
def wsX5_isPupil : List Cond := .code yX5_isPupil cX5_isPupil 2 (some .boolean) :: ([.fieldLink RX5 7 "FavourRingsModel" "s" "[I", .methodLink RX5 45 yX5_in, .static yX5_in, .initialized RX5, .code yX5_in cX5_in 3 (some .boolean)] ++ wsX50)
def wsX5_isKind : List Cond := .code yX5_isKind cX5_isKind 1 (some .boolean) :: ([.methodLink RX5 45 yX5_in, .static yX5_in, .initialized RX5, .code yX5_in cX5_in 3 (some .boolean)])
def wsX5_isPair : List Cond := .code yX5_isPair cX5_isPair 3 (some .boolean) :: ([.methodLink RX5 49 yX5_isPupil, .instanceMethod yX5_isPupil, .selects RX5 yX5_isPupil yX5_isPupil, .initialized RX5, .code yX5_isPupil cX5_isPupil 2 (some .boolean), .fieldLink RX5 7 "FavourRingsModel" "s" "[I", .methodLink RX5 45 yX5_in, .static yX5_in, .code yX5_in cX5_in 3 (some .boolean)] ++ wsX50)
def wsX5_owed : List Cond := .code yX5_owed cX5_owed 6 (some .int) :: ([.fieldLink RX5 7 "FavourRingsModel" "s" "[I", .methodLink RX5 53 yX5_of, .instanceMethod yX5_of, .selects RX5 yX5_of yX5_of, .initialized RX5, .code yX5_of cX5_of 3 (some .int)] ++ wsX50)
def wsX5_sumOf : List Cond := .code yX5_sumOf cX5_sumOf 5 (some .int) :: ([.fieldLink RX5 7 "FavourRingsModel" "s" "[I", .methodLink RX5 53 yX5_of, .instanceMethod yX5_of, .selects RX5 yX5_of yX5_of, .initialized RX5, .code yX5_of cX5_of 3 (some .int)] ++ wsX50)
def wsX5_dropsEmpty : List Cond := .code yX5_dropsEmpty cX5_dropsEmpty 4 none :: ([.fieldLink RX5 7 "FavourRingsModel" "s" "[I", .methodLink RX5 53 yX5_of, .instanceMethod yX5_of, .selects RX5 yX5_of yX5_of, .initialized RX5, .code yX5_of cX5_of 3 (some .int)] ++ wsX50)
def wsX5_oldest : List Cond := .code yX5_oldest cX5_oldest 7 (some .int) :: ([.constant RX5 57 (-1000004), .fieldLink RX5 7 "FavourRingsModel" "s" "[I", .methodLink RX5 53 yX5_of, .instanceMethod yX5_of, .selects RX5 yX5_of yX5_of, .initialized RX5, .code yX5_of cX5_of 3 (some .int)] ++ wsX50)
def wsX5_takes : List Cond := .code yX5_takes cX5_takes 8 none :: ([.methodLink RX5 58 yX5_oldest, .instanceMethod yX5_oldest, .selects RX5 yX5_oldest yX5_oldest, .initialized RX5, .code yX5_oldest cX5_oldest 7 (some .int), .constant RX5 57 (-1000004), .fieldLink RX5 7 "FavourRingsModel" "s" "[I", .methodLink RX5 53 yX5_of, .instanceMethod yX5_of, .selects RX5 yX5_of yX5_of, .code yX5_of cX5_of 3 (some .int), .methodLink RX5 62 yX5_lay, .instanceMethod yX5_lay, .selects RX5 yX5_lay yX5_lay, .code yX5_lay cX5_lay 4 none, .methodLink RX5 66 yX5_dropsEmpty, .instanceMethod yX5_dropsEmpty, .selects RX5 yX5_dropsEmpty yX5_dropsEmpty, .code yX5_dropsEmpty cX5_dropsEmpty 4 none] ++ wsX50)
def wsX5_shifts : List Cond := .code yX5_shifts cX5_shifts 4 none :: ([.fieldLink RX5 7 "FavourRingsModel" "s" "[I", .methodLink RX5 69 yX5_at, .static yX5_at, .initialized RX5, .code yX5_at cX5_at 2 (some .int)] ++ wsX50)
def wsX5_pupil : List Cond := .code yX5_pupil cX5_pupil 1 (some .int) :: ([.fieldLink RX5 7 "FavourRingsModel" "s" "[I", .constant RX5 72 (-1000003), .methodLink RX5 73 yX5_changes, .instanceMethod yX5_changes, .selects RX5 yX5_changes yX5_changes, .initialized RX5, .code yX5_changes cX5_changes 2 none, .fieldLink RX5 37 "FavourRingsModel" "runs" "Z", .fieldLink RX5 41 "FavourRingsModel" "pasts" "I", .fieldLink RX5 13 "FavourRingsModel" "past" "[I"] ++ wsX50)
def wsX5_barred : List Cond := .code yX5_barred cX5_barred 3 (some .int) :: ([.fieldLink RX5 7 "FavourRingsModel" "s" "[I", .methodLink RX5 76 yX5_sumOf, .instanceMethod yX5_sumOf, .selects RX5 yX5_sumOf yX5_sumOf, .initialized RX5, .code yX5_sumOf cX5_sumOf 5 (some .int), .methodLink RX5 53 yX5_of, .instanceMethod yX5_of, .selects RX5 yX5_of yX5_of, .code yX5_of cX5_of 3 (some .int), .methodLink RX5 69 yX5_at, .static yX5_at, .code yX5_at cX5_at 2 (some .int)] ++ wsX50)
def wsX5_lend_r1 : List Cond := [Cond.constant RX5 86 (-1000001), Cond.constant RX5 90 (-1000002), Cond.fieldLink RX5 7 "FavourRingsModel" "s" "[I", Cond.constant RX5 72 (-1000003), Cond.methodLink RX5 79 yX5_isPair, Cond.instanceMethod yX5_isPair, Cond.selects RX5 yX5_isPair yX5_isPair, Cond.initialized RX5, Cond.code yX5_isPair cX5_isPair 3 (some .boolean), Cond.methodLink RX5 49 yX5_isPupil, Cond.instanceMethod yX5_isPupil, Cond.selects RX5 yX5_isPupil yX5_isPupil, Cond.code yX5_isPupil cX5_isPupil 2 (some .boolean), Cond.methodLink RX5 45 yX5_in, Cond.static yX5_in, Cond.code yX5_in cX5_in 3 (some .boolean), Cond.methodLink RX5 83 yX5_isKind, Cond.static yX5_isKind, Cond.code yX5_isKind cX5_isKind 1 (some .boolean), Cond.methodLink RX5 87 yX5_barred, Cond.instanceMethod yX5_barred, Cond.selects RX5 yX5_barred yX5_barred, Cond.code yX5_barred cX5_barred 3 (some .int), Cond.methodLink RX5 76 yX5_sumOf]
def wsX5_lend_r2 : List Cond := [Cond.instanceMethod yX5_sumOf, Cond.selects RX5 yX5_sumOf yX5_sumOf, Cond.code yX5_sumOf cX5_sumOf 5 (some .int), Cond.methodLink RX5 53 yX5_of, Cond.instanceMethod yX5_of, Cond.selects RX5 yX5_of yX5_of, Cond.code yX5_of cX5_of 3 (some .int), Cond.methodLink RX5 69 yX5_at, Cond.static yX5_at, Cond.code yX5_at cX5_at 2 (some .int), Cond.methodLink RX5 73 yX5_changes, Cond.instanceMethod yX5_changes, Cond.selects RX5 yX5_changes yX5_changes, Cond.code yX5_changes cX5_changes 2 none, Cond.fieldLink RX5 37 "FavourRingsModel" "runs" "Z", Cond.fieldLink RX5 41 "FavourRingsModel" "pasts" "I", Cond.fieldLink RX5 13 "FavourRingsModel" "past" "[I", Cond.methodLink RX5 62 yX5_lay, Cond.instanceMethod yX5_lay, Cond.selects RX5 yX5_lay yX5_lay, Cond.code yX5_lay cX5_lay 4 none, Cond.methodLink RX5 91 yX5_shifts, Cond.instanceMethod yX5_shifts, Cond.selects RX5 yX5_shifts yX5_shifts]
def wsX5_lend_r3 : List Cond := [Cond.code yX5_shifts cX5_shifts 4 none, Cond.methodLink RX5 94 yX5_owed, Cond.instanceMethod yX5_owed, Cond.selects RX5 yX5_owed yX5_owed, Cond.code yX5_owed cX5_owed 6 (some .int)]
def wsX5_lend : List Cond := .code yX5_lend cX5_lend 6 (some .int) :: ((wsX5_lend_r1 ++ (wsX5_lend_r2 ++ wsX5_lend_r3)) ++ wsX50)
def wsX5_fulfil_r1 : List Cond := [Cond.constant RX5 86 (-1000001), Cond.constant RX5 90 (-1000002), Cond.fieldLink RX5 7 "FavourRingsModel" "s" "[I", Cond.methodLink RX5 79 yX5_isPair, Cond.instanceMethod yX5_isPair, Cond.selects RX5 yX5_isPair yX5_isPair, Cond.initialized RX5, Cond.code yX5_isPair cX5_isPair 3 (some .boolean), Cond.methodLink RX5 49 yX5_isPupil, Cond.instanceMethod yX5_isPupil, Cond.selects RX5 yX5_isPupil yX5_isPupil, Cond.code yX5_isPupil cX5_isPupil 2 (some .boolean), Cond.methodLink RX5 45 yX5_in, Cond.static yX5_in, Cond.code yX5_in cX5_in 3 (some .boolean), Cond.methodLink RX5 83 yX5_isKind, Cond.static yX5_isKind, Cond.code yX5_isKind cX5_isKind 1 (some .boolean), Cond.methodLink RX5 94 yX5_owed, Cond.instanceMethod yX5_owed, Cond.selects RX5 yX5_owed yX5_owed, Cond.code yX5_owed cX5_owed 6 (some .int), Cond.methodLink RX5 53 yX5_of, Cond.instanceMethod yX5_of]
def wsX5_fulfil_r2 : List Cond := [Cond.selects RX5 yX5_of yX5_of, Cond.code yX5_of cX5_of 3 (some .int), Cond.methodLink RX5 73 yX5_changes, Cond.instanceMethod yX5_changes, Cond.selects RX5 yX5_changes yX5_changes, Cond.code yX5_changes cX5_changes 2 none, Cond.fieldLink RX5 37 "FavourRingsModel" "runs" "Z", Cond.fieldLink RX5 41 "FavourRingsModel" "pasts" "I", Cond.fieldLink RX5 13 "FavourRingsModel" "past" "[I", Cond.methodLink RX5 97 yX5_takes, Cond.instanceMethod yX5_takes, Cond.selects RX5 yX5_takes yX5_takes, Cond.code yX5_takes cX5_takes 8 none, Cond.methodLink RX5 58 yX5_oldest, Cond.instanceMethod yX5_oldest, Cond.selects RX5 yX5_oldest yX5_oldest, Cond.code yX5_oldest cX5_oldest 7 (some .int), Cond.constant RX5 57 (-1000004), Cond.methodLink RX5 62 yX5_lay, Cond.instanceMethod yX5_lay, Cond.selects RX5 yX5_lay yX5_lay, Cond.code yX5_lay cX5_lay 4 none, Cond.methodLink RX5 66 yX5_dropsEmpty, Cond.instanceMethod yX5_dropsEmpty]
def wsX5_fulfil_r3 : List Cond := [Cond.selects RX5 yX5_dropsEmpty yX5_dropsEmpty, Cond.code yX5_dropsEmpty cX5_dropsEmpty 4 none, Cond.methodLink RX5 69 yX5_at, Cond.static yX5_at, Cond.code yX5_at cX5_at 2 (some .int), Cond.methodLink RX5 91 yX5_shifts, Cond.instanceMethod yX5_shifts, Cond.selects RX5 yX5_shifts yX5_shifts, Cond.code yX5_shifts cX5_shifts 4 none]
def wsX5_fulfil : List Cond := .code yX5_fulfil cX5_fulfil 5 (some .int) :: ((wsX5_fulfil_r1 ++ (wsX5_fulfil_r2 ++ wsX5_fulfil_r3)) ++ wsX50)
def wsX5_guarantee : List Cond := .code yX5_guarantee cX5_guarantee 4 (some .int) :: ([.constant RX5 86 (-1000001), .fieldLink RX5 7 "FavourRingsModel" "s" "[I", .methodLink RX5 49 yX5_isPupil, .instanceMethod yX5_isPupil, .selects RX5 yX5_isPupil yX5_isPupil, .initialized RX5, .code yX5_isPupil cX5_isPupil 2 (some .boolean), .methodLink RX5 45 yX5_in, .static yX5_in, .code yX5_in cX5_in 3 (some .boolean), .methodLink RX5 73 yX5_changes, .instanceMethod yX5_changes, .selects RX5 yX5_changes yX5_changes, .code yX5_changes cX5_changes 2 none, .fieldLink RX5 37 "FavourRingsModel" "runs" "Z", .fieldLink RX5 41 "FavourRingsModel" "pasts" "I", .fieldLink RX5 13 "FavourRingsModel" "past" "[I", .methodLink RX5 69 yX5_at, .static yX5_at, .code yX5_at cX5_at 2 (some .int)] ++ wsX50)
def wsX5_ends : List Cond := .code yX5_ends cX5_ends 5 (some .int) :: ([.fieldLink RX5 7 "FavourRingsModel" "s" "[I", .methodLink RX5 53 yX5_of, .instanceMethod yX5_of, .selects RX5 yX5_of yX5_of, .initialized RX5, .code yX5_of cX5_of 3 (some .int), .methodLink RX5 69 yX5_at, .static yX5_at, .code yX5_at cX5_at 2 (some .int), .methodLink RX5 62 yX5_lay, .instanceMethod yX5_lay, .selects RX5 yX5_lay yX5_lay, .code yX5_lay cX5_lay 4 none, .methodLink RX5 91 yX5_shifts, .instanceMethod yX5_shifts, .selects RX5 yX5_shifts yX5_shifts, .code yX5_shifts cX5_shifts 4 none] ++ wsX50)
def wsX5_week_r1 : List Cond := [Cond.fieldLink RX5 7 "FavourRingsModel" "s" "[I", Cond.methodLink RX5 53 yX5_of, Cond.instanceMethod yX5_of, Cond.selects RX5 yX5_of yX5_of, Cond.initialized RX5, Cond.code yX5_of cX5_of 3 (some .int), Cond.methodLink RX5 62 yX5_lay, Cond.instanceMethod yX5_lay, Cond.selects RX5 yX5_lay yX5_lay, Cond.code yX5_lay cX5_lay 4 none, Cond.methodLink RX5 101 yX5_ends, Cond.instanceMethod yX5_ends, Cond.selects RX5 yX5_ends yX5_ends, Cond.code yX5_ends cX5_ends 5 (some .int), Cond.methodLink RX5 69 yX5_at, Cond.static yX5_at, Cond.code yX5_at cX5_at 2 (some .int), Cond.methodLink RX5 91 yX5_shifts, Cond.instanceMethod yX5_shifts, Cond.selects RX5 yX5_shifts yX5_shifts, Cond.code yX5_shifts cX5_shifts 4 none, Cond.methodLink RX5 66 yX5_dropsEmpty, Cond.instanceMethod yX5_dropsEmpty, Cond.selects RX5 yX5_dropsEmpty yX5_dropsEmpty]
def wsX5_week_r2 : List Cond := [Cond.code yX5_dropsEmpty cX5_dropsEmpty 4 none]
def wsX5_week : List Cond := .code yX5_week cX5_week 3 (some .int) :: ((wsX5_week_r1 ++ wsX5_week_r2) ++ wsX50)
def wsX5_weeks_r1 : List Cond := [Cond.constant RX5 86 (-1000001), Cond.fieldLink RX5 7 "FavourRingsModel" "s" "[I", Cond.constant RX5 72 (-1000003), Cond.methodLink RX5 45 yX5_in, Cond.static yX5_in, Cond.initialized RX5, Cond.code yX5_in cX5_in 3 (some .boolean), Cond.methodLink RX5 73 yX5_changes, Cond.instanceMethod yX5_changes, Cond.selects RX5 yX5_changes yX5_changes, Cond.code yX5_changes cX5_changes 2 none, Cond.fieldLink RX5 37 "FavourRingsModel" "runs" "Z", Cond.fieldLink RX5 41 "FavourRingsModel" "pasts" "I", Cond.fieldLink RX5 13 "FavourRingsModel" "past" "[I", Cond.methodLink RX5 105 yX5_week, Cond.instanceMethod yX5_week, Cond.selects RX5 yX5_week yX5_week, Cond.code yX5_week cX5_week 3 (some .int), Cond.methodLink RX5 53 yX5_of, Cond.instanceMethod yX5_of, Cond.selects RX5 yX5_of yX5_of, Cond.code yX5_of cX5_of 3 (some .int), Cond.methodLink RX5 62 yX5_lay, Cond.instanceMethod yX5_lay]
def wsX5_weeks_r2 : List Cond := [Cond.selects RX5 yX5_lay yX5_lay, Cond.code yX5_lay cX5_lay 4 none, Cond.methodLink RX5 101 yX5_ends, Cond.instanceMethod yX5_ends, Cond.selects RX5 yX5_ends yX5_ends, Cond.code yX5_ends cX5_ends 5 (some .int), Cond.methodLink RX5 69 yX5_at, Cond.static yX5_at, Cond.code yX5_at cX5_at 2 (some .int), Cond.methodLink RX5 91 yX5_shifts, Cond.instanceMethod yX5_shifts, Cond.selects RX5 yX5_shifts yX5_shifts, Cond.code yX5_shifts cX5_shifts 4 none, Cond.methodLink RX5 66 yX5_dropsEmpty, Cond.instanceMethod yX5_dropsEmpty, Cond.selects RX5 yX5_dropsEmpty yX5_dropsEmpty, Cond.code yX5_dropsEmpty cX5_dropsEmpty 4 none]
def wsX5_weeks : List Cond := .code yX5_weeks cX5_weeks 4 (some .int) :: ((wsX5_weeks_r1 ++ wsX5_weeks_r2) ++ wsX50)
def wsX5_holiday : List Cond := .code yX5_holiday cX5_holiday 3 (some .int) :: ([.fieldLink RX5 7 "FavourRingsModel" "s" "[I", .methodLink RX5 73 yX5_changes, .instanceMethod yX5_changes, .selects RX5 yX5_changes yX5_changes, .initialized RX5, .code yX5_changes cX5_changes 2 none, .fieldLink RX5 37 "FavourRingsModel" "runs" "Z", .fieldLink RX5 41 "FavourRingsModel" "pasts" "I", .fieldLink RX5 13 "FavourRingsModel" "past" "[I"] ++ wsX50)
def wsX5_looks : List Cond := .code yX5_looks cX5_looks 3 none :: ([.fieldLink RX5 25 "FavourRingsModel" "to" "[I", .fieldLink RX5 7 "FavourRingsModel" "s" "[I", .methodLink RX5 53 yX5_of, .instanceMethod yX5_of, .selects RX5 yX5_of yX5_of, .initialized RX5, .code yX5_of cX5_of 3 (some .int)] ++ wsX50)
def wsX5_isBack : List Cond := .code yX5_isBack cX5_isBack 5 (some .boolean) :: ([.fieldLink RX5 28 "FavourRingsModel" "ways" "[I", .fieldLink RX5 25 "FavourRingsModel" "to" "[I"] ++ wsX50)
def wsX5_lowest : List Cond := .code yX5_lowest cX5_lowest 2 (some .int) :: ([])
def wsX5_rings : List Cond := .code yX5_rings cX5_rings 5 (some .int) :: ([.fieldLink RX5 31 "FavourRingsModel" "ring" "[I", .fieldLink RX5 25 "FavourRingsModel" "to" "[I", .fieldLink RX5 28 "FavourRingsModel" "ways" "[I", .methodLink RX5 109 yX5_looks, .instanceMethod yX5_looks, .selects RX5 yX5_looks yX5_looks, .initialized RX5, .code yX5_looks cX5_looks 3 none, .fieldLink RX5 7 "FavourRingsModel" "s" "[I", .methodLink RX5 53 yX5_of, .instanceMethod yX5_of, .selects RX5 yX5_of yX5_of, .code yX5_of cX5_of 3 (some .int), .methodLink RX5 113 yX5_isBack, .instanceMethod yX5_isBack, .selects RX5 yX5_isBack yX5_isBack, .code yX5_isBack cX5_isBack 5 (some .boolean), .methodLink RX5 116 yX5_lowest, .static yX5_lowest, .code yX5_lowest cX5_lowest 2 (some .int)] ++ wsX50)
def wsX5_amountOf : List Cond := .code yX5_amountOf cX5_amountOf 6 (some .int) :: ([.fieldLink RX5 31 "FavourRingsModel" "ring" "[I", .methodLink RX5 94 yX5_owed, .instanceMethod yX5_owed, .selects RX5 yX5_owed yX5_owed, .initialized RX5, .code yX5_owed cX5_owed 6 (some .int), .fieldLink RX5 7 "FavourRingsModel" "s" "[I", .methodLink RX5 53 yX5_of, .instanceMethod yX5_of, .selects RX5 yX5_of yX5_of, .code yX5_of cX5_of 3 (some .int)] ++ wsX50)
def wsX5_clears_r1 : List Cond := [Cond.fieldLink RX5 31 "FavourRingsModel" "ring" "[I", Cond.fieldLink RX5 7 "FavourRingsModel" "s" "[I", Cond.methodLink RX5 119 yX5_rings, Cond.instanceMethod yX5_rings, Cond.selects RX5 yX5_rings yX5_rings, Cond.initialized RX5, Cond.code yX5_rings cX5_rings 5 (some .int), Cond.fieldLink RX5 25 "FavourRingsModel" "to" "[I", Cond.fieldLink RX5 28 "FavourRingsModel" "ways" "[I", Cond.methodLink RX5 109 yX5_looks, Cond.instanceMethod yX5_looks, Cond.selects RX5 yX5_looks yX5_looks, Cond.code yX5_looks cX5_looks 3 none, Cond.methodLink RX5 53 yX5_of, Cond.instanceMethod yX5_of, Cond.selects RX5 yX5_of yX5_of, Cond.code yX5_of cX5_of 3 (some .int), Cond.methodLink RX5 113 yX5_isBack, Cond.instanceMethod yX5_isBack, Cond.selects RX5 yX5_isBack yX5_isBack, Cond.code yX5_isBack cX5_isBack 5 (some .boolean), Cond.methodLink RX5 116 yX5_lowest, Cond.static yX5_lowest, Cond.code yX5_lowest cX5_lowest 2 (some .int)]
def wsX5_clears_r2 : List Cond := [Cond.methodLink RX5 122 yX5_amountOf, Cond.instanceMethod yX5_amountOf, Cond.selects RX5 yX5_amountOf yX5_amountOf, Cond.code yX5_amountOf cX5_amountOf 6 (some .int), Cond.methodLink RX5 94 yX5_owed, Cond.instanceMethod yX5_owed, Cond.selects RX5 yX5_owed yX5_owed, Cond.code yX5_owed cX5_owed 6 (some .int), Cond.methodLink RX5 97 yX5_takes, Cond.instanceMethod yX5_takes, Cond.selects RX5 yX5_takes yX5_takes, Cond.code yX5_takes cX5_takes 8 none, Cond.methodLink RX5 58 yX5_oldest, Cond.instanceMethod yX5_oldest, Cond.selects RX5 yX5_oldest yX5_oldest, Cond.code yX5_oldest cX5_oldest 7 (some .int), Cond.constant RX5 57 (-1000004), Cond.methodLink RX5 62 yX5_lay, Cond.instanceMethod yX5_lay, Cond.selects RX5 yX5_lay yX5_lay, Cond.code yX5_lay cX5_lay 4 none, Cond.methodLink RX5 66 yX5_dropsEmpty, Cond.instanceMethod yX5_dropsEmpty, Cond.selects RX5 yX5_dropsEmpty yX5_dropsEmpty]
def wsX5_clears_r3 : List Cond := [Cond.code yX5_dropsEmpty cX5_dropsEmpty 4 none, Cond.methodLink RX5 69 yX5_at, Cond.static yX5_at, Cond.code yX5_at cX5_at 2 (some .int)]
def wsX5_clears : List Cond := .code yX5_clears cX5_clears 6 (some .int) :: ((wsX5_clears_r1 ++ (wsX5_clears_r2 ++ wsX5_clears_r3)) ++ wsX50)
def wsX5_clear_r1 : List Cond := [Cond.constant RX5 86 (-1000001), Cond.methodLink RX5 83 yX5_isKind, Cond.static yX5_isKind, Cond.initialized RX5, Cond.code yX5_isKind cX5_isKind 1 (some .boolean), Cond.methodLink RX5 45 yX5_in, Cond.static yX5_in, Cond.code yX5_in cX5_in 3 (some .boolean), Cond.methodLink RX5 73 yX5_changes, Cond.instanceMethod yX5_changes, Cond.selects RX5 yX5_changes yX5_changes, Cond.code yX5_changes cX5_changes 2 none, Cond.fieldLink RX5 37 "FavourRingsModel" "runs" "Z", Cond.fieldLink RX5 41 "FavourRingsModel" "pasts" "I", Cond.fieldLink RX5 13 "FavourRingsModel" "past" "[I", Cond.fieldLink RX5 7 "FavourRingsModel" "s" "[I", Cond.methodLink RX5 125 yX5_clears, Cond.instanceMethod yX5_clears, Cond.selects RX5 yX5_clears yX5_clears, Cond.code yX5_clears cX5_clears 6 (some .int), Cond.fieldLink RX5 31 "FavourRingsModel" "ring" "[I", Cond.methodLink RX5 119 yX5_rings, Cond.instanceMethod yX5_rings, Cond.selects RX5 yX5_rings yX5_rings]
def wsX5_clear_r2 : List Cond := [Cond.code yX5_rings cX5_rings 5 (some .int), Cond.fieldLink RX5 25 "FavourRingsModel" "to" "[I", Cond.fieldLink RX5 28 "FavourRingsModel" "ways" "[I", Cond.methodLink RX5 109 yX5_looks, Cond.instanceMethod yX5_looks, Cond.selects RX5 yX5_looks yX5_looks, Cond.code yX5_looks cX5_looks 3 none, Cond.methodLink RX5 53 yX5_of, Cond.instanceMethod yX5_of, Cond.selects RX5 yX5_of yX5_of, Cond.code yX5_of cX5_of 3 (some .int), Cond.methodLink RX5 113 yX5_isBack, Cond.instanceMethod yX5_isBack, Cond.selects RX5 yX5_isBack yX5_isBack, Cond.code yX5_isBack cX5_isBack 5 (some .boolean), Cond.methodLink RX5 116 yX5_lowest, Cond.static yX5_lowest, Cond.code yX5_lowest cX5_lowest 2 (some .int), Cond.methodLink RX5 122 yX5_amountOf, Cond.instanceMethod yX5_amountOf, Cond.selects RX5 yX5_amountOf yX5_amountOf, Cond.code yX5_amountOf cX5_amountOf 6 (some .int), Cond.methodLink RX5 94 yX5_owed, Cond.instanceMethod yX5_owed]
def wsX5_clear_r3 : List Cond := [Cond.selects RX5 yX5_owed yX5_owed, Cond.code yX5_owed cX5_owed 6 (some .int), Cond.methodLink RX5 97 yX5_takes, Cond.instanceMethod yX5_takes, Cond.selects RX5 yX5_takes yX5_takes, Cond.code yX5_takes cX5_takes 8 none, Cond.methodLink RX5 58 yX5_oldest, Cond.instanceMethod yX5_oldest, Cond.selects RX5 yX5_oldest yX5_oldest, Cond.code yX5_oldest cX5_oldest 7 (some .int), Cond.constant RX5 57 (-1000004), Cond.methodLink RX5 62 yX5_lay, Cond.instanceMethod yX5_lay, Cond.selects RX5 yX5_lay yX5_lay, Cond.code yX5_lay cX5_lay 4 none, Cond.methodLink RX5 66 yX5_dropsEmpty, Cond.instanceMethod yX5_dropsEmpty, Cond.selects RX5 yX5_dropsEmpty yX5_dropsEmpty, Cond.code yX5_dropsEmpty cX5_dropsEmpty 4 none, Cond.methodLink RX5 69 yX5_at, Cond.static yX5_at, Cond.code yX5_at cX5_at 2 (some .int)]
def wsX5_clear : List Cond := .code yX5_clear cX5_clear 2 (some .int) :: ((wsX5_clear_r1 ++ (wsX5_clear_r2 ++ wsX5_clear_r3)) ++ wsX50)
def wsX5_set : List Cond := .code yX5_set cX5_set 4 (some .int) :: ([.constant RX5 86 (-1000001), .fieldLink RX5 7 "FavourRingsModel" "s" "[I", .methodLink RX5 45 yX5_in, .static yX5_in, .initialized RX5, .code yX5_in cX5_in 3 (some .boolean), .methodLink RX5 73 yX5_changes, .instanceMethod yX5_changes, .selects RX5 yX5_changes yX5_changes, .code yX5_changes cX5_changes 2 none, .fieldLink RX5 37 "FavourRingsModel" "runs" "Z", .fieldLink RX5 41 "FavourRingsModel" "pasts" "I", .fieldLink RX5 13 "FavourRingsModel" "past" "[I"] ++ wsX50)
def wsX5_balance : List Cond := .code yX5_balance cX5_balance 2 (some .int) :: ([.methodLink RX5 76 yX5_sumOf, .instanceMethod yX5_sumOf, .selects RX5 yX5_sumOf yX5_sumOf, .initialized RX5, .code yX5_sumOf cX5_sumOf 5 (some .int), .fieldLink RX5 7 "FavourRingsModel" "s" "[I", .methodLink RX5 53 yX5_of, .instanceMethod yX5_of, .selects RX5 yX5_of yX5_of, .code yX5_of cX5_of 3 (some .int)] ++ wsX50)
def wsX5_pupilOf_r1 : List Cond := [Cond.constant RX5 86 (-1000001), Cond.fieldLink RX5 7 "FavourRingsModel" "s" "[I", Cond.constant RX5 57 (-1000004), Cond.methodLink RX5 49 yX5_isPupil, Cond.instanceMethod yX5_isPupil, Cond.selects RX5 yX5_isPupil yX5_isPupil, Cond.initialized RX5, Cond.code yX5_isPupil cX5_isPupil 2 (some .boolean), Cond.methodLink RX5 45 yX5_in, Cond.static yX5_in, Cond.code yX5_in cX5_in 3 (some .boolean), Cond.methodLink RX5 76 yX5_sumOf, Cond.instanceMethod yX5_sumOf, Cond.selects RX5 yX5_sumOf yX5_sumOf, Cond.code yX5_sumOf cX5_sumOf 5 (some .int), Cond.methodLink RX5 53 yX5_of, Cond.instanceMethod yX5_of, Cond.selects RX5 yX5_of yX5_of, Cond.code yX5_of cX5_of 3 (some .int), Cond.methodLink RX5 128 yX5_balance, Cond.instanceMethod yX5_balance, Cond.selects RX5 yX5_balance yX5_balance, Cond.code yX5_balance cX5_balance 2 (some .int), Cond.methodLink RX5 69 yX5_at]
def wsX5_pupilOf_r2 : List Cond := [Cond.static yX5_at, Cond.code yX5_at cX5_at 2 (some .int)]
def wsX5_pupilOf : List Cond := .code yX5_pupilOf cX5_pupilOf 3 (some .int) :: ((wsX5_pupilOf_r1 ++ wsX5_pupilOf_r2) ++ wsX50)
def wsX5_owes : List Cond := .code yX5_owes cX5_owes 4 (some .int) :: ([.constant RX5 86 (-1000001), .methodLink RX5 49 yX5_isPupil, .instanceMethod yX5_isPupil, .selects RX5 yX5_isPupil yX5_isPupil, .initialized RX5, .code yX5_isPupil cX5_isPupil 2 (some .boolean), .fieldLink RX5 7 "FavourRingsModel" "s" "[I", .methodLink RX5 45 yX5_in, .static yX5_in, .code yX5_in cX5_in 3 (some .boolean), .methodLink RX5 83 yX5_isKind, .static yX5_isKind, .code yX5_isKind cX5_isKind 1 (some .boolean), .methodLink RX5 94 yX5_owed, .instanceMethod yX5_owed, .selects RX5 yX5_owed yX5_owed, .code yX5_owed cX5_owed 6 (some .int), .methodLink RX5 53 yX5_of, .instanceMethod yX5_of, .selects RX5 yX5_of yX5_of, .code yX5_of cX5_of 3 (some .int)] ++ wsX50)
def wsX5_lot : List Cond := .code yX5_lot cX5_lot 3 (some .int) :: ([.constant RX5 86 (-1000001), .fieldLink RX5 7 "FavourRingsModel" "s" "[I", .constant RX5 57 (-1000004), .methodLink RX5 45 yX5_in, .static yX5_in, .initialized RX5, .code yX5_in cX5_in 3 (some .boolean), .methodLink RX5 53 yX5_of, .instanceMethod yX5_of, .selects RX5 yX5_of yX5_of, .code yX5_of cX5_of 3 (some .int)] ++ wsX50)
def wsX5_why_r1 : List Cond := [Cond.constant RX5 86 (-1000001), Cond.methodLink RX5 49 yX5_isPupil, Cond.instanceMethod yX5_isPupil, Cond.selects RX5 yX5_isPupil yX5_isPupil, Cond.initialized RX5, Cond.code yX5_isPupil cX5_isPupil 2 (some .boolean), Cond.fieldLink RX5 7 "FavourRingsModel" "s" "[I", Cond.methodLink RX5 45 yX5_in, Cond.static yX5_in, Cond.code yX5_in cX5_in 3 (some .boolean), Cond.methodLink RX5 87 yX5_barred, Cond.instanceMethod yX5_barred, Cond.selects RX5 yX5_barred yX5_barred, Cond.code yX5_barred cX5_barred 3 (some .int), Cond.methodLink RX5 76 yX5_sumOf, Cond.instanceMethod yX5_sumOf, Cond.selects RX5 yX5_sumOf yX5_sumOf, Cond.code yX5_sumOf cX5_sumOf 5 (some .int), Cond.methodLink RX5 53 yX5_of, Cond.instanceMethod yX5_of, Cond.selects RX5 yX5_of yX5_of, Cond.code yX5_of cX5_of 3 (some .int), Cond.methodLink RX5 69 yX5_at, Cond.static yX5_at]
def wsX5_why_r2 : List Cond := [Cond.code yX5_at cX5_at 2 (some .int)]
def wsX5_why : List Cond := .code yX5_why cX5_why 3 (some .int) :: ((wsX5_why_r1 ++ wsX5_why_r2) ++ wsX50)
def wsX5_ring_r1 : List Cond := [Cond.constant RX5 86 (-1000001), Cond.fieldLink RX5 31 "FavourRingsModel" "ring" "[I", Cond.constant RX5 57 (-1000004), Cond.methodLink RX5 83 yX5_isKind, Cond.static yX5_isKind, Cond.initialized RX5, Cond.code yX5_isKind cX5_isKind 1 (some .boolean), Cond.methodLink RX5 45 yX5_in, Cond.static yX5_in, Cond.code yX5_in cX5_in 3 (some .boolean), Cond.methodLink RX5 119 yX5_rings, Cond.instanceMethod yX5_rings, Cond.selects RX5 yX5_rings yX5_rings, Cond.code yX5_rings cX5_rings 5 (some .int), Cond.fieldLink RX5 25 "FavourRingsModel" "to" "[I", Cond.fieldLink RX5 28 "FavourRingsModel" "ways" "[I", Cond.methodLink RX5 109 yX5_looks, Cond.instanceMethod yX5_looks, Cond.selects RX5 yX5_looks yX5_looks, Cond.code yX5_looks cX5_looks 3 none, Cond.fieldLink RX5 7 "FavourRingsModel" "s" "[I", Cond.methodLink RX5 53 yX5_of, Cond.instanceMethod yX5_of, Cond.selects RX5 yX5_of yX5_of]
def wsX5_ring_r2 : List Cond := [Cond.code yX5_of cX5_of 3 (some .int), Cond.methodLink RX5 113 yX5_isBack, Cond.instanceMethod yX5_isBack, Cond.selects RX5 yX5_isBack yX5_isBack, Cond.code yX5_isBack cX5_isBack 5 (some .boolean), Cond.methodLink RX5 116 yX5_lowest, Cond.static yX5_lowest, Cond.code yX5_lowest cX5_lowest 2 (some .int)]
def wsX5_ring : List Cond := .code yX5_ring cX5_ring 3 (some .int) :: ((wsX5_ring_r1 ++ wsX5_ring_r2) ++ wsX50)
def wsX5_amount_r1 : List Cond := [Cond.constant RX5 86 (-1000001), Cond.constant RX5 57 (-1000004), Cond.methodLink RX5 83 yX5_isKind, Cond.static yX5_isKind, Cond.initialized RX5, Cond.code yX5_isKind cX5_isKind 1 (some .boolean), Cond.methodLink RX5 45 yX5_in, Cond.static yX5_in, Cond.code yX5_in cX5_in 3 (some .boolean), Cond.methodLink RX5 119 yX5_rings, Cond.instanceMethod yX5_rings, Cond.selects RX5 yX5_rings yX5_rings, Cond.code yX5_rings cX5_rings 5 (some .int), Cond.fieldLink RX5 31 "FavourRingsModel" "ring" "[I", Cond.fieldLink RX5 25 "FavourRingsModel" "to" "[I", Cond.fieldLink RX5 28 "FavourRingsModel" "ways" "[I", Cond.methodLink RX5 109 yX5_looks, Cond.instanceMethod yX5_looks, Cond.selects RX5 yX5_looks yX5_looks, Cond.code yX5_looks cX5_looks 3 none, Cond.fieldLink RX5 7 "FavourRingsModel" "s" "[I", Cond.methodLink RX5 53 yX5_of, Cond.instanceMethod yX5_of, Cond.selects RX5 yX5_of yX5_of]
def wsX5_amount_r2 : List Cond := [Cond.code yX5_of cX5_of 3 (some .int), Cond.methodLink RX5 113 yX5_isBack, Cond.instanceMethod yX5_isBack, Cond.selects RX5 yX5_isBack yX5_isBack, Cond.code yX5_isBack cX5_isBack 5 (some .boolean), Cond.methodLink RX5 116 yX5_lowest, Cond.static yX5_lowest, Cond.code yX5_lowest cX5_lowest 2 (some .int), Cond.methodLink RX5 122 yX5_amountOf, Cond.instanceMethod yX5_amountOf, Cond.selects RX5 yX5_amountOf yX5_amountOf, Cond.code yX5_amountOf cX5_amountOf 6 (some .int), Cond.methodLink RX5 94 yX5_owed, Cond.instanceMethod yX5_owed, Cond.selects RX5 yX5_owed yX5_owed, Cond.code yX5_owed cX5_owed 6 (some .int)]
def wsX5_amount : List Cond := .code yX5_amount cX5_amount 3 (some .int) :: ((wsX5_amount_r1 ++ wsX5_amount_r2) ++ wsX50)
def wsX5_ifCleared_r1 : List Cond := [Cond.constant RX5 86 (-1000001), Cond.fieldLink RX5 7 "FavourRingsModel" "s" "[I", Cond.fieldLink RX5 19 "FavourRingsModel" "spare" "[I", Cond.methodLink RX5 83 yX5_isKind, Cond.static yX5_isKind, Cond.initialized RX5, Cond.code yX5_isKind cX5_isKind 1 (some .boolean), Cond.methodLink RX5 45 yX5_in, Cond.static yX5_in, Cond.code yX5_in cX5_in 3 (some .boolean), Cond.methodLink RX5 131 yX5_copies, Cond.static yX5_copies, Cond.code yX5_copies cX5_copies 3 none, Cond.methodLink RX5 125 yX5_clears, Cond.instanceMethod yX5_clears, Cond.selects RX5 yX5_clears yX5_clears, Cond.code yX5_clears cX5_clears 6 (some .int), Cond.fieldLink RX5 31 "FavourRingsModel" "ring" "[I", Cond.methodLink RX5 119 yX5_rings, Cond.instanceMethod yX5_rings, Cond.selects RX5 yX5_rings yX5_rings, Cond.code yX5_rings cX5_rings 5 (some .int), Cond.fieldLink RX5 25 "FavourRingsModel" "to" "[I", Cond.fieldLink RX5 28 "FavourRingsModel" "ways" "[I"]
def wsX5_ifCleared_r2 : List Cond := [Cond.methodLink RX5 109 yX5_looks, Cond.instanceMethod yX5_looks, Cond.selects RX5 yX5_looks yX5_looks, Cond.code yX5_looks cX5_looks 3 none, Cond.methodLink RX5 53 yX5_of, Cond.instanceMethod yX5_of, Cond.selects RX5 yX5_of yX5_of, Cond.code yX5_of cX5_of 3 (some .int), Cond.methodLink RX5 113 yX5_isBack, Cond.instanceMethod yX5_isBack, Cond.selects RX5 yX5_isBack yX5_isBack, Cond.code yX5_isBack cX5_isBack 5 (some .boolean), Cond.methodLink RX5 116 yX5_lowest, Cond.static yX5_lowest, Cond.code yX5_lowest cX5_lowest 2 (some .int), Cond.methodLink RX5 122 yX5_amountOf, Cond.instanceMethod yX5_amountOf, Cond.selects RX5 yX5_amountOf yX5_amountOf, Cond.code yX5_amountOf cX5_amountOf 6 (some .int), Cond.methodLink RX5 94 yX5_owed, Cond.instanceMethod yX5_owed, Cond.selects RX5 yX5_owed yX5_owed, Cond.code yX5_owed cX5_owed 6 (some .int), Cond.methodLink RX5 97 yX5_takes]
def wsX5_ifCleared_r3 : List Cond := [Cond.instanceMethod yX5_takes, Cond.selects RX5 yX5_takes yX5_takes, Cond.code yX5_takes cX5_takes 8 none, Cond.methodLink RX5 58 yX5_oldest, Cond.instanceMethod yX5_oldest, Cond.selects RX5 yX5_oldest yX5_oldest, Cond.code yX5_oldest cX5_oldest 7 (some .int), Cond.constant RX5 57 (-1000004), Cond.methodLink RX5 62 yX5_lay, Cond.instanceMethod yX5_lay, Cond.selects RX5 yX5_lay yX5_lay, Cond.code yX5_lay cX5_lay 4 none, Cond.methodLink RX5 66 yX5_dropsEmpty, Cond.instanceMethod yX5_dropsEmpty, Cond.selects RX5 yX5_dropsEmpty yX5_dropsEmpty, Cond.code yX5_dropsEmpty cX5_dropsEmpty 4 none, Cond.methodLink RX5 69 yX5_at, Cond.static yX5_at, Cond.code yX5_at cX5_at 2 (some .int)]
def wsX5_ifCleared : List Cond := .code yX5_ifCleared cX5_ifCleared 5 (some .int) :: ((wsX5_ifCleared_r1 ++ (wsX5_ifCleared_r2 ++ wsX5_ifCleared_r3)) ++ wsX50)
def wsX5_chain_r1 : List Cond := [Cond.constant RX5 86 (-1000001), Cond.fieldLink RX5 25 "FavourRingsModel" "to" "[I", Cond.constant RX5 57 (-1000004), Cond.methodLink RX5 79 yX5_isPair, Cond.instanceMethod yX5_isPair, Cond.selects RX5 yX5_isPair yX5_isPair, Cond.initialized RX5, Cond.code yX5_isPair cX5_isPair 3 (some .boolean), Cond.methodLink RX5 49 yX5_isPupil, Cond.instanceMethod yX5_isPupil, Cond.selects RX5 yX5_isPupil yX5_isPupil, Cond.code yX5_isPupil cX5_isPupil 2 (some .boolean), Cond.fieldLink RX5 7 "FavourRingsModel" "s" "[I", Cond.methodLink RX5 45 yX5_in, Cond.static yX5_in, Cond.code yX5_in cX5_in 3 (some .boolean), Cond.methodLink RX5 83 yX5_isKind, Cond.static yX5_isKind, Cond.code yX5_isKind cX5_isKind 1 (some .boolean), Cond.methodLink RX5 109 yX5_looks, Cond.instanceMethod yX5_looks, Cond.selects RX5 yX5_looks yX5_looks, Cond.code yX5_looks cX5_looks 3 none, Cond.methodLink RX5 53 yX5_of]
def wsX5_chain_r2 : List Cond := [Cond.instanceMethod yX5_of, Cond.selects RX5 yX5_of yX5_of, Cond.code yX5_of cX5_of 3 (some .int)]
def wsX5_chain : List Cond := .code yX5_chain cX5_chain 8 (some .int) :: ((wsX5_chain_r1 ++ wsX5_chain_r2) ++ wsX50)
def wsX5_deepest : List Cond := .code yX5_deepest cX5_deepest 7 (some .int) :: ([.constant RX5 86 (-1000001), .constant RX5 57 (-1000004), .fieldLink RX5 7 "FavourRingsModel" "s" "[I", .methodLink RX5 83 yX5_isKind, .static yX5_isKind, .initialized RX5, .code yX5_isKind cX5_isKind 1 (some .boolean), .methodLink RX5 45 yX5_in, .static yX5_in, .code yX5_in cX5_in 3 (some .boolean), .methodLink RX5 53 yX5_of, .instanceMethod yX5_of, .selects RX5 yX5_of yX5_of, .code yX5_of cX5_of 3 (some .int)] ++ wsX50)
def wsX5_spoilsIn : List Cond := .code yX5_spoilsIn cX5_spoilsIn 5 (some .int) :: ([.constant RX5 86 (-1000001), .constant RX5 57 (-1000004), .fieldLink RX5 7 "FavourRingsModel" "s" "[I", .methodLink RX5 49 yX5_isPupil, .instanceMethod yX5_isPupil, .selects RX5 yX5_isPupil yX5_isPupil, .initialized RX5, .code yX5_isPupil cX5_isPupil 2 (some .boolean), .methodLink RX5 45 yX5_in, .static yX5_in, .code yX5_in cX5_in 3 (some .boolean), .methodLink RX5 53 yX5_of, .instanceMethod yX5_of, .selects RX5 yX5_of yX5_of, .code yX5_of cX5_of 3 (some .int)] ++ wsX50)
def wsX5_richest : List Cond := .code yX5_richest cX5_richest 6 (some .int) :: ([.constant RX5 86 (-1000001), .fieldLink RX5 7 "FavourRingsModel" "s" "[I", .constant RX5 57 (-1000004), .methodLink RX5 128 yX5_balance, .instanceMethod yX5_balance, .selects RX5 yX5_balance yX5_balance, .initialized RX5, .code yX5_balance cX5_balance 2 (some .int), .methodLink RX5 76 yX5_sumOf, .instanceMethod yX5_sumOf, .selects RX5 yX5_sumOf yX5_sumOf, .code yX5_sumOf cX5_sumOf 5 (some .int), .methodLink RX5 53 yX5_of, .instanceMethod yX5_of, .selects RX5 yX5_of yX5_of, .code yX5_of cX5_of 3 (some .int)] ++ wsX50)
def wsX5_owedInAll : List Cond := .code yX5_owedInAll cX5_owedInAll 3 (some .int) :: ([.fieldLink RX5 7 "FavourRingsModel" "s" "[I", .methodLink RX5 53 yX5_of, .instanceMethod yX5_of, .selects RX5 yX5_of yX5_of, .initialized RX5, .code yX5_of cX5_of 3 (some .int)] ++ wsX50)
def wsJxf58ca_isNaN_12338 : List Cond := .code yJxf58ca_isNaN_12338 cJxf58ca_isNaN_12338 1 (some .boolean) :: ([])
def wsJxf58ca_floatToIntBits_5c35a : List Cond := .code yJxf58ca_floatToIntBits_5c35a cJxf58ca_floatToIntBits_5c35a 1 (some .int) :: ([.methodLink RJxf58ca 74 ⟨"java/lang/Float", "floatToRawIntBits", "(F)I"⟩, .native ⟨"java/lang/Float", "floatToRawIntBits", "(F)I"⟩, .static ⟨"java/lang/Float", "floatToRawIntBits", "(F)I"⟩, .initialized "java/lang/Float", .constant RJxf58ca 77 (2143289344), .methodLink RJxf58ca 59 yJxf58ca_isNaN_12338, .static yJxf58ca_isNaN_12338, .initialized RJxf58ca, .code yJxf58ca_isNaN_12338 cJxf58ca_isNaN_12338 1 (some .boolean)])
def wsX5_mean : List Cond := .code yX5_mean cX5_mean 4 (some .int) :: ([.fieldLink RX5 7 "FavourRingsModel" "s" "[I", .constant RX5 57 (-1000004), .methodLink RX5 53 yX5_of, .instanceMethod yX5_of, .selects RX5 yX5_of yX5_of, .initialized RX5, .code yX5_of cX5_of 3 (some .int), .methodLink RX5 135 yX5_owedInAll, .instanceMethod yX5_owedInAll, .selects RX5 yX5_owedInAll yX5_owedInAll, .code yX5_owedInAll cX5_owedInAll 3 (some .int), .methodLink RX5 138 yJxf58ca_floatToIntBits_5c35a, .static yJxf58ca_floatToIntBits_5c35a, .initialized RJxf58ca, .code yJxf58ca_floatToIntBits_5c35a cJxf58ca_floatToIntBits_5c35a 1 (some .int), .methodLink RJxf58ca 74 ⟨"java/lang/Float", "floatToRawIntBits", "(F)I"⟩, .native ⟨"java/lang/Float", "floatToRawIntBits", "(F)I"⟩, .static ⟨"java/lang/Float", "floatToRawIntBits", "(F)I"⟩, .initialized "java/lang/Float", .constant RJxf58ca 77 (2143289344), .methodLink RJxf58ca 59 yJxf58ca_isNaN_12338, .static yJxf58ca_isNaN_12338, .code yJxf58ca_isNaN_12338 cJxf58ca_isNaN_12338 1 (some .boolean)] ++ wsX50)
def wsX5_alone : List Cond := .code yX5_alone cX5_alone 3 (some .int) :: ([.fieldLink RX5 7 "FavourRingsModel" "s" "[I", .methodLink RX5 69 yX5_at, .static yX5_at, .initialized RX5, .code yX5_at cX5_at 2 (some .int)] ++ wsX50)
def wsX5_count : List Cond := .code yX5_count cX5_count 2 (some .int) :: ([.fieldLink RX5 7 "FavourRingsModel" "s" "[I", .fieldLink RX5 41 "FavourRingsModel" "pasts" "I", .fieldLink RX5 147 "FavourRingsModel" "typed" "I", .constant RX5 86 (-1000001), .methodLink RX5 135 yX5_owedInAll, .instanceMethod yX5_owedInAll, .selects RX5 yX5_owedInAll yX5_owedInAll, .initialized RX5, .code yX5_owedInAll cX5_owedInAll 3 (some .int), .methodLink RX5 53 yX5_of, .instanceMethod yX5_of, .selects RX5 yX5_of yX5_of, .code yX5_of cX5_of 3 (some .int), .methodLink RX5 144 yX5_alone, .instanceMethod yX5_alone, .selects RX5 yX5_alone yX5_alone, .code yX5_alone cX5_alone 3 (some .int), .methodLink RX5 69 yX5_at, .static yX5_at, .code yX5_at cX5_at 2 (some .int)] ++ wsX50)
def wsX5_undo : List Cond := .code yX5_undo cX5_undo 2 (some .int) :: ([.fieldLink RX5 41 "FavourRingsModel" "pasts" "I", .constant RX5 90 (-1000002), .fieldLink RX5 7 "FavourRingsModel" "s" "[I", .fieldLink RX5 13 "FavourRingsModel" "past" "[I"] ++ wsX50)
def wsX5_type : List Cond := .code yX5_type cX5_type 2 (some .int) :: ([.constant RX5 86 (-1000001), .fieldLink RX5 147 "FavourRingsModel" "typed" "I", .constant RX5 72 (-1000003), .fieldLink RX5 22 "FavourRingsModel" "text" "[I", .methodLink RX5 45 yX5_in, .static yX5_in, .initialized RX5, .code yX5_in cX5_in 3 (some .boolean)] ++ wsX50)
def wsX5_clearText : List Cond := .code yX5_clearText cX5_clearText 2 (some .int) :: ([.fieldLink RX5 147 "FavourRingsModel" "typed" "I"] ++ wsX50)
def wsX5_isAt : List Cond := .code yX5_isAt cX5_isAt 3 (some .boolean) :: ([.fieldLink RX5 150 "FavourRingsModel" "spot" "I", .fieldLink RX5 147 "FavourRingsModel" "typed" "I", .fieldLink RX5 22 "FavourRingsModel" "text" "[I", .methodLink RX5 45 yX5_in, .static yX5_in, .initialized RX5, .code yX5_in cX5_in 3 (some .boolean)] ++ wsX50)
def wsX5_sign : List Cond := .code yX5_sign cX5_sign 3 (some .boolean) :: ([.fieldLink RX5 150 "FavourRingsModel" "spot" "I", .methodLink RX5 153 yX5_isAt, .instanceMethod yX5_isAt, .selects RX5 yX5_isAt yX5_isAt, .initialized RX5, .code yX5_isAt cX5_isAt 3 (some .boolean), .fieldLink RX5 147 "FavourRingsModel" "typed" "I", .fieldLink RX5 22 "FavourRingsModel" "text" "[I", .methodLink RX5 45 yX5_in, .static yX5_in, .code yX5_in cX5_in 3 (some .boolean)] ++ wsX50)
def wsX5_numbered : List Cond := .code yX5_numbered cX5_numbered 3 (some .boolean) :: ([.fieldLink RX5 150 "FavourRingsModel" "spot" "I", .fieldLink RX5 34 "FavourRingsModel" "numbers" "[I", .fieldLink RX5 22 "FavourRingsModel" "text" "[I", .methodLink RX5 153 yX5_isAt, .instanceMethod yX5_isAt, .selects RX5 yX5_isAt yX5_isAt, .initialized RX5, .code yX5_isAt cX5_isAt 3 (some .boolean), .fieldLink RX5 147 "FavourRingsModel" "typed" "I", .methodLink RX5 45 yX5_in, .static yX5_in, .code yX5_in cX5_in 3 (some .boolean)] ++ wsX50)
def wsX5_numbersOf : List Cond := .code yX5_numbersOf cX5_numbersOf 1 (some .int) :: ([.constant RX5 57 (-1000004)])
def wsX5_parses_r1 : List Cond := [Cond.fieldLink RX5 22 "FavourRingsModel" "text" "[I", Cond.fieldLink RX5 150 "FavourRingsModel" "spot" "I", Cond.fieldLink RX5 156 "FavourRingsModel" "order" "I", Cond.methodLink RX5 153 yX5_isAt, Cond.instanceMethod yX5_isAt, Cond.selects RX5 yX5_isAt yX5_isAt, Cond.initialized RX5, Cond.code yX5_isAt cX5_isAt 3 (some .boolean), Cond.fieldLink RX5 147 "FavourRingsModel" "typed" "I", Cond.methodLink RX5 45 yX5_in, Cond.static yX5_in, Cond.code yX5_in cX5_in 3 (some .boolean), Cond.methodLink RX5 159 yX5_numbersOf, Cond.static yX5_numbersOf, Cond.code yX5_numbersOf cX5_numbersOf 1 (some .int), Cond.constant RX5 57 (-1000004), Cond.methodLink RX5 162 yX5_numbered, Cond.instanceMethod yX5_numbered, Cond.selects RX5 yX5_numbered yX5_numbered, Cond.code yX5_numbered cX5_numbered 3 (some .boolean), Cond.fieldLink RX5 34 "FavourRingsModel" "numbers" "[I", Cond.methodLink RX5 165 yX5_sign, Cond.instanceMethod yX5_sign, Cond.selects RX5 yX5_sign yX5_sign]
def wsX5_parses_r2 : List Cond := [Cond.code yX5_sign cX5_sign 3 (some .boolean)]
def wsX5_parses : List Cond := .code yX5_parses cX5_parses 4 (some .boolean) :: ((wsX5_parses_r1 ++ wsX5_parses_r2) ++ wsX50)
def wsX5_does_r1 : List Cond := [Cond.fieldLink RX5 156 "FavourRingsModel" "order" "I", Cond.fieldLink RX5 34 "FavourRingsModel" "numbers" "[I", Cond.fieldLink RX5 7 "FavourRingsModel" "s" "[I", Cond.methodLink RX5 168 yX5_lend, Cond.instanceMethod yX5_lend, Cond.selects RX5 yX5_lend yX5_lend, Cond.initialized RX5, Cond.code yX5_lend cX5_lend 6 (some .int), Cond.constant RX5 86 (-1000001), Cond.constant RX5 90 (-1000002), Cond.constant RX5 72 (-1000003), Cond.methodLink RX5 79 yX5_isPair, Cond.instanceMethod yX5_isPair, Cond.selects RX5 yX5_isPair yX5_isPair, Cond.code yX5_isPair cX5_isPair 3 (some .boolean), Cond.methodLink RX5 49 yX5_isPupil, Cond.instanceMethod yX5_isPupil, Cond.selects RX5 yX5_isPupil yX5_isPupil, Cond.code yX5_isPupil cX5_isPupil 2 (some .boolean), Cond.methodLink RX5 45 yX5_in, Cond.static yX5_in, Cond.code yX5_in cX5_in 3 (some .boolean), Cond.methodLink RX5 83 yX5_isKind, Cond.static yX5_isKind]
def wsX5_does_r2 : List Cond := [Cond.code yX5_isKind cX5_isKind 1 (some .boolean), Cond.methodLink RX5 87 yX5_barred, Cond.instanceMethod yX5_barred, Cond.selects RX5 yX5_barred yX5_barred, Cond.code yX5_barred cX5_barred 3 (some .int), Cond.methodLink RX5 76 yX5_sumOf, Cond.instanceMethod yX5_sumOf, Cond.selects RX5 yX5_sumOf yX5_sumOf, Cond.code yX5_sumOf cX5_sumOf 5 (some .int), Cond.methodLink RX5 53 yX5_of, Cond.instanceMethod yX5_of, Cond.selects RX5 yX5_of yX5_of, Cond.code yX5_of cX5_of 3 (some .int), Cond.methodLink RX5 69 yX5_at, Cond.static yX5_at, Cond.code yX5_at cX5_at 2 (some .int), Cond.methodLink RX5 73 yX5_changes, Cond.instanceMethod yX5_changes, Cond.selects RX5 yX5_changes yX5_changes, Cond.code yX5_changes cX5_changes 2 none, Cond.fieldLink RX5 37 "FavourRingsModel" "runs" "Z", Cond.fieldLink RX5 41 "FavourRingsModel" "pasts" "I", Cond.fieldLink RX5 13 "FavourRingsModel" "past" "[I", Cond.methodLink RX5 62 yX5_lay]
def wsX5_does_r3 : List Cond := [Cond.instanceMethod yX5_lay, Cond.selects RX5 yX5_lay yX5_lay, Cond.code yX5_lay cX5_lay 4 none, Cond.methodLink RX5 91 yX5_shifts, Cond.instanceMethod yX5_shifts, Cond.selects RX5 yX5_shifts yX5_shifts, Cond.code yX5_shifts cX5_shifts 4 none, Cond.methodLink RX5 94 yX5_owed, Cond.instanceMethod yX5_owed, Cond.selects RX5 yX5_owed yX5_owed, Cond.code yX5_owed cX5_owed 6 (some .int), Cond.methodLink RX5 172 yX5_fulfil, Cond.instanceMethod yX5_fulfil, Cond.selects RX5 yX5_fulfil yX5_fulfil, Cond.code yX5_fulfil cX5_fulfil 5 (some .int), Cond.methodLink RX5 97 yX5_takes, Cond.instanceMethod yX5_takes, Cond.selects RX5 yX5_takes yX5_takes, Cond.code yX5_takes cX5_takes 8 none, Cond.methodLink RX5 58 yX5_oldest, Cond.instanceMethod yX5_oldest, Cond.selects RX5 yX5_oldest yX5_oldest, Cond.code yX5_oldest cX5_oldest 7 (some .int), Cond.constant RX5 57 (-1000004)]
def wsX5_does_r4 : List Cond := [Cond.methodLink RX5 66 yX5_dropsEmpty, Cond.instanceMethod yX5_dropsEmpty, Cond.selects RX5 yX5_dropsEmpty yX5_dropsEmpty, Cond.code yX5_dropsEmpty cX5_dropsEmpty 4 none, Cond.methodLink RX5 175 yX5_guarantee, Cond.instanceMethod yX5_guarantee, Cond.selects RX5 yX5_guarantee yX5_guarantee, Cond.code yX5_guarantee cX5_guarantee 4 (some .int), Cond.methodLink RX5 178 yX5_clear, Cond.instanceMethod yX5_clear, Cond.selects RX5 yX5_clear yX5_clear, Cond.code yX5_clear cX5_clear 2 (some .int), Cond.methodLink RX5 125 yX5_clears, Cond.instanceMethod yX5_clears, Cond.selects RX5 yX5_clears yX5_clears, Cond.code yX5_clears cX5_clears 6 (some .int), Cond.fieldLink RX5 31 "FavourRingsModel" "ring" "[I", Cond.methodLink RX5 119 yX5_rings, Cond.instanceMethod yX5_rings, Cond.selects RX5 yX5_rings yX5_rings, Cond.code yX5_rings cX5_rings 5 (some .int), Cond.fieldLink RX5 25 "FavourRingsModel" "to" "[I", Cond.fieldLink RX5 28 "FavourRingsModel" "ways" "[I", Cond.methodLink RX5 109 yX5_looks]
def wsX5_does_r5 : List Cond := [Cond.instanceMethod yX5_looks, Cond.selects RX5 yX5_looks yX5_looks, Cond.code yX5_looks cX5_looks 3 none, Cond.methodLink RX5 113 yX5_isBack, Cond.instanceMethod yX5_isBack, Cond.selects RX5 yX5_isBack yX5_isBack, Cond.code yX5_isBack cX5_isBack 5 (some .boolean), Cond.methodLink RX5 116 yX5_lowest, Cond.static yX5_lowest, Cond.code yX5_lowest cX5_lowest 2 (some .int), Cond.methodLink RX5 122 yX5_amountOf, Cond.instanceMethod yX5_amountOf, Cond.selects RX5 yX5_amountOf yX5_amountOf, Cond.code yX5_amountOf cX5_amountOf 6 (some .int), Cond.methodLink RX5 181 yX5_weeks, Cond.instanceMethod yX5_weeks, Cond.selects RX5 yX5_weeks yX5_weeks, Cond.code yX5_weeks cX5_weeks 4 (some .int), Cond.methodLink RX5 105 yX5_week, Cond.instanceMethod yX5_week, Cond.selects RX5 yX5_week yX5_week, Cond.code yX5_week cX5_week 3 (some .int), Cond.methodLink RX5 101 yX5_ends, Cond.instanceMethod yX5_ends]
def wsX5_does_r6 : List Cond := [Cond.selects RX5 yX5_ends yX5_ends, Cond.code yX5_ends cX5_ends 5 (some .int), Cond.methodLink RX5 184 yX5_holiday, Cond.instanceMethod yX5_holiday, Cond.selects RX5 yX5_holiday yX5_holiday, Cond.code yX5_holiday cX5_holiday 3 (some .int)]
def wsX5_does : List Cond := .code yX5_does cX5_does 1 (some .int) :: ((wsX5_does_r1 ++ (wsX5_does_r2 ++ (wsX5_does_r3 ++ (wsX5_does_r4 ++ (wsX5_does_r5 ++ wsX5_does_r6))))) ++ wsX50)
def wsX5_plays_r1 : List Cond := [Cond.fieldLink RX5 37 "FavourRingsModel" "runs" "Z", Cond.fieldLink RX5 150 "FavourRingsModel" "spot" "I", Cond.fieldLink RX5 188 "FavourRingsModel" "from" "I", Cond.fieldLink RX5 191 "FavourRingsModel" "orders" "I", Cond.fieldLink RX5 147 "FavourRingsModel" "typed" "I", Cond.fieldLink RX5 201 "FavourRingsModel" "reason" "I", Cond.fieldLink RX5 204 "FavourRingsModel" "cause" "I", Cond.methodLink RX5 194 yX5_parses, Cond.instanceMethod yX5_parses, Cond.selects RX5 yX5_parses yX5_parses, Cond.initialized RX5, Cond.code yX5_parses cX5_parses 4 (some .boolean), Cond.fieldLink RX5 22 "FavourRingsModel" "text" "[I", Cond.fieldLink RX5 156 "FavourRingsModel" "order" "I", Cond.methodLink RX5 153 yX5_isAt, Cond.instanceMethod yX5_isAt, Cond.selects RX5 yX5_isAt yX5_isAt, Cond.code yX5_isAt cX5_isAt 3 (some .boolean), Cond.methodLink RX5 45 yX5_in, Cond.static yX5_in, Cond.code yX5_in cX5_in 3 (some .boolean), Cond.methodLink RX5 159 yX5_numbersOf, Cond.static yX5_numbersOf, Cond.code yX5_numbersOf cX5_numbersOf 1 (some .int)]
def wsX5_plays_r2 : List Cond := [Cond.constant RX5 57 (-1000004), Cond.methodLink RX5 162 yX5_numbered, Cond.instanceMethod yX5_numbered, Cond.selects RX5 yX5_numbered yX5_numbered, Cond.code yX5_numbered cX5_numbered 3 (some .boolean), Cond.fieldLink RX5 34 "FavourRingsModel" "numbers" "[I", Cond.methodLink RX5 165 yX5_sign, Cond.instanceMethod yX5_sign, Cond.selects RX5 yX5_sign yX5_sign, Cond.code yX5_sign cX5_sign 3 (some .boolean), Cond.methodLink RX5 198 yX5_does, Cond.instanceMethod yX5_does, Cond.selects RX5 yX5_does yX5_does, Cond.code yX5_does cX5_does 1 (some .int), Cond.fieldLink RX5 7 "FavourRingsModel" "s" "[I", Cond.methodLink RX5 168 yX5_lend, Cond.instanceMethod yX5_lend, Cond.selects RX5 yX5_lend yX5_lend, Cond.code yX5_lend cX5_lend 6 (some .int), Cond.constant RX5 86 (-1000001), Cond.constant RX5 90 (-1000002), Cond.constant RX5 72 (-1000003), Cond.methodLink RX5 79 yX5_isPair, Cond.instanceMethod yX5_isPair]
def wsX5_plays_r3 : List Cond := [Cond.selects RX5 yX5_isPair yX5_isPair, Cond.code yX5_isPair cX5_isPair 3 (some .boolean), Cond.methodLink RX5 49 yX5_isPupil, Cond.instanceMethod yX5_isPupil, Cond.selects RX5 yX5_isPupil yX5_isPupil, Cond.code yX5_isPupil cX5_isPupil 2 (some .boolean), Cond.methodLink RX5 83 yX5_isKind, Cond.static yX5_isKind, Cond.code yX5_isKind cX5_isKind 1 (some .boolean), Cond.methodLink RX5 87 yX5_barred, Cond.instanceMethod yX5_barred, Cond.selects RX5 yX5_barred yX5_barred, Cond.code yX5_barred cX5_barred 3 (some .int), Cond.methodLink RX5 76 yX5_sumOf, Cond.instanceMethod yX5_sumOf, Cond.selects RX5 yX5_sumOf yX5_sumOf, Cond.code yX5_sumOf cX5_sumOf 5 (some .int), Cond.methodLink RX5 53 yX5_of, Cond.instanceMethod yX5_of, Cond.selects RX5 yX5_of yX5_of, Cond.code yX5_of cX5_of 3 (some .int), Cond.methodLink RX5 69 yX5_at, Cond.static yX5_at, Cond.code yX5_at cX5_at 2 (some .int)]
def wsX5_plays_r4 : List Cond := [Cond.methodLink RX5 73 yX5_changes, Cond.instanceMethod yX5_changes, Cond.selects RX5 yX5_changes yX5_changes, Cond.code yX5_changes cX5_changes 2 none, Cond.fieldLink RX5 41 "FavourRingsModel" "pasts" "I", Cond.fieldLink RX5 13 "FavourRingsModel" "past" "[I", Cond.methodLink RX5 62 yX5_lay, Cond.instanceMethod yX5_lay, Cond.selects RX5 yX5_lay yX5_lay, Cond.code yX5_lay cX5_lay 4 none, Cond.methodLink RX5 91 yX5_shifts, Cond.instanceMethod yX5_shifts, Cond.selects RX5 yX5_shifts yX5_shifts, Cond.code yX5_shifts cX5_shifts 4 none, Cond.methodLink RX5 94 yX5_owed, Cond.instanceMethod yX5_owed, Cond.selects RX5 yX5_owed yX5_owed, Cond.code yX5_owed cX5_owed 6 (some .int), Cond.methodLink RX5 172 yX5_fulfil, Cond.instanceMethod yX5_fulfil, Cond.selects RX5 yX5_fulfil yX5_fulfil, Cond.code yX5_fulfil cX5_fulfil 5 (some .int), Cond.methodLink RX5 97 yX5_takes, Cond.instanceMethod yX5_takes]
def wsX5_plays_r5 : List Cond := [Cond.selects RX5 yX5_takes yX5_takes, Cond.code yX5_takes cX5_takes 8 none, Cond.methodLink RX5 58 yX5_oldest, Cond.instanceMethod yX5_oldest, Cond.selects RX5 yX5_oldest yX5_oldest, Cond.code yX5_oldest cX5_oldest 7 (some .int), Cond.methodLink RX5 66 yX5_dropsEmpty, Cond.instanceMethod yX5_dropsEmpty, Cond.selects RX5 yX5_dropsEmpty yX5_dropsEmpty, Cond.code yX5_dropsEmpty cX5_dropsEmpty 4 none, Cond.methodLink RX5 175 yX5_guarantee, Cond.instanceMethod yX5_guarantee, Cond.selects RX5 yX5_guarantee yX5_guarantee, Cond.code yX5_guarantee cX5_guarantee 4 (some .int), Cond.methodLink RX5 178 yX5_clear, Cond.instanceMethod yX5_clear, Cond.selects RX5 yX5_clear yX5_clear, Cond.code yX5_clear cX5_clear 2 (some .int), Cond.methodLink RX5 125 yX5_clears, Cond.instanceMethod yX5_clears, Cond.selects RX5 yX5_clears yX5_clears, Cond.code yX5_clears cX5_clears 6 (some .int), Cond.fieldLink RX5 31 "FavourRingsModel" "ring" "[I", Cond.methodLink RX5 119 yX5_rings]
def wsX5_plays_r6 : List Cond := [Cond.instanceMethod yX5_rings, Cond.selects RX5 yX5_rings yX5_rings, Cond.code yX5_rings cX5_rings 5 (some .int), Cond.fieldLink RX5 25 "FavourRingsModel" "to" "[I", Cond.fieldLink RX5 28 "FavourRingsModel" "ways" "[I", Cond.methodLink RX5 109 yX5_looks, Cond.instanceMethod yX5_looks, Cond.selects RX5 yX5_looks yX5_looks, Cond.code yX5_looks cX5_looks 3 none, Cond.methodLink RX5 113 yX5_isBack, Cond.instanceMethod yX5_isBack, Cond.selects RX5 yX5_isBack yX5_isBack, Cond.code yX5_isBack cX5_isBack 5 (some .boolean), Cond.methodLink RX5 116 yX5_lowest, Cond.static yX5_lowest, Cond.code yX5_lowest cX5_lowest 2 (some .int), Cond.methodLink RX5 122 yX5_amountOf, Cond.instanceMethod yX5_amountOf, Cond.selects RX5 yX5_amountOf yX5_amountOf, Cond.code yX5_amountOf cX5_amountOf 6 (some .int), Cond.methodLink RX5 181 yX5_weeks, Cond.instanceMethod yX5_weeks, Cond.selects RX5 yX5_weeks yX5_weeks, Cond.code yX5_weeks cX5_weeks 4 (some .int)]
def wsX5_plays_r7 : List Cond := [Cond.methodLink RX5 105 yX5_week, Cond.instanceMethod yX5_week, Cond.selects RX5 yX5_week yX5_week, Cond.code yX5_week cX5_week 3 (some .int), Cond.methodLink RX5 101 yX5_ends, Cond.instanceMethod yX5_ends, Cond.selects RX5 yX5_ends yX5_ends, Cond.code yX5_ends cX5_ends 5 (some .int), Cond.methodLink RX5 184 yX5_holiday, Cond.instanceMethod yX5_holiday, Cond.selects RX5 yX5_holiday yX5_holiday, Cond.code yX5_holiday cX5_holiday 3 (some .int)]
def wsX5_plays : List Cond := .code yX5_plays cX5_plays 4 (some .boolean) :: ((wsX5_plays_r1 ++ (wsX5_plays_r2 ++ (wsX5_plays_r3 ++ (wsX5_plays_r4 ++ (wsX5_plays_r5 ++ (wsX5_plays_r6 ++ wsX5_plays_r7)))))) ++ wsX50)
def wsX5_fault_r1 : List Cond := [Cond.constant RX5 86 (-1000001), Cond.fieldLink RX5 7 "FavourRingsModel" "s" "[I", Cond.fieldLink RX5 16 "FavourRingsModel" "held" "[I", Cond.constant RX5 57 (-1000004), Cond.fieldLink RX5 188 "FavourRingsModel" "from" "I", Cond.fieldLink RX5 201 "FavourRingsModel" "reason" "I", Cond.fieldLink RX5 204 "FavourRingsModel" "cause" "I", Cond.methodLink RX5 45 yX5_in, Cond.static yX5_in, Cond.initialized RX5, Cond.code yX5_in cX5_in 3 (some .boolean), Cond.methodLink RX5 131 yX5_copies, Cond.static yX5_copies, Cond.code yX5_copies cX5_copies 3 none, Cond.methodLink RX5 207 yX5_plays, Cond.instanceMethod yX5_plays, Cond.selects RX5 yX5_plays yX5_plays, Cond.code yX5_plays cX5_plays 4 (some .boolean), Cond.fieldLink RX5 37 "FavourRingsModel" "runs" "Z", Cond.fieldLink RX5 150 "FavourRingsModel" "spot" "I", Cond.fieldLink RX5 191 "FavourRingsModel" "orders" "I", Cond.fieldLink RX5 147 "FavourRingsModel" "typed" "I", Cond.methodLink RX5 194 yX5_parses, Cond.instanceMethod yX5_parses]
def wsX5_fault_r2 : List Cond := [Cond.selects RX5 yX5_parses yX5_parses, Cond.code yX5_parses cX5_parses 4 (some .boolean), Cond.fieldLink RX5 22 "FavourRingsModel" "text" "[I", Cond.fieldLink RX5 156 "FavourRingsModel" "order" "I", Cond.methodLink RX5 153 yX5_isAt, Cond.instanceMethod yX5_isAt, Cond.selects RX5 yX5_isAt yX5_isAt, Cond.code yX5_isAt cX5_isAt 3 (some .boolean), Cond.methodLink RX5 159 yX5_numbersOf, Cond.static yX5_numbersOf, Cond.code yX5_numbersOf cX5_numbersOf 1 (some .int), Cond.methodLink RX5 162 yX5_numbered, Cond.instanceMethod yX5_numbered, Cond.selects RX5 yX5_numbered yX5_numbered, Cond.code yX5_numbered cX5_numbered 3 (some .boolean), Cond.fieldLink RX5 34 "FavourRingsModel" "numbers" "[I", Cond.methodLink RX5 165 yX5_sign, Cond.instanceMethod yX5_sign, Cond.selects RX5 yX5_sign yX5_sign, Cond.code yX5_sign cX5_sign 3 (some .boolean), Cond.methodLink RX5 198 yX5_does, Cond.instanceMethod yX5_does, Cond.selects RX5 yX5_does yX5_does, Cond.code yX5_does cX5_does 1 (some .int)]
def wsX5_fault_r3 : List Cond := [Cond.methodLink RX5 168 yX5_lend, Cond.instanceMethod yX5_lend, Cond.selects RX5 yX5_lend yX5_lend, Cond.code yX5_lend cX5_lend 6 (some .int), Cond.constant RX5 90 (-1000002), Cond.constant RX5 72 (-1000003), Cond.methodLink RX5 79 yX5_isPair, Cond.instanceMethod yX5_isPair, Cond.selects RX5 yX5_isPair yX5_isPair, Cond.code yX5_isPair cX5_isPair 3 (some .boolean), Cond.methodLink RX5 49 yX5_isPupil, Cond.instanceMethod yX5_isPupil, Cond.selects RX5 yX5_isPupil yX5_isPupil, Cond.code yX5_isPupil cX5_isPupil 2 (some .boolean), Cond.methodLink RX5 83 yX5_isKind, Cond.static yX5_isKind, Cond.code yX5_isKind cX5_isKind 1 (some .boolean), Cond.methodLink RX5 87 yX5_barred, Cond.instanceMethod yX5_barred, Cond.selects RX5 yX5_barred yX5_barred, Cond.code yX5_barred cX5_barred 3 (some .int), Cond.methodLink RX5 76 yX5_sumOf, Cond.instanceMethod yX5_sumOf, Cond.selects RX5 yX5_sumOf yX5_sumOf]
def wsX5_fault_r4 : List Cond := [Cond.code yX5_sumOf cX5_sumOf 5 (some .int), Cond.methodLink RX5 53 yX5_of, Cond.instanceMethod yX5_of, Cond.selects RX5 yX5_of yX5_of, Cond.code yX5_of cX5_of 3 (some .int), Cond.methodLink RX5 69 yX5_at, Cond.static yX5_at, Cond.code yX5_at cX5_at 2 (some .int), Cond.methodLink RX5 73 yX5_changes, Cond.instanceMethod yX5_changes, Cond.selects RX5 yX5_changes yX5_changes, Cond.code yX5_changes cX5_changes 2 none, Cond.fieldLink RX5 41 "FavourRingsModel" "pasts" "I", Cond.fieldLink RX5 13 "FavourRingsModel" "past" "[I", Cond.methodLink RX5 62 yX5_lay, Cond.instanceMethod yX5_lay, Cond.selects RX5 yX5_lay yX5_lay, Cond.code yX5_lay cX5_lay 4 none, Cond.methodLink RX5 91 yX5_shifts, Cond.instanceMethod yX5_shifts, Cond.selects RX5 yX5_shifts yX5_shifts, Cond.code yX5_shifts cX5_shifts 4 none, Cond.methodLink RX5 94 yX5_owed, Cond.instanceMethod yX5_owed]
def wsX5_fault_r5 : List Cond := [Cond.selects RX5 yX5_owed yX5_owed, Cond.code yX5_owed cX5_owed 6 (some .int), Cond.methodLink RX5 172 yX5_fulfil, Cond.instanceMethod yX5_fulfil, Cond.selects RX5 yX5_fulfil yX5_fulfil, Cond.code yX5_fulfil cX5_fulfil 5 (some .int), Cond.methodLink RX5 97 yX5_takes, Cond.instanceMethod yX5_takes, Cond.selects RX5 yX5_takes yX5_takes, Cond.code yX5_takes cX5_takes 8 none, Cond.methodLink RX5 58 yX5_oldest, Cond.instanceMethod yX5_oldest, Cond.selects RX5 yX5_oldest yX5_oldest, Cond.code yX5_oldest cX5_oldest 7 (some .int), Cond.methodLink RX5 66 yX5_dropsEmpty, Cond.instanceMethod yX5_dropsEmpty, Cond.selects RX5 yX5_dropsEmpty yX5_dropsEmpty, Cond.code yX5_dropsEmpty cX5_dropsEmpty 4 none, Cond.methodLink RX5 175 yX5_guarantee, Cond.instanceMethod yX5_guarantee, Cond.selects RX5 yX5_guarantee yX5_guarantee, Cond.code yX5_guarantee cX5_guarantee 4 (some .int), Cond.methodLink RX5 178 yX5_clear, Cond.instanceMethod yX5_clear]
def wsX5_fault_r6 : List Cond := [Cond.selects RX5 yX5_clear yX5_clear, Cond.code yX5_clear cX5_clear 2 (some .int), Cond.methodLink RX5 125 yX5_clears, Cond.instanceMethod yX5_clears, Cond.selects RX5 yX5_clears yX5_clears, Cond.code yX5_clears cX5_clears 6 (some .int), Cond.fieldLink RX5 31 "FavourRingsModel" "ring" "[I", Cond.methodLink RX5 119 yX5_rings, Cond.instanceMethod yX5_rings, Cond.selects RX5 yX5_rings yX5_rings, Cond.code yX5_rings cX5_rings 5 (some .int), Cond.fieldLink RX5 25 "FavourRingsModel" "to" "[I", Cond.fieldLink RX5 28 "FavourRingsModel" "ways" "[I", Cond.methodLink RX5 109 yX5_looks, Cond.instanceMethod yX5_looks, Cond.selects RX5 yX5_looks yX5_looks, Cond.code yX5_looks cX5_looks 3 none, Cond.methodLink RX5 113 yX5_isBack, Cond.instanceMethod yX5_isBack, Cond.selects RX5 yX5_isBack yX5_isBack, Cond.code yX5_isBack cX5_isBack 5 (some .boolean), Cond.methodLink RX5 116 yX5_lowest, Cond.static yX5_lowest, Cond.code yX5_lowest cX5_lowest 2 (some .int)]
def wsX5_fault_r7 : List Cond := [Cond.methodLink RX5 122 yX5_amountOf, Cond.instanceMethod yX5_amountOf, Cond.selects RX5 yX5_amountOf yX5_amountOf, Cond.code yX5_amountOf cX5_amountOf 6 (some .int), Cond.methodLink RX5 181 yX5_weeks, Cond.instanceMethod yX5_weeks, Cond.selects RX5 yX5_weeks yX5_weeks, Cond.code yX5_weeks cX5_weeks 4 (some .int), Cond.methodLink RX5 105 yX5_week, Cond.instanceMethod yX5_week, Cond.selects RX5 yX5_week yX5_week, Cond.code yX5_week cX5_week 3 (some .int), Cond.methodLink RX5 101 yX5_ends, Cond.instanceMethod yX5_ends, Cond.selects RX5 yX5_ends yX5_ends, Cond.code yX5_ends cX5_ends 5 (some .int), Cond.methodLink RX5 184 yX5_holiday, Cond.instanceMethod yX5_holiday, Cond.selects RX5 yX5_holiday yX5_holiday, Cond.code yX5_holiday cX5_holiday 3 (some .int)]
def wsX5_fault : List Cond := .code yX5_fault cX5_fault 3 (some .int) :: ((wsX5_fault_r1 ++ (wsX5_fault_r2 ++ (wsX5_fault_r3 ++ (wsX5_fault_r4 ++ (wsX5_fault_r5 ++ (wsX5_fault_r6 ++ wsX5_fault_r7)))))) ++ wsX50)
def wsX5_play_r1 : List Cond := [Cond.fieldLink RX5 7 "FavourRingsModel" "s" "[I", Cond.fieldLink RX5 16 "FavourRingsModel" "held" "[I", Cond.constant RX5 90 (-1000002), Cond.fieldLink RX5 191 "FavourRingsModel" "orders" "I", Cond.constant RX5 57 (-1000004), Cond.methodLink RX5 131 yX5_copies, Cond.static yX5_copies, Cond.initialized RX5, Cond.code yX5_copies cX5_copies 3 none, Cond.methodLink RX5 207 yX5_plays, Cond.instanceMethod yX5_plays, Cond.selects RX5 yX5_plays yX5_plays, Cond.code yX5_plays cX5_plays 4 (some .boolean), Cond.fieldLink RX5 37 "FavourRingsModel" "runs" "Z", Cond.fieldLink RX5 150 "FavourRingsModel" "spot" "I", Cond.fieldLink RX5 188 "FavourRingsModel" "from" "I", Cond.fieldLink RX5 147 "FavourRingsModel" "typed" "I", Cond.fieldLink RX5 201 "FavourRingsModel" "reason" "I", Cond.fieldLink RX5 204 "FavourRingsModel" "cause" "I", Cond.methodLink RX5 194 yX5_parses, Cond.instanceMethod yX5_parses, Cond.selects RX5 yX5_parses yX5_parses, Cond.code yX5_parses cX5_parses 4 (some .boolean), Cond.fieldLink RX5 22 "FavourRingsModel" "text" "[I"]
def wsX5_play_r2 : List Cond := [Cond.fieldLink RX5 156 "FavourRingsModel" "order" "I", Cond.methodLink RX5 153 yX5_isAt, Cond.instanceMethod yX5_isAt, Cond.selects RX5 yX5_isAt yX5_isAt, Cond.code yX5_isAt cX5_isAt 3 (some .boolean), Cond.methodLink RX5 45 yX5_in, Cond.static yX5_in, Cond.code yX5_in cX5_in 3 (some .boolean), Cond.methodLink RX5 159 yX5_numbersOf, Cond.static yX5_numbersOf, Cond.code yX5_numbersOf cX5_numbersOf 1 (some .int), Cond.methodLink RX5 162 yX5_numbered, Cond.instanceMethod yX5_numbered, Cond.selects RX5 yX5_numbered yX5_numbered, Cond.code yX5_numbered cX5_numbered 3 (some .boolean), Cond.fieldLink RX5 34 "FavourRingsModel" "numbers" "[I", Cond.methodLink RX5 165 yX5_sign, Cond.instanceMethod yX5_sign, Cond.selects RX5 yX5_sign yX5_sign, Cond.code yX5_sign cX5_sign 3 (some .boolean), Cond.methodLink RX5 198 yX5_does, Cond.instanceMethod yX5_does, Cond.selects RX5 yX5_does yX5_does, Cond.code yX5_does cX5_does 1 (some .int)]
def wsX5_play_r3 : List Cond := [Cond.methodLink RX5 168 yX5_lend, Cond.instanceMethod yX5_lend, Cond.selects RX5 yX5_lend yX5_lend, Cond.code yX5_lend cX5_lend 6 (some .int), Cond.constant RX5 86 (-1000001), Cond.constant RX5 72 (-1000003), Cond.methodLink RX5 79 yX5_isPair, Cond.instanceMethod yX5_isPair, Cond.selects RX5 yX5_isPair yX5_isPair, Cond.code yX5_isPair cX5_isPair 3 (some .boolean), Cond.methodLink RX5 49 yX5_isPupil, Cond.instanceMethod yX5_isPupil, Cond.selects RX5 yX5_isPupil yX5_isPupil, Cond.code yX5_isPupil cX5_isPupil 2 (some .boolean), Cond.methodLink RX5 83 yX5_isKind, Cond.static yX5_isKind, Cond.code yX5_isKind cX5_isKind 1 (some .boolean), Cond.methodLink RX5 87 yX5_barred, Cond.instanceMethod yX5_barred, Cond.selects RX5 yX5_barred yX5_barred, Cond.code yX5_barred cX5_barred 3 (some .int), Cond.methodLink RX5 76 yX5_sumOf, Cond.instanceMethod yX5_sumOf, Cond.selects RX5 yX5_sumOf yX5_sumOf]
def wsX5_play_r4 : List Cond := [Cond.code yX5_sumOf cX5_sumOf 5 (some .int), Cond.methodLink RX5 53 yX5_of, Cond.instanceMethod yX5_of, Cond.selects RX5 yX5_of yX5_of, Cond.code yX5_of cX5_of 3 (some .int), Cond.methodLink RX5 69 yX5_at, Cond.static yX5_at, Cond.code yX5_at cX5_at 2 (some .int), Cond.methodLink RX5 73 yX5_changes, Cond.instanceMethod yX5_changes, Cond.selects RX5 yX5_changes yX5_changes, Cond.code yX5_changes cX5_changes 2 none, Cond.fieldLink RX5 41 "FavourRingsModel" "pasts" "I", Cond.fieldLink RX5 13 "FavourRingsModel" "past" "[I", Cond.methodLink RX5 62 yX5_lay, Cond.instanceMethod yX5_lay, Cond.selects RX5 yX5_lay yX5_lay, Cond.code yX5_lay cX5_lay 4 none, Cond.methodLink RX5 91 yX5_shifts, Cond.instanceMethod yX5_shifts, Cond.selects RX5 yX5_shifts yX5_shifts, Cond.code yX5_shifts cX5_shifts 4 none, Cond.methodLink RX5 94 yX5_owed, Cond.instanceMethod yX5_owed]
def wsX5_play_r5 : List Cond := [Cond.selects RX5 yX5_owed yX5_owed, Cond.code yX5_owed cX5_owed 6 (some .int), Cond.methodLink RX5 172 yX5_fulfil, Cond.instanceMethod yX5_fulfil, Cond.selects RX5 yX5_fulfil yX5_fulfil, Cond.code yX5_fulfil cX5_fulfil 5 (some .int), Cond.methodLink RX5 97 yX5_takes, Cond.instanceMethod yX5_takes, Cond.selects RX5 yX5_takes yX5_takes, Cond.code yX5_takes cX5_takes 8 none, Cond.methodLink RX5 58 yX5_oldest, Cond.instanceMethod yX5_oldest, Cond.selects RX5 yX5_oldest yX5_oldest, Cond.code yX5_oldest cX5_oldest 7 (some .int), Cond.methodLink RX5 66 yX5_dropsEmpty, Cond.instanceMethod yX5_dropsEmpty, Cond.selects RX5 yX5_dropsEmpty yX5_dropsEmpty, Cond.code yX5_dropsEmpty cX5_dropsEmpty 4 none, Cond.methodLink RX5 175 yX5_guarantee, Cond.instanceMethod yX5_guarantee, Cond.selects RX5 yX5_guarantee yX5_guarantee, Cond.code yX5_guarantee cX5_guarantee 4 (some .int), Cond.methodLink RX5 178 yX5_clear, Cond.instanceMethod yX5_clear]
def wsX5_play_r6 : List Cond := [Cond.selects RX5 yX5_clear yX5_clear, Cond.code yX5_clear cX5_clear 2 (some .int), Cond.methodLink RX5 125 yX5_clears, Cond.instanceMethod yX5_clears, Cond.selects RX5 yX5_clears yX5_clears, Cond.code yX5_clears cX5_clears 6 (some .int), Cond.fieldLink RX5 31 "FavourRingsModel" "ring" "[I", Cond.methodLink RX5 119 yX5_rings, Cond.instanceMethod yX5_rings, Cond.selects RX5 yX5_rings yX5_rings, Cond.code yX5_rings cX5_rings 5 (some .int), Cond.fieldLink RX5 25 "FavourRingsModel" "to" "[I", Cond.fieldLink RX5 28 "FavourRingsModel" "ways" "[I", Cond.methodLink RX5 109 yX5_looks, Cond.instanceMethod yX5_looks, Cond.selects RX5 yX5_looks yX5_looks, Cond.code yX5_looks cX5_looks 3 none, Cond.methodLink RX5 113 yX5_isBack, Cond.instanceMethod yX5_isBack, Cond.selects RX5 yX5_isBack yX5_isBack, Cond.code yX5_isBack cX5_isBack 5 (some .boolean), Cond.methodLink RX5 116 yX5_lowest, Cond.static yX5_lowest, Cond.code yX5_lowest cX5_lowest 2 (some .int)]
def wsX5_play_r7 : List Cond := [Cond.methodLink RX5 122 yX5_amountOf, Cond.instanceMethod yX5_amountOf, Cond.selects RX5 yX5_amountOf yX5_amountOf, Cond.code yX5_amountOf cX5_amountOf 6 (some .int), Cond.methodLink RX5 181 yX5_weeks, Cond.instanceMethod yX5_weeks, Cond.selects RX5 yX5_weeks yX5_weeks, Cond.code yX5_weeks cX5_weeks 4 (some .int), Cond.methodLink RX5 105 yX5_week, Cond.instanceMethod yX5_week, Cond.selects RX5 yX5_week yX5_week, Cond.code yX5_week cX5_week 3 (some .int), Cond.methodLink RX5 101 yX5_ends, Cond.instanceMethod yX5_ends, Cond.selects RX5 yX5_ends yX5_ends, Cond.code yX5_ends cX5_ends 5 (some .int), Cond.methodLink RX5 184 yX5_holiday, Cond.instanceMethod yX5_holiday, Cond.selects RX5 yX5_holiday yX5_holiday, Cond.code yX5_holiday cX5_holiday 3 (some .int)]
def wsX5_play : List Cond := .code yX5_play cX5_play 2 (some .int) :: ((wsX5_play_r1 ++ (wsX5_play_r2 ++ (wsX5_play_r3 ++ (wsX5_play_r4 ++ (wsX5_play_r5 ++ (wsX5_play_r6 ++ wsX5_play_r7)))))) ++ wsX50)
def wsJ9_max_7cf53 : List Cond := .code yJ9_max_7cf53 cJ9_max_7cf53 2 (some .int) :: ([])
def wsJ9_min_7cf53 : List Cond := .code yJ9_min_7cf53 cJ9_min_7cf53 2 (some .int) :: ([])
def wsL_law_r1 : List Cond := [Cond.classLink RL 7 RX4, Cond.instantiable RX4 5, Cond.initialized RX4, Cond.classLink RL 10 RX5, Cond.instantiable RX5 18, Cond.initialized RX5, Cond.methodLink RL 9 yX4_init, Cond.instanceMethod yX4_init, Cond.code yX4_init cX4_init 1 none, Cond.methodLink RX4 1 objectInit, Cond.instanceMethod objectInit, Cond.code objectInit ⟨#[0xb1]⟩ 1 none, Cond.classLink RX4 7 RX0, Cond.instantiable RX0 13, Cond.initialized RX0, Cond.fieldLink RX4 10 "FavourRings" "bank" "LFavourRings$Bank;", Cond.fieldLink RX4 16 "FavourRings" "trial" "LFavourRings$Bank;", Cond.classLink RX4 19 RX1, Cond.instantiable RX1 2, Cond.initialized RX1, Cond.fieldLink RX4 22 "FavourRings" "history" "LFavourRings$History;", Cond.classLink RX4 26 RX3, Cond.instantiable RX3 5, Cond.initialized RX3]
def wsL_law_r2 : List Cond := [Cond.fieldLink RX4 29 "FavourRings" "rings" "LFavourRings$Rings;", Cond.classLink RX4 33 RX2, Cond.instantiable RX2 8, Cond.initialized RX2, Cond.fieldLink RX4 36 "FavourRings" "orders" "LFavourRings$Orders;", Cond.methodLink RX4 9 yX0_init, Cond.instanceMethod yX0_init, Cond.code yX0_init cX0_init 2 none, Cond.methodLink RX0 3 objectInit, Cond.arrayClass .int, Cond.fieldLink RX0 9 "FavourRings$Bank" "numbers" "[I", Cond.fieldLink RX0 15 "FavourRings$Bank" "came" "[I", Cond.fieldLink RX0 18 "FavourRings$Bank" "done" "[I", Cond.fieldLink RX0 21 "FavourRings$Bank" "spoiled" "[I", Cond.fieldLink RX0 24 "FavourRings$Bank" "guarantors" "[I", Cond.fieldLink RX0 27 "FavourRings$Bank" "takenOver" "[I", Cond.fieldLink RX0 30 "FavourRings$Bank" "cleared" "[I", Cond.fieldLink RX0 33 "FavourRings$Bank" "debtors" "[I", Cond.fieldLink RX0 36 "FavourRings$Bank" "creditors" "[I", Cond.fieldLink RX0 39 "FavourRings$Bank" "kinds" "[I", Cond.fieldLink RX0 42 "FavourRings$Bank" "sizes" "[I", Cond.fieldLink RX0 45 "FavourRings$Bank" "ages" "[I", Cond.fieldLink RX0 48 "FavourRings$Bank" "passed" "[I", Cond.static yX4_firstOfSetting]
def wsL_law_r3 : List Cond := [Cond.code yX4_firstOfSetting cX4_firstOfSetting 1 (some .int), Cond.static yX4_put, Cond.code yX4_put cX4_put 3 none, Cond.methodLink RX4 21 yX1_init, Cond.instanceMethod yX1_init, Cond.code yX1_init cX1_init 2 none, Cond.methodLink RX1 3 objectInit, Cond.classLink RX1 9 RX0, Cond.fieldLink RX1 11 "FavourRings$History" "states" "[LFavourRings$Bank;", Cond.methodLink RX1 17 yX0_init, Cond.methodLink RX4 28 yX3_init, Cond.instanceMethod yX3_init, Cond.code yX3_init cX3_init 1 none, Cond.methodLink RX3 3 objectInit, Cond.fieldLink RX3 9 "FavourRings$Rings" "owed" "[I", Cond.fieldLink RX3 15 "FavourRings$Rings" "steps" "[I", Cond.fieldLink RX3 18 "FavourRings$Rings" "queue" "[I", Cond.fieldLink RX3 21 "FavourRings$Rings" "members" "[I", Cond.methodLink RX4 35 yX2_init, Cond.instanceMethod yX2_init, Cond.code yX2_init cX2_init 1 none, Cond.methodLink RX2 3 objectInit, Cond.fieldLink RX2 9 "FavourRings$Orders" "text" "[I", Cond.fieldLink RX2 15 "FavourRings$Orders" "numbers" "[I"]
def wsL_law_r4 : List Cond := [Cond.methodLink RL 12 yX5_init, Cond.instanceMethod yX5_init, Cond.code yX5_init cX5_init 1 none, Cond.methodLink RX5 1 objectInit, Cond.fieldLink RX5 7 "FavourRingsModel" "s" "[I", Cond.fieldLink RX5 13 "FavourRingsModel" "past" "[I", Cond.fieldLink RX5 16 "FavourRingsModel" "held" "[I", Cond.fieldLink RX5 19 "FavourRingsModel" "spare" "[I", Cond.fieldLink RX5 22 "FavourRingsModel" "text" "[I", Cond.fieldLink RX5 25 "FavourRingsModel" "to" "[I", Cond.fieldLink RX5 28 "FavourRingsModel" "ways" "[I", Cond.fieldLink RX5 31 "FavourRingsModel" "ring" "[I", Cond.fieldLink RX5 34 "FavourRingsModel" "numbers" "[I", Cond.methodLink RL 13 yX4_pupil, Cond.instanceMethod yX4_pupil, Cond.selects RX4 yX4_pupil yX4_pupil, Cond.code yX4_pupil cX4_pupil 1 (some .int), Cond.methodLink RX4 40 yX4_freshTrial, Cond.instanceMethod yX4_freshTrial, Cond.selects RX4 yX4_freshTrial yX4_freshTrial, Cond.code yX4_freshTrial cX4_freshTrial 1 (some (.object "FavourRings$Bank")), Cond.methodLink RX4 175 yX0_copyFrom, Cond.instanceMethod yX0_copyFrom, Cond.selects RX0 yX0_copyFrom yX0_copyFrom]
def wsL_law_r5 : List Cond := [Cond.code yX0_copyFrom cX0_copyFrom 2 none, Cond.static yX4_copyRow, Cond.code yX4_copyRow cX4_copyRow 2 none, Cond.methodLink RX4 182 Lib.Math.min.name, Cond.static Lib.Math.min.name, Cond.initialized "java/lang/Math", Cond.code Lib.Math.min.name Lib.Math.min.code 2 (some .int), Cond.methodLink RX4 187 arraycopyName, Cond.native arraycopyName, Cond.static arraycopyName, Cond.initialized "java/lang/System", Cond.methodLink RX4 44 yX0_addPupil, Cond.instanceMethod yX0_addPupil, Cond.selects RX0 yX0_addPupil yX0_addPupil, Cond.code yX0_addPupil cX0_addPupil 1 (some .int), Cond.constant RX0 85 (-1000003), Cond.methodLink RX0 63 yX0_number, Cond.instanceMethod yX0_number, Cond.selects RX0 yX0_number yX0_number, Cond.code yX0_number cX0_number 2 (some .int), Cond.static yX4_add, Cond.code yX4_add cX4_add 3 none, Cond.methodLink RX4 48 yX4_settled, Cond.instanceMethod yX4_settled]
def wsL_law_r6 : List Cond := [Cond.selects RX4 yX4_settled yX4_settled, Cond.code yX4_settled cX4_settled 2 (some .int), Cond.methodLink RX4 179 yX1_keep, Cond.instanceMethod yX1_keep, Cond.selects RX1 yX1_keep yX1_keep, Cond.code yX1_keep cX1_keep 2 none, Cond.fieldLink RX1 18 "FavourRings$History" "size" "I", Cond.methodLink RX1 22 yX1_dropOldest, Cond.instanceMethod yX1_dropOldest, Cond.selects RX1 yX1_dropOldest yX1_dropOldest, Cond.code yX1_dropOldest cX1_dropOldest 2 none, Cond.methodLink RX1 25 yX0_copyFrom, Cond.methodLink RL 17 yX5_pupil, Cond.instanceMethod yX5_pupil, Cond.selects RX5 yX5_pupil yX5_pupil, Cond.code yX5_pupil cX5_pupil 1 (some .int), Cond.constant RX5 72 (-1000003), Cond.methodLink RX5 73 yX5_changes, Cond.instanceMethod yX5_changes, Cond.selects RX5 yX5_changes yX5_changes, Cond.code yX5_changes cX5_changes 2 none, Cond.fieldLink RX5 37 "FavourRingsModel" "runs" "Z", Cond.fieldLink RX5 41 "FavourRingsModel" "pasts" "I", Cond.methodLink RL 18 yX4_lend]
def wsL_law_r7 : List Cond := [Cond.instanceMethod yX4_lend, Cond.selects RX4 yX4_lend yX4_lend, Cond.code yX4_lend cX4_lend 5 (some .int), Cond.methodLink RX4 52 yX0_lendFavours, Cond.instanceMethod yX0_lendFavours, Cond.selects RX0 yX0_lendFavours yX0_lendFavours, Cond.code yX0_lendFavours cX0_lendFavours 5 (some .int), Cond.constant RX0 93 (-1000001), Cond.constant RX0 125 (-1000002), Cond.methodLink RX0 89 yX0_isPair, Cond.instanceMethod yX0_isPair, Cond.selects RX0 yX0_isPair yX0_isPair, Cond.code yX0_isPair cX0_isPair 3 (some .boolean), Cond.methodLink RX0 66 yX0_isPupil, Cond.instanceMethod yX0_isPupil, Cond.selects RX0 yX0_isPupil yX0_isPupil, Cond.code yX0_isPupil cX0_isPupil 2 (some .boolean), Cond.static yX4_isKind, Cond.code yX4_isKind cX4_isKind 1 (some .boolean), Cond.static yX4_isMany, Cond.code yX4_isMany cX4_isMany 1 (some .boolean), Cond.methodLink RX0 122 yX0_reasonAgainst, Cond.instanceMethod yX0_reasonAgainst, Cond.selects RX0 yX0_reasonAgainst yX0_reasonAgainst]
def wsL_law_r8 : List Cond := [Cond.code yX0_reasonAgainst cX0_reasonAgainst 4 (some .int), Cond.methodLink RX0 70 yX0_sumOwed, Cond.instanceMethod yX0_sumOwed, Cond.selects RX0 yX0_sumOwed yX0_sumOwed, Cond.code yX0_sumOwed cX0_sumOwed 6 (some .int), Cond.methodLink RX0 94 yX0_isLotOf, Cond.instanceMethod yX0_isLotOf, Cond.selects RX0 yX0_isLotOf yX0_isLotOf, Cond.code yX0_isLotOf cX0_isLotOf 5 (some .boolean), Cond.static yX4_at, Cond.code yX4_at cX4_at 2 (some .int), Cond.methodLink RX0 81 yX0_guarantorOf, Cond.instanceMethod yX0_guarantorOf, Cond.selects RX0 yX0_guarantorOf yX0_guarantorOf, Cond.code yX0_guarantorOf cX0_guarantorOf 2 (some .int), Cond.methodLink RX0 126 yX0_addLot, Cond.instanceMethod yX0_addLot, Cond.selects RX0 yX0_addLot yX0_addLot, Cond.code yX0_addLot cX0_addLot 6 none, Cond.methodLink RL 22 yX5_lend, Cond.instanceMethod yX5_lend, Cond.selects RX5 yX5_lend yX5_lend, Cond.code yX5_lend cX5_lend 6 (some .int), Cond.constant RX5 86 (-1000001)]
def wsL_law_r9 : List Cond := [Cond.constant RX5 90 (-1000002), Cond.methodLink RX5 79 yX5_isPair, Cond.instanceMethod yX5_isPair, Cond.selects RX5 yX5_isPair yX5_isPair, Cond.code yX5_isPair cX5_isPair 3 (some .boolean), Cond.methodLink RX5 49 yX5_isPupil, Cond.instanceMethod yX5_isPupil, Cond.selects RX5 yX5_isPupil yX5_isPupil, Cond.code yX5_isPupil cX5_isPupil 2 (some .boolean), Cond.methodLink RX5 45 yX5_in, Cond.static yX5_in, Cond.code yX5_in cX5_in 3 (some .boolean), Cond.methodLink RX5 83 yX5_isKind, Cond.static yX5_isKind, Cond.code yX5_isKind cX5_isKind 1 (some .boolean), Cond.methodLink RX5 87 yX5_barred, Cond.instanceMethod yX5_barred, Cond.selects RX5 yX5_barred yX5_barred, Cond.code yX5_barred cX5_barred 3 (some .int), Cond.methodLink RX5 76 yX5_sumOf, Cond.instanceMethod yX5_sumOf, Cond.selects RX5 yX5_sumOf yX5_sumOf, Cond.code yX5_sumOf cX5_sumOf 5 (some .int), Cond.methodLink RX5 53 yX5_of]
def wsL_law_r10 : List Cond := [Cond.instanceMethod yX5_of, Cond.selects RX5 yX5_of yX5_of, Cond.code yX5_of cX5_of 3 (some .int), Cond.methodLink RX5 69 yX5_at, Cond.static yX5_at, Cond.code yX5_at cX5_at 2 (some .int), Cond.methodLink RX5 62 yX5_lay, Cond.instanceMethod yX5_lay, Cond.selects RX5 yX5_lay yX5_lay, Cond.code yX5_lay cX5_lay 4 none, Cond.methodLink RX5 91 yX5_shifts, Cond.instanceMethod yX5_shifts, Cond.selects RX5 yX5_shifts yX5_shifts, Cond.code yX5_shifts cX5_shifts 4 none, Cond.methodLink RX5 94 yX5_owed, Cond.instanceMethod yX5_owed, Cond.selects RX5 yX5_owed yX5_owed, Cond.code yX5_owed cX5_owed 6 (some .int), Cond.methodLink RL 23 yX4_fulfil, Cond.instanceMethod yX4_fulfil, Cond.selects RX4 yX4_fulfil yX4_fulfil, Cond.code yX4_fulfil cX4_fulfil 5 (some .int), Cond.methodLink RX4 56 yX0_fulfilFavours, Cond.instanceMethod yX0_fulfilFavours]
def wsL_law_r11 : List Cond := [Cond.selects RX0 yX0_fulfilFavours yX0_fulfilFavours, Cond.code yX0_fulfilFavours cX0_fulfilFavours 5 (some .int), Cond.methodLink RX0 130 yX0_takeFavours, Cond.instanceMethod yX0_takeFavours, Cond.selects RX0 yX0_takeFavours yX0_takeFavours, Cond.code yX0_takeFavours cX0_takeFavours 9 none, Cond.methodLink RX0 107 Lib.Math.min.name, Cond.methodLink RX0 110 yX0_firstToTake, Cond.instanceMethod yX0_firstToTake, Cond.selects RX0 yX0_firstToTake yX0_firstToTake, Cond.code yX0_firstToTake cX0_firstToTake 6 (some .int), Cond.methodLink RX0 113 yX0_dropEmptyLots, Cond.instanceMethod yX0_dropEmptyLots, Cond.selects RX0 yX0_dropEmptyLots yX0_dropEmptyLots, Cond.code yX0_dropEmptyLots cX0_dropEmptyLots 3 none, Cond.methodLink RL 26 yX5_fulfil, Cond.instanceMethod yX5_fulfil, Cond.selects RX5 yX5_fulfil yX5_fulfil, Cond.code yX5_fulfil cX5_fulfil 5 (some .int), Cond.methodLink RX5 97 yX5_takes, Cond.instanceMethod yX5_takes, Cond.selects RX5 yX5_takes yX5_takes, Cond.code yX5_takes cX5_takes 8 none, Cond.methodLink RX5 58 yX5_oldest]
def wsL_law_r12 : List Cond := [Cond.instanceMethod yX5_oldest, Cond.selects RX5 yX5_oldest yX5_oldest, Cond.code yX5_oldest cX5_oldest 7 (some .int), Cond.constant RX5 57 (-1000004), Cond.methodLink RX5 66 yX5_dropsEmpty, Cond.instanceMethod yX5_dropsEmpty, Cond.selects RX5 yX5_dropsEmpty yX5_dropsEmpty, Cond.code yX5_dropsEmpty cX5_dropsEmpty 4 none, Cond.methodLink RL 27 yX4_guarantee, Cond.instanceMethod yX4_guarantee, Cond.selects RX4 yX4_guarantee yX4_guarantee, Cond.code yX4_guarantee cX4_guarantee 3 (some .int), Cond.methodLink RX4 59 yX0_giveGuarantor, Cond.instanceMethod yX0_giveGuarantor, Cond.selects RX0 yX0_giveGuarantor yX0_giveGuarantor, Cond.code yX0_giveGuarantor cX0_giveGuarantor 4 (some .int), Cond.methodLink RL 31 yX5_guarantee, Cond.instanceMethod yX5_guarantee, Cond.selects RX5 yX5_guarantee yX5_guarantee, Cond.code yX5_guarantee cX5_guarantee 4 (some .int), Cond.methodLink RL 32 yX4_weeks, Cond.instanceMethod yX4_weeks, Cond.selects RX4 yX4_weeks yX4_weeks, Cond.code yX4_weeks cX4_weeks 2 (some .int)]
def wsL_law_r13 : List Cond := [Cond.methodLink RX4 63 yX0_endWeeks, Cond.instanceMethod yX0_endWeeks, Cond.selects RX0 yX0_endWeeks yX0_endWeeks, Cond.code yX0_endWeeks cX0_endWeeks 4 (some .int), Cond.methodLink RX0 133 yX0_endWeek, Cond.instanceMethod yX0_endWeek, Cond.selects RX0 yX0_endWeek yX0_endWeek, Cond.code yX0_endWeek cX0_endWeek 2 none, Cond.methodLink RX0 136 yX0_hasHolidays, Cond.instanceMethod yX0_hasHolidays, Cond.selects RX0 yX0_hasHolidays yX0_hasHolidays, Cond.code yX0_hasHolidays cX0_hasHolidays 1 (some .boolean), Cond.methodLink RX0 98 yX0_weeksLeft, Cond.instanceMethod yX0_weeksLeft, Cond.selects RX0 yX0_weeksLeft yX0_weeksLeft, Cond.code yX0_weeksLeft cX0_weeksLeft 2 (some .int), Cond.methodLink RX0 140 yX0_passToGuarantor, Cond.instanceMethod yX0_passToGuarantor, Cond.selects RX0 yX0_passToGuarantor yX0_passToGuarantor, Cond.code yX0_passToGuarantor cX0_passToGuarantor 5 (some .boolean), Cond.methodLink RX0 143 yX0_spoilLot, Cond.instanceMethod yX0_spoilLot, Cond.selects RX0 yX0_spoilLot yX0_spoilLot, Cond.code yX0_spoilLot cX0_spoilLot 4 none]
def wsL_law_r14 : List Cond := [Cond.methodLink RL 36 yX5_weeks, Cond.instanceMethod yX5_weeks, Cond.selects RX5 yX5_weeks yX5_weeks, Cond.code yX5_weeks cX5_weeks 4 (some .int), Cond.methodLink RX5 105 yX5_week, Cond.instanceMethod yX5_week, Cond.selects RX5 yX5_week yX5_week, Cond.code yX5_week cX5_week 3 (some .int), Cond.methodLink RX5 101 yX5_ends, Cond.instanceMethod yX5_ends, Cond.selects RX5 yX5_ends yX5_ends, Cond.code yX5_ends cX5_ends 5 (some .int), Cond.methodLink RL 37 yX4_holiday, Cond.instanceMethod yX4_holiday, Cond.selects RX4 yX4_holiday yX4_holiday, Cond.code yX4_holiday cX4_holiday 2 (some .int), Cond.methodLink RX4 66 yX0_turnHolidays, Cond.instanceMethod yX0_turnHolidays, Cond.selects RX0 yX0_turnHolidays yX0_turnHolidays, Cond.code yX0_turnHolidays cX0_turnHolidays 3 (some .int), Cond.methodLink RL 41 yX5_holiday, Cond.instanceMethod yX5_holiday, Cond.selects RX5 yX5_holiday yX5_holiday, Cond.code yX5_holiday cX5_holiday 3 (some .int)]
def wsL_law_r15 : List Cond := [Cond.methodLink RL 42 yX4_clear, Cond.instanceMethod yX4_clear, Cond.selects RX4 yX4_clear yX4_clear, Cond.code yX4_clear cX4_clear 2 (some .int), Cond.methodLink RX4 70 yX3_clearKind, Cond.instanceMethod yX3_clearKind, Cond.selects RX3 yX3_clearKind yX3_clearKind, Cond.code yX3_clearKind cX3_clearKind 7 (some .int), Cond.constant RX3 60 (-1000001), Cond.fieldLink RX3 24 "FavourRings$Rings" "length" "I", Cond.methodLink RX3 61 yX3_findNext, Cond.instanceMethod yX3_findNext, Cond.selects RX3 yX3_findNext yX3_findNext, Cond.code yX3_findNext cX3_findNext 6 (some .boolean), Cond.methodLink RX3 48 yX3_readOwed, Cond.instanceMethod yX3_readOwed, Cond.selects RX3 yX3_readOwed yX3_readOwed, Cond.code yX3_readOwed cX3_readOwed 5 none, Cond.methodLink RX3 91 yX0_number, Cond.methodLink RX3 94 yX0_isLotOf, Cond.methodLink RX3 52 yX3_measureSteps, Cond.instanceMethod yX3_measureSteps, Cond.selects RX3 yX3_measureSteps yX3_measureSteps, Cond.code yX3_measureSteps cX3_measureSteps 7 none]
def wsL_law_r16 : List Cond := [Cond.methodLink RX3 39 yX3_owedBetween, Cond.instanceMethod yX3_owedBetween, Cond.selects RX3 yX3_owedBetween yX3_owedBetween, Cond.code yX3_owedBetween cX3_owedBetween 4 (some .int), Cond.methodLink RX3 81 yX3_shortestFrom, Cond.instanceMethod yX3_shortestFrom, Cond.selects RX3 yX3_shortestFrom yX3_shortestFrom, Cond.code yX3_shortestFrom cX3_shortestFrom 6 (some .int), Cond.methodLink RX3 32 yX3_nextPupil, Cond.instanceMethod yX3_nextPupil, Cond.selects RX3 yX3_nextPupil yX3_nextPupil, Cond.code yX3_nextPupil cX3_nextPupil 2 (some .int), Cond.methodLink RX3 88 yX3_lowestBehind, Cond.instanceMethod yX3_lowestBehind, Cond.selects RX3 yX3_lowestBehind yX3_lowestBehind, Cond.code yX3_lowestBehind cX3_lowestBehind 4 (some .int), Cond.methodLink RX3 65 yX3_nextAmount, Cond.instanceMethod yX3_nextAmount, Cond.selects RX3 yX3_nextAmount yX3_nextAmount, Cond.code yX3_nextAmount cX3_nextAmount 4 (some .int), Cond.methodLink RX3 43 Lib.Math.min.name, Cond.methodLink RX3 36 yX3_pupilBehind, Cond.instanceMethod yX3_pupilBehind, Cond.selects RX3 yX3_pupilBehind yX3_pupilBehind]
def wsL_law_r17 : List Cond := [Cond.code yX3_pupilBehind cX3_pupilBehind 2 (some .int), Cond.methodLink RX3 69 yX0_takeFavours, Cond.methodLink RX3 75 yX0_countCleared, Cond.instanceMethod yX0_countCleared, Cond.selects RX0 yX0_countCleared yX0_countCleared, Cond.code yX0_countCleared cX0_countCleared 3 none, Cond.methodLink RX3 78 yX0_countRing, Cond.instanceMethod yX0_countRing, Cond.selects RX0 yX0_countRing yX0_countRing, Cond.code yX0_countRing cX0_countRing 1 none, Cond.methodLink RL 45 yX5_clear, Cond.instanceMethod yX5_clear, Cond.selects RX5 yX5_clear yX5_clear, Cond.code yX5_clear cX5_clear 2 (some .int), Cond.methodLink RX5 125 yX5_clears, Cond.instanceMethod yX5_clears, Cond.selects RX5 yX5_clears yX5_clears, Cond.code yX5_clears cX5_clears 6 (some .int), Cond.methodLink RX5 119 yX5_rings, Cond.instanceMethod yX5_rings, Cond.selects RX5 yX5_rings yX5_rings, Cond.code yX5_rings cX5_rings 5 (some .int), Cond.methodLink RX5 109 yX5_looks, Cond.instanceMethod yX5_looks]
def wsL_law_r18 : List Cond := [Cond.selects RX5 yX5_looks yX5_looks, Cond.code yX5_looks cX5_looks 3 none, Cond.methodLink RX5 113 yX5_isBack, Cond.instanceMethod yX5_isBack, Cond.selects RX5 yX5_isBack yX5_isBack, Cond.code yX5_isBack cX5_isBack 5 (some .boolean), Cond.methodLink RX5 116 yX5_lowest, Cond.static yX5_lowest, Cond.code yX5_lowest cX5_lowest 2 (some .int), Cond.methodLink RX5 122 yX5_amountOf, Cond.instanceMethod yX5_amountOf, Cond.selects RX5 yX5_amountOf yX5_amountOf, Cond.code yX5_amountOf cX5_amountOf 6 (some .int), Cond.methodLink RL 46 yX4_set, Cond.instanceMethod yX4_set, Cond.selects RX4 yX4_set yX4_set, Cond.code yX4_set cX4_set 3 (some .int), Cond.methodLink RX4 74 yX0_changeSetting, Cond.instanceMethod yX0_changeSetting, Cond.selects RX0 yX0_changeSetting yX0_changeSetting, Cond.code yX0_changeSetting cX0_changeSetting 4 (some .int), Cond.static yX4_mostOfSetting, Cond.code yX4_mostOfSetting cX4_mostOfSetting 1 (some .int), Cond.methodLink RL 49 yX5_set]
def wsL_law_r19 : List Cond := [Cond.instanceMethod yX5_set, Cond.selects RX5 yX5_set yX5_set, Cond.code yX5_set cX5_set 4 (some .int), Cond.methodLink RL 50 yX4_pupilOf, Cond.instanceMethod yX4_pupilOf, Cond.selects RX4 yX4_pupilOf yX4_pupilOf, Cond.code yX4_pupilOf cX4_pupilOf 3 (some .int), Cond.constant RX4 81 (-1000001), Cond.methodLink RX4 77 yX0_isPupil, Cond.methodLink RX4 82 yX0_tellOfPupil, Cond.instanceMethod yX0_tellOfPupil, Cond.selects RX0 yX0_tellOfPupil yX0_tellOfPupil, Cond.code yX0_tellOfPupil cX0_tellOfPupil 3 (some .int), Cond.constant RX0 84 (-1000004), Cond.methodLink RX0 74 yX0_balanceByLots, Cond.instanceMethod yX0_balanceByLots, Cond.selects RX0 yX0_balanceByLots yX0_balanceByLots, Cond.code yX0_balanceByLots cX0_balanceByLots 2 (some .int), Cond.methodLink RL 53 yX5_pupilOf, Cond.instanceMethod yX5_pupilOf, Cond.selects RX5 yX5_pupilOf yX5_pupilOf, Cond.code yX5_pupilOf cX5_pupilOf 3 (some .int), Cond.methodLink RX5 128 yX5_balance, Cond.instanceMethod yX5_balance]
def wsL_law_r20 : List Cond := [Cond.selects RX5 yX5_balance yX5_balance, Cond.code yX5_balance cX5_balance 2 (some .int), Cond.methodLink RL 54 yX4_owes, Cond.instanceMethod yX4_owes, Cond.selects RX4 yX4_owes yX4_owes, Cond.code yX4_owes cX4_owes 4 (some .int), Cond.methodLink RX4 85 yX4_isKind, Cond.methodLink RX4 88 yX0_sumOwed, Cond.methodLink RL 58 yX5_owes, Cond.instanceMethod yX5_owes, Cond.selects RX5 yX5_owes yX5_owes, Cond.code yX5_owes cX5_owes 4 (some .int), Cond.methodLink RL 59 yX4_lot, Cond.instanceMethod yX4_lot, Cond.selects RX4 yX4_lot yX4_lot, Cond.code yX4_lot cX4_lot 3 (some .int), Cond.constant RX4 98 (-1000004), Cond.methodLink RX4 92 yX0_number, Cond.methodLink RX4 95 yX0_tellOfLot, Cond.instanceMethod yX0_tellOfLot, Cond.selects RX0 yX0_tellOfLot yX0_tellOfLot, Cond.code yX0_tellOfLot cX0_tellOfLot 3 (some .int), Cond.methodLink RL 62 yX5_lot, Cond.instanceMethod yX5_lot]
def wsL_law_r21 : List Cond := [Cond.selects RX5 yX5_lot yX5_lot, Cond.code yX5_lot cX5_lot 3 (some .int), Cond.methodLink RL 63 yX4_why, Cond.instanceMethod yX4_why, Cond.selects RX4 yX4_why yX4_why, Cond.code yX4_why cX4_why 3 (some .int), Cond.methodLink RX4 99 yX4_isMany, Cond.methodLink RX4 102 yX0_reasonAgainst, Cond.methodLink RL 66 yX5_why, Cond.instanceMethod yX5_why, Cond.selects RX5 yX5_why yX5_why, Cond.code yX5_why cX5_why 3 (some .int), Cond.methodLink RL 67 yX4_ring, Cond.instanceMethod yX4_ring, Cond.selects RX4 yX4_ring yX4_ring, Cond.code yX4_ring cX4_ring 3 (some .int), Cond.methodLink RX4 105 yX3_findNext, Cond.methodLink RX4 109 yX3_nextLength, Cond.instanceMethod yX3_nextLength, Cond.selects RX3 yX3_nextLength yX3_nextLength, Cond.code yX3_nextLength cX3_nextLength 1 (some .int), Cond.methodLink RX4 112 yX3_nextPupil, Cond.methodLink RL 70 yX5_ring, Cond.instanceMethod yX5_ring]
def wsL_law_r22 : List Cond := [Cond.selects RX5 yX5_ring yX5_ring, Cond.code yX5_ring cX5_ring 3 (some .int), Cond.methodLink RL 71 yX4_amount, Cond.instanceMethod yX4_amount, Cond.selects RX4 yX4_amount yX4_amount, Cond.code yX4_amount cX4_amount 2 (some .int), Cond.methodLink RX4 115 yX3_nextAmount, Cond.methodLink RL 74 yX5_amount, Cond.instanceMethod yX5_amount, Cond.selects RX5 yX5_amount yX5_amount, Cond.code yX5_amount cX5_amount 3 (some .int), Cond.methodLink RL 75 yX4_ifCleared, Cond.instanceMethod yX4_ifCleared, Cond.selects RX4 yX4_ifCleared yX4_ifCleared, Cond.code yX4_ifCleared cX4_ifCleared 4 (some .int), Cond.methodLink RL 78 yX5_ifCleared, Cond.instanceMethod yX5_ifCleared, Cond.selects RX5 yX5_ifCleared yX5_ifCleared, Cond.code yX5_ifCleared cX5_ifCleared 5 (some .int), Cond.methodLink RX5 131 yX5_copies, Cond.static yX5_copies, Cond.code yX5_copies cX5_copies 3 none, Cond.methodLink RL 79 yX4_chain, Cond.instanceMethod yX4_chain]
def wsL_law_r23 : List Cond := [Cond.selects RX4 yX4_chain yX4_chain, Cond.code yX4_chain cX4_chain 5 (some .int), Cond.methodLink RX4 118 yX0_isPair, Cond.methodLink RX4 122 yX3_stepsBetween, Cond.instanceMethod yX3_stepsBetween, Cond.selects RX3 yX3_stepsBetween yX3_stepsBetween, Cond.code yX3_stepsBetween cX3_stepsBetween 5 (some .int), Cond.methodLink RL 82 yX5_chain, Cond.instanceMethod yX5_chain, Cond.selects RX5 yX5_chain yX5_chain, Cond.code yX5_chain cX5_chain 8 (some .int), Cond.methodLink RL 83 yX4_deepest, Cond.instanceMethod yX4_deepest, Cond.selects RX4 yX4_deepest yX4_deepest, Cond.code yX4_deepest cX4_deepest 6 (some .int), Cond.methodLink RL 86 yX5_deepest, Cond.instanceMethod yX5_deepest, Cond.selects RX5 yX5_deepest yX5_deepest, Cond.code yX5_deepest cX5_deepest 7 (some .int), Cond.methodLink RL 87 yX4_spoilsIn, Cond.instanceMethod yX4_spoilsIn, Cond.selects RX4 yX4_spoilsIn yX4_spoilsIn, Cond.code yX4_spoilsIn cX4_spoilsIn 3 (some .int), Cond.methodLink RX4 126 yX0_weeksUntilNextSpoils]
def wsL_law_r24 : List Cond := [Cond.instanceMethod yX0_weeksUntilNextSpoils, Cond.selects RX0 yX0_weeksUntilNextSpoils yX0_weeksUntilNextSpoils, Cond.code yX0_weeksUntilNextSpoils cX0_weeksUntilNextSpoils 5 (some .int), Cond.methodLink RX0 101 Lib.Math.max.name, Cond.static Lib.Math.max.name, Cond.code Lib.Math.max.name Lib.Math.max.code 2 (some .int), Cond.methodLink RL 90 yX5_spoilsIn, Cond.instanceMethod yX5_spoilsIn, Cond.selects RX5 yX5_spoilsIn yX5_spoilsIn, Cond.code yX5_spoilsIn cX5_spoilsIn 5 (some .int), Cond.methodLink RL 91 yX4_richest, Cond.instanceMethod yX4_richest, Cond.selects RX4 yX4_richest yX4_richest, Cond.code yX4_richest cX4_richest 3 (some .int), Cond.methodLink RX4 129 yX0_rankOf, Cond.instanceMethod yX0_rankOf, Cond.selects RX0 yX0_rankOf yX0_rankOf, Cond.code yX0_rankOf cX0_rankOf 6 (some .int), Cond.methodLink RL 94 yX5_richest, Cond.instanceMethod yX5_richest, Cond.selects RX5 yX5_richest yX5_richest, Cond.code yX5_richest cX5_richest 6 (some .int), Cond.methodLink RL 95 yX4_mean, Cond.instanceMethod yX4_mean]
def wsL_law_r25 : List Cond := [Cond.selects RX4 yX4_mean yX4_mean, Cond.code yX4_mean cX4_mean 2 (some .int), Cond.methodLink RX4 132 yX0_sumOfAges, Cond.instanceMethod yX0_sumOfAges, Cond.selects RX0 yX0_sumOfAges yX0_sumOfAges, Cond.code yX0_sumOfAges cX0_sumOfAges 3 (some .int), Cond.methodLink RX4 135 yX4_bitsOf, Cond.static yX4_bitsOf, Cond.code yX4_bitsOf cX4_bitsOf 4 (some .int), Cond.constantFloat RX4 193 (1258291200), Cond.methodLink RL 98 yX5_mean, Cond.instanceMethod yX5_mean, Cond.selects RX5 yX5_mean yX5_mean, Cond.code yX5_mean cX5_mean 4 (some .int), Cond.methodLink RX5 135 yX5_owedInAll, Cond.instanceMethod yX5_owedInAll, Cond.selects RX5 yX5_owedInAll yX5_owedInAll, Cond.code yX5_owedInAll cX5_owedInAll 3 (some .int), Cond.methodLink RX5 138 yJxf58ca_floatToIntBits_5c35a, Cond.static yJxf58ca_floatToIntBits_5c35a, Cond.initialized RJxf58ca, Cond.code yJxf58ca_floatToIntBits_5c35a cJxf58ca_floatToIntBits_5c35a 1 (some .int), Cond.methodLink RJxf58ca 74 ⟨"java/lang/Float", "floatToRawIntBits", "(F)I"⟩, Cond.native ⟨"java/lang/Float", "floatToRawIntBits", "(F)I"⟩]
def wsL_law_r26 : List Cond := [Cond.static ⟨"java/lang/Float", "floatToRawIntBits", "(F)I"⟩, Cond.initialized "java/lang/Float", Cond.constant RJxf58ca 77 (2143289344), Cond.methodLink RJxf58ca 59 yJxf58ca_isNaN_12338, Cond.static yJxf58ca_isNaN_12338, Cond.code yJxf58ca_isNaN_12338 cJxf58ca_isNaN_12338 1 (some .boolean), Cond.methodLink RL 99 yX4_count, Cond.instanceMethod yX4_count, Cond.selects RX4 yX4_count yX4_count, Cond.code yX4_count cX4_count 2 (some .int), Cond.methodLink RX4 139 yX0_setWithoutGuarantor, Cond.instanceMethod yX0_setWithoutGuarantor, Cond.selects RX0 yX0_setWithoutGuarantor yX0_setWithoutGuarantor, Cond.code yX0_setWithoutGuarantor cX0_setWithoutGuarantor 3 (some .int), Cond.methodLink RX4 142 yX1_size, Cond.instanceMethod yX1_size, Cond.selects RX1 yX1_size yX1_size, Cond.code yX1_size cX1_size 1 (some .int), Cond.methodLink RX4 145 yX2_length, Cond.instanceMethod yX2_length, Cond.selects RX2 yX2_length yX2_length, Cond.code yX2_length cX2_length 1 (some .int), Cond.fieldLink RX2 18 "FavourRings$Orders" "length" "I", Cond.methodLink RL 102 yX5_count]
def wsL_law_r27 : List Cond := [Cond.instanceMethod yX5_count, Cond.selects RX5 yX5_count yX5_count, Cond.code yX5_count cX5_count 2 (some .int), Cond.fieldLink RX5 147 "FavourRingsModel" "typed" "I", Cond.methodLink RX5 144 yX5_alone, Cond.instanceMethod yX5_alone, Cond.selects RX5 yX5_alone yX5_alone, Cond.code yX5_alone cX5_alone 3 (some .int), Cond.methodLink RL 103 yX4_undo, Cond.instanceMethod yX4_undo, Cond.selects RX4 yX4_undo yX4_undo, Cond.code yX4_undo cX4_undo 1 (some .int), Cond.methodLink RX4 148 yX1_restoreLatest, Cond.instanceMethod yX1_restoreLatest, Cond.selects RX1 yX1_restoreLatest yX1_restoreLatest, Cond.code yX1_restoreLatest cX1_restoreLatest 3 (some .int), Cond.constant RX1 29 (-1000002), Cond.methodLink RL 106 yX5_undo, Cond.instanceMethod yX5_undo, Cond.selects RX5 yX5_undo yX5_undo, Cond.code yX5_undo cX5_undo 2 (some .int), Cond.methodLink RL 107 yX4_type, Cond.instanceMethod yX4_type, Cond.selects RX4 yX4_type yX4_type]
def wsL_law_r28 : List Cond := [Cond.code yX4_type cX4_type 2 (some .int), Cond.methodLink RX4 152 yX2_append, Cond.instanceMethod yX2_append, Cond.selects RX2 yX2_append yX2_append, Cond.code yX2_append cX2_append 2 (some .int), Cond.constant RX2 34 (-1000001), Cond.constant RX2 35 (-1000003), Cond.methodLink RL 110 yX5_type, Cond.instanceMethod yX5_type, Cond.selects RX5 yX5_type yX5_type, Cond.code yX5_type cX5_type 2 (some .int), Cond.methodLink RL 111 yX4_clearText, Cond.instanceMethod yX4_clearText, Cond.selects RX4 yX4_clearText yX4_clearText, Cond.code yX4_clearText cX4_clearText 1 (some .int), Cond.methodLink RX4 155 yX2_empty, Cond.instanceMethod yX2_empty, Cond.selects RX2 yX2_empty yX2_empty, Cond.code yX2_empty cX2_empty 2 (some .int), Cond.methodLink RL 114 yX5_clearText, Cond.instanceMethod yX5_clearText, Cond.selects RX5 yX5_clearText yX5_clearText, Cond.code yX5_clearText cX5_clearText 2 (some .int), Cond.methodLink RL 115 yX4_fault]
def wsL_law_r29 : List Cond := [Cond.instanceMethod yX4_fault, Cond.selects RX4 yX4_fault yX4_fault, Cond.code yX4_fault cX4_fault 2 (some .int), Cond.methodLink RX4 158 yX2_doAll, Cond.instanceMethod yX2_doAll, Cond.selects RX2 yX2_doAll yX2_doAll, Cond.code yX2_doAll cX2_doAll 6 (some .boolean), Cond.fieldLink RX2 22 "FavourRings$Orders" "done" "I", Cond.fieldLink RX2 44 "FavourRings$Orders" "place" "I", Cond.methodLink RX2 40 yX2_readOrder, Cond.instanceMethod yX2_readOrder, Cond.selects RX2 yX2_readOrder yX2_readOrder, Cond.code yX2_readOrder cX2_readOrder 4 (some .boolean), Cond.methodLink RX2 51 yX2_signAt, Cond.instanceMethod yX2_signAt, Cond.selects RX2 yX2_signAt yX2_signAt, Cond.code yX2_signAt cX2_signAt 2 (some .int), Cond.methodLink RX2 93 yX2_numbersAfter, Cond.static yX2_numbersAfter, Cond.code yX2_numbersAfter cX2_numbersAfter 1 (some .int), Cond.methodLink RX2 96 yX2_passSign, Cond.instanceMethod yX2_passSign, Cond.selects RX2 yX2_passSign yX2_passSign, Cond.code yX2_passSign cX2_passSign 2 (some .boolean)]
def wsL_law_r30 : List Cond := [Cond.methodLink RX2 99 yX2_readNumber, Cond.instanceMethod yX2_readNumber, Cond.selects RX2 yX2_readNumber yX2_readNumber, Cond.code yX2_readNumber cX2_readNumber 4 (some .boolean), Cond.methodLink RX2 102 yX2_isDigit, Cond.static yX2_isDigit, Cond.code yX2_isDigit cX2_isDigit 1 (some .boolean), Cond.methodLink RX2 47 yX2_noteFault, Cond.instanceMethod yX2_noteFault, Cond.selects RX2 yX2_noteFault yX2_noteFault, Cond.code yX2_noteFault cX2_noteFault 4 (some .boolean), Cond.fieldLink RX2 25 "FavourRings$Orders" "faultPlace" "I", Cond.fieldLink RX2 28 "FavourRings$Orders" "faultReason" "I", Cond.fieldLink RX2 31 "FavourRings$Orders" "faultCause" "I", Cond.methodLink RX2 55 yX2_doOrder, Cond.instanceMethod yX2_doOrder, Cond.selects RX2 yX2_doOrder yX2_doOrder, Cond.code yX2_doOrder cX2_doOrder 6 (some .int), Cond.methodLink RX2 63 yX0_lendFavours, Cond.methodLink RX2 69 yX0_fulfilFavours, Cond.methodLink RX2 72 yX0_giveGuarantor, Cond.methodLink RX2 76 yX3_clearKind, Cond.methodLink RX2 82 yX0_endWeeks, Cond.methodLink RX2 85 yX0_hasHolidays]
def wsL_law_r31 : List Cond := [Cond.methodLink RX2 89 yX0_turnHolidays, Cond.methodLink RX4 162 yX2_faultPlace, Cond.instanceMethod yX2_faultPlace, Cond.selects RX2 yX2_faultPlace yX2_faultPlace, Cond.code yX2_faultPlace cX2_faultPlace 1 (some .int), Cond.methodLink RX4 165 yX2_faultReason, Cond.instanceMethod yX2_faultReason, Cond.selects RX2 yX2_faultReason yX2_faultReason, Cond.code yX2_faultReason cX2_faultReason 1 (some .int), Cond.methodLink RX4 168 yX2_faultCause, Cond.instanceMethod yX2_faultCause, Cond.selects RX2 yX2_faultCause yX2_faultCause, Cond.code yX2_faultCause cX2_faultCause 1 (some .int), Cond.methodLink RL 118 yX5_fault, Cond.instanceMethod yX5_fault, Cond.selects RX5 yX5_fault yX5_fault, Cond.code yX5_fault cX5_fault 3 (some .int), Cond.fieldLink RX5 188 "FavourRingsModel" "from" "I", Cond.fieldLink RX5 201 "FavourRingsModel" "reason" "I", Cond.fieldLink RX5 204 "FavourRingsModel" "cause" "I", Cond.methodLink RX5 207 yX5_plays, Cond.instanceMethod yX5_plays, Cond.selects RX5 yX5_plays yX5_plays, Cond.code yX5_plays cX5_plays 4 (some .boolean)]
def wsL_law_r32 : List Cond := [Cond.fieldLink RX5 150 "FavourRingsModel" "spot" "I", Cond.fieldLink RX5 191 "FavourRingsModel" "orders" "I", Cond.methodLink RX5 194 yX5_parses, Cond.instanceMethod yX5_parses, Cond.selects RX5 yX5_parses yX5_parses, Cond.code yX5_parses cX5_parses 4 (some .boolean), Cond.fieldLink RX5 156 "FavourRingsModel" "order" "I", Cond.methodLink RX5 153 yX5_isAt, Cond.instanceMethod yX5_isAt, Cond.selects RX5 yX5_isAt yX5_isAt, Cond.code yX5_isAt cX5_isAt 3 (some .boolean), Cond.methodLink RX5 159 yX5_numbersOf, Cond.static yX5_numbersOf, Cond.code yX5_numbersOf cX5_numbersOf 1 (some .int), Cond.methodLink RX5 162 yX5_numbered, Cond.instanceMethod yX5_numbered, Cond.selects RX5 yX5_numbered yX5_numbered, Cond.code yX5_numbered cX5_numbered 3 (some .boolean), Cond.methodLink RX5 165 yX5_sign, Cond.instanceMethod yX5_sign, Cond.selects RX5 yX5_sign yX5_sign, Cond.code yX5_sign cX5_sign 3 (some .boolean), Cond.methodLink RX5 198 yX5_does, Cond.instanceMethod yX5_does]
def wsL_law_r33 : List Cond := [Cond.selects RX5 yX5_does yX5_does, Cond.code yX5_does cX5_does 1 (some .int), Cond.methodLink RX5 168 yX5_lend, Cond.methodLink RX5 172 yX5_fulfil, Cond.methodLink RX5 175 yX5_guarantee, Cond.methodLink RX5 178 yX5_clear, Cond.methodLink RX5 181 yX5_weeks, Cond.methodLink RX5 184 yX5_holiday, Cond.methodLink RL 119 yX4_play, Cond.instanceMethod yX4_play, Cond.selects RX4 yX4_play yX4_play, Cond.code yX4_play cX4_play 1 (some .int), Cond.constant RX4 174 (-1000002), Cond.methodLink RX4 171 yX2_ordersDone, Cond.instanceMethod yX2_ordersDone, Cond.selects RX2 yX2_ordersDone yX2_ordersDone, Cond.code yX2_ordersDone cX2_ordersDone 1 (some .int), Cond.methodLink RL 122 yX5_play, Cond.instanceMethod yX5_play, Cond.selects RX5 yX5_play yX5_play, Cond.code yX5_play cX5_play 2 (some .int)]
def wsL_law : List Cond := (wsL_law_r1 ++ (wsL_law_r2 ++ (wsL_law_r3 ++ (wsL_law_r4 ++ (wsL_law_r5 ++ (wsL_law_r6 ++ (wsL_law_r7 ++ (wsL_law_r8 ++ (wsL_law_r9 ++ (wsL_law_r10 ++ (wsL_law_r11 ++ (wsL_law_r12 ++ (wsL_law_r13 ++ (wsL_law_r14 ++ (wsL_law_r15 ++ (wsL_law_r16 ++ (wsL_law_r17 ++ (wsL_law_r18 ++ (wsL_law_r19 ++ (wsL_law_r20 ++ (wsL_law_r21 ++ (wsL_law_r22 ++ (wsL_law_r23 ++ (wsL_law_r24 ++ (wsL_law_r25 ++ (wsL_law_r26 ++ (wsL_law_r27 ++ (wsL_law_r28 ++ (wsL_law_r29 ++ (wsL_law_r30 ++ (wsL_law_r31 ++ (wsL_law_r32 ++ wsL_law_r33)))))))))))))))))))))))))))))))) ++ wsX40 ++ wsX50 ++ wsX00 ++ wsX10 ++ wsX30 ++ wsX20 ++ ([] : List Cond)
theorem inJxf58ca : ∀ w ∈ wsJxf58ca0, w ∈ lw_tbl := by decide +kernel
theorem inJ9 : ∀ w ∈ wsJ90, w ∈ lw_tbl := by decide +kernel
theorem inJ10 : ∀ w ∈ wsJ100, w ∈ lw_tbl := by decide +kernel
abbrev vwCl : List vw_C := [(RX0, TX0, 13), (RX1, TX1, 2), (RX2, TX2, 8), (RX3, TX3, 5), (RX4, TX4, 5), (RX5, TX5, 18)]
end
section
set_option maxRecDepth 20000 in
theorem ggX0_init_X4_firstOfSetting : GoodIn wsX0_init wsX4_firstOfSetting := goodIn_r _ [20] (by decide +kernel) (by decide +kernel)
set_option maxRecDepth 20000 in
theorem gX0_init_X4_firstOfSetting_n51 : GoodIn wsX0_init (wsX4_firstOfSetting) := ggX0_init_X4_firstOfSetting
set_option maxRecDepth 20000 in
theorem ggX0_init_X4_put : GoodIn wsX0_init wsX4_put := goodIn_r _ [22] (by decide +kernel) (by decide +kernel)
set_option maxRecDepth 20000 in
theorem gX0_init_X4_put_n55 : GoodIn wsX0_init (wsX4_put) := ggX0_init_X4_put
theorem dX0_init_0 : decode cX0_init 0 = .ok (.aload_n 0, 1) := by decide +kernel
theorem dX0_init_1 : decode cX0_init 1 = .ok (.invokespecial 3, 3) := by decide +kernel
theorem dX0_init_4 : decode cX0_init 4 = .ok (.aload_n 0, 1) := by decide +kernel
theorem dX0_init_5 : decode cX0_init 5 = .ok (.bipush 26, 2) := by decide +kernel
theorem dX0_init_7 : decode cX0_init 7 = .ok (.newarray .int, 2) := by decide +kernel
theorem dX0_init_9 : decode cX0_init 9 = .ok (.putfield 9, 3) := by decide +kernel
theorem dX0_init_12 : decode cX0_init 12 = .ok (.aload_n 0, 1) := by decide +kernel
theorem dX0_init_13 : decode cX0_init 13 = .ok (.bipush 8, 2) := by decide +kernel
theorem dX0_init_15 : decode cX0_init 15 = .ok (.newarray .int, 2) := by decide +kernel
theorem dX0_init_17 : decode cX0_init 17 = .ok (.putfield 15, 3) := by decide +kernel
theorem dX0_init_20 : decode cX0_init 20 = .ok (.aload_n 0, 1) := by decide +kernel
theorem dX0_init_21 : decode cX0_init 21 = .ok (.bipush 8, 2) := by decide +kernel
theorem dX0_init_23 : decode cX0_init 23 = .ok (.newarray .int, 2) := by decide +kernel
theorem dX0_init_25 : decode cX0_init 25 = .ok (.putfield 18, 3) := by decide +kernel
theorem dX0_init_28 : decode cX0_init 28 = .ok (.aload_n 0, 1) := by decide +kernel
theorem dX0_init_29 : decode cX0_init 29 = .ok (.bipush 8, 2) := by decide +kernel
theorem dX0_init_31 : decode cX0_init 31 = .ok (.newarray .int, 2) := by decide +kernel
theorem dX0_init_33 : decode cX0_init 33 = .ok (.putfield 21, 3) := by decide +kernel
theorem dX0_init_36 : decode cX0_init 36 = .ok (.aload_n 0, 1) := by decide +kernel
theorem dX0_init_37 : decode cX0_init 37 = .ok (.bipush 8, 2) := by decide +kernel
theorem dX0_init_39 : decode cX0_init 39 = .ok (.newarray .int, 2) := by decide +kernel
theorem dX0_init_41 : decode cX0_init 41 = .ok (.putfield 24, 3) := by decide +kernel
theorem dX0_init_44 : decode cX0_init 44 = .ok (.aload_n 0, 1) := by decide +kernel
theorem dX0_init_45 : decode cX0_init 45 = .ok (.bipush 8, 2) := by decide +kernel
theorem dX0_init_47 : decode cX0_init 47 = .ok (.newarray .int, 2) := by decide +kernel
theorem dX0_init_49 : decode cX0_init 49 = .ok (.putfield 27, 3) := by decide +kernel
theorem dX0_init_52 : decode cX0_init 52 = .ok (.aload_n 0, 1) := by decide +kernel
theorem dX0_init_53 : decode cX0_init 53 = .ok (.bipush 8, 2) := by decide +kernel
theorem dX0_init_55 : decode cX0_init 55 = .ok (.newarray .int, 2) := by decide +kernel
theorem dX0_init_57 : decode cX0_init 57 = .ok (.putfield 30, 3) := by decide +kernel
theorem dX0_init_60 : decode cX0_init 60 = .ok (.aload_n 0, 1) := by decide +kernel
theorem dX0_init_61 : decode cX0_init 61 = .ok (.bipush 40, 2) := by decide +kernel
theorem dX0_init_63 : decode cX0_init 63 = .ok (.newarray .int, 2) := by decide +kernel
theorem dX0_init_65 : decode cX0_init 65 = .ok (.putfield 33, 3) := by decide +kernel
theorem dX0_init_68 : decode cX0_init 68 = .ok (.aload_n 0, 1) := by decide +kernel
theorem dX0_init_69 : decode cX0_init 69 = .ok (.bipush 40, 2) := by decide +kernel
theorem dX0_init_71 : decode cX0_init 71 = .ok (.newarray .int, 2) := by decide +kernel
theorem dX0_init_73 : decode cX0_init 73 = .ok (.putfield 36, 3) := by decide +kernel
theorem dX0_init_76 : decode cX0_init 76 = .ok (.aload_n 0, 1) := by decide +kernel
theorem dX0_init_77 : decode cX0_init 77 = .ok (.bipush 40, 2) := by decide +kernel
theorem dX0_init_79 : decode cX0_init 79 = .ok (.newarray .int, 2) := by decide +kernel
theorem dX0_init_81 : decode cX0_init 81 = .ok (.putfield 39, 3) := by decide +kernel
theorem dX0_init_84 : decode cX0_init 84 = .ok (.aload_n 0, 1) := by decide +kernel
theorem dX0_init_85 : decode cX0_init 85 = .ok (.bipush 40, 2) := by decide +kernel
theorem dX0_init_87 : decode cX0_init 87 = .ok (.newarray .int, 2) := by decide +kernel
theorem dX0_init_89 : decode cX0_init 89 = .ok (.putfield 42, 3) := by decide +kernel
theorem dX0_init_92 : decode cX0_init 92 = .ok (.aload_n 0, 1) := by decide +kernel
theorem dX0_init_93 : decode cX0_init 93 = .ok (.bipush 40, 2) := by decide +kernel
theorem dX0_init_95 : decode cX0_init 95 = .ok (.newarray .int, 2) := by decide +kernel
theorem dX0_init_97 : decode cX0_init 97 = .ok (.putfield 45, 3) := by decide +kernel
theorem dX0_init_100 : decode cX0_init 100 = .ok (.aload_n 0, 1) := by decide +kernel
theorem dX0_init_101 : decode cX0_init 101 = .ok (.bipush 40, 2) := by decide +kernel
theorem dX0_init_103 : decode cX0_init 103 = .ok (.newarray .int, 2) := by decide +kernel
theorem dX0_init_105 : decode cX0_init 105 = .ok (.putfield 48, 3) := by decide +kernel
theorem dX0_init_108 : decode cX0_init 108 = .ok (.iconst 0, 1) := by decide +kernel
theorem dX0_init_109 : decode cX0_init 109 = .ok (.istore_n 1, 1) := by decide +kernel
theorem dX0_init_110 : decode cX0_init 110 = .ok (.iload_n 1, 1) := by decide +kernel
theorem dX0_init_111 : decode cX0_init 111 = .ok (.bipush 6, 2) := by decide +kernel
theorem dX0_init_113 : decode cX0_init 113 = .ok (.if_icmp .ge 24, 3) := by decide +kernel
theorem dX0_init_116 : decode cX0_init 116 = .ok (.aload_n 0, 1) := by decide +kernel
theorem dX0_init_117 : decode cX0_init 117 = .ok (.getfield 9, 3) := by decide +kernel
theorem dX0_init_120 : decode cX0_init 120 = .ok (.bipush 20, 2) := by decide +kernel
theorem dX0_init_122 : decode cX0_init 122 = .ok (.iload_n 1, 1) := by decide +kernel
theorem dX0_init_123 : decode cX0_init 123 = .ok (.iadd, 1) := by decide +kernel
theorem dX0_init_124 : decode cX0_init 124 = .ok (.iload_n 1, 1) := by decide +kernel
theorem dX0_init_125 : decode cX0_init 125 = .ok (.invokestatic 51, 3) := by decide +kernel
theorem dX0_init_128 : decode cX0_init 128 = .ok (.invokestatic 55, 3) := by decide +kernel
theorem dX0_init_131 : decode cX0_init 131 = .ok (.iinc 1 1, 3) := by decide +kernel
theorem dX0_init_134 : decode cX0_init 134 = .ok (.goto (-24), 3) := by decide +kernel
theorem dX0_init_137 : decode cX0_init 137 = .ok (.return_, 1) := by decide +kernel
set_option maxRecDepth 20000 in
theorem ggX0_copyFrom_X4_copyRow : GoodIn wsX0_copyFrom wsX4_copyRow := goodIn_r _ [16, 17, 18, 19, 20, 21, 22, 23, 24] (by decide +kernel) (by decide +kernel)
set_option maxRecDepth 20000 in
theorem gX0_copyFrom_X4_copyRow_n59 : GoodIn wsX0_copyFrom (wsX4_copyRow) := ggX0_copyFrom_X4_copyRow
theorem dX0_copyFrom_0 : decode cX0_copyFrom 0 = .ok (.aload_n 1, 1) := by decide +kernel
theorem dX0_copyFrom_1 : decode cX0_copyFrom 1 = .ok (.getfield 9, 3) := by decide +kernel
theorem dX0_copyFrom_4 : decode cX0_copyFrom 4 = .ok (.aload_n 0, 1) := by decide +kernel
theorem dX0_copyFrom_5 : decode cX0_copyFrom 5 = .ok (.getfield 9, 3) := by decide +kernel
theorem dX0_copyFrom_8 : decode cX0_copyFrom 8 = .ok (.invokestatic 59, 3) := by decide +kernel
theorem dX0_copyFrom_11 : decode cX0_copyFrom 11 = .ok (.aload_n 1, 1) := by decide +kernel
theorem dX0_copyFrom_12 : decode cX0_copyFrom 12 = .ok (.getfield 15, 3) := by decide +kernel
theorem dX0_copyFrom_15 : decode cX0_copyFrom 15 = .ok (.aload_n 0, 1) := by decide +kernel
theorem dX0_copyFrom_16 : decode cX0_copyFrom 16 = .ok (.getfield 15, 3) := by decide +kernel
theorem dX0_copyFrom_19 : decode cX0_copyFrom 19 = .ok (.invokestatic 59, 3) := by decide +kernel
theorem dX0_copyFrom_22 : decode cX0_copyFrom 22 = .ok (.aload_n 1, 1) := by decide +kernel
theorem dX0_copyFrom_23 : decode cX0_copyFrom 23 = .ok (.getfield 18, 3) := by decide +kernel
theorem dX0_copyFrom_26 : decode cX0_copyFrom 26 = .ok (.aload_n 0, 1) := by decide +kernel
theorem dX0_copyFrom_27 : decode cX0_copyFrom 27 = .ok (.getfield 18, 3) := by decide +kernel
theorem dX0_copyFrom_30 : decode cX0_copyFrom 30 = .ok (.invokestatic 59, 3) := by decide +kernel
theorem dX0_copyFrom_33 : decode cX0_copyFrom 33 = .ok (.aload_n 1, 1) := by decide +kernel
theorem dX0_copyFrom_34 : decode cX0_copyFrom 34 = .ok (.getfield 21, 3) := by decide +kernel
theorem dX0_copyFrom_37 : decode cX0_copyFrom 37 = .ok (.aload_n 0, 1) := by decide +kernel
theorem dX0_copyFrom_38 : decode cX0_copyFrom 38 = .ok (.getfield 21, 3) := by decide +kernel
theorem dX0_copyFrom_41 : decode cX0_copyFrom 41 = .ok (.invokestatic 59, 3) := by decide +kernel
theorem dX0_copyFrom_44 : decode cX0_copyFrom 44 = .ok (.aload_n 1, 1) := by decide +kernel
theorem dX0_copyFrom_45 : decode cX0_copyFrom 45 = .ok (.getfield 24, 3) := by decide +kernel
theorem dX0_copyFrom_48 : decode cX0_copyFrom 48 = .ok (.aload_n 0, 1) := by decide +kernel
theorem dX0_copyFrom_49 : decode cX0_copyFrom 49 = .ok (.getfield 24, 3) := by decide +kernel
theorem dX0_copyFrom_52 : decode cX0_copyFrom 52 = .ok (.invokestatic 59, 3) := by decide +kernel
theorem dX0_copyFrom_55 : decode cX0_copyFrom 55 = .ok (.aload_n 1, 1) := by decide +kernel
theorem dX0_copyFrom_56 : decode cX0_copyFrom 56 = .ok (.getfield 27, 3) := by decide +kernel
theorem dX0_copyFrom_59 : decode cX0_copyFrom 59 = .ok (.aload_n 0, 1) := by decide +kernel
theorem dX0_copyFrom_60 : decode cX0_copyFrom 60 = .ok (.getfield 27, 3) := by decide +kernel
theorem dX0_copyFrom_63 : decode cX0_copyFrom 63 = .ok (.invokestatic 59, 3) := by decide +kernel
theorem dX0_copyFrom_66 : decode cX0_copyFrom 66 = .ok (.aload_n 1, 1) := by decide +kernel
theorem dX0_copyFrom_67 : decode cX0_copyFrom 67 = .ok (.getfield 30, 3) := by decide +kernel
theorem dX0_copyFrom_70 : decode cX0_copyFrom 70 = .ok (.aload_n 0, 1) := by decide +kernel
theorem dX0_copyFrom_71 : decode cX0_copyFrom 71 = .ok (.getfield 30, 3) := by decide +kernel
theorem dX0_copyFrom_74 : decode cX0_copyFrom 74 = .ok (.invokestatic 59, 3) := by decide +kernel
theorem dX0_copyFrom_77 : decode cX0_copyFrom 77 = .ok (.aload_n 1, 1) := by decide +kernel
theorem dX0_copyFrom_78 : decode cX0_copyFrom 78 = .ok (.getfield 33, 3) := by decide +kernel
theorem dX0_copyFrom_81 : decode cX0_copyFrom 81 = .ok (.aload_n 0, 1) := by decide +kernel
theorem dX0_copyFrom_82 : decode cX0_copyFrom 82 = .ok (.getfield 33, 3) := by decide +kernel
theorem dX0_copyFrom_85 : decode cX0_copyFrom 85 = .ok (.invokestatic 59, 3) := by decide +kernel
theorem dX0_copyFrom_88 : decode cX0_copyFrom 88 = .ok (.aload_n 1, 1) := by decide +kernel
theorem dX0_copyFrom_89 : decode cX0_copyFrom 89 = .ok (.getfield 36, 3) := by decide +kernel
theorem dX0_copyFrom_92 : decode cX0_copyFrom 92 = .ok (.aload_n 0, 1) := by decide +kernel
theorem dX0_copyFrom_93 : decode cX0_copyFrom 93 = .ok (.getfield 36, 3) := by decide +kernel
theorem dX0_copyFrom_96 : decode cX0_copyFrom 96 = .ok (.invokestatic 59, 3) := by decide +kernel
theorem dX0_copyFrom_99 : decode cX0_copyFrom 99 = .ok (.aload_n 1, 1) := by decide +kernel
theorem dX0_copyFrom_100 : decode cX0_copyFrom 100 = .ok (.getfield 39, 3) := by decide +kernel
theorem dX0_copyFrom_103 : decode cX0_copyFrom 103 = .ok (.aload_n 0, 1) := by decide +kernel
theorem dX0_copyFrom_104 : decode cX0_copyFrom 104 = .ok (.getfield 39, 3) := by decide +kernel
theorem dX0_copyFrom_107 : decode cX0_copyFrom 107 = .ok (.invokestatic 59, 3) := by decide +kernel
theorem dX0_copyFrom_110 : decode cX0_copyFrom 110 = .ok (.aload_n 1, 1) := by decide +kernel
theorem dX0_copyFrom_111 : decode cX0_copyFrom 111 = .ok (.getfield 42, 3) := by decide +kernel
theorem dX0_copyFrom_114 : decode cX0_copyFrom 114 = .ok (.aload_n 0, 1) := by decide +kernel
theorem dX0_copyFrom_115 : decode cX0_copyFrom 115 = .ok (.getfield 42, 3) := by decide +kernel
theorem dX0_copyFrom_118 : decode cX0_copyFrom 118 = .ok (.invokestatic 59, 3) := by decide +kernel
theorem dX0_copyFrom_121 : decode cX0_copyFrom 121 = .ok (.aload_n 1, 1) := by decide +kernel
theorem dX0_copyFrom_122 : decode cX0_copyFrom 122 = .ok (.getfield 45, 3) := by decide +kernel
theorem dX0_copyFrom_125 : decode cX0_copyFrom 125 = .ok (.aload_n 0, 1) := by decide +kernel
theorem dX0_copyFrom_126 : decode cX0_copyFrom 126 = .ok (.getfield 45, 3) := by decide +kernel
theorem dX0_copyFrom_129 : decode cX0_copyFrom 129 = .ok (.invokestatic 59, 3) := by decide +kernel
theorem dX0_copyFrom_132 : decode cX0_copyFrom 132 = .ok (.aload_n 1, 1) := by decide +kernel
theorem dX0_copyFrom_133 : decode cX0_copyFrom 133 = .ok (.getfield 48, 3) := by decide +kernel
theorem dX0_copyFrom_136 : decode cX0_copyFrom 136 = .ok (.aload_n 0, 1) := by decide +kernel
theorem dX0_copyFrom_137 : decode cX0_copyFrom 137 = .ok (.getfield 48, 3) := by decide +kernel
theorem dX0_copyFrom_140 : decode cX0_copyFrom 140 = .ok (.invokestatic 59, 3) := by decide +kernel
theorem dX0_copyFrom_143 : decode cX0_copyFrom 143 = .ok (.return_, 1) := by decide +kernel
theorem dX0_number_0 : decode cX0_number 0 = .ok (.iload_n 1, 1) := by decide +kernel
theorem dX0_number_1 : decode cX0_number 1 = .ok (.ifCond .lt 21, 3) := by decide +kernel
theorem dX0_number_4 : decode cX0_number 4 = .ok (.iload_n 1, 1) := by decide +kernel
theorem dX0_number_5 : decode cX0_number 5 = .ok (.aload_n 0, 1) := by decide +kernel
theorem dX0_number_6 : decode cX0_number 6 = .ok (.getfield 9, 3) := by decide +kernel
theorem dX0_number_9 : decode cX0_number 9 = .ok (.arraylength, 1) := by decide +kernel
theorem dX0_number_10 : decode cX0_number 10 = .ok (.if_icmp .ge 12, 3) := by decide +kernel
theorem dX0_number_13 : decode cX0_number 13 = .ok (.aload_n 0, 1) := by decide +kernel
theorem dX0_number_14 : decode cX0_number 14 = .ok (.getfield 9, 3) := by decide +kernel
theorem dX0_number_17 : decode cX0_number 17 = .ok (.iload_n 1, 1) := by decide +kernel
theorem dX0_number_18 : decode cX0_number 18 = .ok (.iaload, 1) := by decide +kernel
theorem dX0_number_19 : decode cX0_number 19 = .ok (.goto 4, 3) := by decide +kernel
theorem dX0_number_22 : decode cX0_number 22 = .ok (.iconst 0, 1) := by decide +kernel
theorem dX0_number_23 : decode cX0_number 23 = .ok (.ireturn, 1) := by decide +kernel
set_option maxRecDepth 20000 in
theorem ggX0_hasHolidays_X0_number : GoodIn wsX0_hasHolidays wsX0_number := goodIn_r _ [5, 6, 7, 8, 9, 10, 11, 12, 13, 14, 15, 16, 17, 18, 19] (by decide +kernel) (by decide +kernel)
set_option maxRecDepth 20000 in
theorem gX0_hasHolidays_X0_number : GoodIn wsX0_hasHolidays (wsV RX0 63 RX0 yX0_number wsX0_number) := goodIn_app (goodIn_of _ (by decide +kernel)) ggX0_hasHolidays_X0_number
theorem dX0_hasHolidays_0 : decode cX0_hasHolidays 0 = .ok (.aload_n 0, 1) := by decide +kernel
theorem dX0_hasHolidays_1 : decode cX0_hasHolidays 1 = .ok (.bipush 10, 2) := by decide +kernel
theorem dX0_hasHolidays_3 : decode cX0_hasHolidays 3 = .ok (.invokevirtual 63, 3) := by decide +kernel
theorem dX0_hasHolidays_6 : decode cX0_hasHolidays 6 = .ok (.ifCond .eq 7, 3) := by decide +kernel
theorem dX0_hasHolidays_9 : decode cX0_hasHolidays 9 = .ok (.iconst 1, 1) := by decide +kernel
theorem dX0_hasHolidays_10 : decode cX0_hasHolidays 10 = .ok (.goto 4, 3) := by decide +kernel
theorem dX0_hasHolidays_13 : decode cX0_hasHolidays 13 = .ok (.iconst 0, 1) := by decide +kernel
theorem dX0_hasHolidays_14 : decode cX0_hasHolidays 14 = .ok (.ireturn, 1) := by decide +kernel
set_option maxRecDepth 20000 in
theorem ggX0_isPupil_X0_number : GoodIn wsX0_isPupil wsX0_number := goodIn_r _ [5, 6, 7, 8, 9, 10, 11, 12, 13, 14, 15, 16, 17, 18, 19] (by decide +kernel) (by decide +kernel)
set_option maxRecDepth 20000 in
theorem gX0_isPupil_X0_number : GoodIn wsX0_isPupil (wsV RX0 63 RX0 yX0_number wsX0_number) := goodIn_app (goodIn_of _ (by decide +kernel)) ggX0_isPupil_X0_number
theorem dX0_isPupil_0 : decode cX0_isPupil 0 = .ok (.iload_n 1, 1) := by decide +kernel
theorem dX0_isPupil_1 : decode cX0_isPupil 1 = .ok (.ifCond .lt 16, 3) := by decide +kernel
theorem dX0_isPupil_4 : decode cX0_isPupil 4 = .ok (.iload_n 1, 1) := by decide +kernel
theorem dX0_isPupil_5 : decode cX0_isPupil 5 = .ok (.aload_n 0, 1) := by decide +kernel
theorem dX0_isPupil_6 : decode cX0_isPupil 6 = .ok (.iconst 1, 1) := by decide +kernel
theorem dX0_isPupil_7 : decode cX0_isPupil 7 = .ok (.invokevirtual 63, 3) := by decide +kernel
theorem dX0_isPupil_10 : decode cX0_isPupil 10 = .ok (.if_icmp .ge 7, 3) := by decide +kernel
theorem dX0_isPupil_13 : decode cX0_isPupil 13 = .ok (.iconst 1, 1) := by decide +kernel
theorem dX0_isPupil_14 : decode cX0_isPupil 14 = .ok (.goto 4, 3) := by decide +kernel
theorem dX0_isPupil_17 : decode cX0_isPupil 17 = .ok (.iconst 0, 1) := by decide +kernel
theorem dX0_isPupil_18 : decode cX0_isPupil 18 = .ok (.ireturn, 1) := by decide +kernel
set_option maxRecDepth 20000 in
theorem ggX0_isPair_X0_isPupil : GoodIn wsX0_isPair wsX0_isPupil := goodIn_r _ [5, 6, 7, 8, 4, 9, 10, 11, 12, 13, 14, 15, 16, 17, 18, 19, 20, 21, 22, 23] (by decide +kernel) (by decide +kernel)
set_option maxRecDepth 20000 in
theorem gX0_isPair_X0_isPupil : GoodIn wsX0_isPair (wsV RX0 66 RX0 yX0_isPupil wsX0_isPupil) := goodIn_app (goodIn_of _ (by decide +kernel)) ggX0_isPair_X0_isPupil
theorem dX0_isPair_0 : decode cX0_isPair 0 = .ok (.aload_n 0, 1) := by decide +kernel
theorem dX0_isPair_1 : decode cX0_isPair 1 = .ok (.iload_n 1, 1) := by decide +kernel
theorem dX0_isPair_2 : decode cX0_isPair 2 = .ok (.invokevirtual 66, 3) := by decide +kernel
theorem dX0_isPair_5 : decode cX0_isPair 5 = .ok (.ifCond .eq 20, 3) := by decide +kernel
theorem dX0_isPair_8 : decode cX0_isPair 8 = .ok (.aload_n 0, 1) := by decide +kernel
theorem dX0_isPair_9 : decode cX0_isPair 9 = .ok (.iload_n 2, 1) := by decide +kernel
theorem dX0_isPair_10 : decode cX0_isPair 10 = .ok (.invokevirtual 66, 3) := by decide +kernel
theorem dX0_isPair_13 : decode cX0_isPair 13 = .ok (.ifCond .eq 12, 3) := by decide +kernel
theorem dX0_isPair_16 : decode cX0_isPair 16 = .ok (.iload_n 1, 1) := by decide +kernel
theorem dX0_isPair_17 : decode cX0_isPair 17 = .ok (.iload_n 2, 1) := by decide +kernel
theorem dX0_isPair_18 : decode cX0_isPair 18 = .ok (.if_icmp .eq 7, 3) := by decide +kernel
theorem dX0_isPair_21 : decode cX0_isPair 21 = .ok (.iconst 1, 1) := by decide +kernel
theorem dX0_isPair_22 : decode cX0_isPair 22 = .ok (.goto 4, 3) := by decide +kernel
theorem dX0_isPair_25 : decode cX0_isPair 25 = .ok (.iconst 0, 1) := by decide +kernel
theorem dX0_isPair_26 : decode cX0_isPair 26 = .ok (.ireturn, 1) := by decide +kernel
theorem dX0_guarantorOf_0 : decode cX0_guarantorOf 0 = .ok (.iload_n 1, 1) := by decide +kernel
theorem dX0_guarantorOf_1 : decode cX0_guarantorOf 1 = .ok (.ifCond .lt 23, 3) := by decide +kernel
theorem dX0_guarantorOf_4 : decode cX0_guarantorOf 4 = .ok (.iload_n 1, 1) := by decide +kernel
theorem dX0_guarantorOf_5 : decode cX0_guarantorOf 5 = .ok (.aload_n 0, 1) := by decide +kernel
theorem dX0_guarantorOf_6 : decode cX0_guarantorOf 6 = .ok (.getfield 24, 3) := by decide +kernel
theorem dX0_guarantorOf_9 : decode cX0_guarantorOf 9 = .ok (.arraylength, 1) := by decide +kernel
theorem dX0_guarantorOf_10 : decode cX0_guarantorOf 10 = .ok (.if_icmp .ge 14, 3) := by decide +kernel
theorem dX0_guarantorOf_13 : decode cX0_guarantorOf 13 = .ok (.aload_n 0, 1) := by decide +kernel
theorem dX0_guarantorOf_14 : decode cX0_guarantorOf 14 = .ok (.getfield 24, 3) := by decide +kernel
theorem dX0_guarantorOf_17 : decode cX0_guarantorOf 17 = .ok (.iload_n 1, 1) := by decide +kernel
theorem dX0_guarantorOf_18 : decode cX0_guarantorOf 18 = .ok (.iaload, 1) := by decide +kernel
theorem dX0_guarantorOf_19 : decode cX0_guarantorOf 19 = .ok (.iconst 1, 1) := by decide +kernel
theorem dX0_guarantorOf_20 : decode cX0_guarantorOf 20 = .ok (.isub, 1) := by decide +kernel
theorem dX0_guarantorOf_21 : decode cX0_guarantorOf 21 = .ok (.goto 4, 3) := by decide +kernel
theorem dX0_guarantorOf_24 : decode cX0_guarantorOf 24 = .ok (.iconst (-1), 1) := by decide +kernel
theorem dX0_guarantorOf_25 : decode cX0_guarantorOf 25 = .ok (.ireturn, 1) := by decide +kernel
set_option maxRecDepth 20000 in
theorem ggX0_tellOfPupil_X0_sumOwed : GoodIn wsX0_tellOfPupil wsX0_sumOwed := goodIn_r _ [11, 12, 13, 14, 15, 10, 16, 17, 18, 19, 20, 21, 22, 23, 24, 25, 26, 27, 37, 38, 39, 40, 41, 42, 43, 44, 45, 46, 47, 48, 49] (by decide +kernel) (by decide +kernel)
set_option maxRecDepth 20000 in
theorem gX0_tellOfPupil_X0_sumOwed : GoodIn wsX0_tellOfPupil (wsV RX0 70 RX0 yX0_sumOwed wsX0_sumOwed) := goodIn_app (goodIn_of _ (by decide +kernel)) ggX0_tellOfPupil_X0_sumOwed
set_option maxRecDepth 20000 in
theorem ggX0_tellOfPupil_X0_balanceByLots : GoodIn wsX0_tellOfPupil wsX0_balanceByLots := goodIn_r _ [31, 7, 8, 9, 10, 11, 12, 13, 14, 15, 16, 17, 18, 19, 20, 21, 22, 23, 24, 25, 26, 27, 37, 38, 39, 40, 41, 42, 43, 44, 45, 46, 47, 48, 49] (by decide +kernel) (by decide +kernel)
set_option maxRecDepth 20000 in
theorem gX0_tellOfPupil_X0_balanceByLots : GoodIn wsX0_tellOfPupil (wsV RX0 74 RX0 yX0_balanceByLots wsX0_balanceByLots) := goodIn_app (goodIn_of _ (by decide +kernel)) ggX0_tellOfPupil_X0_balanceByLots
set_option maxRecDepth 20000 in
theorem ggX0_tellOfPupil_X4_at : GoodIn wsX0_tellOfPupil wsX4_at := goodIn_r _ [27] (by decide +kernel) (by decide +kernel)
set_option maxRecDepth 20000 in
theorem gX0_tellOfPupil_X4_at_n77 : GoodIn wsX0_tellOfPupil (wsX4_at) := ggX0_tellOfPupil_X4_at
set_option maxRecDepth 20000 in
theorem ggX0_tellOfPupil_X0_guarantorOf : GoodIn wsX0_tellOfPupil wsX0_guarantorOf := goodIn_r _ [35, 36, 37, 38, 39, 40, 41, 42, 43, 44, 45, 46, 47, 48, 49] (by decide +kernel) (by decide +kernel)
set_option maxRecDepth 20000 in
theorem gX0_tellOfPupil_X0_guarantorOf : GoodIn wsX0_tellOfPupil (wsV RX0 81 RX0 yX0_guarantorOf wsX0_guarantorOf) := goodIn_app (goodIn_of _ (by decide +kernel)) ggX0_tellOfPupil_X0_guarantorOf
theorem dX0_tellOfPupil_0 : decode cX0_tellOfPupil 0 = .ok (.iload_n 2, 1) := by decide +kernel
theorem dX0_tellOfPupil_1 : decode cX0_tellOfPupil 1 = .ok (.tableswitch 132 0 7 #[47, 55, 63, 73, 86, 95, 104, 123], 47) := by decide +kernel
theorem dX0_tellOfPupil_48 : decode cX0_tellOfPupil 48 = .ok (.aload_n 0, 1) := by decide +kernel
theorem dX0_tellOfPupil_49 : decode cX0_tellOfPupil 49 = .ok (.iload_n 1, 1) := by decide +kernel
theorem dX0_tellOfPupil_50 : decode cX0_tellOfPupil 50 = .ok (.iconst (-1), 1) := by decide +kernel
theorem dX0_tellOfPupil_51 : decode cX0_tellOfPupil 51 = .ok (.iconst (-1), 1) := by decide +kernel
theorem dX0_tellOfPupil_52 : decode cX0_tellOfPupil 52 = .ok (.invokevirtual 70, 3) := by decide +kernel
theorem dX0_tellOfPupil_55 : decode cX0_tellOfPupil 55 = .ok (.ireturn, 1) := by decide +kernel
theorem dX0_tellOfPupil_56 : decode cX0_tellOfPupil 56 = .ok (.aload_n 0, 1) := by decide +kernel
theorem dX0_tellOfPupil_57 : decode cX0_tellOfPupil 57 = .ok (.iconst (-1), 1) := by decide +kernel
theorem dX0_tellOfPupil_58 : decode cX0_tellOfPupil 58 = .ok (.iload_n 1, 1) := by decide +kernel
theorem dX0_tellOfPupil_59 : decode cX0_tellOfPupil 59 = .ok (.iconst (-1), 1) := by decide +kernel
theorem dX0_tellOfPupil_60 : decode cX0_tellOfPupil 60 = .ok (.invokevirtual 70, 3) := by decide +kernel
theorem dX0_tellOfPupil_63 : decode cX0_tellOfPupil 63 = .ok (.ireturn, 1) := by decide +kernel
theorem dX0_tellOfPupil_64 : decode cX0_tellOfPupil 64 = .ok (.sipush 1000, 3) := by decide +kernel
theorem dX0_tellOfPupil_67 : decode cX0_tellOfPupil 67 = .ok (.aload_n 0, 1) := by decide +kernel
theorem dX0_tellOfPupil_68 : decode cX0_tellOfPupil 68 = .ok (.iload_n 1, 1) := by decide +kernel
theorem dX0_tellOfPupil_69 : decode cX0_tellOfPupil 69 = .ok (.invokevirtual 74, 3) := by decide +kernel
theorem dX0_tellOfPupil_72 : decode cX0_tellOfPupil 72 = .ok (.iadd, 1) := by decide +kernel
theorem dX0_tellOfPupil_73 : decode cX0_tellOfPupil 73 = .ok (.ireturn, 1) := by decide +kernel
theorem dX0_tellOfPupil_74 : decode cX0_tellOfPupil 74 = .ok (.sipush 1000, 3) := by decide +kernel
theorem dX0_tellOfPupil_77 : decode cX0_tellOfPupil 77 = .ok (.aload_n 0, 1) := by decide +kernel
theorem dX0_tellOfPupil_78 : decode cX0_tellOfPupil 78 = .ok (.getfield 15, 3) := by decide +kernel
theorem dX0_tellOfPupil_81 : decode cX0_tellOfPupil 81 = .ok (.iload_n 1, 1) := by decide +kernel
theorem dX0_tellOfPupil_82 : decode cX0_tellOfPupil 82 = .ok (.invokestatic 77, 3) := by decide +kernel
theorem dX0_tellOfPupil_85 : decode cX0_tellOfPupil 85 = .ok (.iadd, 1) := by decide +kernel
theorem dX0_tellOfPupil_86 : decode cX0_tellOfPupil 86 = .ok (.ireturn, 1) := by decide +kernel
theorem dX0_tellOfPupil_87 : decode cX0_tellOfPupil 87 = .ok (.aload_n 0, 1) := by decide +kernel
theorem dX0_tellOfPupil_88 : decode cX0_tellOfPupil 88 = .ok (.getfield 18, 3) := by decide +kernel
theorem dX0_tellOfPupil_91 : decode cX0_tellOfPupil 91 = .ok (.iload_n 1, 1) := by decide +kernel
theorem dX0_tellOfPupil_92 : decode cX0_tellOfPupil 92 = .ok (.invokestatic 77, 3) := by decide +kernel
theorem dX0_tellOfPupil_95 : decode cX0_tellOfPupil 95 = .ok (.ireturn, 1) := by decide +kernel
theorem dX0_tellOfPupil_96 : decode cX0_tellOfPupil 96 = .ok (.aload_n 0, 1) := by decide +kernel
theorem dX0_tellOfPupil_97 : decode cX0_tellOfPupil 97 = .ok (.getfield 21, 3) := by decide +kernel
theorem dX0_tellOfPupil_100 : decode cX0_tellOfPupil 100 = .ok (.iload_n 1, 1) := by decide +kernel
theorem dX0_tellOfPupil_101 : decode cX0_tellOfPupil 101 = .ok (.invokestatic 77, 3) := by decide +kernel
theorem dX0_tellOfPupil_104 : decode cX0_tellOfPupil 104 = .ok (.ireturn, 1) := by decide +kernel
theorem dX0_tellOfPupil_105 : decode cX0_tellOfPupil 105 = .ok (.aload_n 0, 1) := by decide +kernel
theorem dX0_tellOfPupil_106 : decode cX0_tellOfPupil 106 = .ok (.iload_n 1, 1) := by decide +kernel
theorem dX0_tellOfPupil_107 : decode cX0_tellOfPupil 107 = .ok (.invokevirtual 81, 3) := by decide +kernel
theorem dX0_tellOfPupil_110 : decode cX0_tellOfPupil 110 = .ok (.ifCond .lt 11, 3) := by decide +kernel
theorem dX0_tellOfPupil_113 : decode cX0_tellOfPupil 113 = .ok (.aload_n 0, 1) := by decide +kernel
theorem dX0_tellOfPupil_114 : decode cX0_tellOfPupil 114 = .ok (.iload_n 1, 1) := by decide +kernel
theorem dX0_tellOfPupil_115 : decode cX0_tellOfPupil 115 = .ok (.invokevirtual 81, 3) := by decide +kernel
theorem dX0_tellOfPupil_118 : decode cX0_tellOfPupil 118 = .ok (.goto 5, 3) := by decide +kernel
theorem dX0_tellOfPupil_121 : decode cX0_tellOfPupil 121 = .ok (.ldc 84, 2) := by decide +kernel
theorem dX0_tellOfPupil_123 : decode cX0_tellOfPupil 123 = .ok (.ireturn, 1) := by decide +kernel
theorem dX0_tellOfPupil_124 : decode cX0_tellOfPupil 124 = .ok (.aload_n 0, 1) := by decide +kernel
theorem dX0_tellOfPupil_125 : decode cX0_tellOfPupil 125 = .ok (.getfield 27, 3) := by decide +kernel
theorem dX0_tellOfPupil_128 : decode cX0_tellOfPupil 128 = .ok (.iload_n 1, 1) := by decide +kernel
theorem dX0_tellOfPupil_129 : decode cX0_tellOfPupil 129 = .ok (.invokestatic 77, 3) := by decide +kernel
theorem dX0_tellOfPupil_132 : decode cX0_tellOfPupil 132 = .ok (.ireturn, 1) := by decide +kernel
theorem dX0_tellOfPupil_133 : decode cX0_tellOfPupil 133 = .ok (.aload_n 0, 1) := by decide +kernel
theorem dX0_tellOfPupil_134 : decode cX0_tellOfPupil 134 = .ok (.getfield 30, 3) := by decide +kernel
theorem dX0_tellOfPupil_137 : decode cX0_tellOfPupil 137 = .ok (.iload_n 1, 1) := by decide +kernel
theorem dX0_tellOfPupil_138 : decode cX0_tellOfPupil 138 = .ok (.invokestatic 77, 3) := by decide +kernel
theorem dX0_tellOfPupil_141 : decode cX0_tellOfPupil 141 = .ok (.ireturn, 1) := by decide +kernel
set_option maxRecDepth 20000 in
theorem ggX0_setWithoutGuarantor_X0_number : GoodIn wsX0_setWithoutGuarantor wsX0_number := goodIn_r _ [5, 6, 12, 13, 14, 15, 16, 17, 18, 19, 20, 21, 22, 23, 24] (by decide +kernel) (by decide +kernel)
set_option maxRecDepth 20000 in
theorem gX0_setWithoutGuarantor_X0_number : GoodIn wsX0_setWithoutGuarantor (wsV RX0 63 RX0 yX0_number wsX0_number) := goodIn_app (goodIn_of _ (by decide +kernel)) ggX0_setWithoutGuarantor_X0_number
set_option maxRecDepth 20000 in
theorem ggX0_setWithoutGuarantor_X0_guarantorOf : GoodIn wsX0_setWithoutGuarantor wsX0_guarantorOf := goodIn_r _ [10, 11, 12, 13, 14, 15, 16, 17, 18, 19, 20, 21, 22, 23, 24] (by decide +kernel) (by decide +kernel)
set_option maxRecDepth 20000 in
theorem gX0_setWithoutGuarantor_X0_guarantorOf : GoodIn wsX0_setWithoutGuarantor (wsV RX0 81 RX0 yX0_guarantorOf wsX0_guarantorOf) := goodIn_app (goodIn_of _ (by decide +kernel)) ggX0_setWithoutGuarantor_X0_guarantorOf
theorem dX0_setWithoutGuarantor_0 : decode cX0_setWithoutGuarantor 0 = .ok (.iconst 0, 1) := by decide +kernel
theorem dX0_setWithoutGuarantor_1 : decode cX0_setWithoutGuarantor 1 = .ok (.istore_n 1, 1) := by decide +kernel
theorem dX0_setWithoutGuarantor_2 : decode cX0_setWithoutGuarantor 2 = .ok (.iconst 0, 1) := by decide +kernel
theorem dX0_setWithoutGuarantor_3 : decode cX0_setWithoutGuarantor 3 = .ok (.istore_n 2, 1) := by decide +kernel
theorem dX0_setWithoutGuarantor_4 : decode cX0_setWithoutGuarantor 4 = .ok (.iload_n 2, 1) := by decide +kernel
theorem dX0_setWithoutGuarantor_5 : decode cX0_setWithoutGuarantor 5 = .ok (.aload_n 0, 1) := by decide +kernel
theorem dX0_setWithoutGuarantor_6 : decode cX0_setWithoutGuarantor 6 = .ok (.iconst 1, 1) := by decide +kernel
theorem dX0_setWithoutGuarantor_7 : decode cX0_setWithoutGuarantor 7 = .ok (.invokevirtual 63, 3) := by decide +kernel
theorem dX0_setWithoutGuarantor_10 : decode cX0_setWithoutGuarantor 10 = .ok (.if_icmp .ge 23, 3) := by decide +kernel
theorem dX0_setWithoutGuarantor_13 : decode cX0_setWithoutGuarantor 13 = .ok (.aload_n 0, 1) := by decide +kernel
theorem dX0_setWithoutGuarantor_14 : decode cX0_setWithoutGuarantor 14 = .ok (.iload_n 2, 1) := by decide +kernel
theorem dX0_setWithoutGuarantor_15 : decode cX0_setWithoutGuarantor 15 = .ok (.invokevirtual 81, 3) := by decide +kernel
theorem dX0_setWithoutGuarantor_18 : decode cX0_setWithoutGuarantor 18 = .ok (.ifCond .ge 9, 3) := by decide +kernel
theorem dX0_setWithoutGuarantor_21 : decode cX0_setWithoutGuarantor 21 = .ok (.iload_n 1, 1) := by decide +kernel
theorem dX0_setWithoutGuarantor_22 : decode cX0_setWithoutGuarantor 22 = .ok (.iconst 1, 1) := by decide +kernel
theorem dX0_setWithoutGuarantor_23 : decode cX0_setWithoutGuarantor 23 = .ok (.iload_n 2, 1) := by decide +kernel
theorem dX0_setWithoutGuarantor_24 : decode cX0_setWithoutGuarantor 24 = .ok (.ishl, 1) := by decide +kernel
theorem dX0_setWithoutGuarantor_25 : decode cX0_setWithoutGuarantor 25 = .ok (.ior, 1) := by decide +kernel
theorem dX0_setWithoutGuarantor_26 : decode cX0_setWithoutGuarantor 26 = .ok (.istore_n 1, 1) := by decide +kernel
theorem dX0_setWithoutGuarantor_27 : decode cX0_setWithoutGuarantor 27 = .ok (.iinc 2 1, 3) := by decide +kernel
theorem dX0_setWithoutGuarantor_30 : decode cX0_setWithoutGuarantor 30 = .ok (.goto (-26), 3) := by decide +kernel
theorem dX0_setWithoutGuarantor_33 : decode cX0_setWithoutGuarantor 33 = .ok (.iload_n 1, 1) := by decide +kernel
theorem dX0_setWithoutGuarantor_34 : decode cX0_setWithoutGuarantor 34 = .ok (.ireturn, 1) := by decide +kernel
set_option maxRecDepth 20000 in
theorem ggX0_addPupil_X0_number : GoodIn wsX0_addPupil wsX0_number := goodIn_r _ [7, 2, 11, 12, 13, 14, 15, 16, 17, 18, 19, 20, 21, 22, 23] (by decide +kernel) (by decide +kernel)
set_option maxRecDepth 20000 in
theorem gX0_addPupil_X0_number : GoodIn wsX0_addPupil (wsV RX0 63 RX0 yX0_number wsX0_number) := goodIn_app (goodIn_of _ (by decide +kernel)) ggX0_addPupil_X0_number
set_option maxRecDepth 20000 in
theorem ggX0_addPupil_X4_add : GoodIn wsX0_addPupil wsX4_add := goodIn_r _ [10] (by decide +kernel) (by decide +kernel)
set_option maxRecDepth 20000 in
theorem gX0_addPupil_X4_add_n86 : GoodIn wsX0_addPupil (wsX4_add) := ggX0_addPupil_X4_add
theorem dX0_addPupil_0 : decode cX0_addPupil 0 = .ok (.aload_n 0, 1) := by decide +kernel
theorem dX0_addPupil_1 : decode cX0_addPupil 1 = .ok (.iconst 1, 1) := by decide +kernel
theorem dX0_addPupil_2 : decode cX0_addPupil 2 = .ok (.invokevirtual 63, 3) := by decide +kernel
theorem dX0_addPupil_5 : decode cX0_addPupil 5 = .ok (.bipush 8, 2) := by decide +kernel
theorem dX0_addPupil_7 : decode cX0_addPupil 7 = .ok (.if_icmp .lt 6, 3) := by decide +kernel
theorem dX0_addPupil_10 : decode cX0_addPupil 10 = .ok (.ldc 85, 2) := by decide +kernel
theorem dX0_addPupil_12 : decode cX0_addPupil 12 = .ok (.ireturn, 1) := by decide +kernel
theorem dX0_addPupil_13 : decode cX0_addPupil 13 = .ok (.aload_n 0, 1) := by decide +kernel
theorem dX0_addPupil_14 : decode cX0_addPupil 14 = .ok (.getfield 9, 3) := by decide +kernel
theorem dX0_addPupil_17 : decode cX0_addPupil 17 = .ok (.iconst 1, 1) := by decide +kernel
theorem dX0_addPupil_18 : decode cX0_addPupil 18 = .ok (.iconst 1, 1) := by decide +kernel
theorem dX0_addPupil_19 : decode cX0_addPupil 19 = .ok (.invokestatic 86, 3) := by decide +kernel
theorem dX0_addPupil_22 : decode cX0_addPupil 22 = .ok (.aload_n 0, 1) := by decide +kernel
theorem dX0_addPupil_23 : decode cX0_addPupil 23 = .ok (.iconst 1, 1) := by decide +kernel
theorem dX0_addPupil_24 : decode cX0_addPupil 24 = .ok (.invokevirtual 63, 3) := by decide +kernel
theorem dX0_addPupil_27 : decode cX0_addPupil 27 = .ok (.iconst 1, 1) := by decide +kernel
theorem dX0_addPupil_28 : decode cX0_addPupil 28 = .ok (.isub, 1) := by decide +kernel
theorem dX0_addPupil_29 : decode cX0_addPupil 29 = .ok (.ireturn, 1) := by decide +kernel
set_option maxRecDepth 20000 in
theorem ggX0_giveGuarantor_X0_isPupil : GoodIn wsX0_giveGuarantor wsX0_isPupil := goodIn_r _ [7, 8, 9, 10, 6, 11, 12, 22, 23, 24, 25, 26, 27, 28, 29, 30, 31, 32, 33, 34] (by decide +kernel) (by decide +kernel)
set_option maxRecDepth 20000 in
theorem gX0_giveGuarantor_X0_isPupil : GoodIn wsX0_giveGuarantor (wsV RX0 66 RX0 yX0_isPupil wsX0_isPupil) := goodIn_app (goodIn_of _ (by decide +kernel)) ggX0_giveGuarantor_X0_isPupil
set_option maxRecDepth 20000 in
theorem ggX0_giveGuarantor_X0_isPair : GoodIn wsX0_giveGuarantor wsX0_isPair := goodIn_r _ [16, 3, 4, 5, 6, 7, 8, 9, 10, 11, 12, 22, 23, 24, 25, 26, 27, 28, 29, 30, 31, 32, 33, 34] (by decide +kernel) (by decide +kernel)
set_option maxRecDepth 20000 in
theorem gX0_giveGuarantor_X0_isPair : GoodIn wsX0_giveGuarantor (wsV RX0 89 RX0 yX0_isPair wsX0_isPair) := goodIn_app (goodIn_of _ (by decide +kernel)) ggX0_giveGuarantor_X0_isPair
set_option maxRecDepth 20000 in
theorem ggX0_giveGuarantor_X4_at : GoodIn wsX0_giveGuarantor wsX4_at := goodIn_r _ [19] (by decide +kernel) (by decide +kernel)
set_option maxRecDepth 20000 in
theorem gX0_giveGuarantor_X4_at_n77 : GoodIn wsX0_giveGuarantor (wsX4_at) := ggX0_giveGuarantor_X4_at
set_option maxRecDepth 20000 in
theorem ggX0_giveGuarantor_X4_put : GoodIn wsX0_giveGuarantor wsX4_put := goodIn_r _ [21] (by decide +kernel) (by decide +kernel)
set_option maxRecDepth 20000 in
theorem gX0_giveGuarantor_X4_put_n55 : GoodIn wsX0_giveGuarantor (wsX4_put) := ggX0_giveGuarantor_X4_put
theorem dX0_giveGuarantor_0 : decode cX0_giveGuarantor 0 = .ok (.aload_n 0, 1) := by decide +kernel
theorem dX0_giveGuarantor_1 : decode cX0_giveGuarantor 1 = .ok (.iload_n 1, 1) := by decide +kernel
theorem dX0_giveGuarantor_2 : decode cX0_giveGuarantor 2 = .ok (.invokevirtual 66, 3) := by decide +kernel
theorem dX0_giveGuarantor_5 : decode cX0_giveGuarantor 5 = .ok (.ifCond .eq 17, 3) := by decide +kernel
theorem dX0_giveGuarantor_8 : decode cX0_giveGuarantor 8 = .ok (.iload_n 2, 1) := by decide +kernel
theorem dX0_giveGuarantor_9 : decode cX0_giveGuarantor 9 = .ok (.iconst (-1), 1) := by decide +kernel
theorem dX0_giveGuarantor_10 : decode cX0_giveGuarantor 10 = .ok (.if_icmp .eq 15, 3) := by decide +kernel
theorem dX0_giveGuarantor_13 : decode cX0_giveGuarantor 13 = .ok (.aload_n 0, 1) := by decide +kernel
theorem dX0_giveGuarantor_14 : decode cX0_giveGuarantor 14 = .ok (.iload_n 1, 1) := by decide +kernel
theorem dX0_giveGuarantor_15 : decode cX0_giveGuarantor 15 = .ok (.iload_n 2, 1) := by decide +kernel
theorem dX0_giveGuarantor_16 : decode cX0_giveGuarantor 16 = .ok (.invokevirtual 89, 3) := by decide +kernel
theorem dX0_giveGuarantor_19 : decode cX0_giveGuarantor 19 = .ok (.ifCond .ne 6, 3) := by decide +kernel
theorem dX0_giveGuarantor_22 : decode cX0_giveGuarantor 22 = .ok (.ldc 93, 2) := by decide +kernel
theorem dX0_giveGuarantor_24 : decode cX0_giveGuarantor 24 = .ok (.ireturn, 1) := by decide +kernel
theorem dX0_giveGuarantor_25 : decode cX0_giveGuarantor 25 = .ok (.aload_n 0, 1) := by decide +kernel
theorem dX0_giveGuarantor_26 : decode cX0_giveGuarantor 26 = .ok (.getfield 24, 3) := by decide +kernel
theorem dX0_giveGuarantor_29 : decode cX0_giveGuarantor 29 = .ok (.iload_n 1, 1) := by decide +kernel
theorem dX0_giveGuarantor_30 : decode cX0_giveGuarantor 30 = .ok (.invokestatic 77, 3) := by decide +kernel
theorem dX0_giveGuarantor_33 : decode cX0_giveGuarantor 33 = .ok (.istore_n 3, 1) := by decide +kernel
theorem dX0_giveGuarantor_34 : decode cX0_giveGuarantor 34 = .ok (.aload_n 0, 1) := by decide +kernel
theorem dX0_giveGuarantor_35 : decode cX0_giveGuarantor 35 = .ok (.getfield 24, 3) := by decide +kernel
theorem dX0_giveGuarantor_38 : decode cX0_giveGuarantor 38 = .ok (.iload_n 1, 1) := by decide +kernel
theorem dX0_giveGuarantor_39 : decode cX0_giveGuarantor 39 = .ok (.iload_n 2, 1) := by decide +kernel
theorem dX0_giveGuarantor_40 : decode cX0_giveGuarantor 40 = .ok (.iconst 1, 1) := by decide +kernel
theorem dX0_giveGuarantor_41 : decode cX0_giveGuarantor 41 = .ok (.iadd, 1) := by decide +kernel
theorem dX0_giveGuarantor_42 : decode cX0_giveGuarantor 42 = .ok (.invokestatic 55, 3) := by decide +kernel
theorem dX0_giveGuarantor_45 : decode cX0_giveGuarantor 45 = .ok (.iload_n 3, 1) := by decide +kernel
theorem dX0_giveGuarantor_46 : decode cX0_giveGuarantor 46 = .ok (.ireturn, 1) := by decide +kernel
set_option maxRecDepth 20000 in
theorem ggX0_balanceByLots_X0_sumOwed : GoodIn wsX0_balanceByLots wsX0_sumOwed := goodIn_r _ [5, 6, 7, 8, 9, 4, 10, 11, 12, 13, 14, 15, 16, 17, 18, 19, 20, 21, 22, 23, 24, 25, 26, 27, 28, 29, 30, 31, 32, 33, 34] (by decide +kernel) (by decide +kernel)
set_option maxRecDepth 20000 in
theorem gX0_balanceByLots_X0_sumOwed : GoodIn wsX0_balanceByLots (wsV RX0 70 RX0 yX0_sumOwed wsX0_sumOwed) := goodIn_app (goodIn_of _ (by decide +kernel)) ggX0_balanceByLots_X0_sumOwed
theorem dX0_balanceByLots_0 : decode cX0_balanceByLots 0 = .ok (.aload_n 0, 1) := by decide +kernel
theorem dX0_balanceByLots_1 : decode cX0_balanceByLots 1 = .ok (.iconst (-1), 1) := by decide +kernel
theorem dX0_balanceByLots_2 : decode cX0_balanceByLots 2 = .ok (.iload_n 1, 1) := by decide +kernel
theorem dX0_balanceByLots_3 : decode cX0_balanceByLots 3 = .ok (.iconst (-1), 1) := by decide +kernel
theorem dX0_balanceByLots_4 : decode cX0_balanceByLots 4 = .ok (.invokevirtual 70, 3) := by decide +kernel
theorem dX0_balanceByLots_7 : decode cX0_balanceByLots 7 = .ok (.aload_n 0, 1) := by decide +kernel
theorem dX0_balanceByLots_8 : decode cX0_balanceByLots 8 = .ok (.iload_n 1, 1) := by decide +kernel
theorem dX0_balanceByLots_9 : decode cX0_balanceByLots 9 = .ok (.iconst (-1), 1) := by decide +kernel
theorem dX0_balanceByLots_10 : decode cX0_balanceByLots 10 = .ok (.iconst (-1), 1) := by decide +kernel
theorem dX0_balanceByLots_11 : decode cX0_balanceByLots 11 = .ok (.invokevirtual 70, 3) := by decide +kernel
theorem dX0_balanceByLots_14 : decode cX0_balanceByLots 14 = .ok (.isub, 1) := by decide +kernel
theorem dX0_balanceByLots_15 : decode cX0_balanceByLots 15 = .ok (.ireturn, 1) := by decide +kernel
set_option maxRecDepth 20000 in
theorem ggX0_rankOf_X0_balanceByLots : GoodIn wsX0_rankOf wsX0_balanceByLots := goodIn_r _ [5, 6, 7, 8, 4, 9, 10, 11, 12, 13, 14, 15, 16, 17, 18, 19, 20, 21, 22, 23, 24, 25, 26, 27, 28, 29, 30, 31, 32, 33, 34, 35, 36, 37, 38] (by decide +kernel) (by decide +kernel)
set_option maxRecDepth 20000 in
theorem gX0_rankOf_X0_balanceByLots : GoodIn wsX0_rankOf (wsV RX0 74 RX0 yX0_balanceByLots wsX0_balanceByLots) := goodIn_app (goodIn_of _ (by decide +kernel)) ggX0_rankOf_X0_balanceByLots
set_option maxRecDepth 20000 in
theorem ggX0_rankOf_X0_number : GoodIn wsX0_rankOf wsX0_number := goodIn_r _ [14, 15, 26, 27, 28, 29, 30, 31, 32, 33, 34, 35, 36, 37, 38] (by decide +kernel) (by decide +kernel)
set_option maxRecDepth 20000 in
theorem gX0_rankOf_X0_number : GoodIn wsX0_rankOf (wsV RX0 63 RX0 yX0_number wsX0_number) := goodIn_app (goodIn_of _ (by decide +kernel)) ggX0_rankOf_X0_number
theorem dX0_rankOf_0 : decode cX0_rankOf 0 = .ok (.aload_n 0, 1) := by decide +kernel
theorem dX0_rankOf_1 : decode cX0_rankOf 1 = .ok (.iload_n 1, 1) := by decide +kernel
theorem dX0_rankOf_2 : decode cX0_rankOf 2 = .ok (.invokevirtual 74, 3) := by decide +kernel
theorem dX0_rankOf_5 : decode cX0_rankOf 5 = .ok (.istore_n 2, 1) := by decide +kernel
theorem dX0_rankOf_6 : decode cX0_rankOf 6 = .ok (.iconst 0, 1) := by decide +kernel
theorem dX0_rankOf_7 : decode cX0_rankOf 7 = .ok (.istore_n 3, 1) := by decide +kernel
theorem dX0_rankOf_8 : decode cX0_rankOf 8 = .ok (.iconst 0, 1) := by decide +kernel
theorem dX0_rankOf_9 : decode cX0_rankOf 9 = .ok (.istore 4, 2) := by decide +kernel
theorem dX0_rankOf_11 : decode cX0_rankOf 11 = .ok (.iload 4, 2) := by decide +kernel
theorem dX0_rankOf_13 : decode cX0_rankOf 13 = .ok (.aload_n 0, 1) := by decide +kernel
theorem dX0_rankOf_14 : decode cX0_rankOf 14 = .ok (.iconst 1, 1) := by decide +kernel
theorem dX0_rankOf_15 : decode cX0_rankOf 15 = .ok (.invokevirtual 63, 3) := by decide +kernel
theorem dX0_rankOf_18 : decode cX0_rankOf 18 = .ok (.if_icmp .ge 38, 3) := by decide +kernel
theorem dX0_rankOf_21 : decode cX0_rankOf 21 = .ok (.aload_n 0, 1) := by decide +kernel
theorem dX0_rankOf_22 : decode cX0_rankOf 22 = .ok (.iload 4, 2) := by decide +kernel
theorem dX0_rankOf_24 : decode cX0_rankOf 24 = .ok (.invokevirtual 74, 3) := by decide +kernel
theorem dX0_rankOf_27 : decode cX0_rankOf 27 = .ok (.istore 5, 2) := by decide +kernel
theorem dX0_rankOf_29 : decode cX0_rankOf 29 = .ok (.iload 5, 2) := by decide +kernel
theorem dX0_rankOf_31 : decode cX0_rankOf 31 = .ok (.iload_n 2, 1) := by decide +kernel
theorem dX0_rankOf_32 : decode cX0_rankOf 32 = .ok (.if_icmp .gt 15, 3) := by decide +kernel
theorem dX0_rankOf_35 : decode cX0_rankOf 35 = .ok (.iload 5, 2) := by decide +kernel
theorem dX0_rankOf_37 : decode cX0_rankOf 37 = .ok (.iload_n 2, 1) := by decide +kernel
theorem dX0_rankOf_38 : decode cX0_rankOf 38 = .ok (.if_icmp .ne 12, 3) := by decide +kernel
theorem dX0_rankOf_41 : decode cX0_rankOf 41 = .ok (.iload 4, 2) := by decide +kernel
theorem dX0_rankOf_43 : decode cX0_rankOf 43 = .ok (.iload_n 1, 1) := by decide +kernel
theorem dX0_rankOf_44 : decode cX0_rankOf 44 = .ok (.if_icmp .ge 6, 3) := by decide +kernel
theorem dX0_rankOf_47 : decode cX0_rankOf 47 = .ok (.iinc 3 1, 3) := by decide +kernel
theorem dX0_rankOf_50 : decode cX0_rankOf 50 = .ok (.iinc 4 1, 3) := by decide +kernel
theorem dX0_rankOf_53 : decode cX0_rankOf 53 = .ok (.goto (-42), 3) := by decide +kernel
theorem dX0_rankOf_56 : decode cX0_rankOf 56 = .ok (.iload_n 3, 1) := by decide +kernel
theorem dX0_rankOf_57 : decode cX0_rankOf 57 = .ok (.ireturn, 1) := by decide +kernel
set_option maxRecDepth 20000 in
theorem ggX0_tellOfLot_X4_at : GoodIn wsX0_tellOfLot wsX4_at := goodIn_r _ [9] (by decide +kernel) (by decide +kernel)
set_option maxRecDepth 20000 in
theorem gX0_tellOfLot_X4_at_n77 : GoodIn wsX0_tellOfLot (wsX4_at) := ggX0_tellOfLot_X4_at
theorem dX0_tellOfLot_0 : decode cX0_tellOfLot 0 = .ok (.iload_n 2, 1) := by decide +kernel
theorem dX0_tellOfLot_1 : decode cX0_tellOfLot 1 = .ok (.tableswitch 80 0 4 #[35, 44, 53, 62, 71], 35) := by decide +kernel
theorem dX0_tellOfLot_36 : decode cX0_tellOfLot 36 = .ok (.aload_n 0, 1) := by decide +kernel
theorem dX0_tellOfLot_37 : decode cX0_tellOfLot 37 = .ok (.getfield 33, 3) := by decide +kernel
theorem dX0_tellOfLot_40 : decode cX0_tellOfLot 40 = .ok (.iload_n 1, 1) := by decide +kernel
theorem dX0_tellOfLot_41 : decode cX0_tellOfLot 41 = .ok (.invokestatic 77, 3) := by decide +kernel
theorem dX0_tellOfLot_44 : decode cX0_tellOfLot 44 = .ok (.ireturn, 1) := by decide +kernel
theorem dX0_tellOfLot_45 : decode cX0_tellOfLot 45 = .ok (.aload_n 0, 1) := by decide +kernel
theorem dX0_tellOfLot_46 : decode cX0_tellOfLot 46 = .ok (.getfield 36, 3) := by decide +kernel
theorem dX0_tellOfLot_49 : decode cX0_tellOfLot 49 = .ok (.iload_n 1, 1) := by decide +kernel
theorem dX0_tellOfLot_50 : decode cX0_tellOfLot 50 = .ok (.invokestatic 77, 3) := by decide +kernel
theorem dX0_tellOfLot_53 : decode cX0_tellOfLot 53 = .ok (.ireturn, 1) := by decide +kernel
theorem dX0_tellOfLot_54 : decode cX0_tellOfLot 54 = .ok (.aload_n 0, 1) := by decide +kernel
theorem dX0_tellOfLot_55 : decode cX0_tellOfLot 55 = .ok (.getfield 39, 3) := by decide +kernel
theorem dX0_tellOfLot_58 : decode cX0_tellOfLot 58 = .ok (.iload_n 1, 1) := by decide +kernel
theorem dX0_tellOfLot_59 : decode cX0_tellOfLot 59 = .ok (.invokestatic 77, 3) := by decide +kernel
theorem dX0_tellOfLot_62 : decode cX0_tellOfLot 62 = .ok (.ireturn, 1) := by decide +kernel
theorem dX0_tellOfLot_63 : decode cX0_tellOfLot 63 = .ok (.aload_n 0, 1) := by decide +kernel
theorem dX0_tellOfLot_64 : decode cX0_tellOfLot 64 = .ok (.getfield 42, 3) := by decide +kernel
theorem dX0_tellOfLot_67 : decode cX0_tellOfLot 67 = .ok (.iload_n 1, 1) := by decide +kernel
theorem dX0_tellOfLot_68 : decode cX0_tellOfLot 68 = .ok (.invokestatic 77, 3) := by decide +kernel
theorem dX0_tellOfLot_71 : decode cX0_tellOfLot 71 = .ok (.ireturn, 1) := by decide +kernel
theorem dX0_tellOfLot_72 : decode cX0_tellOfLot 72 = .ok (.aload_n 0, 1) := by decide +kernel
theorem dX0_tellOfLot_73 : decode cX0_tellOfLot 73 = .ok (.getfield 45, 3) := by decide +kernel
theorem dX0_tellOfLot_76 : decode cX0_tellOfLot 76 = .ok (.iload_n 1, 1) := by decide +kernel
theorem dX0_tellOfLot_77 : decode cX0_tellOfLot 77 = .ok (.invokestatic 77, 3) := by decide +kernel
theorem dX0_tellOfLot_80 : decode cX0_tellOfLot 80 = .ok (.ireturn, 1) := by decide +kernel
theorem dX0_tellOfLot_81 : decode cX0_tellOfLot 81 = .ok (.aload_n 0, 1) := by decide +kernel
theorem dX0_tellOfLot_82 : decode cX0_tellOfLot 82 = .ok (.getfield 48, 3) := by decide +kernel
theorem dX0_tellOfLot_85 : decode cX0_tellOfLot 85 = .ok (.iload_n 1, 1) := by decide +kernel
theorem dX0_tellOfLot_86 : decode cX0_tellOfLot 86 = .ok (.invokestatic 77, 3) := by decide +kernel
theorem dX0_tellOfLot_89 : decode cX0_tellOfLot 89 = .ok (.ireturn, 1) := by decide +kernel
theorem dX0_isLotOf_0 : decode cX0_isLotOf 0 = .ok (.iload_n 1, 1) := by decide +kernel
theorem dX0_isLotOf_1 : decode cX0_isLotOf 1 = .ok (.ifCond .lt 9, 3) := by decide +kernel
theorem dX0_isLotOf_4 : decode cX0_isLotOf 4 = .ok (.iload_n 1, 1) := by decide +kernel
theorem dX0_isLotOf_5 : decode cX0_isLotOf 5 = .ok (.bipush 40, 2) := by decide +kernel
theorem dX0_isLotOf_7 : decode cX0_isLotOf 7 = .ok (.if_icmp .lt 5, 3) := by decide +kernel
theorem dX0_isLotOf_10 : decode cX0_isLotOf 10 = .ok (.iconst 0, 1) := by decide +kernel
theorem dX0_isLotOf_11 : decode cX0_isLotOf 11 = .ok (.ireturn, 1) := by decide +kernel
theorem dX0_isLotOf_12 : decode cX0_isLotOf 12 = .ok (.iload_n 2, 1) := by decide +kernel
theorem dX0_isLotOf_13 : decode cX0_isLotOf 13 = .ok (.iconst (-1), 1) := by decide +kernel
theorem dX0_isLotOf_14 : decode cX0_isLotOf 14 = .ok (.if_icmp .eq 13, 3) := by decide +kernel
theorem dX0_isLotOf_17 : decode cX0_isLotOf 17 = .ok (.iload_n 2, 1) := by decide +kernel
theorem dX0_isLotOf_18 : decode cX0_isLotOf 18 = .ok (.aload_n 0, 1) := by decide +kernel
theorem dX0_isLotOf_19 : decode cX0_isLotOf 19 = .ok (.getfield 33, 3) := by decide +kernel
theorem dX0_isLotOf_22 : decode cX0_isLotOf 22 = .ok (.iload_n 1, 1) := by decide +kernel
theorem dX0_isLotOf_23 : decode cX0_isLotOf 23 = .ok (.iaload, 1) := by decide +kernel
theorem dX0_isLotOf_24 : decode cX0_isLotOf 24 = .ok (.if_icmp .ne 39, 3) := by decide +kernel
theorem dX0_isLotOf_27 : decode cX0_isLotOf 27 = .ok (.iload_n 3, 1) := by decide +kernel
theorem dX0_isLotOf_28 : decode cX0_isLotOf 28 = .ok (.iconst (-1), 1) := by decide +kernel
theorem dX0_isLotOf_29 : decode cX0_isLotOf 29 = .ok (.if_icmp .eq 13, 3) := by decide +kernel
theorem dX0_isLotOf_32 : decode cX0_isLotOf 32 = .ok (.iload_n 3, 1) := by decide +kernel
theorem dX0_isLotOf_33 : decode cX0_isLotOf 33 = .ok (.aload_n 0, 1) := by decide +kernel
theorem dX0_isLotOf_34 : decode cX0_isLotOf 34 = .ok (.getfield 36, 3) := by decide +kernel
theorem dX0_isLotOf_37 : decode cX0_isLotOf 37 = .ok (.iload_n 1, 1) := by decide +kernel
theorem dX0_isLotOf_38 : decode cX0_isLotOf 38 = .ok (.iaload, 1) := by decide +kernel
theorem dX0_isLotOf_39 : decode cX0_isLotOf 39 = .ok (.if_icmp .ne 24, 3) := by decide +kernel
theorem dX0_isLotOf_42 : decode cX0_isLotOf 42 = .ok (.iload 4, 2) := by decide +kernel
theorem dX0_isLotOf_44 : decode cX0_isLotOf 44 = .ok (.iconst (-1), 1) := by decide +kernel
theorem dX0_isLotOf_45 : decode cX0_isLotOf 45 = .ok (.if_icmp .eq 14, 3) := by decide +kernel
theorem dX0_isLotOf_48 : decode cX0_isLotOf 48 = .ok (.iload 4, 2) := by decide +kernel
theorem dX0_isLotOf_50 : decode cX0_isLotOf 50 = .ok (.aload_n 0, 1) := by decide +kernel
theorem dX0_isLotOf_51 : decode cX0_isLotOf 51 = .ok (.getfield 39, 3) := by decide +kernel
theorem dX0_isLotOf_54 : decode cX0_isLotOf 54 = .ok (.iload_n 1, 1) := by decide +kernel
theorem dX0_isLotOf_55 : decode cX0_isLotOf 55 = .ok (.iaload, 1) := by decide +kernel
theorem dX0_isLotOf_56 : decode cX0_isLotOf 56 = .ok (.if_icmp .ne 7, 3) := by decide +kernel
theorem dX0_isLotOf_59 : decode cX0_isLotOf 59 = .ok (.iconst 1, 1) := by decide +kernel
theorem dX0_isLotOf_60 : decode cX0_isLotOf 60 = .ok (.goto 4, 3) := by decide +kernel
theorem dX0_isLotOf_63 : decode cX0_isLotOf 63 = .ok (.iconst 0, 1) := by decide +kernel
theorem dX0_isLotOf_64 : decode cX0_isLotOf 64 = .ok (.ireturn, 1) := by decide +kernel
set_option maxRecDepth 20000 in
theorem ggX0_sumOwed_X0_number : GoodIn wsX0_sumOwed wsX0_number := goodIn_r _ [6, 7, 18, 19, 20, 21, 22, 23, 24, 25, 26, 27, 28, 29, 30] (by decide +kernel) (by decide +kernel)
set_option maxRecDepth 20000 in
theorem gX0_sumOwed_X0_number : GoodIn wsX0_sumOwed (wsV RX0 63 RX0 yX0_number wsX0_number) := goodIn_app (goodIn_of _ (by decide +kernel)) ggX0_sumOwed_X0_number
set_option maxRecDepth 20000 in
theorem ggX0_sumOwed_X0_isLotOf : GoodIn wsX0_sumOwed wsX0_isLotOf := goodIn_r _ [11, 12, 13, 14, 18, 19, 20, 21, 22, 23, 24, 25, 26, 27, 28, 29, 30] (by decide +kernel) (by decide +kernel)
set_option maxRecDepth 20000 in
theorem gX0_sumOwed_X0_isLotOf : GoodIn wsX0_sumOwed (wsV RX0 94 RX0 yX0_isLotOf wsX0_isLotOf) := goodIn_app (goodIn_of _ (by decide +kernel)) ggX0_sumOwed_X0_isLotOf
set_option maxRecDepth 20000 in
theorem ggX0_sumOwed_X4_at : GoodIn wsX0_sumOwed wsX4_at := goodIn_r _ [17] (by decide +kernel) (by decide +kernel)
set_option maxRecDepth 20000 in
theorem gX0_sumOwed_X4_at_n77 : GoodIn wsX0_sumOwed (wsX4_at) := ggX0_sumOwed_X4_at
theorem dX0_sumOwed_0 : decode cX0_sumOwed 0 = .ok (.iconst 0, 1) := by decide +kernel
theorem dX0_sumOwed_1 : decode cX0_sumOwed 1 = .ok (.istore 4, 2) := by decide +kernel
theorem dX0_sumOwed_3 : decode cX0_sumOwed 3 = .ok (.iconst 0, 1) := by decide +kernel
theorem dX0_sumOwed_4 : decode cX0_sumOwed 4 = .ok (.istore 5, 2) := by decide +kernel
theorem dX0_sumOwed_6 : decode cX0_sumOwed 6 = .ok (.iload 5, 2) := by decide +kernel
theorem dX0_sumOwed_8 : decode cX0_sumOwed 8 = .ok (.aload_n 0, 1) := by decide +kernel
theorem dX0_sumOwed_9 : decode cX0_sumOwed 9 = .ok (.iconst 2, 1) := by decide +kernel
theorem dX0_sumOwed_10 : decode cX0_sumOwed 10 = .ok (.invokevirtual 63, 3) := by decide +kernel
theorem dX0_sumOwed_13 : decode cX0_sumOwed 13 = .ok (.if_icmp .ge 35, 3) := by decide +kernel
theorem dX0_sumOwed_16 : decode cX0_sumOwed 16 = .ok (.aload_n 0, 1) := by decide +kernel
theorem dX0_sumOwed_17 : decode cX0_sumOwed 17 = .ok (.iload 5, 2) := by decide +kernel
theorem dX0_sumOwed_19 : decode cX0_sumOwed 19 = .ok (.iload_n 1, 1) := by decide +kernel
theorem dX0_sumOwed_20 : decode cX0_sumOwed 20 = .ok (.iload_n 2, 1) := by decide +kernel
theorem dX0_sumOwed_21 : decode cX0_sumOwed 21 = .ok (.iload_n 3, 1) := by decide +kernel
theorem dX0_sumOwed_22 : decode cX0_sumOwed 22 = .ok (.invokevirtual 94, 3) := by decide +kernel
theorem dX0_sumOwed_25 : decode cX0_sumOwed 25 = .ok (.ifCond .eq 17, 3) := by decide +kernel
theorem dX0_sumOwed_28 : decode cX0_sumOwed 28 = .ok (.iload 4, 2) := by decide +kernel
theorem dX0_sumOwed_30 : decode cX0_sumOwed 30 = .ok (.aload_n 0, 1) := by decide +kernel
theorem dX0_sumOwed_31 : decode cX0_sumOwed 31 = .ok (.getfield 42, 3) := by decide +kernel
theorem dX0_sumOwed_34 : decode cX0_sumOwed 34 = .ok (.iload 5, 2) := by decide +kernel
theorem dX0_sumOwed_36 : decode cX0_sumOwed 36 = .ok (.invokestatic 77, 3) := by decide +kernel
theorem dX0_sumOwed_39 : decode cX0_sumOwed 39 = .ok (.iadd, 1) := by decide +kernel
theorem dX0_sumOwed_40 : decode cX0_sumOwed 40 = .ok (.istore 4, 2) := by decide +kernel
theorem dX0_sumOwed_42 : decode cX0_sumOwed 42 = .ok (.iinc 5 1, 3) := by decide +kernel
theorem dX0_sumOwed_45 : decode cX0_sumOwed 45 = .ok (.goto (-39), 3) := by decide +kernel
theorem dX0_sumOwed_48 : decode cX0_sumOwed 48 = .ok (.iload 4, 2) := by decide +kernel
theorem dX0_sumOwed_50 : decode cX0_sumOwed 50 = .ok (.ireturn, 1) := by decide +kernel
set_option maxRecDepth 20000 in
theorem ggX0_sumOfAges_X0_number : GoodIn wsX0_sumOfAges wsX0_number := goodIn_r _ [7, 8, 12, 13, 14, 15, 16, 17, 18, 19, 20, 21, 22, 23, 24] (by decide +kernel) (by decide +kernel)
set_option maxRecDepth 20000 in
theorem gX0_sumOfAges_X0_number : GoodIn wsX0_sumOfAges (wsV RX0 63 RX0 yX0_number wsX0_number) := goodIn_app (goodIn_of _ (by decide +kernel)) ggX0_sumOfAges_X0_number
set_option maxRecDepth 20000 in
theorem ggX0_sumOfAges_X4_at : GoodIn wsX0_sumOfAges wsX4_at := goodIn_r _ [11] (by decide +kernel) (by decide +kernel)
set_option maxRecDepth 20000 in
theorem gX0_sumOfAges_X4_at_n77 : GoodIn wsX0_sumOfAges (wsX4_at) := ggX0_sumOfAges_X4_at
theorem dX0_sumOfAges_0 : decode cX0_sumOfAges 0 = .ok (.iconst 0, 1) := by decide +kernel
theorem dX0_sumOfAges_1 : decode cX0_sumOfAges 1 = .ok (.istore_n 1, 1) := by decide +kernel
theorem dX0_sumOfAges_2 : decode cX0_sumOfAges 2 = .ok (.iconst 0, 1) := by decide +kernel
theorem dX0_sumOfAges_3 : decode cX0_sumOfAges 3 = .ok (.istore_n 2, 1) := by decide +kernel
theorem dX0_sumOfAges_4 : decode cX0_sumOfAges 4 = .ok (.iload_n 2, 1) := by decide +kernel
theorem dX0_sumOfAges_5 : decode cX0_sumOfAges 5 = .ok (.aload_n 0, 1) := by decide +kernel
theorem dX0_sumOfAges_6 : decode cX0_sumOfAges 6 = .ok (.iconst 2, 1) := by decide +kernel
theorem dX0_sumOfAges_7 : decode cX0_sumOfAges 7 = .ok (.invokevirtual 63, 3) := by decide +kernel
theorem dX0_sumOfAges_10 : decode cX0_sumOfAges 10 = .ok (.if_icmp .ge 29, 3) := by decide +kernel
theorem dX0_sumOfAges_13 : decode cX0_sumOfAges 13 = .ok (.iload_n 1, 1) := by decide +kernel
theorem dX0_sumOfAges_14 : decode cX0_sumOfAges 14 = .ok (.aload_n 0, 1) := by decide +kernel
theorem dX0_sumOfAges_15 : decode cX0_sumOfAges 15 = .ok (.getfield 42, 3) := by decide +kernel
theorem dX0_sumOfAges_18 : decode cX0_sumOfAges 18 = .ok (.iload_n 2, 1) := by decide +kernel
theorem dX0_sumOfAges_19 : decode cX0_sumOfAges 19 = .ok (.invokestatic 77, 3) := by decide +kernel
theorem dX0_sumOfAges_22 : decode cX0_sumOfAges 22 = .ok (.aload_n 0, 1) := by decide +kernel
theorem dX0_sumOfAges_23 : decode cX0_sumOfAges 23 = .ok (.getfield 45, 3) := by decide +kernel
theorem dX0_sumOfAges_26 : decode cX0_sumOfAges 26 = .ok (.iload_n 2, 1) := by decide +kernel
theorem dX0_sumOfAges_27 : decode cX0_sumOfAges 27 = .ok (.invokestatic 77, 3) := by decide +kernel
theorem dX0_sumOfAges_30 : decode cX0_sumOfAges 30 = .ok (.imul, 1) := by decide +kernel
theorem dX0_sumOfAges_31 : decode cX0_sumOfAges 31 = .ok (.iadd, 1) := by decide +kernel
theorem dX0_sumOfAges_32 : decode cX0_sumOfAges 32 = .ok (.istore_n 1, 1) := by decide +kernel
theorem dX0_sumOfAges_33 : decode cX0_sumOfAges 33 = .ok (.iinc 2 1, 3) := by decide +kernel
theorem dX0_sumOfAges_36 : decode cX0_sumOfAges 36 = .ok (.goto (-32), 3) := by decide +kernel
theorem dX0_sumOfAges_39 : decode cX0_sumOfAges 39 = .ok (.iload_n 1, 1) := by decide +kernel
theorem dX0_sumOfAges_40 : decode cX0_sumOfAges 40 = .ok (.ireturn, 1) := by decide +kernel
set_option maxRecDepth 20000 in
theorem ggX0_weeksLeft_X4_at : GoodIn wsX0_weeksLeft wsX4_at := goodIn_r _ [5] (by decide +kernel) (by decide +kernel)
set_option maxRecDepth 20000 in
theorem gX0_weeksLeft_X4_at_n77 : GoodIn wsX0_weeksLeft (wsX4_at) := ggX0_weeksLeft_X4_at
set_option maxRecDepth 20000 in
theorem ggX0_weeksLeft_X0_number : GoodIn wsX0_weeksLeft wsX0_number := goodIn_r _ [10, 11, 12, 13, 14, 15, 16, 17, 18, 19, 20, 21, 22, 23, 24] (by decide +kernel) (by decide +kernel)
set_option maxRecDepth 20000 in
theorem gX0_weeksLeft_X0_number : GoodIn wsX0_weeksLeft (wsV RX0 63 RX0 yX0_number wsX0_number) := goodIn_app (goodIn_of _ (by decide +kernel)) ggX0_weeksLeft_X0_number
theorem dX0_weeksLeft_0 : decode cX0_weeksLeft 0 = .ok (.aload_n 0, 1) := by decide +kernel
theorem dX0_weeksLeft_1 : decode cX0_weeksLeft 1 = .ok (.bipush 20, 2) := by decide +kernel
theorem dX0_weeksLeft_3 : decode cX0_weeksLeft 3 = .ok (.aload_n 0, 1) := by decide +kernel
theorem dX0_weeksLeft_4 : decode cX0_weeksLeft 4 = .ok (.getfield 39, 3) := by decide +kernel
theorem dX0_weeksLeft_7 : decode cX0_weeksLeft 7 = .ok (.iload_n 1, 1) := by decide +kernel
theorem dX0_weeksLeft_8 : decode cX0_weeksLeft 8 = .ok (.invokestatic 77, 3) := by decide +kernel
theorem dX0_weeksLeft_11 : decode cX0_weeksLeft 11 = .ok (.iadd, 1) := by decide +kernel
theorem dX0_weeksLeft_12 : decode cX0_weeksLeft 12 = .ok (.invokevirtual 63, 3) := by decide +kernel
theorem dX0_weeksLeft_15 : decode cX0_weeksLeft 15 = .ok (.aload_n 0, 1) := by decide +kernel
theorem dX0_weeksLeft_16 : decode cX0_weeksLeft 16 = .ok (.getfield 45, 3) := by decide +kernel
theorem dX0_weeksLeft_19 : decode cX0_weeksLeft 19 = .ok (.iload_n 1, 1) := by decide +kernel
theorem dX0_weeksLeft_20 : decode cX0_weeksLeft 20 = .ok (.invokestatic 77, 3) := by decide +kernel
theorem dX0_weeksLeft_23 : decode cX0_weeksLeft 23 = .ok (.isub, 1) := by decide +kernel
theorem dX0_weeksLeft_24 : decode cX0_weeksLeft 24 = .ok (.ireturn, 1) := by decide +kernel
set_option maxRecDepth 20000 in
theorem ggX0_weeksUntilNextSpoils_X0_number : GoodIn wsX0_weeksUntilNextSpoils wsX0_number := goodIn_r _ [12, 13, 29, 30, 31, 32, 33, 34, 35, 36, 37, 38, 39, 40, 41] (by decide +kernel) (by decide +kernel)
set_option maxRecDepth 20000 in
theorem gX0_weeksUntilNextSpoils_X0_number : GoodIn wsX0_weeksUntilNextSpoils (wsV RX0 63 RX0 yX0_number wsX0_number) := goodIn_app (goodIn_of _ (by decide +kernel)) ggX0_weeksUntilNextSpoils_X0_number
set_option maxRecDepth 20000 in
theorem ggX0_weeksUntilNextSpoils_X0_isLotOf : GoodIn wsX0_weeksUntilNextSpoils wsX0_isLotOf := goodIn_r _ [17, 18, 19, 20, 29, 30, 31, 32, 33, 34, 35, 36, 37, 38, 39, 40, 41] (by decide +kernel) (by decide +kernel)
set_option maxRecDepth 20000 in
theorem gX0_weeksUntilNextSpoils_X0_isLotOf : GoodIn wsX0_weeksUntilNextSpoils (wsV RX0 94 RX0 yX0_isLotOf wsX0_isLotOf) := goodIn_app (goodIn_of _ (by decide +kernel)) ggX0_weeksUntilNextSpoils_X0_isLotOf
set_option maxRecDepth 20000 in
theorem ggX0_weeksUntilNextSpoils_X0_weeksLeft : GoodIn wsX0_weeksUntilNextSpoils wsX0_weeksLeft := goodIn_r _ [24, 20, 25, 26, 27, 28, 8, 9, 10, 11, 12, 13, 29, 30, 31, 32, 33, 34, 35, 36, 37, 38, 39, 40, 41] (by decide +kernel) (by decide +kernel)
set_option maxRecDepth 20000 in
theorem gX0_weeksUntilNextSpoils_X0_weeksLeft : GoodIn wsX0_weeksUntilNextSpoils (wsV RX0 98 RX0 yX0_weeksLeft wsX0_weeksLeft) := goodIn_app (goodIn_of _ (by decide +kernel)) ggX0_weeksUntilNextSpoils_X0_weeksLeft
theorem dX0_weeksUntilNextSpoils_0 : decode cX0_weeksUntilNextSpoils 0 = .ok (.iconst 0, 1) := by decide +kernel
theorem dX0_weeksUntilNextSpoils_1 : decode cX0_weeksUntilNextSpoils 1 = .ok (.istore_n 2, 1) := by decide +kernel
theorem dX0_weeksUntilNextSpoils_2 : decode cX0_weeksUntilNextSpoils 2 = .ok (.iconst 0, 1) := by decide +kernel
theorem dX0_weeksUntilNextSpoils_3 : decode cX0_weeksUntilNextSpoils 3 = .ok (.istore_n 3, 1) := by decide +kernel
theorem dX0_weeksUntilNextSpoils_4 : decode cX0_weeksUntilNextSpoils 4 = .ok (.iload_n 3, 1) := by decide +kernel
theorem dX0_weeksUntilNextSpoils_5 : decode cX0_weeksUntilNextSpoils 5 = .ok (.aload_n 0, 1) := by decide +kernel
theorem dX0_weeksUntilNextSpoils_6 : decode cX0_weeksUntilNextSpoils 6 = .ok (.iconst 2, 1) := by decide +kernel
theorem dX0_weeksUntilNextSpoils_7 : decode cX0_weeksUntilNextSpoils 7 = .ok (.invokevirtual 63, 3) := by decide +kernel
theorem dX0_weeksUntilNextSpoils_10 : decode cX0_weeksUntilNextSpoils 10 = .ok (.if_icmp .ge 47, 3) := by decide +kernel
theorem dX0_weeksUntilNextSpoils_13 : decode cX0_weeksUntilNextSpoils 13 = .ok (.aload_n 0, 1) := by decide +kernel
theorem dX0_weeksUntilNextSpoils_14 : decode cX0_weeksUntilNextSpoils 14 = .ok (.iload_n 3, 1) := by decide +kernel
theorem dX0_weeksUntilNextSpoils_15 : decode cX0_weeksUntilNextSpoils 15 = .ok (.iload_n 1, 1) := by decide +kernel
theorem dX0_weeksUntilNextSpoils_16 : decode cX0_weeksUntilNextSpoils 16 = .ok (.iconst (-1), 1) := by decide +kernel
theorem dX0_weeksUntilNextSpoils_17 : decode cX0_weeksUntilNextSpoils 17 = .ok (.iconst (-1), 1) := by decide +kernel
theorem dX0_weeksUntilNextSpoils_18 : decode cX0_weeksUntilNextSpoils 18 = .ok (.invokevirtual 94, 3) := by decide +kernel
theorem dX0_weeksUntilNextSpoils_21 : decode cX0_weeksUntilNextSpoils 21 = .ok (.ifCond .eq 30, 3) := by decide +kernel
theorem dX0_weeksUntilNextSpoils_24 : decode cX0_weeksUntilNextSpoils 24 = .ok (.iconst 1, 1) := by decide +kernel
theorem dX0_weeksUntilNextSpoils_25 : decode cX0_weeksUntilNextSpoils 25 = .ok (.aload_n 0, 1) := by decide +kernel
theorem dX0_weeksUntilNextSpoils_26 : decode cX0_weeksUntilNextSpoils 26 = .ok (.iload_n 3, 1) := by decide +kernel
theorem dX0_weeksUntilNextSpoils_27 : decode cX0_weeksUntilNextSpoils 27 = .ok (.invokevirtual 98, 3) := by decide +kernel
theorem dX0_weeksUntilNextSpoils_30 : decode cX0_weeksUntilNextSpoils 30 = .ok (.invokestatic 101, 3) := by decide +kernel
theorem dX0_weeksUntilNextSpoils_33 : decode cX0_weeksUntilNextSpoils 33 = .ok (.istore 4, 2) := by decide +kernel
theorem dX0_weeksUntilNextSpoils_35 : decode cX0_weeksUntilNextSpoils 35 = .ok (.iload_n 2, 1) := by decide +kernel
theorem dX0_weeksUntilNextSpoils_36 : decode cX0_weeksUntilNextSpoils 36 = .ok (.ifCond .ne 8, 3) := by decide +kernel
theorem dX0_weeksUntilNextSpoils_39 : decode cX0_weeksUntilNextSpoils 39 = .ok (.iload 4, 2) := by decide +kernel
theorem dX0_weeksUntilNextSpoils_41 : decode cX0_weeksUntilNextSpoils 41 = .ok (.goto 9, 3) := by decide +kernel
theorem dX0_weeksUntilNextSpoils_44 : decode cX0_weeksUntilNextSpoils 44 = .ok (.iload_n 2, 1) := by decide +kernel
theorem dX0_weeksUntilNextSpoils_45 : decode cX0_weeksUntilNextSpoils 45 = .ok (.iload 4, 2) := by decide +kernel
theorem dX0_weeksUntilNextSpoils_47 : decode cX0_weeksUntilNextSpoils 47 = .ok (.invokestatic 107, 3) := by decide +kernel
theorem dX0_weeksUntilNextSpoils_50 : decode cX0_weeksUntilNextSpoils 50 = .ok (.istore_n 2, 1) := by decide +kernel
theorem dX0_weeksUntilNextSpoils_51 : decode cX0_weeksUntilNextSpoils 51 = .ok (.iinc 3 1, 3) := by decide +kernel
theorem dX0_weeksUntilNextSpoils_54 : decode cX0_weeksUntilNextSpoils 54 = .ok (.goto (-50), 3) := by decide +kernel
theorem dX0_weeksUntilNextSpoils_57 : decode cX0_weeksUntilNextSpoils 57 = .ok (.iload_n 2, 1) := by decide +kernel
theorem dX0_weeksUntilNextSpoils_58 : decode cX0_weeksUntilNextSpoils 58 = .ok (.ireturn, 1) := by decide +kernel
set_option maxRecDepth 20000 in
theorem ggX0_addLot_X0_number : GoodIn wsX0_addLot wsX0_number := goodIn_r _ [12, 7, 18, 19, 20, 21, 22, 23, 24, 25, 26, 27, 28, 29, 30] (by decide +kernel) (by decide +kernel)
set_option maxRecDepth 20000 in
theorem gX0_addLot_X0_number : GoodIn wsX0_addLot (wsV RX0 63 RX0 yX0_number wsX0_number) := goodIn_app (goodIn_of _ (by decide +kernel)) ggX0_addLot_X0_number
set_option maxRecDepth 20000 in
theorem ggX0_addLot_X4_put : GoodIn wsX0_addLot wsX4_put := goodIn_r _ [15] (by decide +kernel) (by decide +kernel)
set_option maxRecDepth 20000 in
theorem gX0_addLot_X4_put_n55 : GoodIn wsX0_addLot (wsX4_put) := ggX0_addLot_X4_put
set_option maxRecDepth 20000 in
theorem ggX0_addLot_X4_add : GoodIn wsX0_addLot wsX4_add := goodIn_r _ [17] (by decide +kernel) (by decide +kernel)
set_option maxRecDepth 20000 in
theorem gX0_addLot_X4_add_n86 : GoodIn wsX0_addLot (wsX4_add) := ggX0_addLot_X4_add
theorem dX0_addLot_0 : decode cX0_addLot 0 = .ok (.aload_n 0, 1) := by decide +kernel
theorem dX0_addLot_1 : decode cX0_addLot 1 = .ok (.iconst 2, 1) := by decide +kernel
theorem dX0_addLot_2 : decode cX0_addLot 2 = .ok (.invokevirtual 63, 3) := by decide +kernel
theorem dX0_addLot_5 : decode cX0_addLot 5 = .ok (.istore 5, 2) := by decide +kernel
theorem dX0_addLot_7 : decode cX0_addLot 7 = .ok (.aload_n 0, 1) := by decide +kernel
theorem dX0_addLot_8 : decode cX0_addLot 8 = .ok (.getfield 33, 3) := by decide +kernel
theorem dX0_addLot_11 : decode cX0_addLot 11 = .ok (.iload 5, 2) := by decide +kernel
theorem dX0_addLot_13 : decode cX0_addLot 13 = .ok (.iload_n 1, 1) := by decide +kernel
theorem dX0_addLot_14 : decode cX0_addLot 14 = .ok (.invokestatic 55, 3) := by decide +kernel
theorem dX0_addLot_17 : decode cX0_addLot 17 = .ok (.aload_n 0, 1) := by decide +kernel
theorem dX0_addLot_18 : decode cX0_addLot 18 = .ok (.getfield 36, 3) := by decide +kernel
theorem dX0_addLot_21 : decode cX0_addLot 21 = .ok (.iload 5, 2) := by decide +kernel
theorem dX0_addLot_23 : decode cX0_addLot 23 = .ok (.iload_n 2, 1) := by decide +kernel
theorem dX0_addLot_24 : decode cX0_addLot 24 = .ok (.invokestatic 55, 3) := by decide +kernel
theorem dX0_addLot_27 : decode cX0_addLot 27 = .ok (.aload_n 0, 1) := by decide +kernel
theorem dX0_addLot_28 : decode cX0_addLot 28 = .ok (.getfield 39, 3) := by decide +kernel
theorem dX0_addLot_31 : decode cX0_addLot 31 = .ok (.iload 5, 2) := by decide +kernel
theorem dX0_addLot_33 : decode cX0_addLot 33 = .ok (.iload_n 3, 1) := by decide +kernel
theorem dX0_addLot_34 : decode cX0_addLot 34 = .ok (.invokestatic 55, 3) := by decide +kernel
theorem dX0_addLot_37 : decode cX0_addLot 37 = .ok (.aload_n 0, 1) := by decide +kernel
theorem dX0_addLot_38 : decode cX0_addLot 38 = .ok (.getfield 42, 3) := by decide +kernel
theorem dX0_addLot_41 : decode cX0_addLot 41 = .ok (.iload 5, 2) := by decide +kernel
theorem dX0_addLot_43 : decode cX0_addLot 43 = .ok (.iload 4, 2) := by decide +kernel
theorem dX0_addLot_45 : decode cX0_addLot 45 = .ok (.invokestatic 55, 3) := by decide +kernel
theorem dX0_addLot_48 : decode cX0_addLot 48 = .ok (.aload_n 0, 1) := by decide +kernel
theorem dX0_addLot_49 : decode cX0_addLot 49 = .ok (.getfield 45, 3) := by decide +kernel
theorem dX0_addLot_52 : decode cX0_addLot 52 = .ok (.iload 5, 2) := by decide +kernel
theorem dX0_addLot_54 : decode cX0_addLot 54 = .ok (.iconst 0, 1) := by decide +kernel
theorem dX0_addLot_55 : decode cX0_addLot 55 = .ok (.invokestatic 55, 3) := by decide +kernel
theorem dX0_addLot_58 : decode cX0_addLot 58 = .ok (.aload_n 0, 1) := by decide +kernel
theorem dX0_addLot_59 : decode cX0_addLot 59 = .ok (.getfield 48, 3) := by decide +kernel
theorem dX0_addLot_62 : decode cX0_addLot 62 = .ok (.iload 5, 2) := by decide +kernel
theorem dX0_addLot_64 : decode cX0_addLot 64 = .ok (.iconst 0, 1) := by decide +kernel
theorem dX0_addLot_65 : decode cX0_addLot 65 = .ok (.invokestatic 55, 3) := by decide +kernel
theorem dX0_addLot_68 : decode cX0_addLot 68 = .ok (.aload_n 0, 1) := by decide +kernel
theorem dX0_addLot_69 : decode cX0_addLot 69 = .ok (.getfield 9, 3) := by decide +kernel
theorem dX0_addLot_72 : decode cX0_addLot 72 = .ok (.iconst 2, 1) := by decide +kernel
theorem dX0_addLot_73 : decode cX0_addLot 73 = .ok (.iconst 1, 1) := by decide +kernel
theorem dX0_addLot_74 : decode cX0_addLot 74 = .ok (.invokestatic 86, 3) := by decide +kernel
theorem dX0_addLot_77 : decode cX0_addLot 77 = .ok (.return_, 1) := by decide +kernel
set_option maxRecDepth 20000 in
theorem ggX0_dropEmptyLots_X0_number : GoodIn wsX0_dropEmptyLots wsX0_number := goodIn_r _ [12, 7, 18, 19, 20, 21, 22, 23, 24, 25, 26, 27, 28, 29, 30] (by decide +kernel) (by decide +kernel)
set_option maxRecDepth 20000 in
theorem gX0_dropEmptyLots_X0_number : GoodIn wsX0_dropEmptyLots (wsV RX0 63 RX0 yX0_number wsX0_number) := goodIn_app (goodIn_of _ (by decide +kernel)) ggX0_dropEmptyLots_X0_number
set_option maxRecDepth 20000 in
theorem ggX0_dropEmptyLots_X4_at : GoodIn wsX0_dropEmptyLots wsX4_at := goodIn_r _ [15] (by decide +kernel) (by decide +kernel)
set_option maxRecDepth 20000 in
theorem gX0_dropEmptyLots_X4_at_n77 : GoodIn wsX0_dropEmptyLots (wsX4_at) := ggX0_dropEmptyLots_X4_at
set_option maxRecDepth 20000 in
theorem ggX0_dropEmptyLots_X4_put : GoodIn wsX0_dropEmptyLots wsX4_put := goodIn_r _ [17] (by decide +kernel) (by decide +kernel)
set_option maxRecDepth 20000 in
theorem gX0_dropEmptyLots_X4_put_n55 : GoodIn wsX0_dropEmptyLots (wsX4_put) := ggX0_dropEmptyLots_X4_put
theorem dX0_dropEmptyLots_0 : decode cX0_dropEmptyLots 0 = .ok (.iconst 0, 1) := by decide +kernel
theorem dX0_dropEmptyLots_1 : decode cX0_dropEmptyLots 1 = .ok (.istore_n 1, 1) := by decide +kernel
theorem dX0_dropEmptyLots_2 : decode cX0_dropEmptyLots 2 = .ok (.iconst 0, 1) := by decide +kernel
theorem dX0_dropEmptyLots_3 : decode cX0_dropEmptyLots 3 = .ok (.istore_n 2, 1) := by decide +kernel
theorem dX0_dropEmptyLots_4 : decode cX0_dropEmptyLots 4 = .ok (.iload_n 2, 1) := by decide +kernel
theorem dX0_dropEmptyLots_5 : decode cX0_dropEmptyLots 5 = .ok (.aload_n 0, 1) := by decide +kernel
theorem dX0_dropEmptyLots_6 : decode cX0_dropEmptyLots 6 = .ok (.iconst 2, 1) := by decide +kernel
theorem dX0_dropEmptyLots_7 : decode cX0_dropEmptyLots 7 = .ok (.invokevirtual 63, 3) := by decide +kernel
theorem dX0_dropEmptyLots_10 : decode cX0_dropEmptyLots 10 = .ok (.if_icmp .ge 119, 3) := by decide +kernel
theorem dX0_dropEmptyLots_13 : decode cX0_dropEmptyLots 13 = .ok (.aload_n 0, 1) := by decide +kernel
theorem dX0_dropEmptyLots_14 : decode cX0_dropEmptyLots 14 = .ok (.getfield 42, 3) := by decide +kernel
theorem dX0_dropEmptyLots_17 : decode cX0_dropEmptyLots 17 = .ok (.iload_n 2, 1) := by decide +kernel
theorem dX0_dropEmptyLots_18 : decode cX0_dropEmptyLots 18 = .ok (.invokestatic 77, 3) := by decide +kernel
theorem dX0_dropEmptyLots_21 : decode cX0_dropEmptyLots 21 = .ok (.ifCond .le 102, 3) := by decide +kernel
theorem dX0_dropEmptyLots_24 : decode cX0_dropEmptyLots 24 = .ok (.aload_n 0, 1) := by decide +kernel
theorem dX0_dropEmptyLots_25 : decode cX0_dropEmptyLots 25 = .ok (.getfield 33, 3) := by decide +kernel
theorem dX0_dropEmptyLots_28 : decode cX0_dropEmptyLots 28 = .ok (.iload_n 1, 1) := by decide +kernel
theorem dX0_dropEmptyLots_29 : decode cX0_dropEmptyLots 29 = .ok (.aload_n 0, 1) := by decide +kernel
theorem dX0_dropEmptyLots_30 : decode cX0_dropEmptyLots 30 = .ok (.getfield 33, 3) := by decide +kernel
theorem dX0_dropEmptyLots_33 : decode cX0_dropEmptyLots 33 = .ok (.iload_n 2, 1) := by decide +kernel
theorem dX0_dropEmptyLots_34 : decode cX0_dropEmptyLots 34 = .ok (.invokestatic 77, 3) := by decide +kernel
theorem dX0_dropEmptyLots_37 : decode cX0_dropEmptyLots 37 = .ok (.invokestatic 55, 3) := by decide +kernel
theorem dX0_dropEmptyLots_40 : decode cX0_dropEmptyLots 40 = .ok (.aload_n 0, 1) := by decide +kernel
theorem dX0_dropEmptyLots_41 : decode cX0_dropEmptyLots 41 = .ok (.getfield 36, 3) := by decide +kernel
theorem dX0_dropEmptyLots_44 : decode cX0_dropEmptyLots 44 = .ok (.iload_n 1, 1) := by decide +kernel
theorem dX0_dropEmptyLots_45 : decode cX0_dropEmptyLots 45 = .ok (.aload_n 0, 1) := by decide +kernel
theorem dX0_dropEmptyLots_46 : decode cX0_dropEmptyLots 46 = .ok (.getfield 36, 3) := by decide +kernel
theorem dX0_dropEmptyLots_49 : decode cX0_dropEmptyLots 49 = .ok (.iload_n 2, 1) := by decide +kernel
theorem dX0_dropEmptyLots_50 : decode cX0_dropEmptyLots 50 = .ok (.invokestatic 77, 3) := by decide +kernel
theorem dX0_dropEmptyLots_53 : decode cX0_dropEmptyLots 53 = .ok (.invokestatic 55, 3) := by decide +kernel
theorem dX0_dropEmptyLots_56 : decode cX0_dropEmptyLots 56 = .ok (.aload_n 0, 1) := by decide +kernel
theorem dX0_dropEmptyLots_57 : decode cX0_dropEmptyLots 57 = .ok (.getfield 39, 3) := by decide +kernel
theorem dX0_dropEmptyLots_60 : decode cX0_dropEmptyLots 60 = .ok (.iload_n 1, 1) := by decide +kernel
theorem dX0_dropEmptyLots_61 : decode cX0_dropEmptyLots 61 = .ok (.aload_n 0, 1) := by decide +kernel
theorem dX0_dropEmptyLots_62 : decode cX0_dropEmptyLots 62 = .ok (.getfield 39, 3) := by decide +kernel
theorem dX0_dropEmptyLots_65 : decode cX0_dropEmptyLots 65 = .ok (.iload_n 2, 1) := by decide +kernel
theorem dX0_dropEmptyLots_66 : decode cX0_dropEmptyLots 66 = .ok (.invokestatic 77, 3) := by decide +kernel
theorem dX0_dropEmptyLots_69 : decode cX0_dropEmptyLots 69 = .ok (.invokestatic 55, 3) := by decide +kernel
theorem dX0_dropEmptyLots_72 : decode cX0_dropEmptyLots 72 = .ok (.aload_n 0, 1) := by decide +kernel
theorem dX0_dropEmptyLots_73 : decode cX0_dropEmptyLots 73 = .ok (.getfield 42, 3) := by decide +kernel
theorem dX0_dropEmptyLots_76 : decode cX0_dropEmptyLots 76 = .ok (.iload_n 1, 1) := by decide +kernel
theorem dX0_dropEmptyLots_77 : decode cX0_dropEmptyLots 77 = .ok (.aload_n 0, 1) := by decide +kernel
theorem dX0_dropEmptyLots_78 : decode cX0_dropEmptyLots 78 = .ok (.getfield 42, 3) := by decide +kernel
theorem dX0_dropEmptyLots_81 : decode cX0_dropEmptyLots 81 = .ok (.iload_n 2, 1) := by decide +kernel
theorem dX0_dropEmptyLots_82 : decode cX0_dropEmptyLots 82 = .ok (.invokestatic 77, 3) := by decide +kernel
theorem dX0_dropEmptyLots_85 : decode cX0_dropEmptyLots 85 = .ok (.invokestatic 55, 3) := by decide +kernel
theorem dX0_dropEmptyLots_88 : decode cX0_dropEmptyLots 88 = .ok (.aload_n 0, 1) := by decide +kernel
theorem dX0_dropEmptyLots_89 : decode cX0_dropEmptyLots 89 = .ok (.getfield 45, 3) := by decide +kernel
theorem dX0_dropEmptyLots_92 : decode cX0_dropEmptyLots 92 = .ok (.iload_n 1, 1) := by decide +kernel
theorem dX0_dropEmptyLots_93 : decode cX0_dropEmptyLots 93 = .ok (.aload_n 0, 1) := by decide +kernel
theorem dX0_dropEmptyLots_94 : decode cX0_dropEmptyLots 94 = .ok (.getfield 45, 3) := by decide +kernel
theorem dX0_dropEmptyLots_97 : decode cX0_dropEmptyLots 97 = .ok (.iload_n 2, 1) := by decide +kernel
theorem dX0_dropEmptyLots_98 : decode cX0_dropEmptyLots 98 = .ok (.invokestatic 77, 3) := by decide +kernel
theorem dX0_dropEmptyLots_101 : decode cX0_dropEmptyLots 101 = .ok (.invokestatic 55, 3) := by decide +kernel
theorem dX0_dropEmptyLots_104 : decode cX0_dropEmptyLots 104 = .ok (.aload_n 0, 1) := by decide +kernel
theorem dX0_dropEmptyLots_105 : decode cX0_dropEmptyLots 105 = .ok (.getfield 48, 3) := by decide +kernel
theorem dX0_dropEmptyLots_108 : decode cX0_dropEmptyLots 108 = .ok (.iload_n 1, 1) := by decide +kernel
theorem dX0_dropEmptyLots_109 : decode cX0_dropEmptyLots 109 = .ok (.aload_n 0, 1) := by decide +kernel
theorem dX0_dropEmptyLots_110 : decode cX0_dropEmptyLots 110 = .ok (.getfield 48, 3) := by decide +kernel
theorem dX0_dropEmptyLots_113 : decode cX0_dropEmptyLots 113 = .ok (.iload_n 2, 1) := by decide +kernel
theorem dX0_dropEmptyLots_114 : decode cX0_dropEmptyLots 114 = .ok (.invokestatic 77, 3) := by decide +kernel
theorem dX0_dropEmptyLots_117 : decode cX0_dropEmptyLots 117 = .ok (.invokestatic 55, 3) := by decide +kernel
theorem dX0_dropEmptyLots_120 : decode cX0_dropEmptyLots 120 = .ok (.iinc 1 1, 3) := by decide +kernel
theorem dX0_dropEmptyLots_123 : decode cX0_dropEmptyLots 123 = .ok (.iinc 2 1, 3) := by decide +kernel
theorem dX0_dropEmptyLots_126 : decode cX0_dropEmptyLots 126 = .ok (.goto (-122), 3) := by decide +kernel
theorem dX0_dropEmptyLots_129 : decode cX0_dropEmptyLots 129 = .ok (.aload_n 0, 1) := by decide +kernel
theorem dX0_dropEmptyLots_130 : decode cX0_dropEmptyLots 130 = .ok (.getfield 9, 3) := by decide +kernel
theorem dX0_dropEmptyLots_133 : decode cX0_dropEmptyLots 133 = .ok (.iconst 2, 1) := by decide +kernel
theorem dX0_dropEmptyLots_134 : decode cX0_dropEmptyLots 134 = .ok (.iload_n 1, 1) := by decide +kernel
theorem dX0_dropEmptyLots_135 : decode cX0_dropEmptyLots 135 = .ok (.invokestatic 55, 3) := by decide +kernel
theorem dX0_dropEmptyLots_138 : decode cX0_dropEmptyLots 138 = .ok (.return_, 1) := by decide +kernel
set_option maxRecDepth 20000 in
theorem ggX0_firstToTake_X0_number : GoodIn wsX0_firstToTake wsX0_number := goodIn_r _ [7, 8, 19, 20, 21, 22, 23, 24, 25, 26, 27, 28, 29, 30, 31] (by decide +kernel) (by decide +kernel)
set_option maxRecDepth 20000 in
theorem gX0_firstToTake_X0_number : GoodIn wsX0_firstToTake (wsV RX0 63 RX0 yX0_number wsX0_number) := goodIn_app (goodIn_of _ (by decide +kernel)) ggX0_firstToTake_X0_number
set_option maxRecDepth 20000 in
theorem ggX0_firstToTake_X0_isLotOf : GoodIn wsX0_firstToTake wsX0_isLotOf := goodIn_r _ [12, 13, 14, 15, 19, 20, 21, 22, 23, 24, 25, 26, 27, 28, 29, 30, 31] (by decide +kernel) (by decide +kernel)
set_option maxRecDepth 20000 in
theorem gX0_firstToTake_X0_isLotOf : GoodIn wsX0_firstToTake (wsV RX0 94 RX0 yX0_isLotOf wsX0_isLotOf) := goodIn_app (goodIn_of _ (by decide +kernel)) ggX0_firstToTake_X0_isLotOf
set_option maxRecDepth 20000 in
theorem ggX0_firstToTake_X4_at : GoodIn wsX0_firstToTake wsX4_at := goodIn_r _ [18] (by decide +kernel) (by decide +kernel)
set_option maxRecDepth 20000 in
theorem gX0_firstToTake_X4_at_n77 : GoodIn wsX0_firstToTake (wsX4_at) := ggX0_firstToTake_X4_at
theorem dX0_firstToTake_0 : decode cX0_firstToTake 0 = .ok (.iconst (-1), 1) := by decide +kernel
theorem dX0_firstToTake_1 : decode cX0_firstToTake 1 = .ok (.istore 4, 2) := by decide +kernel
theorem dX0_firstToTake_3 : decode cX0_firstToTake 3 = .ok (.iconst 0, 1) := by decide +kernel
theorem dX0_firstToTake_4 : decode cX0_firstToTake 4 = .ok (.istore 5, 2) := by decide +kernel
theorem dX0_firstToTake_6 : decode cX0_firstToTake 6 = .ok (.iload 5, 2) := by decide +kernel
theorem dX0_firstToTake_8 : decode cX0_firstToTake 8 = .ok (.aload_n 0, 1) := by decide +kernel
theorem dX0_firstToTake_9 : decode cX0_firstToTake 9 = .ok (.iconst 2, 1) := by decide +kernel
theorem dX0_firstToTake_10 : decode cX0_firstToTake 10 = .ok (.invokevirtual 63, 3) := by decide +kernel
theorem dX0_firstToTake_13 : decode cX0_firstToTake 13 = .ok (.if_icmp .ge 63, 3) := by decide +kernel
theorem dX0_firstToTake_16 : decode cX0_firstToTake 16 = .ok (.aload_n 0, 1) := by decide +kernel
theorem dX0_firstToTake_17 : decode cX0_firstToTake 17 = .ok (.iload 5, 2) := by decide +kernel
theorem dX0_firstToTake_19 : decode cX0_firstToTake 19 = .ok (.iload_n 1, 1) := by decide +kernel
theorem dX0_firstToTake_20 : decode cX0_firstToTake 20 = .ok (.iload_n 2, 1) := by decide +kernel
theorem dX0_firstToTake_21 : decode cX0_firstToTake 21 = .ok (.iload_n 3, 1) := by decide +kernel
theorem dX0_firstToTake_22 : decode cX0_firstToTake 22 = .ok (.invokevirtual 94, 3) := by decide +kernel
theorem dX0_firstToTake_25 : decode cX0_firstToTake 25 = .ok (.ifCond .eq 45, 3) := by decide +kernel
theorem dX0_firstToTake_28 : decode cX0_firstToTake 28 = .ok (.aload_n 0, 1) := by decide +kernel
theorem dX0_firstToTake_29 : decode cX0_firstToTake 29 = .ok (.getfield 42, 3) := by decide +kernel
theorem dX0_firstToTake_32 : decode cX0_firstToTake 32 = .ok (.iload 5, 2) := by decide +kernel
theorem dX0_firstToTake_34 : decode cX0_firstToTake 34 = .ok (.invokestatic 77, 3) := by decide +kernel
theorem dX0_firstToTake_37 : decode cX0_firstToTake 37 = .ok (.ifCond .le 33, 3) := by decide +kernel
theorem dX0_firstToTake_40 : decode cX0_firstToTake 40 = .ok (.iload 4, 2) := by decide +kernel
theorem dX0_firstToTake_42 : decode cX0_firstToTake 42 = .ok (.ifCond .lt 24, 3) := by decide +kernel
theorem dX0_firstToTake_45 : decode cX0_firstToTake 45 = .ok (.aload_n 0, 1) := by decide +kernel
theorem dX0_firstToTake_46 : decode cX0_firstToTake 46 = .ok (.getfield 45, 3) := by decide +kernel
theorem dX0_firstToTake_49 : decode cX0_firstToTake 49 = .ok (.iload 5, 2) := by decide +kernel
theorem dX0_firstToTake_51 : decode cX0_firstToTake 51 = .ok (.invokestatic 77, 3) := by decide +kernel
theorem dX0_firstToTake_54 : decode cX0_firstToTake 54 = .ok (.aload_n 0, 1) := by decide +kernel
theorem dX0_firstToTake_55 : decode cX0_firstToTake 55 = .ok (.getfield 45, 3) := by decide +kernel
theorem dX0_firstToTake_58 : decode cX0_firstToTake 58 = .ok (.iload 4, 2) := by decide +kernel
theorem dX0_firstToTake_60 : decode cX0_firstToTake 60 = .ok (.invokestatic 77, 3) := by decide +kernel
theorem dX0_firstToTake_63 : decode cX0_firstToTake 63 = .ok (.if_icmp .le 7, 3) := by decide +kernel
theorem dX0_firstToTake_66 : decode cX0_firstToTake 66 = .ok (.iload 5, 2) := by decide +kernel
theorem dX0_firstToTake_68 : decode cX0_firstToTake 68 = .ok (.istore 4, 2) := by decide +kernel
theorem dX0_firstToTake_70 : decode cX0_firstToTake 70 = .ok (.iinc 5 1, 3) := by decide +kernel
theorem dX0_firstToTake_73 : decode cX0_firstToTake 73 = .ok (.goto (-67), 3) := by decide +kernel
theorem dX0_firstToTake_76 : decode cX0_firstToTake 76 = .ok (.iload 4, 2) := by decide +kernel
theorem dX0_firstToTake_78 : decode cX0_firstToTake 78 = .ok (.ireturn, 1) := by decide +kernel
set_option maxRecDepth 20000 in
theorem ggX0_takeFavours_X0_firstToTake : GoodIn wsX0_takeFavours wsX0_firstToTake := goodIn_r _ [10, 1, 11, 12, 13, 14, 9, 15, 16, 17, 18, 19, 20, 21, 22, 23, 24, 25, 26, 36, 37, 38, 39, 40, 41, 42, 43, 44, 45, 46, 47, 48] (by decide +kernel) (by decide +kernel)
set_option maxRecDepth 20000 in
theorem gX0_takeFavours_X0_firstToTake : GoodIn wsX0_takeFavours (wsV RX0 110 RX0 yX0_firstToTake wsX0_firstToTake) := goodIn_app (goodIn_of _ (by decide +kernel)) ggX0_takeFavours_X0_firstToTake
set_option maxRecDepth 20000 in
theorem ggX0_takeFavours_X4_at : GoodIn wsX0_takeFavours wsX4_at := goodIn_r _ [26] (by decide +kernel) (by decide +kernel)
set_option maxRecDepth 20000 in
theorem gX0_takeFavours_X4_at_n77 : GoodIn wsX0_takeFavours (wsX4_at) := ggX0_takeFavours_X4_at
set_option maxRecDepth 20000 in
theorem ggX0_takeFavours_X4_add : GoodIn wsX0_takeFavours wsX4_add := goodIn_r _ [28] (by decide +kernel) (by decide +kernel)
set_option maxRecDepth 20000 in
theorem gX0_takeFavours_X4_add_n86 : GoodIn wsX0_takeFavours (wsX4_add) := ggX0_takeFavours_X4_add
set_option maxRecDepth 20000 in
theorem ggX0_takeFavours_X0_dropEmptyLots : GoodIn wsX0_takeFavours wsX0_dropEmptyLots := goodIn_r _ [32, 1, 21, 22, 23, 11, 33, 16, 12, 13, 14, 9, 15, 24, 25, 26, 34, 35, 36, 37, 38, 39, 40, 41, 42, 43, 44, 45, 46, 47, 48] (by decide +kernel) (by decide +kernel)
set_option maxRecDepth 20000 in
theorem gX0_takeFavours_X0_dropEmptyLots : GoodIn wsX0_takeFavours (wsV RX0 113 RX0 yX0_dropEmptyLots wsX0_dropEmptyLots) := goodIn_app (goodIn_of _ (by decide +kernel)) ggX0_takeFavours_X0_dropEmptyLots
theorem dX0_takeFavours_0 : decode cX0_takeFavours 0 = .ok (.iload 4, 2) := by decide +kernel
theorem dX0_takeFavours_2 : decode cX0_takeFavours 2 = .ok (.istore 5, 2) := by decide +kernel
theorem dX0_takeFavours_4 : decode cX0_takeFavours 4 = .ok (.iconst 0, 1) := by decide +kernel
theorem dX0_takeFavours_5 : decode cX0_takeFavours 5 = .ok (.istore 6, 2) := by decide +kernel
theorem dX0_takeFavours_7 : decode cX0_takeFavours 7 = .ok (.iload 6, 2) := by decide +kernel
theorem dX0_takeFavours_9 : decode cX0_takeFavours 9 = .ok (.bipush 40, 2) := by decide +kernel
theorem dX0_takeFavours_11 : decode cX0_takeFavours 11 = .ok (.if_icmp .ge 58, 3) := by decide +kernel
theorem dX0_takeFavours_14 : decode cX0_takeFavours 14 = .ok (.iload 5, 2) := by decide +kernel
theorem dX0_takeFavours_16 : decode cX0_takeFavours 16 = .ok (.ifCond .le 53, 3) := by decide +kernel
theorem dX0_takeFavours_19 : decode cX0_takeFavours 19 = .ok (.aload_n 0, 1) := by decide +kernel
theorem dX0_takeFavours_20 : decode cX0_takeFavours 20 = .ok (.iload_n 1, 1) := by decide +kernel
theorem dX0_takeFavours_21 : decode cX0_takeFavours 21 = .ok (.iload_n 2, 1) := by decide +kernel
theorem dX0_takeFavours_22 : decode cX0_takeFavours 22 = .ok (.iload_n 3, 1) := by decide +kernel
theorem dX0_takeFavours_23 : decode cX0_takeFavours 23 = .ok (.invokevirtual 110, 3) := by decide +kernel
theorem dX0_takeFavours_26 : decode cX0_takeFavours 26 = .ok (.istore 7, 2) := by decide +kernel
theorem dX0_takeFavours_28 : decode cX0_takeFavours 28 = .ok (.iload 5, 2) := by decide +kernel
theorem dX0_takeFavours_30 : decode cX0_takeFavours 30 = .ok (.aload_n 0, 1) := by decide +kernel
theorem dX0_takeFavours_31 : decode cX0_takeFavours 31 = .ok (.getfield 42, 3) := by decide +kernel
theorem dX0_takeFavours_34 : decode cX0_takeFavours 34 = .ok (.iload 7, 2) := by decide +kernel
theorem dX0_takeFavours_36 : decode cX0_takeFavours 36 = .ok (.invokestatic 77, 3) := by decide +kernel
theorem dX0_takeFavours_39 : decode cX0_takeFavours 39 = .ok (.invokestatic 107, 3) := by decide +kernel
theorem dX0_takeFavours_42 : decode cX0_takeFavours 42 = .ok (.istore 8, 2) := by decide +kernel
theorem dX0_takeFavours_44 : decode cX0_takeFavours 44 = .ok (.aload_n 0, 1) := by decide +kernel
theorem dX0_takeFavours_45 : decode cX0_takeFavours 45 = .ok (.getfield 42, 3) := by decide +kernel
theorem dX0_takeFavours_48 : decode cX0_takeFavours 48 = .ok (.iload 7, 2) := by decide +kernel
theorem dX0_takeFavours_50 : decode cX0_takeFavours 50 = .ok (.iload 8, 2) := by decide +kernel
theorem dX0_takeFavours_52 : decode cX0_takeFavours 52 = .ok (.ineg, 1) := by decide +kernel
theorem dX0_takeFavours_53 : decode cX0_takeFavours 53 = .ok (.invokestatic 86, 3) := by decide +kernel
theorem dX0_takeFavours_56 : decode cX0_takeFavours 56 = .ok (.iload 5, 2) := by decide +kernel
theorem dX0_takeFavours_58 : decode cX0_takeFavours 58 = .ok (.iload 8, 2) := by decide +kernel
theorem dX0_takeFavours_60 : decode cX0_takeFavours 60 = .ok (.isub, 1) := by decide +kernel
theorem dX0_takeFavours_61 : decode cX0_takeFavours 61 = .ok (.istore 5, 2) := by decide +kernel
theorem dX0_takeFavours_63 : decode cX0_takeFavours 63 = .ok (.iinc 6 1, 3) := by decide +kernel
theorem dX0_takeFavours_66 : decode cX0_takeFavours 66 = .ok (.goto (-59), 3) := by decide +kernel
theorem dX0_takeFavours_69 : decode cX0_takeFavours 69 = .ok (.aload_n 0, 1) := by decide +kernel
theorem dX0_takeFavours_70 : decode cX0_takeFavours 70 = .ok (.invokevirtual 113, 3) := by decide +kernel
theorem dX0_takeFavours_73 : decode cX0_takeFavours 73 = .ok (.return_, 1) := by decide +kernel
set_option maxRecDepth 20000 in
theorem ggX0_reasonAgainst_X0_sumOwed : GoodIn wsX0_reasonAgainst wsX0_sumOwed := goodIn_r _ [6, 7, 8, 9, 10, 5, 11, 12, 13, 14, 15, 16, 17, 18, 19, 20, 21, 22, 28, 29, 30, 31, 32, 33, 34, 35, 36, 37, 38, 39, 40] (by decide +kernel) (by decide +kernel)
set_option maxRecDepth 20000 in
theorem gX0_reasonAgainst_X0_sumOwed : GoodIn wsX0_reasonAgainst (wsV RX0 70 RX0 yX0_sumOwed wsX0_sumOwed) := goodIn_app (goodIn_of _ (by decide +kernel)) ggX0_reasonAgainst_X0_sumOwed
set_option maxRecDepth 20000 in
theorem ggX0_reasonAgainst_X0_number : GoodIn wsX0_reasonAgainst wsX0_number := goodIn_r _ [11, 12, 28, 29, 30, 31, 32, 33, 34, 35, 36, 37, 38, 39, 40] (by decide +kernel) (by decide +kernel)
set_option maxRecDepth 20000 in
theorem gX0_reasonAgainst_X0_number : GoodIn wsX0_reasonAgainst (wsV RX0 63 RX0 yX0_number wsX0_number) := goodIn_app (goodIn_of _ (by decide +kernel)) ggX0_reasonAgainst_X0_number
set_option maxRecDepth 20000 in
theorem ggX0_reasonAgainst_X4_at : GoodIn wsX0_reasonAgainst wsX4_at := goodIn_r _ [22] (by decide +kernel) (by decide +kernel)
set_option maxRecDepth 20000 in
theorem gX0_reasonAgainst_X4_at_n77 : GoodIn wsX0_reasonAgainst (wsX4_at) := ggX0_reasonAgainst_X4_at
set_option maxRecDepth 20000 in
theorem ggX0_reasonAgainst_X0_guarantorOf : GoodIn wsX0_reasonAgainst wsX0_guarantorOf := goodIn_r _ [26, 27, 28, 29, 30, 31, 32, 33, 34, 35, 36, 37, 38, 39, 40] (by decide +kernel) (by decide +kernel)
set_option maxRecDepth 20000 in
theorem gX0_reasonAgainst_X0_guarantorOf : GoodIn wsX0_reasonAgainst (wsV RX0 81 RX0 yX0_guarantorOf wsX0_guarantorOf) := goodIn_app (goodIn_of _ (by decide +kernel)) ggX0_reasonAgainst_X0_guarantorOf
theorem dX0_reasonAgainst_0 : decode cX0_reasonAgainst 0 = .ok (.aload_n 0, 1) := by decide +kernel
theorem dX0_reasonAgainst_1 : decode cX0_reasonAgainst 1 = .ok (.iload_n 1, 1) := by decide +kernel
theorem dX0_reasonAgainst_2 : decode cX0_reasonAgainst 2 = .ok (.iconst (-1), 1) := by decide +kernel
theorem dX0_reasonAgainst_3 : decode cX0_reasonAgainst 3 = .ok (.iconst (-1), 1) := by decide +kernel
theorem dX0_reasonAgainst_4 : decode cX0_reasonAgainst 4 = .ok (.invokevirtual 70, 3) := by decide +kernel
theorem dX0_reasonAgainst_7 : decode cX0_reasonAgainst 7 = .ok (.iload_n 2, 1) := by decide +kernel
theorem dX0_reasonAgainst_8 : decode cX0_reasonAgainst 8 = .ok (.iadd, 1) := by decide +kernel
theorem dX0_reasonAgainst_9 : decode cX0_reasonAgainst 9 = .ok (.aload_n 0, 1) := by decide +kernel
theorem dX0_reasonAgainst_10 : decode cX0_reasonAgainst 10 = .ok (.bipush 24, 2) := by decide +kernel
theorem dX0_reasonAgainst_12 : decode cX0_reasonAgainst 12 = .ok (.invokevirtual 63, 3) := by decide +kernel
theorem dX0_reasonAgainst_15 : decode cX0_reasonAgainst 15 = .ok (.if_icmp .le 5, 3) := by decide +kernel
theorem dX0_reasonAgainst_18 : decode cX0_reasonAgainst 18 = .ok (.iconst 1, 1) := by decide +kernel
theorem dX0_reasonAgainst_19 : decode cX0_reasonAgainst 19 = .ok (.ireturn, 1) := by decide +kernel
theorem dX0_reasonAgainst_20 : decode cX0_reasonAgainst 20 = .ok (.aload_n 0, 1) := by decide +kernel
theorem dX0_reasonAgainst_21 : decode cX0_reasonAgainst 21 = .ok (.getfield 21, 3) := by decide +kernel
theorem dX0_reasonAgainst_24 : decode cX0_reasonAgainst 24 = .ok (.iload_n 1, 1) := by decide +kernel
theorem dX0_reasonAgainst_25 : decode cX0_reasonAgainst 25 = .ok (.invokestatic 77, 3) := by decide +kernel
theorem dX0_reasonAgainst_28 : decode cX0_reasonAgainst 28 = .ok (.aload_n 0, 1) := by decide +kernel
theorem dX0_reasonAgainst_29 : decode cX0_reasonAgainst 29 = .ok (.bipush 25, 2) := by decide +kernel
theorem dX0_reasonAgainst_31 : decode cX0_reasonAgainst 31 = .ok (.invokevirtual 63, 3) := by decide +kernel
theorem dX0_reasonAgainst_34 : decode cX0_reasonAgainst 34 = .ok (.if_icmp .lt 7, 3) := by decide +kernel
theorem dX0_reasonAgainst_37 : decode cX0_reasonAgainst 37 = .ok (.iconst 1, 1) := by decide +kernel
theorem dX0_reasonAgainst_38 : decode cX0_reasonAgainst 38 = .ok (.goto 4, 3) := by decide +kernel
theorem dX0_reasonAgainst_41 : decode cX0_reasonAgainst 41 = .ok (.iconst 0, 1) := by decide +kernel
theorem dX0_reasonAgainst_42 : decode cX0_reasonAgainst 42 = .ok (.istore_n 3, 1) := by decide +kernel
theorem dX0_reasonAgainst_43 : decode cX0_reasonAgainst 43 = .ok (.iload_n 3, 1) := by decide +kernel
theorem dX0_reasonAgainst_44 : decode cX0_reasonAgainst 44 = .ok (.ifCond .eq 15, 3) := by decide +kernel
theorem dX0_reasonAgainst_47 : decode cX0_reasonAgainst 47 = .ok (.aload_n 0, 1) := by decide +kernel
theorem dX0_reasonAgainst_48 : decode cX0_reasonAgainst 48 = .ok (.iload_n 1, 1) := by decide +kernel
theorem dX0_reasonAgainst_49 : decode cX0_reasonAgainst 49 = .ok (.invokevirtual 81, 3) := by decide +kernel
theorem dX0_reasonAgainst_52 : decode cX0_reasonAgainst 52 = .ok (.ifCond .ge 7, 3) := by decide +kernel
theorem dX0_reasonAgainst_55 : decode cX0_reasonAgainst 55 = .ok (.iconst 2, 1) := by decide +kernel
theorem dX0_reasonAgainst_56 : decode cX0_reasonAgainst 56 = .ok (.goto 4, 3) := by decide +kernel
theorem dX0_reasonAgainst_59 : decode cX0_reasonAgainst 59 = .ok (.iconst 0, 1) := by decide +kernel
theorem dX0_reasonAgainst_60 : decode cX0_reasonAgainst 60 = .ok (.ireturn, 1) := by decide +kernel
set_option maxRecDepth 20000 in
theorem ggX0_lendFavours_X0_isPair : GoodIn wsX0_lendFavours wsX0_isPair := goodIn_r _ [10, 11, 12, 13, 9, 14, 15, 16, 17, 18, 5, 58, 59, 60, 61, 62, 63, 64, 65, 66, 67, 68, 69, 70] (by decide +kernel) (by decide +kernel)
set_option maxRecDepth 20000 in
theorem gX0_lendFavours_X0_isPair : GoodIn wsX0_lendFavours (wsV RX0 89 RX0 yX0_isPair wsX0_isPair) := goodIn_app (goodIn_of _ (by decide +kernel)) ggX0_lendFavours_X0_isPair
set_option maxRecDepth 20000 in
theorem ggX0_lendFavours_X4_isKind : GoodIn wsX0_lendFavours wsX4_isKind := goodIn_r _ [21] (by decide +kernel) (by decide +kernel)
set_option maxRecDepth 20000 in
theorem gX0_lendFavours_X4_isKind_n116 : GoodIn wsX0_lendFavours (wsX4_isKind) := ggX0_lendFavours_X4_isKind
set_option maxRecDepth 20000 in
theorem ggX0_lendFavours_X4_isMany : GoodIn wsX0_lendFavours wsX4_isMany := goodIn_r _ [23] (by decide +kernel) (by decide +kernel)
set_option maxRecDepth 20000 in
theorem gX0_lendFavours_X4_isMany_n119 : GoodIn wsX0_lendFavours (wsX4_isMany) := ggX0_lendFavours_X4_isMany
set_option maxRecDepth 20000 in
theorem ggX0_lendFavours_X0_reasonAgainst : GoodIn wsX0_lendFavours wsX0_reasonAgainst := goodIn_r _ [27, 28, 29, 30, 31, 9, 32, 33, 15, 16, 17, 18, 5, 34, 35, 36, 37, 38, 39, 40, 41, 20, 42, 43, 44, 45, 46, 47, 58, 59, 60, 61, 62, 63, 64, 65, 66, 67, 68, 69, 70] (by decide +kernel) (by decide +kernel)
set_option maxRecDepth 20000 in
theorem gX0_lendFavours_X0_reasonAgainst : GoodIn wsX0_lendFavours (wsV RX0 122 RX0 yX0_reasonAgainst wsX0_reasonAgainst) := goodIn_app (goodIn_of _ (by decide +kernel)) ggX0_lendFavours_X0_reasonAgainst
set_option maxRecDepth 20000 in
theorem ggX0_lendFavours_X0_number : GoodIn wsX0_lendFavours wsX0_number := goodIn_r _ [18, 5, 58, 59, 60, 61, 62, 63, 64, 65, 66, 67, 68, 69, 70] (by decide +kernel) (by decide +kernel)
set_option maxRecDepth 20000 in
theorem gX0_lendFavours_X0_number : GoodIn wsX0_lendFavours (wsV RX0 63 RX0 yX0_number wsX0_number) := goodIn_app (goodIn_of _ (by decide +kernel)) ggX0_lendFavours_X0_number
set_option maxRecDepth 20000 in
theorem ggX0_lendFavours_X0_addLot : GoodIn wsX0_lendFavours wsX0_addLot := goodIn_r _ [51, 38, 39, 40, 33, 52, 53, 5, 15, 16, 17, 9, 18, 54, 20, 55, 56, 57, 58, 59, 60, 61, 62, 63, 64, 65, 66, 67, 68, 69, 70] (by decide +kernel) (by decide +kernel)
set_option maxRecDepth 20000 in
theorem gX0_lendFavours_X0_addLot : GoodIn wsX0_lendFavours (wsV RX0 126 RX0 yX0_addLot wsX0_addLot) := goodIn_app (goodIn_of _ (by decide +kernel)) ggX0_lendFavours_X0_addLot
set_option maxRecDepth 20000 in
theorem ggX0_lendFavours_X4_add : GoodIn wsX0_lendFavours wsX4_add := goodIn_r _ [57] (by decide +kernel) (by decide +kernel)
set_option maxRecDepth 20000 in
theorem gX0_lendFavours_X4_add_n86 : GoodIn wsX0_lendFavours (wsX4_add) := ggX0_lendFavours_X4_add
set_option maxRecDepth 20000 in
theorem ggX0_lendFavours_X0_sumOwed : GoodIn wsX0_lendFavours wsX0_sumOwed := goodIn_r _ [32, 33, 15, 16, 17, 9, 18, 5, 34, 35, 36, 37, 38, 39, 40, 41, 20, 42, 58, 59, 60, 61, 62, 63, 64, 65, 66, 67, 68, 69, 70] (by decide +kernel) (by decide +kernel)
set_option maxRecDepth 20000 in
theorem gX0_lendFavours_X0_sumOwed : GoodIn wsX0_lendFavours (wsV RX0 70 RX0 yX0_sumOwed wsX0_sumOwed) := goodIn_app (goodIn_of _ (by decide +kernel)) ggX0_lendFavours_X0_sumOwed
theorem dX0_lendFavours_0 : decode cX0_lendFavours 0 = .ok (.aload_n 0, 1) := by decide +kernel
theorem dX0_lendFavours_1 : decode cX0_lendFavours 1 = .ok (.iload_n 1, 1) := by decide +kernel
theorem dX0_lendFavours_2 : decode cX0_lendFavours 2 = .ok (.iload_n 2, 1) := by decide +kernel
theorem dX0_lendFavours_3 : decode cX0_lendFavours 3 = .ok (.invokevirtual 89, 3) := by decide +kernel
theorem dX0_lendFavours_6 : decode cX0_lendFavours 6 = .ok (.ifCond .eq 18, 3) := by decide +kernel
theorem dX0_lendFavours_9 : decode cX0_lendFavours 9 = .ok (.iload_n 3, 1) := by decide +kernel
theorem dX0_lendFavours_10 : decode cX0_lendFavours 10 = .ok (.invokestatic 116, 3) := by decide +kernel
theorem dX0_lendFavours_13 : decode cX0_lendFavours 13 = .ok (.ifCond .eq 11, 3) := by decide +kernel
theorem dX0_lendFavours_16 : decode cX0_lendFavours 16 = .ok (.iload 4, 2) := by decide +kernel
theorem dX0_lendFavours_18 : decode cX0_lendFavours 18 = .ok (.invokestatic 119, 3) := by decide +kernel
theorem dX0_lendFavours_21 : decode cX0_lendFavours 21 = .ok (.ifCond .ne 6, 3) := by decide +kernel
theorem dX0_lendFavours_24 : decode cX0_lendFavours 24 = .ok (.ldc 93, 2) := by decide +kernel
theorem dX0_lendFavours_26 : decode cX0_lendFavours 26 = .ok (.ireturn, 1) := by decide +kernel
theorem dX0_lendFavours_27 : decode cX0_lendFavours 27 = .ok (.aload_n 0, 1) := by decide +kernel
theorem dX0_lendFavours_28 : decode cX0_lendFavours 28 = .ok (.iload_n 1, 1) := by decide +kernel
theorem dX0_lendFavours_29 : decode cX0_lendFavours 29 = .ok (.iload 4, 2) := by decide +kernel
theorem dX0_lendFavours_31 : decode cX0_lendFavours 31 = .ok (.invokevirtual 122, 3) := by decide +kernel
theorem dX0_lendFavours_34 : decode cX0_lendFavours 34 = .ok (.ifCond .eq 6, 3) := by decide +kernel
theorem dX0_lendFavours_37 : decode cX0_lendFavours 37 = .ok (.ldc 125, 2) := by decide +kernel
theorem dX0_lendFavours_39 : decode cX0_lendFavours 39 = .ok (.ireturn, 1) := by decide +kernel
theorem dX0_lendFavours_40 : decode cX0_lendFavours 40 = .ok (.aload_n 0, 1) := by decide +kernel
theorem dX0_lendFavours_41 : decode cX0_lendFavours 41 = .ok (.iconst 2, 1) := by decide +kernel
theorem dX0_lendFavours_42 : decode cX0_lendFavours 42 = .ok (.invokevirtual 63, 3) := by decide +kernel
theorem dX0_lendFavours_45 : decode cX0_lendFavours 45 = .ok (.bipush 40, 2) := by decide +kernel
theorem dX0_lendFavours_47 : decode cX0_lendFavours 47 = .ok (.if_icmp .lt 6, 3) := by decide +kernel
theorem dX0_lendFavours_50 : decode cX0_lendFavours 50 = .ok (.ldc 85, 2) := by decide +kernel
theorem dX0_lendFavours_52 : decode cX0_lendFavours 52 = .ok (.ireturn, 1) := by decide +kernel
theorem dX0_lendFavours_53 : decode cX0_lendFavours 53 = .ok (.aload_n 0, 1) := by decide +kernel
theorem dX0_lendFavours_54 : decode cX0_lendFavours 54 = .ok (.iload_n 1, 1) := by decide +kernel
theorem dX0_lendFavours_55 : decode cX0_lendFavours 55 = .ok (.iload_n 2, 1) := by decide +kernel
theorem dX0_lendFavours_56 : decode cX0_lendFavours 56 = .ok (.iload_n 3, 1) := by decide +kernel
theorem dX0_lendFavours_57 : decode cX0_lendFavours 57 = .ok (.iload 4, 2) := by decide +kernel
theorem dX0_lendFavours_59 : decode cX0_lendFavours 59 = .ok (.invokevirtual 126, 3) := by decide +kernel
theorem dX0_lendFavours_62 : decode cX0_lendFavours 62 = .ok (.aload_n 0, 1) := by decide +kernel
theorem dX0_lendFavours_63 : decode cX0_lendFavours 63 = .ok (.getfield 15, 3) := by decide +kernel
theorem dX0_lendFavours_66 : decode cX0_lendFavours 66 = .ok (.iload_n 1, 1) := by decide +kernel
theorem dX0_lendFavours_67 : decode cX0_lendFavours 67 = .ok (.iload 4, 2) := by decide +kernel
theorem dX0_lendFavours_69 : decode cX0_lendFavours 69 = .ok (.ineg, 1) := by decide +kernel
theorem dX0_lendFavours_70 : decode cX0_lendFavours 70 = .ok (.invokestatic 86, 3) := by decide +kernel
theorem dX0_lendFavours_73 : decode cX0_lendFavours 73 = .ok (.aload_n 0, 1) := by decide +kernel
theorem dX0_lendFavours_74 : decode cX0_lendFavours 74 = .ok (.getfield 15, 3) := by decide +kernel
theorem dX0_lendFavours_77 : decode cX0_lendFavours 77 = .ok (.iload_n 2, 1) := by decide +kernel
theorem dX0_lendFavours_78 : decode cX0_lendFavours 78 = .ok (.iload 4, 2) := by decide +kernel
theorem dX0_lendFavours_80 : decode cX0_lendFavours 80 = .ok (.invokestatic 86, 3) := by decide +kernel
theorem dX0_lendFavours_83 : decode cX0_lendFavours 83 = .ok (.aload_n 0, 1) := by decide +kernel
theorem dX0_lendFavours_84 : decode cX0_lendFavours 84 = .ok (.getfield 9, 3) := by decide +kernel
theorem dX0_lendFavours_87 : decode cX0_lendFavours 87 = .ok (.iconst 4, 1) := by decide +kernel
theorem dX0_lendFavours_88 : decode cX0_lendFavours 88 = .ok (.iload 4, 2) := by decide +kernel
theorem dX0_lendFavours_90 : decode cX0_lendFavours 90 = .ok (.invokestatic 86, 3) := by decide +kernel
theorem dX0_lendFavours_93 : decode cX0_lendFavours 93 = .ok (.aload_n 0, 1) := by decide +kernel
theorem dX0_lendFavours_94 : decode cX0_lendFavours 94 = .ok (.iload_n 1, 1) := by decide +kernel
theorem dX0_lendFavours_95 : decode cX0_lendFavours 95 = .ok (.iload_n 2, 1) := by decide +kernel
theorem dX0_lendFavours_96 : decode cX0_lendFavours 96 = .ok (.iload_n 3, 1) := by decide +kernel
theorem dX0_lendFavours_97 : decode cX0_lendFavours 97 = .ok (.invokevirtual 70, 3) := by decide +kernel
theorem dX0_lendFavours_100 : decode cX0_lendFavours 100 = .ok (.ireturn, 1) := by decide +kernel
set_option maxRecDepth 20000 in
theorem ggX0_fulfilFavours_X0_isPair : GoodIn wsX0_fulfilFavours wsX0_isPair := goodIn_r _ [10, 11, 12, 13, 9, 14, 15, 16, 17, 18, 5, 60, 61, 62, 63, 64, 65, 66, 67, 68, 69, 70, 71, 72] (by decide +kernel) (by decide +kernel)
set_option maxRecDepth 20000 in
theorem gX0_fulfilFavours_X0_isPair : GoodIn wsX0_fulfilFavours (wsV RX0 89 RX0 yX0_isPair wsX0_isPair) := goodIn_app (goodIn_of _ (by decide +kernel)) ggX0_fulfilFavours_X0_isPair
set_option maxRecDepth 20000 in
theorem ggX0_fulfilFavours_X4_isKind : GoodIn wsX0_fulfilFavours wsX4_isKind := goodIn_r _ [21] (by decide +kernel) (by decide +kernel)
set_option maxRecDepth 20000 in
theorem gX0_fulfilFavours_X4_isKind_n116 : GoodIn wsX0_fulfilFavours (wsX4_isKind) := ggX0_fulfilFavours_X4_isKind
set_option maxRecDepth 20000 in
theorem ggX0_fulfilFavours_X4_isMany : GoodIn wsX0_fulfilFavours wsX4_isMany := goodIn_r _ [23] (by decide +kernel) (by decide +kernel)
set_option maxRecDepth 20000 in
theorem gX0_fulfilFavours_X4_isMany_n119 : GoodIn wsX0_fulfilFavours (wsX4_isMany) := ggX0_fulfilFavours_X4_isMany
set_option maxRecDepth 20000 in
theorem ggX0_fulfilFavours_X0_sumOwed : GoodIn wsX0_fulfilFavours wsX0_sumOwed := goodIn_r _ [27, 28, 15, 16, 17, 9, 18, 5, 29, 30, 31, 32, 33, 34, 35, 36, 20, 37, 60, 61, 62, 63, 64, 65, 66, 67, 68, 69, 70, 71, 72] (by decide +kernel) (by decide +kernel)
set_option maxRecDepth 20000 in
theorem gX0_fulfilFavours_X0_sumOwed : GoodIn wsX0_fulfilFavours (wsV RX0 70 RX0 yX0_sumOwed wsX0_sumOwed) := goodIn_app (goodIn_of _ (by decide +kernel)) ggX0_fulfilFavours_X0_sumOwed
set_option maxRecDepth 20000 in
theorem ggX0_fulfilFavours_X0_takeFavours : GoodIn wsX0_fulfilFavours wsX0_takeFavours := goodIn_r _ [41, 28, 42, 43, 44, 45, 46, 47, 48, 9, 49, 50, 15, 16, 17, 18, 5, 29, 30, 31, 32, 33, 34, 35, 36, 20, 37, 51, 52, 53, 54, 55, 56, 57, 58, 59, 60, 61, 62, 63, 64, 65, 66, 67, 68, 69, 70, 71, 72] (by decide +kernel) (by decide +kernel)
set_option maxRecDepth 20000 in
theorem gX0_fulfilFavours_X0_takeFavours : GoodIn wsX0_fulfilFavours (wsV RX0 130 RX0 yX0_takeFavours wsX0_takeFavours) := goodIn_app (goodIn_of _ (by decide +kernel)) ggX0_fulfilFavours_X0_takeFavours
set_option maxRecDepth 20000 in
theorem ggX0_fulfilFavours_X4_add : GoodIn wsX0_fulfilFavours wsX4_add := goodIn_r _ [52] (by decide +kernel) (by decide +kernel)
set_option maxRecDepth 20000 in
theorem gX0_fulfilFavours_X4_add_n86 : GoodIn wsX0_fulfilFavours (wsX4_add) := ggX0_fulfilFavours_X4_add
theorem dX0_fulfilFavours_0 : decode cX0_fulfilFavours 0 = .ok (.aload_n 0, 1) := by decide +kernel
theorem dX0_fulfilFavours_1 : decode cX0_fulfilFavours 1 = .ok (.iload_n 1, 1) := by decide +kernel
theorem dX0_fulfilFavours_2 : decode cX0_fulfilFavours 2 = .ok (.iload_n 2, 1) := by decide +kernel
theorem dX0_fulfilFavours_3 : decode cX0_fulfilFavours 3 = .ok (.invokevirtual 89, 3) := by decide +kernel
theorem dX0_fulfilFavours_6 : decode cX0_fulfilFavours 6 = .ok (.ifCond .eq 18, 3) := by decide +kernel
theorem dX0_fulfilFavours_9 : decode cX0_fulfilFavours 9 = .ok (.iload_n 3, 1) := by decide +kernel
theorem dX0_fulfilFavours_10 : decode cX0_fulfilFavours 10 = .ok (.invokestatic 116, 3) := by decide +kernel
theorem dX0_fulfilFavours_13 : decode cX0_fulfilFavours 13 = .ok (.ifCond .eq 11, 3) := by decide +kernel
theorem dX0_fulfilFavours_16 : decode cX0_fulfilFavours 16 = .ok (.iload 4, 2) := by decide +kernel
theorem dX0_fulfilFavours_18 : decode cX0_fulfilFavours 18 = .ok (.invokestatic 119, 3) := by decide +kernel
theorem dX0_fulfilFavours_21 : decode cX0_fulfilFavours 21 = .ok (.ifCond .ne 6, 3) := by decide +kernel
theorem dX0_fulfilFavours_24 : decode cX0_fulfilFavours 24 = .ok (.ldc 93, 2) := by decide +kernel
theorem dX0_fulfilFavours_26 : decode cX0_fulfilFavours 26 = .ok (.ireturn, 1) := by decide +kernel
theorem dX0_fulfilFavours_27 : decode cX0_fulfilFavours 27 = .ok (.aload_n 0, 1) := by decide +kernel
theorem dX0_fulfilFavours_28 : decode cX0_fulfilFavours 28 = .ok (.iload_n 1, 1) := by decide +kernel
theorem dX0_fulfilFavours_29 : decode cX0_fulfilFavours 29 = .ok (.iload_n 2, 1) := by decide +kernel
theorem dX0_fulfilFavours_30 : decode cX0_fulfilFavours 30 = .ok (.iload_n 3, 1) := by decide +kernel
theorem dX0_fulfilFavours_31 : decode cX0_fulfilFavours 31 = .ok (.invokevirtual 70, 3) := by decide +kernel
theorem dX0_fulfilFavours_34 : decode cX0_fulfilFavours 34 = .ok (.iload 4, 2) := by decide +kernel
theorem dX0_fulfilFavours_36 : decode cX0_fulfilFavours 36 = .ok (.if_icmp .ge 6, 3) := by decide +kernel
theorem dX0_fulfilFavours_39 : decode cX0_fulfilFavours 39 = .ok (.ldc 125, 2) := by decide +kernel
theorem dX0_fulfilFavours_41 : decode cX0_fulfilFavours 41 = .ok (.ireturn, 1) := by decide +kernel
theorem dX0_fulfilFavours_42 : decode cX0_fulfilFavours 42 = .ok (.aload_n 0, 1) := by decide +kernel
theorem dX0_fulfilFavours_43 : decode cX0_fulfilFavours 43 = .ok (.iload_n 1, 1) := by decide +kernel
theorem dX0_fulfilFavours_44 : decode cX0_fulfilFavours 44 = .ok (.iload_n 2, 1) := by decide +kernel
theorem dX0_fulfilFavours_45 : decode cX0_fulfilFavours 45 = .ok (.iload_n 3, 1) := by decide +kernel
theorem dX0_fulfilFavours_46 : decode cX0_fulfilFavours 46 = .ok (.iload 4, 2) := by decide +kernel
theorem dX0_fulfilFavours_48 : decode cX0_fulfilFavours 48 = .ok (.invokevirtual 130, 3) := by decide +kernel
theorem dX0_fulfilFavours_51 : decode cX0_fulfilFavours 51 = .ok (.aload_n 0, 1) := by decide +kernel
theorem dX0_fulfilFavours_52 : decode cX0_fulfilFavours 52 = .ok (.getfield 15, 3) := by decide +kernel
theorem dX0_fulfilFavours_55 : decode cX0_fulfilFavours 55 = .ok (.iload_n 1, 1) := by decide +kernel
theorem dX0_fulfilFavours_56 : decode cX0_fulfilFavours 56 = .ok (.iload 4, 2) := by decide +kernel
theorem dX0_fulfilFavours_58 : decode cX0_fulfilFavours 58 = .ok (.invokestatic 86, 3) := by decide +kernel
theorem dX0_fulfilFavours_61 : decode cX0_fulfilFavours 61 = .ok (.aload_n 0, 1) := by decide +kernel
theorem dX0_fulfilFavours_62 : decode cX0_fulfilFavours 62 = .ok (.getfield 15, 3) := by decide +kernel
theorem dX0_fulfilFavours_65 : decode cX0_fulfilFavours 65 = .ok (.iload_n 2, 1) := by decide +kernel
theorem dX0_fulfilFavours_66 : decode cX0_fulfilFavours 66 = .ok (.iload 4, 2) := by decide +kernel
theorem dX0_fulfilFavours_68 : decode cX0_fulfilFavours 68 = .ok (.ineg, 1) := by decide +kernel
theorem dX0_fulfilFavours_69 : decode cX0_fulfilFavours 69 = .ok (.invokestatic 86, 3) := by decide +kernel
theorem dX0_fulfilFavours_72 : decode cX0_fulfilFavours 72 = .ok (.aload_n 0, 1) := by decide +kernel
theorem dX0_fulfilFavours_73 : decode cX0_fulfilFavours 73 = .ok (.getfield 18, 3) := by decide +kernel
theorem dX0_fulfilFavours_76 : decode cX0_fulfilFavours 76 = .ok (.iload_n 1, 1) := by decide +kernel
theorem dX0_fulfilFavours_77 : decode cX0_fulfilFavours 77 = .ok (.iload 4, 2) := by decide +kernel
theorem dX0_fulfilFavours_79 : decode cX0_fulfilFavours 79 = .ok (.invokestatic 86, 3) := by decide +kernel
theorem dX0_fulfilFavours_82 : decode cX0_fulfilFavours 82 = .ok (.aload_n 0, 1) := by decide +kernel
theorem dX0_fulfilFavours_83 : decode cX0_fulfilFavours 83 = .ok (.getfield 9, 3) := by decide +kernel
theorem dX0_fulfilFavours_86 : decode cX0_fulfilFavours 86 = .ok (.iconst 5, 1) := by decide +kernel
theorem dX0_fulfilFavours_87 : decode cX0_fulfilFavours 87 = .ok (.iload 4, 2) := by decide +kernel
theorem dX0_fulfilFavours_89 : decode cX0_fulfilFavours 89 = .ok (.invokestatic 86, 3) := by decide +kernel
theorem dX0_fulfilFavours_92 : decode cX0_fulfilFavours 92 = .ok (.aload_n 0, 1) := by decide +kernel
theorem dX0_fulfilFavours_93 : decode cX0_fulfilFavours 93 = .ok (.iload_n 1, 1) := by decide +kernel
theorem dX0_fulfilFavours_94 : decode cX0_fulfilFavours 94 = .ok (.iload_n 2, 1) := by decide +kernel
theorem dX0_fulfilFavours_95 : decode cX0_fulfilFavours 95 = .ok (.iload_n 3, 1) := by decide +kernel
theorem dX0_fulfilFavours_96 : decode cX0_fulfilFavours 96 = .ok (.invokevirtual 70, 3) := by decide +kernel
theorem dX0_fulfilFavours_99 : decode cX0_fulfilFavours 99 = .ok (.ireturn, 1) := by decide +kernel
set_option maxRecDepth 20000 in
theorem ggX0_countCleared_X4_add : GoodIn wsX0_countCleared wsX4_add := goodIn_r _ [5] (by decide +kernel) (by decide +kernel)
set_option maxRecDepth 20000 in
theorem gX0_countCleared_X4_add_n86 : GoodIn wsX0_countCleared (wsX4_add) := ggX0_countCleared_X4_add
theorem dX0_countCleared_0 : decode cX0_countCleared 0 = .ok (.aload_n 0, 1) := by decide +kernel
theorem dX0_countCleared_1 : decode cX0_countCleared 1 = .ok (.getfield 30, 3) := by decide +kernel
theorem dX0_countCleared_4 : decode cX0_countCleared 4 = .ok (.iload_n 1, 1) := by decide +kernel
theorem dX0_countCleared_5 : decode cX0_countCleared 5 = .ok (.iload_n 2, 1) := by decide +kernel
theorem dX0_countCleared_6 : decode cX0_countCleared 6 = .ok (.invokestatic 86, 3) := by decide +kernel
theorem dX0_countCleared_9 : decode cX0_countCleared 9 = .ok (.aload_n 0, 1) := by decide +kernel
theorem dX0_countCleared_10 : decode cX0_countCleared 10 = .ok (.getfield 9, 3) := by decide +kernel
theorem dX0_countCleared_13 : decode cX0_countCleared 13 = .ok (.bipush 7, 2) := by decide +kernel
theorem dX0_countCleared_15 : decode cX0_countCleared 15 = .ok (.iload_n 2, 1) := by decide +kernel
theorem dX0_countCleared_16 : decode cX0_countCleared 16 = .ok (.invokestatic 86, 3) := by decide +kernel
theorem dX0_countCleared_19 : decode cX0_countCleared 19 = .ok (.return_, 1) := by decide +kernel
set_option maxRecDepth 20000 in
theorem ggX0_countRing_X4_add : GoodIn wsX0_countRing wsX4_add := goodIn_r _ [4] (by decide +kernel) (by decide +kernel)
set_option maxRecDepth 20000 in
theorem gX0_countRing_X4_add_n86 : GoodIn wsX0_countRing (wsX4_add) := ggX0_countRing_X4_add
theorem dX0_countRing_0 : decode cX0_countRing 0 = .ok (.aload_n 0, 1) := by decide +kernel
theorem dX0_countRing_1 : decode cX0_countRing 1 = .ok (.getfield 9, 3) := by decide +kernel
theorem dX0_countRing_4 : decode cX0_countRing 4 = .ok (.bipush 9, 2) := by decide +kernel
theorem dX0_countRing_6 : decode cX0_countRing 6 = .ok (.iconst 1, 1) := by decide +kernel
theorem dX0_countRing_7 : decode cX0_countRing 7 = .ok (.invokestatic 86, 3) := by decide +kernel
theorem dX0_countRing_10 : decode cX0_countRing 10 = .ok (.return_, 1) := by decide +kernel
set_option maxRecDepth 20000 in
theorem ggX0_endWeeks_X0_number : GoodIn wsX0_endWeeks wsX0_number := goodIn_r _ [7, 8, 54, 55, 56, 57, 58, 59, 60, 61, 62, 63, 64, 65, 66] (by decide +kernel) (by decide +kernel)
set_option maxRecDepth 20000 in
theorem gX0_endWeeks_X0_number : GoodIn wsX0_endWeeks (wsV RX0 63 RX0 yX0_number wsX0_number) := goodIn_app (goodIn_of _ (by decide +kernel)) ggX0_endWeeks_X0_number
set_option maxRecDepth 20000 in
theorem ggX0_endWeeks_X0_endWeek : GoodIn wsX0_endWeeks wsX0_endWeek := goodIn_r _ [12, 8, 13, 14, 15, 16, 17, 18, 19, 6, 20, 3, 4, 5, 7, 21, 22, 23, 24, 25, 26, 27, 28, 29, 30, 31, 32, 33, 34, 35, 36, 37, 38, 39, 40, 41, 42, 43, 44, 45, 46, 47, 48, 49, 50, 51, 52, 53, 54, 55, 56, 57, 58, 59, 60, 61, 62, 63, 64, 65, 66] (by decide +kernel) (by decide +kernel)
set_option maxRecDepth 20000 in
theorem gX0_endWeeks_X0_endWeek : GoodIn wsX0_endWeeks (wsV RX0 133 RX0 yX0_endWeek wsX0_endWeek) := goodIn_app (goodIn_of _ (by decide +kernel)) ggX0_endWeeks_X0_endWeek
theorem dX0_endWeeks_0 : decode cX0_endWeeks 0 = .ok (.iload_n 1, 1) := by decide +kernel
theorem dX0_endWeeks_1 : decode cX0_endWeeks 1 = .ok (.iconst 1, 1) := by decide +kernel
theorem dX0_endWeeks_2 : decode cX0_endWeeks 2 = .ok (.if_icmp .lt 9, 3) := by decide +kernel
theorem dX0_endWeeks_5 : decode cX0_endWeeks 5 = .ok (.iload_n 1, 1) := by decide +kernel
theorem dX0_endWeeks_6 : decode cX0_endWeeks 6 = .ok (.bipush 20, 2) := by decide +kernel
theorem dX0_endWeeks_8 : decode cX0_endWeeks 8 = .ok (.if_icmp .le 6, 3) := by decide +kernel
theorem dX0_endWeeks_11 : decode cX0_endWeeks 11 = .ok (.ldc 93, 2) := by decide +kernel
theorem dX0_endWeeks_13 : decode cX0_endWeeks 13 = .ok (.ireturn, 1) := by decide +kernel
theorem dX0_endWeeks_14 : decode cX0_endWeeks 14 = .ok (.aload_n 0, 1) := by decide +kernel
theorem dX0_endWeeks_15 : decode cX0_endWeeks 15 = .ok (.iconst 0, 1) := by decide +kernel
theorem dX0_endWeeks_16 : decode cX0_endWeeks 16 = .ok (.invokevirtual 63, 3) := by decide +kernel
theorem dX0_endWeeks_19 : decode cX0_endWeeks 19 = .ok (.iload_n 1, 1) := by decide +kernel
theorem dX0_endWeeks_20 : decode cX0_endWeeks 20 = .ok (.iadd, 1) := by decide +kernel
theorem dX0_endWeeks_21 : decode cX0_endWeeks 21 = .ok (.sipush 999, 3) := by decide +kernel
theorem dX0_endWeeks_24 : decode cX0_endWeeks 24 = .ok (.if_icmp .le 6, 3) := by decide +kernel
theorem dX0_endWeeks_27 : decode cX0_endWeeks 27 = .ok (.ldc 85, 2) := by decide +kernel
theorem dX0_endWeeks_29 : decode cX0_endWeeks 29 = .ok (.ireturn, 1) := by decide +kernel
theorem dX0_endWeeks_30 : decode cX0_endWeeks 30 = .ok (.aload_n 0, 1) := by decide +kernel
theorem dX0_endWeeks_31 : decode cX0_endWeeks 31 = .ok (.bipush 6, 2) := by decide +kernel
theorem dX0_endWeeks_33 : decode cX0_endWeeks 33 = .ok (.invokevirtual 63, 3) := by decide +kernel
theorem dX0_endWeeks_36 : decode cX0_endWeeks 36 = .ok (.istore_n 2, 1) := by decide +kernel
theorem dX0_endWeeks_37 : decode cX0_endWeeks 37 = .ok (.iconst 0, 1) := by decide +kernel
theorem dX0_endWeeks_38 : decode cX0_endWeeks 38 = .ok (.istore_n 3, 1) := by decide +kernel
theorem dX0_endWeeks_39 : decode cX0_endWeeks 39 = .ok (.iload_n 3, 1) := by decide +kernel
theorem dX0_endWeeks_40 : decode cX0_endWeeks 40 = .ok (.iload_n 1, 1) := by decide +kernel
theorem dX0_endWeeks_41 : decode cX0_endWeeks 41 = .ok (.if_icmp .ge 13, 3) := by decide +kernel
theorem dX0_endWeeks_44 : decode cX0_endWeeks 44 = .ok (.aload_n 0, 1) := by decide +kernel
theorem dX0_endWeeks_45 : decode cX0_endWeeks 45 = .ok (.invokevirtual 133, 3) := by decide +kernel
theorem dX0_endWeeks_48 : decode cX0_endWeeks 48 = .ok (.iinc 3 1, 3) := by decide +kernel
theorem dX0_endWeeks_51 : decode cX0_endWeeks 51 = .ok (.goto (-12), 3) := by decide +kernel
theorem dX0_endWeeks_54 : decode cX0_endWeeks 54 = .ok (.aload_n 0, 1) := by decide +kernel
theorem dX0_endWeeks_55 : decode cX0_endWeeks 55 = .ok (.bipush 6, 2) := by decide +kernel
theorem dX0_endWeeks_57 : decode cX0_endWeeks 57 = .ok (.invokevirtual 63, 3) := by decide +kernel
theorem dX0_endWeeks_60 : decode cX0_endWeeks 60 = .ok (.iload_n 2, 1) := by decide +kernel
theorem dX0_endWeeks_61 : decode cX0_endWeeks 61 = .ok (.isub, 1) := by decide +kernel
theorem dX0_endWeeks_62 : decode cX0_endWeeks 62 = .ok (.ireturn, 1) := by decide +kernel
set_option maxRecDepth 20000 in
theorem ggX0_endWeek_X4_add : GoodIn wsX0_endWeek wsX4_add := goodIn_r _ [5] (by decide +kernel) (by decide +kernel)
set_option maxRecDepth 20000 in
theorem gX0_endWeek_X4_add_n86 : GoodIn wsX0_endWeek (wsX4_add) := ggX0_endWeek_X4_add
set_option maxRecDepth 20000 in
theorem ggX0_endWeek_X0_hasHolidays : GoodIn wsX0_endWeek wsX0_hasHolidays := goodIn_r _ [10, 11, 12, 13, 9, 14, 1, 48, 49, 50, 51, 52, 53, 54, 55, 56, 57, 58, 59, 60] (by decide +kernel) (by decide +kernel)
set_option maxRecDepth 20000 in
theorem gX0_endWeek_X0_hasHolidays : GoodIn wsX0_endWeek (wsV RX0 136 RX0 yX0_hasHolidays wsX0_hasHolidays) := goodIn_app (goodIn_of _ (by decide +kernel)) ggX0_endWeek_X0_hasHolidays
set_option maxRecDepth 20000 in
theorem ggX0_endWeek_X0_number : GoodIn wsX0_endWeek wsX0_number := goodIn_r _ [14, 1, 48, 49, 50, 51, 52, 53, 54, 55, 56, 57, 58, 59, 60] (by decide +kernel) (by decide +kernel)
set_option maxRecDepth 20000 in
theorem gX0_endWeek_X0_number : GoodIn wsX0_endWeek (wsV RX0 63 RX0 yX0_number wsX0_number) := goodIn_app (goodIn_of _ (by decide +kernel)) ggX0_endWeek_X0_number
set_option maxRecDepth 20000 in
theorem ggX0_endWeek_X0_weeksLeft : GoodIn wsX0_endWeek wsX0_weeksLeft := goodIn_r _ [18, 19, 2, 20, 4, 21, 11, 12, 13, 9, 14, 1, 48, 49, 50, 51, 52, 53, 54, 55, 56, 57, 58, 59, 60] (by decide +kernel) (by decide +kernel)
set_option maxRecDepth 20000 in
theorem gX0_endWeek_X0_weeksLeft : GoodIn wsX0_endWeek (wsV RX0 98 RX0 yX0_weeksLeft wsX0_weeksLeft) := goodIn_app (goodIn_of _ (by decide +kernel)) ggX0_endWeek_X0_weeksLeft
set_option maxRecDepth 20000 in
theorem ggX0_endWeek_X0_passToGuarantor : GoodIn wsX0_endWeek wsX0_passToGuarantor := goodIn_r _ [25, 26, 27, 28, 29, 2, 30, 31, 1, 20, 4, 21, 32, 33, 34, 9, 35, 36, 37, 38, 3, 5, 48, 49, 50, 51, 52, 53, 54, 55, 56, 57, 58, 59, 60] (by decide +kernel) (by decide +kernel)
set_option maxRecDepth 20000 in
theorem gX0_endWeek_X0_passToGuarantor : GoodIn wsX0_endWeek (wsV RX0 140 RX0 yX0_passToGuarantor wsX0_passToGuarantor) := goodIn_app (goodIn_of _ (by decide +kernel)) ggX0_endWeek_X0_passToGuarantor
set_option maxRecDepth 20000 in
theorem ggX0_endWeek_X0_spoilLot : GoodIn wsX0_endWeek wsX0_spoilLot := goodIn_r _ [42, 26, 29, 30, 27, 43, 1, 20, 4, 21, 37, 38, 3, 5, 48, 49, 50, 51, 52, 53, 54, 55, 56, 57, 58, 59, 60] (by decide +kernel) (by decide +kernel)
set_option maxRecDepth 20000 in
theorem gX0_endWeek_X0_spoilLot : GoodIn wsX0_endWeek (wsV RX0 143 RX0 yX0_spoilLot wsX0_spoilLot) := goodIn_app (goodIn_of _ (by decide +kernel)) ggX0_endWeek_X0_spoilLot
set_option maxRecDepth 20000 in
theorem ggX0_endWeek_X0_dropEmptyLots : GoodIn wsX0_endWeek wsX0_dropEmptyLots := goodIn_r _ [47, 29, 26, 27, 19, 2, 28, 1, 11, 12, 13, 9, 14, 20, 4, 21, 37, 38, 48, 49, 50, 51, 52, 53, 54, 55, 56, 57, 58, 59, 60] (by decide +kernel) (by decide +kernel)
set_option maxRecDepth 20000 in
theorem gX0_endWeek_X0_dropEmptyLots : GoodIn wsX0_endWeek (wsV RX0 113 RX0 yX0_dropEmptyLots wsX0_dropEmptyLots) := goodIn_app (goodIn_of _ (by decide +kernel)) ggX0_endWeek_X0_dropEmptyLots
theorem dX0_endWeek_0 : decode cX0_endWeek 0 = .ok (.aload_n 0, 1) := by decide +kernel
theorem dX0_endWeek_1 : decode cX0_endWeek 1 = .ok (.getfield 9, 3) := by decide +kernel
theorem dX0_endWeek_4 : decode cX0_endWeek 4 = .ok (.iconst 0, 1) := by decide +kernel
theorem dX0_endWeek_5 : decode cX0_endWeek 5 = .ok (.iconst 1, 1) := by decide +kernel
theorem dX0_endWeek_6 : decode cX0_endWeek 6 = .ok (.invokestatic 86, 3) := by decide +kernel
theorem dX0_endWeek_9 : decode cX0_endWeek 9 = .ok (.aload_n 0, 1) := by decide +kernel
theorem dX0_endWeek_10 : decode cX0_endWeek 10 = .ok (.invokevirtual 136, 3) := by decide +kernel
theorem dX0_endWeek_13 : decode cX0_endWeek 13 = .ok (.ifCond .eq 4, 3) := by decide +kernel
theorem dX0_endWeek_16 : decode cX0_endWeek 16 = .ok (.return_, 1) := by decide +kernel
theorem dX0_endWeek_17 : decode cX0_endWeek 17 = .ok (.iconst 0, 1) := by decide +kernel
theorem dX0_endWeek_18 : decode cX0_endWeek 18 = .ok (.istore_n 1, 1) := by decide +kernel
theorem dX0_endWeek_19 : decode cX0_endWeek 19 = .ok (.iload_n 1, 1) := by decide +kernel
theorem dX0_endWeek_20 : decode cX0_endWeek 20 = .ok (.aload_n 0, 1) := by decide +kernel
theorem dX0_endWeek_21 : decode cX0_endWeek 21 = .ok (.iconst 2, 1) := by decide +kernel
theorem dX0_endWeek_22 : decode cX0_endWeek 22 = .ok (.invokevirtual 63, 3) := by decide +kernel
theorem dX0_endWeek_25 : decode cX0_endWeek 25 = .ok (.if_icmp .ge 39, 3) := by decide +kernel
theorem dX0_endWeek_28 : decode cX0_endWeek 28 = .ok (.aload_n 0, 1) := by decide +kernel
theorem dX0_endWeek_29 : decode cX0_endWeek 29 = .ok (.getfield 45, 3) := by decide +kernel
theorem dX0_endWeek_32 : decode cX0_endWeek 32 = .ok (.iload_n 1, 1) := by decide +kernel
theorem dX0_endWeek_33 : decode cX0_endWeek 33 = .ok (.iconst 1, 1) := by decide +kernel
theorem dX0_endWeek_34 : decode cX0_endWeek 34 = .ok (.invokestatic 86, 3) := by decide +kernel
theorem dX0_endWeek_37 : decode cX0_endWeek 37 = .ok (.aload_n 0, 1) := by decide +kernel
theorem dX0_endWeek_38 : decode cX0_endWeek 38 = .ok (.iload_n 1, 1) := by decide +kernel
theorem dX0_endWeek_39 : decode cX0_endWeek 39 = .ok (.invokevirtual 98, 3) := by decide +kernel
theorem dX0_endWeek_42 : decode cX0_endWeek 42 = .ok (.ifCond .gt 16, 3) := by decide +kernel
theorem dX0_endWeek_45 : decode cX0_endWeek 45 = .ok (.aload_n 0, 1) := by decide +kernel
theorem dX0_endWeek_46 : decode cX0_endWeek 46 = .ok (.iload_n 1, 1) := by decide +kernel
theorem dX0_endWeek_47 : decode cX0_endWeek 47 = .ok (.invokevirtual 140, 3) := by decide +kernel
theorem dX0_endWeek_50 : decode cX0_endWeek 50 = .ok (.ifCond .ne 8, 3) := by decide +kernel
theorem dX0_endWeek_53 : decode cX0_endWeek 53 = .ok (.aload_n 0, 1) := by decide +kernel
theorem dX0_endWeek_54 : decode cX0_endWeek 54 = .ok (.iload_n 1, 1) := by decide +kernel
theorem dX0_endWeek_55 : decode cX0_endWeek 55 = .ok (.invokevirtual 143, 3) := by decide +kernel
theorem dX0_endWeek_58 : decode cX0_endWeek 58 = .ok (.iinc 1 1, 3) := by decide +kernel
theorem dX0_endWeek_61 : decode cX0_endWeek 61 = .ok (.goto (-42), 3) := by decide +kernel
theorem dX0_endWeek_64 : decode cX0_endWeek 64 = .ok (.aload_n 0, 1) := by decide +kernel
theorem dX0_endWeek_65 : decode cX0_endWeek 65 = .ok (.invokevirtual 113, 3) := by decide +kernel
theorem dX0_endWeek_68 : decode cX0_endWeek 68 = .ok (.return_, 1) := by decide +kernel
set_option maxRecDepth 20000 in
theorem ggX0_passToGuarantor_X4_at : GoodIn wsX0_passToGuarantor wsX4_at := goodIn_r _ [11] (by decide +kernel) (by decide +kernel)
set_option maxRecDepth 20000 in
theorem gX0_passToGuarantor_X4_at_n77 : GoodIn wsX0_passToGuarantor (wsX4_at) := ggX0_passToGuarantor_X4_at
set_option maxRecDepth 20000 in
theorem ggX0_passToGuarantor_X0_guarantorOf : GoodIn wsX0_passToGuarantor wsX0_guarantorOf := goodIn_r _ [16, 17, 22, 23, 24, 25, 26, 27, 28, 29, 30, 31, 32, 33, 34] (by decide +kernel) (by decide +kernel)
set_option maxRecDepth 20000 in
theorem gX0_passToGuarantor_X0_guarantorOf : GoodIn wsX0_passToGuarantor (wsV RX0 81 RX0 yX0_guarantorOf wsX0_guarantorOf) := goodIn_app (goodIn_of _ (by decide +kernel)) ggX0_passToGuarantor_X0_guarantorOf
set_option maxRecDepth 20000 in
theorem ggX0_passToGuarantor_X4_put : GoodIn wsX0_passToGuarantor wsX4_put := goodIn_r _ [19] (by decide +kernel) (by decide +kernel)
set_option maxRecDepth 20000 in
theorem gX0_passToGuarantor_X4_put_n55 : GoodIn wsX0_passToGuarantor (wsX4_put) := ggX0_passToGuarantor_X4_put
set_option maxRecDepth 20000 in
theorem ggX0_passToGuarantor_X4_add : GoodIn wsX0_passToGuarantor wsX4_add := goodIn_r _ [21] (by decide +kernel) (by decide +kernel)
set_option maxRecDepth 20000 in
theorem gX0_passToGuarantor_X4_add_n86 : GoodIn wsX0_passToGuarantor (wsX4_add) := ggX0_passToGuarantor_X4_add
theorem dX0_passToGuarantor_0 : decode cX0_passToGuarantor 0 = .ok (.aload_n 0, 1) := by decide +kernel
theorem dX0_passToGuarantor_1 : decode cX0_passToGuarantor 1 = .ok (.getfield 33, 3) := by decide +kernel
theorem dX0_passToGuarantor_4 : decode cX0_passToGuarantor 4 = .ok (.iload_n 1, 1) := by decide +kernel
theorem dX0_passToGuarantor_5 : decode cX0_passToGuarantor 5 = .ok (.invokestatic 77, 3) := by decide +kernel
theorem dX0_passToGuarantor_8 : decode cX0_passToGuarantor 8 = .ok (.istore_n 2, 1) := by decide +kernel
theorem dX0_passToGuarantor_9 : decode cX0_passToGuarantor 9 = .ok (.aload_n 0, 1) := by decide +kernel
theorem dX0_passToGuarantor_10 : decode cX0_passToGuarantor 10 = .ok (.iload_n 2, 1) := by decide +kernel
theorem dX0_passToGuarantor_11 : decode cX0_passToGuarantor 11 = .ok (.invokevirtual 81, 3) := by decide +kernel
theorem dX0_passToGuarantor_14 : decode cX0_passToGuarantor 14 = .ok (.istore_n 3, 1) := by decide +kernel
theorem dX0_passToGuarantor_15 : decode cX0_passToGuarantor 15 = .ok (.iload_n 3, 1) := by decide +kernel
theorem dX0_passToGuarantor_16 : decode cX0_passToGuarantor 16 = .ok (.ifCond .lt 26, 3) := by decide +kernel
theorem dX0_passToGuarantor_19 : decode cX0_passToGuarantor 19 = .ok (.iload_n 3, 1) := by decide +kernel
theorem dX0_passToGuarantor_20 : decode cX0_passToGuarantor 20 = .ok (.aload_n 0, 1) := by decide +kernel
theorem dX0_passToGuarantor_21 : decode cX0_passToGuarantor 21 = .ok (.getfield 36, 3) := by decide +kernel
theorem dX0_passToGuarantor_24 : decode cX0_passToGuarantor 24 = .ok (.iload_n 1, 1) := by decide +kernel
theorem dX0_passToGuarantor_25 : decode cX0_passToGuarantor 25 = .ok (.invokestatic 77, 3) := by decide +kernel
theorem dX0_passToGuarantor_28 : decode cX0_passToGuarantor 28 = .ok (.if_icmp .eq 14, 3) := by decide +kernel
theorem dX0_passToGuarantor_31 : decode cX0_passToGuarantor 31 = .ok (.aload_n 0, 1) := by decide +kernel
theorem dX0_passToGuarantor_32 : decode cX0_passToGuarantor 32 = .ok (.getfield 48, 3) := by decide +kernel
theorem dX0_passToGuarantor_35 : decode cX0_passToGuarantor 35 = .ok (.iload_n 1, 1) := by decide +kernel
theorem dX0_passToGuarantor_36 : decode cX0_passToGuarantor 36 = .ok (.invokestatic 77, 3) := by decide +kernel
theorem dX0_passToGuarantor_39 : decode cX0_passToGuarantor 39 = .ok (.ifCond .eq 5, 3) := by decide +kernel
theorem dX0_passToGuarantor_42 : decode cX0_passToGuarantor 42 = .ok (.iconst 0, 1) := by decide +kernel
theorem dX0_passToGuarantor_43 : decode cX0_passToGuarantor 43 = .ok (.ireturn, 1) := by decide +kernel
theorem dX0_passToGuarantor_44 : decode cX0_passToGuarantor 44 = .ok (.aload_n 0, 1) := by decide +kernel
theorem dX0_passToGuarantor_45 : decode cX0_passToGuarantor 45 = .ok (.getfield 42, 3) := by decide +kernel
theorem dX0_passToGuarantor_48 : decode cX0_passToGuarantor 48 = .ok (.iload_n 1, 1) := by decide +kernel
theorem dX0_passToGuarantor_49 : decode cX0_passToGuarantor 49 = .ok (.invokestatic 77, 3) := by decide +kernel
theorem dX0_passToGuarantor_52 : decode cX0_passToGuarantor 52 = .ok (.istore 4, 2) := by decide +kernel
theorem dX0_passToGuarantor_54 : decode cX0_passToGuarantor 54 = .ok (.aload_n 0, 1) := by decide +kernel
theorem dX0_passToGuarantor_55 : decode cX0_passToGuarantor 55 = .ok (.getfield 33, 3) := by decide +kernel
theorem dX0_passToGuarantor_58 : decode cX0_passToGuarantor 58 = .ok (.iload_n 1, 1) := by decide +kernel
theorem dX0_passToGuarantor_59 : decode cX0_passToGuarantor 59 = .ok (.iload_n 3, 1) := by decide +kernel
theorem dX0_passToGuarantor_60 : decode cX0_passToGuarantor 60 = .ok (.invokestatic 55, 3) := by decide +kernel
theorem dX0_passToGuarantor_63 : decode cX0_passToGuarantor 63 = .ok (.aload_n 0, 1) := by decide +kernel
theorem dX0_passToGuarantor_64 : decode cX0_passToGuarantor 64 = .ok (.getfield 45, 3) := by decide +kernel
theorem dX0_passToGuarantor_67 : decode cX0_passToGuarantor 67 = .ok (.iload_n 1, 1) := by decide +kernel
theorem dX0_passToGuarantor_68 : decode cX0_passToGuarantor 68 = .ok (.iconst 0, 1) := by decide +kernel
theorem dX0_passToGuarantor_69 : decode cX0_passToGuarantor 69 = .ok (.invokestatic 55, 3) := by decide +kernel
theorem dX0_passToGuarantor_72 : decode cX0_passToGuarantor 72 = .ok (.aload_n 0, 1) := by decide +kernel
theorem dX0_passToGuarantor_73 : decode cX0_passToGuarantor 73 = .ok (.getfield 48, 3) := by decide +kernel
theorem dX0_passToGuarantor_76 : decode cX0_passToGuarantor 76 = .ok (.iload_n 1, 1) := by decide +kernel
theorem dX0_passToGuarantor_77 : decode cX0_passToGuarantor 77 = .ok (.iconst 1, 1) := by decide +kernel
theorem dX0_passToGuarantor_78 : decode cX0_passToGuarantor 78 = .ok (.invokestatic 55, 3) := by decide +kernel
theorem dX0_passToGuarantor_81 : decode cX0_passToGuarantor 81 = .ok (.aload_n 0, 1) := by decide +kernel
theorem dX0_passToGuarantor_82 : decode cX0_passToGuarantor 82 = .ok (.getfield 15, 3) := by decide +kernel
theorem dX0_passToGuarantor_85 : decode cX0_passToGuarantor 85 = .ok (.iload_n 2, 1) := by decide +kernel
theorem dX0_passToGuarantor_86 : decode cX0_passToGuarantor 86 = .ok (.iload 4, 2) := by decide +kernel
theorem dX0_passToGuarantor_88 : decode cX0_passToGuarantor 88 = .ok (.invokestatic 86, 3) := by decide +kernel
theorem dX0_passToGuarantor_91 : decode cX0_passToGuarantor 91 = .ok (.aload_n 0, 1) := by decide +kernel
theorem dX0_passToGuarantor_92 : decode cX0_passToGuarantor 92 = .ok (.getfield 15, 3) := by decide +kernel
theorem dX0_passToGuarantor_95 : decode cX0_passToGuarantor 95 = .ok (.iload_n 3, 1) := by decide +kernel
theorem dX0_passToGuarantor_96 : decode cX0_passToGuarantor 96 = .ok (.iload 4, 2) := by decide +kernel
theorem dX0_passToGuarantor_98 : decode cX0_passToGuarantor 98 = .ok (.ineg, 1) := by decide +kernel
theorem dX0_passToGuarantor_99 : decode cX0_passToGuarantor 99 = .ok (.invokestatic 86, 3) := by decide +kernel
theorem dX0_passToGuarantor_102 : decode cX0_passToGuarantor 102 = .ok (.aload_n 0, 1) := by decide +kernel
theorem dX0_passToGuarantor_103 : decode cX0_passToGuarantor 103 = .ok (.getfield 27, 3) := by decide +kernel
theorem dX0_passToGuarantor_106 : decode cX0_passToGuarantor 106 = .ok (.iload_n 3, 1) := by decide +kernel
theorem dX0_passToGuarantor_107 : decode cX0_passToGuarantor 107 = .ok (.iload 4, 2) := by decide +kernel
theorem dX0_passToGuarantor_109 : decode cX0_passToGuarantor 109 = .ok (.invokestatic 86, 3) := by decide +kernel
theorem dX0_passToGuarantor_112 : decode cX0_passToGuarantor 112 = .ok (.aload_n 0, 1) := by decide +kernel
theorem dX0_passToGuarantor_113 : decode cX0_passToGuarantor 113 = .ok (.getfield 9, 3) := by decide +kernel
theorem dX0_passToGuarantor_116 : decode cX0_passToGuarantor 116 = .ok (.bipush 8, 2) := by decide +kernel
theorem dX0_passToGuarantor_118 : decode cX0_passToGuarantor 118 = .ok (.iload 4, 2) := by decide +kernel
theorem dX0_passToGuarantor_120 : decode cX0_passToGuarantor 120 = .ok (.invokestatic 86, 3) := by decide +kernel
theorem dX0_passToGuarantor_123 : decode cX0_passToGuarantor 123 = .ok (.iconst 1, 1) := by decide +kernel
theorem dX0_passToGuarantor_124 : decode cX0_passToGuarantor 124 = .ok (.ireturn, 1) := by decide +kernel
set_option maxRecDepth 20000 in
theorem ggX0_spoilLot_X4_at : GoodIn wsX0_spoilLot wsX4_at := goodIn_r _ [9] (by decide +kernel) (by decide +kernel)
set_option maxRecDepth 20000 in
theorem gX0_spoilLot_X4_at_n77 : GoodIn wsX0_spoilLot (wsX4_at) := ggX0_spoilLot_X4_at
set_option maxRecDepth 20000 in
theorem ggX0_spoilLot_X4_put : GoodIn wsX0_spoilLot wsX4_put := goodIn_r _ [11] (by decide +kernel) (by decide +kernel)
set_option maxRecDepth 20000 in
theorem gX0_spoilLot_X4_put_n55 : GoodIn wsX0_spoilLot (wsX4_put) := ggX0_spoilLot_X4_put
set_option maxRecDepth 20000 in
theorem ggX0_spoilLot_X4_add : GoodIn wsX0_spoilLot wsX4_add := goodIn_r _ [13] (by decide +kernel) (by decide +kernel)
set_option maxRecDepth 20000 in
theorem gX0_spoilLot_X4_add_n86 : GoodIn wsX0_spoilLot (wsX4_add) := ggX0_spoilLot_X4_add
theorem dX0_spoilLot_0 : decode cX0_spoilLot 0 = .ok (.aload_n 0, 1) := by decide +kernel
theorem dX0_spoilLot_1 : decode cX0_spoilLot 1 = .ok (.getfield 33, 3) := by decide +kernel
theorem dX0_spoilLot_4 : decode cX0_spoilLot 4 = .ok (.iload_n 1, 1) := by decide +kernel
theorem dX0_spoilLot_5 : decode cX0_spoilLot 5 = .ok (.invokestatic 77, 3) := by decide +kernel
theorem dX0_spoilLot_8 : decode cX0_spoilLot 8 = .ok (.istore_n 2, 1) := by decide +kernel
theorem dX0_spoilLot_9 : decode cX0_spoilLot 9 = .ok (.aload_n 0, 1) := by decide +kernel
theorem dX0_spoilLot_10 : decode cX0_spoilLot 10 = .ok (.getfield 42, 3) := by decide +kernel
theorem dX0_spoilLot_13 : decode cX0_spoilLot 13 = .ok (.iload_n 1, 1) := by decide +kernel
theorem dX0_spoilLot_14 : decode cX0_spoilLot 14 = .ok (.invokestatic 77, 3) := by decide +kernel
theorem dX0_spoilLot_17 : decode cX0_spoilLot 17 = .ok (.istore_n 3, 1) := by decide +kernel
theorem dX0_spoilLot_18 : decode cX0_spoilLot 18 = .ok (.aload_n 0, 1) := by decide +kernel
theorem dX0_spoilLot_19 : decode cX0_spoilLot 19 = .ok (.getfield 42, 3) := by decide +kernel
theorem dX0_spoilLot_22 : decode cX0_spoilLot 22 = .ok (.iload_n 1, 1) := by decide +kernel
theorem dX0_spoilLot_23 : decode cX0_spoilLot 23 = .ok (.iconst 0, 1) := by decide +kernel
theorem dX0_spoilLot_24 : decode cX0_spoilLot 24 = .ok (.invokestatic 55, 3) := by decide +kernel
theorem dX0_spoilLot_27 : decode cX0_spoilLot 27 = .ok (.aload_n 0, 1) := by decide +kernel
theorem dX0_spoilLot_28 : decode cX0_spoilLot 28 = .ok (.getfield 15, 3) := by decide +kernel
theorem dX0_spoilLot_31 : decode cX0_spoilLot 31 = .ok (.iload_n 2, 1) := by decide +kernel
theorem dX0_spoilLot_32 : decode cX0_spoilLot 32 = .ok (.iload_n 3, 1) := by decide +kernel
theorem dX0_spoilLot_33 : decode cX0_spoilLot 33 = .ok (.invokestatic 86, 3) := by decide +kernel
theorem dX0_spoilLot_36 : decode cX0_spoilLot 36 = .ok (.aload_n 0, 1) := by decide +kernel
theorem dX0_spoilLot_37 : decode cX0_spoilLot 37 = .ok (.getfield 15, 3) := by decide +kernel
theorem dX0_spoilLot_40 : decode cX0_spoilLot 40 = .ok (.aload_n 0, 1) := by decide +kernel
theorem dX0_spoilLot_41 : decode cX0_spoilLot 41 = .ok (.getfield 36, 3) := by decide +kernel
theorem dX0_spoilLot_44 : decode cX0_spoilLot 44 = .ok (.iload_n 1, 1) := by decide +kernel
theorem dX0_spoilLot_45 : decode cX0_spoilLot 45 = .ok (.invokestatic 77, 3) := by decide +kernel
theorem dX0_spoilLot_48 : decode cX0_spoilLot 48 = .ok (.iload_n 3, 1) := by decide +kernel
theorem dX0_spoilLot_49 : decode cX0_spoilLot 49 = .ok (.ineg, 1) := by decide +kernel
theorem dX0_spoilLot_50 : decode cX0_spoilLot 50 = .ok (.invokestatic 86, 3) := by decide +kernel
theorem dX0_spoilLot_53 : decode cX0_spoilLot 53 = .ok (.aload_n 0, 1) := by decide +kernel
theorem dX0_spoilLot_54 : decode cX0_spoilLot 54 = .ok (.getfield 21, 3) := by decide +kernel
theorem dX0_spoilLot_57 : decode cX0_spoilLot 57 = .ok (.iload_n 2, 1) := by decide +kernel
theorem dX0_spoilLot_58 : decode cX0_spoilLot 58 = .ok (.iload_n 3, 1) := by decide +kernel
theorem dX0_spoilLot_59 : decode cX0_spoilLot 59 = .ok (.invokestatic 86, 3) := by decide +kernel
theorem dX0_spoilLot_62 : decode cX0_spoilLot 62 = .ok (.aload_n 0, 1) := by decide +kernel
theorem dX0_spoilLot_63 : decode cX0_spoilLot 63 = .ok (.getfield 9, 3) := by decide +kernel
theorem dX0_spoilLot_66 : decode cX0_spoilLot 66 = .ok (.bipush 6, 2) := by decide +kernel
theorem dX0_spoilLot_68 : decode cX0_spoilLot 68 = .ok (.iload_n 3, 1) := by decide +kernel
theorem dX0_spoilLot_69 : decode cX0_spoilLot 69 = .ok (.invokestatic 86, 3) := by decide +kernel
theorem dX0_spoilLot_72 : decode cX0_spoilLot 72 = .ok (.return_, 1) := by decide +kernel
set_option maxRecDepth 20000 in
theorem ggX0_turnHolidays_X0_number : GoodIn wsX0_turnHolidays wsX0_number := goodIn_r _ [6, 1, 10, 11, 12, 13, 14, 15, 16, 17, 18, 19, 20, 21, 22] (by decide +kernel) (by decide +kernel)
set_option maxRecDepth 20000 in
theorem gX0_turnHolidays_X0_number : GoodIn wsX0_turnHolidays (wsV RX0 63 RX0 yX0_number wsX0_number) := goodIn_app (goodIn_of _ (by decide +kernel)) ggX0_turnHolidays_X0_number
set_option maxRecDepth 20000 in
theorem ggX0_turnHolidays_X4_put : GoodIn wsX0_turnHolidays wsX4_put := goodIn_r _ [9] (by decide +kernel) (by decide +kernel)
set_option maxRecDepth 20000 in
theorem gX0_turnHolidays_X4_put_n55 : GoodIn wsX0_turnHolidays (wsX4_put) := ggX0_turnHolidays_X4_put
theorem dX0_turnHolidays_0 : decode cX0_turnHolidays 0 = .ok (.aload_n 0, 1) := by decide +kernel
theorem dX0_turnHolidays_1 : decode cX0_turnHolidays 1 = .ok (.bipush 10, 2) := by decide +kernel
theorem dX0_turnHolidays_3 : decode cX0_turnHolidays 3 = .ok (.invokevirtual 63, 3) := by decide +kernel
theorem dX0_turnHolidays_6 : decode cX0_turnHolidays 6 = .ok (.istore_n 2, 1) := by decide +kernel
theorem dX0_turnHolidays_7 : decode cX0_turnHolidays 7 = .ok (.aload_n 0, 1) := by decide +kernel
theorem dX0_turnHolidays_8 : decode cX0_turnHolidays 8 = .ok (.getfield 9, 3) := by decide +kernel
theorem dX0_turnHolidays_11 : decode cX0_turnHolidays 11 = .ok (.bipush 10, 2) := by decide +kernel
theorem dX0_turnHolidays_13 : decode cX0_turnHolidays 13 = .ok (.iload_n 1, 1) := by decide +kernel
theorem dX0_turnHolidays_14 : decode cX0_turnHolidays 14 = .ok (.ifCond .eq 7, 3) := by decide +kernel
theorem dX0_turnHolidays_17 : decode cX0_turnHolidays 17 = .ok (.iconst 1, 1) := by decide +kernel
theorem dX0_turnHolidays_18 : decode cX0_turnHolidays 18 = .ok (.goto 4, 3) := by decide +kernel
theorem dX0_turnHolidays_21 : decode cX0_turnHolidays 21 = .ok (.iconst 0, 1) := by decide +kernel
theorem dX0_turnHolidays_22 : decode cX0_turnHolidays 22 = .ok (.invokestatic 55, 3) := by decide +kernel
theorem dX0_turnHolidays_25 : decode cX0_turnHolidays 25 = .ok (.iload_n 2, 1) := by decide +kernel
theorem dX0_turnHolidays_26 : decode cX0_turnHolidays 26 = .ok (.ireturn, 1) := by decide +kernel
set_option maxRecDepth 20000 in
theorem ggX0_changeSetting_X4_mostOfSetting : GoodIn wsX0_changeSetting wsX4_mostOfSetting := goodIn_r _ [5] (by decide +kernel) (by decide +kernel)
set_option maxRecDepth 20000 in
theorem gX0_changeSetting_X4_mostOfSetting_n147 : GoodIn wsX0_changeSetting (wsX4_mostOfSetting) := ggX0_changeSetting_X4_mostOfSetting
set_option maxRecDepth 20000 in
theorem ggX0_changeSetting_X0_number : GoodIn wsX0_changeSetting wsX0_number := goodIn_r _ [10, 2, 13, 14, 15, 16, 17, 18, 19, 20, 21, 22, 23, 24, 25] (by decide +kernel) (by decide +kernel)
set_option maxRecDepth 20000 in
theorem gX0_changeSetting_X0_number : GoodIn wsX0_changeSetting (wsV RX0 63 RX0 yX0_number wsX0_number) := goodIn_app (goodIn_of _ (by decide +kernel)) ggX0_changeSetting_X0_number
set_option maxRecDepth 20000 in
theorem ggX0_changeSetting_X4_put : GoodIn wsX0_changeSetting wsX4_put := goodIn_r _ [12] (by decide +kernel) (by decide +kernel)
set_option maxRecDepth 20000 in
theorem gX0_changeSetting_X4_put_n55 : GoodIn wsX0_changeSetting (wsX4_put) := ggX0_changeSetting_X4_put
theorem dX0_changeSetting_0 : decode cX0_changeSetting 0 = .ok (.iload_n 1, 1) := by decide +kernel
theorem dX0_changeSetting_1 : decode cX0_changeSetting 1 = .ok (.ifCond .lt 22, 3) := by decide +kernel
theorem dX0_changeSetting_4 : decode cX0_changeSetting 4 = .ok (.iload_n 1, 1) := by decide +kernel
theorem dX0_changeSetting_5 : decode cX0_changeSetting 5 = .ok (.bipush 6, 2) := by decide +kernel
theorem dX0_changeSetting_7 : decode cX0_changeSetting 7 = .ok (.if_icmp .ge 16, 3) := by decide +kernel
theorem dX0_changeSetting_10 : decode cX0_changeSetting 10 = .ok (.iload_n 2, 1) := by decide +kernel
theorem dX0_changeSetting_11 : decode cX0_changeSetting 11 = .ok (.iconst 1, 1) := by decide +kernel
theorem dX0_changeSetting_12 : decode cX0_changeSetting 12 = .ok (.if_icmp .lt 11, 3) := by decide +kernel
theorem dX0_changeSetting_15 : decode cX0_changeSetting 15 = .ok (.iload_n 2, 1) := by decide +kernel
theorem dX0_changeSetting_16 : decode cX0_changeSetting 16 = .ok (.iload_n 1, 1) := by decide +kernel
theorem dX0_changeSetting_17 : decode cX0_changeSetting 17 = .ok (.invokestatic 147, 3) := by decide +kernel
theorem dX0_changeSetting_20 : decode cX0_changeSetting 20 = .ok (.if_icmp .le 6, 3) := by decide +kernel
theorem dX0_changeSetting_23 : decode cX0_changeSetting 23 = .ok (.ldc 93, 2) := by decide +kernel
theorem dX0_changeSetting_25 : decode cX0_changeSetting 25 = .ok (.ireturn, 1) := by decide +kernel
theorem dX0_changeSetting_26 : decode cX0_changeSetting 26 = .ok (.aload_n 0, 1) := by decide +kernel
theorem dX0_changeSetting_27 : decode cX0_changeSetting 27 = .ok (.bipush 20, 2) := by decide +kernel
theorem dX0_changeSetting_29 : decode cX0_changeSetting 29 = .ok (.iload_n 1, 1) := by decide +kernel
theorem dX0_changeSetting_30 : decode cX0_changeSetting 30 = .ok (.iadd, 1) := by decide +kernel
theorem dX0_changeSetting_31 : decode cX0_changeSetting 31 = .ok (.invokevirtual 63, 3) := by decide +kernel
theorem dX0_changeSetting_34 : decode cX0_changeSetting 34 = .ok (.istore_n 3, 1) := by decide +kernel
theorem dX0_changeSetting_35 : decode cX0_changeSetting 35 = .ok (.aload_n 0, 1) := by decide +kernel
theorem dX0_changeSetting_36 : decode cX0_changeSetting 36 = .ok (.getfield 9, 3) := by decide +kernel
theorem dX0_changeSetting_39 : decode cX0_changeSetting 39 = .ok (.bipush 20, 2) := by decide +kernel
theorem dX0_changeSetting_41 : decode cX0_changeSetting 41 = .ok (.iload_n 1, 1) := by decide +kernel
theorem dX0_changeSetting_42 : decode cX0_changeSetting 42 = .ok (.iadd, 1) := by decide +kernel
theorem dX0_changeSetting_43 : decode cX0_changeSetting 43 = .ok (.iload_n 2, 1) := by decide +kernel
theorem dX0_changeSetting_44 : decode cX0_changeSetting 44 = .ok (.invokestatic 55, 3) := by decide +kernel
theorem dX0_changeSetting_47 : decode cX0_changeSetting 47 = .ok (.iload_n 3, 1) := by decide +kernel
theorem dX0_changeSetting_48 : decode cX0_changeSetting 48 = .ok (.ireturn, 1) := by decide +kernel
end
section
/-! What a state is: a row of arrays by number, the numbers of an object in row 99; how a part of it is set. -/
abbrev St : Type := Nat → Nat → Int32
def setA (v : St) (k : Nat) (f : Nat → Int32) : St := fun j => bif Nat.beq j k then f else v j
def setI (v : St) (k : Nat) (x : Int32) : St := fun j => bif Nat.beq j 99 then (fun i => bif Nat.beq i k then x else v 99 i) else v j
def setB (b : Nat → St) (k : Nat) (v : St) : Nat → St := fun j => bif Nat.beq j k then v else b j
abbrev FU : Nat := 2000
/-- an array read, an array written, a remainder, a boolean handed back: none where the machine would throw -/
def ldA (n : Nat) (f : Nat → Int32) (i : Int32) : Option Int32 := if 0 ≤ i.toInt ∧ i.toInt < n then some (f i.toNatClampNeg) else none
def stA (n : Nat) (f : Nat → Int32) (i x : Int32) : Option (Nat → Int32) := if 0 ≤ i.toInt ∧ i.toInt < n then some (upd f i.toNatClampNeg x) else none
def remI (x y : Int32) : Option Int32 := if y = 0 then none else some (x - x / y * y)
def zbI (x : Int32) : Option Int32 := if x = 0 then some 0 else if x = 1 then some 1 else none
theorem ld_in {β : Type} {n : Nat} {f : Nat → Int32} {i : Int32} {K : Int32 → Option β} {out : β} (h : (ldA n f i).bind K = some out) : vp_in i n ∧ K (f i.toNatClampNeg) = some out := by
  unfold ldA at h
  split at h
  · next c => exact ⟨vp_in_iff.mpr c, h⟩
  · cases h
theorem st_in {β : Type} {n : Nat} {f : Nat → Int32} {i x : Int32} {K : (Nat → Int32) → Option β} {out : β} (h : (stA n f i x).bind K = some out) : vp_in i n ∧ K (upd f i.toNatClampNeg x) = some out := by
  unfold stA at h
  split at h
  · next c => exact ⟨vp_in_iff.mpr c, h⟩
  · cases h
theorem rem_in {β : Type} {x y : Int32} {K : Int32 → Option β} {out : β} (h : (remI x y).bind K = some out) : ¬ y = 0 ∧ K (x - x / y * y) = some out := by
  unfold remI at h
  split at h
  · cases h
  · next c => exact ⟨c, h⟩
theorem zb_in {x : Int32} {r : Int32} (h : zbI x = some r) : x = r ∧ narrow .boolean (.int x) = .int x := by
  unfold zbI at h
  split at h
  · next c => subst c; cases h; exact ⟨rfl, rfl⟩
  · split at h
    · next c => subst c; cases h; exact ⟨rfl, rfl⟩
    · cases h
theorem bd_in {α β : Type} {o : Option α} {K : α → Option β} {out : β} (h : o.bind K = some out) : ∃ a, o = some a ∧ K a = some out := by
  cases o with
  | none => cases h
  | some a => exact ⟨a, rfl, h⟩
/-! What links between the nest mates stand in the tables. -/
def NW (U : State) : Prop := va_Nw (.methodLinkNest RX0 51 yX4_firstOfSetting RX4) U ∧ va_Nw (.methodLinkNest RX0 55 yX4_put RX4) U ∧ va_Nw (.methodLinkNest RX0 59 yX4_copyRow RX4) U ∧ va_Nw (.methodLinkNest RX0 77 yX4_at RX4) U ∧ va_Nw (.methodLinkNest RX0 86 yX4_add RX4) U ∧ va_Nw (.methodLinkNest RX0 116 yX4_isKind RX4) U ∧ va_Nw (.methodLinkNest RX0 119 yX4_isMany RX4) U ∧ va_Nw (.methodLinkNest RX0 147 yX4_mostOfSetting RX4) U ∧ va_Nw (.methodLinkNest RX2 36 yX4_put RX4) U ∧ va_Nw (.methodLinkNest RX2 59 yX4_at RX4) U ∧ va_Nw (.methodLinkNest RX3 28 yX4_at RX4) U ∧ va_Nw (.methodLinkNest RX3 56 yX4_isKind RX4) U ∧ va_Nw (.methodLinkNest RX3 84 yX4_put RX4) U ∧ va_Nw (.methodLinkNest RX3 107 yX4_add RX4) U ∧ va_Nw (.fieldLinkNest RX3 98 "FavourRings$Bank" "debtors" "[I" RX4) U ∧ va_Nw (.fieldLinkNest RX3 101 "FavourRings$Bank" "creditors" "[I" RX4) U ∧ va_Nw (.fieldLinkNest RX3 104 "FavourRings$Bank" "sizes" "[I" RX4) U
theorem NW.same {u U : State} (h : u.vm = U.vm) (q : NW u) : NW U := by
  obtain ⟨a1, a2, a3, a4, a5, a6, a7, a8, a9, b1, b2, b3, b4, b5, b6, b7, b8⟩ := q
  exact ⟨va_Nw.same rfl h a1, va_Nw.same rfl h a2, va_Nw.same rfl h a3, va_Nw.same rfl h a4, va_Nw.same rfl h a5, va_Nw.same rfl h a6, va_Nw.same rfl h a7, va_Nw.same rfl h a8, va_Nw.same rfl h a9, va_Nw.same rfl h b1, va_Nw.same rfl h b2, va_Nw.same rfl h b3, va_Nw.same rfl h b4, va_Nw.same rfl h b5, va_Nw.same rfl h b6, va_Nw.same rfl h b7, va_Nw.same rfl h b8⟩
theorem NW.warm {s U : State} (h : s.WarmedH U.vm) (q : NW s) : NW U := by
  obtain ⟨a1, a2, a3, a4, a5, a6, a7, a8, a9, b1, b2, b3, b4, b5, b6, b7, b8⟩ := q
  exact ⟨va_Nw.warmM h a1, va_Nw.warmM h a2, va_Nw.warmM h a3, va_Nw.warmM h a4, va_Nw.warmM h a5, va_Nw.warmM h a6, va_Nw.warmM h a7, va_Nw.warmM h a8, va_Nw.warmM h a9, va_Nw.warmM h b1, va_Nw.warmM h b2, va_Nw.warmM h b3, va_Nw.warmM h b4, va_Nw.warmM h b5, va_Nw.warmF h b6, va_Nw.warmF h b7, va_Nw.warmF h b8⟩
/-! A contract's start, and a contract. -/
abbrev TY (cA cQ : ClassId) : List (ClassId × FieldType) := [(cA, .int), (cQ, .object "FavourRings$Bank")]
def BB (D : va_G) (tys : List (ClassId × FieldType)) (ws : va_W) (sz : Nat) (U : State) : Prop := U.heap.size = sz ∧ va_P D vwCl ws U.heap ∧ va_K D vwCl tys U ∧ va_D (fun _ => True) ws ∧ NW U
theorem BB.blind {D : va_G} {tys : List (ClassId × FieldType)} {ws : va_W} {sz : Nat} {av : List Value} : FrameBlind (va_Pc av (BB D tys ws sz)) := fun a U g mk q => by
  obtain ⟨q0, q1, qP, qK, qD, qN⟩ := q
  exact ⟨q0, q1, qP, va_K.moved (u := U) (U := U.calling g mk a) (Vm.Alike.refl U.vm) qK, qD, NW.same rfl qN⟩
theorem BB.enter {D : va_G} {tys : List (ClassId × FieldType)} {ws : va_W} {A : Nat → Prop} {s U : State} {H : Heap} (hK : va_K D vwCl tys s) (hN : NW s) (hP : va_P D vwCl ws H) (hD : va_D A ws) (hU : U.heap = H) (hW : s.WarmedH U.vm) : BB D tys ws H.size U :=
  ⟨by rw [hU], by rw [hU]; exact hP, va_K.moved hW.alike hK, hD.weaken (fun _ _ _ _ => trivial), NW.warm hW hN⟩
abbrev QI (D : va_G) (w' : va_W) (r : Int32) (A : Nat → Prop) : Array Value → State → Outcome → State → Prop := va_Qi (fun (r' : Int32) (_ : Unit) => r' = r) (fun _ t => va_P D vwCl w' t.heap) A
abbrev QV (D : va_G) (w' : va_W) (A : Nat → Prop) : Array Value → State → Outcome → State → Prop := va_Qv (fun (_ : Unit) => True) (fun _ t => va_P D vwCl w' t.heap) A
abbrev QR (D : va_G) (w' : va_W) (r : Nat) (A : Nat → Prop) : Array Value → State → Outcome → State → Prop := va_Qr (fun (_ : Unit) => True) (fun _ a t => a = r ∧ va_P D vwCl w' t.heap) A
def Cti (l : Launch) (y : MethodName) (wsy : List Cond) (rm : Room) (D : va_G) (tys : List (ClassId × FieldType)) (av : List Value) (w w' : va_W) (r : Int32) : Prop := ∀ sz, Met l y wsy rm (va_Pc av (BB D tys w sz)) (QI D w' r (va_A w sz)) 0 0 (va_A w sz)
def Ctv (l : Launch) (y : MethodName) (wsy : List Cond) (rm : Room) (D : va_G) (tys : List (ClassId × FieldType)) (av : List Value) (w w' : va_W) : Prop := ∀ sz, Met l y wsy rm (va_Pc av (BB D tys w sz)) (QV D w' (va_A w sz)) 0 0 (va_A w sz)
def Ctr (l : Launch) (y : MethodName) (wsy : List Cond) (rm : Room) (D : va_G) (tys : List (ClassId × FieldType)) (av : List Value) (w w' : va_W) (r : Nat) : Prop := ∀ sz, Met l y wsy rm (va_Pc av (BB D tys w sz)) (QR D w' r (va_A w sz)) 0 0 (va_A w sz)
/-! Cells put back behind a call. -/
def repl (ws : va_W) : List Nat → va_W → va_W
  | i :: is, q :: qs => (repl ws is qs).set i q
  | _, _ => ws
theorem repl_adr {ws wc : va_W} : ∀ (is : List Nat) (w' wc : va_W), is.map (fun i => ws[i]?) = wc.map some → w'.map Prod.fst = wc.map Prod.fst → (repl ws is w').map Prod.fst = ws.map Prod.fst := by
  intro is
  induction is with
  | nil => intro w' wc _ _; rfl
  | cons i is ih =>
    intro w' wc h1 h2
    match w', wc, h1, h2 with
    | [], _, _, _ => rfl
    | q :: qs, [], h1, h2 => simp at h2
    | q :: qs, c :: cs, h1, h2 =>
      simp only [List.map_cons, List.cons.injEq] at h1 h2
      show ((repl ws is qs).set i q).map Prod.fst = _
      rw [List.map_set, ih qs cs h1.2 h2.2]
      apply List.ext_getElem?
      intro k
      rw [List.getElem?_set]
      split
      · next e =>
        subst e
        split
        · next hlt => rw [h2.1, List.getElem?_map, h1.1]; rfl
        · next hlt => rw [List.getElem?_eq_none (by omega)]
      · rfl
theorem repl_get {ws : va_W} : ∀ (is : List Nat) (w' : va_W), is.length = w'.length → ∀ (k : Nat) (q : Nat × va_E), (repl ws is w')[k]? = some q → q ∈ w' ∨ (k ∉ is ∧ ws[k]? = some q) := by
  intro is
  induction is with
  | nil => intro w' _ k q h; exact Or.inr ⟨List.not_mem_nil, h⟩
  | cons i is ih =>
    intro w' hl k q h
    match w', hl, h with
    | [], hl, _ => simp at hl
    | x :: xs, hl, h =>
      have h : ((repl ws is xs).set i x)[k]? = some q := h
      rw [List.getElem?_set] at h
      split at h
      · split at h
        · exact Or.inl (by cases h; exact List.mem_cons_self)
        · cases h
      · next hne =>
        rcases ih xs (by simpa using hl) k q h with h2 | ⟨h2, h3⟩
        · exact Or.inl (List.mem_cons_of_mem _ h2)
        · refine Or.inr ⟨fun h4 => ?_, h3⟩
          rcases List.mem_cons.mp h4 with h5 | h5
          · exact hne h5.symm
          · exact h2 h5
theorem va_D.adr {A : Nat → Prop} {ws ws' : va_W} (h : ws'.map Prod.fst = ws.map Prod.fst) (hD : va_D A ws) : va_D A ws' := by
  have key : ∀ (k : Nat) (q : Nat × va_E), ws'[k]? = some q → ∃ q0, ws[k]? = some q0 ∧ q0.1 = q.1 := by
    intro k q hk
    have h1 : (ws'.map Prod.fst)[k]? = some q.1 := by rw [List.getElem?_map, hk]; rfl
    rw [h, List.getElem?_map] at h1
    cases h2 : ws[k]? with
    | none => rw [h2] at h1; cases h1
    | some q0 => rw [h2] at h1; exact ⟨q0, rfl, Option.some.inj h1⟩
  refine ⟨fun i j p q hp hq e => ?_, fun k q hk => ?_⟩
  · obtain ⟨p0, a1, a2⟩ := key i p hp
    obtain ⟨q0, b1, b2⟩ := key j q hq
    exact hD.1 i j p0 q0 a1 b1 (by rw [a2, b2, e])
  · obtain ⟨q0, a1, a2⟩ := key k q hk
    rw [← a2]
    exact hD.2 k q0 a1
theorem cut_at {ws wc : va_W} {is : List Nat} (hC : is.map (fun i => ws[i]?) = wc.map some) (k : Nat) (q : Nat × va_E) (hq : wc[k]? = some q) : ∃ i, is[k]? = some i ∧ ws[i]? = some q := by
  have h1 : (is.map (fun i => ws[i]?))[k]? = some (some q) := by rw [hC, List.getElem?_map, hq]; rfl
  rw [List.getElem?_map] at h1
  cases hi : is[k]? with
  | none => rw [hi] at h1; cases h1
  | some i => rw [hi] at h1; exact ⟨i, rfl, Option.some.inj h1⟩
theorem cut_P {D : va_G} {ws wc : va_W} {H : Heap} {is : List Nat} (hP : va_P D vwCl ws H) (hC : is.map (fun i => ws[i]?) = wc.map some) : va_P D vwCl wc H := by
  intro k q hk
  obtain ⟨i, -, h2⟩ := cut_at hC k q hk
  exact hP i q h2
theorem cut_D {A : Nat → Prop} {ws wc : va_W} {is : List Nat} (hD : va_D A ws) (hn : va_nd is = true) (hC : is.map (fun i => ws[i]?) = wc.map some) : va_D A wc := hD.sub is hn hC
theorem back_P {A : Nat → Prop} {D : va_G} {ws wc w' : va_W} {H H1 : Heap} {is : List Nat} (hP : va_P D vwCl ws H) (hD : va_D A ws) (hC : is.map (fun i => ws[i]?) = wc.map some) (hadr : w'.map Prod.fst = wc.map Prod.fst)
    (hk : ∀ q : Nat, q < H.size → ¬ va_A wc H.size q → H1[q]? = H[q]?) (hP1 : va_P D vwCl w' H1) : va_P D vwCl (repl ws is w') H1 := by
  have hl : is.length = w'.length := by
    have h1 := congrArg List.length hC
    have h2 := congrArg List.length hadr
    simp only [List.length_map] at h1 h2
    omega
  intro k q hq
  rcases repl_get is w' hl k q hq with h | ⟨h1, h2⟩
  · obtain ⟨j, hj⟩ := List.getElem?_of_mem h
    exact hP1 j q hj
  · have hlt := (hP k q h2).lt
    refine (hP k q h2).kept (hk q.1 hlt (fun h => ?_))
    rcases h with ⟨k2, e, h⟩ | h
    · obtain ⟨j, h3, h4⟩ := cut_at hC k2 (q.1, e) h
      have hij := hD.1 k j q (q.1, e) h2 h4 rfl
      subst hij
      exact h1 (List.mem_of_getElem? h3)
    · omega
/-! Calls, and the ends of methods. -/
section KC
variable {p : Program} {l : Launch} {e : Env} {R : Room} {s : State} {m : MethodId} {args : Array Value} {below : List Frame} {meth : Method} {c : Code} {H : Heap} {locs : List Loc} {cells slots : Nat} {Q : State → Prop}
variable {y : MethodName} {bytes cc : ByteArray} {maxL nL n index pc : Nat} {ret : Option FieldType} {wsy Ts : List Cond} {rm : Room} {own C host : String} {b : Addr} {As rest st0 : List Value} {ls : Array Slot} {A : Nat → Prop} {D : va_G} {tys : List (ClassId × FieldType)} {ws wc w' ws' : va_W} {H0 : Heap} {r : Int32} {rr : Nat} {a : Array Value}
theorem kI (hr : va_Run p l e R s m args below meth c H locs cells slots 0 0 (F0 m pc ls st0) rest (QI D w' r (va_A wc H.size) a) (va_A wc H.size)) (hP : va_P D vwCl ws H) (hD : va_D A ws) (hS : va_S A H0 H locs) (hA : ∀ q, H0.size ≤ q → A q) (is : List Nat) (hC : is.map (fun i => ws[i]?) = wc.map some) (hadr : w'.map Prod.fst = wc.map Prod.fst) (hrep : repl ws is w' = ws')
    (kk : ∀ (H1 : Heap) (locs1 : List Loc), va_P D vwCl ws' H1 → va_D A ws' → va_S A H0 H1 locs1 → W p l e R s m args below meth c H1 locs1 cells slots Q (F0 m (pc + 3) ls (.int r :: rest))) : W p l e R s m args below meth c H locs cells slots Q (F0 m pc ls st0) := by
  have hF := va_free hD hS hA is hC
  refine va_calli hr hS (fun q _ h => hF q h) hF (fun r' u t H1 locs1 ht hvm hw hB hz hk hS1 => ?_)
  subst hw
  subst ht
  subst hrep
  exact kk t.heap locs1 (back_P hP hD hC hadr hk hB) (va_D.adr (repl_adr (wc := wc) is w' wc hC hadr) hD) hS1
theorem kV (hr : va_Run p l e R s m args below meth c H locs cells slots 0 0 (F0 m pc ls st0) rest (QV D w' (va_A wc H.size) a) (va_A wc H.size)) (hP : va_P D vwCl ws H) (hD : va_D A ws) (hS : va_S A H0 H locs) (hA : ∀ q, H0.size ≤ q → A q) (is : List Nat) (hC : is.map (fun i => ws[i]?) = wc.map some) (hadr : w'.map Prod.fst = wc.map Prod.fst) (hrep : repl ws is w' = ws')
    (kk : ∀ (H1 : Heap) (locs1 : List Loc), va_P D vwCl ws' H1 → va_D A ws' → va_S A H0 H1 locs1 → W p l e R s m args below meth c H1 locs1 cells slots Q (F0 m (pc + 3) ls rest)) : W p l e R s m args below meth c H locs cells slots Q (F0 m pc ls st0) := by
  have hF := va_free hD hS hA is hC
  refine va_callv hr hS (fun q _ h => hF q h) hF (fun u t H1 locs1 ht hvm hw hB hz hk hS1 => ?_)
  subst ht
  subst hrep
  exact kk t.heap locs1 (back_P hP hD hC hadr hk hB) (va_D.adr (repl_adr (wc := wc) is w' wc hC hadr) hD) hS1
theorem kR (hr : va_Run p l e R s m args below meth c H locs cells slots 0 0 (F0 m pc ls st0) rest (QR D w' rr (va_A wc H.size) a) (va_A wc H.size)) (hP : va_P D vwCl ws H) (hD : va_D A ws) (hS : va_S A H0 H locs) (hA : ∀ q, H0.size ≤ q → A q) (is : List Nat) (hC : is.map (fun i => ws[i]?) = wc.map some) (hadr : w'.map Prod.fst = wc.map Prod.fst) (hrep : repl ws is w' = ws')
    (kk : ∀ (H1 : Heap) (locs1 : List Loc), va_P D vwCl ws' H1 → va_D A ws' → va_S A H0 H1 locs1 → W p l e R s m args below meth c H1 locs1 cells slots Q (F0 m (pc + 3) ls (.ref rr :: rest))) : W p l e R s m args below meth c H locs cells slots Q (F0 m pc ls st0) := by
  have hF := va_free hD hS hA is hC
  refine va_callr hr hS (fun q _ h => hF q h) hF (fun u ra t H1 locs1 ht hvm hw hB hz hk hS1 => ?_)
  obtain ⟨hra, hB⟩ := hB
  subst hra
  subst ht
  subst hrep
  exact kk t.heap locs1 (back_P hP hD hC hadr hk hB) (va_D.adr (repl_adr (wc := wc) is w' wc hC hadr) hD) hS1
/-- what a call of an instance method wants of the start -/
theorem pV {ci : Nat} {q : vw_C} {fs : List Value} (hK : va_K D vwCl tys s) (hN : NW s) (hP : va_P D vwCl ws H) (hD : va_D A ws) (is : List Nat) (hC : is.map (fun i => ws[i]?) = wc.map some) (hn : va_nd is = true) (hc : vwCl[ci]? = some q) (h0 : wc[0]? = some (b, .inr (ci, fs))) : PreV s H q.1 b (va_Pc (.ref b :: As) (BB D tys wc H.size)) As :=
  ⟨BB.blind, va_recv hK (cut_P hP hC) hc h0, fun U hU hW => ⟨rfl, BB.enter hK hN (cut_P hP hC) (cut_D hD hn hC) hU hW⟩⟩
theorem pS (hK : va_K D vwCl tys s) (hN : NW s) (hP : va_P D vwCl ws H) (hD : va_D A ws) (is : List Nat) (hC : is.map (fun i => ws[i]?) = wc.map some) (hn : va_nd is = true) : PreS s H (va_Pc As (BB D tys wc H.size)) As :=
  ⟨BB.blind, fun U hU hW => ⟨rfl, BB.enter hK hN (cut_P hP hC) (cut_D hD hn hC) hU hW⟩⟩
theorem endI {v : Int32} (hx : p.tables.exec = Jvm.exec) (hb : c.code = cc) (hr : meth.sig.returnType = some .int) (hlocks : meth.locks = false) (hP : va_P D vwCl w' H) (hS : va_S A s.heap H locs) (hv : v = r) (hdg : decode cc pc = .ok (.ireturn, 1)) :
    W p l e R s m args below meth c H locs cells slots (MQ below (QI D w' r A) args s cells slots A) (F0 m pc ls [.int v]) :=
  W.iret hx hb hr (fun t ht hW => ⟨⟨v, (), rfl, hv, by show va_P D vwCl w' t.heap; rw [ht]; exact hP⟩, hS.F ht⟩) hS.2.2 hdg hlocks
theorem endZ {v : Int32} (hx : p.tables.exec = Jvm.exec) (hb : c.code = cc) (hr : meth.sig.returnType = some .boolean) (hlocks : meth.locks = false) (hP : va_P D vwCl w' H) (hS : va_S A s.heap H locs) (hz : v = r ∧ narrow .boolean (.int v) = .int v) (hdg : decode cc pc = .ok (.ireturn, 1)) :
    W p l e R s m args below meth c H locs cells slots (MQ below (QI D w' r A) args s cells slots A) (F0 m pc ls [.int v]) :=
  W.zret hx hb hr hz.2 (fun t ht hW => ⟨⟨v, (), rfl, hz.1, by show va_P D vwCl w' t.heap; rw [ht]; exact hP⟩, hS.F ht⟩) hS.2.2 hdg hlocks
theorem endV (hx : p.tables.exec = Jvm.exec) (hb : c.code = cc) (hr : meth.sig.returnType = none) (hlocks : meth.locks = false) (hP : va_P D vwCl w' H) (hS : va_S A s.heap H locs) (hdg : decode cc pc = .ok (.return_, 1)) :
    W p l e R s m args below meth c H locs cells slots (MQ below (QV D w' A) args s cells slots A) (F0 m pc ls []) :=
  W.vret hx hb hr (fun t ht hW => ⟨⟨(), rfl, trivial, by show va_P D vwCl w' t.heap; rw [ht]; exact hP⟩, hS.F ht⟩) hS.2.2 hdg hlocks
theorem endR {rt : FieldType} (hx : p.tables.exec = Jvm.exec) (hb : c.code = cc) (hr : meth.sig.returnType = some rt) (hrt : (∃ n, rt = .object n) ∨ ∃ t, rt = .array t) (hlocks : meth.locks = false) (hP : va_P D vwCl w' H) (hS : va_S A s.heap H locs) (hdg : decode cc pc = .ok (.areturn, 1)) :
    W p l e R s m args below meth c H locs cells slots (MQ below (QR D w' rr A) args s cells slots A) (F0 m pc ls [.ref rr]) :=
  W.aret hx hb hr hrt (Or.inr ⟨rr, rfl⟩) (fun t ht hW => ⟨⟨(), rr, rfl, trivial, rfl, by show va_P D vwCl w' t.heap; rw [ht]; exact hP⟩, hS.F ht⟩) hS.2.2 hdg hlocks
end KC
/-- a method's walk, from its first instruction -/
def Wk (l : Launch) (y : MethodName) (wsy : List Cond) (rm : Room) (cc : ByteArray) (maxL : Nat) (ret : Option FieldType) (D : va_G) (tys : List (ClassId × FieldType)) (av : List Value) (w : va_W) (Qc : (Nat → Prop) → Array Value → State → Outcome → State → Prop) : Prop :=
  ∀ (p : Program) (e : Env) (s : State) (m : MethodId) (below : List Frame) (meth : Method) (c : Code) (A : Nat → Prop) (ls : Array Slot), p.tables.exec = Jvm.exec → c.code = cc → meth.sig.returnType = ret → meth.locks = false → c.maxLocals = maxL → s.vm.findClass y.cls = some m.cls → (∀ v ∈ wsy, v.before av.toArray s = true) → va_K D vwCl tys s → NW s → va_P D vwCl w s.heap → va_D A w → (∀ q : Nat, s.heap.size ≤ q → A q) → lv_has ls maxL (lv_args 0 av) →
    W p l e (headSpec wsy rm).room s m av.toArray below meth c s.heap [] 0 0 (MQ below (Qc A) av.toArray s 0 0 A) (F0 m 0 ls [])
theorem Wk.met {l : Launch} {y : MethodName} {wsy ws' : List Cond} {rm : Room} {cc : ByteArray} {maxL : Nat} {ret : Option FieldType} {D : va_G} {tys : List (ClassId × FieldType)} {av : List Value} {w : va_W} {Qc : (Nat → Prop) → Array Value → State → Outcome → State → Prop} (hy : plainName y.cls = true) (hw : wsy = Cond.code y cc maxL ret :: ws') (hav : (lg_sl av).length ≤ maxL)
    (h : Wk l y wsy rm cc maxL ret D tys av w Qc) (sz : Nat) : Met l y wsy rm (va_Pc av (BB D tys w sz)) (Qc (va_A w sz)) 0 0 (va_A w sz) := by
  refine Met.ofW (cc := cc) (maxL := maxL) (ret := ret) hy hw ?_
  intro p e s m args below meth c s₁ B hml hv
  obtain ⟨rfl, hsz, hP, hK, hD0, hN⟩ := hv
  have hl := lv_entry av (n := maxL) hav
  rw [lg_entry_eq]
  subst hsz
  exact h p e s m below meth c _ _ B.exec B.bytes B.returns B.notSynchronized hml (findClass_of_methodNamed B.named) (atoms_spec (ws := wsy) B.pre) hK hN hP hD0.self (fun q h => Or.inr h) hl
theorem Wk.i {l : Launch} {y : MethodName} {wsy ws' : List Cond} {rm : Room} {cc : ByteArray} {maxL : Nat} {ret : Option FieldType} {D : va_G} {tys : List (ClassId × FieldType)} {av : List Value} {w w' : va_W} {r : Int32} (hy : plainName y.cls = true) (hw : wsy = Cond.code y cc maxL ret :: ws') (hav : (lg_sl av).length ≤ maxL) (h : Wk l y wsy rm cc maxL ret D tys av w (fun A => QI D w' r A)) : Cti l y wsy rm D tys av w w' r := fun sz => Wk.met hy hw hav h sz
theorem Wk.v {l : Launch} {y : MethodName} {wsy ws' : List Cond} {rm : Room} {cc : ByteArray} {maxL : Nat} {ret : Option FieldType} {D : va_G} {tys : List (ClassId × FieldType)} {av : List Value} {w w' : va_W} (hy : plainName y.cls = true) (hw : wsy = Cond.code y cc maxL ret :: ws') (hav : (lg_sl av).length ≤ maxL) (h : Wk l y wsy rm cc maxL ret D tys av w (fun A => QV D w' A)) : Ctv l y wsy rm D tys av w w' := fun sz => Wk.met hy hw hav h sz
theorem Wk.r {l : Launch} {y : MethodName} {wsy ws' : List Cond} {rm : Room} {cc : ByteArray} {maxL : Nat} {ret : Option FieldType} {D : va_G} {tys : List (ClassId × FieldType)} {av : List Value} {w w' : va_W} {r : Nat} (hy : plainName y.cls = true) (hw : wsy = Cond.code y cc maxL ret :: ws') (hav : (lg_sl av).length ≤ maxL) (h : Wk l y wsy rm cc maxL ret D tys av w (fun A => QR D w' r A)) : Ctr l y wsy rm D tys av w w' r := fun sz => Wk.met hy hw hav h sz
/-! The worlds. -/
abbrev aI (cA : ClassId) (a n : Nat) (f : Nat → Int32) : Nat × va_E := (a, .inl (cA, n, .inl f))
def wA (cA : ClassId) (a n : Nat) (f : Nat → Int32) : va_W := [aI cA a n f]
def wA2 (cA : ClassId) (a n : Nat) (f : Nat → Int32) (a2 n2 : Nat) (f2 : Nat → Int32) : va_W := [aI cA a n f, aI cA a2 n2 f2]
def wB (cA : ClassId) (h : Nat → Nat) (v : St) : va_W := [(h 0, .inr (0, [.ref (h 1), .ref (h 2), .ref (h 3), .ref (h 4), .ref (h 5), .ref (h 6), .ref (h 7), .ref (h 8), .ref (h 9), .ref (h 10), .ref (h 11), .ref (h 12), .ref (h 13)])), aI cA (h 1) 26 (v 1), aI cA (h 2) 8 (v 2), aI cA (h 3) 8 (v 3), aI cA (h 4) 8 (v 4), aI cA (h 5) 8 (v 5), aI cA (h 6) 8 (v 6), aI cA (h 7) 8 (v 7), aI cA (h 8) 40 (v 8), aI cA (h 9) 40 (v 9), aI cA (h 10) 40 (v 10), aI cA (h 11) 40 (v 11), aI cA (h 12) 40 (v 12), aI cA (h 13) 40 (v 13)]
def wR (cA : ClassId) (h : Nat → Nat) (v : St) : va_W := [(h 0, .inr (3, [.ref (h 1), .ref (h 2), .ref (h 3), .ref (h 4), .int (v 99 4)])), aI cA (h 1) 64 (v 1), aI cA (h 2) 8 (v 2), aI cA (h 3) 8 (v 3), aI cA (h 4) 8 (v 4)]
def wO (cA : ClassId) (h : Nat → Nat) (v : St) : va_W := [(h 0, .inr (2, [.ref (h 1), .ref (h 2), .int (v 99 2), .int (v 99 3), .int (v 99 4), .int (v 99 5), .int (v 99 6), .int (v 99 7)])), aI cA (h 1) 60 (v 1), aI cA (h 2) 4 (v 2)]
def wHs (hb : Nat → Nat → Nat) : Nat → Option Nat := fun i => match i with
  | 0 => some (hb 0 0)
  | 1 => some (hb 1 0)
  | 2 => some (hb 2 0)
  | 3 => some (hb 3 0)
  | _ => none
def wH (cA cQ : ClassId) (h : Nat → Nat) (v : St) (hb : Nat → Nat → Nat) (b : Nat → St) : va_W := [(h 0, .inr (1, [.ref (h 1), .int (v 99 1)])), (h 1, .inl (cQ, 4, .inr (.inr (.inr (.inr (wHs hb))))))] ++ (wB cA (hb 0) (b 0) ++ (wB cA (hb 1) (b 1) ++ (wB cA (hb 2) (b 2) ++ wB cA (hb 3) (b 3))))
def wM (cA : ClassId) (h : Nat → Nat) (v : St) : va_W := [(h 0, .inr (5, [.ref (h 1), .ref (h 2), .ref (h 3), .ref (h 4), .int (v 99 4), .int (v 99 5), .ref (h 7), .int (v 99 7), .ref (h 9), .ref (h 10), .ref (h 11), .int (v 99 11), .int (v 99 12), .int (v 99 13), .int (v 99 14), .int (v 99 15), .int (v 99 16), .ref (h 18)])), aI cA (h 1) 304 (v 1), aI cA (h 2) 1216 (v 2), aI cA (h 3) 304 (v 3), aI cA (h 4) 304 (v 4), aI cA (h 7) 60 (v 7), aI cA (h 9) 8 (v 9), aI cA (h 10) 9 (v 10), aI cA (h 11) 8 (v 11), aI cA (h 18) 4 (v 18)]
def wF (cA cQ : ClassId) (adF : Nat) (adB adT adH : Nat → Nat) (kH : Nat → Nat → Nat) (adR adO : Nat → Nat) (vB vT vH : St) (bH : Nat → St) (vR vO : St) : va_W := [(adF, .inr (4, [.ref (adB 0), .ref (adT 0), .ref (adH 0), .ref (adR 0), .ref (adO 0)]))] ++ (wB cA adB vB ++ (wB cA adT vT ++ (wH cA cQ adH vH kH bH ++ (wR cA adR vR ++ wO cA adO vO))))
/-! Rows that name what they give. -/
section KR
variable {p : Program} {l : Launch} {e : Env} {R : Room} {s : State} {m : MethodId} {args : Array Value} {below : List Frame} {meth : Method} {c : Code} {H : Heap} {locs : List Loc} {cells slots : Nat} {Q : State → Prop}
variable {cc : ByteArray} {pc a : Nat} {rest : List Value} {ls : Array Slot} {A : Nat → Prop} {D : va_G} {tys : List (ClassId × FieldType)} {ws ws' : va_W} {H0 : Heap}
theorem stR (hx : p.tables.exec = Jvm.exec) (hb : c.code = cc) (hK : va_K D vwCl tys s) (hP : va_P D vwCl ws H) (hD : va_D A ws) (hS : va_S A H0 H locs) (q0 t0 : Nat) {cA : ClassId} {n : Nat} {f : Nat → Int32} (ha : ws[q0]? = some (a, .inl (cA, n, .inl f))) (ht : tys[t0]? = some (cA, .int)) {i : Int32} {x : Int32} {f' : Nat → Int32} (hq : stA n f i x = some f') (hw : ws.set q0 (a, .inl (cA, n, .inl f')) = ws') (hdg : decode cc pc = .ok (.iastore, 1))
    (kk : ∀ (H1 : Heap) (locs1 : List Loc), va_P D vwCl ws' H1 → va_D A ws' → va_S A H0 H1 locs1 → W p l e R s m args below meth c H1 locs1 cells slots Q (F0 m (pc + 1) ls rest)) : W p l e R s m args below meth c H locs cells slots Q (F0 m pc ls (.int x :: .int i :: .ref a :: rest)) := by
  subst hw
  unfold stA at hq
  split at hq
  · next c =>
    cases hq
    exact va_iast hx hb hK hP hD hS q0 t0 ha ht (vp_in_iff.mpr c) hdg kk
  · cases hq
theorem ldR (hx : p.tables.exec = Jvm.exec) (hb : c.code = cc) (hK : va_K D vwCl tys s) (hP : va_P D vwCl ws H) (q0 t0 : Nat) {cA : ClassId} {n : Nat} {f : Nat → Int32} (ha : ws[q0]? = some (a, .inl (cA, n, .inl f))) (ht : tys[t0]? = some (cA, .int)) {i : Int32} {x : Int32} (hq : ldA n f i = some x) (hdg : decode cc pc = .ok (.iaload, 1))
    (kk : W p l e R s m args below meth c H locs cells slots Q (F0 m (pc + 1) ls (.int x :: rest))) : W p l e R s m args below meth c H locs cells slots Q (F0 m pc ls (.int i :: .ref a :: rest)) := by
  unfold ldA at hq
  split at hq
  · next c =>
    cases hq
    exact va_iald hx hb hK hP q0 t0 ha ht (vp_in_iff.mpr c) hdg kk
  · cases hq
theorem aaR (hx : p.tables.exec = Jvm.exec) (hb : c.code = cc) (hK : va_K D vwCl tys s) (hP : va_P D vwCl ws H) (q0 t0 : Nat) {cA : ClassId} {C : String} {n : Nat} {f : Nat → Option Nat} (ha : ws[q0]? = some (a, .inl (cA, n, .inr (.inr (.inr (.inr f)))))) (ht : tys[t0]? = some (cA, .object C)) {i : Int32} {k b : Nat} (hi : i = Int32.ofNat k) (hk : (Int32.ofNat k).toNatClampNeg = k) (hin : vp_in (Int32.ofNat k) n) (hv : f k = some b) (hdg : decode cc pc = .ok (.aaload, 1))
    (kk : W p l e R s m args below meth c H locs cells slots Q (F0 m (pc + 1) ls (.ref b :: rest))) : W p l e R s m args below meth c H locs cells slots Q (F0 m pc ls (.int i :: .ref a :: rest)) := by
  subst hi
  refine va_aldq hx hb hK hP q0 t0 ha ht hin hdg ?_
  rw [hk, hv]
  exact kk
theorem ptR (hx : p.tables.exec = Jvm.exec) (hb : c.code = cc) {own ref C : String} {T : u_T} {N ci index : Nat} {Ts : List Cond} (hts : ∀ w ∈ Ts, w.before args s = true) (hin : ∀ w ∈ u_ws C T N, w ∈ Ts) (ty0 : Nat → FieldType) (hty : ∀ k, k < N → parseFieldDescriptor (T k).2.2.1 = some (ty0 k)) (hnm : ∀ a, a < N → ∀ b, b < N → a ≠ b → (T a).2.1 ≠ (T b).2.1) (hown : s.vm.findClass own = some m.cls) (hK : va_K D vwCl tys s) (hP : va_P D vwCl ws H) (hD : va_D A ws) (hS0 : va_S A H0 H locs) (q0 : Nat) {fs : List Value} (he : ws[q0]? = some (a, .inr (ci, fs))) (hc : vwCl[ci]? = some (C, T, N)) (k : Nat) (hk : k < N) (hlink : (Cond.fieldLink own index ref (T k).2.1 (T k).2.2.1).before args s = true) (hsame : ∀ x, s.fieldFound? (T k).1 (T k).2.1 (T k).2.2.1 = some x → s.fieldFound? ref (T k).2.1 (T k).2.2.1 = some x) (hfin : (T k).2.2.2 = false) {ty : FieldType} {v : Value} (hd : parseFieldDescriptor (T k).2.2.1 = some ty) (hn : narrow ty v = v) (hfit : fits ty v = true) (hl : k < fs.length) (hw : ws.set q0 (a, .inr (ci, fs.set k v)) = ws')
    (hdg : decode cc pc = .ok (.putfield index, 3)) (kk : ∀ (H1 : Heap) (locs1 : List Loc), va_P D vwCl ws' H1 → va_D A ws' → va_S A H0 H1 locs1 → W p l e R s m args below meth c H1 locs1 cells slots Q (F0 m (pc + 3) ls rest)) : W p l e R s m args below meth c H locs cells slots Q (F0 m pc ls (v :: .ref a :: rest)) := by
  subst hw
  exact va_put hx hb hts hin ty0 hty hnm hown hK hP hD hS0 q0 he hc k hk hlink hsame hfin hd hn hfit hl hdg kk
end KR
theorem ne_toInt {x k : Int32} (h : ¬ x = k) : x.toInt ≠ k.toInt := fun e => h (Int32.toInt_inj.mp e)
def cpA (n1 : Nat) (f1 : Nat → Int32) (n2 : Nat) (f2 : Nat → Int32) (sp dp n : Int32) : Option (Nat → Int32) := if 0 ≤ sp.toInt ∧ 0 ≤ dp.toInt ∧ 0 ≤ n.toInt ∧ sp.toInt + n.toInt ≤ n1 ∧ dp.toInt + n.toInt ≤ n2 then some (va_cpy f1 f2 sp.toNatClampNeg dp.toNatClampNeg n.toNatClampNeg) else none
def nnF (x : UInt32) : Option UInt32 := if x &&& 0x7fffffff ≤ 0x7f800000 then some x else none
theorem nlt0 {x : Int32} (h : 0 ≤ x.toInt) : ¬ x < 0 := by
  rw [Int32.lt_iff_toInt_lt, Int32.toInt_zero]; omega
section KR2
variable {p : Program} {l : Launch} {e : Env} {R : Room} {s : State} {m : MethodId} {args : Array Value} {below : List Frame} {meth : Method} {c : Code} {H : Heap} {locs : List Loc} {cells slots : Nat} {Q : State → Prop}
variable {cc : ByteArray} {pc a : Nat} {rest : List Value} {ls : Array Slot} {A : Nat → Prop} {D : va_G} {tys : List (ClassId × FieldType)} {ws ws' : va_W} {H0 : Heap}
theorem rmR (hx : p.tables.exec = Jvm.exec) (hb : c.code = cc) {x y r : Int32} (hq : remI x y = some r) (hdg : decode cc pc = .ok (.irem, 1))
    (kk : W p l e R s m args below meth c H locs cells slots Q (F0 m (pc + 1) ls (.int r :: rest))) : W p l e R s m args below meth c H locs cells slots Q (F0 m pc ls (.int y :: .int x :: rest)) := by
  unfold remI at hq
  split at hq
  · cases hq
  · next c =>
    cases hq
    exact lv_irem hx hb hdg c kk
theorem cpR (hx : p.tables.exec = Jvm.exec) (hb : c.code = cc) (hml : c.maxLocals = ls.size) {own : String} {index : Nat} (hown : s.vm.findClass own = some m.cls) (hlink : (Cond.methodLink own index arraycopyName).before args s = true) (hnat : (Cond.native arraycopyName).before args s = true) (hstat : (Cond.static arraycopyName).before args s = true) (hini : (Cond.initialized "java/lang/System").before args s = true)
    (hK : va_K D vwCl tys s) (hP : va_P D vwCl ws H) (hD : va_D A ws) (hS : va_S A H0 H locs) (q0 q1 t0 t1 : Nat) {a0 : Nat} {c0 c1 : ClassId} {n0 n1 : Nat} {f g g' : Nat → Int32} (ha0 : ws[q0]? = some (a0, .inl (c0, n0, .inl f))) (ha1 : ws[q1]? = some (a, .inl (c1, n1, .inl g))) (ht0 : tys[t0]? = some (c0, .int)) (ht1 : tys[t1]? = some (c1, .int))
    {sp dp n : Int32} (hq : cpA n0 f n1 g sp dp n = some g') (hw : ws.set q1 (a, .inl (c1, n1, .inl g')) = ws')
    (hframes : 1 ≤ R.frames) (hlocals : 8 + (nativeFrameWords "java/lang/System" "arraycopy" 5 + 11) ≤ R.locals) (hdg : decode cc pc = .ok (.invokestatic index, 3)) (hrest : (rest.map fun v => v.category).sum ≤ 8 := by exact Nat.le_of_ble_eq_true rfl)
    (kk : ∀ (H1 : Heap) (locs1 : List Loc), va_P D vwCl ws' H1 → va_D A ws' → va_S A H0 H1 locs1 → W p l e R s m args below meth c H1 locs1 cells slots Q (F0 m (pc + 3) ls rest)) : W p l e R s m args below meth c H locs cells slots Q (F0 m pc ls (.int n :: .int dp :: .ref a :: .int sp :: .ref a0 :: rest)) := by
  subst hw
  unfold cpA at hq
  split at hq
  · next c =>
    cases hq
    obtain ⟨h1, h2, h3, h4, h5⟩ := c
    exact va_copyi hx hb hml hown hlink hnat hstat hini hK hP hD hS q0 q1 t0 t1 ha0 ha1 ht0 ht1 rfl (nlt0 h1) (nlt0 h2) (nlt0 h3) (by show sp.toInt.toNat + n.toInt.toNat ≤ n0; omega) (by show dp.toInt.toNat + n.toInt.toNat ≤ n1; omega) (fun _ _ => rfl) hframes (by omega) hdg kk
  · cases hq
theorem nnF_in {x r : UInt32} (h : nnF x = some r) : vf_n32 x ∧ x = r := by
  unfold nnF at h
  split at h
  · next c => cases h; exact ⟨c, rfl⟩
  · cases h
theorem fdivR (hx : p.tables.exec = Jvm.exec) (hb : c.code = cc) {x y r : UInt32} (hq : nnF (FP.fdiv x y) = some r) (hdg : decode cc pc = .ok (.fdiv, 1))
    (kk : W p l e R s m args below meth c H locs cells slots Q (F0 m (pc + 1) ls (.float r :: rest))) : W p l e R s m args below meth c H locs cells slots Q (F0 m pc ls (.float y :: .float x :: rest)) := by
  obtain ⟨h1, h2⟩ := nnF_in hq
  subst h2
  exact lv_fdiv hx hb hdg h1 kk
theorem fmulR (hx : p.tables.exec = Jvm.exec) (hb : c.code = cc) {x y r : UInt32} (hq : nnF (FP.fmul x y) = some r) (hdg : decode cc pc = .ok (.fmul, 1))
    (kk : W p l e R s m args below meth c H locs cells slots Q (F0 m (pc + 1) ls (.float r :: rest))) : W p l e R s m args below meth c H locs cells slots Q (F0 m pc ls (.float y :: .float x :: rest)) := by
  obtain ⟨h1, h2⟩ := nnF_in hq
  subst h2
  exact lv_fmul hx hb hdg h1 kk
theorem fsubR (hx : p.tables.exec = Jvm.exec) (hb : c.code = cc) {x y r : UInt32} (hq : nnF (FP.fsub x y) = some r) (hdg : decode cc pc = .ok (.fsub, 1))
    (kk : W p l e R s m args below meth c H locs cells slots Q (F0 m (pc + 1) ls (.float r :: rest))) : W p l e R s m args below meth c H locs cells slots Q (F0 m pc ls (.float y :: .float x :: rest)) := by
  obtain ⟨h1, h2⟩ := nnF_in hq
  subst h2
  exact lv_fsub hx hb hdg h1 kk
end KR2
end
section
def X0_number (vB : St) (p1 : Int32) : Option (Int32) := (if p1 < (0 : Int32) then some (0 : Int32) else (if (26 : Int32) ≤ p1 then some (0 : Int32) else (ldA 26 (vB 1) p1).bind fun y3 => some y3))
def X4_put (f1 : Nat → Int32) (n1 : Nat) (p1 : Int32) (p2 : Int32) : Option ((Nat → Int32)) := (if p1 < (0 : Int32) then some f1 else (if (Int32.ofNat n1) ≤ p1 then some f1 else (stA n1 f1 p1 p2).bind fun g3 => some g3))
def X4_add (f1 : Nat → Int32) (n1 : Nat) (p1 : Int32) (p2 : Int32) : Option ((Nat → Int32)) := (if p1 < (0 : Int32) then some f1 else (if (Int32.ofNat n1) ≤ p1 then some f1 else (ldA n1 f1 p1).bind fun y3 => (stA n1 f1 p1 (y3 + p2)).bind fun g4 => some g4))
def X0_addLot (vB : St) (p1 : Int32) (p2 : Int32) (p3 : Int32) (p4 : Int32) : Option (St) := (X0_number vB (2 : Int32)).bind fun u1 => (X4_put (vB 8) 40 u1 p1).bind fun u2 => (X4_put (vB 9) 40 u1 p2).bind fun u3 => (X4_put (vB 10) 40 u1 p3).bind fun u4 => (X4_put (vB 11) 40 u1 p4).bind fun u5 => (X4_put (vB 12) 40 u1 (0 : Int32)).bind fun u6 => (X4_put (vB 13) 40 u1 (0 : Int32)).bind fun u7 => (X4_add (vB 1) 26 (2 : Int32) (1 : Int32)).bind fun u8 => some (setA (setA (setA (setA (setA (setA (setA vB 8 u2) 9 u3) 10 u4) 11 u5) 12 u6) 13 u7) 1 u8)
def X0_addPupil (vB : St) : Option (Int32 × St) := (X0_number vB (1 : Int32)).bind fun u1 => (if u1 < (8 : Int32) then (X4_add (vB 1) 26 (1 : Int32) (1 : Int32)).bind fun u3 => (X0_number (setA vB 1 u3) (1 : Int32)).bind fun u4 => some ((u4 - (1 : Int32)), (setA vB 1 u3)) else some ((-1000003 : Int32), vB))
def X0_isLotOf_b42 (vB : St) (p1 : Int32) (p2 : Int32) (p3 : Int32) (p4 : Int32) : Option (Int32) := (if p4 = (-1 : Int32) then some (1 : Int32) else (ldA 40 (vB 10) p1).bind fun y2 => (if p4 = y2 then some (1 : Int32) else some (0 : Int32)))
def X0_isLotOf_b27 (vB : St) (p1 : Int32) (p2 : Int32) (p3 : Int32) (p4 : Int32) : Option (Int32) := (if p3 = (-1 : Int32) then X0_isLotOf_b42 vB p1 p2 p3 p4 else (ldA 40 (vB 9) p1).bind fun y5 => (if p3 = y5 then X0_isLotOf_b42 vB p1 p2 p3 p4 else some (0 : Int32)))
def X0_isLotOf (vB : St) (p1 : Int32) (p2 : Int32) (p3 : Int32) (p4 : Int32) : Option (Int32) := (if p1 < (0 : Int32) then some (0 : Int32) else (if p1 < (40 : Int32) then (if p2 = (-1 : Int32) then X0_isLotOf_b27 vB p1 p2 p3 p4 else (ldA 40 (vB 8) p1).bind fun y10 => (if p2 = y10 then X0_isLotOf_b27 vB p1 p2 p3 p4 else some (0 : Int32))) else some (0 : Int32)))
def X4_at (f1 : Nat → Int32) (n1 : Nat) (p1 : Int32) : Option (Int32) := (if p1 < (0 : Int32) then some (0 : Int32) else (if (Int32.ofNat n1) ≤ p1 then some (0 : Int32) else (ldA n1 f1 p1).bind fun y3 => some y3))
def X0_sumOwed_l6 (vB : St) (p1 : Int32) (p2 : Int32) (p3 : Int32) : Nat → Int32 → Int32 → Option (Int32)
  | 0, _, _ => none
  | fu + 1, x4, x5 => (X0_number vB (2 : Int32)).bind fun u1 => (if u1 ≤ x5 then some x4 else (X0_isLotOf vB x5 p1 p2 p3).bind fun u3 => (if u3 = (0 : Int32) then X0_sumOwed_l6 vB p1 p2 p3 fu x4 (x5 + (1 : Int32)) else (X4_at (vB 11) 40 x5).bind fun u5 => X0_sumOwed_l6 vB p1 p2 p3 fu (x4 + u5) (x5 + (1 : Int32))))
def X0_sumOwed (vB : St) (p1 : Int32) (p2 : Int32) (p3 : Int32) : Option (Int32) := X0_sumOwed_l6 vB p1 p2 p3 FU (0 : Int32) (0 : Int32)
def X0_balanceByLots (vB : St) (p1 : Int32) : Option (Int32) := (X0_sumOwed vB (-1 : Int32) p1 (-1 : Int32)).bind fun u1 => (X0_sumOwed vB p1 (-1 : Int32) (-1 : Int32)).bind fun u2 => some (u1 - u2)
def X4_mostOfSetting (p0 : Int32) : Option (Int32) := (if p0 = (4 : Int32) then some (99 : Int32) else some (20 : Int32))
def X0_changeSetting (vB : St) (p1 : Int32) (p2 : Int32) : Option (Int32 × St) := (if p1 < (0 : Int32) then some ((-1000001 : Int32), vB) else (if (6 : Int32) ≤ p1 then some ((-1000001 : Int32), vB) else (if p2 < (1 : Int32) then some ((-1000001 : Int32), vB) else (X4_mostOfSetting p1).bind fun u4 => (if p2 ≤ u4 then (X0_number vB ((20 : Int32) + p1)).bind fun u6 => (X4_put (vB 1) 26 ((20 : Int32) + p1) p2).bind fun u7 => some (u6, (setA vB 1 u7)) else some ((-1000001 : Int32), vB)))))
def X4_copyRow (f1 : Nat → Int32) (f2 : Nat → Int32) (n1 : Nat) (n2 : Nat) : Option ((Nat → Int32)) := (cpA n1 f1 n2 f2 (0 : Int32) (0 : Int32) (if (Int32.ofNat n2) < (Int32.ofNat n1) then (Int32.ofNat n2) else (Int32.ofNat n1))).bind fun g1 => some g1
def X0_copyFrom (vB : St) (vC : St) : Option (St) := (X4_copyRow (vC 1) (vB 1) 26 26).bind fun u1 => (X4_copyRow (vC 2) (vB 2) 8 8).bind fun u2 => (X4_copyRow (vC 3) (vB 3) 8 8).bind fun u3 => (X4_copyRow (vC 4) (vB 4) 8 8).bind fun u4 => (X4_copyRow (vC 5) (vB 5) 8 8).bind fun u5 => (X4_copyRow (vC 6) (vB 6) 8 8).bind fun u6 => (X4_copyRow (vC 7) (vB 7) 8 8).bind fun u7 => (X4_copyRow (vC 8) (vB 8) 40 40).bind fun u8 => (X4_copyRow (vC 9) (vB 9) 40 40).bind fun u9 => (X4_copyRow (vC 10) (vB 10) 40 40).bind fun u10 => (X4_copyRow (vC 11) (vB 11) 40 40).bind fun u11 => (X4_copyRow (vC 12) (vB 12) 40 40).bind fun u12 => (X4_copyRow (vC 13) (vB 13) 40 40).bind fun u13 => some (setA (setA (setA (setA (setA (setA (setA (setA (setA (setA (setA (setA (setA vB 1 u1) 2 u2) 3 u3) 4 u4) 5 u5) 6 u6) 7 u7) 8 u8) 9 u9) 10 u10) 11 u11) 12 u12) 13 u13)
def X0_countCleared (vB : St) (p1 : Int32) (p2 : Int32) : Option (St) := (X4_add (vB 7) 8 p1 p2).bind fun u1 => (X4_add (vB 1) 26 (7 : Int32) p2).bind fun u2 => some (setA (setA vB 7 u1) 1 u2)
def X0_countRing (vB : St) : Option (St) := (X4_add (vB 1) 26 (9 : Int32) (1 : Int32)).bind fun u1 => some (setA vB 1 u1)
def X0_dropEmptyLots_b129 (vB : St) (x1 : Int32) : Option (St) := (X4_put (vB 1) 26 (2 : Int32) x1).bind fun u1 => some (setA vB 1 u1)
def X0_dropEmptyLots_l4  : Nat → St → Int32 → Int32 → Option (St)
  | 0, _, _, _ => none
  | fu + 1, vB, x1, x2 => (X0_number vB (2 : Int32)).bind fun u2 => (if u2 ≤ x2 then X0_dropEmptyLots_b129 vB x1 else (X4_at (vB 11) 40 x2).bind fun u4 => (if u4 ≤ (0 : Int32) then X0_dropEmptyLots_l4 fu vB x1 (x2 + (1 : Int32)) else (X4_at (vB 8) 40 x2).bind fun u6 => (X4_put (vB 8) 40 x1 u6).bind fun u7 => (X4_at (vB 9) 40 x2).bind fun u8 => (X4_put (vB 9) 40 x1 u8).bind fun u9 => (X4_at (vB 10) 40 x2).bind fun u10 => (X4_put (vB 10) 40 x1 u10).bind fun u11 => (X4_at (vB 11) 40 x2).bind fun u12 => (X4_put (vB 11) 40 x1 u12).bind fun u13 => (X4_at (vB 12) 40 x2).bind fun u14 => (X4_put (vB 12) 40 x1 u14).bind fun u15 => (X4_at (vB 13) 40 x2).bind fun u16 => (X4_put (vB 13) 40 x1 u16).bind fun u17 => X0_dropEmptyLots_l4 fu (setA (setA (setA (setA (setA (setA vB 8 u7) 9 u9) 10 u11) 11 u13) 12 u15) 13 u17) (x1 + (1 : Int32)) (x2 + (1 : Int32))))
def X0_dropEmptyLots (vB : St) : Option (St) := X0_dropEmptyLots_l4 FU vB (0 : Int32) (0 : Int32)
def X0_hasHolidays (vB : St) : Option (Int32) := (X0_number vB (10 : Int32)).bind fun u1 => (if u1 = (0 : Int32) then some (0 : Int32) else some (1 : Int32))
def X0_weeksLeft (vB : St) (p1 : Int32) : Option (Int32) := (X4_at (vB 10) 40 p1).bind fun u1 => (X0_number vB ((20 : Int32) + u1)).bind fun u2 => (X4_at (vB 12) 40 p1).bind fun u3 => some (u2 - u3)
def X0_guarantorOf (vB : St) (p1 : Int32) : Option (Int32) := (if p1 < (0 : Int32) then some (-1 : Int32) else (if (8 : Int32) ≤ p1 then some (-1 : Int32) else (ldA 8 (vB 5) p1).bind fun y3 => some (y3 - (1 : Int32))))
def X0_passToGuarantor (vB : St) (p1 : Int32) : Option (Int32 × St) := (X4_at (vB 8) 40 p1).bind fun u1 => (X0_guarantorOf vB u1).bind fun u2 => (if u2 < (0 : Int32) then some ((0 : Int32), vB) else (X4_at (vB 9) 40 p1).bind fun u4 => (if u2 = u4 then some ((0 : Int32), vB) else (X4_at (vB 13) 40 p1).bind fun u6 => (if u6 = (0 : Int32) then (X4_at (vB 11) 40 p1).bind fun u8 => (X4_put (vB 8) 40 p1 u2).bind fun u9 => (X4_put (vB 12) 40 p1 (0 : Int32)).bind fun u10 => (X4_put (vB 13) 40 p1 (1 : Int32)).bind fun u11 => (X4_add (vB 2) 8 u1 u8).bind fun u12 => (X4_add u12 8 u2 (-u8)).bind fun u13 => (X4_add (vB 6) 8 u2 u8).bind fun u14 => (X4_add (vB 1) 26 (8 : Int32) u8).bind fun u15 => some ((1 : Int32), (setA (setA (setA (setA (setA (setA vB 8 u9) 12 u10) 13 u11) 2 u13) 6 u14) 1 u15)) else some ((0 : Int32), vB))))
def X0_spoilLot (vB : St) (p1 : Int32) : Option (St) := (X4_at (vB 8) 40 p1).bind fun u1 => (X4_at (vB 11) 40 p1).bind fun u2 => (X4_put (vB 11) 40 p1 (0 : Int32)).bind fun u3 => (X4_add (vB 2) 8 u1 u2).bind fun u4 => (X4_at (vB 9) 40 p1).bind fun u5 => (X4_add u4 8 u5 (-u2)).bind fun u6 => (X4_add (vB 4) 8 u1 u2).bind fun u7 => (X4_add (vB 1) 26 (6 : Int32) u2).bind fun u8 => some (setA (setA (setA (setA vB 11 u3) 2 u6) 4 u7) 1 u8)
def X0_endWeek_b64 (vB : St) : Option (St) := (X0_dropEmptyLots vB).bind fun u1 => some u1
def X0_endWeek_l19  : Nat → St → Int32 → Option (St)
  | 0, _, _ => none
  | fu + 1, vB, x1 => (X0_number vB (2 : Int32)).bind fun u2 => (if u2 ≤ x1 then X0_endWeek_b64 vB else (X4_add (vB 12) 40 x1 (1 : Int32)).bind fun u4 => (X0_weeksLeft (setA vB 12 u4) x1).bind fun u5 => (if (0 : Int32) < u5 then X0_endWeek_l19 fu (setA vB 12 u4) (x1 + (1 : Int32)) else (X0_passToGuarantor (setA vB 12 u4) x1).bind fun u7 => (if u7.1 = (0 : Int32) then (X0_spoilLot u7.2 x1).bind fun u9 => X0_endWeek_l19 fu u9 (x1 + (1 : Int32)) else X0_endWeek_l19 fu u7.2 (x1 + (1 : Int32)))))
def X0_endWeek (vB : St) : Option (St) := (X4_add (vB 1) 26 (0 : Int32) (1 : Int32)).bind fun u10 => (X0_hasHolidays (setA vB 1 u10)).bind fun u11 => (if u11 = (0 : Int32) then X0_endWeek_l19 FU (setA vB 1 u10) (0 : Int32) else some (setA vB 1 u10))
def X0_endWeeks_b54 (p1 : Int32) (vB : St) (x2 : Int32) : Option (Int32 × St) := (X0_number vB (6 : Int32)).bind fun u1 => some ((u1 - x2), vB)
def X0_endWeeks_l39 (p1 : Int32) : Nat → St → Int32 → Int32 → Option (Int32 × St)
  | 0, _, _, _ => none
  | fu + 1, vB, x2, x3 => (if p1 ≤ x3 then X0_endWeeks_b54 p1 vB x2 else (X0_endWeek vB).bind fun u3 => X0_endWeeks_l39 p1 fu u3 x2 (x3 + (1 : Int32)))
def X0_endWeeks (vB : St) (p1 : Int32) : Option (Int32 × St) := (if p1 < (1 : Int32) then some ((-1000001 : Int32), vB) else (if p1 ≤ (20 : Int32) then (X0_number vB (0 : Int32)).bind fun u6 => (if (u6 + p1) ≤ (999 : Int32) then (X0_number vB (6 : Int32)).bind fun u8 => X0_endWeeks_l39 p1 FU vB u8 (0 : Int32) else some ((-1000003 : Int32), vB)) else some ((-1000001 : Int32), vB)))
def X0_firstToTake_l6 (vB : St) (p1 : Int32) (p2 : Int32) (p3 : Int32) : Nat → Int32 → Int32 → Option (Int32)
  | 0, _, _ => none
  | fu + 1, x4, x5 => (X0_number vB (2 : Int32)).bind fun u1 => (if u1 ≤ x5 then some x4 else (X0_isLotOf vB x5 p1 p2 p3).bind fun u3 => (if u3 = (0 : Int32) then X0_firstToTake_l6 vB p1 p2 p3 fu x4 (x5 + (1 : Int32)) else (X4_at (vB 11) 40 x5).bind fun u5 => (if u5 ≤ (0 : Int32) then X0_firstToTake_l6 vB p1 p2 p3 fu x4 (x5 + (1 : Int32)) else (if x4 < (0 : Int32) then X0_firstToTake_l6 vB p1 p2 p3 fu x5 (x5 + (1 : Int32)) else (X4_at (vB 12) 40 x5).bind fun u8 => (X4_at (vB 12) 40 x4).bind fun u9 => (if u8 ≤ u9 then X0_firstToTake_l6 vB p1 p2 p3 fu x4 (x5 + (1 : Int32)) else X0_firstToTake_l6 vB p1 p2 p3 fu x5 (x5 + (1 : Int32)))))))
def X0_firstToTake (vB : St) (p1 : Int32) (p2 : Int32) (p3 : Int32) : Option (Int32) := X0_firstToTake_l6 vB p1 p2 p3 FU (-1 : Int32) (0 : Int32)
def X0_isPupil (vB : St) (p1 : Int32) : Option (Int32) := (if p1 < (0 : Int32) then some (0 : Int32) else (X0_number vB (1 : Int32)).bind fun u2 => (if u2 ≤ p1 then some (0 : Int32) else some (1 : Int32)))
def X0_isPair (vB : St) (p1 : Int32) (p2 : Int32) : Option (Int32) := (X0_isPupil vB p1).bind fun u1 => (if u1 = (0 : Int32) then some (0 : Int32) else (X0_isPupil vB p2).bind fun u3 => (if u3 = (0 : Int32) then some (0 : Int32) else (if p1 = p2 then some (0 : Int32) else some (1 : Int32))))
def X4_isKind (p0 : Int32) : Option (Int32) := (if p0 < (0 : Int32) then some (0 : Int32) else (if (4 : Int32) ≤ p0 then some (0 : Int32) else some (1 : Int32)))
def X4_isMany (p0 : Int32) : Option (Int32) := (if p0 < (1 : Int32) then some (0 : Int32) else (if (9 : Int32) < p0 then some (0 : Int32) else some (1 : Int32)))
def X0_takeFavours_b69 (p1 : Int32) (p2 : Int32) (p3 : Int32) (p4 : Int32) (vB : St) : Option (St) := (X0_dropEmptyLots vB).bind fun u1 => some u1
def X0_takeFavours_l7 (p1 : Int32) (p2 : Int32) (p3 : Int32) (p4 : Int32) : Nat → St → Int32 → Int32 → Option (St)
  | 0, _, _, _ => none
  | fu + 1, vB, x5, x6 => (if (40 : Int32) ≤ x6 then X0_takeFavours_b69 p1 p2 p3 p4 vB else (if x5 ≤ (0 : Int32) then X0_takeFavours_b69 p1 p2 p3 p4 vB else (X0_firstToTake vB p1 p2 p3).bind fun u4 => (X4_at (vB 11) 40 u4).bind fun u5 => (X4_add (vB 11) 40 u4 (-(if u5 < x5 then u5 else x5))).bind fun u6 => X0_takeFavours_l7 p1 p2 p3 p4 fu (setA vB 11 u6) (x5 - (if u5 < x5 then u5 else x5)) (x6 + (1 : Int32))))
def X0_takeFavours (vB : St) (p1 : Int32) (p2 : Int32) (p3 : Int32) (p4 : Int32) : Option (St) := X0_takeFavours_l7 p1 p2 p3 p4 FU vB p4 (0 : Int32)
def X0_fulfilFavours (vB : St) (p1 : Int32) (p2 : Int32) (p3 : Int32) (p4 : Int32) : Option (Int32 × St) := (X0_isPair vB p1 p2).bind fun u1 => (if u1 = (0 : Int32) then some ((-1000001 : Int32), vB) else (X4_isKind p3).bind fun u3 => (if u3 = (0 : Int32) then some ((-1000001 : Int32), vB) else (X4_isMany p4).bind fun u5 => (if u5 = (0 : Int32) then some ((-1000001 : Int32), vB) else (X0_sumOwed vB p1 p2 p3).bind fun u7 => (if p4 ≤ u7 then (X0_takeFavours vB p1 p2 p3 p4).bind fun u9 => (X4_add (u9 2) 8 p1 p4).bind fun u10 => (X4_add u10 8 p2 (-p4)).bind fun u11 => (X4_add (u9 3) 8 p1 p4).bind fun u12 => (X4_add (u9 1) 26 (5 : Int32) p4).bind fun u13 => (X0_sumOwed (setA (setA (setA u9 2 u11) 3 u12) 1 u13) p1 p2 p3).bind fun u14 => some (u14, (setA (setA (setA u9 2 u11) 3 u12) 1 u13)) else some ((-1000002 : Int32), vB)))))
def X0_giveGuarantor_b25 (p1 : Int32) (p2 : Int32) (vB : St) : Option (Int32 × St) := (X4_at (vB 5) 8 p1).bind fun u1 => (X4_put (vB 5) 8 p1 (p2 + (1 : Int32))).bind fun u2 => some (u1, (setA vB 5 u2))
def X0_giveGuarantor (vB : St) (p1 : Int32) (p2 : Int32) : Option (Int32 × St) := (X0_isPupil vB p1).bind fun u3 => (if u3 = (0 : Int32) then some ((-1000001 : Int32), vB) else (if p2 = (-1 : Int32) then X0_giveGuarantor_b25 p1 p2 vB else (X0_isPair vB p1 p2).bind fun u6 => (if u6 = (0 : Int32) then some ((-1000001 : Int32), vB) else X0_giveGuarantor_b25 p1 p2 vB)))
def X0_reasonAgainst_b42 (vB : St) (p1 : Int32) (p2 : Int32) (t0 : Int32) : Option (Int32) := (if t0 = (0 : Int32) then some (0 : Int32) else (X0_guarantorOf vB p1).bind fun u2 => (if (0 : Int32) ≤ u2 then some (0 : Int32) else some (2 : Int32)))
def X0_reasonAgainst (vB : St) (p1 : Int32) (p2 : Int32) : Option (Int32) := (X0_sumOwed vB p1 (-1 : Int32) (-1 : Int32)).bind fun u4 => (X0_number vB (24 : Int32)).bind fun u5 => (if (u4 + p2) ≤ u5 then (X4_at (vB 4) 8 p1).bind fun u7 => (X0_number vB (25 : Int32)).bind fun u8 => (if u7 < u8 then X0_reasonAgainst_b42 vB p1 p2 (0 : Int32) else X0_reasonAgainst_b42 vB p1 p2 (1 : Int32)) else some (1 : Int32))
def X0_lendFavours (vB : St) (p1 : Int32) (p2 : Int32) (p3 : Int32) (p4 : Int32) : Option (Int32 × St) := (X0_isPair vB p1 p2).bind fun u1 => (if u1 = (0 : Int32) then some ((-1000001 : Int32), vB) else (X4_isKind p3).bind fun u3 => (if u3 = (0 : Int32) then some ((-1000001 : Int32), vB) else (X4_isMany p4).bind fun u5 => (if u5 = (0 : Int32) then some ((-1000001 : Int32), vB) else (X0_reasonAgainst vB p1 p4).bind fun u7 => (if u7 = (0 : Int32) then (X0_number vB (2 : Int32)).bind fun u9 => (if u9 < (40 : Int32) then (X0_addLot vB p1 p2 p3 p4).bind fun u11 => (X4_add (u11 2) 8 p1 (-p4)).bind fun u12 => (X4_add u12 8 p2 p4).bind fun u13 => (X4_add (u11 1) 26 (4 : Int32) p4).bind fun u14 => (X0_sumOwed (setA (setA u11 2 u13) 1 u14) p1 p2 p3).bind fun u15 => some (u15, (setA (setA u11 2 u13) 1 u14)) else some ((-1000003 : Int32), vB)) else some ((-1000002 : Int32), vB)))))
def X0_rankOf_l11 (vB : St) (p1 : Int32) : Nat → Int32 → Int32 → Int32 → Option (Int32)
  | 0, _, _, _ => none
  | fu + 1, x2, x3, x4 => (X0_number vB (1 : Int32)).bind fun u1 => (if u1 ≤ x4 then some x3 else (X0_balanceByLots vB x4).bind fun u3 => (if x2 < u3 then X0_rankOf_l11 vB p1 fu x2 (x3 + (1 : Int32)) (x4 + (1 : Int32)) else (if u3 = x2 then (if p1 ≤ x4 then X0_rankOf_l11 vB p1 fu x2 x3 (x4 + (1 : Int32)) else X0_rankOf_l11 vB p1 fu x2 (x3 + (1 : Int32)) (x4 + (1 : Int32))) else X0_rankOf_l11 vB p1 fu x2 x3 (x4 + (1 : Int32)))))
def X0_rankOf (vB : St) (p1 : Int32) : Option (Int32) := (X0_balanceByLots vB p1).bind fun u7 => X0_rankOf_l11 vB p1 FU u7 (0 : Int32) (0 : Int32)
def X0_setWithoutGuarantor_l4 (vB : St) : Nat → Int32 → Int32 → Option (Int32)
  | 0, _, _ => none
  | fu + 1, x1, x2 => (X0_number vB (1 : Int32)).bind fun u1 => (if u1 ≤ x2 then some x1 else (X0_guarantorOf vB x2).bind fun u3 => (if (0 : Int32) ≤ u3 then X0_setWithoutGuarantor_l4 vB fu x1 (x2 + (1 : Int32)) else X0_setWithoutGuarantor_l4 vB fu (x1 ||| ((1 : Int32) <<< (x2 &&& 31))) (x2 + (1 : Int32))))
def X0_setWithoutGuarantor (vB : St) : Option (Int32) := X0_setWithoutGuarantor_l4 vB FU (0 : Int32) (0 : Int32)
def X0_sumOfAges_l4 (vB : St) : Nat → Int32 → Int32 → Option (Int32)
  | 0, _, _ => none
  | fu + 1, x1, x2 => (X0_number vB (2 : Int32)).bind fun u1 => (if u1 ≤ x2 then some x1 else (X4_at (vB 11) 40 x2).bind fun u3 => (X4_at (vB 12) 40 x2).bind fun u4 => X0_sumOfAges_l4 vB fu (x1 + (u3 * u4)) (x2 + (1 : Int32)))
def X0_sumOfAges (vB : St) : Option (Int32) := X0_sumOfAges_l4 vB FU (0 : Int32) (0 : Int32)
def X0_tellOfLot (vB : St) (p1 : Int32) (p2 : Int32) : Option (Int32) := (if p2 = (0 : Int32) then (X4_at (vB 8) 40 p1).bind fun u2 => some u2 else (if p2 = (1 : Int32) then (X4_at (vB 9) 40 p1).bind fun u4 => some u4 else (if p2 = (2 : Int32) then (X4_at (vB 10) 40 p1).bind fun u6 => some u6 else (if p2 = (3 : Int32) then (X4_at (vB 11) 40 p1).bind fun u8 => some u8 else (if p2 = (4 : Int32) then (X4_at (vB 12) 40 p1).bind fun u10 => some u10 else (X4_at (vB 13) 40 p1).bind fun u11 => some u11)))))
def X0_tellOfPupil (vB : St) (p1 : Int32) (p2 : Int32) : Option (Int32) := (if p2 = (0 : Int32) then (X0_sumOwed vB p1 (-1 : Int32) (-1 : Int32)).bind fun u2 => some u2 else (if p2 = (1 : Int32) then (X0_sumOwed vB (-1 : Int32) p1 (-1 : Int32)).bind fun u4 => some u4 else (if p2 = (2 : Int32) then (X0_balanceByLots vB p1).bind fun u6 => some ((1000 : Int32) + u6) else (if p2 = (3 : Int32) then (X4_at (vB 2) 8 p1).bind fun u8 => some ((1000 : Int32) + u8) else (if p2 = (4 : Int32) then (X4_at (vB 3) 8 p1).bind fun u10 => some u10 else (if p2 = (5 : Int32) then (X4_at (vB 4) 8 p1).bind fun u12 => some u12 else (if p2 = (6 : Int32) then (X0_guarantorOf vB p1).bind fun u14 => (if u14 < (0 : Int32) then some (-1000004 : Int32) else (X0_guarantorOf vB p1).bind fun u16 => some u16) else (if p2 = (7 : Int32) then (X4_at (vB 6) 8 p1).bind fun u18 => some u18 else (X4_at (vB 7) 8 p1).bind fun u19 => some u19))))))))
def X0_turnHolidays_b22 (p1 : Int32) (vB : St) (x2 : Int32) (t1 : Int32) (t2 : Int32) : Option (Int32 × St) := (X4_put (vB 1) 26 t1 t2).bind fun u1 => some (x2, (setA vB 1 u1))
def X0_turnHolidays (vB : St) (p1 : Int32) : Option (Int32 × St) := (X0_number vB (10 : Int32)).bind fun u2 => (if p1 = (0 : Int32) then X0_turnHolidays_b22 p1 vB u2 (10 : Int32) (0 : Int32) else X0_turnHolidays_b22 p1 vB u2 (10 : Int32) (1 : Int32))
def X0_weeksUntilNextSpoils_l4 (vB : St) (p1 : Int32) : Nat → Int32 → Int32 → Option (Int32)
  | 0, _, _ => none
  | fu + 1, x2, x3 => (X0_number vB (2 : Int32)).bind fun u1 => (if u1 ≤ x3 then some x2 else (X0_isLotOf vB x3 p1 (-1 : Int32) (-1 : Int32)).bind fun u3 => (if u3 = (0 : Int32) then X0_weeksUntilNextSpoils_l4 vB p1 fu x2 (x3 + (1 : Int32)) else (X0_weeksLeft vB x3).bind fun u5 => (if x2 = (0 : Int32) then X0_weeksUntilNextSpoils_l4 vB p1 fu (if (1 : Int32) < u5 then u5 else (1 : Int32)) (x3 + (1 : Int32)) else X0_weeksUntilNextSpoils_l4 vB p1 fu (if (if (1 : Int32) < u5 then u5 else (1 : Int32)) < x2 then (if (1 : Int32) < u5 then u5 else (1 : Int32)) else x2) (x3 + (1 : Int32)))))
def X0_weeksUntilNextSpoils (vB : St) (p1 : Int32) : Option (Int32) := X0_weeksUntilNextSpoils_l4 vB p1 FU (0 : Int32) (0 : Int32)
def X1_dropOldest (vH : St) (bH : Nat → St) : Option (St × (Nat → St)) := (X0_copyFrom (bH 0) (bH 1)).bind fun u2 => (X0_copyFrom (bH 1) (bH 2)).bind fun u4 => (X0_copyFrom (bH 2) (bH 3)).bind fun u6 => some ((setI vH 1 ((vH 99 1) - (1 : Int32))), (setB (setB (setB bH 0 u2) 1 u4) 2 u6))
def X1_keep_b12 (vB : St) (vH : St) (bH : Nat → St) : Option (St × (Nat → St)) := (if (vH 99 1) < (0 : Int32) then some (vH, bH) else (if (4 : Int32) ≤ (vH 99 1) then some (vH, bH) else (if (vH 99 1) = (0 : Int32) then (X0_copyFrom (bH 0) vB).bind fun u4 => some ((setI vH 1 ((vH 99 1) + (1 : Int32))), (setB bH 0 u4)) else (if (vH 99 1) = (1 : Int32) then (X0_copyFrom (bH 1) vB).bind fun u6 => some ((setI vH 1 ((vH 99 1) + (1 : Int32))), (setB bH 1 u6)) else (if (vH 99 1) = (2 : Int32) then (X0_copyFrom (bH 2) vB).bind fun u8 => some ((setI vH 1 ((vH 99 1) + (1 : Int32))), (setB bH 2 u8)) else (if (vH 99 1) = (3 : Int32) then (X0_copyFrom (bH 3) vB).bind fun u10 => some ((setI vH 1 ((vH 99 1) + (1 : Int32))), (setB bH 3 u10)) else none))))))
def X1_keep (vH : St) (bH : Nat → St) (vB : St) : Option (St × (Nat → St)) := (if (vH 99 1) < (4 : Int32) then X1_keep_b12 vB vH bH else (X1_dropOldest vH bH).bind fun u12 => X1_keep_b12 vB u12.1 u12.2)
def X1_restoreLatest (vH : St) (bH : Nat → St) (vB : St) : Option (Int32 × St × St) := (if ((vH 99 1) - (1 : Int32)) < (0 : Int32) then some ((-1000002 : Int32), vH, vB) else (if (4 : Int32) ≤ ((vH 99 1) - (1 : Int32)) then some ((-1000002 : Int32), vH, vB) else (if ((vH 99 1) - (1 : Int32)) = (0 : Int32) then (X0_copyFrom vB (bH 0)).bind fun u4 => some (((vH 99 1) - (1 : Int32)), (setI vH 1 ((vH 99 1) - (1 : Int32))), u4) else (if ((vH 99 1) - (1 : Int32)) = (1 : Int32) then (X0_copyFrom vB (bH 1)).bind fun u6 => some (((vH 99 1) - (1 : Int32)), (setI vH 1 ((vH 99 1) - (1 : Int32))), u6) else (if ((vH 99 1) - (1 : Int32)) = (2 : Int32) then (X0_copyFrom vB (bH 2)).bind fun u8 => some (((vH 99 1) - (1 : Int32)), (setI vH 1 ((vH 99 1) - (1 : Int32))), u8) else (if ((vH 99 1) - (1 : Int32)) = (3 : Int32) then (X0_copyFrom vB (bH 3)).bind fun u10 => some (((vH 99 1) - (1 : Int32)), (setI vH 1 ((vH 99 1) - (1 : Int32))), u10) else none))))))
def X1_size (vH : St) (bH : Nat → St) : Option (Int32) := some (vH 99 1)
def X2_append (vO : St) (p1 : Int32) : Option (Int32 × St) := (if p1 < (32 : Int32) then some ((-1000001 : Int32), vO) else (if p1 ≤ (126 : Int32) then (if (vO 99 2) < (60 : Int32) then (X4_put (vO 1) 60 (vO 99 2) p1).bind fun u4 => some (((vO 99 2) + (1 : Int32)), (setI (setA vO 1 u4) 2 ((vO 99 2) + (1 : Int32)))) else some ((-1000003 : Int32), vO)) else some ((-1000001 : Int32), vO)))
def X2_signAt (vO : St) (p1 : Int32) : Option (Int32) := (if (vO 99 2) ≤ p1 then some (0 : Int32) else (X4_at (vO 1) 60 p1).bind fun u2 => some u2)
def X2_numbersAfter (p0 : Int32) : Option (Int32) := (if p0 = (99 : Int32) then some (1 : Int32) else (if p0 = (100 : Int32) then some (4 : Int32) else (if p0 = (103 : Int32) then some (2 : Int32) else (if p0 = (104 : Int32) then some (0 : Int32) else (if p0 = (111 : Int32) then some (4 : Int32) else (if p0 = (119 : Int32) then some (1 : Int32) else some (-1 : Int32)))))))
def X2_passSign (vO : St) (p1 : Int32) : Option (Int32 × St) := (X2_signAt vO (vO 99 3)).bind fun u1 => (if u1 = p1 then some ((1 : Int32), (setI vO 3 ((vO 99 3) + (1 : Int32)))) else some ((0 : Int32), vO))
def X2_isDigit (p0 : Int32) : Option (Int32) := (if p0 < (48 : Int32) then some (0 : Int32) else (if (57 : Int32) < p0 then some (0 : Int32) else some (1 : Int32)))
def X2_readNumber_b56 (p1 : Int32) (vO : St) (x2 : Int32) (x3 : Int32) : Option (Int32 × St) := (X4_put (vO 2) 4 p1 x3).bind fun u1 => (if x2 ≤ (0 : Int32) then some ((0 : Int32), (setA vO 2 u1)) else some ((1 : Int32), (setA vO 2 u1)))
def X2_readNumber_l4 (p1 : Int32) : Nat → St → Int32 → Int32 → Option (Int32 × St)
  | 0, _, _, _ => none
  | fu + 1, vO, x2, x3 => (if (2 : Int32) ≤ x2 then X2_readNumber_b56 p1 vO x2 x3 else (X2_signAt vO (vO 99 3)).bind fun u4 => (X2_isDigit u4).bind fun u5 => (if u5 = (0 : Int32) then X2_readNumber_b56 p1 vO x2 x3 else (X2_signAt vO (vO 99 3)).bind fun u7 => X2_readNumber_l4 p1 fu (setI vO 3 ((vO 99 3) + (1 : Int32))) (x2 + (1 : Int32)) (((x3 * (10 : Int32)) + u7) - (48 : Int32))))
def X2_readNumber (vO : St) (p1 : Int32) : Option (Int32 × St) := X2_readNumber_l4 p1 FU vO (0 : Int32) (0 : Int32)
def X2_readOrder_b66 (p1 : Int32) (vO : St) : Option (Int32 × St) := (X2_passSign vO (59 : Int32)).bind fun u1 => (zbI u1.1).bind fun b2 => some (b2, u1.2)
def X2_readOrder_b50 (p1 : Int32) (k32 : St → Int32 → Int32 → Option (Int32 × St)) (vO : St) (x2 : Int32) (x3 : Int32) : Option (Int32 × St) := (X2_readNumber vO x3).bind fun u3 => (if u3.1 = (0 : Int32) then some ((0 : Int32), u3.2) else k32 u3.2 x2 (x3 + (1 : Int32)))
def X2_readOrder_l32 (p1 : Int32) : Nat → St → Int32 → Int32 → Option (Int32 × St)
  | 0, _, _, _ => none
  | fu + 1, vO, x2, x3 => (if x2 ≤ x3 then X2_readOrder_b66 p1 vO else (if x3 ≤ (0 : Int32) then X2_readOrder_b50 p1 (X2_readOrder_l32 p1 fu) vO x2 x3 else (X2_passSign vO (44 : Int32)).bind fun u7 => (if u7.1 = (0 : Int32) then some ((0 : Int32), u7.2) else X2_readOrder_b50 p1 (X2_readOrder_l32 p1 fu) u7.2 x2 x3)))
def X2_readOrder (vO : St) (p1 : Int32) : Option (Int32 × St) := (X2_signAt (setI vO 3 p1) p1).bind fun u9 => (X2_numbersAfter u9).bind fun u10 => (if (0 : Int32) ≤ u10 then X2_readOrder_l32 p1 FU (setI vO 3 (p1 + (1 : Int32))) u10 (0 : Int32) else some ((0 : Int32), (setI vO 3 p1)))
def X2_noteFault (vO : St) (p1 : Int32) (p2 : Int32) (p3 : Int32) : Option (Int32 × St) := some ((0 : Int32), (setI (setI (setI vO 5 p1) 6 p2) 7 p3))
def X3_readOwed_l26 (vB : St) (p2 : Int32) : Nat → St → Int32 → Option (St)
  | 0, _, _ => none
  | fu + 1, vR, x3 => (X0_number vB (2 : Int32)).bind fun u1 => (if u1 ≤ x3 then some vR else (X0_isLotOf vB x3 (-1 : Int32) (-1 : Int32) p2).bind fun u3 => (if u3 = (0 : Int32) then X3_readOwed_l26 vB p2 fu vR (x3 + (1 : Int32)) else (X4_at (vB 8) 40 x3).bind fun u5 => (X4_at (vB 9) 40 x3).bind fun u6 => (X4_at (vB 11) 40 x3).bind fun u7 => (X4_add (vR 1) 64 ((u5 * (8 : Int32)) + u6) u7).bind fun u8 => X3_readOwed_l26 vB p2 fu (setA vR 1 u8) (x3 + (1 : Int32))))
def X3_readOwed_l2 (vB : St) (p2 : Int32) : Nat → St → Int32 → Option (St)
  | 0, _, _ => none
  | fu + 1, vR, x3 => (if (64 : Int32) ≤ x3 then X3_readOwed_l26 vB p2 FU vR (0 : Int32) else (stA 64 (vR 1) x3 (0 : Int32)).bind fun g10 => X3_readOwed_l2 vB p2 fu (setA vR 1 g10) (x3 + (1 : Int32)))
def X3_readOwed (vR : St) (vB : St) (p2 : Int32) : Option (St) := X3_readOwed_l2 vB p2 FU vR (0 : Int32)
def X3_owedBetween (vR : St) (p1 : Int32) (p2 : Int32) : Option (Int32) := (if ((p1 * (8 : Int32)) + p2) < (0 : Int32) then some (0 : Int32) else (if (64 : Int32) ≤ ((p1 * (8 : Int32)) + p2) then some (0 : Int32) else (ldA 64 (vR 1) ((p1 * (8 : Int32)) + p2)).bind fun y3 => some y3))
def X3_measureSteps_l65 (p1 : Int32) (p2 : Int32) (k38 : St → Int32 → Int32 → Option (St)) : Nat → St → Int32 → Int32 → Int32 → Int32 → Option (St)
  | 0, _, _, _, _, _ => none
  | fu + 1, vR, x3, x4, x5, x6 => (if (8 : Int32) ≤ x6 then k38 vR x3 (x4 + (1 : Int32)) else (if x6 = p1 then X3_measureSteps_l65 p1 p2 k38 fu vR x3 x4 x5 (x6 + (1 : Int32)) else (X4_at (vR 2) 8 x6).bind fun u3 => (if u3 = (0 : Int32) then (X3_owedBetween vR x6 x5).bind fun u5 => (if u5 ≤ (0 : Int32) then X3_measureSteps_l65 p1 p2 k38 fu vR x3 x4 x5 (x6 + (1 : Int32)) else (X4_at (vR 2) 8 x5).bind fun u7 => (X4_put (vR 2) 8 x6 (u7 + (1 : Int32))).bind fun u8 => (X4_put (vR 3) 8 x3 x6).bind fun u9 => X3_measureSteps_l65 p1 p2 k38 fu (setA (setA vR 2 u8) 3 u9) (x3 + (1 : Int32)) x4 x5 (x6 + (1 : Int32))) else X3_measureSteps_l65 p1 p2 k38 fu vR x3 x4 x5 (x6 + (1 : Int32)))))
def X3_measureSteps_l38 (p1 : Int32) (p2 : Int32) : Nat → St → Int32 → Int32 → Option (St)
  | 0, _, _, _ => none
  | fu + 1, vR, x3, x4 => (if (8 : Int32) ≤ x4 then some vR else (if x3 ≤ x4 then some vR else (X4_at (vR 3) 8 x4).bind fun u12 => X3_measureSteps_l65 p1 p2 (X3_measureSteps_l38 p1 p2 fu) FU vR x3 x4 u12 p2))
def X3_measureSteps_b24 (p1 : Int32) (p2 : Int32) (vR : St) : Option (St) := (X4_put (vR 3) 8 (0 : Int32) p1).bind fun u13 => X3_measureSteps_l38 p1 p2 FU (setA vR 3 u13) (1 : Int32) (0 : Int32)
def X3_measureSteps_l2 (p1 : Int32) (p2 : Int32) : Nat → St → Int32 → Option (St)
  | 0, _, _ => none
  | fu + 1, vR, x3 => (if (8 : Int32) ≤ x3 then X3_measureSteps_b24 p1 p2 vR else (stA 8 (vR 2) x3 (0 : Int32)).bind fun g15 => X3_measureSteps_l2 p1 p2 fu (setA vR 2 g15) (x3 + (1 : Int32)))
def X3_measureSteps (vR : St) (p1 : Int32) (p2 : Int32) : Option (St) := X3_measureSteps_l2 p1 p2 FU vR (0 : Int32)
def X3_shortestFrom_b44 (vR : St) (p1 : Int32) (k6 : Int32 → Int32 → Option (Int32)) (x2 : Int32) (x3 : Int32) (x4 : Int32) (t0 : Int32) : Option (Int32) := (if t0 = (0 : Int32) then k6 x2 (x3 + (1 : Int32)) else (if x2 = (0 : Int32) then k6 x4 (x3 + (1 : Int32)) else (if x2 ≤ x4 then k6 x2 (x3 + (1 : Int32)) else k6 x4 (x3 + (1 : Int32)))))
def X3_shortestFrom_b43 (vR : St) (p1 : Int32) (k6 : Int32 → Int32 → Option (Int32)) (x2 : Int32) (x3 : Int32) (x4 : Int32) : Option (Int32) := X3_shortestFrom_b44 vR p1 k6 x2 x3 x4 (0 : Int32)
def X3_shortestFrom_l6 (vR : St) (p1 : Int32) : Nat → Int32 → Int32 → Option (Int32)
  | 0, _, _ => none
  | fu + 1, x2, x3 => (if (8 : Int32) ≤ x3 then some x2 else (X4_at (vR 2) 8 x3).bind fun u5 => (if (u5 + (1 : Int32)) ≤ (1 : Int32) then X3_shortestFrom_b43 vR p1 (X3_shortestFrom_l6 vR p1 fu) x2 x3 (u5 + (1 : Int32)) else (X3_owedBetween vR p1 x3).bind fun u7 => (if u7 ≤ (0 : Int32) then X3_shortestFrom_b43 vR p1 (X3_shortestFrom_l6 vR p1 fu) x2 x3 (u5 + (1 : Int32)) else X3_shortestFrom_b44 vR p1 (X3_shortestFrom_l6 vR p1 fu) x2 x3 (u5 + (1 : Int32)) (1 : Int32))))
def X3_shortestFrom (vR : St) (p1 : Int32) : Option (Int32) := X3_shortestFrom_l6 vR p1 FU (0 : Int32) (p1 + (1 : Int32))
def X3_nextPupil (vR : St) (p1 : Int32) : Option (Int32) := (X4_at (vR 4) 8 p1).bind fun u1 => some u1
def X3_lowestBehind_l2 (vR : St) (p1 : Int32) (p2 : Int32) : Nat → Int32 → Option (Int32)
  | 0, _ => none
  | fu + 1, x3 => (if (8 : Int32) ≤ x3 then some (-1 : Int32) else (X4_at (vR 2) 8 x3).bind fun u2 => (if u2 = p2 then (X3_owedBetween vR p1 x3).bind fun u4 => (if u4 ≤ (0 : Int32) then X3_lowestBehind_l2 vR p1 p2 fu (x3 + (1 : Int32)) else some x3) else X3_lowestBehind_l2 vR p1 p2 fu (x3 + (1 : Int32))))
def X3_lowestBehind (vR : St) (p1 : Int32) (p2 : Int32) : Option (Int32) := X3_lowestBehind_l2 vR p1 p2 FU (0 : Int32)
def X3_findNext_l96 (vB : St) (p2 : Int32) : Nat → St → Int32 → Option (Int32 × St)
  | 0, _, _ => none
  | fu + 1, vR, x4 => (if (vR 99 4) ≤ x4 then some ((1 : Int32), vR) else (X3_nextPupil vR (x4 - (1 : Int32))).bind fun u2 => (X3_lowestBehind vR u2 ((vR 99 4) - x4)).bind fun u3 => (X4_put (vR 4) 8 x4 u3).bind fun u4 => X3_findNext_l96 vB p2 fu (setA vR 4 u4) (x4 + (1 : Int32)))
def X3_findNext_b72 (vB : St) (p2 : Int32) (vR : St) (x3 : Int32) : Option (Int32 × St) := (if (0 : Int32) ≤ x3 then (X3_measureSteps vR x3 x3).bind fun u6 => (X4_put (u6 4) 8 (0 : Int32) x3).bind fun u7 => X3_findNext_l96 vB p2 FU (setA u6 4 u7) (1 : Int32) else some ((0 : Int32), vR))
def X3_findNext_b57 (vB : St) (p2 : Int32) (k16 : St → Int32 → Int32 → Option (Int32 × St)) (vR : St) (x4 : Int32) (x5 : Int32) : Option (Int32 × St) := k16 (setI vR 4 x5) x4 (x4 + (1 : Int32))
def X3_findNext_l16 (vB : St) (p2 : Int32) : Nat → St → Int32 → Int32 → Option (Int32 × St)
  | 0, _, _, _ => none
  | fu + 1, vR, x3, x4 => (if (8 : Int32) ≤ x4 then X3_findNext_b72 vB p2 vR x3 else (X3_measureSteps vR x4 x4).bind fun u9 => (X3_shortestFrom u9 x4).bind fun u10 => (if u10 ≤ (0 : Int32) then X3_findNext_l16 vB p2 fu u9 x3 (x4 + (1 : Int32)) else (if x3 < (0 : Int32) then X3_findNext_b57 vB p2 (X3_findNext_l16 vB p2 fu) u9 x4 u10 else (if (u9 99 4) ≤ u10 then X3_findNext_l16 vB p2 fu u9 x3 (x4 + (1 : Int32)) else X3_findNext_b57 vB p2 (X3_findNext_l16 vB p2 fu) u9 x4 u10))))
def X3_findNext (vR : St) (vB : St) (p2 : Int32) : Option (Int32 × St) := (X3_readOwed vR vB p2).bind fun u14 => X3_findNext_l16 vB p2 FU (setI u14 4 (0 : Int32)) (-1 : Int32) (0 : Int32)
def X3_pupilBehind_b21 (vR : St) (p1 : Int32) (t1 : Int32) : Option (Int32) := (X4_at (vR 4) 8 t1).bind fun u1 => some u1
def X3_pupilBehind (vR : St) (p1 : Int32) : Option (Int32) := (if (vR 99 4) ≤ (p1 + (1 : Int32)) then X3_pupilBehind_b21 vR p1 (0 : Int32) else X3_pupilBehind_b21 vR p1 (p1 + (1 : Int32)))
def X3_nextAmount_l4 (vR : St) : Nat → Int32 → Int32 → Option (Int32)
  | 0, _, _ => none
  | fu + 1, x1, x2 => (if (vR 99 4) ≤ x2 then some x1 else (X3_nextPupil vR x2).bind fun u2 => (X3_pupilBehind vR x2).bind fun u3 => (X3_owedBetween vR u2 u3).bind fun u4 => (if x2 = (0 : Int32) then X3_nextAmount_l4 vR fu u4 (x2 + (1 : Int32)) else X3_nextAmount_l4 vR fu (if u4 < x1 then u4 else x1) (x2 + (1 : Int32))))
def X3_nextAmount (vR : St) : Option (Int32) := X3_nextAmount_l4 vR FU (0 : Int32) (0 : Int32)
def X3_clearKind_b87 (p2 : Int32) (k15 : St → St → Int32 → Int32 → Option (Int32 × St × St)) (vR : St) (vB : St) (x3 : Int32) (x4 : Int32) (x5 : Int32) : Option (Int32 × St × St) := (X0_countRing vB).bind fun u1 => k15 vR u1 (x3 + (x5 * (vR 99 4))) (x4 + (1 : Int32))
def X3_clearKind_l41 (p2 : Int32) (k15 : St → St → Int32 → Int32 → Option (Int32 × St × St)) : Nat → St → St → Int32 → Int32 → Int32 → Int32 → Option (Int32 × St × St)
  | 0, _, _, _, _, _, _ => none
  | fu + 1, vR, vB, x3, x4, x5, x6 => (if (vR 99 4) ≤ x6 then X3_clearKind_b87 p2 k15 vR vB x3 x4 x5 else (X3_nextPupil vR x6).bind fun u3 => (X3_pupilBehind vR x6).bind fun u4 => (X0_takeFavours vB u3 u4 p2 x5).bind fun u5 => (X3_nextPupil vR x6).bind fun u6 => (X0_countCleared u5 u6 x5).bind fun u7 => X3_clearKind_l41 p2 k15 fu vR u7 x3 x4 x5 (x6 + (1 : Int32)))
def X3_clearKind_l15 (p2 : Int32) : Nat → St → St → Int32 → Int32 → Option (Int32 × St × St)
  | 0, _, _, _, _ => none
  | fu + 1, vR, vB, x3, x4 => (if (1000 : Int32) ≤ x4 then some (x3, vR, vB) else (X3_findNext vR vB p2).bind fun u9 => (if u9.1 = (0 : Int32) then some (x3, u9.2, vB) else (X3_nextAmount u9.2).bind fun u11 => X3_clearKind_l41 p2 (X3_clearKind_l15 p2 fu) FU u9.2 vB x3 x4 u11 (0 : Int32)))
def X3_clearKind (vR : St) (vB : St) (p2 : Int32) : Option (Int32 × St × St) := (X4_isKind p2).bind fun u12 => (if u12 = (0 : Int32) then some ((-1000001 : Int32), vR, vB) else X3_clearKind_l15 p2 FU vR vB (0 : Int32) (0 : Int32))
def X2_doOrder_b159 (vO : St) (p3 : Int32) (vB : St) (vR : St) (t1 : Int32) : Option (Int32 × St × St) := (X0_turnHolidays vB t1).bind fun u1 => some (u1.1, u1.2, vR)
def X2_doOrder (vO : St) (vB : St) (vR : St) (p3 : Int32) : Option (Int32 × St × St) := (X4_at (vO 2) 4 (0 : Int32)).bind fun u2 => (X4_at (vO 2) 4 (1 : Int32)).bind fun u3 => (if p3 = (99 : Int32) then (X3_clearKind vR vB u2).bind fun u5 => some (u5.1, u5.2.2, u5.2.1) else (if p3 = (100 : Int32) then (X4_at (vO 2) 4 (2 : Int32)).bind fun u7 => (X4_at (vO 2) 4 (3 : Int32)).bind fun u8 => (X0_fulfilFavours vB u2 u3 u7 u8).bind fun u9 => some (u9.1, u9.2, vR) else (if p3 = (103 : Int32) then (X0_giveGuarantor vB u2 u3).bind fun u11 => some (u11.1, u11.2, vR) else (if p3 = (111 : Int32) then (X4_at (vO 2) 4 (2 : Int32)).bind fun u13 => (X4_at (vO 2) 4 (3 : Int32)).bind fun u14 => (X0_lendFavours vB u2 u3 u13 u14).bind fun u15 => some (u15.1, u15.2, vR) else (if p3 = (119 : Int32) then (X0_endWeeks vB u2).bind fun u17 => some (u17.1, u17.2, vR) else (X0_hasHolidays vB).bind fun u18 => (if u18 = (0 : Int32) then X2_doOrder_b159 vO p3 vB vR (1 : Int32) else X2_doOrder_b159 vO p3 vB vR (0 : Int32)))))))
def X2_doAll_b64 (vO : St) (vB : St) (vR : St) (x3 : Int32) (x5 : Int32) : Option (Int32 × St × St × St) := (X2_noteFault vO x3 (2 : Int32) x5).bind fun u1 => (zbI u1.1).bind fun b2 => some (b2, u1.2, vB, vR)
def X2_doAll_b33 (vO : St) (vB : St) (vR : St) (x3 : Int32) : Option (Int32 × St × St × St) := (X2_noteFault vO x3 (1 : Int32) ((vO 99 3) - x3)).bind fun u3 => (zbI u3.1).bind fun b4 => some (b4, u3.2, vB, vR)
def X2_doAll_l10  : Nat → St → St → St → Int32 → Int32 → Option (Int32 × St × St × St)
  | 0, _, _, _, _, _ => none
  | fu + 1, vO, vB, vR, x3, x4 => (if (60 : Int32) ≤ x4 then some ((1 : Int32), vO, vB, vR) else (if (vO 99 2) ≤ x3 then some ((1 : Int32), vO, vB, vR) else (X2_readOrder vO x3).bind fun u7 => (if u7.1 = (0 : Int32) then X2_doAll_b33 u7.2 vB vR x3 else (X2_signAt u7.2 x3).bind fun u9 => (X2_doOrder u7.2 vB vR u9).bind fun u10 => (if (0 : Int32) ≤ u10.1 then X2_doAll_l10 fu (setI u7.2 4 ((u7.2 99 4) + (1 : Int32))) u10.2.1 u10.2.2 (u7.2 99 3) (x4 + (1 : Int32)) else X2_doAll_b64 u7.2 u10.2.1 u10.2.2 x3 u10.1))))
def X2_doAll (vO : St) (vB : St) (vR : St) : Option (Int32 × St × St × St) := X2_doAll_l10 FU (setI vO 4 (0 : Int32)) vB vR (0 : Int32) (0 : Int32)
def X2_empty (vO : St) : Option (Int32 × St) := some ((vO 99 2), (setI vO 2 (0 : Int32)))
def X2_faultCause (vO : St) : Option (Int32) := some (vO 99 7)
def X2_faultPlace (vO : St) : Option (Int32) := some (vO 99 5)
def X2_faultReason (vO : St) : Option (Int32) := some (vO 99 6)
def X2_length (vO : St) : Option (Int32) := some (vO 99 2)
def X2_ordersDone (vO : St) : Option (Int32) := some (vO 99 4)
def X3_nextLength (vR : St) : Option (Int32) := some (vR 99 4)
def X3_stepsBetween (vR : St) (vB : St) (p2 : Int32) (p3 : Int32) (p4 : Int32) : Option (Int32 × St) := (X3_readOwed vR vB p4).bind fun u1 => (X3_measureSteps u1 p3 (0 : Int32)).bind fun u2 => (X4_at (u2 2) 8 p2).bind fun u3 => some (u3, u2)
def X4_amount (vB : St) (vT : St) (vH : St) (bH : Nat → St) (vR : St) (vO : St) (p1 : Int32) : Option (Int32 × St) := (X4_isKind p1).bind fun u1 => (if u1 = (0 : Int32) then some ((-1000001 : Int32), vR) else (X3_findNext vR vB p1).bind fun u3 => (if u3.1 = (0 : Int32) then some ((-1000004 : Int32), u3.2) else (X3_nextAmount u3.2).bind fun u5 => some (u5, u3.2)))
def X4_chain (vB : St) (vT : St) (vH : St) (bH : Nat → St) (vR : St) (vO : St) (p1 : Int32) (p2 : Int32) (p3 : Int32) : Option (Int32 × St) := (X0_isPair vB p1 p2).bind fun u1 => (if u1 = (0 : Int32) then some ((-1000001 : Int32), vR) else (X4_isKind p3).bind fun u3 => (if u3 = (0 : Int32) then some ((-1000001 : Int32), vR) else (X3_stepsBetween vR vB p1 p2 p3).bind fun u5 => (if u5.1 ≤ (0 : Int32) then some ((-1000004 : Int32), u5.2) else some (u5.1, u5.2))))
def X4_freshTrial (vB : St) (vT : St) (vH : St) (bH : Nat → St) (vR : St) (vO : St) : Option (St) := (X0_copyFrom vT vB).bind fun u1 => some u1
def X4_settled (vB : St) (vT : St) (vH : St) (bH : Nat → St) (vR : St) (vO : St) (p1 : Int32) : Option (Int32 × St × St × (Nat → St)) := (if p1 < (0 : Int32) then some (p1, vB, vH, bH) else (X1_keep vH bH vB).bind fun u2 => (X0_copyFrom vB vT).bind fun u3 => some (p1, u3, u2.1, u2.2))
def X4_clear (vB : St) (vT : St) (vH : St) (bH : Nat → St) (vR : St) (vO : St) (p1 : Int32) : Option (Int32 × St × St × St × (Nat → St) × St) := (X4_freshTrial vB vT vH bH vR vO).bind fun u1 => (X3_clearKind vR u1 p1).bind fun u2 => (X4_settled vB u2.2.2 vH bH u2.2.1 vO u2.1).bind fun u3 => some (u3.1, u3.2.1, u2.2.2, u3.2.2.1, u3.2.2.2, u2.2.1)
def X4_clearText (vB : St) (vT : St) (vH : St) (bH : Nat → St) (vR : St) (vO : St) : Option (Int32 × St) := (X2_empty vO).bind fun u1 => some (u1.1, u1.2)
def X4_count_b16 (vB : St) (vT : St) (vH : St) (bH : Nat → St) (vR : St) (vO : St) (p1 : Int32) : Option (Int32) := (if p1 < (26 : Int32) then (if p1 = (3 : Int32) then (X0_sumOwed vB (-1 : Int32) (-1 : Int32) (-1 : Int32)).bind fun u3 => some u3 else (if p1 = (11 : Int32) then (X0_setWithoutGuarantor vB).bind fun u5 => some u5 else (if p1 = (12 : Int32) then (X1_size vH bH).bind fun u7 => some u7 else (if p1 = (13 : Int32) then (X2_length vO).bind fun u9 => some u9 else (X0_number vB p1).bind fun u10 => some u10)))) else some (-1000001 : Int32))
def X4_count (vB : St) (vT : St) (vH : St) (bH : Nat → St) (vR : St) (vO : St) (p1 : Int32) : Option (Int32) := (if p1 < (0 : Int32) then some (-1000001 : Int32) else (if p1 ≤ (13 : Int32) then X4_count_b16 vB vT vH bH vR vO p1 else (if p1 < (20 : Int32) then some (-1000001 : Int32) else X4_count_b16 vB vT vH bH vR vO p1)))
def X4_deepest_l18 (vB : St) (vT : St) (vH : St) (bH : Nat → St) (vR : St) (vO : St) (p1 : Int32) : Nat → Int32 → Int32 → Int32 → Option (Int32)
  | 0, _, _, _ => none
  | fu + 1, x2, x3, x4 => (X0_number vB (1 : Int32)).bind fun u1 => (if u1 ≤ x4 then some x2 else (X0_sumOwed vB x4 (-1 : Int32) p1).bind fun u3 => (if u3 ≤ x3 then X4_deepest_l18 vB vT vH bH vR vO p1 fu x2 x3 (x4 + (1 : Int32)) else X4_deepest_l18 vB vT vH bH vR vO p1 fu x4 u3 (x4 + (1 : Int32))))
def X4_deepest (vB : St) (vT : St) (vH : St) (bH : Nat → St) (vR : St) (vO : St) (p1 : Int32) : Option (Int32) := (X4_isKind p1).bind fun u5 => (if u5 = (0 : Int32) then some (-1000001 : Int32) else X4_deepest_l18 vB vT vH bH vR vO p1 FU (-1000004 : Int32) (0 : Int32) (0 : Int32))
def X4_fault (vB : St) (vT : St) (vH : St) (bH : Nat → St) (vR : St) (vO : St) (p1 : Int32) : Option (Int32 × St × St × St) := (if p1 < (0 : Int32) then some ((-1000001 : Int32), vT, vR, vO) else (if p1 ≤ (2 : Int32) then (X4_freshTrial vB vT vH bH vR vO).bind fun u3 => (X2_doAll vO u3 vR).bind fun u4 => (if u4.1 = (0 : Int32) then (if p1 = (0 : Int32) then (X2_faultPlace u4.2.1).bind fun u10 => some (u10, u4.2.2.1, u4.2.2.2, u4.2.1) else (if p1 = (1 : Int32) then (X2_faultReason u4.2.1).bind fun u9 => some (u9, u4.2.2.1, u4.2.2.2, u4.2.1) else (X2_faultCause u4.2.1).bind fun u8 => some (u8, u4.2.2.1, u4.2.2.2, u4.2.1))) else some ((-1000004 : Int32), u4.2.2.1, u4.2.2.2, u4.2.1)) else some ((-1000001 : Int32), vT, vR, vO)))
def X4_firstOfSetting (p0 : Int32) : Option (Int32) := (if p0 = (4 : Int32) then some (20 : Int32) else (if p0 = (5 : Int32) then some (3 : Int32) else some ((4 : Int32) + ((2 : Int32) * p0))))
def X4_fulfil (vB : St) (vT : St) (vH : St) (bH : Nat → St) (vR : St) (vO : St) (p1 : Int32) (p2 : Int32) (p3 : Int32) (p4 : Int32) : Option (Int32 × St × St × St × (Nat → St)) := (X4_freshTrial vB vT vH bH vR vO).bind fun u1 => (X0_fulfilFavours u1 p1 p2 p3 p4).bind fun u2 => (X4_settled vB u2.2 vH bH vR vO u2.1).bind fun u3 => some (u3.1, u3.2.1, u2.2, u3.2.2.1, u3.2.2.2)
def X4_guarantee (vB : St) (vT : St) (vH : St) (bH : Nat → St) (vR : St) (vO : St) (p1 : Int32) (p2 : Int32) : Option (Int32 × St × St × St × (Nat → St)) := (X4_freshTrial vB vT vH bH vR vO).bind fun u1 => (X0_giveGuarantor u1 p1 p2).bind fun u2 => (X4_settled vB u2.2 vH bH vR vO u2.1).bind fun u3 => some (u3.1, u3.2.1, u2.2, u3.2.2.1, u3.2.2.2)
def X4_holiday (vB : St) (vT : St) (vH : St) (bH : Nat → St) (vR : St) (vO : St) (p1 : Int32) : Option (Int32 × St × St × St × (Nat → St)) := (X4_freshTrial vB vT vH bH vR vO).bind fun u1 => (X0_turnHolidays u1 p1).bind fun u2 => (X4_settled vB u2.2 vH bH vR vO u2.1).bind fun u3 => some (u3.1, u3.2.1, u2.2, u3.2.2.1, u3.2.2.2)
def X4_ifCleared (vB : St) (vT : St) (vH : St) (bH : Nat → St) (vR : St) (vO : St) (p1 : Int32) (p2 : Int32) : Option (Int32 × St × St) := (X4_isKind p1).bind fun u1 => (if u1 = (0 : Int32) then some ((-1000001 : Int32), vT, vR) else (if p2 < (0 : Int32) then some ((-1000001 : Int32), vT, vR) else (if p2 ≤ (2 : Int32) then (X4_freshTrial vB vT vH bH vR vO).bind fun u5 => (X3_clearKind vR u5 p1).bind fun u6 => (if p2 = (0 : Int32) then some (u6.1, u6.2.2, u6.2.1) else (if p2 = (1 : Int32) then (X0_number u6.2.2 (9 : Int32)).bind fun u10 => (X0_number vB (9 : Int32)).bind fun u11 => some ((u10 - u11), u6.2.2, u6.2.1) else (X0_number u6.2.2 (2 : Int32)).bind fun u9 => some (u9, u6.2.2, u6.2.1))) else some ((-1000001 : Int32), vT, vR))))
def X4_lend (vB : St) (vT : St) (vH : St) (bH : Nat → St) (vR : St) (vO : St) (p1 : Int32) (p2 : Int32) (p3 : Int32) (p4 : Int32) : Option (Int32 × St × St × St × (Nat → St)) := (X4_freshTrial vB vT vH bH vR vO).bind fun u1 => (X0_lendFavours u1 p1 p2 p3 p4).bind fun u2 => (X4_settled vB u2.2 vH bH vR vO u2.1).bind fun u3 => some (u3.1, u3.2.1, u2.2, u3.2.2.1, u3.2.2.2)
def X4_lot (vB : St) (vT : St) (vH : St) (bH : Nat → St) (vR : St) (vO : St) (p1 : Int32) (p2 : Int32) : Option (Int32) := (if p1 < (0 : Int32) then some (-1000001 : Int32) else (if p2 < (0 : Int32) then some (-1000001 : Int32) else (if p2 < (6 : Int32) then (X0_number vB (2 : Int32)).bind fun u4 => (if u4 ≤ p1 then some (-1000004 : Int32) else (X0_tellOfLot vB p1 p2).bind fun u6 => some u6) else some (-1000001 : Int32))))
def X4_owes (vB : St) (vT : St) (vH : St) (bH : Nat → St) (vR : St) (vO : St) (p1 : Int32) (p2 : Int32) (p3 : Int32) : Option (Int32) := (X0_isPupil vB p1).bind fun u1 => (if u1 = (0 : Int32) then some (-1000001 : Int32) else (X0_isPupil vB p2).bind fun u3 => (if u3 = (0 : Int32) then some (-1000001 : Int32) else (X4_isKind p3).bind fun u5 => (if u5 = (0 : Int32) then some (-1000001 : Int32) else (X0_sumOwed vB p1 p2 p3).bind fun u7 => some u7)))
def X4_play_b31 (vB : St) (vT : St) (vH : St) (bH : Nat → St) (vR : St) (vO : St) (t1 : Int32) : Option (Int32 × St × St × St × (Nat → St) × St × St) := (X4_settled vB vT vH bH vR vO t1).bind fun u1 => some (u1.1, u1.2.1, vT, u1.2.2.1, u1.2.2.2, vR, vO)
def X4_play (vB : St) (vT : St) (vH : St) (bH : Nat → St) (vR : St) (vO : St) : Option (Int32 × St × St × St × (Nat → St) × St × St) := (X4_freshTrial vB vT vH bH vR vO).bind fun u2 => (X2_doAll vO u2 vR).bind fun u3 => (if u3.1 = (0 : Int32) then X4_play_b31 vB u3.2.2.1 vH bH u3.2.2.2 u3.2.1 (-1000002 : Int32) else (X2_ordersDone u3.2.1).bind fun u5 => X4_play_b31 vB u3.2.2.1 vH bH u3.2.2.2 u3.2.1 u5)
def X4_pupil (vB : St) (vT : St) (vH : St) (bH : Nat → St) (vR : St) (vO : St) : Option (Int32 × St × St × St × (Nat → St)) := (X4_freshTrial vB vT vH bH vR vO).bind fun u1 => (X0_addPupil u1).bind fun u2 => (X4_settled vB u2.2 vH bH vR vO u2.1).bind fun u3 => some (u3.1, u3.2.1, u2.2, u3.2.2.1, u3.2.2.2)
def X4_pupilOf (vB : St) (vT : St) (vH : St) (bH : Nat → St) (vR : St) (vO : St) (p1 : Int32) (p2 : Int32) : Option (Int32) := (X0_isPupil vB p1).bind fun u1 => (if u1 = (0 : Int32) then some (-1000001 : Int32) else (if p2 < (0 : Int32) then some (-1000001 : Int32) else (if p2 < (9 : Int32) then (X0_tellOfPupil vB p1 p2).bind fun u5 => some u5 else some (-1000001 : Int32))))
def X4_richest_l9 (vB : St) (vT : St) (vH : St) (bH : Nat → St) (vR : St) (vO : St) (p1 : Int32) : Nat → Int32 → Option (Int32)
  | 0, _ => none
  | fu + 1, x2 => (X0_number vB (1 : Int32)).bind fun u1 => (if u1 ≤ x2 then some (-1000004 : Int32) else (X0_rankOf vB x2).bind fun u3 => (if u3 = p1 then some x2 else X4_richest_l9 vB vT vH bH vR vO p1 fu (x2 + (1 : Int32))))
def X4_richest (vB : St) (vT : St) (vH : St) (bH : Nat → St) (vR : St) (vO : St) (p1 : Int32) : Option (Int32) := (if (0 : Int32) ≤ p1 then X4_richest_l9 vB vT vH bH vR vO p1 FU (0 : Int32) else some (-1000001 : Int32))
def X4_ring (vB : St) (vT : St) (vH : St) (bH : Nat → St) (vR : St) (vO : St) (p1 : Int32) (p2 : Int32) : Option (Int32 × St) := (X4_isKind p1).bind fun u1 => (if u1 = (0 : Int32) then some ((-1000001 : Int32), vR) else (if (0 : Int32) ≤ p2 then (X3_findNext vR vB p1).bind fun u4 => (if u4.1 = (0 : Int32) then some ((-1000004 : Int32), u4.2) else (X3_nextLength u4.2).bind fun u6 => (if p2 < u6 then (X3_nextPupil u4.2 p2).bind fun u8 => some (u8, u4.2) else some ((-1000004 : Int32), u4.2))) else some ((-1000001 : Int32), vR)))
def X4_set (vB : St) (vT : St) (vH : St) (bH : Nat → St) (vR : St) (vO : St) (p1 : Int32) (p2 : Int32) : Option (Int32 × St × St × St × (Nat → St)) := (X4_freshTrial vB vT vH bH vR vO).bind fun u1 => (X0_changeSetting u1 p1 p2).bind fun u2 => (X4_settled vB u2.2 vH bH vR vO u2.1).bind fun u3 => some (u3.1, u3.2.1, u2.2, u3.2.2.1, u3.2.2.2)
def X4_spoilsIn (vB : St) (vT : St) (vH : St) (bH : Nat → St) (vR : St) (vO : St) (p1 : Int32) : Option (Int32) := (X0_isPupil vB p1).bind fun u1 => (if u1 = (0 : Int32) then some (-1000001 : Int32) else (X0_weeksUntilNextSpoils vB p1).bind fun u3 => (if u3 ≤ (0 : Int32) then some (-1000004 : Int32) else some u3))
def X4_type (vB : St) (vT : St) (vH : St) (bH : Nat → St) (vR : St) (vO : St) (p1 : Int32) : Option (Int32 × St) := (X2_append vO p1).bind fun u1 => some (u1.1, u1.2)
def X4_undo (vB : St) (vT : St) (vH : St) (bH : Nat → St) (vR : St) (vO : St) : Option (Int32 × St × St) := (X1_restoreLatest vH bH vB).bind fun u1 => some (u1.1, u1.2.2, u1.2.1)
def X4_weeks (vB : St) (vT : St) (vH : St) (bH : Nat → St) (vR : St) (vO : St) (p1 : Int32) : Option (Int32 × St × St × St × (Nat → St)) := (X4_freshTrial vB vT vH bH vR vO).bind fun u1 => (X0_endWeeks u1 p1).bind fun u2 => (X4_settled vB u2.2 vH bH vR vO u2.1).bind fun u3 => some (u3.1, u3.2.1, u2.2, u3.2.2.1, u3.2.2.2)
def X4_why (vB : St) (vT : St) (vH : St) (bH : Nat → St) (vR : St) (vO : St) (p1 : Int32) (p2 : Int32) : Option (Int32) := (X0_isPupil vB p1).bind fun u1 => (if u1 = (0 : Int32) then some (-1000001 : Int32) else (X4_isMany p2).bind fun u3 => (if u3 = (0 : Int32) then some (-1000001 : Int32) else (X0_reasonAgainst vB p1 p2).bind fun u5 => some u5))
def X5_at (p0 : Int32) (p1 : Int32) : Option (Int32) := some (((240 : Int32) + ((6 : Int32) * p0)) + p1)
def X5_alone_l4 (vM : St) : Nat → Int32 → Int32 → Option (Int32)
  | 0, _, _ => none
  | fu + 1, x1, x2 => (ldA 304 (vM 1) (289 : Int32)).bind fun y1 => (if y1 ≤ x2 then some x1 else (X5_at x2 (2 : Int32)).bind fun u3 => (ldA 304 (vM 1) u3).bind fun y4 => (if y4 = (0 : Int32) then X5_alone_l4 vM fu (x1 ||| ((1 : Int32) <<< (x2 &&& 31))) (x2 + (1 : Int32)) else X5_alone_l4 vM fu (x1 ||| (0 : Int32)) (x2 + (1 : Int32))))
def X5_alone (vM : St) : Option (Int32) := X5_alone_l4 vM FU (0 : Int32) (0 : Int32)
def X5_in (p0 : Int32) (p1 : Int32) (p2 : Int32) : Option (Int32) := (if p0 < p1 then some (0 : Int32) else (if p2 < p0 then some (0 : Int32) else some (1 : Int32)))
def X5_isKind (p0 : Int32) : Option (Int32) := (X5_in p0 (0 : Int32) (3 : Int32)).bind fun u1 => (zbI u1).bind fun b2 => some b2
def X5_of (vM : St) (p1 : Int32) (p2 : Int32) : Option (Int32) := (ldA 304 (vM 1) (((6 : Int32) * p1) + p2)).bind fun y1 => some y1
def X5_looks_l23 (p1 : Int32) : Nat → St → Int32 → Option (St)
  | 0, _, _ => none
  | fu + 1, vM, x2 => (ldA 304 (vM 1) (290 : Int32)).bind fun y1 => (if y1 ≤ x2 then some vM else (X5_of vM x2 (2 : Int32)).bind fun u3 => (if u3 = p1 then (X5_of vM x2 (0 : Int32)).bind fun u5 => (ldA 8 (vM 9) u5).bind fun y6 => (X5_of vM x2 (1 : Int32)).bind fun u7 => (stA 8 (vM 9) u5 (y6 ||| ((1 : Int32) <<< (u7 &&& 31)))).bind fun g8 => X5_looks_l23 p1 fu (setA vM 9 g8) (x2 + (1 : Int32)) else X5_looks_l23 p1 fu vM (x2 + (1 : Int32))))
def X5_looks_l2 (p1 : Int32) : Nat → St → Int32 → Option (St)
  | 0, _, _ => none
  | fu + 1, vM, x2 => (if (8 : Int32) ≤ x2 then X5_looks_l23 p1 FU vM (0 : Int32) else (stA 8 (vM 9) x2 (0 : Int32)).bind fun g10 => X5_looks_l2 p1 fu (setA vM 9 g10) (x2 + (1 : Int32)))
def X5_looks (vM : St) (p1 : Int32) : Option (St) := X5_looks_l2 p1 FU vM (0 : Int32)
def X5_isBack_b83 (p1 : Int32) (p2 : Int32) (vM : St) : Option (Int32 × St) := (ldA 8 (vM 9) p1).bind fun y1 => (ldA 9 (vM 10) (p2 - (1 : Int32))).bind fun y2 => (if (y1 &&& y2) = (0 : Int32) then some ((0 : Int32), vM) else some ((1 : Int32), vM))
def X5_isBack_l28 (p1 : Int32) (p2 : Int32) (k11 : St → Int32 → Option (Int32 × St)) : Nat → St → Int32 → Int32 → Option (Int32 × St)
  | 0, _, _, _ => none
  | fu + 1, vM, x3, x4 => (if (8 : Int32) ≤ x4 then k11 vM (x3 + (1 : Int32)) else (ldA 9 (vM 10) x3).bind fun y5 => (ldA 8 (vM 9) x4).bind fun y6 => (ldA 9 (vM 10) (x3 - (1 : Int32))).bind fun y7 => (if (y6 &&& y7) = (0 : Int32) then (stA 9 (vM 10) x3 (y5 ||| (0 : Int32))).bind fun g9 => X5_isBack_l28 p1 p2 k11 fu (setA vM 10 g9) x3 (x4 + (1 : Int32)) else (stA 9 (vM 10) x3 (y5 ||| ((1 : Int32) <<< (x4 &&& 31)))).bind fun g10 => X5_isBack_l28 p1 p2 k11 fu (setA vM 10 g10) x3 (x4 + (1 : Int32))))
def X5_isBack_l11 (p1 : Int32) (p2 : Int32) : Nat → St → Int32 → Option (Int32 × St)
  | 0, _, _ => none
  | fu + 1, vM, x3 => (if p2 ≤ x3 then X5_isBack_b83 p1 p2 vM else (stA 9 (vM 10) x3 (0 : Int32)).bind fun g12 => X5_isBack_l28 p1 p2 (X5_isBack_l11 p1 p2 fu) FU (setA vM 10 g12) x3 (p1 + (1 : Int32)))
def X5_isBack (vM : St) (p1 : Int32) (p2 : Int32) : Option (Int32 × St) := (stA 9 (vM 10) (0 : Int32) ((1 : Int32) <<< (p1 &&& 31))).bind fun g13 => X5_isBack_l11 p1 p2 FU (setA vM 10 g13) (1 : Int32)
def X5_lowest_l2 (p0 : Int32) : Nat → Int32 → Option (Int32)
  | 0, _ => none
  | fu + 1, x1 => (if ((p0 >>> (x1 &&& 31)) &&& (1 : Int32)) = (0 : Int32) then X5_lowest_l2 p0 fu (x1 + (1 : Int32)) else some x1)
def X5_lowest (p0 : Int32) : Option (Int32) := X5_lowest_l2 p0 FU (0 : Int32)
def X5_rings_l40 (p1 : Int32) : Nat → St → Int32 → Int32 → Option (Int32 × St)
  | 0, _, _, _ => none
  | fu + 1, vM, x2, x4 => (if x2 ≤ x4 then some (x2, vM) else (ldA 8 (vM 11) (x4 - (1 : Int32))).bind fun y2 => (ldA 8 (vM 9) y2).bind fun y3 => (ldA 9 (vM 10) (x2 - x4)).bind fun y4 => (X5_lowest (y3 &&& y4)).bind fun u5 => (stA 8 (vM 11) x4 u5).bind fun g6 => X5_rings_l40 p1 fu (setA vM 11 g6) x2 (x4 + (1 : Int32)))
def X5_rings_b30 (p1 : Int32) (vM : St) (x2 : Int32) (x3 : Int32) : Option (Int32 × St) := (stA 8 (vM 11) (0 : Int32) x3).bind fun g7 => X5_rings_l40 p1 FU (setA vM 11 g7) x2 (1 : Int32)
def X5_rings_l15 (p1 : Int32) (k7 : St → Int32 → Option (Int32 × St)) : Nat → St → Int32 → Int32 → Option (Int32 × St)
  | 0, _, _, _ => none
  | fu + 1, vM, x2, x3 => (if (8 : Int32) ≤ x3 then k7 vM (x2 + (1 : Int32)) else (X5_isBack vM x3 x2).bind fun u9 => (if u9.1 = (0 : Int32) then X5_rings_l15 p1 k7 fu u9.2 x2 (x3 + (1 : Int32)) else X5_rings_b30 p1 u9.2 x2 x3))
def X5_rings_l7 (p1 : Int32) : Nat → St → Int32 → Option (Int32 × St)
  | 0, _, _ => none
  | fu + 1, vM, x2 => (if (8 : Int32) < x2 then some ((0 : Int32), vM) else X5_rings_l15 p1 (X5_rings_l7 p1 fu) FU vM x2 (0 : Int32))
def X5_rings (vM : St) (p1 : Int32) : Option (Int32 × St) := (X5_looks vM p1).bind fun u12 => X5_rings_l7 p1 FU u12 (2 : Int32)
def X5_owed_l6 (vM : St) (p1 : Int32) (p2 : Int32) (p3 : Int32) : Nat → Int32 → Int32 → Option (Int32)
  | 0, _, _ => none
  | fu + 1, x4, x5 => (ldA 304 (vM 1) (290 : Int32)).bind fun y1 => (if y1 ≤ x5 then some x4 else (X5_of vM x5 (0 : Int32)).bind fun u3 => (if u3 = p1 then (X5_of vM x5 (1 : Int32)).bind fun u5 => (if u5 = p2 then (X5_of vM x5 (2 : Int32)).bind fun u7 => (if u7 = p3 then (X5_of vM x5 (3 : Int32)).bind fun u9 => X5_owed_l6 vM p1 p2 p3 fu (x4 + u9) (x5 + (1 : Int32)) else X5_owed_l6 vM p1 p2 p3 fu (x4 + (0 : Int32)) (x5 + (1 : Int32))) else X5_owed_l6 vM p1 p2 p3 fu (x4 + (0 : Int32)) (x5 + (1 : Int32))) else X5_owed_l6 vM p1 p2 p3 fu (x4 + (0 : Int32)) (x5 + (1 : Int32))))
def X5_owed (vM : St) (p1 : Int32) (p2 : Int32) (p3 : Int32) : Option (Int32) := X5_owed_l6 vM p1 p2 p3 FU (0 : Int32) (0 : Int32)
def X5_amountOf_l7 (vM : St) (p1 : Int32) (p2 : Int32) : Nat → Int32 → Int32 → Option (Int32)
  | 0, _, _ => none
  | fu + 1, x3, x4 => (if p1 ≤ x4 then some x3 else (ldA 8 (vM 11) x4).bind fun y2 => (remI (x4 + (1 : Int32)) p1).bind fun r3 => (ldA 8 (vM 11) r3).bind fun y4 => (X5_owed vM y2 y4 p2).bind fun u5 => (if x3 ≤ u5 then X5_amountOf_l7 vM p1 p2 fu x3 (x4 + (1 : Int32)) else X5_amountOf_l7 vM p1 p2 fu u5 (x4 + (1 : Int32))))
def X5_amountOf (vM : St) (p1 : Int32) (p2 : Int32) : Option (Int32) := X5_amountOf_l7 vM p1 p2 FU (1000 : Int32) (0 : Int32)
def X5_amount (vM : St) (p1 : Int32) : Option (Int32 × St) := (X5_isKind p1).bind fun u1 => (if u1 = (0 : Int32) then some ((-1000001 : Int32), vM) else (X5_rings vM p1).bind fun u3 => (if u3.1 ≤ (0 : Int32) then some ((-1000004 : Int32), u3.2) else (X5_amountOf u3.2 u3.1 p1).bind fun u5 => some (u5, u3.2)))
def X5_sumOf_l5 (vM : St) (p1 : Int32) (p2 : Int32) : Nat → Int32 → Int32 → Option (Int32)
  | 0, _, _ => none
  | fu + 1, x3, x4 => (ldA 304 (vM 1) (290 : Int32)).bind fun y1 => (if y1 ≤ x4 then some x3 else (X5_of vM x4 p2).bind fun u3 => (if u3 = p1 then (X5_of vM x4 (3 : Int32)).bind fun u5 => X5_sumOf_l5 vM p1 p2 fu (x3 + u5) (x4 + (1 : Int32)) else X5_sumOf_l5 vM p1 p2 fu (x3 + (0 : Int32)) (x4 + (1 : Int32))))
def X5_sumOf (vM : St) (p1 : Int32) (p2 : Int32) : Option (Int32) := X5_sumOf_l5 vM p1 p2 FU (0 : Int32) (0 : Int32)
def X5_balance (vM : St) (p1 : Int32) : Option (Int32) := (X5_sumOf vM p1 (1 : Int32)).bind fun u1 => (X5_sumOf vM p1 (0 : Int32)).bind fun u2 => some (u1 - u2)
def X5_barred (vM : St) (p1 : Int32) (p2 : Int32) : Option (Int32) := (X5_sumOf vM p1 (0 : Int32)).bind fun u1 => (ldA 304 (vM 1) (302 : Int32)).bind fun y2 => (if (u1 + p2) ≤ y2 then (X5_at p1 (1 : Int32)).bind fun u4 => (ldA 304 (vM 1) u4).bind fun y5 => (ldA 304 (vM 1) (303 : Int32)).bind fun y6 => (if y5 < y6 then some (0 : Int32) else (X5_at p1 (2 : Int32)).bind fun u8 => (ldA 304 (vM 1) u8).bind fun y9 => (if y9 = (0 : Int32) then some (2 : Int32) else some (0 : Int32))) else some (1 : Int32))
def X5_isPupil (vM : St) (p1 : Int32) : Option (Int32) := (ldA 304 (vM 1) (289 : Int32)).bind fun y1 => (X5_in p1 (0 : Int32) (y1 - (1 : Int32))).bind fun u2 => (zbI u2).bind fun b3 => some b3
def X5_isPair (vM : St) (p1 : Int32) (p2 : Int32) : Option (Int32) := (X5_isPupil vM p1).bind fun u1 => (if u1 = (0 : Int32) then some (0 : Int32) else (X5_isPupil vM p2).bind fun u3 => (if u3 = (0 : Int32) then some (0 : Int32) else (if p1 = p2 then some (0 : Int32) else some (1 : Int32))))
def X5_chain_b86 (p1 : Int32) (p2 : Int32) (p3 : Int32) (k32 : St → Int32 → Int32 → Option (Int32 × St)) (vM : St) (x5 : Int32) (x6 : Int32) : Option (Int32 × St) := (if ((x6 >>> (p2 &&& 31)) &&& (1 : Int32)) = (1 : Int32) then some (x5, vM) else k32 vM x6 (x5 + (1 : Int32)))
def X5_chain_l46 (p1 : Int32) (p2 : Int32) (p3 : Int32) (k32 : St → Int32 → Int32 → Option (Int32 × St)) : Nat → St → Int32 → Int32 → Int32 → Int32 → Option (Int32 × St)
  | 0, _, _, _, _, _ => none
  | fu + 1, vM, x4, x5, x6, x7 => (if (8 : Int32) ≤ x7 then X5_chain_b86 p1 p2 p3 k32 vM x5 x6 else (if ((x4 >>> (x7 &&& 31)) &&& (1 : Int32)) = (1 : Int32) then (ldA 8 (vM 9) x7).bind fun y4 => X5_chain_l46 p1 p2 p3 k32 fu vM x4 x5 (x6 ||| y4) (x7 + (1 : Int32)) else X5_chain_l46 p1 p2 p3 k32 fu vM x4 x5 (x6 ||| (0 : Int32)) (x7 + (1 : Int32))))
def X5_chain_l32 (p1 : Int32) (p2 : Int32) (p3 : Int32) : Nat → St → Int32 → Int32 → Option (Int32 × St)
  | 0, _, _, _ => none
  | fu + 1, vM, x4, x5 => (if (8 : Int32) ≤ x5 then some ((-1000004 : Int32), vM) else X5_chain_l46 p1 p2 p3 (X5_chain_l32 p1 p2 p3 fu) FU vM x4 x5 x4 (0 : Int32))
def X5_chain (vM : St) (p1 : Int32) (p2 : Int32) (p3 : Int32) : Option (Int32 × St) := (X5_isPair vM p1 p2).bind fun u6 => (if u6 = (0 : Int32) then some ((-1000001 : Int32), vM) else (X5_isKind p3).bind fun u8 => (if u8 = (0 : Int32) then some ((-1000001 : Int32), vM) else (X5_looks vM p3).bind fun u10 => X5_chain_l32 p1 p2 p3 FU u10 ((1 : Int32) <<< (p1 &&& 31)) (1 : Int32)))
def X5_changes_b93 (vM : St) : Option (St) := some (setI vM 4 ((vM 99 4) + (1 : Int32)))
def X5_changes_l59  : Nat → St → Int32 → Option (St)
  | 0, _, _ => none
  | fu + 1, vM, x1 => (if (304 : Int32) ≤ x1 then X5_changes_b93 vM else (ldA 304 (vM 1) x1).bind fun y2 => (stA 1216 (vM 2) (((304 : Int32) * (vM 99 4)) + x1) y2).bind fun g3 => X5_changes_l59 fu (setA vM 2 g3) (x1 + (1 : Int32)))
def X5_changes_b47 (vM : St) : Option (St) := X5_changes_l59 FU (setI vM 4 ((vM 99 4) - (1 : Int32))) (0 : Int32)
def X5_changes_l18  : Nat → St → Int32 → Option (St)
  | 0, _, _ => none
  | fu + 1, vM, x1 => (if (912 : Int32) ≤ x1 then X5_changes_b47 vM else (ldA 1216 (vM 2) (x1 + (304 : Int32))).bind fun y5 => (stA 1216 (vM 2) x1 y5).bind fun g6 => X5_changes_l18 fu (setA vM 2 g6) (x1 + (1 : Int32)))
def X5_changes (vM : St) : Option (St) := (if (vM 99 5) = (0 : Int32) then (if (vM 99 4) = (4 : Int32) then X5_changes_l18 FU vM (0 : Int32) else X5_changes_l59 FU vM (0 : Int32)) else some vM)
def X5_oldest_b68 (vM : St) (p1 : Int32) (p2 : Int32) (p3 : Int32) (k7 : Int32 → Int32 → Option (Int32)) (x4 : Int32) (x5 : Int32) (t0 : Int32) : Option (Int32) := (if t0 = (0 : Int32) then k7 x4 (x5 + (1 : Int32)) else (if x4 < (0 : Int32) then k7 x5 (x5 + (1 : Int32)) else (X5_of vM x5 (4 : Int32)).bind fun u3 => (X5_of vM x4 (4 : Int32)).bind fun u4 => (if u3 ≤ u4 then k7 x4 (x5 + (1 : Int32)) else k7 x5 (x5 + (1 : Int32)))))
def X5_oldest_b67 (vM : St) (p1 : Int32) (p2 : Int32) (p3 : Int32) (k7 : Int32 → Int32 → Option (Int32)) (x4 : Int32) (x5 : Int32) : Option (Int32) := X5_oldest_b68 vM p1 p2 p3 k7 x4 x5 (0 : Int32)
def X5_oldest_l7 (vM : St) (p1 : Int32) (p2 : Int32) (p3 : Int32) : Nat → Int32 → Int32 → Option (Int32)
  | 0, _, _ => none
  | fu + 1, x4, x5 => (ldA 304 (vM 1) (290 : Int32)).bind fun y6 => (if y6 ≤ x5 then some x4 else (X5_of vM x5 (0 : Int32)).bind fun u8 => (if u8 = p1 then (X5_of vM x5 (1 : Int32)).bind fun u10 => (if u10 = p2 then (X5_of vM x5 (2 : Int32)).bind fun u12 => (if u12 = p3 then (X5_of vM x5 (3 : Int32)).bind fun u14 => (if u14 ≤ (0 : Int32) then X5_oldest_b67 vM p1 p2 p3 (X5_oldest_l7 vM p1 p2 p3 fu) x4 x5 else X5_oldest_b68 vM p1 p2 p3 (X5_oldest_l7 vM p1 p2 p3 fu) x4 x5 (1 : Int32)) else X5_oldest_b67 vM p1 p2 p3 (X5_oldest_l7 vM p1 p2 p3 fu) x4 x5) else X5_oldest_b67 vM p1 p2 p3 (X5_oldest_l7 vM p1 p2 p3 fu) x4 x5) else X5_oldest_b67 vM p1 p2 p3 (X5_oldest_l7 vM p1 p2 p3 fu) x4 x5))
def X5_oldest (vM : St) (p1 : Int32) (p2 : Int32) (p3 : Int32) : Option (Int32) := X5_oldest_l7 vM p1 p2 p3 FU (-1000004 : Int32) (0 : Int32)
def X5_lay (vM : St) (p1 : Int32) (p2 : Int32) (p3 : Int32) : Option (St) := (stA 304 (vM 1) (((6 : Int32) * p1) + p2) p3).bind fun g1 => some (setA vM 1 g1)
def X5_dropsEmpty_l75  : Nat → St → Int32 → Int32 → Option (St)
  | 0, _, _, _ => none
  | fu + 1, vM, x1, x2 => (ldA 304 (vM 1) (290 : Int32)).bind fun y1 => (if ((6 : Int32) * y1) ≤ x2 then (stA 304 (vM 1) (290 : Int32) x1).bind fun g3 => some (setA vM 1 g3) else (stA 304 (vM 1) x2 (0 : Int32)).bind fun g4 => X5_dropsEmpty_l75 fu (setA vM 1 g4) x1 (x2 + (1 : Int32)))
def X5_dropsEmpty_l27 (k4 : St → Int32 → Int32 → Option (St)) : Nat → St → Int32 → Int32 → Int32 → Option (St)
  | 0, _, _, _, _ => none
  | fu + 1, vM, x1, x2, x3 => (if (6 : Int32) ≤ x3 then k4 vM (x1 + (1 : Int32)) (x2 + (1 : Int32)) else (ldA 304 (vM 1) (((6 : Int32) * x2) + x3)).bind fun y6 => (stA 304 (vM 1) (((6 : Int32) * x1) + x3) y6).bind fun g7 => X5_dropsEmpty_l27 k4 fu (setA vM 1 g7) x1 x2 (x3 + (1 : Int32)))
def X5_dropsEmpty_l4  : Nat → St → Int32 → Int32 → Option (St)
  | 0, _, _, _ => none
  | fu + 1, vM, x1, x2 => (ldA 304 (vM 1) (290 : Int32)).bind fun y8 => (if y8 ≤ x2 then X5_dropsEmpty_l75 FU vM x1 ((6 : Int32) * x1) else (X5_of vM x2 (3 : Int32)).bind fun u10 => (if u10 ≤ (0 : Int32) then X5_dropsEmpty_l4 fu vM x1 (x2 + (1 : Int32)) else X5_dropsEmpty_l27 (X5_dropsEmpty_l4 fu) FU vM x1 x2 (0 : Int32)))
def X5_dropsEmpty (vM : St) : Option (St) := X5_dropsEmpty_l4 FU vM (0 : Int32) (0 : Int32)
def X5_takes_b71 (p1 : Int32) (p2 : Int32) (p3 : Int32) (p4 : Int32) (vM : St) : Option (St) := (X5_dropsEmpty vM).bind fun u1 => some u1
def X5_takes_b42 (p1 : Int32) (p2 : Int32) (p3 : Int32) (p4 : Int32) (k4 : St → Int32 → Option (St)) (vM : St) (x5 : Int32) (x6 : Int32) (t0 : Int32) : Option (St) := (X5_of vM x6 (3 : Int32)).bind fun u2 => (X5_lay vM x6 (3 : Int32) (u2 - t0)).bind fun u3 => k4 u3 (x5 - t0)
def X5_takes_l4 (p1 : Int32) (p2 : Int32) (p3 : Int32) (p4 : Int32) : Nat → St → Int32 → Option (St)
  | 0, _, _ => none
  | fu + 1, vM, x5 => (if x5 ≤ (0 : Int32) then X5_takes_b71 p1 p2 p3 p4 vM else (X5_oldest vM p1 p2 p3).bind fun u5 => (X5_of vM u5 (3 : Int32)).bind fun u6 => (if x5 ≤ u6 then X5_takes_b42 p1 p2 p3 p4 (X5_takes_l4 p1 p2 p3 p4 fu) vM x5 u5 x5 else (X5_of vM u5 (3 : Int32)).bind fun u8 => X5_takes_b42 p1 p2 p3 p4 (X5_takes_l4 p1 p2 p3 p4 fu) vM x5 u5 u8))
def X5_takes (vM : St) (p1 : Int32) (p2 : Int32) (p3 : Int32) (p4 : Int32) : Option (St) := X5_takes_l4 p1 p2 p3 p4 FU vM p4
def X5_clears_b81 (p1 : Int32) (k8 : St → Int32 → Int32 → Option (Int32 × St)) (vM : St) (x2 : Int32) (x3 : Int32) (x4 : Int32) : Option (Int32 × St) := (ldA 304 (vM 1) (294 : Int32)).bind fun y1 => (stA 304 (vM 1) (294 : Int32) (y1 + (x3 * x4))).bind fun g2 => (ldA 304 g2 (296 : Int32)).bind fun y3 => (stA 304 g2 (296 : Int32) (y3 + (1 : Int32))).bind fun g4 => (X5_rings (setA vM 1 g4) p1).bind fun u5 => k8 u5.2 (x2 + (x3 * x4)) u5.1
def X5_clears_l23 (p1 : Int32) (k8 : St → Int32 → Int32 → Option (Int32 × St)) : Nat → St → Int32 → Int32 → Int32 → Int32 → Option (Int32 × St)
  | 0, _, _, _, _, _ => none
  | fu + 1, vM, x2, x3, x4, x5 => (if x3 ≤ x5 then X5_clears_b81 p1 k8 vM x2 x3 x4 else (ldA 8 (vM 11) x5).bind fun y7 => (remI (x5 + (1 : Int32)) x3).bind fun r8 => (ldA 8 (vM 11) r8).bind fun y9 => (X5_takes vM y7 y9 p1 x4).bind fun u10 => (ldA 8 (u10 11) x5).bind fun y11 => (X5_at y11 (4 : Int32)).bind fun u12 => (ldA 304 (u10 1) u12).bind fun y13 => (stA 304 (u10 1) u12 (y13 + x4)).bind fun g14 => X5_clears_l23 p1 k8 fu (setA u10 1 g14) x2 x3 x4 (x5 + (1 : Int32)))
def X5_clears_l8 (p1 : Int32) : Nat → St → Int32 → Int32 → Option (Int32 × St)
  | 0, _, _, _ => none
  | fu + 1, vM, x2, x3 => (if x3 ≤ (0 : Int32) then some (x2, vM) else (X5_amountOf vM x3 p1).bind fun u16 => X5_clears_l23 p1 (X5_clears_l8 p1 fu) FU vM x2 x3 u16 (0 : Int32))
def X5_clears (vM : St) (p1 : Int32) : Option (Int32 × St) := (X5_rings vM p1).bind fun u17 => X5_clears_l8 p1 FU u17.2 (0 : Int32) u17.1
def X5_clear (vM : St) (p1 : Int32) : Option (Int32 × St) := (X5_isKind p1).bind fun u1 => (if u1 = (0 : Int32) then some ((-1000001 : Int32), vM) else (X5_changes vM).bind fun u3 => (X5_clears u3 p1).bind fun u4 => some (u4.1, u4.2))
def X5_clearText (vM : St) : Option (Int32 × St) := some ((vM 99 7), (setI vM 7 (0 : Int32)))
def X5_copies_l2 (f1 : Nat → Int32) (n1 : Nat) (n2 : Nat) : Nat → (Nat → Int32) → Int32 → Option ((Nat → Int32))
  | 0, _, _ => none
  | fu + 1, f2, x2 => (if (304 : Int32) ≤ x2 then some f2 else (ldA n1 f1 x2).bind fun y2 => (stA n2 f2 x2 y2).bind fun g3 => X5_copies_l2 f1 n1 n2 fu g3 (x2 + (1 : Int32)))
def X5_copies (f1 : Nat → Int32) (f2 : Nat → Int32) (n1 : Nat) (n2 : Nat) : Option ((Nat → Int32)) := X5_copies_l2 f1 n1 n2 FU f2 (0 : Int32)
def X5_owedInAll_l4 (vM : St) : Nat → Int32 → Int32 → Option (Int32)
  | 0, _, _ => none
  | fu + 1, x1, x2 => (ldA 304 (vM 1) (290 : Int32)).bind fun y1 => (if y1 ≤ x2 then some x1 else (X5_of vM x2 (3 : Int32)).bind fun u3 => X5_owedInAll_l4 vM fu (x1 + u3) (x2 + (1 : Int32)))
def X5_owedInAll (vM : St) : Option (Int32) := X5_owedInAll_l4 vM FU (0 : Int32) (0 : Int32)
def X5_count (vM : St) (p1 : Int32) : Option (Int32) := (if p1 = (0 : Int32) then (ldA 304 (vM 1) ((288 : Int32) + p1)).bind fun y2 => some y2 else (if p1 = (1 : Int32) then (ldA 304 (vM 1) ((288 : Int32) + p1)).bind fun y4 => some y4 else (if p1 = (2 : Int32) then (ldA 304 (vM 1) ((288 : Int32) + p1)).bind fun y6 => some y6 else (if p1 = (3 : Int32) then (X5_owedInAll vM).bind fun u8 => some u8 else (if p1 = (4 : Int32) then (ldA 304 (vM 1) (((291 : Int32) + p1) - (4 : Int32))).bind fun y10 => some y10 else (if p1 = (5 : Int32) then (ldA 304 (vM 1) (((291 : Int32) + p1) - (4 : Int32))).bind fun y12 => some y12 else (if p1 = (6 : Int32) then (ldA 304 (vM 1) (((291 : Int32) + p1) - (4 : Int32))).bind fun y14 => some y14 else (if p1 = (7 : Int32) then (ldA 304 (vM 1) (((291 : Int32) + p1) - (4 : Int32))).bind fun y16 => some y16 else (if p1 = (8 : Int32) then (ldA 304 (vM 1) (((291 : Int32) + p1) - (4 : Int32))).bind fun y18 => some y18 else (if p1 = (9 : Int32) then (ldA 304 (vM 1) (((291 : Int32) + p1) - (4 : Int32))).bind fun y20 => some y20 else (if p1 = (10 : Int32) then (ldA 304 (vM 1) (((291 : Int32) + p1) - (4 : Int32))).bind fun y22 => some y22 else (if p1 = (11 : Int32) then (X5_alone vM).bind fun u24 => some u24 else (if p1 = (12 : Int32) then some (vM 99 4) else (if p1 = (13 : Int32) then some (vM 99 7) else (if p1 = (14 : Int32) then some (-1000001 : Int32) else (if p1 = (15 : Int32) then some (-1000001 : Int32) else (if p1 = (16 : Int32) then some (-1000001 : Int32) else (if p1 = (17 : Int32) then some (-1000001 : Int32) else (if p1 = (18 : Int32) then some (-1000001 : Int32) else (if p1 = (19 : Int32) then some (-1000001 : Int32) else (if p1 = (20 : Int32) then (ldA 304 (vM 1) (((298 : Int32) + p1) - (20 : Int32))).bind fun y34 => some y34 else (if p1 = (21 : Int32) then (ldA 304 (vM 1) (((298 : Int32) + p1) - (20 : Int32))).bind fun y36 => some y36 else (if p1 = (22 : Int32) then (ldA 304 (vM 1) (((298 : Int32) + p1) - (20 : Int32))).bind fun y38 => some y38 else (if p1 = (23 : Int32) then (ldA 304 (vM 1) (((298 : Int32) + p1) - (20 : Int32))).bind fun y40 => some y40 else (if p1 = (24 : Int32) then (ldA 304 (vM 1) (((298 : Int32) + p1) - (20 : Int32))).bind fun y42 => some y42 else (if p1 = (25 : Int32) then (ldA 304 (vM 1) (((298 : Int32) + p1) - (20 : Int32))).bind fun y44 => some y44 else some (-1000001 : Int32)))))))))))))))))))))))))))
def X5_deepest_b107 (vM : St) (p1 : Int32) (k18 : Int32 → Int32 → Int32 → Option (Int32)) (x3 : Int32) (x4 : Int32) (x5 : Int32) (t0 : Int32) : Option (Int32) := (if x5 ≤ x3 then k18 t0 x3 (x4 + (1 : Int32)) else k18 t0 x5 (x4 + (1 : Int32)))
def X5_deepest_b95 (vM : St) (p1 : Int32) (k18 : Int32 → Int32 → Int32 → Option (Int32)) (x2 : Int32) (x3 : Int32) (x4 : Int32) (x5 : Int32) : Option (Int32) := (if x5 ≤ x3 then X5_deepest_b107 vM p1 k18 x3 x4 x5 x2 else X5_deepest_b107 vM p1 k18 x3 x4 x5 x4)
def X5_deepest_l37 (vM : St) (p1 : Int32) (k18 : Int32 → Int32 → Int32 → Option (Int32)) : Nat → Int32 → Int32 → Int32 → Int32 → Int32 → Option (Int32)
  | 0, _, _, _, _, _ => none
  | fu + 1, x2, x3, x4, x5, x6 => (ldA 304 (vM 1) (290 : Int32)).bind fun y3 => (if y3 ≤ x6 then X5_deepest_b95 vM p1 k18 x2 x3 x4 x5 else (X5_of vM x6 (0 : Int32)).bind fun u5 => (if u5 = x4 then (X5_of vM x6 (2 : Int32)).bind fun u7 => (if u7 = p1 then (X5_of vM x6 (3 : Int32)).bind fun u9 => X5_deepest_l37 vM p1 k18 fu x2 x3 x4 (x5 + u9) (x6 + (1 : Int32)) else X5_deepest_l37 vM p1 k18 fu x2 x3 x4 (x5 + (0 : Int32)) (x6 + (1 : Int32))) else X5_deepest_l37 vM p1 k18 fu x2 x3 x4 (x5 + (0 : Int32)) (x6 + (1 : Int32))))
def X5_deepest_l18 (vM : St) (p1 : Int32) : Nat → Int32 → Int32 → Int32 → Option (Int32)
  | 0, _, _, _ => none
  | fu + 1, x2, x3, x4 => (ldA 304 (vM 1) (289 : Int32)).bind fun y10 => (if y10 ≤ x4 then some x2 else X5_deepest_l37 vM p1 (X5_deepest_l18 vM p1 fu) FU x2 x3 x4 (0 : Int32) (0 : Int32))
def X5_deepest (vM : St) (p1 : Int32) : Option (Int32) := (X5_isKind p1).bind fun u12 => (if u12 = (0 : Int32) then some (-1000001 : Int32) else X5_deepest_l18 vM p1 FU (-1000004 : Int32) (0 : Int32) (0 : Int32))
def X5_shifts (vM : St) (p1 : Int32) (p2 : Int32) (p3 : Int32) : Option (St) := (X5_at p1 (5 : Int32)).bind fun u1 => (ldA 304 (vM 1) u1).bind fun y2 => (stA 304 (vM 1) u1 (y2 + p3)).bind fun g3 => (X5_at p2 (5 : Int32)).bind fun u4 => (ldA 304 g3 u4).bind fun y5 => (stA 304 g3 u4 (y5 - p3)).bind fun g6 => some (setA vM 1 g6)
def X5_lend (vM : St) (p1 : Int32) (p2 : Int32) (p3 : Int32) (p4 : Int32) : Option (Int32 × St) := (X5_isPair vM p1 p2).bind fun u1 => (if u1 = (0 : Int32) then some ((-1000001 : Int32), vM) else (X5_isKind p3).bind fun u3 => (if u3 = (0 : Int32) then some ((-1000001 : Int32), vM) else (X5_in p4 (1 : Int32) (9 : Int32)).bind fun u5 => (if u5 = (0 : Int32) then some ((-1000001 : Int32), vM) else (X5_barred vM p1 p4).bind fun u7 => (if u7 ≤ (0 : Int32) then (ldA 304 (vM 1) (290 : Int32)).bind fun y9 => (if y9 = (40 : Int32) then some ((-1000003 : Int32), vM) else (X5_changes vM).bind fun u11 => (ldA 304 (u11 1) (290 : Int32)).bind fun y12 => (ldA 304 (u11 1) (290 : Int32)).bind fun y13 => (stA 304 (u11 1) (290 : Int32) (y13 + (1 : Int32))).bind fun g14 => (X5_lay (setA u11 1 g14) y12 (0 : Int32) p1).bind fun u15 => (X5_lay u15 y12 (1 : Int32) p2).bind fun u16 => (X5_lay u16 y12 (2 : Int32) p3).bind fun u17 => (X5_lay u17 y12 (3 : Int32) p4).bind fun u18 => (X5_lay u18 y12 (4 : Int32) (0 : Int32)).bind fun u19 => (X5_lay u19 y12 (5 : Int32) (0 : Int32)).bind fun u20 => (ldA 304 (u20 1) (291 : Int32)).bind fun y21 => (stA 304 (u20 1) (291 : Int32) (y21 + p4)).bind fun g22 => (X5_shifts (setA u20 1 g22) p2 p1 p4).bind fun u23 => (X5_owed u23 p1 p2 p3).bind fun u24 => some (u24, u23)) else some ((-1000002 : Int32), vM)))))
def X5_fulfil (vM : St) (p1 : Int32) (p2 : Int32) (p3 : Int32) (p4 : Int32) : Option (Int32 × St) := (X5_isPair vM p1 p2).bind fun u1 => (if u1 = (0 : Int32) then some ((-1000001 : Int32), vM) else (X5_isKind p3).bind fun u3 => (if u3 = (0 : Int32) then some ((-1000001 : Int32), vM) else (X5_in p4 (1 : Int32) (9 : Int32)).bind fun u5 => (if u5 = (0 : Int32) then some ((-1000001 : Int32), vM) else (X5_owed vM p1 p2 p3).bind fun u7 => (if p4 ≤ u7 then (X5_changes vM).bind fun u9 => (X5_takes u9 p1 p2 p3 p4).bind fun u10 => (X5_at p1 (0 : Int32)).bind fun u11 => (ldA 304 (u10 1) u11).bind fun y12 => (stA 304 (u10 1) u11 (y12 + p4)).bind fun g13 => (ldA 304 g13 (292 : Int32)).bind fun y14 => (stA 304 g13 (292 : Int32) (y14 + p4)).bind fun g15 => (X5_shifts (setA u10 1 g15) p1 p2 p4).bind fun u16 => (X5_owed u16 p1 p2 p3).bind fun u17 => some (u17, u16) else some ((-1000002 : Int32), vM)))))
def X5_guarantee_b21 (p1 : Int32) (p2 : Int32) (vM : St) : Option (Int32 × St) := (if p1 = p2 then some ((-1000001 : Int32), vM) else (X5_changes vM).bind fun u2 => (X5_at p1 (2 : Int32)).bind fun u3 => (ldA 304 (u2 1) u3).bind fun y4 => (X5_at p1 (2 : Int32)).bind fun u5 => (stA 304 (u2 1) u5 (p2 + (1 : Int32))).bind fun g6 => some (y4, (setA u2 1 g6)))
def X5_guarantee (vM : St) (p1 : Int32) (p2 : Int32) : Option (Int32 × St) := (X5_isPupil vM p1).bind fun u7 => (if u7 = (0 : Int32) then some ((-1000001 : Int32), vM) else (if p2 = (-1 : Int32) then X5_guarantee_b21 p1 p2 vM else (X5_isPupil vM p2).bind fun u10 => (if u10 = (0 : Int32) then some ((-1000001 : Int32), vM) else X5_guarantee_b21 p1 p2 vM)))
def X5_ends_b112 (p1 : Int32) (vM : St) (x2 : Int32) (x3 : Int32) : Option (Int32 × St) := (X5_at x2 (1 : Int32)).bind fun u1 => (ldA 304 (vM 1) u1).bind fun y2 => (stA 304 (vM 1) u1 (y2 + x3)).bind fun g3 => (ldA 304 g3 (293 : Int32)).bind fun y4 => (stA 304 g3 (293 : Int32) (y4 + x3)).bind fun g5 => (X5_of (setA vM 1 g5) p1 (1 : Int32)).bind fun u6 => (X5_shifts (setA vM 1 g5) x2 u6 x3).bind fun u7 => (X5_lay u7 p1 (3 : Int32) (0 : Int32)).bind fun u8 => some (x3, u8)
def X5_ends (vM : St) (p1 : Int32) : Option (Int32 × St) := (X5_of vM p1 (0 : Int32)).bind fun u9 => (X5_of vM p1 (3 : Int32)).bind fun u10 => (X5_at u9 (2 : Int32)).bind fun u11 => (ldA 304 (vM 1) u11).bind fun y12 => (if (y12 - (1 : Int32)) < (0 : Int32) then X5_ends_b112 p1 vM u9 u10 else (X5_of vM p1 (1 : Int32)).bind fun u14 => (if (y12 - (1 : Int32)) = u14 then X5_ends_b112 p1 vM u9 u10 else (X5_of vM p1 (5 : Int32)).bind fun u16 => (if u16 = (0 : Int32) then (X5_lay vM p1 (0 : Int32) (y12 - (1 : Int32))).bind fun u18 => (X5_lay u18 p1 (4 : Int32) (0 : Int32)).bind fun u19 => (X5_lay u19 p1 (5 : Int32) (1 : Int32)).bind fun u20 => (X5_at (y12 - (1 : Int32)) (3 : Int32)).bind fun u21 => (ldA 304 (u20 1) u21).bind fun y22 => (stA 304 (u20 1) u21 (y22 + u10)).bind fun g23 => (ldA 304 g23 (295 : Int32)).bind fun y24 => (stA 304 g23 (295 : Int32) (y24 + u10)).bind fun g25 => (X5_shifts (setA u20 1 g25) u9 (y12 - (1 : Int32)) u10).bind fun u26 => some ((0 : Int32), u26) else X5_ends_b112 p1 vM u9 u10)))
def X5_week_b118 (vM : St) (x1 : Int32) : Option (Int32 × St) := (X5_dropsEmpty vM).bind fun u1 => some (x1, u1)
def X5_week_l64  : Nat → St → Int32 → Int32 → Option (Int32 × St)
  | 0, _, _, _ => none
  | fu + 1, vM, x1, x2 => (ldA 304 (vM 1) (290 : Int32)).bind fun y2 => (if y2 ≤ x2 then X5_week_b118 vM x1 else (X5_of vM x2 (4 : Int32)).bind fun u4 => (X5_of vM x2 (2 : Int32)).bind fun u5 => (ldA 304 (vM 1) ((298 : Int32) + u5)).bind fun y6 => (if u4 < y6 then X5_week_l64 fu vM (x1 + (0 : Int32)) (x2 + (1 : Int32)) else (X5_ends vM x2).bind fun u8 => X5_week_l64 fu u8.2 (x1 + u8.1) (x2 + (1 : Int32))))
def X5_week_l30  : Nat → St → Int32 → Int32 → Option (Int32 × St)
  | 0, _, _, _ => none
  | fu + 1, vM, x1, x2 => (ldA 304 (vM 1) (290 : Int32)).bind fun y9 => (if y9 ≤ x2 then X5_week_l64 FU vM x1 (0 : Int32) else (X5_of vM x2 (4 : Int32)).bind fun u11 => (X5_lay vM x2 (4 : Int32) (u11 + (1 : Int32))).bind fun u12 => X5_week_l30 fu u12 x1 (x2 + (1 : Int32)))
def X5_week (vM : St) : Option (Int32 × St) := (ldA 304 (vM 1) (288 : Int32)).bind fun y13 => (stA 304 (vM 1) (288 : Int32) (y13 + (1 : Int32))).bind fun g14 => (ldA 304 g14 (297 : Int32)).bind fun y15 => (if y15 = (1 : Int32) then some ((0 : Int32), (setA vM 1 g14)) else X5_week_l30 FU (setA vM 1 g14) (0 : Int32) (0 : Int32))
def X5_weeks_l40 (p1 : Int32) : Nat → St → Int32 → Int32 → Option (Int32 × St)
  | 0, _, _, _ => none
  | fu + 1, vM, x2, x3 => (if p1 ≤ x3 then some (x2, vM) else (X5_week vM).bind fun u2 => X5_weeks_l40 p1 fu u2.2 (x2 + u2.1) (x3 + (1 : Int32)))
def X5_weeks (vM : St) (p1 : Int32) : Option (Int32 × St) := (X5_in p1 (1 : Int32) (20 : Int32)).bind fun u3 => (if u3 = (0 : Int32) then some ((-1000001 : Int32), vM) else (ldA 304 (vM 1) (288 : Int32)).bind fun y5 => (if (y5 + p1) ≤ (999 : Int32) then (X5_changes vM).bind fun u7 => X5_weeks_l40 p1 FU u7 (0 : Int32) (0 : Int32) else some ((-1000003 : Int32), vM)))
def X5_holiday (vM : St) (p1 : Int32) : Option (Int32 × St) := (X5_changes vM).bind fun u1 => (ldA 304 (u1 1) (297 : Int32)).bind fun y2 => (if p1 = (0 : Int32) then (stA 304 (u1 1) (297 : Int32) (0 : Int32)).bind fun g4 => some (y2, (setA u1 1 g4)) else (stA 304 (u1 1) (297 : Int32) (1 : Int32)).bind fun g5 => some (y2, (setA u1 1 g5)))
def X5_does_b170 (vM : St) (t1 : Int32) : Option (Int32 × St) := (X5_holiday vM t1).bind fun u1 => some (u1.1, u1.2)
def X5_does (vM : St) : Option (Int32 × St) := (if (vM 99 16) = (99 : Int32) then (ldA 4 (vM 18) (0 : Int32)).bind fun y3 => (X5_clear vM y3).bind fun u4 => some (u4.1, u4.2) else (if (vM 99 16) = (100 : Int32) then (ldA 4 (vM 18) (0 : Int32)).bind fun y6 => (ldA 4 (vM 18) (1 : Int32)).bind fun y7 => (ldA 4 (vM 18) (2 : Int32)).bind fun y8 => (ldA 4 (vM 18) (3 : Int32)).bind fun y9 => (X5_fulfil vM y6 y7 y8 y9).bind fun u10 => some (u10.1, u10.2) else (if (vM 99 16) = (103 : Int32) then (ldA 4 (vM 18) (0 : Int32)).bind fun y12 => (ldA 4 (vM 18) (1 : Int32)).bind fun y13 => (X5_guarantee vM y12 y13).bind fun u14 => some (u14.1, u14.2) else (if (vM 99 16) = (111 : Int32) then (ldA 4 (vM 18) (0 : Int32)).bind fun y16 => (ldA 4 (vM 18) (1 : Int32)).bind fun y17 => (ldA 4 (vM 18) (2 : Int32)).bind fun y18 => (ldA 4 (vM 18) (3 : Int32)).bind fun y19 => (X5_lend vM y16 y17 y18 y19).bind fun u20 => some (u20.1, u20.2) else (if (vM 99 16) = (119 : Int32) then (ldA 4 (vM 18) (0 : Int32)).bind fun y22 => (X5_weeks vM y22).bind fun u23 => some (u23.1, u23.2) else (ldA 304 (vM 1) (297 : Int32)).bind fun y24 => (if y24 = (0 : Int32) then X5_does_b170 vM (1 : Int32) else X5_does_b170 vM (0 : Int32)))))))
def X5_isAt (vM : St) (p1 : Int32) (p2 : Int32) : Option (Int32) := (if (vM 99 7) ≤ (vM 99 11) then some (0 : Int32) else (ldA 60 (vM 7) (vM 99 11)).bind fun y2 => (X5_in y2 p1 p2).bind fun u3 => (if u3 = (0 : Int32) then some (0 : Int32) else some (1 : Int32)))
def X5_numbersOf (p0 : Int32) : Option (Int32) := (if p0 = (99 : Int32) then some (1 : Int32) else (if p0 = (100 : Int32) then some (4 : Int32) else (if p0 = (103 : Int32) then some (2 : Int32) else (if p0 = (104 : Int32) then some (0 : Int32) else (if p0 = (111 : Int32) then some (4 : Int32) else (if p0 = (119 : Int32) then some (1 : Int32) else some (-1000004 : Int32)))))))
def X5_numbered_b74 (p1 : Int32) (vM : St) (x2 : Int32) : Option (Int32 × St) := (if (vM 99 11) ≤ x2 then some ((0 : Int32), vM) else some ((1 : Int32), vM))
def X5_numbered_l12 (p1 : Int32) : Nat → St → Int32 → Option (Int32 × St)
  | 0, _, _ => none
  | fu + 1, vM, x2 => (X5_isAt vM (48 : Int32) (57 : Int32)).bind fun u2 => (if u2 = (0 : Int32) then X5_numbered_b74 p1 vM x2 else (if (2 : Int32) ≤ ((vM 99 11) - x2) then X5_numbered_b74 p1 vM x2 else (ldA 4 (vM 18) p1).bind fun y5 => (ldA 60 (vM 7) (vM 99 11)).bind fun y6 => (stA 4 (vM 18) p1 ((((10 : Int32) * y5) + y6) - (48 : Int32))).bind fun g7 => X5_numbered_l12 p1 fu (setI (setA vM 18 g7) 11 ((vM 99 11) + (1 : Int32))) x2))
def X5_numbered (vM : St) (p1 : Int32) : Option (Int32 × St) := (stA 4 (vM 18) p1 (0 : Int32)).bind fun g8 => X5_numbered_l12 p1 FU (setA vM 18 g8) (vM 99 11)
def X5_sign (vM : St) (p1 : Int32) : Option (Int32 × St) := (X5_isAt vM p1 p1).bind fun u1 => (if u1 = (0 : Int32) then (zbI u1).bind fun b3 => some (b3, (setI vM 11 ((vM 99 11) + (0 : Int32)))) else (zbI u1).bind fun b4 => some (b4, (setI vM 11 ((vM 99 11) + (1 : Int32)))))
def X5_parses_b110 (vM : St) (x2 : Int32) : Option (Int32 × St) := (if x2 = (0 : Int32) then some ((0 : Int32), vM) else (X5_sign vM (59 : Int32)).bind fun u2 => (if u2.1 = (0 : Int32) then some ((0 : Int32), u2.2) else some ((1 : Int32), u2.2)))
def X5_parses_l72  : Nat → St → Int32 → Int32 → Int32 → Option (Int32 × St)
  | 0, _, _, _, _ => none
  | fu + 1, vM, x1, x2, x3 => (if x1 ≤ x3 then X5_parses_b110 vM x2 else (if x2 = (0 : Int32) then X5_parses_b110 vM x2 else (X5_sign vM (44 : Int32)).bind fun u6 => (if u6.1 = (0 : Int32) then X5_parses_l72 fu u6.2 x1 (0 : Int32) (x3 + (1 : Int32)) else (X5_numbered u6.2 x3).bind fun u8 => (if u8.1 = (0 : Int32) then X5_parses_l72 fu u8.2 x1 (0 : Int32) (x3 + (1 : Int32)) else X5_parses_l72 fu u8.2 x1 (1 : Int32) (x3 + (1 : Int32))))))
def X5_parses_b25 (vM : St) (t1 : Int32) : Option (Int32 × St) := (X5_numbersOf t1).bind fun u10 => (if (0 : Int32) ≤ u10 then (if u10 = (0 : Int32) then X5_parses_l72 FU (setI (setI vM 16 t1) 11 ((vM 99 11) + (1 : Int32))) u10 (1 : Int32) (1 : Int32) else (X5_numbered (setI (setI vM 16 t1) 11 ((vM 99 11) + (1 : Int32))) (0 : Int32)).bind fun u13 => (if u13.1 = (0 : Int32) then X5_parses_l72 FU u13.2 u10 (0 : Int32) (1 : Int32) else X5_parses_l72 FU u13.2 u10 (1 : Int32) (1 : Int32))) else some ((0 : Int32), (setI vM 16 t1)))
def X5_parses (vM : St) : Option (Int32 × St) := (X5_isAt vM (33 : Int32) (126 : Int32)).bind fun u15 => (if u15 = (0 : Int32) then X5_parses_b25 vM (0 : Int32) else (ldA 60 (vM 7) (vM 99 11)).bind fun y17 => X5_parses_b25 vM y17)
def X5_plays_b108 (k22 : St → Int32 → Option (Int32 × St)) (vM : St) (x1 : Int32) (t1 : Int32) : Option (Int32 × St) := k22 (setI (setI vM 14 t1) 15 ((vM 99 15) + (1 : Int32))) x1
def X5_plays_b87 (k22 : St → Int32 → Option (Int32 × St)) (vM : St) (x1 : Int32) (x2 : Int32) (x3 : Int32) (t1 : Int32) : Option (Int32 × St) := (if x2 = (0 : Int32) then X5_plays_b108 k22 (setI vM 13 t1) x1 ((vM 99 11) - (vM 99 12)) else X5_plays_b108 k22 (setI vM 13 t1) x1 x3)
def X5_plays_b76 (k22 : St → Int32 → Option (Int32 × St)) (vM : St) (x2 : Int32) (x3 : Int32) (t0 : Int32) : Option (Int32 × St) := (if x2 = (0 : Int32) then X5_plays_b87 k22 vM t0 x2 x3 (1 : Int32) else X5_plays_b87 k22 vM t0 x2 x3 (2 : Int32))
def X5_plays_b75 (k22 : St → Int32 → Option (Int32 × St)) (vM : St) (x2 : Int32) (x3 : Int32) : Option (Int32 × St) := X5_plays_b76 k22 vM x2 x3 (0 : Int32)
def X5_plays_b62 (k22 : St → Int32 → Option (Int32 × St)) (vM : St) (x2 : Int32) (t0 : Int32) : Option (Int32 × St) := (if x2 = (0 : Int32) then X5_plays_b75 k22 vM x2 t0 else (if t0 < (0 : Int32) then X5_plays_b75 k22 vM x2 t0 else X5_plays_b76 k22 vM x2 t0 (1 : Int32)))
def X5_plays_l22  : Nat → St → Int32 → Option (Int32 × St)
  | 0, _, _ => none
  | fu + 1, vM, x1 => (if (vM 99 7) ≤ (vM 99 11) then (zbI x1).bind fun b6 => some (b6, (setI vM 5 (0 : Int32))) else (if x1 = (0 : Int32) then (zbI x1).bind fun b8 => some (b8, (setI vM 5 (0 : Int32))) else (X5_parses (setI vM 12 (vM 99 11))).bind fun u9 => (if u9.1 = (0 : Int32) then X5_plays_b62 (X5_plays_l22 fu) u9.2 u9.1 (0 : Int32) else (X5_does u9.2).bind fun u11 => X5_plays_b62 (X5_plays_l22 fu) u11.2 u9.1 u11.1)))
def X5_plays (vM : St) : Option (Int32 × St) := X5_plays_l22 FU (setI (setI (setI (setI vM 5 (1 : Int32)) 11 (0 : Int32)) 12 (0 : Int32)) 15 (0 : Int32)) (1 : Int32)
def X5_fault (vM : St) (p1 : Int32) : Option (Int32 × St) := (X5_in p1 (0 : Int32) (2 : Int32)).bind fun u1 => (if u1 = (0 : Int32) then some ((-1000001 : Int32), vM) else (X5_copies (vM 1) (vM 3) 304 304).bind fun u3 => (X5_plays (setA vM 3 u3)).bind fun u4 => (X5_copies (u4.2 3) (u4.2 1) 304 304).bind fun u5 => (if u4.1 = (0 : Int32) then (if p1 = (0 : Int32) then some ((u4.2 99 12), (setA u4.2 1 u5)) else (if p1 = (1 : Int32) then some ((u4.2 99 13), (setA u4.2 1 u5)) else some ((u4.2 99 14), (setA u4.2 1 u5)))) else some ((-1000004 : Int32), (setA u4.2 1 u5))))
def X5_ifCleared_b77 (p1 : Int32) (p2 : Int32) (vM : St) (t0 : Int32) : Option (Int32 × St) := (X5_copies (vM 4) (vM 1) 304 304).bind fun u1 => some (t0, (setA vM 1 u1))
def X5_ifCleared (vM : St) (p1 : Int32) (p2 : Int32) : Option (Int32 × St) := (X5_isKind p1).bind fun u2 => (if u2 = (0 : Int32) then some ((-1000001 : Int32), vM) else (X5_in p2 (0 : Int32) (2 : Int32)).bind fun u4 => (if u4 = (0 : Int32) then some ((-1000001 : Int32), vM) else (X5_copies (vM 1) (vM 4) 304 304).bind fun u6 => (X5_clears (setA vM 4 u6) p1).bind fun u7 => (if p2 = (0 : Int32) then X5_ifCleared_b77 p1 p2 u7.2 u7.1 else (if p2 = (1 : Int32) then (ldA 304 (u7.2 1) (296 : Int32)).bind fun y11 => (ldA 304 (u7.2 4) (296 : Int32)).bind fun y12 => X5_ifCleared_b77 p1 p2 u7.2 (y11 - y12) else (ldA 304 (u7.2 1) (290 : Int32)).bind fun y10 => X5_ifCleared_b77 p1 p2 u7.2 y10))))
def X5_lot (vM : St) (p1 : Int32) (p2 : Int32) : Option (Int32) := (if p1 < (0 : Int32) then some (-1000001 : Int32) else (X5_in p2 (0 : Int32) (5 : Int32)).bind fun u2 => (if u2 = (0 : Int32) then some (-1000001 : Int32) else (ldA 304 (vM 1) (290 : Int32)).bind fun y4 => (if y4 ≤ p1 then some (-1000004 : Int32) else (X5_of vM p1 p2).bind fun u6 => some u6)))
def X5_owes (vM : St) (p1 : Int32) (p2 : Int32) (p3 : Int32) : Option (Int32) := (X5_isPupil vM p1).bind fun u1 => (if u1 = (0 : Int32) then some (-1000001 : Int32) else (X5_isPupil vM p2).bind fun u3 => (if u3 = (0 : Int32) then some (-1000001 : Int32) else (X5_isKind p3).bind fun u5 => (if u5 = (0 : Int32) then some (-1000001 : Int32) else (X5_owed vM p1 p2 p3).bind fun u7 => some u7)))
def X5_play (vM : St) : Option (Int32 × St) := (X5_copies (vM 1) (vM 3) 304 304).bind fun u1 => (X5_plays (setA vM 3 u1)).bind fun u2 => (X5_copies (u2.2 3) (u2.2 1) 304 304).bind fun u3 => (if u2.1 = (0 : Int32) then some ((-1000002 : Int32), (setA u2.2 1 u3)) else (X5_changes (setA u2.2 1 u3)).bind fun u5 => (X5_plays u5).bind fun u6 => (if u6.1 = (0 : Int32) then some ((-1000004 : Int32), u6.2) else some ((u6.2 99 15), u6.2)))
def X5_pupil (vM : St) : Option (Int32 × St) := (ldA 304 (vM 1) (289 : Int32)).bind fun y1 => (if y1 = (8 : Int32) then some ((-1000003 : Int32), vM) else (X5_changes vM).bind fun u3 => (ldA 304 (u3 1) (289 : Int32)).bind fun y4 => (stA 304 (u3 1) (289 : Int32) (y4 + (1 : Int32))).bind fun g5 => (ldA 304 g5 (289 : Int32)).bind fun y6 => some ((y6 - (1 : Int32)), (setA u3 1 g5)))
def X5_pupilOf (vM : St) (p1 : Int32) (p2 : Int32) : Option (Int32) := (X5_isPupil vM p1).bind fun u1 => (if u1 = (0 : Int32) then some (-1000001 : Int32) else (X5_in p2 (0 : Int32) (8 : Int32)).bind fun u3 => (if u3 = (0 : Int32) then some (-1000001 : Int32) else (if p2 = (0 : Int32) then (X5_sumOf vM p1 (0 : Int32)).bind fun u6 => some u6 else (if p2 = (1 : Int32) then (X5_sumOf vM p1 (1 : Int32)).bind fun u8 => some u8 else (if p2 = (2 : Int32) then (X5_balance vM p1).bind fun u10 => some ((1000 : Int32) + u10) else (if p2 = (3 : Int32) then (X5_at p1 (5 : Int32)).bind fun u12 => (ldA 304 (vM 1) u12).bind fun y13 => some ((1000 : Int32) + y13) else (if p2 = (4 : Int32) then (X5_at p1 (p2 - (4 : Int32))).bind fun u15 => (ldA 304 (vM 1) u15).bind fun y16 => some y16 else (if p2 = (5 : Int32) then (X5_at p1 (p2 - (4 : Int32))).bind fun u18 => (ldA 304 (vM 1) u18).bind fun y19 => some y19 else (if p2 = (6 : Int32) then (X5_at p1 (2 : Int32)).bind fun u21 => (ldA 304 (vM 1) u21).bind fun y22 => (if y22 ≤ (0 : Int32) then some (-1000004 : Int32) else (X5_at p1 (2 : Int32)).bind fun u24 => (ldA 304 (vM 1) u24).bind fun y25 => some (y25 - (1 : Int32))) else (X5_at p1 (p2 - (4 : Int32))).bind fun u26 => (ldA 304 (vM 1) u26).bind fun y27 => some y27)))))))))
def X5_richest_b83 (vM : St) (p1 : Int32) (k9 : Int32 → Option (Int32)) (x2 : Int32) (x3 : Int32) : Option (Int32) := (if x3 = p1 then some x2 else k9 (x2 + (1 : Int32)))
def X5_richest_b70 (vM : St) (p1 : Int32) (k9 : Int32 → Option (Int32)) (k26 : Int32 → Int32 → Int32 → Option (Int32)) (x2 : Int32) (x4 : Int32) (t0 : Int32) : Option (Int32) := k26 x2 (t0 + (1 : Int32)) (x4 + (1 : Int32))
def X5_richest_l26 (vM : St) (p1 : Int32) (k9 : Int32 → Option (Int32)) : Nat → Int32 → Int32 → Int32 → Option (Int32)
  | 0, _, _, _ => none
  | fu + 1, x2, x3, x4 => (ldA 304 (vM 1) (289 : Int32)).bind fun y2 => (if y2 ≤ x4 then X5_richest_b83 vM p1 k9 x2 x3 else (X5_balance vM x4).bind fun u4 => (X5_balance vM x2).bind fun u5 => (if (0 : Int32) < (u4 - u5) then X5_richest_b70 vM p1 k9 (X5_richest_l26 vM p1 k9 fu) x2 x4 x3 else (if (u4 - u5) = (0 : Int32) then (if x2 ≤ x4 then X5_richest_l26 vM p1 k9 fu x2 (x3 + (0 : Int32)) (x4 + (1 : Int32)) else X5_richest_b70 vM p1 k9 (X5_richest_l26 vM p1 k9 fu) x2 x4 x3) else X5_richest_l26 vM p1 k9 fu x2 (x3 + (0 : Int32)) (x4 + (1 : Int32)))))
def X5_richest_l9 (vM : St) (p1 : Int32) : Nat → Int32 → Option (Int32)
  | 0, _ => none
  | fu + 1, x2 => (ldA 304 (vM 1) (289 : Int32)).bind fun y9 => (if y9 ≤ x2 then some (-1000004 : Int32) else X5_richest_l26 vM p1 (X5_richest_l9 vM p1 fu) FU x2 (0 : Int32) (0 : Int32))
def X5_richest (vM : St) (p1 : Int32) : Option (Int32) := (if (0 : Int32) ≤ p1 then X5_richest_l9 vM p1 FU (0 : Int32) else some (-1000001 : Int32))
def X5_ring (vM : St) (p1 : Int32) (p2 : Int32) : Option (Int32 × St) := (X5_isKind p1).bind fun u1 => (if u1 = (0 : Int32) then some ((-1000001 : Int32), vM) else (if (0 : Int32) ≤ p2 then (X5_rings vM p1).bind fun u4 => (if u4.1 ≤ p2 then some ((-1000004 : Int32), u4.2) else (ldA 8 (u4.2 11) p2).bind fun y6 => some (y6, u4.2)) else some ((-1000001 : Int32), vM)))
def X5_set_b23 (p1 : Int32) (p2 : Int32) (vM : St) (t0 : Int32) (t1 : Int32) (t2 : Int32) : Option (Int32 × St) := (X5_in t0 t1 t2).bind fun u1 => (if u1 = (0 : Int32) then some ((-1000001 : Int32), vM) else (X5_changes vM).bind fun u3 => (ldA 304 (u3 1) ((298 : Int32) + p1)).bind fun y4 => (stA 304 (u3 1) ((298 : Int32) + p1) p2).bind fun g5 => some (y4, (setA u3 1 g5)))
def X5_set (vM : St) (p1 : Int32) (p2 : Int32) : Option (Int32 × St) := (X5_in p1 (0 : Int32) (5 : Int32)).bind fun u6 => (if u6 = (0 : Int32) then some ((-1000001 : Int32), vM) else (if p1 = (4 : Int32) then X5_set_b23 p1 p2 vM p2 (1 : Int32) (99 : Int32) else X5_set_b23 p1 p2 vM p2 (1 : Int32) (20 : Int32)))
def X5_spoilsIn_b64 (vM : St) (p1 : Int32) (k16 : Int32 → Int32 → Option (Int32)) (x2 : Int32) (x3 : Int32) (t0 : Int32) : Option (Int32) := (X5_of vM x3 (0 : Int32)).bind fun u1 => (if u1 = p1 then (if x2 < (0 : Int32) then k16 t0 (x3 + (1 : Int32)) else (if x2 ≤ t0 then k16 x2 (x3 + (1 : Int32)) else k16 t0 (x3 + (1 : Int32)))) else k16 x2 (x3 + (1 : Int32)))
def X5_spoilsIn_l16 (vM : St) (p1 : Int32) : Nat → Int32 → Int32 → Option (Int32)
  | 0, _, _ => none
  | fu + 1, x2, x3 => (ldA 304 (vM 1) (290 : Int32)).bind fun y5 => (if y5 ≤ x3 then some x2 else (X5_of vM x3 (2 : Int32)).bind fun u7 => (ldA 304 (vM 1) ((298 : Int32) + u7)).bind fun y8 => (X5_of vM x3 (4 : Int32)).bind fun u9 => (if (1 : Int32) ≤ (y8 - u9) then X5_spoilsIn_b64 vM p1 (X5_spoilsIn_l16 vM p1 fu) x2 x3 (y8 - u9) else X5_spoilsIn_b64 vM p1 (X5_spoilsIn_l16 vM p1 fu) x2 x3 (1 : Int32)))
def X5_spoilsIn (vM : St) (p1 : Int32) : Option (Int32) := (X5_isPupil vM p1).bind fun u11 => (if u11 = (0 : Int32) then some (-1000001 : Int32) else X5_spoilsIn_l16 vM p1 FU (-1000004 : Int32) (0 : Int32))
def X5_type (vM : St) (p1 : Int32) : Option (Int32 × St) := (X5_in p1 (32 : Int32) (126 : Int32)).bind fun u1 => (if u1 = (0 : Int32) then some ((-1000001 : Int32), vM) else (if (vM 99 7) = (60 : Int32) then some ((-1000003 : Int32), vM) else (stA 60 (vM 7) (vM 99 7) p1).bind fun g4 => some (((vM 99 7) + (1 : Int32)), (setI (setA vM 7 g4) 7 ((vM 99 7) + (1 : Int32))))))
def X5_undo_l22  : Nat → St → Int32 → Option (Int32 × St)
  | 0, _, _ => none
  | fu + 1, vM, x1 => (if (304 : Int32) ≤ x1 then some ((vM 99 4), vM) else (ldA 1216 (vM 2) (((304 : Int32) * (vM 99 4)) + x1)).bind fun y2 => (stA 304 (vM 1) x1 y2).bind fun g3 => X5_undo_l22 fu (setA vM 1 g3) (x1 + (1 : Int32)))
def X5_undo (vM : St) : Option (Int32 × St) := (if (vM 99 4) = (0 : Int32) then some ((-1000002 : Int32), vM) else X5_undo_l22 FU (setI vM 4 ((vM 99 4) - (1 : Int32))) (0 : Int32))
def X5_why (vM : St) (p1 : Int32) (p2 : Int32) : Option (Int32) := (X5_isPupil vM p1).bind fun u1 => (if u1 = (0 : Int32) then some (-1000001 : Int32) else (X5_in p2 (1 : Int32) (9 : Int32)).bind fun u3 => (if u3 = (0 : Int32) then some (-1000001 : Int32) else (X5_barred vM p1 p2).bind fun u5 => some u5))
end
section
theorem iw_X0_number_X0 : ∀ w ∈ wsX00, w ∈ wsX0_number := fun _ h => List.mem_cons_of_mem _ (List.mem_append_right _ (h))
set_option maxHeartbeats 4000000 in
set_option maxRecDepth 100000 in
theorem c_X0_number (l : Launch) (D : va_G) (cA cQ : ClassId) (adB : Nat → Nat) (vB : St) (p1 : Int32) (o : Int32) (hf : X0_number vB p1 = some o) : Cti l yX0_number wsX0_number ({ frames := 0, cells := 0, slots := 0, locals := 0 }) D (TY cA cQ) [.ref (adB 0), .int p1] (wB cA adB vB) (wB cA adB vB) o := by
  refine Wk.i (cc := cX0_number) (maxL := 2) (ret := (some .int)) (by decide) rfl (Nat.le_of_ble_eq_true rfl) ?_
  intro p e s m below meth c A ls hx hb hr hlocks hml hown hts hK hN hP hD hA hl
  have hown : s.vm.findClass RX0 = some m.cls := hown
  have hS : va_S A s.heap s.heap [] := va_S.rf
  have hl : lv_has ls 2 [(0, .ref (adB 0)), (1, .int p1)] := hl
  have h := hf
  unfold X0_number at h
  refine lv_iload_n hx hb dX0_number_0 rfl (lv_at hl 1 rfl) ?_
  refine lv_if_lt (tgt := 22) hx hb dX0_number_1 (by decide) (fun c1 => ?_) (fun c1 => ?_)
  · have h := (if_pos c1).symm.trans h
    refine lv_iconst (v := (0 : Int32)) hx hb dX0_number_22 (by decide) ?_
    cases h
    exact endI hx hb hr hlocks hP hS rfl dX0_number_23
  · have h := (if_neg c1).symm.trans h
    refine lv_iload_n hx hb dX0_number_4 rfl (lv_at hl 1 rfl) ?_
    refine lv_aload_n hx hb dX0_number_5 rfl (lv_at hl 0 rfl) ?_
    refine va_get (D := D) (ci := 0) (v := .ref (adB 1)) (C := RX0) (T := TX0) (N := 13) hx hb hts iw_X0_number_X0 hown hK hP 0 rfl rfl 0 (by decide) (hts (.fieldLink RX0 9 "FavourRings$Bank" "numbers" "[I") (List.mem_of_getElem? (i := 1) rfl)) (fun _ h9 => h9) rfl dX0_number_6 ?_
    refine va_alen hx hb hK hP 1 0 rfl rfl (v := (26 : Int32)) rfl dX0_number_9 ?_
    refine lv_icmp_ge (tgt := 22) hx hb dX0_number_10 (by decide) (fun c2 => ?_) (fun c2 => ?_)
    · have h := (if_pos c2).symm.trans h
      refine lv_iconst (v := (0 : Int32)) hx hb dX0_number_22 (by decide) ?_
      cases h
      exact endI hx hb hr hlocks hP hS rfl dX0_number_23
    · have h := (if_neg c2).symm.trans h
      refine lv_aload_n hx hb dX0_number_13 rfl (lv_at hl 0 rfl) ?_
      refine va_get (D := D) (ci := 0) (v := .ref (adB 1)) (C := RX0) (T := TX0) (N := 13) hx hb hts iw_X0_number_X0 hown hK hP 0 rfl rfl 0 (by decide) (hts (.fieldLink RX0 9 "FavourRings$Bank" "numbers" "[I") (List.mem_of_getElem? (i := 1) rfl)) (fun _ h9 => h9) rfl dX0_number_14 ?_
      refine lv_iload_n hx hb dX0_number_17 rfl (lv_at hl 1 rfl) ?_
      obtain ⟨y3, ey3, h⟩ := bd_in h
      refine ldR hx hb hK hP 1 0 rfl rfl ey3 dX0_number_18 ?_
      refine lv_goto (tgt := 23) hx hb dX0_number_19 (by decide) ?_
      cases h
      exact endI hx hb hr hlocks hP hS rfl dX0_number_23
set_option maxHeartbeats 4000000 in
set_option maxRecDepth 100000 in
theorem c_X4_put (l : Launch) (D : va_G) (cA cQ : ClassId) (a1 : Nat) (n1 : Nat) (f1 : Nat → Int32) (p1 : Int32) (p2 : Int32) (o : (Nat → Int32)) (hf : X4_put f1 n1 p1 p2 = some o) : Ctv l yX4_put wsX4_put ({ frames := 0, cells := 0, slots := 0, locals := 0 }) D (TY cA cQ) [.ref a1, .int p1, .int p2] (wA cA a1 n1 f1) (wA cA a1 n1 o) := by
  refine Wk.v (cc := cX4_put) (maxL := 3) (ret := none) (by decide) rfl (Nat.le_of_ble_eq_true rfl) ?_
  intro p e s m below meth c A ls hx hb hr hlocks hml hown hts hK hN hP hD hA hl
  have hown : s.vm.findClass RX4 = some m.cls := hown
  have hS : va_S A s.heap s.heap [] := va_S.rf
  have hl : lv_has ls 3 [(0, .ref a1), (1, .int p1), (2, .int p2)] := hl
  have h := hf
  unfold X4_put at h
  refine lv_iload_n hx hb dX4_put_0 rfl (lv_at hl 1 rfl) ?_
  refine lv_if_lt (tgt := 14) hx hb dX4_put_1 (by decide) (fun c1 => ?_) (fun c1 => ?_)
  · have h := (if_pos c1).symm.trans h
    cases h
    exact endV hx hb hr hlocks hP hS dX4_put_14
  · have h := (if_neg c1).symm.trans h
    refine lv_iload_n hx hb dX4_put_4 rfl (lv_at hl 1 rfl) ?_
    refine lv_aload_n hx hb dX4_put_5 rfl (lv_at hl 0 rfl) ?_
    refine va_alen hx hb hK hP 0 0 rfl rfl (v := (Int32.ofNat n1)) rfl dX4_put_6 ?_
    refine lv_icmp_ge (tgt := 14) hx hb dX4_put_7 (by decide) (fun c2 => ?_) (fun c2 => ?_)
    · have h := (if_pos c2).symm.trans h
      cases h
      exact endV hx hb hr hlocks hP hS dX4_put_14
    · have h := (if_neg c2).symm.trans h
      refine lv_aload_n hx hb dX4_put_10 rfl (lv_at hl 0 rfl) ?_
      refine lv_iload_n hx hb dX4_put_11 rfl (lv_at hl 1 rfl) ?_
      refine lv_iload_n hx hb dX4_put_12 rfl (lv_at hl 2 rfl) ?_
      obtain ⟨g3, eg3, h⟩ := bd_in h
      refine stR hx hb hK hP hD hS 0 0 rfl rfl eg3 (ws' := (wA cA a1 n1 g3)) rfl dX4_put_13 (fun H locs hP hD hS => ?_)
      cases h
      exact endV hx hb hr hlocks hP hS dX4_put_14
set_option maxHeartbeats 4000000 in
set_option maxRecDepth 100000 in
theorem c_X4_add (l : Launch) (D : va_G) (cA cQ : ClassId) (a1 : Nat) (n1 : Nat) (f1 : Nat → Int32) (p1 : Int32) (p2 : Int32) (o : (Nat → Int32)) (hf : X4_add f1 n1 p1 p2 = some o) : Ctv l yX4_add wsX4_add ({ frames := 0, cells := 0, slots := 0, locals := 0 }) D (TY cA cQ) [.ref a1, .int p1, .int p2] (wA cA a1 n1 f1) (wA cA a1 n1 o) := by
  refine Wk.v (cc := cX4_add) (maxL := 3) (ret := none) (by decide) rfl (Nat.le_of_ble_eq_true rfl) ?_
  intro p e s m below meth c A ls hx hb hr hlocks hml hown hts hK hN hP hD hA hl
  have hown : s.vm.findClass RX4 = some m.cls := hown
  have hS : va_S A s.heap s.heap [] := va_S.rf
  have hl : lv_has ls 3 [(0, .ref a1), (1, .int p1), (2, .int p2)] := hl
  have h := hf
  unfold X4_add at h
  refine lv_iload_n hx hb dX4_add_0 rfl (lv_at hl 1 rfl) ?_
  refine lv_if_lt (tgt := 17) hx hb dX4_add_1 (by decide) (fun c1 => ?_) (fun c1 => ?_)
  · have h := (if_pos c1).symm.trans h
    cases h
    exact endV hx hb hr hlocks hP hS dX4_add_17
  · have h := (if_neg c1).symm.trans h
    refine lv_iload_n hx hb dX4_add_4 rfl (lv_at hl 1 rfl) ?_
    refine lv_aload_n hx hb dX4_add_5 rfl (lv_at hl 0 rfl) ?_
    refine va_alen hx hb hK hP 0 0 rfl rfl (v := (Int32.ofNat n1)) rfl dX4_add_6 ?_
    refine lv_icmp_ge (tgt := 17) hx hb dX4_add_7 (by decide) (fun c2 => ?_) (fun c2 => ?_)
    · have h := (if_pos c2).symm.trans h
      cases h
      exact endV hx hb hr hlocks hP hS dX4_add_17
    · have h := (if_neg c2).symm.trans h
      refine lv_aload_n hx hb dX4_add_10 rfl (lv_at hl 0 rfl) ?_
      refine lv_iload_n hx hb dX4_add_11 rfl (lv_at hl 1 rfl) ?_
      refine lv_dup2_11 hx hb dX4_add_12 rfl rfl ?_
      obtain ⟨y3, ey3, h⟩ := bd_in h
      refine ldR hx hb hK hP 0 0 rfl rfl ey3 dX4_add_13 ?_
      refine lv_iload_n hx hb dX4_add_14 rfl (lv_at hl 2 rfl) ?_
      refine lv_iadd hx hb dX4_add_15 ?_
      obtain ⟨g4, eg4, h⟩ := bd_in h
      refine stR hx hb hK hP hD hS 0 0 rfl rfl eg4 (ws' := (wA cA a1 n1 g4)) rfl dX4_add_16 (fun H locs hP hD hS => ?_)
      cases h
      exact endV hx hb hr hlocks hP hS dX4_add_17
theorem iw_X0_addLot_X0 : ∀ w ∈ wsX00, w ∈ wsX0_addLot := fun _ h => List.mem_cons_of_mem _ (List.mem_append_right _ (h))
set_option maxHeartbeats 4000000 in
set_option maxRecDepth 100000 in
theorem c_X0_addLot (l : Launch) (D : va_G) (cA cQ : ClassId) (adB : Nat → Nat) (vB : St) (p1 : Int32) (p2 : Int32) (p3 : Int32) (p4 : Int32) (o : St) (hf : X0_addLot vB p1 p2 p3 p4 = some o) : Ctv l yX0_addLot wsX0_addLot ({ frames := 1, cells := 0, slots := 0, locals := 22 }) D (TY cA cQ) [.ref (adB 0), .int p1, .int p2, .int p3, .int p4] (wB cA adB vB) (wB cA adB o) := by
  refine Wk.v (cc := cX0_addLot) (maxL := 6) (ret := none) (by decide) rfl (Nat.le_of_ble_eq_true rfl) ?_
  intro p e s m below meth c A ls hx hb hr hlocks hml hown hts hK hN hP hD hA hl
  have hown : s.vm.findClass RX0 = some m.cls := hown
  have hS : va_S A s.heap s.heap [] := va_S.rf
  have hl : lv_has ls 6 [(0, .ref (adB 0)), (1, .int p1), (2, .int p2), (3, .int p3), (4, .int p4)] := hl
  have h := hf
  unfold X0_addLot at h
  refine lv_aload_n hx hb dX0_addLot_0 rfl (lv_at hl 0 rfl) ?_
  refine lv_iconst (v := (2 : Int32)) hx hb dX0_addLot_1 (by decide) ?_
  obtain ⟨u1, eu1, h⟩ := bd_in h
  refine kI (va_runV (As := [.int (2 : Int32)]) (rest := []) ⟨hx, hb, hml, hown, hts⟩ (c_X0_number l D cA cQ adB vB (2 : Int32) u1 eu1 H.size) (cwV 1 hts gX0_addLot_X0_number rfl rfl rfl (by decide +kernel) ⟨Nat.le_of_ble_eq_true rfl, Nat.le_of_ble_eq_true rfl⟩) (pV (ci := 0) (q := (RX0, TX0, 13)) hK hN hP hD [0, 1, 2, 3, 4, 5, 6, 7, 8, 9, 10, 11, 12, 13] rfl rfl rfl rfl) rfl rfl hl.1 rfl (lv_room (Nat.le_of_ble_eq_true rfl)) dX0_addLot_2 ⟨Nat.zero_le _, Nat.zero_le _⟩) hP hD hS hA [0, 1, 2, 3, 4, 5, 6, 7, 8, 9, 10, 11, 12, 13] rfl rfl (ws' := (wB cA adB vB)) rfl (fun H locs hP hD hS => ?_)
  refine lv_istore (lv' := [(5, .int u1), (0, .ref (adB 0)), (1, .int p1), (2, .int p2), (3, .int p3), (4, .int p4)]) hx hb dX0_addLot_5 hl (by decide) rfl (fun ls hl => ?_)
  refine lv_aload_n hx hb dX0_addLot_7 rfl (lv_at hl 1 rfl) ?_
  refine va_get (D := D) (ci := 0) (v := .ref (adB 8)) (C := RX0) (T := TX0) (N := 13) hx hb hts iw_X0_addLot_X0 hown hK hP 0 rfl rfl 7 (by decide) (hts (.fieldLink RX0 33 "FavourRings$Bank" "debtors" "[I") (List.mem_of_getElem? (i := 1) rfl)) (fun _ h9 => h9) rfl dX0_addLot_8 ?_
  refine lv_iload hx hb dX0_addLot_11 (lv_at hl 0 rfl) ?_
  refine lv_iload_n hx hb dX0_addLot_13 rfl (lv_at hl 2 rfl) ?_
  obtain ⟨u2, eu2, h⟩ := bd_in h
  refine kV (va_runSN (As := [.ref (adB 8), .int u1, .int p1]) (rest := []) ⟨hx, hb, hml, hown, hts⟩ (c_X4_put l D cA cQ (adB 8) 40 (vB 8) u1 p1 u2 eu2 H.size) ⟨va_cnB 3 hts gX0_addLot_X4_put_n55 rfl rfl rfl hN.2.1 (hts (.initialized RX4) (List.mem_of_getElem? (i := 14) rfl)) (by decide +kernel) ⟨Nat.le_of_ble_eq_true rfl, Nat.le_of_ble_eq_true rfl⟩, (hts (.static yX4_put) (List.mem_of_getElem? (i := 13) rfl)), trivial⟩ (pS hK hN hP hD [8] rfl rfl) rfl rfl hl.1 rfl (lv_room (Nat.le_of_ble_eq_true rfl)) dX0_addLot_14 ⟨Nat.zero_le _, Nat.zero_le _⟩) hP hD hS hA [8] rfl rfl (ws' := (wB cA adB (setA vB 8 u2))) rfl (fun H locs hP hD hS => ?_)
  refine lv_aload_n hx hb dX0_addLot_17 rfl (lv_at hl 1 rfl) ?_
  refine va_get (D := D) (ci := 0) (v := .ref (adB 9)) (C := RX0) (T := TX0) (N := 13) hx hb hts iw_X0_addLot_X0 hown hK hP 0 rfl rfl 8 (by decide) (hts (.fieldLink RX0 36 "FavourRings$Bank" "creditors" "[I") (List.mem_of_getElem? (i := 2) rfl)) (fun _ h9 => h9) rfl dX0_addLot_18 ?_
  refine lv_iload hx hb dX0_addLot_21 (lv_at hl 0 rfl) ?_
  refine lv_iload_n hx hb dX0_addLot_23 rfl (lv_at hl 3 rfl) ?_
  obtain ⟨u3, eu3, h⟩ := bd_in h
  refine kV (va_runSN (As := [.ref (adB 9), .int u1, .int p2]) (rest := []) ⟨hx, hb, hml, hown, hts⟩ (c_X4_put l D cA cQ (adB 9) 40 (vB 9) u1 p2 u3 eu3 H.size) ⟨va_cnB 3 hts gX0_addLot_X4_put_n55 rfl rfl rfl hN.2.1 (hts (.initialized RX4) (List.mem_of_getElem? (i := 14) rfl)) (by decide +kernel) ⟨Nat.le_of_ble_eq_true rfl, Nat.le_of_ble_eq_true rfl⟩, (hts (.static yX4_put) (List.mem_of_getElem? (i := 13) rfl)), trivial⟩ (pS hK hN hP hD [9] rfl rfl) rfl rfl hl.1 rfl (lv_room (Nat.le_of_ble_eq_true rfl)) dX0_addLot_24 ⟨Nat.zero_le _, Nat.zero_le _⟩) hP hD hS hA [9] rfl rfl (ws' := (wB cA adB (setA (setA vB 8 u2) 9 u3))) rfl (fun H locs hP hD hS => ?_)
  refine lv_aload_n hx hb dX0_addLot_27 rfl (lv_at hl 1 rfl) ?_
  refine va_get (D := D) (ci := 0) (v := .ref (adB 10)) (C := RX0) (T := TX0) (N := 13) hx hb hts iw_X0_addLot_X0 hown hK hP 0 rfl rfl 9 (by decide) (hts (.fieldLink RX0 39 "FavourRings$Bank" "kinds" "[I") (List.mem_of_getElem? (i := 3) rfl)) (fun _ h9 => h9) rfl dX0_addLot_28 ?_
  refine lv_iload hx hb dX0_addLot_31 (lv_at hl 0 rfl) ?_
  refine lv_iload_n hx hb dX0_addLot_33 rfl (lv_at hl 4 rfl) ?_
  obtain ⟨u4, eu4, h⟩ := bd_in h
  refine kV (va_runSN (As := [.ref (adB 10), .int u1, .int p3]) (rest := []) ⟨hx, hb, hml, hown, hts⟩ (c_X4_put l D cA cQ (adB 10) 40 (vB 10) u1 p3 u4 eu4 H.size) ⟨va_cnB 3 hts gX0_addLot_X4_put_n55 rfl rfl rfl hN.2.1 (hts (.initialized RX4) (List.mem_of_getElem? (i := 14) rfl)) (by decide +kernel) ⟨Nat.le_of_ble_eq_true rfl, Nat.le_of_ble_eq_true rfl⟩, (hts (.static yX4_put) (List.mem_of_getElem? (i := 13) rfl)), trivial⟩ (pS hK hN hP hD [10] rfl rfl) rfl rfl hl.1 rfl (lv_room (Nat.le_of_ble_eq_true rfl)) dX0_addLot_34 ⟨Nat.zero_le _, Nat.zero_le _⟩) hP hD hS hA [10] rfl rfl (ws' := (wB cA adB (setA (setA (setA vB 8 u2) 9 u3) 10 u4))) rfl (fun H locs hP hD hS => ?_)
  refine lv_aload_n hx hb dX0_addLot_37 rfl (lv_at hl 1 rfl) ?_
  refine va_get (D := D) (ci := 0) (v := .ref (adB 11)) (C := RX0) (T := TX0) (N := 13) hx hb hts iw_X0_addLot_X0 hown hK hP 0 rfl rfl 10 (by decide) (hts (.fieldLink RX0 42 "FavourRings$Bank" "sizes" "[I") (List.mem_of_getElem? (i := 4) rfl)) (fun _ h9 => h9) rfl dX0_addLot_38 ?_
  refine lv_iload hx hb dX0_addLot_41 (lv_at hl 0 rfl) ?_
  refine lv_iload hx hb dX0_addLot_43 (lv_at hl 5 rfl) ?_
  obtain ⟨u5, eu5, h⟩ := bd_in h
  refine kV (va_runSN (As := [.ref (adB 11), .int u1, .int p4]) (rest := []) ⟨hx, hb, hml, hown, hts⟩ (c_X4_put l D cA cQ (adB 11) 40 (vB 11) u1 p4 u5 eu5 H.size) ⟨va_cnB 3 hts gX0_addLot_X4_put_n55 rfl rfl rfl hN.2.1 (hts (.initialized RX4) (List.mem_of_getElem? (i := 14) rfl)) (by decide +kernel) ⟨Nat.le_of_ble_eq_true rfl, Nat.le_of_ble_eq_true rfl⟩, (hts (.static yX4_put) (List.mem_of_getElem? (i := 13) rfl)), trivial⟩ (pS hK hN hP hD [11] rfl rfl) rfl rfl hl.1 rfl (lv_room (Nat.le_of_ble_eq_true rfl)) dX0_addLot_45 ⟨Nat.zero_le _, Nat.zero_le _⟩) hP hD hS hA [11] rfl rfl (ws' := (wB cA adB (setA (setA (setA (setA vB 8 u2) 9 u3) 10 u4) 11 u5))) rfl (fun H locs hP hD hS => ?_)
  refine lv_aload_n hx hb dX0_addLot_48 rfl (lv_at hl 1 rfl) ?_
  refine va_get (D := D) (ci := 0) (v := .ref (adB 12)) (C := RX0) (T := TX0) (N := 13) hx hb hts iw_X0_addLot_X0 hown hK hP 0 rfl rfl 11 (by decide) (hts (.fieldLink RX0 45 "FavourRings$Bank" "ages" "[I") (List.mem_of_getElem? (i := 5) rfl)) (fun _ h9 => h9) rfl dX0_addLot_49 ?_
  refine lv_iload hx hb dX0_addLot_52 (lv_at hl 0 rfl) ?_
  refine lv_iconst (v := (0 : Int32)) hx hb dX0_addLot_54 (by decide) ?_
  obtain ⟨u6, eu6, h⟩ := bd_in h
  refine kV (va_runSN (As := [.ref (adB 12), .int u1, .int (0 : Int32)]) (rest := []) ⟨hx, hb, hml, hown, hts⟩ (c_X4_put l D cA cQ (adB 12) 40 (vB 12) u1 (0 : Int32) u6 eu6 H.size) ⟨va_cnB 3 hts gX0_addLot_X4_put_n55 rfl rfl rfl hN.2.1 (hts (.initialized RX4) (List.mem_of_getElem? (i := 14) rfl)) (by decide +kernel) ⟨Nat.le_of_ble_eq_true rfl, Nat.le_of_ble_eq_true rfl⟩, (hts (.static yX4_put) (List.mem_of_getElem? (i := 13) rfl)), trivial⟩ (pS hK hN hP hD [12] rfl rfl) rfl rfl hl.1 rfl (lv_room (Nat.le_of_ble_eq_true rfl)) dX0_addLot_55 ⟨Nat.zero_le _, Nat.zero_le _⟩) hP hD hS hA [12] rfl rfl (ws' := (wB cA adB (setA (setA (setA (setA (setA vB 8 u2) 9 u3) 10 u4) 11 u5) 12 u6))) rfl (fun H locs hP hD hS => ?_)
  refine lv_aload_n hx hb dX0_addLot_58 rfl (lv_at hl 1 rfl) ?_
  refine va_get (D := D) (ci := 0) (v := .ref (adB 13)) (C := RX0) (T := TX0) (N := 13) hx hb hts iw_X0_addLot_X0 hown hK hP 0 rfl rfl 12 (by decide) (hts (.fieldLink RX0 48 "FavourRings$Bank" "passed" "[I") (List.mem_of_getElem? (i := 6) rfl)) (fun _ h9 => h9) rfl dX0_addLot_59 ?_
  refine lv_iload hx hb dX0_addLot_62 (lv_at hl 0 rfl) ?_
  refine lv_iconst (v := (0 : Int32)) hx hb dX0_addLot_64 (by decide) ?_
  obtain ⟨u7, eu7, h⟩ := bd_in h
  refine kV (va_runSN (As := [.ref (adB 13), .int u1, .int (0 : Int32)]) (rest := []) ⟨hx, hb, hml, hown, hts⟩ (c_X4_put l D cA cQ (adB 13) 40 (vB 13) u1 (0 : Int32) u7 eu7 H.size) ⟨va_cnB 3 hts gX0_addLot_X4_put_n55 rfl rfl rfl hN.2.1 (hts (.initialized RX4) (List.mem_of_getElem? (i := 14) rfl)) (by decide +kernel) ⟨Nat.le_of_ble_eq_true rfl, Nat.le_of_ble_eq_true rfl⟩, (hts (.static yX4_put) (List.mem_of_getElem? (i := 13) rfl)), trivial⟩ (pS hK hN hP hD [13] rfl rfl) rfl rfl hl.1 rfl (lv_room (Nat.le_of_ble_eq_true rfl)) dX0_addLot_65 ⟨Nat.zero_le _, Nat.zero_le _⟩) hP hD hS hA [13] rfl rfl (ws' := (wB cA adB (setA (setA (setA (setA (setA (setA vB 8 u2) 9 u3) 10 u4) 11 u5) 12 u6) 13 u7))) rfl (fun H locs hP hD hS => ?_)
  refine lv_aload_n hx hb dX0_addLot_68 rfl (lv_at hl 1 rfl) ?_
  refine va_get (D := D) (ci := 0) (v := .ref (adB 1)) (C := RX0) (T := TX0) (N := 13) hx hb hts iw_X0_addLot_X0 hown hK hP 0 rfl rfl 0 (by decide) (hts (.fieldLink RX0 9 "FavourRings$Bank" "numbers" "[I") (List.mem_of_getElem? (i := 7) rfl)) (fun _ h9 => h9) rfl dX0_addLot_69 ?_
  refine lv_iconst (v := (2 : Int32)) hx hb dX0_addLot_72 (by decide) ?_
  refine lv_iconst (v := (1 : Int32)) hx hb dX0_addLot_73 (by decide) ?_
  obtain ⟨u8, eu8, h⟩ := bd_in h
  refine kV (va_runSN (As := [.ref (adB 1), .int (2 : Int32), .int (1 : Int32)]) (rest := []) ⟨hx, hb, hml, hown, hts⟩ (c_X4_add l D cA cQ (adB 1) 26 (vB 1) (2 : Int32) (1 : Int32) u8 eu8 H.size) ⟨va_cnB 3 hts gX0_addLot_X4_add_n86 rfl rfl rfl hN.2.2.2.2.1 (hts (.initialized RX4) (List.mem_of_getElem? (i := 14) rfl)) (by decide +kernel) ⟨Nat.le_of_ble_eq_true rfl, Nat.le_of_ble_eq_true rfl⟩, (hts (.static yX4_add) (List.mem_of_getElem? (i := 16) rfl)), trivial⟩ (pS hK hN hP hD [1] rfl rfl) rfl rfl hl.1 rfl (lv_room (Nat.le_of_ble_eq_true rfl)) dX0_addLot_74 ⟨Nat.zero_le _, Nat.zero_le _⟩) hP hD hS hA [1] rfl rfl (ws' := (wB cA adB (setA (setA (setA (setA (setA (setA (setA vB 8 u2) 9 u3) 10 u4) 11 u5) 12 u6) 13 u7) 1 u8))) rfl (fun H locs hP hD hS => ?_)
  cases h
  exact endV hx hb hr hlocks hP hS dX0_addLot_77
theorem iw_X0_addPupil_X0 : ∀ w ∈ wsX00, w ∈ wsX0_addPupil := fun _ h => List.mem_cons_of_mem _ (List.mem_append_right _ (h))
set_option maxHeartbeats 4000000 in
set_option maxRecDepth 100000 in
theorem c_X0_addPupil (l : Launch) (D : va_G) (cA cQ : ClassId) (adB : Nat → Nat) (vB : St) (o : Int32 × St) (hf : X0_addPupil vB = some o) : Cti l yX0_addPupil wsX0_addPupil ({ frames := 1, cells := 0, slots := 0, locals := 22 }) D (TY cA cQ) [.ref (adB 0)] (wB cA adB vB) (wB cA adB o.2) o.1 := by
  refine Wk.i (cc := cX0_addPupil) (maxL := 1) (ret := (some .int)) (by decide) rfl (Nat.le_of_ble_eq_true rfl) ?_
  intro p e s m below meth c A ls hx hb hr hlocks hml hown hts hK hN hP hD hA hl
  have hown : s.vm.findClass RX0 = some m.cls := hown
  have hS : va_S A s.heap s.heap [] := va_S.rf
  have hl : lv_has ls 1 [(0, .ref (adB 0))] := hl
  have h := hf
  unfold X0_addPupil at h
  refine lv_aload_n hx hb dX0_addPupil_0 rfl (lv_at hl 0 rfl) ?_
  refine lv_iconst (v := (1 : Int32)) hx hb dX0_addPupil_1 (by decide) ?_
  obtain ⟨u1, eu1, h⟩ := bd_in h
  refine kI (va_runV (As := [.int (1 : Int32)]) (rest := []) ⟨hx, hb, hml, hown, hts⟩ (c_X0_number l D cA cQ adB vB (1 : Int32) u1 eu1 H.size) (cwV 1 hts gX0_addPupil_X0_number rfl rfl rfl (by decide +kernel) ⟨Nat.le_of_ble_eq_true rfl, Nat.le_of_ble_eq_true rfl⟩) (pV (ci := 0) (q := (RX0, TX0, 13)) hK hN hP hD [0, 1, 2, 3, 4, 5, 6, 7, 8, 9, 10, 11, 12, 13] rfl rfl rfl rfl) rfl rfl hl.1 rfl (lv_room (Nat.le_of_ble_eq_true rfl)) dX0_addPupil_2 ⟨Nat.zero_le _, Nat.zero_le _⟩) hP hD hS hA [0, 1, 2, 3, 4, 5, 6, 7, 8, 9, 10, 11, 12, 13] rfl rfl (ws' := (wB cA adB vB)) rfl (fun H locs hP hD hS => ?_)
  refine lv_bipush (v := (8 : Int32)) hx hb dX0_addPupil_5 (by decide) ?_
  refine lv_icmp_lt (tgt := 13) hx hb dX0_addPupil_7 (by decide) (fun c2 => ?_) (fun c2 => ?_)
  · have h := (if_pos c2).symm.trans h
    refine lv_aload_n hx hb dX0_addPupil_13 rfl (lv_at hl 0 rfl) ?_
    refine va_get (D := D) (ci := 0) (v := .ref (adB 1)) (C := RX0) (T := TX0) (N := 13) hx hb hts iw_X0_addPupil_X0 hown hK hP 0 rfl rfl 0 (by decide) (hts (.fieldLink RX0 9 "FavourRings$Bank" "numbers" "[I") (List.mem_of_getElem? (i := 2) rfl)) (fun _ h9 => h9) rfl dX0_addPupil_14 ?_
    refine lv_iconst (v := (1 : Int32)) hx hb dX0_addPupil_17 (by decide) ?_
    refine lv_iconst (v := (1 : Int32)) hx hb dX0_addPupil_18 (by decide) ?_
    obtain ⟨u3, eu3, h⟩ := bd_in h
    refine kV (va_runSN (As := [.ref (adB 1), .int (1 : Int32), .int (1 : Int32)]) (rest := []) ⟨hx, hb, hml, hown, hts⟩ (c_X4_add l D cA cQ (adB 1) 26 (vB 1) (1 : Int32) (1 : Int32) u3 eu3 H.size) ⟨va_cnB 3 hts gX0_addPupil_X4_add_n86 rfl rfl rfl hN.2.2.2.2.1 (hts (.initialized RX4) (List.mem_of_getElem? (i := 9) rfl)) (by decide +kernel) ⟨Nat.le_of_ble_eq_true rfl, Nat.le_of_ble_eq_true rfl⟩, (hts (.static yX4_add) (List.mem_of_getElem? (i := 8) rfl)), trivial⟩ (pS hK hN hP hD [1] rfl rfl) rfl rfl hl.1 rfl (lv_room (Nat.le_of_ble_eq_true rfl)) dX0_addPupil_19 ⟨Nat.zero_le _, Nat.zero_le _⟩) hP hD hS hA [1] rfl rfl (ws' := (wB cA adB (setA vB 1 u3))) rfl (fun H locs hP hD hS => ?_)
    refine lv_aload_n hx hb dX0_addPupil_22 rfl (lv_at hl 0 rfl) ?_
    refine lv_iconst (v := (1 : Int32)) hx hb dX0_addPupil_23 (by decide) ?_
    obtain ⟨u4, eu4, h⟩ := bd_in h
    refine kI (va_runV (As := [.int (1 : Int32)]) (rest := []) ⟨hx, hb, hml, hown, hts⟩ (c_X0_number l D cA cQ adB (setA vB 1 u3) (1 : Int32) u4 eu4 H.size) (cwV 1 hts gX0_addPupil_X0_number rfl rfl rfl (by decide +kernel) ⟨Nat.le_of_ble_eq_true rfl, Nat.le_of_ble_eq_true rfl⟩) (pV (ci := 0) (q := (RX0, TX0, 13)) hK hN hP hD [0, 1, 2, 3, 4, 5, 6, 7, 8, 9, 10, 11, 12, 13] rfl rfl rfl rfl) rfl rfl hl.1 rfl (lv_room (Nat.le_of_ble_eq_true rfl)) dX0_addPupil_24 ⟨Nat.zero_le _, Nat.zero_le _⟩) hP hD hS hA [0, 1, 2, 3, 4, 5, 6, 7, 8, 9, 10, 11, 12, 13] rfl rfl (ws' := (wB cA adB (setA vB 1 u3))) rfl (fun H locs hP hD hS => ?_)
    refine lv_iconst (v := (1 : Int32)) hx hb dX0_addPupil_27 (by decide) ?_
    refine lv_isub hx hb dX0_addPupil_28 ?_
    cases h
    exact endI hx hb hr hlocks hP hS rfl dX0_addPupil_29
  · have h := (if_neg c2).symm.trans h
    refine lv_ldc (v := (-1000003 : Int32)) hx hb hown (hts (.constant RX0 85 (-1000003)) (List.mem_of_getElem? (i := 1) rfl)) dX0_addPupil_10 ?_
    cases h
    exact endI hx hb hr hlocks hP hS rfl dX0_addPupil_12
theorem iw_X0_isLotOf_X0 : ∀ w ∈ wsX00, w ∈ wsX0_isLotOf := fun _ h => List.mem_cons_of_mem _ (List.mem_append_right _ (h))
set_option maxHeartbeats 4000000 in
set_option maxRecDepth 100000 in
theorem c_X0_isLotOf (l : Launch) (D : va_G) (cA cQ : ClassId) (adB : Nat → Nat) (vB : St) (p1 : Int32) (p2 : Int32) (p3 : Int32) (p4 : Int32) (o : Int32) (hf : X0_isLotOf vB p1 p2 p3 p4 = some o) : Cti l yX0_isLotOf wsX0_isLotOf ({ frames := 0, cells := 0, slots := 0, locals := 0 }) D (TY cA cQ) [.ref (adB 0), .int p1, .int p2, .int p3, .int p4] (wB cA adB vB) (wB cA adB vB) o := by
  refine Wk.i (cc := cX0_isLotOf) (maxL := 5) (ret := (some .boolean)) (by decide) rfl (Nat.le_of_ble_eq_true rfl) ?_
  intro p e s m below meth c A ls hx hb hr hlocks hml hown hts hK hN hP hD hA hl
  have hown : s.vm.findClass RX0 = some m.cls := hown
  have hS : va_S A s.heap s.heap [] := va_S.rf
  have hl : lv_has ls 5 [(0, .ref (adB 0)), (1, .int p1), (2, .int p2), (3, .int p3), (4, .int p4)] := hl
  have B42 : ∀  (H : Heap) (locs : List Loc) (ls : Array Slot), X0_isLotOf_b42 vB p1 p2 p3 p4 = some o → va_P D vwCl (wB cA adB vB) H → va_D A (wB cA adB vB) → va_S A s.heap H locs → lv_has ls 5 [(0, .ref (adB 0)), (1, .int p1), (4, .int p4)] → W p l e (headSpec wsX0_isLotOf ({ frames := 0, cells := 0, slots := 0, locals := 0 })).room s m ([.ref (adB 0), .int p1, .int p2, .int p3, .int p4] : List Value).toArray below meth c H locs 0 0 (MQ below (QI D (wB cA adB vB) o A) ([.ref (adB 0), .int p1, .int p2, .int p3, .int p4] : List Value).toArray s 0 0 A) (F0 m 42 ls []) := by
    intro H locs ls h hP hD hS hl
    unfold X0_isLotOf_b42 at h
    refine lv_iload hx hb dX0_isLotOf_42 (lv_at hl 2 rfl) ?_
    refine lv_iconst (v := (-1 : Int32)) hx hb dX0_isLotOf_44 (by decide) ?_
    refine lv_icmp_eq (tgt := 59) hx hb dX0_isLotOf_45 (by decide) (fun c1 => ?_) (fun c1 => ?_)
    · have h := (if_pos c1).symm.trans h
      refine lv_iconst (v := (1 : Int32)) hx hb dX0_isLotOf_59 (by decide) ?_
      refine lv_goto (tgt := 64) hx hb dX0_isLotOf_60 (by decide) ?_
      cases h
      exact endZ hx hb hr hlocks hP hS ⟨rfl, rfl⟩ dX0_isLotOf_64
    · have h := (if_neg c1).symm.trans h
      refine lv_iload hx hb dX0_isLotOf_48 (lv_at hl 2 rfl) ?_
      refine lv_aload_n hx hb dX0_isLotOf_50 rfl (lv_at hl 0 rfl) ?_
      refine va_get (D := D) (ci := 0) (v := .ref (adB 10)) (C := RX0) (T := TX0) (N := 13) hx hb hts iw_X0_isLotOf_X0 hown hK hP 0 rfl rfl 9 (by decide) (hts (.fieldLink RX0 39 "FavourRings$Bank" "kinds" "[I") (List.mem_of_getElem? (i := 3) rfl)) (fun _ h9 => h9) rfl dX0_isLotOf_51 ?_
      refine lv_iload_n hx hb dX0_isLotOf_54 rfl (lv_at hl 1 rfl) ?_
      obtain ⟨y2, ey2, h⟩ := bd_in h
      refine ldR hx hb hK hP 10 0 rfl rfl ey2 dX0_isLotOf_55 ?_
      refine lv_icmp_ne (tgt := 63) hx hb dX0_isLotOf_56 (by decide) (fun c3 => ?_) (fun c3 => ?_)
      · have h := (if_neg c3).symm.trans h
        refine lv_iconst (v := (0 : Int32)) hx hb dX0_isLotOf_63 (by decide) ?_
        cases h
        exact endZ hx hb hr hlocks hP hS ⟨rfl, rfl⟩ dX0_isLotOf_64
      · have h := (if_pos c3).symm.trans h
        refine lv_iconst (v := (1 : Int32)) hx hb dX0_isLotOf_59 (by decide) ?_
        refine lv_goto (tgt := 64) hx hb dX0_isLotOf_60 (by decide) ?_
        cases h
        exact endZ hx hb hr hlocks hP hS ⟨rfl, rfl⟩ dX0_isLotOf_64
  have B27 : ∀  (H : Heap) (locs : List Loc) (ls : Array Slot), X0_isLotOf_b27 vB p1 p2 p3 p4 = some o → va_P D vwCl (wB cA adB vB) H → va_D A (wB cA adB vB) → va_S A s.heap H locs → lv_has ls 5 [(0, .ref (adB 0)), (1, .int p1), (3, .int p3), (4, .int p4)] → W p l e (headSpec wsX0_isLotOf ({ frames := 0, cells := 0, slots := 0, locals := 0 })).room s m ([.ref (adB 0), .int p1, .int p2, .int p3, .int p4] : List Value).toArray below meth c H locs 0 0 (MQ below (QI D (wB cA adB vB) o A) ([.ref (adB 0), .int p1, .int p2, .int p3, .int p4] : List Value).toArray s 0 0 A) (F0 m 27 ls []) := by
    intro H locs ls h hP hD hS hl
    unfold X0_isLotOf_b27 at h
    refine lv_iload_n hx hb dX0_isLotOf_27 rfl (lv_at hl 2 rfl) ?_
    refine lv_iconst (v := (-1 : Int32)) hx hb dX0_isLotOf_28 (by decide) ?_
    refine lv_icmp_eq (tgt := 42) hx hb dX0_isLotOf_29 (by decide) (fun c4 => ?_) (fun c4 => ?_)
    · have h := (if_pos c4).symm.trans h
      exact B42 _ _ _ h hP hD hS (lv_sub hl [0, 1, 3] rfl)
    · have h := (if_neg c4).symm.trans h
      refine lv_iload_n hx hb dX0_isLotOf_32 rfl (lv_at hl 2 rfl) ?_
      refine lv_aload_n hx hb dX0_isLotOf_33 rfl (lv_at hl 0 rfl) ?_
      refine va_get (D := D) (ci := 0) (v := .ref (adB 9)) (C := RX0) (T := TX0) (N := 13) hx hb hts iw_X0_isLotOf_X0 hown hK hP 0 rfl rfl 8 (by decide) (hts (.fieldLink RX0 36 "FavourRings$Bank" "creditors" "[I") (List.mem_of_getElem? (i := 2) rfl)) (fun _ h9 => h9) rfl dX0_isLotOf_34 ?_
      refine lv_iload_n hx hb dX0_isLotOf_37 rfl (lv_at hl 1 rfl) ?_
      obtain ⟨y5, ey5, h⟩ := bd_in h
      refine ldR hx hb hK hP 9 0 rfl rfl ey5 dX0_isLotOf_38 ?_
      refine lv_icmp_ne (tgt := 63) hx hb dX0_isLotOf_39 (by decide) (fun c6 => ?_) (fun c6 => ?_)
      · have h := (if_neg c6).symm.trans h
        refine lv_iconst (v := (0 : Int32)) hx hb dX0_isLotOf_63 (by decide) ?_
        cases h
        exact endZ hx hb hr hlocks hP hS ⟨rfl, rfl⟩ dX0_isLotOf_64
      · have h := (if_pos c6).symm.trans h
        exact B42 _ _ _ h hP hD hS (lv_sub hl [0, 1, 3] rfl)
  have h := hf
  unfold X0_isLotOf at h
  refine lv_iload_n hx hb dX0_isLotOf_0 rfl (lv_at hl 1 rfl) ?_
  refine lv_if_lt (tgt := 10) hx hb dX0_isLotOf_1 (by decide) (fun c7 => ?_) (fun c7 => ?_)
  · have h := (if_pos c7).symm.trans h
    refine lv_iconst (v := (0 : Int32)) hx hb dX0_isLotOf_10 (by decide) ?_
    cases h
    exact endZ hx hb hr hlocks hP hS ⟨rfl, rfl⟩ dX0_isLotOf_11
  · have h := (if_neg c7).symm.trans h
    refine lv_iload_n hx hb dX0_isLotOf_4 rfl (lv_at hl 1 rfl) ?_
    refine lv_bipush (v := (40 : Int32)) hx hb dX0_isLotOf_5 (by decide) ?_
    refine lv_icmp_lt (tgt := 12) hx hb dX0_isLotOf_7 (by decide) (fun c8 => ?_) (fun c8 => ?_)
    · have h := (if_pos c8).symm.trans h
      refine lv_iload_n hx hb dX0_isLotOf_12 rfl (lv_at hl 2 rfl) ?_
      refine lv_iconst (v := (-1 : Int32)) hx hb dX0_isLotOf_13 (by decide) ?_
      refine lv_icmp_eq (tgt := 27) hx hb dX0_isLotOf_14 (by decide) (fun c9 => ?_) (fun c9 => ?_)
      · have h := (if_pos c9).symm.trans h
        exact B27 _ _ _ h hP hD hS (lv_sub hl [0, 1, 3, 4] rfl)
      · have h := (if_neg c9).symm.trans h
        refine lv_iload_n hx hb dX0_isLotOf_17 rfl (lv_at hl 2 rfl) ?_
        refine lv_aload_n hx hb dX0_isLotOf_18 rfl (lv_at hl 0 rfl) ?_
        refine va_get (D := D) (ci := 0) (v := .ref (adB 8)) (C := RX0) (T := TX0) (N := 13) hx hb hts iw_X0_isLotOf_X0 hown hK hP 0 rfl rfl 7 (by decide) (hts (.fieldLink RX0 33 "FavourRings$Bank" "debtors" "[I") (List.mem_of_getElem? (i := 1) rfl)) (fun _ h9 => h9) rfl dX0_isLotOf_19 ?_
        refine lv_iload_n hx hb dX0_isLotOf_22 rfl (lv_at hl 1 rfl) ?_
        obtain ⟨y10, ey10, h⟩ := bd_in h
        refine ldR hx hb hK hP 8 0 rfl rfl ey10 dX0_isLotOf_23 ?_
        refine lv_icmp_ne (tgt := 63) hx hb dX0_isLotOf_24 (by decide) (fun c11 => ?_) (fun c11 => ?_)
        · have h := (if_neg c11).symm.trans h
          refine lv_iconst (v := (0 : Int32)) hx hb dX0_isLotOf_63 (by decide) ?_
          cases h
          exact endZ hx hb hr hlocks hP hS ⟨rfl, rfl⟩ dX0_isLotOf_64
        · have h := (if_pos c11).symm.trans h
          exact B27 _ _ _ h hP hD hS (lv_sub hl [0, 1, 3, 4] rfl)
    · have h := (if_neg c8).symm.trans h
      refine lv_iconst (v := (0 : Int32)) hx hb dX0_isLotOf_10 (by decide) ?_
      cases h
      exact endZ hx hb hr hlocks hP hS ⟨rfl, rfl⟩ dX0_isLotOf_11
set_option maxHeartbeats 4000000 in
set_option maxRecDepth 100000 in
theorem c_X4_at (l : Launch) (D : va_G) (cA cQ : ClassId) (a1 : Nat) (n1 : Nat) (f1 : Nat → Int32) (p1 : Int32) (o : Int32) (hf : X4_at f1 n1 p1 = some o) : Cti l yX4_at wsX4_at ({ frames := 0, cells := 0, slots := 0, locals := 0 }) D (TY cA cQ) [.ref a1, .int p1] (wA cA a1 n1 f1) (wA cA a1 n1 f1) o := by
  refine Wk.i (cc := cX4_at) (maxL := 2) (ret := (some .int)) (by decide) rfl (Nat.le_of_ble_eq_true rfl) ?_
  intro p e s m below meth c A ls hx hb hr hlocks hml hown hts hK hN hP hD hA hl
  have hown : s.vm.findClass RX4 = some m.cls := hown
  have hS : va_S A s.heap s.heap [] := va_S.rf
  have hl : lv_has ls 2 [(0, .ref a1), (1, .int p1)] := hl
  have h := hf
  unfold X4_at at h
  refine lv_iload_n hx hb dX4_at_0 rfl (lv_at hl 1 rfl) ?_
  refine lv_if_lt (tgt := 16) hx hb dX4_at_1 (by decide) (fun c1 => ?_) (fun c1 => ?_)
  · have h := (if_pos c1).symm.trans h
    refine lv_iconst (v := (0 : Int32)) hx hb dX4_at_16 (by decide) ?_
    cases h
    exact endI hx hb hr hlocks hP hS rfl dX4_at_17
  · have h := (if_neg c1).symm.trans h
    refine lv_iload_n hx hb dX4_at_4 rfl (lv_at hl 1 rfl) ?_
    refine lv_aload_n hx hb dX4_at_5 rfl (lv_at hl 0 rfl) ?_
    refine va_alen hx hb hK hP 0 0 rfl rfl (v := (Int32.ofNat n1)) rfl dX4_at_6 ?_
    refine lv_icmp_ge (tgt := 16) hx hb dX4_at_7 (by decide) (fun c2 => ?_) (fun c2 => ?_)
    · have h := (if_pos c2).symm.trans h
      refine lv_iconst (v := (0 : Int32)) hx hb dX4_at_16 (by decide) ?_
      cases h
      exact endI hx hb hr hlocks hP hS rfl dX4_at_17
    · have h := (if_neg c2).symm.trans h
      refine lv_aload_n hx hb dX4_at_10 rfl (lv_at hl 0 rfl) ?_
      refine lv_iload_n hx hb dX4_at_11 rfl (lv_at hl 1 rfl) ?_
      obtain ⟨y3, ey3, h⟩ := bd_in h
      refine ldR hx hb hK hP 0 0 rfl rfl ey3 dX4_at_12 ?_
      refine lv_goto (tgt := 17) hx hb dX4_at_13 (by decide) ?_
      cases h
      exact endI hx hb hr hlocks hP hS rfl dX4_at_17
theorem iw_X0_sumOwed_X0 : ∀ w ∈ wsX00, w ∈ wsX0_sumOwed := fun _ h => List.mem_cons_of_mem _ (List.mem_append_right _ (h))
set_option maxHeartbeats 4000000 in
set_option maxRecDepth 100000 in
theorem c_X0_sumOwed (l : Launch) (D : va_G) (cA cQ : ClassId) (adB : Nat → Nat) (vB : St) (p1 : Int32) (p2 : Int32) (p3 : Int32) (o : Int32) (hf : X0_sumOwed vB p1 p2 p3 = some o) : Cti l yX0_sumOwed wsX0_sumOwed ({ frames := 1, cells := 0, slots := 0, locals := 24 }) D (TY cA cQ) [.ref (adB 0), .int p1, .int p2, .int p3] (wB cA adB vB) (wB cA adB vB) o := by
  refine Wk.i (cc := cX0_sumOwed) (maxL := 6) (ret := (some .int)) (by decide) rfl (Nat.le_of_ble_eq_true rfl) ?_
  intro p e s m below meth c A ls hx hb hr hlocks hml hown hts hK hN hP hD hA hl
  have hown : s.vm.findClass RX0 = some m.cls := hown
  have hS : va_S A s.heap s.heap [] := va_S.rf
  have hl : lv_has ls 6 [(0, .ref (adB 0)), (1, .int p1), (2, .int p2), (3, .int p3)] := hl
  have B6 : ∀ (fu6 : Nat) (x4 : Int32) (x5 : Int32) (H : Heap) (locs : List Loc) (ls : Array Slot), X0_sumOwed_l6 vB p1 p2 p3 fu6 x4 x5 = some o → va_P D vwCl (wB cA adB vB) H → va_D A (wB cA adB vB) → va_S A s.heap H locs → lv_has ls 6 [(0, .ref (adB 0)), (1, .int p1), (2, .int p2), (3, .int p3), (4, .int x4), (5, .int x5)] → W p l e (headSpec wsX0_sumOwed ({ frames := 1, cells := 0, slots := 0, locals := 24 })).room s m ([.ref (adB 0), .int p1, .int p2, .int p3] : List Value).toArray below meth c H locs 0 0 (MQ below (QI D (wB cA adB vB) o A) ([.ref (adB 0), .int p1, .int p2, .int p3] : List Value).toArray s 0 0 A) (F0 m 6 ls []) := by
    intro fu6
    induction fu6 with
    | zero =>
      intro x4 x5 H locs ls h hP hD hS hl
      cases h
    | succ fu6 ih6 =>
      intro x4 x5 H locs ls h hP hD hS hl
      rw [X0_sumOwed_l6] at h
      refine lv_iload hx hb dX0_sumOwed_6 (lv_at hl 5 rfl) ?_
      refine lv_aload_n hx hb dX0_sumOwed_8 rfl (lv_at hl 0 rfl) ?_
      refine lv_iconst (v := (2 : Int32)) hx hb dX0_sumOwed_9 (by decide) ?_
      obtain ⟨u1, eu1, h⟩ := bd_in h
      refine kI (va_runV (As := [.int (2 : Int32)]) (rest := [.int x5]) ⟨hx, hb, hml, hown, hts⟩ (c_X0_number l D cA cQ adB vB (2 : Int32) u1 eu1 H.size) (cwV 1 hts gX0_sumOwed_X0_number rfl rfl rfl (by decide +kernel) ⟨Nat.le_of_ble_eq_true rfl, Nat.le_of_ble_eq_true rfl⟩) (pV (ci := 0) (q := (RX0, TX0, 13)) hK hN hP hD [0, 1, 2, 3, 4, 5, 6, 7, 8, 9, 10, 11, 12, 13] rfl rfl rfl rfl) rfl rfl hl.1 rfl (lv_room (Nat.le_of_ble_eq_true rfl)) dX0_sumOwed_10 ⟨Nat.zero_le _, Nat.zero_le _⟩) hP hD hS hA [0, 1, 2, 3, 4, 5, 6, 7, 8, 9, 10, 11, 12, 13] rfl rfl (ws' := (wB cA adB vB)) rfl (fun H locs hP hD hS => ?_)
      refine lv_icmp_ge (tgt := 48) hx hb dX0_sumOwed_13 (by decide) (fun c2 => ?_) (fun c2 => ?_)
      · have h := (if_pos c2).symm.trans h
        refine lv_iload hx hb dX0_sumOwed_48 (lv_at hl 4 rfl) ?_
        cases h
        exact endI hx hb hr hlocks hP hS rfl dX0_sumOwed_50
      · have h := (if_neg c2).symm.trans h
        refine lv_aload_n hx hb dX0_sumOwed_16 rfl (lv_at hl 0 rfl) ?_
        refine lv_iload hx hb dX0_sumOwed_17 (lv_at hl 5 rfl) ?_
        refine lv_iload_n hx hb dX0_sumOwed_19 rfl (lv_at hl 1 rfl) ?_
        refine lv_iload_n hx hb dX0_sumOwed_20 rfl (lv_at hl 2 rfl) ?_
        refine lv_iload_n hx hb dX0_sumOwed_21 rfl (lv_at hl 3 rfl) ?_
        obtain ⟨u3, eu3, h⟩ := bd_in h
        refine kI (va_runV (As := [.int x5, .int p1, .int p2, .int p3]) (rest := []) ⟨hx, hb, hml, hown, hts⟩ (c_X0_isLotOf l D cA cQ adB vB x5 p1 p2 p3 u3 eu3 H.size) (cwV 4 hts gX0_sumOwed_X0_isLotOf rfl rfl rfl (by decide +kernel) ⟨Nat.le_of_ble_eq_true rfl, Nat.le_of_ble_eq_true rfl⟩) (pV (ci := 0) (q := (RX0, TX0, 13)) hK hN hP hD [0, 1, 2, 3, 4, 5, 6, 7, 8, 9, 10, 11, 12, 13] rfl rfl rfl rfl) rfl rfl hl.1 rfl (lv_room (Nat.le_of_ble_eq_true rfl)) dX0_sumOwed_22 ⟨Nat.zero_le _, Nat.zero_le _⟩) hP hD hS hA [0, 1, 2, 3, 4, 5, 6, 7, 8, 9, 10, 11, 12, 13] rfl rfl (ws' := (wB cA adB vB)) rfl (fun H locs hP hD hS => ?_)
        refine lv_if_eq (tgt := 42) hx hb dX0_sumOwed_25 (by decide) (fun c4 => ?_) (fun c4 => ?_)
        · have h := (if_pos c4).symm.trans h
          refine lv_iinc (v := (x5 + (1 : Int32))) (lv' := [(5, .int (x5 + (1 : Int32))), (0, .ref (adB 0)), (1, .int p1), (2, .int p2), (3, .int p3), (4, .int x4)]) hx hb dX0_sumOwed_42 hl (k := 5) rfl rfl (by decide) rfl (fun ls hl => ?_)
          refine lv_goto (tgt := 6) hx hb dX0_sumOwed_45 (by decide) ?_
          exact ih6 x4 (x5 + (1 : Int32)) _ _ _ h hP hD hS (lv_sub hl [1, 2, 3, 4, 5, 0] rfl)
        · have h := (if_neg c4).symm.trans h
          refine lv_iload hx hb dX0_sumOwed_28 (lv_at hl 4 rfl) ?_
          refine lv_aload_n hx hb dX0_sumOwed_30 rfl (lv_at hl 0 rfl) ?_
          refine va_get (D := D) (ci := 0) (v := .ref (adB 11)) (C := RX0) (T := TX0) (N := 13) hx hb hts iw_X0_sumOwed_X0 hown hK hP 0 rfl rfl 10 (by decide) (hts (.fieldLink RX0 42 "FavourRings$Bank" "sizes" "[I") (List.mem_of_getElem? (i := 1) rfl)) (fun _ h9 => h9) rfl dX0_sumOwed_31 ?_
          refine lv_iload hx hb dX0_sumOwed_34 (lv_at hl 5 rfl) ?_
          obtain ⟨u5, eu5, h⟩ := bd_in h
          refine kI (va_runSN (As := [.ref (adB 11), .int x5]) (rest := [.int x4]) ⟨hx, hb, hml, hown, hts⟩ (c_X4_at l D cA cQ (adB 11) 40 (vB 11) x5 u5 eu5 H.size) ⟨va_cnB 2 hts gX0_sumOwed_X4_at_n77 rfl rfl rfl hN.2.2.2.1 (hts (.initialized RX4) (List.mem_of_getElem? (i := 16) rfl)) (by decide +kernel) ⟨Nat.le_of_ble_eq_true rfl, Nat.le_of_ble_eq_true rfl⟩, (hts (.static yX4_at) (List.mem_of_getElem? (i := 15) rfl)), trivial⟩ (pS hK hN hP hD [11] rfl rfl) rfl rfl hl.1 rfl (lv_room (Nat.le_of_ble_eq_true rfl)) dX0_sumOwed_36 ⟨Nat.zero_le _, Nat.zero_le _⟩) hP hD hS hA [11] rfl rfl (ws' := (wB cA adB vB)) rfl (fun H locs hP hD hS => ?_)
          refine lv_iadd hx hb dX0_sumOwed_39 ?_
          refine lv_istore (lv' := [(4, .int (x4 + u5)), (0, .ref (adB 0)), (1, .int p1), (2, .int p2), (3, .int p3), (5, .int x5)]) hx hb dX0_sumOwed_40 hl (by decide) rfl (fun ls hl => ?_)
          refine lv_iinc (v := (x5 + (1 : Int32))) (lv' := [(5, .int (x5 + (1 : Int32))), (4, .int (x4 + u5)), (0, .ref (adB 0)), (1, .int p1), (2, .int p2), (3, .int p3)]) hx hb dX0_sumOwed_42 hl (k := 5) rfl rfl (by decide) rfl (fun ls hl => ?_)
          refine lv_goto (tgt := 6) hx hb dX0_sumOwed_45 (by decide) ?_
          exact ih6 (x4 + u5) (x5 + (1 : Int32)) _ _ _ h hP hD hS (lv_sub hl [2, 3, 4, 5, 1, 0] rfl)
  have h := hf
  unfold X0_sumOwed at h
  refine lv_iconst (v := (0 : Int32)) hx hb dX0_sumOwed_0 (by decide) ?_
  refine lv_istore (lv' := [(4, .int (0 : Int32)), (0, .ref (adB 0)), (1, .int p1), (2, .int p2), (3, .int p3)]) hx hb dX0_sumOwed_1 hl (by decide) rfl (fun ls hl => ?_)
  refine lv_iconst (v := (0 : Int32)) hx hb dX0_sumOwed_3 (by decide) ?_
  refine lv_istore (lv' := [(5, .int (0 : Int32)), (4, .int (0 : Int32)), (0, .ref (adB 0)), (1, .int p1), (2, .int p2), (3, .int p3)]) hx hb dX0_sumOwed_4 hl (by decide) rfl (fun ls hl => ?_)
  exact B6 FU (0 : Int32) (0 : Int32) _ _ _ h hP hD hS (lv_sub hl [2, 3, 4, 5, 1, 0] rfl)
set_option maxHeartbeats 4000000 in
set_option maxRecDepth 100000 in
theorem c_X0_balanceByLots (l : Launch) (D : va_G) (cA cQ : ClassId) (adB : Nat → Nat) (vB : St) (p1 : Int32) (o : Int32) (hf : X0_balanceByLots vB p1 = some o) : Cti l yX0_balanceByLots wsX0_balanceByLots ({ frames := 2, cells := 0, slots := 0, locals := 49 }) D (TY cA cQ) [.ref (adB 0), .int p1] (wB cA adB vB) (wB cA adB vB) o := by
  refine Wk.i (cc := cX0_balanceByLots) (maxL := 2) (ret := (some .int)) (by decide) rfl (Nat.le_of_ble_eq_true rfl) ?_
  intro p e s m below meth c A ls hx hb hr hlocks hml hown hts hK hN hP hD hA hl
  have hown : s.vm.findClass RX0 = some m.cls := hown
  have hS : va_S A s.heap s.heap [] := va_S.rf
  have hl : lv_has ls 2 [(0, .ref (adB 0)), (1, .int p1)] := hl
  have h := hf
  unfold X0_balanceByLots at h
  refine lv_aload_n hx hb dX0_balanceByLots_0 rfl (lv_at hl 0 rfl) ?_
  refine lv_iconst (v := (-1 : Int32)) hx hb dX0_balanceByLots_1 (by decide) ?_
  refine lv_iload_n hx hb dX0_balanceByLots_2 rfl (lv_at hl 1 rfl) ?_
  refine lv_iconst (v := (-1 : Int32)) hx hb dX0_balanceByLots_3 (by decide) ?_
  obtain ⟨u1, eu1, h⟩ := bd_in h
  refine kI (va_runV (As := [.int (-1 : Int32), .int p1, .int (-1 : Int32)]) (rest := []) ⟨hx, hb, hml, hown, hts⟩ (c_X0_sumOwed l D cA cQ adB vB (-1 : Int32) p1 (-1 : Int32) u1 eu1 H.size) (cwV 3 hts gX0_balanceByLots_X0_sumOwed rfl rfl rfl (by decide +kernel) ⟨Nat.le_of_ble_eq_true rfl, Nat.le_of_ble_eq_true rfl⟩) (pV (ci := 0) (q := (RX0, TX0, 13)) hK hN hP hD [0, 1, 2, 3, 4, 5, 6, 7, 8, 9, 10, 11, 12, 13] rfl rfl rfl rfl) rfl rfl hl.1 rfl (lv_room (Nat.le_of_ble_eq_true rfl)) dX0_balanceByLots_4 ⟨Nat.zero_le _, Nat.zero_le _⟩) hP hD hS hA [0, 1, 2, 3, 4, 5, 6, 7, 8, 9, 10, 11, 12, 13] rfl rfl (ws' := (wB cA adB vB)) rfl (fun H locs hP hD hS => ?_)
  refine lv_aload_n hx hb dX0_balanceByLots_7 rfl (lv_at hl 0 rfl) ?_
  refine lv_iload_n hx hb dX0_balanceByLots_8 rfl (lv_at hl 1 rfl) ?_
  refine lv_iconst (v := (-1 : Int32)) hx hb dX0_balanceByLots_9 (by decide) ?_
  refine lv_iconst (v := (-1 : Int32)) hx hb dX0_balanceByLots_10 (by decide) ?_
  obtain ⟨u2, eu2, h⟩ := bd_in h
  refine kI (va_runV (As := [.int p1, .int (-1 : Int32), .int (-1 : Int32)]) (rest := [.int u1]) ⟨hx, hb, hml, hown, hts⟩ (c_X0_sumOwed l D cA cQ adB vB p1 (-1 : Int32) (-1 : Int32) u2 eu2 H.size) (cwV 3 hts gX0_balanceByLots_X0_sumOwed rfl rfl rfl (by decide +kernel) ⟨Nat.le_of_ble_eq_true rfl, Nat.le_of_ble_eq_true rfl⟩) (pV (ci := 0) (q := (RX0, TX0, 13)) hK hN hP hD [0, 1, 2, 3, 4, 5, 6, 7, 8, 9, 10, 11, 12, 13] rfl rfl rfl rfl) rfl rfl hl.1 rfl (lv_room (Nat.le_of_ble_eq_true rfl)) dX0_balanceByLots_11 ⟨Nat.zero_le _, Nat.zero_le _⟩) hP hD hS hA [0, 1, 2, 3, 4, 5, 6, 7, 8, 9, 10, 11, 12, 13] rfl rfl (ws' := (wB cA adB vB)) rfl (fun H locs hP hD hS => ?_)
  refine lv_isub hx hb dX0_balanceByLots_14 ?_
  cases h
  exact endI hx hb hr hlocks hP hS rfl dX0_balanceByLots_15
set_option maxHeartbeats 4000000 in
set_option maxRecDepth 100000 in
theorem c_X4_mostOfSetting (l : Launch) (D : va_G) (cA cQ : ClassId) (p0 : Int32) (o : Int32) (hf : X4_mostOfSetting p0 = some o) : Cti l yX4_mostOfSetting wsX4_mostOfSetting ({ frames := 0, cells := 0, slots := 0, locals := 0 }) D (TY cA cQ) [.int p0] ([] : va_W) ([] : va_W) o := by
  refine Wk.i (cc := cX4_mostOfSetting) (maxL := 1) (ret := (some .int)) (by decide) rfl (Nat.le_of_ble_eq_true rfl) ?_
  intro p e s m below meth c A ls hx hb hr hlocks hml hown hts hK hN hP hD hA hl
  have hown : s.vm.findClass RX4 = some m.cls := hown
  have hS : va_S A s.heap s.heap [] := va_S.rf
  have hl : lv_has ls 1 [(0, .int p0)] := hl
  have h := hf
  unfold X4_mostOfSetting at h
  refine lv_iload_n hx hb dX4_mostOfSetting_0 rfl (lv_at hl 0 rfl) ?_
  refine lv_iconst (v := (4 : Int32)) hx hb dX4_mostOfSetting_1 (by decide) ?_
  refine lv_icmp_ne (tgt := 10) hx hb dX4_mostOfSetting_2 (by decide) (fun c1 => ?_) (fun c1 => ?_)
  · have h := (if_neg c1).symm.trans h
    refine lv_bipush (v := (20 : Int32)) hx hb dX4_mostOfSetting_10 (by decide) ?_
    cases h
    exact endI hx hb hr hlocks hP hS rfl dX4_mostOfSetting_12
  · have h := (if_pos c1).symm.trans h
    refine lv_bipush (v := (99 : Int32)) hx hb dX4_mostOfSetting_5 (by decide) ?_
    refine lv_goto (tgt := 12) hx hb dX4_mostOfSetting_7 (by decide) ?_
    cases h
    exact endI hx hb hr hlocks hP hS rfl dX4_mostOfSetting_12
theorem iw_X0_changeSetting_X0 : ∀ w ∈ wsX00, w ∈ wsX0_changeSetting := fun _ h => List.mem_cons_of_mem _ (List.mem_append_right _ (h))
set_option maxHeartbeats 4000000 in
set_option maxRecDepth 100000 in
theorem c_X0_changeSetting (l : Launch) (D : va_G) (cA cQ : ClassId) (adB : Nat → Nat) (vB : St) (p1 : Int32) (p2 : Int32) (o : Int32 × St) (hf : X0_changeSetting vB p1 p2 = some o) : Cti l yX0_changeSetting wsX0_changeSetting ({ frames := 1, cells := 0, slots := 0, locals := 22 }) D (TY cA cQ) [.ref (adB 0), .int p1, .int p2] (wB cA adB vB) (wB cA adB o.2) o.1 := by
  refine Wk.i (cc := cX0_changeSetting) (maxL := 4) (ret := (some .int)) (by decide) rfl (Nat.le_of_ble_eq_true rfl) ?_
  intro p e s m below meth c A ls hx hb hr hlocks hml hown hts hK hN hP hD hA hl
  have hown : s.vm.findClass RX0 = some m.cls := hown
  have hS : va_S A s.heap s.heap [] := va_S.rf
  have hl : lv_has ls 4 [(0, .ref (adB 0)), (1, .int p1), (2, .int p2)] := hl
  have h := hf
  unfold X0_changeSetting at h
  refine lv_iload_n hx hb dX0_changeSetting_0 rfl (lv_at hl 1 rfl) ?_
  refine lv_if_lt (tgt := 23) hx hb dX0_changeSetting_1 (by decide) (fun c1 => ?_) (fun c1 => ?_)
  · have h := (if_pos c1).symm.trans h
    refine lv_ldc (v := (-1000001 : Int32)) hx hb hown (hts (.constant RX0 93 (-1000001)) (List.mem_of_getElem? (i := 1) rfl)) dX0_changeSetting_23 ?_
    cases h
    exact endI hx hb hr hlocks hP hS rfl dX0_changeSetting_25
  · have h := (if_neg c1).symm.trans h
    refine lv_iload_n hx hb dX0_changeSetting_4 rfl (lv_at hl 1 rfl) ?_
    refine lv_bipush (v := (6 : Int32)) hx hb dX0_changeSetting_5 (by decide) ?_
    refine lv_icmp_ge (tgt := 23) hx hb dX0_changeSetting_7 (by decide) (fun c2 => ?_) (fun c2 => ?_)
    · have h := (if_pos c2).symm.trans h
      refine lv_ldc (v := (-1000001 : Int32)) hx hb hown (hts (.constant RX0 93 (-1000001)) (List.mem_of_getElem? (i := 1) rfl)) dX0_changeSetting_23 ?_
      cases h
      exact endI hx hb hr hlocks hP hS rfl dX0_changeSetting_25
    · have h := (if_neg c2).symm.trans h
      refine lv_iload_n hx hb dX0_changeSetting_10 rfl (lv_at hl 2 rfl) ?_
      refine lv_iconst (v := (1 : Int32)) hx hb dX0_changeSetting_11 (by decide) ?_
      refine lv_icmp_lt (tgt := 23) hx hb dX0_changeSetting_12 (by decide) (fun c3 => ?_) (fun c3 => ?_)
      · have h := (if_pos c3).symm.trans h
        refine lv_ldc (v := (-1000001 : Int32)) hx hb hown (hts (.constant RX0 93 (-1000001)) (List.mem_of_getElem? (i := 1) rfl)) dX0_changeSetting_23 ?_
        cases h
        exact endI hx hb hr hlocks hP hS rfl dX0_changeSetting_25
      · have h := (if_neg c3).symm.trans h
        refine lv_iload_n hx hb dX0_changeSetting_15 rfl (lv_at hl 2 rfl) ?_
        refine lv_iload_n hx hb dX0_changeSetting_16 rfl (lv_at hl 1 rfl) ?_
        obtain ⟨u4, eu4, h⟩ := bd_in h
        refine kI (va_runSN (As := [.int p1]) (rest := [.int p2]) ⟨hx, hb, hml, hown, hts⟩ (c_X4_mostOfSetting l D cA cQ  p1 u4 eu4 H.size) ⟨va_cnB 1 hts gX0_changeSetting_X4_mostOfSetting_n147 rfl rfl rfl hN.2.2.2.2.2.2.2.1 (hts (.initialized RX4) (List.mem_of_getElem? (i := 4) rfl)) (by decide +kernel) ⟨Nat.le_of_ble_eq_true rfl, Nat.le_of_ble_eq_true rfl⟩, (hts (.static yX4_mostOfSetting) (List.mem_of_getElem? (i := 3) rfl)), trivial⟩ (pS hK hN hP hD [] rfl rfl) rfl rfl hl.1 rfl (lv_room (Nat.le_of_ble_eq_true rfl)) dX0_changeSetting_17 ⟨Nat.zero_le _, Nat.zero_le _⟩) hP hD hS hA [] rfl rfl (ws' := (wB cA adB vB)) rfl (fun H locs hP hD hS => ?_)
        refine lv_icmp_le (tgt := 26) hx hb dX0_changeSetting_20 (by decide) (fun c5 => ?_) (fun c5 => ?_)
        · have h := (if_pos c5).symm.trans h
          refine lv_aload_n hx hb dX0_changeSetting_26 rfl (lv_at hl 0 rfl) ?_
          refine lv_bipush (v := (20 : Int32)) hx hb dX0_changeSetting_27 (by decide) ?_
          refine lv_iload_n hx hb dX0_changeSetting_29 rfl (lv_at hl 1 rfl) ?_
          refine lv_iadd hx hb dX0_changeSetting_30 ?_
          obtain ⟨u6, eu6, h⟩ := bd_in h
          refine kI (va_runV (As := [.int ((20 : Int32) + p1)]) (rest := []) ⟨hx, hb, hml, hown, hts⟩ (c_X0_number l D cA cQ adB vB ((20 : Int32) + p1) u6 eu6 H.size) (cwV 1 hts gX0_changeSetting_X0_number rfl rfl rfl (by decide +kernel) ⟨Nat.le_of_ble_eq_true rfl, Nat.le_of_ble_eq_true rfl⟩) (pV (ci := 0) (q := (RX0, TX0, 13)) hK hN hP hD [0, 1, 2, 3, 4, 5, 6, 7, 8, 9, 10, 11, 12, 13] rfl rfl rfl rfl) rfl rfl hl.1 rfl (lv_room (Nat.le_of_ble_eq_true rfl)) dX0_changeSetting_31 ⟨Nat.zero_le _, Nat.zero_le _⟩) hP hD hS hA [0, 1, 2, 3, 4, 5, 6, 7, 8, 9, 10, 11, 12, 13] rfl rfl (ws' := (wB cA adB vB)) rfl (fun H locs hP hD hS => ?_)
          refine lv_istore_n (lv' := [(3, .int u6), (0, .ref (adB 0)), (1, .int p1), (2, .int p2)]) hx hb dX0_changeSetting_34 rfl hl (by decide) rfl (fun ls hl => ?_)
          refine lv_aload_n hx hb dX0_changeSetting_35 rfl (lv_at hl 1 rfl) ?_
          refine va_get (D := D) (ci := 0) (v := .ref (adB 1)) (C := RX0) (T := TX0) (N := 13) hx hb hts iw_X0_changeSetting_X0 hown hK hP 0 rfl rfl 0 (by decide) (hts (.fieldLink RX0 9 "FavourRings$Bank" "numbers" "[I") (List.mem_of_getElem? (i := 2) rfl)) (fun _ h9 => h9) rfl dX0_changeSetting_36 ?_
          refine lv_bipush (v := (20 : Int32)) hx hb dX0_changeSetting_39 (by decide) ?_
          refine lv_iload_n hx hb dX0_changeSetting_41 rfl (lv_at hl 2 rfl) ?_
          refine lv_iadd hx hb dX0_changeSetting_42 ?_
          refine lv_iload_n hx hb dX0_changeSetting_43 rfl (lv_at hl 3 rfl) ?_
          obtain ⟨u7, eu7, h⟩ := bd_in h
          refine kV (va_runSN (As := [.ref (adB 1), .int ((20 : Int32) + p1), .int p2]) (rest := []) ⟨hx, hb, hml, hown, hts⟩ (c_X4_put l D cA cQ (adB 1) 26 (vB 1) ((20 : Int32) + p1) p2 u7 eu7 H.size) ⟨va_cnB 3 hts gX0_changeSetting_X4_put_n55 rfl rfl rfl hN.2.1 (hts (.initialized RX4) (List.mem_of_getElem? (i := 4) rfl)) (by decide +kernel) ⟨Nat.le_of_ble_eq_true rfl, Nat.le_of_ble_eq_true rfl⟩, (hts (.static yX4_put) (List.mem_of_getElem? (i := 11) rfl)), trivial⟩ (pS hK hN hP hD [1] rfl rfl) rfl rfl hl.1 rfl (lv_room (Nat.le_of_ble_eq_true rfl)) dX0_changeSetting_44 ⟨Nat.zero_le _, Nat.zero_le _⟩) hP hD hS hA [1] rfl rfl (ws' := (wB cA adB (setA vB 1 u7))) rfl (fun H locs hP hD hS => ?_)
          refine lv_iload_n hx hb dX0_changeSetting_47 rfl (lv_at hl 0 rfl) ?_
          cases h
          exact endI hx hb hr hlocks hP hS rfl dX0_changeSetting_48
        · have h := (if_neg c5).symm.trans h
          refine lv_ldc (v := (-1000001 : Int32)) hx hb hown (hts (.constant RX0 93 (-1000001)) (List.mem_of_getElem? (i := 1) rfl)) dX0_changeSetting_23 ?_
          cases h
          exact endI hx hb hr hlocks hP hS rfl dX0_changeSetting_25
set_option maxHeartbeats 4000000 in
set_option maxRecDepth 100000 in
theorem c_X4_copyRow (l : Launch) (D : va_G) (cA cQ : ClassId) (a1 : Nat) (n1 : Nat) (a2 : Nat) (n2 : Nat) (f1 : Nat → Int32) (f2 : Nat → Int32) (o : (Nat → Int32)) (hf : X4_copyRow f1 f2 n1 n2 = some o) : Ctv l yX4_copyRow wsX4_copyRow ({ frames := 1, cells := 0, slots := 0, locals := 60 }) D (TY cA cQ) [.ref a1, .ref a2] (wA2 cA a1 n1 f1 a2 n2 f2) (wA2 cA a1 n1 f1 a2 n2 o) := by
  refine Wk.v (cc := cX4_copyRow) (maxL := 2) (ret := none) (by decide) rfl (Nat.le_of_ble_eq_true rfl) ?_
  intro p e s m below meth c A ls hx hb hr hlocks hml hown hts hK hN hP hD hA hl
  have hown : s.vm.findClass RX4 = some m.cls := hown
  have hS : va_S A s.heap s.heap [] := va_S.rf
  have hl : lv_has ls 2 [(0, .ref a1), (1, .ref a2)] := hl
  have h := hf
  unfold X4_copyRow at h
  refine lv_aload_n hx hb dX4_copyRow_0 rfl (lv_at hl 0 rfl) ?_
  refine lv_iconst (v := (0 : Int32)) hx hb dX4_copyRow_1 (by decide) ?_
  refine lv_aload_n hx hb dX4_copyRow_2 rfl (lv_at hl 1 rfl) ?_
  refine lv_iconst (v := (0 : Int32)) hx hb dX4_copyRow_3 (by decide) ?_
  refine lv_aload_n hx hb dX4_copyRow_4 rfl (lv_at hl 0 rfl) ?_
  refine va_alen hx hb hK hP 0 0 rfl rfl (v := (Int32.ofNat n1)) rfl dX4_copyRow_5 ?_
  refine lv_aload_n hx hb dX4_copyRow_6 rfl (lv_at hl 1 rfl) ?_
  refine va_alen hx hb hK hP 1 0 rfl rfl (v := (Int32.ofNat n2)) rfl dX4_copyRow_7 ?_
  refine va_mmin hx hb (hml.trans hl.1.symm) hown (hts (.methodLink RX4 182 Lib.Math.min.name) (List.mem_of_getElem? (i := 1) rfl)) (hts (.static Lib.Math.min.name) (List.mem_of_getElem? (i := 2) rfl)) (hts (.initialized "java/lang/Math") (List.mem_of_getElem? (i := 3) rfl)) (hts (.code Lib.Math.min.name Lib.Math.min.code 2 (some .int)) (List.mem_of_getElem? (i := 4) rfl)) (Nat.le_of_ble_eq_true rfl) (Nat.le_of_ble_eq_true rfl) (Nat.zero_le _) (Nat.zero_le _) dX4_copyRow_8 ?_
  obtain ⟨g1, eg1, h⟩ := bd_in h
  refine cpR hx hb (hml.trans hl.1.symm) hown (hts (.methodLink RX4 187 arraycopyName) (List.mem_of_getElem? (i := 5) rfl)) (hts (.native arraycopyName) (List.mem_of_getElem? (i := 6) rfl)) (hts (.static arraycopyName) (List.mem_of_getElem? (i := 7) rfl)) (hts (.initialized "java/lang/System") (List.mem_of_getElem? (i := 8) rfl)) hK hP hD hS 0 1 0 0 rfl rfl rfl rfl eg1 (ws' := (wA2 cA a1 n1 f1 a2 n2 g1)) rfl (Nat.le_of_ble_eq_true rfl) (Nat.le_of_ble_eq_true rfl) dX4_copyRow_11 (fun H locs hP hD hS => ?_)
  cases h
  exact endV hx hb hr hlocks hP hS dX4_copyRow_14
end
